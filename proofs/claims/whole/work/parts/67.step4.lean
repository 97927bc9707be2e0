/-! ===== the library, calls ===== -/
theorem nfw5 : nativeFrameWords "java/lang/System" "arraycopy" 5 ≤ 100 := by decide +kernel
section MS4
variable {v : mV} {f : mFF} {GW NW : List Cond} {μ : mM} {d m pc : Nat} {L st : List Value} {σ : mS} {r : Value × mS} {call : Nat → List Value → mS → mR} {K : mK} {D : List Nat} {c : Value} {Zs : (Nat → Prop) → State → Heap → Prop}
set_option maxHeartbeats 4000000 in
set_option maxRecDepth 100000 in
theorem s_lib {i : Nat} (hC : mCx v f GW μ d m) (hW : mHW (vTT v) (vIds v)) (hDd : ∀ τ, va_D (vA v) (vW v τ)) (hL : L.length = μ.2.2.1 m) (hK : ∀ pc' L' st' τ, K pc' L' st' τ = some r → L'.length = μ.2.2.1 m → mKeep σ τ → mNx v f pc' L' st' τ) (hd : decode (μ.2.1 m) pc = .ok (.invokestatic i, 3)) (hl : mLO GW (μ.1 m) i D) (h : mOut call K (mStep (vTT v) pc (.invokestatic i) D c L st σ) = some r) : mNx v f pc L st σ := by
  obtain ⟨hx, hb, hml, hown, hts, hKt, hfr, hlo, hce, hsl⟩ := hC
  obtain ⟨k, hk, hl⟩ := hl
  simp only [mStep, mInv] at h
  rw [hk, show Nat.blt (1000 + k) 1000 = false by rw [Bool.eq_false_iff]; intro q; have := Nat.blt_eq.mp q; omega, Nat.add_sub_cancel_left] at h
  simp only [cond_false] at h
  cases hcat : Nat.ble (mCat st) 100 with
  | false => rw [hcat] at h; exact mNone h
  | true =>
    rw [hcat] at h
    simp only [cond_true] at h
    replace hcat := Nat.le_of_ble_eq_true hcat
    clear hk
    rcases k with _ | _ | _ | _ | k
    · simp only [mLib, Nat.zero_add, Nat.reduceAdd] at h hl
      split at h
      · rename_i y x r'
        have hc2 : mCat r' ≤ 100 := by simp only [mCat, Value.category] at hcat; omega
        exact fun H locs ls h1 h2 h3 => va_mmax hx hb (by rw [hml, ← hL]; exact h1.1.symm) hown (hts _ hl.1) (hts _ hl.2.1) (hts _ hl.2.2.1) (hts _ hl.2.2.2) (by omega) (by rw [mCat_sum]; omega) hce hsl hd (hK _ _ _ _ h hL (mKeep.rf σ) H locs ls h1 h2 h3)
      · exact mNone h
    · simp only [mLib, Nat.zero_add, Nat.reduceAdd] at h hl
      split at h
      · rename_i y x r'
        have hc2 : mCat r' ≤ 100 := by simp only [mCat, Value.category] at hcat; omega
        exact fun H locs ls h1 h2 h3 => va_mmin hx hb (by rw [hml, ← hL]; exact h1.1.symm) hown (hts _ hl.1) (hts _ hl.2.1) (hts _ hl.2.2.1) (hts _ hl.2.2.2) (by omega) (by rw [mCat_sum]; omega) hce hsl hd (hK _ _ _ _ h hL (mKeep.rf σ) H locs ls h1 h2 h3)
      · exact mNone h
    · simp only [mLib, Nat.zero_add, Nat.reduceAdd] at h hl
      split at h
      · rename_i x r'
        have hc2 : mCat r' ≤ 100 := by simp only [mCat, Value.category] at hcat; omega
        exact fun H locs ls h1 h2 h3 => va_mabs_long hx hb (by rw [hml, ← hL]; exact h1.1.symm) hown (hts _ hl.1) (hts _ hl.2.1) (hts _ hl.2.2.1) (hts _ hl.2.2.2) (by omega) (by rw [mCat_sum]; omega) hce hsl hd (hK _ _ _ _ h hL (mKeep.rf σ) H locs ls h1 h2 h3)
      · exact mNone h
    · simp only [mLib, Nat.zero_add, Nat.reduceAdd] at h hl
      split at h
      · rename_i n dp b sp a r'
        have hc2 : mCat r' ≤ 100 := by simp only [mCat, Value.category] at hcat; omega
        cases hb2 : (Nat.beq ((vTT v).2.2.1 a) 1 && (Nat.beq ((vTT v).2.2.1 b) 1 && (Nat.blt b 300 && Nat.blt a 300))) with
        | true =>
          rw [hb2] at h
          simp only [cond_true] at h
          simp only [Bool.and_eq_true] at hb2
          obtain ⟨ka, kb, lb, la⟩ := hb2
          have ka := beqT ka
          have kb := beqT kb
          obtain ⟨hf, h⟩ := mOutC h
          unfold mFit at hf
          simp only [Bool.and_eq_true, Bool.not_eq_true', decide_eq_false_iff_not] at hf
          obtain ⟨f1, f2, f3, f4, f5⟩ := hf
          have f4 := Nat.le_of_ble_eq_true f4
          have f5 := Nat.le_of_ble_eq_true f5
          obtain ⟨ia, ha⟩ := mArr hW ka (by omega) (by omega) (fun _ => Nat.blt_eq.mp la)
          obtain ⟨ib, hb'⟩ := mArr hW kb (by omega) (by omega) (fun _ => Nat.blt_eq.mp lb)
          obtain ⟨qa, hqa⟩ := List.getElem?_of_mem ia
          obtain ⟨qb, hqb⟩ := List.getElem?_of_mem ib
          intro H locs ls h1 h2 h3
          have ea := mWl_at (w := vTT v) (ft := vFt v) (nf := vNf v) (cA := vCa v) (adr := vAdr v) σ hqa
          have eb := mWl_at (w := vTT v) (ft := vFt v) (nf := vNf v) (cA := vCa v) (adr := vAdr v) σ hqb
          rw [mEl_1 ka] at ea
          rw [mEl_1 kb] at eb
          have hset := mWl_set (ft := vFt v) (nf := vNf v) (cA := vCa v) (adr := vAdr v) hW (σ := σ) (τ := mCpI σ a b sp.toNatClampNeg dp.toNatClampNeg n.toNatClampNeg) hqb (fun k _ hk => mEl_cpI hW σ a (by omega) _ _ _ k hk)
          rw [mEl_1 kb, hW.2.2.2.2.1 (mCpI σ a b sp.toNatClampNeg dp.toNatClampNeg n.toNatClampNeg) σ b (mKeep.cpI σ a hb' _ _ _).1, show (mCpI σ a b sp.toNatClampNeg dp.toNatClampNeg n.toNatClampNeg).1 b = va_cpy (σ.1 a) (σ.1 b) sp.toNatClampNeg dp.toNatClampNeg n.toNatClampNeg by simp [mCpI]] at hset
          refine va_copyi hx hb (by rw [hml, ← hL]; exact h1.1.symm) hown (hts _ hl.1) (hts _ hl.2.1) (hts _ hl.2.2.1) (hts _ hl.2.2.2) hKt h2 (hDd σ) h3 qa qb 1 1 ea eb rfl rfl rfl f1 f2 f3 f4 f5 (fun _ _ => rfl) (by omega) (by rw [mCat_sum]; have := nfw5; omega) hd (fun H1 locs1 hP1 hD1 hS1 => ?_)
          rw [← hset] at hP1
          exact hK _ _ _ _ h hL (mKeep.cpI σ a hb' _ _ _) H1 locs1 ls h1 hP1 hS1
        | false =>
          rw [hb2] at h
          simp only [cond_false] at h
          cases hb3 : (Nat.beq ((vTT v).2.2.1 a) 4 && Nat.beq ((vTT v).2.2.1 b) 4) with
          | false => rw [hb3] at h; exact mNone h
          | true =>
            rw [hb3] at h
            simp only [cond_true] at h
            simp only [Bool.and_eq_true] at hb3
            obtain ⟨ka, kb⟩ := hb3
            have ka := beqT ka
            have kb := beqT kb
            obtain ⟨hf, h⟩ := mOutC h
            unfold mFit at hf
            simp only [Bool.and_eq_true, Bool.not_eq_true', decide_eq_false_iff_not] at hf
            obtain ⟨f1, f2, f3, f4, f5⟩ := hf
            have f4 := Nat.le_of_ble_eq_true f4
            have f5 := Nat.le_of_ble_eq_true f5
            obtain ⟨ia, ha⟩ := mArr hW ka (by omega) (by omega) (fun q => by omega)
            obtain ⟨ib, hb'⟩ := mArr hW kb (by omega) (by omega) (fun q => by omega)
            obtain ⟨qa, hqa⟩ := List.getElem?_of_mem ia
            obtain ⟨qb, hqb⟩ := List.getElem?_of_mem ib
            intro H locs ls h1 h2 h3
            have ea := mWl_at (w := vTT v) (ft := vFt v) (nf := vNf v) (cA := vCa v) (adr := vAdr v) σ hqa
            have eb := mWl_at (w := vTT v) (ft := vFt v) (nf := vNf v) (cA := vCa v) (adr := vAdr v) σ hqb
            rw [mEl_4 ka] at ea
            rw [mEl_4 kb] at eb
            have hset := mWl_set (ft := vFt v) (nf := vNf v) (cA := vCa v) (adr := vAdr v) hW (σ := σ) (τ := mCpJ σ a b sp.toNatClampNeg dp.toNatClampNeg n.toNatClampNeg) hqb (fun k _ hk => mEl_cpJ hW σ a b _ _ _ k hk)
            rw [mEl_4 kb, hW.2.2.2.2.1 (mCpJ σ a b sp.toNatClampNeg dp.toNatClampNeg n.toNatClampNeg) σ b rfl, show (mCpJ σ a b sp.toNatClampNeg dp.toNatClampNeg n.toNatClampNeg).2 b = va_cpy (σ.2 a) (σ.2 b) sp.toNatClampNeg dp.toNatClampNeg n.toNatClampNeg by simp [mCpJ]] at hset
            refine va_copyl hx hb (by rw [hml, ← hL]; exact h1.1.symm) hown (hts _ hl.1) (hts _ hl.2.1) (hts _ hl.2.2.1) (hts _ hl.2.2.2) hKt h2 (hDd σ) h3 qa qb 4 4 ea eb rfl rfl rfl f1 f2 f3 f4 f5 (fun _ _ => rfl) (by omega) (by rw [mCat_sum]; have := nfw5; omega) hd (fun H1 locs1 hP1 hD1 hS1 => ?_)
            rw [← hset] at hP1
            exact hK _ _ _ _ h hL (mKeep.cpJ σ a b _ _ _) H1 locs1 ls h1 hP1 hS1
      · exact mNone h
    · exact hl.elim
theorem mArgs_app : ∀ (n : Nat) (st acc : List Value), (mArgs n st acc).length = n + acc.length → ∃ a : List Value, mArgs n st acc = a ++ acc ∧ a.length = n ∧ st = a.reverse ++ mDrop n st
  | 0, st, acc, _ => ⟨[], rfl, rfl, rfl⟩
  | n + 1, [], acc, h => by
    unfold mArgs at h
    omega
  | n + 1, x :: st, acc, h => by
    unfold mArgs at h ⊢
    unfold mDrop
    obtain ⟨a, h1, h2, h3⟩ := mArgs_app n st (x :: acc) (by rw [h]; simp; omega)
    refine ⟨a ++ [x], by rw [h1]; simp, by simp [h2], ?_⟩
    simp only [List.reverse_append, List.reverse_cons, List.reverse_nil, List.nil_append, List.singleton_append, List.cons_append]
    rw [← h3]
theorem mArgs_st {n : Nat} {st : List Value} (h : (mArgs n st []).length = n) : st = (mArgs n st []).reverse ++ mDrop n st := by
  obtain ⟨a, h1, h2, h3⟩ := mArgs_app n st [] (by simpa using h)
  rw [List.append_nil] at h1
  rw [h1]
  exact h3
end MS4
