/-! ===== lengths, constants, the library, ends ===== -/
section MS3
variable {v : mV} {f : mFF} {GW NW : List Cond} {μ : mM} {d m pc : Nat} {L st : List Value} {σ : mS} {r : Value × mS} {call : Nat → List Value → mS → mR} {K : mK} {D : List Nat} {c : Value} {Zs : (Nat → Prop) → State → Heap → Prop}
set_option maxHeartbeats 4000000 in
set_option maxRecDepth 100000 in
theorem s_arraylength (hC : mCx v f GW μ d m) (hW : mHW (vTT v) (vIds v)) (hZ : mZt v Zs σ (fSS f) (fSS f).heap) (hL : L.length = μ.2.2.1 m) (hK : ∀ pc' L' st' τ, K pc' L' st' τ = some r → L'.length = μ.2.2.1 m → mKeep σ τ → mNx v f pc' L' st' τ) (hd : decode (μ.2.1 m) pc = .ok (.arraylength, 1)) (h : mOut call K (mStep (vTT v) pc .arraylength D c L st σ) = some r) : mNx v f pc L st σ := by
  obtain ⟨hx, hb, hml, hown, hts, hKt, -, -, -, -⟩ := hC
  simp only [mStep] at h
  split at h
  · rename_i a r'
    cases hb2 : (Nat.beq ((vTT v).2.2.1 a) 0 || Nat.beq ((vTT v).2.2.1 a) 6) with
    | true => rw [hb2] at h; exact mNone h
    | false =>
      rw [hb2] at h
      simp only [cond_false] at h
      rw [Bool.or_eq_false_iff] at hb2
      have n0 : (vTT v).2.2.1 a ≠ 0 := fun q => by rw [q] at hb2; exact absurd hb2.1 (by decide)
      have n6 : (vTT v).2.2.1 a ≠ 6 := fun q => by rw [q] at hb2; exact absurd hb2.2 (by decide)
      intro H locs ls h1 h2 h3
      by_cases h300 : a < 300
      · have hk : (vTT v).2.2.1 a ≤ 5 ∨ 6 < (vTT v).2.2.1 a := by omega
        rcases hk with hk | hk
        · obtain ⟨hid, hlt⟩ := hW.2.1 a n0 hk h300
          obtain ⟨q0, hq0⟩ := List.getElem?_of_mem hid
          have he := mWl_at (w := vTT v) (ft := vFt v) (nf := vNf v) (cA := vCa v) (adr := vAdr v) σ hq0
          rcases (show (vTT v).2.2.1 a = 1 ∨ (vTT v).2.2.1 a = 2 ∨ (vTT v).2.2.1 a = 3 ∨ (vTT v).2.2.1 a = 4 ∨ (vTT v).2.2.1 a = 5 by omega) with ha | ha | ha | ha | ha
          · rw [mEl_1 ha] at he
            exact va_alen hx hb hKt h2 q0 1 he rfl rfl hd (hK _ _ _ _ h hL (mKeep.rf σ) H locs ls h1 h2 h3)
          · rw [mEl_2 ha] at he
            exact va_alen hx hb hKt h2 q0 2 he rfl rfl hd (hK _ _ _ _ h hL (mKeep.rf σ) H locs ls h1 h2 h3)
          · rw [mEl_3 ha] at he
            exact va_alen hx hb hKt h2 q0 3 he rfl rfl hd (hK _ _ _ _ h hL (mKeep.rf σ) H locs ls h1 h2 h3)
          · rw [mEl_4 ha] at he
            exact va_alen hx hb hKt h2 q0 4 he rfl rfl hd (hK _ _ _ _ h hL (mKeep.rf σ) H locs ls h1 h2 h3)
          · rw [mEl_5 ha] at he
            by_cases h17 : a = 17
            · rw [if_pos h17] at he
              exact va_alen hx hb hKt h2 q0 5 he rfl rfl hd (hK _ _ _ _ h hL (mKeep.rf σ) H locs ls h1 h2 h3)
            · rw [if_neg h17] at he
              exact va_alen hx hb hKt h2 q0 6 he rfl rfl hd (hK _ _ _ _ h hL (mKeep.rf σ) H locs ls h1 h2 h3)
        · exact absurd (hW.2.2.2.2.2.2.2.1 a) (by omega)
      · rcases hW.2.2.1 a n0 h300 with q | ⟨-, rfl | rfl⟩
        · exact absurd q n6
        · have hg := hK _ _ _ _ h hL (mKeep.rf σ) H locs ls h1 h2 h3
          simp only [hW.2.2.2.2.2.1 σ] at hg
          exact va_slen hx hb hZ.1.1 hZ.1.2.1 hZ.1.2.2 h3 hd hg
        · have hg := hK _ _ _ _ h hL (mKeep.rf σ) H locs ls h1 h2 h3
          simp only [hW.2.2.2.2.2.2.1 σ] at hg
          exact va_tlen hx hb hZ.2.1.2 h3 rfl hd hg
  · exact mNone h
theorem s_ldcw {i : Nat} (hC : mCx v f GW μ d m) (hL : L.length = μ.2.2.1 m) (hK : ∀ pc' L' st' τ, K pc' L' st' τ = some r → L'.length = μ.2.2.1 m → mKeep σ τ → mNx v f pc' L' st' τ) (hd : decode (μ.2.1 m) pc = .ok (.ldc_w i, 3) ∧ (match c with | .int x => Cond.constant (μ.1 m) i x ∈ GW | _ => False)) (h : mOut call K (mStep (vTT v) pc (.ldc_w i) D c L st σ) = some r) : mNx v f pc L st σ := by
  obtain ⟨hx, hb, hml, hown, hts, hKt, -, -, -, -⟩ := hC
  obtain ⟨hd, hc⟩ := hd
  cases c with
  | int x => exact fun H locs ls h1 h2 h3 => lv_ldcw hx hb hown (hts _ hc) hd (hK _ _ _ _ h hL (mKeep.rf σ) H locs ls h1 h2 h3)
  | _ => exact hc.elim
theorem s_ldc2w {i : Nat} (hC : mCx v f GW μ d m) (hL : L.length = μ.2.2.1 m) (hK : ∀ pc' L' st' τ, K pc' L' st' τ = some r → L'.length = μ.2.2.1 m → mKeep σ τ → mNx v f pc' L' st' τ) (hd : decode (μ.2.1 m) pc = .ok (.ldc2_w i, 3) ∧ (match c with | .long x => Cond.constantLong (μ.1 m) i x ∈ GW | _ => False)) (h : mOut call K (mStep (vTT v) pc (.ldc2_w i) D c L st σ) = some r) : mNx v f pc L st σ := by
  obtain ⟨hx, hb, hml, hown, hts, hKt, -, -, -, -⟩ := hC
  obtain ⟨hd, hc⟩ := hd
  cases c with
  | long x => exact fun H locs ls h1 h2 h3 => lv_ldc2 hx hb hown (hts _ hc) hd (hK _ _ _ _ h hL (mKeep.rf σ) H locs ls h1 h2 h3)
  | _ => exact hc.elim
/-- a text's constant: what its row must be -/
def mSO (v : mV) (Zs : (Nat → Prop) → State → Heap → Prop) (SO : String → Nat → Nat → Prop) : Prop := ∀ (own : String) (i k : Nat), SO own i k → ∀ (f : mFF) (cc : ByteArray) (pc : Nat) (H : Heap) (locs : List Loc) (ls : Array Slot) (rest : List Value), (fP f).tables.exec = Jvm.exec → (fC f).code = cc → (fSS f).vm.findClass own = some (fM f).cls → Zs (vA v) (fSS f) (fSS f).heap → decode cc pc = .ok (.ldc i, 2) → va_S (vA v) (fSS f).heap H locs → fW f H locs (F0 (fM f) (pc + 2) ls (.ref (vAdr v k) :: rest)) → fW f H locs (F0 (fM f) pc ls rest)
theorem s_ldc {i : Nat} {SO : String → Nat → Nat → Prop} (hSO : mSO v Zs SO) (hC : mCx v f GW μ d m) (hZ : mZt v Zs σ (fSS f) (fSS f).heap) (hL : L.length = μ.2.2.1 m) (hK : ∀ pc' L' st' τ, K pc' L' st' τ = some r → L'.length = μ.2.2.1 m → mKeep σ τ → mNx v f pc' L' st' τ) (hd : decode (μ.2.1 m) pc = .ok (.ldc i, 2) ∧ (match c with | .int x => Cond.constant (μ.1 m) i x ∈ GW | .ref k => SO (μ.1 m) i k | _ => False)) (h : mOut call K (mStep (vTT v) pc (.ldc i) D c L st σ) = some r) : mNx v f pc L st σ := by
  obtain ⟨hx, hb, hml, hown, hts, hKt, -, -, -, -⟩ := hC
  obtain ⟨hd, hc⟩ := hd
  cases c with
  | int x => exact fun H locs ls h1 h2 h3 => lv_ldc hx hb hown (hts _ hc) hd (hK _ _ _ _ h hL (mKeep.rf σ) H locs ls h1 h2 h3)
  | ref k => exact fun H locs ls h1 h2 h3 => hSO _ _ _ hc f _ pc H locs ls _ hx hb hown hZ.2.2 hd h3 (hK _ _ _ _ h hL (mKeep.rf σ) H locs ls h1 h2 h3)
  | _ => exact hc.elim
theorem s_getstatic {i : Nat} (hC : mCx v f GW μ d m) (hZ : mZt v Zs σ (fSS f) (fSS f).heap) (hL : L.length = μ.2.2.1 m) (hK : ∀ pc' L' st' τ, K pc' L' st' τ = some r → L'.length = μ.2.2.1 m → mKeep σ τ → mNx v f pc' L' st' τ) (hd : decode (μ.2.1 m) pc = .ok (.getstatic i, 3) ∧ c = .ref 301 ∧ Cond.fieldLink (μ.1 m) i "EnemyLetters" "FACTORIALS" "[I" ∈ GW) (h : mOut call K (mStep (vTT v) pc (.getstatic i) D c L st σ) = some r) : mNx v f pc L st σ := by
  obtain ⟨hx, hb, hml, hown, hts, hKt, -, -, -, -⟩ := hC
  obtain ⟨hd, rfl, hl⟩ := hd
  exact fun H locs ls h1 h2 h3 => va_gets hx hb hZ.2.1.1 h3 hown (hts _ hl) (fun x q => q) hd (hK _ _ _ _ h hL (mKeep.rf σ) H locs ls h1 h2 h3)
theorem mCat_sum (adr : Nat → Nat) : ∀ (l : List Value), ((l.map (rv adr)).map fun v => v.category).sum = mCat l
  | [] => rfl
  | v :: l => by
    simp only [List.map_cons, List.sum_cons, mCat, rv_cat]
    rw [← mCat_sum adr l]
theorem s_ret {rt : Option FieldType} (hd : decode (μ.2.1 m) pc = .ok (.ireturn, 1) ∧ (mNth D 0 = 0 ∧ μ.2.2.2.1 m = some .int ∨ mNth D 0 ≠ 0 ∧ μ.2.2.2.1 m = some .boolean)) (hR : mRt v f (μ.2.1 m) (μ.2.2.2.1 m) r) (h : mOut call K (mStep (vTT v) pc .ireturn D c L st σ) = some r) : mNx v f pc L st σ := by
  obtain ⟨hd, hr⟩ := hd
  simp only [mStep] at h
  split at h
  · rename_i x
    rcases hr with ⟨h0, ht⟩ | ⟨h0, ht⟩
    · rw [h0] at h
      have h : some (Value.int x, σ) = some r := h
      cases h
      exact fun H locs ls h1 h2 h3 => hR pc H locs ls h2 h3 hd (Or.inl ht)
    · have hb : Nat.beq (mNth D 0) 0 = false := by
        cases hq : Nat.beq (mNth D 0) 0 with
        | false => rfl
        | true => exact absurd (beqT hq) h0
      rw [hb] at h
      simp only [cond_false] at h
      cases hz : mZ x with
      | false => rw [hz] at h; exact mNone h
      | true =>
        rw [hz] at h
        have h : some (Value.int x, σ) = some r := h
        cases h
        exact fun H locs ls h1 h2 h3 => hR pc H locs ls h2 h3 hd (Or.inr ⟨ht, hz⟩)
  · exact mNone h
theorem s_lret (hd : decode (μ.2.1 m) pc = .ok (.lreturn, 1) ∧ μ.2.2.2.1 m = some .long) (hR : mRt v f (μ.2.1 m) (μ.2.2.2.1 m) r) (h : mOut call K (mStep (vTT v) pc .lreturn D c L st σ) = some r) : mNx v f pc L st σ := by
  simp only [mStep] at h
  split at h
  · rename_i x
    have h : some (Value.long x, σ) = some r := h
    cases h
    exact fun H locs ls h1 h2 h3 => hR pc H locs ls h2 h3 hd.1 hd.2
  · exact mNone h
theorem s_vret (hd : decode (μ.2.1 m) pc = .ok (.return_, 1) ∧ μ.2.2.2.1 m = none) (hR : mRt v f (μ.2.1 m) (μ.2.2.2.1 m) r) (h : mOut call K (mStep (vTT v) pc .return_ D c L st σ) = some r) : mNx v f pc L st σ := by
  simp only [mStep] at h
  split at h
  · have h : some (Value.null, σ) = some r := h
    cases h
    exact fun H locs ls h1 h2 h3 => hR pc H locs ls h2 h3 hd.1 hd.2
  · exact mNone h
end MS3
