/-! ===== fields and arrays ===== -/
section MS2
variable {v : mV} {f : mFF} {GW NW : List Cond} {μ : mM} {d m pc : Nat} {L st : List Value} {σ : mS} {r : Value × mS} {call : Nat → List Value → mS → mR} {K : mK} {D : List Nat} {c : Value} {Zs : (Nat → Prop) → State → Heap → Prop}
set_option maxHeartbeats 4000000 in
set_option maxRecDepth 100000 in
theorem s_getfield {i : Nat} (hC : mCx v f GW μ d m) (hW : mHW (vTT v) (vIds v)) (hL : L.length = μ.2.2.1 m) (hK : ∀ pc' L' st' τ, K pc' L' st' τ = some r → L'.length = μ.2.2.1 m → mKeep σ τ → mNx v f pc' L' st' τ) (hd : decode (μ.2.1 m) pc = .ok (.getfield i, 3) ∧ mFO GW (vCl v) (vNf v) (vFt v) (μ.1 m) i (mNth D 0) (mNth D 1) (mNth D 2)) (h : mOut call K (mStep (vTT v) pc (.getfield i) D c L st σ) = some r) : mNx v f pc L st σ := by
  obtain ⟨hx, hb, hml, hown, hts, hKt, -, -, -, -⟩ := hC
  obtain ⟨hd, C, T, N, hci, hcl, hnf, hk, hin, hlk, hft⟩ := hd
  simp only [mStep] at h
  split at h
  · rename_i o r'
    cases hb2 : Nat.beq ((vTT v).1 o) (mNth D 0) with
    | false => rw [hb2] at h; exact mNone h
    | true =>
      have ho : (vTT v).1 o = mNth D 0 := Nat.eq_of_beq_eq_true hb2
      rw [hb2] at h
      simp only [cond_true] at h
      obtain ⟨hid, hz, -⟩ := hW.1 o (by rw [ho]; exact hci)
      obtain ⟨q0, hq0⟩ := List.getElem?_of_mem hid
      intro H locs ls h1 h2 h3
      have he := mWl_at (w := vTT v) (ft := vFt v) (nf := vNf v) (cA := vCa v) (adr := vAdr v) σ hq0
      rw [mEl_obj hz, ho] at he
      have hfs := mFs_at (w := vTT v) (ft := vFt v) (nf := vNf v) (adr := vAdr v) σ o (mNth D 1) (by rw [ho, hnf]; exact hk)
      rw [ho, hft] at hfs
      generalize mNth D 2 = t at h hfs
      match t, h, hfs with
      | 0, h, hfs => exact va_get hx hb hts hin hown hKt h2 q0 he hcl (mNth D 1) hk (hts _ hlk) (fun x q => q) hfs hd (hK _ _ _ _ h hL (mKeep.rf σ) H locs ls h1 h2 h3)
      | 1, h, hfs => exact va_get hx hb hts hin hown hKt h2 q0 he hcl (mNth D 1) hk (hts _ hlk) (fun x q => q) hfs hd (hK _ _ _ _ h hL (mKeep.rf σ) H locs ls h1 h2 h3)
      | t + 2, h, hfs => exact va_get hx hb hts hin hown hKt h2 q0 he hcl (mNth D 1) hk (hts _ hlk) (fun x q => q) hfs hd (hK _ _ _ _ h hL (mKeep.rf σ) H locs ls h1 h2 h3)
  · exact mNone h
set_option maxHeartbeats 4000000 in
set_option maxRecDepth 100000 in
theorem s_putfield {i : Nat} (hC : mCx v f GW μ d m) (hW : mHW (vTT v) (vIds v)) (hDd : ∀ τ, va_D (vA v) (vW v τ)) (hL : L.length = μ.2.2.1 m) (hK : ∀ pc' L' st' τ, K pc' L' st' τ = some r → L'.length = μ.2.2.1 m → mKeep σ τ → mNx v f pc' L' st' τ) (hd : decode (μ.2.1 m) pc = .ok (.putfield i, 3) ∧ mPO GW (vCl v) (vNf v) (vFt v) (μ.1 m) i (mNth D 0) (mNth D 1) (mNth D 2)) (h : mOut call K (mStep (vTT v) pc (.putfield i) D c L st σ) = some r) : mNx v f pc L st σ := by
  obtain ⟨hx, hb, hml, hown, hts, hKt, -, -, -, -⟩ := hC
  obtain ⟨hd, C, T, N, ty0, hci, hcl, hnf, hk, hin, hlk, hft, hty, hnm, hfin, hty0⟩ := hd
  simp only [mStep] at h
  split at h
  · rename_i x o r'
    cases hb2 : (Nat.beq ((vTT v).1 o) (mNth D 0) && Nat.beq (mNth D 2) 0) with
    | false => rw [hb2] at h; exact mNone h
    | true =>
      rw [hb2] at h
      simp only [cond_true] at h
      rw [Bool.and_eq_true] at hb2
      have ho : (vTT v).1 o = mNth D 0 := Nat.eq_of_beq_eq_true hb2.1
      have hd2 : mNth D 2 = 0 := Nat.eq_of_beq_eq_true hb2.2
      rw [hd2] at hft hty0
      obtain ⟨hid, hz, hlt⟩ := hW.1 o (by rw [ho]; exact hci)
      obtain ⟨q0, hq0⟩ := List.getElem?_of_mem hid
      intro H locs ls h1 h2 h3
      have he := mWl_at (w := vTT v) (ft := vFt v) (nf := vNf v) (cA := vCa v) (adr := vAdr v) σ hq0
      rw [mEl_obj hz, ho] at he
      have hset := mWl_set (ft := vFt v) (nf := vNf v) (cA := vCa v) (adr := vAdr v) hW (σ := σ) (τ := mUpI σ o (mNth D 1) x) hq0 (fun j _ hj => mEl_upI hW σ (by omega) (mNth D 1) x j hj)
      rw [mEl_obj hz, mFs_upI σ o (mNth D 1) x (by rw [ho, hnf]; exact hk) (by rw [ho]; exact hft), ho] at hset
      refine va_put hx hb hts hin ty0 hty hnm hown hKt h2 (hDd σ) h3 q0 he hcl (mNth D 1) hk (hts _ hlk) (fun x q => q) hfin (ty := .int) (v := .int x) (by rw [hty _ hk, hty0]; rfl) rfl rfl (by rw [mFs_len, ho, hnf]; exact hk) hd (fun H1 locs1 hP1 hD1 hS1 => ?_)
      rw [← hset] at hP1
      exact hK _ _ _ _ h hL (mKeep.upI σ hlt _ _) H1 locs1 ls h1 hP1 hS1
  · rename_i x o r'
    cases hb2 : (Nat.beq ((vTT v).1 o) (mNth D 0) && Nat.beq (mNth D 2) 1) with
    | false => rw [hb2] at h; exact mNone h
    | true =>
      rw [hb2] at h
      simp only [cond_true] at h
      rw [Bool.and_eq_true] at hb2
      have ho : (vTT v).1 o = mNth D 0 := Nat.eq_of_beq_eq_true hb2.1
      have hd2 : mNth D 2 = 1 := Nat.eq_of_beq_eq_true hb2.2
      rw [hd2] at hft hty0
      obtain ⟨hid, hz, hlt⟩ := hW.1 o (by rw [ho]; exact hci)
      obtain ⟨q0, hq0⟩ := List.getElem?_of_mem hid
      intro H locs ls h1 h2 h3
      have he := mWl_at (w := vTT v) (ft := vFt v) (nf := vNf v) (cA := vCa v) (adr := vAdr v) σ hq0
      rw [mEl_obj hz, ho] at he
      have hset := mWl_set (ft := vFt v) (nf := vNf v) (cA := vCa v) (adr := vAdr v) hW (σ := σ) (τ := mUpJ σ o (mNth D 1) x) hq0 (fun j _ hj => mEl_upJ hW σ o (mNth D 1) x j hj)
      rw [mEl_obj hz, mFs_upJ σ o (mNth D 1) x (by rw [ho, hnf]; exact hk) (by rw [ho]; exact hft), ho] at hset
      refine va_put hx hb hts hin ty0 hty hnm hown hKt h2 (hDd σ) h3 q0 he hcl (mNth D 1) hk (hts _ hlk) (fun x q => q) hfin (ty := .long) (v := .long x) (by rw [hty _ hk, hty0]; rfl) rfl rfl (by rw [mFs_len, ho, hnf]; exact hk) hd (fun H1 locs1 hP1 hD1 hS1 => ?_)
      rw [← hset] at hP1
      exact hK _ _ _ _ h hL (mKeep.upJ σ _ _ _) H1 locs1 ls h1 hP1 hS1
  · exact mNone h
theorem va_aldx {p : Program} {l : Launch} {e : Env} {R : Room} {s : State} {m : MethodId} {args : Array Value} {below : List Frame} {meth : Method} {c : Code} {H : Heap} {locs : List Loc} {cells slots : Nat} {Q : State → Prop} {cc : ByteArray} {pc : Nat} {ls : Array Slot} {rest : List Value} {D : va_G} {cl : List vw_C} {a : Nat} {tys : List (ClassId × FieldType)} {ws : va_W}
    (hexec : p.tables.exec = Jvm.exec) (hb : c.code = cc) (hK : va_K D cl tys s) (hP : va_P D cl ws H) (q0 t0 : Nat) {cA : ClassId} {ty : FieldType} {n : Nat} {f : Nat → Option Nat} (ha : ws[q0]? = some (a, .inl (cA, n, .inr (.inr (.inr (.inr f)))))) (ht : tys[t0]? = some (cA, .array ty)) {i : Int32} (hin : vp_in i n) (hdg : decode cc pc = .ok (.aaload, 1))
    (kk : W p l e R s m args below meth c H locs cells slots Q (F0 m (pc + 1) ls (va_rf (f i.toNatClampNeg) :: rest))) : W p l e R s m args below meth c H locs cells slots Q (F0 m pc ls (.int i :: .ref a :: rest)) := by
  have hlt : i.toNatClampNeg < n := Nat.not_le.mp fun q => hin (Or.inr q)
  exact W.aald (v := va_rf (f i.toNatClampNeg)) (ty := .array ty) hexec hb (hP q0 _ ha) ((hK.2 t0 _ ht).1 n (fun j => va_rf (f j))) rfl (fun q => by cases q) (by show ¬ (i < 0 ∨ (arrV _ _ _).slots.size ≤ _); rw [arrV_size]; exact hin) (by show (arrV _ _ _).slots[_]? = _; rw [arrV_read _ _ hlt]) rfl rfl hdg kk
theorem mOutC {b : Bool} {pc' : Nat} {L' st' : List Value} {τ : mS} (h : mOut call K (oC b pc' L' st' τ) = some r) : b = true ∧ K pc' L' st' τ = some r := by
  cases b
  · exact mNone h
  · exact ⟨rfl, h⟩
theorem beqT {a b : Nat} (h : Nat.beq a b = true) : a = b := Nat.eq_of_beq_eq_true h
/-- an array of the world, by its kind -/
theorem mArr (hW : mHW (vTT v) (vIds v)) {a k : Nat} (ha : (vTT v).2.2.1 a = k) (hk : k ≠ 0) (hk5 : k ≤ 5) (hk1 : k = 1 → a < 300) : a ∈ vIds v ∧ a < 299 := by
  by_cases h3 : a < 300
  · exact hW.2.1 a (by rw [ha]; exact hk) (by rw [ha]; exact hk5) h3
  · rcases hW.2.2.1 a (by rw [ha]; exact hk) h3 with q | ⟨q, -⟩
    · omega
    · exact absurd (hk1 (by omega)) h3
set_option maxHeartbeats 4000000 in
set_option maxRecDepth 100000 in
theorem s_iaload (hC : mCx v f GW μ d m) (hW : mHW (vTT v) (vIds v)) (hZ : mZt v Zs σ (fSS f) (fSS f).heap) (hL : L.length = μ.2.2.1 m) (hK : ∀ pc' L' st' τ, K pc' L' st' τ = some r → L'.length = μ.2.2.1 m → mKeep σ τ → mNx v f pc' L' st' τ) (hd : decode (μ.2.1 m) pc = .ok (.iaload, 1)) (h : mOut call K (mStep (vTT v) pc .iaload D c L st σ) = some r) : mNx v f pc L st σ := by
  obtain ⟨hx, hb, hml, hown, hts, hKt, -, -, -, -⟩ := hC
  simp only [mStep] at h
  split at h
  · rename_i j a r'
    cases hb2 : Nat.beq ((vTT v).2.2.1 a) 1 with
    | false => rw [hb2] at h; exact mNone h
    | true =>
      have ha := beqT hb2
      rw [hb2] at h
      simp only [cond_true] at h
      obtain ⟨hi, h⟩ := mOutC h
      have hvp := mIn_vp hi
      intro H locs ls h1 h2 h3
      by_cases h300 : a < 300
      · obtain ⟨hid, hlt⟩ := mArr hW ha (by omega) (by omega) (fun _ => h300)
        obtain ⟨q0, hq0⟩ := List.getElem?_of_mem hid
        have he := mWl_at (w := vTT v) (ft := vFt v) (nf := vNf v) (cA := vCa v) (adr := vAdr v) σ hq0
        rw [mEl_1 ha] at he
        exact va_iald hx hb hKt h2 q0 1 he rfl hvp hd (hK _ _ _ _ h hL (mKeep.rf σ) H locs ls h1 h2 h3)
      · rcases hW.2.2.1 a (by omega) h300 with q | ⟨-, rfl | rfl⟩
        · omega
        · rw [hW.2.2.2.2.2.1 σ] at hvp
          exact va_sld hx hb hZ.1.1 hZ.1.2.1 hZ.1.2.2 h3 hvp hd (hK _ _ _ _ h hL (mKeep.rf σ) H locs ls h1 h2 h3)
        · rw [hW.2.2.2.2.2.2.1 σ] at hvp
          exact va_ti hx hb hZ.2.1.2 h3 hvp rfl hd (hK _ _ _ _ h hL (mKeep.rf σ) H locs ls h1 h2 h3)
  · exact mNone h
set_option maxHeartbeats 4000000 in
set_option maxRecDepth 100000 in
theorem s_baload (hC : mCx v f GW μ d m) (hW : mHW (vTT v) (vIds v)) (hL : L.length = μ.2.2.1 m) (hK : ∀ pc' L' st' τ, K pc' L' st' τ = some r → L'.length = μ.2.2.1 m → mKeep σ τ → mNx v f pc' L' st' τ) (hd : decode (μ.2.1 m) pc = .ok (.baload, 1)) (h : mOut call K (mStep (vTT v) pc .baload D c L st σ) = some r) : mNx v f pc L st σ := by
  obtain ⟨hx, hb, hml, hown, hts, hKt, -, -, -, -⟩ := hC
  simp only [mStep] at h
  split at h
  · rename_i j a r'
    cases hb2 : (Nat.beq ((vTT v).2.2.1 a) 2 || Nat.beq ((vTT v).2.2.1 a) 3) with
    | false => rw [hb2] at h; exact mNone h
    | true =>
      rw [hb2] at h
      simp only [cond_true] at h
      obtain ⟨hi, h⟩ := mOutC h
      have hvp := mIn_vp hi
      intro H locs ls h1 h2 h3
      rw [Bool.or_eq_true] at hb2
      rcases hb2 with q | q
      · have ha := beqT q
        obtain ⟨hid, hlt⟩ := mArr hW ha (by omega) (by omega) (fun q => by omega)
        obtain ⟨q0, hq0⟩ := List.getElem?_of_mem hid
        have he := mWl_at (w := vTT v) (ft := vFt v) (nf := vNf v) (cA := vCa v) (adr := vAdr v) σ hq0
        rw [mEl_2 ha] at he
        exact va_bald hx hb hKt h2 q0 2 he rfl hvp hd (hK _ _ _ _ h hL (mKeep.rf σ) H locs ls h1 h2 h3)
      · have ha := beqT q
        obtain ⟨hid, hlt⟩ := mArr hW ha (by omega) (by omega) (fun q => by omega)
        obtain ⟨q0, hq0⟩ := List.getElem?_of_mem hid
        have he := mWl_at (w := vTT v) (ft := vFt v) (nf := vNf v) (cA := vCa v) (adr := vAdr v) σ hq0
        rw [mEl_3 ha] at he
        exact va_zald hx hb hKt h2 q0 3 he rfl hvp hd (hK _ _ _ _ h hL (mKeep.rf σ) H locs ls h1 h2 h3)
  · exact mNone h
set_option maxHeartbeats 4000000 in
set_option maxRecDepth 100000 in
theorem s_laload (hC : mCx v f GW μ d m) (hW : mHW (vTT v) (vIds v)) (hL : L.length = μ.2.2.1 m) (hK : ∀ pc' L' st' τ, K pc' L' st' τ = some r → L'.length = μ.2.2.1 m → mKeep σ τ → mNx v f pc' L' st' τ) (hd : decode (μ.2.1 m) pc = .ok (.laload, 1)) (h : mOut call K (mStep (vTT v) pc .laload D c L st σ) = some r) : mNx v f pc L st σ := by
  obtain ⟨hx, hb, hml, hown, hts, hKt, -, -, -, -⟩ := hC
  simp only [mStep] at h
  split at h
  · rename_i j a r'
    cases hb2 : Nat.beq ((vTT v).2.2.1 a) 4 with
    | false => rw [hb2] at h; exact mNone h
    | true =>
      have ha := beqT hb2
      rw [hb2] at h
      simp only [cond_true] at h
      obtain ⟨hi, h⟩ := mOutC h
      have hvp := mIn_vp hi
      intro H locs ls h1 h2 h3
      obtain ⟨hid, hlt⟩ := mArr hW ha (by omega) (by omega) (fun q => by omega)
      obtain ⟨q0, hq0⟩ := List.getElem?_of_mem hid
      have he := mWl_at (w := vTT v) (ft := vFt v) (nf := vNf v) (cA := vCa v) (adr := vAdr v) σ hq0
      rw [mEl_4 ha] at he
      exact va_lald hx hb hKt h2 q0 4 he rfl hvp hd (hK _ _ _ _ h hL (mKeep.rf σ) H locs ls h1 h2 h3)
  · exact mNone h
set_option maxHeartbeats 4000000 in
set_option maxRecDepth 100000 in
theorem s_aaload (hC : mCx v f GW μ d m) (hW : mHW (vTT v) (vIds v)) (hL : L.length = μ.2.2.1 m) (hK : ∀ pc' L' st' τ, K pc' L' st' τ = some r → L'.length = μ.2.2.1 m → mKeep σ τ → mNx v f pc' L' st' τ) (hd : decode (μ.2.1 m) pc = .ok (.aaload, 1)) (h : mOut call K (mStep (vTT v) pc .aaload D c L st σ) = some r) : mNx v f pc L st σ := by
  obtain ⟨hx, hb, hml, hown, hts, hKt, -, -, -, -⟩ := hC
  simp only [mStep] at h
  split at h
  · rename_i j a r'
    cases hb2 : Nat.beq ((vTT v).2.2.1 a) 5 with
    | false => rw [hb2] at h; exact mNone h
    | true =>
      have ha := beqT hb2
      rw [hb2] at h
      simp only [cond_true] at h
      obtain ⟨hi, h⟩ := mOutC h
      have hvp := mIn_vp hi
      intro H locs ls h1 h2 h3
      obtain ⟨hid, hlt⟩ := mArr hW ha (by omega) (by omega) (fun q => by omega)
      obtain ⟨q0, hq0⟩ := List.getElem?_of_mem hid
      have he := mWl_at (w := vTT v) (ft := vFt v) (nf := vNf v) (cA := vCa v) (adr := vAdr v) σ hq0
      rw [mEl_5 ha] at he
      by_cases h17 : a = 17
      · rw [if_pos h17] at he
        exact va_aldq hx hb hKt h2 q0 5 he rfl hvp hd (hK _ _ _ _ h hL (mKeep.rf σ) H locs ls h1 h2 h3)
      · rw [if_neg h17] at he
        exact va_aldx hx hb hKt h2 q0 6 he rfl hvp hd (hK _ _ _ _ h hL (mKeep.rf σ) H locs ls h1 h2 h3)
  · exact mNone h
set_option maxHeartbeats 4000000 in
set_option maxRecDepth 100000 in
theorem s_iastore (hC : mCx v f GW μ d m) (hW : mHW (vTT v) (vIds v)) (hDd : ∀ τ, va_D (vA v) (vW v τ)) (hL : L.length = μ.2.2.1 m) (hK : ∀ pc' L' st' τ, K pc' L' st' τ = some r → L'.length = μ.2.2.1 m → mKeep σ τ → mNx v f pc' L' st' τ) (hd : decode (μ.2.1 m) pc = .ok (.iastore, 1)) (h : mOut call K (mStep (vTT v) pc .iastore D c L st σ) = some r) : mNx v f pc L st σ := by
  obtain ⟨hx, hb, hml, hown, hts, hKt, -, -, -, -⟩ := hC
  simp only [mStep] at h
  split at h
  · rename_i x j a r'
    cases hb2 : (Nat.beq ((vTT v).2.2.1 a) 1 && Nat.blt a 300) with
    | false => rw [hb2] at h; exact mNone h
    | true =>
      rw [hb2] at h
      simp only [cond_true] at h
      rw [Bool.and_eq_true] at hb2
      have ha := beqT hb2.1
      have h300 : a < 300 := Nat.blt_eq.mp hb2.2
      obtain ⟨hi, h⟩ := mOutC h
      have hvp := mIn_vp hi
      intro H locs ls h1 h2 h3
      obtain ⟨hid, hlt⟩ := mArr hW ha (by omega) (by omega) (fun q => h300)
      obtain ⟨q0, hq0⟩ := List.getElem?_of_mem hid
      have he := mWl_at (w := vTT v) (ft := vFt v) (nf := vNf v) (cA := vCa v) (adr := vAdr v) σ hq0
      rw [mEl_1 ha] at he
      have hset := mWl_set (ft := vFt v) (nf := vNf v) (cA := vCa v) (adr := vAdr v) hW (σ := σ) (τ := mUpI σ a j.toNatClampNeg x) hq0 (fun k _ hk => mEl_upI hW σ (by omega) _ x k hk)
      rw [mEl_1 ha, hW.2.2.2.2.1 (mUpI σ a j.toNatClampNeg x) σ a (mKeep.upI σ hlt _ _).1, show (mUpI σ a j.toNatClampNeg x).1 a = upd (σ.1 a) j.toNatClampNeg x by simp [mUpI]; rfl] at hset
      refine va_iast hx hb hKt h2 (hDd σ) h3 q0 1 he rfl hvp hd (fun H1 locs1 hP1 hD1 hS1 => ?_)
      rw [← hset] at hP1
      exact hK _ _ _ _ h hL (mKeep.upI σ hlt _ _) H1 locs1 ls h1 hP1 hS1
  · exact mNone h
set_option maxHeartbeats 4000000 in
set_option maxRecDepth 100000 in
theorem s_bastore (hC : mCx v f GW μ d m) (hW : mHW (vTT v) (vIds v)) (hDd : ∀ τ, va_D (vA v) (vW v τ)) (hL : L.length = μ.2.2.1 m) (hK : ∀ pc' L' st' τ, K pc' L' st' τ = some r → L'.length = μ.2.2.1 m → mKeep σ τ → mNx v f pc' L' st' τ) (hd : decode (μ.2.1 m) pc = .ok (.bastore, 1)) (h : mOut call K (mStep (vTT v) pc .bastore D c L st σ) = some r) : mNx v f pc L st σ := by
  obtain ⟨hx, hb, hml, hown, hts, hKt, -, -, -, -⟩ := hC
  simp only [mStep] at h
  split at h
  · rename_i x j a r'
    cases hb2 : Nat.beq ((vTT v).2.2.1 a) 2 with
    | true =>
      rw [hb2] at h
      simp only [cond_true] at h
      have ha := beqT hb2
      obtain ⟨hi, h⟩ := mOutC h
      have hvp := mIn_vp hi
      intro H locs ls h1 h2 h3
      obtain ⟨hid, hlt⟩ := mArr hW ha (by omega) (by omega) (fun q => by omega)
      obtain ⟨q0, hq0⟩ := List.getElem?_of_mem hid
      have he := mWl_at (w := vTT v) (ft := vFt v) (nf := vNf v) (cA := vCa v) (adr := vAdr v) σ hq0
      rw [mEl_2 ha] at he
      have hset := mWl_set (ft := vFt v) (nf := vNf v) (cA := vCa v) (adr := vAdr v) hW (σ := σ) (τ := mUpI σ a j.toNatClampNeg (vp_nar .byte x)) hq0 (fun k _ hk => mEl_upI hW σ (by omega) _ _ k hk)
      rw [mEl_2 ha, hW.2.2.2.2.1 (mUpI σ a j.toNatClampNeg (vp_nar .byte x)) σ a (mKeep.upI σ hlt _ _).1, show (mUpI σ a j.toNatClampNeg (vp_nar .byte x)).1 a = upd (σ.1 a) j.toNatClampNeg (vp_nar .byte x) by simp [mUpI]; rfl] at hset
      refine va_bast hx hb hKt h2 (hDd σ) h3 q0 2 he rfl hvp hd (fun H1 locs1 hP1 hD1 hS1 => ?_)
      rw [← hset] at hP1
      exact hK _ _ _ _ h hL (mKeep.upI σ hlt _ _) H1 locs1 ls h1 hP1 hS1
    | false =>
      rw [hb2] at h
      simp only [cond_false] at h
      cases hb3 : Nat.beq ((vTT v).2.2.1 a) 3 with
      | false => rw [hb3] at h; exact mNone h
      | true =>
        rw [hb3] at h
        simp only [cond_true] at h
        have ha := beqT hb3
        obtain ⟨hi, h⟩ := mOutC h
        have hvp := mIn_vp hi
        intro H locs ls h1 h2 h3
        obtain ⟨hid, hlt⟩ := mArr hW ha (by omega) (by omega) (fun q => by omega)
        obtain ⟨q0, hq0⟩ := List.getElem?_of_mem hid
        have he := mWl_at (w := vTT v) (ft := vFt v) (nf := vNf v) (cA := vCa v) (adr := vAdr v) σ hq0
        rw [mEl_3 ha] at he
        have hset := mWl_set (ft := vFt v) (nf := vNf v) (cA := vCa v) (adr := vAdr v) hW (σ := σ) (τ := mUpI σ a j.toNatClampNeg (vp_nar .boolean x)) hq0 (fun k _ hk => mEl_upI hW σ (by omega) _ _ k hk)
        rw [mEl_3 ha, hW.2.2.2.2.1 (mUpI σ a j.toNatClampNeg (vp_nar .boolean x)) σ a (mKeep.upI σ hlt _ _).1, show (mUpI σ a j.toNatClampNeg (vp_nar .boolean x)).1 a = upd (σ.1 a) j.toNatClampNeg (vp_nar .boolean x) by simp [mUpI]; rfl] at hset
        refine va_zast hx hb hKt h2 (hDd σ) h3 q0 3 he rfl hvp hd (fun H1 locs1 hP1 hD1 hS1 => ?_)
        rw [← hset] at hP1
        exact hK _ _ _ _ h hL (mKeep.upI σ hlt _ _) H1 locs1 ls h1 hP1 hS1
  · exact mNone h
set_option maxHeartbeats 4000000 in
set_option maxRecDepth 100000 in
theorem s_lastore (hC : mCx v f GW μ d m) (hW : mHW (vTT v) (vIds v)) (hDd : ∀ τ, va_D (vA v) (vW v τ)) (hL : L.length = μ.2.2.1 m) (hK : ∀ pc' L' st' τ, K pc' L' st' τ = some r → L'.length = μ.2.2.1 m → mKeep σ τ → mNx v f pc' L' st' τ) (hd : decode (μ.2.1 m) pc = .ok (.lastore, 1)) (h : mOut call K (mStep (vTT v) pc .lastore D c L st σ) = some r) : mNx v f pc L st σ := by
  obtain ⟨hx, hb, hml, hown, hts, hKt, -, -, -, -⟩ := hC
  simp only [mStep] at h
  split at h
  · rename_i x j a r'
    cases hb2 : Nat.beq ((vTT v).2.2.1 a) 4 with
    | false => rw [hb2] at h; exact mNone h
    | true =>
      rw [hb2] at h
      simp only [cond_true] at h
      have ha := beqT hb2
      obtain ⟨hi, h⟩ := mOutC h
      have hvp := mIn_vp hi
      intro H locs ls h1 h2 h3
      obtain ⟨hid, hlt⟩ := mArr hW ha (by omega) (by omega) (fun q => by omega)
      obtain ⟨q0, hq0⟩ := List.getElem?_of_mem hid
      have he := mWl_at (w := vTT v) (ft := vFt v) (nf := vNf v) (cA := vCa v) (adr := vAdr v) σ hq0
      rw [mEl_4 ha] at he
      have hset := mWl_set (ft := vFt v) (nf := vNf v) (cA := vCa v) (adr := vAdr v) hW (σ := σ) (τ := mUpJ σ a j.toNatClampNeg x) hq0 (fun k _ hk => mEl_upJ hW σ a _ x k hk)
      rw [mEl_4 ha, hW.2.2.2.2.1 (mUpJ σ a j.toNatClampNeg x) σ a rfl, show (mUpJ σ a j.toNatClampNeg x).2 a = vp_updL (σ.2 a) j.toNatClampNeg x by simp [mUpJ]; rfl] at hset
      refine va_last hx hb hKt h2 (hDd σ) h3 q0 4 he rfl hvp hd (fun H1 locs1 hP1 hD1 hS1 => ?_)
      rw [← hset] at hP1
      exact hK _ _ _ _ h hL (mKeep.upJ σ _ _ _) H1 locs1 ls h1 hP1 hS1
  · exact mNone h
end MS2
