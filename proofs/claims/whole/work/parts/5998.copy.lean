/-! ===== lands copied ===== -/
variable {σ τ : mS} {l : Lv}
theorem cpy_in (f g : Nat → Int32) {n i : Nat} (h : i < n) : va_cpy f g 0 0 n i = f i := by
  unfold va_cpy
  rw [if_pos (by omega)]
  congr 1
  omega
theorem vMn_le {a b : Nat} (h : a ≤ b) (hb : b < 2 ^ 31) : vMn (nI a) (nI b) = nI a := by
  unfold vMn
  exact if_neg (fun q => absurd ((nI_ltI (by omega) (by omega)).mp q) (by omega))
theorem get_lt {α : Type} {A : List α} {i : Nat} {x : α} (h : A[i]? = some x) : i < A.length := by
  rcases Nat.lt_or_ge i A.length with g | g
  · exact g
  · rw [List.getElem?_eq_none g] at h; cases h

set_option maxHeartbeats 4000000 in
theorem k_dcopy_w (d : Nat) {o p : Nat} (ho : o = 45 ∧ p = 65 ∨ o = 85 ∧ p = 45 ∨ o = 105 ∧ p = 45 ∨ o = 125 ∧ p = 45 ∨ o = 45 ∧ p = 85 ∨ o = 45 ∧ p = 105 ∨ o = 45 ∧ p = 125) {A : List Dd} (h : dC σ p A) (hA : A.length ≤ 8) : ∃ τ, Cc (d + 1) n_De_copyFrom [.ref o, .ref p, .null] σ = some (.null, τ) ∧ dC τ o A ∧ (∀ a, a < o ∨ o + 4 < a → τ.1 a = σ.1 a) ∧ τ.2 = σ.2 := by
  have hd : o + 4 < p ∨ p + 4 < o := by omega
  have f1 : ∀ S : mS, mFit w0 S (p + 1) (o + 1) 0 0 (nI A.length) = true := fun S => mFit_ok (s := 0) (t := 0) (la := 8) (lb := 8) (by rcases ho with ⟨rfl, rfl⟩ | ⟨rfl, rfl⟩ | ⟨rfl, rfl⟩ | ⟨rfl, rfl⟩ | ⟨rfl, rfl⟩ | ⟨rfl, rfl⟩ | ⟨rfl, rfl⟩ <;> rfl) (by rcases ho with ⟨rfl, rfl⟩ | ⟨rfl, rfl⟩ | ⟨rfl, rfl⟩ | ⟨rfl, rfl⟩ | ⟨rfl, rfl⟩ | ⟨rfl, rfl⟩ | ⟨rfl, rfl⟩ <;> rfl) (by omega) (by omega) (by decide) (by decide)
  have f2 : ∀ S : mS, mFit w0 S (p + 2) (o + 2) 0 0 (nI A.length) = true := fun S => mFit_ok (s := 0) (t := 0) (la := 8) (lb := 8) (by rcases ho with ⟨rfl, rfl⟩ | ⟨rfl, rfl⟩ | ⟨rfl, rfl⟩ | ⟨rfl, rfl⟩ | ⟨rfl, rfl⟩ | ⟨rfl, rfl⟩ | ⟨rfl, rfl⟩ <;> rfl) (by rcases ho with ⟨rfl, rfl⟩ | ⟨rfl, rfl⟩ | ⟨rfl, rfl⟩ | ⟨rfl, rfl⟩ | ⟨rfl, rfl⟩ | ⟨rfl, rfl⟩ | ⟨rfl, rfl⟩ <;> rfl) (by omega) (by omega) (by decide) (by decide)
  have f3 : ∀ S : mS, mFit w0 S (p + 3) (o + 3) 0 0 (nI A.length) = true := fun S => mFit_ok (s := 0) (t := 0) (la := 8) (lb := 8) (by rcases ho with ⟨rfl, rfl⟩ | ⟨rfl, rfl⟩ | ⟨rfl, rfl⟩ | ⟨rfl, rfl⟩ | ⟨rfl, rfl⟩ | ⟨rfl, rfl⟩ | ⟨rfl, rfl⟩ <;> rfl) (by rcases ho with ⟨rfl, rfl⟩ | ⟨rfl, rfl⟩ | ⟨rfl, rfl⟩ | ⟨rfl, rfl⟩ | ⟨rfl, rfl⟩ | ⟨rfl, rfl⟩ | ⟨rfl, rfl⟩ <;> rfl) (by omega) (by omega) (by decide) (by decide)
  have f4 : ∀ S : mS, mFit w0 S (p + 4) (o + 4) 0 0 (nI A.length) = true := fun S => mFit_ok (s := 0) (t := 0) (la := 8) (lb := 8) (by rcases ho with ⟨rfl, rfl⟩ | ⟨rfl, rfl⟩ | ⟨rfl, rfl⟩ | ⟨rfl, rfl⟩ | ⟨rfl, rfl⟩ | ⟨rfl, rfl⟩ | ⟨rfl, rfl⟩ <;> rfl) (by rcases ho with ⟨rfl, rfl⟩ | ⟨rfl, rfl⟩ | ⟨rfl, rfl⟩ | ⟨rfl, rfl⟩ | ⟨rfl, rfl⟩ | ⟨rfl, rfl⟩ | ⟨rfl, rfl⟩ <;> rfl) (by omega) (by omega) (by decide) (by decide)
  rw [c_De_copyFrom_w _ _ _ ho, h.1, show vMn (nI A.length) (Int32.ofNat 8) = nI A.length from vMn_le hA (by decide), f1, cT, f2, cT, f3, cT, f4, cT, nI_clamp (by omega), show (0 : Int32).toNatClampNeg = 0 from rfl]
  refine ⟨_, rfl, ⟨?_, fun i x hx => ?_⟩, fun a ha => ?_, rfl⟩
  · rw [mUpI_sR, sR_at, upd_at]
  · have hi := get_lt hx
    obtain ⟨g1, g2, g3, g4⟩ := h.2 i x hx
    simp (disch := omega) only [mUpI_sR, mCpI_sR, sR_at, sR_ne]
    rw [cpy_in _ _ hi, cpy_in _ _ hi, cpy_in _ _ hi, cpy_in _ _ hi]
    exact ⟨g1, g2, g3, g4⟩
  · simp (disch := omega) only [mUpI_sR, mCpI_sR, sR_ne]

set_option maxHeartbeats 4000000 in
theorem k_dcopy_a (d : Nat) {o p : Nat} (ho : o = 50 ∧ p = 70 ∨ o = 90 ∧ p = 50 ∨ o = 110 ∧ p = 50 ∨ o = 130 ∧ p = 50 ∨ o = 50 ∧ p = 90 ∨ o = 50 ∧ p = 110 ∨ o = 50 ∧ p = 130) {A : List Dd} (h : dC σ p A) (hA : A.length ≤ 30) : ∃ τ, Cc (d + 1) n_De_copyFrom [.ref o, .ref p, .null] σ = some (.null, τ) ∧ dC τ o A ∧ (∀ a, a < o ∨ o + 4 < a → τ.1 a = σ.1 a) ∧ τ.2 = σ.2 := by
  have hd : o + 4 < p ∨ p + 4 < o := by omega
  have f1 : ∀ S : mS, mFit w0 S (p + 1) (o + 1) 0 0 (nI A.length) = true := fun S => mFit_ok (s := 0) (t := 0) (la := 30) (lb := 30) (by rcases ho with ⟨rfl, rfl⟩ | ⟨rfl, rfl⟩ | ⟨rfl, rfl⟩ | ⟨rfl, rfl⟩ | ⟨rfl, rfl⟩ | ⟨rfl, rfl⟩ | ⟨rfl, rfl⟩ <;> rfl) (by rcases ho with ⟨rfl, rfl⟩ | ⟨rfl, rfl⟩ | ⟨rfl, rfl⟩ | ⟨rfl, rfl⟩ | ⟨rfl, rfl⟩ | ⟨rfl, rfl⟩ | ⟨rfl, rfl⟩ <;> rfl) (by omega) (by omega) (by decide) (by decide)
  have f2 : ∀ S : mS, mFit w0 S (p + 2) (o + 2) 0 0 (nI A.length) = true := fun S => mFit_ok (s := 0) (t := 0) (la := 30) (lb := 30) (by rcases ho with ⟨rfl, rfl⟩ | ⟨rfl, rfl⟩ | ⟨rfl, rfl⟩ | ⟨rfl, rfl⟩ | ⟨rfl, rfl⟩ | ⟨rfl, rfl⟩ | ⟨rfl, rfl⟩ <;> rfl) (by rcases ho with ⟨rfl, rfl⟩ | ⟨rfl, rfl⟩ | ⟨rfl, rfl⟩ | ⟨rfl, rfl⟩ | ⟨rfl, rfl⟩ | ⟨rfl, rfl⟩ | ⟨rfl, rfl⟩ <;> rfl) (by omega) (by omega) (by decide) (by decide)
  have f3 : ∀ S : mS, mFit w0 S (p + 3) (o + 3) 0 0 (nI A.length) = true := fun S => mFit_ok (s := 0) (t := 0) (la := 30) (lb := 30) (by rcases ho with ⟨rfl, rfl⟩ | ⟨rfl, rfl⟩ | ⟨rfl, rfl⟩ | ⟨rfl, rfl⟩ | ⟨rfl, rfl⟩ | ⟨rfl, rfl⟩ | ⟨rfl, rfl⟩ <;> rfl) (by rcases ho with ⟨rfl, rfl⟩ | ⟨rfl, rfl⟩ | ⟨rfl, rfl⟩ | ⟨rfl, rfl⟩ | ⟨rfl, rfl⟩ | ⟨rfl, rfl⟩ | ⟨rfl, rfl⟩ <;> rfl) (by omega) (by omega) (by decide) (by decide)
  have f4 : ∀ S : mS, mFit w0 S (p + 4) (o + 4) 0 0 (nI A.length) = true := fun S => mFit_ok (s := 0) (t := 0) (la := 30) (lb := 30) (by rcases ho with ⟨rfl, rfl⟩ | ⟨rfl, rfl⟩ | ⟨rfl, rfl⟩ | ⟨rfl, rfl⟩ | ⟨rfl, rfl⟩ | ⟨rfl, rfl⟩ | ⟨rfl, rfl⟩ <;> rfl) (by rcases ho with ⟨rfl, rfl⟩ | ⟨rfl, rfl⟩ | ⟨rfl, rfl⟩ | ⟨rfl, rfl⟩ | ⟨rfl, rfl⟩ | ⟨rfl, rfl⟩ | ⟨rfl, rfl⟩ <;> rfl) (by omega) (by omega) (by decide) (by decide)
  rw [c_De_copyFrom_a _ _ _ ho, h.1, show vMn (nI A.length) (Int32.ofNat 30) = nI A.length from vMn_le hA (by decide), f1, cT, f2, cT, f3, cT, f4, cT, nI_clamp (by omega), show (0 : Int32).toNatClampNeg = 0 from rfl]
  refine ⟨_, rfl, ⟨?_, fun i x hx => ?_⟩, fun a ha => ?_, rfl⟩
  · rw [mUpI_sR, sR_at, upd_at]
  · have hi := get_lt hx
    obtain ⟨g1, g2, g3, g4⟩ := h.2 i x hx
    simp (disch := omega) only [mUpI_sR, mCpI_sR, sR_at, sR_ne]
    rw [cpy_in _ _ hi, cpy_in _ _ hi, cpy_in _ _ hi, cpy_in _ _ hi]
    exact ⟨g1, g2, g3, g4⟩
  · simp (disch := omega) only [mUpI_sR, mCpI_sR, sR_ne]

set_option maxHeartbeats 8000000 in
theorem k_copy (d : Nat) {o p : Nat} (ho : o = 40 ∧ p = 60 ∨ o = 80 ∧ p = 40 ∨ o = 100 ∧ p = 40 ∨ o = 120 ∧ p = 40 ∨ o = 40 ∧ p = 80 ∨ o = 40 ∧ p = 100 ∨ o = 40 ∧ p = 120) (hl : lvOK l) (h : lC σ p l) : ∃ τ, Cc (d + 2) n_La_copyFrom [.ref o, .ref p] σ = some (.null, τ) ∧ lC τ o l ∧ (∀ a, a < o ∨ o + 14 < a → τ.1 a = σ.1 a) ∧ τ.2 = σ.2 := by
  have h1 := lvP hl
  have h3 := lvQ hl
  have hd : o + 14 < p ∨ p + 14 < o := by omega
  have f1 : ∀ S : mS, mFit w0 S (p + 1) (o + 1) 0 0 6 = true := fun S => mFit_ok (s := 0) (t := 0) (n := 6) (la := 6) (lb := 6) (by rcases ho with ⟨rfl, rfl⟩ | ⟨rfl, rfl⟩ | ⟨rfl, rfl⟩ | ⟨rfl, rfl⟩ | ⟨rfl, rfl⟩ | ⟨rfl, rfl⟩ | ⟨rfl, rfl⟩ <;> rfl) (by rcases ho with ⟨rfl, rfl⟩ | ⟨rfl, rfl⟩ | ⟨rfl, rfl⟩ | ⟨rfl, rfl⟩ | ⟨rfl, rfl⟩ | ⟨rfl, rfl⟩ | ⟨rfl, rfl⟩ <;> rfl) (by decide) (by decide) (by decide) (by decide)
  have f2 : ∀ S : mS, mFit w0 S (p + 2) (o + 2) 0 0 36 = true := fun S => mFit_ok (s := 0) (t := 0) (n := 36) (la := 36) (lb := 36) (by rcases ho with ⟨rfl, rfl⟩ | ⟨rfl, rfl⟩ | ⟨rfl, rfl⟩ | ⟨rfl, rfl⟩ | ⟨rfl, rfl⟩ | ⟨rfl, rfl⟩ | ⟨rfl, rfl⟩ <;> rfl) (by rcases ho with ⟨rfl, rfl⟩ | ⟨rfl, rfl⟩ | ⟨rfl, rfl⟩ | ⟨rfl, rfl⟩ | ⟨rfl, rfl⟩ | ⟨rfl, rfl⟩ | ⟨rfl, rfl⟩ <;> rfl) (by decide) (by decide) (by decide) (by decide)
  have f3 : ∀ S : mS, mFit w0 S (p + 3) (o + 3) 0 0 5 = true := fun S => mFit_ok (s := 0) (t := 0) (n := 5) (la := 5) (lb := 5) (by rcases ho with ⟨rfl, rfl⟩ | ⟨rfl, rfl⟩ | ⟨rfl, rfl⟩ | ⟨rfl, rfl⟩ | ⟨rfl, rfl⟩ | ⟨rfl, rfl⟩ | ⟨rfl, rfl⟩ <;> rfl) (by rcases ho with ⟨rfl, rfl⟩ | ⟨rfl, rfl⟩ | ⟨rfl, rfl⟩ | ⟨rfl, rfl⟩ | ⟨rfl, rfl⟩ | ⟨rfl, rfl⟩ | ⟨rfl, rfl⟩ <;> rfl) (by decide) (by decide) (by decide) (by decide)
  have f4 : ∀ S : mS, mFit w0 S (p + 4) (o + 4) 0 0 5 = true := fun S => mFit_ok (s := 0) (t := 0) (n := 5) (la := 5) (lb := 5) (by rcases ho with ⟨rfl, rfl⟩ | ⟨rfl, rfl⟩ | ⟨rfl, rfl⟩ | ⟨rfl, rfl⟩ | ⟨rfl, rfl⟩ | ⟨rfl, rfl⟩ | ⟨rfl, rfl⟩ <;> rfl) (by rcases ho with ⟨rfl, rfl⟩ | ⟨rfl, rfl⟩ | ⟨rfl, rfl⟩ | ⟨rfl, rfl⟩ | ⟨rfl, rfl⟩ | ⟨rfl, rfl⟩ | ⟨rfl, rfl⟩ <;> rfl) (by decide) (by decide) (by decide) (by decide)
  have z : ∀ (S : mS) (k : Nat) (x : Int32), (mUpI S o k x).1 p = S.1 p := fun S k x => by rw [mUpI_sR, sR_ne _ _ (by omega)]
  rw [c_La_copyFrom _ _ _ ho]
  simp only [z, f1, f2, f3, f4, cT]
  have e6 : (6 : Int32).toNatClampNeg = 6 := rfl
  have e36 : (36 : Int32).toNatClampNeg = 36 := rfl
  have e5 : (5 : Int32).toNatClampNeg = 5 := rfl
  have e0 : (0 : Int32).toNatClampNeg = 0 := rfl
  rw [e6, e36, e5, e0]
  obtain ⟨⟨a0, a1, a2, a3, a4, a5, a6⟩, b, c, q, w, ac⟩ := h
  generalize hS : (mCpI (mCpI (mCpI (mCpI (mUpI (mUpI (mUpI (mUpI (mUpI (mUpI (mUpI σ o 0 (σ.1 p 0)) o 1 (σ.1 p 1)) o 2 (σ.1 p 2)) o 3 (σ.1 p 3)) o 4 (σ.1 p 4)) o 5 (σ.1 p 5)) o 6 (σ.1 p 6)) (p + 1) (o + 1) 0 0 6) (p + 2) (o + 2) 0 0 36) (p + 3) (o + 3) 0 0 5) (p + 4) (o + 4) 0 0 5) = S
  have k1 : ∀ a, a < o ∨ o + 4 < a → S.1 a = σ.1 a := fun a ha => by
    rw [← hS]
    simp (disch := omega) only [mUpI_sR, mCpI_sR, sR_ne]
  have k2 : S.2 = σ.2 := by rw [← hS]; rfl
  have r0 : S.1 o 0 = σ.1 p 0 ∧ S.1 o 1 = σ.1 p 1 ∧ S.1 o 2 = σ.1 p 2 ∧ S.1 o 3 = σ.1 p 3 ∧ S.1 o 4 = σ.1 p 4 ∧ S.1 o 5 = σ.1 p 5 ∧ S.1 o 6 = σ.1 p 6 := by
    rw [← hS]
    simp (disch := omega) only [mUpI_sR, mCpI_sR, sR_at, sR_ne, upd_at, upd_ne, and_self]
  have r1 : ∀ i, i < 6 → S.1 (o + 1) i = σ.1 (p + 1) i := fun i hi => by
    rw [← hS]
    simp (disch := omega) only [mUpI_sR, mCpI_sR, sR_at, sR_ne, cpy_in]
  have r2 : ∀ i, i < 36 → S.1 (o + 2) i = σ.1 (p + 2) i := fun i hi => by
    rw [← hS]
    simp (disch := omega) only [mUpI_sR, mCpI_sR, sR_at, sR_ne, cpy_in]
  have r3 : ∀ i, i < 5 → S.1 (o + 3) i = σ.1 (p + 3) i := fun i hi => by
    rw [← hS]
    simp (disch := omega) only [mUpI_sR, mCpI_sR, sR_at, sR_ne, cpy_in]
  have r4 : ∀ i, i < 5 → S.1 (o + 4) i = σ.1 (p + 4) i := fun i hi => by
    rw [← hS]
    simp (disch := omega) only [mUpI_sR, mCpI_sR, sR_at, sR_ne, cpy_in]
  obtain ⟨S2, e2, d2, k3, k4⟩ := k_dcopy_w d (σ := S) (o := o + 5) (p := p + 5) (by omega) (dC_c w (fun a g1 g2 => k1 a (by omega))) hl.2.2.2.2.2.2.2.2.2.2.2.2.2.2.2.1
  obtain ⟨S3, e3, d3, k5, k6⟩ := k_dcopy_a d (σ := S2) (o := o + 10) (p := p + 10) (by omega) (dC_c ac (fun a g1 g2 => by rw [k3 a (by omega), k1 a (by omega)])) (lvAcs hl)
  have kk : ∀ a, o ≤ a → a ≤ o + 4 → S3.1 a = S.1 a := fun a g1 g2 => by rw [k5 a (by omega), k3 a (by omega)]
  refine ⟨S3, ?_, ⟨?_, ?_, ?_, ?_, dC_c d2 (fun a g1 g2 => k5 a (by omega)), d3⟩, fun a ha => ?_, ?_⟩
  · rw [e2, mBV_s, e3, mBV_s]
  · rw [kk o (by omega) (by omega), r0.1, r0.2.1, r0.2.2.1, r0.2.2.2.1, r0.2.2.2.2.1, r0.2.2.2.2.2.1, r0.2.2.2.2.2.2]
    exact ⟨a0, a1, a2, a3, a4, a5, a6⟩
  · intro i hi
    rw [kk _ (by omega) (by omega), r1 i (by omega)]; exact b i hi
  · intro i hi
    rw [kk _ (by omega) (by omega), r2 i hi]; exact c i hi
  · intro i hi
    rw [kk _ (by omega) (by omega), kk _ (by omega) (by omega), r3 i (by omega), r4 i (by omega)]; exact q i hi
  · rw [k5 a (by omega), k3 a (by omega), k1 a (by omega)]
  · rw [k6, k4, k2]

