/-! ===== feelings: all, hated, porter, years, steady, lowest ===== -/
variable {σ τ : mS} {l : Lv}
/-- how many are so -/
def cnS (n : Nat) (c : Nat → Bool) (w : Int32) : Int32 := mF (fun k w => bif c k then w + 1 else w) n w
def smS (n : Nat) (f : Nat → Int32) (w : Int32) : Int32 := mF (fun k w => w + f k) n w
theorem add_0 (x : Int32) : x + 0 = x := Int32.add_zero x
theorem k_all (d : Nat) (t : tL σ l) {y : Nat} (hy : y < lY l) : Xx (d + 2) n_E_all 15 [.ref 0, .int (nI y), .int (0), .int (0)] [] σ = some (.int (smS (lP l) (hatS l y) 0), σ) := by
  have h1 := lvP t.1
  have h2 := lvY t.1
  have h3 := lvQ t.1
  have hs := mFor (fun k (w : Int32) => Xx (d + 2) n_E_all 15 [.ref 0, .int (nI y), .int (w), .int (nI (k))] [] σ) (fun k w => w + hatS l y k) (lP l) (0) (by
    intro k hk
    generalize mF _ k _ = w
    rw [q_E_all_15, tP t, dle (by omega) (by omega), dF _ (by omega), cF, k_everybody _ _ (tP t), mBI_s, k_hat _ t hk hy, mBI_s, nI_1]
)
  exact hs.trans (by rw [q_E_all_15, tP t, dle (by omega) (by omega), dT _ (by omega), cT] <;> rfl)
theorem r_all (d : Nat) (hl : lvOK l) {m : Nat} (a : rA τ l (vS l) m) {y : Nat} (hy : y < lY l) : Xx (d + 2) n_M_all 15 [.ref 200, .int (nI y), .int (0), .int (0)] [] τ = some (.int (smS (lP l) (hatS l y) 0), τ) := by
  have h1 := lvP hl
  have h2 := lvY hl
  have h3 := lvQ hl
  have hs := mFor (fun k (w : Int32) => Xx (d + 2) n_M_all 15 [.ref 200, .int (nI y), .int (w), .int (nI (k))] [] τ) (fun k w => w + hatS l y k) (lP l) (0) (by
    intro k hk
    generalize mF _ k _ = w
    rw [q_M_all_15, r_persons, mBI_s, lM_P a.1.1, dle (by omega) (by omega), dF _ (by omega), cF, r_hateOf _ hl a hk hy, mBI_s, nI_1]
)
  exact hs.trans (by rw [q_M_all_15, r_persons, mBI_s, lM_P a.1.1, dle (by omega) (by omega), dT _ (by omega), cT] <;> rfl)
theorem k_hatd (d : Nat) (t : tL σ l) {y : Nat} (hy : y < lY l) : Xx (d + 2) n_E_hated 18 [.ref 0, .int (nI y), .int (-1), .int 0, .int 0, .null] [] σ = some (.int (oI (pxF (lP l) (hatS l y) (fun _ => true))), σ) := by
  have h1 := lvP t.1
  obtain ⟨v, hs⟩ := mForH (fun k (b : Option Nat) (v : Value) => Xx (d + 2) n_E_hated 18 [.ref 0, .int (nI y), .int (oI b), .int (lst0 (hatS l y) b), .int (nI k), v] [] σ) (pxS (hatS l y) (fun _ => true)) (lP l) none .null (by
    intro k v hk
    generalize mF _ k (none : Option Nat) = b
    refine ⟨.int (hatS l y k), ?_⟩
    rw [q_E_hated_18, tP t, dle (by omega) (by omega), dF _ (by omega), cF, k_everybody _ _ (tP t), mBI_s, k_hat _ t hk hy, mBI_s, nI_1]
    unfold pxS
    by_cases h : hatS l y k ≤ lst0 (hatS l y) b
    · rw [dT _ h, cT, if_neg (fun q => Int32.not_lt.mpr h q.2)]
    · rw [dF _ h, cF, if_pos ⟨rfl, Int32.not_le.mp h⟩]; rfl)
  exact hs.trans (by rw [q_E_hated_18, tP t, dT _ (Int32.le_refl _), cT]; rfl)
theorem r_hatd (d : Nat) (hl : lvOK l) {m : Nat} (a : rA τ l (vS l) m) {y : Nat} (hy : y < lY l) : Xx (d + 2) n_M_hated 15 [.ref 200, .int (nI y), .int (-1), .int 0] [] τ = some (.int (oI (pxF (lP l) (hatS l y) (fun _ => true))), τ) := by
  have h1 := lvP hl
  have hs := mFor (fun k (b : Option Nat) => Xx (d + 2) n_M_hated 15 [.ref 200, .int (nI y), .int (oI b), .int (nI k)] [] τ) (pxS (hatS l y) (fun _ => true)) (lP l) none (by
    intro k hk
    have hb := pxF_inv (hatS l y) (fun _ => true) k
    generalize mF _ k (none : Option Nat) = b at hb
    rw [q_M_hated_15, r_persons, mBI_s, lM_P a.1.1, dle (by omega) (by omega), dF _ (by omega), cF, r_hateOf _ hl a hk hy, mBI_s, nI_1]
    unfold pxS
    cases b with
    | none =>
      rw [oI_n, m1n, cF, lst0_n]
      by_cases h2 : hatS l y k ≤ 0
      · rw [dT _ h2, cT, if_neg (fun q => Int32.not_lt.mpr h2 q.2)]; rfl
      · rw [dF _ h2, cF, if_pos ⟨rfl, Int32.not_le.mp h2⟩]; rfl
    | some j =>
      have hj := (hb j rfl).1
      rw [oI_s, nI_m1n (by omega), cT, r_hateOf _ hl a (by omega) hy, mBI_s, lst0_s]
      by_cases h2 : hatS l y k ≤ hatS l y j
      · rw [dT _ h2, cT, if_neg (fun q => Int32.not_lt.mpr h2 q.2)]; rfl
      · rw [dF _ h2, cF, if_pos ⟨rfl, Int32.not_le.mp h2⟩]; rfl)
  exact hs.trans (by rw [q_M_hated_15, r_persons, mBI_s, lM_P a.1.1, dT _ (Int32.le_refl _), cT]; rfl)
theorem k_years (d : Nat) (t : tL σ l) {p r : Nat} (hp : p < lP l) (hr : r < lP l) : Xx (d + 1) n_E_years 17 [.ref 0, .int (nI p), .int (nI r), .int (0), .int (0)] [] σ = some (.int (cnS (lY l) (fun k => decide (fL l k p r < 0)) 0), σ) := by
  have h1 := lvP t.1
  have h2 := lvY t.1
  have h3 := lvQ t.1
  have hs := mFor (fun k (w : Int32) => Xx (d + 1) n_E_years 17 [.ref 0, .int (nI p), .int (nI r), .int (w), .int (nI (k))] [] σ) (fun k w => bif decide (fL l k p r < 0) then w + 1 else w) (lY l) (0) (by
    intro k hk
    generalize mF _ k _ = w
    rw [q_E_years_17, tY t, dle (by omega) (by omega), dF _ (by omega), cF, k_fe _ t hp hr hk, mBI_s, nI_1]
    by_cases h : fL l k p r < 0
    · rw [dF _ (Int32.not_le.mpr h), dT _ h]; rfl
    · rw [dT _ (Int32.not_lt.mp h), dF _ h]; rfl)
  exact hs.trans (by rw [q_E_years_17, tY t, dle (by omega) (by omega), dT _ (by omega), cT] <;> rfl)
theorem r_years (d : Nat) (hl : lvOK l) {m : Nat} (a : rA τ l (vS l) m) {p r : Nat} (hp : p < lP l) (hr : r < lP l) : Xx (d + 1) n_M_years 22 [.ref 200, .int (nI p), .int (nI r), .int (0), .int (0)] [] τ = some (.int (cnS (lY l) (fun k => decide (fL l k p r < 0)) 0), τ) := by
  have h1 := lvP hl
  have h2 := lvY hl
  have h3 := lvQ hl
  have hs := mFor (fun k (w : Int32) => Xx (d + 1) n_M_years 22 [.ref 200, .int (nI p), .int (nI r), .int (w), .int (nI (k))] [] τ) (fun k w => bif decide (fL l k p r < 0) then w + 1 else w) (lY l) (0) (by
    intro k hk
    generalize mF _ k _ = w
    rw [q_M_years_22, r_yearMany, mBI_s, lM_Y a.1.1, dle (by omega) (by omega), dF _ (by omega), cF, r_fe _ hl a hp hr hk, mBI_s, nI_1, add_0]
    by_cases h : fL l k p r < 0
    · rw [dF _ (Int32.not_le.mpr h), dT _ h]; rfl
    · rw [dT _ (Int32.not_lt.mp h), dF _ h]; rfl)
  exact hs.trans (by rw [q_M_years_22, r_yearMany, mBI_s, lM_Y a.1.1, dle (by omega) (by omega), dT _ (by omega), cT] <;> rfl)
theorem k_steady (d : Nat) (t : tL σ l) {p r : Nat} (hp : p < lP l) (hr : r < lP l) (hY : 0 < lY l) : Xx (d + 1) n_E_steady 17 [.ref 0, .int (nI p), .int (nI r), .int (0), .int (1)] [] σ = some (.int (cnS (lY l - 1) (fun k => decide (fL l (k + 1) p r = fL l k p r)) 0), σ) := by
  have h1 := lvP t.1
  have h2 := lvY t.1
  have h3 := lvQ t.1
  have hs := mFor (fun k (w : Int32) => Xx (d + 1) n_E_steady 17 [.ref 0, .int (nI p), .int (nI r), .int (w), .int (nI (k + 1))] [] σ) (fun k w => bif decide (fL l (k + 1) p r = fL l k p r) then w + 1 else w) (lY l - 1) (0) (by
    intro k hk
    generalize mF _ k _ = w
    rw [q_E_steady_17, tY t, dle (by omega) (by omega), dF _ (by omega), cF, k_fe _ t hp hr (by omega), mBI_s, nI_pred, k_fe _ t hp hr (by omega), mBI_s, nI_1]
    by_cases h : fL l (k + 1) p r = fL l k p r
    · rw [dF _ (fun q => q h), dT _ h]; rfl
    · rw [dT _ h, dF _ h]; rfl)
  exact hs.trans (by rw [q_E_steady_17, tY t, dle (by omega) (by omega), dT _ (by omega), cT] <;> rfl)
theorem r_steady (d : Nat) (hl : lvOK l) {m : Nat} (a : rA τ l (vS l) m) {p r : Nat} (hp : p < lP l) (hr : r < lP l) (hY : 0 < lY l) : Xx (d + 1) n_M_steady 22 [.ref 200, .int (nI p), .int (nI r), .int (0), .int (1)] [] τ = some (.int (cnS (lY l - 1) (fun k => decide (fL l (k + 1) p r = fL l k p r)) 0), τ) := by
  have h1 := lvP hl
  have h2 := lvY hl
  have h3 := lvQ hl
  have hs := mFor (fun k (w : Int32) => Xx (d + 1) n_M_steady 22 [.ref 200, .int (nI p), .int (nI r), .int (w), .int (nI (k + 1))] [] τ) (fun k w => bif decide (fL l (k + 1) p r = fL l k p r) then w + 1 else w) (lY l - 1) (0) (by
    intro k hk
    generalize mF _ k _ = w
    rw [q_M_steady_22, r_yearMany, mBI_s, lM_Y a.1.1, dle (by omega) (by omega), dF _ (by omega), cF, r_fe _ hl a hp hr (by omega), mBI_s, nI_pred, r_fe _ hl a hp hr (by omega), mBI_s, nI_1, add_0]
    by_cases h : fL l (k + 1) p r = fL l k p r
    · rw [dF _ (fun q => q h), dT _ h]; rfl
    · rw [dT _ h, dF _ h]; rfl)
  exact hs.trans (by rw [q_M_steady_22, r_yearMany, mBI_s, lM_Y a.1.1, dle (by omega) (by omega), dT _ (by omega), cT] <;> rfl)
theorem k_lowest (d : Nat) (t : tL σ l) {p r : Nat} (hp : p < lP l) (hr : r < lP l) (hY : 0 < lY l) : Xx (d + 1) n_E_lowest 27 [.ref 0, .int (nI p), .int (nI r), .int (fL l 0 p r), .int (1)] [] σ = some (.int (mF (fun k w => vMn w (fL l (k + 1) p r)) (lY l - 1) (fL l 0 p r)), σ) := by
  have h1 := lvP t.1
  have h2 := lvY t.1
  have h3 := lvQ t.1
  have hs := mFor (fun k (w : Int32) => Xx (d + 1) n_E_lowest 27 [.ref 0, .int (nI p), .int (nI r), .int (w), .int (nI (k + 1))] [] σ) (fun k w => vMn w (fL l (k + 1) p r)) (lY l - 1) (fL l 0 p r) (by
    intro k hk
    generalize mF _ k _ = w
    rw [q_E_lowest_27, tY t, dle (by omega) (by omega), dF _ (by omega), cF, k_fe _ t hp hr (by omega), mBI_s, nI_1]
)
  exact hs.trans (by rw [q_E_lowest_27, tY t, dle (by omega) (by omega), dT _ (by omega), cT] <;> rfl)
theorem r_lowest0 (d : Nat) (hl : lvOK l) {m : Nat} (a : rA τ l (vS l) m) {p r : Nat} (hp : p < lP l) (hr : r < lP l) (hY : 0 < lY l) : Xx (d + 1) n_M_lowest 24 [.ref 200, .int (nI p), .int (nI r), .int (60), .int (0)] [] τ = some (.int (mF (fun k w => vMn w (fL l k p r)) (lY l) 60), τ) := by
  have h1 := lvP hl
  have h2 := lvY hl
  have h3 := lvQ hl
  have hs := mFor (fun k (w : Int32) => Xx (d + 1) n_M_lowest 24 [.ref 200, .int (nI p), .int (nI r), .int (w), .int (nI (k))] [] τ) (fun k w => vMn w (fL l k p r)) (lY l) (60) (by
    intro k hk
    generalize mF _ k _ = w
    rw [q_M_lowest_24, r_yearMany, mBI_s, lM_Y a.1.1, dle (by omega) (by omega), dF _ (by omega), cF, r_fe _ hl a hp hr (by omega), mBI_s, nI_1]
)
  exact hs.trans (by rw [q_M_lowest_24, r_yearMany, mBI_s, lM_Y a.1.1, dle (by omega) (by omega), dT _ (by omega), cT] <;> rfl)
theorem low_eq (f : Nat → Int32) (h : bw (-60) (f 0) 60) (n : Nat) : mF (fun k w => vMn w (f k)) (n + 1) 60 = mF (fun k w => vMn w (f (k + 1))) n (f 0) := by
  induction n with
  | zero =>
    show vMn 60 (f 0) = f 0
    unfold vMn
    by_cases q : f 0 < 60
    · exact if_pos q
    · rw [if_neg q]
      have h1 := mt i_lt.mpr q
      have h2 := h.2
      have h3 : (60 : Int32).toInt = 60 := by decide
      exact Int32.toInt_inj.mp (by rw [h3] at h1 ⊢; omega)
  | succ n ih =>
    show vMn (mF (fun k w => vMn w (f k)) (n + 1) 60) (f (n + 1)) = vMn (mF (fun k w => vMn w (f (k + 1))) n (f 0)) (f (n + 1))
    rw [ih]
theorem r_lowest (d : Nat) (hl : lvOK l) {m : Nat} (a : rA τ l (vS l) m) {p r : Nat} (hp : p < lP l) (hr : r < lP l) (hY : 0 < lY l) : Xx (d + 1) n_M_lowest 24 [.ref 200, .int (nI p), .int (nI r), .int 60, .int 0] [] τ = some (.int (mF (fun k w => vMn w (fL l (k + 1) p r)) (lY l - 1) (fL l 0 p r)), τ) := by
  rw [r_lowest0 d hl a hp hr hY, ← low_eq (fun y => fL l y p r) (fL_bw hl 0 hp hr) (lY l - 1), show lY l - 1 + 1 = lY l by omega]
theorem k_sours (d : Nat) (t : tL σ l) {p r : Nat} (hp : p < lP l) (hr : r < lP l) : Xx (d + 1) n_E_sours 14 [.ref 0, .int (nI p), .int (nI r), .int 0] [] σ = some (.int (oI (mFst (fun k => decide (fL l k p r < 0)) (lY l) 0)), σ) := by
  have h2 := lvY t.1
  have hs := mFind (fun k => Xx (d + 1) n_E_sours 14 [.ref 0, .int (nI p), .int (nI r), .int (nI k)] [] σ) (fun k => decide (fL l k p r < 0)) (fun k => some (.int (nI k), σ)) (lY l) (by
    intro k hk
    show Xx (d + 1) n_E_sours 14 _ _ _ = _
    rw [q_E_sours_14, tY t, dle (by omega) (by omega), dF _ (by omega), cF, k_fe _ t hp hr hk, mBI_s, nI_1]
    by_cases h : fL l k p r < 0
    · rw [dF _ (Int32.not_le.mpr h), dT _ h]; rfl
    · rw [dT _ (Int32.not_lt.mp h), dF _ h]; rfl)
  refine hs.trans ?_
  cases mFst (fun k => decide (fL l k p r < 0)) (lY l) 0 with
  | none => show Xx (d + 1) n_E_sours 14 _ _ _ = _; rw [q_E_sours_14, tY t, dT _ (Int32.le_refl _), cT]; rfl
  | some k => rfl
theorem r_sours (d : Nat) (hl : lvOK l) {m : Nat} (a : rA τ l (vS l) m) {p r : Nat} (hp : p < lP l) (hr : r < lP l) : Xx (d + 1) n_M_sours 19 [.ref 200, .int (nI p), .int (nI r), .int 0] [] τ = some (.int (oI (mFst (fun k => decide (fL l k p r < 0)) (lY l) 0)), τ) := by
  have h2 := lvY hl
  have hs := mFind (fun k => Xx (d + 1) n_M_sours 19 [.ref 200, .int (nI p), .int (nI r), .int (nI k)] [] τ) (fun k => decide (fL l k p r < 0)) (fun k => some (.int (nI k), τ)) (lY l) (by
    intro k hk
    show Xx (d + 1) n_M_sours 19 _ _ _ = _
    rw [q_M_sours_19, r_yearMany, mBI_s, lM_Y a.1.1, dle (by omega) (by omega), dF _ (by omega), cF, r_fe _ hl a hp hr hk, mBI_s, nI_1]
    by_cases h : fL l k p r < 0
    · rw [dF _ (Int32.not_le.mpr h), dT _ h]; rfl
    · rw [dT _ (Int32.not_lt.mp h), dF _ h]; rfl)
  refine hs.trans ?_
  cases mFst (fun k => decide (fL l k p r < 0)) (lY l) 0 with
  | none => show Xx (d + 1) n_M_sours 19 _ _ _ = _; rw [q_M_sours_19, r_yearMany, mBI_s, lM_Y a.1.1, dT _ (Int32.le_refl _), cT]; rfl
  | some k => rfl
