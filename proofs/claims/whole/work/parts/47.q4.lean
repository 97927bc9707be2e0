/-! ===== questions on feelings: mild, porter, bitter; pairs and rings ===== -/
variable {σ τ : mS} {l : Lv}
theorem t_mild (D : Nat) (t : tL σ l) (x y : Int32) : qry (D + 12) n_E_mild n_M_mild [.ref 0, .int x, .int y] [.ref 200, .int x, .int y, .null, .null] σ := by
  have h1 := lvP t.1
  have h2 := lvY t.1
  have h3 := lvQ t.1
  have h4 := lvLn t.1
  obtain ⟨τ, e, s, a⟩ := r_asksYear (D + 1) y t.1 t.2.2.2
  unfold qry
  rw [c_E_mild, k_isThen _ x y σ (tP t) (by omega) (tY t) (by omega), c_M_mild]
  rw [e]
  simp only [mBI_s]
  rw [r_isPerson _ x τ (lM_P a.1.1) (by omega)]
  simp only [mBI_s, bI_0, bI_n]
  cases hx : mIn x (lP l) with
  | false => exact ⟨-2, τ, by simp [*], by simp [*], s⟩
  | true =>
    cases hy : mIn y (lY l) with
    | false => exact ⟨-2, τ, by simp [*], by simp [*], s⟩
    | true =>
      obtain ⟨p, hp, rfl⟩ := mIn_of hx
      obtain ⟨j, hj, rfl⟩ := mIn_of hy
      simp only [Bool.and_true, Bool.true_and, Bool.not_true, Bool.not_false, cond_true, cond_false]
      rw [k_towards _ t hp hj, mBI_s, k_bitCount _ _ (st_bw h1 _), nb_st h1, r_mild _ t.1 a hp hj]
      simp only [sg_z]
      exact ⟨_, τ, rfl, rfl, s⟩
theorem t_porter (D : Nat) (t : tL σ l) (x : Int32) : qry (D + 12) n_E_porter n_M_porter [.ref 0, .int x, .null, .null, .null, .null] [.ref 200, .int x, .null, .null] σ := by
  have h1 := lvP t.1
  have h2 := lvY t.1
  have h3 := lvQ t.1
  have h4 := lvLn t.1
  obtain ⟨τ, e, s, a⟩ := r_asksYear (D + 1) x t.1 t.2.2.2
  unfold qry
  rw [c_E_porter, k_isYear _ x σ (tY t) (by omega), c_M_porter]
  rw [e]
  simp only [mBI_s, bI_0, bI_n]
  cases hx : mIn x (lY l) with
  | false => exact ⟨-2, τ, by simp [*], by simp [*], s⟩
  | true =>
    obtain ⟨j, hj, rfl⟩ := mIn_of hx
    simp only [Bool.and_true, Bool.true_and, Bool.not_true, Bool.not_false, cond_true, cond_false]
    rw [k_porter _ t hj, r_porter _ t.1 a hj]
    exact ⟨_, τ, rfl, rfl, s⟩
theorem t_bitter (D : Nat) (t : tL σ l) (x : Int32) : qry (D + 12) n_E_bitter n_M_bitter [.ref 0, .int x, .null, .null] [.ref 200, .int x, .null, .null, .null] σ := by
  have h1 := lvP t.1
  have h2 := lvY t.1
  have h3 := lvQ t.1
  have h4 := lvLn t.1
  obtain ⟨τ, e, s, a⟩ := r_asksYear (D + 1) x t.1 t.2.2.2
  unfold qry
  rw [c_E_bitter, k_isYear _ x σ (tY t) (by omega), c_M_bitter]
  rw [e]
  simp only [mBI_s, bI_0, bI_n]
  cases hx : mIn x (lY l) with
  | false => exact ⟨-2, τ, by simp [*], by simp [*], s⟩
  | true =>
    obtain ⟨j, hj, rfl⟩ := mIn_of hx
    simp only [Bool.and_true, Bool.true_and, Bool.not_true, Bool.not_false, cond_true, cond_false]
    rw [k_bitter _ t hj, r_bitter _ t.1 a hj]
    exact ⟨_, τ, rfl, rfl, s⟩
/-- pairs that are so -/
def paS (P : Nat) (c : Nat → Nat → Bool) : Int32 := mF (fun a w => cnS (P - (a + 1)) (fun k => c a (a + 1 + k)) w) P 0
theorem paS_eq {P : Nat} {c c' : Nat → Nat → Bool} (h : ∀ a b, c a b = c' a b) : paS P c = paS P c' := by
  rw [show c = c' from funext fun a => funext fun b => h a b]
theorem k_pairs (d : Nat) (t : tL σ l) {y : Nat} (hy : y < lY l) (s : Int32) : Cc (d + 2) n_Co_pairsAlike [.ref 20, .int (nI y), .int s, .null, .null, .null, .null] σ = some (.int (paS (lP l) (fun a b => decide (sg (fL l y a b) = s) && decide (sg (fL l y b a) = s))), σ) := by
  have h1 := lvP t.1
  rw [c_Co_pairsAlike _ _ _ _ (Or.inl rfl)]
  obtain ⟨v, hs⟩ := mForH (fun k (w : Int32) (v : Value × Value) => Xx (d + 1) n_Co_pairsAlike 5 [.ref 20, .int (nI y), .int s, .int w, .int (nI k), v.1, v.2] [] σ) (fun a w => cnS (lP l - (a + 1)) (fun k => decide (sg (fL l y a (a + 1 + k)) = s) && decide (sg (fL l y (a + 1 + k) a) = s)) w) (lP l) 0 (.null, .null) (by
    intro i v hi
    generalize mF _ i (0 : Int32) = w
    rw [q_Co_pairsAlike_5 _ _ _ _ _ _ _ _ (Or.inl rfl), tP t, dle (by omega) (by omega), dF _ (by omega), cF, nI_1]
    obtain ⟨v', hj⟩ := mForH (fun k (w : Int32) (v : Value) => Xx (d + 1) n_Co_pairsAlike 23 [.ref 20, .int (nI y), .int s, .int w, .int (nI i), .int (nI (i + 1 + k)), v] [] σ) (fun k w => bif (decide (sg (fL l y i (i + 1 + k)) = s) && decide (sg (fL l y (i + 1 + k) i) = s)) then w + 1 else w) (lP l - (i + 1)) w v.2 (by
      intro k v hk
      generalize mF _ k w = w
      rw [q_Co_pairsAlike_23 _ _ _ _ _ _ _ _ (Or.inl rfl), tP t, dle (by omega) (by omega), dF _ (by omega), cF]
      simp only [k_fe _ t hi (show i + 1 + k < lP l by omega) hy, k_fe _ t (show i + 1 + k < lP l by omega) hi hy, mBI_s, k_signOf, nI_1, show decide ((0 : Int32) = 0) = true by decide, show decide ((1 : Int32) = 0) = false by decide, cT, cF]
      by_cases g1 : sg (fL l y i (i + 1 + k)) = s
      · rw [dF _ (fun q => q g1), cF, dT _ g1, Bool.true_and]
        by_cases g2 : sg (fL l y (i + 1 + k) i) = s
        · rw [dF _ (fun q => q g2), dT _ g2]; exact ⟨_, rfl⟩
        · rw [dT _ g2, dF _ g2]; exact ⟨_, rfl⟩
      · rw [dT _ g1, cT, dF _ g1, Bool.false_and]
        exact ⟨_, rfl⟩)
    refine ⟨(.int (nI (i + 1 + (lP l - (i + 1)))), v'), hj.trans ?_⟩
    rw [q_Co_pairsAlike_23 _ _ _ _ _ _ _ _ (Or.inl rfl), tP t, dle (by omega) (by omega), dT _ (by omega), cT, nI_1]
    rfl)
  exact hs.trans (by rw [q_Co_pairsAlike_5 _ _ _ _ _ _ _ _ (Or.inl rfl), tP t, dT _ (Int32.le_refl _), cT] <;> rfl)
theorem r_cold (d : Nat) (hl : lvOK l) {m : Nat} (a : rA τ l (vS l) m) {y : Nat} (hy : y < lY l) : Xx (d + 2) n_M_cold 15 [.ref 200, .int (nI y), .int 0, .int 0, .null] [] τ = some (.int (paS (lP l) (fun a b => decide (fL l y a b = 0) && decide (fL l y b a = 0))), τ) := by
  have h1 := lvP hl
  obtain ⟨v, hs⟩ := mForH (fun k (w : Int32) (v : Value) => Xx (d + 2) n_M_cold 15 [.ref 200, .int (nI y), .int w, .int (nI k), v] [] τ) (fun a w => cnS (lP l - (a + 1)) (fun k => decide (fL l y a (a + 1 + k) = 0) && decide (fL l y (a + 1 + k) a = 0)) w) (lP l) 0 .null (by
    intro i v hi
    generalize mF _ i (0 : Int32) = w
    rw [q_M_cold_15, r_persons, mBI_s, lM_P a.1.1, dle (by omega) (by omega), dF _ (by omega), cF, nI_1]
    have hj := mFor (fun k (w : Int32) => Xx (d + 2) n_M_cold 28 [.ref 200, .int (nI y), .int w, .int (nI i), .int (nI (i + 1 + k))] [] τ) (fun k w => bif (decide (fL l y i (i + 1 + k) = 0) && decide (fL l y (i + 1 + k) i = 0)) then w + 1 else w) (lP l - (i + 1)) w (by
      intro k hk
      generalize mF _ k w = w
      rw [q_M_cold_28, r_persons, mBI_s, lM_P a.1.1, dle (by omega) (by omega), dF _ (by omega), cF, r_fe _ hl a hi (by omega) hy, mBI_s, r_fe _ hl a (by omega) hi hy, mBI_s, nI_1, add_0]
      by_cases g1 : fL l y i (i + 1 + k) = 0
      · rw [dF _ (fun q => q g1), cF, dT _ g1, Bool.true_and]
        by_cases g2 : fL l y (i + 1 + k) i = 0
        · rw [dF _ (fun q => q g2), dT _ g2]; rfl
        · rw [dT _ g2, dF _ g2]; rfl
      · rw [dT _ g1, cT, dF _ g1, Bool.false_and]; rfl)
    refine ⟨.int (nI (i + 1 + (lP l - (i + 1)))), hj.trans ?_⟩
    rw [q_M_cold_28, r_persons, mBI_s, lM_P a.1.1, dle (by omega) (by omega), dT _ (by omega), cT, nI_1]
    rfl)
  exact hs.trans (by rw [q_M_cold_15, r_persons, mBI_s, lM_P a.1.1, dT _ (Int32.le_refl _), cT] <;> rfl)
theorem r_hates (d : Nat) (hl : lvOK l) {m : Nat} (a : rA τ l (vS l) m) {p q y : Nat} (hp : p < lP l) (hq : q < lP l) (hy : y < lY l) : Cc (d + 2) n_M_hates [.ref 200, .int (nI p), .int (nI q), .int (nI y)] τ = some (.int (bI (decide (fL l y p q < 0))), τ) := by
  rw [c_M_hates, r_fe _ hl a hp hq hy, mBI_s]
  by_cases h : fL l y p q < 0
  · rw [dF _ (Int32.not_le.mpr h), dT _ h]; rfl
  · rw [dT _ (Int32.not_lt.mp h), dF _ h]; rfl
theorem r_mutual (d : Nat) (hl : lvOK l) {m : Nat} (a : rA τ l (vS l) m) {y : Nat} (hy : y < lY l) : Xx (d + 2) n_M_mutual 15 [.ref 200, .int (nI y), .int 0, .int 0, .null] [] τ = some (.int (paS (lP l) (fun a b => decide (fL l y a b < 0) && decide (fL l y b a < 0))), τ) := by
  have h1 := lvP hl
  obtain ⟨v, hs⟩ := mForH (fun k (w : Int32) (v : Value) => Xx (d + 2) n_M_mutual 15 [.ref 200, .int (nI y), .int w, .int (nI k), v] [] τ) (fun a w => cnS (lP l - (a + 1)) (fun k => decide (fL l y a (a + 1 + k) < 0) && decide (fL l y (a + 1 + k) a < 0)) w) (lP l) 0 .null (by
    intro i v hi
    generalize mF _ i (0 : Int32) = w
    rw [q_M_mutual_15, r_persons, mBI_s, lM_P a.1.1, dle (by omega) (by omega), dF _ (by omega), cF, nI_1]
    have hj := mFor (fun k (w : Int32) => Xx (d + 2) n_M_mutual 28 [.ref 200, .int (nI y), .int w, .int (nI i), .int (nI (i + 1 + k))] [] τ) (fun k w => bif (decide (fL l y i (i + 1 + k) < 0) && decide (fL l y (i + 1 + k) i < 0)) then w + 1 else w) (lP l - (i + 1)) w (by
      intro k hk
      generalize mF _ k w = w
      rw [q_M_mutual_28, r_persons, mBI_s, lM_P a.1.1, dle (by omega) (by omega), dF _ (by omega), cF, r_hates _ hl a hi (by omega) hy, mBI_s, r_hates _ hl a (by omega) hi hy, mBI_s, bI_0, bI_0, nI_1, add_0]
      cases decide (fL l y i (i + 1 + k) < 0) <;> cases decide (fL l y (i + 1 + k) i < 0) <;> rfl)
    refine ⟨.int (nI (i + 1 + (lP l - (i + 1)))), hj.trans ?_⟩
    rw [q_M_mutual_28, r_persons, mBI_s, lM_P a.1.1, dle (by omega) (by omega), dT _ (by omega), cT, nI_1]
    rfl)
  exact hs.trans (by rw [q_M_mutual_15, r_persons, mBI_s, lM_P a.1.1, dT _ (Int32.le_refl _), cT] <;> rfl)
theorem t_cold (D : Nat) (t : tL σ l) (x : Int32) : qry (D + 12) n_E_cold n_M_cold [.ref 0, .int x] [.ref 200, .int x, .null, .null, .null] σ := by
  have h1 := lvP t.1
  have h2 := lvY t.1
  have h3 := lvQ t.1
  have h4 := lvLn t.1
  obtain ⟨τ, e, s, a⟩ := r_asksYear (D + 1) x t.1 t.2.2.2
  unfold qry
  rw [c_E_cold, k_isYear _ x σ (tY t) (by omega), c_M_cold]
  rw [e]
  simp only [mBI_s, bI_0, bI_n]
  cases hx : mIn x (lY l) with
  | false => exact ⟨-2, τ, by simp [*], by simp [*], s⟩
  | true =>
    obtain ⟨j, hj, rfl⟩ := mIn_of hx
    simp only [Bool.and_true, Bool.true_and, Bool.not_true, Bool.not_false, cond_true, cond_false]
    rw [k_pairs _ t hj, r_cold _ t.1 a hj]
    simp only [sg_z]
    exact ⟨_, τ, rfl, rfl, s⟩
theorem t_mutual (D : Nat) (t : tL σ l) (x : Int32) : qry (D + 12) n_E_mutual n_M_mutual [.ref 0, .int x] [.ref 200, .int x, .null, .null, .null] σ := by
  have h1 := lvP t.1
  have h2 := lvY t.1
  have h3 := lvQ t.1
  have h4 := lvLn t.1
  obtain ⟨τ, e, s, a⟩ := r_asksYear (D + 1) x t.1 t.2.2.2
  unfold qry
  rw [c_E_mutual, k_isYear _ x σ (tY t) (by omega), c_M_mutual]
  rw [e]
  simp only [mBI_s, bI_0, bI_n]
  cases hx : mIn x (lY l) with
  | false => exact ⟨-2, τ, by simp [*], by simp [*], s⟩
  | true =>
    obtain ⟨j, hj, rfl⟩ := mIn_of hx
    simp only [Bool.and_true, Bool.true_and, Bool.not_true, Bool.not_false, cond_true, cond_false]
    rw [k_pairs _ t hj, r_mutual _ t.1 a hj]
    simp only [sg_m1]
    exact ⟨_, τ, rfl, rfl, s⟩
theorem k_isRound (d : Nat) (t : tL σ l) {x z w y : Nat} (hx : x < lP l) (hz : z < lP l) (hw : w < lP l) (hy : y < lY l) : Cc (d + 2) n_Co_isRound [.ref 20, .int (nI x), .int (nI z), .int (nI w), .int (nI y)] σ = some (.int (bI (decide (fL l y x z < 0) && decide (fL l y z w < 0) && decide (fL l y w x < 0))), σ) := by
  rw [c_Co_isRound _ _ _ _ _ _ (Or.inl rfl), k_fe _ t hx hz hy, mBI_s, k_fe _ t hz hw hy, mBI_s, k_fe _ t hw hx hy, mBI_s]
  by_cases h1 : fL l y x z < 0
  · rw [dF _ (Int32.not_le.mpr h1), dT _ h1]
    by_cases h2 : fL l y z w < 0
    · rw [dF _ (Int32.not_le.mpr h2), dT _ h2]
      by_cases h3 : fL l y w x < 0
      · rw [dF _ (Int32.not_le.mpr h3), dT _ h3]; rfl
      · rw [dT _ (Int32.not_lt.mp h3), dF _ h3]; rfl
    · rw [dT _ (Int32.not_lt.mp h2), dF _ h2]; rfl
  · rw [dT _ (Int32.not_lt.mp h1), dF _ h1]; rfl
theorem r_isRing (d : Nat) (hl : lvOK l) {m : Nat} (a : rA τ l (vS l) m) {x z w y : Nat} (hx : x < lP l) (hz : z < lP l) (hw : w < lP l) (hy : y < lY l) : Cc (d + 3) n_M_isRing [.ref 200, .int (nI x), .int (nI z), .int (nI w), .int (nI y)] τ = some (.int (bI ((decide (fL l y x z < 0) && decide (fL l y z w < 0) && decide (fL l y w x < 0)) || (decide (fL l y w z < 0) && decide (fL l y z x < 0) && decide (fL l y x w < 0)))), τ) := by
  rw [c_M_isRing]
  simp only [r_hates _ hl a hx hz hy, r_hates _ hl a hz hw hy, r_hates _ hl a hw hx hy, r_hates _ hl a hz hx hy, r_hates _ hl a hw hz hy, r_hates _ hl a hx hw hy, mBI_s, bI_0, bI_n]
  cases decide (fL l y x z < 0) <;> cases decide (fL l y z w < 0) <;> cases decide (fL l y w x < 0) <;> cases decide (fL l y z x < 0) <;> cases decide (fL l y w z < 0) <;> cases decide (fL l y x w < 0) <;> rfl
def riS (P : Nat) (c : Nat → Nat → Nat → Bool) : Int32 := mF (fun a w => mF (fun j w => cnS (P - (a + 1 + j + 1)) (fun k => c a (a + 1 + j) (a + 1 + j + 1 + k)) w) (P - (a + 1)) w) P 0
def rgS (l : Lv) (y : Nat) : Int32 := riS (lP l) (fun a b c => ((decide (fL l y a b < 0) && decide (fL l y b c < 0) && decide (fL l y c a < 0)) || (decide (fL l y c b < 0) && decide (fL l y b a < 0) && decide (fL l y a c < 0))))
theorem k_rings (d : Nat) (t : tL σ l) {y : Nat} (hy : y < lY l) : Xx (d + 3) n_E_rings 15 [.ref 0, .int (nI y), .int 0, .int 0, .null, .null] [] σ = some (.int (rgS l y), σ) := by
  have h1 := lvP t.1
  have inner : ∀ i j (w : Int32), i < lP l → j < lP l - (i + 1) → ∃ v, Xx (d + 3) n_E_rings 49 [.ref 0, .int (nI y), .int w, .int (nI i), .int (nI (i + 1 + j)), .int (nI (i + 1 + j + 1))] [] σ = Xx (d + 3) n_E_rings 31 [.ref 0, .int (nI y), .int (cnS (lP l - (i + 1 + j + 1)) (fun k => ((decide (fL l y i (i + 1 + j) < 0) && decide (fL l y (i + 1 + j) (i + 1 + j + 1 + k) < 0) && decide (fL l y (i + 1 + j + 1 + k) i < 0)) || (decide (fL l y (i + 1 + j + 1 + k) (i + 1 + j) < 0) && decide (fL l y (i + 1 + j) i < 0) && decide (fL l y i (i + 1 + j + 1 + k) < 0)))) w), .int (nI i), .int (nI (i + 1 + (j + 1))), v] [] σ := by
    intro i j w hi hj
    have hk := mFor (fun k (w : Int32) => Xx (d + 3) n_E_rings 49 [.ref 0, .int (nI y), .int w, .int (nI i), .int (nI (i + 1 + j)), .int (nI (i + 1 + j + 1 + k))] [] σ) (fun k w => bif ((decide (fL l y i (i + 1 + j) < 0) && decide (fL l y (i + 1 + j) (i + 1 + j + 1 + k) < 0) && decide (fL l y (i + 1 + j + 1 + k) i < 0)) || (decide (fL l y (i + 1 + j + 1 + k) (i + 1 + j) < 0) && decide (fL l y (i + 1 + j) i < 0) && decide (fL l y i (i + 1 + j + 1 + k) < 0))) then w + 1 else w) (lP l - (i + 1 + j + 1)) w (by
      intro k hk
      generalize mF _ k w = w
      rw [q_E_rings_49, tP t, dle (by omega) (by omega), dF _ (by omega), cF]
      rw [k_isRound _ t hi (by omega) (by omega) hy, mBI_s, bI_n, k_isRound _ t (by omega) (by omega) hi hy, mBI_s, bI_0, nI_1]
      cases (decide (fL l y i (i + 1 + j) < 0) && decide (fL l y (i + 1 + j) (i + 1 + j + 1 + k) < 0) && decide (fL l y (i + 1 + j + 1 + k) i < 0)) <;> cases (decide (fL l y (i + 1 + j + 1 + k) (i + 1 + j) < 0) && decide (fL l y (i + 1 + j) i < 0) && decide (fL l y i (i + 1 + j + 1 + k) < 0)) <;> rfl)
    refine ⟨.int (nI (i + 1 + j + 1 + (lP l - (i + 1 + j + 1)))), hk.trans ?_⟩
    rw [q_E_rings_49, tP t, dle (by omega) (by omega), dT _ (by omega), cT, nI_1]
    rfl
  have mid : ∀ i (w : Int32) (v : Value), i < lP l → ∃ v', Xx (d + 3) n_E_rings 31 [.ref 0, .int (nI y), .int w, .int (nI i), .int (nI (i + 1)), v] [] σ = Xx (d + 3) n_E_rings 15 [.ref 0, .int (nI y), .int (mF (fun j w => cnS (lP l - (i + 1 + j + 1)) (fun k => ((decide (fL l y i (i + 1 + j) < 0) && decide (fL l y (i + 1 + j) (i + 1 + j + 1 + k) < 0) && decide (fL l y (i + 1 + j + 1 + k) i < 0)) || (decide (fL l y (i + 1 + j + 1 + k) (i + 1 + j) < 0) && decide (fL l y (i + 1 + j) i < 0) && decide (fL l y i (i + 1 + j + 1 + k) < 0)))) w) (lP l - (i + 1)) w), .int (nI (i + 1)), .int (nI (i + 1 + (lP l - (i + 1)))), v'] [] σ := by
    intro i w v hi
    obtain ⟨v', hj⟩ := mForH (fun j (w : Int32) (v : Value) => Xx (d + 3) n_E_rings 31 [.ref 0, .int (nI y), .int w, .int (nI i), .int (nI (i + 1 + j)), v] [] σ) (fun j w => cnS (lP l - (i + 1 + j + 1)) (fun k => ((decide (fL l y i (i + 1 + j) < 0) && decide (fL l y (i + 1 + j) (i + 1 + j + 1 + k) < 0) && decide (fL l y (i + 1 + j + 1 + k) i < 0)) || (decide (fL l y (i + 1 + j + 1 + k) (i + 1 + j) < 0) && decide (fL l y (i + 1 + j) i < 0) && decide (fL l y i (i + 1 + j + 1 + k) < 0)))) w) (lP l - (i + 1)) w v (by
      intro j v hj
      generalize mF _ j w = w
      obtain ⟨v', e⟩ := inner i j w hi hj
      refine ⟨v', ?_⟩
      rw [q_E_rings_31, tP t, dle (by omega) (by omega), dF _ (by omega), cF, nI_1]
      exact e)
    refine ⟨v', hj.trans ?_⟩
    rw [q_E_rings_31, tP t, dle (by omega) (by omega), dT _ (by omega), cT, nI_1]
  obtain ⟨v, hs⟩ := mForH (fun i (w : Int32) (v : Value × Value) => Xx (d + 3) n_E_rings 15 [.ref 0, .int (nI y), .int w, .int (nI i), v.1, v.2] [] σ) (fun i w => mF (fun j w => cnS (lP l - (i + 1 + j + 1)) (fun k => ((decide (fL l y i (i + 1 + j) < 0) && decide (fL l y (i + 1 + j) (i + 1 + j + 1 + k) < 0) && decide (fL l y (i + 1 + j + 1 + k) i < 0)) || (decide (fL l y (i + 1 + j + 1 + k) (i + 1 + j) < 0) && decide (fL l y (i + 1 + j) i < 0) && decide (fL l y i (i + 1 + j + 1 + k) < 0)))) w) (lP l - (i + 1)) w) (lP l) 0 (.null, .null) (by
    intro i v hi
    generalize mF _ i (0 : Int32) = w
    obtain ⟨v', e⟩ := mid i w v.2 hi
    refine ⟨(.int (nI (i + 1 + (lP l - (i + 1)))), v'), ?_⟩
    rw [q_E_rings_15, tP t, dle (by omega) (by omega), dF _ (by omega), cF, nI_1]
    exact e)
  exact hs.trans (by rw [q_E_rings_15, tP t, dT _ (Int32.le_refl _), cT] <;> rfl)
theorem r_rings (d : Nat) (hl : lvOK l) {m : Nat} (a : rA τ l (vS l) m) {y : Nat} (hy : y < lY l) : Xx (d + 3) n_M_rings 15 [.ref 200, .int (nI y), .int 0, .int 0, .null, .null] [] τ = some (.int (rgS l y), τ) := by
  have h1 := lvP hl
  have inner : ∀ i j (w : Int32), i < lP l → j < lP l - (i + 1) → ∃ v, Xx (d + 3) n_M_rings 43 [.ref 200, .int (nI y), .int w, .int (nI i), .int (nI (i + 1 + j)), .int (nI (i + 1 + j + 1))] [] τ = Xx (d + 3) n_M_rings 28 [.ref 200, .int (nI y), .int (cnS (lP l - (i + 1 + j + 1)) (fun k => ((decide (fL l y i (i + 1 + j) < 0) && decide (fL l y (i + 1 + j) (i + 1 + j + 1 + k) < 0) && decide (fL l y (i + 1 + j + 1 + k) i < 0)) || (decide (fL l y (i + 1 + j + 1 + k) (i + 1 + j) < 0) && decide (fL l y (i + 1 + j) i < 0) && decide (fL l y i (i + 1 + j + 1 + k) < 0)))) w), .int (nI i), .int (nI (i + 1 + (j + 1))), v] [] τ := by
    intro i j w hi hj
    have hk := mFor (fun k (w : Int32) => Xx (d + 3) n_M_rings 43 [.ref 200, .int (nI y), .int w, .int (nI i), .int (nI (i + 1 + j)), .int (nI (i + 1 + j + 1 + k))] [] τ) (fun k w => bif ((decide (fL l y i (i + 1 + j) < 0) && decide (fL l y (i + 1 + j) (i + 1 + j + 1 + k) < 0) && decide (fL l y (i + 1 + j + 1 + k) i < 0)) || (decide (fL l y (i + 1 + j + 1 + k) (i + 1 + j) < 0) && decide (fL l y (i + 1 + j) i < 0) && decide (fL l y i (i + 1 + j + 1 + k) < 0))) then w + 1 else w) (lP l - (i + 1 + j + 1)) w (by
      intro k hk
      generalize mF _ k w = w
      rw [q_M_rings_43, r_persons, mBI_s, lM_P a.1.1, dle (by omega) (by omega), dF _ (by omega), cF]
      rw [r_isRing _ hl a hi (by omega) (by omega) hy, mBI_s, bI_0, nI_1, add_0]
      cases ((decide (fL l y i (i + 1 + j) < 0) && decide (fL l y (i + 1 + j) (i + 1 + j + 1 + k) < 0) && decide (fL l y (i + 1 + j + 1 + k) i < 0)) || (decide (fL l y (i + 1 + j + 1 + k) (i + 1 + j) < 0) && decide (fL l y (i + 1 + j) i < 0) && decide (fL l y i (i + 1 + j + 1 + k) < 0))) <;> rfl)
    refine ⟨.int (nI (i + 1 + j + 1 + (lP l - (i + 1 + j + 1)))), hk.trans ?_⟩
    rw [q_M_rings_43, r_persons, mBI_s, lM_P a.1.1, dle (by omega) (by omega), dT _ (by omega), cT, nI_1]
    rfl
  have mid : ∀ i (w : Int32) (v : Value), i < lP l → ∃ v', Xx (d + 3) n_M_rings 28 [.ref 200, .int (nI y), .int w, .int (nI i), .int (nI (i + 1)), v] [] τ = Xx (d + 3) n_M_rings 15 [.ref 200, .int (nI y), .int (mF (fun j w => cnS (lP l - (i + 1 + j + 1)) (fun k => ((decide (fL l y i (i + 1 + j) < 0) && decide (fL l y (i + 1 + j) (i + 1 + j + 1 + k) < 0) && decide (fL l y (i + 1 + j + 1 + k) i < 0)) || (decide (fL l y (i + 1 + j + 1 + k) (i + 1 + j) < 0) && decide (fL l y (i + 1 + j) i < 0) && decide (fL l y i (i + 1 + j + 1 + k) < 0)))) w) (lP l - (i + 1)) w), .int (nI (i + 1)), .int (nI (i + 1 + (lP l - (i + 1)))), v'] [] τ := by
    intro i w v hi
    obtain ⟨v', hj⟩ := mForH (fun j (w : Int32) (v : Value) => Xx (d + 3) n_M_rings 28 [.ref 200, .int (nI y), .int w, .int (nI i), .int (nI (i + 1 + j)), v] [] τ) (fun j w => cnS (lP l - (i + 1 + j + 1)) (fun k => ((decide (fL l y i (i + 1 + j) < 0) && decide (fL l y (i + 1 + j) (i + 1 + j + 1 + k) < 0) && decide (fL l y (i + 1 + j + 1 + k) i < 0)) || (decide (fL l y (i + 1 + j + 1 + k) (i + 1 + j) < 0) && decide (fL l y (i + 1 + j) i < 0) && decide (fL l y i (i + 1 + j + 1 + k) < 0)))) w) (lP l - (i + 1)) w v (by
      intro j v hj
      generalize mF _ j w = w
      obtain ⟨v', e⟩ := inner i j w hi hj
      refine ⟨v', ?_⟩
      rw [q_M_rings_28, r_persons, mBI_s, lM_P a.1.1, dle (by omega) (by omega), dF _ (by omega), cF, nI_1]
      exact e)
    refine ⟨v', hj.trans ?_⟩
    rw [q_M_rings_28, r_persons, mBI_s, lM_P a.1.1, dle (by omega) (by omega), dT _ (by omega), cT, nI_1]
  obtain ⟨v, hs⟩ := mForH (fun i (w : Int32) (v : Value × Value) => Xx (d + 3) n_M_rings 15 [.ref 200, .int (nI y), .int w, .int (nI i), v.1, v.2] [] τ) (fun i w => mF (fun j w => cnS (lP l - (i + 1 + j + 1)) (fun k => ((decide (fL l y i (i + 1 + j) < 0) && decide (fL l y (i + 1 + j) (i + 1 + j + 1 + k) < 0) && decide (fL l y (i + 1 + j + 1 + k) i < 0)) || (decide (fL l y (i + 1 + j + 1 + k) (i + 1 + j) < 0) && decide (fL l y (i + 1 + j) i < 0) && decide (fL l y i (i + 1 + j + 1 + k) < 0)))) w) (lP l - (i + 1)) w) (lP l) 0 (.null, .null) (by
    intro i v hi
    generalize mF _ i (0 : Int32) = w
    obtain ⟨v', e⟩ := mid i w v.2 hi
    refine ⟨(.int (nI (i + 1 + (lP l - (i + 1)))), v'), ?_⟩
    rw [q_M_rings_15, r_persons, mBI_s, lM_P a.1.1, dle (by omega) (by omega), dF _ (by omega), cF, nI_1]
    exact e)
  exact hs.trans (by rw [q_M_rings_15, r_persons, mBI_s, lM_P a.1.1, dT _ (Int32.le_refl _), cT] <;> rfl)
theorem t_rings (D : Nat) (t : tL σ l) (x : Int32) : qry (D + 12) n_E_rings n_M_rings [.ref 0, .int x, .null, .null, .null, .null] [.ref 200, .int x, .null, .null, .null, .null] σ := by
  have h1 := lvP t.1
  have h2 := lvY t.1
  have h3 := lvQ t.1
  have h4 := lvLn t.1
  obtain ⟨τ, e, s, a⟩ := r_asksYear (D + 1) x t.1 t.2.2.2
  unfold qry
  rw [c_E_rings, k_isYear _ x σ (tY t) (by omega), c_M_rings]
  rw [e]
  simp only [mBI_s, bI_0, bI_n]
  cases hx : mIn x (lY l) with
  | false => exact ⟨-2, τ, by simp [*], by simp [*], s⟩
  | true =>
    obtain ⟨j, hj, rfl⟩ := mIn_of hx
    simp only [Bool.and_true, Bool.true_and, Bool.not_true, Bool.not_false, cond_true, cond_false]
    rw [k_rings _ t hj, r_rings _ t.1 a hj]
    exact ⟨_, τ, rfl, rfl, s⟩
