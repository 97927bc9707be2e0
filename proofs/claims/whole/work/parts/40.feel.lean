/-! ===== questions on feelings ===== -/
def fL (l : Lv) (y p q : Nat) : Int32 := fE l (vS l) y (6 * p + q)
/-- both sides have one land, and the class has its course ready -/
def tL (σ : mS) (l : Lv) : Prop := lvOK l ∧ lC σ 40 l ∧ cR σ 20 l (vS l) ∧ lM (σ.1 201) l
/-- both answer alike, and nothing that counts has changed -/
def qry (D mE mM : Nat) (aE aM : List Value) (σ : mS) : Prop := ∃ v τ, Cc D mE aE σ = some (.int v, σ) ∧ Cc D mM aM σ = some (.int v, τ) ∧ sM σ τ
variable {σ τ : mS} {l : Lv}
theorem tP (t : tL σ l) : σ.1 40 3 = nI (lP l) := t.2.1.1.2.2.2.1
theorem tY (t : tL σ l) : σ.1 40 0 = nI (lY l) := t.2.1.1.1
theorem tQ (t : tL σ l) : σ.1 40 5 = nI (lQ l) := t.2.1.1.2.2.2.2.2.1
theorem tLn (t : tL σ l) : σ.1 40 6 = nI (lLn l) := t.2.1.1.2.2.2.2.2.2
theorem fL_bw (hl : lvOK l) (y : Nat) {p q : Nat} (hp : p < lP l) (hq : q < lP l) : bw (-60) (fL l y p q) 60 := by
  have := lvP hl
  exact fE_bw hl (vS_ok hl) y (by omega)
theorem fL_0 (hl : lvOK l) (y : Nat) {p : Nat} (hp : p < lP l) : fL l y p p = 0 := by
  have := lvP hl
  unfold fL
  rw [show 6 * p + p = 7 * p by omega]
  exact fE_diag hl (vS_ok hl) y (by omega)
theorem k_fe (d : Nat) (t : tL σ l) {p q y : Nat} (hp : p < lP l) (hq : q < lP l) (hy : y < lY l) : Cc (d + 1) n_Co_feeling [.ref 20, .int (nI p), .int (nI q), .int (nI y)] σ = some (.int (fL l y p q), σ) := by
  have h1 := lvP t.1
  have h2 := lvY t.1
  rw [k_feeling d 20 (Or.inl rfl) (by omega) (by omega) (by omega)]
  rw [show σ.1 (20 + 3) (36 * y + (6 * p + q)) = fL l y p q from t.2.2.1.2.1 y hy _ (by omega)]
theorem r_fe (d : Nat) (hl : lvOK l) {m : Nat} (a : rA τ l (vS l) m) {p q y : Nat} (hp : p < lP l) (hq : q < lP l) (hy : y < lY l) : Cc (d + 1) n_M_feeling [.ref 200, .int (nI p), .int (nI q), .int (nI y)] τ = some (.int (fL l y p q), τ) := by
  have h1 := lvP hl
  have h2 := lvY hl
  rw [r_feeling d (by omega) (by omega) (by omega), a.2.1.2.1 y hy _ (by omega)]
  rfl
/-- persons of a kind as bits -/
def stS (P : Nat) (c : Nat → Bool) : Int32 := mF (fun k s => bif c k then s ||| (1 <<< (nI k &&& 31)) else s) P 0
theorem stS_eq {P : Nat} {c c' : Nat → Bool} (h : ∀ k, k < P → c k = c' k) : stS P c = stS P c' := mF_congr _ _ P 0 (fun k hk => by rw [h k hk])
theorem or_0 (x : Int32) : x ||| 0 = x := Int32.or_zero
theorem k_towards (d : Nat) (t : tL σ l) {p y : Nat} (hp : p < lP l) (hy : y < lY l) (s : Int32) : Cc (d + 2) n_Co_towards [.ref 20, .int (nI p), .int (nI y), .int s, .null, .null] σ = some (.int (stS (lP l) (fun k => !(decide (k = p)) && decide (sg (fL l y k p) = s))), σ) := by
  have h1 := lvP t.1
  rw [c_Co_towards _ _ _ _ _ (Or.inl rfl)]
  have hs := mFor (fun k (w : Int32) => Xx (d + 1) n_Co_towards 6 [.ref 20, .int (nI p), .int (nI y), .int s, .int w, .int (nI k)] [] σ) (fun k w => bif (!(decide (k = p)) && decide (sg (fL l y k p) = s)) then w ||| (1 <<< (nI k &&& 31)) else w) (lP l) 0 (by
    intro k hk
    generalize mF _ k (0 : Int32) = w
    rw [q_Co_towards_6 _ _ _ _ _ _ _ (Or.inl rfl), tP t, dle (by omega) (by omega), dF _ (by omega), cF, deq (by omega) (by omega), k_fe d t hk hp hy, mBI_s, k_signOf, mBI_s, nI_1]
    by_cases h1 : k = p <;> by_cases h2 : sg (fL l y k p) = s <;> simp [h1, h2])
  exact hs.trans (by rw [q_Co_towards_6 _ _ _ _ _ _ _ (Or.inl rfl), tP t, dT _ (Int32.le_refl _), cT]; rfl)
theorem r_enemiesOf (d : Nat) (hl : lvOK l) {m : Nat} (a : rA τ l (vS l) m) {p y : Nat} (hp : p < lP l) (hy : y < lY l) : Cc (d + 2) n_M_enemiesOf [.ref 200, .int (nI p), .int (nI y), .null, .null] τ = some (.int (stS (lP l) (fun k => !(decide (k = p)) && decide (fL l y k p < 0))), τ) := by
  have h1 := lvP hl
  rw [c_M_enemiesOf]
  have hs := mFor (fun k (w : Int32) => Xx (d + 1) n_M_enemiesOf 5 [.ref 200, .int (nI p), .int (nI y), .int w, .int (nI k)] [] τ) (fun k w => bif (!(decide (k = p)) && decide (fL l y k p < 0)) then w ||| (1 <<< (nI k &&& 31)) else w) (lP l) 0 (by
    intro k hk
    generalize mF _ k (0 : Int32) = w
    rw [q_M_enemiesOf_5, r_persons, mBI_s, lM_P a.1.1, dle (by omega) (by omega), dF _ (by omega), cF, deq (by omega) (by omega), r_fe d hl a hk hp hy, mBI_s, nI_1, or_0]
    by_cases h1 : k = p
    · rw [dT _ h1]; rfl
    · rw [dF _ h1]
      by_cases h2 : fL l y k p < 0
      · rw [dF _ (Int32.not_le.mpr h2), dT _ h2]; rfl
      · rw [dT _ (Int32.not_lt.mp h2), dF _ h2]; rfl)
  exact hs.trans (by rw [q_M_enemiesOf_5, r_persons, mBI_s, lM_P a.1.1, dT _ (Int32.le_refl _), cT]; rfl)
theorem r_friendsOf (d : Nat) (hl : lvOK l) {m : Nat} (a : rA τ l (vS l) m) {p y : Nat} (hp : p < lP l) (hy : y < lY l) : Cc (d + 2) n_M_friendsOf [.ref 200, .int (nI p), .int (nI y), .null, .null] τ = some (.int (stS (lP l) (fun k => !(decide (k = p)) && decide (0 < fL l y k p))), τ) := by
  have h1 := lvP hl
  rw [c_M_friendsOf]
  have hs := mFor (fun k (w : Int32) => Xx (d + 1) n_M_friendsOf 5 [.ref 200, .int (nI p), .int (nI y), .int w, .int (nI k)] [] τ) (fun k w => bif (!(decide (k = p)) && decide (0 < fL l y k p)) then w ||| (1 <<< (nI k &&& 31)) else w) (lP l) 0 (by
    intro k hk
    generalize mF _ k (0 : Int32) = w
    rw [q_M_friendsOf_5, r_persons, mBI_s, lM_P a.1.1, dle (by omega) (by omega), dF _ (by omega), cF, deq (by omega) (by omega), r_fe d hl a hk hp hy, mBI_s, nI_1, or_0]
    by_cases h1 : k = p
    · rw [dT _ h1]; rfl
    · rw [dF _ h1]
      by_cases h2 : 0 < fL l y k p
      · rw [dF _ (Int32.not_le.mpr h2), dT _ h2]; rfl
      · rw [dT _ (Int32.not_lt.mp h2), dF _ h2]; rfl)
  exact hs.trans (by rw [q_M_friendsOf_5, r_persons, mBI_s, lM_P a.1.1, dT _ (Int32.le_refl _), cT]; rfl)
theorem sg_m1 (v : Int32) : decide (sg v = -1) = decide (v < 0) := by
  unfold sg
  by_cases h : v = 0
  · rw [if_pos h, h]; decide
  · rw [if_neg h]
    by_cases h2 : v < 0
    · rw [if_pos h2, dT _ h2]; decide
    · rw [if_neg h2, dF _ h2]; decide
theorem sg_p1 (v : Int32) : decide (sg v = 1) = decide (0 < v) := by
  unfold sg
  by_cases h : v = 0
  · rw [if_pos h, h]; decide
  · rw [if_neg h]
    by_cases h2 : v < 0
    · rw [if_pos h2, dF (p := 0 < v) _ (Int32.not_lt.mpr (Int32.le_of_lt h2))]; decide
    · rw [if_neg h2, dT (p := 0 < v) _ (by
        rcases Int32.lt_or_eq_of_le (Int32.not_lt.mp h2) with g | g
        · exact g
        · exact absurd g.symm h)]
      decide
theorem sg_z (v : Int32) : decide (sg v = 0) = decide (v = 0) := by
  unfold sg
  by_cases h : v = 0
  · rw [if_pos h, dT _ h]; decide
  · rw [if_neg h, dF _ h]
    by_cases h2 : v < 0
    · rw [if_pos h2]; decide
    · rw [if_neg h2]; decide
