/-! ===== words and posts ===== -/
variable {σ τ : mS} {l : Lv}
theorem rA_pN {v : Va} {m : Nat} (a : rA τ l v m) (u : Int32) : rA (pN τ u) l v m := by
  refine ⟨rV_c a.1 (pN_ne _ _ (by decide)) (fun k _ _ => pN_k _ _ (by omega)) (pN_ne _ _ (by decide)) (pN_ne _ _ (by decide)) (pN_ne _ _ (by decide)) (pN_ne _ _ (by decide)), rF1_pN a.2.1 u, ?_⟩
  unfold rG
  rw [pN_ne _ _ (by decide), pN_ne _ _ (by decide)]
  exact a.2.2
theorem k_wf (d : Nat) (t : tL σ l) {p q : Nat} (hp : p < lP l) (hq : q < lQ l) : Cc (d + 1) n_Co_wordFor [.ref 20, .int (nI p), .int (nI q)] σ = some (.int (wd l (vS l) q p), σ) := by
  have h1 := lvP t.1
  have h3 := lvQ t.1
  rw [k_wordFor d 20 (Or.inl rfl) (by omega) (by omega), t.2.2.1.2.2.1 q hq p hp]
theorem r_fw (d : Nat) (hl : lvOK l) {m : Nat} (a : rA τ l (vS l) m) {p q : Nat} (hp : p < lP l) (hq : q < lQ l) (u : Int32) : ∃ u', Cc (d + 5) n_M_fullWord [.ref 200, .int (nI p), .int (nI q)] (pN τ u) = some (.int (wd l (vS l) q p), pN τ u') ∧ ∀ w, wrO l (vS l) q p (fun _ => true) = some w → u' = w := by
  obtain ⟨u', e, h⟩ := r_fullWord d hl (vS_ok hl) hp hq (rF1_pN a.2.1 u)
  rw [pN_pN] at e
  exact ⟨u', e, h⟩
theorem pN_i (τ : mS) : τ = pN τ (τ.1 200 27) := (pN_self τ).symm
theorem wd_none {v : Va} {q p : Nat} (hl : lvOK l) (hv : vaOK v) (hp : p < lP l) : wd l v q p = -1 ↔ wrO l v q p (fun _ => true) = none := by
  unfold wd wdV
  cases wrO l v q p (fun _ => true) with
  | none => exact ⟨fun _ => rfl, fun _ => rfl⟩
  | some w =>
    have h := (hbS_bw (lvP hl) (fw_bw hl hv q hp) (bt w)).1
    constructor
    · intro e
      rw [show hbS (lP l) (fw l v q p) (bt w) = -1 from e] at h
      exact absurd h (by decide)
    · intro e; cases e
theorem wd_neg {v : Va} {q p : Nat} (hl : lvOK l) (hv : vaOK v) (hp : p < lP l) : wd l v q p < 0 ↔ wd l v q p = -1 := by
  have h := (wd_bw hl hv q hp).1
  constructor
  · intro e
    have := i_lt.mp e
    rw [Int32.toInt_zero] at this
    exact Int32.toInt_inj.mp (by rw [show (-1 : Int32).toInt = -1 by decide]; omega)
  · intro e; rw [e]; decide
theorem win_lt {v : Va} (hl : lvOK l) {q p : Nat} (h : win l v q = some p) : p < lP l := by
  have key := mF_inv (fun _ (g : G3) => ∀ q p, g.2.1 q = some p → p < lP l) (gvY l (wd l v)) (lY l) gv0 (fun q p h => by cases h) (fun y g _ hg => by
    refine mF_inv (fun _ (g : G3) => ∀ q p, g.2.1 q = some p → p < lP l) (gvQ l (wd l v) y) (lQ l) g hg (fun k b hk hb q p h => ?_) (lQ l) (Nat.le_refl _)
    unfold gvQ at h
    split at h
    · have h : updO b.2.1 k (gvB l (wd l v) k b.1) q = some p := h
      unfold updO at h
      split at h
      · exact gvB_lt h
      · exact hb q p h
    · exact hb q p h) (lY l) (Nat.le_refl _)
  exact key q p h
theorem tWin (t : tL σ l) {q : Nat} (hq : q < lQ l) : σ.1 25 q = oI (win l (vS l) q) := t.2.2.1.2.2.2 q (by have := lvQ t.1; omega)
theorem aWin (hl : lvOK l) {m : Nat} (a : rA τ l (vS l) m) {q : Nat} (hq : q < lQ l) : τ.1 225 q = oI (win l (vS l) q) := a.2.2.1 q (by have := lvQ hl; omega)
theorem aNxt (hl : lvOK l) {m : Nat} (a : rA τ l (vS l) m) {q : Nat} (hq : q < lQ l) : τ.1 226 q = oI (nxt l (vS l) q) := a.2.2.2 q (by have := lvQ hl; omega)
theorem t_skills (D : Nat) (t : tL σ l) (x : Int32) : qry (D + 12) n_E_skills n_M_skills [.ref 0, .int x] [.ref 200, .int x] σ := by
  have h1 := lvP t.1
  have h2 := lvY t.1
  have h3 := lvQ t.1
  have h4 := lvLn t.1
  unfold qry
  rw [c_E_skills, k_isPerson _ x σ (tP t) (by omega), c_M_skills]
  rw [r_isPerson _ x σ (lM_P t.2.2.2) (by omega)]
  simp only [mBI_s, bI_0, bI_n]
  cases hx : mIn x (lP l) with
  | false => exact ⟨-2, σ, by simp [*], by simp [*], sM_r σ⟩
  | true =>
    obtain ⟨p, hp, rfl⟩ := mIn_of hx
    simp only [Bool.and_true, Bool.true_and, Bool.not_true, Bool.not_false, cond_true, cond_false]
    rw [mIn_nI (by omega) (by omega), cT, nI_clamp (by omega), show σ.1 41 p = lSk l p from t.2.1.2.1 p hp, show (9 : Int32) = nI 9 from rfl, nI_add, mIn_nI (by omega) (by omega), cT, nI_clamp (by omega), t.2.2.2.2.1 p hp]
    exact ⟨_, σ, rfl, rfl, sM_r σ⟩
theorem t_needs (D : Nat) (t : tL σ l) (x : Int32) : qry (D + 12) n_E_needs n_M_needs [.ref 0, .int x] [.ref 200, .int x] σ := by
  have h1 := lvP t.1
  have h2 := lvY t.1
  have h3 := lvQ t.1
  have h4 := lvLn t.1
  unfold qry
  rw [c_E_needs, k_isPost _ x σ (tQ t) (by omega), c_M_needs]
  rw [r_isPost _ x σ (lM_Q t.2.2.2) (by omega)]
  simp only [mBI_s, bI_0, bI_n]
  cases hx : mIn x (lQ l) with
  | false => exact ⟨-2, σ, by simp [*], by simp [*], sM_r σ⟩
  | true =>
    obtain ⟨q, hq, rfl⟩ := mIn_of hx
    simp only [Bool.and_true, Bool.true_and, Bool.not_true, Bool.not_false, cond_true, cond_false]
    rw [mIn_nI (by omega) (by omega), cT, nI_clamp (by omega), show σ.1 43 q = lAs l q from (t.2.1.2.2.2.1 q hq).1, r_needsOf _ (by omega), lM_as t.2.2.2 hq]
    exact ⟨_, σ, rfl, rfl, sM_r σ⟩
theorem t_year (D : Nat) (t : tL σ l) (x : Int32) : qry (D + 12) n_E_year n_M_year [.ref 0, .int x] [.ref 200, .int x] σ := by
  have h1 := lvP t.1
  have h2 := lvY t.1
  have h3 := lvQ t.1
  have h4 := lvLn t.1
  unfold qry
  rw [c_E_year, k_isPost _ x σ (tQ t) (by omega), c_M_year]
  rw [r_isPost _ x σ (lM_Q t.2.2.2) (by omega)]
  simp only [mBI_s, bI_0, bI_n]
  cases hx : mIn x (lQ l) with
  | false => exact ⟨-2, σ, by simp [*], by simp [*], sM_r σ⟩
  | true =>
    obtain ⟨q, hq, rfl⟩ := mIn_of hx
    simp only [Bool.and_true, Bool.true_and, Bool.not_true, Bool.not_false, cond_true, cond_false]
    rw [mIn_nI (by omega) (by omega), cT, nI_clamp (by omega), show σ.1 44 q = nI (lWh l q) from (t.2.1.2.2.2.1 q hq).2, r_yearOf _ (by omega), lM_wh t.2.2.2 hq]
    exact ⟨_, σ, rfl, rfl, sM_r σ⟩
theorem t_lacks (D : Nat) (t : tL σ l) (x y : Int32) : qry (D + 12) n_E_lacks n_M_lacks [.ref 0, .int x, .int y] [.ref 200, .int x, .int y] σ := by
  have h1 := lvP t.1
  have h2 := lvY t.1
  have h3 := lvQ t.1
  have h4 := lvLn t.1
  unfold qry
  rw [c_E_lacks, k_isFor _ x y σ (tP t) (by omega) (tQ t) (by omega), c_M_lacks]
  rw [r_isPerson _ x σ (lM_P t.2.2.2) (by omega)]
  simp only [mBI_s]
  rw [r_isPost _ y σ (lM_Q t.2.2.2) (by omega)]
  simp only [mBI_s, bI_0, bI_n]
  cases hx : mIn x (lP l) with
  | false => exact ⟨-2, σ, by simp [*], by simp [*], sM_r σ⟩
  | true =>
    cases hy : mIn y (lQ l) with
    | false => exact ⟨-2, σ, by simp [*], by simp [*], sM_r σ⟩
    | true =>
      obtain ⟨p, hp, rfl⟩ := mIn_of hx
      obtain ⟨q, hq, rfl⟩ := mIn_of hy
      simp only [Bool.and_true, Bool.true_and, Bool.not_true, Bool.not_false, cond_true, cond_false]
      rw [mIn_nI (by omega) (by omega), mIn_nI (by omega) (by omega), cT, cT, nI_clamp (by omega), nI_clamp (by omega), show σ.1 43 q = lAs l q from (t.2.1.2.2.2.1 q hq).1, show σ.1 41 p = lSk l p from t.2.1.2.1 p hp, r_needsOf _ (by omega), mBI_s, lM_as t.2.2.2 hq, show (9 : Int32) = nI 9 from rfl, nI_add, mIn_nI (by omega) (by omega), cT, nI_clamp (by omega), t.2.2.2.2.1 p hp]
      exact ⟨_, σ, rfl, rfl, sM_r σ⟩
theorem t_gets (D : Nat) (t : tL σ l) (x : Int32) : qry (D + 13) n_E_gets n_M_gets [.ref 0, .int x] [.ref 200, .int x] σ := by
  have h1 := lvP t.1
  have h2 := lvY t.1
  have h3 := lvQ t.1
  have h4 := lvLn t.1
  obtain ⟨τ, e, s, a⟩ := r_asksPost (D + 2) x t.1 t.2.2.2
  unfold qry
  rw [c_E_gets, k_isPost _ x σ (tQ t) (by omega), c_M_gets]
  rw [e]
  simp only [mBI_s, bI_0, bI_n]
  cases hx : mIn x (lQ l) with
  | false => exact ⟨-2, τ, by simp [*], by simp [*], s⟩
  | true =>
    obtain ⟨q, hq, rfl⟩ := mIn_of hx
    simp only [Bool.and_true, Bool.true_and, Bool.not_true, Bool.not_false, cond_true, cond_false]
    rw [mIn_nI (by omega) (by omega), cT, cT, nI_clamp (by omega), tWin t hq, aWin t.1 a hq]
    exact ⟨_, τ, rfl, rfl, s⟩
theorem t_word (D : Nat) (t : tL σ l) (x y : Int32) : qry (D + 13) n_E_word n_M_word [.ref 0, .int x, .int y] [.ref 200, .int x, .int y] σ := by
  have h1 := lvP t.1
  have h2 := lvY t.1
  have h3 := lvQ t.1
  have h4 := lvLn t.1
  obtain ⟨τ, e, s, a⟩ := r_asksPost (D + 2) y t.1 t.2.2.2
  unfold qry
  rw [c_E_word, k_isFor _ x y σ (tP t) (by omega) (tQ t) (by omega), c_M_word]
  rw [e]
  simp only [mBI_s]
  rw [r_isPerson _ x τ (lM_P a.1.1) (by omega)]
  simp only [mBI_s, bI_0, bI_n]
  cases hx : mIn x (lP l) with
  | false => exact ⟨-2, τ, by simp [*], by simp [*], s⟩
  | true =>
    cases hy : mIn y (lQ l) with
    | false => exact ⟨-2, τ, by simp [*], by simp [*], s⟩
    | true =>
      obtain ⟨p, hp, rfl⟩ := mIn_of hx
      obtain ⟨q, hq, rfl⟩ := mIn_of hy
      simp only [Bool.and_true, Bool.true_and, Bool.not_true, Bool.not_false, cond_true, cond_false]
      obtain ⟨u, eu, hu⟩ := r_fw (D + 7) t.1 a hp hq (τ.1 200 27)
      rw [← pN_i] at eu
      rw [k_wf _ t hp hq, eu]
      exact ⟨_, _, rfl, rfl, sM_t s (sM_pN _ u)⟩
theorem t_pens (D : Nat) (t : tL σ l) (x y : Int32) : qry (D + 13) n_E_pens n_M_pens [.ref 0, .int x, .int y] [.ref 200, .int x, .int y] σ := by
  have h1 := lvP t.1
  have h2 := lvY t.1
  have h3 := lvQ t.1
  have h4 := lvLn t.1
  obtain ⟨τ, e, s, a⟩ := r_asksPost (D + 2) y t.1 t.2.2.2
  unfold qry
  rw [c_E_pens, k_isFor _ x y σ (tP t) (by omega) (tQ t) (by omega), c_M_pens]
  rw [e]
  simp only [mBI_s]
  rw [r_isPerson _ x τ (lM_P a.1.1) (by omega)]
  simp only [mBI_s, bI_0, bI_n]
  cases hx : mIn x (lP l) with
  | false => exact ⟨-2, τ, by simp [*], by simp [*], s⟩
  | true =>
    cases hy : mIn y (lQ l) with
    | false => exact ⟨-2, τ, by simp [*], by simp [*], s⟩
    | true =>
      obtain ⟨p, hp, rfl⟩ := mIn_of hx
      obtain ⟨q, hq, rfl⟩ := mIn_of hy
      simp only [Bool.and_true, Bool.true_and, Bool.not_true, Bool.not_false, cond_true, cond_false]
      obtain ⟨u, eu, hu⟩ := r_fw (D + 7) t.1 a hp hq (τ.1 200 27)
      rw [← pN_i] at eu
      rw [k_everybody _ _ (tP t), mBI_s, k_wr _ 20 (Or.inl rfl) t.1 hp hq _ t.2.1 t.2.2.1.1 t.2.2.1.2.1, wrO_ev t.1, eu]
      simp only [mBI_s]
      have hm := wd_none (q := q) t.1 (vS_ok t.1) hp
      cases hw : wrO l (vS l) q p (fun _ => true) with
      | none =>
        rw [hm.mpr hw, m1n]
        exact ⟨_, _, rfl, rfl, sM_t s (sM_pN _ u)⟩
      | some w =>
        rw [dT _ (fun q => by rw [hm.mp q] at hw; cases hw), cT, pN_27, hu w hw]
        exact ⟨_, _, rfl, rfl, sM_t s (sM_pN _ w)⟩
