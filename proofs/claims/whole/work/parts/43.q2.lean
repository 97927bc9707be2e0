/-! ===== questions on feelings: hate, worst, dearest, foe ===== -/
variable {σ τ : mS} {l : Lv}
theorem t_hate (D : Nat) (t : tL σ l) (x y : Int32) : qry (D + 12) n_E_hate n_M_hate [.ref 0, .int x, .int y] [.ref 200, .int x, .int y] σ := by
  have h1 := lvP t.1
  have h2 := lvY t.1
  have h3 := lvQ t.1
  have h4 := lvLn t.1
  obtain ⟨τ, e, s, a⟩ := r_asksYear (D + 1) y t.1 t.2.2.2
  unfold qry
  rw [c_E_hate, k_isThen _ x y σ (tP t) (by omega) (tY t) (by omega), c_M_hate]
  rw [e]
  simp only [mBI_s]
  rw [r_isPerson _ x τ (lM_P a.1.1) (by omega)]
  simp only [mBI_s, bI_0, bI_n]
  cases hx : mIn x (lP l) with
  | false => exact ⟨-2, τ, by simp [*], by simp [*], s⟩
  | true =>
    cases hy : mIn y (lY l) with
    | false => exact ⟨-2, τ, by simp [*], by simp [*], s⟩
    | true =>
      obtain ⟨p, hp, rfl⟩ := mIn_of hx
      obtain ⟨j, hj, rfl⟩ := mIn_of hy
      simp only [Bool.and_true, Bool.true_and, Bool.not_true, Bool.not_false, cond_true, cond_false]
      rw [k_everybody _ _ (tP t), mBI_s, k_hat _ t hp hj, r_hateOf _ t.1 a hp hj]
      exact ⟨_, τ, rfl, rfl, s⟩
theorem t_worst (D : Nat) (t : tL σ l) (x y : Int32) : qry (D + 12) n_E_worst n_M_worst [.ref 0, .int x, .int y] [.ref 200, .int x, .int y, .null, .null] σ := by
  have h1 := lvP t.1
  have h2 := lvY t.1
  have h3 := lvQ t.1
  have h4 := lvLn t.1
  obtain ⟨τ, e, s, a⟩ := r_asksYear (D + 1) y t.1 t.2.2.2
  unfold qry
  rw [c_E_worst, k_isThen _ x y σ (tP t) (by omega) (tY t) (by omega), c_M_worst]
  rw [e]
  simp only [mBI_s]
  rw [r_isPerson _ x τ (lM_P a.1.1) (by omega)]
  simp only [mBI_s, bI_0, bI_n]
  cases hx : mIn x (lP l) with
  | false => exact ⟨-2, τ, by simp [*], by simp [*], s⟩
  | true =>
    cases hy : mIn y (lY l) with
    | false => exact ⟨-2, τ, by simp [*], by simp [*], s⟩
    | true =>
      obtain ⟨p, hp, rfl⟩ := mIn_of hx
      obtain ⟨j, hj, rfl⟩ := mIn_of hy
      simp only [Bool.and_true, Bool.true_and, Bool.not_true, Bool.not_false, cond_true, cond_false]
      rw [k_everybody _ _ (tP t), mBI_s, k_wst _ t hp hj, r_wst _ t.1 a hp hj]
      exact ⟨_, τ, rfl, rfl, s⟩
theorem t_dearest (D : Nat) (t : tL σ l) (x y : Int32) : qry (D + 12) n_E_dearest n_M_dearest [.ref 0, .int x, .int y, .null, .null, .null, .null] [.ref 200, .int x, .int y, .null, .null] σ := by
  have h1 := lvP t.1
  have h2 := lvY t.1
  have h3 := lvQ t.1
  have h4 := lvLn t.1
  obtain ⟨τ, e, s, a⟩ := r_asksYear (D + 1) y t.1 t.2.2.2
  unfold qry
  rw [c_E_dearest, k_isThen _ x y σ (tP t) (by omega) (tY t) (by omega), c_M_dearest]
  rw [e]
  simp only [mBI_s]
  rw [r_isPerson _ x τ (lM_P a.1.1) (by omega)]
  simp only [mBI_s, bI_0, bI_n]
  cases hx : mIn x (lP l) with
  | false => exact ⟨-2, τ, by simp [*], by simp [*], s⟩
  | true =>
    cases hy : mIn y (lY l) with
    | false => exact ⟨-2, τ, by simp [*], by simp [*], s⟩
    | true =>
      obtain ⟨p, hp, rfl⟩ := mIn_of hx
      obtain ⟨j, hj, rfl⟩ := mIn_of hy
      simp only [Bool.and_true, Bool.true_and, Bool.not_true, Bool.not_false, cond_true, cond_false]
      rw [k_dea _ t hp hj, r_dea _ t.1 a hp hj]
      exact ⟨_, τ, rfl, rfl, s⟩
theorem t_foe (D : Nat) (t : tL σ l) (x y : Int32) : qry (D + 12) n_E_foe n_M_foe [.ref 0, .int x, .int y, .null, .null, .null, .null] [.ref 200, .int x, .int y, .null, .null] σ := by
  have h1 := lvP t.1
  have h2 := lvY t.1
  have h3 := lvQ t.1
  have h4 := lvLn t.1
  obtain ⟨τ, e, s, a⟩ := r_asksYear (D + 1) y t.1 t.2.2.2
  unfold qry
  rw [c_E_foe, k_isThen _ x y σ (tP t) (by omega) (tY t) (by omega), c_M_foe]
  rw [e]
  simp only [mBI_s]
  rw [r_isPerson _ x τ (lM_P a.1.1) (by omega)]
  simp only [mBI_s, bI_0, bI_n]
  cases hx : mIn x (lP l) with
  | false => exact ⟨-2, τ, by simp [*], by simp [*], s⟩
  | true =>
    cases hy : mIn y (lY l) with
    | false => exact ⟨-2, τ, by simp [*], by simp [*], s⟩
    | true =>
      obtain ⟨p, hp, rfl⟩ := mIn_of hx
      obtain ⟨j, hj, rfl⟩ := mIn_of hy
      simp only [Bool.and_true, Bool.true_and, Bool.not_true, Bool.not_false, cond_true, cond_false]
      rw [k_foe _ t hp hj, r_foe _ t.1 a hp hj]
      exact ⟨_, τ, rfl, rfl, s⟩
