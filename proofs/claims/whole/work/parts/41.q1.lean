/-! ===== questions on feelings: one person and a year ===== -/
variable {σ τ : mS} {l : Lv}
theorem t_feels (D : Nat) (t : tL σ l) (x y z : Int32) : qry (D + 12) n_E_feels n_M_feels [.ref 0, .int x, .int y, .int z] [.ref 200, .int x, .int y, .int z] σ := by
  have h1 := lvP t.1
  have h2 := lvY t.1
  have h3 := lvQ t.1
  have h4 := lvLn t.1
  obtain ⟨τ, e, s, a⟩ := r_asksYear (D + 1) z t.1 t.2.2.2
  unfold qry
  rw [c_E_feels, k_isPair _ x y σ (tP t) (by omega), mBI_s, k_isYear _ z σ (tY t) (by omega), c_M_feels]
  rw [e]
  simp only [mBI_s]
  rw [r_areTwo _ x y τ (lM_P a.1.1) (by omega)]
  simp only [mBI_s, bI_0, bI_n]
  cases hx : mIn x (lP l) with
  | false => exact ⟨-1000, τ, by simp [*], by simp [*], s⟩
  | true =>
    cases hy : mIn y (lP l) with
    | false => exact ⟨-1000, τ, by simp [*], by simp [*], s⟩
    | true =>
      cases hz : mIn z (lY l) with
      | false => exact ⟨-1000, τ, by simp [*], by simp [*], s⟩
      | true =>
        by_cases hn : x = y
        · exact ⟨-1000, τ, by simp [*], by simp [*], s⟩
        ·
          obtain ⟨p, hp, rfl⟩ := mIn_of hx
          obtain ⟨r, hr, rfl⟩ := mIn_of hy
          obtain ⟨j, hj, rfl⟩ := mIn_of hz
          rw [dF _ hn]
          have hpr : p ≠ r := fun e => hn (by rw [e])
          simp only [Bool.and_true, Bool.true_and, Bool.not_true, Bool.not_false, cond_true, cond_false]
          rw [k_fe _ t hp hr hj, r_fe _ t.1 a hp hr hj]
          exact ⟨_, τ, rfl, rfl, s⟩
theorem t_enemies (D : Nat) (t : tL σ l) (x y : Int32) : qry (D + 12) n_E_enemies n_M_enemies [.ref 0, .int x, .int y] [.ref 200, .int x, .int y] σ := by
  have h1 := lvP t.1
  have h2 := lvY t.1
  have h3 := lvQ t.1
  have h4 := lvLn t.1
  obtain ⟨τ, e, s, a⟩ := r_asksYear (D + 1) y t.1 t.2.2.2
  unfold qry
  rw [c_E_enemies, k_isThen _ x y σ (tP t) (by omega) (tY t) (by omega), c_M_enemies]
  rw [e]
  simp only [mBI_s]
  rw [r_isPerson _ x τ (lM_P a.1.1) (by omega)]
  simp only [mBI_s, bI_0, bI_n]
  cases hx : mIn x (lP l) with
  | false => exact ⟨-2, τ, by simp [*], by simp [*], s⟩
  | true =>
    cases hy : mIn y (lY l) with
    | false => exact ⟨-2, τ, by simp [*], by simp [*], s⟩
    | true =>
      obtain ⟨p, hp, rfl⟩ := mIn_of hx
      obtain ⟨j, hj, rfl⟩ := mIn_of hy
      simp only [Bool.and_true, Bool.true_and, Bool.not_true, Bool.not_false, cond_true, cond_false]
      rw [k_towards _ t hp hj, r_enemiesOf _ t.1 a hp hj]
      simp only [sg_m1]
      exact ⟨_, τ, rfl, rfl, s⟩
theorem t_friends (D : Nat) (t : tL σ l) (x y : Int32) : qry (D + 12) n_E_friends n_M_friends [.ref 0, .int x, .int y] [.ref 200, .int x, .int y] σ := by
  have h1 := lvP t.1
  have h2 := lvY t.1
  have h3 := lvQ t.1
  have h4 := lvLn t.1
  obtain ⟨τ, e, s, a⟩ := r_asksYear (D + 1) y t.1 t.2.2.2
  unfold qry
  rw [c_E_friends, k_isThen _ x y σ (tP t) (by omega) (tY t) (by omega), c_M_friends]
  rw [e]
  simp only [mBI_s]
  rw [r_isPerson _ x τ (lM_P a.1.1) (by omega)]
  simp only [mBI_s, bI_0, bI_n]
  cases hx : mIn x (lP l) with
  | false => exact ⟨-2, τ, by simp [*], by simp [*], s⟩
  | true =>
    cases hy : mIn y (lY l) with
    | false => exact ⟨-2, τ, by simp [*], by simp [*], s⟩
    | true =>
      obtain ⟨p, hp, rfl⟩ := mIn_of hx
      obtain ⟨j, hj, rfl⟩ := mIn_of hy
      simp only [Bool.and_true, Bool.true_and, Bool.not_true, Bool.not_false, cond_true, cond_false]
      rw [k_towards _ t hp hj, r_friendsOf _ t.1 a hp hj]
      simp only [sg_p1]
      exact ⟨_, τ, rfl, rfl, s⟩
