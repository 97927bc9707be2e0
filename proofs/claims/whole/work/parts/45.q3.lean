/-! ===== questions on feelings: pairs, years ===== -/
variable {σ τ : mS} {l : Lv}
theorem LH {l : Lv} (hl : lvOK l) {p : Nat} (hp : p < lP l) : 0 < lY l := (lvLY hl).mp (lvLand hl (Or.inr (Or.inl (by omega))))
theorem t_all (D : Nat) (t : tL σ l) (x : Int32) : qry (D + 12) n_E_all n_M_all [.ref 0, .int x, .null, .null] [.ref 200, .int x, .null, .null] σ := by
  have h1 := lvP t.1
  have h2 := lvY t.1
  have h3 := lvQ t.1
  have h4 := lvLn t.1
  obtain ⟨τ, e, s, a⟩ := r_asksYear (D + 1) x t.1 t.2.2.2
  unfold qry
  rw [c_E_all, k_isYear _ x σ (tY t) (by omega), c_M_all]
  rw [e]
  simp only [mBI_s, bI_0, bI_n]
  cases hx : mIn x (lY l) with
  | false => exact ⟨-2, τ, by simp [*], by simp [*], s⟩
  | true =>
    obtain ⟨j, hj, rfl⟩ := mIn_of hx
    simp only [Bool.and_true, Bool.true_and, Bool.not_true, Bool.not_false, cond_true, cond_false]
    rw [k_all _ t hj, r_all _ t.1 a hj]
    exact ⟨_, τ, rfl, rfl, s⟩
theorem t_hated (D : Nat) (t : tL σ l) (x : Int32) : qry (D + 12) n_E_hated n_M_hated [.ref 0, .int x, .null, .null, .null, .null] [.ref 200, .int x, .null, .null] σ := by
  have h1 := lvP t.1
  have h2 := lvY t.1
  have h3 := lvQ t.1
  have h4 := lvLn t.1
  obtain ⟨τ, e, s, a⟩ := r_asksYear (D + 1) x t.1 t.2.2.2
  unfold qry
  rw [c_E_hated, k_isYear _ x σ (tY t) (by omega), c_M_hated]
  rw [e]
  simp only [mBI_s, bI_0, bI_n]
  cases hx : mIn x (lY l) with
  | false => exact ⟨-2, τ, by simp [*], by simp [*], s⟩
  | true =>
    obtain ⟨j, hj, rfl⟩ := mIn_of hx
    simp only [Bool.and_true, Bool.true_and, Bool.not_true, Bool.not_false, cond_true, cond_false]
    rw [k_hatd _ t hj, r_hatd _ t.1 a hj]
    exact ⟨_, τ, rfl, rfl, s⟩
theorem t_years (D : Nat) (t : tL σ l) (x y : Int32) : qry (D + 12) n_E_years n_M_years [.ref 0, .int x, .int y, .null, .null] [.ref 200, .int x, .int y, .null, .null] σ := by
  have h1 := lvP t.1
  have h2 := lvY t.1
  have h3 := lvQ t.1
  have h4 := lvLn t.1
  obtain ⟨τ, e, s, a⟩ := r_asksLand (D + 2) t.1 t.2.2.2
  unfold qry
  rw [c_E_years, k_isPair _ x y σ (tP t) (by omega), c_M_years]
  rw [e]
  simp only [mBI_s]
  rw [r_areTwo _ x y τ (lM_P a.1.1) (by omega)]
  simp only [mBI_s, bI_0, bI_n]
  cases hx : mIn x (lP l) with
  | false => exact ⟨-2, τ, by simp [*], by simp [*], s⟩
  | true =>
    cases hy : mIn y (lP l) with
    | false => exact ⟨-2, τ, by simp [*], by simp [*], s⟩
    | true =>
      by_cases hn : x = y
      · exact ⟨-2, τ, by simp [*], by simp [*], s⟩
      ·
        obtain ⟨p, hp, rfl⟩ := mIn_of hx
        obtain ⟨r, hr, rfl⟩ := mIn_of hy
        rw [dF _ hn]
        have hpr : p ≠ r := fun e => hn (by rw [e])
        simp only [Bool.and_true, Bool.true_and, Bool.not_true, Bool.not_false, cond_true, cond_false]
        rw [k_years _ t hp hr, r_years _ t.1 a hp hr]
        exact ⟨_, τ, rfl, rfl, s⟩
theorem t_steady (D : Nat) (t : tL σ l) (x y : Int32) : qry (D + 12) n_E_steady n_M_steady [.ref 0, .int x, .int y, .null, .null] [.ref 200, .int x, .int y, .null, .null] σ := by
  have h1 := lvP t.1
  have h2 := lvY t.1
  have h3 := lvQ t.1
  have h4 := lvLn t.1
  obtain ⟨τ, e, s, a⟩ := r_asksLand (D + 2) t.1 t.2.2.2
  unfold qry
  rw [c_E_steady, k_isPair _ x y σ (tP t) (by omega), c_M_steady]
  rw [e]
  simp only [mBI_s]
  rw [r_areTwo _ x y τ (lM_P a.1.1) (by omega)]
  simp only [mBI_s, bI_0, bI_n]
  cases hx : mIn x (lP l) with
  | false => exact ⟨-2, τ, by simp [*], by simp [*], s⟩
  | true =>
    cases hy : mIn y (lP l) with
    | false => exact ⟨-2, τ, by simp [*], by simp [*], s⟩
    | true =>
      by_cases hn : x = y
      · exact ⟨-2, τ, by simp [*], by simp [*], s⟩
      ·
        obtain ⟨p, hp, rfl⟩ := mIn_of hx
        obtain ⟨r, hr, rfl⟩ := mIn_of hy
        rw [dF _ hn]
        have hpr : p ≠ r := fun e => hn (by rw [e])
        simp only [Bool.and_true, Bool.true_and, Bool.not_true, Bool.not_false, cond_true, cond_false]
        rw [k_steady _ t hp hr (LH t.1 hp), r_steady _ t.1 a hp hr (LH t.1 hp)]
        exact ⟨_, τ, rfl, rfl, s⟩
theorem t_sours (D : Nat) (t : tL σ l) (x y : Int32) : qry (D + 12) n_E_sours n_M_sours [.ref 0, .int x, .int y, .null] [.ref 200, .int x, .int y, .null] σ := by
  have h1 := lvP t.1
  have h2 := lvY t.1
  have h3 := lvQ t.1
  have h4 := lvLn t.1
  obtain ⟨τ, e, s, a⟩ := r_asksLand (D + 2) t.1 t.2.2.2
  unfold qry
  rw [c_E_sours, k_isPair _ x y σ (tP t) (by omega), c_M_sours]
  rw [e]
  simp only [mBI_s]
  rw [r_areTwo _ x y τ (lM_P a.1.1) (by omega)]
  simp only [mBI_s, bI_0, bI_n]
  cases hx : mIn x (lP l) with
  | false => exact ⟨-2, τ, by simp [*], by simp [*], s⟩
  | true =>
    cases hy : mIn y (lP l) with
    | false => exact ⟨-2, τ, by simp [*], by simp [*], s⟩
    | true =>
      by_cases hn : x = y
      · exact ⟨-2, τ, by simp [*], by simp [*], s⟩
      ·
        obtain ⟨p, hp, rfl⟩ := mIn_of hx
        obtain ⟨r, hr, rfl⟩ := mIn_of hy
        rw [dF _ hn]
        have hpr : p ≠ r := fun e => hn (by rw [e])
        simp only [Bool.and_true, Bool.true_and, Bool.not_true, Bool.not_false, cond_true, cond_false]
        rw [k_sours _ t hp hr, r_sours _ t.1 a hp hr]
        exact ⟨_, τ, rfl, rfl, s⟩
theorem t_lowest (D : Nat) (t : tL σ l) (x y : Int32) : qry (D + 12) n_E_lowest n_M_lowest [.ref 0, .int x, .int y, .null, .null] [.ref 200, .int x, .int y, .null, .null] σ := by
  have h1 := lvP t.1
  have h2 := lvY t.1
  have h3 := lvQ t.1
  have h4 := lvLn t.1
  obtain ⟨τ, e, s, a⟩ := r_asksLand (D + 2) t.1 t.2.2.2
  unfold qry
  rw [c_E_lowest, k_isPair _ x y σ (tP t) (by omega), c_M_lowest]
  rw [e]
  simp only [mBI_s]
  rw [r_areTwo _ x y τ (lM_P a.1.1) (by omega)]
  simp only [mBI_s, bI_0, bI_n]
  cases hx : mIn x (lP l) with
  | false => exact ⟨-1000, τ, by simp [*], by simp [*], s⟩
  | true =>
    cases hy : mIn y (lP l) with
    | false => exact ⟨-1000, τ, by simp [*], by simp [*], s⟩
    | true =>
      by_cases hn : x = y
      · exact ⟨-1000, τ, by simp [*], by simp [*], s⟩
      ·
        obtain ⟨p, hp, rfl⟩ := mIn_of hx
        obtain ⟨r, hr, rfl⟩ := mIn_of hy
        rw [dF _ hn]
        have hpr : p ≠ r := fun e => hn (by rw [e])
        simp only [Bool.and_true, Bool.true_and, Bool.not_true, Bool.not_false, cond_true, cond_false]
        rw [show (Value.int 0) = Value.int (nI 0) from rfl, k_fe _ t hp hr (LH t.1 hp), mBI_s, k_lowest _ t hp hr (LH t.1 hp), show (Value.int (nI 0)) = Value.int 0 from rfl, r_lowest _ t.1 a hp hr (LH t.1 hp)]
        exact ⟨_, τ, rfl, rfl, s⟩
