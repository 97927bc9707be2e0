/-! ===== the law: each case is one step ===== -/
variable {σ τ υ : mS} {l : Lv}
def lL (x : Int32) : List Value := [.ref 300, .ref 0, .ref 200, .int x]
/-- what lies in reach of the script at x -/
def inS (σ : mS) (x : Int32) : Prop := mIn (x + (1 : Int32)) ((σ.1 299 0).toNatClampNeg) = true ∧ mIn (x + (2 : Int32)) ((σ.1 299 0).toNatClampNeg) = true ∧ mIn (x + (3 : Int32)) ((σ.1 299 0).toNatClampNeg) = true ∧ mIn (x + (4 : Int32)) ((σ.1 299 0).toNatClampNeg) = true ∧ mIn (x + (5 : Int32)) ((σ.1 299 0).toNatClampNeg) = true
def stp (D pc : Nat) (σ : mS) (x : Int32) : Prop := ∃ τ, sc σ τ ∧ Inv τ ∧ Xx (D + 13) n_L_law pc [.ref 300, .ref 0, .ref 200, .int x] [] σ = Xx (D + 13) n_L_law 2639 [.ref 300, .ref 0, .ref 200, .int x] [] τ
theorem lgc (v : Int64) : lg_cmp v v = 0 := by
  unfold lg_cmp
  rw [if_neg (Int64.lt_irrefl), if_pos rfl]

theorem w_feed (D : Nat) (h : Inv σ) {x : Int32} (g : inS σ x) : stp D 356 σ x := by
  obtain ⟨m1, m2, m3, m4, m5⟩ := g
  have hh := h
  obtain ⟨l, im, sz, wi, n, t, a, b, c, d, e⟩ := hh
  obtain ⟨v, σ1, τ, s1, s2, e1, e2, hi⟩ := ok_f h (t_feed (D + 1) c (σ.1 300 ((x + (1 : Int32)) : Int32).toNatClampNeg) (σ.1 300 ((x + (2 : Int32)) : Int32).toNatClampNeg) (σ.1 300 ((x + (3 : Int32)) : Int32).toNatClampNeg) (σ.1 300 ((x + (4 : Int32)) : Int32).toNatClampNeg) (σ.1 300 ((x + (5 : Int32)) : Int32).toNatClampNeg))
  exact ⟨τ, s2, hi, by rw [u_356, m1, cT, u_362, m2, cT, u_367, m3, cT, u_372, m4, cT, u_377, m5, cT, u_382, e1, mBI_s, u_385, s1.1, s1.2, m1, cT, u_391, s1.1, s1.2, m2, cT, u_396, s1.1, s1.2, m3, cT, u_401, s1.1, s1.2, m4, cT, u_406, s1.1, s1.2, m5, cT, u_411, e2, mBI_s, u_414, dT _ rfl, cT]⟩
theorem w_end (D : Nat) (h : Inv σ) {x : Int32} (g : inS σ x) : stp D 419 σ x := by
  obtain ⟨m1, m2, m3, m4, m5⟩ := g
  have hh := h
  obtain ⟨l, im, sz, wi, n, t, a, b, c, d, e⟩ := hh
  obtain ⟨v, σ1, τ, s1, s2, e1, e2, hi⟩ := ok_f h (t_end (D + 1) c (σ.1 300 ((x + (1 : Int32)) : Int32).toNatClampNeg))
  exact ⟨τ, s2, hi, by rw [q_L_law_419, m1, cT, e1, mBI_s, s1.1, s1.2, m1, cT, e2, mBI_s, dT _ rfl, cT]⟩
theorem w_land (D : Nat) (h : Inv σ) {x : Int32} (g : inS σ x) : stp D 442 σ x := by
  obtain ⟨m1, m2, m3, m4, m5⟩ := g
  have hh := h
  obtain ⟨l, im, sz, wi, n, t, a, b, c, d, e⟩ := hh
  obtain ⟨v, σ1, τ, s1, s2, e1, e2, hi⟩ := ok_land (D + 1) h
  exact ⟨τ, s2, hi, by rw [q_L_law_442, e1, mBI_s, e2, mBI_s, dT _ rfl, cT]⟩
theorem w_fault (D : Nat) (h : Inv σ) {x : Int32} (g : inS σ x) : stp D 455 σ x := by
  obtain ⟨m1, m2, m3, m4, m5⟩ := g
  have hh := h
  obtain ⟨l, im, sz, wi, n, t, a, b, c, d, e⟩ := hh
  obtain ⟨v, σ1, τ, s1, s2, e1, e2, hi⟩ := ok_q h (t_fault (D + 1) d.1 d.2 (σ.1 300 ((x + (1 : Int32)) : Int32).toNatClampNeg))
  exact ⟨τ, s2, hi, by rw [q_L_law_455, m1, cT, e1, mBI_s, s1.1, s1.2, m1, cT, e2, mBI_s, dT _ rfl, cT]⟩
theorem w_skills (D : Nat) (h : Inv σ) {x : Int32} (g : inS σ x) : stp D 478 σ x := by
  obtain ⟨m1, m2, m3, m4, m5⟩ := g
  have hh := h
  obtain ⟨l, im, sz, wi, n, t, a, b, c, d, e⟩ := hh
  obtain ⟨v, σ1, τ, s1, s2, e1, e2, hi⟩ := ok_q h (t_skills (D + 1) t (σ.1 300 ((x + (1 : Int32)) : Int32).toNatClampNeg))
  exact ⟨τ, s2, hi, by rw [q_L_law_478, m1, cT, e1, mBI_s, s1.1, s1.2, m1, cT, e2, mBI_s, dT _ rfl, cT]⟩
theorem w_needs (D : Nat) (h : Inv σ) {x : Int32} (g : inS σ x) : stp D 501 σ x := by
  obtain ⟨m1, m2, m3, m4, m5⟩ := g
  have hh := h
  obtain ⟨l, im, sz, wi, n, t, a, b, c, d, e⟩ := hh
  obtain ⟨v, σ1, τ, s1, s2, e1, e2, hi⟩ := ok_q h (t_needs (D + 1) t (σ.1 300 ((x + (1 : Int32)) : Int32).toNatClampNeg))
  exact ⟨τ, s2, hi, by rw [q_L_law_501, m1, cT, e1, mBI_s, s1.1, s1.2, m1, cT, e2, mBI_s, dT _ rfl, cT]⟩
theorem w_year (D : Nat) (h : Inv σ) {x : Int32} (g : inS σ x) : stp D 524 σ x := by
  obtain ⟨m1, m2, m3, m4, m5⟩ := g
  have hh := h
  obtain ⟨l, im, sz, wi, n, t, a, b, c, d, e⟩ := hh
  obtain ⟨v, σ1, τ, s1, s2, e1, e2, hi⟩ := ok_q h (t_year (D + 1) t (σ.1 300 ((x + (1 : Int32)) : Int32).toNatClampNeg))
  exact ⟨τ, s2, hi, by rw [q_L_law_524, m1, cT, e1, mBI_s, s1.1, s1.2, m1, cT, e2, mBI_s, dT _ rfl, cT]⟩
theorem w_feels (D : Nat) (h : Inv σ) {x : Int32} (g : inS σ x) : stp D 547 σ x := by
  obtain ⟨m1, m2, m3, m4, m5⟩ := g
  have hh := h
  obtain ⟨l, im, sz, wi, n, t, a, b, c, d, e⟩ := hh
  obtain ⟨v, σ1, τ, s1, s2, e1, e2, hi⟩ := ok_q h (t_feels (D + 1) t (σ.1 300 ((x + (1 : Int32)) : Int32).toNatClampNeg) (σ.1 300 ((x + (2 : Int32)) : Int32).toNatClampNeg) (σ.1 300 ((x + (3 : Int32)) : Int32).toNatClampNeg))
  exact ⟨τ, s2, hi, by rw [u_547, m1, cT, u_553, m2, cT, u_558, m3, cT, u_563, e1, mBI_s, u_566, s1.1, s1.2, m1, cT, u_572, s1.1, s1.2, m2, cT, u_577, s1.1, s1.2, m3, cT, u_582, e2, mBI_s, u_585, dT _ rfl, cT]⟩
theorem w_enemies (D : Nat) (h : Inv σ) {x : Int32} (g : inS σ x) : stp D 590 σ x := by
  obtain ⟨m1, m2, m3, m4, m5⟩ := g
  have hh := h
  obtain ⟨l, im, sz, wi, n, t, a, b, c, d, e⟩ := hh
  obtain ⟨v, σ1, τ, s1, s2, e1, e2, hi⟩ := ok_q h (t_enemies (D + 1) t (σ.1 300 ((x + (1 : Int32)) : Int32).toNatClampNeg) (σ.1 300 ((x + (2 : Int32)) : Int32).toNatClampNeg))
  exact ⟨τ, s2, hi, by rw [u_590, m1, cT, u_596, m2, cT, u_601, e1, mBI_s, u_604, s1.1, s1.2, m1, cT, u_610, s1.1, s1.2, m2, cT, u_615, e2, mBI_s, u_618, dT _ rfl, cT]⟩
theorem w_friends (D : Nat) (h : Inv σ) {x : Int32} (g : inS σ x) : stp D 623 σ x := by
  obtain ⟨m1, m2, m3, m4, m5⟩ := g
  have hh := h
  obtain ⟨l, im, sz, wi, n, t, a, b, c, d, e⟩ := hh
  obtain ⟨v, σ1, τ, s1, s2, e1, e2, hi⟩ := ok_q h (t_friends (D + 1) t (σ.1 300 ((x + (1 : Int32)) : Int32).toNatClampNeg) (σ.1 300 ((x + (2 : Int32)) : Int32).toNatClampNeg))
  exact ⟨τ, s2, hi, by rw [u_623, m1, cT, u_629, m2, cT, u_634, e1, mBI_s, u_637, s1.1, s1.2, m1, cT, u_643, s1.1, s1.2, m2, cT, u_648, e2, mBI_s, u_651, dT _ rfl, cT]⟩
theorem w_hate (D : Nat) (h : Inv σ) {x : Int32} (g : inS σ x) : stp D 656 σ x := by
  obtain ⟨m1, m2, m3, m4, m5⟩ := g
  have hh := h
  obtain ⟨l, im, sz, wi, n, t, a, b, c, d, e⟩ := hh
  obtain ⟨v, σ1, τ, s1, s2, e1, e2, hi⟩ := ok_q h (t_hate (D + 1) t (σ.1 300 ((x + (1 : Int32)) : Int32).toNatClampNeg) (σ.1 300 ((x + (2 : Int32)) : Int32).toNatClampNeg))
  exact ⟨τ, s2, hi, by rw [u_656, m1, cT, u_662, m2, cT, u_667, e1, mBI_s, u_670, s1.1, s1.2, m1, cT, u_676, s1.1, s1.2, m2, cT, u_681, e2, mBI_s, u_684, dT _ rfl, cT]⟩
theorem w_worst (D : Nat) (h : Inv σ) {x : Int32} (g : inS σ x) : stp D 689 σ x := by
  obtain ⟨m1, m2, m3, m4, m5⟩ := g
  have hh := h
  obtain ⟨l, im, sz, wi, n, t, a, b, c, d, e⟩ := hh
  obtain ⟨v, σ1, τ, s1, s2, e1, e2, hi⟩ := ok_q h (t_worst (D + 1) t (σ.1 300 ((x + (1 : Int32)) : Int32).toNatClampNeg) (σ.1 300 ((x + (2 : Int32)) : Int32).toNatClampNeg))
  exact ⟨τ, s2, hi, by rw [u_689, m1, cT, u_695, m2, cT, u_700, e1, mBI_s, u_703, s1.1, s1.2, m1, cT, u_709, s1.1, s1.2, m2, cT, u_714, e2, mBI_s, u_717, dT _ rfl, cT]⟩
theorem w_mild (D : Nat) (h : Inv σ) {x : Int32} (g : inS σ x) : stp D 722 σ x := by
  obtain ⟨m1, m2, m3, m4, m5⟩ := g
  have hh := h
  obtain ⟨l, im, sz, wi, n, t, a, b, c, d, e⟩ := hh
  obtain ⟨v, σ1, τ, s1, s2, e1, e2, hi⟩ := ok_q h (t_mild (D + 1) t (σ.1 300 ((x + (1 : Int32)) : Int32).toNatClampNeg) (σ.1 300 ((x + (2 : Int32)) : Int32).toNatClampNeg))
  exact ⟨τ, s2, hi, by rw [u_722, m1, cT, u_728, m2, cT, u_733, e1, mBI_s, u_736, s1.1, s1.2, m1, cT, u_742, s1.1, s1.2, m2, cT, u_747, e2, mBI_s, u_750, dT _ rfl, cT]⟩
theorem w_bitter (D : Nat) (h : Inv σ) {x : Int32} (g : inS σ x) : stp D 755 σ x := by
  obtain ⟨m1, m2, m3, m4, m5⟩ := g
  have hh := h
  obtain ⟨l, im, sz, wi, n, t, a, b, c, d, e⟩ := hh
  obtain ⟨v, σ1, τ, s1, s2, e1, e2, hi⟩ := ok_q h (t_bitter (D + 1) t (σ.1 300 ((x + (1 : Int32)) : Int32).toNatClampNeg))
  exact ⟨τ, s2, hi, by rw [q_L_law_755, m1, cT, e1, mBI_s, s1.1, s1.2, m1, cT, e2, mBI_s, dT _ rfl, cT]⟩
theorem w_praise (D : Nat) (h : Inv σ) {x : Int32} (g : inS σ x) : stp D 778 σ x := by
  obtain ⟨m1, m2, m3, m4, m5⟩ := g
  have hh := h
  obtain ⟨l, im, sz, wi, n, t, a, b, c, d, e⟩ := hh
  obtain ⟨v, σ1, τ, s1, s2, e1, e2, hi⟩ := ok_q h (t_praise (D) t (σ.1 300 ((x + (1 : Int32)) : Int32).toNatClampNeg))
  exact ⟨τ, s2, hi, by rw [q_L_law_778, m1, cT, e1, mBI_s, s1.1, s1.2, m1, cT, e2, mBI_s, dT _ rfl, cT]⟩
theorem w_dearest (D : Nat) (h : Inv σ) {x : Int32} (g : inS σ x) : stp D 801 σ x := by
  obtain ⟨m1, m2, m3, m4, m5⟩ := g
  have hh := h
  obtain ⟨l, im, sz, wi, n, t, a, b, c, d, e⟩ := hh
  obtain ⟨v, σ1, τ, s1, s2, e1, e2, hi⟩ := ok_q h (t_dearest (D + 1) t (σ.1 300 ((x + (1 : Int32)) : Int32).toNatClampNeg) (σ.1 300 ((x + (2 : Int32)) : Int32).toNatClampNeg))
  exact ⟨τ, s2, hi, by rw [u_801, m1, cT, u_807, m2, cT, u_812, e1, mBI_s, u_815, s1.1, s1.2, m1, cT, u_821, s1.1, s1.2, m2, cT, u_826, e2, mBI_s, u_829, dT _ rfl, cT]⟩
theorem w_foe (D : Nat) (h : Inv σ) {x : Int32} (g : inS σ x) : stp D 834 σ x := by
  obtain ⟨m1, m2, m3, m4, m5⟩ := g
  have hh := h
  obtain ⟨l, im, sz, wi, n, t, a, b, c, d, e⟩ := hh
  obtain ⟨v, σ1, τ, s1, s2, e1, e2, hi⟩ := ok_q h (t_foe (D + 1) t (σ.1 300 ((x + (1 : Int32)) : Int32).toNatClampNeg) (σ.1 300 ((x + (2 : Int32)) : Int32).toNatClampNeg))
  exact ⟨τ, s2, hi, by rw [u_834, m1, cT, u_840, m2, cT, u_845, e1, mBI_s, u_848, s1.1, s1.2, m1, cT, u_854, s1.1, s1.2, m2, cT, u_859, e2, mBI_s, u_862, dT _ rfl, cT]⟩
theorem w_steady (D : Nat) (h : Inv σ) {x : Int32} (g : inS σ x) : stp D 867 σ x := by
  obtain ⟨m1, m2, m3, m4, m5⟩ := g
  have hh := h
  obtain ⟨l, im, sz, wi, n, t, a, b, c, d, e⟩ := hh
  obtain ⟨v, σ1, τ, s1, s2, e1, e2, hi⟩ := ok_q h (t_steady (D + 1) t (σ.1 300 ((x + (1 : Int32)) : Int32).toNatClampNeg) (σ.1 300 ((x + (2 : Int32)) : Int32).toNatClampNeg))
  exact ⟨τ, s2, hi, by rw [u_867, m1, cT, u_873, m2, cT, u_878, e1, mBI_s, u_881, s1.1, s1.2, m1, cT, u_887, s1.1, s1.2, m2, cT, u_892, e2, mBI_s, u_895, dT _ rfl, cT]⟩
theorem w_cold (D : Nat) (h : Inv σ) {x : Int32} (g : inS σ x) : stp D 900 σ x := by
  obtain ⟨m1, m2, m3, m4, m5⟩ := g
  have hh := h
  obtain ⟨l, im, sz, wi, n, t, a, b, c, d, e⟩ := hh
  obtain ⟨v, σ1, τ, s1, s2, e1, e2, hi⟩ := ok_q h (t_cold (D + 1) t (σ.1 300 ((x + (1 : Int32)) : Int32).toNatClampNeg))
  exact ⟨τ, s2, hi, by rw [q_L_law_900, m1, cT, e1, mBI_s, s1.1, s1.2, m1, cT, e2, mBI_s, dT _ rfl, cT]⟩
theorem w_harms (D : Nat) (h : Inv σ) {x : Int32} (g : inS σ x) : stp D 923 σ x := by
  obtain ⟨m1, m2, m3, m4, m5⟩ := g
  have hh := h
  obtain ⟨l, im, sz, wi, n, t, a, b, c, d, e⟩ := hh
  obtain ⟨v, σ1, τ, s1, s2, e1, e2, hi⟩ := ok_q h (t_harms (D + 1) t (σ.1 300 ((x + (1 : Int32)) : Int32).toNatClampNeg))
  exact ⟨τ, s2, hi, by rw [q_L_law_923, m1, cT, e1, mBI_s, s1.1, s1.2, m1, cT, e2, mBI_s, dT _ rfl, cT]⟩
theorem w_hurts (D : Nat) (h : Inv σ) {x : Int32} (g : inS σ x) : stp D 946 σ x := by
  obtain ⟨m1, m2, m3, m4, m5⟩ := g
  have hh := h
  obtain ⟨l, im, sz, wi, n, t, a, b, c, d, e⟩ := hh
  obtain ⟨v, σ1, τ, s1, s2, e1, e2, hi⟩ := ok_q h (t_hurts (D + 1) t (σ.1 300 ((x + (1 : Int32)) : Int32).toNatClampNeg))
  exact ⟨τ, s2, hi, by rw [q_L_law_946, m1, cT, e1, mBI_s, s1.1, s1.2, m1, cT, e2, mBI_s, dT _ rfl, cT]⟩
theorem w_all (D : Nat) (h : Inv σ) {x : Int32} (g : inS σ x) : stp D 969 σ x := by
  obtain ⟨m1, m2, m3, m4, m5⟩ := g
  have hh := h
  obtain ⟨l, im, sz, wi, n, t, a, b, c, d, e⟩ := hh
  obtain ⟨v, σ1, τ, s1, s2, e1, e2, hi⟩ := ok_q h (t_all (D + 1) t (σ.1 300 ((x + (1 : Int32)) : Int32).toNatClampNeg))
  exact ⟨τ, s2, hi, by rw [q_L_law_969, m1, cT, e1, mBI_s, s1.1, s1.2, m1, cT, e2, mBI_s, dT _ rfl, cT]⟩
theorem w_top (D : Nat) (h : Inv σ) {x : Int32} (g : inS σ x) : stp D 992 σ x := by
  obtain ⟨m1, m2, m3, m4, m5⟩ := g
  have hh := h
  obtain ⟨l, im, sz, wi, n, t, a, b, c, d, e⟩ := hh
  obtain ⟨v, σ1, τ, s1, s2, e1, e2, hi⟩ := ok_q h (t_top (D) t (σ.1 300 ((x + (1 : Int32)) : Int32).toNatClampNeg))
  exact ⟨τ, s2, hi, by rw [q_L_law_992, m1, cT, e1, mBI_s, s1.1, s1.2, m1, cT, e2, mBI_s, dT _ rfl, cT]⟩
theorem w_next (D : Nat) (h : Inv σ) {x : Int32} (g : inS σ x) : stp D 1015 σ x := by
  obtain ⟨m1, m2, m3, m4, m5⟩ := g
  have hh := h
  obtain ⟨l, im, sz, wi, n, t, a, b, c, d, e⟩ := hh
  obtain ⟨v, σ1, τ, s1, s2, e1, e2, hi⟩ := ok_q h (t_next (D) t (σ.1 300 ((x + (1 : Int32)) : Int32).toNatClampNeg))
  exact ⟨τ, s2, hi, by rw [q_L_law_1015, m1, cT, e1, mBI_s, s1.1, s1.2, m1, cT, e2, mBI_s, dT _ rfl, cT]⟩
theorem w_first (D : Nat) (h : Inv σ) {x : Int32} (g : inS σ x) : stp D 1038 σ x := by
  obtain ⟨m1, m2, m3, m4, m5⟩ := g
  have hh := h
  obtain ⟨l, im, sz, wi, n, t, a, b, c, d, e⟩ := hh
  obtain ⟨v, σ1, τ, s1, s2, e1, e2, hi⟩ := ok_q h (t_first (D) t)
  exact ⟨τ, s2, hi, by rw [q_L_law_1038, e1, mBI_s, e2, mBI_s, dT _ rfl, cT]⟩
theorem w_sours (D : Nat) (h : Inv σ) {x : Int32} (g : inS σ x) : stp D 1051 σ x := by
  obtain ⟨m1, m2, m3, m4, m5⟩ := g
  have hh := h
  obtain ⟨l, im, sz, wi, n, t, a, b, c, d, e⟩ := hh
  obtain ⟨v, σ1, τ, s1, s2, e1, e2, hi⟩ := ok_q h (t_sours (D + 1) t (σ.1 300 ((x + (1 : Int32)) : Int32).toNatClampNeg) (σ.1 300 ((x + (2 : Int32)) : Int32).toNatClampNeg))
  exact ⟨τ, s2, hi, by rw [u_1051, m1, cT, u_1057, m2, cT, u_1062, e1, mBI_s, u_1065, s1.1, s1.2, m1, cT, u_1071, s1.1, s1.2, m2, cT, u_1076, e2, mBI_s, u_1079, dT _ rfl, cT]⟩
theorem w_years (D : Nat) (h : Inv σ) {x : Int32} (g : inS σ x) : stp D 1084 σ x := by
  obtain ⟨m1, m2, m3, m4, m5⟩ := g
  have hh := h
  obtain ⟨l, im, sz, wi, n, t, a, b, c, d, e⟩ := hh
  obtain ⟨v, σ1, τ, s1, s2, e1, e2, hi⟩ := ok_q h (t_years (D + 1) t (σ.1 300 ((x + (1 : Int32)) : Int32).toNatClampNeg) (σ.1 300 ((x + (2 : Int32)) : Int32).toNatClampNeg))
  exact ⟨τ, s2, hi, by rw [u_1084, m1, cT, u_1090, m2, cT, u_1095, e1, mBI_s, u_1098, s1.1, s1.2, m1, cT, u_1104, s1.1, s1.2, m2, cT, u_1109, e2, mBI_s, u_1112, dT _ rfl, cT]⟩
theorem w_lowest (D : Nat) (h : Inv σ) {x : Int32} (g : inS σ x) : stp D 1117 σ x := by
  obtain ⟨m1, m2, m3, m4, m5⟩ := g
  have hh := h
  obtain ⟨l, im, sz, wi, n, t, a, b, c, d, e⟩ := hh
  obtain ⟨v, σ1, τ, s1, s2, e1, e2, hi⟩ := ok_q h (t_lowest (D + 1) t (σ.1 300 ((x + (1 : Int32)) : Int32).toNatClampNeg) (σ.1 300 ((x + (2 : Int32)) : Int32).toNatClampNeg))
  exact ⟨τ, s2, hi, by rw [u_1117, m1, cT, u_1123, m2, cT, u_1128, e1, mBI_s, u_1131, s1.1, s1.2, m1, cT, u_1137, s1.1, s1.2, m2, cT, u_1142, e2, mBI_s, u_1145, dT _ rfl, cT]⟩
theorem w_hated (D : Nat) (h : Inv σ) {x : Int32} (g : inS σ x) : stp D 1150 σ x := by
  obtain ⟨m1, m2, m3, m4, m5⟩ := g
  have hh := h
  obtain ⟨l, im, sz, wi, n, t, a, b, c, d, e⟩ := hh
  obtain ⟨v, σ1, τ, s1, s2, e1, e2, hi⟩ := ok_q h (t_hated (D + 1) t (σ.1 300 ((x + (1 : Int32)) : Int32).toNatClampNeg))
  exact ⟨τ, s2, hi, by rw [q_L_law_1150, m1, cT, e1, mBI_s, s1.1, s1.2, m1, cT, e2, mBI_s, dT _ rfl, cT]⟩
theorem w_porter (D : Nat) (h : Inv σ) {x : Int32} (g : inS σ x) : stp D 1173 σ x := by
  obtain ⟨m1, m2, m3, m4, m5⟩ := g
  have hh := h
  obtain ⟨l, im, sz, wi, n, t, a, b, c, d, e⟩ := hh
  obtain ⟨v, σ1, τ, s1, s2, e1, e2, hi⟩ := ok_q h (t_porter (D + 1) t (σ.1 300 ((x + (1 : Int32)) : Int32).toNatClampNeg))
  exact ⟨τ, s2, hi, by rw [q_L_law_1173, m1, cT, e1, mBI_s, s1.1, s1.2, m1, cT, e2, mBI_s, dT _ rfl, cT]⟩
theorem w_mutual (D : Nat) (h : Inv σ) {x : Int32} (g : inS σ x) : stp D 1196 σ x := by
  obtain ⟨m1, m2, m3, m4, m5⟩ := g
  have hh := h
  obtain ⟨l, im, sz, wi, n, t, a, b, c, d, e⟩ := hh
  obtain ⟨v, σ1, τ, s1, s2, e1, e2, hi⟩ := ok_q h (t_mutual (D + 1) t (σ.1 300 ((x + (1 : Int32)) : Int32).toNatClampNeg))
  exact ⟨τ, s2, hi, by rw [q_L_law_1196, m1, cT, e1, mBI_s, s1.1, s1.2, m1, cT, e2, mBI_s, dT _ rfl, cT]⟩
theorem w_rings (D : Nat) (h : Inv σ) {x : Int32} (g : inS σ x) : stp D 1219 σ x := by
  obtain ⟨m1, m2, m3, m4, m5⟩ := g
  have hh := h
  obtain ⟨l, im, sz, wi, n, t, a, b, c, d, e⟩ := hh
  obtain ⟨v, σ1, τ, s1, s2, e1, e2, hi⟩ := ok_q h (t_rings (D + 1) t (σ.1 300 ((x + (1 : Int32)) : Int32).toNatClampNeg))
  exact ⟨τ, s2, hi, by rw [q_L_law_1219, m1, cT, e1, mBI_s, s1.1, s1.2, m1, cT, e2, mBI_s, dT _ rfl, cT]⟩
theorem w_word (D : Nat) (h : Inv σ) {x : Int32} (g : inS σ x) : stp D 1242 σ x := by
  obtain ⟨m1, m2, m3, m4, m5⟩ := g
  have hh := h
  obtain ⟨l, im, sz, wi, n, t, a, b, c, d, e⟩ := hh
  obtain ⟨v, σ1, τ, s1, s2, e1, e2, hi⟩ := ok_q h (t_word (D) t (σ.1 300 ((x + (1 : Int32)) : Int32).toNatClampNeg) (σ.1 300 ((x + (2 : Int32)) : Int32).toNatClampNeg))
  exact ⟨τ, s2, hi, by rw [u_1242, m1, cT, u_1248, m2, cT, u_1253, e1, mBI_s, u_1256, s1.1, s1.2, m1, cT, u_1262, s1.1, s1.2, m2, cT, u_1267, e2, mBI_s, u_1270, dT _ rfl, cT]⟩
theorem w_pens (D : Nat) (h : Inv σ) {x : Int32} (g : inS σ x) : stp D 1275 σ x := by
  obtain ⟨m1, m2, m3, m4, m5⟩ := g
  have hh := h
  obtain ⟨l, im, sz, wi, n, t, a, b, c, d, e⟩ := hh
  obtain ⟨v, σ1, τ, s1, s2, e1, e2, hi⟩ := ok_q h (t_pens (D) t (σ.1 300 ((x + (1 : Int32)) : Int32).toNatClampNeg) (σ.1 300 ((x + (2 : Int32)) : Int32).toNatClampNeg))
  exact ⟨τ, s2, hi, by rw [u_1275, m1, cT, u_1281, m2, cT, u_1286, e1, mBI_s, u_1289, s1.1, s1.2, m1, cT, u_1295, s1.1, s1.2, m2, cT, u_1300, e2, mBI_s, u_1303, dT _ rfl, cT]⟩
theorem w_gets (D : Nat) (h : Inv σ) {x : Int32} (g : inS σ x) : stp D 1308 σ x := by
  obtain ⟨m1, m2, m3, m4, m5⟩ := g
  have hh := h
  obtain ⟨l, im, sz, wi, n, t, a, b, c, d, e⟩ := hh
  obtain ⟨v, σ1, τ, s1, s2, e1, e2, hi⟩ := ok_q h (t_gets (D) t (σ.1 300 ((x + (1 : Int32)) : Int32).toNatClampNeg))
  exact ⟨τ, s2, hi, by rw [q_L_law_1308, m1, cT, e1, mBI_s, s1.1, s1.2, m1, cT, e2, mBI_s, dT _ rfl, cT]⟩
theorem w_has (D : Nat) (h : Inv σ) {x : Int32} (g : inS σ x) : stp D 1331 σ x := by
  obtain ⟨m1, m2, m3, m4, m5⟩ := g
  have hh := h
  obtain ⟨l, im, sz, wi, n, t, a, b, c, d, e⟩ := hh
  obtain ⟨v, σ1, τ, s1, s2, e1, e2, hi⟩ := ok_q h (t_has (D) t (σ.1 300 ((x + (1 : Int32)) : Int32).toNatClampNeg))
  exact ⟨τ, s2, hi, by rw [q_L_law_1331, m1, cT, e1, mBI_s, s1.1, s1.2, m1, cT, e2, mBI_s, dT _ rfl, cT]⟩
theorem w_may (D : Nat) (h : Inv σ) {x : Int32} (g : inS σ x) : stp D 1354 σ x := by
  obtain ⟨m1, m2, m3, m4, m5⟩ := g
  have hh := h
  obtain ⟨l, im, sz, wi, n, t, a, b, c, d, e⟩ := hh
  obtain ⟨v, σ1, τ, s1, s2, e1, e2, hi⟩ := ok_q h (t_may (D) t (σ.1 300 ((x + (1 : Int32)) : Int32).toNatClampNeg))
  exact ⟨τ, s2, hi, by rw [q_L_law_1354, m1, cT, e1, mBI_s, s1.1, s1.2, m1, cT, e2, mBI_s, dT _ rfl, cT]⟩
theorem w_edge (D : Nat) (h : Inv σ) {x : Int32} (g : inS σ x) : stp D 1377 σ x := by
  obtain ⟨m1, m2, m3, m4, m5⟩ := g
  have hh := h
  obtain ⟨l, im, sz, wi, n, t, a, b, c, d, e⟩ := hh
  obtain ⟨v, σ1, τ, s1, s2, e1, e2, hi⟩ := ok_q h (t_edge (D) t (σ.1 300 ((x + (1 : Int32)) : Int32).toNatClampNeg))
  exact ⟨τ, s2, hi, by rw [q_L_law_1377, m1, cT, e1, mBI_s, s1.1, s1.2, m1, cT, e2, mBI_s, dT _ rfl, cT]⟩
theorem w_writes (D : Nat) (h : Inv σ) {x : Int32} (g : inS σ x) : stp D 1400 σ x := by
  obtain ⟨m1, m2, m3, m4, m5⟩ := g
  have hh := h
  obtain ⟨l, im, sz, wi, n, t, a, b, c, d, e⟩ := hh
  obtain ⟨v, σ1, τ, s1, s2, e1, e2, hi⟩ := ok_q h (t_writes (D) t (σ.1 300 ((x + (1 : Int32)) : Int32).toNatClampNeg))
  exact ⟨τ, s2, hi, by rw [q_L_law_1400, m1, cT, e1, mBI_s, s1.1, s1.2, m1, cT, e2, mBI_s, dT _ rfl, cT]⟩
theorem w_given (D : Nat) (h : Inv σ) {x : Int32} (g : inS σ x) : stp D 1423 σ x := by
  obtain ⟨m1, m2, m3, m4, m5⟩ := g
  have hh := h
  obtain ⟨l, im, sz, wi, n, t, a, b, c, d, e⟩ := hh
  obtain ⟨v, σ1, τ, s1, s2, e1, e2, hi⟩ := ok_q h (t_given (D) t)
  exact ⟨τ, s2, hi, by rw [q_L_law_1423, e1, mBI_s, e2, mBI_s, dT _ rfl, cT]⟩
theorem w_idle (D : Nat) (h : Inv σ) {x : Int32} (g : inS σ x) : stp D 1436 σ x := by
  obtain ⟨m1, m2, m3, m4, m5⟩ := g
  have hh := h
  obtain ⟨l, im, sz, wi, n, t, a, b, c, d, e⟩ := hh
  obtain ⟨v, σ1, τ, s1, s2, e1, e2, hi⟩ := ok_q h (t_idle (D) t)
  exact ⟨τ, s2, hi, by rw [q_L_law_1436, e1, mBI_s, e2, mBI_s, dT _ rfl, cT]⟩
theorem w_hopes (D : Nat) (h : Inv σ) {x : Int32} (g : inS σ x) : stp D 1449 σ x := by
  obtain ⟨m1, m2, m3, m4, m5⟩ := g
  have hh := h
  obtain ⟨l, im, sz, wi, n, t, a, b, c, d, e⟩ := hh
  obtain ⟨v, σ1, τ, s1, s2, e1, e2, hi⟩ := ok_q h (t_hopes (D) t (σ.1 300 ((x + (1 : Int32)) : Int32).toNatClampNeg))
  exact ⟨τ, s2, hi, by rw [q_L_law_1449, m1, cT, e1, mBI_s, s1.1, s1.2, m1, cT, e2, mBI_s, dT _ rfl, cT]⟩
theorem w_lacks (D : Nat) (h : Inv σ) {x : Int32} (g : inS σ x) : stp D 1472 σ x := by
  obtain ⟨m1, m2, m3, m4, m5⟩ := g
  have hh := h
  obtain ⟨l, im, sz, wi, n, t, a, b, c, d, e⟩ := hh
  obtain ⟨v, σ1, τ, s1, s2, e1, e2, hi⟩ := ok_q h (t_lacks (D + 1) t (σ.1 300 ((x + (1 : Int32)) : Int32).toNatClampNeg) (σ.1 300 ((x + (2 : Int32)) : Int32).toNatClampNeg))
  exact ⟨τ, s2, hi, by rw [u_1472, m1, cT, u_1478, m2, cT, u_1483, e1, mBI_s, u_1486, s1.1, s1.2, m1, cT, u_1492, s1.1, s1.2, m2, cT, u_1497, e2, mBI_s, u_1500, dT _ rfl, cT]⟩
theorem w_least (D : Nat) (h : Inv σ) {x : Int32} (g : inS σ x) : stp D 1505 σ x := by
  obtain ⟨m1, m2, m3, m4, m5⟩ := g
  have hh := h
  obtain ⟨l, im, sz, wi, n, t, a, b, c, d, e⟩ := hh
  obtain ⟨v, σ1, τ, s1, s2, e1, e2, hi⟩ := ok_T h (t_least (D + 1) t (σ.1 300 ((x + (1 : Int32)) : Int32).toNatClampNeg) (σ.1 300 ((x + (2 : Int32)) : Int32).toNatClampNeg) (σ.1 300 ((x + (3 : Int32)) : Int32).toNatClampNeg))
  exact ⟨τ, s2, hi, by rw [u_1505, m1, cT, u_1511, m2, cT, u_1516, m3, cT, u_1521, e1, mBI_s, u_1524, s1.1, s1.2, m1, cT, u_1530, s1.1, s1.2, m2, cT, u_1535, s1.1, s1.2, m3, cT, u_1540, e2, mBI_s, u_1543, dT _ rfl, cT]⟩
theorem w_target (D : Nat) (h : Inv σ) {x : Int32} (g : inS σ x) : stp D 1548 σ x := by
  obtain ⟨m1, m2, m3, m4, m5⟩ := g
  have hh := h
  obtain ⟨l, im, sz, wi, n, t, a, b, c, d, e⟩ := hh
  obtain ⟨v, σ1, τ, s1, s2, e1, e2, hi⟩ := ok_T h (t_target (D + 1) t (σ.1 300 ((x + (1 : Int32)) : Int32).toNatClampNeg) (σ.1 300 ((x + (2 : Int32)) : Int32).toNatClampNeg))
  exact ⟨τ, s2, hi, by rw [u_1548, m1, cT, u_1554, m2, cT, u_1559, e1, mBI_s, u_1562, s1.1, s1.2, m1, cT, u_1568, s1.1, s1.2, m2, cT, u_1573, e2, mBI_s, u_1576, dT _ rfl, cT]⟩
theorem w_learns (D : Nat) (h : Inv σ) {x : Int32} (g : inS σ x) : stp D 1581 σ x := by
  obtain ⟨m1, m2, m3, m4, m5⟩ := g
  have hh := h
  obtain ⟨l, im, sz, wi, n, t, a, b, c, d, e⟩ := hh
  obtain ⟨v, σ1, τ, s1, s2, e1, e2, hi⟩ := ok_T h (t_learns (D + 1) t (σ.1 300 ((x + (1 : Int32)) : Int32).toNatClampNeg) (σ.1 300 ((x + (2 : Int32)) : Int32).toNatClampNeg))
  exact ⟨τ, s2, hi, by rw [u_1581, m1, cT, u_1587, m2, cT, u_1592, e1, mBI_s, u_1595, s1.1, s1.2, m1, cT, u_1601, s1.1, s1.2, m2, cT, u_1606, e2, mBI_s, u_1609, dT _ rfl, cT]⟩
theorem w_best (D : Nat) (h : Inv σ) {x : Int32} (g : inS σ x) : stp D 1614 σ x := by
  obtain ⟨m1, m2, m3, m4, m5⟩ := g
  have hh := h
  obtain ⟨l, im, sz, wi, n, t, a, b, c, d, e⟩ := hh
  obtain ⟨v, σ1, τ, s1, s2, e1, e2, hi⟩ := ok_T h (t_best (D) t)
  exact ⟨τ, s2, hi, by rw [q_L_law_1614, e1, mBI_s, e2, mBI_s, dT _ rfl, cT]⟩
theorem w_put (D : Nat) (h : Inv σ) {x : Int32} (g : inS σ x) : stp D 1627 σ x := by
  obtain ⟨m1, m2, m3, m4, m5⟩ := g
  have hh := h
  obtain ⟨l, im, sz, wi, n, t, a, b, c, d, e⟩ := hh
  obtain ⟨v, σ1, τ, s1, s2, e1, e2, hi⟩ := ok_T h (t_put (D) t (σ.1 300 ((x + (1 : Int32)) : Int32).toNatClampNeg))
  exact ⟨τ, s2, hi, by rw [q_L_law_1627, m1, cT, e1, mBI_s, s1.1, s1.2, m1, cT, e2, mBI_s, dT _ rfl, cT]⟩
theorem w_ways (D : Nat) (h : Inv σ) {x : Int32} (g : inS σ x) : stp D 1650 σ x := by
  obtain ⟨m1, m2, m3, m4, m5⟩ := g
  have hh := h
  obtain ⟨l, im, sz, wi, n, t, a, b, c, d, e⟩ := hh
  obtain ⟨v, σ1, τ, s1, s2, e1, e2, hi⟩ := ok_T h (t_ways (D) t)
  exact ⟨τ, s2, hi, by rw [q_L_law_1650, e1, mBI_s, e2, mBI_s, dT _ rfl, cT]⟩
theorem w_by (D : Nat) (h : Inv σ) {x : Int32} (g : inS σ x) : stp D 1663 σ x := by
  obtain ⟨m1, m2, m3, m4, m5⟩ := g
  have hh := h
  obtain ⟨l, im, sz, wi, n, t, a, b, c, d, e⟩ := hh
  obtain ⟨v, σ1, τ, s1, s2, e1, e2, hi⟩ := ok_T h (t_by (D + 1) t (σ.1 300 ((x + (1 : Int32)) : Int32).toNatClampNeg))
  exact ⟨τ, s2, hi, by rw [q_L_law_1663, m1, cT, e1, mBI_s, s1.1, s1.2, m1, cT, e2, mBI_s, dT _ rfl, cT]⟩
theorem w_law (D : Nat) (h : Inv σ) {x : Int32} (g : inS σ x) : stp D 1686 σ x := by
  obtain ⟨m1, m2, m3, m4, m5⟩ := g
  have hh := h
  obtain ⟨l, im, sz, wi, n, t, a, b, c, d, e⟩ := hh
  obtain ⟨v, σ1, τ, s1, s2, e1, e2, hi⟩ := ok_T h (t_law (D + 1) t)
  exact ⟨τ, s2, hi, by rw [q_L_law_1686, e1, mBI_s, e2, mBI_s, dT _ rfl, cT]⟩
theorem w_spare (D : Nat) (h : Inv σ) {x : Int32} (g : inS σ x) : stp D 1699 σ x := by
  obtain ⟨m1, m2, m3, m4, m5⟩ := g
  have hh := h
  obtain ⟨l, im, sz, wi, n, t, a, b, c, d, e⟩ := hh
  obtain ⟨v, σ1, τ, s1, s2, e1, e2, hi⟩ := ok_T h (t_spare (D + 1) t)
  exact ⟨τ, s2, hi, by rw [q_L_law_1699, e1, mBI_s, e2, mBI_s, dT _ rfl, cT]⟩
theorem w_fits (D : Nat) (h : Inv σ) {x : Int32} (g : inS σ x) : stp D 1712 σ x := by
  obtain ⟨m1, m2, m3, m4, m5⟩ := g
  have hh := h
  obtain ⟨l, im, sz, wi, n, t, a, b, c, d, e⟩ := hh
  obtain ⟨v, σ1, τ, s1, s2, e1, e2, hi⟩ := ok_T h (t_fits (D + 1) t b (σ.1 300 ((x + (1 : Int32)) : Int32).toNatClampNeg) (σ.1 300 ((x + (2 : Int32)) : Int32).toNatClampNeg))
  exact ⟨τ, s2, hi, by rw [u_1712, m1, cT, u_1718, m2, cT, u_1723, e1, mBI_s, u_1726, s1.1, s1.2, m1, cT, u_1732, s1.1, s1.2, m2, cT, u_1737, e2, mBI_s, u_1740, dT _ rfl, cT]⟩
theorem w_surely (D : Nat) (h : Inv σ) {x : Int32} (g : inS σ x) : stp D 1745 σ x := by
  obtain ⟨m1, m2, m3, m4, m5⟩ := g
  have hh := h
  obtain ⟨l, im, sz, wi, n, t, a, b, c, d, e⟩ := hh
  obtain ⟨v, σ1, τ, s1, s2, e1, e2, hi⟩ := ok_T h (t_surely (D + 1) t b (σ.1 300 ((x + (1 : Int32)) : Int32).toNatClampNeg) (σ.1 300 ((x + (2 : Int32)) : Int32).toNatClampNeg))
  exact ⟨τ, s2, hi, by rw [u_1745, m1, cT, u_1751, m2, cT, u_1756, e1, mBI_s, u_1759, s1.1, s1.2, m1, cT, u_1765, s1.1, s1.2, m2, cT, u_1770, e2, mBI_s, u_1773, dT _ rfl, cT]⟩
theorem w_never (D : Nat) (h : Inv σ) {x : Int32} (g : inS σ x) : stp D 1778 σ x := by
  obtain ⟨m1, m2, m3, m4, m5⟩ := g
  have hh := h
  obtain ⟨l, im, sz, wi, n, t, a, b, c, d, e⟩ := hh
  obtain ⟨v, σ1, τ, s1, s2, e1, e2, hi⟩ := ok_T h (t_never (D + 1) t b (σ.1 300 ((x + (1 : Int32)) : Int32).toNatClampNeg) (σ.1 300 ((x + (2 : Int32)) : Int32).toNatClampNeg))
  exact ⟨τ, s2, hi, by rw [u_1778, m1, cT, u_1784, m2, cT, u_1789, e1, mBI_s, u_1792, s1.1, s1.2, m1, cT, u_1798, s1.1, s1.2, m2, cT, u_1803, e2, mBI_s, u_1806, dT _ rfl, cT]⟩
theorem w_ask (D : Nat) (h : Inv σ) {x : Int32} (g : inS σ x) : stp D 1811 σ x := by
  obtain ⟨m1, m2, m3, m4, m5⟩ := g
  have hh := h
  obtain ⟨l, im, sz, wi, n, t, a, b, c, d, e⟩ := hh
  obtain ⟨v, σ1, τ, s1, s2, e1, e2, hi⟩ := ok_T h (t_ask (D + 1) t b (σ.1 300 ((x + (1 : Int32)) : Int32).toNatClampNeg) (σ.1 300 ((x + (2 : Int32)) : Int32).toNatClampNeg))
  exact ⟨τ, s2, hi, by rw [u_1811, m1, cT, u_1817, m2, cT, u_1822, e1, mBI_s, u_1825, s1.1, s1.2, m1, cT, u_1831, s1.1, s1.2, m2, cT, u_1836, e2, mBI_s, u_1839, dT _ rfl, cT]⟩
theorem w_leaves (D : Nat) (h : Inv σ) {x : Int32} (g : inS σ x) : stp D 1844 σ x := by
  obtain ⟨m1, m2, m3, m4, m5⟩ := g
  have hh := h
  obtain ⟨l, im, sz, wi, n, t, a, b, c, d, e⟩ := hh
  obtain ⟨v, σ1, τ, s1, s2, e1, e2, hi⟩ := ok_T h (t_leaves (D + 1) t b (σ.1 300 ((x + (1 : Int32)) : Int32).toNatClampNeg) (σ.1 300 ((x + (2 : Int32)) : Int32).toNatClampNeg))
  exact ⟨τ, s2, hi, by rw [u_1844, m1, cT, u_1850, m2, cT, u_1855, e1, mBI_s, u_1858, s1.1, s1.2, m1, cT, u_1864, s1.1, s1.2, m2, cT, u_1869, e2, mBI_s, u_1872, dT _ rfl, cT]⟩
theorem w_laws (D : Nat) (h : Inv σ) {x : Int32} (g : inS σ x) : stp D 1877 σ x := by
  obtain ⟨m1, m2, m3, m4, m5⟩ := g
  have hh := h
  obtain ⟨l, im, sz, wi, n, t, a, b, c, d, e⟩ := hh
  obtain ⟨v, σ1, τ, s1, s2, e1, e2, hi⟩ := ok_T h (t_laws (D + 1) t b (σ.1 300 ((x + (1 : Int32)) : Int32).toNatClampNeg))
  exact ⟨τ, s2, hi, by rw [q_L_law_1877, m1, cT, e1, mBI_s, s1.1, s1.2, m1, cT, e2, mBI_s, dT _ rfl, cT]⟩
theorem w_worth (D : Nat) (h : Inv σ) {x : Int32} (g : inS σ x) : stp D 1900 σ x := by
  obtain ⟨m1, m2, m3, m4, m5⟩ := g
  have hh := h
  obtain ⟨l, im, sz, wi, n, t, a, b, c, d, e⟩ := hh
  obtain ⟨v, σ1, τ, s1, s2, e1, e2, hi⟩ := ok_q h (t_worth (D) t (σ.1 300 ((x + (1 : Int32)) : Int32).toNatClampNeg) (σ.1 300 ((x + (2 : Int32)) : Int32).toNatClampNeg) (σ.1 300 ((x + (3 : Int32)) : Int32).toNatClampNeg))
  exact ⟨τ, s2, hi, by rw [u_1900, m1, cT, u_1906, m2, cT, u_1911, m3, cT, u_1916, e1, mBI_s, u_1919, s1.1, s1.2, m1, cT, u_1925, s1.1, s1.2, m2, cT, u_1930, s1.1, s1.2, m3, cT, u_1935, e2, mBI_s, u_1938, dT _ rfl, cT]⟩
theorem w_share (D : Nat) (h : Inv σ) {x : Int32} (g : inS σ x) : stp D 1943 σ x := by
  obtain ⟨m1, m2, m3, m4, m5⟩ := g
  have hh := h
  obtain ⟨l, im, sz, wi, n, t, a, b, c, d, e⟩ := hh
  obtain ⟨v, σ1, τ, s1, s2, e1, e2, hi⟩ := ok_q h (t_share (D) t e (σ.1 300 ((x + (1 : Int32)) : Int32).toNatClampNeg) (σ.1 300 ((x + (2 : Int32)) : Int32).toNatClampNeg) (σ.1 300 ((x + (3 : Int32)) : Int32).toNatClampNeg) (σ.1 300 ((x + (4 : Int32)) : Int32).toNatClampNeg))
  exact ⟨τ, s2, hi, by rw [u_1943, m1, cT, u_1949, m2, cT, u_1954, m3, cT, u_1959, m4, cT, u_1964, e1, mBI_s, u_1967, s1.1, s1.2, m1, cT, u_1973, s1.1, s1.2, m2, cT, u_1978, s1.1, s1.2, m3, cT, u_1983, s1.1, s1.2, m4, cT, u_1988, e2, mBI_s, u_1991, dT _ rfl, cT]⟩
theorem w_rests (D : Nat) (h : Inv σ) {x : Int32} (g : inS σ x) : stp D 1996 σ x := by
  obtain ⟨m1, m2, m3, m4, m5⟩ := g
  have hh := h
  obtain ⟨l, im, sz, wi, n, t, a, b, c, d, e⟩ := hh
  obtain ⟨v, σ1, τ, s1, s2, e1, e2, hi⟩ := ok_T h (t_rests (D + 1) t (σ.1 300 ((x + (1 : Int32)) : Int32).toNatClampNeg) (σ.1 300 ((x + (2 : Int32)) : Int32).toNatClampNeg))
  exact ⟨τ, s2, hi, by rw [u_1996, m1, cT, u_2002, m2, cT, u_2007, e1, mBI_s, u_2010, s1.1, s1.2, m1, cT, u_2016, s1.1, s1.2, m2, cT, u_2021, e2, mBI_s, u_2024, dT _ rfl, cT]⟩
theorem w_wins (D : Nat) (h : Inv σ) {x : Int32} (g : inS σ x) : stp D 2029 σ x := by
  obtain ⟨m1, m2, m3, m4, m5⟩ := g
  have hh := h
  obtain ⟨l, im, sz, wi, n, t, a, b, c, d, e⟩ := hh
  obtain ⟨v, σ1, τ, s1, s2, e1, e2, hi⟩ := ok_T h (t_wins (D + 1) t (σ.1 300 ((x + (1 : Int32)) : Int32).toNatClampNeg) (σ.1 300 ((x + (2 : Int32)) : Int32).toNatClampNeg) (σ.1 300 ((x + (3 : Int32)) : Int32).toNatClampNeg) (σ.1 300 ((x + (4 : Int32)) : Int32).toNatClampNeg))
  exact ⟨τ, s2, hi, by rw [u_2029, m1, cT, u_2035, m2, cT, u_2040, m3, cT, u_2045, m4, cT, u_2050, e1, mBI_s, u_2053, s1.1, s1.2, m1, cT, u_2059, s1.1, s1.2, m2, cT, u_2064, s1.1, s1.2, m3, cT, u_2069, s1.1, s1.2, m4, cT, u_2074, e2, mBI_s, u_2077, dT _ rfl, cT]⟩
theorem w_chance (D : Nat) (h : Inv σ) {x : Int32} (g : inS σ x) : stp D 2082 σ x := by
  obtain ⟨m1, m2, m3, m4, m5⟩ := g
  have hh := h
  obtain ⟨l, im, sz, wi, n, t, a, b, c, d, e⟩ := hh
  obtain ⟨v, σ1, τ, s1, s2, e1, e2, hi⟩ := ok_L h (t_chance (D) t (σ.1 300 ((x + (1 : Int32)) : Int32).toNatClampNeg) (σ.1 300 ((x + (2 : Int32)) : Int32).toNatClampNeg) (σ.1 300 ((x + (3 : Int32)) : Int32).toNatClampNeg))
  exact ⟨τ, s2, hi, by rw [u_2082, m1, cT, u_2088, m2, cT, u_2093, m3, cT, u_2098, e1, mBL_s, u_2101, s1.1, s1.2, m1, cT, u_2107, s1.1, s1.2, m2, cT, u_2112, s1.1, s1.2, m3, cT, u_2117, e2, mBL_s, u_2120, lgc, dT _ rfl, cT]⟩
theorem w_mean (D : Nat) (h : Inv σ) {x : Int32} (g : inS σ x) : stp D 2126 σ x := by
  obtain ⟨m1, m2, m3, m4, m5⟩ := g
  have hh := h
  obtain ⟨l, im, sz, wi, n, t, a, b, c, d, e⟩ := hh
  obtain ⟨v, σ1, τ, s1, s2, e1, e2, hi⟩ := ok_L h (t_mean (D) t (σ.1 300 ((x + (1 : Int32)) : Int32).toNatClampNeg))
  exact ⟨τ, s2, hi, by rw [q_L_law_2126, m1, cT, e1, mBL_s, s1.1, s1.2, m1, cT, e2, mBL_s, lgc, dT _ rfl, cT]⟩
theorem w_wrongs (D : Nat) (h : Inv σ) {x : Int32} (g : inS σ x) : stp D 2150 σ x := by
  obtain ⟨m1, m2, m3, m4, m5⟩ := g
  have hh := h
  obtain ⟨l, im, sz, wi, n, t, a, b, c, d, e⟩ := hh
  obtain ⟨v, σ1, τ, s1, s2, e1, e2, hi⟩ := ok_c h (t_wrongs (D + 1) t (σ.1 300 ((x + (1 : Int32)) : Int32).toNatClampNeg) (σ.1 300 ((x + (2 : Int32)) : Int32).toNatClampNeg) (σ.1 300 ((x + (3 : Int32)) : Int32).toNatClampNeg) (σ.1 300 ((x + (4 : Int32)) : Int32).toNatClampNeg))
  exact ⟨τ, s2, hi, by rw [u_2150, m1, cT, u_2156, m2, cT, u_2161, m3, cT, u_2166, m4, cT, u_2171, e1, mBI_s, u_2174, s1.1, s1.2, m1, cT, u_2180, s1.1, s1.2, m2, cT, u_2185, s1.1, s1.2, m3, cT, u_2190, s1.1, s1.2, m4, cT, u_2195, e2, mBI_s, u_2198, dT _ rfl, cT]⟩
theorem w_amends (D : Nat) (h : Inv σ) {x : Int32} (g : inS σ x) : stp D 2203 σ x := by
  obtain ⟨m1, m2, m3, m4, m5⟩ := g
  have hh := h
  obtain ⟨l, im, sz, wi, n, t, a, b, c, d, e⟩ := hh
  obtain ⟨v, σ1, τ, s1, s2, e1, e2, hi⟩ := ok_c h (t_amends (D + 1) t (σ.1 300 ((x + (1 : Int32)) : Int32).toNatClampNeg) (σ.1 300 ((x + (2 : Int32)) : Int32).toNatClampNeg) (σ.1 300 ((x + (3 : Int32)) : Int32).toNatClampNeg))
  exact ⟨τ, s2, hi, by rw [u_2203, m1, cT, u_2209, m2, cT, u_2214, m3, cT, u_2219, e1, mBI_s, u_2222, s1.1, s1.2, m1, cT, u_2228, s1.1, s1.2, m2, cT, u_2233, s1.1, s1.2, m3, cT, u_2238, e2, mBI_s, u_2241, dT _ rfl, cT]⟩
theorem w_undo (D : Nat) (h : Inv σ) {x : Int32} (g : inS σ x) : stp D 2246 σ x := by
  obtain ⟨m1, m2, m3, m4, m5⟩ := g
  have hh := h
  obtain ⟨l, im, sz, wi, n, t, a, b, c, d, e⟩ := hh
  obtain ⟨v, σ1, τ, s1, s2, e1, e2, hi⟩ := ok_c h (t_undo (D + 1) t)
  exact ⟨τ, s2, hi, by rw [q_L_law_2246, e1, mBI_s, e2, mBI_s, dT _ rfl, cT]⟩
theorem w_anew (D : Nat) (h : Inv σ) {x : Int32} (g : inS σ x) : stp D 2259 σ x := by
  obtain ⟨m1, m2, m3, m4, m5⟩ := g
  have hh := h
  obtain ⟨l, im, sz, wi, n, t, a, b, c, d, e⟩ := hh
  obtain ⟨v, σ1, τ, s1, s2, e1, e2, hi⟩ := ok_c h (t_anew (D + 1) t)
  exact ⟨τ, s2, hi, by rw [q_L_law_2259, e1, mBI_s, e2, mBI_s, dT _ rfl, cT]⟩
theorem w_drawn (D : Nat) (h : Inv σ) {x : Int32} (g : inS σ x) : stp D 2272 σ x := by
  obtain ⟨m1, m2, m3, m4, m5⟩ := g
  have hh := h
  obtain ⟨l, im, sz, wi, n, t, a, b, c, d, e⟩ := hh
  obtain ⟨v, σ1, τ, s1, s2, e1, e2, hi⟩ := ok_T h (t_drawn (D) t (σ.1 300 ((x + (1 : Int32)) : Int32).toNatClampNeg) (σ.1 300 ((x + (2 : Int32)) : Int32).toNatClampNeg))
  exact ⟨τ, s2, hi, by rw [u_2272, m1, cT, u_2278, m2, cT, u_2283, e1, mBI_s, u_2286, s1.1, s1.2, m1, cT, u_2292, s1.1, s1.2, m2, cT, u_2297, e2, mBI_s, u_2300, dT _ rfl, cT]⟩
theorem w_luck (D : Nat) (h : Inv σ) {x : Int32} (g : inS σ x) : stp D 2305 σ x := by
  obtain ⟨m1, m2, m3, m4, m5⟩ := g
  have hh := h
  obtain ⟨l, im, sz, wi, n, t, a, b, c, d, e⟩ := hh
  obtain ⟨v, σ1, τ, s1, s2, e1, e2, hi⟩ := ok_T h (t_luck (D) t (σ.1 300 ((x + (1 : Int32)) : Int32).toNatClampNeg) (σ.1 300 ((x + (2 : Int32)) : Int32).toNatClampNeg) (σ.1 300 ((x + (3 : Int32)) : Int32).toNatClampNeg) (σ.1 300 ((x + (4 : Int32)) : Int32).toNatClampNeg))
  exact ⟨τ, s2, hi, by rw [u_2305, m1, cT, u_2311, m2, cT, u_2316, m3, cT, u_2321, m4, cT, u_2326, e1, mBI_s, u_2329, s1.1, s1.2, m1, cT, u_2335, s1.1, s1.2, m2, cT, u_2340, s1.1, s1.2, m3, cT, u_2345, s1.1, s1.2, m4, cT, u_2350, e2, mBI_s, u_2353, dT _ rfl, cT]⟩
theorem w_rate (D : Nat) (h : Inv σ) {x : Int32} (g : inS σ x) : stp D 2358 σ x := by
  obtain ⟨m1, m2, m3, m4, m5⟩ := g
  have hh := h
  obtain ⟨l, im, sz, wi, n, t, a, b, c, d, e⟩ := hh
  obtain ⟨v, σ1, τ, s1, s2, e1, e2, hi⟩ := ok_c h (t_rate (D + 1) t (σ.1 300 ((x + (1 : Int32)) : Int32).toNatClampNeg) (σ.1 300 ((x + (2 : Int32)) : Int32).toNatClampNeg))
  exact ⟨τ, s2, hi, by rw [u_2358, m1, cT, u_2364, m2, cT, u_2369, e1, mBI_s, u_2372, s1.1, s1.2, m1, cT, u_2378, s1.1, s1.2, m2, cT, u_2383, e2, mBI_s, u_2386, dT _ rfl, cT]⟩
theorem w_count (D : Nat) (h : Inv σ) {x : Int32} (g : inS σ x) : stp D 2391 σ x := by
  obtain ⟨m1, m2, m3, m4, m5⟩ := g
  have hh := h
  obtain ⟨l, im, sz, wi, n, t, a, b, c, d, e⟩ := hh
  obtain ⟨v, σ1, τ, s1, s2, e1, e2, hi⟩ := ok_q h (t_count (D + 1) t b (c.1.trans c.2.1.symm) (σ.1 300 ((x + (1 : Int32)) : Int32).toNatClampNeg))
  exact ⟨τ, s2, hi, by rw [q_L_law_2391, m1, cT, e1, mBI_s, s1.1, s1.2, m1, cT, e2, mBI_s, dT _ rfl, cT]⟩
theorem w_image (D : Nat) (h : Inv σ) {x : Int32} (g : inS σ x) : stp D 2414 σ x := by
  obtain ⟨m1, m2, m3, m4, m5⟩ := g
  have hh := h
  obtain ⟨l, im, sz, wi, n, t, a, b, c, d, e⟩ := hh
  obtain ⟨v, σ1, τ, s1, s2, e1, e2, hi⟩ := ok_image (D + 1) h (σ.1 300 ((x + (1 : Int32)) : Int32).toNatClampNeg)
  exact ⟨τ, s2, hi, by rw [q_L_law_2414, m1, cT, e1, mBI_s, s1.1, s1.2, m1, cT, e2, mBI_s, dT _ rfl, cT]⟩
theorem w_back (D : Nat) (h : Inv σ) {x : Int32} (g : inS σ x) : stp D 2437 σ x := by
  obtain ⟨m1, m2, m3, m4, m5⟩ := g
  have hh := h
  obtain ⟨l, im, sz, wi, n, t, a, b, c, d, e⟩ := hh
  obtain ⟨v, σ1, τ, s1, s2, e1, e2, hi⟩ := ok_c h (t_back (D + 1) t a (σ.1 300 ((x + (1 : Int32)) : Int32).toNatClampNeg))
  exact ⟨τ, s2, hi, by rw [q_L_law_2437, m1, cT, e1, mBI_s, s1.1, s1.2, m1, cT, e2, mBI_s, dT _ rfl, cT]⟩
theorem w_row (D : Nat) (h : Inv σ) {x : Int32} (g : inS σ x) : stp D 2460 σ x := by
  obtain ⟨m1, m2, m3, m4, m5⟩ := g
  have hh := h
  obtain ⟨l, im, sz, wi, n, t, a, b, c, d, e⟩ := hh
  obtain ⟨v, σ1, τ, s1, s2, e1, e2, hi⟩ := ok_s h (t_row (D + 1) b (σ.1 300 ((x + (1 : Int32)) : Int32).toNatClampNeg) (σ.1 300 ((x + (2 : Int32)) : Int32).toNatClampNeg) (σ.1 300 ((x + (3 : Int32)) : Int32).toNatClampNeg))
  exact ⟨τ, s2, hi, by rw [u_2460, m1, cT, u_2466, m2, cT, u_2471, m3, cT, u_2476, e1, mBI_s, u_2479, s1.1, s1.2, m1, cT, u_2485, s1.1, s1.2, m2, cT, u_2490, s1.1, s1.2, m3, cT, u_2495, e2, mBI_s, u_2498, dT _ rfl, cT]⟩
theorem w_write (D : Nat) (h : Inv σ) {x : Int32} (g : inS σ x) : stp D 2503 σ x := by
  obtain ⟨m1, m2, m3, m4, m5⟩ := g
  have hh := h
  obtain ⟨l, im, sz, wi, n, t, a, b, c, d, e⟩ := hh
  obtain ⟨v, σ1, τ, s1, s2, e1, e2, hi⟩ := ok_s h (t_write (D + 1) b (σ.1 300 ((x + (1 : Int32)) : Int32).toNatClampNeg) (σ.1 300 ((x + (2 : Int32)) : Int32).toNatClampNeg) (((((σ.1 300 ((x + (3 : Int32)) : Int32).toNatClampNeg) : Int32).toInt64) <<< ((32 : Int32).toInt64 &&& 63)) ||| ((((σ.1 300 ((x + (4 : Int32)) : Int32).toNatClampNeg) : Int32).toInt64) &&& (4294967295 : Int64))))
  exact ⟨τ, s2, hi, by rw [u_2503, m1, cT, u_2509, m2, cT, u_2514, m3, cT, u_2519, u_2523, m4, cT, u_2528, u_2534, e1, mBI_s, u_2537, s1.1, s1.2, m1, cT, u_2543, s1.1, s1.2, m2, cT, u_2548, s1.1, s1.2, m3, cT, u_2553, u_2557, s1.1, s1.2, m4, cT, u_2562, u_2568, e2, mBI_s, u_2571, dT _ rfl, cT]⟩
theorem w_paste (D : Nat) (h : Inv σ) {x : Int32} (g : inS σ x) : stp D 2576 σ x := by
  obtain ⟨m1, m2, m3, m4, m5⟩ := g
  have hh := h
  obtain ⟨l, im, sz, wi, n, t, a, b, c, d, e⟩ := hh
  obtain ⟨v, σ1, τ, s1, s2, e1, e2, hi⟩ := ok_s h (t_paste (D + 1) b (σ.1 300 ((x + (1 : Int32)) : Int32).toNatClampNeg) (σ.1 300 ((x + (2 : Int32)) : Int32).toNatClampNeg) (σ.1 300 ((x + (3 : Int32)) : Int32).toNatClampNeg) (σ.1 300 ((x + (4 : Int32)) : Int32).toNatClampNeg) (σ.1 300 ((x + (5 : Int32)) : Int32).toNatClampNeg))
  exact ⟨τ, s2, hi, by rw [u_2576, m1, cT, u_2582, m2, cT, u_2587, m3, cT, u_2592, m4, cT, u_2597, m5, cT, u_2602, e1, mBI_s, u_2605, s1.1, s1.2, m1, cT, u_2611, s1.1, s1.2, m2, cT, u_2616, s1.1, s1.2, m3, cT, u_2621, s1.1, s1.2, m4, cT, u_2626, s1.1, s1.2, m5, cT, u_2631, e2, mBI_s, u_2634, dT _ rfl, cT]⟩
def lTab : List Nat := [2639, 356, 419, 442, 455, 478, 501, 524, 547, 590, 623, 656, 689, 722, 755, 778, 801, 834, 867, 900, 923, 946, 969, 992, 1015, 1038, 1051, 1084, 1117, 1150, 1173, 1196, 1219, 1242, 1275, 1308, 1331, 1354, 1377, 1400, 1423, 1436, 1449, 1472, 1505, 1548, 1581, 1614, 1627, 1650, 1663, 1686, 1699, 1712, 1745, 1778, 1811, 1844, 1877, 1900, 1943, 1996, 2029, 2082, 2126, 2150, 2203, 2246, 2259, 2272, 2305, 2358, 2391, 2414, 2437, 2460, 2503, 2576]
theorem w_any (D : Nat) (h : Inv σ) {x : Int32} (g : inS σ x) : ∀ n, n < 77 → stp D (mNth lTab (n + 1)) σ x := by
  intro n hn
  match n, hn with
  | 0, _ => exact w_feed D h g
  | 1, _ => exact w_end D h g
  | 2, _ => exact w_land D h g
  | 3, _ => exact w_fault D h g
  | 4, _ => exact w_skills D h g
  | 5, _ => exact w_needs D h g
  | 6, _ => exact w_year D h g
  | 7, _ => exact w_feels D h g
  | 8, _ => exact w_enemies D h g
  | 9, _ => exact w_friends D h g
  | 10, _ => exact w_hate D h g
  | 11, _ => exact w_worst D h g
  | 12, _ => exact w_mild D h g
  | 13, _ => exact w_bitter D h g
  | 14, _ => exact w_praise D h g
  | 15, _ => exact w_dearest D h g
  | 16, _ => exact w_foe D h g
  | 17, _ => exact w_steady D h g
  | 18, _ => exact w_cold D h g
  | 19, _ => exact w_harms D h g
  | 20, _ => exact w_hurts D h g
  | 21, _ => exact w_all D h g
  | 22, _ => exact w_top D h g
  | 23, _ => exact w_next D h g
  | 24, _ => exact w_first D h g
  | 25, _ => exact w_sours D h g
  | 26, _ => exact w_years D h g
  | 27, _ => exact w_lowest D h g
  | 28, _ => exact w_hated D h g
  | 29, _ => exact w_porter D h g
  | 30, _ => exact w_mutual D h g
  | 31, _ => exact w_rings D h g
  | 32, _ => exact w_word D h g
  | 33, _ => exact w_pens D h g
  | 34, _ => exact w_gets D h g
  | 35, _ => exact w_has D h g
  | 36, _ => exact w_may D h g
  | 37, _ => exact w_edge D h g
  | 38, _ => exact w_writes D h g
  | 39, _ => exact w_given D h g
  | 40, _ => exact w_idle D h g
  | 41, _ => exact w_hopes D h g
  | 42, _ => exact w_lacks D h g
  | 43, _ => exact w_least D h g
  | 44, _ => exact w_target D h g
  | 45, _ => exact w_learns D h g
  | 46, _ => exact w_best D h g
  | 47, _ => exact w_put D h g
  | 48, _ => exact w_ways D h g
  | 49, _ => exact w_by D h g
  | 50, _ => exact w_law D h g
  | 51, _ => exact w_spare D h g
  | 52, _ => exact w_fits D h g
  | 53, _ => exact w_surely D h g
  | 54, _ => exact w_never D h g
  | 55, _ => exact w_ask D h g
  | 56, _ => exact w_leaves D h g
  | 57, _ => exact w_laws D h g
  | 58, _ => exact w_worth D h g
  | 59, _ => exact w_share D h g
  | 60, _ => exact w_rests D h g
  | 61, _ => exact w_wins D h g
  | 62, _ => exact w_chance D h g
  | 63, _ => exact w_mean D h g
  | 64, _ => exact w_wrongs D h g
  | 65, _ => exact w_amends D h g
  | 66, _ => exact w_undo D h g
  | 67, _ => exact w_anew D h g
  | 68, _ => exact w_drawn D h g
  | 69, _ => exact w_luck D h g
  | 70, _ => exact w_rate D h g
  | 71, _ => exact w_count D h g
  | 72, _ => exact w_image D h g
  | 73, _ => exact w_back D h g
  | 74, _ => exact w_row D h g
  | 75, _ => exact w_write D h g
  | 76, _ => exact w_paste D h g
  | n + 77, hn => exact absurd hn (by omega)
theorem w_cmp {m k : Nat} (hm : m ≤ 3072) (h2 : k ≤ m + 5) (c : m < k + 6) : (Int32.ofNat m - (6 : Int32)).toInt < (nI k).toInt := by
  have e1 : (nI k).toInt = (k : Int) := nI_toInt (by omega)
  have e2 : (Int32.ofNat m).toInt = (m : Int) := nI_toInt (by omega)
  rw [Int32.toInt_sub, e1, e2, show (6 : Int32).toInt = 6 from rfl]
  rw [Int.bmod_eq_of_le (by omega) (by omega)]
  omega
theorem w_33 (D : Nat) (h : Inv σ) {x : Int32} (g : inS σ x) (s0 : Int32) : ∃ τ, sc σ τ ∧ Inv τ ∧ Xx (D + 13) n_L_law 33 [.ref 300, .ref 0, .ref 200, .int x] [.int s0] σ = Xx (D + 13) n_L_law 2639 [.ref 300, .ref 0, .ref 200, .int x] [] τ := by
  rw [q_L_law_33]
  by_cases e : s0.toInt < 0 ∨ 76 < s0.toInt
  · exact ⟨σ, sc_r σ, h, by rw [dT _ e, cT]⟩
  · obtain ⟨τ, s, i, q⟩ := w_any D h g (s0.toInt - 0).toNat (by omega)
    exact ⟨τ, s, i, by rw [dF _ e, cF]; exact q⟩
theorem w_loop (D m : Nat) (hm : m ≤ 3072) : ∀ r k (σ : mS), m - k ≤ r → k ≤ m + 5 → σ.1 299 0 = nI m → Inv σ → ∃ τ, Xx (D + 13) n_L_law 18 [.ref 300, .ref 0, .ref 200, .int (nI k)] [] σ = some (.int 1, τ) := by
  intro r
  induction r with
  | zero =>
    intro k σ h1 h2 h3 h
    refine ⟨σ, ?_⟩
    rw [q_L_law_18, h3, nI_clamp (by omega), dT _ (by rw [Int32.lt_iff_toInt_lt]; exact w_cmp hm h2 (by omega)), cT]
  | succ r ih =>
    intro k σ h1 h2 h3 h
    by_cases c : m < k + 6
    · refine ⟨σ, ?_⟩
      rw [q_L_law_18, h3, nI_clamp (by omega), dT _ (by rw [Int32.lt_iff_toInt_lt]; exact w_cmp hm h2 c), cT]
    · have e6 : (Int32.ofNat m - (6 : Int32)) = nI (m - 6) := nI_sub (a := 6) (b := m) (by omega)
      have g : inS σ (nI k) := by
        unfold inS
        rw [h3, nI_clamp (by omega)]
        refine ⟨?_, ?_, ?_, ?_, ?_⟩
        · rw [show nI k + 1 = nI (k + 1) from nI_add k 1]; exact mIn_nI (by omega) (by omega)
        · rw [show nI k + 2 = nI (k + 2) from nI_add k 2]; exact mIn_nI (by omega) (by omega)
        · rw [show nI k + 3 = nI (k + 3) from nI_add k 3]; exact mIn_nI (by omega) (by omega)
        · rw [show nI k + 4 = nI (k + 4) from nI_add k 4]; exact mIn_nI (by omega) (by omega)
        · rw [show nI k + 5 = nI (k + 5) from nI_add k 5]; exact mIn_nI (by omega) (by omega)
      obtain ⟨τ, s, i, q⟩ := w_33 D h g ((σ.1 300 (nI k).toNatClampNeg) &&& (127 : Int32))
      obtain ⟨υ, q2⟩ := ih (k + 6) τ (by omega) (by omega) (by rw [s.1]; exact h3) i
      refine ⟨υ, ?_⟩
      rw [q_L_law_18, h3, nI_clamp (by omega), e6, dF _ (by rw [nI_ltI (by omega) (by omega)]; omega), cF, mIn_nI (by omega) (by omega), cT, q, q_L_law_2639, show nI k + 6 = nI (k + 6) from nI_add k 6, q2]
/-- the law answers 1, from the loop's beginning, on every script -/
theorem w_whole (D m : Nat) (hm : m ≤ 3072) (σ : mS) (h3 : σ.1 299 0 = nI m) (h : Inv σ) : ∃ τ, Xx (D + 13) n_L_law 16 [.ref 300, .ref 0, .ref 200, .null] [] σ = some (.int 1, τ) := by
  rw [q_L_law_16]
  exact w_loop D m hm m 0 σ (by omega) (by omega) h3 h

