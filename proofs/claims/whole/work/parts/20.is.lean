/-! ===== what there is: both sides ===== -/
theorem mIn_of {x : Int32} {n : Nat} (h : mIn x n = true) : ∃ k, k < n ∧ x = nI k := by
  unfold mIn at h
  simp only [Bool.and_eq_true, Bool.not_eq_true', decide_eq_false_iff_not] at h
  obtain ⟨j, h1, rfl⟩ := nI_of h.1
  have h2 := Nat.blt_eq.mp h.2
  rw [nI_clamp h1] at h2
  exact ⟨j, h2, rfl⟩
theorem mIn_iff (x : Int32) (n : Nat) (hn : n < 2 ^ 31) : mIn x n = (!(decide (x < 0)) && !(decide (nI n ≤ x))) := by
  by_cases h : x < 0
  · unfold mIn
    rw [decide_eq_true h]
    rfl
  · obtain ⟨j, h1, rfl⟩ := nI_of h
    unfold mIn
    rw [decide_eq_false h, nI_clamp h1]
    by_cases h2 : j < n
    · rw [Nat.blt_eq.mpr h2, decide_eq_false (nI_ge h2 hn)]
      rfl
    · rw [decide_eq_true (nI_le (by omega) h1)]
      cases hb : Nat.blt j n with
      | false => rfl
      | true => exact absurd (Nat.blt_eq.mp hb) h2
/-- a method's three ways: neither end of a range, or within it -/
theorem three (x : Int32) (n : Nat) (hn : n < 2 ^ 31) (σ : mS) : (bif decide (x < 0) then some (Value.int 0, σ) else (bif decide (nI n ≤ x) then some (Value.int 0, σ) else some (Value.int 1, σ))) = some (Value.int (bI (mIn x n)), σ) := by
  rw [mIn_iff x n hn]
  cases decide (x < 0) <;> cases decide (nI n ≤ x) <;> rfl
theorem k_isPerson (d : Nat) (x : Int32) (σ : mS) {n : Nat} (hn : σ.1 40 3 = nI n) (h : n < 2 ^ 31) : Cc (d + 1) n_E_isPerson [.ref 0, .int x] σ = some (.int (bI (mIn x n)), σ) := by
  rw [Cc_s, q_E_isPerson_0, hn]
  exact three x n h σ
theorem k_isPost (d : Nat) (x : Int32) (σ : mS) {n : Nat} (hn : σ.1 40 5 = nI n) (h : n < 2 ^ 31) : Cc (d + 1) n_E_isPost [.ref 0, .int x] σ = some (.int (bI (mIn x n)), σ) := by
  rw [Cc_s, q_E_isPost_0, hn]
  exact three x n h σ
theorem k_isYear (d : Nat) (x : Int32) (σ : mS) {n : Nat} (hn : σ.1 40 0 = nI n) (h : n < 2 ^ 31) : Cc (d + 1) n_E_isYear [.ref 0, .int x] σ = some (.int (bI (mIn x n)), σ) := by
  rw [Cc_s, q_E_isYear_0, hn]
  exact three x n h σ
theorem k_isLand (d : Nat) (σ : mS) {n : Nat} (hn : σ.1 40 6 = nI n) (h : n < 2 ^ 31) : Cc (d + 1) n_E_isLand [.ref 0] σ = some (.int (bI (decide (0 < n))), σ) := by
  rw [Cc_s, q_E_isLand_0, hn]
  by_cases hz : 0 < n
  · rw [decide_eq_true hz, decide_eq_false (nI_nle hz h)]; rfl
  · rw [show n = 0 by omega]; rfl
theorem k_isPair (d : Nat) (x y : Int32) (σ : mS) {n : Nat} (hn : σ.1 40 3 = nI n) (h : n < 2 ^ 31) : Cc (d + 2) n_E_isPair [.ref 0, .int x, .int y] σ = some (.int (bI (mIn x n && mIn y n && !(decide (x = y)))), σ) := by
  rw [Cc_s, q_E_isPair_0, k_isPerson d x σ hn h, mBI_s, k_isPerson d y σ hn h, mBI_s, bI_0, bI_0]
  cases mIn x n <;> cases mIn y n <;> cases decide (x = y) <;> rfl
theorem k_isThen (d : Nat) (x y : Int32) (σ : mS) {n m : Nat} (hn : σ.1 40 3 = nI n) (h : n < 2 ^ 31) (hm : σ.1 40 0 = nI m) (h' : m < 2 ^ 31) : Cc (d + 2) n_E_isThen [.ref 0, .int x, .int y] σ = some (.int (bI (mIn x n && mIn y m)), σ) := by
  rw [Cc_s, q_E_isThen_0, k_isPerson d x σ hn h, mBI_s, k_isYear d y σ hm h', mBI_s, bI_0, bI_0]
  cases mIn x n <;> cases mIn y m <;> rfl
theorem k_isFor (d : Nat) (x y : Int32) (σ : mS) {n m : Nat} (hn : σ.1 40 3 = nI n) (h : n < 2 ^ 31) (hm : σ.1 40 5 = nI m) (h' : m < 2 ^ 31) : Cc (d + 2) n_E_isFor [.ref 0, .int x, .int y] σ = some (.int (bI (mIn x n && mIn y m)), σ) := by
  rw [Cc_s, q_E_isFor_0, k_isPerson d x σ hn h, mBI_s, k_isPost d y σ hm h', mBI_s, bI_0, bI_0]
  cases mIn x n <;> cases mIn y m <;> rfl
theorem k_isIn (d : Nat) (k : Nat) (hk : k < 32) (s : Int32) (σ : mS) : Cc (d + 1) n_E_isIn [.int (nI k), .int s] σ = some (.int (bI (bt s k)), σ) := by
  rw [Cc_s, q_E_isIn_0, bt_bI s hk]
  cases bt s k <;> rfl
theorem k_isPart (d : Nat) (x : Int32) (σ : mS) : Cc (d + 1) n_E_isPart [.int x] σ = some (.int (bI (decide (x = 0) || decide (x = 1))), σ) := by
  rw [Cc_s, q_E_isPart_0, decide_not]
  cases decide (x = 0) <;> cases decide (x = 1) <;> rfl
/-! the reference's -/
theorem lg_lt (x y : Int64) : decide (lg_cmp x y < 0) = decide (x < y) := by
  unfold lg_cmp
  by_cases h : x > y
  · rw [if_pos h, decide_eq_false (by decide), decide_eq_false (Int64.not_lt.mpr (Int64.le_of_lt h))]
  · rw [if_neg h]
    by_cases h2 : x = y
    · rw [if_pos h2, h2, decide_eq_false (by decide), decide_eq_false (Int64.lt_irrefl)]
    · rw [if_neg h2, decide_eq_true (by decide), decide_eq_true]
      rcases Int64.lt_or_eq_of_le (Int64.not_lt.mp h) with q | q
      · exact q
      · exact absurd q h2
theorem lg_gt (x y : Int64) : decide (0 < lg_cmp x y) = decide (y < x) := by
  unfold lg_cmp
  by_cases h : x > y
  · rw [if_pos h, decide_eq_true (by decide), decide_eq_true h]
  · rw [if_neg h, decide_eq_false h]
    by_cases h2 : x = y
    · rw [if_pos h2, decide_eq_false (by decide)]
    · rw [if_neg h2, decide_eq_false (by decide)]
theorem r_in (d : Nat) (x y z : Int64) (σ : mS) : Cc (d + 1) n_M_in [.long x, .null, .long y, .null, .long z, .null] σ = some (.int (bI (!(decide (x < y)) && !(decide (z < x)))), σ) := by
  rw [Cc_s, q_M_in_0, lg_lt, lg_gt]
  cases decide (x < y) <;> cases decide (z < x) <;> rfl
theorem nI_less1 {n : Nat} (h : n < 2 ^ 31) : (nI n - 1).toInt = (n : Int) - 1 := by
  cases n with
  | zero => decide
  | succ k =>
    rw [nI_pred, nI_toInt (by omega)]
    omega
theorem in_mIn (x : Int32) {n : Nat} (h : n < 2 ^ 31) : (!(decide (x.toInt64 < 0)) && !(decide ((nI n - 1).toInt64 < x.toInt64))) = mIn x n := by
  rw [mIn_iff x n h]
  have e1 : decide (x.toInt64 < 0) = decide (x < 0) := by
    apply decide_eq_decide.mpr
    rw [Int64.lt_iff_toInt_lt, Int32.toInt_toInt64, Int32.lt_iff_toInt_lt]
    exact Iff.rfl
  have e2 : decide ((nI n - 1).toInt64 < x.toInt64) = decide (nI n ≤ x) := by
    apply decide_eq_decide.mpr
    rw [Int64.lt_iff_toInt_lt, Int32.toInt_toInt64, Int32.toInt_toInt64, Int32.le_iff_toInt_le, nI_less1 h, nI_toInt h]
    omega
  rw [e1, e2]
theorem clit {k : Nat} (h : k < 2 ^ 31) : (nI k).toNatClampNeg = k := nI_clamp h
theorem r_inI (d : Nat) (x : Int32) (σ : mS) {n : Nat} (h : n < 2 ^ 31) : Cc (d + 1) n_M_in [.long x.toInt64, .null, .long 0, .null, .long (nI n - 1).toInt64, .null] σ = some (.int (bI (mIn x n)), σ) := by
  rw [r_in, in_mIn x h]
theorem r_persons (d : Nat) (σ : mS) : Cc (d + 1) n_M_persons [.ref 200] σ = some (.int (σ.1 201 3), σ) := by
  rw [Cc_s, q_M_persons_0]
theorem r_posts (d : Nat) (σ : mS) : Cc (d + 1) n_M_posts [.ref 200] σ = some (.int (σ.1 201 6), σ) := by
  rw [Cc_s, q_M_posts_0]
theorem r_yearMany (d : Nat) (σ : mS) : Cc (d + 1) n_M_yearMany [.ref 200] σ = some (.int (σ.1 201 0), σ) := by
  rw [Cc_s, q_M_yearMany_0]
theorem r_isPerson (d : Nat) (x : Int32) (σ : mS) {n : Nat} (hn : σ.1 201 3 = nI n) (h : n < 2 ^ 31) : Cc (d + 2) n_M_isPerson [.ref 200, .long x.toInt64, .null] σ = some (.int (bI (mIn x n)), σ) := by
  rw [Cc_s, q_M_isPerson_0, r_persons, mBI_s, hn, r_inI d x σ h, mBI_s, mZ_b]
  rfl
theorem r_isPost (d : Nat) (x : Int32) (σ : mS) {n : Nat} (hn : σ.1 201 6 = nI n) (h : n < 2 ^ 31) : Cc (d + 2) n_M_isPost [.ref 200, .long x.toInt64, .null] σ = some (.int (bI (mIn x n)), σ) := by
  rw [Cc_s, q_M_isPost_0, r_posts, mBI_s, hn, r_inI d x σ h, mBI_s, mZ_b]
  rfl
theorem r_isLand (d : Nat) (σ : mS) {n : Nat} (hn : σ.1 201 8 = nI n) (h : n < 2 ^ 31) : Cc (d + 1) n_M_isLand [.ref 200] σ = some (.int (bI (decide (0 < n))), σ) := by
  rw [Cc_s, q_M_isLand_0, hn]
  by_cases hz : 0 < n
  · rw [decide_eq_true hz, decide_eq_false (nI_nle hz h)]; rfl
  · rw [show n = 0 by omega]; rfl
theorem r_isYear (d : Nat) (x : Int32) (σ : mS) {n m : Nat} (hn : σ.1 201 8 = nI n) (h : n < 2 ^ 31) (hm : σ.1 201 0 = nI m) (h' : m < 2 ^ 31) : Cc (d + 2) n_M_isYear [.ref 200, .long x.toInt64, .null] σ = some (.int (bI (decide (0 < n) && mIn x m)), σ) := by
  rw [Cc_s, q_M_isYear_0, r_isLand d σ hn h, mBI_s, r_yearMany, mBI_s, hm, r_inI d x σ h', mBI_s, bI_0, bI_0]
  cases decide (0 < n) <;> cases mIn x m <;> rfl
theorem r_areTwo (d : Nat) (x y : Int32) (σ : mS) {n : Nat} (hn : σ.1 201 3 = nI n) (h : n < 2 ^ 31) : Cc (d + 3) n_M_areTwo [.ref 200, .int x, .int y] σ = some (.int (bI (mIn x n && mIn y n && !(decide (x = y)))), σ) := by
  rw [Cc_s, q_M_areTwo_0, r_isPerson d x σ hn h, mBI_s, r_isPerson d y σ hn h, mBI_s, bI_0, bI_0]
  cases mIn x n <;> cases mIn y n <;> cases decide (x = y) <;> rfl
theorem r_bit (d : Nat) (s : Int32) (k : Nat) (hk : k < 32) (σ : mS) : Cc (d + 1) n_M_bit [.int s, .int (nI k)] σ = some (.int (bI (bt s k)), σ) := by
  rw [Cc_s, q_M_bit_0, bt_bI s hk]
