/-! ===== the tape ===== -/
variable {σ τ : mS} {l : Lv}
def tpT (σ : mS) (n : Nat) : Prop := σ.1 1 1 = nI n ∧ σ.1 200 5 = nI n ∧ n ≤ 800 ∧ ∀ j, j < n → σ.1 2 j = σ.1 204 j ∧ bw (-128) (σ.1 2 j) 127
/-- what feeding leaves -/
def fK (σ τ : mS) : Prop := (∀ a, a ≠ 1 → a ≠ 2 → a ≠ 200 → a ≠ 204 → a ≠ 206 → τ.1 a = σ.1 a) ∧ (∀ k, k ≠ 5 → τ.1 200 k = σ.1 200 k) ∧ τ.2 = σ.2
theorem fK_r (σ : mS) : fK σ σ := ⟨fun _ _ _ _ _ _ => rfl, fun _ _ => rfl, rfl⟩
def fch (D mE mM : Nat) (aE aM : List Value) (σ : mS) : Prop := ∃ v σ' τ n, sc σ σ' ∧ Cc D mE aE σ = some (.int v, σ') ∧ Cc D mM aM σ' = some (.int v, τ) ∧ fK σ τ ∧ tpT τ n
def sh (k : Nat) : Int32 := 24 - 8 * nI k
def byt (x s : Int32) : Int32 := vp_nar .byte ((x >>> (s &&& 31)).toInt8.toInt32)
theorem byt_bw (x s : Int32) : bw (-128) (byt x s) 127 := by
  unfold byt
  show bw (-128) ((x >>> (s &&& 31)).toInt8.toInt32.toInt8.toInt32) 127
  generalize (x >>> (s &&& 31)).toInt8.toInt32.toInt8 = y
  unfold bw
  rw [Int8.toInt_toInt32]
  exact ⟨Int8.le_toInt y, by have := Int8.toInt_lt y; omega⟩
theorem k_add (d : Nat) (x : Int32) {n : Nat} (hn : n + 4 ≤ 800) (h : σ.1 1 1 = nI n) : ∃ τ, Cc (d + 1) n_Ta_add [.ref 1, .int x, .null] σ = some (.null, τ) ∧ τ.1 1 1 = nI (n + 4) ∧ (∀ j, j < n → τ.1 2 j = σ.1 2 j) ∧ (∀ j, j < 4 → τ.1 2 (n + j) = byt x (sh j)) ∧ (∀ a, a ≠ 1 → a ≠ 2 → τ.1 a = σ.1 a) ∧ τ.2 = σ.2 := by
  rw [c_Ta_add]
  obtain ⟨τ, e, i1, i2, i3, i4, i5⟩ := mForI (fun k (_ : Unit) (t : mS) => Xx d n_Ta_add 3 [.ref 1, .int x, .int (sh k)] [] t) (fun k t => t.1 1 1 = nI (n + k) ∧ (∀ j, j < n → t.1 2 j = σ.1 2 j) ∧ (∀ j, j < k → t.1 2 (n + j) = byt x (sh j)) ∧ (∀ a, a ≠ 1 → a ≠ 2 → t.1 a = σ.1 a) ∧ t.2 = σ.2) (fun _ a => a) 4 () σ ⟨h, fun _ _ => rfl, fun j hj => absurd hj (by omega), fun _ _ _ => rfl, rfl⟩ (by
    intro k t hk hI
    obtain ⟨j1, j2, j3, j4, j5⟩ := hI
    have s0 : decide (sh k < 0) = false := by
      rcases (show k = 0 ∨ k = 1 ∨ k = 2 ∨ k = 3 by omega) with rfl | rfl | rfl | rfl <;> decide
    have s1 : sh k + (-8) = sh (k + 1) := by
      rcases (show k = 0 ∨ k = 1 ∨ k = 2 ∨ k = 3 by omega) with rfl | rfl | rfl | rfl <;> decide
    refine ⟨sR (sR t 2 (upd (t.1 2) (n + k) (byt x (sh k)))) 1 (upd (t.1 1) 1 (nI (n + (k + 1)))), ?_, ?_, fun j hj => ?_, fun j hj => ?_, fun a a1 a2 => ?_, ?_⟩
    · rw [q_Ta_add_3, s0, cF, s1, j1, show decide ((800 : Int32) ≤ nI (n + k)) = false from decide_eq_false (nI_ge (b := 800) (by omega) (by decide)), cF, mIn_nI (by omega) (by omega), cT, nI_clamp (by omega), mUpI_sR, mUpI_sR, sR_ne _ _ (by decide), j1, nI_1]
      rfl
    · rw [sR_at, upd_at]
    · rw [sR_ne _ _ (by decide), sR_at, upd_ne _ _ (by omega)]; exact j2 j hj
    · rw [sR_ne _ _ (by decide), sR_at]
      by_cases g : j = k
      · rw [g, upd_at]
      · rw [upd_ne _ _ (by omega)]; exact j3 j (by omega)
    · rw [sR_ne _ _ a1, sR_ne _ _ a2]; exact j4 a a1 a2
    · exact j5)
  refine ⟨τ, Eq.trans e ?_, i1, i2, i3, i4, i5⟩
  rw [q_Ta_add_3, show decide (sh 4 < 0) = true by decide, cT]
def fv (a b c d e : Int32) (k : Nat) : Int32 := match k with
  | 0 => a
  | 1 => b
  | 2 => c
  | 3 => d
  | _ => e
theorem div4 {k : Nat} (h : k < 20) : nI k / (4 : Int32) = nI (k / 4) := by
  have : ∀ k, k < 20 → nI k / (4 : Int32) = nI (k / 4) := by decide
  exact this k h
theorem rem4 {k : Nat} (h : k < 20) : mRem (nI k) 4 = nI (k % 4) := mRem_nI (d := 4) (by omega) (by omega) (by omega)
theorem add20 {n : Nat} (h : n ≤ 800) : decide (nI n + 20 ≤ 800) = decide (n + 20 ≤ 800) := by
  rw [show (20 : Int32) = nI 20 from rfl, nI_add]
  exact dle (b := 800) (by omega) (by decide)
theorem r_feed55 (d : Nat) {n : Nat} (hn : n + 20 ≤ 800) (h : τ.1 200 5 = nI n) (F : Nat → Int32) (h6 : ∀ k, k < 5 → τ.1 206 k = F k) (v1 v2 v3 v4 v5 : Value) : ∃ τ', Xx d n_M_feed 55 [.ref 200, v1, v2, v3, v4, v5, .int 0] [] τ = some (.int (nI (n + 20)), mUpI τ' 200 5 (nI (n + 20))) ∧ (∀ j, j < n → τ'.1 204 j = τ.1 204 j) ∧ (∀ j, j < 20 → τ'.1 204 (n + j) = byt (F (j / 4)) (sh (j % 4))) ∧ (∀ a, a ≠ 204 → τ'.1 a = τ.1 a) ∧ τ'.2 = τ.2 := by
  obtain ⟨⟨w, τ'⟩, e, i2, i3, i4, i5⟩ := mForI (fun k (_ : Unit) (b : Value × mS) => Xx d n_M_feed 55 [.ref 200, v1, v2, v3, v4, b.1, .int (nI k)] [] b.2) (fun k b => (∀ j, j < n → b.2.1 204 j = τ.1 204 j) ∧ (∀ j, j < k → b.2.1 204 (n + j) = byt (F (j / 4)) (sh (j % 4))) ∧ (∀ a, a ≠ 204 → b.2.1 a = τ.1 a) ∧ b.2.2 = τ.2) (fun _ a => a) 20 () (v5, τ) ⟨fun _ _ => rfl, fun j hj => absurd hj (by omega), fun _ _ => rfl, rfl⟩ (by
    intro k b hk hI
    obtain ⟨j2, j3, j4, j5⟩ := hI
    refine ⟨(mKl b.1, sR b.2 204 (upd (b.2.1 204) (n + k) (byt (F (k / 4)) (sh (k % 4))))), ?_, fun j hj => ?_, fun j hj => ?_, fun a a1 => ?_, j5⟩
    · rw [q_M_feed_55, show decide ((20 : Int32) ≤ nI k) = false from decide_eq_false (nI_ge (b := 20) hk (by decide)), cF, div4 hk, mIn_nI (by omega) (by omega), cT, j4 200 (by decide), h, nI_add, mIn_nI (by omega) (by omega), cT, nI_clamp (by omega), nI_clamp (by omega), j4 206 (by decide), h6 _ (by omega), rem4 hk, nI_1, mUpI_sR]
      rfl
    · rw [sR_at, upd_ne _ _ (by omega)]; exact j2 j hj
    · rw [sR_at]
      by_cases g : j = k
      · rw [g, upd_at]
      · rw [upd_ne _ _ (by omega)]; exact j3 j (by omega)
    · rw [sR_ne _ _ a1]; exact j4 a a1)
  refine ⟨τ', Eq.trans e ?_, i2, i3, i4, i5⟩
  rw [q_M_feed_55, show decide ((20 : Int32) ≤ nI 20) = true by decide, cT, i4 200 (by decide), h, show (20 : Int32) = nI 20 from rfl, nI_add, mUpI_sR, sR_at, upd_at]
theorem t_feed (D : Nat) {n : Nat} (h : tpT σ n) (a b c d e : Int32) : fch (D + 12) n_E_feed n_M_feed [.ref 0, .int a, .int b, .int c, .int d, .int e] [.ref 200, .int a, .int b, .int c, .int d, .int e, .null] σ := by
  obtain ⟨t1, t2, t3, t4⟩ := h
  by_cases g : n + 20 ≤ 800
  · obtain ⟨σ1, e1, a1, b1, c1, d1, f1⟩ := k_add (D + 10) a (σ := σ) (n := n) (by omega) t1
    obtain ⟨σ2, e2, a2, b2, c2, d2, f2⟩ := k_add (D + 10) b (σ := σ1) (n := n + 4) (by omega) a1
    obtain ⟨σ3, e3, a3, b3, c3, d3, f3⟩ := k_add (D + 10) c (σ := σ2) (n := n + 8) (by omega) a2
    obtain ⟨σ4, e4, a4, b4, c4, d4, f4⟩ := k_add (D + 10) d (σ := σ3) (n := n + 12) (by omega) a3
    obtain ⟨σ5, e5, a5, b5, c5, d5, f5⟩ := k_add (D + 10) e (σ := σ4) (n := n + 16) (by omega) a4
    have hk : ∀ r, r ≠ 1 → r ≠ 2 → σ5.1 r = σ.1 r := fun r h1 h2 => by rw [d5 r h1 h2, d4 r h1 h2, d3 r h1 h2, d2 r h1 h2, d1 r h1 h2]
    have hj : σ5.2 = σ.2 := by rw [f5, f4, f3, f2, f1]
    have lo : ∀ j, j < n → σ5.1 2 j = σ.1 2 j := fun j h => by rw [b5 j (by omega), b4 j (by omega), b3 j (by omega), b2 j (by omega), b1 j h]
    have hi : ∀ j, j < 20 → σ5.1 2 (n + j) = byt (fv a b c d e (j / 4)) (sh (j % 4)) := by
      intro j h
      rcases (show j / 4 = 0 ∨ j / 4 = 1 ∨ j / 4 = 2 ∨ j / 4 = 3 ∨ j / 4 = 4 by omega) with q | q | q | q | q
      · rw [q, b5 _ (by omega), b4 _ (by omega), b3 _ (by omega), b2 _ (by omega), show n + j = n + j % 4 by omega, c1 _ (by omega)]; rfl
      · rw [q, b5 _ (by omega), b4 _ (by omega), b3 _ (by omega), show n + j = n + 4 + j % 4 by omega, c2 _ (by omega)]; rfl
      · rw [q, b5 _ (by omega), b4 _ (by omega), show n + j = n + 8 + j % 4 by omega, c3 _ (by omega)]; rfl
      · rw [q, b5 _ (by omega), show n + j = n + 12 + j % 4 by omega, c4 _ (by omega)]; rfl
      · rw [q, show n + j = n + 16 + j % 4 by omega, c5 _ (by omega)]; rfl
    have e206 : mUpI (mUpI (mUpI (mUpI (mUpI σ5 206 0 a) 206 1 b) 206 2 c) 206 3 d) 206 4 e = sR σ5 206 (upd (upd (upd (upd (upd (σ5.1 206) 0 a) 1 b) 2 c) 3 d) 4 e) := by
      simp only [mUpI_sR, sR_sR, sR_at]
    have h6 : ∀ k, k < 5 → (sR σ5 206 (upd (upd (upd (upd (upd (σ5.1 206) 0 a) 1 b) 2 c) 3 d) 4 e)).1 206 k = fv a b c d e k := by
      intro k hk
      rw [sR_at]
      rcases (show k = 0 ∨ k = 1 ∨ k = 2 ∨ k = 3 ∨ k = 4 by omega) with rfl | rfl | rfl | rfl | rfl <;> rfl
    have h5 : (sR σ5 206 (upd (upd (upd (upd (upd (σ5.1 206) 0 a) 1 b) 2 c) 3 d) 4 e)).1 200 5 = nI n := by
      rw [sR_ne _ _ (by decide), hk 200 (by decide) (by decide)]; exact t2
    obtain ⟨τ, e6, g2, g3, g4, g5⟩ := r_feed55 (D + 11) g h5 _ h6 (.int a) (.int b) (.int c) (.int d) (.int e)
    refine ⟨nI (n + 20), σ5, mUpI τ 200 5 (nI (n + 20)), n + 20, ⟨hk 299 (by decide) (by decide), hk 300 (by decide) (by decide)⟩, ?_, ?_, ⟨fun r h1 h2 h3 h4 h5 => ?_, fun k hk5 => ?_, ?_⟩, ?_, ?_, g, fun j hj => ?_⟩
    · rw [c_E_feed, t1, add20 t3, dT _ g, cT, e1, mBV_s, e2, mBV_s, e3, mBV_s, e4, mBV_s, e5, mBV_s, a5]
    · rw [c_M_feed, hk 200 (by decide) (by decide), t2, add20 t3, dT _ g, cT, e206]
      exact e6
    · rw [mUpI_sR, sR_ne _ _ h3, g4 r h4, sR_ne _ _ h5, hk r h1 h2]
    · rw [mUpI_sR, sR_at, upd_ne _ _ hk5, g4 200 (by decide), sR_ne _ _ (by decide), hk 200 (by decide) (by decide)]
    · exact g5.trans hj
    · rw [mUpI_sR, sR_ne _ _ (by decide), g4 1 (by decide), sR_ne _ _ (by decide), a5]
    · rw [mUpI_sR, sR_at, upd_at]
    · rw [mUpI_sR, sR_ne _ _ (by decide), sR_ne _ _ (by decide), g4 2 (by decide), sR_ne _ _ (by decide)]
      rcases Nat.lt_or_ge j n with q | q
      · rw [lo j q, g2 j q, sR_ne _ _ (by decide), hk 204 (by decide) (by decide)]
        exact t4 j q
      · rw [show j = n + (j - n) by omega, hi _ (by omega), g3 _ (by omega)]
        exact ⟨rfl, byt_bw _ _⟩
  · refine ⟨-1, σ, σ, n, sc_r σ, ?_, ?_, fK_r σ, t1, t2, t3, t4⟩
    · rw [c_E_feed, t1, add20 t3, dF _ g, cF]
    · rw [c_M_feed, t2, add20 t3, dF _ g, cF]
theorem in_T (d : Nat) (x : Int32) {n : Nat} (hn : n ≤ 800) (σ : mS) : Cc (d + 1) n_M_in [.long x.toInt64, .null, .long 0, .null, .long (nI n).toInt64, .null] σ = some (.int (bI (!(decide (x < 0)) && decide (x ≤ nI n))), σ) := by
  rw [r_in]
  have e1 : decide (x.toInt64 < 0) = decide (x < 0) := decide_eq_decide.mpr (by rw [Int64.lt_iff_toInt_lt, Int32.toInt_toInt64, Int32.lt_iff_toInt_lt]; exact Iff.rfl)
  have e2 : decide ((nI n).toInt64 < x.toInt64) = !(decide (x ≤ nI n)) := by
    rw [← decide_not]
    exact decide_eq_decide.mpr (by rw [Int64.lt_iff_toInt_lt, Int32.toInt_toInt64, Int32.toInt_toInt64, Int32.not_le, Int32.lt_iff_toInt_lt])
  rw [e1, e2, Bool.not_not]
theorem t_end (D : Nat) {n : Nat} (h : tpT σ n) (x : Int32) : fch (D + 12) n_E_end n_M_end [.ref 0, .int x] [.ref 200, .int x] σ := by
  obtain ⟨t1, t2, t3, t4⟩ := h
  have eM : ∀ τ : mS, τ.1 200 5 = nI n → Cc (D + 12) n_M_end [.ref 200, .int x] τ = (bif (!(decide (x < 0)) && decide (x ≤ nI n)) then some (.int x, mUpI τ 200 5 x) else some (.int (-1), τ)) := by
    intro τ h
    rw [c_M_end, h, in_T _ _ t3, mBI_s, bI_n]
  have eE : Cc (D + 12) n_E_end [.ref 0, .int x] σ = (bif (!(decide (x < 0)) && decide (x ≤ nI n)) then some (.int x, mUpI σ 1 1 x) else some (.int (-1), σ)) := by
    rw [c_E_end, t1]
    cases decide (x < 0) <;> cases decide (x ≤ nI n) <;> rfl
  cases hc : (!(decide (x < 0)) && decide (x ≤ nI n)) with
  | false => exact ⟨-1, σ, σ, n, sc_r σ, by rw [eE, hc, cF], by rw [eM σ t2, hc, cF], fK_r σ, t1, t2, t3, t4⟩
  | true =>
    rw [Bool.and_eq_true, Bool.not_eq_true'] at hc
    obtain ⟨m, rfl, hm⟩ := nI_nn (of_decide_eq_false hc.1)
    have hmn : m ≤ n := (nI_leI hm (by omega)).mp (of_decide_eq_true hc.2)
    have hc' : (!(decide (nI m < 0)) && decide (nI m ≤ nI n)) = true := by rw [hc.1, hc.2]; rfl
    refine ⟨nI m, mUpI σ 1 1 (nI m), mUpI (mUpI σ 1 1 (nI m)) 200 5 (nI m), m, ⟨by rw [mUpI_sR, sR_ne _ _ (by decide)], by rw [mUpI_sR, sR_ne _ _ (by decide)]⟩, by rw [eE, hc', cT], by rw [eM (mUpI σ 1 1 (nI m)) (by rw [mUpI_sR, sR_ne _ _ (by decide)]; exact t2), hc', cT], ⟨fun r h1 h2 h3 h4 h5 => ?_, fun k hk => ?_, rfl⟩, ?_, ?_, by omega, fun j hj => ?_⟩
    · rw [mUpI_sR, mUpI_sR, sR_ne _ _ h3, sR_ne _ _ h1]
    · rw [mUpI_sR, sR_at, upd_ne _ _ hk, mUpI_sR, sR_ne _ _ (by decide)]
    · rw [mUpI_sR, sR_ne _ _ (by decide), mUpI_sR, sR_at, upd_at]
    · rw [mUpI_sR, sR_at, upd_at]
    · rw [mUpI_sR, mUpI_sR, sR_ne _ _ (by decide), sR_ne _ _ (by decide), sR_ne _ _ (by decide), sR_ne _ _ (by decide)]
      exact t4 j (by omega)
theorem t_fault (D : Nat) (h1 : σ.1 3 2 = σ.1 200 12) (h2 : σ.1 3 3 = σ.1 200 13) (x : Int32) : qry (D + 12) n_E_fault n_M_fault [.ref 0, .int x] [.ref 200, .int x] σ := by
  unfold qry
  rw [c_E_fault, c_M_fault, h1, h2]
  cases decide (¬ x = 0) <;> cases decide (¬ x = 1) <;> exact ⟨_, σ, rfl, rfl, sM_r σ⟩

