/-! ===== the reference's word ===== -/
set_option maxHeartbeats 4000000 in
theorem r_bits (d : Nat) (s : Int32) (σ : mS) : Cc (d + 1) n_M_bits [.int s, .null, .null] σ = some (.int (nI (nb s)), σ) := by
  rw [Cc_s, q_M_bits_0]
  have hs := mFor (fun k (n : Nat) => Xx d n_M_bits 4 [.int s, .int (nI n), .int (nI k)] [] σ) (fun k n => n + (bt s k).toNat) 16 0 (by
    intro k hk
    generalize mF _ k (0 : Nat) = n
    rw [q_M_bits_4, show decide ((16 : Int32) ≤ nI k) = false from decide_eq_false (nI_ge (b := 16) hk (by decide)), cF, bt_bI s (by omega), nI_1]
    have e : nI n + bI (bt s k) = nI (n + (bt s k).toNat) := by
      cases bt s k
      · exact Int32.add_zero _
      · exact nI_1 n
    rw [e])
  have e0 : Xx d n_M_bits 4 [.int s, .int 0, .int 0] [] σ = Xx d n_M_bits 4 [.int s, .int (nI 0), .int (nI 0)] [] σ := rfl
  rw [e0, hs, q_M_bits_4, show decide ((16 : Int32) ≤ nI 16) = true by decide, cT]
  rfl
theorem r_needsOf (d : Nat) {q : Nat} (hq : q < 5) (σ : mS) : Cc (d + 1) n_M_needsOf [.ref 200, .int (nI q)] σ = some (.int (σ.1 201 (84 + 2 * q)), σ) := by
  rw [Cc_s, q_M_needsOf_0]
  simp (disch := omega) only [li_83, li_2, li_1, nI_mul, nI_add, mIn_nI, nI_clamp, cT]
  rw [show 83 + 2 * q + 1 = 84 + 2 * q by omega]
theorem r_yearOf (d : Nat) {q : Nat} (hq : q < 5) (σ : mS) : Cc (d + 1) n_M_yearOf [.ref 200, .int (nI q)] σ = some (.int (σ.1 201 (83 + 2 * q)), σ) := by
  rw [Cc_s, q_M_yearOf_0]
  simp (disch := omega) only [li_83, li_2, nI_mul, nI_add, mIn_nI, nI_clamp, cT]
theorem r_feeling (d : Nat) {p q y : Nat} (hp : p < 6) (hq : q < 6) (hy : y < 12) (σ : mS) : Cc (d + 1) n_M_feeling [.ref 200, .int (nI p), .int (nI q), .int (nI y)] σ = some (.int (σ.1 223 (36 * y + (6 * p + q))), σ) := by
  rw [Cc_s, q_M_feeling_0]
  simp (disch := omega) only [li_6, li_36, nI_mul, nI_add, mIn_nI, nI_clamp, cT]
  rw [Nat.add_assoc]
/-- all persons as bits -/
def ev (P : Nat) : Int32 := (1 : Int32) <<< (nI P &&& 31) - 1
theorem ev_bt {P k : Nat} (hP : P ≤ 6) (hk : k < 32) : bt (ev P) k = decide (k < P) := by
  have : ∀ P : Fin 7, ∀ k : Fin 32, bt (ev P.val) k.val = decide (k.val < P.val) := by decide +kernel
  exact this ⟨P, by omega⟩ ⟨k, hk⟩
theorem r_everybody (d : Nat) (σ : mS) {P : Nat} (hP : σ.1 201 3 = nI P) : Cc (d + 2) n_M_everybody [.ref 200] σ = some (.int (ev P), σ) := by
  rw [Cc_s, q_M_everybody_0, r_persons, mBI_s, hP]
  rfl
theorem k_everybody (d : Nat) (σ : mS) {P : Nat} (hP : σ.1 40 3 = nI P) : Cc (d + 1) n_La_everybody [.ref 40] σ = some (.int (ev P), σ) := by
  rw [Cc_s, q_La_everybody_0, hP]
  rfl
/-- the reference's pens set -/
def pN (σ : mS) (u : Int32) : mS := mUpI σ 200 27 u
theorem pN_ne (σ : mS) (u : Int32) {a : Nat} (h : a ≠ 200) : (pN σ u).1 a = σ.1 a := if_neg h
theorem pN_k (σ : mS) (u : Int32) {k : Nat} (h : k ≠ 27) : (pN σ u).1 200 k = σ.1 200 k := if_neg h
theorem pN_27 (σ : mS) (u : Int32) : (pN σ u).1 200 27 = u := rfl
theorem pN_2 (σ : mS) (u : Int32) : (pN σ u).2 = σ.2 := rfl
theorem pN_pN (σ : mS) (u v : Int32) : pN (pN σ u) v = pN σ v := by
  unfold pN
  rw [mUpI_sR, mUpI_sR, sR_at, sR_sR, mUpI_sR]
  congr 1
  funext k
  unfold upd
  by_cases h : k = 27
  · rw [if_pos h, if_pos h]
  · rw [if_neg h, if_neg h, if_neg h]
theorem pN_self (σ : mS) : pN σ (σ.1 200 27) = σ := by
  unfold pN
  rw [mUpI_sR, show upd (σ.1 200) 27 (σ.1 200 27) = σ.1 200 from funext fun k => by unfold upd; by_cases h : k = 27 <;> simp [h], sR_self]
theorem hbS_0 (P : Nat) (f : Nat → Int32) (hP : P ≤ 6) : hbS P f (bt 0) = 0 := by
  unfold hbS
  have : ∀ n, mF (fun k u => if bt 0 k = true then u - (if 0 < f k then 0 else f k) else u) n (0 : Int32) = 0 := by
    intro n
    induction n with
    | zero => rfl
    | succ n ih =>
      show (if bt 0 n = true then _ else _) = _
      rw [b_0, if_neg (by decide), ih]
  exact this P
theorem nI_nlt0 {n : Nat} (h : n < 2 ^ 31) : ¬ nI n < 0 := nI_pos h
theorem pkS_f {f : Nat → Int32} {s : Nat → Bool} {k : Nat} {b : Option Nat} (h : s k = false) : pkS f s k b = b := if_neg (fun q => by rw [h] at q; cases q.1)
theorem pkS_n {f : Nat → Int32} {s : Nat → Bool} {k : Nat} {b : Option Nat} (h : ¬ f k < lst0 f b) : pkS f s k b = b := if_neg (fun q => h q.2)
theorem pkS_y {f : Nat → Int32} {s : Nat → Bool} {k : Nat} {b : Option Nat} (h : s k = true) (h2 : f k < lst0 f b) : pkS f s k b = some k := if_pos ⟨h, h2⟩
