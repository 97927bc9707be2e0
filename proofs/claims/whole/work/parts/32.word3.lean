set_option maxHeartbeats 8000000 in
/-- one who is picked: the reference's inner loop -/
theorem r_word63 (d : Nat) {p q y P : Nat} (hp : p < 6) (hq : q < 5) (hy : y < 12) (hP6 : P ≤ 6) (s w : Int32) (x4 x5 x6 : Int32) (σ : mS) (h27 : σ.1 200 27 = w) (hP : σ.1 201 3 = nI P) (hye : σ.1 201 (83 + 2 * q) = nI y) : Xx (d + 2) n_M_wordOf 63 [.ref 200, .int (nI p), .int (nI q), .int s, .int x4, .int x5, .int x6, .int (-1), .int 0] [] σ = Xx (d + 2) n_M_wordOf 63 [.ref 200, .int (nI p), .int (nI q), .int s, .int x4, .int x5, .int x6, .int (oI (pkF P (fun k => σ.1 223 (36 * y + (6 * k + p))) (fun k => !(decide (k = p)) && bt s k && !(bt w k)))), .int (nI P)] [] σ := by
  have hinv := mF_inv (fun k (b : Option Nat) => ∀ j, b = some j → j < k) (pkS (fun k => σ.1 223 (36 * y + (6 * k + p))) (fun k => !(decide (k = p)) && bt s k && !(bt w k))) P none (fun j h => by cases h) (by
    intro k b hk hb j hj
    unfold pkS at hj
    by_cases h : (fun k => !(decide (k = p)) && bt s k && !(bt w k)) k = true ∧ (fun k => σ.1 223 (36 * y + (6 * k + p))) k < lst0 (fun k => σ.1 223 (36 * y + (6 * k + p))) b
    · rw [if_pos h] at hj
      cases hj
      exact Nat.lt_succ_self _
    · rw [if_neg h] at hj
      have := hb j hj
      omega)
  have hneg := mF_inv (fun k (b : Option Nat) => ∀ j, b = some j → σ.1 223 (36 * y + (6 * j + p)) < 0) (pkS (fun k => σ.1 223 (36 * y + (6 * k + p))) (fun k => !(decide (k = p)) && bt s k && !(bt w k))) P none (fun j h => by cases h) (by
    intro k b hk hb j hj
    unfold pkS at hj
    by_cases h : (fun k => !(decide (k = p)) && bt s k && !(bt w k)) k = true ∧ (fun k => σ.1 223 (36 * y + (6 * k + p))) k < lst0 (fun k => σ.1 223 (36 * y + (6 * k + p))) b
    · rw [if_pos h] at hj
      cases hj
      cases b with
      | none => exact h.2
      | some i => exact Int32.lt_trans h.2 (hb i rfl)
    · rw [if_neg h] at hj
      exact hb j hj)
  have hs := mFor (fun k (b : Option Nat) => Xx (d + 2) n_M_wordOf 63 [.ref 200, .int (nI p), .int (nI q), .int s, .int x4, .int x5, .int x6, .int (oI b), .int (nI k)] [] σ) (pkS (fun k => σ.1 223 (36 * y + (6 * k + p))) (fun k => !(decide (k = p)) && bt s k && !(bt w k))) P none (by
    intro k hk
    have hb := hinv k (by omega)
    have hb2 := hneg k (by omega)
    generalize mF _ k (none : Option Nat) = b at hb hb2
    rw [q_M_wordOf_63, r_persons, mBI_s, hP, dle (by omega) (by omega), dF _ (by omega), cF, deq (by omega) (by omega), r_bit (d + 1) s k (by omega), mBI_s, bI_0, h27, r_bit (d + 1) w k (by omega), mBI_s, r_yearOf (d + 1) hq, mBI_s, hye, r_feeling (d + 1) (by omega) hp hy, mBI_s, nI_1]
    by_cases e1 : k = p
    · rw [dT _ e1, cT, pkS_f (by rw [decide_eq_true e1]; rfl)]
    · rw [dF _ e1, cF]
      cases hb1 : bt s k with
      | false => rw [pkS_f (by rw [hb1, Bool.and_false]; rfl)]; rfl
      | true =>
        cases hb3 : bt w k with
        | true => rw [pkS_f (by rw [hb3]; exact Bool.and_false _)]; rfl
        | false =>
          have hsk : (fun k => !(decide (k = p)) && bt s k && !(bt w k)) k = true := by dsimp only; rw [hb1, hb3, decide_eq_false e1]; rfl
          rw [show (!true) = false from rfl, cF, show decide (bI false = 1) = false by decide, cF]
          by_cases h0 : σ.1 223 (36 * y + (6 * k + p)) < 0
          · rw [dT _ h0, cT]
            cases b with
            | none =>
              rw [show decide (oI none = -1) = true by decide, cT, pkS_y (f := fun k => σ.1 223 (36 * y + (6 * k + p))) hsk h0]
              rfl
            | some j =>
              have hj := hb j rfl
              rw [show oI (some j) = nI j from rfl, dF _ (nI_nm1 (by omega)), cF, r_yearOf (d + 1) hq, mBI_s, hye, r_feeling (d + 1) (by omega) hp hy, mBI_s, r_yearOf (d + 1) hq, mBI_s, hye, r_feeling (d + 1) (by omega) hp hy, mBI_s]
              by_cases h : σ.1 223 (36 * y + (6 * j + p)) ≤ σ.1 223 (36 * y + (6 * k + p))
              · rw [dT _ h, cT, pkS_n (f := fun k => σ.1 223 (36 * y + (6 * k + p))) (b := some j) (Int32.not_lt.mpr h)]
                rfl
              · rw [dF _ h, cF, pkS_y (f := fun k => σ.1 223 (36 * y + (6 * k + p))) hsk (b := some j) (Int32.not_le.mp h)]
                rfl
          · rw [dF _ h0, cF, pkS_n (f := fun k => σ.1 223 (36 * y + (6 * k + p)))]
            intro h
            cases b with
            | none => exact h0 h
            | some j => exact h0 (Int32.lt_trans h (hb2 j rfl)))
  exact hs
