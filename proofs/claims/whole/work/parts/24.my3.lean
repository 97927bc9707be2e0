/-! ===== the reference's years: fading, the whole ===== -/
theorem lateT (t : Bool) (w : Int32) (σ : mS) : (bif decide (bI t = 0) then some (Value.int w, σ) else (bif decide ((0 : Int32) ≤ w) then some (Value.int w, σ) else some (Value.int (w + 1), σ))) = some (Value.int (if t = true ∧ w < 0 then w + 1 else w), σ) := by
  rw [bI_0]
  cases t with
  | false => rw [if_neg (fun q => by cases q.1)]; rfl
  | true =>
    by_cases h : (0 : Int32) ≤ w
    · rw [dT _ h, if_neg (fun q => Int32.not_le.mpr q.2 h)]; rfl
    · rw [dF _ h, if_pos ⟨rfl, Int32.not_le.mp h⟩]; rfl
set_option maxHeartbeats 4000000 in
theorem r_later (d : Nat) (v : Int32) (t : Bool) (σ : mS) : Cc (d + 1) n_M_later [.ref 200, .int v, .int (bI t), .null] σ = some (.int (fdS (σ.1 200 20) t v), σ) := by
  rw [Cc_s, q_M_later_0]
  simp only [q_M_later_63, lateT]
  generalize σ.1 200 20 = law
  unfold fdS
  by_cases h1 : law = 1
  · subst h1
    simp only [show decide (¬ (1 : Int32) = 1) = false by decide, show decide (¬ (1 : Int32) = 2) = true by decide, show decide (¬ (1 : Int32) = 3) = true by decide, cT, cF, if_true]
    by_cases hp : v ≤ 0
    · rw [dT _ hp, cT]
      by_cases hz : (0 : Int32) ≤ v
      · have e : v = 0 := Int32.le_antisymm hp hz
        subst e
        rw [dT _ hz, cT, if_pos rfl]
        rfl
      · have hn : ¬ v = 0 := fun q => hz (by rw [q]; decide)
        rw [dF _ hz, cF, if_neg hn, if_pos (Int32.not_le.mp hz)]
        rfl
    · have hn : ¬ v = 0 := fun q => hp (by rw [q]; decide)
      have hn2 : ¬ v < 0 := fun q => hp (Int32.le_of_lt q)
      rw [dF _ hp, cF, if_neg hn, if_neg hn2]
      rfl
  · rw [dT _ h1, cT]
    simp only [if_neg h1]
    by_cases h2 : law = 2
    · subst h2
      simp only [show decide (¬ (2 : Int32) = 2) = false by decide, show decide (¬ (2 : Int32) = 3) = true by decide, cT, cF, if_true]
      rfl
    · rw [dT _ h2, cT]
      simp only [if_neg h2]
      by_cases h3 : law = 3
      · subst h3
        simp only [show decide (¬ (3 : Int32) = 3) = false by decide, cF, if_true]
        by_cases hz : (0 : Int32) ≤ v
        · rw [dT _ hz, cT]
          simp only [if_neg (Int32.not_lt.mpr hz)]
          rfl
        · rw [dF _ hz, cF]
          simp only [if_pos (Int32.not_le.mp hz)]
          rfl
      · rw [dT _ h3, cT]
        simp only [if_neg h3]
/-- more wrongs in year 0: who, to whom, how much -/
def mrS (k : Nat) (a b : Nat → Nat) (n : Nat → Int32) (N : Nat → Int32) : Nat → Int32 := mF (fun i N => upd N (6 * b i + a i) (vMx (N (6 * b i + a i) - n i) (-60))) k N
/-- the rest of a year: every feeling is kept, and fades -/
theorem r_goE (d y : Nat) (hy : y < 12) (v3 : Value) (σ : mS) (N F : Nat → Int32) (th : Nat → Bool) (hth : th y = bt (σ.1 200 21) y) : Xx (d + 1) n_M_goYears 159 [.ref 200, .int (nI y), .int (nI 0), v3] [] (sR (sR σ 224 N) 223 F) = Xx (d + 1) n_M_goYears 31 [.ref 200, .int (nI (y + 1)), .int (nI 36), v3] [] (sR (sR σ 224 (rF (fun c => fdS (σ.1 200 20) (th y) (N c)) N 36)) 223 (fun j => if 36 * y ≤ j ∧ j < 36 * y + 36 then N (j - 36 * y) else F j)) := by
  have hs := mForN (fun k => Xx (d + 1) n_M_goYears 159 [.ref 200, .int (nI y), .int (nI k), v3] [] (sR (sR σ 224 (rF (fun c => fdS (σ.1 200 20) (th y) (N c)) N k)) 223 (fun j => if 36 * y ≤ j ∧ j < 36 * y + k then N (j - 36 * y) else F j))) 36 (by
    intro k hk
    show Xx (d + 1) n_M_goYears 159 _ [] _ = Xx (d + 1) n_M_goYears 159 _ [] _
    rw [q_M_goYears_159, show decide ((36 : Int32) ≤ nI k) = false from decide_eq_false (nI_ge (b := 36) hk (by decide)), cF]
    simp (disch := omega) only [nI_1, li_36, nI_mul, nI_add, mIn_nI, nI_clamp, mUpI_sR, sR_sR, sR_at, cT, sR_ne _ _ (show 224 ≠ 223 by decide), sR_ne _ _ (show 200 ≠ 223 by decide), sR_ne _ _ (show 200 ≠ 224 by decide)]
    rw [r_bit _ _ _ (by omega), mBI_s, ← hth]
    have e1 : rF (fun c => fdS (σ.1 200 20) (th y) (N c)) N k k = N k := if_neg (Nat.lt_irrefl k)
    have e2 : upd (fun j => if 36 * y ≤ j ∧ j < 36 * y + k then N (j - 36 * y) else F j) (36 * y + k) (N k) = fun j => if 36 * y ≤ j ∧ j < 36 * y + (k + 1) then N (j - 36 * y) else F j := by
      funext j
      unfold upd
      by_cases h : j = 36 * y + k
      · rw [if_pos h, if_pos (by omega), show j - 36 * y = k by omega]
      · rw [if_neg h]
        dsimp only
        by_cases h2 : 36 * y ≤ j ∧ j < 36 * y + k
        · rw [if_pos h2, if_pos (by omega)]
        · rw [if_neg h2, if_neg (by omega)]
    rw [e1, e2]
    have fin : ∀ b : Bool, b = th y → mBI (Cc (d + 1) n_M_later [.ref 200, .int (N k), .int (bI b), .null] (sR (sR σ 224 (rF (fun c => fdS (σ.1 200 20) (th y) (N c)) N k)) 223 fun j => if 36 * y ≤ j ∧ j < 36 * y + (k + 1) then N (j - 36 * y) else F j)) (fun r4 τ3 => Xx (d + 1) n_M_goYears 159 [.ref 200, .int (nI y), .int (nI (k + 1)), v3] [] (sR τ3 224 (upd (τ3.1 224) k r4))) = Xx (d + 1) n_M_goYears 159 [.ref 200, .int (nI y), .int (nI (k + 1)), v3] [] (sR (sR σ 224 (rF (fun c => fdS (σ.1 200 20) (th y) (N c)) N (k + 1))) 223 fun j => if 36 * y ≤ j ∧ j < 36 * y + (k + 1) then N (j - 36 * y) else F j) := by
      intro b hb
      rw [r_later, mBI_s, hb]
      simp only [sR_ne _ _ (show 224 ≠ 223 by decide), sR_ne _ _ (show 200 ≠ 223 by decide), sR_ne _ _ (show 200 ≠ 224 by decide), sR_at]
      rw [sR_comm _ (show 223 ≠ 224 by decide), sR_sR, rF_s (fun c => fdS (σ.1 200 20) (th y) (N c))]
    rcases (show th y = false ∨ th y = true by cases th y <;> simp) with hb | hb
    · rw [show decide (¬ bI (th y) = 1) = true by rw [hb]; decide, cT]
      exact fin false hb.symm
    · rw [show decide (¬ bI (th y) = 1) = false by rw [hb]; decide, cF]
      exact fin true hb.symm)
  rw [rF_0, show (fun j => if 36 * y ≤ j ∧ j < 36 * y + 0 then N (j - 36 * y) else F j) = F from funext fun j => if_neg (by omega)] at hs
  rw [hs, q_M_goYears_159, show decide ((36 : Int32) ≤ nI 36) = true by decide, cT, nI_1]
