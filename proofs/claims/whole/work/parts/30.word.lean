/-! ===== who writes, the word ===== -/
/-- n more of those in s who hate most, behind those in w -/
def wrS (P : Nat) (f : Nat → Int32) (s : Nat → Bool) : Nat → Int32 → Option Int32
  | 0, w => some w
  | n + 1, w => match pkF P f (fun k => s k && !(bt w k)) with
    | none => none
    | some k => wrS P f s n (w ||| (1 <<< (nI k &&& 31)))
def oW (x : Option Int32) : Int32 := match x with
  | none => -1
  | some w => w
theorem b_add {k : Nat} (hk : k < 32) (w : Int32) {j : Nat} (hj : j < 32) : bt (w ||| (1 <<< (nI k &&& 31))) j = (bt w j || decide (j = k)) := by
  rw [b_or, b_shl k hk 1 hj]
  by_cases h : k ≤ j
  · rw [decide_eq_true h, Bool.true_and, b_1 _ (by omega)]
    congr 1
    apply decide_eq_decide.mpr
    omega
  · rw [decide_eq_false h, Bool.false_and, decide_eq_false (by omega)]
theorem b_not (w : Int32) {j : Nat} (hj : j < 32) : bt (w ^^^ (-1)) j = !(bt w j) := by
  rw [b_xor, b_m1 j hj, Bool.xor_true]
theorem pkF_congr {P : Nat} {f : Nat → Int32} {s t : Nat → Bool} (h : ∀ k, k < P → s k = t k) : pkF P f s = pkF P f t := mF_congr _ _ P none (fun k hk => by unfold pkS; rw [h k hk])
theorem oI_ne {b : Option Nat} : decide (¬ oI b = -1) = b.isSome ∨ ∃ i, b = some i ∧ 2 ^ 31 ≤ i := by
  cases b with
  | none => exact Or.inl (by decide)
  | some i =>
    by_cases h : i < 2 ^ 31
    · refine Or.inl (decide_eq_true (fun q => ?_))
      have : (nI i).toInt = -1 := by rw [show nI i = -1 from q]; decide
      rw [nI_toInt h] at this
      omega
    · exact Or.inr ⟨i, rfl, by omega⟩
theorem nI_nm1 {i : Nat} (h : i < 2 ^ 31) : ¬ nI i = -1 := by
  intro q
  have : (nI i).toInt = -1 := by rw [q]; decide
  rw [nI_toInt h] at this
  omega
theorem nI_m1 (n : Nat) : nI (n + 1) + -1 = nI n := by
  rw [← nI_add, Int32.add_assoc, show (nI 1 : Int32) + -1 = 0 by decide, Int32.add_zero]
set_option maxHeartbeats 4000000 in
theorem k_writers60 (d o : Nat) (ho : o = 20 ∨ o = 30) {p y P : Nat} (hp : p < 6) (hy : y < 12) (hP6 : P ≤ 6) (s : Int32) (σ : mS) (hP : σ.1 40 3 = nI P) (v2 : Value) : ∀ (n : Nat) (_ : n ≤ 6) (w : Int32) (v5 v8 : Value), Xx (d + 2) n_Co_writersOf 60 [.ref o, .int (nI p), v2, .int s, .int (nI y), v5, .int w, .int (nI n), v8] [] σ = some (.int (oW (wrS P (fun k => σ.1 (o + 3) (36 * y + (6 * k + p))) (bt s) n w)), σ) := by
  intro n
  induction n with
  | zero =>
    intro _ w v5 v8
    rw [q_Co_writersOf_60 _ _ _ _ _ _ _ _ _ _ ho, show decide (nI 0 ≤ 0) = true by decide, cT]
    rfl
  | succ n ih =>
    intro hn w v5 v8
    rw [q_Co_writersOf_60 _ _ _ _ _ _ _ _ _ _ ho, decide_eq_false (nI_nle (by omega) (by omega)), cF, k_bitterest d o ho hp hy hP6 _ σ hP, mBI_s]
    rw [pkF_congr (t := fun k => bt s k && !(bt w k)) (fun k hk => by rw [b_and, b_not w (by omega)])]
    unfold wrS
    cases hb : pkF P (fun k => σ.1 (o + 3) (36 * y + (6 * k + p))) (fun k => bt s k && !(bt w k)) with
    | none => rfl
    | some k =>
      have hk := (pkF_lt hb).1
      rw [show oI (some k) = nI k from rfl, dT _ (nI_nm1 (by omega)), cT, nI_m1, ih (by omega)]
set_option maxHeartbeats 4000000 in
theorem k_writersOf (d o : Nat) (ho : o = 20 ∨ o = 30) {p q P Y y : Nat} (hp : p < 6) (hq : q < 5) (hP6 : P ≤ 6) (hY : Y ≤ 12) (hy : y < 12) (s : Int32) (σ : mS) (hP : σ.1 40 3 = nI P) (hYe : σ.1 40 0 = nI Y) (hye : σ.1 44 q = nI y) (has : bw 0 (σ.1 43 q) 63) : Cc (d + 3) n_Co_writersOf [.ref o, .int (nI p), .int (nI q), .int s, .null, .null, .null, .null, .null] σ = some (.int (if y < Y ∧ σ.1 43 q &&& (σ.1 (o + 2) p ^^^ (-1)) = 0 then oW (wrS P (fun k => σ.1 (o + 3) (36 * y + (6 * k + p))) (bt s) (nb (σ.1 43 q)) 0) else -1), σ) := by
  rw [Cc_s, q_Co_writersOf_0 _ _ _ _ _ ho]
  simp (disch := omega) only [mIn_nI, nI_clamp, cT, hYe, hye]
  rw [dle (by omega) (by omega)]
  by_cases h : Y ≤ y
  · rw [dT _ h, cT, if_neg (fun q => by omega)]
  · rw [dF _ h, cF]
    by_cases h2 : σ.1 43 q &&& (σ.1 (o + 2) p ^^^ (-1)) = 0
    · rw [dT _ h2, cT, k_bitCount _ _ has, mBI_s, k_writers60 d o ho hp hy hP6 s σ hP _ _ (nb_le _ has), if_pos ⟨by omega, h2⟩]
    · rw [dF _ h2, cF, if_neg (fun q => h2 q.2)]
theorem i_src (a b c : Int32) : a - b - c = a - c - b := by
  rw [Int32.sub_eq_add_neg, Int32.sub_eq_add_neg, Int32.sub_eq_add_neg, Int32.sub_eq_add_neg, Int32.add_assoc, Int32.add_comm (-b), ← Int32.add_assoc]
/-- adding one who hates to a set -/
theorem hbS_add {P : Nat} {f : Nat → Int32} {w : Int32} {k : Nat} (hP : P ≤ 6) (hk : k < P) (hf : f k < 0) (hw : bt w k = false) : hbS P f (bt (w ||| (1 <<< (nI k &&& 31)))) = hbS P f (bt w) - f k := by
  have key : ∀ n, n ≤ P → mF (fun j u => if bt (w ||| (1 <<< (nI k &&& 31))) j = true then u - (if 0 < f j then 0 else f j) else u) n (0 : Int32) = if k < n then mF (fun j u => if bt w j = true then u - (if 0 < f j then 0 else f j) else u) n (0 : Int32) - f k else mF (fun j u => if bt w j = true then u - (if 0 < f j then 0 else f j) else u) n (0 : Int32) := by
    intro n
    induction n with
    | zero => intro _; rw [if_neg (Nat.not_lt_zero k)]; rfl
    | succ n ih =>
      intro hn
      show (if bt (w ||| (1 <<< (nI k &&& 31))) n = true then _ else _) = _
      rw [ih (by omega), b_add (by omega) w (by omega)]
      show _ = if k < n + 1 then (if bt w n = true then _ else _) - f k else (if bt w n = true then _ else _)
      by_cases h : n = k
      · subst h
        rw [hw, decide_eq_true rfl, if_neg (Nat.lt_irrefl n), if_pos (Nat.lt_succ_self n), if_pos (by rfl), if_neg (show ¬ (0 : Int32) < f n from Int32.not_lt.mpr (Int32.le_of_lt hf)), if_neg (by decide)]
      · rw [decide_eq_false h, Bool.or_false]
        by_cases h2 : k < n
        · rw [if_pos h2, if_pos (show k < n + 1 by omega)]
          by_cases h3 : bt w n = true
          · rw [if_pos h3, if_pos h3, i_src]
          · rw [if_neg h3, if_neg h3]
        · rw [if_neg h2, if_neg (show ¬ k < n + 1 by omega)]
  have := key P (Nat.le_refl _)
  rw [if_pos hk] at this
  exact this
