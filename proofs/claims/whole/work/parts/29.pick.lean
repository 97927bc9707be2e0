/-! ===== who hates most; how much some hate ===== -/
def lst0 (f : Nat → Int32) (b : Option Nat) : Int32 := match b with
  | none => 0
  | some j => f j
def pkS (f : Nat → Int32) (s : Nat → Bool) (k : Nat) (b : Option Nat) : Option Nat := if s k = true ∧ f k < lst0 f b then some k else b
/-- of P, the first of those in s who hate most -/
def pkF (P : Nat) (f : Nat → Int32) (s : Nat → Bool) : Option Nat := mF (pkS f s) P none
def hbS (P : Nat) (f : Nat → Int32) (s : Nat → Bool) : Int32 := mF (fun k u => if s k = true then u - (if 0 < f k then 0 else f k) else u) P 0
theorem pkF_lt {P : Nat} {f : Nat → Int32} {s : Nat → Bool} {j : Nat} (h : pkF P f s = some j) : j < P ∧ s j = true ∧ f j < 0 := by
  have := mF_inv (fun k (b : Option Nat) => ∀ j, b = some j → j < k ∧ s j = true ∧ f j < 0) (pkS f s) P none (fun j h => by cases h) (by
    intro k b hk hb j hj
    unfold pkS at hj
    by_cases h : s k = true ∧ f k < lst0 f b
    · rw [if_pos h] at hj
      cases hj
      refine ⟨Nat.lt_succ_self _, h.1, ?_⟩
      cases b with
      | none => exact h.2
      | some i => exact Int32.lt_trans h.2 (hb i rfl).2.2
    · rw [if_neg h] at hj
      have := hb j hj
      exact ⟨by omega, this.2⟩) P (Nat.le_refl _)
  exact this j h
theorem k_feeling (d o : Nat) (ho : o = 20 ∨ o = 30) {p q y : Nat} (hp : p < 6) (hq : q < 6) (hy : y < 12) (σ : mS) : Cc (d + 1) n_Co_feeling [.ref o, .int (nI p), .int (nI q), .int (nI y)] σ = some (.int (σ.1 (o + 3) (36 * y + (6 * p + q))), σ) := by
  rw [Cc_s, q_Co_feeling_0 _ _ _ _ _ ho]
  simp (disch := omega) only [li_6, li_36, nI_mul, nI_add, mIn_nI, nI_clamp, cT]
  rw [show y * 36 + p * 6 + q = 36 * y + (6 * p + q) by omega]
set_option maxHeartbeats 4000000 in
theorem k_bitterest (d o : Nat) (ho : o = 20 ∨ o = 30) {p y P : Nat} (hp : p < 6) (hy : y < 12) (hP6 : P ≤ 6) (s : Int32) (σ : mS) (hP : σ.1 40 3 = nI P) : Cc (d + 2) n_Co_bitterest [.ref o, .int (nI p), .int (nI y), .int s, .null, .null, .null, .null] σ = some (.int (oI (pkF P (fun k => σ.1 (o + 3) (36 * y + (6 * k + p))) (bt s))), σ) := by
  rw [Cc_s, q_Co_bitterest_0 _ _ _ _ _ ho]
  have hs := mFor (fun k (a : Option Nat × Value) => Xx (d + 1) n_Co_bitterest 9 [.ref o, .int (nI p), .int (nI y), .int s, .int (oI a.1), .int (lst0 (fun k => σ.1 (o + 3) (36 * y + (6 * k + p))) a.1), .int (nI k), a.2] [] σ) (fun k a => (pkS (fun k => σ.1 (o + 3) (36 * y + (6 * k + p))) (bt s) k a.1, .int (σ.1 (o + 3) (36 * y + (6 * k + p))))) P (none, .null) (by
    intro k hk
    generalize mF _ k ((none : Option Nat), Value.null) = a
    obtain ⟨b, v⟩ := a
    dsimp only
    rw [q_Co_bitterest_9 _ _ _ _ _ _ _ _ _ ho, hP, dle (by omega) (by omega), dF _ (by omega), cF, k_feeling d o ho (by omega) hp hy, mBI_s, k_isIn d k (by omega), mBI_s, bI_0, nI_1]
    unfold pkS
    dsimp only
    cases hb : bt s k with
    | false => rw [if_neg (fun q => by cases q.1)]; rfl
    | true =>
      by_cases h : lst0 (fun k => σ.1 (o + 3) (36 * y + (6 * k + p))) b ≤ σ.1 (o + 3) (36 * y + (6 * k + p))
      · rw [dT _ h, if_neg (fun q => Int32.not_le.mpr q.2 h)]; rfl
      · rw [dF _ h, if_pos ⟨rfl, Int32.not_le.mp h⟩]; rfl)
  have key : (mF (fun k (a : Option Nat × Value) => (pkS (fun k => σ.1 (o + 3) (36 * y + (6 * k + p))) (bt s) k a.1, Value.int (σ.1 (o + 3) (36 * y + (6 * k + p))))) P (none, .null)).1 = pkF P (fun k => σ.1 (o + 3) (36 * y + (6 * k + p))) (bt s) :=
    mF_rel (fun _ (a : Option Nat × Value) (b : Option Nat) => a.1 = b) _ (pkS (fun k => σ.1 (o + 3) (36 * y + (6 * k + p))) (bt s)) _ _ none rfl (fun k a b _ h => by dsimp only; rw [h])
  have e0 : Xx (d + 1) n_Co_bitterest 9 [.ref o, .int (nI p), .int (nI y), .int s, .int (-1), .int 0, .int 0, .null] [] σ = Xx (d + 1) n_Co_bitterest 9 [.ref o, .int (nI p), .int (nI y), .int s, .int (oI none), .int (lst0 (fun k => σ.1 (o + 3) (36 * y + (6 * k + p))) none), .int (nI 0), .null] [] σ := rfl
  rw [e0]
  dsimp only at hs
  rw [hs, q_Co_bitterest_9 _ _ _ _ _ _ _ _ _ ho, hP, dT _ (Int32.le_refl _), cT, key]
set_option maxHeartbeats 4000000 in
theorem k_hateBy (d o : Nat) (ho : o = 20 ∨ o = 30) {p y P : Nat} (hp : p < 6) (hy : y < 12) (hP6 : P ≤ 6) (s : Int32) (σ : mS) (hP : σ.1 40 3 = nI P) : Cc (d + 2) n_Co_hateBy [.ref o, .int (nI p), .int (nI y), .int s, .null, .null] σ = some (.int (hbS P (fun k => σ.1 (o + 3) (36 * y + (6 * k + p))) (bt s)), σ) := by
  rw [Cc_s, q_Co_hateBy_0 _ _ _ _ _ ho, show (Value.int 0 :: ([] : List Value)) = [.int (nI 0)] from rfl]
  have hs := mFor (fun k (u : Int32) => Xx (d + 1) n_Co_hateBy 6 [.ref o, .int (nI p), .int (nI y), .int s, .int u, .int (nI k)] [] σ) (fun k u => if bt s k = true then u - (if 0 < σ.1 (o + 3) (36 * y + (6 * k + p)) then 0 else σ.1 (o + 3) (36 * y + (6 * k + p))) else u) P 0 (by
    intro k hk
    generalize mF _ k (0 : Int32) = u
    rw [q_Co_hateBy_6 _ _ _ _ _ _ _ ho, hP, dle (by omega) (by omega), dF _ (by omega), cF, k_isIn d k (by omega), mBI_s, bI_0, k_feeling d o ho (by omega) hp hy, mBI_s, nI_1]
    cases bt s k <;> rfl)
  rw [hs, q_Co_hateBy_6 _ _ _ _ _ _ _ ho, hP, dT _ (Int32.le_refl _), cT]
  rfl
/-- how many of the first sixteen bits -/
def nb (s : Int32) : Nat := mF (fun k n => n + (bt s k).toNat) 16 0
theorem nb_small (s : Int32) (h : bw 0 s 63) : ∃ n, n < 64 ∧ s = nI n := by
  obtain ⟨n, h1, h2, -⟩ := bw_nI h
  exact ⟨n, by omega, h1⟩
set_option maxRecDepth 100000 in
theorem k_bitCount (d : Nat) (s : Int32) (h : bw 0 s 63) (σ : mS) : Cc (d + 1) n_In_bitCount [.int s] σ = some (.int (nI (nb s)), σ) := by
  obtain ⟨n, hn, rfl⟩ := nb_small s h
  rw [Cc_s, q_In_bitCount_0]
  refine congrArg (fun x => some (Value.int x, σ)) ?_
  clear h
  revert n
  decide +kernel
theorem nb_le (s : Int32) (h : bw 0 s 63) : nb s ≤ 6 := by
  obtain ⟨n, hn, rfl⟩ := nb_small s h
  clear h
  revert n
  decide +kernel
