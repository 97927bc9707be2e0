/-! ===== rows of posts: the reference ===== -/
variable {σ τ : mS} {l : Lv}
theorem stl_some (s : Nat) (row : Nat → Option Nat) (S : RS) : (stl s row S).1.isSome = true := by
  unfold stl
  cases h : stB S.1 s with
  | true => rfl
  | false =>
    have hs : S.1.isSome = true := by
      unfold stB at h
      cases hm : S.1 with
      | none => rw [hm] at h; cases h
      | some m => rfl
    rw [cF]
    cases decide (S.1 = some s) <;> exact hs
theorem flS_some (l : Lv) : ∀ (n post : Nat) (h : Int32) (s : Nat) (row : Nat → Option Nat) (S : RS), (flS l n post h s row S).1.isSome = true := by
  intro n
  induction n with
  | zero => intro post h s row S; exact stl_some s row S
  | succ n ih =>
    intro post h s row S
    show (mF _ (lP l) (flS l n (post + 1) h s (updO row post none) S)).1.isSome = true
    refine mF_inv (fun _ (S : RS) => S.1.isSome = true) _ (lP l) _ (ih _ _ _ _ _) (fun p S _ hS => ?_) (lP l) (Nat.le_refl _)
    cases wN l post p with
    | none => exact hS
    | some w => cases bt h p <;> first | exact hS | exact ih _ _ _ _ _
theorem flS_free (l : Lv) : ∀ (n post : Nat) (h : Int32) (s : Nat) (row : Nat → Option Nat) (x x' : Int32) (f f' : Nat → Int32), flS l n post h s row (none, x, f) = flS l n post h s row (none, x', f') := by
  intro n
  induction n with
  | zero => intro post h s row x x' f f'; rfl
  | succ n ih =>
    intro post h s row x x' f f'
    show mF _ (lP l) (flS l n (post + 1) h s (updO row post none) (none, x, f)) = mF _ (lP l) (flS l n (post + 1) h s (updO row post none) (none, x', f'))
    rw [ih _ _ _ _ x x' f f']
/-- a row's worth: who has one, how much -/
def rwO (l : Lv) (row : Nat → Option Nat) : Nat → Option (Int32 × Nat)
  | 0 => some (0, 0)
  | k + 1 => match rwO l row k with
    | none => none
    | some (h, s) => match row k with
      | none => some (h, s)
      | some p => match wN l k p with
        | none => none
        | some w => bif bt h p then none else some (h ||| (1 <<< (nI p &&& 31)), s + w + 1)
theorem rwO_n {row : Nat → Option Nat} {k : Nat} (h : rwO l row k = none) : ∀ j, rwO l row (k + j) = none := by
  intro j
  induction j with
  | zero => exact h
  | succ j ih =>
    show (match rwO l row (k + j) with | none => none | some (h, s) => _) = none
    rw [ih]
theorem rwO_eq {row row' : Nat → Option Nat} : ∀ k, (∀ q, q < k → row q = row' q) → rwO l row k = rwO l row' k := by
  intro k
  induction k with
  | zero => intro _; rfl
  | succ k ih =>
    intro h
    unfold rwO
    rw [ih (fun q hq => h q (by omega)), h k (by omega)]
theorem rwO_le (hl : lvOK l) {row : Nat → Option Nat} (hr : ∀ q p, row q = some p → p < lP l) : ∀ k h s, rwO l row k = some (h, s) → s ≤ 361 * k := by
  intro k
  induction k with
  | zero => intro h s e; cases e; omega
  | succ k ih =>
    intro h s e
    unfold rwO at e
    cases hk : rwO l row k with
    | none => rw [hk] at e; cases e
    | some x =>
      obtain ⟨h0, s0⟩ := x
      have := ih h0 s0 hk
      rw [hk] at e
      dsimp only at e
      cases hrk : row k with
      | none => rw [hrk] at e; cases e; omega
      | some p =>
        rw [hrk] at e
        dsimp only at e
        cases hw : wN l k p with
        | none => rw [hw] at e; cases e
        | some w =>
          rw [hw] at e
          dsimp only at e
          have hw2 := (wN_s hl (hr k p hrk) hw).2
          cases hb : bt h0 p with
          | true => rw [hb] at e; cases e
          | false => rw [hb] at e; cases e; omega
def rwV (l : Lv) (row : Nat → Option Nat) : Option Nat := (rwO l row (lQ l)).map (·.2)
/-- what the reference has of it -/
def rM2 (τ : mS) (l : Lv) (row : Nat → Option Nat) (S : RS) : Prop := lM (τ.1 201) l ∧ (∀ q, q < lQ l → ∀ p, p < lP l → τ.1 230 (6 * q + p) = wd l (vS l) q p) ∧ (∀ q, q < 5 → τ.1 228 q = oI (row q)) ∧ τ.1 200 31 = oI S.1 ∧ τ.1 200 32 = S.2.1 ∧ (∀ q, q < 5 → τ.1 229 q = S.2.2 q) ∧ ∀ i, S.1 = some i → i < 2 ^ 31
theorem r_rowWorth (d : Nat) (hl : lvOK l) {row : Nat → Option Nat} {S : RS} (h : rM2 τ l row S) (hr : ∀ q p, row q = some p → p < lP l) : Cc (d + 2) n_M_rowWorth [.ref 200, .null, .null, .null, .null] τ = some (.int (oI (rwV l row)), τ) := by
  have h1 := lvP hl
  have h3 := lvQ hl
  obtain ⟨m1, m2, m3, -⟩ := h
  have key : ∀ m k had s v, k + m = lQ l → rwO l row k = some (had, s) → Xx (d + 1) n_M_rowWorth 6 [.ref 200, .int had, .int (nI s), .int (nI k), v] [] τ = some (.int (oI (rwV l row)), τ) := by
    intro m
    induction m with
    | zero =>
      intro k had s v hk e
      rw [q_M_rowWorth_6, r_posts, mBI_s, lM_Q m1, dle (by omega) (by omega), dT _ (by omega), cT]
      unfold rwV
      rw [show lQ l = k by omega, e]
      rfl
    | succ m ih =>
      intro k had s v hk e
      have hs := rwO_le hl hr k had s e
      rw [q_M_rowWorth_6, r_posts, mBI_s, lM_Q m1, dle (by omega) (by omega), dF _ (by omega), cF, mIn_nI (by omega) (by omega), cT, nI_clamp (by omega), m3 k (by omega), nI_1]
      cases hrk : row k with
      | none =>
        rw [oI_n, m1n, cF]
        exact ih (k + 1) had s v (by omega) (by unfold rwO; rw [e, hrk])
      | some p =>
        have hp := hr k p hrk
        have none_case : rwO l row (k + 1) = none → some (Value.int (-1), τ) = some (Value.int (oI (rwV l row)), τ) := by
          intro e2
          unfold rwV
          have := rwO_n e2 (lQ l - (k + 1))
          rw [show k + 1 + (lQ l - (k + 1)) = lQ l by omega] at this
          rw [this]
          rfl
        rw [oI_s, nI_m1n (by omega), cT, cT, m6l, nI_add, mIn_nI (by omega) (by omega), cT, nI_clamp (by omega), m2 k (by omega) p hp, r_bit _ _ _ (by omega), mBI_s, bI_n1, cT, m3 k (by omega), hrk, oI_s]
        cases hw : wN l k p with
        | none =>
          rw [wN_n hw, m1e, cT]
          exact none_case (by unfold rwO; rw [e, hrk]; dsimp only; rw [hw])
        | some w =>
          obtain ⟨w1, w2⟩ := wN_s hl hp hw
          rw [w1, nI_m1e (by omega), cF, cT]
          cases hb : bt had p with
          | true =>
            rw [Bool.not_true, cF]
            exact none_case (by unfold rwO; rw [e, hrk]; dsimp only; rw [hw]; dsimp only; rw [hb]; rfl)
          | false =>
            rw [Bool.not_false, cT, nI_1, nI_add]
            exact ih (k + 1) _ (s + w + 1) _ (by omega) (by unfold rwO; rw [e, hrk]; dsimp only; rw [hw]; dsimp only; rw [hb]; rfl)
  rw [c_M_rowWorth]
  exact key (lQ l) 0 0 0 .null (by omega) rfl
/-- the next row -/
def mxB (P : Nat) (x : Option Nat) : Bool := match x with
  | none => decide (P = 0)
  | some p => decide (P ≤ p + 1)
def inO (x : Option Nat) : Nat := match x with
  | none => 0
  | some p => p + 1
def nxP (P : Nat) : Nat → (Nat → Option Nat) → Bool × (Nat → Option Nat)
  | 0, row => (false, row)
  | k + 1, row => bif mxB P (row k) then nxP P k (updO row k none) else (true, updO row k (some (inO (row k))))
theorem nxP_lt (P : Nat) : ∀ k (row : Nat → Option Nat), (∀ q p, row q = some p → p < P) → ∀ q p, (nxP P k row).2 q = some p → p < P := by
  intro k
  induction k with
  | zero => intro row h; exact h
  | succ k ih =>
    intro row h q p e
    unfold nxP at e
    cases hb : mxB P (row k) with
    | true =>
      rw [hb, cT] at e
      refine ih (updO row k none) (fun q p e => ?_) q p e
      unfold updO at e
      split at e
      · cases e
      · exact h q p e
    | false =>
      rw [hb, cF] at e
      have e : updO row k (some (inO (row k))) q = some p := e
      unfold updO at e
      split at e
      · cases e
        unfold mxB at hb
        unfold inO
        cases hr : row k with
        | none => rw [hr] at hb; have := of_decide_eq_false hb; dsimp only; omega
        | some x => rw [hr] at hb; have := of_decide_eq_false hb; dsimp only; omega
      · exact h q p e
theorem r_nextRow (d : Nat) (hl : lvOK l) : ∀ {row : Nat → Option Nat} {S : RS} {τ : mS}, rM2 τ l row S → (∀ q p, row q = some p → p < lP l) → ∃ τ', Cc (d + 2) n_M_nextRow [.ref 200, .null] τ = some (.int (bI (nxP (lP l) (lQ l) row).1), τ') ∧ sM τ τ' ∧ rM2 τ' l (nxP (lP l) (lQ l) row).2 S := by
  have h1 := lvP hl
  have h3 := lvQ hl
  have set : ∀ {row : Nat → Option Nat} {S : RS} {τ : mS} (k : Nat) (x : Option Nat), k < 5 → rM2 τ l row S → rM2 (mUpI τ 228 k (oI x)) l (updO row k x) S := by
    intro row S τ k x hk h
    obtain ⟨m1, m2, m3, m4, m5, m6, m7⟩ := h
    rw [mUpI_sR]
    refine ⟨?_, ?_, fun q hq => ?_, ?_, ?_, ?_, m7⟩
    · rw [sR_ne _ _ (by decide)]; exact m1
    · rw [sR_ne _ _ (by decide)]; exact m2
    · rw [sR_at]
      by_cases e : q = k
      · rw [e, upd_at, updO_at]
      · rw [upd_ne _ _ e, show updO row k x q = row q from if_neg e]; exact m3 q hq
    · rw [sR_ne _ _ (by decide)]; exact m4
    · rw [sR_ne _ _ (by decide)]; exact m5
    · rw [sR_ne _ _ (by decide)]; exact m6
  have key : ∀ (k : Nat) (row : Nat → Option Nat) (S : RS) (τ : mS), k ≤ lQ l → rM2 τ l row S → (∀ q p, row q = some p → p < lP l) → ∃ τ', Xx (d + 1) n_M_nextRow 7 [.ref 200, .int (nI k - 1)] [] τ = some (.int (bI (nxP (lP l) k row).1), τ') ∧ sM τ τ' ∧ rM2 τ' l (nxP (lP l) k row).2 S := by
    intro k
    induction k with
    | zero =>
      intro row S τ _ h hr
      refine ⟨τ, ?_, sM_r τ, h⟩
      rw [q_M_nextRow_7, show decide (nI 0 - 1 < 0) = true by decide, cT]
      rfl
    | succ k ih =>
      intro row S τ hk h hr
      have m3 := h.2.2.1 k (by omega)
      rw [nI_pred, q_M_nextRow_7, decide_eq_false (nI_pos (by omega)), cF, mIn_nI (by omega) (by omega), cT, nI_clamp (by omega), r_persons, mBI_s, lM_P h.1, m3]
      have hmx : decide (nI (lP l) - 1 ≤ oI (row k)) = mxB (lP l) (row k) := by
        unfold mxB
        have e1 := nI_less1 (n := lP l) (by omega)
        cases hrk : row k with
        | none =>
          apply decide_eq_decide.mpr
          rw [i_le, e1, show (oI none).toInt = -1 by decide]
          omega
        | some p =>
          have := hr k p hrk
          apply decide_eq_decide.mpr
          rw [i_le, e1, oI_s, nI_toInt (by omega)]
          omega
      rw [hmx]
      unfold nxP
      cases hb : mxB (lP l) (row k) with
      | true =>
        simp only [cT]
        have h2 := set k none (by omega) h
        obtain ⟨τ', e, s, r⟩ := ih (updO row k none) S (mUpI τ 228 k (-1)) (by omega) h2 (fun q p e => by
          unfold updO at e
          split at e
          · cases e
          · exact hr q p e)
        refine ⟨τ', ?_, sM_t (sM_s τ (b := 228) (by omega) (by omega) _) s, r⟩
        rw [← e, Int32.sub_eq_add_neg]
      | false =>
        simp only [cF, cT]
        have h2 := set k (some (inO (row k))) (by omega) h
        refine ⟨_, rfl, sM_s τ (b := 228) (by omega) (by omega) _, ?_⟩
        have e : oI (row k) + 1 = oI (some (inO (row k))) := by
          unfold inO
          cases row k with
          | none => rfl
          | some p => exact nI_1 p
        rw [e]
        exact h2
  intro row S τ h hr
  obtain ⟨τ', e, s, r⟩ := key (lQ l) row S τ (Nat.le_refl _) h hr
  refine ⟨τ', ?_, s, r⟩
  rw [c_M_nextRow, r_posts, mBI_s, lM_Q h.1]
  exact e
