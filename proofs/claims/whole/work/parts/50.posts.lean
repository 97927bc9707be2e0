/-! ===== who has which post, which are given ===== -/
variable {σ τ : mS} {l : Lv}
theorem oI_eq2 {k : Nat} (hk : k < 2 ^ 31) {x : Option Nat} (hx : ∀ i, x = some i → i < 2 ^ 31) : decide (¬ oI x = nI k) = !(decide (x = some k)) := by
  rw [decide_not, ← oI_eq hk hx]
  congr 1
  exact decide_eq_decide.mpr ⟨Eq.symm, Eq.symm⟩
theorem oI_m1 {x : Option Nat} (hx : ∀ i, x = some i → i < 2 ^ 31) : decide (oI x = -1) = !(x.isSome) := by
  cases x with
  | none => rfl
  | some i => exact nI_m1e (hx i rfl)
theorem oI_m1n {x : Option Nat} (hx : ∀ i, x = some i → i < 2 ^ 31) : decide (¬ oI x = -1) = x.isSome := by
  cases x with
  | none => rfl
  | some i => exact nI_m1n (hx i rfl)
def hasO (Q : Nat) (w : Nat → Option Nat) (p : Nat) : Option Nat := mFst (fun q => decide (w q = some p)) Q 0
def gvnS (Q : Nat) (w : Nat → Option Nat) : Int32 := stS Q (fun q => (w q).isSome)
theorem hasO_lt {Q : Nat} {w : Nat → Option Nat} {p q : Nat} (h : hasO Q w p = some q) : q < Q := by
  have := (mFst_some _ _ _ _ h).2.1
  omega
theorem k_postOf (d o : Nat) (ho : o = 20 ∨ o = 30) {Q : Nat} (hQ : Q ≤ 5) (h40 : σ.1 40 5 = nI Q) {w : Nat → Option Nat} (hw : ∀ q, q < 5 → σ.1 (o + 5) q = oI (w q)) (hw2 : ∀ q i, w q = some i → i < 2 ^ 31) {p : Nat} (hp : p < 2 ^ 31) : Cc (d + 1) n_Co_postOf [.ref o, .int (nI p), .null] σ = some (.int (oI (hasO Q w p)), σ) := by
  rw [c_Co_postOf _ _ _ ho]
  have hs := mFind (fun k => Xx d n_Co_postOf 2 [.ref o, .int (nI p), .int (nI k)] [] σ) (fun q => decide (w q = some p)) (fun k => some (.int (nI k), σ)) Q (by
    intro k hk
    show Xx d n_Co_postOf 2 _ _ _ = _
    rw [q_Co_postOf_2 _ _ _ _ ho, h40, dle (by omega) (by omega), dF _ (by omega), cF, mIn_nI (by omega) (by omega), cT, nI_clamp (by omega), hw k (by omega), oI_eq2 hp (hw2 k), nI_1]
    cases decide (w k = some p) <;> rfl)
  refine Eq.trans hs ?_
  unfold hasO
  cases mFst (fun q => decide (w q = some p)) Q 0 with
  | none => show Xx d n_Co_postOf 2 _ _ _ = _; rw [q_Co_postOf_2 _ _ _ _ ho, h40, dT _ (Int32.le_refl _), cT]; rfl
  | some k => rfl
theorem r_hasOf (d : Nat) {Q : Nat} (hQ : Q ≤ 5) (h6 : τ.1 201 6 = nI Q) {w : Nat → Option Nat} (hw : ∀ q, q < 5 → τ.1 225 q = oI (w q)) (hw2 : ∀ q i, w q = some i → i < 2 ^ 31) {p : Nat} (hp : p < 2 ^ 31) : Cc (d + 2) n_M_hasOf [.ref 200, .int (nI p), .null] τ = some (.int (oI (hasO Q w p)), τ) := by
  rw [c_M_hasOf]
  have hs := mFind (fun k => Xx (d + 1) n_M_hasOf 2 [.ref 200, .int (nI p), .int (nI k)] [] τ) (fun q => decide (w q = some p)) (fun k => some (.int (nI k), τ)) Q (by
    intro k hk
    show Xx (d + 1) n_M_hasOf 2 _ _ _ = _
    rw [q_M_hasOf_2, r_posts, mBI_s, h6, dle (by omega) (by omega), dF _ (by omega), cF, mIn_nI (by omega) (by omega), cT, nI_clamp (by omega), hw k (by omega), oI_eq2 hp (hw2 k), nI_1]
    cases decide (w k = some p) <;> rfl)
  refine Eq.trans hs ?_
  unfold hasO
  cases mFst (fun q => decide (w q = some p)) Q 0 with
  | none => show Xx (d + 1) n_M_hasOf 2 _ _ _ = _; rw [q_M_hasOf_2, r_posts, mBI_s, h6, dT _ (Int32.le_refl _), cT]; rfl
  | some k => rfl
theorem k_postsGiven (d o : Nat) (ho : o = 20 ∨ o = 30) {Q : Nat} (hQ : Q ≤ 5) (h40 : σ.1 40 5 = nI Q) {w : Nat → Option Nat} (hw : ∀ q, q < 5 → σ.1 (o + 5) q = oI (w q)) (hw2 : ∀ q i, w q = some i → i < 2 ^ 31) : Cc (d + 1) n_Co_postsGiven [.ref o, .null, .null] σ = some (.int (gvnS Q w), σ) := by
  rw [c_Co_postsGiven _ _ ho]
  have hs := mFor (fun k (s : Int32) => Xx d n_Co_postsGiven 4 [.ref o, .int s, .int (nI k)] [] σ) (fun k s => bif (w k).isSome then s ||| (1 <<< (nI k &&& 31)) else s) Q 0 (by
    intro k hk
    generalize mF _ k (0 : Int32) = s
    rw [q_Co_postsGiven_4 _ _ _ _ ho, h40, dle (by omega) (by omega), dF _ (by omega), cF, mIn_nI (by omega) (by omega), cT, nI_clamp (by omega), hw k (by omega), oI_m1 (hw2 k), nI_1]
    cases (w k).isSome <;> rfl)
  exact hs.trans (by rw [q_Co_postsGiven_4 _ _ _ _ ho, h40, dT _ (Int32.le_refl _), cT] <;> rfl)
theorem r_givenSet (d : Nat) {Q : Nat} (hQ : Q ≤ 5) (h6 : τ.1 201 6 = nI Q) {w : Nat → Option Nat} (hw : ∀ q, q < 5 → τ.1 225 q = oI (w q)) (hw2 : ∀ q i, w q = some i → i < 2 ^ 31) : Cc (d + 2) n_M_givenSet [.ref 200, .null, .null] τ = some (.int (gvnS Q w), τ) := by
  rw [c_M_givenSet]
  have hs := mFor (fun k (s : Int32) => Xx (d + 1) n_M_givenSet 4 [.ref 200, .int s, .int (nI k)] [] τ) (fun k s => bif (w k).isSome then s ||| (1 <<< (nI k &&& 31)) else s) Q 0 (by
    intro k hk
    generalize mF _ k (0 : Int32) = s
    rw [q_M_givenSet_4, r_posts, mBI_s, h6, dle (by omega) (by omega), dF _ (by omega), cF, mIn_nI (by omega) (by omega), cT, nI_clamp (by omega), hw k (by omega), oI_m1n (hw2 k), nI_1, or_0]
    cases (w k).isSome <;> rfl)
  exact hs.trans (by rw [q_M_givenSet_4, r_posts, mBI_s, h6, dT _ (Int32.le_refl _), cT] <;> rfl)
theorem gvnS_bw {Q : Nat} (hQ : Q ≤ 5) (w : Nat → Option Nat) : bw 0 (gvnS Q w) 63 := st_bw (by omega) _
theorem r_givenMany (d : Nat) {Q : Nat} (hQ : Q ≤ 5) (h6 : τ.1 201 6 = nI Q) {w : Nat → Option Nat} (hw : ∀ q, q < 5 → τ.1 225 q = oI (w q)) (hw2 : ∀ q i, w q = some i → i < 2 ^ 31) : Cc (d + 3) n_M_givenMany [.ref 200] τ = some (.int (nI (nb (gvnS Q w))), τ) := by
  rw [c_M_givenMany, r_givenSet _ hQ h6 hw hw2, mBI_s, r_bits, mBI_s]
theorem win_big {v : Va} (hl : lvOK l) : ∀ q i, win l v q = some i → i < 2 ^ 31 := fun q i h => by
  have := win_lt hl h
  have := lvP hl
  omega
theorem t_has (D : Nat) (t : tL σ l) (x : Int32) : qry (D + 13) n_E_has n_M_has [.ref 0, .int x] [.ref 200, .int x] σ := by
  have h1 := lvP t.1
  have h2 := lvY t.1
  have h3 := lvQ t.1
  have h4 := lvLn t.1
  obtain ⟨τ, e, s, a⟩ := r_asksPerson (D + 2) x t.1 t.2.2.2
  unfold qry
  rw [c_E_has, k_isPerson _ x σ (tP t) (by omega), c_M_has]
  rw [e]
  simp only [mBI_s, bI_0, bI_n]
  cases hx : mIn x (lP l) with
  | false => exact ⟨-2, τ, by simp [*], by simp [*], s⟩
  | true =>
    obtain ⟨p, hp, rfl⟩ := mIn_of hx
    simp only [Bool.and_true, Bool.true_and, Bool.not_true, Bool.not_false, cond_true, cond_false]
    rw [k_postOf _ 20 (Or.inl rfl) h3 (tQ t) t.2.2.1.2.2.2 (win_big t.1) (by omega), r_hasOf _ h3 (lM_Q a.1.1) a.2.2.1 (win_big t.1) (by omega)]
    exact ⟨_, τ, rfl, rfl, s⟩
theorem t_given (D : Nat) (t : tL σ l) : qry (D + 13) n_E_given n_M_given [.ref 0] [.ref 200] σ := by
  have h1 := lvP t.1
  have h2 := lvY t.1
  have h3 := lvQ t.1
  have h4 := lvLn t.1
  obtain ⟨τ, e, s, a⟩ := r_asksLand (D + 3) t.1 t.2.2.2
  unfold qry
  rw [c_E_given, k_isLand _ σ (tLn t) (by omega), c_M_given]
  rw [e]
  simp only [mBI_s, bI_0, bI_n]
  cases hld : decide (0 < lLn l) with
  | false => exact ⟨-2, τ, by simp, by simp, s⟩
  | true =>
    have hld := of_decide_eq_true hld
    simp only [Bool.and_true, Bool.true_and, Bool.not_true, Bool.not_false, cond_true, cond_false]
    rw [k_postsGiven _ 20 (Or.inl rfl) h3 (tQ t) t.2.2.1.2.2.2 (win_big t.1), r_givenSet _ h3 (lM_Q a.1.1) a.2.2.1 (win_big t.1)]
    exact ⟨_, τ, rfl, rfl, s⟩
theorem k_idle (d : Nat) (t : tL σ l)  : Xx (d + 2) n_E_idle 14 [.ref 0, .int (0), .int (0)] [] σ = some (.int (stS (lP l) (fun k => !((hasO (lQ l) (win l (vS l)) k).isSome))), σ) := by
  have h1 := lvP t.1
  have h2 := lvY t.1
  have h3 := lvQ t.1
  have hs := mFor (fun k (w : Int32) => Xx (d + 2) n_E_idle 14 [.ref 0, .int (w), .int (nI (k))] [] σ) (fun k w => bif !((hasO (lQ l) (win l (vS l)) k).isSome) then w ||| (1 <<< (nI k &&& 31)) else w) (lP l) (0) (by
    intro k hk
    generalize mF _ k _ = w
    rw [q_E_idle_14, tP t, dle (by omega) (by omega), dF _ (by omega), cF, k_postOf _ 20 (Or.inl rfl) h3 (tQ t) t.2.2.1.2.2.2 (win_big t.1) (by omega), mBI_s, oI_m1n (fun i h => by have := hasO_lt h; omega), nI_1]
    cases (hasO (lQ l) (win l (vS l)) k).isSome <;> rfl)
  exact hs.trans (by rw [q_E_idle_14, tP t, dle (by omega) (by omega), dT _ (by omega), cT] <;> rfl)
theorem r_idle (d : Nat) (hl : lvOK l) {m : Nat} (a : rA τ l (vS l) m)  : Xx (d + 2) n_M_idle 14 [.ref 200, .int (0), .int (0)] [] τ = some (.int (stS (lP l) (fun k => !((hasO (lQ l) (win l (vS l)) k).isSome))), τ) := by
  have h1 := lvP hl
  have h2 := lvY hl
  have h3 := lvQ hl
  have hs := mFor (fun k (w : Int32) => Xx (d + 2) n_M_idle 14 [.ref 200, .int (w), .int (nI (k))] [] τ) (fun k w => bif !((hasO (lQ l) (win l (vS l)) k).isSome) then w ||| (1 <<< (nI k &&& 31)) else w) (lP l) (0) (by
    intro k hk
    generalize mF _ k _ = w
    rw [q_M_idle_14, r_persons, mBI_s, lM_P a.1.1, dle (by omega) (by omega), dF _ (by omega), cF, r_hasOf _ h3 (lM_Q a.1.1) a.2.2.1 (win_big hl) (by omega), mBI_s, oI_m1n (fun i h => by have := hasO_lt h; omega), nI_1, or_0]
    cases (hasO (lQ l) (win l (vS l)) k).isSome <;> rfl)
  exact hs.trans (by rw [q_M_idle_14, r_persons, mBI_s, lM_P a.1.1, dle (by omega) (by omega), dT _ (by omega), cT] <;> rfl)
theorem t_idle (D : Nat) (t : tL σ l) : qry (D + 13) n_E_idle n_M_idle [.ref 0, .null, .null] [.ref 200, .null, .null] σ := by
  have h1 := lvP t.1
  have h2 := lvY t.1
  have h3 := lvQ t.1
  have h4 := lvLn t.1
  obtain ⟨τ, e, s, a⟩ := r_asksLand (D + 3) t.1 t.2.2.2
  unfold qry
  rw [c_E_idle, k_isLand _ σ (tLn t) (by omega), c_M_idle]
  rw [e]
  simp only [mBI_s, bI_0, bI_n]
  cases hld : decide (0 < lLn l) with
  | false => exact ⟨-2, τ, by simp, by simp, s⟩
  | true =>
    have hld := of_decide_eq_true hld
    simp only [Bool.and_true, Bool.true_and, Bool.not_true, Bool.not_false, cond_true, cond_false]
    rw [k_idle _ t, r_idle _ t.1 a]
    exact ⟨_, τ, rfl, rfl, s⟩
def fiS (l : Lv) (w : Nat → Option Nat) (k : Nat) (b : Option Nat) : Option Nat := if (w k).isSome = true ∧ (∀ y, b = some y → lWh l k < y) then some (lWh l k) else b
theorem fiS_lt (hl : lvOK l) (w : Nat → Option Nat) (n : Nat) (hn : n ≤ lQ l) : ∀ y, mF (fiS l w) n none = some y → y < 12 := fun y hy =>
  mF_inv (fun _ (b : Option Nat) => ∀ y, b = some y → y < 12) (fiS l w) n none (fun y h => by cases h) (fun k b hk hb y hy => by
    unfold fiS at hy
    split at hy
    · cases hy; exact lvWh hl k (by omega)
    · exact hb y hy) n (Nat.le_refl n) y hy
theorem k_first (d : Nat) (t : tL σ l)  : Xx (d + 1) n_E_first 14 [.ref 0, .int (oI none), .int (0)] [] σ = some (.int (oI (mF (fiS l (win l (vS l))) (lQ l) none)), σ) := by
  have h1 := lvP t.1
  have h2 := lvY t.1
  have h3 := lvQ t.1
  have hs := mFor (fun k (w : Option Nat) => Xx (d + 1) n_E_first 14 [.ref 0, .int (oI w), .int (nI (k))] [] σ) (fiS l (win l (vS l))) (lQ l) (none) (by
    intro k hk
    have hwh := lvWh t.1 k hk
    have hI := fiS_lt t.1 (win l (vS l)) k (by omega)
    generalize mF _ k _ = w at hI
    rw [q_E_first_14, tQ t, dle (by omega) (by omega), dF _ (by omega), cF, mIn_nI (by omega) (by omega), cT, nI_clamp (by omega), tWin t hk, oI_m1 (win_big t.1 k), nI_1, show σ.1 44 k = nI (lWh l k) from (t.2.1.2.2.2.1 k hk).2]
    unfold fiS
    cases hw : (win l (vS l) k).isSome with
    | false => rw [if_neg (fun q => by cases q.1)]; rfl
    | true =>
      cases w with
      | none => rw [if_pos ⟨rfl, fun y e => by cases e⟩]; rfl
      | some y =>
        have hy := hI y rfl
        rw [oI_s, nI_m1e (by omega)]
        rw [dle (by omega) (by omega)]
        by_cases g : y ≤ lWh l k
        · rw [dT _ g, if_neg (fun q => by have := q.2 y rfl; omega)]; rfl
        · rw [dF _ g, if_pos ⟨rfl, fun y' e => by cases e; omega⟩]; rfl)
  exact hs.trans (by rw [q_E_first_14, tQ t, dle (by omega) (by omega), dT _ (by omega), cT] <;> rfl)
theorem r_first (d : Nat) (hl : lvOK l) {m : Nat} (a : rA τ l (vS l) m)  : Xx (d + 1) n_M_first 14 [.ref 200, .int (oI none), .int (0)] [] τ = some (.int (oI (mF (fiS l (win l (vS l))) (lQ l) none)), τ) := by
  have h1 := lvP hl
  have h2 := lvY hl
  have h3 := lvQ hl
  have hs := mFor (fun k (w : Option Nat) => Xx (d + 1) n_M_first 14 [.ref 200, .int (oI w), .int (nI (k))] [] τ) (fiS l (win l (vS l))) (lQ l) (none) (by
    intro k hk
    have hwh := lvWh hl k hk
    have hI := fiS_lt hl (win l (vS l)) k (by omega)
    generalize mF _ k _ = w at hI
    rw [q_M_first_14, r_posts, mBI_s, lM_Q a.1.1, dle (by omega) (by omega), dF _ (by omega), cF, mIn_nI (by omega) (by omega), cT, nI_clamp (by omega), aWin hl a hk, oI_m1 (win_big hl k), nI_1, r_yearOf _ (by omega), mBI_s, mBI_s, lM_wh a.1.1 hk]
    unfold fiS
    cases hw : (win l (vS l) k).isSome with
    | false => rw [if_neg (fun q => by cases q.1)]; rfl
    | true =>
      cases w with
      | none => rw [if_pos ⟨rfl, fun y e => by cases e⟩]; rfl
      | some y =>
        have hy := hI y rfl
        rw [oI_s, nI_m1e (by omega)]
        rw [dle (by omega) (by omega)]
        by_cases g : y ≤ lWh l k
        · rw [dT _ g, if_neg (fun q => by have := q.2 y rfl; omega)]; rfl
        · rw [dF _ g, if_pos ⟨rfl, fun y' e => by cases e; omega⟩]
          rw [bnot_t, cF, cF, cF, r_yearOf _ (by omega), mBI_s, lM_wh a.1.1 hk]; rfl)
  exact hs.trans (by rw [q_M_first_14, r_posts, mBI_s, lM_Q a.1.1, dle (by omega) (by omega), dT _ (by omega), cT] <;> rfl)
theorem t_first (D : Nat) (t : tL σ l) : qry (D + 13) n_E_first n_M_first [.ref 0, .null, .null] [.ref 200, .null, .null] σ := by
  have h1 := lvP t.1
  have h2 := lvY t.1
  have h3 := lvQ t.1
  have h4 := lvLn t.1
  obtain ⟨τ, e, s, a⟩ := r_asksLand (D + 3) t.1 t.2.2.2
  unfold qry
  rw [c_E_first, k_isLand _ σ (tLn t) (by omega), c_M_first]
  rw [e]
  simp only [mBI_s, bI_0, bI_n]
  cases hld : decide (0 < lLn l) with
  | false => exact ⟨-2, τ, by simp, by simp, s⟩
  | true =>
    have hld := of_decide_eq_true hld
    simp only [Bool.and_true, Bool.true_and, Bool.not_true, Bool.not_false, cond_true, cond_false]
    rw [show (Value.int (-1)) = Value.int (oI none) from rfl, k_first _ t, r_first _ t.1 a]
    exact ⟨_, τ, rfl, rfl, s⟩
theorem r_may (d : Nat) (hl : lvOK l) {m : Nat} (a : rA τ l (vS l) m) {q : Nat} (hq : q < lQ l) : ∃ u, Xx (d + 5) n_M_may 15 [.ref 200, .int (nI q), .int (0), .int (0)] [] τ = some (.int (stS (lP l) (fun k => !(decide (wd l (vS l) q k = -1)))), pN τ u) := by
  have h1 := lvP hl
  have h3 := lvQ hl
  obtain ⟨u, hs⟩ := mForH (fun k (w : Int32) (u : Int32) => Xx (d + 5) n_M_may 15 [.ref 200, .int (nI q), .int (w), .int (nI k)] [] (pN τ u)) (fun k w => bif !(decide (wd l (vS l) q k = -1)) then w ||| (1 <<< (nI k &&& 31)) else w) (lP l) (0) (τ.1 200 27) (by
    intro k u hk
    generalize mF _ k _ = w
    obtain ⟨u', eu, hu⟩ := r_fw d hl a hk hq u
    rw [q_M_may_15, r_persons, mBI_s, pN_ne _ _ (by decide), lM_P a.1.1, dle (by omega) (by omega), dF _ (by omega), cF, eu, mBI_s, nI_1, or_0, decide_not]
    refine ⟨u', ?_⟩
    cases decide (wd l (vS l) q k = -1) <;> rfl)
  rw [pN_self] at hs
  exact ⟨u, hs.trans (by rw [q_M_may_15, r_persons, mBI_s, pN_ne _ _ (by decide), lM_P a.1.1, dT _ (Int32.le_refl _), cT] <;> rfl)⟩
theorem k_may (d : Nat) (t : tL σ l) {q : Nat} (hq : q < lQ l) : Xx (d + 1) n_E_may 15 [.ref 0, .int (nI q), .int (0), .int (0)] [] σ = some (.int (stS (lP l) (fun k => !(decide (wd l (vS l) q k = -1)))), σ) := by
  have h1 := lvP t.1
  have h2 := lvY t.1
  have h3 := lvQ t.1
  have hs := mFor (fun k (w : Int32) => Xx (d + 1) n_E_may 15 [.ref 0, .int (nI q), .int (w), .int (nI (k))] [] σ) (fun k w => bif !(decide (wd l (vS l) q k = -1)) then w ||| (1 <<< (nI k &&& 31)) else w) (lP l) (0) (by
    intro k hk
    generalize mF _ k _ = w
    rw [q_E_may_15, tP t, dle (by omega) (by omega), dF _ (by omega), cF, k_wf _ t hk hq, mBI_s, nI_1, decide_eq_decide.mpr (wd_neg t.1 (vS_ok t.1) hk)]
    cases decide (wd l (vS l) q k = -1) <;> rfl)
  exact hs.trans (by rw [q_E_may_15, tP t, dle (by omega) (by omega), dT _ (by omega), cT] <;> rfl)
theorem r_hopes (d : Nat) (hl : lvOK l) {m : Nat} (a : rA τ l (vS l) m) {p : Nat} (hp : p < lP l) : ∃ u, Xx (d + 5) n_M_hopes 15 [.ref 200, .int (nI p), .int (0), .int (0)] [] τ = some (.int (stS (lQ l) (fun k => !(decide (wd l (vS l) k p = -1)))), pN τ u) := by
  have h1 := lvP hl
  have h3 := lvQ hl
  obtain ⟨u, hs⟩ := mForH (fun k (w : Int32) (u : Int32) => Xx (d + 5) n_M_hopes 15 [.ref 200, .int (nI p), .int (w), .int (nI k)] [] (pN τ u)) (fun k w => bif !(decide (wd l (vS l) k p = -1)) then w ||| (1 <<< (nI k &&& 31)) else w) (lQ l) (0) (τ.1 200 27) (by
    intro k u hk
    generalize mF _ k _ = w
    obtain ⟨u', eu, hu⟩ := r_fw d hl a hp hk u
    rw [q_M_hopes_15, r_posts, mBI_s, pN_ne _ _ (by decide), lM_Q a.1.1, dle (by omega) (by omega), dF _ (by omega), cF, eu, mBI_s, nI_1, or_0, decide_not]
    refine ⟨u', ?_⟩
    cases decide (wd l (vS l) k p = -1) <;> rfl)
  rw [pN_self] at hs
  exact ⟨u, hs.trans (by rw [q_M_hopes_15, r_posts, mBI_s, pN_ne _ _ (by decide), lM_Q a.1.1, dT _ (Int32.le_refl _), cT] <;> rfl)⟩
theorem k_hopes (d : Nat) (t : tL σ l) {p : Nat} (hp : p < lP l) : Xx (d + 1) n_E_hopes 15 [.ref 0, .int (nI p), .int (0), .int (0)] [] σ = some (.int (stS (lQ l) (fun k => !(decide (wd l (vS l) k p = -1)))), σ) := by
  have h1 := lvP t.1
  have h2 := lvY t.1
  have h3 := lvQ t.1
  have hs := mFor (fun k (w : Int32) => Xx (d + 1) n_E_hopes 15 [.ref 0, .int (nI p), .int (w), .int (nI (k))] [] σ) (fun k w => bif !(decide (wd l (vS l) k p = -1)) then w ||| (1 <<< (nI k &&& 31)) else w) (lQ l) (0) (by
    intro k hk
    generalize mF _ k _ = w
    rw [q_E_hopes_15, tQ t, dle (by omega) (by omega), dF _ (by omega), cF, k_wf _ t hp hk, mBI_s, nI_1, decide_eq_decide.mpr (wd_neg t.1 (vS_ok t.1) hp)]
    cases decide (wd l (vS l) k p = -1) <;> rfl)
  exact hs.trans (by rw [q_E_hopes_15, tQ t, dle (by omega) (by omega), dT _ (by omega), cT] <;> rfl)
theorem r_praise (d : Nat) (hl : lvOK l) {m : Nat} (a : rA τ l (vS l) m) {p : Nat} (hp : p < lP l) : ∃ u, Xx (d + 5) n_M_praise 15 [.ref 200, .int (nI p), .int (0), .int (0)] [] τ = some (.int (smS (lQ l) (fun k => vMx 0 (wd l (vS l) k p)) 0), pN τ u) := by
  have h1 := lvP hl
  have h3 := lvQ hl
  obtain ⟨u, hs⟩ := mForH (fun k (w : Int32) (u : Int32) => Xx (d + 5) n_M_praise 15 [.ref 200, .int (nI p), .int (w), .int (nI k)] [] (pN τ u)) (fun k w => w + vMx 0 (wd l (vS l) k p)) (lQ l) (0) (τ.1 200 27) (by
    intro k u hk
    generalize mF _ k _ = w
    obtain ⟨u', eu, hu⟩ := r_fw d hl a hp hk u
    rw [q_M_praise_15, r_posts, mBI_s, pN_ne _ _ (by decide), lM_Q a.1.1, dle (by omega) (by omega), dF _ (by omega), cF, eu, mBI_s, nI_1]
    exact ⟨u', rfl⟩)
  rw [pN_self] at hs
  exact ⟨u, hs.trans (by rw [q_M_praise_15, r_posts, mBI_s, pN_ne _ _ (by decide), lM_Q a.1.1, dT _ (Int32.le_refl _), cT] <;> rfl)⟩
theorem k_praise (d : Nat) (t : tL σ l) {p : Nat} (hp : p < lP l) : Xx (d + 1) n_E_praise 15 [.ref 0, .int (nI p), .int (0), .int (0)] [] σ = some (.int (smS (lQ l) (fun k => vMx 0 (wd l (vS l) k p)) 0), σ) := by
  have h1 := lvP t.1
  have h2 := lvY t.1
  have h3 := lvQ t.1
  have hs := mFor (fun k (w : Int32) => Xx (d + 1) n_E_praise 15 [.ref 0, .int (nI p), .int (w), .int (nI (k))] [] σ) (fun k w => w + vMx 0 (wd l (vS l) k p)) (lQ l) (0) (by
    intro k hk
    generalize mF _ k _ = w
    rw [q_E_praise_15, tQ t, dle (by omega) (by omega), dF _ (by omega), cF, k_wf _ t hp hk, mBI_s, nI_1, vMx_comm]
)
  exact hs.trans (by rw [q_E_praise_15, tQ t, dle (by omega) (by omega), dT _ (by omega), cT] <;> rfl)
theorem t_may (D : Nat) (t : tL σ l) (x : Int32) : qry (D + 13) n_E_may n_M_may [.ref 0, .int x, .null, .null] [.ref 200, .int x, .null, .null] σ := by
  have h1 := lvP t.1
  have h2 := lvY t.1
  have h3 := lvQ t.1
  have h4 := lvLn t.1
  obtain ⟨τ, e, s, a⟩ := r_asksPost (D + 2) x t.1 t.2.2.2
  unfold qry
  rw [c_E_may, k_isPost _ x σ (tQ t) (by omega), c_M_may]
  rw [e]
  simp only [mBI_s, bI_0, bI_n]
  cases hx : mIn x (lQ l) with
  | false => exact ⟨-2, τ, by simp [*], by simp [*], s⟩
  | true =>
    obtain ⟨q, hq, rfl⟩ := mIn_of hx
    simp only [Bool.and_true, Bool.true_and, Bool.not_true, Bool.not_false, cond_true, cond_false]
    obtain ⟨u, eu⟩ := r_may (D + 7) t.1 a hq
    rw [k_may _ t hq, eu]
    exact ⟨_, _, rfl, rfl, sM_t s (sM_pN _ u)⟩
theorem t_hopes (D : Nat) (t : tL σ l) (x : Int32) : qry (D + 13) n_E_hopes n_M_hopes [.ref 0, .int x, .null, .null] [.ref 200, .int x, .null, .null] σ := by
  have h1 := lvP t.1
  have h2 := lvY t.1
  have h3 := lvQ t.1
  have h4 := lvLn t.1
  obtain ⟨τ, e, s, a⟩ := r_asksPerson (D + 2) x t.1 t.2.2.2
  unfold qry
  rw [c_E_hopes, k_isPerson _ x σ (tP t) (by omega), c_M_hopes]
  rw [e]
  simp only [mBI_s, bI_0, bI_n]
  cases hx : mIn x (lP l) with
  | false => exact ⟨-2, τ, by simp [*], by simp [*], s⟩
  | true =>
    obtain ⟨p, hp, rfl⟩ := mIn_of hx
    simp only [Bool.and_true, Bool.true_and, Bool.not_true, Bool.not_false, cond_true, cond_false]
    obtain ⟨u, eu⟩ := r_hopes (D + 7) t.1 a hp
    rw [k_hopes _ t hp, eu]
    exact ⟨_, _, rfl, rfl, sM_t s (sM_pN _ u)⟩
theorem t_praise (D : Nat) (t : tL σ l) (x : Int32) : qry (D + 13) n_E_praise n_M_praise [.ref 0, .int x, .null, .null] [.ref 200, .int x, .null, .null] σ := by
  have h1 := lvP t.1
  have h2 := lvY t.1
  have h3 := lvQ t.1
  have h4 := lvLn t.1
  obtain ⟨τ, e, s, a⟩ := r_asksPerson (D + 2) x t.1 t.2.2.2
  unfold qry
  rw [c_E_praise, k_isPerson _ x σ (tP t) (by omega), c_M_praise]
  rw [e]
  simp only [mBI_s, bI_0, bI_n]
  cases hx : mIn x (lP l) with
  | false => exact ⟨-2, τ, by simp [*], by simp [*], s⟩
  | true =>
    obtain ⟨p, hp, rfl⟩ := mIn_of hx
    simp only [Bool.and_true, Bool.true_and, Bool.not_true, Bool.not_false, cond_true, cond_false]
    obtain ⟨u, eu⟩ := r_praise (D + 7) t.1 a hp
    rw [k_praise _ t hp, eu]
    exact ⟨_, _, rfl, rfl, sM_t s (sM_pN _ u)⟩
