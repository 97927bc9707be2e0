/-! ===== who writes; the foremost, the next ===== -/
variable {σ τ : mS} {l : Lv}
theorem win_pos {v : Va} {q p : Nat} (h : win l v q = some p) : p < lP l ∧ -1 < wd l v q p := by
  have key := mF_inv (fun _ (g : G3) => ∀ q p, g.2.1 q = some p → p < lP l ∧ -1 < wd l v q p) (gvY l (wd l v)) (lY l) gv0 (fun q p h => by cases h) (fun y g _ hg => by
    refine mF_inv (fun _ (g : G3) => ∀ q p, g.2.1 q = some p → p < lP l ∧ -1 < wd l v q p) (gvQ l (wd l v) y) (lQ l) g hg (fun k b hk hb q p h => ?_) (lQ l) (Nat.le_refl _)
    unfold gvQ at h
    split at h
    · have h : updO b.2.1 k (gvB l (wd l v) k b.1) q = some p := h
      unfold updO at h
      split at h
      · rename_i e
        have := fmF_lt h
        rw [e]
        exact ⟨this.1, this.2.2⟩
      · exact hb q p h
    · exact hb q p h) (lY l) (Nat.le_refl _)
  exact key q p h
def wrtS (l : Lv) (p q : Nat) : Bool := match win l (vS l) q with
  | none => false
  | some p' => match wrO l (vS l) q p' (fun _ => true) with
    | none => false
    | some w => bt w p
theorem wrt_n {p q : Nat} (h : win l (vS l) q = none) : wrtS l p q = false := by unfold wrtS; rw [h]
theorem wrt_s {p q p' : Nat} {w : Int32} (h : win l (vS l) q = some p') (g : wrO l (vS l) q p' (fun _ => true) = some w) : wrtS l p q = bt w p := by unfold wrtS; rw [h]; dsimp only; rw [g]
theorem win_wr (hl : lvOK l) {v : Va} (hv : vaOK v) {q p : Nat} (h : win l v q = some p) : ∃ w, wrO l v q p (fun _ => true) = some w := by
  obtain ⟨h1, h2⟩ := win_pos h
  cases hw : wrO l v q p (fun _ => true) with
  | none =>
    rw [(wd_none hl hv h1).mpr hw] at h2
    exact absurd h2 (by decide)
  | some w => exact ⟨w, rfl⟩
theorem k_writes (d : Nat) (t : tL σ l) {p : Nat} (hp : p < lP l) : Xx (d + 3) n_E_writes 15 [.ref 0, .int (nI p), .int 0, .int 0, .null] [] σ = some (.int (cnS (lQ l) (wrtS l p) 0), σ) := by
  have h1 := lvP t.1
  have h3 := lvQ t.1
  obtain ⟨v, hs⟩ := mForH (fun k (w : Int32) (v : Value) => Xx (d + 3) n_E_writes 15 [.ref 0, .int (nI p), .int w, .int (nI k), v] [] σ) (fun k w => bif wrtS l p k then w + 1 else w) (lQ l) 0 .null (by
    intro k v hk
    generalize mF _ k (0 : Int32) = w
    refine ⟨.int (oI (win l (vS l) k)), ?_⟩
    rw [q_E_writes_15, tQ t, dle (by omega) (by omega), dF _ (by omega), cF, mIn_nI (by omega) (by omega), cT, nI_clamp (by omega), tWin t hk, oI_m1 (win_big t.1 k), nI_1]
    cases hw : win l (vS l) k with
    | none => rw [wrt_n hw]; rfl
    | some p' =>
      obtain ⟨x, hx⟩ := win_wr t.1 (vS_ok t.1) hw
      rw [wrt_s hw hx, show (!(some p').isSome) = false from rfl, cF, oI_s, k_everybody _ _ (tP t), mBI_s, k_wr _ 20 (Or.inl rfl) t.1 (win_lt t.1 hw) hk _ t.2.1 t.2.2.1.1 t.2.2.1.2.1, wrO_ev t.1, hx, mBI_s, show oW (some x) = x from rfl, k_isIn _ _ (by omega), mBI_s, bI_0]
      cases bt x p <;> rfl)
  exact hs.trans (by rw [q_E_writes_15, tQ t, dT _ (Int32.le_refl _), cT] <;> rfl)
theorem r_writes (d : Nat) (hl : lvOK l) {m : Nat} (a : rA τ l (vS l) m) {p : Nat} (hp : p < lP l) : ∃ u, Xx (d + 5) n_M_writes 15 [.ref 200, .int (nI p), .int 0, .int 0] [] τ = some (.int (cnS (lQ l) (wrtS l p) 0), pN τ u) := by
  have h1 := lvP hl
  have h3 := lvQ hl
  obtain ⟨u, hs⟩ := mForH (fun k (w : Int32) (u : Int32) => Xx (d + 5) n_M_writes 15 [.ref 200, .int (nI p), .int w, .int (nI k)] [] (pN τ u)) (fun k w => bif wrtS l p k then w + 1 else w) (lQ l) 0 (τ.1 200 27) (by
    intro k u hk
    generalize mF _ k (0 : Int32) = w
    rw [q_M_writes_15, r_posts, mBI_s, pN_ne _ _ (by decide), lM_Q a.1.1, dle (by omega) (by omega), dF _ (by omega), cF, mIn_nI (by omega) (by omega), cT, nI_clamp (by omega), pN_ne _ _ (by decide), aWin hl a hk, oI_m1n (win_big hl k), nI_1, cT]
    cases hw : win l (vS l) k with
    | none => rw [wrt_n hw]; exact ⟨u, rfl⟩
    | some p' =>
      obtain ⟨x, hx⟩ := win_wr hl (vS_ok hl) hw
      obtain ⟨u', eu, hu⟩ := r_fw d hl a (win_lt hl hw) hk u
      rw [wrt_s hw hx, show (some p').isSome = true from rfl, cT, oI_s, eu, mBI_s, pN_27, hu x hx, r_bit _ _ _ (by omega), mBI_s]
      refine ⟨x, ?_⟩
      cases bt x p with
      | false => rw [show bI false = 0 from rfl, add_0]; rfl
      | true => rfl)
  rw [pN_self] at hs
  exact ⟨u, hs.trans (by rw [q_M_writes_15, r_posts, mBI_s, pN_ne _ _ (by decide), lM_Q a.1.1, dT _ (Int32.le_refl _), cT] <;> rfl)⟩
/-! the next -/
theorem anyF_iff (n : Nat) (c : Nat → Bool) : anyF n c = true ↔ ∃ k, k < n ∧ c k = true := by
  unfold anyF
  induction n with
  | zero => exact ⟨fun h => (by cases h), fun ⟨k, h, _⟩ => by omega⟩
  | succ n ih =>
    show (mF (fun k b => b || c k) n false || c n) = true ↔ _
    rw [Bool.or_eq_true, ih]
    constructor
    · rintro (⟨k, h1, h2⟩ | h)
      · exact ⟨k, by omega, h2⟩
      · exact ⟨n, by omega, h⟩
    · rintro ⟨k, h1, h2⟩
      by_cases e : k = n
      · subst e; exact Or.inr h2
      · exact Or.inl ⟨k, by omega, h2⟩
/-- a post that comes before another, or is it -/
def ahP (l : Lv) (q' q : Nat) : Prop := lWh l q' < lWh l q ∨ (lWh l q' = lWh l q ∧ q' ≤ q)
def ahd (l : Lv) (w : Nat → Option Nat) (q j : Nat) : Bool := anyF (lQ l) (fun q' => decide (lWh l q' < lWh l q ∨ (lWh l q' = lWh l q ∧ q' ≤ q)) && decide (w q' = some j))
theorem ahd_iff (l : Lv) (w : Nat → Option Nat) (q j : Nat) : ahd l w q j = true ↔ ∃ q', q' < lQ l ∧ ahP l q' q ∧ w q' = some j := by
  unfold ahd ahP
  rw [anyF_iff]
  simp only [Bool.and_eq_true, decide_eq_true_eq]
/-- posts dealt with, at a year and a post -/
def prP (l : Lv) (y k q : Nat) : Prop := lWh l q < y ∨ (lWh l q = y ∧ q < k)
def gvJ (l : Lv) (W : Nat → Nat → Int32) (y k : Nat) (g : G3) : Prop := (∀ j, j < 32 → (bt g.1 j = true ↔ ∃ q, q < lQ l ∧ prP l y k q ∧ g.2.1 q = some j)) ∧ (∀ q, q < lQ l → prP l y k q → g.2.2 q = fmF (lP l) (W q) (fun j => !(ahd l g.2.1 q j))) ∧ (∀ q, ¬ prP l y k q → g.2.1 q = none ∧ g.2.2 q = none)
theorem bool_iff {a b : Bool} (h : a = true ↔ b = true) : a = b := by cases a <;> cases b <;> simp_all
theorem gvQ_J {W : Nat → Nat → Int32} (hl : lvOK l) {y k : Nat} (hk : k < lQ l) {g : G3} (h : gvJ l W y k g) : gvJ l W y (k + 1) (gvQ l W y k g) := by
  have hP := lvP hl
  obtain ⟨had, wi, nx⟩ := g
  obtain ⟨h1, h2, h3⟩ := h
  dsimp only at h1 h2 h3
  unfold gvQ
  by_cases e : lWh l k = y
  · rw [if_pos e]
    dsimp only
    have hB : ∀ j, gvB l W k had = some j → j < 6 := fun j hj => by have := gvB_lt hj; omega
    have np : ¬ prP l y k k := by unfold prP; omega
    have hbit : ∀ j, j < 32 → (bt (hadS had (gvB l W k had)) j = true ↔ (bt had j = true ∨ gvB l W k had = some j)) := by
      intro j hj
      cases hb : gvB l W k had with
      | none => exact ⟨fun q => Or.inl q, fun q => q.elim id (fun x => by cases x)⟩
      | some i =>
        show bt (had ||| (1 <<< (nI i &&& 31))) j = true ↔ _
        rw [b_add (by have := hB i hb; omega) _ hj, Bool.or_eq_true, decide_eq_true_eq]
        constructor
        · rintro (q | q)
          · exact Or.inl q
          · exact Or.inr (by rw [q])
        · rintro (q | q)
          · exact Or.inl q
          · exact Or.inr (by cases q; rfl)
    have hup : ∀ q, q ≠ k → updO wi k (gvB l W k had) q = wi q := fun q hq => if_neg hq
    refine ⟨fun j hj => ?_, fun q hq hp => ?_, fun q hq => ?_⟩
    · dsimp only
      rw [hbit j hj, h1 j hj]
      constructor
      · rintro (⟨q, a1, a2, a3⟩ | a)
        · exact ⟨q, a1, by unfold prP at a2 ⊢; omega, by rw [hup q (fun x => by subst x; exact np a2)]; exact a3⟩
        · exact ⟨k, hk, by unfold prP; omega, by rw [updO_at]; exact a⟩
      · rintro ⟨q, a1, a2, a3⟩
        by_cases x : q = k
        · subst x
          rw [updO_at] at a3
          exact Or.inr a3
        · rw [hup q x] at a3
          exact Or.inl ⟨q, a1, by unfold prP at a2 ⊢; omega, a3⟩
    · dsimp only
      by_cases x : q = k
      · subst x
        rw [updO_at]
        unfold gvN
        refine fmF_eq (fun _ _ => rfl) (fun j hj => ?_)
        apply bool_iff
        rw [Bool.and_eq_true, Bool.not_eq_true', Bool.not_eq_true', Bool.not_eq_true', decide_eq_false_iff_not]
        constructor
        · rintro ⟨c1, c2⟩
          rw [← Bool.not_eq_true, ahd_iff]
          rintro ⟨q', a1, a2, a3⟩
          by_cases x : q' = q
          · subst x
            rw [updO_at] at a3
            exact c2 a3
          · rw [hup q' x] at a3
            have : bt had j = true := (h1 j (by omega)).mpr ⟨q', a1, by unfold ahP at a2; unfold prP; omega, a3⟩
            rw [c1] at this
            cases this
        · intro c
          rw [← Bool.not_eq_true, ahd_iff] at c
          constructor
          · rw [← Bool.not_eq_true, h1 j (by omega)]
            rintro ⟨q', a1, a2, a3⟩
            exact c ⟨q', a1, by unfold prP at a2; unfold ahP; omega, by rw [hup q' (fun x => by subst x; exact np a2)]; exact a3⟩
          · intro a
            exact c ⟨q, hk, by unfold ahP; omega, by rw [updO_at]; exact a⟩
      · rw [show updO nx k (gvN l W k had) q = nx q from if_neg x, h2 q hq (by unfold prP at hp ⊢; omega)]
        refine fmF_eq (fun _ _ => rfl) (fun j _ => ?_)
        congr 1
        apply bool_iff
        rw [ahd_iff, ahd_iff]
        constructor
        · rintro ⟨q', a1, a2, a3⟩
          exact ⟨q', a1, a2, by rw [hup q' (fun x' => by subst x'; unfold ahP at a2; unfold prP at hp; omega)]; exact a3⟩
        · rintro ⟨q', a1, a2, a3⟩
          rw [hup q' (fun x' => by subst x'; unfold ahP at a2; unfold prP at hp; omega)] at a3
          exact ⟨q', a1, a2, a3⟩
    · dsimp only
      have : q ≠ k := fun x => by subst x; apply hq; unfold prP; omega
      rw [hup q this, show updO nx k (gvN l W k had) q = nx q from if_neg this]
      exact h3 q (by unfold prP at hq ⊢; omega)
  · rw [if_neg e]
    have iff : ∀ q, prP l y (k + 1) q ↔ prP l y k q := by
      intro q
      unfold prP
      constructor
      · rintro (a | a)
        · exact Or.inl a
        · refine Or.inr ⟨a.1, ?_⟩
          rcases Nat.lt_or_ge q k with b | b
          · exact b
          · have : q = k := by omega
            subst this
            exact absurd a.1 e
      · rintro (a | a)
        · exact Or.inl a
        · exact Or.inr ⟨a.1, by omega⟩
    refine ⟨fun j hj => ?_, fun q hq hp => h2 q hq ((iff q).mp hp), fun q hq => h3 q (fun x => hq ((iff q).mpr x))⟩
    dsimp only
    rw [h1 j hj]
    constructor
    · rintro ⟨q, a1, a2, a3⟩; exact ⟨q, a1, (iff q).mpr a2, a3⟩
    · rintro ⟨q, a1, a2, a3⟩; exact ⟨q, a1, (iff q).mp a2, a3⟩
theorem gvJ_next {W : Nat → Nat → Int32} {y : Nat} {g : G3} (hQ : ∀ q, lQ l ≤ q → g.2.1 q = none ∧ g.2.2 q = none) (h : gvJ l W y (lQ l) g) : gvJ l W (y + 1) 0 g := by
  have iff : ∀ q, q < lQ l → (prP l (y + 1) 0 q ↔ prP l y (lQ l) q) := by
    intro q hq
    unfold prP
    omega
  refine ⟨fun j hj => ?_, fun q hq hp => h.2.1 q hq ((iff q hq).mp hp), fun q hq => ?_⟩
  · rw [h.1 j hj]
    constructor
    · rintro ⟨q, a1, a2, a3⟩; exact ⟨q, a1, (iff q a1).mpr a2, a3⟩
    · rintro ⟨q, a1, a2, a3⟩; exact ⟨q, a1, (iff q a1).mp a2, a3⟩
  · rcases Nat.lt_or_ge q (lQ l) with b | b
    · exact h.2.2 q (fun x => hq ((iff q b).mpr x))
    · exact hQ q b
theorem gvA_J {W : Nat → Nat → Int32} (hl : lvOK l) (n : Nat) : gvJ l W n 0 (mF (gvY l W) n gv0) ∧ ∀ q, lQ l ≤ q → (mF (gvY l W) n gv0).2.1 q = none ∧ (mF (gvY l W) n gv0).2.2 q = none := by
  induction n with
  | zero =>
    refine ⟨⟨fun j hj => ?_, fun q hq hp => ?_, fun q _ => ⟨rfl, rfl⟩⟩, fun q _ => ⟨rfl, rfl⟩⟩
    · constructor
      · intro h
        have : bt 0 j = true := h
        rw [b_0] at this
        cases this
      · rintro ⟨q, _, _, h⟩; cases h
    · unfold prP at hp; omega
  | succ n ih =>
    have e : mF (gvY l W) (n + 1) gv0 = gvY l W n (mF (gvY l W) n gv0) := rfl
    rw [e]
    generalize mF (gvY l W) n gv0 = g at ih
    have a := mF_inv (fun k g => gvJ l W n k g) (gvQ l W n) (lQ l) g ih.1 (fun k b hk hb => gvQ_J hl hk hb) (lQ l) (Nat.le_refl _)
    have b := mF_inv (fun _ (g : G3) => ∀ q, lQ l ≤ q → g.2.1 q = none ∧ g.2.2 q = none) (gvQ l W n) (lQ l) g ih.2 (fun k b hk hb q hq => by
      unfold gvQ
      split
      · show updO b.2.1 k _ q = none ∧ updO b.2.2 k _ q = none
        unfold updO
        rw [if_neg (by omega), if_neg (by omega)]
        exact hb q hq
      · exact hb q hq) (lQ l) (Nat.le_refl _)
    exact ⟨gvJ_next b a, b⟩
theorem fmF_m1 {P : Nat} {W : Nat → Int32} {s : Nat → Bool} (h : ∀ k, k < P → W k = -1) : fmF P W s = none := by
  cases e : fmF P W s with
  | none => rfl
  | some j =>
    have := fmF_lt e
    rw [h j this.1] at this
    exact absurd this.2.2 (by decide)
theorem nxt_eq (hl : lvOK l) {v : Va} {q : Nat} (hq : q < lQ l) : nxt l v q = fmF (lP l) (wd l v q) (fun j => !(ahd l (win l v) q j)) := by
  have h := (gvA_J (W := wd l v) hl (lY l)).1
  by_cases hy : lWh l q < lY l
  · exact h.2.1 q hq (Or.inl hy)
  · rw [show nxt l v q = none from (h.2.2 q (by unfold prP; omega)).2, fmF_m1]
    intro k _
    unfold wd wrO
    rw [if_neg (fun x => hy x.1)]
    rfl
