/-! ===== rows of posts: the class ===== -/
variable {σ τ : mS} {l : Lv}
def wN (l : Lv) (q p : Nat) : Option Nat := if wd l (vS l) q p = -1 then none else some (wd l (vS l) q p).toNatClampNeg
theorem wN_n {q p : Nat} (h : wN l q p = none) : wd l (vS l) q p = -1 := by
  unfold wN at h
  by_cases e : wd l (vS l) q p = -1
  · exact e
  · rw [if_neg e] at h; cases h
theorem wN_s (hl : lvOK l) {q p : Nat} (hp : p < lP l) {n : Nat} (h : wN l q p = some n) : wd l (vS l) q p = nI n ∧ n ≤ 360 := by
  unfold wN at h
  by_cases e : wd l (vS l) q p = -1
  · rw [if_pos e] at h; cases h
  · rw [if_neg e] at h
    cases h
    have hb := wd_bw hl (vS_ok hl) q hp
    have hp0 : ¬ wd l (vS l) q p < 0 := fun x => e ((wd_neg hl (vS_ok hl) hp).mp x)
    obtain ⟨j, hj, hw⟩ := nI_of hp0
    rw [hw, nI_clamp hj]
    refine ⟨rfl, ?_⟩
    have := hb.2
    rw [hw, nI_toInt hj] at this
    omega
abbrev RS : Type := Option Nat × Int32 × (Nat → Int32)
def stB (m : Option Nat) (s : Nat) : Bool := match m with
  | none => true
  | some m => decide (m < s)
def stl (s : Nat) (row : Nat → Option Nat) (S : RS) : RS := bif stB S.1 s then (some s, 1, fun q => oI (row q)) else (bif decide (S.1 = some s) then (S.1, S.2.1 + 1, S.2.2) else S)
def flS (l : Lv) : Nat → Nat → Int32 → Nat → (Nat → Option Nat) → RS → RS
  | 0, _, _, s, row, S => stl s row S
  | n + 1, post, h, s, row, S => mF (fun p S => match wN l post p with
      | none => S
      | some w => bif bt h p then S else flS l n (post + 1) (h ||| (1 <<< (nI p &&& 31))) (s + w + 1) (updO row post (some p)) S) (lP l) (flS l n (post + 1) h s (updO row post none) S)
def RSok (σ : mS) (Q : Nat) (S : RS) : Prop := σ.1 4 4 = oI S.1 ∧ σ.1 4 5 = S.2.1 ∧ (∀ q, q < Q → σ.1 6 q = S.2.2 q) ∧ ∀ i, S.1 = some i → i < 2 ^ 31
def kH (σ τ : mS) : Prop := (∀ a, a < 4 ∨ 6 < a → τ.1 a = σ.1 a) ∧ τ.2 = σ.2
theorem kH_r (σ : mS) : kH σ σ := ⟨fun _ _ => rfl, rfl⟩
theorem kH_t {σ τ υ : mS} (h : kH σ τ) (g : kH τ υ) : kH σ υ := ⟨fun a ha => (g.1 a ha).trans (h.1 a ha), g.2.trans h.2⟩
theorem kH_s (σ : mS) {b : Nat} (h1 : 4 ≤ b) (h2 : b ≤ 6) (f : Nat → Int32) : kH σ (sR σ b f) := ⟨fun a ha => sR_ne _ _ (by omega), rfl⟩
theorem sC_kH (h : kH σ τ) : sC σ τ := ⟨fun a ha => h.1 a (by omega), h.2⟩
theorem k_settle (d : Nat) {Q : Nat} (hQ : Q ≤ 5) {s : Nat} (hs : s < 2 ^ 31) {row : Nat → Option Nat} {S : RS} (h : RSok σ Q S) (hr : ∀ q, q < Q → σ.1 5 q = oI (row q)) : ∃ τ, Cc (d + 1) n_Ch_settle [.ref 4, .int (nI s)] σ = some (.null, τ) ∧ kH σ τ ∧ RSok τ Q (stl s row S) ∧ τ.1 5 = σ.1 5 := by
  obtain ⟨a1, a2, a3, a4⟩ := h
  have hle : decide (nI s ≤ oI S.1) = !(stB S.1 s) := by
    unfold stB
    cases hm : S.1 with
    | none =>
      rw [dF _ (fun q => by
        have := i_le.mp q
        rw [nI_toInt hs, show (oI none).toInt = -1 by decide] at this
        omega)]
      rfl
    | some m =>
      rw [oI_s, dle hs (a4 m hm)]
      dsimp only
      by_cases g : s ≤ m
      · rw [dT _ g, dF (p := m < s) _ (by omega)]; rfl
      · rw [dF _ g, dT (p := m < s) _ (by omega)]; rfl
  rw [c_Ch_settle, a1, hle]
  unfold stl
  cases hb : stB S.1 s with
  | true =>
    rw [Bool.not_true, cF, show mFit w0 (mUpI (mUpI σ 4 4 (nI s)) 4 5 0) 5 6 0 0 5 = true from mFit_ok (s := 0) (t := 0) (n := 5) (la := 5) (lb := 5) rfl rfl (by omega) (by omega) (by omega) (by omega), cT, show ((mCpI (mUpI (mUpI σ 4 4 (nI s)) 4 5 0) 5 6 (0 : Int32).toNatClampNeg (0 : Int32).toNatClampNeg (5 : Int32).toNatClampNeg).1 4 4) = nI s from rfl, dF _ (fun q => q rfl), cF, cT]
    refine ⟨_, rfl, ?_, ⟨rfl, rfl, fun q hq => ?_, fun i e => by cases e; exact hs⟩, rfl⟩
    · exact kH_t (kH_s σ (b := 4) (by omega) (by omega) _) (kH_t (kH_s _ (b := 4) (by omega) (by omega) _) (kH_t (kH_s _ (b := 6) (by omega) (by omega) _) (kH_s _ (b := 4) (by omega) (by omega) _)))
    · show va_cpy (σ.1 5) (σ.1 6) 0 0 5 q = oI (row q)
      unfold va_cpy
      rw [if_pos ⟨Nat.zero_le _, by omega⟩, show 0 + (q - 0) = q by omega]
      exact hr q hq
  | false =>
    rw [Bool.not_false, cT]
    have hne : decide (¬ nI s = oI S.1) = !(decide (S.1 = some s)) := by rw [decide_not, oI_eq hs a4]
    rw [hne, cF]
    cases he : decide (S.1 = some s) with
    | true =>
      rw [Bool.not_true, cF, cT]
      refine ⟨_, rfl, kH_s σ (b := 4) (by omega) (by omega) _, ⟨?_, ?_, a3, a4⟩, rfl⟩
      · rw [mUpI_sR, sR_at, upd_ne _ _ (by decide)]; exact a1
      · rw [mUpI_sR, sR_at, upd_at, a2]
    | false =>
      rw [Bool.not_false, cT, cF]
      exact ⟨σ, rfl, kH_r σ, ⟨a1, a2, a3, a4⟩, rfl⟩
theorem k_fill (hl : lvOK l) : ∀ (n d post : Nat) (h : Int32) (s : Nat) (row : Nat → Option Nat) (S : RS) (σ : mS), post + n = lQ l → s ≤ 361 * post → tL σ l → RSok σ (lQ l) S → (∀ q, q < post → σ.1 5 q = oI (row q)) → ∃ τ, Cc (d + n + 3) n_Ch_fill [.ref 4, .int (nI post), .int (fr (lP l) h), .int (nI s), .null, .null] σ = some (.null, τ) ∧ kH σ τ ∧ RSok τ (lQ l) (flS l n post h s row S) ∧ ∀ q, q < post → τ.1 5 q = σ.1 5 q := by
  have h1 := lvP hl
  have h3 := lvQ hl
  intro n
  induction n with
  | zero =>
    intro d post h s row S σ hpost hs t hS hr
    obtain ⟨τ, e, k, r, e5⟩ := k_settle (d + 1) h3 (s := s) (by omega) (row := row) hS (fun q hq => hr q (by omega))
    refine ⟨τ, ?_, k, r, fun q _ => by rw [e5]⟩
    rw [c_Ch_fill, tQ t, dle (by omega) (by omega), dT _ (by omega), cT, show d + 0 + 2 = d + 1 + 1 by omega, e, mBV_s]
  | succ n ih =>
    intro d post h s row S σ hpost hs t hS hr
    have hp5 : post < 5 := by omega
    have k0 : kH σ (mUpI σ 5 post (-1)) := kH_s σ (b := 5) (by omega) (by omega) _
    have S0 : RSok (mUpI σ 5 post (-1)) (lQ l) S := by
      unfold RSok
      rw [mUpI_sR, sR_ne _ _ (by decide), sR_ne _ _ (by decide)]
      exact hS
    obtain ⟨τ1, e1, k1, s1, r1⟩ := ih d (post + 1) h s (updO row post none) S (mUpI σ 5 post (-1)) (by omega) (by omega) (tL_sC t (sC_kH k0)) S0 (by
      intro q hq
      rw [mUpI_sR, sR_at]
      by_cases e : q = post
      · rw [e, upd_at, updO_at]; rfl
      · rw [upd_ne _ _ e, show updO row post none q = row q from if_neg e]
        exact hr q (by omega))
    have hrow1 : ∀ q, q < post → τ1.1 5 q = σ.1 5 q := by
      intro q hq
      rw [r1 q (by omega), mUpI_sR, sR_at, upd_ne _ _ (by omega)]
    obtain ⟨⟨v, τ⟩, hs2, hI⟩ := mForI (fun p (_ : Unit) (b : Value × mS) => Xx (d + n + 3) n_Ch_fill 41 [.ref 4, .int (nI post), .int (fr (lP l) h), .int (nI s), .int (nI p), b.1] [] b.2) (fun p b => kH σ b.2 ∧ RSok b.2 (lQ l) (mF (fun p S => match wN l post p with | none => S | some w => bif bt h p then S else flS l n (post + 1) (h ||| (1 <<< (nI p &&& 31))) (s + w + 1) (updO row post (some p)) S) p (flS l n (post + 1) h s (updO row post none) S)) ∧ ∀ q, q < post → b.2.1 5 q = σ.1 5 q) (fun _ a => a) (lP l) () (.null, τ1) ⟨kH_t k0 k1, s1, hrow1⟩ (by
      intro p b hp hI
      obtain ⟨i1, i2, i3⟩ := hI
      have tb := tL_sC t (sC_kH i1)
      have es : ∀ S0 : RS, mF (fun p S => match wN l post p with | none => S | some w => bif bt h p then S else flS l n (post + 1) (h ||| (1 <<< (nI p &&& 31))) (s + w + 1) (updO row post (some p)) S) (p + 1) S0 = (match wN l post p with | none => mF (fun p S => match wN l post p with | none => S | some w => bif bt h p then S else flS l n (post + 1) (h ||| (1 <<< (nI p &&& 31))) (s + w + 1) (updO row post (some p)) S) p S0 | some w => bif bt h p then mF (fun p S => match wN l post p with | none => S | some w => bif bt h p then S else flS l n (post + 1) (h ||| (1 <<< (nI p &&& 31))) (s + w + 1) (updO row post (some p)) S) p S0 else flS l n (post + 1) (h ||| (1 <<< (nI p &&& 31))) (s + w + 1) (updO row post (some p)) (mF (fun p S => match wN l post p with | none => S | some w => bif bt h p then S else flS l n (post + 1) (h ||| (1 <<< (nI p &&& 31))) (s + w + 1) (updO row post (some p)) S) p S0)) := fun S0 => rfl
      rw [es]
      generalize mF _ p (flS l n (post + 1) h s (updO row post none) S) = Sp at i2
      rw [q_Ch_fill_41, tP tb, dle (by omega) (by omega), dF _ (by omega), cF, k_wf _ tb hp (by omega), mBI_s, k_isIn _ _ (by omega), mBI_s, bI_0, fr_bt h1 _ (by omega), decide_eq_true hp, Bool.true_and, Bool.not_not, nI_1]
      cases hw : wN l post p with
      | none =>
        rw [wN_n hw]
        refine ⟨(.int (-1), b.2), ?_, i1, i2, i3⟩
        cases bt h p <;> rfl
      | some w =>
        obtain ⟨w1, w2⟩ := wN_s hl hp hw
        rw [w1]
        cases hb : bt h p with
        | true => exact ⟨(.int (nI w), b.2), rfl, i1, i2, i3⟩
        | false =>
          have kp : kH b.2 (mUpI b.2 5 post (nI p)) := kH_s b.2 (b := 5) (by omega) (by omega) _
          have Sp' : RSok (mUpI b.2 5 post (nI p)) (lQ l) Sp := by
            unfold RSok
            rw [mUpI_sR, sR_ne _ _ (by decide), sR_ne _ _ (by decide)]
            exact i2
          obtain ⟨τ2, e2, k2, s2, r2⟩ := ih d (post + 1) (h ||| (1 <<< (nI p &&& 31))) (s + w + 1) (updO row post (some p)) Sp (mUpI b.2 5 post (nI p)) (by omega) (by omega) (tL_sC tb (sC_kH kp)) Sp' (by
            intro q hq
            rw [mUpI_sR, sR_at]
            by_cases e : q = post
            · rw [e, upd_at, updO_at]; rfl
            · rw [upd_ne _ _ e, show updO row post (some p) q = row q from if_neg e, i3 q (by omega)]
              exact hr q (by omega))
          refine ⟨(.int (nI w), τ2), ?_, kH_t i1 (kH_t kp k2), s2, fun q hq => ?_⟩
          · rw [cF, dF _ (nI_pos (by omega)), cF, mIn_nI hp5 (by decide), cT, nI_clamp (by omega), ← fr_add _ h1 _ (by omega), nI_add, nI_1, nI_1, e2, mBV_s]
          · rw [r2 q (by omega), mUpI_sR, sR_at, upd_ne _ _ (by omega)]
            exact i3 q hq)
    obtain ⟨i1, i2, i3⟩ := hI
    refine ⟨τ, ?_, i1, i2, i3⟩
    rw [show d + (n + 1) + 3 = d + n + 3 + 1 by omega, c_Ch_fill, tQ t, dle (by omega) (by omega), dF _ (by omega), cF, show decide (nI post < 5) = true from decide_eq_true (nI_lt (b := 5) hp5 (by decide)), cT, mIn_nI hp5 (by decide), cT, nI_clamp (by omega), nI_1, e1, mBV_s]
    refine Eq.trans hs2 ?_
    rw [q_Ch_fill_41, tP (tL_sC t (sC_kH i1)), dT _ (Int32.le_refl _), cT]
/-- all rows -/
def rsA (l : Lv) (f : Nat → Int32) : RS := flS l (lQ l) 0 0 0 (fun _ => none) (none, 0, f)
theorem k_search (d : Nat) (t : tL σ l) : ∃ τ, Cc (d + 9) n_Ch_search [.ref 4] σ = some (.null, τ) ∧ kH σ τ ∧ RSok τ (lQ l) (rsA l (σ.1 6)) := by
  have h1 := lvP t.1
  have h3 := lvQ t.1
  have k0 : kH σ (mUpI (mUpI σ 4 4 (-1)) 4 5 0) := kH_t (kH_s σ (b := 4) (by omega) (by omega) _) (kH_s _ (b := 4) (by omega) (by omega) _)
  obtain ⟨τ, e, k, s, -⟩ := k_fill t.1 (lQ l) (d + (5 - lQ l)) 0 0 0 (fun _ => none) (none, 0, σ.1 6) (mUpI (mUpI σ 4 4 (-1)) 4 5 0) (by omega) (by omega) (tL_sC t (sC_kH k0)) ⟨rfl, rfl, fun q _ => rfl, fun i e => by cases e⟩ (fun q hq => by omega)
  refine ⟨τ, ?_, kH_t k0 k, s⟩
  rw [show d + (5 - lQ l) + lQ l + 3 = d + 8 by omega] at e
  rw [c_Ch_search, k_everybody _ _ (show (mUpI (mUpI σ 4 4 (-1)) 4 5 0).1 40 3 = nI (lP l) from tP t), mBI_s, ← fr_0 _ h1]
  show mBV (Cc (d + 8) n_Ch_fill [.ref 4, .int (nI 0), .int (fr (lP l) 0), .int (nI 0), .null, .null] (mUpI (mUpI σ 4 4 (-1)) 4 5 0)) _ = _
  rw [e, mBV_s]
