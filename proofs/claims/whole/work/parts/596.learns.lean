/-! ===== what to learn: both sides ===== -/
variable {σ τ : mS} {l : Lv}
/-- a set that is new and is enough -/
def lnG (l : Lv) (p q s : Nat) : Bool := decide (nI s &&& lSk l p = 0) && decide (win l (vK l p (lSk l p ||| nI s)) q = some p)
def lnC (l : Lv) (p q i : Nat) : Bool := decide (nbK (i % 64) = i / 64) && lnG l p q (i % 64)
def lnS (l : Lv) (p q s : Nat) (b : Option Nat) : Option Nat := if lnG l p q s = true ∧ (∀ j, b = some j → nbK s < nbK j) then some s else b
theorem nbK_6 : ∀ k, k < 64 → nbK k ≤ 6 := by decide +kernel
theorem ln_eq (l : Lv) (p q : Nat) : (mFst (lnC l p q) 448 0).map (· % 64) = mF (lnS l p q) 64 none := by
  have hI := mF_inv (fun k (b : Option Nat) => (b = none → ∀ s, s < k → lnG l p q s = false) ∧ ∀ j, b = some j → j < k ∧ lnG l p q j = true ∧ ∀ s, s < k → lnG l p q s = true → nbK j < nbK s ∨ (nbK j = nbK s ∧ j ≤ s)) (lnS l p q) 64 none ⟨fun _ s h => by omega, fun j h => by cases h⟩ (by
    intro k b hk hb
    unfold lnS
    by_cases c : lnG l p q k = true ∧ (∀ j, b = some j → nbK k < nbK j)
    · rw [if_pos c]
      refine ⟨(fun e => by cases e), fun j e => ?_⟩
      cases e
      refine ⟨Nat.lt_succ_self _, c.1, fun s hs hG => ?_⟩
      by_cases e : s = k
      · subst e; exact Or.inr ⟨rfl, Nat.le_refl _⟩
      · cases b with
        | none => rw [hb.1 rfl s (by omega)] at hG; cases hG
        | some j =>
          have h1 := c.2 j rfl
          have h2 := (hb.2 j rfl).2.2 s (by omega) hG
          omega
    · rw [if_neg c]
      refine ⟨fun e s hs => ?_, fun j e => ?_⟩
      · by_cases e2 : s = k
        · subst e2
          cases hG : lnG l p q s with
          | false => rfl
          | true => exact absurd ⟨hG, fun j ej => by rw [e] at ej; cases ej⟩ c
        · exact hb.1 e s (by omega)
      · obtain ⟨a1, a2, a3⟩ := hb.2 j e
        refine ⟨by omega, a2, fun s hs hG => ?_⟩
        by_cases e2 : s = k
        · subst e2
          have : ¬ nbK s < nbK j := fun x => c ⟨hG, fun j' ej => by rw [e] at ej; cases ej; exact x⟩
          omega
        · exact a3 s (by omega) hG) 64 (Nat.le_refl _)
  generalize mF (lnS l p q) 64 none = b at hI
  obtain ⟨i1, i2⟩ := hI
  cases hm : mFst (lnC l p q) 448 0 with
  | none =>
    cases b with
    | none => rfl
    | some j =>
      obtain ⟨a1, a2, -⟩ := i2 j rfl
      have h6 := nbK_6 j a1
      have := mFst_none _ _ _ hm (64 * nbK j + j) (by omega) (by omega)
      unfold lnC at this
      rw [show (64 * nbK j + j) % 64 = j by omega, show (64 * nbK j + j) / 64 = nbK j by omega, a2, decide_eq_true rfl] at this
      cases this
  | some i =>
    obtain ⟨a1, a2, a3, a4⟩ := mFst_some _ _ _ _ hm
    unfold lnC at a3
    rw [Bool.and_eq_true, decide_eq_true_eq] at a3
    cases b with
    | none => rw [i1 rfl (i % 64) (by omega)] at a3; cases a3.2
    | some j =>
      obtain ⟨b1, b2, b3⟩ := i2 j rfl
      have h6 := nbK_6 j b1
      have h7 := b3 (i % 64) (by omega) a3.2
      have h8 : ¬ 64 * nbK j + j < i := by
        intro x
        have := a4 (64 * nbK j + j) (by omega) x
        unfold lnC at this
        rw [show (64 * nbK j + j) % 64 = j by omega, show (64 * nbK j + j) / 64 = nbK j by omega, b2, decide_eq_true rfl] at this
        cases this
      show some (i % 64) = some j
      congr 1
      omega
theorem k_learns37 (d : Nat) {p q : Nat} (hp : p < lP l) (hq : q < lQ l) (hl : lvOK l) : ∀ (m i : Nat) (x : Int32) (v5 : Value) (σ : mS), i + m = 448 → 0 < m → tL σ l → cR σ 30 l (vK l p x) → ∃ τ, Xx (d + 5) n_E_learns 37 [.ref 0, .int (nI p), .int (nI q), .int (nI (i / 64)), .int (nI (i % 64)), v5] [] σ = some (.int (oI ((mFst (lnC l p q) m i).map (· % 64))), τ) ∧ kO 30 σ τ ∧ tL τ l := by
  have h1 := lvP hl
  intro m
  induction m with
  | zero => intro i x v5 σ _ h; omega
  | succ m ih =>
    intro i x v5 σ hi _ t c
    have hbw : bw 0 (nI (i % 64)) 63 := ⟨by rw [nI_toInt (by omega)]; omega, by rw [nI_toInt (by omega)]; omega⟩
    have h41 : σ.1 41 p = lSk l p := t.2.1.2.1 p hp
    -- going on
    have nx : ∀ (x : Int32) (v5 : Value) (σ' : mS), tL σ' l → kO 30 σ σ' → cR σ' 30 l (vK l p x) → lnC l p q i = false → ∃ τ, Xx (d + 5) n_E_learns 37 [.ref 0, .int (nI p), .int (nI q), .int (nI (i / 64)), .int (nI (i % 64) + 1), v5] [] σ' = some (.int (oI ((mFst (lnC l p q) (m + 1) i).map (· % 64))), τ) ∧ kO 30 σ τ ∧ tL τ l := by
      intro x v5 σ' t' k' c' hc
      have em : mFst (lnC l p q) (m + 1) i = mFst (lnC l p q) m (i + 1) := by
        show (bif lnC l p q i then some i else mFst (lnC l p q) m (i + 1)) = _
        rw [hc, cF]
      rw [em, nI_1]
      rcases Nat.lt_or_ge (i % 64 + 1) 64 with g | g
      · have ih' := ih (i + 1) x v5 σ' (by omega) (by omega) t' c'
        rw [show (i + 1) / 64 = i / 64 by omega, show (i + 1) % 64 = i % 64 + 1 by omega] at ih'
        obtain ⟨τ, e, k2, t2⟩ := ih'
        exact ⟨τ, e, kO_t k' k2, t2⟩
      · rw [show i % 64 + 1 = 64 by omega, q_E_learns_37, show decide ((64 : Int32) ≤ nI 64) = true by decide, cT, q_E_learns_28, nI_1, show (6 : Int32) = nI 6 from rfl, dlt (by omega) (by omega)]
        rcases Nat.eq_zero_or_pos m with z | z
        · subst z
          rw [dT _ (by omega), cT]
          exact ⟨σ', rfl, k', t'⟩
        · rw [dF _ (by omega), cF]
          have ih' := ih (i + 1) x v5 σ' (by omega) z t' c'
          rw [show (i + 1) / 64 = i / 64 + 1 by omega, show (i + 1) % 64 = 0 by omega] at ih'
          obtain ⟨τ, e, k2, t2⟩ := ih'
          exact ⟨τ, e, kO_t k' k2, t2⟩
    rw [q_E_learns_37, show decide ((64 : Int32) ≤ nI (i % 64)) = false from decide_eq_false (nI_ge (b := 64) (by omega) (by decide)), cF, mIn_nI (by omega) (by omega), cT, nI_clamp (by omega), h41, k_bitCount _ _ hbw, mBI_s, nb_K _ (by omega), dne (by have := nbK_6 (i % 64) (by omega); omega) (by omega), show decide ((0 : Int32) = 0) = true by decide, show decide ((1 : Int32) = 0) = false by decide, cT, cF]
    by_cases g1 : nI (i % 64) &&& lSk l p = 0
    · rw [dF _ (fun x => x g1), cF]
      by_cases g2 : nbK (i % 64) = i / 64
      · rw [dF _ (fun x => x g2), cF]
        obtain ⟨τ, e, k, t', c'⟩ := k_getsWith d t hp hq c (nI (i % 64))
        rw [e, mBI_s, bI_0]
        cases hw : decide (win l (vK l p (lSk l p ||| nI (i % 64))) q = some p) with
        | true =>
          rw [Bool.not_true, cF]
          refine ⟨τ, ?_, k, t'⟩
          have : mFst (lnC l p q) (m + 1) i = some i := by
            show (bif lnC l p q i then some i else mFst (lnC l p q) m (i + 1)) = _
            unfold lnC lnG
            rw [dT _ g2, dT _ g1, hw]
            rfl
          rw [this]
          rfl
        | false =>
          rw [Bool.not_false, cT]
          exact nx _ _ τ t' k c' (by unfold lnC lnG; rw [hw, Bool.and_false, Bool.and_false])
      · rw [dT _ g2, cT]
        exact nx _ _ σ t (kO_r _ _) c (by unfold lnC; rw [dF _ g2, Bool.false_and])
    · rw [dT _ g1, cT]
      exact nx _ _ σ t (kO_r _ _) c (by unfold lnC lnG; rw [dF _ g1, Bool.false_and, Bool.and_false])
theorem r_skill (d : Nat) (hl : lvOK l) {p : Nat} (hp : p < lP l) {x : Int32} {m : Nat} (a : rA τ l (vK l p x) m) (y : Int32) : ∃ τ', Cc (d + 7) n_M_givePosts [.ref 200, .null, .null, .null] (mUpI τ 215 p y) = some (.null, τ') ∧ sM τ τ' ∧ rA τ' l (vK l p y) m := by
  have hsk : ∀ j, j < lP l → (mUpI τ 215 p y).1 215 j = vSk (vK l p y) j := by
    intro j hj
    rw [mUpI_sR, sR_at]
    show upd (τ.1 215) p y j = upd (lSk l) p y j
    by_cases e : j = p
    · rw [e, upd_at, upd_at]
    · rw [upd_ne _ _ e, upd_ne _ _ e]
      have : τ.1 215 j = upd (lSk l) p x j := a.2.1.2.2 j hj
      rw [this, upd_ne _ _ e]
  have v1 : rV (mUpI τ 215 p y) l (vK l p y) m := by
    obtain ⟨h1, h2, h3, h4, h5, fa, fb, fn, h6, h7⟩ := a.1
    refine ⟨?_, ?_, ?_, ?_, hsk, fa, fb, fn, ?_, h7⟩
    · rw [mUpI_sR, sR_ne _ _ (by decide)]; exact h1
    · rw [mUpI_sR, sR_ne _ _ (by decide)]; exact h2
    · rw [mUpI_sR, sR_ne _ _ (by decide)]; exact h3
    · rw [mUpI_sR, sR_ne _ _ (by decide)]; exact h4
    · unfold mrOK at h6 ⊢
      rw [mUpI_sR, sR_ne _ _ (by decide), sR_ne _ _ (by decide), sR_ne _ _ (by decide), sR_ne _ _ (by decide)]
      exact h6
  have f1 : rF1 (mUpI τ 215 p y) l (vK l p y) := by
    refine ⟨v1.1, ?_, hsk⟩
    rw [mUpI_sR, sR_ne _ _ (by decide)]
    exact a.2.1.2.1
  obtain ⟨τ', e, s, a'⟩ := r_givePosts2 d hl (vK_ok hl p y) v1 f1
  refine ⟨τ', e, sM_t ?_ s, a'⟩
  rw [mUpI_sR]
  exact sM_s _ (by omega) (by omega) _
theorem lnS_lt (p q n : Nat) : ∀ j, mF (lnS l p q) n none = some j → j < n := fun j hj => mF_inv (fun k (b : Option Nat) => ∀ j, b = some j → j < k) (lnS l p q) n none (fun j h => by cases h) (fun k b _ hb j hj => by
  unfold lnS at hj
  split at hj
  · cases hj; exact Nat.lt_succ_self _
  · have := hb j hj; omega) n (Nat.le_refl n) j hj
theorem r_learns (d : Nat) (hl : lvOK l) (a : rA τ l (vS l) 0) {p q : Nat} (hp : p < lP l) (hq : q < lQ l) : ∃ τ', Xx (d + 7) n_M_learns 36 [.ref 200, .int (nI p), .int (nI q), .int (-1), .int (lSk l p), .int 0] [] τ = some (.int (oI (mF (lnS l p q) 64 none)), τ') ∧ sM τ τ' := by
  have h1 := lvP hl
  have h3 := lvQ hl
  obtain ⟨τ', hs, hI⟩ := mForI (fun k (b : Option Nat) (s : mS) => Xx (d + 7) n_M_learns 36 [.ref 200, .int (nI p), .int (nI q), .int (oI b), .int (lSk l p), .int (nI k)] [] s) (fun _ s => sM τ s ∧ ∃ x, rA s l (vK l p x) 0) (lnS l p q) 64 none τ ⟨sM_r τ, lSk l p, by rw [vK_self]; exact a⟩ (by
    intro k s hk hI
    have hb := lnS_lt (l := l) p q k
    generalize mF _ k (none : Option Nat) = b at hb
    obtain ⟨i1, x, i2⟩ := hI
    obtain ⟨τ2, e2, s2, a2⟩ := r_skill d hl hp i2 (lSk l p ||| nI k)
    have hkn := nbK_6 k hk
    have tail : ∀ b : Option Nat, (bif mIn (nI p) 6 then (mBV (Cc (d + 7) n_M_givePosts [.ref 200, .null, .null, .null] (mUpI s 215 (nI p).toNatClampNeg (lSk l p ||| nI k))) fun τ1 => (bif mIn (nI q) 5 then (bif decide (¬ τ1.1 225 (nI q).toNatClampNeg = nI p) then Xx (d + 7) n_M_learns 36 [.ref 200, .int (nI p), .int (nI q), .int (oI b), .int (lSk l p), .int (nI (k + 1))] [] τ1 else Xx (d + 7) n_M_learns 36 [.ref 200, .int (nI p), .int (nI q), .int (nI k), .int (lSk l p), .int (nI (k + 1))] [] τ1) else none)) else none) = Xx (d + 7) n_M_learns 36 [.ref 200, .int (nI p), .int (nI q), .int (oI (bif decide (win l (vK l p (lSk l p ||| nI k)) q = some p) then some k else b)), .int (lSk l p), .int (nI (k + 1))] [] τ2 := by
      intro b
      rw [mIn_nI (by omega) (by omega), cT, nI_clamp (by omega), e2, mBV_s, mIn_nI (by omega) (by omega), cT, nI_clamp (by omega), a2.2.2.1 q (by omega), oI_eq2 (by omega) (win_big hl q)]
      cases decide (win l (vK l p (lSk l p ||| nI k)) q = some p) <;> rfl
    rw [q_M_learns_36, show decide ((64 : Int32) ≤ nI k) = false from decide_eq_false (nI_ge (b := 64) hk (by decide)), cF, nI_1]
    unfold lnS lnG
    by_cases g1 : nI k &&& lSk l p = 0
    · rw [dF _ (fun x => x g1), cF, dT _ g1, Bool.true_and]
      cases b with
      | none =>
        refine ⟨τ2, ?_, sM_t i1 s2, _, a2⟩
        rw [oI_n, m1e, cT]
        refine Eq.trans (tail none) ?_
        cases hw : decide (win l (vK l p (lSk l p ||| nI k)) q = some p) with
        | true => rw [if_pos ⟨rfl, fun j e => by cases e⟩]; rfl
        | false => rw [if_neg (fun x => by cases x.1)]; rfl
      | some j =>
        have hj := hb j rfl
        have hjn := nbK_6 j (by omega)
        rw [oI_s, nI_m1e (by omega), cF, r_bits, mBI_s, r_bits, mBI_s, nb_K k hk, nb_K j (by omega), dlt (by omega) (by omega)]
        by_cases g2 : nbK k < nbK j
        · rw [dT _ g2, cT]
          refine ⟨τ2, Eq.trans (tail (some j)) ?_, sM_t i1 s2, _, a2⟩
          cases hw : decide (win l (vK l p (lSk l p ||| nI k)) q = some p) with
          | true => rw [if_pos ⟨rfl, fun j' e => by cases e; exact g2⟩]; rfl
          | false => rw [if_neg (fun x => by cases x.1)]; rfl
        · rw [dF _ g2, cF, if_neg (fun x => g2 (x.2 j rfl))]
          exact ⟨s, rfl, i1, x, i2⟩
    · rw [dT _ g1, cT, dF _ g1, Bool.false_and, if_neg (fun x => by cases x.1)]
      exact ⟨s, rfl, i1, x, i2⟩)
  refine ⟨τ', Eq.trans hs ?_, hI.1⟩
  rw [q_M_learns_36, show decide ((64 : Int32) ≤ nI 64) = true by decide, cT]
theorem t_learns (D : Nat) (t : tL σ l) (x y : Int32) : qryT (D + 12) n_E_learns n_M_learns [.ref 0, .int x, .int y, .null, .null, .null] [.ref 200, .int x, .int y, .null, .null, .null] σ := by
  have h1 := lvP t.1
  have h3 := lvQ t.1
  unfold qryT
  rw [c_E_learns, k_isFor _ x y σ (tP t) (by omega) (tQ t) (by omega), mBI_s, bI_n]
  cases hx : mIn x (lP l) with
  | false =>
    obtain ⟨τ, e, s, a⟩ := r_asksPerson (D + 1) x t.1 t.2.2.2
    refine ⟨-2, σ, τ, by simp, sC_r σ, ?_, s⟩
    rw [c_M_learns, e, mBI_s, hx, bI_0]
    rfl
  | true =>
    cases hy : mIn y (lQ l) with
    | false =>
      obtain ⟨τ, e, s, a⟩ := r_asksPerson (D + 1) x t.1 t.2.2.2
      refine ⟨-2, σ, τ, by simp, sC_r σ, ?_, s⟩
      rw [c_M_learns, e, mBI_s, hx, bI_0, bnot_t, cF, r_isPost _ y τ (lM_Q a.1.1) (by omega), mBI_s, hy, bI_n]
      rfl
    | true =>
      obtain ⟨p, hp, rfl⟩ := mIn_of hx
      obtain ⟨q, hq, rfl⟩ := mIn_of hy
      obtain ⟨τ1, e1, o1, t1, v1⟩ := k_resetT (D + 9) t
      obtain ⟨τ2, e2, o2, t2, c2⟩ := k_runT (D + 6) t1 (vS_ok t.1) v1
      obtain ⟨σ3, e3, o3, t3⟩ := k_learns37 (D + 6) hp hq t.1 448 0 (lSk l p) .null τ2 (by omega) (by omega) t2 (by rw [vK_self]; exact c2)
      obtain ⟨τ, e, s, a⟩ := r_asksPerson (D + 1) (nI p) t.1 t3.2.2.2
      obtain ⟨τ4, e4, s4⟩ := r_learns (D + 4) t.1 a hp hq
      refine ⟨oI (mF (lnS l p q) 64 none), σ3, τ4, ?_, sC_k (kO_t o1 (kO_t o2 o3)), ?_, sM_t s s4⟩
      · rw [Bool.and_true, cT, e1, mBV_s, e2, mBV_s, q_E_learns_28, show decide ((6 : Int32) < 0) = false by decide, cF, ← ln_eq]
        exact e3
      · rw [c_M_learns, e, mBI_s, hx, bI_0, bnot_t, cF, r_isPost _ _ τ (lM_Q a.1.1) (by omega), mBI_s, hy, bI_n, cT, show (9 : Int32) = nI 9 from rfl, nI_add, mIn_nI (by omega) (by omega), cT, nI_clamp (by omega), a.1.1.2.1 p hp]
        exact e4
