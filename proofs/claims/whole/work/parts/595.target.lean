/-! ===== whom to wrong: the reference ===== -/
variable {σ τ : mS} {l : Lv}
def farM (s : Option Nat × Nat) : Nat := match s.1 with
  | none => 1000000000
  | some _ => s.2
theorem r_target (d : Nat) (hl : lvOK l) (hM : lM (τ.1 201) l) {p q : Nat} (hp : p < lP l) (hq : q < lQ l) : ∃ τ', Xx (d + 9) n_M_target 31 [.ref 200, .int (nI p), .int (nI q), .int (-1), .int 1000000000, .int 0, .null] [] τ = some (.int (oI (mF (tgS l p q) (lP l) (none, 121)).1), τ') ∧ sM τ τ' := by
  have h1 := lvP hl
  obtain ⟨⟨v, τ'⟩, hs, hI⟩ := mForI (fun k (s : Option Nat × Nat) (b : Value × mS) => Xx (d + 9) n_M_target 31 [.ref 200, .int (nI p), .int (nI q), .int (oI s.1), .int (nI (farM s)), .int (nI k), b.1] [] b.2) (fun _ b => lM (b.2.1 201) l ∧ sM τ b.2) (tgS l p q) (lP l) (none, 121) (.null, τ) ⟨hM, sM_r τ⟩ (by
    intro k b hk hI
    have hi := tgS_inv (l := l) p q k
    generalize mF _ k ((none : Option Nat), 121) = s at hi
    have hfar : farM s ≤ 1000000000 := by
      unfold farM
      cases s.1 with
      | none => exact Nat.le_refl _
      | some i => have := hi.1; dsimp only; omega
    rw [q_M_target_31, r_persons, mBI_s, lM_P hI.1, dle (by omega) (by omega), dF _ (by omega), cF, dne (by omega) (by omega), nI_1]
    unfold tgS
    by_cases g : k = p
    · rw [dF _ (fun x => x g), cF, if_pos g, show (1000000000 : Int32) = nI 1000000000 from rfl, dlt (by omega) (by omega), dF _ (by omega), cF]
      exact ⟨(.int (nI 1000000000), b.2), rfl, hI.1, hI.2⟩
    · rw [dT _ g, cT, if_neg g]
      obtain ⟨τ2, e2, s2⟩ := r_leastOf d hl hp hk hq (fun e => g e.symm) hI.1
      rw [e2, mBI_s]
      refine ⟨(.int (farI (mFst (lsP l p k q) 121 0)), τ2), ?_, sM_lM s2 hI.1, sM_t hI.2 s2⟩
      rw [mFst_lim (lsP l p k q) hi.1]
      cases hm : mFst (lsP l p k q) 121 0 with
      | none =>
        rw [show farI none = nI 1000000000 from rfl, dlt (by omega) (by omega), dF _ (by omega), cF]
      | some n =>
        have hn := far_lt hm
        rw [show farI (some n) = nI n from rfl, dlt (by omega) (by omega)]
        dsimp only
        by_cases c : n < s.2
        · rw [if_pos c]
          have : n < farM s := by
            unfold farM
            cases s.1 with
            | none => dsimp only; omega
            | some i => exact c
          rw [dT _ this, cT]
          rfl
        · rw [if_neg c]
          have : ¬ n < farM s := by
            unfold farM
            cases hs1 : s.1 with
            | none => have := hi.2 hs1; omega
            | some i => exact c
          rw [dF _ this, cF])
  refine ⟨τ', Eq.trans hs ?_, hI.2⟩
  rw [q_M_target_31, r_persons, mBI_s, lM_P hI.1, dT _ (Int32.le_refl _), cT]
theorem t_target (D : Nat) (t : tL σ l) (x y : Int32) : qryT (D + 12) n_E_target n_M_target [.ref 0, .int x, .int y, .null, .null, .null, .null] [.ref 200, .int x, .int y, .null, .null, .null, .null] σ := by
  have h1 := lvP t.1
  have h3 := lvQ t.1
  unfold qryT
  rw [c_E_target, k_isFor _ x y σ (tP t) (by omega) (tQ t) (by omega), mBI_s, bI_n]
  have hM0 : ∀ τ : mS, lM (τ.1 201) l → Cc (D + 12) n_M_target [.ref 200, .int x, .int y, .null, .null, .null, .null] τ = (bif mIn x (lP l) && mIn y (lQ l) then Xx (D + 11) n_M_target 31 [.ref 200, .int x, .int y, .int (-1), .int 1000000000, .int 0, .null] [] τ else some (.int (-2), τ)) := by
    intro τ hM
    rw [c_M_target, r_isPerson _ x τ (lM_P hM) (by omega), mBI_s, bI_0, r_isPost _ y τ (lM_Q hM) (by omega), mBI_s, bI_n]
    cases mIn x (lP l) <;> cases mIn y (lQ l) <;> rfl
  cases hg : (mIn x (lP l) && mIn y (lQ l)) with
  | false => exact ⟨-2, σ, σ, rfl, sC_r σ, by rw [hM0 σ t.2.2.2, hg]; rfl, sM_r σ⟩
  | true =>
    have hg' := hg
    rw [Bool.and_eq_true] at hg
    obtain ⟨p, hp, rfl⟩ := mIn_of hg.1
    obtain ⟨q, hq, rfl⟩ := mIn_of hg.2
    obtain ⟨σ1, e1, s1⟩ := k_target (D + 5) t hp hq
    have t1 := tL_sC t s1
    obtain ⟨τ, e2, s2⟩ := r_target (D + 2) t.1 t1.2.2.2 hp hq
    refine ⟨oI (mF (tgS l p q) (lP l) (none, 121)).1, σ1, τ, ?_, s1, ?_, s2⟩
    · rw [cT, e1]
    · rw [hM0 σ1 t1.2.2.2, hg', cT, e2]
/-! ===== what to learn ===== -/
def vK (l : Lv) (p : Nat) (x : Int32) : Va := (lLaw l, 0, none, fun _ => 0, upd (lSk l) p x)
theorem vK_ok (hl : lvOK l) (p : Nat) (x : Int32) : vaOK (vK l p x) := by
  refine ⟨lvLaw hl, (fun i h => by cases h), fun c => ?_, fun i hi => rfl⟩
  show bw 0 0 1000
  exact ⟨by decide, by decide⟩
theorem wd_vK {p p' : Nat} (h : p' ≠ p) (x x' : Int32) (q : Nat) : wd l (vK l p x) q p' = wd l (vK l p x') q p' := wd_eq (by
  show upd (lSk l) p x p' = upd (lSk l) p x' p'
  rw [upd_ne _ _ h, upd_ne _ _ h]) (fun k _ => rfl)
theorem vK_self (p : Nat) : vK l p (lSk l p) = vS l := by
  unfold vK vS
  rw [show upd (lSk l) p (lSk l p) = lSk l from funext fun j => by unfold upd; split <;> simp_all]
/-- skills set anew on a trial that has run: words of one, posts -/
theorem k_skill (d : Nat) (t : tL σ l) {p : Nat} (hp : p < lP l) {x : Int32} (c : cR σ 30 l (vK l p x)) (y : Int32) (K : mS → mR) : ∃ τ, (mBV (Cc (d + 4) n_Co_weigh [.ref 30, .int (nI p), .null, .null] (mUpI σ 32 p y)) fun τ1 => (mBV (Cc (d + 4) n_Co_givePosts [.ref 30, .null, .null, .null, .null] τ1) K)) = K τ ∧ kO 30 σ τ ∧ tL τ l ∧ cR τ 30 l (vK l p y) := by
  have k1 : kO 30 σ (mUpI σ 32 p y) := kO_u σ (by omega) (by omega) _ _
  have v1 : cV (mUpI σ 32 p y) 30 l (vK l p y) := by
    obtain ⟨a1, a2, a3, a4, a5⟩ := c.1
    rw [mUpI_sR]
    refine ⟨?_, ?_, ?_, ?_, fun j hj => ?_⟩
    · rw [sR_ne _ _ (by decide)]; exact a1
    · rw [sR_ne _ _ (by decide)]; exact a2
    · rw [sR_ne _ _ (by decide)]; exact a3
    · rw [sR_ne _ _ (by decide)]; exact a4
    · rw [sR_at]
      show upd (σ.1 32) p y j = upd (lSk l) p y j
      by_cases e : j = p
      · rw [e, upd_at, upd_at]
      · rw [upd_ne _ _ e, upd_ne _ _ e]
        have : σ.1 32 j = upd (lSk l) p x j := a5 j hj
        rw [this, upd_ne _ _ e]
  have f1 : cF0 (mUpI σ 32 p y) 30 l (vK l p y) := by
    unfold cF0
    rw [mUpI_sR, sR_ne _ _ (by decide)]
    exact c.2.1
  have w1 : ∀ q, q < lQ l → ∀ p', p' < lP l → p' ≠ p → (mUpI σ 32 p y).1 (30 + 4) (6 * q + p') = wd l (vK l p y) q p' := by
    intro q hq p' hp' hne
    rw [mUpI_sR, sR_ne _ _ (by decide), c.2.2.1 q hq p' hp']
    exact wd_vK hne _ _ q
  have t1 := tL_sC t (sC_k k1)
  obtain ⟨τ2, e2, k2, v2, f2, w2⟩ := k_weigh2 d 30 (Or.inr rfl) t.1 hp t1.2.1 v1 f1 w1
  have t2 := tL_sC t1 (sC_k k2)
  obtain ⟨τ3, e3, k3, c3⟩ := k_give2 (d + 1) 30 (Or.inr rfl) t.1 t2.2.1 v2 f2 w2
  refine ⟨τ3, ?_, kO_t k1 (kO_t k2 k3), tL_sC t2 (sC_k k3), c3⟩
  rw [e2, mBV_s, e3, mBV_s]
theorem k_getsWith (d : Nat) (t : tL σ l) {p q : Nat} (hp : p < lP l) (hq : q < lQ l) {x : Int32} (c : cR σ 30 l (vK l p x)) (s : Int32) : ∃ τ, Cc (d + 5) n_E_getsWith [.ref 0, .int (nI p), .int (nI q), .int s] σ = some (.int (bI (decide (win l (vK l p (lSk l p ||| s)) q = some p))), τ) ∧ kO 30 σ τ ∧ tL τ l ∧ cR τ 30 l (vK l p (lSk l p ||| s)) := by
  have h1 := lvP t.1
  have h3 := lvQ t.1
  obtain ⟨τ, e, k, t', c'⟩ := k_skill d t hp c (lSk l p ||| s) (fun τ2 => (bif mIn (nI q) 5 then (bif decide (¬ τ2.1 35 (nI q).toNatClampNeg = nI p) then (some (.int 0, τ2)) else (some (.int 1, τ2))) else none))
  refine ⟨τ, ?_, k, t', c'⟩
  rw [c_E_getsWith, mIn_nI (by omega) (by omega), cT, cT, nI_clamp (by omega), show σ.1 41 p = lSk l p from t.2.1.2.1 p hp]
  refine Eq.trans e ?_
  rw [mIn_nI (by omega) (by omega), cT, nI_clamp (by omega), show τ.1 35 q = oI (win l (vK l p (lSk l p ||| s)) q) from c'.2.2.2 q (by omega), oI_eq2 (by omega) (win_big t.1 q)]
  cases decide (win l (vK l p (lSk l p ||| s)) q = some p) <;> rfl
