/-! ===== the game ===== -/
variable {σ τ : mS} {l : Lv}
theorem cV_ex {o : Nat} (ho : o = 20 ∨ o = 30) {v : Va} (h : cV σ o l v) {j : Nat} (x : Int32) : cV (mUpI σ (o + 1) j x) o l (v.1, v.2.1, v.2.2.1, upd (vEx v) j x, v.2.2.2.2) := by
  obtain ⟨a1, a2, a3, a4, a5⟩ := h
  rw [mUpI_sR]
  refine ⟨?_, ?_, ?_, fun c hc => ?_, ?_⟩
  · rw [sR_ne _ _ (by omega)]; exact a1
  · rw [sR_ne _ _ (by omega)]; exact a2
  · rw [sR_ne _ _ (by omega)]; exact a3
  · rw [sR_at]
    show upd (σ.1 (o + 1)) j x c = upd (vEx v) j x c
    unfold upd
    rw [a4 c hc]
  · rw [sR_ne _ _ (by omega)]; exact a5
set_option maxHeartbeats 1000000 in
theorem r_wrongMore (d : Nat) {v : Va} {m : Nat} (hm : m < 2) (h : rV τ l v m) {a b : Nat} (ha : a < 6) (hb : b < 6) (hab : a ≠ b) {n : Int32} (hn : bw 1 n 1000) (h0 : vEx v (6 * b + a) = 0) : ∃ τ', Cc (d + 1) n_M_wrongMore [.ref 200, .int (nI a), .int (nI b), .int n] τ = some (.null, τ') ∧ sM τ τ' ∧ rV τ' l (v.1, v.2.1, v.2.2.1, upd (vEx v) (6 * b + a) n, v.2.2.2.2) (m + 1) := by
  obtain ⟨h1, h2, h3, h4, h5, fa, fb, fn, h6, h7⟩ := h
  obtain ⟨g1, g2, g3⟩ := h6
  have nz : ¬ n = 0 := fun e => by rw [e] at hn; exact absurd hn.1 (by decide)
  rw [c_M_wrongMore, dF _ nz, cF, dne (by omega) (by omega), dT _ hab, cT]
  simp only [mUpI_sR, sR_ne _ _ (show 200 ≠ 216 by decide), sR_ne _ _ (show 200 ≠ 217 by decide), sR_ne _ _ (show 200 ≠ 218 by decide), sR_ne _ _ (show 217 ≠ 216 by decide), sR_ne _ _ (show 218 ≠ 216 by decide), sR_ne _ _ (show 218 ≠ 217 by decide), g2, mIn_nI hm (show 2 < 2 ^ 31 by decide), cT, nI_clamp (show m < 2 ^ 31 by omega)]
  refine ⟨_, rfl, ?_, ?_⟩
  · refine ⟨fun a ha => by rw [sR_ne _ _ (by omega), sR_ne _ _ (by omega), sR_ne _ _ (by omega), sR_ne _ _ (by omega)], fun k hk => ?_, fun _ _ => rfl⟩
    rw [sR_at, upd_ne _ _ (by omega)]
  · refine ⟨?_, ?_, ?_, ?_, ?_, fun i => if i = m then a else fa i, fun i => if i = m then b else fb i, fun i => if i = m then n else fn i, ⟨by omega, ?_, fun i hi => ?_⟩, fun N c hc hN => ?_⟩
    · rw [sR_ne _ _ (by decide), sR_ne _ _ (by decide), sR_ne _ _ (by decide), sR_ne _ _ (by decide)]; exact h1
    · rw [sR_at, upd_ne _ _ (by decide)]; exact h2
    · rw [sR_at, upd_ne _ _ (by decide)]; exact h3
    · rw [sR_at, upd_ne _ _ (by decide)]; exact h4
    · rw [sR_ne _ _ (by decide), sR_ne _ _ (by decide), sR_ne _ _ (by decide), sR_ne _ _ (by decide)]; exact h5
    · rw [sR_at, upd_at]; exact nI_1 m
    · rw [sR_ne _ _ (by decide), sR_ne _ _ (by decide), sR_ne _ _ (by decide), sR_at, sR_ne _ _ (by decide), sR_ne _ _ (by decide), sR_at, sR_ne _ _ (by decide), sR_at]
      by_cases e : i = m
      · subst e
        rw [upd_at, upd_at, upd_at]
        simp only [if_true]
        exact ⟨trivial, trivial, trivial, ha, hb⟩
      · have := g3 i (by omega)
        rw [upd_ne _ _ e, upd_ne _ _ e, upd_ne _ _ e]
        simp only [if_neg e]
        exact this
    · have e1 : mrS (m + 1) (fun i => if i = m then a else fa i) (fun i => if i = m then b else fb i) (fun i => if i = m then n else fn i) N = upd (mrS m fa fb fn N) (6 * b + a) (vMx (mrS m fa fb fn N (6 * b + a) - n) (-60)) := by
        unfold mrS
        have e2 : mF (fun i N => upd N (6 * (if i = m then b else fb i) + (if i = m then a else fa i)) (vMx (N (6 * (if i = m then b else fb i) + (if i = m then a else fa i)) - (if i = m then n else fn i)) (-60))) m N = mF (fun i N => upd N (6 * fb i + fa i) (vMx (N (6 * fb i + fa i) - fn i) (-60))) m N := mF_congr _ _ m N (fun k hk => by simp only [if_neg (show ¬ k = m by omega)])
        show upd (mF _ m N) _ _ = _
        rw [e2]
        simp only [if_true]
      rw [e1]
      show upd _ (6 * b + a) _ c = vMx (N c - upd (vEx v) (6 * b + a) n c) (-60)
      by_cases e : c = 6 * b + a
      · subst e
        rw [upd_at, upd_at, h7 N _ hc hN, h0, vMx_id hN]
      · rw [upd_ne _ _ e, upd_ne _ _ e]
        exact h7 N c hc hN
/-- what is done more, by the choices of two -/
def exG (l : Lv) (p r : Nat) (x y : Bool) : Nat → Int32 := bif y && !(decide (r = lP l - 1)) then upd (bif x && !(decide (p = lP l - 1)) then upd (fun _ => 0) (6 * (lP l - 1) + p) 10 else fun _ => 0) (6 * (lP l - 1) + r) 10 else (bif x && !(decide (p = lP l - 1)) then upd (fun _ => 0) (6 * (lP l - 1) + p) 10 else fun _ => 0)
def vG (l : Lv) (p r : Nat) (x y : Bool) : Va := (lLaw l, 0, none, exG l p r x y, lSk l)
theorem vG_ok (hl : lvOK l) {p r : Nat} (hp : p < lP l) (hr : r < lP l) (x y : Bool) : vaOK (vG l p r x y) := by
  have h1 := lvP hl
  have z : bw 0 0 1000 := ⟨by decide, by decide⟩
  have ten : bw 0 10 1000 := ⟨by decide, by decide⟩
  refine ⟨lvLaw hl, (fun i h => by cases h), fun c => ?_, fun i hi => ?_⟩
  · show bw 0 (exG l p r x y c) 1000
    unfold exG
    cases (y && !(decide (r = lP l - 1))) <;> cases (x && !(decide (p = lP l - 1))) <;> simp only [cond_true, cond_false] <;> (try unfold upd) <;> (repeat' split) <;> first | exact z | exact ten
  · show exG l p r x y (7 * i) = 0
    unfold exG
    cases hy : (y && !(decide (r = lP l - 1))) with
    | false =>
      rw [cF]
      cases hx : (x && !(decide (p = lP l - 1))) with
      | false => rfl
      | true =>
        simp only [Bool.and_eq_true, Bool.not_eq_true', decide_eq_false_iff_not] at hx
        rw [cT, upd_ne _ _ (by omega)]
    | true =>
      simp only [Bool.and_eq_true, Bool.not_eq_true', decide_eq_false_iff_not] at hy
      rw [cT, upd_ne _ _ (by omega)]
      cases hx : (x && !(decide (p = lP l - 1))) with
      | false => rfl
      | true =>
        simp only [Bool.and_eq_true, Bool.not_eq_true', decide_eq_false_iff_not] at hx
        rw [cT, upd_ne _ _ (by omega)]
def hsG (l : Lv) (p r : Nat) (x y : Bool) (w : Nat) : Bool := (hasO (lQ l) (win l (vG l p r x y)) w).isSome
def plV (a b : Bool) : Int32 := (bif a then (1 : Int32) else 0) ||| (bif b then (2 : Int32) else 0)
theorem k_playT (d : Nat) {p r : Nat} (hp : p < lP l) (hr : r < lP l) {x y : Bool} (v1 v3 v4 : Value) (t : tL σ l) (hV : cV σ 30 l (vG l p r x y)) : ∃ τ, (mBV (Cc (d + 5) n_Co_run [.ref 30, .null] σ) fun τ2 => (mBI (Cc (d + 5) n_Co_postOf [.ref 30, .int (nI p), .null] τ2) fun r4 τ3 => (bif decide (¬ r4 = (-1)) then Xx (d + 5) n_E_play 100 [.ref 0, v1, .int (nI r), v3, v4] [.int 1] τ3 else Xx (d + 5) n_E_play 100 [.ref 0, v1, .int (nI r), v3, v4] [.int 0] τ3))) = some (.int (plV (hsG l p r x y p) (hsG l p r x y r)), τ) ∧ kO 30 σ τ ∧ tL τ l := by
  have h1 := lvP t.1
  have h3 := lvQ t.1
  obtain ⟨τ, e, o, t1, c⟩ := k_runT d t (vG_ok t.1 hp hr x y) hV
  have hb : ∀ w i, hasO (lQ l) (win l (vG l p r x y)) w = some i → i < 2 ^ 31 := fun w i h => by have := hasO_lt h; omega
  refine ⟨τ, ?_, o, t1⟩
  rw [e, mBV_s, k_postOf _ 30 (Or.inr rfl) h3 (tQ t1) c.2.2.2 (win_big t.1) (by omega), mBI_s, oI_m1n (hb p), q_E_play_100, q_E_play_100, k_postOf _ 30 (Or.inr rfl) h3 (tQ t1) c.2.2.2 (win_big t.1) (by omega), mBI_s, mBI_s, oI_m1n (hb r)]
  show (bif hsG l p r x y p then (bif hsG l p r x y r then _ else _) else (bif hsG l p r x y r then _ else _)) = _
  cases hsG l p r x y p <;> cases hsG l p r x y r <;> rfl
set_option maxHeartbeats 2000000 in
theorem k_play (d : Nat) (t : tL σ l) {p r : Nat} (hp : p < lP l) (hr : r < lP l) (hpr : p ≠ r) {c : Int32} {x y : Bool} (hx : decide (c &&& 1 = 0) = !x) (hy : decide (c &&& 2 = 0) = !y) : ∃ τ, Cc (d + 6) n_E_play [.ref 0, .int (nI p), .int (nI r), .int c, .null] σ = some (.int (plV (hsG l p r x y p) (hsG l p r x y r)), τ) ∧ kO 30 σ τ ∧ tL τ l := by
  have h1 := lvP t.1
  obtain ⟨τ1, e1, o1, t1, v1⟩ := k_resetT (d + 3) t
  have eL : nI (lP l) - 1 = nI (lP l - 1) := by
    have := nI_pred (lP l - 1)
    rwa [show lP l - 1 + 1 = lP l by omega] at this
  have up : ∀ {τ : mS}, kO 30 τ1 τ → tL τ l → (∃ τ', (mBV (Cc (d + 5) n_Co_run [.ref 30, .null] τ) fun τ2 => (mBI (Cc (d + 5) n_Co_postOf [.ref 30, .int (nI p), .null] τ2) fun r4 τ3 => (bif decide (¬ r4 = (-1)) then Xx (d + 5) n_E_play 100 [.ref 0, .int (nI p), .int (nI r), .int c, .int (nI (lP l - 1))] [.int 1] τ3 else Xx (d + 5) n_E_play 100 [.ref 0, .int (nI p), .int (nI r), .int c, .int (nI (lP l - 1))] [.int 0] τ3))) = some (.int (plV (hsG l p r x y p) (hsG l p r x y r)), τ') ∧ kO 30 τ τ' ∧ tL τ' l) → ∃ τ', (mBV (Cc (d + 5) n_Co_run [.ref 30, .null] τ) fun τ2 => (mBI (Cc (d + 5) n_Co_postOf [.ref 30, .int (nI p), .null] τ2) fun r4 τ3 => (bif decide (¬ r4 = (-1)) then Xx (d + 5) n_E_play 100 [.ref 0, .int (nI p), .int (nI r), .int c, .int (nI (lP l - 1))] [.int 1] τ3 else Xx (d + 5) n_E_play 100 [.ref 0, .int (nI p), .int (nI r), .int c, .int (nI (lP l - 1))] [.int 0] τ3))) = some (.int (plV (hsG l p r x y p) (hsG l p r x y r)), τ') ∧ kO 30 σ τ' ∧ tL τ' l := fun h1 _ ⟨τ', a, b, c⟩ => ⟨τ', a, kO_t o1 (kO_t h1 b), c⟩
  rw [c_E_play, e1, mBV_s, tP t, eL, hx, hy, deq (by omega) (by omega), deq (by omega) (by omega), m6r, nI_add, nI_add, mIn_nI (by omega) (by omega), mIn_nI (by omega) (by omega), nI_clamp (by omega), nI_clamp (by omega), show (lP l - 1) * 6 = 6 * (lP l - 1) by omega]
  have kp : kO 30 τ1 (mUpI τ1 31 (6 * (lP l - 1) + p) 10) := kO_u τ1 (by omega) (by omega) _ _
  have kr : kO 30 τ1 (mUpI τ1 31 (6 * (lP l - 1) + r) 10) := kO_u τ1 (by omega) (by omega) _ _
  have kpr : kO 30 τ1 (mUpI (mUpI τ1 31 (6 * (lP l - 1) + p) 10) 31 (6 * (lP l - 1) + r) 10) := kO_t kp (kO_u _ (by omega) (by omega) _ _)
  have vp := cV_ex (Or.inr rfl) v1 (j := 6 * (lP l - 1) + p) 10
  have vr := cV_ex (Or.inr rfl) v1 (j := 6 * (lP l - 1) + r) 10
  have vpr := cV_ex (Or.inr rfl) vp (j := 6 * (lP l - 1) + r) 10
  by_cases gp : p = lP l - 1
  · rw [dT _ gp]
    have gr : ¬ r = lP l - 1 := by omega
    rw [dF _ gr]
    cases x <;> cases y
    · exact up (kO_r _ _) t1 (k_playT d hp hr _ _ _ t1 (by unfold vG exG; exact v1))
    · exact up kr (tL_sC t1 (sC_k kr)) (k_playT d hp hr _ _ _ (tL_sC t1 (sC_k kr)) (by unfold vG exG; rw [dF _ gr]; exact vr))
    · exact up (kO_r _ _) t1 (k_playT d hp hr _ _ _ t1 (by unfold vG exG; rw [dT _ gp]; exact v1))
    · exact up kr (tL_sC t1 (sC_k kr)) (k_playT d hp hr _ _ _ (tL_sC t1 (sC_k kr)) (by unfold vG exG; rw [dF _ gr, dT _ gp]; exact vr))
  · rw [dF _ gp]
    by_cases gr : r = lP l - 1
    · rw [dT _ gr]
      cases x <;> cases y
      · exact up (kO_r _ _) t1 (k_playT d hp hr _ _ _ t1 (by unfold vG exG; exact v1))
      · exact up (kO_r _ _) t1 (k_playT d hp hr _ _ _ t1 (by unfold vG exG; rw [dT _ gr]; exact v1))
      · exact up kp (tL_sC t1 (sC_k kp)) (k_playT d hp hr _ _ _ (tL_sC t1 (sC_k kp)) (by unfold vG exG; rw [dF _ gp]; exact vp))
      · exact up kp (tL_sC t1 (sC_k kp)) (k_playT d hp hr _ _ _ (tL_sC t1 (sC_k kp)) (by unfold vG exG; rw [dF _ gp, dT _ gr]; exact vp))
    · rw [dF _ gr]
      cases x <;> cases y
      · exact up (kO_r _ _) t1 (k_playT d hp hr _ _ _ t1 (by unfold vG exG; exact v1))
      · exact up kr (tL_sC t1 (sC_k kr)) (k_playT d hp hr _ _ _ (tL_sC t1 (sC_k kr)) (by unfold vG exG; rw [dF _ gr]; exact vr))
      · exact up kp (tL_sC t1 (sC_k kp)) (k_playT d hp hr _ _ _ (tL_sC t1 (sC_k kp)) (by unfold vG exG; rw [dF _ gp]; exact vp))
      · exact up kpr (tL_sC t1 (sC_k kpr)) (k_playT d hp hr _ _ _ (tL_sC t1 (sC_k kpr)) (by unfold vG exG; rw [dF _ gp, dF _ gr]; exact vpr))
