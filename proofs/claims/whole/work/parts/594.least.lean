/-! ===== the least wrong, whom to wrong ===== -/
variable {σ τ : mS} {l : Lv}
def vE (l : Lv) (c : Nat) (x : Int32) : Va := (lLaw l, 0, none, upd (fun _ => 0) c x, lSk l)
theorem vE_ok (hl : lvOK l) {p r : Nat} (hp : p < 6) (hr : r < 6) (hpr : p ≠ r) {x : Int32} (hx : bw 0 x 1000) : vaOK (vE l (6 * r + p) x) := by
  refine ⟨lvLaw hl, (fun i h => by cases h), fun c => ?_, fun i hi => ?_⟩
  · show bw 0 (upd (fun _ => 0) (6 * r + p) x c) 1000
    unfold upd
    split
    · exact hx
    · show bw 0 0 1000
      exact ⟨by decide, by decide⟩
  · show upd (fun _ => (0 : Int32)) (6 * r + p) x (7 * i) = 0
    rw [upd_ne _ _ (by omega)]
theorem vE_0 (c : Nat) : vE l c 0 = vS l := by
  unfold vE vS
  rw [show upd (fun _ => (0 : Int32)) c 0 = fun _ => 0 from funext fun j => by unfold upd; split <;> rfl]
theorem fE_vE {c c' : Nat} (h : c' ≠ c) (x x' : Int32) (y : Nat) : fE l (vE l c x) y c' = fE l (vE l c x') y c' := fS_ex _ _ _ _ _ _ (by
  show upd (fun _ => (0 : Int32)) c x c' = upd (fun _ => 0) c x' c'
  rw [upd_ne _ _ h, upd_ne _ _ h]) y
theorem wd_eq {v v' : Va} {q p : Nat} (hs : vSk v p = vSk v' p) (hf : ∀ k, k < lP l → fw l v q p k = fw l v' q p k) : wd l v q p = wd l v' q p := by
  have e : wrO l v q p (fun _ => true) = wrO l v' q p (fun _ => true) := by
    unfold wrO
    rw [hs]
    split
    · exact wrS_eq hf (fun _ _ _ => rfl) _ _
    · rfl
  unfold wd wdV
  rw [e]
  cases wrO l v' q p (fun _ => true) with
  | none => rfl
  | some w => exact hbS_eq hf (fun _ _ _ => rfl)
theorem wd_vE {p r : Nat} (hp : p < 6) (hr : r < 6) {p' : Nat} (hp' : p' < 6) (h : p' ≠ p) (x x' : Int32) (q : Nat) : wd l (vE l (6 * r + p) x) q p' = wd l (vE l (6 * r + p) x') q p' := wd_eq rfl (fun k _ => fE_vE (by omega) x x' _)
/-- win is alike where all feelings are -/
theorem win_eq {v v' : Va} (hs : vSk v = vSk v') (hf : ∀ y c, fE l v y c = fE l v' y c) (q : Nat) : win l v q = win l v' q := by
  have e : wd l v = wd l v' := funext fun q => funext fun p => wd_eq (by rw [hs]) (fun k _ => hf _ _)
  unfold win
  rw [e]
theorem vMx_clip {X a b : Int32} (hX : bw (-60) X 60) (ha : bw 0 a 1000) (hb : bw 0 b 1000) (hab : a.toInt ≤ b.toInt) (h : ¬ (-60 : Int32) < vMx (X - a) (-60)) : vMx (X - b) (-60) = vMx (X - a) (-60) := by
  unfold bw at hX ha hb
  have e1 := sub_toInt (a := X) (b := a) (by omega) (by omega) (by omega) (by omega)
  have e2 := sub_toInt (a := X) (b := b) (by omega) (by omega) (by omega) (by omega)
  have h1 := mt i_lt.mpr h
  rw [vMx_toInt, e1, t60] at h1
  apply Int32.toInt_inj.mp
  rw [vMx_toInt, vMx_toInt, e1, e2, t60]
  omega
theorem fE_clip (hl : lvOK l) {c : Nat} (hc : c < 36) {a b : Int32} (ha : bw 0 a 1000) (hb : bw 0 b 1000) (hab : a.toInt ≤ b.toInt) (h : ¬ (-60 : Int32) < fE l (vE l c a) 0 c) : ∀ y c', fE l (vE l c b) y c' = fE l (vE l c a) y c' := by
  have hw : ∀ x ∈ lWr l, ddOK (lP l) x := fun x hx => (lvWr hl x hx).1
  have hac : ∀ x ∈ lAc l, ddOK (lP l) x := fun x hx => (lvAc hl x hx).1
  intro y c'
  by_cases e : c' = c
  · subst e
    have h0 : fE l (vE l c' b) 0 c' = fE l (vE l c' a) 0 c' := by
      have hX := ddL_bw (y := 0) (c := c') none hac (ddL_bw (y := 0) (c := c') none hw (lvFe hl c' hc))
      have ea : fE l (vE l c' a) 0 c' = vMx (ddL 0 c' (lAc l) none (ddL 0 c' (lWr l) none (lFe l c')) - upd (fun _ => 0) c' a c') (-60) := rfl
      have eb : fE l (vE l c' b) 0 c' = vMx (ddL 0 c' (lAc l) none (ddL 0 c' (lWr l) none (lFe l c')) - upd (fun _ => 0) c' b c') (-60) := rfl
      rw [ea, upd_at] at h
      rw [ea, eb, upd_at, upd_at]
      exact vMx_clip hX ha hb hab h
    induction y with
    | zero => exact h0
    | succ y ih =>
      show ddL (y + 1) c' (lAc l) none (ddL (y + 1) c' (lWr l) none (fdS (lLaw l) (bt 0 y) (fE l (vE l c' b) y c'))) = ddL (y + 1) c' (lAc l) none (ddL (y + 1) c' (lWr l) none (fdS (lLaw l) (bt 0 y) (fE l (vE l c' a) y c')))
      rw [ih]
  · exact fE_vE e b a y
/-- whether one gets it after a wrong of n -/
def lsP (l : Lv) (p r q n : Nat) : Bool := decide (win l (vE l (6 * r + p) (nI n)) q = some p)
theorem n_bw {n : Nat} (h : n ≤ 1000) : bw 0 (nI n) 1000 := ⟨by rw [nI_toInt (by omega)]; omega, by rw [nI_toInt (by omega)]; omega⟩
theorem mFst_from (c : Nat → Bool) (m k : Nat) (h : ∀ x, k ≤ x → x < k + m → c x = false) : mFst c m k = none := by
  induction m generalizing k with
  | zero => rfl
  | succ m ih =>
    unfold mFst
    rw [h k (Nat.le_refl k) (by omega), cF]
    exact ih (k + 1) (fun x h1 h2 => h x (by omega) (by omega))
theorem k_least25 (d : Nat) {p r q : Nat} (hp : p < lP l) (hr : r < lP l) (hq : q < lQ l) (hpr : p ≠ r) (hl : lvOK l) (hY : 0 < lY l) {B : Nat} (hB : B ≤ 121) : ∀ (m n : Nat) (x : Int32) (σ : mS), n + m = B → bw 0 x 1000 → tL σ l → cR σ 30 l (vE l (6 * r + p) x) → ∃ τ, Xx (d + 4) n_E_leastBelow 25 [.ref 0, .int (nI p), .int (nI r), .int (nI q), .int (nI B), .int (nI (6 * r + p)), .int (nI n)] [] σ = some (.int (oI (mFst (lsP l p r q) m n)), τ) ∧ kO 30 σ τ ∧ tL τ l := by
  have h1 := lvP hl
  have h3 := lvQ hl
  intro m
  induction m with
  | zero =>
    intro n x σ hn hx t c
    refine ⟨σ, ?_, kO_r _ _, t⟩
    rw [q_E_leastBelow_25, dle (by omega) (by omega), dT _ (by omega), cT]
    rfl
  | succ m ih =>
    intro n x σ hn hx t c
    have hnb := n_bw (n := n) (by omega)
    have hv := vE_ok hl (p := p) (r := r) (by omega) (by omega) hpr hnb
    have k1 : kO 30 σ (mUpI σ 31 (6 * r + p) (nI n)) := kO_u σ (by omega) (by omega) _ _
    have v1 : cV (mUpI σ 31 (6 * r + p) (nI n)) 30 l (vE l (6 * r + p) (nI n)) := by
      have := cV_ex (Or.inr rfl) c.1 (j := 6 * r + p) (nI n)
      have e : upd (vEx (vE l (6 * r + p) x)) (6 * r + p) (nI n) = upd (fun _ => 0) (6 * r + p) (nI n) := by
        funext j
        show upd (upd (fun _ => (0 : Int32)) (6 * r + p) x) (6 * r + p) (nI n) j = upd (fun _ => 0) (6 * r + p) (nI n) j
        unfold upd
        by_cases g : j = 6 * r + p
        · rw [if_pos g, if_pos g]
        · rw [if_neg g, if_neg g, if_neg g]
      rw [e] at this
      exact this
    have t1 := tL_sC t (sC_k k1)
    obtain ⟨G, e2, f2⟩ := k_live2 d 30 (Or.inr rfl) (6 * r + p) (6 * r + p + 1) (by omega) (by omega) hl hv t1.2.1 v1 (fun y hy c' hc' hne => by
      rw [mUpI_sR, sR_ne _ _ (by decide)]
      rw [c.2.1 y hy c' hc']
      exact fE_vE (by omega) _ _ y)
    have k2 : kO 30 (mUpI σ 31 (6 * r + p) (nI n)) (sR (mUpI σ 31 (6 * r + p) (nI n)) (30 + 3) G) := kO_s _ (by omega) (by omega) _
    have v2 : cV (sR (mUpI σ 31 (6 * r + p) (nI n)) (30 + 3) G) 30 l (vE l (6 * r + p) (nI n)) := cV_c v1 (fun a h1 h2 => sR_ne _ _ (by omega))
    have w2 : ∀ q, q < lQ l → ∀ p', p' < lP l → p' ≠ p → (sR (mUpI σ 31 (6 * r + p) (nI n)) (30 + 3) G).1 (30 + 4) (6 * q + p') = wd l (vE l (6 * r + p) (nI n)) q p' := by
      intro q hq p' hp' hne
      rw [sR_ne _ _ (by decide), mUpI_sR, sR_ne _ _ (by decide), c.2.2.1 q hq p' hp']
      exact wd_vE (by omega) (by omega) (by omega) hne _ _ q
    generalize sR (mUpI σ 31 (6 * r + p) (nI n)) (30 + 3) G = τ2 at e2 f2 k2 v2 w2
    have t2 := tL_sC t1 (sC_k k2)
    obtain ⟨τ3, e3, k3, v3, f3, w3⟩ := k_weigh2 d 30 (Or.inr rfl) hl hp t2.2.1 v2 f2 w2
    have t3 := tL_sC t2 (sC_k k3)
    obtain ⟨τ4, e4, k4, c4⟩ := k_give2 (d + 1) 30 (Or.inr rfl) hl t3.2.1 v3 f3 w3
    have t4 := tL_sC t3 (sC_k k4)
    have kk : kO 30 σ τ4 := kO_t k1 (kO_t k2 (kO_t k3 k4))
    have h0 : τ4.1 33 (36 * 0 + (6 * r + p)) = fE l (vE l (6 * r + p) (nI n)) 0 (6 * r + p) := c4.2.1 0 hY _ (by omega)
    rw [q_E_leastBelow_25, dle (by omega) (by omega), dF _ (by omega), cF, mIn_nI (by omega) (by omega), cT, nI_clamp (by omega), show (1 : Int32) = nI 1 from rfl, nI_add, e2, mBV_s, e3, mBV_s, e4, mBV_s, mIn_nI (by omega) (by omega), cT, nI_clamp (by omega), show τ4.1 35 q = oI (win l (vE l (6 * r + p) (nI n)) q) from c4.2.2.2 q (by omega), oI_eq2 (by omega) (win_big hl q), show (Value.int 0) = Value.int (nI 0) from rfl, k_feeling _ 30 (Or.inr rfl) (by omega) (by omega) (by omega), mBI_s, show τ4.1 (30 + 3) (36 * 0 + (6 * r + p)) = fE l (vE l (6 * r + p) (nI n)) 0 (6 * r + p) from h0, nI_add]
    unfold mFst
    cases hls : lsP l p r q n with
    | true =>
      unfold lsP at hls
      rw [hls, Bool.not_true, cF, cT]
      exact ⟨τ4, rfl, kk, t4⟩
    | false =>
      have hls' := hls
      unfold lsP at hls
      rw [hls, Bool.not_false, cT, cF]
      by_cases g : (-60 : Int32) < fE l (vE l (6 * r + p) (nI n)) 0 (6 * r + p)
      · rw [dT _ g, cT]
        obtain ⟨τ5, e5, k5, t5⟩ := ih (n + 1) (nI n) τ4 (by omega) hnb t4 c4
        exact ⟨τ5, e5, kO_t kk k5, t5⟩
      · rw [dF _ g, cF]
        refine ⟨τ4, ?_, kk, t4⟩
        rw [mFst_from]
        · rfl
        · intro y hy1 hy2
          unfold lsP
          rw [win_eq (v := vE l (6 * r + p) (nI y)) (v' := vE l (6 * r + p) (nI n)) rfl (fE_clip hl (by omega) hnb (n_bw (n := y) (by omega)) (by rw [nI_toInt (by omega), nI_toInt (by omega)]; omega) g) q]
          exact hls
theorem k_leastBelow (d : Nat) (t : tL σ l) {p r q : Nat} (hp : p < lP l) (hr : r < lP l) (hq : q < lQ l) (hpr : p ≠ r) {B : Nat} (hB : B ≤ 121) : ∃ τ, Cc (d + 6) n_E_leastBelow [.ref 0, .int (nI p), .int (nI r), .int (nI q), .int (nI B), .null, .null] σ = some (.int (oI (mFst (lsP l p r q) B 0)), τ) ∧ sC σ τ ∧ tL τ l := by
  have h1 := lvP t.1
  obtain ⟨τ1, e1, o1, t1, v1⟩ := k_resetT (d + 3) t
  obtain ⟨τ2, e2, o2, t2, c2⟩ := k_runT d t1 (vS_ok t.1) v1
  obtain ⟨τ3, e3, o3, t3⟩ := k_least25 (d + 1) hp hr hq hpr t.1 (LH t.1 hp) hB B 0 0 τ2 (by omega) ⟨by decide, by decide⟩ t2 (by rw [vE_0]; exact c2)
  refine ⟨τ3, ?_, sC_k (kO_t o1 (kO_t o2 o3)), t3⟩
  rw [c_E_leastBelow, e1, mBV_s, e2, mBV_s, m6r, nI_add, show r * 6 + p = 6 * r + p by omega]
  exact e3
def farI (x : Option Nat) : Int32 := match x with
  | none => 1000000000
  | some n => nI n
theorem r_leastOf (d : Nat) (hl : lvOK l) {p r q : Nat} (hp : p < lP l) (hr : r < lP l) (hq : q < lQ l) (hpr : p ≠ r) {τ : mS} (hM : lM (τ.1 201) l) : ∃ τ', Cc (d + 9) n_M_leastOf [.ref 200, .int (nI p), .int (nI r), .int (nI q), .null] τ = some (.int (farI (mFst (lsP l p r q) 121 0)), τ') ∧ sM τ τ' := by
  have h1 := lvP hl
  have h3 := lvQ hl
  have key : ∀ (m n : Nat) (τ : mS), n + m = 121 → lM (τ.1 201) l → ∃ τ', Xx (d + 8) n_M_leastOf 3 [.ref 200, .int (nI p), .int (nI r), .int (nI q), .int (nI n)] [] τ = some (.int (farI (mFst (lsP l p r q) m n)), τ') ∧ sM τ τ' := by
    intro m
    induction m with
    | zero =>
      intro n τ hn hM
      refine ⟨τ, ?_, sM_r τ⟩
      rw [q_M_leastOf_3, show n = 121 by omega, show decide ((120 : Int32) < nI 121) = true by decide, cT]
      rfl
    | succ m ih =>
      intro n τ hn hM
      obtain ⟨τ1, e1, s1, v1⟩ := r_asItIs2 (d + 7) hl hM
      have hnb := n_bw (n := n) (by omega)
      obtain ⟨τ2, m2, e2, s2, v2⟩ : ∃ τ2 m2, Cc (d + 8) n_M_wrongMore [.ref 200, .int (nI p), .int (nI r), .int (nI n)] τ1 = some (.null, τ2) ∧ sM τ1 τ2 ∧ rV τ2 l (vE l (6 * r + p) (nI n)) m2 := by
        rcases Nat.eq_zero_or_pos n with z | z
        · subst z
          refine ⟨τ1, 0, ?_, sM_r τ1, by rw [show nI 0 = 0 from rfl, vE_0]; exact v1⟩
          rw [c_M_wrongMore, show decide (nI 0 = 0) = true by decide, cT]
        · obtain ⟨τ2, e2, s2, v2⟩ := r_wrongMore (d + 7) (m := 0) (by omega) v1 (a := p) (b := r) (by omega) (by omega) hpr (n := nI n) ⟨by rw [nI_toInt (by omega)]; omega, by rw [nI_toInt (by omega)]; omega⟩ rfl
          exact ⟨τ2, 1, e2, s2, v2⟩
      obtain ⟨τ3, e3, s3, a3⟩ := r_goAll d hl (vE_ok hl (p := p) (r := r) (by omega) (by omega) hpr hnb) v2
      rw [q_M_leastOf_3, show decide ((120 : Int32) < nI n) = false from decide_eq_false (nI_nlt (a := 120) (b := n) (by omega) (by decide)), cF, e1, mBV_s, e2, mBV_s, e3, mBV_s, mIn_nI (by omega) (by omega), cT, nI_clamp (by omega), a3.2.2.1 q (by omega), oI_eq2 (by omega) (win_big hl q), nI_1]
      unfold mFst
      cases hls : lsP l p r q n with
      | true =>
        unfold lsP at hls
        rw [hls, Bool.not_true, cF, cT]
        exact ⟨τ3, rfl, sM_t s1 (sM_t s2 s3)⟩
      | false =>
        unfold lsP at hls
        rw [hls, Bool.not_false, cT, cF]
        obtain ⟨τ4, e4, s4⟩ := ih (n + 1) τ3 (by omega) a3.1.1
        exact ⟨τ4, e4, sM_t s1 (sM_t s2 (sM_t s3 s4))⟩
  obtain ⟨τ', e, s⟩ := key 121 0 τ (by omega) hM
  refine ⟨τ', ?_, s⟩
  rw [c_M_leastOf]
  exact e
theorem far_lt {p r q n : Nat} (h : mFst (lsP l p r q) 121 0 = some n) : n < 121 := by have := (mFst_some _ _ _ _ h).2.1; omega
theorem t_least (D : Nat) (t : tL σ l) (x y z : Int32) : qryT (D + 12) n_E_least n_M_least [.ref 0, .int x, .int y, .int z] [.ref 200, .int x, .int y, .int z, .null] σ := by
  have h1 := lvP t.1
  have h3 := lvQ t.1
  unfold qryT
  rw [c_E_least, k_isPair _ x y σ (tP t) (by omega), mBI_s, bI_0, k_isPost _ z σ (tQ t) (by omega), mBI_s, bI_0]
  have hM0 : ∀ τ : mS, lM (τ.1 201) l → Cc (D + 12) n_M_least [.ref 200, .int x, .int y, .int z, .null] τ = (bif !(mIn x (lP l) && mIn y (lP l) && !(decide (x = y))) then some (.int (-2), τ) else (bif mIn z (lQ l) then (mBI (Cc (D + 11) n_M_leastOf [.ref 200, .int x, .int y, .int z, .null] τ) fun r6 τ5 => (bif decide (¬ r6 = 1000000000) then (some (.int r6, τ5)) else (some (.int (-1), τ5)))) else some (.int (-2), τ))) := by
    intro τ hM
    rw [c_M_least, r_areTwo _ x y τ (lM_P hM) (by omega), mBI_s, bI_0, r_isPost _ z τ (lM_Q hM) (by omega), mBI_s, bI_n]
  cases hg : (mIn x (lP l) && mIn y (lP l) && !(decide (x = y))) with
  | false => exact ⟨-2, σ, σ, rfl, sC_r σ, by rw [hM0 σ t.2.2.2, hg]; rfl, sM_r σ⟩
  | true =>
    cases hz : mIn z (lQ l) with
    | false => exact ⟨-2, σ, σ, rfl, sC_r σ, by rw [hM0 σ t.2.2.2, hg, hz]; rfl, sM_r σ⟩
    | true =>
      have hg' := hg
      simp only [Bool.and_eq_true, Bool.not_eq_true', decide_eq_false_iff_not] at hg
      obtain ⟨p, hp, rfl⟩ := mIn_of hg.1.1
      obtain ⟨r, hr, rfl⟩ := mIn_of hg.1.2
      have hpr : p ≠ r := fun e => hg.2 (by rw [e])
      obtain ⟨q, hq, rfl⟩ := mIn_of hz
      obtain ⟨σ1, e1, s1, t1⟩ := k_leastBelow (D + 5) t hp hr hq hpr (B := 121) (by omega)
      obtain ⟨τ, e2, s2⟩ := r_leastOf (D + 2) t.1 hp hr hq hpr t1.2.2.2
      refine ⟨oI (mFst (lsP l p r q) 121 0), σ1, τ, ?_, s1, ?_, s2⟩
      · rw [bnot_t, cF, cF, show (Value.int 121) = Value.int (nI 121) from rfl, e1, mBI_s]
      · rw [hM0 σ1 t1.2.2.2, hg', hz, bnot_t, cF, cT, e2, mBI_s]
        cases hf : mFst (lsP l p r q) 121 0 with
        | none => rfl
        | some n =>
          have := far_lt hf
          rw [show farI (some n) = nI n from rfl, show (1000000000 : Int32) = nI 1000000000 from rfl, dne (by omega) (by omega), dT _ (by omega), cT]
          rfl
/-! whom to wrong -/
theorem mFst_lim (c : Nat → Bool) {m M : Nat} (h : m ≤ M) : mFst c m 0 = (match mFst c M 0 with | none => none | some n => if n < m then some n else none) := by
  cases hM : mFst c M 0 with
  | none =>
    have := mFst_none c M 0 hM
    exact mFst_from c m 0 (fun x h1 h2 => this x h1 (by omega))
  | some n =>
    obtain ⟨a1, a2, a3, a4⟩ := mFst_some c M 0 n hM
    dsimp only
    by_cases g : n < m
    · rw [if_pos g]
      cases hm : mFst c m 0 with
      | none =>
        have := mFst_none c m 0 hm n (by omega) (by omega)
        rw [a3] at this
        cases this
      | some k =>
        obtain ⟨b1, b2, b3, b4⟩ := mFst_some c m 0 k hm
        rcases Nat.lt_trichotomy k n with x | x | x
        · rw [a4 k (by omega) x] at b3; cases b3
        · rw [x]
        · rw [b4 n (by omega) x] at a3; cases a3
    · rw [if_neg g]
      exact mFst_from c m 0 (fun x h1 h2 => a4 x h1 (by omega))
def tgS (l : Lv) (p q k : Nat) (s : Option Nat × Nat) : Option Nat × Nat := if k = p then s else (match mFst (lsP l p k q) s.2 0 with | none => s | some n => (some k, n))
theorem tgS_inv (p q n : Nat) : (mF (tgS l p q) n (none, 121)).2 ≤ 121 ∧ ((mF (tgS l p q) n (none, 121)).1 = none → (mF (tgS l p q) n (none, 121)).2 = 121) := by
  refine mF_inv (fun _ (s : Option Nat × Nat) => s.2 ≤ 121 ∧ (s.1 = none → s.2 = 121)) (tgS l p q) n (none, 121) ⟨Nat.le_refl _, fun _ => rfl⟩ (fun k s _ h => ?_) n (Nat.le_refl _)
  unfold tgS
  split
  · exact h
  · cases hm : mFst (lsP l p k q) s.2 0 with
    | none => exact h
    | some j =>
      have := (mFst_some _ _ _ _ hm).2.1
      exact ⟨by dsimp only; omega, fun e => by cases e⟩
theorem tgS_z (p q k : Nat) {s : Option Nat × Nat} (h : s.2 = 0) : tgS l p q k s = s := by
  unfold tgS
  split
  · rfl
  · rw [h]; rfl
theorem k_target (d : Nat) (t : tL σ l) {p q : Nat} (hp : p < lP l) (hq : q < lQ l) : ∃ τ, Xx (d + 6) n_E_target 21 [.ref 0, .int (nI p), .int (nI q), .int (-1), .int 121, .int 0, .null] [] σ = some (.int (oI (mF (tgS l p q) (lP l) (none, 121)).1), τ) ∧ sC σ τ := by
  have h1 := lvP t.1
  have key : ∀ (m k : Nat) (v : Value) (σ' : mS), k + m = lP l → tL σ' l → sC σ σ' → ∃ τ, Xx (d + 6) n_E_target 21 [.ref 0, .int (nI p), .int (nI q), .int (oI (mF (tgS l p q) k (none, 121)).1), .int (nI (mF (tgS l p q) k (none, 121)).2), .int (nI k), v] [] σ' = some (.int (oI (mF (tgS l p q) (lP l) (none, 121)).1), τ) ∧ sC σ τ := by
    intro m
    induction m with
    | zero =>
      intro k v σ' hk t' s'
      refine ⟨σ', ?_, s'⟩
      rw [q_E_target_21, tP t', show k = lP l by omega, dT _ (Int32.le_refl _), cT]
    | succ m ih =>
      intro k v σ' hk t' s'
      have hI := tgS_inv (l := l) p q k
      have es : mF (tgS l p q) (k + 1) (none, 121) = tgS l p q k (mF (tgS l p q) k (none, 121)) := rfl
      rw [q_E_target_21, tP t', dle (by omega) (by omega), dF _ (by omega), cF]
      rcases Nat.eq_zero_or_pos (mF (tgS l p q) k (none, 121)).2 with z | z
      · refine ⟨σ', ?_, s'⟩
        rw [z, show decide (nI 0 ≤ 0) = true by decide, cT]
        have : ∀ j, mF (tgS l p q) (k + j) (none, 121) = mF (tgS l p q) k (none, 121) := by
          intro j
          induction j with
          | zero => rfl
          | succ j ihj =>
            show tgS l p q (k + j) (mF (tgS l p q) (k + j) (none, 121)) = _
            rw [ihj, tgS_z p q _ z]
        rw [← hk, this]
      · rw [decide_eq_false (nI_nle z (by omega)), cF, dne (by omega) (by omega), m1e, cT, nI_1]
        by_cases g : k = p
        · rw [dF _ (fun x => x g), cF]
          obtain ⟨τ, e, s⟩ := ih (k + 1) (.int (-1)) σ' (by omega) t' s'
          refine ⟨τ, ?_, s⟩
          rw [es] at e
          unfold tgS at e
          rw [if_pos g] at e
          exact e
        · rw [dT _ g, cT]
          obtain ⟨σ2, e2, s2, t2⟩ := k_leastBelow d t' hp (show k < lP l by omega) hq (fun e => g e.symm) hI.1
          rw [e2, mBI_s]
          obtain ⟨τ, e, s⟩ := ih (k + 1) (.int (oI (mFst (lsP l p k q) (mF (tgS l p q) k (none, 121)).2 0))) σ2 (by omega) t2 (sC_t s' s2)
          refine ⟨τ, ?_, s⟩
          rw [← e, es]
          unfold tgS
          rw [if_neg g]
          cases hm : mFst (lsP l p k q) (mF (tgS l p q) k (none, 121)).2 0 with
          | none =>
            unfold tgS at hm
            rw [hm]
            rfl
          | some j =>
            have := (mFst_some _ _ _ _ hm).2.1
            unfold tgS at hm
            rw [hm, oI_s, nI_m1e (by omega), cF]
            rfl
  obtain ⟨τ, e, s⟩ := key (lP l) 0 .null σ (by omega) t (sC_r σ)
  exact ⟨τ, e, s⟩
