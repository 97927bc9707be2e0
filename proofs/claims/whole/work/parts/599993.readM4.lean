/-! ===== reading: the reference's lines whole ===== -/
variable {σ τ υ : mS} {l : Lv} {B : Nat → Int32} {n : Nat}
theorem r_takes_t (d : Nat) (hn : n ≤ 800) (hb : ∀ j, j < n → bw (-128) (B j) 127) {s : Nat} (hs : isTx s) {T : Tok} (h : rdM τ B n T l) (hw : isW B s T = true) : ∃ τ', Cc (d + 3) n_M_takes [.ref 200, .ref s, .null] τ = some (.int 1, τ') ∧ rdM τ' B n (nxT B n T) l ∧ kS τ τ' := by
  obtain ⟨τ', e, r, k⟩ := r_nx d hn hb h
  refine ⟨τ', ?_, r, k⟩
  rw [c_M_takes, r_is _ hs hn h, mBI_s, hw, bI_0, Bool.not_true, cF, e, mBV_s]
  rfl
theorem r_takes_f (d : Nat) (hn : n ≤ 800) {s : Nat} (hs : isTx s) {T : Tok} (h : rdM τ B n T l) (hw : isW B s T = false) : Cc (d + 3) n_M_takes [.ref 200, .ref s, .null] τ = some (.int 0, τ) := by
  rw [c_M_takes, r_is _ hs hn h, mBI_s, hw]
  rfl
theorem b_isFull (d : Nat) {e : Nat × Nat} (h : bd τ e) : Cc (d + 3) n_M_isFull [.ref 200] τ = some (.int 0, τ) := by
  have z : ∀ s, isTx s → Cc (d + 2) n_M_is [.ref 200, .ref s, .null, .null] τ = some (.int 0, τ) := fun s hs => b_is d hs h
  rw [c_M_isFull, z 314 (by unfold isTx; omega), mBI_s, show decide ((0 : Int32) = 0) = true by decide, cT, z 315 (by unfold isTx; omega), mBI_s, show decide (¬ (0 : Int32) = 0) = false by decide, cF, z 316 (by unfold isTx; omega), mBI_s, show decide ((0 : Int32) = 0) = true by decide, cT, z 317 (by unfold isTx; omega), mBI_s, show decide ((0 : Int32) = 0) = true by decide, cT, q_M_isFull_71, z 318 (by unfold isTx; omega), mBI_s, show decide ((0 : Int32) = 0) = true by decide, cT]
def fullB (l : Lv) (p k h w q : Bool) : Bool := (p && decide (lP l = 6)) || (((k || h) && decide (lB l = 20)) || ((w && decide ((lWr l).length = 8)) || (q && decide (lQ l = 5))))
theorem r_isFull (d : Nat) (hn : n ≤ 800) {T : Tok} (h : rdM τ B n T l) (hw : lvW l) : Cc (d + 3) n_M_isFull [.ref 200] τ = some (.int (bI (fullB l (isW B 314 T) (isW B 315 T) (isW B 316 T) (isW B 317 T) (isW B 318 T))), τ) := by
  obtain ⟨w1, w2, w3, w4⟩ := hw
  have z : ∀ s, isTx s → Cc (d + 2) n_M_is [.ref 200, .ref s, .null, .null] τ = some (.int (bI (isW B s T)), τ) := fun s hs => r_is d hs hn h
  have z4 := z 314 (by unfold isTx; omega)
  have z5 := z 315 (by unfold isTx; omega)
  have z6 := z 316 (by unfold isTx; omega)
  have z7 := z 317 (by unfold isTx; omega)
  have z8 := z 318 (by unfold isTx; omega)
  have f3 : decide (τ.1 214 3 = 6) = decide (lP l = 6) := by rw [h.2.1.1.2.2.2.1]; exact deq (b := 6) (by omega) (by decide)
  have f4 : decide (¬ τ.1 214 4 = 20) = !(decide (lB l = 20)) := by rw [h.2.1.1.2.2.2.2.1, ← decide_not]; exact dne (b := 20) (by omega) (by decide)
  have f5 : decide (τ.1 214 5 = 8) = decide ((lWr l).length = 8) := by rw [h.2.1.1.2.2.2.2.2.1]; exact deq (b := 8) (by omega) (by decide)
  have f6 : decide (¬ τ.1 214 6 = 5) = !(decide (lQ l = 5)) := by rw [h.2.1.1.2.2.2.2.2.2.1, ← decide_not]; exact dne (b := 5) (by omega) (by decide)
  have e71 : Xx (d + 2) n_M_isFull 71 [.ref 200] [] τ = some (.int (bI (isW B 318 T && decide (lQ l = 5))), τ) := by
    rw [q_M_isFull_71, z8, mBI_s, bI_0, f6]
    cases isW B 318 T <;> cases decide (lQ l = 5) <;> rfl
  rw [c_M_isFull]
  simp only [z4, z5, z6, z7, mBI_s, bI_0, bI_n, f3, f4, f5, e71]
  unfold fullB
  cases isW B 314 T <;> cases isW B 315 T <;> cases isW B 316 T <;> cases isW B 317 T <;> cases decide (lP l = 6) <;> cases decide (lB l = 20) <;> cases decide ((lWr l).length = 8) <;> rfl
theorem b_next60 (d : Nat) {e : Nat × Nat} (h : bd τ e) (v1 v2 : Value) : Xx (d + 3) n_M_readNext 60 [.ref 200, v1, v2] [] τ = some (.null, τ) := by
  rw [q_M_readNext_60, b_isFull _ h, mBI_s, show decide ((0 : Int32) = 0) = true by decide, cT, b_good _ h, mBI_s, show decide (¬ (0 : Int32) = 0) = false by decide, cF]
theorem r_post (d : Nat) (hn : n ≤ 800) (hb : ∀ j, j < n → bw (-128) (B j) 127) {T1 : Tok} (h : rdM τ B n T1 l) (hw : lvW l) (hQ : lQ l < 5) : rPf (pBd (pBd (pWord B n 319 T1) fun T2 => pNum B n 0 11 (-1) T2) fun y => pBd (pSk B n 7 0 y.2) fun s => .ok (s.2, addQ l y.1 s.1)) (mBI (Cc (d + 5) n_M_told [.ref 200, .ref 319, .int 0, .int 11] τ) fun r15 τ14 => (bif mIn ((83 : Int32) + ((2 : Int32) * (τ.1 214 6))) 123 then (mBI (Cc (d + 5) n_M_readSkills [.ref 200, .null, .null] (mUpI τ14 214 (((83 : Int32) + ((2 : Int32) * (τ.1 214 6))) : Int32).toNatClampNeg r15)) fun r17 τ16 => (bif mIn (((83 : Int32) + ((2 : Int32) * (τ.1 214 6))) + (1 : Int32)) 123 then (some (.null, (mUpI (mUpI τ16 214 ((((83 : Int32) + ((2 : Int32) * (τ.1 214 6))) + (1 : Int32)) : Int32).toNatClampNeg r17) 214 6 (((mUpI τ16 214 ((((83 : Int32) + ((2 : Int32) * (τ.1 214 6))) + (1 : Int32)) : Int32).toNatClampNeg r17).1 214 6) + (1 : Int32))))) else none)) else none)) τ (fun (x : Tok × Lv) τ' => rdM τ' B n x.1 x.2) := by
  rw [lM_Q h.2.1, show (83 : Int32) = nI 83 from rfl, show (2 : Int32) = nI 2 from rfl, nI_mul, nI_add, nI_1, mIn_nI (by omega) (by omega), mIn_nI (by omega) (by omega), nI_clamp (by omega), nI_clamp (by omega)]
  simp only [mUpI_sR, cT]
  refine rPf_b (r_told d hn hb (s := 319) (by unfold isTx; omega) h (a := 0) (b := 11) rfl rfl (by decide)) (fun e w τ' hb' => ?_) (fun y w τ1 _ h1 _ => ?_)
  · rw [b_readSkills _ (bd_f hb' _), mBI_s]
    exact ⟨_, rfl, bd_f (bd_f (bd_f hb' _) _) _, kF_t (kF_f _ _) (kF_t (kF_f _ _) (kF_f _ _))⟩
  · rw [h1.1]
    have s1 := rdM_f h1.2 (lM_u h1.2.2.1 hw (j := 83 + 2 * lQ l) (by omega) (nI y.1))
    refine rPf_k (kF_f τ1 _) (rPf_b (r_readSkills (d + 1) hn hb s1) (fun e w τ' hb' => ?_) (fun s w2 τ2 _ h2 k2 => ?_))
    · exact ⟨_, rfl, bd_f (bd_f hb' _) _, kF_t (kF_f _ _) (kF_f _ _)⟩
    · rw [h2.1]
      have l2 := lM_u h2.2.2.1 hw (j := 83 + 2 * lQ l + 1) (by omega) s.1
      have f2 : τ2.1 214 = upd (τ1.1 214) (83 + 2 * lQ l) (nI y.1) := by rw [k2.1 214 (by decide), sR_at]
      have s2 := rdM_f h2.2 (lM_Q' l2 hw y.1 s.1 (by rw [upd_ne _ _ (by omega), f2, upd_at]) (by rw [show 84 + 2 * lQ l = 83 + 2 * lQ l + 1 by omega, upd_at]))
      refine ⟨_, ?_, s2, kF_f _ _⟩
      rw [sR_sR, sR_at, upd_ne _ _ (by omega), h2.2.2.1.1.2.2.2.2.2.2.1, nI_1]
theorem r_pers (d : Nat) (hn : n ≤ 800) (hb : ∀ j, j < n → bw (-128) (B j) 127) {T1 : Tok} (h : rdM τ B n T1 l) (hP : lP l < 6) : rPf (pBd (pSk B n 7 0 T1) fun s => .ok (s.2, addP l s.1)) (mBI (Cc (d + 4) n_M_readSkills [.ref 200, .null, .null] τ) fun r22 τ21 => (bif mIn ((9 : Int32) + (τ.1 214 3)) 123 then (some (.null, (mUpI (mUpI τ21 214 (((9 : Int32) + (τ.1 214 3)) : Int32).toNatClampNeg r22) 214 3 (((mUpI τ21 214 (((9 : Int32) + (τ.1 214 3)) : Int32).toNatClampNeg r22).1 214 3) + (1 : Int32))))) else none)) τ (fun (x : Tok × Lv) τ' => rdM τ' B n x.1 x.2) := by
  rw [lM_P h.2.1, show (9 : Int32) = nI 9 from rfl, nI_add, mIn_nI (by omega) (by omega), nI_clamp (by omega)]
  simp only [mUpI_sR, cT]
  refine rPf_b (r_readSkills d hn hb h) (fun e w τ' hb' => ?_) (fun s w τ1 _ h1 _ => ?_)
  · exact ⟨_, rfl, bd_f (bd_f hb' _) _, kF_t (kF_f _ _) (kF_f _ _)⟩
  · rw [h1.1]
    refine ⟨_, ?_, rdM_f h1.2 (lM_P' h1.2.2.1 hP s.1), kF_f _ _⟩
    rw [sR_sR, sR_at, upd_ne _ _ (by omega), lM_P h1.2.2.1, nI_1]
theorem rPf_n {α : Type} {r : Pr α} {c : mR} {post : α → mS → Prop} (h : rPf r c τ post) : rPf r (mBV c fun τ => some (.null, τ)) τ post := by
  cases r with
  | error e => obtain ⟨τ', a, b, d⟩ := h; exact ⟨τ', by rw [a, mBV_s], b, d⟩
  | ok x => obtain ⟨τ', a, b, d⟩ := h; exact ⟨τ', by rw [a, mBV_s], b, d⟩
theorem or4 {a b c d : Bool} (h : (a || (b || (c || d))) = false) : a = false ∧ b = false ∧ c = false ∧ d = false := by
  rw [Bool.or_eq_false_iff, Bool.or_eq_false_iff, Bool.or_eq_false_iff] at h
  exact h
theorem r_next60 (d : Nat) (hn : n ≤ 800) (hb : ∀ j, j < n → bw (-128) (B j) 127) {T : Tok} (h : rdM τ B n T l) (hw : lvW l) (hkn : (isW B 314 T || (isW B 315 T || (isW B 316 T || (isW B 317 T || isW B 318 T)))) = true) (v1 v2 : Value) : rPf (pLater B n T l) (Xx (d + 6) n_M_readNext 60 [.ref 200, v1, v2] [] τ) τ (fun (x : Tok × Lv) τ' => rdM τ' B n x.1 x.2) := by
  have hg := h.2.2.2.1
  have h9 := h.1.2.2.2.1
  obtain ⟨w1, w2, w3, w4⟩ := hw
  have hw : lvW l := ⟨w1, w2, w3, w4⟩
  have efull : ∀ b, fullB l (isW B 314 T) (isW B 315 T) (isW B 316 T) (isW B 317 T) (isW B 318 T) = b → Cc (d + 6) n_M_isFull [.ref 200] τ = some (.int (bI b), τ) := fun b e => by rw [r_isFull (d + 3) hn h hw, e]
  have full : fullB l (isW B 314 T) (isW B 315 T) (isW B 316 T) (isW B 317 T) (isW B 318 T) = true → rPf (.error (3, T.2.1)) (Xx (d + 6) n_M_readNext 60 [.ref 200, v1, v2] [] τ) τ (fun (x : Tok × Lv) τ' => rdM τ' B n x.1 x.2) := by
    intro hf
    obtain ⟨τ', e, r, k⟩ := r_errs (d + 4) hg h9 (k := 3) (by omega) (by omega)
    have e' : Cc (d + 6) n_M_errs [.ref 200, .int 3] τ = some (.null, τ') := e
    refine ⟨τ', ?_, r, kF_S k⟩
    rw [q_M_readNext_60, efull true hf, mBI_s, show decide (bI true = 0) = false by decide, cF, e', mBV_s, b_good _ r, mBI_s, show decide (¬ (0 : Int32) = 0) = false by decide, cF]
  have t := fun s (hs : isTx s) (hf : isW B s T = false) => r_takes_f (d + 3) hn hs h hf
  unfold pLater
  cases h4 : isW B 314 T with
  | true =>
    have x5 := isW_l (s' := 315) h4 (by decide)
    have x6 := isW_l (s' := 316) h4 (by decide)
    have x7 := isW_l (s' := 317) h4 (by decide)
    have x8 := isW_l (s' := 318) h4 (by decide)
    rw [cT]
    unfold pPers
    by_cases g : lP l < 6
    · rw [dT _ g, cT]
      obtain ⟨τ1, e1, r1, k1⟩ := r_takes_t (d + 3) hn hb (s := 314) (by unfold isTx; omega) h h4
      rw [q_M_readNext_60, efull false (by unfold fullB; rw [h4, x5, x6, x7, x8, dF (p := lP l = 6) _ (by omega)]; rfl), mBI_s, show decide (bI false = 0) = true by decide, cT, r_good _ hg, mBI_s, show decide (¬ (1 : Int32) = 0) = true by decide, cT, e1, mBI_s, show decide ((1 : Int32) = 0) = false by decide, cF]
      exact rPf_k (kF_S k1) (r_pers (d + 2) hn hb r1 g)
    · rw [dF _ g, cF]
      exact full (by unfold fullB; rw [h4, dT (p := lP l = 6) _ (by omega)]; rfl)
  | false =>
    rw [cF]
    cases h5 : isW B 315 T with
    | true =>
      have x6 := isW_x (s' := 316) h5 (by decide) (by decide) (by rw [c315, c316]; decide)
      have x7 := isW_x (s' := 317) h5 (by decide) (by decide) (by rw [c315, c317]; decide)
      have x8 := isW_l (s' := 318) h5 (by decide)
      rw [cT]
      by_cases g : lB l < 20
      · rw [pBond_F g]
        obtain ⟨τ1, e1, r1, k1⟩ := r_takes_t (d + 3) hn hb (s := 315) (by unfold isTx; omega) h h5
        rw [q_M_readNext_60, efull false (by unfold fullB; rw [h4, h5, x6, x7, x8, dF (p := lB l = 20) _ (by omega)]; rfl), mBI_s, show decide (bI false = 0) = true by decide, cT, r_good _ hg, mBI_s, show decide (¬ (1 : Int32) = 0) = true by decide, cT, t 314 (by unfold isTx; omega) h4, mBI_s, show decide ((0 : Int32) = 0) = true by decide, cT, e1, mBI_s, show decide ((1 : Int32) = 0) = false by decide, cF]
        exact rPf_k (kF_S k1) (rPf_n (r_readFeeling d hn hb r1 hw 1))
      · unfold pBond
        rw [dF _ g, cF]
        exact full (by unfold fullB; rw [h4, h5, dT (p := lB l = 20) _ (by omega)]; rfl)
    | false =>
      rw [cF]
      cases h6 : isW B 316 T with
      | true =>
        have x7 := isW_x (s' := 317) h6 (by decide) (by decide) (by rw [c316, c317]; decide)
        have x8 := isW_l (s' := 318) h6 (by decide)
        rw [cT]
        by_cases g : lB l < 20
        · rw [pBond_F g]
          obtain ⟨τ1, e1, r1, k1⟩ := r_takes_t (d + 3) hn hb (s := 316) (by unfold isTx; omega) h h6
          rw [q_M_readNext_60, efull false (by unfold fullB; rw [h4, h5, h6, x7, x8, dF (p := lB l = 20) _ (by omega)]; rfl), mBI_s, show decide (bI false = 0) = true by decide, cT, r_good _ hg, mBI_s, show decide (¬ (1 : Int32) = 0) = true by decide, cT, t 314 (by unfold isTx; omega) h4, mBI_s, show decide ((0 : Int32) = 0) = true by decide, cT, t 315 (by unfold isTx; omega) h5, mBI_s, show decide ((0 : Int32) = 0) = true by decide, cT, e1, mBI_s, show decide ((1 : Int32) = 0) = false by decide, cF]
          exact rPf_k (kF_S k1) (rPf_n (r_readFeeling d hn hb r1 hw (-1)))
        · unfold pBond
          rw [dF _ g, cF]
          exact full (by unfold fullB; rw [h4, h5, h6, dT (p := lB l = 20) _ (by omega)]; rfl)
      | false =>
        rw [cF]
        cases h7 : isW B 317 T with
        | true =>
          have x8 := isW_l (s' := 318) h7 (by decide)
          rw [cT]
          by_cases g : (lWr l).length < 8
          · rw [pWrong_F g]
            obtain ⟨τ1, e1, r1, k1⟩ := r_takes_t (d + 3) hn hb (s := 317) (by unfold isTx; omega) h h7
            rw [q_M_readNext_60, efull false (by unfold fullB; rw [h4, h5, h6, h7, x8, dF (p := (lWr l).length = 8) _ (by omega)]; rfl), mBI_s, show decide (bI false = 0) = true by decide, cT, r_good _ hg, mBI_s, show decide (¬ (1 : Int32) = 0) = true by decide, cT, t 314 (by unfold isTx; omega) h4, mBI_s, show decide ((0 : Int32) = 0) = true by decide, cT, t 315 (by unfold isTx; omega) h5, mBI_s, show decide ((0 : Int32) = 0) = true by decide, cT, t 316 (by unfold isTx; omega) h6, mBI_s, show decide ((0 : Int32) = 0) = true by decide, cT, e1, mBI_s, show decide ((1 : Int32) = 0) = false by decide, cF]
            exact rPf_k (kF_S k1) (rPf_n (r_readWrong d hn hb r1 hw g))
          · unfold pWrong
            rw [dF _ g, cF]
            exact full (by unfold fullB; rw [h4, h5, h6, h7, dT (p := (lWr l).length = 8) _ (by omega)]; rfl)
        | false =>
          rw [cF]
          cases h8 : isW B 318 T with
          | true =>
            rw [cT]
            unfold pPost
            by_cases g : lQ l < 5
            · rw [dT _ g, cT]
              obtain ⟨τ1, e1, r1, k1⟩ := r_nx (d + 4) hn hb h
              rw [q_M_readNext_60, efull false (by unfold fullB; rw [h4, h5, h6, h7, h8, dF (p := lQ l = 5) _ (by omega)]; rfl), mBI_s, show decide (bI false = 0) = true by decide, cT, r_good _ hg, mBI_s, show decide (¬ (1 : Int32) = 0) = true by decide, cT, t 314 (by unfold isTx; omega) h4, mBI_s, show decide ((0 : Int32) = 0) = true by decide, cT, t 315 (by unfold isTx; omega) h5, mBI_s, show decide ((0 : Int32) = 0) = true by decide, cT, t 316 (by unfold isTx; omega) h6, mBI_s, show decide ((0 : Int32) = 0) = true by decide, cT, t 317 (by unfold isTx; omega) h7, mBI_s, show decide ((0 : Int32) = 0) = true by decide, cT, e1, mBV_s]
              have := rPf_k (kF_S k1) (r_post (d + 1) hn hb r1 hw g)
              rw [pBd_a] at this
              exact this
            · rw [dF _ g, cF]
              exact full (by unfold fullB; rw [h4, h5, h6, h7, h8, dT (p := lQ l = 5) _ (by omega)]; rfl)
          | false => rw [h4, h5, h6, h7, h8] at hkn; cases hkn
theorem r_readNext (d : Nat) (hn : n ≤ 800) (hb : ∀ j, j < n → bw (-128) (B j) 127) {T : Tok} (h : rdM τ B n T l) (hw : lvW l) : rPf (pLater B n T l) (Cc (d + 7) n_M_readNext [.ref 200, .null, .null] τ) τ (fun (x : Tok × Lv) τ' => rdM τ' B n x.1 x.2) := by
  have hg := h.2.2.2.1
  have h9 := h.1.2.2.2.1
  have z : ∀ s, isTx s → Cc (d + 6) n_M_is [.ref 200, .ref s, .null, .null] τ = some (.int (bI (isW B s T)), τ) := fun s hs => r_is (d + 4) hs hn h
  have e0 : Cc (d + 7) n_M_readNext [.ref 200, .null, .null] τ = (bif (isW B 314 T || (isW B 315 T || (isW B 316 T || (isW B 317 T || isW B 318 T)))) then Xx (d + 6) n_M_readNext 60 [.ref 200, .int 1, .null] [] τ else (mBV (Cc (d + 6) n_M_errs [.ref 200, .int 1] τ) fun τ15 => Xx (d + 6) n_M_readNext 60 [.ref 200, .int 0, .null] [] τ15)) := by
    rw [c_M_readNext, z 314 (by unfold isTx; omega), mBI_s, bI_n, z 315 (by unfold isTx; omega), mBI_s, bI_n, z 316 (by unfold isTx; omega), mBI_s, bI_n, z 317 (by unfold isTx; omega), mBI_s, bI_n, z 318 (by unfold isTx; omega), mBI_s, bI_0]
    cases isW B 314 T <;> cases isW B 315 T <;> cases isW B 316 T <;> cases isW B 317 T <;> cases isW B 318 T <;> rfl
  rw [e0]
  cases hkn : (isW B 314 T || (isW B 315 T || (isW B 316 T || (isW B 317 T || isW B 318 T)))) with
  | true => exact r_next60 d hn hb h hw hkn _ _
  | false =>
    obtain ⟨τ', e, r, k⟩ := r_errs (d + 4) hg h9 (k := 1) (by omega) (by omega)
    have e' : Cc (d + 6) n_M_errs [.ref 200, .int 1] τ = some (.null, τ') := e
    have hp : pLater B n T l = .error (1, T.2.1) := by
      obtain ⟨q4, q5, q6, q7⟩ := or4 hkn
      rw [Bool.or_eq_false_iff] at q7
      unfold pLater
      rw [q4, q5, q6, q7.1, q7.2]
      rfl
    rw [hp]
    exact ⟨τ', by rw [cF, e', mBV_s, b_next60 _ r], r, kF_S k⟩

