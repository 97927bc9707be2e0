/-! ===== reading: the reference's lines, one kind after another ===== -/
variable {σ τ υ : mS} {l : Lv} {B : Nat → Int32} {n : Nat}
theorem pFirst_w (T : Tok) : pFirst B n T l = pBd (pWord B n 310 T) fun T1 => pBd (pBd (pWord B n 311 T1) fun T2 => pNum B n 1 12 (-1) T2) fun y => pBd (pBd (pWord B n 312 y.2) fun T4 => pNum B n 0 3 (-1) T4) fun w => pBd (pBd (pWord B n 313 w.2) fun T6 => pNum B n 0 10 (-1) T6) fun o => .ok (o.2, setOd (setLw (setY l y.1) (nI w.1)) (nI o.1)) := by
  unfold pFirst pOpen
  cases hw : isW B 310 T with
  | true =>
    have e : pWord B n 310 T = .ok (nxT B n T) := by unfold pWord; rw [hw, cT]
    rw [e, cT]
    show _ = pBd (pBd (pWord B n 311 (nxT B n T)) _) _
    simp only [pBd_a]
  | false =>
    have e : pWord B n 310 T = .error (1, T.2.1) := by unfold pWord; rw [hw, cF]
    rw [e]
    rfl
theorem r_readFirst (d : Nat) (hn : n ≤ 800) (hb : ∀ j, j < n → bw (-128) (B j) 127) {T : Tok} (h : rdM τ B n T l) : rPf (pFirst B n T l) (Cc (d + 6) n_M_readFirst [.ref 200] τ) τ (fun x τ' => rdM τ' B n x.1 x.2) := by
  rw [c_M_readFirst, pFirst_w]
  simp only [mUpI_sR]
  refine rPf_v (r_expects (d + 1) hn hb (s := 310) (by unfold isTx; omega) h) (fun e τ' hb' => ?_) (fun T1 τ1 _ h1 _ => ?_)
  · rw [b_told _ (by unfold isTx; omega) hb', mBI_s, b_told _ (by unfold isTx; omega) (bd_f hb' _), mBI_s, b_told _ (by unfold isTx; omega) (bd_f (bd_f hb' _) _), mBI_s]
    exact ⟨_, rfl, bd_f (bd_f (bd_f hb' _) _) _, kF_t (kF_f _ _) (kF_t (kF_f _ _) (kF_f _ _))⟩
  · refine rPf_b (r_told d hn hb (s := 311) (by unfold isTx; omega) h1 (a := 1) (b := 12) rfl rfl (by decide)) (fun e w τ' hb' => ?_) (fun y w1 τ2 _ h2 _ => ?_)
    · rw [b_told _ (by unfold isTx; omega) (bd_f hb' _), mBI_s, b_told _ (by unfold isTx; omega) (bd_f (bd_f hb' _) _), mBI_s]
      exact ⟨_, rfl, bd_f (bd_f (bd_f hb' _) _) _, kF_t (kF_f _ _) (kF_t (kF_f _ _) (kF_f _ _))⟩
    · rw [h2.1]
      have s2 := rdM_f h2.2 (lM_Y' h2.2.2.1 y.1)
      refine rPf_k (kF_f τ2 _) (rPf_b (r_told d hn hb (s := 312) (by unfold isTx; omega) s2 (a := 0) (b := 3) rfl rfl (by decide)) (fun e w τ' hb' => ?_) (fun w w2 τ4 _ h4 _ => ?_))
      · rw [b_told _ (by unfold isTx; omega) (bd_f hb' _), mBI_s]
        exact ⟨_, rfl, bd_f (bd_f hb' _) _, kF_t (kF_f _ _) (kF_f _ _)⟩
      · rw [h4.1]
        have s4 := rdM_f h4.2 (lM_Lw h4.2.2.1 (nI w.1))
        refine rPf_k (kF_f τ4 _) (rPf_b (r_told d hn hb (s := 313) (by unfold isTx; omega) s4 (a := 0) (b := 10) rfl rfl (by decide)) (fun e w τ' hb' => ?_) (fun o w3 τ6 _ h6 _ => ?_))
        · exact ⟨_, rfl, bd_f hb' _, kF_f _ _⟩
        · rw [h6.1]
          exact ⟨_, rfl, rdM_f h6.2 (lM_Od h6.2.2.1 (nI o.1)), kF_f _ _⟩
/-- a feeling, behind its word -/
def pFeel (B : Nat → Int32) (n : Nat) (sg : Int32) (T1 : Tok) (l : Lv) : Pr (Tok × Lv) := pBd (pNum B n 0 ((lP l : Int) - 1) (-1) T1) fun a => pBd (pNum B n 0 ((lP l : Int) - 1) a.1 a.2) fun b => pBd (pNum B n 1 60 (-1) b.2) fun v => .ok (v.2, addB l a.1 b.1 (sg * nI v.1))
theorem pBond_F {sg : Int32} {T : Tok} (g : lB l < 20) : pBond B n sg T l = pFeel B n sg (nxT B n T) l := by
  unfold pBond pFeel pTwo
  rw [dT _ g, cT, pBd_a]
  congr 1
  funext a
  rw [pBd_a]
  rfl
theorem r_readFeeling (d : Nat) (hn : n ≤ 800) (hb : ∀ j, j < n → bw (-128) (B j) 127) {T1 : Tok} (h : rdM τ B n T1 l) (hw : lvW l) (sg : Int32) : rPf (pFeel B n sg T1 l) (Cc (d + 6) n_M_readFeeling [.ref 200, .int sg, .null, .null, .null] τ) τ (fun x τ' => rdM τ' B n x.1 x.2) := by
  rw [c_M_readFeeling]
  unfold pFeel
  refine rPf_b (r_readPerson (d + 1) hn hb h hw.1 (-1) (by omega)) (fun e w τ' hb' => ?_) (fun a w1 τ1 ha h1 _ => ?_)
  · refine ⟨τ', ?_, hb', kF_r τ'⟩
    rw [b_readOther _ hb', mBI_s, b_number _ hb', mBI_s, b_good _ hb', mBI_s, show decide (¬ (0 : Int32) = 0) = false by decide, cF]
  · have qa := pNum_ok ha
    have hP := hw.1
    rw [h1.1]
    refine rPf_b (r_readOther d hn hb h1.2 hw.1 (a := a.1) (by omega)) (fun e w τ' hb' => ?_) (fun b w2 τ3 hb2 h3 _ => ?_)
    · refine ⟨τ', ?_, hb', kF_r τ'⟩
      rw [b_number _ hb', mBI_s, b_good _ hb', mBI_s, show decide (¬ (0 : Int32) = 0) = false by decide, cF]
    · have qb := pNum_ok hb2
      rw [h3.1]
      refine rPf_b (r_number (d + 2) hn hb h3.2 (a := 1) (b := 60) rfl rfl (by decide) (-1) (by omega)) (fun e w τ' hb' => ?_) (fun v w3 τ5 _ h5 _ => ?_)
      · refine ⟨τ', ?_, hb', kF_r τ'⟩
        rw [b_good _ hb', mBI_s, show decide (¬ (0 : Int32) = 0) = false by decide, cF]
      · refine ⟨sR τ5 214 (upd (upd (τ5.1 214) (15 + 6 * a.1 + b.1) (sg * nI v.1)) 4 (nI (lB l + 1))), ?_, rdM_f h5.2 (lM_B' h5.2.2.1 hP (by omega) (by omega) _), kF_f _ _⟩
        rw [r_good _ h5.2.2.2.2.1, mBI_s, show decide (¬ (1 : Int32) = 0) = true by decide, cT, h5.1, show (15 : Int32) = nI 15 from rfl, show (6 : Int32) = nI 6 from rfl, nI_mul, nI_add, nI_add, mIn_nI (by omega) (by omega), cT, nI_clamp (by omega), mUpI_sR, mUpI_sR, sR_sR, sR_at, upd_ne _ _ (by omega), h5.2.2.1.1.2.2.2.2.1, nI_1]
/-- a wrong, behind its word -/
noncomputable def pWro (B : Nat → Int32) (n : Nat) (T1 : Tok) (l : Lv) : Pr (Tok × Lv) := pBd (pNum B n 0 ((lP l : Int) - 1) (-1) T1) fun a => pBd (pNum B n 0 ((lP l : Int) - 1) a.1 a.2) fun b => pBd (pNum B n 1 40 (-1) b.2) fun v => pBd (pBd (pWord B n 319 v.2) fun T4 => pNum B n 0 11 (-1) T4) fun y => .ok (y.2, addW l (a.1, b.1, nI v.1, y.1))
theorem pWrong_F {T : Tok} (g : (lWr l).length < 8) : pWrong B n T l = pWro B n (nxT B n T) l := by
  unfold pWrong pWro pTwo
  rw [dT _ g, cT, pBd_a]
  congr 1
  funext a
  rw [pBd_a]
  congr 1
  funext b
  show pBd (pNum B n 1 40 (-1) b.2) _ = _
  congr 1
  funext v
  rw [pBd_a]
theorem r_readWrong (d : Nat) (hn : n ≤ 800) (hb : ∀ j, j < n → bw (-128) (B j) 127) {T1 : Tok} (h : rdM τ B n T1 l) (hw : lvW l) (hW : (lWr l).length < 8) : rPf (pWro B n T1 l) (Cc (d + 6) n_M_readWrong [.ref 200, .null] τ) τ (fun x τ' => rdM τ' B n x.1 x.2) := by
  have hP := hw.1
  have e5 : τ.1 214 5 = nI (lWr l).length := h.2.1.1.2.2.2.2.2.1
  rw [c_M_readWrong, e5, show (51 : Int32) = nI 51 from rfl, show (4 : Int32) = nI 4 from rfl, nI_mul, nI_add, show (3 : Int32) = nI 3 from rfl, nI_1, nI_2, nI_add, mIn_nI (by omega) (by omega), mIn_nI (by omega) (by omega), mIn_nI (by omega) (by omega), mIn_nI (by omega) (by omega), nI_clamp (by omega), nI_clamp (by omega), nI_clamp (by omega), nI_clamp (by omega)]
  simp only [mUpI_sR, cT]
  unfold pWro
  refine rPf_b (r_readPerson (d + 1) hn hb h hw.1 (-1) (by omega)) (fun e w τ' hb' => ?_) (fun a w1 τ1 ha h1 k1 => ?_)
  · rw [b_readOther _ (bd_f hb' _), mBI_s, b_number _ (bd_f (bd_f hb' _) _), mBI_s, b_told _ (by unfold isTx; omega) (bd_f (bd_f (bd_f hb' _) _) _), mBI_s]
    exact ⟨_, rfl, bd_f (bd_f (bd_f (bd_f (bd_f hb' _) _) _) _) _, kF_t (kF_f _ _) (kF_t (kF_f _ _) (kF_t (kF_f _ _) (kF_t (kF_f _ _) (kF_f _ _))))⟩
  · have qa := pNum_ok ha
    rw [h1.1]
    have s1 := rdM_f h1.2 (lM_u h1.2.2.1 hw (j := 51 + 4 * (lWr l).length) (by omega) (nI a.1))
    rw [sR_at, upd_at]
    refine rPf_k (kF_f τ1 _) (rPf_b (r_readOther d hn hb s1 hw.1 (a := a.1) (by omega)) (fun e w τ' hb' => ?_) (fun b w2 τ3 hb2 h3 k3 => ?_))
    · rw [b_number _ (bd_f hb' _), mBI_s, b_told _ (by unfold isTx; omega) (bd_f (bd_f hb' _) _), mBI_s]
      exact ⟨_, rfl, bd_f (bd_f (bd_f (bd_f hb' _) _) _) _, kF_t (kF_f _ _) (kF_t (kF_f _ _) (kF_t (kF_f _ _) (kF_f _ _)))⟩
    · have qb := pNum_ok hb2
      rw [h3.1]
      have s3 := rdM_f h3.2 (lM_u h3.2.2.1 hw (j := 51 + 4 * (lWr l).length + 1) (by omega) (nI b.1))
      refine rPf_k (kF_f τ3 _) (rPf_b (r_number (d + 2) hn hb s3 (a := 1) (b := 40) rfl rfl (by decide) (-1) (by omega)) (fun e w τ' hb' => ?_) (fun v w3 τ5 _ h5 k5 => ?_))
      · rw [b_told _ (by unfold isTx; omega) (bd_f hb' _), mBI_s]
        exact ⟨_, rfl, bd_f (bd_f (bd_f hb' _) _) _, kF_t (kF_f _ _) (kF_t (kF_f _ _) (kF_f _ _))⟩
      · rw [h5.1]
        have s5 := rdM_f h5.2 (lM_u h5.2.2.1 hw (j := 51 + 4 * (lWr l).length + 2) (by omega) (nI v.1))
        refine rPf_k (kF_f τ5 _) (rPf_b (r_told d hn hb (s := 319) (by unfold isTx; omega) s5 (a := 0) (b := 11) rfl rfl (by decide)) (fun e w τ' hb' => ?_) (fun y w4 τ7 _ h7 k7 => ?_))
        · exact ⟨_, rfl, bd_f (bd_f hb' _) _, kF_t (kF_f _ _) (kF_f _ _)⟩
        · rw [h7.1]
          have l7 := lM_u h7.2.2.1 hw (j := 51 + 4 * (lWr l).length + 3) (by omega) (nI y.1)
          have f7 : τ7.1 214 = upd (τ5.1 214) (51 + 4 * (lWr l).length + 2) (nI v.1) := by rw [k7.1 214 (by decide), sR_at]
          have f5 : τ5.1 214 = upd (τ3.1 214) (51 + 4 * (lWr l).length + 1) (nI b.1) := by rw [k5.1 214 (by decide), sR_at]
          have f3 : τ3.1 214 = upd (τ1.1 214) (51 + 4 * (lWr l).length) (nI a.1) := by rw [k3.1 214 (by decide), sR_at]
          have g1 : upd (τ7.1 214) (51 + 4 * (lWr l).length + 3) (nI y.1) (51 + 4 * (lWr l).length) = nI a.1 := by
            rw [upd_ne _ _ (by omega), f7, upd_ne _ _ (by omega), f5, upd_ne _ _ (by omega), f3, upd_at]
          have g2 : upd (τ7.1 214) (51 + 4 * (lWr l).length + 3) (nI y.1) (52 + 4 * (lWr l).length) = nI b.1 := by
            rw [upd_ne _ _ (by omega), f7, upd_ne _ _ (by omega), f5, show 52 + 4 * (lWr l).length = 51 + 4 * (lWr l).length + 1 by omega, upd_at]
          have g3 : upd (τ7.1 214) (51 + 4 * (lWr l).length + 3) (nI y.1) (53 + 4 * (lWr l).length) = nI v.1 := by
            rw [upd_ne _ _ (by omega), f7, show 53 + 4 * (lWr l).length = 51 + 4 * (lWr l).length + 2 by omega, upd_at]
          have g4 : upd (τ7.1 214) (51 + 4 * (lWr l).length + 3) (nI y.1) (54 + 4 * (lWr l).length) = nI y.1 := by
            rw [show 54 + 4 * (lWr l).length = 51 + 4 * (lWr l).length + 3 by omega, upd_at]
          have s7 := rdM_f h7.2 (lM_W' l7 hw (a.1, b.1, nI v.1, y.1) g1 g2 g3 g4)
          refine ⟨_, ?_, s7, kF_f _ _⟩
          rw [sR_sR, sR_at, upd_ne _ _ (by omega), h7.2.2.1.1.2.2.2.2.2.1, nI_1]

