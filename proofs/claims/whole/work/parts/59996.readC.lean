/-! ===== reading: the class ===== -/
variable {σ τ : mS} {l : Lv} {B : Nat → Int32} {n : Nat}
theorem k_num (d : Nat) (hn : n ≤ 800) {T : Tok} (h : rdL σ B n T l) {lo hi un : Int32} {a b c : Int} (h1 : lo.toInt = a) (h2 : hi.toInt = b) (h3 : un.toInt = c) : kP (pNum B n a b c T) (Cc (d + 3) n_Re_readNumber [.ref 3, .int lo, .int hi, .int un] σ) σ (fun x τ => rdL τ B n x.2 l ∧ τ.1 3 8 = nI x.1 ∧ ∀ k, 8 < k → τ.1 3 k = σ.1 3 k) := by
  have := k_readNumber d hn h lo hi un
  rw [h1, h2, h3] at this
  exact this
theorem pNum_ok {a b c : Int} {T : Tok} {x : Nat × Tok} (h : pNum B n a b c T = .ok x) : x.1 = T.2.2.2 ∧ x.2 = nxT B n T ∧ a ≤ (x.1 : Int) ∧ (x.1 : Int) ≤ b ∧ (x.1 : Int) ≠ c ∧ T.1 = 2 := by
  unfold pNum at h
  cases h2 : decide (T.1 = 2) with
  | false => rw [h2, cF] at h; cases h
  | true =>
    rw [h2, cT] at h
    cases h3 : (decide ((T.2.2.2 : Int) < a) || (decide (b < (T.2.2.2 : Int)) || decide ((T.2.2.2 : Int) = c))) with
    | true => rw [h3, cT] at h; cases h
    | false =>
      rw [h3, cF] at h
      cases h
      rw [Bool.or_eq_false_iff, Bool.or_eq_false_iff] at h3
      have q1 := of_decide_eq_false h3.1
      have q2 := of_decide_eq_false h3.2.1
      have q3 := of_decide_eq_false h3.2.2
      exact ⟨rfl, rfl, by dsimp only; omega, by dsimp only; omega, q3, of_decide_eq_true h2⟩
theorem k_readTwo (d : Nat) (hn : n ≤ 800) {T : Tok} (h : rdL σ B n T l) (hP : lP l ≤ 6) : kP (pTwo B n (lP l) T) (Cc (d + 4) n_Re_readTwo [.ref 3] σ) σ (fun x τ => rdL τ B n x.2.2 l ∧ τ.1 3 9 = nI x.1 ∧ τ.1 3 10 = nI x.2.1) := by
  have e3 : σ.1 60 3 = nI (lP l) := h.2.1.1.2.2.2.1
  rw [c_Re_readTwo]
  unfold pTwo
  refine kP_b' (k_num d hn h (a := 0) (b := (lP l : Int) - 1) (c := -1) rfl (by rw [e3, nI_less1 (by omega)]) rfl) (fun x τ hx hp k => ?_)
  obtain ⟨p1, p2, -⟩ := hp
  have hx6 := pNum_ok hx
  have u := rdL_u p1 (k := 9) (by omega) (nI x.1)
  have f9 : (sR τ 3 (upd (τ.1 3) 9 (nI x.1))).1 3 9 = nI x.1 := by rw [sR_at, upd_at]
  have f60 : (sR τ 3 (upd (τ.1 3) 9 (nI x.1))).1 60 3 = nI (lP l) := u.2.1.1.2.2.2.1
  rw [p2, mUpI_sR, f9, f60]
  refine kP_k (kL_3 τ (k := 9) (by omega) (nI x.1)) (kP_b' (k_num d hn u (a := 0) (b := (lP l : Int) - 1) (c := (x.1 : Int)) rfl (nI_less1 (by omega)) (nI_toInt (by omega))) (fun y υ _ hq k' => ?_))
  obtain ⟨q1, q2, q3⟩ := hq
  refine ⟨sR υ 3 (upd (υ.1 3) 10 (nI y.1)), by rw [q2, mUpI_sR], ⟨rdL_u q1 (by omega) _, ?_, ?_⟩, kL_3 υ (by omega) _⟩
  · rw [sR_at, upd_ne _ _ (by decide), q3 9 (by omega), f9]
  · rw [sR_at, upd_at]
theorem k_isIn3 (d : Nat) (s : Int32) {v : Nat} (hv : v < 32) (σ : mS) : Cc (d + 1) n_E_isIn [.int (nI v), .int s] σ = some (.int (bI (bt s v)), σ) := k_isIn d v hv s σ
theorem k_readSkills7 (d : Nat) (hn : n ≤ 800) : ∀ m i (s : Int32) (T : Tok) (σ : mS), i + m = 7 → rdL σ B n T l → σ.1 3 11 = s → kP (pSk B n m s T) (Xx (d + 2) n_Re_readSkills 7 [.ref 3, .int (nI i)] [] σ) σ (fun x τ => rdL τ B n x.2 l ∧ τ.1 3 11 = x.1) := by
  intro m
  induction m with
  | zero =>
    intro i s T σ hi h hs
    refine ⟨σ, ?_, ⟨h, hs⟩, kL_r σ⟩
    rw [q_Re_readSkills_7, show i = 7 by omega]
    rfl
  | succ m ih =>
    intro i s T σ hi h hs
    have hv := h.2.2.2.2.2.1
    have hk := h.2.2.2.2.1
    rw [q_Re_readSkills_7, show decide ((6 : Int32) < nI i) = decide (6 < i) from dlt (a := 6) (by decide) (by omega), dF _ (by omega), cF, h.1.2.2.1, h.1.2.2.2.2.2, show decide (¬ nI T.1 = 2) = decide (¬ T.1 = 2) from dne (b := 2) (by omega) (by decide), decide_not, show decide ((6 : Int32) ≤ nI T.2.2.2) = decide (6 ≤ T.2.2.2) from dle (a := 6) (by decide) (by omega)]
    unfold pSk
    cases decide (T.1 = 2) with
    | false => exact ⟨σ, rfl, ⟨h, hs⟩, kL_r σ⟩
    | true =>
      rw [Bool.not_true, cF, cT]
      by_cases g : 6 ≤ T.2.2.2
      · rw [dT _ g]
        exact kP_z (k_refuse _ 2 _ h.1.2.2.2.1 _)
      · rw [dF _ g, cF, k_isIn3 _ _ (by omega), mBI_s, bI_0, hs, Bool.false_or]
        cases bt s T.2.2.2 with
        | true => exact kP_z (k_refuse _ 2 _ h.1.2.2.2.1 _)
        | false =>
          have u := rdL_u h (k := 11) (by omega) (s ||| (1 <<< (nI T.2.2.2 &&& 31)))
          obtain ⟨τ, e, r, k⟩ := k_nx d hn u
          have := ih (i + 1) (s ||| (1 <<< (nI T.2.2.2 &&& 31))) (nxT B n T) τ (by omega) r (by rw [k.2.1 11 (by omega), sR_at, upd_at])
          rw [cF, Bool.not_false, cT, h.1.2.2.2.2.2, mUpI_sR, e, mBV_s, nI_1]
          exact kP_k (kL_t (kL_3 σ (by omega) _) (kL_A k)) this
theorem k_readSkills (d : Nat) (hn : n ≤ 800) {T : Tok} (h : rdL σ B n T l) : kP (pSk B n 7 0 T) (Cc (d + 3) n_Re_readSkills [.ref 3, .null] σ) σ (fun x τ => rdL τ B n x.2 l ∧ τ.1 3 11 = x.1) := by
  rw [c_Re_readSkills, mUpI_sR]
  exact kP_k (kL_3 σ (by omega) _) (k_readSkills7 d hn 7 0 0 T _ (by omega) (rdL_u h (by omega) _) (by rw [sR_at, upd_at]))

/-! lands told -/
theorem rdC_60 {T : Tok} (h : rdC σ B n T) {b : Nat} (hb : 60 ≤ b) (f : Nat → Int32) : rdC (sR σ b f) B n T := by
  unfold rdC at h ⊢
  rw [sR_ne _ _ (show 1 ≠ b by omega), sR_ne _ _ (show 2 ≠ b by omega), sR_ne _ _ (show 3 ≠ b by omega)]
  exact h
theorem lC_60u (h : lC σ 60 l) {k : Nat} (x : Int32) (l' : Lv) (h0 : upd (σ.1 60) k x 0 = nI (lY l') ∧ upd (σ.1 60) k x 1 = lLaw l' ∧ upd (σ.1 60) k x 2 = lOdd l' ∧ upd (σ.1 60) k x 3 = nI (lP l') ∧ upd (σ.1 60) k x 4 = nI (lB l') ∧ upd (σ.1 60) k x 5 = nI (lQ l') ∧ upd (σ.1 60) k x 6 = nI (lLn l')) (e1 : lP l' = lP l) (e2 : lQ l' = lQ l) (e3 : l'.2.2 = l.2.2) : lC (sR σ 60 (upd (σ.1 60) k x)) 60 l' := by
  obtain ⟨-, a2, a3, a4, a5, a6⟩ := h
  obtain ⟨x1, x2, x3⟩ := l'
  obtain ⟨y1, y2, y3⟩ := l
  dsimp only at e3
  subst e3
  refine ⟨by rw [sR_at]; exact h0, fun p hp => ?_, ?_, fun q hq => ?_, dC_c a5 (fun a h1 h2 => sR_ne _ _ (by omega)), dC_c a6 (fun a h1 h2 => sR_ne _ _ (by omega))⟩
  · rw [sR_ne _ _ (by decide)]; exact a2 p (by rw [← e1]; exact hp)
  · rw [sR_ne _ _ (by decide)]; exact a3
  · rw [sR_ne _ _ (by decide), sR_ne _ _ (by decide)]; exact a4 q (by rw [← e2]; exact hq)
theorem lC_Y (h : lC σ 60 l) (y : Nat) : lC (sR σ 60 (upd (σ.1 60) 0 (nI y))) 60 (setY l y) := by
  obtain ⟨a0, a1, a2, a3, a4, a5, a6⟩ := h.1
  refine lC_60u h _ _ ⟨upd_at _ _ _, ?_, ?_, ?_, ?_, ?_, ?_⟩ rfl rfl rfl
  all_goals rw [upd_ne _ _ (by decide)]; assumption
theorem lC_Lw (h : lC σ 60 l) (y : Int32) : lC (sR σ 60 (upd (σ.1 60) 1 y)) 60 (setLw l y) := by
  obtain ⟨a0, a1, a2, a3, a4, a5, a6⟩ := h.1
  refine lC_60u h _ _ ⟨?_, upd_at _ _ _, ?_, ?_, ?_, ?_, ?_⟩ rfl rfl rfl
  all_goals rw [upd_ne _ _ (by decide)]; assumption
theorem lC_Od (h : lC σ 60 l) (y : Int32) : lC (sR σ 60 (upd (σ.1 60) 2 y)) 60 (setOd l y) := by
  obtain ⟨a0, a1, a2, a3, a4, a5, a6⟩ := h.1
  refine lC_60u h _ _ ⟨?_, ?_, upd_at _ _ _, ?_, ?_, ?_, ?_⟩ rfl rfl rfl
  all_goals rw [upd_ne _ _ (by decide)]; assumption
theorem lC_Ln (h : lC σ 60 l) : lC (sR σ 60 (upd (σ.1 60) 6 (nI (lLn l + 1)))) 60 (addL l) := by
  obtain ⟨a0, a1, a2, a3, a4, a5, a6⟩ := h.1
  refine lC_60u h _ _ ⟨?_, ?_, ?_, ?_, ?_, ?_, upd_at _ _ _⟩ rfl rfl rfl
  all_goals rw [upd_ne _ _ (by decide)]; assumption
theorem lC_P (h : lC σ 60 l) (s : Int32) : lC (sR (sR σ 61 (upd (σ.1 61) (lP l) s)) 60 (upd (σ.1 60) 3 (nI (lP l + 1)))) 60 (addP l s) := by
  obtain ⟨⟨b0, b1, b2, b3, b4, b5, b6⟩, a2, a3, a4, a5, a6⟩ := h
  refine ⟨?_, fun p hp => ?_, ?_, fun q hq => ?_, dC_c a5 (fun a h1 h2 => by rw [sR_ne _ _ (by omega), sR_ne _ _ (by omega)]), dC_c a6 (fun a h1 h2 => by rw [sR_ne _ _ (by omega), sR_ne _ _ (by omega)])⟩
  · rw [sR_at]
    refine ⟨?_, ?_, ?_, upd_at _ _ _, ?_, ?_, ?_⟩
    all_goals rw [upd_ne _ _ (by decide)]; assumption
  · rw [sR_ne _ _ (by decide), sR_at]
    show upd (σ.1 61) (lP l) s p = upd (lSk l) (lP l) s p
    have hp' : p < lP l + 1 := hp
    by_cases e : p = lP l
    · rw [e, upd_at, upd_at]
    · rw [upd_ne _ _ e, upd_ne _ _ e]; exact a2 p (by omega)
  · rw [sR_ne _ _ (by decide), sR_ne _ _ (by decide)]; exact a3
  · rw [sR_ne _ _ (by decide), sR_ne _ _ (by decide), sR_ne _ _ (by decide), sR_ne _ _ (by decide)]; exact a4 q hq
theorem lC_B (h : lC σ 60 l) (a b : Nat) (v : Int32) : lC (sR (sR σ 62 (upd (σ.1 62) (6 * a + b) v)) 60 (upd (σ.1 60) 4 (nI (lB l + 1)))) 60 (addB l a b v) := by
  obtain ⟨⟨b0, b1, b2, b3, b4, b5, b6⟩, a2, a3, a4, a5, a6⟩ := h
  refine ⟨?_, fun p hp => ?_, fun c hc => ?_, fun q hq => ?_, dC_c a5 (fun a h1 h2 => by rw [sR_ne _ _ (by omega), sR_ne _ _ (by omega)]), dC_c a6 (fun a h1 h2 => by rw [sR_ne _ _ (by omega), sR_ne _ _ (by omega)])⟩
  · rw [sR_at]
    refine ⟨?_, ?_, ?_, ?_, upd_at _ _ _, ?_, ?_⟩
    all_goals rw [upd_ne _ _ (by decide)]; assumption
  · rw [sR_ne _ _ (by decide), sR_ne _ _ (by decide)]; exact a2 p hp
  · rw [sR_ne _ _ (by decide), sR_at]
    show upd (σ.1 62) (6 * a + b) v c = upd (lFe l) (6 * a + b) v c
    by_cases e : c = 6 * a + b
    · rw [e, upd_at, upd_at]
    · rw [upd_ne _ _ e, upd_ne _ _ e]; exact a3 c hc
  · rw [sR_ne _ _ (by decide), sR_ne _ _ (by decide), sR_ne _ _ (by decide), sR_ne _ _ (by decide)]; exact a4 q hq
theorem lC_Q (h : lC σ 60 l) (y : Nat) (s : Int32) : lC (sR (sR (sR σ 63 (upd (σ.1 63) (lQ l) s)) 64 (upd (σ.1 64) (lQ l) (nI y))) 60 (upd (σ.1 60) 5 (nI (lQ l + 1)))) 60 (addQ l y s) := by
  obtain ⟨⟨b0, b1, b2, b3, b4, b5, b6⟩, a2, a3, a4, a5, a6⟩ := h
  refine ⟨?_, fun p hp => ?_, ?_, fun q hq => ?_, dC_c a5 (fun a h1 h2 => by rw [sR_ne _ _ (by omega), sR_ne _ _ (by omega), sR_ne _ _ (by omega)]), dC_c a6 (fun a h1 h2 => by rw [sR_ne _ _ (by omega), sR_ne _ _ (by omega), sR_ne _ _ (by omega)])⟩
  · rw [sR_at]
    refine ⟨?_, ?_, ?_, ?_, ?_, upd_at _ _ _, ?_⟩
    all_goals rw [upd_ne _ _ (by decide)]; assumption
  · rw [sR_ne _ _ (by decide), sR_ne _ _ (by decide), sR_ne _ _ (by decide)]; exact a2 p hp
  · rw [sR_ne _ _ (by decide), sR_ne _ _ (by decide), sR_ne _ _ (by decide)]; exact a3
  · rw [sR_ne _ _ (show 60 + 3 ≠ 60 by decide), sR_ne _ _ (show 60 + 3 ≠ 64 by decide), sR_at, sR_ne _ _ (show 60 + 4 ≠ 60 by decide), sR_at]
    show upd (σ.1 63) (lQ l) s q = upd (lAs l) (lQ l) s q ∧ upd (σ.1 64) (lQ l) (nI y) q = nI (updN (lWh l) (lQ l) y q)
    have hq' : q < lQ l + 1 := hq
    unfold updN
    by_cases e : q = lQ l
    · rw [e, upd_at, upd_at, upd_at, if_pos rfl]; exact ⟨rfl, rfl⟩
    · rw [upd_ne _ _ e, upd_ne _ _ e, upd_ne _ _ e, if_neg e]; exact a4 q (by omega)
theorem lC_W (h : lC σ 60 l) {τ : mS} {x : Dd} (hd : dC τ 65 (lWr l ++ [x])) (e : ∀ a, a < 65 ∨ 69 < a → τ.1 a = σ.1 a) : lC τ 60 (addW l x) := by
  obtain ⟨b, a2, a3, a4, a5, a6⟩ := h
  refine ⟨?_, ?_, ?_, ?_, hd, dC_c a6 (fun a h1 h2 => e a (by omega))⟩
  · rw [e 60 (by omega)]; exact b
  · rw [e 61 (by omega)]; exact a2
  · rw [e 62 (by omega)]; exact a3
  · rw [e 63 (by omega), e 64 (by omega)]; exact a4
/-- told so far, within bounds -/
def lvW (l : Lv) : Prop := lP l ≤ 6 ∧ lQ l ≤ 5 ∧ lB l ≤ 20 ∧ (lWr l).length ≤ 8
theorem pBd_a {α β γ : Type} (r : Pr α) (f : α → Pr β) (g : β → Pr γ) : pBd (pBd r f) g = pBd r (fun x => pBd (f x) g) := by
  cases r <;> rfl
/-- the first line up to its end -/
noncomputable def pFirst (B : Nat → Int32) (n : Nat) (T : Tok) (l : Lv) : Pr (Tok × Lv) := bif isW B 310 T then pOpen B n T l else .error (1, T.2.1)
theorem pFirst_f (T : Tok) : pFirst B n T l = pBd (pWord B n 310 T) fun T1 => pBd (pWord B n 311 T1) fun T2 => pBd (pNum B n 1 12 (-1) T2) fun y => pBd (pWord B n 312 y.2) fun T4 => pBd (pNum B n 0 3 (-1) T4) fun w => pBd (pWord B n 313 w.2) fun T6 => pBd (pNum B n 0 10 (-1) T6) fun o => .ok (o.2, setOd (setLw (setY l y.1) (nI w.1)) (nI o.1)) := by
  unfold pFirst pOpen
  cases hw : isW B 310 T with
  | true =>
    have e : pWord B n 310 T = .ok (nxT B n T) := by unfold pWord; rw [hw, cT]
    rw [e, cT]
    rfl
  | false =>
    have e : pWord B n 310 T = .error (1, T.2.1) := by unfold pWord; rw [hw, cF]
    rw [e]
    rfl
theorem k_readOpening (d : Nat) (hn : n ≤ 800) {T : Tok} (h : rdL σ B n T l) : kP (pFirst B n T l) (Cc (d + 4) n_Re_readOpening [.ref 3] σ) σ (fun x τ => rdL τ B n x.1 x.2) := by
  rw [c_Re_readOpening, pFirst_f]
  refine kP_b (k_readWord d (s := 310) (by unfold isTx; omega) hn h) (fun T1 τ1 _ h1 _ => kP_b (k_readWord d (s := 311) (by unfold isTx; omega) hn h1.1) (fun T2 τ2 _ hp _ => kP_b' (k_num d hn hp.1 (a := 1) (b := 12) (c := -1) rfl rfl rfl) (fun y τ4 _ hq _ => ?_)))
  have s4 : rdL (sR τ4 60 (upd (τ4.1 60) 0 (nI y.1))) B n y.2 (setY l y.1) := ⟨rdC_60 hq.1.1 (by decide) _, lC_Y hq.1.2.1 _, hq.1.2.2⟩
  rw [hq.2.1, mUpI_sR]
  refine kP_k (kL_s τ4 (b := 60) (by omega) _) (kP_b (k_readWord d (s := 312) (by unfold isTx; omega) hn s4) (fun T4 τ6 _ hp6 _ => kP_b' (k_num d hn hp6.1 (a := 0) (b := 3) (c := -1) rfl rfl rfl) (fun w τ8 _ hq8 _ => ?_)))
  have s8 : rdL (sR τ8 60 (upd (τ8.1 60) 1 (nI w.1))) B n w.2 (setLw (setY l y.1) (nI w.1)) := ⟨rdC_60 hq8.1.1 (by decide) _, lC_Lw hq8.1.2.1 _, hq8.1.2.2⟩
  rw [hq8.2.1, mUpI_sR]
  refine kP_k (kL_s τ8 (b := 60) (by omega) _) (kP_b (k_readWord d (s := 313) (by unfold isTx; omega) hn s8) (fun T6 τ10 _ hp10 _ => kP_b' (k_num d hn hp10.1 (a := 0) (b := 10) (c := -1) rfl rfl rfl) (fun o τ12 _ hq12 _ => ?_)))
  exact ⟨_, by rw [hq12.2.1, mUpI_sR], ⟨rdC_60 hq12.1.1 (by decide) _, lC_Od hq12.1.2.1 _, hq12.1.2.2⟩, kL_s τ12 (b := 60) (by omega) _⟩
theorem k_readPerson (d : Nat) (hn : n ≤ 800) {T : Tok} (h : rdL σ B n T l) (hw : lvW l) : kP (pPers B n T l) (Cc (d + 4) n_Re_readPerson [.ref 3] σ) σ (fun x τ => rdL τ B n x.1 x.2) := by
  have hP := hw.1
  rw [c_Re_readPerson, h.2.1.1.2.2.2.1, show decide (nI (lP l) < 6) = decide (lP l < 6) from dlt (b := 6) (by omega) (by decide)]
  unfold pPers
  by_cases g : lP l < 6
  · obtain ⟨τ1, e1, r1, k1⟩ := k_nx (d + 1) hn h
    rw [dT _ g, cT, cT, e1, mBV_s]
    refine kP_k (kL_A k1) (kP_b' (k_readSkills d hn r1) (fun s τ2 _ hp _ => ?_))
    have f3 : τ2.1 60 3 = nI (lP l) := hp.1.2.1.1.2.2.2.1
    refine ⟨sR (sR τ2 61 (upd (τ2.1 61) (lP l) s.1)) 60 (upd (τ2.1 60) 3 (nI (lP l + 1))), ?_, ⟨rdC_60 (rdC_60 hp.1.1 (by decide) _) (by decide) _, lC_P hp.1.2.1 s.1, hp.1.2.2⟩, kL_t (kL_s τ2 (b := 61) (by omega) _) (kL_s _ (b := 60) (by omega) _)⟩
    rw [f3, mIn_nI g (by omega), cT, nI_clamp (by omega), hp.2, mUpI_sR, mUpI_sR, sR_ne _ _ (by decide), f3, nI_1]
  · rw [dF _ g, cF, cF]
    exact kP_z (k_refuse _ 3 _ h.1.2.2.2.1 _)
theorem k_readBond (d : Nat) (hn : n ≤ 800) {T : Tok} (h : rdL σ B n T l) (hw : lvW l) (sg : Int32) : kP (pBond B n sg T l) (Cc (d + 5) n_Re_readBond [.ref 3, .int sg] σ) σ (fun x τ => rdL τ B n x.1 x.2) := by
  have hP := hw.1
  have hBn := hw.2.2.1
  rw [c_Re_readBond, h.2.1.1.2.2.2.2.1, show decide (nI (lB l) < 20) = decide (lB l < 20) from dlt (b := 20) (by omega) (by decide)]
  unfold pBond
  by_cases g : lB l < 20
  · obtain ⟨τ1, e1, r1, k1⟩ := k_nx (d + 2) hn h
    rw [dT _ g, cT, cT, e1, mBV_s]
    refine kP_k (kL_A k1) (kP_b (k_readTwo d hn r1 hP) (fun ab τ2 hab hp _ => kP_b' (k_num (d + 1) hn hp.1 (a := 1) (b := 60) (c := -1) rfl rfl rfl) (fun v τ4 _ hq _ => ?_)))
    have hab6 : ab.1 < 6 ∧ ab.2.1 < 6 := by
      unfold pTwo at hab
      cases ha : pNum B n 0 ((lP l : Int) - 1) (-1) (nxT B n T) with
      | error e => rw [ha] at hab; cases hab
      | ok a =>
        rw [ha] at hab
        dsimp only [pBd] at hab
        cases hb : pNum B n 0 ((lP l : Int) - 1) a.1 a.2 with
        | error e => rw [hb] at hab; cases hab
        | ok b =>
          rw [hb] at hab
          cases hab
          have := pNum_ok ha
          have := pNum_ok hb
          dsimp only
          omega
    have f9 : τ4.1 3 9 = nI ab.1 := by rw [hq.2.2 9 (by omega)]; exact hp.2.1
    have f10 : τ4.1 3 10 = nI ab.2.1 := by rw [hq.2.2 10 (by omega)]; exact hp.2.2
    have f4 : τ4.1 60 4 = nI (lB l) := hq.1.2.1.1.2.2.2.2.1
    refine ⟨sR (sR τ4 62 (upd (τ4.1 62) (6 * ab.1 + ab.2.1) (sg * nI v.1))) 60 (upd (τ4.1 60) 4 (nI (lB l + 1))), ?_, ⟨rdC_60 (rdC_60 hq.1.1 (by decide) _) (by decide) _, lC_B hq.1.2.1 _ _ _, hq.1.2.2⟩, kL_t (kL_s τ4 (b := 62) (by omega) _) (kL_s _ (b := 60) (by omega) _)⟩
    rw [f9, f10, hq.2.1, show (6 : Int32) = nI 6 from rfl, nI_mul, nI_add, mIn_nI (by omega) (by omega), cT, nI_clamp (by omega), Nat.mul_comm, mUpI_sR, mUpI_sR, sR_ne _ _ (by decide), f4, nI_1]
  · rw [dF _ g, cF, cF]
    exact kP_z (k_refuse _ 3 _ h.1.2.2.2.1 _)
theorem k_readPost (d : Nat) (hn : n ≤ 800) {T : Tok} (h : rdL σ B n T l) (hw : lvW l) : kP (pPost B n T l) (Cc (d + 4) n_Re_readPost [.ref 3, .null] σ) σ (fun x τ => rdL τ B n x.1 x.2) := by
  have hQ := hw.2.1
  rw [c_Re_readPost, h.2.1.1.2.2.2.2.2.1, show decide (nI (lQ l) < 5) = decide (lQ l < 5) from dlt (b := 5) (by omega) (by decide)]
  unfold pPost
  by_cases g : lQ l < 5
  · obtain ⟨τ1, e1, r1, k1⟩ := k_nx (d + 1) hn h
    rw [dT _ g, cT, cT, e1, mBV_s]
    refine kP_k (kL_A k1) (kP_b (k_readWord d (s := 319) (by unfold isTx; omega) hn r1) (fun T2 τ2 _ hp _ => kP_b' (k_num d hn hp.1 (a := 0) (b := 11) (c := -1) rfl rfl rfl) (fun y τ4 _ hq _ => kP_b' (k_readSkills d hn hq.1) (fun s τ6 _ hr _ => ?_))))
    have f5 : τ6.1 60 5 = nI (lQ l) := hr.1.2.1.1.2.2.2.2.2.1
    have f5' : ∀ f : Nat → Int32, (sR τ6 63 f).1 60 5 = nI (lQ l) := fun f => by rw [sR_ne _ _ (by decide)]; exact f5
    refine ⟨sR (sR (sR τ6 63 (upd (τ6.1 63) (lQ l) s.1)) 64 (upd (τ6.1 64) (lQ l) (nI y.1))) 60 (upd (τ6.1 60) 5 (nI (lQ l + 1))), ?_, ⟨rdC_60 (rdC_60 (rdC_60 hr.1.1 (by decide) _) (by decide) _) (by decide) _, lC_Q hr.1.2.1 _ _, hr.1.2.2⟩, kL_t (kL_s τ6 (b := 63) (by omega) _) (kL_t (kL_s _ (b := 64) (by omega) _) (kL_s _ (b := 60) (by omega) _))⟩
    simp only [mUpI_sR]
    rw [f5, f5', mIn_nI g (by omega), cT, cT, nI_clamp (by omega), hr.2, hq.2.1, sR_ne _ _ (show 60 ≠ 64 by decide), sR_ne _ _ (show 60 ≠ 63 by decide), sR_ne _ _ (show 64 ≠ 63 by decide), f5, nI_1]
  · rw [dF _ g, cF, cF]
    exact kP_z (k_refuse _ 3 _ h.1.2.2.2.1 _)
theorem k_readWrong (d : Nat) (hn : n ≤ 800) {T : Tok} (h : rdL σ B n T l) (hw : lvW l) : kP (pWrong B n T l) (Cc (d + 5) n_Re_readWrong [.ref 3, .null] σ) σ (fun x τ => rdL τ B n x.1 x.2) := by
  have hP := hw.1
  have hW := hw.2.2.2
  rw [c_Re_readWrong, show σ.1 65 4 = nI (lWr l).length from h.2.1.2.2.2.2.1.1, show decide (nI (lWr l).length < 8) = decide ((lWr l).length < 8) from dlt (b := 8) (by omega) (by decide)]
  unfold pWrong
  by_cases g : (lWr l).length < 8
  · obtain ⟨τ1, e1, r1, k1⟩ := k_nx (d + 2) hn h
    rw [dT _ g, cT, cT, e1, mBV_s]
    refine kP_k (kL_A k1) (kP_b (k_readTwo d hn r1 hP) (fun ab τ2 _ hp _ => kP_b' (k_num (d + 1) hn hp.1 (a := 1) (b := 40) (c := -1) rfl rfl rfl) (fun v τ4 _ hq _ => kP_b (k_readWord (d + 1) (s := 319) (by unfold isTx; omega) hn hq.1) (fun T4 τ6 _ hr _ => kP_b' (k_num (d + 1) hn hr.1 (a := 0) (b := 11) (c := -1) rfl rfl rfl) (fun y τ8 _ hs _ => ?_)))))
    have f9 : τ8.1 3 9 = nI ab.1 := by rw [hs.2.2 9 (by omega), hr.2 9 (by omega), hq.2.2 9 (by omega)]; exact hp.2.1
    have f10 : τ8.1 3 10 = nI ab.2.1 := by rw [hs.2.2 10 (by omega), hr.2 10 (by omega), hq.2.2 10 (by omega)]; exact hp.2.2
    have hd := dC_add65 hs.1.2.1.2.2.2.2.1 (ab.1, ab.2.1, nI v.1, y.1)
    dsimp only at hd
    have ha := (k_add65 (d + 3) hs.1.2.1.2.2.2.2.1 (nI ab.1) (nI ab.2.1) (nI v.1) (nI y.1)).2 g
    rw [f9, f10, hq.2.1, hs.2.1, ha, mBI_s]
    refine ⟨_, rfl, ⟨?_, lC_W hs.1.2.1 hd (fun a ha => ?_), hs.1.2.2⟩, ?_⟩
    · exact rdC_60 (rdC_60 (rdC_60 (rdC_60 (rdC_60 hs.1.1 (by decide) _) (by decide) _) (by decide) _) (by decide) _) (by decide) _
    · rw [sR_ne _ _ (by omega), sR_ne _ _ (by omega), sR_ne _ _ (by omega), sR_ne _ _ (by omega), sR_ne _ _ (by omega)]
    · exact kL_t (kL_s _ (b := 66) (by omega) _) (kL_t (kL_s _ (b := 67) (by omega) _) (kL_t (kL_s _ (b := 68) (by omega) _) (kL_t (kL_s _ (b := 69) (by omega) _) (kL_s _ (b := 65) (by omega) _))))
  · rw [dF _ g, cF, cF]
    exact kP_z (k_refuse _ 3 _ h.1.2.2.2.1 _)

