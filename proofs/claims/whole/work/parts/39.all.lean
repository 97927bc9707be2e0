/-! ===== a course of the class, whole ===== -/
def cR (σ : mS) (o : Nat) (l : Lv) (v : Va) : Prop := cV σ o l v ∧ cF0 σ o l v ∧ cW σ o l v ∧ cG σ o l v
theorem cF0_c {σ τ : mS} {o : Nat} {l : Lv} {v : Va} (h : cF0 σ o l v) (e : τ.1 (o + 3) = σ.1 (o + 3)) : cF0 τ o l v := by
  unfold cF0; rw [e]; exact h
theorem cW_c {σ τ : mS} {o : Nat} {l : Lv} {v : Va} (h : cW σ o l v) (e : τ.1 (o + 4) = σ.1 (o + 4)) : cW τ o l v := by
  unfold cW; rw [e]; exact h
theorem cG_c {σ τ : mS} {o : Nat} {l : Lv} {v : Va} (h : cG σ o l v) (e : τ.1 (o + 5) = σ.1 (o + 5)) : cG τ o l v := by
  unfold cG; rw [e]; exact h
theorem cR_c {σ τ : mS} {o : Nat} {l : Lv} {v : Va} (h : cR σ o l v) (e : ∀ a, o ≤ a → a ≤ o + 5 → τ.1 a = σ.1 a) : cR τ o l v := ⟨cV_c h.1 (fun a h1 h2 => e a h1 (by omega)), cF0_c h.2.1 (e _ (by omega) (by omega)), cW_c h.2.2.1 (e _ (by omega) (by omega)), cG_c h.2.2.2 (e _ (by omega) (by omega))⟩
theorem wgR_at {l : Lv} {v : Va} {p n : Nat} (hp : p < 6) {f : Nat → Int32} {q p' : Nat} (hq : q < n) (hp' : p' < 6) : wgR l v p n f (6 * q + p') = if p' = p then wd l v q p else f (6 * q + p') := by
  unfold wgR
  rw [show (6 * q + p') % 6 = p' by omega, show (6 * q + p') / 6 = q by omega]
  by_cases h : p' = p
  · rw [if_pos ⟨h, hq⟩, if_pos h]
  · rw [if_neg (fun q => h q.1), if_neg h]
theorem k_weigh2 (d o : Nat) (ho : o = 20 ∨ o = 30) {l : Lv} (hl : lvOK l) {v : Va} {p : Nat} (hp : p < lP l) {σ : mS} (hC : lC σ 40 l) (hV : cV σ o l v) (hF : cF0 σ o l v) (hW : ∀ q, q < lQ l → ∀ p', p' < lP l → p' ≠ p → σ.1 (o + 4) (6 * q + p') = wd l v q p') : ∃ τ, Cc (d + 4) n_Co_weigh [.ref o, .int (nI p), .null, .null] σ = some (.null, τ) ∧ kO o σ τ ∧ cV τ o l v ∧ cF0 τ o l v ∧ cW τ o l v := by
  have hP := lvP hl
  refine ⟨_, k_weigh d o ho hl hp hC hV hF, kO_s _ (by omega) (by omega) _, cV_c hV (fun a h1 h2 => sR_ne _ _ (by omega)), cF0_c hF (sR_ne _ _ (by omega)), fun q hq p' hp' => ?_⟩
  rw [sR_at, wgR_at (by omega) hq (by omega)]
  by_cases h : p' = p
  · rw [if_pos h, h]
  · rw [if_neg h]; exact hW q hq p' hp' h
theorem k_give2 (d o : Nat) (ho : o = 20 ∨ o = 30) {l : Lv} (hl : lvOK l) {v : Va} {σ : mS} (hC : lC σ 40 l) (hV : cV σ o l v) (hF : cF0 σ o l v) (hW : cW σ o l v) : ∃ τ, Cc (d + 3) n_Co_givePosts [.ref o, .null, .null, .null, .null] σ = some (.null, τ) ∧ kO o σ τ ∧ cR τ o l v := by
  refine ⟨_, k_givePosts d o ho hl hC hW, kO_s _ (by omega) (by omega) _, cV_c hV (fun a h1 h2 => sR_ne _ _ (by omega)), cF0_c hF (sR_ne _ _ (by omega)), cW_c hW (sR_ne _ _ (by omega)), fun q hq => ?_⟩
  rw [sR_at, oRw_at hq]
  rfl
theorem k_run (d o : Nat) (ho : o = 20 ∨ o = 30) {l : Lv} (hl : lvOK l) {v : Va} (hv : vaOK v) {σ : mS} (hC : lC σ 40 l) (hV : cV σ o l v) : ∃ τ, Cc (d + 5) n_Co_run [.ref o, .null] σ = some (.null, τ) ∧ kO o σ τ ∧ cR τ o l v := by
  have hP := lvP hl
  obtain ⟨G, e, hF⟩ := k_live2 d o ho 0 36 (by omega) (by omega) hl hv hC hV (fun y _ c hc h => absurd ⟨Nat.zero_le _, hc⟩ h)
  have hk1 : kO o σ (sR σ (o + 3) G) := kO_s _ (by omega) (by omega) _
  have hV1 : cV (sR σ (o + 3) G) o l v := cV_c hV (fun a h1 h2 => sR_ne _ _ (by omega))
  generalize sR σ (o + 3) G = τ1 at e hF hk1 hV1
  have key : ∀ k, k ≤ lP l → ∃ τ, Xx (d + 4) n_Co_run 9 [.ref o, .int (nI 0)] [] τ1 = Xx (d + 4) n_Co_run 9 [.ref o, .int (nI k)] [] τ ∧ kO o σ τ ∧ cV τ o l v ∧ cF0 τ o l v ∧ ∀ q, q < lQ l → ∀ p, p < k → τ.1 (o + 4) (6 * q + p) = wd l v q p := by
    intro k
    induction k with
    | zero => intro _; exact ⟨τ1, rfl, hk1, hV1, hF, fun _ _ _ h => by omega⟩
    | succ k ih =>
      intro hk
      obtain ⟨τ, e1, h1, h2, h3, h4⟩ := ih (by omega)
      have hC' := lC_kO ho hC h1
      refine ⟨_, ?_, kO_t h1 (kO_s τ (b := o + 4) (by omega) (by omega) (wgR l v k (lQ l) (τ.1 (o + 4)))), cV_c h2 (fun a h1 h2 => sR_ne _ _ (by omega)), cF0_c h3 (sR_ne _ _ (by omega)), fun q hq p hp => ?_⟩
      · rw [e1, q_Co_run_9 _ _ _ ho, hC'.1.2.2.2.1, dle (by omega) (by omega), dF _ (by omega), cF, k_weigh d o ho hl (by omega) hC' h2 h3, mBV_s, nI_1]
      · rw [sR_at, wgR_at (by omega) hq (by omega)]
        by_cases h : p = k
        · rw [if_pos h, h]
        · rw [if_neg h]; exact h4 q hq p (by omega)
  obtain ⟨τ, e1, h1, h2, h3, h4⟩ := key (lP l) (Nat.le_refl _)
  have hC' := lC_kO ho hC h1
  obtain ⟨τ', e2, h5, h6⟩ := k_give2 (d + 1) o ho hl hC' h2 h3 h4
  refine ⟨τ', ?_, kO_t h1 h5, h6⟩
  rw [Cc_s, q_Co_run_0 _ _ ho, show (Value.int 0) = Value.int (nI 0) from rfl, show (Value.int 36) = Value.int (nI 36) from rfl, e, mBV_s, e1, q_Co_run_9 _ _ _ ho, hC'.1.2.2.2.1, dT _ (Int32.le_refl _), cT, e2, mBV_s]
theorem k_refresh (d : Nat) {l : Lv} (hl : lvOK l) {σ : mS} (hC : lC σ 40 l) : ∃ τ, Cc (d + 6) n_E_refresh [.ref 0] σ = some (.null, τ) ∧ kO 20 σ τ ∧ cR τ 20 l (vS l) := by
  obtain ⟨τ1, e1, h1, hV⟩ := k_reset (d + 3) 20 (Or.inl rfl) hl hC
  have hC1 := lC_kO (Or.inl rfl) hC h1
  obtain ⟨τ2, e2, h2, hR⟩ := k_run d 20 (Or.inl rfl) hl (vS_ok hl) hC1 hV
  refine ⟨τ2, ?_, kO_t h1 h2, hR⟩
  rw [Cc_s, q_E_refresh_0, e1, mBV_s, e2, mBV_s]
/-! ===== the reference: what it keeps, and all of it ===== -/
def sM (σ τ : mS) : Prop := (∀ a, a < 200 ∨ (200 < a ∧ a < 215) ∨ 239 < a → τ.1 a = σ.1 a) ∧ (∀ k, k < 15 → τ.1 200 k = σ.1 200 k) ∧ (∀ a, a < 200 ∨ (200 < a ∧ a < 243) ∨ 243 < a → τ.2 a = σ.2 a)
theorem sM_r (σ : mS) : sM σ σ := ⟨fun _ _ => rfl, fun _ _ => rfl, fun _ _ => rfl⟩
theorem sM_t {σ τ υ : mS} (h : sM σ τ) (g : sM τ υ) : sM σ υ := ⟨fun a ha => (g.1 a ha).trans (h.1 a ha), fun k hk => (g.2.1 k hk).trans (h.2.1 k hk), fun a ha => (g.2.2 a ha).trans (h.2.2 a ha)⟩
theorem sM_s (σ : mS) {b : Nat} (h1 : 215 ≤ b) (h2 : b ≤ 239) (f : Nat → Int32) : sM σ (sR σ b f) := ⟨fun a ha => sR_ne _ _ (by omega), fun k _ => by rw [sR_ne _ _ (by omega)], fun _ _ => rfl⟩
theorem sM_u (σ : mS) {k : Nat} (hk : 15 ≤ k) (x : Int32) : sM σ (mUpI σ 200 k x) := by
  rw [mUpI_sR]
  refine ⟨fun a ha => sR_ne _ _ (by omega), fun j hj => ?_, fun _ _ => rfl⟩
  rw [sR_at, upd_ne _ _ (by omega)]
theorem sM_pN (σ : mS) (u : Int32) : sM σ (pN σ u) := sM_u σ (by omega) u
theorem sM_gS (σ : mS) (g : G3) (u : Int32) : sM σ (gS σ g u) := sM_t (sM_pN σ u) (sM_t (sM_s _ (by omega) (by omega) _) (sM_s _ (by omega) (by omega) _))
theorem sM_lM {σ τ : mS} (h : sM σ τ) {l : Lv} (g : lM (σ.1 201) l) : lM (τ.1 201) l := by rw [h.1 201 (by omega)]; exact g
/-- what the reference's course is told -/
def rV (σ : mS) (l : Lv) (v : Va) (m : Nat) : Prop := lM (σ.1 201) l ∧ σ.1 200 20 = vLaw v ∧ σ.1 200 21 = vTh v ∧ σ.1 200 22 = oI (vOut v) ∧ (∀ p, p < lP l → σ.1 215 p = vSk v p) ∧ ∃ a b n, mrOK σ m a b n ∧ ∀ (N : Nat → Int32) (c : Nat), c < 36 → bw (-60) (N c) 60 → mrS m a b n N c = vMx (N c - vEx v c) (-60)
theorem rV_c {σ τ : mS} {l : Lv} {v : Va} {m : Nat} (h : rV σ l v m) (e1 : τ.1 201 = σ.1 201) (e2 : ∀ k, 19 ≤ k → k ≤ 22 → τ.1 200 k = σ.1 200 k) (e3 : τ.1 215 = σ.1 215) (e4 : τ.1 216 = σ.1 216) (e5 : τ.1 217 = σ.1 217) (e6 : τ.1 218 = σ.1 218) : rV τ l v m := by
  obtain ⟨h1, h2, h3, h4, h5, a, b, n, h6, h7⟩ := h
  refine ⟨by rw [e1]; exact h1, by rw [e2 20 (by omega) (by omega)]; exact h2, by rw [e2 21 (by omega) (by omega)]; exact h3, by rw [e2 22 (by omega) (by omega)]; exact h4, by rw [e3]; exact h5, a, b, n, ?_, h7⟩
  unfold mrOK at h6 ⊢
  rw [e2 19 (by omega) (by omega), e4, e5, e6]
  exact h6
/-- who gets what, as the reference has it -/
def rG (σ : mS) (l : Lv) (v : Va) : Prop := (∀ q, q < 5 → σ.1 225 q = oI (win l v q)) ∧ ∀ q, q < 5 → σ.1 226 q = oI (nxt l v q)
def rA (σ : mS) (l : Lv) (v : Va) (m : Nat) : Prop := rV σ l v m ∧ rF1 σ l v ∧ rG σ l v
theorem r_goYears2 (d : Nat) {l : Lv} (hl : lvOK l) {v : Va} (hv : vaOK v) {m : Nat} {σ : mS} (h : rV σ l v m) : ∃ τ, Cc (d + 3) n_M_goYears [.ref 200, .null, .null, .null] σ = some (.null, τ) ∧ sM σ τ ∧ rV τ l v m ∧ rF1 τ l v := by
  obtain ⟨h1, h2, h3, h4, h5, a, b, n, h6, h7⟩ := id h
  obtain ⟨N, F, e, hF⟩ := r_goYears d l hl σ h1 (vOut v) h4 hv.2.1 h6 (bt (vTh v)) (fun y _ => by rw [h3]) (vEx v) hv.2.2.1 h7
  refine ⟨_, e, sM_t (sM_s σ (b := 224) (by omega) (by omega) N) (sM_s _ (b := 223) (by omega) (by omega) F), ?_, ?_⟩
  · exact rV_c h (by rw [sR_ne _ _ (by decide), sR_ne _ _ (by decide)]) (fun k _ _ => by rw [sR_ne _ _ (by decide), sR_ne _ _ (by decide)]) (by rw [sR_ne _ _ (by decide), sR_ne _ _ (by decide)]) (by rw [sR_ne _ _ (by decide), sR_ne _ _ (by decide)]) (by rw [sR_ne _ _ (by decide), sR_ne _ _ (by decide)]) (by rw [sR_ne _ _ (by decide), sR_ne _ _ (by decide)])
  · refine ⟨?_, fun y hy c hc => ?_, fun p hp => ?_⟩
    · rw [sR_ne _ _ (by decide), sR_ne _ _ (by decide)]; exact h1
    · rw [sR_at, hF y hy c hc, h2]; rfl
    · rw [sR_ne _ _ (by decide), sR_ne _ _ (by decide)]; exact h5 p hp
theorem r_givePosts2 (d : Nat) {l : Lv} (hl : lvOK l) {v : Va} (hv : vaOK v) {m : Nat} {σ : mS} (h : rV σ l v m) (h' : rF1 σ l v) : ∃ τ, Cc (d + 7) n_M_givePosts [.ref 200, .null, .null, .null] σ = some (.null, τ) ∧ sM σ τ ∧ rA τ l v m := by
  obtain ⟨u, e⟩ := r_givePosts d hl hv h'
  refine ⟨_, e, sM_gS _ _ _, ?_, gS_rF1 h' _ _, fun q hq => ?_, fun q hq => ?_⟩
  · have n2 : ∀ k, 19 ≤ k → k ≤ 22 → (gS σ (gvA l (wd l v)) u).1 200 k = σ.1 200 k := by
      intro k h1 h2
      unfold gS
      rw [sR_ne _ _ (by decide), sR_ne _ _ (by decide), pN_k _ _ (by omega)]
    exact rV_c h (gS_ne _ _ _ (by decide) (by decide) (by decide)) n2 (gS_ne _ _ _ (by decide) (by decide) (by decide)) (gS_ne _ _ _ (by decide) (by decide) (by decide)) (gS_ne _ _ _ (by decide) (by decide) (by decide)) (gS_ne _ _ _ (by decide) (by decide) (by decide))
  · rw [gS_225, oRw_at hq]; rfl
  · rw [gS_226, oRw_at hq]; rfl
theorem r_goAll (d : Nat) {l : Lv} (hl : lvOK l) {v : Va} (hv : vaOK v) {m : Nat} {σ : mS} (h : rV σ l v m) : ∃ τ, Cc (d + 8) n_M_goAll [.ref 200] σ = some (.null, τ) ∧ sM σ τ ∧ rA τ l v m := by
  obtain ⟨τ1, e1, s1, v1, f1⟩ := r_goYears2 (d + 4) hl hv h
  obtain ⟨τ2, e2, s2, a2⟩ := r_givePosts2 d hl hv v1 f1
  refine ⟨τ2, ?_, sM_t s1 s2, a2⟩
  rw [Cc_s, q_M_goAll_0, e1, mBV_s, e2, mBV_s]
theorem vMx_id {x : Int32} (h : bw (-60) x 60) : vMx (x - 0) (-60) = x := by
  rw [Int32.sub_zero]
  unfold vMx
  refine if_neg (fun q => ?_)
  have := Int32.lt_iff_toInt_lt.mp q
  rw [t60] at this
  have := h.1
  omega
theorem r_asItIs2 (d : Nat) {l : Lv} (hl : lvOK l) {σ : mS} (h : lM (σ.1 201) l) : ∃ τ, Cc (d + 1) n_M_asItIs [.ref 200, .null] σ = some (.null, τ) ∧ sM σ τ ∧ rV τ l (vS l) 0 := by
  have hP := lvP hl
  refine ⟨_, r_asItIs d σ, ?_, ?_⟩
  · refine sM_t (τ := sR σ 200 (upd (upd (upd (upd (σ.1 200) 20 (σ.1 201 1)) 21 0) 19 0) 22 (-1))) ?_ (sM_s _ (by omega) (by omega) _)
    refine ⟨fun a ha => sR_ne _ _ (by omega), fun k hk => ?_, fun _ _ => rfl⟩
    rw [sR_at, upd_ne _ _ (by omega), upd_ne _ _ (by omega), upd_ne _ _ (by omega), upd_ne _ _ (by omega)]
  · refine ⟨?_, ?_, ?_, ?_, fun p hp => ?_, fun _ => 0, fun _ => 0, fun _ => 0, ⟨by omega, ?_, fun i hi => by omega⟩, fun N c _ hb => ?_⟩
    · rw [sR_ne _ _ (by decide), sR_ne _ _ (by decide)]; exact h
    · rw [sR_ne _ _ (by decide), sR_at, upd_ne _ _ (by decide), upd_ne _ _ (by decide), upd_ne _ _ (by decide), upd_at]
      exact h.1.2.1
    · rw [sR_ne _ _ (by decide), sR_at, upd_ne _ _ (by decide), upd_ne _ _ (by decide), upd_at]
      rfl
    · rw [sR_ne _ _ (by decide), sR_at, upd_at]
      rfl
    · rw [sR_at, rF_at (by omega)]
      exact h.2.1 p hp
    · rw [sR_ne _ _ (by decide), sR_at, upd_ne _ _ (by decide), upd_at]
      rfl
    · exact (vMx_id hb).symm
theorem r_asksLand (d : Nat) {l : Lv} (hl : lvOK l) {σ : mS} (h : lM (σ.1 201) l) : ∃ τ, Cc (d + 9) n_M_asksLand [.ref 200] σ = some (.int (bI (decide (0 < lLn l))), τ) ∧ sM σ τ ∧ rA τ l (vS l) 0 := by
  obtain ⟨τ1, e1, s1, v1⟩ := r_asItIs2 (d + 7) hl h
  obtain ⟨τ2, e2, s2, a2⟩ := r_goAll d hl (vS_ok hl) v1
  refine ⟨τ2, ?_, sM_t s1 s2, a2⟩
  have hLn := lvLn hl
  rw [Cc_s, q_M_asksLand_0, e1, mBV_s, e2, mBV_s, r_isLand _ _ (lM_Ln a2.1.1) (by omega), mBI_s, mZ_b]
  rfl
theorem mIn_0 (x : Int32) : mIn x 0 = false := by
  unfold mIn
  rw [show Nat.blt x.toNatClampNeg 0 = false from by cases h : Nat.blt x.toNatClampNeg 0 with | false => rfl | true => exact absurd (Nat.blt_eq.mp h) (Nat.not_lt_zero _), Bool.and_false]
theorem ln_Y {l : Lv} (hl : lvOK l) (x : Int32) : (decide (0 < lLn l) && mIn x (lY l)) = mIn x (lY l) := by
  by_cases h : 0 < lLn l
  · rw [decide_eq_true h]; rfl
  · have := lvLY hl
    rw [show lY l = 0 by omega, mIn_0, Bool.and_false]
theorem r_asksYear (d : Nat) (x : Int32) {l : Lv} (hl : lvOK l) {σ : mS} (h : lM (σ.1 201) l) : ∃ τ, Cc (d + 10) n_M_asksYear [.ref 200, .int x] σ = some (.int (bI (mIn x (lY l))), τ) ∧ sM σ τ ∧ rA τ l (vS l) 0 := by
  obtain ⟨τ, e, s, a⟩ := r_asksLand d hl h
  have hLn := lvLn hl
  have hY := lvY hl
  refine ⟨τ, ?_, s, a⟩
  rw [Cc_s, q_M_asksYear_0, e, mBI_s, r_isYear _ _ _ (lM_Ln a.1.1) (by omega) (lM_Y a.1.1) (by omega), mBI_s, ln_Y hl, mZ_b]
  rfl
theorem r_asksPerson (d : Nat) (x : Int32) {l : Lv} (hl : lvOK l) {σ : mS} (h : lM (σ.1 201) l) : ∃ τ, Cc (d + 10) n_M_asksPerson [.ref 200, .int x] σ = some (.int (bI (mIn x (lP l))), τ) ∧ sM σ τ ∧ rA τ l (vS l) 0 := by
  obtain ⟨τ, e, s, a⟩ := r_asksLand d hl h
  have hP := lvP hl
  refine ⟨τ, ?_, s, a⟩
  rw [Cc_s, q_M_asksPerson_0, e, mBI_s, r_isPerson _ _ _ (lM_P a.1.1) (by omega), mBI_s, mZ_b]
  rfl
theorem r_asksPost (d : Nat) (x : Int32) {l : Lv} (hl : lvOK l) {σ : mS} (h : lM (σ.1 201) l) : ∃ τ, Cc (d + 10) n_M_asksPost [.ref 200, .int x] σ = some (.int (bI (mIn x (lQ l))), τ) ∧ sM σ τ ∧ rA τ l (vS l) 0 := by
  obtain ⟨τ, e, s, a⟩ := r_asksLand d hl h
  have hQ := lvQ hl
  refine ⟨τ, ?_, s, a⟩
  rw [Cc_s, q_M_asksPost_0, e, mBI_s, r_isPost _ _ _ (lM_Q a.1.1) (by omega), mBI_s, mZ_b]
  rfl
