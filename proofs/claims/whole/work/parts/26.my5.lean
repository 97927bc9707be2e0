/-! ===== the reference's years, whole ===== -/
/-- what is done more in year 0, as the reference has it -/
def mrOK (σ : mS) (m : Nat) (a b : Nat → Nat) (n : Nat → Int32) : Prop := m ≤ 2 ∧ σ.1 200 19 = nI m ∧ ∀ i, i < m → σ.1 216 i = nI (a i) ∧ σ.1 217 i = nI (b i) ∧ σ.1 218 i = n i ∧ a i < 6 ∧ b i < 6
set_option maxHeartbeats 4000000 in
theorem r_goM (d y : Nat) (hy : y < 12) (σ : mS) {m : Nat} {a b : Nat → Nat} {n : Nat → Int32} (hm : mrOK σ m a b n) (v3 : Value) (N : Nat → Int32) : Xx (d + 1) n_M_goYears 117 [.ref 200, .int (nI y), .int (nI 0), v3] [] (sR σ 224 N) = Xx (d + 1) n_M_goYears 159 [.ref 200, .int (nI y), .int (nI 0), v3] [] (sR σ 224 (if y = 0 then mrS m a b n N else N)) := by
  obtain ⟨h2, h19, hi⟩ := hm
  by_cases h0 : y = 0
  · subst h0
    rw [if_pos rfl]
    have hs := mFor (fun k (N : Nat → Int32) => Xx (d + 1) n_M_goYears 117 [.ref 200, .int (nI 0), .int (nI k), v3] [] (sR σ 224 N)) (fun i N => upd N (6 * b i + a i) (vMx (N (6 * b i + a i) - n i) (-60))) m N (by
      intro k hk
      generalize mF _ k N = N'
      obtain ⟨e1, e2, e3, e4, e5⟩ := hi k hk
      rw [q_M_goYears_117]
      simp (disch := omega) only [nI_1, mIn_nI, nI_clamp, cT, sR_ne _ _ (show 200 ≠ 224 by decide), sR_ne _ _ (show 216 ≠ 224 by decide), sR_ne _ _ (show 217 ≠ 224 by decide), sR_ne _ _ (show 218 ≠ 224 by decide), h19, e1, e2, e3]
      rw [dle (by omega) (by omega), dF _ (by omega), cF, show decide (¬ nI 0 = 0) = false by decide, cF, r_wrongDone d e4 e5, mBV_s, sR_at, sR_sR])
    rw [hs, q_M_goYears_117]
    simp only [sR_ne _ _ (show 200 ≠ 224 by decide), h19]
    rw [dle (by omega) (by omega), dT _ (Nat.le_refl m), cT]
    rfl
  · rw [if_neg h0, q_M_goYears_117, dT _ (show ¬ nI y = 0 from nI_ne0 (by omega) (by omega)), cT]
    cases decide ((sR σ 224 N).1 200 19 ≤ nI 0) <;> rfl
/-- a pair's feeling as a year begins -/
def fBg (fe : Nat → Int32) (W A : List Dd) (out : Option Nat) (law : Int32) (th : Nat → Bool) (ex : Nat → Int32) (c : Nat) : Nat → Int32
  | 0 => fe c
  | y + 1 => fdS law (th y) (fS fe W A out law th ex c y)
set_option maxHeartbeats 8000000 in
theorem r_goYears (d : Nat) (l : Lv) (hl : lvOK l) (σ : mS) (hM : lM (σ.1 201) l) (out : Option Nat) (ho : σ.1 200 22 = oI out) (ho2 : ∀ i, out = some i → i < 2 ^ 31) {m : Nat} {a b : Nat → Nat} {n : Nat → Int32} (hm : mrOK σ m a b n) (th : Nat → Bool) (hth : ∀ y, y < 12 → th y = bt (σ.1 200 21) y) (ex : Nat → Int32) (hex0 : ∀ c, bw 0 (ex c) 1000) (hex : ∀ (N : Nat → Int32) (c : Nat), c < 36 → bw (-60) (N c) 60 → mrS m a b n N c = vMx (N c - ex c) (-60)) :
    ∃ N F, Cc (d + 3) n_M_goYears [.ref 200, .null, .null, .null] σ = some (.null, sR (sR σ 224 N) 223 F) ∧ ∀ y, y < lY l → ∀ c, c < 36 → F (36 * y + c) = fS (lFe l) (lWr l) (lAc l) out (σ.1 200 20) th ex c y := by
  have hY : lY l ≤ 12 := hl.1
  have hw : ∀ x ∈ lWr l, ddOK (lP l) x := fun x hx => (hl.2.2.2.2.2.2.2.2.2.2.2.2.2.1 x hx).1
  have ha : ∀ x ∈ lAc l, ddOK (lP l) x := fun x hx => (hl.2.2.2.2.2.2.2.2.2.2.2.2.2.2.1 x hx).1
  rw [Cc_s, q_M_goYears_0, show (0 : Int32) = nI 0 from rfl]
  -- the first row
  have h0 := mForN (fun k => Xx (d + 2) n_M_goYears 2 [.ref 200, .int (nI k), .null, .null] [] (sR σ 224 (rF (fun c => σ.1 201 (15 + c)) (σ.1 224) k))) 36 (by
    intro k hk
    show Xx (d + 2) n_M_goYears 2 _ [] _ = Xx (d + 2) n_M_goYears 2 _ [] _
    rw [q_M_goYears_2, show decide ((36 : Int32) ≤ nI k) = false from decide_eq_false (nI_ge (b := 36) hk (by decide)), cF]
    simp (disch := omega) only [nI_1, li_15, nI_add, mIn_nI, nI_clamp, mUpI_sR, sR_sR, sR_at, cT]
    rw [sR_ne _ _ (by omega), rF_s (fun c => σ.1 201 (15 + c))])
  rw [rF_0, sR_self] at h0
  rw [h0, q_M_goYears_2, show decide ((36 : Int32) ≤ nI 36) = true by decide, cT]
  -- year by year
  have step : ∀ y, y ≤ lY l → ∃ v2 v3 N F, Xx (d + 2) n_M_goYears 31 [.ref 200, .int (nI 0), .null, .null] [] (sR σ 224 (rF (fun c => σ.1 201 (15 + c)) (σ.1 224) 36)) = Xx (d + 2) n_M_goYears 31 [.ref 200, .int (nI y), v2, v3] [] (sR (sR σ 224 N) 223 F) ∧ (∀ c, c < 36 → N c = fBg (lFe l) (lWr l) (lAc l) out (σ.1 200 20) th ex c y) ∧ ∀ y', y' < y → ∀ c, c < 36 → F (36 * y' + c) = fS (lFe l) (lWr l) (lAc l) out (σ.1 200 20) th ex c y' := by
    intro y
    induction y with
    | zero =>
      intro _
      refine ⟨.null, .null, rF (fun c => σ.1 201 (15 + c)) (σ.1 224) 36, σ.1 223, ?_, fun c hc => ?_, fun y' h => by omega⟩
      · have := sR_self (sR σ 224 (rF (fun c => σ.1 201 (15 + c)) (σ.1 224) 36)) 223
        rw [sR_ne _ _ (by omega)] at this
        rw [this]
      · rw [rF_at hc]
        exact hM.2.2.1 c hc
    | succ y ih =>
      intro hy
      obtain ⟨v2, v3, N, F, e, hN, hF⟩ := ih (by omega)
      obtain ⟨v, hW⟩ := r_goW (d + 1) y (by omega) l hl (sR σ 223 F) (by rw [sR_ne _ _ (by decide)]; exact hM) out (by rw [sR_ne _ _ (by decide)]; exact ho) ho2 v3 N
      have hA := r_actsIn d y (by omega) l hl (sR σ 223 F) (by rw [sR_ne _ _ (by decide)]; exact hM) (wAl y (lWr l) out N)
      have hMo := r_goM (d + 1) y (by omega) (sR σ 223 F) (m := m) (a := a) (b := b) (n := n) (by
        refine ⟨hm.1, by rw [sR_ne _ _ (by decide)]; exact hm.2.1, fun i hi => ?_⟩
        rw [sR_ne _ _ (by decide), sR_ne _ _ (by decide), sR_ne _ _ (by decide)]
        exact hm.2.2 i hi) v (wAl y (lAc l) none (wAl y (lWr l) out N))
      have hE := r_goE (d + 1) y (by omega) v σ (if y = 0 then mrS m a b n (wAl y (lAc l) none (wAl y (lWr l) out N)) else wAl y (lAc l) none (wAl y (lWr l) out N)) F th (hth y (by omega))
      have hval : ∀ c, c < 36 → (if y = 0 then mrS m a b n (wAl y (lAc l) none (wAl y (lWr l) out N)) else wAl y (lAc l) none (wAl y (lWr l) out N)) c = fS (lFe l) (lWr l) (lAc l) out (σ.1 200 20) th ex c y := by
        intro c hc
        cases y with
        | zero =>
          have hb : bw (-60) (wAl 0 (lAc l) none (wAl 0 (lWr l) out N) c) 60 := by
            rw [wAl_c, wAl_c, hN c hc]
            exact ddL_bw none ha (ddL_bw out hw (hl.2.2.2.2.2.2.2.2.2.2.1 c hc))
          rw [if_pos rfl, hex _ c hc hb, wAl_c, wAl_c, hN c hc]
          rfl
        | succ y =>
          rw [if_neg (by omega), wAl_c, wAl_c, hN c hc]
          rfl
      generalize (if y = 0 then mrS m a b n (wAl y (lAc l) none (wAl y (lWr l) out N)) else wAl y (lAc l) none (wAl y (lWr l) out N)) = M at hMo hE hval
      refine ⟨.int (nI 36), v, rF (fun c => fdS (σ.1 200 20) (th y) (M c)) M 36, (fun j => if 36 * y ≤ j ∧ j < 36 * y + 36 then M (j - 36 * y) else F j), ?_, ?_, ?_⟩
      · rw [e, q_M_goYears_31, r_yearMany, mBI_s]
        simp only [sR_ne _ _ (show 201 ≠ 223 by decide), sR_ne _ _ (show 201 ≠ 224 by decide), hM.1.1]
        rw [dle (by omega) (by omega), dF _ (by omega), cF, sR_comm _ (show 224 ≠ 223 by decide), show (0 : Int32) = nI 0 from rfl, hW, q_M_goYears_41]
        simp only [sR_ne _ _ (show 201 ≠ 223 by decide), sR_ne _ _ (show 201 ≠ 224 by decide), hM.1.2.2.2.2.2.1]
        rw [dle (by have := hl.2.2.2.2.2.2.2.2.2.2.2.2.2.2.2.1; omega) (by have := hl.2.2.2.2.2.2.2.2.2.2.2.2.2.2.2.1; omega), dT _ (Nat.le_refl _), cT, hA, mBV_s, show (0 : Int32) = nI 0 from rfl, hMo, sR_comm _ (show 223 ≠ 224 by decide)]
        exact hE
      · intro c hc
        rw [rF_at hc, hval c hc]
        rfl
      · intro y' hy' c hc
        dsimp only
        by_cases h : y' = y
        · subst h
          rw [if_pos (by omega), show 36 * y' + c - 36 * y' = c by omega, hval c hc]
        · rw [if_neg (by omega)]
          exact hF y' (by omega) c hc
  obtain ⟨v2, v3, N, F, e, -, hF⟩ := step (lY l) (Nat.le_refl _)
  refine ⟨N, F, ?_, hF⟩
  rw [show (0 : Int32) = nI 0 from rfl, e, q_M_goYears_31, r_yearMany, mBI_s]
  simp only [sR_ne _ _ (show 201 ≠ 223 by decide), sR_ne _ _ (show 201 ≠ 224 by decide), hM.1.1]
  rw [dle (by omega) (by omega), dT _ (Nat.le_refl _), cT]
