/-! ===== the class's years whole ===== -/
theorem mFit_ok {σ : mS} {a b s t n : Nat} {la lb : Nat} (ha : w0.2.2.2 σ a = la) (hb : w0.2.2.2 σ b = lb) (h1 : s + n ≤ la) (h2 : t + n ≤ lb) (h3 : la < 2 ^ 31) (h4 : lb < 2 ^ 31) : mFit w0 σ a b (nI s) (nI t) (nI n) = true := by
  unfold mFit
  rw [ha, hb, nI_clamp (by omega), nI_clamp (by omega), nI_clamp (by omega), decide_eq_false (nI_pos (by omega)), decide_eq_false (nI_pos (by omega)), decide_eq_false (nI_pos (by omega)), Nat.ble_eq.mpr h1, Nat.ble_eq.mpr h2]
  rfl
theorem nI_sub {a b : Nat} (h : a ≤ b) : nI b - nI a = nI (b - a) := by
  rw [show b = (b - a) + a by omega, ← nI_add, Int32.add_sub_cancel, Nat.add_sub_cancel]
theorem len_co (o k n : Nat) (ho : o = 20 ∨ o = 30) (σ : mS) (h : wAn σ (20 + k) = n) (h' : wAn σ (30 + k) = n) : w0.2.2.2 σ (o + k) = n := by
  rcases ho with rfl | rfl
  · exact h
  · exact h'
/-- what is done more in year 0, on a row of years -/
def exR (a b : Nat) (E G : Nat → Int32) : Nat → Int32 := fun j => if a ≤ j ∧ j < b then vMx (G j - E j) (-60) else G j
set_option maxHeartbeats 8000000 in
theorem k_live79 (d o : Nat) (ho : o = 20 ∨ o = 30) (a b : Nat) (hab : a ≤ b) (hb : b ≤ 36) (y : Nat) (hy : y < 12) (σ : mS) (G : Nat → Int32) : ∃ v, Xx d n_Co_live 79 [.ref o, .int (nI a), .int (nI b), .int (nI y), .int (nI a)] [] (sR σ (o + 3) G) = Xx d n_Co_live 21 [.ref o, .int (nI a), .int (nI b), .int (nI (y + 1)), v] [] (sR σ (o + 3) (if y = 0 then exR a b (σ.1 (o + 1)) G else G)) := by
  by_cases h0 : y = 0
  · subst h0
    rw [if_pos rfl]
    have hs := mForN (fun k => Xx d n_Co_live 79 [.ref o, .int (nI a), .int (nI b), .int (nI 0), .int (nI (a + k))] [] (sR σ (o + 3) (exR a (a + k) (σ.1 (o + 1)) G))) (b - a) (by
      intro k hk
      show Xx d n_Co_live 79 _ [] _ = Xx d n_Co_live 79 _ [] _
      rw [q_Co_live_79 _ _ _ _ _ _ ho, show decide (¬ nI 0 = 0) = false by decide, cF, dle (by omega) (by omega), dF _ (by omega), cF]
      simp (disch := omega) only [nI_1, mIn_nI, nI_clamp, cT, sR_at, mUpI_sR, sR_sR, sR_ne _ _ (show o + 1 ≠ o + 3 by omega)]
      have e : upd (exR a (a + k) (σ.1 (o + 1)) G) (a + k) (vMx (exR a (a + k) (σ.1 (o + 1)) G (a + k) - σ.1 (o + 1) (a + k)) (-60)) = exR a (a + (k + 1)) (σ.1 (o + 1)) G := by
        funext j
        have e1 : exR a (a + k) (σ.1 (o + 1)) G (a + k) = G (a + k) := if_neg (by omega)
        rw [e1]
        unfold upd exR
        by_cases h : j = a + k
        · subst h
          rw [if_pos rfl, if_pos (by omega)]
        · rw [if_neg h]
          by_cases h2 : a ≤ j ∧ j < a + k
          · rw [if_pos h2, if_pos (by omega)]
          · rw [if_neg h2, if_neg (by omega)]
      rw [← e, Nat.add_assoc])
    simp only [Nat.add_zero] at hs
    rw [show exR a a (σ.1 (o + 1)) G = G from funext fun j => if_neg (by omega)] at hs
    refine ⟨.int (nI (a + (b - a))), ?_⟩
    rw [hs, q_Co_live_79 _ _ _ _ _ _ ho, show decide (¬ nI 0 = 0) = false by decide, cF, show a + (b - a) = b by omega, dT _ (Int32.le_refl _), cT, nI_1]
  · refine ⟨.int (nI a), ?_⟩
    rw [if_neg h0, q_Co_live_79 _ _ _ _ _ _ ho, dT _ (nI_ne0 (by omega) (by omega)), cT, nI_1]
set_option maxHeartbeats 8000000 in
theorem k_live (d o : Nat) (ho : o = 20 ∨ o = 30) (a b : Nat) (hab : a ≤ b) (hb : b ≤ 36) (l : Lv) (hl : lvOK l) (σ : mS) (hC : lC σ 40 l) (hlaw : bw 0 (σ.1 o 1) 3) (out : Option Nat) (hout : σ.1 o 3 = oI out) (ho2 : ∀ i, out = some i → i < 2 ^ 31) :
    ∃ G, Cc (d + 4) n_Co_live [.ref o, .int (nI a), .int (nI b), .null, .null] σ = some (.null, sR σ (o + 3) G) ∧ ∀ y, y < lY l → ∀ c, c < 36 → G (36 * y + c) = if a ≤ c ∧ c < b then fS (lFe l) (lWr l) (lAc l) out (σ.1 o 1) (fun y => bt (σ.1 o 2) y) (σ.1 (o + 1)) c y else σ.1 (o + 3) (36 * y + c) := by
  have hY : lY l ≤ 12 := hl.1
  have hP : lP l ≤ 6 := hl.2.1
  have up : ∀ x, ddOK (lP l) x → ddOK 6 x := fun x h => ⟨Nat.lt_of_lt_of_le h.1 hP, Nat.lt_of_lt_of_le h.2.1 hP, h.2.2⟩
  have hw : ∀ x ∈ lWr l, ddOK 6 x := fun x hx => up x (hl.2.2.2.2.2.2.2.2.2.2.2.2.2.1 x hx).1
  have ha : ∀ x ∈ lAc l, ddOK 6 x := fun x hx => up x (hl.2.2.2.2.2.2.2.2.2.2.2.2.2.2.1 x hx).1
  have hwl : (lWr l).length ≤ 8 := hl.2.2.2.2.2.2.2.2.2.2.2.2.2.2.2.1
  have hal : (lAc l).length ≤ 30 := hl.2.2.2.2.2.2.2.2.2.2.2.2.2.2.2.2
  rw [Cc_s, q_Co_live_0 _ _ _ _ ho, nI_sub hab, mFit_ok (la := 36) (lb := 432) rfl (len_co o 3 432 ho σ rfl rfl) (by omega) (by omega) (by omega) (by omega), cT, nI_clamp (by omega), nI_clamp (by omega), mCpI_sR, show (0 : Int32) = nI 0 from rfl]
  have step : ∀ y, y ≤ lY l → ∃ v G, Xx (d + 3) n_Co_live 21 [.ref o, .int (nI a), .int (nI b), .int (nI 0), .null] [] (sR σ (o + 3) (va_cpy (σ.1 42) (σ.1 (o + 3)) a a (b - a))) = Xx (d + 3) n_Co_live 21 [.ref o, .int (nI a), .int (nI b), .int (nI y), v] [] (sR σ (o + 3) G) ∧ (∀ y', y' < y → ∀ c, c < 36 → G (36 * y' + c) = if a ≤ c ∧ c < b then fS (lFe l) (lWr l) (lAc l) out (σ.1 o 1) (fun y => bt (σ.1 o 2) y) (σ.1 (o + 1)) c y' else σ.1 (o + 3) (36 * y' + c)) ∧ (y = 0 → G = va_cpy (σ.1 42) (σ.1 (o + 3)) a a (b - a)) ∧ (0 < y → ∀ j, 36 * y ≤ j → G j = σ.1 (o + 3) j) := by
    intro y
    induction y with
    | zero => intro _; exact ⟨.null, _, rfl, fun y' h => by omega, fun _ => rfl, fun h => by omega⟩
    | succ y ih =>
      intro hy
      obtain ⟨v, G, e, hG, hG0, hG1⟩ := ih (by omega)
      -- the row as the year begins
      obtain ⟨G1, hG1e, hb0, hb1, hb2⟩ : ∃ G1, Xx (d + 3) n_Co_live 21 [.ref o, .int (nI a), .int (nI b), .int (nI y), v] [] (sR σ (o + 3) G) = (mBV (Cc (d + 3) n_Co_suffer [.ref o, .ref 45, .int (oI out), .int (nI y), .int (nI a), .int (nI b), .null, .null, .null, .null] (sR σ (o + 3) G1)) fun τ1 => (mBV (Cc (d + 3) n_Co_suffer [.ref o, .ref 50, .int (oI none), .int (nI y), .int (nI a), .int (nI b), .null, .null, .null, .null] τ1) fun τ2 => Xx (d + 3) n_Co_live 79 [.ref o, .int (nI a), .int (nI b), .int (nI y), .int (nI a)] [] τ2)) ∧ (∀ c, c < 36 → G1 (36 * y + c) = if a ≤ c ∧ c < b then fBg (lFe l) (lWr l) (lAc l) out (σ.1 o 1) (fun y => bt (σ.1 o 2) y) (σ.1 (o + 1)) c y else σ.1 (o + 3) (36 * y + c)) ∧ (∀ j, j < 36 * y → G1 j = G j) ∧ (∀ j, 36 * (y + 1) ≤ j → G1 j = σ.1 (o + 3) j) := by
        cases y with
        | zero =>
          refine ⟨G, ?_, fun c hc => ?_, fun j h => rfl, fun j h => ?_⟩
          · rw [q_Co_live_21 _ _ _ _ _ _ ho]
            simp only [sR_ne _ _ (show 40 ≠ o + 3 by omega), sR_ne _ _ (show o ≠ o + 3 by omega), hC.1.1, hout]
            rw [dle (by omega) (by omega), dF _ (by omega), cF, show decide (nI 0 ≤ 0) = true by decide, cT]
            rfl
          · rw [hG0 rfl, Nat.mul_zero, Nat.zero_add]
            unfold va_cpy
            by_cases h : a ≤ c ∧ c < b
            · rw [if_pos (by omega), if_pos h, show a + (c - a) = c by omega]
              exact hC.2.2.1 c hc
            · rw [if_neg (by omega), if_neg h]
          · rw [hG0 rfl]
            exact if_neg (by omega)
        | succ y =>
          refine ⟨fdR (σ.1 o 1) (bt (σ.1 o 2) y) y a b G, ?_, fun c hc => ?_, fun j h => if_neg (by omega), fun j h => ?_⟩
          · rw [q_Co_live_21 _ _ _ _ _ _ ho]
            simp only [sR_ne _ _ (show 40 ≠ o + 3 by omega), hC.1.1]
            rw [dle (by omega) (by omega), dF _ (by omega), cF, show decide (nI (y + 1) ≤ 0) = false from decide_eq_false (nI_nle (by omega) (by omega)), cF, k_fade d o ho y a b (by omega) hab hb σ hlaw G, mBV_s]
            simp only [sR_ne _ _ (show o ≠ o + 3 by omega), hout]
            rfl
          · unfold fdR
            by_cases h : a ≤ c ∧ c < b
            · rw [if_pos (by omega), if_pos h, show 36 * (y + 1) + c - 36 = 36 * y + c by omega, hG y (by omega) c hc, if_pos h]
              rfl
            · rw [if_neg (by omega), if_neg h]
              exact hG1 (by omega) _ (by omega)
          · unfold fdR
            rw [if_neg (by omega)]
            exact hG1 (by omega) j (by omega)
      have hS1 := k_suffer45 (d + 2) o ho y a b (by omega) (by omega) hb (lWr l) hw hwl out ho2 σ hC.2.2.2.2.1 G1
      have hS2 := k_suffer50 (d + 2) o ho y a b (by omega) (by omega) hb (lAc l) ha hal none (fun i h => by cases h) σ hC.2.2.2.2.2 (sAl y a b (lWr l) out G1)
      obtain ⟨v', h79⟩ := k_live79 (d + 3) o ho a b hab hb y (by omega) σ (sAl y a b (lAc l) none (sAl y a b (lWr l) out G1))
      have hval : ∀ c, c < 36 → (if y = 0 then exR a b (σ.1 (o + 1)) (sAl y a b (lAc l) none (sAl y a b (lWr l) out G1)) else sAl y a b (lAc l) none (sAl y a b (lWr l) out G1)) (36 * y + c) = if a ≤ c ∧ c < b then fS (lFe l) (lWr l) (lAc l) out (σ.1 o 1) (fun y => bt (σ.1 o 2) y) (σ.1 (o + 1)) c y else σ.1 (o + 3) (36 * y + c) := by
        intro c hc
        have two : sAl y a b (lAc l) none (sAl y a b (lWr l) out G1) (36 * y + c) = if a ≤ c ∧ c < b then ddL y c (lAc l) none (ddL y c (lWr l) out (fBg (lFe l) (lWr l) (lAc l) out (σ.1 o 1) (fun y => bt (σ.1 o 2) y) (σ.1 (o + 1)) c y)) else σ.1 (o + 3) (36 * y + c) := by
          rw [sAl_c (Nat.le_refl 6) y a b _ ha, sAl_c (Nat.le_refl 6) y a b _ hw, hb0 c hc, show 36 * y + c - 36 * y = c by omega]
          by_cases h : a ≤ c ∧ c < b
          · rw [if_pos (by omega), if_pos (by omega), if_pos h, if_pos h]
          · rw [if_neg (by omega), if_neg (by omega), if_neg h, if_neg h]
        cases y with
        | zero =>
          rw [if_pos rfl]
          unfold exR
          rw [two]
          by_cases h : a ≤ c ∧ c < b
          · rw [if_pos (by omega), if_pos h, if_pos h, Nat.mul_zero, Nat.zero_add]
            rfl
          · rw [if_neg (by omega), if_neg h, if_neg h]
        | succ y =>
          rw [if_neg (by omega), two]
          rfl
      have hlow : ∀ j, j < 36 * y ∨ 36 * (y + 1) ≤ j → (if y = 0 then exR a b (σ.1 (o + 1)) (sAl y a b (lAc l) none (sAl y a b (lWr l) out G1)) else sAl y a b (lAc l) none (sAl y a b (lWr l) out G1)) j = G1 j := by
        intro j hj
        have two : sAl y a b (lAc l) none (sAl y a b (lWr l) out G1) j = G1 j := by
          rw [sAl_c (Nat.le_refl 6) y a b _ ha, if_neg (by omega), sAl_c (Nat.le_refl 6) y a b _ hw, if_neg (by omega)]
        by_cases h0 : y = 0
        · rw [if_pos h0]
          unfold exR
          rw [if_neg (by omega)]
          exact two
        · rw [if_neg h0]
          exact two
      generalize (if y = 0 then exR a b (σ.1 (o + 1)) (sAl y a b (lAc l) none (sAl y a b (lWr l) out G1)) else sAl y a b (lAc l) none (sAl y a b (lWr l) out G1)) = M at h79 hval hlow
      refine ⟨v', M, ?_, ?_, fun h => by omega, ?_⟩
      · rw [e, hG1e, hS1, mBV_s, hS2, mBV_s]
        exact h79
      · intro y' hy' c hc
        by_cases h : y' = y
        · subst h
          exact hval c hc
        · rw [hlow _ (by omega), hb1 _ (by omega)]
          exact hG y' (by omega) c hc
      · intro _ j hj
        rw [hlow _ (by omega)]
        exact hb2 j hj
  obtain ⟨v, G, e, hG, -, -⟩ := step (lY l) (Nat.le_refl _)
  refine ⟨G, ?_, hG⟩
  rw [e, q_Co_live_21 _ _ _ _ _ _ ho]
  simp only [sR_ne _ _ (show 40 ≠ o + 3 by omega), hC.1.1]
  rw [dle (by omega) (by omega), dT _ (Nat.le_refl _), cT]
