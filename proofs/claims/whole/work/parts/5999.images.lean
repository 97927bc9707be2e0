/-! ===== skills told anew; counts; images ===== -/
variable {σ τ : mS} {l : Lv}
def lS (l : Lv) (p : Nat) (x : Int32) : Lv := (l.1, l.2.1, upd l.2.2.1 p x, l.2.2.2.1, l.2.2.2.2.1, l.2.2.2.2.2.1, l.2.2.2.2.2.2.1, l.2.2.2.2.2.2.2)
theorem lS_ok (h : lvOK l) {p : Nat} {x : Int32} (hx : bw 0 x 63) : lvOK (lS l p x) := by
  obtain ⟨a1, a2, a3, a4, a5, a6, a7, a8, a9, b1, b2⟩ := h
  refine ⟨a1, a2, a3, a4, a5, a6, a7, a8, a9, fun q hq => ?_, b2⟩
  show bw 0 (upd (lSk l) p x q) 63
  by_cases e : q = p
  · rw [e, upd_at]; exact hx
  · rw [upd_ne _ _ e]; exact b1 q hq
theorem in_63 (d : Nat) (x : Int32) (σ : mS) : Cc (d + 1) n_M_in [.long x.toInt64, .null, .long 0, .null, .long 63, .null] σ = some (.int (bI (mIn x 64)), σ) := r_inI d x σ (n := 64) (by decide)
theorem two63 (x : Int32) (A B : mR) : (bif decide (x < 0) then A else (bif decide (x ≤ 63) then B else A)) = bif mIn x 64 then B else A := by
  rw [mIn_iff x 64 (by decide)]
  have : decide (x ≤ 63) = !(decide (nI 64 ≤ x)) := by
    rw [← decide_not]
    apply decide_eq_decide.mpr
    rw [Int32.not_le, Int32.le_iff_toInt_le, Int32.lt_iff_toInt_lt]
    exact Int.lt_add_one_iff.symm
  rw [this]
  cases decide (x < 0) <;> cases decide (nI 64 ≤ x) <;> rfl
theorem t_rate (D : Nat) (t : tL σ l) (x y : Int32) : chg (D + 12) n_E_rate n_M_rate [.ref 0, .int x, .int y, .null] [.ref 200, .int x, .int y, .null] σ := by
  have h1 := lvP t.1
  have hb := lvAcs t.1
  have eE : Cc (D + 12) n_E_rate [.ref 0, .int x, .int y, .null] σ = (bif mIn x (lP l) then (bif mIn y 64 then (bif decide ((lAc l).length = 0) then (bif mIn x 6 then (bif mIn x 6 then (mBV (Cc (D + 11) n_E_refresh [.ref 0] (mUpI σ 41 (x : Int32).toNatClampNeg y)) fun τ3 => (some (.int (σ.1 41 (x : Int32).toNatClampNeg), τ3))) else none) else none) else some (.int (-5), σ)) else some (.int (-2), σ)) else some (.int (-2), σ)) := by
    rw [c_E_rate, k_isPerson _ _ σ (tP t) (by omega), mBI_s, bI_0, two63, tAc t, show decide (nI (lAc l).length ≤ 0) = decide ((lAc l).length = 0) from (dle (b := 0) (by omega) (by decide)).trans (decide_eq_decide.mpr (by omega))]
    cases mIn x (lP l) <;> rfl
  have eM : ∀ τ : mS, lM (τ.1 201) l → Cc (D + 12) n_M_rate [.ref 200, .int x, .int y, .null] τ = (bif mIn x (lP l) then (bif mIn y 64 then (bif decide ((lAc l).length = 0) then (bif mIn ((9 : Int32) + x) 123 then (bif mIn ((9 : Int32) + x) 123 then (some (.int (τ.1 201 (((9 : Int32) + x) : Int32).toNatClampNeg), (mUpI τ 201 (((9 : Int32) + x) : Int32).toNatClampNeg y))) else none) else none) else some (.int (-5), τ)) else some (.int (-2), τ)) else some (.int (-2), τ)) := by
    intro τ hM
    rw [c_M_rate, r_isPerson _ _ τ (lM_P hM) (by omega), mBI_s, bI_0, in_63, mBI_s, bI_n, lM_Ac hM, show decide (nI (lAc l).length ≤ 0) = decide ((lAc l).length = 0) from (dle (b := 0) (by omega) (by decide)).trans (decide_eq_decide.mpr (by omega))]
    cases mIn x (lP l) <;> cases mIn y 64 <;> rfl
  cases hx : mIn x (lP l) with
  | false => exact chg_n t (v := -2) (by rw [eE, hx, cF]) (by rw [eM σ t.2.2.2, hx, cF])
  | true =>
    cases hy : mIn y 64 with
    | false => exact chg_n t (v := -2) (by rw [eE, hx, hy, cT, cF]) (by rw [eM σ t.2.2.2, hx, hy, cT, cF])
    | true =>
      cases ha : decide ((lAc l).length = 0) with
      | false => exact chg_n t (v := -5) (by rw [eE, hx, hy, ha, cT, cT, cF]) (by rw [eM σ t.2.2.2, hx, hy, ha, cT, cT, cF])
      | true =>
        obtain ⟨p, hp, rfl⟩ := mIn_of hx
        obtain ⟨k, hk, rfl⟩ := mIn_of hy
        have hbk : bw 0 (nI k) 63 := ⟨by rw [nI_toInt (by omega)]; omega, by rw [nI_toInt (by omega)]; omega⟩
        have hok := lS_ok t.1 (p := p) hbk
        have hC : lC (mUpI σ 41 p (nI k)) 40 (lS l p (nI k)) := by
          rw [mUpI_sR]
          obtain ⟨a1, a2, a3, a4, a5, a6⟩ := t.2.1
          refine ⟨?_, fun q hq => ?_, ?_, ?_, dC_c a5 (fun a h1 h2 => sR_ne _ _ (by omega)), dC_c a6 (fun a h1 h2 => sR_ne _ _ (by omega))⟩
          · rw [sR_ne _ _ (by decide)]; exact a1
          · rw [sR_at]
            show upd (σ.1 41) p (nI k) q = upd (lSk l) p (nI k) q
            by_cases e : q = p
            · rw [e, upd_at, upd_at]
            · rw [upd_ne _ _ e, upd_ne _ _ e]; exact a2 q hq
          · rw [sR_ne _ _ (by decide)]; exact a3
          · rw [sR_ne _ _ (by decide), sR_ne _ _ (by decide)]; exact a4
        obtain ⟨σ1, e1, o1, c1⟩ := k_refresh (D + 5) hok hC
        have m1 : σ1.1 201 = σ.1 201 := by rw [o1.1 201 (by omega), mUpI_sR, sR_ne _ _ (by decide)]
        have hM : lM (σ1.1 201) l := by rw [m1]; exact t.2.2.2
        refine ⟨lSk l p, σ1, mUpI σ1 201 (9 + p) (nI k), lS l p (nI k), sc_u (uK_t (uK_s _ (by omega) _) (uK_O o1)), ?_, ?_, uK_t (uK_t (uK_s _ (by omega) _) (uK_O o1)) (uK_s _ (by omega) _), hok, ?_, ?_, ?_⟩
        · rw [eE, hx, hy, ha, cT, cT, cT, mIn_nI (by omega) (by omega), cT, cT, nI_clamp (by omega), e1, mBV_s, t.2.1.2.1 p hp]
        · rw [eM σ1 hM, hx, hy, ha, cT, cT, cT, show (9 : Int32) = nI 9 from rfl, nI_add, mIn_nI (by omega) (by omega), cT, cT, nI_clamp (by omega), hM.2.1 p hp]
        · exact lC_c hC (fun a h1 h2 => by rw [mUpI_sR, sR_ne _ _ (by omega), o1.1 a (by omega)])
        · exact cR_c c1 (fun a h1 h2 => by rw [mUpI_sR, sR_ne _ _ (by omega)])
        · rw [mUpI_sR, sR_at]
          obtain ⟨⟨a0, a1, a2, a3, a4, a5, a6, a7, a8⟩, b, c, dd, w, ac⟩ := hM
          have hz : ∀ j, j < 9 ∨ 14 < j → upd (σ1.1 201) (9 + p) (nI k) j = σ1.1 201 j := fun j hj => upd_ne _ _ (by omega)
          refine ⟨?_, fun q hq => ?_, fun c' hc => ?_, fun q hq => ?_, fun i x hx => ?_, fun i x hx => ?_⟩
          · rw [hz 0 (by omega), hz 1 (by omega), hz 2 (by omega), hz 3 (by omega), hz 4 (by omega), hz 5 (by omega), hz 6 (by omega), hz 7 (by omega), hz 8 (by omega)]
            exact ⟨a0, a1, a2, a3, a4, a5, a6, a7, a8⟩
          · show upd (σ1.1 201) (9 + p) (nI k) (9 + q) = upd (lSk l) p (nI k) q
            by_cases e : q = p
            · rw [e, upd_at, upd_at]
            · rw [upd_ne _ _ (by omega), upd_ne _ _ e]; exact b q hq
          · rw [hz _ (by omega)]; exact c c' hc
          · rw [hz _ (by omega), hz _ (by omega)]; exact dd q hq
          · rw [hz _ (by omega), hz _ (by omega), hz _ (by omega), hz _ (by omega)]; exact w i x hx
          · rw [hz _ (by omega)]; exact ac i x hx
/-! counts -/
def usN (sz : Nat → Option Nat) : Int32 := mF (fun k a => bif (sz k).isSome then a + 1 else a) 4 0
theorem k_used (d : Nat) {sz : Nat → Option Nat} {wi : Nat → Nat} (h : slT σ sz wi) : Cc (d + 1) n_Sl_used [.ref 7, .null, .null] σ = some (.int (usN sz), σ) := by
  rw [c_Sl_used]
  refine (mFor (fun k (a : Int32) => Xx d n_Sl_used 4 [.ref 7, .int a, .int (nI k)] [] σ) (fun k a => bif (sz k).isSome then a + 1 else a) 4 0 (by
    intro k hk
    generalize mF _ k (0 : Int32) = a
    show Xx d n_Sl_used 4 [.ref 7, .int a, .int (nI k)] [] σ = Xx d n_Sl_used 4 [.ref 7, .int (bif (sz k).isSome then a + 1 else a), .int (nI (k + 1))] [] σ
    obtain ⟨a1, a2, a3, -, -, -⟩ := h.1 k hk
    rw [q_Sl_used_4, show decide ((4 : Int32) ≤ nI k) = false from decide_eq_false (nI_ge (b := 4) hk (by decide)), cF, mIn_nI (by omega) (by omega), cT, nI_clamp (by omega), a1, nI_1]
    cases hz : sz k with
    | none => rfl
    | some n =>
      have := a3 n hz
      rw [oI_s, dF _ (nI_pos (by omega))]
      rfl)).trans ?_
  rw [q_Sl_used_4, show decide ((4 : Int32) ≤ nI 4) = true by decide, cT]
  rfl
theorem r_count42 (d : Nat) {sz : Nat → Option Nat} {wi : Nat → Nat} (h : slT σ sz wi) (v : Value) : Xx d n_M_count 42 [.ref 200, v, .int 0, .int 0] [] σ = some (.int (usN sz), σ) := by
  obtain ⟨v', e⟩ := mForH (fun k (a : Int32) (b : Value) => Xx d n_M_count 42 [.ref 200, b, .int a, .int (nI k)] [] σ) (fun k a => bif (sz k).isSome then a + 1 else a) 4 0 v (by
    intro k b hk
    generalize mF _ k (0 : Int32) = a
    refine ⟨mKl b, ?_⟩
    obtain ⟨a1, a2, a3, -, -, -⟩ := h.1 k hk
    rw [q_M_count_42, show decide ((4 : Int32) ≤ nI k) = false from decide_eq_false (nI_ge (b := 4) hk (by decide)), cF, mIn_nI (by omega) (by omega), cT, nI_clamp (by omega), a2, nI_1, Int32.add_zero]
    cases hz : sz k with
    | none => rfl
    | some n =>
      have := a3 n hz
      rw [oI_s, nI_m1n (by omega)]
      rfl)
  refine Eq.trans e ?_
  rw [q_M_count_42, show decide ((4 : Int32) ≤ nI 4) = true by decide, cT]
  rfl
theorem t_count (D : Nat) (t : tL σ l) {sz : Nat → Option Nat} {wi : Nat → Nat} (hsl : slT σ sz wi) (ht : σ.1 1 1 = σ.1 200 5) (x : Int32) : qry (D + 12) n_E_count n_M_count [.ref 0, .int x] [.ref 200, .int x, .null, .null] σ := by
  unfold qry
  have eM : Cc (D + 12) n_M_count [.ref 200, .int x, .null, .null] σ = (bif mIn x 9 then (some (.int (σ.1 201 (x : Int32).toNatClampNeg), σ)) else (bif decide (¬ (x : Int32) = 9) then (bif decide ((x : Int32) = 10) then some (.int (usN sz), σ) else (some (.int (-1), σ))) else (some (.int (σ.1 200 5), σ)))) := by
    rw [c_M_count, show Cc (D + 11) n_M_in [.long (x : Int32).toInt64, .null, .long 0, .null, .long 8, .null] σ = some (.int (bI (mIn x 9)), σ) from r_inI (D + 10) x σ (n := 9) (by decide), mBI_s, bI_0, r_count42 _ hsl]
    cases hx : mIn x 9 with
    | false => rfl
    | true =>
      obtain ⟨k, hk, rfl⟩ := mIn_of hx
      rw [mIn_nI (by omega) (by omega)]
      rfl
  rw [eM, c_E_count, q_E_count_1]
  have hC := t.2.1.1
  have hM := t.2.2.2.1
  cases hx : mIn x 9 with
  | true =>
    obtain ⟨k, hk, rfl⟩ := mIn_of hx
    rw [nI_clamp (by omega), cT]
    rcases (show k = 0 ∨ k = 1 ∨ k = 2 ∨ k = 3 ∨ k = 4 ∨ k = 5 ∨ k = 6 ∨ k = 7 ∨ k = 8 by omega) with rfl | rfl | rfl | rfl | rfl | rfl | rfl | rfl | rfl
    · exact ⟨_, σ, (q_E_count_60 _ _ _).trans (by rw [hC.1, hM.1]), rfl, sM_r σ⟩
    · exact ⟨_, σ, (q_E_count_68 _ _ _).trans (by rw [hC.2.1, hM.2.1]), rfl, sM_r σ⟩
    · exact ⟨_, σ, (q_E_count_76 _ _ _).trans (by rw [hC.2.2.1, hM.2.2.1]), rfl, sM_r σ⟩
    · exact ⟨_, σ, (q_E_count_84 _ _ _).trans (by rw [hC.2.2.2.1, hM.2.2.2.1]), rfl, sM_r σ⟩
    · exact ⟨_, σ, (q_E_count_92 _ _ _).trans (by rw [hC.2.2.2.2.1, hM.2.2.2.2.1]), rfl, sM_r σ⟩
    · exact ⟨_, σ, (q_E_count_100 _ _ _).trans (by rw [t.2.1.2.2.2.2.1.1, hM.2.2.2.2.2.1]), rfl, sM_r σ⟩
    · exact ⟨_, σ, (q_E_count_111 _ _ _).trans (by rw [hC.2.2.2.2.2.1, hM.2.2.2.2.2.2.1]), rfl, sM_r σ⟩
    · exact ⟨_, σ, (q_E_count_119 _ _ _).trans (by rw [tAc t, hM.2.2.2.2.2.2.2.1]), rfl, sM_r σ⟩
    · exact ⟨_, σ, (q_E_count_130 _ _ _).trans (by rw [hC.2.2.2.2.2.2, hM.2.2.2.2.2.2.2.2]), rfl, sM_r σ⟩
  | false =>
    rw [cF]
    by_cases g9 : x = 9
    · subst g9
      exact ⟨_, σ, (q_E_count_138 _ _ _).trans (by rw [ht]), rfl, sM_r σ⟩
    · rw [dT _ g9, cT]
      by_cases g10 : x = 10
      · subst g10
        refine ⟨usN sz, σ, ?_, rfl, sM_r σ⟩
        refine (q_E_count_146 _ _ _).trans ?_
        rw [k_used _ hsl, mBI_s]
      · rw [dF _ g10, cF]
        refine ⟨-1, σ, ?_, rfl, sM_r σ⟩
        have hc : (x : Int32).toInt < 0 ∨ 10 < (x : Int32).toInt := by
          rcases Int.lt_or_le x.toInt 0 with a | a
          · exact Or.inl a
          · refine Or.inr ?_
            have n9 : x.toInt ≠ 9 := fun e => g9 (Int32.toInt_inj.mp (by rw [e]; decide))
            have n10 : x.toInt ≠ 10 := fun e => g10 (Int32.toInt_inj.mp (by rw [e]; decide))
            rcases Int.lt_or_le x.toInt 9 with b | b
            · exfalso
              have e : x = nI x.toInt.toNat := Int32.toInt_inj.mp (by rw [nI_toInt (by omega)]; omega)
              rw [e, mIn_nI (by omega) (by omega)] at hx
              cases hx
            · omega
        rw [dT _ hc, cT, q_E_count_154]
/-! images -/
def imT (σ : mS) (im : Nat → Option Lv) : Prop := ∀ k, k < 3 → σ.1 18 k = bI (im k).isSome ∧ σ.1 203 k = bI (im k).isSome ∧ ∀ l, im k = some l → lvOK l ∧ lC σ (80 + 20 * k) l ∧ lM (fun i => σ.1 202 (123 * k + i)) l
theorem lM_f {f g : Nat → Int32} (hl : lvOK l) (h : lM f l) (e : ∀ i, i < 123 → g i = f i) : lM g l := by
  have h1 := lvP hl
  have h3 := lvQ hl
  have h5 : (lWr l).length ≤ 8 := hl.2.2.2.2.2.2.2.2.2.2.2.2.2.2.2.1
  have h6 := lvAcs hl
  obtain ⟨⟨a0, a1, a2, a3, a4, a5, a6, a7, a8⟩, b, c, d, w, ac⟩ := h
  refine ⟨?_, fun p hp => ?_, fun k hk => ?_, fun q hq => ?_, fun i x hx => ?_, fun i x hx => ?_⟩
  · rw [e 0 (by omega), e 1 (by omega), e 2 (by omega), e 3 (by omega), e 4 (by omega), e 5 (by omega), e 6 (by omega), e 7 (by omega), e 8 (by omega)]
    exact ⟨a0, a1, a2, a3, a4, a5, a6, a7, a8⟩
  · rw [e _ (by omega)]; exact b p hp
  · rw [e _ (by omega)]; exact c k hk
  · rw [e _ (by omega), e _ (by omega)]; exact d q hq
  · have := get_lt hx
    rw [e _ (by omega), e _ (by omega), e _ (by omega), e _ (by omega)]; exact w i x hx
  · have := get_lt hx
    rw [e _ (by omega)]; exact ac i x hx
def cpR (f g : Nat → Int32) (a n : Nat) : Nat → Int32 := fun j => if a ≤ j ∧ j < a + n then f (j - a) else g j
theorem cpR_s (f g : Nat → Int32) (a n : Nat) : upd (cpR f g a n) (a + n) (f n) = cpR f g a (n + 1) := by
  funext j
  unfold upd cpR
  by_cases h : j = a + n
  · rw [if_pos h, if_pos (by omega)]
    congr 1
    omega
  · rw [if_neg h]
    by_cases g1 : a ≤ j ∧ j < a + n
    · rw [if_pos g1, if_pos (by omega)]
    · rw [if_neg g1, if_neg (by omega)]
theorem cpR_0 (f g : Nat → Int32) (a : Nat) : cpR f g a 0 = g := funext fun j => if_neg (by omega)
theorem in_2 (d : Nat) (x : Int32) (σ : mS) : Cc (d + 1) n_M_in [.long x.toInt64, .null, .long 0, .null, .long 2, .null] σ = some (.int (bI (mIn x 3)), σ) := r_inI d x σ (n := 3) (by decide)
theorem k_isImage (d : Nat) (x : Int32) (σ : mS) : Cc (d + 1) n_E_isImage [.int x] σ = some (.int (bI (mIn x 3)), σ) := by
  rw [c_E_isImage]
  exact three x 3 (by decide) σ
/-- what keeping an image leaves -/
def iK (σ τ : mS) : Prop := (∀ a, a ≠ 18 → (a < 80 ∨ 134 < a) → a ≠ 202 → a ≠ 203 → τ.1 a = σ.1 a) ∧ τ.2 = σ.2
theorem k_image (d : Nat) (t : tL σ l) {k : Nat} (hk : k < 3) : ∃ τ, Xx (d + 2) n_E_image 10 [.ref 0, .int (nI k)] [] σ = some (.int 0, sR τ 18 (upd (τ.1 18) k 1)) ∧ lC τ (80 + 20 * k) l ∧ (∀ a, a < 80 + 20 * k ∨ 80 + 20 * k + 14 < a → τ.1 a = σ.1 a) ∧ τ.2 = σ.2 := by
  obtain ⟨τ, e, h1, h2, h3⟩ := k_copy d (o := 80 + 20 * k) (p := 40) (by omega) t.1 t.2.1
  refine ⟨τ, ?_, h1, h2, h3⟩
  rcases (show k = 0 ∨ k = 1 ∨ k = 2 by omega) with rfl | rfl | rfl
  · refine (q_E_image_0_10 _ _).trans ?_
    rw [e, mBV_s]
    rfl
  · refine (q_E_image_1_10 _ _).trans ?_
    rw [e, mBV_s]
    rfl
  · refine (q_E_image_2_10 _ _).trans ?_
    rw [e, mBV_s]
    rfl
theorem r_image (d : Nat) {k : Nat} (hk : k < 3) (σ : mS) : Xx d n_M_image 17 [.ref 200, .int (nI k), .int 0] [] σ = some (.int 0, sR (sR σ 202 (cpR (σ.1 201) (σ.1 202) (123 * k) 123)) 203 (upd (σ.1 203) k 1)) := by
  have e := mForN (fun n => Xx d n_M_image 17 [.ref 200, .int (nI k), .int (nI n)] [] (sR σ 202 (cpR (σ.1 201) (σ.1 202) (123 * k) n))) 123 (by
    intro n hn
    show Xx d n_M_image 17 [.ref 200, .int (nI k), .int (nI n)] [] (sR σ 202 (cpR (σ.1 201) (σ.1 202) (123 * k) n)) = Xx d n_M_image 17 [.ref 200, .int (nI k), .int (nI (n + 1))] [] (sR σ 202 (cpR (σ.1 201) (σ.1 202) (123 * k) (n + 1)))
    rw [q_M_image_17, show decide ((123 : Int32) ≤ nI n) = false from decide_eq_false (nI_ge (b := 123) hn (by decide)), cF, mIn_nI (by omega) (by omega), cT, show (123 : Int32) = nI 123 from rfl, nI_mul, nI_add, mIn_nI (by omega) (by omega), cT, nI_clamp (by omega), nI_clamp (by omega), nI_1, mUpI_sR, sR_sR, sR_at, sR_ne _ _ (by decide), cpR_s])
  rw [cpR_0, sR_self] at e
  refine Eq.trans e ?_
  rw [q_M_image_17, show decide ((123 : Int32) ≤ nI 123) = true by decide, cT, mIn_nI (by omega) (by omega), cT, nI_clamp (by omega), mUpI_sR, sR_ne _ _ (by decide)]
  rfl
def imU (im : Nat → Option Lv) (k : Nat) (l : Lv) : Nat → Option Lv := fun j => if j = k then some l else im j
theorem imU_at (im : Nat → Option Lv) (k : Nat) (l : Lv) : imU im k l k = some l := if_pos rfl
theorem imU_ne (im : Nat → Option Lv) {k j : Nat} (l : Lv) (h : j ≠ k) : imU im k l j = im j := if_neg h
theorem t_image (D : Nat) (t : tL σ l) {im : Nat → Option Lv} (hi : imT σ im) (x : Int32) : ∃ v σ' τ im', sc σ σ' ∧ Cc (D + 12) n_E_image [.ref 0, .int x] σ = some (.int v, σ') ∧ Cc (D + 12) n_M_image [.ref 200, .int x, .null] σ' = some (.int v, τ) ∧ iK σ τ ∧ imT τ im' := by
  rw [c_E_image, k_isImage, mBI_s, bI_n]
  cases hx : mIn x 3 with
  | false =>
    refine ⟨-2, σ, σ, im, sc_r σ, rfl, ?_, ⟨fun _ _ _ _ _ => rfl, rfl⟩, hi⟩
    rw [c_M_image, in_2, mBI_s, hx]
    rfl
  | true =>
    obtain ⟨k, hk, rfl⟩ := mIn_of hx
    obtain ⟨σ1, e1, c1, k1, k2⟩ := k_image (D + 9) t hk
    have e2 : Cc (D + 12) n_M_image [.ref 200, .int (nI k), .null] (sR σ1 18 (upd (σ1.1 18) k 1)) = some (.int 0, sR (sR (sR σ1 18 (upd (σ1.1 18) k 1)) 202 (cpR ((sR σ1 18 (upd (σ1.1 18) k 1)).1 201) ((sR σ1 18 (upd (σ1.1 18) k 1)).1 202) (123 * k) 123)) 203 (upd ((sR σ1 18 (upd (σ1.1 18) k 1)).1 203) k 1)) := by
      rw [c_M_image, in_2, mBI_s, hx, bI_n, cT]
      exact r_image _ hk _
    refine ⟨0, sR σ1 18 (upd (σ1.1 18) k 1), _, imU im k l, ⟨by rw [sR_ne _ _ (by decide)]; exact k1 299 (by omega), by rw [sR_ne _ _ (by decide)]; exact k1 300 (by omega)⟩, by rw [cT]; exact e1, e2, ⟨fun a g1 g2 g3 g4 => ?_, ?_⟩, fun j hj => ?_⟩
    · rw [sR_ne _ _ g4, sR_ne _ _ g3, sR_ne _ _ g1, k1 a (by omega)]
    · rw [sR_2, sR_2, sR_2]; exact k2
    · have n201 : (sR σ1 18 (upd (σ1.1 18) k 1)).1 201 = σ.1 201 := by rw [sR_ne _ _ (by decide), k1 201 (by omega)]
      have n202 : (sR σ1 18 (upd (σ1.1 18) k 1)).1 202 = σ.1 202 := by rw [sR_ne _ _ (by decide), k1 202 (by omega)]
      have n203 : (sR σ1 18 (upd (σ1.1 18) k 1)).1 203 = σ.1 203 := by rw [sR_ne _ _ (by decide), k1 203 (by omega)]
      rw [n201, n202, n203]
      by_cases e : j = k
      · subst e
        refine ⟨?_, ?_, fun l' hl' => ?_⟩
        · rw [sR_ne _ _ (by decide), sR_ne _ _ (by decide), sR_at, upd_at, imU_at]; rfl
        · rw [sR_at, upd_at, imU_at]; rfl
        · rw [imU_at] at hl'
          cases hl'
          refine ⟨t.1, lC_c c1 (fun a g1 g2 => by rw [sR_ne _ _ (by omega), sR_ne _ _ (by omega), sR_ne _ _ (by omega)]), ?_⟩
          rw [sR_ne _ _ (by decide), sR_at]
          refine lM_f t.1 t.2.2.2 (fun i hi => ?_)
          unfold cpR
          rw [if_pos (by omega), Nat.add_sub_cancel_left]
      · obtain ⟨b1, b2, b3⟩ := hi j hj
        refine ⟨?_, ?_, fun l' hl' => ?_⟩
        · rw [sR_ne _ _ (by decide), sR_ne _ _ (by decide), sR_at, upd_ne _ _ e, imU_ne _ _ e, k1 18 (by omega)]; exact b1
        · rw [sR_at, upd_ne _ _ e, imU_ne _ _ e]; exact b2
        · rw [imU_ne _ _ e] at hl'
          obtain ⟨d1, d2, d3⟩ := b3 l' hl'
          refine ⟨d1, lC_c d2 (fun a g1 g2 => by rw [sR_ne _ _ (by omega), sR_ne _ _ (by omega), sR_ne _ _ (by omega), k1 a (by omega)]), ?_⟩
          rw [sR_ne _ _ (by decide), sR_at]
          refine lM_f d1 d3 (fun i hi => ?_)
          unfold cpR
          rw [if_neg (by omega)]
theorem r_back (d : Nat) {k : Nat} (hk : k < 3) (σ : mS) : Xx d n_M_back 29 [.ref 200, .int (nI k), .int 0] [] σ = some (.int 0, sR σ 201 (cpR (fun i => σ.1 202 (123 * k + i)) (σ.1 201) 0 123)) := by
  have e := mForN (fun n => Xx d n_M_back 29 [.ref 200, .int (nI k), .int (nI n)] [] (sR σ 201 (cpR (fun i => σ.1 202 (123 * k + i)) (σ.1 201) 0 n))) 123 (by
    intro n hn
    show Xx d n_M_back 29 [.ref 200, .int (nI k), .int (nI n)] [] (sR σ 201 (cpR (fun i => σ.1 202 (123 * k + i)) (σ.1 201) 0 n)) = Xx d n_M_back 29 [.ref 200, .int (nI k), .int (nI (n + 1))] [] (sR σ 201 (cpR (fun i => σ.1 202 (123 * k + i)) (σ.1 201) 0 (n + 1)))
    have hs := cpR_s (fun i => σ.1 202 (123 * k + i)) (σ.1 201) 0 n
    rw [Nat.zero_add] at hs
    rw [q_M_back_29, show decide ((123 : Int32) ≤ nI n) = false from decide_eq_false (nI_ge (b := 123) hn (by decide)), cF, show (123 : Int32) = nI 123 from rfl, nI_mul, nI_add, mIn_nI (by omega) (by omega), cT, mIn_nI (by omega) (by omega), cT, nI_clamp (by omega), nI_clamp (by omega), nI_1, mUpI_sR, sR_sR, sR_at, sR_ne _ _ (by decide), hs])
  rw [cpR_0, sR_self] at e
  refine Eq.trans e ?_
  rw [q_M_back_29, show decide ((123 : Int32) ≤ nI 123) = true by decide, cT]
theorem k_back (d : Nat) {k : Nat} (hk : k < 3) (hl : lvOK l) (h : lC σ (80 + 20 * k) l) : ∃ τ, Xx (d + 6) n_E_back 22 [.ref 0, .int (nI k)] [] σ = some (.int 0, τ) ∧ uK σ τ ∧ lC τ 40 l ∧ cR τ 20 l (vS l) ∧ τ.1 201 = σ.1 201 := by
  obtain ⟨σ1, e, h1, h2, h3⟩ := k_copy (d + 4) (o := 40) (p := 80 + 20 * k) (by omega) hl h
  obtain ⟨τ, e2, o2, c2⟩ := k_refresh d hl h1
  refine ⟨τ, ?_, uK_t ⟨fun a ha => h2 a (by omega), fun j _ => by rw [h2 200 (by omega)], fun a _ => by rw [h3]⟩ (uK_O o2), lC_c h1 (fun a g1 g2 => o2.1 a (by omega)), c2, by rw [o2.1 201 (by omega), h2 201 (by omega)]⟩
  rcases (show k = 0 ∨ k = 1 ∨ k = 2 by omega) with rfl | rfl | rfl
  · refine (q_E_back_0_22 _ _).trans ?_
    rw [e, mBV_s, e2, mBV_s]
  · refine (q_E_back_1_22 _ _).trans ?_
    rw [e, mBV_s, e2, mBV_s]
  · refine (q_E_back_2_22 _ _).trans ?_
    rw [e, mBV_s, e2, mBV_s]
theorem t_back (D : Nat) (t : tL σ l) {im : Nat → Option Lv} (hi : imT σ im) (x : Int32) : chg (D + 12) n_E_back n_M_back [.ref 0, .int x] [.ref 200, .int x, .null] σ := by
  cases hx : mIn x 3 with
  | false => exact chg_n t (v := -2) (by rw [c_E_back, k_isImage, mBI_s, hx]; rfl) (by rw [c_M_back, in_2, mBI_s, hx]; rfl)
  | true =>
    obtain ⟨k, hk, rfl⟩ := mIn_of hx
    obtain ⟨b1, b2, b3⟩ := hi k hk
    cases hm : im k with
    | none =>
      rw [hm] at b1 b2
      exact chg_n t (v := -6) (by rw [c_E_back, k_isImage, mBI_s, hx, bI_n, cT, cT, nI_clamp (by omega), b1]; rfl) (by rw [c_M_back, in_2, mBI_s, hx, bI_n, cT, cT, nI_clamp (by omega), b2]; rfl)
    | some l' =>
      rw [hm] at b1 b2
      obtain ⟨d1, d2, d3⟩ := b3 l' hm
      obtain ⟨σ1, e1, u1, c1, r1, m1⟩ := k_back (D + 5) hk d1 d2
      refine ⟨0, σ1, _, l', sc_u u1, by rw [c_E_back, k_isImage, mBI_s, hx, bI_n, cT, cT, nI_clamp (by omega), b1]; exact e1, by rw [c_M_back, in_2, mBI_s, hx, bI_n, cT, cT, nI_clamp (by omega), u1.1 203 (by omega), b2]; exact r_back _ hk σ1, uK_t u1 (uK_s _ (by omega) _), d1, lC_c c1 (fun a g1 g2 => sR_ne _ _ (by omega)), cR_c r1 (fun a g1 g2 => sR_ne _ _ (by omega)), ?_⟩
      rw [sR_at]
      refine lM_f d1 d3 (fun i hi => ?_)
      unfold cpR
      rw [if_pos (by omega), u1.1 202 (by omega)]
      rfl

