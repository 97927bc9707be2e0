/-! ===== thaws by chance: the reference ===== -/
variable {σ τ : mS} {l : Lv}
theorem r_goAllJ (d : Nat) (hl : lvOK l) {v : Va} (hv : vaOK v) {m : Nat} (h : rV σ l v m) : ∃ τ, Cc (d + 8) n_M_goAll [.ref 200] σ = some (.null, τ) ∧ sM σ τ ∧ rA τ l v m ∧ τ.2 = σ.2 := by
  obtain ⟨h1, h2, h3, h4, h5, a, b, n, h6, h7⟩ := id h
  obtain ⟨N, F, e, hF⟩ := r_goYears (d + 4) l hl σ h1 (vOut v) h4 hv.2.1 h6 (bt (vTh v)) (fun y _ => by rw [h3]) (vEx v) hv.2.2.1 h7
  have s1 : sM σ (sR (sR σ 224 N) 223 F) := sM_t (sM_s σ (b := 224) (by omega) (by omega) N) (sM_s _ (b := 223) (by omega) (by omega) F)
  have v1 : rV (sR (sR σ 224 N) 223 F) l v m := rV_c h (by rw [sR_ne _ _ (by decide), sR_ne _ _ (by decide)]) (fun k _ _ => by rw [sR_ne _ _ (by decide), sR_ne _ _ (by decide)]) (by rw [sR_ne _ _ (by decide), sR_ne _ _ (by decide)]) (by rw [sR_ne _ _ (by decide), sR_ne _ _ (by decide)]) (by rw [sR_ne _ _ (by decide), sR_ne _ _ (by decide)]) (by rw [sR_ne _ _ (by decide), sR_ne _ _ (by decide)])
  have f1 : rF1 (sR (sR σ 224 N) 223 F) l v := by
    refine ⟨?_, fun y hy c hc => ?_, fun p hp => ?_⟩
    · rw [sR_ne _ _ (by decide), sR_ne _ _ (by decide)]; exact h1
    · rw [sR_at, hF y hy c hc, h2]; rfl
    · rw [sR_ne _ _ (by decide), sR_ne _ _ (by decide)]; exact h5 p hp
  have j1 : (sR (sR σ 224 N) 223 F).2 = σ.2 := rfl
  generalize sR (sR σ 224 N) 223 F = τ1 at e s1 v1 f1 j1
  obtain ⟨u, e2⟩ := r_givePosts d hl hv f1
  refine ⟨gS τ1 (gvA l (wd l v)) u, ?_, sM_t s1 (sM_gS _ _ _), ⟨?_, gS_rF1 f1 _ _, fun q hq => ?_, fun q hq => ?_⟩, j1⟩
  · rw [c_M_goAll, e, mBV_s, e2, mBV_s]
  · have n2 : ∀ k, 19 ≤ k → k ≤ 22 → (gS τ1 (gvA l (wd l v)) u).1 200 k = τ1.1 200 k := by
      intro k h1 h2
      unfold gS
      rw [sR_ne _ _ (by decide), sR_ne _ _ (by decide), pN_k _ _ (by omega)]
    exact rV_c v1 (gS_ne _ _ _ (by decide) (by decide) (by decide)) n2 (gS_ne _ _ _ (by decide) (by decide) (by decide)) (gS_ne _ _ _ (by decide) (by decide) (by decide)) (gS_ne _ _ _ (by decide) (by decide) (by decide)) (gS_ne _ _ _ (by decide) (by decide) (by decide))
  · rw [gS_225, oRw_at hq]; rfl
  · rw [gS_226, oRw_at hq]; rfl
theorem sM_J (σ : mS) (k : Nat) (x : Int64) : sM σ (mUpJ σ 200 k x) := ⟨fun _ _ => rfl, fun _ _ => rfl, fun a ha => if_neg (by omega)⟩
theorem rA_J {v : Va} {m : Nat} (a : rA τ l v m) (k : Nat) (x : Int64) : rA (mUpJ τ 200 k x) l v m := a
theorem mUpJ_at (σ : mS) (o k : Nat) (x : Int64) : (mUpJ σ o k x).2 o k = x := by
  show (if o = o then (fun j => if j = k then x else σ.2 o j) else σ.2 o) k = x
  rw [if_pos rfl, if_pos rfl]
theorem mUpJ_ne (σ : mS) (o : Nat) {k j : Nat} (h : j ≠ k) (x : Int64) : (mUpJ σ o k x).2 o j = σ.2 o j := by
  show (if o = o then (fun j => if j = k then x else σ.2 o j) else σ.2 o) j = σ.2 o j
  rw [if_pos rfl, if_neg h]
theorem mUpJ_1 (σ : mS) (o k : Nat) (x : Int64) : (mUpJ σ o k x).1 = σ.1 := rfl
theorem smN_s (n : Nat) (f : Nat → Nat) : smN (n + 1) f = smN n f + f n := rfl
set_option maxHeartbeats 1000000 in
theorem r_layThaws (d : Nat) (hl : lvOK l) (hM : lM (τ.1 201) l) (hY : 0 < lY l) (hY9 : lY l ≤ 9) {o : Nat} (ho : lOdd l = nI o) (h10 : o ≤ 10) {p q : Nat} (hp : p < 2 ^ 31) (hq : q < 5) : ∃ τ', Cc (d + 10) n_M_layThaws [.ref 200, .int (nI p), .int (nI q), .null, .null, .null, .null, .null] τ = some (.null, τ') ∧ sM τ τ' ∧ τ'.2 200 37 = lN (10 ^ (lY l - 1)) ∧ τ'.2 200 38 = lN (abv o (lY l - 1) (chF l p q)) ∧ τ'.2 200 39 = lN (abv o (lY l - 1) (meF l)) := by
  have hp10 := p10 (n := lY l - 1) (by omega)
  have h256 : 2 ^ (lY l - 1) ≤ 2 ^ 8 := Nat.pow_le_pow_right (by omega) (by omega)
  generalize hτ0 : mUpJ (mUpJ (mUpJ τ 200 37 0) 200 38 0) 200 39 0 = τ0
  have s0 : sM τ τ0 := by rw [← hτ0]; exact sM_t (sM_J _ _ _) (sM_t (sM_J _ _ _) (sM_J _ _ _))
  have hM0 : lM (τ0.1 201) l := by rw [← hτ0]; exact hM
  obtain ⟨τ1, e1, s1, v1, j1⟩ : ∃ τ1, Cc (d + 9) n_M_asItIs [.ref 200, .null] τ0 = some (.null, τ1) ∧ sM τ0 τ1 ∧ rV τ1 l (vS l) 0 ∧ τ1.2 = τ0.2 := by
    obtain ⟨τ1, e1, s1, v1⟩ := r_asItIs2 (d + 8) hl hM0
    refine ⟨τ1, e1, s1, v1, ?_⟩
    have e := r_asItIs (d + 8) τ0
    rw [e1] at e
    cases e
    rfl
  have eL : nI (lY l) - 1 = nI (lY l - 1) := by
    have := nI_pred (lY l - 1)
    rwa [show lY l - 1 + 1 = lY l by omega] at this
  generalize hn : lY l - 1 = n at *
  have hn8 : n ≤ 8 := by omega
  obtain ⟨⟨va, vb, vc, τ2⟩, hs, hI⟩ := mForI (fun k (_ : Unit) (b : Value × Value × Value × mS) => Xx (d + 9) n_M_layThaws 29 [.ref 200, .int (nI p), .int (nI q), .int (nI n), .int (nI k), b.1, b.2.1, b.2.2.1] [] b.2.2.2) (fun k b => sM τ1 b.2.2.2 ∧ (∃ th, rV b.2.2.2 l (vT l th) 0) ∧ b.2.2.2.2 200 37 = lN (smN k (fun s => wtN o s n)) ∧ b.2.2.2.2 200 38 = lN (smN k (fun s => wtN o s n * chF l p q s)) ∧ b.2.2.2.2 200 39 = lN (smN k (fun s => wtN o s n * meF l s))) (fun _ a => a) (2 ^ n) () (.null, .null, .null, τ1) ⟨sM_r τ1, ⟨0, v1⟩, by rw [j1, ← hτ0]; rfl, by rw [j1, ← hτ0]; rfl, by rw [j1, ← hτ0]; rfl⟩ (by
    intro k b hk hI
    obtain ⟨i1, ⟨th, i2⟩, i3, i4, i5⟩ := hI
    have hw : wtN o k n < 2 ^ 31 := Nat.lt_of_le_of_lt (wtN_le h10 k n) (by omega)
    rw [q_M_layThaws_29, sh1 n (by omega), dle (by omega) (by omega), dF _ (by omega), cF]
    have hin := mFor (fun y (w : Nat) => Xx (d + 9) n_M_layThaws 43 [.ref 200, .int (nI p), .int (nI q), .int (nI n), .int (nI k), .long (lN w), .null, .int (nI y)] [] b.2.2.2) (fun y w => w * (bif k.testBit y then o else 10 - o)) n 1 (by
      intro y hy
      generalize mF _ y (1 : Nat) = w
      rw [q_M_layThaws_43, dle (by omega) (by omega), dF _ (by omega), cF, r_bit _ _ _ (by omega), mBI_s, bI_n1, bt_nI (by omega), i2.1.1.2.2.1, ho, sub10 h10, nI_l (by omega), nI_l (by omega), lN_mul, lN_mul, nI_1]
      cases k.testBit y <;> rfl)
    have hin2 : Xx (d + 9) n_M_layThaws 43 [.ref 200, .int (nI p), .int (nI q), .int (nI n), .int (nI k), .long 1, .null, .int 0] [] b.2.2.2 = Xx (d + 9) n_M_layThaws 43 [.ref 200, .int (nI p), .int (nI q), .int (nI n), .int (nI k), .long (lN (wtN o k n)), .null, .int (nI n)] [] b.2.2.2 := hin
    rw [hin2, q_M_layThaws_43, dT _ (Int32.le_refl _), cT, lN_zn hw]
    by_cases g : wtN o k n = 0
    · rw [dT _ g]
      refine ⟨(.long (lN (wtN o k n)), .null, .int (nI n), b.2.2.2), by rw [← nI_1]; rfl, i1, ⟨th, i2⟩, ?_, ?_, ?_⟩
      · rw [i3, smN_s, g]; rfl
      · rw [i4, smN_s, g, Nat.zero_mul]; rfl
      · rw [i5, smN_s, g, Nat.zero_mul]; rfl
    · rw [dF _ g, Bool.not_false, cT]
      obtain ⟨τ3, e3, s3, a3, j3⟩ := r_goAllJ (d + 1) hl (vT_ok hl (nI k)) (rV_th i2 (nI k))
      have j3' : τ3.2 = b.2.2.2.2 := j3
      rw [e3, mBV_s, mIn_nI hq (by decide), cT, nI_clamp (by omega), mUpJ_1, a3.2.2.1 q hq, oI_eq2 hp (win_big hl q)]
      have fin : ∀ (c : Bool) (x : Int64), c = decide (win l (vT l (nI k)) q = some p) → x = lN (wtN o k n * c.toNat) → ∃ b' : Value × Value × Value × mS, (mBI (Cc (d + 9) n_M_givenMany [.ref 200] (mUpJ (mUpJ τ3 200 37 ((τ3.2 200 37) + lN (wtN o k n))) 200 38 (((mUpJ τ3 200 37 ((τ3.2 200 37) + lN (wtN o k n))).2 200 38) + x))) fun r3 τ2 => Xx (d + 9) n_M_layThaws 29 [.ref 200, .int (nI p), .int (nI q), .int (nI n), .int (nI k + 1), .long (lN (wtN o k n)), .null, .int (nI n)] [] (mUpJ τ2 200 39 (((mUpJ (mUpJ τ3 200 37 ((τ3.2 200 37) + lN (wtN o k n))) 200 38 (((mUpJ τ3 200 37 ((τ3.2 200 37) + lN (wtN o k n))).2 200 38) + x)).2 200 39) + (lN (wtN o k n) * (r3.toInt64))))) = Xx (d + 9) n_M_layThaws 29 [.ref 200, .int (nI p), .int (nI q), .int (nI n), .int (nI (k + 1)), b'.1, b'.2.1, b'.2.2.1] [] b'.2.2.2 ∧ sM τ1 b'.2.2.2 ∧ (∃ th, rV b'.2.2.2 l (vT l th) 0) ∧ b'.2.2.2.2 200 37 = lN (smN (k + 1) (fun s => wtN o s n)) ∧ b'.2.2.2.2 200 38 = lN (smN (k + 1) (fun s => wtN o s n * chF l p q s)) ∧ b'.2.2.2.2 200 39 = lN (smN (k + 1) (fun s => wtN o s n * meF l s)) := by
        intro c x hc hx
        rw [r_gm _ hl (rA_J (rA_J a3 _ _) _ _), mBI_s, nI_l (gm_lt hl _), lN_mul, hx, mUpJ_ne _ _ (by decide), mUpJ_ne _ _ (by decide), mUpJ_ne _ _ (by decide), j3', i3, i4, i5, lN_add, lN_add, lN_add, nI_1]
        refine ⟨(.long (lN (wtN o k n)), .null, .int (nI n), mUpJ (mUpJ (mUpJ τ3 200 37 (lN (smN k (fun s => wtN o s n) + wtN o k n))) 200 38 (lN (smN k (fun s => wtN o s n * chF l p q s) + wtN o k n * c.toNat))) 200 39 (lN (smN k (fun s => wtN o s n * meF l s) + wtN o k n * gm l (vT l (nI k))))), rfl, ?_, ?_, ?_, ?_, ?_⟩
        · exact sM_t i1 (sM_t (sM_u _ (by omega) _) (sM_t s3 (sM_t (sM_J _ _ _) (sM_t (sM_J _ _ _) (sM_J _ _ _)))))
        · exact ⟨nI k, a3.1⟩
        · dsimp only; rw [mUpJ_ne _ _ (by decide), mUpJ_ne _ _ (by decide), mUpJ_at]; rfl
        · dsimp only; rw [mUpJ_ne _ _ (by decide), mUpJ_at, smN_s]
          unfold chF
          rw [← hc]
        · dsimp only; rw [mUpJ_at]; rfl
      cases hc : decide (win l (vT l (nI k)) q = some p) with
      | false =>
        rw [Bool.not_false, cT]
        exact fin false 0 hc.symm (by rw [show false.toNat = 0 from rfl, Nat.mul_zero]; rfl)
      | true =>
        rw [Bool.not_true, cF]
        exact fin true (lN (wtN o k n)) hc.symm (by rw [show true.toNat = 1 from rfl, Nat.mul_one]))
  obtain ⟨i1, -, i3, i4, i5⟩ := hI
  refine ⟨τ2, ?_, sM_t s0 (sM_t s1 i1), by rw [← wt_sum h10 n]; exact i3, i4, i5⟩
  rw [c_M_layThaws, hτ0, e1, mBV_s, r_yearMany, mBI_s, lM_Y v1.1, eL]
  refine Eq.trans hs ?_
  rw [q_M_layThaws_29, sh1 n (by omega), dT _ (Int32.le_refl _), cT]
/-- both answer alike, with a long -/
def qryL (D mE mM : Nat) (aE aM : List Value) (σ : mS) : Prop := ∃ (v : Int64) (σ' τ : mS), Cc D mE aE σ = some (.long v, σ') ∧ sC σ σ' ∧ Cc D mM aM σ' = some (.long v, τ) ∧ sM σ' τ
theorem odd_of (hl : lvOK l) : ∃ o, lOdd l = nI o ∧ o ≤ 10 := by
  obtain ⟨o, h1, h2, -⟩ := bw_nI (lvOdd hl)
  exact ⟨o, h1, by omega⟩
theorem le9 {Y : Nat} (h : Y < 2 ^ 31) : decide (nI Y ≤ 9) = decide (Y ≤ 9) := dle (b := 9) h (by decide)
theorem t_chance (D : Nat) (t : tL σ l) (x y z : Int32) : qryL (D + 13) n_E_chance n_M_chance [.ref 0, .int x, .int y, .int z] [.ref 200, .int x, .int y, .int z] σ := by
  have h1 := lvP t.1
  have h2 := lvY t.1
  have h3 := lvQ t.1
  obtain ⟨o, ho, h10⟩ := odd_of t.1
  unfold qryL
  rw [c_E_chance, k_isFor _ x y σ (tP t) (by omega) (tQ t) (by omega), mBI_s, bI_0, k_isPart, mBI_s, bI_n, part_mIn, tY t, le9 (by omega)]
  have hM0 : ∀ τ : mS, lM (τ.1 201) l → Cc (D + 13) n_M_chance [.ref 200, .int x, .int y, .int z] τ = (bif !(mIn x (lP l) && mIn y (lQ l)) then some (.long (-2), τ) else (bif mIn z 2 then (bif decide (lY l ≤ 9) then (mBV (Cc (D + 12) n_M_layThaws [.ref 200, .int x, .int y, .null, .null, .null, .null, .null] τ) fun τ9 => (mBL (Cc (D + 12) n_M_part [.long (τ9.2 200 38), .null, .long (τ9.2 200 37), .null, .int z] τ9) fun r11 τ10 => (some (.long r11, τ10)))) else some (.long (-3), τ)) else some (.long (-2), τ))) := by
    intro τ hM
    rw [c_M_chance, r_isPerson _ x τ (lM_P hM) (by omega), mBI_s, bI_0, r_isPost _ y τ (lM_Q hM) (by omega), mBI_s, bI_0, r_in, mBI_s, mIn2, bI_n, r_yearMany, mBI_s, lM_Y hM, le9 (by omega)]
    cases mIn x (lP l) <;> cases mIn y (lQ l) <;> rfl
  cases hg : (mIn x (lP l) && mIn y (lQ l)) with
  | false => exact ⟨-2, σ, σ, rfl, sC_r σ, by rw [hM0 σ t.2.2.2, hg]; rfl, sM_r σ⟩
  | true =>
    cases hz : mIn z 2 with
    | false => exact ⟨-2, σ, σ, rfl, sC_r σ, by rw [hM0 σ t.2.2.2, hg, hz]; rfl, sM_r σ⟩
    | true =>
      cases h9 : decide (lY l ≤ 9) with
      | false => exact ⟨-3, σ, σ, rfl, sC_r σ, by rw [hM0 σ t.2.2.2, hg, hz, h9]; rfl, sM_r σ⟩
      | true =>
        have hg' := hg
        rw [Bool.and_eq_true] at hg
        obtain ⟨p, hp, rfl⟩ := mIn_of hg.1
        obtain ⟨q, hq, rfl⟩ := mIn_of hg.2
        obtain ⟨w, rfl⟩ := part_of hz
        have hY := LH t.1 hp
        have hY9 := of_decide_eq_true h9
        obtain ⟨σ1, e1, s1⟩ := k_byChance1 (D + 5) t hY hY9 ho h10 hp hq w
        have t1 := tL_sC t s1
        obtain ⟨τ, e2, s2, j1, j2, -⟩ := r_layThaws (D + 2) t.1 t1.2.2.2 hY hY9 ho h10 (p := p) (q := q) (by omega) (by omega)
        have hp10 := p10 (n := lY l - 1) (by omega)
        have hab : abv o (lY l - 1) (chF l p q) < 2 ^ 31 := Nat.lt_of_le_of_lt (abv_le h10 (chF_le p q)) hp10
        refine ⟨lN (fpN (abv o (lY l - 1) (chF l p q)) (10 ^ (lY l - 1)) w), σ1, τ, ?_, s1, ?_, s2⟩
        · rw [bnot_t, cF, cT, cT, e1, mBL_s]
        · rw [hM0 σ1 t1.2.2.2, hg', hz, h9, bnot_t, cF, cT, cT, e2, mBV_s, j1, j2, r_part _ hab (by omega) (Nat.pow_pos (by omega)) w, mBL_s]
theorem t_mean (D : Nat) (t : tL σ l) (x : Int32) : qryL (D + 13) n_E_mean n_M_mean [.ref 0, .int x] [.ref 200, .int x] σ := by
  have h2 := lvY t.1
  have h4 := lvLn t.1
  obtain ⟨o, ho, h10⟩ := odd_of t.1
  unfold qryL
  rw [c_E_mean, k_isLand _ σ (tLn t) (by omega), mBI_s, bI_0, k_isPart, mBI_s, bI_n, part_mIn, tY t, le9 (by omega)]
  have hM0 : ∀ τ : mS, lM (τ.1 201) l → Cc (D + 13) n_M_mean [.ref 200, .int x] τ = (bif !(decide (0 < lLn l)) then some (.long (-2), τ) else (bif mIn x 2 then (bif decide (lY l ≤ 9) then (mBV (Cc (D + 12) n_M_layThaws [.ref 200, .int 0, .int 0, .null, .null, .null, .null, .null] τ) fun τ9 => (mBL (Cc (D + 12) n_M_part [.long (τ9.2 200 39), .null, .long (τ9.2 200 37), .null, .int x] τ9) fun r11 τ10 => (some (.long r11, τ10)))) else some (.long (-3), τ)) else some (.long (-2), τ))) := by
    intro τ hM
    rw [c_M_mean, r_isLand _ τ (lM_Ln hM) (by omega), mBI_s, bI_0, r_in, mBI_s, mIn2, bI_n, r_yearMany, mBI_s, lM_Y hM, le9 (by omega)]
  cases hld : decide (0 < lLn l) with
  | false => exact ⟨-2, σ, σ, rfl, sC_r σ, by rw [hM0 σ t.2.2.2, hld]; rfl, sM_r σ⟩
  | true =>
    cases hz : mIn x 2 with
    | false => exact ⟨-2, σ, σ, rfl, sC_r σ, by rw [hM0 σ t.2.2.2, hld, hz]; rfl, sM_r σ⟩
    | true =>
      cases h9 : decide (lY l ≤ 9) with
      | false => exact ⟨-3, σ, σ, rfl, sC_r σ, by rw [hM0 σ t.2.2.2, hld, hz, h9]; rfl, sM_r σ⟩
      | true =>
        obtain ⟨w, rfl⟩ := part_of hz
        have hY : 0 < lY l := (lvLY t.1).mp (of_decide_eq_true hld)
        have hY9 := of_decide_eq_true h9
        obtain ⟨σ1, e1, s1⟩ := k_byChance0 (D + 5) t hY hY9 ho h10 w
        have t1 := tL_sC t s1
        obtain ⟨τ, e2, s2, j1, -, j3⟩ := r_layThaws (D + 2) t.1 t1.2.2.2 hY hY9 ho h10 (p := 0) (q := 0) (by omega) (by omega)
        have hp10 := p10 (n := lY l - 1) (by omega)
        have hab : abv o (lY l - 1) (meF l) < 2 ^ 31 := Nat.lt_of_le_of_lt (abv_le h10 (meF_le t.1)) hp10
        refine ⟨lN (fpN (abv o (lY l - 1) (meF l)) (10 ^ (lY l - 1)) w), σ1, τ, ?_, s1, ?_, s2⟩
        · rw [bnot_t, cF, cT, cT, e1, mBL_s]
        · rw [hM0 σ1 t1.2.2.2, hld, hz, h9, bnot_t, cF, cT, cT, show (Value.int 0) = Value.int (nI 0) from rfl, e2, mBV_s, j1, j3, r_part _ hab (by omega) (Nat.pow_pos (by omega)) w, mBL_s]
