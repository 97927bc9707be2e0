/-! ===== the reference's years: as it is, acts, fading, the whole ===== -/
set_option maxHeartbeats 4000000 in
theorem r_asItIs (d : Nat) (σ : mS) : Cc (d + 1) n_M_asItIs [.ref 200, .null] σ = some (.null, sR (sR σ 200 (upd (upd (upd (upd (σ.1 200) 20 (σ.1 201 1)) 21 0) 19 0) 22 (-1))) 215 (rF (fun p => σ.1 201 (9 + p)) (σ.1 215) 6)) := by
  rw [Cc_s, q_M_asItIs_0]
  simp only [mUpI_sR, sR_sR, sR_at]
  generalize hf : upd _ 22 (-1) = f
  have hs := mForN (fun k => Xx d n_M_asItIs 27 [.ref 200, .int (nI k)] [] (sR (sR σ 200 f) 215 (rF (fun p => σ.1 201 (9 + p)) (σ.1 215) k))) 6 (by
    intro k hk
    show Xx d n_M_asItIs 27 _ [] _ = Xx d n_M_asItIs 27 _ [] _
    rw [q_M_asItIs_27, show decide ((6 : Int32) ≤ nI k) = false from decide_eq_false (nI_ge (b := 6) hk (by decide)), cF]
    simp (disch := omega) only [li_1, li_9, nI_add, mIn_nI, nI_clamp, mUpI_sR, sR_sR, sR_at, cT]
    rw [sR_ne _ _ (by omega), sR_ne _ _ (by omega), rF_s (fun p => σ.1 201 (9 + p))])
  simp only [rF_0] at hs
  rw [show sR (sR σ 200 f) 215 (σ.1 215) = sR σ 200 f from by
    have := sR_self (sR σ 200 f) 215
    rwa [sR_ne _ _ (by omega)] at this] at hs
  rw [show (0 : Int32) = nI 0 from rfl, hs, q_M_asItIs_27, show decide ((6 : Int32) ≤ nI 6) = true by decide, cT]
theorem aN_nI {x : Dd} {e : Nat} (he : x.2.2.1 = nI e) : aN x = nI (100000 * e + 10000 * x.1 + 1000 * x.2.1 + x.2.2.2) := by
  unfold aN
  rw [he, show (100000 : Int32) = nI 100000 from rfl, show (10000 : Int32) = nI 10000 from rfl, show (1000 : Int32) = nI 1000 from rfl, nI_mul, nI_mul, nI_mul, nI_add, nI_add, nI_add]
theorem bw_nI {x : Int32} {b : Int} (h : bw 0 x b) : ∃ e : Nat, x = nI e ∧ (e : Int) ≤ b ∧ e < 2 ^ 31 := by
  obtain ⟨j, h1, rfl⟩ := nI_of (x := x) (by rw [Int32.lt_iff_toInt_lt]; have := h.1; rw [Int32.toInt_zero]; omega)
  refine ⟨j, rfl, ?_, h1⟩
  have := h.2
  rwa [nI_toInt h1] at this
theorem mRem_nI {a d : Nat} (ha : a < 2 ^ 31) (h0 : 0 < d) (hd : d < 2 ^ 31) : mRem (nI a) (nI d) = nI (a % d) := pk_rem ha h0 hd
theorem wSt_n {y : Nat} {W : List Dd} {k : Nat} {x : Dd} (h : W[k]? = some x) (N : Nat → Int32) : wSt y W none k N = (if x.2.2.2 = y then upd N (6 * x.2.1 + x.1) (if x.2.2.1 = 0 then vMx (N (6 * x.2.1 + x.1)) 0 else vMx (N (6 * x.2.1 + x.1) - x.2.2.1) (-60)) else N) := by
  unfold wSt
  rw [if_neg (fun q => by cases q), h]
theorem nzL (n : Nat) (h0 : 0 < n) (h : n < 2 ^ 31) : (!(decide (nI n = 0))) = true := by rw [decide_eq_false (nI_ne0 h0 h)]; rfl
set_option maxHeartbeats 8000000 in
/-- the acts of a year -/
theorem r_actsIn (d y : Nat) (hy : y < 12) (l : Lv) (hl : lvOK l) (σ : mS) (hM : lM (σ.1 201) l) (N : Nat → Int32) : Cc (d + 2) n_M_actsIn [.ref 200, .int (nI y), .null, .null, .null, .null] (sR σ 224 N) = some (.null, sR σ 224 (wAl y (lAc l) none N)) := by
  have hlen : (lAc l).length ≤ 30 := hl.2.2.2.2.2.2.2.2.2.2.2.2.2.2.2.2
  have hac := hl.2.2.2.2.2.2.2.2.2.2.2.2.2.2.1
  have h6 : lP l ≤ 6 := hl.2.1
  have h12 : lY l ≤ 12 := hl.1
  rw [Cc_s, q_M_actsIn_0, show (0 : Int32) = nI 0 from rfl]
  have hs := mFor (fun k (a : (Nat → Int32) × (Value × Value × Value)) => Xx (d + 1) n_M_actsIn 2 [.ref 200, .int (nI y), .int (nI k), a.2.1, a.2.2.1, a.2.2.2] [] (sR σ 224 a.1)) (fun k a => (wSt y (lAc l) none k a.1, match (lAc l)[k]? with | some x => (if x.2.2.2 = y then (.int (aN x), .int (nI x.1), .int (nI x.2.1)) else (.int (aN x), a.2.2.1, a.2.2.2)) | none => a.2)) (lAc l).length (N, .null, .null, .null) (by
    intro k hk
    generalize mF _ k (N, Value.null, Value.null, Value.null) = a
    obtain ⟨N', v3, v4, v5⟩ := a
    dsimp only
    have hx : (lAc l)[k]? = some (lAc l)[k] := List.getElem?_eq_getElem hk
    generalize (lAc l)[k] = x at hx
    have e0 := hM.2.2.2.2.2 k x hx
    obtain ⟨⟨o1, o2, o3, o4, o5⟩, o6⟩ := hac x (List.mem_of_getElem? hx)
    obtain ⟨e, he, he2, -⟩ := bw_nI o4
    have ea := aN_nI he
    rw [q_M_actsIn_2]
    simp (disch := omega) only [li_93, li_1, nI_add, mIn_nI, nI_clamp, cT, sR_ne _ _ (show 201 ≠ 224 by decide), hM.1.2.2.2.2.2.2.2.1, e0, show (!(decide ((100 : Int32) = 0))) = true by decide, show (!(decide ((10000 : Int32) = 0))) = true by decide, show (!(decide ((10 : Int32) = 0))) = true by decide, show (!(decide ((1000 : Int32) = 0))) = true by decide, show (!(decide ((100000 : Int32) = 0))) = true by decide]
    rw [dle (by omega) (by omega), dF _ (by omega), cF]
    have r100 : mRem (aN x) 100 = nI x.2.2.2 := by
      rw [ea, show (100 : Int32) = nI 100 from rfl, mRem_nI (by omega) (by omega) (by omega)]
      congr 1
      omega
    have d1 : mRem (aN x / 10000) 10 = nI x.1 := by
      rw [ea, show (10000 : Int32) = nI 10000 from rfl, show (10 : Int32) = nI 10 from rfl, pk_div (by omega) (by omega) (by omega), mRem_nI (by omega) (by omega) (by omega)]
      congr 1
      omega
    have d2 : mRem (aN x / 1000) 10 = nI x.2.1 := by
      rw [ea, show (1000 : Int32) = nI 1000 from rfl, show (10 : Int32) = nI 10 from rfl, pk_div (by omega) (by omega) (by omega), mRem_nI (by omega) (by omega) (by omega)]
      congr 1
      omega
    have d3 : aN x / 100000 = nI e := by
      rw [ea, show (100000 : Int32) = nI 100000 from rfl, pk_div (by omega) (by omega) (by omega)]
      congr 1
      omega
    have d4 : decide (aN x < 100000) = decide (e = 0) := by
      rw [ea, show (100000 : Int32) = nI 100000 from rfl, dlt (by omega) (by omega)]
      apply decide_eq_decide.mpr
      omega
    rw [r100, d1, d2, d3, d4, deq (by omega) (by omega), hx]
    dsimp only
    rw [wSt_n hx]
    by_cases hz : x.2.2.2 = y
    · rw [dT _ hz, cT, if_pos hz, if_pos hz]
      simp (disch := omega) only [li_6, nI_mul, nI_add, mIn_nI, nI_clamp, cT, mUpI_sR, sR_sR, sR_at]
      by_cases h0 : e = 0
      · rw [dT _ h0, cT, show (if x.2.2.1 = 0 then vMx (N' (6 * x.2.1 + x.1)) 0 else vMx (N' (6 * x.2.1 + x.1) - x.2.2.1) (-60)) = vMx 0 (N' (6 * x.2.1 + x.1)) from by rw [if_pos (by rw [he, h0]; rfl), vMx_comm]]
      · rw [dF _ h0, cF, r_wrongDone d (by omega) (by omega), mBV_s, sR_at, sR_sR, show (if x.2.2.1 = 0 then vMx (N' (6 * x.2.1 + x.1)) 0 else vMx (N' (6 * x.2.1 + x.1) - x.2.2.1) (-60)) = vMx (N' (6 * x.2.1 + x.1) - nI e) (-60) from by rw [he, if_neg (nI_ne0 (by omega) (by omega))]]
    · rw [dF _ hz, cF, if_neg hz, if_neg hz])
  have key : (mF (fun k (a : (Nat → Int32) × (Value × Value × Value)) => (wSt y (lAc l) none k a.1, match (lAc l)[k]? with | some x => (if x.2.2.2 = y then (Value.int (aN x), Value.int (nI x.1), Value.int (nI x.2.1)) else (Value.int (aN x), a.2.2.1, a.2.2.2)) | none => a.2)) (lAc l).length (N, .null, .null, .null)).1 = wAl y (lAc l) none N := by
    unfold wAl
    exact mF_rel (fun _ (a : (Nat → Int32) × (Value × Value × Value)) (b : Nat → Int32) => a.1 = b) _ (wSt y (lAc l) none) _ _ N rfl (fun k a b _ h => by dsimp only; rw [h])
  dsimp only at hs
  rw [hs, q_M_actsIn_2, key]
  simp (disch := omega) only [cT, sR_ne _ _ (show 201 ≠ 224 by decide), hM.1.2.2.2.2.2.2.2.1]
  rw [dle (by omega) (by omega), dT _ (by omega), cT]
