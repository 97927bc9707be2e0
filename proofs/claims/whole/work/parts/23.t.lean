set_option maxHeartbeats 4000000 in
theorem r_asItIs (d : Nat) (σ : mS) : Cc (d + 1) n_M_asItIs [.ref 200, .null] σ = some (.null, sR (sR σ 200 (upd (upd (upd (upd (σ.1 200) 20 (σ.1 201 1)) 21 0) 19 0) 22 (-1))) 215 (rF (fun p => σ.1 201 (9 + p)) (σ.1 215) 6)) := by
  rw [Cc_s, q_M_asItIs_0, show mIn 1 123 = true by decide, cT]
  simp only [mUpI_sR, sR_sR, sR_at]
  generalize hf : upd _ 22 (-1) = f
  have hs := mForN (fun k => Xx d n_M_asItIs 27 [.ref 200, .int (nI k)] [] (sR (sR σ 200 f) 215 (rF (fun p => σ.1 201 (9 + p)) (σ.1 215) k))) 6 (by
    intro k hk
    show Xx d n_M_asItIs 27 _ [] _ = Xx d n_M_asItIs 27 _ [] _
    rw [q_M_asItIs_27]
    simp (disch := omega) only [li_1, li_6, li_9, nI_add, dle, mIn_nI, nI_clamp, mUpI_sR, sR_sR, sR_at, cT]
    rw [dF _ (by omega), cF, sR_ne _ _ (by omega), sR_ne _ _ (by omega), rF_s])
  simp only [rF_0] at hs
  rw [show sR (sR σ 200 f) 215 (σ.1 215) = sR σ 200 f from by
    have := sR_self (sR σ 200 f) 215
    rwa [sR_ne _ _ (by omega)] at this] at hs
  rw [show (0 : Int32) = nI 0 from rfl, hs, q_M_asItIs_27, li_6, dT _ (by decide), cT]
  rw [← hf]
  rfl
