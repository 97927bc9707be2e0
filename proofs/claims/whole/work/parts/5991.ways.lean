/-! ===== rows of posts: asked ===== -/
variable {σ τ : mS} {l : Lv}
theorem rA_o {v : Va} {m : Nat} (a : rA τ l v m) {o : Nat} (h : 227 < o) (f : Nat → Int32) : rA (sR τ o f) l v m := by
  refine ⟨rV_c a.1 (sR_ne _ _ (by omega)) (fun k _ _ => by rw [sR_ne _ _ (by omega)]) (sR_ne _ _ (by omega)) (sR_ne _ _ (by omega)) (sR_ne _ _ (by omega)) (sR_ne _ _ (by omega)), ?_, ?_⟩
  · unfold rF1
    rw [sR_ne _ _ (by omega), sR_ne _ _ (by omega), sR_ne _ _ (by omega)]
    exact a.2.1
  · unfold rG
    rw [sR_ne _ _ (by omega), sR_ne _ _ (by omega)]
    exact a.2.2
theorem r_asksRows (d : Nat) (hl : lvOK l) (hM : lM (τ.1 201) l) : ∃ τ', Cc (d + 10) n_M_asksRows [.ref 200, .null, .null, .null] τ = some (.int (bI (decide (0 < lLn l))), τ') ∧ sM τ τ' ∧ (0 < lLn l → ∀ f, τ'.1 200 31 = oI (rsA l f).1 ∧ τ'.1 200 32 = (rsA l f).2.1 ∧ ∀ q, q < lQ l → τ'.1 229 q = (rsA l f).2.2 q) := by
  have h1 := lvP hl
  have h3 := lvQ hl
  obtain ⟨τ1, e1, s1, a1⟩ := r_asksLand d hl hM
  rw [c_M_asksRows, e1, mBI_s, bI_n]
  cases hld : decide (0 < lLn l) with
  | false => exact ⟨τ1, rfl, s1, fun h => absurd h (of_decide_eq_false hld)⟩
  | true =>
    rw [cT]
    -- words
    have inner : ∀ q, q < lQ l → ∀ (v3 : Value) (s : mS), rA s l (vS l) 0 → sM τ1 s → (∀ q', q' < q → ∀ p, p < lP l → s.1 230 (6 * q' + p) = wd l (vS l) q' p) → ∃ v s', Xx (d + 9) n_M_asksRows 21 [.ref 200, .int (nI q), .int (nI 0), v3] [] s = Xx (d + 9) n_M_asksRows 11 [.ref 200, .int (nI (q + 1)), v, v3] [] s' ∧ rA s' l (vS l) 0 ∧ sM τ1 s' ∧ (∀ q', q' < q + 1 → ∀ p, p < lP l → s'.1 230 (6 * q' + p) = wd l (vS l) q' p) := by
      intro q hq v3 s ha hs hw
      obtain ⟨s', e, i1, i2, i3, i4⟩ := mForI (fun p (_ : Unit) (s : mS) => Xx (d + 9) n_M_asksRows 21 [.ref 200, .int (nI q), .int (nI p), v3] [] s) (fun p s => rA s l (vS l) 0 ∧ sM τ1 s ∧ (∀ q', q' < q → ∀ p, p < lP l → s.1 230 (6 * q' + p) = wd l (vS l) q' p) ∧ ∀ p', p' < p → s.1 230 (6 * q + p') = wd l (vS l) q p') (fun _ a => a) (lP l) () s ⟨ha, hs, hw, fun p' h => by omega⟩ (by
        intro p s hp hI
        obtain ⟨i1, i2, i3, i4⟩ := hI
        obtain ⟨u, eu, -⟩ := r_fw (d + 4) hl i1 hp hq (s.1 200 27)
        rw [← pN_i] at eu
        refine ⟨sR (pN s u) 230 (upd (s.1 230) (6 * q + p) (wd l (vS l) q p)), ?_, rA_o (rA_pN i1 u) (by omega) _, sM_t i2 (sM_t (sM_pN s u) (sM_s _ (by omega) (by omega) _)), fun q' hq' p' hp' => ?_, fun p' hp' => ?_⟩
        · rw [q_M_asksRows_21, r_persons, mBI_s, lM_P i1.1.1, dle (by omega) (by omega), dF _ (by omega), cF, eu, mBI_s, m6l, nI_add, mIn_nI (by omega) (by omega), cT, nI_clamp (by omega), nI_1, mUpI_sR, pN_ne _ _ (by decide)]
        · rw [sR_at, upd_ne _ _ (by omega)]
          exact i3 q' hq' p' hp'
        · rw [sR_at]
          by_cases e : p' = p
          · rw [e, upd_at]
          · rw [upd_ne _ _ (by omega)]
            exact i4 p' (by omega))
      refine ⟨.int (nI (lP l)), s', Eq.trans e ?_, i1, i2, fun q' hq' p hp => ?_⟩
      · rw [q_M_asksRows_21, r_persons, mBI_s, lM_P i1.1.1, dT _ (Int32.le_refl _), cT, nI_1]
      · by_cases e : q' = q
        · subst e; exact i4 p hp
        · exact i3 q' (by omega) p hp
    obtain ⟨⟨v2, τ2⟩, e2, i1, i2, i3⟩ := mForI (fun q (_ : Unit) (b : Value × mS) => Xx (d + 9) n_M_asksRows 11 [.ref 200, .int (nI q), b.1, .null] [] b.2) (fun q b => rA b.2 l (vS l) 0 ∧ sM τ1 b.2 ∧ ∀ q', q' < q → ∀ p, p < lP l → b.2.1 230 (6 * q' + p) = wd l (vS l) q' p) (fun _ a => a) (lQ l) () (.null, τ1) ⟨a1, sM_r τ1, fun q' h => by omega⟩ (by
      intro q b hq hI
      obtain ⟨i1, i2, i3⟩ := hI
      obtain ⟨v, s', e, j1, j2, j3⟩ := inner q hq .null b.2 i1 i2 i3
      refine ⟨(v, s'), ?_, j1, j2, j3⟩
      rw [q_M_asksRows_11, r_posts, mBI_s, lM_Q i1.1.1, dle (by omega) (by omega), dF _ (by omega), cF]
      exact e)
    -- nobody
    have e3 := mForN (fun k => Xx (d + 9) n_M_asksRows 60 [.ref 200, .int (nI k), v2, .null] [] (sR τ2 228 (oRw k (fun _ => none) (τ2.1 228)))) 5 (by
      intro k hk
      show Xx (d + 9) n_M_asksRows 60 _ _ _ = Xx (d + 9) n_M_asksRows 60 _ _ _
      rw [q_M_asksRows_60, show decide ((5 : Int32) ≤ nI k) = false from decide_eq_false (nI_ge (b := 5) hk (by decide)), cF, mIn_nI hk (by decide), cT, nI_clamp (by omega), nI_1, mUpI_sR, sR_at, sR_sR]
      congr 2
      funext j
      unfold upd oRw
      by_cases h : j = k
      · subst h
        rw [if_pos rfl, if_pos (Nat.lt_succ_self j)]; rfl
      · rw [if_neg h]
        by_cases h2 : j < k
        · rw [if_pos h2, if_pos (by omega)]
        · rw [if_neg h2, if_neg (by omega)])
    rw [show oRw 0 (fun _ => none) (τ2.1 228) = τ2.1 228 from funext fun j => if_neg (Nat.not_lt_zero j), sR_self] at e3
    generalize hτ3 : sR τ2 228 (oRw 5 (fun _ => none) (τ2.1 228)) = τ3 at e3
    have s3 : sM τ2 τ3 := by rw [← hτ3]; exact sM_s _ (by omega) (by omega) _
    have r3 : rM2 (mUpI (mUpI τ3 200 31 (-1)) 200 32 0) l (fun _ => none) (none, 0, τ3.1 229) := by
      have ne : ∀ a, a ≠ 200 → (mUpI (mUpI τ3 200 31 (-1)) 200 32 0).1 a = τ3.1 a := fun a h => by rw [mUpI_sR, mUpI_sR, sR_ne _ _ h, sR_ne _ _ h]
      refine ⟨?_, ?_, fun q hq => ?_, rfl, rfl, fun q _ => ?_, fun i e => by cases e⟩
      · rw [ne _ (by decide), ← hτ3, sR_ne _ _ (by decide)]; exact i1.1.1
      · rw [ne _ (by decide), ← hτ3, sR_ne _ _ (by decide)]; exact i3
      · rw [ne _ (by decide), ← hτ3, sR_at, oRw_at hq]
      · rw [ne _ (by decide)]
    obtain ⟨x2, x3, τ4, e4, s4, r4⟩ := r_block (d + 7) hl (lQ l) 0 (fun _ => none) (none, 0, τ3.1 229) _ v2 .null (by omega) r3 (fun q p e => by cases e) (fun q _ => rfl) (fun e => by cases e)
    refine ⟨τ4, ?_, sM_t s1 (sM_t i2 (sM_t s3 (sM_t (sM_3132 _ _ _) s4))), fun _ f => ?_⟩
    · refine Eq.trans e2 ?_
      rw [q_M_asksRows_11, r_posts, mBI_s, lM_Q i1.1.1, dT _ (Int32.le_refl _), cT]
      refine Eq.trans e3 ?_
      rw [q_M_asksRows_60, show decide ((5 : Int32) ≤ nI 5) = true by decide, cT]
      refine Eq.trans e4 ?_
      rw [show (nxP (lP l) 0 (fun _ => none)).1 = false from rfl, q_M_asksRows_90, show decide (bI false = 0) = true by decide, cT]
      rfl
    · have eb : blS l (lQ l) 0 (fun _ => none) (none, 0, τ3.1 229) = rsA l f := flS_free l (lQ l) 0 0 0 (fun _ => none) 0 0 (τ3.1 229) f
      rw [eb] at r4
      exact ⟨r4.2.2.2.1, r4.2.2.2.2.1, fun q hq => r4.2.2.2.2.2.1 q (by omega)⟩
theorem t_best (D : Nat) (t : tL σ l) : qryT (D + 13) n_E_best n_M_best [.ref 0] [.ref 200] σ := by
  have h4 := lvLn t.1
  unfold qryT
  rw [c_E_best, k_isLand _ σ (tLn t) (by omega), mBI_s, bI_n]
  cases hld : decide (0 < lLn l) with
  | false =>
    obtain ⟨τ, e, s, -⟩ := r_asksRows (D + 2) t.1 t.2.2.2
    refine ⟨-2, σ, τ, rfl, sC_r σ, ?_, s⟩
    rw [c_M_best, e, mBI_s, hld]
    rfl
  | true =>
    obtain ⟨σ1, e1, k1, r1⟩ := k_search (D + 3) t
    have t1 := tL_sC t (sC_kH k1)
    obtain ⟨τ, e, s, r⟩ := r_asksRows (D + 2) t.1 t1.2.2.2
    obtain ⟨b1, b2, b3⟩ := r (of_decide_eq_true hld) (σ.1 6)
    refine ⟨oI (rsA l (σ.1 6)).1, σ1, τ, ?_, sC_kH k1, ?_, s⟩
    · rw [cT, e1, mBV_s, r1.1]
    · rw [c_M_best, e, mBI_s, hld, bI_0, bnot_t, cF, b1]
theorem t_ways (D : Nat) (t : tL σ l) : qryT (D + 13) n_E_ways n_M_ways [.ref 0] [.ref 200] σ := by
  have h4 := lvLn t.1
  unfold qryT
  rw [c_E_ways, k_isLand _ σ (tLn t) (by omega), mBI_s, bI_n]
  cases hld : decide (0 < lLn l) with
  | false =>
    obtain ⟨τ, e, s, -⟩ := r_asksRows (D + 2) t.1 t.2.2.2
    refine ⟨-2, σ, τ, rfl, sC_r σ, ?_, s⟩
    rw [c_M_ways, e, mBI_s, hld]
    rfl
  | true =>
    obtain ⟨σ1, e1, k1, r1⟩ := k_search (D + 3) t
    have t1 := tL_sC t (sC_kH k1)
    obtain ⟨τ, e, s, r⟩ := r_asksRows (D + 2) t.1 t1.2.2.2
    obtain ⟨b1, b2, b3⟩ := r (of_decide_eq_true hld) (σ.1 6)
    refine ⟨(rsA l (σ.1 6)).2.1, σ1, τ, ?_, sC_kH k1, ?_, s⟩
    · rw [cT, e1, mBV_s, r1.2.1]
    · rw [c_M_ways, e, mBI_s, hld, bI_0, bnot_t, cF, b2]
theorem t_put (D : Nat) (t : tL σ l) (x : Int32) : qryT (D + 13) n_E_put n_M_put [.ref 0, .int x] [.ref 200, .int x] σ := by
  have h3 := lvQ t.1
  unfold qryT
  rw [c_E_put, k_isPost _ x σ (tQ t) (by omega), mBI_s, bI_n]
  cases hx : mIn x (lQ l) with
  | false =>
    refine ⟨-2, σ, σ, rfl, sC_r σ, ?_, sM_r σ⟩
    rw [c_M_put, r_isPost _ x σ (lM_Q t.2.2.2) (by omega), mBI_s, hx]
    rfl
  | true =>
    obtain ⟨q, hq, rfl⟩ := mIn_of hx
    have hld : 0 < lLn l := lvLand t.1 (Or.inl (by omega))
    obtain ⟨σ1, e1, k1, r1⟩ := k_search (D + 3) t
    have t1 := tL_sC t (sC_kH k1)
    obtain ⟨τ, e, s, r⟩ := r_asksRows (D + 2) t.1 t1.2.2.2
    obtain ⟨b1, b2, b3⟩ := r hld (σ.1 6)
    refine ⟨(rsA l (σ.1 6)).2.2 q, σ1, τ, ?_, sC_kH k1, ?_, s⟩
    · rw [cT, e1, mBV_s, mIn_nI (by omega) (by omega), cT, nI_clamp (by omega), r1.2.2.1 q hq]
    · rw [c_M_put, r_isPost _ _ σ1 (lM_Q t1.2.2.2) (by omega), mBI_s, hx, bI_0, bnot_t, cF, e, mBI_s, decide_eq_true hld, bI_0, bnot_t, cF, mIn_nI (by omega) (by omega), cT, nI_clamp (by omega), b3 q hq]
