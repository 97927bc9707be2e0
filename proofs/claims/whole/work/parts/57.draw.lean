/-! ===== years drawn ===== -/
variable {σ τ : mS} {l : Lv}
def vT (l : Lv) (th : Int32) : Va := (lLaw l, th, none, fun _ => 0, lSk l)
theorem vT_ok (hl : lvOK l) (th : Int32) : vaOK (vT l th) := by
  refine ⟨lvLaw hl, fun i h => ?_, fun c => ?_, fun p _ => rfl⟩
  · cases h
  · show bw 0 0 1000
    exact ⟨by decide, by decide⟩
def drX (x : Int64) : Int64 := mRemL ((1103515245 : Int64) * x + (12345 : Int64)) 2147483648
def drS (o : Int32) (k : Nat) (s : Int64 × Int32) : Int64 × Int32 := (drX s.1, bif decide ((0 : Int32) ≤ lg_cmp (mRemL (drX s.1 / (65536 : Int64)) 10) o.toInt64) then s.2 else s.2 ||| (1 <<< (nI k &&& 31)))
def drA (l : Lv) (x : Int64) : Int32 := (mF (drS (lOdd l)) (lY l - 1) (x, 0)).2
theorem k_th (h : cV σ 30 l (vS l)) (th : Int32) : cV (mUpI σ 30 2 th) 30 l (vT l th) := by
  obtain ⟨a1, a2, a3, a4, a5⟩ := h
  refine ⟨?_, rfl, ?_, ?_, ?_⟩
  · rw [mUpI_sR, sR_at, upd_ne _ _ (by decide)]; exact a1
  · rw [mUpI_sR, sR_at, upd_ne _ _ (by decide)]; exact a3
  · rw [mUpI_sR, sR_ne _ _ (by decide)]; exact a4
  · rw [mUpI_sR, sR_ne _ _ (by decide)]; exact a5
theorem k_runDrawn (d : Nat) (t : tL σ l) (hY : 0 < lY l) (s : Int32) : ∃ τ, Cc (d + 6) n_E_runDrawn [.ref 0, .int s, .null, .null, .null, .null] σ = some (.null, τ) ∧ kO 30 σ τ ∧ tL τ l ∧ cR τ 30 l (vT l (drA l s.toInt64)) := by
  have h2 := lvY t.1
  have hodd : σ.1 40 2 = lOdd l := t.2.1.1.2.2.1
  obtain ⟨v, hs⟩ := mForH (fun k (a : Int64 × Int32) (v : Value) => Xx (d + 5) n_E_runDrawn 9 [.ref 0, v, .long a.1, .null, .int a.2, .int (nI k)] [] σ) (drS (lOdd l)) (lY l - 1) (s.toInt64, 0) (.int s) (by
    intro k v hk
    generalize mF _ k (s.toInt64, (0 : Int32)) = a
    rw [q_E_runDrawn_9, tY t, show (1 : Int32) = nI 1 from rfl, nI_add, dle (by omega) (by omega), dF _ (by omega), cF, q_E_runDrawn_28, q_E_runDrawn_37, q_E_runDrawn_55, hodd, nI_1]
    refine ⟨mKl v, ?_⟩
    unfold drS
    show (bif decide ((0 : Int32) ≤ lg_cmp (mRemL (drX a.1 / (65536 : Int64)) 10) (lOdd l).toInt64) then _ else _) = _
    cases decide ((0 : Int32) ≤ lg_cmp (mRemL (drX a.1 / (65536 : Int64)) 10) (lOdd l).toInt64) <;> rfl)
  obtain ⟨τ1, e1, o1, t1, v1⟩ := k_resetT (d + 3) t
  have o2 : kO 30 τ1 (mUpI τ1 30 2 (drA l s.toInt64)) := kO_u τ1 (by omega) (by omega) _ _
  obtain ⟨τ2, e2, o3, t2, c2⟩ := k_runT d (tL_sC t1 (sC_k o2)) (vT_ok t.1 _) (k_th v1 (drA l s.toInt64))
  refine ⟨τ2, ?_, kO_t o1 (kO_t o2 o3), t2, c2⟩
  rw [c_E_runDrawn]
  refine Eq.trans hs ?_
  rw [q_E_runDrawn_9, tY t, show (1 : Int32) = nI 1 from rfl, nI_add, dle (by omega) (by omega), dT _ (by omega), cT, e1, mBV_s]
  show mBV (Cc (d + 5) n_Co_run [.ref 30, .null] (mUpI τ1 30 2 (drA l s.toInt64))) _ = _
  rw [e2, mBV_s]
theorem rV_th {v : Va} {m : Nat} (h : rV τ l v m) (x : Int32) : rV (mUpI τ 200 21 x) l (v.1, x, v.2.2) m := by
  obtain ⟨h1, h2, h3, h4, h5, a, b, n, h6, h7⟩ := h
  refine ⟨?_, ?_, rfl, ?_, ?_, a, b, n, ?_, h7⟩
  · rw [mUpI_sR, sR_ne _ _ (by decide)]; exact h1
  · rw [mUpI_sR, sR_at, upd_ne _ _ (by decide)]; exact h2
  · rw [mUpI_sR, sR_at, upd_ne _ _ (by decide)]; exact h4
  · rw [mUpI_sR, sR_ne _ _ (by decide)]; exact h5
  · unfold mrOK at h6 ⊢
    rw [mUpI_sR, sR_at, upd_ne _ _ (by decide), sR_ne _ _ (by decide), sR_ne _ _ (by decide), sR_ne _ _ (by decide)]
    exact h6
theorem r_goDrawn (d : Nat) (hl : lvOK l) (hM : lM (τ.1 201) l) (hY : 0 < lY l) (x : Int64) : ∃ τ', Cc (d + 9) n_M_goDrawn [.ref 200, .long x, .null, .null, .null, .null] τ = some (.null, τ') ∧ sM τ τ' ∧ rA τ' l (vT l (drA l x)) 0 := by
  have h2 := lvY hl
  obtain ⟨τ1, e1, s1, v1⟩ := r_asItIs2 (d + 7) hl hM
  have eL : nI (lY l) - 1 = nI (lY l - 1) := by
    have := nI_pred (lY l - 1)
    rwa [show lY l - 1 + 1 = lY l by omega] at this
  -- thaws so far are in the state
  obtain ⟨⟨va, vb, τ2⟩, hs, hI⟩ := mForI (fun k (a : Int64 × Int32) (s : Value × Value × mS) => (if s.2.2.1 200 21 = a.2 then Xx (d + 8) n_M_goDrawn 9 [.ref 200, s.1, s.2.1, .long a.1, .null, .int (nI k)] [] s.2.2 else none)) (fun k s => sM τ1 s.2.2 ∧ ∃ th, rV s.2.2 l (vT l th) 0 ∧ th = (mF (drS (lOdd l)) k (x, 0)).2) (drS (lOdd l)) (lY l - 1) (x, 0) (.long x, .null, τ1) ⟨sM_r τ1, 0, v1, rfl⟩ (by
    intro k s hk hI
    obtain ⟨i1, th, i2, i3⟩ := hI
    have e4 : mF (drS (lOdd l)) (k + 1) (x, 0) = drS (lOdd l) k (mF (drS (lOdd l)) k (x, 0)) := rfl
    rw [e4]
    generalize mF (drS (lOdd l)) k (x, 0) = a at i3
    have e21 : s.2.2.1 200 21 = a.2 := by rw [← i3]; exact i2.2.2.1
    refine ⟨(s.1, mKl s.2.1, mUpI s.2.2 200 21 (drS (lOdd l) k a).2), ?_, sM_t i1 (sM_u _ (by omega) _), (drS (lOdd l) k a).2, rV_th i2 _, rfl⟩
    dsimp only
    rw [if_pos e21, if_pos (show (mUpI s.2.2 200 21 (drS (lOdd l) k a).2).1 200 21 = (drS (lOdd l) k a).2 from rfl), q_M_goDrawn_9, r_yearMany, mBI_s, lM_Y i2.1, eL, dle (by omega) (by omega), dF _ (by omega), cF, q_M_goDrawn_25, q_M_goDrawn_34, q_M_goDrawn_56, i2.1.1.2.2.1, e21, nI_1, or_0]
    show (bif decide ((0 : Int32) ≤ lg_cmp (mRemL (drX a.1 / (65536 : Int64)) 10) (lOdd l).toInt64) then _ else _) = _
    unfold drS
    dsimp only
    cases decide ((0 : Int32) ≤ lg_cmp (mRemL (drX a.1 / (65536 : Int64)) 10) (lOdd l).toInt64) <;> rfl)
  obtain ⟨i1, th, i2, i3⟩ := hI
  dsimp only at i1 i2 hs
  have e21 : τ2.1 200 21 = (mF (drS (lOdd l)) (lY l - 1) (x, 0)).2 := by rw [← i3]; exact i2.2.2.1
  rw [if_pos (show τ1.1 200 21 = 0 from v1.2.2.1), if_pos e21] at hs
  obtain ⟨τ3, e3, s3, a3⟩ := r_goAll d hl (vT_ok hl th) i2
  refine ⟨τ3, ?_, sM_t s1 (sM_t i1 s3), by unfold drA; rw [← i3]; exact a3⟩
  rw [c_M_goDrawn, e1, mBV_s]
  refine Eq.trans hs ?_
  rw [q_M_goDrawn_9, r_yearMany, mBI_s, lM_Y i2.1, eL, dT _ (Int32.le_refl _), cT, e3, mBV_s]
def sdB (x : Int32) : Bool := !(decide (x < 0)) && !(decide ((2000000000 : Int32) < x))
theorem k_isSeed (d : Nat) (x : Int32) (σ : mS) : Cc (d + 1) n_E_isSeed [.int x] σ = some (.int (bI (sdB x)), σ) := by
  rw [c_E_isSeed]
  unfold sdB
  cases decide (x < 0) <;> cases decide ((2000000000 : Int32) < x) <;> rfl
theorem l_lt (x y : Int32) : decide (x.toInt64 < y.toInt64) = decide (x < y) := decide_eq_decide.mpr (by rw [Int64.lt_iff_toInt_lt, Int32.toInt_toInt64, Int32.toInt_toInt64, Int32.lt_iff_toInt_lt])
theorem r_isSeed (d : Nat) (x : Int32) (σ : mS) : Cc (d + 2) n_M_isSeed [.int x] σ = some (.int (bI (sdB x)), σ) := by
  rw [c_M_isSeed, r_in, mBI_s, show (0 : Int64) = (0 : Int32).toInt64 by decide, show (2000000000 : Int64) = (2000000000 : Int32).toInt64 by decide, l_lt, l_lt, mZ_b]
  rfl
theorem t_drawn (D : Nat) (t : tL σ l) (x y : Int32) : qryT (D + 13) n_E_drawn n_M_drawn [.ref 0, .int x, .int y] [.ref 200, .int x, .int y] σ := by
  have h3 := lvQ t.1
  have h4 := lvLn t.1
  unfold qryT
  rw [c_E_drawn, k_isLand _ σ (tLn t) (by omega), mBI_s, bI_0, k_isSeed, mBI_s, bI_0, k_isPart, mBI_s, bI_n, part_mIn]
  have hM0 : ∀ τ : mS, lM (τ.1 201) l → Cc (D + 13) n_M_drawn [.ref 200, .int x, .int y] τ = (bif !(decide (0 < lLn l)) then some (.int (-2), τ) else (bif !(sdB x) then some (.int (-2), τ) else (bif mIn y 2 then (mBV (Cc (D + 12) n_M_goDrawn [.ref 200, .long x.toInt64, .null, .null, .null, .null] τ) fun τ7 => (bif decide (¬ y = 0) then (mBI (Cc (D + 12) n_M_givenSet [.ref 200, .null, .null] τ7) fun r9 τ8 => (some (.int r9, τ8))) else (some (.int (τ7.1 200 21), τ7)))) else some (.int (-2), τ)))) := by
    intro τ hM
    rw [c_M_drawn, r_isLand _ τ (lM_Ln hM) (by omega), mBI_s, bI_0, r_isSeed, mBI_s, bI_0, r_in, mBI_s, mIn2, bI_n]
  cases hld : decide (0 < lLn l) with
  | false => exact ⟨-2, σ, σ, rfl, sC_r σ, by rw [hM0 σ t.2.2.2, hld]; rfl, sM_r σ⟩
  | true =>
    cases hz : sdB x with
    | false => exact ⟨-2, σ, σ, rfl, sC_r σ, by rw [hM0 σ t.2.2.2, hld, hz]; rfl, sM_r σ⟩
    | true =>
      cases hw : mIn y 2 with
      | false => exact ⟨-2, σ, σ, rfl, sC_r σ, by rw [hM0 σ t.2.2.2, hld, hz, hw]; rfl, sM_r σ⟩
      | true =>
        have hY : 0 < lY l := (lvLY t.1).mp (of_decide_eq_true hld)
        obtain ⟨σ1, e1, o1, t1, c1⟩ := k_runDrawn (D + 6) t hY x
        obtain ⟨τ, e2, s2, a2⟩ := r_goDrawn (D + 3) t.1 t1.2.2.2 hY x.toInt64
        obtain ⟨b, rfl⟩ := part_of hw
        refine ⟨bif b then gvnS (lQ l) (win l (vT l (drA l x.toInt64))) else drA l x.toInt64, σ1, τ, ?_, sC_k o1, ?_, s2⟩
        · rw [bnot_t, cF, cF, cT, e1, mBV_s, bI_n, k_postsGiven _ 30 (Or.inr rfl) h3 (tQ t1) c1.2.2.2 (win_big t.1), mBI_s, show σ1.1 30 2 = drA l x.toInt64 from c1.1.2.1]
          cases b <;> rfl
        · rw [hM0 σ1 t1.2.2.2, hld, hz, hw, bnot_t, cF, cF, cT, e2, mBV_s, bI_n, r_givenSet _ h3 (lM_Q a2.1.1) a2.2.2.1 (win_big t.1), mBI_s, show τ.1 200 21 = drA l x.toInt64 from a2.1.2.2.1]
          cases b <;> rfl
/-! luck -/
theorem k_times (d : Nat) {w : Nat → Option Nat} (hw : ∀ q, q < 5 → σ.1 35 q = oI (w q)) (hw2 : ∀ q i, w q = some i → i < 2 ^ 31) {p q : Nat} (hp : p < 2 ^ 31) (hq : q < 5) : Cc (d + 1) n_Co_times [.ref 30, .int (nI p), .int (nI q)] σ = some (.int (bI (decide (w q = some p))), σ) := by
  rw [c_Co_times _ _ _ _ (Or.inr rfl), mIn_nI (by omega) (by omega), cT, nI_clamp (by omega), hw q hq, oI_eq2 hp (hw2 q)]
  cases decide (w q = some p) <;> rfl
def n20 (x : Int32) : Bool := !(decide (x < 1)) && !(decide ((20 : Int32) < x))
theorem n20_of {x : Int32} (h : n20 x = true) : ∃ n, n ≤ 20 ∧ x = nI n := by
  unfold n20 at h
  simp only [Bool.and_eq_true, Bool.not_eq_true', decide_eq_false_iff_not] at h
  have h1 := mt i_lt.mpr h.1
  have h2 := mt i_lt.mpr h.2
  rw [show (1 : Int32).toInt = 1 by decide] at h1
  rw [show (20 : Int32).toInt = 20 by decide] at h2
  obtain ⟨j, hj, rfl⟩ := nI_of (x := x) (fun q => by have := i_lt.mp q; rw [Int32.toInt_zero] at this; omega)
  rw [nI_toInt hj] at h2
  exact ⟨j, by omega, rfl⟩
theorem seed_add {s : Int32} (hs : sdB s = true) {k : Nat} (hk : k < 20) : (s + nI k).toInt64 = s.toInt64 + (nI k).toInt64 := by
  unfold sdB at hs
  simp only [Bool.and_eq_true, Bool.not_eq_true', decide_eq_false_iff_not] at hs
  have h1 := mt i_lt.mpr hs.1
  have h2 := mt i_lt.mpr hs.2
  rw [Int32.toInt_zero] at h1
  rw [show (2000000000 : Int32).toInt = 2000000000 by decide] at h2
  apply Int64.toInt_inj.mp
  have e1 : (s + nI k).toInt = s.toInt + (k : Int) := by
    rw [Int32.toInt_add, nI_toInt (by omega)]
    exact Int.bmod_eq_of_le (by omega) (by omega)
  rw [Int32.toInt_toInt64, e1, Int64.toInt_add, Int32.toInt_toInt64, Int32.toInt_toInt64, nI_toInt (by omega)]
  exact (Int.bmod_eq_of_le (by omega) (by omega)).symm
theorem t_luck (D : Nat) (t : tL σ l) (x y z w : Int32) : qryT (D + 13) n_E_luck n_M_luck [.ref 0, .int x, .int y, .int z, .int w, .null, .null] [.ref 200, .int x, .int y, .int z, .int w, .null, .null] σ := by
  have h1 := lvP t.1
  have h3 := lvQ t.1
  unfold qryT
  have hE : Cc (D + 13) n_E_luck [.ref 0, .int x, .int y, .int z, .int w, .null, .null] σ = (bif sdB x && n20 y && mIn z (lP l) && mIn w (lQ l) then Xx (D + 12) n_E_luck 37 [.ref 0, .int x, .int y, .int z, .int w, .int 0, .int 0] [] σ else some (.int (-2), σ)) := by
    rw [c_E_luck, k_isSeed, mBI_s, bI_0, k_isFor _ z w σ (tP t) (by omega) (tQ t) (by omega), mBI_s, bI_n]
    unfold n20
    cases sdB x <;> cases decide (y < 1) <;> cases decide ((20 : Int32) < y) <;> cases mIn z (lP l) <;> cases mIn w (lQ l) <;> rfl
  have hM0 : ∀ τ : mS, lM (τ.1 201) l → Cc (D + 13) n_M_luck [.ref 200, .int x, .int y, .int z, .int w, .null, .null] τ = (bif sdB x && n20 y && mIn z (lP l) && mIn w (lQ l) then Xx (D + 12) n_M_luck 47 [.ref 200, .int x, .int y, .int z, .int w, .int 0, .int 0] [] τ else some (.int (-2), τ)) := by
    intro τ hM
    rw [c_M_luck, r_isSeed, mBI_s, bI_0, r_in, mBI_s, show (1 : Int64) = (1 : Int32).toInt64 by decide, show (20 : Int64) = (20 : Int32).toInt64 by decide, l_lt, l_lt, bI_0, r_isPerson _ z τ (lM_P hM) (by omega), mBI_s, bI_0, r_isPost _ w τ (lM_Q hM) (by omega), mBI_s, bI_n]
    unfold n20
    cases sdB x <;> cases decide (y < 1) <;> cases decide ((20 : Int32) < y) <;> cases mIn z (lP l) <;> cases mIn w (lQ l) <;> rfl
  rw [hE]
  cases hg : (sdB x && n20 y && mIn z (lP l) && mIn w (lQ l)) with
  | false => exact ⟨-2, σ, σ, rfl, sC_r σ, by rw [hM0 σ t.2.2.2, hg]; rfl, sM_r σ⟩
  | true =>
    have hg' := hg
    simp only [Bool.and_eq_true] at hg
    obtain ⟨⟨⟨g1, g2⟩, g3⟩, g4⟩ := hg
    obtain ⟨n, hn, rfl⟩ := n20_of g2
    obtain ⟨p, hp, rfl⟩ := mIn_of g3
    obtain ⟨q, hq, rfl⟩ := mIn_of g4
    have hY := LH t.1 hp
    obtain ⟨σ1, e1, i1⟩ := mForI (fun k (a : Int32) (s : mS) => Xx (D + 12) n_E_luck 37 [.ref 0, .int x, .int (nI n), .int (nI p), .int (nI q), .int a, .int (nI k)] [] s) (fun _ s => tL s l ∧ sC σ s) (fun k a => a + bI (decide (win l (vT l (drA l (x + nI k).toInt64)) q = some p))) n 0 σ ⟨t, sC_r σ⟩ (by
      intro k s hk hI
      generalize mF _ k (0 : Int32) = a
      obtain ⟨σ2, e2, o2, t2, c2⟩ := k_runDrawn (D + 6) hI.1 hY (x + nI k)
      refine ⟨σ2, ?_, t2, sC_t hI.2 (sC_k o2)⟩
      rw [q_E_luck_37, dle (by omega) (by omega), dF _ (by omega), cF, e2, mBV_s, k_times _ c2.2.2.2 (win_big t.1) (by omega) (by omega), mBI_s, nI_1])
    obtain ⟨τ, e3, i3⟩ := mForI (fun k (a : Int32) (s : mS) => Xx (D + 12) n_M_luck 47 [.ref 200, .int x, .int (nI n), .int (nI p), .int (nI q), .int a, .int (nI k)] [] s) (fun _ s => lM (s.1 201) l ∧ sM σ1 s) (fun k a => a + bI (decide (win l (vT l (drA l (x + nI k).toInt64)) q = some p))) n 0 σ1 ⟨i1.1.2.2.2, sM_r σ1⟩ (by
      intro k s hk hI
      generalize mF _ k (0 : Int32) = a
      obtain ⟨τ2, e2, s2, a2⟩ := r_goDrawn (D + 3) t.1 hI.1 hY (x + nI k).toInt64
      refine ⟨τ2, ?_, sM_lM s2 hI.1, sM_t hI.2 s2⟩
      rw [q_M_luck_47, dle (by omega) (by omega), dF _ (by omega), cF, ← seed_add g1 (by omega), e2, mBV_s, mIn_nI (by omega) (by omega), cT, nI_clamp (by omega), a2.2.2.1 q (by omega), oI_eq2 (by omega) (win_big t.1 q), nI_1]
      cases decide (win l (vT l (drA l (x + nI k).toInt64)) q = some p) <;> rfl)
    refine ⟨mF (fun k a => a + bI (decide (win l (vT l (drA l (x + nI k).toInt64)) q = some p))) n 0, σ1, τ, ?_, i1.2, ?_, i3.2⟩
    · rw [cT]
      exact Eq.trans e1 (by rw [q_E_luck_37, dT _ (Int32.le_refl _), cT])
    · rw [hM0 σ1 i1.1.2.2.2, hg', cT]
      exact Eq.trans e3 (by rw [q_M_luck_47, dT _ (Int32.le_refl _), cT])
