/-! ===== slots: the reference ===== -/
variable {σ τ : mS} {l : Lv}
theorem r_isSlot (d : Nat) (x : Int32) (σ : mS) : Cc (d + 2) n_M_isSlot [.int x] σ = some (.int (bI (mIn x 4)), σ) := by
  rw [c_M_isSlot, r_in, mBI_s, mIn4, mZ_b]
  rfl
theorem k_isSlot (d : Nat) (x : Int32) (σ : mS) : Cc (d + 1) n_Sl_isSlot [.ref 7, .int x] σ = some (.int (bI (mIn x 4)), σ) := by
  rw [c_Sl_isSlot]
  exact three x 4 (by decide) σ
theorem r_numberAt (d : Nat) {s i : Nat} (hs : s < 4) (hi : i < 60) (τ : mS) : Cc (d + 1) n_M_numberAt [.ref 200, .int (nI s), .int (nI i)] τ = some (.long (τ.2 242 (60 * s + i)), τ) := by
  rw [c_M_numberAt, show (60 : Int32) = nI 60 from rfl, nI_mul, nI_add, mIn_nI (by omega) (by omega), cT, nI_clamp (by omega)]
theorem in_L (v : Int64) {n : Nat} (hn : n < 2 ^ 31) : (!(decide (v < 0)) && !(decide ((nI n - 1).toInt64 < v))) = decide (0 ≤ v.toInt ∧ v.toInt < n) := by
  have e1 : decide (v < 0) = decide (v.toInt < 0) := decide_eq_decide.mpr (by rw [Int64.lt_iff_toInt_lt]; exact Iff.rfl)
  have e2 : decide ((nI n - 1).toInt64 < v) = decide ((n : Int) - 1 < v.toInt) := decide_eq_decide.mpr (by rw [Int64.lt_iff_toInt_lt, Int32.toInt_toInt64, nI_less1 hn])
  rw [e1, e2]
  by_cases g1 : v.toInt < 0
  · rw [dT _ g1, dF (p := 0 ≤ v.toInt ∧ v.toInt < n) _ (by omega)]; rfl
  · rw [dF _ g1]
    by_cases g2 : (n : Int) - 1 < v.toInt
    · rw [dT _ g2, dF (p := 0 ≤ v.toInt ∧ v.toInt < n) _ (by omega)]; rfl
    · rw [dF _ g2, dT (p := 0 ≤ v.toInt ∧ v.toInt < n) _ (by omega)]; rfl
theorem r_isPostL (d : Nat) (hl : lvOK l) (hM : lM (τ.1 201) l) (v : Int64) : Cc (d + 2) n_M_isPost [.ref 200, .long v, .null] τ = some (.int (bI (decide (0 ≤ v.toInt ∧ v.toInt < lQ l))), τ) := by
  have h3 := lvQ hl
  rw [c_M_isPost, r_posts, mBI_s, lM_Q hM, r_in, mBI_s, in_L v (by omega), mZ_b]
  rfl
theorem r_isPersonL (d : Nat) (hl : lvOK l) (hM : lM (τ.1 201) l) (v : Int64) : Cc (d + 2) n_M_isPerson [.ref 200, .long v, .null] τ = some (.int (bI (decide (0 ≤ v.toInt ∧ v.toInt < lP l))), τ) := by
  have h1 := lvP hl
  rw [c_M_isPerson, r_persons, mBI_s, lM_P hM, r_in, mBI_s, in_L v (by omega), mZ_b]
  rfl
theorem ok_r (x y : Int64) (A B : mR) : (bif decide (bI (decide (0 ≤ x.toInt ∧ x.toInt < lQ l)) = 0) then A else (bif decide (lg_cmp y (-1) = 0) then B else (bif decide (¬ bI (decide (0 ≤ y.toInt ∧ y.toInt < lP l)) = 0) then B else A))) = bif okP l x y then B else A := by
  have e3 : decide (lg_cmp y (-1) = 0) = decide (y.toInt = -1) := decide_eq_decide.mpr (by
    rw [lg_cmp_eq]
    exact ⟨fun e => by rw [e]; decide, fun e => Int64.toInt_inj.mp (by rw [e]; decide)⟩)
  rw [e3, bI_0, bI_n]
  unfold okP
  by_cases g1 : 0 ≤ x.toInt ∧ x.toInt < lQ l
  · rw [dT _ g1]
    by_cases g2 : y.toInt = -1
    · rw [dT _ g2, dT (p := 0 ≤ x.toInt ∧ x.toInt < lQ l ∧ -1 ≤ y.toInt ∧ y.toInt < lP l) _ (by omega)]; rfl
    · rw [dF _ g2]
      by_cases g3 : 0 ≤ y.toInt ∧ y.toInt < lP l
      · rw [dT _ g3, dT (p := 0 ≤ x.toInt ∧ x.toInt < lQ l ∧ -1 ≤ y.toInt ∧ y.toInt < lP l) _ (by omega)]; rfl
      · rw [dF _ g3, dF (p := 0 ≤ x.toInt ∧ x.toInt < lQ l ∧ -1 ≤ y.toInt ∧ y.toInt < lP l) _ (by omega)]; rfl
  · rw [dF _ g1, dF (p := 0 ≤ x.toInt ∧ x.toInt < lQ l ∧ -1 ≤ y.toInt ∧ y.toInt < lP l) _ (by omega)]; rfl
theorem r_askSeen46 (d : Nat) (hl : lvOK l) (hM : lM (τ.1 201) l) {s n : Nat} (hs : s < 4) (hn : n ≤ 60) (hn2 : n % 2 = 0) (h240 : τ.1 240 s = nI n) {R : Nat → Int64} (hR : ∀ i, i < 60 → τ.2 242 (60 * s + i) = R i) : ∀ m j, j + m = n / 2 → Xx (d + 4) n_M_askSeen 46 [.ref 200, .int (nI s), .int (nI (2 * j))] [] τ = (bif (mFst (fun j => !(okP l (R (2 * j)) (R (2 * j + 1)))) m j).isNone then (mBV (Cc (d + 4) n_M_asItIs [.ref 200, .null] τ) fun τ1 => (mBV (Cc (d + 4) n_M_goYears [.ref 200, .null, .null, .null] τ1) fun τ2 => (some (.int 0, τ2)))) else some (.int (-2), τ)) := by
  intro m
  induction m with
  | zero =>
    intro j hj
    rw [q_M_askSeen_46, mIn_nI hs (by decide), cT, nI_clamp (by omega), h240, dle (by omega) (by omega), dT _ (by omega), cT]
    rfl
  | succ m ih =>
    intro j hj
    rw [q_M_askSeen_46, mIn_nI hs (by decide), cT, nI_clamp (by omega), h240, dle (by omega) (by omega), dF _ (by omega), cF, r_numberAt _ hs (by omega), mBL_s, r_isPostL _ hl hM, mBI_s, nI_1, r_numberAt _ hs (by omega), mBL_s, r_numberAt _ hs (by omega), mBL_s, r_isPersonL _ hl hM, mBI_s, hR _ (by omega), hR _ (by omega), nI_2, ok_r, mFst_s]
    cases hk : okP l (R (2 * j)) (R (2 * j + 1)) with
    | true =>
      rw [cT, Bool.not_true, cF, show 2 * j + 2 = 2 * (j + 1) by omega]
      exact ih (j + 1) (by omega)
    | false => rfl
theorem r_askSeen (d : Nat) (hl : lvOK l) (hM : lM (τ.1 201) l) (hld : 0 < lLn l) {s n : Nat} (hs : s < 4) (hn : n ≤ 60) (h240 : τ.1 240 s = nI n) {R : Nat → Int64} (hR : ∀ i, i < 60 → τ.2 242 (60 * s + i) = R i) : (tdB l R n = false → Cc (d + 5) n_M_askSeen [.ref 200, .int (nI s), .null] τ = some (.int (-2), τ)) ∧ (tdB l R n = true → ∃ τ', Cc (d + 5) n_M_askSeen [.ref 200, .int (nI s), .null] τ = some (.int 0, τ') ∧ sM τ τ' ∧ rV τ' l (vS l) 0 ∧ rF1 τ' l (vS l)) := by
  have h4 := lvLn hl
  have e : Cc (d + 5) n_M_askSeen [.ref 200, .int (nI s), .null] τ = (bif decide (n % 2 = 0) then Xx (d + 4) n_M_askSeen 46 [.ref 200, .int (nI s), .int (nI (2 * 0))] [] τ else some (.int (-2), τ)) := by
    rw [c_M_askSeen, r_isSlot, mBI_s, mIn_nI hs (by decide), bI_0, bnot_t, cF, r_isLand _ τ (lM_Ln hM) (by omega), mBI_s, decide_eq_true hld, bI_n, cT, cT, cT, nI_clamp (by omega), h240, nI_m1n (by omega), cT, show (2 : Int32) = nI 2 from rfl, mRem_nI (by omega) (by omega) (by omega), show decide (nI (n % 2) = 0) = decide (n % 2 = 0) from deq (b := 0) (by omega) (by decide)]
    rfl
  rw [e]
  unfold tdB
  by_cases g : n % 2 = 0
  · rw [dT _ g, cT, Bool.true_and, r_askSeen46 d hl hM hs hn g h240 hR (n / 2) 0 (by omega)]
    constructor
    · intro h
      rw [h, cF]
    · intro h
      obtain ⟨τ1, e1, s1, v1⟩ := r_asItIs2 (d + 3) hl hM
      obtain ⟨τ2, e2, s2, v2, f2⟩ := r_goYears2 (d + 1) hl (vS_ok hl) v1
      refine ⟨τ2, ?_, sM_t s1 s2, v2, f2⟩
      rw [h, cT, e1, mBV_s, e2, mBV_s]
  · rw [dF _ g, cF]
    exact ⟨fun _ => rfl, fun h => by cases h⟩
/-- what giving the posts leaves -/
def kG (σ τ : mS) : Prop := (∀ b, b ≠ 200 → b ≠ 225 → b ≠ 226 → τ.1 b = σ.1 b) ∧ ∀ k, k ≠ 27 → τ.1 200 k = σ.1 200 k
theorem kG_g (σ : mS) (g : G3) (u : Int32) : kG σ (gS σ g u) := by
  unfold gS pN
  refine ⟨fun b h1 h2 h3 => ?_, fun k hk => ?_⟩
  · rw [sR_ne _ _ h3, sR_ne _ _ h2, mUpI_sR, sR_ne _ _ h1]
  · rw [sR_ne _ _ (by decide), sR_ne _ _ (by decide), mUpI_sR, sR_at, upd_ne _ _ hk]
theorem r_isSeen (d : Nat) (hl : lvOK l) {v : Va} (hv : vaOK v) {m : Nat} (h : rV τ l v m) (h' : rF1 τ l v) {s n : Nat} (hs : s < 4) (hn : n ≤ 60) (h240 : τ.1 240 s = nI n) {R : Nat → Int64} (hR : ∀ i, i < 60 → τ.2 242 (60 * s + i) = R i) (htd : tdB l R n = true) : ∃ τ', Cc (d + 8) n_M_isSeen [.ref 200, .int (nI s), .null] τ = some (.int (bI (soB (win l v) R n)), τ') ∧ sM τ τ' ∧ rA τ' l v m ∧ kG τ τ' := by
  have h3 := lvQ hl
  obtain ⟨τ1, e1, s1, a1⟩ := r_givePosts2 d hl hv h h'
  refine ⟨τ1, ?_, s1, a1, ?_⟩
  rotate_left
  · obtain ⟨u, eu⟩ := r_givePosts d hl hv h'
    rw [eu] at e1
    cases e1
    exact kG_g _ _ _
  have g240 : τ1.1 240 s = nI n := by rw [s1.1 240 (by omega)]; exact h240
  have gR : ∀ i, i < 60 → τ1.2 242 (60 * s + i) = R i := by rw [s1.2.2 242 (by omega)]; exact hR
  have hn2 : n % 2 = 0 := by
    unfold tdB at htd
    rw [Bool.and_eq_true] at htd
    exact of_decide_eq_true htd.1
  have ok : ∀ j, j < n / 2 → ∃ k, k < lQ l ∧ (R (2 * j)).toInt32 = nI k := by
    intro j hj
    unfold tdB at htd
    rw [Bool.and_eq_true] at htd
    have := mFst_none _ _ _ (Option.isNone_iff_eq_none.mp htd.2) j (by omega) (by omega)
    rw [Bool.not_eq_false'] at this
    have := of_decide_eq_true this
    refine ⟨(R (2 * j)).toInt.toNat, by omega, ?_⟩
    apply Int32.toInt_inj.mp
    rw [nI_toInt (by omega), Int64.toInt_toInt32, Int.bmod_eq_of_le (by omega) (by omega)]
    omega
  have key : ∀ m j, j + m = n / 2 → Xx (d + 7) n_M_isSeen 6 [.ref 200, .int (nI s), .int (nI (2 * j))] [] τ1 = some (.int (bI ((mFst (soC (win l v) R) m j).isNone)), τ1) := by
    intro m
    induction m with
    | zero =>
      intro j hj
      rw [q_M_isSeen_6, mIn_nI hs (by decide), cT, nI_clamp (by omega), g240, dle (by omega) (by omega), dT _ (by omega), cT]
      rfl
    | succ m ih =>
      intro j hj
      obtain ⟨k, hk, ek⟩ := ok j (by omega)
      rw [q_M_isSeen_6, mIn_nI hs (by decide), cT, nI_clamp (by omega), g240, dle (by omega) (by omega), dF _ (by omega), cF, r_numberAt _ hs (by omega), mBL_s, gR _ (by omega), ek, mIn_nI (by omega) (by omega), cT, nI_1, r_numberAt _ hs (by omega), mBL_s, gR _ (by omega), nI_clamp (by omega), a1.2.2.1 k (by omega), decide_eq_decide.mpr (lg_cmp_eq _ _), nI_2, mFst_s]
      unfold soC
      rw [ek, nI_clamp (by omega)]
      cases decide ((oI (win l v k)).toInt64 = R (2 * j + 1)) with
      | true =>
        rw [cT, Bool.not_true, cF, show 2 * j + 2 = 2 * (j + 1) by omega]
        exact ih (j + 1) (by omega)
      | false => rfl
  rw [c_M_isSeen, e1, mBV_s]
  exact key (n / 2) 0 (by omega)
/-! laws -/
def lwB (l : Lv) (R : Nat → Int64) (n : Nat) : Int32 := stS 4 (fun k => soB (win l (vL l (nI k))) R n)
theorem t_laws (D : Nat) (t : tL σ l) {sz : Nat → Option Nat} {wi : Nat → Nat} (hsl : slT σ sz wi) (x : Int32) : qryT (D + 12) n_E_laws n_M_laws [.ref 0, .int x, .null, .null] [.ref 200, .int x, .null, .null] σ := by
  have h4 := lvLn t.1
  unfold qryT
  rw [c_E_laws, k_isLand _ σ (tLn t) (by omega), mBI_s, bI_0, k_isSlot, mBI_s, bI_n]
  cases hld : decide (0 < lLn l) with
  | false =>
    refine ⟨-2, σ, σ, rfl, sC_r σ, ?_, sM_r σ⟩
    rw [c_M_laws, c_M_askSeen, r_isSlot, mBI_s, bI_0, r_isLand _ σ (lM_Ln t.2.2.2) (by omega), mBI_s, hld, bI_n]
    cases mIn x 4 <;> rfl
  | true =>
    cases hx : mIn x 4 with
    | false =>
      refine ⟨-2, σ, σ, rfl, sC_r σ, ?_, sM_r σ⟩
      rw [c_M_laws, c_M_askSeen, r_isSlot, mBI_s, hx, bI_0]
      rfl
    | true =>
      obtain ⟨s, hs, rfl⟩ := mIn_of hx
      have hld' := of_decide_eq_true hld
      obtain ⟨a1, a2, a3, -, -, -⟩ := hsl.1 s hs
      rw [bnot_t, cF, cT, cT, nI_clamp (by omega), a1]
      cases hz : sz s with
      | none =>
        refine ⟨-6, σ, σ, rfl, sC_r σ, ?_, sM_r σ⟩
        rw [c_M_laws, c_M_askSeen, r_isSlot, mBI_s, hx, bI_0, bnot_t, cF, r_isLand _ σ (lM_Ln t.2.2.2) (by omega), mBI_s, hld, bI_n, cT, cT, nI_clamp (by omega), a2, hz]
        rfl
      | some n =>
        have hn := a3 n hz
        rw [hz] at a1 a2
        rw [oI_s, dT _ (Int32.not_lt.mp (nI_pos (by omega))), cT, k_isTold _ t hs hn a1, mBI_s, bI_n]
        have hR : ∀ τ : mS, slT τ sz wi → τ.2 = σ.2 → ∀ i, i < 60 → τ.2 242 (60 * s + i) = σ.2 (9 + s) i := fun τ h e i hi => by rw [h.2 s hs i hi, e]
        have ht := r_askSeen (D + 6) t.1 t.2.2.2 hld' hs hn a2 (R := σ.2 (9 + s)) (hsl.2 s hs)
        cases htd : tdB l (σ.2 (9 + s)) n with
        | false =>
          refine ⟨-2, σ, σ, rfl, sC_r σ, ?_, sM_r σ⟩
          rw [c_M_laws, ht.1 htd, mBI_s]
          rfl
        | true =>
          obtain ⟨σ1, e1, i1, i2⟩ := mForI (fun k (w : Int32) (b : mS) => Xx (D + 11) n_E_laws 54 [.ref 0, .int (nI s), .int w, .int (nI k)] [] b) (fun _ b => tL b l ∧ sC σ b) (fun k w => bif soB (win l (vL l (nI k))) (σ.2 (9 + s)) n then w ||| (1 <<< (nI k &&& 31)) else w) 4 0 σ ⟨t, sC_r σ⟩ (by
            intro k b hk hI
            generalize mF _ k (0 : Int32) = w
            obtain ⟨σ2, e2, o2, t2, c2⟩ := k_givenByLaw (D + 5) hI.1 hk
            have s2 : sC σ σ2 := sC_t hI.2 (sC_k o2)
            have b1 : σ2.1 14 s = nI n := by rw [s2.1 14 (by omega)]; exact a1
            refine ⟨σ2, ?_, t2, s2⟩
            rw [q_E_laws_54, show decide ((4 : Int32) ≤ nI k) = false from decide_eq_false (nI_ge (b := 4) hk (by decide)), cF, e2, mBI_s, k_isSo _ hs hn b1 c2.2.2.2 t.1 (by rw [s2.2]; exact htd), mBI_s, bI_0, s2.2, nI_1]
            cases soB (win l (vL l (nI k))) (σ.2 (9 + s)) n <;> rfl)
          have sl1 := slT_sC hsl i2
          have ht1 := r_askSeen (D + 6) t.1 i1.2.2.2 hld' hs hn (by rw [i2.1 240 (by omega)]; exact a2) (R := σ.2 (9 + s)) (hR σ1 sl1 i2.2)
          obtain ⟨τ1, e3, s3, v3, f3⟩ := ht1.2 htd
          obtain ⟨⟨vv, τ2⟩, e4, i4⟩ := mForI (fun k (w : Int32) (b : Value × mS) => Xx (D + 11) n_M_laws 19 [.ref 200, .int (nI s), b.1, .int w] [] b.2) (fun k b => sM σ1 b.2 ∧ rV b.2 l (vL l (nI k)) 0) (fun k w => bif soB (win l (vL l (nI k))) (σ.2 (9 + s)) n then w ||| (1 <<< (nI k &&& 31)) else w) 4 0 (.int 0, mUpI τ1 200 20 0) ⟨sM_t s3 (sM_u _ (by omega) _), rV_law v3 0⟩ (by
            intro k b hk hI
            generalize mF _ k (0 : Int32) = w
            obtain ⟨τ3, e5, s5, v5, f5⟩ := r_goYears2 (D + 8) t.1 (vL_ok (law_bw hk)) hI.2
            have s6 := sM_t hI.1 s5
            obtain ⟨τ4, e6, s7, a7, -⟩ := r_isSeen (D + 3) t.1 (vL_ok (law_bw hk)) v5 f5 hs hn (by rw [s6.1 240 (by omega), i2.1 240 (by omega)]; exact a2) (R := σ.2 (9 + s)) (by rw [s6.2.2 242 (by omega)]; exact hR σ1 sl1 i2.2) htd
            have e20 : τ4.1 200 20 = nI k := a7.1.2.1
            refine ⟨(mKl b.1, mUpI τ4 200 20 (nI (k + 1))), ?_, sM_t s6 (sM_t s7 (sM_u _ (by omega) _)), rV_law a7.1 (nI (k + 1))⟩
            rw [q_M_laws_19, show b.2.1 200 20 = nI k from hI.2.2.1, show decide ((4 : Int32) ≤ nI k) = false from decide_eq_false (nI_ge (b := 4) hk (by decide)), cF, e5, mBV_s, e6, mBI_s, bI_0, e20, nI_1, or_0]
            cases soB (win l (vL l (nI k))) (σ.2 (9 + s)) n <;> rfl)
          refine ⟨lwB l (σ.2 (9 + s)) n, σ1, τ2, ?_, i2, ?_, i4.1⟩
          · rw [cT]
            refine Eq.trans e1 ?_
            rw [q_E_laws_54, show decide ((4 : Int32) ≤ nI 4) = true by decide, cT]
            rfl
          · rw [c_M_laws, e3, mBI_s, show decide ((0 : Int32) ≤ 0) = true by decide, cT]
            refine Eq.trans e4 ?_
            rw [q_M_laws_19, show τ2.1 200 20 = nI 4 from i4.2.2.1, show decide ((4 : Int32) ≤ nI 4) = true by decide, cT]
            rfl
