/-! ===== slots: what they say of posts ===== -/
variable {σ τ : mS} {l : Lv}
/-- both sides' slots -/
def slT (σ : mS) (sz : Nat → Option Nat) (wi : Nat → Nat) : Prop := (∀ s, s < 4 → σ.1 14 s = oI (sz s) ∧ σ.1 240 s = oI (sz s) ∧ (∀ n, sz s = some n → n ≤ 60) ∧ σ.1 13 s = nI (wi s) ∧ σ.1 241 s = nI (wi s) ∧ wi s < 4) ∧ ∀ s, s < 4 → ∀ i, i < 60 → σ.2 242 (60 * s + i) = σ.2 (9 + s) i
theorem slT_sC {sz : Nat → Option Nat} {wi : Nat → Nat} (h : slT σ sz wi) (g : sC σ τ) : slT τ sz wi := by
  unfold slT at h ⊢
  rw [g.1 14 (by omega), g.1 240 (by omega), g.1 13 (by omega), g.1 241 (by omega), g.2]
  exact h
theorem slT_sM {sz : Nat → Option Nat} {wi : Nat → Nat} (h : slT σ sz wi) (g : sM σ τ) : slT τ sz wi := by
  unfold slT at h ⊢
  rw [g.1 14 (by omega), g.1 240 (by omega), g.1 13 (by omega), g.1 241 (by omega)]
  refine ⟨h.1, fun s hs i hi => ?_⟩
  rw [g.2.2 242 (by omega), g.2.2 (9 + s) (by omega)]
  exact h.2 s hs i hi
def okP (l : Lv) (x y : Int64) : Bool := decide (0 ≤ x.toInt ∧ x.toInt < lQ l ∧ -1 ≤ y.toInt ∧ y.toInt < lP l)
def tdB (l : Lv) (R : Nat → Int64) (n : Nat) : Bool := decide (n % 2 = 0) && (mFst (fun j => !(okP l (R (2 * j)) (R (2 * j + 1)))) (n / 2) 0).isNone
def soC (w : Nat → Option Nat) (R : Nat → Int64) (j : Nat) : Bool := !(decide ((oI (w (R (2 * j)).toInt32.toNatClampNeg)).toInt64 = R (2 * j + 1)))
def soB (w : Nat → Option Nat) (R : Nat → Int64) (n : Nat) : Bool := (mFst (soC w R) (n / 2) 0).isNone
theorem ok_k (hl : lvOK l) (x y : Int64) (A B : mR) : (bif decide (lg_cmp x 0 < 0) then A else (bif decide ((0 : Int32) ≤ lg_cmp x (nI (lQ l)).toInt64) then A else (bif decide (lg_cmp y (-1) < 0) then A else (bif decide (lg_cmp y (nI (lP l)).toInt64 < 0) then B else A)))) = bif okP l x y then B else A := by
  have h1 := lvP hl
  have h3 := lvQ hl
  have e1 : decide (lg_cmp x 0 < 0) = decide (x.toInt < 0) := decide_eq_decide.mpr (by rw [lg_cmp_lt, Int64.lt_iff_toInt_lt]; rfl)
  have e2 : decide ((0 : Int32) ≤ lg_cmp x (nI (lQ l)).toInt64) = decide ((lQ l : Int) ≤ x.toInt) := decide_eq_decide.mpr (by rw [lg_cmp_ge, Int64.le_iff_toInt_le, Int32.toInt_toInt64, nI_toInt (by omega)])
  have e3 : decide (lg_cmp y (-1) < 0) = decide (y.toInt < -1) := decide_eq_decide.mpr (by rw [lg_cmp_lt, Int64.lt_iff_toInt_lt]; exact Iff.rfl)
  have e4 : decide (lg_cmp y (nI (lP l)).toInt64 < 0) = decide (y.toInt < (lP l : Int)) := decide_eq_decide.mpr (by rw [lg_cmp_lt, Int64.lt_iff_toInt_lt, Int32.toInt_toInt64, nI_toInt (by omega)])
  rw [e1, e2, e3, e4]
  unfold okP
  by_cases g1 : x.toInt < 0
  · rw [dT _ g1, dF (p := 0 ≤ x.toInt ∧ x.toInt < lQ l ∧ -1 ≤ y.toInt ∧ y.toInt < lP l) _ (by omega)]; rfl
  · rw [dF _ g1]
    by_cases g2 : (lQ l : Int) ≤ x.toInt
    · rw [dT _ g2, dF (p := 0 ≤ x.toInt ∧ x.toInt < lQ l ∧ -1 ≤ y.toInt ∧ y.toInt < lP l) _ (by omega)]; rfl
    · rw [dF _ g2]
      by_cases g3 : y.toInt < -1
      · rw [dT _ g3, dF (p := 0 ≤ x.toInt ∧ x.toInt < lQ l ∧ -1 ≤ y.toInt ∧ y.toInt < lP l) _ (by omega)]; rfl
      · rw [dF _ g3]
        by_cases g4 : y.toInt < (lP l : Int)
        · rw [dT _ g4, dT (p := 0 ≤ x.toInt ∧ x.toInt < lQ l ∧ -1 ≤ y.toInt ∧ y.toInt < lP l) _ (by omega)]; rfl
        · rw [dF _ g4, dF (p := 0 ≤ x.toInt ∧ x.toInt < lQ l ∧ -1 ≤ y.toInt ∧ y.toInt < lP l) _ (by omega)]; rfl
theorem nI_2 (n : Nat) : nI n + 2 = nI (n + 2) := nI_add n 2
theorem mFst_s (c : Nat → Bool) (m k : Nat) : mFst c (m + 1) k = bif c k then some k else mFst c m (k + 1) := rfl
theorem k_isTold0 (d : Nat) (t : tL σ l) {n : Nat} (hn : n ≤ 60) (h14 : σ.1 14 0 = nI n) : Cc (d + 1) n_Si_isTold [.ref 15, .int 0, .null, .null, .null] σ = some (.int (bI (tdB l (σ.2 9) n)), σ) := by
  have h1 := lvP t.1
  have h3 := lvQ t.1
  rw [c_Si_isTold_0, h14]
  have key : ∀ m j, j + m = n / 2 → Xx d n_Si_isTold 23 [.ref 15, .int 0, .ref 9, .int (nI n), .int (nI (2 * j))] [] σ = some (.int (bI (decide (n % 2 = 0) && (mFst (fun j => !(okP l (σ.2 9 (2 * j)) (σ.2 9 (2 * j + 1)))) m j).isNone)), σ) := by
    intro m
    induction m with
    | zero =>
      intro j hj
      rw [q_Si_isTold_0_23, nI_1, dle (by omega) (by omega), dT _ (by omega), cT, show (2 : Int32) = nI 2 from rfl, mRem_nI (by omega) (by omega) (by omega), show (0 : Int32) = nI 0 from rfl, dne (by omega) (by omega)]
      by_cases g : n % 2 = 0
      · rw [dF _ (fun x => x g), dT _ g]; rfl
      · rw [dT _ g, dF _ g]; rfl
    | succ m ih =>
      intro j hj
      rw [q_Si_isTold_0_23, nI_1, dle (by omega) (by omega), dF _ (by omega), cF, mIn_nI (by omega) (by omega), mIn_nI (by omega) (by omega), cT, cT, cT, cT, nI_clamp (by omega), nI_clamp (by omega), tQ t, tP t, nI_2, ok_k t.1, mFst_s]
      cases hk : okP l (σ.2 9 (2 * j)) (σ.2 9 (2 * j + 1)) with
      | true =>
        rw [cT, Bool.not_true, cF, show 2 * j + 2 = 2 * (j + 1) by omega]
        exact ih (j + 1) (by omega)
      | false =>
        rw [cF, Bool.not_false, cT]
        cases decide (n % 2 = 0) <;> rfl
  exact key (n / 2) 0 (by omega)
theorem k_isSo0 (d : Nat) {n : Nat} (hn : n ≤ 60) (h14 : σ.1 14 0 = nI n) {w : Nat → Option Nat} (hw : ∀ q, q < 5 → σ.1 35 q = oI (w q)) (hl : lvOK l) (htd : tdB l (σ.2 9) n = true) : Cc (d + 1) n_Si_isSo [.ref 15, .int 0, .null, .null] σ = some (.int (bI (soB w (σ.2 9) n)), σ) := by
  have h3 := lvQ hl
  rw [c_Si_isSo_0]
  have ok : ∀ j, j < n / 2 → ∃ k, k < lQ l ∧ (σ.2 9 (2 * j)).toInt32 = nI k := by
    intro j hj
    unfold tdB at htd
    rw [Bool.and_eq_true] at htd
    have := mFst_none _ _ _ (Option.isNone_iff_eq_none.mp htd.2) j (by omega) (by omega)
    rw [Bool.not_eq_false'] at this
    have := of_decide_eq_true this
    refine ⟨(σ.2 9 (2 * j)).toInt.toNat, by omega, ?_⟩
    apply Int32.toInt_inj.mp
    rw [nI_toInt (by omega), Int64.toInt_toInt32, Int.bmod_eq_of_le (by omega) (by omega)]
    omega
  have key : ∀ m j, j + m = n / 2 → Xx d n_Si_isSo 12 [.ref 15, .int 0, .ref 9, .int (nI (2 * j))] [] σ = some (.int (bI ((mFst (soC w (σ.2 9)) m j).isNone)), σ) := by
    intro m
    induction m with
    | zero =>
      intro j hj
      rw [q_Si_isSo_0_12, h14, nI_1, dle (by omega) (by omega), dT _ (by omega), cT]
      rfl
    | succ m ih =>
      intro j hj
      obtain ⟨k, hk, ek⟩ := ok j (by omega)
      rw [q_Si_isSo_0_12, h14, nI_1, dle (by omega) (by omega), dF _ (by omega), cF, mIn_nI (by omega) (by omega), mIn_nI (by omega) (by omega), cT, cT, nI_clamp (by omega), nI_clamp (by omega), ek, mIn_nI (by omega) (by omega), cT, nI_clamp (by omega), hw k (by omega), decide_eq_decide.mpr (lg_cmp_eq _ _), nI_2, mFst_s]
      unfold soC
      rw [ek, nI_clamp (by omega)]
      cases decide ((oI (w k)).toInt64 = σ.2 9 (2 * j + 1)) with
      | true =>
        rw [cT, Bool.not_true, cF, show 2 * j + 2 = 2 * (j + 1) by omega]
        exact ih (j + 1) (by omega)
      | false => rfl
  exact key (n / 2) 0 (by omega)
theorem k_isTold1 (d : Nat) (t : tL σ l) {n : Nat} (hn : n ≤ 60) (h14 : σ.1 14 1 = nI n) : Cc (d + 1) n_Si_isTold [.ref 15, .int 1, .null, .null, .null] σ = some (.int (bI (tdB l (σ.2 10) n)), σ) := by
  have h1 := lvP t.1
  have h3 := lvQ t.1
  rw [c_Si_isTold_1, h14]
  have key : ∀ m j, j + m = n / 2 → Xx d n_Si_isTold 23 [.ref 15, .int 1, .ref 10, .int (nI n), .int (nI (2 * j))] [] σ = some (.int (bI (decide (n % 2 = 0) && (mFst (fun j => !(okP l (σ.2 10 (2 * j)) (σ.2 10 (2 * j + 1)))) m j).isNone)), σ) := by
    intro m
    induction m with
    | zero =>
      intro j hj
      rw [q_Si_isTold_1_23, nI_1, dle (by omega) (by omega), dT _ (by omega), cT, show (2 : Int32) = nI 2 from rfl, mRem_nI (by omega) (by omega) (by omega), show (0 : Int32) = nI 0 from rfl, dne (by omega) (by omega)]
      by_cases g : n % 2 = 0
      · rw [dF _ (fun x => x g), dT _ g]; rfl
      · rw [dT _ g, dF _ g]; rfl
    | succ m ih =>
      intro j hj
      rw [q_Si_isTold_1_23, nI_1, dle (by omega) (by omega), dF _ (by omega), cF, mIn_nI (by omega) (by omega), mIn_nI (by omega) (by omega), cT, cT, cT, cT, nI_clamp (by omega), nI_clamp (by omega), tQ t, tP t, nI_2, ok_k t.1, mFst_s]
      cases hk : okP l (σ.2 10 (2 * j)) (σ.2 10 (2 * j + 1)) with
      | true =>
        rw [cT, Bool.not_true, cF, show 2 * j + 2 = 2 * (j + 1) by omega]
        exact ih (j + 1) (by omega)
      | false =>
        rw [cF, Bool.not_false, cT]
        cases decide (n % 2 = 0) <;> rfl
  exact key (n / 2) 0 (by omega)
theorem k_isSo1 (d : Nat) {n : Nat} (hn : n ≤ 60) (h14 : σ.1 14 1 = nI n) {w : Nat → Option Nat} (hw : ∀ q, q < 5 → σ.1 35 q = oI (w q)) (hl : lvOK l) (htd : tdB l (σ.2 10) n = true) : Cc (d + 1) n_Si_isSo [.ref 15, .int 1, .null, .null] σ = some (.int (bI (soB w (σ.2 10) n)), σ) := by
  have h3 := lvQ hl
  rw [c_Si_isSo_1]
  have ok : ∀ j, j < n / 2 → ∃ k, k < lQ l ∧ (σ.2 10 (2 * j)).toInt32 = nI k := by
    intro j hj
    unfold tdB at htd
    rw [Bool.and_eq_true] at htd
    have := mFst_none _ _ _ (Option.isNone_iff_eq_none.mp htd.2) j (by omega) (by omega)
    rw [Bool.not_eq_false'] at this
    have := of_decide_eq_true this
    refine ⟨(σ.2 10 (2 * j)).toInt.toNat, by omega, ?_⟩
    apply Int32.toInt_inj.mp
    rw [nI_toInt (by omega), Int64.toInt_toInt32, Int.bmod_eq_of_le (by omega) (by omega)]
    omega
  have key : ∀ m j, j + m = n / 2 → Xx d n_Si_isSo 12 [.ref 15, .int 1, .ref 10, .int (nI (2 * j))] [] σ = some (.int (bI ((mFst (soC w (σ.2 10)) m j).isNone)), σ) := by
    intro m
    induction m with
    | zero =>
      intro j hj
      rw [q_Si_isSo_1_12, h14, nI_1, dle (by omega) (by omega), dT _ (by omega), cT]
      rfl
    | succ m ih =>
      intro j hj
      obtain ⟨k, hk, ek⟩ := ok j (by omega)
      rw [q_Si_isSo_1_12, h14, nI_1, dle (by omega) (by omega), dF _ (by omega), cF, mIn_nI (by omega) (by omega), mIn_nI (by omega) (by omega), cT, cT, nI_clamp (by omega), nI_clamp (by omega), ek, mIn_nI (by omega) (by omega), cT, nI_clamp (by omega), hw k (by omega), decide_eq_decide.mpr (lg_cmp_eq _ _), nI_2, mFst_s]
      unfold soC
      rw [ek, nI_clamp (by omega)]
      cases decide ((oI (w k)).toInt64 = σ.2 10 (2 * j + 1)) with
      | true =>
        rw [cT, Bool.not_true, cF, show 2 * j + 2 = 2 * (j + 1) by omega]
        exact ih (j + 1) (by omega)
      | false => rfl
  exact key (n / 2) 0 (by omega)
theorem k_isTold2 (d : Nat) (t : tL σ l) {n : Nat} (hn : n ≤ 60) (h14 : σ.1 14 2 = nI n) : Cc (d + 1) n_Si_isTold [.ref 15, .int 2, .null, .null, .null] σ = some (.int (bI (tdB l (σ.2 11) n)), σ) := by
  have h1 := lvP t.1
  have h3 := lvQ t.1
  rw [c_Si_isTold_2, h14]
  have key : ∀ m j, j + m = n / 2 → Xx d n_Si_isTold 23 [.ref 15, .int 2, .ref 11, .int (nI n), .int (nI (2 * j))] [] σ = some (.int (bI (decide (n % 2 = 0) && (mFst (fun j => !(okP l (σ.2 11 (2 * j)) (σ.2 11 (2 * j + 1)))) m j).isNone)), σ) := by
    intro m
    induction m with
    | zero =>
      intro j hj
      rw [q_Si_isTold_2_23, nI_1, dle (by omega) (by omega), dT _ (by omega), cT, show (2 : Int32) = nI 2 from rfl, mRem_nI (by omega) (by omega) (by omega), show (0 : Int32) = nI 0 from rfl, dne (by omega) (by omega)]
      by_cases g : n % 2 = 0
      · rw [dF _ (fun x => x g), dT _ g]; rfl
      · rw [dT _ g, dF _ g]; rfl
    | succ m ih =>
      intro j hj
      rw [q_Si_isTold_2_23, nI_1, dle (by omega) (by omega), dF _ (by omega), cF, mIn_nI (by omega) (by omega), mIn_nI (by omega) (by omega), cT, cT, cT, cT, nI_clamp (by omega), nI_clamp (by omega), tQ t, tP t, nI_2, ok_k t.1, mFst_s]
      cases hk : okP l (σ.2 11 (2 * j)) (σ.2 11 (2 * j + 1)) with
      | true =>
        rw [cT, Bool.not_true, cF, show 2 * j + 2 = 2 * (j + 1) by omega]
        exact ih (j + 1) (by omega)
      | false =>
        rw [cF, Bool.not_false, cT]
        cases decide (n % 2 = 0) <;> rfl
  exact key (n / 2) 0 (by omega)
theorem k_isSo2 (d : Nat) {n : Nat} (hn : n ≤ 60) (h14 : σ.1 14 2 = nI n) {w : Nat → Option Nat} (hw : ∀ q, q < 5 → σ.1 35 q = oI (w q)) (hl : lvOK l) (htd : tdB l (σ.2 11) n = true) : Cc (d + 1) n_Si_isSo [.ref 15, .int 2, .null, .null] σ = some (.int (bI (soB w (σ.2 11) n)), σ) := by
  have h3 := lvQ hl
  rw [c_Si_isSo_2]
  have ok : ∀ j, j < n / 2 → ∃ k, k < lQ l ∧ (σ.2 11 (2 * j)).toInt32 = nI k := by
    intro j hj
    unfold tdB at htd
    rw [Bool.and_eq_true] at htd
    have := mFst_none _ _ _ (Option.isNone_iff_eq_none.mp htd.2) j (by omega) (by omega)
    rw [Bool.not_eq_false'] at this
    have := of_decide_eq_true this
    refine ⟨(σ.2 11 (2 * j)).toInt.toNat, by omega, ?_⟩
    apply Int32.toInt_inj.mp
    rw [nI_toInt (by omega), Int64.toInt_toInt32, Int.bmod_eq_of_le (by omega) (by omega)]
    omega
  have key : ∀ m j, j + m = n / 2 → Xx d n_Si_isSo 12 [.ref 15, .int 2, .ref 11, .int (nI (2 * j))] [] σ = some (.int (bI ((mFst (soC w (σ.2 11)) m j).isNone)), σ) := by
    intro m
    induction m with
    | zero =>
      intro j hj
      rw [q_Si_isSo_2_12, h14, nI_1, dle (by omega) (by omega), dT _ (by omega), cT]
      rfl
    | succ m ih =>
      intro j hj
      obtain ⟨k, hk, ek⟩ := ok j (by omega)
      rw [q_Si_isSo_2_12, h14, nI_1, dle (by omega) (by omega), dF _ (by omega), cF, mIn_nI (by omega) (by omega), mIn_nI (by omega) (by omega), cT, cT, nI_clamp (by omega), nI_clamp (by omega), ek, mIn_nI (by omega) (by omega), cT, nI_clamp (by omega), hw k (by omega), decide_eq_decide.mpr (lg_cmp_eq _ _), nI_2, mFst_s]
      unfold soC
      rw [ek, nI_clamp (by omega)]
      cases decide ((oI (w k)).toInt64 = σ.2 11 (2 * j + 1)) with
      | true =>
        rw [cT, Bool.not_true, cF, show 2 * j + 2 = 2 * (j + 1) by omega]
        exact ih (j + 1) (by omega)
      | false => rfl
  exact key (n / 2) 0 (by omega)
theorem k_isTold3 (d : Nat) (t : tL σ l) {n : Nat} (hn : n ≤ 60) (h14 : σ.1 14 3 = nI n) : Cc (d + 1) n_Si_isTold [.ref 15, .int 3, .null, .null, .null] σ = some (.int (bI (tdB l (σ.2 12) n)), σ) := by
  have h1 := lvP t.1
  have h3 := lvQ t.1
  rw [c_Si_isTold_3, h14]
  have key : ∀ m j, j + m = n / 2 → Xx d n_Si_isTold 23 [.ref 15, .int 3, .ref 12, .int (nI n), .int (nI (2 * j))] [] σ = some (.int (bI (decide (n % 2 = 0) && (mFst (fun j => !(okP l (σ.2 12 (2 * j)) (σ.2 12 (2 * j + 1)))) m j).isNone)), σ) := by
    intro m
    induction m with
    | zero =>
      intro j hj
      rw [q_Si_isTold_3_23, nI_1, dle (by omega) (by omega), dT _ (by omega), cT, show (2 : Int32) = nI 2 from rfl, mRem_nI (by omega) (by omega) (by omega), show (0 : Int32) = nI 0 from rfl, dne (by omega) (by omega)]
      by_cases g : n % 2 = 0
      · rw [dF _ (fun x => x g), dT _ g]; rfl
      · rw [dT _ g, dF _ g]; rfl
    | succ m ih =>
      intro j hj
      rw [q_Si_isTold_3_23, nI_1, dle (by omega) (by omega), dF _ (by omega), cF, mIn_nI (by omega) (by omega), mIn_nI (by omega) (by omega), cT, cT, cT, cT, nI_clamp (by omega), nI_clamp (by omega), tQ t, tP t, nI_2, ok_k t.1, mFst_s]
      cases hk : okP l (σ.2 12 (2 * j)) (σ.2 12 (2 * j + 1)) with
      | true =>
        rw [cT, Bool.not_true, cF, show 2 * j + 2 = 2 * (j + 1) by omega]
        exact ih (j + 1) (by omega)
      | false =>
        rw [cF, Bool.not_false, cT]
        cases decide (n % 2 = 0) <;> rfl
  exact key (n / 2) 0 (by omega)
theorem k_isSo3 (d : Nat) {n : Nat} (hn : n ≤ 60) (h14 : σ.1 14 3 = nI n) {w : Nat → Option Nat} (hw : ∀ q, q < 5 → σ.1 35 q = oI (w q)) (hl : lvOK l) (htd : tdB l (σ.2 12) n = true) : Cc (d + 1) n_Si_isSo [.ref 15, .int 3, .null, .null] σ = some (.int (bI (soB w (σ.2 12) n)), σ) := by
  have h3 := lvQ hl
  rw [c_Si_isSo_3]
  have ok : ∀ j, j < n / 2 → ∃ k, k < lQ l ∧ (σ.2 12 (2 * j)).toInt32 = nI k := by
    intro j hj
    unfold tdB at htd
    rw [Bool.and_eq_true] at htd
    have := mFst_none _ _ _ (Option.isNone_iff_eq_none.mp htd.2) j (by omega) (by omega)
    rw [Bool.not_eq_false'] at this
    have := of_decide_eq_true this
    refine ⟨(σ.2 12 (2 * j)).toInt.toNat, by omega, ?_⟩
    apply Int32.toInt_inj.mp
    rw [nI_toInt (by omega), Int64.toInt_toInt32, Int.bmod_eq_of_le (by omega) (by omega)]
    omega
  have key : ∀ m j, j + m = n / 2 → Xx d n_Si_isSo 12 [.ref 15, .int 3, .ref 12, .int (nI (2 * j))] [] σ = some (.int (bI ((mFst (soC w (σ.2 12)) m j).isNone)), σ) := by
    intro m
    induction m with
    | zero =>
      intro j hj
      rw [q_Si_isSo_3_12, h14, nI_1, dle (by omega) (by omega), dT _ (by omega), cT]
      rfl
    | succ m ih =>
      intro j hj
      obtain ⟨k, hk, ek⟩ := ok j (by omega)
      rw [q_Si_isSo_3_12, h14, nI_1, dle (by omega) (by omega), dF _ (by omega), cF, mIn_nI (by omega) (by omega), mIn_nI (by omega) (by omega), cT, cT, nI_clamp (by omega), nI_clamp (by omega), ek, mIn_nI (by omega) (by omega), cT, nI_clamp (by omega), hw k (by omega), decide_eq_decide.mpr (lg_cmp_eq _ _), nI_2, mFst_s]
      unfold soC
      rw [ek, nI_clamp (by omega)]
      cases decide ((oI (w k)).toInt64 = σ.2 12 (2 * j + 1)) with
      | true =>
        rw [cT, Bool.not_true, cF, show 2 * j + 2 = 2 * (j + 1) by omega]
        exact ih (j + 1) (by omega)
      | false => rfl
  exact key (n / 2) 0 (by omega)
theorem k_isTold (d : Nat) (t : tL σ l) {s : Nat} (hs : s < 4) {n : Nat} (hn : n ≤ 60) (h14 : σ.1 14 s = nI n) : Cc (d + 1) n_Si_isTold [.ref 15, .int (nI s), .null, .null, .null] σ = some (.int (bI (tdB l (σ.2 (9 + s)) n)), σ) := by
  rcases (show s = 0 ∨ s = 1 ∨ s = 2 ∨ s = 3 by omega) with rfl | rfl | rfl | rfl
  · exact k_isTold0 d t hn h14
  · exact k_isTold1 d t hn h14
  · exact k_isTold2 d t hn h14
  · exact k_isTold3 d t hn h14
theorem k_isSo (d : Nat) {s : Nat} (hs : s < 4) {n : Nat} (hn : n ≤ 60) (h14 : σ.1 14 s = nI n) {w : Nat → Option Nat} (hw : ∀ q, q < 5 → σ.1 35 q = oI (w q)) (hl : lvOK l) (htd : tdB l (σ.2 (9 + s)) n = true) : Cc (d + 1) n_Si_isSo [.ref 15, .int (nI s), .null, .null] σ = some (.int (bI (soB w (σ.2 (9 + s)) n)), σ) := by
  rcases (show s = 0 ∨ s = 1 ∨ s = 2 ∨ s = 3 by omega) with rfl | rfl | rfl | rfl
  · exact k_isSo0 d hn h14 hw hl htd
  · exact k_isSo1 d hn h14 hw hl htd
  · exact k_isSo2 d hn h14 hw hl htd
  · exact k_isSo3 d hn h14 hw hl htd
