/-! ===== tokens: both sides ===== -/
variable {σ τ : mS} {l : Lv}
theorem upd_self' (f : Nat → Int32) (k : Nat) : upd f k (f k) = f := by
  funext j
  by_cases q : j = k
  · rw [q, upd_at]
  · rw [upd_ne _ _ q]
theorem k_adv132 (d : Nat) {B : Nat → Int32} {n k : Nat} (hn : n ≤ 800) (hk : k ≤ 4) : ∀ m i (σ : mS), i + m = n → σ.1 1 1 = nI n → (∀ j, j < n → σ.1 2 j = B j) → σ.1 3 6 = nI i → σ.1 3 4 = nI k → ∀ b : Bool, Xx (d + 1) n_Re_advance 132 [.ref 3, .int (bI b), .null] [] σ = Xx (d + 1) n_Re_advance 195 [.ref 3, .int (bI b), .int (σ.1 3 5)] [] (sR σ 3 (upd (upd (σ.1 3) 6 (nI (bif b then rnB B k m i else i))) 7 0)) := by
  intro m
  induction m with
  | zero =>
    intro i σ hm h1 hB h6 h4 b
    rw [q_Re_advance_132, h1, h6, show n = i by omega, dT (p := nI i ≤ nI i) _ (Int32.le_refl _), cT, mUpI_sR, sR_at, upd_ne _ _ (by decide)]
    have : (bif b then rnB B k 0 i else i) = i := by cases b <;> rfl
    rw [this, ← h6, upd_self']
    cases decide (bI b = 0) <;> rfl
  | succ m ih =>
    intro i σ hm h1 hB h6 h4 b
    have hk' := kdB_lt (B i)
    rw [q_Re_advance_132, h1, h6, dle (by omega) (by omega), dF (p := n ≤ i) _ (by omega), cF, mIn_nI (by omega) (by omega), cT, nI_clamp (by omega), hB i (by omega), k_kindOf, mBI_s, h4, dne (by omega) (by omega), mUpI_sR, sR_at, upd_ne _ _ (by decide), bI_0, decide_not]
    cases b with
    | false =>
      rw [Bool.not_false, cT, cF, ← h6, upd_self']
    | true =>
      rw [Bool.not_true, cF, cT]
      unfold rnB
      cases hd : decide (kdB (B i) = k) with
      | false =>
        rw [Bool.not_false, cT, cF, ← h6, upd_self']
      | true =>
        rw [Bool.not_true, cF, cT, h6, nI_1, mUpI_sR]
        have := ih (i + 1) (sR σ 3 (upd (σ.1 3) 6 (nI (i + 1)))) (by omega) (by rw [sR_ne _ _ (by decide)]; exact h1) (fun j hj => by rw [sR_ne _ _ (by decide)]; exact hB j hj) (by rw [sR_at, upd_at]) (by rw [sR_at, upd_ne _ _ (by decide)]; exact h4) true
        refine Eq.trans this ?_
        rw [sR_at, upd_ne _ _ (by decide), sR_sR, cT]
        congr 2
        funext j
        by_cases q : j = 7
        · rw [q, upd_at, upd_at]
        · rw [upd_ne _ _ q, upd_ne _ _ q]
          by_cases q6 : j = 6
          · rw [q6, upd_at, upd_at]
          · rw [upd_ne _ _ q6, upd_ne _ _ q6, upd_ne _ _ q6]
theorem tkS_end (B : Nat → Int32) (n : Nat) : tkS B n n = (0, n, n, 0) := by
  unfold tkS
  rw [dF _ (Nat.lt_irrefl n), cF]
set_option maxHeartbeats 1000000 in
theorem k_adv (d : Nat) {B : Nat → Int32} {n : Nat} (hn : n ≤ 800) : ∀ m i (σ : mS), i + m = n → σ.1 1 1 = nI n → (∀ j, j < n → σ.1 2 j = B j) → σ.1 3 6 = nI i → ∃ τ, Xx (d + 1) n_Re_advance 0 [.ref 3, .null, .null] [] σ = some (.null, τ) ∧ rdC τ B n (tkS B n (skB B m i)) ∧ kA σ τ := by
  intro m
  induction m with
  | zero =>
    intro i σ hm h1 hB h6
    have hi : i = n := by omega
    subst hi
    have z := k_adv132 d (B := B) (k := 0) hn (by omega) 0 i (sR σ 3 (upd (upd (upd (σ.1 3) 5 (nI i)) 4 0) 6 (nI i))) (by omega) (by rw [sR_ne _ _ (by decide)]; exact h1) (fun j hj => by rw [sR_ne _ _ (by decide)]; exact hB j hj) (by rw [sR_at, upd_at]) (by rw [sR_at, upd_ne _ _ (by decide), upd_at]; rfl) false
    rw [k_adv0 d hn h1 hB h6 (by omega), dF _ (Nat.lt_irrefl _), cF]
    rw [cF, sR_at, sR_sR, upd_ne _ _ (by decide), upd_ne _ _ (by decide), upd_at] at z
    generalize hS : sR σ 3 (upd (upd (upd (upd (upd (σ.1 3) 5 (nI i)) 4 0) 6 (nI i)) 6 (nI i)) 7 0) = S at z
    have s4 : S.1 3 4 = 0 := by rw [← hS, sR_at, upd_ne _ _ (by decide), upd_ne _ _ (by decide), upd_ne _ _ (by decide), upd_at]
    refine ⟨S, Eq.trans z ?_, ?_, ?_⟩
    · rw [q_Re_advance_195, s4, show decide (¬ (0 : Int32) = 2) = true by decide, cT]
    · show rdC S B i (tkS B i i)
      rw [tkS_end]
      refine ⟨?_, fun j hj => ?_, s4, ?_, ?_, ?_⟩
      · rw [← hS, sR_ne _ _ (by decide)]; exact h1
      · rw [← hS, sR_ne _ _ (by decide)]; exact hB j hj
      · rw [← hS, sR_at, upd_ne _ _ (by decide), upd_ne _ _ (by decide), upd_ne _ _ (by decide), upd_ne _ _ (by decide), upd_at]
      · rw [← hS, sR_at, upd_ne _ _ (by decide), upd_at]
      · rw [← hS, sR_at, upd_at]; rfl
    · rw [← hS]
      refine ⟨fun a ha => sR_ne _ _ ha, fun k hk => ?_, rfl⟩
      rw [sR_at, upd_ne _ _ (by omega), upd_ne _ _ (by omega), upd_ne _ _ (by omega), upd_ne _ _ (by omega), upd_ne _ _ (by omega)]
  | succ m ih =>
    intro i σ hm h1 hB h6
    rw [k_adv0 d hn h1 hB h6 (by omega), dT _ (by omega), cT]
    have hs : skB B (m + 1) i = bif isBl (B i) then skB B m (i + 1) else i := rfl
    rw [hs]
    cases hb : isBl (B i) with
    | true =>
      rw [cT, cT]
      obtain ⟨τ, e1, e2, e3⟩ := ih (i + 1) (sR σ 3 (upd (σ.1 3) 6 (nI (i + 1)))) (by omega) (by rw [sR_ne _ _ (by decide)]; exact h1) (fun j hj => by rw [sR_ne _ _ (by decide)]; exact hB j hj) (by rw [sR_at, upd_at])
      exact ⟨τ, e1, e2, kA_t (kA_u σ (by omega) (by omega) _) e3⟩
    | false =>
      rw [cF, cF]
      have hk := kdB_lt (B i)
      have hi : i < n := by omega
      have he := enB_ge B hi
      have z := k_adv132 d (B := B) (k := kdB (B i)) hn (by omega) (n - (i + 1)) (i + 1) (sR σ 3 (upd (upd (upd (σ.1 3) 5 (nI i)) 4 (nI (kdB (B i)))) 6 (nI (i + 1)))) (by omega) (by rw [sR_ne _ _ (by decide)]; exact h1) (fun j hj => by rw [sR_ne _ _ (by decide)]; exact hB j hj) (by rw [sR_at, upd_at]) (by rw [sR_at, upd_ne _ _ (by decide), upd_at]) (decide (kdB (B i) = 1) || decide (kdB (B i) = 2))
      have hen : (bif decide (kdB (B i) = 1) || decide (kdB (B i) = 2) then rnB B (kdB (B i)) (n - (i + 1)) (i + 1) else i + 1) = enB B n i := rfl
      rw [hen, sR_at, sR_sR, upd_ne _ _ (by decide), upd_ne _ _ (by decide), upd_at] at z
      generalize hS : sR σ 3 (upd (upd (upd (upd (upd (σ.1 3) 5 (nI i)) 4 (nI (kdB (B i)))) 6 (nI (i + 1))) 6 (nI (enB B n i))) 7 0) = S at z
      have s1 : S.1 1 1 = nI n := by rw [← hS, sR_ne _ _ (by decide)]; exact h1
      have s2 : ∀ j, j < n → S.1 2 j = B j := fun j hj => by rw [← hS, sR_ne _ _ (by decide)]; exact hB j hj
      have s4 : S.1 3 4 = nI (kdB (B i)) := by rw [← hS, sR_at, upd_ne _ _ (by decide), upd_ne _ _ (by decide), upd_ne _ _ (by decide), upd_at]
      have s5 : S.1 3 5 = nI i := by rw [← hS, sR_at, upd_ne _ _ (by decide), upd_ne _ _ (by decide), upd_ne _ _ (by decide), upd_ne _ _ (by decide), upd_at]
      have s6 : S.1 3 6 = nI (enB B n i) := by rw [← hS, sR_at, upd_ne _ _ (by decide), upd_at]
      have s7 : S.1 3 7 = nI 0 := by rw [← hS, sR_at, upd_at]; rfl
      have sk : kA σ S := by
        rw [← hS]
        refine ⟨fun a ha => sR_ne _ _ ha, fun k hk => ?_, rfl⟩
        rw [sR_at, upd_ne _ _ (by omega), upd_ne _ _ (by omega), upd_ne _ _ (by omega), upd_ne _ _ (by omega), upd_ne _ _ (by omega)]
      have ht : tkS B n i = (kdB (B i), i, enB B n i, bif decide (kdB (B i) = 2) then vlB B (enB B n i - i) i 0 else 0) := by
        unfold tkS
        rw [dT _ hi, cT]
      rw [ht]
      by_cases g2 : kdB (B i) = 2
      · obtain ⟨τ, e1, e2⟩ := k_adv195 (d + 1) hn he.2 (enB B n i - i) i 0 S (.int (bI (decide (kdB (B i) = 1) || decide (kdB (B i) = 2)))) (by omega) (by omega) s1 s2 s6 (by rw [s4, g2]) s7 (fun j a b => enB_k B g2 a b)
        refine ⟨τ, Eq.trans z e1, ?_, ?_⟩
        · rw [e2, dT _ g2, cT]
          refine ⟨?_, fun j hj => ?_, ?_, ?_, ?_, ?_⟩
          · rw [sR_ne _ _ (by decide)]; exact s1
          · rw [sR_ne _ _ (by decide)]; exact s2 j hj
          · rw [sR_at, upd_ne _ _ (by decide)]; exact s4
          · rw [sR_at, upd_ne _ _ (by decide)]; exact s5
          · rw [sR_at, upd_ne _ _ (by decide)]; exact s6
          · rw [sR_at, upd_at]
        · rw [e2]
          exact kA_t sk (kA_u S (by omega) (by omega) _)
      · refine ⟨S, Eq.trans z ?_, ?_, sk⟩
        · rw [q_Re_advance_195, s4, show decide (¬ nI (kdB (B i)) = 2) = decide (¬ kdB (B i) = 2) from dne (b := 2) (by omega) (by decide), dT _ g2, cT]
        · rw [dF _ g2, cF]
          exact ⟨s1, s2, s4, s5, s6, s7⟩
theorem k_advance (d : Nat) {B : Nat → Int32} {n i : Nat} (hn : n ≤ 800) (hi : i ≤ n) (h1 : σ.1 1 1 = nI n) (hB : ∀ j, j < n → σ.1 2 j = B j) (h6 : σ.1 3 6 = nI i) : ∃ τ, Cc (d + 2) n_Re_advance [.ref 3, .null, .null] σ = some (.null, τ) ∧ rdC τ B n (tok B n i) ∧ kA σ τ := by
  obtain ⟨τ, e, h⟩ := k_adv d hn (n - i) i σ (by omega) h1 hB h6
  exact ⟨τ, (Cc_s _ _ _ _).trans e, h⟩
/-! the reference -/
def vRel (v w : Nat) : Prop := w ≤ 99999 ∧ ((v < 1000 ∧ w = v) ∨ (v = 1000 ∧ 1000 ≤ w))
def rdR (τ : mS) (B : Nat → Int32) (n : Nat) (T : Tok) : Prop := τ.1 200 7 = nI n ∧ (∀ j, j < n → τ.1 204 j = B j) ∧ τ.1 200 10 = nI T.1 ∧ τ.1 200 9 = nI T.2.1 ∧ τ.1 200 8 = nI T.2.2.1 ∧ (T.1 = 2 → ∃ w, τ.1 200 11 = nI w ∧ vRel T.2.2.2 w)
def kR (σ τ : mS) : Prop := (∀ a, a ≠ 200 → τ.1 a = σ.1 a) ∧ (∀ k, k < 8 ∨ 11 < k → τ.1 200 k = σ.1 200 k) ∧ τ.2 = σ.2
theorem kR_r (σ : mS) : kR σ σ := ⟨fun _ _ => rfl, fun _ _ => rfl, rfl⟩
theorem kR_t {υ : mS} (h : kR σ τ) (g : kR τ υ) : kR σ υ := ⟨fun a ha => (g.1 a ha).trans (h.1 a ha), fun k hk => (g.2.1 k hk).trans (h.2.1 k hk), g.2.2.trans h.2.2⟩
theorem kR_u (σ : mS) {k : Nat} (h1 : 8 ≤ k) (h2 : k ≤ 11) (x : Int32) : kR σ (sR σ 200 (upd (σ.1 200) k x)) := ⟨fun a ha => sR_ne _ _ ha, fun j hj => by rw [sR_at, upd_ne _ _ (by omega)], rfl⟩
def uB (x : Int32) : Nat := (x.toInt % 256).toNat
theorem uB_lt (x : Int32) : uB x < 256 := by unfold uB; omega
theorem and255 (x : Int32) : x &&& 255 = nI (uB x) := by
  have hb := uB_lt x
  apply Int32.toBitVec_inj.mp
  apply BitVec.eq_of_toNat_eq
  rw [Int32.toBitVec_and, BitVec.toNat_and]
  have e1 : (255 : Int32).toBitVec.toNat = 2 ^ 8 - 1 := rfl
  rw [e1, Nat.and_two_pow_sub_one_eq_mod]
  have e2 : (nI (uB x)).toBitVec.toNat = uB x := by
    show (BitVec.ofNat 32 (uB x)).toNat = uB x
    rw [BitVec.toNat_ofNat]
    omega
  rw [e2]
  unfold uB
  have e3 : x.toInt = x.toBitVec.toInt := rfl
  rw [e3, BitVec.toInt_eq_toNat_cond]
  have := x.toBitVec.isLt
  by_cases g : 2 * x.toBitVec.toNat < 2 ^ 32
  · rw [if_pos g]; omega
  · rw [if_neg g]; omega
theorem uB_of {x : Int32} (h : bw (-128) x 127) : (0 ≤ x.toInt ∧ (uB x : Int) = x.toInt) ∨ (x.toInt < 0 ∧ 128 ≤ uB x) := by
  unfold bw at h
  unfold uB
  omega
theorem uB_eq {x : Int32} (h : bw (-128) x 127) {k : Nat} (hk : k < 128) : decide (nI (uB x) = nI k) = decide (x = nI k) := by
  have hb := uB_lt x
  rw [deq (by omega) (by omega)]
  apply decide_eq_decide.mpr
  rcases uB_of h with ⟨h1, h2⟩ | ⟨h1, h2⟩
  · constructor
    · intro e
      exact Int32.toInt_inj.mp (by rw [nI_toInt (by omega), ← h2, e])
    · intro e
      have q := congrArg Int32.toInt e
      rw [nI_toInt (by omega)] at q
      omega
  · constructor
    · intro e; omega
    · intro e
      rw [e, nI_toInt (by omega)] at h1
      omega
theorem r_see (d : Nat) {B : Nat → Int32} {n j : Nat} (hn : n ≤ 800) (hj : j < 2 ^ 31) (h7 : τ.1 200 7 = nI n) (hB : ∀ j, j < n → τ.1 204 j = B j) : Cc (d + 1) n_M_see [.ref 200, .int (nI j)] τ = some (.int (bif decide (j < n) then nI (uB (B j)) else -1), τ) := by
  rw [c_M_see, h7, dle (by omega) hj]
  by_cases g : j < n
  · rw [dF _ (by omega), cF, mIn_nI (by omega) (by omega), cT, nI_clamp (by omega), hB j g, and255, dT _ g, cT]
  · rw [dT _ (by omega), cT, dF _ g, cF]
theorem in_c (d : Nat) (x : Int32) (a b : Nat) (A C : Int64) (hA : A.toInt = a) (hC : C.toInt = b) (σ : mS) : Cc (d + 1) n_M_in [.long x.toInt64, .null, .long A, .null, .long C, .null] σ = some (.int (bI (decide ((a : Int) ≤ x.toInt ∧ x.toInt ≤ b))), σ) := by
  rw [r_in]
  have e1 : decide (x.toInt64 < A) = decide (x.toInt < a) := decide_eq_decide.mpr (by rw [Int64.lt_iff_toInt_lt, Int32.toInt_toInt64, hA])
  have e2 : decide (C < x.toInt64) = decide ((b : Int) < x.toInt) := decide_eq_decide.mpr (by rw [Int64.lt_iff_toInt_lt, Int32.toInt_toInt64, hC])
  rw [e1, e2]
  by_cases g1 : x.toInt < a
  · rw [dT _ g1, dF (p := (a : Int) ≤ x.toInt ∧ x.toInt ≤ b) _ (by omega)]; rfl
  · by_cases g2 : (b : Int) < x.toInt
    · rw [dT _ g2, dF (p := (a : Int) ≤ x.toInt ∧ x.toInt ≤ b) _ (by omega), Bool.not_true, Bool.and_false]
    · rw [dF _ g1, dF _ g2, dT (p := (a : Int) ≤ x.toInt ∧ x.toInt ≤ b) _ (by omega)]; rfl
theorem uB_in {x : Int32} (h : bw (-128) x 127) {a b : Nat} (hb : b < 128) : decide ((a : Int) ≤ (nI (uB x)).toInt ∧ (nI (uB x)).toInt ≤ b) = decide ((a : Int) ≤ x.toInt ∧ x.toInt ≤ b) := by
  have hu := uB_lt x
  rw [nI_toInt (by omega)]
  apply decide_eq_decide.mpr
  rcases uB_of h with ⟨h1, h2⟩ | ⟨h1, h2⟩
  · rw [h2]
  · omega


theorem kd1 (x : Int32) : decide (((97 : Nat) : Int) ≤ x.toInt ∧ x.toInt ≤ (122 : Nat)) = decide (kdB x = 1) := by
  apply decide_eq_decide.mpr
  unfold kdB
  by_cases h1 : 97 ≤ x.toInt ∧ x.toInt ≤ 122
  · rw [if_pos h1]; exact ⟨fun _ => rfl, fun _ => h1⟩
  · rw [if_neg h1]
    refine ⟨fun h => absurd h h1, fun h => ?_⟩
    by_cases h2 : 48 ≤ x.toInt ∧ x.toInt ≤ 57
    · rw [if_pos h2] at h; omega
    · rw [if_neg h2] at h
      by_cases h3 : x = 59
      · rw [if_pos h3] at h; omega
      · rw [if_neg h3] at h; omega
theorem kd2 {x : Int32} : decide (((48 : Nat) : Int) ≤ x.toInt ∧ x.toInt ≤ (57 : Nat)) = decide (kdB x = 2) := by
  apply decide_eq_decide.mpr
  refine ⟨fun h => ?_, fun h => kdB_2 h⟩
  unfold kdB
  exact (if_neg (by omega)).trans (if_pos h)
/-- where the letters or the numbers end -/
theorem r_adv83 (d : Nat) {B : Nat → Int32} {n : Nat} (hn : n ≤ 800) (hb : ∀ j, j < n → bw (-128) (B j) 127) (v : Value) : ∀ m i (τ : mS), i + m = n → τ.1 200 7 = nI n → (∀ j, j < n → τ.1 204 j = B j) → τ.1 200 8 = nI i → Xx (d + 1) n_M_advance 83 [.ref 200, v] [] τ = some (.null, sR τ 200 (upd (upd (τ.1 200) 8 (nI (rnB B 1 m i))) 10 1)) := by
  intro m
  induction m with
  | zero =>
    intro i τ hm h7 hB h8
    rw [q_M_advance_83, h8, r_see _ hn (by omega) h7 hB, mBI_s, dF _ (by omega), cF, in_c _ _ 97 122 97 122 rfl rfl, mBI_s, bI_0, mUpI_sR]
    show _ = some (Value.null, sR τ 200 (upd (upd (τ.1 200) 8 (nI i)) 10 1))
    rw [← h8, upd_self']
    rfl
  | succ m ih =>
    intro i τ hm h7 hB h8
    rw [q_M_advance_83, h8, r_see _ hn (by omega) h7 hB, mBI_s, dT _ (by omega), cT, in_c _ _ 97 122 97 122 rfl rfl, mBI_s, uB_in (hb i (by omega)) (by omega), kd1, bI_0, h8, nI_1]
    unfold rnB
    cases hd : decide (kdB (B i) = 1) with
    | false => rw [Bool.not_false, cT, cF, ← h8, upd_self', mUpI_sR]
    | true =>
      rw [Bool.not_true, cF, cT, mUpI_sR, ih (i + 1) (sR τ 200 (upd (τ.1 200) 8 (nI (i + 1)))) (by omega) (by rw [sR_at, upd_ne _ _ (by decide)]; exact h7) (fun j hj => by rw [sR_ne _ _ (by decide)]; exact hB j hj) (by rw [sR_at, upd_at]), sR_sR, sR_at]
      congr 3
      funext j
      by_cases q : j = 10
      · rw [q, upd_at, upd_at]
      · rw [upd_ne _ _ q, upd_ne _ _ q]
        by_cases q8 : j = 8
        · rw [q8, upd_at, upd_at]
        · rw [upd_ne _ _ q8, upd_ne _ _ q8, upd_ne _ _ q8]
theorem vRel_s {v w : Nat} {g : Nat} (h : vRel v w) (hg : g ≤ 9) : vRel (min (10 * v + g) 1000) (min 99999 (10 * w + g)) := by
  obtain ⟨h1, h2⟩ := h
  refine ⟨Nat.min_le_left _ _, ?_⟩
  rcases h2 with ⟨h2, rfl⟩ | ⟨rfl, h2⟩
  · rcases Nat.lt_or_ge (10 * w + g) 1000 with q | q
    · rw [Nat.min_eq_left (by omega), Nat.min_eq_right (by omega)]; exact Or.inl ⟨q, rfl⟩
    · rw [Nat.min_eq_right q, Nat.min_eq_right (by omega)]; exact Or.inr ⟨rfl, q⟩
  · rw [Nat.min_eq_right (by omega)]
    refine Or.inr ⟨rfl, ?_⟩
    rcases Nat.lt_or_ge 99999 (10 * w + g) with q | q
    · rw [Nat.min_eq_left (by omega)]; decide
    · rw [Nat.min_eq_right q]; omega
theorem r_adv144 (d : Nat) {B : Nat → Int32} {n : Nat} (hn : n ≤ 800) (hb : ∀ j, j < n → bw (-128) (B j) 127) (v : Value) : ∀ m i (τ : mS) (a w : Nat), i + m = n → τ.1 200 7 = nI n → (∀ j, j < n → τ.1 204 j = B j) → τ.1 200 8 = nI i → τ.1 200 11 = nI w → vRel a w → ∃ w', vRel (vlB B (rnB B 2 m i - i) i a) w' ∧ Xx (d + 1) n_M_advance 144 [.ref 200, v] [] τ = some (.null, sR τ 200 (upd (upd (upd (τ.1 200) 11 (nI w')) 8 (nI (rnB B 2 m i))) 10 2)) := by
  intro m
  induction m with
  | zero =>
    intro i τ a w hm h7 hB h8 h11 hr
    refine ⟨w, ?_, ?_⟩
    · show vRel (vlB B (i - i) i a) w
      rw [Nat.sub_self]; exact hr
    · rw [q_M_advance_144, h8, r_see _ hn (by omega) h7 hB, mBI_s, dF _ (by omega), cF, in_c _ _ 48 57 48 57 rfl rfl, mBI_s, bI_0, mUpI_sR]
      show _ = some (Value.null, sR τ 200 (upd (upd (upd (τ.1 200) 11 (nI w)) 8 (nI i)) 10 2))
      rw [← h11, upd_self', ← h8, upd_self']
      rfl
  | succ m ih =>
    intro i τ a w hm h7 hB h8 h11 hr
    have hw : w ≤ 99999 := hr.1
    have hs : Cc (d + 1) n_M_see [.ref 200, .int (nI i)] τ = some (.int (nI (uB (B i))), τ) := by rw [r_see _ hn (by omega) h7 hB, dT _ (by omega), cT]
    have e0 : Xx (d + 1) n_M_advance 144 [.ref 200, v] [] τ = (bif !(decide (kdB (B i) = 2)) then some (.null, mUpI τ 200 10 2) else Xx (d + 1) n_M_advance 144 [.ref 200, v] [] (mUpI (mUpI τ 200 11 (vMn 99999 (10 * nI w + nI (uB (B i)) - 48))) 200 8 ((mUpI τ 200 11 (vMn 99999 (10 * nI w + nI (uB (B i)) - 48))).1 200 8 + 1))) := by
      rw [q_M_advance_144, h8, hs, mBI_s, in_c _ _ 48 57 48 57 rfl rfl, mBI_s, uB_in (hb i (by omega)) (by omega), kd2, bI_0, h8, hs, mBI_s, h11]
    rw [e0]
    unfold rnB
    cases hd : decide (kdB (B i) = 2) with
    | false =>
      refine ⟨w, ?_, ?_⟩
      · rw [cF, Nat.sub_self]; exact hr
      · rw [Bool.not_false, cT, cF, ← h11, upd_self', ← h8, upd_self', mUpI_sR]
    | true =>
      have h48 := kdB_2 (of_decide_eq_true hd)
      have hd9 : dgt (B i) ≤ 9 := by unfold dgt; omega
      have hu : uB (B i) = dgt (B i) + 48 := by unfold uB dgt; omega
      have hval : vMn 99999 (10 * nI w + nI (uB (B i)) - 48) = nI (min 99999 (10 * w + dgt (B i))) := by
        rw [hu, show (10 : Int32) = nI 10 from rfl, nI_mul, show (48 : Int32) = nI 48 from rfl, nI_add, nI_sub (by omega), show (99999 : Int32) = nI 99999 from rfl, show 10 * w + (dgt (B i) + 48) - 48 = 10 * w + dgt (B i) by omega]
        unfold vMn
        by_cases q : 10 * w + dgt (B i) < 99999
        · rw [if_pos ((nI_ltI (by omega) (by omega)).mpr q), Nat.min_eq_right (by omega)]
        · rw [if_neg (fun h => q ((nI_ltI (by omega) (by omega)).mp h)), Nat.min_eq_left (by omega)]
      have hst : mUpI (mUpI τ 200 11 (vMn 99999 (10 * nI w + nI (uB (B i)) - 48))) 200 8 ((mUpI τ 200 11 (vMn 99999 (10 * nI w + nI (uB (B i)) - 48))).1 200 8 + 1) = sR τ 200 (upd (upd (τ.1 200) 11 (nI (min 99999 (10 * w + dgt (B i))))) 8 (nI (i + 1))) := by
        rw [hval, mUpI_sR, mUpI_sR, sR_sR, sR_at, upd_ne _ _ (by decide), h8, nI_1]
      rw [hst, Bool.not_true, cF]
      obtain ⟨w', r1, r2⟩ := ih (i + 1) (sR τ 200 (upd (upd (τ.1 200) 11 (nI (min 99999 (10 * w + dgt (B i))))) 8 (nI (i + 1)))) (min (10 * a + dgt (B i)) 1000) (min 99999 (10 * w + dgt (B i))) (by omega) (by rw [sR_at, upd_ne _ _ (by decide), upd_ne _ _ (by decide)]; exact h7) (fun j hj => by rw [sR_ne _ _ (by decide)]; exact hB j hj) (by rw [sR_at, upd_at]) (by rw [sR_at, upd_ne _ _ (by decide), upd_at]) (vRel_s hr hd9)
      have hge := rnB_ge B 2 m (i + 1)
      refine ⟨w', ?_, ?_⟩
      · rw [cT, show rnB B 2 m (i + 1) - i = (rnB B 2 m (i + 1) - (i + 1)) + 1 by omega]
        exact r1
      · rw [r2, sR_sR, sR_at, cT]
        congr 3
        funext j
        by_cases q : j = 10
        · rw [q, upd_at, upd_at]
        · rw [upd_ne _ _ q, upd_ne _ _ q]
          by_cases q8 : j = 8
          · rw [q8, upd_at, upd_at]
          · rw [upd_ne _ _ q8, upd_ne _ _ q8]
            by_cases q11 : j = 11
            · rw [q11, upd_at, upd_at]
            · rw [upd_ne _ _ q11, upd_ne _ _ q8, upd_ne _ _ q11, upd_ne _ _ q11]
theorem r_adv (d : Nat) {B : Nat → Int32} {n : Nat} (hn : n ≤ 800) (hb : ∀ j, j < n → bw (-128) (B j) 127) : ∀ m i (τ : mS), i + m = n → τ.1 200 7 = nI n → (∀ j, j < n → τ.1 204 j = B j) → τ.1 200 8 = nI i → ∃ τ', Xx (d + 1) n_M_advance 0 [.ref 200, .null] [] τ = some (.null, τ') ∧ rdR τ' B n (tkS B n (skB B m i)) ∧ kR τ τ' := by
  intro m
  induction m with
  | zero =>
    intro i τ hm h7 hB h8
    have hi : i = n := by omega
    subst hi
    have hs : ∀ t : mS, t.1 200 7 = nI i → (∀ j, j < i → t.1 204 j = B j) → Cc (d + 1) n_M_see [.ref 200, .int (nI i)] t = some (.int (-1), t) := fun t a b => by rw [r_see _ hn (by omega) a b, dF _ (Nat.lt_irrefl _), cF]
    have hS : (sR τ 200 (upd (τ.1 200) 9 (nI i))).1 200 8 = nI i := by rw [sR_at, upd_ne _ _ (by decide)]; exact h8
    refine ⟨sR (sR τ 200 (upd (τ.1 200) 9 (nI i))) 200 (upd ((sR τ 200 (upd (τ.1 200) 9 (nI i))).1 200) 10 0), ?_, ?_, ?_⟩
    · rw [q_M_advance_0, h8, hs τ h7 hB, mBI_s, show decide ((-1 : Int32) = 32) = false by decide, cF, h8, hs τ h7 hB, mBI_s, show decide (¬ (-1 : Int32) = 10) = true by decide, cT, mUpI_sR, h8, hS, hs _ (by rw [sR_at, upd_ne _ _ (by decide)]; exact h7) (fun j hj => by rw [sR_ne _ _ (by decide)]; exact hB j hj), mBI_s, show decide (¬ (-1 : Int32) = -1) = false by decide, cF, mUpI_sR]
    · show rdR _ B i (tkS B i i)
      rw [tkS_end, sR_sR, sR_at]
      refine ⟨?_, fun j hj => ?_, ?_, ?_, ?_, fun h => by cases h⟩
      · rw [sR_at, upd_ne _ _ (by decide), upd_ne _ _ (by decide)]; exact h7
      · rw [sR_ne _ _ (by decide)]; exact hB j hj
      · rw [sR_at, upd_at]; rfl
      · rw [sR_at, upd_ne _ _ (by decide), upd_at]
      · rw [sR_at, upd_ne _ _ (by decide), upd_ne _ _ (by decide)]; exact h8
    · exact kR_t (kR_u τ (by omega) (by omega) _) (kR_u _ (by omega) (by omega) _)
  | succ m ih =>
    intro i τ hm h7 hB h8
    have hi : i < n := by omega
    have hbi := hb i hi
    have hs : ∀ t : mS, t.1 200 7 = nI n → (∀ j, j < n → t.1 204 j = B j) → Cc (d + 1) n_M_see [.ref 200, .int (nI i)] t = some (.int (nI (uB (B i))), t) := fun t a b => by rw [r_see _ hn (by omega) a b, dT _ hi, cT]
    have hS : (sR τ 200 (upd (τ.1 200) 9 (nI i))).1 200 8 = nI i := by rw [sR_at, upd_ne _ _ (by decide)]; exact h8
    have hu := uB_lt (B i)
    have key : Xx (d + 1) n_M_advance 0 [.ref 200, .null] [] τ = (bif isBl (B i) then Xx (d + 1) n_M_advance 0 [.ref 200, .null] [] (sR τ 200 (upd (τ.1 200) 8 (nI (i + 1)))) else (bif decide (kdB (B i) = 1) then Xx (d + 1) n_M_advance 83 [.ref 200, .int (nI (uB (B i)))] [] (sR τ 200 (upd (τ.1 200) 9 (nI i))) else (bif decide (kdB (B i) = 2) then Xx (d + 1) n_M_advance 144 [.ref 200, .int (nI (uB (B i)))] [] (sR τ 200 (upd (upd (τ.1 200) 9 (nI i)) 11 0)) else some (.null, sR τ 200 (upd (upd (upd (τ.1 200) 9 (nI i)) 10 (nI (if B i = 59 then 3 else 4))) 8 (nI (i + 1))))))) := by
      rw [q_M_advance_0, h8, hs τ h7 hB, mBI_s, h8, hs τ h7 hB, mBI_s, mUpI_sR, mUpI_sR, h8, hS, hs _ (by rw [sR_at, upd_ne _ _ (by decide)]; exact h7) (fun j hj => by rw [sR_ne _ _ (by decide)]; exact hB j hj), mBI_s, nI_m1n (by omega), cT, in_c _ _ 97 122 97 122 rfl rfl, mBI_s, uB_in hbi (by omega), kd1, bI_0, in_c _ _ 48 57 48 57 rfl rfl, mBI_s, uB_in hbi (by omega), kd2, bI_0, nI_1]
      have q32 : decide (nI (uB (B i)) = 32) = decide (B i = 32) := uB_eq hbi (k := 32) (by omega)
      have q10 : decide (nI (uB (B i)) = 10) = decide (B i = 10) := uB_eq hbi (k := 10) (by omega)
      have q59 : decide (nI (uB (B i)) = 59) = decide (B i = 59) := uB_eq hbi (k := 59) (by omega)
      rw [decide_not, decide_not, q32, q10, q59]
      unfold isBl
      have r59 : ∀ c : Int32, mUpI (mUpI (sR τ 200 (upd (τ.1 200) 9 (nI i))) 200 10 c) 200 8 ((mUpI (sR τ 200 (upd (τ.1 200) 9 (nI i))) 200 10 c).1 200 8 + 1) = sR τ 200 (upd (upd (upd (τ.1 200) 9 (nI i)) 10 c) 8 (nI (i + 1))) := fun c => by
        rw [mUpI_sR, mUpI_sR, sR_sR, sR_sR, sR_at, sR_at, upd_ne _ _ (by decide), upd_ne _ _ (by decide), h8, nI_1]
      rw [r59, r59, mUpI_sR, sR_sR, sR_at]
      cases decide (B i = 32) with
      | true => rfl
      | false =>
        cases decide (B i = 10) with
        | true => rfl
        | false =>
          cases decide (kdB (B i) = 1) with
          | true => rfl
          | false =>
            cases decide (kdB (B i) = 2) with
            | true => rfl
            | false =>
              by_cases g : B i = 59
              · rw [dT _ g, if_pos g]; rfl
              · rw [dF _ g, if_neg g]; rfl
    rw [key]
    have hsk : skB B (m + 1) i = bif isBl (B i) then skB B m (i + 1) else i := rfl
    rw [hsk]
    cases isBl (B i) with
    | true =>
      rw [cT, cT]
      obtain ⟨τ', e1, e2, e3⟩ := ih (i + 1) (sR τ 200 (upd (τ.1 200) 8 (nI (i + 1)))) (by omega) (by rw [sR_at, upd_ne _ _ (by decide)]; exact h7) (fun j hj => by rw [sR_ne _ _ (by decide)]; exact hB j hj) (by rw [sR_at, upd_at])
      exact ⟨τ', e1, e2, kR_t (kR_u τ (by omega) (by omega) _) e3⟩
    | false =>
      rw [cF, cF]
      have ht : tkS B n i = (kdB (B i), i, enB B n i, bif decide (kdB (B i) = 2) then vlB B (enB B n i - i) i 0 else 0) := by
        unfold tkS
        rw [dT _ hi, cT]
      rw [ht]
      by_cases g1 : kdB (B i) = 1
      · rw [dT _ g1, cT, r_adv83 d hn hb _ (n - i) i (sR τ 200 (upd (τ.1 200) 9 (nI i))) (by omega) (by rw [sR_at, upd_ne _ _ (by decide)]; exact h7) (fun j hj => by rw [sR_ne _ _ (by decide)]; exact hB j hj) hS]
        have he : rnB B 1 (n - i) i = enB B n i := by
          unfold enB
          rw [g1, show n - i = (n - (i + 1)) + 1 by omega]
          show (bif decide (kdB (B i) = 1) then _ else _) = _
          rw [dT _ g1]
          rfl
        refine ⟨_, rfl, ?_, ?_⟩
        · rw [he, sR_sR, sR_at, g1]
          refine ⟨?_, fun j hj => ?_, ?_, ?_, ?_, fun h => by cases h⟩
          · rw [sR_at, upd_ne _ _ (by decide), upd_ne _ _ (by decide), upd_ne _ _ (by decide)]; exact h7
          · rw [sR_ne _ _ (by decide)]; exact hB j hj
          · rw [sR_at, upd_at]; rfl
          · rw [sR_at, upd_ne _ _ (by decide), upd_ne _ _ (by decide), upd_at]
          · rw [sR_at, upd_ne _ _ (by decide), upd_at]
        · refine ⟨fun a ha => by rw [sR_ne _ _ ha, sR_ne _ _ ha], fun k hk => ?_, rfl⟩
          rw [sR_at, upd_ne _ _ (by omega), upd_ne _ _ (by omega), sR_at, upd_ne _ _ (by omega)]
      · rw [dF _ g1, cF]
        by_cases g2 : kdB (B i) = 2
        · obtain ⟨w', r1, r2⟩ := r_adv144 d hn hb (.int (nI (uB (B i)))) (n - i) i (sR τ 200 (upd (upd (τ.1 200) 9 (nI i)) 11 0)) 0 0 (by omega) (by rw [sR_at, upd_ne _ _ (by decide), upd_ne _ _ (by decide)]; exact h7) (fun j hj => by rw [sR_ne _ _ (by decide)]; exact hB j hj) (by rw [sR_at, upd_ne _ _ (by decide), upd_ne _ _ (by decide)]; exact h8) (by rw [sR_at, upd_at]; rfl) ⟨by decide, Or.inl ⟨by decide, rfl⟩⟩
          have he : rnB B 2 (n - i) i = enB B n i := by
            unfold enB
            rw [g2, show n - i = (n - (i + 1)) + 1 by omega]
            show (bif decide (kdB (B i) = 2) then _ else _) = _
            rw [dT _ g2]
            rfl
          rw [he] at r1 r2
          rw [dT _ g2, cT, cT, r2]
          refine ⟨_, rfl, ?_, ?_⟩
          · rw [sR_sR, sR_at, g2]
            refine ⟨?_, fun j hj => ?_, ?_, ?_, ?_, fun _ => ⟨w', ?_, r1⟩⟩
            · rw [sR_at, upd_ne _ _ (by decide), upd_ne _ _ (by decide), upd_ne _ _ (by decide), upd_ne _ _ (by decide), upd_ne _ _ (by decide)]; exact h7
            · rw [sR_ne _ _ (by decide)]; exact hB j hj
            · rw [sR_at, upd_at]; rfl
            · rw [sR_at, upd_ne _ _ (by decide), upd_ne _ _ (by decide), upd_ne _ _ (by decide), upd_ne _ _ (by decide), upd_at]
            · rw [sR_at, upd_ne _ _ (by decide), upd_at]
            · rw [sR_at, upd_ne _ _ (by decide), upd_ne _ _ (by decide), upd_at]
          · refine ⟨fun a ha => by rw [sR_ne _ _ ha, sR_ne _ _ ha], fun k hk => ?_, rfl⟩
            rw [sR_at, upd_ne _ _ (by omega), upd_ne _ _ (by omega), upd_ne _ _ (by omega), sR_at, upd_ne _ _ (by omega), upd_ne _ _ (by omega)]
        · have he : enB B n i = i + 1 := by
            unfold enB
            rw [dF _ g1, dF _ g2]
            rfl
          have hk : kdB (B i) = (if B i = 59 then 3 else 4) := by
            have := kdB_lt (B i)
            unfold kdB at g1 g2 this ⊢
            by_cases h1 : 97 ≤ (B i).toInt ∧ (B i).toInt ≤ 122
            · rw [if_pos h1] at g1; exact absurd rfl g1
            · rw [if_neg h1] at g2 ⊢
              by_cases h2 : 48 ≤ (B i).toInt ∧ (B i).toInt ≤ 57
              · rw [if_pos h2] at g2; exact absurd rfl g2
              · rw [if_neg h2]
          rw [dF _ g2, cF, cF, he]
          refine ⟨_, rfl, ⟨?_, fun j hj => ?_, ?_, ?_, ?_, fun h => absurd h g2⟩, fun a ha => sR_ne _ _ ha, fun k hk => ?_, rfl⟩
          · rw [sR_at, upd_ne _ _ (by decide), upd_ne _ _ (by decide), upd_ne _ _ (by decide)]; exact h7
          · rw [sR_ne _ _ (by decide)]; exact hB j hj
          · rw [sR_at, upd_ne _ _ (by decide), upd_at, hk]
          · rw [sR_at, upd_ne _ _ (by decide), upd_ne _ _ (by decide), upd_at]
          · rw [sR_at, upd_at]
          · rw [sR_at, upd_ne _ _ (by omega), upd_ne _ _ (by omega), upd_ne _ _ (by omega)]
theorem r_advance (d : Nat) {B : Nat → Int32} {n i : Nat} (hn : n ≤ 800) (hb : ∀ j, j < n → bw (-128) (B j) 127) (hi : i ≤ n) (h7 : τ.1 200 7 = nI n) (hB : ∀ j, j < n → τ.1 204 j = B j) (h8 : τ.1 200 8 = nI i) : ∃ τ', Cc (d + 2) n_M_advance [.ref 200, .null] τ = some (.null, τ') ∧ rdR τ' B n (tok B n i) ∧ kR τ τ' := by
  obtain ⟨τ', e, h⟩ := r_adv d hn hb (n - i) i τ (by omega) h7 hB h8
  exact ⟨τ', (Cc_s _ _ _ _).trans e, h⟩

