/-! ===== tokens ===== -/
variable {σ τ : mS} {l : Lv}
def isBl (x : Int32) : Bool := decide (x = 32) || decide (x = 10)
def kdB (x : Int32) : Nat := if 97 ≤ x.toInt ∧ x.toInt ≤ 122 then 1 else (if 48 ≤ x.toInt ∧ x.toInt ≤ 57 then 2 else (if x = 59 then 3 else 4))
theorem kdB_lt (x : Int32) : kdB x ≤ 4 ∧ 1 ≤ kdB x := by
  unfold kdB
  by_cases h1 : 97 ≤ x.toInt ∧ x.toInt ≤ 122
  · rw [if_pos h1]; omega
  · rw [if_neg h1]
    by_cases h2 : 48 ≤ x.toInt ∧ x.toInt ≤ 57
    · rw [if_pos h2]; omega
    · rw [if_neg h2]
      by_cases h3 : x = 59
      · rw [if_pos h3]; omega
      · rw [if_neg h3]; omega
theorem kdB_2 {x : Int32} (h : kdB x = 2) : 48 ≤ x.toInt ∧ x.toInt ≤ 57 := by
  unfold kdB at h
  by_cases h1 : 97 ≤ x.toInt ∧ x.toInt ≤ 122
  · rw [if_pos h1] at h; omega
  · rw [if_neg h1] at h
    by_cases h2 : 48 ≤ x.toInt ∧ x.toInt ≤ 57
    · exact h2
    · rw [if_neg h2] at h
      by_cases h3 : x = 59
      · rw [if_pos h3] at h; omega
      · rw [if_neg h3] at h; omega
/-- kind (0 the end, 1 a word, 2 a number, 3 the sign, 4 none), start, behind, value -/
abbrev Tok : Type := Nat × Nat × Nat × Nat
def skB (B : Nat → Int32) : Nat → Nat → Nat
  | 0, i => i
  | m + 1, i => bif isBl (B i) then skB B m (i + 1) else i
def rnB (B : Nat → Int32) (k : Nat) : Nat → Nat → Nat
  | 0, i => i
  | m + 1, i => bif decide (kdB (B i) = k) then rnB B k m (i + 1) else i
def dgt (x : Int32) : Nat := (x.toInt - 48).toNat
def vlB (B : Nat → Int32) : Nat → Nat → Nat → Nat
  | 0, _, v => v
  | m + 1, i, v => vlB B m (i + 1) (min (10 * v + dgt (B i)) 1000)
def enB (B : Nat → Int32) (n s : Nat) : Nat := bif decide (kdB (B s) = 1) || decide (kdB (B s) = 2) then rnB B (kdB (B s)) (n - (s + 1)) (s + 1) else s + 1
def tkS (B : Nat → Int32) (n s : Nat) : Tok := bif decide (s < n) then (kdB (B s), s, enB B n s, bif decide (kdB (B s) = 2) then vlB B (enB B n s - s) s 0 else 0) else (0, n, n, 0)
def tok (B : Nat → Int32) (n i : Nat) : Tok := tkS B n (skB B (n - i) i)
theorem skB_ge (B : Nat → Int32) : ∀ m i, i ≤ skB B m i ∧ skB B m i ≤ i + m := by
  intro m
  induction m with
  | zero => intro i; exact ⟨Nat.le_refl _, Nat.le_refl _⟩
  | succ m ih =>
    intro i
    unfold skB
    have := ih (i + 1)
    cases isBl (B i) with
    | true => rw [cT]; omega
    | false => rw [cF]; omega
theorem rnB_ge (B : Nat → Int32) (k : Nat) : ∀ m i, i ≤ rnB B k m i ∧ rnB B k m i ≤ i + m := by
  intro m
  induction m with
  | zero => intro i; exact ⟨Nat.le_refl _, Nat.le_refl _⟩
  | succ m ih =>
    intro i
    unfold rnB
    have := ih (i + 1)
    cases decide (kdB (B i) = k) with
    | true => rw [cT]; omega
    | false => rw [cF]; omega
theorem rnB_k (B : Nat → Int32) (k : Nat) : ∀ m i j, i ≤ j → j < rnB B k m i → kdB (B j) = k := by
  intro m
  induction m with
  | zero => intro i j h1 h2; unfold rnB at h2; omega
  | succ m ih =>
    intro i j h1 h2
    unfold rnB at h2
    cases hd : decide (kdB (B i) = k) with
    | true =>
      rw [hd, cT] at h2
      rcases Nat.eq_or_lt_of_le h1 with e | e
      · rw [← e]; exact of_decide_eq_true hd
      · exact ih (i + 1) j (by omega) h2
    | false => rw [hd, cF] at h2; omega
theorem enB_ge (B : Nat → Int32) {n s : Nat} (h : s < n) : s < enB B n s ∧ enB B n s ≤ n := by
  unfold enB
  have := rnB_ge B (kdB (B s)) (n - (s + 1)) (s + 1)
  cases decide (kdB (B s) = 1) || decide (kdB (B s) = 2) with
  | true => rw [cT]; omega
  | false => rw [cF]; omega
theorem enB_k (B : Nat → Int32) {n s : Nat} (hk : kdB (B s) = 2) {j : Nat} (h1 : s ≤ j) (h2 : j < enB B n s) : kdB (B j) = 2 := by
  rcases Nat.eq_or_lt_of_le h1 with e | e
  · rw [← e]; exact hk
  · unfold enB at h2
    rw [hk, show (decide (2 = 1) || decide (2 = 2)) = true by decide, cT] at h2
    exact rnB_k B 2 _ _ j (by omega) h2
theorem vlB_le (B : Nat → Int32) : ∀ m i v, v ≤ 1000 → vlB B m i v ≤ 1000 := by
  intro m
  induction m with
  | zero => intro i v h; exact h
  | succ m ih => intro i v h; exact ih _ _ (Nat.min_le_right _ _)
/-- what a token is like -/
theorem tok_ok (B : Nat → Int32) {n i : Nat} (h : i ≤ n) : i ≤ (tok B n i).2.1 ∧ (tok B n i).2.1 ≤ (tok B n i).2.2.1 ∧ (tok B n i).2.2.1 ≤ n ∧ (tok B n i).1 ≤ 4 ∧ (tok B n i).2.2.2 ≤ 1000 ∧ ((tok B n i).1 ≠ 0 → (tok B n i).2.1 < (tok B n i).2.2.1) := by
  unfold tok tkS
  have h1 := skB_ge B (n - i) i
  generalize skB B (n - i) i = s at h1
  by_cases g : s < n
  · rw [dT _ g, cT]
    have h2 := enB_ge B g
    have h3 := kdB_lt (B s)
    dsimp only
    refine ⟨h1.1, by omega, h2.2, h3.1, ?_, fun _ => h2.1⟩
    cases decide (kdB (B s) = 2) with
    | true => exact vlB_le B _ _ _ (by omega)
    | false => exact Nat.zero_le _
  · rw [dF _ g, cF]
    exact ⟨h, Nat.le_refl _, Nat.le_refl _, Nat.zero_le _, Nat.zero_le _, fun h => absurd rfl h⟩
/-! the class -/
def rdC (σ : mS) (B : Nat → Int32) (n : Nat) (T : Tok) : Prop := σ.1 1 1 = nI n ∧ (∀ j, j < n → σ.1 2 j = B j) ∧ σ.1 3 4 = nI T.1 ∧ σ.1 3 5 = nI T.2.1 ∧ σ.1 3 6 = nI T.2.2.1 ∧ σ.1 3 7 = nI T.2.2.2
def kA (σ τ : mS) : Prop := (∀ a, a ≠ 3 → τ.1 a = σ.1 a) ∧ (∀ k, k < 4 ∨ 7 < k → τ.1 3 k = σ.1 3 k) ∧ τ.2 = σ.2
theorem kA_r (σ : mS) : kA σ σ := ⟨fun _ _ => rfl, fun _ _ => rfl, rfl⟩
theorem kA_t {υ : mS} (h : kA σ τ) (g : kA τ υ) : kA σ υ := ⟨fun a ha => (g.1 a ha).trans (h.1 a ha), fun k hk => (g.2.1 k hk).trans (h.2.1 k hk), g.2.2.trans h.2.2⟩
theorem kA_u (σ : mS) {k : Nat} (h1 : 4 ≤ k) (h2 : k ≤ 7) (x : Int32) : kA σ (sR σ 3 (upd (σ.1 3) k x)) := ⟨fun a ha => sR_ne _ _ ha, fun j hj => by rw [sR_at, upd_ne _ _ (by omega)], rfl⟩
theorem k_isBlank (d : Nat) (x : Int32) (σ : mS) : Cc (d + 1) n_Re_isBlank [.int x] σ = some (.int (bI (isBl x)), σ) := by
  rw [c_Re_isBlank, decide_not]
  unfold isBl
  cases decide (x = 32) <;> cases decide (x = 10) <;> rfl
theorem i_ltn (x : Int32) (k : Int) (c : Int32) (h : c.toInt = k) : decide (x < c) = decide (x.toInt < k) := decide_eq_decide.mpr (by rw [Int32.lt_iff_toInt_lt, h])
theorem i_gtn (x : Int32) (k : Int) (c : Int32) (h : c.toInt = k) : decide (c < x) = decide (k < x.toInt) := decide_eq_decide.mpr (by rw [Int32.lt_iff_toInt_lt, h])
theorem k_kindOf (d : Nat) (x : Int32) (σ : mS) : Cc (d + 1) n_Re_kindOf [.int x] σ = some (.int (nI (kdB x)), σ) := by
  rw [c_Re_kindOf, i_ltn x 97 97 rfl, i_ltn x 48 48 rfl, i_gtn x 57 57 rfl, i_gtn x 122 122 rfl, decide_not]
  unfold kdB
  have e59 : (bif !(decide (x = 59)) then some (Value.int 4, σ) else some (Value.int 3, σ)) = some (Value.int (nI (if x = 59 then 3 else 4)), σ) := by
    by_cases g : x = 59
    · rw [dT _ g, if_pos g]; rfl
    · rw [dF _ g, if_neg g]; rfl
  rw [e59]
  by_cases h1 : 97 ≤ x.toInt ∧ x.toInt ≤ 122
  · rw [if_pos h1, dF _ (by omega), dF (p := 122 < x.toInt) _ (by omega)]; rfl
  · rw [if_neg h1]
    by_cases h2 : 48 ≤ x.toInt ∧ x.toInt ≤ 57
    · rw [if_pos h2, dT (p := x.toInt < 97) _ (by omega), dF (p := x.toInt < 48) _ (by omega), dF (p := 57 < x.toInt) _ (by omega)]; rfl
    · rw [if_neg h2]
      by_cases h3 : x.toInt < 48
      · rw [dT (p := x.toInt < 97) _ (by omega), dT (p := x.toInt < 48) _ h3]; rfl
      · rw [dF (p := x.toInt < 48) _ h3, dT (p := 57 < x.toInt) _ (by omega)]
        by_cases h4 : x.toInt < 97
        · rw [dT _ h4]; rfl
        · rw [dF _ h4, dT (p := 122 < x.toInt) _ (by omega)]; rfl
theorem k_adv0 (d : Nat) {B : Nat → Int32} {n i : Nat} (hn : n ≤ 800) (h1 : σ.1 1 1 = nI n) (hB : ∀ j, j < n → σ.1 2 j = B j) (h6 : σ.1 3 6 = nI i) (hi : i ≤ n) : Xx (d + 1) n_Re_advance 0 [.ref 3, .null, .null] [] σ = (bif decide (i < n) then (bif isBl (B i) then Xx (d + 1) n_Re_advance 0 [.ref 3, .null, .null] [] (sR σ 3 (upd (σ.1 3) 6 (nI (i + 1)))) else Xx (d + 1) n_Re_advance 132 [.ref 3, .int (bI (decide (kdB (B i) = 1) || decide (kdB (B i) = 2))), .null] [] (sR σ 3 (upd (upd (upd (σ.1 3) 5 (nI i)) 4 (nI (kdB (B i)))) 6 (nI (i + 1))))) else Xx (d + 1) n_Re_advance 132 [.ref 3, .int 0, .null] [] (sR σ 3 (upd (upd (upd (σ.1 3) 5 (nI n)) 4 0) 6 (nI n)))) := by
  have z1 : ∀ f : Nat → Int32, (sR σ 3 f).1 1 = σ.1 1 := fun f => sR_ne _ _ (by decide)
  have z2 : ∀ f : Nat → Int32, (sR σ 3 f).1 2 = σ.1 2 := fun f => sR_ne _ _ (by decide)
  have u56 : ∀ x, upd (σ.1 3) 5 x 6 = σ.1 3 6 := fun x => upd_ne _ _ (by decide)
  have u46 : ∀ x y, upd (upd (σ.1 3) 5 x) 4 y 6 = σ.1 3 6 := fun x y => by rw [upd_ne _ _ (by decide), upd_ne _ _ (by decide)]
  have u44 : ∀ x y, upd (upd (σ.1 3) 5 x) 4 y 4 = y := fun x y => upd_at _ _ _
  have hk := kdB_lt (B i)
  rw [q_Re_advance_0, k_isBlank, mBI_s]
  simp only [mUpI_sR, sR_sR, sR_at, z1, z2, u56, u46, u44, k_kindOf, mBI_s, h1, h6]
  by_cases g : i < n
  · rw [dT (p := i < n) _ g, dle (by omega) (by omega), dF _ (by omega), cF, mIn_nI (by omega) (by omega), cT, nI_clamp (by omega), hB i g, bI_0, cT, nI_1, vMn_le (by omega) (by omega)]
    cases isBl (B i) with
    | true => rfl
    | false =>
      rw [Bool.not_false, cT, cF, cT, show decide (nI (kdB (B i)) = 1) = decide (kdB (B i) = 1) from deq (b := 1) (by omega) (by decide), show decide (¬ nI (kdB (B i)) = 2) = decide (¬ kdB (B i) = 2) from dne (b := 2) (by omega) (by decide), decide_not]
      cases decide (kdB (B i) = 1) <;> cases decide (kdB (B i) = 2) <;> rfl
  · rw [dF (p := i < n) _ g, dT (p := nI n ≤ nI i) _ (by rw [show i = n by omega]; exact Int32.le_refl _), cT, cT, cF, show decide ((0 : Int32) = 1) = false by decide, cF, show decide (¬ (0 : Int32) = 2) = true by decide, cT, show i = n by omega, nI_1]
    have : vMn (nI (n + 1)) (nI n) = nI n := if_pos ((nI_ltI (by omega) (by omega)).mpr (by omega))
    rw [this]
/-- the numbers of a number -/
theorem k_adv195 (d : Nat) {B : Nat → Int32} {n e : Nat} (hn : n ≤ 800) (he : e ≤ n) : ∀ m s v (σ : mS) (w : Value), s + m = e → v ≤ 1000 → σ.1 1 1 = nI n → (∀ j, j < n → σ.1 2 j = B j) → σ.1 3 6 = nI e → σ.1 3 4 = nI 2 → σ.1 3 7 = nI v → (∀ j, s ≤ j → j < e → kdB (B j) = 2) → ∃ τ, Xx d n_Re_advance 195 [.ref 3, w, .int (nI s)] [] σ = some (.null, τ) ∧ τ = sR σ 3 (upd (σ.1 3) 7 (nI (vlB B m s v))) := by
  intro m
  induction m with
  | zero =>
    intro s v σ w hs hv h1 hB h6 h4 h7 hd
    refine ⟨σ, ?_, ?_⟩
    · rw [q_Re_advance_195, h4, show decide (¬ nI 2 = 2) = false by decide, cF, h6, show e = s by omega, dT _ (Int32.le_refl _), cT]
    · show σ = sR σ 3 (upd (σ.1 3) 7 (nI v))
      rw [← h7]
      have : upd (σ.1 3) 7 (σ.1 3 7) = σ.1 3 := by
        funext j
        by_cases q : j = 7
        · rw [q, upd_at]
        · rw [upd_ne _ _ q]
      rw [this, sR_self]
  | succ m ih =>
    intro s v σ w hs hv h1 hB h6 h4 h7 hd
    have h48 := kdB_2 (hd s (Nat.le_refl _) (by omega))
    have hdg : (B s).toInt = (dgt (B s) : Int) + 48 := by unfold dgt; omega
    have hd9 : dgt (B s) ≤ 9 := by unfold dgt; omega
    have hBs : B s = nI (dgt (B s) + 48) := Int32.toInt_inj.mp (by rw [nI_toInt (by omega), hdg]; omega)
    have hval : vMn (nI v * 10 + B s - 48) 1000 = nI (min (10 * v + dgt (B s)) 1000) := by
      have e1 : nI v * 10 + B s - 48 = nI (10 * v + dgt (B s)) := by
        rw [hBs, show (10 : Int32) = nI 10 from rfl, nI_mul, show (48 : Int32) = nI 48 from rfl, nI_add, nI_sub (by omega)]
        congr 1
        rw [show dgt (nI (dgt (B s) + 48)) = dgt (B s) by rw [← hBs]]
        omega
      rw [e1, show (1000 : Int32) = nI 1000 from rfl]
      unfold vMn
      by_cases q : 1000 < 10 * v + dgt (B s)
      · rw [if_pos ((nI_ltI (by omega) (by omega)).mpr q), Nat.min_eq_right (by omega)]
      · rw [if_neg (fun h => q ((nI_ltI (by omega) (by omega)).mp h)), Nat.min_eq_left (by omega)]
    obtain ⟨τ, e1, e2⟩ := ih (s + 1) (min (10 * v + dgt (B s)) 1000) (sR σ 3 (upd (σ.1 3) 7 (nI (min (10 * v + dgt (B s)) 1000)))) (mKl w) (by omega) (Nat.min_le_right _ _) (by rw [sR_ne _ _ (by decide)]; exact h1) (fun j hj => by rw [sR_ne _ _ (by decide)]; exact hB j hj) (by rw [sR_at, upd_ne _ _ (by decide)]; exact h6) (by rw [sR_at, upd_ne _ _ (by decide)]; exact h4) (by rw [sR_at, upd_at]) (fun j a b => hd j (by omega) b)
    refine ⟨τ, ?_, ?_⟩
    · rw [q_Re_advance_195, h4, show decide (¬ nI 2 = 2) = false by decide, cF, h6, dle (by omega) (by omega), dF _ (by omega), cF, mIn_nI (by omega) (by omega), cT, nI_clamp (by omega), h7, hB s (by omega), hval, nI_1, mUpI_sR]
      exact e1
    · rw [e2, sR_sR, sR_at]
      congr 1
      funext j
      by_cases q : j = 7
      · rw [q, upd_at, upd_at]; rfl
      · rw [upd_ne _ _ q, upd_ne _ _ q, upd_ne _ _ q]

