/-! ===== fractions in lowest terms: both sides ===== -/
variable {σ τ : mS} {l : Lv}
theorem lN_div {a b : Nat} (ha : a < 2 ^ 31) (h0 : 0 < b) (hb : b < 2 ^ 31) : lN a / lN b = lN (a / b) := by
  apply Int64.toInt_inj.mp
  have : a / b ≤ a := Nat.div_le_self a b
  rw [lg_ldiv_nonneg (by rw [lN_toInt ha]; omega) (by rw [lN_toInt hb]; omega), lN_toInt ha, lN_toInt hb, lN_toInt (by omega)]
  exact (Int.natCast_ediv a b).symm
theorem lN_rem {a b : Nat} (ha : a < 2 ^ 31) (h0 : 0 < b) (hb : b < 2 ^ 31) : mRemL (lN a) (lN b) = lN (a % b) := by
  unfold mRemL
  rw [lN_div ha h0 hb, lN_mul, lN_sub (Nat.div_mul_le_self a b)]
  congr 1
  have := Nat.div_add_mod a b
  rw [Nat.mul_comm] at this
  omega
theorem lN_z {a : Nat} (ha : a < 2 ^ 31) : decide (lg_cmp (lN a) 0 = 0) = decide (a = 0) := decide_eq_decide.mpr (by rw [lg_cmp_eq, show (0 : Int64) = lN 0 from rfl, lN_eq ha (by decide)])
theorem lN_zn {a : Nat} (ha : a < 2 ^ 31) : decide (¬ lg_cmp (lN a) 0 = 0) = !(decide (a = 0)) := by rw [decide_not, lN_z ha]
theorem lN_z0 {a : Nat} (ha : a < 2 ^ 31) : (!(decide (lN a = 0))) = !(decide (a = 0)) := by
  congr 1
  exact decide_eq_decide.mpr (by rw [show (0 : Int64) = lN 0 from rfl, lN_eq ha (by decide)])
def fpN (a b : Nat) (w : Bool) : Nat := (bif w then b else a) / Nat.gcd a b
theorem eu_step {a b m : Nat} (hb : 0 < b) (hle : b ≤ a) (h : a * b < 2 ^ (m + 1)) : b * (a % b) < 2 ^ m ∧ a % b ≤ b := by
  have h1 : a % b < b := Nat.mod_lt a hb
  have h2 : b * 1 ≤ b * (a / b) := Nat.mul_le_mul_left b ((Nat.one_le_div_iff hb).mpr hle)
  have h3 := Nat.div_add_mod a b
  have h4 : 2 * (a % b) ≤ a := by omega
  have h5 : b * (2 * (a % b)) ≤ b * a := Nat.mul_le_mul_left b h4
  have h6 : b * (2 * (a % b)) = 2 * (b * (a % b)) := by rw [Nat.mul_left_comm]
  have h7 : b * a = a * b := Nat.mul_comm b a
  have h8 : 2 ^ (m + 1) = 2 * 2 ^ m := by rw [Nat.pow_succ, Nat.mul_comm]
  omega
theorem k_fp9 (d : Nat) (A B : Nat) (w : Bool) (hA : A < 2 ^ 31) (hB : B < 2 ^ 31) (σ : mS) : ∀ (m i a b : Nat) (v v' : Value), b ≤ a → a < 2 ^ 31 → 0 < a → a * b < 2 ^ m → i + m < 199 → Xx d n_E_fractionPart 9 [.long (lN A), .null, .long (lN B), .null, .int (bI w), .long (lN a), .null, .long (lN b), .null, .int (nI i), v, v'] [] σ = some (.long (lN ((bif w then B else A) / Nat.gcd a b)), σ) := by
  intro m
  induction m with
  | zero =>
    intro i a b v v' hle ha h0 hm hi
    have hb : b = 0 := by
      rcases Nat.eq_zero_or_pos b with e | e
      · exact e
      · exfalso
        have := Nat.mul_le_mul h0 e
        simp only [Nat.one_mul, Nat.pow_zero, Nat.zero_add] at this hm
        omega
    subst hb
    rw [q_E_fractionPart_9, show decide ((200 : Int32) ≤ nI i) = false from decide_eq_false (nI_ge (b := 200) (by omega) (by decide)), cF, lN_z (by omega), dT _ rfl, cT, lN_zn ha, dF _ (show ¬ a = 0 by omega), lN_z0 ha, dF _ (show ¬ a = 0 by omega), bI_n, lN_div hB h0 ha, lN_div hA h0 ha, Nat.gcd_zero_right]
    cases w <;> rfl
  | succ m ih =>
    intro i a b v v' hle ha h0 hm hi
    rw [q_E_fractionPart_9, show decide ((200 : Int32) ≤ nI i) = false from decide_eq_false (nI_ge (b := 200) (by omega) (by decide)), cF, lN_z (by omega)]
    rcases Nat.eq_zero_or_pos b with e | e
    · subst e
      rw [dT _ rfl, cT, lN_zn ha, dF _ (show ¬ a = 0 by omega), lN_z0 ha, dF _ (show ¬ a = 0 by omega), bI_n, lN_div hB h0 ha, lN_div hA h0 ha, Nat.gcd_zero_right]
      cases w <;> rfl
    · obtain ⟨s1, s2⟩ := eu_step e hle hm
      rw [dF _ (show ¬ b = 0 by omega), cF, lN_z0 (show b < 2 ^ 31 by omega), dF _ (show ¬ b = 0 by omega), Bool.not_false, cT, lN_rem ha e (by omega), nI_1, ih (i + 1) b (a % b) _ _ s2 (by omega) e s1 (by omega), show Nat.gcd b (a % b) = Nat.gcd a b from by rw [Nat.gcd_comm b, ← Nat.gcd_rec, Nat.gcd_comm]]
theorem p62 {a b : Nat} (ha : a < 2 ^ 31) (hb : b < 2 ^ 31) : a * b < 2 ^ 62 := by
  have h1 : a * b ≤ (2 ^ 31 - 1) * (2 ^ 31 - 1) := Nat.mul_le_mul (by omega) (by omega)
  exact Nat.lt_of_le_of_lt h1 (by decide)
theorem k_fraction (d : Nat) {a b : Nat} (ha : a < 2 ^ 31) (hb : b < 2 ^ 31) (h0 : 0 < b) (w : Bool) (σ : mS) : Cc (d + 1) n_E_fractionPart [.long (lN a), .null, .long (lN b), .null, .int (bI w), .null, .null, .null, .null, .null, .null, .null] σ = some (.long (lN (fpN a b w)), σ) := by
  rw [c_E_fractionPart]
  unfold fpN
  rcases Nat.lt_or_ge b a with e | e
  · -- one step turns them
    show Xx d n_E_fractionPart 9 [.long (lN a), .null, .long (lN b), .null, .int (bI w), .long (lN b), .null, .long (lN a), .null, .int (nI 0), .null, .null] [] σ = _
    rw [q_E_fractionPart_9, show decide ((200 : Int32) ≤ nI 0) = false by decide, cF, lN_z ha, dF _ (show ¬ a = 0 by omega), cF, lN_z0 ha, dF _ (show ¬ a = 0 by omega), Bool.not_false, cT, lN_rem hb (by omega) ha, nI_1, Nat.mod_eq_of_lt e, k_fp9 d a b w ha hb σ 62 1 a b _ _ (by omega) ha (by omega) (p62 ha hb) (by omega)]
  · rw [show (0 : Int32) = nI 0 from rfl, k_fp9 d a b w ha hb σ 62 0 b a _ _ e hb h0 (p62 hb ha) (by omega), Nat.gcd_comm b a]
theorem r_dv9 (d : Nat) (σ : mS) : ∀ (m a b : Nat) (v0 v1 v2 v3 v8 v9 : Value), b ≤ a → a < 2 ^ 31 → 0 < a → a * b < 2 ^ m → Xx d n_M_divisor 9 [v0, v1, v2, v3, .long (lN a), .null, .long (lN b), .null, v8, v9] [] σ = some (.long (lN (Nat.gcd a b)), σ) := by
  intro m
  induction m with
  | zero =>
    intro a b v0 v1 v2 v3 v8 v9 hle ha h0 hm
    have hb : b = 0 := by
      rcases Nat.eq_zero_or_pos b with e | e
      · exact e
      · exfalso
        have := Nat.mul_le_mul h0 e
        simp only [Nat.one_mul, Nat.pow_zero, Nat.zero_add] at this hm
        omega
    subst hb
    rw [q_M_divisor_9, lN_z (by omega), dT _ rfl, cT, Nat.gcd_zero_right]
  | succ m ih =>
    intro a b v0 v1 v2 v3 v8 v9 hle ha h0 hm
    rw [q_M_divisor_9, lN_z (by omega)]
    rcases Nat.eq_zero_or_pos b with e | e
    · subst e
      rw [dT _ rfl, cT, Nat.gcd_zero_right]
    · obtain ⟨s1, s2⟩ := eu_step e hle hm
      rw [dF _ (show ¬ b = 0 by omega), cF, lN_z0 (show b < 2 ^ 31 by omega), dF _ (show ¬ b = 0 by omega), Bool.not_false, cT, lN_rem ha e (by omega), ih b (a % b) _ _ _ _ _ _ s2 (by omega) e s1, show Nat.gcd b (a % b) = Nat.gcd a b from by rw [Nat.gcd_comm b, ← Nat.gcd_rec, Nat.gcd_comm]]
theorem r_divisor (d : Nat) {a b : Nat} (ha : a < 2 ^ 31) (hb : b < 2 ^ 31) (h0 : 0 < b) (σ : mS) : Cc (d + 1) n_M_divisor [.long (lN a), .null, .long (lN b), .null, .null, .null, .null, .null, .null, .null] σ = some (.long (lN (Nat.gcd a b)), σ) := by
  have e : (if (0 : Int64) < lN a then lN a else -(lN a)) = lN a := by
    by_cases h : (0 : Int64) < lN a
    · exact if_pos h
    · have h' : ¬ lN 0 < lN a := h
      rw [lN_lt (by decide) ha] at h'
      rw [if_neg h, show a = 0 by omega]
      rfl
  rw [c_M_divisor, e]
  rcases Nat.lt_or_ge a b with g | g
  · rw [q_M_divisor_9, lN_z hb, dF _ (show ¬ b = 0 by omega), cF, lN_z0 hb, dF _ (show ¬ b = 0 by omega), Bool.not_false, cT, lN_rem ha h0 hb, Nat.mod_eq_of_lt g, r_dv9 d σ 62 b a _ _ _ _ _ _ (by omega) hb h0 (p62 hb ha), Nat.gcd_comm b a]
  · exact r_dv9 d σ 62 a b _ _ _ _ _ _ g ha (by omega) (p62 ha hb)
theorem gcd_lt {a b : Nat} (hb : b < 2 ^ 31) (h0 : 0 < b) : 0 < Nat.gcd a b ∧ Nat.gcd a b < 2 ^ 31 := by
  have h1 := Nat.gcd_pos_of_pos_right a h0
  have h2 := Nat.gcd_le_right a h0
  omega
theorem r_part (d : Nat) {a b : Nat} (ha : a < 2 ^ 31) (hb : b < 2 ^ 31) (h0 : 0 < b) (w : Bool) (σ : mS) : Cc (d + 2) n_M_part [.long (lN a), .null, .long (lN b), .null, .int (bI w)] σ = some (.long (lN (fpN a b w)), σ) := by
  obtain ⟨g1, g2⟩ := gcd_lt (a := a) hb h0
  rw [c_M_part, bI_n, r_divisor d ha hb h0, mBL_s, mBL_s, lN_z0 g2, dF _ (show ¬ Nat.gcd a b = 0 by omega), Bool.not_false, cT, cT, lN_div hb g1 g2, lN_div ha g1 g2]
  unfold fpN
  cases w <;> rfl
