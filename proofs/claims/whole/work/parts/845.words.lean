/-! ===== what holds at the start (by program) ===== -/
def FL : List Cond := flatC (Jvm.Cond.and given_1 narrow_1)
def tmR : List Nat := [63, 68, 79, 84, 88, 96, 101, 103, 108, 148]
def tmM : List Nat := [186, 188, 194, 196, 208, 210, 212, 214, 216, 207]
def tmT (i : Nat) : Term := .string "EnemyLetters$Reader" (tmR.getD i 0)
def tmU (i : Nat) : Term := .string "EnemyLettersModel" (tmM.getD i 0)
def tmV (i : Nat) : Term := .field (tmT i) "java/lang/String" "value" "[B"
def tmF : Term := .static "EnemyLetters" "FACTORIALS" "[I"
set_option maxRecDepth 100000 in
theorem fl_ex : ∀ i, i < 10 → Cond.exactly (tmT i) "java/lang/String" ∈ FL := by decide +kernel
set_option maxRecDepth 100000 in
theorem fl_co : ∀ i, i < 10 → Cond.eq (.field (tmT i) "java/lang/String" "coder" "B") (.int 0) ∈ FL := by decide +kernel
set_option maxRecDepth 100000 in
theorem fl_ar : ∀ i, i < 10 → Cond.arrayOf (tmV i) .byte ∈ FL := by decide +kernel
set_option maxRecDepth 100000 in
theorem fl_le : ∀ i, i < 10 → Cond.eq (.length (tmV i)) (.int (Int32.ofNat (tLen.getD i 0))) ∈ FL := by decide +kernel
set_option maxRecDepth 100000 in
theorem fl_el : ∀ i, i < 10 → ∀ j, j < tLen.getD i 0 → Cond.eq (.elem (tmV i) (.int (Int32.ofNat j))) (.int ((tByt.getD i []).getD j 0)) ∈ FL := by decide +kernel
set_option maxRecDepth 100000 in
theorem fl_ne0 : ∀ j, j < 10 → 0 < j → Cond.not (.eq (tmT 0) (tmT j)) ∈ FL := by decide +kernel
set_option maxRecDepth 100000 in
theorem fl_ne1 : ∀ j, j < 10 → 1 < j → Cond.not (.eq (tmT 1) (tmT j)) ∈ FL := by decide +kernel
set_option maxRecDepth 100000 in
theorem fl_ne2 : ∀ j, j < 10 → 2 < j → Cond.not (.eq (tmT 2) (tmT j)) ∈ FL := by decide +kernel
set_option maxRecDepth 100000 in
theorem fl_ne3 : ∀ j, j < 10 → 3 < j → Cond.not (.eq (tmT 3) (tmT j)) ∈ FL := by decide +kernel
set_option maxRecDepth 100000 in
theorem fl_ne4 : ∀ j, j < 10 → 4 < j → Cond.not (.eq (tmT 4) (tmT j)) ∈ FL := by decide +kernel
set_option maxRecDepth 100000 in
theorem fl_ne5 : ∀ j, j < 10 → 5 < j → Cond.not (.eq (tmT 5) (tmT j)) ∈ FL := by decide +kernel
set_option maxRecDepth 100000 in
theorem fl_ne6 : ∀ j, j < 10 → 6 < j → Cond.not (.eq (tmT 6) (tmT j)) ∈ FL := by decide +kernel
set_option maxRecDepth 100000 in
theorem fl_ne7 : ∀ j, j < 10 → 7 < j → Cond.not (.eq (tmT 7) (tmT j)) ∈ FL := by decide +kernel
set_option maxRecDepth 100000 in
theorem fl_ne8 : Cond.not (.eq (tmT 9) (tmT 8)) ∈ FL := by decide +kernel
theorem fl_lt : ∀ i j, j < 10 → i < j → Cond.not (.eq (tmT i) (tmT j)) ∈ FL ∨ Cond.not (.eq (tmT j) (tmT i)) ∈ FL := by
  intro i j hj h
  match i, h with
  | 0, h => exact Or.inl (fl_ne0 j hj h)
  | 1, h => exact Or.inl (fl_ne1 j hj h)
  | 2, h => exact Or.inl (fl_ne2 j hj h)
  | 3, h => exact Or.inl (fl_ne3 j hj h)
  | 4, h => exact Or.inl (fl_ne4 j hj h)
  | 5, h => exact Or.inl (fl_ne5 j hj h)
  | 6, h => exact Or.inl (fl_ne6 j hj h)
  | 7, h => exact Or.inl (fl_ne7 j hj h)
  | 8, h =>
    have e : j = 9 := by omega
    subst e
    exact Or.inr fl_ne8
  | i + 9, h => omega
theorem fl_ne : ∀ i, i < 10 → ∀ j, j < 10 → i ≠ j → Cond.not (.eq (tmT i) (tmT j)) ∈ FL ∨ Cond.not (.eq (tmT j) (tmT i)) ∈ FL := by
  intro i hi j hj h
  rcases Nat.lt_or_gt_of_ne h with q | q
  · exact fl_lt i j hj q
  · exact (fl_lt j i hi q).symm
set_option maxRecDepth 100000 in
theorem fl_eq : ∀ i, i < 10 → Cond.eq (tmT i) (tmU i) ∈ FL := by decide +kernel
set_option maxRecDepth 100000 in
theorem fl_cs : Cond.eq (.static "java/lang/String" "COMPACT_STRINGS" "Z") (.int 1) ∈ FL := by decide +kernel
set_option maxRecDepth 100000 in
theorem fl_si : Cond.isRef (.static "jdk/internal/util/Preconditions" "SIOOBE_FORMATTER" "Ljava/util/function/BiFunction;") ∈ FL := by decide +kernel
set_option maxRecDepth 100000 in
theorem fl_fa : Cond.arrayOf tmF .int ∈ FL := by decide +kernel
set_option maxRecDepth 100000 in
theorem fl_fl : Cond.eq (.length tmF) (.int (Int32.ofNat 6)) ∈ FL := by decide +kernel
set_option maxRecDepth 100000 in
theorem fl_fe : ∀ j, j < 6 → Cond.eq (.elem tmF (.int (Int32.ofNat j))) (.int (facR j)) ∈ FL := by decide +kernel
