/-! ===== plain facts for the methods' meanings ===== -/
/-- n steps, from 0 on -/
def mF {α : Type} (g : Nat → α → α) : Nat → α → α
  | 0, a => a
  | n + 1, a => g n (mF g n a)
theorem mFor {α : Type} (F : Nat → α → mR) (g : Nat → α → α) (n : Nat) (a : α) (hs : ∀ k, k < n → F k (mF g k a) = F (k + 1) (g k (mF g k a))) : F 0 a = F n (mF g n a) := by
  have key : ∀ k, k ≤ n → F 0 a = F k (mF g k a) := by
    intro k
    induction k with
    | zero => intro _; rfl
    | succ k ih => intro h; rw [ih (by omega), hs k (by omega)]; rfl
  exact key n (Nat.le_refl n)
theorem mF_inv {α : Type} (I : Nat → α → Prop) (g : Nat → α → α) (n : Nat) (a : α) (h0 : I 0 a) (hs : ∀ k b, k < n → I k b → I (k + 1) (g k b)) : ∀ k, k ≤ n → I k (mF g k a) := by
  intro k
  induction k with
  | zero => intro _; exact h0
  | succ k ih => intro h; exact hs k _ (by omega) (ih (by omega))
theorem mF_congr {α : Type} (g g' : Nat → α → α) (n : Nat) (a : α) (h : ∀ k, k < n → g k (mF g' k a) = g' k (mF g' k a)) : mF g n a = mF g' n a := by
  induction n with
  | zero => rfl
  | succ n ih =>
    have e := ih (fun k hk => h k (by omega))
    show g n (mF g n a) = g' n (mF g' n a)
    rw [e, h n (by omega)]
/-- two runs side by side -/
theorem mF_rel {α β : Type} (R : Nat → α → β → Prop) (g : Nat → α → α) (g' : Nat → β → β) (n : Nat) (a : α) (b : β) (h0 : R 0 a b) (hs : ∀ k x y, k < n → R k x y → R (k + 1) (g k x) (g' k y)) : R n (mF g n a) (mF g' n b) := by
  induction n with
  | zero => exact h0
  | succ n ih => exact hs n _ _ (by omega) (ih (fun k x y hk => hs k x y (by omega)))
/-- the first place below n where p holds -/
def mFst (p : Nat → Bool) : Nat → Nat → Option Nat
  | 0, _ => none
  | j + 1, k => bif p k then some k else mFst p j (k + 1)
theorem mFind (F : Nat → mR) (p : Nat → Bool) (R : Nat → mR) (n : Nat) (hs : ∀ k, k < n → F k = bif p k then R k else F (k + 1)) : F 0 = (match mFst p n 0 with | some k => R k | none => F n) := by
  have key : ∀ j k, k + j = n → F k = (match mFst p j k with | some k => R k | none => F n) := by
    intro j
    induction j with
    | zero => intro k h; rw [show k = n by omega]; rfl
    | succ j ih =>
      intro k h
      rw [hs k (by omega)]
      unfold mFst
      cases p k
      · exact ih (k + 1) (by omega)
      · rfl
  exact key n 0 (by omega)
theorem mFst_congr (p q : Nat → Bool) : ∀ j k, (∀ i, k ≤ i → i < k + j → p i = q i) → mFst p j k = mFst q j k := by
  intro j
  induction j with
  | zero => intro k _; rfl
  | succ j ih =>
    intro k h
    unfold mFst
    rw [h k (by omega) (by omega), ih (k + 1) (fun i h1 h2 => h i (by omega) (by omega))]
theorem mFst_some (p : Nat → Bool) : ∀ j k i, mFst p j k = some i → k ≤ i ∧ i < k + j ∧ p i = true ∧ ∀ x, k ≤ x → x < i → p x = false := by
  intro j
  induction j with
  | zero => intro k i h; cases h
  | succ j ih =>
    intro k i h
    unfold mFst at h
    cases hp : p k with
    | true =>
      rw [hp] at h
      have e : some k = some i := h
      cases e
      exact ⟨Nat.le_refl _, by omega, hp, fun x h1 h2 => by omega⟩
    | false =>
      rw [hp] at h
      obtain ⟨h1, h2, h3, h4⟩ := ih (k + 1) i h
      refine ⟨by omega, by omega, h3, fun x g1 g2 => ?_⟩
      by_cases e : x = k
      · rw [e]; exact hp
      · exact h4 x (by omega) g2
theorem mFst_none (p : Nat → Bool) : ∀ j k, mFst p j k = none → ∀ x, k ≤ x → x < k + j → p x = false := by
  intro j
  induction j with
  | zero => intro k _ x h1 h2; omega
  | succ j ih =>
    intro k h x h1 h2
    unfold mFst at h
    cases hp : p k with
    | true => rw [hp] at h; cases h
    | false =>
      rw [hp] at h
      by_cases e : x = k
      · rw [e]; exact hp
      · exact ih (k + 1) h x (by omega) (by omega)
theorem mIn_nI {k n : Nat} (h : k < n) (hn : n < 2 ^ 31) : mIn (nI k) n = true := by
  unfold mIn
  simp only [Bool.and_eq_true, Bool.not_eq_true', decide_eq_false_iff_not]
  exact ⟨nI_pos (by omega), Nat.blt_eq.mpr (by rw [nI_clamp (by omega)]; exact h)⟩
/-- a row set anew -/
def sR (σ : mS) (o : Nat) (f : Nat → Int32) : mS := (fun a => if a = o then f else σ.1 a, σ.2)
def sJ (σ : mS) (o : Nat) (f : Nat → Int64) : mS := (σ.1, fun a => if a = o then f else σ.2 a)
theorem mUpI_sR (σ : mS) (o k : Nat) (v : Int32) : mUpI σ o k v = sR σ o (upd (σ.1 o) k v) := rfl
theorem mUpJ_sJ (σ : mS) (o k : Nat) (v : Int64) : mUpJ σ o k v = sJ σ o (vp_updL (σ.2 o) k v) := rfl
theorem mCpI_sR (σ : mS) (a b x y n : Nat) : mCpI σ a b x y n = sR σ b (va_cpy (σ.1 a) (σ.1 b) x y n) := rfl
theorem mCpJ_sJ (σ : mS) (a b x y n : Nat) : mCpJ σ a b x y n = sJ σ b (va_cpy (σ.2 a) (σ.2 b) x y n) := rfl
theorem sR_at (σ : mS) (o : Nat) (f : Nat → Int32) : (sR σ o f).1 o = f := if_pos rfl
theorem sR_ne (σ : mS) {o a : Nat} (f : Nat → Int32) (h : a ≠ o) : (sR σ o f).1 a = σ.1 a := if_neg h
theorem sR_2 (σ : mS) (o : Nat) (f : Nat → Int32) : (sR σ o f).2 = σ.2 := rfl
theorem sJ_at (σ : mS) (o : Nat) (f : Nat → Int64) : (sJ σ o f).2 o = f := if_pos rfl
theorem sJ_ne (σ : mS) {o a : Nat} (f : Nat → Int64) (h : a ≠ o) : (sJ σ o f).2 a = σ.2 a := if_neg h
theorem sJ_1 (σ : mS) (o : Nat) (f : Nat → Int64) : (sJ σ o f).1 = σ.1 := rfl
theorem sR_sR (σ : mS) (o : Nat) (f g : Nat → Int32) : sR (sR σ o f) o g = sR σ o g := by
  unfold sR
  refine Prod.ext (funext fun a => ?_) rfl
  by_cases h : a = o <;> simp [h]
theorem sR_self (σ : mS) (o : Nat) : sR σ o (σ.1 o) = σ := by
  unfold sR
  refine Prod.ext (funext fun a => ?_) rfl
  by_cases h : a = o <;> simp [h]
theorem sR_comm (σ : mS) {o p : Nat} (h : o ≠ p) (f g : Nat → Int32) : sR (sR σ o f) p g = sR (sR σ p g) o f := by
  unfold sR
  refine Prod.ext (funext fun a => ?_) rfl
  by_cases h1 : a = o
  · subst h1
    simp [h]
  · simp [h1]
theorem mBI_s (x : Int32) (σ : mS) (k : Int32 → mS → mR) : mBI (some (.int x, σ)) k = k x σ := rfl
theorem mBL_s (x : Int64) (σ : mS) (k : Int64 → mS → mR) : mBL (some (.long x, σ)) k = k x σ := rfl
theorem mBV_s (σ : mS) (k : mS → mR) : mBV (some (.null, σ)) k = k σ := rfl
theorem mZ_0 : mZ 0 = true := by decide
theorem mZ_1 : mZ 1 = true := by decide
theorem mC_s (w : mT) (tb : Nat → Nat → Option mE) (d m : Nat) (a : List Value) (σ : mS) : mC w tb (d + 1) m a σ = mX w tb d m 0 a [] σ := rfl
/-- a truth value as the machine has it -/
def bI (b : Bool) : Int32 := bif b then 1 else 0
theorem bI_t : bI true = 1 := rfl
theorem bI_f : bI false = 0 := rfl
theorem bI_0 (b : Bool) : decide (bI b = 0) = !b := by cases b <;> decide
theorem bI_n (b : Bool) : decide (¬ bI b = 0) = b := by cases b <;> decide
theorem mZ_b (b : Bool) : mZ (bI b) = true := by cases b <;> decide
