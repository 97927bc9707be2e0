/-! ===== tools: loops with something hidden, literals, a land's bounds ===== -/
theorem mForH {α β : Type} (F : Nat → α → β → mR) (g : Nat → α → α) (n : Nat) (a : α) (b : β) (hs : ∀ k b, k < n → ∃ b', F k (mF g k a) b = F (k + 1) (g k (mF g k a)) b') : ∃ b', F 0 a b = F n (mF g n a) b' := by
  have key : ∀ k, k ≤ n → ∃ b', F 0 a b = F k (mF g k a) b' := by
    intro k
    induction k with
    | zero => intro _; exact ⟨b, rfl⟩
    | succ k ih =>
      intro h
      obtain ⟨b1, e1⟩ := ih (by omega)
      obtain ⟨b2, e2⟩ := hs k b1 (by omega)
      exact ⟨b2, e1.trans e2⟩
  exact key n (Nat.le_refl n)
theorem m6l (a : Nat) : (6 : Int32) * nI a = nI (6 * a) := nI_mul 6 a
theorem m6r (a : Nat) : nI a * (6 : Int32) = nI (a * 6) := nI_mul a 6
theorem m36l (a : Nat) : (36 : Int32) * nI a = nI (36 * a) := nI_mul 36 a
theorem m36r (a : Nat) : nI a * (36 : Int32) = nI (a * 36) := nI_mul a 36
theorem m2l (a : Nat) : (2 : Int32) * nI a = nI (2 * a) := nI_mul 2 a
theorem bI_1 (b : Bool) : decide (bI b = 1) = b := by cases b <;> decide
theorem bI_n1 (b : Bool) : decide (¬ bI b = 1) = !b := by cases b <;> decide
theorem oI_s (i : Nat) : oI (some i) = nI i := rfl
theorem oI_n : oI none = -1 := rfl
theorem nI_m1e {i : Nat} (h : i < 2 ^ 31) : decide (nI i = -1) = false := decide_eq_false (nI_nm1 h)
theorem nI_m1n {i : Nat} (h : i < 2 ^ 31) : decide (¬ nI i = -1) = true := decide_eq_true (nI_nm1 h)
theorem m1e : decide ((-1 : Int32) = -1) = true := by decide
theorem m1n : decide (¬ (-1 : Int32) = -1) = false := by decide
theorem bnot_t : (!true) = false := rfl
theorem bnot_f : (!false) = true := rfl
section LAND
variable {l : Lv}
theorem lvY (h : lvOK l) : lY l ≤ 12 := h.1
theorem lvP (h : lvOK l) : lP l ≤ 6 := h.2.1
theorem lvQ (h : lvOK l) : lQ l ≤ 5 := h.2.2.1
theorem lvLn (h : lvOK l) : lLn l ≤ 800 := h.2.2.2.1
theorem lvB (h : lvOK l) : lB l ≤ 20 := h.2.2.2.2.1
theorem lvLY (h : lvOK l) : 0 < lLn l ↔ 0 < lY l := h.2.2.2.2.2.1
theorem lvNo (h : lvOK l) : lLn l = 0 → lP l = 0 ∧ lQ l = 0 := h.2.2.2.2.2.2.1
theorem lvLaw (h : lvOK l) : bw 0 (lLaw l) 3 := h.2.2.2.2.2.2.2.1
theorem lvOdd (h : lvOK l) : bw 0 (lOdd l) 10 := h.2.2.2.2.2.2.2.2.1
theorem lvSk (h : lvOK l) : ∀ p, p < lP l → bw 0 (lSk l p) 63 := h.2.2.2.2.2.2.2.2.2.1
theorem lvFe (h : lvOK l) : ∀ c, c < 36 → bw (-60) (lFe l c) 60 := h.2.2.2.2.2.2.2.2.2.2.1
theorem lvFd (h : lvOK l) : ∀ p, p < 6 → lFe l (7 * p) = 0 := h.2.2.2.2.2.2.2.2.2.2.2.1
theorem lvAs (h : lvOK l) : ∀ q, q < lQ l → bw 0 (lAs l q) 63 := fun q hq => (h.2.2.2.2.2.2.2.2.2.2.2.2.1 q hq).1
theorem lvWh (h : lvOK l) : ∀ q, q < lQ l → lWh l q < 12 := fun q hq => (h.2.2.2.2.2.2.2.2.2.2.2.2.1 q hq).2
theorem lvWr (h : lvOK l) : ∀ x ∈ lWr l, ddOK (lP l) x ∧ 1 ≤ x.2.2.1.toInt := h.2.2.2.2.2.2.2.2.2.2.2.2.2.1
theorem lvAc (h : lvOK l) : ∀ x ∈ lAc l, ddOK (lP l) x ∧ x.2.2.2 < lY l := h.2.2.2.2.2.2.2.2.2.2.2.2.2.2.1
theorem lvWn (h : lvOK l) : (lWr l).length ≤ 8 := h.2.2.2.2.2.2.2.2.2.2.2.2.2.2.2.1
theorem lvAn (h : lvOK l) : (lAc l).length ≤ 30 := h.2.2.2.2.2.2.2.2.2.2.2.2.2.2.2.2
end LAND
/-! a course: law, thaws, the wrong that is left out, what is done more, skills -/
abbrev Va : Type := Int32 × Int32 × Option Nat × (Nat → Int32) × (Nat → Int32)
abbrev vLaw (v : Va) : Int32 := v.1
abbrev vTh (v : Va) : Int32 := v.2.1
abbrev vOut (v : Va) : Option Nat := v.2.2.1
abbrev vEx (v : Va) : Nat → Int32 := v.2.2.2.1
abbrev vSk (v : Va) : Nat → Int32 := v.2.2.2.2
def vaOK (v : Va) : Prop := bw 0 (vLaw v) 3 ∧ (∀ i, vOut v = some i → i < 2 ^ 31) ∧ (∀ c, bw 0 (vEx v c) 1000) ∧ ∀ p, p < 6 → vEx v (7 * p) = 0
/-- as it is -/
def vS (l : Lv) : Va := (lLaw l, 0, none, fun _ => 0, lSk l)
theorem vS_ok {l : Lv} (h : lvOK l) : vaOK (vS l) := by
  refine ⟨lvLaw h, fun i h => ?_, fun c => ?_, fun p _ => rfl⟩
  · cases h
  · show bw 0 0 1000
    exact ⟨by decide, by decide⟩
def fE (l : Lv) (v : Va) (y c : Nat) : Int32 := fS (lFe l) (lWr l) (lAc l) (vOut v) (vLaw v) (bt (vTh v)) (vEx v) c y
theorem fE_bw {l : Lv} (hl : lvOK l) {v : Va} (hv : vaOK v) (y : Nat) {c : Nat} (hc : c < 36) : bw (-60) (fE l v y c) 60 := fS_bw hl _ _ _ _ hv.2.2.1 c hc y
theorem ddL_diag {P y p : Nat} {l : List Dd} (hP : P ≤ 6) (hp : p < 6) (out : Option Nat) (hl : ∀ x ∈ l, ddOK P x) (v : Int32) : ddL y (7 * p) l out v = v := by
  unfold ddL
  refine mF_inv (fun _ w => w = v) _ l.length v rfl (fun k b hk hb => ?_) l.length (Nat.le_refl _)
  split
  · exact hb
  · have e : l[k]? = some l[k] := List.getElem?_eq_getElem hk
    rw [e]
    have o := hl _ (List.mem_of_getElem? e)
    dsimp only
    unfold ddS
    rw [if_neg, hb]
    intro q
    have h1 := o.1
    have h2 := o.2.1
    have h3 := o.2.2.1
    have h4 := q.2
    exact h3 (by omega)
theorem fdS_0 (law : Int32) (t : Bool) : fdS law t 0 = 0 := by
  unfold fdS
  have e : (if law = 1 then (if (0 : Int32) = 0 then (0 : Int32) else if (0 : Int32) < 0 then 0 + 1 else 0 - 1) else if law = 2 then 0 / 2 else if law = 3 then (if (0 : Int32) < 0 then 0 + 1 else 0) else 0) = 0 := by
    split
    · rfl
    · split
      · decide
      · split <;> rfl
  rw [e]
  exact if_neg (fun q => absurd q.2 (by decide))
theorem fE_diag {l : Lv} (hl : lvOK l) {v : Va} (hv : vaOK v) (y : Nat) {p : Nat} (hp : p < 6) : fE l v y (7 * p) = 0 := by
  have hw : ∀ x ∈ lWr l, ddOK (lP l) x := fun x hx => (lvWr hl x hx).1
  have ha : ∀ x ∈ lAc l, ddOK (lP l) x := fun x hx => (lvAc hl x hx).1
  unfold fE
  induction y with
  | zero =>
    unfold fS
    rw [ddL_diag (lvP hl) hp _ ha, ddL_diag (lvP hl) hp _ hw, lvFd hl p hp, hv.2.2.2 p hp]
    decide
  | succ y ih =>
    unfold fS
    rw [ddL_diag (lvP hl) hp _ ha, ddL_diag (lvP hl) hp _ hw, ih, fdS_0]
/-! picks alike -/
theorem lst0_n (f : Nat → Int32) : lst0 f none = 0 := rfl
theorem lst0_s (f : Nat → Int32) (j : Nat) : lst0 f (some j) = f j := rfl
theorem pkF_eq {P : Nat} {f g : Nat → Int32} {s t : Nat → Bool} (hf : ∀ k, k < P → f k = g k) (hs : ∀ k, k < P → f k < 0 → s k = t k) : pkF P f s = pkF P g t := by
  have key : ∀ n, n ≤ P → mF (pkS f s) n none = mF (pkS g t) n none ∧ ∀ j, mF (pkS g t) n none = some j → j < n ∧ f j < 0 := by
    intro n
    induction n with
    | zero => intro _; exact ⟨(rfl : (none : Option Nat) = none), fun j h => by cases h⟩
    | succ n ih =>
      intro hn
      obtain ⟨e, hb⟩ := ih (by omega)
      have e1 : mF (pkS f s) (n + 1) none = pkS f s n (mF (pkS f s) n none) := rfl
      have e2 : mF (pkS g t) (n + 1) none = pkS g t n (mF (pkS g t) n none) := rfl
      rw [e1, e2, e]
      generalize mF (pkS g t) n none = b at hb
      have hle : lst0 f b = lst0 g b ∧ lst0 f b ≤ 0 := by
        cases b with
        | none => rw [lst0_n, lst0_n]; exact ⟨rfl, Int32.le_refl 0⟩
        | some j => rw [lst0_s, lst0_s]; exact ⟨hf j (by have := (hb j rfl).1; omega), Int32.le_of_lt (hb j rfl).2⟩
      have e3 : pkS f s n b = pkS g t n b := by
        unfold pkS
        rw [← hle.1, ← hf n (by omega)]
        by_cases h : f n < lst0 f b
        · rw [hs n (by omega) (Int32.lt_of_lt_of_le h hle.2)]
        · rw [if_neg (fun q => h q.2), if_neg (fun q => h q.2)]
      refine ⟨e3, fun j hj => ?_⟩
      rw [← e3] at hj
      unfold pkS at hj
      by_cases h : s n = true ∧ f n < lst0 f b
      · rw [if_pos h] at hj
        cases hj
        exact ⟨Nat.lt_succ_self _, Int32.lt_of_lt_of_le h.2 hle.2⟩
      · rw [if_neg h] at hj
        have := hb j hj
        exact ⟨by omega, this.2⟩
  exact (key P (Nat.le_refl P)).1
theorem wrS_eq {P : Nat} {f g : Nat → Int32} {s t : Nat → Bool} (hf : ∀ k, k < P → f k = g k) (hs : ∀ k, k < P → f k < 0 → s k = t k) : ∀ (n : Nat) (w : Int32), wrS P f s n w = wrS P g t n w := by
  intro n
  induction n with
  | zero => intro w; rfl
  | succ n ih =>
    intro w
    unfold wrS
    rw [pkF_eq (t := fun k => t k && !(bt w k)) hf (fun k hk h => by rw [hs k hk h])]
    cases pkF P g (fun k => t k && !(bt w k)) with
    | none => rfl
    | some k => exact ih _
theorem hbS_eq {P : Nat} {f g : Nat → Int32} {s t : Nat → Bool} (hf : ∀ k, k < P → f k = g k) (hs : ∀ k, k < P → f k < 0 → s k = t k) : hbS P f s = hbS P g t := by
  unfold hbS
  refine mF_congr _ _ P 0 (fun k hk => ?_)
  generalize mF _ k (0 : Int32) = u
  rw [← hf k hk]
  by_cases h : f k < 0
  · rw [hs k hk h]
  · have e : (if 0 < f k then (0 : Int32) else f k) = 0 := by
      by_cases h2 : 0 < f k
      · rw [if_pos h2]
      · rw [if_neg h2]
        exact Int32.le_antisymm (Int32.not_lt.mp h2) (Int32.not_lt.mp h)
    rw [e, Int32.sub_zero]
    split <;> split <;> rfl
