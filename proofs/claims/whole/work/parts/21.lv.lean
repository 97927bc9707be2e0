/-! ===== a land as numbers: what both sides' rows stand for ===== -/
/-- a deed: who, to whom, how much (0: amends), when -/
abbrev Dd : Type := Nat × Nat × Int32 × Nat
/-- years, persons, posts, lines, bonds; law, odds; skills, feelings told, needs, years of posts; wrongs, acts -/
abbrev Lv : Type := (Nat × Nat × Nat × Nat × Nat) × (Int32 × Int32) × (Nat → Int32) × (Nat → Int32) × (Nat → Int32) × (Nat → Nat) × List Dd × List Dd
abbrev lY (l : Lv) : Nat := l.1.1
abbrev lP (l : Lv) : Nat := l.1.2.1
abbrev lQ (l : Lv) : Nat := l.1.2.2.1
abbrev lLn (l : Lv) : Nat := l.1.2.2.2.1
abbrev lB (l : Lv) : Nat := l.1.2.2.2.2
abbrev lLaw (l : Lv) : Int32 := l.2.1.1
abbrev lOdd (l : Lv) : Int32 := l.2.1.2
abbrev lSk (l : Lv) : Nat → Int32 := l.2.2.1
abbrev lFe (l : Lv) : Nat → Int32 := l.2.2.2.1
abbrev lAs (l : Lv) : Nat → Int32 := l.2.2.2.2.1
abbrev lWh (l : Lv) : Nat → Nat := l.2.2.2.2.2.1
abbrev lWr (l : Lv) : List Dd := l.2.2.2.2.2.2.1
abbrev lAc (l : Lv) : List Dd := l.2.2.2.2.2.2.2
/-- between two numbers -/
def bw (a : Int) (x : Int32) (b : Int) : Prop := a ≤ x.toInt ∧ x.toInt ≤ b
def ddOK (P : Nat) (x : Dd) : Prop := x.1 < P ∧ x.2.1 < P ∧ x.1 ≠ x.2.1 ∧ bw 0 x.2.2.1 40 ∧ x.2.2.2 < 12
def lvOK (l : Lv) : Prop := lY l ≤ 12 ∧ lP l ≤ 6 ∧ lQ l ≤ 5 ∧ lLn l ≤ 800 ∧ lB l ≤ 20 ∧ (0 < lLn l ↔ 0 < lY l) ∧ (lLn l = 0 → lP l = 0 ∧ lQ l = 0) ∧ bw 0 (lLaw l) 3 ∧ bw 0 (lOdd l) 10 ∧ (∀ p, p < lP l → bw 0 (lSk l p) 63) ∧ (∀ c, c < 36 → bw (-60) (lFe l c) 60) ∧ (∀ p, p < 6 → lFe l (7 * p) = 0) ∧ (∀ q, q < lQ l → bw 0 (lAs l q) 63 ∧ lWh l q < 12) ∧ (∀ x ∈ lWr l, ddOK (lP l) x ∧ 1 ≤ x.2.2.1.toInt) ∧ (∀ x ∈ lAc l, ddOK (lP l) x ∧ x.2.2.2 < lY l) ∧ (lWr l).length ≤ 8 ∧ (lAc l).length ≤ 30
/-- deeds as the class has them -/
def dC (σ : mS) (o : Nat) (l : List Dd) : Prop := σ.1 o 4 = nI l.length ∧ ∀ (i : Nat) (x : Dd), l[i]? = some x → σ.1 (o + 1) i = nI x.1 ∧ σ.1 (o + 2) i = nI x.2.1 ∧ σ.1 (o + 3) i = x.2.2.1 ∧ σ.1 (o + 4) i = nI x.2.2.2
/-- a land as the class has it, at its number -/
def lC (σ : mS) (b : Nat) (l : Lv) : Prop := (σ.1 b 0 = nI (lY l) ∧ σ.1 b 1 = lLaw l ∧ σ.1 b 2 = lOdd l ∧ σ.1 b 3 = nI (lP l) ∧ σ.1 b 4 = nI (lB l) ∧ σ.1 b 5 = nI (lQ l) ∧ σ.1 b 6 = nI (lLn l)) ∧ (∀ p, p < lP l → σ.1 (b + 1) p = lSk l p) ∧ (∀ c, c < 36 → σ.1 (b + 2) c = lFe l c) ∧ (∀ q, q < lQ l → σ.1 (b + 3) q = lAs l q ∧ σ.1 (b + 4) q = nI (lWh l q)) ∧ dC σ (b + 5) (lWr l) ∧ dC σ (b + 10) (lAc l)
/-- an act in one number -/
def aN (x : Dd) : Int32 := 100000 * x.2.2.1 + 10000 * nI x.1 + 1000 * nI x.2.1 + nI x.2.2.2
/-- a land as the reference has it, in a row from a place on -/
def lM (f : Nat → Int32) (l : Lv) : Prop := (f 0 = nI (lY l) ∧ f 1 = lLaw l ∧ f 2 = lOdd l ∧ f 3 = nI (lP l) ∧ f 4 = nI (lB l) ∧ f 5 = nI (lWr l).length ∧ f 6 = nI (lQ l) ∧ f 7 = nI (lAc l).length ∧ f 8 = nI (lLn l)) ∧ (∀ p, p < lP l → f (9 + p) = lSk l p) ∧ (∀ c, c < 36 → f (15 + c) = lFe l c) ∧ (∀ q, q < lQ l → f (83 + 2 * q) = nI (lWh l q) ∧ f (84 + 2 * q) = lAs l q) ∧ (∀ (i : Nat) (x : Dd), (lWr l)[i]? = some x → f (51 + 4 * i) = nI x.1 ∧ f (52 + 4 * i) = nI x.2.1 ∧ f (53 + 4 * i) = x.2.2.1 ∧ f (54 + 4 * i) = nI x.2.2.2) ∧ (∀ (i : Nat) (x : Dd), (lAc l)[i]? = some x → f (93 + i) = aN x)
/-! feelings -/
theorem vMx_comm (a b : Int32) : vMx a b = vMx b a := by
  unfold vMx
  by_cases h : a < b
  · rw [if_pos h, if_neg (Int32.not_lt.mpr (Int32.le_of_lt h))]
  · rw [if_neg h]
    by_cases h2 : b < a
    · rw [if_pos h2]
    · rw [if_neg h2]
      exact Int32.le_antisymm (Int32.not_lt.mp h2) (Int32.not_lt.mp h)
def ddS (y c : Nat) (v : Int32) (x : Dd) : Int32 := if x.2.2.2 = y ∧ 6 * x.2.1 + x.1 = c then (if x.2.2.1 = 0 then vMx v 0 else vMx (v - x.2.2.1) (-60)) else v
/-- deeds one by one, but one -/
def ddL (y c : Nat) (l : List Dd) (out : Option Nat) (v : Int32) : Int32 := mF (fun i v => if out = some i then v else (match l[i]? with | some x => ddS y c v x | none => v)) l.length v
def fdS (law : Int32) (t : Bool) (v : Int32) : Int32 :=
  let w := if law = 1 then (if v = 0 then v else if v < 0 then v + 1 else v - 1) else if law = 2 then v / 2 else if law = 3 then (if v < 0 then v + 1 else v) else v
  if t = true ∧ w < 0 then w + 1 else w
/-- feelings of a pair, year by year: told, wrongs, acts, law, thaws, what is done more in year 0 -/
def fS (fe : Nat → Int32) (W A : List Dd) (out : Option Nat) (law : Int32) (th : Nat → Bool) (ex : Nat → Int32) (c : Nat) : Nat → Int32
  | 0 => vMx (ddL 0 c A none (ddL 0 c W out (fe c)) - ex c) (-60)
  | y + 1 => ddL (y + 1) c A none (ddL (y + 1) c W out (fdS law (th y) (fS fe W A out law th ex c y)))
/-- a number or none, as the machine has it -/
def oI (x : Option Nat) : Int32 := match x with
  | none => -1
  | some i => nI i
theorem oI_eq {k : Nat} (hk : k < 2 ^ 31) {x : Option Nat} (hx : ∀ i, x = some i → i < 2 ^ 31) : decide (nI k = oI x) = decide (x = some k) := by
  apply decide_eq_decide.mpr
  cases x with
  | none =>
    constructor
    · intro h
      have : (nI k).toInt = -1 := by rw [h]; rfl
      rw [nI_toInt hk] at this
      omega
    · intro h; cases h
  | some i =>
    show nI k = nI i ↔ _
    rw [nI_eq hk (hx i rfl)]
    constructor
    · intro h; rw [h]
    · intro h; cases h; rfl
