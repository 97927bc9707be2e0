/-! ===== THE SMALL MACHINE: rows of numbers by number of object, an instruction a step, calls by depth ===== -/
abbrev mS : Type := (Nat → Nat → Int32) × (Nat → Nat → Int64)
abbrev mR : Type := Option (Value × mS)
abbrev mE : Type := Instr × List Nat × Value
abbrev mK : Type := Nat → List Value → List Value → mS → mR
def mGet : List Value → Nat → Value
  | [], _ => .null
  | v :: _, 0 => v
  | _ :: l, n + 1 => mGet l n
def mSet : List Value → Nat → Value → List Value
  | [], _, _ => []
  | _ :: l, 0, v => v :: l
  | w :: l, n + 1, v => w :: mSet l n v
def mKl (w : Value) : Value := bif Nat.beq w.category 2 then .null else w
/-- a long that ends at a place goes -/
def mKill : List Value → Nat → List Value
  | [], _ => []
  | w :: l, 0 => w :: l
  | w :: l, 1 => mKl w :: l
  | w :: l, n + 2 => w :: mKill l (n + 1)
def mSt1 (L : List Value) (i : Nat) (v : Value) : List Value := mSet (mKill L i) i v
def mSt2 (L : List Value) (i : Nat) (v : Value) : List Value := mSet (mSet (mKill L i) i v) (i + 1) .null
def mNth : List Nat → Nat → Nat
  | [], _ => 0
  | v :: _, 0 => v
  | _ :: l, n + 1 => mNth l n
def mCat : List Value → Nat
  | [] => 0
  | v :: l => v.category + mCat l
/-- arguments off the stack, in order -/
def mArgs : Nat → List Value → List Value → List Value
  | 0, _, acc => acc
  | n + 1, v :: st, acc => mArgs n st (v :: acc)
  | _ + 1, [], acc => acc
def mDrop : Nat → List Value → List Value
  | 0, st => st
  | n + 1, _ :: st => mDrop n st
  | _ + 1, [] => []
/-- arguments as locals, n places -/
def mLoc : Nat → List Value → List Value
  | 0, _ => []
  | n + 1, [] => .null :: mLoc n []
  | 1, v :: _ => [v]
  | n + 2, v :: a => bif Nat.beq v.category 2 then v :: .null :: mLoc n a else v :: mLoc (n + 1) a
def mIn (i : Int32) (n : Nat) : Bool := !(decide (i < 0)) && Nat.blt i.toNatClampNeg n
def mUpI (σ : mS) (o k : Nat) (v : Int32) : mS := (fun a => if a = o then (fun j => if j = k then v else σ.1 o j) else σ.1 a, σ.2)
def mUpJ (σ : mS) (o k : Nat) (v : Int64) : mS := (σ.1, fun a => if a = o then (fun j => if j = k then v else σ.2 o j) else σ.2 a)
def mBI (o : mR) (k : Int32 → mS → mR) : mR := match o with
  | some (.int x, σ) => k x σ
  | _ => none
def mBL (o : mR) (k : Int64 → mS → mR) : mR := match o with
  | some (.long x, σ) => k x σ
  | _ => none
def mBV (o : mR) (k : mS → mR) : mR := match o with
  | some (.null, σ) => k σ
  | _ => none
/-- the fixed shape of the world: the kind of an object (its class's number and 1), what its reference slots hold (of a text: its signs), the kind of an array (1 int, 2 byte, 3 boolean, 4 long, 5 of references, 6 a text), its length -/
abbrev mT : Type := (Nat → Nat) × (Nat → Nat → Nat) × (Nat → Nat) × (mS → Nat → Nat)
/-- what a step does: ends, goes on, calls (void, int, long; which, its locals, the state; then pc, locals, stack) -/
abbrev mQ : Type := Option ((Value × mS) ⊕ ((Nat × List Value × List Value × mS) ⊕ (Nat × Nat × List Value × mS × Nat × List Value × List Value)))
abbrev mO : Type := Bool × mQ × mQ
def oF : mO := (true, none, none)
def oN (pc : Nat) (L st : List Value) (σ : mS) : mO := (true, some (.inr (.inl (pc, L, st, σ))), none)
def oC (b : Bool) (pc : Nat) (L st : List Value) (σ : mS) : mO := (b, some (.inr (.inl (pc, L, st, σ))), none)
def oB (b : Bool) (p q : Nat) (L st : List Value) (σ : mS) : mO := (b, some (.inr (.inl (p, L, st, σ))), some (.inr (.inl (q, L, st, σ))))
def oR (v : Value) (σ : mS) : mO := (true, some (.inl (v, σ)), none)
def oRc (b : Bool) (v : Value) (σ : mS) : mO := (b, some (.inl (v, σ)), none)
def mZ (x : Int32) : Bool := decide (x = 0) || decide (x = 1)
def oK (b : Bool) (k m : Nat) (a : List Value) (σ : mS) (pc : Nat) (L st : List Value) : mO := (b, some (.inr (.inr (k, m, a, σ, pc, L, st))), none)
def mOut1 (call : Nat → List Value → mS → mR) (K : mK) : mQ → mR
  | none => none
  | some (.inl r) => some r
  | some (.inr (.inl (pc, L, st, σ))) => K pc L st σ
  | some (.inr (.inr (0, m, a, σ, pc, L, st))) => mBV (call m a σ) (fun τ => K pc L st τ)
  | some (.inr (.inr (1, m, a, σ, pc, L, st))) => mBI (call m a σ) (fun x τ => K pc L (.int x :: st) τ)
  | some (.inr (.inr (_ + 2, m, a, σ, pc, L, st))) => mBL (call m a σ) (fun x τ => K pc L (.long x :: st) τ)
def mOut (call : Nat → List Value → mS → mR) (K : mK) (o : mO) : mR := bif o.1 then mOut1 call K o.2.1 else mOut1 call K o.2.2
def mCd (c : ClassFile.Cond) (x y : Int32) : Bool := match c with
  | .eq => decide (x = y)
  | .ne => decide (¬ x = y)
  | .lt => decide (x < y)
  | .ge => decide (y ≤ x)
  | .gt => decide (y < x)
  | .le => decide (x ≤ y)
def mCpI (σ : mS) (a b sp dp n : Nat) : mS := (fun q => if q = b then va_cpy (σ.1 a) (σ.1 b) sp dp n else σ.1 q, σ.2)
def mCpJ (σ : mS) (a b sp dp n : Nat) : mS := (σ.1, fun q => if q = b then va_cpy (σ.2 a) (σ.2 b) sp dp n else σ.2 q)
def mRecv (w : mT) (ci : Nat) (a : List Value) : Bool := match ci with
  | 0 => true
  | c + 1 => match a with | .ref o :: _ => Nat.beq (w.1 o) (c + 1) | _ => false
def mFit (w : mT) (σ : mS) (a b : Nat) (sp dp n : Int32) : Bool := !(decide (sp < 0)) && (!(decide (dp < 0)) && (!(decide (n < 0)) && (Nat.ble (sp.toNatClampNeg + n.toNatClampNeg) (w.2.2.2 σ a) && Nat.ble (dp.toNatClampNeg + n.toNatClampNeg) (w.2.2.2 σ b))))
/-- the library's own: 0 max, 1 min, 2 abs of a long, 3 arraycopy, 4 a text's length, 5 its charAt -/
def mLib (w : mT) (pc k : Nat) (L st : List Value) (σ : mS) : mO := match k with
  | 0 => match st with | .int y :: .int x :: r => oN (pc + 3) L (.int (if x < y then y else x) :: r) σ | _ => oF
  | 1 => match st with | .int y :: .int x :: r => oN (pc + 3) L (.int (if y < x then y else x) :: r) σ | _ => oF
  | 2 => match st with | .long x :: r => oN (pc + 3) L (.long (if 0 < x then x else -x) :: r) σ | _ => oF
  | 3 => match st with
    | .int n :: .int dp :: .ref b :: .int sp :: .ref a :: r => bif Nat.beq (w.2.2.1 a) 1 && (Nat.beq (w.2.2.1 b) 1 && (Nat.blt b 300 && Nat.blt a 300)) then oC (mFit w σ a b sp dp n) (pc + 3) L r (mCpI σ a b sp.toNatClampNeg dp.toNatClampNeg n.toNatClampNeg) else (bif Nat.beq (w.2.2.1 a) 4 && Nat.beq (w.2.2.1 b) 4 then oC (mFit w σ a b sp dp n) (pc + 3) L r (mCpJ σ a b sp.toNatClampNeg dp.toNatClampNeg n.toNatClampNeg) else oF)
    | _ => oF
  | 4 => match st with | .ref a :: r => bif Nat.beq (w.2.2.1 a) 6 then oN (pc + 3) L (.int (Int32.ofNat (w.2.2.2 σ a)) :: r) σ else oF | _ => oF
  | 5 => match st with | .int j :: .ref a :: r => bif Nat.beq (w.2.2.1 a) 6 then oC (mIn j (w.2.2.2 σ a)) (pc + 3) L (.int (Int32.ofNat (w.2.1 a j.toNatClampNeg)) :: r) σ else oF | _ => oF
  | _ => oF
/-- D: callee, how many arguments, its places, what it gives (0 nothing, 1 int, 2 long), the receiver's kind -/
def mInv (w : mT) (pc : Nat) (D : List Nat) (L st : List Value) (σ : mS) : mO :=
  bif Nat.blt (mNth D 0) 1000 then oK (Nat.beq (mArgs (mNth D 1) st []).length (mNth D 1) && (Nat.ble (mCat (mDrop (mNth D 1) st)) 8 && (Nat.ble (mCat (mArgs (mNth D 1) st [])) (mNth D 2) && mRecv w (mNth D 4) (mArgs (mNth D 1) st [])))) (mNth D 3) (mNth D 0) (mLoc (mNth D 2) (mArgs (mNth D 1) st [])) σ (pc + 3) L (mDrop (mNth D 1) st)
  else (bif Nat.ble (mCat st) 100 then mLib w pc (mNth D 0 - 1000) L st σ else oF)
def mRem (x y : Int32) : Int32 := x - x / y * y
def mRemL (x y : Int64) : Int64 := x - x / y * y
def mStep (w : mT) (pc : Nat) (i : Instr) (D : List Nat) (c : Value) (L st : List Value) (σ : mS) : mO :=
  match i with
  | .iconst _ => oN (pc + 1) L (c :: st) σ
  | .lconst _ => oN (pc + 1) L (c :: st) σ
  | .bipush _ => oN (pc + 2) L (c :: st) σ
  | .ldc _ => oN (pc + 2) L (c :: st) σ
  | .sipush _ => oN (pc + 3) L (c :: st) σ
  | .ldc_w _ => oN (pc + 3) L (c :: st) σ
  | .ldc2_w _ => oN (pc + 3) L (c :: st) σ
  | .getstatic _ => oN (pc + 3) L (c :: st) σ
  | .iload_n _ => match mGet L (mNth D 0) with | .int x => oN (pc + 1) L (.int x :: st) σ | _ => oF
  | .iload _ => match mGet L (mNth D 0) with | .int x => oN (pc + 2) L (.int x :: st) σ | _ => oF
  | .lload_n _ => match mGet L (mNth D 0) with | .long x => oN (pc + 1) L (.long x :: st) σ | _ => oF
  | .lload _ => match mGet L (mNth D 0) with | .long x => oN (pc + 2) L (.long x :: st) σ | _ => oF
  | .aload_n _ => match mGet L (mNth D 0) with | .ref x => oN (pc + 1) L (.ref x :: st) σ | _ => oF
  | .aload _ => match mGet L (mNth D 0) with | .ref x => oN (pc + 2) L (.ref x :: st) σ | _ => oF
  | .istore_n _ => match st with | .int x :: r => oN (pc + 1) (mSt1 L (mNth D 0) (.int x)) r σ | _ => oF
  | .istore _ => match st with | .int x :: r => oN (pc + 2) (mSt1 L (mNth D 0) (.int x)) r σ | _ => oF
  | .lstore_n _ => match st with | .long x :: r => oN (pc + 1) (mSt2 L (mNth D 0) (.long x)) r σ | _ => oF
  | .lstore _ => match st with | .long x :: r => oN (pc + 2) (mSt2 L (mNth D 0) (.long x)) r σ | _ => oF
  | .astore_n _ => match st with | .ref x :: r => oN (pc + 1) (mSt1 L (mNth D 0) (.ref x)) r σ | _ => oF
  | .astore _ => match st with | .ref x :: r => oN (pc + 2) (mSt1 L (mNth D 0) (.ref x)) r σ | _ => oF
  | .iinc _ _ => match mGet L (mNth D 0) with | .int x => (match c with | .int y => oN (pc + 3) (mSt1 L (mNth D 0) (.int (x + y))) st σ | _ => oF) | _ => oF
  | .iadd => match st with | .int y :: .int x :: r => oN (pc + 1) L (.int (x + y) :: r) σ | _ => oF
  | .isub => match st with | .int y :: .int x :: r => oN (pc + 1) L (.int (x - y) :: r) σ | _ => oF
  | .imul => match st with | .int y :: .int x :: r => oN (pc + 1) L (.int (x * y) :: r) σ | _ => oF
  | .iand => match st with | .int y :: .int x :: r => oN (pc + 1) L (.int (x &&& y) :: r) σ | _ => oF
  | .ior => match st with | .int y :: .int x :: r => oN (pc + 1) L (.int (x ||| y) :: r) σ | _ => oF
  | .ixor => match st with | .int y :: .int x :: r => oN (pc + 1) L (.int (x ^^^ y) :: r) σ | _ => oF
  | .ishl => match st with | .int y :: .int x :: r => oN (pc + 1) L (.int (x <<< (y &&& 31)) :: r) σ | _ => oF
  | .ishr => match st with | .int y :: .int x :: r => oN (pc + 1) L (.int (x >>> (y &&& 31)) :: r) σ | _ => oF
  | .iushr => match st with | .int y :: .int x :: r => oN (pc + 1) L (.int ((x.toUInt32 >>> (y.toUInt32 &&& Int32.toUInt32 31)).toInt32) :: r) σ | _ => oF
  | .idiv => match st with | .int y :: .int x :: r => oC (!(decide (y = 0))) (pc + 1) L (.int (x / y) :: r) σ | _ => oF
  | .irem => match st with | .int y :: .int x :: r => oC (!(decide (y = 0))) (pc + 1) L (.int (mRem x y) :: r) σ | _ => oF
  | .ineg => match st with | .int x :: r => oN (pc + 1) L (.int (-x) :: r) σ | _ => oF
  | .ladd => match st with | .long y :: .long x :: r => oN (pc + 1) L (.long (x + y) :: r) σ | _ => oF
  | .lsub => match st with | .long y :: .long x :: r => oN (pc + 1) L (.long (x - y) :: r) σ | _ => oF
  | .lmul => match st with | .long y :: .long x :: r => oN (pc + 1) L (.long (x * y) :: r) σ | _ => oF
  | .land => match st with | .long y :: .long x :: r => oN (pc + 1) L (.long (x &&& y) :: r) σ | _ => oF
  | .lor => match st with | .long y :: .long x :: r => oN (pc + 1) L (.long (x ||| y) :: r) σ | _ => oF
  | .ldiv => match st with | .long y :: .long x :: r => oC (!(decide (y = 0))) (pc + 1) L (.long (x / y) :: r) σ | _ => oF
  | .lrem => match st with | .long y :: .long x :: r => oC (!(decide (y = 0))) (pc + 1) L (.long (mRemL x y) :: r) σ | _ => oF
  | .lshl => match st with | .int y :: .long x :: r => oN (pc + 1) L (.long (x <<< (y.toInt64 &&& 63)) :: r) σ | _ => oF
  | .lshr => match st with | .int y :: .long x :: r => oN (pc + 1) L (.long (x >>> (y.toInt64 &&& 63)) :: r) σ | _ => oF
  | .lcmp => match st with | .long y :: .long x :: r => oN (pc + 1) L (.int (lg_cmp x y) :: r) σ | _ => oF
  | .i2l => match st with | .int x :: r => oN (pc + 1) L (.long x.toInt64 :: r) σ | _ => oF
  | .l2i => match st with | .long x :: r => oN (pc + 1) L (.int x.toInt32 :: r) σ | _ => oF
  | .i2b => match st with | .int x :: r => oN (pc + 1) L (.int x.toInt8.toInt32 :: r) σ | _ => oF
  | .dup => match st with | .int x :: r => oN (pc + 1) L (.int x :: .int x :: r) σ | .ref x :: r => oN (pc + 1) L (.ref x :: .ref x :: r) σ | _ => oF
  | .dup2 => match st with | .int y :: .ref x :: r => oN (pc + 1) L (.int y :: .ref x :: .int y :: .ref x :: r) σ | _ => oF
  | .pop => match st with | .int _ :: r => oN (pc + 1) L r σ | _ => oF
  | .if_icmp cd _ => match st with | .int y :: .int x :: r => oB (mCd cd x y) (mNth D 0) (pc + 3) L r σ | _ => oF
  | .ifCond cd _ => match st with | .int x :: r => oB (mCd cd x 0) (mNth D 0) (pc + 3) L r σ | _ => oF
  | .goto _ => oN (mNth D 0) L st σ
  | .tableswitch _ lo hi _ => match st with | .int x :: r => oB (decide (x.toInt < lo ∨ hi < x.toInt)) (mNth D 0) (mNth D ((x.toInt - lo).toNat + 1)) L r σ | _ => oF
  | .getfield _ => match st with
    | .ref o :: r => bif Nat.beq (w.1 o) (mNth D 0) then (match mNth D 2 with | 0 => oN (pc + 3) L (.int (σ.1 o (mNth D 1)) :: r) σ | 1 => oN (pc + 3) L (.long (σ.2 o (mNth D 1)) :: r) σ | _ => oN (pc + 3) L (.ref (w.2.1 o (mNth D 1)) :: r) σ) else oF
    | _ => oF
  | .putfield _ => match st with
    | .int x :: .ref o :: r => bif Nat.beq (w.1 o) (mNth D 0) && Nat.beq (mNth D 2) 0 then oN (pc + 3) L r (mUpI σ o (mNth D 1) x) else oF
    | .long x :: .ref o :: r => bif Nat.beq (w.1 o) (mNth D 0) && Nat.beq (mNth D 2) 1 then oN (pc + 3) L r (mUpJ σ o (mNth D 1) x) else oF
    | _ => oF
  | .iaload => match st with | .int j :: .ref a :: r => bif Nat.beq (w.2.2.1 a) 1 then oC (mIn j (w.2.2.2 σ a)) (pc + 1) L (.int (σ.1 a j.toNatClampNeg) :: r) σ else oF | _ => oF
  | .baload => match st with | .int j :: .ref a :: r => bif Nat.beq (w.2.2.1 a) 2 || Nat.beq (w.2.2.1 a) 3 then oC (mIn j (w.2.2.2 σ a)) (pc + 1) L (.int (σ.1 a j.toNatClampNeg) :: r) σ else oF | _ => oF
  | .laload => match st with | .int j :: .ref a :: r => bif Nat.beq (w.2.2.1 a) 4 then oC (mIn j (w.2.2.2 σ a)) (pc + 1) L (.long (σ.2 a j.toNatClampNeg) :: r) σ else oF | _ => oF
  | .aaload => match st with | .int j :: .ref a :: r => bif Nat.beq (w.2.2.1 a) 5 then oC (mIn j (w.2.2.2 σ a)) (pc + 1) L (.ref (w.2.1 a j.toNatClampNeg) :: r) σ else oF | _ => oF
  | .iastore => match st with | .int x :: .int j :: .ref a :: r => bif Nat.beq (w.2.2.1 a) 1 && Nat.blt a 300 then oC (mIn j (w.2.2.2 σ a)) (pc + 1) L r (mUpI σ a j.toNatClampNeg x) else oF | _ => oF
  | .bastore => match st with | .int x :: .int j :: .ref a :: r => bif Nat.beq (w.2.2.1 a) 2 then oC (mIn j (w.2.2.2 σ a)) (pc + 1) L r (mUpI σ a j.toNatClampNeg (vp_nar .byte x)) else (bif Nat.beq (w.2.2.1 a) 3 then oC (mIn j (w.2.2.2 σ a)) (pc + 1) L r (mUpI σ a j.toNatClampNeg (vp_nar .boolean x)) else oF) | _ => oF
  | .lastore => match st with | .long x :: .int j :: .ref a :: r => bif Nat.beq (w.2.2.1 a) 4 then oC (mIn j (w.2.2.2 σ a)) (pc + 1) L r (mUpJ σ a j.toNatClampNeg x) else oF | _ => oF
  | .arraylength => match st with | .ref a :: r => bif Nat.beq (w.2.2.1 a) 0 || Nat.beq (w.2.2.1 a) 6 then oF else oN (pc + 1) L (.int (Int32.ofNat (w.2.2.2 σ a)) :: r) σ | _ => oF
  | .invokevirtual _ => mInv w pc D L st σ
  | .invokespecial _ => mInv w pc D L st σ
  | .invokestatic _ => mInv w pc D L st σ
  | .ireturn => match st with | [.int x] => (bif Nat.beq (mNth D 0) 0 then oR (.int x) σ else oRc (mZ x) (.int x) σ) | _ => oF
  | .lreturn => match st with | [.long x] => oR (.long x) σ | _ => oF
  | .return_ => match st with | [] => oR .null σ | _ => oF
  | _ => oF
section MINI
variable (w : mT) (tb : Nat → Nat → Option mE)
/-- fuel, depth, method -/
def mRun : Nat → Nat → Nat → mK
  | 0, _, _ => fun _ _ _ _ => none
  | n + 1, d, m => fun pc L st σ => match tb m pc with
    | none => none
    | some e => mOut (fun m' a τ => match d with | 0 => none | d' + 1 => mRun n d' m' 0 a [] τ) (fun pc' L' st' τ => mRun n d m pc' L' st' τ) (mStep w pc e.1 e.2.1 e.2.2 L st σ)
end MINI
def mLe (f g : mR) : Prop := ∀ r, f = some r → g = some r
theorem mBI_mono {a b : mR} {k k' : Int32 → mS → mR} (h : mLe a b) (hk : ∀ x τ, mLe (k x τ) (k' x τ)) : mLe (mBI a k) (mBI b k') := by
  intro r hr
  cases a with
  | none => cases hr
  | some q =>
    rw [h q rfl]
    obtain ⟨v, τ⟩ := q
    cases v <;> first | exact hk _ _ r hr | cases hr
theorem mBL_mono {a b : mR} {k k' : Int64 → mS → mR} (h : mLe a b) (hk : ∀ x τ, mLe (k x τ) (k' x τ)) : mLe (mBL a k) (mBL b k') := by
  intro r hr
  cases a with
  | none => cases hr
  | some q =>
    rw [h q rfl]
    obtain ⟨v, τ⟩ := q
    cases v <;> first | exact hk _ _ r hr | cases hr
theorem mBV_mono {a b : mR} {k k' : mS → mR} (h : mLe a b) (hk : ∀ τ, mLe (k τ) (k' τ)) : mLe (mBV a k) (mBV b k') := by
  intro r hr
  cases a with
  | none => cases hr
  | some q =>
    rw [h q rfl]
    obtain ⟨v, τ⟩ := q
    cases v <;> first | exact hk _ r hr | cases hr
theorem mOut1_mono {f g : Nat → List Value → mS → mR} {K K' : mK} (hf : ∀ m a τ, mLe (f m a τ) (g m a τ)) (hK : ∀ p L s τ, mLe (K p L s τ) (K' p L s τ)) (q : mQ) : mLe (mOut1 f K q) (mOut1 g K' q) := by
  match q with
  | none => exact fun _ h => h
  | some (.inl r) => exact fun _ h => h
  | some (.inr (.inl (pc, L, st, σ))) => exact hK _ _ _ _
  | some (.inr (.inr (0, m, a, σ, pc, L, st))) => exact mBV_mono (hf _ _ _) (fun _ => hK _ _ _ _)
  | some (.inr (.inr (1, m, a, σ, pc, L, st))) => exact mBI_mono (hf _ _ _) (fun _ _ => hK _ _ _ _)
  | some (.inr (.inr (_ + 2, m, a, σ, pc, L, st))) => exact mBL_mono (hf _ _ _) (fun _ _ => hK _ _ _ _)
theorem mOut_mono {f g : Nat → List Value → mS → mR} {K K' : mK} (hf : ∀ m a τ, mLe (f m a τ) (g m a τ)) (hK : ∀ p L s τ, mLe (K p L s τ) (K' p L s τ)) (o : mO) : mLe (mOut f K o) (mOut g K' o) := by
  obtain ⟨b, x, y⟩ := o
  cases b
  · exact mOut1_mono hf hK y
  · exact mOut1_mono hf hK x
theorem mRun_succ (w : mT) (tb : Nat → Nat → Option mE) : ∀ n d m p L s τ, mLe (mRun w tb n d m p L s τ) (mRun w tb (n + 1) d m p L s τ) := by
  intro n
  induction n with
  | zero => intro d m p L s τ r h; cases h
  | succ n ih =>
    intro d m p L s τ r h
    unfold mRun at h ⊢
    cases ht : tb m p with
    | none => rw [ht] at h; cases h
    | some e =>
      rw [ht] at h
      refine mOut_mono (fun m' a τ' => ?_) (fun p' L' s' τ' => ih d m p' L' s' τ') _ r h
      cases d with
      | zero => exact fun _ h => h
      | succ d => exact ih d m' 0 a [] τ'
theorem mRun_le (w : mT) (tb : Nat → Nat → Option mE) {n k : Nat} (h : n ≤ k) (d m : Nat) (p : Nat) (L s : List Value) (τ : mS) : mLe (mRun w tb n d m p L s τ) (mRun w tb k d m p L s τ) := by
  induction k with
  | zero => rw [Nat.le_zero.mp h]; exact fun _ h => h
  | succ k ih =>
    rcases Nat.lt_or_ge k n with q | q
    · rw [show n = k + 1 by omega]; exact fun _ h => h
    · exact fun r hr => mRun_succ w tb k d m p L s τ r (ih q r hr)
/-- what a run comes to -/
noncomputable def mX (w : mT) (tb : Nat → Nat → Option mE) (d m : Nat) : mK := fun pc L st σ =>
  @dite _ (∃ r : Value × mS, ∃ n, mRun w tb n d m pc L st σ = some r) (Classical.propDecidable _) (fun h => some h.choose) (fun _ => none)
theorem mX_iff {w : mT} {tb : Nat → Nat → Option mE} {d m pc : Nat} {L st : List Value} {σ : mS} {r : Value × mS} : mX w tb d m pc L st σ = some r ↔ ∃ n, mRun w tb n d m pc L st σ = some r := by
  unfold mX
  constructor
  · intro h
    split at h
    · rename_i h1
      cases h
      exact h1.choose_spec
    · cases h
  · intro h
    have h1 : ∃ r : Value × mS, ∃ n, mRun w tb n d m pc L st σ = some r := ⟨r, h⟩
    rw [dif_pos h1]
    obtain ⟨n, hn⟩ := h
    obtain ⟨k, hk⟩ := h1.choose_spec
    have a := mRun_le w tb (Nat.le_max_left n k) d m pc L st σ _ hn
    have b := mRun_le w tb (Nat.le_max_right n k) d m pc L st σ _ hk
    rw [a] at b
    exact b.symm
noncomputable def mC (w : mT) (tb : Nat → Nat → Option mE) (d m : Nat) (a : List Value) (σ : mS) : mR := match d with
  | 0 => none
  | d + 1 => mX w tb d m 0 a [] σ
theorem mOut1_cont {f : Nat → Nat → List Value → mS → mR} {g : Nat → mK} {F : Nat → List Value → mS → mR} {G : mK} (hF : ∀ m a τ r, F m a τ = some r → ∃ n, ∀ k, n ≤ k → f k m a τ = some r) (hG : ∀ p L s τ r, G p L s τ = some r → ∃ n, ∀ k, n ≤ k → g k p L s τ = some r) (q : mQ) (r : Value × mS) (h : mOut1 F G q = some r) : ∃ n, mOut1 (f n) (g n) q = some r := by
  match q, h with
  | some (.inl _), h => exact ⟨0, h⟩
  | some (.inr (.inl (pc, L, st, σ))), h =>
    obtain ⟨n, hn⟩ := hG _ _ _ _ _ h
    exact ⟨n, hn n (Nat.le_refl _)⟩
  | some (.inr (.inr (0, m, a, σ, pc, L, st))), h =>
    change mBV (F m a σ) _ = some r at h
    cases hc : F m a σ with
    | none => rw [hc] at h; cases h
    | some v =>
      rw [hc] at h
      obtain ⟨v, τ⟩ := v
      obtain ⟨n, hn⟩ := hF _ _ _ _ hc
      cases v <;> try (cases h; done)
      obtain ⟨k, hk⟩ := hG _ _ _ _ _ h
      refine ⟨max n k, ?_⟩
      change mBV (f (max n k) m a σ) _ = some r
      rw [hn _ (Nat.le_max_left _ _)]
      exact hk _ (Nat.le_max_right _ _)
  | some (.inr (.inr (1, m, a, σ, pc, L, st))), h =>
    change mBI (F m a σ) _ = some r at h
    cases hc : F m a σ with
    | none => rw [hc] at h; cases h
    | some v =>
      rw [hc] at h
      obtain ⟨v, τ⟩ := v
      obtain ⟨n, hn⟩ := hF _ _ _ _ hc
      cases v <;> try (cases h; done)
      obtain ⟨k, hk⟩ := hG _ _ _ _ _ h
      refine ⟨max n k, ?_⟩
      change mBI (f (max n k) m a σ) _ = some r
      rw [hn _ (Nat.le_max_left _ _)]
      exact hk _ (Nat.le_max_right _ _)
  | some (.inr (.inr (_ + 2, m, a, σ, pc, L, st))), h =>
    change mBL (F m a σ) _ = some r at h
    cases hc : F m a σ with
    | none => rw [hc] at h; cases h
    | some v =>
      rw [hc] at h
      obtain ⟨v, τ⟩ := v
      obtain ⟨n, hn⟩ := hF _ _ _ _ hc
      cases v <;> try (cases h; done)
      obtain ⟨k, hk⟩ := hG _ _ _ _ _ h
      refine ⟨max n k, ?_⟩
      change mBL (f (max n k) m a σ) _ = some r
      rw [hn _ (Nat.le_max_left _ _)]
      exact hk _ (Nat.le_max_right _ _)
theorem mOut_cont {f : Nat → Nat → List Value → mS → mR} {g : Nat → mK} {F : Nat → List Value → mS → mR} {G : mK} (hF : ∀ m a τ r, F m a τ = some r → ∃ n, ∀ k, n ≤ k → f k m a τ = some r) (hG : ∀ p L s τ r, G p L s τ = some r → ∃ n, ∀ k, n ≤ k → g k p L s τ = some r) (o : mO) (r : Value × mS) (h : mOut F G o = some r) : ∃ n, mOut (f n) (g n) o = some r := by
  obtain ⟨b, x, y⟩ := o
  cases b
  · exact mOut1_cont hF hG y r h
  · exact mOut1_cont hF hG x r h
theorem mX_up {w : mT} {tb : Nat → Nat → Option mE} {d m pc : Nat} {L st : List Value} {σ : mS} {r : Value × mS} (h : mX w tb d m pc L st σ = some r) : ∃ n, ∀ k, n ≤ k → mRun w tb k d m pc L st σ = some r := by
  obtain ⟨n, hn⟩ := mX_iff.mp h
  exact ⟨n, fun k hk => mRun_le w tb hk d m pc L st σ r hn⟩
def mCN (w : mT) (tb : Nat → Nat → Option mE) (n d m' : Nat) (a : List Value) (τ : mS) : mR := match d with | 0 => none | d' + 1 => mRun w tb n d' m' 0 a [] τ
theorem mX_fix (w : mT) (tb : Nat → Nat → Option mE) (d m pc : Nat) (L st : List Value) (σ : mS) : mX w tb d m pc L st σ = (match tb m pc with
    | none => none
    | some e => mOut (mC w tb d) (mX w tb d m) (mStep w pc e.1 e.2.1 e.2.2 L st σ)) := by
  apply Option.ext
  intro r
  constructor
  · intro h
    obtain ⟨n, hn⟩ := mX_iff.mp h
    cases n with
    | zero => cases hn
    | succ n =>
      unfold mRun at hn
      cases ht : tb m pc with
      | none => rw [ht] at hn; cases hn
      | some e =>
        rw [ht] at hn
        refine mOut_mono (fun m' a τ => ?_) (fun p L' s τ => fun r h => mX_iff.mpr ⟨n, h⟩) _ r hn
        cases d with
        | zero => exact fun _ h => h
        | succ d => exact fun r h => mX_iff.mpr ⟨n, h⟩
  · intro h
    cases ht : tb m pc with
    | none => rw [ht] at h; cases h
    | some e =>
      rw [ht] at h
      obtain ⟨n, hn⟩ := mOut_cont (f := fun n => mCN w tb n d) (g := fun n => mRun w tb n d m) (by
        intro m' a τ r h
        cases d with
        | zero => cases h
        | succ d => exact mX_up h) (fun p L' s τ r h => mX_up h) _ r h
      refine mX_iff.mpr ⟨n + 1, ?_⟩
      unfold mRun
      rw [ht]
      exact hn
/-- k steps, but no further than places where to stop -/
def mGo (w : mT) (tb : Nat → Nat → Option mE) (call : Nat → List Value → mS → mR) (X : mK) (m : Nat) (stop : Nat → Bool) : Nat → mK
  | 0 => X
  | k + 1 => fun pc L st σ => match tb m pc with
    | none => none
    | some e => mOut call (fun pc' L' st' τ => bif stop pc' then X pc' L' st' τ else mGo w tb call X m stop k pc' L' st' τ) (mStep w pc e.1 e.2.1 e.2.2 L st σ)
theorem mX_go (w : mT) (tb : Nat → Nat → Option mE) (d m : Nat) (stop : Nat → Bool) (k : Nat) : ∀ (pc : Nat) (L st : List Value) (σ : mS), mX w tb d m pc L st σ = mGo w tb (mC w tb d) (mX w tb d m) m stop k pc L st σ := by
  induction k with
  | zero => intro pc L st σ; rfl
  | succ k ih =>
    intro pc L st σ
    rw [mX_fix]
    unfold mGo
    have e : (fun pc' L' st' τ => bif stop pc' then mX w tb d m pc' L' st' τ else mGo w tb (mC w tb d) (mX w tb d m) m stop k pc' L' st' τ) = mX w tb d m := by
      funext pc' L' st' τ
      cases stop pc'
      · exact (ih pc' L' st' τ).symm
      · rfl
    rw [e]
