/-! ===== a step of the small machine is a step of the machine (rows of simple shape by program) ===== -/
abbrev mV : Type := mT × (Nat → Nat → Nat) × (Nat → Nat) × List Nat × (Nat → ClassId) × (Nat → Nat) × va_G × List vw_C
abbrev vTT (v : mV) : mT := v.1
abbrev vFt (v : mV) : Nat → Nat → Nat := v.2.1
abbrev vNf (v : mV) : Nat → Nat := v.2.2.1
abbrev vIds (v : mV) : List Nat := v.2.2.2.1
abbrev vCa (v : mV) : Nat → ClassId := v.2.2.2.2.1
abbrev vAdr (v : mV) : Nat → Nat := v.2.2.2.2.2.1
abbrev vD (v : mV) : va_G := v.2.2.2.2.2.2.1
abbrev vCl (v : mV) : List vw_C := v.2.2.2.2.2.2.2
abbrev vW (v : mV) (σ : mS) : va_W := mWl (vTT v) (vFt v) (vNf v) (vIds v) (vCa v) (vAdr v) σ
abbrev vA (v : mV) : Nat → Prop := mAd (vIds v) (vAdr v)
/-- program, launch, env, room, start, method, arguments, below, method, code, cells, slots, goal -/
abbrev mFF : Type := Program × Launch × Env × Room × State × MethodId × Array Value × List Frame × Method × Code × Nat × Nat × (State → Prop)
abbrev fP (f : mFF) : Program := f.1
abbrev fLL (f : mFF) : Launch := f.2.1
abbrev fEE (f : mFF) : Env := f.2.2.1
abbrev fR (f : mFF) : Room := f.2.2.2.1
abbrev fSS (f : mFF) : State := f.2.2.2.2.1
abbrev fM (f : mFF) : MethodId := f.2.2.2.2.2.1
abbrev fA (f : mFF) : Array Value := f.2.2.2.2.2.2.1
abbrev fB (f : mFF) : List Frame := f.2.2.2.2.2.2.2.1
abbrev fH (f : mFF) : Method := f.2.2.2.2.2.2.2.2.1
abbrev fC (f : mFF) : Code := f.2.2.2.2.2.2.2.2.2.1
abbrev fN (f : mFF) : Nat := f.2.2.2.2.2.2.2.2.2.2.1
abbrev fO (f : mFF) : Nat := f.2.2.2.2.2.2.2.2.2.2.2.1
abbrev fQ (f : mFF) : State → Prop := f.2.2.2.2.2.2.2.2.2.2.2.2
abbrev fW (f : mFF) (H : Heap) (locs : List Loc) (g : JFrame) : Prop := W (fP f) (fLL f) (fEE f) (fR f) (fSS f) (fM f) (fA f) (fB f) (fH f) (fC f) H locs (fN f) (fO f) (fQ f) g
def mNx (v : mV) (f : mFF) (pc : Nat) (L st : List Value) (σ : mS) : Prop := ∀ (H : Heap) (locs : List Loc) (ls : Array Slot), mLr (vAdr v) ls L → va_P (vD v) (vCl v) (vW v σ) H → va_S (vA v) (fSS f).heap H locs → fW f H locs (F0 (fM f) pc ls (st.map (rv (vAdr v))))
/-- what a run that ends leaves to show -/
def mRt (v : mV) (f : mFF) (cc : ByteArray) (rt : Option FieldType) (r : Value × mS) : Prop := ∀ (pc : Nat) (H : Heap) (locs : List Loc) (ls : Array Slot), va_P (vD v) (vCl v) (vW v r.2) H → va_S (vA v) (fSS f).heap H locs → (match r.1 with
  | .int x => decode cc pc = .ok (.ireturn, 1) → (rt = some .int ∨ (rt = some .boolean ∧ mZ x = true)) → fW f H locs (F0 (fM f) pc ls [.int x])
  | .long x => decode cc pc = .ok (.lreturn, 1) → rt = some .long → fW f H locs (F0 (fM f) pc ls [.long x])
  | .null => decode cc pc = .ok (.return_, 1) → rt = none → fW f H locs (F0 (fM f) pc ls [])
  | _ => True)
/-- the fixed facts that no method changes: the script, the row of the class, and others (Zs) -/
def mZt (v : mV) (Zs : (Nat → Prop) → State → Heap → Prop) (σ : mS) (U : State) (H : Heap) : Prop :=
  (va_X (vAdr v 300) ((σ.1 299 0).toNatClampNeg) (σ.1 300) U H ∧ vAdr v 300 < H.size ∧ ¬ vA v (vAdr v 300)) ∧ (va_Z "EnemyLetters" "FACTORIALS" "[I" (.ref (vAdr v 301)) (vA v) U H ∧ va_T .int (vAdr v 301) 6 (fun j => .int (σ.1 301 j)) (vA v) U H) ∧ Zs (vA v) U H
theorem mZt_rows {v : mV} {Zs : (Nat → Prop) → State → Heap → Prop} {σ τ : mS} {U : State} {H : Heap} (h : mZt v Zs σ U H) (h1 : τ.1 299 = σ.1 299) (h2 : τ.1 300 = σ.1 300) (h3 : τ.1 301 = σ.1 301) : mZt v Zs τ U H := by
  unfold mZt at h ⊢
  rw [h1, h2, h3]
  exact h
/-- rows 299 and on stay -/
def mKeep (σ τ : mS) : Prop := τ.1 299 = σ.1 299 ∧ τ.1 300 = σ.1 300 ∧ τ.1 301 = σ.1 301
theorem mKeep.rf (σ : mS) : mKeep σ σ := ⟨rfl, rfl, rfl⟩
theorem mKeep.tr {σ τ υ : mS} (h : mKeep σ τ) (h' : mKeep τ υ) : mKeep σ υ := ⟨h'.1.trans h.1, h'.2.1.trans h.2.1, h'.2.2.trans h.2.2⟩
theorem mKeep.upI (σ : mS) {o : Nat} (ho : o < 299) (k : Nat) (x : Int32) : mKeep σ (mUpI σ o k x) := ⟨by simp [mUpI, show 299 ≠ o by omega], by simp [mUpI, show 300 ≠ o by omega], by simp [mUpI, show 301 ≠ o by omega]⟩
theorem mKeep.upJ (σ : mS) (o k : Nat) (x : Int64) : mKeep σ (mUpJ σ o k x) := ⟨rfl, rfl, rfl⟩
theorem mKeep.cpI (σ : mS) (a : Nat) {o : Nat} (ho : o < 299) (x y z : Nat) : mKeep σ (mCpI σ a o x y z) := ⟨by simp [mCpI, show 299 ≠ o by omega], by simp [mCpI, show 300 ≠ o by omega], by simp [mCpI, show 301 ≠ o by omega]⟩
theorem mKeep.cpJ (σ : mS) (a o x y z : Nat) : mKeep σ (mCpJ σ a o x y z) := ⟨rfl, rfl, rfl⟩
/-- a field, by its number in a class' pool: class ci (and 1), place k, kind ty -/
def mFO (GW : List Cond) (cl : List vw_C) (nf : Nat → Nat) (ft : Nat → Nat → Nat) (own : String) (i ci k ty : Nat) : Prop := ∃ (C : String) (T : u_T) (N : Nat), ci ≠ 0 ∧ cl[ci - 1]? = some (C, T, N) ∧ nf ci = N ∧ k < N ∧ (∀ w ∈ u_ws C T N, w ∈ GW) ∧ Cond.fieldLink own i (T k).1 (T k).2.1 (T k).2.2.1 ∈ GW ∧ ft ci k = ty
def mPO (GW : List Cond) (cl : List vw_C) (nf : Nat → Nat) (ft : Nat → Nat → Nat) (own : String) (i ci k ty : Nat) : Prop := ∃ (C : String) (T : u_T) (N : Nat) (ty0 : Nat → FieldType), ci ≠ 0 ∧ cl[ci - 1]? = some (C, T, N) ∧ nf ci = N ∧ k < N ∧ (∀ w ∈ u_ws C T N, w ∈ GW) ∧ Cond.fieldLink own i (T k).1 (T k).2.1 (T k).2.2.1 ∈ GW ∧ ft ci k = ty ∧ (∀ k, k < N → parseFieldDescriptor (T k).2.2.1 = some (ty0 k)) ∧ (∀ a, a < N → ∀ b, b < N → a ≠ b → (T a).2.1 ≠ (T b).2.1) ∧ (T k).2.2.2 = false ∧ ty0 k = (if ty = 0 then .int else .long)
/-- a method: its class' name, bytes, places, what it gives, its name -/
abbrev mM : Type := (Nat → String) × (Nat → ByteArray) × (Nat → Nat) × (Nat → Option FieldType) × (Nat → MethodName)
/-- a call: virtual (0), static (1), static of a nest mate (2, with its host) -/
def mIO (GW NW : List Cond) (cl : List vw_C) (μ : mM) (own : String) (i kind : Nat) (D : List Nat) : Prop := ∃ y : MethodName, y = μ.2.2.2.2 (mNth D 0) ∧ mNth D 0 < 1000 ∧ μ.2.2.1 (mNth D 0) = mNth D 2 ∧ mNth D 2 ≤ 40 ∧ plainName y.cls = true ∧
  Cond.code y (μ.2.1 (mNth D 0)) (mNth D 2) (μ.2.2.2.1 (mNth D 0)) ∈ GW ∧ Cond.initialized y.cls ∈ GW ∧ (y.cls ≠ "java/lang/invoke/MethodHandle" ∧ y.cls ≠ "java/lang/invoke/VarHandle") ∧ μ.1 (mNth D 0) = y.cls ∧
  (mNth D 3 = 0 ∧ μ.2.2.2.1 (mNth D 0) = none ∨ mNth D 3 = 1 ∧ (μ.2.2.2.1 (mNth D 0) = some .int ∨ μ.2.2.2.1 (mNth D 0) = some .boolean) ∨ mNth D 3 = 2 ∧ μ.2.2.2.1 (mNth D 0) = some .long) ∧
  (match kind with
  | 0 => (parseMethodDescriptor y.desc).map (fun d => d.parameters.length) = some (mNth D 1 - 1) ∧ 0 < mNth D 1 ∧ mNth D 4 ≠ 0 ∧ Cond.methodLink own i y ∈ GW ∧ Cond.instanceMethod y ∈ GW ∧ Cond.selects y.cls y y ∈ GW ∧ (∃ T N, cl[mNth D 4 - 1]? = some (y.cls, T, N))
  | 1 => (parseMethodDescriptor y.desc).map (fun d => d.parameters.length) = some (mNth D 1) ∧ Cond.methodLink own i y ∈ GW ∧ Cond.static y ∈ GW
  | _ => (parseMethodDescriptor y.desc).map (fun d => d.parameters.length) = some (mNth D 1) ∧ (∃ host, Cond.methodLinkNest own i y host ∈ NW) ∧ Cond.static y ∈ GW)
/-- the library's own: max, min, abs of a long, arraycopy -/
def mLO (GW : List Cond) (own : String) (i : Nat) (D : List Nat) : Prop := ∃ k, mNth D 0 = 1000 + k ∧ (match k with
  | 0 => Cond.methodLink own i Lib.Math.max.name ∈ GW ∧ Cond.static Lib.Math.max.name ∈ GW ∧ Cond.initialized "java/lang/Math" ∈ GW ∧ Cond.code Lib.Math.max.name Lib.Math.max.code 2 (some .int) ∈ GW
  | 1 => Cond.methodLink own i Lib.Math.min.name ∈ GW ∧ Cond.static Lib.Math.min.name ∈ GW ∧ Cond.initialized "java/lang/Math" ∈ GW ∧ Cond.code Lib.Math.min.name Lib.Math.min.code 2 (some .int) ∈ GW
  | 2 => Cond.methodLink own i Lib.MathLoose.abs_long.x ∈ GW ∧ Cond.static Lib.MathLoose.abs_long.x ∈ GW ∧ Cond.initialized "java/lang/Math" ∈ GW ∧ Cond.code Lib.MathLoose.abs_long.x Lib.MathLoose.abs_long.code 2 (some .long) ∈ GW
  | 3 => Cond.methodLink own i arraycopyName ∈ GW ∧ Cond.native arraycopyName ∈ GW ∧ Cond.static arraycopyName ∈ GW ∧ Cond.initialized "java/lang/System" ∈ GW
  | _ => False)
/-- texts: which constant is which (SO own i k), a text's length and charAt (SL own i k) -/
def mOK (GW NW : List Cond) (cl : List vw_C) (nf : Nat → Nat) (ft : Nat → Nat → Nat) (μ : mM) (SO : String → Nat → Nat → Prop) (SL : String → Nat → Nat → Prop) (m pc : Nat) (e : mE) : Prop := match e with
  | (.iconst n, _, c) => decode (μ.2.1 m) pc = .ok (.iconst n, 1) ∧ c = .int (Int32.ofInt n)
  | (.lconst n, _, c) => decode (μ.2.1 m) pc = .ok (.lconst n, 1) ∧ c = .long (Int64.ofNat (n : Nat))
  | (.bipush n, _, c) => decode (μ.2.1 m) pc = .ok (.bipush n, 2) ∧ c = .int (Int8.ofInt n).toInt32
  | (.sipush n, _, c) => decode (μ.2.1 m) pc = .ok (.sipush n, 3) ∧ c = .int (Int16.ofInt n).toInt32
  | (.ldc i, _, c) => decode (μ.2.1 m) pc = .ok (.ldc i, 2) ∧ (match c with | .int x => Cond.constant (μ.1 m) i x ∈ GW | .ref k => SO (μ.1 m) i k | _ => False)
  | (.ldc_w i, _, c) => decode (μ.2.1 m) pc = .ok (.ldc_w i, 3) ∧ (match c with | .int x => Cond.constant (μ.1 m) i x ∈ GW | _ => False)
  | (.ldc2_w i, _, c) => decode (μ.2.1 m) pc = .ok (.ldc2_w i, 3) ∧ (match c with | .long x => Cond.constantLong (μ.1 m) i x ∈ GW | _ => False)
  | (.getstatic i, _, c) => decode (μ.2.1 m) pc = .ok (.getstatic i, 3) ∧ c = .ref 301 ∧ Cond.fieldLink (μ.1 m) i "EnemyLetters" "FACTORIALS" "[I" ∈ GW
  | (.iload_n n, D, _) => decode (μ.2.1 m) pc = .ok (.iload_n n, 1) ∧ mNth D 0 = (n : Nat)
  | (.iload n, D, _) => decode (μ.2.1 m) pc = .ok (.iload n, 2) ∧ mNth D 0 = n
  | (.lload_n n, D, _) => decode (μ.2.1 m) pc = .ok (.lload_n n, 1) ∧ mNth D 0 = (n : Nat)
  | (.lload n, D, _) => decode (μ.2.1 m) pc = .ok (.lload n, 2) ∧ mNth D 0 = n
  | (.aload_n n, D, _) => decode (μ.2.1 m) pc = .ok (.aload_n n, 1) ∧ mNth D 0 = (n : Nat)
  | (.aload n, D, _) => decode (μ.2.1 m) pc = .ok (.aload n, 2) ∧ mNth D 0 = n
  | (.istore_n n, D, _) => decode (μ.2.1 m) pc = .ok (.istore_n n, 1) ∧ mNth D 0 = (n : Nat) ∧ mNth D 0 < μ.2.2.1 m
  | (.istore n, D, _) => decode (μ.2.1 m) pc = .ok (.istore n, 2) ∧ mNth D 0 = n ∧ mNth D 0 < μ.2.2.1 m
  | (.lstore_n n, D, _) => decode (μ.2.1 m) pc = .ok (.lstore_n n, 1) ∧ mNth D 0 = (n : Nat) ∧ mNth D 0 + 1 < μ.2.2.1 m
  | (.lstore n, D, _) => decode (μ.2.1 m) pc = .ok (.lstore n, 2) ∧ mNth D 0 = n ∧ mNth D 0 + 1 < μ.2.2.1 m
  | (.astore_n n, D, _) => decode (μ.2.1 m) pc = .ok (.astore_n n, 1) ∧ mNth D 0 = (n : Nat) ∧ mNth D 0 < μ.2.2.1 m
  | (.astore n, D, _) => decode (μ.2.1 m) pc = .ok (.astore n, 2) ∧ mNth D 0 = n ∧ mNth D 0 < μ.2.2.1 m
  | (.iinc n x, D, c) => decode (μ.2.1 m) pc = .ok (.iinc n x, 3) ∧ mNth D 0 = n ∧ mNth D 0 < μ.2.2.1 m ∧ c = .int (Int32.ofInt x)
  | (.iadd, _, _) => decode (μ.2.1 m) pc = .ok (.iadd, 1)
  | (.isub, _, _) => decode (μ.2.1 m) pc = .ok (.isub, 1)
  | (.imul, _, _) => decode (μ.2.1 m) pc = .ok (.imul, 1)
  | (.iand, _, _) => decode (μ.2.1 m) pc = .ok (.iand, 1)
  | (.ior, _, _) => decode (μ.2.1 m) pc = .ok (.ior, 1)
  | (.ixor, _, _) => decode (μ.2.1 m) pc = .ok (.ixor, 1)
  | (.ishl, _, _) => decode (μ.2.1 m) pc = .ok (.ishl, 1)
  | (.ishr, _, _) => decode (μ.2.1 m) pc = .ok (.ishr, 1)
  | (.iushr, _, _) => decode (μ.2.1 m) pc = .ok (.iushr, 1)
  | (.idiv, _, _) => decode (μ.2.1 m) pc = .ok (.idiv, 1)
  | (.irem, _, _) => decode (μ.2.1 m) pc = .ok (.irem, 1)
  | (.ineg, _, _) => decode (μ.2.1 m) pc = .ok (.ineg, 1)
  | (.ladd, _, _) => decode (μ.2.1 m) pc = .ok (.ladd, 1)
  | (.lsub, _, _) => decode (μ.2.1 m) pc = .ok (.lsub, 1)
  | (.lmul, _, _) => decode (μ.2.1 m) pc = .ok (.lmul, 1)
  | (.land, _, _) => decode (μ.2.1 m) pc = .ok (.land, 1)
  | (.lor, _, _) => decode (μ.2.1 m) pc = .ok (.lor, 1)
  | (.ldiv, _, _) => decode (μ.2.1 m) pc = .ok (.ldiv, 1)
  | (.lrem, _, _) => decode (μ.2.1 m) pc = .ok (.lrem, 1)
  | (.lshl, _, _) => decode (μ.2.1 m) pc = .ok (.lshl, 1)
  | (.lshr, _, _) => decode (μ.2.1 m) pc = .ok (.lshr, 1)
  | (.lcmp, _, _) => decode (μ.2.1 m) pc = .ok (.lcmp, 1)
  | (.i2l, _, _) => decode (μ.2.1 m) pc = .ok (.i2l, 1)
  | (.l2i, _, _) => decode (μ.2.1 m) pc = .ok (.l2i, 1)
  | (.i2b, _, _) => decode (μ.2.1 m) pc = .ok (.i2b, 1)
  | (.dup, _, _) => decode (μ.2.1 m) pc = .ok (.dup, 1)
  | (.dup2, _, _) => decode (μ.2.1 m) pc = .ok (.dup2, 1)
  | (.pop, _, _) => decode (μ.2.1 m) pc = .ok (.pop, 1)
  | (.iaload, _, _) => decode (μ.2.1 m) pc = .ok (.iaload, 1)
  | (.baload, _, _) => decode (μ.2.1 m) pc = .ok (.baload, 1)
  | (.laload, _, _) => decode (μ.2.1 m) pc = .ok (.laload, 1)
  | (.aaload, _, _) => decode (μ.2.1 m) pc = .ok (.aaload, 1)
  | (.iastore, _, _) => decode (μ.2.1 m) pc = .ok (.iastore, 1)
  | (.bastore, _, _) => decode (μ.2.1 m) pc = .ok (.bastore, 1)
  | (.lastore, _, _) => decode (μ.2.1 m) pc = .ok (.lastore, 1)
  | (.arraylength, _, _) => decode (μ.2.1 m) pc = .ok (.arraylength, 1)
  | (.ireturn, D, _) => decode (μ.2.1 m) pc = .ok (.ireturn, 1) ∧ (mNth D 0 = 0 ∧ μ.2.2.2.1 m = some .int ∨ mNth D 0 ≠ 0 ∧ μ.2.2.2.1 m = some .boolean)
  | (.lreturn, _, _) => decode (μ.2.1 m) pc = .ok (.lreturn, 1) ∧ μ.2.2.2.1 m = some .long
  | (.return_, _, _) => decode (μ.2.1 m) pc = .ok (.return_, 1) ∧ μ.2.2.2.1 m = none
  | (.if_icmp cd off, D, _) => decode (μ.2.1 m) pc = .ok (.if_icmp cd off, 3) ∧ (pc : Int) + off = (mNth D 0 : Int)
  | (.ifCond cd off, D, _) => decode (μ.2.1 m) pc = .ok (.ifCond cd off, 3) ∧ (pc : Int) + off = (mNth D 0 : Int)
  | (.goto off, D, _) => decode (μ.2.1 m) pc = .ok (.goto off, 3) ∧ (pc : Int) + off = (mNth D 0 : Int)
  | (.tableswitch df lo hi offs, D, _) => (∃ len, decode (μ.2.1 m) pc = .ok (.tableswitch df lo hi offs, len)) ∧ (pc : Int) + df = (mNth D 0 : Int) ∧ hi - lo < offs.size ∧ ∀ j, j < offs.size → ∃ off, offs[j]? = some off ∧ (pc : Int) + off = (mNth D (j + 1) : Int)
  | (.getfield i, D, _) => decode (μ.2.1 m) pc = .ok (.getfield i, 3) ∧ mFO GW cl nf ft (μ.1 m) i (mNth D 0) (mNth D 1) (mNth D 2)
  | (.putfield i, D, _) => decode (μ.2.1 m) pc = .ok (.putfield i, 3) ∧ mPO GW cl nf ft (μ.1 m) i (mNth D 0) (mNth D 1) (mNth D 2)
  | (.invokevirtual i, D, _) => decode (μ.2.1 m) pc = .ok (.invokevirtual i, 3) ∧ (mIO GW NW cl μ (μ.1 m) i 0 D ∨ SL (μ.1 m) i (mNth D 0))
  | (.invokestatic i, D, _) => decode (μ.2.1 m) pc = .ok (.invokestatic i, 3) ∧ (mIO GW NW cl μ (μ.1 m) i 1 D ∨ mIO GW NW cl μ (μ.1 m) i 2 D ∨ mLO GW (μ.1 m) i D)
  | _ => False
