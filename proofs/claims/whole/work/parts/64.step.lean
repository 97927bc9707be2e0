/-! ===== one step ===== -/
theorem mIn_vp {j : Int32} {n : Nat} (h : mIn j n = true) : vp_in j n := by
  unfold mIn at h
  simp only [Bool.and_eq_true, Bool.not_eq_true', decide_eq_false_iff_not, Nat.blt_eq] at h
  rintro (q | q)
  · exact h.1 q
  · omega
def mCx (v : mV) (f : mFF) (GW : List Cond) (μ : mM) (d m : Nat) : Prop :=
  (fP f).tables.exec = Jvm.exec ∧ (fC f).code = μ.2.1 m ∧ (fC f).maxLocals = μ.2.2.1 m ∧ (fSS f).vm.findClass (μ.1 m) = some (fM f).cls ∧ (∀ w ∈ GW, w.before (fA f) (fSS f) = true) ∧ va_K (vD v) (vCl v) (mTy (vCa v)) (fSS f) ∧ d + 8 ≤ (fR f).frames ∧ 60 * d + 500 ≤ (fR f).locals ∧ fN f ≤ (fR f).cells ∧ fO f ≤ (fR f).slots
def mRm (d : Nat) : Room := { frames := d + 8, cells := 0, slots := 0, locals := 60 * d + 500 }
def mBp (v : mV) (Zs : (Nat → Prop) → State → Heap → Prop) (τ : mS) (U : State) : Prop := va_P (vD v) (vCl v) (vW v τ) U.heap ∧ va_K (vD v) (vCl v) (mTy (vCa v)) U ∧ mZt v Zs τ U U.heap
def mQc (v : mV) (q : Value × mS) : Array Value → State → Outcome → State → Prop := match q.1 with
  | .int x => va_Qi (S := Unit) (fun r _ => r = x) (fun _ t => va_P (vD v) (vCl v) (vW v q.2) t.heap) (vA v)
  | .long x => va_Ql (S := Unit) (fun r _ => r = x) (fun _ t => va_P (vD v) (vCl v) (vW v q.2) t.heap) (vA v)
  | .null => va_Qv (S := Unit) (fun _ => True) (fun _ t => va_P (vD v) (vCl v) (vW v q.2) t.heap) (vA v)
  | _ => fun _ _ _ _ => False
def mMt (v : mV) (l : Launch) (GW : List Cond) (μ : mM) (Zs : (Nat → Prop) → State → Heap → Prop) (d m : Nat) (a : List Value) (τ : mS) (q : Value × mS) : Prop :=
  Met l (μ.2.2.2.2 m) (Cond.code (μ.2.2.2.2 m) (μ.2.1 m) (μ.2.2.1 m) (μ.2.2.2.1 m) :: GW) (mRm d) (va_Pc (a.map (rv (vAdr v))) (mBp v Zs τ)) (mQc v q) 0 0 (vA v)
theorem mNone {r : Value × mS} {P : Prop} (h : (none : mR) = some r) : P := by cases h
section MS
variable {v : mV} {f : mFF} {GW NW : List Cond} {μ : mM} {d m pc : Nat} {L st : List Value} {σ : mS} {r : Value × mS} {call : Nat → List Value → mS → mR} {K : mK}

set_option maxHeartbeats 4000000 in
set_option maxRecDepth 100000 in
theorem s_iadd {D : List Nat} {c : Value} (hx : (fP f).tables.exec = Jvm.exec) (hb : (fC f).code = μ.2.1 m) (hL : L.length = μ.2.2.1 m) (hK : ∀ pc' L' st' τ, K pc' L' st' τ = some r → L'.length = μ.2.2.1 m → mKeep σ τ → mNx v f pc' L' st' τ) (hd : decode (μ.2.1 m) pc = .ok (.iadd, 1)) (h : mOut call K (mStep (vTT v) pc .iadd D c L st σ) = some r) : mNx v f pc L st σ := by
  simp only [mStep] at h
  split at h
  · exact fun H locs ls h1 h2 h3 => lv_iadd hx hb hd (hK _ _ _ _ h hL (mKeep.rf σ) H locs ls h1 h2 h3)
  · exact mNone h
set_option maxHeartbeats 4000000 in
set_option maxRecDepth 100000 in
theorem s_isub {D : List Nat} {c : Value} (hx : (fP f).tables.exec = Jvm.exec) (hb : (fC f).code = μ.2.1 m) (hL : L.length = μ.2.2.1 m) (hK : ∀ pc' L' st' τ, K pc' L' st' τ = some r → L'.length = μ.2.2.1 m → mKeep σ τ → mNx v f pc' L' st' τ) (hd : decode (μ.2.1 m) pc = .ok (.isub, 1)) (h : mOut call K (mStep (vTT v) pc .isub D c L st σ) = some r) : mNx v f pc L st σ := by
  simp only [mStep] at h
  split at h
  · exact fun H locs ls h1 h2 h3 => lv_isub hx hb hd (hK _ _ _ _ h hL (mKeep.rf σ) H locs ls h1 h2 h3)
  · exact mNone h
set_option maxHeartbeats 4000000 in
set_option maxRecDepth 100000 in
theorem s_imul {D : List Nat} {c : Value} (hx : (fP f).tables.exec = Jvm.exec) (hb : (fC f).code = μ.2.1 m) (hL : L.length = μ.2.2.1 m) (hK : ∀ pc' L' st' τ, K pc' L' st' τ = some r → L'.length = μ.2.2.1 m → mKeep σ τ → mNx v f pc' L' st' τ) (hd : decode (μ.2.1 m) pc = .ok (.imul, 1)) (h : mOut call K (mStep (vTT v) pc .imul D c L st σ) = some r) : mNx v f pc L st σ := by
  simp only [mStep] at h
  split at h
  · exact fun H locs ls h1 h2 h3 => lv_imul hx hb hd (hK _ _ _ _ h hL (mKeep.rf σ) H locs ls h1 h2 h3)
  · exact mNone h
set_option maxHeartbeats 4000000 in
set_option maxRecDepth 100000 in
theorem s_iand {D : List Nat} {c : Value} (hx : (fP f).tables.exec = Jvm.exec) (hb : (fC f).code = μ.2.1 m) (hL : L.length = μ.2.2.1 m) (hK : ∀ pc' L' st' τ, K pc' L' st' τ = some r → L'.length = μ.2.2.1 m → mKeep σ τ → mNx v f pc' L' st' τ) (hd : decode (μ.2.1 m) pc = .ok (.iand, 1)) (h : mOut call K (mStep (vTT v) pc .iand D c L st σ) = some r) : mNx v f pc L st σ := by
  simp only [mStep] at h
  split at h
  · exact fun H locs ls h1 h2 h3 => lv_iand hx hb hd (hK _ _ _ _ h hL (mKeep.rf σ) H locs ls h1 h2 h3)
  · exact mNone h
set_option maxHeartbeats 4000000 in
set_option maxRecDepth 100000 in
theorem s_ior {D : List Nat} {c : Value} (hx : (fP f).tables.exec = Jvm.exec) (hb : (fC f).code = μ.2.1 m) (hL : L.length = μ.2.2.1 m) (hK : ∀ pc' L' st' τ, K pc' L' st' τ = some r → L'.length = μ.2.2.1 m → mKeep σ τ → mNx v f pc' L' st' τ) (hd : decode (μ.2.1 m) pc = .ok (.ior, 1)) (h : mOut call K (mStep (vTT v) pc .ior D c L st σ) = some r) : mNx v f pc L st σ := by
  simp only [mStep] at h
  split at h
  · exact fun H locs ls h1 h2 h3 => lv_ior hx hb hd (hK _ _ _ _ h hL (mKeep.rf σ) H locs ls h1 h2 h3)
  · exact mNone h
set_option maxHeartbeats 4000000 in
set_option maxRecDepth 100000 in
theorem s_ixor {D : List Nat} {c : Value} (hx : (fP f).tables.exec = Jvm.exec) (hb : (fC f).code = μ.2.1 m) (hL : L.length = μ.2.2.1 m) (hK : ∀ pc' L' st' τ, K pc' L' st' τ = some r → L'.length = μ.2.2.1 m → mKeep σ τ → mNx v f pc' L' st' τ) (hd : decode (μ.2.1 m) pc = .ok (.ixor, 1)) (h : mOut call K (mStep (vTT v) pc .ixor D c L st σ) = some r) : mNx v f pc L st σ := by
  simp only [mStep] at h
  split at h
  · exact fun H locs ls h1 h2 h3 => lv_ixor hx hb hd (hK _ _ _ _ h hL (mKeep.rf σ) H locs ls h1 h2 h3)
  · exact mNone h
set_option maxHeartbeats 4000000 in
set_option maxRecDepth 100000 in
theorem s_ishl {D : List Nat} {c : Value} (hx : (fP f).tables.exec = Jvm.exec) (hb : (fC f).code = μ.2.1 m) (hL : L.length = μ.2.2.1 m) (hK : ∀ pc' L' st' τ, K pc' L' st' τ = some r → L'.length = μ.2.2.1 m → mKeep σ τ → mNx v f pc' L' st' τ) (hd : decode (μ.2.1 m) pc = .ok (.ishl, 1)) (h : mOut call K (mStep (vTT v) pc .ishl D c L st σ) = some r) : mNx v f pc L st σ := by
  simp only [mStep] at h
  split at h
  · exact fun H locs ls h1 h2 h3 => lv_ishl hx hb hd (hK _ _ _ _ h hL (mKeep.rf σ) H locs ls h1 h2 h3)
  · exact mNone h
set_option maxHeartbeats 4000000 in
set_option maxRecDepth 100000 in
theorem s_ishr {D : List Nat} {c : Value} (hx : (fP f).tables.exec = Jvm.exec) (hb : (fC f).code = μ.2.1 m) (hL : L.length = μ.2.2.1 m) (hK : ∀ pc' L' st' τ, K pc' L' st' τ = some r → L'.length = μ.2.2.1 m → mKeep σ τ → mNx v f pc' L' st' τ) (hd : decode (μ.2.1 m) pc = .ok (.ishr, 1)) (h : mOut call K (mStep (vTT v) pc .ishr D c L st σ) = some r) : mNx v f pc L st σ := by
  simp only [mStep] at h
  split at h
  · exact fun H locs ls h1 h2 h3 => lv_ishr hx hb hd (hK _ _ _ _ h hL (mKeep.rf σ) H locs ls h1 h2 h3)
  · exact mNone h
set_option maxHeartbeats 4000000 in
set_option maxRecDepth 100000 in
theorem s_iushr {D : List Nat} {c : Value} (hx : (fP f).tables.exec = Jvm.exec) (hb : (fC f).code = μ.2.1 m) (hL : L.length = μ.2.2.1 m) (hK : ∀ pc' L' st' τ, K pc' L' st' τ = some r → L'.length = μ.2.2.1 m → mKeep σ τ → mNx v f pc' L' st' τ) (hd : decode (μ.2.1 m) pc = .ok (.iushr, 1)) (h : mOut call K (mStep (vTT v) pc .iushr D c L st σ) = some r) : mNx v f pc L st σ := by
  simp only [mStep] at h
  split at h
  · exact fun H locs ls h1 h2 h3 => lv_iushr hx hb hd rfl (hK _ _ _ _ h hL (mKeep.rf σ) H locs ls h1 h2 h3)
  · exact mNone h
set_option maxHeartbeats 4000000 in
set_option maxRecDepth 100000 in
theorem s_ladd {D : List Nat} {c : Value} (hx : (fP f).tables.exec = Jvm.exec) (hb : (fC f).code = μ.2.1 m) (hL : L.length = μ.2.2.1 m) (hK : ∀ pc' L' st' τ, K pc' L' st' τ = some r → L'.length = μ.2.2.1 m → mKeep σ τ → mNx v f pc' L' st' τ) (hd : decode (μ.2.1 m) pc = .ok (.ladd, 1)) (h : mOut call K (mStep (vTT v) pc .ladd D c L st σ) = some r) : mNx v f pc L st σ := by
  simp only [mStep] at h
  split at h
  · exact fun H locs ls h1 h2 h3 => lv_ladd hx hb hd (hK _ _ _ _ h hL (mKeep.rf σ) H locs ls h1 h2 h3)
  · exact mNone h
set_option maxHeartbeats 4000000 in
set_option maxRecDepth 100000 in
theorem s_lsub {D : List Nat} {c : Value} (hx : (fP f).tables.exec = Jvm.exec) (hb : (fC f).code = μ.2.1 m) (hL : L.length = μ.2.2.1 m) (hK : ∀ pc' L' st' τ, K pc' L' st' τ = some r → L'.length = μ.2.2.1 m → mKeep σ τ → mNx v f pc' L' st' τ) (hd : decode (μ.2.1 m) pc = .ok (.lsub, 1)) (h : mOut call K (mStep (vTT v) pc .lsub D c L st σ) = some r) : mNx v f pc L st σ := by
  simp only [mStep] at h
  split at h
  · exact fun H locs ls h1 h2 h3 => lv_lsub hx hb hd (hK _ _ _ _ h hL (mKeep.rf σ) H locs ls h1 h2 h3)
  · exact mNone h
set_option maxHeartbeats 4000000 in
set_option maxRecDepth 100000 in
theorem s_lmul {D : List Nat} {c : Value} (hx : (fP f).tables.exec = Jvm.exec) (hb : (fC f).code = μ.2.1 m) (hL : L.length = μ.2.2.1 m) (hK : ∀ pc' L' st' τ, K pc' L' st' τ = some r → L'.length = μ.2.2.1 m → mKeep σ τ → mNx v f pc' L' st' τ) (hd : decode (μ.2.1 m) pc = .ok (.lmul, 1)) (h : mOut call K (mStep (vTT v) pc .lmul D c L st σ) = some r) : mNx v f pc L st σ := by
  simp only [mStep] at h
  split at h
  · exact fun H locs ls h1 h2 h3 => lv_lmul hx hb hd (hK _ _ _ _ h hL (mKeep.rf σ) H locs ls h1 h2 h3)
  · exact mNone h
set_option maxHeartbeats 4000000 in
set_option maxRecDepth 100000 in
theorem s_land {D : List Nat} {c : Value} (hx : (fP f).tables.exec = Jvm.exec) (hb : (fC f).code = μ.2.1 m) (hL : L.length = μ.2.2.1 m) (hK : ∀ pc' L' st' τ, K pc' L' st' τ = some r → L'.length = μ.2.2.1 m → mKeep σ τ → mNx v f pc' L' st' τ) (hd : decode (μ.2.1 m) pc = .ok (.land, 1)) (h : mOut call K (mStep (vTT v) pc .land D c L st σ) = some r) : mNx v f pc L st σ := by
  simp only [mStep] at h
  split at h
  · exact fun H locs ls h1 h2 h3 => lv_land hx hb hd (hK _ _ _ _ h hL (mKeep.rf σ) H locs ls h1 h2 h3)
  · exact mNone h
set_option maxHeartbeats 4000000 in
set_option maxRecDepth 100000 in
theorem s_lor {D : List Nat} {c : Value} (hx : (fP f).tables.exec = Jvm.exec) (hb : (fC f).code = μ.2.1 m) (hL : L.length = μ.2.2.1 m) (hK : ∀ pc' L' st' τ, K pc' L' st' τ = some r → L'.length = μ.2.2.1 m → mKeep σ τ → mNx v f pc' L' st' τ) (hd : decode (μ.2.1 m) pc = .ok (.lor, 1)) (h : mOut call K (mStep (vTT v) pc .lor D c L st σ) = some r) : mNx v f pc L st σ := by
  simp only [mStep] at h
  split at h
  · exact fun H locs ls h1 h2 h3 => lv_lor hx hb hd (hK _ _ _ _ h hL (mKeep.rf σ) H locs ls h1 h2 h3)
  · exact mNone h
set_option maxHeartbeats 4000000 in
set_option maxRecDepth 100000 in
theorem s_lshl {D : List Nat} {c : Value} (hx : (fP f).tables.exec = Jvm.exec) (hb : (fC f).code = μ.2.1 m) (hL : L.length = μ.2.2.1 m) (hK : ∀ pc' L' st' τ, K pc' L' st' τ = some r → L'.length = μ.2.2.1 m → mKeep σ τ → mNx v f pc' L' st' τ) (hd : decode (μ.2.1 m) pc = .ok (.lshl, 1)) (h : mOut call K (mStep (vTT v) pc .lshl D c L st σ) = some r) : mNx v f pc L st σ := by
  simp only [mStep] at h
  split at h
  · exact fun H locs ls h1 h2 h3 => lv_lshl hx hb hd rfl (hK _ _ _ _ h hL (mKeep.rf σ) H locs ls h1 h2 h3)
  · exact mNone h
set_option maxHeartbeats 4000000 in
set_option maxRecDepth 100000 in
theorem s_lshr {D : List Nat} {c : Value} (hx : (fP f).tables.exec = Jvm.exec) (hb : (fC f).code = μ.2.1 m) (hL : L.length = μ.2.2.1 m) (hK : ∀ pc' L' st' τ, K pc' L' st' τ = some r → L'.length = μ.2.2.1 m → mKeep σ τ → mNx v f pc' L' st' τ) (hd : decode (μ.2.1 m) pc = .ok (.lshr, 1)) (h : mOut call K (mStep (vTT v) pc .lshr D c L st σ) = some r) : mNx v f pc L st σ := by
  simp only [mStep] at h
  split at h
  · exact fun H locs ls h1 h2 h3 => lv_lshr hx hb hd rfl (hK _ _ _ _ h hL (mKeep.rf σ) H locs ls h1 h2 h3)
  · exact mNone h
set_option maxHeartbeats 4000000 in
set_option maxRecDepth 100000 in
theorem s_lcmp {D : List Nat} {c : Value} (hx : (fP f).tables.exec = Jvm.exec) (hb : (fC f).code = μ.2.1 m) (hL : L.length = μ.2.2.1 m) (hK : ∀ pc' L' st' τ, K pc' L' st' τ = some r → L'.length = μ.2.2.1 m → mKeep σ τ → mNx v f pc' L' st' τ) (hd : decode (μ.2.1 m) pc = .ok (.lcmp, 1)) (h : mOut call K (mStep (vTT v) pc .lcmp D c L st σ) = some r) : mNx v f pc L st σ := by
  simp only [mStep] at h
  split at h
  · exact fun H locs ls h1 h2 h3 => W.lcmp hx hb hd (hK _ _ _ _ h hL (mKeep.rf σ) H locs ls h1 h2 h3)
  · exact mNone h
set_option maxHeartbeats 4000000 in
set_option maxRecDepth 100000 in
theorem s_i2l {D : List Nat} {c : Value} (hx : (fP f).tables.exec = Jvm.exec) (hb : (fC f).code = μ.2.1 m) (hL : L.length = μ.2.2.1 m) (hK : ∀ pc' L' st' τ, K pc' L' st' τ = some r → L'.length = μ.2.2.1 m → mKeep σ τ → mNx v f pc' L' st' τ) (hd : decode (μ.2.1 m) pc = .ok (.i2l, 1)) (h : mOut call K (mStep (vTT v) pc .i2l D c L st σ) = some r) : mNx v f pc L st σ := by
  simp only [mStep] at h
  split at h
  · exact fun H locs ls h1 h2 h3 => lv_i2l hx hb hd rfl (hK _ _ _ _ h hL (mKeep.rf σ) H locs ls h1 h2 h3)
  · exact mNone h
set_option maxHeartbeats 4000000 in
set_option maxRecDepth 100000 in
theorem s_l2i {D : List Nat} {c : Value} (hx : (fP f).tables.exec = Jvm.exec) (hb : (fC f).code = μ.2.1 m) (hL : L.length = μ.2.2.1 m) (hK : ∀ pc' L' st' τ, K pc' L' st' τ = some r → L'.length = μ.2.2.1 m → mKeep σ τ → mNx v f pc' L' st' τ) (hd : decode (μ.2.1 m) pc = .ok (.l2i, 1)) (h : mOut call K (mStep (vTT v) pc .l2i D c L st σ) = some r) : mNx v f pc L st σ := by
  simp only [mStep] at h
  split at h
  · exact fun H locs ls h1 h2 h3 => lv_l2i hx hb hd rfl (hK _ _ _ _ h hL (mKeep.rf σ) H locs ls h1 h2 h3)
  · exact mNone h
set_option maxHeartbeats 4000000 in
set_option maxRecDepth 100000 in
theorem s_i2b {D : List Nat} {c : Value} (hx : (fP f).tables.exec = Jvm.exec) (hb : (fC f).code = μ.2.1 m) (hL : L.length = μ.2.2.1 m) (hK : ∀ pc' L' st' τ, K pc' L' st' τ = some r → L'.length = μ.2.2.1 m → mKeep σ τ → mNx v f pc' L' st' τ) (hd : decode (μ.2.1 m) pc = .ok (.i2b, 1)) (h : mOut call K (mStep (vTT v) pc .i2b D c L st σ) = some r) : mNx v f pc L st σ := by
  simp only [mStep] at h
  split at h
  · exact fun H locs ls h1 h2 h3 => lv_i2b hx hb hd rfl (hK _ _ _ _ h hL (mKeep.rf σ) H locs ls h1 h2 h3)
  · exact mNone h
set_option maxHeartbeats 4000000 in
set_option maxRecDepth 100000 in
theorem s_ineg {D : List Nat} {c : Value} (hx : (fP f).tables.exec = Jvm.exec) (hb : (fC f).code = μ.2.1 m) (hL : L.length = μ.2.2.1 m) (hK : ∀ pc' L' st' τ, K pc' L' st' τ = some r → L'.length = μ.2.2.1 m → mKeep σ τ → mNx v f pc' L' st' τ) (hd : decode (μ.2.1 m) pc = .ok (.ineg, 1)) (h : mOut call K (mStep (vTT v) pc .ineg D c L st σ) = some r) : mNx v f pc L st σ := by
  simp only [mStep] at h
  split at h
  · exact fun H locs ls h1 h2 h3 => lv_ineg hx hb hd (hK _ _ _ _ h hL (mKeep.rf σ) H locs ls h1 h2 h3)
  · exact mNone h
set_option maxHeartbeats 4000000 in
set_option maxRecDepth 100000 in
theorem s_idiv {D : List Nat} {c : Value} (hx : (fP f).tables.exec = Jvm.exec) (hb : (fC f).code = μ.2.1 m) (hL : L.length = μ.2.2.1 m) (hK : ∀ pc' L' st' τ, K pc' L' st' τ = some r → L'.length = μ.2.2.1 m → mKeep σ τ → mNx v f pc' L' st' τ) (hd : decode (μ.2.1 m) pc = .ok (.idiv, 1)) (h : mOut call K (mStep (vTT v) pc .idiv D c L st σ) = some r) : mNx v f pc L st σ := by
  simp only [mStep] at h
  split at h
  · rename_i y x r'
    by_cases hy : y = 0
    · rw [show (!(decide (y = 0))) = false by simp [hy]] at h
      exact mNone h
    · rw [show (!(decide (y = 0))) = true by simp [hy]] at h
      exact fun H locs ls h1 h2 h3 => lv_idiv hx hb hd hy (hK _ _ _ _ h hL (mKeep.rf σ) H locs ls h1 h2 h3)
  · exact mNone h
set_option maxHeartbeats 4000000 in
set_option maxRecDepth 100000 in
theorem s_irem {D : List Nat} {c : Value} (hx : (fP f).tables.exec = Jvm.exec) (hb : (fC f).code = μ.2.1 m) (hL : L.length = μ.2.2.1 m) (hK : ∀ pc' L' st' τ, K pc' L' st' τ = some r → L'.length = μ.2.2.1 m → mKeep σ τ → mNx v f pc' L' st' τ) (hd : decode (μ.2.1 m) pc = .ok (.irem, 1)) (h : mOut call K (mStep (vTT v) pc .irem D c L st σ) = some r) : mNx v f pc L st σ := by
  simp only [mStep] at h
  split at h
  · rename_i y x r'
    by_cases hy : y = 0
    · rw [show (!(decide (y = 0))) = false by simp [hy]] at h
      exact mNone h
    · rw [show (!(decide (y = 0))) = true by simp [hy]] at h
      exact fun H locs ls h1 h2 h3 => lv_irem hx hb hd hy (hK _ _ _ _ h hL (mKeep.rf σ) H locs ls h1 h2 h3)
  · exact mNone h
set_option maxHeartbeats 4000000 in
set_option maxRecDepth 100000 in
theorem s_ldiv {D : List Nat} {c : Value} (hx : (fP f).tables.exec = Jvm.exec) (hb : (fC f).code = μ.2.1 m) (hL : L.length = μ.2.2.1 m) (hK : ∀ pc' L' st' τ, K pc' L' st' τ = some r → L'.length = μ.2.2.1 m → mKeep σ τ → mNx v f pc' L' st' τ) (hd : decode (μ.2.1 m) pc = .ok (.ldiv, 1)) (h : mOut call K (mStep (vTT v) pc .ldiv D c L st σ) = some r) : mNx v f pc L st σ := by
  simp only [mStep] at h
  split at h
  · rename_i y x r'
    by_cases hy : y = 0
    · rw [show (!(decide (y = 0))) = false by simp [hy]] at h
      exact mNone h
    · rw [show (!(decide (y = 0))) = true by simp [hy]] at h
      exact fun H locs ls h1 h2 h3 => lv_ldiv hx hb hd hy (hK _ _ _ _ h hL (mKeep.rf σ) H locs ls h1 h2 h3)
  · exact mNone h
set_option maxHeartbeats 4000000 in
set_option maxRecDepth 100000 in
theorem s_lrem {D : List Nat} {c : Value} (hx : (fP f).tables.exec = Jvm.exec) (hb : (fC f).code = μ.2.1 m) (hL : L.length = μ.2.2.1 m) (hK : ∀ pc' L' st' τ, K pc' L' st' τ = some r → L'.length = μ.2.2.1 m → mKeep σ τ → mNx v f pc' L' st' τ) (hd : decode (μ.2.1 m) pc = .ok (.lrem, 1)) (h : mOut call K (mStep (vTT v) pc .lrem D c L st σ) = some r) : mNx v f pc L st σ := by
  simp only [mStep] at h
  split at h
  · rename_i y x r'
    by_cases hy : y = 0
    · rw [show (!(decide (y = 0))) = false by simp [hy]] at h
      exact mNone h
    · rw [show (!(decide (y = 0))) = true by simp [hy]] at h
      exact fun H locs ls h1 h2 h3 => lv_lrem hx hb hd hy (hK _ _ _ _ h hL (mKeep.rf σ) H locs ls h1 h2 h3)
  · exact mNone h
set_option maxHeartbeats 4000000 in
set_option maxRecDepth 100000 in
theorem s_dup {D : List Nat} {c : Value} (hx : (fP f).tables.exec = Jvm.exec) (hb : (fC f).code = μ.2.1 m) (hL : L.length = μ.2.2.1 m) (hK : ∀ pc' L' st' τ, K pc' L' st' τ = some r → L'.length = μ.2.2.1 m → mKeep σ τ → mNx v f pc' L' st' τ) (hd : decode (μ.2.1 m) pc = .ok (.dup, 1)) (h : mOut call K (mStep (vTT v) pc .dup D c L st σ) = some r) : mNx v f pc L st σ := by
  simp only [mStep] at h
  split at h
  · exact fun H locs ls h1 h2 h3 => lv_dup hx hb hd rfl (hK _ _ _ _ h hL (mKeep.rf σ) H locs ls h1 h2 h3)
  · exact fun H locs ls h1 h2 h3 => lv_dup hx hb hd rfl (hK _ _ _ _ h hL (mKeep.rf σ) H locs ls h1 h2 h3)
  · exact mNone h
set_option maxHeartbeats 4000000 in
set_option maxRecDepth 100000 in
theorem s_dup2 {D : List Nat} {c : Value} (hx : (fP f).tables.exec = Jvm.exec) (hb : (fC f).code = μ.2.1 m) (hL : L.length = μ.2.2.1 m) (hK : ∀ pc' L' st' τ, K pc' L' st' τ = some r → L'.length = μ.2.2.1 m → mKeep σ τ → mNx v f pc' L' st' τ) (hd : decode (μ.2.1 m) pc = .ok (.dup2, 1)) (h : mOut call K (mStep (vTT v) pc .dup2 D c L st σ) = some r) : mNx v f pc L st σ := by
  simp only [mStep] at h
  split at h
  · exact fun H locs ls h1 h2 h3 => lv_dup2_11 hx hb hd rfl rfl (hK _ _ _ _ h hL (mKeep.rf σ) H locs ls h1 h2 h3)
  · exact mNone h
set_option maxHeartbeats 4000000 in
set_option maxRecDepth 100000 in
theorem s_pop {D : List Nat} {c : Value} (hx : (fP f).tables.exec = Jvm.exec) (hb : (fC f).code = μ.2.1 m) (hL : L.length = μ.2.2.1 m) (hK : ∀ pc' L' st' τ, K pc' L' st' τ = some r → L'.length = μ.2.2.1 m → mKeep σ τ → mNx v f pc' L' st' τ) (hd : decode (μ.2.1 m) pc = .ok (.pop, 1)) (h : mOut call K (mStep (vTT v) pc .pop D c L st σ) = some r) : mNx v f pc L st σ := by
  simp only [mStep] at h
  split at h
  · exact fun H locs ls h1 h2 h3 => lv_pop hx hb hd rfl (hK _ _ _ _ h hL (mKeep.rf σ) H locs ls h1 h2 h3)
  · exact mNone h
set_option maxHeartbeats 4000000 in
set_option maxRecDepth 100000 in
theorem s_iload_n {D : List Nat} {c : Value} {n : Fin 4} (hx : (fP f).tables.exec = Jvm.exec) (hb : (fC f).code = μ.2.1 m) (hL : L.length = μ.2.2.1 m) (hK : ∀ pc' L' st' τ, K pc' L' st' τ = some r → L'.length = μ.2.2.1 m → mKeep σ τ → mNx v f pc' L' st' τ) (hd : decode (μ.2.1 m) pc = .ok (.iload_n n, 1) ∧ mNth D 0 = (n : Nat)) (h : mOut call K (mStep (vTT v) pc (.iload_n n) D c L st σ) = some r) : mNx v f pc L st σ := by
  simp only [mStep] at h
  split at h
  · rename_i x hg
    exact fun H locs ls h1 h2 h3 => lv_iload_n hx hb hd.1 hd.2.symm (mLr_at h1 hg (by intro q; cases q)) (hK _ _ _ _ h hL (mKeep.rf σ) H locs ls h1 h2 h3)
  · exact mNone h
set_option maxHeartbeats 4000000 in
set_option maxRecDepth 100000 in
theorem s_iload {D : List Nat} {c : Value} {n : Nat} (hx : (fP f).tables.exec = Jvm.exec) (hb : (fC f).code = μ.2.1 m) (hL : L.length = μ.2.2.1 m) (hK : ∀ pc' L' st' τ, K pc' L' st' τ = some r → L'.length = μ.2.2.1 m → mKeep σ τ → mNx v f pc' L' st' τ) (hd : decode (μ.2.1 m) pc = .ok (.iload n, 2) ∧ mNth D 0 = n) (h : mOut call K (mStep (vTT v) pc (.iload n) D c L st σ) = some r) : mNx v f pc L st σ := by
  simp only [mStep] at h
  split at h
  · rename_i x hg
    exact fun H locs ls h1 h2 h3 => lv_iload hx hb hd.1 (by have q := mLr_at h1 hg (by intro q; cases q); rw [hd.2] at q; exact q) (hK _ _ _ _ h hL (mKeep.rf σ) H locs ls h1 h2 h3)
  · exact mNone h
set_option maxHeartbeats 4000000 in
set_option maxRecDepth 100000 in
theorem s_lload_n {D : List Nat} {c : Value} {n : Fin 4} (hx : (fP f).tables.exec = Jvm.exec) (hb : (fC f).code = μ.2.1 m) (hL : L.length = μ.2.2.1 m) (hK : ∀ pc' L' st' τ, K pc' L' st' τ = some r → L'.length = μ.2.2.1 m → mKeep σ τ → mNx v f pc' L' st' τ) (hd : decode (μ.2.1 m) pc = .ok (.lload_n n, 1) ∧ mNth D 0 = (n : Nat)) (h : mOut call K (mStep (vTT v) pc (.lload_n n) D c L st σ) = some r) : mNx v f pc L st σ := by
  simp only [mStep] at h
  split at h
  · rename_i x hg
    exact fun H locs ls h1 h2 h3 => lv_lload_n hx hb hd.1 hd.2.symm (mLr_at h1 hg (by intro q; cases q)) (hK _ _ _ _ h hL (mKeep.rf σ) H locs ls h1 h2 h3)
  · exact mNone h
set_option maxHeartbeats 4000000 in
set_option maxRecDepth 100000 in
theorem s_lload {D : List Nat} {c : Value} {n : Nat} (hx : (fP f).tables.exec = Jvm.exec) (hb : (fC f).code = μ.2.1 m) (hL : L.length = μ.2.2.1 m) (hK : ∀ pc' L' st' τ, K pc' L' st' τ = some r → L'.length = μ.2.2.1 m → mKeep σ τ → mNx v f pc' L' st' τ) (hd : decode (μ.2.1 m) pc = .ok (.lload n, 2) ∧ mNth D 0 = n) (h : mOut call K (mStep (vTT v) pc (.lload n) D c L st σ) = some r) : mNx v f pc L st σ := by
  simp only [mStep] at h
  split at h
  · rename_i x hg
    exact fun H locs ls h1 h2 h3 => lv_lload hx hb hd.1 (by have q := mLr_at h1 hg (by intro q; cases q); rw [hd.2] at q; exact q) (hK _ _ _ _ h hL (mKeep.rf σ) H locs ls h1 h2 h3)
  · exact mNone h
set_option maxHeartbeats 4000000 in
set_option maxRecDepth 100000 in
theorem s_aload_n {D : List Nat} {c : Value} {n : Fin 4} (hx : (fP f).tables.exec = Jvm.exec) (hb : (fC f).code = μ.2.1 m) (hL : L.length = μ.2.2.1 m) (hK : ∀ pc' L' st' τ, K pc' L' st' τ = some r → L'.length = μ.2.2.1 m → mKeep σ τ → mNx v f pc' L' st' τ) (hd : decode (μ.2.1 m) pc = .ok (.aload_n n, 1) ∧ mNth D 0 = (n : Nat)) (h : mOut call K (mStep (vTT v) pc (.aload_n n) D c L st σ) = some r) : mNx v f pc L st σ := by
  simp only [mStep] at h
  split at h
  · rename_i x hg
    exact fun H locs ls h1 h2 h3 => lv_aload_n hx hb hd.1 hd.2.symm (mLr_at h1 hg (by intro q; cases q)) (hK _ _ _ _ h hL (mKeep.rf σ) H locs ls h1 h2 h3)
  · exact mNone h
set_option maxHeartbeats 4000000 in
set_option maxRecDepth 100000 in
theorem s_aload {D : List Nat} {c : Value} {n : Nat} (hx : (fP f).tables.exec = Jvm.exec) (hb : (fC f).code = μ.2.1 m) (hL : L.length = μ.2.2.1 m) (hK : ∀ pc' L' st' τ, K pc' L' st' τ = some r → L'.length = μ.2.2.1 m → mKeep σ τ → mNx v f pc' L' st' τ) (hd : decode (μ.2.1 m) pc = .ok (.aload n, 2) ∧ mNth D 0 = n) (h : mOut call K (mStep (vTT v) pc (.aload n) D c L st σ) = some r) : mNx v f pc L st σ := by
  simp only [mStep] at h
  split at h
  · rename_i x hg
    exact fun H locs ls h1 h2 h3 => lv_aload hx hb hd.1 (by have q := mLr_at h1 hg (by intro q; cases q); rw [hd.2] at q; exact q) (hK _ _ _ _ h hL (mKeep.rf σ) H locs ls h1 h2 h3)
  · exact mNone h
set_option maxHeartbeats 4000000 in
set_option maxRecDepth 100000 in
theorem s_istore_n {D : List Nat} {c : Value} {n : Fin 4} (hx : (fP f).tables.exec = Jvm.exec) (hb : (fC f).code = μ.2.1 m) (hL : L.length = μ.2.2.1 m) (hK : ∀ pc' L' st' τ, K pc' L' st' τ = some r → L'.length = μ.2.2.1 m → mKeep σ τ → mNx v f pc' L' st' τ) (hd : decode (μ.2.1 m) pc = .ok (.istore_n n, 1) ∧ mNth D 0 = (n : Nat) ∧ mNth D 0 < μ.2.2.1 m) (h : mOut call K (mStep (vTT v) pc (.istore_n n) D c L st σ) = some r) : mNx v f pc L st σ := by
  simp only [mStep] at h
  split at h
  · exact fun H locs ls h1 h2 h3 => lv_istore_n hx hb hd.1 hd.2.1.symm h1 (by rw [hL]; exact hd.2.2) rfl (fun ls' h' => hK _ _ _ _ h (by unfold mSt1; simp only [mSet_len, mKill_len]; exact hL) (mKeep.rf σ) H locs ls' (mLr_st1 (by rw [hL]; exact hd.2.2) h') h2 h3)
  · exact mNone h
set_option maxHeartbeats 4000000 in
set_option maxRecDepth 100000 in
theorem s_istore {D : List Nat} {c : Value} {n : Nat} (hx : (fP f).tables.exec = Jvm.exec) (hb : (fC f).code = μ.2.1 m) (hL : L.length = μ.2.2.1 m) (hK : ∀ pc' L' st' τ, K pc' L' st' τ = some r → L'.length = μ.2.2.1 m → mKeep σ τ → mNx v f pc' L' st' τ) (hd : decode (μ.2.1 m) pc = .ok (.istore n, 2) ∧ mNth D 0 = n ∧ mNth D 0 < μ.2.2.1 m) (h : mOut call K (mStep (vTT v) pc (.istore n) D c L st σ) = some r) : mNx v f pc L st σ := by
  obtain ⟨hd, rfl, hn⟩ := hd
  simp only [mStep] at h
  split at h
  · exact fun H locs ls h1 h2 h3 => lv_istore hx hb hd h1 (by rw [hL]; exact hn) rfl (fun ls' h' => hK _ _ _ _ h (by unfold mSt1; simp only [mSet_len, mKill_len]; exact hL) (mKeep.rf σ) H locs ls' (mLr_st1 (by rw [hL]; exact hn) h') h2 h3)
  · exact mNone h
set_option maxHeartbeats 4000000 in
set_option maxRecDepth 100000 in
theorem s_lstore_n {D : List Nat} {c : Value} {n : Fin 4} (hx : (fP f).tables.exec = Jvm.exec) (hb : (fC f).code = μ.2.1 m) (hL : L.length = μ.2.2.1 m) (hK : ∀ pc' L' st' τ, K pc' L' st' τ = some r → L'.length = μ.2.2.1 m → mKeep σ τ → mNx v f pc' L' st' τ) (hd : decode (μ.2.1 m) pc = .ok (.lstore_n n, 1) ∧ mNth D 0 = (n : Nat) ∧ mNth D 0 + 1 < μ.2.2.1 m) (h : mOut call K (mStep (vTT v) pc (.lstore_n n) D c L st σ) = some r) : mNx v f pc L st σ := by
  simp only [mStep] at h
  split at h
  · exact fun H locs ls h1 h2 h3 => lv_lstore_n hx hb hd.1 hd.2.1.symm h1 (by rw [hL]; exact hd.2.2) rfl (fun ls' h' => hK _ _ _ _ h (by unfold mSt2; simp only [mSet_len, mKill_len]; exact hL) (mKeep.rf σ) H locs ls' (mLr_st2 (by rw [hL]; exact hd.2.2) h') h2 h3)
  · exact mNone h
set_option maxHeartbeats 4000000 in
set_option maxRecDepth 100000 in
theorem s_lstore {D : List Nat} {c : Value} {n : Nat} (hx : (fP f).tables.exec = Jvm.exec) (hb : (fC f).code = μ.2.1 m) (hL : L.length = μ.2.2.1 m) (hK : ∀ pc' L' st' τ, K pc' L' st' τ = some r → L'.length = μ.2.2.1 m → mKeep σ τ → mNx v f pc' L' st' τ) (hd : decode (μ.2.1 m) pc = .ok (.lstore n, 2) ∧ mNth D 0 = n ∧ mNth D 0 + 1 < μ.2.2.1 m) (h : mOut call K (mStep (vTT v) pc (.lstore n) D c L st σ) = some r) : mNx v f pc L st σ := by
  obtain ⟨hd, rfl, hn⟩ := hd
  simp only [mStep] at h
  split at h
  · exact fun H locs ls h1 h2 h3 => lv_lstore hx hb hd h1 (by rw [hL]; exact hn) rfl (fun ls' h' => hK _ _ _ _ h (by unfold mSt2; simp only [mSet_len, mKill_len]; exact hL) (mKeep.rf σ) H locs ls' (mLr_st2 (by rw [hL]; exact hn) h') h2 h3)
  · exact mNone h
set_option maxHeartbeats 4000000 in
set_option maxRecDepth 100000 in
theorem s_astore_n {D : List Nat} {c : Value} {n : Fin 4} (hx : (fP f).tables.exec = Jvm.exec) (hb : (fC f).code = μ.2.1 m) (hL : L.length = μ.2.2.1 m) (hK : ∀ pc' L' st' τ, K pc' L' st' τ = some r → L'.length = μ.2.2.1 m → mKeep σ τ → mNx v f pc' L' st' τ) (hd : decode (μ.2.1 m) pc = .ok (.astore_n n, 1) ∧ mNth D 0 = (n : Nat) ∧ mNth D 0 < μ.2.2.1 m) (h : mOut call K (mStep (vTT v) pc (.astore_n n) D c L st σ) = some r) : mNx v f pc L st σ := by
  simp only [mStep] at h
  split at h
  · exact fun H locs ls h1 h2 h3 => lv_astore_n hx hb hd.1 hd.2.1.symm h1 (by rw [hL]; exact hd.2.2) rfl (fun ls' h' => hK _ _ _ _ h (by unfold mSt1; simp only [mSet_len, mKill_len]; exact hL) (mKeep.rf σ) H locs ls' (mLr_st1 (by rw [hL]; exact hd.2.2) h') h2 h3)
  · exact mNone h
set_option maxHeartbeats 4000000 in
set_option maxRecDepth 100000 in
theorem s_astore {D : List Nat} {c : Value} {n : Nat} (hx : (fP f).tables.exec = Jvm.exec) (hb : (fC f).code = μ.2.1 m) (hL : L.length = μ.2.2.1 m) (hK : ∀ pc' L' st' τ, K pc' L' st' τ = some r → L'.length = μ.2.2.1 m → mKeep σ τ → mNx v f pc' L' st' τ) (hd : decode (μ.2.1 m) pc = .ok (.astore n, 2) ∧ mNth D 0 = n ∧ mNth D 0 < μ.2.2.1 m) (h : mOut call K (mStep (vTT v) pc (.astore n) D c L st σ) = some r) : mNx v f pc L st σ := by
  obtain ⟨hd, rfl, hn⟩ := hd
  simp only [mStep] at h
  split at h
  · exact fun H locs ls h1 h2 h3 => lv_astore hx hb hd h1 (by rw [hL]; exact hn) rfl (fun ls' h' => hK _ _ _ _ h (by unfold mSt1; simp only [mSet_len, mKill_len]; exact hL) (mKeep.rf σ) H locs ls' (mLr_st1 (by rw [hL]; exact hn) h') h2 h3)
  · exact mNone h
set_option maxHeartbeats 4000000 in
set_option maxRecDepth 100000 in
theorem s_iinc {D : List Nat} {c : Value} {n : Nat} {x : Int} (hx : (fP f).tables.exec = Jvm.exec) (hb : (fC f).code = μ.2.1 m) (hL : L.length = μ.2.2.1 m) (hK : ∀ pc' L' st' τ, K pc' L' st' τ = some r → L'.length = μ.2.2.1 m → mKeep σ τ → mNx v f pc' L' st' τ) (hd : decode (μ.2.1 m) pc = .ok (.iinc n x, 3) ∧ mNth D 0 = n ∧ mNth D 0 < μ.2.2.1 m ∧ c = .int (Int32.ofInt x)) (h : mOut call K (mStep (vTT v) pc (.iinc n x) D c L st σ) = some r) : mNx v f pc L st σ := by
  obtain ⟨hd, rfl, hn, rfl⟩ := hd
  simp only [mStep] at h
  split at h
  · rename_i y hg
    intro H locs ls h1 h2 h3
    have hm : (mNth D 0, rv (vAdr v) (mGet L (mNth D 0))) ∈ mLv (vAdr v) L := mLv_mem.mpr ⟨(by rw [hg]; intro q; cases q), rfl⟩
    obtain ⟨k, hk⟩ := List.getElem?_of_mem hm
    rw [hg] at hk
    exact lv_iinc hx hb hd h1 hk rfl (by rw [hL]; exact hn) rfl (fun ls' h' => hK _ _ _ _ h (by unfold mSt1; simp only [mSet_len, mKill_len]; exact hL) (mKeep.rf σ) H locs ls' (mLr_st1 (by rw [hL]; exact hn) h') h2 h3)
  · exact mNone h
set_option maxHeartbeats 4000000 in
set_option maxRecDepth 100000 in
theorem s_iconst {D : List Nat} {c : Value} {n : Int} (hx : (fP f).tables.exec = Jvm.exec) (hb : (fC f).code = μ.2.1 m) (hL : L.length = μ.2.2.1 m) (hK : ∀ pc' L' st' τ, K pc' L' st' τ = some r → L'.length = μ.2.2.1 m → mKeep σ τ → mNx v f pc' L' st' τ) (hd : decode (μ.2.1 m) pc = .ok (.iconst n, 1) ∧ c = .int (Int32.ofInt n)) (h : mOut call K (mStep (vTT v) pc (.iconst n) D c L st σ) = some r) : mNx v f pc L st σ := by
  obtain ⟨hd, rfl⟩ := hd
  exact fun H locs ls h1 h2 h3 => lv_iconst hx hb hd rfl (hK _ _ _ _ h hL (mKeep.rf σ) H locs ls h1 h2 h3)
set_option maxHeartbeats 4000000 in
set_option maxRecDepth 100000 in
theorem s_bipush {D : List Nat} {c : Value} {n : Int} (hx : (fP f).tables.exec = Jvm.exec) (hb : (fC f).code = μ.2.1 m) (hL : L.length = μ.2.2.1 m) (hK : ∀ pc' L' st' τ, K pc' L' st' τ = some r → L'.length = μ.2.2.1 m → mKeep σ τ → mNx v f pc' L' st' τ) (hd : decode (μ.2.1 m) pc = .ok (.bipush n, 2) ∧ c = .int (Int8.ofInt n).toInt32) (h : mOut call K (mStep (vTT v) pc (.bipush n) D c L st σ) = some r) : mNx v f pc L st σ := by
  obtain ⟨hd, rfl⟩ := hd
  exact fun H locs ls h1 h2 h3 => lv_bipush hx hb hd rfl (hK _ _ _ _ h hL (mKeep.rf σ) H locs ls h1 h2 h3)
set_option maxHeartbeats 4000000 in
set_option maxRecDepth 100000 in
theorem s_sipush {D : List Nat} {c : Value} {n : Int} (hx : (fP f).tables.exec = Jvm.exec) (hb : (fC f).code = μ.2.1 m) (hL : L.length = μ.2.2.1 m) (hK : ∀ pc' L' st' τ, K pc' L' st' τ = some r → L'.length = μ.2.2.1 m → mKeep σ τ → mNx v f pc' L' st' τ) (hd : decode (μ.2.1 m) pc = .ok (.sipush n, 3) ∧ c = .int (Int16.ofInt n).toInt32) (h : mOut call K (mStep (vTT v) pc (.sipush n) D c L st σ) = some r) : mNx v f pc L st σ := by
  obtain ⟨hd, rfl⟩ := hd
  exact fun H locs ls h1 h2 h3 => lv_sipush hx hb hd rfl (hK _ _ _ _ h hL (mKeep.rf σ) H locs ls h1 h2 h3)
set_option maxHeartbeats 4000000 in
set_option maxRecDepth 100000 in
theorem s_lconst {D : List Nat} {c : Value} {n : Fin 2} (hx : (fP f).tables.exec = Jvm.exec) (hb : (fC f).code = μ.2.1 m) (hL : L.length = μ.2.2.1 m) (hK : ∀ pc' L' st' τ, K pc' L' st' τ = some r → L'.length = μ.2.2.1 m → mKeep σ τ → mNx v f pc' L' st' τ) (hd : decode (μ.2.1 m) pc = .ok (.lconst n, 1) ∧ c = .long (Int64.ofNat (n : Nat))) (h : mOut call K (mStep (vTT v) pc (.lconst n) D c L st σ) = some r) : mNx v f pc L st σ := by
  obtain ⟨hd, rfl⟩ := hd
  exact fun H locs ls h1 h2 h3 => lv_lconst hx hb hd rfl (hK _ _ _ _ h hL (mKeep.rf σ) H locs ls h1 h2 h3)
set_option maxHeartbeats 4000000 in
set_option maxRecDepth 100000 in
theorem s_icmp {D : List Nat} {c : Value} {cd : ClassFile.Cond} {off : Int} (hx : (fP f).tables.exec = Jvm.exec) (hb : (fC f).code = μ.2.1 m) (hL : L.length = μ.2.2.1 m) (hK : ∀ pc' L' st' τ, K pc' L' st' τ = some r → L'.length = μ.2.2.1 m → mKeep σ τ → mNx v f pc' L' st' τ) (hd : decode (μ.2.1 m) pc = .ok (.if_icmp cd off, 3) ∧ (pc : Int) + off = (mNth D 0 : Int)) (h : mOut call K (mStep (vTT v) pc (.if_icmp cd off) D c L st σ) = some r) : mNx v f pc L st σ := by
  simp only [mStep] at h
  split at h
  · rename_i y x r'
    intro H locs ls h1 h2 h3
    cases cd with
    | eq => exact lv_icmp_eq hx hb hd.1 hd.2 (fun hc => hK _ _ _ _ (show K _ _ _ _ = some r by rw [show mCd .eq x y = true from decide_eq_true hc] at h; exact h) hL (mKeep.rf σ) H locs ls h1 h2 h3) (fun hc => hK _ _ _ _ (show K _ _ _ _ = some r by rw [show mCd .eq x y = false from decide_eq_false (hc)] at h; exact h) hL (mKeep.rf σ) H locs ls h1 h2 h3)
    | ne => exact lv_icmp_ne hx hb hd.1 hd.2 (fun hc => hK _ _ _ _ (show K _ _ _ _ = some r by rw [show mCd .ne x y = true from decide_eq_true hc] at h; exact h) hL (mKeep.rf σ) H locs ls h1 h2 h3) (fun hc => hK _ _ _ _ (show K _ _ _ _ = some r by rw [show mCd .ne x y = false from decide_eq_false (fun q => absurd hc q)] at h; exact h) hL (mKeep.rf σ) H locs ls h1 h2 h3)
    | lt => exact lv_icmp_lt hx hb hd.1 hd.2 (fun hc => hK _ _ _ _ (show K _ _ _ _ = some r by rw [show mCd .lt x y = true from decide_eq_true hc] at h; exact h) hL (mKeep.rf σ) H locs ls h1 h2 h3) (fun hc => hK _ _ _ _ (show K _ _ _ _ = some r by rw [show mCd .lt x y = false from decide_eq_false (hc)] at h; exact h) hL (mKeep.rf σ) H locs ls h1 h2 h3)
    | ge => exact lv_icmp_ge hx hb hd.1 hd.2 (fun hc => hK _ _ _ _ (show K _ _ _ _ = some r by rw [show mCd .ge x y = true from decide_eq_true hc] at h; exact h) hL (mKeep.rf σ) H locs ls h1 h2 h3) (fun hc => hK _ _ _ _ (show K _ _ _ _ = some r by rw [show mCd .ge x y = false from decide_eq_false (hc)] at h; exact h) hL (mKeep.rf σ) H locs ls h1 h2 h3)
    | gt => exact lv_icmp_gt hx hb hd.1 hd.2 (fun hc => hK _ _ _ _ (show K _ _ _ _ = some r by rw [show mCd .gt x y = true from decide_eq_true hc] at h; exact h) hL (mKeep.rf σ) H locs ls h1 h2 h3) (fun hc => hK _ _ _ _ (show K _ _ _ _ = some r by rw [show mCd .gt x y = false from decide_eq_false (hc)] at h; exact h) hL (mKeep.rf σ) H locs ls h1 h2 h3)
    | le => exact lv_icmp_le hx hb hd.1 hd.2 (fun hc => hK _ _ _ _ (show K _ _ _ _ = some r by rw [show mCd .le x y = true from decide_eq_true hc] at h; exact h) hL (mKeep.rf σ) H locs ls h1 h2 h3) (fun hc => hK _ _ _ _ (show K _ _ _ _ = some r by rw [show mCd .le x y = false from decide_eq_false (hc)] at h; exact h) hL (mKeep.rf σ) H locs ls h1 h2 h3)
  · exact mNone h
set_option maxHeartbeats 4000000 in
set_option maxRecDepth 100000 in
theorem s_ifc {D : List Nat} {c : Value} {cd : ClassFile.Cond} {off : Int} (hx : (fP f).tables.exec = Jvm.exec) (hb : (fC f).code = μ.2.1 m) (hL : L.length = μ.2.2.1 m) (hK : ∀ pc' L' st' τ, K pc' L' st' τ = some r → L'.length = μ.2.2.1 m → mKeep σ τ → mNx v f pc' L' st' τ) (hd : decode (μ.2.1 m) pc = .ok (.ifCond cd off, 3) ∧ (pc : Int) + off = (mNth D 0 : Int)) (h : mOut call K (mStep (vTT v) pc (.ifCond cd off) D c L st σ) = some r) : mNx v f pc L st σ := by
  simp only [mStep] at h
  split at h
  · rename_i x r'
    intro H locs ls h1 h2 h3
    cases cd with
    | eq => exact lv_if_eq hx hb hd.1 hd.2 (fun hc => hK _ _ _ _ (show K _ _ _ _ = some r by rw [show mCd .eq x 0 = true from decide_eq_true hc] at h; exact h) hL (mKeep.rf σ) H locs ls h1 h2 h3) (fun hc => hK _ _ _ _ (show K _ _ _ _ = some r by rw [show mCd .eq x 0 = false from decide_eq_false (hc)] at h; exact h) hL (mKeep.rf σ) H locs ls h1 h2 h3)
    | ne => exact lv_if_ne hx hb hd.1 hd.2 (fun hc => hK _ _ _ _ (show K _ _ _ _ = some r by rw [show mCd .ne x 0 = true from decide_eq_true hc] at h; exact h) hL (mKeep.rf σ) H locs ls h1 h2 h3) (fun hc => hK _ _ _ _ (show K _ _ _ _ = some r by rw [show mCd .ne x 0 = false from decide_eq_false (fun q => absurd hc q)] at h; exact h) hL (mKeep.rf σ) H locs ls h1 h2 h3)
    | lt => exact lv_if_lt hx hb hd.1 hd.2 (fun hc => hK _ _ _ _ (show K _ _ _ _ = some r by rw [show mCd .lt x 0 = true from decide_eq_true hc] at h; exact h) hL (mKeep.rf σ) H locs ls h1 h2 h3) (fun hc => hK _ _ _ _ (show K _ _ _ _ = some r by rw [show mCd .lt x 0 = false from decide_eq_false (hc)] at h; exact h) hL (mKeep.rf σ) H locs ls h1 h2 h3)
    | ge => exact lv_if_ge hx hb hd.1 hd.2 (fun hc => hK _ _ _ _ (show K _ _ _ _ = some r by rw [show mCd .ge x 0 = true from decide_eq_true hc] at h; exact h) hL (mKeep.rf σ) H locs ls h1 h2 h3) (fun hc => hK _ _ _ _ (show K _ _ _ _ = some r by rw [show mCd .ge x 0 = false from decide_eq_false (hc)] at h; exact h) hL (mKeep.rf σ) H locs ls h1 h2 h3)
    | gt => exact lv_if_gt hx hb hd.1 hd.2 (fun hc => hK _ _ _ _ (show K _ _ _ _ = some r by rw [show mCd .gt x 0 = true from decide_eq_true hc] at h; exact h) hL (mKeep.rf σ) H locs ls h1 h2 h3) (fun hc => hK _ _ _ _ (show K _ _ _ _ = some r by rw [show mCd .gt x 0 = false from decide_eq_false (hc)] at h; exact h) hL (mKeep.rf σ) H locs ls h1 h2 h3)
    | le => exact lv_if_le hx hb hd.1 hd.2 (fun hc => hK _ _ _ _ (show K _ _ _ _ = some r by rw [show mCd .le x 0 = true from decide_eq_true hc] at h; exact h) hL (mKeep.rf σ) H locs ls h1 h2 h3) (fun hc => hK _ _ _ _ (show K _ _ _ _ = some r by rw [show mCd .le x 0 = false from decide_eq_false (hc)] at h; exact h) hL (mKeep.rf σ) H locs ls h1 h2 h3)
  · exact mNone h
set_option maxHeartbeats 4000000 in
set_option maxRecDepth 100000 in
theorem s_goto {D : List Nat} {c : Value} {off : Int} (hx : (fP f).tables.exec = Jvm.exec) (hb : (fC f).code = μ.2.1 m) (hL : L.length = μ.2.2.1 m) (hK : ∀ pc' L' st' τ, K pc' L' st' τ = some r → L'.length = μ.2.2.1 m → mKeep σ τ → mNx v f pc' L' st' τ) (hd : decode (μ.2.1 m) pc = .ok (.goto off, 3) ∧ (pc : Int) + off = (mNth D 0 : Int)) (h : mOut call K (mStep (vTT v) pc (.goto off) D c L st σ) = some r) : mNx v f pc L st σ := by
  exact fun H locs ls h1 h2 h3 => lv_goto hx hb hd.1 hd.2 (hK _ _ _ _ h hL (mKeep.rf σ) H locs ls h1 h2 h3)
set_option maxHeartbeats 4000000 in
set_option maxRecDepth 100000 in
theorem s_table {D : List Nat} {c : Value} {df lo hi : Int} {offs : Array Int} (hx : (fP f).tables.exec = Jvm.exec) (hb : (fC f).code = μ.2.1 m) (hL : L.length = μ.2.2.1 m) (hK : ∀ pc' L' st' τ, K pc' L' st' τ = some r → L'.length = μ.2.2.1 m → mKeep σ τ → mNx v f pc' L' st' τ) (hd : (∃ len, decode (μ.2.1 m) pc = .ok (.tableswitch df lo hi offs, len)) ∧ (pc : Int) + df = (mNth D 0 : Int) ∧ hi - lo < offs.size ∧ ∀ j, j < offs.size → ∃ off, offs[j]? = some off ∧ (pc : Int) + off = (mNth D (j + 1) : Int)) (h : mOut call K (mStep (vTT v) pc (.tableswitch df lo hi offs) D c L st σ) = some r) : mNx v f pc L st σ := by
  obtain ⟨⟨len, hd⟩, ht, hs, ho⟩ := hd
  simp only [mStep] at h
  split at h
  · rename_i x r'
    intro H locs ls h1 h2 h3
    by_cases hc : x.toInt < lo ∨ hi < x.toInt
    · rw [decide_eq_true hc] at h
      exact lv_tableOut hx hb hd hc ht (hK _ _ _ _ h hL (mKeep.rf σ) H locs ls h1 h2 h3)
    · rw [decide_eq_false hc] at h
      obtain ⟨off, g1, g2⟩ := ho (x.toInt - lo).toNat (by omega)
      exact lv_tableIn hx hb hd (fun q => hc (Or.inl q)) (fun q => hc (Or.inr q)) g1 g2 (hK _ _ _ _ h hL (mKeep.rf σ) H locs ls h1 h2 h3)
  · exact mNone h
end MS
