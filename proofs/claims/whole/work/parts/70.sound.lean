/-! ===== the whole: a run that comes to an end is the machine's ===== -/
section MSO
variable {v : mV} {tb : Nat → Nat → Option mE} {GW NW : List Cond} {μ : mM} {Zs : (Nat → Prop) → State → Heap → Prop} {SO SL : String → Nat → Nat → Prop}
theorem mRun_keep (hW : mHW (vTT v) (vIds v)) (hOK : ∀ m pc e, tb m pc = some e → mOK GW NW (vCl v) (vNf v) (vFt v) μ SO SL m pc e) : ∀ n d m pc L st σ r, mRun (vTT v) tb n d m pc L st σ = some r → mKeep σ r.2 := by
  intro n
  induction n with
  | zero => intro d m pc L st σ r h; cases h
  | succ n ih =>
    intro d m pc L st σ r h
    unfold mRun at h
    cases ht : tb m pc with
    | none => rw [ht] at h; cases h
    | some e =>
      rw [ht] at h
      refine mOut_keep (mStep_keep hW pc e.1 ?_) (fun m' a τ q hq => ?_) (fun p L s τ hq => ih d m p L s τ r hq) h
      · intro k hk
        have := hOK m pc e ht
        obtain ⟨i, D, c⟩ := e
        cases hk
        obtain ⟨-, C, T, N, ty0, hci, -⟩ := this
        exact hci
      · cases d with
        | zero => cases hq
        | succ d => exact ih d m' 0 a [] τ q hq
/-- a text's length and charAt: what their rows must be -/
def mSL (v : mV) (Zs : (Nat → Prop) → State → Heap → Prop) (SL : String → Nat → Nat → Prop) (GW : List Cond) (μ : mM) : Prop := ∀ (own : String) (i k : Nat), SL own i k → ∀ (f : mFF) (d m pc : Nat) (D : List Nat) (c : Value) (L st : List Value) (σ : mS) (r : Value × mS) (call : Nat → List Value → mS → mR) (K : mK), μ.1 m = own → mNth D 0 = k → mCx v f GW μ d m → mZt v Zs σ (fSS f) (fSS f).heap → L.length = μ.2.2.1 m → (∀ pc' L' st' τ, K pc' L' st' τ = some r → L'.length = μ.2.2.1 m → mKeep σ τ → mNx v f pc' L' st' τ) → decode (μ.2.1 m) pc = .ok (.invokevirtual i, 3) → mOut call K (mInv (vTT v) pc D L st σ) = some r → mNx v f pc L st σ
set_option maxHeartbeats 4000000 in
set_option maxRecDepth 100000 in
/-- one step, whichever it is -/
theorem s_any {f : mFF} {d m pc : Nat} {L st : List Value} {σ : mS} {r : Value × mS} {call : Nat → List Value → mS → mR} {K : mK} (hW : mHW (vTT v) (vIds v)) (hDd : ∀ τ, va_D (vA v) (vW v τ)) (hGd : ∀ w ∈ GW, goodWord w = true) (hNW : ∀ w ∈ NW, ∀ A U H, Zs A U H → va_Nw w U) (hZk : mZok Zs) (hSO : mSO v Zs SO) (hSL : mSL v Zs SL GW μ)
    (hC : mCx v f GW μ d m) (hZ : mZt v Zs σ (fSS f) (fSS f).heap) (hL : L.length = μ.2.2.1 m) (hR : mRt v f (μ.2.1 m) (μ.2.2.2.1 m) r)
    (hK : ∀ pc' L' st' τ, K pc' L' st' τ = some r → L'.length = μ.2.2.1 m → mKeep σ τ → mNx v f pc' L' st' τ)
    (hCall : ∀ m' a τ q, call m' (mLoc (μ.2.2.1 m') a) τ = some q → mCat a ≤ μ.2.2.1 m' → m' < 1000 → plainName (μ.2.2.2.2 m').cls = true → (μ.1 m' = (μ.2.2.2.2 m').cls) → ∃ d', d = d' + 1 ∧ mMt v (fLL f) GW μ Zs d' m' a τ q ∧ mKeep τ q.2)
    (e : mE) (hOK : mOK GW NW (vCl v) (vNf v) (vFt v) μ SO SL m pc e) (h : mOut call K (mStep (vTT v) pc e.1 e.2.1 e.2.2 L st σ) = some r) : mNx v f pc L st σ := by
  have hx := hC.1
  have hb := hC.2.1
  obtain ⟨i, D, c⟩ := e
  cases i with
  | iconst n => exact s_iconst hx hb hL hK hOK h
  | lconst n => exact s_lconst hx hb hL hK hOK h
  | bipush n => exact s_bipush hx hb hL hK hOK h
  | sipush n => exact s_sipush hx hb hL hK hOK h
  | ldc n => exact s_ldc hSO hC hZ hL hK hOK h
  | ldc_w n => exact s_ldcw hC hL hK hOK h
  | ldc2_w n => exact s_ldc2w hC hL hK hOK h
  | getstatic n => exact s_getstatic hC hZ hL hK hOK h
  | iload_n n => exact s_iload_n hx hb hL hK hOK h
  | iload n => exact s_iload hx hb hL hK hOK h
  | lload_n n => exact s_lload_n hx hb hL hK hOK h
  | lload n => exact s_lload hx hb hL hK hOK h
  | aload_n n => exact s_aload_n hx hb hL hK hOK h
  | aload n => exact s_aload hx hb hL hK hOK h
  | istore_n n => exact s_istore_n hx hb hL hK hOK h
  | istore n => exact s_istore hx hb hL hK hOK h
  | lstore_n n => exact s_lstore_n hx hb hL hK hOK h
  | lstore n => exact s_lstore hx hb hL hK hOK h
  | astore_n n => exact s_astore_n hx hb hL hK hOK h
  | astore n => exact s_astore hx hb hL hK hOK h
  | iinc n x => exact s_iinc hx hb hL hK hOK h
  | iadd => exact s_iadd hx hb hL hK hOK h
  | isub => exact s_isub hx hb hL hK hOK h
  | imul => exact s_imul hx hb hL hK hOK h
  | iand => exact s_iand hx hb hL hK hOK h
  | ior => exact s_ior hx hb hL hK hOK h
  | ixor => exact s_ixor hx hb hL hK hOK h
  | ishl => exact s_ishl hx hb hL hK hOK h
  | ishr => exact s_ishr hx hb hL hK hOK h
  | iushr => exact s_iushr hx hb hL hK hOK h
  | idiv => exact s_idiv hx hb hL hK hOK h
  | irem => exact s_irem hx hb hL hK hOK h
  | ineg => exact s_ineg hx hb hL hK hOK h
  | ladd => exact s_ladd hx hb hL hK hOK h
  | lsub => exact s_lsub hx hb hL hK hOK h
  | lmul => exact s_lmul hx hb hL hK hOK h
  | land => exact s_land hx hb hL hK hOK h
  | lor => exact s_lor hx hb hL hK hOK h
  | ldiv => exact s_ldiv hx hb hL hK hOK h
  | lrem => exact s_lrem hx hb hL hK hOK h
  | lshl => exact s_lshl hx hb hL hK hOK h
  | lshr => exact s_lshr hx hb hL hK hOK h
  | lcmp => exact s_lcmp hx hb hL hK hOK h
  | i2l => exact s_i2l hx hb hL hK hOK h
  | l2i => exact s_l2i hx hb hL hK hOK h
  | i2b => exact s_i2b hx hb hL hK hOK h
  | dup => exact s_dup hx hb hL hK hOK h
  | dup2 => exact s_dup2 hx hb hL hK hOK h
  | pop => exact s_pop hx hb hL hK hOK h
  | iaload => exact s_iaload hC hW hZ hL hK hOK h
  | baload => exact s_baload hC hW hL hK hOK h
  | laload => exact s_laload hC hW hL hK hOK h
  | aaload => exact s_aaload hC hW hL hK hOK h
  | iastore => exact s_iastore hC hW hDd hL hK hOK h
  | bastore => exact s_bastore hC hW hDd hL hK hOK h
  | lastore => exact s_lastore hC hW hDd hL hK hOK h
  | arraylength => exact s_arraylength hC hW hZ hL hK hOK h
  | lreturn => exact s_lret hOK hR h
  | return_ => exact s_vret hOK hR h
  | ireturn => exact s_ret (rt := none) hOK hR h
  | if_icmp cd off => exact s_icmp hx hb hL hK hOK h
  | ifCond cd off => exact s_ifc hx hb hL hK hOK h
  | goto off => exact s_goto hx hb hL hK hOK h
  | tableswitch df lo hi offs => exact s_table hx hb hL hK hOK h
  | getfield n => exact s_getfield hC hW hL hK hOK h
  | putfield n => exact s_putfield hC hW hDd hL hK hOK h
  | invokevirtual n =>
    obtain ⟨hd, hl | hl⟩ := hOK
    · exact s_call (Or.inl ⟨rfl, rfl⟩) hC hGd (fun w hw hz => hNW w hw _ _ _ hz) hW hZk hZ hL hK hCall hd hl h
    · exact hSL _ _ _ hl f d m pc D c L st σ r call K rfl rfl hC hZ hL hK hd h
  | invokestatic n =>
    obtain ⟨hd, hl | hl | hl⟩ := hOK
    · exact s_call (Or.inr (Or.inl ⟨rfl, rfl⟩)) hC hGd (fun w hw hz => hNW w hw _ _ _ hz) hW hZk hZ hL hK hCall hd hl h
    · exact s_call (Or.inr (Or.inr ⟨rfl, rfl⟩)) hC hGd (fun w hw hz => hNW w hw _ _ _ hz) hW hZk hZ hL hK hCall hd hl h
    · exact s_lib hC hW hDd hL hK hd hl h
  | _ => exact hOK.elim
/-- a method's contract, by the run of its body -/
theorem mMeet {l : Launch} {d m : Nat} {a : List Value} {τ : mS} {q : Value × mS} (hpl : plainName (μ.2.2.2.2 m).cls = true) (hcls : μ.1 m = (μ.2.2.2.2 m).cls) (hcat : mCat a ≤ μ.2.2.1 m)
    (hrun : ∀ f : mFF, fLL f = l → mCx v f GW μ d m → mZt v Zs τ (fSS f) (fSS f).heap → mRt v f (μ.2.1 m) (μ.2.2.2.1 m) q → mNx v f 0 (mLoc (μ.2.2.1 m) a) [] τ) : mMt v l GW μ Zs d m a τ q := by
  unfold mMt
  refine Met.ofW (cc := μ.2.1 m) (maxL := μ.2.2.1 m) (ret := μ.2.2.2.1 m) hpl rfl ?_
  intro p e s mid args below meth c s₁ B hml hv
  obtain ⟨rfl, hP, hK, hz⟩ := hv
  have hts := atoms_spec (ws := Cond.code (μ.2.2.2.2 m) (μ.2.1 m) (μ.2.2.1 m) (μ.2.2.2.1 m) :: GW) B.pre
  have hown : s.vm.findClass (μ.1 m) = some mid.cls := by rw [hcls]; exact findClass_of_methodNamed B.named
  rw [lg_entry_eq]
  refine hrun (p, l, e, mRm d, s, mid, (a.map (rv (vAdr v))).toArray, below, meth, c, 0, 0, MQ below (mQc v q) (a.map (rv (vAdr v))).toArray s 0 0 (vA v)) rfl ⟨B.exec, B.bytes, hml, hown, fun w hw => hts w (List.mem_cons_of_mem _ hw), hK, Nat.le_refl _, Nat.le_refl _, Nat.le_refl _, Nat.le_refl _⟩ hz ?_ s.heap [] _ (mLr_entry hcat) hP va_S.rf
  intro pc H locs ls hP1 hS1
  obtain ⟨qv, υ⟩ := q
  cases qv with
  | int x =>
    intro hd hr
    have hqq : ∀ t : State, t.heap = H → s.WarmedH t.vm → mQc v (.int x, υ) (a.map (rv (vAdr v))).toArray s (.returned (some (.int x))) t := fun t ht _ => ⟨⟨x, (), rfl, rfl, by show va_P _ _ _ t.heap; rw [ht]; exact hP1⟩, hS1.F ht⟩
    rcases hr with hr | ⟨hr, hz⟩
    · exact W.iret B.exec B.bytes (by rw [B.returns, hr]) hqq hS1.2.2 hd B.notSynchronized
    · refine W.zret (ty := .boolean) B.exec B.bytes (by rw [B.returns, hr]) ?_ hqq hS1.2.2 hd B.notSynchronized
      unfold mZ at hz
      simp only [Bool.or_eq_true, decide_eq_true_eq] at hz
      rcases hz with rfl | rfl <;> rfl
  | long x =>
    intro hd hq
    exact W.lret B.exec B.bytes (by rw [B.returns]; exact hq) (fun t ht _ => ⟨⟨x, (), rfl, rfl, by show va_P _ _ _ t.heap; rw [ht]; exact hP1⟩, hS1.F ht⟩) hS1.2.2 hd B.notSynchronized
  | null =>
    intro hd hq
    exact W.vret B.exec B.bytes (by rw [B.returns]; exact hq) (fun t ht _ => ⟨⟨(), rfl, trivial, by show va_P _ _ _ t.heap; rw [ht]; exact hP1⟩, hS1.F ht⟩) hS1.2.2 hd B.notSynchronized
  | _ => trivial
set_option maxHeartbeats 4000000 in
theorem mSound {l : Launch} (hW : mHW (vTT v) (vIds v)) (hDd : ∀ τ, va_D (vA v) (vW v τ)) (hGd : ∀ w ∈ GW, goodWord w = true) (hNW : ∀ w ∈ NW, ∀ A U H, Zs A U H → va_Nw w U) (hZk : mZok Zs) (hSO : mSO v Zs SO) (hSL : mSL v Zs SL GW μ) (hOK : ∀ m pc e, tb m pc = some e → mOK GW NW (vCl v) (vNf v) (vFt v) μ SO SL m pc e) :
    ∀ n d m pc L st σ r, mRun (vTT v) tb n d m pc L st σ = some r → L.length = μ.2.2.1 m → ∀ f : mFF, fLL f = l → mCx v f GW μ d m → mZt v Zs σ (fSS f) (fSS f).heap → mRt v f (μ.2.1 m) (μ.2.2.2.1 m) r → mNx v f pc L st σ := by
  intro n
  induction n with
  | zero => intro d m pc L st σ r h; cases h
  | succ n ih =>
    intro d m pc L st σ r h hL f hl hC hZ hR
    unfold mRun at h
    cases ht : tb m pc with
    | none => rw [ht] at h; cases h
    | some e =>
      rw [ht] at h
      refine s_any hW hDd hGd hNW hZk hSO hSL hC hZ hL hR ?_ ?_ e (hOK m pc e ht) h
      · intro pc' L' st' τ hk hL' hkp
        exact ih d m pc' L' st' τ r hk hL' f hl hC (mZt_rows hZ hkp.1 hkp.2.1 hkp.2.2) hR
      · intro m' a τ q hq hcat h1000 hpl hcls
        cases d with
        | zero => cases hq
        | succ d =>
          refine ⟨d, rfl, ?_, mRun_keep hW hOK n d m' 0 _ [] τ q hq⟩
          rw [hl]
          exact mMeet hpl hcls hcat (fun f' hl' hC' hZ' hR' => ih d m' 0 _ [] τ q hq (mLoc_len _ _) f' hl' hC' hZ' hR')
end MSO
