/-! ===== calls ===== -/
/-- what Zs must bear: another state with the same tables, warmed tables, a heap that differs inside A alone -/
def mZok (Zs : (Nat → Prop) → State → Heap → Prop) : Prop := (∀ A U U' H, U.vm = U'.vm → Zs A U H → Zs A U' H) ∧ (∀ A (s U : State) H, s.WarmedH U.vm → Zs A s H → Zs A U H) ∧ (∀ A U (H H1 : Heap), (∀ q : Nat, q < H.size → ¬ A q → H1[q]? = H[q]?) → Zs A U H → Zs A U H1)
section MS5
variable {v : mV} {f : mFF} {GW NW : List Cond} {μ : mM} {d m pc : Nat} {L st : List Value} {σ : mS} {r : Value × mS} {call : Nat → List Value → mS → mR} {K : mK} {D : List Nat} {c : Value} {Zs : (Nat → Prop) → State → Heap → Prop}
theorem mZt_eq (hZ : mZok Zs) {U U' : State} {H : Heap} (e : U.vm = U'.vm) (h : mZt v Zs σ U H) : mZt v Zs σ U' H := by
  have hal : U.vm.Alike U'.vm := by rw [e]; exact Vm.Alike.refl _
  exact ⟨⟨h.1.1.moved hal, h.1.2⟩, ⟨h.2.1.1.moved hal, h.2.1.2.moved hal⟩, hZ.1 _ _ _ _ e h.2.2⟩
theorem mZt_warm (hZ : mZok Zs) {s U : State} {H : Heap} (hw : s.WarmedH U.vm) (h : mZt v Zs σ s H) : mZt v Zs σ U H :=
  ⟨⟨h.1.1.moved hw.alike, h.1.2⟩, ⟨h.2.1.1.moved hw.alike, h.2.1.2.moved hw.alike⟩, hZ.2.1 _ _ _ _ hw h.2.2⟩
theorem mZt_kept (hZ : mZok Zs) {s : State} {H : Heap} {locs : List Loc} (hS : va_S (vA v) s.heap H locs) (h : mZt v Zs σ s s.heap) : mZt v Zs σ s H :=
  ⟨⟨h.1.1.kept (hS.2.1 _ h.1.2.1 h.1.2.2), Nat.lt_of_lt_of_le h.1.2.1 hS.1, h.1.2.2⟩, ⟨h.2.1.1.kept hS.2.1, h.2.1.2.kept hS.2.1⟩, hZ.2.2 _ _ _ _ hS.2.1 h.2.2⟩
theorem mBlind (hZ : mZok Zs) (av : List Value) (τ : mS) : FrameBlind (va_Pc av (mBp v Zs τ)) := fun a U g mk q => by
  obtain ⟨e, hP, hK, hz⟩ := q
  exact ⟨e, hP, va_K.moved (u := U) (U := U.calling g mk a) (Vm.Alike.refl U.vm) hK, mZt_eq (U := U) (U' := U.calling g mk a) (H := U.heap) hZ rfl hz⟩
theorem mPre (hZ : mZok Zs) {av : List Value} {τ : mS} {H : Heap} {locs : List Loc} (hKt : va_K (vD v) (vCl v) (mTy (vCa v)) (fSS f)) (hP : va_P (vD v) (vCl v) (vW v τ) H) (hS : va_S (vA v) (fSS f).heap H locs) (hz : mZt v Zs τ (fSS f) (fSS f).heap) : ∀ U : State, U.heap = H → (fSS f).WarmedH U.vm → va_Pc av (mBp v Zs τ) av.toArray U := by
  intro U hU hW
  refine ⟨rfl, by rw [hU]; exact hP, va_K.moved hW.alike hKt, ?_⟩
  rw [hU]
  exact mZt_warm hZ hW (mZt_kept hZ hS hz)
theorem mOutK {b : Bool} {k m' : Nat} {a : List Value} {pc' : Nat} {L' rest : List Value} (h : mOut call K (oK b k m' a σ pc' L' rest) = some r) : b = true ∧ ((k = 0 ∧ ∃ τ, call m' a σ = some (.null, τ) ∧ K pc' L' rest τ = some r) ∨ (k = 1 ∧ ∃ x τ, call m' a σ = some (.int x, τ) ∧ K pc' L' (.int x :: rest) τ = some r) ∨ (2 ≤ k ∧ ∃ x τ, call m' a σ = some (.long x, τ) ∧ K pc' L' (.long x :: rest) τ = some r)) := by
  cases b with
  | false => exact mNone h
  | true =>
    refine ⟨rfl, ?_⟩
    match k, h with
    | 0, h =>
      replace h : mBV (call m' a σ) (fun τ => K pc' L' rest τ) = some r := h
      refine Or.inl ⟨rfl, ?_⟩
      unfold mBV at h
      split at h
      · rename_i τ e
        exact ⟨τ, e, h⟩
      · exact mNone h
    | 1, h =>
      replace h : mBI (call m' a σ) (fun x τ => K pc' L' (.int x :: rest) τ) = some r := h
      refine Or.inr (Or.inl ⟨rfl, ?_⟩)
      unfold mBI at h
      split at h
      · rename_i x τ e
        exact ⟨x, τ, e, h⟩
      · exact mNone h
    | k + 2, h =>
      replace h : mBL (call m' a σ) (fun x τ => K pc' L' (.long x :: rest) τ) = some r := h
      refine Or.inr (Or.inr ⟨by omega, ?_⟩)
      unfold mBL at h
      split at h
      · rename_i x τ e
        exact ⟨x, τ, e, h⟩
      · exact mNone h
/-- behind a call -/
theorem mAfter {q : Value × mS} {H : Heap} {locs : List Loc} {ls : Array Slot} {st0 rest : List Value} {a : Array Value} (hS : va_S (vA v) (fSS f).heap H locs)
    (hrun : va_Run (fP f) (fLL f) (fEE f) (fR f) (fSS f) (fM f) (fA f) (fB f) (fH f) (fC f) H locs (fN f) (fO f) 0 0 (F0 (fM f) pc ls st0) rest (mQc v q a) (vA v))
    (kk : ∀ (H1 : Heap) (locs1 : List Loc), va_P (vD v) (vCl v) (vW v q.2) H1 → va_S (vA v) (fSS f).heap H1 locs1 → (match q.1 with | .int x => fW f H1 locs1 (F0 (fM f) (pc + 3) ls (.int x :: rest)) | .long x => fW f H1 locs1 (F0 (fM f) (pc + 3) ls (.long x :: rest)) | .null => fW f H1 locs1 (F0 (fM f) (pc + 3) ls rest) | _ => True)) : fW f H locs (F0 (fM f) pc ls st0) := by
  obtain ⟨qv, τ⟩ := q
  cases qv with
  | int x =>
    refine va_calli (a := a) (S := Unit) (post := fun r _ => r = x) (B := fun _ t => va_P (vD v) (vCl v) (vW v τ) t.heap) (A1 := vA v) hrun hS (fun _ _ h => h) (fun _ h => h) (fun r u t H1 locs1 ht hvm hw hB hz1 hk1 hS1 => ?_)
    subst hw
    rw [ht] at hB
    exact kk H1 locs1 hB hS1
  | long x =>
    refine va_calll (a := a) (S := Unit) (post := fun r _ => r = x) (B := fun _ t => va_P (vD v) (vCl v) (vW v τ) t.heap) (A1 := vA v) hrun hS (fun _ _ h => h) (fun _ h => h) (fun r u t H1 locs1 ht hvm hw hB hz1 hk1 hS1 => ?_)
    subst hw
    rw [ht] at hB
    exact kk H1 locs1 hB hS1
  | null =>
    refine va_callv (a := a) (S := Unit) (post := fun _ => True) (B := fun _ t => va_P (vD v) (vCl v) (vW v τ) t.heap) (A1 := vA v) hrun hS (fun _ _ h => h) (fun _ h => h) (fun u t H1 locs1 ht hvm hw hB hz1 hk1 hS1 => ?_)
    rw [ht] at hB
    exact kk H1 locs1 hB hS1
  | _ =>
    intro T hT X
    obtain ⟨v', st₀, t, T', L', h0, X', hL', e1, e2, hq, hst⟩ := hrun T hT X
    exact hq.elim
set_option maxHeartbeats 4000000 in
set_option maxRecDepth 100000 in
theorem s_call {i kind : Nat} {ins : Instr} (hins : (kind = 0 ∧ ins = .invokevirtual i) ∨ (kind = 1 ∧ ins = .invokestatic i) ∨ (kind = 2 ∧ ins = .invokestatic i)) (hC : mCx v f GW μ d m) (hGd : ∀ w ∈ GW, goodWord w = true) (hNW : ∀ w ∈ NW, Zs (vA v) (fSS f) (fSS f).heap → va_Nw w (fSS f)) (hW : mHW (vTT v) (vIds v)) (hZk : mZok Zs) (hZ : mZt v Zs σ (fSS f) (fSS f).heap) (hL : L.length = μ.2.2.1 m)
    (hK : ∀ pc' L' st' τ, K pc' L' st' τ = some r → L'.length = μ.2.2.1 m → mKeep σ τ → mNx v f pc' L' st' τ)
    (hCall : ∀ m' a τ q, call m' (mLoc (μ.2.2.1 m') a) τ = some q → mCat a ≤ μ.2.2.1 m' → m' < 1000 → plainName (μ.2.2.2.2 m').cls = true → (μ.1 m' = (μ.2.2.2.2 m').cls) → ∃ d', d = d' + 1 ∧ mMt v (fLL f) GW μ Zs d' m' a τ q ∧ mKeep τ q.2)
    (hd : decode (μ.2.1 m) pc = .ok (ins, 3)) (hl : mIO GW NW (vCl v) μ (μ.1 m) i kind D) (h : mOut call K (mInv (vTT v) pc D L st σ) = some r) : mNx v f pc L st σ := by
  have hCC := hC
  obtain ⟨hx, hb, hml, hown, hts, hKt, hfr, hlo, hce, hsl⟩ := hC
  obtain ⟨y, hy, hlt, hmx, hmx40, hpl, hcode, hini, hy2, hcls, hret, hl⟩ := hl
  have hGI : GoodIn GW (Cond.code (μ.2.2.2.2 (mNth D 0)) (μ.2.1 (mNth D 0)) (μ.2.2.1 (mNth D 0)) (μ.2.2.2.1 (mNth D 0)) :: GW) := by
    rw [← hy, hmx]
    intro w hw
    rcases List.mem_cons.mp hw with rfl | hw
    · exact ⟨hcode, good_of_word (hGd _ hcode)⟩
    · exact ⟨hw, good_of_word (hGd _ hw)⟩
  simp only [mInv] at h
  rw [Nat.blt_eq.mpr hlt] at h
  simp only [cond_true] at h
  obtain ⟨hg, hres⟩ := mOutK h
  simp only [Bool.and_eq_true] at hg
  obtain ⟨g1, g2, g3, g4⟩ := hg
  replace g1 := beqT g1
  replace g2 := Nat.le_of_ble_eq_true g2
  replace g3 := Nat.le_of_ble_eq_true g3
  have hst := mArgs_st g1
  generalize hA : mArgs (mNth D 1) st [] = As at *
  generalize hR : mDrop (mNth D 1) st = rest at *
  -- the callee's contract, and what comes behind
  have key : ∃ q, call (mNth D 0) (mLoc (mNth D 2) As) σ = some q ∧ ∀ (H1 : Heap) (locs1 : List Loc) (ls : Array Slot), mLr (vAdr v) ls L → mKeep σ q.2 → va_P (vD v) (vCl v) (vW v q.2) H1 → va_S (vA v) (fSS f).heap H1 locs1 → (match q.1 with | .int x => fW f H1 locs1 (F0 (fM f) (pc + 3) ls (.int x :: rest.map (rv (vAdr v)))) | .long x => fW f H1 locs1 (F0 (fM f) (pc + 3) ls (.long x :: rest.map (rv (vAdr v)))) | .null => fW f H1 locs1 (F0 (fM f) (pc + 3) ls (rest.map (rv (vAdr v)))) | _ => True) := by
    rcases hres with ⟨-, τ, e1, e2⟩ | ⟨-, x, τ, e1, e2⟩ | ⟨-, x, τ, e1, e2⟩
    · exact ⟨_, e1, fun H1 locs1 ls h1 hk hP hS => hK _ _ _ _ e2 hL hk H1 locs1 ls h1 hP hS⟩
    · exact ⟨_, e1, fun H1 locs1 ls h1 hk hP hS => hK _ _ _ _ e2 hL hk H1 locs1 ls h1 hP hS⟩
    · exact ⟨_, e1, fun H1 locs1 ls h1 hk hP hS => hK _ _ _ _ e2 hL hk H1 locs1 ls h1 hP hS⟩
  obtain ⟨q, e1, hgo⟩ := key
  obtain ⟨d', hd', hM, hkp⟩ := hCall (mNth D 0) As σ q (by rw [hmx]; exact e1) (by rw [hmx]; exact g3) hlt (by rw [← hy]; exact hpl) (by rw [← hy]; exact hcls)
  intro H locs ls h1 h2 h3
  have hroom : (mRm d').frames + 1 ≤ (fR f).frames ∧ 8 + (μ.2.2.1 (mNth D 0) + 11) + (mRm d').locals ≤ (fR f).locals := by
    unfold mRm
    dsimp only
    omega
  have hlsz : (F0 (fM f) pc ls (st.map (rv (vAdr v)))).locals.size = μ.2.2.1 m := h1.1.trans hL
  have hrest : 2 * (F0 (fM f) pc ls (st.map (rv (vAdr v)))).monitorRoom + ((rest.map (rv (vAdr v))).map fun v => v.category).sum ≤ 8 := lv_room (by rw [mCat_sum]; exact g2)
  have hfix : CallFix (fP f) (fM f) (fC f) (μ.2.1 m) (μ.2.2.1 m) (fSS f) (fA f) GW (μ.1 m) := ⟨hx, hb, hml, hown, hts⟩
  rcases hins with ⟨rfl, rfl⟩ | ⟨rfl, rfl⟩ | ⟨rfl, rfl⟩
  · obtain ⟨hpar, hpos, h4, hlk, hinst, hsel, T, N, hcl⟩ := hl
    -- the receiver
    cases h4' : mNth D 4 with
    | zero => exact absurd h4' h4
    | succ ci =>
      rw [h4'] at g4 hcl
      simp only [Nat.add_sub_cancel] at hcl
      unfold mRecv at g4
      split at g4
      · rename_i hc0; cases hc0
      · rename_i hc0
        split at g4
        · rename_i o As'
          have ho : (vTT v).1 o = ci + 1 := by
            have := beqT g4
            omega
          obtain ⟨hid, hz, -⟩ := hW.1 o (by omega)
          obtain ⟨q0, hq0⟩ := List.getElem?_of_mem hid
          have he := mWl_at (w := vTT v) (ft := vFt v) (nf := vNf v) (cA := vCa v) (adr := vAdr v) σ hq0
          rw [mEl_obj hz, ho, Nat.add_sub_cancel] at he
          have hcw : CallW (fR f) (fSS f) (fA f) (μ.1 m) y.cls i (μ.2.2.2.2 (mNth D 0)) (μ.2.1 (mNth D 0)) (μ.2.2.1 (mNth D 0)) (μ.2.2.2.1 (mNth D 0)) (Cond.code (μ.2.2.2.2 (mNth D 0)) (μ.2.1 (mNth D 0)) (μ.2.2.1 (mNth D 0)) (μ.2.2.2.1 (mNth D 0)) :: GW) (mRm d') 0 0 (mNth D 1 - 1) :=
            ⟨callB_of (mNth D 1 - 1) hts hGI rfl rfl rfl (by rw [← hy]; exact hts _ hini) (by rw [← hy]; exact hts _ hlk) (by rw [← hy]; exact ⟨hy2.1, hy2.2, hpar⟩) hroom, by rw [← hy]; exact hts _ hinst, by rw [← hy]; exact hts _ hsel⟩
          refine mAfter (a := (Value.ref (vAdr v o) :: As'.map (rv (vAdr v))).toArray) h3 (va_runV (As := As'.map (rv (vAdr v))) (rest := rest.map (rv (vAdr v))) hfix hM hcw ⟨mBlind hZk _ _, va_recv hKt h2 hcl he, mPre hZk hKt h2 h3 hZ⟩ rfl (by rw [List.length_map]; simp only [List.length_cons] at g1; omega) hlsz ?_ hrest hd ⟨hce, hsl⟩) (fun H1 locs1 hP1 hS1 => hgo H1 locs1 ls h1 hkp hP1 hS1)
          show st.map (rv (vAdr v)) = _
          rw [hst, List.map_append, List.reverse_cons, List.map_append, List.map_reverse, List.append_assoc]
          rfl
        · cases g4
  · obtain ⟨hpar, hlk, hstat⟩ := hl
    have hcw : CallB (fR f) (fSS f) (fA f) (μ.1 m) i (μ.2.2.2.2 (mNth D 0)) (μ.2.1 (mNth D 0)) (μ.2.2.1 (mNth D 0)) (μ.2.2.2.1 (mNth D 0)) (Cond.code (μ.2.2.2.2 (mNth D 0)) (μ.2.1 (mNth D 0)) (μ.2.2.1 (mNth D 0)) (μ.2.2.2.1 (mNth D 0)) :: GW) (mRm d') 0 0 (mNth D 1) := callB_of (mNth D 1) hts hGI rfl rfl rfl (by rw [← hy]; exact hts _ hini) (by rw [← hy]; exact hts _ hlk) (by rw [← hy]; exact ⟨hy2.1, hy2.2, hpar⟩) hroom
    refine mAfter (a := (As.map (rv (vAdr v))).toArray) h3 (va_runS (As := As.map (rv (vAdr v))) (rest := rest.map (rv (vAdr v))) hfix hM ⟨hcw, by rw [← hy]; exact hts _ hstat⟩ ⟨mBlind hZk _ _, mPre hZk hKt h2 h3 hZ⟩ rfl (by rw [List.length_map]; exact g1) hlsz ?_ hrest hd ⟨hce, hsl⟩) (fun H1 locs1 hP1 hS1 => hgo H1 locs1 ls h1 hkp hP1 hS1)
    show st.map (rv (vAdr v)) = _
    rw [hst, List.map_append, List.map_reverse]
  · obtain ⟨hpar, ⟨host, hlk⟩, hstat⟩ := hl
    have hcw : va_CN (fR f) (fSS f) (fA f) (μ.1 m) i (μ.2.2.2.2 (mNth D 0)) host (μ.2.1 (mNth D 0)) (μ.2.2.1 (mNth D 0)) (μ.2.2.2.1 (mNth D 0)) (Cond.code (μ.2.2.2.2 (mNth D 0)) (μ.2.1 (mNth D 0)) (μ.2.2.1 (mNth D 0)) (μ.2.2.2.1 (mNth D 0)) :: GW) (mRm d') 0 0 (mNth D 1) := va_cnB (mNth D 1) hts hGI rfl rfl rfl (by rw [← hy]; exact hNW _ hlk hZ.2.2) (by rw [← hy]; exact hts _ hini) (by rw [← hy]; exact ⟨hy2.1, hy2.2, hpar⟩) hroom
    refine mAfter (a := (As.map (rv (vAdr v))).toArray) h3 (va_runSN (As := As.map (rv (vAdr v))) (rest := rest.map (rv (vAdr v))) hfix hM ⟨hcw, by rw [← hy]; exact hts _ hstat, trivial⟩ ⟨mBlind hZk _ _, mPre hZk hKt h2 h3 hZ⟩ rfl (by rw [List.length_map]; exact g1) hlsz ?_ hrest hd ⟨hce, hsl⟩) (fun H1 locs1 hP1 hS1 => hgo H1 locs1 ls h1 hkp hP1 hS1)
    show st.map (rv (vAdr v)) = _
    rw [hst, List.map_append, List.map_reverse]
end MS5
