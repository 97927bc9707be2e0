/-! ===== new long[4][60] ===== -/
section KM
variable {p : Program} {l : Launch} {e : Env} {R : Room} {s : State} {m : MethodId} {args : Array Value} {below : List Frame} {meth : Method} {c : Code} {H : Heap} {locs : List Loc} {cells slots : Nat} {Q : State → Prop}
variable {cc : ByteArray} {pc : Nat} {ls : Array Slot} {rest : List Value} {D : va_G} {cl : List vw_C} {A : Nat → Prop} {a : Nat} {ws : va_W} {H0 : Heap}
theorem k_pushD {new : va_W} (hP : va_P D cl ws H) (hD : va_D A ws) (hA : ∀ q, H.size ≤ q → A q) (hn : ∀ (k : Nat) (q : Nat × va_E), new[k]? = some q → q.1 = H.size + k) : va_D A (ws ++ new) := by
  refine ⟨fun i j p q hi hj e => ?_, fun k q hk => ?_⟩
  · by_cases h1 : i < ws.length
    · rw [List.getElem?_append_left h1] at hi
      by_cases h2 : j < ws.length
      · rw [List.getElem?_append_left h2] at hj
        exact hD.1 i j p q hi hj e
      · rw [List.getElem?_append_right (by omega)] at hj
        have g1 : p.1 < H.size := (hP i p hi).lt
        have g2 := hn _ q hj
        omega
    · rw [List.getElem?_append_right (by omega)] at hi
      have g1 := hn _ p hi
      by_cases h2 : j < ws.length
      · rw [List.getElem?_append_left h2] at hj
        have g2 : q.1 < H.size := (hP j q hj).lt
        omega
      · rw [List.getElem?_append_right (by omega)] at hj
        have g2 := hn _ q hj
        omega
  · by_cases h1 : k < ws.length
    · rw [List.getElem?_append_left h1] at hk
      exact hD.2 k q hk
    · rw [List.getElem?_append_right (by omega)] at hk
      exact hA _ (by rw [hn _ q hk]; omega)
/-- the rows of numbers, as they are made at h -/
def mnaW (cA : Nat → ClassId) (h : Nat) : va_W := [(h, .inl (cA 6, (4, .inr (.inr (.inr (.inr (fun i => if i < 4 then some (h + 1 + i) else none))))))), (h + 1 + 0, .inl (cA 4, (60, .inr (.inl (fun _ => 0))))), (h + 1 + 1, .inl (cA 4, (60, .inr (.inl (fun _ => 0))))), (h + 1 + 2, .inl (cA 4, (60, .inr (.inl (fun _ => 0))))), (h + 1 + 3, .inl (cA 4, (60, .inr (.inl (fun _ => 0)))))]
/-- the outer row when i of its places have been told, as made at h -/
def mnaO (cO : ClassId) (h i : Nat) : Cell := arrV cO 4 (fun j => va_rf (if j < i then some (h + 1 + j) else none))
/-- an inner row -/
def mnaR (cI : ClassId) : Cell := arrV cI 60 (fun _ => .long 0)
/-- the state when i inner rows are made -/
def mnaU (T : State) (cO cI : ClassId) : Nat → State
  | 0 => T.pushCell (mnaO cO T.heap.size 0)
  | i + 1 => ((mnaU T cO cI i).pushCell (mnaR cI)).setCell T.heap.size (mnaO cO T.heap.size (i + 1))
theorem mnaO_tell (cO : ClassId) (h i : Nat) : (mnaO cO h i).setSlot i (.ref (h + 1 + i)) = mnaO cO h (i + 1) := by
  unfold mnaO
  rw [arrV_store]
  refine congrArg (arrV cO 4) (funext fun j => ?_)
  unfold updV
  by_cases e : j = i
  · rw [if_pos e, if_pos (by omega), e]
    rfl
  · rw [if_neg e]
    show va_rf (if j < i then some (h + 1 + j) else none) = va_rf (if j < i + 1 then some (h + 1 + j) else none)
    by_cases q : j < i
    · rw [if_pos q, if_pos (by omega)]
    · rw [if_neg q, if_neg (by omega)]
/-- what the state of i rows holds -/
def mnaI (T : State) (cO cI : ClassId) (i : Nat) (U : State) : Prop := U.heap.size = T.heap.size + 1 + i ∧ U.heap[T.heap.size]? = some (mnaO cO T.heap.size i) ∧ U.vm = T.vm ∧ U.slotsUsed = T.slotsUsed + 4 + i * 60 ∧ (∀ x : Nat, x < T.heap.size → U.heap[x]? = T.heap[x]?) ∧ ∀ j : Nat, j < i → U.heap[T.heap.size + 1 + j]? = some (mnaR cI)
theorem mnaI_of (T : State) (cO cI : ClassId) : ∀ i : Nat, mnaI T cO cI i (mnaU T cO cI i)
  | 0 => by
    refine ⟨?_, State.heap_pushCell_size _ _, rfl, ?_, fun x hx => State.heap_pushCell_of_lt _ _ hx, fun j hj => absurd hj (Nat.not_lt_zero j)⟩
    · show (T.heap.push _).size = _
      rw [Array.size_push]
    · show T.slotsUsed + (mnaO cO T.heap.size 0).slots.size = _
      unfold mnaO
      rw [arrV_size]
  | i + 1 => by
    obtain ⟨g1, g2, g3, g4, g5, g6⟩ := mnaI_of T cO cI i
    show mnaI T cO cI (i + 1) (((mnaU T cO cI i).pushCell (mnaR cI)).setCell T.heap.size (mnaO cO T.heap.size (i + 1)))
    generalize mnaU T cO cI i = U at g1 g2 g3 g4 g5 g6
    have hlow : ∀ x : Nat, x < U.heap.size → (U.pushCell (mnaR cI)).heap[x]? = U.heap[x]? := fun x hx => State.heap_pushCell_of_lt _ _ hx
    refine ⟨?_, State.heap_setCell_self ((hlow _ (by omega)).trans g2), g3, ?_, fun x hx => ?_, fun j hj => ?_⟩
    · show ((U.heap.push _).setIfInBounds _ _).size = _
      rw [Array.size_setIfInBounds, Array.size_push, g1]
      omega
    · show U.slotsUsed + (mnaR cI).slots.size = _
      unfold mnaR
      rw [arrV_size, g4]
      omega
    · rw [State.heap_setCell_other (show (T.heap.size : Nat) ≠ x by omega), hlow x (by omega)]
      exact g5 x hx
    · rw [State.heap_setCell_other (show (T.heap.size : Nat) ≠ T.heap.size + 1 + j by omega)]
      by_cases q : j < i
      · rw [hlow _ (by omega)]
        exact g6 j q
      · have e : T.heap.size + 1 + j = U.heap.size := by omega
        rw [e]
        exact State.heap_pushCell_size _ _
theorem mnaU_top (T : State) (f : JFrame) (cO cI : ClassId) : ∀ i : Nat, mnaU (T.setTop f) cO cI i = (mnaU T cO cI i).setTop f
  | 0 => rfl
  | i + 1 => by
    show ((mnaU (T.setTop f) cO cI i).pushCell (mnaR cI)).setCell T.heap.size (mnaO cO T.heap.size (i + 1)) = _
    rw [mnaU_top T f cO cI i]
    rfl
theorem mnaU_stand {T : State} (X : Stand p l e R s m args below meth c T locs cells slots) (cO cI : ClassId) : ∀ i : Nat, Stand p l e R s m args below meth c (mnaU T cO cI i) locs (cells + 1 + i) (slots + 4 + i * 60)
  | 0 => by
    have h := X.pushed (mnaO cO T.heap.size 0)
    have e : (mnaO cO T.heap.size 0).slots.size = 4 := arrV_size _ _ _
    rw [e] at h
    exact h
  | i + 1 => by
    have Y := (mnaU_stand X cO cI i).pushed (mnaR cI)
    obtain ⟨g1, g2, -, -, -, -⟩ := mnaI_of T cO cI i
    have hlt : T.heap.size < (mnaU T cO cI i).heap.size := g1 ▸ (show T.heap.size < T.heap.size + 1 + i by omega)
    have h := Y.stored ((State.heap_pushCell_of_lt _ _ hlt).trans g2) i (.ref (T.heap.size + 1 + i))
    rw [mnaO_tell] at h
    have e : (mnaR cI).slots.size = 60 := arrV_size _ _ _
    rw [e] at h
    have h2 := h.dropFresh (fun x hx => by
      rw [List.mem_singleton.mp hx]
      exact X.heapGrown)
    have e2 : slots + 4 + (i + 1) * 60 = slots + 4 + i * 60 + 60 := by omega
    rw [e2]
    exact h2
section WP
variable {E : CtlPost} {ev : Env} {d : Bool} {acts : List Action} {u : State}
/-- one inner row is made -/
theorem mna_row {cI cc0 : ClassId} {kI : Class} (hk : u.vm.classes[cI]? = some kI) (hkind : kI.kind = .array cc0 .long) (hl : ¬ 60 > ev.platform.arrayLengthLimit) (hh : ¬ 60 * componentBytes .long > ev.platform.maxHeapBytes) (h1 : u.heap.size < ev.platform.maxCells) (h2 : u.slotsUsed + 60 ≤ ev.platform.maxSlots) {Qa : Addr → Pre} (hq : ∀ acts', Qa u.heap.size d acts' (u.pushCell (mnaR cI))) : wp (multianewarray.make cI [60]) Qa E ev d acts u := by
  rw [multianewarray.make]
  have h0 : ¬ ((60 : Int32) < 0) := by decide
  simp only [wp_bind', W.ite, h0, if_false, wp_pure', W.theClass, hk, hkind, Option.some.injEq, exists_eq_left']
  refine W.newArray_of hk hkind hl hh h1 h2 rfl (fun acts' => ?_)
  have e : ({ cls := cI, slots := Array.replicate 60 (.long 0), vm := .none } : Cell) = mnaR cI := arrV_new (N := 60) cI (.long 0)
  have h3 := hq acts'
  rw [← e] at h3
  exact h3
/-- the turn of the loop that makes row i -/
theorem mna_turn {T : State} {cO cI cc0 : ClassId} {kO kI : Class} (hkO : T.vm.classes[cO]? = some kO) (hkindO : kO.kind = .array cI (.array .long)) (hkI : T.vm.classes[cI]? = some kI) (hkindI : kI.kind = .array cc0 .long) (hl : ¬ 60 > ev.platform.arrayLengthLimit) (hh : ¬ 60 * componentBytes .long > ev.platform.maxHeapBytes) (h1 : T.heap.size + 5 ≤ ev.platform.maxCells) (h2 : T.slotsUsed + 244 ≤ ev.platform.maxSlots) {i : Nat} (hi : i < 4) {Qa : ForInStep PUnit → Pre} (hq : ∀ d' acts', Qa (.yield PUnit.unit) d' acts' (mnaU T cO cI (i + 1))) : wp (do let a ← multianewarray.make cI [60]; writeLoc T.heap.size i (.ref a); Pure.pure (ForInStep.yield PUnit.unit)) Qa E ev d acts (mnaU T cO cI i) := by
  obtain ⟨g1, g2, g3, g4, -, -⟩ := mnaI_of T cO cI i
  have e1 : mnaU T cO cI (i + 1) = ((mnaU T cO cI i).pushCell (mnaR cI)).setCell T.heap.size (mnaO cO T.heap.size (i + 1)) := rfl
  rw [e1] at hq
  generalize mnaU T cO cI i = U at g1 g2 g3 g4 hq
  rw [wp_bind']
  refine mna_row (by rw [g3]; exact hkI) hkindI hl hh (by rw [g1]; omega) (by rw [g4]; omega) (fun acts' => ?_)
  rw [wp_bind', W.writeLoc]
  have hlt : T.heap.size < U.heap.size := g1 ▸ (show T.heap.size < T.heap.size + 1 + i by omega)
  refine ⟨mnaO cO T.heap.size i, (State.heap_pushCell_of_lt _ _ hlt).trans g2, (by intro h; cases h), (by unfold mnaO; rw [arrV_size]; exact hi), ?_, ?_⟩
  · have g3' : U.vm.classes[cO]? = some kO := by
      rw [g3]
      exact hkO
    show (U.pushCell (mnaR cI)).fitsSlot cO .none i (.ref U.heap.size) = true
    have hf : fits (FieldType.array .long) (.ref U.heap.size) = true := rfl
    simp [State.fitsSlot, State.slotType?, g3', hkindO, hf]
  · rw [g1, mnaO_tell, wp_pure']
    exact hq _ _
/-- both dimensions -/
theorem mna_make {T : State} {cO cI cc0 : ClassId} {kO kI : Class} (hkO : T.vm.classes[cO]? = some kO) (hkindO : kO.kind = .array cI (.array .long)) (hkI : T.vm.classes[cI]? = some kI) (hkindI : kI.kind = .array cc0 .long) (hlim : ev.platform.arrayLengthLimit ≥ 60) (hhp : ev.platform.maxHeapBytes ≥ 480) (h1 : T.heap.size + 5 ≤ ev.platform.maxCells) (h2 : T.slotsUsed + 244 ≤ ev.platform.maxSlots) {Qa : Addr → Pre} (hq : ∀ d' acts', Qa T.heap.size d' acts' (mnaU T cO cI 4)) : wp (multianewarray.make cO [4, 60]) Qa E ev d acts T := by
  have h0 : ¬ ((4 : Int32) < 0) := by decide
  have hz : ((4 : Int32) == 0) = false := by decide
  rw [multianewarray.make]
  simp only [wp_bind', W.ite, h0, if_false, wp_pure', W.theClass, hkO, hkindO, Option.some.injEq, exists_eq_left']
  refine W.newArray_of hkO hkindO (show ¬ 4 > _ by omega) (show ¬ 4 * 4 > _ by omega) (by omega) (show T.slotsUsed + 4 ≤ _ by omega) rfl (fun acts' => ?_)
  have e0 : ({ cls := cO, slots := Array.replicate (Int32.toNatClampNeg 4) .null, vm := .none } : Cell) = mnaO cO T.heap.size 0 := by
    refine (arrV_new (N := 4) cO .null).trans (congrArg (arrV cO 4) (funext fun j => ?_))
    rw [if_neg (Nat.not_lt_zero j)]
    rfl
  have e1 : List.range' [:Int32.toNatClampNeg 4].start [:Int32.toNatClampNeg 4].size [:Int32.toNatClampNeg 4].step = [0, 1, 2, 3] := by decide
  have hl : ¬ 60 > ev.platform.arrayLengthLimit := by omega
  have hh : ¬ 60 * componentBytes .long > ev.platform.maxHeapBytes := show ¬ 60 * 8 > _ by omega
  rw [Std.Legacy.Range.forIn_eq_forIn_range', e1, if_neg (by decide), e0, wp_bind', List.forIn_cons, wp_bind']
  refine mna_turn (i := 0) hkO hkindO hkI hkindI hl hh h1 h2 (by decide) (fun d1 a1 => ?_)
  show wp (forIn [1, 2, 3] PUnit.unit _) _ _ _ _ _ _
  rw [List.forIn_cons, wp_bind']
  refine mna_turn (i := 1) hkO hkindO hkI hkindI hl hh h1 h2 (by decide) (fun d2 a2 => ?_)
  show wp (forIn [2, 3] PUnit.unit _) _ _ _ _ _ _
  rw [List.forIn_cons, wp_bind']
  refine mna_turn (i := 2) hkO hkindO hkI hkindI hl hh h1 h2 (by decide) (fun d3 a3 => ?_)
  show wp (forIn [3] PUnit.unit _) _ _ _ _ _ _
  rw [List.forIn_cons, wp_bind']
  refine mna_turn (i := 3) hkO hkindO hkI hkindI hl hh h1 h2 (by decide) (fun d4 a4 => ?_)
  show wp (forIn [] PUnit.unit _) _ _ _ _ _ _
  rw [List.forIn_nil, wp_pure', wp_pure']
  exact hq d4 a4
end WP
theorem k_mna (hexec : p.tables.exec = Jvm.exec) (hb : c.code = cc) {own : String} {index : Nat} (hown : s.vm.findClass own = some m.cls) (hclink : (Cond.classLink own index "[[J").before args s = true) (hover : (Cond.arrayOver (.array .long)).before #[] s = true) (harr : (Cond.arrayClass .long).before args s = true) {cA : Nat → ClassId} (hK : va_K D cl (mTy cA) s) (hP : va_P D cl ws H) (hD : va_D A ws) (hS : va_S A H0 H locs) (hA : ∀ q, H0.size ≤ q → A q) {h : Nat} (hh : H.size = h) (hcells : cells + 5 ≤ R.cells) (hslots : slots + 244 ≤ R.slots) (hdg : decode cc pc = .ok (.multianewarray index 2, 4))
    (kk : ∀ (H1 : Heap), H1.size = h + 5 → va_P D cl (ws ++ mnaW cA h) H1 → va_D A (ws ++ mnaW cA h) → va_S A H0 H1 locs → W p l e R s m args below meth c H1 locs (cells + 5) (slots + 244) Q (F0 m (pc + 4) ls (.ref h :: rest))) : W p l e R s m args below meth c H locs cells slots Q (F0 m pc ls (.int 60 :: .int 4 :: rest)) := by
  subst hh
  intro T hT Xs
  obtain ⟨cI, cO, kO, hfI, -, hkO, hkindO, hfO⟩ := arrayOverA_spec hover
  obtain ⟨cI', kI, cc0, hfI', hkI, hkindI⟩ := Cond.arrayClass_spec harr
  cases Option.some.inj (hfI'.symm.trans hfI)
  have e6 : cO = cA 6 := Option.some.inj (hfO.symm.trans (hK.2 6 _ rfl).2)
  have e4 : cI = cA 4 := Option.some.inj (hfI.symm.trans (hK.2 4 _ rfl).2)
  subst e6
  subst e4
  have hpl : e.platform.magicAccessors = ({} : Platform).magicAccessors := by rw [Xs.admits.platform]
  obtain ⟨c0, hf0, hcl⟩ := Cond.classLink_spec hown hclink e.platform hpl
  cases Option.some.inj (hf0.symm.trans hfO)
  obtain ⟨hg1, hwarm, -⟩ := State.classEntry (e := e) Xs.warmed hcl
  generalize T.vm.noted m.cls index (.cls (cA 6)) = vm₁ at hg1 hwarm
  obtain ⟨kO', hkO', eO⟩ := hwarm.alike.2.2 _ _ hkO
  obtain ⟨kI', hkI', eI⟩ := hwarm.alike.2.2 _ _ hkI
  have hkindO' : kO'.kind = .array (cA 4) (.array .long) := by rw [eO]; exact hkindO
  have hkindI' : kI'.kind = .array cc0 .long := by rw [eI]; exact hkindI
  obtain ⟨hr1, hr2⟩ := Xs.roomAbove (a := 5) (b := 244) hcells hslots
  have X2 := mnaU_stand (Xs.noted hwarm) (cA 6) (cA 4) 4
  obtain ⟨f1, f2, -, -, hold, hrow⟩ := mnaI_of (T.setVm vm₁) (cA 6) (cA 4) 4
  have hTh : (T.setVm vm₁).heap = H := hT
  have hTs : T.heap.size = H.size := by rw [hT]
  rw [hTh] at f1 f2 hold hrow
  have step2 : ∀ target, Steps p.tables e below ((mnaU (T.setVm vm₁) (cA 6) (cA 4) 4).setTop (F0 m (pc + 4) ls (.ref T.heap.size :: rest))) target → Steps p.tables e below (T.setTop (F0 m pc ls (.int 60 :: .int 4 :: rest))) target := by
    intro target hrest
    jvm_step Xs.here [hexec, hb, hdg]
    rw [multianewarray.sem, wp_bind', W.resolveClassAt_links (State.method?_setTop _ Xs.here.top) hg1, wp_bind', W.popN, if_neg (by decide)]
    refine ⟨_, State.topJava?_setTop' (s := T.setVm vm₁) _ Xs.here.top, [.int 4, .int 60], rest, rfl, rfl, ?_⟩
    rw [State.setVm_setTop, State.setTop_setTop]
    simp only [List.mapM_cons, List.mapM_nil, wp_bind', wp_pure']
    refine mna_make (T := (T.setVm vm₁).setTop (F0 m pc ls rest)) hkO' hkindO' hkI' hkindI' (by rw [Launch.admits_arrayLengthLimit Xs.admits]; decide) (by rw [Launch.admits_maxHeapBytes Xs.admits]; decide) hr1 hr2 (fun d' acts' => ?_)
    rw [mnaU_top]
    simp only [wp_bind', W.mark, W.pushRef, State.topJava?_setTop' _ X2.here.top, Option.some.injEq, exists_eq_left', State.setTop_setTop, State.heap_setTop]
    intro acts
    simp [jvm, X2.here.top]
    exact hrest
  generalize mnaU (T.setVm vm₁) (cA 6) (cA 4) 4 = F at f1 f2 hold hrow X2 step2
  have hk : ∀ (k : Nat) (y : Nat × va_E), ws[k]? = some y → F.heap[y.1]? = H[y.1]? := fun k y hy => hold y.1 ((hP k y hy).lt)
  have hTs : T.heap.size = H.size := by rw [hT]
  rw [hTs] at step2
  have k2 := kk F.heap (by rw [f1]) ((hP.kept hk).app (fun k y hy => ?_)) (k_pushD hP hD (fun q hq => hA q (Nat.le_trans hS.1 hq)) (fun k q hq => ?_)) ⟨Nat.le_trans hS.1 (by rw [f1]; omega), fun y h1 h2 => (hold y (Nat.lt_of_lt_of_le h1 hS.1)).trans (hS.2.1 y h1 h2), hS.2.2⟩
  · obtain ⟨t, a1, b1⟩ := k2 F rfl X2
    exact ⟨t, step2 t a1, b1⟩
  · unfold mnaW at hy
    match k, hy with
    | 0, hy => cases hy; exact f2
    | 1, hy => cases hy; exact hrow 0 (by decide)
    | 2, hy => cases hy; exact hrow 1 (by decide)
    | 3, hy => cases hy; exact hrow 2 (by decide)
    | 4, hy => cases hy; exact hrow 3 (by decide)
    | k + 5, hy => exact absurd hy (by simp)
  · unfold mnaW at hq
    match k, hq with
    | 0, hq => cases hq; rfl
    | 1, hq => cases hq; rfl
    | 2, hq => cases hq; rfl
    | 3, hq => cases hq; rfl
    | 4, hq => cases hq; rfl
    | k + 5, hq => exact absurd hq (by simp)
end KM
