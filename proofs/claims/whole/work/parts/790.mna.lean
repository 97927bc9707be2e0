/-! ===== new long[4][60] ===== -/
section KM
variable {p : Program} {l : Launch} {e : Env} {R : Room} {s : State} {m : MethodId} {args : Array Value} {below : List Frame} {meth : Method} {c : Code} {H : Heap} {locs : List Loc} {cells slots : Nat} {Q : State → Prop}
variable {cc : ByteArray} {pc : Nat} {ls : Array Slot} {rest : List Value} {D : va_G} {cl : List vw_C} {A : Nat → Prop} {a : Nat} {ws : va_W} {H0 : Heap}
theorem k_pushD {new : va_W} (hP : va_P D cl ws H) (hD : va_D A ws) (hA : ∀ q, H.size ≤ q → A q) (hn : ∀ (k : Nat) (q : Nat × va_E), new[k]? = some q → q.1 = H.size + k) : va_D A (ws ++ new) := by
  refine ⟨fun i j p q hi hj e => ?_, fun k q hk => ?_⟩
  · by_cases h1 : i < ws.length
    · rw [List.getElem?_append_left h1] at hi
      by_cases h2 : j < ws.length
      · rw [List.getElem?_append_left h2] at hj
        exact hD.1 i j p q hi hj e
      · rw [List.getElem?_append_right (by omega)] at hj
        have g1 : p.1 < H.size := (hP i p hi).lt
        have g2 := hn _ q hj
        omega
    · rw [List.getElem?_append_right (by omega)] at hi
      have g1 := hn _ p hi
      by_cases h2 : j < ws.length
      · rw [List.getElem?_append_left h2] at hj
        have g2 : q.1 < H.size := (hP j q hj).lt
        omega
      · rw [List.getElem?_append_right (by omega)] at hj
        have g2 := hn _ q hj
        omega
  · by_cases h1 : k < ws.length
    · rw [List.getElem?_append_left h1] at hk
      exact hD.2 k q hk
    · rw [List.getElem?_append_right (by omega)] at hk
      exact hA _ (by rw [hn _ q hk]; omega)
/-- the rows of numbers, as they are made at h -/
def mnaW (cA : Nat → ClassId) (h : Nat) : va_W := [(h, .inl (cA 6, (4, .inr (.inr (.inr (.inr (fun i => if i < 4 then some (h + 1 + i) else none))))))), (h + 1 + 0, .inl (cA 4, (60, .inr (.inl (fun _ => 0))))), (h + 1 + 1, .inl (cA 4, (60, .inr (.inl (fun _ => 0))))), (h + 1 + 2, .inl (cA 4, (60, .inr (.inl (fun _ => 0))))), (h + 1 + 3, .inl (cA 4, (60, .inr (.inl (fun _ => 0)))))]
theorem outer_i (c : ClassId) (h : Nat) : ∀ i : Nat, Jvm.Free.Multi.outerC c 4 h i = arrV c 4 (fun j => va_rf (if j < i then some (h + 1 + j) else none))
  | 0 => by
    show ({ cls := c, slots := Array.replicate 4 .null, vm := .none } : Cell) = _
    rw [arrV_new]
    refine congrArg (arrV c 4) (funext fun j => ?_)
    rw [if_neg (Nat.not_lt_zero j)]
    rfl
  | i + 1 => by
    show (Jvm.Free.Multi.outerC c 4 h i).setSlot i (.ref (h + 1 + i)) = _
    rw [outer_i c h i, arrV_store]
    refine congrArg (arrV c 4) (funext fun j => ?_)
    unfold updV
    by_cases e : j = i
    · rw [if_pos e, if_pos (by omega), e]
      rfl
    · rw [if_neg e]
      show va_rf (if j < i then some (h + 1 + j) else none) = va_rf (if j < i + 1 then some (h + 1 + j) else none)
      by_cases q : j < i
      · rw [if_pos q, if_pos (by omega)]
      · rw [if_neg q, if_neg (by omega)]
theorem outer_eq (c : ClassId) (h : Nat) : Jvm.Free.Multi.outerC c 4 h 4 = vp_cell c (4, .inr (.inr (.inr (.inr (fun i => if i < 4 then some (h + 1 + i) else none))))) := by
  rw [vp_cell_q]
  exact outer_i c h 4
theorem inner_eq (c : ClassId) : Jvm.Free.Multi.innerC c 60 (defaultValue .long) = vp_cell c (60, .inr (.inl (fun _ => 0))) := by
  rw [vp_cell_l]
  exact arrV_new (N := 60) c (.long 0)
theorem k_mna (hexec : p.tables.exec = Jvm.exec) (hb : c.code = cc) {own : String} {index : Nat} (hown : s.vm.findClass own = some m.cls) (hclink : (Cond.classLink own index "[[J").before args s = true) (hover : (Cond.arrayOver (.array .long)).before #[] s = true) (harr : (Cond.arrayClass .long).before args s = true) {cA : Nat → ClassId} (hK : va_K D cl (mTy cA) s) (hP : va_P D cl ws H) (hD : va_D A ws) (hS : va_S A H0 H locs) (hA : ∀ q, H0.size ≤ q → A q) {h : Nat} (hh : H.size = h) (hcells : cells + 5 ≤ R.cells) (hslots : slots + 244 ≤ R.slots) (hdg : decode cc pc = .ok (.multianewarray index 2, 4))
    (kk : ∀ (H1 : Heap), H1.size = h + 5 → va_P D cl (ws ++ mnaW cA h) H1 → va_D A (ws ++ mnaW cA h) → va_S A H0 H1 locs → W p l e R s m args below meth c H1 locs (cells + 5) (slots + 244) Q (F0 m (pc + 4) ls (.ref h :: rest))) : W p l e R s m args below meth c H locs cells slots Q (F0 m pc ls (.int 60 :: .int 4 :: rest)) := by
  subst hh
  intro T hT Xs
  obtain ⟨vm₁, cO, comp, -, fA, fC, -, -, X', step⟩ := Xs.multianewarray2F (ty := .long) hexec hown hclink (over_moved (Vm.Alike.refl _) hover) harr (g := F0 m pc ls (.int 60 :: .int 4 :: rest)) rfl (by rw [hb]; exact hdg) rfl (by decide) (by decide) (by decide) (by decide) (by decide) rfl rfl (by show cells + (1 + 4) ≤ _; omega) (by show slots + (4 + 4 * 60) ≤ _; omega)
  have e6 : cO = cA 6 := Option.some.inj (fA.symm.trans (hK.2 6 _ rfl).2)
  have e4 : comp = cA 4 := Option.some.inj (fC.symm.trans (hK.2 4 _ rfl).2)
  subst e6
  subst e4
  have hTh : (T.setVm vm₁).heap = H := hT
  obtain ⟨f1, f2, -, -⟩ := Jvm.Free.Multi.fill_facts (T.setVm vm₁) (cA 6) (cA 4) 4 60 (defaultValue .long) 4
  have hold : ∀ x : Nat, x < H.size → (Jvm.Free.Multi.fill (T.setVm vm₁) (cA 6) (cA 4) 4 60 (defaultValue .long) 4).heap[x]? = H[x]? := fun x hx => by
    have := Jvm.Free.Multi.fill_old (T.setVm vm₁) (cA 6) (cA 4) 4 60 (defaultValue .long) (a := x) (by rw [hTh]; exact hx) 4
    rw [hTh] at this
    exact this
  have hrow : ∀ j : Nat, j < 4 → (Jvm.Free.Multi.fill (T.setVm vm₁) (cA 6) (cA 4) 4 60 (defaultValue .long) 4).heap[H.size + 1 + j]? = some (vp_cell (cA 4) (60, .inr (.inl (fun _ => 0)))) := fun j hj => by
    have := Jvm.Free.Multi.fill_inner (T.setVm vm₁) (cA 6) (cA 4) 4 60 (defaultValue .long) 4 j hj
    rw [hTh, inner_eq] at this
    exact this
  rw [hTh] at f1 f2
  rw [outer_eq] at f2
  have X2 : Stand p l e R s m args below meth c (Jvm.Free.Multi.fill (T.setVm vm₁) (cA 6) (cA 4) 4 60 (defaultValue .long) 4) locs (cells + 1 + 4) (slots + 4 + 4 * 60) := X'
  have step2 : ∀ target, Steps p.tables e below ((Jvm.Free.Multi.fill (T.setVm vm₁) (cA 6) (cA 4) 4 60 (defaultValue .long) 4).setTop (F0 m (pc + 4) ls (.ref T.heap.size :: rest))) target → Steps p.tables e below (T.setTop (F0 m pc ls (.int 60 :: .int 4 :: rest))) target := step
  generalize Jvm.Free.Multi.fill (T.setVm vm₁) (cA 6) (cA 4) 4 60 (defaultValue .long) 4 = F at f1 f2 hold hrow X2 step2
  have hk : ∀ (k : Nat) (y : Nat × va_E), ws[k]? = some y → F.heap[y.1]? = H[y.1]? := fun k y hy => hold y.1 ((hP k y hy).lt)
  have hTs : T.heap.size = H.size := by rw [hT]
  rw [hTs] at step2
  have k2 := kk F.heap (by rw [f1]) ((hP.kept hk).app (fun k y hy => ?_)) (k_pushD hP hD (fun q hq => hA q (Nat.le_trans hS.1 hq)) (fun k q hq => ?_)) ⟨Nat.le_trans hS.1 (by rw [f1]; omega), fun y h1 h2 => (hold y (Nat.lt_of_lt_of_le h1 hS.1)).trans (hS.2.1 y h1 h2), hS.2.2⟩
  · obtain ⟨t, a1, b1⟩ := k2 F rfl X2
    exact ⟨t, step2 t a1, b1⟩
  · unfold mnaW at hy
    match k, hy with
    | 0, hy => cases hy; exact f2
    | 1, hy => cases hy; exact hrow 0 (by decide)
    | 2, hy => cases hy; exact hrow 1 (by decide)
    | 3, hy => cases hy; exact hrow 2 (by decide)
    | 4, hy => cases hy; exact hrow 3 (by decide)
    | k + 5, hy => exact absurd hy (by simp)
  · unfold mnaW at hq
    match k, hq with
    | 0, hq => cases hq; rfl
    | 1, hq => cases hq; rfl
    | 2, hq => cases hq; rfl
    | 3, hq => cases hq; rfl
    | 4, hq => cases hq; rfl
    | k + 5, hq => exact absurd hq (by simp)
end KM
