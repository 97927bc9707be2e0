/-! ===== the texts: String.length and charAt by contract (by program) ===== -/
def tLen : List Nat := [4, 5, 3, 4, 6, 5, 5, 5, 4, 2]
def tByt : List (List Int32) := [[108, 97, 110, 100], [121, 101, 97, 114, 115], [108, 97, 119], [111, 100, 100, 115], [112, 101, 114, 115, 111, 110], [108, 105, 107, 101, 115], [104, 97, 116, 101, 115], [119, 114, 111, 110, 103], [112, 111, 115, 116], [97, 116]]
def nA : Nat → Prop := fun _ => False
def tW (adK adV : Nat → Nat) (A : Nat → Prop) (U : State) (H : Heap) : Prop := vk_S 10 tLen tByt adK adV A U H ∧ va_Z "java/lang/String" "COMPACT_STRINGS" "Z" (.int 1) A U H ∧ va_Zq "jdk/internal/util/Preconditions" "SIOOBE_FORMATTER" "Ljava/util/function/BiFunction;" A U H
theorem tW_moved {adK adV : Nat → Nat} {A : Nat → Prop} {u U : State} {H : Heap} (hvm : u.vm.Alike U.vm) (h : tW adK adV A u H) : tW adK adV A U H := ⟨vk_S.moved hvm h.1, va_Z.moved hvm h.2.1, va_Zq.moved hvm h.2.2⟩
theorem tW_kept {adK adV : Nat → Nat} {A : Nat → Prop} {U : State} {H H1 : Heap} (h : tW adK adV A U H) (hq : ∀ a : Nat, a < H.size → ¬ A a → H1[a]? = H[a]?) : tW adK adV A U H1 := ⟨h.1.kept hq, h.2.1.kept hq, h.2.2.kept hq⟩
theorem tW_narrow {adK adV : Nat → Nat} {A B : Nat → Prop} {U : State} {H : Heap} (h : tW adK adV A U H) (hAB : ∀ q, B q → A q) : tW adK adV B U H := ⟨h.1.narrow hAB, h.2.1.narrow hAB, h.2.2.narrow hAB⟩
def tRm (k : Nat) : Room := { frames := k, cells := 0, slots := 0, locals := 30 * k }
def tPc (adK adV : Nat → Nat) (av : List Value) : Array Value → State → Prop := va_Pc av (fun U => tW adK adV nA U U.heap)
theorem tBlind (adK adV : Nat → Nat) (av : List Value) : FrameBlind (tPc adK adV av) := fun a U g mk q => by
  obtain ⟨e, h⟩ := q
  exact ⟨e, tW_moved (u := U) (U := U.calling g mk a) (H := U.heap) (Vm.Alike.refl U.vm) h⟩
theorem tPre {adK adV : Nat → Nat} {av : List Value} {s : State} {H : Heap} {locs : List Loc} (h : tW adK adV nA s s.heap) (hS : va_S nA s.heap H locs) : ∀ U : State, U.heap = H → s.WarmedH U.vm → tPc adK adV av av.toArray U := by
  intro U hU hW
  refine ⟨rfl, ?_⟩
  show tW adK adV nA U U.heap
  rw [hU]
  exact tW_moved hW.alike (tW_kept h hS.2.1)
def tQi (x : Int32) : Array Value → State → Outcome → State → Prop := va_Qi (S := Unit) (fun r _ => r = x) (fun _ _ => True) nA
def tQv : Array Value → State → Outcome → State → Prop := va_Qv (S := Unit) (fun _ => True) (fun _ _ => True) nA
theorem gw_in {y : MethodName} {b : ByteArray} {n : Nat} {r : Option FieldType} (h : Cond.code y b n r ∈ GW0) : GoodIn GW0 (Cond.code y b n r :: GW0) := by
  intro w hw
  rcases List.mem_cons.mp hw with rfl | hw
  · exact ⟨h, good_of_word (GW0_good _ h)⟩
  · exact ⟨hw, good_of_word (GW0_good _ hw)⟩
theorem jcd_coder : Cond.code ⟨"java/lang/String", "coder", "()B"⟩ prog_14_method_152_code 1 (some .byte) ∈ GW0 := gk ck_3 24 rfl rfl
theorem jcd_length : Cond.code ⟨"java/lang/String", "length", "()I"⟩ prog_14_method_54_code 1 (some .int) ∈ GW0 := gk ck_3 20 rfl rfl
theorem jcd_isLatin1 : Cond.code ⟨"java/lang/String", "isLatin1", "()Z"⟩ prog_14_method_154_code 1 (some .boolean) ∈ GW0 := gk ck_3 34 rfl rfl
theorem jcd_pci : Cond.code ⟨"jdk/internal/util/Preconditions", "checkIndex", "(IILjava/util/function/BiFunction;)I"⟩ prog_19_method_11_code 3 (some .int) ∈ GW0 := gk ck_3 45 rfl rfl
theorem jcd_ci : Cond.code ⟨"java/lang/String", "checkIndex", "(II)V"⟩ prog_14_method_155_code 2 none ∈ GW0 := gk ck_3 40 rfl rfl
theorem jcd_lca : Cond.code ⟨"java/lang/StringLatin1", "charAt", "([BI)C"⟩ prog_15_method_2_code 2 (some .char) ∈ GW0 := gk ck_3 37 rfl rfl
theorem jcd_charAt : Cond.code ⟨"java/lang/String", "charAt", "(I)C"⟩ prog_14_method_56_code 2 (some .char) ∈ GW0 := gk ck_3 30 rfl rfl
set_option maxHeartbeats 4000000 in
set_option maxRecDepth 100000 in
theorem j_coder {adK adV : Nat → Nat} (l : Launch) {i : Nat} (hi : i < 10) : Met l ⟨"java/lang/String", "coder", "()B"⟩ (Cond.code ⟨"java/lang/String", "coder", "()B"⟩ prog_14_method_152_code 1 (some .byte) :: GW0) (tRm 0) (tPc adK adV [.ref (adK i)]) (tQi 0) 0 0 nA := by
  refine Met.ofW (cc := prog_14_method_152_code) (maxL := 1) (ret := (some .byte)) (by decide) rfl ?_
  intro p e s m args below meth c s₁ B hml hv
  obtain ⟨rfl, hv⟩ := hv
  have hx := B.exec
  have hb := B.bytes
  have hr := B.returns
  have hts := atoms_spec (ws := (Cond.code ⟨"java/lang/String", "coder", "()B"⟩ prog_14_method_152_code 1 (some .byte) :: GW0)) B.pre
  have hG : ∀ w ∈ GW0, w.before [.ref (adK i)].toArray s = true := fun w hw => hts w (List.mem_cons_of_mem _ hw)
  have hown : s.vm.findClass "java/lang/String" = some m.cls := findClass_of_methodNamed B.named
  have hlocks := B.notSynchronized
  have hl := lv_entry ([.ref (adK i)]) (n := 1) (Nat.le_of_ble_eq_true rfl)
  rw [lg_entry_eq]
  generalize (lg_sl ([.ref (adK i)]) ++ List.replicate (1 - (lg_sl ([.ref (adK i)])).length) Slot.unset).toArray = ls at hl ⊢
  have hl : lv_has ls 1 [(0, .ref (adK i))] := hl
  have hS : va_S nA s.heap s.heap [] := va_S.rf
  have hv : tW adK adV nA s s.heap := hv
  have hvv := hv
  obtain ⟨hV, hZ, hF⟩ := hvv
  refine va_gets hx hb hZ hS hown (hG _ (gk ck_3 25 rfl rfl)) (fun _ h => h) (show decode prog_14_method_152_code 0 = .ok (.getstatic 38, 3) by decide +kernel) ?_
  refine lv_if_eq hx hb (show decode prog_14_method_152_code 3 = .ok (.ifCond .eq 10, 3) by decide +kernel) (tgt := 13) rfl (fun h => absurd h (by decide)) (fun _ => ?_)
  refine lv_aload_n hx hb (show decode prog_14_method_152_code 6 = .ok (.aload_n 0, 1) by decide +kernel) rfl (lv_at hl 0 rfl) ?_
  refine vk_getf hx hb (hV.1 i hi).2.1 hS hown (hG _ (gk ck_9 4 rfl rfl)) (fun _ h => h) (show decode prog_14_method_152_code 7 = .ok (.getfield 15, 3) by decide +kernel) ?_
  refine lv_goto hx hb (show decode prog_14_method_152_code 10 = .ok (.goto 4, 3) by decide +kernel) (tgt := 14) rfl ?_
  exact W.zret (ty := .byte) hx hb hr rfl (fun t ht _ => ⟨⟨_, (), rfl, rfl, trivial⟩, hS.F ht⟩) hS.2.2 (show decode prog_14_method_152_code 14 = .ok (.ireturn, 1) by decide +kernel) hlocks
set_option maxHeartbeats 4000000 in
set_option maxRecDepth 100000 in
theorem j_isLatin1 {adK adV : Nat → Nat} (l : Launch) {i : Nat} (hi : i < 10) : Met l ⟨"java/lang/String", "isLatin1", "()Z"⟩ (Cond.code ⟨"java/lang/String", "isLatin1", "()Z"⟩ prog_14_method_154_code 1 (some .boolean) :: GW0) (tRm 0) (tPc adK adV [.ref (adK i)]) (tQi 1) 0 0 nA := by
  refine Met.ofW (cc := prog_14_method_154_code) (maxL := 1) (ret := (some .boolean)) (by decide) rfl ?_
  intro p e s m args below meth c s₁ B hml hv
  obtain ⟨rfl, hv⟩ := hv
  have hx := B.exec
  have hb := B.bytes
  have hr := B.returns
  have hts := atoms_spec (ws := (Cond.code ⟨"java/lang/String", "isLatin1", "()Z"⟩ prog_14_method_154_code 1 (some .boolean) :: GW0)) B.pre
  have hG : ∀ w ∈ GW0, w.before [.ref (adK i)].toArray s = true := fun w hw => hts w (List.mem_cons_of_mem _ hw)
  have hown : s.vm.findClass "java/lang/String" = some m.cls := findClass_of_methodNamed B.named
  have hlocks := B.notSynchronized
  have hl := lv_entry ([.ref (adK i)]) (n := 1) (Nat.le_of_ble_eq_true rfl)
  rw [lg_entry_eq]
  generalize (lg_sl ([.ref (adK i)]) ++ List.replicate (1 - (lg_sl ([.ref (adK i)])).length) Slot.unset).toArray = ls at hl ⊢
  have hl : lv_has ls 1 [(0, .ref (adK i))] := hl
  have hS : va_S nA s.heap s.heap [] := va_S.rf
  have hv : tW adK adV nA s s.heap := hv
  have hvv := hv
  obtain ⟨hV, hZ, hF⟩ := hvv
  refine va_gets hx hb hZ hS hown (hG _ (gk ck_3 25 rfl rfl)) (fun _ h => h) (show decode prog_14_method_154_code 0 = .ok (.getstatic 38, 3) by decide +kernel) ?_
  refine lv_if_eq hx hb (show decode prog_14_method_154_code 3 = .ok (.ifCond .eq 14, 3) by decide +kernel) (tgt := 17) rfl (fun h => absurd h (by decide)) (fun _ => ?_)
  refine lv_aload_n hx hb (show decode prog_14_method_154_code 6 = .ok (.aload_n 0, 1) by decide +kernel) rfl (lv_at hl 0 rfl) ?_
  refine vk_getf hx hb (hV.1 i hi).2.1 hS hown (hG _ (gk ck_9 4 rfl rfl)) (fun _ h => h) (show decode prog_14_method_154_code 7 = .ok (.getfield 15, 3) by decide +kernel) ?_
  refine lv_if_ne hx hb (show decode prog_14_method_154_code 10 = .ok (.ifCond .ne 7, 3) by decide +kernel) (tgt := 17) rfl (fun h => absurd rfl h) (fun _ => ?_)
  refine lv_iconst hx hb (show decode prog_14_method_154_code 13 = .ok (.iconst 1, 1) by decide +kernel) (v := 1) rfl ?_
  refine lv_goto hx hb (show decode prog_14_method_154_code 14 = .ok (.goto 4, 3) by decide +kernel) (tgt := 18) rfl ?_
  exact W.zret (ty := .boolean) hx hb hr rfl (fun t ht _ => ⟨⟨_, (), rfl, rfl, trivial⟩, hS.F ht⟩) hS.2.2 (show decode prog_14_method_154_code 18 = .ok (.ireturn, 1) by decide +kernel) hlocks
theorem tShr : ∀ i, i < 10 → Int32.ofNat (tLen.getD i 0) >>> ((0 : Int32) &&& 31) = nI (tLen.getD i 0) := by decide
set_option maxHeartbeats 4000000 in
set_option maxRecDepth 100000 in
theorem j_length {adK adV : Nat → Nat} (l : Launch) {i : Nat} (hi : i < 10) : Met l ⟨"java/lang/String", "length", "()I"⟩ (Cond.code ⟨"java/lang/String", "length", "()I"⟩ prog_14_method_54_code 1 (some .int) :: GW0) (tRm 1) (tPc adK adV [.ref (adK i)]) (tQi (nI (tLen.getD i 0))) 0 0 nA := by
  refine Met.ofW (cc := prog_14_method_54_code) (maxL := 1) (ret := (some .int)) (by decide) rfl ?_
  intro p e s m args below meth c s₁ B hml hv
  obtain ⟨rfl, hv⟩ := hv
  have hx := B.exec
  have hb := B.bytes
  have hr := B.returns
  have hts := atoms_spec (ws := (Cond.code ⟨"java/lang/String", "length", "()I"⟩ prog_14_method_54_code 1 (some .int) :: GW0)) B.pre
  have hG : ∀ w ∈ GW0, w.before [.ref (adK i)].toArray s = true := fun w hw => hts w (List.mem_cons_of_mem _ hw)
  have hown : s.vm.findClass "java/lang/String" = some m.cls := findClass_of_methodNamed B.named
  have hlocks := B.notSynchronized
  have hl := lv_entry ([.ref (adK i)]) (n := 1) (Nat.le_of_ble_eq_true rfl)
  rw [lg_entry_eq]
  generalize (lg_sl ([.ref (adK i)]) ++ List.replicate (1 - (lg_sl ([.ref (adK i)])).length) Slot.unset).toArray = ls at hl ⊢
  have hl : lv_has ls 1 [(0, .ref (adK i))] := hl
  have hS : va_S nA s.heap s.heap [] := va_S.rf
  have hv : tW adK adV nA s s.heap := hv
  have hvv := hv
  obtain ⟨hV, hZ, hF⟩ := hvv
  refine lv_aload_n hx hb (show decode prog_14_method_54_code 0 = .ok (.aload_n 0, 1) by decide +kernel) rfl (lv_at hl 0 rfl) ?_
  refine vk_getf hx hb (hV.1 i hi).2.2.1 hS hown (hG _ (gk ck_9 3 rfl rfl)) (fun _ h => h) (show decode prog_14_method_54_code 1 = .ok (.getfield 9, 3) by decide +kernel) ?_
  refine va_tlen hx hb (hV.1 i hi).2.2.2 hS rfl (show decode prog_14_method_54_code 4 = .ok (.arraylength, 1) by decide +kernel) ?_
  refine lv_aload_n hx hb (show decode prog_14_method_54_code 5 = .ok (.aload_n 0, 1) by decide +kernel) rfl (lv_at hl 0 rfl) ?_
  refine va_calli (S := Unit) (B := fun _ _ => True) (A1 := nA) (va_runV (C := "java/lang/String") (b := (adK i)) (As := []) (rest := [.int (Int32.ofNat (tLen.getD i 0))]) ⟨hx, hb, hml, hown, hG⟩ (j_coder l hi) ⟨callB_of 0 hG (gw_in jcd_coder) rfl rfl rfl (hG _ (gk ck_1 15 rfl rfl)) (hG _ (gk ck_3 21 rfl rfl)) ⟨by decide, by decide, by decide +kernel⟩ ⟨Nat.le_of_ble_eq_true rfl, Nat.le_of_ble_eq_true rfl⟩, hG _ (gk ck_3 22 rfl rfl), hG _ (gk ck_3 23 rfl rfl)⟩ ⟨tBlind _ _ _, vk_recv hV hi hS, tPre hv hS⟩ rfl rfl hl.1 rfl (lv_room (Nat.le_of_ble_eq_true rfl)) (show decode prog_14_method_54_code 6 = .ok (.invokevirtual 335, 3) by decide +kernel) ⟨Nat.le_refl _, Nat.le_refl _⟩) hS (fun _ _ h => h) (fun _ h => h) (fun r u t H1 locs1 ht hvm hw hB hz1 hk1 hS1 => ?_)
  subst hw
  clear hS
  have hS := hS1
  refine lv_ishr hx hb (show decode prog_14_method_54_code 9 = .ok (.ishr, 1) by decide +kernel) ?_
  exact W.iret hx hb hr (fun t ht _ => ⟨⟨_, (), rfl, tShr i hi, trivial⟩, hS.F ht⟩) hS.2.2 (show decode prog_14_method_54_code 10 = .ok (.ireturn, 1) by decide +kernel) hlocks
set_option maxHeartbeats 4000000 in
set_option maxRecDepth 100000 in
theorem j_pci {adK adV : Nat → Nat} (l : Launch) {x y : Int32} {fv : Value} (hf : fv = .null ∨ ∃ t, fv = .ref t) (h0 : ¬ x < 0) (h1 : x < y) : Met l ⟨"jdk/internal/util/Preconditions", "checkIndex", "(IILjava/util/function/BiFunction;)I"⟩ (Cond.code ⟨"jdk/internal/util/Preconditions", "checkIndex", "(IILjava/util/function/BiFunction;)I"⟩ prog_19_method_11_code 3 (some .int) :: GW0) (tRm 0) (tPc adK adV [.int x, .int y, fv]) (tQi x) 0 0 nA := by
  rcases hf with rfl | ⟨t, rfl⟩
  ·
    refine Met.ofW (cc := prog_19_method_11_code) (maxL := 3) (ret := (some .int)) (by decide) rfl ?_
    intro p e s m args below meth c s₁ B hml hv
    obtain ⟨rfl, hv⟩ := hv
    have hx := B.exec
    have hb := B.bytes
    have hr := B.returns
    have hts := atoms_spec (ws := (Cond.code ⟨"jdk/internal/util/Preconditions", "checkIndex", "(IILjava/util/function/BiFunction;)I"⟩ prog_19_method_11_code 3 (some .int) :: GW0)) B.pre
    have hG : ∀ w ∈ GW0, w.before [.int x, .int y, .null].toArray s = true := fun w hw => hts w (List.mem_cons_of_mem _ hw)
    have hown : s.vm.findClass "jdk/internal/util/Preconditions" = some m.cls := findClass_of_methodNamed B.named
    have hlocks := B.notSynchronized
    have hl := lv_entry ([.int x, .int y, .null]) (n := 3) (Nat.le_of_ble_eq_true rfl)
    rw [lg_entry_eq]
    generalize (lg_sl ([.int x, .int y, .null]) ++ List.replicate (3 - (lg_sl ([.int x, .int y, .null])).length) Slot.unset).toArray = ls at hl ⊢
    have hl : lv_has ls 3 [(0, .int x), (1, .int y), (2, .null)] := hl
    have hS : va_S nA s.heap s.heap [] := va_S.rf
    have hv : tW adK adV nA s s.heap := hv
    have hvv := hv
    obtain ⟨hV, hZ, hF⟩ := hvv
    refine lv_iload_n hx hb (show decode prog_19_method_11_code 0 = .ok (.iload_n 0, 1) by decide +kernel) rfl (lv_at hl 0 rfl) ?_
    refine lv_if_lt hx hb (show decode prog_19_method_11_code 1 = .ok (.ifCond .lt 8, 3) by decide +kernel) (tgt := 9) rfl (fun h => absurd h h0) (fun _ => ?_)
    refine lv_iload_n hx hb (show decode prog_19_method_11_code 4 = .ok (.iload_n 0, 1) by decide +kernel) rfl (lv_at hl 0 rfl) ?_
    refine lv_iload_n hx hb (show decode prog_19_method_11_code 5 = .ok (.iload_n 1, 1) by decide +kernel) rfl (lv_at hl 1 rfl) ?_
    refine lv_icmp_lt hx hb (show decode prog_19_method_11_code 6 = .ok (.if_icmp .lt 10, 3) by decide +kernel) (tgt := 16) rfl (fun _ => ?_) (fun h => absurd h1 h)
    refine lv_iload_n hx hb (show decode prog_19_method_11_code 16 = .ok (.iload_n 0, 1) by decide +kernel) rfl (lv_at hl 0 rfl) ?_
    exact W.iret hx hb hr (fun t ht _ => ⟨⟨_, (), rfl, rfl, trivial⟩, hS.F ht⟩) hS.2.2 (show decode prog_19_method_11_code 17 = .ok (.ireturn, 1) by decide +kernel) hlocks
  ·
    refine Met.ofW (cc := prog_19_method_11_code) (maxL := 3) (ret := (some .int)) (by decide) rfl ?_
    intro p e s m args below meth c s₁ B hml hv
    obtain ⟨rfl, hv⟩ := hv
    have hx := B.exec
    have hb := B.bytes
    have hr := B.returns
    have hts := atoms_spec (ws := (Cond.code ⟨"jdk/internal/util/Preconditions", "checkIndex", "(IILjava/util/function/BiFunction;)I"⟩ prog_19_method_11_code 3 (some .int) :: GW0)) B.pre
    have hG : ∀ w ∈ GW0, w.before [.int x, .int y, .ref t].toArray s = true := fun w hw => hts w (List.mem_cons_of_mem _ hw)
    have hown : s.vm.findClass "jdk/internal/util/Preconditions" = some m.cls := findClass_of_methodNamed B.named
    have hlocks := B.notSynchronized
    have hl := lv_entry ([.int x, .int y, .ref t]) (n := 3) (Nat.le_of_ble_eq_true rfl)
    rw [lg_entry_eq]
    generalize (lg_sl ([.int x, .int y, .ref t]) ++ List.replicate (3 - (lg_sl ([.int x, .int y, .ref t])).length) Slot.unset).toArray = ls at hl ⊢
    have hl : lv_has ls 3 [(0, .int x), (1, .int y), (2, .ref t)] := hl
    have hS : va_S nA s.heap s.heap [] := va_S.rf
    have hv : tW adK adV nA s s.heap := hv
    have hvv := hv
    obtain ⟨hV, hZ, hF⟩ := hvv
    refine lv_iload_n hx hb (show decode prog_19_method_11_code 0 = .ok (.iload_n 0, 1) by decide +kernel) rfl (lv_at hl 0 rfl) ?_
    refine lv_if_lt hx hb (show decode prog_19_method_11_code 1 = .ok (.ifCond .lt 8, 3) by decide +kernel) (tgt := 9) rfl (fun h => absurd h h0) (fun _ => ?_)
    refine lv_iload_n hx hb (show decode prog_19_method_11_code 4 = .ok (.iload_n 0, 1) by decide +kernel) rfl (lv_at hl 0 rfl) ?_
    refine lv_iload_n hx hb (show decode prog_19_method_11_code 5 = .ok (.iload_n 1, 1) by decide +kernel) rfl (lv_at hl 1 rfl) ?_
    refine lv_icmp_lt hx hb (show decode prog_19_method_11_code 6 = .ok (.if_icmp .lt 10, 3) by decide +kernel) (tgt := 16) rfl (fun _ => ?_) (fun h => absurd h1 h)
    refine lv_iload_n hx hb (show decode prog_19_method_11_code 16 = .ok (.iload_n 0, 1) by decide +kernel) rfl (lv_at hl 0 rfl) ?_
    exact W.iret hx hb hr (fun t ht _ => ⟨⟨_, (), rfl, rfl, trivial⟩, hS.F ht⟩) hS.2.2 (show decode prog_19_method_11_code 17 = .ok (.ireturn, 1) by decide +kernel) hlocks
set_option maxHeartbeats 4000000 in
set_option maxRecDepth 100000 in
theorem j_ci {adK adV : Nat → Nat} (l : Launch) {x y : Int32} (h0 : ¬ x < 0) (h1 : x < y) : Met l ⟨"java/lang/String", "checkIndex", "(II)V"⟩ (Cond.code ⟨"java/lang/String", "checkIndex", "(II)V"⟩ prog_14_method_155_code 2 none :: GW0) (tRm 1) (tPc adK adV [.int x, .int y]) (tQv) 0 0 nA := by
  refine Met.ofW (cc := prog_14_method_155_code) (maxL := 2) (ret := none) (by decide) rfl ?_
  intro p e s m args below meth c s₁ B hml hv
  obtain ⟨rfl, hv⟩ := hv
  have hx := B.exec
  have hb := B.bytes
  have hr := B.returns
  have hts := atoms_spec (ws := (Cond.code ⟨"java/lang/String", "checkIndex", "(II)V"⟩ prog_14_method_155_code 2 none :: GW0)) B.pre
  have hG : ∀ w ∈ GW0, w.before [.int x, .int y].toArray s = true := fun w hw => hts w (List.mem_cons_of_mem _ hw)
  have hown : s.vm.findClass "java/lang/String" = some m.cls := findClass_of_methodNamed B.named
  have hlocks := B.notSynchronized
  have hl := lv_entry ([.int x, .int y]) (n := 2) (Nat.le_of_ble_eq_true rfl)
  rw [lg_entry_eq]
  generalize (lg_sl ([.int x, .int y]) ++ List.replicate (2 - (lg_sl ([.int x, .int y])).length) Slot.unset).toArray = ls at hl ⊢
  have hl : lv_has ls 2 [(0, .int x), (1, .int y)] := hl
  have hS : va_S nA s.heap s.heap [] := va_S.rf
  have hv : tW adK adV nA s s.heap := hv
  have hvv := hv
  obtain ⟨hV, hZ, hF⟩ := hvv
  refine lv_iload_n hx hb (show decode prog_14_method_155_code 0 = .ok (.iload_n 0, 1) by decide +kernel) rfl (lv_at hl 0 rfl) ?_
  refine lv_iload_n hx hb (show decode prog_14_method_155_code 1 = .ok (.iload_n 1, 1) by decide +kernel) rfl (lv_at hl 1 rfl) ?_
  rcases hF with hF | ⟨t, hF⟩
  ·
    refine va_gets hx hb hF hS hown (hG _ (gk ck_3 41 rfl rfl)) (fun _ h => h) (show decode prog_14_method_155_code 2 = .ok (.getstatic 1053, 3) by decide +kernel) ?_
    refine va_calli (S := Unit) (B := fun _ _ => True) (A1 := nA) (va_runS (As := [.int x, .int y, .null]) (rest := []) ⟨hx, hb, hml, hown, hG⟩ (j_pci l (Or.inl rfl) h0 h1) ⟨callB_of 3 hG (gw_in jcd_pci) rfl rfl rfl (hG _ (gk ck_1 17 rfl rfl)) (hG _ (gk ck_3 43 rfl rfl)) ⟨by decide, by decide, by decide +kernel⟩ ⟨Nat.le_of_ble_eq_true rfl, Nat.le_of_ble_eq_true rfl⟩, hG _ (gk ck_3 44 rfl rfl)⟩ ⟨tBlind _ _ _, tPre hv hS⟩ rfl rfl hl.1 rfl (lv_room (Nat.le_of_ble_eq_true rfl)) (show decode prog_14_method_155_code 5 = .ok (.invokestatic 1059, 3) by decide +kernel) ⟨Nat.le_refl _, Nat.le_refl _⟩) hS (fun _ _ h => h) (fun _ h => h) (fun r u t H1 locs1 ht hvm hw hB hz1 hk1 hS1 => ?_)
    subst hw
    clear hS
    have hS := hS1
    refine lv_pop hx hb (show decode prog_14_method_155_code 8 = .ok (.pop, 1) by decide +kernel) rfl ?_
    exact W.vret hx hb hr (fun t ht _ => ⟨⟨(), rfl, trivial, trivial⟩, hS.F ht⟩) hS.2.2 (show decode prog_14_method_155_code 9 = .ok (.return_, 1) by decide +kernel) hlocks
  ·
    refine va_gets hx hb hF hS hown (hG _ (gk ck_3 41 rfl rfl)) (fun _ h => h) (show decode prog_14_method_155_code 2 = .ok (.getstatic 1053, 3) by decide +kernel) ?_
    refine va_calli (S := Unit) (B := fun _ _ => True) (A1 := nA) (va_runS (As := [.int x, .int y, .ref t]) (rest := []) ⟨hx, hb, hml, hown, hG⟩ (j_pci l (Or.inr ⟨t, rfl⟩) h0 h1) ⟨callB_of 3 hG (gw_in jcd_pci) rfl rfl rfl (hG _ (gk ck_1 17 rfl rfl)) (hG _ (gk ck_3 43 rfl rfl)) ⟨by decide, by decide, by decide +kernel⟩ ⟨Nat.le_of_ble_eq_true rfl, Nat.le_of_ble_eq_true rfl⟩, hG _ (gk ck_3 44 rfl rfl)⟩ ⟨tBlind _ _ _, tPre hv hS⟩ rfl rfl hl.1 rfl (lv_room (Nat.le_of_ble_eq_true rfl)) (show decode prog_14_method_155_code 5 = .ok (.invokestatic 1059, 3) by decide +kernel) ⟨Nat.le_refl _, Nat.le_refl _⟩) hS (fun _ _ h => h) (fun _ h => h) (fun r u t H1 locs1 ht hvm hw hB hz1 hk1 hS1 => ?_)
    subst hw
    clear hS
    have hS := hS1
    refine lv_pop hx hb (show decode prog_14_method_155_code 8 = .ok (.pop, 1) by decide +kernel) rfl ?_
    exact W.vret hx hb hr (fun t ht _ => ⟨⟨(), rfl, trivial, trivial⟩, hS.F ht⟩) hS.2.2 (show decode prog_14_method_155_code 9 = .ok (.return_, 1) by decide +kernel) hlocks
theorem tChr : ∀ i, i < 10 → ∀ k, k < tLen.getD i 0 → ((((tByt.getD i []).getD k 0) &&& (255 : Int32)).toUInt32 % 65536).toInt32 = (tByt.getD i []).getD k 0 := by decide
theorem tNar : ∀ i, i < 10 → ∀ k, k < tLen.getD i 0 → narrow .char (.int ((tByt.getD i []).getD k 0)) = .int ((tByt.getD i []).getD k 0) := by decide
theorem tSm : ∀ i, i < 10 → tLen.getD i 0 < 100 := by decide
set_option maxHeartbeats 4000000 in
set_option maxRecDepth 100000 in
theorem j_lca {adK adV : Nat → Nat} (l : Launch) {i : Nat} (hi : i < 10) {k : Nat} (hk : k < tLen.getD i 0) : Met l ⟨"java/lang/StringLatin1", "charAt", "([BI)C"⟩ (Cond.code ⟨"java/lang/StringLatin1", "charAt", "([BI)C"⟩ prog_15_method_2_code 2 (some .char) :: GW0) (tRm 2) (tPc adK adV [.ref (adV i), .int (nI k)]) (tQi ((tByt.getD i []).getD k 0)) 0 0 nA := by
  refine Met.ofW (cc := prog_15_method_2_code) (maxL := 2) (ret := (some .char)) (by decide) rfl ?_
  intro p e s m args below meth c s₁ B hml hv
  obtain ⟨rfl, hv⟩ := hv
  have hx := B.exec
  have hb := B.bytes
  have hr := B.returns
  have hts := atoms_spec (ws := (Cond.code ⟨"java/lang/StringLatin1", "charAt", "([BI)C"⟩ prog_15_method_2_code 2 (some .char) :: GW0)) B.pre
  have hG : ∀ w ∈ GW0, w.before [.ref (adV i), .int (nI k)].toArray s = true := fun w hw => hts w (List.mem_cons_of_mem _ hw)
  have hown : s.vm.findClass "java/lang/StringLatin1" = some m.cls := findClass_of_methodNamed B.named
  have hlocks := B.notSynchronized
  have hl := lv_entry ([.ref (adV i), .int (nI k)]) (n := 2) (Nat.le_of_ble_eq_true rfl)
  rw [lg_entry_eq]
  generalize (lg_sl ([.ref (adV i), .int (nI k)]) ++ List.replicate (2 - (lg_sl ([.ref (adV i), .int (nI k)])).length) Slot.unset).toArray = ls at hl ⊢
  have hl : lv_has ls 2 [(0, .ref (adV i)), (1, .int (nI k))] := hl
  have hS : va_S nA s.heap s.heap [] := va_S.rf
  have hv : tW adK adV nA s s.heap := hv
  have hvv := hv
  obtain ⟨hV, hZ, hF⟩ := hvv
  have hsm := tSm i hi
  refine lv_iload_n hx hb (show decode prog_15_method_2_code 0 = .ok (.iload_n 1, 1) by decide +kernel) rfl (lv_at hl 1 rfl) ?_
  refine lv_aload_n hx hb (show decode prog_15_method_2_code 1 = .ok (.aload_n 0, 1) by decide +kernel) rfl (lv_at hl 0 rfl) ?_
  refine va_tlen hx hb (hV.1 i hi).2.2.2 hS (v := nI (tLen.getD i 0)) rfl (show decode prog_15_method_2_code 2 = .ok (.arraylength, 1) by decide +kernel) ?_
  refine va_callv (S := Unit) (post := fun _ => True) (B := fun _ _ => True) (A1 := nA) (va_runS (As := [.int (nI k), .int (nI (tLen.getD i 0))]) (rest := []) ⟨hx, hb, hml, hown, hG⟩ (j_ci l (nI_pos (by omega)) (nI_lt hk (by omega))) ⟨callB_of 2 hG (gw_in jcd_ci) rfl rfl rfl (hG _ (gk ck_1 15 rfl rfl)) (hG _ (gk ck_3 38 rfl rfl)) ⟨by decide, by decide, by decide +kernel⟩ ⟨Nat.le_of_ble_eq_true rfl, Nat.le_of_ble_eq_true rfl⟩, hG _ (gk ck_3 39 rfl rfl)⟩ ⟨tBlind _ _ _, tPre hv hS⟩ rfl rfl hl.1 rfl (lv_room (Nat.le_of_ble_eq_true rfl)) (show decode prog_15_method_2_code 3 = .ok (.invokestatic 9, 3) by decide +kernel) ⟨Nat.le_refl _, Nat.le_refl _⟩) hS (fun _ _ h => h) (fun _ h => h) (fun u t H1 locs1 ht hvm hw hB hz1 hk1 hS1 => ?_)
  clear hS
  have hS := hS1
  refine lv_aload_n hx hb (show decode prog_15_method_2_code 6 = .ok (.aload_n 0, 1) by decide +kernel) rfl (lv_at hl 0 rfl) ?_
  refine lv_iload_n hx hb (show decode prog_15_method_2_code 7 = .ok (.iload_n 1, 1) by decide +kernel) rfl (lv_at hl 1 rfl) ?_
  refine va_tb hx hb (hV.1 i hi).2.2.2 hS (vp_in_nI hk (by omega)) (v := .int ((tByt.getD i []).getD k 0)) (by rw [nI_clamp (by omega)]) (show decode prog_15_method_2_code 8 = .ok (.baload, 1) by decide +kernel) ?_
  refine lv_sipush hx hb (show decode prog_15_method_2_code 9 = .ok (.sipush 255, 3) by decide +kernel) (v := 255) rfl ?_
  refine lv_iand hx hb (show decode prog_15_method_2_code 12 = .ok (.iand, 1) by decide +kernel) ?_
  refine lv_i2c hx hb (show decode prog_15_method_2_code 13 = .ok (.i2c, 1) by decide +kernel) (tChr i hi k hk) ?_
  exact W.zret (ty := .char) hx hb hr (tNar i hi k hk) (fun t ht _ => ⟨⟨_, (), rfl, rfl, trivial⟩, hS.F ht⟩) hS.2.2 (show decode prog_15_method_2_code 14 = .ok (.ireturn, 1) by decide +kernel) hlocks
set_option maxHeartbeats 4000000 in
set_option maxRecDepth 100000 in
theorem j_charAt {adK adV : Nat → Nat} (l : Launch) {i : Nat} (hi : i < 10) {k : Nat} (hk : k < tLen.getD i 0) : Met l ⟨"java/lang/String", "charAt", "(I)C"⟩ (Cond.code ⟨"java/lang/String", "charAt", "(I)C"⟩ prog_14_method_56_code 2 (some .char) :: GW0) (tRm 3) (tPc adK adV [.ref (adK i), .int (nI k)]) (tQi ((tByt.getD i []).getD k 0)) 0 0 nA := by
  refine Met.ofW (cc := prog_14_method_56_code) (maxL := 2) (ret := (some .char)) (by decide) rfl ?_
  intro p e s m args below meth c s₁ B hml hv
  obtain ⟨rfl, hv⟩ := hv
  have hx := B.exec
  have hb := B.bytes
  have hr := B.returns
  have hts := atoms_spec (ws := (Cond.code ⟨"java/lang/String", "charAt", "(I)C"⟩ prog_14_method_56_code 2 (some .char) :: GW0)) B.pre
  have hG : ∀ w ∈ GW0, w.before [.ref (adK i), .int (nI k)].toArray s = true := fun w hw => hts w (List.mem_cons_of_mem _ hw)
  have hown : s.vm.findClass "java/lang/String" = some m.cls := findClass_of_methodNamed B.named
  have hlocks := B.notSynchronized
  have hl := lv_entry ([.ref (adK i), .int (nI k)]) (n := 2) (Nat.le_of_ble_eq_true rfl)
  rw [lg_entry_eq]
  generalize (lg_sl ([.ref (adK i), .int (nI k)]) ++ List.replicate (2 - (lg_sl ([.ref (adK i), .int (nI k)])).length) Slot.unset).toArray = ls at hl ⊢
  have hl : lv_has ls 2 [(0, .ref (adK i)), (1, .int (nI k))] := hl
  have hS : va_S nA s.heap s.heap [] := va_S.rf
  have hv : tW adK adV nA s s.heap := hv
  have hvv := hv
  obtain ⟨hV, hZ, hF⟩ := hvv
  refine lv_aload_n hx hb (show decode prog_14_method_56_code 0 = .ok (.aload_n 0, 1) by decide +kernel) rfl (lv_at hl 0 rfl) ?_
  refine va_calli (S := Unit) (B := fun _ _ => True) (A1 := nA) (va_runV (C := "java/lang/String") (b := (adK i)) (As := []) (rest := []) ⟨hx, hb, hml, hown, hG⟩ (j_isLatin1 l hi) ⟨callB_of 0 hG (gw_in jcd_isLatin1) rfl rfl rfl (hG _ (gk ck_1 15 rfl rfl)) (hG _ (gk ck_3 31 rfl rfl)) ⟨by decide, by decide, by decide +kernel⟩ ⟨Nat.le_of_ble_eq_true rfl, Nat.le_of_ble_eq_true rfl⟩, hG _ (gk ck_3 32 rfl rfl), hG _ (gk ck_3 33 rfl rfl)⟩ ⟨tBlind _ _ _, vk_recv hV hi hS, tPre hv hS⟩ rfl rfl hl.1 rfl (lv_room (Nat.le_of_ble_eq_true rfl)) (show decode prog_14_method_56_code 1 = .ok (.invokevirtual 492, 3) by decide +kernel) ⟨Nat.le_refl _, Nat.le_refl _⟩) hS (fun _ _ h => h) (fun _ h => h) (fun r u t H1 locs1 ht hvm hw hB hz1 hk1 hS1 => ?_)
  subst hw
  clear hS
  have hS := hS1
  refine lv_if_eq hx hb (show decode prog_14_method_56_code 4 = .ok (.ifCond .eq 12, 3) by decide +kernel) (tgt := 16) rfl (fun h => absurd h (by decide)) (fun _ => ?_)
  refine lv_aload_n hx hb (show decode prog_14_method_56_code 7 = .ok (.aload_n 0, 1) by decide +kernel) rfl (lv_at hl 0 rfl) ?_
  refine vk_getf hx hb (hV.1 i hi).2.2.1 hS hown (hG _ (gk ck_9 3 rfl rfl)) (fun _ h => h) (show decode prog_14_method_56_code 8 = .ok (.getfield 9, 3) by decide +kernel) ?_
  refine lv_iload_n hx hb (show decode prog_14_method_56_code 11 = .ok (.iload_n 1, 1) by decide +kernel) rfl (lv_at hl 1 rfl) ?_
  refine va_calli (S := Unit) (B := fun _ _ => True) (A1 := nA) (va_runS (As := [.ref (adV i), .int (nI k)]) (rest := []) ⟨hx, hb, hml, hown, hG⟩ (j_lca l hi hk) ⟨callB_of 2 hG (gw_in jcd_lca) rfl rfl rfl (hG _ (gk ck_1 16 rfl rfl)) (hG _ (gk ck_3 35 rfl rfl)) ⟨by decide, by decide, by decide +kernel⟩ ⟨Nat.le_of_ble_eq_true rfl, Nat.le_of_ble_eq_true rfl⟩, hG _ (gk ck_3 36 rfl rfl)⟩ ⟨tBlind _ _ _, tPre hv hS⟩ rfl rfl hl.1 rfl (lv_room (Nat.le_of_ble_eq_true rfl)) (show decode prog_14_method_56_code 12 = .ok (.invokestatic 495, 3) by decide +kernel) ⟨Nat.le_refl _, Nat.le_refl _⟩) hS (fun _ _ h => h) (fun _ h => h) (fun r u t H1 locs1 ht hvm hw hB hz1 hk1 hS1 => ?_)
  subst hw
  clear hS
  have hS := hS1
  exact W.zret (ty := .char) hx hb hr (tNar i hi k hk) (fun t ht _ => ⟨⟨_, (), rfl, rfl, trivial⟩, hS.F ht⟩) hS.2.2 (show decode prog_14_method_56_code 15 = .ok (.ireturn, 1) by decide +kernel) hlocks
