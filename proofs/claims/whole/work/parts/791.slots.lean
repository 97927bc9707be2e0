/-! ===== the constructors of the slots and of the reference (by program) ===== -/
theorem kcd_Sl : Cond.code ⟨"EnemyLetters$Slots", "<init>", "()V"⟩ prog_8_method_1_code 1 none ∈ GW0 := gk ck_2 41 rfl rfl
set_option maxHeartbeats 4000000 in
set_option maxRecDepth 100000 in
theorem m_Sl (l : Launch) (D : va_G) (cA : Nat → ClassId) (h0 sz : Nat) : kMet l ⟨"EnemyLetters$Slots", "<init>", "()V"⟩ prog_8_method_1_code 1 (kRm 1 7 252) D cA [] sz h0 (.inr (6, [.null, .null, .null])) [(h0, .inr (6, [.ref sz, .ref (sz + 5), .ref (sz + 6)])), (sz, .inl (cA 6, (4, .inr (.inr (.inr (.inr (fun i => if i < 4 then some (sz + 1 + i) else none))))))), (sz + 1 + 0, .inl (cA 4, (60, .inr (.inl (fun _ => 0))))), (sz + 1 + 1, .inl (cA 4, (60, .inr (.inl (fun _ => 0))))), (sz + 1 + 2, .inl (cA 4, (60, .inr (.inl (fun _ => 0))))), (sz + 1 + 3, .inl (cA 4, (60, .inr (.inl (fun _ => 0))))), (sz + 5, .inl (cA 1, (4, .inl (fun _ => 0)))), (sz + 6, .inl (cA 1, (4, .inl (upd (upd (upd (upd (fun _ => 0) ((0 : Int32).toNatClampNeg) (-1)) ((1 : Int32).toNatClampNeg) (-1)) ((2 : Int32).toNatClampNeg) (-1)) ((3 : Int32).toNatClampNeg) (-1)))))] (sz + 7) 7 252 := by
  unfold kMet kPost
  refine Met.ofW (cc := prog_8_method_1_code) (maxL := 1) (ret := none) (by decide) rfl ?_
  intro p e s m args below meth c s₁ B hml hv
  obtain ⟨rfl, hz0, hP, hK, hzv⟩ := hv
  have hx := B.exec
  have hb := B.bytes
  have hr := B.returns
  have hts := atoms_spec (ws := (Cond.code ⟨"EnemyLetters$Slots", "<init>", "()V"⟩ prog_8_method_1_code 1 none :: GW0)) B.pre
  have hG : ∀ w ∈ GW0, w.before [.ref h0].toArray s = true := fun w hw => hts w (List.mem_cons_of_mem _ hw)
  have hown : s.vm.findClass "EnemyLetters$Slots" = some m.cls := findClass_of_methodNamed B.named
  have hlocks := B.notSynchronized
  have hin : meth.name = "<init>" := (name_of_methodNamed B.named B.method).1
  have hl := lv_entry ([.ref h0]) (n := 1) (Nat.le_of_ble_eq_true rfl)
  rw [lg_entry_eq]
  generalize (lg_sl ([.ref h0]) ++ List.replicate (1 - (lg_sl ([.ref h0])).length) Slot.unset).toArray = ls at hl ⊢
  have hl : lv_has ls 1 [(0, .ref h0)] := hl
  have hD : va_D (va_A [(h0, .inr (6, [.null, .null, .null]))] sz) [(h0, .inr (6, [.null, .null, .null]))] := k_one
  obtain ⟨A, hAe⟩ : ∃ A, va_A [(h0, .inr (6, [.null, .null, .null]))] sz = A := ⟨_, rfl⟩
  rw [hAe] at hD
  have hA : ∀ q : Nat, s.heap.size ≤ q → A q := fun q h => by rw [← hAe]; exact Or.inr (by omega)
  have hS : va_S A s.heap s.heap [] := va_S.rf
  refine lv_aload_n hx hb (show decode prog_8_method_1_code 0 = .ok (.aload_n 0, 1) by decide +kernel) rfl (lv_at hl 0 rfl) ?_
  refine W.objInit hx hb hown (hG _ (gk ck_2 42 rfl rfl)) (hG _ (gk ck_1 25 rfl rfl)) (hG _ (gk ck_1 26 rfl rfl)) rfl (by rw [hml]; exact hl.1) rfl (show decode prog_8_method_1_code 1 = .ok (.invokespecial 3, 3) by decide +kernel) (Nat.le_of_ble_eq_true rfl) (Nat.le_of_ble_eq_true rfl) ?_
  refine W.eq (g2 := F0 m 4 ls []) rfl ?_
  refine lv_aload_n hx hb (show decode prog_8_method_1_code 4 = .ok (.aload_n 0, 1) by decide +kernel) rfl (lv_at hl 0 rfl) ?_
  refine lv_iconst hx hb (show decode prog_8_method_1_code 5 = .ok (.iconst 4, 1) by decide +kernel) (v := 4) rfl ?_
  refine lv_bipush hx hb (show decode prog_8_method_1_code 6 = .ok (.bipush 60, 2) by decide +kernel) (v := 60) rfl ?_
  refine k_mna hx hb hown (hG _ (gk ck_2 43 rfl rfl)) hzv.2.2 (hG _ (gk ck_2 59 rfl rfl)) (cA := cA) hK hP hD hS hA hz0 (Nat.le_of_ble_eq_true rfl) (Nat.le_of_ble_eq_true rfl) (show decode prog_8_method_1_code 8 = .ok (.multianewarray 9 2, 4) by decide +kernel) (fun H1 z1 hP1 hD1 hS1 => ?_)
  clear hz0
  have hz0 : H1.size = sz + 5 := z1
  clear z1
  have hP : va_P D vwCl [(h0, .inr (6, [.null, .null, .null])), (sz, .inl (cA 6, (4, .inr (.inr (.inr (.inr (fun i => if i < 4 then some (sz + 1 + i) else none))))))), (sz + 1 + 0, .inl (cA 4, (60, .inr (.inl (fun _ => 0))))), (sz + 1 + 1, .inl (cA 4, (60, .inr (.inl (fun _ => 0))))), (sz + 1 + 2, .inl (cA 4, (60, .inr (.inl (fun _ => 0))))), (sz + 1 + 3, .inl (cA 4, (60, .inr (.inl (fun _ => 0)))))] H1 := hP1
  have hD : va_D A [(h0, .inr (6, [.null, .null, .null])), (sz, .inl (cA 6, (4, .inr (.inr (.inr (.inr (fun i => if i < 4 then some (sz + 1 + i) else none))))))), (sz + 1 + 0, .inl (cA 4, (60, .inr (.inl (fun _ => 0))))), (sz + 1 + 1, .inl (cA 4, (60, .inr (.inl (fun _ => 0))))), (sz + 1 + 2, .inl (cA 4, (60, .inr (.inl (fun _ => 0))))), (sz + 1 + 3, .inl (cA 4, (60, .inr (.inl (fun _ => 0)))))] := hD1
  have hS := hS1
  clear hP1 hD1 hS1
  refine k_put hx hb hG inw6 tyX6 tyX6_ok nmX6 hown hK hP hD hS 0 rfl rfl 0 (by decide) (hG _ (gk ck_2 45 rfl rfl)) (fun _ h => h) (Or.inr ⟨rfl, hin, rfl⟩) (tyX6_ok 0 (by decide)) rfl rfl (Nat.le_of_ble_eq_true rfl) hz0 (show decode prog_8_method_1_code 12 = .ok (.putfield 11, 3) by decide +kernel) (fun H1 locs1 z1 hP1 hD1 hS1 => ?_)
  clear hz0
  have hz0 := z1
  clear z1
  have hP : va_P D vwCl [(h0, .inr (6, [.ref sz, .null, .null])), (sz, .inl (cA 6, (4, .inr (.inr (.inr (.inr (fun i => if i < 4 then some (sz + 1 + i) else none))))))), (sz + 1 + 0, .inl (cA 4, (60, .inr (.inl (fun _ => 0))))), (sz + 1 + 1, .inl (cA 4, (60, .inr (.inl (fun _ => 0))))), (sz + 1 + 2, .inl (cA 4, (60, .inr (.inl (fun _ => 0))))), (sz + 1 + 3, .inl (cA 4, (60, .inr (.inl (fun _ => 0)))))] H1 := hP1
  have hD : va_D A [(h0, .inr (6, [.ref sz, .null, .null])), (sz, .inl (cA 6, (4, .inr (.inr (.inr (.inr (fun i => if i < 4 then some (sz + 1 + i) else none))))))), (sz + 1 + 0, .inl (cA 4, (60, .inr (.inl (fun _ => 0))))), (sz + 1 + 1, .inl (cA 4, (60, .inr (.inl (fun _ => 0))))), (sz + 1 + 2, .inl (cA 4, (60, .inr (.inl (fun _ => 0))))), (sz + 1 + 3, .inl (cA 4, (60, .inr (.inl (fun _ => 0)))))] := hD1
  have hS := hS1
  clear hP1 hD1 hS1
  refine lv_aload_n hx hb (show decode prog_8_method_1_code 15 = .ok (.aload_n 0, 1) by decide +kernel) rfl (lv_at hl 0 rfl) ?_
  refine lv_iconst hx hb (show decode prog_8_method_1_code 16 = .ok (.iconst 4, 1) by decide +kernel) (v := 4) rfl ?_
  refine k_newa (atype := .int) hx hb (hG _ (gk ck_1 86 rfl rfl)) (ty := .int) rfl (cA := cA 1) (hK.2 1 _ rfl).2 hP hD hS hA (N' := 4) (a0 := (4, .inl (fun _ => 0))) (fun _ => rfl) (by decide) (by decide) (Nat.le_of_ble_eq_true rfl) (Nat.le_of_ble_eq_true rfl) (Nat.le_of_ble_eq_true rfl) hz0 (show decode prog_8_method_1_code 17 = .ok (.newarray .int, 2) by decide +kernel) (fun H1 z1 hP1 hD1 hS1 => ?_)
  clear hz0
  have hz0 : H1.size = sz + 6 := z1
  clear z1
  have hP : va_P D vwCl [(h0, .inr (6, [.ref sz, .null, .null])), (sz, .inl (cA 6, (4, .inr (.inr (.inr (.inr (fun i => if i < 4 then some (sz + 1 + i) else none))))))), (sz + 1 + 0, .inl (cA 4, (60, .inr (.inl (fun _ => 0))))), (sz + 1 + 1, .inl (cA 4, (60, .inr (.inl (fun _ => 0))))), (sz + 1 + 2, .inl (cA 4, (60, .inr (.inl (fun _ => 0))))), (sz + 1 + 3, .inl (cA 4, (60, .inr (.inl (fun _ => 0))))), (sz + 5, .inl (cA 1, (4, .inl (fun _ => 0))))] H1 := hP1
  have hD : va_D A [(h0, .inr (6, [.ref sz, .null, .null])), (sz, .inl (cA 6, (4, .inr (.inr (.inr (.inr (fun i => if i < 4 then some (sz + 1 + i) else none))))))), (sz + 1 + 0, .inl (cA 4, (60, .inr (.inl (fun _ => 0))))), (sz + 1 + 1, .inl (cA 4, (60, .inr (.inl (fun _ => 0))))), (sz + 1 + 2, .inl (cA 4, (60, .inr (.inl (fun _ => 0))))), (sz + 1 + 3, .inl (cA 4, (60, .inr (.inl (fun _ => 0))))), (sz + 5, .inl (cA 1, (4, .inl (fun _ => 0))))] := hD1
  have hS := hS1
  clear hP1 hD1 hS1
  refine k_put hx hb hG inw6 tyX6 tyX6_ok nmX6 hown hK hP hD hS 0 rfl rfl 1 (by decide) (hG _ (gk ck_2 47 rfl rfl)) (fun _ h => h) (Or.inr ⟨rfl, hin, rfl⟩) (tyX6_ok 1 (by decide)) rfl rfl (Nat.le_of_ble_eq_true rfl) hz0 (show decode prog_8_method_1_code 19 = .ok (.putfield 16, 3) by decide +kernel) (fun H1 locs1 z1 hP1 hD1 hS1 => ?_)
  clear hz0
  have hz0 := z1
  clear z1
  have hP : va_P D vwCl [(h0, .inr (6, [.ref sz, .ref (sz + 5), .null])), (sz, .inl (cA 6, (4, .inr (.inr (.inr (.inr (fun i => if i < 4 then some (sz + 1 + i) else none))))))), (sz + 1 + 0, .inl (cA 4, (60, .inr (.inl (fun _ => 0))))), (sz + 1 + 1, .inl (cA 4, (60, .inr (.inl (fun _ => 0))))), (sz + 1 + 2, .inl (cA 4, (60, .inr (.inl (fun _ => 0))))), (sz + 1 + 3, .inl (cA 4, (60, .inr (.inl (fun _ => 0))))), (sz + 5, .inl (cA 1, (4, .inl (fun _ => 0))))] H1 := hP1
  have hD : va_D A [(h0, .inr (6, [.ref sz, .ref (sz + 5), .null])), (sz, .inl (cA 6, (4, .inr (.inr (.inr (.inr (fun i => if i < 4 then some (sz + 1 + i) else none))))))), (sz + 1 + 0, .inl (cA 4, (60, .inr (.inl (fun _ => 0))))), (sz + 1 + 1, .inl (cA 4, (60, .inr (.inl (fun _ => 0))))), (sz + 1 + 2, .inl (cA 4, (60, .inr (.inl (fun _ => 0))))), (sz + 1 + 3, .inl (cA 4, (60, .inr (.inl (fun _ => 0))))), (sz + 5, .inl (cA 1, (4, .inl (fun _ => 0))))] := hD1
  have hS := hS1
  clear hP1 hD1 hS1
  refine lv_aload_n hx hb (show decode prog_8_method_1_code 22 = .ok (.aload_n 0, 1) by decide +kernel) rfl (lv_at hl 0 rfl) ?_
  refine lv_iconst hx hb (show decode prog_8_method_1_code 23 = .ok (.iconst 4, 1) by decide +kernel) (v := 4) rfl ?_
  refine k_newa (atype := .int) hx hb (hG _ (gk ck_1 86 rfl rfl)) (ty := .int) rfl (cA := cA 1) (hK.2 1 _ rfl).2 hP hD hS hA (N' := 4) (a0 := (4, .inl (fun _ => 0))) (fun _ => rfl) (by decide) (by decide) (Nat.le_of_ble_eq_true rfl) (Nat.le_of_ble_eq_true rfl) (Nat.le_of_ble_eq_true rfl) hz0 (show decode prog_8_method_1_code 24 = .ok (.newarray .int, 2) by decide +kernel) (fun H1 z1 hP1 hD1 hS1 => ?_)
  clear hz0
  have hz0 : H1.size = sz + 7 := z1
  clear z1
  have hP : va_P D vwCl [(h0, .inr (6, [.ref sz, .ref (sz + 5), .null])), (sz, .inl (cA 6, (4, .inr (.inr (.inr (.inr (fun i => if i < 4 then some (sz + 1 + i) else none))))))), (sz + 1 + 0, .inl (cA 4, (60, .inr (.inl (fun _ => 0))))), (sz + 1 + 1, .inl (cA 4, (60, .inr (.inl (fun _ => 0))))), (sz + 1 + 2, .inl (cA 4, (60, .inr (.inl (fun _ => 0))))), (sz + 1 + 3, .inl (cA 4, (60, .inr (.inl (fun _ => 0))))), (sz + 5, .inl (cA 1, (4, .inl (fun _ => 0)))), (sz + 6, .inl (cA 1, (4, .inl (fun _ => 0))))] H1 := hP1
  have hD : va_D A [(h0, .inr (6, [.ref sz, .ref (sz + 5), .null])), (sz, .inl (cA 6, (4, .inr (.inr (.inr (.inr (fun i => if i < 4 then some (sz + 1 + i) else none))))))), (sz + 1 + 0, .inl (cA 4, (60, .inr (.inl (fun _ => 0))))), (sz + 1 + 1, .inl (cA 4, (60, .inr (.inl (fun _ => 0))))), (sz + 1 + 2, .inl (cA 4, (60, .inr (.inl (fun _ => 0))))), (sz + 1 + 3, .inl (cA 4, (60, .inr (.inl (fun _ => 0))))), (sz + 5, .inl (cA 1, (4, .inl (fun _ => 0)))), (sz + 6, .inl (cA 1, (4, .inl (fun _ => 0))))] := hD1
  have hS := hS1
  clear hP1 hD1 hS1
  refine lv_dup hx hb (show decode prog_8_method_1_code 26 = .ok (.dup, 1) by decide +kernel) rfl ?_
  refine lv_iconst hx hb (show decode prog_8_method_1_code 27 = .ok (.iconst 0, 1) by decide +kernel) (v := 0) rfl ?_
  refine lv_iconst hx hb (show decode prog_8_method_1_code 28 = .ok (.iconst (-1), 1) by decide +kernel) (v := (-1)) rfl ?_
  refine k_iast hx hb hK hP hD hS 7 1 rfl rfl (by unfold vp_in; decide) hz0 (show decode prog_8_method_1_code 29 = .ok (.iastore, 1) by decide +kernel) (fun H1 locs1 z1 hP1 hD1 hS1 => ?_)
  clear hz0
  have hz0 := z1
  clear z1
  have hP : va_P D vwCl [(h0, .inr (6, [.ref sz, .ref (sz + 5), .null])), (sz, .inl (cA 6, (4, .inr (.inr (.inr (.inr (fun i => if i < 4 then some (sz + 1 + i) else none))))))), (sz + 1 + 0, .inl (cA 4, (60, .inr (.inl (fun _ => 0))))), (sz + 1 + 1, .inl (cA 4, (60, .inr (.inl (fun _ => 0))))), (sz + 1 + 2, .inl (cA 4, (60, .inr (.inl (fun _ => 0))))), (sz + 1 + 3, .inl (cA 4, (60, .inr (.inl (fun _ => 0))))), (sz + 5, .inl (cA 1, (4, .inl (fun _ => 0)))), (sz + 6, .inl (cA 1, (4, .inl (upd (fun _ => 0) ((0 : Int32).toNatClampNeg) (-1)))))] H1 := hP1
  have hD : va_D A [(h0, .inr (6, [.ref sz, .ref (sz + 5), .null])), (sz, .inl (cA 6, (4, .inr (.inr (.inr (.inr (fun i => if i < 4 then some (sz + 1 + i) else none))))))), (sz + 1 + 0, .inl (cA 4, (60, .inr (.inl (fun _ => 0))))), (sz + 1 + 1, .inl (cA 4, (60, .inr (.inl (fun _ => 0))))), (sz + 1 + 2, .inl (cA 4, (60, .inr (.inl (fun _ => 0))))), (sz + 1 + 3, .inl (cA 4, (60, .inr (.inl (fun _ => 0))))), (sz + 5, .inl (cA 1, (4, .inl (fun _ => 0)))), (sz + 6, .inl (cA 1, (4, .inl (upd (fun _ => 0) ((0 : Int32).toNatClampNeg) (-1)))))] := hD1
  have hS := hS1
  clear hP1 hD1 hS1
  refine lv_dup hx hb (show decode prog_8_method_1_code 30 = .ok (.dup, 1) by decide +kernel) rfl ?_
  refine lv_iconst hx hb (show decode prog_8_method_1_code 31 = .ok (.iconst 1, 1) by decide +kernel) (v := 1) rfl ?_
  refine lv_iconst hx hb (show decode prog_8_method_1_code 32 = .ok (.iconst (-1), 1) by decide +kernel) (v := (-1)) rfl ?_
  refine k_iast hx hb hK hP hD hS 7 1 rfl rfl (by unfold vp_in; decide) hz0 (show decode prog_8_method_1_code 33 = .ok (.iastore, 1) by decide +kernel) (fun H1 locs1 z1 hP1 hD1 hS1 => ?_)
  clear hz0
  have hz0 := z1
  clear z1
  have hP : va_P D vwCl [(h0, .inr (6, [.ref sz, .ref (sz + 5), .null])), (sz, .inl (cA 6, (4, .inr (.inr (.inr (.inr (fun i => if i < 4 then some (sz + 1 + i) else none))))))), (sz + 1 + 0, .inl (cA 4, (60, .inr (.inl (fun _ => 0))))), (sz + 1 + 1, .inl (cA 4, (60, .inr (.inl (fun _ => 0))))), (sz + 1 + 2, .inl (cA 4, (60, .inr (.inl (fun _ => 0))))), (sz + 1 + 3, .inl (cA 4, (60, .inr (.inl (fun _ => 0))))), (sz + 5, .inl (cA 1, (4, .inl (fun _ => 0)))), (sz + 6, .inl (cA 1, (4, .inl (upd (upd (fun _ => 0) ((0 : Int32).toNatClampNeg) (-1)) ((1 : Int32).toNatClampNeg) (-1)))))] H1 := hP1
  have hD : va_D A [(h0, .inr (6, [.ref sz, .ref (sz + 5), .null])), (sz, .inl (cA 6, (4, .inr (.inr (.inr (.inr (fun i => if i < 4 then some (sz + 1 + i) else none))))))), (sz + 1 + 0, .inl (cA 4, (60, .inr (.inl (fun _ => 0))))), (sz + 1 + 1, .inl (cA 4, (60, .inr (.inl (fun _ => 0))))), (sz + 1 + 2, .inl (cA 4, (60, .inr (.inl (fun _ => 0))))), (sz + 1 + 3, .inl (cA 4, (60, .inr (.inl (fun _ => 0))))), (sz + 5, .inl (cA 1, (4, .inl (fun _ => 0)))), (sz + 6, .inl (cA 1, (4, .inl (upd (upd (fun _ => 0) ((0 : Int32).toNatClampNeg) (-1)) ((1 : Int32).toNatClampNeg) (-1)))))] := hD1
  have hS := hS1
  clear hP1 hD1 hS1
  refine lv_dup hx hb (show decode prog_8_method_1_code 34 = .ok (.dup, 1) by decide +kernel) rfl ?_
  refine lv_iconst hx hb (show decode prog_8_method_1_code 35 = .ok (.iconst 2, 1) by decide +kernel) (v := 2) rfl ?_
  refine lv_iconst hx hb (show decode prog_8_method_1_code 36 = .ok (.iconst (-1), 1) by decide +kernel) (v := (-1)) rfl ?_
  refine k_iast hx hb hK hP hD hS 7 1 rfl rfl (by unfold vp_in; decide) hz0 (show decode prog_8_method_1_code 37 = .ok (.iastore, 1) by decide +kernel) (fun H1 locs1 z1 hP1 hD1 hS1 => ?_)
  clear hz0
  have hz0 := z1
  clear z1
  have hP : va_P D vwCl [(h0, .inr (6, [.ref sz, .ref (sz + 5), .null])), (sz, .inl (cA 6, (4, .inr (.inr (.inr (.inr (fun i => if i < 4 then some (sz + 1 + i) else none))))))), (sz + 1 + 0, .inl (cA 4, (60, .inr (.inl (fun _ => 0))))), (sz + 1 + 1, .inl (cA 4, (60, .inr (.inl (fun _ => 0))))), (sz + 1 + 2, .inl (cA 4, (60, .inr (.inl (fun _ => 0))))), (sz + 1 + 3, .inl (cA 4, (60, .inr (.inl (fun _ => 0))))), (sz + 5, .inl (cA 1, (4, .inl (fun _ => 0)))), (sz + 6, .inl (cA 1, (4, .inl (upd (upd (upd (fun _ => 0) ((0 : Int32).toNatClampNeg) (-1)) ((1 : Int32).toNatClampNeg) (-1)) ((2 : Int32).toNatClampNeg) (-1)))))] H1 := hP1
  have hD : va_D A [(h0, .inr (6, [.ref sz, .ref (sz + 5), .null])), (sz, .inl (cA 6, (4, .inr (.inr (.inr (.inr (fun i => if i < 4 then some (sz + 1 + i) else none))))))), (sz + 1 + 0, .inl (cA 4, (60, .inr (.inl (fun _ => 0))))), (sz + 1 + 1, .inl (cA 4, (60, .inr (.inl (fun _ => 0))))), (sz + 1 + 2, .inl (cA 4, (60, .inr (.inl (fun _ => 0))))), (sz + 1 + 3, .inl (cA 4, (60, .inr (.inl (fun _ => 0))))), (sz + 5, .inl (cA 1, (4, .inl (fun _ => 0)))), (sz + 6, .inl (cA 1, (4, .inl (upd (upd (upd (fun _ => 0) ((0 : Int32).toNatClampNeg) (-1)) ((1 : Int32).toNatClampNeg) (-1)) ((2 : Int32).toNatClampNeg) (-1)))))] := hD1
  have hS := hS1
  clear hP1 hD1 hS1
  refine lv_dup hx hb (show decode prog_8_method_1_code 38 = .ok (.dup, 1) by decide +kernel) rfl ?_
  refine lv_iconst hx hb (show decode prog_8_method_1_code 39 = .ok (.iconst 3, 1) by decide +kernel) (v := 3) rfl ?_
  refine lv_iconst hx hb (show decode prog_8_method_1_code 40 = .ok (.iconst (-1), 1) by decide +kernel) (v := (-1)) rfl ?_
  refine k_iast hx hb hK hP hD hS 7 1 rfl rfl (by unfold vp_in; decide) hz0 (show decode prog_8_method_1_code 41 = .ok (.iastore, 1) by decide +kernel) (fun H1 locs1 z1 hP1 hD1 hS1 => ?_)
  clear hz0
  have hz0 := z1
  clear z1
  have hP : va_P D vwCl [(h0, .inr (6, [.ref sz, .ref (sz + 5), .null])), (sz, .inl (cA 6, (4, .inr (.inr (.inr (.inr (fun i => if i < 4 then some (sz + 1 + i) else none))))))), (sz + 1 + 0, .inl (cA 4, (60, .inr (.inl (fun _ => 0))))), (sz + 1 + 1, .inl (cA 4, (60, .inr (.inl (fun _ => 0))))), (sz + 1 + 2, .inl (cA 4, (60, .inr (.inl (fun _ => 0))))), (sz + 1 + 3, .inl (cA 4, (60, .inr (.inl (fun _ => 0))))), (sz + 5, .inl (cA 1, (4, .inl (fun _ => 0)))), (sz + 6, .inl (cA 1, (4, .inl (upd (upd (upd (upd (fun _ => 0) ((0 : Int32).toNatClampNeg) (-1)) ((1 : Int32).toNatClampNeg) (-1)) ((2 : Int32).toNatClampNeg) (-1)) ((3 : Int32).toNatClampNeg) (-1)))))] H1 := hP1
  have hD : va_D A [(h0, .inr (6, [.ref sz, .ref (sz + 5), .null])), (sz, .inl (cA 6, (4, .inr (.inr (.inr (.inr (fun i => if i < 4 then some (sz + 1 + i) else none))))))), (sz + 1 + 0, .inl (cA 4, (60, .inr (.inl (fun _ => 0))))), (sz + 1 + 1, .inl (cA 4, (60, .inr (.inl (fun _ => 0))))), (sz + 1 + 2, .inl (cA 4, (60, .inr (.inl (fun _ => 0))))), (sz + 1 + 3, .inl (cA 4, (60, .inr (.inl (fun _ => 0))))), (sz + 5, .inl (cA 1, (4, .inl (fun _ => 0)))), (sz + 6, .inl (cA 1, (4, .inl (upd (upd (upd (upd (fun _ => 0) ((0 : Int32).toNatClampNeg) (-1)) ((1 : Int32).toNatClampNeg) (-1)) ((2 : Int32).toNatClampNeg) (-1)) ((3 : Int32).toNatClampNeg) (-1)))))] := hD1
  have hS := hS1
  clear hP1 hD1 hS1
  refine k_put hx hb hG inw6 tyX6 tyX6_ok nmX6 hown hK hP hD hS 0 rfl rfl 2 (by decide) (hG _ (gk ck_2 49 rfl rfl)) (fun _ h => h) (Or.inr ⟨rfl, hin, rfl⟩) (tyX6_ok 2 (by decide)) rfl rfl (Nat.le_of_ble_eq_true rfl) hz0 (show decode prog_8_method_1_code 42 = .ok (.putfield 20, 3) by decide +kernel) (fun H1 locs1 z1 hP1 hD1 hS1 => ?_)
  clear hz0
  have hz0 := z1
  clear z1
  have hP : va_P D vwCl [(h0, .inr (6, [.ref sz, .ref (sz + 5), .ref (sz + 6)])), (sz, .inl (cA 6, (4, .inr (.inr (.inr (.inr (fun i => if i < 4 then some (sz + 1 + i) else none))))))), (sz + 1 + 0, .inl (cA 4, (60, .inr (.inl (fun _ => 0))))), (sz + 1 + 1, .inl (cA 4, (60, .inr (.inl (fun _ => 0))))), (sz + 1 + 2, .inl (cA 4, (60, .inr (.inl (fun _ => 0))))), (sz + 1 + 3, .inl (cA 4, (60, .inr (.inl (fun _ => 0))))), (sz + 5, .inl (cA 1, (4, .inl (fun _ => 0)))), (sz + 6, .inl (cA 1, (4, .inl (upd (upd (upd (upd (fun _ => 0) ((0 : Int32).toNatClampNeg) (-1)) ((1 : Int32).toNatClampNeg) (-1)) ((2 : Int32).toNatClampNeg) (-1)) ((3 : Int32).toNatClampNeg) (-1)))))] H1 := hP1
  have hD : va_D A [(h0, .inr (6, [.ref sz, .ref (sz + 5), .ref (sz + 6)])), (sz, .inl (cA 6, (4, .inr (.inr (.inr (.inr (fun i => if i < 4 then some (sz + 1 + i) else none))))))), (sz + 1 + 0, .inl (cA 4, (60, .inr (.inl (fun _ => 0))))), (sz + 1 + 1, .inl (cA 4, (60, .inr (.inl (fun _ => 0))))), (sz + 1 + 2, .inl (cA 4, (60, .inr (.inl (fun _ => 0))))), (sz + 1 + 3, .inl (cA 4, (60, .inr (.inl (fun _ => 0))))), (sz + 5, .inl (cA 1, (4, .inl (fun _ => 0)))), (sz + 6, .inl (cA 1, (4, .inl (upd (upd (upd (upd (fun _ => 0) ((0 : Int32).toNatClampNeg) (-1)) ((1 : Int32).toNatClampNeg) (-1)) ((2 : Int32).toNatClampNeg) (-1)) ((3 : Int32).toNatClampNeg) (-1)))))] := hD1
  have hS := hS1
  clear hP1 hD1 hS1
  refine W.vret hx hb hr (fun t ht _ => ⟨⟨(), rfl, trivial, by rw [ht]; exact hz0, by rw [ht]; exact hP, by rw [hAe]; exact hD⟩, by rw [hAe]; exact hS.F ht⟩) (by rw [hAe]; exact hS.2.2) (show decode prog_8_method_1_code 45 = .ok (.return_, 1) by decide +kernel) hlocks
