/-! ===== the constructors, by contract (by program) ===== -/
theorem kcd_Ta : Cond.code ⟨"EnemyLetters$Tape", "<init>", "()V"⟩ prog_9_method_1_code 1 none ∈ GW0 := gk ck_1 31 rfl rfl
set_option maxHeartbeats 4000000 in
set_option maxRecDepth 100000 in
theorem m_Ta (l : Launch) (D : va_G) (cA : Nat → ClassId) (h0 sz : Nat) : kMet l ⟨"EnemyLetters$Tape", "<init>", "()V"⟩ prog_9_method_1_code 1 (kRm 1 1 800) D cA [] sz h0 (.inr (7, [.null, .int 0])) [(h0, .inr (7, [.ref sz, .int 0])), (sz, .inl (cA 2, (800, .inl (fun _ => 0))))] (sz + 1) 1 800 := by
  unfold kMet kPost
  refine Met.ofW (cc := prog_9_method_1_code) (maxL := 1) (ret := none) (by decide) rfl ?_
  intro p e s m args below meth c s₁ B hml hv
  obtain ⟨rfl, hz0, hP, hK, hzv⟩ := hv
  have hx := B.exec
  have hb := B.bytes
  have hr := B.returns
  have hts := atoms_spec (ws := (Cond.code ⟨"EnemyLetters$Tape", "<init>", "()V"⟩ prog_9_method_1_code 1 none :: GW0)) B.pre
  have hG : ∀ w ∈ GW0, w.before [.ref h0].toArray s = true := fun w hw => hts w (List.mem_cons_of_mem _ hw)
  have hown : s.vm.findClass "EnemyLetters$Tape" = some m.cls := findClass_of_methodNamed B.named
  have hlocks := B.notSynchronized
  have hin : meth.name = "<init>" := (name_of_methodNamed B.named B.method).1
  have hl := lv_entry ([.ref h0]) (n := 1) (Nat.le_of_ble_eq_true rfl)
  rw [lg_entry_eq]
  generalize (lg_sl ([.ref h0]) ++ List.replicate (1 - (lg_sl ([.ref h0])).length) Slot.unset).toArray = ls at hl ⊢
  have hl : lv_has ls 1 [(0, .ref h0)] := hl
  have hD : va_D (va_A [(h0, .inr (7, [.null, .int 0]))] sz) [(h0, .inr (7, [.null, .int 0]))] := k_one
  obtain ⟨A, hAe⟩ : ∃ A, va_A [(h0, .inr (7, [.null, .int 0]))] sz = A := ⟨_, rfl⟩
  rw [hAe] at hD
  have hA : ∀ q : Nat, s.heap.size ≤ q → A q := fun q h => by rw [← hAe]; exact Or.inr (by omega)
  have hS : va_S A s.heap s.heap [] := va_S.rf
  refine lv_aload_n hx hb (show decode prog_9_method_1_code 0 = .ok (.aload_n 0, 1) by decide +kernel) rfl (lv_at hl 0 rfl) ?_
  refine W.objInit hx hb hown (hG _ (gk ck_1 32 rfl rfl)) (hG _ (gk ck_1 25 rfl rfl)) (hG _ (gk ck_1 26 rfl rfl)) rfl (by rw [hml]; exact hl.1) rfl (show decode prog_9_method_1_code 1 = .ok (.invokespecial 3, 3) by decide +kernel) (Nat.le_of_ble_eq_true rfl) (Nat.le_of_ble_eq_true rfl) ?_
  refine W.eq (g2 := F0 m 4 ls []) rfl ?_
  refine lv_aload_n hx hb (show decode prog_9_method_1_code 4 = .ok (.aload_n 0, 1) by decide +kernel) rfl (lv_at hl 0 rfl) ?_
  refine lv_sipush hx hb (show decode prog_9_method_1_code 5 = .ok (.sipush 800, 3) by decide +kernel) (v := 800) rfl ?_
  refine k_newa (atype := .byte) hx hb (hG _ (gk ck_1 43 rfl rfl)) (ty := .byte) rfl (cA := cA 2) (hK.2 2 _ rfl).2 hP hD hS hA (N' := 800) (a0 := (800, .inl (fun _ => 0))) (fun _ => rfl) (by decide) (by decide) (Nat.le_of_ble_eq_true rfl) (Nat.le_of_ble_eq_true rfl) (Nat.le_of_ble_eq_true rfl) hz0 (show decode prog_9_method_1_code 8 = .ok (.newarray .byte, 2) by decide +kernel) (fun H1 z1 hP1 hD1 hS1 => ?_)
  clear hz0
  have hz0 : H1.size = sz + 1 := z1
  clear z1
  have hP : va_P D vwCl [(h0, .inr (7, [.null, .int 0])), (sz, .inl (cA 2, (800, .inl (fun _ => 0))))] H1 := hP1
  have hD : va_D A [(h0, .inr (7, [.null, .int 0])), (sz, .inl (cA 2, (800, .inl (fun _ => 0))))] := hD1
  have hS := hS1
  clear hP1 hD1 hS1
  refine k_put hx hb hG inw7 tyX7 tyX7_ok nmX7 hown hK hP hD hS 0 rfl rfl 0 (by decide) (hG _ (gk ck_1 33 rfl rfl)) (fun _ h => h) (Or.inr ⟨rfl, hin, rfl⟩) (tyX7_ok 0 (by decide)) rfl rfl (Nat.le_of_ble_eq_true rfl) hz0 (show decode prog_9_method_1_code 10 = .ok (.putfield 9, 3) by decide +kernel) (fun H1 locs1 z1 hP1 hD1 hS1 => ?_)
  clear hz0
  have hz0 := z1
  clear z1
  have hP : va_P D vwCl [(h0, .inr (7, [.ref sz, .int 0])), (sz, .inl (cA 2, (800, .inl (fun _ => 0))))] H1 := hP1
  have hD : va_D A [(h0, .inr (7, [.ref sz, .int 0])), (sz, .inl (cA 2, (800, .inl (fun _ => 0))))] := hD1
  have hS := hS1
  clear hP1 hD1 hS1
  refine W.vret hx hb hr (fun t ht _ => ⟨⟨(), rfl, trivial, by rw [ht]; exact hz0, by rw [ht]; exact hP, by rw [hAe]; exact hD⟩, by rw [hAe]; exact hS.F ht⟩) (by rw [hAe]; exact hS.2.2) (show decode prog_9_method_1_code 13 = .ok (.return_, 1) by decide +kernel) hlocks
theorem kcd_De8 : Cond.code ⟨"EnemyLetters$Deeds", "<init>", "(I)V"⟩ prog_4_method_1_code 2 none ∈ GW0 := gk ck_1 60 rfl rfl
set_option maxHeartbeats 4000000 in
set_option maxRecDepth 100000 in
theorem m_De8 (l : Launch) (D : va_G) (cA : Nat → ClassId) (h0 sz : Nat) : kMet l ⟨"EnemyLetters$Deeds", "<init>", "(I)V"⟩ prog_4_method_1_code 2 (kRm 1 4 32) D cA [.int 8] sz h0 (.inr (2, [.null, .null, .null, .null, .int 0])) [(h0, .inr (2, [.ref sz, .ref (sz + 1), .ref (sz + 2), .ref (sz + 3), .int 0])), (sz, .inl (cA 1, (8, .inl (fun _ => 0)))), (sz + 1, .inl (cA 1, (8, .inl (fun _ => 0)))), (sz + 2, .inl (cA 1, (8, .inl (fun _ => 0)))), (sz + 3, .inl (cA 1, (8, .inl (fun _ => 0))))] (sz + 4) 4 32 := by
  unfold kMet kPost
  refine Met.ofW (cc := prog_4_method_1_code) (maxL := 2) (ret := none) (by decide) rfl ?_
  intro p e s m args below meth c s₁ B hml hv
  obtain ⟨rfl, hz0, hP, hK, hzv⟩ := hv
  have hx := B.exec
  have hb := B.bytes
  have hr := B.returns
  have hts := atoms_spec (ws := (Cond.code ⟨"EnemyLetters$Deeds", "<init>", "(I)V"⟩ prog_4_method_1_code 2 none :: GW0)) B.pre
  have hG : ∀ w ∈ GW0, w.before [.ref h0, .int 8].toArray s = true := fun w hw => hts w (List.mem_cons_of_mem _ hw)
  have hown : s.vm.findClass "EnemyLetters$Deeds" = some m.cls := findClass_of_methodNamed B.named
  have hlocks := B.notSynchronized
  have hin : meth.name = "<init>" := (name_of_methodNamed B.named B.method).1
  have hl := lv_entry ([.ref h0, .int 8]) (n := 2) (Nat.le_of_ble_eq_true rfl)
  rw [lg_entry_eq]
  generalize (lg_sl ([.ref h0, .int 8]) ++ List.replicate (2 - (lg_sl ([.ref h0, .int 8])).length) Slot.unset).toArray = ls at hl ⊢
  have hl : lv_has ls 2 [(0, .ref h0), (1, .int 8)] := hl
  have hD : va_D (va_A [(h0, .inr (2, [.null, .null, .null, .null, .int 0]))] sz) [(h0, .inr (2, [.null, .null, .null, .null, .int 0]))] := k_one
  obtain ⟨A, hAe⟩ : ∃ A, va_A [(h0, .inr (2, [.null, .null, .null, .null, .int 0]))] sz = A := ⟨_, rfl⟩
  rw [hAe] at hD
  have hA : ∀ q : Nat, s.heap.size ≤ q → A q := fun q h => by rw [← hAe]; exact Or.inr (by omega)
  have hS : va_S A s.heap s.heap [] := va_S.rf
  refine lv_aload_n hx hb (show decode prog_4_method_1_code 0 = .ok (.aload_n 0, 1) by decide +kernel) rfl (lv_at hl 0 rfl) ?_
  refine W.objInit hx hb hown (hG _ (gk ck_1 61 rfl rfl)) (hG _ (gk ck_1 25 rfl rfl)) (hG _ (gk ck_1 26 rfl rfl)) rfl (by rw [hml]; exact hl.1) rfl (show decode prog_4_method_1_code 1 = .ok (.invokespecial 1, 3) by decide +kernel) (Nat.le_of_ble_eq_true rfl) (Nat.le_of_ble_eq_true rfl) ?_
  refine W.eq (g2 := F0 m 4 ls []) rfl ?_
  refine lv_aload_n hx hb (show decode prog_4_method_1_code 4 = .ok (.aload_n 0, 1) by decide +kernel) rfl (lv_at hl 0 rfl) ?_
  refine lv_iload_n hx hb (show decode prog_4_method_1_code 5 = .ok (.iload_n 1, 1) by decide +kernel) rfl (lv_at hl 1 rfl) ?_
  refine k_newa (atype := .int) hx hb (hG _ (gk ck_1 86 rfl rfl)) (ty := .int) rfl (cA := cA 1) (hK.2 1 _ rfl).2 hP hD hS hA (N' := 8) (a0 := (8, .inl (fun _ => 0))) (fun _ => rfl) (by decide) (by decide) (Nat.le_of_ble_eq_true rfl) (Nat.le_of_ble_eq_true rfl) (Nat.le_of_ble_eq_true rfl) hz0 (show decode prog_4_method_1_code 6 = .ok (.newarray .int, 2) by decide +kernel) (fun H1 z1 hP1 hD1 hS1 => ?_)
  clear hz0
  have hz0 : H1.size = sz + 1 := z1
  clear z1
  have hP : va_P D vwCl [(h0, .inr (2, [.null, .null, .null, .null, .int 0])), (sz, .inl (cA 1, (8, .inl (fun _ => 0))))] H1 := hP1
  have hD : va_D A [(h0, .inr (2, [.null, .null, .null, .null, .int 0])), (sz, .inl (cA 1, (8, .inl (fun _ => 0))))] := hD1
  have hS := hS1
  clear hP1 hD1 hS1
  refine k_put hx hb hG inw2 tyX2 tyX2_ok nmX2 hown hK hP hD hS 0 rfl rfl 0 (by decide) (hG _ (gk ck_1 62 rfl rfl)) (fun _ h => h) (Or.inr ⟨rfl, hin, rfl⟩) (tyX2_ok 0 (by decide)) rfl rfl (Nat.le_of_ble_eq_true rfl) hz0 (show decode prog_4_method_1_code 8 = .ok (.putfield 7, 3) by decide +kernel) (fun H1 locs1 z1 hP1 hD1 hS1 => ?_)
  clear hz0
  have hz0 := z1
  clear z1
  have hP : va_P D vwCl [(h0, .inr (2, [.ref sz, .null, .null, .null, .int 0])), (sz, .inl (cA 1, (8, .inl (fun _ => 0))))] H1 := hP1
  have hD : va_D A [(h0, .inr (2, [.ref sz, .null, .null, .null, .int 0])), (sz, .inl (cA 1, (8, .inl (fun _ => 0))))] := hD1
  have hS := hS1
  clear hP1 hD1 hS1
  refine lv_aload_n hx hb (show decode prog_4_method_1_code 11 = .ok (.aload_n 0, 1) by decide +kernel) rfl (lv_at hl 0 rfl) ?_
  refine lv_iload_n hx hb (show decode prog_4_method_1_code 12 = .ok (.iload_n 1, 1) by decide +kernel) rfl (lv_at hl 1 rfl) ?_
  refine k_newa (atype := .int) hx hb (hG _ (gk ck_1 86 rfl rfl)) (ty := .int) rfl (cA := cA 1) (hK.2 1 _ rfl).2 hP hD hS hA (N' := 8) (a0 := (8, .inl (fun _ => 0))) (fun _ => rfl) (by decide) (by decide) (Nat.le_of_ble_eq_true rfl) (Nat.le_of_ble_eq_true rfl) (Nat.le_of_ble_eq_true rfl) hz0 (show decode prog_4_method_1_code 13 = .ok (.newarray .int, 2) by decide +kernel) (fun H1 z1 hP1 hD1 hS1 => ?_)
  clear hz0
  have hz0 : H1.size = sz + 2 := z1
  clear z1
  have hP : va_P D vwCl [(h0, .inr (2, [.ref sz, .null, .null, .null, .int 0])), (sz, .inl (cA 1, (8, .inl (fun _ => 0)))), (sz + 1, .inl (cA 1, (8, .inl (fun _ => 0))))] H1 := hP1
  have hD : va_D A [(h0, .inr (2, [.ref sz, .null, .null, .null, .int 0])), (sz, .inl (cA 1, (8, .inl (fun _ => 0)))), (sz + 1, .inl (cA 1, (8, .inl (fun _ => 0))))] := hD1
  have hS := hS1
  clear hP1 hD1 hS1
  refine k_put hx hb hG inw2 tyX2 tyX2_ok nmX2 hown hK hP hD hS 0 rfl rfl 1 (by decide) (hG _ (gk ck_1 64 rfl rfl)) (fun _ h => h) (Or.inr ⟨rfl, hin, rfl⟩) (tyX2_ok 1 (by decide)) rfl rfl (Nat.le_of_ble_eq_true rfl) hz0 (show decode prog_4_method_1_code 15 = .ok (.putfield 13, 3) by decide +kernel) (fun H1 locs1 z1 hP1 hD1 hS1 => ?_)
  clear hz0
  have hz0 := z1
  clear z1
  have hP : va_P D vwCl [(h0, .inr (2, [.ref sz, .ref (sz + 1), .null, .null, .int 0])), (sz, .inl (cA 1, (8, .inl (fun _ => 0)))), (sz + 1, .inl (cA 1, (8, .inl (fun _ => 0))))] H1 := hP1
  have hD : va_D A [(h0, .inr (2, [.ref sz, .ref (sz + 1), .null, .null, .int 0])), (sz, .inl (cA 1, (8, .inl (fun _ => 0)))), (sz + 1, .inl (cA 1, (8, .inl (fun _ => 0))))] := hD1
  have hS := hS1
  clear hP1 hD1 hS1
  refine lv_aload_n hx hb (show decode prog_4_method_1_code 18 = .ok (.aload_n 0, 1) by decide +kernel) rfl (lv_at hl 0 rfl) ?_
  refine lv_iload_n hx hb (show decode prog_4_method_1_code 19 = .ok (.iload_n 1, 1) by decide +kernel) rfl (lv_at hl 1 rfl) ?_
  refine k_newa (atype := .int) hx hb (hG _ (gk ck_1 86 rfl rfl)) (ty := .int) rfl (cA := cA 1) (hK.2 1 _ rfl).2 hP hD hS hA (N' := 8) (a0 := (8, .inl (fun _ => 0))) (fun _ => rfl) (by decide) (by decide) (Nat.le_of_ble_eq_true rfl) (Nat.le_of_ble_eq_true rfl) (Nat.le_of_ble_eq_true rfl) hz0 (show decode prog_4_method_1_code 20 = .ok (.newarray .int, 2) by decide +kernel) (fun H1 z1 hP1 hD1 hS1 => ?_)
  clear hz0
  have hz0 : H1.size = sz + 3 := z1
  clear z1
  have hP : va_P D vwCl [(h0, .inr (2, [.ref sz, .ref (sz + 1), .null, .null, .int 0])), (sz, .inl (cA 1, (8, .inl (fun _ => 0)))), (sz + 1, .inl (cA 1, (8, .inl (fun _ => 0)))), (sz + 2, .inl (cA 1, (8, .inl (fun _ => 0))))] H1 := hP1
  have hD : va_D A [(h0, .inr (2, [.ref sz, .ref (sz + 1), .null, .null, .int 0])), (sz, .inl (cA 1, (8, .inl (fun _ => 0)))), (sz + 1, .inl (cA 1, (8, .inl (fun _ => 0)))), (sz + 2, .inl (cA 1, (8, .inl (fun _ => 0))))] := hD1
  have hS := hS1
  clear hP1 hD1 hS1
  refine k_put hx hb hG inw2 tyX2 tyX2_ok nmX2 hown hK hP hD hS 0 rfl rfl 2 (by decide) (hG _ (gk ck_1 66 rfl rfl)) (fun _ h => h) (Or.inr ⟨rfl, hin, rfl⟩) (tyX2_ok 2 (by decide)) rfl rfl (Nat.le_of_ble_eq_true rfl) hz0 (show decode prog_4_method_1_code 22 = .ok (.putfield 16, 3) by decide +kernel) (fun H1 locs1 z1 hP1 hD1 hS1 => ?_)
  clear hz0
  have hz0 := z1
  clear z1
  have hP : va_P D vwCl [(h0, .inr (2, [.ref sz, .ref (sz + 1), .ref (sz + 2), .null, .int 0])), (sz, .inl (cA 1, (8, .inl (fun _ => 0)))), (sz + 1, .inl (cA 1, (8, .inl (fun _ => 0)))), (sz + 2, .inl (cA 1, (8, .inl (fun _ => 0))))] H1 := hP1
  have hD : va_D A [(h0, .inr (2, [.ref sz, .ref (sz + 1), .ref (sz + 2), .null, .int 0])), (sz, .inl (cA 1, (8, .inl (fun _ => 0)))), (sz + 1, .inl (cA 1, (8, .inl (fun _ => 0)))), (sz + 2, .inl (cA 1, (8, .inl (fun _ => 0))))] := hD1
  have hS := hS1
  clear hP1 hD1 hS1
  refine lv_aload_n hx hb (show decode prog_4_method_1_code 25 = .ok (.aload_n 0, 1) by decide +kernel) rfl (lv_at hl 0 rfl) ?_
  refine lv_iload_n hx hb (show decode prog_4_method_1_code 26 = .ok (.iload_n 1, 1) by decide +kernel) rfl (lv_at hl 1 rfl) ?_
  refine k_newa (atype := .int) hx hb (hG _ (gk ck_1 86 rfl rfl)) (ty := .int) rfl (cA := cA 1) (hK.2 1 _ rfl).2 hP hD hS hA (N' := 8) (a0 := (8, .inl (fun _ => 0))) (fun _ => rfl) (by decide) (by decide) (Nat.le_of_ble_eq_true rfl) (Nat.le_of_ble_eq_true rfl) (Nat.le_of_ble_eq_true rfl) hz0 (show decode prog_4_method_1_code 27 = .ok (.newarray .int, 2) by decide +kernel) (fun H1 z1 hP1 hD1 hS1 => ?_)
  clear hz0
  have hz0 : H1.size = sz + 4 := z1
  clear z1
  have hP : va_P D vwCl [(h0, .inr (2, [.ref sz, .ref (sz + 1), .ref (sz + 2), .null, .int 0])), (sz, .inl (cA 1, (8, .inl (fun _ => 0)))), (sz + 1, .inl (cA 1, (8, .inl (fun _ => 0)))), (sz + 2, .inl (cA 1, (8, .inl (fun _ => 0)))), (sz + 3, .inl (cA 1, (8, .inl (fun _ => 0))))] H1 := hP1
  have hD : va_D A [(h0, .inr (2, [.ref sz, .ref (sz + 1), .ref (sz + 2), .null, .int 0])), (sz, .inl (cA 1, (8, .inl (fun _ => 0)))), (sz + 1, .inl (cA 1, (8, .inl (fun _ => 0)))), (sz + 2, .inl (cA 1, (8, .inl (fun _ => 0)))), (sz + 3, .inl (cA 1, (8, .inl (fun _ => 0))))] := hD1
  have hS := hS1
  clear hP1 hD1 hS1
  refine k_put hx hb hG inw2 tyX2 tyX2_ok nmX2 hown hK hP hD hS 0 rfl rfl 3 (by decide) (hG _ (gk ck_1 68 rfl rfl)) (fun _ h => h) (Or.inr ⟨rfl, hin, rfl⟩) (tyX2_ok 3 (by decide)) rfl rfl (Nat.le_of_ble_eq_true rfl) hz0 (show decode prog_4_method_1_code 29 = .ok (.putfield 19, 3) by decide +kernel) (fun H1 locs1 z1 hP1 hD1 hS1 => ?_)
  clear hz0
  have hz0 := z1
  clear z1
  have hP : va_P D vwCl [(h0, .inr (2, [.ref sz, .ref (sz + 1), .ref (sz + 2), .ref (sz + 3), .int 0])), (sz, .inl (cA 1, (8, .inl (fun _ => 0)))), (sz + 1, .inl (cA 1, (8, .inl (fun _ => 0)))), (sz + 2, .inl (cA 1, (8, .inl (fun _ => 0)))), (sz + 3, .inl (cA 1, (8, .inl (fun _ => 0))))] H1 := hP1
  have hD : va_D A [(h0, .inr (2, [.ref sz, .ref (sz + 1), .ref (sz + 2), .ref (sz + 3), .int 0])), (sz, .inl (cA 1, (8, .inl (fun _ => 0)))), (sz + 1, .inl (cA 1, (8, .inl (fun _ => 0)))), (sz + 2, .inl (cA 1, (8, .inl (fun _ => 0)))), (sz + 3, .inl (cA 1, (8, .inl (fun _ => 0))))] := hD1
  have hS := hS1
  clear hP1 hD1 hS1
  refine W.vret hx hb hr (fun t ht _ => ⟨⟨(), rfl, trivial, by rw [ht]; exact hz0, by rw [ht]; exact hP, by rw [hAe]; exact hD⟩, by rw [hAe]; exact hS.F ht⟩) (by rw [hAe]; exact hS.2.2) (show decode prog_4_method_1_code 32 = .ok (.return_, 1) by decide +kernel) hlocks
theorem kcd_De30 : Cond.code ⟨"EnemyLetters$Deeds", "<init>", "(I)V"⟩ prog_4_method_1_code 2 none ∈ GW0 := gk ck_1 60 rfl rfl
set_option maxHeartbeats 4000000 in
set_option maxRecDepth 100000 in
theorem m_De30 (l : Launch) (D : va_G) (cA : Nat → ClassId) (h0 sz : Nat) : kMet l ⟨"EnemyLetters$Deeds", "<init>", "(I)V"⟩ prog_4_method_1_code 2 (kRm 1 4 120) D cA [.int 30] sz h0 (.inr (2, [.null, .null, .null, .null, .int 0])) [(h0, .inr (2, [.ref sz, .ref (sz + 1), .ref (sz + 2), .ref (sz + 3), .int 0])), (sz, .inl (cA 1, (30, .inl (fun _ => 0)))), (sz + 1, .inl (cA 1, (30, .inl (fun _ => 0)))), (sz + 2, .inl (cA 1, (30, .inl (fun _ => 0)))), (sz + 3, .inl (cA 1, (30, .inl (fun _ => 0))))] (sz + 4) 4 120 := by
  unfold kMet kPost
  refine Met.ofW (cc := prog_4_method_1_code) (maxL := 2) (ret := none) (by decide) rfl ?_
  intro p e s m args below meth c s₁ B hml hv
  obtain ⟨rfl, hz0, hP, hK, hzv⟩ := hv
  have hx := B.exec
  have hb := B.bytes
  have hr := B.returns
  have hts := atoms_spec (ws := (Cond.code ⟨"EnemyLetters$Deeds", "<init>", "(I)V"⟩ prog_4_method_1_code 2 none :: GW0)) B.pre
  have hG : ∀ w ∈ GW0, w.before [.ref h0, .int 30].toArray s = true := fun w hw => hts w (List.mem_cons_of_mem _ hw)
  have hown : s.vm.findClass "EnemyLetters$Deeds" = some m.cls := findClass_of_methodNamed B.named
  have hlocks := B.notSynchronized
  have hin : meth.name = "<init>" := (name_of_methodNamed B.named B.method).1
  have hl := lv_entry ([.ref h0, .int 30]) (n := 2) (Nat.le_of_ble_eq_true rfl)
  rw [lg_entry_eq]
  generalize (lg_sl ([.ref h0, .int 30]) ++ List.replicate (2 - (lg_sl ([.ref h0, .int 30])).length) Slot.unset).toArray = ls at hl ⊢
  have hl : lv_has ls 2 [(0, .ref h0), (1, .int 30)] := hl
  have hD : va_D (va_A [(h0, .inr (2, [.null, .null, .null, .null, .int 0]))] sz) [(h0, .inr (2, [.null, .null, .null, .null, .int 0]))] := k_one
  obtain ⟨A, hAe⟩ : ∃ A, va_A [(h0, .inr (2, [.null, .null, .null, .null, .int 0]))] sz = A := ⟨_, rfl⟩
  rw [hAe] at hD
  have hA : ∀ q : Nat, s.heap.size ≤ q → A q := fun q h => by rw [← hAe]; exact Or.inr (by omega)
  have hS : va_S A s.heap s.heap [] := va_S.rf
  refine lv_aload_n hx hb (show decode prog_4_method_1_code 0 = .ok (.aload_n 0, 1) by decide +kernel) rfl (lv_at hl 0 rfl) ?_
  refine W.objInit hx hb hown (hG _ (gk ck_1 61 rfl rfl)) (hG _ (gk ck_1 25 rfl rfl)) (hG _ (gk ck_1 26 rfl rfl)) rfl (by rw [hml]; exact hl.1) rfl (show decode prog_4_method_1_code 1 = .ok (.invokespecial 1, 3) by decide +kernel) (Nat.le_of_ble_eq_true rfl) (Nat.le_of_ble_eq_true rfl) ?_
  refine W.eq (g2 := F0 m 4 ls []) rfl ?_
  refine lv_aload_n hx hb (show decode prog_4_method_1_code 4 = .ok (.aload_n 0, 1) by decide +kernel) rfl (lv_at hl 0 rfl) ?_
  refine lv_iload_n hx hb (show decode prog_4_method_1_code 5 = .ok (.iload_n 1, 1) by decide +kernel) rfl (lv_at hl 1 rfl) ?_
  refine k_newa (atype := .int) hx hb (hG _ (gk ck_1 86 rfl rfl)) (ty := .int) rfl (cA := cA 1) (hK.2 1 _ rfl).2 hP hD hS hA (N' := 30) (a0 := (30, .inl (fun _ => 0))) (fun _ => rfl) (by decide) (by decide) (Nat.le_of_ble_eq_true rfl) (Nat.le_of_ble_eq_true rfl) (Nat.le_of_ble_eq_true rfl) hz0 (show decode prog_4_method_1_code 6 = .ok (.newarray .int, 2) by decide +kernel) (fun H1 z1 hP1 hD1 hS1 => ?_)
  clear hz0
  have hz0 : H1.size = sz + 1 := z1
  clear z1
  have hP : va_P D vwCl [(h0, .inr (2, [.null, .null, .null, .null, .int 0])), (sz, .inl (cA 1, (30, .inl (fun _ => 0))))] H1 := hP1
  have hD : va_D A [(h0, .inr (2, [.null, .null, .null, .null, .int 0])), (sz, .inl (cA 1, (30, .inl (fun _ => 0))))] := hD1
  have hS := hS1
  clear hP1 hD1 hS1
  refine k_put hx hb hG inw2 tyX2 tyX2_ok nmX2 hown hK hP hD hS 0 rfl rfl 0 (by decide) (hG _ (gk ck_1 62 rfl rfl)) (fun _ h => h) (Or.inr ⟨rfl, hin, rfl⟩) (tyX2_ok 0 (by decide)) rfl rfl (Nat.le_of_ble_eq_true rfl) hz0 (show decode prog_4_method_1_code 8 = .ok (.putfield 7, 3) by decide +kernel) (fun H1 locs1 z1 hP1 hD1 hS1 => ?_)
  clear hz0
  have hz0 := z1
  clear z1
  have hP : va_P D vwCl [(h0, .inr (2, [.ref sz, .null, .null, .null, .int 0])), (sz, .inl (cA 1, (30, .inl (fun _ => 0))))] H1 := hP1
  have hD : va_D A [(h0, .inr (2, [.ref sz, .null, .null, .null, .int 0])), (sz, .inl (cA 1, (30, .inl (fun _ => 0))))] := hD1
  have hS := hS1
  clear hP1 hD1 hS1
  refine lv_aload_n hx hb (show decode prog_4_method_1_code 11 = .ok (.aload_n 0, 1) by decide +kernel) rfl (lv_at hl 0 rfl) ?_
  refine lv_iload_n hx hb (show decode prog_4_method_1_code 12 = .ok (.iload_n 1, 1) by decide +kernel) rfl (lv_at hl 1 rfl) ?_
  refine k_newa (atype := .int) hx hb (hG _ (gk ck_1 86 rfl rfl)) (ty := .int) rfl (cA := cA 1) (hK.2 1 _ rfl).2 hP hD hS hA (N' := 30) (a0 := (30, .inl (fun _ => 0))) (fun _ => rfl) (by decide) (by decide) (Nat.le_of_ble_eq_true rfl) (Nat.le_of_ble_eq_true rfl) (Nat.le_of_ble_eq_true rfl) hz0 (show decode prog_4_method_1_code 13 = .ok (.newarray .int, 2) by decide +kernel) (fun H1 z1 hP1 hD1 hS1 => ?_)
  clear hz0
  have hz0 : H1.size = sz + 2 := z1
  clear z1
  have hP : va_P D vwCl [(h0, .inr (2, [.ref sz, .null, .null, .null, .int 0])), (sz, .inl (cA 1, (30, .inl (fun _ => 0)))), (sz + 1, .inl (cA 1, (30, .inl (fun _ => 0))))] H1 := hP1
  have hD : va_D A [(h0, .inr (2, [.ref sz, .null, .null, .null, .int 0])), (sz, .inl (cA 1, (30, .inl (fun _ => 0)))), (sz + 1, .inl (cA 1, (30, .inl (fun _ => 0))))] := hD1
  have hS := hS1
  clear hP1 hD1 hS1
  refine k_put hx hb hG inw2 tyX2 tyX2_ok nmX2 hown hK hP hD hS 0 rfl rfl 1 (by decide) (hG _ (gk ck_1 64 rfl rfl)) (fun _ h => h) (Or.inr ⟨rfl, hin, rfl⟩) (tyX2_ok 1 (by decide)) rfl rfl (Nat.le_of_ble_eq_true rfl) hz0 (show decode prog_4_method_1_code 15 = .ok (.putfield 13, 3) by decide +kernel) (fun H1 locs1 z1 hP1 hD1 hS1 => ?_)
  clear hz0
  have hz0 := z1
  clear z1
  have hP : va_P D vwCl [(h0, .inr (2, [.ref sz, .ref (sz + 1), .null, .null, .int 0])), (sz, .inl (cA 1, (30, .inl (fun _ => 0)))), (sz + 1, .inl (cA 1, (30, .inl (fun _ => 0))))] H1 := hP1
  have hD : va_D A [(h0, .inr (2, [.ref sz, .ref (sz + 1), .null, .null, .int 0])), (sz, .inl (cA 1, (30, .inl (fun _ => 0)))), (sz + 1, .inl (cA 1, (30, .inl (fun _ => 0))))] := hD1
  have hS := hS1
  clear hP1 hD1 hS1
  refine lv_aload_n hx hb (show decode prog_4_method_1_code 18 = .ok (.aload_n 0, 1) by decide +kernel) rfl (lv_at hl 0 rfl) ?_
  refine lv_iload_n hx hb (show decode prog_4_method_1_code 19 = .ok (.iload_n 1, 1) by decide +kernel) rfl (lv_at hl 1 rfl) ?_
  refine k_newa (atype := .int) hx hb (hG _ (gk ck_1 86 rfl rfl)) (ty := .int) rfl (cA := cA 1) (hK.2 1 _ rfl).2 hP hD hS hA (N' := 30) (a0 := (30, .inl (fun _ => 0))) (fun _ => rfl) (by decide) (by decide) (Nat.le_of_ble_eq_true rfl) (Nat.le_of_ble_eq_true rfl) (Nat.le_of_ble_eq_true rfl) hz0 (show decode prog_4_method_1_code 20 = .ok (.newarray .int, 2) by decide +kernel) (fun H1 z1 hP1 hD1 hS1 => ?_)
  clear hz0
  have hz0 : H1.size = sz + 3 := z1
  clear z1
  have hP : va_P D vwCl [(h0, .inr (2, [.ref sz, .ref (sz + 1), .null, .null, .int 0])), (sz, .inl (cA 1, (30, .inl (fun _ => 0)))), (sz + 1, .inl (cA 1, (30, .inl (fun _ => 0)))), (sz + 2, .inl (cA 1, (30, .inl (fun _ => 0))))] H1 := hP1
  have hD : va_D A [(h0, .inr (2, [.ref sz, .ref (sz + 1), .null, .null, .int 0])), (sz, .inl (cA 1, (30, .inl (fun _ => 0)))), (sz + 1, .inl (cA 1, (30, .inl (fun _ => 0)))), (sz + 2, .inl (cA 1, (30, .inl (fun _ => 0))))] := hD1
  have hS := hS1
  clear hP1 hD1 hS1
  refine k_put hx hb hG inw2 tyX2 tyX2_ok nmX2 hown hK hP hD hS 0 rfl rfl 2 (by decide) (hG _ (gk ck_1 66 rfl rfl)) (fun _ h => h) (Or.inr ⟨rfl, hin, rfl⟩) (tyX2_ok 2 (by decide)) rfl rfl (Nat.le_of_ble_eq_true rfl) hz0 (show decode prog_4_method_1_code 22 = .ok (.putfield 16, 3) by decide +kernel) (fun H1 locs1 z1 hP1 hD1 hS1 => ?_)
  clear hz0
  have hz0 := z1
  clear z1
  have hP : va_P D vwCl [(h0, .inr (2, [.ref sz, .ref (sz + 1), .ref (sz + 2), .null, .int 0])), (sz, .inl (cA 1, (30, .inl (fun _ => 0)))), (sz + 1, .inl (cA 1, (30, .inl (fun _ => 0)))), (sz + 2, .inl (cA 1, (30, .inl (fun _ => 0))))] H1 := hP1
  have hD : va_D A [(h0, .inr (2, [.ref sz, .ref (sz + 1), .ref (sz + 2), .null, .int 0])), (sz, .inl (cA 1, (30, .inl (fun _ => 0)))), (sz + 1, .inl (cA 1, (30, .inl (fun _ => 0)))), (sz + 2, .inl (cA 1, (30, .inl (fun _ => 0))))] := hD1
  have hS := hS1
  clear hP1 hD1 hS1
  refine lv_aload_n hx hb (show decode prog_4_method_1_code 25 = .ok (.aload_n 0, 1) by decide +kernel) rfl (lv_at hl 0 rfl) ?_
  refine lv_iload_n hx hb (show decode prog_4_method_1_code 26 = .ok (.iload_n 1, 1) by decide +kernel) rfl (lv_at hl 1 rfl) ?_
  refine k_newa (atype := .int) hx hb (hG _ (gk ck_1 86 rfl rfl)) (ty := .int) rfl (cA := cA 1) (hK.2 1 _ rfl).2 hP hD hS hA (N' := 30) (a0 := (30, .inl (fun _ => 0))) (fun _ => rfl) (by decide) (by decide) (Nat.le_of_ble_eq_true rfl) (Nat.le_of_ble_eq_true rfl) (Nat.le_of_ble_eq_true rfl) hz0 (show decode prog_4_method_1_code 27 = .ok (.newarray .int, 2) by decide +kernel) (fun H1 z1 hP1 hD1 hS1 => ?_)
  clear hz0
  have hz0 : H1.size = sz + 4 := z1
  clear z1
  have hP : va_P D vwCl [(h0, .inr (2, [.ref sz, .ref (sz + 1), .ref (sz + 2), .null, .int 0])), (sz, .inl (cA 1, (30, .inl (fun _ => 0)))), (sz + 1, .inl (cA 1, (30, .inl (fun _ => 0)))), (sz + 2, .inl (cA 1, (30, .inl (fun _ => 0)))), (sz + 3, .inl (cA 1, (30, .inl (fun _ => 0))))] H1 := hP1
  have hD : va_D A [(h0, .inr (2, [.ref sz, .ref (sz + 1), .ref (sz + 2), .null, .int 0])), (sz, .inl (cA 1, (30, .inl (fun _ => 0)))), (sz + 1, .inl (cA 1, (30, .inl (fun _ => 0)))), (sz + 2, .inl (cA 1, (30, .inl (fun _ => 0)))), (sz + 3, .inl (cA 1, (30, .inl (fun _ => 0))))] := hD1
  have hS := hS1
  clear hP1 hD1 hS1
  refine k_put hx hb hG inw2 tyX2 tyX2_ok nmX2 hown hK hP hD hS 0 rfl rfl 3 (by decide) (hG _ (gk ck_1 68 rfl rfl)) (fun _ h => h) (Or.inr ⟨rfl, hin, rfl⟩) (tyX2_ok 3 (by decide)) rfl rfl (Nat.le_of_ble_eq_true rfl) hz0 (show decode prog_4_method_1_code 29 = .ok (.putfield 19, 3) by decide +kernel) (fun H1 locs1 z1 hP1 hD1 hS1 => ?_)
  clear hz0
  have hz0 := z1
  clear z1
  have hP : va_P D vwCl [(h0, .inr (2, [.ref sz, .ref (sz + 1), .ref (sz + 2), .ref (sz + 3), .int 0])), (sz, .inl (cA 1, (30, .inl (fun _ => 0)))), (sz + 1, .inl (cA 1, (30, .inl (fun _ => 0)))), (sz + 2, .inl (cA 1, (30, .inl (fun _ => 0)))), (sz + 3, .inl (cA 1, (30, .inl (fun _ => 0))))] H1 := hP1
  have hD : va_D A [(h0, .inr (2, [.ref sz, .ref (sz + 1), .ref (sz + 2), .ref (sz + 3), .int 0])), (sz, .inl (cA 1, (30, .inl (fun _ => 0)))), (sz + 1, .inl (cA 1, (30, .inl (fun _ => 0)))), (sz + 2, .inl (cA 1, (30, .inl (fun _ => 0)))), (sz + 3, .inl (cA 1, (30, .inl (fun _ => 0))))] := hD1
  have hS := hS1
  clear hP1 hD1 hS1
  refine W.vret hx hb hr (fun t ht _ => ⟨⟨(), rfl, trivial, by rw [ht]; exact hz0, by rw [ht]; exact hP, by rw [hAe]; exact hD⟩, by rw [hAe]; exact hS.F ht⟩) (by rw [hAe]; exact hS.2.2) (show decode prog_4_method_1_code 32 = .ok (.return_, 1) by decide +kernel) hlocks
theorem kcd_La : Cond.code ⟨"EnemyLetters$Land", "<init>", "()V"⟩ prog_5_method_1_code 1 none ∈ GW0 := gk ck_1 54 rfl rfl
set_option maxHeartbeats 4000000 in
set_option maxRecDepth 100000 in
theorem m_La (l : Launch) (D : va_G) (cA : Nat → ClassId) (h0 sz : Nat) : kMet l ⟨"EnemyLetters$Land", "<init>", "()V"⟩ prog_5_method_1_code 1 (kRm 2 14 214) D cA [] sz h0 (.inr (3, [.int 0, .int 0, .int 0, .int 0, .int 0, .int 0, .int 0, .null, .null, .null, .null, .null, .null])) [(h0, .inr (3, [.int 0, .int 0, .int 0, .int 0, .int 0, .int 0, .int 0, .ref sz, .ref (sz + 1), .ref (sz + 2), .ref (sz + 3), .ref (sz + 4), .ref (sz + 9)])), (sz, .inl (cA 1, (6, .inl (fun _ => 0)))), (sz + 1, .inl (cA 1, (36, .inl (fun _ => 0)))), (sz + 2, .inl (cA 1, (5, .inl (fun _ => 0)))), (sz + 3, .inl (cA 1, (5, .inl (fun _ => 0)))), ((sz + 4), .inr (2, [.ref (sz + 5), .ref ((sz + 5) + 1), .ref ((sz + 5) + 2), .ref ((sz + 5) + 3), .int 0])), ((sz + 5), .inl (cA 1, (8, .inl (fun _ => 0)))), ((sz + 5) + 1, .inl (cA 1, (8, .inl (fun _ => 0)))), ((sz + 5) + 2, .inl (cA 1, (8, .inl (fun _ => 0)))), ((sz + 5) + 3, .inl (cA 1, (8, .inl (fun _ => 0)))), ((sz + 9), .inr (2, [.ref (sz + 10), .ref ((sz + 10) + 1), .ref ((sz + 10) + 2), .ref ((sz + 10) + 3), .int 0])), ((sz + 10), .inl (cA 1, (30, .inl (fun _ => 0)))), ((sz + 10) + 1, .inl (cA 1, (30, .inl (fun _ => 0)))), ((sz + 10) + 2, .inl (cA 1, (30, .inl (fun _ => 0)))), ((sz + 10) + 3, .inl (cA 1, (30, .inl (fun _ => 0))))] (sz + 14) 14 214 := by
  unfold kMet kPost
  refine Met.ofW (cc := prog_5_method_1_code) (maxL := 1) (ret := none) (by decide) rfl ?_
  intro p e s m args below meth c s₁ B hml hv
  obtain ⟨rfl, hz0, hP, hK, hzv⟩ := hv
  have hx := B.exec
  have hb := B.bytes
  have hr := B.returns
  have hts := atoms_spec (ws := (Cond.code ⟨"EnemyLetters$Land", "<init>", "()V"⟩ prog_5_method_1_code 1 none :: GW0)) B.pre
  have hG : ∀ w ∈ GW0, w.before [.ref h0].toArray s = true := fun w hw => hts w (List.mem_cons_of_mem _ hw)
  have hown : s.vm.findClass "EnemyLetters$Land" = some m.cls := findClass_of_methodNamed B.named
  have hlocks := B.notSynchronized
  have hin : meth.name = "<init>" := (name_of_methodNamed B.named B.method).1
  have hl := lv_entry ([.ref h0]) (n := 1) (Nat.le_of_ble_eq_true rfl)
  rw [lg_entry_eq]
  generalize (lg_sl ([.ref h0]) ++ List.replicate (1 - (lg_sl ([.ref h0])).length) Slot.unset).toArray = ls at hl ⊢
  have hl : lv_has ls 1 [(0, .ref h0)] := hl
  have hD : va_D (va_A [(h0, .inr (3, [.int 0, .int 0, .int 0, .int 0, .int 0, .int 0, .int 0, .null, .null, .null, .null, .null, .null]))] sz) [(h0, .inr (3, [.int 0, .int 0, .int 0, .int 0, .int 0, .int 0, .int 0, .null, .null, .null, .null, .null, .null]))] := k_one
  obtain ⟨A, hAe⟩ : ∃ A, va_A [(h0, .inr (3, [.int 0, .int 0, .int 0, .int 0, .int 0, .int 0, .int 0, .null, .null, .null, .null, .null, .null]))] sz = A := ⟨_, rfl⟩
  rw [hAe] at hD
  have hA : ∀ q : Nat, s.heap.size ≤ q → A q := fun q h => by rw [← hAe]; exact Or.inr (by omega)
  have hS : va_S A s.heap s.heap [] := va_S.rf
  refine lv_aload_n hx hb (show decode prog_5_method_1_code 0 = .ok (.aload_n 0, 1) by decide +kernel) rfl (lv_at hl 0 rfl) ?_
  refine W.objInit hx hb hown (hG _ (gk ck_1 55 rfl rfl)) (hG _ (gk ck_1 25 rfl rfl)) (hG _ (gk ck_1 26 rfl rfl)) rfl (by rw [hml]; exact hl.1) rfl (show decode prog_5_method_1_code 1 = .ok (.invokespecial 3, 3) by decide +kernel) (Nat.le_of_ble_eq_true rfl) (Nat.le_of_ble_eq_true rfl) ?_
  refine W.eq (g2 := F0 m 4 ls []) rfl ?_
  refine lv_aload_n hx hb (show decode prog_5_method_1_code 4 = .ok (.aload_n 0, 1) by decide +kernel) rfl (lv_at hl 0 rfl) ?_
  refine lv_bipush hx hb (show decode prog_5_method_1_code 5 = .ok (.bipush 6, 2) by decide +kernel) (v := 6) rfl ?_
  refine k_newa (atype := .int) hx hb (hG _ (gk ck_1 86 rfl rfl)) (ty := .int) rfl (cA := cA 1) (hK.2 1 _ rfl).2 hP hD hS hA (N' := 6) (a0 := (6, .inl (fun _ => 0))) (fun _ => rfl) (by decide) (by decide) (Nat.le_of_ble_eq_true rfl) (Nat.le_of_ble_eq_true rfl) (Nat.le_of_ble_eq_true rfl) hz0 (show decode prog_5_method_1_code 7 = .ok (.newarray .int, 2) by decide +kernel) (fun H1 z1 hP1 hD1 hS1 => ?_)
  clear hz0
  have hz0 : H1.size = sz + 1 := z1
  clear z1
  have hP : va_P D vwCl [(h0, .inr (3, [.int 0, .int 0, .int 0, .int 0, .int 0, .int 0, .int 0, .null, .null, .null, .null, .null, .null])), (sz, .inl (cA 1, (6, .inl (fun _ => 0))))] H1 := hP1
  have hD : va_D A [(h0, .inr (3, [.int 0, .int 0, .int 0, .int 0, .int 0, .int 0, .int 0, .null, .null, .null, .null, .null, .null])), (sz, .inl (cA 1, (6, .inl (fun _ => 0))))] := hD1
  have hS := hS1
  clear hP1 hD1 hS1
  refine k_put hx hb hG inw3 tyX3 tyX3_ok nmX3 hown hK hP hD hS 0 rfl rfl 7 (by decide) (hG _ (gk ck_1 116 rfl rfl)) (fun _ h => h) (Or.inr ⟨rfl, hin, rfl⟩) (tyX3_ok 7 (by decide)) rfl rfl (Nat.le_of_ble_eq_true rfl) hz0 (show decode prog_5_method_1_code 9 = .ok (.putfield 9, 3) by decide +kernel) (fun H1 locs1 z1 hP1 hD1 hS1 => ?_)
  clear hz0
  have hz0 := z1
  clear z1
  have hP : va_P D vwCl [(h0, .inr (3, [.int 0, .int 0, .int 0, .int 0, .int 0, .int 0, .int 0, .ref sz, .null, .null, .null, .null, .null])), (sz, .inl (cA 1, (6, .inl (fun _ => 0))))] H1 := hP1
  have hD : va_D A [(h0, .inr (3, [.int 0, .int 0, .int 0, .int 0, .int 0, .int 0, .int 0, .ref sz, .null, .null, .null, .null, .null])), (sz, .inl (cA 1, (6, .inl (fun _ => 0))))] := hD1
  have hS := hS1
  clear hP1 hD1 hS1
  refine lv_aload_n hx hb (show decode prog_5_method_1_code 12 = .ok (.aload_n 0, 1) by decide +kernel) rfl (lv_at hl 0 rfl) ?_
  refine lv_bipush hx hb (show decode prog_5_method_1_code 13 = .ok (.bipush 36, 2) by decide +kernel) (v := 36) rfl ?_
  refine k_newa (atype := .int) hx hb (hG _ (gk ck_1 86 rfl rfl)) (ty := .int) rfl (cA := cA 1) (hK.2 1 _ rfl).2 hP hD hS hA (N' := 36) (a0 := (36, .inl (fun _ => 0))) (fun _ => rfl) (by decide) (by decide) (Nat.le_of_ble_eq_true rfl) (Nat.le_of_ble_eq_true rfl) (Nat.le_of_ble_eq_true rfl) hz0 (show decode prog_5_method_1_code 15 = .ok (.newarray .int, 2) by decide +kernel) (fun H1 z1 hP1 hD1 hS1 => ?_)
  clear hz0
  have hz0 : H1.size = sz + 2 := z1
  clear z1
  have hP : va_P D vwCl [(h0, .inr (3, [.int 0, .int 0, .int 0, .int 0, .int 0, .int 0, .int 0, .ref sz, .null, .null, .null, .null, .null])), (sz, .inl (cA 1, (6, .inl (fun _ => 0)))), (sz + 1, .inl (cA 1, (36, .inl (fun _ => 0))))] H1 := hP1
  have hD : va_D A [(h0, .inr (3, [.int 0, .int 0, .int 0, .int 0, .int 0, .int 0, .int 0, .ref sz, .null, .null, .null, .null, .null])), (sz, .inl (cA 1, (6, .inl (fun _ => 0)))), (sz + 1, .inl (cA 1, (36, .inl (fun _ => 0))))] := hD1
  have hS := hS1
  clear hP1 hD1 hS1
  refine k_put hx hb hG inw3 tyX3 tyX3_ok nmX3 hown hK hP hD hS 0 rfl rfl 8 (by decide) (hG _ (gk ck_1 120 rfl rfl)) (fun _ h => h) (Or.inr ⟨rfl, hin, rfl⟩) (tyX3_ok 8 (by decide)) rfl rfl (Nat.le_of_ble_eq_true rfl) hz0 (show decode prog_5_method_1_code 17 = .ok (.putfield 15, 3) by decide +kernel) (fun H1 locs1 z1 hP1 hD1 hS1 => ?_)
  clear hz0
  have hz0 := z1
  clear z1
  have hP : va_P D vwCl [(h0, .inr (3, [.int 0, .int 0, .int 0, .int 0, .int 0, .int 0, .int 0, .ref sz, .ref (sz + 1), .null, .null, .null, .null])), (sz, .inl (cA 1, (6, .inl (fun _ => 0)))), (sz + 1, .inl (cA 1, (36, .inl (fun _ => 0))))] H1 := hP1
  have hD : va_D A [(h0, .inr (3, [.int 0, .int 0, .int 0, .int 0, .int 0, .int 0, .int 0, .ref sz, .ref (sz + 1), .null, .null, .null, .null])), (sz, .inl (cA 1, (6, .inl (fun _ => 0)))), (sz + 1, .inl (cA 1, (36, .inl (fun _ => 0))))] := hD1
  have hS := hS1
  clear hP1 hD1 hS1
  refine lv_aload_n hx hb (show decode prog_5_method_1_code 20 = .ok (.aload_n 0, 1) by decide +kernel) rfl (lv_at hl 0 rfl) ?_
  refine lv_iconst hx hb (show decode prog_5_method_1_code 21 = .ok (.iconst 5, 1) by decide +kernel) (v := 5) rfl ?_
  refine k_newa (atype := .int) hx hb (hG _ (gk ck_1 86 rfl rfl)) (ty := .int) rfl (cA := cA 1) (hK.2 1 _ rfl).2 hP hD hS hA (N' := 5) (a0 := (5, .inl (fun _ => 0))) (fun _ => rfl) (by decide) (by decide) (Nat.le_of_ble_eq_true rfl) (Nat.le_of_ble_eq_true rfl) (Nat.le_of_ble_eq_true rfl) hz0 (show decode prog_5_method_1_code 22 = .ok (.newarray .int, 2) by decide +kernel) (fun H1 z1 hP1 hD1 hS1 => ?_)
  clear hz0
  have hz0 : H1.size = sz + 3 := z1
  clear z1
  have hP : va_P D vwCl [(h0, .inr (3, [.int 0, .int 0, .int 0, .int 0, .int 0, .int 0, .int 0, .ref sz, .ref (sz + 1), .null, .null, .null, .null])), (sz, .inl (cA 1, (6, .inl (fun _ => 0)))), (sz + 1, .inl (cA 1, (36, .inl (fun _ => 0)))), (sz + 2, .inl (cA 1, (5, .inl (fun _ => 0))))] H1 := hP1
  have hD : va_D A [(h0, .inr (3, [.int 0, .int 0, .int 0, .int 0, .int 0, .int 0, .int 0, .ref sz, .ref (sz + 1), .null, .null, .null, .null])), (sz, .inl (cA 1, (6, .inl (fun _ => 0)))), (sz + 1, .inl (cA 1, (36, .inl (fun _ => 0)))), (sz + 2, .inl (cA 1, (5, .inl (fun _ => 0))))] := hD1
  have hS := hS1
  clear hP1 hD1 hS1
  refine k_put hx hb hG inw3 tyX3 tyX3_ok nmX3 hown hK hP hD hS 0 rfl rfl 9 (by decide) (hG _ (gk ck_1 123 rfl rfl)) (fun _ h => h) (Or.inr ⟨rfl, hin, rfl⟩) (tyX3_ok 9 (by decide)) rfl rfl (Nat.le_of_ble_eq_true rfl) hz0 (show decode prog_5_method_1_code 24 = .ok (.putfield 18, 3) by decide +kernel) (fun H1 locs1 z1 hP1 hD1 hS1 => ?_)
  clear hz0
  have hz0 := z1
  clear z1
  have hP : va_P D vwCl [(h0, .inr (3, [.int 0, .int 0, .int 0, .int 0, .int 0, .int 0, .int 0, .ref sz, .ref (sz + 1), .ref (sz + 2), .null, .null, .null])), (sz, .inl (cA 1, (6, .inl (fun _ => 0)))), (sz + 1, .inl (cA 1, (36, .inl (fun _ => 0)))), (sz + 2, .inl (cA 1, (5, .inl (fun _ => 0))))] H1 := hP1
  have hD : va_D A [(h0, .inr (3, [.int 0, .int 0, .int 0, .int 0, .int 0, .int 0, .int 0, .ref sz, .ref (sz + 1), .ref (sz + 2), .null, .null, .null])), (sz, .inl (cA 1, (6, .inl (fun _ => 0)))), (sz + 1, .inl (cA 1, (36, .inl (fun _ => 0)))), (sz + 2, .inl (cA 1, (5, .inl (fun _ => 0))))] := hD1
  have hS := hS1
  clear hP1 hD1 hS1
  refine lv_aload_n hx hb (show decode prog_5_method_1_code 27 = .ok (.aload_n 0, 1) by decide +kernel) rfl (lv_at hl 0 rfl) ?_
  refine lv_iconst hx hb (show decode prog_5_method_1_code 28 = .ok (.iconst 5, 1) by decide +kernel) (v := 5) rfl ?_
  refine k_newa (atype := .int) hx hb (hG _ (gk ck_1 86 rfl rfl)) (ty := .int) rfl (cA := cA 1) (hK.2 1 _ rfl).2 hP hD hS hA (N' := 5) (a0 := (5, .inl (fun _ => 0))) (fun _ => rfl) (by decide) (by decide) (Nat.le_of_ble_eq_true rfl) (Nat.le_of_ble_eq_true rfl) (Nat.le_of_ble_eq_true rfl) hz0 (show decode prog_5_method_1_code 29 = .ok (.newarray .int, 2) by decide +kernel) (fun H1 z1 hP1 hD1 hS1 => ?_)
  clear hz0
  have hz0 : H1.size = sz + 4 := z1
  clear z1
  have hP : va_P D vwCl [(h0, .inr (3, [.int 0, .int 0, .int 0, .int 0, .int 0, .int 0, .int 0, .ref sz, .ref (sz + 1), .ref (sz + 2), .null, .null, .null])), (sz, .inl (cA 1, (6, .inl (fun _ => 0)))), (sz + 1, .inl (cA 1, (36, .inl (fun _ => 0)))), (sz + 2, .inl (cA 1, (5, .inl (fun _ => 0)))), (sz + 3, .inl (cA 1, (5, .inl (fun _ => 0))))] H1 := hP1
  have hD : va_D A [(h0, .inr (3, [.int 0, .int 0, .int 0, .int 0, .int 0, .int 0, .int 0, .ref sz, .ref (sz + 1), .ref (sz + 2), .null, .null, .null])), (sz, .inl (cA 1, (6, .inl (fun _ => 0)))), (sz + 1, .inl (cA 1, (36, .inl (fun _ => 0)))), (sz + 2, .inl (cA 1, (5, .inl (fun _ => 0)))), (sz + 3, .inl (cA 1, (5, .inl (fun _ => 0))))] := hD1
  have hS := hS1
  clear hP1 hD1 hS1
  refine k_put hx hb hG inw3 tyX3 tyX3_ok nmX3 hown hK hP hD hS 0 rfl rfl 10 (by decide) (hG _ (gk ck_1 127 rfl rfl)) (fun _ h => h) (Or.inr ⟨rfl, hin, rfl⟩) (tyX3_ok 10 (by decide)) rfl rfl (Nat.le_of_ble_eq_true rfl) hz0 (show decode prog_5_method_1_code 31 = .ok (.putfield 21, 3) by decide +kernel) (fun H1 locs1 z1 hP1 hD1 hS1 => ?_)
  clear hz0
  have hz0 := z1
  clear z1
  have hP : va_P D vwCl [(h0, .inr (3, [.int 0, .int 0, .int 0, .int 0, .int 0, .int 0, .int 0, .ref sz, .ref (sz + 1), .ref (sz + 2), .ref (sz + 3), .null, .null])), (sz, .inl (cA 1, (6, .inl (fun _ => 0)))), (sz + 1, .inl (cA 1, (36, .inl (fun _ => 0)))), (sz + 2, .inl (cA 1, (5, .inl (fun _ => 0)))), (sz + 3, .inl (cA 1, (5, .inl (fun _ => 0))))] H1 := hP1
  have hD : va_D A [(h0, .inr (3, [.int 0, .int 0, .int 0, .int 0, .int 0, .int 0, .int 0, .ref sz, .ref (sz + 1), .ref (sz + 2), .ref (sz + 3), .null, .null])), (sz, .inl (cA 1, (6, .inl (fun _ => 0)))), (sz + 1, .inl (cA 1, (36, .inl (fun _ => 0)))), (sz + 2, .inl (cA 1, (5, .inl (fun _ => 0)))), (sz + 3, .inl (cA 1, (5, .inl (fun _ => 0))))] := hD1
  have hS := hS1
  clear hP1 hD1 hS1
  refine lv_aload_n hx hb (show decode prog_5_method_1_code 34 = .ok (.aload_n 0, 1) by decide +kernel) rfl (lv_at hl 0 rfl) ?_
  refine k_new hx hb hG inw2 tyX2 tyX2_ok hown (hG _ (gk ck_1 56 rfl rfl)) (hG _ (gk ck_1 57 rfl rfl)) (hG _ (gk ck_1 5 rfl rfl)) hK hP hD hS hA (ci := 2) rfl (fs := [.null, .null, .null, .null, .int 0]) (by decide) (Nat.le_of_ble_eq_true rfl) (Nat.le_of_ble_eq_true rfl) hz0 (show decode prog_5_method_1_code 35 = .ok (.new 24, 3) by decide +kernel) (fun H1 z1 hP1 hD1 hS1 => ?_)
  clear hz0
  have hz0 : H1.size = sz + 5 := z1
  clear z1
  have hP : va_P D vwCl [(h0, .inr (3, [.int 0, .int 0, .int 0, .int 0, .int 0, .int 0, .int 0, .ref sz, .ref (sz + 1), .ref (sz + 2), .ref (sz + 3), .null, .null])), (sz, .inl (cA 1, (6, .inl (fun _ => 0)))), (sz + 1, .inl (cA 1, (36, .inl (fun _ => 0)))), (sz + 2, .inl (cA 1, (5, .inl (fun _ => 0)))), (sz + 3, .inl (cA 1, (5, .inl (fun _ => 0)))), (sz + 4, .inr (2, [.null, .null, .null, .null, .int 0]))] H1 := hP1
  have hD : va_D A [(h0, .inr (3, [.int 0, .int 0, .int 0, .int 0, .int 0, .int 0, .int 0, .ref sz, .ref (sz + 1), .ref (sz + 2), .ref (sz + 3), .null, .null])), (sz, .inl (cA 1, (6, .inl (fun _ => 0)))), (sz + 1, .inl (cA 1, (36, .inl (fun _ => 0)))), (sz + 2, .inl (cA 1, (5, .inl (fun _ => 0)))), (sz + 3, .inl (cA 1, (5, .inl (fun _ => 0)))), (sz + 4, .inr (2, [.null, .null, .null, .null, .int 0]))] := hD1
  have hS := hS1
  clear hP1 hD1 hS1
  refine lv_dup hx hb (show decode prog_5_method_1_code 38 = .ok (.dup, 1) by decide +kernel) rfl ?_
  refine lv_bipush hx hb (show decode prog_5_method_1_code 39 = .ok (.bipush 8, 2) by decide +kernel) (v := 8) rfl ?_
  refine k_init (ws := [(h0, .inr (3, [.int 0, .int 0, .int 0, .int 0, .int 0, .int 0, .int 0, .ref sz, .ref (sz + 1), .ref (sz + 2), .ref (sz + 3), .null, .null])), (sz, .inl (cA 1, (6, .inl (fun _ => 0)))), (sz + 1, .inl (cA 1, (36, .inl (fun _ => 0)))), (sz + 2, .inl (cA 1, (5, .inl (fun _ => 0)))), (sz + 3, .inl (cA 1, (5, .inl (fun _ => 0))))]) (As := [.int 8]) (rest := [.ref (sz + 4), .ref h0]) ⟨hx, hb, hml, hown, hG⟩ (m_De8 l D cA (sz + 4) (sz + 5)) ⟨callB_of 1 hG (gw_in kcd_De8) rfl rfl rfl (hG _ (gk ck_1 5 rfl rfl)) (hG _ (gk ck_1 58 rfl rfl)) ⟨by decide, by decide, by decide +kernel⟩ ⟨Nat.le_of_ble_eq_true rfl, Nat.le_of_ble_eq_true rfl⟩, rfl, hG _ (gk ck_1 59 rfl rfl)⟩ hK hzv hP hD hS hA hz0 rfl hl.1 (Nat.le_of_ble_eq_true rfl) (show decode prog_5_method_1_code 41 = .ok (.invokespecial 26, 3) by decide +kernel) ⟨Nat.le_of_ble_eq_true rfl, Nat.le_of_ble_eq_true rfl⟩ (fun H1 locs1 z1 hP1 hD1 hS1 => ?_)
  clear hz0
  have hz0 : H1.size = sz + 9 := z1
  clear z1
  have hP : va_P D vwCl [(h0, .inr (3, [.int 0, .int 0, .int 0, .int 0, .int 0, .int 0, .int 0, .ref sz, .ref (sz + 1), .ref (sz + 2), .ref (sz + 3), .null, .null])), (sz, .inl (cA 1, (6, .inl (fun _ => 0)))), (sz + 1, .inl (cA 1, (36, .inl (fun _ => 0)))), (sz + 2, .inl (cA 1, (5, .inl (fun _ => 0)))), (sz + 3, .inl (cA 1, (5, .inl (fun _ => 0)))), ((sz + 4), .inr (2, [.ref (sz + 5), .ref ((sz + 5) + 1), .ref ((sz + 5) + 2), .ref ((sz + 5) + 3), .int 0])), ((sz + 5), .inl (cA 1, (8, .inl (fun _ => 0)))), ((sz + 5) + 1, .inl (cA 1, (8, .inl (fun _ => 0)))), ((sz + 5) + 2, .inl (cA 1, (8, .inl (fun _ => 0)))), ((sz + 5) + 3, .inl (cA 1, (8, .inl (fun _ => 0))))] H1 := hP1
  have hD : va_D A [(h0, .inr (3, [.int 0, .int 0, .int 0, .int 0, .int 0, .int 0, .int 0, .ref sz, .ref (sz + 1), .ref (sz + 2), .ref (sz + 3), .null, .null])), (sz, .inl (cA 1, (6, .inl (fun _ => 0)))), (sz + 1, .inl (cA 1, (36, .inl (fun _ => 0)))), (sz + 2, .inl (cA 1, (5, .inl (fun _ => 0)))), (sz + 3, .inl (cA 1, (5, .inl (fun _ => 0)))), ((sz + 4), .inr (2, [.ref (sz + 5), .ref ((sz + 5) + 1), .ref ((sz + 5) + 2), .ref ((sz + 5) + 3), .int 0])), ((sz + 5), .inl (cA 1, (8, .inl (fun _ => 0)))), ((sz + 5) + 1, .inl (cA 1, (8, .inl (fun _ => 0)))), ((sz + 5) + 2, .inl (cA 1, (8, .inl (fun _ => 0)))), ((sz + 5) + 3, .inl (cA 1, (8, .inl (fun _ => 0))))] := hD1
  have hS := hS1
  clear hP1 hD1 hS1
  refine k_put hx hb hG inw3 tyX3 tyX3_ok nmX3 hown hK hP hD hS 0 rfl rfl 11 (by decide) (hG _ (gk ck_1 131 rfl rfl)) (fun _ h => h) (Or.inr ⟨rfl, hin, rfl⟩) (tyX3_ok 11 (by decide)) rfl rfl (Nat.le_of_ble_eq_true rfl) hz0 (show decode prog_5_method_1_code 44 = .ok (.putfield 29, 3) by decide +kernel) (fun H1 locs1 z1 hP1 hD1 hS1 => ?_)
  clear hz0
  have hz0 := z1
  clear z1
  have hP : va_P D vwCl [(h0, .inr (3, [.int 0, .int 0, .int 0, .int 0, .int 0, .int 0, .int 0, .ref sz, .ref (sz + 1), .ref (sz + 2), .ref (sz + 3), .ref (sz + 4), .null])), (sz, .inl (cA 1, (6, .inl (fun _ => 0)))), (sz + 1, .inl (cA 1, (36, .inl (fun _ => 0)))), (sz + 2, .inl (cA 1, (5, .inl (fun _ => 0)))), (sz + 3, .inl (cA 1, (5, .inl (fun _ => 0)))), ((sz + 4), .inr (2, [.ref (sz + 5), .ref ((sz + 5) + 1), .ref ((sz + 5) + 2), .ref ((sz + 5) + 3), .int 0])), ((sz + 5), .inl (cA 1, (8, .inl (fun _ => 0)))), ((sz + 5) + 1, .inl (cA 1, (8, .inl (fun _ => 0)))), ((sz + 5) + 2, .inl (cA 1, (8, .inl (fun _ => 0)))), ((sz + 5) + 3, .inl (cA 1, (8, .inl (fun _ => 0))))] H1 := hP1
  have hD : va_D A [(h0, .inr (3, [.int 0, .int 0, .int 0, .int 0, .int 0, .int 0, .int 0, .ref sz, .ref (sz + 1), .ref (sz + 2), .ref (sz + 3), .ref (sz + 4), .null])), (sz, .inl (cA 1, (6, .inl (fun _ => 0)))), (sz + 1, .inl (cA 1, (36, .inl (fun _ => 0)))), (sz + 2, .inl (cA 1, (5, .inl (fun _ => 0)))), (sz + 3, .inl (cA 1, (5, .inl (fun _ => 0)))), ((sz + 4), .inr (2, [.ref (sz + 5), .ref ((sz + 5) + 1), .ref ((sz + 5) + 2), .ref ((sz + 5) + 3), .int 0])), ((sz + 5), .inl (cA 1, (8, .inl (fun _ => 0)))), ((sz + 5) + 1, .inl (cA 1, (8, .inl (fun _ => 0)))), ((sz + 5) + 2, .inl (cA 1, (8, .inl (fun _ => 0)))), ((sz + 5) + 3, .inl (cA 1, (8, .inl (fun _ => 0))))] := hD1
  have hS := hS1
  clear hP1 hD1 hS1
  refine lv_aload_n hx hb (show decode prog_5_method_1_code 47 = .ok (.aload_n 0, 1) by decide +kernel) rfl (lv_at hl 0 rfl) ?_
  refine k_new hx hb hG inw2 tyX2 tyX2_ok hown (hG _ (gk ck_1 56 rfl rfl)) (hG _ (gk ck_1 57 rfl rfl)) (hG _ (gk ck_1 5 rfl rfl)) hK hP hD hS hA (ci := 2) rfl (fs := [.null, .null, .null, .null, .int 0]) (by decide) (Nat.le_of_ble_eq_true rfl) (Nat.le_of_ble_eq_true rfl) hz0 (show decode prog_5_method_1_code 48 = .ok (.new 24, 3) by decide +kernel) (fun H1 z1 hP1 hD1 hS1 => ?_)
  clear hz0
  have hz0 : H1.size = sz + 10 := z1
  clear z1
  have hP : va_P D vwCl [(h0, .inr (3, [.int 0, .int 0, .int 0, .int 0, .int 0, .int 0, .int 0, .ref sz, .ref (sz + 1), .ref (sz + 2), .ref (sz + 3), .ref (sz + 4), .null])), (sz, .inl (cA 1, (6, .inl (fun _ => 0)))), (sz + 1, .inl (cA 1, (36, .inl (fun _ => 0)))), (sz + 2, .inl (cA 1, (5, .inl (fun _ => 0)))), (sz + 3, .inl (cA 1, (5, .inl (fun _ => 0)))), ((sz + 4), .inr (2, [.ref (sz + 5), .ref ((sz + 5) + 1), .ref ((sz + 5) + 2), .ref ((sz + 5) + 3), .int 0])), ((sz + 5), .inl (cA 1, (8, .inl (fun _ => 0)))), ((sz + 5) + 1, .inl (cA 1, (8, .inl (fun _ => 0)))), ((sz + 5) + 2, .inl (cA 1, (8, .inl (fun _ => 0)))), ((sz + 5) + 3, .inl (cA 1, (8, .inl (fun _ => 0)))), (sz + 9, .inr (2, [.null, .null, .null, .null, .int 0]))] H1 := hP1
  have hD : va_D A [(h0, .inr (3, [.int 0, .int 0, .int 0, .int 0, .int 0, .int 0, .int 0, .ref sz, .ref (sz + 1), .ref (sz + 2), .ref (sz + 3), .ref (sz + 4), .null])), (sz, .inl (cA 1, (6, .inl (fun _ => 0)))), (sz + 1, .inl (cA 1, (36, .inl (fun _ => 0)))), (sz + 2, .inl (cA 1, (5, .inl (fun _ => 0)))), (sz + 3, .inl (cA 1, (5, .inl (fun _ => 0)))), ((sz + 4), .inr (2, [.ref (sz + 5), .ref ((sz + 5) + 1), .ref ((sz + 5) + 2), .ref ((sz + 5) + 3), .int 0])), ((sz + 5), .inl (cA 1, (8, .inl (fun _ => 0)))), ((sz + 5) + 1, .inl (cA 1, (8, .inl (fun _ => 0)))), ((sz + 5) + 2, .inl (cA 1, (8, .inl (fun _ => 0)))), ((sz + 5) + 3, .inl (cA 1, (8, .inl (fun _ => 0)))), (sz + 9, .inr (2, [.null, .null, .null, .null, .int 0]))] := hD1
  have hS := hS1
  clear hP1 hD1 hS1
  refine lv_dup hx hb (show decode prog_5_method_1_code 51 = .ok (.dup, 1) by decide +kernel) rfl ?_
  refine lv_bipush hx hb (show decode prog_5_method_1_code 52 = .ok (.bipush 30, 2) by decide +kernel) (v := 30) rfl ?_
  refine k_init (ws := [(h0, .inr (3, [.int 0, .int 0, .int 0, .int 0, .int 0, .int 0, .int 0, .ref sz, .ref (sz + 1), .ref (sz + 2), .ref (sz + 3), .ref (sz + 4), .null])), (sz, .inl (cA 1, (6, .inl (fun _ => 0)))), (sz + 1, .inl (cA 1, (36, .inl (fun _ => 0)))), (sz + 2, .inl (cA 1, (5, .inl (fun _ => 0)))), (sz + 3, .inl (cA 1, (5, .inl (fun _ => 0)))), ((sz + 4), .inr (2, [.ref (sz + 5), .ref ((sz + 5) + 1), .ref ((sz + 5) + 2), .ref ((sz + 5) + 3), .int 0])), ((sz + 5), .inl (cA 1, (8, .inl (fun _ => 0)))), ((sz + 5) + 1, .inl (cA 1, (8, .inl (fun _ => 0)))), ((sz + 5) + 2, .inl (cA 1, (8, .inl (fun _ => 0)))), ((sz + 5) + 3, .inl (cA 1, (8, .inl (fun _ => 0))))]) (As := [.int 30]) (rest := [.ref (sz + 9), .ref h0]) ⟨hx, hb, hml, hown, hG⟩ (m_De30 l D cA (sz + 9) (sz + 10)) ⟨callB_of 1 hG (gw_in kcd_De30) rfl rfl rfl (hG _ (gk ck_1 5 rfl rfl)) (hG _ (gk ck_1 58 rfl rfl)) ⟨by decide, by decide, by decide +kernel⟩ ⟨Nat.le_of_ble_eq_true rfl, Nat.le_of_ble_eq_true rfl⟩, rfl, hG _ (gk ck_1 59 rfl rfl)⟩ hK hzv hP hD hS hA hz0 rfl hl.1 (Nat.le_of_ble_eq_true rfl) (show decode prog_5_method_1_code 54 = .ok (.invokespecial 26, 3) by decide +kernel) ⟨Nat.le_of_ble_eq_true rfl, Nat.le_of_ble_eq_true rfl⟩ (fun H1 locs1 z1 hP1 hD1 hS1 => ?_)
  clear hz0
  have hz0 : H1.size = sz + 14 := z1
  clear z1
  have hP : va_P D vwCl [(h0, .inr (3, [.int 0, .int 0, .int 0, .int 0, .int 0, .int 0, .int 0, .ref sz, .ref (sz + 1), .ref (sz + 2), .ref (sz + 3), .ref (sz + 4), .null])), (sz, .inl (cA 1, (6, .inl (fun _ => 0)))), (sz + 1, .inl (cA 1, (36, .inl (fun _ => 0)))), (sz + 2, .inl (cA 1, (5, .inl (fun _ => 0)))), (sz + 3, .inl (cA 1, (5, .inl (fun _ => 0)))), ((sz + 4), .inr (2, [.ref (sz + 5), .ref ((sz + 5) + 1), .ref ((sz + 5) + 2), .ref ((sz + 5) + 3), .int 0])), ((sz + 5), .inl (cA 1, (8, .inl (fun _ => 0)))), ((sz + 5) + 1, .inl (cA 1, (8, .inl (fun _ => 0)))), ((sz + 5) + 2, .inl (cA 1, (8, .inl (fun _ => 0)))), ((sz + 5) + 3, .inl (cA 1, (8, .inl (fun _ => 0)))), ((sz + 9), .inr (2, [.ref (sz + 10), .ref ((sz + 10) + 1), .ref ((sz + 10) + 2), .ref ((sz + 10) + 3), .int 0])), ((sz + 10), .inl (cA 1, (30, .inl (fun _ => 0)))), ((sz + 10) + 1, .inl (cA 1, (30, .inl (fun _ => 0)))), ((sz + 10) + 2, .inl (cA 1, (30, .inl (fun _ => 0)))), ((sz + 10) + 3, .inl (cA 1, (30, .inl (fun _ => 0))))] H1 := hP1
  have hD : va_D A [(h0, .inr (3, [.int 0, .int 0, .int 0, .int 0, .int 0, .int 0, .int 0, .ref sz, .ref (sz + 1), .ref (sz + 2), .ref (sz + 3), .ref (sz + 4), .null])), (sz, .inl (cA 1, (6, .inl (fun _ => 0)))), (sz + 1, .inl (cA 1, (36, .inl (fun _ => 0)))), (sz + 2, .inl (cA 1, (5, .inl (fun _ => 0)))), (sz + 3, .inl (cA 1, (5, .inl (fun _ => 0)))), ((sz + 4), .inr (2, [.ref (sz + 5), .ref ((sz + 5) + 1), .ref ((sz + 5) + 2), .ref ((sz + 5) + 3), .int 0])), ((sz + 5), .inl (cA 1, (8, .inl (fun _ => 0)))), ((sz + 5) + 1, .inl (cA 1, (8, .inl (fun _ => 0)))), ((sz + 5) + 2, .inl (cA 1, (8, .inl (fun _ => 0)))), ((sz + 5) + 3, .inl (cA 1, (8, .inl (fun _ => 0)))), ((sz + 9), .inr (2, [.ref (sz + 10), .ref ((sz + 10) + 1), .ref ((sz + 10) + 2), .ref ((sz + 10) + 3), .int 0])), ((sz + 10), .inl (cA 1, (30, .inl (fun _ => 0)))), ((sz + 10) + 1, .inl (cA 1, (30, .inl (fun _ => 0)))), ((sz + 10) + 2, .inl (cA 1, (30, .inl (fun _ => 0)))), ((sz + 10) + 3, .inl (cA 1, (30, .inl (fun _ => 0))))] := hD1
  have hS := hS1
  clear hP1 hD1 hS1
  refine k_put hx hb hG inw3 tyX3 tyX3_ok nmX3 hown hK hP hD hS 0 rfl rfl 12 (by decide) (hG _ (gk ck_1 135 rfl rfl)) (fun _ h => h) (Or.inr ⟨rfl, hin, rfl⟩) (tyX3_ok 12 (by decide)) rfl rfl (Nat.le_of_ble_eq_true rfl) hz0 (show decode prog_5_method_1_code 57 = .ok (.putfield 33, 3) by decide +kernel) (fun H1 locs1 z1 hP1 hD1 hS1 => ?_)
  clear hz0
  have hz0 := z1
  clear z1
  have hP : va_P D vwCl [(h0, .inr (3, [.int 0, .int 0, .int 0, .int 0, .int 0, .int 0, .int 0, .ref sz, .ref (sz + 1), .ref (sz + 2), .ref (sz + 3), .ref (sz + 4), .ref (sz + 9)])), (sz, .inl (cA 1, (6, .inl (fun _ => 0)))), (sz + 1, .inl (cA 1, (36, .inl (fun _ => 0)))), (sz + 2, .inl (cA 1, (5, .inl (fun _ => 0)))), (sz + 3, .inl (cA 1, (5, .inl (fun _ => 0)))), ((sz + 4), .inr (2, [.ref (sz + 5), .ref ((sz + 5) + 1), .ref ((sz + 5) + 2), .ref ((sz + 5) + 3), .int 0])), ((sz + 5), .inl (cA 1, (8, .inl (fun _ => 0)))), ((sz + 5) + 1, .inl (cA 1, (8, .inl (fun _ => 0)))), ((sz + 5) + 2, .inl (cA 1, (8, .inl (fun _ => 0)))), ((sz + 5) + 3, .inl (cA 1, (8, .inl (fun _ => 0)))), ((sz + 9), .inr (2, [.ref (sz + 10), .ref ((sz + 10) + 1), .ref ((sz + 10) + 2), .ref ((sz + 10) + 3), .int 0])), ((sz + 10), .inl (cA 1, (30, .inl (fun _ => 0)))), ((sz + 10) + 1, .inl (cA 1, (30, .inl (fun _ => 0)))), ((sz + 10) + 2, .inl (cA 1, (30, .inl (fun _ => 0)))), ((sz + 10) + 3, .inl (cA 1, (30, .inl (fun _ => 0))))] H1 := hP1
  have hD : va_D A [(h0, .inr (3, [.int 0, .int 0, .int 0, .int 0, .int 0, .int 0, .int 0, .ref sz, .ref (sz + 1), .ref (sz + 2), .ref (sz + 3), .ref (sz + 4), .ref (sz + 9)])), (sz, .inl (cA 1, (6, .inl (fun _ => 0)))), (sz + 1, .inl (cA 1, (36, .inl (fun _ => 0)))), (sz + 2, .inl (cA 1, (5, .inl (fun _ => 0)))), (sz + 3, .inl (cA 1, (5, .inl (fun _ => 0)))), ((sz + 4), .inr (2, [.ref (sz + 5), .ref ((sz + 5) + 1), .ref ((sz + 5) + 2), .ref ((sz + 5) + 3), .int 0])), ((sz + 5), .inl (cA 1, (8, .inl (fun _ => 0)))), ((sz + 5) + 1, .inl (cA 1, (8, .inl (fun _ => 0)))), ((sz + 5) + 2, .inl (cA 1, (8, .inl (fun _ => 0)))), ((sz + 5) + 3, .inl (cA 1, (8, .inl (fun _ => 0)))), ((sz + 9), .inr (2, [.ref (sz + 10), .ref ((sz + 10) + 1), .ref ((sz + 10) + 2), .ref ((sz + 10) + 3), .int 0])), ((sz + 10), .inl (cA 1, (30, .inl (fun _ => 0)))), ((sz + 10) + 1, .inl (cA 1, (30, .inl (fun _ => 0)))), ((sz + 10) + 2, .inl (cA 1, (30, .inl (fun _ => 0)))), ((sz + 10) + 3, .inl (cA 1, (30, .inl (fun _ => 0))))] := hD1
  have hS := hS1
  clear hP1 hD1 hS1
  refine W.vret hx hb hr (fun t ht _ => ⟨⟨(), rfl, trivial, by rw [ht]; exact hz0, by rw [ht]; exact hP, by rw [hAe]; exact hD⟩, by rw [hAe]; exact hS.F ht⟩) (by rw [hAe]; exact hS.2.2) (show decode prog_5_method_1_code 60 = .ok (.return_, 1) by decide +kernel) hlocks
theorem kcd_Re : Cond.code ⟨"EnemyLetters$Reader", "<init>", "(LEnemyLetters$Tape;)V"⟩ prog_6_method_1_code 2 none ∈ GW0 := gk ck_1 48 rfl rfl
set_option maxHeartbeats 4000000 in
set_option maxRecDepth 100000 in
theorem m_Re (l : Launch) (D : va_G) (cA : Nat → ClassId) (h0 sz : Nat) (a1 : Nat) : kMet l ⟨"EnemyLetters$Reader", "<init>", "(LEnemyLetters$Tape;)V"⟩ prog_6_method_1_code 2 (kRm 3 15 227) D cA [.ref a1] sz h0 (.inr (4, [.null, .null, .int 0, .int 0, .int 0, .int 0, .int 0, .int 0, .int 0, .int 0, .int 0, .int 0])) [(h0, .inr (4, [.ref a1, .ref sz, .int 0, .int (-1), .int 0, .int 0, .int 0, .int 0, .int 0, .int 0, .int 0, .int 0])), (sz, .inr (3, [.int 0, .int 0, .int 0, .int 0, .int 0, .int 0, .int 0, .ref (sz + 1), .ref ((sz + 1) + 1), .ref ((sz + 1) + 2), .ref ((sz + 1) + 3), .ref ((sz + 1) + 4), .ref ((sz + 1) + 9)])), ((sz + 1), .inl (cA 1, (6, .inl (fun _ => 0)))), ((sz + 1) + 1, .inl (cA 1, (36, .inl (fun _ => 0)))), ((sz + 1) + 2, .inl (cA 1, (5, .inl (fun _ => 0)))), ((sz + 1) + 3, .inl (cA 1, (5, .inl (fun _ => 0)))), (((sz + 1) + 4), .inr (2, [.ref ((sz + 1) + 5), .ref (((sz + 1) + 5) + 1), .ref (((sz + 1) + 5) + 2), .ref (((sz + 1) + 5) + 3), .int 0])), (((sz + 1) + 5), .inl (cA 1, (8, .inl (fun _ => 0)))), (((sz + 1) + 5) + 1, .inl (cA 1, (8, .inl (fun _ => 0)))), (((sz + 1) + 5) + 2, .inl (cA 1, (8, .inl (fun _ => 0)))), (((sz + 1) + 5) + 3, .inl (cA 1, (8, .inl (fun _ => 0)))), (((sz + 1) + 9), .inr (2, [.ref ((sz + 1) + 10), .ref (((sz + 1) + 10) + 1), .ref (((sz + 1) + 10) + 2), .ref (((sz + 1) + 10) + 3), .int 0])), (((sz + 1) + 10), .inl (cA 1, (30, .inl (fun _ => 0)))), (((sz + 1) + 10) + 1, .inl (cA 1, (30, .inl (fun _ => 0)))), (((sz + 1) + 10) + 2, .inl (cA 1, (30, .inl (fun _ => 0)))), (((sz + 1) + 10) + 3, .inl (cA 1, (30, .inl (fun _ => 0))))] (sz + 15) 15 227 := by
  unfold kMet kPost
  refine Met.ofW (cc := prog_6_method_1_code) (maxL := 2) (ret := none) (by decide) rfl ?_
  intro p e s m args below meth c s₁ B hml hv
  obtain ⟨rfl, hz0, hP, hK, hzv⟩ := hv
  have hx := B.exec
  have hb := B.bytes
  have hr := B.returns
  have hts := atoms_spec (ws := (Cond.code ⟨"EnemyLetters$Reader", "<init>", "(LEnemyLetters$Tape;)V"⟩ prog_6_method_1_code 2 none :: GW0)) B.pre
  have hG : ∀ w ∈ GW0, w.before [.ref h0, .ref a1].toArray s = true := fun w hw => hts w (List.mem_cons_of_mem _ hw)
  have hown : s.vm.findClass "EnemyLetters$Reader" = some m.cls := findClass_of_methodNamed B.named
  have hlocks := B.notSynchronized
  have hin : meth.name = "<init>" := (name_of_methodNamed B.named B.method).1
  have hl := lv_entry ([.ref h0, .ref a1]) (n := 2) (Nat.le_of_ble_eq_true rfl)
  rw [lg_entry_eq]
  generalize (lg_sl ([.ref h0, .ref a1]) ++ List.replicate (2 - (lg_sl ([.ref h0, .ref a1])).length) Slot.unset).toArray = ls at hl ⊢
  have hl : lv_has ls 2 [(0, .ref h0), (1, .ref a1)] := hl
  have hD : va_D (va_A [(h0, .inr (4, [.null, .null, .int 0, .int 0, .int 0, .int 0, .int 0, .int 0, .int 0, .int 0, .int 0, .int 0]))] sz) [(h0, .inr (4, [.null, .null, .int 0, .int 0, .int 0, .int 0, .int 0, .int 0, .int 0, .int 0, .int 0, .int 0]))] := k_one
  obtain ⟨A, hAe⟩ : ∃ A, va_A [(h0, .inr (4, [.null, .null, .int 0, .int 0, .int 0, .int 0, .int 0, .int 0, .int 0, .int 0, .int 0, .int 0]))] sz = A := ⟨_, rfl⟩
  rw [hAe] at hD
  have hA : ∀ q : Nat, s.heap.size ≤ q → A q := fun q h => by rw [← hAe]; exact Or.inr (by omega)
  have hS : va_S A s.heap s.heap [] := va_S.rf
  refine lv_aload_n hx hb (show decode prog_6_method_1_code 0 = .ok (.aload_n 0, 1) by decide +kernel) rfl (lv_at hl 0 rfl) ?_
  refine W.objInit hx hb hown (hG _ (gk ck_1 49 rfl rfl)) (hG _ (gk ck_1 25 rfl rfl)) (hG _ (gk ck_1 26 rfl rfl)) rfl (by rw [hml]; exact hl.1) rfl (show decode prog_6_method_1_code 1 = .ok (.invokespecial 3, 3) by decide +kernel) (Nat.le_of_ble_eq_true rfl) (Nat.le_of_ble_eq_true rfl) ?_
  refine W.eq (g2 := F0 m 4 ls []) rfl ?_
  refine lv_aload_n hx hb (show decode prog_6_method_1_code 4 = .ok (.aload_n 0, 1) by decide +kernel) rfl (lv_at hl 0 rfl) ?_
  refine k_new hx hb hG inw3 tyX3 tyX3_ok hown (hG _ (gk ck_1 50 rfl rfl)) (hG _ (gk ck_1 51 rfl rfl)) (hG _ (gk ck_1 4 rfl rfl)) hK hP hD hS hA (ci := 3) rfl (fs := [.int 0, .int 0, .int 0, .int 0, .int 0, .int 0, .int 0, .null, .null, .null, .null, .null, .null]) (by decide) (Nat.le_of_ble_eq_true rfl) (Nat.le_of_ble_eq_true rfl) hz0 (show decode prog_6_method_1_code 5 = .ok (.new 9, 3) by decide +kernel) (fun H1 z1 hP1 hD1 hS1 => ?_)
  clear hz0
  have hz0 : H1.size = sz + 1 := z1
  clear z1
  have hP : va_P D vwCl [(h0, .inr (4, [.null, .null, .int 0, .int 0, .int 0, .int 0, .int 0, .int 0, .int 0, .int 0, .int 0, .int 0])), (sz, .inr (3, [.int 0, .int 0, .int 0, .int 0, .int 0, .int 0, .int 0, .null, .null, .null, .null, .null, .null]))] H1 := hP1
  have hD : va_D A [(h0, .inr (4, [.null, .null, .int 0, .int 0, .int 0, .int 0, .int 0, .int 0, .int 0, .int 0, .int 0, .int 0])), (sz, .inr (3, [.int 0, .int 0, .int 0, .int 0, .int 0, .int 0, .int 0, .null, .null, .null, .null, .null, .null]))] := hD1
  have hS := hS1
  clear hP1 hD1 hS1
  refine lv_dup hx hb (show decode prog_6_method_1_code 8 = .ok (.dup, 1) by decide +kernel) rfl ?_
  refine k_initN (host := "EnemyLetters") (ws := [(h0, .inr (4, [.null, .null, .int 0, .int 0, .int 0, .int 0, .int 0, .int 0, .int 0, .int 0, .int 0, .int 0]))]) (As := []) (rest := [.ref sz, .ref h0]) ⟨hx, hb, hml, hown, hG⟩ (m_La l D cA (sz) (sz + 1)) ⟨va_cnB 0 hG (gw_in kcd_La) rfl rfl rfl (hzv.1 _ (List.mem_of_getElem? (i := 1) rfl)) (hG _ (gk ck_1 4 rfl rfl)) ⟨by decide, by decide, by decide +kernel⟩ ⟨Nat.le_of_ble_eq_true rfl, Nat.le_of_ble_eq_true rfl⟩, rfl, hG _ (gk ck_1 53 rfl rfl)⟩ hK hzv hP hD hS hA hz0 rfl hl.1 (Nat.le_of_ble_eq_true rfl) (show decode prog_6_method_1_code 9 = .ok (.invokespecial 11, 3) by decide +kernel) ⟨Nat.le_of_ble_eq_true rfl, Nat.le_of_ble_eq_true rfl⟩ (fun H1 locs1 z1 hP1 hD1 hS1 => ?_)
  clear hz0
  have hz0 : H1.size = sz + 15 := z1
  clear z1
  have hP : va_P D vwCl [(h0, .inr (4, [.null, .null, .int 0, .int 0, .int 0, .int 0, .int 0, .int 0, .int 0, .int 0, .int 0, .int 0])), (sz, .inr (3, [.int 0, .int 0, .int 0, .int 0, .int 0, .int 0, .int 0, .ref (sz + 1), .ref ((sz + 1) + 1), .ref ((sz + 1) + 2), .ref ((sz + 1) + 3), .ref ((sz + 1) + 4), .ref ((sz + 1) + 9)])), ((sz + 1), .inl (cA 1, (6, .inl (fun _ => 0)))), ((sz + 1) + 1, .inl (cA 1, (36, .inl (fun _ => 0)))), ((sz + 1) + 2, .inl (cA 1, (5, .inl (fun _ => 0)))), ((sz + 1) + 3, .inl (cA 1, (5, .inl (fun _ => 0)))), (((sz + 1) + 4), .inr (2, [.ref ((sz + 1) + 5), .ref (((sz + 1) + 5) + 1), .ref (((sz + 1) + 5) + 2), .ref (((sz + 1) + 5) + 3), .int 0])), (((sz + 1) + 5), .inl (cA 1, (8, .inl (fun _ => 0)))), (((sz + 1) + 5) + 1, .inl (cA 1, (8, .inl (fun _ => 0)))), (((sz + 1) + 5) + 2, .inl (cA 1, (8, .inl (fun _ => 0)))), (((sz + 1) + 5) + 3, .inl (cA 1, (8, .inl (fun _ => 0)))), (((sz + 1) + 9), .inr (2, [.ref ((sz + 1) + 10), .ref (((sz + 1) + 10) + 1), .ref (((sz + 1) + 10) + 2), .ref (((sz + 1) + 10) + 3), .int 0])), (((sz + 1) + 10), .inl (cA 1, (30, .inl (fun _ => 0)))), (((sz + 1) + 10) + 1, .inl (cA 1, (30, .inl (fun _ => 0)))), (((sz + 1) + 10) + 2, .inl (cA 1, (30, .inl (fun _ => 0)))), (((sz + 1) + 10) + 3, .inl (cA 1, (30, .inl (fun _ => 0))))] H1 := hP1
  have hD : va_D A [(h0, .inr (4, [.null, .null, .int 0, .int 0, .int 0, .int 0, .int 0, .int 0, .int 0, .int 0, .int 0, .int 0])), (sz, .inr (3, [.int 0, .int 0, .int 0, .int 0, .int 0, .int 0, .int 0, .ref (sz + 1), .ref ((sz + 1) + 1), .ref ((sz + 1) + 2), .ref ((sz + 1) + 3), .ref ((sz + 1) + 4), .ref ((sz + 1) + 9)])), ((sz + 1), .inl (cA 1, (6, .inl (fun _ => 0)))), ((sz + 1) + 1, .inl (cA 1, (36, .inl (fun _ => 0)))), ((sz + 1) + 2, .inl (cA 1, (5, .inl (fun _ => 0)))), ((sz + 1) + 3, .inl (cA 1, (5, .inl (fun _ => 0)))), (((sz + 1) + 4), .inr (2, [.ref ((sz + 1) + 5), .ref (((sz + 1) + 5) + 1), .ref (((sz + 1) + 5) + 2), .ref (((sz + 1) + 5) + 3), .int 0])), (((sz + 1) + 5), .inl (cA 1, (8, .inl (fun _ => 0)))), (((sz + 1) + 5) + 1, .inl (cA 1, (8, .inl (fun _ => 0)))), (((sz + 1) + 5) + 2, .inl (cA 1, (8, .inl (fun _ => 0)))), (((sz + 1) + 5) + 3, .inl (cA 1, (8, .inl (fun _ => 0)))), (((sz + 1) + 9), .inr (2, [.ref ((sz + 1) + 10), .ref (((sz + 1) + 10) + 1), .ref (((sz + 1) + 10) + 2), .ref (((sz + 1) + 10) + 3), .int 0])), (((sz + 1) + 10), .inl (cA 1, (30, .inl (fun _ => 0)))), (((sz + 1) + 10) + 1, .inl (cA 1, (30, .inl (fun _ => 0)))), (((sz + 1) + 10) + 2, .inl (cA 1, (30, .inl (fun _ => 0)))), (((sz + 1) + 10) + 3, .inl (cA 1, (30, .inl (fun _ => 0))))] := hD1
  have hS := hS1
  clear hP1 hD1 hS1
  refine k_put hx hb hG inw4 tyX4 tyX4_ok nmX4 hown hK hP hD hS 0 rfl rfl 1 (by decide) (hG _ (gk ck_1 166 rfl rfl)) (fun _ h => h) (Or.inr ⟨rfl, hin, rfl⟩) (tyX4_ok 1 (by decide)) rfl rfl (Nat.le_of_ble_eq_true rfl) hz0 (show decode prog_6_method_1_code 12 = .ok (.putfield 12, 3) by decide +kernel) (fun H1 locs1 z1 hP1 hD1 hS1 => ?_)
  clear hz0
  have hz0 := z1
  clear z1
  have hP : va_P D vwCl [(h0, .inr (4, [.null, .ref sz, .int 0, .int 0, .int 0, .int 0, .int 0, .int 0, .int 0, .int 0, .int 0, .int 0])), (sz, .inr (3, [.int 0, .int 0, .int 0, .int 0, .int 0, .int 0, .int 0, .ref (sz + 1), .ref ((sz + 1) + 1), .ref ((sz + 1) + 2), .ref ((sz + 1) + 3), .ref ((sz + 1) + 4), .ref ((sz + 1) + 9)])), ((sz + 1), .inl (cA 1, (6, .inl (fun _ => 0)))), ((sz + 1) + 1, .inl (cA 1, (36, .inl (fun _ => 0)))), ((sz + 1) + 2, .inl (cA 1, (5, .inl (fun _ => 0)))), ((sz + 1) + 3, .inl (cA 1, (5, .inl (fun _ => 0)))), (((sz + 1) + 4), .inr (2, [.ref ((sz + 1) + 5), .ref (((sz + 1) + 5) + 1), .ref (((sz + 1) + 5) + 2), .ref (((sz + 1) + 5) + 3), .int 0])), (((sz + 1) + 5), .inl (cA 1, (8, .inl (fun _ => 0)))), (((sz + 1) + 5) + 1, .inl (cA 1, (8, .inl (fun _ => 0)))), (((sz + 1) + 5) + 2, .inl (cA 1, (8, .inl (fun _ => 0)))), (((sz + 1) + 5) + 3, .inl (cA 1, (8, .inl (fun _ => 0)))), (((sz + 1) + 9), .inr (2, [.ref ((sz + 1) + 10), .ref (((sz + 1) + 10) + 1), .ref (((sz + 1) + 10) + 2), .ref (((sz + 1) + 10) + 3), .int 0])), (((sz + 1) + 10), .inl (cA 1, (30, .inl (fun _ => 0)))), (((sz + 1) + 10) + 1, .inl (cA 1, (30, .inl (fun _ => 0)))), (((sz + 1) + 10) + 2, .inl (cA 1, (30, .inl (fun _ => 0)))), (((sz + 1) + 10) + 3, .inl (cA 1, (30, .inl (fun _ => 0))))] H1 := hP1
  have hD : va_D A [(h0, .inr (4, [.null, .ref sz, .int 0, .int 0, .int 0, .int 0, .int 0, .int 0, .int 0, .int 0, .int 0, .int 0])), (sz, .inr (3, [.int 0, .int 0, .int 0, .int 0, .int 0, .int 0, .int 0, .ref (sz + 1), .ref ((sz + 1) + 1), .ref ((sz + 1) + 2), .ref ((sz + 1) + 3), .ref ((sz + 1) + 4), .ref ((sz + 1) + 9)])), ((sz + 1), .inl (cA 1, (6, .inl (fun _ => 0)))), ((sz + 1) + 1, .inl (cA 1, (36, .inl (fun _ => 0)))), ((sz + 1) + 2, .inl (cA 1, (5, .inl (fun _ => 0)))), ((sz + 1) + 3, .inl (cA 1, (5, .inl (fun _ => 0)))), (((sz + 1) + 4), .inr (2, [.ref ((sz + 1) + 5), .ref (((sz + 1) + 5) + 1), .ref (((sz + 1) + 5) + 2), .ref (((sz + 1) + 5) + 3), .int 0])), (((sz + 1) + 5), .inl (cA 1, (8, .inl (fun _ => 0)))), (((sz + 1) + 5) + 1, .inl (cA 1, (8, .inl (fun _ => 0)))), (((sz + 1) + 5) + 2, .inl (cA 1, (8, .inl (fun _ => 0)))), (((sz + 1) + 5) + 3, .inl (cA 1, (8, .inl (fun _ => 0)))), (((sz + 1) + 9), .inr (2, [.ref ((sz + 1) + 10), .ref (((sz + 1) + 10) + 1), .ref (((sz + 1) + 10) + 2), .ref (((sz + 1) + 10) + 3), .int 0])), (((sz + 1) + 10), .inl (cA 1, (30, .inl (fun _ => 0)))), (((sz + 1) + 10) + 1, .inl (cA 1, (30, .inl (fun _ => 0)))), (((sz + 1) + 10) + 2, .inl (cA 1, (30, .inl (fun _ => 0)))), (((sz + 1) + 10) + 3, .inl (cA 1, (30, .inl (fun _ => 0))))] := hD1
  have hS := hS1
  clear hP1 hD1 hS1
  refine lv_aload_n hx hb (show decode prog_6_method_1_code 15 = .ok (.aload_n 0, 1) by decide +kernel) rfl (lv_at hl 0 rfl) ?_
  refine lv_iconst hx hb (show decode prog_6_method_1_code 16 = .ok (.iconst (-1), 1) by decide +kernel) (v := (-1)) rfl ?_
  refine k_put hx hb hG inw4 tyX4 tyX4_ok nmX4 hown hK hP hD hS 0 rfl rfl 3 (by decide) (hG _ (gk ck_1 170 rfl rfl)) (fun _ h => h) (Or.inl rfl) (tyX4_ok 3 (by decide)) rfl rfl (Nat.le_of_ble_eq_true rfl) hz0 (show decode prog_6_method_1_code 17 = .ok (.putfield 18, 3) by decide +kernel) (fun H1 locs1 z1 hP1 hD1 hS1 => ?_)
  clear hz0
  have hz0 := z1
  clear z1
  have hP : va_P D vwCl [(h0, .inr (4, [.null, .ref sz, .int 0, .int (-1), .int 0, .int 0, .int 0, .int 0, .int 0, .int 0, .int 0, .int 0])), (sz, .inr (3, [.int 0, .int 0, .int 0, .int 0, .int 0, .int 0, .int 0, .ref (sz + 1), .ref ((sz + 1) + 1), .ref ((sz + 1) + 2), .ref ((sz + 1) + 3), .ref ((sz + 1) + 4), .ref ((sz + 1) + 9)])), ((sz + 1), .inl (cA 1, (6, .inl (fun _ => 0)))), ((sz + 1) + 1, .inl (cA 1, (36, .inl (fun _ => 0)))), ((sz + 1) + 2, .inl (cA 1, (5, .inl (fun _ => 0)))), ((sz + 1) + 3, .inl (cA 1, (5, .inl (fun _ => 0)))), (((sz + 1) + 4), .inr (2, [.ref ((sz + 1) + 5), .ref (((sz + 1) + 5) + 1), .ref (((sz + 1) + 5) + 2), .ref (((sz + 1) + 5) + 3), .int 0])), (((sz + 1) + 5), .inl (cA 1, (8, .inl (fun _ => 0)))), (((sz + 1) + 5) + 1, .inl (cA 1, (8, .inl (fun _ => 0)))), (((sz + 1) + 5) + 2, .inl (cA 1, (8, .inl (fun _ => 0)))), (((sz + 1) + 5) + 3, .inl (cA 1, (8, .inl (fun _ => 0)))), (((sz + 1) + 9), .inr (2, [.ref ((sz + 1) + 10), .ref (((sz + 1) + 10) + 1), .ref (((sz + 1) + 10) + 2), .ref (((sz + 1) + 10) + 3), .int 0])), (((sz + 1) + 10), .inl (cA 1, (30, .inl (fun _ => 0)))), (((sz + 1) + 10) + 1, .inl (cA 1, (30, .inl (fun _ => 0)))), (((sz + 1) + 10) + 2, .inl (cA 1, (30, .inl (fun _ => 0)))), (((sz + 1) + 10) + 3, .inl (cA 1, (30, .inl (fun _ => 0))))] H1 := hP1
  have hD : va_D A [(h0, .inr (4, [.null, .ref sz, .int 0, .int (-1), .int 0, .int 0, .int 0, .int 0, .int 0, .int 0, .int 0, .int 0])), (sz, .inr (3, [.int 0, .int 0, .int 0, .int 0, .int 0, .int 0, .int 0, .ref (sz + 1), .ref ((sz + 1) + 1), .ref ((sz + 1) + 2), .ref ((sz + 1) + 3), .ref ((sz + 1) + 4), .ref ((sz + 1) + 9)])), ((sz + 1), .inl (cA 1, (6, .inl (fun _ => 0)))), ((sz + 1) + 1, .inl (cA 1, (36, .inl (fun _ => 0)))), ((sz + 1) + 2, .inl (cA 1, (5, .inl (fun _ => 0)))), ((sz + 1) + 3, .inl (cA 1, (5, .inl (fun _ => 0)))), (((sz + 1) + 4), .inr (2, [.ref ((sz + 1) + 5), .ref (((sz + 1) + 5) + 1), .ref (((sz + 1) + 5) + 2), .ref (((sz + 1) + 5) + 3), .int 0])), (((sz + 1) + 5), .inl (cA 1, (8, .inl (fun _ => 0)))), (((sz + 1) + 5) + 1, .inl (cA 1, (8, .inl (fun _ => 0)))), (((sz + 1) + 5) + 2, .inl (cA 1, (8, .inl (fun _ => 0)))), (((sz + 1) + 5) + 3, .inl (cA 1, (8, .inl (fun _ => 0)))), (((sz + 1) + 9), .inr (2, [.ref ((sz + 1) + 10), .ref (((sz + 1) + 10) + 1), .ref (((sz + 1) + 10) + 2), .ref (((sz + 1) + 10) + 3), .int 0])), (((sz + 1) + 10), .inl (cA 1, (30, .inl (fun _ => 0)))), (((sz + 1) + 10) + 1, .inl (cA 1, (30, .inl (fun _ => 0)))), (((sz + 1) + 10) + 2, .inl (cA 1, (30, .inl (fun _ => 0)))), (((sz + 1) + 10) + 3, .inl (cA 1, (30, .inl (fun _ => 0))))] := hD1
  have hS := hS1
  clear hP1 hD1 hS1
  refine lv_aload_n hx hb (show decode prog_6_method_1_code 20 = .ok (.aload_n 0, 1) by decide +kernel) rfl (lv_at hl 0 rfl) ?_
  refine lv_aload_n hx hb (show decode prog_6_method_1_code 21 = .ok (.aload_n 1, 1) by decide +kernel) rfl (lv_at hl 1 rfl) ?_
  refine k_put hx hb hG inw4 tyX4 tyX4_ok nmX4 hown hK hP hD hS 0 rfl rfl 0 (by decide) (hG _ (gk ck_1 165 rfl rfl)) (fun _ h => h) (Or.inr ⟨rfl, hin, rfl⟩) (tyX4_ok 0 (by decide)) rfl rfl (Nat.le_of_ble_eq_true rfl) hz0 (show decode prog_6_method_1_code 22 = .ok (.putfield 22, 3) by decide +kernel) (fun H1 locs1 z1 hP1 hD1 hS1 => ?_)
  clear hz0
  have hz0 := z1
  clear z1
  have hP : va_P D vwCl [(h0, .inr (4, [.ref a1, .ref sz, .int 0, .int (-1), .int 0, .int 0, .int 0, .int 0, .int 0, .int 0, .int 0, .int 0])), (sz, .inr (3, [.int 0, .int 0, .int 0, .int 0, .int 0, .int 0, .int 0, .ref (sz + 1), .ref ((sz + 1) + 1), .ref ((sz + 1) + 2), .ref ((sz + 1) + 3), .ref ((sz + 1) + 4), .ref ((sz + 1) + 9)])), ((sz + 1), .inl (cA 1, (6, .inl (fun _ => 0)))), ((sz + 1) + 1, .inl (cA 1, (36, .inl (fun _ => 0)))), ((sz + 1) + 2, .inl (cA 1, (5, .inl (fun _ => 0)))), ((sz + 1) + 3, .inl (cA 1, (5, .inl (fun _ => 0)))), (((sz + 1) + 4), .inr (2, [.ref ((sz + 1) + 5), .ref (((sz + 1) + 5) + 1), .ref (((sz + 1) + 5) + 2), .ref (((sz + 1) + 5) + 3), .int 0])), (((sz + 1) + 5), .inl (cA 1, (8, .inl (fun _ => 0)))), (((sz + 1) + 5) + 1, .inl (cA 1, (8, .inl (fun _ => 0)))), (((sz + 1) + 5) + 2, .inl (cA 1, (8, .inl (fun _ => 0)))), (((sz + 1) + 5) + 3, .inl (cA 1, (8, .inl (fun _ => 0)))), (((sz + 1) + 9), .inr (2, [.ref ((sz + 1) + 10), .ref (((sz + 1) + 10) + 1), .ref (((sz + 1) + 10) + 2), .ref (((sz + 1) + 10) + 3), .int 0])), (((sz + 1) + 10), .inl (cA 1, (30, .inl (fun _ => 0)))), (((sz + 1) + 10) + 1, .inl (cA 1, (30, .inl (fun _ => 0)))), (((sz + 1) + 10) + 2, .inl (cA 1, (30, .inl (fun _ => 0)))), (((sz + 1) + 10) + 3, .inl (cA 1, (30, .inl (fun _ => 0))))] H1 := hP1
  have hD : va_D A [(h0, .inr (4, [.ref a1, .ref sz, .int 0, .int (-1), .int 0, .int 0, .int 0, .int 0, .int 0, .int 0, .int 0, .int 0])), (sz, .inr (3, [.int 0, .int 0, .int 0, .int 0, .int 0, .int 0, .int 0, .ref (sz + 1), .ref ((sz + 1) + 1), .ref ((sz + 1) + 2), .ref ((sz + 1) + 3), .ref ((sz + 1) + 4), .ref ((sz + 1) + 9)])), ((sz + 1), .inl (cA 1, (6, .inl (fun _ => 0)))), ((sz + 1) + 1, .inl (cA 1, (36, .inl (fun _ => 0)))), ((sz + 1) + 2, .inl (cA 1, (5, .inl (fun _ => 0)))), ((sz + 1) + 3, .inl (cA 1, (5, .inl (fun _ => 0)))), (((sz + 1) + 4), .inr (2, [.ref ((sz + 1) + 5), .ref (((sz + 1) + 5) + 1), .ref (((sz + 1) + 5) + 2), .ref (((sz + 1) + 5) + 3), .int 0])), (((sz + 1) + 5), .inl (cA 1, (8, .inl (fun _ => 0)))), (((sz + 1) + 5) + 1, .inl (cA 1, (8, .inl (fun _ => 0)))), (((sz + 1) + 5) + 2, .inl (cA 1, (8, .inl (fun _ => 0)))), (((sz + 1) + 5) + 3, .inl (cA 1, (8, .inl (fun _ => 0)))), (((sz + 1) + 9), .inr (2, [.ref ((sz + 1) + 10), .ref (((sz + 1) + 10) + 1), .ref (((sz + 1) + 10) + 2), .ref (((sz + 1) + 10) + 3), .int 0])), (((sz + 1) + 10), .inl (cA 1, (30, .inl (fun _ => 0)))), (((sz + 1) + 10) + 1, .inl (cA 1, (30, .inl (fun _ => 0)))), (((sz + 1) + 10) + 2, .inl (cA 1, (30, .inl (fun _ => 0)))), (((sz + 1) + 10) + 3, .inl (cA 1, (30, .inl (fun _ => 0))))] := hD1
  have hS := hS1
  clear hP1 hD1 hS1
  refine W.vret hx hb hr (fun t ht _ => ⟨⟨(), rfl, trivial, by rw [ht]; exact hz0, by rw [ht]; exact hP, by rw [hAe]; exact hD⟩, by rw [hAe]; exact hS.F ht⟩) (by rw [hAe]; exact hS.2.2) (show decode prog_6_method_1_code 25 = .ok (.return_, 1) by decide +kernel) hlocks
theorem kcd_Co : Cond.code ⟨"EnemyLetters$Course", "<init>", "(LEnemyLetters$Land;)V"⟩ prog_3_method_1_code 2 none ∈ GW0 := gk ck_1 211 rfl rfl
set_option maxHeartbeats 4000000 in
set_option maxRecDepth 100000 in
theorem m_Co (l : Launch) (D : va_G) (cA : Nat → ClassId) (h0 sz : Nat) (a1 : Nat) : kMet l ⟨"EnemyLetters$Course", "<init>", "(LEnemyLetters$Land;)V"⟩ prog_3_method_1_code 2 (kRm 1 5 509) D cA [.ref a1] sz h0 (.inr (1, [.null, .int 0, .int 0, .int 0, .null, .null, .null, .null, .null])) [(h0, .inr (1, [.ref a1, .int 0, .int 0, .int 0, .ref sz, .ref (sz + 1), .ref (sz + 2), .ref (sz + 3), .ref (sz + 4)])), (sz, .inl (cA 1, (36, .inl (fun _ => 0)))), (sz + 1, .inl (cA 1, (6, .inl (fun _ => 0)))), (sz + 2, .inl (cA 1, (432, .inl (fun _ => 0)))), (sz + 3, .inl (cA 1, (30, .inl (fun _ => 0)))), (sz + 4, .inl (cA 1, (5, .inl (fun _ => 0))))] (sz + 5) 5 509 := by
  unfold kMet kPost
  refine Met.ofW (cc := prog_3_method_1_code) (maxL := 2) (ret := none) (by decide) rfl ?_
  intro p e s m args below meth c s₁ B hml hv
  obtain ⟨rfl, hz0, hP, hK, hzv⟩ := hv
  have hx := B.exec
  have hb := B.bytes
  have hr := B.returns
  have hts := atoms_spec (ws := (Cond.code ⟨"EnemyLetters$Course", "<init>", "(LEnemyLetters$Land;)V"⟩ prog_3_method_1_code 2 none :: GW0)) B.pre
  have hG : ∀ w ∈ GW0, w.before [.ref h0, .ref a1].toArray s = true := fun w hw => hts w (List.mem_cons_of_mem _ hw)
  have hown : s.vm.findClass "EnemyLetters$Course" = some m.cls := findClass_of_methodNamed B.named
  have hlocks := B.notSynchronized
  have hin : meth.name = "<init>" := (name_of_methodNamed B.named B.method).1
  have hl := lv_entry ([.ref h0, .ref a1]) (n := 2) (Nat.le_of_ble_eq_true rfl)
  rw [lg_entry_eq]
  generalize (lg_sl ([.ref h0, .ref a1]) ++ List.replicate (2 - (lg_sl ([.ref h0, .ref a1])).length) Slot.unset).toArray = ls at hl ⊢
  have hl : lv_has ls 2 [(0, .ref h0), (1, .ref a1)] := hl
  have hD : va_D (va_A [(h0, .inr (1, [.null, .int 0, .int 0, .int 0, .null, .null, .null, .null, .null]))] sz) [(h0, .inr (1, [.null, .int 0, .int 0, .int 0, .null, .null, .null, .null, .null]))] := k_one
  obtain ⟨A, hAe⟩ : ∃ A, va_A [(h0, .inr (1, [.null, .int 0, .int 0, .int 0, .null, .null, .null, .null, .null]))] sz = A := ⟨_, rfl⟩
  rw [hAe] at hD
  have hA : ∀ q : Nat, s.heap.size ≤ q → A q := fun q h => by rw [← hAe]; exact Or.inr (by omega)
  have hS : va_S A s.heap s.heap [] := va_S.rf
  refine lv_aload_n hx hb (show decode prog_3_method_1_code 0 = .ok (.aload_n 0, 1) by decide +kernel) rfl (lv_at hl 0 rfl) ?_
  refine W.objInit hx hb hown (hG _ (gk ck_1 212 rfl rfl)) (hG _ (gk ck_1 25 rfl rfl)) (hG _ (gk ck_1 26 rfl rfl)) rfl (by rw [hml]; exact hl.1) rfl (show decode prog_3_method_1_code 1 = .ok (.invokespecial 3, 3) by decide +kernel) (Nat.le_of_ble_eq_true rfl) (Nat.le_of_ble_eq_true rfl) ?_
  refine W.eq (g2 := F0 m 4 ls []) rfl ?_
  refine lv_aload_n hx hb (show decode prog_3_method_1_code 4 = .ok (.aload_n 0, 1) by decide +kernel) rfl (lv_at hl 0 rfl) ?_
  refine lv_bipush hx hb (show decode prog_3_method_1_code 5 = .ok (.bipush 36, 2) by decide +kernel) (v := 36) rfl ?_
  refine k_newa (atype := .int) hx hb (hG _ (gk ck_1 86 rfl rfl)) (ty := .int) rfl (cA := cA 1) (hK.2 1 _ rfl).2 hP hD hS hA (N' := 36) (a0 := (36, .inl (fun _ => 0))) (fun _ => rfl) (by decide) (by decide) (Nat.le_of_ble_eq_true rfl) (Nat.le_of_ble_eq_true rfl) (Nat.le_of_ble_eq_true rfl) hz0 (show decode prog_3_method_1_code 7 = .ok (.newarray .int, 2) by decide +kernel) (fun H1 z1 hP1 hD1 hS1 => ?_)
  clear hz0
  have hz0 : H1.size = sz + 1 := z1
  clear z1
  have hP : va_P D vwCl [(h0, .inr (1, [.null, .int 0, .int 0, .int 0, .null, .null, .null, .null, .null])), (sz, .inl (cA 1, (36, .inl (fun _ => 0))))] H1 := hP1
  have hD : va_D A [(h0, .inr (1, [.null, .int 0, .int 0, .int 0, .null, .null, .null, .null, .null])), (sz, .inl (cA 1, (36, .inl (fun _ => 0))))] := hD1
  have hS := hS1
  clear hP1 hD1 hS1
  refine k_put hx hb hG inw1 tyX1 tyX1_ok nmX1 hown hK hP hD hS 0 rfl rfl 4 (by decide) (hG _ (gk ck_1 220 rfl rfl)) (fun _ h => h) (Or.inr ⟨rfl, hin, rfl⟩) (tyX1_ok 4 (by decide)) rfl rfl (Nat.le_of_ble_eq_true rfl) hz0 (show decode prog_3_method_1_code 9 = .ok (.putfield 9, 3) by decide +kernel) (fun H1 locs1 z1 hP1 hD1 hS1 => ?_)
  clear hz0
  have hz0 := z1
  clear z1
  have hP : va_P D vwCl [(h0, .inr (1, [.null, .int 0, .int 0, .int 0, .ref sz, .null, .null, .null, .null])), (sz, .inl (cA 1, (36, .inl (fun _ => 0))))] H1 := hP1
  have hD : va_D A [(h0, .inr (1, [.null, .int 0, .int 0, .int 0, .ref sz, .null, .null, .null, .null])), (sz, .inl (cA 1, (36, .inl (fun _ => 0))))] := hD1
  have hS := hS1
  clear hP1 hD1 hS1
  refine lv_aload_n hx hb (show decode prog_3_method_1_code 12 = .ok (.aload_n 0, 1) by decide +kernel) rfl (lv_at hl 0 rfl) ?_
  refine lv_bipush hx hb (show decode prog_3_method_1_code 13 = .ok (.bipush 6, 2) by decide +kernel) (v := 6) rfl ?_
  refine k_newa (atype := .int) hx hb (hG _ (gk ck_1 86 rfl rfl)) (ty := .int) rfl (cA := cA 1) (hK.2 1 _ rfl).2 hP hD hS hA (N' := 6) (a0 := (6, .inl (fun _ => 0))) (fun _ => rfl) (by decide) (by decide) (Nat.le_of_ble_eq_true rfl) (Nat.le_of_ble_eq_true rfl) (Nat.le_of_ble_eq_true rfl) hz0 (show decode prog_3_method_1_code 15 = .ok (.newarray .int, 2) by decide +kernel) (fun H1 z1 hP1 hD1 hS1 => ?_)
  clear hz0
  have hz0 : H1.size = sz + 2 := z1
  clear z1
  have hP : va_P D vwCl [(h0, .inr (1, [.null, .int 0, .int 0, .int 0, .ref sz, .null, .null, .null, .null])), (sz, .inl (cA 1, (36, .inl (fun _ => 0)))), (sz + 1, .inl (cA 1, (6, .inl (fun _ => 0))))] H1 := hP1
  have hD : va_D A [(h0, .inr (1, [.null, .int 0, .int 0, .int 0, .ref sz, .null, .null, .null, .null])), (sz, .inl (cA 1, (36, .inl (fun _ => 0)))), (sz + 1, .inl (cA 1, (6, .inl (fun _ => 0))))] := hD1
  have hS := hS1
  clear hP1 hD1 hS1
  refine k_put hx hb hG inw1 tyX1 tyX1_ok nmX1 hown hK hP hD hS 0 rfl rfl 5 (by decide) (hG _ (gk ck_1 222 rfl rfl)) (fun _ h => h) (Or.inr ⟨rfl, hin, rfl⟩) (tyX1_ok 5 (by decide)) rfl rfl (Nat.le_of_ble_eq_true rfl) hz0 (show decode prog_3_method_1_code 17 = .ok (.putfield 15, 3) by decide +kernel) (fun H1 locs1 z1 hP1 hD1 hS1 => ?_)
  clear hz0
  have hz0 := z1
  clear z1
  have hP : va_P D vwCl [(h0, .inr (1, [.null, .int 0, .int 0, .int 0, .ref sz, .ref (sz + 1), .null, .null, .null])), (sz, .inl (cA 1, (36, .inl (fun _ => 0)))), (sz + 1, .inl (cA 1, (6, .inl (fun _ => 0))))] H1 := hP1
  have hD : va_D A [(h0, .inr (1, [.null, .int 0, .int 0, .int 0, .ref sz, .ref (sz + 1), .null, .null, .null])), (sz, .inl (cA 1, (36, .inl (fun _ => 0)))), (sz + 1, .inl (cA 1, (6, .inl (fun _ => 0))))] := hD1
  have hS := hS1
  clear hP1 hD1 hS1
  refine lv_aload_n hx hb (show decode prog_3_method_1_code 20 = .ok (.aload_n 0, 1) by decide +kernel) rfl (lv_at hl 0 rfl) ?_
  refine lv_sipush hx hb (show decode prog_3_method_1_code 21 = .ok (.sipush 432, 3) by decide +kernel) (v := 432) rfl ?_
  refine k_newa (atype := .int) hx hb (hG _ (gk ck_1 86 rfl rfl)) (ty := .int) rfl (cA := cA 1) (hK.2 1 _ rfl).2 hP hD hS hA (N' := 432) (a0 := (432, .inl (fun _ => 0))) (fun _ => rfl) (by decide) (by decide) (Nat.le_of_ble_eq_true rfl) (Nat.le_of_ble_eq_true rfl) (Nat.le_of_ble_eq_true rfl) hz0 (show decode prog_3_method_1_code 24 = .ok (.newarray .int, 2) by decide +kernel) (fun H1 z1 hP1 hD1 hS1 => ?_)
  clear hz0
  have hz0 : H1.size = sz + 3 := z1
  clear z1
  have hP : va_P D vwCl [(h0, .inr (1, [.null, .int 0, .int 0, .int 0, .ref sz, .ref (sz + 1), .null, .null, .null])), (sz, .inl (cA 1, (36, .inl (fun _ => 0)))), (sz + 1, .inl (cA 1, (6, .inl (fun _ => 0)))), (sz + 2, .inl (cA 1, (432, .inl (fun _ => 0))))] H1 := hP1
  have hD : va_D A [(h0, .inr (1, [.null, .int 0, .int 0, .int 0, .ref sz, .ref (sz + 1), .null, .null, .null])), (sz, .inl (cA 1, (36, .inl (fun _ => 0)))), (sz + 1, .inl (cA 1, (6, .inl (fun _ => 0)))), (sz + 2, .inl (cA 1, (432, .inl (fun _ => 0))))] := hD1
  have hS := hS1
  clear hP1 hD1 hS1
  refine k_put hx hb hG inw1 tyX1 tyX1_ok nmX1 hown hK hP hD hS 0 rfl rfl 6 (by decide) (hG _ (gk ck_1 225 rfl rfl)) (fun _ h => h) (Or.inr ⟨rfl, hin, rfl⟩) (tyX1_ok 6 (by decide)) rfl rfl (Nat.le_of_ble_eq_true rfl) hz0 (show decode prog_3_method_1_code 26 = .ok (.putfield 18, 3) by decide +kernel) (fun H1 locs1 z1 hP1 hD1 hS1 => ?_)
  clear hz0
  have hz0 := z1
  clear z1
  have hP : va_P D vwCl [(h0, .inr (1, [.null, .int 0, .int 0, .int 0, .ref sz, .ref (sz + 1), .ref (sz + 2), .null, .null])), (sz, .inl (cA 1, (36, .inl (fun _ => 0)))), (sz + 1, .inl (cA 1, (6, .inl (fun _ => 0)))), (sz + 2, .inl (cA 1, (432, .inl (fun _ => 0))))] H1 := hP1
  have hD : va_D A [(h0, .inr (1, [.null, .int 0, .int 0, .int 0, .ref sz, .ref (sz + 1), .ref (sz + 2), .null, .null])), (sz, .inl (cA 1, (36, .inl (fun _ => 0)))), (sz + 1, .inl (cA 1, (6, .inl (fun _ => 0)))), (sz + 2, .inl (cA 1, (432, .inl (fun _ => 0))))] := hD1
  have hS := hS1
  clear hP1 hD1 hS1
  refine lv_aload_n hx hb (show decode prog_3_method_1_code 29 = .ok (.aload_n 0, 1) by decide +kernel) rfl (lv_at hl 0 rfl) ?_
  refine lv_bipush hx hb (show decode prog_3_method_1_code 30 = .ok (.bipush 30, 2) by decide +kernel) (v := 30) rfl ?_
  refine k_newa (atype := .int) hx hb (hG _ (gk ck_1 86 rfl rfl)) (ty := .int) rfl (cA := cA 1) (hK.2 1 _ rfl).2 hP hD hS hA (N' := 30) (a0 := (30, .inl (fun _ => 0))) (fun _ => rfl) (by decide) (by decide) (Nat.le_of_ble_eq_true rfl) (Nat.le_of_ble_eq_true rfl) (Nat.le_of_ble_eq_true rfl) hz0 (show decode prog_3_method_1_code 32 = .ok (.newarray .int, 2) by decide +kernel) (fun H1 z1 hP1 hD1 hS1 => ?_)
  clear hz0
  have hz0 : H1.size = sz + 4 := z1
  clear z1
  have hP : va_P D vwCl [(h0, .inr (1, [.null, .int 0, .int 0, .int 0, .ref sz, .ref (sz + 1), .ref (sz + 2), .null, .null])), (sz, .inl (cA 1, (36, .inl (fun _ => 0)))), (sz + 1, .inl (cA 1, (6, .inl (fun _ => 0)))), (sz + 2, .inl (cA 1, (432, .inl (fun _ => 0)))), (sz + 3, .inl (cA 1, (30, .inl (fun _ => 0))))] H1 := hP1
  have hD : va_D A [(h0, .inr (1, [.null, .int 0, .int 0, .int 0, .ref sz, .ref (sz + 1), .ref (sz + 2), .null, .null])), (sz, .inl (cA 1, (36, .inl (fun _ => 0)))), (sz + 1, .inl (cA 1, (6, .inl (fun _ => 0)))), (sz + 2, .inl (cA 1, (432, .inl (fun _ => 0)))), (sz + 3, .inl (cA 1, (30, .inl (fun _ => 0))))] := hD1
  have hS := hS1
  clear hP1 hD1 hS1
  refine k_put hx hb hG inw1 tyX1 tyX1_ok nmX1 hown hK hP hD hS 0 rfl rfl 7 (by decide) (hG _ (gk ck_1 226 rfl rfl)) (fun _ h => h) (Or.inr ⟨rfl, hin, rfl⟩) (tyX1_ok 7 (by decide)) rfl rfl (Nat.le_of_ble_eq_true rfl) hz0 (show decode prog_3_method_1_code 34 = .ok (.putfield 21, 3) by decide +kernel) (fun H1 locs1 z1 hP1 hD1 hS1 => ?_)
  clear hz0
  have hz0 := z1
  clear z1
  have hP : va_P D vwCl [(h0, .inr (1, [.null, .int 0, .int 0, .int 0, .ref sz, .ref (sz + 1), .ref (sz + 2), .ref (sz + 3), .null])), (sz, .inl (cA 1, (36, .inl (fun _ => 0)))), (sz + 1, .inl (cA 1, (6, .inl (fun _ => 0)))), (sz + 2, .inl (cA 1, (432, .inl (fun _ => 0)))), (sz + 3, .inl (cA 1, (30, .inl (fun _ => 0))))] H1 := hP1
  have hD : va_D A [(h0, .inr (1, [.null, .int 0, .int 0, .int 0, .ref sz, .ref (sz + 1), .ref (sz + 2), .ref (sz + 3), .null])), (sz, .inl (cA 1, (36, .inl (fun _ => 0)))), (sz + 1, .inl (cA 1, (6, .inl (fun _ => 0)))), (sz + 2, .inl (cA 1, (432, .inl (fun _ => 0)))), (sz + 3, .inl (cA 1, (30, .inl (fun _ => 0))))] := hD1
  have hS := hS1
  clear hP1 hD1 hS1
  refine lv_aload_n hx hb (show decode prog_3_method_1_code 37 = .ok (.aload_n 0, 1) by decide +kernel) rfl (lv_at hl 0 rfl) ?_
  refine lv_iconst hx hb (show decode prog_3_method_1_code 38 = .ok (.iconst 5, 1) by decide +kernel) (v := 5) rfl ?_
  refine k_newa (atype := .int) hx hb (hG _ (gk ck_1 86 rfl rfl)) (ty := .int) rfl (cA := cA 1) (hK.2 1 _ rfl).2 hP hD hS hA (N' := 5) (a0 := (5, .inl (fun _ => 0))) (fun _ => rfl) (by decide) (by decide) (Nat.le_of_ble_eq_true rfl) (Nat.le_of_ble_eq_true rfl) (Nat.le_of_ble_eq_true rfl) hz0 (show decode prog_3_method_1_code 39 = .ok (.newarray .int, 2) by decide +kernel) (fun H1 z1 hP1 hD1 hS1 => ?_)
  clear hz0
  have hz0 : H1.size = sz + 5 := z1
  clear z1
  have hP : va_P D vwCl [(h0, .inr (1, [.null, .int 0, .int 0, .int 0, .ref sz, .ref (sz + 1), .ref (sz + 2), .ref (sz + 3), .null])), (sz, .inl (cA 1, (36, .inl (fun _ => 0)))), (sz + 1, .inl (cA 1, (6, .inl (fun _ => 0)))), (sz + 2, .inl (cA 1, (432, .inl (fun _ => 0)))), (sz + 3, .inl (cA 1, (30, .inl (fun _ => 0)))), (sz + 4, .inl (cA 1, (5, .inl (fun _ => 0))))] H1 := hP1
  have hD : va_D A [(h0, .inr (1, [.null, .int 0, .int 0, .int 0, .ref sz, .ref (sz + 1), .ref (sz + 2), .ref (sz + 3), .null])), (sz, .inl (cA 1, (36, .inl (fun _ => 0)))), (sz + 1, .inl (cA 1, (6, .inl (fun _ => 0)))), (sz + 2, .inl (cA 1, (432, .inl (fun _ => 0)))), (sz + 3, .inl (cA 1, (30, .inl (fun _ => 0)))), (sz + 4, .inl (cA 1, (5, .inl (fun _ => 0))))] := hD1
  have hS := hS1
  clear hP1 hD1 hS1
  refine k_put hx hb hG inw1 tyX1 tyX1_ok nmX1 hown hK hP hD hS 0 rfl rfl 8 (by decide) (hG _ (gk ck_1 227 rfl rfl)) (fun _ h => h) (Or.inr ⟨rfl, hin, rfl⟩) (tyX1_ok 8 (by decide)) rfl rfl (Nat.le_of_ble_eq_true rfl) hz0 (show decode prog_3_method_1_code 41 = .ok (.putfield 24, 3) by decide +kernel) (fun H1 locs1 z1 hP1 hD1 hS1 => ?_)
  clear hz0
  have hz0 := z1
  clear z1
  have hP : va_P D vwCl [(h0, .inr (1, [.null, .int 0, .int 0, .int 0, .ref sz, .ref (sz + 1), .ref (sz + 2), .ref (sz + 3), .ref (sz + 4)])), (sz, .inl (cA 1, (36, .inl (fun _ => 0)))), (sz + 1, .inl (cA 1, (6, .inl (fun _ => 0)))), (sz + 2, .inl (cA 1, (432, .inl (fun _ => 0)))), (sz + 3, .inl (cA 1, (30, .inl (fun _ => 0)))), (sz + 4, .inl (cA 1, (5, .inl (fun _ => 0))))] H1 := hP1
  have hD : va_D A [(h0, .inr (1, [.null, .int 0, .int 0, .int 0, .ref sz, .ref (sz + 1), .ref (sz + 2), .ref (sz + 3), .ref (sz + 4)])), (sz, .inl (cA 1, (36, .inl (fun _ => 0)))), (sz + 1, .inl (cA 1, (6, .inl (fun _ => 0)))), (sz + 2, .inl (cA 1, (432, .inl (fun _ => 0)))), (sz + 3, .inl (cA 1, (30, .inl (fun _ => 0)))), (sz + 4, .inl (cA 1, (5, .inl (fun _ => 0))))] := hD1
  have hS := hS1
  clear hP1 hD1 hS1
  refine lv_aload_n hx hb (show decode prog_3_method_1_code 44 = .ok (.aload_n 0, 1) by decide +kernel) rfl (lv_at hl 0 rfl) ?_
  refine lv_aload_n hx hb (show decode prog_3_method_1_code 45 = .ok (.aload_n 1, 1) by decide +kernel) rfl (lv_at hl 1 rfl) ?_
  refine k_put hx hb hG inw1 tyX1 tyX1_ok nmX1 hown hK hP hD hS 0 rfl rfl 0 (by decide) (hG _ (gk ck_1 213 rfl rfl)) (fun _ h => h) (Or.inr ⟨rfl, hin, rfl⟩) (tyX1_ok 0 (by decide)) rfl rfl (Nat.le_of_ble_eq_true rfl) hz0 (show decode prog_3_method_1_code 46 = .ok (.putfield 27, 3) by decide +kernel) (fun H1 locs1 z1 hP1 hD1 hS1 => ?_)
  clear hz0
  have hz0 := z1
  clear z1
  have hP : va_P D vwCl [(h0, .inr (1, [.ref a1, .int 0, .int 0, .int 0, .ref sz, .ref (sz + 1), .ref (sz + 2), .ref (sz + 3), .ref (sz + 4)])), (sz, .inl (cA 1, (36, .inl (fun _ => 0)))), (sz + 1, .inl (cA 1, (6, .inl (fun _ => 0)))), (sz + 2, .inl (cA 1, (432, .inl (fun _ => 0)))), (sz + 3, .inl (cA 1, (30, .inl (fun _ => 0)))), (sz + 4, .inl (cA 1, (5, .inl (fun _ => 0))))] H1 := hP1
  have hD : va_D A [(h0, .inr (1, [.ref a1, .int 0, .int 0, .int 0, .ref sz, .ref (sz + 1), .ref (sz + 2), .ref (sz + 3), .ref (sz + 4)])), (sz, .inl (cA 1, (36, .inl (fun _ => 0)))), (sz + 1, .inl (cA 1, (6, .inl (fun _ => 0)))), (sz + 2, .inl (cA 1, (432, .inl (fun _ => 0)))), (sz + 3, .inl (cA 1, (30, .inl (fun _ => 0)))), (sz + 4, .inl (cA 1, (5, .inl (fun _ => 0))))] := hD1
  have hS := hS1
  clear hP1 hD1 hS1
  refine W.vret hx hb hr (fun t ht _ => ⟨⟨(), rfl, trivial, by rw [ht]; exact hz0, by rw [ht]; exact hP, by rw [hAe]; exact hD⟩, by rw [hAe]; exact hS.F ht⟩) (by rw [hAe]; exact hS.2.2) (show decode prog_3_method_1_code 49 = .ok (.return_, 1) by decide +kernel) hlocks
theorem kcd_Ch : Cond.code ⟨"EnemyLetters$Choice", "<init>", "(LEnemyLetters$Land;LEnemyLetters$Course;)V"⟩ prog_2_method_1_code 3 none ∈ GW0 := gk ck_2 13 rfl rfl
set_option maxHeartbeats 4000000 in
set_option maxRecDepth 100000 in
theorem m_Ch (l : Launch) (D : va_G) (cA : Nat → ClassId) (h0 sz : Nat) (a1 : Nat) (a2 : Nat) : kMet l ⟨"EnemyLetters$Choice", "<init>", "(LEnemyLetters$Land;LEnemyLetters$Course;)V"⟩ prog_2_method_1_code 3 (kRm 1 2 10) D cA [.ref a1, .ref a2] sz h0 (.inr (0, [.null, .null, .null, .null, .int 0, .int 0])) [(h0, .inr (0, [.ref a1, .ref a2, .ref sz, .ref (sz + 1), .int 0, .int 0])), (sz, .inl (cA 1, (5, .inl (fun _ => 0)))), (sz + 1, .inl (cA 1, (5, .inl (fun _ => 0))))] (sz + 2) 2 10 := by
  unfold kMet kPost
  refine Met.ofW (cc := prog_2_method_1_code) (maxL := 3) (ret := none) (by decide) rfl ?_
  intro p e s m args below meth c s₁ B hml hv
  obtain ⟨rfl, hz0, hP, hK, hzv⟩ := hv
  have hx := B.exec
  have hb := B.bytes
  have hr := B.returns
  have hts := atoms_spec (ws := (Cond.code ⟨"EnemyLetters$Choice", "<init>", "(LEnemyLetters$Land;LEnemyLetters$Course;)V"⟩ prog_2_method_1_code 3 none :: GW0)) B.pre
  have hG : ∀ w ∈ GW0, w.before [.ref h0, .ref a1, .ref a2].toArray s = true := fun w hw => hts w (List.mem_cons_of_mem _ hw)
  have hown : s.vm.findClass "EnemyLetters$Choice" = some m.cls := findClass_of_methodNamed B.named
  have hlocks := B.notSynchronized
  have hin : meth.name = "<init>" := (name_of_methodNamed B.named B.method).1
  have hl := lv_entry ([.ref h0, .ref a1, .ref a2]) (n := 3) (Nat.le_of_ble_eq_true rfl)
  rw [lg_entry_eq]
  generalize (lg_sl ([.ref h0, .ref a1, .ref a2]) ++ List.replicate (3 - (lg_sl ([.ref h0, .ref a1, .ref a2])).length) Slot.unset).toArray = ls at hl ⊢
  have hl : lv_has ls 3 [(0, .ref h0), (1, .ref a1), (2, .ref a2)] := hl
  have hD : va_D (va_A [(h0, .inr (0, [.null, .null, .null, .null, .int 0, .int 0]))] sz) [(h0, .inr (0, [.null, .null, .null, .null, .int 0, .int 0]))] := k_one
  obtain ⟨A, hAe⟩ : ∃ A, va_A [(h0, .inr (0, [.null, .null, .null, .null, .int 0, .int 0]))] sz = A := ⟨_, rfl⟩
  rw [hAe] at hD
  have hA : ∀ q : Nat, s.heap.size ≤ q → A q := fun q h => by rw [← hAe]; exact Or.inr (by omega)
  have hS : va_S A s.heap s.heap [] := va_S.rf
  refine lv_aload_n hx hb (show decode prog_2_method_1_code 0 = .ok (.aload_n 0, 1) by decide +kernel) rfl (lv_at hl 0 rfl) ?_
  refine W.objInit hx hb hown (hG _ (gk ck_2 14 rfl rfl)) (hG _ (gk ck_1 25 rfl rfl)) (hG _ (gk ck_1 26 rfl rfl)) rfl (by rw [hml]; exact hl.1) rfl (show decode prog_2_method_1_code 1 = .ok (.invokespecial 3, 3) by decide +kernel) (Nat.le_of_ble_eq_true rfl) (Nat.le_of_ble_eq_true rfl) ?_
  refine W.eq (g2 := F0 m 4 ls []) rfl ?_
  refine lv_aload_n hx hb (show decode prog_2_method_1_code 4 = .ok (.aload_n 0, 1) by decide +kernel) rfl (lv_at hl 0 rfl) ?_
  refine lv_iconst hx hb (show decode prog_2_method_1_code 5 = .ok (.iconst 5, 1) by decide +kernel) (v := 5) rfl ?_
  refine k_newa (atype := .int) hx hb (hG _ (gk ck_1 86 rfl rfl)) (ty := .int) rfl (cA := cA 1) (hK.2 1 _ rfl).2 hP hD hS hA (N' := 5) (a0 := (5, .inl (fun _ => 0))) (fun _ => rfl) (by decide) (by decide) (Nat.le_of_ble_eq_true rfl) (Nat.le_of_ble_eq_true rfl) (Nat.le_of_ble_eq_true rfl) hz0 (show decode prog_2_method_1_code 6 = .ok (.newarray .int, 2) by decide +kernel) (fun H1 z1 hP1 hD1 hS1 => ?_)
  clear hz0
  have hz0 : H1.size = sz + 1 := z1
  clear z1
  have hP : va_P D vwCl [(h0, .inr (0, [.null, .null, .null, .null, .int 0, .int 0])), (sz, .inl (cA 1, (5, .inl (fun _ => 0))))] H1 := hP1
  have hD : va_D A [(h0, .inr (0, [.null, .null, .null, .null, .int 0, .int 0])), (sz, .inl (cA 1, (5, .inl (fun _ => 0))))] := hD1
  have hS := hS1
  clear hP1 hD1 hS1
  refine k_put hx hb hG inw0 tyX0 tyX0_ok nmX0 hown hK hP hD hS 0 rfl rfl 2 (by decide) (hG _ (gk ck_2 17 rfl rfl)) (fun _ h => h) (Or.inr ⟨rfl, hin, rfl⟩) (tyX0_ok 2 (by decide)) rfl rfl (Nat.le_of_ble_eq_true rfl) hz0 (show decode prog_2_method_1_code 8 = .ok (.putfield 9, 3) by decide +kernel) (fun H1 locs1 z1 hP1 hD1 hS1 => ?_)
  clear hz0
  have hz0 := z1
  clear z1
  have hP : va_P D vwCl [(h0, .inr (0, [.null, .null, .ref sz, .null, .int 0, .int 0])), (sz, .inl (cA 1, (5, .inl (fun _ => 0))))] H1 := hP1
  have hD : va_D A [(h0, .inr (0, [.null, .null, .ref sz, .null, .int 0, .int 0])), (sz, .inl (cA 1, (5, .inl (fun _ => 0))))] := hD1
  have hS := hS1
  clear hP1 hD1 hS1
  refine lv_aload_n hx hb (show decode prog_2_method_1_code 11 = .ok (.aload_n 0, 1) by decide +kernel) rfl (lv_at hl 0 rfl) ?_
  refine lv_iconst hx hb (show decode prog_2_method_1_code 12 = .ok (.iconst 5, 1) by decide +kernel) (v := 5) rfl ?_
  refine k_newa (atype := .int) hx hb (hG _ (gk ck_1 86 rfl rfl)) (ty := .int) rfl (cA := cA 1) (hK.2 1 _ rfl).2 hP hD hS hA (N' := 5) (a0 := (5, .inl (fun _ => 0))) (fun _ => rfl) (by decide) (by decide) (Nat.le_of_ble_eq_true rfl) (Nat.le_of_ble_eq_true rfl) (Nat.le_of_ble_eq_true rfl) hz0 (show decode prog_2_method_1_code 13 = .ok (.newarray .int, 2) by decide +kernel) (fun H1 z1 hP1 hD1 hS1 => ?_)
  clear hz0
  have hz0 : H1.size = sz + 2 := z1
  clear z1
  have hP : va_P D vwCl [(h0, .inr (0, [.null, .null, .ref sz, .null, .int 0, .int 0])), (sz, .inl (cA 1, (5, .inl (fun _ => 0)))), (sz + 1, .inl (cA 1, (5, .inl (fun _ => 0))))] H1 := hP1
  have hD : va_D A [(h0, .inr (0, [.null, .null, .ref sz, .null, .int 0, .int 0])), (sz, .inl (cA 1, (5, .inl (fun _ => 0)))), (sz + 1, .inl (cA 1, (5, .inl (fun _ => 0))))] := hD1
  have hS := hS1
  clear hP1 hD1 hS1
  refine k_put hx hb hG inw0 tyX0 tyX0_ok nmX0 hown hK hP hD hS 0 rfl rfl 3 (by decide) (hG _ (gk ck_2 18 rfl rfl)) (fun _ h => h) (Or.inr ⟨rfl, hin, rfl⟩) (tyX0_ok 3 (by decide)) rfl rfl (Nat.le_of_ble_eq_true rfl) hz0 (show decode prog_2_method_1_code 15 = .ok (.putfield 15, 3) by decide +kernel) (fun H1 locs1 z1 hP1 hD1 hS1 => ?_)
  clear hz0
  have hz0 := z1
  clear z1
  have hP : va_P D vwCl [(h0, .inr (0, [.null, .null, .ref sz, .ref (sz + 1), .int 0, .int 0])), (sz, .inl (cA 1, (5, .inl (fun _ => 0)))), (sz + 1, .inl (cA 1, (5, .inl (fun _ => 0))))] H1 := hP1
  have hD : va_D A [(h0, .inr (0, [.null, .null, .ref sz, .ref (sz + 1), .int 0, .int 0])), (sz, .inl (cA 1, (5, .inl (fun _ => 0)))), (sz + 1, .inl (cA 1, (5, .inl (fun _ => 0))))] := hD1
  have hS := hS1
  clear hP1 hD1 hS1
  refine lv_aload_n hx hb (show decode prog_2_method_1_code 18 = .ok (.aload_n 0, 1) by decide +kernel) rfl (lv_at hl 0 rfl) ?_
  refine lv_aload_n hx hb (show decode prog_2_method_1_code 19 = .ok (.aload_n 1, 1) by decide +kernel) rfl (lv_at hl 1 rfl) ?_
  refine k_put hx hb hG inw0 tyX0 tyX0_ok nmX0 hown hK hP hD hS 0 rfl rfl 0 (by decide) (hG _ (gk ck_2 15 rfl rfl)) (fun _ h => h) (Or.inr ⟨rfl, hin, rfl⟩) (tyX0_ok 0 (by decide)) rfl rfl (Nat.le_of_ble_eq_true rfl) hz0 (show decode prog_2_method_1_code 20 = .ok (.putfield 18, 3) by decide +kernel) (fun H1 locs1 z1 hP1 hD1 hS1 => ?_)
  clear hz0
  have hz0 := z1
  clear z1
  have hP : va_P D vwCl [(h0, .inr (0, [.ref a1, .null, .ref sz, .ref (sz + 1), .int 0, .int 0])), (sz, .inl (cA 1, (5, .inl (fun _ => 0)))), (sz + 1, .inl (cA 1, (5, .inl (fun _ => 0))))] H1 := hP1
  have hD : va_D A [(h0, .inr (0, [.ref a1, .null, .ref sz, .ref (sz + 1), .int 0, .int 0])), (sz, .inl (cA 1, (5, .inl (fun _ => 0)))), (sz + 1, .inl (cA 1, (5, .inl (fun _ => 0))))] := hD1
  have hS := hS1
  clear hP1 hD1 hS1
  refine lv_aload_n hx hb (show decode prog_2_method_1_code 23 = .ok (.aload_n 0, 1) by decide +kernel) rfl (lv_at hl 0 rfl) ?_
  refine lv_aload_n hx hb (show decode prog_2_method_1_code 24 = .ok (.aload_n 2, 1) by decide +kernel) rfl (lv_at hl 2 rfl) ?_
  refine k_put hx hb hG inw0 tyX0 tyX0_ok nmX0 hown hK hP hD hS 0 rfl rfl 1 (by decide) (hG _ (gk ck_2 16 rfl rfl)) (fun _ h => h) (Or.inr ⟨rfl, hin, rfl⟩) (tyX0_ok 1 (by decide)) rfl rfl (Nat.le_of_ble_eq_true rfl) hz0 (show decode prog_2_method_1_code 25 = .ok (.putfield 22, 3) by decide +kernel) (fun H1 locs1 z1 hP1 hD1 hS1 => ?_)
  clear hz0
  have hz0 := z1
  clear z1
  have hP : va_P D vwCl [(h0, .inr (0, [.ref a1, .ref a2, .ref sz, .ref (sz + 1), .int 0, .int 0])), (sz, .inl (cA 1, (5, .inl (fun _ => 0)))), (sz + 1, .inl (cA 1, (5, .inl (fun _ => 0))))] H1 := hP1
  have hD : va_D A [(h0, .inr (0, [.ref a1, .ref a2, .ref sz, .ref (sz + 1), .int 0, .int 0])), (sz, .inl (cA 1, (5, .inl (fun _ => 0)))), (sz + 1, .inl (cA 1, (5, .inl (fun _ => 0))))] := hD1
  have hS := hS1
  clear hP1 hD1 hS1
  refine W.vret hx hb hr (fun t ht _ => ⟨⟨(), rfl, trivial, by rw [ht]; exact hz0, by rw [ht]; exact hP, by rw [hAe]; exact hD⟩, by rw [hAe]; exact hS.F ht⟩) (by rw [hAe]; exact hS.2.2) (show decode prog_2_method_1_code 28 = .ok (.return_, 1) by decide +kernel) hlocks
theorem kcd_Si : Cond.code ⟨"EnemyLetters$Sight", "<init>", "(LEnemyLetters$Land;LEnemyLetters$Course;LEnemyLetters$Slots;)V"⟩ prog_7_method_1_code 4 none ∈ GW0 := gk ck_2 64 rfl rfl
set_option maxHeartbeats 4000000 in
set_option maxRecDepth 100000 in
theorem m_Si (l : Launch) (D : va_G) (cA : Nat → ClassId) (h0 sz : Nat) (a1 : Nat) (a2 : Nat) (a3 : Nat) : kMet l ⟨"EnemyLetters$Sight", "<init>", "(LEnemyLetters$Land;LEnemyLetters$Course;LEnemyLetters$Slots;)V"⟩ prog_7_method_1_code 4 (kRm 1 1 35) D cA [.ref a1, .ref a2, .ref a3] sz h0 (.inr (5, [.null, .null, .null, .null, .int 0, .int 0, .int 0])) [(h0, .inr (5, [.ref a1, .ref a2, .ref a3, .ref sz, .int 0, .int 0, .int 0])), (sz, .inl (cA 1, (35, .inl (fun _ => 0))))] (sz + 1) 1 35 := by
  unfold kMet kPost
  refine Met.ofW (cc := prog_7_method_1_code) (maxL := 4) (ret := none) (by decide) rfl ?_
  intro p e s m args below meth c s₁ B hml hv
  obtain ⟨rfl, hz0, hP, hK, hzv⟩ := hv
  have hx := B.exec
  have hb := B.bytes
  have hr := B.returns
  have hts := atoms_spec (ws := (Cond.code ⟨"EnemyLetters$Sight", "<init>", "(LEnemyLetters$Land;LEnemyLetters$Course;LEnemyLetters$Slots;)V"⟩ prog_7_method_1_code 4 none :: GW0)) B.pre
  have hG : ∀ w ∈ GW0, w.before [.ref h0, .ref a1, .ref a2, .ref a3].toArray s = true := fun w hw => hts w (List.mem_cons_of_mem _ hw)
  have hown : s.vm.findClass "EnemyLetters$Sight" = some m.cls := findClass_of_methodNamed B.named
  have hlocks := B.notSynchronized
  have hin : meth.name = "<init>" := (name_of_methodNamed B.named B.method).1
  have hl := lv_entry ([.ref h0, .ref a1, .ref a2, .ref a3]) (n := 4) (Nat.le_of_ble_eq_true rfl)
  rw [lg_entry_eq]
  generalize (lg_sl ([.ref h0, .ref a1, .ref a2, .ref a3]) ++ List.replicate (4 - (lg_sl ([.ref h0, .ref a1, .ref a2, .ref a3])).length) Slot.unset).toArray = ls at hl ⊢
  have hl : lv_has ls 4 [(0, .ref h0), (1, .ref a1), (2, .ref a2), (3, .ref a3)] := hl
  have hD : va_D (va_A [(h0, .inr (5, [.null, .null, .null, .null, .int 0, .int 0, .int 0]))] sz) [(h0, .inr (5, [.null, .null, .null, .null, .int 0, .int 0, .int 0]))] := k_one
  obtain ⟨A, hAe⟩ : ∃ A, va_A [(h0, .inr (5, [.null, .null, .null, .null, .int 0, .int 0, .int 0]))] sz = A := ⟨_, rfl⟩
  rw [hAe] at hD
  have hA : ∀ q : Nat, s.heap.size ≤ q → A q := fun q h => by rw [← hAe]; exact Or.inr (by omega)
  have hS : va_S A s.heap s.heap [] := va_S.rf
  refine lv_aload_n hx hb (show decode prog_7_method_1_code 0 = .ok (.aload_n 0, 1) by decide +kernel) rfl (lv_at hl 0 rfl) ?_
  refine W.objInit hx hb hown (hG _ (gk ck_2 65 rfl rfl)) (hG _ (gk ck_1 25 rfl rfl)) (hG _ (gk ck_1 26 rfl rfl)) rfl (by rw [hml]; exact hl.1) rfl (show decode prog_7_method_1_code 1 = .ok (.invokespecial 3, 3) by decide +kernel) (Nat.le_of_ble_eq_true rfl) (Nat.le_of_ble_eq_true rfl) ?_
  refine W.eq (g2 := F0 m 4 ls []) rfl ?_
  refine lv_aload_n hx hb (show decode prog_7_method_1_code 4 = .ok (.aload_n 0, 1) by decide +kernel) rfl (lv_at hl 0 rfl) ?_
  refine lv_bipush hx hb (show decode prog_7_method_1_code 5 = .ok (.bipush 35, 2) by decide +kernel) (v := 35) rfl ?_
  refine k_newa (atype := .int) hx hb (hG _ (gk ck_1 86 rfl rfl)) (ty := .int) rfl (cA := cA 1) (hK.2 1 _ rfl).2 hP hD hS hA (N' := 35) (a0 := (35, .inl (fun _ => 0))) (fun _ => rfl) (by decide) (by decide) (Nat.le_of_ble_eq_true rfl) (Nat.le_of_ble_eq_true rfl) (Nat.le_of_ble_eq_true rfl) hz0 (show decode prog_7_method_1_code 7 = .ok (.newarray .int, 2) by decide +kernel) (fun H1 z1 hP1 hD1 hS1 => ?_)
  clear hz0
  have hz0 : H1.size = sz + 1 := z1
  clear z1
  have hP : va_P D vwCl [(h0, .inr (5, [.null, .null, .null, .null, .int 0, .int 0, .int 0])), (sz, .inl (cA 1, (35, .inl (fun _ => 0))))] H1 := hP1
  have hD : va_D A [(h0, .inr (5, [.null, .null, .null, .null, .int 0, .int 0, .int 0])), (sz, .inl (cA 1, (35, .inl (fun _ => 0))))] := hD1
  have hS := hS1
  clear hP1 hD1 hS1
  refine k_put hx hb hG inw5 tyX5 tyX5_ok nmX5 hown hK hP hD hS 0 rfl rfl 3 (by decide) (hG _ (gk ck_2 69 rfl rfl)) (fun _ h => h) (Or.inr ⟨rfl, hin, rfl⟩) (tyX5_ok 3 (by decide)) rfl rfl (Nat.le_of_ble_eq_true rfl) hz0 (show decode prog_7_method_1_code 9 = .ok (.putfield 11, 3) by decide +kernel) (fun H1 locs1 z1 hP1 hD1 hS1 => ?_)
  clear hz0
  have hz0 := z1
  clear z1
  have hP : va_P D vwCl [(h0, .inr (5, [.null, .null, .null, .ref sz, .int 0, .int 0, .int 0])), (sz, .inl (cA 1, (35, .inl (fun _ => 0))))] H1 := hP1
  have hD : va_D A [(h0, .inr (5, [.null, .null, .null, .ref sz, .int 0, .int 0, .int 0])), (sz, .inl (cA 1, (35, .inl (fun _ => 0))))] := hD1
  have hS := hS1
  clear hP1 hD1 hS1
  refine lv_aload_n hx hb (show decode prog_7_method_1_code 12 = .ok (.aload_n 0, 1) by decide +kernel) rfl (lv_at hl 0 rfl) ?_
  refine lv_aload_n hx hb (show decode prog_7_method_1_code 13 = .ok (.aload_n 1, 1) by decide +kernel) rfl (lv_at hl 1 rfl) ?_
  refine k_put hx hb hG inw5 tyX5 tyX5_ok nmX5 hown hK hP hD hS 0 rfl rfl 0 (by decide) (hG _ (gk ck_2 66 rfl rfl)) (fun _ h => h) (Or.inr ⟨rfl, hin, rfl⟩) (tyX5_ok 0 (by decide)) rfl rfl (Nat.le_of_ble_eq_true rfl) hz0 (show decode prog_7_method_1_code 14 = .ok (.putfield 15, 3) by decide +kernel) (fun H1 locs1 z1 hP1 hD1 hS1 => ?_)
  clear hz0
  have hz0 := z1
  clear z1
  have hP : va_P D vwCl [(h0, .inr (5, [.ref a1, .null, .null, .ref sz, .int 0, .int 0, .int 0])), (sz, .inl (cA 1, (35, .inl (fun _ => 0))))] H1 := hP1
  have hD : va_D A [(h0, .inr (5, [.ref a1, .null, .null, .ref sz, .int 0, .int 0, .int 0])), (sz, .inl (cA 1, (35, .inl (fun _ => 0))))] := hD1
  have hS := hS1
  clear hP1 hD1 hS1
  refine lv_aload_n hx hb (show decode prog_7_method_1_code 17 = .ok (.aload_n 0, 1) by decide +kernel) rfl (lv_at hl 0 rfl) ?_
  refine lv_aload_n hx hb (show decode prog_7_method_1_code 18 = .ok (.aload_n 2, 1) by decide +kernel) rfl (lv_at hl 2 rfl) ?_
  refine k_put hx hb hG inw5 tyX5 tyX5_ok nmX5 hown hK hP hD hS 0 rfl rfl 1 (by decide) (hG _ (gk ck_2 67 rfl rfl)) (fun _ h => h) (Or.inr ⟨rfl, hin, rfl⟩) (tyX5_ok 1 (by decide)) rfl rfl (Nat.le_of_ble_eq_true rfl) hz0 (show decode prog_7_method_1_code 19 = .ok (.putfield 19, 3) by decide +kernel) (fun H1 locs1 z1 hP1 hD1 hS1 => ?_)
  clear hz0
  have hz0 := z1
  clear z1
  have hP : va_P D vwCl [(h0, .inr (5, [.ref a1, .ref a2, .null, .ref sz, .int 0, .int 0, .int 0])), (sz, .inl (cA 1, (35, .inl (fun _ => 0))))] H1 := hP1
  have hD : va_D A [(h0, .inr (5, [.ref a1, .ref a2, .null, .ref sz, .int 0, .int 0, .int 0])), (sz, .inl (cA 1, (35, .inl (fun _ => 0))))] := hD1
  have hS := hS1
  clear hP1 hD1 hS1
  refine lv_aload_n hx hb (show decode prog_7_method_1_code 22 = .ok (.aload_n 0, 1) by decide +kernel) rfl (lv_at hl 0 rfl) ?_
  refine lv_aload_n hx hb (show decode prog_7_method_1_code 23 = .ok (.aload_n 3, 1) by decide +kernel) rfl (lv_at hl 3 rfl) ?_
  refine k_put hx hb hG inw5 tyX5 tyX5_ok nmX5 hown hK hP hD hS 0 rfl rfl 2 (by decide) (hG _ (gk ck_2 68 rfl rfl)) (fun _ h => h) (Or.inr ⟨rfl, hin, rfl⟩) (tyX5_ok 2 (by decide)) rfl rfl (Nat.le_of_ble_eq_true rfl) hz0 (show decode prog_7_method_1_code 24 = .ok (.putfield 23, 3) by decide +kernel) (fun H1 locs1 z1 hP1 hD1 hS1 => ?_)
  clear hz0
  have hz0 := z1
  clear z1
  have hP : va_P D vwCl [(h0, .inr (5, [.ref a1, .ref a2, .ref a3, .ref sz, .int 0, .int 0, .int 0])), (sz, .inl (cA 1, (35, .inl (fun _ => 0))))] H1 := hP1
  have hD : va_D A [(h0, .inr (5, [.ref a1, .ref a2, .ref a3, .ref sz, .int 0, .int 0, .int 0])), (sz, .inl (cA 1, (35, .inl (fun _ => 0))))] := hD1
  have hS := hS1
  clear hP1 hD1 hS1
  refine W.vret hx hb hr (fun t ht _ => ⟨⟨(), rfl, trivial, by rw [ht]; exact hz0, by rw [ht]; exact hP, by rw [hAe]; exact hD⟩, by rw [hAe]; exact hS.F ht⟩) (by rw [hAe]; exact hS.2.2) (show decode prog_7_method_1_code 27 = .ok (.return_, 1) by decide +kernel) hlocks
