/-! ===== new EnemyLetters(): its contract (by program) ===== -/
section ME2
variable {D : va_G} {cA : Nat → ClassId} {h0 b fa : Nat} {adK adV : Nat → Nat}
def ePre (D : va_G) (cA : Nat → ClassId) (h0 b fa : Nat) (adK adV : Nat → Nat) (m : Nat) (xs : Nat → Int32) (U : State) : Prop := U.heap.size = h0 + 1 ∧ va_P D vwCl [(h0, .inr (8, [.null, .null, .null, .null, .null, .null, .null, .null, .null, .null]))] U.heap ∧ va_K D vwCl (mTy cA) U ∧ mZt (v1 D cA h0 b fa adK) (Z0 adK adV) (f0 m xs) U U.heap
theorem eBlind (m : Nat) (xs : Nat → Int32) (av : List Value) : FrameBlind (va_Pc av (ePre D cA h0 b fa adK adV m xs)) := fun a U g mk q => by
  obtain ⟨e, h1, h2, h3, h4⟩ := q
  exact ⟨e, h1, h2, va_K.moved (u := U) (U := U.calling g mk a) (Vm.Alike.refl U.vm) h3, mZt_eq (U := U) (U' := U.calling g mk a) (H := U.heap) (Z0_ok adK adV) rfl h4⟩
theorem e_mPre {s : State} {H : Heap} {av : List Value} {τ : mS} (hK : va_K D vwCl (mTy cA) s) (hP : va_P D vwCl (vW (v1 D cA h0 b fa adK) τ) H) (hz1 : s.heap.size ≤ H.size) (hz2 : ∀ q : Nat, q < s.heap.size → ¬ vA (v1 D cA h0 b fa adK) q → H[q]? = s.heap[q]?) (hZ : mZt (v1 D cA h0 b fa adK) (Z0 adK adV) τ s s.heap) : ∀ U : State, U.heap = H → s.WarmedH U.vm → va_Pc av (mBp (v1 D cA h0 b fa adK) (Z0 adK adV) τ) av.toArray U := by
  intro U hU hW
  refine ⟨rfl, by rw [hU]; exact hP, va_K.moved hW.alike hK, ?_⟩
  rw [hU]
  exact mZt_warm (Z0_ok adK adV) hW (mZt_kept (locs := []) (Z0_ok adK adV) ⟨hz1, hz2, fun _ h => by cases h⟩ hZ)
set_option maxHeartbeats 8000000 in
set_option maxRecDepth 100000 in
theorem m_E (l : Launch) (k0 : Nat) (xs : Nat → Int32) {τ1 τ2 : mS} (r1 : Cy 2 n_Co_reset [.ref 20] (f0 k0 xs) = some (.null, τ1)) (r2 : Cy 3 n_Co_run [.ref 20, .null] τ1 = some (.null, τ2)) (r3 : mKeep (f0 k0 xs) τ1) : Met l ⟨"EnemyLetters", "<init>", "()V"⟩ (Cond.code ⟨"EnemyLetters", "<init>", "()V"⟩ prog_1_method_1_code 1 none :: GW0) eRm (va_Pc [.ref h0] (ePre D cA h0 b fa adK adV k0 xs)) (va_Qv (S := Unit) (fun _ => True) (fun _ t => t.heap.size = h0 + 106 ∧ va_P D vwCl (vW (v1 D cA h0 b fa adK) τ2) t.heap) (va_A [(h0, .inr (8, [.null, .null, .null, .null, .null, .null, .null, .null, .null, .null]))] (h0 + 1))) 105 3304 (va_A [(h0, .inr (8, [.null, .null, .null, .null, .null, .null, .null, .null, .null, .null]))] (h0 + 1)) := by
  refine Met.ofW (cc := prog_1_method_1_code) (maxL := 1) (ret := none) (by decide) rfl ?_
  intro p e s m args below meth c s₁ B hml hv
  obtain ⟨rfl, hz0, hP, hK, hZ⟩ := hv
  have hzs := hz0
  have hzv : zV s := ⟨hZ.2.2.2.2.1, hZ.2.2.2.2.2.1, hZ.2.2.2.2.2.2⟩
  have hx := B.exec
  have hb := B.bytes
  have hr := B.returns
  have hts := atoms_spec (ws := (Cond.code ⟨"EnemyLetters", "<init>", "()V"⟩ prog_1_method_1_code 1 none :: GW0)) B.pre
  have hG : ∀ w ∈ GW0, w.before [.ref h0].toArray s = true := fun w hw => hts w (List.mem_cons_of_mem _ hw)
  have hown : s.vm.findClass "EnemyLetters" = some m.cls := findClass_of_methodNamed B.named
  have hlocks := B.notSynchronized
  have hin : meth.name = "<init>" := (name_of_methodNamed B.named B.method).1
  have hl := lv_entry ([.ref h0]) (n := 1) (Nat.le_of_ble_eq_true rfl)
  rw [lg_entry_eq]
  generalize (lg_sl ([.ref h0]) ++ List.replicate (1 - (lg_sl ([.ref h0])).length) Slot.unset).toArray = ls at hl ⊢
  have hl : lv_has ls 1 [(0, .ref h0)] := hl
  have hD : va_D (va_A [(h0, .inr (8, [.null, .null, .null, .null, .null, .null, .null, .null, .null, .null]))] (h0 + 1)) [(h0, .inr (8, [.null, .null, .null, .null, .null, .null, .null, .null, .null, .null]))] := k_one
  obtain ⟨A, hAe⟩ : ∃ A, va_A [(h0, .inr (8, [.null, .null, .null, .null, .null, .null, .null, .null, .null, .null]))] (h0 + 1) = A := ⟨_, rfl⟩
  rw [hAe] at hD
  have hA : ∀ q : Nat, s.heap.size ≤ q → A q := fun q h => by rw [← hAe]; exact Or.inr (by omega)
  have hAV : ∀ q : Nat, vA (v1 D cA h0 b fa adK) q → A q := fun q h => by
    have h1 := v1_A h
    rw [← hAe]
    by_cases e : q = h0
    · exact Or.inl ⟨0, _, by rw [e]; rfl⟩
    · exact Or.inr (by omega)
  have hAN : ∀ q : Nat, q < s.heap.size → ¬ vA (v1 D cA h0 b fa adK) q → ¬ A q := fun q h1 h2 h3 => by
    rw [← hAe] at h3
    rcases h3 with ⟨k, e, h3⟩ | h3
    · have hk : k < 1 := (List.getElem?_eq_some_iff.mp h3).1
      rw [show k = 0 by omega] at h3
      cases h3
      exact h2 v1_0
    · omega
  have hS : va_S A s.heap s.heap [] := va_S.rf
  refine lv_aload_n hx hb (show decode prog_1_method_1_code 0 = .ok (.aload_n 0, 1) by decide +kernel) rfl (lv_at hl 0 rfl) ?_
  refine W.objInit hx hb hown (hG _ (gk ck_1 24 rfl rfl)) (hG _ (gk ck_1 25 rfl rfl)) (hG _ (gk ck_1 26 rfl rfl)) rfl (by rw [hml]; exact hl.1) rfl (show decode prog_1_method_1_code 1 = .ok (.invokespecial 1, 3) by decide +kernel) (Nat.le_of_ble_eq_true rfl) (Nat.le_of_ble_eq_true rfl) ?_
  refine W.eq (g2 := F0 m 4 ls []) rfl ?_
  refine lv_aload_n hx hb (show decode prog_1_method_1_code 4 = .ok (.aload_n 0, 1) by decide +kernel) rfl (lv_at hl 0 rfl) ?_
  refine k_new hx hb hG inw7 tyX7 tyX7_ok hown (hG _ (gk ck_1 27 rfl rfl)) (hG _ (gk ck_1 28 rfl rfl)) (hG _ (gk ck_1 2 rfl rfl)) hK hP hD hS hA (ci := 7) rfl (fs := [.null, .int 0]) (by decide) (Nat.le_of_ble_eq_true rfl) (Nat.le_of_ble_eq_true rfl) hz0 (show decode prog_1_method_1_code 5 = .ok (.new 7, 3) by decide +kernel) (fun H1 z1 hP1 hD1 hS1 => ?_)
  clear hz0
  have hz0 : H1.size = h0 + 2 := z1
  clear z1
  have hP := hP1
  have hD := hD1
  have hS := hS1
  clear hP1 hD1 hS1
  refine lv_dup hx hb (show decode prog_1_method_1_code 8 = .ok (.dup, 1) by decide +kernel) rfl ?_
  refine k_initN (host := "EnemyLetters") (w1 := wwTa cA (h0 + 1) (h0 + 2)) (ws := (h0, .inr (8, [.null, .null, .null, .null, .null, .null, .null, .null, .null, .null])) :: ([])) (As := []) (rest := [.ref (h0 + 1), .ref h0]) ⟨hx, hb, hml, hown, hG⟩ (m_Ta l D cA (h0 + 1) (h0 + 2)) ⟨va_cnB 0 hG (gw_in kcd_Ta) rfl rfl rfl (hzv.1 _ (List.mem_of_getElem? (i := 0) rfl)) (hG _ (gk ck_1 2 rfl rfl)) ⟨by decide, by decide, by decide +kernel⟩ ⟨Nat.le_of_ble_eq_true rfl, Nat.le_of_ble_eq_true rfl⟩, rfl, hG _ (gk ck_1 30 rfl rfl)⟩ hK hzv hP hD hS hA hz0 rfl hl.1 (Nat.le_of_ble_eq_true rfl) (show decode prog_1_method_1_code 9 = .ok (.invokespecial 9, 3) by decide +kernel) ⟨Nat.le_of_ble_eq_true rfl, Nat.le_of_ble_eq_true rfl⟩ (fun H1 locs1 z1 hP1 hD1 hS1 => ?_)
  clear hz0
  have hz0 : H1.size = h0 + 3 := z1
  clear z1
  have hP : va_P D vwCl ((h0, .inr (8, [.null, .null, .null, .null, .null, .null, .null, .null, .null, .null])) :: (wwTa cA (h0 + 1) (h0 + 2))) H1 := hP1
  have hD : va_D A ((h0, .inr (8, [.null, .null, .null, .null, .null, .null, .null, .null, .null, .null])) :: (wwTa cA (h0 + 1) (h0 + 2))) := hD1
  have hS := hS1
  clear hP1 hD1 hS1
  refine k_put hx hb hG inw8 tyX8 tyX8_ok nmX8 hown hK hP hD hS 0 rfl rfl 0 (by decide) (hG _ (gk ck_2 176 rfl rfl)) (fun _ h => h) (Or.inr ⟨rfl, hin, rfl⟩) (tyX8_ok 0 (by decide)) rfl rfl (Nat.le_of_ble_eq_true rfl) hz0 (show decode prog_1_method_1_code 12 = .ok (.putfield 10, 3) by decide +kernel) (fun H1 locs1 z1 hP1 hD1 hS1 => ?_)
  clear hz0
  have hz0 : H1.size = h0 + 3 := z1
  clear z1
  have hP : va_P D vwCl ((h0, .inr (8, [.ref (h0 + 1), .null, .null, .null, .null, .null, .null, .null, .null, .null])) :: (wwTa cA (h0 + 1) (h0 + 2))) H1 := hP1
  have hD : va_D A ((h0, .inr (8, [.ref (h0 + 1), .null, .null, .null, .null, .null, .null, .null, .null, .null])) :: (wwTa cA (h0 + 1) (h0 + 2))) := hD1
  have hS := hS1
  clear hP1 hD1 hS1
  refine lv_aload_n hx hb (show decode prog_1_method_1_code 15 = .ok (.aload_n 0, 1) by decide +kernel) rfl (lv_at hl 0 rfl) ?_
  refine k_new hx hb hG inw4 tyX4 tyX4_ok hown (hG _ (gk ck_1 44 rfl rfl)) (hG _ (gk ck_1 45 rfl rfl)) (hG _ (gk ck_1 3 rfl rfl)) hK hP hD hS hA (ci := 4) rfl (fs := [.null, .null, .int 0, .int 0, .int 0, .int 0, .int 0, .int 0, .int 0, .int 0, .int 0, .int 0]) (by decide) (Nat.le_of_ble_eq_true rfl) (Nat.le_of_ble_eq_true rfl) hz0 (show decode prog_1_method_1_code 16 = .ok (.new 16, 3) by decide +kernel) (fun H1 z1 hP1 hD1 hS1 => ?_)
  clear hz0
  have hz0 : H1.size = h0 + 4 := z1
  clear z1
  have hP := hP1
  have hD := hD1
  have hS := hS1
  clear hP1 hD1 hS1
  refine lv_dup hx hb (show decode prog_1_method_1_code 19 = .ok (.dup, 1) by decide +kernel) rfl ?_
  refine lv_aload_n hx hb (show decode prog_1_method_1_code 20 = .ok (.aload_n 0, 1) by decide +kernel) rfl (lv_at hl 0 rfl) ?_
  refine va_get hx hb hG inw8 hown hK hP 0 rfl rfl 0 (by decide) (hG _ (gk ck_2 176 rfl rfl)) (fun _ h => h) (v := .ref (h0 + 1)) rfl (show decode prog_1_method_1_code 21 = .ok (.getfield 10, 3) by decide +kernel) ?_
  refine k_init (w1 := wwRe cA (h0 + 3) (h0 + 4) ((h0 + 1))) (ws := (h0, .inr (8, [.ref (h0 + 1), .null, .null, .null, .null, .null, .null, .null, .null, .null])) :: (wwTa cA (h0 + 1) (h0 + 2))) (As := [.ref (h0 + 1)]) (rest := [.ref (h0 + 3), .ref h0]) ⟨hx, hb, hml, hown, hG⟩ (m_Re l D cA (h0 + 3) (h0 + 4) ((h0 + 1))) ⟨callB_of 1 hG (gw_in kcd_Re) rfl rfl rfl (hG _ (gk ck_1 3 rfl rfl)) (hG _ (gk ck_1 46 rfl rfl)) ⟨by decide, by decide, by decide +kernel⟩ ⟨Nat.le_of_ble_eq_true rfl, Nat.le_of_ble_eq_true rfl⟩, rfl, hG _ (gk ck_1 47 rfl rfl)⟩ hK hzv hP hD hS hA hz0 rfl hl.1 (Nat.le_of_ble_eq_true rfl) (show decode prog_1_method_1_code 24 = .ok (.invokespecial 18, 3) by decide +kernel) ⟨Nat.le_of_ble_eq_true rfl, Nat.le_of_ble_eq_true rfl⟩ (fun H1 locs1 z1 hP1 hD1 hS1 => ?_)
  clear hz0
  have hz0 : H1.size = h0 + 19 := z1
  clear z1
  have hP : va_P D vwCl ((h0, .inr (8, [.ref (h0 + 1), .null, .null, .null, .null, .null, .null, .null, .null, .null])) :: ((wwTa cA (h0 + 1) (h0 + 2)) ++ wwRe cA (h0 + 3) (h0 + 4) ((h0 + 1)))) H1 := hP1
  have hD : va_D A ((h0, .inr (8, [.ref (h0 + 1), .null, .null, .null, .null, .null, .null, .null, .null, .null])) :: ((wwTa cA (h0 + 1) (h0 + 2)) ++ wwRe cA (h0 + 3) (h0 + 4) ((h0 + 1)))) := hD1
  have hS := hS1
  clear hP1 hD1 hS1
  refine k_put hx hb hG inw8 tyX8 tyX8_ok nmX8 hown hK hP hD hS 0 rfl rfl 1 (by decide) (hG _ (gk ck_2 177 rfl rfl)) (fun _ h => h) (Or.inr ⟨rfl, hin, rfl⟩) (tyX8_ok 1 (by decide)) rfl rfl (Nat.le_of_ble_eq_true rfl) hz0 (show decode prog_1_method_1_code 27 = .ok (.putfield 21, 3) by decide +kernel) (fun H1 locs1 z1 hP1 hD1 hS1 => ?_)
  clear hz0
  have hz0 : H1.size = h0 + 19 := z1
  clear z1
  have hP : va_P D vwCl ((h0, .inr (8, [.ref (h0 + 1), .ref (h0 + 3), .null, .null, .null, .null, .null, .null, .null, .null])) :: ((wwTa cA (h0 + 1) (h0 + 2)) ++ wwRe cA (h0 + 3) (h0 + 4) ((h0 + 1)))) H1 := hP1
  have hD : va_D A ((h0, .inr (8, [.ref (h0 + 1), .ref (h0 + 3), .null, .null, .null, .null, .null, .null, .null, .null])) :: ((wwTa cA (h0 + 1) (h0 + 2)) ++ wwRe cA (h0 + 3) (h0 + 4) ((h0 + 1)))) := hD1
  have hS := hS1
  clear hP1 hD1 hS1
  refine lv_aload_n hx hb (show decode prog_1_method_1_code 30 = .ok (.aload_n 0, 1) by decide +kernel) rfl (lv_at hl 0 rfl) ?_
  refine k_new hx hb hG inw3 tyX3 tyX3_ok hown (hG _ (gk ck_1 205 rfl rfl)) (hG _ (gk ck_1 51 rfl rfl)) (hG _ (gk ck_1 4 rfl rfl)) hK hP hD hS hA (ci := 3) rfl (fs := [.int 0, .int 0, .int 0, .int 0, .int 0, .int 0, .int 0, .null, .null, .null, .null, .null, .null]) (by decide) (Nat.le_of_ble_eq_true rfl) (Nat.le_of_ble_eq_true rfl) hz0 (show decode prog_1_method_1_code 31 = .ok (.new 25, 3) by decide +kernel) (fun H1 z1 hP1 hD1 hS1 => ?_)
  clear hz0
  have hz0 : H1.size = h0 + 20 := z1
  clear z1
  have hP := hP1
  have hD := hD1
  have hS := hS1
  clear hP1 hD1 hS1
  refine lv_dup hx hb (show decode prog_1_method_1_code 34 = .ok (.dup, 1) by decide +kernel) rfl ?_
  refine k_initN (host := "EnemyLetters") (w1 := wwLa cA (h0 + 19) (h0 + 20)) (ws := (h0, .inr (8, [.ref (h0 + 1), .ref (h0 + 3), .null, .null, .null, .null, .null, .null, .null, .null])) :: ((wwTa cA (h0 + 1) (h0 + 2)) ++ wwRe cA (h0 + 3) (h0 + 4) ((h0 + 1)))) (As := []) (rest := [.ref (h0 + 19), .ref h0]) ⟨hx, hb, hml, hown, hG⟩ (m_La l D cA (h0 + 19) (h0 + 20)) ⟨va_cnB 0 hG (gw_in kcd_La) rfl rfl rfl (hzv.1 _ (List.mem_of_getElem? (i := 2) rfl)) (hG _ (gk ck_1 4 rfl rfl)) ⟨by decide, by decide, by decide +kernel⟩ ⟨Nat.le_of_ble_eq_true rfl, Nat.le_of_ble_eq_true rfl⟩, rfl, hG _ (gk ck_1 53 rfl rfl)⟩ hK hzv hP hD hS hA hz0 rfl hl.1 (Nat.le_of_ble_eq_true rfl) (show decode prog_1_method_1_code 35 = .ok (.invokespecial 27, 3) by decide +kernel) ⟨Nat.le_of_ble_eq_true rfl, Nat.le_of_ble_eq_true rfl⟩ (fun H1 locs1 z1 hP1 hD1 hS1 => ?_)
  clear hz0
  have hz0 : H1.size = h0 + 34 := z1
  clear z1
  have hP : va_P D vwCl ((h0, .inr (8, [.ref (h0 + 1), .ref (h0 + 3), .null, .null, .null, .null, .null, .null, .null, .null])) :: (((wwTa cA (h0 + 1) (h0 + 2)) ++ wwRe cA (h0 + 3) (h0 + 4) ((h0 + 1))) ++ wwLa cA (h0 + 19) (h0 + 20))) H1 := hP1
  have hD : va_D A ((h0, .inr (8, [.ref (h0 + 1), .ref (h0 + 3), .null, .null, .null, .null, .null, .null, .null, .null])) :: (((wwTa cA (h0 + 1) (h0 + 2)) ++ wwRe cA (h0 + 3) (h0 + 4) ((h0 + 1))) ++ wwLa cA (h0 + 19) (h0 + 20))) := hD1
  have hS := hS1
  clear hP1 hD1 hS1
  refine k_put hx hb hG inw8 tyX8 tyX8_ok nmX8 hown hK hP hD hS 0 rfl rfl 2 (by decide) (hG _ (gk ck_2 178 rfl rfl)) (fun _ h => h) (Or.inr ⟨rfl, hin, rfl⟩) (tyX8_ok 2 (by decide)) rfl rfl (Nat.le_of_ble_eq_true rfl) hz0 (show decode prog_1_method_1_code 38 = .ok (.putfield 28, 3) by decide +kernel) (fun H1 locs1 z1 hP1 hD1 hS1 => ?_)
  clear hz0
  have hz0 : H1.size = h0 + 34 := z1
  clear z1
  have hP : va_P D vwCl ((h0, .inr (8, [.ref (h0 + 1), .ref (h0 + 3), .ref (h0 + 19), .null, .null, .null, .null, .null, .null, .null])) :: (((wwTa cA (h0 + 1) (h0 + 2)) ++ wwRe cA (h0 + 3) (h0 + 4) ((h0 + 1))) ++ wwLa cA (h0 + 19) (h0 + 20))) H1 := hP1
  have hD : va_D A ((h0, .inr (8, [.ref (h0 + 1), .ref (h0 + 3), .ref (h0 + 19), .null, .null, .null, .null, .null, .null, .null])) :: (((wwTa cA (h0 + 1) (h0 + 2)) ++ wwRe cA (h0 + 3) (h0 + 4) ((h0 + 1))) ++ wwLa cA (h0 + 19) (h0 + 20))) := hD1
  have hS := hS1
  clear hP1 hD1 hS1
  refine lv_aload_n hx hb (show decode prog_1_method_1_code 41 = .ok (.aload_n 0, 1) by decide +kernel) rfl (lv_at hl 0 rfl) ?_
  refine k_new hx hb hG inw1 tyX1 tyX1_ok hown (hG _ (gk ck_1 207 rfl rfl)) (hG _ (gk ck_1 208 rfl rfl)) (hG _ (gk ck_1 6 rfl rfl)) hK hP hD hS hA (ci := 1) rfl (fs := [.null, .int 0, .int 0, .int 0, .null, .null, .null, .null, .null]) (by decide) (Nat.le_of_ble_eq_true rfl) (Nat.le_of_ble_eq_true rfl) hz0 (show decode prog_1_method_1_code 42 = .ok (.new 32, 3) by decide +kernel) (fun H1 z1 hP1 hD1 hS1 => ?_)
  clear hz0
  have hz0 : H1.size = h0 + 35 := z1
  clear z1
  have hP := hP1
  have hD := hD1
  have hS := hS1
  clear hP1 hD1 hS1
  refine lv_dup hx hb (show decode prog_1_method_1_code 45 = .ok (.dup, 1) by decide +kernel) rfl ?_
  refine lv_aload_n hx hb (show decode prog_1_method_1_code 46 = .ok (.aload_n 0, 1) by decide +kernel) rfl (lv_at hl 0 rfl) ?_
  refine va_get hx hb hG inw8 hown hK hP 0 rfl rfl 2 (by decide) (hG _ (gk ck_2 178 rfl rfl)) (fun _ h => h) (v := .ref (h0 + 19)) rfl (show decode prog_1_method_1_code 47 = .ok (.getfield 28, 3) by decide +kernel) ?_
  refine k_init (w1 := wwCo cA (h0 + 34) (h0 + 35) ((h0 + 19))) (ws := (h0, .inr (8, [.ref (h0 + 1), .ref (h0 + 3), .ref (h0 + 19), .null, .null, .null, .null, .null, .null, .null])) :: (((wwTa cA (h0 + 1) (h0 + 2)) ++ wwRe cA (h0 + 3) (h0 + 4) ((h0 + 1))) ++ wwLa cA (h0 + 19) (h0 + 20))) (As := [.ref (h0 + 19)]) (rest := [.ref (h0 + 34), .ref h0]) ⟨hx, hb, hml, hown, hG⟩ (m_Co l D cA (h0 + 34) (h0 + 35) ((h0 + 19))) ⟨callB_of 1 hG (gw_in kcd_Co) rfl rfl rfl (hG _ (gk ck_1 6 rfl rfl)) (hG _ (gk ck_1 209 rfl rfl)) ⟨by decide, by decide, by decide +kernel⟩ ⟨Nat.le_of_ble_eq_true rfl, Nat.le_of_ble_eq_true rfl⟩, rfl, hG _ (gk ck_1 210 rfl rfl)⟩ hK hzv hP hD hS hA hz0 rfl hl.1 (Nat.le_of_ble_eq_true rfl) (show decode prog_1_method_1_code 50 = .ok (.invokespecial 34, 3) by decide +kernel) ⟨Nat.le_of_ble_eq_true rfl, Nat.le_of_ble_eq_true rfl⟩ (fun H1 locs1 z1 hP1 hD1 hS1 => ?_)
  clear hz0
  have hz0 : H1.size = h0 + 40 := z1
  clear z1
  have hP : va_P D vwCl ((h0, .inr (8, [.ref (h0 + 1), .ref (h0 + 3), .ref (h0 + 19), .null, .null, .null, .null, .null, .null, .null])) :: ((((wwTa cA (h0 + 1) (h0 + 2)) ++ wwRe cA (h0 + 3) (h0 + 4) ((h0 + 1))) ++ wwLa cA (h0 + 19) (h0 + 20)) ++ wwCo cA (h0 + 34) (h0 + 35) ((h0 + 19)))) H1 := hP1
  have hD : va_D A ((h0, .inr (8, [.ref (h0 + 1), .ref (h0 + 3), .ref (h0 + 19), .null, .null, .null, .null, .null, .null, .null])) :: ((((wwTa cA (h0 + 1) (h0 + 2)) ++ wwRe cA (h0 + 3) (h0 + 4) ((h0 + 1))) ++ wwLa cA (h0 + 19) (h0 + 20)) ++ wwCo cA (h0 + 34) (h0 + 35) ((h0 + 19)))) := hD1
  have hS := hS1
  clear hP1 hD1 hS1
  refine k_put hx hb hG inw8 tyX8 tyX8_ok nmX8 hown hK hP hD hS 0 rfl rfl 3 (by decide) (hG _ (gk ck_2 179 rfl rfl)) (fun _ h => h) (Or.inr ⟨rfl, hin, rfl⟩) (tyX8_ok 3 (by decide)) rfl rfl (Nat.le_of_ble_eq_true rfl) hz0 (show decode prog_1_method_1_code 53 = .ok (.putfield 37, 3) by decide +kernel) (fun H1 locs1 z1 hP1 hD1 hS1 => ?_)
  clear hz0
  have hz0 : H1.size = h0 + 40 := z1
  clear z1
  have hP : va_P D vwCl ((h0, .inr (8, [.ref (h0 + 1), .ref (h0 + 3), .ref (h0 + 19), .ref (h0 + 34), .null, .null, .null, .null, .null, .null])) :: ((((wwTa cA (h0 + 1) (h0 + 2)) ++ wwRe cA (h0 + 3) (h0 + 4) ((h0 + 1))) ++ wwLa cA (h0 + 19) (h0 + 20)) ++ wwCo cA (h0 + 34) (h0 + 35) ((h0 + 19)))) H1 := hP1
  have hD : va_D A ((h0, .inr (8, [.ref (h0 + 1), .ref (h0 + 3), .ref (h0 + 19), .ref (h0 + 34), .null, .null, .null, .null, .null, .null])) :: ((((wwTa cA (h0 + 1) (h0 + 2)) ++ wwRe cA (h0 + 3) (h0 + 4) ((h0 + 1))) ++ wwLa cA (h0 + 19) (h0 + 20)) ++ wwCo cA (h0 + 34) (h0 + 35) ((h0 + 19)))) := hD1
  have hS := hS1
  clear hP1 hD1 hS1
  refine lv_aload_n hx hb (show decode prog_1_method_1_code 56 = .ok (.aload_n 0, 1) by decide +kernel) rfl (lv_at hl 0 rfl) ?_
  refine k_new hx hb hG inw1 tyX1 tyX1_ok hown (hG _ (gk ck_1 207 rfl rfl)) (hG _ (gk ck_1 208 rfl rfl)) (hG _ (gk ck_1 6 rfl rfl)) hK hP hD hS hA (ci := 1) rfl (fs := [.null, .int 0, .int 0, .int 0, .null, .null, .null, .null, .null]) (by decide) (Nat.le_of_ble_eq_true rfl) (Nat.le_of_ble_eq_true rfl) hz0 (show decode prog_1_method_1_code 57 = .ok (.new 32, 3) by decide +kernel) (fun H1 z1 hP1 hD1 hS1 => ?_)
  clear hz0
  have hz0 : H1.size = h0 + 41 := z1
  clear z1
  have hP := hP1
  have hD := hD1
  have hS := hS1
  clear hP1 hD1 hS1
  refine lv_dup hx hb (show decode prog_1_method_1_code 60 = .ok (.dup, 1) by decide +kernel) rfl ?_
  refine lv_aload_n hx hb (show decode prog_1_method_1_code 61 = .ok (.aload_n 0, 1) by decide +kernel) rfl (lv_at hl 0 rfl) ?_
  refine va_get hx hb hG inw8 hown hK hP 0 rfl rfl 2 (by decide) (hG _ (gk ck_2 178 rfl rfl)) (fun _ h => h) (v := .ref (h0 + 19)) rfl (show decode prog_1_method_1_code 62 = .ok (.getfield 28, 3) by decide +kernel) ?_
  refine k_init (w1 := wwCo cA (h0 + 40) (h0 + 41) ((h0 + 19))) (ws := (h0, .inr (8, [.ref (h0 + 1), .ref (h0 + 3), .ref (h0 + 19), .ref (h0 + 34), .null, .null, .null, .null, .null, .null])) :: ((((wwTa cA (h0 + 1) (h0 + 2)) ++ wwRe cA (h0 + 3) (h0 + 4) ((h0 + 1))) ++ wwLa cA (h0 + 19) (h0 + 20)) ++ wwCo cA (h0 + 34) (h0 + 35) ((h0 + 19)))) (As := [.ref (h0 + 19)]) (rest := [.ref (h0 + 40), .ref h0]) ⟨hx, hb, hml, hown, hG⟩ (m_Co l D cA (h0 + 40) (h0 + 41) ((h0 + 19))) ⟨callB_of 1 hG (gw_in kcd_Co) rfl rfl rfl (hG _ (gk ck_1 6 rfl rfl)) (hG _ (gk ck_1 209 rfl rfl)) ⟨by decide, by decide, by decide +kernel⟩ ⟨Nat.le_of_ble_eq_true rfl, Nat.le_of_ble_eq_true rfl⟩, rfl, hG _ (gk ck_1 210 rfl rfl)⟩ hK hzv hP hD hS hA hz0 rfl hl.1 (Nat.le_of_ble_eq_true rfl) (show decode prog_1_method_1_code 65 = .ok (.invokespecial 34, 3) by decide +kernel) ⟨Nat.le_of_ble_eq_true rfl, Nat.le_of_ble_eq_true rfl⟩ (fun H1 locs1 z1 hP1 hD1 hS1 => ?_)
  clear hz0
  have hz0 : H1.size = h0 + 46 := z1
  clear z1
  have hP : va_P D vwCl ((h0, .inr (8, [.ref (h0 + 1), .ref (h0 + 3), .ref (h0 + 19), .ref (h0 + 34), .null, .null, .null, .null, .null, .null])) :: (((((wwTa cA (h0 + 1) (h0 + 2)) ++ wwRe cA (h0 + 3) (h0 + 4) ((h0 + 1))) ++ wwLa cA (h0 + 19) (h0 + 20)) ++ wwCo cA (h0 + 34) (h0 + 35) ((h0 + 19))) ++ wwCo cA (h0 + 40) (h0 + 41) ((h0 + 19)))) H1 := hP1
  have hD : va_D A ((h0, .inr (8, [.ref (h0 + 1), .ref (h0 + 3), .ref (h0 + 19), .ref (h0 + 34), .null, .null, .null, .null, .null, .null])) :: (((((wwTa cA (h0 + 1) (h0 + 2)) ++ wwRe cA (h0 + 3) (h0 + 4) ((h0 + 1))) ++ wwLa cA (h0 + 19) (h0 + 20)) ++ wwCo cA (h0 + 34) (h0 + 35) ((h0 + 19))) ++ wwCo cA (h0 + 40) (h0 + 41) ((h0 + 19)))) := hD1
  have hS := hS1
  clear hP1 hD1 hS1
  refine k_put hx hb hG inw8 tyX8 tyX8_ok nmX8 hown hK hP hD hS 0 rfl rfl 4 (by decide) (hG _ (gk ck_2 180 rfl rfl)) (fun _ h => h) (Or.inr ⟨rfl, hin, rfl⟩) (tyX8_ok 4 (by decide)) rfl rfl (Nat.le_of_ble_eq_true rfl) hz0 (show decode prog_1_method_1_code 68 = .ok (.putfield 41, 3) by decide +kernel) (fun H1 locs1 z1 hP1 hD1 hS1 => ?_)
  clear hz0
  have hz0 : H1.size = h0 + 46 := z1
  clear z1
  have hP : va_P D vwCl ((h0, .inr (8, [.ref (h0 + 1), .ref (h0 + 3), .ref (h0 + 19), .ref (h0 + 34), .ref (h0 + 40), .null, .null, .null, .null, .null])) :: (((((wwTa cA (h0 + 1) (h0 + 2)) ++ wwRe cA (h0 + 3) (h0 + 4) ((h0 + 1))) ++ wwLa cA (h0 + 19) (h0 + 20)) ++ wwCo cA (h0 + 34) (h0 + 35) ((h0 + 19))) ++ wwCo cA (h0 + 40) (h0 + 41) ((h0 + 19)))) H1 := hP1
  have hD : va_D A ((h0, .inr (8, [.ref (h0 + 1), .ref (h0 + 3), .ref (h0 + 19), .ref (h0 + 34), .ref (h0 + 40), .null, .null, .null, .null, .null])) :: (((((wwTa cA (h0 + 1) (h0 + 2)) ++ wwRe cA (h0 + 3) (h0 + 4) ((h0 + 1))) ++ wwLa cA (h0 + 19) (h0 + 20)) ++ wwCo cA (h0 + 34) (h0 + 35) ((h0 + 19))) ++ wwCo cA (h0 + 40) (h0 + 41) ((h0 + 19)))) := hD1
  have hS := hS1
  clear hP1 hD1 hS1
  refine lv_aload_n hx hb (show decode prog_1_method_1_code 71 = .ok (.aload_n 0, 1) by decide +kernel) rfl (lv_at hl 0 rfl) ?_
  refine k_new hx hb hG inw0 tyX0 tyX0_ok hown (hG _ (gk ck_2 9 rfl rfl)) (hG _ (gk ck_2 10 rfl rfl)) (hG _ (gk ck_1 7 rfl rfl)) hK hP hD hS hA (ci := 0) rfl (fs := [.null, .null, .null, .null, .int 0, .int 0]) (by decide) (Nat.le_of_ble_eq_true rfl) (Nat.le_of_ble_eq_true rfl) hz0 (show decode prog_1_method_1_code 72 = .ok (.new 44, 3) by decide +kernel) (fun H1 z1 hP1 hD1 hS1 => ?_)
  clear hz0
  have hz0 : H1.size = h0 + 47 := z1
  clear z1
  have hP := hP1
  have hD := hD1
  have hS := hS1
  clear hP1 hD1 hS1
  refine lv_dup hx hb (show decode prog_1_method_1_code 75 = .ok (.dup, 1) by decide +kernel) rfl ?_
  refine lv_aload_n hx hb (show decode prog_1_method_1_code 76 = .ok (.aload_n 0, 1) by decide +kernel) rfl (lv_at hl 0 rfl) ?_
  refine va_get hx hb hG inw8 hown hK hP 0 rfl rfl 2 (by decide) (hG _ (gk ck_2 178 rfl rfl)) (fun _ h => h) (v := .ref (h0 + 19)) rfl (show decode prog_1_method_1_code 77 = .ok (.getfield 28, 3) by decide +kernel) ?_
  refine lv_aload_n hx hb (show decode prog_1_method_1_code 80 = .ok (.aload_n 0, 1) by decide +kernel) rfl (lv_at hl 0 rfl) ?_
  refine va_get hx hb hG inw8 hown hK hP 0 rfl rfl 3 (by decide) (hG _ (gk ck_2 179 rfl rfl)) (fun _ h => h) (v := .ref (h0 + 34)) rfl (show decode prog_1_method_1_code 81 = .ok (.getfield 37, 3) by decide +kernel) ?_
  refine k_init (w1 := wwCh cA (h0 + 46) (h0 + 47) ((h0 + 19)) ((h0 + 34))) (ws := (h0, .inr (8, [.ref (h0 + 1), .ref (h0 + 3), .ref (h0 + 19), .ref (h0 + 34), .ref (h0 + 40), .null, .null, .null, .null, .null])) :: (((((wwTa cA (h0 + 1) (h0 + 2)) ++ wwRe cA (h0 + 3) (h0 + 4) ((h0 + 1))) ++ wwLa cA (h0 + 19) (h0 + 20)) ++ wwCo cA (h0 + 34) (h0 + 35) ((h0 + 19))) ++ wwCo cA (h0 + 40) (h0 + 41) ((h0 + 19)))) (As := [.ref (h0 + 19), .ref (h0 + 34)]) (rest := [.ref (h0 + 46), .ref h0]) ⟨hx, hb, hml, hown, hG⟩ (m_Ch l D cA (h0 + 46) (h0 + 47) ((h0 + 19)) ((h0 + 34))) ⟨callB_of 2 hG (gw_in kcd_Ch) rfl rfl rfl (hG _ (gk ck_1 7 rfl rfl)) (hG _ (gk ck_2 11 rfl rfl)) ⟨by decide, by decide, by decide +kernel⟩ ⟨Nat.le_of_ble_eq_true rfl, Nat.le_of_ble_eq_true rfl⟩, rfl, hG _ (gk ck_2 12 rfl rfl)⟩ hK hzv hP hD hS hA hz0 rfl hl.1 (Nat.le_of_ble_eq_true rfl) (show decode prog_1_method_1_code 84 = .ok (.invokespecial 46, 3) by decide +kernel) ⟨Nat.le_of_ble_eq_true rfl, Nat.le_of_ble_eq_true rfl⟩ (fun H1 locs1 z1 hP1 hD1 hS1 => ?_)
  clear hz0
  have hz0 : H1.size = h0 + 49 := z1
  clear z1
  have hP : va_P D vwCl ((h0, .inr (8, [.ref (h0 + 1), .ref (h0 + 3), .ref (h0 + 19), .ref (h0 + 34), .ref (h0 + 40), .null, .null, .null, .null, .null])) :: ((((((wwTa cA (h0 + 1) (h0 + 2)) ++ wwRe cA (h0 + 3) (h0 + 4) ((h0 + 1))) ++ wwLa cA (h0 + 19) (h0 + 20)) ++ wwCo cA (h0 + 34) (h0 + 35) ((h0 + 19))) ++ wwCo cA (h0 + 40) (h0 + 41) ((h0 + 19))) ++ wwCh cA (h0 + 46) (h0 + 47) ((h0 + 19)) ((h0 + 34)))) H1 := hP1
  have hD : va_D A ((h0, .inr (8, [.ref (h0 + 1), .ref (h0 + 3), .ref (h0 + 19), .ref (h0 + 34), .ref (h0 + 40), .null, .null, .null, .null, .null])) :: ((((((wwTa cA (h0 + 1) (h0 + 2)) ++ wwRe cA (h0 + 3) (h0 + 4) ((h0 + 1))) ++ wwLa cA (h0 + 19) (h0 + 20)) ++ wwCo cA (h0 + 34) (h0 + 35) ((h0 + 19))) ++ wwCo cA (h0 + 40) (h0 + 41) ((h0 + 19))) ++ wwCh cA (h0 + 46) (h0 + 47) ((h0 + 19)) ((h0 + 34)))) := hD1
  have hS := hS1
  clear hP1 hD1 hS1
  refine k_put hx hb hG inw8 tyX8 tyX8_ok nmX8 hown hK hP hD hS 0 rfl rfl 5 (by decide) (hG _ (gk ck_2 181 rfl rfl)) (fun _ h => h) (Or.inr ⟨rfl, hin, rfl⟩) (tyX8_ok 5 (by decide)) rfl rfl (Nat.le_of_ble_eq_true rfl) hz0 (show decode prog_1_method_1_code 87 = .ok (.putfield 49, 3) by decide +kernel) (fun H1 locs1 z1 hP1 hD1 hS1 => ?_)
  clear hz0
  have hz0 : H1.size = h0 + 49 := z1
  clear z1
  have hP : va_P D vwCl ((h0, .inr (8, [.ref (h0 + 1), .ref (h0 + 3), .ref (h0 + 19), .ref (h0 + 34), .ref (h0 + 40), .ref (h0 + 46), .null, .null, .null, .null])) :: ((((((wwTa cA (h0 + 1) (h0 + 2)) ++ wwRe cA (h0 + 3) (h0 + 4) ((h0 + 1))) ++ wwLa cA (h0 + 19) (h0 + 20)) ++ wwCo cA (h0 + 34) (h0 + 35) ((h0 + 19))) ++ wwCo cA (h0 + 40) (h0 + 41) ((h0 + 19))) ++ wwCh cA (h0 + 46) (h0 + 47) ((h0 + 19)) ((h0 + 34)))) H1 := hP1
  have hD : va_D A ((h0, .inr (8, [.ref (h0 + 1), .ref (h0 + 3), .ref (h0 + 19), .ref (h0 + 34), .ref (h0 + 40), .ref (h0 + 46), .null, .null, .null, .null])) :: ((((((wwTa cA (h0 + 1) (h0 + 2)) ++ wwRe cA (h0 + 3) (h0 + 4) ((h0 + 1))) ++ wwLa cA (h0 + 19) (h0 + 20)) ++ wwCo cA (h0 + 34) (h0 + 35) ((h0 + 19))) ++ wwCo cA (h0 + 40) (h0 + 41) ((h0 + 19))) ++ wwCh cA (h0 + 46) (h0 + 47) ((h0 + 19)) ((h0 + 34)))) := hD1
  have hS := hS1
  clear hP1 hD1 hS1
  refine lv_aload_n hx hb (show decode prog_1_method_1_code 90 = .ok (.aload_n 0, 1) by decide +kernel) rfl (lv_at hl 0 rfl) ?_
  refine k_new hx hb hG inw6 tyX6 tyX6_ok hown (hG _ (gk ck_2 37 rfl rfl)) (hG _ (gk ck_2 38 rfl rfl)) (hG _ (gk ck_1 8 rfl rfl)) hK hP hD hS hA (ci := 6) rfl (fs := [.null, .null, .null]) (by decide) (Nat.le_of_ble_eq_true rfl) (Nat.le_of_ble_eq_true rfl) hz0 (show decode prog_1_method_1_code 91 = .ok (.new 53, 3) by decide +kernel) (fun H1 z1 hP1 hD1 hS1 => ?_)
  clear hz0
  have hz0 : H1.size = h0 + 50 := z1
  clear z1
  have hP := hP1
  have hD := hD1
  have hS := hS1
  clear hP1 hD1 hS1
  refine lv_dup hx hb (show decode prog_1_method_1_code 94 = .ok (.dup, 1) by decide +kernel) rfl ?_
  refine k_initN (host := "EnemyLetters") (w1 := wwSl cA (h0 + 49) (h0 + 50)) (ws := (h0, .inr (8, [.ref (h0 + 1), .ref (h0 + 3), .ref (h0 + 19), .ref (h0 + 34), .ref (h0 + 40), .ref (h0 + 46), .null, .null, .null, .null])) :: ((((((wwTa cA (h0 + 1) (h0 + 2)) ++ wwRe cA (h0 + 3) (h0 + 4) ((h0 + 1))) ++ wwLa cA (h0 + 19) (h0 + 20)) ++ wwCo cA (h0 + 34) (h0 + 35) ((h0 + 19))) ++ wwCo cA (h0 + 40) (h0 + 41) ((h0 + 19))) ++ wwCh cA (h0 + 46) (h0 + 47) ((h0 + 19)) ((h0 + 34)))) (As := []) (rest := [.ref (h0 + 49), .ref h0]) ⟨hx, hb, hml, hown, hG⟩ (m_Sl l D cA (h0 + 49) (h0 + 50)) ⟨va_cnB 0 hG (gw_in kcd_Sl) rfl rfl rfl (hzv.1 _ (List.mem_of_getElem? (i := 3) rfl)) (hG _ (gk ck_1 8 rfl rfl)) ⟨by decide, by decide, by decide +kernel⟩ ⟨Nat.le_of_ble_eq_true rfl, Nat.le_of_ble_eq_true rfl⟩, rfl, hG _ (gk ck_2 40 rfl rfl)⟩ hK hzv hP hD hS hA hz0 rfl hl.1 (Nat.le_of_ble_eq_true rfl) (show decode prog_1_method_1_code 95 = .ok (.invokespecial 55, 3) by decide +kernel) ⟨Nat.le_of_ble_eq_true rfl, Nat.le_of_ble_eq_true rfl⟩ (fun H1 locs1 z1 hP1 hD1 hS1 => ?_)
  clear hz0
  have hz0 : H1.size = h0 + 57 := z1
  clear z1
  have hP : va_P D vwCl ((h0, .inr (8, [.ref (h0 + 1), .ref (h0 + 3), .ref (h0 + 19), .ref (h0 + 34), .ref (h0 + 40), .ref (h0 + 46), .null, .null, .null, .null])) :: (((((((wwTa cA (h0 + 1) (h0 + 2)) ++ wwRe cA (h0 + 3) (h0 + 4) ((h0 + 1))) ++ wwLa cA (h0 + 19) (h0 + 20)) ++ wwCo cA (h0 + 34) (h0 + 35) ((h0 + 19))) ++ wwCo cA (h0 + 40) (h0 + 41) ((h0 + 19))) ++ wwCh cA (h0 + 46) (h0 + 47) ((h0 + 19)) ((h0 + 34))) ++ wwSl cA (h0 + 49) (h0 + 50))) H1 := hP1
  have hD : va_D A ((h0, .inr (8, [.ref (h0 + 1), .ref (h0 + 3), .ref (h0 + 19), .ref (h0 + 34), .ref (h0 + 40), .ref (h0 + 46), .null, .null, .null, .null])) :: (((((((wwTa cA (h0 + 1) (h0 + 2)) ++ wwRe cA (h0 + 3) (h0 + 4) ((h0 + 1))) ++ wwLa cA (h0 + 19) (h0 + 20)) ++ wwCo cA (h0 + 34) (h0 + 35) ((h0 + 19))) ++ wwCo cA (h0 + 40) (h0 + 41) ((h0 + 19))) ++ wwCh cA (h0 + 46) (h0 + 47) ((h0 + 19)) ((h0 + 34))) ++ wwSl cA (h0 + 49) (h0 + 50))) := hD1
  have hS := hS1
  clear hP1 hD1 hS1
  refine k_put hx hb hG inw8 tyX8 tyX8_ok nmX8 hown hK hP hD hS 0 rfl rfl 6 (by decide) (hG _ (gk ck_2 182 rfl rfl)) (fun _ h => h) (Or.inr ⟨rfl, hin, rfl⟩) (tyX8_ok 6 (by decide)) rfl rfl (Nat.le_of_ble_eq_true rfl) hz0 (show decode prog_1_method_1_code 98 = .ok (.putfield 56, 3) by decide +kernel) (fun H1 locs1 z1 hP1 hD1 hS1 => ?_)
  clear hz0
  have hz0 : H1.size = h0 + 57 := z1
  clear z1
  have hP : va_P D vwCl ((h0, .inr (8, [.ref (h0 + 1), .ref (h0 + 3), .ref (h0 + 19), .ref (h0 + 34), .ref (h0 + 40), .ref (h0 + 46), .ref (h0 + 49), .null, .null, .null])) :: (((((((wwTa cA (h0 + 1) (h0 + 2)) ++ wwRe cA (h0 + 3) (h0 + 4) ((h0 + 1))) ++ wwLa cA (h0 + 19) (h0 + 20)) ++ wwCo cA (h0 + 34) (h0 + 35) ((h0 + 19))) ++ wwCo cA (h0 + 40) (h0 + 41) ((h0 + 19))) ++ wwCh cA (h0 + 46) (h0 + 47) ((h0 + 19)) ((h0 + 34))) ++ wwSl cA (h0 + 49) (h0 + 50))) H1 := hP1
  have hD : va_D A ((h0, .inr (8, [.ref (h0 + 1), .ref (h0 + 3), .ref (h0 + 19), .ref (h0 + 34), .ref (h0 + 40), .ref (h0 + 46), .ref (h0 + 49), .null, .null, .null])) :: (((((((wwTa cA (h0 + 1) (h0 + 2)) ++ wwRe cA (h0 + 3) (h0 + 4) ((h0 + 1))) ++ wwLa cA (h0 + 19) (h0 + 20)) ++ wwCo cA (h0 + 34) (h0 + 35) ((h0 + 19))) ++ wwCo cA (h0 + 40) (h0 + 41) ((h0 + 19))) ++ wwCh cA (h0 + 46) (h0 + 47) ((h0 + 19)) ((h0 + 34))) ++ wwSl cA (h0 + 49) (h0 + 50))) := hD1
  have hS := hS1
  clear hP1 hD1 hS1
  refine lv_aload_n hx hb (show decode prog_1_method_1_code 101 = .ok (.aload_n 0, 1) by decide +kernel) rfl (lv_at hl 0 rfl) ?_
  refine k_new hx hb hG inw5 tyX5 tyX5_ok hown (hG _ (gk ck_2 60 rfl rfl)) (hG _ (gk ck_2 61 rfl rfl)) (hG _ (gk ck_1 9 rfl rfl)) hK hP hD hS hA (ci := 5) rfl (fs := [.null, .null, .null, .null, .int 0, .int 0, .int 0]) (by decide) (Nat.le_of_ble_eq_true rfl) (Nat.le_of_ble_eq_true rfl) hz0 (show decode prog_1_method_1_code 102 = .ok (.new 60, 3) by decide +kernel) (fun H1 z1 hP1 hD1 hS1 => ?_)
  clear hz0
  have hz0 : H1.size = h0 + 58 := z1
  clear z1
  have hP := hP1
  have hD := hD1
  have hS := hS1
  clear hP1 hD1 hS1
  refine lv_dup hx hb (show decode prog_1_method_1_code 105 = .ok (.dup, 1) by decide +kernel) rfl ?_
  refine lv_aload_n hx hb (show decode prog_1_method_1_code 106 = .ok (.aload_n 0, 1) by decide +kernel) rfl (lv_at hl 0 rfl) ?_
  refine va_get hx hb hG inw8 hown hK hP 0 rfl rfl 2 (by decide) (hG _ (gk ck_2 178 rfl rfl)) (fun _ h => h) (v := .ref (h0 + 19)) rfl (show decode prog_1_method_1_code 107 = .ok (.getfield 28, 3) by decide +kernel) ?_
  refine lv_aload_n hx hb (show decode prog_1_method_1_code 110 = .ok (.aload_n 0, 1) by decide +kernel) rfl (lv_at hl 0 rfl) ?_
  refine va_get hx hb hG inw8 hown hK hP 0 rfl rfl 4 (by decide) (hG _ (gk ck_2 180 rfl rfl)) (fun _ h => h) (v := .ref (h0 + 40)) rfl (show decode prog_1_method_1_code 111 = .ok (.getfield 41, 3) by decide +kernel) ?_
  refine lv_aload_n hx hb (show decode prog_1_method_1_code 114 = .ok (.aload_n 0, 1) by decide +kernel) rfl (lv_at hl 0 rfl) ?_
  refine va_get hx hb hG inw8 hown hK hP 0 rfl rfl 6 (by decide) (hG _ (gk ck_2 182 rfl rfl)) (fun _ h => h) (v := .ref (h0 + 49)) rfl (show decode prog_1_method_1_code 115 = .ok (.getfield 56, 3) by decide +kernel) ?_
  refine k_init (w1 := wwSi cA (h0 + 57) (h0 + 58) ((h0 + 19)) ((h0 + 40)) ((h0 + 49))) (ws := (h0, .inr (8, [.ref (h0 + 1), .ref (h0 + 3), .ref (h0 + 19), .ref (h0 + 34), .ref (h0 + 40), .ref (h0 + 46), .ref (h0 + 49), .null, .null, .null])) :: (((((((wwTa cA (h0 + 1) (h0 + 2)) ++ wwRe cA (h0 + 3) (h0 + 4) ((h0 + 1))) ++ wwLa cA (h0 + 19) (h0 + 20)) ++ wwCo cA (h0 + 34) (h0 + 35) ((h0 + 19))) ++ wwCo cA (h0 + 40) (h0 + 41) ((h0 + 19))) ++ wwCh cA (h0 + 46) (h0 + 47) ((h0 + 19)) ((h0 + 34))) ++ wwSl cA (h0 + 49) (h0 + 50))) (As := [.ref (h0 + 19), .ref (h0 + 40), .ref (h0 + 49)]) (rest := [.ref (h0 + 57), .ref h0]) ⟨hx, hb, hml, hown, hG⟩ (m_Si l D cA (h0 + 57) (h0 + 58) ((h0 + 19)) ((h0 + 40)) ((h0 + 49))) ⟨callB_of 3 hG (gw_in kcd_Si) rfl rfl rfl (hG _ (gk ck_1 9 rfl rfl)) (hG _ (gk ck_2 62 rfl rfl)) ⟨by decide, by decide, by decide +kernel⟩ ⟨Nat.le_of_ble_eq_true rfl, Nat.le_of_ble_eq_true rfl⟩, rfl, hG _ (gk ck_2 63 rfl rfl)⟩ hK hzv hP hD hS hA hz0 rfl hl.1 (Nat.le_of_ble_eq_true rfl) (show decode prog_1_method_1_code 118 = .ok (.invokespecial 62, 3) by decide +kernel) ⟨Nat.le_of_ble_eq_true rfl, Nat.le_of_ble_eq_true rfl⟩ (fun H1 locs1 z1 hP1 hD1 hS1 => ?_)
  clear hz0
  have hz0 : H1.size = h0 + 59 := z1
  clear z1
  have hP : va_P D vwCl ((h0, .inr (8, [.ref (h0 + 1), .ref (h0 + 3), .ref (h0 + 19), .ref (h0 + 34), .ref (h0 + 40), .ref (h0 + 46), .ref (h0 + 49), .null, .null, .null])) :: ((((((((wwTa cA (h0 + 1) (h0 + 2)) ++ wwRe cA (h0 + 3) (h0 + 4) ((h0 + 1))) ++ wwLa cA (h0 + 19) (h0 + 20)) ++ wwCo cA (h0 + 34) (h0 + 35) ((h0 + 19))) ++ wwCo cA (h0 + 40) (h0 + 41) ((h0 + 19))) ++ wwCh cA (h0 + 46) (h0 + 47) ((h0 + 19)) ((h0 + 34))) ++ wwSl cA (h0 + 49) (h0 + 50)) ++ wwSi cA (h0 + 57) (h0 + 58) ((h0 + 19)) ((h0 + 40)) ((h0 + 49)))) H1 := hP1
  have hD : va_D A ((h0, .inr (8, [.ref (h0 + 1), .ref (h0 + 3), .ref (h0 + 19), .ref (h0 + 34), .ref (h0 + 40), .ref (h0 + 46), .ref (h0 + 49), .null, .null, .null])) :: ((((((((wwTa cA (h0 + 1) (h0 + 2)) ++ wwRe cA (h0 + 3) (h0 + 4) ((h0 + 1))) ++ wwLa cA (h0 + 19) (h0 + 20)) ++ wwCo cA (h0 + 34) (h0 + 35) ((h0 + 19))) ++ wwCo cA (h0 + 40) (h0 + 41) ((h0 + 19))) ++ wwCh cA (h0 + 46) (h0 + 47) ((h0 + 19)) ((h0 + 34))) ++ wwSl cA (h0 + 49) (h0 + 50)) ++ wwSi cA (h0 + 57) (h0 + 58) ((h0 + 19)) ((h0 + 40)) ((h0 + 49)))) := hD1
  have hS := hS1
  clear hP1 hD1 hS1
  refine k_put hx hb hG inw8 tyX8 tyX8_ok nmX8 hown hK hP hD hS 0 rfl rfl 7 (by decide) (hG _ (gk ck_2 183 rfl rfl)) (fun _ h => h) (Or.inr ⟨rfl, hin, rfl⟩) (tyX8_ok 7 (by decide)) rfl rfl (Nat.le_of_ble_eq_true rfl) hz0 (show decode prog_1_method_1_code 121 = .ok (.putfield 65, 3) by decide +kernel) (fun H1 locs1 z1 hP1 hD1 hS1 => ?_)
  clear hz0
  have hz0 : H1.size = h0 + 59 := z1
  clear z1
  have hP : va_P D vwCl ((h0, .inr (8, [.ref (h0 + 1), .ref (h0 + 3), .ref (h0 + 19), .ref (h0 + 34), .ref (h0 + 40), .ref (h0 + 46), .ref (h0 + 49), .ref (h0 + 57), .null, .null])) :: ((((((((wwTa cA (h0 + 1) (h0 + 2)) ++ wwRe cA (h0 + 3) (h0 + 4) ((h0 + 1))) ++ wwLa cA (h0 + 19) (h0 + 20)) ++ wwCo cA (h0 + 34) (h0 + 35) ((h0 + 19))) ++ wwCo cA (h0 + 40) (h0 + 41) ((h0 + 19))) ++ wwCh cA (h0 + 46) (h0 + 47) ((h0 + 19)) ((h0 + 34))) ++ wwSl cA (h0 + 49) (h0 + 50)) ++ wwSi cA (h0 + 57) (h0 + 58) ((h0 + 19)) ((h0 + 40)) ((h0 + 49)))) H1 := hP1
  have hD : va_D A ((h0, .inr (8, [.ref (h0 + 1), .ref (h0 + 3), .ref (h0 + 19), .ref (h0 + 34), .ref (h0 + 40), .ref (h0 + 46), .ref (h0 + 49), .ref (h0 + 57), .null, .null])) :: ((((((((wwTa cA (h0 + 1) (h0 + 2)) ++ wwRe cA (h0 + 3) (h0 + 4) ((h0 + 1))) ++ wwLa cA (h0 + 19) (h0 + 20)) ++ wwCo cA (h0 + 34) (h0 + 35) ((h0 + 19))) ++ wwCo cA (h0 + 40) (h0 + 41) ((h0 + 19))) ++ wwCh cA (h0 + 46) (h0 + 47) ((h0 + 19)) ((h0 + 34))) ++ wwSl cA (h0 + 49) (h0 + 50)) ++ wwSi cA (h0 + 57) (h0 + 58) ((h0 + 19)) ((h0 + 40)) ((h0 + 49)))) := hD1
  have hS := hS1
  clear hP1 hD1 hS1
  refine lv_aload_n hx hb (show decode prog_1_method_1_code 124 = .ok (.aload_n 0, 1) by decide +kernel) rfl (lv_at hl 0 rfl) ?_
  refine lv_iconst hx hb (show decode prog_1_method_1_code 125 = .ok (.iconst 3, 1) by decide +kernel) (v := 3) rfl ?_
  refine k_newq hx hb hown (hG _ (gk ck_1 205 rfl rfl)) hzv.2.1 (cA := cA 5) (hK.2 5 _ rfl).2.choose_spec.choose_spec.2.2.2 hP hD hS hA (N' := 3) (by decide) (by decide) (Nat.le_of_ble_eq_true rfl) (Nat.le_of_ble_eq_true rfl) (Nat.le_of_ble_eq_true rfl) hz0 (show decode prog_1_method_1_code 126 = .ok (.anewarray 25, 3) by decide +kernel) (fun H1 z1 hP1 hD1 hS1 => ?_)
  obtain ⟨hP1, hD1⟩ := k_front hP1 hD1
  clear hz0
  have hz0 : H1.size = h0 + 60 := z1
  clear z1
  have hP : va_P D vwCl ((h0 + 59, .inl (cA 5, (3, .inr (.inr (.inr (.inr (fun _ => none))))))) :: ((h0, .inr (8, [.ref (h0 + 1), .ref (h0 + 3), .ref (h0 + 19), .ref (h0 + 34), .ref (h0 + 40), .ref (h0 + 46), .ref (h0 + 49), .ref (h0 + 57), .null, .null])) :: ((((((((wwTa cA (h0 + 1) (h0 + 2)) ++ wwRe cA (h0 + 3) (h0 + 4) ((h0 + 1))) ++ wwLa cA (h0 + 19) (h0 + 20)) ++ wwCo cA (h0 + 34) (h0 + 35) ((h0 + 19))) ++ wwCo cA (h0 + 40) (h0 + 41) ((h0 + 19))) ++ wwCh cA (h0 + 46) (h0 + 47) ((h0 + 19)) ((h0 + 34))) ++ wwSl cA (h0 + 49) (h0 + 50)) ++ wwSi cA (h0 + 57) (h0 + 58) ((h0 + 19)) ((h0 + 40)) ((h0 + 49))))) H1 := hP1
  have hD : va_D A ((h0 + 59, .inl (cA 5, (3, .inr (.inr (.inr (.inr (fun _ => none))))))) :: ((h0, .inr (8, [.ref (h0 + 1), .ref (h0 + 3), .ref (h0 + 19), .ref (h0 + 34), .ref (h0 + 40), .ref (h0 + 46), .ref (h0 + 49), .ref (h0 + 57), .null, .null])) :: ((((((((wwTa cA (h0 + 1) (h0 + 2)) ++ wwRe cA (h0 + 3) (h0 + 4) ((h0 + 1))) ++ wwLa cA (h0 + 19) (h0 + 20)) ++ wwCo cA (h0 + 34) (h0 + 35) ((h0 + 19))) ++ wwCo cA (h0 + 40) (h0 + 41) ((h0 + 19))) ++ wwCh cA (h0 + 46) (h0 + 47) ((h0 + 19)) ((h0 + 34))) ++ wwSl cA (h0 + 49) (h0 + 50)) ++ wwSi cA (h0 + 57) (h0 + 58) ((h0 + 19)) ((h0 + 40)) ((h0 + 49))))) := hD1
  have hS := hS1
  clear hP1 hD1 hS1
  refine lv_dup hx hb (show decode prog_1_method_1_code 129 = .ok (.dup, 1) by decide +kernel) rfl ?_
  refine lv_iconst hx hb (show decode prog_1_method_1_code 130 = .ok (.iconst 0, 1) by decide +kernel) (v := 0) rfl ?_
  refine k_new hx hb hG inw3 tyX3 tyX3_ok hown (hG _ (gk ck_1 205 rfl rfl)) (hG _ (gk ck_1 51 rfl rfl)) (hG _ (gk ck_1 4 rfl rfl)) hK hP hD hS hA (ci := 3) rfl (fs := [.int 0, .int 0, .int 0, .int 0, .int 0, .int 0, .int 0, .null, .null, .null, .null, .null, .null]) (by decide) (Nat.le_of_ble_eq_true rfl) (Nat.le_of_ble_eq_true rfl) hz0 (show decode prog_1_method_1_code 131 = .ok (.new 25, 3) by decide +kernel) (fun H1 z1 hP1 hD1 hS1 => ?_)
  clear hz0
  have hz0 : H1.size = h0 + 61 := z1
  clear z1
  have hP := hP1
  have hD := hD1
  have hS := hS1
  clear hP1 hD1 hS1
  refine lv_dup hx hb (show decode prog_1_method_1_code 134 = .ok (.dup, 1) by decide +kernel) rfl ?_
  refine k_initN (host := "EnemyLetters") (w1 := wwLa cA (h0 + 60) (h0 + 61)) (ws := (h0 + 59, .inl (cA 5, (3, .inr (.inr (.inr (.inr (fun _ => none))))))) :: ((h0, .inr (8, [.ref (h0 + 1), .ref (h0 + 3), .ref (h0 + 19), .ref (h0 + 34), .ref (h0 + 40), .ref (h0 + 46), .ref (h0 + 49), .ref (h0 + 57), .null, .null])) :: ((((((((wwTa cA (h0 + 1) (h0 + 2)) ++ wwRe cA (h0 + 3) (h0 + 4) ((h0 + 1))) ++ wwLa cA (h0 + 19) (h0 + 20)) ++ wwCo cA (h0 + 34) (h0 + 35) ((h0 + 19))) ++ wwCo cA (h0 + 40) (h0 + 41) ((h0 + 19))) ++ wwCh cA (h0 + 46) (h0 + 47) ((h0 + 19)) ((h0 + 34))) ++ wwSl cA (h0 + 49) (h0 + 50)) ++ wwSi cA (h0 + 57) (h0 + 58) ((h0 + 19)) ((h0 + 40)) ((h0 + 49))))) (As := []) (rest := [.ref (h0 + 60), .int 0, .ref (h0 + 59), .ref (h0 + 59), .ref h0]) ⟨hx, hb, hml, hown, hG⟩ (m_La l D cA (h0 + 60) (h0 + 61)) ⟨va_cnB 0 hG (gw_in kcd_La) rfl rfl rfl (hzv.1 _ (List.mem_of_getElem? (i := 2) rfl)) (hG _ (gk ck_1 4 rfl rfl)) ⟨by decide, by decide, by decide +kernel⟩ ⟨Nat.le_of_ble_eq_true rfl, Nat.le_of_ble_eq_true rfl⟩, rfl, hG _ (gk ck_1 53 rfl rfl)⟩ hK hzv hP hD hS hA hz0 rfl hl.1 (Nat.le_of_ble_eq_true rfl) (show decode prog_1_method_1_code 135 = .ok (.invokespecial 27, 3) by decide +kernel) ⟨Nat.le_of_ble_eq_true rfl, Nat.le_of_ble_eq_true rfl⟩ (fun H1 locs1 z1 hP1 hD1 hS1 => ?_)
  clear hz0
  have hz0 : H1.size = h0 + 75 := z1
  clear z1
  have hP : va_P D vwCl ((h0 + 59, .inl (cA 5, (3, .inr (.inr (.inr (.inr (fun _ => none))))))) :: ((h0, .inr (8, [.ref (h0 + 1), .ref (h0 + 3), .ref (h0 + 19), .ref (h0 + 34), .ref (h0 + 40), .ref (h0 + 46), .ref (h0 + 49), .ref (h0 + 57), .null, .null])) :: (((((((((wwTa cA (h0 + 1) (h0 + 2)) ++ wwRe cA (h0 + 3) (h0 + 4) ((h0 + 1))) ++ wwLa cA (h0 + 19) (h0 + 20)) ++ wwCo cA (h0 + 34) (h0 + 35) ((h0 + 19))) ++ wwCo cA (h0 + 40) (h0 + 41) ((h0 + 19))) ++ wwCh cA (h0 + 46) (h0 + 47) ((h0 + 19)) ((h0 + 34))) ++ wwSl cA (h0 + 49) (h0 + 50)) ++ wwSi cA (h0 + 57) (h0 + 58) ((h0 + 19)) ((h0 + 40)) ((h0 + 49))) ++ wwLa cA (h0 + 60) (h0 + 61)))) H1 := hP1
  have hD : va_D A ((h0 + 59, .inl (cA 5, (3, .inr (.inr (.inr (.inr (fun _ => none))))))) :: ((h0, .inr (8, [.ref (h0 + 1), .ref (h0 + 3), .ref (h0 + 19), .ref (h0 + 34), .ref (h0 + 40), .ref (h0 + 46), .ref (h0 + 49), .ref (h0 + 57), .null, .null])) :: (((((((((wwTa cA (h0 + 1) (h0 + 2)) ++ wwRe cA (h0 + 3) (h0 + 4) ((h0 + 1))) ++ wwLa cA (h0 + 19) (h0 + 20)) ++ wwCo cA (h0 + 34) (h0 + 35) ((h0 + 19))) ++ wwCo cA (h0 + 40) (h0 + 41) ((h0 + 19))) ++ wwCh cA (h0 + 46) (h0 + 47) ((h0 + 19)) ((h0 + 34))) ++ wwSl cA (h0 + 49) (h0 + 50)) ++ wwSi cA (h0 + 57) (h0 + 58) ((h0 + 19)) ((h0 + 40)) ((h0 + 49))) ++ wwLa cA (h0 + 60) (h0 + 61)))) := hD1
  have hS := hS1
  clear hP1 hD1 hS1
  refine k_astq hx hb hK hP hD hS 0 5 3 rfl rfl (List.mem_cons_of_mem _ (List.mem_cons_of_mem _ (List.mem_append_right _ (List.mem_of_getElem? (i := 0) rfl)))) rfl (by unfold vp_in; decide) hz0 (show decode prog_1_method_1_code 138 = .ok (.aastore, 1) by decide +kernel) (fun H1 locs1 z1 hP1 hD1 hS1 => ?_)
  clear hz0
  have hz0 : H1.size = h0 + 75 := z1
  clear z1
  have hP : va_P D vwCl ((h0 + 59, .inl (cA 5, (3, .inr (.inr (.inr (.inr (va_up (fun _ => none) ((0 : Int32).toNatClampNeg) (some (h0 + 60))))))))) :: ((h0, .inr (8, [.ref (h0 + 1), .ref (h0 + 3), .ref (h0 + 19), .ref (h0 + 34), .ref (h0 + 40), .ref (h0 + 46), .ref (h0 + 49), .ref (h0 + 57), .null, .null])) :: (((((((((wwTa cA (h0 + 1) (h0 + 2)) ++ wwRe cA (h0 + 3) (h0 + 4) ((h0 + 1))) ++ wwLa cA (h0 + 19) (h0 + 20)) ++ wwCo cA (h0 + 34) (h0 + 35) ((h0 + 19))) ++ wwCo cA (h0 + 40) (h0 + 41) ((h0 + 19))) ++ wwCh cA (h0 + 46) (h0 + 47) ((h0 + 19)) ((h0 + 34))) ++ wwSl cA (h0 + 49) (h0 + 50)) ++ wwSi cA (h0 + 57) (h0 + 58) ((h0 + 19)) ((h0 + 40)) ((h0 + 49))) ++ wwLa cA (h0 + 60) (h0 + 61)))) H1 := hP1
  have hD : va_D A ((h0 + 59, .inl (cA 5, (3, .inr (.inr (.inr (.inr (va_up (fun _ => none) ((0 : Int32).toNatClampNeg) (some (h0 + 60))))))))) :: ((h0, .inr (8, [.ref (h0 + 1), .ref (h0 + 3), .ref (h0 + 19), .ref (h0 + 34), .ref (h0 + 40), .ref (h0 + 46), .ref (h0 + 49), .ref (h0 + 57), .null, .null])) :: (((((((((wwTa cA (h0 + 1) (h0 + 2)) ++ wwRe cA (h0 + 3) (h0 + 4) ((h0 + 1))) ++ wwLa cA (h0 + 19) (h0 + 20)) ++ wwCo cA (h0 + 34) (h0 + 35) ((h0 + 19))) ++ wwCo cA (h0 + 40) (h0 + 41) ((h0 + 19))) ++ wwCh cA (h0 + 46) (h0 + 47) ((h0 + 19)) ((h0 + 34))) ++ wwSl cA (h0 + 49) (h0 + 50)) ++ wwSi cA (h0 + 57) (h0 + 58) ((h0 + 19)) ((h0 + 40)) ((h0 + 49))) ++ wwLa cA (h0 + 60) (h0 + 61)))) := hD1
  have hS := hS1
  clear hP1 hD1 hS1
  refine lv_dup hx hb (show decode prog_1_method_1_code 139 = .ok (.dup, 1) by decide +kernel) rfl ?_
  refine lv_iconst hx hb (show decode prog_1_method_1_code 140 = .ok (.iconst 1, 1) by decide +kernel) (v := 1) rfl ?_
  refine k_new hx hb hG inw3 tyX3 tyX3_ok hown (hG _ (gk ck_1 205 rfl rfl)) (hG _ (gk ck_1 51 rfl rfl)) (hG _ (gk ck_1 4 rfl rfl)) hK hP hD hS hA (ci := 3) rfl (fs := [.int 0, .int 0, .int 0, .int 0, .int 0, .int 0, .int 0, .null, .null, .null, .null, .null, .null]) (by decide) (Nat.le_of_ble_eq_true rfl) (Nat.le_of_ble_eq_true rfl) hz0 (show decode prog_1_method_1_code 141 = .ok (.new 25, 3) by decide +kernel) (fun H1 z1 hP1 hD1 hS1 => ?_)
  clear hz0
  have hz0 : H1.size = h0 + 76 := z1
  clear z1
  have hP := hP1
  have hD := hD1
  have hS := hS1
  clear hP1 hD1 hS1
  refine lv_dup hx hb (show decode prog_1_method_1_code 144 = .ok (.dup, 1) by decide +kernel) rfl ?_
  refine k_initN (host := "EnemyLetters") (w1 := wwLa cA (h0 + 75) (h0 + 76)) (ws := (h0 + 59, .inl (cA 5, (3, .inr (.inr (.inr (.inr (va_up (fun _ => none) ((0 : Int32).toNatClampNeg) (some (h0 + 60))))))))) :: ((h0, .inr (8, [.ref (h0 + 1), .ref (h0 + 3), .ref (h0 + 19), .ref (h0 + 34), .ref (h0 + 40), .ref (h0 + 46), .ref (h0 + 49), .ref (h0 + 57), .null, .null])) :: (((((((((wwTa cA (h0 + 1) (h0 + 2)) ++ wwRe cA (h0 + 3) (h0 + 4) ((h0 + 1))) ++ wwLa cA (h0 + 19) (h0 + 20)) ++ wwCo cA (h0 + 34) (h0 + 35) ((h0 + 19))) ++ wwCo cA (h0 + 40) (h0 + 41) ((h0 + 19))) ++ wwCh cA (h0 + 46) (h0 + 47) ((h0 + 19)) ((h0 + 34))) ++ wwSl cA (h0 + 49) (h0 + 50)) ++ wwSi cA (h0 + 57) (h0 + 58) ((h0 + 19)) ((h0 + 40)) ((h0 + 49))) ++ wwLa cA (h0 + 60) (h0 + 61)))) (As := []) (rest := [.ref (h0 + 75), .int 1, .ref (h0 + 59), .ref (h0 + 59), .ref h0]) ⟨hx, hb, hml, hown, hG⟩ (m_La l D cA (h0 + 75) (h0 + 76)) ⟨va_cnB 0 hG (gw_in kcd_La) rfl rfl rfl (hzv.1 _ (List.mem_of_getElem? (i := 2) rfl)) (hG _ (gk ck_1 4 rfl rfl)) ⟨by decide, by decide, by decide +kernel⟩ ⟨Nat.le_of_ble_eq_true rfl, Nat.le_of_ble_eq_true rfl⟩, rfl, hG _ (gk ck_1 53 rfl rfl)⟩ hK hzv hP hD hS hA hz0 rfl hl.1 (Nat.le_of_ble_eq_true rfl) (show decode prog_1_method_1_code 145 = .ok (.invokespecial 27, 3) by decide +kernel) ⟨Nat.le_of_ble_eq_true rfl, Nat.le_of_ble_eq_true rfl⟩ (fun H1 locs1 z1 hP1 hD1 hS1 => ?_)
  clear hz0
  have hz0 : H1.size = h0 + 90 := z1
  clear z1
  have hP : va_P D vwCl ((h0 + 59, .inl (cA 5, (3, .inr (.inr (.inr (.inr (va_up (fun _ => none) ((0 : Int32).toNatClampNeg) (some (h0 + 60))))))))) :: ((h0, .inr (8, [.ref (h0 + 1), .ref (h0 + 3), .ref (h0 + 19), .ref (h0 + 34), .ref (h0 + 40), .ref (h0 + 46), .ref (h0 + 49), .ref (h0 + 57), .null, .null])) :: ((((((((((wwTa cA (h0 + 1) (h0 + 2)) ++ wwRe cA (h0 + 3) (h0 + 4) ((h0 + 1))) ++ wwLa cA (h0 + 19) (h0 + 20)) ++ wwCo cA (h0 + 34) (h0 + 35) ((h0 + 19))) ++ wwCo cA (h0 + 40) (h0 + 41) ((h0 + 19))) ++ wwCh cA (h0 + 46) (h0 + 47) ((h0 + 19)) ((h0 + 34))) ++ wwSl cA (h0 + 49) (h0 + 50)) ++ wwSi cA (h0 + 57) (h0 + 58) ((h0 + 19)) ((h0 + 40)) ((h0 + 49))) ++ wwLa cA (h0 + 60) (h0 + 61)) ++ wwLa cA (h0 + 75) (h0 + 76)))) H1 := hP1
  have hD : va_D A ((h0 + 59, .inl (cA 5, (3, .inr (.inr (.inr (.inr (va_up (fun _ => none) ((0 : Int32).toNatClampNeg) (some (h0 + 60))))))))) :: ((h0, .inr (8, [.ref (h0 + 1), .ref (h0 + 3), .ref (h0 + 19), .ref (h0 + 34), .ref (h0 + 40), .ref (h0 + 46), .ref (h0 + 49), .ref (h0 + 57), .null, .null])) :: ((((((((((wwTa cA (h0 + 1) (h0 + 2)) ++ wwRe cA (h0 + 3) (h0 + 4) ((h0 + 1))) ++ wwLa cA (h0 + 19) (h0 + 20)) ++ wwCo cA (h0 + 34) (h0 + 35) ((h0 + 19))) ++ wwCo cA (h0 + 40) (h0 + 41) ((h0 + 19))) ++ wwCh cA (h0 + 46) (h0 + 47) ((h0 + 19)) ((h0 + 34))) ++ wwSl cA (h0 + 49) (h0 + 50)) ++ wwSi cA (h0 + 57) (h0 + 58) ((h0 + 19)) ((h0 + 40)) ((h0 + 49))) ++ wwLa cA (h0 + 60) (h0 + 61)) ++ wwLa cA (h0 + 75) (h0 + 76)))) := hD1
  have hS := hS1
  clear hP1 hD1 hS1
  refine k_astq hx hb hK hP hD hS 0 5 3 rfl rfl (List.mem_cons_of_mem _ (List.mem_cons_of_mem _ (List.mem_append_right _ (List.mem_of_getElem? (i := 0) rfl)))) rfl (by unfold vp_in; decide) hz0 (show decode prog_1_method_1_code 148 = .ok (.aastore, 1) by decide +kernel) (fun H1 locs1 z1 hP1 hD1 hS1 => ?_)
  clear hz0
  have hz0 : H1.size = h0 + 90 := z1
  clear z1
  have hP : va_P D vwCl ((h0 + 59, .inl (cA 5, (3, .inr (.inr (.inr (.inr (va_up (va_up (fun _ => none) ((0 : Int32).toNatClampNeg) (some (h0 + 60))) ((1 : Int32).toNatClampNeg) (some (h0 + 75))))))))) :: ((h0, .inr (8, [.ref (h0 + 1), .ref (h0 + 3), .ref (h0 + 19), .ref (h0 + 34), .ref (h0 + 40), .ref (h0 + 46), .ref (h0 + 49), .ref (h0 + 57), .null, .null])) :: ((((((((((wwTa cA (h0 + 1) (h0 + 2)) ++ wwRe cA (h0 + 3) (h0 + 4) ((h0 + 1))) ++ wwLa cA (h0 + 19) (h0 + 20)) ++ wwCo cA (h0 + 34) (h0 + 35) ((h0 + 19))) ++ wwCo cA (h0 + 40) (h0 + 41) ((h0 + 19))) ++ wwCh cA (h0 + 46) (h0 + 47) ((h0 + 19)) ((h0 + 34))) ++ wwSl cA (h0 + 49) (h0 + 50)) ++ wwSi cA (h0 + 57) (h0 + 58) ((h0 + 19)) ((h0 + 40)) ((h0 + 49))) ++ wwLa cA (h0 + 60) (h0 + 61)) ++ wwLa cA (h0 + 75) (h0 + 76)))) H1 := hP1
  have hD : va_D A ((h0 + 59, .inl (cA 5, (3, .inr (.inr (.inr (.inr (va_up (va_up (fun _ => none) ((0 : Int32).toNatClampNeg) (some (h0 + 60))) ((1 : Int32).toNatClampNeg) (some (h0 + 75))))))))) :: ((h0, .inr (8, [.ref (h0 + 1), .ref (h0 + 3), .ref (h0 + 19), .ref (h0 + 34), .ref (h0 + 40), .ref (h0 + 46), .ref (h0 + 49), .ref (h0 + 57), .null, .null])) :: ((((((((((wwTa cA (h0 + 1) (h0 + 2)) ++ wwRe cA (h0 + 3) (h0 + 4) ((h0 + 1))) ++ wwLa cA (h0 + 19) (h0 + 20)) ++ wwCo cA (h0 + 34) (h0 + 35) ((h0 + 19))) ++ wwCo cA (h0 + 40) (h0 + 41) ((h0 + 19))) ++ wwCh cA (h0 + 46) (h0 + 47) ((h0 + 19)) ((h0 + 34))) ++ wwSl cA (h0 + 49) (h0 + 50)) ++ wwSi cA (h0 + 57) (h0 + 58) ((h0 + 19)) ((h0 + 40)) ((h0 + 49))) ++ wwLa cA (h0 + 60) (h0 + 61)) ++ wwLa cA (h0 + 75) (h0 + 76)))) := hD1
  have hS := hS1
  clear hP1 hD1 hS1
  refine lv_dup hx hb (show decode prog_1_method_1_code 149 = .ok (.dup, 1) by decide +kernel) rfl ?_
  refine lv_iconst hx hb (show decode prog_1_method_1_code 150 = .ok (.iconst 2, 1) by decide +kernel) (v := 2) rfl ?_
  refine k_new hx hb hG inw3 tyX3 tyX3_ok hown (hG _ (gk ck_1 205 rfl rfl)) (hG _ (gk ck_1 51 rfl rfl)) (hG _ (gk ck_1 4 rfl rfl)) hK hP hD hS hA (ci := 3) rfl (fs := [.int 0, .int 0, .int 0, .int 0, .int 0, .int 0, .int 0, .null, .null, .null, .null, .null, .null]) (by decide) (Nat.le_of_ble_eq_true rfl) (Nat.le_of_ble_eq_true rfl) hz0 (show decode prog_1_method_1_code 151 = .ok (.new 25, 3) by decide +kernel) (fun H1 z1 hP1 hD1 hS1 => ?_)
  clear hz0
  have hz0 : H1.size = h0 + 91 := z1
  clear z1
  have hP := hP1
  have hD := hD1
  have hS := hS1
  clear hP1 hD1 hS1
  refine lv_dup hx hb (show decode prog_1_method_1_code 154 = .ok (.dup, 1) by decide +kernel) rfl ?_
  refine k_initN (host := "EnemyLetters") (w1 := wwLa cA (h0 + 90) (h0 + 91)) (ws := (h0 + 59, .inl (cA 5, (3, .inr (.inr (.inr (.inr (va_up (va_up (fun _ => none) ((0 : Int32).toNatClampNeg) (some (h0 + 60))) ((1 : Int32).toNatClampNeg) (some (h0 + 75))))))))) :: ((h0, .inr (8, [.ref (h0 + 1), .ref (h0 + 3), .ref (h0 + 19), .ref (h0 + 34), .ref (h0 + 40), .ref (h0 + 46), .ref (h0 + 49), .ref (h0 + 57), .null, .null])) :: ((((((((((wwTa cA (h0 + 1) (h0 + 2)) ++ wwRe cA (h0 + 3) (h0 + 4) ((h0 + 1))) ++ wwLa cA (h0 + 19) (h0 + 20)) ++ wwCo cA (h0 + 34) (h0 + 35) ((h0 + 19))) ++ wwCo cA (h0 + 40) (h0 + 41) ((h0 + 19))) ++ wwCh cA (h0 + 46) (h0 + 47) ((h0 + 19)) ((h0 + 34))) ++ wwSl cA (h0 + 49) (h0 + 50)) ++ wwSi cA (h0 + 57) (h0 + 58) ((h0 + 19)) ((h0 + 40)) ((h0 + 49))) ++ wwLa cA (h0 + 60) (h0 + 61)) ++ wwLa cA (h0 + 75) (h0 + 76)))) (As := []) (rest := [.ref (h0 + 90), .int 2, .ref (h0 + 59), .ref (h0 + 59), .ref h0]) ⟨hx, hb, hml, hown, hG⟩ (m_La l D cA (h0 + 90) (h0 + 91)) ⟨va_cnB 0 hG (gw_in kcd_La) rfl rfl rfl (hzv.1 _ (List.mem_of_getElem? (i := 2) rfl)) (hG _ (gk ck_1 4 rfl rfl)) ⟨by decide, by decide, by decide +kernel⟩ ⟨Nat.le_of_ble_eq_true rfl, Nat.le_of_ble_eq_true rfl⟩, rfl, hG _ (gk ck_1 53 rfl rfl)⟩ hK hzv hP hD hS hA hz0 rfl hl.1 (Nat.le_of_ble_eq_true rfl) (show decode prog_1_method_1_code 155 = .ok (.invokespecial 27, 3) by decide +kernel) ⟨Nat.le_of_ble_eq_true rfl, Nat.le_of_ble_eq_true rfl⟩ (fun H1 locs1 z1 hP1 hD1 hS1 => ?_)
  clear hz0
  have hz0 : H1.size = h0 + 105 := z1
  clear z1
  have hP : va_P D vwCl ((h0 + 59, .inl (cA 5, (3, .inr (.inr (.inr (.inr (va_up (va_up (fun _ => none) ((0 : Int32).toNatClampNeg) (some (h0 + 60))) ((1 : Int32).toNatClampNeg) (some (h0 + 75))))))))) :: ((h0, .inr (8, [.ref (h0 + 1), .ref (h0 + 3), .ref (h0 + 19), .ref (h0 + 34), .ref (h0 + 40), .ref (h0 + 46), .ref (h0 + 49), .ref (h0 + 57), .null, .null])) :: (((((((((((wwTa cA (h0 + 1) (h0 + 2)) ++ wwRe cA (h0 + 3) (h0 + 4) ((h0 + 1))) ++ wwLa cA (h0 + 19) (h0 + 20)) ++ wwCo cA (h0 + 34) (h0 + 35) ((h0 + 19))) ++ wwCo cA (h0 + 40) (h0 + 41) ((h0 + 19))) ++ wwCh cA (h0 + 46) (h0 + 47) ((h0 + 19)) ((h0 + 34))) ++ wwSl cA (h0 + 49) (h0 + 50)) ++ wwSi cA (h0 + 57) (h0 + 58) ((h0 + 19)) ((h0 + 40)) ((h0 + 49))) ++ wwLa cA (h0 + 60) (h0 + 61)) ++ wwLa cA (h0 + 75) (h0 + 76)) ++ wwLa cA (h0 + 90) (h0 + 91)))) H1 := hP1
  have hD : va_D A ((h0 + 59, .inl (cA 5, (3, .inr (.inr (.inr (.inr (va_up (va_up (fun _ => none) ((0 : Int32).toNatClampNeg) (some (h0 + 60))) ((1 : Int32).toNatClampNeg) (some (h0 + 75))))))))) :: ((h0, .inr (8, [.ref (h0 + 1), .ref (h0 + 3), .ref (h0 + 19), .ref (h0 + 34), .ref (h0 + 40), .ref (h0 + 46), .ref (h0 + 49), .ref (h0 + 57), .null, .null])) :: (((((((((((wwTa cA (h0 + 1) (h0 + 2)) ++ wwRe cA (h0 + 3) (h0 + 4) ((h0 + 1))) ++ wwLa cA (h0 + 19) (h0 + 20)) ++ wwCo cA (h0 + 34) (h0 + 35) ((h0 + 19))) ++ wwCo cA (h0 + 40) (h0 + 41) ((h0 + 19))) ++ wwCh cA (h0 + 46) (h0 + 47) ((h0 + 19)) ((h0 + 34))) ++ wwSl cA (h0 + 49) (h0 + 50)) ++ wwSi cA (h0 + 57) (h0 + 58) ((h0 + 19)) ((h0 + 40)) ((h0 + 49))) ++ wwLa cA (h0 + 60) (h0 + 61)) ++ wwLa cA (h0 + 75) (h0 + 76)) ++ wwLa cA (h0 + 90) (h0 + 91)))) := hD1
  have hS := hS1
  clear hP1 hD1 hS1
  refine k_astq hx hb hK hP hD hS 0 5 3 rfl rfl (List.mem_cons_of_mem _ (List.mem_cons_of_mem _ (List.mem_append_right _ (List.mem_of_getElem? (i := 0) rfl)))) rfl (by unfold vp_in; decide) hz0 (show decode prog_1_method_1_code 158 = .ok (.aastore, 1) by decide +kernel) (fun H1 locs1 z1 hP1 hD1 hS1 => ?_)
  clear hz0
  have hz0 : H1.size = h0 + 105 := z1
  clear z1
  have hP : va_P D vwCl ((h0 + 59, .inl (cA 5, (3, .inr (.inr (.inr (.inr (va_up (va_up (va_up (fun _ => none) ((0 : Int32).toNatClampNeg) (some (h0 + 60))) ((1 : Int32).toNatClampNeg) (some (h0 + 75))) ((2 : Int32).toNatClampNeg) (some (h0 + 90))))))))) :: ((h0, .inr (8, [.ref (h0 + 1), .ref (h0 + 3), .ref (h0 + 19), .ref (h0 + 34), .ref (h0 + 40), .ref (h0 + 46), .ref (h0 + 49), .ref (h0 + 57), .null, .null])) :: (((((((((((wwTa cA (h0 + 1) (h0 + 2)) ++ wwRe cA (h0 + 3) (h0 + 4) ((h0 + 1))) ++ wwLa cA (h0 + 19) (h0 + 20)) ++ wwCo cA (h0 + 34) (h0 + 35) ((h0 + 19))) ++ wwCo cA (h0 + 40) (h0 + 41) ((h0 + 19))) ++ wwCh cA (h0 + 46) (h0 + 47) ((h0 + 19)) ((h0 + 34))) ++ wwSl cA (h0 + 49) (h0 + 50)) ++ wwSi cA (h0 + 57) (h0 + 58) ((h0 + 19)) ((h0 + 40)) ((h0 + 49))) ++ wwLa cA (h0 + 60) (h0 + 61)) ++ wwLa cA (h0 + 75) (h0 + 76)) ++ wwLa cA (h0 + 90) (h0 + 91)))) H1 := hP1
  have hD : va_D A ((h0 + 59, .inl (cA 5, (3, .inr (.inr (.inr (.inr (va_up (va_up (va_up (fun _ => none) ((0 : Int32).toNatClampNeg) (some (h0 + 60))) ((1 : Int32).toNatClampNeg) (some (h0 + 75))) ((2 : Int32).toNatClampNeg) (some (h0 + 90))))))))) :: ((h0, .inr (8, [.ref (h0 + 1), .ref (h0 + 3), .ref (h0 + 19), .ref (h0 + 34), .ref (h0 + 40), .ref (h0 + 46), .ref (h0 + 49), .ref (h0 + 57), .null, .null])) :: (((((((((((wwTa cA (h0 + 1) (h0 + 2)) ++ wwRe cA (h0 + 3) (h0 + 4) ((h0 + 1))) ++ wwLa cA (h0 + 19) (h0 + 20)) ++ wwCo cA (h0 + 34) (h0 + 35) ((h0 + 19))) ++ wwCo cA (h0 + 40) (h0 + 41) ((h0 + 19))) ++ wwCh cA (h0 + 46) (h0 + 47) ((h0 + 19)) ((h0 + 34))) ++ wwSl cA (h0 + 49) (h0 + 50)) ++ wwSi cA (h0 + 57) (h0 + 58) ((h0 + 19)) ((h0 + 40)) ((h0 + 49))) ++ wwLa cA (h0 + 60) (h0 + 61)) ++ wwLa cA (h0 + 75) (h0 + 76)) ++ wwLa cA (h0 + 90) (h0 + 91)))) := hD1
  have hS := hS1
  clear hP1 hD1 hS1
  refine k_put hx hb hG inw8 tyX8 tyX8_ok nmX8 hown hK hP hD hS 1 rfl rfl 8 (by decide) (hG _ (gk ck_2 184 rfl rfl)) (fun _ h => h) (Or.inr ⟨rfl, hin, rfl⟩) (tyX8_ok 8 (by decide)) rfl rfl (Nat.le_of_ble_eq_true rfl) hz0 (show decode prog_1_method_1_code 159 = .ok (.putfield 69, 3) by decide +kernel) (fun H1 locs1 z1 hP1 hD1 hS1 => ?_)
  clear hz0
  have hz0 : H1.size = h0 + 105 := z1
  clear z1
  have hP : va_P D vwCl ((h0 + 59, .inl (cA 5, (3, .inr (.inr (.inr (.inr (va_up (va_up (va_up (fun _ => none) ((0 : Int32).toNatClampNeg) (some (h0 + 60))) ((1 : Int32).toNatClampNeg) (some (h0 + 75))) ((2 : Int32).toNatClampNeg) (some (h0 + 90))))))))) :: ((h0, .inr (8, [.ref (h0 + 1), .ref (h0 + 3), .ref (h0 + 19), .ref (h0 + 34), .ref (h0 + 40), .ref (h0 + 46), .ref (h0 + 49), .ref (h0 + 57), .ref (h0 + 59), .null])) :: (((((((((((wwTa cA (h0 + 1) (h0 + 2)) ++ wwRe cA (h0 + 3) (h0 + 4) ((h0 + 1))) ++ wwLa cA (h0 + 19) (h0 + 20)) ++ wwCo cA (h0 + 34) (h0 + 35) ((h0 + 19))) ++ wwCo cA (h0 + 40) (h0 + 41) ((h0 + 19))) ++ wwCh cA (h0 + 46) (h0 + 47) ((h0 + 19)) ((h0 + 34))) ++ wwSl cA (h0 + 49) (h0 + 50)) ++ wwSi cA (h0 + 57) (h0 + 58) ((h0 + 19)) ((h0 + 40)) ((h0 + 49))) ++ wwLa cA (h0 + 60) (h0 + 61)) ++ wwLa cA (h0 + 75) (h0 + 76)) ++ wwLa cA (h0 + 90) (h0 + 91)))) H1 := hP1
  have hD : va_D A ((h0 + 59, .inl (cA 5, (3, .inr (.inr (.inr (.inr (va_up (va_up (va_up (fun _ => none) ((0 : Int32).toNatClampNeg) (some (h0 + 60))) ((1 : Int32).toNatClampNeg) (some (h0 + 75))) ((2 : Int32).toNatClampNeg) (some (h0 + 90))))))))) :: ((h0, .inr (8, [.ref (h0 + 1), .ref (h0 + 3), .ref (h0 + 19), .ref (h0 + 34), .ref (h0 + 40), .ref (h0 + 46), .ref (h0 + 49), .ref (h0 + 57), .ref (h0 + 59), .null])) :: (((((((((((wwTa cA (h0 + 1) (h0 + 2)) ++ wwRe cA (h0 + 3) (h0 + 4) ((h0 + 1))) ++ wwLa cA (h0 + 19) (h0 + 20)) ++ wwCo cA (h0 + 34) (h0 + 35) ((h0 + 19))) ++ wwCo cA (h0 + 40) (h0 + 41) ((h0 + 19))) ++ wwCh cA (h0 + 46) (h0 + 47) ((h0 + 19)) ((h0 + 34))) ++ wwSl cA (h0 + 49) (h0 + 50)) ++ wwSi cA (h0 + 57) (h0 + 58) ((h0 + 19)) ((h0 + 40)) ((h0 + 49))) ++ wwLa cA (h0 + 60) (h0 + 61)) ++ wwLa cA (h0 + 75) (h0 + 76)) ++ wwLa cA (h0 + 90) (h0 + 91)))) := hD1
  have hS := hS1
  clear hP1 hD1 hS1
  refine lv_aload_n hx hb (show decode prog_1_method_1_code 162 = .ok (.aload_n 0, 1) by decide +kernel) rfl (lv_at hl 0 rfl) ?_
  refine lv_iconst hx hb (show decode prog_1_method_1_code 163 = .ok (.iconst 3, 1) by decide +kernel) (v := 3) rfl ?_
  refine k_newa (atype := .boolean) hx hb (hG _ (gk ck_2 207 rfl rfl)) (ty := .boolean) rfl (cA := cA 3) (hK.2 3 _ rfl).2 hP hD hS hA (N' := 3) (a0 := (3, .inl (fun _ => 0))) (fun _ => rfl) (by decide) (by decide) (Nat.le_of_ble_eq_true rfl) (Nat.le_of_ble_eq_true rfl) (Nat.le_of_ble_eq_true rfl) hz0 (show decode prog_1_method_1_code 164 = .ok (.newarray .boolean, 2) by decide +kernel) (fun H1 z1 hP1 hD1 hS1 => ?_)
  clear hz0
  have hz0 : H1.size = h0 + 106 := z1
  clear z1
  have hP : va_P D vwCl ((h0 + 59, .inl (cA 5, (3, .inr (.inr (.inr (.inr (va_up (va_up (va_up (fun _ => none) ((0 : Int32).toNatClampNeg) (some (h0 + 60))) ((1 : Int32).toNatClampNeg) (some (h0 + 75))) ((2 : Int32).toNatClampNeg) (some (h0 + 90))))))))) :: ((h0, .inr (8, [.ref (h0 + 1), .ref (h0 + 3), .ref (h0 + 19), .ref (h0 + 34), .ref (h0 + 40), .ref (h0 + 46), .ref (h0 + 49), .ref (h0 + 57), .ref (h0 + 59), .null])) :: ((((((((((((wwTa cA (h0 + 1) (h0 + 2)) ++ wwRe cA (h0 + 3) (h0 + 4) ((h0 + 1))) ++ wwLa cA (h0 + 19) (h0 + 20)) ++ wwCo cA (h0 + 34) (h0 + 35) ((h0 + 19))) ++ wwCo cA (h0 + 40) (h0 + 41) ((h0 + 19))) ++ wwCh cA (h0 + 46) (h0 + 47) ((h0 + 19)) ((h0 + 34))) ++ wwSl cA (h0 + 49) (h0 + 50)) ++ wwSi cA (h0 + 57) (h0 + 58) ((h0 + 19)) ((h0 + 40)) ((h0 + 49))) ++ wwLa cA (h0 + 60) (h0 + 61)) ++ wwLa cA (h0 + 75) (h0 + 76)) ++ wwLa cA (h0 + 90) (h0 + 91)) ++ [(h0 + 105, .inl (cA 3, (3, .inl (fun _ => 0))))]))) H1 := hP1
  have hD : va_D A ((h0 + 59, .inl (cA 5, (3, .inr (.inr (.inr (.inr (va_up (va_up (va_up (fun _ => none) ((0 : Int32).toNatClampNeg) (some (h0 + 60))) ((1 : Int32).toNatClampNeg) (some (h0 + 75))) ((2 : Int32).toNatClampNeg) (some (h0 + 90))))))))) :: ((h0, .inr (8, [.ref (h0 + 1), .ref (h0 + 3), .ref (h0 + 19), .ref (h0 + 34), .ref (h0 + 40), .ref (h0 + 46), .ref (h0 + 49), .ref (h0 + 57), .ref (h0 + 59), .null])) :: ((((((((((((wwTa cA (h0 + 1) (h0 + 2)) ++ wwRe cA (h0 + 3) (h0 + 4) ((h0 + 1))) ++ wwLa cA (h0 + 19) (h0 + 20)) ++ wwCo cA (h0 + 34) (h0 + 35) ((h0 + 19))) ++ wwCo cA (h0 + 40) (h0 + 41) ((h0 + 19))) ++ wwCh cA (h0 + 46) (h0 + 47) ((h0 + 19)) ((h0 + 34))) ++ wwSl cA (h0 + 49) (h0 + 50)) ++ wwSi cA (h0 + 57) (h0 + 58) ((h0 + 19)) ((h0 + 40)) ((h0 + 49))) ++ wwLa cA (h0 + 60) (h0 + 61)) ++ wwLa cA (h0 + 75) (h0 + 76)) ++ wwLa cA (h0 + 90) (h0 + 91)) ++ [(h0 + 105, .inl (cA 3, (3, .inl (fun _ => 0))))]))) := hD1
  have hS := hS1
  clear hP1 hD1 hS1
  refine k_put hx hb hG inw8 tyX8 tyX8_ok nmX8 hown hK hP hD hS 1 rfl rfl 9 (by decide) (hG _ (gk ck_2 185 rfl rfl)) (fun _ h => h) (Or.inr ⟨rfl, hin, rfl⟩) (tyX8_ok 9 (by decide)) rfl rfl (Nat.le_of_ble_eq_true rfl) hz0 (show decode prog_1_method_1_code 166 = .ok (.putfield 73, 3) by decide +kernel) (fun H1 locs1 z1 hP1 hD1 hS1 => ?_)
  clear hz0
  have hz0 : H1.size = h0 + 106 := z1
  clear z1
  have hP : va_P D vwCl ((h0 + 59, .inl (cA 5, (3, .inr (.inr (.inr (.inr (va_up (va_up (va_up (fun _ => none) ((0 : Int32).toNatClampNeg) (some (h0 + 60))) ((1 : Int32).toNatClampNeg) (some (h0 + 75))) ((2 : Int32).toNatClampNeg) (some (h0 + 90))))))))) :: ((h0, .inr (8, [.ref (h0 + 1), .ref (h0 + 3), .ref (h0 + 19), .ref (h0 + 34), .ref (h0 + 40), .ref (h0 + 46), .ref (h0 + 49), .ref (h0 + 57), .ref (h0 + 59), .ref (h0 + 105)])) :: ((((((((((((wwTa cA (h0 + 1) (h0 + 2)) ++ wwRe cA (h0 + 3) (h0 + 4) ((h0 + 1))) ++ wwLa cA (h0 + 19) (h0 + 20)) ++ wwCo cA (h0 + 34) (h0 + 35) ((h0 + 19))) ++ wwCo cA (h0 + 40) (h0 + 41) ((h0 + 19))) ++ wwCh cA (h0 + 46) (h0 + 47) ((h0 + 19)) ((h0 + 34))) ++ wwSl cA (h0 + 49) (h0 + 50)) ++ wwSi cA (h0 + 57) (h0 + 58) ((h0 + 19)) ((h0 + 40)) ((h0 + 49))) ++ wwLa cA (h0 + 60) (h0 + 61)) ++ wwLa cA (h0 + 75) (h0 + 76)) ++ wwLa cA (h0 + 90) (h0 + 91)) ++ [(h0 + 105, .inl (cA 3, (3, .inl (fun _ => 0))))]))) H1 := hP1
  have hD : va_D A ((h0 + 59, .inl (cA 5, (3, .inr (.inr (.inr (.inr (va_up (va_up (va_up (fun _ => none) ((0 : Int32).toNatClampNeg) (some (h0 + 60))) ((1 : Int32).toNatClampNeg) (some (h0 + 75))) ((2 : Int32).toNatClampNeg) (some (h0 + 90))))))))) :: ((h0, .inr (8, [.ref (h0 + 1), .ref (h0 + 3), .ref (h0 + 19), .ref (h0 + 34), .ref (h0 + 40), .ref (h0 + 46), .ref (h0 + 49), .ref (h0 + 57), .ref (h0 + 59), .ref (h0 + 105)])) :: ((((((((((((wwTa cA (h0 + 1) (h0 + 2)) ++ wwRe cA (h0 + 3) (h0 + 4) ((h0 + 1))) ++ wwLa cA (h0 + 19) (h0 + 20)) ++ wwCo cA (h0 + 34) (h0 + 35) ((h0 + 19))) ++ wwCo cA (h0 + 40) (h0 + 41) ((h0 + 19))) ++ wwCh cA (h0 + 46) (h0 + 47) ((h0 + 19)) ((h0 + 34))) ++ wwSl cA (h0 + 49) (h0 + 50)) ++ wwSi cA (h0 + 57) (h0 + 58) ((h0 + 19)) ((h0 + 40)) ((h0 + 49))) ++ wwLa cA (h0 + 60) (h0 + 61)) ++ wwLa cA (h0 + 75) (h0 + 76)) ++ wwLa cA (h0 + 90) (h0 + 91)) ++ [(h0 + 105, .inl (cA 3, (3, .inl (fun _ => 0))))]))) := hD1
  have hS := hS1
  clear hP1 hD1 hS1
  have hW0 : va_P D vwCl (wE cA h0) H1 := hP
  have hV0 := e_P (b := b) (fa := fa) (adK := adK) k0 xs hW0
  clear hP hD
  refine lv_aload_n hx hb (show decode prog_1_method_1_code 169 = .ok (.aload_n 0, 1) by decide +kernel) rfl (lv_at hl 0 rfl) ?_
  refine va_get hx hb hG inw8 hown hK hV0 0 rfl rfl 3 (by decide) (hG _ (gk ck_2 179 rfl rfl)) (fun _ h => h) (v := .ref (h0 + 34)) rfl (show decode prog_1_method_1_code 170 = .ok (.getfield 37, 3) by decide +kernel) ?_
  have q1 : mMt (v1 D cA h0 b fa adK) l GW0 μ0 (Z0 adK adV) 1 n_Co_reset [.ref 20] (f0 k0 xs) (.null, τ1) := v1_met (by decide +kernel) (by decide +kernel) (by decide +kernel) r1
  refine va_callv (a := [Value.ref (h0 + 34)].toArray) (S := Unit) (post := fun _ => True) (B := fun _ t => va_P D vwCl (vW (v1 D cA h0 b fa adK) τ1) t.heap) (A1 := vA (v1 D cA h0 b fa adK)) (va_runV (C := "EnemyLetters$Course") (b := h0 + 34) (As := []) (rest := []) ⟨hx, hb, hml, hown, hG⟩ q1 ⟨callB_of 0 hG (gw_in (y := ⟨"EnemyLetters$Course", "reset", "()V"⟩) (gk ck_2 95 rfl rfl)) rfl rfl rfl (hG _ (gk ck_1 6 rfl rfl)) (hG _ (gk ck_2 92 rfl rfl)) ⟨by decide, by decide, by decide +kernel⟩ ⟨Nat.le_of_ble_eq_true rfl, Nat.le_of_ble_eq_true rfl⟩, hG _ (gk ck_2 93 rfl rfl), hG _ (gk ck_2 94 rfl rfl)⟩ ⟨mBlind (Z0_ok adK adV) _ _, va_recv hK hV0 (ci := 1) (q0 := 19) rfl rfl, e_mPre hK hV0 hS.1 (fun q h1 h2 => hS.2.1 q h1 (hAN q h1 h2)) hZ⟩ rfl rfl hl.1 rfl (lv_room (Nat.le_of_ble_eq_true rfl)) (show decode prog_1_method_1_code 173 = .ok (.invokevirtual 77, 3) by decide +kernel) ⟨Nat.le_of_ble_eq_true rfl, Nat.le_of_ble_eq_true rfl⟩) hS (fun q _ h => hAV q h) (fun q h => hAV q h) (fun u t H2 locs2 ht hvm hw hB hy1 hk1 hS1 => ?_)
  rw [ht] at hB
  have hZ1 := mZt_rows hZ r3.1 r3.2.1 r3.2.2
  refine lv_aload_n hx hb (show decode prog_1_method_1_code 176 = .ok (.aload_n 0, 1) by decide +kernel) rfl (lv_at hl 0 rfl) ?_
  refine va_get hx hb hG inw8 hown hK hB 0 rfl rfl 3 (by decide) (hG _ (gk ck_2 179 rfl rfl)) (fun _ h => h) (v := .ref (h0 + 34)) rfl (show decode prog_1_method_1_code 177 = .ok (.getfield 37, 3) by decide +kernel) ?_
  have q2 : mMt (v1 D cA h0 b fa adK) l GW0 μ0 (Z0 adK adV) 2 n_Co_run [.ref 20] τ1 (.null, τ2) := v1_met (by decide +kernel) (by decide +kernel) (by decide +kernel) r2
  refine va_callv (a := [Value.ref (h0 + 34)].toArray) (S := Unit) (post := fun _ => True) (B := fun _ t => va_P D vwCl (vW (v1 D cA h0 b fa adK) τ2) t.heap) (A1 := vA (v1 D cA h0 b fa adK)) (va_runV (C := "EnemyLetters$Course") (b := h0 + 34) (As := []) (rest := []) ⟨hx, hb, hml, hown, hG⟩ q2 ⟨callB_of 0 hG (gw_in (y := ⟨"EnemyLetters$Course", "run", "()V"⟩) (gk ck_2 105 rfl rfl)) rfl rfl rfl (hG _ (gk ck_1 6 rfl rfl)) (hG _ (gk ck_2 102 rfl rfl)) ⟨by decide, by decide, by decide +kernel⟩ ⟨Nat.le_of_ble_eq_true rfl, Nat.le_of_ble_eq_true rfl⟩, hG _ (gk ck_2 103 rfl rfl), hG _ (gk ck_2 104 rfl rfl)⟩ ⟨mBlind (Z0_ok adK adV) _ _, va_recv hK hB (ci := 1) (q0 := 19) rfl rfl, e_mPre hK hB hS1.1 (fun q h1 h2 => hS1.2.1 q h1 (hAN q h1 h2)) hZ1⟩ rfl rfl hl.1 rfl (lv_room (Nat.le_of_ble_eq_true rfl)) (show decode prog_1_method_1_code 180 = .ok (.invokevirtual 80, 3) by decide +kernel) ⟨Nat.le_of_ble_eq_true rfl, Nat.le_of_ble_eq_true rfl⟩) hS1 (fun q _ h => hAV q h) (fun q h => hAV q h) (fun u t H3 locs3 ht hvm hw hB2 hy2 hk2 hS2 => ?_)
  rw [ht] at hB2
  refine k_size (fun hsz => ?_)
  have hz3 : H3.size = h0 + 106 := by
    have h3 : H3.size ≤ s.heap.size + 105 := hsz
    omega
  exact W.vret hx hb hr (fun t ht _ => ⟨⟨(), rfl, trivial, by rw [ht]; exact hz3, by rw [ht]; exact hB2⟩, by rw [hAe]; exact hS2.F ht⟩) (by rw [hAe]; exact hS2.2.2) (show decode prog_1_method_1_code 183 = .ok (.return_, 1) by decide +kernel) hlocks
end ME2

