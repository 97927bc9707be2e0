/-! ===== what holds at the start, more (by program) ===== -/
section ST
variable {s : State} {args : Array Value}
theorem sr_5_63 : Cond.stringRef (cn 5) 63 "land" ∈ lw_tbl := ck_3 _ (List.mem_of_getElem? (i := 8) rfl)
theorem sr_5_68 : Cond.stringRef (cn 5) 68 "years" ∈ lw_tbl := ck_3 _ (List.mem_of_getElem? (i := 69) rfl)
theorem sr_5_79 : Cond.stringRef (cn 5) 79 "law" ∈ lw_tbl := ck_3 _ (List.mem_of_getElem? (i := 74) rfl)
theorem sr_5_84 : Cond.stringRef (cn 5) 84 "odds" ∈ lw_tbl := ck_3 _ (List.mem_of_getElem? (i := 75) rfl)
theorem sr_5_88 : Cond.stringRef (cn 5) 88 "person" ∈ lw_tbl := ck_3 _ (List.mem_of_getElem? (i := 80) rfl)
theorem sr_5_96 : Cond.stringRef (cn 5) 96 "likes" ∈ lw_tbl := ck_3 _ (List.mem_of_getElem? (i := 90) rfl)
theorem sr_5_101 : Cond.stringRef (cn 5) 101 "hates" ∈ lw_tbl := ck_3 _ (List.mem_of_getElem? (i := 99) rfl)
theorem sr_5_103 : Cond.stringRef (cn 5) 103 "wrong" ∈ lw_tbl := ck_3 _ (List.mem_of_getElem? (i := 100) rfl)
theorem sr_5_108 : Cond.stringRef (cn 5) 108 "post" ∈ lw_tbl := ck_3 _ (List.mem_of_getElem? (i := 110) rfl)
theorem sr_5_148 : Cond.stringRef (cn 5) 148 "at" ∈ lw_tbl := ck_3 _ (List.mem_of_getElem? (i := 105) rfl)
theorem sr_10_186 : Cond.stringRef (cn 10) 186 "land" ∈ lw_tbl := ck_6 _ (List.mem_of_getElem? (i := 126) rfl)
theorem sr_10_188 : Cond.stringRef (cn 10) 188 "years" ∈ lw_tbl := ck_6 _ (List.mem_of_getElem? (i := 145) rfl)
theorem sr_10_194 : Cond.stringRef (cn 10) 194 "law" ∈ lw_tbl := ck_6 _ (List.mem_of_getElem? (i := 154) rfl)
theorem sr_10_196 : Cond.stringRef (cn 10) 196 "odds" ∈ lw_tbl := ck_6 _ (List.mem_of_getElem? (i := 155) rfl)
theorem sr_10_207 : Cond.stringRef (cn 10) 207 "at" ∈ lw_tbl := ck_6 _ (List.mem_of_getElem? (i := 192) rfl)
theorem sr_10_208 : Cond.stringRef (cn 10) 208 "person" ∈ lw_tbl := ck_6 _ (List.mem_of_getElem? (i := 160) rfl)
theorem sr_10_210 : Cond.stringRef (cn 10) 210 "likes" ∈ lw_tbl := ck_6 _ (List.mem_of_getElem? (i := 161) rfl)
theorem sr_10_212 : Cond.stringRef (cn 10) 212 "hates" ∈ lw_tbl := ck_6 _ (List.mem_of_getElem? (i := 162) rfl)
theorem sr_10_214 : Cond.stringRef (cn 10) 214 "wrong" ∈ lw_tbl := ck_6 _ (List.mem_of_getElem? (i := 163) rfl)
theorem sr_10_216 : Cond.stringRef (cn 10) 216 "post" ∈ lw_tbl := ck_6 _ (List.mem_of_getElem? (i := 164) rfl)
theorem nwt_0 : NW1[0]? = some NW1[0] ∧ NW1[0] ∈ lw_tbl := ⟨rfl, ck_1 _ (List.mem_of_getElem? (i := 29) rfl)⟩
theorem nwt_1 : NW1[1]? = some NW1[1] ∧ NW1[1] ∈ lw_tbl := ⟨rfl, ck_1 _ (List.mem_of_getElem? (i := 52) rfl)⟩
theorem nwt_2 : NW1[2]? = some NW1[2] ∧ NW1[2] ∈ lw_tbl := ⟨rfl, ck_1 _ (List.mem_of_getElem? (i := 206) rfl)⟩
theorem nwt_3 : NW1[3]? = some NW1[3] ∧ NW1[3] ∈ lw_tbl := ⟨rfl, ck_2 _ (List.mem_of_getElem? (i := 39) rfl)⟩
theorem nwt_4 : NW1[4]? = some NW1[4] ∧ NW1[4] ∈ lw_tbl := ⟨rfl, ck_2 _ (List.mem_of_getElem? (i := 154) rfl)⟩
theorem nwt_5 : NW1[5]? = some NW1[5] ∧ NW1[5] ∈ lw_tbl := ⟨rfl, ck_3 _ (List.mem_of_getElem? (i := 89) rfl)⟩
theorem nwt_6 : NW1[6]? = some NW1[6] ∧ NW1[6] ∈ lw_tbl := ⟨rfl, ck_4 _ (List.mem_of_getElem? (i := 167) rfl)⟩
theorem NW1_in : ∀ w ∈ NW1, w ∈ lw_tbl := List.forall_mem_cons.mpr ⟨nwt_0.2, List.forall_mem_cons.mpr ⟨nwt_1.2, List.forall_mem_cons.mpr ⟨nwt_2.2, List.forall_mem_cons.mpr ⟨nwt_3.2, List.forall_mem_cons.mpr ⟨nwt_4.2, List.forall_mem_cons.mpr ⟨nwt_5.2, List.forall_mem_cons.mpr ⟨nwt_6.2, fun _ h => absurd h List.not_mem_nil⟩⟩⟩⟩⟩⟩⟩
theorem ao_in : Cond.arrayOver (.object "EnemyLetters$Land") ∈ lw_tbl := ck_2 _ (List.mem_of_getElem? (i := 91) rfl)
theorem al_in : Cond.arrayOver (.array .long) ∈ lw_tbl := ck_2 _ (List.mem_of_getElem? (i := 44) rfl)
theorem ls_cs : Cond.laysStatic "java/lang/String" "COMPACT_STRINGS" "Z" ∈ lw_tbl := ck_3 _ (List.mem_of_getElem? (i := 26) rfl)
theorem ls_si : Cond.laysStatic "jdk/internal/util/Preconditions" "SIOOBE_FORMATTER" "Ljava/util/function/BiFunction;" ∈ lw_tbl := ck_3 _ (List.mem_of_getElem? (i := 42) rfl)
theorem ls_fa : Cond.laysStatic "EnemyLetters" "FACTORIALS" "[I" ∈ lw_tbl := ck_5 _ (List.mem_of_getElem? (i := 33) rfl)
theorem in_st : Cond.initialized "java/lang/String" ∈ lw_tbl := ck_1 _ (List.mem_of_getElem? (i := 15) rfl)
theorem in_pc : Cond.initialized "jdk/internal/util/Preconditions" ∈ lw_tbl := ck_1 _ (List.mem_of_getElem? (i := 17) rfl)
theorem in_el : Cond.initialized "EnemyLetters" ∈ lw_tbl := ck_1 _ (List.mem_of_getElem? (i := 1) rfl)
set_option maxHeartbeats 4000000 in
set_option maxRecDepth 100000 in
/-- the texts, the statics, the links -/
theorem st_Z (hts : ∀ w ∈ lw_tbl, w.before args s = true) (hg : (Jvm.Cond.and given_1 narrow_1).before args s = true) {A : Nat → Prop} (hA : ∀ a : Nat, a < s.heap.size → ¬ A a) : ∃ adK adV : Nat → Nat, Z0 adK adV A s s.heap := by
  have hs : ∀ c ∈ FL, c.before args s = true := flat_of_before _ hg
  obtain ⟨adK, adV, hV, hev⟩ := vk_Sof (args := args) (s := s) (N := 10) (tm := tmT) (len := tLen) (byt := tByt) (A := A) (by decide) (fun i hi => hs _ (fl_ex i hi)) (fun i hi => hs _ (fl_co i hi)) (fun i hi => hs _ (fl_ar i hi)) (fun i hi => hs _ (fl_le i hi)) (fun i hi j hj => hs _ (fl_el i hi j hj)) (fun i j hi hj hij => (fl_ne i hi j hj hij).elim (fun h => Or.inl (hs _ h)) (fun h => Or.inr (hs _ h))) hA
  refine ⟨adK, adV, ⟨hV, va_Zof (hts _ ls_cs) (hts _ in_st) (va_eqt (hs _ fl_cs)) hA, va_Zqof (hts _ ls_si) (hts _ in_pc) (hs _ fl_si) hA⟩, ?_, fun w hw => va_Nw.of (NW1_on w hw) (hts w (NW1_in w hw)), va_AO.of (hts _ ao_in), over_moved (Vm.Alike.refl _) (hts _ al_in)⟩
  exact List.forall_mem_cons.mpr ⟨vk_R.of (hts _ sr_5_63) (hev 0 (by decide)), List.forall_mem_cons.mpr ⟨vk_R.of (hts _ sr_5_68) (hev 1 (by decide)), List.forall_mem_cons.mpr ⟨vk_R.of (hts _ sr_5_79) (hev 2 (by decide)), List.forall_mem_cons.mpr ⟨vk_R.of (hts _ sr_5_84) (hev 3 (by decide)), List.forall_mem_cons.mpr ⟨vk_R.of (hts _ sr_5_88) (hev 4 (by decide)), List.forall_mem_cons.mpr ⟨vk_R.of (hts _ sr_5_96) (hev 5 (by decide)), List.forall_mem_cons.mpr ⟨vk_R.of (hts _ sr_5_101) (hev 6 (by decide)), List.forall_mem_cons.mpr ⟨vk_R.of (hts _ sr_5_103) (hev 7 (by decide)), List.forall_mem_cons.mpr ⟨vk_R.of (hts _ sr_5_108) (hev 8 (by decide)), List.forall_mem_cons.mpr ⟨vk_R.of (hts _ sr_5_148) (hev 9 (by decide)), List.forall_mem_cons.mpr ⟨vk_R.of (hts _ sr_10_186) (va_eqR (hs _ (fl_eq 0 (by decide))) (hev 0 (by decide))), List.forall_mem_cons.mpr ⟨vk_R.of (hts _ sr_10_188) (va_eqR (hs _ (fl_eq 1 (by decide))) (hev 1 (by decide))), List.forall_mem_cons.mpr ⟨vk_R.of (hts _ sr_10_194) (va_eqR (hs _ (fl_eq 2 (by decide))) (hev 2 (by decide))), List.forall_mem_cons.mpr ⟨vk_R.of (hts _ sr_10_196) (va_eqR (hs _ (fl_eq 3 (by decide))) (hev 3 (by decide))), List.forall_mem_cons.mpr ⟨vk_R.of (hts _ sr_10_207) (va_eqR (hs _ (fl_eq 9 (by decide))) (hev 9 (by decide))), List.forall_mem_cons.mpr ⟨vk_R.of (hts _ sr_10_208) (va_eqR (hs _ (fl_eq 4 (by decide))) (hev 4 (by decide))), List.forall_mem_cons.mpr ⟨vk_R.of (hts _ sr_10_210) (va_eqR (hs _ (fl_eq 5 (by decide))) (hev 5 (by decide))), List.forall_mem_cons.mpr ⟨vk_R.of (hts _ sr_10_212) (va_eqR (hs _ (fl_eq 6 (by decide))) (hev 6 (by decide))), List.forall_mem_cons.mpr ⟨vk_R.of (hts _ sr_10_214) (va_eqR (hs _ (fl_eq 7 (by decide))) (hev 7 (by decide))), List.forall_mem_cons.mpr ⟨vk_R.of (hts _ sr_10_216) (va_eqR (hs _ (fl_eq 8 (by decide))) (hev 8 (by decide))), fun _ h => absurd h List.not_mem_nil⟩⟩⟩⟩⟩⟩⟩⟩⟩⟩⟩⟩⟩⟩⟩⟩⟩⟩⟩⟩
theorem st_F (hts : ∀ w ∈ lw_tbl, w.before args s = true) (hg : (Jvm.Cond.and given_1 narrow_1).before args s = true) {A : Nat → Prop} (hA : ∀ a : Nat, a < s.heap.size → ¬ A a) : ∃ fa : Nat, va_Z "EnemyLetters" "FACTORIALS" "[I" (.ref fa) A s s.heap ∧ va_T .int fa 6 (fun j => .int (facR j)) A s s.heap := by
  have hs : ∀ c ∈ FL, c.before args s = true := flat_of_before _ hg
  obtain ⟨fa, he, hT⟩ := va_Tof (args := args) (s := s) (tm := tmF) (ty := .int) (N := 6) (f := fun j => .int (facR j)) (A := A) (by decide) (hs _ fl_fa) (va_eqt (hs _ fl_fl)) (fun j hj => va_eqt (hs _ (fl_fe j hj))) hA
  exact ⟨fa, va_Zref (hts _ ls_fa) (hts _ in_el) he hA, hT⟩
/-- classes and arrays, as the tables have them -/
theorem st_K (hts : ∀ w ∈ lw_tbl, w.before args s = true) : ∃ (D : va_G) (cA : Nat → ClassId), va_K D vwCl (mTy cA) s := by
  have hG : ∀ w ∈ GW0, w.before args s = true := fun w hw => hts w (GW0_in w hw)
  obtain ⟨c0, i0, k0⟩ := u_known (s := s) (args := args) hG inw0 (hG _ (gk ck_2 10 rfl rfl))
  obtain ⟨c1, i1, k1⟩ := u_known (s := s) (args := args) hG inw1 (hG _ (gk ck_1 208 rfl rfl))
  obtain ⟨c2, i2, k2⟩ := u_known (s := s) (args := args) hG inw2 (hG _ (gk ck_1 57 rfl rfl))
  obtain ⟨c3, i3, k3⟩ := u_known (s := s) (args := args) hG inw3 (hG _ (gk ck_1 51 rfl rfl))
  obtain ⟨c4, i4, k4⟩ := u_known (s := s) (args := args) hG inw4 (hG _ (gk ck_1 45 rfl rfl))
  obtain ⟨c5, i5, k5⟩ := u_known (s := s) (args := args) hG inw5 (hG _ (gk ck_2 61 rfl rfl))
  obtain ⟨c6, i6, k6⟩ := u_known (s := s) (args := args) hG inw6 (hG _ (gk ck_2 38 rfl rfl))
  obtain ⟨c7, i7, k7⟩ := u_known (s := s) (args := args) hG inw7 (hG _ (gk ck_1 28 rfl rfl))
  obtain ⟨c8, i8, k8⟩ := u_known (s := s) (args := args) hG inw8 (hG _ (gk ck_1 20 rfl rfl))
  obtain ⟨c9, i9, k9⟩ := u_known (s := s) (args := args) hG inw9 (hG _ (gk ck_5 175 rfl rfl))
  obtain ⟨aI, qI, pI, eI1, eI2, eI3⟩ := Cond.arrayClass_spec (hG _ (gk ck_1 86 rfl rfl))
  obtain ⟨aB, qB, pB, eB1, eB2, eB3⟩ := Cond.arrayClass_spec (hG _ (gk ck_1 43 rfl rfl))
  obtain ⟨aZ, qZ, pZ, eZ1, eZ2, eZ3⟩ := Cond.arrayClass_spec (hG _ (gk ck_2 207 rfl rfl))
  obtain ⟨aJ, qJ, pJ, eJ1, eJ2, eJ3⟩ := Cond.arrayClass_spec (hG _ (gk ck_2 59 rfl rfl))
  obtain ⟨pO, aO, qO, eO1, -, eO2, eO3, eO4⟩ := Cond.arrayOver_spec (hts _ ao_in)
  obtain ⟨pL, aL, qL, eL1, -, eL2, eL3, eL4⟩ := arrayOverA_spec (hts _ al_in)
  refine ⟨(fun c => match c with | 0 => c0 | 1 => c1 | 2 => c2 | 3 => c3 | 4 => c4 | 5 => c5 | 6 => c6 | 7 => c7 | 8 => c8 | _ => c9, fun c => match c with | 0 => i0 | 1 => i1 | 2 => i2 | 3 => i3 | 4 => i4 | 5 => i5 | 6 => i6 | 7 => i7 | 8 => i8 | _ => i9), (fun k => match k with | 0 => aI | 1 => aI | 2 => aB | 3 => aZ | 4 => aJ | 5 => aO | _ => aL), fun c q hq => ?_, fun k q hq => ?_⟩
  · match c, hq with
    | 0, hq => cases hq; exact k0
    | 1, hq => cases hq; exact k1
    | 2, hq => cases hq; exact k2
    | 3, hq => cases hq; exact k3
    | 4, hq => cases hq; exact k4
    | 5, hq => cases hq; exact k5
    | 6, hq => cases hq; exact k6
    | 7, hq => cases hq; exact k7
    | 8, hq => cases hq; exact k8
    | 9, hq => cases hq; exact k9
    | c + 10, hq => exact absurd hq (by simp [vwCl])
  · unfold mTy at hq
    match k, hq with
    | 0, hq => cases hq; exact ⟨fun n z => ⟨(fun k h => by cases h), qI, eI2, pI, eI3⟩, eI1⟩
    | 1, hq => cases hq; exact ⟨fun n z => ⟨(fun k h => by cases h), qI, eI2, pI, eI3⟩, eI1⟩
    | 2, hq => cases hq; exact ⟨fun n z => ⟨(fun k h => by cases h), qB, eB2, pB, eB3⟩, eB1⟩
    | 3, hq => cases hq; exact ⟨fun n z => ⟨(fun k h => by cases h), qZ, eZ2, pZ, eZ3⟩, eZ1⟩
    | 4, hq => cases hq; exact ⟨fun n z => ⟨(fun k h => by cases h), qJ, eJ2, pJ, eJ3⟩, eJ1⟩
    | 5, hq => cases hq; exact ⟨fun n z => ⟨(fun k h => by cases h), qO, eO2, pO, eO3⟩, qO, pO, eO2, eO3, eO1, eO4⟩
    | 6, hq => cases hq; exact ⟨fun n z => ⟨(fun k h => by cases h), qL, eL2, pL, eL3⟩, eL4⟩
    | k + 7, hq => exact absurd hq (by simp)
end ST
