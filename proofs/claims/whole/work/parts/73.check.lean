/-! ===== every entry of the tables is what the rows need ===== -/
noncomputable def mChk (m pc : Nat) (e : mE) : Bool := match e with
  | (.iconst n, _, c) => decide (decode (muC m) pc = .ok (.iconst n, 1)) && decide (c = .int (Int32.ofInt n))
  | (.lconst n, _, c) => decide (decode (muC m) pc = .ok (.lconst n, 1)) && decide (c = .long (Int64.ofNat (n : Nat)))
  | (.bipush n, _, c) => decide (decode (muC m) pc = .ok (.bipush n, 2)) && decide (c = .int (Int8.ofInt n).toInt32)
  | (.sipush n, _, c) => decide (decode (muC m) pc = .ok (.sipush n, 3)) && decide (c = .int (Int16.ofInt n).toInt32)
  | (.ldc i, _, c) => decide (decode (muC m) pc = .ok (.ldc i, 2)) && (match c with | .int x => decide ((muO m, i, x) ∈ CIs) | .ref k => decide ((muO m, i, k) ∈ SOs) | _ => false)
  | (.ldc_w i, _, c) => decide (decode (muC m) pc = .ok (.ldc_w i, 3)) && (match c with | .int x => decide ((muO m, i, x) ∈ CIs) | _ => false)
  | (.ldc2_w i, _, c) => decide (decode (muC m) pc = .ok (.ldc2_w i, 3)) && (match c with | .long x => decide ((muO m, i, x) ∈ CLs) | _ => false)
  | (.getstatic i, _, c) => decide (decode (muC m) pc = .ok (.getstatic i, 3)) && (decide (c = .ref 301) && (Nat.beq (muO m) 9 && Nat.beq i 294))
  | (.iload_n n, D, _) => decide (decode (muC m) pc = .ok (.iload_n n, 1)) && Nat.beq (mNth D 0) n
  | (.iload n, D, _) => decide (decode (muC m) pc = .ok (.iload n, 2)) && Nat.beq (mNth D 0) n
  | (.lload_n n, D, _) => decide (decode (muC m) pc = .ok (.lload_n n, 1)) && Nat.beq (mNth D 0) n
  | (.lload n, D, _) => decide (decode (muC m) pc = .ok (.lload n, 2)) && Nat.beq (mNth D 0) n
  | (.aload_n n, D, _) => decide (decode (muC m) pc = .ok (.aload_n n, 1)) && Nat.beq (mNth D 0) n
  | (.aload n, D, _) => decide (decode (muC m) pc = .ok (.aload n, 2)) && Nat.beq (mNth D 0) n
  | (.istore_n n, D, _) => decide (decode (muC m) pc = .ok (.istore_n n, 1)) && (Nat.beq (mNth D 0) n && Nat.blt (mNth D 0) (muL m))
  | (.istore n, D, _) => decide (decode (muC m) pc = .ok (.istore n, 2)) && (Nat.beq (mNth D 0) n && Nat.blt (mNth D 0) (muL m))
  | (.lstore_n n, D, _) => decide (decode (muC m) pc = .ok (.lstore_n n, 1)) && (Nat.beq (mNth D 0) n && Nat.blt (mNth D 0 + 1) (muL m))
  | (.lstore n, D, _) => decide (decode (muC m) pc = .ok (.lstore n, 2)) && (Nat.beq (mNth D 0) n && Nat.blt (mNth D 0 + 1) (muL m))
  | (.astore_n n, D, _) => decide (decode (muC m) pc = .ok (.astore_n n, 1)) && (Nat.beq (mNth D 0) n && Nat.blt (mNth D 0) (muL m))
  | (.astore n, D, _) => decide (decode (muC m) pc = .ok (.astore n, 2)) && (Nat.beq (mNth D 0) n && Nat.blt (mNth D 0) (muL m))
  | (.iinc n x, D, c) => decide (decode (muC m) pc = .ok (.iinc n x, 3)) && (Nat.beq (mNth D 0) n && (Nat.blt (mNth D 0) (muL m) && decide (c = .int (Int32.ofInt x))))
  | (.iadd, _, _) => decide (decode (muC m) pc = .ok (.iadd, 1))
  | (.isub, _, _) => decide (decode (muC m) pc = .ok (.isub, 1))
  | (.imul, _, _) => decide (decode (muC m) pc = .ok (.imul, 1))
  | (.iand, _, _) => decide (decode (muC m) pc = .ok (.iand, 1))
  | (.ior, _, _) => decide (decode (muC m) pc = .ok (.ior, 1))
  | (.ixor, _, _) => decide (decode (muC m) pc = .ok (.ixor, 1))
  | (.ishl, _, _) => decide (decode (muC m) pc = .ok (.ishl, 1))
  | (.ishr, _, _) => decide (decode (muC m) pc = .ok (.ishr, 1))
  | (.iushr, _, _) => decide (decode (muC m) pc = .ok (.iushr, 1))
  | (.idiv, _, _) => decide (decode (muC m) pc = .ok (.idiv, 1))
  | (.irem, _, _) => decide (decode (muC m) pc = .ok (.irem, 1))
  | (.ineg, _, _) => decide (decode (muC m) pc = .ok (.ineg, 1))
  | (.ladd, _, _) => decide (decode (muC m) pc = .ok (.ladd, 1))
  | (.lsub, _, _) => decide (decode (muC m) pc = .ok (.lsub, 1))
  | (.lmul, _, _) => decide (decode (muC m) pc = .ok (.lmul, 1))
  | (.land, _, _) => decide (decode (muC m) pc = .ok (.land, 1))
  | (.lor, _, _) => decide (decode (muC m) pc = .ok (.lor, 1))
  | (.ldiv, _, _) => decide (decode (muC m) pc = .ok (.ldiv, 1))
  | (.lrem, _, _) => decide (decode (muC m) pc = .ok (.lrem, 1))
  | (.lshl, _, _) => decide (decode (muC m) pc = .ok (.lshl, 1))
  | (.lshr, _, _) => decide (decode (muC m) pc = .ok (.lshr, 1))
  | (.lcmp, _, _) => decide (decode (muC m) pc = .ok (.lcmp, 1))
  | (.i2l, _, _) => decide (decode (muC m) pc = .ok (.i2l, 1))
  | (.l2i, _, _) => decide (decode (muC m) pc = .ok (.l2i, 1))
  | (.i2b, _, _) => decide (decode (muC m) pc = .ok (.i2b, 1))
  | (.dup, _, _) => decide (decode (muC m) pc = .ok (.dup, 1))
  | (.dup2, _, _) => decide (decode (muC m) pc = .ok (.dup2, 1))
  | (.pop, _, _) => decide (decode (muC m) pc = .ok (.pop, 1))
  | (.iaload, _, _) => decide (decode (muC m) pc = .ok (.iaload, 1))
  | (.baload, _, _) => decide (decode (muC m) pc = .ok (.baload, 1))
  | (.laload, _, _) => decide (decode (muC m) pc = .ok (.laload, 1))
  | (.aaload, _, _) => decide (decode (muC m) pc = .ok (.aaload, 1))
  | (.iastore, _, _) => decide (decode (muC m) pc = .ok (.iastore, 1))
  | (.bastore, _, _) => decide (decode (muC m) pc = .ok (.bastore, 1))
  | (.lastore, _, _) => decide (decode (muC m) pc = .ok (.lastore, 1))
  | (.arraylength, _, _) => decide (decode (muC m) pc = .ok (.arraylength, 1))
  | (.lreturn, _, _) => decide (decode (muC m) pc = .ok (.lreturn, 1)) && decide (muR m = some .long)
  | (.return_, _, _) => decide (decode (muC m) pc = .ok (.return_, 1)) && decide (muR m = none)
  | (.ireturn, D, _) => decide (decode (muC m) pc = .ok (.ireturn, 1)) && decide (mNth D 0 = 0 ∧ muR m = some .int ∨ mNth D 0 ≠ 0 ∧ muR m = some .boolean)
  | (.if_icmp cd off, D, _) => decide (decode (muC m) pc = .ok (.if_icmp cd off, 3)) && decide ((pc : Int) + off = (mNth D 0 : Int))
  | (.ifCond cd off, D, _) => decide (decode (muC m) pc = .ok (.ifCond cd off, 3)) && decide ((pc : Int) + off = (mNth D 0 : Int))
  | (.goto off, D, _) => decide (decode (muC m) pc = .ok (.goto off, 3)) && decide ((pc : Int) + off = (mNth D 0 : Int))
  | (.tableswitch df lo hi offs, D, _) => (match decode (muC m) pc with | .ok (i, _) => decide (i = .tableswitch df lo hi offs) | _ => false) && (decide ((pc : Int) + df = (mNth D 0 : Int)) && (decide (hi - lo < offs.size) && (List.range offs.size).all (fun j => match offs[j]? with | some off => decide ((pc : Int) + off = (mNth D (j + 1) : Int)) | none => false)))
  | (.getfield i, D, _) => decide (decode (muC m) pc = .ok (.getfield i, 3)) && decide ((muO m, i, mNth D 0, mNth D 1, mNth D 2) ∈ FLg)
  | (.putfield i, D, _) => decide (decode (muC m) pc = .ok (.putfield i, 3)) && decide ((muO m, i, mNth D 0, mNth D 1, mNth D 2) ∈ FLp)
  | (.invokevirtual i, D, _) => decide (decode (muC m) pc = .ok (.invokevirtual i, 3)) && (decide ((0, muO m, i, D) ∈ ILs) || decide ((muO m, i, mNth D 0) ∈ SLs))
  | (.invokestatic i, D, _) => decide (decode (muC m) pc = .ok (.invokestatic i, 3)) && (decide ((1, muO m, i, D) ∈ ILs) || (decide ((2, muO m, i, D) ∈ ILs) || decide ((muO m, i, D) ∈ LBs)))
  | _ => false
def SO0 (own : String) (i k : Nat) : Prop := ∃ c, own = cn c ∧ (c, i, k) ∈ SOs
def SL0 (own : String) (i k : Nat) : Prop := ∃ c, own = cn c ∧ (c, i, k) ∈ SLs
theorem andT {a b : Bool} (h : (a && b) = true) : a = true ∧ b = true := by rwa [Bool.and_eq_true] at h
theorem bltT {a b : Nat} (h : Nat.blt a b = true) : a < b := Nat.blt_eq.mp h
set_option maxHeartbeats 4000000 in
theorem mChk_ok (m pc : Nat) (e : mE) (h : mChk m pc e = true) : mOK GW0 NW0 vwCl nf0 ft0 μ0 SO0 SL0 m pc e := by
  obtain ⟨i, D, c⟩ := e
  cases i with
  | iconst n => exact ⟨of_decide_eq_true (andT h).1, of_decide_eq_true (andT h).2⟩
  | lconst n => exact ⟨of_decide_eq_true (andT h).1, of_decide_eq_true (andT h).2⟩
  | bipush n => exact ⟨of_decide_eq_true (andT h).1, of_decide_eq_true (andT h).2⟩
  | sipush n => exact ⟨of_decide_eq_true (andT h).1, of_decide_eq_true (andT h).2⟩
  | ldc n =>
    refine ⟨of_decide_eq_true (andT h).1, ?_⟩
    have h2 := (andT h).2
    cases c with
    | int x => exact CIs_ok (muO m, n, x) (of_decide_eq_true h2)
    | ref k => exact ⟨muO m, rfl, of_decide_eq_true h2⟩
    | _ => cases h2
  | ldc_w n =>
    refine ⟨of_decide_eq_true (andT h).1, ?_⟩
    have h2 := (andT h).2
    cases c with
    | int x => exact CIs_ok (muO m, n, x) (of_decide_eq_true h2)
    | _ => cases h2
  | ldc2_w n =>
    refine ⟨of_decide_eq_true (andT h).1, ?_⟩
    have h2 := (andT h).2
    cases c with
    | long x => exact CLs_ok (muO m, n, x) (of_decide_eq_true h2)
    | _ => cases h2
  | getstatic n =>
    refine ⟨of_decide_eq_true (andT h).1, of_decide_eq_true (andT (andT h).2).1, ?_⟩
    have h2 := andT (andT (andT h).2).2
    have e1 := beqT h2.1
    have e2 := beqT h2.2
    show Cond.fieldLink (cn (muO m)) n _ _ _ ∈ GW0
    rw [e1, e2]
    exact fac0
  | iload_n n => exact ⟨of_decide_eq_true (andT h).1, beqT (andT h).2⟩
  | iload n => exact ⟨of_decide_eq_true (andT h).1, beqT (andT h).2⟩
  | lload_n n => exact ⟨of_decide_eq_true (andT h).1, beqT (andT h).2⟩
  | lload n => exact ⟨of_decide_eq_true (andT h).1, beqT (andT h).2⟩
  | aload_n n => exact ⟨of_decide_eq_true (andT h).1, beqT (andT h).2⟩
  | aload n => exact ⟨of_decide_eq_true (andT h).1, beqT (andT h).2⟩
  | istore_n n => exact ⟨of_decide_eq_true (andT h).1, beqT (andT (andT h).2).1, bltT (andT (andT h).2).2⟩
  | istore n => exact ⟨of_decide_eq_true (andT h).1, beqT (andT (andT h).2).1, bltT (andT (andT h).2).2⟩
  | lstore_n n => exact ⟨of_decide_eq_true (andT h).1, beqT (andT (andT h).2).1, bltT (andT (andT h).2).2⟩
  | lstore n => exact ⟨of_decide_eq_true (andT h).1, beqT (andT (andT h).2).1, bltT (andT (andT h).2).2⟩
  | astore_n n => exact ⟨of_decide_eq_true (andT h).1, beqT (andT (andT h).2).1, bltT (andT (andT h).2).2⟩
  | astore n => exact ⟨of_decide_eq_true (andT h).1, beqT (andT (andT h).2).1, bltT (andT (andT h).2).2⟩
  | iinc n x => exact ⟨of_decide_eq_true (andT h).1, beqT (andT (andT h).2).1, bltT (andT (andT (andT h).2).2).1, of_decide_eq_true (andT (andT (andT h).2).2).2⟩
  | iadd => exact (of_decide_eq_true h : decode (muC m) pc = .ok (.iadd, 1))
  | isub => exact (of_decide_eq_true h : decode (muC m) pc = .ok (.isub, 1))
  | imul => exact (of_decide_eq_true h : decode (muC m) pc = .ok (.imul, 1))
  | iand => exact (of_decide_eq_true h : decode (muC m) pc = .ok (.iand, 1))
  | ior => exact (of_decide_eq_true h : decode (muC m) pc = .ok (.ior, 1))
  | ixor => exact (of_decide_eq_true h : decode (muC m) pc = .ok (.ixor, 1))
  | ishl => exact (of_decide_eq_true h : decode (muC m) pc = .ok (.ishl, 1))
  | ishr => exact (of_decide_eq_true h : decode (muC m) pc = .ok (.ishr, 1))
  | iushr => exact (of_decide_eq_true h : decode (muC m) pc = .ok (.iushr, 1))
  | idiv => exact (of_decide_eq_true h : decode (muC m) pc = .ok (.idiv, 1))
  | irem => exact (of_decide_eq_true h : decode (muC m) pc = .ok (.irem, 1))
  | ineg => exact (of_decide_eq_true h : decode (muC m) pc = .ok (.ineg, 1))
  | ladd => exact (of_decide_eq_true h : decode (muC m) pc = .ok (.ladd, 1))
  | lsub => exact (of_decide_eq_true h : decode (muC m) pc = .ok (.lsub, 1))
  | lmul => exact (of_decide_eq_true h : decode (muC m) pc = .ok (.lmul, 1))
  | land => exact (of_decide_eq_true h : decode (muC m) pc = .ok (.land, 1))
  | lor => exact (of_decide_eq_true h : decode (muC m) pc = .ok (.lor, 1))
  | ldiv => exact (of_decide_eq_true h : decode (muC m) pc = .ok (.ldiv, 1))
  | lrem => exact (of_decide_eq_true h : decode (muC m) pc = .ok (.lrem, 1))
  | lshl => exact (of_decide_eq_true h : decode (muC m) pc = .ok (.lshl, 1))
  | lshr => exact (of_decide_eq_true h : decode (muC m) pc = .ok (.lshr, 1))
  | lcmp => exact (of_decide_eq_true h : decode (muC m) pc = .ok (.lcmp, 1))
  | i2l => exact (of_decide_eq_true h : decode (muC m) pc = .ok (.i2l, 1))
  | l2i => exact (of_decide_eq_true h : decode (muC m) pc = .ok (.l2i, 1))
  | i2b => exact (of_decide_eq_true h : decode (muC m) pc = .ok (.i2b, 1))
  | dup => exact (of_decide_eq_true h : decode (muC m) pc = .ok (.dup, 1))
  | dup2 => exact (of_decide_eq_true h : decode (muC m) pc = .ok (.dup2, 1))
  | pop => exact (of_decide_eq_true h : decode (muC m) pc = .ok (.pop, 1))
  | iaload => exact (of_decide_eq_true h : decode (muC m) pc = .ok (.iaload, 1))
  | baload => exact (of_decide_eq_true h : decode (muC m) pc = .ok (.baload, 1))
  | laload => exact (of_decide_eq_true h : decode (muC m) pc = .ok (.laload, 1))
  | aaload => exact (of_decide_eq_true h : decode (muC m) pc = .ok (.aaload, 1))
  | iastore => exact (of_decide_eq_true h : decode (muC m) pc = .ok (.iastore, 1))
  | bastore => exact (of_decide_eq_true h : decode (muC m) pc = .ok (.bastore, 1))
  | lastore => exact (of_decide_eq_true h : decode (muC m) pc = .ok (.lastore, 1))
  | arraylength => exact (of_decide_eq_true h : decode (muC m) pc = .ok (.arraylength, 1))
  | lreturn => exact ⟨of_decide_eq_true (andT h).1, of_decide_eq_true (andT h).2⟩
  | return_ => exact ⟨of_decide_eq_true (andT h).1, of_decide_eq_true (andT h).2⟩
  | ireturn => exact ⟨of_decide_eq_true (andT h).1, of_decide_eq_true (andT h).2⟩
  | if_icmp cd off => exact ⟨of_decide_eq_true (andT h).1, of_decide_eq_true (andT h).2⟩
  | ifCond cd off => exact ⟨of_decide_eq_true (andT h).1, of_decide_eq_true (andT h).2⟩
  | goto off => exact ⟨of_decide_eq_true (andT h).1, of_decide_eq_true (andT h).2⟩
  | tableswitch df lo hi offs =>
    have h2 := andT (andT (andT h).2).2
    refine ⟨?_, of_decide_eq_true (andT (andT h).2).1, of_decide_eq_true h2.1, fun j hj => ?_⟩
    · have h1 := (andT h).1
      show ∃ len, decode (muC m) pc = _
      split at h1
      · rename_i i len e1
        rw [of_decide_eq_true h1] at e1
        exact ⟨len, e1⟩
      · cases h1
    · have h3 := List.all_eq_true.mp h2.2 j (List.mem_range.mpr hj)
      split at h3
      · rename_i off e1
        exact ⟨off, e1, of_decide_eq_true h3⟩
      · cases h3
  | getfield n => exact ⟨of_decide_eq_true (andT h).1, FLg_ok (muO m, n, mNth D 0, mNth D 1, mNth D 2) (of_decide_eq_true (andT h).2)⟩
  | putfield n => exact ⟨of_decide_eq_true (andT h).1, FLp_ok (muO m, n, mNth D 0, mNth D 1, mNth D 2) (of_decide_eq_true (andT h).2)⟩
  | invokevirtual n =>
    refine ⟨of_decide_eq_true (andT h).1, ?_⟩
    have h2 := (andT h).2
    rw [Bool.or_eq_true] at h2
    rcases h2 with h2 | h2
    · exact Or.inl (ILs_ok (0, muO m, n, D) (of_decide_eq_true h2))
    · exact Or.inr ⟨muO m, rfl, of_decide_eq_true h2⟩
  | invokestatic n =>
    refine ⟨of_decide_eq_true (andT h).1, ?_⟩
    have h2 := (andT h).2
    rw [Bool.or_eq_true, Bool.or_eq_true] at h2
    rcases h2 with h2 | h2 | h2
    · exact Or.inl (ILs_ok (1, muO m, n, D) (of_decide_eq_true h2))
    · exact Or.inr (Or.inl (ILs_ok (2, muO m, n, D) (of_decide_eq_true h2)))
    · exact Or.inr (Or.inr (LBs_ok (muO m, n, D) (of_decide_eq_true h2)))
  | _ => cases h
noncomputable def chkA (m pc : Nat) : Bool := match tb0 m pc with | none => true | some e => mChk m pc e
noncomputable def chkM (m : Nat) : Bool := (List.range (muE m)).all (fun pc => chkA m pc)
theorem chk_0 : (List.range 10).all (fun j => chkM (0 + j)) = true := by decide +kernel
theorem chk_1 : (List.range 10).all (fun j => chkM (10 + j)) = true := by decide +kernel
theorem chk_2 : (List.range 10).all (fun j => chkM (20 + j)) = true := by decide +kernel
theorem chk_3 : (List.range 10).all (fun j => chkM (30 + j)) = true := by decide +kernel
theorem chk_4 : (List.range 10).all (fun j => chkM (40 + j)) = true := by decide +kernel
theorem chk_5 : (List.range 10).all (fun j => chkM (50 + j)) = true := by decide +kernel
theorem chk_6 : (List.range 10).all (fun j => chkM (60 + j)) = true := by decide +kernel
theorem chk_7 : (List.range 10).all (fun j => chkM (70 + j)) = true := by decide +kernel
theorem chk_8 : (List.range 10).all (fun j => chkM (80 + j)) = true := by decide +kernel
theorem chk_9 : (List.range 10).all (fun j => chkM (90 + j)) = true := by decide +kernel
theorem chk_10 : (List.range 10).all (fun j => chkM (100 + j)) = true := by decide +kernel
theorem chk_11 : (List.range 10).all (fun j => chkM (110 + j)) = true := by decide +kernel
theorem chk_12 : (List.range 10).all (fun j => chkM (120 + j)) = true := by decide +kernel
theorem chk_13 : (List.range 10).all (fun j => chkM (130 + j)) = true := by decide +kernel
theorem chk_14 : (List.range 10).all (fun j => chkM (140 + j)) = true := by decide +kernel
theorem chk_15 : (List.range 10).all (fun j => chkM (150 + j)) = true := by decide +kernel
theorem chk_16_0 : chkM 160 = true := by decide +kernel
theorem chk_16_1 : chkM 161 = true := by decide +kernel
theorem chk_16_2 : chkM 162 = true := by decide +kernel
theorem chk_16_3 : chkM 163 = true := by decide +kernel
theorem chk_16_5 : chkM 165 = true := by decide +kernel
theorem chk_16_6 : chkM 166 = true := by decide +kernel
theorem chk_16_7 : chkM 167 = true := by decide +kernel
theorem chk_16_8 : chkM 168 = true := by decide +kernel
theorem chk_16_9 : chkM 169 = true := by decide +kernel
theorem chk_17 : (List.range 10).all (fun j => chkM (170 + j)) = true := by decide +kernel
theorem chk_18 : (List.range 10).all (fun j => chkM (180 + j)) = true := by decide +kernel
theorem chk_19 : (List.range 10).all (fun j => chkM (190 + j)) = true := by decide +kernel
theorem chk_20 : (List.range 10).all (fun j => chkM (200 + j)) = true := by decide +kernel
theorem chk_21 : (List.range 10).all (fun j => chkM (210 + j)) = true := by decide +kernel
theorem chk_22 : (List.range 10).all (fun j => chkM (220 + j)) = true := by decide +kernel
theorem chk_23 : (List.range 10).all (fun j => chkM (230 + j)) = true := by decide +kernel
theorem chk_24 : (List.range 10).all (fun j => chkM (240 + j)) = true := by decide +kernel
theorem chk_25 : (List.range 10).all (fun j => chkM (250 + j)) = true := by decide +kernel
theorem chk_26 : (List.range 10).all (fun j => chkM (260 + j)) = true := by decide +kernel
theorem chk_27 : (List.range 10).all (fun j => chkM (270 + j)) = true := by decide +kernel
theorem chk_28 : (List.range 10).all (fun j => chkM (280 + j)) = true := by decide +kernel
theorem chk_29 : (List.range 10).all (fun j => chkM (290 + j)) = true := by decide +kernel
theorem chk_30 : (List.range 10).all (fun j => chkM (300 + j)) = true := by decide +kernel
theorem chk_31 : (List.range 10).all (fun j => chkM (310 + j)) = true := by decide +kernel
theorem chk_32 : (List.range 3).all (fun j => chkM (320 + j)) = true := by decide +kernel
