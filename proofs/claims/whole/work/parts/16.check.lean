/-! ===== every entry of the tables is what the rows need ===== -/
noncomputable def mChk (m pc : Nat) (e : mE) : Bool := match e with
  | (.iconst n, _, c) => decide (decode (muC m) pc = .ok (.iconst n, 1)) && decide (c = .int (Int32.ofInt n))
  | (.lconst n, _, c) => decide (decode (muC m) pc = .ok (.lconst n, 1)) && decide (c = .long (Int64.ofNat (n : Nat)))
  | (.bipush n, _, c) => decide (decode (muC m) pc = .ok (.bipush n, 2)) && decide (c = .int (Int8.ofInt n).toInt32)
  | (.sipush n, _, c) => decide (decode (muC m) pc = .ok (.sipush n, 3)) && decide (c = .int (Int16.ofInt n).toInt32)
  | (.ldc i, _, c) => decide (decode (muC m) pc = .ok (.ldc i, 2)) && (match c with | .int x => decide ((muO m, i, x) ∈ CIs) | .ref k => decide ((muO m, i, k) ∈ SOs) | _ => false)
  | (.ldc_w i, _, c) => decide (decode (muC m) pc = .ok (.ldc_w i, 3)) && (match c with | .int x => decide ((muO m, i, x) ∈ CIs) | _ => false)
  | (.ldc2_w i, _, c) => decide (decode (muC m) pc = .ok (.ldc2_w i, 3)) && (match c with | .long x => decide ((muO m, i, x) ∈ CLs) | _ => false)
  | (.getstatic i, _, c) => decide (decode (muC m) pc = .ok (.getstatic i, 3)) && (decide (c = .ref 301) && (Nat.beq (muO m) 9 && Nat.beq i 294))
  | (.iload_n n, D, _) => decide (decode (muC m) pc = .ok (.iload_n n, 1)) && Nat.beq (mNth D 0) n
  | (.iload n, D, _) => decide (decode (muC m) pc = .ok (.iload n, 2)) && Nat.beq (mNth D 0) n
  | (.lload_n n, D, _) => decide (decode (muC m) pc = .ok (.lload_n n, 1)) && Nat.beq (mNth D 0) n
  | (.lload n, D, _) => decide (decode (muC m) pc = .ok (.lload n, 2)) && Nat.beq (mNth D 0) n
  | (.aload_n n, D, _) => decide (decode (muC m) pc = .ok (.aload_n n, 1)) && Nat.beq (mNth D 0) n
  | (.aload n, D, _) => decide (decode (muC m) pc = .ok (.aload n, 2)) && Nat.beq (mNth D 0) n
  | (.istore_n n, D, _) => decide (decode (muC m) pc = .ok (.istore_n n, 1)) && (Nat.beq (mNth D 0) n && Nat.blt (mNth D 0) (muL m))
  | (.istore n, D, _) => decide (decode (muC m) pc = .ok (.istore n, 2)) && (Nat.beq (mNth D 0) n && Nat.blt (mNth D 0) (muL m))
  | (.lstore_n n, D, _) => decide (decode (muC m) pc = .ok (.lstore_n n, 1)) && (Nat.beq (mNth D 0) n && Nat.blt (mNth D 0 + 1) (muL m))
  | (.lstore n, D, _) => decide (decode (muC m) pc = .ok (.lstore n, 2)) && (Nat.beq (mNth D 0) n && Nat.blt (mNth D 0 + 1) (muL m))
  | (.astore_n n, D, _) => decide (decode (muC m) pc = .ok (.astore_n n, 1)) && (Nat.beq (mNth D 0) n && Nat.blt (mNth D 0) (muL m))
  | (.astore n, D, _) => decide (decode (muC m) pc = .ok (.astore n, 2)) && (Nat.beq (mNth D 0) n && Nat.blt (mNth D 0) (muL m))
  | (.iinc n x, D, c) => decide (decode (muC m) pc = .ok (.iinc n x, 3)) && (Nat.beq (mNth D 0) n && (Nat.blt (mNth D 0) (muL m) && decide (c = .int (Int32.ofInt x))))
  | (.iadd, _, _) => decide (decode (muC m) pc = .ok (.iadd, 1))
  | (.isub, _, _) => decide (decode (muC m) pc = .ok (.isub, 1))
  | (.imul, _, _) => decide (decode (muC m) pc = .ok (.imul, 1))
  | (.iand, _, _) => decide (decode (muC m) pc = .ok (.iand, 1))
  | (.ior, _, _) => decide (decode (muC m) pc = .ok (.ior, 1))
  | (.ixor, _, _) => decide (decode (muC m) pc = .ok (.ixor, 1))
  | (.ishl, _, _) => decide (decode (muC m) pc = .ok (.ishl, 1))
  | (.ishr, _, _) => decide (decode (muC m) pc = .ok (.ishr, 1))
  | (.iushr, _, _) => decide (decode (muC m) pc = .ok (.iushr, 1))
  | (.idiv, _, _) => decide (decode (muC m) pc = .ok (.idiv, 1))
  | (.irem, _, _) => decide (decode (muC m) pc = .ok (.irem, 1))
  | (.ineg, _, _) => decide (decode (muC m) pc = .ok (.ineg, 1))
  | (.ladd, _, _) => decide (decode (muC m) pc = .ok (.ladd, 1))
  | (.lsub, _, _) => decide (decode (muC m) pc = .ok (.lsub, 1))
  | (.lmul, _, _) => decide (decode (muC m) pc = .ok (.lmul, 1))
  | (.land, _, _) => decide (decode (muC m) pc = .ok (.land, 1))
  | (.lor, _, _) => decide (decode (muC m) pc = .ok (.lor, 1))
  | (.ldiv, _, _) => decide (decode (muC m) pc = .ok (.ldiv, 1))
  | (.lrem, _, _) => decide (decode (muC m) pc = .ok (.lrem, 1))
  | (.lshl, _, _) => decide (decode (muC m) pc = .ok (.lshl, 1))
  | (.lshr, _, _) => decide (decode (muC m) pc = .ok (.lshr, 1))
  | (.lcmp, _, _) => decide (decode (muC m) pc = .ok (.lcmp, 1))
  | (.i2l, _, _) => decide (decode (muC m) pc = .ok (.i2l, 1))
  | (.l2i, _, _) => decide (decode (muC m) pc = .ok (.l2i, 1))
  | (.i2b, _, _) => decide (decode (muC m) pc = .ok (.i2b, 1))
  | (.dup, _, _) => decide (decode (muC m) pc = .ok (.dup, 1))
  | (.dup2, _, _) => decide (decode (muC m) pc = .ok (.dup2, 1))
  | (.pop, _, _) => decide (decode (muC m) pc = .ok (.pop, 1))
  | (.iaload, _, _) => decide (decode (muC m) pc = .ok (.iaload, 1))
  | (.baload, _, _) => decide (decode (muC m) pc = .ok (.baload, 1))
  | (.laload, _, _) => decide (decode (muC m) pc = .ok (.laload, 1))
  | (.aaload, _, _) => decide (decode (muC m) pc = .ok (.aaload, 1))
  | (.iastore, _, _) => decide (decode (muC m) pc = .ok (.iastore, 1))
  | (.bastore, _, _) => decide (decode (muC m) pc = .ok (.bastore, 1))
  | (.lastore, _, _) => decide (decode (muC m) pc = .ok (.lastore, 1))
  | (.arraylength, _, _) => decide (decode (muC m) pc = .ok (.arraylength, 1))
  | (.lreturn, _, _) => decide (decode (muC m) pc = .ok (.lreturn, 1)) && decide (muR m = some .long)
  | (.return_, _, _) => decide (decode (muC m) pc = .ok (.return_, 1)) && decide (muR m = none)
  | (.ireturn, D, _) => decide (decode (muC m) pc = .ok (.ireturn, 1)) && decide (mNth D 0 = 0 ∧ muR m = some .int ∨ mNth D 0 ≠ 0 ∧ muR m = some .boolean)
  | (.if_icmp cd off, D, _) => decide (decode (muC m) pc = .ok (.if_icmp cd off, 3)) && decide ((pc : Int) + off = (mNth D 0 : Int))
  | (.ifCond cd off, D, _) => decide (decode (muC m) pc = .ok (.ifCond cd off, 3)) && decide ((pc : Int) + off = (mNth D 0 : Int))
  | (.goto off, D, _) => decide (decode (muC m) pc = .ok (.goto off, 3)) && decide ((pc : Int) + off = (mNth D 0 : Int))
  | (.tableswitch df lo hi offs, D, _) => (match decode (muC m) pc with | .ok (i, _) => decide (i = .tableswitch df lo hi offs) | _ => false) && (decide ((pc : Int) + df = (mNth D 0 : Int)) && (decide (hi - lo < offs.size) && (List.range offs.size).all (fun j => match offs[j]? with | some off => decide ((pc : Int) + off = (mNth D (j + 1) : Int)) | none => false)))
  | (.getfield i, D, _) => decide (decode (muC m) pc = .ok (.getfield i, 3)) && decide ((muO m, i, mNth D 0, mNth D 1, mNth D 2) ∈ FLg)
  | (.putfield i, D, _) => decide (decode (muC m) pc = .ok (.putfield i, 3)) && decide ((muO m, i, mNth D 0, mNth D 1, mNth D 2) ∈ FLp)
  | (.invokevirtual i, D, _) => decide (decode (muC m) pc = .ok (.invokevirtual i, 3)) && (decide ((0, muO m, i, D) ∈ ILs) || decide ((muO m, i, mNth D 0) ∈ SLs))
  | (.invokestatic i, D, _) => decide (decode (muC m) pc = .ok (.invokestatic i, 3)) && (decide ((1, muO m, i, D) ∈ ILs) || (decide ((2, muO m, i, D) ∈ ILs) || decide ((muO m, i, D) ∈ LBs)))
  | _ => false
def SO0 (own : String) (i k : Nat) : Prop := ∃ c, own = cn c ∧ (c, i, k) ∈ SOs
def SL0 (own : String) (i k : Nat) : Prop := ∃ c, own = cn c ∧ (c, i, k) ∈ SLs
theorem andT {a b : Bool} (h : (a && b) = true) : a = true ∧ b = true := by rwa [Bool.and_eq_true] at h
theorem bltT {a b : Nat} (h : Nat.blt a b = true) : a < b := Nat.blt_eq.mp h
set_option maxHeartbeats 4000000 in
theorem mChk_ok (m pc : Nat) (e : mE) (h : mChk m pc e = true) : mOK GW0 NW0 vwCl nf0 ft0 μ0 SO0 SL0 m pc e := by
  obtain ⟨i, D, c⟩ := e
  cases i with
  | iconst n => exact ⟨of_decide_eq_true (andT h).1, of_decide_eq_true (andT h).2⟩
  | lconst n => exact ⟨of_decide_eq_true (andT h).1, of_decide_eq_true (andT h).2⟩
  | bipush n => exact ⟨of_decide_eq_true (andT h).1, of_decide_eq_true (andT h).2⟩
  | sipush n => exact ⟨of_decide_eq_true (andT h).1, of_decide_eq_true (andT h).2⟩
  | ldc n =>
    refine ⟨of_decide_eq_true (andT h).1, ?_⟩
    have h2 := (andT h).2
    cases c with
    | int x => exact CIs_ok (muO m, n, x) (of_decide_eq_true h2)
    | ref k => exact ⟨muO m, rfl, of_decide_eq_true h2⟩
    | _ => cases h2
  | ldc_w n =>
    refine ⟨of_decide_eq_true (andT h).1, ?_⟩
    have h2 := (andT h).2
    cases c with
    | int x => exact CIs_ok (muO m, n, x) (of_decide_eq_true h2)
    | _ => cases h2
  | ldc2_w n =>
    refine ⟨of_decide_eq_true (andT h).1, ?_⟩
    have h2 := (andT h).2
    cases c with
    | long x => exact CLs_ok (muO m, n, x) (of_decide_eq_true h2)
    | _ => cases h2
  | getstatic n =>
    refine ⟨of_decide_eq_true (andT h).1, of_decide_eq_true (andT (andT h).2).1, ?_⟩
    have h2 := andT (andT (andT h).2).2
    have e1 := beqT h2.1
    have e2 := beqT h2.2
    show Cond.fieldLink (cn (muO m)) n _ _ _ ∈ GW0
    rw [e1, e2]
    exact fac0
  | iload_n n => exact ⟨of_decide_eq_true (andT h).1, beqT (andT h).2⟩
  | iload n => exact ⟨of_decide_eq_true (andT h).1, beqT (andT h).2⟩
  | lload_n n => exact ⟨of_decide_eq_true (andT h).1, beqT (andT h).2⟩
  | lload n => exact ⟨of_decide_eq_true (andT h).1, beqT (andT h).2⟩
  | aload_n n => exact ⟨of_decide_eq_true (andT h).1, beqT (andT h).2⟩
  | aload n => exact ⟨of_decide_eq_true (andT h).1, beqT (andT h).2⟩
  | istore_n n => exact ⟨of_decide_eq_true (andT h).1, beqT (andT (andT h).2).1, bltT (andT (andT h).2).2⟩
  | istore n => exact ⟨of_decide_eq_true (andT h).1, beqT (andT (andT h).2).1, bltT (andT (andT h).2).2⟩
  | lstore_n n => exact ⟨of_decide_eq_true (andT h).1, beqT (andT (andT h).2).1, bltT (andT (andT h).2).2⟩
  | lstore n => exact ⟨of_decide_eq_true (andT h).1, beqT (andT (andT h).2).1, bltT (andT (andT h).2).2⟩
  | astore_n n => exact ⟨of_decide_eq_true (andT h).1, beqT (andT (andT h).2).1, bltT (andT (andT h).2).2⟩
  | astore n => exact ⟨of_decide_eq_true (andT h).1, beqT (andT (andT h).2).1, bltT (andT (andT h).2).2⟩
  | iinc n x => exact ⟨of_decide_eq_true (andT h).1, beqT (andT (andT h).2).1, bltT (andT (andT (andT h).2).2).1, of_decide_eq_true (andT (andT (andT h).2).2).2⟩
  | iadd => exact (of_decide_eq_true h : decode (muC m) pc = .ok (.iadd, 1))
  | isub => exact (of_decide_eq_true h : decode (muC m) pc = .ok (.isub, 1))
  | imul => exact (of_decide_eq_true h : decode (muC m) pc = .ok (.imul, 1))
  | iand => exact (of_decide_eq_true h : decode (muC m) pc = .ok (.iand, 1))
  | ior => exact (of_decide_eq_true h : decode (muC m) pc = .ok (.ior, 1))
  | ixor => exact (of_decide_eq_true h : decode (muC m) pc = .ok (.ixor, 1))
  | ishl => exact (of_decide_eq_true h : decode (muC m) pc = .ok (.ishl, 1))
  | ishr => exact (of_decide_eq_true h : decode (muC m) pc = .ok (.ishr, 1))
  | iushr => exact (of_decide_eq_true h : decode (muC m) pc = .ok (.iushr, 1))
  | idiv => exact (of_decide_eq_true h : decode (muC m) pc = .ok (.idiv, 1))
  | irem => exact (of_decide_eq_true h : decode (muC m) pc = .ok (.irem, 1))
  | ineg => exact (of_decide_eq_true h : decode (muC m) pc = .ok (.ineg, 1))
  | ladd => exact (of_decide_eq_true h : decode (muC m) pc = .ok (.ladd, 1))
  | lsub => exact (of_decide_eq_true h : decode (muC m) pc = .ok (.lsub, 1))
  | lmul => exact (of_decide_eq_true h : decode (muC m) pc = .ok (.lmul, 1))
  | land => exact (of_decide_eq_true h : decode (muC m) pc = .ok (.land, 1))
  | lor => exact (of_decide_eq_true h : decode (muC m) pc = .ok (.lor, 1))
  | ldiv => exact (of_decide_eq_true h : decode (muC m) pc = .ok (.ldiv, 1))
  | lrem => exact (of_decide_eq_true h : decode (muC m) pc = .ok (.lrem, 1))
  | lshl => exact (of_decide_eq_true h : decode (muC m) pc = .ok (.lshl, 1))
  | lshr => exact (of_decide_eq_true h : decode (muC m) pc = .ok (.lshr, 1))
  | lcmp => exact (of_decide_eq_true h : decode (muC m) pc = .ok (.lcmp, 1))
  | i2l => exact (of_decide_eq_true h : decode (muC m) pc = .ok (.i2l, 1))
  | l2i => exact (of_decide_eq_true h : decode (muC m) pc = .ok (.l2i, 1))
  | i2b => exact (of_decide_eq_true h : decode (muC m) pc = .ok (.i2b, 1))
  | dup => exact (of_decide_eq_true h : decode (muC m) pc = .ok (.dup, 1))
  | dup2 => exact (of_decide_eq_true h : decode (muC m) pc = .ok (.dup2, 1))
  | pop => exact (of_decide_eq_true h : decode (muC m) pc = .ok (.pop, 1))
  | iaload => exact (of_decide_eq_true h : decode (muC m) pc = .ok (.iaload, 1))
  | baload => exact (of_decide_eq_true h : decode (muC m) pc = .ok (.baload, 1))
  | laload => exact (of_decide_eq_true h : decode (muC m) pc = .ok (.laload, 1))
  | aaload => exact (of_decide_eq_true h : decode (muC m) pc = .ok (.aaload, 1))
  | iastore => exact (of_decide_eq_true h : decode (muC m) pc = .ok (.iastore, 1))
  | bastore => exact (of_decide_eq_true h : decode (muC m) pc = .ok (.bastore, 1))
  | lastore => exact (of_decide_eq_true h : decode (muC m) pc = .ok (.lastore, 1))
  | arraylength => exact (of_decide_eq_true h : decode (muC m) pc = .ok (.arraylength, 1))
  | lreturn => exact ⟨of_decide_eq_true (andT h).1, of_decide_eq_true (andT h).2⟩
  | return_ => exact ⟨of_decide_eq_true (andT h).1, of_decide_eq_true (andT h).2⟩
  | ireturn => exact ⟨of_decide_eq_true (andT h).1, of_decide_eq_true (andT h).2⟩
  | if_icmp cd off => exact ⟨of_decide_eq_true (andT h).1, of_decide_eq_true (andT h).2⟩
  | ifCond cd off => exact ⟨of_decide_eq_true (andT h).1, of_decide_eq_true (andT h).2⟩
  | goto off => exact ⟨of_decide_eq_true (andT h).1, of_decide_eq_true (andT h).2⟩
  | tableswitch df lo hi offs =>
    have h2 := andT (andT (andT h).2).2
    refine ⟨?_, of_decide_eq_true (andT (andT h).2).1, of_decide_eq_true h2.1, fun j hj => ?_⟩
    · have h1 := (andT h).1
      show ∃ len, decode (muC m) pc = _
      split at h1
      · rename_i i len e1
        rw [of_decide_eq_true h1] at e1
        exact ⟨len, e1⟩
      · cases h1
    · have h3 := List.all_eq_true.mp h2.2 j (List.mem_range.mpr hj)
      split at h3
      · rename_i off e1
        exact ⟨off, e1, of_decide_eq_true h3⟩
      · cases h3
  | getfield n => exact ⟨of_decide_eq_true (andT h).1, FLg_ok (muO m, n, mNth D 0, mNth D 1, mNth D 2) (of_decide_eq_true (andT h).2)⟩
  | putfield n => exact ⟨of_decide_eq_true (andT h).1, FLp_ok (muO m, n, mNth D 0, mNth D 1, mNth D 2) (of_decide_eq_true (andT h).2)⟩
  | invokevirtual n =>
    refine ⟨of_decide_eq_true (andT h).1, ?_⟩
    have h2 := (andT h).2
    rw [Bool.or_eq_true] at h2
    rcases h2 with h2 | h2
    · exact Or.inl (ILs_ok (0, muO m, n, D) (of_decide_eq_true h2))
    · exact Or.inr ⟨muO m, rfl, of_decide_eq_true h2⟩
  | invokestatic n =>
    refine ⟨of_decide_eq_true (andT h).1, ?_⟩
    have h2 := (andT h).2
    rw [Bool.or_eq_true, Bool.or_eq_true] at h2
    rcases h2 with h2 | h2 | h2
    · exact Or.inl (ILs_ok (1, muO m, n, D) (of_decide_eq_true h2))
    · exact Or.inr (Or.inl (ILs_ok (2, muO m, n, D) (of_decide_eq_true h2)))
    · exact Or.inr (Or.inr (LBs_ok (muO m, n, D) (of_decide_eq_true h2)))
  | _ => cases h
noncomputable def chkM (m : Nat) : Bool := (List.range (muE m)).all (fun pc => match tb0 m pc with | none => true | some e => mChk m pc e)
theorem chk_0 : (List.range 20).all (fun j => chkM (0 + j)) = true := by decide +kernel
theorem chk_1 : (List.range 20).all (fun j => chkM (20 + j)) = true := by decide +kernel
theorem chk_2 : (List.range 20).all (fun j => chkM (40 + j)) = true := by decide +kernel
theorem chk_3 : (List.range 20).all (fun j => chkM (60 + j)) = true := by decide +kernel
theorem chk_4 : (List.range 20).all (fun j => chkM (80 + j)) = true := by decide +kernel
theorem chk_5 : (List.range 20).all (fun j => chkM (100 + j)) = true := by decide +kernel
theorem chk_6 : (List.range 20).all (fun j => chkM (120 + j)) = true := by decide +kernel
theorem chk_7 : (List.range 20).all (fun j => chkM (140 + j)) = true := by decide +kernel
theorem chk_8 : (List.range 20).all (fun j => chkM (160 + j)) = true := by decide +kernel
theorem chk_9 : (List.range 20).all (fun j => chkM (180 + j)) = true := by decide +kernel
theorem chk_10 : (List.range 20).all (fun j => chkM (200 + j)) = true := by decide +kernel
theorem chk_11 : (List.range 20).all (fun j => chkM (220 + j)) = true := by decide +kernel
theorem chk_12 : (List.range 20).all (fun j => chkM (240 + j)) = true := by decide +kernel
theorem chk_13 : (List.range 20).all (fun j => chkM (260 + j)) = true := by decide +kernel
theorem chk_14 : (List.range 20).all (fun j => chkM (280 + j)) = true := by decide +kernel
theorem chk_15 : (List.range 20).all (fun j => chkM (300 + j)) = true := by decide +kernel
theorem chk_16 : (List.range 3).all (fun j => chkM (320 + j)) = true := by decide +kernel
theorem chk_all (m : Nat) (hm : m < 323) : chkM m = true := by
  have key : ∀ b n, (List.range n).all (fun j => chkM (20 * b + j)) = true → m / 20 = b → m - 20 * b < n → chkM m = true := by
    intro b n h hb hn
    have := List.all_eq_true.mp h (m - 20 * b) (List.mem_range.mpr hn)
    rw [show 20 * b + (m - 20 * b) = m by omega] at this
    exact this
  have hb : m / 20 < 17 := by omega
  match hq : m / 20, hb with
  | 0, _ => exact key 0 20 chk_0 hq (by omega)
  | 1, _ => exact key 1 20 chk_1 hq (by omega)
  | 2, _ => exact key 2 20 chk_2 hq (by omega)
  | 3, _ => exact key 3 20 chk_3 hq (by omega)
  | 4, _ => exact key 4 20 chk_4 hq (by omega)
  | 5, _ => exact key 5 20 chk_5 hq (by omega)
  | 6, _ => exact key 6 20 chk_6 hq (by omega)
  | 7, _ => exact key 7 20 chk_7 hq (by omega)
  | 8, _ => exact key 8 20 chk_8 hq (by omega)
  | 9, _ => exact key 9 20 chk_9 hq (by omega)
  | 10, _ => exact key 10 20 chk_10 hq (by omega)
  | 11, _ => exact key 11 20 chk_11 hq (by omega)
  | 12, _ => exact key 12 20 chk_12 hq (by omega)
  | 13, _ => exact key 13 20 chk_13 hq (by omega)
  | 14, _ => exact key 14 20 chk_14 hq (by omega)
  | 15, _ => exact key 15 20 chk_15 hq (by omega)
  | 16, _ => exact key 16 3 chk_16 hq (by omega)
  | n + 17, h => omega
theorem tb0_len (m pc : Nat) (e : mE) (h : tb0 m pc = some e) : m < 323 ∧ pc < muE m := by
  have hp : pc < muE m := by
    cases hb : Nat.blt pc (muE m) with
    | true => exact bltT hb
    | false =>
      unfold tb0 at h
      rw [hb] at h
      cases h
  refine ⟨?_, hp⟩
  cases hb : Nat.blt m 323 with
  | true => exact bltT hb
  | false =>
    unfold muE at hp
    rw [hb] at hp
    exact absurd hp (Nat.not_lt_zero _)
theorem tb0_ok (m pc : Nat) (e : mE) (h : tb0 m pc = some e) : mOK GW0 NW0 vwCl nf0 ft0 μ0 SO0 SL0 m pc e := by
  obtain ⟨hm, hp⟩ := tb0_len m pc e h
  have h1 := List.all_eq_true.mp (chk_all m hm) pc (List.mem_range.mpr hp)
  rw [h] at h1
  exact mChk_ok m pc e h1
theorem w0_mem : (List.range 320).all (fun i => (Nat.beq (wKind i) 0 || (ids0.contains i && (Nat.beq (wAk i) 0 && Nat.blt i 299))) && ((Nat.beq (wAk i) 0 || (!(Nat.ble (wAk i) 5) || (!(Nat.blt i 300) || (ids0.contains i && Nat.blt i 299)))) && ((Nat.beq (wAk i) 0 || (Nat.blt i 300 || (Nat.beq (wAk i) 6 || (Nat.beq (wAk i) 1 && (Nat.beq i 300 || Nat.beq i 301))))) && Nat.ble (wAk i) 6))) = true := by decide +kernel
theorem ids0_nd : va_nd ids0 = true := by decide +kernel
theorem wKind_lt {i : Nat} (h : wKind i ≠ 0) : i < 320 := by
  cases hb : Nat.blt i 320 with
  | true => exact bltT hb
  | false => unfold wKind at h; rw [hb] at h; exact absurd rfl h
theorem wAk_lt {i : Nat} (h : wAk i ≠ 0) : i < 320 := by
  cases hb : Nat.blt i 320 with
  | true => exact bltT hb
  | false => unfold wAk at h; rw [hb] at h; exact absurd rfl h
theorem nbeq {a b : Nat} (h : a ≠ b) : Nat.beq a b = false := by
  cases hb : Nat.beq a b with
  | false => rfl
  | true => exact absurd (beqT hb) h
theorem w0_ok : mHW w0 ids0 := by
  have at' : ∀ i, i < 320 → _ := fun i hi => List.all_eq_true.mp w0_mem i (List.mem_range.mpr hi)
  refine ⟨fun i h => ?_, fun a h h5 h3 => ?_, fun a h h3 => ?_, fun a b i ha hb => va_nd_inj ids0 ids0_nd a b i ha hb, fun σ τ a h => ?_, fun σ => rfl, fun σ => rfl, fun a => ?_, trivial⟩
  · have q := (andT (at' i (wKind_lt h))).1
    rw [show Nat.beq (wKind i) 0 = false from nbeq h, Bool.false_or] at q
    obtain ⟨q1, q2⟩ := andT q
    exact ⟨List.contains_iff_mem.mp q1, beqT (andT q2).1, bltT (andT q2).2⟩
  · have q := (andT (andT (at' a (wAk_lt h))).2).1
    rw [show Nat.beq (wAk a) 0 = false from nbeq h, show Nat.ble (wAk a) 5 = true from Nat.ble_eq.mpr h5, show Nat.blt a 300 = true from Nat.blt_eq.mpr h3] at q
    obtain ⟨q1, q2⟩ := andT q
    exact ⟨List.contains_iff_mem.mp q1, bltT q2⟩
  · have q := (andT (andT (andT (at' a (wAk_lt h))).2).2).1
    rw [show Nat.beq (wAk a) 0 = false from nbeq h, show Nat.blt a 300 = false by cases hb : Nat.blt a 300 with | false => rfl | true => exact absurd (bltT hb) h3, Bool.false_or, Bool.false_or, Bool.or_eq_true] at q
    rcases q with q | q
    · exact Or.inl (beqT q)
    · obtain ⟨q1, q2⟩ := andT q
      rw [Bool.or_eq_true] at q2
      exact Or.inr ⟨beqT q1, q2.elim (fun h => Or.inl (beqT h)) (fun h => Or.inr (beqT h))⟩
  · show wAn σ a = wAn τ a
    unfold wAn
    rw [h]
  · by_cases h : wAk a = 0
    · show wAk a ≤ 6
      omega
    · exact Nat.le_of_ble_eq_true (andT (andT (andT (at' a (wAk_lt h))).2).2).2
