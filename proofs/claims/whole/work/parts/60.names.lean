/-- a private method of a class that the tables say can be made, by its rows of tables_1 -/
def lw_okq (q : MethodName × Nat) : Prop := (q.1.cls ≠ "java/lang/invoke/MethodHandle" ∧ q.1.cls ≠ "java/lang/invoke/VarHandle") ∧ Cond.instantiable q.1.cls q.2 ∈ tables_1 ∧ Cond.privateMethod q.1 ∈ tables_1 ∧ Cond.instanceMethod q.1 ∈ tables_1
theorem lw_p0 : lw_okq (⟨"EnemyLetters$Course", "fade", "(III)V"⟩, 9) := ⟨⟨by decide +kernel, by decide +kernel⟩, List.mem_of_getElem? (i := 208) (by decide +kernel), List.mem_of_getElem? (i := 351) (by decide +kernel), List.mem_of_getElem? (i := 352) (by decide +kernel)⟩
theorem lw_p1 : lw_okq (⟨"EnemyLetters$Course", "faded", "(I)I"⟩, 9) := ⟨⟨by decide +kernel, by decide +kernel⟩, List.mem_of_getElem? (i := 208) (by decide +kernel), List.mem_of_getElem? (i := 355) (by decide +kernel), List.mem_of_getElem? (i := 356) (by decide +kernel)⟩
theorem lw_p2 : lw_okq (⟨"EnemyLetters$Course", "suffer", "(LEnemyLetters$Deeds;IIII)V"⟩, 9) := ⟨⟨by decide +kernel, by decide +kernel⟩, List.mem_of_getElem? (i := 208) (by decide +kernel), List.mem_of_getElem? (i := 362) (by decide +kernel), List.mem_of_getElem? (i := 363) (by decide +kernel)⟩
theorem lw_p3 : lw_okq (⟨"EnemyLetters$Reader", "advance", "()V"⟩, 12) := ⟨⟨by decide +kernel, by decide +kernel⟩, List.mem_of_getElem? (i := 45) (by decide +kernel), List.mem_of_getElem? (i := 474) (by decide +kernel), List.mem_of_getElem? (i := 475) (by decide +kernel)⟩
theorem lw_p4 : lw_okq (⟨"EnemyLetters$Reader", "readOpening", "()Z"⟩, 12) := ⟨⟨by decide +kernel, by decide +kernel⟩, List.mem_of_getElem? (i := 45) (by decide +kernel), List.mem_of_getElem? (i := 485) (by decide +kernel), List.mem_of_getElem? (i := 486) (by decide +kernel)⟩
theorem lw_p5 : lw_okq (⟨"EnemyLetters$Reader", "readWord", "(Ljava/lang/String;)Z"⟩, 12) := ⟨⟨by decide +kernel, by decide +kernel⟩, List.mem_of_getElem? (i := 45) (by decide +kernel), List.mem_of_getElem? (i := 490) (by decide +kernel), List.mem_of_getElem? (i := 491) (by decide +kernel)⟩
theorem lw_p6 : lw_okq (⟨"EnemyLetters$Reader", "isWord", "(Ljava/lang/String;)Z"⟩, 12) := ⟨⟨by decide +kernel, by decide +kernel⟩, List.mem_of_getElem? (i := 45) (by decide +kernel), List.mem_of_getElem? (i := 494) (by decide +kernel), List.mem_of_getElem? (i := 495) (by decide +kernel)⟩
theorem lw_p7 : lw_okq (⟨"EnemyLetters$Reader", "refuse", "(I)Z"⟩, 12) := ⟨⟨by decide +kernel, by decide +kernel⟩, List.mem_of_getElem? (i := 45) (by decide +kernel), List.mem_of_getElem? (i := 546) (by decide +kernel), List.mem_of_getElem? (i := 547) (by decide +kernel)⟩
theorem lw_p8 : lw_okq (⟨"EnemyLetters$Reader", "readNumber", "(III)Z"⟩, 12) := ⟨⟨by decide +kernel, by decide +kernel⟩, List.mem_of_getElem? (i := 45) (by decide +kernel), List.mem_of_getElem? (i := 551) (by decide +kernel), List.mem_of_getElem? (i := 552) (by decide +kernel)⟩
theorem lw_p9 : lw_okq (⟨"EnemyLetters$Reader", "readLater", "()Z"⟩, 12) := ⟨⟨by decide +kernel, by decide +kernel⟩, List.mem_of_getElem? (i := 45) (by decide +kernel), List.mem_of_getElem? (i := 557) (by decide +kernel), List.mem_of_getElem? (i := 558) (by decide +kernel)⟩
theorem lw_p10 : lw_okq (⟨"EnemyLetters$Reader", "readPerson", "()Z"⟩, 12) := ⟨⟨by decide +kernel, by decide +kernel⟩, List.mem_of_getElem? (i := 45) (by decide +kernel), List.mem_of_getElem? (i := 562) (by decide +kernel), List.mem_of_getElem? (i := 563) (by decide +kernel)⟩
theorem lw_p11 : lw_okq (⟨"EnemyLetters$Reader", "readSkills", "()Z"⟩, 12) := ⟨⟨by decide +kernel, by decide +kernel⟩, List.mem_of_getElem? (i := 45) (by decide +kernel), List.mem_of_getElem? (i := 566) (by decide +kernel), List.mem_of_getElem? (i := 567) (by decide +kernel)⟩
theorem lw_p12 : lw_okq (⟨"EnemyLetters$Reader", "readBond", "(I)Z"⟩, 12) := ⟨⟨by decide +kernel, by decide +kernel⟩, List.mem_of_getElem? (i := 45) (by decide +kernel), List.mem_of_getElem? (i := 572) (by decide +kernel), List.mem_of_getElem? (i := 573) (by decide +kernel)⟩
theorem lw_p13 : lw_okq (⟨"EnemyLetters$Reader", "readTwo", "()Z"⟩, 12) := ⟨⟨by decide +kernel, by decide +kernel⟩, List.mem_of_getElem? (i := 45) (by decide +kernel), List.mem_of_getElem? (i := 576) (by decide +kernel), List.mem_of_getElem? (i := 577) (by decide +kernel)⟩
theorem lw_p14 : lw_okq (⟨"EnemyLetters$Reader", "readWrong", "()Z"⟩, 12) := ⟨⟨by decide +kernel, by decide +kernel⟩, List.mem_of_getElem? (i := 45) (by decide +kernel), List.mem_of_getElem? (i := 582) (by decide +kernel), List.mem_of_getElem? (i := 583) (by decide +kernel)⟩
theorem lw_p15 : lw_okq (⟨"EnemyLetters$Reader", "readPost", "()Z"⟩, 12) := ⟨⟨by decide +kernel, by decide +kernel⟩, List.mem_of_getElem? (i := 45) (by decide +kernel), List.mem_of_getElem? (i := 592) (by decide +kernel), List.mem_of_getElem? (i := 593) (by decide +kernel)⟩
def lw_privs_1 : List (MethodName × Nat) := [(⟨"EnemyLetters$Course", "fade", "(III)V"⟩, 9), (⟨"EnemyLetters$Course", "faded", "(I)I"⟩, 9), (⟨"EnemyLetters$Course", "suffer", "(LEnemyLetters$Deeds;IIII)V"⟩, 9), (⟨"EnemyLetters$Reader", "advance", "()V"⟩, 12), (⟨"EnemyLetters$Reader", "readOpening", "()Z"⟩, 12), (⟨"EnemyLetters$Reader", "readWord", "(Ljava/lang/String;)Z"⟩, 12), (⟨"EnemyLetters$Reader", "isWord", "(Ljava/lang/String;)Z"⟩, 12), (⟨"EnemyLetters$Reader", "refuse", "(I)Z"⟩, 12), (⟨"EnemyLetters$Reader", "readNumber", "(III)Z"⟩, 12), (⟨"EnemyLetters$Reader", "readLater", "()Z"⟩, 12), (⟨"EnemyLetters$Reader", "readPerson", "()Z"⟩, 12), (⟨"EnemyLetters$Reader", "readSkills", "()Z"⟩, 12), (⟨"EnemyLetters$Reader", "readBond", "(I)Z"⟩, 12), (⟨"EnemyLetters$Reader", "readTwo", "()Z"⟩, 12), (⟨"EnemyLetters$Reader", "readWrong", "()Z"⟩, 12), (⟨"EnemyLetters$Reader", "readPost", "()Z"⟩, 12)]
theorem lw_r1 : ∀ q ∈ lw_privs_1, lw_okq q := List.forall_mem_cons.mpr ⟨lw_p0, List.forall_mem_cons.mpr ⟨lw_p1, List.forall_mem_cons.mpr ⟨lw_p2, List.forall_mem_cons.mpr ⟨lw_p3, List.forall_mem_cons.mpr ⟨lw_p4, List.forall_mem_cons.mpr ⟨lw_p5, List.forall_mem_cons.mpr ⟨lw_p6, List.forall_mem_cons.mpr ⟨lw_p7, List.forall_mem_cons.mpr ⟨lw_p8, List.forall_mem_cons.mpr ⟨lw_p9, List.forall_mem_cons.mpr ⟨lw_p10, List.forall_mem_cons.mpr ⟨lw_p11, List.forall_mem_cons.mpr ⟨lw_p12, List.forall_mem_cons.mpr ⟨lw_p13, List.forall_mem_cons.mpr ⟨lw_p14, List.forall_mem_cons.mpr ⟨lw_p15, fun _ h => absurd h List.not_mem_nil⟩⟩⟩⟩⟩⟩⟩⟩⟩⟩⟩⟩⟩⟩⟩⟩
theorem lw_p16 : lw_okq (⟨"EnemyLetters$Reader", "closeLine", "()Z"⟩, 12) := ⟨⟨by decide +kernel, by decide +kernel⟩, List.mem_of_getElem? (i := 45) (by decide +kernel), List.mem_of_getElem? (i := 596) (by decide +kernel), List.mem_of_getElem? (i := 597) (by decide +kernel)⟩
theorem lw_p17 : lw_okq (⟨"EnemyLetters", "refresh", "()V"⟩, 10) := ⟨⟨by decide +kernel, by decide +kernel⟩, List.mem_of_getElem? (i := 20) (by decide +kernel), List.mem_of_getElem? (i := 611) (by decide +kernel), List.mem_of_getElem? (i := 612) (by decide +kernel)⟩
theorem lw_p18 : lw_okq (⟨"EnemyLetters", "isPerson", "(I)Z"⟩, 10) := ⟨⟨by decide +kernel, by decide +kernel⟩, List.mem_of_getElem? (i := 20) (by decide +kernel), List.mem_of_getElem? (i := 623) (by decide +kernel), List.mem_of_getElem? (i := 624) (by decide +kernel)⟩
theorem lw_p19 : lw_okq (⟨"EnemyLetters", "isPost", "(I)Z"⟩, 10) := ⟨⟨by decide +kernel, by decide +kernel⟩, List.mem_of_getElem? (i := 20) (by decide +kernel), List.mem_of_getElem? (i := 631) (by decide +kernel), List.mem_of_getElem? (i := 632) (by decide +kernel)⟩
theorem lw_p20 : lw_okq (⟨"EnemyLetters", "isPair", "(II)Z"⟩, 10) := ⟨⟨by decide +kernel, by decide +kernel⟩, List.mem_of_getElem? (i := 20) (by decide +kernel), List.mem_of_getElem? (i := 643) (by decide +kernel), List.mem_of_getElem? (i := 644) (by decide +kernel)⟩
theorem lw_p21 : lw_okq (⟨"EnemyLetters", "isYear", "(I)Z"⟩, 10) := ⟨⟨by decide +kernel, by decide +kernel⟩, List.mem_of_getElem? (i := 20) (by decide +kernel), List.mem_of_getElem? (i := 647) (by decide +kernel), List.mem_of_getElem? (i := 648) (by decide +kernel)⟩
theorem lw_p22 : lw_okq (⟨"EnemyLetters", "isThen", "(II)Z"⟩, 10) := ⟨⟨by decide +kernel, by decide +kernel⟩, List.mem_of_getElem? (i := 20) (by decide +kernel), List.mem_of_getElem? (i := 656) (by decide +kernel), List.mem_of_getElem? (i := 657) (by decide +kernel)⟩
theorem lw_p23 : lw_okq (⟨"EnemyLetters", "isLand", "()Z"⟩, 10) := ⟨⟨by decide +kernel, by decide +kernel⟩, List.mem_of_getElem? (i := 20) (by decide +kernel), List.mem_of_getElem? (i := 751) (by decide +kernel), List.mem_of_getElem? (i := 752) (by decide +kernel)⟩
theorem lw_p24 : lw_okq (⟨"EnemyLetters", "isFor", "(II)Z"⟩, 10) := ⟨⟨by decide +kernel, by decide +kernel⟩, List.mem_of_getElem? (i := 20) (by decide +kernel), List.mem_of_getElem? (i := 792) (by decide +kernel), List.mem_of_getElem? (i := 793) (by decide +kernel)⟩
theorem lw_p25 : lw_okq (⟨"EnemyLetters", "leastBelow", "(IIII)I"⟩, 10) := ⟨⟨by decide +kernel, by decide +kernel⟩, List.mem_of_getElem? (i := 20) (by decide +kernel), List.mem_of_getElem? (i := 850) (by decide +kernel), List.mem_of_getElem? (i := 851) (by decide +kernel)⟩
theorem lw_p26 : lw_okq (⟨"EnemyLetters", "getsWith", "(III)Z"⟩, 10) := ⟨⟨by decide +kernel, by decide +kernel⟩, List.mem_of_getElem? (i := 20) (by decide +kernel), List.mem_of_getElem? (i := 865) (by decide +kernel), List.mem_of_getElem? (i := 866) (by decide +kernel)⟩
theorem lw_p27 : lw_okq (⟨"EnemyLetters$Choice", "fill", "(III)V"⟩, 6) := ⟨⟨by decide +kernel, by decide +kernel⟩, List.mem_of_getElem? (i := 250) (by decide +kernel), List.mem_of_getElem? (i := 878) (by decide +kernel), List.mem_of_getElem? (i := 879) (by decide +kernel)⟩
theorem lw_p28 : lw_okq (⟨"EnemyLetters$Choice", "settle", "(I)V"⟩, 6) := ⟨⟨by decide +kernel, by decide +kernel⟩, List.mem_of_getElem? (i := 250) (by decide +kernel), List.mem_of_getElem? (i := 882) (by decide +kernel), List.mem_of_getElem? (i := 883) (by decide +kernel)⟩
theorem lw_p29 : lw_okq (⟨"EnemyLetters", "givenByLaw", "(I)I"⟩, 10) := ⟨⟨by decide +kernel, by decide +kernel⟩, List.mem_of_getElem? (i := 20) (by decide +kernel), List.mem_of_getElem? (i := 901) (by decide +kernel), List.mem_of_getElem? (i := 902) (by decide +kernel)⟩
theorem lw_p30 : lw_okq (⟨"EnemyLetters", "lookInto", "(II)I"⟩, 10) := ⟨⟨by decide +kernel, by decide +kernel⟩, List.mem_of_getElem? (i := 20) (by decide +kernel), List.mem_of_getElem? (i := 917) (by decide +kernel), List.mem_of_getElem? (i := 918) (by decide +kernel)⟩
theorem lw_p31 : lw_okq (⟨"EnemyLetters$Sight", "note", "(I)V"⟩, 7) := ⟨⟨by decide +kernel, by decide +kernel⟩, List.mem_of_getElem? (i := 301) (by decide +kernel), List.mem_of_getElem? (i := 943) (by decide +kernel), List.mem_of_getElem? (i := 944) (by decide +kernel)⟩
def lw_privs_2 : List (MethodName × Nat) := [(⟨"EnemyLetters$Reader", "closeLine", "()Z"⟩, 12), (⟨"EnemyLetters", "refresh", "()V"⟩, 10), (⟨"EnemyLetters", "isPerson", "(I)Z"⟩, 10), (⟨"EnemyLetters", "isPost", "(I)Z"⟩, 10), (⟨"EnemyLetters", "isPair", "(II)Z"⟩, 10), (⟨"EnemyLetters", "isYear", "(I)Z"⟩, 10), (⟨"EnemyLetters", "isThen", "(II)Z"⟩, 10), (⟨"EnemyLetters", "isLand", "()Z"⟩, 10), (⟨"EnemyLetters", "isFor", "(II)Z"⟩, 10), (⟨"EnemyLetters", "leastBelow", "(IIII)I"⟩, 10), (⟨"EnemyLetters", "getsWith", "(III)Z"⟩, 10), (⟨"EnemyLetters$Choice", "fill", "(III)V"⟩, 6), (⟨"EnemyLetters$Choice", "settle", "(I)V"⟩, 6), (⟨"EnemyLetters", "givenByLaw", "(I)I"⟩, 10), (⟨"EnemyLetters", "lookInto", "(II)I"⟩, 10), (⟨"EnemyLetters$Sight", "note", "(I)V"⟩, 7)]
theorem lw_r2 : ∀ q ∈ lw_privs_2, lw_okq q := List.forall_mem_cons.mpr ⟨lw_p16, List.forall_mem_cons.mpr ⟨lw_p17, List.forall_mem_cons.mpr ⟨lw_p18, List.forall_mem_cons.mpr ⟨lw_p19, List.forall_mem_cons.mpr ⟨lw_p20, List.forall_mem_cons.mpr ⟨lw_p21, List.forall_mem_cons.mpr ⟨lw_p22, List.forall_mem_cons.mpr ⟨lw_p23, List.forall_mem_cons.mpr ⟨lw_p24, List.forall_mem_cons.mpr ⟨lw_p25, List.forall_mem_cons.mpr ⟨lw_p26, List.forall_mem_cons.mpr ⟨lw_p27, List.forall_mem_cons.mpr ⟨lw_p28, List.forall_mem_cons.mpr ⟨lw_p29, List.forall_mem_cons.mpr ⟨lw_p30, List.forall_mem_cons.mpr ⟨lw_p31, fun _ h => absurd h List.not_mem_nil⟩⟩⟩⟩⟩⟩⟩⟩⟩⟩⟩⟩⟩⟩⟩⟩
theorem lw_p32 : lw_okq (⟨"EnemyLetters", "wordAlone", "(III)I"⟩, 10) := ⟨⟨by decide +kernel, by decide +kernel⟩, List.mem_of_getElem? (i := 20) (by decide +kernel), List.mem_of_getElem? (i := 982) (by decide +kernel), List.mem_of_getElem? (i := 983) (by decide +kernel)⟩
theorem lw_p33 : lw_okq (⟨"EnemyLetters", "play", "(III)I"⟩, 10) := ⟨⟨by decide +kernel, by decide +kernel⟩, List.mem_of_getElem? (i := 20) (by decide +kernel), List.mem_of_getElem? (i := 1002) (by decide +kernel), List.mem_of_getElem? (i := 1003) (by decide +kernel)⟩
theorem lw_p34 : lw_okq (⟨"EnemyLetters", "byChance", "(III)J"⟩, 10) := ⟨⟨by decide +kernel, by decide +kernel⟩, List.mem_of_getElem? (i := 20) (by decide +kernel), List.mem_of_getElem? (i := 1022) (by decide +kernel), List.mem_of_getElem? (i := 1023) (by decide +kernel)⟩
theorem lw_p35 : lw_okq (⟨"EnemyLetters", "weightOf", "(II)J"⟩, 10) := ⟨⟨by decide +kernel, by decide +kernel⟩, List.mem_of_getElem? (i := 20) (by decide +kernel), List.mem_of_getElem? (i := 1026) (by decide +kernel), List.mem_of_getElem? (i := 1027) (by decide +kernel)⟩
theorem lw_p36 : lw_okq (⟨"EnemyLetters", "act", "(IIII)I"⟩, 10) := ⟨⟨by decide +kernel, by decide +kernel⟩, List.mem_of_getElem? (i := 20) (by decide +kernel), List.mem_of_getElem? (i := 1043) (by decide +kernel), List.mem_of_getElem? (i := 1044) (by decide +kernel)⟩
theorem lw_p37 : lw_okq (⟨"EnemyLetters", "runDrawn", "(I)V"⟩, 10) := ⟨⟨by decide +kernel, by decide +kernel⟩, List.mem_of_getElem? (i := 20) (by decide +kernel), List.mem_of_getElem? (i := 1068) (by decide +kernel), List.mem_of_getElem? (i := 1069) (by decide +kernel)⟩
theorem lw_p38 : lw_okq (⟨"EnemyLettersModel", "advance", "()V"⟩, 44) := ⟨⟨by decide +kernel, by decide +kernel⟩, List.mem_of_getElem? (i := 1135) (by decide +kernel), List.mem_of_getElem? (i := 1301) (by decide +kernel), List.mem_of_getElem? (i := 1302) (by decide +kernel)⟩
theorem lw_p39 : lw_okq (⟨"EnemyLettersModel", "see", "(I)I"⟩, 44) := ⟨⟨by decide +kernel, by decide +kernel⟩, List.mem_of_getElem? (i := 1135) (by decide +kernel), List.mem_of_getElem? (i := 1305) (by decide +kernel), List.mem_of_getElem? (i := 1306) (by decide +kernel)⟩
theorem lw_p40 : lw_okq (⟨"EnemyLettersModel", "good", "()Z"⟩, 44) := ⟨⟨by decide +kernel, by decide +kernel⟩, List.mem_of_getElem? (i := 1135) (by decide +kernel), List.mem_of_getElem? (i := 1315) (by decide +kernel), List.mem_of_getElem? (i := 1316) (by decide +kernel)⟩
theorem lw_p41 : lw_okq (⟨"EnemyLettersModel", "readLine", "()V"⟩, 44) := ⟨⟨by decide +kernel, by decide +kernel⟩, List.mem_of_getElem? (i := 1135) (by decide +kernel), List.mem_of_getElem? (i := 1319) (by decide +kernel), List.mem_of_getElem? (i := 1320) (by decide +kernel)⟩
theorem lw_p42 : lw_okq (⟨"EnemyLettersModel", "readFirst", "()V"⟩, 44) := ⟨⟨by decide +kernel, by decide +kernel⟩, List.mem_of_getElem? (i := 1135) (by decide +kernel), List.mem_of_getElem? (i := 1323) (by decide +kernel), List.mem_of_getElem? (i := 1324) (by decide +kernel)⟩
theorem lw_p43 : lw_okq (⟨"EnemyLettersModel", "expects", "(Ljava/lang/String;)V"⟩, 44) := ⟨⟨by decide +kernel, by decide +kernel⟩, List.mem_of_getElem? (i := 1135) (by decide +kernel), List.mem_of_getElem? (i := 1328) (by decide +kernel), List.mem_of_getElem? (i := 1329) (by decide +kernel)⟩
theorem lw_p44 : lw_okq (⟨"EnemyLettersModel", "takes", "(Ljava/lang/String;)Z"⟩, 44) := ⟨⟨by decide +kernel, by decide +kernel⟩, List.mem_of_getElem? (i := 1135) (by decide +kernel), List.mem_of_getElem? (i := 1332) (by decide +kernel), List.mem_of_getElem? (i := 1333) (by decide +kernel)⟩
theorem lw_p45 : lw_okq (⟨"EnemyLettersModel", "is", "(Ljava/lang/String;)Z"⟩, 44) := ⟨⟨by decide +kernel, by decide +kernel⟩, List.mem_of_getElem? (i := 1135) (by decide +kernel), List.mem_of_getElem? (i := 1336) (by decide +kernel), List.mem_of_getElem? (i := 1337) (by decide +kernel)⟩
theorem lw_p46 : lw_okq (⟨"EnemyLettersModel", "errs", "(I)V"⟩, 44) := ⟨⟨by decide +kernel, by decide +kernel⟩, List.mem_of_getElem? (i := 1135) (by decide +kernel), List.mem_of_getElem? (i := 1342) (by decide +kernel), List.mem_of_getElem? (i := 1343) (by decide +kernel)⟩
theorem lw_p47 : lw_okq (⟨"EnemyLettersModel", "told", "(Ljava/lang/String;II)I"⟩, 44) := ⟨⟨by decide +kernel, by decide +kernel⟩, List.mem_of_getElem? (i := 1135) (by decide +kernel), List.mem_of_getElem? (i := 1347) (by decide +kernel), List.mem_of_getElem? (i := 1348) (by decide +kernel)⟩
def lw_privs_3 : List (MethodName × Nat) := [(⟨"EnemyLetters", "wordAlone", "(III)I"⟩, 10), (⟨"EnemyLetters", "play", "(III)I"⟩, 10), (⟨"EnemyLetters", "byChance", "(III)J"⟩, 10), (⟨"EnemyLetters", "weightOf", "(II)J"⟩, 10), (⟨"EnemyLetters", "act", "(IIII)I"⟩, 10), (⟨"EnemyLetters", "runDrawn", "(I)V"⟩, 10), (⟨"EnemyLettersModel", "advance", "()V"⟩, 44), (⟨"EnemyLettersModel", "see", "(I)I"⟩, 44), (⟨"EnemyLettersModel", "good", "()Z"⟩, 44), (⟨"EnemyLettersModel", "readLine", "()V"⟩, 44), (⟨"EnemyLettersModel", "readFirst", "()V"⟩, 44), (⟨"EnemyLettersModel", "expects", "(Ljava/lang/String;)V"⟩, 44), (⟨"EnemyLettersModel", "takes", "(Ljava/lang/String;)Z"⟩, 44), (⟨"EnemyLettersModel", "is", "(Ljava/lang/String;)Z"⟩, 44), (⟨"EnemyLettersModel", "errs", "(I)V"⟩, 44), (⟨"EnemyLettersModel", "told", "(Ljava/lang/String;II)I"⟩, 44)]
theorem lw_r3 : ∀ q ∈ lw_privs_3, lw_okq q := List.forall_mem_cons.mpr ⟨lw_p32, List.forall_mem_cons.mpr ⟨lw_p33, List.forall_mem_cons.mpr ⟨lw_p34, List.forall_mem_cons.mpr ⟨lw_p35, List.forall_mem_cons.mpr ⟨lw_p36, List.forall_mem_cons.mpr ⟨lw_p37, List.forall_mem_cons.mpr ⟨lw_p38, List.forall_mem_cons.mpr ⟨lw_p39, List.forall_mem_cons.mpr ⟨lw_p40, List.forall_mem_cons.mpr ⟨lw_p41, List.forall_mem_cons.mpr ⟨lw_p42, List.forall_mem_cons.mpr ⟨lw_p43, List.forall_mem_cons.mpr ⟨lw_p44, List.forall_mem_cons.mpr ⟨lw_p45, List.forall_mem_cons.mpr ⟨lw_p46, List.forall_mem_cons.mpr ⟨lw_p47, fun _ h => absurd h List.not_mem_nil⟩⟩⟩⟩⟩⟩⟩⟩⟩⟩⟩⟩⟩⟩⟩⟩
theorem lw_p48 : lw_okq (⟨"EnemyLettersModel", "number", "(II)I"⟩, 44) := ⟨⟨by decide +kernel, by decide +kernel⟩, List.mem_of_getElem? (i := 1135) (by decide +kernel), List.mem_of_getElem? (i := 1351) (by decide +kernel), List.mem_of_getElem? (i := 1352) (by decide +kernel)⟩
theorem lw_p49 : lw_okq (⟨"EnemyLettersModel", "readNext", "()V"⟩, 44) := ⟨⟨by decide +kernel, by decide +kernel⟩, List.mem_of_getElem? (i := 1135) (by decide +kernel), List.mem_of_getElem? (i := 1357) (by decide +kernel), List.mem_of_getElem? (i := 1358) (by decide +kernel)⟩
theorem lw_p50 : lw_okq (⟨"EnemyLettersModel", "isFull", "()Z"⟩, 44) := ⟨⟨by decide +kernel, by decide +kernel⟩, List.mem_of_getElem? (i := 1135) (by decide +kernel), List.mem_of_getElem? (i := 1366) (by decide +kernel), List.mem_of_getElem? (i := 1367) (by decide +kernel)⟩
theorem lw_p51 : lw_okq (⟨"EnemyLettersModel", "readSkills", "()I"⟩, 44) := ⟨⟨by decide +kernel, by decide +kernel⟩, List.mem_of_getElem? (i := 1135) (by decide +kernel), List.mem_of_getElem? (i := 1370) (by decide +kernel), List.mem_of_getElem? (i := 1371) (by decide +kernel)⟩
theorem lw_p52 : lw_okq (⟨"EnemyLettersModel", "readFeeling", "(I)V"⟩, 44) := ⟨⟨by decide +kernel, by decide +kernel⟩, List.mem_of_getElem? (i := 1135) (by decide +kernel), List.mem_of_getElem? (i := 1377) (by decide +kernel), List.mem_of_getElem? (i := 1378) (by decide +kernel)⟩
theorem lw_p53 : lw_okq (⟨"EnemyLettersModel", "readPerson", "()I"⟩, 44) := ⟨⟨by decide +kernel, by decide +kernel⟩, List.mem_of_getElem? (i := 1135) (by decide +kernel), List.mem_of_getElem? (i := 1381) (by decide +kernel), List.mem_of_getElem? (i := 1382) (by decide +kernel)⟩
theorem lw_p54 : lw_okq (⟨"EnemyLettersModel", "readOther", "(I)I"⟩, 44) := ⟨⟨by decide +kernel, by decide +kernel⟩, List.mem_of_getElem? (i := 1135) (by decide +kernel), List.mem_of_getElem? (i := 1385) (by decide +kernel), List.mem_of_getElem? (i := 1386) (by decide +kernel)⟩
theorem lw_p55 : lw_okq (⟨"EnemyLettersModel", "readWrong", "()V"⟩, 44) := ⟨⟨by decide +kernel, by decide +kernel⟩, List.mem_of_getElem? (i := 1135) (by decide +kernel), List.mem_of_getElem? (i := 1389) (by decide +kernel), List.mem_of_getElem? (i := 1390) (by decide +kernel)⟩
theorem lw_p56 : lw_okq (⟨"EnemyLettersModel", "isPerson", "(J)Z"⟩, 44) := ⟨⟨by decide +kernel, by decide +kernel⟩, List.mem_of_getElem? (i := 1135) (by decide +kernel), List.mem_of_getElem? (i := 1398) (by decide +kernel), List.mem_of_getElem? (i := 1399) (by decide +kernel)⟩
theorem lw_p57 : lw_okq (⟨"EnemyLettersModel", "persons", "()I"⟩, 44) := ⟨⟨by decide +kernel, by decide +kernel⟩, List.mem_of_getElem? (i := 1135) (by decide +kernel), List.mem_of_getElem? (i := 1402) (by decide +kernel), List.mem_of_getElem? (i := 1403) (by decide +kernel)⟩
theorem lw_p58 : lw_okq (⟨"EnemyLettersModel", "isPost", "(J)Z"⟩, 44) := ⟨⟨by decide +kernel, by decide +kernel⟩, List.mem_of_getElem? (i := 1135) (by decide +kernel), List.mem_of_getElem? (i := 1410) (by decide +kernel), List.mem_of_getElem? (i := 1411) (by decide +kernel)⟩
theorem lw_p59 : lw_okq (⟨"EnemyLettersModel", "posts", "()I"⟩, 44) := ⟨⟨by decide +kernel, by decide +kernel⟩, List.mem_of_getElem? (i := 1135) (by decide +kernel), List.mem_of_getElem? (i := 1414) (by decide +kernel), List.mem_of_getElem? (i := 1415) (by decide +kernel)⟩
theorem lw_p60 : lw_okq (⟨"EnemyLettersModel", "needsOf", "(I)I"⟩, 44) := ⟨⟨by decide +kernel, by decide +kernel⟩, List.mem_of_getElem? (i := 1135) (by decide +kernel), List.mem_of_getElem? (i := 1418) (by decide +kernel), List.mem_of_getElem? (i := 1419) (by decide +kernel)⟩
theorem lw_p61 : lw_okq (⟨"EnemyLettersModel", "yearOf", "(I)I"⟩, 44) := ⟨⟨by decide +kernel, by decide +kernel⟩, List.mem_of_getElem? (i := 1135) (by decide +kernel), List.mem_of_getElem? (i := 1426) (by decide +kernel), List.mem_of_getElem? (i := 1427) (by decide +kernel)⟩
theorem lw_p62 : lw_okq (⟨"EnemyLettersModel", "asksYear", "(I)Z"⟩, 44) := ⟨⟨by decide +kernel, by decide +kernel⟩, List.mem_of_getElem? (i := 1135) (by decide +kernel), List.mem_of_getElem? (i := 1434) (by decide +kernel), List.mem_of_getElem? (i := 1435) (by decide +kernel)⟩
theorem lw_p63 : lw_okq (⟨"EnemyLettersModel", "asksLand", "()Z"⟩, 44) := ⟨⟨by decide +kernel, by decide +kernel⟩, List.mem_of_getElem? (i := 1135) (by decide +kernel), List.mem_of_getElem? (i := 1438) (by decide +kernel), List.mem_of_getElem? (i := 1439) (by decide +kernel)⟩
def lw_privs_4 : List (MethodName × Nat) := [(⟨"EnemyLettersModel", "number", "(II)I"⟩, 44), (⟨"EnemyLettersModel", "readNext", "()V"⟩, 44), (⟨"EnemyLettersModel", "isFull", "()Z"⟩, 44), (⟨"EnemyLettersModel", "readSkills", "()I"⟩, 44), (⟨"EnemyLettersModel", "readFeeling", "(I)V"⟩, 44), (⟨"EnemyLettersModel", "readPerson", "()I"⟩, 44), (⟨"EnemyLettersModel", "readOther", "(I)I"⟩, 44), (⟨"EnemyLettersModel", "readWrong", "()V"⟩, 44), (⟨"EnemyLettersModel", "isPerson", "(J)Z"⟩, 44), (⟨"EnemyLettersModel", "persons", "()I"⟩, 44), (⟨"EnemyLettersModel", "isPost", "(J)Z"⟩, 44), (⟨"EnemyLettersModel", "posts", "()I"⟩, 44), (⟨"EnemyLettersModel", "needsOf", "(I)I"⟩, 44), (⟨"EnemyLettersModel", "yearOf", "(I)I"⟩, 44), (⟨"EnemyLettersModel", "asksYear", "(I)Z"⟩, 44), (⟨"EnemyLettersModel", "asksLand", "()Z"⟩, 44)]
theorem lw_r4 : ∀ q ∈ lw_privs_4, lw_okq q := List.forall_mem_cons.mpr ⟨lw_p48, List.forall_mem_cons.mpr ⟨lw_p49, List.forall_mem_cons.mpr ⟨lw_p50, List.forall_mem_cons.mpr ⟨lw_p51, List.forall_mem_cons.mpr ⟨lw_p52, List.forall_mem_cons.mpr ⟨lw_p53, List.forall_mem_cons.mpr ⟨lw_p54, List.forall_mem_cons.mpr ⟨lw_p55, List.forall_mem_cons.mpr ⟨lw_p56, List.forall_mem_cons.mpr ⟨lw_p57, List.forall_mem_cons.mpr ⟨lw_p58, List.forall_mem_cons.mpr ⟨lw_p59, List.forall_mem_cons.mpr ⟨lw_p60, List.forall_mem_cons.mpr ⟨lw_p61, List.forall_mem_cons.mpr ⟨lw_p62, List.forall_mem_cons.mpr ⟨lw_p63, fun _ h => absurd h List.not_mem_nil⟩⟩⟩⟩⟩⟩⟩⟩⟩⟩⟩⟩⟩⟩⟩⟩
theorem lw_p64 : lw_okq (⟨"EnemyLettersModel", "asItIs", "()V"⟩, 44) := ⟨⟨by decide +kernel, by decide +kernel⟩, List.mem_of_getElem? (i := 1135) (by decide +kernel), List.mem_of_getElem? (i := 1442) (by decide +kernel), List.mem_of_getElem? (i := 1443) (by decide +kernel)⟩
theorem lw_p65 : lw_okq (⟨"EnemyLettersModel", "goAll", "()V"⟩, 44) := ⟨⟨by decide +kernel, by decide +kernel⟩, List.mem_of_getElem? (i := 1135) (by decide +kernel), List.mem_of_getElem? (i := 1446) (by decide +kernel), List.mem_of_getElem? (i := 1447) (by decide +kernel)⟩
theorem lw_p66 : lw_okq (⟨"EnemyLettersModel", "goYears", "()V"⟩, 44) := ⟨⟨by decide +kernel, by decide +kernel⟩, List.mem_of_getElem? (i := 1135) (by decide +kernel), List.mem_of_getElem? (i := 1450) (by decide +kernel), List.mem_of_getElem? (i := 1451) (by decide +kernel)⟩
theorem lw_p67 : lw_okq (⟨"EnemyLettersModel", "yearMany", "()I"⟩, 44) := ⟨⟨by decide +kernel, by decide +kernel⟩, List.mem_of_getElem? (i := 1135) (by decide +kernel), List.mem_of_getElem? (i := 1454) (by decide +kernel), List.mem_of_getElem? (i := 1455) (by decide +kernel)⟩
theorem lw_p68 : lw_okq (⟨"EnemyLettersModel", "wrongDone", "(III)V"⟩, 44) := ⟨⟨by decide +kernel, by decide +kernel⟩, List.mem_of_getElem? (i := 1135) (by decide +kernel), List.mem_of_getElem? (i := 1458) (by decide +kernel), List.mem_of_getElem? (i := 1459) (by decide +kernel)⟩
theorem lw_p69 : lw_okq (⟨"EnemyLettersModel", "actsIn", "(I)V"⟩, 44) := ⟨⟨by decide +kernel, by decide +kernel⟩, List.mem_of_getElem? (i := 1135) (by decide +kernel), List.mem_of_getElem? (i := 1463) (by decide +kernel), List.mem_of_getElem? (i := 1464) (by decide +kernel)⟩
theorem lw_p70 : lw_okq (⟨"EnemyLettersModel", "later", "(IZ)I"⟩, 44) := ⟨⟨by decide +kernel, by decide +kernel⟩, List.mem_of_getElem? (i := 1135) (by decide +kernel), List.mem_of_getElem? (i := 1468) (by decide +kernel), List.mem_of_getElem? (i := 1469) (by decide +kernel)⟩
theorem lw_p71 : lw_okq (⟨"EnemyLettersModel", "givePosts", "()V"⟩, 44) := ⟨⟨by decide +kernel, by decide +kernel⟩, List.mem_of_getElem? (i := 1135) (by decide +kernel), List.mem_of_getElem? (i := 1472) (by decide +kernel), List.mem_of_getElem? (i := 1473) (by decide +kernel)⟩
theorem lw_p72 : lw_okq (⟨"EnemyLettersModel", "bestFor", "(III)I"⟩, 44) := ⟨⟨by decide +kernel, by decide +kernel⟩, List.mem_of_getElem? (i := 1135) (by decide +kernel), List.mem_of_getElem? (i := 1476) (by decide +kernel), List.mem_of_getElem? (i := 1477) (by decide +kernel)⟩
theorem lw_p73 : lw_okq (⟨"EnemyLettersModel", "fullWord", "(II)I"⟩, 44) := ⟨⟨by decide +kernel, by decide +kernel⟩, List.mem_of_getElem? (i := 1135) (by decide +kernel), List.mem_of_getElem? (i := 1480) (by decide +kernel), List.mem_of_getElem? (i := 1481) (by decide +kernel)⟩
theorem lw_p74 : lw_okq (⟨"EnemyLettersModel", "everybody", "()I"⟩, 44) := ⟨⟨by decide +kernel, by decide +kernel⟩, List.mem_of_getElem? (i := 1135) (by decide +kernel), List.mem_of_getElem? (i := 1484) (by decide +kernel), List.mem_of_getElem? (i := 1485) (by decide +kernel)⟩
theorem lw_p75 : lw_okq (⟨"EnemyLettersModel", "wordOf", "(III)I"⟩, 44) := ⟨⟨by decide +kernel, by decide +kernel⟩, List.mem_of_getElem? (i := 1135) (by decide +kernel), List.mem_of_getElem? (i := 1488) (by decide +kernel), List.mem_of_getElem? (i := 1489) (by decide +kernel)⟩
theorem lw_p76 : lw_okq (⟨"EnemyLettersModel", "isYear", "(J)Z"⟩, 44) := ⟨⟨by decide +kernel, by decide +kernel⟩, List.mem_of_getElem? (i := 1135) (by decide +kernel), List.mem_of_getElem? (i := 1492) (by decide +kernel), List.mem_of_getElem? (i := 1493) (by decide +kernel)⟩
theorem lw_p77 : lw_okq (⟨"EnemyLettersModel", "isLand", "()Z"⟩, 44) := ⟨⟨by decide +kernel, by decide +kernel⟩, List.mem_of_getElem? (i := 1135) (by decide +kernel), List.mem_of_getElem? (i := 1496) (by decide +kernel), List.mem_of_getElem? (i := 1497) (by decide +kernel)⟩
theorem lw_p78 : lw_okq (⟨"EnemyLettersModel", "feeling", "(III)I"⟩, 44) := ⟨⟨by decide +kernel, by decide +kernel⟩, List.mem_of_getElem? (i := 1135) (by decide +kernel), List.mem_of_getElem? (i := 1503) (by decide +kernel), List.mem_of_getElem? (i := 1504) (by decide +kernel)⟩
theorem lw_p79 : lw_okq (⟨"EnemyLettersModel", "areTwo", "(II)Z"⟩, 44) := ⟨⟨by decide +kernel, by decide +kernel⟩, List.mem_of_getElem? (i := 1135) (by decide +kernel), List.mem_of_getElem? (i := 1507) (by decide +kernel), List.mem_of_getElem? (i := 1508) (by decide +kernel)⟩
def lw_privs_5 : List (MethodName × Nat) := [(⟨"EnemyLettersModel", "asItIs", "()V"⟩, 44), (⟨"EnemyLettersModel", "goAll", "()V"⟩, 44), (⟨"EnemyLettersModel", "goYears", "()V"⟩, 44), (⟨"EnemyLettersModel", "yearMany", "()I"⟩, 44), (⟨"EnemyLettersModel", "wrongDone", "(III)V"⟩, 44), (⟨"EnemyLettersModel", "actsIn", "(I)V"⟩, 44), (⟨"EnemyLettersModel", "later", "(IZ)I"⟩, 44), (⟨"EnemyLettersModel", "givePosts", "()V"⟩, 44), (⟨"EnemyLettersModel", "bestFor", "(III)I"⟩, 44), (⟨"EnemyLettersModel", "fullWord", "(II)I"⟩, 44), (⟨"EnemyLettersModel", "everybody", "()I"⟩, 44), (⟨"EnemyLettersModel", "wordOf", "(III)I"⟩, 44), (⟨"EnemyLettersModel", "isYear", "(J)Z"⟩, 44), (⟨"EnemyLettersModel", "isLand", "()Z"⟩, 44), (⟨"EnemyLettersModel", "feeling", "(III)I"⟩, 44), (⟨"EnemyLettersModel", "areTwo", "(II)Z"⟩, 44)]
theorem lw_r5 : ∀ q ∈ lw_privs_5, lw_okq q := List.forall_mem_cons.mpr ⟨lw_p64, List.forall_mem_cons.mpr ⟨lw_p65, List.forall_mem_cons.mpr ⟨lw_p66, List.forall_mem_cons.mpr ⟨lw_p67, List.forall_mem_cons.mpr ⟨lw_p68, List.forall_mem_cons.mpr ⟨lw_p69, List.forall_mem_cons.mpr ⟨lw_p70, List.forall_mem_cons.mpr ⟨lw_p71, List.forall_mem_cons.mpr ⟨lw_p72, List.forall_mem_cons.mpr ⟨lw_p73, List.forall_mem_cons.mpr ⟨lw_p74, List.forall_mem_cons.mpr ⟨lw_p75, List.forall_mem_cons.mpr ⟨lw_p76, List.forall_mem_cons.mpr ⟨lw_p77, List.forall_mem_cons.mpr ⟨lw_p78, List.forall_mem_cons.mpr ⟨lw_p79, fun _ h => absurd h List.not_mem_nil⟩⟩⟩⟩⟩⟩⟩⟩⟩⟩⟩⟩⟩⟩⟩⟩
theorem lw_p80 : lw_okq (⟨"EnemyLettersModel", "enemiesOf", "(II)I"⟩, 44) := ⟨⟨by decide +kernel, by decide +kernel⟩, List.mem_of_getElem? (i := 1135) (by decide +kernel), List.mem_of_getElem? (i := 1515) (by decide +kernel), List.mem_of_getElem? (i := 1516) (by decide +kernel)⟩
theorem lw_p81 : lw_okq (⟨"EnemyLettersModel", "friendsOf", "(II)I"⟩, 44) := ⟨⟨by decide +kernel, by decide +kernel⟩, List.mem_of_getElem? (i := 1135) (by decide +kernel), List.mem_of_getElem? (i := 1523) (by decide +kernel), List.mem_of_getElem? (i := 1524) (by decide +kernel)⟩
theorem lw_p82 : lw_okq (⟨"EnemyLettersModel", "hateOf", "(II)I"⟩, 44) := ⟨⟨by decide +kernel, by decide +kernel⟩, List.mem_of_getElem? (i := 1135) (by decide +kernel), List.mem_of_getElem? (i := 1531) (by decide +kernel), List.mem_of_getElem? (i := 1532) (by decide +kernel)⟩
theorem lw_p83 : lw_okq (⟨"EnemyLettersModel", "wrongOf", "(II)I"⟩, 44) := ⟨⟨by decide +kernel, by decide +kernel⟩, List.mem_of_getElem? (i := 1135) (by decide +kernel), List.mem_of_getElem? (i := 1567) (by decide +kernel), List.mem_of_getElem? (i := 1568) (by decide +kernel)⟩
theorem lw_p84 : lw_okq (⟨"EnemyLettersModel", "hates", "(III)Z"⟩, 44) := ⟨⟨by decide +kernel, by decide +kernel⟩, List.mem_of_getElem? (i := 1135) (by decide +kernel), List.mem_of_getElem? (i := 1603) (by decide +kernel), List.mem_of_getElem? (i := 1604) (by decide +kernel)⟩
theorem lw_p85 : lw_okq (⟨"EnemyLettersModel", "isRing", "(IIII)Z"⟩, 44) := ⟨⟨by decide +kernel, by decide +kernel⟩, List.mem_of_getElem? (i := 1135) (by decide +kernel), List.mem_of_getElem? (i := 1611) (by decide +kernel), List.mem_of_getElem? (i := 1612) (by decide +kernel)⟩
theorem lw_p86 : lw_okq (⟨"EnemyLettersModel", "asksPost", "(I)Z"⟩, 44) := ⟨⟨by decide +kernel, by decide +kernel⟩, List.mem_of_getElem? (i := 1135) (by decide +kernel), List.mem_of_getElem? (i := 1619) (by decide +kernel), List.mem_of_getElem? (i := 1620) (by decide +kernel)⟩
theorem lw_p87 : lw_okq (⟨"EnemyLettersModel", "asksPerson", "(I)Z"⟩, 44) := ⟨⟨by decide +kernel, by decide +kernel⟩, List.mem_of_getElem? (i := 1135) (by decide +kernel), List.mem_of_getElem? (i := 1635) (by decide +kernel), List.mem_of_getElem? (i := 1636) (by decide +kernel)⟩
theorem lw_p88 : lw_okq (⟨"EnemyLettersModel", "hasOf", "(I)I"⟩, 44) := ⟨⟨by decide +kernel, by decide +kernel⟩, List.mem_of_getElem? (i := 1135) (by decide +kernel), List.mem_of_getElem? (i := 1639) (by decide +kernel), List.mem_of_getElem? (i := 1640) (by decide +kernel)⟩
theorem lw_p89 : lw_okq (⟨"EnemyLettersModel", "givenSet", "()I"⟩, 44) := ⟨⟨by decide +kernel, by decide +kernel⟩, List.mem_of_getElem? (i := 1135) (by decide +kernel), List.mem_of_getElem? (i := 1679) (by decide +kernel), List.mem_of_getElem? (i := 1680) (by decide +kernel)⟩
theorem lw_p90 : lw_okq (⟨"EnemyLettersModel", "leastOf", "(III)I"⟩, 44) := ⟨⟨by decide +kernel, by decide +kernel⟩, List.mem_of_getElem? (i := 1135) (by decide +kernel), List.mem_of_getElem? (i := 1695) (by decide +kernel), List.mem_of_getElem? (i := 1696) (by decide +kernel)⟩
theorem lw_p91 : lw_okq (⟨"EnemyLettersModel", "wrongMore", "(III)V"⟩, 44) := ⟨⟨by decide +kernel, by decide +kernel⟩, List.mem_of_getElem? (i := 1135) (by decide +kernel), List.mem_of_getElem? (i := 1699) (by decide +kernel), List.mem_of_getElem? (i := 1700) (by decide +kernel)⟩
theorem lw_p92 : lw_okq (⟨"EnemyLettersModel", "asksRows", "()Z"⟩, 44) := ⟨⟨by decide +kernel, by decide +kernel⟩, List.mem_of_getElem? (i := 1135) (by decide +kernel), List.mem_of_getElem? (i := 1716) (by decide +kernel), List.mem_of_getElem? (i := 1717) (by decide +kernel)⟩
theorem lw_p93 : lw_okq (⟨"EnemyLettersModel", "rowWorth", "()I"⟩, 44) := ⟨⟨by decide +kernel, by decide +kernel⟩, List.mem_of_getElem? (i := 1135) (by decide +kernel), List.mem_of_getElem? (i := 1720) (by decide +kernel), List.mem_of_getElem? (i := 1721) (by decide +kernel)⟩
theorem lw_p94 : lw_okq (⟨"EnemyLettersModel", "nextRow", "()Z"⟩, 44) := ⟨⟨by decide +kernel, by decide +kernel⟩, List.mem_of_getElem? (i := 1135) (by decide +kernel), List.mem_of_getElem? (i := 1724) (by decide +kernel), List.mem_of_getElem? (i := 1725) (by decide +kernel)⟩
theorem lw_p95 : lw_okq (⟨"EnemyLettersModel", "givenBy", "(I)I"⟩, 44) := ⟨⟨by decide +kernel, by decide +kernel⟩, List.mem_of_getElem? (i := 1135) (by decide +kernel), List.mem_of_getElem? (i := 1741) (by decide +kernel), List.mem_of_getElem? (i := 1742) (by decide +kernel)⟩
def lw_privs_6 : List (MethodName × Nat) := [(⟨"EnemyLettersModel", "enemiesOf", "(II)I"⟩, 44), (⟨"EnemyLettersModel", "friendsOf", "(II)I"⟩, 44), (⟨"EnemyLettersModel", "hateOf", "(II)I"⟩, 44), (⟨"EnemyLettersModel", "wrongOf", "(II)I"⟩, 44), (⟨"EnemyLettersModel", "hates", "(III)Z"⟩, 44), (⟨"EnemyLettersModel", "isRing", "(IIII)Z"⟩, 44), (⟨"EnemyLettersModel", "asksPost", "(I)Z"⟩, 44), (⟨"EnemyLettersModel", "asksPerson", "(I)Z"⟩, 44), (⟨"EnemyLettersModel", "hasOf", "(I)I"⟩, 44), (⟨"EnemyLettersModel", "givenSet", "()I"⟩, 44), (⟨"EnemyLettersModel", "leastOf", "(III)I"⟩, 44), (⟨"EnemyLettersModel", "wrongMore", "(III)V"⟩, 44), (⟨"EnemyLettersModel", "asksRows", "()Z"⟩, 44), (⟨"EnemyLettersModel", "rowWorth", "()I"⟩, 44), (⟨"EnemyLettersModel", "nextRow", "()Z"⟩, 44), (⟨"EnemyLettersModel", "givenBy", "(I)I"⟩, 44)]
theorem lw_r6 : ∀ q ∈ lw_privs_6, lw_okq q := List.forall_mem_cons.mpr ⟨lw_p80, List.forall_mem_cons.mpr ⟨lw_p81, List.forall_mem_cons.mpr ⟨lw_p82, List.forall_mem_cons.mpr ⟨lw_p83, List.forall_mem_cons.mpr ⟨lw_p84, List.forall_mem_cons.mpr ⟨lw_p85, List.forall_mem_cons.mpr ⟨lw_p86, List.forall_mem_cons.mpr ⟨lw_p87, List.forall_mem_cons.mpr ⟨lw_p88, List.forall_mem_cons.mpr ⟨lw_p89, List.forall_mem_cons.mpr ⟨lw_p90, List.forall_mem_cons.mpr ⟨lw_p91, List.forall_mem_cons.mpr ⟨lw_p92, List.forall_mem_cons.mpr ⟨lw_p93, List.forall_mem_cons.mpr ⟨lw_p94, List.forall_mem_cons.mpr ⟨lw_p95, fun _ h => absurd h List.not_mem_nil⟩⟩⟩⟩⟩⟩⟩⟩⟩⟩⟩⟩⟩⟩⟩⟩
theorem lw_p96 : lw_okq (⟨"EnemyLettersModel", "givenMany", "()I"⟩, 44) := ⟨⟨by decide +kernel, by decide +kernel⟩, List.mem_of_getElem? (i := 1135) (by decide +kernel), List.mem_of_getElem? (i := 1745) (by decide +kernel), List.mem_of_getElem? (i := 1746) (by decide +kernel)⟩
theorem lw_p97 : lw_okq (⟨"EnemyLettersModel", "layFits", "(II)I"⟩, 44) := ⟨⟨by decide +kernel, by decide +kernel⟩, List.mem_of_getElem? (i := 1135) (by decide +kernel), List.mem_of_getElem? (i := 1761) (by decide +kernel), List.mem_of_getElem? (i := 1762) (by decide +kernel)⟩
theorem lw_p98 : lw_okq (⟨"EnemyLettersModel", "askSeen", "(I)I"⟩, 44) := ⟨⟨by decide +kernel, by decide +kernel⟩, List.mem_of_getElem? (i := 1135) (by decide +kernel), List.mem_of_getElem? (i := 1765) (by decide +kernel), List.mem_of_getElem? (i := 1766) (by decide +kernel)⟩
theorem lw_p99 : lw_okq (⟨"EnemyLettersModel", "numberAt", "(II)J"⟩, 44) := ⟨⟨by decide +kernel, by decide +kernel⟩, List.mem_of_getElem? (i := 1135) (by decide +kernel), List.mem_of_getElem? (i := 1772) (by decide +kernel), List.mem_of_getElem? (i := 1773) (by decide +kernel)⟩
theorem lw_p100 : lw_okq (⟨"EnemyLettersModel", "isSeen", "(I)Z"⟩, 44) := ⟨⟨by decide +kernel, by decide +kernel⟩, List.mem_of_getElem? (i := 1135) (by decide +kernel), List.mem_of_getElem? (i := 1777) (by decide +kernel), List.mem_of_getElem? (i := 1778) (by decide +kernel)⟩
theorem lw_p101 : lw_okq (⟨"EnemyLettersModel", "askOf", "()I"⟩, 44) := ⟨⟨by decide +kernel, by decide +kernel⟩, List.mem_of_getElem? (i := 1135) (by decide +kernel), List.mem_of_getElem? (i := 1793) (by decide +kernel), List.mem_of_getElem? (i := 1794) (by decide +kernel)⟩
theorem lw_p102 : lw_okq (⟨"EnemyLettersModel", "worthOf", "(III)I"⟩, 44) := ⟨⟨by decide +kernel, by decide +kernel⟩, List.mem_of_getElem? (i := 1135) (by decide +kernel), List.mem_of_getElem? (i := 1809) (by decide +kernel), List.mem_of_getElem? (i := 1810) (by decide +kernel)⟩
theorem lw_p103 : lw_okq (⟨"EnemyLettersModel", "winsBy", "(IIIII)I"⟩, 44) := ⟨⟨by decide +kernel, by decide +kernel⟩, List.mem_of_getElem? (i := 1135) (by decide +kernel), List.mem_of_getElem? (i := 1833) (by decide +kernel), List.mem_of_getElem? (i := 1834) (by decide +kernel)⟩
theorem lw_p104 : lw_okq (⟨"EnemyLettersModel", "layThaws", "(II)V"⟩, 44) := ⟨⟨by decide +kernel, by decide +kernel⟩, List.mem_of_getElem? (i := 1135) (by decide +kernel), List.mem_of_getElem? (i := 1847) (by decide +kernel), List.mem_of_getElem? (i := 1848) (by decide +kernel)⟩
theorem lw_p105 : lw_okq (⟨"EnemyLettersModel", "keepAct", "(IIII)I"⟩, 44) := ⟨⟨by decide +kernel, by decide +kernel⟩, List.mem_of_getElem? (i := 1135) (by decide +kernel), List.mem_of_getElem? (i := 1860) (by decide +kernel), List.mem_of_getElem? (i := 1861) (by decide +kernel)⟩
theorem lw_p106 : lw_okq (⟨"EnemyLettersModel", "goDrawn", "(J)V"⟩, 44) := ⟨⟨by decide +kernel, by decide +kernel⟩, List.mem_of_getElem? (i := 1135) (by decide +kernel), List.mem_of_getElem? (i := 1884) (by decide +kernel), List.mem_of_getElem? (i := 1885) (by decide +kernel)⟩
def lw_privs_7 : List (MethodName × Nat) := [(⟨"EnemyLettersModel", "givenMany", "()I"⟩, 44), (⟨"EnemyLettersModel", "layFits", "(II)I"⟩, 44), (⟨"EnemyLettersModel", "askSeen", "(I)I"⟩, 44), (⟨"EnemyLettersModel", "numberAt", "(II)J"⟩, 44), (⟨"EnemyLettersModel", "isSeen", "(I)Z"⟩, 44), (⟨"EnemyLettersModel", "askOf", "()I"⟩, 44), (⟨"EnemyLettersModel", "worthOf", "(III)I"⟩, 44), (⟨"EnemyLettersModel", "winsBy", "(IIIII)I"⟩, 44), (⟨"EnemyLettersModel", "layThaws", "(II)V"⟩, 44), (⟨"EnemyLettersModel", "keepAct", "(IIII)I"⟩, 44), (⟨"EnemyLettersModel", "goDrawn", "(J)V"⟩, 44)]
theorem lw_r7 : ∀ q ∈ lw_privs_7, lw_okq q := List.forall_mem_cons.mpr ⟨lw_p96, List.forall_mem_cons.mpr ⟨lw_p97, List.forall_mem_cons.mpr ⟨lw_p98, List.forall_mem_cons.mpr ⟨lw_p99, List.forall_mem_cons.mpr ⟨lw_p100, List.forall_mem_cons.mpr ⟨lw_p101, List.forall_mem_cons.mpr ⟨lw_p102, List.forall_mem_cons.mpr ⟨lw_p103, List.forall_mem_cons.mpr ⟨lw_p104, List.forall_mem_cons.mpr ⟨lw_p105, List.forall_mem_cons.mpr ⟨lw_p106, fun _ h => absurd h List.not_mem_nil⟩⟩⟩⟩⟩⟩⟩⟩⟩⟩⟩
def lw_privs : List (MethodName × Nat) := lw_privs_1 ++ (lw_privs_2 ++ (lw_privs_3 ++ (lw_privs_4 ++ (lw_privs_5 ++ (lw_privs_6 ++ (lw_privs_7))))))
def lw_tbl : List Cond := k2_sels lw_privs ++ tables_1
theorem lw_privs_ok : ∀ q ∈ lw_privs, lw_okq q := by
  show ∀ q ∈ lw_privs_1 ++ (lw_privs_2 ++ (lw_privs_3 ++ (lw_privs_4 ++ (lw_privs_5 ++ (lw_privs_6 ++ (lw_privs_7)))))), lw_okq q
  exact List.forall_mem_append.mpr ⟨lw_r1, List.forall_mem_append.mpr ⟨lw_r2, List.forall_mem_append.mpr ⟨lw_r3, List.forall_mem_append.mpr ⟨lw_r4, List.forall_mem_append.mpr ⟨lw_r5, List.forall_mem_append.mpr ⟨lw_r6, lw_r7⟩⟩⟩⟩⟩⟩
def RX0 : String := "EnemyLetters$Choice"
def TX0 : u_T := fun k => match k with
  | 0 => ("EnemyLetters$Choice", "land", "LEnemyLetters$Land;", true)
  | 1 => ("EnemyLetters$Choice", "course", "LEnemyLetters$Course;", true)
  | 2 => ("EnemyLetters$Choice", "tried", "[I", true)
  | 3 => ("EnemyLetters$Choice", "firstRow", "[I", true)
  | 4 => ("EnemyLetters$Choice", "most", "I", false)
  | _ => ("EnemyLetters$Choice", "found", "I", false)
def tyX0 : Nat → FieldType := fun k => match k with
  | 0 => .object "EnemyLetters$Land"
  | 1 => .object "EnemyLetters$Course"
  | 2 => .array .int
  | 3 => .array .int
  | 4 => .int
  | _ => .int
theorem nmX0 : ∀ a, a < 6 → ∀ b, b < 6 → a ≠ b → (TX0 a).2.1 ≠ (TX0 b).2.1 := by decide +kernel
theorem tyX0_ok : ∀ k, k < 6 → parseFieldDescriptor (TX0 k).2.2.1 = some (tyX0 k) := by decide +kernel
def RX1 : String := "EnemyLetters$Course"
def TX1 : u_T := fun k => match k with
  | 0 => ("EnemyLetters$Course", "land", "LEnemyLetters$Land;", true)
  | 1 => ("EnemyLetters$Course", "fading", "I", false)
  | 2 => ("EnemyLetters$Course", "thaws", "I", false)
  | 3 => ("EnemyLetters$Course", "leftOut", "I", false)
  | 4 => ("EnemyLetters$Course", "extra", "[I", true)
  | 5 => ("EnemyLetters$Course", "ableTo", "[I", true)
  | 6 => ("EnemyLetters$Course", "feelings", "[I", true)
  | 7 => ("EnemyLetters$Course", "words", "[I", true)
  | _ => ("EnemyLetters$Course", "winner", "[I", true)
def tyX1 : Nat → FieldType := fun k => match k with
  | 0 => .object "EnemyLetters$Land"
  | 1 => .int
  | 2 => .int
  | 3 => .int
  | 4 => .array .int
  | 5 => .array .int
  | 6 => .array .int
  | 7 => .array .int
  | _ => .array .int
theorem nmX1 : ∀ a, a < 9 → ∀ b, b < 9 → a ≠ b → (TX1 a).2.1 ≠ (TX1 b).2.1 := by decide +kernel
theorem tyX1_ok : ∀ k, k < 9 → parseFieldDescriptor (TX1 k).2.2.1 = some (tyX1 k) := by decide +kernel
def RX2 : String := "EnemyLetters$Deeds"
def TX2 : u_T := fun k => match k with
  | 0 => ("EnemyLetters$Deeds", "doer", "[I", true)
  | 1 => ("EnemyLetters$Deeds", "sufferer", "[I", true)
  | 2 => ("EnemyLetters$Deeds", "extent", "[I", true)
  | 3 => ("EnemyLetters$Deeds", "when", "[I", true)
  | _ => ("EnemyLetters$Deeds", "size", "I", false)
def tyX2 : Nat → FieldType := fun k => match k with
  | 0 => .array .int
  | 1 => .array .int
  | 2 => .array .int
  | 3 => .array .int
  | _ => .int
theorem nmX2 : ∀ a, a < 5 → ∀ b, b < 5 → a ≠ b → (TX2 a).2.1 ≠ (TX2 b).2.1 := by decide +kernel
theorem tyX2_ok : ∀ k, k < 5 → parseFieldDescriptor (TX2 k).2.2.1 = some (tyX2 k) := by decide +kernel
def RX3 : String := "EnemyLetters$Land"
def TX3 : u_T := fun k => match k with
  | 0 => ("EnemyLetters$Land", "years", "I", false)
  | 1 => ("EnemyLetters$Land", "fading", "I", false)
  | 2 => ("EnemyLetters$Land", "odds", "I", false)
  | 3 => ("EnemyLetters$Land", "persons", "I", false)
  | 4 => ("EnemyLetters$Land", "bonds", "I", false)
  | 5 => ("EnemyLetters$Land", "posts", "I", false)
  | 6 => ("EnemyLetters$Land", "lines", "I", false)
  | 7 => ("EnemyLetters$Land", "canDo", "[I", true)
  | 8 => ("EnemyLetters$Land", "feelings", "[I", true)
  | 9 => ("EnemyLetters$Land", "asks", "[I", true)
  | 10 => ("EnemyLetters$Land", "when", "[I", true)
  | 11 => ("EnemyLetters$Land", "wrongs", "LEnemyLetters$Deeds;", true)
  | _ => ("EnemyLetters$Land", "acts", "LEnemyLetters$Deeds;", true)
def tyX3 : Nat → FieldType := fun k => match k with
  | 0 => .int
  | 1 => .int
  | 2 => .int
  | 3 => .int
  | 4 => .int
  | 5 => .int
  | 6 => .int
  | 7 => .array .int
  | 8 => .array .int
  | 9 => .array .int
  | 10 => .array .int
  | 11 => .object "EnemyLetters$Deeds"
  | _ => .object "EnemyLetters$Deeds"
theorem nmX3 : ∀ a, a < 13 → ∀ b, b < 13 → a ≠ b → (TX3 a).2.1 ≠ (TX3 b).2.1 := by decide +kernel
theorem tyX3_ok : ∀ k, k < 13 → parseFieldDescriptor (TX3 k).2.2.1 = some (tyX3 k) := by decide +kernel
def RX4 : String := "EnemyLetters$Reader"
def TX4 : u_T := fun k => match k with
  | 0 => ("EnemyLetters$Reader", "tape", "LEnemyLetters$Tape;", true)
  | 1 => ("EnemyLetters$Reader", "land", "LEnemyLetters$Land;", true)
  | 2 => ("EnemyLetters$Reader", "fault", "I", false)
  | 3 => ("EnemyLetters$Reader", "place", "I", false)
  | 4 => ("EnemyLetters$Reader", "kind", "I", false)
  | 5 => ("EnemyLetters$Reader", "start", "I", false)
  | 6 => ("EnemyLetters$Reader", "behind", "I", false)
  | 7 => ("EnemyLetters$Reader", "value", "I", false)
  | 8 => ("EnemyLetters$Reader", "number", "I", false)
  | 9 => ("EnemyLetters$Reader", "one", "I", false)
  | 10 => ("EnemyLetters$Reader", "two", "I", false)
  | _ => ("EnemyLetters$Reader", "set", "I", false)
def tyX4 : Nat → FieldType := fun k => match k with
  | 0 => .object "EnemyLetters$Tape"
  | 1 => .object "EnemyLetters$Land"
  | 2 => .int
  | 3 => .int
  | 4 => .int
  | 5 => .int
  | 6 => .int
  | 7 => .int
  | 8 => .int
  | 9 => .int
  | 10 => .int
  | _ => .int
theorem nmX4 : ∀ a, a < 12 → ∀ b, b < 12 → a ≠ b → (TX4 a).2.1 ≠ (TX4 b).2.1 := by decide +kernel
theorem tyX4_ok : ∀ k, k < 12 → parseFieldDescriptor (TX4 k).2.2.1 = some (tyX4 k) := by decide +kernel
def RX5 : String := "EnemyLetters$Sight"
def TX5 : u_T := fun k => match k with
  | 0 => ("EnemyLetters$Sight", "land", "LEnemyLetters$Land;", true)
  | 1 => ("EnemyLetters$Sight", "trial", "LEnemyLetters$Course;", true)
  | 2 => ("EnemyLetters$Sight", "slots", "LEnemyLetters$Slots;", true)
  | 3 => ("EnemyLetters$Sight", "tally", "[I", true)
  | 4 => ("EnemyLetters$Sight", "found", "I", false)
  | 5 => ("EnemyLetters$Sight", "inAll", "I", false)
  | _ => ("EnemyLetters$Sight", "inSome", "I", false)
def tyX5 : Nat → FieldType := fun k => match k with
  | 0 => .object "EnemyLetters$Land"
  | 1 => .object "EnemyLetters$Course"
  | 2 => .object "EnemyLetters$Slots"
  | 3 => .array .int
  | 4 => .int
  | 5 => .int
  | _ => .int
theorem nmX5 : ∀ a, a < 7 → ∀ b, b < 7 → a ≠ b → (TX5 a).2.1 ≠ (TX5 b).2.1 := by decide +kernel
theorem tyX5_ok : ∀ k, k < 7 → parseFieldDescriptor (TX5 k).2.2.1 = some (tyX5 k) := by decide +kernel
def RX6 : String := "EnemyLetters$Slots"
def TX6 : u_T := fun k => match k with
  | 0 => ("EnemyLetters$Slots", "numbers", "[[J", true)
  | 1 => ("EnemyLetters$Slots", "widths", "[I", true)
  | _ => ("EnemyLetters$Slots", "sizes", "[I", true)
def tyX6 : Nat → FieldType := fun k => match k with
  | 0 => .array (.array .long)
  | 1 => .array .int
  | _ => .array .int
theorem nmX6 : ∀ a, a < 3 → ∀ b, b < 3 → a ≠ b → (TX6 a).2.1 ≠ (TX6 b).2.1 := by decide +kernel
theorem tyX6_ok : ∀ k, k < 3 → parseFieldDescriptor (TX6 k).2.2.1 = some (tyX6 k) := by decide +kernel
def RX7 : String := "EnemyLetters$Tape"
def TX7 : u_T := fun k => match k with
  | 0 => ("EnemyLetters$Tape", "bytes", "[B", true)
  | _ => ("EnemyLetters$Tape", "size", "I", false)
def tyX7 : Nat → FieldType := fun k => match k with
  | 0 => .array .byte
  | _ => .int
theorem nmX7 : ∀ a, a < 2 → ∀ b, b < 2 → a ≠ b → (TX7 a).2.1 ≠ (TX7 b).2.1 := by decide +kernel
theorem tyX7_ok : ∀ k, k < 2 → parseFieldDescriptor (TX7 k).2.2.1 = some (tyX7 k) := by decide +kernel
def RX8 : String := "EnemyLetters"
def TX8 : u_T := fun k => match k with
  | 0 => ("EnemyLetters", "tape", "LEnemyLetters$Tape;", true)
  | 1 => ("EnemyLetters", "reader", "LEnemyLetters$Reader;", true)
  | 2 => ("EnemyLetters", "told", "LEnemyLetters$Land;", true)
  | 3 => ("EnemyLetters", "now", "LEnemyLetters$Course;", true)
  | 4 => ("EnemyLetters", "trial", "LEnemyLetters$Course;", true)
  | 5 => ("EnemyLetters", "choice", "LEnemyLetters$Choice;", true)
  | 6 => ("EnemyLetters", "slots", "LEnemyLetters$Slots;", true)
  | 7 => ("EnemyLetters", "sight", "LEnemyLetters$Sight;", true)
  | 8 => ("EnemyLetters", "images", "[LEnemyLetters$Land;", true)
  | _ => ("EnemyLetters", "kept", "[Z", true)
def tyX8 : Nat → FieldType := fun k => match k with
  | 0 => .object "EnemyLetters$Tape"
  | 1 => .object "EnemyLetters$Reader"
  | 2 => .object "EnemyLetters$Land"
  | 3 => .object "EnemyLetters$Course"
  | 4 => .object "EnemyLetters$Course"
  | 5 => .object "EnemyLetters$Choice"
  | 6 => .object "EnemyLetters$Slots"
  | 7 => .object "EnemyLetters$Sight"
  | 8 => .array (.object "EnemyLetters$Land")
  | _ => .array .boolean
theorem nmX8 : ∀ a, a < 10 → ∀ b, b < 10 → a ≠ b → (TX8 a).2.1 ≠ (TX8 b).2.1 := by decide +kernel
theorem tyX8_ok : ∀ k, k < 10 → parseFieldDescriptor (TX8 k).2.2.1 = some (tyX8 k) := by decide +kernel
def RX9 : String := "EnemyLettersModel"
def TX9 : u_T := fun k => match k with
  | 0 => ("EnemyLettersModel", "thrown", "I", false)
  | 1 => ("EnemyLettersModel", "world", "[I", true)
  | 2 => ("EnemyLettersModel", "images", "[I", true)
  | 3 => ("EnemyLettersModel", "hasImage", "[Z", true)
  | 4 => ("EnemyLettersModel", "tape", "[B", true)
  | 5 => ("EnemyLettersModel", "taped", "I", false)
  | 6 => ("EnemyLettersModel", "five", "[I", true)
  | 7 => ("EnemyLettersModel", "size", "I", false)
  | 8 => ("EnemyLettersModel", "at", "I", false)
  | 9 => ("EnemyLettersModel", "from", "I", false)
  | 10 => ("EnemyLettersModel", "token", "I", false)
  | 11 => ("EnemyLettersModel", "value", "I", false)
  | 12 => ("EnemyLettersModel", "faultKind", "I", false)
  | 13 => ("EnemyLettersModel", "faultPlace", "I", false)
  | 14 => ("EnemyLettersModel", "fresh", "[I", true)
  | 15 => ("EnemyLettersModel", "skillOf", "[I", true)
  | 16 => ("EnemyLettersModel", "moreWho", "[I", true)
  | 17 => ("EnemyLettersModel", "moreTo", "[I", true)
  | 18 => ("EnemyLettersModel", "moreBy", "[I", true)
  | 19 => ("EnemyLettersModel", "moreMany", "I", false)
  | 20 => ("EnemyLettersModel", "lawNow", "I", false)
  | 21 => ("EnemyLettersModel", "thawSet", "I", false)
  | 22 => ("EnemyLettersModel", "leftOut", "I", false)
  | 23 => ("EnemyLettersModel", "feelAt", "[I", true)
  | 24 => ("EnemyLettersModel", "now", "[I", true)
  | 25 => ("EnemyLettersModel", "getsIn", "[I", true)
  | 26 => ("EnemyLettersModel", "nextIn", "[I", true)
  | 27 => ("EnemyLettersModel", "pensNow", "I", false)
  | 28 => ("EnemyLettersModel", "rowNow", "[I", true)
  | 29 => ("EnemyLettersModel", "firstRow", "[I", true)
  | 30 => ("EnemyLettersModel", "wordBy", "[I", true)
  | 31 => ("EnemyLettersModel", "rowMost", "I", false)
  | 32 => ("EnemyLettersModel", "rowMany", "I", false)
  | 33 => ("EnemyLettersModel", "fit", "[I", true)
  | 34 => ("EnemyLettersModel", "getsBy", "[I", true)
  | 35 => ("EnemyLettersModel", "fitMany", "I", false)
  | 36 => ("EnemyLettersModel", "askWorst", "I", false)
  | 37 => ("EnemyLettersModel", "oftenAll", "J", false)
  | 38 => ("EnemyLettersModel", "oftenGets", "J", false)
  | 39 => ("EnemyLettersModel", "oftenGiven", "J", false)
  | 40 => ("EnemyLettersModel", "many", "[I", true)
  | 41 => ("EnemyLettersModel", "width", "[I", true)
  | 42 => ("EnemyLettersModel", "numbers", "[J", true)
  | _ => ("EnemyLettersModel", "moving", "[J", true)
def tyX9 : Nat → FieldType := fun k => match k with
  | 0 => .int
  | 1 => .array .int
  | 2 => .array .int
  | 3 => .array .boolean
  | 4 => .array .byte
  | 5 => .int
  | 6 => .array .int
  | 7 => .int
  | 8 => .int
  | 9 => .int
  | 10 => .int
  | 11 => .int
  | 12 => .int
  | 13 => .int
  | 14 => .array .int
  | 15 => .array .int
  | 16 => .array .int
  | 17 => .array .int
  | 18 => .array .int
  | 19 => .int
  | 20 => .int
  | 21 => .int
  | 22 => .int
  | 23 => .array .int
  | 24 => .array .int
  | 25 => .array .int
  | 26 => .array .int
  | 27 => .int
  | 28 => .array .int
  | 29 => .array .int
  | 30 => .array .int
  | 31 => .int
  | 32 => .int
  | 33 => .array .int
  | 34 => .array .int
  | 35 => .int
  | 36 => .int
  | 37 => .long
  | 38 => .long
  | 39 => .long
  | 40 => .array .int
  | 41 => .array .int
  | 42 => .array .long
  | _ => .array .long
theorem nmX9 : ∀ a, a < 44 → ∀ b, b < 44 → a ≠ b → (TX9 a).2.1 ≠ (TX9 b).2.1 := by decide +kernel
theorem tyX9_ok : ∀ k, k < 44 → parseFieldDescriptor (TX9 k).2.2.1 = some (tyX9 k) := by decide +kernel
abbrev vwCl : List vw_C := [(RX0, TX0, 6), (RX1, TX1, 9), (RX2, TX2, 5), (RX3, TX3, 13), (RX4, TX4, 12), (RX5, TX5, 7), (RX6, TX6, 3), (RX7, TX7, 2), (RX8, TX8, 10), (RX9, TX9, 44)]
