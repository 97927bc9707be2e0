/-! ===== what no method changes: texts, the library's statics, links of nest mates (by program) ===== -/
def NW1 : List Cond := [.methodLinkNest "EnemyLetters" 9 ⟨"EnemyLetters$Tape", "<init>", "()V"⟩ "EnemyLetters", .methodLinkNest "EnemyLetters$Reader" 11 ⟨"EnemyLetters$Land", "<init>", "()V"⟩ "EnemyLetters", .methodLinkNest "EnemyLetters" 27 ⟨"EnemyLetters$Land", "<init>", "()V"⟩ "EnemyLetters", .methodLinkNest "EnemyLetters" 55 ⟨"EnemyLetters$Slots", "<init>", "()V"⟩ "EnemyLetters", .methodLinkNest "EnemyLetters$Course" 143 ⟨"EnemyLetters", "isIn", "(II)Z"⟩ "EnemyLetters", .methodLinkNest "EnemyLetters$Reader" 166 ⟨"EnemyLetters", "isIn", "(II)Z"⟩ "EnemyLetters", .methodLinkNest "EnemyLetters$Choice" 59 ⟨"EnemyLetters", "isIn", "(II)Z"⟩ "EnemyLetters"]
def SRs : List (Nat × Nat × Nat × String) := [(5, 63, 0, "land"), (5, 68, 1, "years"), (5, 79, 2, "law"), (5, 84, 3, "odds"), (5, 88, 4, "person"), (5, 96, 5, "likes"), (5, 101, 6, "hates"), (5, 103, 7, "wrong"), (5, 108, 8, "post"), (5, 148, 9, "at"), (10, 186, 0, "land"), (10, 188, 1, "years"), (10, 194, 2, "law"), (10, 196, 3, "odds"), (10, 207, 9, "at"), (10, 208, 4, "person"), (10, 210, 5, "likes"), (10, 212, 6, "hates"), (10, 214, 7, "wrong"), (10, 216, 8, "post")]
def Z0 (adK adV : Nat → Nat) : (Nat → Prop) → State → Heap → Prop := fun A U H => tW adK adV A U H ∧ (∀ q ∈ SRs, vk_R (cn q.1) q.2.1 q.2.2.2 (adK q.2.2.1) U) ∧ (∀ w ∈ NW1, va_Nw w U) ∧ va_AO "EnemyLetters$Land" U ∧ (Cond.arrayOver (.array .long)).before #[] U = true
theorem NW1_on : ∀ w ∈ NW1, w.onTables = true := by decide +kernel
theorem NW1_sh : ∀ w ∈ NW1, ∃ a i x h, w = .methodLinkNest a i x h := by
  intro w hw
  simp only [NW1, List.mem_cons, List.not_mem_nil, or_false] at hw
  rcases hw with rfl | rfl | rfl | rfl | rfl | rfl | rfl <;> exact ⟨_, _, _, _, rfl⟩
theorem Z0_ok (adK adV : Nat → Nat) : mZok (Z0 adK adV) := by
  refine ⟨fun A U U' H e h => ?_, fun A s U H hW h => ?_, fun A U H H1 hq h => ?_⟩
  · have hal : U.vm.Alike U'.vm := by rw [e]; exact Vm.Alike.refl _
    exact ⟨tW_moved hal h.1, fun q hq => vk_R.same e.symm (h.2.1 q hq), fun w hw => va_Nw.same (NW1_on w hw) e (h.2.2.1 w hw), va_AO.moved hal h.2.2.2.1, over_moved hal h.2.2.2.2⟩
  · refine ⟨tW_moved hW.alike h.1, fun q hq => vk_R.warm hW (h.2.1 q hq), fun w hw => ?_, va_AO.moved hW.alike h.2.2.2.1, over_moved hW.alike h.2.2.2.2⟩
    obtain ⟨a, i, x, hh, rfl⟩ := NW1_sh w hw
    exact va_Nw.warmM hW (h.2.2.1 _ hw)
  · exact ⟨tW_kept h.1 hq, h.2⟩
theorem Z0_nw {adK adV : Nat → Nat} : ∀ w ∈ NW0, ∀ A U H, Z0 adK adV A U H → va_Nw w U := by
  intro w hw A U H h
  exact h.2.2.1 w ((show ∀ w ∈ NW0, w ∈ NW1 by decide +kernel) w hw)
/-- the world with its texts: the adresses of the texts are those of 310 and on -/
def vTx (v : mV) (adK : Nat → Nat) : Prop := ((∀ a, (vTT v).2.2.1 a = 6 → wAk a = 6) ∧ (vTT v).2.1 = wRef ∧ (vTT v).2.2.2 = wAn) ∧ ∀ i, i < 10 → vAdr v (310 + i) = adK i
theorem SOs_k : ∀ q ∈ SOs, ∃ t, (q.1, q.2.1, q.2.2 - 310, t) ∈ SRs ∧ 310 ≤ q.2.2 ∧ q.2.2 - 310 < 10 := by
  have h : ∀ q ∈ SOs, (SRs.any fun r => r.1 == q.1 && (r.2.1 == q.2.1 && r.2.2.1 == q.2.2 - 310)) = true ∧ 310 ≤ q.2.2 ∧ q.2.2 - 310 < 10 := by decide +kernel
  intro q hq
  obtain ⟨h1, h2, h3⟩ := h q hq
  obtain ⟨r, hr, he⟩ := List.any_eq_true.mp h1
  simp only [Bool.and_eq_true, beq_iff_eq] at he
  refine ⟨r.2.2.2, ?_, h2, h3⟩
  rw [← he.1, ← he.2.1, ← he.2.2]
  exact hr
theorem Z0_so {v : mV} {adK adV : Nat → Nat} (hT : vTx v adK) : mSO v (Z0 adK adV) SO0 := by
  intro own i k hso f cc pc H locs ls rest hx hb hown hz hd hS kk
  obtain ⟨c, rfl, hm⟩ := hso
  obtain ⟨t, hr, h1, h2⟩ := SOs_k _ hm
  replace h1 : 310 ≤ k := h1
  replace h2 : k - 310 < 10 := h2
  have hR := hz.2.1 _ hr
  have e : vAdr v k = adK (k - 310) := by
    have := hT.2 (k - 310) h2
    rw [show 310 + (k - 310) = k by omega] at this
    exact this
  rw [e] at kk
  exact va_ldcS hx hb hown hR hd kk
/-- a call with more on the stack -/
theorem tRunV {p : Program} {l : Launch} {e : Env} {R : Room} {s : State} {m : MethodId} {args : Array Value} {below : List Frame} {meth : Method} {c : Code} {H : Heap} {locs : List Loc} {cells slots : Nat} {y : MethodName} {bytes cc : ByteArray} {maxL nL mc ms n index : Nat} {ret : Option FieldType} {ws : List Cond} {rm : Room} {Pc : Array Value → State → Prop} {Qc : Array Value → State → Outcome → State → Prop} {free : Addr → Prop} {Ts : List Cond} {own C : String} {b : Addr} {As rest : List Value} {g : JFrame}
    (S : CallFix p m c cc nL s args Ts own) (hM : Met l y ws rm Pc Qc mc ms free) (cw : CallW R s args own C index y bytes maxL ret ws rm mc ms n) (hlo : 200 + (maxL + 11) + rm.locals ≤ R.locals) (hp : PreV s H C b Pc As)
    (hg : g.method = m) (hn : As.length = n) (hsize : g.locals.size = nL) (hstack : g.stack = As.reverse ++ .ref b :: rest) (hW : 2 * g.monitorRoom + (rest.map fun v => v.category).sum ≤ 200) (hdg : decode cc g.pc = .ok (.invokevirtual index, 3)) (hf : cells + mc ≤ R.cells ∧ slots + ms ≤ R.slots) :
    va_Run p l e R s m args below meth c H locs cells slots mc ms g rest (Qc (Value.ref b :: As).toArray) (free) := by
  obtain ⟨⟨hrc, hrs, hfr, -, hws, hcw, hcode, hini, hy, hlen, hl⟩, hin, hse⟩ := cw
  have hK : Back l R p e below s args y 3 200 (PreOf R mc ms Pc) (PostOf Qc mc ms free) := back_of (bytes := bytes) (maxL := maxL) (ret := ret) hM hp.1 hrc hrs hfr hlo hws hcw (fun a' U hW => word_at hW (Or.inl (by first | rfl | simp [Cond.onTables, Cond.keeps, Cond.steady])) hini)
  obtain ⟨hx, hb, hml, ho, -⟩ := S
  obtain ⟨-, ⟨cellB, hcB, hoB, hclB⟩, hPc⟩ := hp
  intro T hT X
  obtain ⟨v, vm₁, ⟨U', l2, c2, s2⟩, hW₁, X', ⟨g', mk, t, L, e1, e2, hq, h1, hL, h2, h3⟩, st⟩ := callV X hx (C := C) (bytes := bytes) (maxL := maxL) (ret := ret) ho hl hin hse hcode hy hK (by rw [hT]; exact hcB) hoB hclB hg (hsize.trans hml.symm) (argsL := As) (rest := rest) (fun sig h => hn.trans (hlen sig h)) hstack hW (by rw [hb]; exact hdg)
    (fun vm₁ hW₁ => ⟨hf.1, hf.2, hPc (T.setVm vm₁) hT hW₁⟩)
  dsimp only [Pt.U, Pt.locs, Pt.cells, Pt.slots] at X' e1 e2 h1 h2 h3 st
  subst h1; subst h2; subst h3
  exact ⟨v, (T.setVm vm₁).calling g' mk (Value.ref b :: As).toArray, t, U', L, hT, X', hL, e1, e2, hq, st⟩
theorem wAk_t : ∀ a, wAk a = 6 → 310 ≤ a ∧ a - 310 < 10 := by
  intro a h
  have hlt : a < 320 := wAk_lt (by rw [h]; decide)
  have key : (List.range 320).all (fun a => !(Nat.beq (wAk a) 6) || Nat.ble 310 a) = true := by decide +kernel
  have := List.all_eq_true.mp key a (List.mem_range.mpr hlt)
  rw [h] at this
  have : 310 ≤ a := Nat.le_of_ble_eq_true this
  omega
theorem wAn_t (σ : mS) : ∀ i, i < 10 → wAn σ (310 + i) = tLen.getD i 0 := by
  intro i hi
  match i, hi with
  | 0, _ => rfl
  | 1, _ => rfl
  | 2, _ => rfl
  | 3, _ => rfl
  | 4, _ => rfl
  | 5, _ => rfl
  | 6, _ => rfl
  | 7, _ => rfl
  | 8, _ => rfl
  | 9, _ => rfl
  | i + 10, h => omega
theorem wRef_t : ∀ i, i < 10 → ∀ k, k < tLen.getD i 0 → Int32.ofNat (wRef (310 + i) k) = (tByt.getD i []).getD k 0 := by
  have key : (List.range 10).all (fun i => (List.range (tLen.getD i 0)).all (fun k => decide (Int32.ofNat (wRef (310 + i) k) = (tByt.getD i []).getD k 0))) = true := by decide +kernel
  intro i hi k hk
  have := List.all_eq_true.mp (List.all_eq_true.mp key i (List.mem_range.mpr hi)) k (List.mem_range.mpr hk)
  exact of_decide_eq_true this

theorem tl_5_173 : Cond.methodLink (cn 5) 173 ⟨"java/lang/String", "length", "()I"⟩ ∈ GW0 := gk ck_3 17 rfl rfl
theorem tl_5_183 : Cond.methodLink (cn 5) 183 ⟨"java/lang/String", "charAt", "(I)C"⟩ ∈ GW0 := gk ck_3 27 rfl rfl
theorem tl_10_156 : Cond.methodLink (cn 10) 156 ⟨"java/lang/String", "length", "()I"⟩ ∈ GW0 := gk ck_6 139 rfl rfl
theorem tl_10_161 : Cond.methodLink (cn 10) 161 ⟨"java/lang/String", "charAt", "(I)C"⟩ ∈ GW0 := gk ck_6 140 rfl rfl
theorem tin_length : Cond.instanceMethod ⟨"java/lang/String", "length", "()I"⟩ ∈ GW0 := gk ck_3 18 rfl rfl
theorem tse_length : Cond.selects "java/lang/String" ⟨"java/lang/String", "length", "()I"⟩ ⟨"java/lang/String", "length", "()I"⟩ ∈ GW0 := gk ck_3 19 rfl rfl
theorem tin_charAt : Cond.instanceMethod ⟨"java/lang/String", "charAt", "(I)C"⟩ ∈ GW0 := gk ck_3 28 rfl rfl
theorem tse_charAt : Cond.selects "java/lang/String" ⟨"java/lang/String", "charAt", "(I)C"⟩ ⟨"java/lang/String", "charAt", "(I)C"⟩ ∈ GW0 := gk ck_3 29 rfl rfl
theorem tini : Cond.initialized "java/lang/String" ∈ GW0 := gk ck_1 15 rfl rfl
theorem mIn_ofK {x : Int32} {n : Nat} (h : mIn x n = true) : ∃ k, k < n ∧ x = nI k := by
  have hv := mIn_vp h
  obtain ⟨k, hk, rfl⟩ := nI_of (fun q => hv (Or.inl q))
  refine ⟨k, ?_, rfl⟩
  rcases Nat.lt_or_ge k n with q | q
  · exact q
  · exact absurd (Or.inr (by rw [nI_clamp hk]; exact q)) hv
theorem SLs_k : ∀ q ∈ SLs, (q.2.2 = 1004 ∧ Cond.methodLink (cn q.1) q.2.1 ⟨"java/lang/String", "length", "()I"⟩ ∈ GW0) ∨ (q.2.2 = 1005 ∧ Cond.methodLink (cn q.1) q.2.1 ⟨"java/lang/String", "charAt", "(I)C"⟩ ∈ GW0) := by
  intro q hq
  simp only [SLs, List.mem_cons, List.not_mem_nil, or_false] at hq
  rcases hq with rfl | rfl | rfl | rfl
  · exact Or.inl ⟨rfl, tl_5_173⟩
  · exact Or.inr ⟨rfl, tl_5_183⟩
  · exact Or.inl ⟨rfl, tl_10_156⟩
  · exact Or.inr ⟨rfl, tl_10_161⟩
theorem mOutN {call : Nat → List Value → mS → mR} {K : mK} {pc : Nat} {L st : List Value} {σ : mS} {r : Value × mS} (h : mOut call K (oN pc L st σ) = some r) : K pc L st σ = some r := h
theorem tx_j (a : Nat) (h1 : 310 ≤ a) (h2 : a - 310 < 10) : ∃ j : Nat, a = 310 + j ∧ j < 10 := ⟨a - 310, by omega, h2⟩
theorem mOutF0 {call : Nat → List Value → mS → mR} {K : mK} {r : Value × mS} {P : Prop} (h : mOut call K oF = some r) : P := mNone h
theorem mLib4 {w : mT} {pc : Nat} {L st : List Value} {σ : mS} {call : Nat → List Value → mS → mR} {K : mK} {r : Value × mS} (h : mOut call K (mLib w pc 4 L st σ) = some r) : ∃ a rest, st = .ref a :: rest := by
  simp only [mLib] at h
  split at h
  · exact ⟨_, _, rfl⟩
  · exact mOutF0 h
theorem mLib5 {w : mT} {pc : Nat} {L st : List Value} {σ : mS} {call : Nat → List Value → mS → mR} {K : mK} {r : Value × mS} (h : mOut call K (mLib w pc 5 L st σ) = some r) : ∃ x a rest, st = .int x :: .ref a :: rest := by
  simp only [mLib] at h
  split at h
  · exact ⟨_, _, _, rfl⟩
  · exact mOutF0 h
theorem mOutF {call : Nat → List Value → mS → mR} {K : mK} {r : Value × mS} {P : Prop} (h : mOut call K oF = some r) : P := mNone h
set_option maxHeartbeats 4000000 in
set_option maxRecDepth 100000 in
theorem Z0_sl {v : mV} {adK adV : Nat → Nat} (hT : vTx v adK) : mSL v (Z0 adK adV) SL0 GW0 μ0 := by
  intro own i k hsl f d m pc D c L st σ r call K hown hD hC hZ hL hK hd h
  obtain ⟨c0, rfl, hm⟩ := hsl
  obtain ⟨hx, hb, hml, hown2, hts, hKt, hfr, hlo, hce, hsl⟩ := hC
  rw [hown] at hown2
  have hw := hZ.2.2.1
  have hwn : tW adK adV nA (fSS f) (fSS f).heap := tW_narrow hw (fun _ h => h.elim)
  unfold mInv at h
  rw [hD] at h
  obtain ⟨t1, t2, t3⟩ := hT.1
  rcases SLs_k _ hm with ⟨e, hlk⟩ | ⟨e, hlk⟩
  · replace e : k = 1004 := e
    subst e
    rw [show Nat.blt 1004 1000 = false from rfl] at h
    simp only [cond_false] at h
    cases hcat : Nat.ble (mCat st) 100 with
    | false => rw [hcat] at h; exact mOutF h
    | true =>
      rw [hcat] at h
      have hcat := Nat.le_of_ble_eq_true hcat
      obtain ⟨a, rest, rfl⟩ := mLib4 h
      · replace h : mOut call K (bif Nat.beq ((vTT v).2.2.1 a) 6 then oN (pc + 3) L (.int (Int32.ofNat ((vTT v).2.2.2 σ a)) :: rest) σ else oF) = some r := h
        cases hk6 : Nat.beq ((vTT v).2.2.1 a) 6 with
        | false => rw [hk6] at h; exact mOutF h
        | true =>
          rw [hk6] at h
          simp only [cond_true] at h
          replace h := mOutN h
          obtain ⟨g1, g2⟩ := wAk_t a (t1 a (beqT hk6))
          obtain ⟨j, rfl, g3⟩ := tx_j a g1 g2
          clear g1 g2
          have g2 := g3
          rw [t3, wAn_t σ j g2] at h
          intro H locs ls h1 h2 h3
          have hS : va_S nA (fSS f).heap H locs → True := fun _ => trivial
          have hlsz : (F0 (fM f) pc ls ((.ref (310 + j) :: rest).map (rv (vAdr v)))).locals.size = μ0.2.2.1 m := h1.1.trans hL
          have hcell : ∃ cell : Cell, H[vAdr v (310 + j)]? = some cell ∧ cell.vm.isStatics = false ∧ (fSS f).vm.findClass "java/lang/String" = some cell.cls := by
            rw [hT.2 j g2]
            exact vk_recv hw.1 g2 h3
          have hpre : ∀ U : State, U.heap = H → (fSS f).WarmedH U.vm → tPc adK adV [.ref (adK j)] [Value.ref (adK j)].toArray U := by
            intro U hU hW
            refine ⟨rfl, ?_⟩
            show tW adK adV nA U U.heap
            rw [hU]
            exact tW_narrow (tW_moved hW.alike (tW_kept hw h3.2.1)) (fun _ h => h.elim)
          rw [hT.2 j g2] at hcell
          show fW f H locs (F0 (fM f) pc ls (.ref (vAdr v (310 + j)) :: rest.map (rv (vAdr v))))
          rw [hT.2 j g2]
          refine va_calli (S := Unit) (B := fun _ _ => True) (A1 := nA) (tRunV (C := "java/lang/String") (b := adK j) (As := []) (rest := rest.map (rv (vAdr v))) ⟨hx, hb, hml, hown2, hts⟩ (j_length (fLL f) g2) ⟨callB_of 0 hts (gw_in jcd_length) rfl rfl rfl (hts _ tini) (hts _ hlk) ⟨by decide, by decide, by decide +kernel⟩ ⟨by show 1 + 1 ≤ _; omega, by show 8 + (1 + 11) + 30 * 1 ≤ _; omega⟩, hts _ tin_length, hts _ tse_length⟩ (by show 200 + (1 + 11) + 30 * 1 ≤ _; omega) ⟨tBlind _ _ _, hcell, hpre⟩ rfl rfl hlsz rfl ?_ hd ⟨hce, hsl⟩) h3 (fun _ _ h => h.elim) (fun _ h => h.elim) (fun x u t H1 locs1 ht hvm hw1 hB hz1 hk1 hS1 => ?_)
          · show 2 * 0 + _ ≤ 200
            rw [mCat_sum]
            have : mCat (.ref (310 + j) :: rest) = 1 + mCat rest := rfl
            omega
          · subst hw1
            exact hK _ _ _ _ h hL (mKeep.rf σ) H1 locs1 ls h1 (h2.kept (fun k q hq => hk1 q.1 ((h2 k q hq).lt) (fun h => h.elim))) hS1
  · replace e : k = 1005 := e
    subst e
    rw [show Nat.blt 1005 1000 = false from rfl] at h
    simp only [cond_false] at h
    cases hcat : Nat.ble (mCat st) 100 with
    | false => rw [hcat] at h; exact mOutF h
    | true =>
      rw [hcat] at h
      have hcat := Nat.le_of_ble_eq_true hcat
      obtain ⟨x, a, rest, rfl⟩ := mLib5 h
      · replace h : mOut call K (bif Nat.beq ((vTT v).2.2.1 a) 6 then oC (mIn x ((vTT v).2.2.2 σ a)) (pc + 3) L (.int (Int32.ofNat ((vTT v).2.1 a x.toNatClampNeg)) :: rest) σ else oF) = some r := h
        cases hk6 : Nat.beq ((vTT v).2.2.1 a) 6 with
        | false => rw [hk6] at h; exact mOutF h
        | true =>
          rw [hk6] at h
          simp only [cond_true] at h
          obtain ⟨hin, h⟩ := mOutC h
          obtain ⟨g1, g2⟩ := wAk_t a (t1 a (beqT hk6))
          obtain ⟨j, rfl, g3⟩ := tx_j a g1 g2
          clear g1 g2
          have g2 := g3
          rw [t3, wAn_t σ j g2] at hin
          have hsm := tSm j g2
          obtain ⟨n, hn, rfl⟩ := mIn_ofK hin
          rw [nI_clamp (by omega), t2, wRef_t j g2 n hn] at h
          intro H locs ls h1 h2 h3
          have hlsz : (F0 (fM f) pc ls ((.int (nI n) :: .ref (310 + j) :: rest).map (rv (vAdr v)))).locals.size = μ0.2.2.1 m := h1.1.trans hL
          have hcell : ∃ cell : Cell, H[adK j]? = some cell ∧ cell.vm.isStatics = false ∧ (fSS f).vm.findClass "java/lang/String" = some cell.cls := vk_recv hw.1 g2 h3
          have hpre : ∀ U : State, U.heap = H → (fSS f).WarmedH U.vm → tPc adK adV [.ref (adK j), .int (nI n)] [Value.ref (adK j), .int (nI n)].toArray U := by
            intro U hU hW
            refine ⟨rfl, ?_⟩
            show tW adK adV nA U U.heap
            rw [hU]
            exact tW_narrow (tW_moved hW.alike (tW_kept hw h3.2.1)) (fun _ h => h.elim)
          show fW f H locs (F0 (fM f) pc ls (.int (nI n) :: .ref (vAdr v (310 + j)) :: rest.map (rv (vAdr v))))
          rw [hT.2 j g2]
          refine va_calli (S := Unit) (B := fun _ _ => True) (A1 := nA) (tRunV (C := "java/lang/String") (b := adK j) (As := [.int (nI n)]) (rest := rest.map (rv (vAdr v))) ⟨hx, hb, hml, hown2, hts⟩ (j_charAt (fLL f) g2 hn) ⟨callB_of 1 hts (gw_in jcd_charAt) rfl rfl rfl (hts _ tini) (hts _ hlk) ⟨by decide, by decide, by decide +kernel⟩ ⟨by show 3 + 1 ≤ _; omega, by show 8 + (2 + 11) + 30 * 3 ≤ _; omega⟩, hts _ tin_charAt, hts _ tse_charAt⟩ (by show 200 + (2 + 11) + 30 * 3 ≤ _; omega) ⟨tBlind _ _ _, hcell, hpre⟩ rfl rfl hlsz rfl ?_ hd ⟨hce, hsl⟩) h3 (fun _ _ h => h.elim) (fun _ h => h.elim) (fun y u t H1 locs1 ht hvm hw1 hB hz1 hk1 hS1 => ?_)
          · show 2 * 0 + _ ≤ 200
            rw [mCat_sum]
            have : mCat (.int (nI n) :: .ref (310 + j) :: rest) = 1 + (1 + mCat rest) := rfl
            omega
          · subst hw1
            exact hK _ _ _ _ h hL (mKeep.rf σ) H1 locs1 ls h1 (h2.kept (fun k q hq => hk1 q.1 ((h2 k q hq).lt) (fun h => h.elim))) hS1

