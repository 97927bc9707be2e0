/-! THE CLAIM OUT OF ONE WALK OF THE LAW'S BODY. Your part is whole_start (and what it stands on); all else here is the same for every law, but numbers. -/
def R_law : String := "EnemyLettersLaw"
def lw_P (b : Addr) (xs : List Int32) (args : Array Value) (s : State) : Prop := args = #[.ref b] ∧ s.IntsAt b xs ∧ xs.length ≤ 3072 ∧ (Jvm.Cond.and given_1 narrow_1).before args s = true
def lw_Q (_ : Array Value) (s : State) (o : Outcome) (t : State) : Prop := o = .returned (some (.int 1)) ∧ Framed s o t [] 600000 7302250
def lw_Z (below : List Frame) (a : Array Value) (s : State) : State → Prop := fun t => ∃ o, t.status = .running ∧ Ended t below o ∧ lw_Q a s o t
/-- the law's own end, with 1 on the stack, nothing written that was there before, its room as the claim has it -/
theorem lw_ret {p : Program} {l : Launch} {e : Env} {s : State} {m : MethodId} {below : List Frame} {meth : Method} {c : Code} {b : Nat} (hx : p.tables.exec = Jvm.exec) (hb : c.code = code) (hr : meth.sig.returnType = ret) (hlocks : meth.locks = false) {pc : Nat} {H : Heap} {ls : Array Slot} (hdg : decode code pc = .ok (.ireturn, 1)) : W p l e room_1 s m #[Value.ref b] below meth c H [] 600000 7302250 (lw_Z below #[Value.ref b] s) (F0 m pc ls [.int 1]) := by
  intro T hT X
  obtain ⟨fs, hret, hrun, hended, hW, hframe⟩ := X.leave (v := some (.int 1)) (hlocks := hlocks) (fun h => by rw [hr] at h; cases h)
  have hmeth' : T.vm.method? m = some meth := X.method'
  refine ⟨T.setFrames fs, ?_, .returned (some (.int 1)), hrun, hended, rfl, ⟨_, rfl⟩, hW, hframe⟩
  jvm_step X.here [X.here.top, hx, hb, hdg, hmeth', hr, ret, narrow_b1]
  (try refine ⟨rfl, ?_⟩); (try refine ⟨rfl, ?_⟩)
  first | (intro acts; rw [hret _ acts rfl rfl rfl]) | rw [hret _ _ rfl rfl rfl]
  exact Steps.refl _
/-- what holds at the law's entry: the machine, the code, the tables' words (any of lw_tbl by 'hts w (by decide +kernel)'), the script of L ints xs at the cell b, what the Statement gives of the start (any of its parts by flat_of_before) -/
def lw_At (p : Program) (s : State) (m : MethodId) (meth : Method) (c : Code) (b L : Nat) (xs : Nat → Int32) : Prop :=
  p.tables.exec = Jvm.exec ∧ c.code = code ∧ meth.sig.returnType = ret ∧ c.maxLocals = 4 ∧ s.vm.findClass R_law = some m.cls ∧ (∀ w ∈ lw_tbl, w.before #[Value.ref b] s = true) ∧ va_X b L xs s s.heap ∧ b < s.heap.size ∧ meth.locks = false ∧ (Jvm.Cond.and given_1 narrow_1).before #[Value.ref b] s = true
-- ===== YOUR PART BEGINS =====
set_option maxHeartbeats 8000000 in
set_option maxRecDepth 100000 in
theorem whole_start {p : Program} {e : Env} {s : State} {m : MethodId} {below : List Frame} {meth : Method} {c : Code} (l : Launch) (hflags : l.flags = flags0) {b L : Nat} {xs : Nat → Int32} (hL : L ≤ 3072) (C0 : lw_At p s m meth c b L xs) : W p l e room_1 s m #[Value.ref b] below meth c s.heap [] 0 0 (lw_Z below #[Value.ref b] s) (entryFrame m ([Value.ref b] : List Value).toArray 4) := by
  obtain ⟨hx, hb, hr, hml, hown, hts, hX, hbl, hlocks, hg⟩ := C0
  have hG : ∀ w ∈ GW0, w.before #[Value.ref b] s = true := fun w hw => hts w (GW0_in w hw)
  obtain ⟨D, cA, hK⟩ := st_K hts
  have hAn : ∀ a : Nat, a < s.heap.size → ¬ (fun q => s.heap.size ≤ q) a := fun a h h2 => by
    have h2 : s.heap.size ≤ a := h2
    omega
  obtain ⟨adK, adV, hZ⟩ := st_Z hts hg hAn
  obtain ⟨fa, hF1, hF2⟩ := st_F hts hg hAn
  obtain ⟨τ1, τ2, r1, r2, hInv, fr, f2⟩ := first_run 0 L xs
  have hzv : zV s := ⟨hZ.2.2.1, hZ.2.2.2.1, hZ.2.2.2.2⟩
  have hZ1 : mZt (v1 D cA s.heap.size b fa adK) (Z0 adK adV) (f0 L xs) s s.heap := st_mZt hL rfl (fun q h => v1_A h) rfl rfl rfl hX hbl hF1 hF2 hZ
  have hZ0 : mZt (v0 D cA s.heap.size b fa adK) (Z0 adK adV) τ2 s s.heap := st_mZt hL rfl (fun q h => v0_A h) (by rw [fr 299 (by omega)]; rfl) (by rw [fr 300 (by omega)]; rfl) (by rw [fr 301 (by omega)]; rfl) hX hbl hF1 hF2 hZ
  obtain ⟨A, hAe⟩ : ∃ A : Nat → Prop, (fun q => s.heap.size ≤ q) = A := ⟨_, rfl⟩
  have hA : ∀ q : Nat, s.heap.size ≤ q → A q := fun q h => by rw [← hAe]; exact h
  have hAi : ∀ q : Nat, A q → s.heap.size ≤ q := fun q h => by rw [← hAe] at h; exact h
  clear hAe
  have hl := lv_entry ([.ref b]) (n := 4) (Nat.le_of_ble_eq_true rfl)
  rw [lg_entry_eq]
  generalize (lg_sl ([.ref b]) ++ List.replicate (4 - (lg_sl ([.ref b])).length) Slot.unset).toArray = ls at hl ⊢
  have hl : lv_has ls 4 [(0, .ref b)] := hl
  have hS : va_S A s.heap s.heap [] := va_S.rf
  have hP : va_P D vwCl [] s.heap := fun k q hk => by simp at hk
  have hD : va_D A [] := ⟨fun i j p q hi => by simp at hi, fun k q hk => by simp at hk⟩
  have hown : s.vm.findClass "EnemyLettersLaw" = some m.cls := hown
  -- new EnemyLetters()
  refine k_new hx hb hG inw8 tyX8 tyX8_ok hown (hG _ (gk ck_1 19 rfl rfl)) (hG _ (gk ck_1 20 rfl rfl)) (hG _ (gk ck_1 1 rfl rfl)) hK hP hD hS hA (ci := 8) rfl (fs := [.null, .null, .null, .null, .null, .null, .null, .null, .null, .null]) (by decide) (Nat.le_of_ble_eq_true rfl) (Nat.le_of_ble_eq_true rfl) rfl (show decode code 0 = .ok (.new 7, 3) by decide +kernel) (fun H1 z1 hP1 hD1 hS1 => ?_)
  clear hP hD hS
  refine lv_dup hx hb (show decode code 3 = .ok (.dup, 1) by decide +kernel) rfl ?_
  have hM := m_E (D := D) (cA := cA) (h0 := s.heap.size) (b := b) (fa := fa) (adK := adK) (adV := adV) l L xs r1 r2 (cy_keep r1)
  have hfree : ∀ q, va_A [(s.heap.size, .inr (8, [.null, .null, .null, .null, .null, .null, .null, .null, .null, .null]))] (s.heap.size + 1) q → A q := fun q h => by
    rcases h with ⟨k, e, h⟩ | h
    · have hk : k < 1 := (List.getElem?_eq_some_iff.mp h).1
      rw [show k = 0 by omega] at h
      cases h
      exact hA _ (Nat.le_refl _)
    · exact hA _ (by omega)
  refine va_callv (a := [Value.ref s.heap.size].toArray) (S := Unit) (post := fun _ => True) (B := fun _ t => t.heap.size = s.heap.size + 106 ∧ va_P D vwCl (vW (v1 D cA s.heap.size b fa adK) τ2) t.heap) (A1 := va_A [(s.heap.size, .inr (8, [.null, .null, .null, .null, .null, .null, .null, .null, .null, .null]))] (s.heap.size + 1)) (va_runI (b := s.heap.size) (As := []) (rest := [.ref s.heap.size]) ⟨hx, hb, hml, hown, hG⟩ hM ⟨callB_of 0 hG (gw_in kcd_E) rfl rfl rfl (hG _ (gk ck_1 1 rfl rfl)) (hG _ (gk ck_1 21 rfl rfl)) ⟨by decide, by decide, by decide +kernel⟩ ⟨Nat.le_of_ble_eq_true rfl, Nat.le_of_ble_eq_true rfl⟩, rfl, hG _ (gk ck_1 22 rfl rfl)⟩ ⟨eBlind L xs _, fun U hU hW => ⟨rfl, by rw [hU]; exact z1, by rw [hU]; exact hP1, va_K.moved hW.alike hK, ?_⟩⟩ rfl rfl hl.1 rfl (lv_room (Nat.le_of_ble_eq_true rfl)) (show decode code 4 = .ok (.invokespecial 9, 3) by decide +kernel) ⟨Nat.le_of_ble_eq_true rfl, Nat.le_of_ble_eq_true rfl⟩) hS1 (fun q _ h => hfree q h) hfree (fun u t H2 locs2 ht hvm hw hB hy1 hk1 hS2 => ?_)
  · rw [hU]
    exact mZt_warm (Z0_ok adK adV) hW (mZt_kept (locs := []) (Z0_ok adK adV) ⟨hS1.1, fun q h1 _ => hS1.2.1 q h1 (fun h => by have := hAi q h; omega), fun _ h => by cases h⟩ hZ1)
  obtain ⟨z2, hP2⟩ := hB
  rw [ht] at z2 hP2
  refine lv_astore_n (lv' := [(1, .ref s.heap.size), (0, .ref b)]) hx hb (show decode code 7 = .ok (.astore_n 1, 1) by decide +kernel) rfl hl (by decide) rfl (fun ls2 hl2 => ?_)
  -- new EnemyLettersModel()
  have hD2 : va_D A (vW (v1 D cA s.heap.size b fa adK) τ2) := ad_D ids1 (fun i h => ad_1 h) ids1_nd _ _ _ _ τ2 (fun i h => hA _ (by rw [ad_at _ _ _ _ (ad_1 h)]; omega))
  refine k_new hx hb hG inw9 tyX9 tyX9_ok hown (hG _ (gk ck_5 174 rfl rfl)) (hG _ (gk ck_5 175 rfl rfl)) (hG _ (gk ck_1 14 rfl rfl)) hK hP2 hD2 hS2 hA (ci := 9) rfl (fs := [.int 0, .null, .null, .null, .null, .int 0, .null, .int 0, .int 0, .int 0, .int 0, .int 0, .int 0, .int 0, .null, .null, .null, .null, .null, .int 0, .int 0, .int 0, .int 0, .null, .null, .null, .null, .int 0, .null, .null, .null, .int 0, .int 0, .null, .null, .int 0, .int 0, .long 0, .long 0, .long 0, .null, .null, .null, .null]) (by decide) (Nat.le_of_ble_eq_true rfl) (Nat.le_of_ble_eq_true rfl) z2 (show decode code 8 = .ok (.new 10, 3) by decide +kernel) (fun H3 z3 hP3 hD3 hS3 => ?_)
  refine lv_dup hx hb (show decode code 11 = .ok (.dup, 1) by decide +kernel) rfl ?_
  have z3 : H3.size = s.heap.size + 107 := z3
  refine k_init (w1 := wwM cA (s.heap.size + 106) (s.heap.size + 107)) (ws := vW (v1 D cA s.heap.size b fa adK) τ2) (As := []) (rest := [.ref (s.heap.size + 106)]) ⟨hx, hb, hml, hown, hG⟩ (m_M l D cA (s.heap.size + 106) (s.heap.size + 107)) ⟨callB_of 0 hG (gw_in kcd_M) rfl rfl rfl (hG _ (gk ck_1 14 rfl rfl)) (hG _ (gk ck_5 176 rfl rfl)) ⟨by decide, by decide, by decide +kernel⟩ ⟨Nat.le_of_ble_eq_true rfl, Nat.le_of_ble_eq_true rfl⟩, rfl, hG _ (gk ck_5 177 rfl rfl)⟩ hK hzv hP3 hD3 hS3 hA z3 rfl hl2.1 (Nat.le_of_ble_eq_true rfl) (show decode code 12 = .ok (.invokespecial 12, 3) by decide +kernel) ⟨Nat.le_of_ble_eq_true rfl, Nat.le_of_ble_eq_true rfl⟩ (fun H4 locs4 z4 hP4 hD4 hS4 => ?_)
  refine lv_astore_n (lv' := [(2, .ref (s.heap.size + 106)), (1, .ref s.heap.size), (0, .ref b)]) hx hb (show decode code 15 = .ok (.astore_n 2, 1) by decide +kernel) rfl hl2 (by decide) rfl (fun ls3 hl3 => ?_)
  have hV := v0_P (m := L) (xs := xs) (k_sub hP4 (fun x hx => List.mem_append_left _ hx)) (k_sub hP4 (fun x hx => List.mem_append_right _ hx)) fr f2
  refine va_forget (fun q hq => hAi _ (hS4.2.2 q hq)) ?_
  -- the loop
  obtain ⟨τ3, hrun⟩ := w_whole 0 L hL τ2 (by rw [fr 299 (by omega)]; rfl) hInv
  rw [Xx_eq] at hrun
  obtain ⟨n, hn⟩ := mX_iff.mp hrun
  refine mSound (l := l) (v := v0 D cA s.heap.size b fa adK) (GW := GW0) (NW := NW0) (μ := μ0) (SO := SO0) (SL := SL0) w0_ok v0_D GW0_good Z0_nw (Z0_ok adK adV) (Z0_so v0_T) (Z0_sl v0_T) tb0_ok n 13 n_L_law 16 [.ref 300, .ref 0, .ref 200, .null] [] τ2 (.int 1, τ3) hn rfl (p, l, e, room_1, s, m, #[Value.ref b], below, meth, c, 0 + 1 + 105 + 1 + 23, 0 + 10 + 3304 + 44 + 2645, lw_Z below #[Value.ref b] s) rfl ⟨hx, hb, hml, hown, hG, hK, Nat.le_of_ble_eq_true rfl, Nat.le_of_ble_eq_true rfl, Nat.le_of_ble_eq_true rfl, Nat.le_of_ble_eq_true rfl⟩ hZ0 ?_ H4 [] ls3 (law_Lr hl3) hV ⟨hS4.1, fun q h1 _ => hS4.2.1 q h1 (fun h => Nat.not_lt.mpr (hAi q h) h1), fun _ h => by cases h⟩
  intro pc H locs ls' hPe hSe hd _
  refine va_forget (fun q hq => v0_A (hSe.2.2 q hq)) ?_
  exact W.widen (Nat.le_of_ble_eq_true rfl) (Nat.le_of_ble_eq_true rfl) (lw_ret hx hb hr hlocks hd)
-- ===== YOUR PART ENDS =====
set_option maxHeartbeats 4000000 in
theorem lw_walk (l : Launch) (hflags : l.flags = flags0) (b : Addr) (xs : List Int32) : MetFree l x (headSpec (Jvm.Cond.code x code maxLocals ret :: tables_1) room_1) (lw_P b xs) (fun _ _ _ _ _ => True) lw_Q := by
  refine MetFree.of_bodyS (code := code) (maxLocals := maxLocals) (ret := ret) (by decide) ?_ ?_
  · intro args s m h hn
    obtain ⟨meth, c, h1, h2, h3, h4, h5, h6, -, -⟩ := Cond.code_spec hn (atoms_spec (ws := Jvm.Cond.code x code maxLocals ret :: tables_1) h _ List.mem_cons_self)
    exact ⟨meth, c, h1, h2, h3, h4, h5, h6⟩
  · intro p e s m args below meth c s₁ B hml0 hP _
    obtain ⟨rfl, hx, hbd, hgv⟩ := hP
    obtain ⟨scr, harrAt, hlist, hof, hsmall⟩ := hx
    obtain ⟨hcb, hkn, -, -⟩ := State.arrayAt?_spec harrAt
    have hown : s.vm.findClass R_law = some m.cls := findClass_of_methodNamed B.named
    have hts0 : ∀ c ∈ (Jvm.Cond.code x code maxLocals ret :: tables_1), c.before #[Value.ref b] s = true := atoms_spec (ws := Jvm.Cond.code x code maxLocals ret :: tables_1) B.pre
    have hts : ∀ w ∈ lw_tbl, w.before #[Value.ref b] s = true := k2_hts_sels lw_privs (fun w hw => hts0 w (List.mem_cons_of_mem _ hw)) lw_privs_ok
    have hml : c.maxLocals = 4 := B.maxLocals_eq (hts0 _ List.mem_cons_self)
    have X₀ : Stand p l e room_1 s m #[Value.ref b] below meth c s₁ [] 0 0 := Stand.of_body B
    have hh0 : s₁.heap = s.heap := by rw [B.state]; rfl
    have hsz : scr.slots.size = xs.length := by rw [← Array.length_toList, hlist, List.length_map]
    have hval : ∀ j : Nat, j < xs.length → scr.slots[j]? = some (.int (xs.getD j 0)) := fun j hj => by
      rw [← Array.getElem?_toList, hlist]
      simp [hj]
    have hbl : b < s.heap.size := (Array.getElem?_eq_some_iff.mp hcb).1
    have hX : va_X b xs.length (fun j => xs.getD j 0) s s.heap := ⟨scr, hcb, hof, hkn, hsz, hval⟩
    have K : W p l e room_1 s m #[Value.ref b] below meth c s₁.heap [] 0 0 (lw_Z below #[Value.ref b] s) (entryFrame m ([Value.ref b] : List Value).toArray 4) := by
      rw [hh0]
      exact whole_start l hflags hbd ⟨B.exec, B.bytes, B.returns, hml, hown, hts, hX, hbl, B.notSynchronized, hgv⟩
    obtain ⟨t, a1, o, b1, b2, b3⟩ := K s₁ rfl X₀
    exact ⟨t, o, a1, b1, b2, b3⟩
theorem lw_pre_spec {args : Array Value} {s : State} (h : (Jvm.Cond.and given_1 narrow_1).before args s = true) (hr : rest_1_c.before args s = true) : ∃ (b : Addr) (xs : List Int32), lw_P b xs args s := by
  have hs := flat_of_before _ h
  have hq := flat_of_before _ hr
  have hc : (Cond.count 1).before args s = true := hs _ (by decide +kernel)
  have harr : (Cond.arrayOf (.arg 0) .int).before args s = true := hs _ (by decide +kernel)
  have hle : (Cond.le (.length (.arg 0)) (.int 3072)).before args s = true := hs _ (by decide +kernel)
  have hlen : (Cond.isInt (.length (.arg 0))).before args s = true := hq _ (by decide +kernel)
  have hall : (Cond.all (.arg 0) (.isInt (.elem (.arg 0) (.index 0)))).before args s = true := hq _ (by decide +kernel)
  obtain ⟨b, xs, hb, hx⟩ := State.ints_of_pre rfl harr hlen hall
  have hsm : xs.length < 2 ^ 31 := hx.choose_spec.2.2.2
  have hev : (Term.length (.arg 0)).eval args s none [] s = some (.int xs.length.toInt32) := hx.length_eval hb
  have hv := Cond.le_ints hev (show (Term.int 3072).eval args s none [] s = some (.int 3072) from rfl)
  have hd : xs.length.toInt32 ≤ 3072 := by
    simpa [Cond.before, Cond.holds, hv] using hle
  have hN : xs.length ≤ 3072 := (Int32.ofNat_le_ofNat hsm (by decide)).mp (show Int32.ofNat xs.length ≤ Int32.ofNat 3072 from hd)
  exact ⟨b, xs, Cond.one_arg hc (show args[0]? = some (.ref b) from hb), hx, hN, h⟩
theorem lw_comes (l : Launch) (hflags : l.flags = flags0) : Comes l x (Jvm.Cond.code x code maxLocals ret :: tables_1) room_1 (fun tb e args s => Calls_1 tb e args s ∧ rest_1 tb e args s ∧ Pre_1 tb e args s)
    (fun _ _ args s o t => lw_Q args s o t) := by
  intro p e ha hc hk s m args below hf hfit hheap happ hpre
  obtain ⟨b, xs, hP⟩ := lw_pre_spec hpre.2.2 hpre.2.1
  obtain ⟨k, o, h1, h2, h3, hQ⟩ := lw_walk l hflags b xs p e ha hc hk s m args below hf ((Spec.applies_iff_loose hf).mp happ).1 hP trivial
  exact ⟨k, o, h1, h2, h3, hQ⟩
theorem lw_frame {s t : State} {o : Outcome} {args : Array Value} (h : Framed s o t [] 600000 7302250) :
    Framed s o t (fieldLocs frame_1_writes args s ++ arrayLocs frame_1_arrays args s ++ staticLocs frame_1_statics s) 600000 7302250 := h
theorem lw_limb (L : Cond) (hL : ∀ (args : Array Value) (s t : State), L.after args s (.returned (some (.int 1))) t = true) :
    ArmFor flags0 classFile x code maxLocals ret World_1 tables_1 room_1 Calls_1 rest_1 Pre_1
      (fun tb e a s o t => postC L tb e a s o t ∧ Framed s o t (fieldLocs frame_1_writes a s ++ arrayLocs frame_1_arrays a s ++ staticLocs frame_1_statics s) 600000 7302250) := by
  intro l hflags _ _ p e ha hc hk s m args below hf hfit hheap happ hpre
  obtain ⟨k, o, h1, h2, h3, rfl, hF⟩ := lw_comes l hflags p e ha hc hk s m args below hf hfit hheap happ hpre
  exact ⟨k, _, h1, h2, h3, hL args s _, lw_frame hF⟩
theorem i_vc : Claimed_1_1 ∧ Claimed_1_2 := ⟨lw_limb limb_1_1 (fun args s t => by simp [limb_1_1, Cond.after, Cond.holds, Cond.value]), lw_limb limb_1_2 (fun args s t => Cond.after_iff.mpr (by
  first | (rw [show limb_1_2 = Cond.eq .result (.int 1) from rfl, Cond.eq_ints (x := 1) (y := 1) rfl rfl]; simp; done) | (simp [limb_1_2, Cond.value, Term.eval]; done)))⟩
