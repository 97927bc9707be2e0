/-! ===== wrongs done and suffered ===== -/
variable {σ τ : mS} {l : Lv}
/-- who does it (0), to whom it is done (1) -/
def sdS (s : Bool) (x : Dd) : Nat := bif s then x.2.1 else x.1
def dnS (s : Bool) (D : List Dd) (p Y : Nat) (i : Nat) (w : Int32) : Int32 := match D[i]? with
  | none => w
  | some x => if sdS s x = p ∧ x.2.2.2 < Y then w + x.2.2.1 else w
theorem dnS_s {s : Bool} {D : List Dd} {p Y i : Nat} {x : Dd} (h : D[i]? = some x) (w : Int32) : dnS s D p Y i w = if sdS s x = p ∧ x.2.2.2 < Y then w + x.2.2.1 else w := by
  unfold dnS
  rw [h]
def dnA (s : Bool) (D : List Dd) (p Y : Nat) (w : Int32) : Int32 := mF (dnS s D p Y) D.length w
theorem dnA_add (s : Bool) (D : List Dd) (p Y : Nat) (w : Int32) : dnA s D p Y w = w + dnA s D p Y 0 := by
  unfold dnA
  refine mF_rel (fun _ (a b : Int32) => a = w + b) _ _ D.length w 0 (add_0 w).symm (fun k a b _ h => ?_)
  unfold dnS
  cases D[k]? with
  | none => exact h
  | some x =>
    dsimp only
    split
    · rw [h, Int32.add_assoc]
    · exact h
theorem k_doneBy45 (d : Nat) {p Y : Nat} (hp : p < 2 ^ 31) (hY : Y < 2 ^ 31) (D : List Dd) (hD : ∀ x ∈ D, ddOK 6 x) (hn : D.length ≤ 8) (hd : dC σ 45 D) : Cc (d + 1) n_De_doneBy [.ref 45, .int (nI p), .int (nI Y), .null, .null] σ = some (.int (dnA false D p Y 0), σ) := by
  rw [c_De_doneBy_45]
  have hs := mFor (fun k (w : Int32) => Xx d n_De_doneBy 5 [.ref 45, .int (nI p), .int (nI Y), .int w, .int (nI k)] [] σ) (dnS false D p Y) D.length 0 (by
    intro k hk
    generalize mF _ k (0 : Int32) = w
    have hx : D[k]? = some D[k] := List.getElem?_eq_getElem hk
    generalize D[k] = x at hx
    obtain ⟨e1, e2, e3, e4⟩ := hd.2 k x hx
    obtain ⟨o1, o2, o3, o4, o5⟩ := hD x (List.mem_of_getElem? hx)
    rw [q_De_doneBy_45_5, hd.1, dle (by omega) (by omega), dF _ (by omega), cF, mIn_nI (by omega) (by omega), cT, cT, cT, nI_clamp (by omega), show σ.1 46 k = nI x.1 from e1, show σ.1 48 k = x.2.2.1 from e3, show σ.1 49 k = nI x.2.2.2 from e4, dne (by omega) (by omega), dle (by omega) (by omega), nI_1, add_0]
    rw [dnS_s hx]
    by_cases h1 : x.1 = p
    · rw [dF _ (fun q => q h1), cF]
      by_cases h2 : Y ≤ x.2.2.2
      · rw [dT _ h2, cT, if_neg (fun q => by omega)]
      · rw [dF _ h2, cF, if_pos ⟨h1, by omega⟩]
    · rw [dT _ h1, cT, if_neg (fun q => h1 q.1)])
  exact hs.trans (by rw [q_De_doneBy_45_5, hd.1, dT _ (Int32.le_refl _), cT] <;> rfl)
theorem k_doneBy50 (d : Nat) {p Y : Nat} (hp : p < 2 ^ 31) (hY : Y < 2 ^ 31) (D : List Dd) (hD : ∀ x ∈ D, ddOK 6 x) (hn : D.length ≤ 30) (hd : dC σ 50 D) : Cc (d + 1) n_De_doneBy [.ref 50, .int (nI p), .int (nI Y), .null, .null] σ = some (.int (dnA false D p Y 0), σ) := by
  rw [c_De_doneBy_50]
  have hs := mFor (fun k (w : Int32) => Xx d n_De_doneBy 5 [.ref 50, .int (nI p), .int (nI Y), .int w, .int (nI k)] [] σ) (dnS false D p Y) D.length 0 (by
    intro k hk
    generalize mF _ k (0 : Int32) = w
    have hx : D[k]? = some D[k] := List.getElem?_eq_getElem hk
    generalize D[k] = x at hx
    obtain ⟨e1, e2, e3, e4⟩ := hd.2 k x hx
    obtain ⟨o1, o2, o3, o4, o5⟩ := hD x (List.mem_of_getElem? hx)
    rw [q_De_doneBy_50_5, hd.1, dle (by omega) (by omega), dF _ (by omega), cF, mIn_nI (by omega) (by omega), cT, cT, cT, nI_clamp (by omega), show σ.1 51 k = nI x.1 from e1, show σ.1 53 k = x.2.2.1 from e3, show σ.1 54 k = nI x.2.2.2 from e4, dne (by omega) (by omega), dle (by omega) (by omega), nI_1, add_0]
    rw [dnS_s hx]
    by_cases h1 : x.1 = p
    · rw [dF _ (fun q => q h1), cF]
      by_cases h2 : Y ≤ x.2.2.2
      · rw [dT _ h2, cT, if_neg (fun q => by omega)]
      · rw [dF _ h2, cF, if_pos ⟨h1, by omega⟩]
    · rw [dT _ h1, cT, if_neg (fun q => h1 q.1)])
  exact hs.trans (by rw [q_De_doneBy_50_5, hd.1, dT _ (Int32.le_refl _), cT] <;> rfl)
theorem k_doneTo45 (d : Nat) {p Y : Nat} (hp : p < 2 ^ 31) (hY : Y < 2 ^ 31) (D : List Dd) (hD : ∀ x ∈ D, ddOK 6 x) (hn : D.length ≤ 8) (hd : dC σ 45 D) : Cc (d + 1) n_De_doneTo [.ref 45, .int (nI p), .int (nI Y), .null, .null] σ = some (.int (dnA true D p Y 0), σ) := by
  rw [c_De_doneTo_45]
  have hs := mFor (fun k (w : Int32) => Xx d n_De_doneTo 5 [.ref 45, .int (nI p), .int (nI Y), .int w, .int (nI k)] [] σ) (dnS true D p Y) D.length 0 (by
    intro k hk
    generalize mF _ k (0 : Int32) = w
    have hx : D[k]? = some D[k] := List.getElem?_eq_getElem hk
    generalize D[k] = x at hx
    obtain ⟨e1, e2, e3, e4⟩ := hd.2 k x hx
    obtain ⟨o1, o2, o3, o4, o5⟩ := hD x (List.mem_of_getElem? hx)
    rw [q_De_doneTo_45_5, hd.1, dle (by omega) (by omega), dF _ (by omega), cF, mIn_nI (by omega) (by omega), cT, cT, cT, nI_clamp (by omega), show σ.1 47 k = nI x.2.1 from e2, show σ.1 48 k = x.2.2.1 from e3, show σ.1 49 k = nI x.2.2.2 from e4, dne (by omega) (by omega), dle (by omega) (by omega), nI_1, add_0]
    rw [dnS_s hx]
    by_cases h1 : x.2.1 = p
    · rw [dF _ (fun q => q h1), cF]
      by_cases h2 : Y ≤ x.2.2.2
      · rw [dT _ h2, cT, if_neg (fun q => by omega)]
      · rw [dF _ h2, cF, if_pos ⟨h1, by omega⟩]
    · rw [dT _ h1, cT, if_neg (fun q => h1 q.1)])
  exact hs.trans (by rw [q_De_doneTo_45_5, hd.1, dT _ (Int32.le_refl _), cT] <;> rfl)
theorem k_doneTo50 (d : Nat) {p Y : Nat} (hp : p < 2 ^ 31) (hY : Y < 2 ^ 31) (D : List Dd) (hD : ∀ x ∈ D, ddOK 6 x) (hn : D.length ≤ 30) (hd : dC σ 50 D) : Cc (d + 1) n_De_doneTo [.ref 50, .int (nI p), .int (nI Y), .null, .null] σ = some (.int (dnA true D p Y 0), σ) := by
  rw [c_De_doneTo_50]
  have hs := mFor (fun k (w : Int32) => Xx d n_De_doneTo 5 [.ref 50, .int (nI p), .int (nI Y), .int w, .int (nI k)] [] σ) (dnS true D p Y) D.length 0 (by
    intro k hk
    generalize mF _ k (0 : Int32) = w
    have hx : D[k]? = some D[k] := List.getElem?_eq_getElem hk
    generalize D[k] = x at hx
    obtain ⟨e1, e2, e3, e4⟩ := hd.2 k x hx
    obtain ⟨o1, o2, o3, o4, o5⟩ := hD x (List.mem_of_getElem? hx)
    rw [q_De_doneTo_50_5, hd.1, dle (by omega) (by omega), dF _ (by omega), cF, mIn_nI (by omega) (by omega), cT, cT, cT, nI_clamp (by omega), show σ.1 52 k = nI x.2.1 from e2, show σ.1 53 k = x.2.2.1 from e3, show σ.1 54 k = nI x.2.2.2 from e4, dne (by omega) (by omega), dle (by omega) (by omega), nI_1, add_0]
    rw [dnS_s hx]
    by_cases h1 : x.2.1 = p
    · rw [dF _ (fun q => q h1), cF]
      by_cases h2 : Y ≤ x.2.2.2
      · rw [dT _ h2, cT, if_neg (fun q => by omega)]
      · rw [dF _ h2, cF, if_pos ⟨h1, by omega⟩]
    · rw [dT _ h1, cT, if_neg (fun q => h1 q.1)])
  exact hs.trans (by rw [q_De_doneTo_50_5, hd.1, dT _ (Int32.le_refl _), cT] <;> rfl)
theorem aN_parts {x : Dd} (h : ddOK 6 x) : mRem (aN x / 10000) 10 = nI x.1 ∧ mRem (aN x / 1000) 10 = nI x.2.1 ∧ aN x / 100000 = x.2.2.1 := by
  obtain ⟨o1, o2, o3, o4, o5⟩ := h
  obtain ⟨e, he, he2, -⟩ := bw_nI o4
  have ea := aN_nI he
  refine ⟨?_, ?_, ?_⟩
  · rw [ea, show (10000 : Int32) = nI 10000 from rfl, show (10 : Int32) = nI 10 from rfl, pk_div (by omega) (by omega) (by omega), mRem_nI (by omega) (by omega) (by omega)]
    congr 1
    omega
  · rw [ea, show (1000 : Int32) = nI 1000 from rfl, show (10 : Int32) = nI 10 from rfl, pk_div (by omega) (by omega) (by omega), mRem_nI (by omega) (by omega) (by omega)]
    congr 1
    omega
  · rw [ea, he, show (100000 : Int32) = nI 100000 from rfl, pk_div (by omega) (by omega) (by omega)]
    congr 1
    omega
theorem ddOK6 (hl : lvOK l) {x : Dd} (h : ddOK (lP l) x) : ddOK 6 x := ⟨Nat.lt_of_lt_of_le h.1 (lvP hl), Nat.lt_of_lt_of_le h.2.1 (lvP hl), h.2.2⟩
theorem r_wrongOf0 (d : Nat) (hl : lvOK l) (hM : lM (σ.1 201) l) {p : Nat} (hp : p < lP l) : Cc (d + 3) n_M_wrongOf [.ref 200, .int (nI p), .int 0, .null, .null, .null] σ = some (.int (dnA false (lAc l) p (lY l) (dnA false (lWr l) p (lY l) 0)), σ) := by
  have h1 := lvP hl
  have h2 := lvY hl
  have h3 := lvWn hl
  have h4 := lvAn hl
  have h5 := lvLn hl
  have hland := lvLand hl (Or.inr (Or.inl (show 0 < lP l by omega)))
  rw [c_M_wrongOf]
  have hs := mFor (fun k (w : Int32) => Xx (d + 2) n_M_wrongOf 5 [.ref 200, .int (nI p), .int (nI 0), .int w, .int (nI k), .null] [] σ) (dnS false (lWr l) p (lY l)) (lWr l).length 0 (by
    intro k hk
    generalize mF _ k (0 : Int32) = w
    obtain ⟨x, hx, e0, e1, e2, e3⟩ := lM_wr hM hk
    obtain ⟨o1, o2, o3, o4, o5⟩ := (lvWr hl x (List.mem_of_getElem? hx)).1
    rw [q_M_wrongOf_5, hM.1.2.2.2.2.2.1, dle (by omega) (by omega), dF _ (by omega), cF]
    simp (disch := omega) only [show (51 : Int32) = nI 51 from rfl, show (4 : Int32) = nI 4 from rfl, show (3 : Int32) = nI 3 from rfl, show (2 : Int32) = nI 2 from rfl, nI_mul, nI_add, mIn_nI, nI_clamp, cT]
    rw [show 51 + 4 * k + 3 = 54 + 4 * k by omega, show 51 + 4 * k + 2 = 53 + 4 * k by omega, e3, r_isYear _ _ _ (lM_Ln hM) (by omega) (lM_Y hM) (by omega), mBI_s, mIn_dec (by omega) (by omega), decide_eq_true hland, bI_0, e2, nI_1, add_0, show 51 + 4 * k + 0 = 51 + 4 * k by omega, e0, dne (by omega) (by omega)]
    rw [dnS_s hx]
    by_cases g1 : x.1 = p
    · rw [dF _ (fun q => q g1), cF]
      by_cases g2 : x.2.2.2 < lY l
      · rw [dT _ g2, if_pos ⟨g1, g2⟩]; rfl
      · rw [dF _ g2, if_neg (fun q => g2 q.2)]; rfl
    · rw [dT _ g1, cT, if_neg (fun q => g1 q.1)])
  obtain ⟨v, ht⟩ := mForH (fun k (w : Int32) (v : Value) => Xx (d + 2) n_M_wrongOf 86 [.ref 200, .int (nI p), .int (nI 0), .int w, .int (nI k), v] [] σ) (dnS false (lAc l) p (lY l)) (lAc l).length (dnA false (lWr l) p (lY l) 0) .null (by
    intro k v hk
    generalize mF _ k (dnA false (lWr l) p (lY l) 0) = w
    have hx : (lAc l)[k]? = some (lAc l)[k] := List.getElem?_eq_getElem hk
    generalize (lAc l)[k] = x at hx
    have e0 := hM.2.2.2.2.2 k x hx
    obtain ⟨o1, o2⟩ := lvAc hl x (List.mem_of_getElem? hx)
    obtain ⟨a1, a2, a3⟩ := aN_parts (ddOK6 hl o1)
    have o3 := o1.1
    have o4 := o1.2.1
    refine ⟨.int (aN x), ?_⟩
    rw [q_M_wrongOf_86, hM.1.2.2.2.2.2.2.2.1, dle (by omega) (by omega), dF _ (by omega), cF]
    simp (disch := omega) only [show (93 : Int32) = nI 93 from rfl, nI_add, mIn_nI, nI_clamp, cT, e0, a1, a2, a3]
    rw [show decide (¬ nI 0 = 0) = false by decide, cF, dne (by omega) (by omega), nI_1, add_0]
    rw [dnS_s hx]
    by_cases g1 : x.1 = p
    · rw [dF _ (fun q => q g1), cF, if_pos ⟨g1, o2⟩]
    · rw [dT _ g1, cT, if_neg (fun q => g1 q.1)])
  refine Eq.trans hs ?_
  rw [q_M_wrongOf_5, hM.1.2.2.2.2.2.1, dT _ (Int32.le_refl _), cT]
  refine Eq.trans ht ?_
  rw [q_M_wrongOf_86, hM.1.2.2.2.2.2.2.2.1, dT _ (Int32.le_refl _), cT]
  rfl
theorem t_harms (D : Nat) (t : tL σ l) (x : Int32) : qry (D + 12) n_E_harms n_M_harms [.ref 0, .int x] [.ref 200, .int x] σ := by
  have h1 := lvP t.1
  have h2 := lvY t.1
  unfold qry
  rw [c_E_harms, k_isPerson _ x σ (tP t) (by omega), c_M_harms, r_isPerson _ x σ (lM_P t.2.2.2) (by omega)]
  simp only [mBI_s, bI_0]
  cases hx : mIn x (lP l) with
  | false => exact ⟨-2, σ, rfl, rfl, sM_r σ⟩
  | true =>
    obtain ⟨p, hp, rfl⟩ := mIn_of hx
    simp only [Bool.not_true, cond_false]
    rw [tY t, k_doneBy45 _ (by omega) (by omega) (lWr l) (fun x hx => ddOK6 t.1 (lvWr t.1 x hx).1) (lvWn t.1) t.2.1.2.2.2.2.1, mBI_s, tY t, k_doneBy50 _ (by omega) (by omega) (lAc l) (fun x hx => ddOK6 t.1 (lvAc t.1 x hx).1) (lvAn t.1) t.2.1.2.2.2.2.2, mBI_s, r_wrongOf0 _ t.1 t.2.2.2 hp, dnA_add false (lAc l) p (lY l) (dnA false (lWr l) p (lY l) 0)]
    exact ⟨_, σ, rfl, rfl, sM_r σ⟩
theorem r_wrongOf1 (d : Nat) (hl : lvOK l) (hM : lM (σ.1 201) l) {p : Nat} (hp : p < lP l) : Cc (d + 3) n_M_wrongOf [.ref 200, .int (nI p), .int 1, .null, .null, .null] σ = some (.int (dnA true (lAc l) p (lY l) (dnA true (lWr l) p (lY l) 0)), σ) := by
  have h1 := lvP hl
  have h2 := lvY hl
  have h3 := lvWn hl
  have h4 := lvAn hl
  have h5 := lvLn hl
  have hland := lvLand hl (Or.inr (Or.inl (show 0 < lP l by omega)))
  rw [c_M_wrongOf]
  have hs := mFor (fun k (w : Int32) => Xx (d + 2) n_M_wrongOf 5 [.ref 200, .int (nI p), .int (nI 1), .int w, .int (nI k), .null] [] σ) (dnS true (lWr l) p (lY l)) (lWr l).length 0 (by
    intro k hk
    generalize mF _ k (0 : Int32) = w
    obtain ⟨x, hx, e0, e1, e2, e3⟩ := lM_wr hM hk
    obtain ⟨o1, o2, o3, o4, o5⟩ := (lvWr hl x (List.mem_of_getElem? hx)).1
    rw [q_M_wrongOf_5, hM.1.2.2.2.2.2.1, dle (by omega) (by omega), dF _ (by omega), cF]
    simp (disch := omega) only [show (51 : Int32) = nI 51 from rfl, show (4 : Int32) = nI 4 from rfl, show (3 : Int32) = nI 3 from rfl, show (2 : Int32) = nI 2 from rfl, nI_mul, nI_add, mIn_nI, nI_clamp, cT]
    rw [show 51 + 4 * k + 3 = 54 + 4 * k by omega, show 51 + 4 * k + 2 = 53 + 4 * k by omega, e3, r_isYear _ _ _ (lM_Ln hM) (by omega) (lM_Y hM) (by omega), mBI_s, mIn_dec (by omega) (by omega), decide_eq_true hland, bI_0, e2, nI_1, add_0, show 51 + 4 * k + 1 = 52 + 4 * k by omega, e1, dne (by omega) (by omega)]
    rw [dnS_s hx]
    by_cases g1 : x.2.1 = p
    · rw [dF _ (fun q => q g1), cF]
      by_cases g2 : x.2.2.2 < lY l
      · rw [dT _ g2, if_pos ⟨g1, g2⟩]; rfl
      · rw [dF _ g2, if_neg (fun q => g2 q.2)]; rfl
    · rw [dT _ g1, cT, if_neg (fun q => g1 q.1)])
  obtain ⟨v, ht⟩ := mForH (fun k (w : Int32) (v : Value) => Xx (d + 2) n_M_wrongOf 86 [.ref 200, .int (nI p), .int (nI 1), .int w, .int (nI k), v] [] σ) (dnS true (lAc l) p (lY l)) (lAc l).length (dnA true (lWr l) p (lY l) 0) .null (by
    intro k v hk
    generalize mF _ k (dnA true (lWr l) p (lY l) 0) = w
    have hx : (lAc l)[k]? = some (lAc l)[k] := List.getElem?_eq_getElem hk
    generalize (lAc l)[k] = x at hx
    have e0 := hM.2.2.2.2.2 k x hx
    obtain ⟨o1, o2⟩ := lvAc hl x (List.mem_of_getElem? hx)
    obtain ⟨a1, a2, a3⟩ := aN_parts (ddOK6 hl o1)
    have o3 := o1.1
    have o4 := o1.2.1
    refine ⟨.int (aN x), ?_⟩
    rw [q_M_wrongOf_86, hM.1.2.2.2.2.2.2.2.1, dle (by omega) (by omega), dF _ (by omega), cF]
    simp (disch := omega) only [show (93 : Int32) = nI 93 from rfl, nI_add, mIn_nI, nI_clamp, cT, e0, a1, a2, a3]
    rw [show decide (¬ nI 1 = 0) = true by decide, cT, dne (by omega) (by omega), nI_1, add_0]
    rw [dnS_s hx]
    by_cases g1 : x.2.1 = p
    · rw [dF _ (fun q => q g1), cF, if_pos ⟨g1, o2⟩]
    · rw [dT _ g1, cT, if_neg (fun q => g1 q.1)])
  refine Eq.trans hs ?_
  rw [q_M_wrongOf_5, hM.1.2.2.2.2.2.1, dT _ (Int32.le_refl _), cT]
  refine Eq.trans ht ?_
  rw [q_M_wrongOf_86, hM.1.2.2.2.2.2.2.2.1, dT _ (Int32.le_refl _), cT]
  rfl
theorem t_hurts (D : Nat) (t : tL σ l) (x : Int32) : qry (D + 12) n_E_hurts n_M_hurts [.ref 0, .int x] [.ref 200, .int x] σ := by
  have h1 := lvP t.1
  have h2 := lvY t.1
  unfold qry
  rw [c_E_hurts, k_isPerson _ x σ (tP t) (by omega), c_M_hurts, r_isPerson _ x σ (lM_P t.2.2.2) (by omega)]
  simp only [mBI_s, bI_0]
  cases hx : mIn x (lP l) with
  | false => exact ⟨-2, σ, rfl, rfl, sM_r σ⟩
  | true =>
    obtain ⟨p, hp, rfl⟩ := mIn_of hx
    simp only [Bool.not_true, cond_false]
    rw [tY t, k_doneTo45 _ (by omega) (by omega) (lWr l) (fun x hx => ddOK6 t.1 (lvWr t.1 x hx).1) (lvWn t.1) t.2.1.2.2.2.2.1, mBI_s, tY t, k_doneTo50 _ (by omega) (by omega) (lAc l) (fun x hx => ddOK6 t.1 (lvAc t.1 x hx).1) (lvAn t.1) t.2.1.2.2.2.2.2, mBI_s, r_wrongOf1 _ t.1 t.2.2.2 hp, dnA_add true (lAc l) p (lY l) (dnA true (lWr l) p (lY l) 0)]
    exact ⟨_, σ, rfl, rfl, sM_r σ⟩
