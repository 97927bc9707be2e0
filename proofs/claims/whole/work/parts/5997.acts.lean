/-! ===== acts ===== -/
variable {σ τ : mS} {l : Lv}
/-- what no land and no trial touches -/
def uK (σ τ : mS) : Prop := (∀ a, a < 4 ∨ (6 < a ∧ a < 15) ∨ (16 < a ∧ a < 20) ∨ (54 < a ∧ a < 200) ∨ (201 < a ∧ a < 215) ∨ 239 < a → τ.1 a = σ.1 a) ∧ (∀ k, k < 15 → τ.1 200 k = σ.1 200 k) ∧ ∀ a, a < 200 ∨ a = 242 → τ.2 a = σ.2 a
theorem uK_r (σ : mS) : uK σ σ := ⟨fun _ _ => rfl, fun _ _ => rfl, fun _ _ => rfl⟩
theorem uK_t {υ : mS} (h : uK σ τ) (g : uK τ υ) : uK σ υ := ⟨fun a ha => (g.1 a ha).trans (h.1 a ha), fun k hk => (g.2.1 k hk).trans (h.2.1 k hk), fun a ha => (g.2.2 a ha).trans (h.2.2 a ha)⟩
theorem uK_C (h : sC σ τ) : uK σ τ := ⟨fun a ha => h.1 a (by omega), fun k _ => by rw [h.1 200 (by omega)], fun a _ => by rw [h.2]⟩
theorem uK_M (h : sM σ τ) : uK σ τ := ⟨fun a ha => h.1 a (by omega), h.2.1, fun a ha => h.2.2 a (by omega)⟩
theorem uK_O (h : kO 20 σ τ) : uK σ τ := ⟨fun a ha => h.1 a (by omega), fun k _ => by rw [h.1 200 (by omega)], fun a _ => by rw [h.2]⟩
theorem uK_s (σ : mS) {b : Nat} (h : (40 ≤ b ∧ b ≤ 54) ∨ b = 201) (f : Nat → Int32) : uK σ (sR σ b f) := ⟨fun a ha => sR_ne _ _ (by omega), fun k _ => by rw [sR_ne _ _ (by omega)], fun _ _ => rfl⟩
/-- the script stays -/
def sc (σ τ : mS) : Prop := τ.1 299 = σ.1 299 ∧ τ.1 300 = σ.1 300
theorem sc_r (σ : mS) : sc σ σ := ⟨rfl, rfl⟩
theorem sc_u (h : uK σ τ) : sc σ τ := ⟨h.1 299 (by omega), h.1 300 (by omega)⟩
/-- both answer alike, and the land is another one, the same for both -/
def chg (D mE mM : Nat) (aE aM : List Value) (σ : mS) : Prop := ∃ v σ' τ l', sc σ σ' ∧ Cc D mE aE σ = some (.int v, σ') ∧ Cc D mM aM σ' = some (.int v, τ) ∧ uK σ τ ∧ tL τ l'
theorem chg_n {D mE mM : Nat} {aE aM : List Value} (t : tL σ l) {v : Int32} (h1 : Cc D mE aE σ = some (.int v, σ)) (h2 : Cc D mM aM σ = some (.int v, σ)) : chg D mE mM aE aM σ := ⟨v, σ, σ, l, sc_r σ, h1, h2, uK_r σ, t⟩
/-- a land with other acts -/
def lA (l : Lv) (A : List Dd) : Lv := (l.1, l.2.1, l.2.2.1, l.2.2.2.1, l.2.2.2.2.1, l.2.2.2.2.2.1, l.2.2.2.2.2.2.1, A)
theorem lA_ok (h : lvOK l) {A : List Dd} (h1 : ∀ x ∈ A, ddOK (lP l) x ∧ x.2.2.2 < lY l) (h2 : A.length ≤ 30) : lvOK (lA l A) := by
  obtain ⟨a1, a2, a3, a4, a5, a6, a7, a8, a9, b1, b2, b3, b4, b5, b6, b7, b8⟩ := h
  exact ⟨a1, a2, a3, a4, a5, a6, a7, a8, a9, b1, b2, b3, b4, b5, h1, b7, h2⟩
theorem dC_cut {o : Nat} {A : List Dd} (h : dC σ o A) {n : Nat} (hn : n ≤ A.length) : dC (sR σ o (upd (σ.1 o) 4 (nI n))) o (A.take n) := by
  refine ⟨by rw [sR_at, upd_at, List.length_take, Nat.min_eq_left hn], fun i x hx => ?_⟩
  rw [sR_ne _ _ (by omega), sR_ne _ _ (by omega), sR_ne _ _ (by omega), sR_ne _ _ (by omega)]
  have hi : i < n := by
    rcases Nat.lt_or_ge i n with g | g
    · exact g
    · rw [List.getElem?_eq_none (by rw [List.length_take]; omega)] at hx; cases hx
  rw [List.getElem?_take, if_pos hi] at hx
  exact h.2 i x hx
theorem lC_A {A : List Dd} (h : lC σ 40 l) (e : ∀ a, 40 ≤ a → a ≤ 49 → τ.1 a = σ.1 a) (d : dC τ 50 A) : lC τ 40 (lA l A) := by
  obtain ⟨a1, a2, a3, a4, a5, -⟩ := h
  refine ⟨?_, ?_, ?_, ?_, dC_c a5 (fun a h1 h2 => e a (by omega) (by omega)), d⟩
  · rw [e 40 (by omega) (by omega)]; exact a1
  · rw [e 41 (by omega) (by omega)]; exact a2
  · rw [e 42 (by omega) (by omega)]; exact a3
  · rw [e 43 (by omega) (by omega), e 44 (by omega) (by omega)]; exact a4
theorem lM_A {f g : Nat → Int32} {A : List Dd} (h : lM f l) (e : ∀ k, k < 93 → k ≠ 7 → g k = f k) (h7 : g 7 = nI A.length) (ha : ∀ (i : Nat) (x : Dd), A[i]? = some x → g (93 + i) = aN x) (hl : lvOK l) : lM g (lA l A) := by
  have h1 := lvP hl
  have h3 := lvQ hl
  have h5 : (lWr l).length ≤ 8 := hl.2.2.2.2.2.2.2.2.2.2.2.2.2.2.2.1
  obtain ⟨⟨a0, a1, a2, a3, a4, a5, a6, a7, a8⟩, b, c, d, w, -⟩ := h
  refine ⟨⟨?_, ?_, ?_, ?_, ?_, ?_, ?_, h7, ?_⟩, fun p hp => ?_, fun k hk => ?_, fun q hq => ?_, fun i x hx => ?_, ha⟩
  · rw [e 0 (by omega) (by omega)]; exact a0
  · rw [e 1 (by omega) (by omega)]; exact a1
  · rw [e 2 (by omega) (by omega)]; exact a2
  · rw [e 3 (by omega) (by omega)]; exact a3
  · rw [e 4 (by omega) (by omega)]; exact a4
  · rw [e 5 (by omega) (by omega)]; exact a5
  · rw [e 6 (by omega) (by omega)]; exact a6
  · rw [e 8 (by omega) (by omega)]; exact a8
  · have hp' : p < lP l := hp
    rw [e (9 + p) (by omega) (by omega)]; exact b p hp
  · rw [e _ (by omega) (by omega)]; exact c k hk
  · have hq' : q < lQ l := hq
    rw [e (83 + 2 * q) (by omega) (by omega), e (84 + 2 * q) (by omega) (by omega)]; exact d q hq
  · have hi : i < (lWr l).length := by
      rcases Nat.lt_or_ge i (lWr l).length with g | g
      · exact g
      · have hx' : (lWr l)[i]? = some x := hx
        rw [List.getElem?_eq_none g] at hx'; cases hx'
    rw [e (51 + 4 * i) (by omega) (by omega), e (52 + 4 * i) (by omega) (by omega), e (53 + 4 * i) (by omega) (by omega), e (54 + 4 * i) (by omega) (by omega)]
    exact w i x hx
theorem tAc (t : tL σ l) : σ.1 50 4 = nI (lAc l).length := t.2.1.2.2.2.2.2.1
theorem lM_Ac {f : Nat → Int32} (h : lM f l) : f 7 = nI (lAc l).length := h.1.2.2.2.2.2.2.2.1
theorem lvAcs (h : lvOK l) : (lAc l).length ≤ 30 := h.2.2.2.2.2.2.2.2.2.2.2.2.2.2.2.2
theorem lvAcx (h : lvOK l) : ∀ x ∈ lAc l, ddOK (lP l) x ∧ x.2.2.2 < lY l := h.2.2.2.2.2.2.2.2.2.2.2.2.2.2.1
/-- the last acts forgotten -/
theorem cut_ok (d : Nat) (t : tL σ l) {n : Nat} (hn : n ≤ (lAc l).length) : ∃ τ, Cc (d + 6) n_E_refresh [.ref 0] (mUpI σ 50 4 (nI n)) = some (.null, τ) ∧ τ.1 50 4 = nI n ∧ τ.1 201 = σ.1 201 ∧ uK σ τ ∧ lC τ 40 (lA l ((lAc l).take n)) ∧ cR τ 20 (lA l ((lAc l).take n)) (vS (lA l ((lAc l).take n))) ∧ lvOK (lA l ((lAc l).take n)) := by
  have hk : lvOK (lA l ((lAc l).take n)) := lA_ok t.1 (fun x hx => lvAcx t.1 x (List.mem_of_mem_take hx)) (by rw [List.length_take]; have := lvAcs t.1; omega)
  have hC : lC (mUpI σ 50 4 (nI n)) 40 (lA l ((lAc l).take n)) := lC_A t.2.1 (fun a h1 h2 => by rw [mUpI_sR, sR_ne _ _ (by omega)]) (by rw [mUpI_sR]; exact dC_cut t.2.1.2.2.2.2.2 hn)
  obtain ⟨τ, e, o, c⟩ := k_refresh d hk hC
  refine ⟨τ, e, ?_, ?_, ?_, lC_c hC (fun a h1 h2 => o.1 a (by omega)), c, hk⟩
  · rw [o.1 50 (by omega), mUpI_sR, sR_at, upd_at]
  · rw [o.1 201 (by omega), mUpI_sR, sR_ne _ _ (by decide)]
  · exact uK_t (uK_s _ (by omega) _) (uK_O o)
theorem cut_M (hl : lvOK l) {f : Nat → Int32} (h : lM f l) {n : Nat} (hn : n ≤ (lAc l).length) : lM (upd f 7 (nI n)) (lA l ((lAc l).take n)) := by
  have hb := lvAcs hl
  refine lM_A h (fun k _ h2 => upd_ne _ _ h2) (by rw [upd_at, List.length_take, Nat.min_eq_left hn]) (fun i x hx => ?_) hl
  have hi : i < n := by
    rcases Nat.lt_or_ge i n with g | g
    · exact g
    · rw [List.getElem?_eq_none (by rw [List.length_take]; omega)] at hx; cases hx
  rw [List.getElem?_take, if_pos hi] at hx
  rw [upd_ne _ _ (by omega)]
  exact h.2.2.2.2.2 i x hx
theorem t_undo (D : Nat) (t : tL σ l) : chg (D + 12) n_E_undo n_M_undo [.ref 0] [.ref 200] σ := by
  have h4 := lvLn t.1
  have hb := lvAcs t.1
  have eE : Cc (D + 12) n_E_undo [.ref 0] σ = (bif decide (0 < lLn l) then (bif decide (¬ nI (lAc l).length = nI 0) then (mBV (Cc (D + 11) n_E_refresh [.ref 0] (mUpI σ 50 4 (nI (lAc l).length - (1 : Int32)))) fun τ3 => (some (.int (τ3.1 50 4), τ3))) else (some (.int (-5), σ))) else (some (.int (-2), σ))) := by
    rw [c_E_undo, k_isLand _ σ (tLn t) (by omega), mBI_s, bI_n, tAc t]
    rfl
  have eM : ∀ τ : mS, lM (τ.1 201) l → Cc (D + 12) n_M_undo [.ref 200] τ = (bif decide (0 < lLn l) then (bif decide (¬ nI (lAc l).length = nI 0) then (some (.int (nI (lAc l).length - 1), (mUpI τ 201 7 (nI (lAc l).length - 1)))) else (some (.int (-5), τ))) else (some (.int (-2), τ))) := by
    intro τ hM
    rw [c_M_undo, r_isLand _ τ (lM_Ln hM) (by omega), mBI_s, bI_n, lM_Ac hM, mUpI_sR, sR_at, upd_at]
    rfl
  rw [dne (by omega) (by omega)] at eE
  cases hld : decide (0 < lLn l) with
  | false => exact chg_n t (v := -2) (by rw [eE, hld, cF]) (by rw [eM σ t.2.2.2, hld, cF])
  | true =>
    by_cases g : (lAc l).length = 0
    · exact chg_n t (v := -5) (by rw [eE, hld, cT, dF _ (fun h => h g), cF]) (by rw [eM σ t.2.2.2, hld, cT, dne (by omega) (by omega), dF _ (fun h => h g), cF])
    · have e1 : nI (lAc l).length - 1 = nI ((lAc l).length - 1) := by
        have := nI_1 ((lAc l).length - 1)
        rw [show (lAc l).length - 1 + 1 = (lAc l).length by omega] at this
        rw [← this, Int32.add_sub_cancel]
      obtain ⟨σ1, f1, f2, f3, f4, f5, f6, f7⟩ := cut_ok (D + 5) t (n := (lAc l).length - 1) (by omega)
      have hM : lM (σ1.1 201) l := by rw [f3]; exact t.2.2.2
      have hM2 := cut_M t.1 hM (n := (lAc l).length - 1) (by omega)
      refine ⟨nI ((lAc l).length - 1), σ1, mUpI σ1 201 7 (nI ((lAc l).length - 1)), lA l ((lAc l).take ((lAc l).length - 1)), sc_u f4, ?_, ?_, uK_t f4 (uK_s _ (by omega) _), f7, ?_, ?_, ?_⟩
      · rw [eE, hld, cT, dT _ g, cT, e1, f1, mBV_s, f2]
      · rw [eM σ1 hM, hld, cT, dne (by omega) (by omega), dT _ g, cT, e1]
      · exact lC_c f5 (fun a h1 h2 => by rw [mUpI_sR, sR_ne _ _ (by omega)])
      · exact cR_c f6 (fun a h1 h2 => by rw [mUpI_sR, sR_ne _ _ (by omega)])
      · rw [mUpI_sR, sR_at]; exact hM2
theorem t_anew (D : Nat) (t : tL σ l) : chg (D + 12) n_E_anew n_M_anew [.ref 0, .null] [.ref 200, .null] σ := by
  have h4 := lvLn t.1
  have hb := lvAcs t.1
  have eE : Cc (D + 12) n_E_anew [.ref 0, .null] σ = (bif decide (0 < lLn l) then (mBV (Cc (D + 11) n_E_refresh [.ref 0] (mUpI σ 50 4 (nI 0))) fun τ3 => (some (.int (nI (lAc l).length), τ3))) else (some (.int (-2), σ))) := by
    rw [c_E_anew, k_isLand _ σ (tLn t) (by omega), mBI_s, bI_n, tAc t]
    rfl
  have eM : ∀ τ : mS, lM (τ.1 201) l → Cc (D + 12) n_M_anew [.ref 200, .null] τ = (bif decide (0 < lLn l) then (some (.int (nI (lAc l).length), (mUpI τ 201 7 (nI 0)))) else (some (.int (-2), τ))) := by
    intro τ hM
    rw [c_M_anew, r_isLand _ τ (lM_Ln hM) (by omega), mBI_s, bI_n, lM_Ac hM]
    rfl
  cases hld : decide (0 < lLn l) with
  | false => exact chg_n t (v := -2) (by rw [eE, hld, cF]) (by rw [eM σ t.2.2.2, hld, cF])
  | true =>
    obtain ⟨σ1, f1, f2, f3, f4, f5, f6, f7⟩ := cut_ok (D + 5) t (n := 0) (by omega)
    have hM : lM (σ1.1 201) l := by rw [f3]; exact t.2.2.2
    have hM2 := cut_M t.1 hM (n := 0) (by omega)
    refine ⟨nI (lAc l).length, σ1, mUpI σ1 201 7 (nI 0), lA l ((lAc l).take 0), sc_u f4, ?_, ?_, uK_t f4 (uK_s _ (by omega) _), f7, ?_, ?_, ?_⟩
    · rw [eE, hld, cT, f1, mBV_s]
    · rw [eM σ1 hM, hld, cT]
    · exact lC_c f5 (fun a h1 h2 => by rw [mUpI_sR, sR_ne _ _ (by omega)])
    · exact cR_c f6 (fun a h1 h2 => by rw [mUpI_sR, sR_ne _ _ (by omega)])
    · rw [mUpI_sR, sR_at]; exact hM2

/-- a deed added -/
theorem k_add50 (d : Nat) {A : List Dd} (h : dC σ 50 A) (i1 i2 i3 i4 : Int32) : (A.length = 30 → Cc (d + 1) n_De_add [.ref 50, .int i1, .int i2, .int i3, .int i4] σ = some (.int 0, σ)) ∧ (A.length < 30 → Cc (d + 1) n_De_add [.ref 50, .int i1, .int i2, .int i3, .int i4] σ = some (.int 1, sR (sR (sR (sR (sR σ 51 (upd (σ.1 51) A.length i1)) 52 (upd (σ.1 52) A.length i2)) 53 (upd (σ.1 53) A.length i3)) 54 (upd (σ.1 54) A.length i4)) 50 (upd (σ.1 50) 4 (nI (A.length + 1))))) := by
  have h1 := h.1
  refine ⟨fun e => ?_, fun e => ?_⟩
  · rw [c_De_add_50, h1, e]
    rfl
  · rw [c_De_add_50]
    simp only [mUpI_sR]
    have z : ∀ f1 : Nat → Int32, (sR σ 51 f1).1 50 = σ.1 50 := fun _ => sR_ne _ _ (by decide)
    have z2 : ∀ f1 f2 : Nat → Int32, (sR (sR σ 51 f1) 52 f2).1 50 = σ.1 50 := fun _ _ => by rw [sR_ne _ _ (by decide), z]
    have z3 : ∀ f1 f2 f3 : Nat → Int32, (sR (sR (sR σ 51 f1) 52 f2) 53 f3).1 50 = σ.1 50 := fun _ _ _ => by rw [sR_ne _ _ (by decide), z2]
    have z4 : ∀ f1 f2 f3 f4 : Nat → Int32, (sR (sR (sR (sR σ 51 f1) 52 f2) 53 f3) 54 f4).1 50 = σ.1 50 := fun _ _ _ _ => by rw [sR_ne _ _ (by decide), z3]
    have y2 : ∀ f1 : Nat → Int32, (sR σ 51 f1).1 52 = σ.1 52 := fun _ => sR_ne _ _ (by decide)
    have y3 : ∀ f1 f2 : Nat → Int32, (sR (sR σ 51 f1) 52 f2).1 53 = σ.1 53 := fun _ _ => by rw [sR_ne _ _ (by decide), sR_ne _ _ (by decide)]
    have y4 : ∀ f1 f2 f3 : Nat → Int32, (sR (sR (sR σ 51 f1) 52 f2) 53 f3).1 54 = σ.1 54 := fun _ _ _ => by rw [sR_ne _ _ (by decide), sR_ne _ _ (by decide), sR_ne _ _ (by decide)]
    rw [z4, z3, z2, z, y4, y3, y2, h1, show (Int32.ofNat 30) = nI 30 from rfl, dlt (by omega) (by omega), dT _ e, cT, mIn_nI (by omega) (by omega), cT, cT, cT, cT, nI_clamp (by omega), nI_1]
theorem dC_add50 {A : List Dd} (h : dC σ 50 A) (x : Dd) : dC (sR (sR (sR (sR (sR σ 51 (upd (σ.1 51) A.length (nI x.1))) 52 (upd (σ.1 52) A.length (nI x.2.1))) 53 (upd (σ.1 53) A.length x.2.2.1)) 54 (upd (σ.1 54) A.length (nI x.2.2.2))) 50 (upd (σ.1 50) 4 (nI (A.length + 1)))) 50 (A ++ [x]) := by
  refine ⟨by rw [sR_at, upd_at, List.length_append]; rfl, fun i y hy => ?_⟩
  have e1 : ∀ f1 f2 f3 f4 f5 : Nat → Int32, (sR (sR (sR (sR (sR σ 51 f1) 52 f2) 53 f3) 54 f4) 50 f5).1 51 = f1 := fun _ _ _ _ _ => by rw [sR_ne _ _ (by decide), sR_ne _ _ (by decide), sR_ne _ _ (by decide), sR_ne _ _ (by decide), sR_at]
  have e2 : ∀ f1 f2 f3 f4 f5 : Nat → Int32, (sR (sR (sR (sR (sR σ 51 f1) 52 f2) 53 f3) 54 f4) 50 f5).1 52 = f2 := fun _ _ _ _ _ => by rw [sR_ne _ _ (by decide), sR_ne _ _ (by decide), sR_ne _ _ (by decide), sR_at]
  have e3 : ∀ f1 f2 f3 f4 f5 : Nat → Int32, (sR (sR (sR (sR (sR σ 51 f1) 52 f2) 53 f3) 54 f4) 50 f5).1 53 = f3 := fun _ _ _ _ _ => by rw [sR_ne _ _ (by decide), sR_ne _ _ (by decide), sR_at]
  have e4 : ∀ f1 f2 f3 f4 f5 : Nat → Int32, (sR (sR (sR (sR (sR σ 51 f1) 52 f2) 53 f3) 54 f4) 50 f5).1 54 = f4 := fun _ _ _ _ _ => by rw [sR_ne _ _ (by decide), sR_at]
  rw [e1, e2, e3, e4]
  have hi : i < A.length ∧ A[i]? = some y ∨ i = A.length ∧ y = x := by
    rcases Nat.lt_or_ge i A.length with g | g
    · rw [List.getElem?_append_left g] at hy
      exact Or.inl ⟨g, hy⟩
    · rw [List.getElem?_append_right g] at hy
      rcases Nat.eq_zero_or_pos (i - A.length) with z | z
      · rw [z] at hy
        cases hy
        exact Or.inr ⟨by omega, rfl⟩
      · rw [List.getElem?_eq_none (by simp; omega)] at hy
        cases hy
  rcases hi with ⟨g, hy⟩ | ⟨rfl, rfl⟩
  · rw [upd_ne _ _ (by omega), upd_ne _ _ (by omega), upd_ne _ _ (by omega), upd_ne _ _ (by omega)]
    exact h.2 i y hy
  · rw [upd_at, upd_at, upd_at, upd_at]
    exact ⟨rfl, rfl, rfl, rfl⟩

/-- a deed added -/
theorem k_add65 (d : Nat) {A : List Dd} (h : dC σ 65 A) (i1 i2 i3 i4 : Int32) : (A.length = 8 → Cc (d + 1) n_De_add [.ref 65, .int i1, .int i2, .int i3, .int i4] σ = some (.int 0, σ)) ∧ (A.length < 8 → Cc (d + 1) n_De_add [.ref 65, .int i1, .int i2, .int i3, .int i4] σ = some (.int 1, sR (sR (sR (sR (sR σ 66 (upd (σ.1 66) A.length i1)) 67 (upd (σ.1 67) A.length i2)) 68 (upd (σ.1 68) A.length i3)) 69 (upd (σ.1 69) A.length i4)) 65 (upd (σ.1 65) 4 (nI (A.length + 1))))) := by
  have h1 := h.1
  refine ⟨fun e => ?_, fun e => ?_⟩
  · rw [c_De_add_65, h1, e]
    rfl
  · rw [c_De_add_65]
    simp only [mUpI_sR]
    have z : ∀ f1 : Nat → Int32, (sR σ 66 f1).1 65 = σ.1 65 := fun _ => sR_ne _ _ (by decide)
    have z2 : ∀ f1 f2 : Nat → Int32, (sR (sR σ 66 f1) 67 f2).1 65 = σ.1 65 := fun _ _ => by rw [sR_ne _ _ (by decide), z]
    have z3 : ∀ f1 f2 f3 : Nat → Int32, (sR (sR (sR σ 66 f1) 67 f2) 68 f3).1 65 = σ.1 65 := fun _ _ _ => by rw [sR_ne _ _ (by decide), z2]
    have z4 : ∀ f1 f2 f3 f4 : Nat → Int32, (sR (sR (sR (sR σ 66 f1) 67 f2) 68 f3) 69 f4).1 65 = σ.1 65 := fun _ _ _ _ => by rw [sR_ne _ _ (by decide), z3]
    have y2 : ∀ f1 : Nat → Int32, (sR σ 66 f1).1 67 = σ.1 67 := fun _ => sR_ne _ _ (by decide)
    have y3 : ∀ f1 f2 : Nat → Int32, (sR (sR σ 66 f1) 67 f2).1 68 = σ.1 68 := fun _ _ => by rw [sR_ne _ _ (by decide), sR_ne _ _ (by decide)]
    have y4 : ∀ f1 f2 f3 : Nat → Int32, (sR (sR (sR σ 66 f1) 67 f2) 68 f3).1 69 = σ.1 69 := fun _ _ _ => by rw [sR_ne _ _ (by decide), sR_ne _ _ (by decide), sR_ne _ _ (by decide)]
    rw [z4, z3, z2, z, y4, y3, y2, h1, show (Int32.ofNat 8) = nI 8 from rfl, dlt (by omega) (by omega), dT _ e, cT, mIn_nI (by omega) (by omega), cT, cT, cT, cT, nI_clamp (by omega), nI_1]
theorem dC_add65 {A : List Dd} (h : dC σ 65 A) (x : Dd) : dC (sR (sR (sR (sR (sR σ 66 (upd (σ.1 66) A.length (nI x.1))) 67 (upd (σ.1 67) A.length (nI x.2.1))) 68 (upd (σ.1 68) A.length x.2.2.1)) 69 (upd (σ.1 69) A.length (nI x.2.2.2))) 65 (upd (σ.1 65) 4 (nI (A.length + 1)))) 65 (A ++ [x]) := by
  refine ⟨by rw [sR_at, upd_at, List.length_append]; rfl, fun i y hy => ?_⟩
  have e1 : ∀ f1 f2 f3 f4 f5 : Nat → Int32, (sR (sR (sR (sR (sR σ 66 f1) 67 f2) 68 f3) 69 f4) 65 f5).1 66 = f1 := fun _ _ _ _ _ => by rw [sR_ne _ _ (by decide), sR_ne _ _ (by decide), sR_ne _ _ (by decide), sR_ne _ _ (by decide), sR_at]
  have e2 : ∀ f1 f2 f3 f4 f5 : Nat → Int32, (sR (sR (sR (sR (sR σ 66 f1) 67 f2) 68 f3) 69 f4) 65 f5).1 67 = f2 := fun _ _ _ _ _ => by rw [sR_ne _ _ (by decide), sR_ne _ _ (by decide), sR_ne _ _ (by decide), sR_at]
  have e3 : ∀ f1 f2 f3 f4 f5 : Nat → Int32, (sR (sR (sR (sR (sR σ 66 f1) 67 f2) 68 f3) 69 f4) 65 f5).1 68 = f3 := fun _ _ _ _ _ => by rw [sR_ne _ _ (by decide), sR_ne _ _ (by decide), sR_at]
  have e4 : ∀ f1 f2 f3 f4 f5 : Nat → Int32, (sR (sR (sR (sR (sR σ 66 f1) 67 f2) 68 f3) 69 f4) 65 f5).1 69 = f4 := fun _ _ _ _ _ => by rw [sR_ne _ _ (by decide), sR_at]
  rw [e1, e2, e3, e4]
  have hi : i < A.length ∧ A[i]? = some y ∨ i = A.length ∧ y = x := by
    rcases Nat.lt_or_ge i A.length with g | g
    · rw [List.getElem?_append_left g] at hy
      exact Or.inl ⟨g, hy⟩
    · rw [List.getElem?_append_right g] at hy
      rcases Nat.eq_zero_or_pos (i - A.length) with z | z
      · rw [z] at hy
        cases hy
        exact Or.inr ⟨by omega, rfl⟩
      · rw [List.getElem?_eq_none (by simp; omega)] at hy
        cases hy
  rcases hi with ⟨g, hy⟩ | ⟨rfl, rfl⟩
  · rw [upd_ne _ _ (by omega), upd_ne _ _ (by omega), upd_ne _ _ (by omega), upd_ne _ _ (by omega)]
    exact h.2 i y hy
  · rw [upd_at, upd_at, upd_at, upd_at]
    exact ⟨rfl, rfl, rfl, rfl⟩

/-! wrongs and amends since -/
theorem in_40 (d : Nat) (x : Int32) (σ : mS) : Cc (d + 1) n_M_in [.long x.toInt64, .null, .long 1, .null, .long 40, .null] σ = some (.int (bI (!(decide (x < 1)) && !(decide ((40 : Int32) < x)))), σ) := by
  rw [r_in]
  have e1 : decide (x.toInt64 < 1) = decide (x < 1) := decide_eq_decide.mpr (by rw [Int64.lt_iff_toInt_lt, Int32.toInt_toInt64, Int32.lt_iff_toInt_lt]; exact Iff.rfl)
  have e2 : decide ((40 : Int64) < x.toInt64) = decide ((40 : Int32) < x) := decide_eq_decide.mpr (by rw [Int64.lt_iff_toInt_lt, Int32.toInt_toInt64, Int32.lt_iff_toInt_lt]; exact Iff.rfl)
  rw [e1, e2]
theorem t_act (D : Nat) (t : tL σ l) (x y z : Int32) {n : Int32} (hn : bw 0 n 40) : ∃ v σ' τ l', sc σ σ' ∧ Cc (D + 11) n_E_act [.ref 0, .int x, .int y, .int n, .int z] σ = some (.int v, σ') ∧ uK σ τ ∧ tL τ l' ∧ σ'.1 201 = σ.1 201 ∧ ((mIn x (lP l) && mIn y (lP l) && !(decide (x = y)) && mIn z (lY l)) = false → v = -1000 ∧ σ' = σ ∧ τ = σ) ∧ ((mIn x (lP l) && mIn y (lP l) && !(decide (x = y)) && mIn z (lY l)) = true → Cc (D + 11) n_M_keepAct [.ref 200, .int n, .int x, .int y, .int z] σ' = some (.int v, τ)) := by
  have h1 := lvP t.1
  have h2 := lvY t.1
  have hb := lvAcs t.1
  have eE : Cc (D + 11) n_E_act [.ref 0, .int x, .int y, .int n, .int z] σ = (bif mIn x (lP l) && mIn y (lP l) && !(decide (x = y)) && mIn z (lY l) then (mBI (Cc (D + 10) n_De_add [.ref 50, .int x, .int y, .int n, .int z] σ) fun r6 τ5 => (bif decide (¬ (r6 : Int32) = 0) then (mBV (Cc (D + 10) n_E_refresh [.ref 0] τ5) fun τ7 => (mBI (Cc (D + 10) n_Co_feeling [.ref 20, .int y, .int x, .int z] τ7) fun r9 τ8 => (some (.int r9, τ8)))) else (some (.int (-5), τ5)))) else some (.int (-1000), σ)) := by
    rw [c_E_act, k_isPair _ _ _ σ (tP t) (by omega), mBI_s, bI_0, k_isYear _ _ σ (tY t) (by omega), mBI_s, bI_n]
    cases (mIn x (lP l) && mIn y (lP l) && !(decide (x = y))) <;> cases mIn z (lY l) <;> rfl
  rw [eE]
  cases hc : (mIn x (lP l) && mIn y (lP l) && !(decide (x = y)) && mIn z (lY l)) with
  | false => exact ⟨-1000, σ, σ, l, sc_r σ, rfl, uK_r σ, t, rfl, fun _ => ⟨rfl, rfl, rfl⟩, fun h => by cases h⟩
  | true =>
    rw [Bool.and_eq_true, Bool.and_eq_true, Bool.and_eq_true] at hc
    obtain ⟨⟨⟨hx, hy⟩, hxy⟩, hz⟩ := hc
    obtain ⟨p, hp, rfl⟩ := mIn_of hx
    obtain ⟨q, hq, rfl⟩ := mIn_of hy
    obtain ⟨k, hk, rfl⟩ := mIn_of hz
    have hpq : p ≠ q := fun e => by
      rw [e] at hxy
      rw [dT _ rfl] at hxy
      cases hxy
    rw [cT]
    have ha := k_add50 (D + 9) t.2.1.2.2.2.2.2 (nI p) (nI q) n (nI k)
    rcases Nat.lt_or_ge (lAc l).length 30 with g | g
    · have hd : dC _ 50 _ := dC_add50 t.2.1.2.2.2.2.2 (p, q, n, k)
      rw [ha.2 g, mBI_s, show decide (¬ (1 : Int32) = 0) = true by decide, cT]
      dsimp only at hd
      generalize hσ1 : (sR (sR (sR (sR (sR σ 51 (upd (σ.1 51) (lAc l).length (nI p))) 52 (upd (σ.1 52) (lAc l).length (nI q))) 53 (upd (σ.1 53) (lAc l).length n)) 54 (upd (σ.1 54) (lAc l).length (nI k))) 50 (upd (σ.1 50) 4 (nI ((lAc l).length + 1)))) = σ1 at hd ⊢
      have u1 : uK σ σ1 := by
        rw [← hσ1]
        exact uK_t (uK_s _ (by omega) _) (uK_t (uK_s _ (by omega) _) (uK_t (uK_s _ (by omega) _) (uK_t (uK_s _ (by omega) _) (uK_s _ (by omega) _))))
      have r1 : ∀ a, a < 50 ∨ 54 < a → σ1.1 a = σ.1 a := fun a ha => by
        rw [← hσ1, sR_ne _ _ (by omega), sR_ne _ _ (by omega), sR_ne _ _ (by omega), sR_ne _ _ (by omega), sR_ne _ _ (by omega)]
      have hok : lvOK (lA l (lAc l ++ [(p, q, n, k)])) := lA_ok t.1 (fun w hw => by
        rcases List.mem_append.mp hw with h | h
        · exact lvAcx t.1 w h
        · rw [List.mem_singleton] at h
          subst h
          exact ⟨⟨hp, hq, hpq, hn, by show k < 12; omega⟩, hk⟩) (by rw [List.length_append]; simp only [List.length_cons, List.length_nil]; omega)
      have hC : lC σ1 40 (lA l (lAc l ++ [(p, q, n, k)])) := lC_A t.2.1 (fun a _ _ => r1 a (by omega)) hd
      obtain ⟨σ2, e2, o2, c2⟩ := k_refresh (D + 4) hok hC
      have m2 : σ2.1 201 = σ.1 201 := by rw [o2.1 201 (by omega), r1 201 (by omega)]
      have hM2 : lM (upd (upd (σ2.1 201) (93 + (lAc l).length) (aN (p, q, n, k))) 7 (nI ((lAc l).length + 1))) (lA l (lAc l ++ [(p, q, n, k)])) := by
        refine lM_A t.2.2.2 (fun j h1 h2 => by rw [upd_ne _ _ h2, upd_ne _ _ (by omega), m2]) (by rw [upd_at, List.length_append]; rfl) (fun i w hw => ?_) t.1
        rw [upd_ne _ _ (by omega)]
        rcases Nat.lt_or_ge i (lAc l).length with gi | gi
        · rw [List.getElem?_append_left gi] at hw
          rw [upd_ne _ _ (by omega), m2]
          exact t.2.2.2.2.2.2.2.2 i w hw
        · rw [List.getElem?_append_right gi] at hw
          rcases Nat.eq_zero_or_pos (i - (lAc l).length) with zz | zz
          · rw [zz] at hw
            cases hw
            rw [show i = (lAc l).length by omega, upd_at]
          · rw [List.getElem?_eq_none (by simp; omega)] at hw
            cases hw
      obtain ⟨τ3, e3, s3, a3⟩ := r_asksLand (D + 1) hok (σ := sR σ2 201 (upd (upd (σ2.1 201) (93 + (lAc l).length) (aN (p, q, n, k))) 7 (nI ((lAc l).length + 1)))) (by rw [sR_at]; exact hM2)
      have u2 : uK σ (sR σ2 201 (upd (upd (σ2.1 201) (93 + (lAc l).length) (aN (p, q, n, k))) 7 (nI ((lAc l).length + 1)))) := uK_t u1 (uK_t (uK_O o2) (uK_s _ (by omega) _))
      refine ⟨fE (lA l (lAc l ++ [(p, q, n, k)])) (vS (lA l (lAc l ++ [(p, q, n, k)]))) k (6 * q + p), σ2, τ3, lA l (lAc l ++ [(p, q, n, k)]), sc_u (uK_t u1 (uK_O o2)), ?_, uK_t u2 (uK_M s3), ⟨hok, ?_, ?_, sM_lM s3 (by rw [sR_at]; exact hM2)⟩, m2, fun h => (by cases h), fun _ => ?_⟩
      · rw [e2, mBV_s, k_feeling _ 20 (Or.inl rfl) (by omega) (by omega) (by omega), mBI_s, c2.2.1 k hk _ (by omega)]
      · exact lC_c hC (fun a h1 h2 => by rw [s3.1 a (by omega), sR_ne _ _ (by omega), o2.1 a (by omega)])
      · exact cR_c c2 (fun a h1 h2 => by rw [s3.1 a (by omega), sR_ne _ _ (by omega)])
      · have hM0 : lM (σ2.1 201) l := by rw [m2]; exact t.2.2.2
        rw [c_M_keepAct, lM_Ac hM0, show (30 : Int32) = nI 30 from rfl, dne (by omega) (by omega), dT _ (by omega), cT, show (93 : Int32) = nI 93 from rfl, nI_add, mIn_nI (by omega) (by omega), cT, nI_clamp (by omega)]
        have e7 : mUpI (mUpI σ2 201 (93 + (lAc l).length) (100000 * n + 10000 * nI p + 1000 * nI q + nI k)) 201 7 ((mUpI σ2 201 (93 + (lAc l).length) (100000 * n + 10000 * nI p + 1000 * nI q + nI k)).1 201 7 + 1) = sR σ2 201 (upd (upd (σ2.1 201) (93 + (lAc l).length) (aN (p, q, n, k))) 7 (nI ((lAc l).length + 1))) := by
          simp only [mUpI_sR, sR_sR, sR_at]
          rw [upd_ne (σ2.1 201) (k := 93 + (lAc l).length) (j := 7) _ (by omega), lM_Ac hM0, nI_1]
          rfl
        rw [e7, e3, mBI_s, r_feeling _ (by omega) (by omega) (by omega), mBI_s, a3.2.1.2.1 k hk _ (by omega)]
    · have g' : (lAc l).length = 30 := by omega
      refine ⟨-5, σ, σ, l, sc_r σ, ?_, uK_r σ, t, rfl, (fun h => by cases h), fun _ => ?_⟩
      · rw [ha.1 g']; rfl
      · rw [c_M_keepAct, lM_Ac t.2.2.2, g']; rfl
theorem t_wrongs (D : Nat) (t : tL σ l) (x y n z : Int32) : chg (D + 12) n_E_wrongs n_M_wrongs [.ref 0, .int x, .int y, .int n, .int z] [.ref 200, .int x, .int y, .int n, .int z] σ := by
  have h1 := lvP t.1
  have h2 := lvY t.1
  have h4 := lvLn t.1
  have eM : ∀ τ : mS, lM (τ.1 201) l → Cc (D + 12) n_M_wrongs [.ref 200, .int x, .int y, .int n, .int z] τ = (bif mIn x (lP l) && mIn y (lP l) && !(decide (x = y)) then (bif (!(decide (n < 1)) && !(decide ((40 : Int32) < n))) then (bif (decide (0 < lLn l) && mIn z (lY l)) then (mBI (Cc (D + 11) n_M_keepAct [.ref 200, .int n, .int x, .int y, .int z] τ) fun r8 τ7 => (some (.int r8, τ7))) else some (.int (-1000), τ)) else some (.int (-1000), τ)) else some (.int (-1000), τ)) := by
    intro τ hM
    rw [c_M_wrongs, r_areTwo _ _ _ τ (lM_P hM) (by omega), mBI_s, bI_0, in_40, mBI_s, bI_0, r_isYear _ _ τ (lM_Ln hM) (by omega) (lM_Y hM) (by omega), mBI_s, bI_0]
    cases (mIn x (lP l) && mIn y (lP l) && !(decide (x = y))) <;> cases (!(decide (n < 1)) && !(decide ((40 : Int32) < n))) <;> cases (decide (0 < lLn l) && mIn z (lY l)) <;> rfl
  have ref : ∀ τ : mS, lM (τ.1 201) l → ((!(decide (n < 1)) && !(decide ((40 : Int32) < n))) = false ∨ (mIn x (lP l) && mIn y (lP l) && !(decide (x = y)) && mIn z (lY l)) = false) → Cc (D + 12) n_M_wrongs [.ref 200, .int x, .int y, .int n, .int z] τ = some (.int (-1000), τ) := by
    intro τ hM h
    rw [eM τ hM]
    rcases h with h | h
    · rw [h]
      cases (mIn x (lP l) && mIn y (lP l) && !(decide (x = y))) <;> rfl
    · cases hA : (mIn x (lP l) && mIn y (lP l) && !(decide (x = y))) with
      | false => rfl
      | true =>
        rw [hA, Bool.true_and] at h
        rw [h, Bool.and_false]
        cases (!(decide (n < 1)) && !(decide ((40 : Int32) < n))) <;> rfl
  by_cases g1 : n < 1
  · refine chg_n t (v := -1000) ?_ (ref σ t.2.2.2 (Or.inl (by rw [dT _ g1]; rfl)))
    rw [c_E_wrongs, dT _ g1, cT]
  · by_cases g2 : (40 : Int32) < n
    · refine chg_n t (v := -1000) ?_ (ref σ t.2.2.2 (Or.inl (by rw [dT _ g2, Bool.not_true, Bool.and_false])))
      rw [c_E_wrongs, dF _ g1, cF, dT _ g2, cT]
    · have hn : bw 0 n 40 := by
        have a1 := mt Int32.lt_iff_toInt_lt.mpr g1
        have a2 := mt Int32.lt_iff_toInt_lt.mpr g2
        rw [show (1 : Int32).toInt = 1 from rfl] at a1
        rw [show (40 : Int32).toInt = 40 from rfl] at a2
        exact ⟨by omega, by omega⟩
      obtain ⟨v, σ', τ, l', s0, e1, u, t', m1, r1, r2⟩ := t_act D t x y z hn
      cases hc : (mIn x (lP l) && mIn y (lP l) && !(decide (x = y)) && mIn z (lY l)) with
      | false =>
        obtain ⟨rfl, rfl, rfl⟩ := r1 hc
        refine chg_n t (v := -1000) ?_ (ref _ t.2.2.2 (Or.inr hc))
        rw [c_E_wrongs, dF _ g1, cF, dF _ g2, cF, e1, mBI_s]
      | true =>
        refine ⟨v, σ', τ, l', s0, ?_, ?_, u, t'⟩
        · rw [c_E_wrongs, dF _ g1, cF, dF _ g2, cF, e1, mBI_s]
        · rw [eM σ' (by rw [m1]; exact t.2.2.2)]
          have hc' := hc
          rw [Bool.and_eq_true] at hc'
          obtain ⟨ha, hz⟩ := hc'
          obtain ⟨k, hk, -⟩ := mIn_of hz
          rw [ha, cT, dF _ g1, dF _ g2, dT _ (lvLand t.1 (Or.inr (Or.inr (by omega)))), hz, r2 hc, mBI_s]
          rfl
theorem t_amends (D : Nat) (t : tL σ l) (x y z : Int32) : chg (D + 12) n_E_amends n_M_amends [.ref 0, .int x, .int y, .int z] [.ref 200, .int x, .int y, .int z] σ := by
  have h1 := lvP t.1
  have h2 := lvY t.1
  have h4 := lvLn t.1
  have eM : ∀ τ : mS, lM (τ.1 201) l → Cc (D + 12) n_M_amends [.ref 200, .int x, .int y, .int z] τ = (bif mIn x (lP l) && mIn y (lP l) && !(decide (x = y)) then (bif (decide (0 < lLn l) && mIn z (lY l)) then (mBI (Cc (D + 11) n_M_keepAct [.ref 200, .int 0, .int x, .int y, .int z] τ) fun r8 τ7 => (some (.int r8, τ7))) else some (.int (-1000), τ)) else some (.int (-1000), τ)) := by
    intro τ hM
    rw [c_M_amends, r_areTwo _ _ _ τ (lM_P hM) (by omega), mBI_s, bI_0, r_isYear _ _ τ (lM_Ln hM) (by omega) (lM_Y hM) (by omega), mBI_s, bI_0]
    cases (mIn x (lP l) && mIn y (lP l) && !(decide (x = y))) <;> cases (decide (0 < lLn l) && mIn z (lY l)) <;> rfl
  obtain ⟨v, σ', τ, l', s0, e1, u, t', m1, r1, r2⟩ := t_act D t x y z (n := 0) ⟨by decide, by decide⟩
  cases hc : (mIn x (lP l) && mIn y (lP l) && !(decide (x = y)) && mIn z (lY l)) with
  | false =>
    obtain ⟨rfl, rfl, rfl⟩ := r1 hc
    refine chg_n t (v := -1000) (by rw [c_E_amends, e1, mBI_s]) ?_
    rw [eM _ t.2.2.2]
    cases hA : (mIn x (lP l) && mIn y (lP l) && !(decide (x = y))) with
    | false => rfl
    | true =>
      rw [hA, Bool.true_and] at hc
      rw [hc, Bool.and_false]
      rfl
  | true =>
    refine ⟨v, σ', τ, l', s0, by rw [c_E_amends, e1, mBI_s], ?_, u, t'⟩
    rw [eM σ' (by rw [m1]; exact t.2.2.2)]
    have hc' := hc
    rw [Bool.and_eq_true] at hc'
    obtain ⟨ha, hz⟩ := hc'
    obtain ⟨k, hk, -⟩ := mIn_of hz
    rw [ha, cT, dT _ (lvLand t.1 (Or.inr (Or.inr (by omega)))), hz, r2 hc, mBI_s]
    rfl

