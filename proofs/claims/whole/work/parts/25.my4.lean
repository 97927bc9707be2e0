/-! ===== bounds; the reference's years whole ===== -/
theorem vMx_toInt (a b : Int32) : (vMx a b).toInt = max a.toInt b.toInt := by
  unfold vMx
  by_cases h : a < b
  · rw [if_pos h]
    have := Int32.lt_iff_toInt_lt.mp h
    omega
  · rw [if_neg h]
    have := mt Int32.lt_iff_toInt_lt.mpr h
    omega
theorem sub_toInt {a b : Int32} (h1 : -1000000 ≤ a.toInt) (h2 : a.toInt ≤ 1000000) (h3 : -1000000 ≤ b.toInt) (h4 : b.toInt ≤ 1000000) : (a - b).toInt = a.toInt - b.toInt := by
  rw [Int32.toInt_sub]
  exact Int.bmod_eq_of_le (by omega) (by omega)
theorem add_toInt {a b : Int32} (h1 : -1000000 ≤ a.toInt) (h2 : a.toInt ≤ 1000000) (h3 : -1000000 ≤ b.toInt) (h4 : b.toInt ≤ 1000000) : (a + b).toInt = a.toInt + b.toInt := by
  rw [Int32.toInt_add]
  exact Int.bmod_eq_of_le (by omega) (by omega)
theorem t60 : (-60 : Int32).toInt = -60 := by decide
theorem t1 : (1 : Int32).toInt = 1 := by decide
theorem ddS_bw {P y c : Nat} {v : Int32} {x : Dd} (hx : ddOK P x) (h : bw (-60) v 60) : bw (-60) (ddS y c v x) 60 := by
  unfold ddS
  have h1 := h.1
  have h2 := h.2
  have h3 := hx.2.2.2.1.1
  have h4 := hx.2.2.2.1.2
  split
  · split
    · refine ⟨?_, ?_⟩ <;> rw [vMx_toInt, Int32.toInt_zero] <;> omega
    · refine ⟨?_, ?_⟩ <;> rw [vMx_toInt, sub_toInt (by omega) (by omega) (by omega) (by omega), t60] <;> omega
  · exact h
theorem ddL_bw {P y c : Nat} {l : List Dd} (out : Option Nat) (hl : ∀ x ∈ l, ddOK P x) {v : Int32} (h : bw (-60) v 60) : bw (-60) (ddL y c l out v) 60 := by
  unfold ddL
  refine mF_inv (fun _ v => bw (-60) v 60) _ l.length v h (fun k b hk hb => ?_) l.length (Nat.le_refl _)
  split
  · exact hb
  · have e : l[k]? = some l[k] := List.getElem?_eq_getElem hk
    rw [e]
    exact ddS_bw (hl _ (List.mem_of_getElem? e)) hb
theorem div2_toInt {v : Int32} (h : bw (-60) v 60) : (v / 2).toInt = v.toInt.tdiv 2 := by
  have h1 := h.1
  have h2 := h.2
  rw [Int32.toInt_div, show (2 : Int32).toInt = 2 by decide]
  have : -60 ≤ v.toInt.tdiv 2 ∧ v.toInt.tdiv 2 ≤ 60 := by
    rcases Int.le_total 0 v.toInt with q | q
    · rw [Int.tdiv_eq_ediv_of_nonneg q]; omega
    · have e : v.toInt.tdiv 2 = -((-v.toInt).tdiv 2) := by rw [Int.neg_tdiv, Int.neg_neg]
      rw [e, Int.tdiv_eq_ediv_of_nonneg (by omega)]
      omega
  exact Int.bmod_eq_of_le (by omega) (by omega)
theorem fdS_bw {law : Int32} {t : Bool} {v : Int32} (h : bw (-60) v 60) : bw (-60) (fdS law t v) 60 := by
  have h1 := h.1
  have h2 := h.2
  have one : ∀ w : Int32, bw (-60) w 60 → bw (-60) (if t = true ∧ w < 0 then w + 1 else w) 60 := by
    intro w hw
    have w1 := hw.1
    have w2 := hw.2
    split
    · rename_i q
      have := Int32.lt_iff_toInt_lt.mp q.2
      rw [Int32.toInt_zero] at this
      refine ⟨?_, ?_⟩ <;> rw [add_toInt (by omega) (by omega) (by decide) (by decide), t1] <;> omega
    · exact hw
  unfold fdS
  apply one
  split
  · split
    · exact h
    · split
      · rename_i q
        have := Int32.lt_iff_toInt_lt.mp q
        rw [Int32.toInt_zero] at this
        refine ⟨?_, ?_⟩ <;> rw [add_toInt (by omega) (by omega) (by decide) (by decide), t1] <;> omega
      · rename_i q
        have := mt Int32.lt_iff_toInt_lt.mpr q
        rw [Int32.toInt_zero] at this
        refine ⟨?_, ?_⟩ <;> rw [sub_toInt (by omega) (by omega) (by decide) (by decide), t1] <;> omega
  · split
    · have e := div2_toInt h
      have : -60 ≤ v.toInt.tdiv 2 ∧ v.toInt.tdiv 2 ≤ 60 := by
        rcases Int.le_total 0 v.toInt with q | q
        · rw [Int.tdiv_eq_ediv_of_nonneg q]; omega
        · have e : v.toInt.tdiv 2 = -((-v.toInt).tdiv 2) := by rw [Int.neg_tdiv, Int.neg_neg]
          rw [e, Int.tdiv_eq_ediv_of_nonneg (by omega)]
          omega
      exact ⟨by rw [e]; exact this.1, by rw [e]; exact this.2⟩
    · split
      · split
        · rename_i q
          have := Int32.lt_iff_toInt_lt.mp q
          rw [Int32.toInt_zero] at this
          refine ⟨?_, ?_⟩ <;> rw [add_toInt (by omega) (by omega) (by decide) (by decide), t1] <;> omega
        · exact h
      · exact h
theorem fS_bw {l : Lv} (hl : lvOK l) (out : Option Nat) (law : Int32) (th : Nat → Bool) (ex : Nat → Int32) (hex : ∀ c, bw 0 (ex c) 1000) (c : Nat) (hc : c < 36) : ∀ y, bw (-60) (fS (lFe l) (lWr l) (lAc l) out law th ex c y) 60 := by
  have hw : ∀ x ∈ lWr l, ddOK (lP l) x := fun x hx => (hl.2.2.2.2.2.2.2.2.2.2.2.2.2.1 x hx).1
  have ha : ∀ x ∈ lAc l, ddOK (lP l) x := fun x hx => (hl.2.2.2.2.2.2.2.2.2.2.2.2.2.2.1 x hx).1
  intro y
  induction y with
  | zero =>
    have h := ddL_bw (y := 0) (c := c) none ha (ddL_bw (y := 0) (c := c) out hw (hl.2.2.2.2.2.2.2.2.2.2.1 c hc))
    have h1 := h.1
    have h2 := h.2
    have h3 := (hex c).1
    have h4 := (hex c).2
    unfold fS
    refine ⟨?_, ?_⟩ <;> rw [vMx_toInt, sub_toInt (by omega) (by omega) (by omega) (by omega), t60] <;> omega
  | succ y ih =>
    unfold fS
    exact ddL_bw none ha (ddL_bw out hw (fdS_bw ih))
