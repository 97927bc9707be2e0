/-! ===== the two worlds: what is made, with the reference and without ===== -/
theorem adr_t (h0 b fa : Nat) (adK : Nat → Nat) (i : Nat) (hi : i < 10) : adr0 h0 b fa adK (310 + i) = adK i := by
  match i, hi with
  | 0, _ => rfl
  | 1, _ => rfl
  | 2, _ => rfl
  | 3, _ => rfl
  | 4, _ => rfl
  | 5, _ => rfl
  | 6, _ => rfl
  | 7, _ => rfl
  | 8, _ => rfl
  | 9, _ => rfl
  | i + 10, h => omega
theorem w1_ok : mHW w1 ids1 := by
  have at' : ∀ i, i < 320 → _ := fun i hi => List.all_eq_true.mp w1_mem i (List.mem_range.mpr hi)
  refine ⟨fun i h => ?_, fun a h h5 h3 => ?_, fun a h h3 => ?_, fun a b i ha hb => va_nd_inj ids1 ids1_nd a b i ha hb, fun σ τ a h => ?_, fun σ => rfl, fun σ => rfl, fun a => ?_, trivial⟩
  · have q := (andT (at' i (wK1_lt h))).1
    rw [show Nat.beq (wK1 i) 0 = false from nbeq h, Bool.false_or] at q
    obtain ⟨q1, q2⟩ := andT q
    exact ⟨List.contains_iff_mem.mp q1, beqT (andT q2).1, bltT (andT q2).2⟩
  · have q := (andT (andT (at' a (wA1_lt h))).2).1
    rw [show Nat.beq (wA1 a) 0 = false from nbeq h, show Nat.ble (wA1 a) 5 = true from Nat.ble_eq.mpr h5, show Nat.blt a 300 = true from Nat.blt_eq.mpr h3] at q
    obtain ⟨q1, q2⟩ := andT q
    exact ⟨List.contains_iff_mem.mp q1, bltT q2⟩
  · have q := (andT (andT (andT (at' a (wA1_lt h))).2).2).1
    rw [show Nat.beq (wA1 a) 0 = false from nbeq h, show Nat.blt a 300 = false by cases hb : Nat.blt a 300 with | false => rfl | true => exact absurd (bltT hb) h3, Bool.false_or, Bool.false_or, Bool.or_eq_true] at q
    rcases q with q | q
    · exact Or.inl (beqT q)
    · obtain ⟨q1, q2⟩ := andT q
      rw [Bool.or_eq_true] at q2
      exact Or.inr ⟨beqT q1, q2.elim (fun h => Or.inl (beqT h)) (fun h => Or.inr (beqT h))⟩
  · show wAn σ a = wAn τ a
    unfold wAn
    rw [h]
  · by_cases h : wA1 a = 0
    · show wA1 a ≤ 6
      omega
    · exact Nat.le_of_ble_eq_true (andT (andT (andT (at' a (wA1_lt h))).2).2).2
theorem ad_lt {i : Nat} (h : i ∈ ids0) : i < 299 := bltT (List.all_eq_true.mp ids0_lt i h)
theorem ad_1 {i : Nat} (h : i ∈ ids1) : i ∈ ids0 := List.contains_iff_mem.mp (List.all_eq_true.mp ids1_in i h)
theorem ad_at (h0 b fa : Nat) (adK : Nat → Nat) {i : Nat} (h : i ∈ ids0) : adr0 h0 b fa adK i = h0 + off0 i := by
  unfold adr0
  rw [show Nat.blt i 299 = true from Nat.blt_eq.mpr (ad_lt h), cond_true]
theorem ad_inj (h0 b fa : Nat) (adK : Nat → Nat) {i j : Nat} (hi : i ∈ ids0) (hj : j ∈ ids0) (e : adr0 h0 b fa adK i = adr0 h0 b fa adK j) : i = j := by
  rw [ad_at _ _ _ _ hi, ad_at _ _ _ _ hj] at e
  have q := List.all_eq_true.mp (List.all_eq_true.mp off0_inj i hi) j hj
  rw [show off0 i = off0 j by omega, show Nat.beq (off0 j) (off0 j) = true from Nat.beq_eq.mpr rfl] at q
  simp only [Bool.not_true, Bool.false_or] at q
  exact beqT q
theorem ad_D {w : mT} {ft : Nat → Nat → Nat} {nf : Nat → Nat} {cA : Nat → ClassId} (ids : List Nat) (hs : ∀ i ∈ ids, i ∈ ids0) (hn : va_nd ids = true) (h0 b fa : Nat) (adK : Nat → Nat) (τ : mS) {A : Nat → Prop} (hA : ∀ i ∈ ids, A (adr0 h0 b fa adK i)) : va_D A (mWl w ft nf ids cA (adr0 h0 b fa adK) τ) := by
  have key : ∀ (k : Nat) (q : Nat × va_E), (mWl w ft nf ids cA (adr0 h0 b fa adK) τ)[k]? = some q → ∃ i, ids[k]? = some i ∧ q.1 = adr0 h0 b fa adK i := by
    intro k q hk
    unfold mWl at hk
    rw [List.getElem?_map] at hk
    cases hj : ids[k]? with
    | none => rw [hj] at hk; cases hk
    | some j =>
      rw [hj] at hk
      cases hk
      exact ⟨j, rfl, rfl⟩
  refine ⟨fun i j p q hi hj e => ?_, fun k q hk => ?_⟩
  · obtain ⟨x, hx, ex⟩ := key i p hi
    obtain ⟨y, hy, ey⟩ := key j q hj
    have hxy : x = y := ad_inj h0 b fa adK (hs x (List.mem_of_getElem? hx)) (hs y (List.mem_of_getElem? hy)) (by rw [← ex, ← ey]; exact e)
    rw [← hxy] at hy
    exact va_nd_inj ids hn i j x hx hy
  · obtain ⟨x, hx, ex⟩ := key k q hk
    rw [ex]
    exact hA x (List.mem_of_getElem? hx)
section VV
variable {D : va_G} {cA : Nat → ClassId} {h0 b fa : Nat} {adK adV : Nat → Nat}
theorem v1_D : ∀ τ, va_D (vA (v1 D cA h0 b fa adK)) (vW (v1 D cA h0 b fa adK) τ) := fun τ => ad_D ids1 (fun i h => ad_1 h) ids1_nd h0 b fa adK τ (fun i h => ⟨i, h, rfl⟩)
theorem v0_D : ∀ τ, va_D (vA (v0 D cA h0 b fa adK)) (vW (v0 D cA h0 b fa adK) τ) := fun τ => ad_D ids0 (fun i h => h) ids0_nd h0 b fa adK τ (fun i h => ⟨i, h, rfl⟩)
theorem v1_A {q : Nat} (h : vA (v1 D cA h0 b fa adK) q) : h0 ≤ q := by
  obtain ⟨i, hi, e⟩ := h
  have e : adr0 h0 b fa adK i = q := e
  rw [ad_at _ _ _ _ (ad_1 hi)] at e
  omega
theorem v0_A {q : Nat} (h : vA (v0 D cA h0 b fa adK) q) : h0 ≤ q := by
  obtain ⟨i, hi, e⟩ := h
  have e : adr0 h0 b fa adK i = q := e
  rw [ad_at _ _ _ _ hi] at e
  omega
theorem v1_0 : vA (v1 D cA h0 b fa adK) h0 := ⟨0, (show 0 ∈ ids1 by decide), rfl⟩
theorem v1_T : vTx (v1 D cA h0 b fa adK) adK := by
  refine ⟨⟨fun a h => ?_, rfl, rfl⟩, fun i hi => ?_⟩
  · have h : wA1 a = 6 := h
    unfold wA1 at h
    cases hb : (Nat.blt a 200 || Nat.ble 299 a) with
    | true => rw [hb] at h; exact h
    | false => rw [hb] at h; cases h
  · exact adr_t h0 b fa adK i hi
theorem v0_T : vTx (v0 D cA h0 b fa adK) adK := ⟨⟨fun a h => h, rfl, rfl⟩, fun i hi => adr_t h0 b fa adK i hi⟩
/-- any world, by its objects -/
theorem v_P {w : mT} {ft : Nat → Nat → Nat} {nf : Nat → Nat} {ids : List Nat} {adr : Nat → Nat} {σ : mS} {H : Heap} (h : ∀ i ∈ ids, va_at D vwCl (adr i, mEl w ft nf cA adr σ i) H) : va_P D vwCl (mWl w ft nf ids cA adr σ) H := by
  intro k q hk
  unfold mWl at hk
  rw [List.getElem?_map] at hk
  cases hj : ids[k]? with
  | none => rw [hj] at hk; cases hk
  | some j =>
    rw [hj] at hk
    cases hk
    exact h j (List.mem_of_getElem? hj)
/-- a run of a method of the first world is its contract -/
theorem v1_met {l : Launch} {d m : Nat} {a : List Value} {τ : mS} {q : Value × mS} (hpl : plainName (μ0.2.2.2.2 m).cls = true) (hcls : μ0.1 m = (μ0.2.2.2.2 m).cls) (hcat : mCat a ≤ μ0.2.2.1 m) (h : Cy (d + 1) m (mLoc (μ0.2.2.1 m) a) τ = some q) : mMt (v1 D cA h0 b fa adK) l GW0 μ0 (Z0 adK adV) d m a τ q := by
  rw [Cy_s, Xy_eq] at h
  obtain ⟨n, hn⟩ := mX_iff.mp h
  exact mMeet hpl hcls hcat (fun f hl hC hZ hR => mSound (l := l) w1_ok v1_D GW0_good Z0_nw (Z0_ok adK adV) (Z0_so v1_T) (Z0_sl v1_T) tb0_ok n d m 0 _ [] τ q hn (mLoc_len _ _) f hl hC hZ hR)
end VV

