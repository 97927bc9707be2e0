theorem law_all : chkM 164 = true := by
  refine List.all_eq_true.mpr (fun pc hpc => ?_)
  have hp : pc < 2647 := List.mem_range.mp hpc
  have key : ∀ r, (List.range 60).all (fun j => chkA 164 (60 * r + j)) = true → pc / 60 = r → chkA 164 pc = true := by
    intro r h hr
    have := List.all_eq_true.mp h (pc - 60 * r) (List.mem_range.mpr (by omega))
    rw [show 60 * r + (pc - 60 * r) = pc by omega] at this
    exact this
  have hb : pc / 60 < 45 := by omega
  match hq : pc / 60, hb with
  | 0, _ => exact key 0 law_0 hq
  | 1, _ => exact key 1 law_1 hq
  | 2, _ => exact key 2 law_2 hq
  | 3, _ => exact key 3 law_3 hq
  | 4, _ => exact key 4 law_4 hq
  | 5, _ => exact key 5 law_5 hq
  | 6, _ => exact key 6 law_6 hq
  | 7, _ => exact key 7 law_7 hq
  | 8, _ => exact key 8 law_8 hq
  | 9, _ => exact key 9 law_9 hq
  | 10, _ => exact key 10 law_10 hq
  | 11, _ => exact key 11 law_11 hq
  | 12, _ => exact key 12 law_12 hq
  | 13, _ => exact key 13 law_13 hq
  | 14, _ => exact key 14 law_14 hq
  | 15, _ => exact key 15 law_15 hq
  | 16, _ => exact key 16 law_16 hq
  | 17, _ => exact key 17 law_17 hq
  | 18, _ => exact key 18 law_18 hq
  | 19, _ => exact key 19 law_19 hq
  | 20, _ => exact key 20 law_20 hq
  | 21, _ => exact key 21 law_21 hq
  | 22, _ => exact key 22 law_22 hq
  | 23, _ => exact key 23 law_23 hq
  | 24, _ => exact key 24 law_24 hq
  | 25, _ => exact key 25 law_25 hq
  | 26, _ => exact key 26 law_26 hq
  | 27, _ => exact key 27 law_27 hq
  | 28, _ => exact key 28 law_28 hq
  | 29, _ => exact key 29 law_29 hq
  | 30, _ => exact key 30 law_30 hq
  | 31, _ => exact key 31 law_31 hq
  | 32, _ => exact key 32 law_32 hq
  | 33, _ => exact key 33 law_33 hq
  | 34, _ => exact key 34 law_34 hq
  | 35, _ => exact key 35 law_35 hq
  | 36, _ => exact key 36 law_36 hq
  | 37, _ => exact key 37 law_37 hq
  | 38, _ => exact key 38 law_38 hq
  | 39, _ => exact key 39 law_39 hq
  | 40, _ => exact key 40 law_40 hq
  | 41, _ => exact key 41 law_41 hq
  | 42, _ => exact key 42 law_42 hq
  | 43, _ => exact key 43 law_43 hq
  | 44, _ => exact key 44 law_44 hq
  | n + 45, h => omega
theorem chk_all (m : Nat) (hm : m < 323) : chkM m = true := by
  have key : ∀ b n, (List.range n).all (fun j => chkM (10 * b + j)) = true → m / 10 = b → m - 10 * b < n → chkM m = true := by
    intro b n h hb hn
    have := List.all_eq_true.mp h (m - 10 * b) (List.mem_range.mpr hn)
    rw [show 10 * b + (m - 10 * b) = m by omega] at this
    exact this
  have hb : m / 10 < 33 := by omega
  match hq : m / 10, hb with
  | 0, _ => exact key 0 10 chk_0 hq (by omega)
  | 1, _ => exact key 1 10 chk_1 hq (by omega)
  | 2, _ => exact key 2 10 chk_2 hq (by omega)
  | 3, _ => exact key 3 10 chk_3 hq (by omega)
  | 4, _ => exact key 4 10 chk_4 hq (by omega)
  | 5, _ => exact key 5 10 chk_5 hq (by omega)
  | 6, _ => exact key 6 10 chk_6 hq (by omega)
  | 7, _ => exact key 7 10 chk_7 hq (by omega)
  | 8, _ => exact key 8 10 chk_8 hq (by omega)
  | 9, _ => exact key 9 10 chk_9 hq (by omega)
  | 10, _ => exact key 10 10 chk_10 hq (by omega)
  | 11, _ => exact key 11 10 chk_11 hq (by omega)
  | 12, _ => exact key 12 10 chk_12 hq (by omega)
  | 13, _ => exact key 13 10 chk_13 hq (by omega)
  | 14, _ => exact key 14 10 chk_14 hq (by omega)
  | 15, _ => exact key 15 10 chk_15 hq (by omega)
  | 16, _ =>
    have hr : m - 160 < 10 := by omega
    have he : m = 160 + (m - 160) := by omega
    match hr2 : m - 160, hr with
    | 0, _ => rw [he, hr2]; exact chk_16_0
    | 1, _ => rw [he, hr2]; exact chk_16_1
    | 2, _ => rw [he, hr2]; exact chk_16_2
    | 3, _ => rw [he, hr2]; exact chk_16_3
    | 4, _ => rw [he, hr2]; exact law_all
    | 5, _ => rw [he, hr2]; exact chk_16_5
    | 6, _ => rw [he, hr2]; exact chk_16_6
    | 7, _ => rw [he, hr2]; exact chk_16_7
    | 8, _ => rw [he, hr2]; exact chk_16_8
    | 9, _ => rw [he, hr2]; exact chk_16_9
    | q + 10, h => omega
  | 17, _ => exact key 17 10 chk_17 hq (by omega)
  | 18, _ => exact key 18 10 chk_18 hq (by omega)
  | 19, _ => exact key 19 10 chk_19 hq (by omega)
  | 20, _ => exact key 20 10 chk_20 hq (by omega)
  | 21, _ => exact key 21 10 chk_21 hq (by omega)
  | 22, _ => exact key 22 10 chk_22 hq (by omega)
  | 23, _ => exact key 23 10 chk_23 hq (by omega)
  | 24, _ => exact key 24 10 chk_24 hq (by omega)
  | 25, _ => exact key 25 10 chk_25 hq (by omega)
  | 26, _ => exact key 26 10 chk_26 hq (by omega)
  | 27, _ => exact key 27 10 chk_27 hq (by omega)
  | 28, _ => exact key 28 10 chk_28 hq (by omega)
  | 29, _ => exact key 29 10 chk_29 hq (by omega)
  | 30, _ => exact key 30 10 chk_30 hq (by omega)
  | 31, _ => exact key 31 10 chk_31 hq (by omega)
  | 32, _ => exact key 32 3 chk_32 hq (by omega)
  | n + 33, h => omega
theorem tb0_len (m pc : Nat) (e : mE) (h : tb0 m pc = some e) : m < 323 ∧ pc < muE m := by
  have hp : pc < muE m := by
    cases hb : Nat.blt pc (muE m) with
    | true => exact bltT hb
    | false =>
      unfold tb0 at h
      rw [hb] at h
      cases h
  refine ⟨?_, hp⟩
  cases hb : Nat.blt m 323 with
  | true => exact bltT hb
  | false =>
    unfold muE at hp
    rw [hb] at hp
    exact absurd hp (Nat.not_lt_zero _)
theorem tb0_ok (m pc : Nat) (e : mE) (h : tb0 m pc = some e) : mOK GW0 NW0 vwCl nf0 ft0 μ0 SO0 SL0 m pc e := by
  obtain ⟨hm, hp⟩ := tb0_len m pc e h
  have h1 := List.all_eq_true.mp (chk_all m hm) pc (List.mem_range.mpr hp)
  unfold chkA at h1
  rw [h] at h1
  exact mChk_ok m pc e h1
theorem w0_mem : (List.range 320).all (fun i => (Nat.beq (wKind i) 0 || (ids0.contains i && (Nat.beq (wAk i) 0 && Nat.blt i 299))) && ((Nat.beq (wAk i) 0 || (!(Nat.ble (wAk i) 5) || (!(Nat.blt i 300) || (ids0.contains i && Nat.blt i 299)))) && ((Nat.beq (wAk i) 0 || (Nat.blt i 300 || (Nat.beq (wAk i) 6 || (Nat.beq (wAk i) 1 && (Nat.beq i 300 || Nat.beq i 301))))) && Nat.ble (wAk i) 6))) = true := by decide +kernel
theorem ids0_nd : va_nd ids0 = true := by decide +kernel
theorem wKind_lt {i : Nat} (h : wKind i ≠ 0) : i < 320 := by
  cases hb : Nat.blt i 320 with
  | true => exact bltT hb
  | false => unfold wKind at h; rw [hb] at h; exact absurd rfl h
theorem wAk_lt {i : Nat} (h : wAk i ≠ 0) : i < 320 := by
  cases hb : Nat.blt i 320 with
  | true => exact bltT hb
  | false => unfold wAk at h; rw [hb] at h; exact absurd rfl h
theorem nbeq {a b : Nat} (h : a ≠ b) : Nat.beq a b = false := by
  cases hb : Nat.beq a b with
  | false => rfl
  | true => exact absurd (beqT hb) h
theorem w0_ok : mHW w0 ids0 := by
  have at' : ∀ i, i < 320 → _ := fun i hi => List.all_eq_true.mp w0_mem i (List.mem_range.mpr hi)
  refine ⟨fun i h => ?_, fun a h h5 h3 => ?_, fun a h h3 => ?_, fun a b i ha hb => va_nd_inj ids0 ids0_nd a b i ha hb, fun σ τ a h => ?_, fun σ => rfl, fun σ => rfl, fun a => ?_, trivial⟩
  · have q := (andT (at' i (wKind_lt h))).1
    rw [show Nat.beq (wKind i) 0 = false from nbeq h, Bool.false_or] at q
    obtain ⟨q1, q2⟩ := andT q
    exact ⟨List.contains_iff_mem.mp q1, beqT (andT q2).1, bltT (andT q2).2⟩
  · have q := (andT (andT (at' a (wAk_lt h))).2).1
    rw [show Nat.beq (wAk a) 0 = false from nbeq h, show Nat.ble (wAk a) 5 = true from Nat.ble_eq.mpr h5, show Nat.blt a 300 = true from Nat.blt_eq.mpr h3] at q
    obtain ⟨q1, q2⟩ := andT q
    exact ⟨List.contains_iff_mem.mp q1, bltT q2⟩
  · have q := (andT (andT (andT (at' a (wAk_lt h))).2).2).1
    rw [show Nat.beq (wAk a) 0 = false from nbeq h, show Nat.blt a 300 = false by cases hb : Nat.blt a 300 with | false => rfl | true => exact absurd (bltT hb) h3, Bool.false_or, Bool.false_or, Bool.or_eq_true] at q
    rcases q with q | q
    · exact Or.inl (beqT q)
    · obtain ⟨q1, q2⟩ := andT q
      rw [Bool.or_eq_true] at q2
      exact Or.inr ⟨beqT q1, q2.elim (fun h => Or.inl (beqT h)) (fun h => Or.inr (beqT h))⟩
  · show wAn σ a = wAn τ a
    unfold wAn
    rw [h]
  · by_cases h : wAk a = 0
    · show wAk a ≤ 6
      omega
    · exact Nat.le_of_ble_eq_true (andT (andT (andT (at' a (wAk_lt h))).2).2).2
