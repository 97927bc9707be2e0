/-! ===== slots ===== -/
variable {σ τ : mS} {l : Lv}
/-- what slots leave -/
def slK (σ τ : mS) : Prop := ∀ a, a ≠ 13 → a ≠ 14 → a ≠ 240 → a ≠ 241 → τ.1 a = σ.1 a
def sch (D mE mM : Nat) (aE aM : List Value) (σ : mS) : Prop := ∃ v σ' τ sz wi, sc σ σ' ∧ Cc D mE aE σ = some (.int v, σ') ∧ Cc D mM aM σ' = some (.int v, τ) ∧ slK σ τ ∧ slT τ sz wi
theorem sch_n {D mE mM : Nat} {aE aM : List Value} {sz : Nat → Option Nat} {wi : Nat → Nat} (t : slT σ sz wi) {v : Int32} (h1 : Cc D mE aE σ = some (.int v, σ)) (h2 : Cc D mM aM σ = some (.int v, σ)) : sch D mE mM aE aM σ := ⟨v, σ, σ, sz, wi, sc_r σ, h1, h2, fun _ _ _ _ _ => rfl, t⟩
def updN (f : Nat → Nat) (k x : Nat) : Nat → Nat := fun j => if j = k then x else f j
theorem vL_at (f : Nat → Int64) (k : Nat) (x : Int64) : vp_updL f k x k = x := if_pos rfl
theorem vL_ne (f : Nat → Int64) {k j : Nat} (x : Int64) (h : j ≠ k) : vp_updL f k x j = f j := if_neg h
theorem fillJG (d b : Nat) (h6 : ∀ (k : Int32) (σ : mS), Xx d n_Ar_fillJ 6 [.ref b, .long 0, .null, .int k, .int (nI 60)] [] σ = (bif decide (nI 60 ≤ k) then (some (.null, σ)) else (bif mIn k 60 then Xx d n_Ar_fillJ 6 [.ref b, .long 0, .null, .int (k + 1), .int (nI 60)] [] (mUpJ σ b k.toNatClampNeg 0) else none))) (σ : mS) : ∃ τ, Xx d n_Ar_fillJ 6 [.ref b, .long 0, .null, .int 0, .int (nI 60)] [] σ = some (.null, τ) ∧ τ.1 = σ.1 ∧ (∀ i, i < 60 → τ.2 b i = 0) ∧ ∀ a, a ≠ b → τ.2 a = σ.2 a := by
  obtain ⟨τ, e, i1, i2, i3⟩ := mForI (fun k (_ : Unit) (t : mS) => Xx d n_Ar_fillJ 6 [.ref b, .long 0, .null, .int (nI k), .int (nI 60)] [] t) (fun k t => t.1 = σ.1 ∧ (∀ i, i < k → t.2 b i = 0) ∧ ∀ a, a ≠ b → t.2 a = σ.2 a) (fun _ a => a) 60 () σ ⟨rfl, fun i h => absurd h (by omega), fun _ _ => rfl⟩ (by
    intro k t hk hI
    refine ⟨mUpJ t b k 0, ?_, hI.1, fun i hi => ?_, fun a ha => ?_⟩
    · rw [h6, dle (by omega) (by omega), dF _ (by omega), cF, mIn_nI (by omega) (by omega), cT, nI_clamp (by omega), nI_1]
    · rw [mUpJ_sJ, sJ_at]
      by_cases g : i = k
      · rw [g, vL_at]
      · rw [vL_ne _ _ g]; exact hI.2.1 i (by omega)
    · rw [mUpJ_sJ, sJ_ne _ _ ha]; exact hI.2.2 a ha)
  refine ⟨τ, Eq.trans e ?_, i1, i2, i3⟩
  rw [h6, dT _ (Int32.le_refl _), cT]
theorem k_make (d : Nat) {s : Nat} (hs : s < 4) (w n : Int32) (σ : mS) : ∃ τ, Cc (d + 2) n_Sl_make [.ref 7, .int (nI s), .int w, .int n] σ = some (.null, sR (sR τ 13 (upd (σ.1 13) s w)) 14 (upd (σ.1 14) s n)) ∧ τ.1 = σ.1 ∧ (∀ i, i < 60 → τ.2 (9 + s) i = 0) ∧ ∀ a, a ≠ 9 + s → τ.2 a = σ.2 a := by
  have key : ∃ τ, Cc (d + 1) n_Ar_fillJ [.ref (9 + s), .long 0, .null, .null, .null] σ = some (.null, τ) ∧ τ.1 = σ.1 ∧ (∀ i, i < 60 → τ.2 (9 + s) i = 0) ∧ ∀ a, a ≠ 9 + s → τ.2 a = σ.2 a := by
    rcases (show s = 0 ∨ s = 1 ∨ s = 2 ∨ s = 3 by omega) with rfl | rfl | rfl | rfl
    · rw [c_Ar_fillJ_9]; exact fillJG d 9 (fun k σ => q_Ar_fillJ_9_6 d 0 k (nI 60) σ) σ
    · rw [c_Ar_fillJ_10]; exact fillJG d 10 (fun k σ => q_Ar_fillJ_10_6 d 0 k (nI 60) σ) σ
    · rw [c_Ar_fillJ_11]; exact fillJG d 11 (fun k σ => q_Ar_fillJ_11_6 d 0 k (nI 60) σ) σ
    · rw [c_Ar_fillJ_12]; exact fillJG d 12 (fun k σ => q_Ar_fillJ_12_6 d 0 k (nI 60) σ) σ
  obtain ⟨τ, e, h1, h2, h3⟩ := key
  refine ⟨τ, ?_, h1, h2, h3⟩
  have fin : mUpI (mUpI τ 13 s w) 14 s n = sR (sR τ 13 (upd (σ.1 13) s w)) 14 (upd (σ.1 14) s n) := by
    rw [mUpI_sR, mUpI_sR, sR_ne _ _ (by decide), h1]
  rw [← fin]
  rcases (show s = 0 ∨ s = 1 ∨ s = 2 ∨ s = 3 by omega) with rfl | rfl | rfl | rfl
  · refine (c_Sl_make_0 _ _ _ _).trans ?_
    rw [e, mBV_s]
  · refine (c_Sl_make_1 _ _ _ _).trans ?_
    rw [e, mBV_s]
  · refine (c_Sl_make_2 _ _ _ _).trans ?_
    rw [e, mBV_s]
  · refine (c_Sl_make_3 _ _ _ _).trans ?_
    rw [e, mBV_s]
theorem r_row52 (d : Nat) {s : Nat} (hs : s < 4) (v w : Value) (σ : mS) : ∃ τ, Xx d n_M_row 52 [.ref 200, .int (nI s), v, w, .int 0] [] σ = some (.int 0, τ) ∧ τ.1 = σ.1 ∧ (∀ i, i < 60 → τ.2 242 (60 * s + i) = 0) ∧ (∀ j, j < 60 * s ∨ 60 * s + 60 ≤ j → τ.2 242 j = σ.2 242 j) ∧ ∀ a, a ≠ 242 → τ.2 a = σ.2 a := by
  obtain ⟨⟨w', τ⟩, e, i1, i2, i3, i4⟩ := mForI (fun k (_ : Unit) (b : Value × mS) => Xx d n_M_row 52 [.ref 200, .int (nI s), v, b.1, .int (nI k)] [] b.2) (fun k b => b.2.1 = σ.1 ∧ (∀ i, i < k → b.2.2 242 (60 * s + i) = 0) ∧ (∀ j, j < 60 * s ∨ 60 * s + 60 ≤ j → b.2.2 242 j = σ.2 242 j) ∧ ∀ a, a ≠ 242 → b.2.2 a = σ.2 a) (fun _ a => a) 60 () (w, σ) ⟨rfl, fun i h => absurd h (by omega), fun _ _ => rfl, fun _ _ => rfl⟩ (by
    intro k b hk hI
    obtain ⟨j1, j2, j3, j4⟩ := hI
    refine ⟨(mKl b.1, mUpJ b.2 242 (60 * s + k) 0), ?_, j1, fun i hi => ?_, fun j hj => ?_, fun a ha => ?_⟩
    · rw [q_M_row_52, show decide ((60 : Int32) ≤ nI k) = false from decide_eq_false (nI_ge (b := 60) hk (by decide)), cF, show (60 : Int32) = nI 60 from rfl, nI_mul, nI_add, mIn_nI (by omega) (by omega), cT, nI_clamp (by omega), nI_1]
    · rw [mUpJ_sJ, sJ_at]
      by_cases g : i = k
      · rw [g, vL_at]
      · rw [vL_ne _ _ (by omega)]; exact j2 i (by omega)
    · rw [mUpJ_sJ, sJ_at, vL_ne _ _ (by omega)]; exact j3 j hj
    · rw [mUpJ_sJ, sJ_ne _ _ ha]; exact j4 a ha)
  refine ⟨τ, Eq.trans e ?_, i1, i2, i3, i4⟩
  rw [q_M_row_52, show decide ((60 : Int32) ≤ nI 60) = true by decide, cT]
theorem le60 (x : Int32) : decide (x ≤ 60) = decide (x.toInt ≤ 60) := decide_eq_decide.mpr Int32.le_iff_toInt_le
theorem ge0 (x : Int32) : decide ((0 : Int32) ≤ x) = decide (0 ≤ x.toInt) := decide_eq_decide.mpr Int32.le_iff_toInt_le
theorem two4 (x : Int32) (A B : mR) : (bif decide (x < 0) then A else (bif decide ((4 : Int32) ≤ x) then A else B)) = bif mIn x 4 then B else A := by
  rw [mIn_iff x 4 (by decide), show (4 : Int32) = nI 4 from rfl]
  cases decide (x < 0) <;> cases decide (nI 4 ≤ x) <;> rfl
theorem in_3 (d : Nat) (x : Int32) (σ : mS) : Cc (d + 1) n_M_in [.long x.toInt64, .null, .long 0, .null, .long 3, .null] σ = some (.int (bI (mIn x 4)), σ) := r_inI d x σ (n := 4) (by decide)
theorem t_row (D : Nat) {sz : Nat → Option Nat} {wi : Nat → Nat} (hsl : slT σ sz wi) (x y z : Int32) : sch (D + 12) n_E_row n_M_row [.ref 0, .int x, .int y, .int z] [.ref 200, .int x, .int y, .int z, .null] σ := by
  have eE : Cc (D + 12) n_E_row [.ref 0, .int x, .int y, .int z] σ = (bif mIn x 4 then (bif mIn y 4 then (bif decide (z.toInt ≤ 60) then (bif decide (0 ≤ z.toInt) then (mBV (Cc (D + 11) n_Sl_make [.ref 7, .int x, .int y, .int z] σ) fun τ3 => (some (.int 0, τ3))) else (some (.int (-3), σ))) else (some (.int (-2), σ))) else some (.int (-2), σ)) else some (.int (-2), σ)) := by
    rw [c_E_row, k_isSlot, mBI_s, bI_0, two4, le60, ge0]
    cases mIn x 4 <;> rfl
  have eM : ∀ τ : mS, Cc (D + 12) n_M_row [.ref 200, .int x, .int y, .int z, .null] τ = (bif mIn x 4 then (bif mIn y 4 then (bif decide (z.toInt ≤ 60) then (bif decide (0 ≤ z.toInt) then (bif mIn x 4 then (bif mIn x 4 then Xx (D + 11) n_M_row 52 [.ref 200, .int x, .int y, .int z, .int 0] [] (mUpI (mUpI τ 240 (x : Int32).toNatClampNeg z) 241 (x : Int32).toNatClampNeg y) else none) else none) else (some (.int (-3), τ))) else (some (.int (-2), τ))) else some (.int (-2), τ)) else some (.int (-2), τ)) := by
    intro τ
    rw [c_M_row, r_isSlot, mBI_s, bI_0, in_3, mBI_s, bI_0, le60, ge0]
    cases mIn x 4 <;> cases mIn y 4 <;> rfl
  cases hx : mIn x 4 with
  | false => exact sch_n hsl (v := -2) (by rw [eE, hx, cF]) (by rw [eM, hx, cF])
  | true =>
    cases hy : mIn y 4 with
    | false => exact sch_n hsl (v := -2) (by rw [eE, hx, hy, cT, cF]) (by rw [eM, hx, hy, cT, cF])
    | true =>
      by_cases g1 : z.toInt ≤ 60
      · by_cases g2 : 0 ≤ z.toInt
        · obtain ⟨s, hs, rfl⟩ := mIn_of hx
          obtain ⟨w, hw, rfl⟩ := mIn_of hy
          obtain ⟨n, rfl, hn, -⟩ := bw_nI (x := z) (b := 60) ⟨g2, g1⟩
          obtain ⟨σ1, e1, f1, f2, f3⟩ := k_make (D + 9) hs (nI w) (nI n) σ
          obtain ⟨τ2, e2, g3, g4, g5, g6⟩ := r_row52 (D + 11) hs (.int (nI w)) (.int (nI n)) (mUpI (mUpI (sR (sR σ1 13 (upd (σ.1 13) s (nI w))) 14 (upd (σ.1 14) s (nI n))) 240 s (nI n)) 241 s (nI w))
          have hn' : n ≤ 60 := by omega
          have base : (mUpI (mUpI (sR (sR σ1 13 (upd (σ.1 13) s (nI w))) 14 (upd (σ.1 14) s (nI n))) 240 s (nI n)) 241 s (nI w)).2 = σ1.2 := rfl
          have b13 : (mUpI (mUpI (sR (sR σ1 13 (upd (σ.1 13) s (nI w))) 14 (upd (σ.1 14) s (nI n))) 240 s (nI n)) 241 s (nI w)).1 13 = upd (σ.1 13) s (nI w) := by
            rw [mUpI_sR, mUpI_sR, sR_ne _ _ (by decide), sR_ne _ _ (by decide), sR_ne _ _ (by decide), sR_at]
          have b14 : (mUpI (mUpI (sR (sR σ1 13 (upd (σ.1 13) s (nI w))) 14 (upd (σ.1 14) s (nI n))) 240 s (nI n)) 241 s (nI w)).1 14 = upd (σ.1 14) s (nI n) := by
            rw [mUpI_sR, mUpI_sR, sR_ne _ _ (by decide), sR_ne _ _ (by decide), sR_at]
          have b240 : (mUpI (mUpI (sR (sR σ1 13 (upd (σ.1 13) s (nI w))) 14 (upd (σ.1 14) s (nI n))) 240 s (nI n)) 241 s (nI w)).1 240 = upd (σ.1 240) s (nI n) := by
            rw [mUpI_sR, mUpI_sR, sR_ne _ _ (by decide), sR_at, sR_ne _ _ (by decide), sR_ne _ _ (by decide), f1]
          have b241 : (mUpI (mUpI (sR (sR σ1 13 (upd (σ.1 13) s (nI w))) 14 (upd (σ.1 14) s (nI n))) 240 s (nI n)) 241 s (nI w)).1 241 = upd (σ.1 241) s (nI w) := by
            rw [mUpI_sR, mUpI_sR, sR_at, sR_ne _ _ (by decide), sR_ne _ _ (by decide), sR_ne _ _ (by decide), f1]
          refine ⟨0, sR (sR σ1 13 (upd (σ.1 13) s (nI w))) 14 (upd (σ.1 14) s (nI n)), τ2, updO sz s (some n), updN wi s w, ⟨by rw [sR_ne _ _ (by decide), sR_ne _ _ (by decide), f1], by rw [sR_ne _ _ (by decide), sR_ne _ _ (by decide), f1]⟩, by rw [eE, hx, hy, cT, cT, dT _ g1, dT _ g2, cT, cT, e1, mBV_s], by rw [eM, hx, hy, cT, cT, dT _ g1, dT _ g2, cT, cT, cT, cT, nI_clamp (by omega)]; exact e2, fun a a1 a2 a3 a4 => ?_, fun j hj => ?_, fun j hj i hi => ?_⟩
          · rw [g3, mUpI_sR, mUpI_sR, sR_ne _ _ a4, sR_ne _ _ a3, sR_ne _ _ a2, sR_ne _ _ a1, f1]
          · rw [g3, b13, b14, b240, b241]
            obtain ⟨c1, c2, c3, c4, c5, c6⟩ := hsl.1 j hj
            unfold updO updN
            by_cases e : j = s
            · rw [e, upd_at, upd_at, upd_at, upd_at, if_pos rfl, if_pos rfl]
              exact ⟨rfl, rfl, fun m hm => by cases hm; exact hn', rfl, rfl, hw⟩
            · rw [upd_ne _ _ e, upd_ne _ _ e, upd_ne _ _ e, upd_ne _ _ e, if_neg e, if_neg e]
              exact ⟨c1, c2, c3, c4, c5, c6⟩
          · rw [g6 (9 + j) (by omega), base]
            by_cases e : j = s
            · rw [e, g4 i hi, f2 i hi]
            · rw [g5 _ (by omega), base, f3 242 (by omega), f3 (9 + j) (by omega)]
              exact hsl.2 j hj i hi
        · exact sch_n hsl (v := -3) (by rw [eE, hx, hy, cT, cT, dT _ g1, cT, dF _ g2, cF]) (by rw [eM, hx, hy, cT, cT, dT _ g1, cT, dF _ g2, cF])
      · exact sch_n hsl (v := -2) (by rw [eE, hx, hy, cT, cT, dF _ g1, cF]) (by rw [eM, hx, hy, cT, cT, dF _ g1, cF])
/-! a number written -/
def clp (v : Int64) (w : Int32) : Int64 := (v <<< ((((64 : Int32) - ((8 : Int32) <<< (w &&& 31))) : Int32).toInt64 &&& 63)) >>> ((((64 : Int32) - ((8 : Int32) <<< (w &&& 31))) : Int32).toInt64 &&& 63)
theorem k_store (d : Nat) {s i : Nat} (hs : s < 4) (hi : i < 60) (v : Int64) (σ : mS) : Cc (d + 1) n_Sl_store [.ref 7, .int (nI s), .int (nI i), .long v, .null, .null] σ = some (.null, mUpJ σ (9 + s) i (clp v (σ.1 13 s))) := by
  rcases (show s = 0 ∨ s = 1 ∨ s = 2 ∨ s = 3 by omega) with rfl | rfl | rfl | rfl
  · refine (c_Sl_store_0 _ _ _ _).trans ?_
    rw [mIn_nI (by omega) (by omega), cT, nI_clamp (by omega)]
    rfl
  · refine (c_Sl_store_1 _ _ _ _).trans ?_
    rw [mIn_nI (by omega) (by omega), cT, nI_clamp (by omega)]
    rfl
  · refine (c_Sl_store_2 _ _ _ _).trans ?_
    rw [mIn_nI (by omega) (by omega), cT, nI_clamp (by omega)]
    rfl
  · refine (c_Sl_store_3 _ _ _ _).trans ?_
    rw [mIn_nI (by omega) (by omega), cT, nI_clamp (by omega)]
    rfl
theorem oI_nn {x : Option Nat} (hx : ∀ n, x = some n → n < 2 ^ 31) : decide ((0 : Int32) ≤ oI x) = x.isSome := by
  cases x with
  | none => rfl
  | some n => exact dT _ (Int32.not_lt.mp (nI_pos (hx n rfl)))
theorem oI_nm {x : Option Nat} (hx : ∀ n, x = some n → n < 2 ^ 31) : decide (¬ oI x = -1) = x.isSome := by
  cases x with
  | none => rfl
  | some n => exact nI_m1n (hx n rfl)
theorem t_write (D : Nat) {sz : Nat → Option Nat} {wi : Nat → Nat} (hsl : slT σ sz wi) (x y : Int32) (v : Int64) : sch (D + 12) n_E_write n_M_write [.ref 0, .int x, .int y, .long v, .null] [.ref 200, .int x, .int y, .long v, .null] σ := by
  cases hx : mIn x 4 with
  | false => exact sch_n hsl (v := -2) (by rw [c_E_write, k_isSlot, mBI_s, hx]; rfl) (by rw [c_M_write, r_isSlot, mBI_s, hx]; rfl)
  | true =>
    obtain ⟨s, hs, rfl⟩ := mIn_of hx
    obtain ⟨a1, a2, a3, a4, a5, a6⟩ := hsl.1 s hs
    have e1 : Cc (D + 12) n_E_write [.ref 0, .int (nI s), .int y, .long v, .null] σ = (bif (sz s).isSome then (bif decide (y < 0) then some (.int (-7), σ) else (bif decide (y < oI (sz s)) then (mBV (Cc (D + 11) n_Sl_store [.ref 7, .int (nI s), .int y, .long v, .null, .null] σ) fun τ3 => (some (.int 0, τ3))) else some (.int (-7), σ))) else some (.int (-6), σ)) := by
      rw [c_E_write, k_isSlot, mBI_s, hx, bI_n, cT, cT, cT, nI_clamp (by omega), a1, oI_nn (fun n h => by have := a3 n h; omega)]
    have e2 : ∀ τ : mS, τ.1 = σ.1 → Cc (D + 12) n_M_write [.ref 200, .int (nI s), .int y, .long v, .null] τ = (bif (sz s).isSome then (mBI (Cc (D + 11) n_M_in [.long (y.toInt64), .null, .long 0, .null, .long (((oI (sz s) - (1 : Int32)) : Int32).toInt64), .null] τ) fun r4 τ3 => (bif decide (¬ (r4 : Int32) = 0) then (mBL (Cc (D + 11) n_M_clipped [.long v, .null, .int (τ3.1 241 s), .null] τ3) fun r6 τ5 => (bif mIn (((60 : Int32) * nI s) + y) 240 then (some (.int 0, (mUpJ τ5 242 ((((60 : Int32) * nI s) + y) : Int32).toNatClampNeg r6))) else none)) else (some (.int (-7), τ3)))) else some (.int (-6), τ)) := by
      intro τ h
      rw [c_M_write, r_isSlot, mBI_s, hx, bI_n, cT, cT, nI_clamp (by omega), h, a2, oI_nm (fun n h => by have := a3 n h; omega), cT]
      cases sz s <;> rfl
    cases hz : sz s with
    | none => exact sch_n hsl (v := -6) (by rw [e1, hz]; rfl) (by rw [e2 σ rfl, hz]; rfl)
    | some n =>
      have hn := a3 n hz
      rw [hz] at e1 e2
      have e3 : (bif decide (y < 0) then (some (Value.int (-7), σ) : mR) else (bif decide (y < oI (some n)) then (mBV (Cc (D + 11) n_Sl_store [.ref 7, .int (nI s), .int y, .long v, .null, .null] σ) fun τ3 => (some (.int 0, τ3))) else some (.int (-7), σ))) = bif mIn y n then (mBV (Cc (D + 11) n_Sl_store [.ref 7, .int (nI s), .int y, .long v, .null, .null] σ) fun τ3 => (some (.int 0, τ3))) else some (.int (-7), σ) := by
        have : decide (y < oI (some n)) = !(decide (nI n ≤ y)) := by
          rw [← decide_not]
          exact decide_eq_decide.mpr Int32.not_le.symm
        rw [this, mIn_iff y n (by omega)]
        cases decide (y < 0) <;> cases decide (nI n ≤ y) <;> rfl
      cases hy : mIn y n with
      | false => exact sch_n hsl (v := -7) (by rw [e1, Option.isSome_some, cT, e3, hy, cF]) (by rw [e2 σ rfl, Option.isSome_some, cT, oI_s, r_inI _ y σ (by omega), mBI_s, hy]; rfl)
      | true =>
        obtain ⟨i, hi, rfl⟩ := mIn_of hy
        refine ⟨0, mUpJ σ (9 + s) i (clp v (σ.1 13 s)), mUpJ (mUpJ σ (9 + s) i (clp v (σ.1 13 s))) 242 (60 * s + i) (clp v (σ.1 241 s)), sz, wi, ⟨rfl, rfl⟩, by rw [e1, Option.isSome_some, cT, e3, hy, cT, k_store _ hs (by omega), mBV_s], ?_, fun _ _ _ _ _ => rfl, fun j hj => ?_, fun j hj k hk => ?_⟩
        · rw [e2 (mUpJ σ (9 + s) i (clp v (σ.1 13 s))) rfl, Option.isSome_some, cT, oI_s, r_inI _ (nI i) _ (by omega), mBI_s, hy, bI_n, cT, c_M_clipped, mBL_s, show (60 : Int32) = nI 60 from rfl, nI_mul, nI_add, mIn_nI (by omega) (by omega), cT, nI_clamp (by omega)]
          rfl
        · exact hsl.1 j hj
        · rw [a4, a5, mUpJ_sJ, sJ_at, sJ_ne _ _ (by omega), mUpJ_sJ, sJ_ne _ _ (by omega)]
          by_cases e : j = s
          · rw [e, sJ_at]
            by_cases e2 : k = i
            · rw [e2, vL_at, vL_at]
            · rw [vL_ne _ _ (by omega), vL_ne _ _ e2]; exact hsl.2 s hs k hk
          · rw [sJ_ne _ _ (by omega), vL_ne _ _ (by omega)]; exact hsl.2 j hj k hk

theorem k_copyJ (d : Nat) {s t a b n : Nat} (hs : s < 4) (ht : t < 4) (ha : a + n ≤ 60) (hb : b + n ≤ 60) (σ : mS) : Cc (d + 1) n_Sl_copy [.ref 7, .int (nI s), .int (nI a), .int (nI t), .int (nI b), .int (nI n)] σ = some (.null, mCpJ σ (9 + s) (9 + t) a b n) := by
  rcases (show s = 0 ∨ s = 1 ∨ s = 2 ∨ s = 3 by omega) with rfl | rfl | rfl | rfl <;> rcases (show t = 0 ∨ t = 1 ∨ t = 2 ∨ t = 3 by omega) with rfl | rfl | rfl | rfl
  · refine (c_Sl_copy_0_0 _ _ _ _ _).trans ?_
    rw [mFit_ok (la := 60) (lb := 60) rfl rfl ha hb (by decide) (by decide), cT, nI_clamp (by omega), nI_clamp (by omega), nI_clamp (by omega)]
  · refine (c_Sl_copy_0_1 _ _ _ _ _).trans ?_
    rw [mFit_ok (la := 60) (lb := 60) rfl rfl ha hb (by decide) (by decide), cT, nI_clamp (by omega), nI_clamp (by omega), nI_clamp (by omega)]
  · refine (c_Sl_copy_0_2 _ _ _ _ _).trans ?_
    rw [mFit_ok (la := 60) (lb := 60) rfl rfl ha hb (by decide) (by decide), cT, nI_clamp (by omega), nI_clamp (by omega), nI_clamp (by omega)]
  · refine (c_Sl_copy_0_3 _ _ _ _ _).trans ?_
    rw [mFit_ok (la := 60) (lb := 60) rfl rfl ha hb (by decide) (by decide), cT, nI_clamp (by omega), nI_clamp (by omega), nI_clamp (by omega)]
  · refine (c_Sl_copy_1_0 _ _ _ _ _).trans ?_
    rw [mFit_ok (la := 60) (lb := 60) rfl rfl ha hb (by decide) (by decide), cT, nI_clamp (by omega), nI_clamp (by omega), nI_clamp (by omega)]
  · refine (c_Sl_copy_1_1 _ _ _ _ _).trans ?_
    rw [mFit_ok (la := 60) (lb := 60) rfl rfl ha hb (by decide) (by decide), cT, nI_clamp (by omega), nI_clamp (by omega), nI_clamp (by omega)]
  · refine (c_Sl_copy_1_2 _ _ _ _ _).trans ?_
    rw [mFit_ok (la := 60) (lb := 60) rfl rfl ha hb (by decide) (by decide), cT, nI_clamp (by omega), nI_clamp (by omega), nI_clamp (by omega)]
  · refine (c_Sl_copy_1_3 _ _ _ _ _).trans ?_
    rw [mFit_ok (la := 60) (lb := 60) rfl rfl ha hb (by decide) (by decide), cT, nI_clamp (by omega), nI_clamp (by omega), nI_clamp (by omega)]
  · refine (c_Sl_copy_2_0 _ _ _ _ _).trans ?_
    rw [mFit_ok (la := 60) (lb := 60) rfl rfl ha hb (by decide) (by decide), cT, nI_clamp (by omega), nI_clamp (by omega), nI_clamp (by omega)]
  · refine (c_Sl_copy_2_1 _ _ _ _ _).trans ?_
    rw [mFit_ok (la := 60) (lb := 60) rfl rfl ha hb (by decide) (by decide), cT, nI_clamp (by omega), nI_clamp (by omega), nI_clamp (by omega)]
  · refine (c_Sl_copy_2_2 _ _ _ _ _).trans ?_
    rw [mFit_ok (la := 60) (lb := 60) rfl rfl ha hb (by decide) (by decide), cT, nI_clamp (by omega), nI_clamp (by omega), nI_clamp (by omega)]
  · refine (c_Sl_copy_2_3 _ _ _ _ _).trans ?_
    rw [mFit_ok (la := 60) (lb := 60) rfl rfl ha hb (by decide) (by decide), cT, nI_clamp (by omega), nI_clamp (by omega), nI_clamp (by omega)]
  · refine (c_Sl_copy_3_0 _ _ _ _ _).trans ?_
    rw [mFit_ok (la := 60) (lb := 60) rfl rfl ha hb (by decide) (by decide), cT, nI_clamp (by omega), nI_clamp (by omega), nI_clamp (by omega)]
  · refine (c_Sl_copy_3_1 _ _ _ _ _).trans ?_
    rw [mFit_ok (la := 60) (lb := 60) rfl rfl ha hb (by decide) (by decide), cT, nI_clamp (by omega), nI_clamp (by omega), nI_clamp (by omega)]
  · refine (c_Sl_copy_3_2 _ _ _ _ _).trans ?_
    rw [mFit_ok (la := 60) (lb := 60) rfl rfl ha hb (by decide) (by decide), cT, nI_clamp (by omega), nI_clamp (by omega), nI_clamp (by omega)]
  · refine (c_Sl_copy_3_3 _ _ _ _ _).trans ?_
    rw [mFit_ok (la := 60) (lb := 60) rfl rfl ha hb (by decide) (by decide), cT, nI_clamp (by omega), nI_clamp (by omega), nI_clamp (by omega)]

theorem nI_nn {x : Int32} (h : ¬ x < 0) : ∃ n : Nat, x = nI n ∧ n < 2 ^ 31 := by
  obtain ⟨j, h1, rfl⟩ := nI_of h
  exact ⟨j, rfl, h1⟩
theorem rg_le {a n m : Nat} (ha : a < 2 ^ 31) (hn : n < 2 ^ 31) (hm : m < 2 ^ 31) : decide ((0 : Int32) < lg_cmp ((nI a).toInt64 + (nI n).toInt64) (nI m).toInt64) = !(decide (a + n ≤ m)) := by
  rw [lg_gt, ← decide_not]
  apply decide_eq_decide.mpr
  rw [Int64.lt_iff_toInt_lt, Int64.toInt_add, Int32.toInt_toInt64, Int32.toInt_toInt64, Int32.toInt_toInt64, nI_toInt ha, nI_toInt hn, nI_toInt hm, Int.bmod_eq_of_le (by omega) (by omega)]
  omega
theorem lg_le0 (x y : Int64) : decide (lg_cmp x y ≤ 0) = !(decide ((0 : Int32) < lg_cmp x y)) := by
  rw [← decide_not]
  exact decide_eq_decide.mpr Int32.not_lt.symm
theorem r_paste113 (d : Nat) {s a n : Nat} (hs : s < 4) (ha : a + n ≤ 60) (x3 x4 : Int32) (σ : mS) : ∃ τ, Xx d n_M_paste 113 [.ref 200, .int (nI s), .int (nI a), .int x3, .int x4, .int (nI n), .int 0] [] σ = Xx d n_M_paste 150 [.ref 200, .int (nI s), .int (nI a), .int x3, .int x4, .int (nI n), .int 0] [] τ ∧ τ.1 = σ.1 ∧ (∀ i, i < n → τ.2 243 i = σ.2 242 (60 * s + a + i)) ∧ ∀ b, b ≠ 243 → τ.2 b = σ.2 b := by
  obtain ⟨τ, e, i1, i2, i3⟩ := mForI (fun k (_ : Unit) (t : mS) => Xx d n_M_paste 113 [.ref 200, .int (nI s), .int (nI a), .int x3, .int x4, .int (nI n), .int (nI k)] [] t) (fun k t => t.1 = σ.1 ∧ (∀ i, i < k → t.2 243 i = σ.2 242 (60 * s + a + i)) ∧ ∀ b, b ≠ 243 → t.2 b = σ.2 b) (fun _ a => a) n () σ ⟨rfl, fun i h => absurd h (by omega), fun _ _ => rfl⟩ (by
    intro k t hk hI
    refine ⟨mUpJ t 243 k (t.2 242 (60 * s + a + k)), ?_, hI.1, fun i hi => ?_, fun b hb => ?_⟩
    · rw [q_M_paste_113, dle (by omega) (by omega), dF _ (by omega), cF, show (60 : Int32) = nI 60 from rfl, nI_mul, nI_add, nI_add, mIn_nI (by omega) (by omega), cT, mIn_nI (by omega) (by omega), cT, nI_clamp (by omega), nI_clamp (by omega), nI_1]
    · rw [mUpJ_sJ, sJ_at]
      by_cases g : i = k
      · rw [g, vL_at, hI.2.2 242 (by decide)]
      · rw [vL_ne _ _ g]; exact hI.2.1 i (by omega)
    · rw [mUpJ_sJ, sJ_ne _ _ hb]; exact hI.2.2 b hb)
  refine ⟨τ, Eq.trans e ?_, i1, i2, i3⟩
  rw [q_M_paste_113, dT _ (Int32.le_refl _), cT]
theorem r_paste150 (d : Nat) {t b n : Nat} (ht : t < 4) (hb : b + n ≤ 60) (v1 v2 : Value) (σ : mS) : ∃ τ, Xx d n_M_paste 150 [.ref 200, v1, v2, .int (nI t), .int (nI b), .int (nI n), .int 0] [] σ = some (.int 0, τ) ∧ τ.1 = σ.1 ∧ (∀ i, i < n → τ.2 242 (60 * t + b + i) = σ.2 243 i) ∧ (∀ j, j < 60 * t + b ∨ 60 * t + b + n ≤ j → τ.2 242 j = σ.2 242 j) ∧ ∀ c, c ≠ 242 → τ.2 c = σ.2 c := by
  obtain ⟨τ, e, i1, i2, i3, i4⟩ := mForI (fun k (_ : Unit) (u : mS) => Xx d n_M_paste 150 [.ref 200, v1, v2, .int (nI t), .int (nI b), .int (nI n), .int (nI k)] [] u) (fun k u => u.1 = σ.1 ∧ (∀ i, i < k → u.2 242 (60 * t + b + i) = σ.2 243 i) ∧ (∀ j, j < 60 * t + b ∨ 60 * t + b + n ≤ j → u.2 242 j = σ.2 242 j) ∧ ∀ c, c ≠ 242 → u.2 c = σ.2 c) (fun _ a => a) n () σ ⟨rfl, fun i h => absurd h (by omega), fun _ _ => rfl, fun _ _ => rfl⟩ (by
    intro k u hk hI
    obtain ⟨j1, j2, j3, j4⟩ := hI
    refine ⟨mUpJ u 242 (60 * t + b + k) (u.2 243 k), ?_, j1, fun i hi => ?_, fun j hj => ?_, fun c hc => ?_⟩
    · rw [q_M_paste_150, dle (by omega) (by omega), dF _ (by omega), cF, mIn_nI (by omega) (by omega), cT, show (60 : Int32) = nI 60 from rfl, nI_mul, nI_add, nI_add, mIn_nI (by omega) (by omega), cT, nI_clamp (by omega), nI_clamp (by omega), nI_1]
    · rw [mUpJ_sJ, sJ_at]
      by_cases g : i = k
      · rw [g, vL_at, j4 243 (by decide)]
      · rw [vL_ne _ _ (by omega)]; exact j2 i (by omega)
    · rw [mUpJ_sJ, sJ_at, vL_ne _ _ (by omega)]; exact j3 j hj
    · rw [mUpJ_sJ, sJ_ne _ _ hc]; exact j4 c hc)
  refine ⟨τ, Eq.trans e ?_, i1, i2, i3, i4⟩
  rw [q_M_paste_150, dT _ (Int32.le_refl _), cT]
def rgB (x y : Int32) (n : Nat) : Bool := !(decide (x < 0)) && (!(decide (y < 0)) && !(decide ((0 : Int32) < lg_cmp (x.toInt64 + y.toInt64) (nI n).toInt64)))
theorem k_isRange (d : Nat) {s n : Nat} (hs : s < 4) (h : σ.1 14 s = nI n) (x y : Int32) : Cc (d + 1) n_Sl_isRange [.ref 7, .int (nI s), .int x, .int y] σ = some (.int (bI (rgB x y n)), σ) := by
  rw [c_Sl_isRange, mIn_nI (by omega) (by omega), cT, nI_clamp (by omega), h]
  unfold rgB
  cases decide (x < 0) <;> cases decide (y < 0) <;> cases decide ((0 : Int32) < lg_cmp (x.toInt64 + y.toInt64) (nI n).toInt64) <;> rfl
theorem rgB_ok {x y : Int32} {n : Nat} (hn : n ≤ 60) (h : rgB x y n = true) : ∃ a b : Nat, x = nI a ∧ y = nI b ∧ a + b ≤ n := by
  unfold rgB at h
  rw [Bool.and_eq_true, Bool.and_eq_true, Bool.not_eq_true', Bool.not_eq_true', Bool.not_eq_true'] at h
  obtain ⟨a, rfl, ha⟩ := nI_nn (of_decide_eq_false h.1)
  obtain ⟨b, rfl, hb⟩ := nI_nn (of_decide_eq_false h.2.1)
  refine ⟨a, b, rfl, rfl, ?_⟩
  have := h.2.2
  rw [rg_le ha hb (by omega), Bool.not_eq_false'] at this
  exact of_decide_eq_true this
theorem oI_lt0 {x : Option Nat} (hx : ∀ n, x = some n → n < 2 ^ 31) : decide (oI x < 0) = !x.isSome := by
  cases x with
  | none => rfl
  | some n => exact dF _ (nI_pos (hx n rfl))
theorem oI_em {x : Option Nat} (hx : ∀ n, x = some n → n < 2 ^ 31) : decide (oI x = -1) = !x.isSome := by
  rw [← oI_nm hx, decide_not, Bool.not_not]
theorem t_paste (D : Nat) {sz : Nat → Option Nat} {wi : Nat → Nat} (hsl : slT σ sz wi) (x1 x2 x3 x4 x5 : Int32) : sch (D + 12) n_E_paste n_M_paste [.ref 0, .int x1, .int x2, .int x3, .int x4, .int x5] [.ref 200, .int x1, .int x2, .int x3, .int x4, .int x5, .null] σ := by
  cases h1 : mIn x1 4 with
  | false => exact sch_n hsl (v := -2) (by rw [c_E_paste, k_isSlot, mBI_s, h1]; rfl) (by rw [c_M_paste, r_isSlot, mBI_s, h1]; rfl)
  | true =>
    cases h3 : mIn x3 4 with
    | false => exact sch_n hsl (v := -2) (by rw [c_E_paste, k_isSlot, mBI_s, h1, bI_0, bnot_t, cF, k_isSlot, mBI_s, h3]; rfl) (by rw [c_M_paste, r_isSlot, mBI_s, h1, bI_0, bnot_t, cF, r_isSlot, mBI_s, h3]; rfl)
    | true =>
      obtain ⟨s, hs, rfl⟩ := mIn_of h1
      obtain ⟨t, ht, rfl⟩ := mIn_of h3
      obtain ⟨a1, a2, a3, a4, a5, a6⟩ := hsl.1 s hs
      obtain ⟨b1, b2, b3, b4, b5, b6⟩ := hsl.1 t ht
      have e1 : Cc (D + 12) n_E_paste [.ref 0, .int (nI s), .int x2, .int (nI t), .int x4, .int x5] σ = (bif !(sz s).isSome then some (.int (-6), σ) else (bif (sz t).isSome then (bif decide (wi s = wi t) then (mBI (Cc (D + 11) n_Sl_isRange [.ref 7, .int (nI s), .int x2, .int x5] σ) fun r6 τ5 => (bif decide ((r6 : Int32) = 0) then (some (.int (-7), τ5)) else (mBI (Cc (D + 11) n_Sl_isRange [.ref 7, .int (nI t), .int x4, .int x5] τ5) fun r8 τ7 => (bif decide (¬ (r8 : Int32) = 0) then (mBV (Cc (D + 11) n_Sl_copy [.ref 7, .int (nI s), .int x2, .int (nI t), .int x4, .int x5] τ7) fun τ9 => (some (.int 0, τ9))) else (some (.int (-7), τ7)))))) else some (.int (-8), σ)) else some (.int (-6), σ))) := by
        rw [c_E_paste, k_isSlot, mBI_s, h1, bI_0, bnot_t, cF, k_isSlot, mBI_s, h3, bI_n, cT, cT, cT, cT, cT, nI_clamp (by omega), nI_clamp (by omega), a1, b1, a4, b4, deq (by omega) (by omega), oI_lt0 (fun n h => by have := a3 n h; omega), oI_nn (fun n h => by have := b3 n h; omega)]
      have e2 : ∀ τ : mS, τ.1 = σ.1 → Cc (D + 12) n_M_paste [.ref 200, .int (nI s), .int x2, .int (nI t), .int x4, .int x5, .null] τ = (bif !(sz s).isSome then some (.int (-6), τ) else (bif (sz t).isSome then (bif decide (wi s = wi t) then (bif decide ((x2 : Int32) < 0) then (some (.int (-7), τ)) else (bif decide ((x4 : Int32) < 0) then (some (.int (-7), τ)) else (bif decide ((x5 : Int32) < 0) then (some (.int (-7), τ)) else (bif decide ((0 : Int32) < (lg_cmp (((x2 : Int32).toInt64) + ((x5 : Int32).toInt64)) ((oI (sz s)).toInt64))) then (some (.int (-7), τ)) else (bif !(decide ((0 : Int32) < (lg_cmp (((x4 : Int32).toInt64) + ((x5 : Int32).toInt64)) ((oI (sz t)).toInt64)))) then Xx (D + 11) n_M_paste 113 [.ref 200, .int (nI s), .int x2, .int (nI t), .int x4, .int x5, .int 0] [] τ else (some (.int (-7), τ))))))) else some (.int (-8), τ)) else some (.int (-6), τ))) := by
        intro τ h
        rw [c_M_paste, r_isSlot, mBI_s, h1, bI_0, bnot_t, cF, r_isSlot, mBI_s, h3, bI_n, cT, cT, cT, cT, cT, cT, cT, nI_clamp (by omega), nI_clamp (by omega), h, a2, b2, a5, b5, deq (by omega) (by omega), lg_le0, oI_em (fun n h => by have := a3 n h; omega), oI_nm (fun n h => by have := b3 n h; omega)]
      cases hz : sz s with
      | none => exact sch_n hsl (v := -6) (by rw [e1, hz]; rfl) (by rw [e2 σ rfl, hz]; rfl)
      | some n1 =>
        cases hz2 : sz t with
        | none => exact sch_n hsl (v := -6) (by rw [e1, hz, hz2]; rfl) (by rw [e2 σ rfl, hz, hz2]; rfl)
        | some n2 =>
          have hn1 := a3 n1 hz
          have hn2 := b3 n2 hz2
          rw [hz] at a1
          rw [hz2] at b1
          rw [hz, hz2, Option.isSome_some, Option.isSome_some, Bool.not_true, cF, cT, k_isRange _ hs a1, mBI_s, bI_0, k_isRange _ ht b1, mBI_s, bI_n] at e1
          rw [hz, hz2, Option.isSome_some, Option.isSome_some, Bool.not_true] at e2
          by_cases gw : wi s = wi t
          · rw [dT _ gw, cT] at e1
            have e3 : ∀ τ : mS, τ.1 = σ.1 → Cc (D + 12) n_M_paste [.ref 200, .int (nI s), .int x2, .int (nI t), .int x4, .int x5, .null] τ = (bif rgB x2 x5 n1 && rgB x4 x5 n2 then Xx (D + 11) n_M_paste 113 [.ref 200, .int (nI s), .int x2, .int (nI t), .int x4, .int x5, .int 0] [] τ else some (.int (-7), τ)) := by
              intro τ h
              rw [e2 τ h, cF, cT, dT _ gw, cT, oI_s, oI_s]
              unfold rgB
              cases decide (x2 < 0) <;> cases decide (x4 < 0) <;> cases decide (x5 < 0) <;> cases decide ((0 : Int32) < lg_cmp (x2.toInt64 + x5.toInt64) (nI n1).toInt64) <;> cases decide ((0 : Int32) < lg_cmp (x4.toInt64 + x5.toInt64) (nI n2).toInt64) <;> rfl
            cases hr1 : rgB x2 x5 n1 with
            | false => exact sch_n hsl (v := -7) (by rw [e1, hr1]; rfl) (by rw [e3 σ rfl, hr1]; rfl)
            | true =>
              cases hr2 : rgB x4 x5 n2 with
              | false => exact sch_n hsl (v := -7) (by rw [e1, hr1, hr2]; rfl) (by rw [e3 σ rfl, hr1, hr2]; rfl)
              | true =>
                obtain ⟨a, n, rfl, rfl, han⟩ := rgB_ok hn1 hr1
                obtain ⟨b, n', rfl, en, hbn⟩ := rgB_ok hn2 hr2
                have hnn : n = n' := by
                  have q1 : n < 2 ^ 31 := by omega
                  have q2 : n' < 2 ^ 31 := by omega
                  exact (nI_eq q1 q2).mp en
                subst hnn
                obtain ⟨τ1, f1, f2, f3, f4⟩ := r_paste113 (D + 11) hs (show a + n ≤ 60 by omega) (nI t) (nI b) (mCpJ σ (9 + s) (9 + t) a b n)
                obtain ⟨τ2, g1, g2, g3, g4, g5⟩ := r_paste150 (D + 11) ht (show b + n ≤ 60 by omega) (.int (nI s)) (.int (nI a)) τ1
                have c242 : (mCpJ σ (9 + s) (9 + t) a b n).2 242 = σ.2 242 := by rw [mCpJ_sJ, sJ_ne _ _ (by omega)]
                refine ⟨0, mCpJ σ (9 + s) (9 + t) a b n, τ2, sz, wi, ⟨rfl, rfl⟩, ?_, ?_, fun c _ _ _ _ => by rw [g2, f2]; rfl, fun j hj => ?_, fun j hj i hi => ?_⟩
                · rw [e1, hr1, hr2, Bool.not_true, cF, cT, k_copyJ _ hs ht (by omega) (by omega), mBV_s]
                · rw [e3 (mCpJ σ (9 + s) (9 + t) a b n) rfl, hr1, hr2, Bool.and_self, cT, f1]
                  exact g1
                · rw [g2, f2]
                  exact hsl.1 j hj
                · rw [g5 (9 + j) (by omega), f4 (9 + j) (by omega)]
                  by_cases gj : j = t
                  · subst gj
                    rw [mCpJ_sJ, sJ_at]
                    unfold va_cpy
                    by_cases gi : b ≤ i ∧ i < b + n
                    · rw [if_pos gi, show 60 * j + i = 60 * j + b + (i - b) by omega, g3 _ (by omega), f3 _ (by omega), c242, show 60 * s + a + (i - b) = 60 * s + (a + (i - b)) by omega]
                      exact hsl.2 s hs _ (by omega)
                    · rw [if_neg gi, g4 _ (by omega), f4 242 (by decide), c242]
                      exact hsl.2 j hj i hi
                  · rw [mCpJ_sJ, sJ_ne _ _ (by omega), g4 _ (by omega), f4 242 (by decide), c242]
                    exact hsl.2 j hj i hi
          · exact sch_n hsl (v := -8) (by rw [e1, dF _ gw, cF]) (by rw [e2 σ rfl, cF, cT, dF _ gw, cF])

