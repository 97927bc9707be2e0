/-! ===== the class's years: signs, fading, deeds ===== -/
def sg (v : Int32) : Int32 := if v = 0 then 0 else if v < 0 then -1 else 1
theorem k_signOf (d : Nat) (v : Int32) (σ : mS) : Cc (d + 1) n_Co_signOf [.int v] σ = some (.int (sg v), σ) := by
  rw [Cc_s, q_Co_signOf_0]
  unfold sg
  by_cases h : v = 0
  · rw [dF _ (fun q => q h), if_pos h]; rfl
  · rw [dT _ h, if_neg h]
    by_cases h2 : (0 : Int32) ≤ v
    · rw [dT _ h2, if_neg (Int32.not_lt.mpr h2)]; rfl
    · rw [dF _ h2, if_pos (Int32.not_le.mp h2)]; rfl
set_option maxHeartbeats 4000000 in
theorem k_faded (d o : Nat) (ho : o = 20 ∨ o = 30) (v : Int32) (σ : mS) (hlaw : bw 0 (σ.1 o 1) 3) : Cc (d + 2) n_Co_faded [.ref o, .int v] σ = some (.int (fdS (σ.1 o 1) false v), σ) := by
  obtain ⟨k, hk, hk3, -⟩ := bw_nI hlaw
  rw [Cc_s, q_Co_faded_0 _ _ _ ho, q_Co_faded_4, hk]
  have e : ∀ w : Int32, (if (false : Bool) = true ∧ w < 0 then w + 1 else w) = w := fun w => if_neg (fun q => by cases q.1)
  unfold fdS
  simp only [e]
  rcases (show k = 0 ∨ k = 1 ∨ k = 2 ∨ k = 3 by omega) with rfl | rfl | rfl | rfl
  · rw [show decide ((nI 0).toInt < 1 ∨ 3 < (nI 0).toInt) = true by decide, cT, q_Co_faded_55, if_neg (by decide), if_neg (by decide), if_neg (by decide)]
  · rw [show decide ((nI 1).toInt < 1 ∨ 3 < (nI 1).toInt) = false by decide, cF, show mNth [55, 32, 39, 43] (((nI 1).toInt - 1).toNat + 1) = 32 by decide, q_Co_faded_32, k_signOf, mBI_s, if_pos (by decide)]
    unfold sg
    by_cases h : v = 0
    · rw [if_pos h, if_pos h, Int32.sub_zero]
    · rw [if_neg h, if_neg h]
      by_cases h2 : v < 0
      · rw [if_pos h2, if_pos h2, Int32.sub_neg]
      · rw [if_neg h2, if_neg h2]
  · rw [show decide ((nI 2).toInt < 1 ∨ 3 < (nI 2).toInt) = false by decide, cF, show mNth [55, 32, 39, 43] (((nI 2).toInt - 1).toNat + 1) = 39 by decide, q_Co_faded_39, if_neg (by decide), if_pos (by decide)]
  · rw [show decide ((nI 3).toInt < 1 ∨ 3 < (nI 3).toInt) = false by decide, cF, show mNth [55, 32, 39, 43] (((nI 3).toInt - 1).toNat + 1) = 43 by decide, q_Co_faded_43, if_neg (by decide), if_neg (by decide), if_pos (by decide)]
    by_cases h2 : (0 : Int32) ≤ v
    · rw [dT _ h2, cT, if_neg (Int32.not_lt.mpr h2)]
    · rw [dF _ h2, cF, if_pos (Int32.not_le.mp h2)]
theorem fdS_t (law : Int32) (t : Bool) (v : Int32) : fdS law t v = if t = true ∧ fdS law false v < 0 then fdS law false v + 1 else fdS law false v := by
  have e : ∀ w : Int32, (if (false : Bool) = true ∧ w < 0 then w + 1 else w) = w := fun w => if_neg (fun q => by cases q.1)
  unfold fdS
  simp only [e]
/-- a year's feelings out of the year ahead, of pairs from a to b -/
def fdR (law : Int32) (t : Bool) (y a b : Nat) (G : Nat → Int32) : Nat → Int32 := fun j => if 36 * (y + 1) + a ≤ j ∧ j < 36 * (y + 1) + b then fdS law t (G (j - 36)) else G j
set_option maxHeartbeats 8000000 in
theorem k_fade (d o : Nat) (ho : o = 20 ∨ o = 30) (y a b : Nat) (hy : y + 1 < 12) (hab : a ≤ b) (hb : b ≤ 36) (σ : mS) (hlaw : bw 0 (σ.1 o 1) 3) (G : Nat → Int32) : Cc (d + 3) n_Co_fade [.ref o, .int (nI (y + 1)), .int (nI a), .int (nI b), .null, .null, .null, .null] (sR σ (o + 3) G) = some (.null, sR σ (o + 3) (fdR (σ.1 o 1) (bt (σ.1 o 2) y) y a b G)) := by
  rw [Cc_s, q_Co_fade_0 _ _ _ _ _ ho, sR_ne _ _ (show o ≠ o + 3 by omega), nI_pred, bt_bI _ (by omega), show (36 : Int32) = nI 36 from rfl, nI_mul]
  generalize hbt : bt (σ.1 o 2) y = t
  have hs := mFor (fun k (w : (Nat → Int32) × Value) => Xx (d + 2) n_Co_fade 21 [.ref o, .int (nI (y + 1)), .int (nI a), .int (nI b), .int (bI t), .int (nI ((y + 1) * 36)), .int (nI (a + k)), w.2] [] (sR σ (o + 3) w.1)) (fun k w => (upd w.1 (36 * (y + 1) + (a + k)) (fdS (σ.1 o 1) t (w.1 (36 * y + (a + k)))), .int (fdS (σ.1 o 1) false (w.1 (36 * y + (a + k)))))) (b - a) (G, .null) (by
    intro k hk
    generalize mF _ k (G, Value.null) = w
    obtain ⟨G', v⟩ := w
    dsimp only
    rw [q_Co_fade_21 _ _ _ _ _ _ _ _ _ ho, dle (by omega) (by omega), dF _ (by omega), cF, show nI ((y + 1) * 36) - 36 = nI (36 * y) from by
      rw [show (y + 1) * 36 = 36 * y + 36 by omega, ← nI_add]
      exact Int32.add_sub_cancel _ _]
    simp (disch := omega) only [nI_1, nI_add, mIn_nI, nI_clamp, cT, sR_at, mUpI_sR, sR_sR]
    rw [k_faded d o ho _ _ (by rw [sR_ne _ _ (show o ≠ o + 3 by omega)]; exact hlaw), mBI_s, sR_ne _ _ (show o ≠ o + 3 by omega), sR_at]
    simp only [sR_sR]
    rw [show (y + 1) * 36 + (a + k) = 36 * (y + 1) + (a + k) by omega, fdS_t (σ.1 o 1) t]
    generalize fdS (σ.1 o 1) false (G' (36 * y + (a + k))) = r
    by_cases h : (0 : Int32) ≤ r
    · rw [dT _ h, cT, if_neg (fun q => Int32.not_le.mpr q.2 h)]
      rfl
    · rw [dF _ h, cF]
      cases t with
      | false => rw [if_neg (fun q => by cases q.1), show bI false = 0 from rfl, Int32.add_zero]; rfl
      | true => rw [if_pos ⟨rfl, Int32.not_le.mp h⟩]; rfl)
  have key : (mF (fun k (w : (Nat → Int32) × Value) => (upd w.1 (36 * (y + 1) + (a + k)) (fdS (σ.1 o 1) t (w.1 (36 * y + (a + k)))), Value.int (fdS (σ.1 o 1) false (w.1 (36 * y + (a + k)))))) (b - a) (G, .null)).1 = fdR (σ.1 o 1) t y a b G := by
    have hI := mF_inv (fun k (w : (Nat → Int32) × Value) => w.1 = fdR (σ.1 o 1) t y a (a + k) G) (fun k (w : (Nat → Int32) × Value) => (upd w.1 (36 * (y + 1) + (a + k)) (fdS (σ.1 o 1) t (w.1 (36 * y + (a + k)))), Value.int (fdS (σ.1 o 1) false (w.1 (36 * y + (a + k)))))) (b - a) (G, .null) (by
      funext j
      exact (if_neg (by omega)).symm) (by
      intro k w hk hw
      dsimp only
      rw [hw]
      funext j
      unfold upd fdR
      by_cases h : j = 36 * (y + 1) + (a + k)
      · rw [show (if 36 * (y + 1) + a ≤ 36 * y + (a + k) ∧ 36 * y + (a + k) < 36 * (y + 1) + (a + k) then fdS (σ.1 o 1) t (G (36 * y + (a + k) - 36)) else G (36 * y + (a + k))) = G (36 * y + (a + k)) from if_neg (by omega), if_pos h, if_pos (by omega), show j - 36 = 36 * y + (a + k) by omega]
      · rw [if_neg h]
        by_cases h2 : 36 * (y + 1) + a ≤ j ∧ j < 36 * (y + 1) + (a + k)
        · rw [if_pos h2, if_pos (by omega)]
        · rw [if_neg h2, if_neg (by omega)]) (b - a) (Nat.le_refl _)
    rw [hI, show a + (b - a) = b by omega]
  simp only [Nat.add_zero] at hs
  rw [hs, q_Co_fade_21 _ _ _ _ _ _ _ _ _ ho, show a + (b - a) = b by omega, dT _ (Int32.le_refl _), cT, key]

/-- a deed done on a row of years, of pairs from a to b -/
def sSt (y a b : Nat) (W : List Dd) (out : Option Nat) (k : Nat) (G : Nat → Int32) : Nat → Int32 := if out = some k then G else (match W[k]? with | some x => (if x.2.2.2 = y ∧ a ≤ 6 * x.2.1 + x.1 ∧ 6 * x.2.1 + x.1 < b then upd G (36 * y + (6 * x.2.1 + x.1)) (if x.2.2.1 = 0 then vMx (G (36 * y + (6 * x.2.1 + x.1))) 0 else vMx (G (36 * y + (6 * x.2.1 + x.1)) - x.2.2.1) (-60)) else G) | none => G)
def sAl (y a b : Nat) (W : List Dd) (out : Option Nat) (G : Nat → Int32) : Nat → Int32 := mF (sSt y a b W out) W.length G
theorem sSt_c {P : Nat} (hP : P ≤ 6) (y a b : Nat) (W : List Dd) (hW : ∀ x ∈ W, ddOK P x) (out : Option Nat) (k : Nat) (G : Nat → Int32) (j : Nat) : sSt y a b W out k G j = if 36 * y + a ≤ j ∧ j < 36 * y + b ∧ j < 36 * y + 36 then (if out = some k then G j else (match W[k]? with | some x => ddS y (j - 36 * y) (G j) x | none => G j)) else G j := by
  unfold sSt
  by_cases h : out = some k
  · rw [if_pos h, if_pos h]
    split <;> rfl
  · rw [if_neg h, if_neg h]
    cases hx : W[k]? with
    | none => dsimp only; split <;> rfl
    | some x =>
      have hk := hW x (List.mem_of_getElem? hx)
      have h1 := hk.1
      have h2 := hk.2.1
      dsimp only
      unfold ddS
      by_cases hj : 36 * y + a ≤ j ∧ j < 36 * y + b ∧ j < 36 * y + 36
      · rw [if_pos hj]
        by_cases hy : x.2.2.2 = y ∧ 6 * x.2.1 + x.1 = j - 36 * y
        · have e : j = 36 * y + (6 * x.2.1 + x.1) := by omega
          subst e
          rw [if_pos ⟨hy.1, by omega, by omega⟩, upd_at, if_pos hy]
        · rw [if_neg hy]
          by_cases hz : x.2.2.2 = y ∧ a ≤ 6 * x.2.1 + x.1 ∧ 6 * x.2.1 + x.1 < b
          · rw [if_pos hz, upd_ne _ _ (fun q => hy ⟨hz.1, by omega⟩)]
          · rw [if_neg hz]
      · rw [if_neg hj]
        by_cases hz : x.2.2.2 = y ∧ a ≤ 6 * x.2.1 + x.1 ∧ 6 * x.2.1 + x.1 < b
        · rw [if_pos hz, upd_ne _ _ (fun q => hj (by omega))]
        · rw [if_neg hz]
theorem sAl_c {P : Nat} (hP : P ≤ 6) (y a b : Nat) (W : List Dd) (hW : ∀ x ∈ W, ddOK P x) (out : Option Nat) (G : Nat → Int32) (j : Nat) : sAl y a b W out G j = if 36 * y + a ≤ j ∧ j < 36 * y + b ∧ j < 36 * y + 36 then ddL y (j - 36 * y) W out (G j) else G j := by
  unfold sAl
  by_cases hj : 36 * y + a ≤ j ∧ j < 36 * y + b ∧ j < 36 * y + 36
  · rw [if_pos hj]
    exact mF_rel (fun _ (G' : Nat → Int32) (v : Int32) => G' j = v) (sSt y a b W out) (fun i v => if out = some i then v else (match W[i]? with | some x => ddS y (j - 36 * y) v x | none => v)) W.length G (G j) rfl (fun k x z _ h => by rw [sSt_c hP y a b W hW out k x j, if_pos hj, h])
  · rw [if_neg hj]
    exact mF_inv (fun _ (G' : Nat → Int32) => G' j = G j) (sSt y a b W out) W.length G rfl (fun k x _ h => by rw [sSt_c hP y a b W hW out k x j, if_neg hj, h]) W.length (Nat.le_refl _)
set_option maxHeartbeats 8000000 in
theorem k_suffer45 (d o : Nat) (ho : o = 20 ∨ o = 30) (y a b : Nat) (hy : y < 12) (ha : a ≤ 36) (hb : b ≤ 36) (W : List Dd) (hW : ∀ x ∈ W, ddOK 6 x) (hlen : W.length ≤ 8) (out : Option Nat) (ho2 : ∀ i, out = some i → i < 2 ^ 31) (σ : mS) (hd : dC σ 45 W) (G : Nat → Int32) : Cc (d + 1) n_Co_suffer [.ref o, .ref 45, .int (oI out), .int (nI y), .int (nI a), .int (nI b), .null, .null, .null, .null] (sR σ (o + 3) G) = some (.null, sR σ (o + 3) (sAl y a b W out G)) := by
  · rw [Cc_s, q_Co_suffer_45_0 _ _ _ _ _ _ ho, show (0 : Int32) = nI 0 from rfl]
    have hs : ∀ k, k ≤ W.length → ∃ v7 v8 v9, Xx d n_Co_suffer 3 [.ref o, .ref 45, .int (oI out), .int (nI y), .int (nI a), .int (nI b), .int (nI 0), .null, .null, .null] [] (sR σ (o + 3) G) = Xx d n_Co_suffer 3 [.ref o, .ref 45, .int (oI out), .int (nI y), .int (nI a), .int (nI b), .int (nI k), v7, v8, v9] [] (sR σ (o + 3) (mF (sSt y a b W out) k G)) := by
      intro k
      induction k with
      | zero => intro _; exact ⟨.null, .null, .null, rfl⟩
      | succ k ih =>
        intro hk
        obtain ⟨v7, v8, v9, e⟩ := ih (by omega)
        show ∃ v7 v8 v9, _ = Xx d n_Co_suffer 3 _ [] (sR σ (o + 3) (sSt y a b W out k (mF (sSt y a b W out) k G)))
        generalize mF (sSt y a b W out) k G = G' at e ⊢
        have hx : W[k]? = some W[k] := List.getElem?_eq_getElem (by omega)
        generalize W[k] = x at hx
        obtain ⟨e1, e2, e3, e4⟩ := hd.2 k x hx
        obtain ⟨o1, o2, o3, o4, o5⟩ := hW x (List.mem_of_getElem? hx)
        obtain ⟨n, hn, hn2, -⟩ := bw_nI o4
        rw [e, q_Co_suffer_45_3 _ _ _ _ _ _ _ _ _ _ ho]
        simp (disch := omega) only [nI_1, mIn_nI, nI_clamp, cT, sR_ne _ _ (show 45 ≠ o + 3 by omega), sR_ne _ _ (show 46 ≠ o + 3 by omega), sR_ne _ _ (show 47 ≠ o + 3 by omega), sR_ne _ _ (show 48 ≠ o + 3 by omega), sR_ne _ _ (show 49 ≠ o + 3 by omega), hd.1, show σ.1 46 k = nI x.1 from e1, show σ.1 47 k = nI x.2.1 from e2, show σ.1 48 k = x.2.2.1 from e3, show σ.1 49 k = nI x.2.2.2 from e4, li_6, li_36, nI_mul, nI_add, sR_at, mUpI_sR, sR_sR]
        rw [dle (by omega) (by omega), dF _ (by omega), cF, dne (by omega) (by omega), oI_eq (by omega) ho2, dlt (by omega) (by omega), dle (by omega) (by omega)]
        rw [show x.2.1 * 6 + x.1 = 6 * x.2.1 + x.1 by omega, show y * 36 + (6 * x.2.1 + x.1) = 36 * y + (6 * x.2.1 + x.1) by omega]
        unfold sSt
        by_cases hz : x.2.2.2 = y
        · rw [dF _ (fun q => q hz), cF]
          by_cases hq : out = some k
          · rw [dT _ hq, cT, if_pos hq]
            exact ⟨_, _, _, rfl⟩
          · rw [dF _ hq, cF, if_neg hq, hx]
            dsimp only
            by_cases h1 : 6 * x.2.1 + x.1 < a
            · rw [dT _ h1, cT, if_neg (by omega)]
              exact ⟨_, _, _, rfl⟩
            · rw [dF _ h1, cF]
              by_cases h2 : b ≤ 6 * x.2.1 + x.1
              · rw [dT _ h2, cT, if_neg (by omega)]
                exact ⟨_, _, _, rfl⟩
              · rw [dF _ h2, cF, if_pos (show x.2.2.2 = y ∧ a ≤ 6 * x.2.1 + x.1 ∧ 6 * x.2.1 + x.1 < b from ⟨hz, by omega, by omega⟩)]
                by_cases h3 : x.2.2.1 = 0
                · rw [dF _ (fun q => q h3), cF, if_pos h3]
                  exact ⟨_, _, _, rfl⟩
                · rw [dT _ h3, cT, if_neg h3]
                  exact ⟨_, _, _, rfl⟩
        · rw [dT _ hz, cT]
          by_cases hq : out = some k
          · rw [if_pos hq]
            exact ⟨_, _, _, rfl⟩
          · rw [if_neg hq, hx]
            dsimp only
            rw [if_neg (fun q => hz q.1)]
            exact ⟨_, _, _, rfl⟩
    obtain ⟨v7, v8, v9, e⟩ := hs W.length (Nat.le_refl _)
    rw [e, q_Co_suffer_45_3 _ _ _ _ _ _ _ _ _ _ ho]
    simp only [sR_ne _ _ (show 45 ≠ o + 3 by omega), hd.1]
    rw [dle (by omega) (by omega), dT _ (Nat.le_refl _), cT]
    rfl
set_option maxHeartbeats 8000000 in
theorem k_suffer50 (d o : Nat) (ho : o = 20 ∨ o = 30) (y a b : Nat) (hy : y < 12) (ha : a ≤ 36) (hb : b ≤ 36) (W : List Dd) (hW : ∀ x ∈ W, ddOK 6 x) (hlen : W.length ≤ 30) (out : Option Nat) (ho2 : ∀ i, out = some i → i < 2 ^ 31) (σ : mS) (hd : dC σ 50 W) (G : Nat → Int32) : Cc (d + 1) n_Co_suffer [.ref o, .ref 50, .int (oI out), .int (nI y), .int (nI a), .int (nI b), .null, .null, .null, .null] (sR σ (o + 3) G) = some (.null, sR σ (o + 3) (sAl y a b W out G)) := by
  · rw [Cc_s, q_Co_suffer_50_0 _ _ _ _ _ _ ho, show (0 : Int32) = nI 0 from rfl]
    have hs : ∀ k, k ≤ W.length → ∃ v7 v8 v9, Xx d n_Co_suffer 3 [.ref o, .ref 50, .int (oI out), .int (nI y), .int (nI a), .int (nI b), .int (nI 0), .null, .null, .null] [] (sR σ (o + 3) G) = Xx d n_Co_suffer 3 [.ref o, .ref 50, .int (oI out), .int (nI y), .int (nI a), .int (nI b), .int (nI k), v7, v8, v9] [] (sR σ (o + 3) (mF (sSt y a b W out) k G)) := by
      intro k
      induction k with
      | zero => intro _; exact ⟨.null, .null, .null, rfl⟩
      | succ k ih =>
        intro hk
        obtain ⟨v7, v8, v9, e⟩ := ih (by omega)
        show ∃ v7 v8 v9, _ = Xx d n_Co_suffer 3 _ [] (sR σ (o + 3) (sSt y a b W out k (mF (sSt y a b W out) k G)))
        generalize mF (sSt y a b W out) k G = G' at e ⊢
        have hx : W[k]? = some W[k] := List.getElem?_eq_getElem (by omega)
        generalize W[k] = x at hx
        obtain ⟨e1, e2, e3, e4⟩ := hd.2 k x hx
        obtain ⟨o1, o2, o3, o4, o5⟩ := hW x (List.mem_of_getElem? hx)
        obtain ⟨n, hn, hn2, -⟩ := bw_nI o4
        rw [e, q_Co_suffer_50_3 _ _ _ _ _ _ _ _ _ _ ho]
        simp (disch := omega) only [nI_1, mIn_nI, nI_clamp, cT, sR_ne _ _ (show 50 ≠ o + 3 by omega), sR_ne _ _ (show 51 ≠ o + 3 by omega), sR_ne _ _ (show 52 ≠ o + 3 by omega), sR_ne _ _ (show 53 ≠ o + 3 by omega), sR_ne _ _ (show 54 ≠ o + 3 by omega), hd.1, show σ.1 51 k = nI x.1 from e1, show σ.1 52 k = nI x.2.1 from e2, show σ.1 53 k = x.2.2.1 from e3, show σ.1 54 k = nI x.2.2.2 from e4, li_6, li_36, nI_mul, nI_add, sR_at, mUpI_sR, sR_sR]
        rw [dle (by omega) (by omega), dF _ (by omega), cF, dne (by omega) (by omega), oI_eq (by omega) ho2, dlt (by omega) (by omega), dle (by omega) (by omega)]
        rw [show x.2.1 * 6 + x.1 = 6 * x.2.1 + x.1 by omega, show y * 36 + (6 * x.2.1 + x.1) = 36 * y + (6 * x.2.1 + x.1) by omega]
        unfold sSt
        by_cases hz : x.2.2.2 = y
        · rw [dF _ (fun q => q hz), cF]
          by_cases hq : out = some k
          · rw [dT _ hq, cT, if_pos hq]
            exact ⟨_, _, _, rfl⟩
          · rw [dF _ hq, cF, if_neg hq, hx]
            dsimp only
            by_cases h1 : 6 * x.2.1 + x.1 < a
            · rw [dT _ h1, cT, if_neg (by omega)]
              exact ⟨_, _, _, rfl⟩
            · rw [dF _ h1, cF]
              by_cases h2 : b ≤ 6 * x.2.1 + x.1
              · rw [dT _ h2, cT, if_neg (by omega)]
                exact ⟨_, _, _, rfl⟩
              · rw [dF _ h2, cF, if_pos (show x.2.2.2 = y ∧ a ≤ 6 * x.2.1 + x.1 ∧ 6 * x.2.1 + x.1 < b from ⟨hz, by omega, by omega⟩)]
                by_cases h3 : x.2.2.1 = 0
                · rw [dF _ (fun q => q h3), cF, if_pos h3]
                  exact ⟨_, _, _, rfl⟩
                · rw [dT _ h3, cT, if_neg h3]
                  exact ⟨_, _, _, rfl⟩
        · rw [dT _ hz, cT]
          by_cases hq : out = some k
          · rw [if_pos hq]
            exact ⟨_, _, _, rfl⟩
          · rw [if_neg hq, hx]
            dsimp only
            rw [if_neg (fun q => hz q.1)]
            exact ⟨_, _, _, rfl⟩
    obtain ⟨v7, v8, v9, e⟩ := hs W.length (Nat.le_refl _)
    rw [e, q_Co_suffer_50_3 _ _ _ _ _ _ _ _ _ _ ho]
    simp only [sR_ne _ _ (show 50 ≠ o + 3 by omega), hd.1]
    rw [dle (by omega) (by omega), dT _ (Nat.le_refl _), cT]
    rfl
