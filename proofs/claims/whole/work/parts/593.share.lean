/-! ===== shares ===== -/
variable {σ τ : mS} {l : Lv}
def facN : Nat → Nat
  | 0 => 1
  | n + 1 => (n + 1) * facN n
theorem r_factorial (d : Nat) {n : Nat} (hn : n ≤ 5) (σ : mS) : Cc (d + 1) n_M_factorial [.int (nI n), .null, .null] σ = some (.int (nI (facN n)), σ) := by
  rw [c_M_factorial]
  rcases Nat.lt_or_ge n 1 with h | h
  · rw [show n = 0 by omega, q_M_factorial_4, show decide (nI 0 < (2 : Int32)) = true by decide, cT]
    rfl
  · have hs := mForN (fun j => Xx d n_M_factorial 4 [.int (nI n), .int (nI (facN (j + 1))), .int (nI (j + 2))] [] σ) (n - 1) (by
      intro k hk
      show Xx d n_M_factorial 4 _ _ _ = Xx d n_M_factorial 4 _ _ _
      rw [q_M_factorial_4, dlt (by omega) (by omega), dF _ (by omega), cF, nI_mul, nI_1, show facN (k + 1) * (k + 2) = facN (k + 1 + 1) from Nat.mul_comm _ _])
    refine Eq.trans (show _ = Xx d n_M_factorial 4 [.int (nI n), .int (nI (facN (0 + 1))), .int (nI (0 + 2))] [] σ from rfl) (Eq.trans hs ?_)
    show Xx d n_M_factorial 4 _ _ _ = _
    rw [q_M_factorial_4, dlt (by omega) (by omega), dT _ (by omega), cT, show n - 1 + 1 = n by omega]
theorem facN_le : ∀ n, n ≤ 5 → 1 ≤ facN n ∧ facN n ≤ 120 := by decide
theorem ev_nI : ∀ P, P ≤ 6 → ev P = nI (2 ^ P - 1) := by decide +kernel
def nbK (k : Nat) : Nat := mF (fun i n => n + (k.testBit i).toNat) 6 0
theorem nb_K : ∀ k, k < 64 → nb (nI k) = nbK k := by decide +kernel
theorem aside_eq : ∀ k, k < 64 → ∀ p, p < 6 → ∀ r, r < 6 → decide (¬ (nI k &&& (((1 : Int32) <<< (nI p &&& 31)) ||| ((1 : Int32) <<< (nI r &&& 31)))) = 0) = (k.testBit p || k.testBit r) := by decide +kernel
theorem nbK_b : ∀ P, P < 7 → ∀ k, k < 2 ^ P → ∀ p, p < P → ∀ r, r < P → (decide (p = r) || k.testBit p || k.testBit r || decide (nbK k ≤ P - 2)) = true := by decide +kernel
theorem nbK_le (P : Nat) (h : P < 7) (k : Nat) (hk : k < 2 ^ P) (p : Nat) (hp : p < P) (r : Nat) (hr : r < P) (hpr : p ≠ r) (g1 : k.testBit p = false) (g2 : k.testBit r = false) : nbK k ≤ P - 2 := by
  have := nbK_b P h k hk p hp r hr
  rw [decide_eq_false hpr, g1, g2, Bool.false_or, Bool.false_or, Bool.false_or] at this
  exact of_decide_eq_true this
def woN (l : Lv) (q p : Nat) (s : Int32) : Nat := (woS l q p (bt s)).toNatClampNeg
theorem woN_eq (hl : lvOK l) {q p : Nat} (hp : p < lP l) (s : Int32) : woS l q p (bt s) = nI (woN l q p s) ∧ woN l q p s ≤ 360 := by
  obtain ⟨e, h1, h2, h3⟩ := bw_nI (woS_bw (q := q) hl hp (bt s))
  unfold woN
  rw [h1, nI_clamp h3]
  exact ⟨rfl, by omega⟩
theorem woN_mono (hl : lvOK l) {q p r : Nat} (hp : p < lP l) (hr : r < lP l) (s : Int32) : woN l q p s ≤ woN l q p (s ||| (1 <<< (nI r &&& 31))) := by
  have h1 := lvP hl
  obtain ⟨e1, b1⟩ := woN_eq (q := q) hl hp s
  obtain ⟨e2, b2⟩ := woN_eq (q := q) hl hp (s ||| (1 <<< (nI r &&& 31)))
  have := woS_mono (q := q) hl hp (s := bt s) (t := bt (s ||| (1 <<< (nI r &&& 31)))) (fun k hk hs => by rw [b_add (by omega) s (by omega), hs]; rfl)
  rw [e1, e2, nI_toInt (by omega), nI_toInt (by omega)] at this
  omega
def shT (l : Lv) (q p r k : Nat) : Nat := bif (k.testBit p || k.testBit r) then 0 else facN (nbK k) * facN (lP l - 2 - nbK k) * (woN l q p (nI k ||| (1 <<< (nI r &&& 31))) - woN l q p (nI k))
theorem shT_le (hl : lvOK l) {q p r k : Nat} (hp : p < lP l) (hr : r < lP l) (hpr : p ≠ r) (hk : k < 2 ^ lP l) : shT l q p r k ≤ 1 * 5184000 := by
  have h1 := lvP hl
  unfold shT
  cases h : (k.testBit p || k.testBit r) with
  | true => exact Nat.zero_le _
  | false =>
    rw [cF]
    rw [Bool.or_eq_false_iff] at h
    have hb := nbK_le (lP l) (by omega) k hk p hp r hr hpr h.1 h.2
    have f1 := (facN_le (nbK k) (by omega)).2
    have f2 := (facN_le (lP l - 2 - nbK k) (by omega)).2
    have b2 := (woN_eq (q := q) hl hp (nI k ||| (1 <<< (nI r &&& 31)))).2
    have := Nat.mul_le_mul (Nat.mul_le_mul f1 f2) (show woN l q p (nI k ||| (1 <<< (nI r &&& 31))) - woN l q p (nI k) ≤ 360 by omega)
    omega
theorem sh_sum (hl : lvOK l) {q p r : Nat} (hp : p < lP l) (hr : r < lP l) (hpr : p ≠ r) {n : Nat} (hn : n ≤ 2 ^ lP l) : smN n (shT l q p r) < 2 ^ 31 := by
  have h1 := lvP hl
  have h64 : 2 ^ lP l ≤ 2 ^ 6 := Nat.pow_le_pow_right (by omega) h1
  have := smN_le (n := n) (c := 5184000) (f := shT l q p r) (g := fun _ => 1) (fun k hk => shT_le hl hp hr hpr (by omega))
  have e : smN n (fun _ => 1) = n := by
    unfold smN
    exact mF_inv (fun k a => a = k) _ n 0 rfl (fun k a _ h => by rw [h]) n (Nat.le_refl n)
  rw [e] at this
  have : n * 5184000 ≤ 64 * 5184000 := Nat.mul_le_mul_right _ (by omega)
  omega
theorem sub2 {P : Nat} (h : 2 ≤ P) : nI P - 2 = nI (P - 2) := nI_sub (a := 2) h
theorem k_share (d : Nat) (t : tL σ l) (hf : ∀ j, j < 6 → σ.1 301 j = nI (facN j)) {q p r : Nat} (hq : q < lQ l) (hp : p < lP l) (hr : r < lP l) (hpr : p ≠ r) (w : Bool) : Xx (d + 4) n_E_share 54 [.ref 0, .int (nI p), .int (nI q), .int (nI r), .int (bI w), .int (nI (lP l - 2)), .int (((1 : Int32) <<< (nI p &&& 31)) ||| ((1 : Int32) <<< (nI r &&& 31))), .long 0, .null, .int 0, .null, .null] [] σ = some (.int (nI (fpN (smN (2 ^ lP l) (shT l q p r)) (facN (lP l - 1)) w)), σ) := by
  have h1 := lvP t.1
  have h64 : 2 ^ lP l ≤ 2 ^ 6 := Nat.pow_le_pow_right (by omega) h1
  have h2p : 0 < 2 ^ lP l := Nat.pow_pos (by omega)
  obtain ⟨⟨v10, v11⟩, hs⟩ := mForH (fun k (a : Nat) (b : Value × Value) => Xx (d + 4) n_E_share 54 [.ref 0, .int (nI p), .int (nI q), .int (nI r), .int (bI w), .int (nI (lP l - 2)), .int (((1 : Int32) <<< (nI p &&& 31)) ||| ((1 : Int32) <<< (nI r &&& 31))), .long (lN a), .null, .int (nI k), b.1, b.2] [] σ) (fun k a => a + shT l q p r k) (2 ^ lP l) 0 (.null, .null) (by
    intro k b hk
    generalize mF _ k (0 : Nat) = a
    have kb : bw 0 (nI k) 63 := ⟨by rw [nI_toInt (by omega)]; omega, by rw [nI_toInt (by omega)]; omega⟩
    rw [q_E_share_54, k_everybody _ _ (tP t), mBI_s, ev_nI _ h1, dlt (by omega) (by omega), dF _ (by omega), cF, k_bitCount _ _ kb, mBI_s, nb_K k (by omega), aside_eq k (by omega) p (by omega) r (by omega), nI_1]
    unfold shT
    cases h : (k.testBit p || k.testBit r) with
    | true => exact ⟨(.int (nI (nbK k)), b.2), rfl⟩
    | false =>
      rw [Bool.or_eq_false_iff] at h
      have hb := nbK_le (lP l) (by omega) k hk p hp r hr hpr h.1 h.2
      have hmo := woN_mono (q := q) t.1 hp hr (nI k)
      rw [cF, cF, dlt (by omega) (by omega), dF _ (by omega), cF, k_wordAlone _ t hp hq, mBI_s, k_wordAlone _ t hp hq, mBI_s, (woN_eq t.1 hp _).1, (woN_eq t.1 hp _).1, nI_sub hb, mIn_nI (by omega) (by omega), cT, mIn_nI (by omega) (by omega), cT, nI_clamp (by omega), nI_clamp (by omega), hf _ (by omega), hf _ (by omega), nI_sub hmo]
      have b1 := (woN_eq (q := q) t.1 hp (nI k ||| (1 <<< (nI r &&& 31)))).2
      have f1 := (facN_le (nbK k) (by omega)).2
      have f2 := (facN_le (lP l - 2 - nbK k) (by omega)).2
      rw [nI_l (by omega), nI_l (by omega), nI_l (by omega), lN_mul, lN_mul, lN_add]
      exact ⟨(_, _), rfl⟩)
  refine Eq.trans hs ?_
  have hsum := sh_sum (q := q) t.1 hp hr hpr (Nat.le_refl _)
  have f3 := facN_le (lP l - 1) (by omega)
  rw [q_E_share_54, k_everybody _ _ (tP t), mBI_s, ev_nI _ h1, dlt (by omega) (by omega), dT _ (by omega), cT, show (1 : Int32) = nI 1 from rfl, nI_add, show lP l - 2 + 1 = lP l - 1 by omega, mIn_nI (by omega) (by omega), cT, nI_clamp (by omega), hf _ (by omega), nI_l (by omega)]
  show mBL (Cc (d + 4) n_E_fractionPart [.long (lN (smN (2 ^ lP l) (shT l q p r))), .null, .long (lN (facN (lP l - 1))), .null, .int (bI w), .null, .null, .null, .null, .null, .null, .null] σ) _ = _
  rw [k_fraction _ hsum (by omega) (by omega) w, mBL_s, lN_i]
theorem r_share (d : Nat) (hl : lvOK l) {m : Nat} (a : rA τ l (vS l) m) {q p r : Nat} (hq : q < lQ l) (hp : p < lP l) (hr : r < lP l) (hpr : p ≠ r) (w : Bool) : ∃ u, Xx (d + 5) n_M_share 45 [.ref 200, .int (nI p), .int (nI q), .int (nI r), .int (bI w), .int (nI (lP l - 1)), .int 0, .int 0] [] τ = some (.int (nI (fpN (smN (2 ^ lP l) (shT l q p r)) (facN (lP l - 1)) w)), pN τ u) := by
  have h1 := lvP hl
  have h64 : 2 ^ lP l ≤ 2 ^ 6 := Nat.pow_le_pow_right (by omega) h1
  have h2p : 0 < 2 ^ lP l := Nat.pow_pos (by omega)
  have eL : nI (lP l - 1) - 1 = nI (lP l - 2) := by
    have := nI_pred (lP l - 2)
    rwa [show lP l - 2 + 1 = lP l - 1 by omega] at this
  obtain ⟨u, hs⟩ := mForH (fun k (s : Nat) (u : Int32) => Xx (d + 5) n_M_share 45 [.ref 200, .int (nI p), .int (nI q), .int (nI r), .int (bI w), .int (nI (lP l - 1)), .int (nI s), .int (nI k)] [] (pN τ u)) (fun k s => s + shT l q p r k) (2 ^ lP l) 0 (τ.1 200 27) (by
    intro k u hk
    generalize mF _ k (0 : Nat) = s
    rw [q_M_share_45, r_everybody _ _ (by rw [pN_ne _ _ (by decide)]; exact lM_P a.1.1), mBI_s, ev_nI _ h1, dlt (by omega) (by omega), dF _ (by omega), cF, r_bit _ _ _ (by omega), mBI_s, bI_1, bt_nI (by omega), r_bit _ _ _ (by omega), mBI_s, bI_n1, bt_nI (by omega), nI_1]
    unfold shT
    cases g1 : k.testBit p with
    | true => exact ⟨u, rfl⟩
    | false =>
      cases g2 : k.testBit r with
      | true => exact ⟨u, rfl⟩
      | false =>
        have hb := nbK_le (lP l) (by omega) k hk p hp r hr hpr g1 g2
        have hmo := woN_mono (q := q) hl hp hr (nI k)
        obtain ⟨u1, e1⟩ := r_worthOf d hl a hp hq (nI k ||| (1 <<< (nI r &&& 31))) u
        obtain ⟨u2, e2⟩ := r_worthOf d hl a hp hq (nI k) u1
        rw [cF, Bool.not_false, cT, r_bits, mBI_s, nb_K k (by omega), r_factorial _ (by omega), mBI_s, r_bits, mBI_s, nb_K k (by omega), eL, nI_sub hb, r_factorial _ (by omega), mBI_s, e1, mBI_s, e2, mBI_s, (woN_eq hl hp _).1, (woN_eq hl hp _).1, nI_sub hmo, nI_mul, nI_mul, nI_add]
        exact ⟨u2, rfl⟩)
  rw [pN_self] at hs
  refine ⟨u, Eq.trans hs ?_⟩
  have hsum := sh_sum (q := q) hl hp hr hpr (Nat.le_refl _)
  have f3 := facN_le (lP l - 1) (by omega)
  rw [q_M_share_45, r_everybody _ _ (by rw [pN_ne _ _ (by decide)]; exact lM_P a.1.1), mBI_s, ev_nI _ h1, dlt (by omega) (by omega), dT _ (by omega), cT, r_factorial _ (by omega), mBI_s, nI_l (show mF (fun k s => s + shT l q p r k) (2 ^ lP l) 0 < 2 ^ 31 from hsum), nI_l (by omega)]
  show mBL (Cc (d + 5) n_M_part [.long (lN (smN (2 ^ lP l) (shT l q p r))), .null, .long (lN (facN (lP l - 1))), .null, .int (bI w)] _) _ = _
  rw [r_part _ hsum (by omega) (by omega) w, mBL_s, lN_i]
theorem t_share (D : Nat) (t : tL σ l) (hf : ∀ j, j < 6 → σ.1 301 j = nI (facN j)) (x y z w : Int32) : qry (D + 13) n_E_share n_M_share [.ref 0, .int x, .int y, .int z, .int w, .null, .null, .null, .null, .null, .null, .null] [.ref 200, .int x, .int y, .int z, .int w, .null, .null, .null] σ := by
  have h1 := lvP t.1
  have h3 := lvQ t.1
  obtain ⟨τ, e, s, a⟩ := r_asksPost (D + 2) y t.1 t.2.2.2
  unfold qry
  rw [c_E_share, k_isPair _ x z σ (tP t) (by omega), mBI_s, bI_0, k_isPost _ y σ (tQ t) (by omega), mBI_s, bI_0, k_isPart, mBI_s, bI_n, part_mIn, c_M_share, e, mBI_s, bI_0, r_areTwo _ x z τ (lM_P a.1.1) (by omega), mBI_s, bI_0, r_in, mBI_s, mIn2, bI_n, r_persons, mBI_s, tP t, lM_P a.1.1]
  cases hy : mIn y (lQ l) with
  | false => exact ⟨-2, τ, by simp, by simp, s⟩
  | true =>
    cases hg : (mIn x (lP l) && mIn z (lP l) && !(decide (x = z))) with
    | false => exact ⟨-2, τ, by simp, by simp, s⟩
    | true =>
      cases hw : mIn w 2 with
      | false => exact ⟨-2, τ, by simp, by simp, s⟩
      | true =>
        simp only [Bool.and_eq_true, Bool.not_eq_true', decide_eq_false_iff_not] at hg
        obtain ⟨p, hp, rfl⟩ := mIn_of hg.1.1
        obtain ⟨r, hr, rfl⟩ := mIn_of hg.1.2
        have hpr : p ≠ r := fun e => hg.2 (by rw [e])
        obtain ⟨q, hq, rfl⟩ := mIn_of hy
        obtain ⟨b, rfl⟩ := part_of hw
        obtain ⟨u, eu⟩ := r_share (D + 7) t.1 a hq hp hr hpr b
        have eL : nI (lP l) - 1 = nI (lP l - 1) := by
          have := nI_pred (lP l - 1)
          rwa [show lP l - 1 + 1 = lP l by omega] at this
        simp only [Bool.not_true, cT, cF]
        rw [sub2 (by omega), k_share _ t hf hq hp hr hpr b, eL, eu]
        exact ⟨_, _, rfl, rfl, sM_t s (sM_pN _ u)⟩
