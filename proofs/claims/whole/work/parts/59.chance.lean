/-! ===== thaws by chance ===== -/
variable {σ τ : mS} {l : Lv}
theorem bt_nI {s : Nat} {k : Nat} (hk : k < 32) : bt (nI s) k = s.testBit k := by
  show (BitVec.ofNat 32 s).getLsbD k = _
  rw [BitVec.getLsbD_ofNat, decide_eq_true hk, Bool.true_and]
def wtN (o s n : Nat) : Nat := mF (fun k w => w * (bif s.testBit k then o else 10 - o)) n 1
theorem wtN_le {o : Nat} (ho : o ≤ 10) (s n : Nat) : wtN o s n ≤ 10 ^ n := by
  unfold wtN
  refine mF_inv (fun k w => w ≤ 10 ^ k) _ n 1 (Nat.le_refl _) (fun k w _ h => ?_) n (Nat.le_refl _)
  rw [Nat.pow_succ]
  refine Nat.mul_le_mul h ?_
  cases s.testBit k <;> simp only [cond_true, cond_false] <;> omega
theorem wtN_eq {o s t n : Nat} (h : ∀ k, k < n → s.testBit k = t.testBit k) : wtN o s n = wtN o t n := mF_congr _ _ n 1 (fun k hk => by rw [h k hk])
def smN (n : Nat) (f : Nat → Nat) : Nat := mF (fun k a => a + f k) n 0
theorem smN_eq {n : Nat} {f g : Nat → Nat} (h : ∀ k, k < n → f k = g k) : smN n f = smN n g := mF_congr _ _ n 0 (fun k hk => by rw [h k hk])
theorem smN_mul (n : Nat) (f : Nat → Nat) (c : Nat) : smN n (fun k => f k * c) = smN n f * c := by
  unfold smN
  refine mF_rel (fun _ (a b : Nat) => a = b * c) _ _ n 0 0 (by rw [Nat.zero_mul]) (fun k a b _ h => ?_)
  rw [h, Nat.add_mul]
theorem smN_add (m n : Nat) (f : Nat → Nat) : smN (m + n) f = smN m f + smN n (fun k => f (m + k)) := by
  induction n with
  | zero => rfl
  | succ n ih =>
    show smN (m + n) f + f (m + n) = smN m f + (smN n (fun k => f (m + k)) + f (m + n))
    rw [ih, Nat.add_assoc]
theorem smN_le {n c : Nat} {f g : Nat → Nat} (h : ∀ k, k < n → f k ≤ g k * c) : smN n f ≤ smN n g * c := by
  unfold smN
  refine mF_rel (fun _ (a b : Nat) => a ≤ b * c) _ _ n 0 0 (by omega) (fun k a b hk hab => ?_)
  have := h k hk
  rw [Nat.add_mul]
  omega
theorem wt_sum {o : Nat} (ho : o ≤ 10) (n : Nat) : smN (2 ^ n) (fun s => wtN o s n) = 10 ^ n := by
  induction n with
  | zero => rfl
  | succ n ih =>
    rw [show 2 ^ (n + 1) = 2 ^ n + 2 ^ n by rw [Nat.pow_succ]; omega, smN_add]
    have e1 : smN (2 ^ n) (fun s => wtN o s (n + 1)) = smN (2 ^ n) (fun s => wtN o s n * (10 - o)) := smN_eq (fun s hs => by
      show wtN o s n * (bif s.testBit n then o else 10 - o) = _
      rw [Nat.testBit_lt_two_pow hs, cF])
    have e2 : smN (2 ^ n) (fun k => wtN o (2 ^ n + k) (n + 1)) = smN (2 ^ n) (fun s => wtN o s n * o) := smN_eq (fun s hs => by
      show wtN o (2 ^ n + s) n * (bif (2 ^ n + s).testBit n then o else 10 - o) = _
      rw [Nat.testBit_two_pow_add_eq, Nat.testBit_lt_two_pow hs, Bool.not_false, cT, wtN_eq (fun k hk => Nat.testBit_two_pow_add_gt hk s)])
    rw [e1, e2, smN_mul, smN_mul, ih, ← Nat.mul_add, show 10 - o + o = 10 by omega, Nat.pow_succ]
theorem sh1 : ∀ n, n < 31 → (1 : Int32) <<< (nI n &&& 31) = nI (2 ^ n) := by decide +kernel
theorem sub10 {o : Nat} (ho : o ≤ 10) : (10 : Int32) - nI o = nI (10 - o) := nI_sub (a := o) (b := 10) ho
theorem k_weightOf (d : Nat) (t : tL σ l) {o : Nat} (ho : lOdd l = nI o) (h10 : o ≤ 10) {s n : Nat} (hs : s < 2 ^ 31) (hn : n ≤ 8) : Cc (d + 2) n_E_weightOf [.ref 0, .int (nI s), .int (nI n), .null, .null, .null] σ = some (.long (lN (wtN o s n)), σ) := by
  have hodd : σ.1 40 2 = nI o := t.2.1.1.2.2.1.trans ho
  rw [c_E_weightOf]
  have hs := mFor (fun k (w : Nat) => Xx (d + 1) n_E_weightOf 5 [.ref 0, .int (nI s), .int (nI n), .long (lN w), .null, .int (nI k)] [] σ) (fun k w => w * (bif s.testBit k then o else 10 - o)) n 1 (by
    intro k hk
    generalize mF _ k (1 : Nat) = w
    rw [q_E_weightOf_5, dle (by omega) (by omega), dF _ (by omega), cF, k_isIn _ _ (by omega), mBI_s, bI_0, bt_nI (by omega), hodd, sub10 h10, nI_l (by omega), nI_l (by omega), lN_mul, lN_mul, nI_1]
    cases s.testBit k <;> rfl)
  exact Eq.trans hs (by rw [q_E_weightOf_5, dT _ (Int32.le_refl _), cT] <;> rfl)
theorem cV_th {v : Va} (h : cV σ 30 l v) (th : Int32) : cV (mUpI σ 30 2 th) 30 l (v.1, th, v.2.2) := by
  obtain ⟨a1, a2, a3, a4, a5⟩ := h
  refine ⟨?_, rfl, ?_, ?_, ?_⟩
  · rw [mUpI_sR, sR_at, upd_ne _ _ (by decide)]; exact a1
  · rw [mUpI_sR, sR_at, upd_ne _ _ (by decide)]; exact a3
  · rw [mUpI_sR, sR_ne _ _ (by decide)]; exact a4
  · rw [mUpI_sR, sR_ne _ _ (by decide)]; exact a5
def chF (l : Lv) (p q s : Nat) : Nat := (decide (win l (vT l (nI s)) q = some p)).toNat
def meF (l : Lv) (s : Nat) : Nat := gm l (vT l (nI s))
def abv (o n : Nat) (f : Nat → Nat) : Nat := smN (2 ^ n) (fun s => wtN o s n * f s)
theorem abv_le {o n : Nat} (ho : o ≤ 10) {f : Nat → Nat} (hf : ∀ s, f s ≤ 6) : abv o n f ≤ 10 ^ n * 6 := by
  unfold abv
  rw [← wt_sum ho n]
  exact smN_le (fun k _ => Nat.mul_le_mul_left _ (hf k))
theorem chF_le (p q s : Nat) : chF l p q s ≤ 6 := by unfold chF; cases decide (win l (vT l (nI s)) q = some p) <;> simp
theorem meF_le (hl : lvOK l) (s : Nat) : meF l s ≤ 6 := nb_le _ (gvnS_bw (lvQ hl) _)
theorem p10 {n : Nat} (hn : n ≤ 8) : 10 ^ n * 6 < 2 ^ 31 := by
  have : 10 ^ n ≤ 10 ^ 8 := Nat.pow_le_pow_right (by omega) hn
  omega
/-- the class's loops, for a post of one's or for all -/
theorem k_chance28 (d : Nat) (t : tL σ l) {o : Nat} (ho : lOdd l = nI o) (h10 : o ≤ 10) {n : Nat} (hn : n ≤ 8) (x1 x2 : Int32) (w : Bool) (f : Nat → Nat) (hf : ∀ s, f s ≤ 6) (hV : cV σ 30 l (vT l 0))
    (step : ∀ (τ : mS) (s : Nat) (K : Int64 → mS → mR), tL τ l → cR τ 30 l (vT l (nI s)) → (bif decide (¬ x2 = (-1)) then (mBI (Cc (d + 6) n_Co_times [.ref 30, .int x1, .int x2] τ) fun r5 τ4 => K r5.toInt64 τ4) else (mBI (Cc (d + 6) n_Co_postsGiven [.ref 30, .null, .null] τ) fun r7 τ6 => (mBI (Cc (d + 6) n_In_bitCount [.int r7] τ6) fun r9 τ8 => K r9.toInt64 τ8))) = K (lN (f s)) τ) :
    ∃ τ, Xx (d + 6) n_E_byChance 28 [.ref 0, .int x1, .int x2, .int (bI w), .int (nI n), .long 0, .null, .int 0, .null, .null] [] σ = some (.long (lN (fpN (abv o n f) (10 ^ n) w)), τ) ∧ sC σ τ := by
  have h256 : 2 ^ n ≤ 2 ^ 8 := Nat.pow_le_pow_right (by omega) hn
  have hp := p10 hn
  have hp2 : 10 ^ n < 2 ^ 31 := by omega
  have hab : abv o n f < 2 ^ 31 := Nat.lt_of_le_of_lt (abv_le h10 hf) hp
  obtain ⟨⟨v8, v9, τ⟩, hs, hI⟩ := mForI (fun k (a : Nat) (b : Value × Value × mS) => Xx (d + 6) n_E_byChance 28 [.ref 0, .int x1, .int x2, .int (bI w), .int (nI n), .long (lN a), .null, .int (nI k), b.1, b.2.1] [] b.2.2) (fun _ b => tL b.2.2 l ∧ sC σ b.2.2 ∧ ∃ th, cV b.2.2 30 l (vT l th)) (fun k a => a + wtN o k n * f k) (2 ^ n) 0 (.null, .null, σ) ⟨t, sC_r σ, 0, hV⟩ (by
    intro k b hk hI
    obtain ⟨i1, i2, th, i3⟩ := hI
    generalize mF _ k (0 : Nat) = a
    have hw : wtN o k n < 2 ^ 31 := Nat.lt_of_le_of_lt (wtN_le h10 k n) hp2
    have hd : decide (lg_cmp (lN (wtN o k n)) 0 ≤ 0) = decide (wtN o k n ≤ 0) := decide_eq_decide.mpr ((lg_cmp_le _ _).trans (lN_le (a := wtN o k n) (b := 0) hw (by decide)))
    rw [q_E_byChance_28, sh1 n (by omega), dle (by omega) (by omega), dF _ (by omega), cF, k_weightOf _ i1 ho h10 (by omega) hn, mBL_s, hd, nI_1]
    by_cases g : wtN o k n ≤ 0
    · rw [dT _ g, cT]
      refine ⟨(.long (lN (wtN o k n)), .null, b.2.2), ?_, i1, i2, th, i3⟩
      dsimp only
      rw [show a + wtN o k n * f k = a by rw [show wtN o k n = 0 by omega, Nat.zero_mul]; rfl]
    · rw [dF _ g, cF]
      have o2 : kO 30 b.2.2 (mUpI b.2.2 30 2 (nI k)) := kO_u _ (by omega) (by omega) _ _
      obtain ⟨τ2, e2, o3, t2, c2⟩ := k_runT (d + 1) (tL_sC i1 (sC_k o2)) (vT_ok t.1 (nI k)) (cV_th i3 (nI k))
      refine ⟨(.long (lN (wtN o k n)), .null, τ2), ?_, t2, sC_t i2 (sC_k (kO_t o2 o3)), nI k, c2.1⟩
      rw [e2, mBV_s]
      have st := step τ2 k (fun x τ => Xx (d + 6) n_E_byChance 28 [.ref 0, .int x1, .int x2, .int (bI w), .int (nI n), .long (lN a + lN (wtN o k n) * x), .null, .int (nI (k + 1)), .long (lN (wtN o k n)), .null] [] τ) t2 c2
      refine Eq.trans st ?_
      dsimp only
      rw [lN_mul, lN_add])
  refine ⟨τ, Eq.trans hs ?_, hI.2.1⟩
  rw [q_E_byChance_28, sh1 n (by omega), dT _ (Int32.le_refl _), cT]
  show Xx (d + 6) n_E_byChance 118 [.ref 0, .int x1, .int x2, .int (bI w), .int (nI n), .long (lN (abv o n f)), .null, .long (lN 1), .null, .int (nI 0)] [] τ = _
  have h2 := mFor (fun k (b : Nat) => Xx (d + 6) n_E_byChance 118 [.ref 0, .int x1, .int x2, .int (bI w), .int (nI n), .long (lN (abv o n f)), .null, .long (lN b), .null, .int (nI k)] [] τ) (fun _ b => b * 10) n 1 (by
    intro k hk
    generalize mF _ k (1 : Nat) = b
    rw [q_E_byChance_118, dle (by omega) (by omega), dF _ (by omega), cF, show (10 : Int64) = lN 10 from rfl, lN_mul, nI_1])
  have e10 : mF (fun _ b => b * 10) n 1 = 10 ^ n := by
    clear h2 hs hab hp2 hp h256 hn
    induction n with
    | zero => rfl
    | succ n ih => show mF (fun _ b => b * 10) n 1 * 10 = _; rw [ih, Nat.pow_succ]
  rw [e10] at h2
  refine Eq.trans h2 ?_
  rw [q_E_byChance_118, dT _ (Int32.le_refl _), cT, k_fraction _ hab hp2 (Nat.pow_pos (by omega)) w, mBL_s]
theorem gaps {Y : Nat} (h : 0 < Y) (h2 : Y < 2 ^ 31) : vMx (nI Y - 1) 0 = nI (Y - 1) := by
  have := nI_pred (Y - 1)
  rw [show Y - 1 + 1 = Y by omega] at this
  rw [this]
  unfold vMx
  exact if_neg (nI_pos (by omega))
theorem k_byChance1 (d : Nat) (t : tL σ l) (hY : 0 < lY l) (hY9 : lY l ≤ 9) {o : Nat} (ho : lOdd l = nI o) (h10 : o ≤ 10) {p q : Nat} (hp : p < lP l) (hq : q < lQ l) (w : Bool) : ∃ τ, Cc (d + 7) n_E_byChance [.ref 0, .int (nI p), .int (nI q), .int (bI w), .null, .null, .null, .null, .null, .null] σ = some (.long (lN (fpN (abv o (lY l - 1) (chF l p q)) (10 ^ (lY l - 1)) w)), τ) ∧ sC σ τ := by
  have h1 := lvP t.1
  have h3 := lvQ t.1
  obtain ⟨τ1, e1, o1, t1, v1⟩ := k_resetT (d + 4) t
  obtain ⟨τ2, e2, s2⟩ := k_chance28 d t1 ho h10 (n := lY l - 1) (by omega) (nI p) (nI q) w (chF l p q) (chF_le p q) v1 (by
    intro τ s K tt c
    rw [nI_m1n (by omega), cT, k_times _ c.2.2.2 (win_big t.1) (by omega) (by omega), mBI_s]
    unfold chF
    cases decide (win l (vT l (nI s)) q = some p) <;> rfl)
  refine ⟨τ2, ?_, sC_t (sC_k o1) s2⟩
  rw [c_E_byChance, e1, mBV_s, tY t, gaps hY (by omega)]
  exact e2
theorem k_byChance0 (d : Nat) (t : tL σ l) (hY : 0 < lY l) (hY9 : lY l ≤ 9) {o : Nat} (ho : lOdd l = nI o) (h10 : o ≤ 10) (w : Bool) : ∃ τ, Cc (d + 7) n_E_byChance [.ref 0, .int (-1), .int (-1), .int (bI w), .null, .null, .null, .null, .null, .null] σ = some (.long (lN (fpN (abv o (lY l - 1) (meF l)) (10 ^ (lY l - 1)) w)), τ) ∧ sC σ τ := by
  obtain ⟨τ1, e1, o1, t1, v1⟩ := k_resetT (d + 4) t
  obtain ⟨τ2, e2, s2⟩ := k_chance28 d t1 ho h10 (n := lY l - 1) (by omega) (-1) (-1) w (meF l) (meF_le t.1) v1 (by
    intro τ s K tt c
    rw [m1n, cF, k_gm (d + 5) tt c (fun r9 τ8 => K r9.toInt64 τ8), nI_l (gm_lt t.1 _)]
    rfl)
  refine ⟨τ2, ?_, sC_t (sC_k o1) s2⟩
  rw [c_E_byChance, e1, mBV_s, tY t, gaps hY (by omega)]
  exact e2
