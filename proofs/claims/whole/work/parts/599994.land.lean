/-! ===== a land told ===== -/
variable {σ τ υ : mS} {l : Lv} {B : Nat → Int32} {n : Nat}
/-- a line's end -/
theorem b_end (d : Nat) {e : Nat × Nat} (h : bd τ e) : (mBI (Cc (d + 1) n_M_good [.ref 200] τ) fun r3 τ2 => (bif decide ((r3 : Int32) = 0) then (mBI (Cc (d + 1) n_M_good [.ref 200] τ2) fun r5 τ4 => (bif decide ((r5 : Int32) = 0) then (some (.null, (mUpI τ4 214 8 ((τ4.1 214 8) + (1 : Int32))))) else (mBV (Cc (d + 1) n_M_advance [.ref 200, .null] τ4) fun τ6 => (some (.null, (mUpI τ6 214 8 ((τ6.1 214 8) + (1 : Int32)))))))) else (bif decide (((τ2.1 200 10) : Int32) = 3) then (mBI (Cc (d + 1) n_M_good [.ref 200] τ2) fun r8 τ7 => (bif decide ((r8 : Int32) = 0) then (some (.null, (mUpI τ7 214 8 ((τ7.1 214 8) + (1 : Int32))))) else (mBV (Cc (d + 1) n_M_advance [.ref 200, .null] τ7) fun τ9 => (some (.null, (mUpI τ9 214 8 ((τ9.1 214 8) + (1 : Int32)))))))) else (mBV (Cc (d + 1) n_M_errs [.ref 200, .int 1] τ2) fun τ10 => (mBI (Cc (d + 1) n_M_good [.ref 200] τ10) fun r12 τ11 => (bif decide ((r12 : Int32) = 0) then (some (.null, (mUpI τ11 214 8 ((τ11.1 214 8) + (1 : Int32))))) else (mBV (Cc (d + 1) n_M_advance [.ref 200, .null] τ11) fun τ13 => (some (.null, (mUpI τ13 214 8 ((τ13.1 214 8) + (1 : Int32)))))))))))) = some (.null, sR τ 214 (upd (τ.1 214) 8 (τ.1 214 8 + 1))) := by
  rw [b_good _ h, mBI_s, show decide ((0 : Int32) = 0) = true by decide, cT, b_good _ h, mBI_s, show decide ((0 : Int32) = 0) = true by decide, cT, mUpI_sR]
theorem r_end (d : Nat) (hn : n ≤ 800) (hb : ∀ j, j < n → bw (-128) (B j) 127) {r : Tok × Lv} (h : rdM τ B n r.1 r.2) : rPf (bif decide (r.1.1 = 3) then .ok (nxT B n r.1, addL r.2) else .error (1, r.1.2.1)) (mBI (Cc (d + 2) n_M_good [.ref 200] τ) fun r3 τ2 => (bif decide ((r3 : Int32) = 0) then (mBI (Cc (d + 2) n_M_good [.ref 200] τ2) fun r5 τ4 => (bif decide ((r5 : Int32) = 0) then (some (.null, (mUpI τ4 214 8 ((τ4.1 214 8) + (1 : Int32))))) else (mBV (Cc (d + 2) n_M_advance [.ref 200, .null] τ4) fun τ6 => (some (.null, (mUpI τ6 214 8 ((τ6.1 214 8) + (1 : Int32)))))))) else (bif decide (((τ2.1 200 10) : Int32) = 3) then (mBI (Cc (d + 2) n_M_good [.ref 200] τ2) fun r8 τ7 => (bif decide ((r8 : Int32) = 0) then (some (.null, (mUpI τ7 214 8 ((τ7.1 214 8) + (1 : Int32))))) else (mBV (Cc (d + 2) n_M_advance [.ref 200, .null] τ7) fun τ9 => (some (.null, (mUpI τ9 214 8 ((τ9.1 214 8) + (1 : Int32)))))))) else (mBV (Cc (d + 2) n_M_errs [.ref 200, .int 1] τ2) fun τ10 => (mBI (Cc (d + 2) n_M_good [.ref 200] τ10) fun r12 τ11 => (bif decide ((r12 : Int32) = 0) then (some (.null, (mUpI τ11 214 8 ((τ11.1 214 8) + (1 : Int32))))) else (mBV (Cc (d + 2) n_M_advance [.ref 200, .null] τ11) fun τ13 => (some (.null, (mUpI τ13 214 8 ((τ13.1 214 8) + (1 : Int32)))))))))))) τ (fun (x : Tok × Lv) τ' => rdM τ' B n x.1 x.2) := by
  have hg := h.2.2.2.1
  have hk := h.2.2.1.2.2.1
  rw [r_good _ hg, mBI_s, show decide ((1 : Int32) = 0) = false by decide, cF, h.1.2.2.1, show decide (nI r.1.1 = 3) = decide (r.1.1 = 3) from deq (b := 3) (by omega) (by decide)]
  cases decide (r.1.1 = 3) with
  | true =>
    obtain ⟨τ1, e1, r1, k1⟩ := r_nx d hn hb h
    refine ⟨sR τ1 214 (upd (τ1.1 214) 8 (nI (lLn r.2 + 1))), ?_, rdM_f r1 (lM_Ln' r1.2.1), kF_t (kF_S k1) (kF_f _ _)⟩
    rw [cT, r_good _ hg, mBI_s, show decide ((1 : Int32) = 0) = false by decide, cF, e1, mBV_s, mUpI_sR, lM_Ln r1.2.1, nI_1]
  | false =>
    obtain ⟨τ1, e1, r1, k1⟩ := r_errs d hg h.1.2.2.2.1 (k := 1) (by omega) (by omega)
    have e' : Cc (d + 2) n_M_errs [.ref 200, .int 1] τ = some (.null, τ1) := e1
    refine ⟨_, ?_, bd_f r1 (upd (τ1.1 214) 8 (τ1.1 214 8 + 1)), kF_t (kF_S k1) (kF_f _ _)⟩
    rw [cF, e', mBV_s, b_good _ r1, mBI_s, show decide ((0 : Int32) = 0) = true by decide, cT, mUpI_sR]
theorem r_readLine (d : Nat) (hn : n ≤ 800) (hb : ∀ j, j < n → bw (-128) (B j) 127) {T : Tok} (h : rdM τ B n T l) (hw : lvW l) (hln : lLn l ≤ 800) : rPf (pLine B n T l) (Cc (d + 8) n_M_readLine [.ref 200] τ) τ (fun (x : Tok × Lv) τ' => rdM τ' B n x.1 x.2) := by
  rw [c_M_readLine, lM_Ln h.2.1, show decide (¬ nI (lLn l) = 0) = decide (¬ lLn l = 0) from dne (b := 0) (by omega) (by decide), decide_not]
  unfold pLine
  cases decide (lLn l = 0) with
  | true =>
    rw [Bool.not_true, cF]
    have q := r_readFirst (d + 1) hn hb h
    have ep : (bif true == isW B 310 T then pBd (bif true then pOpen B n T l else pLater B n T l) (fun r => bif decide (r.1.1 = 3) then .ok (nxT B n r.1, addL r.2) else .error (1, r.1.2.1)) else .error (1, T.2.1)) = pBd (pFirst B n T l) (fun r => bif decide (r.1.1 = 3) then .ok (nxT B n r.1, addL r.2) else .error (1, r.1.2.1)) := by
      unfold pFirst
      cases isW B 310 T <;> rfl
    rw [ep]
    cases hx : pFirst B n T l with
    | error e =>
      rw [hx] at q
      obtain ⟨τ1, a, b, c⟩ := q
      exact ⟨_, by rw [a, mBV_s, b_end (d + 6) b], bd_f b _, kF_t c (kF_f _ _)⟩
    | ok x =>
      rw [hx] at q
      obtain ⟨τ1, a, b, c⟩ := q
      rw [a, mBV_s]
      exact rPf_k c (r_end (d + 5) hn hb b)
  | false =>
    rw [Bool.not_false, cT]
    have q := r_readNext d hn hb h hw
    have ep : (bif false == isW B 310 T then pBd (bif false then pOpen B n T l else pLater B n T l) (fun r => bif decide (r.1.1 = 3) then .ok (nxT B n r.1, addL r.2) else .error (1, r.1.2.1)) else .error (1, T.2.1)) = pBd (pLater B n T l) (fun r => bif decide (r.1.1 = 3) then .ok (nxT B n r.1, addL r.2) else .error (1, r.1.2.1)) := by
      cases h0 : isW B 310 T with
      | false => rfl
      | true =>
        have x4 := isW_l (s' := 314) h0 (by decide)
        have x5 := isW_l (s' := 315) h0 (by decide)
        have x6 := isW_l (s' := 316) h0 (by decide)
        have x7 := isW_l (s' := 317) h0 (by decide)
        have x8 := isW_x (s' := 318) h0 (by decide) (by decide) (by rw [c310, c318]; decide)
        unfold pLater
        rw [x4, x5, x6, x7, x8]
        rfl
    rw [ep]
    cases hx : pLater B n T l with
    | error e =>
      rw [hx] at q
      obtain ⟨τ1, a, b, c⟩ := q
      exact ⟨_, by rw [a, mBV_s, b_end (d + 6) b], bd_f b _, kF_t c (kF_f _ _)⟩
    | ok x =>
      rw [hx] at q
      obtain ⟨τ1, a, b, c⟩ := q
      rw [a, mBV_s]
      exact rPf_k c (r_end (d + 5) hn hb b)
theorem r_land53 (d : Nat) (hn : n ≤ 800) (hb : ∀ j, j < n → bw (-128) (B j) 127) (v : Value) : ∀ m (T : Tok) (l : Lv) (τ : mS), lLn l + m = n + 1 → rdM τ B n T l → pI n T l → match pAll B n m T l with
    | .error e => ∃ τ', Xx (d + 8) n_M_land 53 [.ref 200, v] [] τ = some (.int (-4), τ') ∧ bd τ' e ∧ kF τ τ'
    | .ok x => ∃ τ', Xx (d + 8) n_M_land 53 [.ref 200, v] [] τ = Xx (d + 8) n_M_land 86 [.ref 200, .int 0] [] τ' ∧ lM (τ'.1 214) x ∧ τ'.1 200 12 = 0 ∧ τ'.1 200 13 = -1 ∧ kF τ τ' := by
  intro m
  induction m with
  | zero =>
    intro T l τ hm h hI
    exfalso
    have := hI.2.2.1
    have := hI.1.1
    have := hI.1.2.1
    omega
  | succ m ih =>
    intro T l τ hm h hI
    have hg := h.2.2.2.1
    have hk := h.2.2.1.2.2.1
    have e0 : Xx (d + 8) n_M_land 53 [.ref 200, v] [] τ = (bif decide (T.1 = 0) then Xx (d + 8) n_M_land 86 [.ref 200, .int 0] [] τ else (mBV (Cc (d + 8) n_M_readLine [.ref 200] τ) fun τ7 => Xx (d + 8) n_M_land 53 [.ref 200, v] [] τ7)) := by
      rw [q_M_land_53, r_good _ hg, mBI_s, show decide ((1 : Int32) = 0) = false by decide, cF, h.1.2.2.1, show decide (nI T.1 = 0) = decide (T.1 = 0) from deq (b := 0) (by omega) (by decide), r_good _ hg, mBI_s, show decide (¬ (1 : Int32) = 0) = true by decide, cT]
    have ep : pAll B n (m + 1) T l = bif decide (T.1 = 0) then .ok l else pBd (pLine B n T l) fun r => pAll B n m r.1 r.2 := rfl
    rw [e0, ep]
    by_cases g : T.1 = 0
    · rw [dT _ g, cT, cT]
      exact ⟨τ, rfl, h.2.1, hg, h.2.2.2.2, kF_r τ⟩
    · rw [dF _ g, cF, cF]
      have q := r_readLine d hn hb h hI.2.1.1 (by omega)
      cases hx : pLine B n T l with
      | error e =>
        rw [hx] at q
        obtain ⟨τ1, a, b, c⟩ := q
        refine ⟨τ1, ?_, b, c⟩
        rw [a, mBV_s, q_M_land_53, b_good _ b, mBI_s, show decide ((0 : Int32) = 0) = true by decide, cT, b_good _ b, mBI_s, show decide (¬ (0 : Int32) = 0) = false by decide, cF]
      | ok x =>
        rw [hx] at q
        obtain ⟨τ1, a, b, c⟩ := q
        obtain ⟨i1, i2⟩ := line_ok hx hI g
        have := ih x.1 x.2 τ1 (by omega) b i1
        rw [a, mBV_s]
        show match pAll B n m x.1 x.2 with
          | .error e => _
          | .ok y => _
        cases hy : pAll B n m x.1 x.2 with
        | error e =>
          rw [hy] at this
          obtain ⟨τ2, a2, b2, c2⟩ := this
          exact ⟨τ2, a2, b2, kF_t c c2⟩
        | ok y =>
          rw [hy] at this
          obtain ⟨τ2, a2, b2, c2, d2, e2⟩ := this
          exact ⟨τ2, a2, b2, c2, d2, kF_t c e2⟩
theorem r_land30 (d : Nat) (σ : mS) : ∃ τ, Xx d n_M_land 30 [.ref 200, .int 0] [] σ = Xx d n_M_land 30 [.ref 200, .int (nI 123)] [] τ ∧ (∀ j, j < 123 → τ.1 214 j = 0) ∧ (∀ a, a ≠ 214 → τ.1 a = σ.1 a) ∧ τ.2 = σ.2 := by
  obtain ⟨τ, e, i1, i2, i3⟩ := mForI (fun k (_ : Unit) (t : mS) => Xx d n_M_land 30 [.ref 200, .int (nI k)] [] t) (fun k t => (∀ j, j < k → t.1 214 j = 0) ∧ (∀ a, a ≠ 214 → t.1 a = σ.1 a) ∧ t.2 = σ.2) (fun _ a => a) 123 () σ ⟨fun j h => absurd h (by omega), fun _ _ => rfl, rfl⟩ (by
    intro k t hk hI
    refine ⟨sR t 214 (upd (t.1 214) k 0), ?_, fun j hj => ?_, fun a ha => ?_, hI.2.2⟩
    · rw [q_M_land_30, show decide ((123 : Int32) ≤ nI k) = false from decide_eq_false (nI_ge (b := 123) hk (by decide)), cF, mIn_nI (by omega) (by omega), cT, nI_clamp (by omega), nI_1, mUpI_sR]
    · rw [sR_at]
      by_cases g : j = k
      · rw [g, upd_at]
      · rw [upd_ne _ _ g]; exact hI.1 j (by omega)
    · rw [sR_ne _ _ ha]; exact hI.2.1 a ha)
  exact ⟨τ, e, i1, i2, i3⟩
theorem r_land86 (d : Nat) (σ : mS) : ∃ τ, Xx d n_M_land 86 [.ref 200, .int 0] [] σ = some (.int (τ.1 201 8), τ) ∧ (∀ j, j < 123 → τ.1 201 j = σ.1 214 j) ∧ (∀ a, a ≠ 201 → τ.1 a = σ.1 a) ∧ τ.2 = σ.2 := by
  obtain ⟨τ, e, i1, i2, i3⟩ := mForI (fun k (_ : Unit) (t : mS) => Xx d n_M_land 86 [.ref 200, .int (nI k)] [] t) (fun k t => (∀ j, j < k → t.1 201 j = σ.1 214 j) ∧ (∀ a, a ≠ 201 → t.1 a = σ.1 a) ∧ t.2 = σ.2) (fun _ a => a) 123 () σ ⟨fun j h => absurd h (by omega), fun _ _ => rfl, rfl⟩ (by
    intro k t hk hI
    refine ⟨sR t 201 (upd (t.1 201) k (t.1 214 k)), ?_, fun j hj => ?_, fun a ha => ?_, hI.2.2⟩
    · rw [q_M_land_86, show decide ((123 : Int32) ≤ nI k) = false from decide_eq_false (nI_ge (b := 123) hk (by decide)), cF, mIn_nI (by omega) (by omega), cT, cT, nI_clamp (by omega), nI_1, mUpI_sR]
    · rw [sR_at]
      by_cases g : j = k
      · rw [g, upd_at, hI.2.1 214 (by decide)]
      · rw [upd_ne _ _ g]; exact hI.1 j (by omega)
    · rw [sR_ne _ _ ha]; exact hI.2.1 a ha)
  refine ⟨τ, Eq.trans e ?_, i1, i2, i3⟩
  rw [q_M_land_86, show decide ((123 : Int32) ≤ nI 123) = true by decide, cT]
/-- what the reference's reading leaves, the land aside -/
def kN2 (σ τ : mS) : Prop := (∀ a, a ≠ 200 → a ≠ 214 → a ≠ 201 → τ.1 a = σ.1 a) ∧ τ.2 = σ.2
theorem r_land (d : Nat) (hn : n ≤ 800) (hb : ∀ j, j < n → bw (-128) (B j) 127) (h5 : τ.1 200 5 = nI n) (hB : ∀ j, j < n → τ.1 204 j = B j) : ∃ τ', kN2 τ τ' ∧ τ'.1 200 5 = 0 ∧ match pRead B n with
    | .error e => Cc (d + 9) n_M_land [.ref 200, .null] τ = some (.int (-4), τ') ∧ τ'.1 200 12 = nI e.1 ∧ τ'.1 200 13 = nI e.2 ∧ τ'.1 201 = τ.1 201
    | .ok x => Cc (d + 9) n_M_land [.ref 200, .null] τ = some (.int (nI (lLn x)), τ') ∧ lM (τ'.1 201) x ∧ τ'.1 200 12 = 0 ∧ τ'.1 200 13 = -1 := by
  have e0 : mUpI (mUpI (mUpI (mUpI (mUpI τ 200 7 (τ.1 200 5)) 200 5 0) 200 8 0) 200 12 0) 200 13 (-1) = sR τ 200 (upd (upd (upd (upd (upd (τ.1 200) 7 (nI n)) 5 0) 8 0) 12 0) 13 (-1)) := by
    simp only [mUpI_sR, sR_sR, sR_at, h5]
  obtain ⟨τ1, e1, c1, c2, c3⟩ := r_land30 (d + 8) (sR τ 200 (upd (upd (upd (upd (upd (τ.1 200) 7 (nI n)) 5 0) 8 0) 12 0) 13 (-1)))
  have f200 : τ1.1 200 = upd (upd (upd (upd (upd (τ.1 200) 7 (nI n)) 5 0) 8 0) 12 0) 13 (-1) := by rw [c2 200 (by decide), sR_at]
  have f204 : ∀ j, j < n → τ1.1 204 j = B j := fun j hj => by rw [c2 204 (by decide), sR_ne _ _ (by decide)]; exact hB j hj
  have hE : lM (τ1.1 214) emp := by
    refine ⟨⟨c1 0 (by decide), c1 1 (by decide), c1 2 (by decide), c1 3 (by decide), c1 4 (by decide), c1 5 (by decide), c1 6 (by decide), c1 7 (by decide), c1 8 (by decide)⟩, fun p hp => absurd hp (Nat.not_lt_zero _), fun c hc => c1 _ (by omega), fun q hq => absurd hq (Nat.not_lt_zero _), (fun i x hx => by cases hx), (fun i x hx => by cases hx)⟩
  obtain ⟨τ2, e2, r2, k2⟩ := r_advance (d + 6) hn hb (Nat.zero_le n) (τ := τ1) (by rw [f200]; rfl) f204 (by rw [f200]; rfl)
  have hr : rdM τ2 B n (tok B n 0) emp := ⟨r2, by rw [k2.1 214 (by decide)]; exact hE, (tok_O B (Nat.zero_le n)).1, by rw [k2.2.1 12 (by omega), f200]; rfl, by rw [k2.2.1 13 (by omega), f200]; rfl⟩
  have key := r_land53 d hn hb (.int (nI 123)) (n + 1) (tok B n 0) emp τ2 (Nat.zero_add _) hr pI_0
  have ec : Cc (d + 9) n_M_land [.ref 200, .null] τ = Xx (d + 8) n_M_land 53 [.ref 200, .int (nI 123)] [] τ2 := by
    rw [c_M_land, e0, e1, q_M_land_30, show decide ((123 : Int32) ≤ nI 123) = true by decide, cT, e2, mBV_s]
  have base : ∀ a, a ≠ 200 → a ≠ 214 → τ2.1 a = τ.1 a := fun a a1 a2 => by rw [k2.1 a a1, c2 a a2, sR_ne _ _ a1]
  have base2 : τ2.2 = τ.2 := by rw [k2.2.2, c3]; rfl
  have f5 : τ2.1 200 5 = 0 := by rw [k2.2.1 5 (by omega), f200]; rfl
  unfold pRead
  cases hp : pAll B n (n + 1) (tok B n 0) emp with
  | error e =>
    rw [hp] at key
    obtain ⟨τ3, a, b, c⟩ := key
    exact ⟨τ3, ⟨fun q q1 q2 _ => by rw [c.1 q q1 q2, base q q1 q2], by rw [c.2.2, base2]⟩, by rw [c.2.1 5 (by omega), f5], ec.trans a, b.1, b.2.1, by rw [c.1 201 (by decide) (by decide), base 201 (by decide) (by decide)]⟩
  | ok x =>
    rw [hp] at key
    obtain ⟨τ3, a, b, c, g, k⟩ := key
    obtain ⟨τ4, e4, i1, i2, i3⟩ := r_land86 (d + 8) τ3
    have hM : lM (τ4.1 201) x := lM_f (read_ok hn hp) b i1
    refine ⟨τ4, ⟨fun q q1 q2 q3 => by rw [i2 q q3, k.1 q q1 q2, base q q1 q2], by rw [i3, k.2.2, base2]⟩, by rw [i2 200 (by decide), k.2.1 5 (by omega), f5], ?_, hM, by rw [i2 200 (by decide)]; exact c, by rw [i2 200 (by decide)]; exact g⟩
    rw [ec, a, e4, lM_Ln hM]

