/-! ===== reading: the class's lines ===== -/
variable {σ τ : mS} {l : Lv} {B : Nat → Int32} {n : Nat}
theorem k_readLater (d : Nat) (hn : n ≤ 800) {T : Tok} (h : rdL σ B n T l) (hw : lvW l) : kP (pLater B n T l) (Cc (d + 6) n_Re_readLater [.ref 3] σ) σ (fun x τ => rdL τ B n x.1 x.2) := by
  have w : ∀ s, isTx s → Cc (d + 5) n_Re_isWord [.ref 3, .ref s, .null] σ = some (.int (bI (isW B s T)), σ) := fun s hs => k_isWord (d + 4) hs hn h.1 h.2.2
  rw [c_Re_readLater, w 314 (by unfold isTx; omega), mBI_s, bI_0, w 315 (by unfold isTx; omega), mBI_s, bI_0, w 316 (by unfold isTx; omega), mBI_s, bI_0, w 317 (by unfold isTx; omega), mBI_s, bI_0, w 318 (by unfold isTx; omega), mBI_s, bI_0]
  unfold pLater
  cases isW B 314 T with
  | true => exact kP_z (k_readPerson (d + 1) hn h hw)
  | false =>
    cases isW B 315 T with
    | true => exact kP_z (k_readBond d hn h hw 1)
    | false =>
      cases isW B 316 T with
      | true => exact kP_z (k_readBond d hn h hw (-1))
      | false =>
        cases isW B 317 T with
        | true => exact kP_z (k_readWrong d hn h hw)
        | false =>
          cases isW B 318 T with
          | true => exact kP_z (k_readPost (d + 1) hn h hw)
          | false => exact kP_z (k_refuse _ 1 _ h.1.2.2.2.1 _)
theorem isW_len {s : Nat} {T : Tok} (h : isW B s T = true) : T.2.2.1 - T.2.1 = tl s := by
  unfold isW at h
  rw [Bool.and_eq_true, Bool.and_eq_true] at h
  exact of_decide_eq_true h.2.1
theorem isW_c {s : Nat} {T : Tok} (h : isW B s T = true) (hl : 0 < tl s) : B T.2.1 = Int32.ofNat (w0.2.1 s 0) := by
  unfold isW at h
  rw [Bool.and_eq_true, Bool.and_eq_true] at h
  have := mFst_none _ _ _ (Option.isNone_iff_eq_none.mp h.2.2) 0 (by omega) (by omega)
  rw [Bool.not_eq_false'] at this
  exact of_decide_eq_true this
theorem isW_l {s s' : Nat} {T : Tok} (h : isW B s T = true) (hl : tl s ≠ tl s') : isW B s' T = false := by
  cases h' : isW B s' T with
  | false => rfl
  | true => exact absurd ((isW_len h).symm.trans (isW_len h')) hl
theorem isW_x {s s' : Nat} {T : Tok} (h : isW B s T = true) (h0 : 0 < tl s) (h0' : 0 < tl s') (hc : Int32.ofNat (w0.2.1 s 0) ≠ Int32.ofNat (w0.2.1 s' 0)) : isW B s' T = false := by
  cases h' : isW B s' T with
  | false => rfl
  | true => exact absurd ((isW_c h h0).symm.trans (isW_c h' h0')) hc
theorem c315 : Int32.ofNat (w0.2.1 315 0) = 108 := rfl
theorem c316 : Int32.ofNat (w0.2.1 316 0) = 104 := rfl
theorem c317 : Int32.ofNat (w0.2.1 317 0) = 119 := rfl
theorem c318 : Int32.ofNat (w0.2.1 318 0) = 112 := rfl
theorem c310 : Int32.ofNat (w0.2.1 310 0) = 108 := rfl
/-- a line's end -/
noncomputable def pEnd (B : Nat → Int32) (n : Nat) (r : Tok × Lv) : Pr (Tok × Lv) := bif decide (r.1.1 = 3) then .ok (nxT B n r.1, addL r.2) else .error (1, r.1.2.1)
theorem pLine_a (T : Tok) : pLine B n T l = pBd (bif decide (lLn l = 0) then pFirst B n T l else pLater B n T l) (pEnd B n) := by
  unfold pLine pFirst
  cases decide (lLn l = 0) with
  | true => cases isW B 310 T <;> rfl
  | false =>
    cases h0 : isW B 310 T with
    | false => rfl
    | true =>
      have x4 := isW_l (s' := 314) h0 (by decide)
      have x5 := isW_l (s' := 315) h0 (by decide)
      have x6 := isW_l (s' := 316) h0 (by decide)
      have x7 := isW_l (s' := 317) h0 (by decide)
      have x8 := isW_x (s' := 318) h0 (by decide) (by decide) (by rw [c310, c318]; decide)
      unfold pLater
      rw [x4, x5, x6, x7, x8]
      rfl
theorem kP_bv {α β : Type} {r : Pr α} {f : α → Pr β} {c : mR} {K : Int32 → mS → mR} {post : α → mS → Prop} {post' : β → mS → Prop} (h : kP r c σ post) (hK : ∀ x τ, r = .ok x → post x τ → kL σ τ → kP (f x) (K 1 τ) τ post') : kP (pBd r f) (mBI c fun r τ => bif decide (r = 0) then some (.int 0, τ) else K r τ) σ post' := by
  cases r with
  | error e =>
    obtain ⟨τ', a, b, c', d⟩ := h
    exact ⟨τ', by rw [a, mBI_s]; rfl, b, c', d⟩
  | ok x =>
    obtain ⟨τ', a, b, d⟩ := h
    have := hK x τ' rfl b d
    rw [a, mBI_s]
    exact kP_k d this
theorem k_closeLine (d : Nat) (hn : n ≤ 800) {r : Tok × Lv} (h : rdL τ B n r.1 r.2) : kP (pEnd B n r) (Cc (d + 3) n_Re_closeLine [.ref 3] τ) τ (fun (x : Tok × Lv) τ => rdL τ B n x.1 x.2) := by
  have hk := h.2.2.2.2.1
  rw [c_Re_closeLine, h.1.2.2.1, show decide (nI r.1.1 = 3) = decide (r.1.1 = 3) from deq (b := 3) (by omega) (by decide)]
  unfold pEnd
  cases decide (r.1.1 = 3) with
  | false => exact kP_z (k_refuse _ 1 _ h.1.2.2.2.1 _)
  | true =>
    have u : rdL (sR τ 60 (upd (τ.1 60) 6 (nI (lLn r.2 + 1)))) B n r.1 (addL r.2) := ⟨rdC_60 h.1 (by decide) _, lC_Ln h.2.1, h.2.2⟩
    obtain ⟨υ, e, r', k⟩ := k_nx d hn u
    refine ⟨υ, ?_, r', kL_t (kL_s τ (b := 60) (by omega) _) (kL_A k)⟩
    rw [cT, show τ.1 60 6 = nI (lLn r.2) from h.2.1.1.2.2.2.2.2.2, nI_1, mUpI_sR, e, mBV_s]
/-- all lines -/
theorem k_read28 (d : Nat) (hn : n ≤ 800) : ∀ m (T : Tok) (l : Lv) (σ : mS) (v : Value), lLn l + m = n + 1 → rdL σ B n T l → pI n T l → kP (pAll B n m T l) (Xx (d + 7) n_Re_read 28 [.ref 3, .int (nI (lLn l)), v] [] σ) σ (fun x τ => lC τ 60 x) := by
  intro m
  induction m with
  | zero =>
    intro T l σ v hm h hI
    exfalso
    have := hI.2.2.1
    have := hI.1.1
    have := hI.1.2.1
    omega
  | succ m ih =>
    intro T l σ v hm h hI
    have hk := h.2.2.2.2.1
    rw [q_Re_read_28, h.1.1, dlt (by omega) (by omega), dF _ (by omega), cF, h.1.2.2.1, show decide (nI T.1 = 0) = decide (T.1 = 0) from deq (b := 0) (by omega) (by decide)]
    unfold pAll
    by_cases g : T.1 = 0
    · rw [dT _ g, cT, cT]
      exact ⟨σ, rfl, h.2.1, kL_r σ⟩
    · have fin : ∀ (r : Tok × Lv) (τ : mS), pLine B n T l = .ok r → rdL τ B n r.1 r.2 → kP (pAll B n m r.1 r.2) (Xx (d + 7) n_Re_read 28 [.ref 3, .int (nI (lLn l) + 1), .int 1] [] τ) τ (fun x τ => lC τ 60 x) := by
        intro r τ hr hp
        obtain ⟨i1, i2⟩ := line_ok hr hI g
        have := ih r.1 r.2 τ (.int 1) (by omega) hp i1
        rw [i2, ← nI_1] at this
        exact this
      have hL := pLine_a (B := B) (n := n) (l := l) T
      rw [dF _ g, cF, cF, show σ.1 60 6 = nI (lLn l) from h.2.1.1.2.2.2.2.2.2, show decide (¬ nI (lLn l) = 0) = decide (¬ lLn l = 0) from dne (b := 0) (by omega) (by decide), decide_not, hL, pBd_a]
      cases hz : decide (lLn l = 0) with
      | true =>
        rw [hz, cT] at hL
        rw [Bool.not_true, cF, cT]
        refine kP_bv (k_readOpening (d + 3) hn h) (fun x τ hx hp _ => ?_)
        exact kP_b' (k_closeLine (d + 4) hn hp) (fun r υ hr hq _ => fin r υ (by rw [hL, hx]; exact hr) hq)
      | false =>
        rw [hz, cF] at hL
        rw [Bool.not_false, cT, cF]
        refine kP_bv (k_readLater (d + 1) hn h hI.2.1.1) (fun x τ hx hp _ => ?_)
        exact kP_b' (k_closeLine (d + 4) hn hp) (fun r υ hr hq _ => fin r υ (by rw [hL, hx]; exact hr) hq)
theorem k_clear (d : Nat) (σ : mS) : ∃ τ, Cc (d + 2) n_La_clear [.ref 60] σ = some (.null, τ) ∧ lC τ 60 emp ∧ (∀ a, a < 60 ∨ 74 < a → τ.1 a = σ.1 a) ∧ τ.2 = σ.2 := by
  rw [c_La_clear]
  have e0 : mUpI (mUpI (mUpI (mUpI (mUpI (mUpI (mUpI σ 60 0 0) 60 1 0) 60 2 0) 60 3 0) 60 4 0) 60 5 0) 60 6 0 = sR σ 60 (upd (upd (upd (upd (upd (upd (upd (σ.1 60) 0 0) 1 0) 2 0) 3 0) 4 0) 5 0) 6 0) := by
    simp only [mUpI_sR, sR_sR, sR_at]
  rw [e0, k_fill62, mBV_s]
  refine ⟨_, rfl, ⟨?_, fun p hp => absurd hp (Nat.not_lt_zero _), fun c hc => ?_, fun q hq => absurd hq (Nat.not_lt_zero _), ⟨?_, fun i x hx => by cases hx⟩, ?_, fun i x hx => by cases hx⟩, fun a ha => ?_, rfl⟩
  · rw [mUpI_sR, mUpI_sR, sR_ne _ _ (by decide), sR_ne _ _ (by decide), sR_ne _ _ (by decide), sR_at]
    exact ⟨rfl, rfl, rfl, rfl, rfl, rfl, rfl⟩
  · rw [mUpI_sR, mUpI_sR, sR_ne _ _ (by decide), sR_ne _ _ (by decide), sR_at, rF_at hc]; rfl
  · rw [mUpI_sR, mUpI_sR, sR_ne _ _ (by decide), sR_at, upd_at]; rfl
  · rw [mUpI_sR, sR_at, upd_at]; rfl
  · rw [mUpI_sR, mUpI_sR, sR_ne _ _ (by omega), sR_ne _ _ (by omega), sR_ne _ _ (by omega), sR_ne _ _ (by omega)]
noncomputable def pRead (B : Nat → Int32) (n : Nat) : Pr Lv := pAll B n (n + 1) (tok B n 0) emp
theorem pI_0 : pI n (tok B n 0) emp := ⟨(tok_O B (Nat.zero_le n)).1, lvF_emp, Nat.zero_le _, fun _ => rfl, fun h => absurd h (Nat.lt_irrefl 0)⟩
theorem k_read (d : Nat) (hn : n ≤ 800) (h1 : σ.1 1 1 = nI n) (hB : ∀ j, j < n → σ.1 2 j = B j) : ∃ τ, kLw σ τ ∧ match pRead B n with
    | .error e => Cc (d + 8) n_Re_read [.ref 3, .null, .null] σ = some (.int 0, τ) ∧ τ.1 3 2 = nI e.1 ∧ τ.1 3 3 = nI e.2
    | .ok x => Cc (d + 8) n_Re_read [.ref 3, .null, .null] σ = some (.int 1, τ) ∧ lC τ 60 x ∧ τ.1 3 2 = 0 ∧ τ.1 3 3 = -1 := by
  obtain ⟨σ1, e1, c1, k1, k2⟩ := k_clear (d + 5) σ
  have e0 : mUpI (mUpI (mUpI σ1 3 2 0) 3 3 (-1)) 3 6 0 = sR σ1 3 (upd (upd (upd (σ1.1 3) 2 0) 3 (-1)) 6 0) := by
    simp only [mUpI_sR, sR_sR, sR_at]
  generalize hS : sR σ1 3 (upd (upd (upd (σ1.1 3) 2 0) 3 (-1)) 6 0) = S at e0
  have s1 : S.1 1 1 = nI n := by rw [← hS, sR_ne _ _ (by decide), k1 1 (by omega)]; exact h1
  have s2 : ∀ j, j < n → S.1 2 j = B j := fun j hj => by rw [← hS, sR_ne _ _ (by decide), k1 2 (by omega)]; exact hB j hj
  have s6 : S.1 3 6 = nI 0 := by rw [← hS, sR_at, upd_at]; rfl
  have f2 : S.1 3 2 = 0 := by rw [← hS, sR_at, upd_ne _ _ (by decide), upd_ne _ _ (by decide), upd_at]
  have f3 : S.1 3 3 = -1 := by rw [← hS, sR_at, upd_ne _ _ (by decide), upd_at]
  have sk : kLw σ S := by
    rw [← hS]
    exact ⟨fun a a1 a2 => by rw [sR_ne _ _ a1]; exact k1 a a2, k2⟩
  have sl : lC S 60 emp := by
    rw [← hS]
    exact lC_c c1 (fun a a1 a2 => sR_ne _ _ (by omega))
  obtain ⟨σ2, e2, r2, k3⟩ := k_advance (d + 5) hn (Nat.zero_le n) s1 s2 s6
  have hr : rdL σ2 B n (tok B n 0) emp := ⟨r2, lC_A60 k3 sl, (tok_O B (Nat.zero_le n)).1⟩
  have key := k_read28 d hn (n + 1) (tok B n 0) emp σ2 .null (Nat.zero_add _) hr pI_0
  have ec : Cc (d + 8) n_Re_read [.ref 3, .null, .null] σ = Xx (d + 7) n_Re_read 28 [.ref 3, .int (nI (lLn emp)), .null] [] σ2 := by
    rw [c_Re_read, e1, mBV_s, e0, e2, mBV_s]
    rfl
  rw [← ec] at key
  unfold pRead
  cases hp : pAll B n (n + 1) (tok B n 0) emp with
  | error e =>
    rw [hp] at key
    obtain ⟨τ, a, b, c, dd⟩ := key
    exact ⟨τ, kLw_t sk (kLw_t (kL_A k3).1 dd), a, b, c⟩
  | ok x =>
    rw [hp] at key
    obtain ⟨τ, a, b, dd⟩ := key
    exact ⟨τ, kLw_t sk (kLw_t (kL_A k3).1 dd.1), a, b, by rw [dd.2.1, k3.2.1 2 (by omega), f2], by rw [dd.2.2, k3.2.1 3 (by omega), f3]⟩
theorem all_ok (hn : n ≤ 800) : ∀ m (T : Tok) (l x : Lv), lLn l + m = n + 1 → pI n T l → pAll B n m T l = .ok x → lvOK x := by
  intro m
  induction m with
  | zero =>
    intro T l x hm hI h
    exfalso
    have := hI.2.2.1
    have := hI.1.1
    have := hI.1.2.1
    omega
  | succ m ih =>
    intro T l x hm hI h
    unfold pAll at h
    by_cases g : T.1 = 0
    · rw [dT _ g, cT] at h
      cases h
      exact lvF_OK hI hn
    · rw [dF _ g, cF] at h
      obtain ⟨y, e, h⟩ := pBd_ok h
      obtain ⟨i1, i2⟩ := line_ok e hI g
      exact ih y.1 y.2 x (by omega) i1 h
theorem read_ok (hn : n ≤ 800) {x : Lv} (h : pRead B n = .ok x) : lvOK x := all_ok hn (n + 1) (tok B n 0) emp x (Nat.zero_add _) pI_0 h

