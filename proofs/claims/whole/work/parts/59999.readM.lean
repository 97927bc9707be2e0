/-! ===== reading: the reference ===== -/
variable {σ τ υ : mS} {l : Lv} {B : Nat → Int32} {n : Nat}
/-- what a reading of one thing leaves -/
def kS (σ τ : mS) : Prop := (∀ a, a ≠ 200 → τ.1 a = σ.1 a) ∧ (∀ k, k < 8 ∨ 13 < k → τ.1 200 k = σ.1 200 k) ∧ τ.2 = σ.2
theorem kS_r (σ : mS) : kS σ σ := ⟨fun _ _ => rfl, fun _ _ => rfl, rfl⟩
theorem kS_t (h : kS σ τ) (g : kS τ υ) : kS σ υ := ⟨fun a ha => (g.1 a ha).trans (h.1 a ha), fun k hk => (g.2.1 k hk).trans (h.2.1 k hk), g.2.2.trans h.2.2⟩
theorem kS_R (h : kR σ τ) : kS σ τ := ⟨h.1, fun k hk => h.2.1 k (by omega), h.2.2⟩
/-- a fault was found -/
def bd (τ : mS) (e : Nat × Nat) : Prop := τ.1 200 12 = nI e.1 ∧ τ.1 200 13 = nI e.2 ∧ 1 ≤ e.1 ∧ e.1 ≤ 3
/-- the reference at a token, with what it has read; no fault so far -/
def rdM (τ : mS) (B : Nat → Int32) (n : Nat) (T : Tok) (l : Lv) : Prop := rdR τ B n T ∧ lM (τ.1 214) l ∧ tkO n T ∧ τ.1 200 12 = 0 ∧ τ.1 200 13 = -1
theorem b_good (d : Nat) {e : Nat × Nat} (h : bd τ e) : Cc (d + 1) n_M_good [.ref 200] τ = some (.int 0, τ) := by
  rw [c_M_good, h.1, show decide (¬ nI e.1 = 0) = decide (¬ e.1 = 0) from dne (b := 0) (by have := h.2.2; omega) (by decide), dT _ (by have := h.2.2; omega), cT]
theorem r_good (d : Nat) (h : τ.1 200 12 = 0) : Cc (d + 1) n_M_good [.ref 200] τ = some (.int 1, τ) := by
  rw [c_M_good, h]; rfl
theorem b_errs (d : Nat) {e : Nat × Nat} (h : bd τ e) (k : Int32) : Cc (d + 2) n_M_errs [.ref 200, .int k] τ = some (.null, τ) := by
  rw [c_M_errs, b_good _ h, mBI_s]; rfl
theorem r_errs (d : Nat) (h : τ.1 200 12 = 0) {p : Nat} (h9 : τ.1 200 9 = nI p) {k : Nat} (h1 : 1 ≤ k) (h3 : k ≤ 3) : ∃ τ', Cc (d + 2) n_M_errs [.ref 200, .int (nI k)] τ = some (.null, τ') ∧ bd τ' (k, p) ∧ kS τ τ' := by
  refine ⟨sR τ 200 (upd (upd (τ.1 200) 12 (nI k)) 13 (nI p)), ?_, ⟨?_, ?_, h1, h3⟩, fun a ha => sR_ne _ _ ha, fun j hj => ?_, rfl⟩
  · rw [c_M_errs, r_good _ h, mBI_s, show decide (¬ (1 : Int32) = 0) = true by decide, cT, mUpI_sR, mUpI_sR, sR_sR, sR_at, upd_ne _ _ (by decide), h9]
  · rw [sR_at, upd_ne _ _ (by decide), upd_at]
  · rw [sR_at, upd_at]
  · rw [sR_at, upd_ne _ _ (by omega), upd_ne _ _ (by omega)]
theorem isG (d s : Nat) (hs : tl s ≤ 6) (h0 : ∀ σ : mS, Cc (d + 2) n_M_is [.ref 200, .ref s, .null, .null] σ = (mBI (Cc (d + 1) n_M_good [.ref 200] σ) fun r2 τ1 => (bif decide ((r2 : Int32) = 0) then Xx (d + 1) n_M_is 39 [.ref 200, .ref s, .int 0, .int 0] [] τ1 else (bif decide (¬ ((τ1.1 200 10) : Int32) = 1) then Xx (d + 1) n_M_is 39 [.ref 200, .ref s, .int 0, .int 0] [] τ1 else (bif decide (¬ (((τ1.1 200 8) - (τ1.1 200 9)) : Int32) = (nI (tl s))) then Xx (d + 1) n_M_is 39 [.ref 200, .ref s, .int 0, .int 0] [] τ1 else Xx (d + 1) n_M_is 39 [.ref 200, .ref s, .int 1, .int 0] [] τ1))))) (h39 : ∀ (x2 x3 : Int32) (σ : mS), Xx (d + 1) n_M_is 39 [.ref 200, .ref s, .int x2, .int x3] [] σ = (bif decide ((nI (tl s)) ≤ x3) then (bif mZ x2 then some (.int x2, σ) else none) else (bif decide ((x2 : Int32) = 0) then (bif mZ x2 then some (.int x2, σ) else none) else (bif mIn ((σ.1 200 9) + x3) 800 then (bif mIn x3 (tl s) then (bif decide (¬ ((σ.1 204 (((σ.1 200 9) + x3) : Int32).toNatClampNeg) : Int32) = (Int32.ofNat (w0.2.1 s (x3 : Int32).toNatClampNeg))) then Xx (d + 1) n_M_is 39 [.ref 200, .ref s, .int 0, .int (x3 + 1)] [] σ else Xx (d + 1) n_M_is 39 [.ref 200, .ref s, .int 1, .int (x3 + 1)] [] σ) else none) else none)))) : (∀ e, bd τ e → Cc (d + 2) n_M_is [.ref 200, .ref s, .null, .null] τ = some (.int 0, τ)) ∧ ∀ T, n ≤ 800 → rdR τ B n T → tkO n T → τ.1 200 12 = 0 → Cc (d + 2) n_M_is [.ref 200, .ref s, .null, .null] τ = some (.int (bI (isW B s T)), τ) := by
  have z : ∀ x3 : Int32, Xx (d + 1) n_M_is 39 [.ref 200, .ref s, .int 0, .int x3] [] τ = some (.int 0, τ) := fun x3 => by
    rw [h39]
    cases decide (nI (tl s) ≤ x3) <;> rfl
  refine ⟨fun e h => ?_, fun T hn r ht hg => ?_⟩
  · rw [h0, b_good _ h, mBI_s, show decide ((0 : Int32) = 0) = true by decide, cT]
    exact z 0
  · obtain ⟨h7, hB, h10, h9, h8, h11⟩ := r
    obtain ⟨t1, t2, t3, t4, t5⟩ := ht
    rw [h0, r_good _ hg, mBI_s, show decide ((1 : Int32) = 0) = false by decide, cF, h10, h8, h9, nI_sub t1, dne (by omega) (by omega), show decide (¬ nI T.1 = 1) = decide (¬ T.1 = 1) from dne (b := 1) (by omega) (by decide), decide_not, decide_not, z 0]
    unfold isW
    cases hk : decide (T.1 = 1) with
    | false => rfl
    | true =>
      cases hl : decide (T.2.2.1 - T.2.1 = tl s) with
      | false => rfl
      | true =>
        have hl' := of_decide_eq_true hl
        rw [Bool.not_true, cF, cF, Bool.true_and, Bool.true_and]
        have key : ∀ m k, k + m = tl s → Xx (d + 1) n_M_is 39 [.ref 200, .ref s, .int 1, .int (nI k)] [] τ = some (.int (bI (mFst (fun k => !(decide (B (T.2.1 + k) = Int32.ofNat (w0.2.1 s k)))) m k).isNone), τ) := by
          intro m
          induction m with
          | zero =>
            intro k hk
            rw [h39, show k = tl s by omega, dT _ (Int32.le_refl _), cT]
            rfl
          | succ m ih =>
            intro k hk
            rw [h39, dle (by omega) (by omega), dF _ (by omega), cF, show decide ((1 : Int32) = 0) = false by decide, cF, h9, nI_add, mIn_nI (by omega) (by omega), cT, mIn_nI (by omega) (by omega), cT, nI_clamp (by omega), nI_clamp (by omega), hB _ (by omega), nI_1, mFst_s, decide_not]
            cases hd : decide (B (T.2.1 + k) = Int32.ofNat (w0.2.1 s k)) with
            | true =>
              rw [Bool.not_true, cF, cF]
              exact ih (k + 1) (by omega)
            | false =>
              rw [Bool.not_false, cT, cT]
              exact z _
        exact key (tl s) 0 (by omega)
theorem is_all (d : Nat) {s : Nat} (hs : isTx s) : (∀ e, bd τ e → Cc (d + 2) n_M_is [.ref 200, .ref s, .null, .null] τ = some (.int 0, τ)) ∧ ∀ T, n ≤ 800 → rdR τ B n T → tkO n T → τ.1 200 12 = 0 → Cc (d + 2) n_M_is [.ref 200, .ref s, .null, .null] τ = some (.int (bI (isW B s T)), τ) := by
  unfold isTx at hs
  rcases hs with rfl | rfl | rfl | rfl | rfl | rfl | rfl | rfl | rfl | rfl
  · exact isG d 310 (by decide) (fun σ => c_M_is_310 (d + 1) σ) (fun x y σ => q_M_is_310_39 (d + 1) x y σ)
  · exact isG d 311 (by decide) (fun σ => c_M_is_311 (d + 1) σ) (fun x y σ => q_M_is_311_39 (d + 1) x y σ)
  · exact isG d 312 (by decide) (fun σ => c_M_is_312 (d + 1) σ) (fun x y σ => q_M_is_312_39 (d + 1) x y σ)
  · exact isG d 313 (by decide) (fun σ => c_M_is_313 (d + 1) σ) (fun x y σ => q_M_is_313_39 (d + 1) x y σ)
  · exact isG d 314 (by decide) (fun σ => c_M_is_314 (d + 1) σ) (fun x y σ => q_M_is_314_39 (d + 1) x y σ)
  · exact isG d 315 (by decide) (fun σ => c_M_is_315 (d + 1) σ) (fun x y σ => q_M_is_315_39 (d + 1) x y σ)
  · exact isG d 316 (by decide) (fun σ => c_M_is_316 (d + 1) σ) (fun x y σ => q_M_is_316_39 (d + 1) x y σ)
  · exact isG d 317 (by decide) (fun σ => c_M_is_317 (d + 1) σ) (fun x y σ => q_M_is_317_39 (d + 1) x y σ)
  · exact isG d 318 (by decide) (fun σ => c_M_is_318 (d + 1) σ) (fun x y σ => q_M_is_318_39 (d + 1) x y σ)
  · exact isG d 319 (by decide) (fun σ => c_M_is_319 (d + 1) σ) (fun x y σ => q_M_is_319_39 (d + 1) x y σ)

theorem b_is (d : Nat) {s : Nat} (hs : isTx s) {e : Nat × Nat} (h : bd τ e) : Cc (d + 2) n_M_is [.ref 200, .ref s, .null, .null] τ = some (.int 0, τ) := (is_all (B := fun _ => 0) (n := 0) d hs).1 e h
theorem r_is (d : Nat) {s : Nat} (hs : isTx s) (hn : n ≤ 800) {T : Tok} (h : rdM τ B n T l) : Cc (d + 2) n_M_is [.ref 200, .ref s, .null, .null] τ = some (.int (bI (isW B s T)), τ) := (is_all d hs).2 T hn h.1 h.2.2.1 h.2.2.2.1
theorem b_takes (d : Nat) {s : Nat} (hs : isTx s) {e : Nat × Nat} (h : bd τ e) : Cc (d + 3) n_M_takes [.ref 200, .ref s, .null] τ = some (.int 0, τ) := by
  rw [c_M_takes, b_is _ hs h, mBI_s]; rfl
theorem b_expects (d : Nat) {s : Nat} (hs : isTx s) {e : Nat × Nat} (h : bd τ e) : Cc (d + 4) n_M_expects [.ref 200, .ref s] τ = some (.null, τ) := by
  rw [c_M_expects, b_takes _ hs h, mBI_s, show decide (¬ (0 : Int32) = 0) = false by decide, cF, b_errs _ h, mBV_s]
theorem b_number (d : Nat) {e : Nat × Nat} (h : bd τ e) (lo hi : Int32) : Cc (d + 3) n_M_number [.ref 200, .int lo, .int hi, .null] τ = some (.int 0, τ) := by
  rw [c_M_number, b_good _ h, mBI_s, show decide ((0 : Int32) = 0) = true by decide, cT, b_good _ h, mBI_s, show decide ((0 : Int32) = 0) = true by decide, cT, b_good _ h, mBI_s, show decide (¬ (0 : Int32) = 0) = false by decide, cF]
theorem b_told (d : Nat) {s : Nat} (hs : isTx s) {e : Nat × Nat} (h : bd τ e) (lo hi : Int32) : Cc (d + 5) n_M_told [.ref 200, .ref s, .int lo, .int hi] τ = some (.int 0, τ) := by
  rw [c_M_told, b_expects _ hs h, mBV_s, b_number _ h, mBI_s]
theorem b_readPerson (d : Nat) {e : Nat × Nat} (h : bd τ e) : Cc (d + 4) n_M_readPerson [.ref 200] τ = some (.int 0, τ) := by
  rw [c_M_readPerson, b_number _ h, mBI_s]
theorem b_readOther (d : Nat) {e : Nat × Nat} (h : bd τ e) (x : Int32) : Cc (d + 5) n_M_readOther [.ref 200, .int x] τ = some (.int 0, τ) := by
  rw [c_M_readOther, b_good _ h, mBI_s, show decide ((0 : Int32) = 0) = true by decide, cT, b_readPerson _ h, mBI_s]
theorem b_readSkills2 (d : Nat) {e : Nat × Nat} (h : bd τ e) (x : Int32) (v : Value) : Xx (d + 1) n_M_readSkills 2 [.ref 200, .int x, v] [] τ = some (.int x, τ) := by
  rw [q_M_readSkills_2, b_good _ h, mBI_s]; rfl
theorem b_readSkills (d : Nat) {e : Nat × Nat} (h : bd τ e) : Cc (d + 2) n_M_readSkills [.ref 200, .null, .null] τ = some (.int 0, τ) := by
  rw [c_M_readSkills, b_readSkills2 _ h]
theorem bd_f {e : Nat × Nat} (h : bd τ e) (f : Nat → Int32) : bd (sR τ 214 f) e := by
  unfold bd at h ⊢
  rw [sR_ne _ _ (by decide)]
  exact h
/-- a reading that gives a number -/
def rPi {α : Type} (r : Pr α) (c : mR) (τ : mS) (post : α → Int32 → mS → Prop) : Prop := match r with
  | .error e => ∃ w τ', c = some (.int w, τ') ∧ bd τ' e ∧ kS τ τ'
  | .ok x => ∃ w τ', c = some (.int w, τ') ∧ post x w τ' ∧ kS τ τ'
def rPv {α : Type} (r : Pr α) (c : mR) (τ : mS) (post : α → mS → Prop) : Prop := match r with
  | .error e => ∃ τ', c = some (.null, τ') ∧ bd τ' e ∧ kS τ τ'
  | .ok x => ∃ τ', c = some (.null, τ') ∧ post x τ' ∧ kS τ τ'
theorem r_nx (d : Nat) (hn : n ≤ 800) (hb : ∀ j, j < n → bw (-128) (B j) 127) {T : Tok} (h : rdM τ B n T l) : ∃ τ', Cc (d + 2) n_M_advance [.ref 200, .null] τ = some (.null, τ') ∧ rdM τ' B n (nxT B n T) l ∧ kS τ τ' := by
  obtain ⟨⟨h7, hB, h10, h9, h8, h11⟩, hl, ht, hg, hp⟩ := h
  obtain ⟨τ', e, r, k⟩ := r_advance d hn hb ht.2.1 h7 hB h8
  refine ⟨τ', e, ⟨r, by rw [k.1 214 (by decide)]; exact hl, (tok_O B ht.2.1).1, ?_, ?_⟩, kS_R k⟩
  · rw [k.2.1 12 (by omega)]; exact hg
  · rw [k.2.1 13 (by omega)]; exact hp
theorem r_expects (d : Nat) (hn : n ≤ 800) (hb : ∀ j, j < n → bw (-128) (B j) 127) {s : Nat} (hs : isTx s) {T : Tok} (h : rdM τ B n T l) : rPv (pWord B n s T) (Cc (d + 4) n_M_expects [.ref 200, .ref s] τ) τ (fun T' τ' => rdM τ' B n T' l) := by
  rw [c_M_expects, c_M_takes, r_is _ hs hn h, mBI_s, bI_0]
  unfold pWord
  cases isW B s T with
  | true =>
    obtain ⟨τ', e, r, k⟩ := r_nx d hn hb h
    refine ⟨τ', ?_, r, k⟩
    rw [Bool.not_true, cF, e, mBV_s]
    rfl
  | false =>
    obtain ⟨τ', e, r, k⟩ := r_errs (d + 1) h.2.2.2.1 h.1.2.2.2.1 (k := 1) (by omega) (by omega)
    refine ⟨τ', ?_, r, k⟩
    show (mBI (some (.int 0, τ)) fun r2 τ1 => (bif decide (¬ (r2 : Int32) = 0) then (some (.null, τ1)) else (mBV (Cc (d + 3) n_M_errs [.ref 200, .int 1] τ1) fun τ3 => (some (.null, τ3))))) = _
    rw [mBI_s, show decide (¬ (0 : Int32) = 0) = false by decide, cF]
    have e' : Cc (d + 3) n_M_errs [.ref 200, .int 1] τ = some (.null, τ') := e
    rw [e', mBV_s]
theorem in_g (d : Nat) (x lo hi : Int32) (σ : mS) : Cc (d + 1) n_M_in [.long x.toInt64, .null, .long lo.toInt64, .null, .long hi.toInt64, .null] σ = some (.int (bI (!(decide (x.toInt < lo.toInt)) && !(decide (hi.toInt < x.toInt)))), σ) := by
  rw [r_in]
  have e1 : decide (x.toInt64 < lo.toInt64) = decide (x.toInt < lo.toInt) := decide_eq_decide.mpr (by rw [Int64.lt_iff_toInt_lt, Int32.toInt_toInt64, Int32.toInt_toInt64])
  have e2 : decide (hi.toInt64 < x.toInt64) = decide (hi.toInt < x.toInt) := decide_eq_decide.mpr (by rw [Int64.lt_iff_toInt_lt, Int32.toInt_toInt64, Int32.toInt_toInt64])
  rw [e1, e2]
theorem r_number (d : Nat) (hn : n ≤ 800) (hb : ∀ j, j < n → bw (-128) (B j) 127) {T : Tok} (h : rdM τ B n T l) {lo hi : Int32} {a b : Int} (h1 : lo.toInt = a) (h2 : hi.toInt = b) (hb1 : b < 1000) (c : Int) (hc : (T.2.2.2 : Int) ≠ c) : rPi (pNum B n a b c T) (Cc (d + 3) n_M_number [.ref 200, .int lo, .int hi, .null] τ) τ (fun x w τ' => w = nI x.1 ∧ rdM τ' B n x.2 l) := by
  have hg := h.2.2.2.1
  have hk := h.2.2.1.2.2.1
  unfold pNum
  rw [c_M_number, r_good _ hg, mBI_s, show decide ((1 : Int32) = 0) = false by decide, cF, h.1.2.2.1, show decide (nI T.1 = 2) = decide (T.1 = 2) from deq (b := 2) (by omega) (by decide)]
  by_cases g : T.1 = 2
  · obtain ⟨w, e11, hw, hr⟩ := h.1.2.2.2.2.2 g
    rw [dT _ g, cT, cT, r_good _ hg, mBI_s, show decide ((1 : Int32) = 0) = false by decide, cF, e11, in_g, mBI_s, nI_toInt (by omega), h1, h2, bI_n]
    have ein : (!(decide ((w : Int) < a)) && !(decide (b < (w : Int)))) = !(decide ((T.2.2.2 : Int) < a) || (decide (b < (T.2.2.2 : Int)) || decide ((T.2.2.2 : Int) = c))) := by
      rw [dF (p := (T.2.2.2 : Int) = c) _ hc, Bool.or_false]
      rcases hr with ⟨q1, rfl⟩ | ⟨q1, q2⟩
      · cases decide ((T.2.2.2 : Int) < a) <;> cases decide (b < (T.2.2.2 : Int)) <;> rfl
      · rw [dT (p := b < (w : Int)) _ (by omega), dT (p := b < (T.2.2.2 : Int)) _ (by omega), Bool.or_true, Bool.not_true, Bool.and_false]
    rw [ein]
    cases hx : (decide ((T.2.2.2 : Int) < a) || (decide (b < (T.2.2.2 : Int)) || decide ((T.2.2.2 : Int) = c))) with
    | true =>
      obtain ⟨τ', e, r, k⟩ := r_errs d hg h.1.2.2.2.1 (k := 2) (by omega) (by omega)
      have e' : Cc (d + 2) n_M_errs [.ref 200, .int 2] τ = some (.null, τ') := e
      refine ⟨0, τ', ?_, r, k⟩
      rw [Bool.not_true, cF, e', mBV_s, b_good _ r, mBI_s, show decide (¬ (0 : Int32) = 0) = false by decide, cF]
    | false =>
      obtain ⟨τ', e, r, k⟩ := r_nx d hn hb h
      have hv : w = T.2.2.2 := by
        rw [Bool.or_eq_false_iff, Bool.or_eq_false_iff] at hx
        have := of_decide_eq_false hx.2.1
        rcases hr with ⟨q1, q2⟩ | ⟨q1, q2⟩
        · exact q2
        · omega
      refine ⟨nI w, τ', ?_, ⟨by rw [hv], r⟩, k⟩
      rw [Bool.not_false, cT, r_good _ hg, mBI_s, show decide (¬ (1 : Int32) = 0) = true by decide, cT, e11, e, mBV_s]
  · obtain ⟨τ', e, r, k⟩ := r_errs d hg h.1.2.2.2.1 (k := 1) (by omega) (by omega)
    have e' : Cc (d + 2) n_M_errs [.ref 200, .int 1] τ = some (.null, τ') := e
    rw [dF _ g, cF, cF]
    refine ⟨0, τ', ?_, r, k⟩
    rw [e', mBV_s, b_good _ r, mBI_s, show decide ((0 : Int32) = 0) = true by decide, cT, b_good _ r, mBI_s, show decide (¬ (0 : Int32) = 0) = false by decide, cF]
theorem r_told (d : Nat) (hn : n ≤ 800) (hb : ∀ j, j < n → bw (-128) (B j) 127) {s : Nat} (hs : isTx s) {T : Tok} (h : rdM τ B n T l) {lo hi : Int32} {a b : Int} (h1 : lo.toInt = a) (h2 : hi.toInt = b) (hb1 : b < 1000) : rPi (pBd (pWord B n s T) fun T2 => pNum B n a b (-1) T2) (Cc (d + 5) n_M_told [.ref 200, .ref s, .int lo, .int hi] τ) τ (fun x w τ' => w = nI x.1 ∧ rdM τ' B n x.2 l) := by
  have := r_expects d hn hb hs h
  rw [c_M_told]
  cases hw : pWord B n s T with
  | error e =>
    rw [hw] at this
    obtain ⟨τ', e1, r, k⟩ := this
    exact ⟨0, τ', by rw [e1, mBV_s, b_number _ r, mBI_s], r, k⟩
  | ok T2 =>
    rw [hw] at this
    obtain ⟨τ', e1, r, k⟩ := this
    have q := r_number (d + 1) hn hb r h1 h2 hb1 (-1) (by omega)
    rw [e1, mBV_s]
    show rPi (pNum B n a b (-1) T2) _ _ _
    cases hx : pNum B n a b (-1) T2 with
    | error e =>
      rw [hx] at q
      obtain ⟨w, τ2, e2, r2, k2⟩ := q
      exact ⟨w, τ2, by rw [e2, mBI_s], r2, kS_t k k2⟩
    | ok x =>
      rw [hx] at q
      obtain ⟨w, τ2, e2, r2, k2⟩ := q
      exact ⟨w, τ2, by rw [e2, mBI_s], r2, kS_t k k2⟩
theorem r_readPerson (d : Nat) (hn : n ≤ 800) (hb : ∀ j, j < n → bw (-128) (B j) 127) {T : Tok} (h : rdM τ B n T l) (hP : lP l ≤ 6) (c : Int) (hc : (T.2.2.2 : Int) ≠ c) : rPi (pNum B n 0 ((lP l : Int) - 1) c T) (Cc (d + 4) n_M_readPerson [.ref 200] τ) τ (fun x w τ' => w = nI x.1 ∧ rdM τ' B n x.2 l) := by
  have q := r_number d hn hb h (lo := 0) (hi := τ.1 214 3 - 1) (a := 0) (b := (lP l : Int) - 1) rfl (by rw [lM_P h.2.1, nI_less1 (by omega)]) (by omega) c hc
  rw [c_M_readPerson]
  cases hx : pNum B n 0 ((lP l : Int) - 1) c T with
  | error e =>
    rw [hx] at q
    obtain ⟨w, τ2, e2, r2, k2⟩ := q
    exact ⟨w, τ2, by rw [e2, mBI_s], r2, k2⟩
  | ok x =>
    rw [hx] at q
    obtain ⟨w, τ2, e2, r2, k2⟩ := q
    exact ⟨w, τ2, by rw [e2, mBI_s], r2, k2⟩
theorem r_readOther (d : Nat) (hn : n ≤ 800) (hb : ∀ j, j < n → bw (-128) (B j) 127) {T : Tok} (h : rdM τ B n T l) (hP : lP l ≤ 6) {a : Nat} (ha : a < 6) : rPi (pNum B n 0 ((lP l : Int) - 1) a T) (Cc (d + 5) n_M_readOther [.ref 200, .int (nI a)] τ) τ (fun x w τ' => w = nI x.1 ∧ rdM τ' B n x.2 l) := by
  have hg := h.2.2.2.1
  have hk := h.2.2.1.2.2.1
  rw [c_M_readOther, r_good _ hg, mBI_s, show decide ((1 : Int32) = 0) = false by decide, cF, h.1.2.2.1, show decide (¬ nI T.1 = 2) = decide (¬ T.1 = 2) from dne (b := 2) (by omega) (by decide), decide_not]
  have pass : (T.2.2.2 : Int) ≠ a ∨ T.1 ≠ 2 → rPi (pNum B n 0 ((lP l : Int) - 1) a T) (mBI (Cc (d + 4) n_M_readPerson [.ref 200] τ) fun r6 τ5 => (some (.int r6, τ5))) τ (fun x w τ' => w = nI x.1 ∧ rdM τ' B n x.2 l) := by
    intro hor
    have q : rPi (pNum B n 0 ((lP l : Int) - 1) a T) (Cc (d + 4) n_M_readPerson [.ref 200] τ) τ (fun x w τ' => w = nI x.1 ∧ rdM τ' B n x.2 l) := by
      rcases hor with hne | hne
      · exact r_readPerson d hn hb h hP a hne
      · have q := r_readPerson d hn hb h hP (-1) (by omega)
        have e1 : pNum B n 0 ((lP l : Int) - 1) (-1) T = .error (1, T.2.1) := by unfold pNum; rw [dF _ hne, cF]
        have e2 : pNum B n 0 ((lP l : Int) - 1) a T = .error (1, T.2.1) := by unfold pNum; rw [dF _ hne, cF]
        rw [e1] at q
        rw [e2]
        exact q
    cases hx : pNum B n 0 ((lP l : Int) - 1) a T with
    | error e =>
      rw [hx] at q
      obtain ⟨w, τ2, e2, r2, k2⟩ := q
      exact ⟨w, τ2, by rw [e2, mBI_s], r2, k2⟩
    | ok x =>
      rw [hx] at q
      obtain ⟨w, τ2, e2, r2, k2⟩ := q
      exact ⟨w, τ2, by rw [e2, mBI_s], r2, k2⟩
  by_cases g : T.1 = 2
  · obtain ⟨w, e11, hw, hr⟩ := h.1.2.2.2.2.2 g
    rw [dT _ g, Bool.not_true, cF, e11, dne (by omega) (by omega)]
    by_cases gw : w = a
    · rw [dF _ (fun q => q gw), cF]
      have hv : T.2.2.2 = a := by omega
      have e2 : pNum B n 0 ((lP l : Int) - 1) a T = .error (2, T.2.1) := by
        unfold pNum
        rw [dT _ g, cT, dT (p := (T.2.2.2 : Int) = a) _ (by omega), Bool.or_true, Bool.or_true, cT]
      obtain ⟨τ', e, r, k⟩ := r_errs (d + 2) hg h.1.2.2.2.1 (k := 2) (by omega) (by omega)
      have e' : Cc (d + 4) n_M_errs [.ref 200, .int 2] τ = some (.null, τ') := e
      rw [e2]
      exact ⟨0, τ', by rw [e', mBV_s, b_readPerson _ r, mBI_s], r, k⟩
    · rw [dT _ gw, cT]
      exact pass (Or.inl (by omega))
  · rw [dF _ g, Bool.not_false, cT]
    exact pass (Or.inr g)

