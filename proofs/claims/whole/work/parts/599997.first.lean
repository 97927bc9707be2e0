/-! ===== the world before the reference is made; the first state ===== -/
noncomputable def wK1 (i : Nat) : Nat := bif Nat.blt i 200 then wKind i else 0
noncomputable def wA1 (i : Nat) : Nat := bif Nat.blt i 200 || Nat.ble 299 i then wAk i else 0
noncomputable def w1 : mT := (wK1, wRef, wA1, wAn)
noncomputable def xyW : Nat → Nat → Nat → mK
  | 0, d, m => mX w1 tb0 d m
  | n + 1, d, m => xyW n d m
termination_by n => n
noncomputable def cyW : Nat → Nat → Nat → List Value → mS → mR
  | 0, d, m => mC w1 tb0 d m
  | n + 1, d, m => cyW n d m
termination_by n => n
noncomputable abbrev Xy (d m : Nat) : mK := xyW 0 d m
noncomputable abbrev Cy (d m : Nat) (a : List Value) (σ : mS) : mR := cyW 0 d m a σ
theorem Xy_eq (d m : Nat) : Xy d m = mX w1 tb0 d m := by rw [Xy, xyW]
theorem Cy_eq (d m : Nat) : cyW 0 d m = mC w1 tb0 d m := by rw [cyW]
theorem Cy_s (d m : Nat) (a : List Value) (σ : mS) : Cy (d + 1) m a σ = Xy d m 0 a [] σ := by
  rw [Xy_eq]
  show cyW 0 (d + 1) m a σ = _
  rw [Cy_eq]
  rfl
theorem Xy_go (d m : Nat) (stop : Nat → Bool) (k : Nat) (pc : Nat) (L st : List Value) (σ : mS) : Xy d m pc L st σ = mGo w1 tb0 (cyW 0 d) (Xy d m) m stop k pc L st σ := by
  rw [Xy_eq, show cyW 0 d = mC w1 tb0 d from funext fun m => Cy_eq d m]
  exact mX_go w1 tb0 d m stop k pc L st σ
set_option maxRecDepth 100000 in
set_option maxHeartbeats 4000000 in
theorem p_Co_reset_0 (D : Nat) (σ : mS) : Xy D n_Co_reset 0 [.ref 20] [] σ = (mBV (Cy D n_Ar_fill [.ref 21, .int 0, .null, .null] (mUpI (mUpI (mUpI σ 20 1 (σ.1 40 1)) 20 2 0) 20 3 (-1))) fun τ1 => (bif mFit w1 τ1 41 22 0 0 6 then (some (.null, (mCpI τ1 41 22 (0 : Int32).toNatClampNeg (0 : Int32).toNatClampNeg (6 : Int32).toNatClampNeg))) else none)) := (Xy_go D n_Co_reset (fun p => false) 25 _ _ _ _).trans rfl
set_option maxRecDepth 100000 in
set_option maxHeartbeats 4000000 in
theorem p_Co_run_0 (D : Nat) (σ : mS) : Xy D n_Co_run 0 [.ref 20, .null] [] σ = (mBV (Cy D n_Co_live [.ref 20, .int 0, .int 36, .null, .null] σ) fun τ1 => Xy D n_Co_run 9 [.ref 20, .int 0] [] τ1) := (Xy_go D n_Co_run (fun p => Nat.beq p 9) 6 _ _ _ _).trans rfl
set_option maxRecDepth 100000 in
set_option maxHeartbeats 4000000 in
theorem p_Co_run_9 (D : Nat) (x1 : Int32) (σ : mS) : Xy D n_Co_run 9 [.ref 20, .int x1] [] σ = (bif decide (((σ.1 40 3) : Int32) ≤ x1) then (mBV (Cy D n_Co_givePosts [.ref 20, .null, .null, .null, .null] σ) fun τ1 => (some (.null, τ1))) else (mBV (Cy D n_Co_weigh [.ref 20, .int x1, .null, .null] σ) fun τ2 => Xy D n_Co_run 9 [.ref 20, .int (x1 + 1)] [] τ2)) := (Xy_go D n_Co_run (fun p => Nat.beq p 9) 10 _ _ _ _).trans rfl
set_option maxRecDepth 100000 in
set_option maxHeartbeats 4000000 in
theorem p_Co_live_0 (D : Nat) (i1 : Int32) (i2 : Int32) (σ : mS) : Xy D n_Co_live 0 [.ref 20, .int i1, .int i2, .null, .null] [] σ = (bif mFit w1 σ 42 23 i1 i1 (i2 - i1) then Xy D n_Co_live 21 [.ref 20, .int i1, .int i2, .int 0, .null] [] (mCpI σ 42 23 (i1 : Int32).toNatClampNeg (i1 : Int32).toNatClampNeg ((i2 - i1) : Int32).toNatClampNeg) else none) := (Xy_go D n_Co_live (fun p => Nat.beq p 21 || Nat.beq p 79) 13 _ _ _ _).trans rfl
set_option maxRecDepth 100000 in
set_option maxHeartbeats 4000000 in
theorem p_Co_live_21 (D : Nat) (x1 : Int32) (x2 : Int32) (x3 : Int32) (v4 : Value) (σ : mS) : Xy D n_Co_live 21 [.ref 20, .int x1, .int x2, .int x3, v4] [] σ = (bif decide (((σ.1 40 0) : Int32) ≤ x3) then (some (.null, σ)) else (bif decide ((x3 : Int32) ≤ 0) then (mBV (Cy D n_Co_suffer [.ref 20, .ref 45, .int (σ.1 20 3), .int x3, .int x1, .int x2, .null, .null, .null, .null] σ) fun τ1 => (mBV (Cy D n_Co_suffer [.ref 20, .ref 50, .int (-1), .int x3, .int x1, .int x2, .null, .null, .null, .null] τ1) fun τ2 => Xy D n_Co_live 79 [.ref 20, .int x1, .int x2, .int x3, .int x1] [] τ2)) else (mBV (Cy D n_Co_fade [.ref 20, .int x3, .int x1, .int x2, .null, .null, .null, .null] σ) fun τ3 => (mBV (Cy D n_Co_suffer [.ref 20, .ref 45, .int (τ3.1 20 3), .int x3, .int x1, .int x2, .null, .null, .null, .null] τ3) fun τ4 => (mBV (Cy D n_Co_suffer [.ref 20, .ref 50, .int (-1), .int x3, .int x1, .int x2, .null, .null, .null, .null] τ4) fun τ5 => Xy D n_Co_live 79 [.ref 20, .int x1, .int x2, .int x3, .int x1] [] τ5))))) := (Xy_go D n_Co_live (fun p => Nat.beq p 21 || Nat.beq p 79) 33 _ _ _ _).trans rfl
set_option maxRecDepth 100000 in
set_option maxHeartbeats 4000000 in
theorem p_Co_givePosts_0 (D : Nat) (σ : mS) : Xy D n_Co_givePosts 0 [.ref 20, .null, .null, .null, .null] [] σ = (mBV (Cy D n_Ar_fill [.ref 25, .int (-1), .null, .null] σ) fun τ1 => (mBI (Cy D n_La_everybody [.ref 40] τ1) fun r3 τ2 => Xy D n_Co_givePosts 18 [.ref 20, .int r3, .int 0, .null, .null] [] τ2)) := (Xy_go D n_Co_givePosts (fun p => Nat.beq p 18 || Nat.beq p 31) 10 _ _ _ _).trans rfl
set_option maxRecDepth 100000 in
set_option maxHeartbeats 4000000 in
theorem p_Co_givePosts_18 (D : Nat) (x1 : Int32) (x2 : Int32) (v3 : Value) (v4 : Value) (σ : mS) : Xy D n_Co_givePosts 18 [.ref 20, .int x1, .int x2, v3, v4] [] σ = (bif decide (((σ.1 40 0) : Int32) ≤ x2) then (some (.null, σ)) else Xy D n_Co_givePosts 31 [.ref 20, .int x1, .int x2, .int 0, v4] [] σ) := (Xy_go D n_Co_givePosts (fun p => Nat.beq p 18 || Nat.beq p 31) 7 _ _ _ _).trans rfl
set_option maxRecDepth 100000 in
set_option maxHeartbeats 4000000 in
theorem p_La_everybody_0 (D : Nat) (σ : mS) : Xy D n_La_everybody 0 [.ref 40] [] σ = (some (.int (((1 : Int32) <<< ((σ.1 40 3) &&& 31)) - (1 : Int32)), σ)) := (Xy_go D n_La_everybody (fun p => false) 7 _ _ _ _).trans rfl
set_option maxRecDepth 100000 in
set_option maxHeartbeats 4000000 in
theorem p_Ar_fill_21_0 (D : Nat) (i1 : Int32) (σ : mS) : Xy D n_Ar_fill 0 [.ref 21, .int i1, .null, .null] [] σ = Xy D n_Ar_fill 5 [.ref 21, .int i1, .int 0, .int (Int32.ofNat 36)] [] σ := (Xy_go D n_Ar_fill (fun p => Nat.beq p 5) 5 _ _ _ _).trans rfl
set_option maxRecDepth 100000 in
set_option maxHeartbeats 4000000 in
theorem p_Ar_fill_21_5 (D : Nat) (x1 : Int32) (x2 : Int32) (x3 : Int32) (σ : mS) : Xy D n_Ar_fill 5 [.ref 21, .int x1, .int x2, .int x3] [] σ = (bif decide ((x3 : Int32) ≤ x2) then (some (.null, σ)) else (bif mIn x2 36 then Xy D n_Ar_fill 5 [.ref 21, .int x1, .int (x2 + 1), .int x3] [] (mUpI σ 21 (x2 : Int32).toNatClampNeg x1) else none)) := (Xy_go D n_Ar_fill (fun p => Nat.beq p 5) 9 _ _ _ _).trans rfl
set_option maxRecDepth 100000 in
set_option maxHeartbeats 4000000 in
theorem p_Ar_fill_25_0 (D : Nat) (i1 : Int32) (σ : mS) : Xy D n_Ar_fill 0 [.ref 25, .int i1, .null, .null] [] σ = Xy D n_Ar_fill 5 [.ref 25, .int i1, .int 0, .int (Int32.ofNat 5)] [] σ := (Xy_go D n_Ar_fill (fun p => Nat.beq p 5) 5 _ _ _ _).trans rfl
set_option maxRecDepth 100000 in
set_option maxHeartbeats 4000000 in
theorem p_Ar_fill_25_5 (D : Nat) (x1 : Int32) (x2 : Int32) (x3 : Int32) (σ : mS) : Xy D n_Ar_fill 5 [.ref 25, .int x1, .int x2, .int x3] [] σ = (bif decide ((x3 : Int32) ≤ x2) then (some (.null, σ)) else (bif mIn x2 5 then Xy D n_Ar_fill 5 [.ref 25, .int x1, .int (x2 + 1), .int x3] [] (mUpI σ 25 (x2 : Int32).toNatClampNeg x1) else none)) := (Xy_go D n_Ar_fill (fun p => Nat.beq p 5) 9 _ _ _ _).trans rfl
theorem p_fillG (d a n : Nat) (hn : n < 2 ^ 31) (x : Int32) (h0 : ∀ σ : mS, Xy d n_Ar_fill 0 [.ref a, .int x, .null, .null] [] σ = Xy d n_Ar_fill 5 [.ref a, .int x, .int 0, .int (nI n)] [] σ) (h5 : ∀ (k : Int32) (σ : mS), Xy d n_Ar_fill 5 [.ref a, .int x, .int k, .int (nI n)] [] σ = (bif decide (nI n ≤ k) then (some (.null, σ)) else (bif mIn k n then Xy d n_Ar_fill 5 [.ref a, .int x, .int (k + 1), .int (nI n)] [] (mUpI σ a k.toNatClampNeg x) else none))) (σ : mS) : Cy (d + 1) n_Ar_fill [.ref a, .int x, .null, .null] σ = some (.null, sR σ a (rF (fun _ => x) (σ.1 a) n)) := by
  have hs := mForN (fun k => Xy d n_Ar_fill 5 [.ref a, .int x, .int (nI k), .int (nI n)] [] (sR σ a (rF (fun _ => x) (σ.1 a) k))) n (by
    intro k hk
    show Xy d n_Ar_fill 5 _ [] _ = Xy d n_Ar_fill 5 _ [] _
    rw [h5, dle (by omega) (by omega), dF _ (by omega), cF, mIn_nI hk hn, cT, nI_1, nI_clamp (by omega), mUpI_sR, sR_at, sR_sR, rF_s (fun _ => x)])
  rw [rF_0, sR_self] at hs
  rw [Cy_s, h0, show (0 : Int32) = nI 0 from rfl, hs, h5, dT _ (Int32.le_refl _), cT]
theorem p_fill21 (d : Nat) (x : Int32) (σ : mS) : Cy (d + 1) n_Ar_fill [.ref 21, .int x, .null, .null] σ = some (.null, sR σ 21 (rF (fun _ => x) (σ.1 21) 36)) := p_fillG d 21 36 (by decide) x (fun σ => p_Ar_fill_21_0 d x σ) (fun k σ => p_Ar_fill_21_5 d x k (nI 36) σ) σ
theorem p_fill25 (d : Nat) (x : Int32) (σ : mS) : Cy (d + 1) n_Ar_fill [.ref 25, .int x, .null, .null] σ = some (.null, sR σ 25 (rF (fun _ => x) (σ.1 25) 5)) := p_fillG d 25 5 (by decide) x (fun σ => p_Ar_fill_25_0 d x σ) (fun k σ => p_Ar_fill_25_5 d x k (nI 5) σ) σ
theorem p_reset (d : Nat) (σ : mS) (z1 : σ.1 40 1 = 0) : ∃ τ, Cy (d + 2) n_Co_reset [.ref 20] σ = some (.null, τ) ∧ kO 20 σ τ ∧ τ.1 20 1 = 0 ∧ τ.1 20 2 = 0 ∧ τ.1 20 3 = -1 ∧ ∀ c, c < 36 → τ.1 21 c = 0 := by
  rw [Cy_s, p_Co_reset_0, p_fill21, mBV_s, show ∀ τ : mS, mFit w1 τ 41 22 0 0 6 = true from fun τ => mFit_ok (s := 0) (t := 0) (n := 6) (la := 6) (lb := 6) rfl rfl (by omega) (by omega) (by omega) (by omega), cT]
  refine ⟨_, rfl, ?_, ?_, ?_, ?_, ?_⟩
  · rw [mUpI_sR, mUpI_sR, mUpI_sR, mCpI_sR]
    exact kO_t (kO_s _ (by omega) (by omega) _) (kO_t (kO_s _ (by omega) (by omega) _) (kO_t (kO_s _ (by omega) (by omega) _) (kO_t (kO_s _ (by omega) (by omega) _) (kO_s _ (by omega) (by omega) _))))
  · rw [mCpI_sR, sR_ne _ _ (by decide), sR_ne _ _ (by decide), mUpI_sR, sR_at, upd_ne _ _ (by decide), mUpI_sR, sR_at, upd_ne _ _ (by decide), mUpI_sR, sR_at, upd_at, z1]
  · rw [mCpI_sR, sR_ne _ _ (by decide), sR_ne _ _ (by decide), mUpI_sR, sR_at, upd_ne _ _ (by decide), mUpI_sR, sR_at, upd_at]
  · rw [mCpI_sR, sR_ne _ _ (by decide), sR_ne _ _ (by decide), mUpI_sR, sR_at, upd_at]
  · intro c hc
    rw [mCpI_sR, sR_ne _ _ (by decide), sR_at]
    unfold rF
    rw [if_pos hc]
theorem p_live (d : Nat) (σ : mS) (z0 : σ.1 40 0 = 0) : ∃ f, Cy (d + 1) n_Co_live [.ref 20, .int 0, .int 36, .null, .null] σ = some (.null, sR σ 23 f) := by
  rw [Cy_s, p_Co_live_0, show (36 : Int32) - 0 = nI 36 from rfl, show (0 : Int32) = nI 0 from rfl, show ∀ τ : mS, mFit w1 τ 42 23 (nI 0) (nI 0) (nI 36) = true from fun τ => mFit_ok (s := 0) (t := 0) (n := 36) (la := 36) (lb := 432) rfl rfl (by omega) (by omega) (by omega) (by omega), cT, mCpI_sR, p_Co_live_21, sR_ne _ _ (by decide), z0, dT _ (by decide), cT]
  exact ⟨_, rfl⟩
theorem p_give (d : Nat) (σ : mS) (z0 : σ.1 40 0 = 0) : Cy (d + 2) n_Co_givePosts [.ref 20, .null, .null, .null, .null] σ = some (.null, sR σ 25 (rF (fun _ => -1) (σ.1 25) 5)) := by
  rw [Cy_s, p_Co_givePosts_0, p_fill25, mBV_s, Cy_s, p_La_everybody_0, mBI_s, p_Co_givePosts_18, sR_ne _ _ (by decide), z0, dT _ (by decide), cT]
theorem p_run (d : Nat) (σ : mS) (z0 : σ.1 40 0 = 0) (z3 : σ.1 40 3 = 0) : ∃ τ, Cy (d + 3) n_Co_run [.ref 20, .null] σ = some (.null, τ) ∧ (∀ a, a ≠ 23 → a ≠ 25 → τ.1 a = σ.1 a) ∧ τ.2 = σ.2 ∧ ∀ q, q < 5 → τ.1 25 q = -1 := by
  obtain ⟨f, e1⟩ := p_live (d + 1) σ z0
  refine ⟨sR (sR σ 23 f) 25 (rF (fun _ => -1) ((sR σ 23 f).1 25) 5), ?_, fun a h1 h2 => by rw [sR_ne _ _ h2, sR_ne _ _ h1], rfl, fun q hq => ?_⟩
  · rw [Cy_s, p_Co_run_0, e1, mBV_s, p_Co_run_9, sR_ne _ _ (by decide), z3, dT _ (by decide), cT, p_give d _ (by rw [sR_ne _ _ (by decide)]; exact z0), mBV_s]
  · rw [sR_at]
    unfold rF
    rw [if_pos hq]
/-- the rows of a new object and of a new reference, ahead of the first run -/
def m4 : Nat → Int32 := upd (upd (upd (upd (fun _ => 0) 0 (-1)) 1 (-1)) 2 (-1)) 3 (-1)
def facR (j : Nat) : Int32 := [1, 1, 2, 6, 24, 120].getD j 0
def f0 (m : Nat) (xs : Nat → Int32) : mS := (fun a => if a = 3 then (fun k => if k = 3 then -1 else 0) else if a = 14 then m4 else if a = 200 then (fun k => if k = 13 then -1 else 0) else if a = 240 then m4 else if a = 299 then (fun _ => nI m) else if a = 300 then xs else if a = 301 then facR else (fun _ => 0), fun _ _ => 0)
theorem m4_at (s : Nat) (h : s < 4) : m4 s = -1 := by
  match s, h with
  | 0, _ => rfl
  | 1, _ => rfl
  | 2, _ => rfl
  | 3, _ => rfl
  | n + 4, h => omega
theorem win_emp (q : Nat) (hq : q < 5) : win emp (vS emp) q = none := rfl
theorem fac_R : ∀ j, j < 6 → facR j = nI (facN j) := by decide
theorem emp_ok0 : lvOK emp := by
  refine ⟨by decide, by decide, by decide, by decide, by decide, by decide, by decide, (by unfold bw; decide), (by unfold bw; decide), fun p hp => absurd hp (Nat.not_lt_zero _), fun c _ => (by show bw (-60) 0 60; unfold bw; decide), fun _ _ => rfl, fun q hq => absurd hq (Nat.not_lt_zero _), fun x hx => (by cases hx), fun x hx => (by cases hx), by decide, by decide⟩
theorem f0_z (m : Nat) (xs : Nat → Int32) {a : Nat} (h : a ≠ 3 ∧ a ≠ 14 ∧ a ≠ 200 ∧ a ≠ 240 ∧ a ≠ 299 ∧ a ≠ 300 ∧ a ≠ 301) : (f0 m xs).1 a = fun _ => 0 := by
  obtain ⟨h1, h2, h3, h4, h5, h6, h7⟩ := h
  show (if a = 3 then _ else _) = _
  rw [if_neg h1, if_neg h2, if_neg h3, if_neg h4, if_neg h5, if_neg h6, if_neg h7]
theorem first_inv (m : Nat) (xs : Nat → Int32) {τ : mS} (h : ∀ a, a < 20 ∨ 25 < a → τ.1 a = (f0 m xs).1 a) (h2 : τ.2 = (f0 m xs).2) (c1 : τ.1 20 1 = 0) (c2 : τ.1 20 2 = 0) (c3 : τ.1 20 3 = -1) (c4 : ∀ c, c < 36 → τ.1 21 c = 0) (c5 : ∀ q, q < 5 → τ.1 25 q = -1) : Inv τ := by
  have z : ∀ a, (a < 20 ∨ 25 < a) → (a ≠ 3 ∧ a ≠ 14 ∧ a ≠ 200 ∧ a ≠ 240 ∧ a ≠ 299 ∧ a ≠ 300 ∧ a ≠ 301) → ∀ k, τ.1 a k = 0 := fun a g1 g2 k => by rw [h a g1, f0_z m xs g2]
  refine ⟨emp, fun _ => none, fun _ => none, fun _ => 0, 0, ⟨emp_ok0, ⟨⟨z 40 (by omega) (by omega) _, z 40 (by omega) (by omega) _, z 40 (by omega) (by omega) _, z 40 (by omega) (by omega) _, z 40 (by omega) (by omega) _, z 40 (by omega) (by omega) _, z 40 (by omega) (by omega) _⟩, fun p hp => absurd hp (Nat.not_lt_zero _), fun c _ => z 42 (by omega) (by omega) c, fun q hq => absurd hq (Nat.not_lt_zero _), ⟨z 45 (by omega) (by omega) _, fun i x hx => absurd hx (by simp [emp, lWr])⟩, ⟨z 50 (by omega) (by omega) _, fun i x hx => absurd hx (by simp [emp, lAc])⟩⟩, ⟨⟨c1, c2, c3, c4, fun p hp => absurd hp (Nat.not_lt_zero _)⟩, fun y hy => absurd hy (Nat.not_lt_zero _), fun q hq => absurd hq (Nat.not_lt_zero _), fun q hq => by rw [win_emp q hq]; exact c5 q hq⟩, ⟨⟨z 201 (by omega) (by omega) _, z 201 (by omega) (by omega) _, z 201 (by omega) (by omega) _, z 201 (by omega) (by omega) _, z 201 (by omega) (by omega) _, z 201 (by omega) (by omega) _, z 201 (by omega) (by omega) _, z 201 (by omega) (by omega) _, z 201 (by omega) (by omega) _⟩, fun p hp => absurd hp (Nat.not_lt_zero _), fun c _ => z 201 (by omega) (by omega) _, fun q hq => absurd hq (Nat.not_lt_zero _), fun i x hx => absurd hx (by simp [emp, lWr]), fun i x hx => absurd hx (by simp [emp, lAc])⟩⟩, ?_, ⟨?_, ?_⟩, ⟨z 1 (by omega) (by omega) _, ?_, by omega, fun j hj => absurd hj (Nat.not_lt_zero _)⟩, ⟨?_, ?_⟩, ?_⟩
  · intro k hk
    exact ⟨z 18 (by omega) (by omega) k, z 203 (by omega) (by omega) k, fun l hl => (by cases hl)⟩
  · intro s hs
    refine ⟨?_, ?_, fun n hn => (by cases hn), z 13 (by omega) (by omega) s, z 241 (by omega) (by omega) s, (by show 0 < 4; decide)⟩
    · rw [h 14 (by omega)]
      exact m4_at s hs
    · rw [h 240 (by omega)]
      exact m4_at s hs
  · intro s hs i hi
    rw [h2]
    rfl
  · rw [h 200 (by omega)]
    rfl
  · rw [h 3 (by omega), h 200 (by omega)]
    rfl
  · rw [h 3 (by omega), h 200 (by omega)]
    rfl
  · intro j hj
    rw [h 301 (by omega)]
    exact fac_R j hj
/-- the first state: what the constructors leave -/
theorem first_run (d m : Nat) (xs : Nat → Int32) : ∃ τ1 τ2, Cy (d + 2) n_Co_reset [.ref 20] (f0 m xs) = some (.null, τ1) ∧ Cy (d + 3) n_Co_run [.ref 20, .null] τ1 = some (.null, τ2) ∧ Inv τ2 ∧ (∀ a, a < 20 ∨ 25 < a → τ2.1 a = (f0 m xs).1 a) ∧ τ2.2 = (f0 m xs).2 := by
  obtain ⟨τ1, e1, k1, a1, a2, a3, a4⟩ := p_reset d (f0 m xs) rfl
  have n40 : τ1.1 40 = (f0 m xs).1 40 := k1.1 40 (by omega)
  obtain ⟨τ2, e2, k2, k2', a5⟩ := p_run d τ1 (by rw [n40]; rfl) (by rw [n40]; rfl)
  have fr : ∀ a, a < 20 ∨ 25 < a → τ2.1 a = (f0 m xs).1 a := fun a ha => by rw [k2 a (by omega) (by omega), k1.1 a (by omega)]
  have f2 : τ2.2 = (f0 m xs).2 := by rw [k2', k1.2]
  exact ⟨τ1, τ2, e1, e2, first_inv m xs fr f2 (by rw [k2 20 (by decide) (by decide)]; exact a1) (by rw [k2 20 (by decide) (by decide)]; exact a2) (by rw [k2 20 (by decide) (by decide)]; exact a3) (fun c hc => by rw [k2 21 (by decide) (by decide)]; exact a4 c hc) a5, fr, f2⟩

