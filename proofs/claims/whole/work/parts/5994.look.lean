/-! ===== sets of skills that go with what was seen ===== -/
variable {σ τ : mS} {l : Lv}
def fL2 (c : Nat → Bool) : Nat → List Nat
  | 0 => []
  | k + 1 => bif c k then fL2 c k ++ [k] else fL2 c k
theorem fL2_len (c : Nat → Bool) : ∀ k, (fL2 c k).length ≤ k := by
  intro k
  induction k with
  | zero => exact Nat.le_refl 0
  | succ k ih =>
    unfold fL2
    cases c k with
    | false => rw [cF]; omega
    | true => rw [cT, List.length_append]; simp only [List.length_cons, List.length_nil]; omega
theorem fL2_t {c : Nat → Bool} {k : Nat} (h : c k = true) : fL2 c (k + 1) = fL2 c k ++ [k] := by
  show (bif c k then _ else _) = _
  rw [h, cT]
theorem fL2_f {c : Nat → Bool} {k : Nat} (h : c k = false) : fL2 c (k + 1) = fL2 c k := by
  show (bif c k then _ else _) = _
  rw [h, cF]
def andL (L : List Nat) : Int32 := L.foldl (fun w s => w &&& nI s) 63
def orL (L : List Nat) : Int32 := L.foldl (fun w s => w ||| nI s) 0
def ix (x : Option Nat) : Nat := match x with
  | none => 0
  | some p => p + 1
theorem ix_inj {x y : Option Nat} (h : ix x = ix y) : x = y := by
  cases x <;> cases y <;> simp_all [ix]
def ctE (w : Nat → Nat → Option Nat) (L : List Nat) (q e : Nat) : Nat := (L.filter (fun s => decide (ix (w s q) = e))).length
theorem ctE_app (w : Nat → Nat → Option Nat) (L : List Nat) (s q e : Nat) : ctE w (L ++ [s]) q e = ctE w L q e + (if ix (w s q) = e then 1 else 0) := by
  unfold ctE
  rw [List.filter_append, List.length_append]
  congr 1
  by_cases h : ix (w s q) = e
  · rw [if_pos h]; simp [h]
  · rw [if_neg h]; simp [h]
theorem ctE_le (w : Nat → Nat → Option Nat) (L : List Nat) (q e : Nat) : ctE w L q e ≤ L.length := List.length_filter_le _ _
/-- what the class has noted -/
def kN (σ : mS) (Q : Nat) (w : Nat → Nat → Option Nat) (L : List Nat) : Prop := σ.1 15 4 = nI L.length ∧ σ.1 15 5 = andL L ∧ σ.1 15 6 = orL L ∧ ∀ q, q < Q → ∀ e, e < 7 → σ.1 16 (7 * q + e) = nI (ctE w L q e)
theorem oI_ix (x : Option Nat) : oI x + 1 = nI (ix x) := by
  cases x with
  | none => rfl
  | some p => exact nI_1 p
/-- only what the class tries with has changed -/
theorem sC_15 (σ : mS) (f : Nat → Int32) : sC σ (sR σ 15 f) := sC_s σ (by omega) f
theorem sC_16 (σ : mS) (f : Nat → Int32) : sC σ (sR σ 16 f) := sC_s σ (by omega) f
theorem cR_o {o b : Nat} {v : Va} (h : cR σ o l v) (hb : b < o ∨ o + 5 < b) (f : Nat → Int32) : cR (sR σ b f) o l v := cR_c h (fun a h1 h2 => sR_ne _ _ (by omega))
set_option maxHeartbeats 1000000 in
theorem k_note (d : Nat) (t : tL σ l) {v : Va} (c : cR σ 30 l v) {w : Nat → Nat → Option Nat} {L : List Nat} {s : Nat} (hs : s < 2 ^ 31) (hL : L.length < 1000) (hw : ∀ q, w s q = win l v q) (h : kN σ (lQ l) w L) : ∃ τ, Cc (d + 1) n_Si_note [.ref 15, .int (nI s), .null] σ = some (.null, τ) ∧ sC σ τ ∧ tL τ l ∧ cR τ 30 l v ∧ kN τ (lQ l) w (L ++ [s]) := by
  have h1 := lvP t.1
  have h3 := lvQ t.1
  obtain ⟨n1, n2, n3, n4⟩ := h
  rw [c_Si_note]
  have e0 : (mUpI (mUpI (mUpI σ 15 4 ((σ.1 15 4) + (1 : Int32))) 15 5 (((mUpI σ 15 4 ((σ.1 15 4) + (1 : Int32))).1 15 5) &&& nI s)) 15 6 (((mUpI (mUpI σ 15 4 ((σ.1 15 4) + (1 : Int32))) 15 5 (((mUpI σ 15 4 ((σ.1 15 4) + (1 : Int32))).1 15 5) &&& nI s)).1 15 6) ||| nI s)) = sR σ 15 (upd (upd (upd (σ.1 15) 4 (nI (L.length + 1))) 5 (andL L &&& nI s)) 6 (orL L ||| nI s)) := by
    simp only [mUpI_sR, sR_sR, sR_at]
    congr 1
    have a1 : upd (σ.1 15) 4 (σ.1 15 4 + 1) = upd (σ.1 15) 4 (nI (L.length + 1)) := by rw [n1, nI_1]
    have a2 : upd (σ.1 15) 4 (σ.1 15 4 + 1) 5 = andL L := by rw [upd_ne _ _ (by decide)]; exact n2
    rw [a2, a1]
    congr 1
    rw [upd_ne _ _ (by decide), upd_ne _ _ (by decide), n3]
  rw [e0]
  generalize hg : sR σ 15 (upd (upd (upd (σ.1 15) 4 (nI (L.length + 1))) 5 (andL L &&& nI s)) 6 (orL L ||| nI s)) = σ1
  have s1 : sC σ σ1 := by rw [← hg]; exact sC_15 _ _
  have t1 := tL_sC t s1
  have c1 : cR σ1 30 l v := by rw [← hg]; exact cR_o c (by omega) _
  have f15 : σ1.1 15 4 = nI (L.length + 1) ∧ σ1.1 15 5 = andL L &&& nI s ∧ σ1.1 15 6 = orL L ||| nI s := by
    rw [← hg, sR_at]
    refine ⟨?_, ?_, ?_⟩
    · rw [upd_ne _ _ (by decide), upd_ne _ _ (by decide), upd_at]
    · rw [upd_ne _ _ (by decide), upd_at]
    · rw [upd_at]
  have f16 : ∀ q, q < lQ l → ∀ e, e < 7 → σ1.1 16 (7 * q + e) = nI (ctE w L q e) := by rw [← hg, sR_ne _ _ (by decide)]; exact n4
  obtain ⟨⟨v1, τ⟩, e, i1, i2, i3, i4, i5⟩ := mForI (fun k (_ : Unit) (b : Value × mS) => Xx d n_Si_note 32 [.ref 15, b.1, .int (nI k)] [] b.2) (fun k b => sC σ1 b.2 ∧ tL b.2 l ∧ cR b.2 30 l v ∧ (b.2.1 15 = σ1.1 15) ∧ ∀ q, q < lQ l → ∀ e, e < 7 → b.2.1 16 (7 * q + e) = nI (ctE w L q e + (if q < k ∧ ix (w s q) = e then 1 else 0))) (fun _ a => a) (lQ l) () (.int (nI s), σ1) ⟨sC_r σ1, t1, c1, rfl, fun q hq e he => by rw [if_neg (by omega)]; exact f16 q hq e he⟩ (by
    intro k b hk hI
    obtain ⟨i1, i2, i3, i4, i5⟩ := hI
    have hxk : ix (w s k) < 7 := by
      rw [hw k]
      unfold ix
      cases hwk : win l v k with
      | none => exact (by decide)
      | some p => have := win_lt t.1 hwk; dsimp only; omega
    have e35 : b.2.1 35 k = oI (w s k) := by rw [hw k]; exact i3.2.2.2 k (by omega)
    have hidx : nI k * (7 : Int32) + oI (w s k) + 1 = nI (7 * k + ix (w s k)) := by
      rw [show (7 : Int32) = nI 7 from rfl, nI_mul, Int32.add_assoc, oI_ix, nI_add, Nat.mul_comm]
    have hct := ctE_le w L k (ix (w s k))
    refine ⟨(mKl b.1, sR b.2 16 (upd (b.2.1 16) (7 * k + ix (w s k)) (nI (ctE w L k (ix (w s k)) + 1)))), ?_, sC_t i1 (sC_16 _ _), tL_sC i2 (sC_16 _ _), cR_o i3 (by omega) _, by rw [sR_ne _ _ (by decide)]; exact i4, fun q hq e he => ?_⟩
    · rw [q_Si_note_32, tQ i2, dle (by omega) (by omega), dF _ (by omega), cF, mIn_nI (by omega) (by omega), cT, nI_clamp (by omega), e35, hidx, mIn_nI (by omega) (by omega), cT, cT, nI_clamp (by omega), mUpI_sR, i5 k hk _ hxk, if_neg (by omega), Nat.add_zero, nI_1, nI_1]
    · rw [sR_at]
      by_cases g : 7 * q + e = 7 * k + ix (w s k)
      · have gq : q = k := by omega
        have ge : e = ix (w s k) := by omega
        rw [g, upd_at, gq, ge, if_pos ⟨Nat.lt_succ_self k, rfl⟩]
      · rw [upd_ne _ _ g, i5 q hq e he]
        congr 2
        by_cases g2 : q < k ∧ ix (w s q) = e
        · rw [if_pos g2, if_pos ⟨by omega, g2.2⟩]
        · rw [if_neg g2, if_neg (fun x => by
            rcases Nat.lt_or_ge q k with y | y
            · exact g2 ⟨y, x.2⟩
            · have : q = k := by omega
              subst this
              exact g (by rw [x.2]))])
  refine ⟨τ, Eq.trans e ?_, sC_t s1 i1, i2, i3, ?_, ?_, ?_, fun q hq e he => ?_⟩
  · rw [q_Si_note_32, tQ i2, dT _ (Int32.le_refl _), cT]
  · rw [i4, f15.1, List.length_append]; rfl
  · rw [i4, f15.2.1]; unfold andL; rw [List.foldl_append]; rfl
  · rw [i4, f15.2.2]; unfold orL; rw [List.foldl_append]; rfl
  · rw [i5 q hq e he, ctE_app]
    congr 2
    by_cases g : ix (w s q) = e
    · rw [if_pos ⟨hq, g⟩, if_pos g]
    · rw [if_neg (fun x => g x.2), if_neg g]
def seB (l : Lv) (p : Nat) (R : Nat → Int64) (n s : Nat) : Bool := soB (win l (vK l p (nI s))) R n
def seL (l : Lv) (p : Nat) (R : Nat → Int64) (n : Nat) : List Nat := fL2 (seB l p R n) 64
def wK (l : Lv) (p s q : Nat) : Option Nat := win l (vK l p (nI s)) q
theorem k_look (d : Nat) (t : tL σ l) {s n : Nat} (hs : s < 4) (hn : n ≤ 60) (h14 : σ.1 14 s = nI n) (htd : tdB l (σ.2 (9 + s)) n = true) {p : Nat} (hp : p < lP l) : ∃ τ, Cc (d + 6) n_Si_look [.ref 15, .int (nI s), .int (nI p), .null] σ = some (.null, τ) ∧ sC σ τ ∧ tL τ l ∧ kN τ (lQ l) (wK l p) (seL l p (σ.2 (9 + s)) n) := by
  have h1 := lvP t.1
  have h3 := lvQ t.1
  have e0 : mUpI (mUpI (mUpI σ 15 4 0) 15 5 63) 15 6 0 = sR σ 15 (upd (upd (upd (σ.1 15) 4 0) 5 63) 6 0) := by simp only [mUpI_sR, sR_sR, sR_at]
  rw [c_Si_look, e0, k_fill16, mBV_s]
  generalize hg : sR (sR σ 15 (upd (upd (upd (σ.1 15) 4 0) 5 63) 6 0)) 16 (rF (fun _ => 0) ((sR σ 15 (upd (upd (upd (σ.1 15) 4 0) 5 63) 6 0)).1 16) 35) = σ1
  have s1 : sC σ σ1 := by rw [← hg]; exact sC_t (sC_15 _ _) (sC_16 _ _)
  have n1 : kN σ1 (lQ l) (wK l p) [] := by
    rw [← hg]
    refine ⟨?_, ?_, ?_, fun q hq e he => ?_⟩
    · rw [sR_ne _ _ (by decide), sR_at, upd_ne _ _ (by decide), upd_ne _ _ (by decide), upd_at]; rfl
    · rw [sR_ne _ _ (by decide), sR_at, upd_ne _ _ (by decide), upd_at]; rfl
    · rw [sR_ne _ _ (by decide), sR_at, upd_at]; rfl
    · rw [sR_at, rF_at (by omega)]; rfl
  have t1 := tL_sC t s1
  obtain ⟨σ2, e2, o2, t2, v2⟩ := k_resetT (d + 3) t1
  obtain ⟨σ3, e3, o3, t3, c3⟩ := k_runT d t2 (vS_ok t.1) v2
  have nk : ∀ {a b : mS} {L : List Nat}, kO 30 a b → kN a (lQ l) (wK l p) L → kN b (lQ l) (wK l p) L := by
    intro a b L hk hN
    unfold kN at hN ⊢
    rw [hk.1 15 (by omega), hk.1 16 (by omega)]
    exact hN
  have hI0 : kN σ3 (lQ l) (wK l p) (fL2 (seB l p (σ.2 (9 + s)) n) 0) := nk o3 (nk o2 n1)
  obtain ⟨τ, e, i1, i2, -, i4⟩ := mForI (fun k (_ : Unit) (b : mS) => Xx (d + 5) n_Si_look 40 [.ref 15, .int (nI s), .int (nI p), .int (nI k)] [] b) (fun k b => sC σ b ∧ tL b l ∧ (∃ x, cR b 30 l (vK l p x)) ∧ kN b (lQ l) (wK l p) (fL2 (seB l p (σ.2 (9 + s)) n) k)) (fun _ a => a) 64 () σ3 ⟨sC_t s1 (sC_t (sC_k o2) (sC_k o3)), t3, ⟨lSk l p, by rw [vK_self]; exact c3⟩, hI0⟩ (by
    intro k b hk hI
    obtain ⟨i1, i2, ⟨x, i3⟩, i4⟩ := hI
    have hlen := fL2_len (seB l p (σ.2 (9 + s)) n) k
    obtain ⟨b2, e4, o4, t4, c4⟩ := k_skill (d + 1) i2 hp i3 (nI k) (fun τ2 => (mBI (Cc (d + 5) n_Si_isSo [.ref 15, .int (nI s), .null, .null] τ2) fun r4 τ3 => (bif decide (r4 = 0) then Xx (d + 5) n_Si_look 40 [.ref 15, .int (nI s), .int (nI p), .int (nI k + 1)] [] τ3 else (mBV (Cc (d + 5) n_Si_note [.ref 15, .int (nI k), .null] τ3) fun τ5 => Xx (d + 5) n_Si_look 40 [.ref 15, .int (nI s), .int (nI p), .int (nI k + 1)] [] τ5))))
    have s4 := sC_t i1 (sC_k o4)
    have hso := k_isSo (d + 4) hs hn (σ := b2) (by rw [s4.1 14 (by omega)]; exact h14) c4.2.2.2 t.1 (by rw [s4.2]; exact htd)
    rw [s4.2] at hso
    rw [q_Si_look_40, show decide ((64 : Int32) ≤ nI k) = false from decide_eq_false (nI_ge (b := 64) hk (by decide)), cF, mIn_nI (by omega) (by omega), cT, nI_clamp (by omega), e4, hso, mBI_s, bI_0, nI_1]
    cases hb : soB (win l (vK l p (nI k))) (σ.2 (9 + s)) n with
    | false =>
      refine ⟨b2, rfl, s4, t4, ⟨_, c4⟩, ?_⟩
      rw [fL2_f (c := seB l p (σ.2 (9 + s)) n) (k := k) hb]
      exact nk o4 i4
    | true =>
      obtain ⟨b3, e5, s5, t5, c5, n5⟩ := k_note (d + 4) t4 c4 (w := wK l p) (s := k) (by omega) (by omega) (fun q => rfl) (nk o4 i4)
      refine ⟨b3, ?_, sC_t s4 s5, t5, ⟨_, c5⟩, ?_⟩
      · rw [Bool.not_true, cF, e5, mBV_s]
      · rw [fL2_t (c := seB l p (σ.2 (9 + s)) n) (k := k) hb]
        exact n5)
  refine ⟨τ, ?_, i1, i2, i4⟩
  rw [e2, mBV_s, e3, mBV_s]
  refine Eq.trans e ?_
  rw [q_Si_look_40, show decide ((64 : Int32) ≤ nI 64) = true by decide, cT]
