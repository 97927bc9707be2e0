/-! ===== who is foremost; posts given: both sides ===== -/
def lstM (W : Nat → Int32) (b : Option Nat) : Int32 := match b with
  | none => -1
  | some j => W j
theorem lstM_n (W : Nat → Int32) : lstM W none = -1 := rfl
theorem lstM_s (W : Nat → Int32) (j : Nat) : lstM W (some j) = W j := rfl
def fmS (W : Nat → Int32) (s : Nat → Bool) (k : Nat) (b : Option Nat) : Option Nat := if s k = true ∧ lstM W b < W k then some k else b
/-- of P, the first of those in s with the greatest word -/
def fmF (P : Nat) (W : Nat → Int32) (s : Nat → Bool) : Option Nat := mF (fmS W s) P none
theorem fmF_inv (W : Nat → Int32) (s : Nat → Bool) (n : Nat) : ∀ j, mF (fmS W s) n none = some j → j < n ∧ s j = true ∧ -1 < W j := by
  induction n with
  | zero => intro j h; cases h
  | succ n ih =>
    intro j hj
    have e1 : mF (fmS W s) (n + 1) none = fmS W s n (mF (fmS W s) n none) := rfl
    rw [e1] at hj
    generalize mF (fmS W s) n none = b at ih hj
    unfold fmS at hj
    by_cases h : s n = true ∧ lstM W b < W n
    · rw [if_pos h] at hj
      cases hj
      refine ⟨Nat.lt_succ_self _, h.1, ?_⟩
      cases b with
      | none => exact h.2
      | some i => exact Int32.lt_trans (ih i rfl).2.2 h.2
    · rw [if_neg h] at hj
      have := ih j hj
      exact ⟨by omega, this.2⟩
theorem fmF_lt {P : Nat} {W : Nat → Int32} {s : Nat → Bool} {j : Nat} (h : fmF P W s = some j) : j < P ∧ s j = true ∧ -1 < W j := fmF_inv W s P j h
theorem fmF_eq {P : Nat} {W V : Nat → Int32} {s t : Nat → Bool} (hf : ∀ k, k < P → W k = V k) (hs : ∀ k, k < P → s k = t k) : fmF P W s = fmF P V t := by
  have key : ∀ n, n ≤ P → mF (fmS W s) n none = mF (fmS V t) n none := by
    intro n
    induction n with
    | zero => intro _; exact (rfl : (none : Option Nat) = none)
    | succ n ih =>
      intro hn
      have e1 : mF (fmS W s) (n + 1) none = fmS W s n (mF (fmS W s) n none) := rfl
      have e2 : mF (fmS V t) (n + 1) none = fmS V t n (mF (fmS V t) n none) := rfl
      have hb := fmF_inv V t n
      rw [e1, e2, ih (by omega)]
      generalize mF (fmS V t) n none = b at hb
      have hle : lstM W b = lstM V b := by
        cases b with
        | none => rw [lstM_n, lstM_n]
        | some j => rw [lstM_s, lstM_s]; exact hf j (by have := (hb j rfl).1; omega)
      unfold fmS
      rw [hle, hf n (by omega), hs n (by omega)]
  exact key P (Nat.le_refl P)
theorem k_wordFor (d o : Nat) (ho : o = 20 ∨ o = 30) {p q : Nat} (hp : p < 6) (hq : q < 5) (σ : mS) : Cc (d + 1) n_Co_wordFor [.ref o, .int (nI p), .int (nI q)] σ = some (.int (σ.1 (o + 4) (6 * q + p)), σ) := by
  rw [Cc_s, q_Co_wordFor_0 _ _ _ _ ho]
  simp (disch := omega) only [mBI_s, mBL_s, mBV_s, cT, cF, nI_1, nI_add, nI_mul, mIn_nI, nI_clamp, bI_0, bI_n, bI_1, bI_n1, mZ_b, m6l, m6r, m36l, m36r, m2l]
  rw [show q * 6 + p = 6 * q + p by omega]
theorem k_foremost (d o : Nat) (ho : o = 20 ∨ o = 30) {q P : Nat} (hq : q < 5) (hP6 : P ≤ 6) (s : Int32) (σ : mS) (hP : σ.1 40 3 = nI P) : Cc (d + 2) n_Co_foremost [.ref o, .int (nI q), .int s, .null, .null, .null, .null] σ = some (.int (oI (fmF P (fun p => σ.1 (o + 4) (6 * q + p)) (bt s))), σ) := by
  rw [Cc_s, q_Co_foremost_0 _ _ _ _ ho]
  obtain ⟨b, hs⟩ := mForH (fun k (b : Option Nat) (v : Value) => Xx (d + 1) n_Co_foremost 8 [.ref o, .int (nI q), .int s, .int (oI b), .int (lstM (fun p => σ.1 (o + 4) (6 * q + p)) b), .int (nI k), v] [] σ) (fmS (fun p => σ.1 (o + 4) (6 * q + p)) (bt s)) P none .null (by
    intro k v hk
    generalize mF _ k (none : Option Nat) = b
    refine ⟨.int (σ.1 (o + 4) (6 * q + k)), ?_⟩
    rw [q_Co_foremost_8 _ _ _ _ _ _ _ _ ho, hP, dle (by omega) (by omega), dF _ (by omega), cF, k_wordFor d o ho (by omega) hq, mBI_s, k_isIn d k (by omega), mBI_s, bI_0, nI_1]
    unfold fmS
    cases hb : bt s k with
    | false => rw [if_neg (fun q => by cases q.1)]; rfl
    | true =>
      by_cases h : σ.1 (o + 4) (6 * q + k) ≤ lstM (fun p => σ.1 (o + 4) (6 * q + p)) b
      · rw [dT _ h, if_neg (fun q => Int32.not_lt.mpr h q.2)]; rfl
      · rw [dF _ h, if_pos ⟨rfl, Int32.not_le.mp h⟩]; rfl)
  exact hs.trans (by rw [q_Co_foremost_8 _ _ _ _ _ _ _ _ ho, hP, dT _ (Int32.le_refl _), cT]; rfl)
theorem r_bestFor (d : Nat) {l : Lv} (hl : lvOK l) {v : Va} (hv : vaOK v) {q : Nat} (hq : q < lQ l) (had : Int32) (but : Option Nat) (hbut : ∀ i, but = some i → i < 2 ^ 31) {σ : mS} (h : rF1 σ l v) : ∃ u, Cc (d + 6) n_M_bestFor [.ref 200, .int (nI q), .int had, .int (oI but), .null, .null] σ = some (.int (oI (fmF (lP l) (wd l v q) (fun k => !(bt had k) && !(decide (but = some k))))), pN σ u) := by
  have hP := lvP hl
  obtain ⟨u, hs⟩ := mForH (fun k (b : Option Nat) (u : Int32) => Xx (d + 5) n_M_bestFor 6 [.ref 200, .int (nI q), .int had, .int (oI but), .int (oI b), .int (nI k)] [] (pN σ u)) (fmS (wd l v q) (fun k => !(bt had k) && !(decide (but = some k)))) (lP l) none (σ.1 200 27) (by
    intro k u hk
    have hb := fmF_inv (wd l v q) (fun k => !(bt had k) && !(decide (but = some k))) k
    generalize mF _ k (none : Option Nat) = b at hb
    obtain ⟨u1, e1, -⟩ := r_fullWord d hl hv hk hq (rF1_pN h u)
    rw [pN_pN] at e1
    rw [q_M_bestFor_6, r_persons, mBI_s, pN_ne _ _ (by decide), lM_P h.1, dle (by omega) (by omega), dF _ (by omega), cF, r_bit _ _ _ (by omega), mBI_s, bI_1, oI_eq (by omega) hbut, nI_1, e1, mBI_s]
    unfold fmS
    cases hb1 : bt had k with
    | true => rw [if_neg (fun q => by simp [hb1] at q)]; exact ⟨u, rfl⟩
    | false =>
      by_cases hb2 : but = some k
      · rw [dT _ hb2, if_neg (fun q => by simp [hb2] at q)]; exact ⟨u, rfl⟩
      · rw [dF _ hb2, cF, cF]
        have hw := wd_bw hl hv q hk
        by_cases hn : wd l v q k = -1
        · rw [dF _ (fun q => q hn), cF, if_neg]
          · exact ⟨u1, rfl⟩
          · intro q
            have h2 := q.2
            rw [hn] at h2
            cases b with
            | none => exact absurd h2 (Int32.lt_irrefl)
            | some j => exact Int32.lt_irrefl (Int32.lt_trans (hb j rfl).2.2 h2)
        · rw [dT _ hn, cT]
          have hpos : -1 < wd l v q k := by
            rcases Int32.lt_or_eq_of_le (show (-1 : Int32) ≤ wd l v q k from Int32.le_iff_toInt_le.mpr hw.1) with g | g
            · exact g
            · exact absurd g.symm hn
          cases b with
          | none =>
            rw [oI_n, m1e, cT, if_pos ⟨by simp [hb1, hb2], hpos⟩]
            exact ⟨u1, rfl⟩
          | some j =>
            have hj := (hb j rfl).1
            obtain ⟨u2, e2, -⟩ := r_fullWord d hl hv hk hq (rF1_pN h u1)
            rw [pN_pN] at e2
            obtain ⟨u3, e3, -⟩ := r_fullWord d hl hv (show j < lP l by omega) hq (rF1_pN h u2)
            rw [pN_pN] at e3
            rw [oI_s, nI_m1e (by omega), cF, e2, mBI_s, e3, mBI_s]
            refine ⟨u3, ?_⟩
            by_cases hle : wd l v q k ≤ wd l v q j
            · rw [dT _ hle, cT, if_neg (fun q => Int32.not_lt.mpr hle q.2)]; rfl
            · rw [dF _ hle, cF, if_pos ⟨by simp [hb1, hb2], Int32.not_le.mp hle⟩]; rfl)
  refine ⟨u, ?_⟩
  rw [Cc_s, q_M_bestFor_0]
  have e0 : Xx (d + 5) n_M_bestFor 6 [.ref 200, .int (nI q), .int had, .int (oI but), .int (-1), .int 0] [] σ = Xx (d + 5) n_M_bestFor 6 [.ref 200, .int (nI q), .int had, .int (oI but), .int (oI none), .int (nI 0)] [] (pN σ (σ.1 200 27)) := by rw [pN_self]; rfl
  rw [e0]
  exact hs.trans (by rw [q_M_bestFor_6, r_persons, mBI_s, pN_ne _ _ (by decide), lM_P h.1, dT _ (Int32.le_refl _), cT]; rfl)
/-! posts given -/
abbrev G3 : Type := Int32 × (Nat → Option Nat) × (Nat → Option Nat)
def updO (f : Nat → Option Nat) (k : Nat) (x : Option Nat) : Nat → Option Nat := fun j => if j = k then x else f j
/-- who gets it, who comes next, given those who have one -/
def gvB (l : Lv) (W : Nat → Nat → Int32) (q : Nat) (h : Int32) : Option Nat := fmF (lP l) (W q) (fun k => !(bt h k))
def gvN (l : Lv) (W : Nat → Nat → Int32) (q : Nat) (h : Int32) : Option Nat := fmF (lP l) (W q) (fun k => !(bt h k) && !(decide (gvB l W q h = some k)))
def hadS (h : Int32) (b : Option Nat) : Int32 := match b with
  | none => h
  | some j => h ||| (1 <<< (nI j &&& 31))
def gvQ (l : Lv) (W : Nat → Nat → Int32) (y q : Nat) (g : G3) : G3 := if lWh l q = y then (hadS g.1 (gvB l W q g.1), updO g.2.1 q (gvB l W q g.1), updO g.2.2 q (gvN l W q g.1)) else g
def gvY (l : Lv) (W : Nat → Nat → Int32) (y : Nat) (g : G3) : G3 := mF (gvQ l W y) (lQ l) g
def gv0 : G3 := (0, fun _ => none, fun _ => none)
def gvA (l : Lv) (W : Nat → Nat → Int32) : G3 := mF (gvY l W) (lY l) gv0
/-- a row of numbers or none -/
def oRw (n : Nat) (w : Nat → Option Nat) (f : Nat → Int32) : Nat → Int32 := fun j => if j < n then oI (w j) else f j
theorem oRw_upd {n k : Nat} (hk : k < n) (w : Nat → Option Nat) (f : Nat → Int32) (x : Option Nat) : upd (oRw n w f) k (oI x) = oRw n (updO w k x) f := by
  funext j
  unfold upd oRw updO
  by_cases h : j = k
  · subst h
    rw [if_pos rfl, if_pos hk, if_pos rfl]
  · rw [if_neg h, if_neg h]
theorem oRw_at {n k : Nat} (hk : k < n) (w : Nat → Option Nat) (f : Nat → Int32) : oRw n w f k = oI (w k) := if_pos hk
theorem updO_at (w : Nat → Option Nat) (k : Nat) (x : Option Nat) : updO w k x k = x := if_pos rfl
theorem updO_none {w : Nat → Option Nat} {k : Nat} (h : w k = none) : updO w k none = w := by
  funext j
  unfold updO
  by_cases e : j = k
  · rw [if_pos e, e, h]
  · rw [if_neg e]
def gS (σ : mS) (g : G3) (u : Int32) : mS := sR (sR (pN σ u) 225 (oRw 5 g.2.1 (σ.1 225))) 226 (oRw 5 g.2.2 (σ.1 226))
theorem gS_ne (σ : mS) (g : G3) (u : Int32) {a : Nat} (h1 : a ≠ 200) (h2 : a ≠ 225) (h3 : a ≠ 226) : (gS σ g u).1 a = σ.1 a := by
  unfold gS
  rw [sR_ne _ _ h3, sR_ne _ _ h2, pN_ne _ _ h1]
theorem gS_rF1 {σ : mS} {l : Lv} {v : Va} (h : rF1 σ l v) (g : G3) (u : Int32) : rF1 (gS σ g u) l v := by
  unfold rF1 at h ⊢
  rw [gS_ne _ _ _ (by decide) (by decide) (by decide), gS_ne _ _ _ (by decide) (by decide) (by decide), gS_ne _ _ _ (by decide) (by decide) (by decide)]
  exact h
theorem pN_sR (σ : mS) (u : Int32) {o : Nat} (h : o ≠ 200) (f : Nat → Int32) : pN (sR σ o f) u = sR (pN σ u) o f := by
  unfold pN
  rw [mUpI_sR, mUpI_sR, sR_ne _ _ (fun q => h q.symm), sR_comm _ h]
theorem gS_pN (σ : mS) (g : G3) (u w : Int32) : pN (gS σ g u) w = gS σ g w := by
  unfold gS
  rw [pN_sR _ _ (by decide), pN_sR _ _ (by decide), pN_pN]
theorem gS_225 (σ : mS) (g : G3) (u : Int32) : (gS σ g u).1 225 = oRw 5 g.2.1 (σ.1 225) := by
  unfold gS
  rw [sR_ne _ _ (by decide), sR_at]
theorem gS_226 (σ : mS) (g : G3) (u : Int32) : (gS σ g u).1 226 = oRw 5 g.2.2 (σ.1 226) := by
  unfold gS
  rw [sR_at]
theorem gS_s1 (σ : mS) (h : Int32) (a b : Nat → Option Nat) (u : Int32) {k : Nat} (hk : k < 5) (x : Option Nat) : mUpI (gS σ (h, a, b) u) 225 k (oI x) = gS σ (h, updO a k x, b) u := by
  rw [mUpI_sR, gS_225, oRw_upd hk]
  unfold gS
  rw [sR_comm _ (by decide), sR_sR]
theorem gS_s2 (σ : mS) (h : Int32) (a b : Nat → Option Nat) (u : Int32) {k : Nat} (hk : k < 5) (x : Option Nat) : mUpI (gS σ (h, a, b) u) 226 k (oI x) = gS σ (h, a, updO b k x) u := by
  rw [mUpI_sR, gS_226, oRw_upd hk]
  unfold gS
  rw [sR_sR]
theorem gS_g (σ : mS) (h : Int32) (a b : Nat → Option Nat) (u : Int32) {k : Nat} (hk : k < 5) : (gS σ (h, a, b) u).1 225 k = oI (a k) := by
  rw [gS_225]
  exact oRw_at hk _ _
