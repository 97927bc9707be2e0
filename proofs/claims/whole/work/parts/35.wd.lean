/-! ===== the word of one for a post: both sides ===== -/
def fw (l : Lv) (v : Va) (q p k : Nat) : Int32 := fE l v (lWh l q) (6 * k + p)
def wrO (l : Lv) (v : Va) (q p : Nat) (s : Nat → Bool) : Option Int32 := if lWh l q < lY l ∧ lAs l q &&& (vSk v p ^^^ (-1)) = 0 then wrS (lP l) (fw l v q p) s (nb (lAs l q)) 0 else none
def wdV (P : Nat) (f : Nat → Int32) (x : Option Int32) : Int32 := match x with
  | none => -1
  | some w => hbS P f (bt w)
/-- the word by everybody -/
def wd (l : Lv) (v : Va) (q p : Nat) : Int32 := wdV (lP l) (fw l v q p) (wrO l v q p (fun _ => true))
theorem wrO_eq {l : Lv} {v : Va} {q p : Nat} {s t : Nat → Bool} (h : ∀ k, k < lP l → fw l v q p k < 0 → s k = t k) : wrO l v q p s = wrO l v q p t := by
  unfold wrO
  split
  · exact wrS_eq (fun _ _ => rfl) h _ _
  · rfl
/-- feelings ready, as the reference has them -/
def rF1 (σ : mS) (l : Lv) (v : Va) : Prop := lM (σ.1 201) l ∧ (∀ y, y < lY l → ∀ c, c < 36 → σ.1 223 (36 * y + c) = fE l v y c) ∧ ∀ p, p < lP l → σ.1 215 p = vSk v p
theorem rF1_pN {σ : mS} {l : Lv} {v : Va} (h : rF1 σ l v) (u : Int32) : rF1 (pN σ u) l v := by
  unfold rF1 at h ⊢
  rw [pN_ne _ _ (by decide), pN_ne _ _ (by decide), pN_ne _ _ (by decide)]
  exact h
theorem lM_P {f : Nat → Int32} {l : Lv} (h : lM f l) : f 3 = nI (lP l) := h.1.2.2.2.1
theorem lM_Q {f : Nat → Int32} {l : Lv} (h : lM f l) : f 6 = nI (lQ l) := h.1.2.2.2.2.2.2.1
theorem lM_Y {f : Nat → Int32} {l : Lv} (h : lM f l) : f 0 = nI (lY l) := h.1.1
theorem lM_Ln {f : Nat → Int32} {l : Lv} (h : lM f l) : f 8 = nI (lLn l) := h.1.2.2.2.2.2.2.2.2
theorem lM_wh {f : Nat → Int32} {l : Lv} (h : lM f l) {q : Nat} (hq : q < lQ l) : f (83 + 2 * q) = nI (lWh l q) := (h.2.2.2.1 q hq).1
theorem lM_as {f : Nat → Int32} {l : Lv} (h : lM f l) {q : Nat} (hq : q < lQ l) : f (84 + 2 * q) = lAs l q := (h.2.2.2.1 q hq).2
theorem lvLand {l : Lv} (hl : lvOK l) (h : 0 < lQ l ∨ 0 < lP l ∨ 0 < lY l) : 0 < lLn l := by
  rcases Nat.eq_zero_or_pos (lLn l) with e | e
  · have h1 := lvNo hl e
    have h2 := lvLY hl
    omega
  · exact e
theorem mIn_dec {k n : Nat} (hk : k < 2 ^ 31) (hn : n < 2 ^ 31) : mIn (nI k) n = decide (k < n) := by
  by_cases h : k < n
  · rw [mIn_nI h hn, decide_eq_true h]
  · rw [mIn_iff _ _ hn, decide_eq_true (nI_le (Nat.not_lt.mp h) hk), decide_eq_false h]
    cases decide (nI k < 0) <;> rfl
theorem r_wordOf (d : Nat) {l : Lv} (hl : lvOK l) {v : Va} (hv : vaOK v) {p q : Nat} (hp : p < lP l) (hq : q < lQ l) (s : Int32) {σ : mS} (h : rF1 σ l v) : ∃ u, Cc (d + 4) n_M_wordOf [.ref 200, .int (nI p), .int (nI q), .int s, .null, .null, .null, .null, .null] σ = some (.int (wdV (lP l) (fw l v q p) (wrO l v q p (bt s))), pN σ u) ∧ ∀ w, wrO l v q p (bt s) = some w → u = w := by
  have hP := lvP hl
  have hQ := lvQ hl
  have hY := lvY hl
  have hwh := lvWh hl q hq
  have hland := lvLand hl (Or.inl (show 0 < lQ l by omega))
  have hLn := lvLn hl
  have hM := h.1
  have hfe : lWh l q < lY l → ∀ k, k < lP l → σ.1 223 (36 * lWh l q + (6 * k + p)) = fw l v q p k := fun hy k hk => h.2.1 _ hy _ (by omega)
  rw [Cc_s, q_M_wordOf_0, r_needsOf _ (by omega), mBI_s, lM_as hM hq, show mUpI σ 200 27 0 = pN σ 0 from rfl, r_yearOf _ (by omega), mBI_s, pN_ne _ _ (by decide), lM_wh hM hq, r_isYear _ _ _ (by rw [pN_ne _ _ (by decide)]; exact lM_Ln hM) (by omega) (by rw [pN_ne _ _ (by decide)]; exact lM_Y hM) (by omega), mBI_s, mIn_dec (by omega) (by omega), decide_eq_true hland, bI_0, mIn_nI (by omega) (by omega), cT, nI_clamp (by omega), pN_ne _ _ (by decide), h.2.2 p hp]
  unfold wrO
  by_cases hy : lWh l q < lY l
  · rw [decide_eq_true hy]
    by_cases hs : lAs l q &&& (vSk v p ^^^ (-1)) = 0
    · rw [dT _ hs, if_pos ⟨hy, hs⟩]
      obtain ⟨u, e, hu⟩ := r_word47 (d + 1) (y := lWh l q) (P := lP l) (show p < 6 by omega) (show q < 5 by omega) hwh hP s (lAs l q) (nb_le _ (lvAs hl q hq)) (nb (lAs l q)) 0 (by omega) 0 .null .null (pN σ 0) rfl (by rw [pN_ne _ _ (by decide)]; exact lM_P hM) (by rw [pN_ne _ _ (by decide)]; exact lM_wh hM hq)
      rw [hbS_0 _ _ hP, pN_pN] at e
      simp only [pN_ne _ _ (show 223 ≠ 200 by decide)] at e hu
      have e3 := wrS_eq (s := fun k => !(decide (k = p)) && bt s k) (t := bt s) (hfe hy) (by
        intro k hk hn
        by_cases hkp : k = p
        · exfalso
          rw [hfe hy k hk, hkp] at hn
          unfold fw at hn
          rw [show 6 * p + p = 7 * p by omega, fE_diag hl hv _ (by omega)] at hn
          exact absurd hn (by decide)
        · rw [decide_eq_false hkp]; rfl) (nb (lAs l q)) 0
      rw [e3] at e hu
      refine ⟨u, ?_, hu⟩
      have e4 : ∀ x : Option Int32, (match x with | none => (-1 : Int32) | some w' => hbS (lP l) (fun k => σ.1 223 (36 * lWh l q + (6 * k + p))) (bt w')) = wdV (lP l) (fw l v q p) x := by
        intro x
        cases x with
        | none => rfl
        | some w => exact hbS_eq (hfe hy) (fun _ _ _ => rfl)
      rw [← e4]
      exact e
    · rw [dF _ hs, if_neg (fun q => hs q.2)]
      exact ⟨0, rfl, fun w h => by cases h⟩
  · rw [decide_eq_false hy, if_neg (fun q => hy q.1)]
    exact ⟨0, rfl, fun w h => by cases h⟩
theorem wrO_ev {l : Lv} (hl : lvOK l) (v : Va) (q p : Nat) : wrO l v q p (bt (ev (lP l))) = wrO l v q p (fun _ => true) := wrO_eq (fun k hk _ => by
  have := lvP hl
  rw [ev_bt this (by omega), decide_eq_true hk])
theorem r_fullWord (d : Nat) {l : Lv} (hl : lvOK l) {v : Va} (hv : vaOK v) {p q : Nat} (hp : p < lP l) (hq : q < lQ l) {σ : mS} (h : rF1 σ l v) : ∃ u, Cc (d + 5) n_M_fullWord [.ref 200, .int (nI p), .int (nI q)] σ = some (.int (wd l v q p), pN σ u) ∧ ∀ w, wrO l v q p (fun _ => true) = some w → u = w := by
  obtain ⟨u, e, hu⟩ := r_wordOf d hl hv hp hq (ev (lP l)) h
  rw [wrO_ev hl] at e hu
  refine ⟨u, ?_, hu⟩
  rw [Cc_s, q_M_fullWord_0, r_everybody _ _ (lM_P h.1), mBI_s, e, mBI_s]
  rfl
/-- a word is none, or at least 0 and at most 360 -/
theorem hbS_bw {P : Nat} (hP : P ≤ 6) {f : Nat → Int32} (hf : ∀ k, k < P → bw (-60) (f k) 60) (s : Nat → Bool) : bw 0 (hbS P f s) 360 := by
  have key := mF_inv (fun k (u : Int32) => 0 ≤ u.toInt ∧ u.toInt ≤ 60 * (k : Int)) (fun k u => if s k = true then u - (if 0 < f k then 0 else f k) else u) P (0 : Int32) ⟨by decide, by decide⟩ (by
    intro k u hk hu
    have hk6 : (k : Int) < 6 := by omega
    have hfk := hf k hk
    unfold bw at hfk
    split
    · by_cases h0 : 0 < f k
      · rw [if_pos h0, Int32.sub_zero]
        omega
      · rw [if_neg h0, sub_toInt (by omega) (by omega) (by omega) (by omega)]
        have := mt Int32.lt_iff_toInt_lt.mpr h0
        rw [Int32.toInt_zero] at this
        omega
    · omega) P (Nat.le_refl P)
  have hP' : (P : Int) ≤ 6 := by omega
  exact ⟨key.1, by have := key.2; unfold hbS; omega⟩
theorem fw_bw {l : Lv} (hl : lvOK l) {v : Va} (hv : vaOK v) (q : Nat) {p : Nat} (hp : p < lP l) : ∀ k, k < lP l → bw (-60) (fw l v q p k) 60 := by
  intro k hk
  have := lvP hl
  exact fE_bw hl hv _ (by omega)
theorem wd_bw {l : Lv} (hl : lvOK l) {v : Va} (hv : vaOK v) (q : Nat) {p : Nat} (hp : p < lP l) : bw (-1) (wd l v q p) 360 := by
  unfold wd wdV
  cases wrO l v q p (fun _ => true) with
  | none =>
    show bw (-1) (-1) 360
    exact ⟨by decide, by decide⟩
  | some w =>
    have := hbS_bw (lvP hl) (fw_bw hl hv q hp) (bt w)
    exact ⟨by have := this.1; dsimp only; omega, this.2⟩
