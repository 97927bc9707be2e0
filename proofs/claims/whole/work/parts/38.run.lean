/-! ===== a course of the class: reset, run ===== -/
theorem fillG (d a n : Nat) (hn : n < 2 ^ 31) (x : Int32) (h0 : ∀ σ : mS, Xx d n_Ar_fill 0 [.ref a, .int x, .null, .null] [] σ = Xx d n_Ar_fill 5 [.ref a, .int x, .int 0, .int (nI n)] [] σ) (h5 : ∀ (k : Int32) (σ : mS), Xx d n_Ar_fill 5 [.ref a, .int x, .int k, .int (nI n)] [] σ = (bif decide (nI n ≤ k) then (some (.null, σ)) else (bif mIn k n then Xx d n_Ar_fill 5 [.ref a, .int x, .int (k + 1), .int (nI n)] [] (mUpI σ a k.toNatClampNeg x) else none))) (σ : mS) : Cc (d + 1) n_Ar_fill [.ref a, .int x, .null, .null] σ = some (.null, sR σ a (rF (fun _ => x) (σ.1 a) n)) := by
  have hs := mForN (fun k => Xx d n_Ar_fill 5 [.ref a, .int x, .int (nI k), .int (nI n)] [] (sR σ a (rF (fun _ => x) (σ.1 a) k))) n (by
    intro k hk
    show Xx d n_Ar_fill 5 _ [] _ = Xx d n_Ar_fill 5 _ [] _
    rw [h5, dle (by omega) (by omega), dF _ (by omega), cF, mIn_nI hk hn, cT, nI_1, nI_clamp (by omega), mUpI_sR, sR_at, sR_sR, rF_s (fun _ => x)])
  rw [rF_0, sR_self] at hs
  rw [Cc_s, h0, show (0 : Int32) = nI 0 from rfl, hs, h5, dT _ (Int32.le_refl _), cT]
theorem k_fill21 (d : Nat) (x : Int32) (σ : mS) : Cc (d + 1) n_Ar_fill [.ref 21, .int x, .null, .null] σ = some (.null, sR σ 21 (rF (fun _ => x) (σ.1 21) 36)) := fillG d 21 36 (by decide) x (fun σ => q_Ar_fill_21_0 d x σ) (fun k σ => q_Ar_fill_21_5 d x k (nI 36) σ) σ
theorem k_fill31 (d : Nat) (x : Int32) (σ : mS) : Cc (d + 1) n_Ar_fill [.ref 31, .int x, .null, .null] σ = some (.null, sR σ 31 (rF (fun _ => x) (σ.1 31) 36)) := fillG d 31 36 (by decide) x (fun σ => q_Ar_fill_31_0 d x σ) (fun k σ => q_Ar_fill_31_5 d x k (nI 36) σ) σ
theorem k_fill25 (d : Nat) (x : Int32) (σ : mS) : Cc (d + 1) n_Ar_fill [.ref 25, .int x, .null, .null] σ = some (.null, sR σ 25 (rF (fun _ => x) (σ.1 25) 5)) := fillG d 25 5 (by decide) x (fun σ => q_Ar_fill_25_0 d x σ) (fun k σ => q_Ar_fill_25_5 d x k (nI 5) σ) σ
theorem k_fill35 (d : Nat) (x : Int32) (σ : mS) : Cc (d + 1) n_Ar_fill [.ref 35, .int x, .null, .null] σ = some (.null, sR σ 35 (rF (fun _ => x) (σ.1 35) 5)) := fillG d 35 5 (by decide) x (fun σ => q_Ar_fill_35_0 d x σ) (fun k σ => q_Ar_fill_35_5 d x k (nI 5) σ) σ
theorem k_fill62 (d : Nat) (x : Int32) (σ : mS) : Cc (d + 1) n_Ar_fill [.ref 62, .int x, .null, .null] σ = some (.null, sR σ 62 (rF (fun _ => x) (σ.1 62) 36)) := fillG d 62 36 (by decide) x (fun σ => q_Ar_fill_62_0 d x σ) (fun k σ => q_Ar_fill_62_5 d x k (nI 36) σ) σ
theorem k_fill16 (d : Nat) (x : Int32) (σ : mS) : Cc (d + 1) n_Ar_fill [.ref 16, .int x, .null, .null] σ = some (.null, sR σ 16 (rF (fun _ => x) (σ.1 16) 35)) := fillG d 16 35 (by decide) x (fun σ => q_Ar_fill_16_0 d x σ) (fun k σ => q_Ar_fill_16_5 d x k (nI 35) σ) σ
theorem k_fillEx (d o : Nat) (ho : o = 20 ∨ o = 30) (x : Int32) (σ : mS) : Cc (d + 1) n_Ar_fill [.ref (o + 1), .int x, .null, .null] σ = some (.null, sR σ (o + 1) (rF (fun _ => x) (σ.1 (o + 1)) 36)) := by
  rcases ho with rfl | rfl
  · exact k_fill21 d x σ
  · exact k_fill31 d x σ
theorem k_fillWi (d o : Nat) (ho : o = 20 ∨ o = 30) (x : Int32) (σ : mS) : Cc (d + 1) n_Ar_fill [.ref (o + 5), .int x, .null, .null] σ = some (.null, sR σ (o + 5) (rF (fun _ => x) (σ.1 (o + 5)) 5)) := by
  rcases ho with rfl | rfl
  · exact k_fill25 d x σ
  · exact k_fill35 d x σ
/-- only a course's rows have changed -/
def kO (o : Nat) (σ τ : mS) : Prop := (∀ a, a < o ∨ o + 5 < a → τ.1 a = σ.1 a) ∧ τ.2 = σ.2
theorem kO_r (o : Nat) (σ : mS) : kO o σ σ := ⟨fun _ _ => rfl, rfl⟩
theorem kO_t {o : Nat} {σ τ υ : mS} (h : kO o σ τ) (g : kO o τ υ) : kO o σ υ := ⟨fun a ha => (g.1 a ha).trans (h.1 a ha), g.2.trans h.2⟩
theorem kO_s {o : Nat} (σ : mS) {b : Nat} (h1 : o ≤ b) (h2 : b ≤ o + 5) (f : Nat → Int32) : kO o σ (sR σ b f) := ⟨fun a ha => sR_ne _ _ (by omega), rfl⟩
/-- the class's land stays, where none of its rows is touched -/
theorem dC_c {σ τ : mS} {o : Nat} {l : List Dd} (h : dC σ o l) (e : ∀ a, o ≤ a → a ≤ o + 4 → τ.1 a = σ.1 a) : dC τ o l := by
  unfold dC at h ⊢
  rw [e o (by omega) (by omega), e (o + 1) (by omega) (by omega), e (o + 2) (by omega) (by omega), e (o + 3) (by omega) (by omega), e (o + 4) (by omega) (by omega)]
  exact h
theorem lC_c {σ τ : mS} {b : Nat} {l : Lv} (h : lC σ b l) (e : ∀ a, b ≤ a → a ≤ b + 14 → τ.1 a = σ.1 a) : lC τ b l := by
  refine ⟨?_, ?_, ?_, ?_, dC_c h.2.2.2.2.1 (fun a h1 h2 => e a (by omega) (by omega)), dC_c h.2.2.2.2.2 (fun a h1 h2 => e a (by omega) (by omega))⟩
  · rw [e b (by omega) (by omega)]; exact h.1
  · rw [e (b + 1) (by omega) (by omega)]; exact h.2.1
  · rw [e (b + 2) (by omega) (by omega)]; exact h.2.2.1
  · rw [e (b + 3) (by omega) (by omega), e (b + 4) (by omega) (by omega)]; exact h.2.2.2.1
theorem lC_kO {σ τ : mS} {o : Nat} (ho : o = 20 ∨ o = 30) {l : Lv} (h : lC σ 40 l) (g : kO o σ τ) : lC τ 40 l := lC_c h (fun a h1 h2 => g.1 a (by omega))
/-- what a course is told -/
def cV (σ : mS) (o : Nat) (l : Lv) (v : Va) : Prop := σ.1 o 1 = vLaw v ∧ σ.1 o 2 = vTh v ∧ σ.1 o 3 = oI (vOut v) ∧ (∀ c, c < 36 → σ.1 (o + 1) c = vEx v c) ∧ ∀ p, p < lP l → σ.1 (o + 2) p = vSk v p
theorem cV_c {σ τ : mS} {o : Nat} {l : Lv} {v : Va} (h : cV σ o l v) (e : ∀ a, o ≤ a → a ≤ o + 2 → τ.1 a = σ.1 a) : cV τ o l v := by
  unfold cV at h ⊢
  rw [e o (by omega) (by omega), e (o + 1) (by omega) (by omega), e (o + 2) (by omega) (by omega)]
  exact h
/-- its feelings -/
def cF0 (σ : mS) (o : Nat) (l : Lv) (v : Va) : Prop := ∀ y, y < lY l → ∀ c, c < 36 → σ.1 (o + 3) (36 * y + c) = fE l v y c
/-- its words and who gets what -/
def cW (σ : mS) (o : Nat) (l : Lv) (v : Va) : Prop := ∀ q, q < lQ l → ∀ p, p < lP l → σ.1 (o + 4) (6 * q + p) = wd l v q p
def win (l : Lv) (v : Va) (q : Nat) : Option Nat := (gvA l (wd l v)).2.1 q
def nxt (l : Lv) (v : Va) (q : Nat) : Option Nat := (gvA l (wd l v)).2.2 q
def cG (σ : mS) (o : Nat) (l : Lv) (v : Va) : Prop := ∀ q, q < 5 → σ.1 (o + 5) q = oI (win l v q)
theorem k_reset (d o : Nat) (ho : o = 20 ∨ o = 30) {l : Lv} (hl : lvOK l) {σ : mS} (hC : lC σ 40 l) : ∃ τ, Cc (d + 2) n_Co_reset [.ref o] σ = some (.null, τ) ∧ kO o σ τ ∧ cV τ o l (vS l) := by
  have hP := lvP hl
  rw [Cc_s, q_Co_reset_0 _ _ ho, k_fillEx d o ho, mBV_s, show ∀ τ : mS, mFit w0 τ 41 (o + 2) 0 0 6 = true from fun τ => mFit_ok (s := 0) (t := 0) (n := 6) (la := 6) (lb := 6) rfl (len_co o 2 6 ho τ rfl rfl) (by omega) (by omega) (by omega) (by omega), cT]
  refine ⟨_, rfl, ?_, ?_⟩
  · rw [mUpI_sR, mUpI_sR, mUpI_sR, mCpI_sR]
    exact kO_t (kO_s _ (by omega) (by omega) _) (kO_t (kO_s _ (by omega) (by omega) _) (kO_t (kO_s _ (by omega) (by omega) _) (kO_t (kO_s _ (by omega) (by omega) _) (kO_s _ (by omega) (by omega) _))))
  · rw [mUpI_sR, mUpI_sR, mUpI_sR, mCpI_sR]
    have n1 : o ≠ o + 1 := by omega
    have n2 : o ≠ o + 2 := by omega
    have n3 : o + 1 ≠ o + 2 := by omega
    have n4 : o + 2 ≠ o + 1 := by omega
    have n5 : o + 2 ≠ o := by omega
    have n6 : 41 ≠ o + 1 := by omega
    have n7 : 41 ≠ o := by omega
    have n8 : 40 ≠ o := by omega
    refine ⟨?_, ?_, ?_, fun c hc => ?_, fun p hp => ?_⟩
    · rw [sR_ne _ _ n2, sR_ne _ _ n1, sR_at, sR_at, sR_at]
      exact hC.1.2.1
    · rw [sR_ne _ _ n2, sR_ne _ _ n1, sR_at, sR_at]
      rfl
    · rw [sR_ne _ _ n2, sR_ne _ _ n1, sR_at]
      rfl
    · rw [sR_ne _ _ n3, sR_at, rF_at hc]
      rfl
    · rw [sR_at, sR_ne _ _ n6, sR_ne _ _ n7, sR_ne _ _ n7, sR_ne _ _ n7]
      unfold va_cpy
      rw [if_pos ⟨Nat.zero_le _, by show p < 6; omega⟩]
      show σ.1 41 (0 + (p - 0)) = _
      rw [show 0 + (p - 0) = p by omega]
      exact hC.2.1 p hp
theorem fS_ex (fe : Nat → Int32) (W A : List Dd) (out : Option Nat) (law : Int32) (th : Nat → Bool) {ex ex' : Nat → Int32} {c : Nat} (h : ex c = ex' c) : ∀ y, fS fe W A out law th ex c y = fS fe W A out law th ex' c y := by
  intro y
  induction y with
  | zero => unfold fS; rw [h]
  | succ y ih => unfold fS; rw [ih]
/-- feelings of pairs from a to b made anew, the others as they were -/
theorem k_live2 (d o : Nat) (ho : o = 20 ∨ o = 30) (a b : Nat) (hab : a ≤ b) (hb : b ≤ 36) {l : Lv} (hl : lvOK l) {v : Va} (hv : vaOK v) {σ : mS} (hC : lC σ 40 l) (hV : cV σ o l v) (hF : ∀ y, y < lY l → ∀ c, c < 36 → ¬ (a ≤ c ∧ c < b) → σ.1 (o + 3) (36 * y + c) = fE l v y c) : ∃ G, Cc (d + 4) n_Co_live [.ref o, .int (nI a), .int (nI b), .null, .null] σ = some (.null, sR σ (o + 3) G) ∧ cF0 (sR σ (o + 3) G) o l v := by
  obtain ⟨G, e, hG⟩ := k_live d o ho a b hab hb l hl σ hC (by rw [hV.1]; exact hv.1) (vOut v) hV.2.2.1 hv.2.1
  refine ⟨G, e, fun y hy c hc => ?_⟩
  rw [sR_at, hG y hy c hc]
  by_cases h : a ≤ c ∧ c < b
  · rw [if_pos h, hV.1, hV.2.1]
    exact fS_ex _ _ _ _ _ _ (hV.2.2.2.1 c hc) y
  · rw [if_neg h]
    exact hF y hy c hc h
theorem wrS_hi {P : Nat} (hP : P ≤ 6) {f : Nat → Int32} {s : Nat → Bool} : ∀ (n : Nat) (w w' : Int32), (∀ i, 6 ≤ i → i < 32 → bt w i = false) → wrS P f s n w = some w' → ∀ i, 6 ≤ i → i < 32 → bt w' i = false := by
  intro n
  induction n with
  | zero => intro w w' h e; cases e; exact h
  | succ n ih =>
    intro w w' h e
    unfold wrS at e
    cases hb : pkF P f (fun k => s k && !(bt w k)) with
    | none => rw [hb] at e; cases e
    | some k =>
      rw [hb] at e
      have hk := (pkF_lt hb).1
      refine ih _ _ (fun i h1 h2 => ?_) e
      rw [b_add (by omega) w h2, h i h1 h2, decide_eq_false (by omega)]
      rfl
theorem wrO_m1 {l : Lv} (hl : lvOK l) {v : Va} {q p : Nat} {s : Nat → Bool} {w : Int32} (h : wrO l v q p s = some w) : ¬ w = -1 := by
  unfold wrO at h
  split at h
  · have := wrS_hi (lvP hl) _ _ _ (fun i _ _ => b_0 i) h 6 (Nat.le_refl 6) (by decide)
    intro e
    rw [e, b_m1 6 (by decide)] at this
    cases this
  · cases h
theorem k_wr (d o : Nat) (ho : o = 20 ∨ o = 30) {l : Lv} (hl : lvOK l) {v : Va} {p q : Nat} (hp : p < lP l) (hq : q < lQ l) (s : Int32) {σ : mS} (hC : lC σ 40 l) (hV : cV σ o l v) (hF : cF0 σ o l v) : Cc (d + 3) n_Co_writersOf [.ref o, .int (nI p), .int (nI q), .int s, .null, .null, .null, .null, .null] σ = some (.int (oW (wrO l v q p (bt s))), σ) := by
  have hP := lvP hl
  have hQ := lvQ hl
  have hq' := hC.2.2.2.1 q hq
  rw [k_writersOf d o ho (p := p) (q := q) (P := lP l) (Y := lY l) (y := lWh l q) (by omega) (by omega) hP (lvY hl) (lvWh hl q hq) s σ hC.1.2.2.2.1 hC.1.1 hq'.2 (by rw [show σ.1 43 q = lAs l q from hq'.1]; exact lvAs hl q hq), show σ.1 43 q = lAs l q from hq'.1, hV.2.2.2.2 p hp]
  unfold wrO
  by_cases h : lWh l q < lY l ∧ lAs l q &&& (vSk v p ^^^ (-1)) = 0
  · rw [if_pos h, if_pos h, wrS_eq (g := fw l v q p) (t := bt s) (fun k hk => hF _ h.1 _ (by omega)) (fun _ _ _ => rfl)]
  · rw [if_neg h, if_neg h]
    rfl
theorem k_hb (d o : Nat) (ho : o = 20 ∨ o = 30) {l : Lv} (hl : lvOK l) {v : Va} {p y : Nat} (hp : p < lP l) (hy : y < lY l) (s : Int32) {σ : mS} (hC : lC σ 40 l) (hF : cF0 σ o l v) : Cc (d + 2) n_Co_hateBy [.ref o, .int (nI p), .int (nI y), .int s, .null, .null] σ = some (.int (hbS (lP l) (fun k => fE l v y (6 * k + p)) (bt s)), σ) := by
  have hP := lvP hl
  have hY := lvY hl
  rw [k_hateBy d o ho (by omega) (by omega) hP s σ hC.1.2.2.2.1, hbS_eq (g := fun k => fE l v y (6 * k + p)) (t := bt s) (fun k hk => hF y hy _ (by omega)) (fun _ _ _ => rfl)]
/-- one person's words made anew -/
def wgR (l : Lv) (v : Va) (p n : Nat) (f : Nat → Int32) : Nat → Int32 := fun j => if j % 6 = p ∧ j / 6 < n then wd l v (j / 6) p else f j
theorem k_weigh (d o : Nat) (ho : o = 20 ∨ o = 30) {l : Lv} (hl : lvOK l) {v : Va} {p : Nat} (hp : p < lP l) {σ : mS} (hC : lC σ 40 l) (hV : cV σ o l v) (hF : cF0 σ o l v) : Cc (d + 4) n_Co_weigh [.ref o, .int (nI p), .null, .null] σ = some (.null, sR σ (o + 4) (wgR l v p (lQ l) (σ.1 (o + 4)))) := by
  have hP := lvP hl
  have hQ := lvQ hl
  rw [Cc_s, q_Co_weigh_0 _ _ _ ho]
  obtain ⟨b, hs⟩ := mForH (fun k (_ : Unit) (b : Value) => Xx (d + 3) n_Co_weigh 2 [.ref o, .int (nI p), .int (nI k), b] [] (sR σ (o + 4) (wgR l v p k (σ.1 (o + 4))))) (fun _ a => a) (lQ l) () .null (by
    intro k b hk
    generalize hτ : sR σ (o + 4) (wgR l v p k (σ.1 (o + 4))) = τ
    have hkO : kO o σ τ := by rw [← hτ]; exact kO_s _ (by omega) (by omega) _
    have hC' := lC_kO ho hC hkO
    have hV' : cV τ o l v := cV_c hV (fun a h1 h2 => by rw [← hτ]; exact sR_ne _ _ (by omega))
    have hF' : cF0 τ o l v := by unfold cF0; rw [← hτ, sR_ne _ _ (by omega)]; exact hF
    have hwh := lvWh hl k hk
    have fin : ∀ x : Int32, x = wd l v k p → mUpI τ (o + 4) (6 * k + p) x = sR σ (o + 4) (wgR l v p (k + 1) (σ.1 (o + 4))) := by
      intro x hx
      rw [← hτ, mUpI_sR, sR_at, sR_sR, hx]
      congr 1
      funext j
      unfold upd wgR
      by_cases h : j = 6 * k + p
      · subst h
        rw [if_pos rfl, if_pos (by omega), show (6 * k + p) / 6 = k by omega]
      · rw [if_neg h]
        by_cases h2 : j % 6 = p ∧ j / 6 < k
        · rw [if_pos h2, if_pos (by omega)]
        · rw [if_neg h2, if_neg (by omega)]
    rw [q_Co_weigh_2 _ _ _ _ _ ho, hC'.1.2.2.2.2.2.1, dle (by omega) (by omega), dF _ (by omega), cF, k_everybody _ _ hC'.1.2.2.2.1, mBI_s, k_wr d o ho hl hp hk _ hC' hV' hF', mBI_s, wrO_ev hl]
    simp (disch := omega) only [mBI_s, mBL_s, mBV_s, cT, cF, nI_1, nI_add, nI_mul, mIn_nI, nI_clamp, bI_0, bI_n, bI_1, bI_n1, mZ_b, m6l, m6r, m36l, m36r, m2l]
    rw [show k * 6 + p = 6 * k + p by omega]
    cases hw : wrO l v k p (fun _ => true) with
    | none =>
      refine ⟨.int (-1), ?_⟩
      rw [show oW none = -1 from rfl, m1n, cF, fin (-1) (by unfold wd; rw [hw]; rfl)]
    | some w =>
      have hm := wrO_m1 hl hw
      have hy : lWh l k < lY l := by
        unfold wrO at hw
        by_cases h : lWh l k < lY l ∧ lAs l k &&& (vSk v p ^^^ (-1)) = 0
        · exact h.1
        · rw [if_neg h] at hw; cases hw
      refine ⟨.int w, ?_⟩
      rw [show oW (some w) = w from rfl, dT _ hm, cT, show τ.1 44 k = nI (lWh l k) from (hC'.2.2.2.1 k hk).2, k_hb (d + 1) o ho hl hp hy w hC' hF', mBI_s, fin _ (by unfold wd; rw [hw]; rfl)])
  have e0 : wgR l v p 0 (σ.1 (o + 4)) = σ.1 (o + 4) := funext fun j => if_neg (by omega)
  simp only [e0, sR_self] at hs
  refine hs.trans ?_
  rw [q_Co_weigh_2 _ _ _ _ _ ho, sR_ne _ _ (by omega), hC.1.2.2.2.2.2.1, dT _ (Int32.le_refl _), cT]
theorem k_givePosts (d o : Nat) (ho : o = 20 ∨ o = 30) {l : Lv} (hl : lvOK l) {W : Nat → Nat → Int32} {σ : mS} (hC : lC σ 40 l) (hW : ∀ q, q < lQ l → ∀ p, p < lP l → σ.1 (o + 4) (6 * q + p) = W q p) : Cc (d + 3) n_Co_givePosts [.ref o, .null, .null, .null, .null] σ = some (.null, sR σ (o + 5) (oRw 5 (gvA l W).2.1 (σ.1 (o + 5)))) := by
  have hP := lvP hl
  have hY := lvY hl
  have n40 : 40 ≠ o + 5 := by omega
  rw [Cc_s, q_Co_givePosts_0 _ _ ho, k_fillWi _ o ho, mBV_s, k_everybody _ _ (by rw [sR_ne _ _ n40]; exact hC.1.2.2.2.1), mBI_s, show rF (fun _ => (-1 : Int32)) (σ.1 (o + 5)) 5 = oRw 5 gv0.2.1 (σ.1 (o + 5)) from rfl, ← fr_0 _ hP]
  obtain ⟨⟨v3, v4⟩, hs⟩ := mForH (fun y (g : G3) (b : Value × Value) => Xx (d + 2) n_Co_givePosts 18 [.ref o, .int (fr (lP l) g.1), .int (nI y), b.1, b.2] [] (sR σ (o + 5) (oRw 5 g.2.1 (σ.1 (o + 5))))) (gvY l W) (lY l) gv0 (.null, .null) (by
    intro y b hy
    have hI := (gvA_P l W y).1
    generalize mF _ y gv0 = g at hI
    obtain ⟨v3, v4', e⟩ := k_gp31 d o ho y (by omega) hl hC hW (σ.1 (o + 5)) g hI b.2
    refine ⟨(v3, v4'), ?_⟩
    rw [q_Co_givePosts_18 _ _ _ _ _ _ ho, sR_ne _ _ n40, hC.1.1, dle (by omega) (by omega), dF _ (by omega), cF]
    exact e)
  refine Eq.trans ?_ (hs.trans ?_)
  · rfl
  · rw [q_Co_givePosts_18 _ _ _ _ _ _ ho, sR_ne _ _ n40, hC.1.1, dT _ (Int32.le_refl _), cT]
    rfl
