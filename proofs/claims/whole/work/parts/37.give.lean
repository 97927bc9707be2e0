/-! ===== posts given: the reference ===== -/
theorem gvB_lt {l : Lv} {W : Nat → Nat → Int32} {q : Nat} {h : Int32} {j : Nat} (e : gvB l W q h = some j) : j < lP l := (fmF_lt e).1
set_option maxHeartbeats 1000000 in
theorem r_gp41 (d y : Nat) (hy : y < 12) {l : Lv} (hl : lvOK l) {v : Va} (hv : vaOK v) {σ : mS} (h : rF1 σ l v) (g : G3) (u : Int32) : ∃ v' u', Xx (d + 6) n_M_givePosts 41 [.ref 200, .int g.1, .int (nI y), .int (nI 0)] [] (gS σ g u) = Xx (d + 6) n_M_givePosts 31 [.ref 200, .int (gvY l (wd l v) y g).1, .int (nI (y + 1)), v'] [] (gS σ (gvY l (wd l v) y g) u') := by
  have hP := lvP hl
  have hQ := lvQ hl
  obtain ⟨u', hs⟩ := mForH (fun k (g : G3) (u : Int32) => Xx (d + 6) n_M_givePosts 41 [.ref 200, .int g.1, .int (nI y), .int (nI k)] [] (gS σ g u)) (gvQ l (wd l v) y) (lQ l) g u (by
    intro k u hk
    generalize mF _ k g = g
    have hwh := lvWh hl k hk
    obtain ⟨had, wi, nx⟩ := g
    dsimp only
    rw [q_M_givePosts_41, r_posts, mBI_s, gS_ne _ _ _ (by decide) (by decide) (by decide), lM_Q h.1, dle (by omega) (by omega), dF _ (by omega), cF, r_yearOf _ (by omega), mBI_s, gS_ne _ _ _ (by decide) (by decide) (by decide), lM_wh h.1 hk, deq (by omega) (by omega)]
    unfold gvQ
    dsimp only
    by_cases hq : lWh l k = y
    · rw [dT _ hq, cT, if_pos hq]
      dsimp only
      obtain ⟨u1, e1⟩ := r_bestFor d hl hv hk had none (fun i h => by cases h) (gS_rF1 h (had, wi, nx) u)
      have eB : fmF (lP l) (wd l v k) (fun k => !(bt had k) && !(decide ((none : Option Nat) = some k))) = gvB l (wd l v) k had := fmF_eq (fun _ _ => rfl) (fun j _ => by rw [decide_eq_false (fun q => by cases q), Bool.not_false, Bool.and_true])
      rw [eB, gS_pN] at e1
      have hbl : ∀ i, gvB l (wd l v) k had = some i → i < 2 ^ 31 := fun i hi => by
        have := gvB_lt hi
        omega
      obtain ⟨u2, e2⟩ := r_bestFor d hl hv hk had (gvB l (wd l v) k had) hbl (gS_rF1 h (had, updO wi k (gvB l (wd l v) k had), nx) u1)
      rw [gS_pN] at e2
      rw [show (Value.int (-1)) = Value.int (oI none) from rfl, e1, mBI_s, mIn_nI (by omega) (by omega), cT, cT, nI_clamp (by omega), gS_s1 _ _ _ _ _ (by omega), gS_g _ _ _ _ _ (by omega), updO_at, e2, mBI_s, cT, cT, gS_s2 _ _ _ _ _ (by omega), gS_g _ _ _ _ _ (by omega), updO_at, cT, nI_1]
      refine ⟨u2, ?_⟩
      cases hb : gvB l (wd l v) k had with
      | none => rw [oI_n, m1e, cT]; unfold gvN; rw [hb]; rfl
      | some j =>
        have hj := gvB_lt hb
        rw [oI_s, nI_m1e (by omega), cF]
        unfold gvN
        rw [hb]
        rfl
    · rw [dF _ hq, cF, if_neg hq, nI_1]
      exact ⟨u, rfl⟩)
  refine ⟨.int (nI (lQ l)), u', hs.trans ?_⟩
  rw [q_M_givePosts_41, r_posts, mBI_s, gS_ne _ _ _ (by decide) (by decide) (by decide), lM_Q h.1, dT _ (Int32.le_refl _), cT, nI_1]
  rfl
/-- the reference's state behind it -/
theorem r_givePosts (d : Nat) {l : Lv} (hl : lvOK l) {v : Va} (hv : vaOK v) {σ : mS} (h : rF1 σ l v) : ∃ u, Cc (d + 7) n_M_givePosts [.ref 200, .null, .null, .null] σ = some (.null, gS σ (gvA l (wd l v)) u) := by
  have hY := lvY hl
  rw [Cc_s, q_M_givePosts_0]
  have h0 := mForN (fun k => Xx (d + 6) n_M_givePosts 2 [.ref 200, .int (nI k), .null, .null] [] (sR (sR σ 225 (oRw k (fun _ => none) (σ.1 225))) 226 (oRw k (fun _ => none) (σ.1 226)))) 5 (by
    intro k hk
    show Xx (d + 6) n_M_givePosts 2 _ [] _ = Xx (d + 6) n_M_givePosts 2 _ [] _
    rw [q_M_givePosts_2, show decide ((5 : Int32) ≤ nI k) = false from decide_eq_false (nI_ge (b := 5) hk (by decide)), cF, mIn_nI hk (by omega), cT, cT, nI_clamp (by omega), nI_1, mUpI_sR, mUpI_sR, sR_ne _ _ (by decide), sR_at, sR_ne _ _ (by decide), sR_at, sR_comm _ (show 226 ≠ 225 by decide), sR_sR, sR_sR]
    have e : ∀ f : Nat → Int32, upd (oRw k (fun _ => none) f) k (-1) = oRw (k + 1) (fun _ => none) f := by
      intro f
      funext j
      unfold upd oRw
      by_cases h : j = k
      · subst h
        rw [if_pos rfl, if_pos (Nat.lt_succ_self j)]; rfl
      · rw [if_neg h]
        by_cases h2 : j < k
        · rw [if_pos h2, if_pos (by omega)]
        · rw [if_neg h2, if_neg (by omega)]
    rw [e, e])
  have e0 : sR (sR σ 225 (oRw 0 (fun _ => none) (σ.1 225))) 226 (oRw 0 (fun _ => none) (σ.1 226)) = σ := by
    have e : ∀ f : Nat → Int32, oRw 0 (fun _ => none) f = f := fun f => funext fun j => if_neg (Nat.not_lt_zero j)
    rw [e, e, sR_self, sR_self]
  have e5 : sR (sR σ 225 (oRw 5 (fun _ => none) (σ.1 225))) 226 (oRw 5 (fun _ => none) (σ.1 226)) = gS σ gv0 (σ.1 200 27) := by
    unfold gS
    rw [pN_self]
    rfl
  rw [e0, e5] at h0
  rw [show (Value.int 0) = Value.int (nI 0) from rfl, h0, q_M_givePosts_2, show decide ((5 : Int32) ≤ nI 5) = true by decide, cT]
  obtain ⟨⟨v', u'⟩, hs⟩ := mForH (fun y (g : G3) (b : Value × Int32) => Xx (d + 6) n_M_givePosts 31 [.ref 200, .int g.1, .int (nI y), b.1] [] (gS σ g b.2)) (gvY l (wd l v)) (lY l) gv0 (.null, σ.1 200 27) (by
    intro y b hy
    generalize mF _ y gv0 = g
    obtain ⟨v', u', e⟩ := r_gp41 d y (by omega) hl hv h g b.2
    refine ⟨(v', u'), ?_⟩
    rw [q_M_givePosts_31, r_yearMany, mBI_s, gS_ne _ _ _ (by decide) (by decide) (by decide), lM_Y h.1, dle (by omega) (by omega), dF _ (by omega), cF]
    exact e)
  refine ⟨u', hs.trans ?_⟩
  rw [q_M_givePosts_31, r_yearMany, mBI_s, gS_ne _ _ _ (by decide) (by decide) (by decide), lM_Y h.1, dT _ (Int32.le_refl _), cT]
  rfl
/-! ===== posts given: the class ===== -/
def fr (P : Nat) (h : Int32) : Int32 := ev P &&& (h ^^^ (-1))
theorem fr_bt {P : Nat} (hP : P ≤ 6) (h : Int32) {k : Nat} (hk : k < 32) : bt (fr P h) k = (decide (k < P) && !(bt h k)) := by
  unfold fr
  rw [b_and, ev_bt hP hk, b_not _ hk]
theorem fr_0 (P : Nat) (hP : P ≤ 6) : fr P 0 = ev P := by
  apply b_ext
  intro i hi
  rw [fr_bt hP _ hi, ev_bt hP hi, b_0, Bool.not_false, Bool.and_true]
theorem fr_add (P : Nat) (hP : P ≤ 6) (h : Int32) {j : Nat} (hj : j < 32) : fr P (h ||| (1 <<< (nI j &&& 31))) = fr P h &&& (((1 : Int32) <<< (nI j &&& 31)) ^^^ (-1)) := by
  apply b_ext
  intro i hi
  have e := b_add hj 0 hi
  rw [b_or, b_0, Bool.false_or, Bool.false_or] at e
  rw [fr_bt hP _ hi, b_add hj _ hi, b_and, fr_bt hP _ hi, b_not _ hi, e]
  cases decide (i < P) <;> cases bt h i <;> cases decide (i = j) <;> rfl
/-- nobody has a post whose turn hasn't come -/
def gvP (l : Lv) (y k : Nat) (g : G3) : Prop := ∀ q, (y < lWh l q ∨ (y = lWh l q ∧ k ≤ q)) → g.2.1 q = none
theorem gvQ_P {l : Lv} {W : Nat → Nat → Int32} {y k : Nat} {g : G3} (h : gvP l y k g) : gvP l y (k + 1) (gvQ l W y k g) := by
  intro q hq
  unfold gvQ
  by_cases e : lWh l k = y
  · rw [if_pos e]
    show updO g.2.1 k _ q = none
    unfold updO
    rw [if_neg (fun x => by subst x; omega)]
    exact h q (by omega)
  · rw [if_neg e]
    refine h q ?_
    rcases hq with q1 | q1
    · exact Or.inl q1
    · refine Or.inr ⟨q1.1, by omega⟩
theorem gvY_P {l : Lv} {W : Nat → Nat → Int32} {y : Nat} {g : G3} (h : gvP l y 0 g) (hQ : ∀ q, lQ l ≤ q → g.2.1 q = none) : gvP l (y + 1) 0 (gvY l W y g) ∧ ∀ q, lQ l ≤ q → (gvY l W y g).2.1 q = none := by
  have h1 := mF_inv (fun k g => gvP l y k g) (gvQ l W y) (lQ l) g h (fun k b _ hb => gvQ_P hb) (lQ l) (Nat.le_refl _)
  have h2 := mF_inv (fun _ (g : G3) => ∀ q, lQ l ≤ q → g.2.1 q = none) (gvQ l W y) (lQ l) g hQ (fun k b hk hb q hq => by
    unfold gvQ
    split
    · show updO b.2.1 k _ q = none
      unfold updO
      rw [if_neg (by omega)]
      exact hb q hq
    · exact hb q hq) (lQ l) (Nat.le_refl _)
  refine ⟨fun q hq => ?_, h2⟩
  exact h1 q (by omega)
theorem gvA_P (l : Lv) (W : Nat → Nat → Int32) (n : Nat) : gvP l n 0 (mF (gvY l W) n gv0) ∧ ∀ q, lQ l ≤ q → (mF (gvY l W) n gv0).2.1 q = none := by
  induction n with
  | zero => exact ⟨fun q _ => rfl, fun q _ => rfl⟩
  | succ n ih => exact gvY_P ih.1 ih.2
theorem gp_fm {σ : mS} {l : Lv} (hl : lvOK l) {o : Nat} {W : Nat → Nat → Int32} (hW : ∀ q, q < lQ l → ∀ p, p < lP l → σ.1 (o + 4) (6 * q + p) = W q p) {q : Nat} (hq : q < lQ l) (h : Int32) : fmF (lP l) (fun p => σ.1 (o + 4) (6 * q + p)) (bt (fr (lP l) h)) = gvB l W q h := by
  have hP := lvP hl
  exact fmF_eq (fun k hk => hW q hq k hk) (fun k hk => by rw [fr_bt hP _ (by omega), decide_eq_true hk, Bool.true_and])
theorem k_gp31 (d o : Nat) (ho : o = 20 ∨ o = 30) (y : Nat) (hy : y < 12) {l : Lv} (hl : lvOK l) {W : Nat → Nat → Int32} {σ : mS} (hC : lC σ 40 l) (hW : ∀ q, q < lQ l → ∀ p, p < lP l → σ.1 (o + 4) (6 * q + p) = W q p) (f : Nat → Int32) (g : G3) (hg : gvP l y 0 g) (v4 : Value) : ∃ v3 v4', Xx (d + 2) n_Co_givePosts 31 [.ref o, .int (fr (lP l) g.1), .int (nI y), .int (nI 0), v4] [] (sR σ (o + 5) (oRw 5 g.2.1 f)) = Xx (d + 2) n_Co_givePosts 18 [.ref o, .int (fr (lP l) (gvY l W y g).1), .int (nI (y + 1)), v3, v4'] [] (sR σ (o + 5) (oRw 5 (gvY l W y g).2.1 f)) := by
  have hP := lvP hl
  have hQ := lvQ hl
  have n40 : 40 ≠ o + 5 := by omega
  have n44 : 44 ≠ o + 5 := by omega
  obtain ⟨v', hs⟩ := mForH (fun k (g : G3) (v4 : Value) => Xx (d + 2) n_Co_givePosts 31 [.ref o, .int (fr (lP l) g.1), .int (nI y), .int (nI k), v4] [] (sR σ (o + 5) (oRw 5 g.2.1 f))) (gvQ l W y) (lQ l) g v4 (by
    intro k v4 hk
    have hI := mF_inv (fun k g => gvP l y k g) (gvQ l W y) (lQ l) g hg (fun k b _ hb => gvQ_P hb) k (by omega)
    generalize mF _ k g = g at hI
    have hwh := lvWh hl k hk
    obtain ⟨had, wi, nx⟩ := g
    rw [q_Co_givePosts_31 _ _ _ _ _ _ ho]
    simp (disch := omega) only [sR_ne _ _ n40, sR_ne _ _ n44, hC.1.2.2.2.2.2.1, mIn_nI, nI_clamp, cT, nI_1, decide_true, (hC.2.2.2.1 k hk).2]
    rw [dle (by omega) (by omega), dF _ (by omega), cF, dne (by omega) (by omega)]
    unfold gvQ
    by_cases hq : lWh l k = y
    · rw [dF _ (fun q => q hq), cF, if_pos hq, k_foremost d o ho (by omega) hP _ _ (by rw [sR_ne _ _ n40]; exact hC.1.2.2.2.1), mBI_s, sR_ne _ _ (by omega), gp_fm hl hW hk]
      cases hb : gvB l W k had with
      | none =>
        rw [oI_n, m1e, cT]
        refine ⟨.int (-1), ?_⟩
        show _ = Xx (d + 2) n_Co_givePosts 31 [.ref o, .int (fr (lP l) had), .int (nI y), .int (nI (k + 1)), .int (-1)] [] (sR σ (o + 5) (oRw 5 (updO wi k none) f))
        rw [updO_none (hI k (Or.inr ⟨hq.symm, Nat.le_refl _⟩))]
      | some j =>
        have hj := gvB_lt hb
        rw [oI_s, nI_m1e (by omega), cF, mUpI_sR, sR_at, sR_sR, show nI j = oI (some j) from rfl, oRw_upd (by omega), oI_s, ← fr_add _ hP _ (by omega)]
        exact ⟨.int (nI j), rfl⟩
    · rw [dT _ hq, cT, if_neg hq]
      exact ⟨.int (-1), rfl⟩)
  refine ⟨.int (nI (lQ l)), v', hs.trans ?_⟩
  rw [q_Co_givePosts_31 _ _ _ _ _ _ ho, sR_ne _ _ n40, hC.1.2.2.2.2.2.1, dT _ (Int32.le_refl _), cT, nI_1]
  rfl
