/-! ===== reading: the reference's lines ===== -/
variable {σ τ υ : mS} {l : Lv} {B : Nat → Int32} {n : Nat}
def bN (b : Bool) : Nat := bif b then 1 else 0
def ctS (s : Int32) : Nat := bN (bt s 0) + bN (bt s 1) + bN (bt s 2) + bN (bt s 3) + bN (bt s 4) + bN (bt s 5)
theorem bN_le (b : Bool) : bN b ≤ 1 := by cases b <;> decide
theorem ctS_le (s : Int32) : ctS s ≤ 6 := by
  unfold ctS
  have := bN_le (bt s 0)
  have := bN_le (bt s 1)
  have := bN_le (bt s 2)
  have := bN_le (bt s 3)
  have := bN_le (bt s 4)
  have := bN_le (bt s 5)
  omega
theorem bt_one {v i : Nat} (hv : v < 6) (hi : i < 6) : bt ((1 : Int32) <<< (nI v &&& 31)) i = decide (i = v) := by
  have : ∀ v, v < 6 → ∀ i, i < 6 → bt ((1 : Int32) <<< (nI v &&& 31)) i = decide (i = v) := by decide
  exact this v hv i hi
theorem ctS_or {s : Int32} {v : Nat} (hv : v < 6) (h : bt s v = false) : ctS (s ||| (1 <<< (nI v &&& 31))) = ctS s + 1 := by
  unfold ctS
  rw [b_or, b_or, b_or, b_or, b_or, b_or, bt_one hv (by decide), bt_one hv (by decide), bt_one hv (by decide), bt_one hv (by decide), bt_one hv (by decide), bt_one hv (by decide)]
  rcases (show v = 0 ∨ v = 1 ∨ v = 2 ∨ v = 3 ∨ v = 4 ∨ v = 5 by omega) with rfl | rfl | rfl | rfl | rfl | rfl <;> rw [h] <;> simp only [decide_true, Bool.or_true, Bool.false_or, show decide (0 = 1) = false by decide, show decide (0 = 2) = false by decide, show decide (0 = 3) = false by decide, show decide (0 = 4) = false by decide, show decide (0 = 5) = false by decide, show decide (1 = 0) = false by decide, show decide (1 = 2) = false by decide, show decide (1 = 3) = false by decide, show decide (1 = 4) = false by decide, show decide (1 = 5) = false by decide, show decide (2 = 0) = false by decide, show decide (2 = 1) = false by decide, show decide (2 = 3) = false by decide, show decide (2 = 4) = false by decide, show decide (2 = 5) = false by decide, show decide (3 = 0) = false by decide, show decide (3 = 1) = false by decide, show decide (3 = 2) = false by decide, show decide (3 = 4) = false by decide, show decide (3 = 5) = false by decide, show decide (4 = 0) = false by decide, show decide (4 = 1) = false by decide, show decide (4 = 2) = false by decide, show decide (4 = 3) = false by decide, show decide (4 = 5) = false by decide, show decide (5 = 0) = false by decide, show decide (5 = 1) = false by decide, show decide (5 = 2) = false by decide, show decide (5 = 3) = false by decide, show decide (5 = 4) = false by decide, Bool.or_false, show bN true = 1 from rfl, show bN false = 0 from rfl] <;> omega
theorem r_readSkills2 (d : Nat) (hn : n ≤ 800) (hb : ∀ j, j < n → bw (-128) (B j) 127) : ∀ m (s : Int32) (T : Tok) (τ : mS) (v : Value), ctS s + m = 7 → rdM τ B n T l → rPi (pSk B n m s T) (Xx (d + 3) n_M_readSkills 2 [.ref 200, .int s, v] [] τ) τ (fun x w τ' => w = x.1 ∧ rdM τ' B n x.2 l) := by
  intro m
  induction m with
  | zero => intro s T τ v hm h; have := ctS_le s; omega
  | succ m ih =>
    intro s T τ v hm h
    have hg := h.2.2.2.1
    have hk := h.2.2.1.2.2.1
    rw [q_M_readSkills_2, r_good _ hg, mBI_s, show decide ((1 : Int32) = 0) = false by decide, cF, h.1.2.2.1, show decide (¬ nI T.1 = 2) = decide (¬ T.1 = 2) from dne (b := 2) (by omega) (by decide), decide_not]
    unfold pSk
    by_cases g : T.1 = 2
    · obtain ⟨w, e11, hw, hr⟩ := h.1.2.2.2.2.2 g
      have q := r_number (l := l) d hn hb h (lo := 0) (hi := 5) (a := 0) (b := 5) rfl rfl (by omega) (-1) (by omega)
      rw [dT _ g, Bool.not_true, cF, cT, e11, show decide ((6 : Int32) ≤ nI w) = decide (6 ≤ w) from dle (a := 6) (by decide) (by omega)]
      by_cases g6 : 6 ≤ T.2.2.2
      · have ep : pNum B n 0 5 (-1) T = .error (2, T.2.1) := by
          unfold pNum
          rw [dT _ g, cT, dT (p := (5 : Int) < (T.2.2.2 : Int)) _ (by omega), Bool.true_or, Bool.or_true, cT]
        rw [ep] at q
        obtain ⟨w', τ', e, r, k⟩ := q
        rw [dT _ g6, Bool.true_or, cT, dT (p := 6 ≤ w) _ (by omega), cT]
        exact ⟨s ||| 0, τ', by rw [e, mBI_s, b_good _ r, mBI_s, show decide ((0 : Int32) = 0) = true by decide, cT, b_readSkills2 _ r], r, k⟩
      · have hv : w = T.2.2.2 := by omega
        rw [dF _ g6, Bool.false_or, dF (p := 6 ≤ w) _ (by omega), cF, r_bit _ _ _ (by omega), mBI_s, hv, show decide (¬ bI (bt s T.2.2.2) = 1) = !(bt s T.2.2.2) by cases bt s T.2.2.2 <;> decide]
        cases hbt : bt s T.2.2.2 with
        | true =>
          obtain ⟨τ', e, r, k⟩ := r_errs (d + 1) hg h.1.2.2.2.1 (k := 2) (by omega) (by omega)
          have e' : Cc (d + 3) n_M_errs [.ref 200, .int 2] τ = some (.null, τ') := e
          exact ⟨s ||| 0, τ', by rw [Bool.not_true, cF, e', mBV_s, b_number _ r, mBI_s, b_good _ r, mBI_s, show decide ((0 : Int32) = 0) = true by decide, cT, b_readSkills2 _ r], r, k⟩
        | false =>
          have ep : pNum B n 0 5 (-1) T = .ok (T.2.2.2, nxT B n T) := by
            unfold pNum
            rw [dT _ g, cT, dF (p := (T.2.2.2 : Int) < 0) _ (by omega), dF (p := (5 : Int) < (T.2.2.2 : Int)) _ (by omega), dF (p := (T.2.2.2 : Int) = -1) _ (by omega)]
            rfl
          rw [ep] at q
          obtain ⟨w', τ', e, ⟨rfl, r⟩, k⟩ := q
          have := ih (s ||| (1 <<< (nI T.2.2.2 &&& 31))) (nxT B n T) τ' (.int (nI T.2.2.2)) (by rw [ctS_or (by omega) hbt]; omega) r
          rw [cF, Bool.not_false, cT, e, mBI_s, r_good _ r.2.2.2.1, mBI_s, show decide ((1 : Int32) = 0) = false by decide, cF]
          cases hx : pSk B n m (s ||| (1 <<< (nI T.2.2.2 &&& 31))) (nxT B n T) with
          | error e =>
            rw [hx] at this
            obtain ⟨w2, τ2, a1, a2, a3⟩ := this
            exact ⟨w2, τ2, a1, a2, kS_t k a3⟩
          | ok x =>
            rw [hx] at this
            obtain ⟨w2, τ2, a1, a2, a3⟩ := this
            exact ⟨w2, τ2, a1, a2, kS_t k a3⟩
    · rw [dF _ g, Bool.not_false, cT, cF]
      exact ⟨s, τ, rfl, ⟨rfl, h⟩, kS_r τ⟩
theorem r_readSkills (d : Nat) (hn : n ≤ 800) (hb : ∀ j, j < n → bw (-128) (B j) 127) {T : Tok} (h : rdM τ B n T l) : rPi (pSk B n 7 0 T) (Cc (d + 4) n_M_readSkills [.ref 200, .null, .null] τ) τ (fun x w τ' => w = x.1 ∧ rdM τ' B n x.2 l) := by
  rw [c_M_readSkills]
  exact r_readSkills2 d hn hb 7 0 T τ .null (by decide) h
/-- what a line's reading leaves -/
def kF (σ τ : mS) : Prop := (∀ a, a ≠ 200 → a ≠ 214 → τ.1 a = σ.1 a) ∧ (∀ k, k < 8 ∨ 13 < k → τ.1 200 k = σ.1 200 k) ∧ τ.2 = σ.2
theorem kF_r (σ : mS) : kF σ σ := ⟨fun _ _ _ => rfl, fun _ _ => rfl, rfl⟩
theorem kF_t (h : kF σ τ) (g : kF τ υ) : kF σ υ := ⟨fun a h1 h2 => (g.1 a h1 h2).trans (h.1 a h1 h2), fun k hk => (g.2.1 k hk).trans (h.2.1 k hk), g.2.2.trans h.2.2⟩
theorem kF_S (h : kS σ τ) : kF σ τ := ⟨fun a h1 _ => h.1 a h1, h.2.1, h.2.2⟩
theorem kF_f (σ : mS) (f : Nat → Int32) : kF σ (sR σ 214 f) := ⟨fun a _ h2 => sR_ne _ _ h2, fun k _ => by rw [sR_ne _ _ (by decide)], rfl⟩
def rPf {α : Type} (r : Pr α) (c : mR) (τ : mS) (post : α → mS → Prop) : Prop := match r with
  | .error e => ∃ τ', c = some (.null, τ') ∧ bd τ' e ∧ kF τ τ'
  | .ok x => ∃ τ', c = some (.null, τ') ∧ post x τ' ∧ kF τ τ'
theorem rPf_k {α : Type} {r : Pr α} {c : mR} {post : α → mS → Prop} (k : kF σ τ) (h : rPf r c τ post) : rPf r c σ post := by
  cases r with
  | error e => obtain ⟨τ', a, b, d⟩ := h; exact ⟨τ', a, b, kF_t k d⟩
  | ok x => obtain ⟨τ', a, b, d⟩ := h; exact ⟨τ', a, b, kF_t k d⟩
theorem rPf_b {α β : Type} {r : Pr α} {f : α → Pr β} {c : mR} {K : Int32 → mS → mR} {post : α → Int32 → mS → Prop} {post' : β → mS → Prop} (h : rPi r c τ post) (hB : ∀ e w τ', bd τ' e → ∃ τ'', K w τ' = some (.null, τ'') ∧ bd τ'' e ∧ kF τ' τ'') (hK : ∀ x w τ', r = .ok x → post x w τ' → kS τ τ' → rPf (f x) (K w τ') τ' post') : rPf (pBd r f) (mBI c K) τ post' := by
  cases r with
  | error e =>
    obtain ⟨w, τ', a, b, d⟩ := h
    obtain ⟨τ'', a', b', d'⟩ := hB e w τ' b
    exact ⟨τ'', by rw [a, mBI_s, a'], b', kF_t (kF_S d) d'⟩
  | ok x =>
    obtain ⟨w, τ', a, b, d⟩ := h
    have := hK x w τ' rfl b d
    rw [a, mBI_s]
    exact rPf_k (kF_S d) this
theorem rPf_v {α β : Type} {r : Pr α} {f : α → Pr β} {c : mR} {K : mS → mR} {post : α → mS → Prop} {post' : β → mS → Prop} (h : rPv r c τ post) (hB : ∀ e τ', bd τ' e → ∃ τ'', K τ' = some (.null, τ'') ∧ bd τ'' e ∧ kF τ' τ'') (hK : ∀ x τ', r = .ok x → post x τ' → kS τ τ' → rPf (f x) (K τ') τ' post') : rPf (pBd r f) (mBV c K) τ post' := by
  cases r with
  | error e =>
    obtain ⟨τ', a, b, d⟩ := h
    obtain ⟨τ'', a', b', d'⟩ := hB e τ' b
    exact ⟨τ'', by rw [a, mBV_s, a'], b', kF_t (kF_S d) d'⟩
  | ok x =>
    obtain ⟨τ', a, b, d⟩ := h
    have := hK x τ' rfl b d
    rw [a, mBV_s]
    exact rPf_k (kF_S d) this
theorem rdM_f {T : Tok} (h : rdM τ B n T l) {f : Nat → Int32} {l' : Lv} (hf : lM f l') : rdM (sR τ 214 f) B n T l' := by
  obtain ⟨h1, h2, h3, h4, h5⟩ := h
  refine ⟨?_, by rw [sR_at]; exact hf, h3, ?_, ?_⟩
  · unfold rdR at h1 ⊢
    rw [sR_ne _ _ (show 200 ≠ 214 by decide), sR_ne _ _ (show 204 ≠ 214 by decide)]
    exact h1
  · rw [sR_ne _ _ (by decide)]; exact h4
  · rw [sR_ne _ _ (by decide)]; exact h5
/-! what is written down -/
theorem lM_h {f : Nat → Int32} (h : lM f l) {k : Nat} (hk : k < 9) (x : Int32) (l' : Lv) (h0 : upd f k x 0 = nI (lY l') ∧ upd f k x 1 = lLaw l' ∧ upd f k x 2 = lOdd l' ∧ upd f k x 3 = nI (lP l') ∧ upd f k x 4 = nI (lB l') ∧ upd f k x 5 = nI (lWr l').length ∧ upd f k x 6 = nI (lQ l') ∧ upd f k x 7 = nI (lAc l').length ∧ upd f k x 8 = nI (lLn l')) (e1 : lP l' = lP l) (e2 : lQ l' = lQ l) (e3 : l'.2.2 = l.2.2) : lM (upd f k x) l' := by
  obtain ⟨-, b, c, d, w, ac⟩ := h
  obtain ⟨x1, x2, x3⟩ := l'
  obtain ⟨y1, y2, y3⟩ := l
  dsimp only at e3
  subst e3
  refine ⟨h0, fun p hp => ?_, fun c' hc => ?_, fun q hq => ?_, fun i y hy => ?_, fun i y hy => ?_⟩
  · rw [upd_ne _ _ (by omega)]; exact b p (by rw [← e1]; exact hp)
  · rw [upd_ne _ _ (by omega)]; exact c c' hc
  · rw [upd_ne _ _ (by omega), upd_ne _ _ (by omega)]; exact d q (by rw [← e2]; exact hq)
  · rw [upd_ne _ _ (by omega), upd_ne _ _ (by omega), upd_ne _ _ (by omega), upd_ne _ _ (by omega)]; exact w i y hy
  · rw [upd_ne _ _ (by omega)]; exact ac i y hy
theorem lM_Y' {f : Nat → Int32} (h : lM f l) (y : Nat) : lM (upd f 0 (nI y)) (setY l y) := by
  obtain ⟨a0, a1, a2, a3, a4, a5, a6, a7, a8⟩ := h.1
  refine lM_h h (by decide) _ _ ⟨upd_at _ _ _, ?_, ?_, ?_, ?_, ?_, ?_, ?_, ?_⟩ rfl rfl rfl
  all_goals rw [upd_ne _ _ (by decide)]; assumption
theorem lM_Lw {f : Nat → Int32} (h : lM f l) (y : Int32) : lM (upd f 1 y) (setLw l y) := by
  obtain ⟨a0, a1, a2, a3, a4, a5, a6, a7, a8⟩ := h.1
  refine lM_h h (by decide) _ _ ⟨?_, upd_at _ _ _, ?_, ?_, ?_, ?_, ?_, ?_, ?_⟩ rfl rfl rfl
  all_goals rw [upd_ne _ _ (by decide)]; assumption
theorem lM_Od {f : Nat → Int32} (h : lM f l) (y : Int32) : lM (upd f 2 y) (setOd l y) := by
  obtain ⟨a0, a1, a2, a3, a4, a5, a6, a7, a8⟩ := h.1
  refine lM_h h (by decide) _ _ ⟨?_, ?_, upd_at _ _ _, ?_, ?_, ?_, ?_, ?_, ?_⟩ rfl rfl rfl
  all_goals rw [upd_ne _ _ (by decide)]; assumption
theorem lM_Ln' {f : Nat → Int32} (h : lM f l) : lM (upd f 8 (nI (lLn l + 1))) (addL l) := by
  obtain ⟨a0, a1, a2, a3, a4, a5, a6, a7, a8⟩ := h.1
  refine lM_h h (by decide) _ _ ⟨?_, ?_, ?_, ?_, ?_, ?_, ?_, ?_, upd_at _ _ _⟩ rfl rfl rfl
  all_goals rw [upd_ne _ _ (by decide)]; assumption
theorem lM_P' {f : Nat → Int32} (h : lM f l) (hP : lP l < 6) (s : Int32) : lM (upd (upd f (9 + lP l) s) 3 (nI (lP l + 1))) (addP l s) := by
  obtain ⟨⟨a0, a1, a2, a3, a4, a5, a6, a7, a8⟩, b, c, d, w, ac⟩ := h
  have z : ∀ j, j < 9 ∨ 14 < j → j ≠ 3 → upd (upd f (9 + lP l) s) 3 (nI (lP l + 1)) j = f j := fun j h1 h2 => by rw [upd_ne _ _ h2, upd_ne _ _ (by omega)]
  refine ⟨?_, fun p hp => ?_, fun c' hc => ?_, fun q hq => ?_, fun i y hy => ?_, fun i y hy => ?_⟩
  · rw [z 0 (by omega) (by omega), z 1 (by omega) (by omega), z 2 (by omega) (by omega), z 4 (by omega) (by omega), z 5 (by omega) (by omega), z 6 (by omega) (by omega), z 7 (by omega) (by omega), z 8 (by omega) (by omega), upd_at]
    exact ⟨a0, a1, a2, rfl, a4, a5, a6, a7, a8⟩
  · have hp' : p < lP l + 1 := hp
    rw [upd_ne _ _ (by omega)]
    show upd f (9 + lP l) s (9 + p) = upd (lSk l) (lP l) s p
    by_cases e : p = lP l
    · rw [e, upd_at, upd_at]
    · rw [upd_ne _ _ (by omega), upd_ne _ _ e]; exact b p (by omega)
  · rw [z _ (by omega) (by omega)]; exact c c' hc
  · rw [z _ (by omega) (by omega), z _ (by omega) (by omega)]; exact d q hq
  · rw [z _ (by omega) (by omega), z _ (by omega) (by omega), z _ (by omega) (by omega), z _ (by omega) (by omega)]; exact w i y hy
  · rw [z _ (by omega) (by omega)]; exact ac i y hy
theorem lM_B' {f : Nat → Int32} (h : lM f l) (hP : lP l ≤ 6) {a b : Nat} (ha : a < 6) (hb : b < 6) (v : Int32) : lM (upd (upd f (15 + 6 * a + b) v) 4 (nI (lB l + 1))) (addB l a b v) := by
  obtain ⟨⟨a0, a1, a2, a3, a4, a5, a6, a7, a8⟩, b', c, d, w, ac⟩ := h
  have z : ∀ j, j < 15 ∨ 50 < j → j ≠ 4 → upd (upd f (15 + 6 * a + b) v) 4 (nI (lB l + 1)) j = f j := fun j h1 h2 => by rw [upd_ne _ _ h2, upd_ne _ _ (by omega)]
  refine ⟨?_, fun p hp => ?_, fun c' hc => ?_, fun q hq => ?_, fun i y hy => ?_, fun i y hy => ?_⟩
  · rw [z 0 (by omega) (by omega), z 1 (by omega) (by omega), z 2 (by omega) (by omega), z 3 (by omega) (by omega), z 5 (by omega) (by omega), z 6 (by omega) (by omega), z 7 (by omega) (by omega), z 8 (by omega) (by omega), upd_at]
    exact ⟨a0, a1, a2, a3, rfl, a5, a6, a7, a8⟩
  · have hp' : p < lP l := hp
    rw [z _ (by omega) (by omega)]; exact b' p hp
  · rw [upd_ne _ _ (by omega)]
    show upd f (15 + 6 * a + b) v (15 + c') = upd (lFe l) (6 * a + b) v c'
    by_cases e : c' = 6 * a + b
    · rw [e, ← Nat.add_assoc, upd_at, upd_at]
    · rw [upd_ne _ _ (by omega), upd_ne _ _ e]; exact c c' hc
  · rw [z _ (by omega) (by omega), z _ (by omega) (by omega)]; exact d q hq
  · rw [z _ (by omega) (by omega), z _ (by omega) (by omega), z _ (by omega) (by omega), z _ (by omega) (by omega)]; exact w i y hy
  · rw [z _ (by omega) (by omega)]; exact ac i y hy
/-- places that count for nothing yet -/
theorem lM_u {f : Nat → Int32} (h : lM f l) (hw : lvW l) {j : Nat} (hj : (51 + 4 * (lWr l).length ≤ j ∧ j < 83) ∨ (83 + 2 * lQ l ≤ j ∧ j < 93)) (x : Int32) : lM (upd f j x) l := by
  obtain ⟨h1, h2, h3, h4⟩ := hw
  obtain ⟨⟨a0, a1, a2, a3, a4, a5, a6, a7, a8⟩, b', c, d, w, ac⟩ := h
  refine ⟨?_, fun p hp => ?_, fun c' hc => ?_, fun q hq => ?_, fun i y hy => ?_, fun i y hy => ?_⟩
  · rw [upd_ne _ _ (by omega), upd_ne _ _ (by omega), upd_ne _ _ (by omega), upd_ne _ _ (by omega), upd_ne _ _ (by omega), upd_ne _ _ (by omega), upd_ne _ _ (by omega), upd_ne _ _ (by omega), upd_ne _ _ (by omega)]
    exact ⟨a0, a1, a2, a3, a4, a5, a6, a7, a8⟩
  · rw [upd_ne _ _ (by omega)]; exact b' p hp
  · rw [upd_ne _ _ (by omega)]; exact c c' hc
  · rw [upd_ne _ _ (by omega), upd_ne _ _ (by omega)]; exact d q hq
  · have := get_lt hy
    rw [upd_ne _ _ (by omega), upd_ne _ _ (by omega), upd_ne _ _ (by omega), upd_ne _ _ (by omega)]; exact w i y hy
  · rw [upd_ne _ _ (by omega)]; exact ac i y hy
theorem lM_W' {f : Nat → Int32} (h : lM f l) (hw : lvW l) (x : Dd) (h1 : f (51 + 4 * (lWr l).length) = nI x.1) (h2 : f (52 + 4 * (lWr l).length) = nI x.2.1) (h3 : f (53 + 4 * (lWr l).length) = x.2.2.1) (h4 : f (54 + 4 * (lWr l).length) = nI x.2.2.2) : lM (upd f 5 (nI ((lWr l).length + 1))) (addW l x) := by
  obtain ⟨w1, w2, w3, w4⟩ := hw
  obtain ⟨⟨a0, a1, a2, a3, a4, a5, a6, a7, a8⟩, b', c, d, w, ac⟩ := h
  refine ⟨⟨?_, ?_, ?_, ?_, ?_, ?_, ?_, ?_, ?_⟩, fun p hp => ?_, fun c' hc => ?_, fun q hq => ?_, fun i y hy => ?_, fun i y hy => ?_⟩
  · rw [upd_ne _ _ (by decide)]; exact a0
  · rw [upd_ne _ _ (by decide)]; exact a1
  · rw [upd_ne _ _ (by decide)]; exact a2
  · rw [upd_ne _ _ (by decide)]; exact a3
  · rw [upd_ne _ _ (by decide)]; exact a4
  · rw [upd_at]
    show _ = nI (lWr l ++ [x]).length
    rw [List.length_append]
    rfl
  · rw [upd_ne _ _ (by decide)]; exact a6
  · rw [upd_ne _ _ (by decide)]; exact a7
  · rw [upd_ne _ _ (by decide)]; exact a8
  · rw [upd_ne _ _ (by omega)]; exact b' p hp
  · rw [upd_ne _ _ (by omega)]; exact c c' hc
  · rw [upd_ne _ _ (by omega), upd_ne _ _ (by omega)]; exact d q hq
  · rw [upd_ne _ _ (by omega), upd_ne _ _ (by omega), upd_ne _ _ (by omega), upd_ne _ _ (by omega)]
    have hy' : (lWr l ++ [x])[i]? = some y := hy
    rcases Nat.lt_or_ge i (lWr l).length with g | g
    · rw [List.getElem?_append_left g] at hy'
      exact w i y hy'
    · rw [List.getElem?_append_right g] at hy'
      rcases Nat.eq_zero_or_pos (i - (lWr l).length) with z | z
      · rw [z] at hy'
        cases hy'
        rw [show i = (lWr l).length by omega]
        exact ⟨h1, h2, h3, h4⟩
      · rw [List.getElem?_eq_none (by simp; omega)] at hy'
        cases hy'
  · rw [upd_ne _ _ (by omega)]; exact ac i y hy
theorem lM_Q' {f : Nat → Int32} (h : lM f l) (hw : lvW l) (y : Nat) (s : Int32) (h1 : f (83 + 2 * lQ l) = nI y) (h2 : f (84 + 2 * lQ l) = s) : lM (upd f 6 (nI (lQ l + 1))) (addQ l y s) := by
  obtain ⟨w1, w2, w3, w4⟩ := hw
  obtain ⟨⟨a0, a1, a2, a3, a4, a5, a6, a7, a8⟩, b', c, d, w, ac⟩ := h
  refine ⟨⟨?_, ?_, ?_, ?_, ?_, ?_, upd_at _ _ _, ?_, ?_⟩, fun p hp => ?_, fun c' hc => ?_, fun q hq => ?_, fun i x hx => ?_, fun i x hx => ?_⟩
  · rw [upd_ne _ _ (by decide)]; exact a0
  · rw [upd_ne _ _ (by decide)]; exact a1
  · rw [upd_ne _ _ (by decide)]; exact a2
  · rw [upd_ne _ _ (by decide)]; exact a3
  · rw [upd_ne _ _ (by decide)]; exact a4
  · rw [upd_ne _ _ (by decide)]; exact a5
  · rw [upd_ne _ _ (by decide)]; exact a7
  · rw [upd_ne _ _ (by decide)]; exact a8
  · rw [upd_ne _ _ (by omega)]; exact b' p hp
  · rw [upd_ne _ _ (by omega)]; exact c c' hc
  · have hq' : q < lQ l + 1 := hq
    rw [upd_ne _ _ (by omega), upd_ne _ _ (by omega)]
    show f (83 + 2 * q) = nI (updN (lWh l) (lQ l) y q) ∧ f (84 + 2 * q) = upd (lAs l) (lQ l) s q
    unfold updN
    by_cases e : q = lQ l
    · rw [e, if_pos rfl, upd_at]; exact ⟨h1, h2⟩
    · rw [if_neg e, upd_ne _ _ e]; exact d q (by omega)
  · rw [upd_ne _ _ (by omega), upd_ne _ _ (by omega), upd_ne _ _ (by omega), upd_ne _ _ (by omega)]; exact w i x hx
  · rw [upd_ne _ _ (by omega)]; exact ac i x hx

