/-! ===== feelings: hate, worst, dearest, foe, mild, bitter ===== -/
variable {σ τ : mS} {l : Lv}
theorem neg_toInt {a : Int32} (h1 : -1000000 ≤ a.toInt) (h2 : a.toInt ≤ 1000000) : (-a).toInt = -a.toInt := by
  rw [Int32.toInt_neg]
  exact Int.bmod_eq_of_le (by omega) (by omega)
theorem i_lt {a b : Int32} : a < b ↔ a.toInt < b.toInt := Int32.lt_iff_toInt_lt
theorem i_le {a b : Int32} : a ≤ b ↔ a.toInt ≤ b.toInt := Int32.le_iff_toInt_le
theorem hb_step {f : Int32} (hf : bw (-60) f 60) (u : Int32) : u + vMx 0 (-f) = u - (if 0 < f then 0 else f) := by
  have h1 := hf.1
  have h2 := hf.2
  have hn := neg_toInt (a := f) (by omega) (by omega)
  unfold vMx
  by_cases h : 0 < f
  · have h3 := i_lt.mp h
    rw [Int32.toInt_zero] at h3
    rw [if_pos h, if_neg (fun q => by have := i_lt.mp q; rw [hn, Int32.toInt_zero] at this; omega), Int32.add_zero, Int32.sub_zero]
  · rw [if_neg h]
    by_cases h4 : (0 : Int32) < -f
    · rw [if_pos h4, Int32.sub_eq_add_neg]
    · have h5 := mt i_lt.mpr h4
      have h6 := mt i_lt.mpr h
      rw [hn, Int32.toInt_zero] at h5
      rw [Int32.toInt_zero] at h6
      have : f = 0 := Int32.toInt_inj.mp (by rw [Int32.toInt_zero]; omega)
      rw [if_neg h4, this, Int32.add_zero, Int32.sub_zero]
def hatS (l : Lv) (y p : Nat) : Int32 := hbS (lP l) (fun k => fL l y k p) (fun _ => true)
theorem k_hat (d : Nat) (t : tL σ l) {p y : Nat} (hp : p < lP l) (hy : y < lY l) : Cc (d + 2) n_Co_hateBy [.ref 20, .int (nI p), .int (nI y), .int (ev (lP l)), .null, .null] σ = some (.int (hatS l y p), σ) := by
  have h1 := lvP t.1
  rw [k_hb d 20 (Or.inl rfl) t.1 hp hy _ t.2.1 t.2.2.1.2.1]
  unfold hatS
  rw [hbS_eq (f := fun k => fE l (vS l) y (6 * k + p)) (s := bt (ev (lP l))) (g := fun k => fL l y k p) (t := fun _ => true) (fun _ _ => rfl) (fun k hk _ => by rw [ev_bt h1 (by omega), decide_eq_true hk])]
theorem r_hateOf (d : Nat) (hl : lvOK l) {m : Nat} (a : rA τ l (vS l) m) {p y : Nat} (hp : p < lP l) (hy : y < lY l) : Cc (d + 2) n_M_hateOf [.ref 200, .int (nI p), .int (nI y), .null, .null] τ = some (.int (hatS l y p), τ) := by
  have h1 := lvP hl
  rw [c_M_hateOf]
  have hs := mFor (fun k (w : Int32) => Xx (d + 1) n_M_hateOf 5 [.ref 200, .int (nI p), .int (nI y), .int w, .int (nI k)] [] τ) (fun k u => if (fun _ => true) k = true then u - (if 0 < fL l y k p then 0 else fL l y k p) else u) (lP l) 0 (by
    intro k hk
    generalize mF _ k (0 : Int32) = w
    rw [q_M_hateOf_5, r_persons, mBI_s, lM_P a.1.1, dle (by omega) (by omega), dF _ (by omega), cF, dne (by omega) (by omega), r_fe d hl a hk hp hy, mBI_s, nI_1, if_pos rfl, ← hb_step (fL_bw hl y hk hp)]
    by_cases h : k = p
    · rw [dF _ (fun q => q h), cF, h, fL_0 hl y hp]
      rfl
    · rw [dT _ h, cT])
  exact hs.trans (by rw [q_M_hateOf_5, r_persons, mBI_s, lM_P a.1.1, dT _ (Int32.le_refl _), cT]; rfl)
/-- who hates one most -/
def wstS (l : Lv) (y p : Nat) : Option Nat := pkF (lP l) (fun k => fL l y k p) (fun k => !(decide (k = p)))
theorem k_wst (d : Nat) (t : tL σ l) {p y : Nat} (hp : p < lP l) (hy : y < lY l) : Cc (d + 2) n_Co_bitterest [.ref 20, .int (nI p), .int (nI y), .int (ev (lP l)), .null, .null, .null, .null] σ = some (.int (oI (wstS l y p)), σ) := by
  have h1 := lvP t.1
  have h2 := lvY t.1
  rw [k_bitterest d 20 (Or.inl rfl) (by omega) (by omega) h1 _ σ (tP t), pkF_eq (g := fun k => fL l y k p) (t := fun k => !(decide (k = p))) (fun k hk => t.2.2.1.2.1 y hy _ (by omega)) (fun k hk hn => by
    rw [ev_bt h1 (by omega), decide_eq_true hk, decide_eq_false]
    · rfl
    · intro e
      rw [t.2.2.1.2.1 y hy _ (by omega), e] at hn
      have := fL_0 t.1 y hp
      unfold fL at this
      rw [this] at hn
      exact absurd hn (by decide))]
  rfl
/-- the reference's way to pick one who hates most -/
theorem r_pick (f : Nat → Int32) (s : Nat → Bool) (P : Nat) (F : Nat → Option Nat → mR) (hs : ∀ k b, k < P → (∀ j, b = some j → j < k ∧ f j < 0) → F k b = F (k + 1) (pkS f s k b)) : F 0 none = F P (pkF P f s) := by
  refine mFor F (pkS f s) P none (fun k hk => hs k _ hk ?_)
  intro j hj
  have := pkF_lt (P := k) (f := f) (s := s) hj
  exact ⟨this.1, this.2.2⟩
theorem r_wst (d : Nat) (hl : lvOK l) {m : Nat} (a : rA τ l (vS l) m) {p y : Nat} (hp : p < lP l) (hy : y < lY l) : Xx (d + 1) n_M_worst 25 [.ref 200, .int (nI p), .int (nI y), .int (-1), .int 0] [] τ = some (.int (oI (wstS l y p)), τ) := by
  have h1 := lvP hl
  have hs := r_pick (fun k => fL l y k p) (fun k => !(decide (k = p))) (lP l) (fun k (b : Option Nat) => Xx (d + 1) n_M_worst 25 [.ref 200, .int (nI p), .int (nI y), .int (oI b), .int (nI k)] [] τ) (by
    intro k b hk hb
    show Xx (d + 1) n_M_worst 25 [.ref 200, .int (nI p), .int (nI y), .int (oI b), .int (nI k)] [] τ = Xx (d + 1) n_M_worst 25 [.ref 200, .int (nI p), .int (nI y), .int (oI (pkS (fun k => fL l y k p) (fun k => !(decide (k = p))) k b)), .int (nI (k + 1))] [] τ
    rw [q_M_worst_25, r_persons, mBI_s, lM_P a.1.1, dle (by omega) (by omega), dF _ (by omega), cF, deq (by omega) (by omega), r_fe d hl a hk hp hy, mBI_s, nI_1]
    unfold pkS
    by_cases h : k = p
    · rw [dT _ h, cT, if_neg (fun q => by simp [h] at q)]
    · rw [dF _ h, cF]
      cases b with
      | none =>
        rw [oI_n, m1n, cF, lst0_n]
        by_cases h2 : (0 : Int32) ≤ fL l y k p
        · rw [dT _ h2, cT, if_neg (fun q => Int32.not_lt.mpr h2 q.2)]; rfl
        · rw [dF _ h2, cF, if_pos ⟨by simp [h], Int32.not_le.mp h2⟩]; rfl
      | some j =>
        have hj := (hb j rfl).1
        rw [oI_s, nI_m1n (by omega), cT, r_fe d hl a (by omega) hp hy, mBI_s, lst0_s]
        by_cases h2 : fL l y j p ≤ fL l y k p
        · rw [dT _ h2, cT, if_neg (fun q => Int32.not_lt.mpr h2 q.2)]; rfl
        · rw [dF _ h2, cF, if_pos ⟨by simp [h], Int32.not_le.mp h2⟩]; rfl)
  exact hs.trans (by rw [q_M_worst_25, r_persons, mBI_s, lM_P a.1.1, dT _ (Int32.le_refl _), cT]; rfl)
/-- whom one hates most -/
def foeS (l : Lv) (y p : Nat) : Option Nat := pkF (lP l) (fun k => fL l y p k) (fun k => !(decide (k = p)))
theorem k_foe (d : Nat) (t : tL σ l) {p y : Nat} (hp : p < lP l) (hy : y < lY l) : Xx (d + 1) n_E_foe 20 [.ref 0, .int (nI p), .int (nI y), .int (-1), .int 0, .int 0, .null] [] σ = some (.int (oI (foeS l y p)), σ) := by
  have h1 := lvP t.1
  obtain ⟨v, hs⟩ := mForH (fun k (b : Option Nat) (v : Value) => Xx (d + 1) n_E_foe 20 [.ref 0, .int (nI p), .int (nI y), .int (oI b), .int (lst0 (fun k => fL l y p k) b), .int (nI k), v] [] σ) (pkS (fun k => fL l y p k) (fun _ => true)) (lP l) none .null (by
    intro k v hk
    generalize mF _ k (none : Option Nat) = b
    refine ⟨.int (fL l y p k), ?_⟩
    rw [q_E_foe_20, tP t, dle (by omega) (by omega), dF _ (by omega), cF, k_fe d t hp hk hy, mBI_s, nI_1]
    unfold pkS
    by_cases h : lst0 (fun k => fL l y p k) b ≤ fL l y p k
    · rw [dT _ h, cT, if_neg (fun q => Int32.not_lt.mpr h q.2)]
    · rw [dF _ h, cF, if_pos ⟨rfl, Int32.not_le.mp h⟩]; rfl)
  have e : mF (pkS (fun k => fL l y p k) (fun _ => true)) (lP l) none = foeS l y p := pkF_eq (fun _ _ => rfl) (fun k hk hn => by
    rw [decide_eq_false]
    · rfl
    · intro e
      rw [e, fL_0 t.1 y hp] at hn
      exact absurd hn (by decide))
  rw [e] at hs
  exact hs.trans (by rw [q_E_foe_20, tP t, dT _ (Int32.le_refl _), cT])
theorem r_foe (d : Nat) (hl : lvOK l) {m : Nat} (a : rA τ l (vS l) m) {p y : Nat} (hp : p < lP l) (hy : y < lY l) : Xx (d + 1) n_M_foe 25 [.ref 200, .int (nI p), .int (nI y), .int (-1), .int 0] [] τ = some (.int (oI (foeS l y p)), τ) := by
  have h1 := lvP hl
  have hs := r_pick (fun k => fL l y p k) (fun k => !(decide (k = p))) (lP l) (fun k (b : Option Nat) => Xx (d + 1) n_M_foe 25 [.ref 200, .int (nI p), .int (nI y), .int (oI b), .int (nI k)] [] τ) (by
    intro k b hk hb
    show Xx (d + 1) n_M_foe 25 [.ref 200, .int (nI p), .int (nI y), .int (oI b), .int (nI k)] [] τ = Xx (d + 1) n_M_foe 25 [.ref 200, .int (nI p), .int (nI y), .int (oI (pkS (fun k => fL l y p k) (fun k => !(decide (k = p))) k b)), .int (nI (k + 1))] [] τ
    rw [q_M_foe_25, r_persons, mBI_s, lM_P a.1.1, dle (by omega) (by omega), dF _ (by omega), cF, deq (by omega) (by omega), r_fe d hl a hp hk hy, mBI_s, nI_1]
    unfold pkS
    by_cases h : k = p
    · rw [dT _ h, cT, if_neg (fun q => by simp [h] at q)]
    · rw [dF _ h, cF]
      cases b with
      | none =>
        rw [oI_n, m1n, cF, lst0_n]
        by_cases h2 : (0 : Int32) ≤ fL l y p k
        · rw [dT _ h2, cT, if_neg (fun q => Int32.not_lt.mpr h2 q.2)]; rfl
        · rw [dF _ h2, cF, if_pos ⟨by simp [h], Int32.not_le.mp h2⟩]; rfl
      | some j =>
        have hj := (hb j rfl).1
        rw [oI_s, nI_m1n (by omega), cT, r_fe d hl a hp (by omega) hy, mBI_s, lst0_s]
        by_cases h2 : fL l y p j ≤ fL l y p k
        · rw [dT _ h2, cT, if_neg (fun q => Int32.not_lt.mpr h2 q.2)]; rfl
        · rw [dF _ h2, cF, if_pos ⟨by simp [h], Int32.not_le.mp h2⟩]; rfl)
  exact hs.trans (by rw [q_M_foe_25, r_persons, mBI_s, lM_P a.1.1, dT _ (Int32.le_refl _), cT]; rfl)
/-! the other way: the greatest above 0 -/
def pxS (f : Nat → Int32) (s : Nat → Bool) (k : Nat) (b : Option Nat) : Option Nat := if s k = true ∧ lst0 f b < f k then some k else b
def pxF (P : Nat) (f : Nat → Int32) (s : Nat → Bool) : Option Nat := mF (pxS f s) P none
theorem pxF_inv (f : Nat → Int32) (s : Nat → Bool) (n : Nat) : ∀ j, mF (pxS f s) n none = some j → j < n ∧ s j = true ∧ 0 < f j := by
  induction n with
  | zero => intro j h; cases h
  | succ n ih =>
    intro j hj
    have e1 : mF (pxS f s) (n + 1) none = pxS f s n (mF (pxS f s) n none) := rfl
    rw [e1] at hj
    generalize mF (pxS f s) n none = b at ih hj
    unfold pxS at hj
    by_cases h : s n = true ∧ lst0 f b < f n
    · rw [if_pos h] at hj
      cases hj
      refine ⟨Nat.lt_succ_self _, h.1, ?_⟩
      cases b with
      | none => exact h.2
      | some i => exact Int32.lt_trans (ih i rfl).2.2 h.2
    · rw [if_neg h] at hj
      have := ih j hj
      exact ⟨by omega, this.2⟩
theorem pxF_eq {P : Nat} {f : Nat → Int32} {s t : Nat → Bool} (hs : ∀ k, k < P → 0 < f k → s k = t k) : pxF P f s = pxF P f t := by
  have key : ∀ n, n ≤ P → mF (pxS f s) n none = mF (pxS f t) n none := by
    intro n
    induction n with
    | zero => intro _; exact (rfl : (none : Option Nat) = none)
    | succ n ih =>
      intro hn
      have e1 : mF (pxS f s) (n + 1) none = pxS f s n (mF (pxS f s) n none) := rfl
      have e2 : mF (pxS f t) (n + 1) none = pxS f t n (mF (pxS f t) n none) := rfl
      have hb := pxF_inv f t n
      rw [e1, e2, ih (by omega)]
      generalize mF (pxS f t) n none = b at hb
      have hle : 0 ≤ lst0 f b := by
        cases b with
        | none => rw [lst0_n]; exact Int32.le_refl 0
        | some j => rw [lst0_s]; exact Int32.le_of_lt (hb j rfl).2.2
      unfold pxS
      by_cases h : lst0 f b < f n
      · rw [hs n (by omega) (Int32.lt_of_le_of_lt hle h)]
      · rw [if_neg (fun q => h q.2), if_neg (fun q => h q.2)]
  exact key P (Nat.le_refl P)
def deaS (l : Lv) (y p : Nat) : Option Nat := pxF (lP l) (fun k => fL l y k p) (fun k => !(decide (k = p)))
theorem k_dea (d : Nat) (t : tL σ l) {p y : Nat} (hp : p < lP l) (hy : y < lY l) : Xx (d + 1) n_E_dearest 20 [.ref 0, .int (nI p), .int (nI y), .int (-1), .int 0, .int 0, .null] [] σ = some (.int (oI (deaS l y p)), σ) := by
  have h1 := lvP t.1
  obtain ⟨v, hs⟩ := mForH (fun k (b : Option Nat) (v : Value) => Xx (d + 1) n_E_dearest 20 [.ref 0, .int (nI p), .int (nI y), .int (oI b), .int (lst0 (fun k => fL l y k p) b), .int (nI k), v] [] σ) (pxS (fun k => fL l y k p) (fun _ => true)) (lP l) none .null (by
    intro k v hk
    generalize mF _ k (none : Option Nat) = b
    refine ⟨.int (fL l y k p), ?_⟩
    rw [q_E_dearest_20, tP t, dle (by omega) (by omega), dF _ (by omega), cF, k_fe d t hk hp hy, mBI_s, nI_1]
    unfold pxS
    by_cases h : fL l y k p ≤ lst0 (fun k => fL l y k p) b
    · rw [dT _ h, cT, if_neg (fun q => Int32.not_lt.mpr h q.2)]
    · rw [dF _ h, cF, if_pos ⟨rfl, Int32.not_le.mp h⟩]; rfl)
  have e : mF (pxS (fun k => fL l y k p) (fun _ => true)) (lP l) none = deaS l y p := pxF_eq (fun k hk hn => by
    rw [decide_eq_false]
    · rfl
    · intro e
      rw [e, fL_0 t.1 y hp] at hn
      exact absurd hn (by decide))
  rw [e] at hs
  exact hs.trans (by rw [q_E_dearest_20, tP t, dT _ (Int32.le_refl _), cT])
theorem r_dea (d : Nat) (hl : lvOK l) {m : Nat} (a : rA τ l (vS l) m) {p y : Nat} (hp : p < lP l) (hy : y < lY l) : Xx (d + 1) n_M_dearest 25 [.ref 200, .int (nI p), .int (nI y), .int (-1), .int 0] [] τ = some (.int (oI (deaS l y p)), τ) := by
  have h1 := lvP hl
  have hs := mFor (fun k (b : Option Nat) => Xx (d + 1) n_M_dearest 25 [.ref 200, .int (nI p), .int (nI y), .int (oI b), .int (nI k)] [] τ) (pxS (fun k => fL l y k p) (fun k => !(decide (k = p)))) (lP l) none (by
    intro k hk
    have hb := pxF_inv (fun k => fL l y k p) (fun k => !(decide (k = p))) k
    generalize mF _ k (none : Option Nat) = b at hb
    rw [q_M_dearest_25, r_persons, mBI_s, lM_P a.1.1, dle (by omega) (by omega), dF _ (by omega), cF, deq (by omega) (by omega), r_fe d hl a hk hp hy, mBI_s, nI_1]
    unfold pxS
    by_cases h : k = p
    · rw [dT _ h, cT, if_neg (fun q => by simp [h] at q)]
    · rw [dF _ h, cF]
      cases b with
      | none =>
        rw [oI_n, m1n, cF, lst0_n]
        by_cases h2 : fL l y k p ≤ 0
        · rw [dT _ h2, cT, if_neg (fun q => Int32.not_lt.mpr h2 q.2)]; rfl
        · rw [dF _ h2, cF, if_pos ⟨by simp [h], Int32.not_le.mp h2⟩]; rfl
      | some j =>
        have hj := (hb j rfl).1
        rw [oI_s, nI_m1n (by omega), cT, r_fe d hl a (by omega) hp hy, mBI_s, lst0_s]
        by_cases h2 : fL l y k p ≤ fL l y j p
        · rw [dT _ h2, cT, if_neg (fun q => Int32.not_lt.mpr h2 q.2)]; rfl
        · rw [dF _ h2, cF, if_pos ⟨by simp [h], Int32.not_le.mp h2⟩]; rfl)
  exact hs.trans (by rw [q_M_dearest_25, r_persons, mBI_s, lM_P a.1.1, dT _ (Int32.le_refl _), cT]; rfl)
