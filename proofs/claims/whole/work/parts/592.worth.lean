/-! ===== sets that write alone: more who may write make no word less ===== -/
variable {σ τ : mS} {l : Lv}
/-- how many, how much hate: of those in u -/
def ctU (P : Nat) (u : Nat → Bool) : Nat := mF (fun k n => n + (u k).toNat) P 0
def smU (P : Nat) (f : Nat → Int32) (u : Nat → Bool) : Int := mF (fun k a => if u k = true then a - (f k).toInt else a) P 0
theorem ctU_del {P : Nat} {u : Nat → Bool} {j : Nat} (hj : j < P) (h : u j = true) : ctU P u = ctU P (fun k => u k && !(decide (k = j))) + 1 := by
  have key : ∀ n, n ≤ P → ctU n u = ctU n (fun k => u k && !(decide (k = j))) + (if j < n then 1 else 0) := by
    intro n
    induction n with
    | zero => intro _; rfl
    | succ n ih =>
      intro hn
      have e1 : ctU (n + 1) u = ctU n u + (u n).toNat := rfl
      have e2 : ctU (n + 1) (fun k => u k && !(decide (k = j))) = ctU n (fun k => u k && !(decide (k = j))) + (u n && !(decide (n = j))).toNat := rfl
      rw [e1, e2, ih (by omega)]
      by_cases e : n = j
      · subst e
        rw [h, decide_eq_true rfl, if_neg (Nat.lt_irrefl n), if_pos (Nat.lt_succ_self n)]
        rfl
      · rw [decide_eq_false e, Bool.not_false, Bool.and_true]
        by_cases g : j < n
        · rw [if_pos g, if_pos (by omega)]; omega
        · rw [if_neg g, if_neg (by omega)]; omega
  have := key P (Nat.le_refl P)
  rw [if_pos hj] at this
  exact this
theorem smU_del {P : Nat} {f : Nat → Int32} {u : Nat → Bool} {j : Nat} (hj : j < P) (h : u j = true) : smU P f u = smU P f (fun k => u k && !(decide (k = j))) - (f j).toInt := by
  have key : ∀ n, n ≤ P → smU n f u = smU n f (fun k => u k && !(decide (k = j))) - (if j < n then (f j).toInt else 0) := by
    intro n
    induction n with
    | zero => intro _; rfl
    | succ n ih =>
      intro hn
      have e1 : smU (n + 1) f u = if u n = true then smU n f u - (f n).toInt else smU n f u := rfl
      have e2 : smU (n + 1) f (fun k => u k && !(decide (k = j))) = if (u n && !(decide (n = j))) = true then smU n f (fun k => u k && !(decide (k = j))) - (f n).toInt else smU n f (fun k => u k && !(decide (k = j))) := rfl
      rw [e1, e2, ih (by omega)]
      by_cases e : n = j
      · subst e
        rw [h, decide_eq_true rfl, if_neg (Nat.lt_irrefl n), if_pos (Nat.lt_succ_self n), if_pos rfl, if_neg (by decide)]
        omega
      · rw [decide_eq_false e, Bool.not_false, Bool.and_true]
        by_cases g : j < n
        · rw [if_pos g, if_pos (show j < n + 1 by omega)]; split <;> omega
        · rw [if_neg g, if_neg (show ¬ j < n + 1 by omega)]; split <;> omega
  have := key P (Nat.le_refl P)
  rw [if_pos hj] at this
  exact this
theorem ctU_0 {P : Nat} {u : Nat → Bool} (h : ctU P u = 0) : ∀ k, k < P → u k = false := by
  intro k hk
  cases e : u k with
  | false => rfl
  | true => rw [ctU_del hk e] at h; cases h
theorem ctU_pos {P n : Nat} {u : Nat → Bool} (h : ctU P u = n + 1) : ∃ j, j < P ∧ u j = true := by
  induction P with
  | zero => cases h
  | succ P ih =>
    have e1 : ctU (P + 1) u = ctU P u + (u P).toNat := rfl
    cases e : u P with
    | true => exact ⟨P, by omega, e⟩
    | false =>
      rw [e1, e, show false.toNat = 0 from rfl] at h
      obtain ⟨j, h1, h2⟩ := ih h
      exact ⟨j, by omega, h2⟩
theorem smU_0 {P : Nat} {f : Nat → Int32} {u : Nat → Bool} (h : ∀ k, k < P → u k = false) : smU P f u = 0 := by
  unfold smU
  exact mF_inv (fun _ a => a = 0) _ P 0 rfl (fun k a hk ha => by rw [if_neg (by rw [h k hk]; decide), ha]) P (Nat.le_refl P)
/-- who is picked hates at least as much as any who might be -/
theorem pkF_min {P : Nat} {f : Nat → Int32} {s : Nat → Bool} {j : Nat} (hj : j < P) (hs : s j = true) (hf : f j < 0) : ∃ k, pkF P f s = some k ∧ f k ≤ f j := by
  have key : ∀ n, n ≤ P → j < n → ∃ k, mF (pkS f s) n none = some k ∧ f k ≤ f j := by
    intro n
    induction n with
    | zero => intro _ h; omega
    | succ n ih =>
      intro hn hjn
      have e1 : mF (pkS f s) (n + 1) none = pkS f s n (mF (pkS f s) n none) := rfl
      rw [e1]
      by_cases e : j = n
      · subst e
        generalize mF (pkS f s) j none = b
        unfold pkS
        by_cases g : s j = true ∧ f j < lst0 f b
        · rw [if_pos g]; exact ⟨j, rfl, Int32.le_refl _⟩
        · rw [if_neg g]
          have g2 : ¬ f j < lst0 f b := fun q => g ⟨hs, q⟩
          cases b with
          | none => exact absurd hf g2
          | some i => exact ⟨i, rfl, Int32.not_lt.mp g2⟩
      · obtain ⟨k, h1, h2⟩ := ih (by omega) (by omega)
        rw [h1]
        unfold pkS
        by_cases g : s n = true ∧ f n < lst0 f (some k)
        · rw [if_pos g]; exact ⟨n, rfl, Int32.le_trans (Int32.le_of_lt g.2) h2⟩
        · rw [if_neg g]; exact ⟨k, rfl, h2⟩
  exact key P (Nat.le_refl P) hj
theorem hbS_sub {P : Nat} (hP : P ≤ 6) {f : Nat → Int32} (hf : ∀ k, k < P → bw (-60) (f k) 60) {w : Int32} {k : Nat} (hk : k < P) (hn : f k < 0) (hw : bt w k = false) : (hbS P f (bt (w ||| (1 <<< (nI k &&& 31))))).toInt = (hbS P f (bt w)).toInt - (f k).toInt := by
  have h1 := hbS_bw hP hf (bt w)
  have h2 := hf k hk
  unfold bw at h1 h2
  rw [hbS_add hP hk hn hw, sub_toInt (by omega) (by omega) (by omega) (by omega)]
/-- the greedy choice is the best one -/
theorem wrS_best {P : Nat} (hP : P ≤ 6) {f : Nat → Int32} (hf : ∀ k, k < P → bw (-60) (f k) 60) {t : Nat → Bool} : ∀ (n : Nat) (w : Int32) (u : Nat → Bool), (∀ k, k < P → u k = true → t k = true ∧ bt w k = false ∧ f k < 0) → ctU P u = n → ∃ w', wrS P f t n w = some w' ∧ (hbS P f (bt w)).toInt + smU P f u ≤ (hbS P f (bt w')).toInt := by
  intro n
  induction n with
  | zero =>
    intro w u hu hc
    refine ⟨w, rfl, ?_⟩
    rw [smU_0 (ctU_0 hc)]
    omega
  | succ n ih =>
    intro w u hu hc
    obtain ⟨j, hj, hjt⟩ := ctU_pos hc
    obtain ⟨a1, a2, a3⟩ := hu j hj hjt
    obtain ⟨k, hk, hkj⟩ := pkF_min (s := fun k => t k && !(bt w k)) hj (by rw [a1, a2]; rfl) a3
    obtain ⟨hkP, hks, hkn⟩ := pkF_lt hk
    simp only [Bool.and_eq_true, Bool.not_eq_true'] at hks
    unfold wrS
    rw [hk]
    dsimp only
    have h1 := hbS_sub hP hf hkP hkn hks.2
    -- the one that goes out of u
    have go : ∀ i, i < P → u i = true → (u k = true → i = k) → f k ≤ f i → ∃ w', wrS P f t n (w ||| (1 <<< (nI k &&& 31))) = some w' ∧ (hbS P f (bt w)).toInt + smU P f u ≤ (hbS P f (bt w')).toInt := by
      intro i hi hui hik hle
      obtain ⟨w', e1, e2⟩ := ih (w ||| (1 <<< (nI k &&& 31))) (fun x => u x && !(decide (x = i))) (by
        intro x hx hux
        simp only [Bool.and_eq_true, Bool.not_eq_true', decide_eq_false_iff_not] at hux
        obtain ⟨b1, b2, b3⟩ := hu x hx hux.1
        refine ⟨b1, ?_, b3⟩
        rw [b_add (by omega) _ (by omega), b2, Bool.false_or]
        apply decide_eq_false
        intro e
        rw [e] at hux
        exact hux.2 (hik hux.1).symm) (by have := ctU_del hi hui; omega)
      refine ⟨w', e1, ?_⟩
      rw [smU_del hi hui]
      have := i_le.mp hle
      omega
    cases hkk : u k with
    | true => exact go k hkP hkk (fun _ => rfl) (Int32.le_refl _)
    | false => exact go j hj hjt (fun q => by rw [hkk] at q; cases q) hkj
/-- what a choice is -/
theorem wrS_is {P : Nat} (hP : P ≤ 6) {f : Nat → Int32} (hf : ∀ k, k < P → bw (-60) (f k) 60) {s : Nat → Bool} : ∀ (n : Nat) (w w' : Int32), (∀ k, k < P → bt w k = true → s k = true ∧ f k < 0) → wrS P f s n w = some w' → (∀ k, k < P → bt w' k = true → s k = true ∧ f k < 0) ∧ ctU P (bt w') = ctU P (bt w) + n ∧ (hbS P f (bt w)).toInt - smU P f (bt w) = (hbS P f (bt w')).toInt - smU P f (bt w') := by
  intro n
  induction n with
  | zero =>
    intro w w' h e
    cases e
    exact ⟨h, rfl, rfl⟩
  | succ n ih =>
    intro w w' h e
    unfold wrS at e
    cases hk : pkF P f (fun k => s k && !(bt w k)) with
    | none => rw [hk] at e; cases e
    | some k =>
      rw [hk] at e
      obtain ⟨hkP, hks, hkn⟩ := pkF_lt hk
      simp only [Bool.and_eq_true, Bool.not_eq_true'] at hks
      have hb : ∀ x, x < P → bt (w ||| (1 <<< (nI k &&& 31))) x = (bt w x || decide (x = k)) := fun x hx => b_add (by omega) w (by omega)
      obtain ⟨i1, i2, i3⟩ := ih _ _ (by
        intro x hx hbx
        rw [hb x hx, Bool.or_eq_true, decide_eq_true_eq] at hbx
        rcases hbx with q | q
        · exact h x hx q
        · rw [q]; exact ⟨hks.1, hkn⟩) e
      have hkk : bt (w ||| (1 <<< (nI k &&& 31))) k = true := by rw [hb k hkP, decide_eq_true rfl, Bool.or_true]
      have e1 := ctU_del hkP hkk
      have e2 := smU_del (f := f) hkP hkk
      have hdel : ∀ x, x < P → (bt (w ||| (1 <<< (nI k &&& 31))) x && !(decide (x = k))) = bt w x := by
        intro x hx
        rw [hb x hx]
        by_cases q : x = k
        · rw [decide_eq_true q, q, hks.2]; rfl
        · rw [decide_eq_false q, Bool.or_false, Bool.not_false, Bool.and_true]
      have c1 : ctU P (fun x => bt (w ||| (1 <<< (nI k &&& 31))) x && !(decide (x = k))) = ctU P (bt w) := mF_congr _ _ P 0 (fun x hx => by simp only [hdel x hx])
      have c2 : smU P f (fun x => bt (w ||| (1 <<< (nI k &&& 31))) x && !(decide (x = k))) = smU P f (bt w) := mF_congr _ _ P 0 (fun x hx => by simp only [hdel x hx])
      rw [c1] at e1
      rw [c2] at e2
      have h1 := hbS_sub hP hf hkP hkn hks.2
      refine ⟨i1, by omega, by omega⟩
theorem wrS_mono {P : Nat} (hP : P ≤ 6) {f : Nat → Int32} (hf : ∀ k, k < P → bw (-60) (f k) 60) {s t : Nat → Bool} (hst : ∀ k, k < P → s k = true → t k = true) {n : Nat} {w : Int32} (h : wrS P f s n 0 = some w) : ∃ w', wrS P f t n 0 = some w' ∧ (hbS P f (bt w)).toInt ≤ (hbS P f (bt w')).toInt := by
  obtain ⟨i1, i2, i3⟩ := wrS_is hP hf n 0 w (fun k hk q => by rw [b_0] at q; cases q) h
  have c0 : ctU P (bt 0) = 0 := mF_inv (fun _ n => n = 0) _ P 0 rfl (fun k a hk ha => by rw [b_0, ha]; rfl) P (Nat.le_refl P)
  have s0 : smU P f (bt 0) = 0 := smU_0 (fun k _ => b_0 k)
  obtain ⟨w', e1, e2⟩ := wrS_best hP hf (t := t) n 0 (bt w) (fun k hk q => ⟨hst k hk (i1 k hk q).1, b_0 k, (i1 k hk q).2⟩) (by omega)
  refine ⟨w', e1, ?_⟩
  rw [hbS_0 _ _ hP] at i3 e2
  rw [Int32.toInt_zero] at i3 e2
  omega
/-- the worth of a set -/
def woS (l : Lv) (q p : Nat) (s : Nat → Bool) : Int32 := vMx 0 (wdV (lP l) (fw l (vS l) q p) (wrO l (vS l) q p s))
theorem woS_n (hl : lvOK l) {q p : Nat} (hp : p < lP l) {s : Nat → Bool} : woS l q p s = (match wrO l (vS l) q p s with | none => 0 | some w => hbS (lP l) (fw l (vS l) q p) (bt w)) := by
  unfold woS
  cases wrO l (vS l) q p s with
  | none => rfl
  | some w =>
    have := (hbS_bw (lvP hl) (fw_bw hl (vS_ok hl) q hp) (bt w)).1
    show vMx 0 (hbS (lP l) (fw l (vS l) q p) (bt w)) = hbS (lP l) (fw l (vS l) q p) (bt w)
    apply Int32.toInt_inj.mp
    rw [vMx_toInt, Int32.toInt_zero]
    omega
theorem woS_bw (hl : lvOK l) {q p : Nat} (hp : p < lP l) (s : Nat → Bool) : bw 0 (woS l q p s) 360 := by
  rw [woS_n hl hp]
  cases wrO l (vS l) q p s with
  | none =>
    show bw 0 0 360
    exact ⟨by decide, by decide⟩
  | some w => exact hbS_bw (lvP hl) (fw_bw hl (vS_ok hl) q hp) (bt w)
theorem woS_mono (hl : lvOK l) {q p : Nat} (hp : p < lP l) {s t : Nat → Bool} (hst : ∀ k, k < lP l → s k = true → t k = true) : (woS l q p s).toInt ≤ (woS l q p t).toInt := by
  have hb := (woS_bw (q := q) hl hp t).1
  rw [woS_n hl hp (s := s)]
  cases hw : wrO l (vS l) q p s with
  | none => exact hb
  | some w =>
    unfold wrO at hw
    by_cases c : lWh l q < lY l ∧ lAs l q &&& (vSk (vS l) p ^^^ (-1)) = 0
    · rw [if_pos c] at hw
      obtain ⟨w', e1, e2⟩ := wrS_mono (lvP hl) (fw_bw hl (vS_ok hl) q hp) hst hw
      have e3 : wrO l (vS l) q p t = some w' := by
        unfold wrO
        rw [if_pos c]
        exact e1
      rw [woS_n hl hp (s := t), e3]
      exact e2
    · rw [if_neg c] at hw
      cases hw
theorem k_wordAlone (d : Nat) (t : tL σ l) {p q : Nat} (hp : p < lP l) (hq : q < lQ l) (s : Int32) : Cc (d + 4) n_E_wordAlone [.ref 0, .int (nI p), .int (nI q), .int s, .null] σ = some (.int (woS l q p (bt s)), σ) := by
  have h3 := lvQ t.1
  rw [c_E_wordAlone, k_wr _ 20 (Or.inl rfl) t.1 hp hq _ t.2.1 t.2.2.1.1 t.2.2.1.2.1, mBI_s, woS_n t.1 hp]
  cases hw : wrO l (vS l) q p (bt s) with
  | none => rfl
  | some w =>
    have hy : lWh l q < lY l := by
      unfold wrO at hw
      by_cases h : lWh l q < lY l ∧ lAs l q &&& (vSk (vS l) p ^^^ (-1)) = 0
      · exact h.1
      · rw [if_neg h] at hw; cases hw
    rw [show oW (some w) = w from rfl, dT _ (wrO_m1 t.1 hw), cT, mIn_nI (by omega) (by omega), cT, nI_clamp (by omega), show σ.1 44 q = nI (lWh l q) from (t.2.1.2.2.2.1 q hq).2, k_hb _ 20 (Or.inl rfl) t.1 hp hy w t.2.1 t.2.2.1.2.1, mBI_s]
    rfl
theorem r_worthOf (d : Nat) (hl : lvOK l) {m : Nat} (a : rA τ l (vS l) m) {p q : Nat} (hp : p < lP l) (hq : q < lQ l) (s : Int32) (u : Int32) : ∃ u', Cc (d + 5) n_M_worthOf [.ref 200, .int (nI p), .int (nI q), .int s] (pN τ u) = some (.int (woS l q p (bt s)), pN τ u') := by
  obtain ⟨u', e, -⟩ := r_wordOf d hl (vS_ok hl) hp hq s (rF1_pN a.2.1 u)
  rw [pN_pN] at e
  refine ⟨u', ?_⟩
  rw [c_M_worthOf, e, mBI_s]
  rfl
theorem t_worth (D : Nat) (t : tL σ l) (x y z : Int32) : qry (D + 13) n_E_worth n_M_worth [.ref 0, .int x, .int y, .int z] [.ref 200, .int x, .int y, .int z] σ := by
  have h1 := lvP t.1
  have h3 := lvQ t.1
  obtain ⟨τ, e, s, a⟩ := r_asksPost (D + 2) y t.1 t.2.2.2
  unfold qry
  rw [c_E_worth, k_isFor _ x y σ (tP t) (by omega) (tQ t) (by omega), mBI_s, bI_0, k_everybody _ _ (tP t), mBI_s, c_M_worth, e, mBI_s, bI_0, r_isPerson _ x τ (lM_P a.1.1) (by omega), mBI_s, bI_0, r_everybody _ _ (lM_P a.1.1), mBI_s, r_in, mBI_s, show (0 : Int64) = (0 : Int32).toInt64 by decide, l_lt, l_lt, bI_0]
  cases hx : mIn x (lP l) with
  | false => exact ⟨-2, τ, by simp, by simp, s⟩
  | true =>
    cases hy : mIn y (lQ l) with
    | false => exact ⟨-2, τ, by simp, by simp, s⟩
    | true =>
      cases g1 : decide (z < 0) with
      | true => exact ⟨-2, τ, by simp, by simp, s⟩
      | false =>
        cases g2 : decide (ev (lP l) < z) with
        | true => exact ⟨-2, τ, by simp, by simp, s⟩
        | false =>
          obtain ⟨p, hp, rfl⟩ := mIn_of hx
          obtain ⟨q, hq, rfl⟩ := mIn_of hy
          obtain ⟨u, eu⟩ := r_worthOf (D + 7) t.1 a hp hq z (τ.1 200 27)
          rw [← pN_i] at eu
          simp only [Bool.and_true, Bool.not_true, Bool.not_false, cT, cF]
          rw [k_wordAlone _ t hp hq, eu]
          exact ⟨_, _, rfl, rfl, sM_t s (sM_pN _ u)⟩
