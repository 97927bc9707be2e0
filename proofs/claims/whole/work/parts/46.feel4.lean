/-! ===== feelings: sets and how many: mild, porter, bitter, pairs, rings ===== -/
variable {σ τ : mS} {l : Lv}
theorem st_bt {P : Nat} (hP : P ≤ 32) (c : Nat → Bool) {i : Nat} (hi : i < 32) : bt (stS P c) i = (decide (i < P) && c i) := by
  unfold stS
  induction P with
  | zero =>
    show bt 0 i = _
    rw [b_0, decide_eq_false (Nat.not_lt_zero i)]
    rfl
  | succ P ih =>
    show bt (bif c P then mF _ P (0 : Int32) ||| (1 <<< (nI P &&& 31)) else mF _ P (0 : Int32)) i = _
    have e := ih (by omega)
    cases hc : c P with
    | false =>
      rw [cF, e]
      by_cases h : i = P
      · rw [h, hc, Bool.and_false, Bool.and_false]
      · rw [show decide (i < P + 1) = decide (i < P) from decide_eq_decide.mpr (by omega)]
    | true =>
      rw [cT, b_add (by omega) _ hi, e]
      by_cases h : i = P
      · rw [decide_eq_true h, Bool.or_true, h, hc, decide_eq_true (Nat.lt_succ_self P)]; rfl
      · rw [decide_eq_false h, Bool.or_false, show decide (i < P + 1) = decide (i < P) from decide_eq_decide.mpr (by omega)]
theorem b_small {x : Int32} (h : ∀ i, 6 ≤ i → i < 32 → bt x i = false) : bw 0 x 63 := by
  have h1 : x.toBitVec.toNat < 2 ^ 6 := by
    apply Nat.lt_pow_two_of_testBit
    intro i hi
    rw [BitVec.testBit_toNat]
    rcases Nat.lt_or_ge i 32 with q | q
    · exact h i hi q
    · exact BitVec.getLsbD_of_ge _ _ q
  have h2 : x.toInt = (x.toBitVec.toNat : Int) := BitVec.toInt_eq_toNat_of_lt (by omega)
  unfold bw
  omega
theorem st_bw {P : Nat} (hP : P ≤ 6) (c : Nat → Bool) : bw 0 (stS P c) 63 := b_small (fun i h1 h2 => by rw [st_bt (by omega) c h2, decide_eq_false (by omega)]; rfl)
theorem mF_stop {α : Type} (g : Nat → α → α) (n m : Nat) (h : n ≤ m) (hs : ∀ k a, n ≤ k → k < m → g k a = a) (a : α) : mF g m a = mF g n a := by
  induction m with
  | zero => rw [show n = 0 by omega]
  | succ m ih =>
    rcases Nat.lt_or_ge m n with q | q
    · rw [show n = m + 1 by omega]
    · show g m (mF g m a) = _
      rw [hs m _ q (by omega), ih q (fun k a h1 h2 => hs k a h1 (by omega))]
/-- how many of a set are so -/
theorem nb_st {P : Nat} (hP : P ≤ 6) (c : Nat → Bool) : nI (nb (stS P c)) = cnS P c 0 := by
  have e : nb (stS P c) = mF (fun k n => n + (c k).toNat) P 0 := by
    unfold nb
    rw [mF_stop _ P 16 (by omega) (fun k a h1 h2 => by rw [st_bt (by omega) c (by omega), decide_eq_false (by omega)]; rfl)]
    refine mF_congr _ _ P 0 (fun k hk => ?_)
    rw [st_bt (by omega) c (by omega), decide_eq_true hk, Bool.true_and]
  rw [e]
  unfold cnS
  refine mF_rel (fun _ (n : Nat) (w : Int32) => nI n = w) _ _ P 0 0 rfl (fun k n w _ h => ?_)
  cases c k with
  | false => exact h
  | true => rw [← h]; exact (nI_1 n).symm
theorem r_mild (d : Nat) (hl : lvOK l) {m : Nat} (a : rA τ l (vS l) m) {p y : Nat} (hp : p < lP l) (hy : y < lY l) : Xx (d + 1) n_M_mild 25 [.ref 200, .int (nI p), .int (nI y), .int (0), .int (0)] [] τ = some (.int (cnS (lP l) (fun k => !(decide (k = p)) && decide (fL l y k p = 0)) 0), τ) := by
  have h1 := lvP hl
  have h2 := lvY hl
  have h3 := lvQ hl
  have hs := mFor (fun k (w : Int32) => Xx (d + 1) n_M_mild 25 [.ref 200, .int (nI p), .int (nI y), .int (w), .int (nI (k))] [] τ) (fun k w => bif (!(decide (k = p)) && decide (fL l y k p = 0)) then w + 1 else w) (lP l) (0) (by
    intro k hk
    generalize mF _ k _ = w
    rw [q_M_mild_25, r_persons, mBI_s, lM_P a.1.1, dle (by omega) (by omega), dF _ (by omega), cF, deq (by omega) (by omega), r_fe _ hl a hk hp hy, mBI_s, nI_1, add_0]
    by_cases h : k = p
    · rw [dT _ h]; rfl
    · rw [dF _ h]
      by_cases h2 : fL l y k p = 0
      · rw [dF _ (fun q => q h2), dT _ h2]; rfl
      · rw [dT _ h2, dF _ h2]; rfl)
  exact hs.trans (by rw [q_M_mild_25, r_persons, mBI_s, lM_P a.1.1, dle (by omega) (by omega), dT _ (by omega), cT] <;> rfl)
/-- who has no enemies, and most friends -/
def enS (l : Lv) (y p : Nat) : Int32 := stS (lP l) (fun k => !(decide (k = p)) && decide (fL l y k p < 0))
def frS (l : Lv) (y p : Nat) : Int32 := stS (lP l) (fun k => !(decide (k = p)) && decide (0 < fL l y k p))
def poS (l : Lv) (y k : Nat) (b : Option Nat) : Option Nat := if enS l y k = 0 ∧ (∀ j, b = some j → nb (frS l y j) < nb (frS l y k)) then some k else b
theorem k_fr (d : Nat) (t : tL σ l) {p y : Nat} (hp : p < lP l) (hy : y < lY l) : Cc (d + 2) n_Co_towards [.ref 20, .int (nI p), .int (nI y), .int 1, .null, .null] σ = some (.int (frS l y p), σ) := by
  rw [k_towards d t hp hy]
  simp only [sg_p1]
  rfl
theorem k_en (d : Nat) (t : tL σ l) {p y : Nat} (hp : p < lP l) (hy : y < lY l) : Cc (d + 2) n_Co_towards [.ref 20, .int (nI p), .int (nI y), .int (-1), .null, .null] σ = some (.int (enS l y p), σ) := by
  rw [k_towards d t hp hy]
  simp only [sg_m1]
  rfl
theorem nb_lt {s : Int32} (h : bw 0 s 63) : nb s < 2 ^ 31 := by have := nb_le s h; omega
theorem frS_bw (hl : lvOK l) (y p : Nat) : bw 0 (frS l y p) 63 := st_bw (lvP hl) _
theorem k_porter (d : Nat) (t : tL σ l) {y : Nat} (hy : y < lY l) : Xx (d + 2) n_E_porter 18 [.ref 0, .int (nI y), .int (-1), .int (-1), .int 0, .null] [] σ = some (.int (oI (mF (poS l y) (lP l) none)), σ) := by
  have h1 := lvP t.1
  obtain ⟨v, hs⟩ := mForH (fun k (b : Option Nat) (v : Value) => Xx (d + 2) n_E_porter 18 [.ref 0, .int (nI y), .int (oI b), .int (oI (b.map fun j => nb (frS l y j))), .int (nI k), v] [] σ) (poS l y) (lP l) none .null (by
    intro k v hk
    generalize mF _ k (none : Option Nat) = b
    have hf := nb_lt (frS_bw t.1 y k)
    refine ⟨.int (nI (nb (frS l y k))), ?_⟩
    rw [q_E_porter_18, tP t, dle (by omega) (by omega), dF _ (by omega), cF, k_fr _ t hk hy, mBI_s, k_bitCount _ _ (frS_bw t.1 y k), mBI_s, k_en _ t hk hy, mBI_s, nI_1]
    unfold poS
    by_cases h : enS l y k = 0
    · rw [dF _ (fun q => q h), cF]
      cases b with
      | none =>
        rw [if_pos ⟨h, fun j e => by cases e⟩, show oI (Option.map (fun j => nb (frS l y j)) none) = -1 from rfl, dF _ (fun q => by
          have := i_le.mp q
          rw [nI_toInt hf, show (-1 : Int32).toInt = -1 by decide] at this
          omega), cF]
        rfl
      | some j =>
        have hj := nb_lt (frS_bw t.1 y j)
        show (bif decide (nI (nb (frS l y k)) ≤ nI (nb (frS l y j))) then _ else _) = _
        rw [dle hf hj]
        by_cases h2 : nb (frS l y k) ≤ nb (frS l y j)
        · rw [dT _ h2, cT, if_neg (fun q => by have := q.2 j rfl; omega)]
        · rw [dF _ h2, cF, if_pos ⟨h, fun j' e => by cases e; omega⟩]
          rfl
    · rw [dT _ h, cT, if_neg (fun q => h q.1)])
  exact hs.trans (by rw [q_E_porter_18, tP t, dT _ (Int32.le_refl _), cT] <;> rfl)
theorem poS_lt (y n : Nat) : ∀ j, mF (poS l y) n none = some j → j < n := by
  intro j hj
  exact mF_inv (fun k (b : Option Nat) => ∀ j, b = some j → j < k) (poS l y) n none (fun j h => by cases h) (fun k b _ hb j hj => by
    unfold poS at hj
    split at hj
    · cases hj; exact Nat.lt_succ_self _
    · have := hb j hj; omega) n (Nat.le_refl n) j hj
theorem r_porter (d : Nat) (hl : lvOK l) {m : Nat} (a : rA τ l (vS l) m) {y : Nat} (hy : y < lY l) : Xx (d + 2) n_M_porter 15 [.ref 200, .int (nI y), .int (-1), .int 0] [] τ = some (.int (oI (mF (poS l y) (lP l) none)), τ) := by
  have h1 := lvP hl
  have hs := mFor (fun k (b : Option Nat) => Xx (d + 2) n_M_porter 15 [.ref 200, .int (nI y), .int (oI b), .int (nI k)] [] τ) (poS l y) (lP l) none (by
    intro k hk
    have hb := poS_lt (l := l) y k
    generalize mF _ k (none : Option Nat) = b at hb
    have hf := nb_lt (frS_bw hl y k)
    rw [q_M_porter_15, r_persons, mBI_s, lM_P a.1.1, dle (by omega) (by omega), dF _ (by omega), cF, r_enemiesOf _ hl a hk hy, mBI_s, nI_1, r_friendsOf _ hl a hk hy, mBI_s, r_bits, mBI_s]
    show (bif decide (¬ enS l y k = 0) then _ else (bif decide (oI b = -1) then _ else mBI _ (fun r10 τ9 => mBI _ (fun r12 τ11 => bif decide (nI (nb (frS l y k)) ≤ r12) then _ else _)))) = _
    unfold poS
    by_cases h : enS l y k = 0
    · rw [dF _ (fun q => q h), cF]
      cases b with
      | none =>
        rw [if_pos ⟨h, fun j e => by cases e⟩, oI_n, m1e, cT]
        rfl
      | some j =>
        have hj := hb j rfl
        have hfj := nb_lt (frS_bw hl y j)
        rw [oI_s, nI_m1e (by omega), cF, r_friendsOf _ hl a (by omega) hy, mBI_s, r_bits, mBI_s]
        show (bif decide (nI (nb (frS l y k)) ≤ nI (nb (frS l y j))) then _ else _) = _
        rw [dle hf hfj]
        by_cases h2 : nb (frS l y k) ≤ nb (frS l y j)
        · rw [dT _ h2, cT, if_neg (fun q => by have := q.2 j rfl; omega)]
          rfl
        · rw [dF _ h2, cF, if_pos ⟨h, fun j' e => by cases e; omega⟩]
          rfl
    · rw [dT _ h, cT, if_neg (fun q => h q.1)])
  exact hs.trans (by rw [q_M_porter_15, r_persons, mBI_s, lM_P a.1.1, dT _ (Int32.le_refl _), cT] <;> rfl)
/-! bitter -/
def anyF (n : Nat) (c : Nat → Bool) : Bool := mF (fun k b => b || c k) n false
theorem anyF_eq {n : Nat} {c c' : Nat → Bool} (h : ∀ k, k < n → c k = c' k) : anyF n c = anyF n c' := mF_congr _ _ n false (fun k hk => by rw [h k hk])
theorem or_bt (g : Nat → Int32) (n : Nat) (i : Nat) : bt (mF (fun k w => w ||| g k) n 0) i = anyF n (fun k => bt (g k) i) := by
  unfold anyF
  refine mF_rel (fun _ (w : Int32) (b : Bool) => bt w i = b) _ _ n 0 false (b_0 i) (fun k w b _ h => ?_)
  rw [b_or, h]
def biS (l : Lv) (y : Nat) : Int32 := stS (lP l) (fun k => anyF (lP l) (fun o => !(decide (o = k)) && decide (fL l y k o < 0)))
theorem k_bitter0 (d : Nat) (t : tL σ l) {y : Nat} (hy : y < lY l) : Xx (d + 2) n_E_bitter 15 [.ref 0, .int (nI y), .int (0), .int (0)] [] σ = some (.int (mF (fun k w => w ||| enS l y k) (lP l) 0), σ) := by
  have h1 := lvP t.1
  have h2 := lvY t.1
  have h3 := lvQ t.1
  have hs := mFor (fun k (w : Int32) => Xx (d + 2) n_E_bitter 15 [.ref 0, .int (nI y), .int (w), .int (nI (k))] [] σ) (fun k w => w ||| enS l y k) (lP l) (0) (by
    intro k hk
    generalize mF _ k _ = w
    rw [q_E_bitter_15, tP t, dle (by omega) (by omega), dF _ (by omega), cF, k_en _ t hk hy, mBI_s, nI_1]
)
  exact hs.trans (by rw [q_E_bitter_15, tP t, dle (by omega) (by omega), dT _ (by omega), cT] <;> rfl)
theorem bi_eq (hl : lvOK l) (y : Nat) : mF (fun k w => w ||| enS l y k) (lP l) 0 = biS l y := by
  have h1 := lvP hl
  apply b_ext
  intro i hi
  unfold biS
  rw [or_bt, st_bt (by omega) _ hi]
  by_cases h : i < lP l
  · rw [decide_eq_true h, Bool.true_and]
    refine anyF_eq (fun k hk => ?_)
    unfold enS
    rw [st_bt (by omega) _ hi, decide_eq_true h, Bool.true_and, show decide (i = k) = decide (k = i) from decide_eq_decide.mpr ⟨Eq.symm, Eq.symm⟩]
  · rw [decide_eq_false h, Bool.false_and]
    have : anyF (lP l) (fun k => bt (enS l y k) i) = anyF (lP l) (fun _ => false) := anyF_eq (fun k hk => by
      unfold enS
      rw [st_bt (by omega) _ hi, decide_eq_false h, Bool.false_and])
    rw [this]
    exact mF_inv (fun _ b => b = false) _ (lP l) false rfl (fun k b _ h => by rw [h]; rfl) (lP l) (Nat.le_refl _)
theorem or_or (w x : Int32) : (w ||| x) ||| x = w ||| x := by
  apply b_ext
  intro i _
  rw [b_or, b_or]
  cases bt w i <;> cases bt x i <;> rfl
theorem r_bitter (d : Nat) (hl : lvOK l) {m : Nat} (a : rA τ l (vS l) m) {y : Nat} (hy : y < lY l) : Xx (d + 1) n_M_bitter 15 [.ref 200, .int (nI y), .int 0, .int 0, .null] [] τ = some (.int (biS l y), τ) := by
  have h1 := lvP hl
  obtain ⟨v, hs⟩ := mForH (fun k (w : Int32) (v : Value) => Xx (d + 1) n_M_bitter 15 [.ref 200, .int (nI y), .int w, .int (nI k), v] [] τ) (fun k w => bif anyF (lP l) (fun o => !(decide (o = k)) && decide (fL l y k o < 0)) then w ||| (1 <<< (nI k &&& 31)) else w) (lP l) 0 .null (by
    intro k v hk
    generalize mF _ k (0 : Int32) = w
    refine ⟨.int (nI (lP l)), ?_⟩
    rw [q_M_bitter_15, r_persons, mBI_s, lM_P a.1.1, dle (by omega) (by omega), dF _ (by omega), cF]
    have hi := mFor (fun o (b : Bool) => Xx (d + 1) n_M_bitter 26 [.ref 200, .int (nI y), .int (bif b then w ||| (1 <<< (nI k &&& 31)) else w), .int (nI k), .int (nI o)] [] τ) (fun o b => b || (!(decide (o = k)) && decide (fL l y k o < 0))) (lP l) false (by
      intro o ho
      generalize mF _ o false = b
      rw [q_M_bitter_26, r_persons, mBI_s, lM_P a.1.1, dle (by omega) (by omega), dF _ (by omega), cF, deq (by omega) (by omega), r_fe _ hl a hk ho hy, mBI_s, nI_1, or_0]
      by_cases h : o = k
      · rw [dT _ h, cT]; cases b <;> rfl
      · rw [dF _ h, cF]
        by_cases h2 : fL l y k o < 0
        · rw [dF _ (Int32.not_le.mpr h2), dT _ h2]
          cases b with
          | false => rfl
          | true => rw [cF, cT, or_or]; rfl
        · rw [dT _ (Int32.not_lt.mp h2), dF _ h2]; cases b <;> rfl)
    refine Eq.trans hi ?_
    rw [q_M_bitter_26, r_persons, mBI_s, lM_P a.1.1, dT _ (Int32.le_refl _), cT, nI_1]
    rfl)
  exact hs.trans (by rw [q_M_bitter_15, r_persons, mBI_s, lM_P a.1.1, dT _ (Int32.le_refl _), cT] <;> rfl)
theorem k_bitter (d : Nat) (t : tL σ l) {y : Nat} (hy : y < lY l) : Xx (d + 2) n_E_bitter 15 [.ref 0, .int (nI y), .int 0, .int 0] [] σ = some (.int (biS l y), σ) := by
  rw [k_bitter0 d t hy, bi_eq t.1]
