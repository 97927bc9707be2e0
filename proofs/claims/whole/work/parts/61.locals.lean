/-! ===== the small machine's locals and stack beside the machine's ===== -/
def rv (adr : Nat → Nat) : Value → Value
  | .ref o => .ref (adr o)
  | v => v
theorem rv_cat (adr : Nat → Nat) (v : Value) : (rv adr v).category = v.category := by cases v <;> rfl
theorem mGet_lt : ∀ {L : List Value} {k : Nat}, mGet L k ≠ .null → k < L.length
  | [], _, h => absurd rfl h
  | _ :: _, 0, _ => Nat.succ_pos _
  | _ :: l, k + 1, h => Nat.succ_lt_succ (mGet_lt (L := l) h)
theorem mSet_len : ∀ (L : List Value) (i : Nat) (v : Value), (mSet L i v).length = L.length
  | [], _, _ => rfl
  | _ :: _, 0, _ => rfl
  | _ :: l, i + 1, v => congrArg (· + 1) (mSet_len l i v)
theorem mKill_len : ∀ (L : List Value) (i : Nat), (mKill L i).length = L.length
  | [], _ => rfl
  | _ :: _, 0 => rfl
  | _ :: _, 1 => rfl
  | _ :: l, i + 2 => congrArg (· + 1) (mKill_len l (i + 1))
theorem mSet_get : ∀ (L : List Value) (i : Nat) (v : Value) (k : Nat), k ≠ i → mGet (mSet L i v) k = mGet L k
  | [], _, _, _, _ => rfl
  | _ :: _, 0, _, 0, h => absurd rfl h
  | _ :: _, 0, _, _ + 1, _ => rfl
  | _ :: _, _ + 1, _, 0, _ => rfl
  | _ :: l, i + 1, v, k + 1, h => mSet_get l i v k (fun e => h (congrArg (· + 1) e))
theorem mSet_self : ∀ (L : List Value) (i : Nat) (v : Value), i < L.length → mGet (mSet L i v) i = v
  | [], _, _, h => absurd h (Nat.not_lt_zero _)
  | _ :: _, 0, _, _ => rfl
  | _ :: l, i + 1, v, h => mSet_self l i v (Nat.lt_of_succ_lt_succ h)
theorem mSet_null : ∀ (L : List Value) (i : Nat), mGet (mSet L i .null) i = .null
  | [], _ => rfl
  | _ :: _, 0 => rfl
  | _ :: l, i + 1 => mSet_null l i
/-- what a kill leaves: it was there, and no long ends at the place -/
theorem mKill_get : ∀ (L : List Value) (i k : Nat), mGet (mKill L i) k ≠ .null → mGet (mKill L i) k = mGet L k ∧ ¬ (k + 1 = i ∧ (mGet L k).category = 2)
  | [], _, _, h => absurd rfl h
  | w :: l, 0, k, _ => ⟨rfl, fun h => by omega⟩
  | w :: l, 1, 0, h => by
    have h : mKl w ≠ .null := h
    show mKl w = w ∧ ¬ (0 + 1 = 1 ∧ w.category = 2)
    unfold mKl at h ⊢
    cases hb : Nat.beq w.category 2 with
    | true => rw [hb] at h; exact absurd rfl h
    | false => exact ⟨rfl, fun q => by rw [q.2] at hb; cases hb⟩
  | w :: l, 1, k + 1, _ => ⟨rfl, fun h => by omega⟩
  | w :: l, i + 2, 0, _ => ⟨rfl, fun h => by omega⟩
  | w :: l, i + 2, k + 1, h => by
    obtain ⟨a, b⟩ := mKill_get l (i + 1) k h
    exact ⟨a, fun q => b ⟨by omega, q.2⟩⟩
def mLv (adr : Nat → Nat) (L : List Value) : List (Nat × Value) := (List.range L.length).filterMap (fun k => if mGet L k = .null then none else some (k, rv adr (mGet L k)))
theorem mLv_mem {adr : Nat → Nat} {L : List Value} {q : Nat × Value} : q ∈ mLv adr L ↔ mGet L q.1 ≠ .null ∧ q.2 = rv adr (mGet L q.1) := by
  unfold mLv
  rw [List.mem_filterMap]
  constructor
  · rintro ⟨k, -, hk⟩
    split at hk
    · cases hk
    · rename_i h
      cases hk
      exact ⟨h, rfl⟩
  · rintro ⟨h1, h2⟩
    refine ⟨q.1, List.mem_range.mpr (mGet_lt h1), ?_⟩
    rw [if_neg h1, ← h2]
def mLr (adr : Nat → Nat) (ls : Array Slot) (L : List Value) : Prop := lv_has ls L.length (mLv adr L)
theorem mLr_at {adr : Nat → Nat} {ls : Array Slot} {L : List Value} (h : mLr adr ls L) {i : Nat} {v : Value} (hv : mGet L i = v) (hn : v ≠ .null) : ls[i]? = some (.val (rv adr v)) := by
  subst hv
  exact h.2.2 (i, rv adr (mGet L i)) (mLv_mem.mpr ⟨hn, rfl⟩)
theorem lv_more {ls : Array Slot} {n : Nat} {l l' : List (Nat × Value)} (h : lv_has ls n l) (hm : ∀ q ∈ l', q ∈ l) : lv_has ls n l' := ⟨h.1, h.2.1, fun q hq => h.2.2 q (hm q hq)⟩
theorem mLr_st1 {adr : Nat → Nat} {ls : Array Slot} {L : List Value} {i : Nat} {v : Value} (hi : i < L.length) (h : lv_has ls L.length ((i, rv adr v) :: (mLv adr L).filter (fun q => !(q.1 == i) && !(q.1 + 1 == i && q.2.category == 2)))) : mLr adr ls (mSt1 L i v) := by
  unfold mLr mSt1
  rw [mSet_len, mKill_len]
  refine lv_more h (fun q hq => ?_)
  obtain ⟨h1, h2⟩ := mLv_mem.mp hq
  by_cases hk : q.1 = i
  · rw [hk, mSet_self _ _ _ (by rw [mKill_len]; exact hi)] at h2
    obtain ⟨a, b⟩ := q
    subst hk
    subst h2
    exact List.mem_cons_self
  · rw [mSet_get _ _ _ _ hk] at h1 h2
    obtain ⟨g1, g2⟩ := mKill_get L i q.1 h1
    rw [g1] at h1 h2
    refine List.mem_cons_of_mem _ (List.mem_filter.mpr ⟨mLv_mem.mpr ⟨h1, h2⟩, ?_⟩)
    rw [h2, rv_cat]
    simp only [Bool.and_eq_true, Bool.not_eq_true', beq_eq_false_iff_ne, Bool.and_eq_false_iff, beq_eq_false_iff_ne, ne_eq]
    exact ⟨hk, by
      by_cases h3 : q.1 + 1 = i
      · exact Or.inr (fun h4 => g2 ⟨h3, h4⟩)
      · exact Or.inl h3⟩
theorem mLr_st2 {adr : Nat → Nat} {ls : Array Slot} {L : List Value} {i : Nat} {v : Value} (hi : i + 1 < L.length) (h : lv_has ls L.length ((i, rv adr v) :: (mLv adr L).filter (fun q => !(q.1 == i) && (!(q.1 == i + 1) && !(q.1 + 1 == i && q.2.category == 2))))) : mLr adr ls (mSt2 L i v) := by
  unfold mLr mSt2
  rw [mSet_len, mSet_len, mKill_len]
  refine lv_more h (fun q hq => ?_)
  obtain ⟨h1, h2⟩ := mLv_mem.mp hq
  have hk1 : q.1 ≠ i + 1 := fun e => h1 (by rw [e]; exact mSet_null _ _)
  rw [mSet_get _ _ _ _ hk1] at h1 h2
  by_cases hk : q.1 = i
  · rw [hk, mSet_self _ _ _ (by rw [mKill_len]; omega)] at h2
    obtain ⟨a, b⟩ := q
    subst hk
    subst h2
    exact List.mem_cons_self
  · rw [mSet_get _ _ _ _ hk] at h1 h2
    obtain ⟨g1, g2⟩ := mKill_get L i q.1 h1
    rw [g1] at h1 h2
    refine List.mem_cons_of_mem _ (List.mem_filter.mpr ⟨mLv_mem.mpr ⟨h1, h2⟩, ?_⟩)
    rw [h2, rv_cat]
    simp only [Bool.and_eq_true, Bool.not_eq_true', beq_eq_false_iff_ne, Bool.and_eq_false_iff, ne_eq]
    exact ⟨hk, hk1, by
      by_cases h3 : q.1 + 1 = i
      · exact Or.inr (fun h4 => g2 ⟨h3, h4⟩)
      · exact Or.inl h3⟩
theorem mLoc_len : ∀ (n : Nat) (a : List Value), (mLoc n a).length = n
  | 0, _ => by unfold mLoc; rfl
  | n + 1, [] => by unfold mLoc; exact congrArg (· + 1) (mLoc_len n [])
  | 1, _ :: _ => by unfold mLoc; rfl
  | n + 2, v :: a => by
    unfold mLoc
    cases Nat.beq v.category 2
    · exact congrArg (· + 1) (mLoc_len (n + 1) a)
    · exact congrArg (· + 2) (mLoc_len n a)
theorem mLoc_nil : ∀ (n k : Nat), mGet (mLoc n []) k = .null
  | 0, _ => by unfold mLoc; rfl
  | n + 1, 0 => by unfold mLoc; rfl
  | n + 1, k + 1 => by unfold mLoc; exact mLoc_nil n k
theorem mLoc_args (adr : Nat → Nat) : ∀ (a : List Value) (n b k : Nat), mCat a ≤ n → mGet (mLoc n a) k ≠ .null → (b + k, rv adr (mGet (mLoc n a) k)) ∈ lv_args b (a.map (rv adr))
  | [], n, b, k, _, h => absurd (mLoc_nil n k) h
  | v :: a, 0, b, k, hc, _ => by
    have := lv_cat v
    simp only [mCat] at hc
    omega
  | v :: a, 1, b, k, hc, h => by
    unfold mLoc at h ⊢
    cases k with
    | zero => exact List.mem_cons_self
    | succ k => exact absurd rfl h
  | v :: a, n + 2, b, k, hc, h => by
    simp only [mCat] at hc
    unfold mLoc at h ⊢
    cases hb : Nat.beq v.category 2 with
    | true =>
      have h2 : v.category = 2 := Nat.eq_of_beq_eq_true hb
      rw [hb] at h
      simp only [cond_true] at h ⊢
      match k, h with
      | 0, h => exact List.mem_cons_self
      | 1, h => exact absurd rfl h
      | k + 2, h =>
        have := mLoc_args adr a n (b + 2) k (by omega) h
        rw [List.map_cons, lv_args, rv_cat, if_pos h2]
        refine List.mem_cons_of_mem _ ?_
        rw [show b + (k + 2) = b + 2 + k by omega]
        exact this
    | false =>
      have h2 : ¬ v.category = 2 := fun e => by rw [e] at hb; cases hb
      have h3 := lv_cat v
      rw [hb] at h
      simp only [cond_false] at h ⊢
      match k, h with
      | 0, h => exact List.mem_cons_self
      | k + 1, h =>
        have := mLoc_args adr a (n + 1) (b + 1) k (by omega) h
        rw [List.map_cons, lv_args, rv_cat, if_neg h2]
        refine List.mem_cons_of_mem _ ?_
        rw [show b + (k + 1) = b + 1 + k by omega]
        exact this
theorem lg_sl_len (adr : Nat → Nat) : ∀ (a : List Value), (lg_sl (a.map (rv adr))).length = mCat a
  | [] => rfl
  | v :: a => by
    have h := lg_sl_len adr a
    have h3 := lv_cat v
    unfold lg_sl at h ⊢
    rw [List.map_cons, List.flatMap_cons, List.length_append, h, rv_cat]
    simp only [mCat]
    rcases h3 with h3 | h3
    · rw [if_neg (by omega), h3]; rfl
    · rw [if_pos h3, h3]; rfl
theorem mLr_entry {adr : Nat → Nat} {n : Nat} {a : List Value} (h : mCat a ≤ n) : mLr adr ((lg_sl (a.map (rv adr)) ++ List.replicate (n - (lg_sl (a.map (rv adr))).length) Slot.unset).toArray) (mLoc n a) := by
  unfold mLr
  rw [mLoc_len]
  refine lv_more (lv_entry (a.map (rv adr)) (n := n) (by rw [lg_sl_len]; exact h)) (fun q hq => ?_)
  obtain ⟨h1, h2⟩ := mLv_mem.mp hq
  obtain ⟨k, v⟩ := q
  have := mLoc_args adr a n 0 k h h1
  rw [Nat.zero_add] at this
  rw [show v = rv adr (mGet (mLoc n a) k) from h2]
  exact this
