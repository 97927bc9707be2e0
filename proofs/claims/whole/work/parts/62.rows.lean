/-! ===== the world that the small machine's state stands for; a row an instruction ===== -/
def mFs (w : mT) (ft : Nat → Nat → Nat) (nf : Nat → Nat) (adr : Nat → Nat) (σ : mS) (i : Nat) : List Value := (List.range (nf (w.1 i))).map (fun k => match ft (w.1 i) k with | 0 => .int (σ.1 i k) | 1 => .long (σ.2 i k) | _ => .ref (adr (w.2.1 i k)))
def mEl (w : mT) (ft : Nat → Nat → Nat) (nf : Nat → Nat) (cA : Nat → ClassId) (adr : Nat → Nat) (σ : mS) (i : Nat) : va_E := match w.2.2.1 i with
  | 0 => .inr (w.1 i - 1, mFs w ft nf adr σ i)
  | 1 => .inl (cA 1, (w.2.2.2 σ i, .inl (σ.1 i)))
  | 2 => .inl (cA 2, (w.2.2.2 σ i, .inl (σ.1 i)))
  | 3 => .inl (cA 3, (w.2.2.2 σ i, .inl (σ.1 i)))
  | 4 => .inl (cA 4, (w.2.2.2 σ i, .inr (.inl (σ.2 i))))
  | _ => .inl (cA (if i = 17 then 5 else 6), (w.2.2.2 σ i, .inr (.inr (.inr (.inr (fun j => some (adr (w.2.1 i j))))))))
def mWl (w : mT) (ft : Nat → Nat → Nat) (nf : Nat → Nat) (ids : List Nat) (cA : Nat → ClassId) (adr : Nat → Nat) (σ : mS) : va_W := ids.map (fun i => (adr i, mEl w ft nf cA adr σ i))
/-- what the tables of the shape must be -/
def mHW (w : mT) (ids : List Nat) : Prop :=
  (∀ i, w.1 i ≠ 0 → i ∈ ids ∧ w.2.2.1 i = 0 ∧ i < 299) ∧ (∀ a, w.2.2.1 a ≠ 0 → w.2.2.1 a ≤ 5 → a < 300 → a ∈ ids ∧ a < 299) ∧ (∀ a, w.2.2.1 a ≠ 0 → ¬ a < 300 → w.2.2.1 a = 6 ∨ (w.2.2.1 a = 1 ∧ (a = 300 ∨ a = 301))) ∧
  (∀ a b i : Nat, ids[a]? = some i → ids[b]? = some i → a = b) ∧ (∀ (σ τ : mS) (a : Nat), σ.1 299 = τ.1 299 → w.2.2.2 σ a = w.2.2.2 τ a) ∧ (∀ σ : mS, w.2.2.2 σ 300 = (σ.1 299 0).toNatClampNeg) ∧ (∀ σ : mS, w.2.2.2 σ 301 = 6) ∧ (∀ a, w.2.2.1 a ≤ 6) ∧ True
def mTy (cA : Nat → ClassId) : List (ClassId × FieldType) := [(cA 0, .int), (cA 1, .int), (cA 2, .byte), (cA 3, .boolean), (cA 4, .long), (cA 5, .object "EnemyLetters$Land"), (cA 6, .array .long)]
def mAd (ids : List Nat) (adr : Nat → Nat) : Nat → Prop := fun q => ∃ i ∈ ids, adr i = q
section MW
variable {w : mT} {ft : Nat → Nat → Nat} {nf : Nat → Nat} {ids : List Nat} {cA : Nat → ClassId} {adr : Nat → Nat}
theorem mWl_at (σ : mS) {q i : Nat} (h : ids[q]? = some i) : (mWl w ft nf ids cA adr σ)[q]? = some (adr i, mEl w ft nf cA adr σ i) := by
  unfold mWl
  rw [List.getElem?_map, h]
  rfl
theorem mWl_set (hW : mHW w ids) {σ τ : mS} {q i : Nat} (h : ids[q]? = some i) (he : ∀ j ∈ ids, j ≠ i → mEl w ft nf cA adr τ j = mEl w ft nf cA adr σ j) : mWl w ft nf ids cA adr τ = (mWl w ft nf ids cA adr σ).set q (adr i, mEl w ft nf cA adr τ i) := by
  apply List.ext_getElem?
  intro k
  by_cases hk : k = q
  · subst hk
    have hl : k < (mWl w ft nf ids cA adr σ).length := by unfold mWl; rw [List.length_map]; exact (List.getElem?_eq_some_iff.mp h).1
    rw [List.getElem?_set_self hl]
    exact mWl_at τ h
  · rw [List.getElem?_set_ne (Ne.symm hk)]
    unfold mWl
    rw [List.getElem?_map, List.getElem?_map]
    cases hj : ids[k]? with
    | none => rfl
    | some j =>
      have hne : j ≠ i := fun e => hk (hW.2.2.2.1 k q i (by rw [hj, e]) h)
      exact congrArg (fun e => some (adr j, e)) (he j (List.mem_of_getElem? hj) hne)
theorem mEl_upI (hW : mHW w ids) (σ : mS) {o : Nat} (ho : o ≠ 299) (k : Nat) (v : Int32) (j : Nat) (hj : j ≠ o) : mEl w ft nf cA adr (mUpI σ o k v) j = mEl w ft nf cA adr σ j := by
  have h1 : (mUpI σ o k v).1 j = σ.1 j := by simp [mUpI, hj]
  have h2 : (mUpI σ o k v).2 j = σ.2 j := rfl
  have h3 : w.2.2.2 (mUpI σ o k v) j = w.2.2.2 σ j := hW.2.2.2.2.1 _ _ _ (by simp [mUpI, Ne.symm ho])
  unfold mEl mFs
  rw [h1, h2, h3]
theorem mEl_upJ (hW : mHW w ids) (σ : mS) (o k : Nat) (v : Int64) (j : Nat) (hj : j ≠ o) : mEl w ft nf cA adr (mUpJ σ o k v) j = mEl w ft nf cA adr σ j := by
  have h1 : (mUpJ σ o k v).1 j = σ.1 j := rfl
  have h2 : (mUpJ σ o k v).2 j = σ.2 j := by simp [mUpJ, hj]
  have h3 : w.2.2.2 (mUpJ σ o k v) j = w.2.2.2 σ j := hW.2.2.2.2.1 _ _ _ rfl
  unfold mEl mFs
  rw [h1, h2, h3]
theorem mEl_cpI (hW : mHW w ids) (σ : mS) (a : Nat) {b : Nat} (hb : b ≠ 299) (sp dp n j : Nat) (hj : j ≠ b) : mEl w ft nf cA adr (mCpI σ a b sp dp n) j = mEl w ft nf cA adr σ j := by
  have h1 : (mCpI σ a b sp dp n).1 j = σ.1 j := by simp [mCpI, hj]
  have h2 : (mCpI σ a b sp dp n).2 j = σ.2 j := rfl
  have h3 : w.2.2.2 (mCpI σ a b sp dp n) j = w.2.2.2 σ j := hW.2.2.2.2.1 _ _ _ (by simp [mCpI, Ne.symm hb])
  unfold mEl mFs
  rw [h1, h2, h3]
theorem mEl_cpJ (hW : mHW w ids) (σ : mS) (a b sp dp n j : Nat) (hj : j ≠ b) : mEl w ft nf cA adr (mCpJ σ a b sp dp n) j = mEl w ft nf cA adr σ j := by
  have h1 : (mCpJ σ a b sp dp n).1 j = σ.1 j := rfl
  have h2 : (mCpJ σ a b sp dp n).2 j = σ.2 j := by simp [mCpJ, hj]
  have h3 : w.2.2.2 (mCpJ σ a b sp dp n) j = w.2.2.2 σ j := hW.2.2.2.2.1 _ _ _ rfl
  unfold mEl mFs
  rw [h1, h2, h3]
theorem mEl_obj {σ : mS} {i : Nat} (h : w.2.2.1 i = 0) : mEl w ft nf cA adr σ i = .inr (w.1 i - 1, mFs w ft nf adr σ i) := by simp only [mEl, h]
theorem mEl_1 {σ : mS} {i : Nat} (h : w.2.2.1 i = 1) : mEl w ft nf cA adr σ i = .inl (cA 1, (w.2.2.2 σ i, .inl (σ.1 i))) := by simp only [mEl, h]
theorem mEl_2 {σ : mS} {i : Nat} (h : w.2.2.1 i = 2) : mEl w ft nf cA adr σ i = .inl (cA 2, (w.2.2.2 σ i, .inl (σ.1 i))) := by simp only [mEl, h]
theorem mEl_3 {σ : mS} {i : Nat} (h : w.2.2.1 i = 3) : mEl w ft nf cA adr σ i = .inl (cA 3, (w.2.2.2 σ i, .inl (σ.1 i))) := by simp only [mEl, h]
theorem mEl_4 {σ : mS} {i : Nat} (h : w.2.2.1 i = 4) : mEl w ft nf cA adr σ i = .inl (cA 4, (w.2.2.2 σ i, .inr (.inl (σ.2 i)))) := by simp only [mEl, h]
theorem mEl_5 {σ : mS} {i : Nat} (h : w.2.2.1 i = 5) : mEl w ft nf cA adr σ i = .inl (cA (if i = 17 then 5 else 6), (w.2.2.2 σ i, .inr (.inr (.inr (.inr (fun j => some (adr (w.2.1 i j)))))))) := by simp only [mEl, h]
theorem mFs_len (σ : mS) (i : Nat) : (mFs w ft nf adr σ i).length = nf (w.1 i) := by unfold mFs; rw [List.length_map, List.length_range]
theorem mFs_at (σ : mS) (i k : Nat) (hk : k < nf (w.1 i)) : (mFs w ft nf adr σ i)[k]? = some (match ft (w.1 i) k with | 0 => .int (σ.1 i k) | 1 => .long (σ.2 i k) | _ => .ref (adr (w.2.1 i k))) := by
  unfold mFs
  rw [List.getElem?_map, List.getElem?_range hk]
  rfl
theorem mFs_upI (σ : mS) (i k : Nat) (v : Int32) (hk : k < nf (w.1 i)) (h : ft (w.1 i) k = 0) : mFs w ft nf adr (mUpI σ i k v) i = (mFs w ft nf adr σ i).set k (.int v) := by
  apply List.ext_getElem?
  intro j
  by_cases hj : j < nf (w.1 i)
  · rw [mFs_at _ _ _ hj]
    by_cases e : j = k
    · subst e
      rw [List.getElem?_set_self (by rw [mFs_len]; exact hk), h]
      simp [mUpI]
    · rw [List.getElem?_set_ne (Ne.symm e), mFs_at _ _ _ hj]
      simp [mUpI, e]
  · rw [List.getElem?_eq_none (by rw [mFs_len]; omega), List.getElem?_eq_none (by rw [List.length_set, mFs_len]; omega)]
theorem mFs_upJ (σ : mS) (i k : Nat) (v : Int64) (hk : k < nf (w.1 i)) (h : ft (w.1 i) k = 1) : mFs w ft nf adr (mUpJ σ i k v) i = (mFs w ft nf adr σ i).set k (.long v) := by
  apply List.ext_getElem?
  intro j
  by_cases hj : j < nf (w.1 i)
  · rw [mFs_at _ _ _ hj]
    by_cases e : j = k
    · subst e
      rw [List.getElem?_set_self (by rw [mFs_len]; exact hk), h]
      simp [mUpJ]
    · rw [List.getElem?_set_ne (Ne.symm e), mFs_at _ _ _ hj]
      simp [mUpJ, e]
  · rw [List.getElem?_eq_none (by rw [mFs_len]; omega), List.getElem?_eq_none (by rw [List.length_set, mFs_len]; omega)]
theorem mWl_D {A : Nat → Prop} {σ : mS} (τ : mS) (h : va_D A (mWl w ft nf ids cA adr σ)) : va_D A (mWl w ft nf ids cA adr τ) := by
  have key : ∀ (k : Nat) (q : Nat × va_E), (mWl w ft nf ids cA adr τ)[k]? = some q → ∃ q0, (mWl w ft nf ids cA adr σ)[k]? = some q0 ∧ q0.1 = q.1 := by
    intro k q hk
    unfold mWl at hk
    rw [List.getElem?_map] at hk
    cases hj : ids[k]? with
    | none => rw [hj] at hk; cases hk
    | some j =>
      rw [hj] at hk
      cases hk
      exact ⟨_, mWl_at σ hj, rfl⟩
  refine ⟨fun i j x y hi hj hxy => ?_, fun k q hk => ?_⟩
  · obtain ⟨x0, h1, h2⟩ := key i x hi
    obtain ⟨y0, h3, h4⟩ := key j y hj
    exact h.1 i j x0 y0 h1 h3 (h2.trans (hxy.trans h4.symm))
  · obtain ⟨q0, h1, h2⟩ := key k q hk
    rw [← h2]
    exact h.2 k q0 h1
end MW
