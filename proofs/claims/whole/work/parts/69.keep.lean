/-! ===== a run of the small machine is a run of the machine ===== -/
def mKq (σ : mS) : mQ → Prop
  | none => True
  | some (.inl (_, τ)) => mKeep σ τ
  | some (.inr (.inl (_, _, _, τ))) => mKeep σ τ
  | some (.inr (.inr (_, _, _, τ, _, _, _))) => mKeep σ τ
def mKo (σ : mS) (o : mO) : Prop := mKq σ o.2.1 ∧ mKq σ o.2.2
theorem mKo_F (σ : mS) : mKo σ oF := ⟨trivial, trivial⟩
theorem mKo_N {σ τ : mS} (h : mKeep σ τ) (pc : Nat) (L st : List Value) : mKo σ (oN pc L st τ) := ⟨h, trivial⟩
theorem mKo_C {σ τ : mS} (h : mKeep σ τ) (b : Bool) (pc : Nat) (L st : List Value) : mKo σ (oC b pc L st τ) := ⟨h, trivial⟩
theorem mKo_B {σ τ : mS} (h : mKeep σ τ) (b : Bool) (p q : Nat) (L st : List Value) : mKo σ (oB b p q L st τ) := ⟨h, h⟩
theorem mKo_R {σ τ : mS} (h : mKeep σ τ) (x : Value) : mKo σ (oR x τ) := ⟨h, trivial⟩
theorem mKo_Rc {σ τ : mS} (h : mKeep σ τ) (b : Bool) (x : Value) : mKo σ (oRc b x τ) := ⟨h, trivial⟩
theorem mKo_K {σ τ : mS} (h : mKeep σ τ) (b : Bool) (k m : Nat) (a : List Value) (pc : Nat) (L st : List Value) : mKo σ (oK b k m a τ pc L st) := ⟨h, trivial⟩
theorem mKo_cond {σ : mS} {b : Bool} {x y : mO} (hx : b = true → mKo σ x) (hy : mKo σ y) : mKo σ (bif b then x else y) := by
  cases b
  · exact hy
  · exact hx rfl
section MK
variable {v : mV} {L st : List Value} {σ : mS} {D : List Nat} {c : Value}
theorem mLib_keep (hW : mHW (vTT v) (vIds v)) (pc k : Nat) : mKo σ (mLib (vTT v) pc k L st σ) := by
  unfold mLib
  split
  · split
    · exact mKo_N (mKeep.rf σ) _ _ _
    · exact mKo_F σ
  · split
    · exact mKo_N (mKeep.rf σ) _ _ _
    · exact mKo_F σ
  · split
    · exact mKo_N (mKeep.rf σ) _ _ _
    · exact mKo_F σ
  · split
    · refine mKo_cond (fun hb => mKo_C ?_ _ _ _ _) (mKo_cond (fun hb => mKo_C (mKeep.cpJ _ _ _ _ _ _) _ _ _ _) (mKo_F σ))
      simp only [Bool.and_eq_true] at hb
      exact mKeep.cpI _ _ (mArr hW (beqT hb.2.1) (by omega) (by omega) (fun _ => Nat.blt_eq.mp hb.2.2.1)).2 _ _ _
    · exact mKo_F σ
  · split
    · exact mKo_cond (fun _ => mKo_N (mKeep.rf σ) _ _ _) (mKo_F σ)
    · exact mKo_F σ
  · split
    · exact mKo_cond (fun _ => mKo_C (mKeep.rf σ) _ _ _ _) (mKo_F σ)
    · exact mKo_F σ
  · exact mKo_F σ
theorem mInv_keep (hW : mHW (vTT v) (vIds v)) (pc : Nat) : mKo σ (mInv (vTT v) pc D L st σ) := by
  unfold mInv
  exact mKo_cond (fun _ => mKo_K (mKeep.rf σ) _ _ _ _ _ _ _) (mKo_cond (fun _ => mLib_keep hW _ _) (mKo_F σ))
set_option maxHeartbeats 4000000 in
theorem mStep_keep (hW : mHW (vTT v) (vIds v)) (pc : Nat) (i : Instr) (hci : ∀ n, i = .putfield n → mNth D 0 ≠ 0) : mKo σ (mStep (vTT v) pc i D c L st σ) := by
  cases i with
  | putfield n =>
    simp only [mStep]
    split
    · refine mKo_cond (fun hb => mKo_N ?_ _ _ _) (mKo_F σ)
      rw [Bool.and_eq_true] at hb
      exact mKeep.upI _ (hW.1 _ (by rw [beqT hb.1]; exact hci n rfl)).2.2 _ _
    · exact mKo_cond (fun hb => mKo_N (mKeep.upJ _ _ _ _) _ _ _) (mKo_F σ)
    · exact mKo_F σ
  | iastore =>
    simp only [mStep]
    split
    · refine mKo_cond (fun hb => mKo_C ?_ _ _ _ _) (mKo_F σ)
      rw [Bool.and_eq_true] at hb
      exact mKeep.upI _ (mArr hW (beqT hb.1) (by omega) (by omega) (fun _ => Nat.blt_eq.mp hb.2)).2 _ _
    · exact mKo_F σ
  | bastore =>
    simp only [mStep]
    split
    · refine mKo_cond (fun hb => mKo_C (mKeep.upI _ (mArr hW (beqT hb) (by omega) (by omega) (fun q => by omega)).2 _ _) _ _ _ _) (mKo_cond (fun hb => mKo_C (mKeep.upI _ (mArr hW (beqT hb) (by omega) (by omega) (fun q => by omega)).2 _ _) _ _ _ _) (mKo_F σ))
    · exact mKo_F σ
  | lastore =>
    simp only [mStep]
    split
    · exact mKo_cond (fun hb => mKo_C (mKeep.upJ _ _ _ _) _ _ _ _) (mKo_F σ)
    · exact mKo_F σ
  | invokevirtual n => exact mInv_keep hW pc
  | invokespecial n => exact mInv_keep hW pc
  | invokestatic n => exact mInv_keep hW pc
  | getfield n =>
    simp only [mStep]
    split
    · refine mKo_cond (fun _ => ?_) (mKo_F σ)
      split <;> exact mKo_N (mKeep.rf σ) _ _ _
    · exact mKo_F σ
  | arraylength =>
    simp only [mStep]
    split
    · rename_i a r'
      cases (Nat.beq ((vTT v).2.2.1 a) 0 || Nat.beq ((vTT v).2.2.1 a) 6)
      · exact mKo_N (mKeep.rf σ) _ _ _
      · exact mKo_F σ
    · exact mKo_F σ
  | ireturn =>
    simp only [mStep]
    split
    · exact mKo_cond (fun _ => mKo_R (mKeep.rf σ) _) (mKo_Rc (mKeep.rf σ) _ _)
    · exact mKo_F σ
  | iaload =>
    simp only [mStep]
    split
    · exact mKo_cond (fun _ => mKo_C (mKeep.rf σ) _ _ _ _) (mKo_F σ)
    · exact mKo_F σ
  | baload =>
    simp only [mStep]
    split
    · exact mKo_cond (fun _ => mKo_C (mKeep.rf σ) _ _ _ _) (mKo_F σ)
    · exact mKo_F σ
  | laload =>
    simp only [mStep]
    split
    · exact mKo_cond (fun _ => mKo_C (mKeep.rf σ) _ _ _ _) (mKo_F σ)
    · exact mKo_F σ
  | aaload =>
    simp only [mStep]
    split
    · exact mKo_cond (fun _ => mKo_C (mKeep.rf σ) _ _ _ _) (mKo_F σ)
    · exact mKo_F σ
  | iinc n x =>
    simp only [mStep]
    split
    · split
      · exact mKo_N (mKeep.rf σ) _ _ _
      · exact mKo_F σ
    · exact mKo_F σ
  | _ =>
    simp only [mStep]
    first
      | exact mKo_F σ
      | exact mKo_N (mKeep.rf σ) _ _ _
      | exact mKo_R (mKeep.rf σ) _
      | (split <;> first | exact mKo_F σ | exact mKo_N (mKeep.rf σ) _ _ _ | exact mKo_C (mKeep.rf σ) _ _ _ _ | exact mKo_B (mKeep.rf σ) _ _ _ _ _ | exact mKo_R (mKeep.rf σ) _)
theorem mOut_keep {call : Nat → List Value → mS → mR} {K : mK} {r : Value × mS} {o : mO} (ho : mKo σ o) (hc : ∀ m a τ q, call m a τ = some q → mKeep τ q.2) (hK : ∀ p L s τ, K p L s τ = some r → mKeep τ r.2) (h : mOut call K o = some r) : mKeep σ r.2 := by
  have key : ∀ q : mQ, mKq σ q → mOut1 call K q = some r → mKeep σ r.2 := by
    intro q hq h
    match q, hq, h with
    | some (.inl (x, τ)), hq, h =>
      have h : some (x, τ) = some r := h
      cases h
      exact hq
    | some (.inr (.inl (pc, L, st, τ))), hq, h => exact hq.tr (hK _ _ _ _ h)
    | some (.inr (.inr (k, m, a, τ, pc, L, st))), hq, h =>
      have := mOutK (b := true) (k := k) (σ := τ) (call := call) (K := K) (m' := m) (a := a) (pc' := pc) (L' := L) (rest := st) (r := r) (by
        show mOut1 call K _ = some r
        exact h)
      rcases this.2 with ⟨-, τ', e1, e2⟩ | ⟨-, x, τ', e1, e2⟩ | ⟨-, x, τ', e1, e2⟩
      · exact hq.tr ((hc _ _ _ _ e1).tr (hK _ _ _ _ e2))
      · exact hq.tr ((hc _ _ _ _ e1).tr (hK _ _ _ _ e2))
      · exact hq.tr ((hc _ _ _ _ e1).tr (hK _ _ _ _ e2))
  obtain ⟨b, x, y⟩ := o
  cases b
  · exact key y ho.2 h
  · exact key x ho.1 h
end MK
