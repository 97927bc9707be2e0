set_option maxHeartbeats 8000000 in
theorem r_word47 (d : Nat) {p q y P : Nat} (hp : p < 6) (hq : q < 5) (hy : y < 12) (hP6 : P ≤ 6) (s a : Int32) (ha : nb a ≤ 6) : ∀ (n i : Nat) (_ : n + i = nb a) (w : Int32) (v7 v8 : Value) (σ : mS) (_ : σ.1 200 27 = w) (_ : σ.1 201 3 = nI P) (_ : σ.1 201 (83 + 2 * q) = nI y), ∃ u, Xx (d + 2) n_M_wordOf 47 [.ref 200, .int (nI p), .int (nI q), .int s, .int a, .int (hbS P (fun k => σ.1 223 (36 * y + (6 * k + p))) (bt w)), .int (nI i), v7, v8] [] σ = some (.int (match wrS P (fun k => σ.1 223 (36 * y + (6 * k + p))) (fun k => !(decide (k = p)) && bt s k) n w with | none => -1 | some w' => hbS P (fun k => σ.1 223 (36 * y + (6 * k + p))) (bt w')), pN σ u) ∧ ∀ w', wrS P (fun k => σ.1 223 (36 * y + (6 * k + p))) (fun k => !(decide (k = p)) && bt s k) n w = some w' → u = w' := by
  intro n
  induction n with
  | zero =>
    intro i hi w v7 v8 σ h27 hP hye
    refine ⟨w, ?_, fun w' h => by cases h; rfl⟩
    rw [q_M_wordOf_47, r_bits, mBI_s, dle (by omega) (by omega), dT _ (by omega), cT, ← h27, pN_self]
    rfl
  | succ n ih =>
    intro i hi w v7 v8 σ h27 hP hye
    rw [q_M_wordOf_47, r_bits, mBI_s, dle (by omega) (by omega), dF _ (by omega), cF, r_word63 d hp hq hy hP6 s w _ _ _ σ h27 hP hye, q_M_wordOf_63, r_persons, mBI_s, hP, dle (by omega) (by omega), dT _ (Nat.le_refl _), cT]
    unfold wrS
    cases hb : pkF P (fun k => σ.1 223 (36 * y + (6 * k + p))) (fun k => !(decide (k = p)) && bt s k && !(bt w k)) with
    | none =>
      refine ⟨w, ?_, fun w' h => by cases h⟩
      rw [show decide (¬ oI none = -1) = false by decide, cF, ← h27, pN_self]
    | some k =>
      obtain ⟨hk, hk2, hk3⟩ := pkF_lt hb
      simp only [Bool.and_eq_true, Bool.not_eq_true'] at hk2
      obtain ⟨u, e, hu⟩ := ih (i + 1) (by omega) (w ||| ((1 : Int32) <<< (nI k &&& 31))) (.int (nI k)) (.int (nI P)) (pN σ (w ||| ((1 : Int32) <<< (nI k &&& 31)))) (pN_27 _ _) (by rw [pN_ne _ _ (by decide)]; exact hP) (by rw [pN_ne _ _ (by decide)]; exact hye)
      simp only [pN_ne _ _ (show 223 ≠ 200 by decide)] at e hu
      refine ⟨u, ?_, hu⟩
      rw [show oI (some k) = nI k from rfl, dT _ (nI_nm1 (by omega)), cT, h27]
      show mBI (Cc (d + 2) n_M_yearOf _ (pN σ _)) _ = _
      rw [r_yearOf (d + 1) hq, mBI_s, pN_ne _ _ (by decide), hye, r_feeling (d + 1) (by omega) hp hy, mBI_s, pN_ne _ _ (by decide), nI_1]
      rw [hbS_add (f := fun k => σ.1 223 (36 * y + (6 * k + p))) hP6 hk hk3 hk2.2, pN_pN] at e
      exact e
