/-! ===== rows of posts: all of them; best, ways, put ===== -/
variable {σ τ : mS} {l : Lv}
def reS (v : Option Nat) (row : Nat → Option Nat) (S : RS) : RS := match v with
  | none => S
  | some s => stl s row S
theorem rM2_c {row : Nat → Option Nat} {S S' : RS} (h : rM2 τ l row S) {x y : Int32} (hx : x = oI S'.1) (hy : y = S'.2.1) (hf : S'.2.2 = S.2.2) (hb : ∀ i, S'.1 = some i → i < 2 ^ 31) : rM2 (mUpI (mUpI τ 200 31 x) 200 32 y) l row S' := by
  obtain ⟨m1, m2, m3, m4, m5, m6, m7⟩ := h
  simp only [mUpI_sR, sR_sR, sR_at]
  refine ⟨?_, ?_, ?_, ?_, ?_, ?_, hb⟩
  · rw [sR_ne _ _ (by decide)]; exact m1
  · rw [sR_ne _ _ (by decide)]; exact m2
  · rw [sR_ne _ _ (by decide)]; exact m3
  · rw [sR_at, upd_ne _ _ (by decide), upd_at]; exact hx
  · rw [sR_at, upd_at]; exact hy
  · rw [sR_ne _ _ (by decide), hf]; exact m6
theorem sM_3132 (τ : mS) (x y : Int32) : sM τ (mUpI (mUpI τ 200 31 x) 200 32 y) := sM_t (sM_u _ (by omega) _) (sM_u _ (by omega) _)
theorem vMx_le {a b : Int32} (h : b ≤ a) : vMx a b = a := if_neg (Int32.not_lt.mpr h)
theorem vMx_lt {a b : Int32} (h : a < b) : vMx a b = b := if_pos h
theorem rwV_lt (hl : lvOK l) {row : Nat → Option Nat} (hr : ∀ q p, row q = some p → p < lP l) {s : Nat} (h : rwV l row = some s) : s < 2 ^ 31 := by
  unfold rwV at h
  cases he : rwO l row (lQ l) with
  | none => rw [he] at h; cases h
  | some x =>
    obtain ⟨a, b⟩ := x
    rw [he] at h
    cases h
    have := rwO_le hl hr _ _ _ he
    have := lvQ hl
    dsimp only
    omega
set_option maxHeartbeats 1000000 in
theorem r_row90 (d : Nat) (hl : lvOK l) {row : Nat → Option Nat} {S : RS} (h : rM2 τ l row S) (hr : ∀ q p, row q = some p → p < lP l) (hv : rwV l row = none → S.1.isSome = true) (w2 w3 : Value) : ∃ v2 v3 τ', Xx (d + 2) n_M_asksRows 90 [.ref 200, .int (bI true), w2, w3] [] τ = Xx (d + 2) n_M_asksRows 90 [.ref 200, .int (bI (nxP (lP l) (lQ l) row).1), v2, v3] [] τ' ∧ sM τ τ' ∧ rM2 τ' l (nxP (lP l) (lQ l) row).2 (reS (rwV l row) row S) := by
  have m4 := h.2.2.2.1
  have m5 := h.2.2.2.2.1
  have m6 := h.2.2.2.2.2.1
  have m7 := h.2.2.2.2.2.2
  -- behind the counting
  have fin : ∀ (S' : RS) (τ1 : mS) (x y : Int32) (v2 v3 : Value), sM τ τ1 → rM2 τ1 l row (S'.1, S'.2.1, S'.2.2) → ∃ w2 w3 τ', (mBI (Cc (d + 2) n_M_nextRow [.ref 200, .null] τ1) fun r4 τ3 => Xx (d + 2) n_M_asksRows 90 [.ref 200, .int r4, v2, v3] [] τ3) = Xx (d + 2) n_M_asksRows 90 [.ref 200, .int (bI (nxP (lP l) (lQ l) row).1), w2, w3] [] τ' ∧ sM τ τ' ∧ rM2 τ' l (nxP (lP l) (lQ l) row).2 S' := by
    intro S' τ1 x y v2 v3 s1 h1
    obtain ⟨τ', e, s, r⟩ := r_nextRow d hl h1 hr
    refine ⟨v2, v3, τ', ?_, sM_t s1 s, r⟩
    rw [e, mBI_s]
  rw [q_M_asksRows_90, show decide (bI true = 0) = false by decide, cF, r_rowWorth _ hl h hr, mBI_s, m4, show ∀ x, (mUpI τ 200 31 x).1 200 31 = x from fun x => rfl, show ∀ x, (mUpI τ 200 31 x).1 200 32 = τ.1 200 32 from fun x => rfl, m5, add_0]
  cases hv2 : rwV l row with
  | none =>
    have hs := hv hv2
    cases hm : S.1 with
    | none => rw [hm] at hs; cases hs
    | some m =>
      have hm7 := m7 m hm
      rw [oI_s, oI_n, dT (p := (-1 : Int32) ≤ nI m) _ (by rw [i_le, nI_toInt hm7, show (-1 : Int32).toInt = -1 by decide]; omega), cT, vMx_le (by rw [i_le, nI_toInt hm7, show (-1 : Int32).toInt = -1 by decide]; omega), dT _ (fun e => nI_nm1 hm7 e.symm), cT]
      exact fin S _ 0 0 _ _ (sM_3132 _ _ _) (rM2_c h (by rw [hm]; rfl) rfl rfl m7)
  | some s =>
    have hs := rwV_lt hl hr hv2
    show ∃ v2 v3 τ', (bif decide (nI s ≤ oI S.1) then _ else _) = _ ∧ _ ∧ rM2 τ' l _ (stl s row S)
    unfold stl
    cases hb : stB S.1 s with
    | false =>
      cases hm : S.1 with
      | none => rw [hm] at hb; cases hb
      | some m =>
        have hm7 := m7 m hm
        rw [hm] at hb
        have hle : s ≤ m := Nat.not_lt.mp (of_decide_eq_false hb)
        rw [oI_s, oI_s, dle hs hm7, dT _ hle, cT, vMx_le (nI_le hle hm7), dne hs hm7, cF]
        by_cases e : s = m
        · rw [dF _ (fun x => x e), cF, dT (p := some m = some s) _ (by rw [e]), cT]
          exact fin (some m, S.2.1 + 1, S.2.2) _ 0 0 _ _ (sM_3132 _ _ _) (rM2_c h rfl rfl rfl (fun i hi => by cases hi; exact hm7))
        · rw [dT _ e, cT, dF (p := some m = some s) _ (fun x => e (by cases x; rfl)), cF]
          exact fin S _ 0 0 _ _ (sM_3132 _ _ _) (rM2_c h (by rw [hm]; rfl) rfl rfl m7)
    | true =>
      have hlt : oI S.1 < nI s := by
        cases hm : S.1 with
        | none => rw [oI_n, i_lt, nI_toInt hs, show (-1 : Int32).toInt = -1 by decide]; omega
        | some m =>
          rw [hm] at hb
          rw [oI_s, nI_ltI (m7 m hm) hs]
          exact of_decide_eq_true hb
      rw [dF _ (Int32.not_le.mpr hlt), cF, cT]
      -- the first row is kept
      have hc := mForN (fun k => Xx (d + 2) n_M_asksRows 114 [.ref 200, .int (bI true), .int (oI (some s)), .int (nI k)] [] (sR (mUpI τ 200 32 0) 229 (rF (fun q => τ.1 228 q) (τ.1 229) k))) 5 (by
        intro k hk
        show Xx (d + 2) n_M_asksRows 114 _ _ _ = Xx (d + 2) n_M_asksRows 114 _ _ _
        rw [q_M_asksRows_114, show decide ((5 : Int32) ≤ nI k) = false from decide_eq_false (nI_ge (b := 5) hk (by decide)), cF, mIn_nI hk (by decide), cT, cT, nI_clamp (by omega), nI_1, mUpI_sR (o := 229), sR_at, sR_sR, sR_ne _ _ (by decide), show (mUpI τ 200 32 0).1 228 k = τ.1 228 k from rfl, rF_s (fun q => τ.1 228 q)])
      rw [rF_0, show sR (mUpI τ 200 32 0) 229 (τ.1 229) = mUpI τ 200 32 0 from sR_self (mUpI τ 200 32 0) 229] at hc
      have hc' : Xx (d + 2) n_M_asksRows 114 [.ref 200, .int (bI true), .int (oI (some s)), .int 0] [] (mUpI τ 200 32 0) = _ := hc
      rw [hc', q_M_asksRows_114, show decide ((5 : Int32) ≤ nI 5) = true by decide, cT]
      have h31 : (sR (mUpI τ 200 32 0) 229 (rF (fun q => τ.1 228 q) (τ.1 229) 5)).1 200 31 = oI S.1 := m4
      rw [show ∀ x, (mUpI (sR (mUpI τ 200 32 0) 229 (rF (fun q => τ.1 228 q) (τ.1 229) 5)) 200 31 x).1 200 31 = x from fun x => rfl, show ∀ x, (mUpI (sR (mUpI τ 200 32 0) 229 (rF (fun q => τ.1 228 q) (τ.1 229) 5)) 200 31 x).1 200 32 = 0 from fun x => rfl, h31, oI_s, vMx_lt hlt, dF _ (fun x => x rfl), cF]
      refine fin (some s, 1, fun q => oI (row q)) _ 0 0 _ _ (sM_t (sM_u τ (k := 32) (by omega) _) (sM_t (sM_s _ (b := 229) (by omega) (by omega) _) (sM_3132 _ _ _))) ?_
      refine rM2_c (S := (S.1, 0, fun q => oI (row q))) ?_ rfl rfl rfl (fun i hi => by cases hi; exact hs)
      obtain ⟨n1, n2, n3, n4, n5, n6, n7⟩ := h
      refine ⟨?_, ?_, ?_, ?_, ?_, fun q hq => ?_, n7⟩
      · rw [sR_ne _ _ (by decide)]; exact n1
      · rw [sR_ne _ _ (by decide)]; exact n2
      · rw [sR_ne _ _ (by decide)]; exact n3
      · exact n4
      · rfl
      · rw [sR_at, rF_at hq]; exact n3 q hq
/-- all rows behind a beginning -/
def blS (l : Lv) (n post : Nat) (row : Nat → Option Nat) (S : RS) : RS := match rwO l row post with
  | none => S
  | some (h, s) => flS l n post h s row S
theorem r_block (d : Nat) (hl : lvOK l) : ∀ (n post : Nat) (row : Nat → Option Nat) (S : RS) (τ : mS) (w2 w3 : Value), post + n = lQ l → rM2 τ l row S → (∀ q p, row q = some p → p < lP l) → (∀ q, post ≤ q → row q = none) → (rwO l row post = none → S.1.isSome = true) → ∃ v2 v3 τ', Xx (d + 2) n_M_asksRows 90 [.ref 200, .int (bI true), w2, w3] [] τ = Xx (d + 2) n_M_asksRows 90 [.ref 200, .int (bI (nxP (lP l) post row).1), v2, v3] [] τ' ∧ sM τ τ' ∧ rM2 τ' l (nxP (lP l) post row).2 (blS l n post row S) := by
  intro n
  induction n with
  | zero =>
    intro post row S τ w2 w3 hpost h hr _ hv
    rw [show post = lQ l by omega] at hv ⊢
    have hv' : rwV l row = none → S.1.isSome = true := by
      intro e
      apply hv
      unfold rwV at e
      cases he : rwO l row (lQ l) with
      | none => rfl
      | some x => rw [he] at e; cases e
    obtain ⟨v2, v3, τ', e, s, r⟩ := r_row90 d hl h hr hv' w2 w3
    refine ⟨v2, v3, τ', e, s, ?_⟩
    have : blS l 0 (lQ l) row S = reS (rwV l row) row S := by
      unfold blS rwV
      cases rwO l row (lQ l) with
      | none => rfl
      | some x => rfl
    rw [this]
    exact r
  | succ n ih =>
    intro post row S τ w2 w3 hpost h hr hno hv
    have hn0 : row post = none := hno post (Nat.le_refl _)
    have hup : updO row post none = row := updO_none hn0
    -- first, nobody
    have ee : rwO l row (post + 1) = rwO l row post := by
      show (match rwO l row post with | none => none | some (h, s) => match row post with | none => some (h, s) | some p => _) = _
      rw [hn0]
      cases rwO l row post with
      | none => rfl
      | some x => rfl
    obtain ⟨v2, v3, τ1, e1, s1, r1⟩ := ih (post + 1) row S τ w2 w3 (by omega) h hr (fun q hq => hno q (by omega)) (by rw [ee]; exact hv)
    have hb1 : blS l n (post + 1) row S = (match rwO l row post with | none => S | some (h, s) => flS l n (post + 1) h s (updO row post none) S) := by
      unfold blS
      rw [ee, hup]
    have hsome1 : (blS l n (post + 1) row S).1.isSome = true := by
      unfold blS
      rw [ee]
      cases he : rwO l row post with
      | none => exact hv he
      | some x => exact flS_some _ _ _ _ _ _ _
    -- then one by one
    have stepE : ∀ (p : Nat) (S : RS), blS l n (post + 1) (updO row post (some p)) S = (match rwO l row post with | none => S | some (h, s) => (match wN l post p with | none => S | some w => bif bt h p then S else flS l n (post + 1) (h ||| (1 <<< (nI p &&& 31))) (s + w + 1) (updO row post (some p)) S)) := by
      intro p S
      unfold blS
      have e0 : rwO l (updO row post (some p)) post = rwO l row post := rwO_eq post (fun q hq => if_neg (by omega))
      have e2 : rwO l (updO row post (some p)) (post + 1) = (match rwO l row post with | none => none | some (h, s) => (match wN l post p with | none => none | some w => bif bt h p then none else some (h ||| (1 <<< (nI p &&& 31)), s + w + 1))) := by
        show (match rwO l (updO row post (some p)) post with | none => none | some (h, s) => match updO row post (some p) post with | none => some (h, s) | some p => _) = _
        rw [e0, updO_at]
        rfl
      rw [e2]
      cases rwO l row post with
      | none => rfl
      | some x =>
        obtain ⟨h0, s0⟩ := x
        dsimp only
        cases wN l post p with
        | none => rfl
        | some w => cases bt h0 p <;> rfl
    have loop : ∀ p, p ≤ lP l → 0 < lP l → ∃ v2 v3 τ', Xx (d + 2) n_M_asksRows 90 [.ref 200, .int (bI true), w2, w3] [] τ = Xx (d + 2) n_M_asksRows 90 [.ref 200, .int (bI (bif decide (p < lP l) then true else (nxP (lP l) post row).1)), v2, v3] [] τ' ∧ sM τ τ' ∧ rM2 τ' l (bif decide (p < lP l) then updO row post (some p) else (nxP (lP l) post row).2) (mF (fun p S => blS l n (post + 1) (updO row post (some p)) S) p (blS l n (post + 1) row S)) ∧ (mF (fun p S => blS l n (post + 1) (updO row post (some p)) S) p (blS l n (post + 1) row S)).1.isSome = true := by
      intro p
      induction p with
      | zero =>
        intro _ hP
        have en : nxP (lP l) (post + 1) row = (true, updO row post (some 0)) := by
          show (bif mxB (lP l) (row post) then _ else (true, updO row post (some (inO (row post))))) = _
          rw [hn0]
          show (bif decide (lP l = 0) then _ else _) = _
          rw [dF _ (by omega)]
          rfl
        rw [en] at e1 r1
        exact ⟨v2, v3, τ1, by rw [dT _ hP]; exact e1, s1, by rw [dT _ hP]; exact r1, hsome1⟩
      | succ p ihp =>
        intro hp hP
        obtain ⟨u2, u3, τ2, e2, s2, r2, so⟩ := ihp (by omega) hP
        rw [dT _ (show p < lP l by omega), cT] at e2 r2
        have es : mF (fun p S => blS l n (post + 1) (updO row post (some p)) S) (p + 1) (blS l n (post + 1) row S) = blS l n (post + 1) (updO row post (some p)) (mF (fun p S => blS l n (post + 1) (updO row post (some p)) S) p (blS l n (post + 1) row S)) := rfl
        rw [es]
        generalize mF (fun p S => blS l n (post + 1) (updO row post (some p)) S) p (blS l n (post + 1) row S) = Sp at r2 so
        obtain ⟨x2, x3, τ3, e3, s3, r3⟩ := ih (post + 1) (updO row post (some p)) Sp τ2 u2 u3 (by omega) r2 (fun q p' e => by
          unfold updO at e
          split at e
          · cases e; omega
          · exact hr q p' e) (fun q hq => by
          rw [show updO row post (some p) q = row q from if_neg (by omega)]
          exact hno q (by omega)) (fun _ => so)
        have en : nxP (lP l) (post + 1) (updO row post (some p)) = (bif decide (p + 1 < lP l) then (true, updO row post (some (p + 1))) else nxP (lP l) post row) := by
          show (bif mxB (lP l) (updO row post (some p) post) then nxP (lP l) post (updO (updO row post (some p)) post none) else (true, updO (updO row post (some p)) post (some (inO (updO row post (some p) post))))) = _
          have uu : ∀ x, updO (updO row post (some p)) post x = updO row post x := by
            intro x
            funext j
            unfold updO
            by_cases e : j = post
            · rw [if_pos e, if_pos e]
            · rw [if_neg e, if_neg e, if_neg e]
          rw [updO_at, uu, uu, hup]
          show (bif decide (lP l ≤ p + 1) then _ else _) = _
          by_cases g : p + 1 < lP l
          · rw [dT _ g, dF (p := lP l ≤ p + 1) _ (by omega)]; rfl
          · rw [dF _ g, dT (p := lP l ≤ p + 1) _ (by omega)]; rfl
        rw [en] at e3 r3
        refine ⟨x2, x3, τ3, ?_, sM_t s2 s3, ?_, ?_⟩
        · rw [e2, e3]
          by_cases g : p + 1 < lP l
          · rw [dT _ g]; rfl
          · rw [dF _ g]; rfl
        · by_cases g : p + 1 < lP l
          · rw [dT _ g] at r3 ⊢; exact r3
          · rw [dF _ g] at r3 ⊢; exact r3
        · rw [stepE p Sp]
          cases rwO l row post with
          | none => exact so
          | some x =>
            obtain ⟨h0, s0⟩ := x
            dsimp only
            cases wN l post p with
            | none => exact so
            | some w => cases bt h0 p <;> first | exact so | exact flS_some _ _ _ _ _ _ _
    -- the whole
    have hfin : blS l (n + 1) post row S = mF (fun p S => blS l n (post + 1) (updO row post (some p)) S) (lP l) (blS l n (post + 1) row S) := by
      have e0 : ∀ p S, blS l n (post + 1) (updO row post (some p)) S = _ := stepE
      rw [show (fun p S => blS l n (post + 1) (updO row post (some p)) S) = (fun p S => (match rwO l row post with | none => S | some (h, s) => (match wN l post p with | none => S | some w => bif bt h p then S else flS l n (post + 1) (h ||| (1 <<< (nI p &&& 31))) (s + w + 1) (updO row post (some p)) S))) from funext fun p => funext fun S => stepE p S, hb1]
      unfold blS
      cases rwO l row post with
      | none =>
        dsimp only
        exact (mF_inv (fun _ (T : RS) => T = S) _ (lP l) S rfl (fun k T _ h => h) (lP l) (Nat.le_refl _)).symm
      | some x => rfl
    rw [hfin]
    rcases Nat.eq_zero_or_pos (lP l) with z | z
    · have en : nxP (lP l) (post + 1) row = nxP (lP l) post row := by
        show (bif mxB (lP l) (row post) then nxP (lP l) post (updO row post none) else _) = _
        rw [hn0, hup]
        show (bif decide (lP l = 0) then _ else _) = _
        rw [dT _ z]
        rfl
      rw [en] at e1 r1
      refine ⟨v2, v3, τ1, e1, s1, ?_⟩
      have ez : mF (fun p S => blS l n (post + 1) (updO row post (some p)) S) (lP l) (blS l n (post + 1) row S) = blS l n (post + 1) row S := by
        generalize blS l n (post + 1) row S = T
        rw [z]
        rfl
      rw [ez]
      exact r1
    · obtain ⟨x2, x3, τ2, e2, s2, r2, -⟩ := loop (lP l) (Nat.le_refl _) z
      rw [dF _ (Nat.lt_irrefl _)] at e2 r2
      exact ⟨x2, x3, τ2, e2, s2, r2⟩
