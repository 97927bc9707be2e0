/-! ===== trials: what would be ===== -/
variable {σ τ : mS} {l : Lv}
theorem mForI {α β : Type} (F : Nat → α → β → mR) (I : Nat → β → Prop) (g : Nat → α → α) (n : Nat) (a : α) (b : β) (hb : I 0 b) (hs : ∀ k b, k < n → I k b → ∃ b', F k (mF g k a) b = F (k + 1) (g k (mF g k a)) b' ∧ I (k + 1) b') : ∃ b', F 0 a b = F n (mF g n a) b' ∧ I n b' := by
  have key : ∀ k, k ≤ n → ∃ b', F 0 a b = F k (mF g k a) b' ∧ I k b' := by
    intro k
    induction k with
    | zero => intro _; exact ⟨b, rfl, hb⟩
    | succ k ih =>
      intro h
      obtain ⟨b1, e1, i1⟩ := ih (by omega)
      obtain ⟨b2, e2, i2⟩ := hs k b1 (by omega) i1
      exact ⟨b2, e1.trans e2, i2⟩
  exact key n (Nat.le_refl n)
/-- only what the class uses anew at each call has changed -/
def sC (σ τ : mS) : Prop := (∀ a, a < 4 ∨ (6 < a ∧ a < 15) ∨ (16 < a ∧ a < 30) ∨ 35 < a → τ.1 a = σ.1 a) ∧ τ.2 = σ.2
theorem sC_r (σ : mS) : sC σ σ := ⟨fun _ _ => rfl, rfl⟩
theorem sC_t {σ τ υ : mS} (h : sC σ τ) (g : sC τ υ) : sC σ υ := ⟨fun a ha => (g.1 a ha).trans (h.1 a ha), g.2.trans h.2⟩
theorem sC_k (h : kO 30 σ τ) : sC σ τ := ⟨fun a ha => h.1 a (by omega), h.2⟩
theorem sC_s (σ : mS) {b : Nat} (h : (4 ≤ b ∧ b ≤ 6) ∨ b = 15 ∨ b = 16 ∨ (30 ≤ b ∧ b ≤ 35)) (f : Nat → Int32) : sC σ (sR σ b f) := ⟨fun a ha => sR_ne _ _ (by omega), rfl⟩
theorem sC_u (σ : mS) {b : Nat} (h : (4 ≤ b ∧ b ≤ 6) ∨ b = 15 ∨ b = 16 ∨ (30 ≤ b ∧ b ≤ 35)) (k : Nat) (x : Int32) : sC σ (mUpI σ b k x) := sC_s σ h _
theorem tL_sC (t : tL σ l) (h : sC σ τ) : tL τ l := ⟨t.1, lC_c t.2.1 (fun a h1 h2 => h.1 a (by omega)), cR_c t.2.2.1 (fun a h1 h2 => h.1 a (by omega)), by rw [h.1 201 (by omega)]; exact t.2.2.2⟩
theorem tL_sM (t : tL σ l) (h : sM σ τ) : tL τ l := ⟨t.1, lC_c t.2.1 (fun a h1 h2 => h.1 a (by omega)), cR_c t.2.2.1 (fun a h1 h2 => h.1 a (by omega)), sM_lM h t.2.2.2⟩
/-- both answer alike; the class may have tried something -/
def qryT (D mE mM : Nat) (aE aM : List Value) (σ : mS) : Prop := ∃ v σ' τ, Cc D mE aE σ = some (.int v, σ') ∧ sC σ σ' ∧ Cc D mM aM σ' = some (.int v, τ) ∧ sM σ' τ
theorem qryT_of {D mE mM : Nat} {aE aM : List Value} (h : qry D mE mM aE aM σ) : qryT D mE mM aE aM σ := by
  obtain ⟨v, τ, h1, h2, h3⟩ := h
  exact ⟨v, σ, τ, h1, sC_r σ, h2, h3⟩
theorem k_resetT (d : Nat) (t : tL σ l) : ∃ τ, Cc (d + 2) n_Co_reset [.ref 30] σ = some (.null, τ) ∧ kO 30 σ τ ∧ tL τ l ∧ cV τ 30 l (vS l) := by
  obtain ⟨τ, e, h, c⟩ := k_reset d 30 (Or.inr rfl) t.1 t.2.1
  exact ⟨τ, e, h, tL_sC t (sC_k h), c⟩
theorem k_runT (d : Nat) (t : tL σ l) {v : Va} (hv : vaOK v) (hV : cV σ 30 l v) : ∃ τ, Cc (d + 5) n_Co_run [.ref 30, .null] σ = some (.null, τ) ∧ kO 30 σ τ ∧ tL τ l ∧ cR τ 30 l v := by
  obtain ⟨τ, e, h, c⟩ := k_run d 30 (Or.inr rfl) t.1 hv t.2.1 hV
  exact ⟨τ, e, h, tL_sC t (sC_k h), c⟩
theorem kO_u {o : Nat} (σ : mS) {b : Nat} (h1 : o ≤ b) (h2 : b ≤ o + 5) (k : Nat) (x : Int32) : kO o σ (mUpI σ b k x) := kO_s σ h1 h2 _
/-- as it is but for the law; how many posts are given -/
def vL (l : Lv) (x : Int32) : Va := (x, 0, none, fun _ => 0, lSk l)
theorem vL_ok {x : Int32} (h : bw 0 x 3) : vaOK (vL l x) := by
  refine ⟨h, fun i h => ?_, fun c => ?_, fun p _ => rfl⟩
  · cases h
  · show bw 0 0 1000
    exact ⟨by decide, by decide⟩
def gm (l : Lv) (v : Va) : Nat := nb (gvnS (lQ l) (win l v))
theorem gm_lt (hl : lvOK l) (v : Va) : gm l v < 2 ^ 31 := nb_lt (gvnS_bw (lvQ hl) _)
theorem law_bw {k : Nat} (hk : k < 4) : bw 0 (nI k) 3 := by
  unfold bw
  rw [nI_toInt (by omega)]
  omega
theorem k_gm (d : Nat) (t : tL σ l) {v : Va} (c : cR σ 30 l v) (K : Int32 → mS → mR) : mBI (Cc (d + 1) n_Co_postsGiven [.ref 30, .null, .null] σ) (fun r τ => mBI (Cc (d + 1) n_In_bitCount [.int r] τ) K) = K (nI (gm l v)) σ := by
  have h3 := lvQ t.1
  rw [k_postsGiven d 30 (Or.inr rfl) h3 (tQ t) c.2.2.2 (win_big t.1), mBI_s, k_bitCount _ _ (gvnS_bw h3 _), mBI_s]
  rfl
theorem k_givenByLaw (d : Nat) (t : tL σ l) {k : Nat} (hk : k < 4) : ∃ τ, Cc (d + 6) n_E_givenByLaw [.ref 0, .int (nI k)] σ = some (.int (nI (gm l (vL l (nI k)))), τ) ∧ kO 30 σ τ ∧ tL τ l ∧ cR τ 30 l (vL l (nI k)) := by
  obtain ⟨τ1, e1, o1, t1, v1⟩ := k_resetT (d + 3) t
  have o2 : kO 30 τ1 (mUpI τ1 30 1 (nI k)) := kO_u τ1 (by omega) (by omega) _ _
  have v2 : cV (mUpI τ1 30 1 (nI k)) 30 l (vL l (nI k)) := by
    obtain ⟨a1, a2, a3, a4, a5⟩ := v1
    refine ⟨rfl, ?_, ?_, ?_, ?_⟩
    · rw [mUpI_sR, sR_at, upd_ne _ _ (by decide)]; exact a2
    · rw [mUpI_sR, sR_at, upd_ne _ _ (by decide)]; exact a3
    · rw [mUpI_sR, sR_ne _ _ (by decide)]; exact a4
    · rw [mUpI_sR, sR_ne _ _ (by decide)]; exact a5
  obtain ⟨τ2, e2, o3, t2, c2⟩ := k_runT d (tL_sC t1 (sC_k o2)) (vL_ok (law_bw hk)) v2
  refine ⟨τ2, ?_, kO_t o1 (kO_t o2 o3), t2, c2⟩
  rw [c_E_givenByLaw, e1, mBV_s, e2, mBV_s, k_gm _ t2 c2]
theorem rV_law {v : Va} {m : Nat} (h : rV τ l v m) (x : Int32) : rV (mUpI τ 200 20 x) l (x, v.2) m := by
  obtain ⟨h1, h2, h3, h4, h5, a, b, n, h6, h7⟩ := h
  refine ⟨?_, rfl, ?_, ?_, ?_, a, b, n, ?_, h7⟩
  · rw [mUpI_sR, sR_ne _ _ (by decide)]; exact h1
  · rw [mUpI_sR, sR_at, upd_ne _ _ (by decide)]; exact h3
  · rw [mUpI_sR, sR_at, upd_ne _ _ (by decide)]; exact h4
  · rw [mUpI_sR, sR_ne _ _ (by decide)]; exact h5
  · unfold mrOK at h6 ⊢
    rw [mUpI_sR, sR_at, upd_ne _ _ (by decide), sR_ne _ _ (by decide), sR_ne _ _ (by decide), sR_ne _ _ (by decide)]
    exact h6
theorem r_gm (d : Nat) (hl : lvOK l) {v : Va} {m : Nat} (a : rA τ l v m) : Cc (d + 3) n_M_givenMany [.ref 200] τ = some (.int (nI (gm l v)), τ) := r_givenMany d (lvQ hl) (lM_Q a.1.1) a.2.2.1 (win_big hl)
theorem r_givenBy (d : Nat) (hl : lvOK l) {x : Int32} {m : Nat} (h : rV τ l (vL l x) m) {k : Nat} (hk : k < 4) : ∃ τ', Cc (d + 9) n_M_givenBy [.ref 200, .int (nI k)] τ = some (.int (nI (gm l (vL l (nI k)))), τ') ∧ sM τ τ' ∧ rV τ' l (vL l (nI k)) m := by
  obtain ⟨τ1, e1, s1, a1⟩ := r_goAll d hl (vL_ok (law_bw hk)) (rV_law h (nI k))
  refine ⟨τ1, ?_, sM_t (sM_u τ (by omega) _) s1, a1.1⟩
  rw [c_M_givenBy, e1, mBV_s, r_gm _ hl a1, mBI_s]
theorem mIn4 (x : Int32) : (!(decide (x.toInt64 < 0)) && !(decide ((3 : Int64) < x.toInt64))) = mIn x 4 := in_mIn x (n := 4) (by decide)
theorem t_by (D : Nat) (t : tL σ l) (x : Int32) : qryT (D + 12) n_E_by n_M_by [.ref 0, .int x] [.ref 200, .int x] σ := by
  have h4 := lvLn t.1
  unfold qryT
  rw [c_E_by, k_isLand _ σ (tLn t) (by omega), mBI_s, bI_0]
  cases hld : decide (0 < lLn l) with
  | false =>
    obtain ⟨τ, e, s, a⟩ := r_asksLand (D + 2) t.1 t.2.2.2
    refine ⟨-2, σ, τ, rfl, sC_r σ, ?_, s⟩
    rw [c_M_by, e, mBI_s, hld, bI_0]
    rfl
  | true =>
    rw [bnot_t, cF]
    have e4 : ∀ A B : mR, (bif decide (x < 0) then A else (bif decide ((4 : Int32) ≤ x) then A else B)) = bif mIn x 4 then B else A := by
      intro A B
      rw [mIn_iff x 4 (by decide)]
      show (bif decide (x < 0) then A else (bif decide ((4 : Int32) ≤ x) then A else B)) = bif (!(decide (x < 0)) && !(decide ((4 : Int32) ≤ x))) then B else A
      cases decide (x < 0) <;> cases decide ((4 : Int32) ≤ x) <;> rfl
    rw [e4]
    cases hx : mIn x 4 with
    | false =>
      obtain ⟨τ, e, s, a⟩ := r_asksLand (D + 2) t.1 t.2.2.2
      refine ⟨-2, σ, τ, rfl, sC_r σ, ?_, s⟩
      rw [c_M_by, e, mBI_s, hld, bI_0, bnot_t, cF, r_in, mBI_s, mIn4, hx, bI_0]
      rfl
    | true =>
      obtain ⟨k, hk, rfl⟩ := mIn_of hx
      obtain ⟨σ1, e1, o1, t1, -⟩ := k_givenByLaw (D + 5) t hk
      obtain ⟨τ, e, s, a⟩ := r_asksLand (D + 2) t.1 t1.2.2.2
      obtain ⟨τ2, e2, s2, -⟩ := r_givenBy (D + 2) (x := lLaw l) t.1 a.1 hk
      refine ⟨nI (gm l (vL l (nI k))), σ1, τ2, ?_, sC_k o1, ?_, sM_t s s2⟩
      · rw [cT, e1, mBI_s]
      · rw [c_M_by, e, mBI_s, hld, bI_0, bnot_t, cF, r_in, mBI_s, mIn4, hx, bI_0, bnot_t, cF, e2, mBI_s]
/-! which law -/
def lwS (f : Nat → Nat) (k b : Nat) : Nat := if f b < f (k + 1) then k + 1 else b
theorem k_law (d : Nat) (t : tL σ l) : ∃ τ, Xx (d + 6) n_E_law 16 [.ref 0, .int 0, .int (-1), .int 0, .null] [] σ = some (.int (nI (mF (lwS (fun k => gm l (vL l (nI k)))) 3 0)), τ) ∧ sC σ τ := by
  obtain ⟨σ1, e1, o1, t1, -⟩ := k_givenByLaw d t (k := 0) (by omega)
  have hb : ∀ k, gm l (vL l (nI k)) < 2 ^ 31 := fun k => gm_lt t.1 _
  have e0 : Xx (d + 6) n_E_law 16 [.ref 0, .int 0, .int (-1), .int 0, .null] [] σ = Xx (d + 6) n_E_law 16 [.ref 0, .int (nI 0), .int (nI (gm l (vL l (nI 0)))), .int (nI (0 + 1)), .int (nI (gm l (vL l (nI 0))))] [] σ1 := by
    rw [q_E_law_16, show decide ((4 : Int32) ≤ 0) = false by decide, cF, show (Value.int 0) = Value.int (nI 0) from rfl, e1, mBI_s, dF _ (fun q => by
      have := i_le.mp q
      rw [nI_toInt (hb 0), show (-1 : Int32).toInt = -1 by decide] at this
      omega), cF]
    rfl
  obtain ⟨⟨v, τ⟩, hs, hI⟩ := mForI (fun k (b : Nat) (s : Value × mS) => Xx (d + 6) n_E_law 16 [.ref 0, .int (nI b), .int (nI (gm l (vL l (nI b)))), .int (nI (k + 1)), s.1] [] s.2) (fun _ s => tL s.2 l ∧ sC σ s.2) (lwS (fun k => gm l (vL l (nI k)))) 3 0 (.int (nI (gm l (vL l (nI 0)))), σ1) ⟨t1, sC_k o1⟩ (by
    intro k s hk hI
    generalize mF _ k (0 : Nat) = b
    obtain ⟨σ2, e2, o2, t2, -⟩ := k_givenByLaw d hI.1 (k := k + 1) (by omega)
    refine ⟨(.int (nI (gm l (vL l (nI (k + 1))))), σ2), ?_, t2, sC_t hI.2 (sC_k o2)⟩
    rw [q_E_law_16, show decide ((4 : Int32) ≤ nI (k + 1)) = false from decide_eq_false (nI_ge (b := 4) (by omega) (by decide)), cF, e2, mBI_s, dle (hb _) (hb _), nI_1]
    unfold lwS
    dsimp only
    by_cases g : gm l (vL l (nI (k + 1))) ≤ gm l (vL l (nI b))
    · rw [dT _ g, cT, if_neg (by omega)]
    · rw [dF _ g, cF, if_pos (by omega)])
  refine ⟨τ, e0.trans (hs.trans ?_), hI.2⟩
  rw [q_E_law_16, show decide ((4 : Int32) ≤ nI (3 + 1)) = true by decide, cT]
theorem lw_lt (f : Nat → Nat) (n : Nat) : mF (lwS f) n 0 ≤ n := mF_inv (fun k b => b ≤ k) (lwS f) n 0 (Nat.le_refl _) (fun k b _ h => by unfold lwS; split <;> omega) n (Nat.le_refl _)
theorem r_law (d : Nat) (hl : lvOK l) (h : rV τ l (vL l (lLaw l)) 0) : ∃ τ', Xx (d + 9) n_M_law 14 [.ref 200, .int 0, .int 1] [] τ = some (.int (nI (mF (lwS (fun k => gm l (vL l (nI k)))) 3 0)), τ') ∧ sM τ τ' := by
  have hb : ∀ k, gm l (vL l (nI k)) < 2 ^ 31 := fun k => gm_lt hl _
  obtain ⟨τ', hs, hI⟩ := mForI (fun k (b : Nat) (s : mS) => Xx (d + 9) n_M_law 14 [.ref 200, .int (nI b), .int (nI (k + 1))] [] s) (fun _ s => sM τ s ∧ ∃ x, rV s l (vL l x) 0) (lwS (fun k => gm l (vL l (nI k)))) 3 0 τ ⟨sM_r τ, _, h⟩ (by
    intro k s hk hI
    have hle := lw_lt (fun k => gm l (vL l (nI k))) k
    generalize mF _ k (0 : Nat) = b at hle
    obtain ⟨x, hx⟩ := hI.2
    obtain ⟨τ1, e1, s1, v1⟩ := r_givenBy d hl hx (k := k + 1) (by omega)
    obtain ⟨τ2, e2, s2, v2⟩ := r_givenBy d hl v1 (k := b) (by omega)
    refine ⟨τ2, ?_, sM_t hI.1 (sM_t s1 s2), _, v2⟩
    rw [q_M_law_14, show decide ((4 : Int32) ≤ nI (k + 1)) = false from decide_eq_false (nI_ge (b := 4) (by omega) (by decide)), cF, e1, mBI_s, e2, mBI_s, dle (hb _) (hb _), nI_1]
    unfold lwS
    dsimp only
    by_cases g : gm l (vL l (nI (k + 1))) ≤ gm l (vL l (nI b))
    · rw [dT _ g, cT, if_neg (by omega)]
    · rw [dF _ g, cF, if_pos (by omega)])
  refine ⟨τ', Eq.trans hs ?_, hI.1⟩
  rw [q_M_law_14, show decide ((4 : Int32) ≤ nI (3 + 1)) = true by decide, cT]
theorem t_law (D : Nat) (t : tL σ l) : qryT (D + 12) n_E_law n_M_law [.ref 0, .null, .null, .null, .null] [.ref 200, .null, .null] σ := by
  have h4 := lvLn t.1
  unfold qryT
  rw [c_E_law, k_isLand _ σ (tLn t) (by omega), mBI_s, bI_n]
  cases hld : decide (0 < lLn l) with
  | false =>
    obtain ⟨τ, e, s, a⟩ := r_asksLand (D + 2) t.1 t.2.2.2
    refine ⟨-2, σ, τ, rfl, sC_r σ, ?_, s⟩
    rw [c_M_law, e, mBI_s, hld, bI_n]
    rfl
  | true =>
    obtain ⟨σ1, e1, o1⟩ := k_law (D + 5) t
    have t1 := tL_sC t o1
    obtain ⟨τ, e, s, a⟩ := r_asksLand (D + 2) t.1 t1.2.2.2
    obtain ⟨τ2, e2, s2⟩ := r_law (D + 2) t.1 a.1
    refine ⟨nI (mF (lwS (fun k => gm l (vL l (nI k)))) 3 0), σ1, τ2, ?_, o1, ?_, sM_t s s2⟩
    · rw [cT, e1]
    · rw [c_M_law, e, mBI_s, hld, bI_n, cT, e2]
