/-! ===== a wrong left out ===== -/
variable {σ τ : mS} {l : Lv}
def vO (l : Lv) (k : Nat) : Va := (lLaw l, 0, some k, fun _ => 0, lSk l)
theorem vO_ok (hl : lvOK l) {k : Nat} (hk : k < 2 ^ 31) : vaOK (vO l k) := by
  refine ⟨lvLaw hl, fun i h => ?_, fun c => ?_, fun p _ => rfl⟩
  · cases h; exact hk
  · show bw 0 0 1000
    exact ⟨by decide, by decide⟩
def spS (f : Nat → Nat) (k : Nat) (s : Option Nat × Nat) : Option Nat × Nat := if s.2 < f k then (some k, f k) else s
theorem k_spare (d : Nat) (t : tL σ l) : ∃ τ, Xx (d + 5) n_E_spare 25 [.ref 0, .int (-1), .int (nI (gm l (vS l))), .int 0, .null] [] σ = some (.int (oI (mF (spS (fun k => gm l (vO l k))) (lWr l).length (none, gm l (vS l))).1), τ) ∧ sC σ τ := by
  have hW := lvWn t.1
  have hb : ∀ v, gm l v < 2 ^ 31 := fun v => gm_lt t.1 v
  have hI2 : ∀ n, (mF (spS (fun k => gm l (vO l k))) n (none, gm l (vS l))).2 < 2 ^ 31 := fun n => mF_inv (fun _ (s : Option Nat × Nat) => s.2 < 2 ^ 31) _ n (none, gm l (vS l)) (hb _) (fun k s _ h => by
    unfold spS
    split
    · exact hb _
    · exact h) n (Nat.le_refl _)
  obtain ⟨⟨v, τ⟩, hs, hI⟩ := mForI (fun k (b : Option Nat × Nat) (s : Value × mS) => Xx (d + 5) n_E_spare 25 [.ref 0, .int (oI b.1), .int (nI b.2), .int (nI k), s.1] [] s.2) (fun _ s => tL s.2 l ∧ sC σ s.2) (spS (fun k => gm l (vO l k))) (lWr l).length (none, gm l (vS l)) (.null, σ) ⟨t, sC_r σ⟩ (by
    intro k s hk hI
    have h2 := hI2 k
    generalize mF _ k (none, gm l (vS l)) = b at h2
    obtain ⟨τ1, e1, o1, t1, v1⟩ := k_resetT (d + 3) hI.1
    have o2 : kO 30 τ1 (mUpI τ1 30 3 (nI k)) := kO_u τ1 (by omega) (by omega) _ _
    have v2 : cV (mUpI τ1 30 3 (nI k)) 30 l (vO l k) := by
      obtain ⟨a1, a2, a3, a4, a5⟩ := v1
      refine ⟨?_, ?_, rfl, ?_, ?_⟩
      · rw [mUpI_sR, sR_at, upd_ne _ _ (by decide)]; exact a1
      · rw [mUpI_sR, sR_at, upd_ne _ _ (by decide)]; exact a2
      · rw [mUpI_sR, sR_ne _ _ (by decide)]; exact a4
      · rw [mUpI_sR, sR_ne _ _ (by decide)]; exact a5
    obtain ⟨τ2, e2, o3, t2, c2⟩ := k_runT d (tL_sC t1 (sC_k o2)) (vO_ok t.1 (by omega)) v2
    refine ⟨(.int (nI (gm l (vO l k))), τ2), ?_, t2, sC_t hI.2 (sC_k (kO_t o1 (kO_t o2 o3)))⟩
    rw [q_E_spare_25, hI.1.2.1.2.2.2.2.1.1, dle (by omega) (by omega), dF _ (by omega), cF, e1, mBV_s, e2, mBV_s, k_gm _ t2 c2, dle (hb _) h2, nI_1]
    unfold spS
    dsimp only
    by_cases g : gm l (vO l k) ≤ b.2
    · rw [dT _ g, cT, if_neg (by omega)]
    · rw [dF _ g, cF, if_pos (by omega)]; rfl)
  refine ⟨τ, Eq.trans hs ?_, hI.2⟩
  rw [q_E_spare_25, hI.1.2.1.2.2.2.2.1.1, dT _ (Int32.le_refl _), cT]
theorem rV_out {v : Va} {m : Nat} (h : rV τ l v m) {x : Int32} {o : Option Nat} (hx : x = oI o) : rV (mUpI τ 200 22 x) l (v.1, v.2.1, o, v.2.2.2) m := by
  obtain ⟨h1, h2, h3, h4, h5, a, b, n, h6, h7⟩ := h
  refine ⟨?_, ?_, ?_, hx, ?_, a, b, n, ?_, h7⟩
  · rw [mUpI_sR, sR_ne _ _ (by decide)]; exact h1
  · rw [mUpI_sR, sR_at, upd_ne _ _ (by decide)]; exact h2
  · rw [mUpI_sR, sR_at, upd_ne _ _ (by decide)]; exact h3
  · rw [mUpI_sR, sR_ne _ _ (by decide)]; exact h5
  · unfold mrOK at h6 ⊢
    rw [mUpI_sR, sR_at, upd_ne _ _ (by decide), sR_ne _ _ (by decide), sR_ne _ _ (by decide), sR_ne _ _ (by decide)]
    exact h6
theorem r_spare (d : Nat) (hl : lvOK l) (h : rV τ l (vO l 0) 0) : ∃ τ', Xx (d + 8) n_M_spare 22 [.ref 200, .int (nI (gm l (vS l))), .int (-1)] [] τ = some (.int (oI (mF (spS (fun k => gm l (vO l k))) (lWr l).length (none, gm l (vS l))).1), τ') ∧ sM τ τ' := by
  have hW := lvWn hl
  have hb : ∀ v, gm l v < 2 ^ 31 := fun v => gm_lt hl v
  have hI2 : ∀ n, (mF (spS (fun k => gm l (vO l k))) n (none, gm l (vS l))).2 < 2 ^ 31 := fun n => mF_inv (fun _ (s : Option Nat × Nat) => s.2 < 2 ^ 31) _ n (none, gm l (vS l)) (hb _) (fun k s _ h => by
    unfold spS
    split
    · exact hb _
    · exact h) n (Nat.le_refl _)
  obtain ⟨τ', hs, hI⟩ := mForI (fun _ (b : Option Nat × Nat) (s : mS) => Xx (d + 8) n_M_spare 22 [.ref 200, .int (nI b.2), .int (oI b.1)] [] s) (fun k s => sM τ s ∧ rV s l (vO l k) 0) (spS (fun k => gm l (vO l k))) (lWr l).length (none, gm l (vS l)) τ ⟨sM_r τ, h⟩ (by
    intro k s hk hI
    have h2 := hI2 k
    generalize mF _ k (none, gm l (vS l)) = b at h2
    obtain ⟨τ1, e1, s1, a1⟩ := r_goAll d hl (vO_ok hl (by omega)) hI.2
    have e22 : τ1.1 200 22 = nI k := a1.1.2.2.2.1
    refine ⟨mUpI τ1 200 22 (nI (k + 1)), ?_, sM_t hI.1 (sM_t s1 (sM_u _ (by omega) _)), rV_out a1.1 (o := some (k + 1)) rfl⟩
    rw [q_M_spare_22, show s.1 200 22 = nI k from hI.2.2.2.2.1, hI.2.1.1.2.2.2.2.2.1, dle (by omega) (by omega), dF _ (by omega), cF, e1, mBV_s, r_gm _ hl a1, mBI_s, r_gm _ hl a1, mBI_s, e22, dlt h2 (hb _), show (1 : Int32) = nI 1 from rfl, nI_add]
    unfold spS
    dsimp only
    by_cases g : b.2 < gm l (vO l k)
    · rw [dT _ g, cT, if_pos g]; rfl
    · rw [dF _ g, cF, if_neg g])
  refine ⟨τ', Eq.trans hs ?_, hI.1⟩
  rw [q_M_spare_22, show τ'.1 200 22 = nI (lWr l).length from hI.2.2.2.2.1, hI.2.1.1.2.2.2.2.2.1, dT _ (Int32.le_refl _), cT]
theorem t_spare (D : Nat) (t : tL σ l) : qryT (D + 12) n_E_spare n_M_spare [.ref 0, .null, .null, .null, .null] [.ref 200, .null, .null] σ := by
  have h3 := lvQ t.1
  have h4 := lvLn t.1
  unfold qryT
  rw [c_E_spare, k_isLand _ σ (tLn t) (by omega), mBI_s, bI_n]
  cases hld : decide (0 < lLn l) with
  | false =>
    obtain ⟨τ, e, s, a⟩ := r_asksLand (D + 2) t.1 t.2.2.2
    refine ⟨-2, σ, τ, rfl, sC_r σ, ?_, s⟩
    rw [c_M_spare, e, mBI_s, hld, bI_n]
    rfl
  | true =>
    obtain ⟨σ1, e1, o1⟩ := k_spare (D + 6) t
    have t1 := tL_sC t o1
    obtain ⟨τ, e, s, a⟩ := r_asksLand (D + 2) t.1 t1.2.2.2
    obtain ⟨τ2, e2, s2⟩ := r_spare (D + 3) t.1 (rV_out a.1 (o := some 0) (show (0 : Int32) = oI (some 0) from rfl))
    refine ⟨oI (mF (spS (fun k => gm l (vO l k))) (lWr l).length (none, gm l (vS l))).1, σ1, τ2, ?_, o1, ?_, sM_t s (sM_t (sM_u _ (by omega) _) s2)⟩
    · rw [cT, k_postsGiven _ 20 (Or.inl rfl) h3 (tQ t) t.2.2.1.2.2.2 (win_big t.1), mBI_s, k_bitCount _ _ (gvnS_bw h3 _), mBI_s]
      exact e1
    · rw [c_M_spare, e, mBI_s, hld, bI_n, cT, r_gm _ t.1 a, mBI_s]
      exact e2
