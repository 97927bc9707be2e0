/-! ===== sets of skills that go with what was seen: the reference; the questions ===== -/
variable {σ τ : mS} {l : Lv}
/-- what the reference has laid -/
def rN (τ : mS) (w : Nat → Nat → Option Nat) (L : List Nat) : Prop := τ.1 200 35 = nI L.length ∧ ∀ (j s : Nat), L[j]? = some s → τ.1 233 j = nI s ∧ ∀ q, q < 5 → τ.1 234 (5 * j + q) = oI (w s q)
theorem app_get {L : List Nat} {s j x : Nat} (h : (L ++ [s])[j]? = some x) : (L[j]? = some x) ∨ (j = L.length ∧ x = s) := by
  rcases Nat.lt_or_ge j L.length with g | g
  · rw [List.getElem?_append_left g] at h
    exact Or.inl h
  · rw [List.getElem?_append_right g] at h
    rcases Nat.eq_zero_or_pos (j - L.length) with z | z
    · rw [z] at h
      cases h
      exact Or.inr ⟨by omega, rfl⟩
    · rw [List.getElem?_eq_none (by simp; omega)] at h
      cases h
theorem r_layFits (d : Nat) (hl : lvOK l) (hM : lM (τ.1 201) l) (hld : 0 < lLn l) {s n : Nat} (hs : s < 4) (hn : n ≤ 60) (h240 : τ.1 240 s = nI n) {R : Nat → Int64} (hR : ∀ i, i < 60 → τ.2 242 (60 * s + i) = R i) (htd : tdB l R n = true) {p : Nat} (hp : p < lP l) : ∃ τ', Cc (d + 9) n_M_layFits [.ref 200, .int (nI s), .int (nI p), .null, .null, .null] τ = some (.int 0, τ') ∧ sM τ τ' ∧ rN τ' (wK l p) (seL l p R n) := by
  have h1 := lvP hl
  obtain ⟨τ1, e1, s1, v1, f1⟩ := (r_askSeen (d + 3) hl hM hld hs hn h240 hR).2 htd
  obtain ⟨⟨va, vb, τ2⟩, e2, i1, -, -, i4⟩ := mForI (fun k (_ : Unit) (b : Value × Value × mS) => Xx (d + 8) n_M_layFits 32 [.ref 200, .int (nI s), .int (nI p), b.1, .int (nI k), b.2.1] [] b.2.2) (fun k b => sM τ b.2.2 ∧ (∃ x, rV b.2.2 l (vK l p x) 0) ∧ (∃ x, rF1 b.2.2 l (vK l p x)) ∧ rN b.2.2 (wK l p) (fL2 (seB l p R n) k)) (fun _ a => a) 64 () (.int 0, .null, mUpI τ1 200 35 0) ⟨sM_t s1 (sM_u _ (by omega) _), ⟨lSk l p, by
      rw [vK_self]
      exact rV_c v1 (by rw [mUpI_sR, sR_ne _ _ (by decide)]) (fun k _ _ => by rw [mUpI_sR, sR_at, upd_ne _ _ (by omega)]) (by rw [mUpI_sR, sR_ne _ _ (by decide)]) (by rw [mUpI_sR, sR_ne _ _ (by decide)]) (by rw [mUpI_sR, sR_ne _ _ (by decide)]) (by rw [mUpI_sR, sR_ne _ _ (by decide)])⟩, ⟨lSk l p, by
      rw [vK_self]
      unfold rF1 at f1 ⊢
      rw [mUpI_sR, sR_ne _ _ (by decide), sR_ne _ _ (by decide), sR_ne _ _ (by decide)]
      exact f1⟩, rfl, fun j s h => by cases h⟩ (by
    intro k b hk hI
    obtain ⟨i1, ⟨x, i2⟩, ⟨y, i3⟩, i4⟩ := hI
    have hlen := fL2_len (seB l p R n) k
    -- skills set anew
    have hsk : ∀ j, j < lP l → (mUpI b.2.2 215 p (nI k)).1 215 j = vSk (vK l p (nI k)) j := by
      intro j hj
      rw [mUpI_sR, sR_at]
      show upd (b.2.2.1 215) p (nI k) j = upd (lSk l) p (nI k) j
      by_cases e : j = p
      · rw [e, upd_at, upd_at]
      · rw [upd_ne _ _ e, upd_ne _ _ e]
        have : b.2.2.1 215 j = upd (lSk l) p x j := i2.2.2.2.2.1 j hj
        rw [this, upd_ne _ _ e]
    have v2 : rV (mUpI b.2.2 215 p (nI k)) l (vK l p (nI k)) 0 := by
      obtain ⟨g1, g2, g3, g4, g5, fa, fb, fn, g6, g7⟩ := i2
      refine ⟨?_, ?_, ?_, ?_, hsk, fa, fb, fn, ?_, g7⟩
      · rw [mUpI_sR, sR_ne _ _ (by decide)]; exact g1
      · rw [mUpI_sR, sR_ne _ _ (by decide)]; exact g2
      · rw [mUpI_sR, sR_ne _ _ (by decide)]; exact g3
      · rw [mUpI_sR, sR_ne _ _ (by decide)]; exact g4
      · unfold mrOK at g6 ⊢
        rw [mUpI_sR, sR_ne _ _ (by decide), sR_ne _ _ (by decide), sR_ne _ _ (by decide), sR_ne _ _ (by decide)]
        exact g6
    have f2 : rF1 (mUpI b.2.2 215 p (nI k)) l (vK l p (nI k)) := by
      refine ⟨v2.1, ?_, hsk⟩
      rw [mUpI_sR, sR_ne _ _ (by decide)]
      exact i3.2.1
    have s2 : sM τ (mUpI b.2.2 215 p (nI k)) := sM_t i1 (sM_s _ (by omega) (by omega) _)
    obtain ⟨τ3, e3, s3, a3, k3⟩ := r_isSeen d hl (vK_ok hl p (nI k)) v2 f2 hs hn (by rw [s2.1 240 (by omega)]; exact h240) (R := R) (by rw [s2.2.2 242 (by omega)]; exact hR) htd
    have n3 : rN τ3 (wK l p) (fL2 (seB l p R n) k) := by
      unfold rN at i4 ⊢
      rw [k3.1 233 (by decide) (by decide) (by decide), k3.1 234 (by decide) (by decide) (by decide), k3.2 35 (by decide), mUpI_sR, sR_ne _ _ (by decide), sR_ne _ _ (by decide), sR_ne _ _ (by decide)]
      exact i4
    have s4 := sM_t s2 s3
    rw [q_M_layFits_32, show decide ((64 : Int32) ≤ nI k) = false from decide_eq_false (nI_ge (b := 64) hk (by decide)), cF, mIn_nI (by omega) (by omega), cT, nI_clamp (by omega), e3, mBI_s, bI_n, nI_1]
    cases hb : soB (win l (vK l p (nI k))) R n with
    | false =>
      refine ⟨(mKl b.1, b.2.1, τ3), rfl, s4, ⟨_, a3.1⟩, ⟨_, a3.2.1⟩, ?_⟩
      rw [fL2_f (c := seB l p R n) (k := k) hb]
      exact n3
    | true =>
      generalize hL : fL2 (seB l p R n) k = L at hlen n3
      have h35 := n3.1
      rw [cT, h35, mIn_nI (by omega) (by omega), cT, nI_clamp (by omega)]
      obtain ⟨τ4, e4, j1, j2, j3, j4⟩ := mForI (fun q (_ : Unit) (t : mS) => Xx (d + 8) n_M_layFits 72 [.ref 200, .int (nI s), .int (nI p), b.1, .int (nI k), .int (nI q)] [] t) (fun q t => sM τ3 t ∧ (∀ b, b ≠ 234 → t.1 b = (sR τ3 233 (upd (τ3.1 233) L.length (nI k))).1 b) ∧ (∀ i, i < 5 * L.length → t.1 234 i = τ3.1 234 i) ∧ (∀ i, i < q → t.1 234 (5 * L.length + i) = oI (wK l p k i))) (fun _ a => a) 5 () (sR τ3 233 (upd (τ3.1 233) L.length (nI k))) ⟨sM_s _ (by omega) (by omega) _, fun _ _ => rfl, fun _ _ => rfl, fun i h => absurd h (by omega)⟩ (by
        intro q t hq hJ
        obtain ⟨j1, j2, j3, j4⟩ := hJ
        have e35 : t.1 200 35 = nI L.length := by rw [j2 200 (by decide), sR_ne _ _ (by decide)]; exact h35
        have e225 : t.1 225 q = oI (wK l p k q) := by rw [j2 225 (by decide), sR_ne _ _ (by decide)]; exact a3.2.2.1 q hq
        refine ⟨sR t 234 (upd (t.1 234) (5 * L.length + q) (oI (wK l p k q))), ?_, sM_t j1 (sM_s _ (by omega) (by omega) _), fun b hb => ?_, fun i hi => ?_, fun i hi => ?_⟩
        · rw [q_M_layFits_72, show decide ((5 : Int32) ≤ nI q) = false from decide_eq_false (nI_ge (b := 5) hq (by decide)), cF, mIn_nI (by omega) (by omega), cT, e35, show (5 : Int32) = nI 5 from rfl, nI_mul, nI_add, mIn_nI (by omega) (by omega), cT, nI_clamp (by omega), nI_clamp (by omega), e225, nI_1, mUpI_sR]
        · rw [sR_ne _ _ hb]; exact j2 b hb
        · rw [sR_at, upd_ne _ _ (by omega)]; exact j3 i hi
        · rw [sR_at]
          by_cases g : i = q
          · rw [g, upd_at]
          · rw [upd_ne _ _ (by omega)]; exact j4 i (by omega))
      have c35 : τ4.1 200 35 = nI L.length := by rw [j2 200 (by decide), sR_ne _ _ (by decide)]; exact h35
      have s5 : sM τ (mUpI τ4 200 35 (nI (L.length + 1))) := sM_t s4 (sM_t j1 (sM_u _ (by omega) _))
      refine ⟨(mKl b.1, .int 5, mUpI τ4 200 35 (nI (L.length + 1))), ?_, s5, ⟨nI k, ?_⟩, ⟨nI k, ?_⟩, ?_⟩
      · rw [mUpI_sR]
        refine Eq.trans e4 ?_
        rw [q_M_layFits_72, show decide ((5 : Int32) ≤ nI 5) = true by decide, cT, c35, nI_1, nI_1]
        rfl
      · refine rV_c a3.1 ?_ ?_ ?_ ?_ ?_ ?_
        · rw [mUpI_sR, sR_ne _ _ (by decide), j2 _ (by decide), sR_ne _ _ (by decide)]
        · intro k _ _
          rw [mUpI_sR, sR_at, upd_ne _ _ (by omega), j2 _ (by decide), sR_ne _ _ (by decide)]
        all_goals rw [mUpI_sR, sR_ne _ _ (by decide), j2 _ (by decide), sR_ne _ _ (by decide)]
      · have := a3.2.1
        unfold rF1 at this ⊢
        rw [mUpI_sR, sR_ne _ _ (by decide), sR_ne _ _ (by decide), sR_ne _ _ (by decide), j2 201 (by decide), j2 223 (by decide), j2 215 (by decide), sR_ne _ _ (by decide), sR_ne _ _ (by decide), sR_ne _ _ (by decide)]
        exact this
      · rw [fL2_t (c := seB l p R n) (k := k) hb, hL]
        refine ⟨?_, fun j x hx => ?_⟩
        · rw [mUpI_sR, sR_at, upd_at, List.length_append]; rfl
        · rw [mUpI_sR, sR_ne _ _ (by decide), sR_ne _ _ (by decide), j2 233 (by decide), sR_at]
          rcases app_get hx with h | ⟨h, rfl⟩
          · have hj : j < L.length := by
              rcases Nat.lt_or_ge j L.length with g | g
              · exact g
              · rw [List.getElem?_eq_none g] at h; cases h
            obtain ⟨m1, m2⟩ := n3.2 j x h
            refine ⟨by rw [upd_ne _ _ (by omega)]; exact m1, fun q hq => ?_⟩
            rw [j3 _ (by omega)]
            exact m2 q hq
          · rw [h]
            exact ⟨upd_at _ _ _, fun q hq => j4 q hq⟩)
  refine ⟨τ2, ?_, i1, i4⟩
  rw [c_M_layFits, r_isPerson _ _ τ (lM_P hM) (by omega), mBI_s, mIn_nI hp (by omega), bI_n, cT, e1, mBI_s, show decide ((0 : Int32) ≤ 0) = true by decide, cT]
  refine Eq.trans e2 ?_
  rw [q_M_layFits_32, show decide ((64 : Int32) ≤ nI 64) = true by decide, cT]
