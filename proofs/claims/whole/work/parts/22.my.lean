/-! ===== the reference's years ===== -/
theorem nI_lt36 {a b : Nat} (ha : a < 6) (hb : b < 6) : 6 * b + a < 36 := by omega
set_option maxHeartbeats 4000000 in
theorem r_wrongDone (d : Nat) {a b : Nat} (ha : a < 6) (hb : b < 6) (n : Int32) (σ : mS) : Cc (d + 1) n_M_wrongDone [.ref 200, .int (nI a), .int (nI b), .int n] σ = some (.null, sR σ 224 (upd (σ.1 224) (6 * b + a) (vMx (σ.1 224 (6 * b + a) - n) (-60)))) := by
  rw [Cc_s, q_M_wrongDone_0]
  simp (disch := omega) only [li_6, nI_mul, nI_add, mIn_nI, nI_clamp, cT, mUpI_sR]
  rw [vMx_comm]
/-- a deed done on a row of feelings -/
def wSt (y : Nat) (W : List Dd) (out : Option Nat) (k : Nat) (N : Nat → Int32) : Nat → Int32 := if out = some k then N else (match W[k]? with | some x => (if x.2.2.2 = y then upd N (6 * x.2.1 + x.1) (if x.2.2.1 = 0 then vMx (N (6 * x.2.1 + x.1)) 0 else vMx (N (6 * x.2.1 + x.1) - x.2.2.1) (-60)) else N) | none => N)
theorem wSt_c (y : Nat) (W : List Dd) (out : Option Nat) (k : Nat) (N : Nat → Int32) (c : Nat) : wSt y W out k N c = if out = some k then N c else (match W[k]? with | some x => ddS y c (N c) x | none => N c) := by
  unfold wSt
  by_cases h : out = some k
  · rw [if_pos h, if_pos h]
  · rw [if_neg h, if_neg h]
    cases W[k]? with
    | none => rfl
    | some x =>
      show (if x.2.2.2 = y then _ else N) c = ddS y c (N c) x
      unfold ddS
      by_cases h1 : x.2.2.2 = y
      · rw [if_pos h1]
        by_cases h2 : 6 * x.2.1 + x.1 = c
        · subst h2
          rw [upd_at]
          exact (if_pos ⟨h1, rfl⟩).symm
        · rw [upd_ne _ _ (fun q => h2 q.symm)]
          exact (if_neg (fun q => h2 q.2)).symm
      · rw [if_neg h1, if_neg (fun q => h1 q.1)]
/-- all deeds of a year on a row -/
def wAl (y : Nat) (W : List Dd) (out : Option Nat) (N : Nat → Int32) : Nat → Int32 := mF (wSt y W out) W.length N
theorem wAl_c (y : Nat) (W : List Dd) (out : Option Nat) (N : Nat → Int32) (c : Nat) : wAl y W out N c = ddL y c W out (N c) := by
  unfold wAl ddL
  have := mF_rel (fun _ (N : Nat → Int32) (v : Int32) => N c = v) (wSt y W out) (fun i v => if out = some i then v else (match W[i]? with | some x => ddS y c v x | none => v)) W.length N (N c) rfl (fun k x z _ h => by rw [wSt_c, h])
  exact this
/-- what the reference's land gives of a wrong told -/
theorem lM_wr {f : Nat → Int32} {l : Lv} (h : lM f l) {k : Nat} (hk : k < (lWr l).length) : ∃ x, (lWr l)[k]? = some x ∧ f (51 + 4 * k) = nI x.1 ∧ f (52 + 4 * k) = nI x.2.1 ∧ f (53 + 4 * k) = x.2.2.1 ∧ f (54 + 4 * k) = nI x.2.2.2 := by
  have e : (lWr l)[k]? = some (lWr l)[k] := List.getElem?_eq_getElem hk
  exact ⟨_, e, h.2.2.2.2.1 k _ e⟩
theorem mInL {k n : Nat} (h : k < n) (hn : n < 2 ^ 31) {x : Int32} (e : x = nI k) : mIn x n = true := by rw [e]; exact mIn_nI h hn
set_option maxHeartbeats 4000000 in
/-- the wrongs told of a year -/
theorem r_goW (d y : Nat) (hy : y < 12) (l : Lv) (hl : lvOK l) (σ : mS) (hM : lM (σ.1 201) l) (out : Option Nat) (ho : σ.1 200 22 = oI out) (ho2 : ∀ i, out = some i → i < 2 ^ 31) (v3 : Value) (N : Nat → Int32) : ∃ v, Xx (d + 1) n_M_goYears 41 [.ref 200, .int (nI y), .int (nI 0), v3] [] (sR σ 224 N) = Xx (d + 1) n_M_goYears 41 [.ref 200, .int (nI y), .int (nI (lWr l).length), v] [] (sR σ 224 (wAl y (lWr l) out N)) := by
  have hlen : (lWr l).length ≤ 8 := hl.2.2.2.2.2.2.2.2.2.2.2.2.2.2.2.1
  have hwr := hl.2.2.2.2.2.2.2.2.2.2.2.2.2.1
  have h6 : lP l ≤ 6 := hl.2.1
  have hs := mFor (fun k (a : (Nat → Int32) × Value) => Xx (d + 1) n_M_goYears 41 [.ref 200, .int (nI y), .int (nI k), a.2] [] (sR σ 224 a.1)) (fun k a => (wSt y (lWr l) out k a.1, .int (nI (51 + 4 * k)))) (lWr l).length (N, v3) (by
    intro k hk
    generalize mF _ k (N, v3) = a
    obtain ⟨N', v'⟩ := a
    dsimp only
    obtain ⟨x, hx, e0, e1, e2, e3⟩ := lM_wr hM hk
    obtain ⟨⟨o1, o2, o3, o4, o5⟩, o6⟩ := hwr x (List.mem_of_getElem? hx)
    rw [q_M_goYears_41]
    simp (disch := omega) only [li_1, li_2, li_3, li_4, li_5, li_51, nI_mul, nI_add, mIn_nI, nI_clamp, cT, sR_ne _ _ (show 201 ≠ 224 by decide), sR_ne _ _ (show 200 ≠ 224 by decide), hM.1.2.2.2.2.2.1]
    rw [dle (by omega) (by omega), dF _ (by omega), cF]
    rw [show 51 + 4 * k + 3 = 54 + 4 * k by omega, show 51 + 4 * k + 1 = 52 + 4 * k by omega, show 51 + 4 * k + 2 = 53 + 4 * k by omega, e0, e1, e2, e3, ho, oI_eq (by omega) ho2, dne (by omega) (by omega)]
    unfold wSt
    by_cases hq : out = some k
    · rw [if_pos hq, dT _ hq]
      cases decide (¬ x.2.2.2 = y) <;> rfl
    · rw [if_neg hq, dF _ hq, hx]
      by_cases hz : x.2.2.2 = y
      · rw [dF _ (fun q => q hz), cF, cF, r_wrongDone d (by omega) (by omega), mBV_s]
        dsimp only
        rw [if_pos hz, sR_at, sR_sR, if_neg (fun q => by rw [q] at o6; exact absurd o6 (by decide))]
      · rw [dT _ hz, cT]
        dsimp only
        rw [if_neg hz])
  have key : (mF (fun k (a : (Nat → Int32) × Value) => (wSt y (lWr l) out k a.1, Value.int (nI (51 + 4 * k)))) (lWr l).length (N, v3)).1 = wAl y (lWr l) out N := by
    unfold wAl
    exact mF_rel (fun _ (a : (Nat → Int32) × Value) (b : Nat → Int32) => a.1 = b) _ (wSt y (lWr l) out) _ (N, v3) N rfl (fun k a b _ h => by dsimp only; rw [h])
  exact ⟨_, by rw [← key]; exact hs⟩
