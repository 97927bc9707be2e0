/-! ===== questions on what was seen ===== -/
variable {σ τ : mS} {l : Lv}
theorem seL_len (l : Lv) (p : Nat) (R : Nat → Int64) (n : Nat) : (seL l p R n).length ≤ 64 := fL2_len _ _
theorem wK_ix (hl : lvOK l) (p s q : Nat) : ix (wK l p s q) < 7 := by
  have h1 := lvP hl
  unfold wK ix
  cases h : win l (vK l p (nI s)) q with
  | none => exact (by decide)
  | some p => have := win_lt hl h; dsimp only; omega
/-- both looks -/
theorem t_look (D : Nat) (t : tL σ l) {sz : Nat → Option Nat} {wi : Nat → Nat} (hsl : slT σ sz wi) (x y : Int32) : (∃ r : Int32, r < 0 ∧ Cc (D + 11) n_E_lookInto [.ref 0, .int x, .int y] σ = some (.int r, σ) ∧ Cc (D + 11) n_M_layFits [.ref 200, .int x, .int y, .null, .null, .null] σ = some (.int r, σ)) ∨ ∃ L w σ1 τ2, L.length ≤ 64 ∧ (∀ s q, ix (w s q) < 7) ∧ Cc (D + 11) n_E_lookInto [.ref 0, .int x, .int y] σ = some (.int 0, σ1) ∧ sC σ σ1 ∧ tL σ1 l ∧ kN σ1 (lQ l) w L ∧ Cc (D + 11) n_M_layFits [.ref 200, .int x, .int y, .null, .null, .null] σ1 = some (.int 0, τ2) ∧ sM σ1 τ2 ∧ rN τ2 w L := by
  have h1 := lvP t.1
  have h4 := lvLn t.1
  have e1 : Cc (D + 11) n_E_lookInto [.ref 0, .int x, .int y] σ = (bif mIn x 4 then (bif mIn y (lP l) then (bif mIn x 4 then (bif decide ((0 : Int32) ≤ (σ.1 14 (x : Int32).toNatClampNeg)) then (mBI (Cc (D + 10) n_Si_isTold [.ref 15, .int x, .null, .null, .null] σ) fun r6 τ5 => (bif decide (¬ (r6 : Int32) = 0) then (mBV (Cc (D + 10) n_Si_look [.ref 15, .int x, .int y, .null] τ5) fun τ7 => (some (.int 0, τ7))) else (some (.int (-2), τ5)))) else (some (.int (-6), σ))) else none) else some (.int (-2), σ)) else some (.int (-2), σ)) := by
    rw [c_E_lookInto, k_isSlot, mBI_s, bI_0, k_isPerson _ _ σ (tP t) (by omega), mBI_s, bI_n]
    cases mIn x 4 <;> rfl
  have e2 : ∀ τ : mS, lM (τ.1 201) l → Cc (D + 11) n_M_layFits [.ref 200, .int x, .int y, .null, .null, .null] τ = (bif mIn y (lP l) then (mBI (Cc (D + 10) n_M_askSeen [.ref 200, .int x, .null] τ) fun r4 τ3 => (bif decide ((0 : Int32) ≤ r4) then Xx (D + 10) n_M_layFits 32 [.ref 200, .int x, .int y, .int r4, .int 0, .null] [] (mUpI τ3 200 35 0) else (some (.int r4, τ3)))) else some (.int (-2), τ)) := by
    intro τ hM
    rw [c_M_layFits, r_isPerson _ _ τ (lM_P hM) (by omega), mBI_s, bI_n]
  rw [e1, e2 σ t.2.2.2]
  cases hy : mIn y (lP l) with
  | false =>
    refine Or.inl ⟨-2, by decide, ?_, rfl⟩
    cases mIn x 4 <;> rfl
  | true =>
    obtain ⟨p, hp, rfl⟩ := mIn_of hy
    have hld := lvLand t.1 (Or.inr (Or.inl (by omega)))
    cases hx : mIn x 4 with
    | false =>
      refine Or.inl ⟨-2, by decide, rfl, ?_⟩
      rw [c_M_askSeen, r_isSlot, mBI_s, hx, bI_0]
      rfl
    | true =>
      obtain ⟨s, hs, rfl⟩ := mIn_of hx
      obtain ⟨a1, a2, a3, -, -, -⟩ := hsl.1 s hs
      rw [cT, cT, cT, cT, nI_clamp (by omega), a1]
      cases hz : sz s with
      | none =>
        refine Or.inl ⟨-6, by decide, rfl, ?_⟩
        rw [c_M_askSeen, r_isSlot, mBI_s, hx, bI_0, bnot_t, cF, r_isLand _ σ (lM_Ln t.2.2.2) (by omega), mBI_s, decide_eq_true hld, bI_n, cT, cT, nI_clamp (by omega), a2, hz]
        rfl
      | some n =>
        have hn := a3 n hz
        rw [hz] at a1 a2
        rw [oI_s, dT _ (Int32.not_lt.mp (nI_pos (by omega))), cT, k_isTold _ t hs hn a1, mBI_s, bI_n]
        have ht := r_askSeen (D + 5) t.1 t.2.2.2 hld hs hn a2 (R := σ.2 (9 + s)) (hsl.2 s hs)
        cases htd : tdB l (σ.2 (9 + s)) n with
        | false =>
          refine Or.inl ⟨-2, by decide, rfl, ?_⟩
          rw [ht.1 htd, mBI_s]
          rfl
        | true =>
          obtain ⟨σ1, f1, f2, f3, f4⟩ := k_look (D + 4) t hs hn a1 htd hp
          have sl1 := slT_sC hsl f2
          obtain ⟨τ2, g1, g2, g3⟩ := r_layFits (D + 2) t.1 f3.2.2.2 hld hs hn (by rw [f2.1 240 (by omega)]; exact a2) (R := σ.2 (9 + s)) (fun i hi => by rw [sl1.2 s hs i hi, f2.2]) htd hp
          refine Or.inr ⟨seL l p (σ.2 (9 + s)) n, wK l p, σ1, τ2, seL_len _ _ _ _, wK_ix t.1 p, ?_, f2, f3, f4, g1, g2, g3⟩
          rw [cT, f1]
          rfl
theorem lt0 {r : Int32} (h : r < 0) : decide (r = 0) = false ∧ decide ((0 : Int32) ≤ r) = false := ⟨decide_eq_false (fun e => by rw [e] at h; exact absurd h (by decide)), decide_eq_false (Int32.not_le.mpr h)⟩
theorem t_fits (D : Nat) (t : tL σ l) {sz : Nat → Option Nat} {wi : Nat → Nat} (hsl : slT σ sz wi) (x y : Int32) : qryT (D + 12) n_E_fits n_M_fits [.ref 0, .int x, .int y, .null] [.ref 200, .int x, .int y, .null] σ := by
  unfold qryT
  rw [c_E_fits]
  rcases t_look D t hsl x y with ⟨r, hr, e1, e2⟩ | ⟨L, w, σ1, τ2, hL, hw, e1, s1, t1, n1, e2, s2, n2⟩
  · refine ⟨r, σ, σ, ?_, sC_r σ, ?_, sM_r σ⟩
    · rw [e1, mBI_s, (lt0 hr).1, cF]
    · rw [c_M_fits, e2, mBI_s, (lt0 hr).2, cF]
  · refine ⟨nI L.length, σ1, τ2, ?_, s1, ?_, s2⟩
    · rw [e1, mBI_s, n1.1]; rfl
    · rw [c_M_fits, e2, mBI_s, n2.1]; rfl
theorem mF_list {α : Type} (f : α → Nat → α) (L : List Nat) (a : α) : mF (fun k b => f b (L.getD k 0)) L.length a = L.foldl f a := by
  have key : ∀ k, k ≤ L.length → mF (fun k b => f b (L.getD k 0)) k a = (L.take k).foldl f a := by
    intro k
    induction k with
    | zero => intro _; rfl
    | succ k ih =>
      intro hk
      show f (mF _ k a) (L.getD k 0) = _
      rw [ih (by omega), List.take_add_one, List.foldl_append, List.getElem?_eq_getElem (by omega), List.getD_eq_getElem?_getD, List.getElem?_eq_getElem (by omega)]
      rfl
  rw [key _ (Nat.le_refl _), List.take_length]
theorem get_D {L : List Nat} {k : Nat} (h : k < L.length) : L[k]? = some (L.getD k 0) := by
  rw [List.getD_eq_getElem?_getD, List.getElem?_eq_getElem h]
  rfl
theorem t_surely (D : Nat) (t : tL σ l) {sz : Nat → Option Nat} {wi : Nat → Nat} (hsl : slT σ sz wi) (x y : Int32) : qryT (D + 12) n_E_surely n_M_surely [.ref 0, .int x, .int y, .null] [.ref 200, .int x, .int y, .null, .null, .null] σ := by
  unfold qryT
  rw [c_E_surely]
  rcases t_look D t hsl x y with ⟨r, hr, e1, e2⟩ | ⟨L, w, σ1, τ2, hL, hw, e1, s1, t1, n1, e2, s2, n2⟩
  · refine ⟨r, σ, σ, ?_, sC_r σ, ?_, sM_r σ⟩
    · rw [e1, mBI_s, (lt0 hr).1, cF]
    · rw [c_M_surely, e2, mBI_s, (lt0 hr).2, cF]
  · refine ⟨bif decide (¬ nI L.length = 0) then andL L else -1, σ1, τ2, ?_, s1, ?_, s2⟩
    · rw [e1, mBI_s, n1.1, n1.2.1, show decide ((0 : Int32) = 0) = true by decide, cT]
      cases decide (¬ nI L.length = 0) <;> rfl
    · obtain ⟨v, e⟩ := mForH (fun k (a : Int32) (b : Value) => Xx (D + 11) n_M_surely 20 [.ref 200, .int x, .int y, b, .int a, .int (nI k)] [] τ2) (fun k a => a &&& nI (L.getD k 0)) L.length 63 (.int 0) (by
        intro k b hk
        generalize mF _ k (63 : Int32) = a
        refine ⟨mKl b, ?_⟩
        rw [q_M_surely_20, n2.1, dle (by omega) (by omega), dF _ (by omega), cF, mIn_nI (by omega) (by omega), cT, nI_clamp (by omega), (n2.2 k _ (get_D hk)).1, nI_1])
      rw [c_M_surely, e2, mBI_s, show decide ((0 : Int32) ≤ 0) = true by decide, cT]
      refine Eq.trans e ?_
      rw [q_M_surely_20, n2.1, dT _ (Int32.le_refl _), cT, mF_list (fun a s => a &&& nI s)]
      unfold andL
      cases decide (¬ nI L.length = 0) <;> rfl
theorem t_never (D : Nat) (t : tL σ l) {sz : Nat → Option Nat} {wi : Nat → Nat} (hsl : slT σ sz wi) (x y : Int32) : qryT (D + 12) n_E_never n_M_never [.ref 0, .int x, .int y, .null] [.ref 200, .int x, .int y, .null, .null, .null] σ := by
  unfold qryT
  rw [c_E_never]
  rcases t_look D t hsl x y with ⟨r, hr, e1, e2⟩ | ⟨L, w, σ1, τ2, hL, hw, e1, s1, t1, n1, e2, s2, n2⟩
  · refine ⟨r, σ, σ, ?_, sC_r σ, ?_, sM_r σ⟩
    · rw [e1, mBI_s, (lt0 hr).1, cF]
    · rw [c_M_never, e2, mBI_s, (lt0 hr).2, cF]
  · refine ⟨bif decide (¬ nI L.length = 0) then (63 : Int32) &&& (orL L ^^^ (-1)) else -1, σ1, τ2, ?_, s1, ?_, s2⟩
    · rw [e1, mBI_s, n1.1, n1.2.2.1, show decide ((0 : Int32) = 0) = true by decide, cT]
      cases decide (¬ nI L.length = 0) <;> rfl
    · obtain ⟨v, e⟩ := mForH (fun k (a : Int32) (b : Value) => Xx (D + 11) n_M_never 19 [.ref 200, .int x, .int y, b, .int a, .int (nI k)] [] τ2) (fun k a => a ||| nI (L.getD k 0)) L.length 0 (.int 0) (by
        intro k b hk
        generalize mF _ k (0 : Int32) = a
        refine ⟨mKl b, ?_⟩
        rw [q_M_never_19, n2.1, dle (by omega) (by omega), dF _ (by omega), cF, mIn_nI (by omega) (by omega), cT, nI_clamp (by omega), (n2.2 k _ (get_D hk)).1, nI_1])
      rw [c_M_never, e2, mBI_s, show decide ((0 : Int32) ≤ 0) = true by decide, cT]
      refine Eq.trans e ?_
      rw [q_M_never_19, n2.1, dT _ (Int32.le_refl _), cT, mF_list (fun a s => a ||| nI s)]
      unfold orL
      cases decide (¬ nI L.length = 0) <;> rfl
/-! what is left at worst -/
def mxF (f : Nat → Nat) (n : Nat) : Nat := mF (fun k m => max m (f k)) n 0
theorem mxF_le {f : Nat → Nat} {n B : Nat} (h : ∀ k, k < n → f k ≤ B) : mxF f n ≤ B := by
  induction n with
  | zero => exact Nat.zero_le _
  | succ n ih =>
    show max (mxF f n) (f n) ≤ B
    exact Nat.max_le.mpr ⟨ih (fun k hk => h k (by omega)), h n (by omega)⟩
theorem le_mxF {f : Nat → Nat} {n k : Nat} (h : k < n) : f k ≤ mxF f n := by
  induction n with
  | zero => omega
  | succ n ih =>
    show f k ≤ max (mxF f n) (f n)
    rcases Nat.lt_or_ge k n with g | g
    · exact Nat.le_trans (ih g) (Nat.le_max_left _ _)
    · rw [show k = n by omega]; exact Nat.le_max_right _ _
def wM (w : Nat → Nat → Option Nat) (L : List Nat) (q : Nat) : Nat := mxF (ctE w L q) 7
theorem wM_le (w : Nat → Nat → Option Nat) (L : List Nat) (q : Nat) : wM w L q ≤ L.length := mxF_le (fun k _ => ctE_le w L q k)
theorem wM_ref {w : Nat → Nat → Option Nat} (hw : ∀ s q, ix (w s q) < 7) (L : List Nat) (q : Nat) : mxF (fun a => ctE w L q (ix (w (L.getD a 0) q))) L.length = wM w L q := by
  refine Nat.le_antisymm (mxF_le (fun k _ => le_mxF (f := ctE w L q) (hw _ _))) (mxF_le (fun e he => ?_))
  rcases Nat.eq_zero_or_pos (ctE w L q e) with z | z
  · omega
  · unfold ctE at z
    obtain ⟨s, hs⟩ := List.exists_mem_of_length_pos z
    have hs := List.mem_filter.mp hs
    obtain ⟨a, ha, ea⟩ := List.mem_iff_getElem.mp hs.1
    have e2 := of_decide_eq_true hs.2
    have e3 : L.getD a 0 = s := by rw [List.getD_eq_getElem?_getD, List.getElem?_eq_getElem ha, ea]; rfl
    have := le_mxF (f := fun a => ctE w L q (ix (w (L.getD a 0) q))) ha
    rw [e3, e2] at this
    exact this
theorem vMx_nI {a b : Nat} (ha : a < 2 ^ 31) (hb : b < 2 ^ 31) : vMx (nI a) (nI b) = nI (max a b) := by
  unfold vMx
  by_cases g : a < b
  · rw [if_pos ((nI_ltI ha hb).mpr g), Nat.max_eq_right (by omega)]
  · rw [if_neg (fun x => g ((nI_ltI ha hb).mp x)), Nat.max_eq_left (by omega)]
theorem k_leftAtWorst (d : Nat) {w : Nat → Nat → Option Nat} {L : List Nat} {Q q : Nat} (hQ : Q ≤ 5) (h : kN σ Q w L) (hL : L.length ≤ 64) (hq : q < Q) : Cc (d + 1) n_Si_leftAtWorst [.ref 15, .int (nI q), .null, .null] σ = some (.int (nI (wM w L q)), σ) := by
  rw [c_Si_leftAtWorst]
  have key := mFor (fun k (a : Nat) => Xx d n_Si_leftAtWorst 4 [.ref 15, .int (nI q), .int (nI a), .int (nI k)] [] σ) (fun k m => max m (ctE w L q k)) 7 0 (by
    intro k hk
    have h1 : mF (fun k m => max m (ctE w L q k)) k 0 ≤ 64 := mxF_le (f := ctE w L q) (fun k _ => Nat.le_trans (ctE_le w L q k) hL)
    have h2 := ctE_le w L q k
    generalize mF _ k 0 = m at h1 ⊢
    show Xx d n_Si_leftAtWorst 4 [.ref 15, .int (nI q), .int (nI m), .int (nI k)] [] σ = Xx d n_Si_leftAtWorst 4 [.ref 15, .int (nI q), .int (nI (max m (ctE w L q k))), .int (nI (k + 1))] [] σ
    rw [q_Si_leftAtWorst_4, show decide ((7 : Int32) ≤ nI k) = false from decide_eq_false (nI_ge (b := 7) hk (by decide)), cF, show (7 : Int32) = nI 7 from rfl, nI_mul, nI_add, mIn_nI (by omega) (by omega), cT, nI_clamp (by omega), Nat.mul_comm, h.2.2.2 q hq k hk, vMx_nI (by omega) (by omega), nI_1])
  refine Eq.trans key ?_
  show Xx d n_Si_leftAtWorst 4 [.ref 15, .int (nI q), .int (nI (wM w L q)), .int (nI 7)] [] σ = _
  rw [q_Si_leftAtWorst_4, show decide ((7 : Int32) ≤ nI 7) = true by decide, cT]
def tpG (w : Nat → Nat → Option Nat) (L : List Nat) (q : Nat) (a : Int32 × Nat) : Int32 × Nat := bif decide (wM w L q < a.2) then (nI q, wM w L q) else a
def tp (w : Nat → Nat → Option Nat) (L : List Nat) (Q : Nat) : Int32 × Nat := mF (tpG w L) Q (-1, L.length)
theorem tp_le (w : Nat → Nat → Option Nat) (L : List Nat) (Q : Nat) : (tp w L Q).2 ≤ L.length := by
  unfold tp
  induction Q with
  | zero => exact Nat.le_refl _
  | succ Q ih =>
    show (tpG w L Q (mF (tpG w L) Q (-1, L.length))).2 ≤ _
    generalize mF (tpG w L) Q (-1, L.length) = a at ih ⊢
    unfold tpG
    cases decide (wM w L Q < a.2) with
    | true => exact wM_le w L Q
    | false => exact ih
theorem tp_is (w : Nat → Nat → Option Nat) (L : List Nat) (Q : Nat) : ((tp w L Q).1 = -1 ∧ (tp w L Q).2 = L.length) ∨ ∃ q, q < Q ∧ (tp w L Q).1 = nI q ∧ (tp w L Q).2 = wM w L q := by
  unfold tp
  induction Q with
  | zero => exact Or.inl ⟨rfl, rfl⟩
  | succ Q ih =>
    have e : mF (tpG w L) (Q + 1) (-1, L.length) = tpG w L Q (mF (tpG w L) Q (-1, L.length)) := rfl
    rw [e]
    generalize mF (tpG w L) Q (-1, L.length) = a at ih ⊢
    unfold tpG
    cases decide (wM w L Q < a.2) with
    | true => exact Or.inr ⟨Q, Nat.lt_succ_self Q, rfl, rfl⟩
    | false =>
      rcases ih with h | ⟨q, h1, h2⟩
      · exact Or.inl h
      · exact Or.inr ⟨q, by omega, h2⟩
theorem k_tellingPost (d : Nat) (t : tL σ l) {w : Nat → Nat → Option Nat} {L : List Nat} (h : kN σ (lQ l) w L) (hL : L.length ≤ 64) : Cc (d + 2) n_Si_tellingPost [.ref 15, .null, .null, .null, .null] σ = some (.int (tp w L (lQ l)).1, σ) := by
  have h3 := lvQ t.1
  rw [c_Si_tellingPost, h.1]
  obtain ⟨v, e⟩ := mForH (fun k (a : Int32 × Nat) (b : Value) => Xx (d + 1) n_Si_tellingPost 9 [.ref 15, .int a.1, .int (nI a.2), .int (nI k), b] [] σ) (tpG w L) (lQ l) (-1, L.length) .null (by
    intro k b hk
    have h1 : (mF (tpG w L) k (-1, L.length)).2 ≤ L.length := tp_le w L k
    generalize mF (tpG w L) k (-1, L.length) = a at h1 ⊢
    have h2 := wM_le w L k
    refine ⟨.int (nI (wM w L k)), ?_⟩
    show Xx (d + 1) n_Si_tellingPost 9 [.ref 15, .int a.1, .int (nI a.2), .int (nI k), b] [] σ = _
    rw [q_Si_tellingPost_9, tQ t, dle (by omega) (by omega), dF _ (by omega), cF, k_leftAtWorst _ (by omega) h hL hk, mBI_s, dle (by omega) (by omega), nI_1]
    unfold tpG
    by_cases g : wM w L k < a.2
    · rw [dF _ (by omega), dT _ g]; rfl
    · rw [dT _ (by omega), dF _ g]; rfl)
  refine Eq.trans e ?_
  rw [q_Si_tellingPost_9, tQ t, dT _ (Int32.le_refl _), cT]
  rfl
theorem oI_ixe {x y : Option Nat} (hx : ix x < 7) (hy : ix y < 7) : decide (¬ oI x = oI y) = decide (¬ ix y = ix x) := by
  apply decide_eq_decide.mpr
  apply not_congr
  constructor
  · intro h
    have : oI x + 1 = oI y + 1 := by rw [h]
    rw [oI_ix, oI_ix] at this
    exact ((nI_eq (by omega) (by omega)).mp this).symm
  · intro h
    rw [ix_inj h]
theorem r_askOf (d : Nat) (hl : lvOK l) (hM : lM (τ.1 201) l) {w : Nat → Nat → Option Nat} {L : List Nat} (h : rN τ w L) (hL : L.length ≤ 64) (hw : ∀ s q, ix (w s q) < 7) : ∃ τ', Cc (d + 2) n_M_askOf [.ref 200, .null, .null, .null, .null, .null, .null] τ = some (.int (tp w L (lQ l)).1, τ') ∧ sM τ τ' ∧ τ'.1 200 36 = nI (tp w L (lQ l)).2 := by
  have h3 := lvQ hl
  rw [c_M_askOf, h.1]
  obtain ⟨⟨va, vb, vc, vd, τ2⟩, e, i1, i2, i3, i4⟩ := mForI (fun k (a : Int32 × Nat) (b : Value × Value × Value × Value × mS) => Xx (d + 1) n_M_askOf 12 [.ref 200, .int a.1, .int (nI k), b.1, b.2.1, b.2.2.1, b.2.2.2.1] [] b.2.2.2.2) (fun k b => sM τ b.2.2.2.2 ∧ rN b.2.2.2.2 w L ∧ lM (b.2.2.2.2.1 201) l ∧ b.2.2.2.2.1 200 36 = nI (tp w L k).2) (tpG w L) (lQ l) (-1, L.length) (.null, .null, .null, .null, mUpI τ 200 36 (nI L.length)) ⟨sM_u _ (by omega) _, ⟨by rw [mUpI_sR, sR_at, upd_ne _ _ (by decide)]; exact h.1, by rw [mUpI_sR, sR_ne _ _ (by decide), sR_ne _ _ (by decide)]; exact h.2⟩, by rw [mUpI_sR, sR_ne _ _ (by decide)]; exact hM, by rw [mUpI_sR, sR_at, upd_at]; rfl⟩ (by
    intro q b hq hI
    obtain ⟨i1, i2, i3, i4⟩ := hI
    obtain ⟨v1, v2, v3, v4, u⟩ := b
    dsimp only at i1 i2 i3 i4 ⊢
    have h1 : (tp w L q).2 ≤ L.length := tp_le w L q
    have eq1 : tp w L (q + 1) = tpG w L q (tp w L q) := rfl
    have eq2 : mF (tpG w L) q (-1, L.length) = tp w L q := rfl
    rw [eq1, eq2]
    generalize tp w L q = a at h1 i4 ⊢
    rw [q_M_askOf_12, r_posts, mBI_s, lM_Q i3, dle (by omega) (by omega), dF _ (by omega), cF]
    obtain ⟨⟨wa, wb⟩, f⟩ := mForH (fun k (m : Nat) (b : Value × Value) => Xx (d + 1) n_M_askOf 25 [.ref 200, .int a.1, .int (nI q), .int (nI m), .int (nI k), b.1, b.2] [] u) (fun k m => max m (ctE w L q (ix (w (L.getD k 0) q)))) L.length 0 (v3, v4) (by
      intro k b hk
      have g1 : mF (fun k m => max m (ctE w L q (ix (w (L.getD k 0) q)))) k 0 ≤ 64 := mxF_le (f := fun a => ctE w L q (ix (w (L.getD a 0) q))) (fun k _ => Nat.le_trans (ctE_le w L q _) hL)
      generalize mF _ k 0 = m at g1 ⊢
      have g2 := ctE_le w L q (ix (w (L.getD k 0) q))
      refine ⟨(.int (nI (ctE w L q (ix (w (L.getD k 0) q)))), .int (nI L.length)), ?_⟩
      show Xx (d + 1) n_M_askOf 25 [.ref 200, .int a.1, .int (nI q), .int (nI m), .int (nI k), b.1, b.2] [] u = Xx (d + 1) n_M_askOf 25 [.ref 200, .int a.1, .int (nI q), .int (nI (max m (ctE w L q (ix (w (L.getD k 0) q))))), .int (nI (k + 1)), .int (nI (ctE w L q (ix (w (L.getD k 0) q)))), .int (nI L.length)] [] u
      rw [q_M_askOf_25, i2.1, dle (by omega) (by omega), dF _ (by omega), cF]
      have f2 := mFor (fun j (c : Nat) => Xx (d + 1) n_M_askOf 40 [.ref 200, .int a.1, .int (nI q), .int (nI m), .int (nI k), .int (nI c), .int (nI j)] [] u) (fun j c => (fun c s => c + (if ix (w s q) = ix (w (L.getD k 0) q) then 1 else 0)) c (L.getD j 0)) L.length 0 (by
        intro j hj
        generalize mF _ j 0 = c
        show Xx (d + 1) n_M_askOf 40 [.ref 200, .int a.1, .int (nI q), .int (nI m), .int (nI k), .int (nI c), .int (nI j)] [] u = Xx (d + 1) n_M_askOf 40 [.ref 200, .int a.1, .int (nI q), .int (nI m), .int (nI k), .int (nI (c + (if ix (w (L.getD j 0) q) = ix (w (L.getD k 0) q) then 1 else 0))), .int (nI (j + 1))] [] u
        rw [q_M_askOf_40, i2.1, dle (by omega) (by omega), dF _ (by omega), cF, show (5 : Int32) = nI 5 from rfl, nI_mul, nI_mul, nI_add, nI_add, mIn_nI (by omega) (by omega), cT, mIn_nI (by omega) (by omega), cT, nI_clamp (by omega), nI_clamp (by omega), (i2.2 k _ (get_D hk)).2 q (by omega), (i2.2 j _ (get_D hj)).2 q (by omega), oI_ixe (hw _ _) (hw _ _), nI_1, nI_1, Int32.add_zero]
        by_cases g : ix (w (L.getD j 0) q) = ix (w (L.getD k 0) q)
        · rw [dF _ (fun h => h g), if_pos g]; rfl
        · rw [dT _ g, if_neg g]; rfl)
      refine Eq.trans f2 ?_
      rw [mF_list (fun c s => c + (if ix (w s q) = ix (w (L.getD k 0) q) then 1 else 0)) L 0]
      have e5 : ∀ (M : List Nat) (c : Nat), M.foldl (fun c s => c + (if ix (w s q) = ix (w (L.getD k 0) q) then 1 else 0)) c = c + ctE w M q (ix (w (L.getD k 0) q)) := by
        intro M
        induction M with
        | nil => intro c; rfl
        | cons s M ih =>
          intro c
          rw [List.foldl_cons, ih]
          have := ctE_app w [] s q (ix (w (L.getD k 0) q))
          have e6 : ctE w (s :: M) q (ix (w (L.getD k 0) q)) = (if ix (w s q) = ix (w (L.getD k 0) q) then 1 else 0) + ctE w M q (ix (w (L.getD k 0) q)) := by
            unfold ctE
            by_cases g : ix (w s q) = ix (w (L.getD k 0) q)
            · rw [List.filter_cons_of_pos (by rw [decide_eq_true g]), if_pos g, List.length_cons, Nat.add_comm]
            · rw [List.filter_cons_of_neg (by rw [decide_eq_false g]; decide), if_neg g, Nat.zero_add]
          rw [e6, Nat.add_assoc]
      rw [e5, Nat.zero_add, q_M_askOf_40, i2.1, dT _ (Int32.le_refl _), cT, vMx_nI (by omega) (by omega), nI_1])
    have e6 : mF (fun k m => max m (ctE w L q (ix (w (L.getD k 0) q)))) L.length 0 = wM w L q := wM_ref hw L q
    have g3 := wM_le w L q
    have f' := f
    rw [e6] at f'
    have f3 : Xx (d + 1) n_M_askOf 25 [.ref 200, .int a.1, .int (nI q), .int 0, .int 0, v3, v4] [] u = Xx (d + 1) n_M_askOf 25 [.ref 200, .int a.1, .int (nI q), .int (nI (wM w L q)), .int (nI L.length), wa, wb] [] u := f'
    rw [f3, q_M_askOf_25, i2.1, dT _ (Int32.le_refl _), cT, i4, dlt (by omega) (by omega), nI_1]
    unfold tpG
    cases hd : decide (wM w L q < a.2) with
    | true => exact ⟨(.int (nI (wM w L q)), .int (nI L.length), wa, wb, mUpI u 200 36 (nI (wM w L q))), rfl, sM_t i1 (sM_u _ (by omega) _), ⟨by rw [mUpI_sR, sR_at, upd_ne _ _ (by decide)]; exact i2.1, by rw [mUpI_sR, sR_ne _ _ (by decide), sR_ne _ _ (by decide)]; exact i2.2⟩, by rw [mUpI_sR, sR_ne _ _ (by decide)]; exact i3, by rw [mUpI_sR, sR_at, upd_at]; rfl⟩
    | false => exact ⟨(.int (nI (wM w L q)), .int (nI L.length), wa, wb, u), rfl, i1, i2, i3, i4⟩)
  dsimp only at i1 i2 i3 i4
  refine ⟨τ2, Eq.trans e ?_, i1, i4⟩
  rw [q_M_askOf_12, r_posts, mBI_s, lM_Q i3, dT _ (Int32.le_refl _), cT]
  rfl
theorem t_ask (D : Nat) (t : tL σ l) {sz : Nat → Option Nat} {wi : Nat → Nat} (hsl : slT σ sz wi) (x y : Int32) : qryT (D + 12) n_E_ask n_M_ask [.ref 0, .int x, .int y, .null] [.ref 200, .int x, .int y, .null] σ := by
  unfold qryT
  rw [c_E_ask]
  rcases t_look D t hsl x y with ⟨r, hr, e1, e2⟩ | ⟨L, w, σ1, τ2, hL, hw, e1, s1, t1, n1, e2, s2, n2⟩
  · refine ⟨r, σ, σ, ?_, sC_r σ, ?_, sM_r σ⟩
    · rw [e1, mBI_s, (lt0 hr).1, cF]
    · rw [c_M_ask, e2, mBI_s, (lt0 hr).2, cF]
  · obtain ⟨τ3, e3, s3, -⟩ := r_askOf (D + 9) t.1 (tL_sM t1 s2).2.2.2 n2 hL hw
    refine ⟨(tp w L (lQ l)).1, σ1, τ3, ?_, s1, ?_, sM_t s2 s3⟩
    · rw [e1, mBI_s, show decide ((0 : Int32) = 0) = true by decide, cT, k_tellingPost _ t1 n1 hL, mBI_s]
    · rw [c_M_ask, e2, mBI_s, show decide ((0 : Int32) ≤ 0) = true by decide, cT, e3, mBI_s]
theorem t_leaves (D : Nat) (t : tL σ l) {sz : Nat → Option Nat} {wi : Nat → Nat} (hsl : slT σ sz wi) (x y : Int32) : qryT (D + 12) n_E_leaves n_M_leaves [.ref 0, .int x, .int y, .null, .null] [.ref 200, .int x, .int y, .null] σ := by
  have h3 := lvQ t.1
  unfold qryT
  rw [c_E_leaves]
  rcases t_look D t hsl x y with ⟨r, hr, e1, e2⟩ | ⟨L, w, σ1, τ2, hL, hw, e1, s1, t1, n1, e2, s2, n2⟩
  · refine ⟨r, σ, σ, ?_, sC_r σ, ?_, sM_r σ⟩
    · rw [e1, mBI_s, (lt0 hr).1, cF]
    · rw [c_M_leaves, e2, mBI_s, (lt0 hr).2, cF]
  · obtain ⟨τ3, e3, s3, e4⟩ := r_askOf (D + 9) t.1 (tL_sM t1 s2).2.2.2 n2 hL hw
    refine ⟨nI (tp w L (lQ l)).2, σ1, τ3, ?_, s1, ?_, sM_t s2 s3⟩
    · rw [e1, mBI_s, show decide ((0 : Int32) = 0) = true by decide, cT, k_tellingPost _ t1 n1 hL, mBI_s]
      rcases tp_is w L (lQ l) with ⟨g1, g2⟩ | ⟨q, g0, g1, g2⟩
      · rw [g1, g2, n1.1]; rfl
      · rw [g1, g2, nI_m1n (by omega), cT, k_leftAtWorst _ (by omega) n1 hL g0, mBI_s]
    · rw [c_M_leaves, e2, mBI_s, show decide ((0 : Int32) ≤ 0) = true by decide, cT, e3, mBI_s, e4]

