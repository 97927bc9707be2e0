/-! ===== the game: the reference; wins, rests ===== -/
variable {σ τ : mS} {l : Lv}
theorem r_wm (d : Nat) {v : Va} {m : Nat} (hm : m < 2) (h : rV τ l v m) {a b : Nat} (ha : a < 6) (hb : b < 6) (x : Bool) (h0 : vEx v (6 * b + a) = 0) : ∃ τ' m', Cc (d + 1) n_M_wrongMore [.ref 200, .int (nI a), .int (nI b), .int (10 * bI x)] τ = some (.null, τ') ∧ sM τ τ' ∧ m' ≤ m + 1 ∧ rV τ' l (v.1, v.2.1, v.2.2.1, (bif x && !(decide (a = b)) then upd (vEx v) (6 * b + a) 10 else vEx v), v.2.2.2.2) m' := by
  cases x with
  | false =>
    refine ⟨τ, m, ?_, sM_r τ, by omega, h⟩
    rw [c_M_wrongMore, show decide ((10 : Int32) * bI false = 0) = true by decide, cT]
  | true =>
    by_cases e : a = b
    · refine ⟨τ, m, ?_, sM_r τ, by omega, by rw [dT _ e]; exact h⟩
      rw [c_M_wrongMore, show decide ((10 : Int32) * bI true = 0) = false by decide, cF, dne (by omega) (by omega), dF _ (fun q => q e), cF]
    · obtain ⟨τ', e1, s1, v1⟩ := r_wrongMore d hm h ha hb e (n := 10) ⟨by decide, by decide⟩ h0
      exact ⟨τ', m + 1, e1, s1, Nat.le_refl _, by rw [dF _ e]; exact v1⟩
def wnS (l : Lv) (p r : Nat) (x y who : Bool) : Int32 := (bif hsG l p r x y (bif who then r else p) then (9 : Int32) else 0) - 4 * bI (bif who then y else x)
theorem r_winsBy (d : Nat) (hl : lvOK l) (hM : lM (τ.1 201) l) {p r : Nat} (hp : p < lP l) (hr : r < lP l) (hpr : p ≠ r) (x y who : Bool) : ∃ τ', Cc (d + 9) n_M_winsBy [.ref 200, .int (nI p), .int (nI r), .int (bI x), .int (bI y), .int (bI who)] τ = some (.int (wnS l p r x y who), τ') ∧ sM τ τ' := by
  have h1 := lvP hl
  have h3 := lvQ hl
  obtain ⟨τ1, e1, s1, v1⟩ := r_asItIs2 (d + 7) hl hM
  obtain ⟨τ2, m2, e2, s2, l2, v2⟩ := r_wm (d + 7) (by omega) v1 (a := p) (b := lP l - 1) (by omega) (by omega) x rfl
  obtain ⟨τ3, m3, e3, s3, l3, v3⟩ := r_wm (d + 7) (by omega) v2 (a := r) (b := lP l - 1) (by omega) (by omega) y (by
    show (bif x && !(decide (p = lP l - 1)) then upd (fun _ => (0 : Int32)) (6 * (lP l - 1) + p) 10 else fun _ => 0) (6 * (lP l - 1) + r) = 0
    cases (x && !(decide (p = lP l - 1))) with
    | false => rfl
    | true => rw [cT, upd_ne _ _ (by omega)])
  obtain ⟨τ4, e4, s4, a4⟩ := r_goAll d hl (vG_ok hl hp hr x y) v3
  have eL : nI (lP l) - 1 = nI (lP l - 1) := by
    have := nI_pred (lP l - 1)
    rwa [show lP l - 1 + 1 = lP l by omega] at this
  have hb : ∀ w i, hasO (lQ l) (win l (vG l p r x y)) w = some i → i < 2 ^ 31 := fun w i h => by have := hasO_lt h; omega
  refine ⟨τ4, ?_, sM_t s1 (sM_t s2 (sM_t s3 s4))⟩
  rw [c_M_winsBy, e1, mBV_s, r_persons, mBI_s, lM_P v1.1, eL, e2, mBV_s, r_persons, mBI_s, lM_P v2.1, eL, e3, mBV_s, e4, mBV_s, bI_n]
  unfold wnS
  cases who with
  | false =>
    rw [cF, r_hasOf _ h3 (lM_Q a4.1.1) a4.2.2.1 (win_big hl) (by omega), mBI_s, oI_m1n (hb p), cF, cF]
    show (bif hsG l p r x y p then _ else _) = some (Value.int ((bif hsG l p r x y p then (9 : Int32) else 0) - 4 * bI x), τ4)
    cases hsG l p r x y p <;> rfl
  | true =>
    rw [cT, r_hasOf _ h3 (lM_Q a4.1.1) a4.2.2.1 (win_big hl) (by omega), mBI_s, oI_m1n (hb r), cT, cT]
    show (bif hsG l p r x y r then _ else _) = some (Value.int ((bif hsG l p r x y r then (9 : Int32) else 0) - 4 * bI y), τ4)
    cases hsG l p r x y r <;> rfl
theorem mIn2 (x : Int32) : (!(decide (x.toInt64 < 0)) && !(decide ((1 : Int64) < x.toInt64))) = mIn x 2 := in_mIn x (n := 2) (by decide)
theorem part_mIn (x : Int32) : (decide (x = 0) || decide (x = 1)) = mIn x 2 := by
  cases h : mIn x 2 with
  | true =>
    obtain ⟨k, hk, rfl⟩ := mIn_of h
    rcases (show k = 0 ∨ k = 1 by omega) with rfl | rfl <;> rfl
  | false =>
    rw [Bool.or_eq_false_iff]
    constructor
    · apply decide_eq_false
      intro e
      rw [e] at h
      cases h
    · apply decide_eq_false
      intro e
      rw [e] at h
      cases h
theorem part_of {x : Int32} (h : mIn x 2 = true) : ∃ b : Bool, x = bI b := by
  obtain ⟨k, hk, rfl⟩ := mIn_of h
  rcases (show k = 0 ∨ k = 1 by omega) with rfl | rfl
  · exact ⟨false, rfl⟩
  · exact ⟨true, rfl⟩
theorem t_wins (D : Nat) (t : tL σ l) (x y z w : Int32) : qryT (D + 12) n_E_wins n_M_wins [.ref 0, .int x, .int y, .int z, .int w, .null] [.ref 200, .int x, .int y, .int z, .int w] σ := by
  have h1 := lvP t.1
  unfold qryT
  rw [c_E_wins, k_isPair _ x y σ (tP t) (by omega), mBI_s, bI_0, k_isPart, mBI_s, bI_0, k_isPart, mBI_s, bI_n, part_mIn, part_mIn]
  have hM0 : ∀ τ : mS, lM (τ.1 201) l → Cc (D + 12) n_M_wins [.ref 200, .int x, .int y, .int z, .int w] τ = (bif !(mIn x (lP l) && mIn y (lP l) && !(decide (x = y))) then some (.int (-1000), τ) else (bif !(mIn z 2) then some (.int (-1000), τ) else (bif !(mIn w 2) then some (.int (-1000), τ) else (mBI (Cc (D + 11) n_M_winsBy [.ref 200, .int x, .int y, .int z, .int w, .int 0] τ) fun r8 τ7 => some (.int r8, τ7))))) := by
    intro τ hM
    rw [c_M_wins, r_areTwo _ x y τ (lM_P hM) (by omega), mBI_s, bI_0, r_in, mBI_s, mIn2, bI_0, r_in, mBI_s, mIn2, bI_0]
  cases hg : (mIn x (lP l) && mIn y (lP l) && !(decide (x = y))) with
  | false => exact ⟨-1000, σ, σ, rfl, sC_r σ, by rw [hM0 σ t.2.2.2, hg]; rfl, sM_r σ⟩
  | true =>
    cases hz : mIn z 2 with
    | false => exact ⟨-1000, σ, σ, rfl, sC_r σ, by rw [hM0 σ t.2.2.2, hg, hz]; rfl, sM_r σ⟩
    | true =>
      cases hw : mIn w 2 with
      | false => exact ⟨-1000, σ, σ, rfl, sC_r σ, by rw [hM0 σ t.2.2.2, hg, hz, hw]; rfl, sM_r σ⟩
      | true =>
        simp only [Bool.and_eq_true, Bool.not_eq_true', decide_eq_false_iff_not] at hg
        obtain ⟨p, hp, rfl⟩ := mIn_of hg.1.1
        obtain ⟨r, hr, rfl⟩ := mIn_of hg.1.2
        have hpr : p ≠ r := fun e => hg.2 (by rw [e])
        obtain ⟨a, rfl⟩ := part_of hz
        obtain ⟨b, rfl⟩ := part_of hw
        obtain ⟨σ1, e1, o1, t1⟩ := k_play (D + 5) t hp hr hpr (c := bI a ||| (bI b <<< ((1 : Int32) &&& 31))) (x := a) (y := b) (by cases a <;> cases b <;> decide) (by cases a <;> cases b <;> decide)
        obtain ⟨τ, e2, s2⟩ := r_winsBy (D + 2) t.1 t1.2.2.2 hp hr hpr a b false
        refine ⟨wnS l p r a b false, σ1, τ, ?_, sC_k o1, ?_, s2⟩
        · rw [bnot_t, cF, cF, cT, e1, mBI_s, c_E_gain, mBI_s]
          congr 2
          unfold wnS plV
          show Value.int _ = Value.int ((bif hsG l p r a b p then (9 : Int32) else 0) - 4 * bI a)
          generalize hsG l p r a b p = c
          generalize hsG l p r a b r = e
          clear e1 e2 hz hw
          cases a <;> cases b <;> cases c <;> cases e <;> decide
        · rw [hM0 σ1 t1.2.2.2, hg.1.1, hg.1.2, decide_eq_false hg.2, hz, hw]
          simp only [Bool.not_true, Bool.not_false, Bool.and_true, cF]
          rw [show (Value.int 0) = Value.int (bI false) from rfl, e2, mBI_s]
/-! who is content, at rest -/
def gnS (e c : Int32) (s : Int32) : Int32 := ((9 : Int32) * ((e >>> (s &&& 31)) &&& (1 : Int32))) - ((4 : Int32) * ((c >>> (s &&& 31)) &&& (1 : Int32)))
def cnT (e : Int32) (k : Nat) (s : Int32) : Bool := !(decide (gnS (e >>> (((2 : Int32) * nI k) &&& 31)) (nI k) s < gnS (e >>> (((2 : Int32) * (nI k ^^^ ((1 : Int32) <<< (s &&& 31)))) &&& 31)) (nI k ^^^ ((1 : Int32) <<< (s &&& 31))) s))
theorem k_isContent (d : Nat) (e : Int32) (k : Nat) (s : Int32) (σ : mS) : Cc (d + 2) n_E_isContent [.int e, .int (nI k), .int s, .null] σ = some (.int (bI (cnT e k s)), σ) := by
  rw [c_E_isContent, c_E_gain, mBI_s, c_E_gain, mBI_s]
  unfold cnT
  show (bif decide (gnS _ _ s < gnS _ _ s) then _ else _) = _
  generalize decide (gnS (e >>> (((2 : Int32) * nI k) &&& 31)) (nI k) s < gnS (e >>> (((2 : Int32) * (nI k ^^^ ((1 : Int32) <<< (s &&& 31)))) &&& 31)) (nI k ^^^ ((1 : Int32) <<< (s &&& 31))) s) = b
  cases b <;> rfl
def chX (k : Nat) : Bool := Nat.beq k 1 || Nat.beq k 3
def chY (k : Nat) : Bool := Nat.beq k 2 || Nat.beq k 3
def enG (a b : Nat → Bool) : Int32 := mF (fun k w => w ||| (plV (a k) (b k) <<< (((2 : Int32) * nI k) &&& 31))) 4 0
def reC (e : Int32) : Int32 := mF (fun k w => bif (cnT e k 0 && cnT e k 1) then w ||| (1 <<< (nI k &&& 31)) else w) 4 0
theorem k_rests (d : Nat) (t : tL σ l) {p r : Nat} (hp : p < lP l) (hr : r < lP l) (hpr : p ≠ r) : ∃ τ, Xx (d + 6) n_E_rests 17 [.ref 0, .int (nI p), .int (nI r), .int 0, .int 0, .null] [] σ = some (.int (reC (enG (fun k => hsG l p r (chX k) (chY k) p) (fun k => hsG l p r (chX k) (chY k) r))), τ) ∧ sC σ τ := by
  obtain ⟨τ, hs, hI⟩ := mForI (fun k (w : Int32) (s : mS) => Xx (d + 6) n_E_rests 17 [.ref 0, .int (nI p), .int (nI r), .int w, .int (nI k), .null] [] s) (fun _ s => tL s l ∧ sC σ s) (fun k w => w ||| (plV (hsG l p r (chX k) (chY k) p) (hsG l p r (chX k) (chY k) r) <<< (((2 : Int32) * nI k) &&& 31))) 4 0 σ ⟨t, sC_r σ⟩ (by
    intro k s hk hI
    generalize mF _ k (0 : Int32) = w
    obtain ⟨τ, e, o, t1⟩ := k_play d hI.1 hp hr hpr (c := nI k) (x := chX k) (y := chY k) (by rcases (show k = 0 ∨ k = 1 ∨ k = 2 ∨ k = 3 by omega) with rfl | rfl | rfl | rfl <;> decide) (by rcases (show k = 0 ∨ k = 1 ∨ k = 2 ∨ k = 3 by omega) with rfl | rfl | rfl | rfl <;> decide)
    refine ⟨τ, ?_, t1, sC_t hI.2 (sC_k o)⟩
    rw [q_E_rests_17, show decide ((4 : Int32) ≤ nI k) = false from decide_eq_false (nI_ge (b := 4) hk (by decide)), cF, e, mBI_s, nI_1])
  refine ⟨τ, Eq.trans hs ?_, hI.2⟩
  rw [q_E_rests_17, show decide ((4 : Int32) ≤ nI 4) = true by decide, cT]
  show Xx (d + 6) n_E_rests 51 [.ref 0, .int (nI p), .int (nI r), .int (enG (fun k => hsG l p r (chX k) (chY k) p) (fun k => hsG l p r (chX k) (chY k) r)), .int 0, .int 0] [] τ = _
  generalize enG (fun k => hsG l p r (chX k) (chY k) p) (fun k => hsG l p r (chX k) (chY k) r) = e
  have h2 := mFor (fun k (w : Int32) => Xx (d + 6) n_E_rests 51 [.ref 0, .int (nI p), .int (nI r), .int e, .int w, .int (nI k)] [] τ) (fun k w => bif (cnT e k 0 && cnT e k 1) then w ||| (1 <<< (nI k &&& 31)) else w) 4 0 (by
    intro k hk
    generalize mF _ k (0 : Int32) = w
    rw [q_E_rests_51, show decide ((4 : Int32) ≤ nI k) = false from decide_eq_false (nI_ge (b := 4) hk (by decide)), cF, k_isContent, mBI_s, bI_0, k_isContent, mBI_s, bI_0, nI_1]
    cases cnT e k 0 <;> cases cnT e k 1 <;> rfl)
  exact Eq.trans h2 (by rw [q_E_rests_51, show decide ((4 : Int32) ≤ nI 4) = true by decide, cT] <;> rfl)
/-- the reference's -/
def wnG (a b : Nat → Bool) (x y who : Bool) : Int32 := (bif (bif who then b else a) ((bif x then 1 else 0) + (bif y then 2 else 0)) then (9 : Int32) else 0) - 4 * bI (bif who then y else x)
def reM (a b : Nat → Bool) : Int32 := mF (fun k w => bif (!(decide (wnG a b (chX k) (chY k) false < wnG a b (!(chX k)) (chY k) false)) && !(decide (wnG a b (chX k) (chY k) true < wnG a b (chX k) (!(chY k)) true))) then w ||| (1 <<< (nI k &&& 31)) else w) 4 0
theorem wnG_eq (l : Lv) (p r : Nat) (x y who : Bool) : wnS l p r x y who = wnG (fun k => hsG l p r (chX k) (chY k) p) (fun k => hsG l p r (chX k) (chY k) r) x y who := by
  unfold wnS wnG
  cases x <;> cases y <;> cases who <;> rfl
theorem re_eq (a b : Nat → Bool) : reC (enG a b) = reM a b := by
  have key : ∀ a0 a1 a2 a3 b0 b1 b2 b3 : Bool, reC (enG (fun k => match k with | 0 => a0 | 1 => a1 | 2 => a2 | _ => a3) (fun k => match k with | 0 => b0 | 1 => b1 | 2 => b2 | _ => b3)) = reM (fun k => match k with | 0 => a0 | 1 => a1 | 2 => a2 | _ => a3) (fun k => match k with | 0 => b0 | 1 => b1 | 2 => b2 | _ => b3) := by decide +kernel
  have k0 := key (a 0) (a 1) (a 2) (a 3) (b 0) (b 1) (b 2) (b 3)
  have e1 : enG a b = enG (fun k => match k with | 0 => a 0 | 1 => a 1 | 2 => a 2 | _ => a 3) (fun k => match k with | 0 => b 0 | 1 => b 1 | 2 => b 2 | _ => b 3) := mF_congr _ _ 4 0 (fun k hk => by
    generalize mF _ k (0 : Int32) = w
    rcases (show k = 0 ∨ k = 1 ∨ k = 2 ∨ k = 3 by omega) with rfl | rfl | rfl | rfl <;> rfl)
  have e2 : ∀ x y who, wnG a b x y who = wnG (fun k => match k with | 0 => a 0 | 1 => a 1 | 2 => a 2 | _ => a 3) (fun k => match k with | 0 => b 0 | 1 => b 1 | 2 => b 2 | _ => b 3) x y who := by
    intro x y who
    unfold wnG
    cases x <;> cases y <;> cases who <;> rfl
  have e3 : reM a b = reM (fun k => match k with | 0 => a 0 | 1 => a 1 | 2 => a 2 | _ => a 3) (fun k => match k with | 0 => b 0 | 1 => b 1 | 2 => b 2 | _ => b 3) := by
    unfold reM
    simp only [e2]
  rw [e1, e3]
  exact k0
theorem r_rests (d : Nat) (hl : lvOK l) (hM : lM (τ.1 201) l) {p r : Nat} (hp : p < lP l) (hr : r < lP l) (hpr : p ≠ r) : ∃ τ', Xx (d + 9) n_M_rests 17 [.ref 200, .int (nI p), .int (nI r), .int 0, .int 0, .null, .null, .null] [] τ = some (.int (reM (fun k => hsG l p r (chX k) (chY k) p) (fun k => hsG l p r (chX k) (chY k) r)), τ') ∧ sM τ τ' := by
  obtain ⟨⟨v5, v6, v7, τ'⟩, hs, hI⟩ := mForI (fun k (w : Int32) (s : Value × Value × Value × mS) => Xx (d + 9) n_M_rests 17 [.ref 200, .int (nI p), .int (nI r), .int w, .int (nI k), s.1, s.2.1, s.2.2.1] [] s.2.2.2) (fun _ s => lM (s.2.2.2.1 201) l ∧ sM τ s.2.2.2) (fun k w => bif (!(decide (wnS l p r (chX k) (chY k) false < wnS l p r (!(chX k)) (chY k) false)) && !(decide (wnS l p r (chX k) (chY k) true < wnS l p r (chX k) (!(chY k)) true))) then w ||| (1 <<< (nI k &&& 31)) else w) 4 0 (.null, .null, .null, τ) ⟨hM, sM_r τ⟩ (by
    intro k s hk hI
    generalize mF _ k (0 : Int32) = w
    obtain ⟨τ1, e1, s1⟩ := r_winsBy d hl hI.1 hp hr hpr (chX k) (chY k) false
    obtain ⟨τ2, e2, s2⟩ := r_winsBy d hl (sM_lM s1 hI.1) hp hr hpr (!(chX k)) (chY k) false
    obtain ⟨τ3, e3, s3⟩ := r_winsBy d hl (sM_lM s2 (sM_lM s1 hI.1)) hp hr hpr (chX k) (chY k) true
    obtain ⟨τ4, e4, s4⟩ := r_winsBy d hl (sM_lM s3 (sM_lM s2 (sM_lM s1 hI.1))) hp hr hpr (chX k) (!(chY k)) true
    have eX : nI k &&& 1 = bI (chX k) := by rcases (show k = 0 ∨ k = 1 ∨ k = 2 ∨ k = 3 by omega) with rfl | rfl | rfl | rfl <;> decide
    have eY : nI k >>> ((1 : Int32) &&& 31) = bI (chY k) := by rcases (show k = 0 ∨ k = 1 ∨ k = 2 ∨ k = 3 by omega) with rfl | rfl | rfl | rfl <;> decide
    have eN : ∀ b : Bool, (1 : Int32) - bI b = bI (!b) := fun b => by cases b <;> decide
    rw [q_M_rests_17, show decide ((4 : Int32) ≤ nI k) = false from decide_eq_false (nI_ge (b := 4) hk (by decide)), cF, eX, eY, eN, eN, show (Value.int 0) = Value.int (bI false) from rfl, show (Value.int 1) = Value.int (bI true) from rfl, e1, mBI_s, e2, mBI_s, e3, mBI_s, e4, mBI_s, nI_1, or_0]
    by_cases g1 : wnS l p r (chX k) (chY k) false < wnS l p r (!(chX k)) (chY k) false
    · rw [dT _ g1]
      exact ⟨(_, _, _, τ2), rfl, sM_lM s2 (sM_lM s1 hI.1), sM_t hI.2 (sM_t s1 s2)⟩
    · rw [dF _ g1]
      by_cases g2 : wnS l p r (chX k) (chY k) true < wnS l p r (chX k) (!(chY k)) true
      · rw [dT _ g2]
        exact ⟨(_, _, _, τ4), rfl, sM_lM s4 (sM_lM s3 (sM_lM s2 (sM_lM s1 hI.1))), sM_t hI.2 (sM_t s1 (sM_t s2 (sM_t s3 s4)))⟩
      · rw [dF _ g2]
        exact ⟨(_, _, _, τ4), rfl, sM_lM s4 (sM_lM s3 (sM_lM s2 (sM_lM s1 hI.1))), sM_t hI.2 (sM_t s1 (sM_t s2 (sM_t s3 s4)))⟩)
  refine ⟨τ', Eq.trans hs ?_, hI.2⟩
  rw [q_M_rests_17, show decide ((4 : Int32) ≤ nI 4) = true by decide, cT]
  unfold reM
  simp only [wnG_eq]
theorem t_rests (D : Nat) (t : tL σ l) (x y : Int32) : qryT (D + 12) n_E_rests n_M_rests [.ref 0, .int x, .int y, .null, .null, .null] [.ref 200, .int x, .int y, .null, .null, .null, .null, .null] σ := by
  have h1 := lvP t.1
  unfold qryT
  rw [c_E_rests, k_isPair _ x y σ (tP t) (by omega), mBI_s, bI_n]
  cases hg : (mIn x (lP l) && mIn y (lP l) && !(decide (x = y))) with
  | false =>
    refine ⟨-2, σ, σ, rfl, sC_r σ, ?_, sM_r σ⟩
    rw [c_M_rests, r_areTwo _ x y σ (lM_P t.2.2.2) (by omega), mBI_s, bI_n, hg]
    rfl
  | true =>
    have hg' := hg
    simp only [Bool.and_eq_true, Bool.not_eq_true', decide_eq_false_iff_not] at hg
    obtain ⟨p, hp, rfl⟩ := mIn_of hg.1.1
    obtain ⟨r, hr, rfl⟩ := mIn_of hg.1.2
    have hpr : p ≠ r := fun e => hg.2 (by rw [e])
    obtain ⟨σ1, e1, o1⟩ := k_rests (D + 5) t hp hr hpr
    have t1 := tL_sC t o1
    obtain ⟨τ, e2, s2⟩ := r_rests (D + 2) t.1 t1.2.2.2 hp hr hpr
    refine ⟨reM (fun k => hsG l p r (chX k) (chY k) p) (fun k => hsG l p r (chX k) (chY k) r), σ1, τ, ?_, o1, ?_, s2⟩
    · rw [cT, e1, re_eq]
    · rw [c_M_rests, r_areTwo _ _ _ σ1 (lM_P t1.2.2.2) (by omega), mBI_s, bI_n, hg', cT, e2]
