/-! ===== reading keeps to the bounds ===== -/
variable {σ τ : mS} {l : Lv} {B : Nat → Int32} {n : Nat}
theorem pBd_ok {α β : Type} {r : Pr α} {f : α → Pr β} {y : β} (h : pBd r f = .ok y) : ∃ x, r = .ok x ∧ f x = .ok y := by
  cases r with
  | error e => cases h
  | ok x => exact ⟨x, rfl, h⟩
/-- a later token -/
def tkG (n : Nat) (T T' : Tok) : Prop := tkO n T' ∧ T.2.2.1 ≤ T'.2.1
theorem nx_G {T : Tok} (h : tkO n T) : tkG n T (nxT B n T) := tok_O B h.2.1
theorem tkG_t {T T' T'' : Tok} (h : tkG n T T') (g : tkG n T' T'') : tkG n T T'' := ⟨g.1, Nat.le_trans h.2 (Nat.le_trans h.1.1 g.2)⟩
theorem num_G {a b c : Int} {T : Tok} {x : Nat × Tok} (h : pNum B n a b c T = .ok x) (ht : tkO n T) : tkG n T x.2 := by
  rw [(pNum_ok h).2.1]
  exact nx_G ht
theorem word_G {s : Nat} {T T' : Tok} (h : pWord B n s T = .ok T') (ht : tkO n T) : tkG n T T' := by
  unfold pWord at h
  cases hw : isW B s T with
  | false => rw [hw] at h; cases h
  | true =>
    rw [hw] at h
    cases h
    exact nx_G ht
theorem two_ok {P : Nat} {T : Tok} {x : Nat × Nat × Tok} (h : pTwo B n P T = .ok x) (ht : tkO n T) : x.1 < P ∧ x.2.1 < P ∧ x.1 ≠ x.2.1 ∧ tkG n T x.2.2 := by
  unfold pTwo at h
  obtain ⟨a, ha, h⟩ := pBd_ok h
  obtain ⟨b, hb, h⟩ := pBd_ok h
  cases h
  have q1 := pNum_ok ha
  have q2 := pNum_ok hb
  have g1 := num_G ha ht
  dsimp only
  exact ⟨by omega, by omega, by omega, tkG_t g1 (num_G hb g1.1)⟩
/-- as far as skills go -/
def tkGe (n : Nat) (T T' : Tok) : Prop := tkO n T' ∧ T.2.1 ≤ T'.2.1
theorem sk_ok : ∀ m (s : Nat) (T : Tok) (x : Int32 × Tok), s < 64 → tkO n T → pSk B n m (nI s) T = .ok x → tkGe n T x.2 ∧ ∃ k, k < 64 ∧ x.1 = nI k := by
  intro m
  induction m with
  | zero =>
    intro s T x hs ht h
    cases h
    exact ⟨⟨ht, Nat.le_refl _⟩, s, hs, rfl⟩
  | succ m ih =>
    intro s T x hs ht h
    unfold pSk at h
    cases hk : decide (T.1 = 2) with
    | false =>
      rw [hk] at h
      cases h
      exact ⟨⟨ht, Nat.le_refl _⟩, s, hs, rfl⟩
    | true =>
      rw [hk, cT] at h
      by_cases g : 6 ≤ T.2.2.2
      · rw [dT _ g] at h; cases h
      · rw [dF _ g, Bool.false_or] at h
        cases hb : bt (nI s) T.2.2.2 with
        | true => rw [hb] at h; cases h
        | false =>
          rw [hb, cF] at h
          have e1 : (1 : Int32) <<< (nI T.2.2.2 &&& 31) = nI (2 ^ T.2.2.2) := by
            have : ∀ k, k < 6 → (1 : Int32) <<< (nI k &&& 31) = nI (2 ^ k) := by decide
            exact this _ (by omega)
          have hp : 2 ^ T.2.2.2 < 64 := by
            have : ∀ k, k < 6 → 2 ^ k < 64 := by decide
            exact this _ (by omega)
          have e2 : nI s ||| nI (2 ^ T.2.2.2) = nI (s ||| 2 ^ T.2.2.2) := by
            apply b_ext
            intro i hi
            rw [b_or, bt_nI hi, bt_nI hi, bt_nI hi, Nat.testBit_or]
          rw [e1, e2] at h
          have gx := nx_G (B := B) ht
          obtain ⟨r1, r2⟩ := ih (s ||| 2 ^ T.2.2.2) (nxT B n T) x (Nat.or_lt_two_pow (n := 6) hs hp) gx.1 h
          exact ⟨⟨r1.1, Nat.le_trans (Nat.le_trans ht.1 gx.2) r1.2⟩, r2⟩
theorem sk_bw {k : Nat} (h : k < 64) : bw 0 (nI k) 63 := ⟨by rw [nI_toInt (by omega)]; omega, by rw [nI_toInt (by omega)]; omega⟩
/-- what is told so far is a land but for its lines -/
def lvF (l : Lv) : Prop := lvW l ∧ lY l ≤ 12 ∧ bw 0 (lLaw l) 3 ∧ bw 0 (lOdd l) 10 ∧ (∀ p, p < lP l → bw 0 (lSk l p) 63) ∧ (∀ c, c < 36 → bw (-60) (lFe l c) 60) ∧ (∀ p, p < 6 → lFe l (7 * p) = 0) ∧ (∀ q, q < lQ l → bw 0 (lAs l q) 63 ∧ lWh l q < 12) ∧ (∀ x ∈ lWr l, ddOK (lP l) x ∧ 1 ≤ x.2.2.1.toInt) ∧ lAc l = []
theorem lvF_emp : lvF emp := by
  have z : bw 0 (0 : Int32) 3 ∧ bw 0 (0 : Int32) 10 ∧ bw (-60) (0 : Int32) 60 := ⟨⟨by decide, by decide⟩, ⟨by decide, by decide⟩, by decide, by decide⟩
  exact ⟨⟨by decide, by decide, by decide, by decide⟩, by decide, z.1, z.2.1, fun p hp => absurd hp (Nat.not_lt_zero _), fun c _ => z.2.2, fun _ _ => rfl, fun q hq => absurd hq (Nat.not_lt_zero _), (fun x hx => by cases hx), rfl⟩
theorem bw_n {a : Int} {b k : Nat} (h1 : a ≤ (k : Int)) (h2 : k ≤ b) (hb : b < 2 ^ 31) : bw a (nI k) b := ⟨by rw [nI_toInt (by omega)]; exact h1, by rw [nI_toInt (by omega)]; omega⟩
theorem open_ok {T : Tok} {x : Tok × Lv} (h : pOpen B n T l = .ok x) (ht : tkO n T) (hl : lvF l) : lvF x.2 ∧ tkG n T x.1 ∧ lLn x.2 = lLn l ∧ 1 ≤ lY x.2 := by
  unfold pOpen at h
  obtain ⟨T2, e1, h⟩ := pBd_ok h
  obtain ⟨y, e2, h⟩ := pBd_ok h
  obtain ⟨T4, e3, h⟩ := pBd_ok h
  obtain ⟨w, e4, h⟩ := pBd_ok h
  obtain ⟨T6, e5, h⟩ := pBd_ok h
  obtain ⟨o, e6, h⟩ := pBd_ok h
  cases h
  have g0 := nx_G (B := B) ht
  have g1 := word_G e1 g0.1
  have g2 := num_G e2 g1.1
  have g3 := word_G e3 g2.1
  have g4 := num_G e4 g3.1
  have g5 := word_G e5 g4.1
  have g6 := num_G e6 g5.1
  have q2 := pNum_ok e2
  have q4 := pNum_ok e4
  have q6 := pNum_ok e6
  obtain ⟨a1, a2, a3, a4, a5, a6, a7, a8, a9, b1⟩ := hl
  exact ⟨⟨a1, by show y.1 ≤ 12; omega, bw_n (b := 3) (by omega) (by omega) (by decide), bw_n (b := 10) (by omega) (by omega) (by decide), a5, a6, a7, a8, a9, b1⟩, tkG_t g0 (tkG_t g1 (tkG_t g2 (tkG_t g3 (tkG_t g4 (tkG_t g5 g6))))), rfl, by show 1 ≤ y.1; omega⟩
theorem pers_ok {T : Tok} {x : Tok × Lv} (h : pPers B n T l = .ok x) (ht : tkO n T) (hl : lvF l) : lvF x.2 ∧ tkG n T x.1 ∧ lLn x.2 = lLn l ∧ lY x.2 = lY l := by
  unfold pPers at h
  by_cases g : lP l < 6
  · rw [dT _ g, cT] at h
    obtain ⟨s, e1, h⟩ := pBd_ok h
    cases h
    have g0 := nx_G (B := B) ht
    obtain ⟨r1, k, hk, ek⟩ := sk_ok 7 0 _ s (by decide) g0.1 e1
    obtain ⟨⟨c1, c2, c3, c4⟩, a2, a3, a4, a5, a6, a7, a8, a9, b1⟩ := hl
    refine ⟨⟨⟨by show lP l + 1 ≤ 6; omega, c2, c3, c4⟩, a2, a3, a4, fun p hp => ?_, a6, a7, a8, fun w hw => ?_, b1⟩, ⟨r1.1, Nat.le_trans g0.2 r1.2⟩, rfl, rfl⟩
    · have hp' : p < lP l + 1 := hp
      show bw 0 (upd (lSk l) (lP l) s.1 p) 63
      by_cases e : p = lP l
      · rw [e, upd_at, ek]; exact sk_bw hk
      · rw [upd_ne _ _ e]; exact a5 p (by omega)
    · have := a9 w hw
      obtain ⟨⟨d1, d2, d3, d4, d5⟩, d6⟩ := this
      exact ⟨⟨by show w.1 < lP l + 1; omega, by show w.2.1 < lP l + 1; omega, d3, d4, d5⟩, d6⟩
  · rw [dF _ g] at h; cases h
theorem bond_ok {sg : Int32} (hsg : sg = 1 ∨ sg = -1) {T : Tok} {x : Tok × Lv} (h : pBond B n sg T l = .ok x) (ht : tkO n T) (hl : lvF l) : lvF x.2 ∧ tkG n T x.1 ∧ lLn x.2 = lLn l ∧ lY x.2 = lY l := by
  unfold pBond at h
  by_cases g : lB l < 20
  · rw [dT _ g, cT] at h
    obtain ⟨ab, e1, h⟩ := pBd_ok h
    obtain ⟨v, e2, h⟩ := pBd_ok h
    cases h
    have g0 := nx_G (B := B) ht
    obtain ⟨t1, t2, t3, t4⟩ := two_ok e1 g0.1
    have g2 := num_G e2 t4.1
    have q2 := pNum_ok e2
    obtain ⟨⟨c1, c2, c3, c4⟩, a2, a3, a4, a5, a6, a7, a8, a9, b1⟩ := hl
    refine ⟨⟨⟨c1, c2, by show lB l + 1 ≤ 20; omega, c4⟩, a2, a3, a4, a5, fun c hc => ?_, fun p hp => ?_, a8, a9, b1⟩, tkG_t g0 (tkG_t t4 g2), rfl, rfl⟩
    · show bw (-60) (upd (lFe l) (6 * ab.1 + ab.2.1) (sg * nI v.1) c) 60
      by_cases e : c = 6 * ab.1 + ab.2.1
      · rw [e, upd_at]
        rcases hsg with rfl | rfl
        · rw [Int32.one_mul]
          exact bw_n (b := 60) (by omega) (by omega) (by decide)
        · have e3 : (-1 : Int32) * nI v.1 = -nI v.1 := by rw [Int32.neg_mul, Int32.one_mul]
          rw [e3]
          have e4 : (-nI v.1).toInt = -(v.1 : Int) := by
            rw [Int32.toInt_neg, nI_toInt (by omega), Int.bmod_eq_of_le (by omega) (by omega)]
          exact ⟨by rw [e4]; omega, by rw [e4]; omega⟩
      · rw [upd_ne _ _ e]; exact a6 c hc
    · show upd (lFe l) (6 * ab.1 + ab.2.1) (sg * nI v.1) (7 * p) = 0
      rw [upd_ne _ _ (by omega)]; exact a7 p hp
  · rw [dF _ g] at h; cases h
theorem wrong_ok {T : Tok} {x : Tok × Lv} (h : pWrong B n T l = .ok x) (ht : tkO n T) (hl : lvF l) : lvF x.2 ∧ tkG n T x.1 ∧ lLn x.2 = lLn l ∧ lY x.2 = lY l := by
  unfold pWrong at h
  by_cases g : (lWr l).length < 8
  · rw [dT _ g, cT] at h
    obtain ⟨ab, e1, h⟩ := pBd_ok h
    obtain ⟨v, e2, h⟩ := pBd_ok h
    obtain ⟨T4, e3, h⟩ := pBd_ok h
    obtain ⟨y, e4, h⟩ := pBd_ok h
    cases h
    have g0 := nx_G (B := B) ht
    obtain ⟨t1, t2, t3, t4⟩ := two_ok e1 g0.1
    have g2 := num_G e2 t4.1
    have g3 := word_G e3 g2.1
    have g4 := num_G e4 g3.1
    have q2 := pNum_ok e2
    have q4 := pNum_ok e4
    obtain ⟨⟨c1, c2, c3, c4⟩, a2, a3, a4, a5, a6, a7, a8, a9, b1⟩ := hl
    refine ⟨⟨⟨c1, c2, c3, ?_⟩, a2, a3, a4, a5, a6, a7, a8, fun w hw => ?_, b1⟩, tkG_t g0 (tkG_t t4 (tkG_t g2 (tkG_t g3 g4))), rfl, rfl⟩
    · show (lWr l ++ [(ab.1, ab.2.1, nI v.1, y.1)]).length ≤ 8
      rw [List.length_append]
      simp only [List.length_cons, List.length_nil]
      omega
    · rcases List.mem_append.mp (show w ∈ lWr l ++ [(ab.1, ab.2.1, nI v.1, y.1)] from hw) with hm | hm
      · exact a9 w hm
      · rw [List.mem_singleton] at hm
        subst hm
        have e5 : (nI v.1).toInt = (v.1 : Int) := nI_toInt (by omega)
        exact ⟨⟨t1, t2, t3, bw_n (b := 40) (by omega) (by omega) (by decide), by show y.1 < 12; omega⟩, by show 1 ≤ (nI v.1).toInt; rw [e5]; omega⟩
  · rw [dF _ g] at h; cases h
theorem post_ok {T : Tok} {x : Tok × Lv} (h : pPost B n T l = .ok x) (ht : tkO n T) (hl : lvF l) : lvF x.2 ∧ tkG n T x.1 ∧ lLn x.2 = lLn l ∧ lY x.2 = lY l := by
  unfold pPost at h
  by_cases g : lQ l < 5
  · rw [dT _ g, cT] at h
    obtain ⟨T2, e1, h⟩ := pBd_ok h
    obtain ⟨y, e2, h⟩ := pBd_ok h
    obtain ⟨s, e3, h⟩ := pBd_ok h
    cases h
    have g0 := nx_G (B := B) ht
    have g1 := word_G e1 g0.1
    have g2 := num_G e2 g1.1
    have q2 := pNum_ok e2
    obtain ⟨r1, k, hk, ek⟩ := sk_ok 7 0 _ s (by decide) g2.1 e3
    have gg := tkG_t g0 (tkG_t g1 g2)
    obtain ⟨⟨c1, c2, c3, c4⟩, a2, a3, a4, a5, a6, a7, a8, a9, b1⟩ := hl
    refine ⟨⟨⟨c1, by show lQ l + 1 ≤ 5; omega, c3, c4⟩, a2, a3, a4, a5, a6, a7, fun q hq => ?_, a9, b1⟩, ⟨r1.1, Nat.le_trans gg.2 r1.2⟩, rfl, rfl⟩
    have hq' : q < lQ l + 1 := hq
    show bw 0 (upd (lAs l) (lQ l) s.1 q) 63 ∧ updN (lWh l) (lQ l) y.1 q < 12
    unfold updN
    by_cases e : q = lQ l
    · rw [e, upd_at, ek, if_pos rfl]; exact ⟨sk_bw hk, by omega⟩
    · rw [upd_ne _ _ e, if_neg e]; exact a8 q (by omega)
  · rw [dF _ g] at h; cases h
theorem later_ok {T : Tok} {x : Tok × Lv} (h : pLater B n T l = .ok x) (ht : tkO n T) (hl : lvF l) : lvF x.2 ∧ tkG n T x.1 ∧ lLn x.2 = lLn l ∧ lY x.2 = lY l := by
  unfold pLater at h
  cases h1 : isW B 314 T with
  | true => rw [h1] at h; exact pers_ok h ht hl
  | false =>
    rw [h1, cF] at h
    cases h2 : isW B 315 T with
    | true => rw [h2] at h; exact bond_ok (Or.inl rfl) h ht hl
    | false =>
      rw [h2, cF] at h
      cases h3 : isW B 316 T with
      | true => rw [h3] at h; exact bond_ok (Or.inr rfl) h ht hl
      | false =>
        rw [h3, cF] at h
        cases h4 : isW B 317 T with
        | true => rw [h4] at h; exact wrong_ok h ht hl
        | false =>
          rw [h4, cF] at h
          cases h5 : isW B 318 T with
          | true => rw [h5] at h; exact post_ok h ht hl
          | false => rw [h5] at h; cases h
/-- what holds between lines -/
def pI (n : Nat) (T : Tok) (l : Lv) : Prop := tkO n T ∧ lvF l ∧ lLn l ≤ T.2.1 ∧ (lLn l = 0 → l = emp) ∧ (0 < lLn l → 1 ≤ lY l)
theorem line_ok {T : Tok} {x : Tok × Lv} (h : pLine B n T l = .ok x) (hI : pI n T l) (hk : T.1 ≠ 0) : pI n x.1 x.2 ∧ lLn x.2 = lLn l + 1 := by
  obtain ⟨ht, hl, hs, h0, hy⟩ := hI
  unfold pLine at h
  cases h1 : (decide (lLn l = 0) == isW B 310 T) with
  | false => rw [h1] at h; cases h
  | true =>
    rw [h1, cT] at h
    obtain ⟨r, e1, h⟩ := pBd_ok h
    cases h3 : decide (r.1.1 = 3) with
    | false => rw [h3] at h; cases h
    | true =>
      rw [h3, cT] at h
      cases h
      have key : lvF r.2 ∧ tkG n T r.1 ∧ lLn r.2 = lLn l ∧ 1 ≤ lY r.2 := by
        by_cases g : lLn l = 0
        · rw [dT _ g] at e1
          exact open_ok e1 ht hl
        · rw [dF _ g] at e1
          obtain ⟨a, b, c, d⟩ := later_ok e1 ht hl
          exact ⟨a, b, c, by rw [d]; exact hy (by omega)⟩
      obtain ⟨k1, k2, k3, k4⟩ := key
      have g := nx_G (B := B) k2.1
      have t5 := ht.2.2.2.2 hk
      have r1 := k2.1.1
      have e5 : lLn (addL r.2) = lLn l + 1 := by show lLn r.2 + 1 = _; rw [k3]
      refine ⟨⟨g.1, k1, ?_, fun e => ?_, fun _ => k4⟩, e5⟩
      · show lLn r.2 + 1 ≤ (nxT B n r.1).2.1
        have := k2.2
        have := g.2
        rw [k3]
        omega
      · have e' : lLn r.2 + 1 = 0 := e
        omega
theorem lvF_OK {T : Tok} (h : pI n T l) (hn : n ≤ 800) : lvOK l := by
  obtain ⟨ht, ⟨⟨c1, c2, c3, c4⟩, a2, a3, a4, a5, a6, a7, a8, a9, b1⟩, hs, h0, hy⟩ := h
  have := ht.1
  have := ht.2.1
  refine ⟨a2, c1, c2, by omega, c3, ⟨fun h => hy h, fun h => ?_⟩, fun h => ?_, a3, a4, a5, a6, a7, a8, a9, (fun x hx => by rw [b1] at hx; cases hx), c4, by rw [b1]; decide⟩
  · rcases Nat.eq_zero_or_pos (lLn l) with e | e
    · rw [h0 e] at h; exact absurd h (by decide)
    · exact e
  · rw [h0 h]; exact ⟨rfl, rfl⟩

