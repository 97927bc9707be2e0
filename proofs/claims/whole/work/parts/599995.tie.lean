/-! ===== the whole tie between the two ===== -/
variable {σ τ υ : mS} {l : Lv}
def hfT (σ : mS) : Prop := ∀ j, j < 6 → σ.1 301 j = nI (facN j)
/-- what the two have in common -/
def Inv (σ : mS) : Prop := ∃ (l : Lv) (im : Nat → Option Lv) (sz : Nat → Option Nat) (wi : Nat → Nat) (n : Nat), tL σ l ∧ imT σ im ∧ slT σ sz wi ∧ tpT σ n ∧ (σ.1 3 2 = σ.1 200 12 ∧ σ.1 3 3 = σ.1 200 13) ∧ hfT σ
/-- all but the land in use -/
def iO (σ : mS) (im : Nat → Option Lv) (sz : Nat → Option Nat) (wi : Nat → Nat) (n : Nat) : Prop := imT σ im ∧ slT σ sz wi ∧ tpT σ n ∧ (σ.1 3 2 = σ.1 200 12 ∧ σ.1 3 3 = σ.1 200 13) ∧ hfT σ
theorem imT_c {im : Nat → Option Lv} (h : imT σ im) (e : ∀ a, a = 18 ∨ a = 203 ∨ a = 202 ∨ (80 ≤ a ∧ a ≤ 134) → τ.1 a = σ.1 a) : imT τ im := by
  intro k hk
  obtain ⟨a, b, c⟩ := h k hk
  refine ⟨by rw [e 18 (by omega)]; exact a, by rw [e 203 (by omega)]; exact b, fun l hl => ?_⟩
  obtain ⟨d1, d2, d3⟩ := c l hl
  exact ⟨d1, lC_c d2 (fun a h1 h2 => e a (by omega)), by rw [e 202 (by omega)]; exact d3⟩
theorem slT_c {sz : Nat → Option Nat} {wi : Nat → Nat} (h : slT σ sz wi) (e : ∀ a, a = 13 ∨ a = 14 ∨ a = 240 ∨ a = 241 → τ.1 a = σ.1 a) (e2 : ∀ a, a = 242 ∨ (9 ≤ a ∧ a ≤ 12) → τ.2 a = σ.2 a) : slT τ sz wi := by
  refine ⟨fun s hs => ?_, fun s hs i hi => ?_⟩
  · rw [e 14 (by omega), e 240 (by omega), e 13 (by omega), e 241 (by omega)]; exact h.1 s hs
  · rw [e2 242 (by omega), e2 (9 + s) (by omega)]; exact h.2 s hs i hi
theorem tpT_c {n : Nat} (h : tpT σ n) (e : ∀ a, a = 1 ∨ a = 2 ∨ a = 204 → τ.1 a = σ.1 a) (e5 : τ.1 200 5 = σ.1 200 5) : tpT τ n := by
  obtain ⟨a, b, c, d⟩ := h
  refine ⟨by rw [e 1 (by omega)]; exact a, by rw [e5]; exact b, c, fun j hj => ?_⟩
  rw [e 2 (by omega), e 204 (by omega)]; exact d j hj
theorem hfT_c (h : hfT σ) (e : τ.1 301 = σ.1 301) : hfT τ := fun j hj => by rw [e]; exact h j hj
theorem iO_u {im : Nat → Option Lv} {sz : Nat → Option Nat} {wi : Nat → Nat} {n : Nat} (h : iO σ im sz wi n) (k : uK σ τ) : iO τ im sz wi n := by
  obtain ⟨a, b, c, d, e⟩ := h
  refine ⟨imT_c a (fun x hx => k.1 x (by omega)), slT_c b (fun x hx => k.1 x (by omega)) (fun x hx => k.2.2 x (by omega)), tpT_c c (fun x hx => k.1 x (by omega)) (k.2.1 5 (by omega)), ?_, hfT_c e (k.1 301 (by omega))⟩
  rw [k.1 3 (by omega), k.2.1 12 (by omega), k.2.1 13 (by omega)]; exact d
theorem Inv_u (h : Inv σ) (k : uK σ τ) {l : Lv} (t : tL τ l) : Inv τ := by
  obtain ⟨_, im, sz, wi, n, _, h⟩ := h
  exact ⟨l, im, sz, wi, n, t, iO_u (σ := σ) h k⟩
/-- one call: both answer alike, and they still have all in common -/
def ok1 (D mE mM : Nat) (aE aM : List Value) (σ : mS) : Prop := ∃ v σ' τ, sc σ σ' ∧ sc σ τ ∧ Cc D mE aE σ = some (.int v, σ') ∧ Cc D mM aM σ' = some (.int v, τ) ∧ Inv τ
def okL (D mE mM : Nat) (aE aM : List Value) (σ : mS) : Prop := ∃ (v : Int64) (σ' τ : mS), sc σ σ' ∧ sc σ τ ∧ Cc D mE aE σ = some (.long v, σ') ∧ Cc D mM aM σ' = some (.long v, τ) ∧ Inv τ
theorem ok_T {D mE mM : Nat} {aE aM : List Value} (h : Inv σ) (q : qryT D mE mM aE aM σ) : ok1 D mE mM aE aM σ := by
  obtain ⟨v, σ', τ, e1, k1, e2, k2⟩ := q
  obtain ⟨l, im, sz, wi, n, t, r⟩ := h
  exact ⟨v, σ', τ, sc_u (uK_C k1), sc_u (uK_t (uK_C k1) (uK_M k2)), e1, e2, Inv_u ⟨l, im, sz, wi, n, t, r⟩ (uK_t (uK_C k1) (uK_M k2)) (tL_sM (tL_sC t k1) k2)⟩
theorem ok_q {D mE mM : Nat} {aE aM : List Value} (h : Inv σ) (q : qry D mE mM aE aM σ) : ok1 D mE mM aE aM σ := ok_T h (qryT_of q)
theorem ok_L {D mE mM : Nat} {aE aM : List Value} (h : Inv σ) (q : qryL D mE mM aE aM σ) : okL D mE mM aE aM σ := by
  obtain ⟨v, σ', τ, e1, k1, e2, k2⟩ := q
  obtain ⟨l, im, sz, wi, n, t, r⟩ := h
  exact ⟨v, σ', τ, sc_u (uK_C k1), sc_u (uK_t (uK_C k1) (uK_M k2)), e1, e2, Inv_u ⟨l, im, sz, wi, n, t, r⟩ (uK_t (uK_C k1) (uK_M k2)) (tL_sM (tL_sC t k1) k2)⟩
theorem ok_c {D mE mM : Nat} {aE aM : List Value} (h : Inv σ) (q : chg D mE mM aE aM σ) : ok1 D mE mM aE aM σ := by
  obtain ⟨v, σ', τ, l', s0, e1, e2, k, t⟩ := q
  exact ⟨v, σ', τ, s0, sc_u k, e1, e2, Inv_u h k t⟩
theorem ok_s {D mE mM : Nat} {aE aM : List Value} (h : Inv σ) (q : sch D mE mM aE aM σ) : ok1 D mE mM aE aM σ := by
  obtain ⟨v, σ', τ, sz', wi', s0, e1, e2, k, s⟩ := q
  obtain ⟨l, im, sz, wi, n, t, a, b, c, d, e⟩ := h
  refine ⟨v, σ', τ, s0, ⟨k 299 (by decide) (by decide) (by decide) (by decide), k 300 (by decide) (by decide) (by decide) (by decide)⟩, e1, e2, l, im, sz', wi', n, ⟨t.1, lC_c t.2.1 (fun x h1 h2 => k x (by omega) (by omega) (by omega) (by omega)), cR_c t.2.2.1 (fun x h1 h2 => k x (by omega) (by omega) (by omega) (by omega)), ?_⟩, imT_c a (fun x hx => k x (by omega) (by omega) (by omega) (by omega)), s, tpT_c c (fun x hx => k x (by omega) (by omega) (by omega) (by omega)) (by rw [k 200 (by decide) (by decide) (by decide) (by decide)]), ?_, hfT_c e (k 301 (by decide) (by decide) (by decide) (by decide))⟩
  · rw [k 201 (by decide) (by decide) (by decide) (by decide)]; exact t.2.2.2
  · rw [k 3 (by decide) (by decide) (by decide) (by decide), k 200 (by decide) (by decide) (by decide) (by decide)]; exact d
theorem ok_f {D mE mM : Nat} {aE aM : List Value} (h : Inv σ) (q : fch D mE mM aE aM σ) : ok1 D mE mM aE aM σ := by
  obtain ⟨v, σ', τ, n', s0, e1, e2, k, s⟩ := q
  obtain ⟨l, im, sz, wi, n, t, a, b, c, d, e⟩ := h
  have kk : ∀ x, x ≠ 1 → x ≠ 2 → x ≠ 200 → x ≠ 204 → x ≠ 206 → τ.1 x = σ.1 x := k.1
  refine ⟨v, σ', τ, s0, ⟨kk 299 (by decide) (by decide) (by decide) (by decide) (by decide), kk 300 (by decide) (by decide) (by decide) (by decide) (by decide)⟩, e1, e2, l, im, sz, wi, n', ⟨t.1, lC_c t.2.1 (fun x h1 h2 => kk x (by omega) (by omega) (by omega) (by omega) (by omega)), cR_c t.2.2.1 (fun x h1 h2 => kk x (by omega) (by omega) (by omega) (by omega) (by omega)), ?_⟩, imT_c a (fun x hx => kk x (by omega) (by omega) (by omega) (by omega) (by omega)), slT_c b (fun x hx => kk x (by omega) (by omega) (by omega) (by omega) (by omega)) (fun x _ => by rw [k.2.2]), s, ?_, hfT_c e (kk 301 (by decide) (by decide) (by decide) (by decide) (by decide))⟩
  · rw [kk 201 (by decide) (by decide) (by decide) (by decide) (by decide)]; exact t.2.2.2
  · rw [kk 3 (by decide) (by decide) (by decide) (by decide) (by decide), k.2.1 12 (by decide), k.2.1 13 (by decide)]; exact d
theorem ok_image (D : Nat) (h : Inv σ) (x : Int32) : ok1 (D + 12) n_E_image n_M_image [.ref 0, .int x] [.ref 200, .int x, .null] σ := by
  obtain ⟨l, im, sz, wi, n, t, a, b, c, d, e⟩ := h
  obtain ⟨v, σ', τ, im', s0, e1, e2, k, s⟩ := t_image D t a x
  have kk : ∀ x, x ≠ 18 → (x < 80 ∨ 134 < x) → x ≠ 202 → x ≠ 203 → τ.1 x = σ.1 x := k.1
  refine ⟨v, σ', τ, s0, ⟨kk 299 (by decide) (by omega) (by decide) (by decide), kk 300 (by decide) (by omega) (by decide) (by decide)⟩, e1, e2, l, im', sz, wi, n, ⟨t.1, lC_c t.2.1 (fun x h1 h2 => kk x (by omega) (by omega) (by omega) (by omega)), cR_c t.2.2.1 (fun x h1 h2 => kk x (by omega) (by omega) (by omega) (by omega)), ?_⟩, s, slT_c b (fun x hx => kk x (by omega) (by omega) (by omega) (by omega)) (fun x _ => by rw [k.2]), tpT_c c (fun x hx => kk x (by omega) (by omega) (by omega) (by omega)) (by rw [kk 200 (by decide) (by omega) (by decide) (by decide)]), ?_, hfT_c e (kk 301 (by decide) (by omega) (by decide) (by decide))⟩
  · rw [kk 201 (by decide) (by omega) (by decide) (by decide)]; exact t.2.2.2
  · rw [kk 3 (by decide) (by omega) (by decide) (by decide), kk 200 (by decide) (by omega) (by decide) (by decide)]; exact d
theorem ok_land (D : Nat) (h : Inv σ) : ok1 (D + 12) n_E_land n_M_land [.ref 0, .null] [.ref 200, .null] σ := by
  obtain ⟨l, im, sz, wi, n, t, a, b, c, d, e⟩ := h
  obtain ⟨c1, c2, c3, c4⟩ := c
  have hb : ∀ j, j < n → bw (-128) (σ.1 2 j) 127 := fun j hj => (c4 j hj).2
  obtain ⟨σ1, k1, q1⟩ := k_read (B := σ.1 2) (D + 3) c3 c1 (fun _ _ => rfl)
  have kk : ∀ x, x ≠ 3 → (x < 60 ∨ 74 < x) → σ1.1 x = σ.1 x := k1.1
  cases hp : pRead (σ.1 2) n with
  | error er =>
    rw [hp] at q1
    obtain ⟨e1, f2, f3⟩ := q1
    have s204 : ∀ j, j < n → (sR σ1 1 (upd (σ1.1 1) 1 0)).1 204 j = σ.1 2 j := fun j hj => by rw [sR_ne _ _ (by decide), kk 204 (by decide) (by omega)]; exact (c4 j hj).1.symm
    obtain ⟨τ, k2, g5, q2⟩ := r_land (B := σ.1 2) (D + 3) (τ := sR σ1 1 (upd (σ1.1 1) 1 0)) c3 hb (by rw [sR_ne _ _ (by decide), kk 200 (by decide) (by omega)]; exact c2) s204
    rw [hp] at q2
    obtain ⟨e2, g12, g13, g201⟩ := q2
    have nn : ∀ x, x ≠ 1 → x ≠ 3 → (x < 60 ∨ 74 < x) → x ≠ 200 → x ≠ 214 → x ≠ 201 → τ.1 x = σ.1 x := fun x h1 h2 h3 h4 h5 h6 => by rw [k2.1 x h4 h5 h6, sR_ne _ _ h1, kk x h2 h3]
    have m201 : τ.1 201 = σ.1 201 := by rw [g201, sR_ne _ _ (by decide), kk 201 (by decide) (by omega)]
    refine ⟨-4, sR σ1 1 (upd (σ1.1 1) 1 0), τ, ⟨by rw [sR_ne _ _ (by decide)]; exact kk 299 (by decide) (by omega), by rw [sR_ne _ _ (by decide)]; exact kk 300 (by decide) (by omega)⟩, ⟨nn 299 (by omega) (by omega) (by omega) (by omega) (by omega) (by omega), nn 300 (by omega) (by omega) (by omega) (by omega) (by omega) (by omega)⟩, ?_, e2, l, im, sz, wi, 0, ⟨t.1, lC_c t.2.1 (fun x h1 h2 => nn x (by omega) (by omega) (by omega) (by omega) (by omega) (by omega)), cR_c t.2.2.1 (fun x h1 h2 => nn x (by omega) (by omega) (by omega) (by omega) (by omega) (by omega)), by rw [m201]; exact t.2.2.2⟩, imT_c a (fun x hx => nn x (by omega) (by omega) (by omega) (by omega) (by omega) (by omega)), slT_c b (fun x hx => nn x (by omega) (by omega) (by omega) (by omega) (by omega) (by omega)) (fun x _ => by rw [k2.2, sR_2, k1.2]), ⟨?_, g5, by omega, fun j hj => absurd hj (by omega)⟩, ⟨?_, ?_⟩, hfT_c e (nn 301 (by omega) (by omega) (by omega) (by omega) (by omega) (by omega))⟩
    · rw [c_E_land, e1, mBI_s, show decide (¬ (0 : Int32) = 0) = false by decide, cF, mUpI_sR]
    · rw [k2.1 1 (by decide) (by decide) (by decide), sR_at, upd_at]; rfl
    · rw [k2.1 3 (by decide) (by decide) (by decide), sR_ne _ _ (by decide), f2, g12]
    · rw [k2.1 3 (by decide) (by decide) (by decide), sR_ne _ _ (by decide), f3, g13]
  | ok x =>
    rw [hp] at q1
    obtain ⟨e1, hC, f2, f3⟩ := q1
    have hx := read_ok c3 hp
    have hC1 : lC (sR σ1 1 (upd (σ1.1 1) 1 0)) 60 x := lC_c hC (fun y h1 h2 => sR_ne _ _ (by omega))
    obtain ⟨σ2, e2, hC2, k2, k2'⟩ := k_copy (D + 9) (o := 40) (p := 60) (by omega) hx hC1
    obtain ⟨σ3, e3, o3, r3⟩ := k_refresh (D + 5) hx hC2
    have n3 : ∀ y, y < 20 ∨ (25 < y ∧ y < 40) ∨ 54 < y → y ≠ 1 → σ3.1 y = σ1.1 y := fun y h1 h2 => by rw [o3.1 y (by omega), k2 y (by omega), sR_ne _ _ h2]
    have hC3 : lC σ3 40 x := lC_c hC2 (fun y h1 h2 => o3.1 y (by omega))
    have s204 : ∀ j, j < n → σ3.1 204 j = σ.1 2 j := fun j hj => by rw [n3 204 (by omega) (by decide), kk 204 (by decide) (by omega)]; exact (c4 j hj).1.symm
    obtain ⟨τ, k4, g5, q2⟩ := r_land (B := σ.1 2) (D + 3) (τ := σ3) c3 hb (by rw [n3 200 (by omega) (by decide), kk 200 (by decide) (by omega)]; exact c2) s204
    rw [hp] at q2
    obtain ⟨e4, hM, g12, g13⟩ := q2
    have nn : ∀ y, y < 20 ∨ (25 < y ∧ y < 40) ∨ 54 < y → y ≠ 1 → y ≠ 3 → (y < 60 ∨ 74 < y) → y ≠ 200 → y ≠ 214 → y ≠ 201 → τ.1 y = σ.1 y := fun y h0 h1 h2 h3 h4 h5 h6 => by rw [k4.1 y h4 h5 h6, n3 y h0 h1, kk y h2 h3]
    refine ⟨nI (lLn x), σ3, τ, ⟨by rw [n3 299 (by omega) (by decide)]; exact kk 299 (by decide) (by omega), by rw [n3 300 (by omega) (by decide)]; exact kk 300 (by decide) (by omega)⟩, ⟨nn 299 (by omega) (by omega) (by omega) (by omega) (by omega) (by omega) (by omega), nn 300 (by omega) (by omega) (by omega) (by omega) (by omega) (by omega) (by omega)⟩, ?_, e4, x, im, sz, wi, 0, ⟨hx, lC_c hC3 (fun y h1 h2 => k4.1 y (by omega) (by omega) (by omega)), cR_c r3 (fun y h1 h2 => k4.1 y (by omega) (by omega) (by omega)), hM⟩, imT_c a (fun y hy => nn y (by omega) (by omega) (by omega) (by omega) (by omega) (by omega) (by omega)), slT_c b (fun y hy => nn y (by omega) (by omega) (by omega) (by omega) (by omega) (by omega) (by omega)) (fun y _ => by rw [k4.2, o3.2, k2', sR_2, k1.2]), ⟨?_, g5, by omega, fun j hj => absurd hj (by omega)⟩, ⟨?_, ?_⟩, hfT_c e (nn 301 (by omega) (by omega) (by omega) (by omega) (by omega) (by omega) (by omega))⟩
    · rw [c_E_land, e1, mBI_s, show decide (¬ (1 : Int32) = 0) = true by decide, cT, mUpI_sR, e2, mBV_s, e3, mBV_s, hC3.1.2.2.2.2.2.2]
    · rw [k4.1 1 (by decide) (by decide) (by decide), o3.1 1 (by omega), k2 1 (by omega), sR_at, upd_at]; rfl
    · rw [k4.1 3 (by decide) (by decide) (by decide), n3 3 (by omega) (by decide), f2, g12]
    · rw [k4.1 3 (by decide) (by decide) (by decide), n3 3 (by omega) (by decide), f3, g13]

