/-! ===== reading, as such ===== -/
variable {σ τ : mS} {l : Lv}
def tl (s : Nat) : Nat := match s with
  | 310 => 4
  | 311 => 5
  | 312 => 3
  | 313 => 4
  | 314 => 6
  | 315 => 5
  | 316 => 5
  | 317 => 5
  | 318 => 4
  | 319 => 2
  | _ => 0
noncomputable def isW (B : Nat → Int32) (s : Nat) (T : Tok) : Bool := decide (T.1 = 1) && (decide (T.2.2.1 - T.2.1 = tl s) && (mFst (fun k => !(decide (B (T.2.1 + k) = Int32.ofNat (w0.2.1 s k)))) (tl s) 0).isNone)
def tkO (n : Nat) (T : Tok) : Prop := T.2.1 ≤ T.2.2.1 ∧ T.2.2.1 ≤ n ∧ T.1 ≤ 4 ∧ T.2.2.2 ≤ 1000 ∧ (T.1 ≠ 0 → T.2.1 < T.2.2.1)
theorem tok_O (B : Nat → Int32) {n i : Nat} (h : i ≤ n) : tkO n (tok B n i) ∧ i ≤ (tok B n i).2.1 := ⟨(tok_ok B h).2, (tok_ok B h).1⟩
abbrev Pr (α : Type) : Type := Except (Nat × Nat) α
def pBd {α β : Type} (r : Pr α) (f : α → Pr β) : Pr β := match r with
  | .error e => .error e
  | .ok x => f x
variable (B : Nat → Int32) (n : Nat)
def nxT (T : Tok) : Tok := tok B n T.2.2.1
def pNum (lo hi un : Int) (T : Tok) : Pr (Nat × Tok) := bif decide (T.1 = 2) then (bif decide ((T.2.2.2 : Int) < lo) || (decide (hi < (T.2.2.2 : Int)) || decide ((T.2.2.2 : Int) = un)) then .error (2, T.2.1) else .ok (T.2.2.2, nxT B n T)) else .error (1, T.2.1)
noncomputable def pWord (s : Nat) (T : Tok) : Pr Tok := bif isW B s T then .ok (nxT B n T) else .error (1, T.2.1)
def pSk : Nat → Int32 → Tok → Pr (Int32 × Tok)
  | 0, s, T => .ok (s, T)
  | m + 1, s, T => bif decide (T.1 = 2) then (bif decide (6 ≤ T.2.2.2) || bt s T.2.2.2 then .error (2, T.2.1) else pSk m (s ||| (1 <<< (nI T.2.2.2 &&& 31))) (nxT B n T)) else .ok (s, T)
def pTwo (P : Nat) (T : Tok) : Pr (Nat × Nat × Tok) := pBd (pNum B n 0 ((P : Int) - 1) (-1) T) fun a => pBd (pNum B n 0 ((P : Int) - 1) a.1 a.2) fun b => .ok (a.1, b.1, b.2)
def emp : Lv := ((0, 0, 0, 0, 0), (0, 0), fun _ => 0, fun _ => 0, fun _ => 0, fun _ => 0, [], [])
def setY (l : Lv) (y : Nat) : Lv := ((y, l.1.2), l.2)
def setLw (l : Lv) (x : Int32) : Lv := (l.1, (x, l.2.1.2), l.2.2)
def setOd (l : Lv) (x : Int32) : Lv := (l.1, (l.2.1.1, x), l.2.2)
def addP (l : Lv) (s : Int32) : Lv := ((lY l, lP l + 1, lQ l, lLn l, lB l), l.2.1, upd (lSk l) (lP l) s, l.2.2.2)
def addB (l : Lv) (a b : Nat) (v : Int32) : Lv := ((lY l, lP l, lQ l, lLn l, lB l + 1), l.2.1, lSk l, upd (lFe l) (6 * a + b) v, l.2.2.2.2)
def addW (l : Lv) (x : Dd) : Lv := (l.1, l.2.1, lSk l, lFe l, lAs l, lWh l, lWr l ++ [x], lAc l)
def addQ (l : Lv) (y : Nat) (s : Int32) : Lv := ((lY l, lP l, lQ l + 1, lLn l, lB l), l.2.1, lSk l, lFe l, upd (lAs l) (lQ l) s, updN (lWh l) (lQ l) y, lWr l, lAc l)
def addL (l : Lv) : Lv := ((lY l, lP l, lQ l, lLn l + 1, lB l), l.2)
noncomputable def pOpen (T : Tok) (l : Lv) : Pr (Tok × Lv) := pBd (pWord B n 311 (nxT B n T)) fun T2 => pBd (pNum B n 1 12 (-1) T2) fun y => pBd (pWord B n 312 y.2) fun T4 => pBd (pNum B n 0 3 (-1) T4) fun w => pBd (pWord B n 313 w.2) fun T6 => pBd (pNum B n 0 10 (-1) T6) fun o => .ok (o.2, setOd (setLw (setY l y.1) (nI w.1)) (nI o.1))
def pBond (sg : Int32) (T : Tok) (l : Lv) : Pr (Tok × Lv) := bif decide (lB l < 20) then pBd (pTwo B n (lP l) (nxT B n T)) fun ab => pBd (pNum B n 1 60 (-1) ab.2.2) fun v => .ok (v.2, addB l ab.1 ab.2.1 (sg * nI v.1)) else .error (3, T.2.1)
noncomputable def pWrong (T : Tok) (l : Lv) : Pr (Tok × Lv) := bif decide ((lWr l).length < 8) then pBd (pTwo B n (lP l) (nxT B n T)) fun ab => pBd (pNum B n 1 40 (-1) ab.2.2) fun v => pBd (pWord B n 319 v.2) fun T4 => pBd (pNum B n 0 11 (-1) T4) fun y => .ok (y.2, addW l (ab.1, ab.2.1, nI v.1, y.1)) else .error (3, T.2.1)
noncomputable def pPost (T : Tok) (l : Lv) : Pr (Tok × Lv) := bif decide (lQ l < 5) then pBd (pWord B n 319 (nxT B n T)) fun T2 => pBd (pNum B n 0 11 (-1) T2) fun y => pBd (pSk B n 7 0 y.2) fun s => .ok (s.2, addQ l y.1 s.1) else .error (3, T.2.1)
def pPers (T : Tok) (l : Lv) : Pr (Tok × Lv) := bif decide (lP l < 6) then pBd (pSk B n 7 0 (nxT B n T)) fun s => .ok (s.2, addP l s.1) else .error (3, T.2.1)
noncomputable def pLater (T : Tok) (l : Lv) : Pr (Tok × Lv) := bif isW B 314 T then pPers B n T l else (bif isW B 315 T then pBond B n 1 T l else (bif isW B 316 T then pBond B n (-1) T l else (bif isW B 317 T then pWrong B n T l else (bif isW B 318 T then pPost B n T l else .error (1, T.2.1)))))
noncomputable def pLine (T : Tok) (l : Lv) : Pr (Tok × Lv) := bif decide (lLn l = 0) == isW B 310 T then pBd (bif decide (lLn l = 0) then pOpen B n T l else pLater B n T l) (fun r => bif decide (r.1.1 = 3) then .ok (nxT B n r.1, addL r.2) else .error (1, r.1.2.1)) else .error (1, T.2.1)
noncomputable def pAll : Nat → Tok → Lv → Pr Lv
  | 0, _, l => .ok l
  | m + 1, T, l => bif decide (T.1 = 0) then .ok l else pBd (pLine B n T l) fun r => pAll m r.1 r.2
variable {B n}
/-- what the class's reading leaves -/
def kLw (σ τ : mS) : Prop := (∀ a, a ≠ 3 → (a < 60 ∨ 74 < a) → τ.1 a = σ.1 a) ∧ τ.2 = σ.2
def kL (σ τ : mS) : Prop := kLw σ τ ∧ τ.1 3 2 = σ.1 3 2 ∧ τ.1 3 3 = σ.1 3 3
theorem kLw_t {υ : mS} (h : kLw σ τ) (g : kLw τ υ) : kLw σ υ := ⟨fun a h1 h2 => (g.1 a h1 h2).trans (h.1 a h1 h2), g.2.trans h.2⟩
theorem kL_r (σ : mS) : kL σ σ := ⟨⟨fun _ _ _ => rfl, rfl⟩, rfl, rfl⟩
theorem kL_t {υ : mS} (h : kL σ τ) (g : kL τ υ) : kL σ υ := ⟨kLw_t h.1 g.1, g.2.1.trans h.2.1, g.2.2.trans h.2.2⟩
theorem kL_A (h : kA σ τ) : kL σ τ := ⟨⟨fun a h1 _ => h.1 a h1, h.2.2⟩, h.2.1 2 (by omega), h.2.1 3 (by omega)⟩
theorem kL_s (σ : mS) {b : Nat} (h : 60 ≤ b ∧ b ≤ 74) (f : Nat → Int32) : kL σ (sR σ b f) := ⟨⟨fun a h1 h2 => sR_ne _ _ (by omega), rfl⟩, by rw [sR_ne _ _ (by omega)], by rw [sR_ne _ _ (by omega)]⟩
theorem kL_3 (σ : mS) {k : Nat} (h : 3 < k) (x : Int32) : kL σ (sR σ 3 (upd (σ.1 3) k x)) := ⟨⟨fun a h1 h2 => sR_ne _ _ h1, rfl⟩, by rw [sR_at, upd_ne _ _ (by omega)], by rw [sR_at, upd_ne _ _ (by omega)]⟩
/-- a call of the class that says whether all is well -/
def kP {α : Type} (r : Pr α) (c : mR) (σ : mS) (post : α → mS → Prop) : Prop := match r with
  | .error e => ∃ τ, c = some (.int 0, τ) ∧ τ.1 3 2 = nI e.1 ∧ τ.1 3 3 = nI e.2 ∧ kLw σ τ
  | .ok x => ∃ τ, c = some (.int 1, τ) ∧ post x τ ∧ kL σ τ
theorem kP_k {α : Type} {r : Pr α} {c : mR} {post : α → mS → Prop} (k : kL σ τ) (h : kP r c τ post) : kP r c σ post := by
  cases r with
  | error e => obtain ⟨τ', a, b, c', d⟩ := h; exact ⟨τ', a, b, c', kLw_t k.1 d⟩
  | ok x => obtain ⟨τ', a, b, d⟩ := h; exact ⟨τ', a, b, kL_t k d⟩
theorem kP_b {α β : Type} {r : Pr α} {f : α → Pr β} {c : mR} {K : mS → mR} {post : α → mS → Prop} {post' : β → mS → Prop} (h : kP r c σ post) (hK : ∀ x τ, r = .ok x → post x τ → kL σ τ → kP (f x) (K τ) τ post') : kP (pBd r f) (mBI c fun r τ => bif decide (r = 0) then some (.int 0, τ) else K τ) σ post' := by
  cases r with
  | error e =>
    obtain ⟨τ', a, b, c', d⟩ := h
    exact ⟨τ', by rw [a, mBI_s]; rfl, b, c', d⟩
  | ok x =>
    obtain ⟨τ', a, b, d⟩ := h
    have := hK x τ' rfl b d
    rw [a, mBI_s]
    exact kP_k d this
theorem kP_b' {α β : Type} {r : Pr α} {f : α → Pr β} {c : mR} {K : mS → mR} {post : α → mS → Prop} {post' : β → mS → Prop} (h : kP r c σ post) (hK : ∀ x τ, r = .ok x → post x τ → kL σ τ → kP (f x) (K τ) τ post') : kP (pBd r f) (mBI c fun r τ => bif decide (¬ r = 0) then K τ else some (.int 0, τ)) σ post' := by
  cases r with
  | error e =>
    obtain ⟨τ', a, b, c', d⟩ := h
    exact ⟨τ', by rw [a, mBI_s]; rfl, b, c', d⟩
  | ok x =>
    obtain ⟨τ', a, b, d⟩ := h
    have := hK x τ' rfl b d
    rw [a, mBI_s]
    exact kP_k d this
theorem kP_z {α : Type} {r : Pr α} {c : mR} {post : α → mS → Prop} (h : kP r c σ post) : kP r (mBI c fun r τ => bif mZ r then some (.int r, τ) else none) σ post := by
  cases r with
  | error e => obtain ⟨τ', a, b, c', d⟩ := h; exact ⟨τ', by rw [a, mBI_s]; rfl, b, c', d⟩
  | ok x => obtain ⟨τ', a, b, d⟩ := h; exact ⟨τ', by rw [a, mBI_s]; rfl, b, d⟩
theorem k_refuse {α : Type} (d f p : Nat) (h : σ.1 3 5 = nI p) (post : α → mS → Prop) : kP (.error (f, p)) (Cc (d + 1) n_Re_refuse [.ref 3, .int (nI f)] σ) σ post := by
  refine ⟨sR σ 3 (upd (upd (σ.1 3) 2 (nI f)) 3 (nI p)), ?_, ?_, ?_, fun a h1 _ => sR_ne _ _ h1, rfl⟩
  · rw [c_Re_refuse, mUpI_sR, mUpI_sR, sR_sR, sR_at, upd_ne _ _ (by decide), h]
  · rw [sR_at, upd_ne _ _ (by decide), upd_at]
  · rw [sR_at, upd_at]
/-- the class at a token, with what it has read -/
def rdL (σ : mS) (B : Nat → Int32) (n : Nat) (T : Tok) (l : Lv) : Prop := rdC σ B n T ∧ lC σ 60 l ∧ tkO n T
theorem lC_A60 (k : kA σ τ) (h : lC σ 60 l) : lC τ 60 l := lC_c h (fun a h1 h2 => k.1 a (by omega))
theorem k_nx (d : Nat) (hn : n ≤ 800) {T : Tok} (h : rdL σ B n T l) : ∃ τ, Cc (d + 2) n_Re_advance [.ref 3, .null, .null] σ = some (.null, τ) ∧ rdL τ B n (nxT B n T) l ∧ kA σ τ := by
  obtain ⟨⟨h1, hB, h4, h5, h6, h7⟩, hl, ht⟩ := h
  obtain ⟨τ, e, r, k⟩ := k_advance d hn ht.2.1 h1 hB h6
  exact ⟨τ, e, ⟨r, lC_A60 k hl, (tok_O B ht.2.1).1⟩, k⟩
/-- fields of the reader that no token needs -/
theorem rdL_u {T : Tok} (h : rdL σ B n T l) {k : Nat} (hk : k < 4 ∨ 7 < k) (x : Int32) : rdL (sR σ 3 (upd (σ.1 3) k x)) B n T l := by
  obtain ⟨⟨h1, hB, h4, h5, h6, h7⟩, hl, ht⟩ := h
  refine ⟨⟨?_, fun j hj => ?_, ?_, ?_, ?_, ?_⟩, lC_c hl (fun a h1 h2 => sR_ne _ _ (by omega)), ht⟩
  · rw [sR_ne _ _ (by decide)]; exact h1
  · rw [sR_ne _ _ (by decide)]; exact hB j hj
  · rw [sR_at, upd_ne _ _ (by omega)]; exact h4
  · rw [sR_at, upd_ne _ _ (by omega)]; exact h5
  · rw [sR_at, upd_ne _ _ (by omega)]; exact h6
  · rw [sR_at, upd_ne _ _ (by omega)]; exact h7
theorem isWordG (d s : Nat) (hs : tl s ≤ 6) (h0 : ∀ σ : mS, Cc (d + 1) n_Re_isWord [.ref 3, .ref s, .null] σ = (bif decide (¬ ((σ.1 3 4) : Int32) = 1) then (some (.int 0, σ)) else (bif decide ((((σ.1 3 6) - (σ.1 3 5)) : Int32) = (nI (tl s))) then Xx d n_Re_isWord 28 [.ref 3, .ref s, .int 0] [] σ else (some (.int 0, σ))))) (h28 : ∀ (x2 : Int32) (σ : mS), Xx d n_Re_isWord 28 [.ref 3, .ref s, .int x2] [] σ = (bif decide ((nI (tl s)) ≤ x2) then (some (.int 1, σ)) else (bif mIn ((σ.1 3 5) + x2) 800 then (bif mIn x2 (tl s) then (bif decide (((σ.1 2 (((σ.1 3 5) + x2) : Int32).toNatClampNeg) : Int32) = (Int32.ofNat (w0.2.1 s (x2 : Int32).toNatClampNeg))) then Xx d n_Re_isWord 28 [.ref 3, .ref s, .int (x2 + 1)] [] σ else (some (.int 0, σ))) else none) else none))) (hn : n ≤ 800) {T : Tok} (r : rdC σ B n T) (ht : tkO n T) : Cc (d + 1) n_Re_isWord [.ref 3, .ref s, .null] σ = some (.int (bI (isW B s T)), σ) := by
  obtain ⟨h1, hB, h4, h5, h6, h7⟩ := r
  obtain ⟨t1, t2, t3, t4, t5⟩ := ht
  rw [h0, h4, h6, h5, nI_sub t1, deq (by omega) (by omega), show decide (¬ nI T.1 = 1) = decide (¬ T.1 = 1) from dne (b := 1) (by omega) (by decide), decide_not]
  unfold isW
  cases hk : decide (T.1 = 1) with
  | false => rfl
  | true =>
    cases hl : decide (T.2.2.1 - T.2.1 = tl s) with
    | false => rfl
    | true =>
      have hl' := of_decide_eq_true hl
      rw [Bool.not_true, cF, cT, Bool.true_and, Bool.true_and]
      have key : ∀ m k, k + m = tl s → Xx d n_Re_isWord 28 [.ref 3, .ref s, .int (nI k)] [] σ = some (.int (bI (mFst (fun k => !(decide (B (T.2.1 + k) = Int32.ofNat (w0.2.1 s k)))) m k).isNone), σ) := by
        intro m
        induction m with
        | zero =>
          intro k hk
          rw [h28, show k = tl s by omega, dT _ (Int32.le_refl _), cT]
          rfl
        | succ m ih =>
          intro k hk
          rw [h28, dle (by omega) (by omega), dF _ (by omega), cF, h5, nI_add, mIn_nI (by omega) (by omega), cT, mIn_nI (by omega) (by omega), cT, nI_clamp (by omega), nI_clamp (by omega), hB _ (by omega), nI_1, mFst_s]
          cases hd : decide (B (T.2.1 + k) = Int32.ofNat (w0.2.1 s k)) with
          | true =>
            rw [cT, Bool.not_true, cF]
            exact ih (k + 1) (by omega)
          | false => rfl
      exact key (tl s) 0 (by omega)
def isTx (s : Nat) : Prop := s = 310 ∨ s = 311 ∨ s = 312 ∨ s = 313 ∨ s = 314 ∨ s = 315 ∨ s = 316 ∨ s = 317 ∨ s = 318 ∨ s = 319
theorem k_isWord (d : Nat) {s : Nat} (hs : isTx s) (hn : n ≤ 800) {T : Tok} (r : rdC σ B n T) (ht : tkO n T) : Cc (d + 1) n_Re_isWord [.ref 3, .ref s, .null] σ = some (.int (bI (isW B s T)), σ) := by
  unfold isTx at hs
  rcases hs with rfl | rfl | rfl | rfl | rfl | rfl | rfl | rfl | rfl | rfl
  · exact isWordG d 310 (by decide) (fun σ => c_Re_isWord_310 d σ) (fun x σ => q_Re_isWord_310_28 d x σ) hn r ht
  · exact isWordG d 311 (by decide) (fun σ => c_Re_isWord_311 d σ) (fun x σ => q_Re_isWord_311_28 d x σ) hn r ht
  · exact isWordG d 312 (by decide) (fun σ => c_Re_isWord_312 d σ) (fun x σ => q_Re_isWord_312_28 d x σ) hn r ht
  · exact isWordG d 313 (by decide) (fun σ => c_Re_isWord_313 d σ) (fun x σ => q_Re_isWord_313_28 d x σ) hn r ht
  · exact isWordG d 314 (by decide) (fun σ => c_Re_isWord_314 d σ) (fun x σ => q_Re_isWord_314_28 d x σ) hn r ht
  · exact isWordG d 315 (by decide) (fun σ => c_Re_isWord_315 d σ) (fun x σ => q_Re_isWord_315_28 d x σ) hn r ht
  · exact isWordG d 316 (by decide) (fun σ => c_Re_isWord_316 d σ) (fun x σ => q_Re_isWord_316_28 d x σ) hn r ht
  · exact isWordG d 317 (by decide) (fun σ => c_Re_isWord_317 d σ) (fun x σ => q_Re_isWord_317_28 d x σ) hn r ht
  · exact isWordG d 318 (by decide) (fun σ => c_Re_isWord_318 d σ) (fun x σ => q_Re_isWord_318_28 d x σ) hn r ht
  · exact isWordG d 319 (by decide) (fun σ => c_Re_isWord_319 d σ) (fun x σ => q_Re_isWord_319_28 d x σ) hn r ht

theorem k_readWord (d : Nat) {s : Nat} (hs : isTx s) (hn : n ≤ 800) {T : Tok} (h : rdL σ B n T l) : kP (pWord B n s T) (Cc (d + 3) n_Re_readWord [.ref 3, .ref s] σ) σ (fun T' τ => rdL τ B n T' l ∧ ∀ k, 7 < k → τ.1 3 k = σ.1 3 k) := by
  rw [c_Re_readWord, k_isWord _ hs hn h.1 h.2.2, mBI_s, bI_n]
  unfold pWord
  cases isW B s T with
  | true =>
    rw [cT, cT]
    obtain ⟨τ, e, r, k⟩ := k_nx d hn h
    exact ⟨τ, by rw [e, mBV_s], ⟨r, fun j hj => k.2.1 j (by omega)⟩, kL_A k⟩
  | false => exact kP_z (k_refuse _ 1 _ h.1.2.2.2.1 _)
theorem k_readNumber (d : Nat) (hn : n ≤ 800) {T : Tok} (h : rdL σ B n T l) (lo hi un : Int32) : kP (pNum B n lo.toInt hi.toInt un.toInt T) (Cc (d + 3) n_Re_readNumber [.ref 3, .int lo, .int hi, .int un] σ) σ (fun x τ => rdL τ B n x.2 l ∧ τ.1 3 8 = nI x.1 ∧ ∀ k, 8 < k → τ.1 3 k = σ.1 3 k) := by
  have hv := h.2.2.2.2.2.1
  have hk := h.2.2.2.2.1
  have e1 : decide (nI T.2.2.2 < lo) = decide ((T.2.2.2 : Int) < lo.toInt) := decide_eq_decide.mpr (by rw [Int32.lt_iff_toInt_lt, nI_toInt (by omega)])
  have e2 : decide (hi < nI T.2.2.2) = decide (hi.toInt < (T.2.2.2 : Int)) := decide_eq_decide.mpr (by rw [Int32.lt_iff_toInt_lt, nI_toInt (by omega)])
  have e3 : decide (¬ nI T.2.2.2 = un) = !(decide ((T.2.2.2 : Int) = un.toInt)) := by
    rw [← decide_not]
    apply decide_eq_decide.mpr
    rw [← Int32.toInt_inj, nI_toInt (by omega)]
  rw [c_Re_readNumber, h.1.2.2.1, h.1.2.2.2.2.2, show decide (nI T.1 = 2) = decide (T.1 = 2) from deq (b := 2) (by omega) (by decide), e1, e2, e3]
  unfold pNum
  cases decide (T.1 = 2) with
  | false => exact kP_z (k_refuse _ 1 _ h.1.2.2.2.1 _)
  | true =>
    cases decide ((T.2.2.2 : Int) < lo.toInt) with
    | true => exact kP_z (k_refuse _ 2 _ h.1.2.2.2.1 _)
    | false =>
      cases decide (hi.toInt < (T.2.2.2 : Int)) with
      | true => exact kP_z (k_refuse _ 2 _ h.1.2.2.2.1 _)
      | false =>
        cases decide ((T.2.2.2 : Int) = un.toInt) with
        | true => exact kP_z (k_refuse _ 2 _ h.1.2.2.2.1 _)
        | false =>
          obtain ⟨τ, e, r, k⟩ := k_nx d hn (rdL_u h (k := 8) (by omega) (nI T.2.2.2))
          refine ⟨τ, ?_, ⟨r, ?_, fun j hj => ?_⟩, kL_t (kL_3 σ (by omega) _) (kL_A k)⟩
          · rw [cT, cF, cF, Bool.not_false, cT, mUpI_sR, e, mBV_s]
          · rw [k.2.1 8 (by omega), sR_at, upd_at]
          · rw [k.2.1 j (by omega), sR_at, upd_ne _ _ (by omega)]

