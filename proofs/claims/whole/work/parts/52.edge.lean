/-! ===== the class's runner-up; top, next, edge, writes ===== -/
variable {σ τ : mS} {l : Lv}
def ruS (l : Lv) (w : Nat → Option Nat) (q k : Nat) (h : Int32) : Int32 := bif decide (lWh l k < lWh l q ∨ (lWh l k = lWh l q ∧ k ≤ q)) then hadS h (w k) else h
theorem hadS_bt (h : Int32) {x : Option Nat} (hx : ∀ i, x = some i → i < 32) {j : Nat} (hj : j < 32) : bt (hadS h x) j = (bt h j || decide (x = some j)) := by
  cases x with
  | none => show bt h j = _; rw [decide_eq_false (fun q => by cases q), Bool.or_false]
  | some i =>
    show bt (h ||| (1 <<< (nI i &&& 31))) j = _
    rw [b_add (hx i rfl) _ hj]
    congr 1
    exact decide_eq_decide.mpr ⟨fun e => by rw [e], fun e => by cases e; rfl⟩
theorem ru_bt (l : Lv) {w : Nat → Option Nat} (hw : ∀ q i, w q = some i → i < 32) (q : Nat) {j : Nat} (hj : j < 32) : bt (mF (ruS l w q) (lQ l) 0) j = ahd l w q j := by
  unfold ahd anyF
  refine mF_rel (fun _ (h : Int32) (b : Bool) => bt h j = b) _ _ (lQ l) 0 false (b_0 j) (fun k h b _ e => ?_)
  unfold ruS
  dsimp only
  cases decide (lWh l k < lWh l q ∨ (lWh l k = lWh l q ∧ k ≤ q)) with
  | false => rw [cF, e, Bool.false_and, Bool.or_false]
  | true => rw [cT, hadS_bt _ (hw k) hj, e, Bool.true_and]
set_option maxHeartbeats 1000000 in
theorem k_runnerUp (d : Nat) (t : tL σ l) {q : Nat} (hq : q < lQ l) : Cc (d + 3) n_Co_runnerUp [.ref 20, .int (nI q), .null, .null, .null] σ = some (.int (oI (nxt l (vS l) q)), σ) := by
  have h1 := lvP t.1
  have h3 := lvQ t.1
  have hwq := lvWh t.1 q hq
  rw [c_Co_runnerUp _ _ _ (Or.inl rfl), k_everybody _ _ (tP t), mBI_s, ← fr_0 _ h1]
  obtain ⟨v, hs⟩ := mForH (fun k (h : Int32) (v : Value) => Xx (d + 2) n_Co_runnerUp 10 [.ref 20, .int (nI q), .int (fr (lP l) h), .int (nI k), v] [] σ) (ruS l (win l (vS l)) q) (lQ l) 0 .null (by
    intro k v hk
    generalize mF _ k (0 : Int32) = h
    have hwk := lvWh t.1 k hk
    rw [q_Co_runnerUp_10 _ _ _ _ _ _ (Or.inl rfl), tQ t, dle (by omega) (by omega), dF _ (by omega), cF]
    simp (disch := omega) only [mIn_nI, cT, nI_clamp, show σ.1 44 k = nI (lWh l k) from (t.2.1.2.2.2.1 k hk).2, show σ.1 44 q = nI (lWh l q) from (t.2.1.2.2.2.1 q hq).2, show σ.1 (20 + 5) k = oI (win l (vS l) k) from tWin t hk, oI_m1 (win_big t.1 k), dlt, dne, nI_1, show decide ((1 : Int32) = 0) = false by decide, show decide ((0 : Int32) = 0) = true by decide, cF]
    have add : ∀ j, win l (vS l) k = some j → fr (lP l) h &&& (((1 : Int32) <<< (nI j &&& 31)) ^^^ ((-1) : Int32)) = fr (lP l) (h ||| (1 <<< (nI j &&& 31))) := fun j hj => (fr_add _ h1 _ (by have := win_lt t.1 hj; omega)).symm
    unfold ruS
    by_cases g1 : lWh l k < lWh l q
    · rw [dT _ g1, cT, dT _ (Or.inl g1), cT]
      cases hw : win l (vS l) k with
      | none => exact ⟨.int 1, rfl⟩
      | some j => rw [oI_s, add j hw]; exact ⟨.int 1, rfl⟩
    · rw [dF _ g1, cF]
      by_cases g2 : lWh l k = lWh l q
      · rw [dF _ (fun x => x g2), cF]
        by_cases g3 : q < k
        · rw [dT _ g3, cT, dF (p := lWh l k < lWh l q ∨ lWh l k = lWh l q ∧ k ≤ q) _ (by omega), cF]
          cases hw : win l (vS l) k with
          | none => exact ⟨.int 0, rfl⟩
          | some j => exact ⟨.int 0, rfl⟩
        · rw [dF _ g3, cF, dT (p := lWh l k < lWh l q ∨ lWh l k = lWh l q ∧ k ≤ q) _ (by omega), cT]
          cases hw : win l (vS l) k with
          | none => exact ⟨.int 1, rfl⟩
          | some j => rw [oI_s, add j hw]; exact ⟨.int 1, rfl⟩
      · rw [dT _ g2, cT, dF (p := lWh l k < lWh l q ∨ lWh l k = lWh l q ∧ k ≤ q) _ (by omega), cF]
        cases hw : win l (vS l) k with
        | none => exact ⟨.int 0, rfl⟩
        | some j => exact ⟨.int 0, rfl⟩)
  refine Eq.trans hs ?_
  rw [q_Co_runnerUp_10 _ _ _ _ _ _ (Or.inl rfl), tQ t, dT _ (Int32.le_refl _), cT, k_foremost d 20 (Or.inl rfl) (by omega) h1 _ _ (tP t), mBI_s, nxt_eq t.1 hq, fmF_eq (V := wd l (vS l) q) (t := fun j => !(ahd l (win l (vS l)) q j)) (fun k hk => t.2.2.1.2.2.1 q hq k hk) (fun k hk => by
    rw [fr_bt h1 _ (by omega), decide_eq_true hk, Bool.true_and, ru_bt l (fun q i e => by have := win_lt t.1 e; omega) q (by omega)])]
theorem k_fore (d : Nat) (t : tL σ l) {q : Nat} (hq : q < lQ l) : Cc (d + 2) n_Co_foremost [.ref 20, .int (nI q), .int (ev (lP l)), .null, .null, .null, .null] σ = some (.int (oI (fmF (lP l) (wd l (vS l) q) (fun _ => true))), σ) := by
  have h1 := lvP t.1
  have h3 := lvQ t.1
  rw [k_foremost d 20 (Or.inl rfl) (by omega) h1 _ _ (tP t), fmF_eq (V := wd l (vS l) q) (t := fun _ => true) (fun k hk => t.2.2.1.2.2.1 q hq k hk) (fun k hk => by rw [ev_bt h1 (by omega), decide_eq_true hk])]
theorem r_best0 (d : Nat) (hl : lvOK l) {m : Nat} (a : rA τ l (vS l) m) {q : Nat} (hq : q < lQ l) : ∃ u, Cc (d + 6) n_M_bestFor [.ref 200, .int (nI q), .int 0, .int (-1), .null, .null] τ = some (.int (oI (fmF (lP l) (wd l (vS l) q) (fun _ => true))), pN τ u) := by
  obtain ⟨u, e⟩ := r_bestFor d hl (vS_ok hl) hq 0 none (fun i h => by cases h) a.2.1
  rw [fmF_eq (V := wd l (vS l) q) (t := fun _ => true) (fun _ _ => rfl) (fun k hk => by rw [b_0, decide_eq_false (fun q => by cases q)]; rfl)] at e
  exact ⟨u, e⟩
theorem t_writes (D : Nat) (t : tL σ l) (x : Int32) : qry (D + 13) n_E_writes n_M_writes [.ref 0, .int x, .null, .null, .null] [.ref 200, .int x, .null, .null] σ := by
  have h1 := lvP t.1
  have h2 := lvY t.1
  have h3 := lvQ t.1
  have h4 := lvLn t.1
  obtain ⟨τ, e, s, a⟩ := r_asksPerson (D + 2) x t.1 t.2.2.2
  unfold qry
  rw [c_E_writes, k_isPerson _ x σ (tP t) (by omega), c_M_writes]
  rw [e]
  simp only [mBI_s, bI_0, bI_n]
  cases hx : mIn x (lP l) with
  | false => exact ⟨-2, τ, by simp [*], by simp [*], s⟩
  | true =>
    obtain ⟨p, hp, rfl⟩ := mIn_of hx
    simp only [Bool.and_true, Bool.true_and, Bool.not_true, Bool.not_false, cond_true, cond_false]
    obtain ⟨u, eu⟩ := r_writes (D + 7) t.1 a hp
    rw [k_writes _ t hp, eu]
    exact ⟨_, _, rfl, rfl, sM_t s (sM_pN _ u)⟩
theorem t_next (D : Nat) (t : tL σ l) (x : Int32) : qry (D + 13) n_E_next n_M_next [.ref 0, .int x] [.ref 200, .int x] σ := by
  have h1 := lvP t.1
  have h2 := lvY t.1
  have h3 := lvQ t.1
  have h4 := lvLn t.1
  obtain ⟨τ, e, s, a⟩ := r_asksPost (D + 2) x t.1 t.2.2.2
  unfold qry
  rw [c_E_next, k_isPost _ x σ (tQ t) (by omega), c_M_next]
  rw [e]
  simp only [mBI_s, bI_0, bI_n]
  cases hx : mIn x (lQ l) with
  | false => exact ⟨-2, τ, by simp [*], by simp [*], s⟩
  | true =>
    obtain ⟨q, hq, rfl⟩ := mIn_of hx
    simp only [Bool.and_true, Bool.true_and, Bool.not_true, Bool.not_false, cond_true, cond_false]
    rw [k_runnerUp _ t hq, mIn_nI (by omega) (by omega), cT, nI_clamp (by omega), aNxt t.1 a hq]
    exact ⟨_, τ, rfl, rfl, s⟩
theorem t_top (D : Nat) (t : tL σ l) (x : Int32) : qry (D + 13) n_E_top n_M_top [.ref 0, .int x, .null] [.ref 200, .int x, .null] σ := by
  have h1 := lvP t.1
  have h2 := lvY t.1
  have h3 := lvQ t.1
  have h4 := lvLn t.1
  obtain ⟨τ, e, s, a⟩ := r_asksPost (D + 2) x t.1 t.2.2.2
  unfold qry
  rw [c_E_top, k_isPost _ x σ (tQ t) (by omega), c_M_top]
  rw [e]
  simp only [mBI_s, bI_0, bI_n]
  cases hx : mIn x (lQ l) with
  | false => exact ⟨-2, τ, by simp [*], by simp [*], s⟩
  | true =>
    obtain ⟨q, hq, rfl⟩ := mIn_of hx
    simp only [Bool.and_true, Bool.true_and, Bool.not_true, Bool.not_false, cond_true, cond_false]
    obtain ⟨u, eu⟩ := r_best0 (D + 6) t.1 a hq
    rw [k_everybody _ _ (tP t), mBI_s, k_fore _ t hq, eu]
    simp only [mBI_s]
    cases hb : fmF (lP l) (wd l (vS l) q) (fun _ => true) with
    | none => exact ⟨_, _, rfl, rfl, sM_t s (sM_pN _ u)⟩
    | some p =>
      have hp := (fmF_lt hb).1
      obtain ⟨u', eu', -⟩ := r_fw (D + 7) t.1 a hp hq u
      rw [oI_s, nI_m1n (by omega), cT, cT, k_wf _ t hp hq, eu']
      exact ⟨_, _, rfl, rfl, sM_t s (sM_pN _ u')⟩
theorem nxt_win (hl : lvOK l) {v : Va} {q j : Nat} (hq : q < lQ l) (h : nxt l v q = some j) : ∃ i, win l v q = some i := by
  have hJ := (gvA_J (W := wd l v) hl (lY l)).1
  by_cases hy : lWh l q < lY l
  · cases hw : win l v q with
    | some i => exact ⟨i, rfl⟩
    | none =>
      exfalso
      -- had one been free, the post would have been given
      have key := mF_inv (fun y (g : G3) => ∀ q, q < lQ l → lWh l q < y → g.2.1 q = none → g.2.2 q = none) (gvY l (wd l v)) (lY l) gv0 (fun q _ h _ => by omega) (fun y g _ hg => by
        have h2 := mF_inv (fun k (g : G3) => ∀ q, q < lQ l → (lWh l q < y ∨ (lWh l q = y ∧ q < k)) → g.2.1 q = none → g.2.2 q = none) (gvQ l (wd l v) y) (lQ l) g (fun q hq h e => hg q hq (by omega) e) (fun k b hk hb q hq h e => by
          unfold gvQ at e ⊢
          by_cases c : lWh l k = y
          · rw [if_pos c] at e ⊢
            dsimp only at e ⊢
            by_cases x : q = k
            · subst x
              rw [updO_at] at e ⊢
              unfold gvN
              rw [e]
              exact Eq.trans (fmF_eq (fun _ _ => rfl) (fun k _ => by rw [decide_eq_false (fun q => by cases q), Bool.not_false, Bool.and_true])) e
            · rw [show updO b.2.1 k _ q = b.2.1 q from if_neg x] at e
              rw [show updO b.2.2 k _ q = b.2.2 q from if_neg x]
              exact hb q hq (by omega) e
          · rw [if_neg c] at e ⊢
            refine hb q hq ?_ e
            rcases h with h | h
            · exact Or.inl h
            · exact Or.inr ⟨h.1, by
                rcases Nat.lt_or_ge q k with z | z
                · exact z
                · have : q = k := by omega
                  subst this
                  exact absurd h.1 c⟩) (lQ l) (Nat.le_refl _)
        intro q hq h e
        exact h2 q hq (by omega) e) (lY l) (Nat.le_refl _)
      rw [show nxt l v q = none from key q hq hy hw] at h
      cases h
  · rw [show nxt l v q = none from (hJ.2.2 q (by unfold prP; omega)).2] at h
    cases h
theorem nxt_lt (hl : lvOK l) {v : Va} {q j : Nat} (hq : q < lQ l) (h : nxt l v q = some j) : j < lP l := by
  rw [nxt_eq hl hq] at h
  exact (fmF_lt h).1
theorem t_edge (D : Nat) (t : tL σ l) (x : Int32) : qry (D + 13) n_E_edge n_M_edge [.ref 0, .int x, .null, .null] [.ref 200, .int x] σ := by
  have h1 := lvP t.1
  have h3 := lvQ t.1
  obtain ⟨τ, e, s, a⟩ := r_asksPost (D + 2) x t.1 t.2.2.2
  unfold qry
  rw [c_E_edge, k_isPost _ x σ (tQ t) (by omega), c_M_edge, e]
  simp only [mBI_s, bI_0, bI_n]
  cases hx : mIn x (lQ l) with
  | false => exact ⟨-2, τ, rfl, rfl, s⟩
  | true =>
    obtain ⟨q, hq, rfl⟩ := mIn_of hx
    have hnb : ∀ i, nxt l (vS l) q = some i → i < 2 ^ 31 := fun i h => by have := nxt_lt t.1 hq h; omega
    rw [cT, cT, mIn_nI (by omega) (by omega), cT, cT, cT, nI_clamp (by omega), k_runnerUp _ t hq, mBI_s, tWin t hq, aNxt t.1 a hq, aWin t.1 a hq, oI_m1 (win_big t.1 q), oI_m1n hnb]
    cases hn : nxt l (vS l) q with
    | none => exact ⟨-1, τ, by cases (win l (vS l) q).isSome <;> rfl, rfl, s⟩
    | some j =>
      obtain ⟨i, hi⟩ := nxt_win t.1 hq hn
      have hj := nxt_lt t.1 hq hn
      have hil := win_lt t.1 hi
      obtain ⟨u1, e1, -⟩ := r_fw (D + 7) t.1 a hil hq (τ.1 200 27)
      rw [← pN_i] at e1
      obtain ⟨u2, e2, -⟩ := r_fw (D + 7) t.1 a hj hq u1
      rw [hi, show (!(some i).isSome) = false from rfl, cF, show (some j).isSome = true from rfl, cT, cT, oI_s, k_wf _ t hil hq, mBI_s, oI_s, k_wf _ t hj hq, mBI_s, e1, mBI_s, cT, pN_ne _ _ (by decide), aNxt t.1 a hq, hn, oI_s, e2, mBI_s]
      exact ⟨_, _, rfl, rfl, sM_t s (sM_pN _ u2)⟩
