/-! ===== the law from its loop on ===== -/
section LW
variable {D : va_G} {cA : Nat → ClassId} {h0 b fa : Nat} {adK adV : Nat → Nat}
theorem cy_keep {d m : Nat} {a : List Value} {σ : mS} {q : Value × mS} (h : Cy (d + 1) m a σ = some q) : mKeep σ q.2 := by
  rw [Cy_s, Xy_eq] at h
  obtain ⟨n, hn⟩ := mX_iff.mp h
  exact mRun_keep (v := v1 (fun _ => 0, fun _ _ => 0) (fun _ => 0) 0 0 0 (fun _ => 0)) (GW := GW0) (NW := NW0) (μ := μ0) (SO := SO0) (SL := SL0) w1_ok tb0_ok n d m 0 a [] σ q hn
/-- the fixed facts, for any part of what is new -/
theorem st_mZt {v : mV} {σ : mS} {s : State} {L : Nat} {xs : Nat → Int32} (hL : L ≤ 3072) (hv : vAdr v = adr0 s.heap.size b fa adK) (hA : ∀ q, vA v q → s.heap.size ≤ q) (r9 : σ.1 299 0 = nI L) (r0 : σ.1 300 = xs) (r1 : σ.1 301 = facR) (hX : va_X b L xs s s.heap) (hbl : b < s.heap.size)
    (hF1 : va_Z "EnemyLetters" "FACTORIALS" "[I" (.ref fa) (fun q => s.heap.size ≤ q) s s.heap) (hF2 : va_T .int fa 6 (fun j => .int (facR j)) (fun q => s.heap.size ≤ q) s s.heap) (hZ : Z0 adK adV (fun q => s.heap.size ≤ q) s s.heap) : mZt v (Z0 adK adV) σ s s.heap := by
  have e3 : vAdr v 300 = b := by rw [hv]; rfl
  have e4 : vAdr v 301 = fa := by rw [hv]; rfl
  refine ⟨⟨?_, ?_, ?_⟩, ⟨?_, ?_⟩, tW_narrow hZ.1 hA, hZ.2⟩
  · rw [e3, r9, r0, nI_clamp (by omega)]
    exact hX
  · rw [e3]
    exact hbl
  · rw [e3]
    intro h
    have := hA _ h
    omega
  · rw [e4]
    exact hF1.narrow hA
  · rw [e4, r1]
    exact hF2.narrow hA
theorem law_Lr {ls : Array Slot} (hl : lv_has ls 4 [(2, .ref (h0 + 106)), (1, .ref h0), (0, .ref b)]) : mLr (adr0 h0 b fa adK) ls [.ref 300, .ref 0, .ref 200, .null] := by
  refine ⟨hl.1, hl.2.1, fun q hq => ?_⟩
  obtain ⟨h1, h2⟩ := mLv_mem.mp hq
  obtain ⟨k, v⟩ := q
  match k, h1, h2 with
  | 0, h1, h2 => cases h2; exact hl.2.2 (0, .ref b) (by simp)
  | 1, h1, h2 => cases h2; exact hl.2.2 (1, .ref h0) (by simp)
  | 2, h1, h2 => cases h2; exact hl.2.2 (2, .ref (h0 + 106)) (by simp)
  | 3, h1, h2 => exact absurd rfl h1
  | k + 4, h1, h2 => exact absurd rfl h1
end LW
