/-! ===== new long[4][60] ===== -/
section KM
variable {p : Program} {l : Launch} {e : Env} {R : Room} {s : State} {m : MethodId} {args : Array Value} {below : List Frame} {meth : Method} {c : Code} {H : Heap} {locs : List Loc} {cells slots : Nat} {Q : State → Prop}
variable {cc : ByteArray} {pc : Nat} {ls : Array Slot} {rest : List Value} {D : va_G} {cl : List vw_C} {A : Nat → Prop} {a : Nat} {ws : va_W} {H0 : Heap}
theorem k_pushD {new : va_W} (hP : va_P D cl ws H) (hD : va_D A ws) (hA : ∀ q, H.size ≤ q → A q) (hn : ∀ (k : Nat) (q : Nat × va_E), new[k]? = some q → q.1 = H.size + k) : va_D A (ws ++ new) := by
  refine ⟨fun i j p q hi hj e => ?_, fun k q hk => ?_⟩
  · by_cases h1 : i < ws.length
    · rw [List.getElem?_append_left h1] at hi
      by_cases h2 : j < ws.length
      · rw [List.getElem?_append_left h2] at hj
        exact hD.1 i j p q hi hj e
      · rw [List.getElem?_append_right (by omega)] at hj
        have g1 : p.1 < H.size := (hP i p hi).lt
        have g2 := hn _ q hj
        omega
    · rw [List.getElem?_append_right (by omega)] at hi
      have g1 := hn _ p hi
      by_cases h2 : j < ws.length
      · rw [List.getElem?_append_left h2] at hj
        have g2 : q.1 < H.size := (hP j q hj).lt
        omega
      · rw [List.getElem?_append_right (by omega)] at hj
        have g2 := hn _ q hj
        omega
  · by_cases h1 : k < ws.length
    · rw [List.getElem?_append_left h1] at hk
      exact hD.2 k q hk
    · rw [List.getElem?_append_right (by omega)] at hk
      exact hA _ (by rw [hn _ q hk]; omega)
/-- the rows of numbers, as they are made at h -/
def mnaW (cA : Nat → ClassId) (h : Nat) : va_W := [(h, .inl (cA 6, (4, .inr (.inr (.inr (.inr (fun i => if i < 4 then some (h + 1 + i) else none))))))), (h + 1 + 0, .inl (cA 4, (60, .inr (.inl (fun _ => 0))))), (h + 1 + 1, .inl (cA 4, (60, .inr (.inl (fun _ => 0))))), (h + 1 + 2, .inl (cA 4, (60, .inr (.inl (fun _ => 0))))), (h + 1 + 3, .inl (cA 4, (60, .inr (.inl (fun _ => 0)))))]
theorem k_mna (hexec : p.tables.exec = Jvm.exec) (hb : c.code = cc) {own : String} {index : Nat} (hown : s.vm.findClass own = some m.cls) (hclink : (Cond.classLink own index "[[J").before args s = true) (hover : (Cond.arrayOver (.array .long)).before #[] s = true) (harr : (Cond.arrayClass .long).before args s = true) {cA : Nat → ClassId} (hK : va_K D cl (mTy cA) s) (hP : va_P D cl ws H) (hD : va_D A ws) (hS : va_S A H0 H locs) (hA : ∀ q, H0.size ≤ q → A q) {h : Nat} (hh : H.size = h) (hcells : cells + 5 ≤ R.cells) (hslots : slots + 244 ≤ R.slots) (hdg : decode cc pc = .ok (.multianewarray index 2, 4))
    (kk : ∀ (H1 : Heap), H1.size = h + 5 → va_P D cl (ws ++ mnaW cA h) H1 → va_D A (ws ++ mnaW cA h) → va_S A H0 H1 locs → W p l e R s m args below meth c H1 locs (cells + 5) (slots + 244) Q (F0 m (pc + 4) ls (.ref h :: rest))) : W p l e R s m args below meth c H locs cells slots Q (F0 m pc ls (.int 60 :: .int 4 :: rest)) := by
  sorry
end KM
