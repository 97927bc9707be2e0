/-! ===== the reference's places; the whole world (by program) ===== -/
section MV
variable {D : va_G} {cA : Nat → ClassId} {h0 b fa : Nat} {adK adV : Nat → Nat}
theorem el_1 {adr : Nat → Nat} {i : Nat} (hi : i < 200) (σ : mS) : mEl w0 ft0 nf0 cA adr σ i = mEl w1 ft0 nf0 cA adr σ i := by
  have e1 : w1.1 i = w0.1 i := by
    show wK1 i = wKind i
    unfold wK1
    rw [show Nat.blt i 200 = true from Nat.blt_eq.mpr hi, cond_true]
  have e2 : w1.2.2.1 i = w0.2.2.1 i := by
    show wA1 i = wAk i
    unfold wA1
    rw [show Nat.blt i 200 = true from Nat.blt_eq.mpr hi, Bool.true_or, cond_true]
  unfold mEl mFs
  rw [e1, e2]
  rfl
theorem el_row {adr : Nat → Nat} {i : Nat} {σ τ : mS} (h1 : τ.1 i = σ.1 i) (h2 : τ.2 = σ.2) (h3 : τ.1 299 = σ.1 299) : mEl w0 ft0 nf0 cA adr τ i = mEl w0 ft0 nf0 cA adr σ i := by
  have h4 : w0.2.2.2 τ i = w0.2.2.2 σ i := w0_ok.2.2.2.2.1 _ _ _ h3
  unfold mEl mFs
  rw [h1, h2, h4]
def idsM : List Nat := [200, 201, 202, 203, 204, 206, 214, 215, 216, 217, 218, 223, 224, 225, 226, 228, 229, 230, 233, 234, 240, 241, 242, 243]
theorem ids_app : ids0 = ids1 ++ idsM := by decide +kernel
theorem ids1_l : ids1.all (fun i => Nat.blt i 200) = true := by decide +kernel
theorem idsM_l : idsM.all (fun i => Nat.blt 25 i) = true := by decide +kernel
set_option maxHeartbeats 4000000 in
set_option maxRecDepth 100000 in
theorem mA_200 (m : Nat) (xs : Nat → Int32) {H : Heap} (hP : va_P D vwCl (wwM cA (h0 + 106) (h0 + 107)) H) : va_at D vwCl (adr0 h0 b fa adK 200, mEl w0 ft0 nf0 cA (adr0 h0 b fa adK) (f0 m xs) 200) H := hP 0 _ rfl
set_option maxHeartbeats 4000000 in
set_option maxRecDepth 100000 in
theorem mA_201 (m : Nat) (xs : Nat → Int32) {H : Heap} (hP : va_P D vwCl (wwM cA (h0 + 106) (h0 + 107)) H) : va_at D vwCl (adr0 h0 b fa adK 201, mEl w0 ft0 nf0 cA (adr0 h0 b fa adK) (f0 m xs) 201) H := hP 1 _ rfl
set_option maxHeartbeats 4000000 in
set_option maxRecDepth 100000 in
theorem mA_202 (m : Nat) (xs : Nat → Int32) {H : Heap} (hP : va_P D vwCl (wwM cA (h0 + 106) (h0 + 107)) H) : va_at D vwCl (adr0 h0 b fa adK 202, mEl w0 ft0 nf0 cA (adr0 h0 b fa adK) (f0 m xs) 202) H := hP 2 _ rfl
set_option maxHeartbeats 4000000 in
set_option maxRecDepth 100000 in
theorem mA_203 (m : Nat) (xs : Nat → Int32) {H : Heap} (hP : va_P D vwCl (wwM cA (h0 + 106) (h0 + 107)) H) : va_at D vwCl (adr0 h0 b fa adK 203, mEl w0 ft0 nf0 cA (adr0 h0 b fa adK) (f0 m xs) 203) H := hP 3 _ rfl
set_option maxHeartbeats 4000000 in
set_option maxRecDepth 100000 in
theorem mA_204 (m : Nat) (xs : Nat → Int32) {H : Heap} (hP : va_P D vwCl (wwM cA (h0 + 106) (h0 + 107)) H) : va_at D vwCl (adr0 h0 b fa adK 204, mEl w0 ft0 nf0 cA (adr0 h0 b fa adK) (f0 m xs) 204) H := hP 4 _ rfl
set_option maxHeartbeats 4000000 in
set_option maxRecDepth 100000 in
theorem mA_206 (m : Nat) (xs : Nat → Int32) {H : Heap} (hP : va_P D vwCl (wwM cA (h0 + 106) (h0 + 107)) H) : va_at D vwCl (adr0 h0 b fa adK 206, mEl w0 ft0 nf0 cA (adr0 h0 b fa adK) (f0 m xs) 206) H := hP 5 _ rfl
set_option maxHeartbeats 4000000 in
set_option maxRecDepth 100000 in
theorem mA_214 (m : Nat) (xs : Nat → Int32) {H : Heap} (hP : va_P D vwCl (wwM cA (h0 + 106) (h0 + 107)) H) : va_at D vwCl (adr0 h0 b fa adK 214, mEl w0 ft0 nf0 cA (adr0 h0 b fa adK) (f0 m xs) 214) H := hP 6 _ rfl
set_option maxHeartbeats 4000000 in
set_option maxRecDepth 100000 in
theorem mA_215 (m : Nat) (xs : Nat → Int32) {H : Heap} (hP : va_P D vwCl (wwM cA (h0 + 106) (h0 + 107)) H) : va_at D vwCl (adr0 h0 b fa adK 215, mEl w0 ft0 nf0 cA (adr0 h0 b fa adK) (f0 m xs) 215) H := hP 7 _ rfl
set_option maxHeartbeats 4000000 in
set_option maxRecDepth 100000 in
theorem mA_216 (m : Nat) (xs : Nat → Int32) {H : Heap} (hP : va_P D vwCl (wwM cA (h0 + 106) (h0 + 107)) H) : va_at D vwCl (adr0 h0 b fa adK 216, mEl w0 ft0 nf0 cA (adr0 h0 b fa adK) (f0 m xs) 216) H := hP 8 _ rfl
set_option maxHeartbeats 4000000 in
set_option maxRecDepth 100000 in
theorem mA_217 (m : Nat) (xs : Nat → Int32) {H : Heap} (hP : va_P D vwCl (wwM cA (h0 + 106) (h0 + 107)) H) : va_at D vwCl (adr0 h0 b fa adK 217, mEl w0 ft0 nf0 cA (adr0 h0 b fa adK) (f0 m xs) 217) H := hP 9 _ rfl
set_option maxHeartbeats 4000000 in
set_option maxRecDepth 100000 in
theorem mA_218 (m : Nat) (xs : Nat → Int32) {H : Heap} (hP : va_P D vwCl (wwM cA (h0 + 106) (h0 + 107)) H) : va_at D vwCl (adr0 h0 b fa adK 218, mEl w0 ft0 nf0 cA (adr0 h0 b fa adK) (f0 m xs) 218) H := hP 10 _ rfl
set_option maxHeartbeats 4000000 in
set_option maxRecDepth 100000 in
theorem mA_223 (m : Nat) (xs : Nat → Int32) {H : Heap} (hP : va_P D vwCl (wwM cA (h0 + 106) (h0 + 107)) H) : va_at D vwCl (adr0 h0 b fa adK 223, mEl w0 ft0 nf0 cA (adr0 h0 b fa adK) (f0 m xs) 223) H := hP 11 _ rfl
set_option maxHeartbeats 4000000 in
set_option maxRecDepth 100000 in
theorem mA_224 (m : Nat) (xs : Nat → Int32) {H : Heap} (hP : va_P D vwCl (wwM cA (h0 + 106) (h0 + 107)) H) : va_at D vwCl (adr0 h0 b fa adK 224, mEl w0 ft0 nf0 cA (adr0 h0 b fa adK) (f0 m xs) 224) H := hP 12 _ rfl
set_option maxHeartbeats 4000000 in
set_option maxRecDepth 100000 in
theorem mA_225 (m : Nat) (xs : Nat → Int32) {H : Heap} (hP : va_P D vwCl (wwM cA (h0 + 106) (h0 + 107)) H) : va_at D vwCl (adr0 h0 b fa adK 225, mEl w0 ft0 nf0 cA (adr0 h0 b fa adK) (f0 m xs) 225) H := hP 13 _ rfl
set_option maxHeartbeats 4000000 in
set_option maxRecDepth 100000 in
theorem mA_226 (m : Nat) (xs : Nat → Int32) {H : Heap} (hP : va_P D vwCl (wwM cA (h0 + 106) (h0 + 107)) H) : va_at D vwCl (adr0 h0 b fa adK 226, mEl w0 ft0 nf0 cA (adr0 h0 b fa adK) (f0 m xs) 226) H := hP 14 _ rfl
set_option maxHeartbeats 4000000 in
set_option maxRecDepth 100000 in
theorem mA_228 (m : Nat) (xs : Nat → Int32) {H : Heap} (hP : va_P D vwCl (wwM cA (h0 + 106) (h0 + 107)) H) : va_at D vwCl (adr0 h0 b fa adK 228, mEl w0 ft0 nf0 cA (adr0 h0 b fa adK) (f0 m xs) 228) H := hP 15 _ rfl
set_option maxHeartbeats 4000000 in
set_option maxRecDepth 100000 in
theorem mA_229 (m : Nat) (xs : Nat → Int32) {H : Heap} (hP : va_P D vwCl (wwM cA (h0 + 106) (h0 + 107)) H) : va_at D vwCl (adr0 h0 b fa adK 229, mEl w0 ft0 nf0 cA (adr0 h0 b fa adK) (f0 m xs) 229) H := hP 16 _ rfl
set_option maxHeartbeats 4000000 in
set_option maxRecDepth 100000 in
theorem mA_230 (m : Nat) (xs : Nat → Int32) {H : Heap} (hP : va_P D vwCl (wwM cA (h0 + 106) (h0 + 107)) H) : va_at D vwCl (adr0 h0 b fa adK 230, mEl w0 ft0 nf0 cA (adr0 h0 b fa adK) (f0 m xs) 230) H := hP 17 _ rfl
set_option maxHeartbeats 4000000 in
set_option maxRecDepth 100000 in
theorem mA_233 (m : Nat) (xs : Nat → Int32) {H : Heap} (hP : va_P D vwCl (wwM cA (h0 + 106) (h0 + 107)) H) : va_at D vwCl (adr0 h0 b fa adK 233, mEl w0 ft0 nf0 cA (adr0 h0 b fa adK) (f0 m xs) 233) H := hP 18 _ rfl
set_option maxHeartbeats 4000000 in
set_option maxRecDepth 100000 in
theorem mA_234 (m : Nat) (xs : Nat → Int32) {H : Heap} (hP : va_P D vwCl (wwM cA (h0 + 106) (h0 + 107)) H) : va_at D vwCl (adr0 h0 b fa adK 234, mEl w0 ft0 nf0 cA (adr0 h0 b fa adK) (f0 m xs) 234) H := hP 19 _ rfl
set_option maxHeartbeats 4000000 in
set_option maxRecDepth 100000 in
theorem mA_240 (m : Nat) (xs : Nat → Int32) {H : Heap} (hP : va_P D vwCl (wwM cA (h0 + 106) (h0 + 107)) H) : va_at D vwCl (adr0 h0 b fa adK 240, mEl w0 ft0 nf0 cA (adr0 h0 b fa adK) (f0 m xs) 240) H := hP 20 _ rfl
set_option maxHeartbeats 4000000 in
set_option maxRecDepth 100000 in
theorem mA_241 (m : Nat) (xs : Nat → Int32) {H : Heap} (hP : va_P D vwCl (wwM cA (h0 + 106) (h0 + 107)) H) : va_at D vwCl (adr0 h0 b fa adK 241, mEl w0 ft0 nf0 cA (adr0 h0 b fa adK) (f0 m xs) 241) H := hP 21 _ rfl
set_option maxHeartbeats 4000000 in
set_option maxRecDepth 100000 in
theorem mA_242 (m : Nat) (xs : Nat → Int32) {H : Heap} (hP : va_P D vwCl (wwM cA (h0 + 106) (h0 + 107)) H) : va_at D vwCl (adr0 h0 b fa adK 242, mEl w0 ft0 nf0 cA (adr0 h0 b fa adK) (f0 m xs) 242) H := hP 22 _ rfl
set_option maxHeartbeats 4000000 in
set_option maxRecDepth 100000 in
theorem mA_243 (m : Nat) (xs : Nat → Int32) {H : Heap} (hP : va_P D vwCl (wwM cA (h0 + 106) (h0 + 107)) H) : va_at D vwCl (adr0 h0 b fa adK 243, mEl w0 ft0 nf0 cA (adr0 h0 b fa adK) (f0 m xs) 243) H := hP 23 _ rfl
set_option maxHeartbeats 4000000 in
set_option maxRecDepth 100000 in
theorem m_P (m : Nat) (xs : Nat → Int32) {H : Heap} (hP : va_P D vwCl (wwM cA (h0 + 106) (h0 + 107)) H) : ∀ i ∈ idsM, va_at D vwCl (adr0 h0 b fa adK i, mEl w0 ft0 nf0 cA (adr0 h0 b fa adK) (f0 m xs) i) H := List.forall_mem_cons.mpr ⟨mA_200 m xs hP, List.forall_mem_cons.mpr ⟨mA_201 m xs hP, List.forall_mem_cons.mpr ⟨mA_202 m xs hP, List.forall_mem_cons.mpr ⟨mA_203 m xs hP, List.forall_mem_cons.mpr ⟨mA_204 m xs hP, List.forall_mem_cons.mpr ⟨mA_206 m xs hP, List.forall_mem_cons.mpr ⟨mA_214 m xs hP, List.forall_mem_cons.mpr ⟨mA_215 m xs hP, List.forall_mem_cons.mpr ⟨mA_216 m xs hP, List.forall_mem_cons.mpr ⟨mA_217 m xs hP, List.forall_mem_cons.mpr ⟨mA_218 m xs hP, List.forall_mem_cons.mpr ⟨mA_223 m xs hP, List.forall_mem_cons.mpr ⟨mA_224 m xs hP, List.forall_mem_cons.mpr ⟨mA_225 m xs hP, List.forall_mem_cons.mpr ⟨mA_226 m xs hP, List.forall_mem_cons.mpr ⟨mA_228 m xs hP, List.forall_mem_cons.mpr ⟨mA_229 m xs hP, List.forall_mem_cons.mpr ⟨mA_230 m xs hP, List.forall_mem_cons.mpr ⟨mA_233 m xs hP, List.forall_mem_cons.mpr ⟨mA_234 m xs hP, List.forall_mem_cons.mpr ⟨mA_240 m xs hP, List.forall_mem_cons.mpr ⟨mA_241 m xs hP, List.forall_mem_cons.mpr ⟨mA_242 m xs hP, List.forall_mem_cons.mpr ⟨mA_243 m xs hP, fun _ h => absurd h List.not_mem_nil⟩⟩⟩⟩⟩⟩⟩⟩⟩⟩⟩⟩⟩⟩⟩⟩⟩⟩⟩⟩⟩⟩⟩⟩
theorem v0_P {m : Nat} {xs : Nat → Int32} {τ : mS} {H : Heap} (h1 : va_P D vwCl (vW (v1 D cA h0 b fa adK) τ) H) (hM : va_P D vwCl (wwM cA (h0 + 106) (h0 + 107)) H) (fr : ∀ a, a < 20 ∨ 25 < a → τ.1 a = (f0 m xs).1 a) (f2 : τ.2 = (f0 m xs).2) : va_P D vwCl (vW (v0 D cA h0 b fa adK) τ) H := by
  refine v_P (ids := ids0) (fun i hi => ?_)
  rw [ids_app] at hi
  rcases List.mem_append.mp hi with hi | hi
  · have hl : i < 200 := bltT (List.all_eq_true.mp ids1_l i hi)
    show va_at D vwCl (adr0 h0 b fa adK i, mEl w0 ft0 nf0 cA (adr0 h0 b fa adK) τ i) H
    rw [el_1 hl]
    obtain ⟨k, hk⟩ := List.getElem?_of_mem hi
    exact h1 k _ (mWl_at (w := w1) (ft := ft0) (nf := nf0) (cA := cA) (adr := adr0 h0 b fa adK) τ hk)
  · have hl : 25 < i := bltT (List.all_eq_true.mp idsM_l i hi)
    show va_at D vwCl (adr0 h0 b fa adK i, mEl w0 ft0 nf0 cA (adr0 h0 b fa adK) τ i) H
    rw [el_row (fr i (Or.inr hl)) f2 (fr 299 (Or.inr (by omega)))]
    exact m_P m xs hM i hi
end MV
