/-! ===== new EnemyLetters() (by program) ===== -/
theorem kcd_E : Cond.code ⟨"EnemyLetters", "<init>", "()V"⟩ prog_1_method_1_code 1 none ∈ GW0 := gk ck_1 23 rfl rfl
def eRm : Room := { frames := 20, cells := 105, slots := 3304, locals := 1000 }
def wE (cA : Nat → ClassId) (h0 : Nat) : va_W := (h0 + 59, .inl (cA 5, (3, .inr (.inr (.inr (.inr (va_up (va_up (va_up (fun _ => none) ((0 : Int32).toNatClampNeg) (some (h0 + 60))) ((1 : Int32).toNatClampNeg) (some (h0 + 75))) ((2 : Int32).toNatClampNeg) (some (h0 + 90))))))))) :: ((h0, .inr (8, [.ref (h0 + 1), .ref (h0 + 3), .ref (h0 + 19), .ref (h0 + 34), .ref (h0 + 40), .ref (h0 + 46), .ref (h0 + 49), .ref (h0 + 57), .ref (h0 + 59), .ref (h0 + 105)])) :: ((((((((((((wwTa cA (h0 + 1) (h0 + 2)) ++ wwRe cA (h0 + 3) (h0 + 4) ((h0 + 1))) ++ wwLa cA (h0 + 19) (h0 + 20)) ++ wwCo cA (h0 + 34) (h0 + 35) ((h0 + 19))) ++ wwCo cA (h0 + 40) (h0 + 41) ((h0 + 19))) ++ wwCh cA (h0 + 46) (h0 + 47) ((h0 + 19)) ((h0 + 34))) ++ wwSl cA (h0 + 49) (h0 + 50)) ++ wwSi cA (h0 + 57) (h0 + 58) ((h0 + 19)) ((h0 + 40)) ((h0 + 49))) ++ wwLa cA (h0 + 60) (h0 + 61)) ++ wwLa cA (h0 + 75) (h0 + 76)) ++ wwLa cA (h0 + 90) (h0 + 91)) ++ [(h0 + 105, .inl (cA 3, (3, .inl (fun _ => 0))))]))
section ME
variable {D : va_G} {cA : Nat → ClassId} {h0 b fa : Nat} {adK adV : Nat → Nat}
def eB0 (cA : Nat → ClassId) (h0 : Nat) : va_W := [(h0 + 59, .inl (cA 5, (3, .inr (.inr (.inr (.inr (va_up (va_up (va_up (fun _ => none) ((0 : Int32).toNatClampNeg) (some (h0 + 60))) ((1 : Int32).toNatClampNeg) (some (h0 + 75))) ((2 : Int32).toNatClampNeg) (some (h0 + 90)))))))))]
theorem eM0 : ∀ x ∈ eB0 cA h0, x ∈ wE cA h0 := fun x hx => by have hx : x ∈ eB0 cA h0 := hx; obtain rfl := List.mem_singleton.mp hx; exact List.mem_cons_self
def eB1 (cA : Nat → ClassId) (h0 : Nat) : va_W := [(h0, .inr (8, [.ref (h0 + 1), .ref (h0 + 3), .ref (h0 + 19), .ref (h0 + 34), .ref (h0 + 40), .ref (h0 + 46), .ref (h0 + 49), .ref (h0 + 57), .ref (h0 + 59), .ref (h0 + 105)]))]
theorem eM1 : ∀ x ∈ eB1 cA h0, x ∈ wE cA h0 := fun x hx => by have hx : x ∈ eB1 cA h0 := hx; obtain rfl := List.mem_singleton.mp hx; exact List.mem_cons_of_mem _ List.mem_cons_self
def eB2 (cA : Nat → ClassId) (h0 : Nat) : va_W := wwTa cA (h0 + 1) (h0 + 2)
theorem eM2 : ∀ x ∈ eB2 cA h0, x ∈ wE cA h0 := fun x hx => List.mem_cons_of_mem _ (List.mem_cons_of_mem _ (List.mem_append_left _ (List.mem_append_left _ (List.mem_append_left _ (List.mem_append_left _ (List.mem_append_left _ (List.mem_append_left _ (List.mem_append_left _ (List.mem_append_left _ (List.mem_append_left _ (List.mem_append_left _ (List.mem_append_left _ (hx)))))))))))))
def eB3 (cA : Nat → ClassId) (h0 : Nat) : va_W := wwRe cA (h0 + 3) (h0 + 4) ((h0 + 1))
theorem eM3 : ∀ x ∈ eB3 cA h0, x ∈ wE cA h0 := fun x hx => List.mem_cons_of_mem _ (List.mem_cons_of_mem _ (List.mem_append_left _ (List.mem_append_left _ (List.mem_append_left _ (List.mem_append_left _ (List.mem_append_left _ (List.mem_append_left _ (List.mem_append_left _ (List.mem_append_left _ (List.mem_append_left _ (List.mem_append_left _ (List.mem_append_right _ hx))))))))))))
def eB4 (cA : Nat → ClassId) (h0 : Nat) : va_W := wwLa cA (h0 + 19) (h0 + 20)
theorem eM4 : ∀ x ∈ eB4 cA h0, x ∈ wE cA h0 := fun x hx => List.mem_cons_of_mem _ (List.mem_cons_of_mem _ (List.mem_append_left _ (List.mem_append_left _ (List.mem_append_left _ (List.mem_append_left _ (List.mem_append_left _ (List.mem_append_left _ (List.mem_append_left _ (List.mem_append_left _ (List.mem_append_left _ (List.mem_append_right _ hx)))))))))))
def eB5 (cA : Nat → ClassId) (h0 : Nat) : va_W := wwCo cA (h0 + 34) (h0 + 35) ((h0 + 19))
theorem eM5 : ∀ x ∈ eB5 cA h0, x ∈ wE cA h0 := fun x hx => List.mem_cons_of_mem _ (List.mem_cons_of_mem _ (List.mem_append_left _ (List.mem_append_left _ (List.mem_append_left _ (List.mem_append_left _ (List.mem_append_left _ (List.mem_append_left _ (List.mem_append_left _ (List.mem_append_left _ (List.mem_append_right _ hx))))))))))
def eB6 (cA : Nat → ClassId) (h0 : Nat) : va_W := wwCo cA (h0 + 40) (h0 + 41) ((h0 + 19))
theorem eM6 : ∀ x ∈ eB6 cA h0, x ∈ wE cA h0 := fun x hx => List.mem_cons_of_mem _ (List.mem_cons_of_mem _ (List.mem_append_left _ (List.mem_append_left _ (List.mem_append_left _ (List.mem_append_left _ (List.mem_append_left _ (List.mem_append_left _ (List.mem_append_left _ (List.mem_append_right _ hx)))))))))
def eB7 (cA : Nat → ClassId) (h0 : Nat) : va_W := wwCh cA (h0 + 46) (h0 + 47) ((h0 + 19)) ((h0 + 34))
theorem eM7 : ∀ x ∈ eB7 cA h0, x ∈ wE cA h0 := fun x hx => List.mem_cons_of_mem _ (List.mem_cons_of_mem _ (List.mem_append_left _ (List.mem_append_left _ (List.mem_append_left _ (List.mem_append_left _ (List.mem_append_left _ (List.mem_append_left _ (List.mem_append_right _ hx))))))))
def eB8 (cA : Nat → ClassId) (h0 : Nat) : va_W := wwSl cA (h0 + 49) (h0 + 50)
theorem eM8 : ∀ x ∈ eB8 cA h0, x ∈ wE cA h0 := fun x hx => List.mem_cons_of_mem _ (List.mem_cons_of_mem _ (List.mem_append_left _ (List.mem_append_left _ (List.mem_append_left _ (List.mem_append_left _ (List.mem_append_left _ (List.mem_append_right _ hx)))))))
def eB9 (cA : Nat → ClassId) (h0 : Nat) : va_W := wwSi cA (h0 + 57) (h0 + 58) ((h0 + 19)) ((h0 + 40)) ((h0 + 49))
theorem eM9 : ∀ x ∈ eB9 cA h0, x ∈ wE cA h0 := fun x hx => List.mem_cons_of_mem _ (List.mem_cons_of_mem _ (List.mem_append_left _ (List.mem_append_left _ (List.mem_append_left _ (List.mem_append_left _ (List.mem_append_right _ hx))))))
def eB10 (cA : Nat → ClassId) (h0 : Nat) : va_W := wwLa cA (h0 + 60) (h0 + 61)
theorem eM10 : ∀ x ∈ eB10 cA h0, x ∈ wE cA h0 := fun x hx => List.mem_cons_of_mem _ (List.mem_cons_of_mem _ (List.mem_append_left _ (List.mem_append_left _ (List.mem_append_left _ (List.mem_append_right _ hx)))))
def eB11 (cA : Nat → ClassId) (h0 : Nat) : va_W := wwLa cA (h0 + 75) (h0 + 76)
theorem eM11 : ∀ x ∈ eB11 cA h0, x ∈ wE cA h0 := fun x hx => List.mem_cons_of_mem _ (List.mem_cons_of_mem _ (List.mem_append_left _ (List.mem_append_left _ (List.mem_append_right _ hx))))
def eB12 (cA : Nat → ClassId) (h0 : Nat) : va_W := wwLa cA (h0 + 90) (h0 + 91)
theorem eM12 : ∀ x ∈ eB12 cA h0, x ∈ wE cA h0 := fun x hx => List.mem_cons_of_mem _ (List.mem_cons_of_mem _ (List.mem_append_left _ (List.mem_append_right _ hx)))
def eB13 (cA : Nat → ClassId) (h0 : Nat) : va_W := [(h0 + 105, .inl (cA 3, (3, .inl (fun _ => 0))))]
theorem eM13 : ∀ x ∈ eB13 cA h0, x ∈ wE cA h0 := fun x hx => List.mem_cons_of_mem _ (List.mem_cons_of_mem _ (List.mem_append_right _ hx))
theorem q_cong {cA : ClassId} {n : Nat} {f g : Nat → Option Nat} (h : ∀ j, j < n → f j = g j) : vp_cell cA (n, .inr (.inr (.inr (.inr f)))) = vp_cell cA (n, .inr (.inr (.inr (.inr g)))) := by
  rw [vp_cell_q, vp_cell_q]
  unfold arrV
  rw [show (fun j : Fin n => va_rf (f j.val)) = (fun j : Fin n => va_rf (g j.val)) from funext fun j => by rw [h j.val j.isLt]]
set_option maxHeartbeats 4000000 in
set_option maxRecDepth 100000 in
theorem eA_0 (m : Nat) (xs : Nat → Int32) {H : Heap} (hP : va_P D vwCl (eB1 cA h0) H) : va_at D vwCl (adr0 h0 b fa adK 0, mEl w1 ft0 nf0 cA (adr0 h0 b fa adK) (f0 m xs) 0) H := hP 0 _ rfl
set_option maxHeartbeats 4000000 in
set_option maxRecDepth 100000 in
theorem eA_1 (m : Nat) (xs : Nat → Int32) {H : Heap} (hP : va_P D vwCl (eB2 cA h0) H) : va_at D vwCl (adr0 h0 b fa adK 1, mEl w1 ft0 nf0 cA (adr0 h0 b fa adK) (f0 m xs) 1) H := hP 0 _ rfl
set_option maxHeartbeats 4000000 in
set_option maxRecDepth 100000 in
theorem eA_2 (m : Nat) (xs : Nat → Int32) {H : Heap} (hP : va_P D vwCl (eB2 cA h0) H) : va_at D vwCl (adr0 h0 b fa adK 2, mEl w1 ft0 nf0 cA (adr0 h0 b fa adK) (f0 m xs) 2) H := hP 1 _ rfl
set_option maxHeartbeats 4000000 in
set_option maxRecDepth 100000 in
theorem eA_3 (m : Nat) (xs : Nat → Int32) {H : Heap} (hP : va_P D vwCl (eB3 cA h0) H) : va_at D vwCl (adr0 h0 b fa adK 3, mEl w1 ft0 nf0 cA (adr0 h0 b fa adK) (f0 m xs) 3) H := hP 0 _ rfl
set_option maxHeartbeats 4000000 in
set_option maxRecDepth 100000 in
theorem eA_4 (m : Nat) (xs : Nat → Int32) {H : Heap} (hP : va_P D vwCl (eB7 cA h0) H) : va_at D vwCl (adr0 h0 b fa adK 4, mEl w1 ft0 nf0 cA (adr0 h0 b fa adK) (f0 m xs) 4) H := hP 0 _ rfl
set_option maxHeartbeats 4000000 in
set_option maxRecDepth 100000 in
theorem eA_5 (m : Nat) (xs : Nat → Int32) {H : Heap} (hP : va_P D vwCl (eB7 cA h0) H) : va_at D vwCl (adr0 h0 b fa adK 5, mEl w1 ft0 nf0 cA (adr0 h0 b fa adK) (f0 m xs) 5) H := hP 1 _ rfl
set_option maxHeartbeats 4000000 in
set_option maxRecDepth 100000 in
theorem eA_6 (m : Nat) (xs : Nat → Int32) {H : Heap} (hP : va_P D vwCl (eB7 cA h0) H) : va_at D vwCl (adr0 h0 b fa adK 6, mEl w1 ft0 nf0 cA (adr0 h0 b fa adK) (f0 m xs) 6) H := hP 2 _ rfl
set_option maxHeartbeats 4000000 in
set_option maxRecDepth 100000 in
theorem eA_7 (m : Nat) (xs : Nat → Int32) {H : Heap} (hP : va_P D vwCl (eB8 cA h0) H) : va_at D vwCl (adr0 h0 b fa adK 7, mEl w1 ft0 nf0 cA (adr0 h0 b fa adK) (f0 m xs) 7) H := hP 0 _ rfl
set_option maxHeartbeats 4000000 in
set_option maxRecDepth 100000 in
theorem eA_8 (m : Nat) (xs : Nat → Int32) {H : Heap} (hP : va_P D vwCl (eB8 cA h0) H) : va_at D vwCl (adr0 h0 b fa adK 8, mEl w1 ft0 nf0 cA (adr0 h0 b fa adK) (f0 m xs) 8) H := by
  have h := hP 1 _ rfl
  show H[h0 + 50]? = some (vp_cell (cA 6) (4, .inr (.inr (.inr (.inr (fun j => some (adr0 h0 b fa adK (wRef 8 j))))))))
  refine Eq.trans h (congrArg some (q_cong (fun j hj => ?_)))
  match j, hj with
  | 0, _ => rfl
  | 1, _ => rfl
  | 2, _ => rfl
  | 3, _ => rfl
  | j + 4, hj => omega
set_option maxHeartbeats 4000000 in
set_option maxRecDepth 100000 in
theorem eA_9 (m : Nat) (xs : Nat → Int32) {H : Heap} (hP : va_P D vwCl (eB8 cA h0) H) : va_at D vwCl (adr0 h0 b fa adK 9, mEl w1 ft0 nf0 cA (adr0 h0 b fa adK) (f0 m xs) 9) H := hP 2 _ rfl
set_option maxHeartbeats 4000000 in
set_option maxRecDepth 100000 in
theorem eA_10 (m : Nat) (xs : Nat → Int32) {H : Heap} (hP : va_P D vwCl (eB8 cA h0) H) : va_at D vwCl (adr0 h0 b fa adK 10, mEl w1 ft0 nf0 cA (adr0 h0 b fa adK) (f0 m xs) 10) H := hP 3 _ rfl
set_option maxHeartbeats 4000000 in
set_option maxRecDepth 100000 in
theorem eA_11 (m : Nat) (xs : Nat → Int32) {H : Heap} (hP : va_P D vwCl (eB8 cA h0) H) : va_at D vwCl (adr0 h0 b fa adK 11, mEl w1 ft0 nf0 cA (adr0 h0 b fa adK) (f0 m xs) 11) H := hP 4 _ rfl
set_option maxHeartbeats 4000000 in
set_option maxRecDepth 100000 in
theorem eA_12 (m : Nat) (xs : Nat → Int32) {H : Heap} (hP : va_P D vwCl (eB8 cA h0) H) : va_at D vwCl (adr0 h0 b fa adK 12, mEl w1 ft0 nf0 cA (adr0 h0 b fa adK) (f0 m xs) 12) H := hP 5 _ rfl
set_option maxHeartbeats 4000000 in
set_option maxRecDepth 100000 in
theorem eA_13 (m : Nat) (xs : Nat → Int32) {H : Heap} (hP : va_P D vwCl (eB8 cA h0) H) : va_at D vwCl (adr0 h0 b fa adK 13, mEl w1 ft0 nf0 cA (adr0 h0 b fa adK) (f0 m xs) 13) H := hP 6 _ rfl
set_option maxHeartbeats 4000000 in
set_option maxRecDepth 100000 in
theorem eA_14 (m : Nat) (xs : Nat → Int32) {H : Heap} (hP : va_P D vwCl (eB8 cA h0) H) : va_at D vwCl (adr0 h0 b fa adK 14, mEl w1 ft0 nf0 cA (adr0 h0 b fa adK) (f0 m xs) 14) H := hP 7 _ rfl
set_option maxHeartbeats 4000000 in
set_option maxRecDepth 100000 in
theorem eA_15 (m : Nat) (xs : Nat → Int32) {H : Heap} (hP : va_P D vwCl (eB9 cA h0) H) : va_at D vwCl (adr0 h0 b fa adK 15, mEl w1 ft0 nf0 cA (adr0 h0 b fa adK) (f0 m xs) 15) H := hP 0 _ rfl
set_option maxHeartbeats 4000000 in
set_option maxRecDepth 100000 in
theorem eA_16 (m : Nat) (xs : Nat → Int32) {H : Heap} (hP : va_P D vwCl (eB9 cA h0) H) : va_at D vwCl (adr0 h0 b fa adK 16, mEl w1 ft0 nf0 cA (adr0 h0 b fa adK) (f0 m xs) 16) H := hP 1 _ rfl
set_option maxHeartbeats 4000000 in
set_option maxRecDepth 100000 in
theorem eA_17 (m : Nat) (xs : Nat → Int32) {H : Heap} (hP : va_P D vwCl (eB0 cA h0) H) : va_at D vwCl (adr0 h0 b fa adK 17, mEl w1 ft0 nf0 cA (adr0 h0 b fa adK) (f0 m xs) 17) H := by
  have h := hP 0 _ rfl
  show H[h0 + 59]? = some (vp_cell (cA 5) (3, .inr (.inr (.inr (.inr (fun j => some (adr0 h0 b fa adK (wRef 17 j))))))))
  refine Eq.trans h (congrArg some (q_cong (fun j hj => ?_)))
  match j, hj with
  | 0, _ => rfl
  | 1, _ => rfl
  | 2, _ => rfl
  | j + 3, hj => omega
set_option maxHeartbeats 4000000 in
set_option maxRecDepth 100000 in
theorem eA_18 (m : Nat) (xs : Nat → Int32) {H : Heap} (hP : va_P D vwCl (eB13 cA h0) H) : va_at D vwCl (adr0 h0 b fa adK 18, mEl w1 ft0 nf0 cA (adr0 h0 b fa adK) (f0 m xs) 18) H := hP 0 _ rfl
set_option maxHeartbeats 4000000 in
set_option maxRecDepth 100000 in
theorem eA_20 (m : Nat) (xs : Nat → Int32) {H : Heap} (hP : va_P D vwCl (eB5 cA h0) H) : va_at D vwCl (adr0 h0 b fa adK 20, mEl w1 ft0 nf0 cA (adr0 h0 b fa adK) (f0 m xs) 20) H := hP 0 _ rfl
set_option maxHeartbeats 4000000 in
set_option maxRecDepth 100000 in
theorem eA_21 (m : Nat) (xs : Nat → Int32) {H : Heap} (hP : va_P D vwCl (eB5 cA h0) H) : va_at D vwCl (adr0 h0 b fa adK 21, mEl w1 ft0 nf0 cA (adr0 h0 b fa adK) (f0 m xs) 21) H := hP 1 _ rfl
set_option maxHeartbeats 4000000 in
set_option maxRecDepth 100000 in
theorem eA_22 (m : Nat) (xs : Nat → Int32) {H : Heap} (hP : va_P D vwCl (eB5 cA h0) H) : va_at D vwCl (adr0 h0 b fa adK 22, mEl w1 ft0 nf0 cA (adr0 h0 b fa adK) (f0 m xs) 22) H := hP 2 _ rfl
set_option maxHeartbeats 4000000 in
set_option maxRecDepth 100000 in
theorem eA_23 (m : Nat) (xs : Nat → Int32) {H : Heap} (hP : va_P D vwCl (eB5 cA h0) H) : va_at D vwCl (adr0 h0 b fa adK 23, mEl w1 ft0 nf0 cA (adr0 h0 b fa adK) (f0 m xs) 23) H := hP 3 _ rfl
set_option maxHeartbeats 4000000 in
set_option maxRecDepth 100000 in
theorem eA_24 (m : Nat) (xs : Nat → Int32) {H : Heap} (hP : va_P D vwCl (eB5 cA h0) H) : va_at D vwCl (adr0 h0 b fa adK 24, mEl w1 ft0 nf0 cA (adr0 h0 b fa adK) (f0 m xs) 24) H := hP 4 _ rfl
set_option maxHeartbeats 4000000 in
set_option maxRecDepth 100000 in
theorem eA_25 (m : Nat) (xs : Nat → Int32) {H : Heap} (hP : va_P D vwCl (eB5 cA h0) H) : va_at D vwCl (adr0 h0 b fa adK 25, mEl w1 ft0 nf0 cA (adr0 h0 b fa adK) (f0 m xs) 25) H := hP 5 _ rfl
set_option maxHeartbeats 4000000 in
set_option maxRecDepth 100000 in
theorem eA_30 (m : Nat) (xs : Nat → Int32) {H : Heap} (hP : va_P D vwCl (eB6 cA h0) H) : va_at D vwCl (adr0 h0 b fa adK 30, mEl w1 ft0 nf0 cA (adr0 h0 b fa adK) (f0 m xs) 30) H := hP 0 _ rfl
set_option maxHeartbeats 4000000 in
set_option maxRecDepth 100000 in
theorem eA_31 (m : Nat) (xs : Nat → Int32) {H : Heap} (hP : va_P D vwCl (eB6 cA h0) H) : va_at D vwCl (adr0 h0 b fa adK 31, mEl w1 ft0 nf0 cA (adr0 h0 b fa adK) (f0 m xs) 31) H := hP 1 _ rfl
set_option maxHeartbeats 4000000 in
set_option maxRecDepth 100000 in
theorem eA_32 (m : Nat) (xs : Nat → Int32) {H : Heap} (hP : va_P D vwCl (eB6 cA h0) H) : va_at D vwCl (adr0 h0 b fa adK 32, mEl w1 ft0 nf0 cA (adr0 h0 b fa adK) (f0 m xs) 32) H := hP 2 _ rfl
set_option maxHeartbeats 4000000 in
set_option maxRecDepth 100000 in
theorem eA_33 (m : Nat) (xs : Nat → Int32) {H : Heap} (hP : va_P D vwCl (eB6 cA h0) H) : va_at D vwCl (adr0 h0 b fa adK 33, mEl w1 ft0 nf0 cA (adr0 h0 b fa adK) (f0 m xs) 33) H := hP 3 _ rfl
set_option maxHeartbeats 4000000 in
set_option maxRecDepth 100000 in
theorem eA_34 (m : Nat) (xs : Nat → Int32) {H : Heap} (hP : va_P D vwCl (eB6 cA h0) H) : va_at D vwCl (adr0 h0 b fa adK 34, mEl w1 ft0 nf0 cA (adr0 h0 b fa adK) (f0 m xs) 34) H := hP 4 _ rfl
set_option maxHeartbeats 4000000 in
set_option maxRecDepth 100000 in
theorem eA_35 (m : Nat) (xs : Nat → Int32) {H : Heap} (hP : va_P D vwCl (eB6 cA h0) H) : va_at D vwCl (adr0 h0 b fa adK 35, mEl w1 ft0 nf0 cA (adr0 h0 b fa adK) (f0 m xs) 35) H := hP 5 _ rfl
set_option maxHeartbeats 4000000 in
set_option maxRecDepth 100000 in
theorem eA_40 (m : Nat) (xs : Nat → Int32) {H : Heap} (hP : va_P D vwCl (eB4 cA h0) H) : va_at D vwCl (adr0 h0 b fa adK 40, mEl w1 ft0 nf0 cA (adr0 h0 b fa adK) (f0 m xs) 40) H := hP 0 _ rfl
set_option maxHeartbeats 4000000 in
set_option maxRecDepth 100000 in
theorem eA_41 (m : Nat) (xs : Nat → Int32) {H : Heap} (hP : va_P D vwCl (eB4 cA h0) H) : va_at D vwCl (adr0 h0 b fa adK 41, mEl w1 ft0 nf0 cA (adr0 h0 b fa adK) (f0 m xs) 41) H := hP 1 _ rfl
set_option maxHeartbeats 4000000 in
set_option maxRecDepth 100000 in
theorem eA_42 (m : Nat) (xs : Nat → Int32) {H : Heap} (hP : va_P D vwCl (eB4 cA h0) H) : va_at D vwCl (adr0 h0 b fa adK 42, mEl w1 ft0 nf0 cA (adr0 h0 b fa adK) (f0 m xs) 42) H := hP 2 _ rfl
set_option maxHeartbeats 4000000 in
set_option maxRecDepth 100000 in
theorem eA_43 (m : Nat) (xs : Nat → Int32) {H : Heap} (hP : va_P D vwCl (eB4 cA h0) H) : va_at D vwCl (adr0 h0 b fa adK 43, mEl w1 ft0 nf0 cA (adr0 h0 b fa adK) (f0 m xs) 43) H := hP 3 _ rfl
set_option maxHeartbeats 4000000 in
set_option maxRecDepth 100000 in
theorem eA_44 (m : Nat) (xs : Nat → Int32) {H : Heap} (hP : va_P D vwCl (eB4 cA h0) H) : va_at D vwCl (adr0 h0 b fa adK 44, mEl w1 ft0 nf0 cA (adr0 h0 b fa adK) (f0 m xs) 44) H := hP 4 _ rfl
set_option maxHeartbeats 4000000 in
set_option maxRecDepth 100000 in
theorem eA_45 (m : Nat) (xs : Nat → Int32) {H : Heap} (hP : va_P D vwCl (eB4 cA h0) H) : va_at D vwCl (adr0 h0 b fa adK 45, mEl w1 ft0 nf0 cA (adr0 h0 b fa adK) (f0 m xs) 45) H := hP 5 _ rfl
set_option maxHeartbeats 4000000 in
set_option maxRecDepth 100000 in
theorem eA_46 (m : Nat) (xs : Nat → Int32) {H : Heap} (hP : va_P D vwCl (eB4 cA h0) H) : va_at D vwCl (adr0 h0 b fa adK 46, mEl w1 ft0 nf0 cA (adr0 h0 b fa adK) (f0 m xs) 46) H := hP 6 _ rfl
set_option maxHeartbeats 4000000 in
set_option maxRecDepth 100000 in
theorem eA_47 (m : Nat) (xs : Nat → Int32) {H : Heap} (hP : va_P D vwCl (eB4 cA h0) H) : va_at D vwCl (adr0 h0 b fa adK 47, mEl w1 ft0 nf0 cA (adr0 h0 b fa adK) (f0 m xs) 47) H := hP 7 _ rfl
set_option maxHeartbeats 4000000 in
set_option maxRecDepth 100000 in
theorem eA_48 (m : Nat) (xs : Nat → Int32) {H : Heap} (hP : va_P D vwCl (eB4 cA h0) H) : va_at D vwCl (adr0 h0 b fa adK 48, mEl w1 ft0 nf0 cA (adr0 h0 b fa adK) (f0 m xs) 48) H := hP 8 _ rfl
set_option maxHeartbeats 4000000 in
set_option maxRecDepth 100000 in
theorem eA_49 (m : Nat) (xs : Nat → Int32) {H : Heap} (hP : va_P D vwCl (eB4 cA h0) H) : va_at D vwCl (adr0 h0 b fa adK 49, mEl w1 ft0 nf0 cA (adr0 h0 b fa adK) (f0 m xs) 49) H := hP 9 _ rfl
set_option maxHeartbeats 4000000 in
set_option maxRecDepth 100000 in
theorem eA_50 (m : Nat) (xs : Nat → Int32) {H : Heap} (hP : va_P D vwCl (eB4 cA h0) H) : va_at D vwCl (adr0 h0 b fa adK 50, mEl w1 ft0 nf0 cA (adr0 h0 b fa adK) (f0 m xs) 50) H := hP 10 _ rfl
set_option maxHeartbeats 4000000 in
set_option maxRecDepth 100000 in
theorem eA_51 (m : Nat) (xs : Nat → Int32) {H : Heap} (hP : va_P D vwCl (eB4 cA h0) H) : va_at D vwCl (adr0 h0 b fa adK 51, mEl w1 ft0 nf0 cA (adr0 h0 b fa adK) (f0 m xs) 51) H := hP 11 _ rfl
set_option maxHeartbeats 4000000 in
set_option maxRecDepth 100000 in
theorem eA_52 (m : Nat) (xs : Nat → Int32) {H : Heap} (hP : va_P D vwCl (eB4 cA h0) H) : va_at D vwCl (adr0 h0 b fa adK 52, mEl w1 ft0 nf0 cA (adr0 h0 b fa adK) (f0 m xs) 52) H := hP 12 _ rfl
set_option maxHeartbeats 4000000 in
set_option maxRecDepth 100000 in
theorem eA_53 (m : Nat) (xs : Nat → Int32) {H : Heap} (hP : va_P D vwCl (eB4 cA h0) H) : va_at D vwCl (adr0 h0 b fa adK 53, mEl w1 ft0 nf0 cA (adr0 h0 b fa adK) (f0 m xs) 53) H := hP 13 _ rfl
set_option maxHeartbeats 4000000 in
set_option maxRecDepth 100000 in
theorem eA_54 (m : Nat) (xs : Nat → Int32) {H : Heap} (hP : va_P D vwCl (eB4 cA h0) H) : va_at D vwCl (adr0 h0 b fa adK 54, mEl w1 ft0 nf0 cA (adr0 h0 b fa adK) (f0 m xs) 54) H := hP 14 _ rfl
set_option maxHeartbeats 4000000 in
set_option maxRecDepth 100000 in
theorem eA_60 (m : Nat) (xs : Nat → Int32) {H : Heap} (hP : va_P D vwCl (eB3 cA h0) H) : va_at D vwCl (adr0 h0 b fa adK 60, mEl w1 ft0 nf0 cA (adr0 h0 b fa adK) (f0 m xs) 60) H := hP 1 _ rfl
set_option maxHeartbeats 4000000 in
set_option maxRecDepth 100000 in
theorem eA_61 (m : Nat) (xs : Nat → Int32) {H : Heap} (hP : va_P D vwCl (eB3 cA h0) H) : va_at D vwCl (adr0 h0 b fa adK 61, mEl w1 ft0 nf0 cA (adr0 h0 b fa adK) (f0 m xs) 61) H := hP 2 _ rfl
set_option maxHeartbeats 4000000 in
set_option maxRecDepth 100000 in
theorem eA_62 (m : Nat) (xs : Nat → Int32) {H : Heap} (hP : va_P D vwCl (eB3 cA h0) H) : va_at D vwCl (adr0 h0 b fa adK 62, mEl w1 ft0 nf0 cA (adr0 h0 b fa adK) (f0 m xs) 62) H := hP 3 _ rfl
set_option maxHeartbeats 4000000 in
set_option maxRecDepth 100000 in
theorem eA_63 (m : Nat) (xs : Nat → Int32) {H : Heap} (hP : va_P D vwCl (eB3 cA h0) H) : va_at D vwCl (adr0 h0 b fa adK 63, mEl w1 ft0 nf0 cA (adr0 h0 b fa adK) (f0 m xs) 63) H := hP 4 _ rfl
set_option maxHeartbeats 4000000 in
set_option maxRecDepth 100000 in
theorem eA_64 (m : Nat) (xs : Nat → Int32) {H : Heap} (hP : va_P D vwCl (eB3 cA h0) H) : va_at D vwCl (adr0 h0 b fa adK 64, mEl w1 ft0 nf0 cA (adr0 h0 b fa adK) (f0 m xs) 64) H := hP 5 _ rfl
set_option maxHeartbeats 4000000 in
set_option maxRecDepth 100000 in
theorem eA_65 (m : Nat) (xs : Nat → Int32) {H : Heap} (hP : va_P D vwCl (eB3 cA h0) H) : va_at D vwCl (adr0 h0 b fa adK 65, mEl w1 ft0 nf0 cA (adr0 h0 b fa adK) (f0 m xs) 65) H := hP 6 _ rfl
set_option maxHeartbeats 4000000 in
set_option maxRecDepth 100000 in
theorem eA_66 (m : Nat) (xs : Nat → Int32) {H : Heap} (hP : va_P D vwCl (eB3 cA h0) H) : va_at D vwCl (adr0 h0 b fa adK 66, mEl w1 ft0 nf0 cA (adr0 h0 b fa adK) (f0 m xs) 66) H := hP 7 _ rfl
set_option maxHeartbeats 4000000 in
set_option maxRecDepth 100000 in
theorem eA_67 (m : Nat) (xs : Nat → Int32) {H : Heap} (hP : va_P D vwCl (eB3 cA h0) H) : va_at D vwCl (adr0 h0 b fa adK 67, mEl w1 ft0 nf0 cA (adr0 h0 b fa adK) (f0 m xs) 67) H := hP 8 _ rfl
set_option maxHeartbeats 4000000 in
set_option maxRecDepth 100000 in
theorem eA_68 (m : Nat) (xs : Nat → Int32) {H : Heap} (hP : va_P D vwCl (eB3 cA h0) H) : va_at D vwCl (adr0 h0 b fa adK 68, mEl w1 ft0 nf0 cA (adr0 h0 b fa adK) (f0 m xs) 68) H := hP 9 _ rfl
set_option maxHeartbeats 4000000 in
set_option maxRecDepth 100000 in
theorem eA_69 (m : Nat) (xs : Nat → Int32) {H : Heap} (hP : va_P D vwCl (eB3 cA h0) H) : va_at D vwCl (adr0 h0 b fa adK 69, mEl w1 ft0 nf0 cA (adr0 h0 b fa adK) (f0 m xs) 69) H := hP 10 _ rfl
set_option maxHeartbeats 4000000 in
set_option maxRecDepth 100000 in
theorem eA_70 (m : Nat) (xs : Nat → Int32) {H : Heap} (hP : va_P D vwCl (eB3 cA h0) H) : va_at D vwCl (adr0 h0 b fa adK 70, mEl w1 ft0 nf0 cA (adr0 h0 b fa adK) (f0 m xs) 70) H := hP 11 _ rfl
set_option maxHeartbeats 4000000 in
set_option maxRecDepth 100000 in
theorem eA_71 (m : Nat) (xs : Nat → Int32) {H : Heap} (hP : va_P D vwCl (eB3 cA h0) H) : va_at D vwCl (adr0 h0 b fa adK 71, mEl w1 ft0 nf0 cA (adr0 h0 b fa adK) (f0 m xs) 71) H := hP 12 _ rfl
set_option maxHeartbeats 4000000 in
set_option maxRecDepth 100000 in
theorem eA_72 (m : Nat) (xs : Nat → Int32) {H : Heap} (hP : va_P D vwCl (eB3 cA h0) H) : va_at D vwCl (adr0 h0 b fa adK 72, mEl w1 ft0 nf0 cA (adr0 h0 b fa adK) (f0 m xs) 72) H := hP 13 _ rfl
set_option maxHeartbeats 4000000 in
set_option maxRecDepth 100000 in
theorem eA_73 (m : Nat) (xs : Nat → Int32) {H : Heap} (hP : va_P D vwCl (eB3 cA h0) H) : va_at D vwCl (adr0 h0 b fa adK 73, mEl w1 ft0 nf0 cA (adr0 h0 b fa adK) (f0 m xs) 73) H := hP 14 _ rfl
set_option maxHeartbeats 4000000 in
set_option maxRecDepth 100000 in
theorem eA_74 (m : Nat) (xs : Nat → Int32) {H : Heap} (hP : va_P D vwCl (eB3 cA h0) H) : va_at D vwCl (adr0 h0 b fa adK 74, mEl w1 ft0 nf0 cA (adr0 h0 b fa adK) (f0 m xs) 74) H := hP 15 _ rfl
set_option maxHeartbeats 4000000 in
set_option maxRecDepth 100000 in
theorem eA_80 (m : Nat) (xs : Nat → Int32) {H : Heap} (hP : va_P D vwCl (eB10 cA h0) H) : va_at D vwCl (adr0 h0 b fa adK 80, mEl w1 ft0 nf0 cA (adr0 h0 b fa adK) (f0 m xs) 80) H := hP 0 _ rfl
set_option maxHeartbeats 4000000 in
set_option maxRecDepth 100000 in
theorem eA_81 (m : Nat) (xs : Nat → Int32) {H : Heap} (hP : va_P D vwCl (eB10 cA h0) H) : va_at D vwCl (adr0 h0 b fa adK 81, mEl w1 ft0 nf0 cA (adr0 h0 b fa adK) (f0 m xs) 81) H := hP 1 _ rfl
set_option maxHeartbeats 4000000 in
set_option maxRecDepth 100000 in
theorem eA_82 (m : Nat) (xs : Nat → Int32) {H : Heap} (hP : va_P D vwCl (eB10 cA h0) H) : va_at D vwCl (adr0 h0 b fa adK 82, mEl w1 ft0 nf0 cA (adr0 h0 b fa adK) (f0 m xs) 82) H := hP 2 _ rfl
set_option maxHeartbeats 4000000 in
set_option maxRecDepth 100000 in
theorem eA_83 (m : Nat) (xs : Nat → Int32) {H : Heap} (hP : va_P D vwCl (eB10 cA h0) H) : va_at D vwCl (adr0 h0 b fa adK 83, mEl w1 ft0 nf0 cA (adr0 h0 b fa adK) (f0 m xs) 83) H := hP 3 _ rfl
set_option maxHeartbeats 4000000 in
set_option maxRecDepth 100000 in
theorem eA_84 (m : Nat) (xs : Nat → Int32) {H : Heap} (hP : va_P D vwCl (eB10 cA h0) H) : va_at D vwCl (adr0 h0 b fa adK 84, mEl w1 ft0 nf0 cA (adr0 h0 b fa adK) (f0 m xs) 84) H := hP 4 _ rfl
set_option maxHeartbeats 4000000 in
set_option maxRecDepth 100000 in
theorem eA_85 (m : Nat) (xs : Nat → Int32) {H : Heap} (hP : va_P D vwCl (eB10 cA h0) H) : va_at D vwCl (adr0 h0 b fa adK 85, mEl w1 ft0 nf0 cA (adr0 h0 b fa adK) (f0 m xs) 85) H := hP 5 _ rfl
set_option maxHeartbeats 4000000 in
set_option maxRecDepth 100000 in
theorem eA_86 (m : Nat) (xs : Nat → Int32) {H : Heap} (hP : va_P D vwCl (eB10 cA h0) H) : va_at D vwCl (adr0 h0 b fa adK 86, mEl w1 ft0 nf0 cA (adr0 h0 b fa adK) (f0 m xs) 86) H := hP 6 _ rfl
set_option maxHeartbeats 4000000 in
set_option maxRecDepth 100000 in
theorem eA_87 (m : Nat) (xs : Nat → Int32) {H : Heap} (hP : va_P D vwCl (eB10 cA h0) H) : va_at D vwCl (adr0 h0 b fa adK 87, mEl w1 ft0 nf0 cA (adr0 h0 b fa adK) (f0 m xs) 87) H := hP 7 _ rfl
set_option maxHeartbeats 4000000 in
set_option maxRecDepth 100000 in
theorem eA_88 (m : Nat) (xs : Nat → Int32) {H : Heap} (hP : va_P D vwCl (eB10 cA h0) H) : va_at D vwCl (adr0 h0 b fa adK 88, mEl w1 ft0 nf0 cA (adr0 h0 b fa adK) (f0 m xs) 88) H := hP 8 _ rfl
set_option maxHeartbeats 4000000 in
set_option maxRecDepth 100000 in
theorem eA_89 (m : Nat) (xs : Nat → Int32) {H : Heap} (hP : va_P D vwCl (eB10 cA h0) H) : va_at D vwCl (adr0 h0 b fa adK 89, mEl w1 ft0 nf0 cA (adr0 h0 b fa adK) (f0 m xs) 89) H := hP 9 _ rfl
set_option maxHeartbeats 4000000 in
set_option maxRecDepth 100000 in
theorem eA_90 (m : Nat) (xs : Nat → Int32) {H : Heap} (hP : va_P D vwCl (eB10 cA h0) H) : va_at D vwCl (adr0 h0 b fa adK 90, mEl w1 ft0 nf0 cA (adr0 h0 b fa adK) (f0 m xs) 90) H := hP 10 _ rfl
set_option maxHeartbeats 4000000 in
set_option maxRecDepth 100000 in
theorem eA_91 (m : Nat) (xs : Nat → Int32) {H : Heap} (hP : va_P D vwCl (eB10 cA h0) H) : va_at D vwCl (adr0 h0 b fa adK 91, mEl w1 ft0 nf0 cA (adr0 h0 b fa adK) (f0 m xs) 91) H := hP 11 _ rfl
set_option maxHeartbeats 4000000 in
set_option maxRecDepth 100000 in
theorem eA_92 (m : Nat) (xs : Nat → Int32) {H : Heap} (hP : va_P D vwCl (eB10 cA h0) H) : va_at D vwCl (adr0 h0 b fa adK 92, mEl w1 ft0 nf0 cA (adr0 h0 b fa adK) (f0 m xs) 92) H := hP 12 _ rfl
set_option maxHeartbeats 4000000 in
set_option maxRecDepth 100000 in
theorem eA_93 (m : Nat) (xs : Nat → Int32) {H : Heap} (hP : va_P D vwCl (eB10 cA h0) H) : va_at D vwCl (adr0 h0 b fa adK 93, mEl w1 ft0 nf0 cA (adr0 h0 b fa adK) (f0 m xs) 93) H := hP 13 _ rfl
set_option maxHeartbeats 4000000 in
set_option maxRecDepth 100000 in
theorem eA_94 (m : Nat) (xs : Nat → Int32) {H : Heap} (hP : va_P D vwCl (eB10 cA h0) H) : va_at D vwCl (adr0 h0 b fa adK 94, mEl w1 ft0 nf0 cA (adr0 h0 b fa adK) (f0 m xs) 94) H := hP 14 _ rfl
set_option maxHeartbeats 4000000 in
set_option maxRecDepth 100000 in
theorem eA_100 (m : Nat) (xs : Nat → Int32) {H : Heap} (hP : va_P D vwCl (eB11 cA h0) H) : va_at D vwCl (adr0 h0 b fa adK 100, mEl w1 ft0 nf0 cA (adr0 h0 b fa adK) (f0 m xs) 100) H := hP 0 _ rfl
set_option maxHeartbeats 4000000 in
set_option maxRecDepth 100000 in
theorem eA_101 (m : Nat) (xs : Nat → Int32) {H : Heap} (hP : va_P D vwCl (eB11 cA h0) H) : va_at D vwCl (adr0 h0 b fa adK 101, mEl w1 ft0 nf0 cA (adr0 h0 b fa adK) (f0 m xs) 101) H := hP 1 _ rfl
set_option maxHeartbeats 4000000 in
set_option maxRecDepth 100000 in
theorem eA_102 (m : Nat) (xs : Nat → Int32) {H : Heap} (hP : va_P D vwCl (eB11 cA h0) H) : va_at D vwCl (adr0 h0 b fa adK 102, mEl w1 ft0 nf0 cA (adr0 h0 b fa adK) (f0 m xs) 102) H := hP 2 _ rfl
set_option maxHeartbeats 4000000 in
set_option maxRecDepth 100000 in
theorem eA_103 (m : Nat) (xs : Nat → Int32) {H : Heap} (hP : va_P D vwCl (eB11 cA h0) H) : va_at D vwCl (adr0 h0 b fa adK 103, mEl w1 ft0 nf0 cA (adr0 h0 b fa adK) (f0 m xs) 103) H := hP 3 _ rfl
set_option maxHeartbeats 4000000 in
set_option maxRecDepth 100000 in
theorem eA_104 (m : Nat) (xs : Nat → Int32) {H : Heap} (hP : va_P D vwCl (eB11 cA h0) H) : va_at D vwCl (adr0 h0 b fa adK 104, mEl w1 ft0 nf0 cA (adr0 h0 b fa adK) (f0 m xs) 104) H := hP 4 _ rfl
set_option maxHeartbeats 4000000 in
set_option maxRecDepth 100000 in
theorem eA_105 (m : Nat) (xs : Nat → Int32) {H : Heap} (hP : va_P D vwCl (eB11 cA h0) H) : va_at D vwCl (adr0 h0 b fa adK 105, mEl w1 ft0 nf0 cA (adr0 h0 b fa adK) (f0 m xs) 105) H := hP 5 _ rfl
set_option maxHeartbeats 4000000 in
set_option maxRecDepth 100000 in
theorem eA_106 (m : Nat) (xs : Nat → Int32) {H : Heap} (hP : va_P D vwCl (eB11 cA h0) H) : va_at D vwCl (adr0 h0 b fa adK 106, mEl w1 ft0 nf0 cA (adr0 h0 b fa adK) (f0 m xs) 106) H := hP 6 _ rfl
set_option maxHeartbeats 4000000 in
set_option maxRecDepth 100000 in
theorem eA_107 (m : Nat) (xs : Nat → Int32) {H : Heap} (hP : va_P D vwCl (eB11 cA h0) H) : va_at D vwCl (adr0 h0 b fa adK 107, mEl w1 ft0 nf0 cA (adr0 h0 b fa adK) (f0 m xs) 107) H := hP 7 _ rfl
set_option maxHeartbeats 4000000 in
set_option maxRecDepth 100000 in
theorem eA_108 (m : Nat) (xs : Nat → Int32) {H : Heap} (hP : va_P D vwCl (eB11 cA h0) H) : va_at D vwCl (adr0 h0 b fa adK 108, mEl w1 ft0 nf0 cA (adr0 h0 b fa adK) (f0 m xs) 108) H := hP 8 _ rfl
set_option maxHeartbeats 4000000 in
set_option maxRecDepth 100000 in
theorem eA_109 (m : Nat) (xs : Nat → Int32) {H : Heap} (hP : va_P D vwCl (eB11 cA h0) H) : va_at D vwCl (adr0 h0 b fa adK 109, mEl w1 ft0 nf0 cA (adr0 h0 b fa adK) (f0 m xs) 109) H := hP 9 _ rfl
set_option maxHeartbeats 4000000 in
set_option maxRecDepth 100000 in
theorem eA_110 (m : Nat) (xs : Nat → Int32) {H : Heap} (hP : va_P D vwCl (eB11 cA h0) H) : va_at D vwCl (adr0 h0 b fa adK 110, mEl w1 ft0 nf0 cA (adr0 h0 b fa adK) (f0 m xs) 110) H := hP 10 _ rfl
set_option maxHeartbeats 4000000 in
set_option maxRecDepth 100000 in
theorem eA_111 (m : Nat) (xs : Nat → Int32) {H : Heap} (hP : va_P D vwCl (eB11 cA h0) H) : va_at D vwCl (adr0 h0 b fa adK 111, mEl w1 ft0 nf0 cA (adr0 h0 b fa adK) (f0 m xs) 111) H := hP 11 _ rfl
set_option maxHeartbeats 4000000 in
set_option maxRecDepth 100000 in
theorem eA_112 (m : Nat) (xs : Nat → Int32) {H : Heap} (hP : va_P D vwCl (eB11 cA h0) H) : va_at D vwCl (adr0 h0 b fa adK 112, mEl w1 ft0 nf0 cA (adr0 h0 b fa adK) (f0 m xs) 112) H := hP 12 _ rfl
set_option maxHeartbeats 4000000 in
set_option maxRecDepth 100000 in
theorem eA_113 (m : Nat) (xs : Nat → Int32) {H : Heap} (hP : va_P D vwCl (eB11 cA h0) H) : va_at D vwCl (adr0 h0 b fa adK 113, mEl w1 ft0 nf0 cA (adr0 h0 b fa adK) (f0 m xs) 113) H := hP 13 _ rfl
set_option maxHeartbeats 4000000 in
set_option maxRecDepth 100000 in
theorem eA_114 (m : Nat) (xs : Nat → Int32) {H : Heap} (hP : va_P D vwCl (eB11 cA h0) H) : va_at D vwCl (adr0 h0 b fa adK 114, mEl w1 ft0 nf0 cA (adr0 h0 b fa adK) (f0 m xs) 114) H := hP 14 _ rfl
set_option maxHeartbeats 4000000 in
set_option maxRecDepth 100000 in
theorem eA_120 (m : Nat) (xs : Nat → Int32) {H : Heap} (hP : va_P D vwCl (eB12 cA h0) H) : va_at D vwCl (adr0 h0 b fa adK 120, mEl w1 ft0 nf0 cA (adr0 h0 b fa adK) (f0 m xs) 120) H := hP 0 _ rfl
set_option maxHeartbeats 4000000 in
set_option maxRecDepth 100000 in
theorem eA_121 (m : Nat) (xs : Nat → Int32) {H : Heap} (hP : va_P D vwCl (eB12 cA h0) H) : va_at D vwCl (adr0 h0 b fa adK 121, mEl w1 ft0 nf0 cA (adr0 h0 b fa adK) (f0 m xs) 121) H := hP 1 _ rfl
set_option maxHeartbeats 4000000 in
set_option maxRecDepth 100000 in
theorem eA_122 (m : Nat) (xs : Nat → Int32) {H : Heap} (hP : va_P D vwCl (eB12 cA h0) H) : va_at D vwCl (adr0 h0 b fa adK 122, mEl w1 ft0 nf0 cA (adr0 h0 b fa adK) (f0 m xs) 122) H := hP 2 _ rfl
set_option maxHeartbeats 4000000 in
set_option maxRecDepth 100000 in
theorem eA_123 (m : Nat) (xs : Nat → Int32) {H : Heap} (hP : va_P D vwCl (eB12 cA h0) H) : va_at D vwCl (adr0 h0 b fa adK 123, mEl w1 ft0 nf0 cA (adr0 h0 b fa adK) (f0 m xs) 123) H := hP 3 _ rfl
set_option maxHeartbeats 4000000 in
set_option maxRecDepth 100000 in
theorem eA_124 (m : Nat) (xs : Nat → Int32) {H : Heap} (hP : va_P D vwCl (eB12 cA h0) H) : va_at D vwCl (adr0 h0 b fa adK 124, mEl w1 ft0 nf0 cA (adr0 h0 b fa adK) (f0 m xs) 124) H := hP 4 _ rfl
set_option maxHeartbeats 4000000 in
set_option maxRecDepth 100000 in
theorem eA_125 (m : Nat) (xs : Nat → Int32) {H : Heap} (hP : va_P D vwCl (eB12 cA h0) H) : va_at D vwCl (adr0 h0 b fa adK 125, mEl w1 ft0 nf0 cA (adr0 h0 b fa adK) (f0 m xs) 125) H := hP 5 _ rfl
set_option maxHeartbeats 4000000 in
set_option maxRecDepth 100000 in
theorem eA_126 (m : Nat) (xs : Nat → Int32) {H : Heap} (hP : va_P D vwCl (eB12 cA h0) H) : va_at D vwCl (adr0 h0 b fa adK 126, mEl w1 ft0 nf0 cA (adr0 h0 b fa adK) (f0 m xs) 126) H := hP 6 _ rfl
set_option maxHeartbeats 4000000 in
set_option maxRecDepth 100000 in
theorem eA_127 (m : Nat) (xs : Nat → Int32) {H : Heap} (hP : va_P D vwCl (eB12 cA h0) H) : va_at D vwCl (adr0 h0 b fa adK 127, mEl w1 ft0 nf0 cA (adr0 h0 b fa adK) (f0 m xs) 127) H := hP 7 _ rfl
set_option maxHeartbeats 4000000 in
set_option maxRecDepth 100000 in
theorem eA_128 (m : Nat) (xs : Nat → Int32) {H : Heap} (hP : va_P D vwCl (eB12 cA h0) H) : va_at D vwCl (adr0 h0 b fa adK 128, mEl w1 ft0 nf0 cA (adr0 h0 b fa adK) (f0 m xs) 128) H := hP 8 _ rfl
set_option maxHeartbeats 4000000 in
set_option maxRecDepth 100000 in
theorem eA_129 (m : Nat) (xs : Nat → Int32) {H : Heap} (hP : va_P D vwCl (eB12 cA h0) H) : va_at D vwCl (adr0 h0 b fa adK 129, mEl w1 ft0 nf0 cA (adr0 h0 b fa adK) (f0 m xs) 129) H := hP 9 _ rfl
set_option maxHeartbeats 4000000 in
set_option maxRecDepth 100000 in
theorem eA_130 (m : Nat) (xs : Nat → Int32) {H : Heap} (hP : va_P D vwCl (eB12 cA h0) H) : va_at D vwCl (adr0 h0 b fa adK 130, mEl w1 ft0 nf0 cA (adr0 h0 b fa adK) (f0 m xs) 130) H := hP 10 _ rfl
set_option maxHeartbeats 4000000 in
set_option maxRecDepth 100000 in
theorem eA_131 (m : Nat) (xs : Nat → Int32) {H : Heap} (hP : va_P D vwCl (eB12 cA h0) H) : va_at D vwCl (adr0 h0 b fa adK 131, mEl w1 ft0 nf0 cA (adr0 h0 b fa adK) (f0 m xs) 131) H := hP 11 _ rfl
set_option maxHeartbeats 4000000 in
set_option maxRecDepth 100000 in
theorem eA_132 (m : Nat) (xs : Nat → Int32) {H : Heap} (hP : va_P D vwCl (eB12 cA h0) H) : va_at D vwCl (adr0 h0 b fa adK 132, mEl w1 ft0 nf0 cA (adr0 h0 b fa adK) (f0 m xs) 132) H := hP 12 _ rfl
set_option maxHeartbeats 4000000 in
set_option maxRecDepth 100000 in
theorem eA_133 (m : Nat) (xs : Nat → Int32) {H : Heap} (hP : va_P D vwCl (eB12 cA h0) H) : va_at D vwCl (adr0 h0 b fa adK 133, mEl w1 ft0 nf0 cA (adr0 h0 b fa adK) (f0 m xs) 133) H := hP 13 _ rfl
set_option maxHeartbeats 4000000 in
set_option maxRecDepth 100000 in
theorem eA_134 (m : Nat) (xs : Nat → Int32) {H : Heap} (hP : va_P D vwCl (eB12 cA h0) H) : va_at D vwCl (adr0 h0 b fa adK 134, mEl w1 ft0 nf0 cA (adr0 h0 b fa adK) (f0 m xs) 134) H := hP 14 _ rfl
set_option maxHeartbeats 4000000 in
set_option maxRecDepth 100000 in
theorem e_P (m : Nat) (xs : Nat → Int32) {H : Heap} (hP : va_P D vwCl (wE cA h0) H) : va_P D vwCl (vW (v1 D cA h0 b fa adK) (f0 m xs)) H := v_P (ids := ids1) (List.forall_mem_cons.mpr ⟨eA_0 m xs (k_sub hP eM1), List.forall_mem_cons.mpr ⟨eA_1 m xs (k_sub hP eM2), List.forall_mem_cons.mpr ⟨eA_2 m xs (k_sub hP eM2), List.forall_mem_cons.mpr ⟨eA_3 m xs (k_sub hP eM3), List.forall_mem_cons.mpr ⟨eA_4 m xs (k_sub hP eM7), List.forall_mem_cons.mpr ⟨eA_5 m xs (k_sub hP eM7), List.forall_mem_cons.mpr ⟨eA_6 m xs (k_sub hP eM7), List.forall_mem_cons.mpr ⟨eA_7 m xs (k_sub hP eM8), List.forall_mem_cons.mpr ⟨eA_8 m xs (k_sub hP eM8), List.forall_mem_cons.mpr ⟨eA_9 m xs (k_sub hP eM8), List.forall_mem_cons.mpr ⟨eA_10 m xs (k_sub hP eM8), List.forall_mem_cons.mpr ⟨eA_11 m xs (k_sub hP eM8), List.forall_mem_cons.mpr ⟨eA_12 m xs (k_sub hP eM8), List.forall_mem_cons.mpr ⟨eA_13 m xs (k_sub hP eM8), List.forall_mem_cons.mpr ⟨eA_14 m xs (k_sub hP eM8), List.forall_mem_cons.mpr ⟨eA_15 m xs (k_sub hP eM9), List.forall_mem_cons.mpr ⟨eA_16 m xs (k_sub hP eM9), List.forall_mem_cons.mpr ⟨eA_17 m xs (k_sub hP eM0), List.forall_mem_cons.mpr ⟨eA_18 m xs (k_sub hP eM13), List.forall_mem_cons.mpr ⟨eA_20 m xs (k_sub hP eM5), List.forall_mem_cons.mpr ⟨eA_21 m xs (k_sub hP eM5), List.forall_mem_cons.mpr ⟨eA_22 m xs (k_sub hP eM5), List.forall_mem_cons.mpr ⟨eA_23 m xs (k_sub hP eM5), List.forall_mem_cons.mpr ⟨eA_24 m xs (k_sub hP eM5), List.forall_mem_cons.mpr ⟨eA_25 m xs (k_sub hP eM5), List.forall_mem_cons.mpr ⟨eA_30 m xs (k_sub hP eM6), List.forall_mem_cons.mpr ⟨eA_31 m xs (k_sub hP eM6), List.forall_mem_cons.mpr ⟨eA_32 m xs (k_sub hP eM6), List.forall_mem_cons.mpr ⟨eA_33 m xs (k_sub hP eM6), List.forall_mem_cons.mpr ⟨eA_34 m xs (k_sub hP eM6), List.forall_mem_cons.mpr ⟨eA_35 m xs (k_sub hP eM6), List.forall_mem_cons.mpr ⟨eA_40 m xs (k_sub hP eM4), List.forall_mem_cons.mpr ⟨eA_41 m xs (k_sub hP eM4), List.forall_mem_cons.mpr ⟨eA_42 m xs (k_sub hP eM4), List.forall_mem_cons.mpr ⟨eA_43 m xs (k_sub hP eM4), List.forall_mem_cons.mpr ⟨eA_44 m xs (k_sub hP eM4), List.forall_mem_cons.mpr ⟨eA_45 m xs (k_sub hP eM4), List.forall_mem_cons.mpr ⟨eA_46 m xs (k_sub hP eM4), List.forall_mem_cons.mpr ⟨eA_47 m xs (k_sub hP eM4), List.forall_mem_cons.mpr ⟨eA_48 m xs (k_sub hP eM4), List.forall_mem_cons.mpr ⟨eA_49 m xs (k_sub hP eM4), List.forall_mem_cons.mpr ⟨eA_50 m xs (k_sub hP eM4), List.forall_mem_cons.mpr ⟨eA_51 m xs (k_sub hP eM4), List.forall_mem_cons.mpr ⟨eA_52 m xs (k_sub hP eM4), List.forall_mem_cons.mpr ⟨eA_53 m xs (k_sub hP eM4), List.forall_mem_cons.mpr ⟨eA_54 m xs (k_sub hP eM4), List.forall_mem_cons.mpr ⟨eA_60 m xs (k_sub hP eM3), List.forall_mem_cons.mpr ⟨eA_61 m xs (k_sub hP eM3), List.forall_mem_cons.mpr ⟨eA_62 m xs (k_sub hP eM3), List.forall_mem_cons.mpr ⟨eA_63 m xs (k_sub hP eM3), List.forall_mem_cons.mpr ⟨eA_64 m xs (k_sub hP eM3), List.forall_mem_cons.mpr ⟨eA_65 m xs (k_sub hP eM3), List.forall_mem_cons.mpr ⟨eA_66 m xs (k_sub hP eM3), List.forall_mem_cons.mpr ⟨eA_67 m xs (k_sub hP eM3), List.forall_mem_cons.mpr ⟨eA_68 m xs (k_sub hP eM3), List.forall_mem_cons.mpr ⟨eA_69 m xs (k_sub hP eM3), List.forall_mem_cons.mpr ⟨eA_70 m xs (k_sub hP eM3), List.forall_mem_cons.mpr ⟨eA_71 m xs (k_sub hP eM3), List.forall_mem_cons.mpr ⟨eA_72 m xs (k_sub hP eM3), List.forall_mem_cons.mpr ⟨eA_73 m xs (k_sub hP eM3), List.forall_mem_cons.mpr ⟨eA_74 m xs (k_sub hP eM3), List.forall_mem_cons.mpr ⟨eA_80 m xs (k_sub hP eM10), List.forall_mem_cons.mpr ⟨eA_81 m xs (k_sub hP eM10), List.forall_mem_cons.mpr ⟨eA_82 m xs (k_sub hP eM10), List.forall_mem_cons.mpr ⟨eA_83 m xs (k_sub hP eM10), List.forall_mem_cons.mpr ⟨eA_84 m xs (k_sub hP eM10), List.forall_mem_cons.mpr ⟨eA_85 m xs (k_sub hP eM10), List.forall_mem_cons.mpr ⟨eA_86 m xs (k_sub hP eM10), List.forall_mem_cons.mpr ⟨eA_87 m xs (k_sub hP eM10), List.forall_mem_cons.mpr ⟨eA_88 m xs (k_sub hP eM10), List.forall_mem_cons.mpr ⟨eA_89 m xs (k_sub hP eM10), List.forall_mem_cons.mpr ⟨eA_90 m xs (k_sub hP eM10), List.forall_mem_cons.mpr ⟨eA_91 m xs (k_sub hP eM10), List.forall_mem_cons.mpr ⟨eA_92 m xs (k_sub hP eM10), List.forall_mem_cons.mpr ⟨eA_93 m xs (k_sub hP eM10), List.forall_mem_cons.mpr ⟨eA_94 m xs (k_sub hP eM10), List.forall_mem_cons.mpr ⟨eA_100 m xs (k_sub hP eM11), List.forall_mem_cons.mpr ⟨eA_101 m xs (k_sub hP eM11), List.forall_mem_cons.mpr ⟨eA_102 m xs (k_sub hP eM11), List.forall_mem_cons.mpr ⟨eA_103 m xs (k_sub hP eM11), List.forall_mem_cons.mpr ⟨eA_104 m xs (k_sub hP eM11), List.forall_mem_cons.mpr ⟨eA_105 m xs (k_sub hP eM11), List.forall_mem_cons.mpr ⟨eA_106 m xs (k_sub hP eM11), List.forall_mem_cons.mpr ⟨eA_107 m xs (k_sub hP eM11), List.forall_mem_cons.mpr ⟨eA_108 m xs (k_sub hP eM11), List.forall_mem_cons.mpr ⟨eA_109 m xs (k_sub hP eM11), List.forall_mem_cons.mpr ⟨eA_110 m xs (k_sub hP eM11), List.forall_mem_cons.mpr ⟨eA_111 m xs (k_sub hP eM11), List.forall_mem_cons.mpr ⟨eA_112 m xs (k_sub hP eM11), List.forall_mem_cons.mpr ⟨eA_113 m xs (k_sub hP eM11), List.forall_mem_cons.mpr ⟨eA_114 m xs (k_sub hP eM11), List.forall_mem_cons.mpr ⟨eA_120 m xs (k_sub hP eM12), List.forall_mem_cons.mpr ⟨eA_121 m xs (k_sub hP eM12), List.forall_mem_cons.mpr ⟨eA_122 m xs (k_sub hP eM12), List.forall_mem_cons.mpr ⟨eA_123 m xs (k_sub hP eM12), List.forall_mem_cons.mpr ⟨eA_124 m xs (k_sub hP eM12), List.forall_mem_cons.mpr ⟨eA_125 m xs (k_sub hP eM12), List.forall_mem_cons.mpr ⟨eA_126 m xs (k_sub hP eM12), List.forall_mem_cons.mpr ⟨eA_127 m xs (k_sub hP eM12), List.forall_mem_cons.mpr ⟨eA_128 m xs (k_sub hP eM12), List.forall_mem_cons.mpr ⟨eA_129 m xs (k_sub hP eM12), List.forall_mem_cons.mpr ⟨eA_130 m xs (k_sub hP eM12), List.forall_mem_cons.mpr ⟨eA_131 m xs (k_sub hP eM12), List.forall_mem_cons.mpr ⟨eA_132 m xs (k_sub hP eM12), List.forall_mem_cons.mpr ⟨eA_133 m xs (k_sub hP eM12), List.forall_mem_cons.mpr ⟨eA_134 m xs (k_sub hP eM12), fun _ h => absurd h List.not_mem_nil⟩⟩⟩⟩⟩⟩⟩⟩⟩⟩⟩⟩⟩⟩⟩⟩⟩⟩⟩⟩⟩⟩⟩⟩⟩⟩⟩⟩⟩⟩⟩⟩⟩⟩⟩⟩⟩⟩⟩⟩⟩⟩⟩⟩⟩⟩⟩⟩⟩⟩⟩⟩⟩⟩⟩⟩⟩⟩⟩⟩⟩⟩⟩⟩⟩⟩⟩⟩⟩⟩⟩⟩⟩⟩⟩⟩⟩⟩⟩⟩⟩⟩⟩⟩⟩⟩⟩⟩⟩⟩⟩⟩⟩⟩⟩⟩⟩⟩⟩⟩⟩⟩⟩⟩⟩⟩)
end ME
