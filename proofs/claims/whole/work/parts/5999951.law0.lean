set_option maxRecDepth 100000 in
set_option maxHeartbeats 4000000 in
theorem q_L_law_16 (D : Nat) (σ : mS) : Xx D n_L_law 16 [.ref 300, .ref 0, .ref 200, .null] [] σ = Xx D n_L_law 18 [.ref 300, .ref 0, .ref 200, .int 0] [] σ := (Xx_go D n_L_law (fun p => Nat.beq p 18) 2 _ _ _ _).trans rfl
set_option maxRecDepth 100000 in
set_option maxHeartbeats 4000000 in
theorem q_L_law_18 (D : Nat) (x3 : Int32) (σ : mS) : Xx D n_L_law 18 [.ref 300, .ref 0, .ref 200, .int x3] [] σ = (bif decide ((((Int32.ofNat ((σ.1 299 0).toNatClampNeg)) - (6 : Int32)) : Int32) < x3) then (some (.int 1, σ)) else (bif mIn x3 ((σ.1 299 0).toNatClampNeg) then Xx D n_L_law 33 [.ref 300, .ref 0, .ref 200, .int x3] [.int ((σ.1 300 (x3 : Int32).toNatClampNeg) &&& (127 : Int32))] σ else none)) := (Xx_go D n_L_law (fun p => Nat.beq p 33) 11 _ _ _ _).trans rfl
set_option maxRecDepth 100000 in
set_option maxHeartbeats 4000000 in
theorem q_L_law_33 (D : Nat) (x3 : Int32) (s0 : Int32) (σ : mS) : Xx D n_L_law 33 [.ref 300, .ref 0, .ref 200, .int x3] [.int s0] σ = (bif decide ((s0 : Int32).toInt < 0 ∨ 76 < (s0 : Int32).toInt) then Xx D n_L_law 2639 [.ref 300, .ref 0, .ref 200, .int x3] [] σ else Xx D n_L_law (mNth [2639, 356, 419, 442, 455, 478, 501, 524, 547, 590, 623, 656, 689, 722, 755, 778, 801, 834, 867, 900, 923, 946, 969, 992, 1015, 1038, 1051, 1084, 1117, 1150, 1173, 1196, 1219, 1242, 1275, 1308, 1331, 1354, 1377, 1400, 1423, 1436, 1449, 1472, 1505, 1548, 1581, 1614, 1627, 1650, 1663, 1686, 1699, 1712, 1745, 1778, 1811, 1844, 1877, 1900, 1943, 1996, 2029, 2082, 2126, 2150, 2203, 2246, 2259, 2272, 2305, 2358, 2391, 2414, 2437, 2460, 2503, 2576] (((s0 : Int32).toInt - 0).toNat + 1)) [.ref 300, .ref 0, .ref 200, .int x3] [] σ) := (Xx_go D n_L_law (fun _ => true) 1 _ _ _ _).trans rfl
set_option maxRecDepth 100000 in
set_option maxHeartbeats 4000000 in
theorem u_356 (D : Nat) (x3 : Int32) (st : List Value) (σ : mS) : Xx D n_L_law 356 [.ref 300, .ref 0, .ref 200, .int x3] st σ = (bif mIn (x3 + (1 : Int32)) ((σ.1 299 0).toNatClampNeg) then Xx D n_L_law 362 [.ref 300, .ref 0, .ref 200, .int x3] (.int (σ.1 300 ((x3 + (1 : Int32)) : Int32).toNatClampNeg) :: .ref 0 :: st) σ else none) := (Xx_go D n_L_law (fun p => Nat.beq p 362) 6 _ _ _ _).trans rfl
set_option maxRecDepth 100000 in
set_option maxHeartbeats 4000000 in
theorem u_362 (D : Nat) (x3 : Int32) (st : List Value) (σ : mS) : Xx D n_L_law 362 [.ref 300, .ref 0, .ref 200, .int x3] st σ = (bif mIn (x3 + (2 : Int32)) ((σ.1 299 0).toNatClampNeg) then Xx D n_L_law 367 [.ref 300, .ref 0, .ref 200, .int x3] (.int (σ.1 300 ((x3 + (2 : Int32)) : Int32).toNatClampNeg) :: st) σ else none) := (Xx_go D n_L_law (fun p => Nat.beq p 367) 5 _ _ _ _).trans rfl
set_option maxRecDepth 100000 in
set_option maxHeartbeats 4000000 in
theorem u_367 (D : Nat) (x3 : Int32) (st : List Value) (σ : mS) : Xx D n_L_law 367 [.ref 300, .ref 0, .ref 200, .int x3] st σ = (bif mIn (x3 + (3 : Int32)) ((σ.1 299 0).toNatClampNeg) then Xx D n_L_law 372 [.ref 300, .ref 0, .ref 200, .int x3] (.int (σ.1 300 ((x3 + (3 : Int32)) : Int32).toNatClampNeg) :: st) σ else none) := (Xx_go D n_L_law (fun p => Nat.beq p 372) 5 _ _ _ _).trans rfl
set_option maxRecDepth 100000 in
set_option maxHeartbeats 4000000 in
theorem u_372 (D : Nat) (x3 : Int32) (st : List Value) (σ : mS) : Xx D n_L_law 372 [.ref 300, .ref 0, .ref 200, .int x3] st σ = (bif mIn (x3 + (4 : Int32)) ((σ.1 299 0).toNatClampNeg) then Xx D n_L_law 377 [.ref 300, .ref 0, .ref 200, .int x3] (.int (σ.1 300 ((x3 + (4 : Int32)) : Int32).toNatClampNeg) :: st) σ else none) := (Xx_go D n_L_law (fun p => Nat.beq p 377) 5 _ _ _ _).trans rfl
set_option maxRecDepth 100000 in
set_option maxHeartbeats 4000000 in
theorem u_377 (D : Nat) (x3 : Int32) (st : List Value) (σ : mS) : Xx D n_L_law 377 [.ref 300, .ref 0, .ref 200, .int x3] st σ = (bif mIn (x3 + (5 : Int32)) ((σ.1 299 0).toNatClampNeg) then Xx D n_L_law 382 [.ref 300, .ref 0, .ref 200, .int x3] (.int (σ.1 300 ((x3 + (5 : Int32)) : Int32).toNatClampNeg) :: st) σ else none) := (Xx_go D n_L_law (fun p => Nat.beq p 382) 5 _ _ _ _).trans rfl
set_option maxRecDepth 100000 in
set_option maxHeartbeats 4000000 in
theorem u_382 (D : Nat) (x3 : Int32) (v1 : Int32) (v2 : Int32) (v3 : Int32) (v4 : Int32) (v5 : Int32) (σ : mS) : Xx D n_L_law 382 [.ref 300, .ref 0, .ref 200, .int x3] (.int v5 :: .int v4 :: .int v3 :: .int v2 :: .int v1 :: .ref 0 :: []) σ = (mBI (Cc D n_E_feed [.ref 0, .int v1, .int v2, .int v3, .int v4, .int v5] σ) fun r τ => Xx D n_L_law 385 [.ref 300, .ref 0, .ref 200, .int x3] [.int r] τ) := (Xx_go D n_L_law (fun p => Nat.beq p 385) 1 _ _ _ _).trans rfl
set_option maxRecDepth 100000 in
set_option maxHeartbeats 4000000 in
theorem u_385 (D : Nat) (x3 : Int32) (st : List Value) (σ : mS) : Xx D n_L_law 385 [.ref 300, .ref 0, .ref 200, .int x3] st σ = (bif mIn (x3 + (1 : Int32)) ((σ.1 299 0).toNatClampNeg) then Xx D n_L_law 391 [.ref 300, .ref 0, .ref 200, .int x3] (.int (σ.1 300 ((x3 + (1 : Int32)) : Int32).toNatClampNeg) :: .ref 200 :: st) σ else none) := (Xx_go D n_L_law (fun p => Nat.beq p 391) 6 _ _ _ _).trans rfl
set_option maxRecDepth 100000 in
set_option maxHeartbeats 4000000 in
theorem u_391 (D : Nat) (x3 : Int32) (st : List Value) (σ : mS) : Xx D n_L_law 391 [.ref 300, .ref 0, .ref 200, .int x3] st σ = (bif mIn (x3 + (2 : Int32)) ((σ.1 299 0).toNatClampNeg) then Xx D n_L_law 396 [.ref 300, .ref 0, .ref 200, .int x3] (.int (σ.1 300 ((x3 + (2 : Int32)) : Int32).toNatClampNeg) :: st) σ else none) := (Xx_go D n_L_law (fun p => Nat.beq p 396) 5 _ _ _ _).trans rfl
set_option maxRecDepth 100000 in
set_option maxHeartbeats 4000000 in
theorem u_396 (D : Nat) (x3 : Int32) (st : List Value) (σ : mS) : Xx D n_L_law 396 [.ref 300, .ref 0, .ref 200, .int x3] st σ = (bif mIn (x3 + (3 : Int32)) ((σ.1 299 0).toNatClampNeg) then Xx D n_L_law 401 [.ref 300, .ref 0, .ref 200, .int x3] (.int (σ.1 300 ((x3 + (3 : Int32)) : Int32).toNatClampNeg) :: st) σ else none) := (Xx_go D n_L_law (fun p => Nat.beq p 401) 5 _ _ _ _).trans rfl
set_option maxRecDepth 100000 in
set_option maxHeartbeats 4000000 in
theorem u_401 (D : Nat) (x3 : Int32) (st : List Value) (σ : mS) : Xx D n_L_law 401 [.ref 300, .ref 0, .ref 200, .int x3] st σ = (bif mIn (x3 + (4 : Int32)) ((σ.1 299 0).toNatClampNeg) then Xx D n_L_law 406 [.ref 300, .ref 0, .ref 200, .int x3] (.int (σ.1 300 ((x3 + (4 : Int32)) : Int32).toNatClampNeg) :: st) σ else none) := (Xx_go D n_L_law (fun p => Nat.beq p 406) 5 _ _ _ _).trans rfl
set_option maxRecDepth 100000 in
set_option maxHeartbeats 4000000 in
theorem u_406 (D : Nat) (x3 : Int32) (st : List Value) (σ : mS) : Xx D n_L_law 406 [.ref 300, .ref 0, .ref 200, .int x3] st σ = (bif mIn (x3 + (5 : Int32)) ((σ.1 299 0).toNatClampNeg) then Xx D n_L_law 411 [.ref 300, .ref 0, .ref 200, .int x3] (.int (σ.1 300 ((x3 + (5 : Int32)) : Int32).toNatClampNeg) :: st) σ else none) := (Xx_go D n_L_law (fun p => Nat.beq p 411) 5 _ _ _ _).trans rfl
set_option maxRecDepth 100000 in
set_option maxHeartbeats 4000000 in
theorem u_411 (D : Nat) (x3 : Int32) (v1 : Int32) (v2 : Int32) (v3 : Int32) (v4 : Int32) (v5 : Int32) (r : Int32) (σ : mS) : Xx D n_L_law 411 [.ref 300, .ref 0, .ref 200, .int x3] (.int v5 :: .int v4 :: .int v3 :: .int v2 :: .int v1 :: .ref 200 :: [.int r]) σ = (mBI (Cc D n_M_feed [.ref 200, .int v1, .int v2, .int v3, .int v4, .int v5, .null] σ) fun r4 τ => Xx D n_L_law 414 [.ref 300, .ref 0, .ref 200, .int x3] [.int r4, .int r] τ) := (Xx_go D n_L_law (fun p => Nat.beq p 414) 1 _ _ _ _).trans rfl
set_option maxRecDepth 100000 in
set_option maxHeartbeats 4000000 in
theorem u_414 (D : Nat) (x3 : Int32) (r r4 : Int32) (σ : mS) : Xx D n_L_law 414 [.ref 300, .ref 0, .ref 200, .int x3] [.int r4, .int r] σ = (bif decide ((r : Int32) = r4) then Xx D n_L_law 2639 [.ref 300, .ref 0, .ref 200, .int x3] [] σ else (some (.int 0, σ))) := (Xx_go D n_L_law (fun p => Nat.beq p 2639) 3 _ _ _ _).trans rfl
set_option maxRecDepth 100000 in
set_option maxHeartbeats 4000000 in
theorem q_L_law_419 (D : Nat) (x3 : Int32) (σ : mS) : Xx D n_L_law 419 [.ref 300, .ref 0, .ref 200, .int x3] [] σ = (bif mIn (x3 + (1 : Int32)) ((σ.1 299 0).toNatClampNeg) then (mBI (Cc D n_E_end [.ref 0, .int (σ.1 300 ((x3 + (1 : Int32)) : Int32).toNatClampNeg)] σ) fun r2 τ1 => (bif mIn (x3 + (1 : Int32)) ((τ1.1 299 0).toNatClampNeg) then (mBI (Cc D n_M_end [.ref 200, .int (τ1.1 300 ((x3 + (1 : Int32)) : Int32).toNatClampNeg)] τ1) fun r4 τ3 => (bif decide ((r2 : Int32) = r4) then Xx D n_L_law 2639 [.ref 300, .ref 0, .ref 200, .int x3] [] τ3 else (some (.int 0, τ3)))) else none)) else none) := (Xx_go D n_L_law (fun p => Nat.beq p 2639) 17 _ _ _ _).trans rfl
set_option maxRecDepth 100000 in
set_option maxHeartbeats 4000000 in
theorem q_L_law_442 (D : Nat) (x3 : Int32) (σ : mS) : Xx D n_L_law 442 [.ref 300, .ref 0, .ref 200, .int x3] [] σ = (mBI (Cc D n_E_land [.ref 0, .null] σ) fun r2 τ1 => (mBI (Cc D n_M_land [.ref 200, .null] τ1) fun r4 τ3 => (bif decide ((r2 : Int32) = r4) then Xx D n_L_law 2639 [.ref 300, .ref 0, .ref 200, .int x3] [] τ3 else (some (.int 0, τ3))))) := (Xx_go D n_L_law (fun p => Nat.beq p 2639) 7 _ _ _ _).trans rfl
set_option maxRecDepth 100000 in
set_option maxHeartbeats 4000000 in
theorem q_L_law_455 (D : Nat) (x3 : Int32) (σ : mS) : Xx D n_L_law 455 [.ref 300, .ref 0, .ref 200, .int x3] [] σ = (bif mIn (x3 + (1 : Int32)) ((σ.1 299 0).toNatClampNeg) then (mBI (Cc D n_E_fault [.ref 0, .int (σ.1 300 ((x3 + (1 : Int32)) : Int32).toNatClampNeg)] σ) fun r2 τ1 => (bif mIn (x3 + (1 : Int32)) ((τ1.1 299 0).toNatClampNeg) then (mBI (Cc D n_M_fault [.ref 200, .int (τ1.1 300 ((x3 + (1 : Int32)) : Int32).toNatClampNeg)] τ1) fun r4 τ3 => (bif decide ((r2 : Int32) = r4) then Xx D n_L_law 2639 [.ref 300, .ref 0, .ref 200, .int x3] [] τ3 else (some (.int 0, τ3)))) else none)) else none) := (Xx_go D n_L_law (fun p => Nat.beq p 2639) 17 _ _ _ _).trans rfl
set_option maxRecDepth 100000 in
set_option maxHeartbeats 4000000 in
theorem q_L_law_478 (D : Nat) (x3 : Int32) (σ : mS) : Xx D n_L_law 478 [.ref 300, .ref 0, .ref 200, .int x3] [] σ = (bif mIn (x3 + (1 : Int32)) ((σ.1 299 0).toNatClampNeg) then (mBI (Cc D n_E_skills [.ref 0, .int (σ.1 300 ((x3 + (1 : Int32)) : Int32).toNatClampNeg)] σ) fun r2 τ1 => (bif mIn (x3 + (1 : Int32)) ((τ1.1 299 0).toNatClampNeg) then (mBI (Cc D n_M_skills [.ref 200, .int (τ1.1 300 ((x3 + (1 : Int32)) : Int32).toNatClampNeg)] τ1) fun r4 τ3 => (bif decide ((r2 : Int32) = r4) then Xx D n_L_law 2639 [.ref 300, .ref 0, .ref 200, .int x3] [] τ3 else (some (.int 0, τ3)))) else none)) else none) := (Xx_go D n_L_law (fun p => Nat.beq p 2639) 17 _ _ _ _).trans rfl
set_option maxRecDepth 100000 in
set_option maxHeartbeats 4000000 in
theorem q_L_law_501 (D : Nat) (x3 : Int32) (σ : mS) : Xx D n_L_law 501 [.ref 300, .ref 0, .ref 200, .int x3] [] σ = (bif mIn (x3 + (1 : Int32)) ((σ.1 299 0).toNatClampNeg) then (mBI (Cc D n_E_needs [.ref 0, .int (σ.1 300 ((x3 + (1 : Int32)) : Int32).toNatClampNeg)] σ) fun r2 τ1 => (bif mIn (x3 + (1 : Int32)) ((τ1.1 299 0).toNatClampNeg) then (mBI (Cc D n_M_needs [.ref 200, .int (τ1.1 300 ((x3 + (1 : Int32)) : Int32).toNatClampNeg)] τ1) fun r4 τ3 => (bif decide ((r2 : Int32) = r4) then Xx D n_L_law 2639 [.ref 300, .ref 0, .ref 200, .int x3] [] τ3 else (some (.int 0, τ3)))) else none)) else none) := (Xx_go D n_L_law (fun p => Nat.beq p 2639) 17 _ _ _ _).trans rfl
set_option maxRecDepth 100000 in
set_option maxHeartbeats 4000000 in
theorem q_L_law_524 (D : Nat) (x3 : Int32) (σ : mS) : Xx D n_L_law 524 [.ref 300, .ref 0, .ref 200, .int x3] [] σ = (bif mIn (x3 + (1 : Int32)) ((σ.1 299 0).toNatClampNeg) then (mBI (Cc D n_E_year [.ref 0, .int (σ.1 300 ((x3 + (1 : Int32)) : Int32).toNatClampNeg)] σ) fun r2 τ1 => (bif mIn (x3 + (1 : Int32)) ((τ1.1 299 0).toNatClampNeg) then (mBI (Cc D n_M_year [.ref 200, .int (τ1.1 300 ((x3 + (1 : Int32)) : Int32).toNatClampNeg)] τ1) fun r4 τ3 => (bif decide ((r2 : Int32) = r4) then Xx D n_L_law 2639 [.ref 300, .ref 0, .ref 200, .int x3] [] τ3 else (some (.int 0, τ3)))) else none)) else none) := (Xx_go D n_L_law (fun p => Nat.beq p 2639) 17 _ _ _ _).trans rfl
set_option maxRecDepth 100000 in
set_option maxHeartbeats 4000000 in
theorem u_547 (D : Nat) (x3 : Int32) (st : List Value) (σ : mS) : Xx D n_L_law 547 [.ref 300, .ref 0, .ref 200, .int x3] st σ = (bif mIn (x3 + (1 : Int32)) ((σ.1 299 0).toNatClampNeg) then Xx D n_L_law 553 [.ref 300, .ref 0, .ref 200, .int x3] (.int (σ.1 300 ((x3 + (1 : Int32)) : Int32).toNatClampNeg) :: .ref 0 :: st) σ else none) := (Xx_go D n_L_law (fun p => Nat.beq p 553) 6 _ _ _ _).trans rfl
set_option maxRecDepth 100000 in
set_option maxHeartbeats 4000000 in
theorem u_553 (D : Nat) (x3 : Int32) (st : List Value) (σ : mS) : Xx D n_L_law 553 [.ref 300, .ref 0, .ref 200, .int x3] st σ = (bif mIn (x3 + (2 : Int32)) ((σ.1 299 0).toNatClampNeg) then Xx D n_L_law 558 [.ref 300, .ref 0, .ref 200, .int x3] (.int (σ.1 300 ((x3 + (2 : Int32)) : Int32).toNatClampNeg) :: st) σ else none) := (Xx_go D n_L_law (fun p => Nat.beq p 558) 5 _ _ _ _).trans rfl
set_option maxRecDepth 100000 in
set_option maxHeartbeats 4000000 in
theorem u_558 (D : Nat) (x3 : Int32) (st : List Value) (σ : mS) : Xx D n_L_law 558 [.ref 300, .ref 0, .ref 200, .int x3] st σ = (bif mIn (x3 + (3 : Int32)) ((σ.1 299 0).toNatClampNeg) then Xx D n_L_law 563 [.ref 300, .ref 0, .ref 200, .int x3] (.int (σ.1 300 ((x3 + (3 : Int32)) : Int32).toNatClampNeg) :: st) σ else none) := (Xx_go D n_L_law (fun p => Nat.beq p 563) 5 _ _ _ _).trans rfl
set_option maxRecDepth 100000 in
set_option maxHeartbeats 4000000 in
theorem u_563 (D : Nat) (x3 : Int32) (v1 : Int32) (v2 : Int32) (v3 : Int32) (σ : mS) : Xx D n_L_law 563 [.ref 300, .ref 0, .ref 200, .int x3] (.int v3 :: .int v2 :: .int v1 :: .ref 0 :: []) σ = (mBI (Cc D n_E_feels [.ref 0, .int v1, .int v2, .int v3] σ) fun r τ => Xx D n_L_law 566 [.ref 300, .ref 0, .ref 200, .int x3] [.int r] τ) := (Xx_go D n_L_law (fun p => Nat.beq p 566) 1 _ _ _ _).trans rfl
set_option maxRecDepth 100000 in
set_option maxHeartbeats 4000000 in
theorem u_566 (D : Nat) (x3 : Int32) (st : List Value) (σ : mS) : Xx D n_L_law 566 [.ref 300, .ref 0, .ref 200, .int x3] st σ = (bif mIn (x3 + (1 : Int32)) ((σ.1 299 0).toNatClampNeg) then Xx D n_L_law 572 [.ref 300, .ref 0, .ref 200, .int x3] (.int (σ.1 300 ((x3 + (1 : Int32)) : Int32).toNatClampNeg) :: .ref 200 :: st) σ else none) := (Xx_go D n_L_law (fun p => Nat.beq p 572) 6 _ _ _ _).trans rfl
set_option maxRecDepth 100000 in
set_option maxHeartbeats 4000000 in
theorem u_572 (D : Nat) (x3 : Int32) (st : List Value) (σ : mS) : Xx D n_L_law 572 [.ref 300, .ref 0, .ref 200, .int x3] st σ = (bif mIn (x3 + (2 : Int32)) ((σ.1 299 0).toNatClampNeg) then Xx D n_L_law 577 [.ref 300, .ref 0, .ref 200, .int x3] (.int (σ.1 300 ((x3 + (2 : Int32)) : Int32).toNatClampNeg) :: st) σ else none) := (Xx_go D n_L_law (fun p => Nat.beq p 577) 5 _ _ _ _).trans rfl
set_option maxRecDepth 100000 in
set_option maxHeartbeats 4000000 in
theorem u_577 (D : Nat) (x3 : Int32) (st : List Value) (σ : mS) : Xx D n_L_law 577 [.ref 300, .ref 0, .ref 200, .int x3] st σ = (bif mIn (x3 + (3 : Int32)) ((σ.1 299 0).toNatClampNeg) then Xx D n_L_law 582 [.ref 300, .ref 0, .ref 200, .int x3] (.int (σ.1 300 ((x3 + (3 : Int32)) : Int32).toNatClampNeg) :: st) σ else none) := (Xx_go D n_L_law (fun p => Nat.beq p 582) 5 _ _ _ _).trans rfl
set_option maxRecDepth 100000 in
set_option maxHeartbeats 4000000 in
theorem u_582 (D : Nat) (x3 : Int32) (v1 : Int32) (v2 : Int32) (v3 : Int32) (r : Int32) (σ : mS) : Xx D n_L_law 582 [.ref 300, .ref 0, .ref 200, .int x3] (.int v3 :: .int v2 :: .int v1 :: .ref 200 :: [.int r]) σ = (mBI (Cc D n_M_feels [.ref 200, .int v1, .int v2, .int v3] σ) fun r4 τ => Xx D n_L_law 585 [.ref 300, .ref 0, .ref 200, .int x3] [.int r4, .int r] τ) := (Xx_go D n_L_law (fun p => Nat.beq p 585) 1 _ _ _ _).trans rfl
set_option maxRecDepth 100000 in
set_option maxHeartbeats 4000000 in
theorem u_585 (D : Nat) (x3 : Int32) (r r4 : Int32) (σ : mS) : Xx D n_L_law 585 [.ref 300, .ref 0, .ref 200, .int x3] [.int r4, .int r] σ = (bif decide ((r : Int32) = r4) then Xx D n_L_law 2639 [.ref 300, .ref 0, .ref 200, .int x3] [] σ else (some (.int 0, σ))) := (Xx_go D n_L_law (fun p => Nat.beq p 2639) 3 _ _ _ _).trans rfl
set_option maxRecDepth 100000 in
set_option maxHeartbeats 4000000 in
theorem u_590 (D : Nat) (x3 : Int32) (st : List Value) (σ : mS) : Xx D n_L_law 590 [.ref 300, .ref 0, .ref 200, .int x3] st σ = (bif mIn (x3 + (1 : Int32)) ((σ.1 299 0).toNatClampNeg) then Xx D n_L_law 596 [.ref 300, .ref 0, .ref 200, .int x3] (.int (σ.1 300 ((x3 + (1 : Int32)) : Int32).toNatClampNeg) :: .ref 0 :: st) σ else none) := (Xx_go D n_L_law (fun p => Nat.beq p 596) 6 _ _ _ _).trans rfl
set_option maxRecDepth 100000 in
set_option maxHeartbeats 4000000 in
theorem u_596 (D : Nat) (x3 : Int32) (st : List Value) (σ : mS) : Xx D n_L_law 596 [.ref 300, .ref 0, .ref 200, .int x3] st σ = (bif mIn (x3 + (2 : Int32)) ((σ.1 299 0).toNatClampNeg) then Xx D n_L_law 601 [.ref 300, .ref 0, .ref 200, .int x3] (.int (σ.1 300 ((x3 + (2 : Int32)) : Int32).toNatClampNeg) :: st) σ else none) := (Xx_go D n_L_law (fun p => Nat.beq p 601) 5 _ _ _ _).trans rfl
set_option maxRecDepth 100000 in
set_option maxHeartbeats 4000000 in
theorem u_601 (D : Nat) (x3 : Int32) (v1 : Int32) (v2 : Int32) (σ : mS) : Xx D n_L_law 601 [.ref 300, .ref 0, .ref 200, .int x3] (.int v2 :: .int v1 :: .ref 0 :: []) σ = (mBI (Cc D n_E_enemies [.ref 0, .int v1, .int v2] σ) fun r τ => Xx D n_L_law 604 [.ref 300, .ref 0, .ref 200, .int x3] [.int r] τ) := (Xx_go D n_L_law (fun p => Nat.beq p 604) 1 _ _ _ _).trans rfl
set_option maxRecDepth 100000 in
set_option maxHeartbeats 4000000 in
theorem u_604 (D : Nat) (x3 : Int32) (st : List Value) (σ : mS) : Xx D n_L_law 604 [.ref 300, .ref 0, .ref 200, .int x3] st σ = (bif mIn (x3 + (1 : Int32)) ((σ.1 299 0).toNatClampNeg) then Xx D n_L_law 610 [.ref 300, .ref 0, .ref 200, .int x3] (.int (σ.1 300 ((x3 + (1 : Int32)) : Int32).toNatClampNeg) :: .ref 200 :: st) σ else none) := (Xx_go D n_L_law (fun p => Nat.beq p 610) 6 _ _ _ _).trans rfl
set_option maxRecDepth 100000 in
set_option maxHeartbeats 4000000 in
theorem u_610 (D : Nat) (x3 : Int32) (st : List Value) (σ : mS) : Xx D n_L_law 610 [.ref 300, .ref 0, .ref 200, .int x3] st σ = (bif mIn (x3 + (2 : Int32)) ((σ.1 299 0).toNatClampNeg) then Xx D n_L_law 615 [.ref 300, .ref 0, .ref 200, .int x3] (.int (σ.1 300 ((x3 + (2 : Int32)) : Int32).toNatClampNeg) :: st) σ else none) := (Xx_go D n_L_law (fun p => Nat.beq p 615) 5 _ _ _ _).trans rfl
set_option maxRecDepth 100000 in
set_option maxHeartbeats 4000000 in
theorem u_615 (D : Nat) (x3 : Int32) (v1 : Int32) (v2 : Int32) (r : Int32) (σ : mS) : Xx D n_L_law 615 [.ref 300, .ref 0, .ref 200, .int x3] (.int v2 :: .int v1 :: .ref 200 :: [.int r]) σ = (mBI (Cc D n_M_enemies [.ref 200, .int v1, .int v2] σ) fun r4 τ => Xx D n_L_law 618 [.ref 300, .ref 0, .ref 200, .int x3] [.int r4, .int r] τ) := (Xx_go D n_L_law (fun p => Nat.beq p 618) 1 _ _ _ _).trans rfl
set_option maxRecDepth 100000 in
set_option maxHeartbeats 4000000 in
theorem u_618 (D : Nat) (x3 : Int32) (r r4 : Int32) (σ : mS) : Xx D n_L_law 618 [.ref 300, .ref 0, .ref 200, .int x3] [.int r4, .int r] σ = (bif decide ((r : Int32) = r4) then Xx D n_L_law 2639 [.ref 300, .ref 0, .ref 200, .int x3] [] σ else (some (.int 0, σ))) := (Xx_go D n_L_law (fun p => Nat.beq p 2639) 3 _ _ _ _).trans rfl
set_option maxRecDepth 100000 in
set_option maxHeartbeats 4000000 in
theorem u_623 (D : Nat) (x3 : Int32) (st : List Value) (σ : mS) : Xx D n_L_law 623 [.ref 300, .ref 0, .ref 200, .int x3] st σ = (bif mIn (x3 + (1 : Int32)) ((σ.1 299 0).toNatClampNeg) then Xx D n_L_law 629 [.ref 300, .ref 0, .ref 200, .int x3] (.int (σ.1 300 ((x3 + (1 : Int32)) : Int32).toNatClampNeg) :: .ref 0 :: st) σ else none) := (Xx_go D n_L_law (fun p => Nat.beq p 629) 6 _ _ _ _).trans rfl
set_option maxRecDepth 100000 in
set_option maxHeartbeats 4000000 in
theorem u_629 (D : Nat) (x3 : Int32) (st : List Value) (σ : mS) : Xx D n_L_law 629 [.ref 300, .ref 0, .ref 200, .int x3] st σ = (bif mIn (x3 + (2 : Int32)) ((σ.1 299 0).toNatClampNeg) then Xx D n_L_law 634 [.ref 300, .ref 0, .ref 200, .int x3] (.int (σ.1 300 ((x3 + (2 : Int32)) : Int32).toNatClampNeg) :: st) σ else none) := (Xx_go D n_L_law (fun p => Nat.beq p 634) 5 _ _ _ _).trans rfl
set_option maxRecDepth 100000 in
set_option maxHeartbeats 4000000 in
theorem u_634 (D : Nat) (x3 : Int32) (v1 : Int32) (v2 : Int32) (σ : mS) : Xx D n_L_law 634 [.ref 300, .ref 0, .ref 200, .int x3] (.int v2 :: .int v1 :: .ref 0 :: []) σ = (mBI (Cc D n_E_friends [.ref 0, .int v1, .int v2] σ) fun r τ => Xx D n_L_law 637 [.ref 300, .ref 0, .ref 200, .int x3] [.int r] τ) := (Xx_go D n_L_law (fun p => Nat.beq p 637) 1 _ _ _ _).trans rfl
set_option maxRecDepth 100000 in
set_option maxHeartbeats 4000000 in
theorem u_637 (D : Nat) (x3 : Int32) (st : List Value) (σ : mS) : Xx D n_L_law 637 [.ref 300, .ref 0, .ref 200, .int x3] st σ = (bif mIn (x3 + (1 : Int32)) ((σ.1 299 0).toNatClampNeg) then Xx D n_L_law 643 [.ref 300, .ref 0, .ref 200, .int x3] (.int (σ.1 300 ((x3 + (1 : Int32)) : Int32).toNatClampNeg) :: .ref 200 :: st) σ else none) := (Xx_go D n_L_law (fun p => Nat.beq p 643) 6 _ _ _ _).trans rfl
set_option maxRecDepth 100000 in
set_option maxHeartbeats 4000000 in
theorem u_643 (D : Nat) (x3 : Int32) (st : List Value) (σ : mS) : Xx D n_L_law 643 [.ref 300, .ref 0, .ref 200, .int x3] st σ = (bif mIn (x3 + (2 : Int32)) ((σ.1 299 0).toNatClampNeg) then Xx D n_L_law 648 [.ref 300, .ref 0, .ref 200, .int x3] (.int (σ.1 300 ((x3 + (2 : Int32)) : Int32).toNatClampNeg) :: st) σ else none) := (Xx_go D n_L_law (fun p => Nat.beq p 648) 5 _ _ _ _).trans rfl
set_option maxRecDepth 100000 in
set_option maxHeartbeats 4000000 in
theorem u_648 (D : Nat) (x3 : Int32) (v1 : Int32) (v2 : Int32) (r : Int32) (σ : mS) : Xx D n_L_law 648 [.ref 300, .ref 0, .ref 200, .int x3] (.int v2 :: .int v1 :: .ref 200 :: [.int r]) σ = (mBI (Cc D n_M_friends [.ref 200, .int v1, .int v2] σ) fun r4 τ => Xx D n_L_law 651 [.ref 300, .ref 0, .ref 200, .int x3] [.int r4, .int r] τ) := (Xx_go D n_L_law (fun p => Nat.beq p 651) 1 _ _ _ _).trans rfl
set_option maxRecDepth 100000 in
set_option maxHeartbeats 4000000 in
theorem u_651 (D : Nat) (x3 : Int32) (r r4 : Int32) (σ : mS) : Xx D n_L_law 651 [.ref 300, .ref 0, .ref 200, .int x3] [.int r4, .int r] σ = (bif decide ((r : Int32) = r4) then Xx D n_L_law 2639 [.ref 300, .ref 0, .ref 200, .int x3] [] σ else (some (.int 0, σ))) := (Xx_go D n_L_law (fun p => Nat.beq p 2639) 3 _ _ _ _).trans rfl
set_option maxRecDepth 100000 in
set_option maxHeartbeats 4000000 in
theorem u_656 (D : Nat) (x3 : Int32) (st : List Value) (σ : mS) : Xx D n_L_law 656 [.ref 300, .ref 0, .ref 200, .int x3] st σ = (bif mIn (x3 + (1 : Int32)) ((σ.1 299 0).toNatClampNeg) then Xx D n_L_law 662 [.ref 300, .ref 0, .ref 200, .int x3] (.int (σ.1 300 ((x3 + (1 : Int32)) : Int32).toNatClampNeg) :: .ref 0 :: st) σ else none) := (Xx_go D n_L_law (fun p => Nat.beq p 662) 6 _ _ _ _).trans rfl
set_option maxRecDepth 100000 in
set_option maxHeartbeats 4000000 in
theorem u_662 (D : Nat) (x3 : Int32) (st : List Value) (σ : mS) : Xx D n_L_law 662 [.ref 300, .ref 0, .ref 200, .int x3] st σ = (bif mIn (x3 + (2 : Int32)) ((σ.1 299 0).toNatClampNeg) then Xx D n_L_law 667 [.ref 300, .ref 0, .ref 200, .int x3] (.int (σ.1 300 ((x3 + (2 : Int32)) : Int32).toNatClampNeg) :: st) σ else none) := (Xx_go D n_L_law (fun p => Nat.beq p 667) 5 _ _ _ _).trans rfl
set_option maxRecDepth 100000 in
set_option maxHeartbeats 4000000 in
theorem u_667 (D : Nat) (x3 : Int32) (v1 : Int32) (v2 : Int32) (σ : mS) : Xx D n_L_law 667 [.ref 300, .ref 0, .ref 200, .int x3] (.int v2 :: .int v1 :: .ref 0 :: []) σ = (mBI (Cc D n_E_hate [.ref 0, .int v1, .int v2] σ) fun r τ => Xx D n_L_law 670 [.ref 300, .ref 0, .ref 200, .int x3] [.int r] τ) := (Xx_go D n_L_law (fun p => Nat.beq p 670) 1 _ _ _ _).trans rfl
set_option maxRecDepth 100000 in
set_option maxHeartbeats 4000000 in
theorem u_670 (D : Nat) (x3 : Int32) (st : List Value) (σ : mS) : Xx D n_L_law 670 [.ref 300, .ref 0, .ref 200, .int x3] st σ = (bif mIn (x3 + (1 : Int32)) ((σ.1 299 0).toNatClampNeg) then Xx D n_L_law 676 [.ref 300, .ref 0, .ref 200, .int x3] (.int (σ.1 300 ((x3 + (1 : Int32)) : Int32).toNatClampNeg) :: .ref 200 :: st) σ else none) := (Xx_go D n_L_law (fun p => Nat.beq p 676) 6 _ _ _ _).trans rfl
set_option maxRecDepth 100000 in
set_option maxHeartbeats 4000000 in
theorem u_676 (D : Nat) (x3 : Int32) (st : List Value) (σ : mS) : Xx D n_L_law 676 [.ref 300, .ref 0, .ref 200, .int x3] st σ = (bif mIn (x3 + (2 : Int32)) ((σ.1 299 0).toNatClampNeg) then Xx D n_L_law 681 [.ref 300, .ref 0, .ref 200, .int x3] (.int (σ.1 300 ((x3 + (2 : Int32)) : Int32).toNatClampNeg) :: st) σ else none) := (Xx_go D n_L_law (fun p => Nat.beq p 681) 5 _ _ _ _).trans rfl
set_option maxRecDepth 100000 in
set_option maxHeartbeats 4000000 in
theorem u_681 (D : Nat) (x3 : Int32) (v1 : Int32) (v2 : Int32) (r : Int32) (σ : mS) : Xx D n_L_law 681 [.ref 300, .ref 0, .ref 200, .int x3] (.int v2 :: .int v1 :: .ref 200 :: [.int r]) σ = (mBI (Cc D n_M_hate [.ref 200, .int v1, .int v2] σ) fun r4 τ => Xx D n_L_law 684 [.ref 300, .ref 0, .ref 200, .int x3] [.int r4, .int r] τ) := (Xx_go D n_L_law (fun p => Nat.beq p 684) 1 _ _ _ _).trans rfl
set_option maxRecDepth 100000 in
set_option maxHeartbeats 4000000 in
theorem u_684 (D : Nat) (x3 : Int32) (r r4 : Int32) (σ : mS) : Xx D n_L_law 684 [.ref 300, .ref 0, .ref 200, .int x3] [.int r4, .int r] σ = (bif decide ((r : Int32) = r4) then Xx D n_L_law 2639 [.ref 300, .ref 0, .ref 200, .int x3] [] σ else (some (.int 0, σ))) := (Xx_go D n_L_law (fun p => Nat.beq p 2639) 3 _ _ _ _).trans rfl
set_option maxRecDepth 100000 in
set_option maxHeartbeats 4000000 in
theorem u_689 (D : Nat) (x3 : Int32) (st : List Value) (σ : mS) : Xx D n_L_law 689 [.ref 300, .ref 0, .ref 200, .int x3] st σ = (bif mIn (x3 + (1 : Int32)) ((σ.1 299 0).toNatClampNeg) then Xx D n_L_law 695 [.ref 300, .ref 0, .ref 200, .int x3] (.int (σ.1 300 ((x3 + (1 : Int32)) : Int32).toNatClampNeg) :: .ref 0 :: st) σ else none) := (Xx_go D n_L_law (fun p => Nat.beq p 695) 6 _ _ _ _).trans rfl
set_option maxRecDepth 100000 in
set_option maxHeartbeats 4000000 in
theorem u_695 (D : Nat) (x3 : Int32) (st : List Value) (σ : mS) : Xx D n_L_law 695 [.ref 300, .ref 0, .ref 200, .int x3] st σ = (bif mIn (x3 + (2 : Int32)) ((σ.1 299 0).toNatClampNeg) then Xx D n_L_law 700 [.ref 300, .ref 0, .ref 200, .int x3] (.int (σ.1 300 ((x3 + (2 : Int32)) : Int32).toNatClampNeg) :: st) σ else none) := (Xx_go D n_L_law (fun p => Nat.beq p 700) 5 _ _ _ _).trans rfl
set_option maxRecDepth 100000 in
set_option maxHeartbeats 4000000 in
theorem u_700 (D : Nat) (x3 : Int32) (v1 : Int32) (v2 : Int32) (σ : mS) : Xx D n_L_law 700 [.ref 300, .ref 0, .ref 200, .int x3] (.int v2 :: .int v1 :: .ref 0 :: []) σ = (mBI (Cc D n_E_worst [.ref 0, .int v1, .int v2] σ) fun r τ => Xx D n_L_law 703 [.ref 300, .ref 0, .ref 200, .int x3] [.int r] τ) := (Xx_go D n_L_law (fun p => Nat.beq p 703) 1 _ _ _ _).trans rfl
set_option maxRecDepth 100000 in
set_option maxHeartbeats 4000000 in
theorem u_703 (D : Nat) (x3 : Int32) (st : List Value) (σ : mS) : Xx D n_L_law 703 [.ref 300, .ref 0, .ref 200, .int x3] st σ = (bif mIn (x3 + (1 : Int32)) ((σ.1 299 0).toNatClampNeg) then Xx D n_L_law 709 [.ref 300, .ref 0, .ref 200, .int x3] (.int (σ.1 300 ((x3 + (1 : Int32)) : Int32).toNatClampNeg) :: .ref 200 :: st) σ else none) := (Xx_go D n_L_law (fun p => Nat.beq p 709) 6 _ _ _ _).trans rfl
set_option maxRecDepth 100000 in
set_option maxHeartbeats 4000000 in
theorem u_709 (D : Nat) (x3 : Int32) (st : List Value) (σ : mS) : Xx D n_L_law 709 [.ref 300, .ref 0, .ref 200, .int x3] st σ = (bif mIn (x3 + (2 : Int32)) ((σ.1 299 0).toNatClampNeg) then Xx D n_L_law 714 [.ref 300, .ref 0, .ref 200, .int x3] (.int (σ.1 300 ((x3 + (2 : Int32)) : Int32).toNatClampNeg) :: st) σ else none) := (Xx_go D n_L_law (fun p => Nat.beq p 714) 5 _ _ _ _).trans rfl
set_option maxRecDepth 100000 in
set_option maxHeartbeats 4000000 in
theorem u_714 (D : Nat) (x3 : Int32) (v1 : Int32) (v2 : Int32) (r : Int32) (σ : mS) : Xx D n_L_law 714 [.ref 300, .ref 0, .ref 200, .int x3] (.int v2 :: .int v1 :: .ref 200 :: [.int r]) σ = (mBI (Cc D n_M_worst [.ref 200, .int v1, .int v2, .null, .null] σ) fun r4 τ => Xx D n_L_law 717 [.ref 300, .ref 0, .ref 200, .int x3] [.int r4, .int r] τ) := (Xx_go D n_L_law (fun p => Nat.beq p 717) 1 _ _ _ _).trans rfl
set_option maxRecDepth 100000 in
set_option maxHeartbeats 4000000 in
theorem u_717 (D : Nat) (x3 : Int32) (r r4 : Int32) (σ : mS) : Xx D n_L_law 717 [.ref 300, .ref 0, .ref 200, .int x3] [.int r4, .int r] σ = (bif decide ((r : Int32) = r4) then Xx D n_L_law 2639 [.ref 300, .ref 0, .ref 200, .int x3] [] σ else (some (.int 0, σ))) := (Xx_go D n_L_law (fun p => Nat.beq p 2639) 3 _ _ _ _).trans rfl
set_option maxRecDepth 100000 in
set_option maxHeartbeats 4000000 in
theorem u_722 (D : Nat) (x3 : Int32) (st : List Value) (σ : mS) : Xx D n_L_law 722 [.ref 300, .ref 0, .ref 200, .int x3] st σ = (bif mIn (x3 + (1 : Int32)) ((σ.1 299 0).toNatClampNeg) then Xx D n_L_law 728 [.ref 300, .ref 0, .ref 200, .int x3] (.int (σ.1 300 ((x3 + (1 : Int32)) : Int32).toNatClampNeg) :: .ref 0 :: st) σ else none) := (Xx_go D n_L_law (fun p => Nat.beq p 728) 6 _ _ _ _).trans rfl
set_option maxRecDepth 100000 in
set_option maxHeartbeats 4000000 in
theorem u_728 (D : Nat) (x3 : Int32) (st : List Value) (σ : mS) : Xx D n_L_law 728 [.ref 300, .ref 0, .ref 200, .int x3] st σ = (bif mIn (x3 + (2 : Int32)) ((σ.1 299 0).toNatClampNeg) then Xx D n_L_law 733 [.ref 300, .ref 0, .ref 200, .int x3] (.int (σ.1 300 ((x3 + (2 : Int32)) : Int32).toNatClampNeg) :: st) σ else none) := (Xx_go D n_L_law (fun p => Nat.beq p 733) 5 _ _ _ _).trans rfl
set_option maxRecDepth 100000 in
set_option maxHeartbeats 4000000 in
theorem u_733 (D : Nat) (x3 : Int32) (v1 : Int32) (v2 : Int32) (σ : mS) : Xx D n_L_law 733 [.ref 300, .ref 0, .ref 200, .int x3] (.int v2 :: .int v1 :: .ref 0 :: []) σ = (mBI (Cc D n_E_mild [.ref 0, .int v1, .int v2] σ) fun r τ => Xx D n_L_law 736 [.ref 300, .ref 0, .ref 200, .int x3] [.int r] τ) := (Xx_go D n_L_law (fun p => Nat.beq p 736) 1 _ _ _ _).trans rfl
set_option maxRecDepth 100000 in
set_option maxHeartbeats 4000000 in
theorem u_736 (D : Nat) (x3 : Int32) (st : List Value) (σ : mS) : Xx D n_L_law 736 [.ref 300, .ref 0, .ref 200, .int x3] st σ = (bif mIn (x3 + (1 : Int32)) ((σ.1 299 0).toNatClampNeg) then Xx D n_L_law 742 [.ref 300, .ref 0, .ref 200, .int x3] (.int (σ.1 300 ((x3 + (1 : Int32)) : Int32).toNatClampNeg) :: .ref 200 :: st) σ else none) := (Xx_go D n_L_law (fun p => Nat.beq p 742) 6 _ _ _ _).trans rfl
set_option maxRecDepth 100000 in
set_option maxHeartbeats 4000000 in
theorem u_742 (D : Nat) (x3 : Int32) (st : List Value) (σ : mS) : Xx D n_L_law 742 [.ref 300, .ref 0, .ref 200, .int x3] st σ = (bif mIn (x3 + (2 : Int32)) ((σ.1 299 0).toNatClampNeg) then Xx D n_L_law 747 [.ref 300, .ref 0, .ref 200, .int x3] (.int (σ.1 300 ((x3 + (2 : Int32)) : Int32).toNatClampNeg) :: st) σ else none) := (Xx_go D n_L_law (fun p => Nat.beq p 747) 5 _ _ _ _).trans rfl
set_option maxRecDepth 100000 in
set_option maxHeartbeats 4000000 in
theorem u_747 (D : Nat) (x3 : Int32) (v1 : Int32) (v2 : Int32) (r : Int32) (σ : mS) : Xx D n_L_law 747 [.ref 300, .ref 0, .ref 200, .int x3] (.int v2 :: .int v1 :: .ref 200 :: [.int r]) σ = (mBI (Cc D n_M_mild [.ref 200, .int v1, .int v2, .null, .null] σ) fun r4 τ => Xx D n_L_law 750 [.ref 300, .ref 0, .ref 200, .int x3] [.int r4, .int r] τ) := (Xx_go D n_L_law (fun p => Nat.beq p 750) 1 _ _ _ _).trans rfl
set_option maxRecDepth 100000 in
set_option maxHeartbeats 4000000 in
theorem u_750 (D : Nat) (x3 : Int32) (r r4 : Int32) (σ : mS) : Xx D n_L_law 750 [.ref 300, .ref 0, .ref 200, .int x3] [.int r4, .int r] σ = (bif decide ((r : Int32) = r4) then Xx D n_L_law 2639 [.ref 300, .ref 0, .ref 200, .int x3] [] σ else (some (.int 0, σ))) := (Xx_go D n_L_law (fun p => Nat.beq p 2639) 3 _ _ _ _).trans rfl
set_option maxRecDepth 100000 in
set_option maxHeartbeats 4000000 in
theorem q_L_law_755 (D : Nat) (x3 : Int32) (σ : mS) : Xx D n_L_law 755 [.ref 300, .ref 0, .ref 200, .int x3] [] σ = (bif mIn (x3 + (1 : Int32)) ((σ.1 299 0).toNatClampNeg) then (mBI (Cc D n_E_bitter [.ref 0, .int (σ.1 300 ((x3 + (1 : Int32)) : Int32).toNatClampNeg), .null, .null] σ) fun r2 τ1 => (bif mIn (x3 + (1 : Int32)) ((τ1.1 299 0).toNatClampNeg) then (mBI (Cc D n_M_bitter [.ref 200, .int (τ1.1 300 ((x3 + (1 : Int32)) : Int32).toNatClampNeg), .null, .null, .null] τ1) fun r4 τ3 => (bif decide ((r2 : Int32) = r4) then Xx D n_L_law 2639 [.ref 300, .ref 0, .ref 200, .int x3] [] τ3 else (some (.int 0, τ3)))) else none)) else none) := (Xx_go D n_L_law (fun p => Nat.beq p 2639) 17 _ _ _ _).trans rfl
set_option maxRecDepth 100000 in
set_option maxHeartbeats 4000000 in
theorem q_L_law_778 (D : Nat) (x3 : Int32) (σ : mS) : Xx D n_L_law 778 [.ref 300, .ref 0, .ref 200, .int x3] [] σ = (bif mIn (x3 + (1 : Int32)) ((σ.1 299 0).toNatClampNeg) then (mBI (Cc D n_E_praise [.ref 0, .int (σ.1 300 ((x3 + (1 : Int32)) : Int32).toNatClampNeg), .null, .null] σ) fun r2 τ1 => (bif mIn (x3 + (1 : Int32)) ((τ1.1 299 0).toNatClampNeg) then (mBI (Cc D n_M_praise [.ref 200, .int (τ1.1 300 ((x3 + (1 : Int32)) : Int32).toNatClampNeg), .null, .null] τ1) fun r4 τ3 => (bif decide ((r2 : Int32) = r4) then Xx D n_L_law 2639 [.ref 300, .ref 0, .ref 200, .int x3] [] τ3 else (some (.int 0, τ3)))) else none)) else none) := (Xx_go D n_L_law (fun p => Nat.beq p 2639) 17 _ _ _ _).trans rfl
set_option maxRecDepth 100000 in
set_option maxHeartbeats 4000000 in
theorem u_801 (D : Nat) (x3 : Int32) (st : List Value) (σ : mS) : Xx D n_L_law 801 [.ref 300, .ref 0, .ref 200, .int x3] st σ = (bif mIn (x3 + (1 : Int32)) ((σ.1 299 0).toNatClampNeg) then Xx D n_L_law 807 [.ref 300, .ref 0, .ref 200, .int x3] (.int (σ.1 300 ((x3 + (1 : Int32)) : Int32).toNatClampNeg) :: .ref 0 :: st) σ else none) := (Xx_go D n_L_law (fun p => Nat.beq p 807) 6 _ _ _ _).trans rfl
set_option maxRecDepth 100000 in
set_option maxHeartbeats 4000000 in
theorem u_807 (D : Nat) (x3 : Int32) (st : List Value) (σ : mS) : Xx D n_L_law 807 [.ref 300, .ref 0, .ref 200, .int x3] st σ = (bif mIn (x3 + (2 : Int32)) ((σ.1 299 0).toNatClampNeg) then Xx D n_L_law 812 [.ref 300, .ref 0, .ref 200, .int x3] (.int (σ.1 300 ((x3 + (2 : Int32)) : Int32).toNatClampNeg) :: st) σ else none) := (Xx_go D n_L_law (fun p => Nat.beq p 812) 5 _ _ _ _).trans rfl
set_option maxRecDepth 100000 in
set_option maxHeartbeats 4000000 in
theorem u_812 (D : Nat) (x3 : Int32) (v1 : Int32) (v2 : Int32) (σ : mS) : Xx D n_L_law 812 [.ref 300, .ref 0, .ref 200, .int x3] (.int v2 :: .int v1 :: .ref 0 :: []) σ = (mBI (Cc D n_E_dearest [.ref 0, .int v1, .int v2, .null, .null, .null, .null] σ) fun r τ => Xx D n_L_law 815 [.ref 300, .ref 0, .ref 200, .int x3] [.int r] τ) := (Xx_go D n_L_law (fun p => Nat.beq p 815) 1 _ _ _ _).trans rfl
set_option maxRecDepth 100000 in
set_option maxHeartbeats 4000000 in
theorem u_815 (D : Nat) (x3 : Int32) (st : List Value) (σ : mS) : Xx D n_L_law 815 [.ref 300, .ref 0, .ref 200, .int x3] st σ = (bif mIn (x3 + (1 : Int32)) ((σ.1 299 0).toNatClampNeg) then Xx D n_L_law 821 [.ref 300, .ref 0, .ref 200, .int x3] (.int (σ.1 300 ((x3 + (1 : Int32)) : Int32).toNatClampNeg) :: .ref 200 :: st) σ else none) := (Xx_go D n_L_law (fun p => Nat.beq p 821) 6 _ _ _ _).trans rfl
set_option maxRecDepth 100000 in
set_option maxHeartbeats 4000000 in
theorem u_821 (D : Nat) (x3 : Int32) (st : List Value) (σ : mS) : Xx D n_L_law 821 [.ref 300, .ref 0, .ref 200, .int x3] st σ = (bif mIn (x3 + (2 : Int32)) ((σ.1 299 0).toNatClampNeg) then Xx D n_L_law 826 [.ref 300, .ref 0, .ref 200, .int x3] (.int (σ.1 300 ((x3 + (2 : Int32)) : Int32).toNatClampNeg) :: st) σ else none) := (Xx_go D n_L_law (fun p => Nat.beq p 826) 5 _ _ _ _).trans rfl
set_option maxRecDepth 100000 in
set_option maxHeartbeats 4000000 in
theorem u_826 (D : Nat) (x3 : Int32) (v1 : Int32) (v2 : Int32) (r : Int32) (σ : mS) : Xx D n_L_law 826 [.ref 300, .ref 0, .ref 200, .int x3] (.int v2 :: .int v1 :: .ref 200 :: [.int r]) σ = (mBI (Cc D n_M_dearest [.ref 200, .int v1, .int v2, .null, .null] σ) fun r4 τ => Xx D n_L_law 829 [.ref 300, .ref 0, .ref 200, .int x3] [.int r4, .int r] τ) := (Xx_go D n_L_law (fun p => Nat.beq p 829) 1 _ _ _ _).trans rfl
set_option maxRecDepth 100000 in
set_option maxHeartbeats 4000000 in
theorem u_829 (D : Nat) (x3 : Int32) (r r4 : Int32) (σ : mS) : Xx D n_L_law 829 [.ref 300, .ref 0, .ref 200, .int x3] [.int r4, .int r] σ = (bif decide ((r : Int32) = r4) then Xx D n_L_law 2639 [.ref 300, .ref 0, .ref 200, .int x3] [] σ else (some (.int 0, σ))) := (Xx_go D n_L_law (fun p => Nat.beq p 2639) 3 _ _ _ _).trans rfl
set_option maxRecDepth 100000 in
set_option maxHeartbeats 4000000 in
theorem u_834 (D : Nat) (x3 : Int32) (st : List Value) (σ : mS) : Xx D n_L_law 834 [.ref 300, .ref 0, .ref 200, .int x3] st σ = (bif mIn (x3 + (1 : Int32)) ((σ.1 299 0).toNatClampNeg) then Xx D n_L_law 840 [.ref 300, .ref 0, .ref 200, .int x3] (.int (σ.1 300 ((x3 + (1 : Int32)) : Int32).toNatClampNeg) :: .ref 0 :: st) σ else none) := (Xx_go D n_L_law (fun p => Nat.beq p 840) 6 _ _ _ _).trans rfl
set_option maxRecDepth 100000 in
set_option maxHeartbeats 4000000 in
theorem u_840 (D : Nat) (x3 : Int32) (st : List Value) (σ : mS) : Xx D n_L_law 840 [.ref 300, .ref 0, .ref 200, .int x3] st σ = (bif mIn (x3 + (2 : Int32)) ((σ.1 299 0).toNatClampNeg) then Xx D n_L_law 845 [.ref 300, .ref 0, .ref 200, .int x3] (.int (σ.1 300 ((x3 + (2 : Int32)) : Int32).toNatClampNeg) :: st) σ else none) := (Xx_go D n_L_law (fun p => Nat.beq p 845) 5 _ _ _ _).trans rfl
set_option maxRecDepth 100000 in
set_option maxHeartbeats 4000000 in
theorem u_845 (D : Nat) (x3 : Int32) (v1 : Int32) (v2 : Int32) (σ : mS) : Xx D n_L_law 845 [.ref 300, .ref 0, .ref 200, .int x3] (.int v2 :: .int v1 :: .ref 0 :: []) σ = (mBI (Cc D n_E_foe [.ref 0, .int v1, .int v2, .null, .null, .null, .null] σ) fun r τ => Xx D n_L_law 848 [.ref 300, .ref 0, .ref 200, .int x3] [.int r] τ) := (Xx_go D n_L_law (fun p => Nat.beq p 848) 1 _ _ _ _).trans rfl
set_option maxRecDepth 100000 in
set_option maxHeartbeats 4000000 in
theorem u_848 (D : Nat) (x3 : Int32) (st : List Value) (σ : mS) : Xx D n_L_law 848 [.ref 300, .ref 0, .ref 200, .int x3] st σ = (bif mIn (x3 + (1 : Int32)) ((σ.1 299 0).toNatClampNeg) then Xx D n_L_law 854 [.ref 300, .ref 0, .ref 200, .int x3] (.int (σ.1 300 ((x3 + (1 : Int32)) : Int32).toNatClampNeg) :: .ref 200 :: st) σ else none) := (Xx_go D n_L_law (fun p => Nat.beq p 854) 6 _ _ _ _).trans rfl
set_option maxRecDepth 100000 in
set_option maxHeartbeats 4000000 in
theorem u_854 (D : Nat) (x3 : Int32) (st : List Value) (σ : mS) : Xx D n_L_law 854 [.ref 300, .ref 0, .ref 200, .int x3] st σ = (bif mIn (x3 + (2 : Int32)) ((σ.1 299 0).toNatClampNeg) then Xx D n_L_law 859 [.ref 300, .ref 0, .ref 200, .int x3] (.int (σ.1 300 ((x3 + (2 : Int32)) : Int32).toNatClampNeg) :: st) σ else none) := (Xx_go D n_L_law (fun p => Nat.beq p 859) 5 _ _ _ _).trans rfl
set_option maxRecDepth 100000 in
set_option maxHeartbeats 4000000 in
theorem u_859 (D : Nat) (x3 : Int32) (v1 : Int32) (v2 : Int32) (r : Int32) (σ : mS) : Xx D n_L_law 859 [.ref 300, .ref 0, .ref 200, .int x3] (.int v2 :: .int v1 :: .ref 200 :: [.int r]) σ = (mBI (Cc D n_M_foe [.ref 200, .int v1, .int v2, .null, .null] σ) fun r4 τ => Xx D n_L_law 862 [.ref 300, .ref 0, .ref 200, .int x3] [.int r4, .int r] τ) := (Xx_go D n_L_law (fun p => Nat.beq p 862) 1 _ _ _ _).trans rfl
set_option maxRecDepth 100000 in
set_option maxHeartbeats 4000000 in
theorem u_862 (D : Nat) (x3 : Int32) (r r4 : Int32) (σ : mS) : Xx D n_L_law 862 [.ref 300, .ref 0, .ref 200, .int x3] [.int r4, .int r] σ = (bif decide ((r : Int32) = r4) then Xx D n_L_law 2639 [.ref 300, .ref 0, .ref 200, .int x3] [] σ else (some (.int 0, σ))) := (Xx_go D n_L_law (fun p => Nat.beq p 2639) 3 _ _ _ _).trans rfl
set_option maxRecDepth 100000 in
set_option maxHeartbeats 4000000 in
theorem u_867 (D : Nat) (x3 : Int32) (st : List Value) (σ : mS) : Xx D n_L_law 867 [.ref 300, .ref 0, .ref 200, .int x3] st σ = (bif mIn (x3 + (1 : Int32)) ((σ.1 299 0).toNatClampNeg) then Xx D n_L_law 873 [.ref 300, .ref 0, .ref 200, .int x3] (.int (σ.1 300 ((x3 + (1 : Int32)) : Int32).toNatClampNeg) :: .ref 0 :: st) σ else none) := (Xx_go D n_L_law (fun p => Nat.beq p 873) 6 _ _ _ _).trans rfl
set_option maxRecDepth 100000 in
set_option maxHeartbeats 4000000 in
theorem u_873 (D : Nat) (x3 : Int32) (st : List Value) (σ : mS) : Xx D n_L_law 873 [.ref 300, .ref 0, .ref 200, .int x3] st σ = (bif mIn (x3 + (2 : Int32)) ((σ.1 299 0).toNatClampNeg) then Xx D n_L_law 878 [.ref 300, .ref 0, .ref 200, .int x3] (.int (σ.1 300 ((x3 + (2 : Int32)) : Int32).toNatClampNeg) :: st) σ else none) := (Xx_go D n_L_law (fun p => Nat.beq p 878) 5 _ _ _ _).trans rfl
set_option maxRecDepth 100000 in
set_option maxHeartbeats 4000000 in
theorem u_878 (D : Nat) (x3 : Int32) (v1 : Int32) (v2 : Int32) (σ : mS) : Xx D n_L_law 878 [.ref 300, .ref 0, .ref 200, .int x3] (.int v2 :: .int v1 :: .ref 0 :: []) σ = (mBI (Cc D n_E_steady [.ref 0, .int v1, .int v2, .null, .null] σ) fun r τ => Xx D n_L_law 881 [.ref 300, .ref 0, .ref 200, .int x3] [.int r] τ) := (Xx_go D n_L_law (fun p => Nat.beq p 881) 1 _ _ _ _).trans rfl
set_option maxRecDepth 100000 in
set_option maxHeartbeats 4000000 in
theorem u_881 (D : Nat) (x3 : Int32) (st : List Value) (σ : mS) : Xx D n_L_law 881 [.ref 300, .ref 0, .ref 200, .int x3] st σ = (bif mIn (x3 + (1 : Int32)) ((σ.1 299 0).toNatClampNeg) then Xx D n_L_law 887 [.ref 300, .ref 0, .ref 200, .int x3] (.int (σ.1 300 ((x3 + (1 : Int32)) : Int32).toNatClampNeg) :: .ref 200 :: st) σ else none) := (Xx_go D n_L_law (fun p => Nat.beq p 887) 6 _ _ _ _).trans rfl
set_option maxRecDepth 100000 in
set_option maxHeartbeats 4000000 in
theorem u_887 (D : Nat) (x3 : Int32) (st : List Value) (σ : mS) : Xx D n_L_law 887 [.ref 300, .ref 0, .ref 200, .int x3] st σ = (bif mIn (x3 + (2 : Int32)) ((σ.1 299 0).toNatClampNeg) then Xx D n_L_law 892 [.ref 300, .ref 0, .ref 200, .int x3] (.int (σ.1 300 ((x3 + (2 : Int32)) : Int32).toNatClampNeg) :: st) σ else none) := (Xx_go D n_L_law (fun p => Nat.beq p 892) 5 _ _ _ _).trans rfl
set_option maxRecDepth 100000 in
set_option maxHeartbeats 4000000 in
theorem u_892 (D : Nat) (x3 : Int32) (v1 : Int32) (v2 : Int32) (r : Int32) (σ : mS) : Xx D n_L_law 892 [.ref 300, .ref 0, .ref 200, .int x3] (.int v2 :: .int v1 :: .ref 200 :: [.int r]) σ = (mBI (Cc D n_M_steady [.ref 200, .int v1, .int v2, .null, .null] σ) fun r4 τ => Xx D n_L_law 895 [.ref 300, .ref 0, .ref 200, .int x3] [.int r4, .int r] τ) := (Xx_go D n_L_law (fun p => Nat.beq p 895) 1 _ _ _ _).trans rfl
set_option maxRecDepth 100000 in
set_option maxHeartbeats 4000000 in
theorem u_895 (D : Nat) (x3 : Int32) (r r4 : Int32) (σ : mS) : Xx D n_L_law 895 [.ref 300, .ref 0, .ref 200, .int x3] [.int r4, .int r] σ = (bif decide ((r : Int32) = r4) then Xx D n_L_law 2639 [.ref 300, .ref 0, .ref 200, .int x3] [] σ else (some (.int 0, σ))) := (Xx_go D n_L_law (fun p => Nat.beq p 2639) 3 _ _ _ _).trans rfl
set_option maxRecDepth 100000 in
set_option maxHeartbeats 4000000 in
theorem q_L_law_900 (D : Nat) (x3 : Int32) (σ : mS) : Xx D n_L_law 900 [.ref 300, .ref 0, .ref 200, .int x3] [] σ = (bif mIn (x3 + (1 : Int32)) ((σ.1 299 0).toNatClampNeg) then (mBI (Cc D n_E_cold [.ref 0, .int (σ.1 300 ((x3 + (1 : Int32)) : Int32).toNatClampNeg)] σ) fun r2 τ1 => (bif mIn (x3 + (1 : Int32)) ((τ1.1 299 0).toNatClampNeg) then (mBI (Cc D n_M_cold [.ref 200, .int (τ1.1 300 ((x3 + (1 : Int32)) : Int32).toNatClampNeg), .null, .null, .null] τ1) fun r4 τ3 => (bif decide ((r2 : Int32) = r4) then Xx D n_L_law 2639 [.ref 300, .ref 0, .ref 200, .int x3] [] τ3 else (some (.int 0, τ3)))) else none)) else none) := (Xx_go D n_L_law (fun p => Nat.beq p 2639) 17 _ _ _ _).trans rfl
set_option maxRecDepth 100000 in
set_option maxHeartbeats 4000000 in
theorem q_L_law_923 (D : Nat) (x3 : Int32) (σ : mS) : Xx D n_L_law 923 [.ref 300, .ref 0, .ref 200, .int x3] [] σ = (bif mIn (x3 + (1 : Int32)) ((σ.1 299 0).toNatClampNeg) then (mBI (Cc D n_E_harms [.ref 0, .int (σ.1 300 ((x3 + (1 : Int32)) : Int32).toNatClampNeg)] σ) fun r2 τ1 => (bif mIn (x3 + (1 : Int32)) ((τ1.1 299 0).toNatClampNeg) then (mBI (Cc D n_M_harms [.ref 200, .int (τ1.1 300 ((x3 + (1 : Int32)) : Int32).toNatClampNeg)] τ1) fun r4 τ3 => (bif decide ((r2 : Int32) = r4) then Xx D n_L_law 2639 [.ref 300, .ref 0, .ref 200, .int x3] [] τ3 else (some (.int 0, τ3)))) else none)) else none) := (Xx_go D n_L_law (fun p => Nat.beq p 2639) 17 _ _ _ _).trans rfl
set_option maxRecDepth 100000 in
set_option maxHeartbeats 4000000 in
theorem q_L_law_946 (D : Nat) (x3 : Int32) (σ : mS) : Xx D n_L_law 946 [.ref 300, .ref 0, .ref 200, .int x3] [] σ = (bif mIn (x3 + (1 : Int32)) ((σ.1 299 0).toNatClampNeg) then (mBI (Cc D n_E_hurts [.ref 0, .int (σ.1 300 ((x3 + (1 : Int32)) : Int32).toNatClampNeg)] σ) fun r2 τ1 => (bif mIn (x3 + (1 : Int32)) ((τ1.1 299 0).toNatClampNeg) then (mBI (Cc D n_M_hurts [.ref 200, .int (τ1.1 300 ((x3 + (1 : Int32)) : Int32).toNatClampNeg)] τ1) fun r4 τ3 => (bif decide ((r2 : Int32) = r4) then Xx D n_L_law 2639 [.ref 300, .ref 0, .ref 200, .int x3] [] τ3 else (some (.int 0, τ3)))) else none)) else none) := (Xx_go D n_L_law (fun p => Nat.beq p 2639) 17 _ _ _ _).trans rfl
set_option maxRecDepth 100000 in
set_option maxHeartbeats 4000000 in
theorem q_L_law_969 (D : Nat) (x3 : Int32) (σ : mS) : Xx D n_L_law 969 [.ref 300, .ref 0, .ref 200, .int x3] [] σ = (bif mIn (x3 + (1 : Int32)) ((σ.1 299 0).toNatClampNeg) then (mBI (Cc D n_E_all [.ref 0, .int (σ.1 300 ((x3 + (1 : Int32)) : Int32).toNatClampNeg), .null, .null] σ) fun r2 τ1 => (bif mIn (x3 + (1 : Int32)) ((τ1.1 299 0).toNatClampNeg) then (mBI (Cc D n_M_all [.ref 200, .int (τ1.1 300 ((x3 + (1 : Int32)) : Int32).toNatClampNeg), .null, .null] τ1) fun r4 τ3 => (bif decide ((r2 : Int32) = r4) then Xx D n_L_law 2639 [.ref 300, .ref 0, .ref 200, .int x3] [] τ3 else (some (.int 0, τ3)))) else none)) else none) := (Xx_go D n_L_law (fun p => Nat.beq p 2639) 17 _ _ _ _).trans rfl
set_option maxRecDepth 100000 in
set_option maxHeartbeats 4000000 in
theorem q_L_law_992 (D : Nat) (x3 : Int32) (σ : mS) : Xx D n_L_law 992 [.ref 300, .ref 0, .ref 200, .int x3] [] σ = (bif mIn (x3 + (1 : Int32)) ((σ.1 299 0).toNatClampNeg) then (mBI (Cc D n_E_top [.ref 0, .int (σ.1 300 ((x3 + (1 : Int32)) : Int32).toNatClampNeg), .null] σ) fun r2 τ1 => (bif mIn (x3 + (1 : Int32)) ((τ1.1 299 0).toNatClampNeg) then (mBI (Cc D n_M_top [.ref 200, .int (τ1.1 300 ((x3 + (1 : Int32)) : Int32).toNatClampNeg), .null] τ1) fun r4 τ3 => (bif decide ((r2 : Int32) = r4) then Xx D n_L_law 2639 [.ref 300, .ref 0, .ref 200, .int x3] [] τ3 else (some (.int 0, τ3)))) else none)) else none) := (Xx_go D n_L_law (fun p => Nat.beq p 2639) 17 _ _ _ _).trans rfl
set_option maxRecDepth 100000 in
set_option maxHeartbeats 4000000 in
theorem q_L_law_1015 (D : Nat) (x3 : Int32) (σ : mS) : Xx D n_L_law 1015 [.ref 300, .ref 0, .ref 200, .int x3] [] σ = (bif mIn (x3 + (1 : Int32)) ((σ.1 299 0).toNatClampNeg) then (mBI (Cc D n_E_next [.ref 0, .int (σ.1 300 ((x3 + (1 : Int32)) : Int32).toNatClampNeg)] σ) fun r2 τ1 => (bif mIn (x3 + (1 : Int32)) ((τ1.1 299 0).toNatClampNeg) then (mBI (Cc D n_M_next [.ref 200, .int (τ1.1 300 ((x3 + (1 : Int32)) : Int32).toNatClampNeg)] τ1) fun r4 τ3 => (bif decide ((r2 : Int32) = r4) then Xx D n_L_law 2639 [.ref 300, .ref 0, .ref 200, .int x3] [] τ3 else (some (.int 0, τ3)))) else none)) else none) := (Xx_go D n_L_law (fun p => Nat.beq p 2639) 17 _ _ _ _).trans rfl
set_option maxRecDepth 100000 in
set_option maxHeartbeats 4000000 in
theorem q_L_law_1038 (D : Nat) (x3 : Int32) (σ : mS) : Xx D n_L_law 1038 [.ref 300, .ref 0, .ref 200, .int x3] [] σ = (mBI (Cc D n_E_first [.ref 0, .null, .null] σ) fun r2 τ1 => (mBI (Cc D n_M_first [.ref 200, .null, .null] τ1) fun r4 τ3 => (bif decide ((r2 : Int32) = r4) then Xx D n_L_law 2639 [.ref 300, .ref 0, .ref 200, .int x3] [] τ3 else (some (.int 0, τ3))))) := (Xx_go D n_L_law (fun p => Nat.beq p 2639) 7 _ _ _ _).trans rfl
set_option maxRecDepth 100000 in
set_option maxHeartbeats 4000000 in
theorem u_1051 (D : Nat) (x3 : Int32) (st : List Value) (σ : mS) : Xx D n_L_law 1051 [.ref 300, .ref 0, .ref 200, .int x3] st σ = (bif mIn (x3 + (1 : Int32)) ((σ.1 299 0).toNatClampNeg) then Xx D n_L_law 1057 [.ref 300, .ref 0, .ref 200, .int x3] (.int (σ.1 300 ((x3 + (1 : Int32)) : Int32).toNatClampNeg) :: .ref 0 :: st) σ else none) := (Xx_go D n_L_law (fun p => Nat.beq p 1057) 6 _ _ _ _).trans rfl
set_option maxRecDepth 100000 in
set_option maxHeartbeats 4000000 in
theorem u_1057 (D : Nat) (x3 : Int32) (st : List Value) (σ : mS) : Xx D n_L_law 1057 [.ref 300, .ref 0, .ref 200, .int x3] st σ = (bif mIn (x3 + (2 : Int32)) ((σ.1 299 0).toNatClampNeg) then Xx D n_L_law 1062 [.ref 300, .ref 0, .ref 200, .int x3] (.int (σ.1 300 ((x3 + (2 : Int32)) : Int32).toNatClampNeg) :: st) σ else none) := (Xx_go D n_L_law (fun p => Nat.beq p 1062) 5 _ _ _ _).trans rfl
set_option maxRecDepth 100000 in
set_option maxHeartbeats 4000000 in
theorem u_1062 (D : Nat) (x3 : Int32) (v1 : Int32) (v2 : Int32) (σ : mS) : Xx D n_L_law 1062 [.ref 300, .ref 0, .ref 200, .int x3] (.int v2 :: .int v1 :: .ref 0 :: []) σ = (mBI (Cc D n_E_sours [.ref 0, .int v1, .int v2, .null] σ) fun r τ => Xx D n_L_law 1065 [.ref 300, .ref 0, .ref 200, .int x3] [.int r] τ) := (Xx_go D n_L_law (fun p => Nat.beq p 1065) 1 _ _ _ _).trans rfl
set_option maxRecDepth 100000 in
set_option maxHeartbeats 4000000 in
theorem u_1065 (D : Nat) (x3 : Int32) (st : List Value) (σ : mS) : Xx D n_L_law 1065 [.ref 300, .ref 0, .ref 200, .int x3] st σ = (bif mIn (x3 + (1 : Int32)) ((σ.1 299 0).toNatClampNeg) then Xx D n_L_law 1071 [.ref 300, .ref 0, .ref 200, .int x3] (.int (σ.1 300 ((x3 + (1 : Int32)) : Int32).toNatClampNeg) :: .ref 200 :: st) σ else none) := (Xx_go D n_L_law (fun p => Nat.beq p 1071) 6 _ _ _ _).trans rfl
set_option maxRecDepth 100000 in
set_option maxHeartbeats 4000000 in
theorem u_1071 (D : Nat) (x3 : Int32) (st : List Value) (σ : mS) : Xx D n_L_law 1071 [.ref 300, .ref 0, .ref 200, .int x3] st σ = (bif mIn (x3 + (2 : Int32)) ((σ.1 299 0).toNatClampNeg) then Xx D n_L_law 1076 [.ref 300, .ref 0, .ref 200, .int x3] (.int (σ.1 300 ((x3 + (2 : Int32)) : Int32).toNatClampNeg) :: st) σ else none) := (Xx_go D n_L_law (fun p => Nat.beq p 1076) 5 _ _ _ _).trans rfl
set_option maxRecDepth 100000 in
set_option maxHeartbeats 4000000 in
theorem u_1076 (D : Nat) (x3 : Int32) (v1 : Int32) (v2 : Int32) (r : Int32) (σ : mS) : Xx D n_L_law 1076 [.ref 300, .ref 0, .ref 200, .int x3] (.int v2 :: .int v1 :: .ref 200 :: [.int r]) σ = (mBI (Cc D n_M_sours [.ref 200, .int v1, .int v2, .null] σ) fun r4 τ => Xx D n_L_law 1079 [.ref 300, .ref 0, .ref 200, .int x3] [.int r4, .int r] τ) := (Xx_go D n_L_law (fun p => Nat.beq p 1079) 1 _ _ _ _).trans rfl
set_option maxRecDepth 100000 in
set_option maxHeartbeats 4000000 in
theorem u_1079 (D : Nat) (x3 : Int32) (r r4 : Int32) (σ : mS) : Xx D n_L_law 1079 [.ref 300, .ref 0, .ref 200, .int x3] [.int r4, .int r] σ = (bif decide ((r : Int32) = r4) then Xx D n_L_law 2639 [.ref 300, .ref 0, .ref 200, .int x3] [] σ else (some (.int 0, σ))) := (Xx_go D n_L_law (fun p => Nat.beq p 2639) 3 _ _ _ _).trans rfl
set_option maxRecDepth 100000 in
set_option maxHeartbeats 4000000 in
theorem u_1084 (D : Nat) (x3 : Int32) (st : List Value) (σ : mS) : Xx D n_L_law 1084 [.ref 300, .ref 0, .ref 200, .int x3] st σ = (bif mIn (x3 + (1 : Int32)) ((σ.1 299 0).toNatClampNeg) then Xx D n_L_law 1090 [.ref 300, .ref 0, .ref 200, .int x3] (.int (σ.1 300 ((x3 + (1 : Int32)) : Int32).toNatClampNeg) :: .ref 0 :: st) σ else none) := (Xx_go D n_L_law (fun p => Nat.beq p 1090) 6 _ _ _ _).trans rfl
set_option maxRecDepth 100000 in
set_option maxHeartbeats 4000000 in
theorem u_1090 (D : Nat) (x3 : Int32) (st : List Value) (σ : mS) : Xx D n_L_law 1090 [.ref 300, .ref 0, .ref 200, .int x3] st σ = (bif mIn (x3 + (2 : Int32)) ((σ.1 299 0).toNatClampNeg) then Xx D n_L_law 1095 [.ref 300, .ref 0, .ref 200, .int x3] (.int (σ.1 300 ((x3 + (2 : Int32)) : Int32).toNatClampNeg) :: st) σ else none) := (Xx_go D n_L_law (fun p => Nat.beq p 1095) 5 _ _ _ _).trans rfl
set_option maxRecDepth 100000 in
set_option maxHeartbeats 4000000 in
theorem u_1095 (D : Nat) (x3 : Int32) (v1 : Int32) (v2 : Int32) (σ : mS) : Xx D n_L_law 1095 [.ref 300, .ref 0, .ref 200, .int x3] (.int v2 :: .int v1 :: .ref 0 :: []) σ = (mBI (Cc D n_E_years [.ref 0, .int v1, .int v2, .null, .null] σ) fun r τ => Xx D n_L_law 1098 [.ref 300, .ref 0, .ref 200, .int x3] [.int r] τ) := (Xx_go D n_L_law (fun p => Nat.beq p 1098) 1 _ _ _ _).trans rfl
set_option maxRecDepth 100000 in
set_option maxHeartbeats 4000000 in
theorem u_1098 (D : Nat) (x3 : Int32) (st : List Value) (σ : mS) : Xx D n_L_law 1098 [.ref 300, .ref 0, .ref 200, .int x3] st σ = (bif mIn (x3 + (1 : Int32)) ((σ.1 299 0).toNatClampNeg) then Xx D n_L_law 1104 [.ref 300, .ref 0, .ref 200, .int x3] (.int (σ.1 300 ((x3 + (1 : Int32)) : Int32).toNatClampNeg) :: .ref 200 :: st) σ else none) := (Xx_go D n_L_law (fun p => Nat.beq p 1104) 6 _ _ _ _).trans rfl
set_option maxRecDepth 100000 in
set_option maxHeartbeats 4000000 in
theorem u_1104 (D : Nat) (x3 : Int32) (st : List Value) (σ : mS) : Xx D n_L_law 1104 [.ref 300, .ref 0, .ref 200, .int x3] st σ = (bif mIn (x3 + (2 : Int32)) ((σ.1 299 0).toNatClampNeg) then Xx D n_L_law 1109 [.ref 300, .ref 0, .ref 200, .int x3] (.int (σ.1 300 ((x3 + (2 : Int32)) : Int32).toNatClampNeg) :: st) σ else none) := (Xx_go D n_L_law (fun p => Nat.beq p 1109) 5 _ _ _ _).trans rfl
set_option maxRecDepth 100000 in
set_option maxHeartbeats 4000000 in
theorem u_1109 (D : Nat) (x3 : Int32) (v1 : Int32) (v2 : Int32) (r : Int32) (σ : mS) : Xx D n_L_law 1109 [.ref 300, .ref 0, .ref 200, .int x3] (.int v2 :: .int v1 :: .ref 200 :: [.int r]) σ = (mBI (Cc D n_M_years [.ref 200, .int v1, .int v2, .null, .null] σ) fun r4 τ => Xx D n_L_law 1112 [.ref 300, .ref 0, .ref 200, .int x3] [.int r4, .int r] τ) := (Xx_go D n_L_law (fun p => Nat.beq p 1112) 1 _ _ _ _).trans rfl
set_option maxRecDepth 100000 in
set_option maxHeartbeats 4000000 in
theorem u_1112 (D : Nat) (x3 : Int32) (r r4 : Int32) (σ : mS) : Xx D n_L_law 1112 [.ref 300, .ref 0, .ref 200, .int x3] [.int r4, .int r] σ = (bif decide ((r : Int32) = r4) then Xx D n_L_law 2639 [.ref 300, .ref 0, .ref 200, .int x3] [] σ else (some (.int 0, σ))) := (Xx_go D n_L_law (fun p => Nat.beq p 2639) 3 _ _ _ _).trans rfl
set_option maxRecDepth 100000 in
set_option maxHeartbeats 4000000 in
theorem u_1117 (D : Nat) (x3 : Int32) (st : List Value) (σ : mS) : Xx D n_L_law 1117 [.ref 300, .ref 0, .ref 200, .int x3] st σ = (bif mIn (x3 + (1 : Int32)) ((σ.1 299 0).toNatClampNeg) then Xx D n_L_law 1123 [.ref 300, .ref 0, .ref 200, .int x3] (.int (σ.1 300 ((x3 + (1 : Int32)) : Int32).toNatClampNeg) :: .ref 0 :: st) σ else none) := (Xx_go D n_L_law (fun p => Nat.beq p 1123) 6 _ _ _ _).trans rfl
set_option maxRecDepth 100000 in
set_option maxHeartbeats 4000000 in
theorem u_1123 (D : Nat) (x3 : Int32) (st : List Value) (σ : mS) : Xx D n_L_law 1123 [.ref 300, .ref 0, .ref 200, .int x3] st σ = (bif mIn (x3 + (2 : Int32)) ((σ.1 299 0).toNatClampNeg) then Xx D n_L_law 1128 [.ref 300, .ref 0, .ref 200, .int x3] (.int (σ.1 300 ((x3 + (2 : Int32)) : Int32).toNatClampNeg) :: st) σ else none) := (Xx_go D n_L_law (fun p => Nat.beq p 1128) 5 _ _ _ _).trans rfl
set_option maxRecDepth 100000 in
set_option maxHeartbeats 4000000 in
theorem u_1128 (D : Nat) (x3 : Int32) (v1 : Int32) (v2 : Int32) (σ : mS) : Xx D n_L_law 1128 [.ref 300, .ref 0, .ref 200, .int x3] (.int v2 :: .int v1 :: .ref 0 :: []) σ = (mBI (Cc D n_E_lowest [.ref 0, .int v1, .int v2, .null, .null] σ) fun r τ => Xx D n_L_law 1131 [.ref 300, .ref 0, .ref 200, .int x3] [.int r] τ) := (Xx_go D n_L_law (fun p => Nat.beq p 1131) 1 _ _ _ _).trans rfl
set_option maxRecDepth 100000 in
set_option maxHeartbeats 4000000 in
theorem u_1131 (D : Nat) (x3 : Int32) (st : List Value) (σ : mS) : Xx D n_L_law 1131 [.ref 300, .ref 0, .ref 200, .int x3] st σ = (bif mIn (x3 + (1 : Int32)) ((σ.1 299 0).toNatClampNeg) then Xx D n_L_law 1137 [.ref 300, .ref 0, .ref 200, .int x3] (.int (σ.1 300 ((x3 + (1 : Int32)) : Int32).toNatClampNeg) :: .ref 200 :: st) σ else none) := (Xx_go D n_L_law (fun p => Nat.beq p 1137) 6 _ _ _ _).trans rfl
set_option maxRecDepth 100000 in
set_option maxHeartbeats 4000000 in
theorem u_1137 (D : Nat) (x3 : Int32) (st : List Value) (σ : mS) : Xx D n_L_law 1137 [.ref 300, .ref 0, .ref 200, .int x3] st σ = (bif mIn (x3 + (2 : Int32)) ((σ.1 299 0).toNatClampNeg) then Xx D n_L_law 1142 [.ref 300, .ref 0, .ref 200, .int x3] (.int (σ.1 300 ((x3 + (2 : Int32)) : Int32).toNatClampNeg) :: st) σ else none) := (Xx_go D n_L_law (fun p => Nat.beq p 1142) 5 _ _ _ _).trans rfl
set_option maxRecDepth 100000 in
set_option maxHeartbeats 4000000 in
theorem u_1142 (D : Nat) (x3 : Int32) (v1 : Int32) (v2 : Int32) (r : Int32) (σ : mS) : Xx D n_L_law 1142 [.ref 300, .ref 0, .ref 200, .int x3] (.int v2 :: .int v1 :: .ref 200 :: [.int r]) σ = (mBI (Cc D n_M_lowest [.ref 200, .int v1, .int v2, .null, .null] σ) fun r4 τ => Xx D n_L_law 1145 [.ref 300, .ref 0, .ref 200, .int x3] [.int r4, .int r] τ) := (Xx_go D n_L_law (fun p => Nat.beq p 1145) 1 _ _ _ _).trans rfl
set_option maxRecDepth 100000 in
set_option maxHeartbeats 4000000 in
theorem u_1145 (D : Nat) (x3 : Int32) (r r4 : Int32) (σ : mS) : Xx D n_L_law 1145 [.ref 300, .ref 0, .ref 200, .int x3] [.int r4, .int r] σ = (bif decide ((r : Int32) = r4) then Xx D n_L_law 2639 [.ref 300, .ref 0, .ref 200, .int x3] [] σ else (some (.int 0, σ))) := (Xx_go D n_L_law (fun p => Nat.beq p 2639) 3 _ _ _ _).trans rfl
set_option maxRecDepth 100000 in
set_option maxHeartbeats 4000000 in
theorem q_L_law_1150 (D : Nat) (x3 : Int32) (σ : mS) : Xx D n_L_law 1150 [.ref 300, .ref 0, .ref 200, .int x3] [] σ = (bif mIn (x3 + (1 : Int32)) ((σ.1 299 0).toNatClampNeg) then (mBI (Cc D n_E_hated [.ref 0, .int (σ.1 300 ((x3 + (1 : Int32)) : Int32).toNatClampNeg), .null, .null, .null, .null] σ) fun r2 τ1 => (bif mIn (x3 + (1 : Int32)) ((τ1.1 299 0).toNatClampNeg) then (mBI (Cc D n_M_hated [.ref 200, .int (τ1.1 300 ((x3 + (1 : Int32)) : Int32).toNatClampNeg), .null, .null] τ1) fun r4 τ3 => (bif decide ((r2 : Int32) = r4) then Xx D n_L_law 2639 [.ref 300, .ref 0, .ref 200, .int x3] [] τ3 else (some (.int 0, τ3)))) else none)) else none) := (Xx_go D n_L_law (fun p => Nat.beq p 2639) 17 _ _ _ _).trans rfl
set_option maxRecDepth 100000 in
set_option maxHeartbeats 4000000 in
theorem q_L_law_1173 (D : Nat) (x3 : Int32) (σ : mS) : Xx D n_L_law 1173 [.ref 300, .ref 0, .ref 200, .int x3] [] σ = (bif mIn (x3 + (1 : Int32)) ((σ.1 299 0).toNatClampNeg) then (mBI (Cc D n_E_porter [.ref 0, .int (σ.1 300 ((x3 + (1 : Int32)) : Int32).toNatClampNeg), .null, .null, .null, .null] σ) fun r2 τ1 => (bif mIn (x3 + (1 : Int32)) ((τ1.1 299 0).toNatClampNeg) then (mBI (Cc D n_M_porter [.ref 200, .int (τ1.1 300 ((x3 + (1 : Int32)) : Int32).toNatClampNeg), .null, .null] τ1) fun r4 τ3 => (bif decide ((r2 : Int32) = r4) then Xx D n_L_law 2639 [.ref 300, .ref 0, .ref 200, .int x3] [] τ3 else (some (.int 0, τ3)))) else none)) else none) := (Xx_go D n_L_law (fun p => Nat.beq p 2639) 17 _ _ _ _).trans rfl
set_option maxRecDepth 100000 in
set_option maxHeartbeats 4000000 in
theorem q_L_law_1196 (D : Nat) (x3 : Int32) (σ : mS) : Xx D n_L_law 1196 [.ref 300, .ref 0, .ref 200, .int x3] [] σ = (bif mIn (x3 + (1 : Int32)) ((σ.1 299 0).toNatClampNeg) then (mBI (Cc D n_E_mutual [.ref 0, .int (σ.1 300 ((x3 + (1 : Int32)) : Int32).toNatClampNeg)] σ) fun r2 τ1 => (bif mIn (x3 + (1 : Int32)) ((τ1.1 299 0).toNatClampNeg) then (mBI (Cc D n_M_mutual [.ref 200, .int (τ1.1 300 ((x3 + (1 : Int32)) : Int32).toNatClampNeg), .null, .null, .null] τ1) fun r4 τ3 => (bif decide ((r2 : Int32) = r4) then Xx D n_L_law 2639 [.ref 300, .ref 0, .ref 200, .int x3] [] τ3 else (some (.int 0, τ3)))) else none)) else none) := (Xx_go D n_L_law (fun p => Nat.beq p 2639) 17 _ _ _ _).trans rfl
set_option maxRecDepth 100000 in
set_option maxHeartbeats 4000000 in
theorem q_L_law_1219 (D : Nat) (x3 : Int32) (σ : mS) : Xx D n_L_law 1219 [.ref 300, .ref 0, .ref 200, .int x3] [] σ = (bif mIn (x3 + (1 : Int32)) ((σ.1 299 0).toNatClampNeg) then (mBI (Cc D n_E_rings [.ref 0, .int (σ.1 300 ((x3 + (1 : Int32)) : Int32).toNatClampNeg), .null, .null, .null, .null] σ) fun r2 τ1 => (bif mIn (x3 + (1 : Int32)) ((τ1.1 299 0).toNatClampNeg) then (mBI (Cc D n_M_rings [.ref 200, .int (τ1.1 300 ((x3 + (1 : Int32)) : Int32).toNatClampNeg), .null, .null, .null, .null] τ1) fun r4 τ3 => (bif decide ((r2 : Int32) = r4) then Xx D n_L_law 2639 [.ref 300, .ref 0, .ref 200, .int x3] [] τ3 else (some (.int 0, τ3)))) else none)) else none) := (Xx_go D n_L_law (fun p => Nat.beq p 2639) 17 _ _ _ _).trans rfl
set_option maxRecDepth 100000 in
set_option maxHeartbeats 4000000 in
theorem u_1242 (D : Nat) (x3 : Int32) (st : List Value) (σ : mS) : Xx D n_L_law 1242 [.ref 300, .ref 0, .ref 200, .int x3] st σ = (bif mIn (x3 + (1 : Int32)) ((σ.1 299 0).toNatClampNeg) then Xx D n_L_law 1248 [.ref 300, .ref 0, .ref 200, .int x3] (.int (σ.1 300 ((x3 + (1 : Int32)) : Int32).toNatClampNeg) :: .ref 0 :: st) σ else none) := (Xx_go D n_L_law (fun p => Nat.beq p 1248) 6 _ _ _ _).trans rfl
set_option maxRecDepth 100000 in
set_option maxHeartbeats 4000000 in
theorem u_1248 (D : Nat) (x3 : Int32) (st : List Value) (σ : mS) : Xx D n_L_law 1248 [.ref 300, .ref 0, .ref 200, .int x3] st σ = (bif mIn (x3 + (2 : Int32)) ((σ.1 299 0).toNatClampNeg) then Xx D n_L_law 1253 [.ref 300, .ref 0, .ref 200, .int x3] (.int (σ.1 300 ((x3 + (2 : Int32)) : Int32).toNatClampNeg) :: st) σ else none) := (Xx_go D n_L_law (fun p => Nat.beq p 1253) 5 _ _ _ _).trans rfl
set_option maxRecDepth 100000 in
set_option maxHeartbeats 4000000 in
theorem u_1253 (D : Nat) (x3 : Int32) (v1 : Int32) (v2 : Int32) (σ : mS) : Xx D n_L_law 1253 [.ref 300, .ref 0, .ref 200, .int x3] (.int v2 :: .int v1 :: .ref 0 :: []) σ = (mBI (Cc D n_E_word [.ref 0, .int v1, .int v2] σ) fun r τ => Xx D n_L_law 1256 [.ref 300, .ref 0, .ref 200, .int x3] [.int r] τ) := (Xx_go D n_L_law (fun p => Nat.beq p 1256) 1 _ _ _ _).trans rfl
set_option maxRecDepth 100000 in
set_option maxHeartbeats 4000000 in
theorem u_1256 (D : Nat) (x3 : Int32) (st : List Value) (σ : mS) : Xx D n_L_law 1256 [.ref 300, .ref 0, .ref 200, .int x3] st σ = (bif mIn (x3 + (1 : Int32)) ((σ.1 299 0).toNatClampNeg) then Xx D n_L_law 1262 [.ref 300, .ref 0, .ref 200, .int x3] (.int (σ.1 300 ((x3 + (1 : Int32)) : Int32).toNatClampNeg) :: .ref 200 :: st) σ else none) := (Xx_go D n_L_law (fun p => Nat.beq p 1262) 6 _ _ _ _).trans rfl
set_option maxRecDepth 100000 in
set_option maxHeartbeats 4000000 in
theorem u_1262 (D : Nat) (x3 : Int32) (st : List Value) (σ : mS) : Xx D n_L_law 1262 [.ref 300, .ref 0, .ref 200, .int x3] st σ = (bif mIn (x3 + (2 : Int32)) ((σ.1 299 0).toNatClampNeg) then Xx D n_L_law 1267 [.ref 300, .ref 0, .ref 200, .int x3] (.int (σ.1 300 ((x3 + (2 : Int32)) : Int32).toNatClampNeg) :: st) σ else none) := (Xx_go D n_L_law (fun p => Nat.beq p 1267) 5 _ _ _ _).trans rfl
set_option maxRecDepth 100000 in
set_option maxHeartbeats 4000000 in
theorem u_1267 (D : Nat) (x3 : Int32) (v1 : Int32) (v2 : Int32) (r : Int32) (σ : mS) : Xx D n_L_law 1267 [.ref 300, .ref 0, .ref 200, .int x3] (.int v2 :: .int v1 :: .ref 200 :: [.int r]) σ = (mBI (Cc D n_M_word [.ref 200, .int v1, .int v2] σ) fun r4 τ => Xx D n_L_law 1270 [.ref 300, .ref 0, .ref 200, .int x3] [.int r4, .int r] τ) := (Xx_go D n_L_law (fun p => Nat.beq p 1270) 1 _ _ _ _).trans rfl
set_option maxRecDepth 100000 in
set_option maxHeartbeats 4000000 in
theorem u_1270 (D : Nat) (x3 : Int32) (r r4 : Int32) (σ : mS) : Xx D n_L_law 1270 [.ref 300, .ref 0, .ref 200, .int x3] [.int r4, .int r] σ = (bif decide ((r : Int32) = r4) then Xx D n_L_law 2639 [.ref 300, .ref 0, .ref 200, .int x3] [] σ else (some (.int 0, σ))) := (Xx_go D n_L_law (fun p => Nat.beq p 2639) 3 _ _ _ _).trans rfl
set_option maxRecDepth 100000 in
set_option maxHeartbeats 4000000 in
theorem u_1275 (D : Nat) (x3 : Int32) (st : List Value) (σ : mS) : Xx D n_L_law 1275 [.ref 300, .ref 0, .ref 200, .int x3] st σ = (bif mIn (x3 + (1 : Int32)) ((σ.1 299 0).toNatClampNeg) then Xx D n_L_law 1281 [.ref 300, .ref 0, .ref 200, .int x3] (.int (σ.1 300 ((x3 + (1 : Int32)) : Int32).toNatClampNeg) :: .ref 0 :: st) σ else none) := (Xx_go D n_L_law (fun p => Nat.beq p 1281) 6 _ _ _ _).trans rfl
set_option maxRecDepth 100000 in
set_option maxHeartbeats 4000000 in
theorem u_1281 (D : Nat) (x3 : Int32) (st : List Value) (σ : mS) : Xx D n_L_law 1281 [.ref 300, .ref 0, .ref 200, .int x3] st σ = (bif mIn (x3 + (2 : Int32)) ((σ.1 299 0).toNatClampNeg) then Xx D n_L_law 1286 [.ref 300, .ref 0, .ref 200, .int x3] (.int (σ.1 300 ((x3 + (2 : Int32)) : Int32).toNatClampNeg) :: st) σ else none) := (Xx_go D n_L_law (fun p => Nat.beq p 1286) 5 _ _ _ _).trans rfl
set_option maxRecDepth 100000 in
set_option maxHeartbeats 4000000 in
theorem u_1286 (D : Nat) (x3 : Int32) (v1 : Int32) (v2 : Int32) (σ : mS) : Xx D n_L_law 1286 [.ref 300, .ref 0, .ref 200, .int x3] (.int v2 :: .int v1 :: .ref 0 :: []) σ = (mBI (Cc D n_E_pens [.ref 0, .int v1, .int v2] σ) fun r τ => Xx D n_L_law 1289 [.ref 300, .ref 0, .ref 200, .int x3] [.int r] τ) := (Xx_go D n_L_law (fun p => Nat.beq p 1289) 1 _ _ _ _).trans rfl
set_option maxRecDepth 100000 in
set_option maxHeartbeats 4000000 in
theorem u_1289 (D : Nat) (x3 : Int32) (st : List Value) (σ : mS) : Xx D n_L_law 1289 [.ref 300, .ref 0, .ref 200, .int x3] st σ = (bif mIn (x3 + (1 : Int32)) ((σ.1 299 0).toNatClampNeg) then Xx D n_L_law 1295 [.ref 300, .ref 0, .ref 200, .int x3] (.int (σ.1 300 ((x3 + (1 : Int32)) : Int32).toNatClampNeg) :: .ref 200 :: st) σ else none) := (Xx_go D n_L_law (fun p => Nat.beq p 1295) 6 _ _ _ _).trans rfl
set_option maxRecDepth 100000 in
set_option maxHeartbeats 4000000 in
theorem u_1295 (D : Nat) (x3 : Int32) (st : List Value) (σ : mS) : Xx D n_L_law 1295 [.ref 300, .ref 0, .ref 200, .int x3] st σ = (bif mIn (x3 + (2 : Int32)) ((σ.1 299 0).toNatClampNeg) then Xx D n_L_law 1300 [.ref 300, .ref 0, .ref 200, .int x3] (.int (σ.1 300 ((x3 + (2 : Int32)) : Int32).toNatClampNeg) :: st) σ else none) := (Xx_go D n_L_law (fun p => Nat.beq p 1300) 5 _ _ _ _).trans rfl
set_option maxRecDepth 100000 in
set_option maxHeartbeats 4000000 in
theorem u_1300 (D : Nat) (x3 : Int32) (v1 : Int32) (v2 : Int32) (r : Int32) (σ : mS) : Xx D n_L_law 1300 [.ref 300, .ref 0, .ref 200, .int x3] (.int v2 :: .int v1 :: .ref 200 :: [.int r]) σ = (mBI (Cc D n_M_pens [.ref 200, .int v1, .int v2] σ) fun r4 τ => Xx D n_L_law 1303 [.ref 300, .ref 0, .ref 200, .int x3] [.int r4, .int r] τ) := (Xx_go D n_L_law (fun p => Nat.beq p 1303) 1 _ _ _ _).trans rfl
set_option maxRecDepth 100000 in
set_option maxHeartbeats 4000000 in
theorem u_1303 (D : Nat) (x3 : Int32) (r r4 : Int32) (σ : mS) : Xx D n_L_law 1303 [.ref 300, .ref 0, .ref 200, .int x3] [.int r4, .int r] σ = (bif decide ((r : Int32) = r4) then Xx D n_L_law 2639 [.ref 300, .ref 0, .ref 200, .int x3] [] σ else (some (.int 0, σ))) := (Xx_go D n_L_law (fun p => Nat.beq p 2639) 3 _ _ _ _).trans rfl
set_option maxRecDepth 100000 in
set_option maxHeartbeats 4000000 in
theorem q_L_law_1308 (D : Nat) (x3 : Int32) (σ : mS) : Xx D n_L_law 1308 [.ref 300, .ref 0, .ref 200, .int x3] [] σ = (bif mIn (x3 + (1 : Int32)) ((σ.1 299 0).toNatClampNeg) then (mBI (Cc D n_E_gets [.ref 0, .int (σ.1 300 ((x3 + (1 : Int32)) : Int32).toNatClampNeg)] σ) fun r2 τ1 => (bif mIn (x3 + (1 : Int32)) ((τ1.1 299 0).toNatClampNeg) then (mBI (Cc D n_M_gets [.ref 200, .int (τ1.1 300 ((x3 + (1 : Int32)) : Int32).toNatClampNeg)] τ1) fun r4 τ3 => (bif decide ((r2 : Int32) = r4) then Xx D n_L_law 2639 [.ref 300, .ref 0, .ref 200, .int x3] [] τ3 else (some (.int 0, τ3)))) else none)) else none) := (Xx_go D n_L_law (fun p => Nat.beq p 2639) 17 _ _ _ _).trans rfl
set_option maxRecDepth 100000 in
set_option maxHeartbeats 4000000 in
theorem q_L_law_1331 (D : Nat) (x3 : Int32) (σ : mS) : Xx D n_L_law 1331 [.ref 300, .ref 0, .ref 200, .int x3] [] σ = (bif mIn (x3 + (1 : Int32)) ((σ.1 299 0).toNatClampNeg) then (mBI (Cc D n_E_has [.ref 0, .int (σ.1 300 ((x3 + (1 : Int32)) : Int32).toNatClampNeg)] σ) fun r2 τ1 => (bif mIn (x3 + (1 : Int32)) ((τ1.1 299 0).toNatClampNeg) then (mBI (Cc D n_M_has [.ref 200, .int (τ1.1 300 ((x3 + (1 : Int32)) : Int32).toNatClampNeg)] τ1) fun r4 τ3 => (bif decide ((r2 : Int32) = r4) then Xx D n_L_law 2639 [.ref 300, .ref 0, .ref 200, .int x3] [] τ3 else (some (.int 0, τ3)))) else none)) else none) := (Xx_go D n_L_law (fun p => Nat.beq p 2639) 17 _ _ _ _).trans rfl
set_option maxRecDepth 100000 in
set_option maxHeartbeats 4000000 in
theorem q_L_law_1354 (D : Nat) (x3 : Int32) (σ : mS) : Xx D n_L_law 1354 [.ref 300, .ref 0, .ref 200, .int x3] [] σ = (bif mIn (x3 + (1 : Int32)) ((σ.1 299 0).toNatClampNeg) then (mBI (Cc D n_E_may [.ref 0, .int (σ.1 300 ((x3 + (1 : Int32)) : Int32).toNatClampNeg), .null, .null] σ) fun r2 τ1 => (bif mIn (x3 + (1 : Int32)) ((τ1.1 299 0).toNatClampNeg) then (mBI (Cc D n_M_may [.ref 200, .int (τ1.1 300 ((x3 + (1 : Int32)) : Int32).toNatClampNeg), .null, .null] τ1) fun r4 τ3 => (bif decide ((r2 : Int32) = r4) then Xx D n_L_law 2639 [.ref 300, .ref 0, .ref 200, .int x3] [] τ3 else (some (.int 0, τ3)))) else none)) else none) := (Xx_go D n_L_law (fun p => Nat.beq p 2639) 17 _ _ _ _).trans rfl
set_option maxRecDepth 100000 in
set_option maxHeartbeats 4000000 in
theorem q_L_law_1377 (D : Nat) (x3 : Int32) (σ : mS) : Xx D n_L_law 1377 [.ref 300, .ref 0, .ref 200, .int x3] [] σ = (bif mIn (x3 + (1 : Int32)) ((σ.1 299 0).toNatClampNeg) then (mBI (Cc D n_E_edge [.ref 0, .int (σ.1 300 ((x3 + (1 : Int32)) : Int32).toNatClampNeg), .null, .null] σ) fun r2 τ1 => (bif mIn (x3 + (1 : Int32)) ((τ1.1 299 0).toNatClampNeg) then (mBI (Cc D n_M_edge [.ref 200, .int (τ1.1 300 ((x3 + (1 : Int32)) : Int32).toNatClampNeg)] τ1) fun r4 τ3 => (bif decide ((r2 : Int32) = r4) then Xx D n_L_law 2639 [.ref 300, .ref 0, .ref 200, .int x3] [] τ3 else (some (.int 0, τ3)))) else none)) else none) := (Xx_go D n_L_law (fun p => Nat.beq p 2639) 17 _ _ _ _).trans rfl
set_option maxRecDepth 100000 in
set_option maxHeartbeats 4000000 in
theorem q_L_law_1400 (D : Nat) (x3 : Int32) (σ : mS) : Xx D n_L_law 1400 [.ref 300, .ref 0, .ref 200, .int x3] [] σ = (bif mIn (x3 + (1 : Int32)) ((σ.1 299 0).toNatClampNeg) then (mBI (Cc D n_E_writes [.ref 0, .int (σ.1 300 ((x3 + (1 : Int32)) : Int32).toNatClampNeg), .null, .null, .null] σ) fun r2 τ1 => (bif mIn (x3 + (1 : Int32)) ((τ1.1 299 0).toNatClampNeg) then (mBI (Cc D n_M_writes [.ref 200, .int (τ1.1 300 ((x3 + (1 : Int32)) : Int32).toNatClampNeg), .null, .null] τ1) fun r4 τ3 => (bif decide ((r2 : Int32) = r4) then Xx D n_L_law 2639 [.ref 300, .ref 0, .ref 200, .int x3] [] τ3 else (some (.int 0, τ3)))) else none)) else none) := (Xx_go D n_L_law (fun p => Nat.beq p 2639) 17 _ _ _ _).trans rfl
set_option maxRecDepth 100000 in
set_option maxHeartbeats 4000000 in
theorem q_L_law_1423 (D : Nat) (x3 : Int32) (σ : mS) : Xx D n_L_law 1423 [.ref 300, .ref 0, .ref 200, .int x3] [] σ = (mBI (Cc D n_E_given [.ref 0] σ) fun r2 τ1 => (mBI (Cc D n_M_given [.ref 200] τ1) fun r4 τ3 => (bif decide ((r2 : Int32) = r4) then Xx D n_L_law 2639 [.ref 300, .ref 0, .ref 200, .int x3] [] τ3 else (some (.int 0, τ3))))) := (Xx_go D n_L_law (fun p => Nat.beq p 2639) 7 _ _ _ _).trans rfl
set_option maxRecDepth 100000 in
set_option maxHeartbeats 4000000 in
theorem q_L_law_1436 (D : Nat) (x3 : Int32) (σ : mS) : Xx D n_L_law 1436 [.ref 300, .ref 0, .ref 200, .int x3] [] σ = (mBI (Cc D n_E_idle [.ref 0, .null, .null] σ) fun r2 τ1 => (mBI (Cc D n_M_idle [.ref 200, .null, .null] τ1) fun r4 τ3 => (bif decide ((r2 : Int32) = r4) then Xx D n_L_law 2639 [.ref 300, .ref 0, .ref 200, .int x3] [] τ3 else (some (.int 0, τ3))))) := (Xx_go D n_L_law (fun p => Nat.beq p 2639) 7 _ _ _ _).trans rfl
set_option maxRecDepth 100000 in
set_option maxHeartbeats 4000000 in
theorem q_L_law_1449 (D : Nat) (x3 : Int32) (σ : mS) : Xx D n_L_law 1449 [.ref 300, .ref 0, .ref 200, .int x3] [] σ = (bif mIn (x3 + (1 : Int32)) ((σ.1 299 0).toNatClampNeg) then (mBI (Cc D n_E_hopes [.ref 0, .int (σ.1 300 ((x3 + (1 : Int32)) : Int32).toNatClampNeg), .null, .null] σ) fun r2 τ1 => (bif mIn (x3 + (1 : Int32)) ((τ1.1 299 0).toNatClampNeg) then (mBI (Cc D n_M_hopes [.ref 200, .int (τ1.1 300 ((x3 + (1 : Int32)) : Int32).toNatClampNeg), .null, .null] τ1) fun r4 τ3 => (bif decide ((r2 : Int32) = r4) then Xx D n_L_law 2639 [.ref 300, .ref 0, .ref 200, .int x3] [] τ3 else (some (.int 0, τ3)))) else none)) else none) := (Xx_go D n_L_law (fun p => Nat.beq p 2639) 17 _ _ _ _).trans rfl
set_option maxRecDepth 100000 in
set_option maxHeartbeats 4000000 in
theorem u_1472 (D : Nat) (x3 : Int32) (st : List Value) (σ : mS) : Xx D n_L_law 1472 [.ref 300, .ref 0, .ref 200, .int x3] st σ = (bif mIn (x3 + (1 : Int32)) ((σ.1 299 0).toNatClampNeg) then Xx D n_L_law 1478 [.ref 300, .ref 0, .ref 200, .int x3] (.int (σ.1 300 ((x3 + (1 : Int32)) : Int32).toNatClampNeg) :: .ref 0 :: st) σ else none) := (Xx_go D n_L_law (fun p => Nat.beq p 1478) 6 _ _ _ _).trans rfl
set_option maxRecDepth 100000 in
set_option maxHeartbeats 4000000 in
theorem u_1478 (D : Nat) (x3 : Int32) (st : List Value) (σ : mS) : Xx D n_L_law 1478 [.ref 300, .ref 0, .ref 200, .int x3] st σ = (bif mIn (x3 + (2 : Int32)) ((σ.1 299 0).toNatClampNeg) then Xx D n_L_law 1483 [.ref 300, .ref 0, .ref 200, .int x3] (.int (σ.1 300 ((x3 + (2 : Int32)) : Int32).toNatClampNeg) :: st) σ else none) := (Xx_go D n_L_law (fun p => Nat.beq p 1483) 5 _ _ _ _).trans rfl
set_option maxRecDepth 100000 in
set_option maxHeartbeats 4000000 in
theorem u_1483 (D : Nat) (x3 : Int32) (v1 : Int32) (v2 : Int32) (σ : mS) : Xx D n_L_law 1483 [.ref 300, .ref 0, .ref 200, .int x3] (.int v2 :: .int v1 :: .ref 0 :: []) σ = (mBI (Cc D n_E_lacks [.ref 0, .int v1, .int v2] σ) fun r τ => Xx D n_L_law 1486 [.ref 300, .ref 0, .ref 200, .int x3] [.int r] τ) := (Xx_go D n_L_law (fun p => Nat.beq p 1486) 1 _ _ _ _).trans rfl
set_option maxRecDepth 100000 in
set_option maxHeartbeats 4000000 in
theorem u_1486 (D : Nat) (x3 : Int32) (st : List Value) (σ : mS) : Xx D n_L_law 1486 [.ref 300, .ref 0, .ref 200, .int x3] st σ = (bif mIn (x3 + (1 : Int32)) ((σ.1 299 0).toNatClampNeg) then Xx D n_L_law 1492 [.ref 300, .ref 0, .ref 200, .int x3] (.int (σ.1 300 ((x3 + (1 : Int32)) : Int32).toNatClampNeg) :: .ref 200 :: st) σ else none) := (Xx_go D n_L_law (fun p => Nat.beq p 1492) 6 _ _ _ _).trans rfl
set_option maxRecDepth 100000 in
set_option maxHeartbeats 4000000 in
theorem u_1492 (D : Nat) (x3 : Int32) (st : List Value) (σ : mS) : Xx D n_L_law 1492 [.ref 300, .ref 0, .ref 200, .int x3] st σ = (bif mIn (x3 + (2 : Int32)) ((σ.1 299 0).toNatClampNeg) then Xx D n_L_law 1497 [.ref 300, .ref 0, .ref 200, .int x3] (.int (σ.1 300 ((x3 + (2 : Int32)) : Int32).toNatClampNeg) :: st) σ else none) := (Xx_go D n_L_law (fun p => Nat.beq p 1497) 5 _ _ _ _).trans rfl
set_option maxRecDepth 100000 in
set_option maxHeartbeats 4000000 in
theorem u_1497 (D : Nat) (x3 : Int32) (v1 : Int32) (v2 : Int32) (r : Int32) (σ : mS) : Xx D n_L_law 1497 [.ref 300, .ref 0, .ref 200, .int x3] (.int v2 :: .int v1 :: .ref 200 :: [.int r]) σ = (mBI (Cc D n_M_lacks [.ref 200, .int v1, .int v2] σ) fun r4 τ => Xx D n_L_law 1500 [.ref 300, .ref 0, .ref 200, .int x3] [.int r4, .int r] τ) := (Xx_go D n_L_law (fun p => Nat.beq p 1500) 1 _ _ _ _).trans rfl
set_option maxRecDepth 100000 in
set_option maxHeartbeats 4000000 in
theorem u_1500 (D : Nat) (x3 : Int32) (r r4 : Int32) (σ : mS) : Xx D n_L_law 1500 [.ref 300, .ref 0, .ref 200, .int x3] [.int r4, .int r] σ = (bif decide ((r : Int32) = r4) then Xx D n_L_law 2639 [.ref 300, .ref 0, .ref 200, .int x3] [] σ else (some (.int 0, σ))) := (Xx_go D n_L_law (fun p => Nat.beq p 2639) 3 _ _ _ _).trans rfl
set_option maxRecDepth 100000 in
set_option maxHeartbeats 4000000 in
theorem u_1505 (D : Nat) (x3 : Int32) (st : List Value) (σ : mS) : Xx D n_L_law 1505 [.ref 300, .ref 0, .ref 200, .int x3] st σ = (bif mIn (x3 + (1 : Int32)) ((σ.1 299 0).toNatClampNeg) then Xx D n_L_law 1511 [.ref 300, .ref 0, .ref 200, .int x3] (.int (σ.1 300 ((x3 + (1 : Int32)) : Int32).toNatClampNeg) :: .ref 0 :: st) σ else none) := (Xx_go D n_L_law (fun p => Nat.beq p 1511) 6 _ _ _ _).trans rfl
set_option maxRecDepth 100000 in
set_option maxHeartbeats 4000000 in
theorem u_1511 (D : Nat) (x3 : Int32) (st : List Value) (σ : mS) : Xx D n_L_law 1511 [.ref 300, .ref 0, .ref 200, .int x3] st σ = (bif mIn (x3 + (2 : Int32)) ((σ.1 299 0).toNatClampNeg) then Xx D n_L_law 1516 [.ref 300, .ref 0, .ref 200, .int x3] (.int (σ.1 300 ((x3 + (2 : Int32)) : Int32).toNatClampNeg) :: st) σ else none) := (Xx_go D n_L_law (fun p => Nat.beq p 1516) 5 _ _ _ _).trans rfl
set_option maxRecDepth 100000 in
set_option maxHeartbeats 4000000 in
theorem u_1516 (D : Nat) (x3 : Int32) (st : List Value) (σ : mS) : Xx D n_L_law 1516 [.ref 300, .ref 0, .ref 200, .int x3] st σ = (bif mIn (x3 + (3 : Int32)) ((σ.1 299 0).toNatClampNeg) then Xx D n_L_law 1521 [.ref 300, .ref 0, .ref 200, .int x3] (.int (σ.1 300 ((x3 + (3 : Int32)) : Int32).toNatClampNeg) :: st) σ else none) := (Xx_go D n_L_law (fun p => Nat.beq p 1521) 5 _ _ _ _).trans rfl
set_option maxRecDepth 100000 in
set_option maxHeartbeats 4000000 in
theorem u_1521 (D : Nat) (x3 : Int32) (v1 : Int32) (v2 : Int32) (v3 : Int32) (σ : mS) : Xx D n_L_law 1521 [.ref 300, .ref 0, .ref 200, .int x3] (.int v3 :: .int v2 :: .int v1 :: .ref 0 :: []) σ = (mBI (Cc D n_E_least [.ref 0, .int v1, .int v2, .int v3] σ) fun r τ => Xx D n_L_law 1524 [.ref 300, .ref 0, .ref 200, .int x3] [.int r] τ) := (Xx_go D n_L_law (fun p => Nat.beq p 1524) 1 _ _ _ _).trans rfl
set_option maxRecDepth 100000 in
set_option maxHeartbeats 4000000 in
theorem u_1524 (D : Nat) (x3 : Int32) (st : List Value) (σ : mS) : Xx D n_L_law 1524 [.ref 300, .ref 0, .ref 200, .int x3] st σ = (bif mIn (x3 + (1 : Int32)) ((σ.1 299 0).toNatClampNeg) then Xx D n_L_law 1530 [.ref 300, .ref 0, .ref 200, .int x3] (.int (σ.1 300 ((x3 + (1 : Int32)) : Int32).toNatClampNeg) :: .ref 200 :: st) σ else none) := (Xx_go D n_L_law (fun p => Nat.beq p 1530) 6 _ _ _ _).trans rfl
set_option maxRecDepth 100000 in
set_option maxHeartbeats 4000000 in
theorem u_1530 (D : Nat) (x3 : Int32) (st : List Value) (σ : mS) : Xx D n_L_law 1530 [.ref 300, .ref 0, .ref 200, .int x3] st σ = (bif mIn (x3 + (2 : Int32)) ((σ.1 299 0).toNatClampNeg) then Xx D n_L_law 1535 [.ref 300, .ref 0, .ref 200, .int x3] (.int (σ.1 300 ((x3 + (2 : Int32)) : Int32).toNatClampNeg) :: st) σ else none) := (Xx_go D n_L_law (fun p => Nat.beq p 1535) 5 _ _ _ _).trans rfl
set_option maxRecDepth 100000 in
set_option maxHeartbeats 4000000 in
theorem u_1535 (D : Nat) (x3 : Int32) (st : List Value) (σ : mS) : Xx D n_L_law 1535 [.ref 300, .ref 0, .ref 200, .int x3] st σ = (bif mIn (x3 + (3 : Int32)) ((σ.1 299 0).toNatClampNeg) then Xx D n_L_law 1540 [.ref 300, .ref 0, .ref 200, .int x3] (.int (σ.1 300 ((x3 + (3 : Int32)) : Int32).toNatClampNeg) :: st) σ else none) := (Xx_go D n_L_law (fun p => Nat.beq p 1540) 5 _ _ _ _).trans rfl
set_option maxRecDepth 100000 in
set_option maxHeartbeats 4000000 in
theorem u_1540 (D : Nat) (x3 : Int32) (v1 : Int32) (v2 : Int32) (v3 : Int32) (r : Int32) (σ : mS) : Xx D n_L_law 1540 [.ref 300, .ref 0, .ref 200, .int x3] (.int v3 :: .int v2 :: .int v1 :: .ref 200 :: [.int r]) σ = (mBI (Cc D n_M_least [.ref 200, .int v1, .int v2, .int v3, .null] σ) fun r4 τ => Xx D n_L_law 1543 [.ref 300, .ref 0, .ref 200, .int x3] [.int r4, .int r] τ) := (Xx_go D n_L_law (fun p => Nat.beq p 1543) 1 _ _ _ _).trans rfl
set_option maxRecDepth 100000 in
set_option maxHeartbeats 4000000 in
theorem u_1543 (D : Nat) (x3 : Int32) (r r4 : Int32) (σ : mS) : Xx D n_L_law 1543 [.ref 300, .ref 0, .ref 200, .int x3] [.int r4, .int r] σ = (bif decide ((r : Int32) = r4) then Xx D n_L_law 2639 [.ref 300, .ref 0, .ref 200, .int x3] [] σ else (some (.int 0, σ))) := (Xx_go D n_L_law (fun p => Nat.beq p 2639) 3 _ _ _ _).trans rfl
set_option maxRecDepth 100000 in
set_option maxHeartbeats 4000000 in
theorem u_1548 (D : Nat) (x3 : Int32) (st : List Value) (σ : mS) : Xx D n_L_law 1548 [.ref 300, .ref 0, .ref 200, .int x3] st σ = (bif mIn (x3 + (1 : Int32)) ((σ.1 299 0).toNatClampNeg) then Xx D n_L_law 1554 [.ref 300, .ref 0, .ref 200, .int x3] (.int (σ.1 300 ((x3 + (1 : Int32)) : Int32).toNatClampNeg) :: .ref 0 :: st) σ else none) := (Xx_go D n_L_law (fun p => Nat.beq p 1554) 6 _ _ _ _).trans rfl
set_option maxRecDepth 100000 in
set_option maxHeartbeats 4000000 in
theorem u_1554 (D : Nat) (x3 : Int32) (st : List Value) (σ : mS) : Xx D n_L_law 1554 [.ref 300, .ref 0, .ref 200, .int x3] st σ = (bif mIn (x3 + (2 : Int32)) ((σ.1 299 0).toNatClampNeg) then Xx D n_L_law 1559 [.ref 300, .ref 0, .ref 200, .int x3] (.int (σ.1 300 ((x3 + (2 : Int32)) : Int32).toNatClampNeg) :: st) σ else none) := (Xx_go D n_L_law (fun p => Nat.beq p 1559) 5 _ _ _ _).trans rfl
set_option maxRecDepth 100000 in
set_option maxHeartbeats 4000000 in
theorem u_1559 (D : Nat) (x3 : Int32) (v1 : Int32) (v2 : Int32) (σ : mS) : Xx D n_L_law 1559 [.ref 300, .ref 0, .ref 200, .int x3] (.int v2 :: .int v1 :: .ref 0 :: []) σ = (mBI (Cc D n_E_target [.ref 0, .int v1, .int v2, .null, .null, .null, .null] σ) fun r τ => Xx D n_L_law 1562 [.ref 300, .ref 0, .ref 200, .int x3] [.int r] τ) := (Xx_go D n_L_law (fun p => Nat.beq p 1562) 1 _ _ _ _).trans rfl
set_option maxRecDepth 100000 in
set_option maxHeartbeats 4000000 in
theorem u_1562 (D : Nat) (x3 : Int32) (st : List Value) (σ : mS) : Xx D n_L_law 1562 [.ref 300, .ref 0, .ref 200, .int x3] st σ = (bif mIn (x3 + (1 : Int32)) ((σ.1 299 0).toNatClampNeg) then Xx D n_L_law 1568 [.ref 300, .ref 0, .ref 200, .int x3] (.int (σ.1 300 ((x3 + (1 : Int32)) : Int32).toNatClampNeg) :: .ref 200 :: st) σ else none) := (Xx_go D n_L_law (fun p => Nat.beq p 1568) 6 _ _ _ _).trans rfl
set_option maxRecDepth 100000 in
set_option maxHeartbeats 4000000 in
theorem u_1568 (D : Nat) (x3 : Int32) (st : List Value) (σ : mS) : Xx D n_L_law 1568 [.ref 300, .ref 0, .ref 200, .int x3] st σ = (bif mIn (x3 + (2 : Int32)) ((σ.1 299 0).toNatClampNeg) then Xx D n_L_law 1573 [.ref 300, .ref 0, .ref 200, .int x3] (.int (σ.1 300 ((x3 + (2 : Int32)) : Int32).toNatClampNeg) :: st) σ else none) := (Xx_go D n_L_law (fun p => Nat.beq p 1573) 5 _ _ _ _).trans rfl
set_option maxRecDepth 100000 in
set_option maxHeartbeats 4000000 in
theorem u_1573 (D : Nat) (x3 : Int32) (v1 : Int32) (v2 : Int32) (r : Int32) (σ : mS) : Xx D n_L_law 1573 [.ref 300, .ref 0, .ref 200, .int x3] (.int v2 :: .int v1 :: .ref 200 :: [.int r]) σ = (mBI (Cc D n_M_target [.ref 200, .int v1, .int v2, .null, .null, .null, .null] σ) fun r4 τ => Xx D n_L_law 1576 [.ref 300, .ref 0, .ref 200, .int x3] [.int r4, .int r] τ) := (Xx_go D n_L_law (fun p => Nat.beq p 1576) 1 _ _ _ _).trans rfl
set_option maxRecDepth 100000 in
set_option maxHeartbeats 4000000 in
theorem u_1576 (D : Nat) (x3 : Int32) (r r4 : Int32) (σ : mS) : Xx D n_L_law 1576 [.ref 300, .ref 0, .ref 200, .int x3] [.int r4, .int r] σ = (bif decide ((r : Int32) = r4) then Xx D n_L_law 2639 [.ref 300, .ref 0, .ref 200, .int x3] [] σ else (some (.int 0, σ))) := (Xx_go D n_L_law (fun p => Nat.beq p 2639) 3 _ _ _ _).trans rfl
set_option maxRecDepth 100000 in
set_option maxHeartbeats 4000000 in
theorem u_1581 (D : Nat) (x3 : Int32) (st : List Value) (σ : mS) : Xx D n_L_law 1581 [.ref 300, .ref 0, .ref 200, .int x3] st σ = (bif mIn (x3 + (1 : Int32)) ((σ.1 299 0).toNatClampNeg) then Xx D n_L_law 1587 [.ref 300, .ref 0, .ref 200, .int x3] (.int (σ.1 300 ((x3 + (1 : Int32)) : Int32).toNatClampNeg) :: .ref 0 :: st) σ else none) := (Xx_go D n_L_law (fun p => Nat.beq p 1587) 6 _ _ _ _).trans rfl
set_option maxRecDepth 100000 in
set_option maxHeartbeats 4000000 in
theorem u_1587 (D : Nat) (x3 : Int32) (st : List Value) (σ : mS) : Xx D n_L_law 1587 [.ref 300, .ref 0, .ref 200, .int x3] st σ = (bif mIn (x3 + (2 : Int32)) ((σ.1 299 0).toNatClampNeg) then Xx D n_L_law 1592 [.ref 300, .ref 0, .ref 200, .int x3] (.int (σ.1 300 ((x3 + (2 : Int32)) : Int32).toNatClampNeg) :: st) σ else none) := (Xx_go D n_L_law (fun p => Nat.beq p 1592) 5 _ _ _ _).trans rfl
set_option maxRecDepth 100000 in
set_option maxHeartbeats 4000000 in
theorem u_1592 (D : Nat) (x3 : Int32) (v1 : Int32) (v2 : Int32) (σ : mS) : Xx D n_L_law 1592 [.ref 300, .ref 0, .ref 200, .int x3] (.int v2 :: .int v1 :: .ref 0 :: []) σ = (mBI (Cc D n_E_learns [.ref 0, .int v1, .int v2, .null, .null, .null] σ) fun r τ => Xx D n_L_law 1595 [.ref 300, .ref 0, .ref 200, .int x3] [.int r] τ) := (Xx_go D n_L_law (fun p => Nat.beq p 1595) 1 _ _ _ _).trans rfl
set_option maxRecDepth 100000 in
set_option maxHeartbeats 4000000 in
theorem u_1595 (D : Nat) (x3 : Int32) (st : List Value) (σ : mS) : Xx D n_L_law 1595 [.ref 300, .ref 0, .ref 200, .int x3] st σ = (bif mIn (x3 + (1 : Int32)) ((σ.1 299 0).toNatClampNeg) then Xx D n_L_law 1601 [.ref 300, .ref 0, .ref 200, .int x3] (.int (σ.1 300 ((x3 + (1 : Int32)) : Int32).toNatClampNeg) :: .ref 200 :: st) σ else none) := (Xx_go D n_L_law (fun p => Nat.beq p 1601) 6 _ _ _ _).trans rfl
set_option maxRecDepth 100000 in
set_option maxHeartbeats 4000000 in
theorem u_1601 (D : Nat) (x3 : Int32) (st : List Value) (σ : mS) : Xx D n_L_law 1601 [.ref 300, .ref 0, .ref 200, .int x3] st σ = (bif mIn (x3 + (2 : Int32)) ((σ.1 299 0).toNatClampNeg) then Xx D n_L_law 1606 [.ref 300, .ref 0, .ref 200, .int x3] (.int (σ.1 300 ((x3 + (2 : Int32)) : Int32).toNatClampNeg) :: st) σ else none) := (Xx_go D n_L_law (fun p => Nat.beq p 1606) 5 _ _ _ _).trans rfl
set_option maxRecDepth 100000 in
set_option maxHeartbeats 4000000 in
theorem u_1606 (D : Nat) (x3 : Int32) (v1 : Int32) (v2 : Int32) (r : Int32) (σ : mS) : Xx D n_L_law 1606 [.ref 300, .ref 0, .ref 200, .int x3] (.int v2 :: .int v1 :: .ref 200 :: [.int r]) σ = (mBI (Cc D n_M_learns [.ref 200, .int v1, .int v2, .null, .null, .null] σ) fun r4 τ => Xx D n_L_law 1609 [.ref 300, .ref 0, .ref 200, .int x3] [.int r4, .int r] τ) := (Xx_go D n_L_law (fun p => Nat.beq p 1609) 1 _ _ _ _).trans rfl
set_option maxRecDepth 100000 in
set_option maxHeartbeats 4000000 in
theorem u_1609 (D : Nat) (x3 : Int32) (r r4 : Int32) (σ : mS) : Xx D n_L_law 1609 [.ref 300, .ref 0, .ref 200, .int x3] [.int r4, .int r] σ = (bif decide ((r : Int32) = r4) then Xx D n_L_law 2639 [.ref 300, .ref 0, .ref 200, .int x3] [] σ else (some (.int 0, σ))) := (Xx_go D n_L_law (fun p => Nat.beq p 2639) 3 _ _ _ _).trans rfl
set_option maxRecDepth 100000 in
set_option maxHeartbeats 4000000 in
theorem q_L_law_1614 (D : Nat) (x3 : Int32) (σ : mS) : Xx D n_L_law 1614 [.ref 300, .ref 0, .ref 200, .int x3] [] σ = (mBI (Cc D n_E_best [.ref 0] σ) fun r2 τ1 => (mBI (Cc D n_M_best [.ref 200] τ1) fun r4 τ3 => (bif decide ((r2 : Int32) = r4) then Xx D n_L_law 2639 [.ref 300, .ref 0, .ref 200, .int x3] [] τ3 else (some (.int 0, τ3))))) := (Xx_go D n_L_law (fun p => Nat.beq p 2639) 7 _ _ _ _).trans rfl
set_option maxRecDepth 100000 in
set_option maxHeartbeats 4000000 in
theorem q_L_law_1627 (D : Nat) (x3 : Int32) (σ : mS) : Xx D n_L_law 1627 [.ref 300, .ref 0, .ref 200, .int x3] [] σ = (bif mIn (x3 + (1 : Int32)) ((σ.1 299 0).toNatClampNeg) then (mBI (Cc D n_E_put [.ref 0, .int (σ.1 300 ((x3 + (1 : Int32)) : Int32).toNatClampNeg)] σ) fun r2 τ1 => (bif mIn (x3 + (1 : Int32)) ((τ1.1 299 0).toNatClampNeg) then (mBI (Cc D n_M_put [.ref 200, .int (τ1.1 300 ((x3 + (1 : Int32)) : Int32).toNatClampNeg)] τ1) fun r4 τ3 => (bif decide ((r2 : Int32) = r4) then Xx D n_L_law 2639 [.ref 300, .ref 0, .ref 200, .int x3] [] τ3 else (some (.int 0, τ3)))) else none)) else none) := (Xx_go D n_L_law (fun p => Nat.beq p 2639) 17 _ _ _ _).trans rfl
set_option maxRecDepth 100000 in
set_option maxHeartbeats 4000000 in
theorem q_L_law_1650 (D : Nat) (x3 : Int32) (σ : mS) : Xx D n_L_law 1650 [.ref 300, .ref 0, .ref 200, .int x3] [] σ = (mBI (Cc D n_E_ways [.ref 0] σ) fun r2 τ1 => (mBI (Cc D n_M_ways [.ref 200] τ1) fun r4 τ3 => (bif decide ((r2 : Int32) = r4) then Xx D n_L_law 2639 [.ref 300, .ref 0, .ref 200, .int x3] [] τ3 else (some (.int 0, τ3))))) := (Xx_go D n_L_law (fun p => Nat.beq p 2639) 7 _ _ _ _).trans rfl
set_option maxRecDepth 100000 in
set_option maxHeartbeats 4000000 in
theorem q_L_law_1663 (D : Nat) (x3 : Int32) (σ : mS) : Xx D n_L_law 1663 [.ref 300, .ref 0, .ref 200, .int x3] [] σ = (bif mIn (x3 + (1 : Int32)) ((σ.1 299 0).toNatClampNeg) then (mBI (Cc D n_E_by [.ref 0, .int (σ.1 300 ((x3 + (1 : Int32)) : Int32).toNatClampNeg)] σ) fun r2 τ1 => (bif mIn (x3 + (1 : Int32)) ((τ1.1 299 0).toNatClampNeg) then (mBI (Cc D n_M_by [.ref 200, .int (τ1.1 300 ((x3 + (1 : Int32)) : Int32).toNatClampNeg)] τ1) fun r4 τ3 => (bif decide ((r2 : Int32) = r4) then Xx D n_L_law 2639 [.ref 300, .ref 0, .ref 200, .int x3] [] τ3 else (some (.int 0, τ3)))) else none)) else none) := (Xx_go D n_L_law (fun p => Nat.beq p 2639) 17 _ _ _ _).trans rfl
set_option maxRecDepth 100000 in
set_option maxHeartbeats 4000000 in
theorem q_L_law_1686 (D : Nat) (x3 : Int32) (σ : mS) : Xx D n_L_law 1686 [.ref 300, .ref 0, .ref 200, .int x3] [] σ = (mBI (Cc D n_E_law [.ref 0, .null, .null, .null, .null] σ) fun r2 τ1 => (mBI (Cc D n_M_law [.ref 200, .null, .null] τ1) fun r4 τ3 => (bif decide ((r2 : Int32) = r4) then Xx D n_L_law 2639 [.ref 300, .ref 0, .ref 200, .int x3] [] τ3 else (some (.int 0, τ3))))) := (Xx_go D n_L_law (fun p => Nat.beq p 2639) 7 _ _ _ _).trans rfl
set_option maxRecDepth 100000 in
set_option maxHeartbeats 4000000 in
theorem q_L_law_1699 (D : Nat) (x3 : Int32) (σ : mS) : Xx D n_L_law 1699 [.ref 300, .ref 0, .ref 200, .int x3] [] σ = (mBI (Cc D n_E_spare [.ref 0, .null, .null, .null, .null] σ) fun r2 τ1 => (mBI (Cc D n_M_spare [.ref 200, .null, .null] τ1) fun r4 τ3 => (bif decide ((r2 : Int32) = r4) then Xx D n_L_law 2639 [.ref 300, .ref 0, .ref 200, .int x3] [] τ3 else (some (.int 0, τ3))))) := (Xx_go D n_L_law (fun p => Nat.beq p 2639) 7 _ _ _ _).trans rfl
set_option maxRecDepth 100000 in
set_option maxHeartbeats 4000000 in
theorem u_1712 (D : Nat) (x3 : Int32) (st : List Value) (σ : mS) : Xx D n_L_law 1712 [.ref 300, .ref 0, .ref 200, .int x3] st σ = (bif mIn (x3 + (1 : Int32)) ((σ.1 299 0).toNatClampNeg) then Xx D n_L_law 1718 [.ref 300, .ref 0, .ref 200, .int x3] (.int (σ.1 300 ((x3 + (1 : Int32)) : Int32).toNatClampNeg) :: .ref 0 :: st) σ else none) := (Xx_go D n_L_law (fun p => Nat.beq p 1718) 6 _ _ _ _).trans rfl
set_option maxRecDepth 100000 in
set_option maxHeartbeats 4000000 in
theorem u_1718 (D : Nat) (x3 : Int32) (st : List Value) (σ : mS) : Xx D n_L_law 1718 [.ref 300, .ref 0, .ref 200, .int x3] st σ = (bif mIn (x3 + (2 : Int32)) ((σ.1 299 0).toNatClampNeg) then Xx D n_L_law 1723 [.ref 300, .ref 0, .ref 200, .int x3] (.int (σ.1 300 ((x3 + (2 : Int32)) : Int32).toNatClampNeg) :: st) σ else none) := (Xx_go D n_L_law (fun p => Nat.beq p 1723) 5 _ _ _ _).trans rfl
set_option maxRecDepth 100000 in
set_option maxHeartbeats 4000000 in
theorem u_1723 (D : Nat) (x3 : Int32) (v1 : Int32) (v2 : Int32) (σ : mS) : Xx D n_L_law 1723 [.ref 300, .ref 0, .ref 200, .int x3] (.int v2 :: .int v1 :: .ref 0 :: []) σ = (mBI (Cc D n_E_fits [.ref 0, .int v1, .int v2, .null] σ) fun r τ => Xx D n_L_law 1726 [.ref 300, .ref 0, .ref 200, .int x3] [.int r] τ) := (Xx_go D n_L_law (fun p => Nat.beq p 1726) 1 _ _ _ _).trans rfl
set_option maxRecDepth 100000 in
set_option maxHeartbeats 4000000 in
theorem u_1726 (D : Nat) (x3 : Int32) (st : List Value) (σ : mS) : Xx D n_L_law 1726 [.ref 300, .ref 0, .ref 200, .int x3] st σ = (bif mIn (x3 + (1 : Int32)) ((σ.1 299 0).toNatClampNeg) then Xx D n_L_law 1732 [.ref 300, .ref 0, .ref 200, .int x3] (.int (σ.1 300 ((x3 + (1 : Int32)) : Int32).toNatClampNeg) :: .ref 200 :: st) σ else none) := (Xx_go D n_L_law (fun p => Nat.beq p 1732) 6 _ _ _ _).trans rfl
set_option maxRecDepth 100000 in
set_option maxHeartbeats 4000000 in
theorem u_1732 (D : Nat) (x3 : Int32) (st : List Value) (σ : mS) : Xx D n_L_law 1732 [.ref 300, .ref 0, .ref 200, .int x3] st σ = (bif mIn (x3 + (2 : Int32)) ((σ.1 299 0).toNatClampNeg) then Xx D n_L_law 1737 [.ref 300, .ref 0, .ref 200, .int x3] (.int (σ.1 300 ((x3 + (2 : Int32)) : Int32).toNatClampNeg) :: st) σ else none) := (Xx_go D n_L_law (fun p => Nat.beq p 1737) 5 _ _ _ _).trans rfl
set_option maxRecDepth 100000 in
set_option maxHeartbeats 4000000 in
theorem u_1737 (D : Nat) (x3 : Int32) (v1 : Int32) (v2 : Int32) (r : Int32) (σ : mS) : Xx D n_L_law 1737 [.ref 300, .ref 0, .ref 200, .int x3] (.int v2 :: .int v1 :: .ref 200 :: [.int r]) σ = (mBI (Cc D n_M_fits [.ref 200, .int v1, .int v2, .null] σ) fun r4 τ => Xx D n_L_law 1740 [.ref 300, .ref 0, .ref 200, .int x3] [.int r4, .int r] τ) := (Xx_go D n_L_law (fun p => Nat.beq p 1740) 1 _ _ _ _).trans rfl
set_option maxRecDepth 100000 in
set_option maxHeartbeats 4000000 in
theorem u_1740 (D : Nat) (x3 : Int32) (r r4 : Int32) (σ : mS) : Xx D n_L_law 1740 [.ref 300, .ref 0, .ref 200, .int x3] [.int r4, .int r] σ = (bif decide ((r : Int32) = r4) then Xx D n_L_law 2639 [.ref 300, .ref 0, .ref 200, .int x3] [] σ else (some (.int 0, σ))) := (Xx_go D n_L_law (fun p => Nat.beq p 2639) 3 _ _ _ _).trans rfl
set_option maxRecDepth 100000 in
set_option maxHeartbeats 4000000 in
theorem u_1745 (D : Nat) (x3 : Int32) (st : List Value) (σ : mS) : Xx D n_L_law 1745 [.ref 300, .ref 0, .ref 200, .int x3] st σ = (bif mIn (x3 + (1 : Int32)) ((σ.1 299 0).toNatClampNeg) then Xx D n_L_law 1751 [.ref 300, .ref 0, .ref 200, .int x3] (.int (σ.1 300 ((x3 + (1 : Int32)) : Int32).toNatClampNeg) :: .ref 0 :: st) σ else none) := (Xx_go D n_L_law (fun p => Nat.beq p 1751) 6 _ _ _ _).trans rfl
set_option maxRecDepth 100000 in
set_option maxHeartbeats 4000000 in
theorem u_1751 (D : Nat) (x3 : Int32) (st : List Value) (σ : mS) : Xx D n_L_law 1751 [.ref 300, .ref 0, .ref 200, .int x3] st σ = (bif mIn (x3 + (2 : Int32)) ((σ.1 299 0).toNatClampNeg) then Xx D n_L_law 1756 [.ref 300, .ref 0, .ref 200, .int x3] (.int (σ.1 300 ((x3 + (2 : Int32)) : Int32).toNatClampNeg) :: st) σ else none) := (Xx_go D n_L_law (fun p => Nat.beq p 1756) 5 _ _ _ _).trans rfl
set_option maxRecDepth 100000 in
set_option maxHeartbeats 4000000 in
theorem u_1756 (D : Nat) (x3 : Int32) (v1 : Int32) (v2 : Int32) (σ : mS) : Xx D n_L_law 1756 [.ref 300, .ref 0, .ref 200, .int x3] (.int v2 :: .int v1 :: .ref 0 :: []) σ = (mBI (Cc D n_E_surely [.ref 0, .int v1, .int v2, .null] σ) fun r τ => Xx D n_L_law 1759 [.ref 300, .ref 0, .ref 200, .int x3] [.int r] τ) := (Xx_go D n_L_law (fun p => Nat.beq p 1759) 1 _ _ _ _).trans rfl
set_option maxRecDepth 100000 in
set_option maxHeartbeats 4000000 in
theorem u_1759 (D : Nat) (x3 : Int32) (st : List Value) (σ : mS) : Xx D n_L_law 1759 [.ref 300, .ref 0, .ref 200, .int x3] st σ = (bif mIn (x3 + (1 : Int32)) ((σ.1 299 0).toNatClampNeg) then Xx D n_L_law 1765 [.ref 300, .ref 0, .ref 200, .int x3] (.int (σ.1 300 ((x3 + (1 : Int32)) : Int32).toNatClampNeg) :: .ref 200 :: st) σ else none) := (Xx_go D n_L_law (fun p => Nat.beq p 1765) 6 _ _ _ _).trans rfl
set_option maxRecDepth 100000 in
set_option maxHeartbeats 4000000 in
theorem u_1765 (D : Nat) (x3 : Int32) (st : List Value) (σ : mS) : Xx D n_L_law 1765 [.ref 300, .ref 0, .ref 200, .int x3] st σ = (bif mIn (x3 + (2 : Int32)) ((σ.1 299 0).toNatClampNeg) then Xx D n_L_law 1770 [.ref 300, .ref 0, .ref 200, .int x3] (.int (σ.1 300 ((x3 + (2 : Int32)) : Int32).toNatClampNeg) :: st) σ else none) := (Xx_go D n_L_law (fun p => Nat.beq p 1770) 5 _ _ _ _).trans rfl
set_option maxRecDepth 100000 in
set_option maxHeartbeats 4000000 in
theorem u_1770 (D : Nat) (x3 : Int32) (v1 : Int32) (v2 : Int32) (r : Int32) (σ : mS) : Xx D n_L_law 1770 [.ref 300, .ref 0, .ref 200, .int x3] (.int v2 :: .int v1 :: .ref 200 :: [.int r]) σ = (mBI (Cc D n_M_surely [.ref 200, .int v1, .int v2, .null, .null, .null] σ) fun r4 τ => Xx D n_L_law 1773 [.ref 300, .ref 0, .ref 200, .int x3] [.int r4, .int r] τ) := (Xx_go D n_L_law (fun p => Nat.beq p 1773) 1 _ _ _ _).trans rfl
set_option maxRecDepth 100000 in
set_option maxHeartbeats 4000000 in
theorem u_1773 (D : Nat) (x3 : Int32) (r r4 : Int32) (σ : mS) : Xx D n_L_law 1773 [.ref 300, .ref 0, .ref 200, .int x3] [.int r4, .int r] σ = (bif decide ((r : Int32) = r4) then Xx D n_L_law 2639 [.ref 300, .ref 0, .ref 200, .int x3] [] σ else (some (.int 0, σ))) := (Xx_go D n_L_law (fun p => Nat.beq p 2639) 3 _ _ _ _).trans rfl
set_option maxRecDepth 100000 in
set_option maxHeartbeats 4000000 in
theorem u_1778 (D : Nat) (x3 : Int32) (st : List Value) (σ : mS) : Xx D n_L_law 1778 [.ref 300, .ref 0, .ref 200, .int x3] st σ = (bif mIn (x3 + (1 : Int32)) ((σ.1 299 0).toNatClampNeg) then Xx D n_L_law 1784 [.ref 300, .ref 0, .ref 200, .int x3] (.int (σ.1 300 ((x3 + (1 : Int32)) : Int32).toNatClampNeg) :: .ref 0 :: st) σ else none) := (Xx_go D n_L_law (fun p => Nat.beq p 1784) 6 _ _ _ _).trans rfl
set_option maxRecDepth 100000 in
set_option maxHeartbeats 4000000 in
theorem u_1784 (D : Nat) (x3 : Int32) (st : List Value) (σ : mS) : Xx D n_L_law 1784 [.ref 300, .ref 0, .ref 200, .int x3] st σ = (bif mIn (x3 + (2 : Int32)) ((σ.1 299 0).toNatClampNeg) then Xx D n_L_law 1789 [.ref 300, .ref 0, .ref 200, .int x3] (.int (σ.1 300 ((x3 + (2 : Int32)) : Int32).toNatClampNeg) :: st) σ else none) := (Xx_go D n_L_law (fun p => Nat.beq p 1789) 5 _ _ _ _).trans rfl
set_option maxRecDepth 100000 in
set_option maxHeartbeats 4000000 in
theorem u_1789 (D : Nat) (x3 : Int32) (v1 : Int32) (v2 : Int32) (σ : mS) : Xx D n_L_law 1789 [.ref 300, .ref 0, .ref 200, .int x3] (.int v2 :: .int v1 :: .ref 0 :: []) σ = (mBI (Cc D n_E_never [.ref 0, .int v1, .int v2, .null] σ) fun r τ => Xx D n_L_law 1792 [.ref 300, .ref 0, .ref 200, .int x3] [.int r] τ) := (Xx_go D n_L_law (fun p => Nat.beq p 1792) 1 _ _ _ _).trans rfl
set_option maxRecDepth 100000 in
set_option maxHeartbeats 4000000 in
theorem u_1792 (D : Nat) (x3 : Int32) (st : List Value) (σ : mS) : Xx D n_L_law 1792 [.ref 300, .ref 0, .ref 200, .int x3] st σ = (bif mIn (x3 + (1 : Int32)) ((σ.1 299 0).toNatClampNeg) then Xx D n_L_law 1798 [.ref 300, .ref 0, .ref 200, .int x3] (.int (σ.1 300 ((x3 + (1 : Int32)) : Int32).toNatClampNeg) :: .ref 200 :: st) σ else none) := (Xx_go D n_L_law (fun p => Nat.beq p 1798) 6 _ _ _ _).trans rfl
set_option maxRecDepth 100000 in
set_option maxHeartbeats 4000000 in
theorem u_1798 (D : Nat) (x3 : Int32) (st : List Value) (σ : mS) : Xx D n_L_law 1798 [.ref 300, .ref 0, .ref 200, .int x3] st σ = (bif mIn (x3 + (2 : Int32)) ((σ.1 299 0).toNatClampNeg) then Xx D n_L_law 1803 [.ref 300, .ref 0, .ref 200, .int x3] (.int (σ.1 300 ((x3 + (2 : Int32)) : Int32).toNatClampNeg) :: st) σ else none) := (Xx_go D n_L_law (fun p => Nat.beq p 1803) 5 _ _ _ _).trans rfl
set_option maxRecDepth 100000 in
set_option maxHeartbeats 4000000 in
theorem u_1803 (D : Nat) (x3 : Int32) (v1 : Int32) (v2 : Int32) (r : Int32) (σ : mS) : Xx D n_L_law 1803 [.ref 300, .ref 0, .ref 200, .int x3] (.int v2 :: .int v1 :: .ref 200 :: [.int r]) σ = (mBI (Cc D n_M_never [.ref 200, .int v1, .int v2, .null, .null, .null] σ) fun r4 τ => Xx D n_L_law 1806 [.ref 300, .ref 0, .ref 200, .int x3] [.int r4, .int r] τ) := (Xx_go D n_L_law (fun p => Nat.beq p 1806) 1 _ _ _ _).trans rfl
set_option maxRecDepth 100000 in
set_option maxHeartbeats 4000000 in
theorem u_1806 (D : Nat) (x3 : Int32) (r r4 : Int32) (σ : mS) : Xx D n_L_law 1806 [.ref 300, .ref 0, .ref 200, .int x3] [.int r4, .int r] σ = (bif decide ((r : Int32) = r4) then Xx D n_L_law 2639 [.ref 300, .ref 0, .ref 200, .int x3] [] σ else (some (.int 0, σ))) := (Xx_go D n_L_law (fun p => Nat.beq p 2639) 3 _ _ _ _).trans rfl
set_option maxRecDepth 100000 in
set_option maxHeartbeats 4000000 in
theorem u_1811 (D : Nat) (x3 : Int32) (st : List Value) (σ : mS) : Xx D n_L_law 1811 [.ref 300, .ref 0, .ref 200, .int x3] st σ = (bif mIn (x3 + (1 : Int32)) ((σ.1 299 0).toNatClampNeg) then Xx D n_L_law 1817 [.ref 300, .ref 0, .ref 200, .int x3] (.int (σ.1 300 ((x3 + (1 : Int32)) : Int32).toNatClampNeg) :: .ref 0 :: st) σ else none) := (Xx_go D n_L_law (fun p => Nat.beq p 1817) 6 _ _ _ _).trans rfl
set_option maxRecDepth 100000 in
set_option maxHeartbeats 4000000 in
theorem u_1817 (D : Nat) (x3 : Int32) (st : List Value) (σ : mS) : Xx D n_L_law 1817 [.ref 300, .ref 0, .ref 200, .int x3] st σ = (bif mIn (x3 + (2 : Int32)) ((σ.1 299 0).toNatClampNeg) then Xx D n_L_law 1822 [.ref 300, .ref 0, .ref 200, .int x3] (.int (σ.1 300 ((x3 + (2 : Int32)) : Int32).toNatClampNeg) :: st) σ else none) := (Xx_go D n_L_law (fun p => Nat.beq p 1822) 5 _ _ _ _).trans rfl
set_option maxRecDepth 100000 in
set_option maxHeartbeats 4000000 in
theorem u_1822 (D : Nat) (x3 : Int32) (v1 : Int32) (v2 : Int32) (σ : mS) : Xx D n_L_law 1822 [.ref 300, .ref 0, .ref 200, .int x3] (.int v2 :: .int v1 :: .ref 0 :: []) σ = (mBI (Cc D n_E_ask [.ref 0, .int v1, .int v2, .null] σ) fun r τ => Xx D n_L_law 1825 [.ref 300, .ref 0, .ref 200, .int x3] [.int r] τ) := (Xx_go D n_L_law (fun p => Nat.beq p 1825) 1 _ _ _ _).trans rfl
set_option maxRecDepth 100000 in
set_option maxHeartbeats 4000000 in
theorem u_1825 (D : Nat) (x3 : Int32) (st : List Value) (σ : mS) : Xx D n_L_law 1825 [.ref 300, .ref 0, .ref 200, .int x3] st σ = (bif mIn (x3 + (1 : Int32)) ((σ.1 299 0).toNatClampNeg) then Xx D n_L_law 1831 [.ref 300, .ref 0, .ref 200, .int x3] (.int (σ.1 300 ((x3 + (1 : Int32)) : Int32).toNatClampNeg) :: .ref 200 :: st) σ else none) := (Xx_go D n_L_law (fun p => Nat.beq p 1831) 6 _ _ _ _).trans rfl
set_option maxRecDepth 100000 in
set_option maxHeartbeats 4000000 in
theorem u_1831 (D : Nat) (x3 : Int32) (st : List Value) (σ : mS) : Xx D n_L_law 1831 [.ref 300, .ref 0, .ref 200, .int x3] st σ = (bif mIn (x3 + (2 : Int32)) ((σ.1 299 0).toNatClampNeg) then Xx D n_L_law 1836 [.ref 300, .ref 0, .ref 200, .int x3] (.int (σ.1 300 ((x3 + (2 : Int32)) : Int32).toNatClampNeg) :: st) σ else none) := (Xx_go D n_L_law (fun p => Nat.beq p 1836) 5 _ _ _ _).trans rfl
set_option maxRecDepth 100000 in
set_option maxHeartbeats 4000000 in
theorem u_1836 (D : Nat) (x3 : Int32) (v1 : Int32) (v2 : Int32) (r : Int32) (σ : mS) : Xx D n_L_law 1836 [.ref 300, .ref 0, .ref 200, .int x3] (.int v2 :: .int v1 :: .ref 200 :: [.int r]) σ = (mBI (Cc D n_M_ask [.ref 200, .int v1, .int v2, .null] σ) fun r4 τ => Xx D n_L_law 1839 [.ref 300, .ref 0, .ref 200, .int x3] [.int r4, .int r] τ) := (Xx_go D n_L_law (fun p => Nat.beq p 1839) 1 _ _ _ _).trans rfl
set_option maxRecDepth 100000 in
set_option maxHeartbeats 4000000 in
theorem u_1839 (D : Nat) (x3 : Int32) (r r4 : Int32) (σ : mS) : Xx D n_L_law 1839 [.ref 300, .ref 0, .ref 200, .int x3] [.int r4, .int r] σ = (bif decide ((r : Int32) = r4) then Xx D n_L_law 2639 [.ref 300, .ref 0, .ref 200, .int x3] [] σ else (some (.int 0, σ))) := (Xx_go D n_L_law (fun p => Nat.beq p 2639) 3 _ _ _ _).trans rfl
set_option maxRecDepth 100000 in
set_option maxHeartbeats 4000000 in
theorem u_1844 (D : Nat) (x3 : Int32) (st : List Value) (σ : mS) : Xx D n_L_law 1844 [.ref 300, .ref 0, .ref 200, .int x3] st σ = (bif mIn (x3 + (1 : Int32)) ((σ.1 299 0).toNatClampNeg) then Xx D n_L_law 1850 [.ref 300, .ref 0, .ref 200, .int x3] (.int (σ.1 300 ((x3 + (1 : Int32)) : Int32).toNatClampNeg) :: .ref 0 :: st) σ else none) := (Xx_go D n_L_law (fun p => Nat.beq p 1850) 6 _ _ _ _).trans rfl
set_option maxRecDepth 100000 in
set_option maxHeartbeats 4000000 in
theorem u_1850 (D : Nat) (x3 : Int32) (st : List Value) (σ : mS) : Xx D n_L_law 1850 [.ref 300, .ref 0, .ref 200, .int x3] st σ = (bif mIn (x3 + (2 : Int32)) ((σ.1 299 0).toNatClampNeg) then Xx D n_L_law 1855 [.ref 300, .ref 0, .ref 200, .int x3] (.int (σ.1 300 ((x3 + (2 : Int32)) : Int32).toNatClampNeg) :: st) σ else none) := (Xx_go D n_L_law (fun p => Nat.beq p 1855) 5 _ _ _ _).trans rfl
set_option maxRecDepth 100000 in
set_option maxHeartbeats 4000000 in
theorem u_1855 (D : Nat) (x3 : Int32) (v1 : Int32) (v2 : Int32) (σ : mS) : Xx D n_L_law 1855 [.ref 300, .ref 0, .ref 200, .int x3] (.int v2 :: .int v1 :: .ref 0 :: []) σ = (mBI (Cc D n_E_leaves [.ref 0, .int v1, .int v2, .null, .null] σ) fun r τ => Xx D n_L_law 1858 [.ref 300, .ref 0, .ref 200, .int x3] [.int r] τ) := (Xx_go D n_L_law (fun p => Nat.beq p 1858) 1 _ _ _ _).trans rfl
set_option maxRecDepth 100000 in
set_option maxHeartbeats 4000000 in
theorem u_1858 (D : Nat) (x3 : Int32) (st : List Value) (σ : mS) : Xx D n_L_law 1858 [.ref 300, .ref 0, .ref 200, .int x3] st σ = (bif mIn (x3 + (1 : Int32)) ((σ.1 299 0).toNatClampNeg) then Xx D n_L_law 1864 [.ref 300, .ref 0, .ref 200, .int x3] (.int (σ.1 300 ((x3 + (1 : Int32)) : Int32).toNatClampNeg) :: .ref 200 :: st) σ else none) := (Xx_go D n_L_law (fun p => Nat.beq p 1864) 6 _ _ _ _).trans rfl
set_option maxRecDepth 100000 in
set_option maxHeartbeats 4000000 in
theorem u_1864 (D : Nat) (x3 : Int32) (st : List Value) (σ : mS) : Xx D n_L_law 1864 [.ref 300, .ref 0, .ref 200, .int x3] st σ = (bif mIn (x3 + (2 : Int32)) ((σ.1 299 0).toNatClampNeg) then Xx D n_L_law 1869 [.ref 300, .ref 0, .ref 200, .int x3] (.int (σ.1 300 ((x3 + (2 : Int32)) : Int32).toNatClampNeg) :: st) σ else none) := (Xx_go D n_L_law (fun p => Nat.beq p 1869) 5 _ _ _ _).trans rfl
set_option maxRecDepth 100000 in
set_option maxHeartbeats 4000000 in
theorem u_1869 (D : Nat) (x3 : Int32) (v1 : Int32) (v2 : Int32) (r : Int32) (σ : mS) : Xx D n_L_law 1869 [.ref 300, .ref 0, .ref 200, .int x3] (.int v2 :: .int v1 :: .ref 200 :: [.int r]) σ = (mBI (Cc D n_M_leaves [.ref 200, .int v1, .int v2, .null] σ) fun r4 τ => Xx D n_L_law 1872 [.ref 300, .ref 0, .ref 200, .int x3] [.int r4, .int r] τ) := (Xx_go D n_L_law (fun p => Nat.beq p 1872) 1 _ _ _ _).trans rfl
set_option maxRecDepth 100000 in
set_option maxHeartbeats 4000000 in
theorem u_1872 (D : Nat) (x3 : Int32) (r r4 : Int32) (σ : mS) : Xx D n_L_law 1872 [.ref 300, .ref 0, .ref 200, .int x3] [.int r4, .int r] σ = (bif decide ((r : Int32) = r4) then Xx D n_L_law 2639 [.ref 300, .ref 0, .ref 200, .int x3] [] σ else (some (.int 0, σ))) := (Xx_go D n_L_law (fun p => Nat.beq p 2639) 3 _ _ _ _).trans rfl
set_option maxRecDepth 100000 in
set_option maxHeartbeats 4000000 in
theorem q_L_law_1877 (D : Nat) (x3 : Int32) (σ : mS) : Xx D n_L_law 1877 [.ref 300, .ref 0, .ref 200, .int x3] [] σ = (bif mIn (x3 + (1 : Int32)) ((σ.1 299 0).toNatClampNeg) then (mBI (Cc D n_E_laws [.ref 0, .int (σ.1 300 ((x3 + (1 : Int32)) : Int32).toNatClampNeg), .null, .null] σ) fun r2 τ1 => (bif mIn (x3 + (1 : Int32)) ((τ1.1 299 0).toNatClampNeg) then (mBI (Cc D n_M_laws [.ref 200, .int (τ1.1 300 ((x3 + (1 : Int32)) : Int32).toNatClampNeg), .null, .null] τ1) fun r4 τ3 => (bif decide ((r2 : Int32) = r4) then Xx D n_L_law 2639 [.ref 300, .ref 0, .ref 200, .int x3] [] τ3 else (some (.int 0, τ3)))) else none)) else none) := (Xx_go D n_L_law (fun p => Nat.beq p 2639) 17 _ _ _ _).trans rfl
set_option maxRecDepth 100000 in
set_option maxHeartbeats 4000000 in
theorem u_1900 (D : Nat) (x3 : Int32) (st : List Value) (σ : mS) : Xx D n_L_law 1900 [.ref 300, .ref 0, .ref 200, .int x3] st σ = (bif mIn (x3 + (1 : Int32)) ((σ.1 299 0).toNatClampNeg) then Xx D n_L_law 1906 [.ref 300, .ref 0, .ref 200, .int x3] (.int (σ.1 300 ((x3 + (1 : Int32)) : Int32).toNatClampNeg) :: .ref 0 :: st) σ else none) := (Xx_go D n_L_law (fun p => Nat.beq p 1906) 6 _ _ _ _).trans rfl
set_option maxRecDepth 100000 in
set_option maxHeartbeats 4000000 in
theorem u_1906 (D : Nat) (x3 : Int32) (st : List Value) (σ : mS) : Xx D n_L_law 1906 [.ref 300, .ref 0, .ref 200, .int x3] st σ = (bif mIn (x3 + (2 : Int32)) ((σ.1 299 0).toNatClampNeg) then Xx D n_L_law 1911 [.ref 300, .ref 0, .ref 200, .int x3] (.int (σ.1 300 ((x3 + (2 : Int32)) : Int32).toNatClampNeg) :: st) σ else none) := (Xx_go D n_L_law (fun p => Nat.beq p 1911) 5 _ _ _ _).trans rfl
set_option maxRecDepth 100000 in
set_option maxHeartbeats 4000000 in
theorem u_1911 (D : Nat) (x3 : Int32) (st : List Value) (σ : mS) : Xx D n_L_law 1911 [.ref 300, .ref 0, .ref 200, .int x3] st σ = (bif mIn (x3 + (3 : Int32)) ((σ.1 299 0).toNatClampNeg) then Xx D n_L_law 1916 [.ref 300, .ref 0, .ref 200, .int x3] (.int (σ.1 300 ((x3 + (3 : Int32)) : Int32).toNatClampNeg) :: st) σ else none) := (Xx_go D n_L_law (fun p => Nat.beq p 1916) 5 _ _ _ _).trans rfl
set_option maxRecDepth 100000 in
set_option maxHeartbeats 4000000 in
theorem u_1916 (D : Nat) (x3 : Int32) (v1 : Int32) (v2 : Int32) (v3 : Int32) (σ : mS) : Xx D n_L_law 1916 [.ref 300, .ref 0, .ref 200, .int x3] (.int v3 :: .int v2 :: .int v1 :: .ref 0 :: []) σ = (mBI (Cc D n_E_worth [.ref 0, .int v1, .int v2, .int v3] σ) fun r τ => Xx D n_L_law 1919 [.ref 300, .ref 0, .ref 200, .int x3] [.int r] τ) := (Xx_go D n_L_law (fun p => Nat.beq p 1919) 1 _ _ _ _).trans rfl
set_option maxRecDepth 100000 in
set_option maxHeartbeats 4000000 in
theorem u_1919 (D : Nat) (x3 : Int32) (st : List Value) (σ : mS) : Xx D n_L_law 1919 [.ref 300, .ref 0, .ref 200, .int x3] st σ = (bif mIn (x3 + (1 : Int32)) ((σ.1 299 0).toNatClampNeg) then Xx D n_L_law 1925 [.ref 300, .ref 0, .ref 200, .int x3] (.int (σ.1 300 ((x3 + (1 : Int32)) : Int32).toNatClampNeg) :: .ref 200 :: st) σ else none) := (Xx_go D n_L_law (fun p => Nat.beq p 1925) 6 _ _ _ _).trans rfl
set_option maxRecDepth 100000 in
set_option maxHeartbeats 4000000 in
theorem u_1925 (D : Nat) (x3 : Int32) (st : List Value) (σ : mS) : Xx D n_L_law 1925 [.ref 300, .ref 0, .ref 200, .int x3] st σ = (bif mIn (x3 + (2 : Int32)) ((σ.1 299 0).toNatClampNeg) then Xx D n_L_law 1930 [.ref 300, .ref 0, .ref 200, .int x3] (.int (σ.1 300 ((x3 + (2 : Int32)) : Int32).toNatClampNeg) :: st) σ else none) := (Xx_go D n_L_law (fun p => Nat.beq p 1930) 5 _ _ _ _).trans rfl
set_option maxRecDepth 100000 in
set_option maxHeartbeats 4000000 in
theorem u_1930 (D : Nat) (x3 : Int32) (st : List Value) (σ : mS) : Xx D n_L_law 1930 [.ref 300, .ref 0, .ref 200, .int x3] st σ = (bif mIn (x3 + (3 : Int32)) ((σ.1 299 0).toNatClampNeg) then Xx D n_L_law 1935 [.ref 300, .ref 0, .ref 200, .int x3] (.int (σ.1 300 ((x3 + (3 : Int32)) : Int32).toNatClampNeg) :: st) σ else none) := (Xx_go D n_L_law (fun p => Nat.beq p 1935) 5 _ _ _ _).trans rfl
set_option maxRecDepth 100000 in
set_option maxHeartbeats 4000000 in
theorem u_1935 (D : Nat) (x3 : Int32) (v1 : Int32) (v2 : Int32) (v3 : Int32) (r : Int32) (σ : mS) : Xx D n_L_law 1935 [.ref 300, .ref 0, .ref 200, .int x3] (.int v3 :: .int v2 :: .int v1 :: .ref 200 :: [.int r]) σ = (mBI (Cc D n_M_worth [.ref 200, .int v1, .int v2, .int v3] σ) fun r4 τ => Xx D n_L_law 1938 [.ref 300, .ref 0, .ref 200, .int x3] [.int r4, .int r] τ) := (Xx_go D n_L_law (fun p => Nat.beq p 1938) 1 _ _ _ _).trans rfl
set_option maxRecDepth 100000 in
set_option maxHeartbeats 4000000 in
theorem u_1938 (D : Nat) (x3 : Int32) (r r4 : Int32) (σ : mS) : Xx D n_L_law 1938 [.ref 300, .ref 0, .ref 200, .int x3] [.int r4, .int r] σ = (bif decide ((r : Int32) = r4) then Xx D n_L_law 2639 [.ref 300, .ref 0, .ref 200, .int x3] [] σ else (some (.int 0, σ))) := (Xx_go D n_L_law (fun p => Nat.beq p 2639) 3 _ _ _ _).trans rfl
set_option maxRecDepth 100000 in
set_option maxHeartbeats 4000000 in
theorem u_1943 (D : Nat) (x3 : Int32) (st : List Value) (σ : mS) : Xx D n_L_law 1943 [.ref 300, .ref 0, .ref 200, .int x3] st σ = (bif mIn (x3 + (1 : Int32)) ((σ.1 299 0).toNatClampNeg) then Xx D n_L_law 1949 [.ref 300, .ref 0, .ref 200, .int x3] (.int (σ.1 300 ((x3 + (1 : Int32)) : Int32).toNatClampNeg) :: .ref 0 :: st) σ else none) := (Xx_go D n_L_law (fun p => Nat.beq p 1949) 6 _ _ _ _).trans rfl
set_option maxRecDepth 100000 in
set_option maxHeartbeats 4000000 in
theorem u_1949 (D : Nat) (x3 : Int32) (st : List Value) (σ : mS) : Xx D n_L_law 1949 [.ref 300, .ref 0, .ref 200, .int x3] st σ = (bif mIn (x3 + (2 : Int32)) ((σ.1 299 0).toNatClampNeg) then Xx D n_L_law 1954 [.ref 300, .ref 0, .ref 200, .int x3] (.int (σ.1 300 ((x3 + (2 : Int32)) : Int32).toNatClampNeg) :: st) σ else none) := (Xx_go D n_L_law (fun p => Nat.beq p 1954) 5 _ _ _ _).trans rfl
set_option maxRecDepth 100000 in
set_option maxHeartbeats 4000000 in
theorem u_1954 (D : Nat) (x3 : Int32) (st : List Value) (σ : mS) : Xx D n_L_law 1954 [.ref 300, .ref 0, .ref 200, .int x3] st σ = (bif mIn (x3 + (3 : Int32)) ((σ.1 299 0).toNatClampNeg) then Xx D n_L_law 1959 [.ref 300, .ref 0, .ref 200, .int x3] (.int (σ.1 300 ((x3 + (3 : Int32)) : Int32).toNatClampNeg) :: st) σ else none) := (Xx_go D n_L_law (fun p => Nat.beq p 1959) 5 _ _ _ _).trans rfl
set_option maxRecDepth 100000 in
set_option maxHeartbeats 4000000 in
theorem u_1959 (D : Nat) (x3 : Int32) (st : List Value) (σ : mS) : Xx D n_L_law 1959 [.ref 300, .ref 0, .ref 200, .int x3] st σ = (bif mIn (x3 + (4 : Int32)) ((σ.1 299 0).toNatClampNeg) then Xx D n_L_law 1964 [.ref 300, .ref 0, .ref 200, .int x3] (.int (σ.1 300 ((x3 + (4 : Int32)) : Int32).toNatClampNeg) :: st) σ else none) := (Xx_go D n_L_law (fun p => Nat.beq p 1964) 5 _ _ _ _).trans rfl
set_option maxRecDepth 100000 in
set_option maxHeartbeats 4000000 in
theorem u_1964 (D : Nat) (x3 : Int32) (v1 : Int32) (v2 : Int32) (v3 : Int32) (v4 : Int32) (σ : mS) : Xx D n_L_law 1964 [.ref 300, .ref 0, .ref 200, .int x3] (.int v4 :: .int v3 :: .int v2 :: .int v1 :: .ref 0 :: []) σ = (mBI (Cc D n_E_share [.ref 0, .int v1, .int v2, .int v3, .int v4, .null, .null, .null, .null, .null, .null, .null] σ) fun r τ => Xx D n_L_law 1967 [.ref 300, .ref 0, .ref 200, .int x3] [.int r] τ) := (Xx_go D n_L_law (fun p => Nat.beq p 1967) 1 _ _ _ _).trans rfl
set_option maxRecDepth 100000 in
set_option maxHeartbeats 4000000 in
theorem u_1967 (D : Nat) (x3 : Int32) (st : List Value) (σ : mS) : Xx D n_L_law 1967 [.ref 300, .ref 0, .ref 200, .int x3] st σ = (bif mIn (x3 + (1 : Int32)) ((σ.1 299 0).toNatClampNeg) then Xx D n_L_law 1973 [.ref 300, .ref 0, .ref 200, .int x3] (.int (σ.1 300 ((x3 + (1 : Int32)) : Int32).toNatClampNeg) :: .ref 200 :: st) σ else none) := (Xx_go D n_L_law (fun p => Nat.beq p 1973) 6 _ _ _ _).trans rfl
set_option maxRecDepth 100000 in
set_option maxHeartbeats 4000000 in
theorem u_1973 (D : Nat) (x3 : Int32) (st : List Value) (σ : mS) : Xx D n_L_law 1973 [.ref 300, .ref 0, .ref 200, .int x3] st σ = (bif mIn (x3 + (2 : Int32)) ((σ.1 299 0).toNatClampNeg) then Xx D n_L_law 1978 [.ref 300, .ref 0, .ref 200, .int x3] (.int (σ.1 300 ((x3 + (2 : Int32)) : Int32).toNatClampNeg) :: st) σ else none) := (Xx_go D n_L_law (fun p => Nat.beq p 1978) 5 _ _ _ _).trans rfl
set_option maxRecDepth 100000 in
set_option maxHeartbeats 4000000 in
theorem u_1978 (D : Nat) (x3 : Int32) (st : List Value) (σ : mS) : Xx D n_L_law 1978 [.ref 300, .ref 0, .ref 200, .int x3] st σ = (bif mIn (x3 + (3 : Int32)) ((σ.1 299 0).toNatClampNeg) then Xx D n_L_law 1983 [.ref 300, .ref 0, .ref 200, .int x3] (.int (σ.1 300 ((x3 + (3 : Int32)) : Int32).toNatClampNeg) :: st) σ else none) := (Xx_go D n_L_law (fun p => Nat.beq p 1983) 5 _ _ _ _).trans rfl
set_option maxRecDepth 100000 in
set_option maxHeartbeats 4000000 in
theorem u_1983 (D : Nat) (x3 : Int32) (st : List Value) (σ : mS) : Xx D n_L_law 1983 [.ref 300, .ref 0, .ref 200, .int x3] st σ = (bif mIn (x3 + (4 : Int32)) ((σ.1 299 0).toNatClampNeg) then Xx D n_L_law 1988 [.ref 300, .ref 0, .ref 200, .int x3] (.int (σ.1 300 ((x3 + (4 : Int32)) : Int32).toNatClampNeg) :: st) σ else none) := (Xx_go D n_L_law (fun p => Nat.beq p 1988) 5 _ _ _ _).trans rfl
set_option maxRecDepth 100000 in
set_option maxHeartbeats 4000000 in
theorem u_1988 (D : Nat) (x3 : Int32) (v1 : Int32) (v2 : Int32) (v3 : Int32) (v4 : Int32) (r : Int32) (σ : mS) : Xx D n_L_law 1988 [.ref 300, .ref 0, .ref 200, .int x3] (.int v4 :: .int v3 :: .int v2 :: .int v1 :: .ref 200 :: [.int r]) σ = (mBI (Cc D n_M_share [.ref 200, .int v1, .int v2, .int v3, .int v4, .null, .null, .null] σ) fun r4 τ => Xx D n_L_law 1991 [.ref 300, .ref 0, .ref 200, .int x3] [.int r4, .int r] τ) := (Xx_go D n_L_law (fun p => Nat.beq p 1991) 1 _ _ _ _).trans rfl
set_option maxRecDepth 100000 in
set_option maxHeartbeats 4000000 in
theorem u_1991 (D : Nat) (x3 : Int32) (r r4 : Int32) (σ : mS) : Xx D n_L_law 1991 [.ref 300, .ref 0, .ref 200, .int x3] [.int r4, .int r] σ = (bif decide ((r : Int32) = r4) then Xx D n_L_law 2639 [.ref 300, .ref 0, .ref 200, .int x3] [] σ else (some (.int 0, σ))) := (Xx_go D n_L_law (fun p => Nat.beq p 2639) 3 _ _ _ _).trans rfl
set_option maxRecDepth 100000 in
set_option maxHeartbeats 4000000 in
theorem u_1996 (D : Nat) (x3 : Int32) (st : List Value) (σ : mS) : Xx D n_L_law 1996 [.ref 300, .ref 0, .ref 200, .int x3] st σ = (bif mIn (x3 + (1 : Int32)) ((σ.1 299 0).toNatClampNeg) then Xx D n_L_law 2002 [.ref 300, .ref 0, .ref 200, .int x3] (.int (σ.1 300 ((x3 + (1 : Int32)) : Int32).toNatClampNeg) :: .ref 0 :: st) σ else none) := (Xx_go D n_L_law (fun p => Nat.beq p 2002) 6 _ _ _ _).trans rfl
set_option maxRecDepth 100000 in
set_option maxHeartbeats 4000000 in
theorem u_2002 (D : Nat) (x3 : Int32) (st : List Value) (σ : mS) : Xx D n_L_law 2002 [.ref 300, .ref 0, .ref 200, .int x3] st σ = (bif mIn (x3 + (2 : Int32)) ((σ.1 299 0).toNatClampNeg) then Xx D n_L_law 2007 [.ref 300, .ref 0, .ref 200, .int x3] (.int (σ.1 300 ((x3 + (2 : Int32)) : Int32).toNatClampNeg) :: st) σ else none) := (Xx_go D n_L_law (fun p => Nat.beq p 2007) 5 _ _ _ _).trans rfl
set_option maxRecDepth 100000 in
set_option maxHeartbeats 4000000 in
theorem u_2007 (D : Nat) (x3 : Int32) (v1 : Int32) (v2 : Int32) (σ : mS) : Xx D n_L_law 2007 [.ref 300, .ref 0, .ref 200, .int x3] (.int v2 :: .int v1 :: .ref 0 :: []) σ = (mBI (Cc D n_E_rests [.ref 0, .int v1, .int v2, .null, .null, .null] σ) fun r τ => Xx D n_L_law 2010 [.ref 300, .ref 0, .ref 200, .int x3] [.int r] τ) := (Xx_go D n_L_law (fun p => Nat.beq p 2010) 1 _ _ _ _).trans rfl
set_option maxRecDepth 100000 in
set_option maxHeartbeats 4000000 in
theorem u_2010 (D : Nat) (x3 : Int32) (st : List Value) (σ : mS) : Xx D n_L_law 2010 [.ref 300, .ref 0, .ref 200, .int x3] st σ = (bif mIn (x3 + (1 : Int32)) ((σ.1 299 0).toNatClampNeg) then Xx D n_L_law 2016 [.ref 300, .ref 0, .ref 200, .int x3] (.int (σ.1 300 ((x3 + (1 : Int32)) : Int32).toNatClampNeg) :: .ref 200 :: st) σ else none) := (Xx_go D n_L_law (fun p => Nat.beq p 2016) 6 _ _ _ _).trans rfl
set_option maxRecDepth 100000 in
set_option maxHeartbeats 4000000 in
theorem u_2016 (D : Nat) (x3 : Int32) (st : List Value) (σ : mS) : Xx D n_L_law 2016 [.ref 300, .ref 0, .ref 200, .int x3] st σ = (bif mIn (x3 + (2 : Int32)) ((σ.1 299 0).toNatClampNeg) then Xx D n_L_law 2021 [.ref 300, .ref 0, .ref 200, .int x3] (.int (σ.1 300 ((x3 + (2 : Int32)) : Int32).toNatClampNeg) :: st) σ else none) := (Xx_go D n_L_law (fun p => Nat.beq p 2021) 5 _ _ _ _).trans rfl
set_option maxRecDepth 100000 in
set_option maxHeartbeats 4000000 in
theorem u_2021 (D : Nat) (x3 : Int32) (v1 : Int32) (v2 : Int32) (r : Int32) (σ : mS) : Xx D n_L_law 2021 [.ref 300, .ref 0, .ref 200, .int x3] (.int v2 :: .int v1 :: .ref 200 :: [.int r]) σ = (mBI (Cc D n_M_rests [.ref 200, .int v1, .int v2, .null, .null, .null, .null, .null] σ) fun r4 τ => Xx D n_L_law 2024 [.ref 300, .ref 0, .ref 200, .int x3] [.int r4, .int r] τ) := (Xx_go D n_L_law (fun p => Nat.beq p 2024) 1 _ _ _ _).trans rfl
set_option maxRecDepth 100000 in
set_option maxHeartbeats 4000000 in
theorem u_2024 (D : Nat) (x3 : Int32) (r r4 : Int32) (σ : mS) : Xx D n_L_law 2024 [.ref 300, .ref 0, .ref 200, .int x3] [.int r4, .int r] σ = (bif decide ((r : Int32) = r4) then Xx D n_L_law 2639 [.ref 300, .ref 0, .ref 200, .int x3] [] σ else (some (.int 0, σ))) := (Xx_go D n_L_law (fun p => Nat.beq p 2639) 3 _ _ _ _).trans rfl
set_option maxRecDepth 100000 in
set_option maxHeartbeats 4000000 in
theorem u_2029 (D : Nat) (x3 : Int32) (st : List Value) (σ : mS) : Xx D n_L_law 2029 [.ref 300, .ref 0, .ref 200, .int x3] st σ = (bif mIn (x3 + (1 : Int32)) ((σ.1 299 0).toNatClampNeg) then Xx D n_L_law 2035 [.ref 300, .ref 0, .ref 200, .int x3] (.int (σ.1 300 ((x3 + (1 : Int32)) : Int32).toNatClampNeg) :: .ref 0 :: st) σ else none) := (Xx_go D n_L_law (fun p => Nat.beq p 2035) 6 _ _ _ _).trans rfl
set_option maxRecDepth 100000 in
set_option maxHeartbeats 4000000 in
theorem u_2035 (D : Nat) (x3 : Int32) (st : List Value) (σ : mS) : Xx D n_L_law 2035 [.ref 300, .ref 0, .ref 200, .int x3] st σ = (bif mIn (x3 + (2 : Int32)) ((σ.1 299 0).toNatClampNeg) then Xx D n_L_law 2040 [.ref 300, .ref 0, .ref 200, .int x3] (.int (σ.1 300 ((x3 + (2 : Int32)) : Int32).toNatClampNeg) :: st) σ else none) := (Xx_go D n_L_law (fun p => Nat.beq p 2040) 5 _ _ _ _).trans rfl
set_option maxRecDepth 100000 in
set_option maxHeartbeats 4000000 in
theorem u_2040 (D : Nat) (x3 : Int32) (st : List Value) (σ : mS) : Xx D n_L_law 2040 [.ref 300, .ref 0, .ref 200, .int x3] st σ = (bif mIn (x3 + (3 : Int32)) ((σ.1 299 0).toNatClampNeg) then Xx D n_L_law 2045 [.ref 300, .ref 0, .ref 200, .int x3] (.int (σ.1 300 ((x3 + (3 : Int32)) : Int32).toNatClampNeg) :: st) σ else none) := (Xx_go D n_L_law (fun p => Nat.beq p 2045) 5 _ _ _ _).trans rfl
set_option maxRecDepth 100000 in
set_option maxHeartbeats 4000000 in
theorem u_2045 (D : Nat) (x3 : Int32) (st : List Value) (σ : mS) : Xx D n_L_law 2045 [.ref 300, .ref 0, .ref 200, .int x3] st σ = (bif mIn (x3 + (4 : Int32)) ((σ.1 299 0).toNatClampNeg) then Xx D n_L_law 2050 [.ref 300, .ref 0, .ref 200, .int x3] (.int (σ.1 300 ((x3 + (4 : Int32)) : Int32).toNatClampNeg) :: st) σ else none) := (Xx_go D n_L_law (fun p => Nat.beq p 2050) 5 _ _ _ _).trans rfl
set_option maxRecDepth 100000 in
set_option maxHeartbeats 4000000 in
theorem u_2050 (D : Nat) (x3 : Int32) (v1 : Int32) (v2 : Int32) (v3 : Int32) (v4 : Int32) (σ : mS) : Xx D n_L_law 2050 [.ref 300, .ref 0, .ref 200, .int x3] (.int v4 :: .int v3 :: .int v2 :: .int v1 :: .ref 0 :: []) σ = (mBI (Cc D n_E_wins [.ref 0, .int v1, .int v2, .int v3, .int v4, .null] σ) fun r τ => Xx D n_L_law 2053 [.ref 300, .ref 0, .ref 200, .int x3] [.int r] τ) := (Xx_go D n_L_law (fun p => Nat.beq p 2053) 1 _ _ _ _).trans rfl
set_option maxRecDepth 100000 in
set_option maxHeartbeats 4000000 in
theorem u_2053 (D : Nat) (x3 : Int32) (st : List Value) (σ : mS) : Xx D n_L_law 2053 [.ref 300, .ref 0, .ref 200, .int x3] st σ = (bif mIn (x3 + (1 : Int32)) ((σ.1 299 0).toNatClampNeg) then Xx D n_L_law 2059 [.ref 300, .ref 0, .ref 200, .int x3] (.int (σ.1 300 ((x3 + (1 : Int32)) : Int32).toNatClampNeg) :: .ref 200 :: st) σ else none) := (Xx_go D n_L_law (fun p => Nat.beq p 2059) 6 _ _ _ _).trans rfl
set_option maxRecDepth 100000 in
set_option maxHeartbeats 4000000 in
theorem u_2059 (D : Nat) (x3 : Int32) (st : List Value) (σ : mS) : Xx D n_L_law 2059 [.ref 300, .ref 0, .ref 200, .int x3] st σ = (bif mIn (x3 + (2 : Int32)) ((σ.1 299 0).toNatClampNeg) then Xx D n_L_law 2064 [.ref 300, .ref 0, .ref 200, .int x3] (.int (σ.1 300 ((x3 + (2 : Int32)) : Int32).toNatClampNeg) :: st) σ else none) := (Xx_go D n_L_law (fun p => Nat.beq p 2064) 5 _ _ _ _).trans rfl
set_option maxRecDepth 100000 in
set_option maxHeartbeats 4000000 in
theorem u_2064 (D : Nat) (x3 : Int32) (st : List Value) (σ : mS) : Xx D n_L_law 2064 [.ref 300, .ref 0, .ref 200, .int x3] st σ = (bif mIn (x3 + (3 : Int32)) ((σ.1 299 0).toNatClampNeg) then Xx D n_L_law 2069 [.ref 300, .ref 0, .ref 200, .int x3] (.int (σ.1 300 ((x3 + (3 : Int32)) : Int32).toNatClampNeg) :: st) σ else none) := (Xx_go D n_L_law (fun p => Nat.beq p 2069) 5 _ _ _ _).trans rfl
set_option maxRecDepth 100000 in
set_option maxHeartbeats 4000000 in
theorem u_2069 (D : Nat) (x3 : Int32) (st : List Value) (σ : mS) : Xx D n_L_law 2069 [.ref 300, .ref 0, .ref 200, .int x3] st σ = (bif mIn (x3 + (4 : Int32)) ((σ.1 299 0).toNatClampNeg) then Xx D n_L_law 2074 [.ref 300, .ref 0, .ref 200, .int x3] (.int (σ.1 300 ((x3 + (4 : Int32)) : Int32).toNatClampNeg) :: st) σ else none) := (Xx_go D n_L_law (fun p => Nat.beq p 2074) 5 _ _ _ _).trans rfl
set_option maxRecDepth 100000 in
set_option maxHeartbeats 4000000 in
theorem u_2074 (D : Nat) (x3 : Int32) (v1 : Int32) (v2 : Int32) (v3 : Int32) (v4 : Int32) (r : Int32) (σ : mS) : Xx D n_L_law 2074 [.ref 300, .ref 0, .ref 200, .int x3] (.int v4 :: .int v3 :: .int v2 :: .int v1 :: .ref 200 :: [.int r]) σ = (mBI (Cc D n_M_wins [.ref 200, .int v1, .int v2, .int v3, .int v4] σ) fun r4 τ => Xx D n_L_law 2077 [.ref 300, .ref 0, .ref 200, .int x3] [.int r4, .int r] τ) := (Xx_go D n_L_law (fun p => Nat.beq p 2077) 1 _ _ _ _).trans rfl
set_option maxRecDepth 100000 in
set_option maxHeartbeats 4000000 in
theorem u_2077 (D : Nat) (x3 : Int32) (r r4 : Int32) (σ : mS) : Xx D n_L_law 2077 [.ref 300, .ref 0, .ref 200, .int x3] [.int r4, .int r] σ = (bif decide ((r : Int32) = r4) then Xx D n_L_law 2639 [.ref 300, .ref 0, .ref 200, .int x3] [] σ else (some (.int 0, σ))) := (Xx_go D n_L_law (fun p => Nat.beq p 2639) 3 _ _ _ _).trans rfl
set_option maxRecDepth 100000 in
set_option maxHeartbeats 4000000 in
theorem u_2082 (D : Nat) (x3 : Int32) (st : List Value) (σ : mS) : Xx D n_L_law 2082 [.ref 300, .ref 0, .ref 200, .int x3] st σ = (bif mIn (x3 + (1 : Int32)) ((σ.1 299 0).toNatClampNeg) then Xx D n_L_law 2088 [.ref 300, .ref 0, .ref 200, .int x3] (.int (σ.1 300 ((x3 + (1 : Int32)) : Int32).toNatClampNeg) :: .ref 0 :: st) σ else none) := (Xx_go D n_L_law (fun p => Nat.beq p 2088) 6 _ _ _ _).trans rfl
set_option maxRecDepth 100000 in
set_option maxHeartbeats 4000000 in
theorem u_2088 (D : Nat) (x3 : Int32) (st : List Value) (σ : mS) : Xx D n_L_law 2088 [.ref 300, .ref 0, .ref 200, .int x3] st σ = (bif mIn (x3 + (2 : Int32)) ((σ.1 299 0).toNatClampNeg) then Xx D n_L_law 2093 [.ref 300, .ref 0, .ref 200, .int x3] (.int (σ.1 300 ((x3 + (2 : Int32)) : Int32).toNatClampNeg) :: st) σ else none) := (Xx_go D n_L_law (fun p => Nat.beq p 2093) 5 _ _ _ _).trans rfl
set_option maxRecDepth 100000 in
set_option maxHeartbeats 4000000 in
theorem u_2093 (D : Nat) (x3 : Int32) (st : List Value) (σ : mS) : Xx D n_L_law 2093 [.ref 300, .ref 0, .ref 200, .int x3] st σ = (bif mIn (x3 + (3 : Int32)) ((σ.1 299 0).toNatClampNeg) then Xx D n_L_law 2098 [.ref 300, .ref 0, .ref 200, .int x3] (.int (σ.1 300 ((x3 + (3 : Int32)) : Int32).toNatClampNeg) :: st) σ else none) := (Xx_go D n_L_law (fun p => Nat.beq p 2098) 5 _ _ _ _).trans rfl
set_option maxRecDepth 100000 in
set_option maxHeartbeats 4000000 in
theorem u_2098 (D : Nat) (x3 : Int32) (v1 : Int32) (v2 : Int32) (v3 : Int32) (σ : mS) : Xx D n_L_law 2098 [.ref 300, .ref 0, .ref 200, .int x3] (.int v3 :: .int v2 :: .int v1 :: .ref 0 :: []) σ = (mBL (Cc D n_E_chance [.ref 0, .int v1, .int v2, .int v3] σ) fun r τ => Xx D n_L_law 2101 [.ref 300, .ref 0, .ref 200, .int x3] [.long r] τ) := (Xx_go D n_L_law (fun p => Nat.beq p 2101) 1 _ _ _ _).trans rfl
set_option maxRecDepth 100000 in
set_option maxHeartbeats 4000000 in
theorem u_2101 (D : Nat) (x3 : Int32) (st : List Value) (σ : mS) : Xx D n_L_law 2101 [.ref 300, .ref 0, .ref 200, .int x3] st σ = (bif mIn (x3 + (1 : Int32)) ((σ.1 299 0).toNatClampNeg) then Xx D n_L_law 2107 [.ref 300, .ref 0, .ref 200, .int x3] (.int (σ.1 300 ((x3 + (1 : Int32)) : Int32).toNatClampNeg) :: .ref 200 :: st) σ else none) := (Xx_go D n_L_law (fun p => Nat.beq p 2107) 6 _ _ _ _).trans rfl
set_option maxRecDepth 100000 in
set_option maxHeartbeats 4000000 in
theorem u_2107 (D : Nat) (x3 : Int32) (st : List Value) (σ : mS) : Xx D n_L_law 2107 [.ref 300, .ref 0, .ref 200, .int x3] st σ = (bif mIn (x3 + (2 : Int32)) ((σ.1 299 0).toNatClampNeg) then Xx D n_L_law 2112 [.ref 300, .ref 0, .ref 200, .int x3] (.int (σ.1 300 ((x3 + (2 : Int32)) : Int32).toNatClampNeg) :: st) σ else none) := (Xx_go D n_L_law (fun p => Nat.beq p 2112) 5 _ _ _ _).trans rfl
set_option maxRecDepth 100000 in
set_option maxHeartbeats 4000000 in
theorem u_2112 (D : Nat) (x3 : Int32) (st : List Value) (σ : mS) : Xx D n_L_law 2112 [.ref 300, .ref 0, .ref 200, .int x3] st σ = (bif mIn (x3 + (3 : Int32)) ((σ.1 299 0).toNatClampNeg) then Xx D n_L_law 2117 [.ref 300, .ref 0, .ref 200, .int x3] (.int (σ.1 300 ((x3 + (3 : Int32)) : Int32).toNatClampNeg) :: st) σ else none) := (Xx_go D n_L_law (fun p => Nat.beq p 2117) 5 _ _ _ _).trans rfl
set_option maxRecDepth 100000 in
set_option maxHeartbeats 4000000 in
theorem u_2117 (D : Nat) (x3 : Int32) (v1 : Int32) (v2 : Int32) (v3 : Int32) (r : Int64) (σ : mS) : Xx D n_L_law 2117 [.ref 300, .ref 0, .ref 200, .int x3] (.int v3 :: .int v2 :: .int v1 :: .ref 200 :: [.long r]) σ = (mBL (Cc D n_M_chance [.ref 200, .int v1, .int v2, .int v3] σ) fun r4 τ => Xx D n_L_law 2120 [.ref 300, .ref 0, .ref 200, .int x3] [.long r4, .long r] τ) := (Xx_go D n_L_law (fun p => Nat.beq p 2120) 1 _ _ _ _).trans rfl
set_option maxRecDepth 100000 in
set_option maxHeartbeats 4000000 in
theorem u_2120 (D : Nat) (x3 : Int32) (r r4 : Int64) (σ : mS) : Xx D n_L_law 2120 [.ref 300, .ref 0, .ref 200, .int x3] [.long r4, .long r] σ = (bif decide (((lg_cmp r r4) : Int32) = 0) then Xx D n_L_law 2639 [.ref 300, .ref 0, .ref 200, .int x3] [] σ else (some (.int 0, σ))) := (Xx_go D n_L_law (fun p => Nat.beq p 2639) 4 _ _ _ _).trans rfl
set_option maxRecDepth 100000 in
set_option maxHeartbeats 4000000 in
theorem q_L_law_2126 (D : Nat) (x3 : Int32) (σ : mS) : Xx D n_L_law 2126 [.ref 300, .ref 0, .ref 200, .int x3] [] σ = (bif mIn (x3 + (1 : Int32)) ((σ.1 299 0).toNatClampNeg) then (mBL (Cc D n_E_mean [.ref 0, .int (σ.1 300 ((x3 + (1 : Int32)) : Int32).toNatClampNeg)] σ) fun r2 τ1 => (bif mIn (x3 + (1 : Int32)) ((τ1.1 299 0).toNatClampNeg) then (mBL (Cc D n_M_mean [.ref 200, .int (τ1.1 300 ((x3 + (1 : Int32)) : Int32).toNatClampNeg)] τ1) fun r4 τ3 => (bif decide (((lg_cmp r2 r4) : Int32) = 0) then Xx D n_L_law 2639 [.ref 300, .ref 0, .ref 200, .int x3] [] τ3 else (some (.int 0, τ3)))) else none)) else none) := (Xx_go D n_L_law (fun p => Nat.beq p 2639) 18 _ _ _ _).trans rfl
set_option maxRecDepth 100000 in
set_option maxHeartbeats 4000000 in
theorem u_2150 (D : Nat) (x3 : Int32) (st : List Value) (σ : mS) : Xx D n_L_law 2150 [.ref 300, .ref 0, .ref 200, .int x3] st σ = (bif mIn (x3 + (1 : Int32)) ((σ.1 299 0).toNatClampNeg) then Xx D n_L_law 2156 [.ref 300, .ref 0, .ref 200, .int x3] (.int (σ.1 300 ((x3 + (1 : Int32)) : Int32).toNatClampNeg) :: .ref 0 :: st) σ else none) := (Xx_go D n_L_law (fun p => Nat.beq p 2156) 6 _ _ _ _).trans rfl
set_option maxRecDepth 100000 in
set_option maxHeartbeats 4000000 in
theorem u_2156 (D : Nat) (x3 : Int32) (st : List Value) (σ : mS) : Xx D n_L_law 2156 [.ref 300, .ref 0, .ref 200, .int x3] st σ = (bif mIn (x3 + (2 : Int32)) ((σ.1 299 0).toNatClampNeg) then Xx D n_L_law 2161 [.ref 300, .ref 0, .ref 200, .int x3] (.int (σ.1 300 ((x3 + (2 : Int32)) : Int32).toNatClampNeg) :: st) σ else none) := (Xx_go D n_L_law (fun p => Nat.beq p 2161) 5 _ _ _ _).trans rfl
set_option maxRecDepth 100000 in
set_option maxHeartbeats 4000000 in
theorem u_2161 (D : Nat) (x3 : Int32) (st : List Value) (σ : mS) : Xx D n_L_law 2161 [.ref 300, .ref 0, .ref 200, .int x3] st σ = (bif mIn (x3 + (3 : Int32)) ((σ.1 299 0).toNatClampNeg) then Xx D n_L_law 2166 [.ref 300, .ref 0, .ref 200, .int x3] (.int (σ.1 300 ((x3 + (3 : Int32)) : Int32).toNatClampNeg) :: st) σ else none) := (Xx_go D n_L_law (fun p => Nat.beq p 2166) 5 _ _ _ _).trans rfl
set_option maxRecDepth 100000 in
set_option maxHeartbeats 4000000 in
theorem u_2166 (D : Nat) (x3 : Int32) (st : List Value) (σ : mS) : Xx D n_L_law 2166 [.ref 300, .ref 0, .ref 200, .int x3] st σ = (bif mIn (x3 + (4 : Int32)) ((σ.1 299 0).toNatClampNeg) then Xx D n_L_law 2171 [.ref 300, .ref 0, .ref 200, .int x3] (.int (σ.1 300 ((x3 + (4 : Int32)) : Int32).toNatClampNeg) :: st) σ else none) := (Xx_go D n_L_law (fun p => Nat.beq p 2171) 5 _ _ _ _).trans rfl
set_option maxRecDepth 100000 in
set_option maxHeartbeats 4000000 in
theorem u_2171 (D : Nat) (x3 : Int32) (v1 : Int32) (v2 : Int32) (v3 : Int32) (v4 : Int32) (σ : mS) : Xx D n_L_law 2171 [.ref 300, .ref 0, .ref 200, .int x3] (.int v4 :: .int v3 :: .int v2 :: .int v1 :: .ref 0 :: []) σ = (mBI (Cc D n_E_wrongs [.ref 0, .int v1, .int v2, .int v3, .int v4] σ) fun r τ => Xx D n_L_law 2174 [.ref 300, .ref 0, .ref 200, .int x3] [.int r] τ) := (Xx_go D n_L_law (fun p => Nat.beq p 2174) 1 _ _ _ _).trans rfl
set_option maxRecDepth 100000 in
set_option maxHeartbeats 4000000 in
theorem u_2174 (D : Nat) (x3 : Int32) (st : List Value) (σ : mS) : Xx D n_L_law 2174 [.ref 300, .ref 0, .ref 200, .int x3] st σ = (bif mIn (x3 + (1 : Int32)) ((σ.1 299 0).toNatClampNeg) then Xx D n_L_law 2180 [.ref 300, .ref 0, .ref 200, .int x3] (.int (σ.1 300 ((x3 + (1 : Int32)) : Int32).toNatClampNeg) :: .ref 200 :: st) σ else none) := (Xx_go D n_L_law (fun p => Nat.beq p 2180) 6 _ _ _ _).trans rfl
set_option maxRecDepth 100000 in
set_option maxHeartbeats 4000000 in
theorem u_2180 (D : Nat) (x3 : Int32) (st : List Value) (σ : mS) : Xx D n_L_law 2180 [.ref 300, .ref 0, .ref 200, .int x3] st σ = (bif mIn (x3 + (2 : Int32)) ((σ.1 299 0).toNatClampNeg) then Xx D n_L_law 2185 [.ref 300, .ref 0, .ref 200, .int x3] (.int (σ.1 300 ((x3 + (2 : Int32)) : Int32).toNatClampNeg) :: st) σ else none) := (Xx_go D n_L_law (fun p => Nat.beq p 2185) 5 _ _ _ _).trans rfl
set_option maxRecDepth 100000 in
set_option maxHeartbeats 4000000 in
theorem u_2185 (D : Nat) (x3 : Int32) (st : List Value) (σ : mS) : Xx D n_L_law 2185 [.ref 300, .ref 0, .ref 200, .int x3] st σ = (bif mIn (x3 + (3 : Int32)) ((σ.1 299 0).toNatClampNeg) then Xx D n_L_law 2190 [.ref 300, .ref 0, .ref 200, .int x3] (.int (σ.1 300 ((x3 + (3 : Int32)) : Int32).toNatClampNeg) :: st) σ else none) := (Xx_go D n_L_law (fun p => Nat.beq p 2190) 5 _ _ _ _).trans rfl
set_option maxRecDepth 100000 in
set_option maxHeartbeats 4000000 in
theorem u_2190 (D : Nat) (x3 : Int32) (st : List Value) (σ : mS) : Xx D n_L_law 2190 [.ref 300, .ref 0, .ref 200, .int x3] st σ = (bif mIn (x3 + (4 : Int32)) ((σ.1 299 0).toNatClampNeg) then Xx D n_L_law 2195 [.ref 300, .ref 0, .ref 200, .int x3] (.int (σ.1 300 ((x3 + (4 : Int32)) : Int32).toNatClampNeg) :: st) σ else none) := (Xx_go D n_L_law (fun p => Nat.beq p 2195) 5 _ _ _ _).trans rfl
set_option maxRecDepth 100000 in
set_option maxHeartbeats 4000000 in
theorem u_2195 (D : Nat) (x3 : Int32) (v1 : Int32) (v2 : Int32) (v3 : Int32) (v4 : Int32) (r : Int32) (σ : mS) : Xx D n_L_law 2195 [.ref 300, .ref 0, .ref 200, .int x3] (.int v4 :: .int v3 :: .int v2 :: .int v1 :: .ref 200 :: [.int r]) σ = (mBI (Cc D n_M_wrongs [.ref 200, .int v1, .int v2, .int v3, .int v4] σ) fun r4 τ => Xx D n_L_law 2198 [.ref 300, .ref 0, .ref 200, .int x3] [.int r4, .int r] τ) := (Xx_go D n_L_law (fun p => Nat.beq p 2198) 1 _ _ _ _).trans rfl
set_option maxRecDepth 100000 in
set_option maxHeartbeats 4000000 in
theorem u_2198 (D : Nat) (x3 : Int32) (r r4 : Int32) (σ : mS) : Xx D n_L_law 2198 [.ref 300, .ref 0, .ref 200, .int x3] [.int r4, .int r] σ = (bif decide ((r : Int32) = r4) then Xx D n_L_law 2639 [.ref 300, .ref 0, .ref 200, .int x3] [] σ else (some (.int 0, σ))) := (Xx_go D n_L_law (fun p => Nat.beq p 2639) 3 _ _ _ _).trans rfl
set_option maxRecDepth 100000 in
set_option maxHeartbeats 4000000 in
theorem u_2203 (D : Nat) (x3 : Int32) (st : List Value) (σ : mS) : Xx D n_L_law 2203 [.ref 300, .ref 0, .ref 200, .int x3] st σ = (bif mIn (x3 + (1 : Int32)) ((σ.1 299 0).toNatClampNeg) then Xx D n_L_law 2209 [.ref 300, .ref 0, .ref 200, .int x3] (.int (σ.1 300 ((x3 + (1 : Int32)) : Int32).toNatClampNeg) :: .ref 0 :: st) σ else none) := (Xx_go D n_L_law (fun p => Nat.beq p 2209) 6 _ _ _ _).trans rfl
set_option maxRecDepth 100000 in
set_option maxHeartbeats 4000000 in
theorem u_2209 (D : Nat) (x3 : Int32) (st : List Value) (σ : mS) : Xx D n_L_law 2209 [.ref 300, .ref 0, .ref 200, .int x3] st σ = (bif mIn (x3 + (2 : Int32)) ((σ.1 299 0).toNatClampNeg) then Xx D n_L_law 2214 [.ref 300, .ref 0, .ref 200, .int x3] (.int (σ.1 300 ((x3 + (2 : Int32)) : Int32).toNatClampNeg) :: st) σ else none) := (Xx_go D n_L_law (fun p => Nat.beq p 2214) 5 _ _ _ _).trans rfl
set_option maxRecDepth 100000 in
set_option maxHeartbeats 4000000 in
theorem u_2214 (D : Nat) (x3 : Int32) (st : List Value) (σ : mS) : Xx D n_L_law 2214 [.ref 300, .ref 0, .ref 200, .int x3] st σ = (bif mIn (x3 + (3 : Int32)) ((σ.1 299 0).toNatClampNeg) then Xx D n_L_law 2219 [.ref 300, .ref 0, .ref 200, .int x3] (.int (σ.1 300 ((x3 + (3 : Int32)) : Int32).toNatClampNeg) :: st) σ else none) := (Xx_go D n_L_law (fun p => Nat.beq p 2219) 5 _ _ _ _).trans rfl
set_option maxRecDepth 100000 in
set_option maxHeartbeats 4000000 in
theorem u_2219 (D : Nat) (x3 : Int32) (v1 : Int32) (v2 : Int32) (v3 : Int32) (σ : mS) : Xx D n_L_law 2219 [.ref 300, .ref 0, .ref 200, .int x3] (.int v3 :: .int v2 :: .int v1 :: .ref 0 :: []) σ = (mBI (Cc D n_E_amends [.ref 0, .int v1, .int v2, .int v3] σ) fun r τ => Xx D n_L_law 2222 [.ref 300, .ref 0, .ref 200, .int x3] [.int r] τ) := (Xx_go D n_L_law (fun p => Nat.beq p 2222) 1 _ _ _ _).trans rfl
set_option maxRecDepth 100000 in
set_option maxHeartbeats 4000000 in
theorem u_2222 (D : Nat) (x3 : Int32) (st : List Value) (σ : mS) : Xx D n_L_law 2222 [.ref 300, .ref 0, .ref 200, .int x3] st σ = (bif mIn (x3 + (1 : Int32)) ((σ.1 299 0).toNatClampNeg) then Xx D n_L_law 2228 [.ref 300, .ref 0, .ref 200, .int x3] (.int (σ.1 300 ((x3 + (1 : Int32)) : Int32).toNatClampNeg) :: .ref 200 :: st) σ else none) := (Xx_go D n_L_law (fun p => Nat.beq p 2228) 6 _ _ _ _).trans rfl
set_option maxRecDepth 100000 in
set_option maxHeartbeats 4000000 in
theorem u_2228 (D : Nat) (x3 : Int32) (st : List Value) (σ : mS) : Xx D n_L_law 2228 [.ref 300, .ref 0, .ref 200, .int x3] st σ = (bif mIn (x3 + (2 : Int32)) ((σ.1 299 0).toNatClampNeg) then Xx D n_L_law 2233 [.ref 300, .ref 0, .ref 200, .int x3] (.int (σ.1 300 ((x3 + (2 : Int32)) : Int32).toNatClampNeg) :: st) σ else none) := (Xx_go D n_L_law (fun p => Nat.beq p 2233) 5 _ _ _ _).trans rfl
set_option maxRecDepth 100000 in
set_option maxHeartbeats 4000000 in
theorem u_2233 (D : Nat) (x3 : Int32) (st : List Value) (σ : mS) : Xx D n_L_law 2233 [.ref 300, .ref 0, .ref 200, .int x3] st σ = (bif mIn (x3 + (3 : Int32)) ((σ.1 299 0).toNatClampNeg) then Xx D n_L_law 2238 [.ref 300, .ref 0, .ref 200, .int x3] (.int (σ.1 300 ((x3 + (3 : Int32)) : Int32).toNatClampNeg) :: st) σ else none) := (Xx_go D n_L_law (fun p => Nat.beq p 2238) 5 _ _ _ _).trans rfl
set_option maxRecDepth 100000 in
set_option maxHeartbeats 4000000 in
theorem u_2238 (D : Nat) (x3 : Int32) (v1 : Int32) (v2 : Int32) (v3 : Int32) (r : Int32) (σ : mS) : Xx D n_L_law 2238 [.ref 300, .ref 0, .ref 200, .int x3] (.int v3 :: .int v2 :: .int v1 :: .ref 200 :: [.int r]) σ = (mBI (Cc D n_M_amends [.ref 200, .int v1, .int v2, .int v3] σ) fun r4 τ => Xx D n_L_law 2241 [.ref 300, .ref 0, .ref 200, .int x3] [.int r4, .int r] τ) := (Xx_go D n_L_law (fun p => Nat.beq p 2241) 1 _ _ _ _).trans rfl
set_option maxRecDepth 100000 in
set_option maxHeartbeats 4000000 in
theorem u_2241 (D : Nat) (x3 : Int32) (r r4 : Int32) (σ : mS) : Xx D n_L_law 2241 [.ref 300, .ref 0, .ref 200, .int x3] [.int r4, .int r] σ = (bif decide ((r : Int32) = r4) then Xx D n_L_law 2639 [.ref 300, .ref 0, .ref 200, .int x3] [] σ else (some (.int 0, σ))) := (Xx_go D n_L_law (fun p => Nat.beq p 2639) 3 _ _ _ _).trans rfl
set_option maxRecDepth 100000 in
set_option maxHeartbeats 4000000 in
theorem q_L_law_2246 (D : Nat) (x3 : Int32) (σ : mS) : Xx D n_L_law 2246 [.ref 300, .ref 0, .ref 200, .int x3] [] σ = (mBI (Cc D n_E_undo [.ref 0] σ) fun r2 τ1 => (mBI (Cc D n_M_undo [.ref 200] τ1) fun r4 τ3 => (bif decide ((r2 : Int32) = r4) then Xx D n_L_law 2639 [.ref 300, .ref 0, .ref 200, .int x3] [] τ3 else (some (.int 0, τ3))))) := (Xx_go D n_L_law (fun p => Nat.beq p 2639) 7 _ _ _ _).trans rfl
set_option maxRecDepth 100000 in
set_option maxHeartbeats 4000000 in
theorem q_L_law_2259 (D : Nat) (x3 : Int32) (σ : mS) : Xx D n_L_law 2259 [.ref 300, .ref 0, .ref 200, .int x3] [] σ = (mBI (Cc D n_E_anew [.ref 0, .null] σ) fun r2 τ1 => (mBI (Cc D n_M_anew [.ref 200, .null] τ1) fun r4 τ3 => (bif decide ((r2 : Int32) = r4) then Xx D n_L_law 2639 [.ref 300, .ref 0, .ref 200, .int x3] [] τ3 else (some (.int 0, τ3))))) := (Xx_go D n_L_law (fun p => Nat.beq p 2639) 7 _ _ _ _).trans rfl
set_option maxRecDepth 100000 in
set_option maxHeartbeats 4000000 in
theorem u_2272 (D : Nat) (x3 : Int32) (st : List Value) (σ : mS) : Xx D n_L_law 2272 [.ref 300, .ref 0, .ref 200, .int x3] st σ = (bif mIn (x3 + (1 : Int32)) ((σ.1 299 0).toNatClampNeg) then Xx D n_L_law 2278 [.ref 300, .ref 0, .ref 200, .int x3] (.int (σ.1 300 ((x3 + (1 : Int32)) : Int32).toNatClampNeg) :: .ref 0 :: st) σ else none) := (Xx_go D n_L_law (fun p => Nat.beq p 2278) 6 _ _ _ _).trans rfl
set_option maxRecDepth 100000 in
set_option maxHeartbeats 4000000 in
theorem u_2278 (D : Nat) (x3 : Int32) (st : List Value) (σ : mS) : Xx D n_L_law 2278 [.ref 300, .ref 0, .ref 200, .int x3] st σ = (bif mIn (x3 + (2 : Int32)) ((σ.1 299 0).toNatClampNeg) then Xx D n_L_law 2283 [.ref 300, .ref 0, .ref 200, .int x3] (.int (σ.1 300 ((x3 + (2 : Int32)) : Int32).toNatClampNeg) :: st) σ else none) := (Xx_go D n_L_law (fun p => Nat.beq p 2283) 5 _ _ _ _).trans rfl
set_option maxRecDepth 100000 in
set_option maxHeartbeats 4000000 in
theorem u_2283 (D : Nat) (x3 : Int32) (v1 : Int32) (v2 : Int32) (σ : mS) : Xx D n_L_law 2283 [.ref 300, .ref 0, .ref 200, .int x3] (.int v2 :: .int v1 :: .ref 0 :: []) σ = (mBI (Cc D n_E_drawn [.ref 0, .int v1, .int v2] σ) fun r τ => Xx D n_L_law 2286 [.ref 300, .ref 0, .ref 200, .int x3] [.int r] τ) := (Xx_go D n_L_law (fun p => Nat.beq p 2286) 1 _ _ _ _).trans rfl
set_option maxRecDepth 100000 in
set_option maxHeartbeats 4000000 in
theorem u_2286 (D : Nat) (x3 : Int32) (st : List Value) (σ : mS) : Xx D n_L_law 2286 [.ref 300, .ref 0, .ref 200, .int x3] st σ = (bif mIn (x3 + (1 : Int32)) ((σ.1 299 0).toNatClampNeg) then Xx D n_L_law 2292 [.ref 300, .ref 0, .ref 200, .int x3] (.int (σ.1 300 ((x3 + (1 : Int32)) : Int32).toNatClampNeg) :: .ref 200 :: st) σ else none) := (Xx_go D n_L_law (fun p => Nat.beq p 2292) 6 _ _ _ _).trans rfl
set_option maxRecDepth 100000 in
set_option maxHeartbeats 4000000 in
theorem u_2292 (D : Nat) (x3 : Int32) (st : List Value) (σ : mS) : Xx D n_L_law 2292 [.ref 300, .ref 0, .ref 200, .int x3] st σ = (bif mIn (x3 + (2 : Int32)) ((σ.1 299 0).toNatClampNeg) then Xx D n_L_law 2297 [.ref 300, .ref 0, .ref 200, .int x3] (.int (σ.1 300 ((x3 + (2 : Int32)) : Int32).toNatClampNeg) :: st) σ else none) := (Xx_go D n_L_law (fun p => Nat.beq p 2297) 5 _ _ _ _).trans rfl
set_option maxRecDepth 100000 in
set_option maxHeartbeats 4000000 in
theorem u_2297 (D : Nat) (x3 : Int32) (v1 : Int32) (v2 : Int32) (r : Int32) (σ : mS) : Xx D n_L_law 2297 [.ref 300, .ref 0, .ref 200, .int x3] (.int v2 :: .int v1 :: .ref 200 :: [.int r]) σ = (mBI (Cc D n_M_drawn [.ref 200, .int v1, .int v2] σ) fun r4 τ => Xx D n_L_law 2300 [.ref 300, .ref 0, .ref 200, .int x3] [.int r4, .int r] τ) := (Xx_go D n_L_law (fun p => Nat.beq p 2300) 1 _ _ _ _).trans rfl
set_option maxRecDepth 100000 in
set_option maxHeartbeats 4000000 in
theorem u_2300 (D : Nat) (x3 : Int32) (r r4 : Int32) (σ : mS) : Xx D n_L_law 2300 [.ref 300, .ref 0, .ref 200, .int x3] [.int r4, .int r] σ = (bif decide ((r : Int32) = r4) then Xx D n_L_law 2639 [.ref 300, .ref 0, .ref 200, .int x3] [] σ else (some (.int 0, σ))) := (Xx_go D n_L_law (fun p => Nat.beq p 2639) 3 _ _ _ _).trans rfl
set_option maxRecDepth 100000 in
set_option maxHeartbeats 4000000 in
theorem u_2305 (D : Nat) (x3 : Int32) (st : List Value) (σ : mS) : Xx D n_L_law 2305 [.ref 300, .ref 0, .ref 200, .int x3] st σ = (bif mIn (x3 + (1 : Int32)) ((σ.1 299 0).toNatClampNeg) then Xx D n_L_law 2311 [.ref 300, .ref 0, .ref 200, .int x3] (.int (σ.1 300 ((x3 + (1 : Int32)) : Int32).toNatClampNeg) :: .ref 0 :: st) σ else none) := (Xx_go D n_L_law (fun p => Nat.beq p 2311) 6 _ _ _ _).trans rfl
set_option maxRecDepth 100000 in
set_option maxHeartbeats 4000000 in
theorem u_2311 (D : Nat) (x3 : Int32) (st : List Value) (σ : mS) : Xx D n_L_law 2311 [.ref 300, .ref 0, .ref 200, .int x3] st σ = (bif mIn (x3 + (2 : Int32)) ((σ.1 299 0).toNatClampNeg) then Xx D n_L_law 2316 [.ref 300, .ref 0, .ref 200, .int x3] (.int (σ.1 300 ((x3 + (2 : Int32)) : Int32).toNatClampNeg) :: st) σ else none) := (Xx_go D n_L_law (fun p => Nat.beq p 2316) 5 _ _ _ _).trans rfl
set_option maxRecDepth 100000 in
set_option maxHeartbeats 4000000 in
theorem u_2316 (D : Nat) (x3 : Int32) (st : List Value) (σ : mS) : Xx D n_L_law 2316 [.ref 300, .ref 0, .ref 200, .int x3] st σ = (bif mIn (x3 + (3 : Int32)) ((σ.1 299 0).toNatClampNeg) then Xx D n_L_law 2321 [.ref 300, .ref 0, .ref 200, .int x3] (.int (σ.1 300 ((x3 + (3 : Int32)) : Int32).toNatClampNeg) :: st) σ else none) := (Xx_go D n_L_law (fun p => Nat.beq p 2321) 5 _ _ _ _).trans rfl
set_option maxRecDepth 100000 in
set_option maxHeartbeats 4000000 in
theorem u_2321 (D : Nat) (x3 : Int32) (st : List Value) (σ : mS) : Xx D n_L_law 2321 [.ref 300, .ref 0, .ref 200, .int x3] st σ = (bif mIn (x3 + (4 : Int32)) ((σ.1 299 0).toNatClampNeg) then Xx D n_L_law 2326 [.ref 300, .ref 0, .ref 200, .int x3] (.int (σ.1 300 ((x3 + (4 : Int32)) : Int32).toNatClampNeg) :: st) σ else none) := (Xx_go D n_L_law (fun p => Nat.beq p 2326) 5 _ _ _ _).trans rfl
set_option maxRecDepth 100000 in
set_option maxHeartbeats 4000000 in
theorem u_2326 (D : Nat) (x3 : Int32) (v1 : Int32) (v2 : Int32) (v3 : Int32) (v4 : Int32) (σ : mS) : Xx D n_L_law 2326 [.ref 300, .ref 0, .ref 200, .int x3] (.int v4 :: .int v3 :: .int v2 :: .int v1 :: .ref 0 :: []) σ = (mBI (Cc D n_E_luck [.ref 0, .int v1, .int v2, .int v3, .int v4, .null, .null] σ) fun r τ => Xx D n_L_law 2329 [.ref 300, .ref 0, .ref 200, .int x3] [.int r] τ) := (Xx_go D n_L_law (fun p => Nat.beq p 2329) 1 _ _ _ _).trans rfl
set_option maxRecDepth 100000 in
set_option maxHeartbeats 4000000 in
theorem u_2329 (D : Nat) (x3 : Int32) (st : List Value) (σ : mS) : Xx D n_L_law 2329 [.ref 300, .ref 0, .ref 200, .int x3] st σ = (bif mIn (x3 + (1 : Int32)) ((σ.1 299 0).toNatClampNeg) then Xx D n_L_law 2335 [.ref 300, .ref 0, .ref 200, .int x3] (.int (σ.1 300 ((x3 + (1 : Int32)) : Int32).toNatClampNeg) :: .ref 200 :: st) σ else none) := (Xx_go D n_L_law (fun p => Nat.beq p 2335) 6 _ _ _ _).trans rfl
set_option maxRecDepth 100000 in
set_option maxHeartbeats 4000000 in
theorem u_2335 (D : Nat) (x3 : Int32) (st : List Value) (σ : mS) : Xx D n_L_law 2335 [.ref 300, .ref 0, .ref 200, .int x3] st σ = (bif mIn (x3 + (2 : Int32)) ((σ.1 299 0).toNatClampNeg) then Xx D n_L_law 2340 [.ref 300, .ref 0, .ref 200, .int x3] (.int (σ.1 300 ((x3 + (2 : Int32)) : Int32).toNatClampNeg) :: st) σ else none) := (Xx_go D n_L_law (fun p => Nat.beq p 2340) 5 _ _ _ _).trans rfl
set_option maxRecDepth 100000 in
set_option maxHeartbeats 4000000 in
theorem u_2340 (D : Nat) (x3 : Int32) (st : List Value) (σ : mS) : Xx D n_L_law 2340 [.ref 300, .ref 0, .ref 200, .int x3] st σ = (bif mIn (x3 + (3 : Int32)) ((σ.1 299 0).toNatClampNeg) then Xx D n_L_law 2345 [.ref 300, .ref 0, .ref 200, .int x3] (.int (σ.1 300 ((x3 + (3 : Int32)) : Int32).toNatClampNeg) :: st) σ else none) := (Xx_go D n_L_law (fun p => Nat.beq p 2345) 5 _ _ _ _).trans rfl
set_option maxRecDepth 100000 in
set_option maxHeartbeats 4000000 in
theorem u_2345 (D : Nat) (x3 : Int32) (st : List Value) (σ : mS) : Xx D n_L_law 2345 [.ref 300, .ref 0, .ref 200, .int x3] st σ = (bif mIn (x3 + (4 : Int32)) ((σ.1 299 0).toNatClampNeg) then Xx D n_L_law 2350 [.ref 300, .ref 0, .ref 200, .int x3] (.int (σ.1 300 ((x3 + (4 : Int32)) : Int32).toNatClampNeg) :: st) σ else none) := (Xx_go D n_L_law (fun p => Nat.beq p 2350) 5 _ _ _ _).trans rfl
set_option maxRecDepth 100000 in
set_option maxHeartbeats 4000000 in
theorem u_2350 (D : Nat) (x3 : Int32) (v1 : Int32) (v2 : Int32) (v3 : Int32) (v4 : Int32) (r : Int32) (σ : mS) : Xx D n_L_law 2350 [.ref 300, .ref 0, .ref 200, .int x3] (.int v4 :: .int v3 :: .int v2 :: .int v1 :: .ref 200 :: [.int r]) σ = (mBI (Cc D n_M_luck [.ref 200, .int v1, .int v2, .int v3, .int v4, .null, .null] σ) fun r4 τ => Xx D n_L_law 2353 [.ref 300, .ref 0, .ref 200, .int x3] [.int r4, .int r] τ) := (Xx_go D n_L_law (fun p => Nat.beq p 2353) 1 _ _ _ _).trans rfl
set_option maxRecDepth 100000 in
set_option maxHeartbeats 4000000 in
theorem u_2353 (D : Nat) (x3 : Int32) (r r4 : Int32) (σ : mS) : Xx D n_L_law 2353 [.ref 300, .ref 0, .ref 200, .int x3] [.int r4, .int r] σ = (bif decide ((r : Int32) = r4) then Xx D n_L_law 2639 [.ref 300, .ref 0, .ref 200, .int x3] [] σ else (some (.int 0, σ))) := (Xx_go D n_L_law (fun p => Nat.beq p 2639) 3 _ _ _ _).trans rfl
set_option maxRecDepth 100000 in
set_option maxHeartbeats 4000000 in
theorem u_2358 (D : Nat) (x3 : Int32) (st : List Value) (σ : mS) : Xx D n_L_law 2358 [.ref 300, .ref 0, .ref 200, .int x3] st σ = (bif mIn (x3 + (1 : Int32)) ((σ.1 299 0).toNatClampNeg) then Xx D n_L_law 2364 [.ref 300, .ref 0, .ref 200, .int x3] (.int (σ.1 300 ((x3 + (1 : Int32)) : Int32).toNatClampNeg) :: .ref 0 :: st) σ else none) := (Xx_go D n_L_law (fun p => Nat.beq p 2364) 6 _ _ _ _).trans rfl
set_option maxRecDepth 100000 in
set_option maxHeartbeats 4000000 in
theorem u_2364 (D : Nat) (x3 : Int32) (st : List Value) (σ : mS) : Xx D n_L_law 2364 [.ref 300, .ref 0, .ref 200, .int x3] st σ = (bif mIn (x3 + (2 : Int32)) ((σ.1 299 0).toNatClampNeg) then Xx D n_L_law 2369 [.ref 300, .ref 0, .ref 200, .int x3] (.int (σ.1 300 ((x3 + (2 : Int32)) : Int32).toNatClampNeg) :: st) σ else none) := (Xx_go D n_L_law (fun p => Nat.beq p 2369) 5 _ _ _ _).trans rfl
set_option maxRecDepth 100000 in
set_option maxHeartbeats 4000000 in
theorem u_2369 (D : Nat) (x3 : Int32) (v1 : Int32) (v2 : Int32) (σ : mS) : Xx D n_L_law 2369 [.ref 300, .ref 0, .ref 200, .int x3] (.int v2 :: .int v1 :: .ref 0 :: []) σ = (mBI (Cc D n_E_rate [.ref 0, .int v1, .int v2, .null] σ) fun r τ => Xx D n_L_law 2372 [.ref 300, .ref 0, .ref 200, .int x3] [.int r] τ) := (Xx_go D n_L_law (fun p => Nat.beq p 2372) 1 _ _ _ _).trans rfl
set_option maxRecDepth 100000 in
set_option maxHeartbeats 4000000 in
theorem u_2372 (D : Nat) (x3 : Int32) (st : List Value) (σ : mS) : Xx D n_L_law 2372 [.ref 300, .ref 0, .ref 200, .int x3] st σ = (bif mIn (x3 + (1 : Int32)) ((σ.1 299 0).toNatClampNeg) then Xx D n_L_law 2378 [.ref 300, .ref 0, .ref 200, .int x3] (.int (σ.1 300 ((x3 + (1 : Int32)) : Int32).toNatClampNeg) :: .ref 200 :: st) σ else none) := (Xx_go D n_L_law (fun p => Nat.beq p 2378) 6 _ _ _ _).trans rfl
set_option maxRecDepth 100000 in
set_option maxHeartbeats 4000000 in
theorem u_2378 (D : Nat) (x3 : Int32) (st : List Value) (σ : mS) : Xx D n_L_law 2378 [.ref 300, .ref 0, .ref 200, .int x3] st σ = (bif mIn (x3 + (2 : Int32)) ((σ.1 299 0).toNatClampNeg) then Xx D n_L_law 2383 [.ref 300, .ref 0, .ref 200, .int x3] (.int (σ.1 300 ((x3 + (2 : Int32)) : Int32).toNatClampNeg) :: st) σ else none) := (Xx_go D n_L_law (fun p => Nat.beq p 2383) 5 _ _ _ _).trans rfl
set_option maxRecDepth 100000 in
set_option maxHeartbeats 4000000 in
theorem u_2383 (D : Nat) (x3 : Int32) (v1 : Int32) (v2 : Int32) (r : Int32) (σ : mS) : Xx D n_L_law 2383 [.ref 300, .ref 0, .ref 200, .int x3] (.int v2 :: .int v1 :: .ref 200 :: [.int r]) σ = (mBI (Cc D n_M_rate [.ref 200, .int v1, .int v2, .null] σ) fun r4 τ => Xx D n_L_law 2386 [.ref 300, .ref 0, .ref 200, .int x3] [.int r4, .int r] τ) := (Xx_go D n_L_law (fun p => Nat.beq p 2386) 1 _ _ _ _).trans rfl
set_option maxRecDepth 100000 in
set_option maxHeartbeats 4000000 in
theorem u_2386 (D : Nat) (x3 : Int32) (r r4 : Int32) (σ : mS) : Xx D n_L_law 2386 [.ref 300, .ref 0, .ref 200, .int x3] [.int r4, .int r] σ = (bif decide ((r : Int32) = r4) then Xx D n_L_law 2639 [.ref 300, .ref 0, .ref 200, .int x3] [] σ else (some (.int 0, σ))) := (Xx_go D n_L_law (fun p => Nat.beq p 2639) 3 _ _ _ _).trans rfl
set_option maxRecDepth 100000 in
set_option maxHeartbeats 4000000 in
theorem q_L_law_2391 (D : Nat) (x3 : Int32) (σ : mS) : Xx D n_L_law 2391 [.ref 300, .ref 0, .ref 200, .int x3] [] σ = (bif mIn (x3 + (1 : Int32)) ((σ.1 299 0).toNatClampNeg) then (mBI (Cc D n_E_count [.ref 0, .int (σ.1 300 ((x3 + (1 : Int32)) : Int32).toNatClampNeg)] σ) fun r2 τ1 => (bif mIn (x3 + (1 : Int32)) ((τ1.1 299 0).toNatClampNeg) then (mBI (Cc D n_M_count [.ref 200, .int (τ1.1 300 ((x3 + (1 : Int32)) : Int32).toNatClampNeg), .null, .null] τ1) fun r4 τ3 => (bif decide ((r2 : Int32) = r4) then Xx D n_L_law 2639 [.ref 300, .ref 0, .ref 200, .int x3] [] τ3 else (some (.int 0, τ3)))) else none)) else none) := (Xx_go D n_L_law (fun p => Nat.beq p 2639) 17 _ _ _ _).trans rfl
set_option maxRecDepth 100000 in
set_option maxHeartbeats 4000000 in
theorem q_L_law_2414 (D : Nat) (x3 : Int32) (σ : mS) : Xx D n_L_law 2414 [.ref 300, .ref 0, .ref 200, .int x3] [] σ = (bif mIn (x3 + (1 : Int32)) ((σ.1 299 0).toNatClampNeg) then (mBI (Cc D n_E_image [.ref 0, .int (σ.1 300 ((x3 + (1 : Int32)) : Int32).toNatClampNeg)] σ) fun r2 τ1 => (bif mIn (x3 + (1 : Int32)) ((τ1.1 299 0).toNatClampNeg) then (mBI (Cc D n_M_image [.ref 200, .int (τ1.1 300 ((x3 + (1 : Int32)) : Int32).toNatClampNeg), .null] τ1) fun r4 τ3 => (bif decide ((r2 : Int32) = r4) then Xx D n_L_law 2639 [.ref 300, .ref 0, .ref 200, .int x3] [] τ3 else (some (.int 0, τ3)))) else none)) else none) := (Xx_go D n_L_law (fun p => Nat.beq p 2639) 17 _ _ _ _).trans rfl
set_option maxRecDepth 100000 in
set_option maxHeartbeats 4000000 in
theorem q_L_law_2437 (D : Nat) (x3 : Int32) (σ : mS) : Xx D n_L_law 2437 [.ref 300, .ref 0, .ref 200, .int x3] [] σ = (bif mIn (x3 + (1 : Int32)) ((σ.1 299 0).toNatClampNeg) then (mBI (Cc D n_E_back [.ref 0, .int (σ.1 300 ((x3 + (1 : Int32)) : Int32).toNatClampNeg)] σ) fun r2 τ1 => (bif mIn (x3 + (1 : Int32)) ((τ1.1 299 0).toNatClampNeg) then (mBI (Cc D n_M_back [.ref 200, .int (τ1.1 300 ((x3 + (1 : Int32)) : Int32).toNatClampNeg), .null] τ1) fun r4 τ3 => (bif decide ((r2 : Int32) = r4) then Xx D n_L_law 2639 [.ref 300, .ref 0, .ref 200, .int x3] [] τ3 else (some (.int 0, τ3)))) else none)) else none) := (Xx_go D n_L_law (fun p => Nat.beq p 2639) 17 _ _ _ _).trans rfl
set_option maxRecDepth 100000 in
set_option maxHeartbeats 4000000 in
theorem u_2460 (D : Nat) (x3 : Int32) (st : List Value) (σ : mS) : Xx D n_L_law 2460 [.ref 300, .ref 0, .ref 200, .int x3] st σ = (bif mIn (x3 + (1 : Int32)) ((σ.1 299 0).toNatClampNeg) then Xx D n_L_law 2466 [.ref 300, .ref 0, .ref 200, .int x3] (.int (σ.1 300 ((x3 + (1 : Int32)) : Int32).toNatClampNeg) :: .ref 0 :: st) σ else none) := (Xx_go D n_L_law (fun p => Nat.beq p 2466) 6 _ _ _ _).trans rfl
set_option maxRecDepth 100000 in
set_option maxHeartbeats 4000000 in
theorem u_2466 (D : Nat) (x3 : Int32) (st : List Value) (σ : mS) : Xx D n_L_law 2466 [.ref 300, .ref 0, .ref 200, .int x3] st σ = (bif mIn (x3 + (2 : Int32)) ((σ.1 299 0).toNatClampNeg) then Xx D n_L_law 2471 [.ref 300, .ref 0, .ref 200, .int x3] (.int (σ.1 300 ((x3 + (2 : Int32)) : Int32).toNatClampNeg) :: st) σ else none) := (Xx_go D n_L_law (fun p => Nat.beq p 2471) 5 _ _ _ _).trans rfl
set_option maxRecDepth 100000 in
set_option maxHeartbeats 4000000 in
theorem u_2471 (D : Nat) (x3 : Int32) (st : List Value) (σ : mS) : Xx D n_L_law 2471 [.ref 300, .ref 0, .ref 200, .int x3] st σ = (bif mIn (x3 + (3 : Int32)) ((σ.1 299 0).toNatClampNeg) then Xx D n_L_law 2476 [.ref 300, .ref 0, .ref 200, .int x3] (.int (σ.1 300 ((x3 + (3 : Int32)) : Int32).toNatClampNeg) :: st) σ else none) := (Xx_go D n_L_law (fun p => Nat.beq p 2476) 5 _ _ _ _).trans rfl
set_option maxRecDepth 100000 in
set_option maxHeartbeats 4000000 in
theorem u_2476 (D : Nat) (x3 : Int32) (v1 : Int32) (v2 : Int32) (v3 : Int32) (σ : mS) : Xx D n_L_law 2476 [.ref 300, .ref 0, .ref 200, .int x3] (.int v3 :: .int v2 :: .int v1 :: .ref 0 :: []) σ = (mBI (Cc D n_E_row [.ref 0, .int v1, .int v2, .int v3] σ) fun r τ => Xx D n_L_law 2479 [.ref 300, .ref 0, .ref 200, .int x3] [.int r] τ) := (Xx_go D n_L_law (fun p => Nat.beq p 2479) 1 _ _ _ _).trans rfl
set_option maxRecDepth 100000 in
set_option maxHeartbeats 4000000 in
theorem u_2479 (D : Nat) (x3 : Int32) (st : List Value) (σ : mS) : Xx D n_L_law 2479 [.ref 300, .ref 0, .ref 200, .int x3] st σ = (bif mIn (x3 + (1 : Int32)) ((σ.1 299 0).toNatClampNeg) then Xx D n_L_law 2485 [.ref 300, .ref 0, .ref 200, .int x3] (.int (σ.1 300 ((x3 + (1 : Int32)) : Int32).toNatClampNeg) :: .ref 200 :: st) σ else none) := (Xx_go D n_L_law (fun p => Nat.beq p 2485) 6 _ _ _ _).trans rfl
set_option maxRecDepth 100000 in
set_option maxHeartbeats 4000000 in
theorem u_2485 (D : Nat) (x3 : Int32) (st : List Value) (σ : mS) : Xx D n_L_law 2485 [.ref 300, .ref 0, .ref 200, .int x3] st σ = (bif mIn (x3 + (2 : Int32)) ((σ.1 299 0).toNatClampNeg) then Xx D n_L_law 2490 [.ref 300, .ref 0, .ref 200, .int x3] (.int (σ.1 300 ((x3 + (2 : Int32)) : Int32).toNatClampNeg) :: st) σ else none) := (Xx_go D n_L_law (fun p => Nat.beq p 2490) 5 _ _ _ _).trans rfl
set_option maxRecDepth 100000 in
set_option maxHeartbeats 4000000 in
theorem u_2490 (D : Nat) (x3 : Int32) (st : List Value) (σ : mS) : Xx D n_L_law 2490 [.ref 300, .ref 0, .ref 200, .int x3] st σ = (bif mIn (x3 + (3 : Int32)) ((σ.1 299 0).toNatClampNeg) then Xx D n_L_law 2495 [.ref 300, .ref 0, .ref 200, .int x3] (.int (σ.1 300 ((x3 + (3 : Int32)) : Int32).toNatClampNeg) :: st) σ else none) := (Xx_go D n_L_law (fun p => Nat.beq p 2495) 5 _ _ _ _).trans rfl
set_option maxRecDepth 100000 in
set_option maxHeartbeats 4000000 in
theorem u_2495 (D : Nat) (x3 : Int32) (v1 : Int32) (v2 : Int32) (v3 : Int32) (r : Int32) (σ : mS) : Xx D n_L_law 2495 [.ref 300, .ref 0, .ref 200, .int x3] (.int v3 :: .int v2 :: .int v1 :: .ref 200 :: [.int r]) σ = (mBI (Cc D n_M_row [.ref 200, .int v1, .int v2, .int v3, .null] σ) fun r4 τ => Xx D n_L_law 2498 [.ref 300, .ref 0, .ref 200, .int x3] [.int r4, .int r] τ) := (Xx_go D n_L_law (fun p => Nat.beq p 2498) 1 _ _ _ _).trans rfl
set_option maxRecDepth 100000 in
set_option maxHeartbeats 4000000 in
theorem u_2498 (D : Nat) (x3 : Int32) (r r4 : Int32) (σ : mS) : Xx D n_L_law 2498 [.ref 300, .ref 0, .ref 200, .int x3] [.int r4, .int r] σ = (bif decide ((r : Int32) = r4) then Xx D n_L_law 2639 [.ref 300, .ref 0, .ref 200, .int x3] [] σ else (some (.int 0, σ))) := (Xx_go D n_L_law (fun p => Nat.beq p 2639) 3 _ _ _ _).trans rfl
set_option maxRecDepth 100000 in
set_option maxHeartbeats 4000000 in
theorem u_2503 (D : Nat) (x3 : Int32) (st : List Value) (σ : mS) : Xx D n_L_law 2503 [.ref 300, .ref 0, .ref 200, .int x3] st σ = (bif mIn (x3 + (1 : Int32)) ((σ.1 299 0).toNatClampNeg) then Xx D n_L_law 2509 [.ref 300, .ref 0, .ref 200, .int x3] (.int (σ.1 300 ((x3 + (1 : Int32)) : Int32).toNatClampNeg) :: .ref 0 :: st) σ else none) := (Xx_go D n_L_law (fun p => Nat.beq p 2509) 6 _ _ _ _).trans rfl
set_option maxRecDepth 100000 in
set_option maxHeartbeats 4000000 in
theorem u_2509 (D : Nat) (x3 : Int32) (st : List Value) (σ : mS) : Xx D n_L_law 2509 [.ref 300, .ref 0, .ref 200, .int x3] st σ = (bif mIn (x3 + (2 : Int32)) ((σ.1 299 0).toNatClampNeg) then Xx D n_L_law 2514 [.ref 300, .ref 0, .ref 200, .int x3] (.int (σ.1 300 ((x3 + (2 : Int32)) : Int32).toNatClampNeg) :: st) σ else none) := (Xx_go D n_L_law (fun p => Nat.beq p 2514) 5 _ _ _ _).trans rfl
set_option maxRecDepth 100000 in
set_option maxHeartbeats 4000000 in
theorem u_2514 (D : Nat) (x3 : Int32) (st : List Value) (σ : mS) : Xx D n_L_law 2514 [.ref 300, .ref 0, .ref 200, .int x3] st σ = (bif mIn (x3 + (3 : Int32)) ((σ.1 299 0).toNatClampNeg) then Xx D n_L_law 2519 [.ref 300, .ref 0, .ref 200, .int x3] (.int (σ.1 300 ((x3 + (3 : Int32)) : Int32).toNatClampNeg) :: st) σ else none) := (Xx_go D n_L_law (fun p => Nat.beq p 2519) 5 _ _ _ _).trans rfl
set_option maxRecDepth 100000 in
set_option maxHeartbeats 4000000 in
theorem u_2519 (D : Nat) (x3 y : Int32) (st : List Value) (σ : mS) : Xx D n_L_law 2519 [.ref 300, .ref 0, .ref 200, .int x3] (.int y :: st) σ = Xx D n_L_law 2523 [.ref 300, .ref 0, .ref 200, .int x3] (.long ((y.toInt64) <<< ((32 : Int32).toInt64 &&& 63)) :: st) σ := (Xx_go D n_L_law (fun p => Nat.beq p 2523) 3 _ _ _ _).trans rfl
set_option maxRecDepth 100000 in
set_option maxHeartbeats 4000000 in
theorem u_2523 (D : Nat) (x3 : Int32) (st : List Value) (σ : mS) : Xx D n_L_law 2523 [.ref 300, .ref 0, .ref 200, .int x3] st σ = (bif mIn (x3 + (4 : Int32)) ((σ.1 299 0).toNatClampNeg) then Xx D n_L_law 2528 [.ref 300, .ref 0, .ref 200, .int x3] (.int (σ.1 300 ((x3 + (4 : Int32)) : Int32).toNatClampNeg) :: st) σ else none) := (Xx_go D n_L_law (fun p => Nat.beq p 2528) 5 _ _ _ _).trans rfl
set_option maxRecDepth 100000 in
set_option maxHeartbeats 4000000 in
theorem u_2528 (D : Nat) (x3 y : Int32) (w : Int64) (st : List Value) (σ : mS) : Xx D n_L_law 2528 [.ref 300, .ref 0, .ref 200, .int x3] (.int y :: .long w :: st) σ = Xx D n_L_law 2534 [.ref 300, .ref 0, .ref 200, .int x3] (.long (w ||| ((y.toInt64) &&& (4294967295 : Int64))) :: st) σ := (Xx_go D n_L_law (fun p => Nat.beq p 2534) 4 _ _ _ _).trans rfl
set_option maxRecDepth 100000 in
set_option maxHeartbeats 4000000 in
theorem u_2534 (D : Nat) (x3 : Int32) (v1 : Int32) (v2 : Int32) (v3 : Int64) (σ : mS) : Xx D n_L_law 2534 [.ref 300, .ref 0, .ref 200, .int x3] (.long v3 :: .int v2 :: .int v1 :: .ref 0 :: []) σ = (mBI (Cc D n_E_write [.ref 0, .int v1, .int v2, .long v3, .null] σ) fun r τ => Xx D n_L_law 2537 [.ref 300, .ref 0, .ref 200, .int x3] [.int r] τ) := (Xx_go D n_L_law (fun p => Nat.beq p 2537) 1 _ _ _ _).trans rfl
set_option maxRecDepth 100000 in
set_option maxHeartbeats 4000000 in
theorem u_2537 (D : Nat) (x3 : Int32) (st : List Value) (σ : mS) : Xx D n_L_law 2537 [.ref 300, .ref 0, .ref 200, .int x3] st σ = (bif mIn (x3 + (1 : Int32)) ((σ.1 299 0).toNatClampNeg) then Xx D n_L_law 2543 [.ref 300, .ref 0, .ref 200, .int x3] (.int (σ.1 300 ((x3 + (1 : Int32)) : Int32).toNatClampNeg) :: .ref 200 :: st) σ else none) := (Xx_go D n_L_law (fun p => Nat.beq p 2543) 6 _ _ _ _).trans rfl
set_option maxRecDepth 100000 in
set_option maxHeartbeats 4000000 in
theorem u_2543 (D : Nat) (x3 : Int32) (st : List Value) (σ : mS) : Xx D n_L_law 2543 [.ref 300, .ref 0, .ref 200, .int x3] st σ = (bif mIn (x3 + (2 : Int32)) ((σ.1 299 0).toNatClampNeg) then Xx D n_L_law 2548 [.ref 300, .ref 0, .ref 200, .int x3] (.int (σ.1 300 ((x3 + (2 : Int32)) : Int32).toNatClampNeg) :: st) σ else none) := (Xx_go D n_L_law (fun p => Nat.beq p 2548) 5 _ _ _ _).trans rfl
set_option maxRecDepth 100000 in
set_option maxHeartbeats 4000000 in
theorem u_2548 (D : Nat) (x3 : Int32) (st : List Value) (σ : mS) : Xx D n_L_law 2548 [.ref 300, .ref 0, .ref 200, .int x3] st σ = (bif mIn (x3 + (3 : Int32)) ((σ.1 299 0).toNatClampNeg) then Xx D n_L_law 2553 [.ref 300, .ref 0, .ref 200, .int x3] (.int (σ.1 300 ((x3 + (3 : Int32)) : Int32).toNatClampNeg) :: st) σ else none) := (Xx_go D n_L_law (fun p => Nat.beq p 2553) 5 _ _ _ _).trans rfl
set_option maxRecDepth 100000 in
set_option maxHeartbeats 4000000 in
theorem u_2553 (D : Nat) (x3 y : Int32) (st : List Value) (σ : mS) : Xx D n_L_law 2553 [.ref 300, .ref 0, .ref 200, .int x3] (.int y :: st) σ = Xx D n_L_law 2557 [.ref 300, .ref 0, .ref 200, .int x3] (.long ((y.toInt64) <<< ((32 : Int32).toInt64 &&& 63)) :: st) σ := (Xx_go D n_L_law (fun p => Nat.beq p 2557) 3 _ _ _ _).trans rfl
set_option maxRecDepth 100000 in
set_option maxHeartbeats 4000000 in
theorem u_2557 (D : Nat) (x3 : Int32) (st : List Value) (σ : mS) : Xx D n_L_law 2557 [.ref 300, .ref 0, .ref 200, .int x3] st σ = (bif mIn (x3 + (4 : Int32)) ((σ.1 299 0).toNatClampNeg) then Xx D n_L_law 2562 [.ref 300, .ref 0, .ref 200, .int x3] (.int (σ.1 300 ((x3 + (4 : Int32)) : Int32).toNatClampNeg) :: st) σ else none) := (Xx_go D n_L_law (fun p => Nat.beq p 2562) 5 _ _ _ _).trans rfl
set_option maxRecDepth 100000 in
set_option maxHeartbeats 4000000 in
theorem u_2562 (D : Nat) (x3 y : Int32) (w : Int64) (st : List Value) (σ : mS) : Xx D n_L_law 2562 [.ref 300, .ref 0, .ref 200, .int x3] (.int y :: .long w :: st) σ = Xx D n_L_law 2568 [.ref 300, .ref 0, .ref 200, .int x3] (.long (w ||| ((y.toInt64) &&& (4294967295 : Int64))) :: st) σ := (Xx_go D n_L_law (fun p => Nat.beq p 2568) 4 _ _ _ _).trans rfl
set_option maxRecDepth 100000 in
set_option maxHeartbeats 4000000 in
theorem u_2568 (D : Nat) (x3 : Int32) (v1 : Int32) (v2 : Int32) (v3 : Int64) (r : Int32) (σ : mS) : Xx D n_L_law 2568 [.ref 300, .ref 0, .ref 200, .int x3] (.long v3 :: .int v2 :: .int v1 :: .ref 200 :: [.int r]) σ = (mBI (Cc D n_M_write [.ref 200, .int v1, .int v2, .long v3, .null] σ) fun r4 τ => Xx D n_L_law 2571 [.ref 300, .ref 0, .ref 200, .int x3] [.int r4, .int r] τ) := (Xx_go D n_L_law (fun p => Nat.beq p 2571) 1 _ _ _ _).trans rfl
set_option maxRecDepth 100000 in
set_option maxHeartbeats 4000000 in
theorem u_2571 (D : Nat) (x3 : Int32) (r r4 : Int32) (σ : mS) : Xx D n_L_law 2571 [.ref 300, .ref 0, .ref 200, .int x3] [.int r4, .int r] σ = (bif decide ((r : Int32) = r4) then Xx D n_L_law 2639 [.ref 300, .ref 0, .ref 200, .int x3] [] σ else (some (.int 0, σ))) := (Xx_go D n_L_law (fun p => Nat.beq p 2639) 3 _ _ _ _).trans rfl
set_option maxRecDepth 100000 in
set_option maxHeartbeats 4000000 in
theorem u_2576 (D : Nat) (x3 : Int32) (st : List Value) (σ : mS) : Xx D n_L_law 2576 [.ref 300, .ref 0, .ref 200, .int x3] st σ = (bif mIn (x3 + (1 : Int32)) ((σ.1 299 0).toNatClampNeg) then Xx D n_L_law 2582 [.ref 300, .ref 0, .ref 200, .int x3] (.int (σ.1 300 ((x3 + (1 : Int32)) : Int32).toNatClampNeg) :: .ref 0 :: st) σ else none) := (Xx_go D n_L_law (fun p => Nat.beq p 2582) 6 _ _ _ _).trans rfl
set_option maxRecDepth 100000 in
set_option maxHeartbeats 4000000 in
theorem u_2582 (D : Nat) (x3 : Int32) (st : List Value) (σ : mS) : Xx D n_L_law 2582 [.ref 300, .ref 0, .ref 200, .int x3] st σ = (bif mIn (x3 + (2 : Int32)) ((σ.1 299 0).toNatClampNeg) then Xx D n_L_law 2587 [.ref 300, .ref 0, .ref 200, .int x3] (.int (σ.1 300 ((x3 + (2 : Int32)) : Int32).toNatClampNeg) :: st) σ else none) := (Xx_go D n_L_law (fun p => Nat.beq p 2587) 5 _ _ _ _).trans rfl
set_option maxRecDepth 100000 in
set_option maxHeartbeats 4000000 in
theorem u_2587 (D : Nat) (x3 : Int32) (st : List Value) (σ : mS) : Xx D n_L_law 2587 [.ref 300, .ref 0, .ref 200, .int x3] st σ = (bif mIn (x3 + (3 : Int32)) ((σ.1 299 0).toNatClampNeg) then Xx D n_L_law 2592 [.ref 300, .ref 0, .ref 200, .int x3] (.int (σ.1 300 ((x3 + (3 : Int32)) : Int32).toNatClampNeg) :: st) σ else none) := (Xx_go D n_L_law (fun p => Nat.beq p 2592) 5 _ _ _ _).trans rfl
set_option maxRecDepth 100000 in
set_option maxHeartbeats 4000000 in
theorem u_2592 (D : Nat) (x3 : Int32) (st : List Value) (σ : mS) : Xx D n_L_law 2592 [.ref 300, .ref 0, .ref 200, .int x3] st σ = (bif mIn (x3 + (4 : Int32)) ((σ.1 299 0).toNatClampNeg) then Xx D n_L_law 2597 [.ref 300, .ref 0, .ref 200, .int x3] (.int (σ.1 300 ((x3 + (4 : Int32)) : Int32).toNatClampNeg) :: st) σ else none) := (Xx_go D n_L_law (fun p => Nat.beq p 2597) 5 _ _ _ _).trans rfl
set_option maxRecDepth 100000 in
set_option maxHeartbeats 4000000 in
theorem u_2597 (D : Nat) (x3 : Int32) (st : List Value) (σ : mS) : Xx D n_L_law 2597 [.ref 300, .ref 0, .ref 200, .int x3] st σ = (bif mIn (x3 + (5 : Int32)) ((σ.1 299 0).toNatClampNeg) then Xx D n_L_law 2602 [.ref 300, .ref 0, .ref 200, .int x3] (.int (σ.1 300 ((x3 + (5 : Int32)) : Int32).toNatClampNeg) :: st) σ else none) := (Xx_go D n_L_law (fun p => Nat.beq p 2602) 5 _ _ _ _).trans rfl
set_option maxRecDepth 100000 in
set_option maxHeartbeats 4000000 in
theorem u_2602 (D : Nat) (x3 : Int32) (v1 : Int32) (v2 : Int32) (v3 : Int32) (v4 : Int32) (v5 : Int32) (σ : mS) : Xx D n_L_law 2602 [.ref 300, .ref 0, .ref 200, .int x3] (.int v5 :: .int v4 :: .int v3 :: .int v2 :: .int v1 :: .ref 0 :: []) σ = (mBI (Cc D n_E_paste [.ref 0, .int v1, .int v2, .int v3, .int v4, .int v5] σ) fun r τ => Xx D n_L_law 2605 [.ref 300, .ref 0, .ref 200, .int x3] [.int r] τ) := (Xx_go D n_L_law (fun p => Nat.beq p 2605) 1 _ _ _ _).trans rfl
set_option maxRecDepth 100000 in
set_option maxHeartbeats 4000000 in
theorem u_2605 (D : Nat) (x3 : Int32) (st : List Value) (σ : mS) : Xx D n_L_law 2605 [.ref 300, .ref 0, .ref 200, .int x3] st σ = (bif mIn (x3 + (1 : Int32)) ((σ.1 299 0).toNatClampNeg) then Xx D n_L_law 2611 [.ref 300, .ref 0, .ref 200, .int x3] (.int (σ.1 300 ((x3 + (1 : Int32)) : Int32).toNatClampNeg) :: .ref 200 :: st) σ else none) := (Xx_go D n_L_law (fun p => Nat.beq p 2611) 6 _ _ _ _).trans rfl
set_option maxRecDepth 100000 in
set_option maxHeartbeats 4000000 in
theorem u_2611 (D : Nat) (x3 : Int32) (st : List Value) (σ : mS) : Xx D n_L_law 2611 [.ref 300, .ref 0, .ref 200, .int x3] st σ = (bif mIn (x3 + (2 : Int32)) ((σ.1 299 0).toNatClampNeg) then Xx D n_L_law 2616 [.ref 300, .ref 0, .ref 200, .int x3] (.int (σ.1 300 ((x3 + (2 : Int32)) : Int32).toNatClampNeg) :: st) σ else none) := (Xx_go D n_L_law (fun p => Nat.beq p 2616) 5 _ _ _ _).trans rfl
set_option maxRecDepth 100000 in
set_option maxHeartbeats 4000000 in
theorem u_2616 (D : Nat) (x3 : Int32) (st : List Value) (σ : mS) : Xx D n_L_law 2616 [.ref 300, .ref 0, .ref 200, .int x3] st σ = (bif mIn (x3 + (3 : Int32)) ((σ.1 299 0).toNatClampNeg) then Xx D n_L_law 2621 [.ref 300, .ref 0, .ref 200, .int x3] (.int (σ.1 300 ((x3 + (3 : Int32)) : Int32).toNatClampNeg) :: st) σ else none) := (Xx_go D n_L_law (fun p => Nat.beq p 2621) 5 _ _ _ _).trans rfl
set_option maxRecDepth 100000 in
set_option maxHeartbeats 4000000 in
theorem u_2621 (D : Nat) (x3 : Int32) (st : List Value) (σ : mS) : Xx D n_L_law 2621 [.ref 300, .ref 0, .ref 200, .int x3] st σ = (bif mIn (x3 + (4 : Int32)) ((σ.1 299 0).toNatClampNeg) then Xx D n_L_law 2626 [.ref 300, .ref 0, .ref 200, .int x3] (.int (σ.1 300 ((x3 + (4 : Int32)) : Int32).toNatClampNeg) :: st) σ else none) := (Xx_go D n_L_law (fun p => Nat.beq p 2626) 5 _ _ _ _).trans rfl
set_option maxRecDepth 100000 in
set_option maxHeartbeats 4000000 in
theorem u_2626 (D : Nat) (x3 : Int32) (st : List Value) (σ : mS) : Xx D n_L_law 2626 [.ref 300, .ref 0, .ref 200, .int x3] st σ = (bif mIn (x3 + (5 : Int32)) ((σ.1 299 0).toNatClampNeg) then Xx D n_L_law 2631 [.ref 300, .ref 0, .ref 200, .int x3] (.int (σ.1 300 ((x3 + (5 : Int32)) : Int32).toNatClampNeg) :: st) σ else none) := (Xx_go D n_L_law (fun p => Nat.beq p 2631) 5 _ _ _ _).trans rfl
set_option maxRecDepth 100000 in
set_option maxHeartbeats 4000000 in
theorem u_2631 (D : Nat) (x3 : Int32) (v1 : Int32) (v2 : Int32) (v3 : Int32) (v4 : Int32) (v5 : Int32) (r : Int32) (σ : mS) : Xx D n_L_law 2631 [.ref 300, .ref 0, .ref 200, .int x3] (.int v5 :: .int v4 :: .int v3 :: .int v2 :: .int v1 :: .ref 200 :: [.int r]) σ = (mBI (Cc D n_M_paste [.ref 200, .int v1, .int v2, .int v3, .int v4, .int v5, .null] σ) fun r4 τ => Xx D n_L_law 2634 [.ref 300, .ref 0, .ref 200, .int x3] [.int r4, .int r] τ) := (Xx_go D n_L_law (fun p => Nat.beq p 2634) 1 _ _ _ _).trans rfl
set_option maxRecDepth 100000 in
set_option maxHeartbeats 4000000 in
theorem u_2634 (D : Nat) (x3 : Int32) (r r4 : Int32) (σ : mS) : Xx D n_L_law 2634 [.ref 300, .ref 0, .ref 200, .int x3] [.int r4, .int r] σ = (bif decide ((r : Int32) = r4) then Xx D n_L_law 2639 [.ref 300, .ref 0, .ref 200, .int x3] [] σ else (some (.int 0, σ))) := (Xx_go D n_L_law (fun p => Nat.beq p 2639) 3 _ _ _ _).trans rfl
set_option maxRecDepth 100000 in
set_option maxHeartbeats 4000000 in
theorem q_L_law_2639 (D : Nat) (x3 : Int32) (σ : mS) : Xx D n_L_law 2639 [.ref 300, .ref 0, .ref 200, .int x3] [] σ = Xx D n_L_law 18 [.ref 300, .ref 0, .ref 200, .int (x3 + 6)] [] σ := (Xx_go D n_L_law (fun p => Nat.beq p 18) 2 _ _ _ _).trans rfl
