def T128 (d : Nat) (Q : j3_P) : j3_K := j3_T false (j3_tc false d) jc_X9_feed (some .boolean) Q
theorem e128 {d : Nat} {Q : j3_P} {σ : j3_S} {x1 : Int} {x2 : Int} {x3 : Int} {x4 : Int} {x5 : Int} : j3_tc false (d + 1) 128 [wO 9 0, wI x1, wI x2, wI x3, wI x4, wI x5] σ Q = T128 d Q 0 [wO 9 0, wI x1, wI x2, wI x3, wI x4, wI x5] [] σ := j3_entry ⟨Nat.le_of_ble_eq_true rfl, rfl⟩
set_option maxRecDepth 100000 in
theorem b128_0 {d : Nat} {Q : j3_P} {σ : j3_S} {x1 : Int} {x2 : Int} {x3 : Int} {x4 : Int} {x5 : Int} :
  T128 d Q 0 [wO 9 0, wI x1, wI x2, wI x3, wI x4, wI x5] [] σ = (if (4000 : Int) < (wr ((σ.1 9001 0) + 20)) then (((0 : Int) = 0 ∨ (0 : Int) = 1) ∧ Q (some (wI 0)) σ) else j3_tc false d 129 [wO 9 0, wI x1] σ (fun r σ1 => T128 d Q 11 [wO 9 0, wI x1, wI x2, wI x3, wI x4, wI x5] (r.toList ++ []) σ1)) := j3_T.go d [0, 11, 14, 17, 20, 23] 400
set_option maxRecDepth 100000 in
theorem b128_11 {d : Nat} {Q : j3_P} {σ : j3_S} {x1 : Int} {x2 : Int} {x3 : Int} {x4 : Int} {x5 : Int} :
  T128 d Q 11 [wO 9 0, wI x1, wI x2, wI x3, wI x4, wI x5] [] σ = j3_tc false d 129 [wO 9 0, wI x2] σ (fun r σ1 => T128 d Q 14 [wO 9 0, wI x1, wI x2, wI x3, wI x4, wI x5] (r.toList ++ []) σ1) := j3_T.go d [0, 11, 14, 17, 20, 23] 400
set_option maxRecDepth 100000 in
theorem b128_14 {d : Nat} {Q : j3_P} {σ : j3_S} {x1 : Int} {x2 : Int} {x3 : Int} {x4 : Int} {x5 : Int} :
  T128 d Q 14 [wO 9 0, wI x1, wI x2, wI x3, wI x4, wI x5] [] σ = j3_tc false d 129 [wO 9 0, wI x3] σ (fun r σ1 => T128 d Q 17 [wO 9 0, wI x1, wI x2, wI x3, wI x4, wI x5] (r.toList ++ []) σ1) := j3_T.go d [0, 11, 14, 17, 20, 23] 400
set_option maxRecDepth 100000 in
theorem b128_17 {d : Nat} {Q : j3_P} {σ : j3_S} {x1 : Int} {x2 : Int} {x3 : Int} {x4 : Int} {x5 : Int} :
  T128 d Q 17 [wO 9 0, wI x1, wI x2, wI x3, wI x4, wI x5] [] σ = j3_tc false d 129 [wO 9 0, wI x4] σ (fun r σ1 => T128 d Q 20 [wO 9 0, wI x1, wI x2, wI x3, wI x4, wI x5] (r.toList ++ []) σ1) := j3_T.go d [0, 11, 14, 17, 20, 23] 400
set_option maxRecDepth 100000 in
theorem b128_20 {d : Nat} {Q : j3_P} {σ : j3_S} {x1 : Int} {x2 : Int} {x3 : Int} {x4 : Int} {x5 : Int} :
  T128 d Q 20 [wO 9 0, wI x1, wI x2, wI x3, wI x4, wI x5] [] σ = j3_tc false d 129 [wO 9 0, wI x5] σ (fun r σ1 => T128 d Q 23 [wO 9 0, wI x1, wI x2, wI x3, wI x4, wI x5] (r.toList ++ []) σ1) := j3_T.go d [0, 11, 14, 17, 20, 23] 400
set_option maxRecDepth 100000 in
theorem b128_23 {d : Nat} {Q : j3_P} {σ : j3_S} {x1 : Int} {x2 : Int} {x3 : Int} {x4 : Int} {x5 : Int} :
  T128 d Q 23 [wO 9 0, wI x1, wI x2, wI x3, wI x4, wI x5] [] σ = (((1 : Int) = 0 ∨ (1 : Int) = 1) ∧ Q (some (wI 1)) σ) := j3_T.go d [0, 11, 14, 17, 20, 23] 400
def T129 (d : Nat) (Q : j3_P) : j3_K := j3_T false (j3_tc false d) jc_X9_addNumber none Q
theorem e129 {d : Nat} {Q : j3_P} {σ : j3_S} {x1 : Int} : j3_tc false (d + 1) 129 [wO 9 0, wI x1] σ Q = T129 d Q 0 [wO 9 0, wI x1, wM 2] [] σ := j3_entry ⟨Nat.le_of_ble_eq_true rfl, rfl⟩
set_option maxRecDepth 100000 in
theorem b129_0 {d : Nat} {Q : j3_P} {σ : j3_S} {x1 : Int} :
  T129 d Q 0 [wO 9 0, wI x1, wM 2] [] σ = T129 d Q 2 [wO 9 0, wI x1, wI 24] [] σ := j3_T.go d [0, 2, 23] 400
set_option maxRecDepth 100000 in
theorem b129_2 {d : Nat} {Q : j3_P} {σ : j3_S} {x1 : Int} {x2 : Int} :
  T129 d Q 2 [wO 9 0, wI x1, wI x2] [] σ = (if x2 < 0 then Q none σ else (if (σ.1 9001 0) < (4000 : Int) then ((-128 ≤ (i_tb (i_sr x1 x2)) ∧ (i_tb (i_sr x1 x2)) < 128) ∧ (0 ≤ (σ.1 9001 0) ∧ (σ.1 9001 0) < 4000) ∧ T129 d Q 23 [wO 9 0, wI x1, wI x2] [] ((j3_up σ.1 9001 0 (wr ((σ.1 9001 0) + 1))), σ.2.1, (j3_ast σ.2.2 9000 0 (σ.1 9001 0) (i_tb (i_sr x1 x2))))) else T129 d Q 23 [wO 9 0, wI x1, wI x2] [] σ)) := j3_T.go d [0, 2, 23] 400
set_option maxRecDepth 100000 in
theorem b129_23 {d : Nat} {Q : j3_P} {σ : j3_S} {x1 : Int} {x2 : Int} :
  T129 d Q 23 [wO 9 0, wI x1, wI x2] [] σ = T129 d Q 2 [wO 9 0, wI x1, wI (wr (x2 + (-8)))] [] σ := j3_T.go d [0, 2, 23] 400
def T130 (d : Nat) (Q : j3_P) : j3_K := j3_T false (j3_tc false d) jc_X9_end (some .boolean) Q
theorem e130 {d : Nat} {Q : j3_P} {σ : j3_S} {x1 : Int} : j3_tc false (d + 1) 130 [wO 9 0, wI x1] σ Q = T130 d Q 0 [wO 9 0, wI x1] [] σ := j3_entry ⟨Nat.le_of_ble_eq_true rfl, rfl⟩
set_option maxRecDepth 100000 in
theorem b130_0 {d : Nat} {Q : j3_P} {σ : j3_S} {x1 : Int} :
  T130 d Q 0 [wO 9 0, wI x1] [] σ = (if x1 < 0 then (((0 : Int) = 0 ∨ (0 : Int) = 1) ∧ Q (some (wI 0)) σ) else (if (σ.1 9001 0) < x1 then (((0 : Int) = 0 ∨ (0 : Int) = 1) ∧ Q (some (wI 0)) σ) else (((1 : Int) = 0 ∨ (1 : Int) = 1) ∧ Q (some (wI 1)) ((j3_up σ.1 9001 0 x1), σ.2.1, σ.2.2)))) := j3_T.go d [0] 400
def T131 (d : Nat) (Q : j3_P) : j3_K := j3_T false (j3_tc false d) jc_X9_read (some .int) Q
theorem e131 {d : Nat} {Q : j3_P} {σ : j3_S}  : j3_tc false (d + 1) 131 [wO 9 0] σ Q = T131 d Q 0 [wO 9 0, wM 2, wM 2, wM 2] [] σ := j3_entry ⟨Nat.le_of_ble_eq_true rfl, rfl⟩
set_option maxRecDepth 100000 in
theorem b131_0 {d : Nat} {Q : j3_P} {σ : j3_S}  :
  T131 d Q 0 [wO 9 0, wM 2, wM 2, wM 2] [] σ = j3_tc false d 132 [wO 9 0, wI (σ.1 9001 0)] ((j3_up (j3_up σ.1 9001 0 0) 9013 0 (-1)), σ.2.1, σ.2.2) (fun r σ1 => T131 d Q 12 [wO 9 0, wI (σ.1 9001 0), wM 2, wM 2] (r.toList ++ []) σ1) := j3_T.go d [0, 12, 40] 400
set_option maxRecDepth 100000 in
theorem b131_12 {d : Nat} {Q : j3_P} {σ : j3_S} {x1 : Int} {xs0 : Int} :
  T131 d Q 12 [wO 9 0, wI x1, wM 2, wM 2] [wI xs0] σ = (if xs0 = 0 then (¬ (σ.2.1 7) = 0 ∧ (¬ (σ.2.1 9) = 0 ∧ (((1 : Int) = 0 ∨ (1 : Int) = 1) ∧ (((0 : Int) = 0 ∨ (0 : Int) = 1) ∧ j3_tc false d 19 [wO 2 109] ((j3_up (j3_up (j3_up (j3_up σ.1 9005 0 1) 9006 0 0) 9007 0 x1) 9009 0 0), (j3_upP (j3_upP σ.2.1 7 (σ.2.1 9)) 9 (σ.2.1 7)), σ.2.2) (fun r σ1 => T131 d Q 40 [wO 9 0, wI x1, wI xs0, wO 3 (σ.2.1 7)] (r.toList ++ []) σ1))))) else T131 d Q 40 [wO 9 0, wI x1, wI xs0, wM 2] [] σ) := j3_T.go d [0, 12, 40] 400
set_option maxRecDepth 100000 in
theorem b131_40 {d : Nat} {Q : j3_P} {σ : j3_S} {x1 : Int} {x2 : Int} {w3 : j3_W} :
  T131 d Q 40 [wO 9 0, wI x1, wI x2, w3] [] σ = Q (some (wI x2)) σ := j3_T.go d [0, 12, 40] 400
def T132 (d : Nat) (Q : j3_P) : j3_K := j3_T false (j3_tc false d) jc_X9_findFault (some .int) Q
theorem e132 {d : Nat} {Q : j3_P} {σ : j3_S} {x1 : Int} : j3_tc false (d + 1) 132 [wO 9 0, wI x1] σ Q = T132 d Q 0 [wO 9 0, wI x1, wM 2, wM 2, wM 2, wM 2] [] σ := j3_entry ⟨Nat.le_of_ble_eq_true rfl, rfl⟩
set_option maxRecDepth 100000 in
theorem b132_0 {d : Nat} {Q : j3_P} {σ : j3_S} {x1 : Int} :
  T132 d Q 0 [wO 9 0, wI x1, wM 2, wM 2, wM 2, wM 2] [] σ = (¬ (σ.2.1 9) = 0 ∧ j3_tc false d 64 [wO 5 73, wA 9000 0, wI x1, wO 3 (σ.2.1 9)] σ (fun r σ1 => T132 d Q 8 [wO 9 0, wI x1, wM 2, wM 2, wM 2, wM 2] (r.toList ++ []) σ1)) := j3_T.go d [0, 8, 18, 22, 35, 38, 49, 72, 81] 400
set_option maxRecDepth 100000 in
theorem b132_8 {d : Nat} {Q : j3_P} {σ : j3_S} {x1 : Int} {xs0 : Int} :
  T132 d Q 8 [wO 9 0, wI x1, wM 2, wM 2, wM 2, wM 2] [wI xs0] σ = (if xs0 = (-1 : Int) then j3_tc false d 73 [wO 5 73] σ (fun r σ1 => T132 d Q 22 [wO 9 0, wI x1, wI xs0, wM 2, wM 2, wM 2] (r.toList ++ []) σ1) else j3_tc false d 133 [wO 9 0, wI 1, wI xs0, wI (-1), wI (-1)] σ (fun r σ1 => T132 d Q 18 [wO 9 0, wI x1, wI xs0, wM 2, wM 2, wM 2] (r.toList ++ []) σ1)) := j3_T.go d [0, 8, 18, 22, 35, 38, 49, 72, 81] 400
set_option maxRecDepth 100000 in
theorem b132_18 {d : Nat} {Q : j3_P} {σ : j3_S} {x1 : Int} {x2 : Int} {xs0 : Int} :
  T132 d Q 18 [wO 9 0, wI x1, wI x2, wM 2, wM 2, wM 2] [wI xs0] σ = Q (some (wI xs0)) σ := j3_T.go d [0, 8, 18, 22, 35, 38, 49, 72, 81] 400
set_option maxRecDepth 100000 in
theorem b132_22 {d : Nat} {Q : j3_P} {σ : j3_S} {x1 : Int} {x2 : Int} {xs0 : Int} :
  T132 d Q 22 [wO 9 0, wI x1, wI x2, wM 2, wM 2, wM 2] [wI xs0] σ = (if xs0 = 0 then T132 d Q 38 [wO 9 0, wI x1, wI x2, wI 0, wM 2, wM 2] [] σ else j3_tc false d 133 [wO 9 0, wI 2, wI (σ.1 5008 73), wI (σ.1 5009 73), wI (σ.1 5010 73)] σ (fun r σ1 => T132 d Q 35 [wO 9 0, wI x1, wI x2, wM 2, wM 2, wM 2] (r.toList ++ []) σ1)) := j3_T.go d [0, 8, 18, 22, 35, 38, 49, 72, 81] 400
set_option maxRecDepth 100000 in
theorem b132_35 {d : Nat} {Q : j3_P} {σ : j3_S} {x1 : Int} {x2 : Int} {xs0 : Int} :
  T132 d Q 35 [wO 9 0, wI x1, wI x2, wM 2, wM 2, wM 2] [wI xs0] σ = Q (some (wI xs0)) σ := j3_T.go d [0, 8, 18, 22, 35, 38, 49, 72, 81] 400
set_option maxRecDepth 100000 in
theorem b132_38 {d : Nat} {Q : j3_P} {σ : j3_S} {x1 : Int} {x2 : Int} {x3 : Int} {w4 : j3_W} :
  T132 d Q 38 [wO 9 0, wI x1, wI x2, wI x3, w4, wM 2] [] σ = (¬ (σ.2.1 9) = 0 ∧ (if x3 < (σ.1 3001 (σ.2.1 9)) then (¬ (σ.2.1 9) = 0 ∧ j3_tc false d 2 [wO 1 76, wO 3 (σ.2.1 9), wI x3] σ (fun r σ1 => T132 d Q 49 [wO 9 0, wI x1, wI x2, wI x3, w4, wM 2] (r.toList ++ []) σ1)) else j3_tc false d 133 [wO 9 0, wI 0, wI (-1), wI (-1), wI (-1)] σ (fun r σ1 => T132 d Q 81 [wO 9 0, wI x1, wI x2, wI x3, w4, wM 2] (r.toList ++ []) σ1))) := j3_T.go d [0, 8, 18, 22, 35, 38, 49, 72, 81] 400
set_option maxRecDepth 100000 in
theorem b132_49 {d : Nat} {Q : j3_P} {σ : j3_S} {x1 : Int} {x2 : Int} {x3 : Int} {w4 : j3_W} {xs0 : Int} :
  T132 d Q 49 [wO 9 0, wI x1, wI x2, wI x3, w4, wM 2] [wI xs0] σ = (if xs0 = 0 then T132 d Q 38 [wO 9 0, wI x1, wI x2, wI (wr (x3 + 1)), wI xs0, wM 2] [] σ else (¬ (σ.2.1 9) = 0 ∧ ((0 ≤ x3 ∧ x3 < 80) ∧ (¬ (σ.2.1 9) = 0 ∧ ((0 ≤ (σ.2.2 3011 (σ.2.1 9) x3) ∧ (σ.2.2 3011 (σ.2.1 9) x3) < 10) ∧ j3_tc false d 133 [wO 9 0, wI xs0, wI (σ.2.2 3011 (σ.2.1 9) x3), wI (wr (x3 - (σ.2.2 3007 (σ.2.1 9) (σ.2.2 3011 (σ.2.1 9) x3)))), wI (σ.1 1000 76)] σ (fun r σ1 => T132 d Q 72 [wO 9 0, wI x1, wI x2, wI x3, wI xs0, wI (σ.2.2 3011 (σ.2.1 9) x3)] (r.toList ++ []) σ1)))))) := j3_T.go d [0, 8, 18, 22, 35, 38, 49, 72, 81] 400
set_option maxRecDepth 100000 in
theorem b132_72 {d : Nat} {Q : j3_P} {σ : j3_S} {x1 : Int} {x2 : Int} {x3 : Int} {x4 : Int} {x5 : Int} {xs0 : Int} :
  T132 d Q 72 [wO 9 0, wI x1, wI x2, wI x3, wI x4, wI x5] [wI xs0] σ = Q (some (wI xs0)) σ := j3_T.go d [0, 8, 18, 22, 35, 38, 49, 72, 81] 400
set_option maxRecDepth 100000 in
theorem b132_81 {d : Nat} {Q : j3_P} {σ : j3_S} {x1 : Int} {x2 : Int} {x3 : Int} {w4 : j3_W} {xs0 : Int} :
  T132 d Q 81 [wO 9 0, wI x1, wI x2, wI x3, w4, wM 2] [wI xs0] σ = Q (some (wI xs0)) σ := j3_T.go d [0, 8, 18, 22, 35, 38, 49, 72, 81] 400
def T133 (d : Nat) (Q : j3_P) : j3_K := j3_T false (j3_tc false d) jc_X9_tellFault (some .int) Q
theorem e133 {d : Nat} {Q : j3_P} {σ : j3_S} {x1 : Int} {x2 : Int} {x3 : Int} {x4 : Int} : j3_tc false (d + 1) 133 [wO 9 0, wI x1, wI x2, wI x3, wI x4] σ Q = T133 d Q 0 [wO 9 0, wI x1, wI x2, wI x3, wI x4] [] σ := j3_entry ⟨Nat.le_of_ble_eq_true rfl, rfl⟩
set_option maxRecDepth 100000 in
theorem b133_0 {d : Nat} {Q : j3_P} {σ : j3_S} {x1 : Int} {x2 : Int} {x3 : Int} {x4 : Int} :
  T133 d Q 0 [wO 9 0, wI x1, wI x2, wI x3, wI x4] [] σ = ((0 ≤ (0 : Int) ∧ (0 : Int) < 4) ∧ ((0 ≤ (1 : Int) ∧ (1 : Int) < 4) ∧ ((0 ≤ (2 : Int) ∧ (2 : Int) < 4) ∧ ((0 ≤ (3 : Int) ∧ (3 : Int) < 4) ∧ Q (some (wI x1)) (σ.1, σ.2.1, (j3_ast (j3_ast (j3_ast (j3_ast σ.2.2 9010 0 0 x1) 9010 0 1 x2) 9010 0 2 x3) 9010 0 3 x4)))))) := j3_T.go d [0] 400
def T134 (d : Nat) (Q : j3_P) : j3_K := j3_T false (j3_tc false d) jc_X9_fault (some .int) Q
theorem e134 {d : Nat} {Q : j3_P} {σ : j3_S} {x1 : Int} : j3_tc false (d + 1) 134 [wO 9 0, wI x1] σ Q = T134 d Q 0 [wO 9 0, wI x1] [] σ := j3_entry ⟨Nat.le_of_ble_eq_true rfl, rfl⟩
set_option maxRecDepth 100000 in
theorem b134_0 {d : Nat} {Q : j3_P} {σ : j3_S} {x1 : Int} :
  T134 d Q 0 [wO 9 0, wI x1] [] σ = (if x1 < 0 then Q (some (wI (-1))) σ else (if x1 < (4 : Int) then ((0 ≤ x1 ∧ x1 < 4) ∧ Q (some (wI (σ.2.2 9010 0 x1))) σ) else Q (some (wI (-1))) σ)) := j3_T.go d [0] 400
def T135 (d : Nat) (Q : j3_P) : j3_K := j3_T false (j3_tc false d) jc_X9_size (some .int) Q
theorem e135 {d : Nat} {Q : j3_P} {σ : j3_S} {x1 : Int} {x2 : Int} : j3_tc false (d + 1) 135 [wO 9 0, wI x1, wI x2] σ Q = T135 d Q 0 [wO 9 0, wI x1, wI x2, wM 2] [] σ := j3_entry ⟨Nat.le_of_ble_eq_true rfl, rfl⟩
set_option maxRecDepth 100000 in
theorem b135_0 {d : Nat} {Q : j3_P} {σ : j3_S} {x1 : Int} {x2 : Int} :
  T135 d Q 0 [wO 9 0, wI x1, wI x2, wM 2] [] σ = (if x2 < 0 then Q (some (wI (-1))) σ else (if (4 : Int) < x2 then Q (some (wI (-1))) σ else (if x1 = 0 then (if (σ.1 9005 0) = 0 then Q (some (wI 0)) σ else T135 d Q 18 [wO 9 0, wI x1, wI x2, wM 2] [] σ) else (if (σ.1 9006 0) = 0 then Q (some (wI 0)) σ else T135 d Q 18 [wO 9 0, wI x1, wI x2, wM 2] [] σ)))) := j3_T.go d [0, 18, 25, 28, 31, 33, 34, 37, 39, 40] 400
set_option maxRecDepth 100000 in
theorem b135_18 {d : Nat} {Q : j3_P} {σ : j3_S} {x1 : Int} {x2 : Int} :
  T135 d Q 18 [wO 9 0, wI x1, wI x2, wM 2] [] σ = (if x1 = 0 then (¬ (σ.2.1 7) = 0 ∧ T135 d Q 25 [wO 9 0, wI x1, wI x2, wM 2] [wO 3 (σ.2.1 7)] σ) else (¬ (σ.2.1 8) = 0 ∧ T135 d Q 25 [wO 9 0, wI x1, wI x2, wM 2] [wO 3 (σ.2.1 8)] σ)) := j3_T.go d [0, 18, 25, 28, 31, 33, 34, 37, 39, 40] 400
set_option maxRecDepth 100000 in
theorem b135_25 {d : Nat} {Q : j3_P} {σ : j3_S} {x1 : Int} {x2 : Int} {os0 : Nat} :
  T135 d Q 25 [wO 9 0, wI x1, wI x2, wM 2] [wO 3 os0] σ = (if x2 = 0 then T135 d Q 28 [wO 9 0, wI x1, wI x2, wO 3 os0] [] σ else (if x2 = 1 then T135 d Q 31 [wO 9 0, wI x1, wI x2, wO 3 os0] [] σ else (if x2 = 2 then T135 d Q 34 [wO 9 0, wI x1, wI x2, wO 3 os0] [] σ else (if x2 = 3 then T135 d Q 37 [wO 9 0, wI x1, wI x2, wO 3 os0] [] σ else T135 d Q 40 [wO 9 0, wI x1, wI x2, wO 3 os0] [] σ)))) := j3_T.go d [0, 18, 25, 28, 31, 33, 34, 37, 39, 40] 400
set_option maxRecDepth 100000 in
theorem b135_28 {d : Nat} {Q : j3_P} {σ : j3_S} {x1 : Int} {x2 : Int} {o3 : Nat} :
  T135 d Q 28 [wO 9 0, wI x1, wI x2, wO 3 o3] [] σ = Q (some (wI (σ.1 3000 o3))) σ := j3_T.go d [0, 18, 25, 28, 31, 33, 34, 37, 39, 40] 400
set_option maxRecDepth 100000 in
theorem b135_31 {d : Nat} {Q : j3_P} {σ : j3_S} {x1 : Int} {x2 : Int} {o3 : Nat} :
  T135 d Q 31 [wO 9 0, wI x1, wI x2, wO 3 o3] [] σ = j3_tc false d 46 [wO 3 o3] σ (fun r σ1 => T135 d Q 33 [wO 9 0, wI x1, wI x2, wO 3 o3] (r.toList ++ []) σ1) := j3_T.go d [0, 18, 25, 28, 31, 33, 34, 37, 39, 40] 400
set_option maxRecDepth 100000 in
theorem b135_33 {d : Nat} {Q : j3_P} {σ : j3_S} {x1 : Int} {x2 : Int} {o3 : Nat} {xs0 : Int} :
  T135 d Q 33 [wO 9 0, wI x1, wI x2, wO 3 o3] [wI xs0] σ = Q (some (wI xs0)) σ := j3_T.go d [0, 18, 25, 28, 31, 33, 34, 37, 39, 40] 400
set_option maxRecDepth 100000 in
theorem b135_34 {d : Nat} {Q : j3_P} {σ : j3_S} {x1 : Int} {x2 : Int} {o3 : Nat} :
  T135 d Q 34 [wO 9 0, wI x1, wI x2, wO 3 o3] [] σ = Q (some (wI (σ.1 3001 o3))) σ := j3_T.go d [0, 18, 25, 28, 31, 33, 34, 37, 39, 40] 400
set_option maxRecDepth 100000 in
theorem b135_37 {d : Nat} {Q : j3_P} {σ : j3_S} {x1 : Int} {x2 : Int} {o3 : Nat} :
  T135 d Q 37 [wO 9 0, wI x1, wI x2, wO 3 o3] [] σ = j3_tc false d 47 [wO 3 o3] σ (fun r σ1 => T135 d Q 39 [wO 9 0, wI x1, wI x2, wO 3 o3] (r.toList ++ []) σ1) := j3_T.go d [0, 18, 25, 28, 31, 33, 34, 37, 39, 40] 400
set_option maxRecDepth 100000 in
theorem b135_39 {d : Nat} {Q : j3_P} {σ : j3_S} {x1 : Int} {x2 : Int} {o3 : Nat} {xs0 : Int} :
  T135 d Q 39 [wO 9 0, wI x1, wI x2, wO 3 o3] [wI xs0] σ = Q (some (wI xs0)) σ := j3_T.go d [0, 18, 25, 28, 31, 33, 34, 37, 39, 40] 400
set_option maxRecDepth 100000 in
theorem b135_40 {d : Nat} {Q : j3_P} {σ : j3_S} {x1 : Int} {x2 : Int} {o3 : Nat} :
  T135 d Q 40 [wO 9 0, wI x1, wI x2, wO 3 o3] [] σ = (if x1 = 0 then Q (some (wI (σ.1 9007 0))) σ else Q (some (wI (σ.1 8001 90))) σ) := j3_T.go d [0, 18, 25, 28, 31, 33, 34, 37, 39, 40] 400
def T136 (d : Nat) (Q : j3_P) : j3_K := j3_T false (j3_tc false d) jc_X9_method (some .int) Q
theorem e136 {d : Nat} {Q : j3_P} {σ : j3_S} {x1 : Int} {x2 : Int} {x3 : Int} {x4 : Int} : j3_tc false (d + 1) 136 [wO 9 0, wI x1, wI x2, wI x3, wI x4] σ Q = T136 d Q 0 [wO 9 0, wI x1, wI x2, wI x3, wI x4, wM 2, wM 2] [] σ := j3_entry ⟨Nat.le_of_ble_eq_true rfl, rfl⟩
set_option maxRecDepth 100000 in
theorem b136_0 {d : Nat} {Q : j3_P} {σ : j3_S} {x1 : Int} {x2 : Int} {x3 : Int} {x4 : Int} :
  T136 d Q 0 [wO 9 0, wI x1, wI x2, wI x3, wI x4, wM 2, wM 2] [] σ = (if x1 = 0 then (¬ (σ.2.1 7) = 0 ∧ T136 d Q 7 [wO 9 0, wI x1, wI x2, wI x3, wI x4, wM 2, wM 2] [wO 3 (σ.2.1 7)] σ) else (¬ (σ.2.1 8) = 0 ∧ T136 d Q 7 [wO 9 0, wI x1, wI x2, wI x3, wI x4, wM 2, wM 2] [wO 3 (σ.2.1 8)] σ)) := j3_T.go d [0, 7, 17, 21, 33, 38, 43, 48, 53, 58, 64, 66] 400
set_option maxRecDepth 100000 in
theorem b136_7 {d : Nat} {Q : j3_P} {σ : j3_S} {x1 : Int} {x2 : Int} {x3 : Int} {x4 : Int} {os0 : Nat} :
  T136 d Q 7 [wO 9 0, wI x1, wI x2, wI x3, wI x4, wM 2, wM 2] [wO 3 os0] σ = (if x1 = 0 then (if (σ.1 9005 0) = 0 then Q (some (wI (-1))) σ else T136 d Q 17 [wO 9 0, wI x1, wI x2, wI x3, wI x4, wO 3 os0, wM 2] [] σ) else (if (σ.1 9006 0) = 0 then Q (some (wI (-1))) σ else T136 d Q 17 [wO 9 0, wI x1, wI x2, wI x3, wI x4, wO 3 os0, wM 2] [] σ)) := j3_T.go d [0, 7, 17, 21, 33, 38, 43, 48, 53, 58, 64, 66] 400
set_option maxRecDepth 100000 in
theorem b136_17 {d : Nat} {Q : j3_P} {σ : j3_S} {x1 : Int} {x2 : Int} {x3 : Int} {x4 : Int} {o5 : Nat} :
  T136 d Q 17 [wO 9 0, wI x1, wI x2, wI x3, wI x4, wO 3 o5, wM 2] [] σ = j3_tc false d 43 [wO 3 o5, wI x2, wI x3] σ (fun r σ1 => T136 d Q 21 [wO 9 0, wI x1, wI x2, wI x3, wI x4, wO 3 o5, wM 2] (r.toList ++ []) σ1) := j3_T.go d [0, 7, 17, 21, 33, 38, 43, 48, 53, 58, 64, 66] 400
set_option maxRecDepth 100000 in
theorem b136_21 {d : Nat} {Q : j3_P} {σ : j3_S} {x1 : Int} {x2 : Int} {x3 : Int} {x4 : Int} {o5 : Nat} {xs0 : Int} :
  T136 d Q 21 [wO 9 0, wI x1, wI x2, wI x3, wI x4, wO 3 o5, wM 2] [wI xs0] σ = (if xs0 = 0 then Q (some (wI (-1))) σ else ((0 ≤ x2 ∧ x2 < 10) ∧ (if x4 = 0 then T136 d Q 33 [wO 9 0, wI x1, wI x2, wI x3, wI x4, wO 3 o5, wI (wr ((σ.2.2 3007 o5 x2) + x3))] [] σ else (if x4 = 1 then T136 d Q 38 [wO 9 0, wI x1, wI x2, wI x3, wI x4, wO 3 o5, wI (wr ((σ.2.2 3007 o5 x2) + x3))] [] σ else (if x4 = 2 then T136 d Q 43 [wO 9 0, wI x1, wI x2, wI x3, wI x4, wO 3 o5, wI (wr ((σ.2.2 3007 o5 x2) + x3))] [] σ else (if x4 = 3 then T136 d Q 48 [wO 9 0, wI x1, wI x2, wI x3, wI x4, wO 3 o5, wI (wr ((σ.2.2 3007 o5 x2) + x3))] [] σ else (if x4 = 4 then T136 d Q 53 [wO 9 0, wI x1, wI x2, wI x3, wI x4, wO 3 o5, wI (wr ((σ.2.2 3007 o5 x2) + x3))] [] σ else (if x4 = 5 then T136 d Q 58 [wO 9 0, wI x1, wI x2, wI x3, wI x4, wO 3 o5, wI (wr ((σ.2.2 3007 o5 x2) + x3))] [] σ else (if x4 = 6 then T136 d Q 64 [wO 9 0, wI x1, wI x2, wI x3, wI x4, wO 3 o5, wI (wr ((σ.2.2 3007 o5 x2) + x3))] [] σ else T136 d Q 66 [wO 9 0, wI x1, wI x2, wI x3, wI x4, wO 3 o5, wI (wr ((σ.2.2 3007 o5 x2) + x3))] [] σ))))))))) := j3_T.go d [0, 7, 17, 21, 33, 38, 43, 48, 53, 58, 64, 66] 400
set_option maxRecDepth 100000 in
theorem b136_33 {d : Nat} {Q : j3_P} {σ : j3_S} {x1 : Int} {x2 : Int} {x3 : Int} {x4 : Int} {o5 : Nat} {x6 : Int} :
  T136 d Q 33 [wO 9 0, wI x1, wI x2, wI x3, wI x4, wO 3 o5, wI x6] [] σ = ((0 ≤ x6 ∧ x6 < 80) ∧ Q (some (wI (σ.2.2 3012 o5 x6))) σ) := j3_T.go d [0, 7, 17, 21, 33, 38, 43, 48, 53, 58, 64, 66] 400
set_option maxRecDepth 100000 in
theorem b136_38 {d : Nat} {Q : j3_P} {σ : j3_S} {x1 : Int} {x2 : Int} {x3 : Int} {x4 : Int} {o5 : Nat} {x6 : Int} :
  T136 d Q 38 [wO 9 0, wI x1, wI x2, wI x3, wI x4, wO 3 o5, wI x6] [] σ = ((0 ≤ x6 ∧ x6 < 80) ∧ Q (some (wI (σ.2.2 3013 o5 x6))) σ) := j3_T.go d [0, 7, 17, 21, 33, 38, 43, 48, 53, 58, 64, 66] 400
set_option maxRecDepth 100000 in
theorem b136_43 {d : Nat} {Q : j3_P} {σ : j3_S} {x1 : Int} {x2 : Int} {x3 : Int} {x4 : Int} {o5 : Nat} {x6 : Int} :
  T136 d Q 43 [wO 9 0, wI x1, wI x2, wI x3, wI x4, wO 3 o5, wI x6] [] σ = ((0 ≤ x6 ∧ x6 < 80) ∧ Q (some (wI (σ.2.2 3014 o5 x6))) σ) := j3_T.go d [0, 7, 17, 21, 33, 38, 43, 48, 53, 58, 64, 66] 400
set_option maxRecDepth 100000 in
theorem b136_48 {d : Nat} {Q : j3_P} {σ : j3_S} {x1 : Int} {x2 : Int} {x3 : Int} {x4 : Int} {o5 : Nat} {x6 : Int} :
  T136 d Q 48 [wO 9 0, wI x1, wI x2, wI x3, wI x4, wO 3 o5, wI x6] [] σ = ((0 ≤ x6 ∧ x6 < 80) ∧ Q (some (wI (σ.2.2 3015 o5 x6))) σ) := j3_T.go d [0, 7, 17, 21, 33, 38, 43, 48, 53, 58, 64, 66] 400
set_option maxRecDepth 100000 in
theorem b136_53 {d : Nat} {Q : j3_P} {σ : j3_S} {x1 : Int} {x2 : Int} {x3 : Int} {x4 : Int} {o5 : Nat} {x6 : Int} :
  T136 d Q 53 [wO 9 0, wI x1, wI x2, wI x3, wI x4, wO 3 o5, wI x6] [] σ = ((0 ≤ x6 ∧ x6 < 80) ∧ Q (some (wI (σ.2.2 3017 o5 x6))) σ) := j3_T.go d [0, 7, 17, 21, 33, 38, 43, 48, 53, 58, 64, 66] 400
set_option maxRecDepth 100000 in
theorem b136_58 {d : Nat} {Q : j3_P} {σ : j3_S} {x1 : Int} {x2 : Int} {x3 : Int} {x4 : Int} {o5 : Nat} {x6 : Int} :
  T136 d Q 58 [wO 9 0, wI x1, wI x2, wI x3, wI x4, wO 3 o5, wI x6] [] σ = ((0 ≤ x6 ∧ x6 < 80) ∧ Q (some (wI (σ.2.2 0 (o5 + 17) x6))) σ) := j3_T.go d [0, 7, 17, 21, 33, 38, 43, 48, 53, 58, 64, 66] 400
set_option maxRecDepth 100000 in
theorem b136_64 {d : Nat} {Q : j3_P} {σ : j3_S} {x1 : Int} {x2 : Int} {x3 : Int} {x4 : Int} {o5 : Nat} {x6 : Int} :
  T136 d Q 64 [wO 9 0, wI x1, wI x2, wI x3, wI x4, wO 3 o5, wI x6] [] σ = Q (some (wI x6)) σ := j3_T.go d [0, 7, 17, 21, 33, 38, 43, 48, 53, 58, 64, 66] 400
set_option maxRecDepth 100000 in
theorem b136_66 {d : Nat} {Q : j3_P} {σ : j3_S} {x1 : Int} {x2 : Int} {x3 : Int} {x4 : Int} {o5 : Nat} {x6 : Int} :
  T136 d Q 66 [wO 9 0, wI x1, wI x2, wI x3, wI x4, wO 3 o5, wI x6] [] σ = Q (some (wI (-1))) σ := j3_T.go d [0, 7, 17, 21, 33, 38, 43, 48, 53, 58, 64, 66] 400
def T137 (d : Nat) (Q : j3_P) : j3_K := j3_T false (j3_tc false d) jc_X9_type (some .int) Q
theorem e137 {d : Nat} {Q : j3_P} {σ : j3_S} {x1 : Int} {x2 : Int} {x3 : Int} : j3_tc false (d + 1) 137 [wO 9 0, wI x1, wI x2, wI x3] σ Q = T137 d Q 0 [wO 9 0, wI x1, wI x2, wI x3, wM 2] [] σ := j3_entry ⟨Nat.le_of_ble_eq_true rfl, rfl⟩
set_option maxRecDepth 100000 in
theorem b137_0 {d : Nat} {Q : j3_P} {σ : j3_S} {x1 : Int} {x2 : Int} {x3 : Int} :
  T137 d Q 0 [wO 9 0, wI x1, wI x2, wI x3, wM 2] [] σ = (if (σ.1 9005 0) = 0 then Q (some (wI (-1))) σ else (¬ (σ.2.1 7) = 0 ∧ j3_tc false d 45 [wO 3 (σ.2.1 7), wI x1, wI x2] σ (fun r σ1 => T137 d Q 8 [wO 9 0, wI x1, wI x2, wI x3, wM 2] (r.toList ++ []) σ1))) := j3_T.go d [0, 8, 54, 61, 62, 73, 80] 400
set_option maxRecDepth 100000 in
theorem b137_8 {d : Nat} {Q : j3_P} {σ : j3_S} {x1 : Int} {x2 : Int} {x3 : Int} {xs0 : Int} :
  T137 d Q 8 [wO 9 0, wI x1, wI x2, wI x3, wM 2] [wI xs0] σ = (if xs0 = 0 then Q (some (wI (-1))) σ else (¬ (σ.2.1 7) = 0 ∧ ((0 ≤ (wr ((wr (x1 * 120)) + x2)) ∧ (wr ((wr (x1 * 120)) + x2)) < 9600) ∧ (if x3 = 0 then (if (σ.2.2 4 ((σ.2.1 7) + 17) (wr ((wr (x1 * 120)) + x2))) < 0 then Q (some (wI 0)) σ else Q (some (wI 1)) σ) else (if (σ.2.2 4 ((σ.2.1 7) + 17) (wr ((wr (x1 * 120)) + x2))) < 0 then Q (some (wI (-1))) σ else (if x3 = (1 : Int) then Q (some (wI (σ.2.2 4 ((σ.2.1 7) + 17) (wr ((wr (x1 * 120)) + x2))))) σ else (if x3 < (10 : Int) then T137 d Q 62 [wO 9 0, wI x1, wI x2, wI x3, wI (σ.2.2 4 ((σ.2.1 7) + 17) (wr ((wr (x1 * 120)) + x2)))] [] σ else (¬ (σ.2.1 7) = 0 ∧ ((0 ≤ x1 ∧ x1 < 80) ∧ (if (wr (x3 - 10)) < (σ.2.2 3017 (σ.2.1 7) x1) then j3_tc false d 138 [wO 9 0, wI x1] σ (fun r σ1 => T137 d Q 54 [wO 9 0, wI x1, wI x2, wI x3, wI (σ.2.2 4 ((σ.2.1 7) + 17) (wr ((wr (x1 * 120)) + x2)))] (r.toList ++ []) σ1) else T137 d Q 62 [wO 9 0, wI x1, wI x2, wI x3, wI (σ.2.2 4 ((σ.2.1 7) + 17) (wr ((wr (x1 * 120)) + x2)))] [] σ)))))))))) := j3_T.go d [0, 8, 54, 61, 62, 73, 80] 400
set_option maxRecDepth 100000 in
theorem b137_54 {d : Nat} {Q : j3_P} {σ : j3_S} {x1 : Int} {x2 : Int} {x3 : Int} {x4 : Int} :
  T137 d Q 54 [wO 9 0, wI x1, wI x2, wI x3, wI x4] [] σ = j3_tc false d 3 [wO 1 76, wI x2, wI (wr (x3 - 10))] σ (fun r σ1 => T137 d Q 61 [wO 9 0, wI x1, wI x2, wI x3, wI x4] (r.toList ++ []) σ1) := j3_T.go d [0, 8, 54, 61, 62, 73, 80] 400
set_option maxRecDepth 100000 in
theorem b137_61 {d : Nat} {Q : j3_P} {σ : j3_S} {x1 : Int} {x2 : Int} {x3 : Int} {x4 : Int} {xs0 : Int} :
  T137 d Q 61 [wO 9 0, wI x1, wI x2, wI x3, wI x4] [wI xs0] σ = Q (some (wI xs0)) σ := j3_T.go d [0, 8, 54, 61, 62, 73, 80] 400
set_option maxRecDepth 100000 in
theorem b137_62 {d : Nat} {Q : j3_P} {σ : j3_S} {x1 : Int} {x2 : Int} {x3 : Int} {x4 : Int} :
  T137 d Q 62 [wO 9 0, wI x1, wI x2, wI x3, wI x4] [] σ = (if x3 < (30 : Int) then Q (some (wI (-1))) σ else (if (wr (x3 - 30)) < x4 then j3_tc false d 138 [wO 9 0, wI x1] σ (fun r σ1 => T137 d Q 73 [wO 9 0, wI x1, wI x2, wI x3, wI x4] (r.toList ++ []) σ1) else Q (some (wI (-1))) σ)) := j3_T.go d [0, 8, 54, 61, 62, 73, 80] 400
set_option maxRecDepth 100000 in
theorem b137_73 {d : Nat} {Q : j3_P} {σ : j3_S} {x1 : Int} {x2 : Int} {x3 : Int} {x4 : Int} :
  T137 d Q 73 [wO 9 0, wI x1, wI x2, wI x3, wI x4] [] σ = j3_tc false d 4 [wO 1 76, wI x2, wI (wr (x3 - 30))] σ (fun r σ1 => T137 d Q 80 [wO 9 0, wI x1, wI x2, wI x3, wI x4] (r.toList ++ []) σ1) := j3_T.go d [0, 8, 54, 61, 62, 73, 80] 400
set_option maxRecDepth 100000 in
theorem b137_80 {d : Nat} {Q : j3_P} {σ : j3_S} {x1 : Int} {x2 : Int} {x3 : Int} {x4 : Int} {xs0 : Int} :
  T137 d Q 80 [wO 9 0, wI x1, wI x2, wI x3, wI x4] [wI xs0] σ = Q (some (wI xs0)) σ := j3_T.go d [0, 8, 54, 61, 62, 73, 80] 400
def T138 (d : Nat) (Q : j3_P) : j3_K := j3_T false (j3_tc false d) jc_X9_flowOf none Q
theorem e138 {d : Nat} {Q : j3_P} {σ : j3_S} {x1 : Int} : j3_tc false (d + 1) 138 [wO 9 0, wI x1] σ Q = T138 d Q 0 [wO 9 0, wI x1] [] σ := j3_entry ⟨Nat.le_of_ble_eq_true rfl, rfl⟩
set_option maxRecDepth 100000 in
theorem b138_0 {d : Nat} {Q : j3_P} {σ : j3_S} {x1 : Int} :
  T138 d Q 0 [wO 9 0, wI x1] [] σ = (if (σ.1 9013 0) = x1 then Q none σ else (¬ (σ.2.1 7) = 0 ∧ j3_tc false d 2 [wO 1 76, wO 3 (σ.2.1 7), wI x1] σ (fun r σ1 => T138 d Q 10 [wO 9 0, wI x1] (r.toList ++ []) σ1))) := j3_T.go d [0, 10] 400
set_option maxRecDepth 100000 in
theorem b138_10 {d : Nat} {Q : j3_P} {σ : j3_S} {x1 : Int} {xs0 : Int} :
  T138 d Q 10 [wO 9 0, wI x1] [wI xs0] σ = Q none ((j3_up σ.1 9013 0 x1), σ.2.1, σ.2.2) := j3_T.go d [0, 10] 400
def T139 (d : Nat) (Q : j3_P) : j3_K := j3_T false (j3_tc false d) jc_X9_entry (some .int) Q
theorem e139 {d : Nat} {Q : j3_P} {σ : j3_S} {x1 : Int} : j3_tc false (d + 1) 139 [wO 9 0, wI x1] σ Q = T139 d Q 0 [wO 9 0, wI x1, wM 2] [] σ := j3_entry ⟨Nat.le_of_ble_eq_true rfl, rfl⟩
set_option maxRecDepth 100000 in
theorem b139_0 {d : Nat} {Q : j3_P} {σ : j3_S} {x1 : Int} :
  T139 d Q 0 [wO 9 0, wI x1, wM 2] [] σ = (if (σ.1 9005 0) = 0 then Q (some (wI (-1))) σ else (¬ (σ.2.1 7) = 0 ∧ j3_tc false d 44 [wO 3 (σ.2.1 7), wI x1] σ (fun r σ1 => T139 d Q 7 [wO 9 0, wI x1, wM 2] (r.toList ++ []) σ1))) := j3_T.go d [0, 7, 26] 400
set_option maxRecDepth 100000 in
theorem b139_7 {d : Nat} {Q : j3_P} {σ : j3_S} {x1 : Int} {xs0 : Int} :
  T139 d Q 7 [wO 9 0, wI x1, wM 2] [wI xs0] σ = (if xs0 = 0 then Q (some (wI (-1))) σ else (¬ (σ.2.1 7) = 0 ∧ ((0 ≤ x1 ∧ x1 < 80) ∧ (if (σ.2.2 3013 (σ.2.1 7) x1) = 0 then Q (some (wI (-1))) σ else (¬ (σ.2.1 7) = 0 ∧ ((0 ≤ x1 ∧ x1 < 80) ∧ (if (σ.2.2 3015 (σ.2.1 7) x1) = 0 then T139 d Q 26 [wO 9 0, wI x1, wI 0] [] σ else Q (some (wI (-1))) σ))))))) := j3_T.go d [0, 7, 26] 400
set_option maxRecDepth 100000 in
theorem b139_26 {d : Nat} {Q : j3_P} {σ : j3_S} {x1 : Int} {x2 : Int} :
  T139 d Q 26 [wO 9 0, wI x1, wI x2] [] σ = (if x2 < (σ.1 9009 0) then ((0 ≤ x2 ∧ x2 < 6) ∧ (if (σ.2.2 9008 0 x2) = x1 then Q (some (wI x2)) σ else T139 d Q 26 [wO 9 0, wI x1, wI (wr (x2 + 1))] [] σ)) else (if (σ.1 9009 0) < (6 : Int) then ((0 ≤ (σ.1 9009 0) ∧ (σ.1 9009 0) < 6) ∧ (((0 : Int) = 0 ∨ (0 : Int) = 1) ∧ Q (some (wI (wr ((wr ((σ.1 9009 0) + 1)) - 1)))) ((j3_up (j3_up σ.1 9009 0 (wr ((σ.1 9009 0) + 1))) 9006 0 0), σ.2.1, (j3_ast σ.2.2 9008 0 (σ.1 9009 0) x1)))) else Q (some (wI (-1))) σ)) := j3_T.go d [0, 7, 26] 400
def T140 (d : Nat) (Q : j3_P) : j3_K := j3_T false (j3_tc false d) jc_X9_shrink (some .int) Q
theorem e140 {d : Nat} {Q : j3_P} {σ : j3_S} {x1 : Int} : j3_tc false (d + 1) 140 [wO 9 0, wI x1] σ Q = T140 d Q 0 [wO 9 0, wI x1] [] σ := j3_entry ⟨Nat.le_of_ble_eq_true rfl, rfl⟩
set_option maxRecDepth 100000 in
theorem b140_0 {d : Nat} {Q : j3_P} {σ : j3_S} {x1 : Int} :
  T140 d Q 0 [wO 9 0, wI x1] [] σ = (if x1 < 0 then T140 d Q 5 [wO 9 0, wI x1] [] σ else (if (12 : Int) < x1 then T140 d Q 5 [wO 9 0, wI x1] [] σ else (if (σ.1 9005 0) = 0 then T140 d Q 16 [wO 9 0, wI x1] [] σ else (if (σ.1 9009 0) = 0 then T140 d Q 16 [wO 9 0, wI x1] [] σ else (¬ (σ.2.1 7) = 0 ∧ (¬ (σ.2.1 8) = 0 ∧ j3_tc false d 79 [wO 6 83, wO 3 (σ.2.1 7), wO 3 (σ.2.1 8), wA 9008 0, wI (σ.1 9009 0), wI x1] σ (fun r σ1 => T140 d Q 33 [wO 9 0, wI x1] (r.toList ++ []) σ1))))))) := j3_T.go d [0, 5, 16, 33] 400
set_option maxRecDepth 100000 in
theorem b140_5 {d : Nat} {Q : j3_P} {σ : j3_S} {x1 : Int} :
  T140 d Q 5 [wO 9 0, wI x1] [] σ = False := j3_T.go d [0, 5, 16, 33] 400
set_option maxRecDepth 100000 in
theorem b140_16 {d : Nat} {Q : j3_P} {σ : j3_S} {x1 : Int} :
  T140 d Q 16 [wO 9 0, wI x1] [] σ = False := j3_T.go d [0, 5, 16, 33] 400
set_option maxRecDepth 100000 in
theorem b140_33 {d : Nat} {Q : j3_P} {σ : j3_S} {x1 : Int} :
  T140 d Q 33 [wO 9 0, wI x1] [] σ = (((1 : Int) = 0 ∨ (1 : Int) = 1) ∧ Q (some (wI (σ.1 8001 90))) ((j3_up σ.1 9006 0 1), σ.2.1, σ.2.2)) := j3_T.go d [0, 5, 16, 33] 400
def T141 (d : Nat) (Q : j3_P) : j3_K := j3_T false (j3_tc false d) jc_X9_out (some .int) Q
theorem e141 {d : Nat} {Q : j3_P} {σ : j3_S} {x1 : Int} : j3_tc false (d + 1) 141 [wO 9 0, wI x1] σ Q = T141 d Q 0 [wO 9 0, wI x1] [] σ := j3_entry ⟨Nat.le_of_ble_eq_true rfl, rfl⟩
set_option maxRecDepth 100000 in
theorem b141_0 {d : Nat} {Q : j3_P} {σ : j3_S} {x1 : Int} :
  T141 d Q 0 [wO 9 0, wI x1] [] σ = (if (σ.1 9006 0) = 0 then Q (some (wI (-1))) σ else (if x1 < 0 then Q (some (wI (-1))) σ else (if x1 < (σ.1 8001 90) then (if x1 < (48943 : Int) then ((0 ≤ x1 ∧ x1 < 48943) ∧ Q (some (wI (i_an (σ.2.2 8000 90 x1) 255))) σ) else Q (some (wI (-1))) σ) else Q (some (wI (-1))) σ))) := j3_T.go d [0] 400
def T142 (d : Nat) (Q : j3_P) : j3_K := j3_T false (j3_tc false d) jc_X9_kept (some .int) Q
theorem e142 {d : Nat} {Q : j3_P} {σ : j3_S} {x1 : Int} {x2 : Int} {x3 : Int} : j3_tc false (d + 1) 142 [wO 9 0, wI x1, wI x2, wI x3] σ Q = T142 d Q 0 [wO 9 0, wI x1, wI x2, wI x3, wM 2] [] σ := j3_entry ⟨Nat.le_of_ble_eq_true rfl, rfl⟩
set_option maxRecDepth 100000 in
theorem b142_0 {d : Nat} {Q : j3_P} {σ : j3_S} {x1 : Int} {x2 : Int} {x3 : Int} :
  T142 d Q 0 [wO 9 0, wI x1, wI x2, wI x3, wM 2] [] σ = (if (σ.1 9006 0) = 0 then Q (some (wI (-1))) σ else (¬ (σ.2.1 7) = 0 ∧ j3_tc false d 41 [wO 3 (σ.2.1 7), wI x2] σ (fun r σ1 => T142 d Q 7 [wO 9 0, wI x1, wI x2, wI x3, wM 2] (r.toList ++ []) σ1))) := j3_T.go d [0, 7, 26, 37, 45] 400
set_option maxRecDepth 100000 in
theorem b142_7 {d : Nat} {Q : j3_P} {σ : j3_S} {x1 : Int} {x2 : Int} {x3 : Int} {xs0 : Int} :
  T142 d Q 7 [wO 9 0, wI x1, wI x2, wI x3, wM 2] [wI xs0] σ = (if xs0 = 0 then Q (some (wI (-1))) σ else (if x1 = 0 then ((0 ≤ x2 ∧ x2 < 10) ∧ Q (some (wI (σ.2.2 6000 83 x2))) σ) else (if x1 = (1 : Int) then (¬ (σ.2.1 7) = 0 ∧ j3_tc false d 42 [wO 3 (σ.2.1 7), wI x2, wI x3] σ (fun r σ1 => T142 d Q 26 [wO 9 0, wI x1, wI x2, wI x3, wM 2] (r.toList ++ []) σ1)) else T142 d Q 37 [wO 9 0, wI x1, wI x2, wI x3, wM 2] [] σ))) := j3_T.go d [0, 7, 26, 37, 45] 400
set_option maxRecDepth 100000 in
theorem b142_26 {d : Nat} {Q : j3_P} {σ : j3_S} {x1 : Int} {x2 : Int} {x3 : Int} {xs0 : Int} :
  T142 d Q 26 [wO 9 0, wI x1, wI x2, wI x3, wM 2] [wI xs0] σ = (if xs0 = 0 then T142 d Q 37 [wO 9 0, wI x1, wI x2, wI x3, wM 2] [] σ else ((0 ≤ (wr ((wr (x2 * 6)) + x3)) ∧ (wr ((wr (x2 * 6)) + x3)) < 60) ∧ Q (some (wI (σ.2.2 6001 83 (wr ((wr (x2 * 6)) + x3))))) σ)) := j3_T.go d [0, 7, 26, 37, 45] 400
set_option maxRecDepth 100000 in
theorem b142_37 {d : Nat} {Q : j3_P} {σ : j3_S} {x1 : Int} {x2 : Int} {x3 : Int} :
  T142 d Q 37 [wO 9 0, wI x1, wI x2, wI x3, wM 2] [] σ = (if x1 = (2 : Int) then (¬ (σ.2.1 7) = 0 ∧ j3_tc false d 43 [wO 3 (σ.2.1 7), wI x2, wI x3] σ (fun r σ1 => T142 d Q 45 [wO 9 0, wI x1, wI x2, wI x3, wM 2] (r.toList ++ []) σ1)) else Q (some (wI (-1))) σ) := j3_T.go d [0, 7, 26, 37, 45] 400
set_option maxRecDepth 100000 in
theorem b142_45 {d : Nat} {Q : j3_P} {σ : j3_S} {x1 : Int} {x2 : Int} {x3 : Int} {xs0 : Int} :
  T142 d Q 45 [wO 9 0, wI x1, wI x2, wI x3, wM 2] [wI xs0] σ = (if xs0 = 0 then Q (some (wI (-1))) σ else (¬ (σ.2.1 7) = 0 ∧ ((0 ≤ x2 ∧ x2 < 10) ∧ ((0 ≤ (wr ((σ.2.2 3007 (σ.2.1 7) x2) + x3)) ∧ (wr ((σ.2.2 3007 (σ.2.1 7) x2) + x3)) < 80) ∧ (if (σ.2.2 6002 83 (wr ((σ.2.2 3007 (σ.2.1 7) x2) + x3))) = (-1 : Int) then Q (some (wI (-1))) σ else (¬ (σ.2.1 8) = 0 ∧ (¬ (σ.2.1 8) = 0 ∧ ((0 ≤ (σ.2.2 6002 83 (wr ((σ.2.2 3007 (σ.2.1 7) x2) + x3))) ∧ (σ.2.2 6002 83 (wr ((σ.2.2 3007 (σ.2.1 7) x2) + x3))) < 80) ∧ ((0 ≤ (σ.2.2 3011 (σ.2.1 8) (σ.2.2 6002 83 (wr ((σ.2.2 3007 (σ.2.1 7) x2) + x3)))) ∧ (σ.2.2 3011 (σ.2.1 8) (σ.2.2 6002 83 (wr ((σ.2.2 3007 (σ.2.1 7) x2) + x3)))) < 10) ∧ Q (some (wI (wr ((σ.2.2 6002 83 (wr ((σ.2.2 3007 (σ.2.1 7) x2) + x3))) - (σ.2.2 3007 (σ.2.1 8) (σ.2.2 3011 (σ.2.1 8) (σ.2.2 6002 83 (wr ((σ.2.2 3007 (σ.2.1 7) x2) + x3))))))))) σ))))))))) := j3_T.go d [0, 7, 26, 37, 45] 400
def T143 (d : Nat) (Q : j3_P) : j3_K := j3_T false (j3_tc false d) jc_X9_made (some .int) Q
theorem e143 {d : Nat} {Q : j3_P} {σ : j3_S} {x1 : Int} : j3_tc false (d + 1) 143 [wO 9 0, wI x1] σ Q = T143 d Q 0 [wO 9 0, wI x1, wM 2] [] σ := j3_entry ⟨Nat.le_of_ble_eq_true rfl, rfl⟩
set_option maxRecDepth 100000 in
theorem b143_0 {d : Nat} {Q : j3_P} {σ : j3_S} {x1 : Int} :
  T143 d Q 0 [wO 9 0, wI x1, wM 2] [] σ = (if x1 < 0 then T143 d Q 5 [wO 9 0, wI x1, wM 2] [] σ else (if (3 : Int) < x1 then T143 d Q 5 [wO 9 0, wI x1, wM 2] [] σ else T143 d Q 11 [wO 9 0, wI x1, wM 2] [] σ)) := j3_T.go d [0, 5, 11, 13, 14] 400
set_option maxRecDepth 100000 in
theorem b143_5 {d : Nat} {Q : j3_P} {σ : j3_S} {x1 : Int} :
  T143 d Q 5 [wO 9 0, wI x1, wM 2] [] σ = (if (10 : Int) < x1 then (if (22 : Int) < x1 then T143 d Q 13 [wO 9 0, wI x1, wM 2] [] σ else T143 d Q 11 [wO 9 0, wI x1, wM 2] [] σ) else T143 d Q 13 [wO 9 0, wI x1, wM 2] [] σ) := j3_T.go d [0, 5, 11, 13, 14] 400
set_option maxRecDepth 100000 in
theorem b143_11 {d : Nat} {Q : j3_P} {σ : j3_S} {x1 : Int} :
  T143 d Q 11 [wO 9 0, wI x1, wM 2] [] σ = T143 d Q 14 [wO 9 0, wI x1, wM 2] [wI 1] σ := j3_T.go d [0, 5, 11, 13, 14] 400
set_option maxRecDepth 100000 in
theorem b143_13 {d : Nat} {Q : j3_P} {σ : j3_S} {x1 : Int} :
  T143 d Q 13 [wO 9 0, wI x1, wM 2] [] σ = T143 d Q 14 [wO 9 0, wI x1, wM 2] [wI 0] σ := j3_T.go d [0, 5, 11, 13, 14] 400
set_option maxRecDepth 100000 in
theorem b143_14 {d : Nat} {Q : j3_P} {σ : j3_S} {x1 : Int} {xs0 : Int} :
  T143 d Q 14 [wO 9 0, wI x1, wM 2] [wI xs0] σ = (if xs0 = 0 then Q (some (wI (-1))) σ else (if (σ.1 9006 0) = 0 then Q (some (wI 0)) σ else ((0 ≤ x1 ∧ x1 < 23) ∧ Q (some (wI (σ.2.2 6005 83 x1))) σ))) := j3_T.go d [0, 5, 11, 13, 14] 400
def T144 (d : Nat) (Q : j3_P) : j3_K := j3_T false (j3_tc false d) jc_X9_origin (some .int) Q
theorem e144 {d : Nat} {Q : j3_P} {σ : j3_S} {x1 : Int} {x2 : Int} {x3 : Int} : j3_tc false (d + 1) 144 [wO 9 0, wI x1, wI x2, wI x3] σ Q = T144 d Q 0 [wO 9 0, wI x1, wI x2, wI x3, wM 2] [] σ := j3_entry ⟨Nat.le_of_ble_eq_true rfl, rfl⟩
set_option maxRecDepth 100000 in
theorem b144_0 {d : Nat} {Q : j3_P} {σ : j3_S} {x1 : Int} {x2 : Int} {x3 : Int} :
  T144 d Q 0 [wO 9 0, wI x1, wI x2, wI x3, wM 2] [] σ = (if (σ.1 9006 0) = 0 then Q (some (wI (-1))) σ else (¬ (σ.2.1 8) = 0 ∧ j3_tc false d 45 [wO 3 (σ.2.1 8), wI x1, wI x2] σ (fun r σ1 => T144 d Q 8 [wO 9 0, wI x1, wI x2, wI x3, wM 2] (r.toList ++ []) σ1))) := j3_T.go d [0, 8] 400
set_option maxRecDepth 100000 in
theorem b144_8 {d : Nat} {Q : j3_P} {σ : j3_S} {x1 : Int} {x2 : Int} {x3 : Int} {xs0 : Int} :
  T144 d Q 8 [wO 9 0, wI x1, wI x2, wI x3, wM 2] [wI xs0] σ = (if xs0 = 0 then Q (some (wI (-1))) σ else (if x3 = 0 then ((0 ≤ (wr ((wr (x1 * 120)) + x2)) ∧ (wr ((wr (x1 * 120)) + x2)) < 9600) ∧ Q (some (wI (σ.2.2 6003 83 (wr ((wr (x1 * 120)) + x2))))) σ) else (if x3 = (1 : Int) then ((0 ≤ (wr ((wr (x1 * 120)) + x2)) ∧ (wr ((wr (x1 * 120)) + x2)) < 9600) ∧ Q (some (wI (σ.2.2 6004 83 (wr ((wr (x1 * 120)) + x2))))) σ) else Q (some (wI (-1))) σ))) := j3_T.go d [0, 8] 400
def T145 (d : Nat) (Q : j3_P) : j3_K := j3_T false (j3_tc false d) jc_X9_run (some .int) Q
theorem e145 {d : Nat} {Q : j3_P} {σ : j3_S} {x1 : Int} {x2 : Int} {x3 : Int} : j3_tc false (d + 1) 145 [wO 9 0, wI x1, wI x2, wI x3] σ Q = T145 d Q 0 [wO 9 0, wI x1, wI x2, wI x3, wM 2, wM 2] [] σ := j3_entry ⟨Nat.le_of_ble_eq_true rfl, rfl⟩
set_option maxRecDepth 100000 in
theorem b145_0 {d : Nat} {Q : j3_P} {σ : j3_S} {x1 : Int} {x2 : Int} {x3 : Int} :
  T145 d Q 0 [wO 9 0, wI x1, wI x2, wI x3, wM 2, wM 2] [] σ = (if x1 = 0 then (if (σ.1 9005 0) = 0 then T145 d Q 9 [wO 9 0, wI x1, wI x2, wI x3, wM 2, wM 2] [] σ else T145 d Q 14 [wO 9 0, wI x1, wI x2, wI x3, wM 2, wM 2] [] σ) else (if (σ.1 9006 0) = 0 then T145 d Q 9 [wO 9 0, wI x1, wI x2, wI x3, wM 2, wM 2] [] σ else T145 d Q 14 [wO 9 0, wI x1, wI x2, wI x3, wM 2, wM 2] [] σ)) := j3_T.go d [0, 9, 14, 20, 31, 51, 61, 64, 75] 400
set_option maxRecDepth 100000 in
theorem b145_9 {d : Nat} {Q : j3_P} {σ : j3_S} {x1 : Int} {x2 : Int} {x3 : Int} :
  T145 d Q 9 [wO 9 0, wI x1, wI x2, wI x3, wM 2, wM 2] [] σ = False := j3_T.go d [0, 9, 14, 20, 31, 51, 61, 64, 75] 400
set_option maxRecDepth 100000 in
theorem b145_14 {d : Nat} {Q : j3_P} {σ : j3_S} {x1 : Int} {x2 : Int} {x3 : Int} :
  T145 d Q 14 [wO 9 0, wI x1, wI x2, wI x3, wM 2, wM 2] [] σ = (if x2 < 0 then T145 d Q 20 [wO 9 0, wI x1, wI x2, wI x3, wM 2, wM 2] [] σ else (if x2 < (σ.1 9009 0) then (if x3 < (1 : Int) then T145 d Q 31 [wO 9 0, wI x1, wI x2, wI x3, wM 2, wM 2] [] σ else (if (20000 : Int) < x3 then T145 d Q 31 [wO 9 0, wI x1, wI x2, wI x3, wM 2, wM 2] [] σ else (if x1 = 0 then ((0 ≤ x2 ∧ x2 < 6) ∧ T145 d Q 51 [wO 9 0, wI x1, wI x2, wI x3, wM 2, wM 2] [wI (σ.2.2 9008 0 x2)] σ) else ((0 ≤ x2 ∧ x2 < 6) ∧ ((0 ≤ (σ.2.2 9008 0 x2) ∧ (σ.2.2 9008 0 x2) < 80) ∧ T145 d Q 51 [wO 9 0, wI x1, wI x2, wI x3, wM 2, wM 2] [wI (σ.2.2 6002 83 (σ.2.2 9008 0 x2))] σ))))) else T145 d Q 20 [wO 9 0, wI x1, wI x2, wI x3, wM 2, wM 2] [] σ)) := j3_T.go d [0, 9, 14, 20, 31, 51, 61, 64, 75] 400
set_option maxRecDepth 100000 in
theorem b145_20 {d : Nat} {Q : j3_P} {σ : j3_S} {x1 : Int} {x2 : Int} {x3 : Int} :
  T145 d Q 20 [wO 9 0, wI x1, wI x2, wI x3, wM 2, wM 2] [] σ = False := j3_T.go d [0, 9, 14, 20, 31, 51, 61, 64, 75] 400
set_option maxRecDepth 100000 in
theorem b145_31 {d : Nat} {Q : j3_P} {σ : j3_S} {x1 : Int} {x2 : Int} {x3 : Int} :
  T145 d Q 31 [wO 9 0, wI x1, wI x2, wI x3, wM 2, wM 2] [] σ = False := j3_T.go d [0, 9, 14, 20, 31, 51, 61, 64, 75] 400
set_option maxRecDepth 100000 in
theorem b145_51 {d : Nat} {Q : j3_P} {σ : j3_S} {x1 : Int} {x2 : Int} {x3 : Int} {xs0 : Int} :
  T145 d Q 51 [wO 9 0, wI x1, wI x2, wI x3, wM 2, wM 2] [wI xs0] σ = (if x1 = 0 then (¬ (σ.2.1 7) = 0 ∧ T145 d Q 61 [wO 9 0, wI x1, wI x2, wI x3, wI xs0, wM 2] [wO 3 (σ.2.1 7), wO 2 109] σ) else (¬ (σ.2.1 8) = 0 ∧ T145 d Q 61 [wO 9 0, wI x1, wI x2, wI x3, wI xs0, wM 2] [wO 3 (σ.2.1 8), wO 2 109] σ)) := j3_T.go d [0, 9, 14, 20, 31, 51, 61, 64, 75] 400
set_option maxRecDepth 100000 in
theorem b145_61 {d : Nat} {Q : j3_P} {σ : j3_S} {x1 : Int} {x2 : Int} {x3 : Int} {x4 : Int} {os0 : Nat} :
  T145 d Q 61 [wO 9 0, wI x1, wI x2, wI x3, wI x4, wM 2] [wO 3 os0, wO 2 109] σ = j3_tc false d 20 [wO 2 109, wO 3 os0, wI x4, wI x3] σ (fun r σ1 => T145 d Q 64 [wO 9 0, wI x1, wI x2, wI x3, wI x4, wM 2] (r.toList ++ []) σ1) := j3_T.go d [0, 9, 14, 20, 31, 51, 61, 64, 75] 400
set_option maxRecDepth 100000 in
theorem b145_64 {d : Nat} {Q : j3_P} {σ : j3_S} {x1 : Int} {x2 : Int} {x3 : Int} {x4 : Int} {xs0 : Int} :
  T145 d Q 64 [wO 9 0, wI x1, wI x2, wI x3, wI x4, wM 2] [wI xs0] σ = j3_tc false d 22 [wO 2 109, wI x1, wA 6003 83, wA 6004 83] σ (fun r σ1 => T145 d Q 75 [wO 9 0, wI x1, wI x2, wI x3, wI x4, wI xs0] (r.toList ++ []) σ1) := j3_T.go d [0, 9, 14, 20, 31, 51, 61, 64, 75] 400
set_option maxRecDepth 100000 in
theorem b145_75 {d : Nat} {Q : j3_P} {σ : j3_S} {x1 : Int} {x2 : Int} {x3 : Int} {x4 : Int} {x5 : Int} :
  T145 d Q 75 [wO 9 0, wI x1, wI x2, wI x3, wI x4, wI x5] [] σ = Q (some (wI x5)) σ := j3_T.go d [0, 9, 14, 20, 31, 51, 61, 64, 75] 400
def T146 (d : Nat) (Q : j3_P) : j3_K := j3_T false (j3_tc false d) jc_X9_result (some .int) Q
theorem e146 {d : Nat} {Q : j3_P} {σ : j3_S} {x1 : Int} : j3_tc false (d + 1) 146 [wO 9 0, wI x1] σ Q = T146 d Q 0 [wO 9 0, wI x1] [] σ := j3_entry ⟨Nat.le_of_ble_eq_true rfl, rfl⟩
set_option maxRecDepth 100000 in
theorem b146_0 {d : Nat} {Q : j3_P} {σ : j3_S} {x1 : Int} :
  T146 d Q 0 [wO 9 0, wI x1] [] σ = (if (σ.1 2000 109) = 0 then Q (some (wI (-1))) σ else (if x1 < 0 then Q (some (wI (-1))) σ else (if x1 < (8 : Int) then ((0 ≤ x1 ∧ x1 < 8) ∧ Q (some (wI (σ.2.2 2001 109 x1))) σ) else Q (some (wI (-1))) σ))) := j3_T.go d [0] 400
def T147 (d : Nat) (Q : j3_P) : j3_K := j3_T false (j3_tc false d) jc_X9_output (some .int) Q
theorem e147 {d : Nat} {Q : j3_P} {σ : j3_S} {x1 : Int} : j3_tc false (d + 1) 147 [wO 9 0, wI x1] σ Q = T147 d Q 0 [wO 9 0, wI x1] [] σ := j3_entry ⟨Nat.le_of_ble_eq_true rfl, rfl⟩
set_option maxRecDepth 100000 in
theorem b147_0 {d : Nat} {Q : j3_P} {σ : j3_S} {x1 : Int} :
  T147 d Q 0 [wO 9 0, wI x1] [] σ = (if (σ.1 2000 109) = 0 then Q (some (wI 0)) σ else (if x1 < 0 then Q (some (wI 0)) σ else (if x1 < (100 : Int) then ((0 ≤ (3 : Int) ∧ (3 : Int) < 8) ∧ (if x1 < (σ.2.2 2001 109 3) then ((0 ≤ x1 ∧ x1 < 100) ∧ Q (some (wI (σ.2.2 2002 109 x1))) σ) else Q (some (wI 0)) σ)) else Q (some (wI 0)) σ))) := j3_T.go d [0] 400
def T148 (d : Nat) (Q : j3_P) : j3_K := j3_T false (j3_tc false d) jc_X9_trace (some .int) Q
theorem e148 {d : Nat} {Q : j3_P} {σ : j3_S} {x1 : Int} : j3_tc false (d + 1) 148 [wO 9 0, wI x1] σ Q = T148 d Q 0 [wO 9 0, wI x1] [] σ := j3_entry ⟨Nat.le_of_ble_eq_true rfl, rfl⟩
set_option maxRecDepth 100000 in
theorem b148_0 {d : Nat} {Q : j3_P} {σ : j3_S} {x1 : Int} :
  T148 d Q 0 [wO 9 0, wI x1] [] σ = (if (σ.1 2000 109) = 0 then Q (some (wI (-1))) σ else (if x1 < 0 then Q (some (wI (-1))) σ else ((0 ≤ (4 : Int) ∧ (4 : Int) < 8) ∧ (if x1 < (σ.2.2 2001 109 4) then (if x1 < (40 : Int) then ((0 ≤ x1 ∧ x1 < 40) ∧ Q (some (wI (σ.2.2 2003 109 x1))) σ) else Q (some (wI (-1))) σ) else Q (some (wI (-1))) σ)))) := j3_T.go d [0] 400
def T149 (d : Nat) (Q : j3_P) : j3_K := j3_T false (j3_tc false d) jc_X9_back (some .int) Q
theorem e149 {d : Nat} {Q : j3_P} {σ : j3_S} {x1 : Int} : j3_tc false (d + 1) 149 [wO 9 0, wI x1] σ Q = T149 d Q 0 [wO 9 0, wI x1] [] σ := j3_entry ⟨Nat.le_of_ble_eq_true rfl, rfl⟩
set_option maxRecDepth 100000 in
theorem b149_0 {d : Nat} {Q : j3_P} {σ : j3_S} {x1 : Int} :
  T149 d Q 0 [wO 9 0, wI x1] [] σ = (if (σ.1 2000 109) = 0 then Q (some (wI (-1))) σ else (if x1 < 0 then Q (some (wI (-1))) σ else ((0 ≤ (7 : Int) ∧ (7 : Int) < 8) ∧ (if x1 < (σ.2.2 2001 109 7) then (if x1 < (80 : Int) then ((0 ≤ x1 ∧ x1 < 80) ∧ Q (some (wI (σ.2.2 2004 109 x1))) σ) else Q (some (wI (-1))) σ) else Q (some (wI (-1))) σ)))) := j3_T.go d [0] 400
def T150 (d : Nat) (Q : j3_P) : j3_K := j3_T false (j3_tc false d) jc_X9_again (some .boolean) Q
theorem e150 {d : Nat} {Q : j3_P} {σ : j3_S}  : j3_tc false (d + 1) 150 [wO 9 0] σ Q = T150 d Q 0 [wO 9 0, wM 2, wM 2] [] σ := j3_entry ⟨Nat.le_of_ble_eq_true rfl, rfl⟩
set_option maxRecDepth 100000 in
theorem b150_0 {d : Nat} {Q : j3_P} {σ : j3_S}  :
  T150 d Q 0 [wO 9 0, wM 2, wM 2] [] σ = (if (σ.1 9006 0) = 0 then (((0 : Int) = 0 ∨ (0 : Int) = 1) ∧ Q (some (wI 0)) σ) else (¬ (σ.2.1 7) = 0 ∧ (¬ (σ.2.1 8) = 0 ∧ (((0 : Int) = 0 ∨ (0 : Int) = 1) ∧ T150 d Q 26 [wO 9 0, wO 3 (σ.2.1 7), wI 0] [] ((j3_up (j3_up σ.1 9006 0 0) 9007 0 (σ.1 8001 90)), (j3_upP (j3_upP σ.2.1 7 (σ.2.1 8)) 8 (σ.2.1 7)), σ.2.2))))) := j3_T.go d [0, 26, 47, 52, 63] 400
set_option maxRecDepth 100000 in
theorem b150_26 {d : Nat} {Q : j3_P} {σ : j3_S} {o1 : Nat} {x2 : Int} :
  T150 d Q 26 [wO 9 0, wO 3 o1, wI x2] [] σ = (if x2 < (σ.1 9009 0) then ((0 ≤ x2 ∧ x2 < 6) ∧ ((0 ≤ (σ.2.2 9008 0 x2) ∧ (σ.2.2 9008 0 x2) < 80) ∧ ((0 ≤ x2 ∧ x2 < 6) ∧ T150 d Q 26 [wO 9 0, wO 3 o1, wI (wr (x2 + 1))] [] (σ.1, σ.2.1, (j3_ast σ.2.2 9008 0 x2 (σ.2.2 6002 83 (σ.2.2 9008 0 x2))))))) else j3_tc false d 19 [wO 2 109] σ (fun r σ1 => T150 d Q 47 [wO 9 0, wO 3 o1, wI x2] (r.toList ++ []) σ1)) := j3_T.go d [0, 26, 47, 52, 63] 400
set_option maxRecDepth 100000 in
theorem b150_47 {d : Nat} {Q : j3_P} {σ : j3_S} {o1 : Nat} {x2 : Int} :
  T150 d Q 47 [wO 9 0, wO 3 o1, wI x2] [] σ = T150 d Q 52 [wO 9 0, wO 3 o1, wI 0] [] ((j3_up σ.1 9013 0 (-1)), σ.2.1, σ.2.2) := j3_T.go d [0, 26, 47, 52, 63] 400
set_option maxRecDepth 100000 in
theorem b150_52 {d : Nat} {Q : j3_P} {σ : j3_S} {o1 : Nat} {x2 : Int} :
  T150 d Q 52 [wO 9 0, wO 3 o1, wI x2] [] σ = (¬ (σ.2.1 7) = 0 ∧ (if x2 < (σ.1 3001 (σ.2.1 7)) then (¬ (σ.2.1 7) = 0 ∧ j3_tc false d 2 [wO 1 76, wO 3 (σ.2.1 7), wI x2] σ (fun r σ1 => T150 d Q 63 [wO 9 0, wO 3 o1, wI x2] (r.toList ++ []) σ1)) else (((1 : Int) = 0 ∨ (1 : Int) = 1) ∧ Q (some (wI 1)) σ))) := j3_T.go d [0, 26, 47, 52, 63] 400
set_option maxRecDepth 100000 in
theorem b150_63 {d : Nat} {Q : j3_P} {σ : j3_S} {o1 : Nat} {x2 : Int} {xs0 : Int} :
  T150 d Q 63 [wO 9 0, wO 3 o1, wI x2] [wI xs0] σ = T150 d Q 52 [wO 9 0, wO 3 o1, wI (wr (x2 + 1))] [] σ := j3_T.go d [0, 26, 47, 52, 63] 400
def T151 (d : Nat) (Q : j3_P) : j3_K := j3_T false (j3_tc false d) jc_X9_isJump (some .boolean) Q
theorem e151 {d : Nat} {Q : j3_P} {σ : j3_S} {x0 : Int} : j3_tc false (d + 1) 151 [wI x0] σ Q = T151 d Q 0 [wI x0] [] σ := j3_entry ⟨Nat.le_of_ble_eq_true rfl, rfl⟩
set_option maxRecDepth 100000 in
theorem b151_0 {d : Nat} {Q : j3_P} {σ : j3_S} {x0 : Int} :
  T151 d Q 0 [wI x0] [] σ = (if x0 < (11 : Int) then (((0 : Int) = 0 ∨ (0 : Int) = 1) ∧ Q (some (wI 0)) σ) else (if (14 : Int) < x0 then (((0 : Int) = 0 ∨ (0 : Int) = 1) ∧ Q (some (wI 0)) σ) else (((1 : Int) = 0 ∨ (1 : Int) = 1) ∧ Q (some (wI 1)) σ))) := j3_T.go d [0] 400
def T152 (d : Nat) (Q : j3_P) : j3_K := j3_T false (j3_tc false d) jc_X9_goesOn (some .boolean) Q
theorem e152 {d : Nat} {Q : j3_P} {σ : j3_S} {x0 : Int} : j3_tc false (d + 1) 152 [wI x0] σ Q = T152 d Q 0 [wI x0] [] σ := j3_entry ⟨Nat.le_of_ble_eq_true rfl, rfl⟩
set_option maxRecDepth 100000 in
theorem b152_0 {d : Nat} {Q : j3_P} {σ : j3_S} {x0 : Int} :
  T152 d Q 0 [wI x0] [] σ = (if x0 = (11 : Int) then (((0 : Int) = 0 ∨ (0 : Int) = 1) ∧ Q (some (wI 0)) σ) else (if x0 = (22 : Int) then (((0 : Int) = 0 ∨ (0 : Int) = 1) ∧ Q (some (wI 0)) σ) else (if x0 = (26 : Int) then (((0 : Int) = 0 ∨ (0 : Int) = 1) ∧ Q (some (wI 0)) σ) else (((1 : Int) = 0 ∨ (1 : Int) = 1) ∧ Q (some (wI 1)) σ)))) := j3_T.go d [0] 400
def T153 (d : Nat) (Q : j3_P) : j3_K := j3_T false (j3_tc false d) jc_X9_calculate (some .int) Q
theorem e153 {d : Nat} {Q : j3_P} {σ : j3_S} {x0 : Int} {x1 : Int} {x2 : Int} : j3_tc false (d + 1) 153 [wI x0, wI x1, wI x2] σ Q = T153 d Q 0 [wI x0, wI x1, wI x2] [] σ := j3_entry ⟨Nat.le_of_ble_eq_true rfl, rfl⟩
set_option maxRecDepth 100000 in
theorem b153_0 {d : Nat} {Q : j3_P} {σ : j3_S} {x0 : Int} {x1 : Int} {x2 : Int} :
  T153 d Q 0 [wI x0, wI x1, wI x2] [] σ = (if x0 = 6 then T153 d Q 2 [wI x0, wI x1, wI x2] [] σ else (if x0 = 7 then T153 d Q 6 [wI x0, wI x1, wI x2] [] σ else (if x0 = 8 then T153 d Q 10 [wI x0, wI x1, wI x2] [] σ else (if x0 = 9 then T153 d Q 14 [wI x0, wI x1, wI x2] [] σ else T153 d Q 22 [wI x0, wI x1, wI x2] [] σ)))) := j3_T.go d [0, 2, 6, 10, 14, 22] 400
set_option maxRecDepth 100000 in
theorem b153_2 {d : Nat} {Q : j3_P} {σ : j3_S} {x0 : Int} {x1 : Int} {x2 : Int} :
  T153 d Q 2 [wI x0, wI x1, wI x2] [] σ = Q (some (wI (wr (x1 + x2)))) σ := j3_T.go d [0, 2, 6, 10, 14, 22] 400
set_option maxRecDepth 100000 in
theorem b153_6 {d : Nat} {Q : j3_P} {σ : j3_S} {x0 : Int} {x1 : Int} {x2 : Int} :
  T153 d Q 6 [wI x0, wI x1, wI x2] [] σ = Q (some (wI (wr (x1 - x2)))) σ := j3_T.go d [0, 2, 6, 10, 14, 22] 400
set_option maxRecDepth 100000 in
theorem b153_10 {d : Nat} {Q : j3_P} {σ : j3_S} {x0 : Int} {x1 : Int} {x2 : Int} :
  T153 d Q 10 [wI x0, wI x1, wI x2] [] σ = Q (some (wI (wr (x1 * x2)))) σ := j3_T.go d [0, 2, 6, 10, 14, 22] 400
set_option maxRecDepth 100000 in
theorem b153_14 {d : Nat} {Q : j3_P} {σ : j3_S} {x0 : Int} {x1 : Int} {x2 : Int} :
  T153 d Q 14 [wI x0, wI x1, wI x2] [] σ = (if x2 = 0 then Q (some (wI 0)) σ else (¬ x2 = 0 ∧ Q (some (wI (i_dv x1 x2))) σ)) := j3_T.go d [0, 2, 6, 10, 14, 22] 400
set_option maxRecDepth 100000 in
theorem b153_22 {d : Nat} {Q : j3_P} {σ : j3_S} {x0 : Int} {x1 : Int} {x2 : Int} :
  T153 d Q 22 [wI x0, wI x1, wI x2] [] σ = (if x2 = 0 then Q (some (wI 0)) σ else (¬ x2 = 0 ∧ Q (some (wI (i_rm x1 x2))) σ)) := j3_T.go d [0, 2, 6, 10, 14, 22] 400
