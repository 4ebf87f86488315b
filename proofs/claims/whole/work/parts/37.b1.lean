def T60 (d : Nat) (Q : j3_P) : j3_K := j3_T false (j3_tc false d) jc_X4_mark none Q
theorem e60 {d : Nat} {Q : j3_P} {σ : j3_S} {e1 o1 : Nat} {x2 : Int} : j3_tc false (d + 1) 60 [wO 4 92, wA e1 o1, wI x2] σ Q = T60 d Q 0 [wO 4 92, wA e1 o1, wI x2] [] σ := j3_entry ⟨Nat.le_of_ble_eq_true rfl, rfl⟩
set_option maxRecDepth 100000 in
theorem b60_0 {d : Nat} {Q : j3_P} {σ : j3_S} {e1 o1 : Nat} {x2 : Int} :
  T60 d Q 0 [wO 4 92, wA e1 o1, wI x2] [] σ = (bif (lt_fq e1 == 0) && j3_g false e1 then (0 ≤ x2 ∧ x2 < (lt_fn e1 : Int)) ∧ (if (σ.2.2 e1 o1 x2) = 0 then (bif (lt_fq e1 == 0) && j3_g false e1 then (0 ≤ x2 ∧ x2 < (lt_fn e1 : Int)) ∧ (((1 : Int) = 0 ∨ (1 : Int) = 1) ∧ Q none ((j3_up σ.1 4004 92 1), σ.2.1, (j3_ast σ.2.2 e1 o1 x2 1))) else False) else Q none σ) else False) := j3_T.go d [0] 400
def T61 (d : Nat) (Q : j3_P) : j3_K := j3_T false (j3_tc false d) jc_X4_markMeanings none Q
theorem e61 {d : Nat} {Q : j3_P} {σ : j3_S} {x1 : Int} : j3_tc false (d + 1) 61 [wO 4 92, wI x1] σ Q = T61 d Q 0 [wO 4 92, wI x1, wM 2, wM 2] [] σ := j3_entry ⟨Nat.le_of_ble_eq_true rfl, rfl⟩
set_option maxRecDepth 100000 in
theorem b61_0 {d : Nat} {Q : j3_P} {σ : j3_S} {x1 : Int} :
  T61 d Q 0 [wO 4 92, wI x1, wM 2, wM 2] [] σ = T61 d Q 2 [wO 4 92, wI x1, wI 0, wM 2] [] σ := j3_T.go d [0, 2, 30] 400
set_option maxRecDepth 100000 in
theorem b61_2 {d : Nat} {Q : j3_P} {σ : j3_S} {x1 : Int} {x2 : Int} {w3 : j3_W} :
  T61 d Q 2 [wO 4 92, wI x1, wI x2, w3] [] σ = (¬ (σ.2.1 2) = 0 ∧ (if x2 < (σ.1 3000 (σ.2.1 2)) then ((0 ≤ (wr ((wr (x2 * 80)) + x1)) ∧ (wr ((wr (x2 * 80)) + x1)) < 800) ∧ ((0 ≤ x2 ∧ x2 < 10) ∧ (if (σ.2.2 4001 92 x2) = (1 : Int) then (if (σ.2.2 4002 92 (wr ((wr (x2 * 80)) + x1))) = (-1 : Int) then T61 d Q 30 [wO 4 92, wI x1, wI x2, wI (σ.2.2 4002 92 (wr ((wr (x2 * 80)) + x1)))] [] σ else j3_tc false d 60 [wO 4 92, wA 4000 92, wI (σ.2.2 4002 92 (wr ((wr (x2 * 80)) + x1)))] σ (fun r σ1 => T61 d Q 30 [wO 4 92, wI x1, wI x2, wI (σ.2.2 4002 92 (wr ((wr (x2 * 80)) + x1)))] (r.toList ++ []) σ1)) else T61 d Q 30 [wO 4 92, wI x1, wI x2, wI (σ.2.2 4002 92 (wr ((wr (x2 * 80)) + x1)))] [] σ))) else Q none σ)) := j3_T.go d [0, 2, 30] 400
set_option maxRecDepth 100000 in
theorem b61_30 {d : Nat} {Q : j3_P} {σ : j3_S} {x1 : Int} {x2 : Int} {x3 : Int} :
  T61 d Q 30 [wO 4 92, wI x1, wI x2, wI x3] [] σ = T61 d Q 2 [wO 4 92, wI x1, wI (wr (x2 + 1)), wI x3] [] σ := j3_T.go d [0, 2, 30] 400
def T62 (d : Nat) (Q : j3_P) : j3_K := j3_T false (j3_tc false d) jc_X4_boundTo (some .int) Q
theorem e62 {d : Nat} {Q : j3_P} {σ : j3_S} {x1 : Int} : j3_tc false (d + 1) 62 [wO 4 92, wI x1] σ Q = T62 d Q 0 [wO 4 92, wI x1, wM 2, wM 2, wM 2] [] σ := j3_entry ⟨Nat.le_of_ble_eq_true rfl, rfl⟩
set_option maxRecDepth 100000 in
theorem b62_0 {d : Nat} {Q : j3_P} {σ : j3_S} {x1 : Int} :
  T62 d Q 0 [wO 4 92, wI x1, wM 2, wM 2, wM 2] [] σ = T62 d Q 4 [wO 4 92, wI x1, wI (-1), wI 0, wM 2] [] σ := j3_T.go d [0, 4, 35, 37, 55] 400
set_option maxRecDepth 100000 in
theorem b62_4 {d : Nat} {Q : j3_P} {σ : j3_S} {x1 : Int} {x2 : Int} {x3 : Int} {w4 : j3_W} :
  T62 d Q 4 [wO 4 92, wI x1, wI x2, wI x3, w4] [] σ = (¬ (σ.2.1 2) = 0 ∧ (if x3 < (σ.1 3000 (σ.2.1 2)) then ((0 ≤ (wr ((wr (x3 * 80)) + x1)) ∧ (wr ((wr (x3 * 80)) + x1)) < 800) ∧ ((0 ≤ x3 ∧ x3 < 10) ∧ (if (σ.2.2 4001 92 x3) = (1 : Int) then (if (σ.2.2 4002 92 (wr ((wr (x3 * 80)) + x1))) = (-1 : Int) then T62 d Q 37 [wO 4 92, wI x1, wI x2, wI x3, wI (σ.2.2 4002 92 (wr ((wr (x3 * 80)) + x1)))] [] σ else (if x2 = (-1 : Int) then T62 d Q 35 [wO 4 92, wI x1, wI x2, wI x3, wI (σ.2.2 4002 92 (wr ((wr (x3 * 80)) + x1)))] [] σ else (if x2 = (σ.2.2 4002 92 (wr ((wr (x3 * 80)) + x1))) then T62 d Q 35 [wO 4 92, wI x1, wI x2, wI x3, wI (σ.2.2 4002 92 (wr ((wr (x3 * 80)) + x1)))] [] σ else Q (some (wI (-1))) σ))) else T62 d Q 37 [wO 4 92, wI x1, wI x2, wI x3, wI (σ.2.2 4002 92 (wr ((wr (x3 * 80)) + x1)))] [] σ))) else (if x2 = (-1 : Int) then Q (some (wI (-1))) σ else (¬ (σ.2.1 2) = 0 ∧ (¬ (σ.2.1 2) = 0 ∧ ((0 ≤ x2 ∧ x2 < 80) ∧ (¬ (σ.2.1 2) = 0 ∧ ((0 ≤ x1 ∧ x1 < 80) ∧ j3_tc false d 48 [wO 3 (σ.2.1 2), wI (σ.2.2 3011 (σ.2.1 2) x2), wI (σ.2.2 3011 (σ.2.1 2) x1)] σ (fun r σ1 => T62 d Q 55 [wO 4 92, wI x1, wI x2, wI x3, w4] (r.toList ++ []) σ1))))))))) := j3_T.go d [0, 4, 35, 37, 55] 400
set_option maxRecDepth 100000 in
theorem b62_35 {d : Nat} {Q : j3_P} {σ : j3_S} {x1 : Int} {x2 : Int} {x3 : Int} {x4 : Int} :
  T62 d Q 35 [wO 4 92, wI x1, wI x2, wI x3, wI x4] [] σ = T62 d Q 37 [wO 4 92, wI x1, wI x4, wI x3, wI x4] [] σ := j3_T.go d [0, 4, 35, 37, 55] 400
set_option maxRecDepth 100000 in
theorem b62_37 {d : Nat} {Q : j3_P} {σ : j3_S} {x1 : Int} {x2 : Int} {x3 : Int} {x4 : Int} :
  T62 d Q 37 [wO 4 92, wI x1, wI x2, wI x3, wI x4] [] σ = T62 d Q 4 [wO 4 92, wI x1, wI x2, wI (wr (x3 + 1)), wI x4] [] σ := j3_T.go d [0, 4, 35, 37, 55] 400
set_option maxRecDepth 100000 in
theorem b62_55 {d : Nat} {Q : j3_P} {σ : j3_S} {x1 : Int} {x2 : Int} {x3 : Int} {w4 : j3_W} {xs0 : Int} :
  T62 d Q 55 [wO 4 92, wI x1, wI x2, wI x3, w4] [wI xs0] σ = (if xs0 = 0 then Q (some (wI (-1))) σ else Q (some (wI x2)) σ) := j3_T.go d [0, 4, 35, 37, 55] 400
def T64 (d : Nat) (Q : j3_P) : j3_K := j3_T false (j3_tc false d) jc_X5_firstWrong (some .int) Q
theorem e64 {d : Nat} {Q : j3_P} {σ : j3_S} {x2 : Int} {o3 : Nat} : j3_tc false (d + 1) 64 [wO 5 73, wA 9000 0, wI x2, wO 3 o3] σ Q = T64 d Q 0 [wO 5 73, wA 9000 0, wI x2, wO 3 o3, wM 2] [] σ := j3_entry ⟨Nat.le_of_ble_eq_true rfl, rfl⟩
set_option maxRecDepth 100000 in
theorem b64_0 {d : Nat} {Q : j3_P} {σ : j3_S} {x2 : Int} {o3 : Nat} :
  T64 d Q 0 [wO 5 73, wA 9000 0, wI x2, wO 3 o3, wM 2] [] σ = (((0 : Int) = 0 ∨ (0 : Int) = 1) ∧ j3_tc false d 66 [wO 5 73, wI 83, wI 83] ((j3_up (j3_up (j3_up (j3_up σ.1 5001 73 x2) 5002 73 0) 5003 73 0) 5007 73 0), (j3_upP (j3_upP σ.2.1 3 1) 4 o3), σ.2.2) (fun r σ1 => T64 d Q 22 [wO 5 73, wA 9000 0, wI x2, wO 3 o3, wM 2] (r.toList ++ []) σ1)) := j3_T.go d [0, 22, 27, 34, 41, 52, 54, 62, 67] 400
set_option maxRecDepth 100000 in
theorem b64_22 {d : Nat} {Q : j3_P} {σ : j3_S} {x2 : Int} {o3 : Nat} {xs0 : Int} :
  T64 d Q 22 [wO 5 73, wA 9000 0, wI x2, wO 3 o3, wM 2] [wI xs0] σ = j3_tc false d 66 [wO 5 73, wI 72, wI 72] σ (fun r σ1 => T64 d Q 27 [wO 5 73, wA 9000 0, wI x2, wO 3 o3, wM 2] (r.toList ++ []) σ1) := j3_T.go d [0, 22, 27, 34, 41, 52, 54, 62, 67] 400
set_option maxRecDepth 100000 in
theorem b64_27 {d : Nat} {Q : j3_P} {σ : j3_S} {x2 : Int} {o3 : Nat} {xs0 : Int} :
  T64 d Q 27 [wO 5 73, wA 9000 0, wI x2, wO 3 o3, wM 2] [wI xs0] σ = (¬ (σ.2.1 4) = 0 ∧ j3_tc false d 66 [wO 5 73, wI 1, wI 10] σ (fun r σ1 => T64 d Q 34 [wO 5 73, wA 9000 0, wI x2, wO 3 o3, wM 2] (r.toList ++ [wO 3 (σ.2.1 4)]) σ1)) := j3_T.go d [0, 22, 27, 34, 41, 52, 54, 62, 67] 400
set_option maxRecDepth 100000 in
theorem b64_34 {d : Nat} {Q : j3_P} {σ : j3_S} {x2 : Int} {o3 : Nat} {xs0 : Int} {os1 : Nat} :
  T64 d Q 34 [wO 5 73, wA 9000 0, wI x2, wO 3 o3, wM 2] [wI xs0, wO 3 os1] σ = (¬ (σ.2.1 4) = 0 ∧ T64 d Q 41 [wO 5 73, wA 9000 0, wI x2, wO 3 o3, wI 0] [] ((j3_up (j3_up σ.1 3000 os1 xs0) 3001 (σ.2.1 4) 0), σ.2.1, σ.2.2)) := j3_T.go d [0, 22, 27, 34, 41, 52, 54, 62, 67] 400
set_option maxRecDepth 100000 in
theorem b64_41 {d : Nat} {Q : j3_P} {σ : j3_S} {x2 : Int} {o3 : Nat} {x4 : Int} :
  T64 d Q 41 [wO 5 73, wA 9000 0, wI x2, wO 3 o3, wI x4] [] σ = (¬ (σ.2.1 4) = 0 ∧ (if x4 < (σ.1 3000 (σ.2.1 4)) then (if (σ.1 5003 73) = 0 then j3_tc false d 67 [wO 5 73, wI x4] σ (fun r σ1 => T64 d Q 52 [wO 5 73, wA 9000 0, wI x2, wO 3 o3, wI x4] (r.toList ++ []) σ1) else T64 d Q 54 [wO 5 73, wA 9000 0, wI x2, wO 3 o3, wI x4] [] σ) else T64 d Q 54 [wO 5 73, wA 9000 0, wI x2, wO 3 o3, wI x4] [] σ)) := j3_T.go d [0, 22, 27, 34, 41, 52, 54, 62, 67] 400
set_option maxRecDepth 100000 in
theorem b64_52 {d : Nat} {Q : j3_P} {σ : j3_S} {x2 : Int} {o3 : Nat} {x4 : Int} :
  T64 d Q 52 [wO 5 73, wA 9000 0, wI x2, wO 3 o3, wI x4] [] σ = T64 d Q 41 [wO 5 73, wA 9000 0, wI x2, wO 3 o3, wI (wr (x4 + 1))] [] σ := j3_T.go d [0, 22, 27, 34, 41, 52, 54, 62, 67] 400
set_option maxRecDepth 100000 in
theorem b64_54 {d : Nat} {Q : j3_P} {σ : j3_S} {x2 : Int} {o3 : Nat} {x4 : Int} :
  T64 d Q 54 [wO 5 73, wA 9000 0, wI x2, wO 3 o3, wI x4] [] σ = (if (σ.1 5003 73) = 0 then (if (σ.1 5002 73) < (σ.1 5001 73) then T64 d Q 62 [wO 5 73, wA 9000 0, wI x2, wO 3 o3, wI x4] [] σ else j3_tc false d 65 [wO 5 73] σ (fun r σ1 => T64 d Q 67 [wO 5 73, wA 9000 0, wI x2, wO 3 o3, wI x4] (r.toList ++ []) σ1)) else T64 d Q 62 [wO 5 73, wA 9000 0, wI x2, wO 3 o3, wI x4] [] σ) := j3_T.go d [0, 22, 27, 34, 41, 52, 54, 62, 67] 400
set_option maxRecDepth 100000 in
theorem b64_62 {d : Nat} {Q : j3_P} {σ : j3_S} {x2 : Int} {o3 : Nat} {x4 : Int} :
  T64 d Q 62 [wO 5 73, wA 9000 0, wI x2, wO 3 o3, wI x4] [] σ = T64 d Q 67 [wO 5 73, wA 9000 0, wI x2, wO 3 o3, wI x4] [wI (σ.1 5002 73)] σ := j3_T.go d [0, 22, 27, 34, 41, 52, 54, 62, 67] 400
set_option maxRecDepth 100000 in
theorem b64_67 {d : Nat} {Q : j3_P} {σ : j3_S} {x2 : Int} {o3 : Nat} {x4 : Int} {xs0 : Int} :
  T64 d Q 67 [wO 5 73, wA 9000 0, wI x2, wO 3 o3, wI x4] [wI xs0] σ = Q (some (wI xs0)) σ := j3_T.go d [0, 22, 27, 34, 41, 52, 54, 62, 67] 400
def T65 (d : Nat) (Q : j3_P) : j3_K := j3_T false (j3_tc false d) jc_X5_firstStranger (some .int) Q
theorem e65 {d : Nat} {Q : j3_P} {σ : j3_S}  : j3_tc false (d + 1) 65 [wO 5 73] σ Q = T65 d Q 0 [wO 5 73, wM 2, wM 2] [] σ := j3_entry ⟨Nat.le_of_ble_eq_true rfl, rfl⟩
set_option maxRecDepth 100000 in
theorem b65_0 {d : Nat} {Q : j3_P} {σ : j3_S}  :
  T65 d Q 0 [wO 5 73, wM 2, wM 2] [] σ = T65 d Q 2 [wO 5 73, wI 0, wM 2] [] σ := j3_T.go d [0, 2, 31] 400
set_option maxRecDepth 100000 in
theorem b65_2 {d : Nat} {Q : j3_P} {σ : j3_S} {x1 : Int} {w2 : j3_W} :
  T65 d Q 2 [wO 5 73, wI x1, w2] [] σ = (if x1 < (σ.1 5007 73) then ((0 ≤ x1 ∧ x1 < 4000) ∧ (¬ (σ.2.1 4) = 0 ∧ ((0 ≤ (σ.2.2 5005 73 x1) ∧ (σ.2.2 5005 73 x1) < 9600) ∧ (¬ (σ.2.1 4) = 0 ∧ ((0 ≤ (σ.2.2 5005 73 x1) ∧ (σ.2.2 5005 73 x1) < 9600) ∧ (¬ (σ.2.1 4) = 0 ∧ ((0 ≤ (σ.2.2 5005 73 x1) ∧ (σ.2.2 5005 73 x1) < 9600) ∧ j3_tc false d 72 [wO 5 73, wI (σ.2.2 1 ((σ.2.1 4) + 17) (σ.2.2 5005 73 x1)), wI (σ.2.2 2 ((σ.2.1 4) + 17) (σ.2.2 5005 73 x1)), wI (σ.2.2 3 ((σ.2.1 4) + 17) (σ.2.2 5005 73 x1))] σ (fun r σ1 => T65 d Q 31 [wO 5 73, wI x1, wI (σ.2.2 5005 73 x1)] (r.toList ++ []) σ1)))))))) else Q (some (wI (-1))) σ) := j3_T.go d [0, 2, 31] 400
set_option maxRecDepth 100000 in
theorem b65_31 {d : Nat} {Q : j3_P} {σ : j3_S} {x1 : Int} {x2 : Int} {xs0 : Int} :
  T65 d Q 31 [wO 5 73, wI x1, wI x2] [wI xs0] σ = (if xs0 = 0 then ((0 ≤ x1 ∧ x1 < 4000) ∧ Q (some (wI (σ.2.2 5006 73 x1))) σ) else T65 d Q 2 [wO 5 73, wI (wr (x1 + 1)), wI x2] [] σ) := j3_T.go d [0, 2, 31] 400
def T66 (d : Nat) (Q : j3_P) : j3_K := j3_T false (j3_tc false d) jc_X5_next (some .int) Q
theorem e66 {d : Nat} {Q : j3_P} {σ : j3_S} {x1 : Int} {x2 : Int} : j3_tc false (d + 1) 66 [wO 5 73, wI x1, wI x2] σ Q = T66 d Q 0 [wO 5 73, wI x1, wI x2, wM 2] [] σ := j3_entry ⟨Nat.le_of_ble_eq_true rfl, rfl⟩
set_option maxRecDepth 100000 in
theorem b66_0 {d : Nat} {Q : j3_P} {σ : j3_S} {x1 : Int} {x2 : Int} :
  T66 d Q 0 [wO 5 73, wI x1, wI x2, wM 2] [] σ = (if (σ.1 5003 73) = 0 then (if (σ.1 5002 73) < (σ.1 5001 73) then (¬ (σ.2.1 3) = 0 ∧ (if (σ.1 5002 73) < (4000 : Int) then (¬ (σ.2.1 3) = 0 ∧ ((0 ≤ (σ.1 5002 73) ∧ (σ.1 5002 73) < 4000) ∧ (if (i_an (σ.2.2 9000 0 (σ.1 5002 73)) 255) < x1 then T66 d Q 33 [wO 5 73, wI x1, wI x2, wI (i_an (σ.2.2 9000 0 (σ.1 5002 73)) 255)] [] σ else (if x2 < (i_an (σ.2.2 9000 0 (σ.1 5002 73)) 255) then T66 d Q 33 [wO 5 73, wI x1, wI x2, wI (i_an (σ.2.2 9000 0 (σ.1 5002 73)) 255)] [] σ else Q (some (wI (i_an (σ.2.2 9000 0 (σ.1 5002 73)) 255))) ((j3_up σ.1 5002 73 (wr ((σ.1 5002 73) + 1))), σ.2.1, σ.2.2))))) else T66 d Q 14 [wO 5 73, wI x1, wI x2, wM 2] [] σ)) else T66 d Q 14 [wO 5 73, wI x1, wI x2, wM 2] [] σ) else T66 d Q 14 [wO 5 73, wI x1, wI x2, wM 2] [] σ) := j3_T.go d [0, 14, 33] 400
set_option maxRecDepth 100000 in
theorem b66_14 {d : Nat} {Q : j3_P} {σ : j3_S} {x1 : Int} {x2 : Int} :
  T66 d Q 14 [wO 5 73, wI x1, wI x2, wM 2] [] σ = (((1 : Int) = 0 ∨ (1 : Int) = 1) ∧ Q (some (wI x1)) ((j3_up σ.1 5003 73 1), σ.2.1, σ.2.2)) := j3_T.go d [0, 14, 33] 400
set_option maxRecDepth 100000 in
theorem b66_33 {d : Nat} {Q : j3_P} {σ : j3_S} {x1 : Int} {x2 : Int} {x3 : Int} :
  T66 d Q 33 [wO 5 73, wI x1, wI x2, wI x3] [] σ = (((1 : Int) = 0 ∨ (1 : Int) = 1) ∧ Q (some (wI x1)) ((j3_up σ.1 5003 73 1), σ.2.1, σ.2.2)) := j3_T.go d [0, 14, 33] 400
def T67 (d : Nat) (Q : j3_P) : j3_K := j3_T false (j3_tc false d) jc_X5_readClass none Q
theorem e67 {d : Nat} {Q : j3_P} {σ : j3_S} {x1 : Int} : j3_tc false (d + 1) 67 [wO 5 73, wI x1] σ Q = T67 d Q 0 [wO 5 73, wI x1, wM 2, wM 2, wM 2] [] σ := j3_entry ⟨Nat.le_of_ble_eq_true rfl, rfl⟩
set_option maxRecDepth 100000 in
theorem b67_0 {d : Nat} {Q : j3_P} {σ : j3_S} {x1 : Int} :
  T67 d Q 0 [wO 5 73, wI x1, wM 2, wM 2, wM 2] [] σ = (¬ (σ.2.1 4) = 0 ∧ j3_tc false d 66 [wO 5 73, wI 1, wI 255] σ (fun r σ1 => T67 d Q 8 [wO 5 73, wI x1, wM 2, wM 2, wM 2] (r.toList ++ [wI x1, wA 3002 (σ.2.1 4)]) σ1)) := j3_T.go d [0, 8, 13, 37, 46, 49, 70, 81, 90, 109, 112, 128] 400
set_option maxRecDepth 100000 in
theorem b67_8 {d : Nat} {Q : j3_P} {σ : j3_S} {x1 : Int} {xs0 : Int} {xs1 : Int} {os2 : Nat} :
  T67 d Q 8 [wO 5 73, wI x1, wM 2, wM 2, wM 2] [wI xs0, wI xs1, wA 3002 os2] σ = ((0 ≤ xs1 ∧ xs1 < 10) ∧ j3_tc false d 66 [wO 5 73, wI 0, wI x1] (σ.1, σ.2.1, (j3_ast σ.2.2 3002 os2 xs1 xs0)) (fun r σ1 => T67 d Q 13 [wO 5 73, wI x1, wM 2, wM 2, wM 2] (r.toList ++ []) σ1)) := j3_T.go d [0, 8, 13, 37, 46, 49, 70, 81, 90, 109, 112, 128] 400
set_option maxRecDepth 100000 in
theorem b67_13 {d : Nat} {Q : j3_P} {σ : j3_S} {x1 : Int} {xs0 : Int} :
  T67 d Q 13 [wO 5 73, wI x1, wM 2, wM 2, wM 2] [wI xs0] σ = (¬ (σ.2.1 4) = 0 ∧ ((0 ≤ x1 ∧ x1 < 10) ∧ (¬ (σ.2.1 4) = 0 ∧ (if (wr (xs0 - 1)) < 0 then T67 d Q 37 [wO 5 73, wI x1, wI (wr (xs0 - 1)), wM 2, wM 2] [wI 0, wI x1, wA 3004 (σ.2.1 4)] (σ.1, σ.2.1, (j3_ast σ.2.2 3003 (σ.2.1 4) x1 (wr (xs0 - 1)))) else (¬ (σ.2.1 4) = 0 ∧ ((0 ≤ (wr (xs0 - 1)) ∧ (wr (xs0 - 1)) < 10) ∧ T67 d Q 37 [wO 5 73, wI x1, wI (wr (xs0 - 1)), wM 2, wM 2] [wI (wr ((σ.2.2 3004 (σ.2.1 4) (wr (xs0 - 1))) + 1)), wI x1, wA 3004 (σ.2.1 4)] (σ.1, σ.2.1, (j3_ast σ.2.2 3003 (σ.2.1 4) x1 (wr (xs0 - 1)))))))))) := j3_T.go d [0, 8, 13, 37, 46, 49, 70, 81, 90, 109, 112, 128] 400
set_option maxRecDepth 100000 in
theorem b67_37 {d : Nat} {Q : j3_P} {σ : j3_S} {x1 : Int} {x2 : Int} {xs0 : Int} {xs1 : Int} {os2 : Nat} :
  T67 d Q 37 [wO 5 73, wI x1, wI x2, wM 2, wM 2] [wI xs0, wI xs1, wA 3004 os2] σ = ((0 ≤ xs1 ∧ xs1 < 10) ∧ (¬ (σ.2.1 4) = 0 ∧ j3_tc false d 66 [wO 5 73, wI 0, wI 6] (σ.1, σ.2.1, (j3_ast σ.2.2 3004 os2 xs1 xs0)) (fun r σ1 => T67 d Q 46 [wO 5 73, wI x1, wI x2, wM 2, wM 2] (r.toList ++ [wI x1, wA 3005 (σ.2.1 4)]) σ1))) := j3_T.go d [0, 8, 13, 37, 46, 49, 70, 81, 90, 109, 112, 128] 400
set_option maxRecDepth 100000 in
theorem b67_46 {d : Nat} {Q : j3_P} {σ : j3_S} {x1 : Int} {x2 : Int} {xs0 : Int} {xs1 : Int} {os2 : Nat} :
  T67 d Q 46 [wO 5 73, wI x1, wI x2, wM 2, wM 2] [wI xs0, wI xs1, wA 3005 os2] σ = ((0 ≤ xs1 ∧ xs1 < 10) ∧ T67 d Q 49 [wO 5 73, wI x1, wI x2, wI 0, wM 2] [] (σ.1, σ.2.1, (j3_ast σ.2.2 3005 os2 xs1 xs0))) := j3_T.go d [0, 8, 13, 37, 46, 49, 70, 81, 90, 109, 112, 128] 400
set_option maxRecDepth 100000 in
theorem b67_49 {d : Nat} {Q : j3_P} {σ : j3_S} {x1 : Int} {x2 : Int} {x3 : Int} {w4 : j3_W} :
  T67 d Q 49 [wO 5 73, wI x1, wI x2, wI x3, w4] [] σ = (¬ (σ.2.1 4) = 0 ∧ ((0 ≤ x1 ∧ x1 < 10) ∧ (if x3 < (σ.2.2 3005 (σ.2.1 4) x1) then (¬ (σ.2.1 4) = 0 ∧ j3_tc false d 66 [wO 5 73, wI 1, wI 255] σ (fun r σ1 => T67 d Q 70 [wO 5 73, wI x1, wI x2, wI x3, wI (wr ((wr (x1 * 6)) + x3))] (r.toList ++ [wI (wr ((wr (x1 * 6)) + x3)), wA 3008 (σ.2.1 4)]) σ1)) else (¬ (σ.2.1 4) = 0 ∧ (¬ (σ.2.1 4) = 0 ∧ ((0 ≤ x1 ∧ x1 < 10) ∧ (¬ (σ.2.1 4) = 0 ∧ j3_tc false d 66 [wO 5 73, wI 0, wI 8] (σ.1, σ.2.1, (j3_ast σ.2.2 3007 (σ.2.1 4) x1 (σ.1 3001 (σ.2.1 4)))) (fun r σ1 => T67 d Q 109 [wO 5 73, wI x1, wI x2, wI x3, w4] (r.toList ++ [wI x1, wA 3006 (σ.2.1 4)]) σ1)))))))) := j3_T.go d [0, 8, 13, 37, 46, 49, 70, 81, 90, 109, 112, 128] 400
set_option maxRecDepth 100000 in
theorem b67_70 {d : Nat} {Q : j3_P} {σ : j3_S} {x1 : Int} {x2 : Int} {x3 : Int} {x4 : Int} {xs0 : Int} {xs1 : Int} {os2 : Nat} :
  T67 d Q 70 [wO 5 73, wI x1, wI x2, wI x3, wI x4] [wI xs0, wI xs1, wA 3008 os2] σ = ((0 ≤ xs1 ∧ xs1 < 60) ∧ (¬ (σ.2.1 4) = 0 ∧ (¬ (σ.2.1 4) = 0 ∧ j3_tc false d 66 [wO 5 73, wI 0, wI (σ.1 3000 (σ.2.1 4))] (σ.1, σ.2.1, (j3_ast σ.2.2 3008 os2 xs1 xs0)) (fun r σ1 => T67 d Q 81 [wO 5 73, wI x1, wI x2, wI x3, wI x4] (r.toList ++ [wI x4, wA 3009 (σ.2.1 4)]) σ1)))) := j3_T.go d [0, 8, 13, 37, 46, 49, 70, 81, 90, 109, 112, 128] 400
set_option maxRecDepth 100000 in
theorem b67_81 {d : Nat} {Q : j3_P} {σ : j3_S} {x1 : Int} {x2 : Int} {x3 : Int} {x4 : Int} {xs0 : Int} {xs1 : Int} {os2 : Nat} :
  T67 d Q 81 [wO 5 73, wI x1, wI x2, wI x3, wI x4] [wI xs0, wI xs1, wA 3009 os2] σ = ((0 ≤ xs1 ∧ xs1 < 60) ∧ (¬ (σ.2.1 4) = 0 ∧ j3_tc false d 66 [wO 5 73, wI 0, wI 1] (σ.1, σ.2.1, (j3_ast σ.2.2 3009 os2 xs1 xs0)) (fun r σ1 => T67 d Q 90 [wO 5 73, wI x1, wI x2, wI x3, wI x4] (r.toList ++ [wI x4, wA 3010 (σ.2.1 4)]) σ1))) := j3_T.go d [0, 8, 13, 37, 46, 49, 70, 81, 90, 109, 112, 128] 400
set_option maxRecDepth 100000 in
theorem b67_90 {d : Nat} {Q : j3_P} {σ : j3_S} {x1 : Int} {x2 : Int} {x3 : Int} {x4 : Int} {xs0 : Int} {xs1 : Int} {os2 : Nat} :
  T67 d Q 90 [wO 5 73, wI x1, wI x2, wI x3, wI x4] [wI xs0, wI xs1, wA 3010 os2] σ = ((0 ≤ xs1 ∧ xs1 < 60) ∧ T67 d Q 49 [wO 5 73, wI x1, wI x2, wI (wr (x3 + 1)), wI x4] [] (σ.1, σ.2.1, (j3_ast σ.2.2 3010 os2 xs1 xs0))) := j3_T.go d [0, 8, 13, 37, 46, 49, 70, 81, 90, 109, 112, 128] 400
set_option maxRecDepth 100000 in
theorem b67_109 {d : Nat} {Q : j3_P} {σ : j3_S} {x1 : Int} {x2 : Int} {x3 : Int} {w4 : j3_W} {xs0 : Int} {xs1 : Int} {os2 : Nat} :
  T67 d Q 109 [wO 5 73, wI x1, wI x2, wI x3, w4] [wI xs0, wI xs1, wA 3006 os2] σ = ((0 ≤ xs1 ∧ xs1 < 10) ∧ T67 d Q 112 [wO 5 73, wI x1, wI x2, wI 0, w4] [] (σ.1, σ.2.1, (j3_ast σ.2.2 3006 os2 xs1 xs0))) := j3_T.go d [0, 8, 13, 37, 46, 49, 70, 81, 90, 109, 112, 128] 400
set_option maxRecDepth 100000 in
theorem b67_112 {d : Nat} {Q : j3_P} {σ : j3_S} {x1 : Int} {x2 : Int} {x3 : Int} {w4 : j3_W} :
  T67 d Q 112 [wO 5 73, wI x1, wI x2, wI x3, w4] [] σ = (¬ (σ.2.1 4) = 0 ∧ ((0 ≤ x1 ∧ x1 < 10) ∧ (if x3 < (σ.2.2 3006 (σ.2.1 4) x1) then (if (σ.1 5003 73) = 0 then (¬ (σ.2.1 4) = 0 ∧ j3_tc false d 68 [wO 5 73, wI x1, wI (σ.1 3001 (σ.2.1 4))] σ (fun r σ1 => T67 d Q 128 [wO 5 73, wI x1, wI x2, wI x3, w4] (r.toList ++ []) σ1)) else Q none σ) else Q none σ))) := j3_T.go d [0, 8, 13, 37, 46, 49, 70, 81, 90, 109, 112, 128] 400
set_option maxRecDepth 100000 in
theorem b67_128 {d : Nat} {Q : j3_P} {σ : j3_S} {x1 : Int} {x2 : Int} {x3 : Int} {w4 : j3_W} :
  T67 d Q 128 [wO 5 73, wI x1, wI x2, wI x3, w4] [] σ = (¬ (σ.2.1 4) = 0 ∧ T67 d Q 112 [wO 5 73, wI x1, wI x2, wI (wr (x3 + 1)), w4] [] ((j3_up σ.1 3001 (σ.2.1 4) (wr ((σ.1 3001 (σ.2.1 4)) + 1))), σ.2.1, σ.2.2)) := j3_T.go d [0, 8, 13, 37, 46, 49, 70, 81, 90, 109, 112, 128] 400
def T68 (d : Nat) (Q : j3_P) : j3_K := j3_T false (j3_tc false d) jc_X5_readMethod none Q
theorem e68 {d : Nat} {Q : j3_P} {σ : j3_S} {x1 : Int} {x2 : Int} : j3_tc false (d + 1) 68 [wO 5 73, wI x1, wI x2] σ Q = T68 d Q 0 [wO 5 73, wI x1, wI x2, wM 2] [] σ := j3_entry ⟨Nat.le_of_ble_eq_true rfl, rfl⟩
set_option maxRecDepth 100000 in
theorem b68_0 {d : Nat} {Q : j3_P} {σ : j3_S} {x1 : Int} {x2 : Int} :
  T68 d Q 0 [wO 5 73, wI x1, wI x2, wM 2] [] σ = (¬ (σ.2.1 4) = 0 ∧ ((0 ≤ x2 ∧ x2 < 80) ∧ (¬ (σ.2.1 4) = 0 ∧ j3_tc false d 66 [wO 5 73, wI 1, wI 255] (σ.1, σ.2.1, (j3_ast σ.2.2 3011 (σ.2.1 4) x2 x1)) (fun r σ1 => T68 d Q 14 [wO 5 73, wI x1, wI x2, wM 2] (r.toList ++ [wI x2, wA 3012 (σ.2.1 4)]) σ1)))) := j3_T.go d [0, 14, 23, 36, 45, 48, 69, 86, 89, 99, 102, 121] 400
set_option maxRecDepth 100000 in
theorem b68_14 {d : Nat} {Q : j3_P} {σ : j3_S} {x1 : Int} {x2 : Int} {xs0 : Int} {xs1 : Int} {os2 : Nat} :
  T68 d Q 14 [wO 5 73, wI x1, wI x2, wM 2] [wI xs0, wI xs1, wA 3012 os2] σ = ((0 ≤ xs1 ∧ xs1 < 80) ∧ (¬ (σ.2.1 4) = 0 ∧ j3_tc false d 66 [wO 5 73, wI 0, wI 1] (σ.1, σ.2.1, (j3_ast σ.2.2 3012 os2 xs1 xs0)) (fun r σ1 => T68 d Q 23 [wO 5 73, wI x1, wI x2, wM 2] (r.toList ++ [wI x2, wA 3013 (σ.2.1 4)]) σ1))) := j3_T.go d [0, 14, 23, 36, 45, 48, 69, 86, 89, 99, 102, 121] 400
set_option maxRecDepth 100000 in
theorem b68_23 {d : Nat} {Q : j3_P} {σ : j3_S} {x1 : Int} {x2 : Int} {xs0 : Int} {xs1 : Int} {os2 : Nat} :
  T68 d Q 23 [wO 5 73, wI x1, wI x2, wM 2] [wI xs0, wI xs1, wA 3013 os2] σ = ((0 ≤ xs1 ∧ xs1 < 80) ∧ (¬ (σ.2.1 4) = 0 ∧ (¬ (σ.2.1 4) = 0 ∧ j3_tc false d 66 [wO 5 73, wI 0, wI (wr ((σ.1 3000 (σ.2.1 4)) + 1))] (σ.1, σ.2.1, (j3_ast σ.2.2 3013 os2 xs1 xs0)) (fun r σ1 => T68 d Q 36 [wO 5 73, wI x1, wI x2, wM 2] (r.toList ++ [wI x2, wA 3014 (σ.2.1 4)]) σ1)))) := j3_T.go d [0, 14, 23, 36, 45, 48, 69, 86, 89, 99, 102, 121] 400
set_option maxRecDepth 100000 in
theorem b68_36 {d : Nat} {Q : j3_P} {σ : j3_S} {x1 : Int} {x2 : Int} {xs0 : Int} {xs1 : Int} {os2 : Nat} :
  T68 d Q 36 [wO 5 73, wI x1, wI x2, wM 2] [wI xs0, wI xs1, wA 3014 os2] σ = ((0 ≤ xs1 ∧ xs1 < 80) ∧ (¬ (σ.2.1 4) = 0 ∧ j3_tc false d 66 [wO 5 73, wI 0, wI 3] (σ.1, σ.2.1, (j3_ast σ.2.2 3014 os2 xs1 xs0)) (fun r σ1 => T68 d Q 45 [wO 5 73, wI x1, wI x2, wM 2] (r.toList ++ [wI x2, wA 3015 (σ.2.1 4)]) σ1))) := j3_T.go d [0, 14, 23, 36, 45, 48, 69, 86, 89, 99, 102, 121] 400
set_option maxRecDepth 100000 in
theorem b68_45 {d : Nat} {Q : j3_P} {σ : j3_S} {x1 : Int} {x2 : Int} {xs0 : Int} {xs1 : Int} {os2 : Nat} :
  T68 d Q 45 [wO 5 73, wI x1, wI x2, wM 2] [wI xs0, wI xs1, wA 3015 os2] σ = ((0 ≤ xs1 ∧ xs1 < 80) ∧ T68 d Q 48 [wO 5 73, wI x1, wI x2, wI 0] [] (σ.1, σ.2.1, (j3_ast σ.2.2 3015 os2 xs1 xs0))) := j3_T.go d [0, 14, 23, 36, 45, 48, 69, 86, 89, 99, 102, 121] 400
set_option maxRecDepth 100000 in
theorem b68_48 {d : Nat} {Q : j3_P} {σ : j3_S} {x1 : Int} {x2 : Int} {x3 : Int} :
  T68 d Q 48 [wO 5 73, wI x1, wI x2, wI x3] [] σ = (¬ (σ.2.1 4) = 0 ∧ ((0 ≤ x2 ∧ x2 < 80) ∧ (if x3 < (σ.2.2 3015 (σ.2.1 4) x2) then (¬ (σ.2.1 4) = 0 ∧ (¬ (σ.2.1 4) = 0 ∧ j3_tc false d 66 [wO 5 73, wI 0, wI (σ.1 3000 (σ.2.1 4))] σ (fun r σ1 => T68 d Q 69 [wO 5 73, wI x1, wI x2, wI x3] (r.toList ++ [wI (wr ((wr (x2 * 3)) + x3)), wA 3016 (σ.2.1 4)]) σ1))) else (¬ (σ.2.1 4) = 0 ∧ (¬ (σ.2.1 4) = 0 ∧ ((0 ≤ x2 ∧ x2 < 80) ∧ (¬ (σ.2.1 4) = 0 ∧ j3_tc false d 51 [wO 3 (σ.2.1 4), wI x2] σ (fun r σ1 => T68 d Q 86 [wO 5 73, wI x1, wI x2, wI x3] (r.toList ++ [wI (σ.2.2 3015 (σ.2.1 4) x2), wO 5 73, wI x2, wA 3017 (σ.2.1 4)]) σ1)))))))) := j3_T.go d [0, 14, 23, 36, 45, 48, 69, 86, 89, 99, 102, 121] 400
set_option maxRecDepth 100000 in
theorem b68_69 {d : Nat} {Q : j3_P} {σ : j3_S} {x1 : Int} {x2 : Int} {x3 : Int} {xs0 : Int} {xs1 : Int} {os2 : Nat} :
  T68 d Q 69 [wO 5 73, wI x1, wI x2, wI x3] [wI xs0, wI xs1, wA 3016 os2] σ = ((0 ≤ xs1 ∧ xs1 < 240) ∧ T68 d Q 48 [wO 5 73, wI x1, wI x2, wI (wr (x3 + 1))] [] (σ.1, σ.2.1, (j3_ast σ.2.2 3016 os2 xs1 xs0))) := j3_T.go d [0, 14, 23, 36, 45, 48, 69, 86, 89, 99, 102, 121] 400
set_option maxRecDepth 100000 in
theorem b68_86 {d : Nat} {Q : j3_P} {σ : j3_S} {x1 : Int} {x2 : Int} {x3 : Int} {xs0 : Int} {xs1 : Int} {xs3 : Int} {os4 : Nat} :
  T68 d Q 86 [wO 5 73, wI x1, wI x2, wI x3] [wI xs0, wI xs1, wO 5 73, wI xs3, wA 3017 os4] σ = j3_tc false d 66 [wO 5 73, wI (wr (xs1 + xs0)), wI 20] σ (fun r σ1 => T68 d Q 89 [wO 5 73, wI x1, wI x2, wI x3] (r.toList ++ [wI xs3, wA 3017 os4]) σ1) := j3_T.go d [0, 14, 23, 36, 45, 48, 69, 86, 89, 99, 102, 121] 400
set_option maxRecDepth 100000 in
theorem b68_89 {d : Nat} {Q : j3_P} {σ : j3_S} {x1 : Int} {x2 : Int} {x3 : Int} {xs0 : Int} {xs1 : Int} {os2 : Nat} :
  T68 d Q 89 [wO 5 73, wI x1, wI x2, wI x3] [wI xs0, wI xs1, wA 3017 os2] σ = ((0 ≤ xs1 ∧ xs1 < 80) ∧ (¬ (σ.2.1 4) = 0 ∧ j3_tc false d 66 [wO 5 73, wI 1, wI 120] (σ.1, σ.2.1, (j3_ast σ.2.2 3017 os2 xs1 xs0)) (fun r σ1 => T68 d Q 99 [wO 5 73, wI x1, wI x2, wI x3] (r.toList ++ [wI x2, wA 0 ((σ.2.1 4) + 17)]) σ1))) := j3_T.go d [0, 14, 23, 36, 45, 48, 69, 86, 89, 99, 102, 121] 400
set_option maxRecDepth 100000 in
theorem b68_99 {d : Nat} {Q : j3_P} {σ : j3_S} {x1 : Int} {x2 : Int} {x3 : Int} {xs0 : Int} {xs1 : Int} {os2 : Nat} :
  T68 d Q 99 [wO 5 73, wI x1, wI x2, wI x3] [wI xs0, wI xs1, wA 0 os2] σ = ((0 ≤ xs1 ∧ xs1 < 80) ∧ T68 d Q 102 [wO 5 73, wI x1, wI x2, wI 0] [] (σ.1, σ.2.1, (j3_ast σ.2.2 0 os2 xs1 xs0))) := j3_T.go d [0, 14, 23, 36, 45, 48, 69, 86, 89, 99, 102, 121] 400
set_option maxRecDepth 100000 in
theorem b68_102 {d : Nat} {Q : j3_P} {σ : j3_S} {x1 : Int} {x2 : Int} {x3 : Int} :
  T68 d Q 102 [wO 5 73, wI x1, wI x2, wI x3] [] σ = (¬ (σ.2.1 4) = 0 ∧ ((0 ≤ x2 ∧ x2 < 80) ∧ (if x3 < (σ.2.2 0 ((σ.2.1 4) + 17) x2) then (if (σ.1 5003 73) = 0 then j3_tc false d 69 [wO 5 73, wI x2, wI (wr ((wr (x2 * 120)) + x3))] σ (fun r σ1 => T68 d Q 121 [wO 5 73, wI x1, wI x2, wI x3] (r.toList ++ []) σ1) else Q none σ) else Q none σ))) := j3_T.go d [0, 14, 23, 36, 45, 48, 69, 86, 89, 99, 102, 121] 400
set_option maxRecDepth 100000 in
theorem b68_121 {d : Nat} {Q : j3_P} {σ : j3_S} {x1 : Int} {x2 : Int} {x3 : Int} :
  T68 d Q 121 [wO 5 73, wI x1, wI x2, wI x3] [] σ = T68 d Q 102 [wO 5 73, wI x1, wI x2, wI (wr (x3 + 1))] [] σ := j3_T.go d [0, 14, 23, 36, 45, 48, 69, 86, 89, 99, 102, 121] 400
def T69 (d : Nat) (Q : j3_P) : j3_K := j3_T false (j3_tc false d) jc_X5_readInstruction none Q
theorem e69 {d : Nat} {Q : j3_P} {σ : j3_S} {x1 : Int} {x2 : Int} : j3_tc false (d + 1) 69 [wO 5 73, wI x1, wI x2] σ Q = T69 d Q 0 [wO 5 73, wI x1, wI x2, wM 2, wM 2, wM 2] [] σ := j3_entry ⟨Nat.le_of_ble_eq_true rfl, rfl⟩
set_option maxRecDepth 100000 in
theorem b69_0 {d : Nat} {Q : j3_P} {σ : j3_S} {x1 : Int} {x2 : Int} :
  T69 d Q 0 [wO 5 73, wI x1, wI x2, wM 2, wM 2, wM 2] [] σ = j3_tc false d 66 [wO 5 73, wI 0, wI 26] σ (fun r σ1 => T69 d Q 4 [wO 5 73, wI x1, wI x2, wM 2, wM 2, wM 2] (r.toList ++ []) σ1) := j3_T.go d [0, 4, 13, 15, 17, 27, 29, 40, 42, 50, 52, 60, 64, 68, 70] 400
set_option maxRecDepth 100000 in
theorem b69_4 {d : Nat} {Q : j3_P} {σ : j3_S} {x1 : Int} {x2 : Int} {xs0 : Int} :
  T69 d Q 4 [wO 5 73, wI x1, wI x2, wM 2, wM 2, wM 2] [wI xs0] σ = ((0 ≤ xs0 ∧ xs0 < 27) ∧ (if (i_tls xs0) = 1 then T69 d Q 13 [wO 5 73, wI x1, wI x2, wI xs0, wI 0, wI 0] [] σ else (if (i_tls xs0) = 2 then T69 d Q 17 [wO 5 73, wI x1, wI x2, wI xs0, wI 0, wI 0] [] σ else (if (i_tls xs0) = 3 then T69 d Q 29 [wO 5 73, wI x1, wI x2, wI xs0, wI 0, wI 0] [] σ else (if (i_tls xs0) = 4 then T69 d Q 42 [wO 5 73, wI x1, wI x2, wI xs0, wI 0, wI 0] [] σ else (if (i_tls xs0) = 5 then T69 d Q 52 [wO 5 73, wI x1, wI x2, wI xs0, wI 0, wI 0] [] σ else (if (i_tls xs0) = 6 then T69 d Q 52 [wO 5 73, wI x1, wI x2, wI xs0, wI 0, wI 0] [] σ else T69 d Q 70 [wO 5 73, wI x1, wI x2, wI xs0, wI 0, wI 0] [] σ))))))) := j3_T.go d [0, 4, 13, 15, 17, 27, 29, 40, 42, 50, 52, 60, 64, 68, 70] 400
set_option maxRecDepth 100000 in
theorem b69_13 {d : Nat} {Q : j3_P} {σ : j3_S} {x1 : Int} {x2 : Int} {x3 : Int} {x4 : Int} {x5 : Int} :
  T69 d Q 13 [wO 5 73, wI x1, wI x2, wI x3, wI x4, wI x5] [] σ = j3_tc false d 70 [wO 5 73] σ (fun r σ1 => T69 d Q 15 [wO 5 73, wI x1, wI x2, wI x3, wI x4, wI x5] (r.toList ++ []) σ1) := j3_T.go d [0, 4, 13, 15, 17, 27, 29, 40, 42, 50, 52, 60, 64, 68, 70] 400
set_option maxRecDepth 100000 in
theorem b69_15 {d : Nat} {Q : j3_P} {σ : j3_S} {x1 : Int} {x2 : Int} {x3 : Int} {x4 : Int} {x5 : Int} {xs0 : Int} :
  T69 d Q 15 [wO 5 73, wI x1, wI x2, wI x3, wI x4, wI x5] [wI xs0] σ = T69 d Q 70 [wO 5 73, wI x1, wI x2, wI x3, wI xs0, wI x5] [] σ := j3_T.go d [0, 4, 13, 15, 17, 27, 29, 40, 42, 50, 52, 60, 64, 68, 70] 400
set_option maxRecDepth 100000 in
theorem b69_17 {d : Nat} {Q : j3_P} {σ : j3_S} {x1 : Int} {x2 : Int} {x3 : Int} {x4 : Int} {x5 : Int} :
  T69 d Q 17 [wO 5 73, wI x1, wI x2, wI x3, wI x4, wI x5] [] σ = (¬ (σ.2.1 4) = 0 ∧ ((0 ≤ x1 ∧ x1 < 80) ∧ j3_tc false d 66 [wO 5 73, wI 0, wI (wr ((σ.2.2 3017 (σ.2.1 4) x1) - 1))] σ (fun r σ1 => T69 d Q 27 [wO 5 73, wI x1, wI x2, wI x3, wI x4, wI x5] (r.toList ++ []) σ1))) := j3_T.go d [0, 4, 13, 15, 17, 27, 29, 40, 42, 50, 52, 60, 64, 68, 70] 400
set_option maxRecDepth 100000 in
theorem b69_27 {d : Nat} {Q : j3_P} {σ : j3_S} {x1 : Int} {x2 : Int} {x3 : Int} {x4 : Int} {x5 : Int} {xs0 : Int} :
  T69 d Q 27 [wO 5 73, wI x1, wI x2, wI x3, wI x4, wI x5] [wI xs0] σ = T69 d Q 70 [wO 5 73, wI x1, wI x2, wI x3, wI xs0, wI x5] [] σ := j3_T.go d [0, 4, 13, 15, 17, 27, 29, 40, 42, 50, 52, 60, 64, 68, 70] 400
set_option maxRecDepth 100000 in
theorem b69_29 {d : Nat} {Q : j3_P} {σ : j3_S} {x1 : Int} {x2 : Int} {x3 : Int} {x4 : Int} {x5 : Int} :
  T69 d Q 29 [wO 5 73, wI x1, wI x2, wI x3, wI x4, wI x5] [] σ = (¬ (σ.2.1 4) = 0 ∧ ((0 ≤ x1 ∧ x1 < 80) ∧ j3_tc false d 66 [wO 5 73, wI 0, wI (wr ((σ.2.2 0 ((σ.2.1 4) + 17) x1) - 1))] σ (fun r σ1 => T69 d Q 40 [wO 5 73, wI x1, wI x2, wI x3, wI x4, wI x5] (r.toList ++ []) σ1))) := j3_T.go d [0, 4, 13, 15, 17, 27, 29, 40, 42, 50, 52, 60, 64, 68, 70] 400
set_option maxRecDepth 100000 in
theorem b69_40 {d : Nat} {Q : j3_P} {σ : j3_S} {x1 : Int} {x2 : Int} {x3 : Int} {x4 : Int} {x5 : Int} {xs0 : Int} :
  T69 d Q 40 [wO 5 73, wI x1, wI x2, wI x3, wI x4, wI x5] [wI xs0] σ = T69 d Q 70 [wO 5 73, wI x1, wI x2, wI x3, wI xs0, wI x5] [] σ := j3_T.go d [0, 4, 13, 15, 17, 27, 29, 40, 42, 50, 52, 60, 64, 68, 70] 400
set_option maxRecDepth 100000 in
theorem b69_42 {d : Nat} {Q : j3_P} {σ : j3_S} {x1 : Int} {x2 : Int} {x3 : Int} {x4 : Int} {x5 : Int} :
  T69 d Q 42 [wO 5 73, wI x1, wI x2, wI x3, wI x4, wI x5] [] σ = (¬ (σ.2.1 4) = 0 ∧ j3_tc false d 66 [wO 5 73, wI 0, wI (wr ((σ.1 3000 (σ.2.1 4)) - 1))] σ (fun r σ1 => T69 d Q 50 [wO 5 73, wI x1, wI x2, wI x3, wI x4, wI x5] (r.toList ++ []) σ1)) := j3_T.go d [0, 4, 13, 15, 17, 27, 29, 40, 42, 50, 52, 60, 64, 68, 70] 400
set_option maxRecDepth 100000 in
theorem b69_50 {d : Nat} {Q : j3_P} {σ : j3_S} {x1 : Int} {x2 : Int} {x3 : Int} {x4 : Int} {x5 : Int} {xs0 : Int} :
  T69 d Q 50 [wO 5 73, wI x1, wI x2, wI x3, wI x4, wI x5] [wI xs0] σ = T69 d Q 70 [wO 5 73, wI x1, wI x2, wI x3, wI xs0, wI x5] [] σ := j3_T.go d [0, 4, 13, 15, 17, 27, 29, 40, 42, 50, 52, 60, 64, 68, 70] 400
set_option maxRecDepth 100000 in
theorem b69_52 {d : Nat} {Q : j3_P} {σ : j3_S} {x1 : Int} {x2 : Int} {x3 : Int} {x4 : Int} {x5 : Int} :
  T69 d Q 52 [wO 5 73, wI x1, wI x2, wI x3, wI x4, wI x5] [] σ = (¬ (σ.2.1 4) = 0 ∧ j3_tc false d 66 [wO 5 73, wI 0, wI (wr ((σ.1 3000 (σ.2.1 4)) - 1))] σ (fun r σ1 => T69 d Q 60 [wO 5 73, wI x1, wI x2, wI x3, wI x4, wI x5] (r.toList ++ []) σ1)) := j3_T.go d [0, 4, 13, 15, 17, 27, 29, 40, 42, 50, 52, 60, 64, 68, 70] 400
set_option maxRecDepth 100000 in
theorem b69_60 {d : Nat} {Q : j3_P} {σ : j3_S} {x1 : Int} {x2 : Int} {x3 : Int} {x4 : Int} {x5 : Int} {xs0 : Int} :
  T69 d Q 60 [wO 5 73, wI x1, wI x2, wI x3, wI x4, wI x5] [wI xs0] σ = j3_tc false d 71 [wO 5 73, wI x2] σ (fun r σ1 => T69 d Q 64 [wO 5 73, wI x1, wI x2, wI x3, wI xs0, wI x5] (r.toList ++ []) σ1) := j3_T.go d [0, 4, 13, 15, 17, 27, 29, 40, 42, 50, 52, 60, 64, 68, 70] 400
set_option maxRecDepth 100000 in
theorem b69_64 {d : Nat} {Q : j3_P} {σ : j3_S} {x1 : Int} {x2 : Int} {x3 : Int} {x4 : Int} {x5 : Int} :
  T69 d Q 64 [wO 5 73, wI x1, wI x2, wI x3, wI x4, wI x5] [] σ = j3_tc false d 66 [wO 5 73, wI 0, wI 255] σ (fun r σ1 => T69 d Q 68 [wO 5 73, wI x1, wI x2, wI x3, wI x4, wI x5] (r.toList ++ []) σ1) := j3_T.go d [0, 4, 13, 15, 17, 27, 29, 40, 42, 50, 52, 60, 64, 68, 70] 400
set_option maxRecDepth 100000 in
theorem b69_68 {d : Nat} {Q : j3_P} {σ : j3_S} {x1 : Int} {x2 : Int} {x3 : Int} {x4 : Int} {x5 : Int} {xs0 : Int} :
  T69 d Q 68 [wO 5 73, wI x1, wI x2, wI x3, wI x4, wI x5] [wI xs0] σ = T69 d Q 70 [wO 5 73, wI x1, wI x2, wI x3, wI x4, wI xs0] [] σ := j3_T.go d [0, 4, 13, 15, 17, 27, 29, 40, 42, 50, 52, 60, 64, 68, 70] 400
set_option maxRecDepth 100000 in
theorem b69_70 {d : Nat} {Q : j3_P} {σ : j3_S} {x1 : Int} {x2 : Int} {x3 : Int} {x4 : Int} {x5 : Int} :
  T69 d Q 70 [wO 5 73, wI x1, wI x2, wI x3, wI x4, wI x5] [] σ = (¬ (σ.2.1 4) = 0 ∧ ((0 ≤ x2 ∧ x2 < 9600) ∧ (¬ (σ.2.1 4) = 0 ∧ ((0 ≤ x2 ∧ x2 < 9600) ∧ (¬ (σ.2.1 4) = 0 ∧ ((0 ≤ x2 ∧ x2 < 9600) ∧ (¬ (σ.2.1 4) = 0 ∧ ((0 ≤ x2 ∧ x2 < 9600) ∧ Q none (σ.1, σ.2.1, (j3_ast (j3_ast (j3_ast (j3_ast σ.2.2 1 ((σ.2.1 4) + 17) x2 x3) 2 ((σ.2.1 4) + 17) x2 x4) 3 ((σ.2.1 4) + 17) x2 x5) 4 ((σ.2.1 4) + 17) x2 (-1))))))))))) := j3_T.go d [0, 4, 13, 15, 17, 27, 29, 40, 42, 50, 52, 60, 64, 68, 70] 400
def T70 (d : Nat) (Q : j3_P) : j3_K := j3_T false (j3_tc false d) jc_X5_nextNumber (some .int) Q
theorem e70 {d : Nat} {Q : j3_P} {σ : j3_S}  : j3_tc false (d + 1) 70 [wO 5 73] σ Q = T70 d Q 0 [wO 5 73, wM 2, wM 2] [] σ := j3_entry ⟨Nat.le_of_ble_eq_true rfl, rfl⟩
set_option maxRecDepth 100000 in
theorem b70_0 {d : Nat} {Q : j3_P} {σ : j3_S}  :
  T70 d Q 0 [wO 5 73, wM 2, wM 2] [] σ = T70 d Q 4 [wO 5 73, wI 0, wI 0] [] σ := j3_T.go d [0, 4, 14] 400
set_option maxRecDepth 100000 in
theorem b70_4 {d : Nat} {Q : j3_P} {σ : j3_S} {x1 : Int} {x2 : Int} :
  T70 d Q 4 [wO 5 73, wI x1, wI x2] [] σ = (if x2 < (4 : Int) then j3_tc false d 66 [wO 5 73, wI 0, wI 255] σ (fun r σ1 => T70 d Q 14 [wO 5 73, wI x1, wI x2] (r.toList ++ [wI (i_sl x1 8)]) σ1) else Q (some (wI x1)) σ) := j3_T.go d [0, 4, 14] 400
set_option maxRecDepth 100000 in
theorem b70_14 {d : Nat} {Q : j3_P} {σ : j3_S} {x1 : Int} {x2 : Int} {xs0 : Int} {xs1 : Int} :
  T70 d Q 14 [wO 5 73, wI x1, wI x2] [wI xs0, wI xs1] σ = T70 d Q 4 [wO 5 73, wI (i_or xs1 xs0), wI (wr (x2 + 1))] [] σ := j3_T.go d [0, 4, 14] 400
def T71 (d : Nat) (Q : j3_P) : j3_K := j3_T false (j3_tc false d) jc_X5_noteTelling none Q
theorem e71 {d : Nat} {Q : j3_P} {σ : j3_S} {x1 : Int} : j3_tc false (d + 1) 71 [wO 5 73, wI x1] σ Q = T71 d Q 0 [wO 5 73, wI x1] [] σ := j3_entry ⟨Nat.le_of_ble_eq_true rfl, rfl⟩
set_option maxRecDepth 100000 in
theorem b71_0 {d : Nat} {Q : j3_P} {σ : j3_S} {x1 : Int} :
  T71 d Q 0 [wO 5 73, wI x1] [] σ = (if (σ.1 5007 73) < (4000 : Int) then ((0 ≤ (σ.1 5007 73) ∧ (σ.1 5007 73) < 4000) ∧ ((0 ≤ (σ.1 5007 73) ∧ (σ.1 5007 73) < 4000) ∧ Q none ((j3_up σ.1 5007 73 (wr ((σ.1 5007 73) + 1))), σ.2.1, (j3_ast (j3_ast σ.2.2 5005 73 (σ.1 5007 73) x1) 5006 73 (σ.1 5007 73) (σ.1 5002 73))))) else Q none σ) := j3_T.go d [0] 400
def T72 (d : Nat) (Q : j3_P) : j3_K := j3_T false (j3_tc false d) jc_X5_agrees (some .boolean) Q
theorem e72 {d : Nat} {Q : j3_P} {σ : j3_S} {x1 : Int} {x2 : Int} {x3 : Int} : j3_tc false (d + 1) 72 [wO 5 73, wI x1, wI x2, wI x3] σ Q = T72 d Q 0 [wO 5 73, wI x1, wI x2, wI x3, wM 2] [] σ := j3_entry ⟨Nat.le_of_ble_eq_true rfl, rfl⟩
set_option maxRecDepth 100000 in
theorem b72_0 {d : Nat} {Q : j3_P} {σ : j3_S} {x1 : Int} {x2 : Int} {x3 : Int} :
  T72 d Q 0 [wO 5 73, wI x1, wI x2, wI x3, wM 2] [] σ = ((0 ≤ x1 ∧ x1 < 27) ∧ (if (i_tls x1) = (5 : Int) then (if x1 = (18 : Int) then T72 d Q 11 [wO 5 73, wI x1, wI x2, wI x3, wM 2] [] σ else (if x1 = (19 : Int) then T72 d Q 11 [wO 5 73, wI x1, wI x2, wI x3, wM 2] [] σ else T72 d Q 14 [wO 5 73, wI x1, wI x2, wI x3, wM 2] [wI 0] σ)) else (¬ (σ.2.1 4) = 0 ∧ j3_tc false d 43 [wO 3 (σ.2.1 4), wI x2, wI x3] σ (fun r σ1 => T72 d Q 41 [wO 5 73, wI x1, wI x2, wI x3, wM 2] (r.toList ++ []) σ1)))) := j3_T.go d [0, 11, 14, 20, 41, 57] 400
set_option maxRecDepth 100000 in
theorem b72_11 {d : Nat} {Q : j3_P} {σ : j3_S} {x1 : Int} {x2 : Int} {x3 : Int} :
  T72 d Q 11 [wO 5 73, wI x1, wI x2, wI x3, wM 2] [] σ = T72 d Q 14 [wO 5 73, wI x1, wI x2, wI x3, wM 2] [wI 1] σ := j3_T.go d [0, 11, 14, 20, 41, 57] 400
set_option maxRecDepth 100000 in
theorem b72_14 {d : Nat} {Q : j3_P} {σ : j3_S} {x1 : Int} {x2 : Int} {x3 : Int} {xs0 : Int} :
  T72 d Q 14 [wO 5 73, wI x1, wI x2, wI x3, wM 2] [wI xs0] σ = (¬ (σ.2.1 4) = 0 ∧ j3_tc false d 42 [wO 3 (σ.2.1 4), wI x2, wI x3] σ (fun r σ1 => T72 d Q 20 [wO 5 73, wI x1, wI x2, wI x3, wI xs0] (r.toList ++ []) σ1)) := j3_T.go d [0, 11, 14, 20, 41, 57] 400
set_option maxRecDepth 100000 in
theorem b72_20 {d : Nat} {Q : j3_P} {σ : j3_S} {x1 : Int} {x2 : Int} {x3 : Int} {x4 : Int} {xs0 : Int} :
  T72 d Q 20 [wO 5 73, wI x1, wI x2, wI x3, wI x4] [wI xs0] σ = (if xs0 = 0 then (((0 : Int) = 0 ∨ (0 : Int) = 1) ∧ Q (some (wI 0)) σ) else (¬ (σ.2.1 4) = 0 ∧ ((0 ≤ (wr ((wr (x2 * 6)) + x3)) ∧ (wr ((wr (x2 * 6)) + x3)) < 60) ∧ (if (σ.2.2 3010 (σ.2.1 4) (wr ((wr (x2 * 6)) + x3))) = x4 then (((1 : Int) = 0 ∨ (1 : Int) = 1) ∧ Q (some (wI 1)) σ) else (((0 : Int) = 0 ∨ (0 : Int) = 1) ∧ Q (some (wI 0)) σ))))) := j3_T.go d [0, 11, 14, 20, 41, 57] 400
set_option maxRecDepth 100000 in
theorem b72_41 {d : Nat} {Q : j3_P} {σ : j3_S} {x1 : Int} {x2 : Int} {x3 : Int} {xs0 : Int} :
  T72 d Q 41 [wO 5 73, wI x1, wI x2, wI x3, wM 2] [wI xs0] σ = (if xs0 = 0 then (((0 : Int) = 0 ∨ (0 : Int) = 1) ∧ Q (some (wI 0)) σ) else (if x1 = (20 : Int) then T72 d Q 57 [wO 5 73, wI x1, wI x2, wI x3, wM 2] [] σ else (¬ (σ.2.1 4) = 0 ∧ (¬ (σ.2.1 4) = 0 ∧ ((0 ≤ x2 ∧ x2 < 10) ∧ ((0 ≤ (wr ((σ.2.2 3007 (σ.2.1 4) x2) + x3)) ∧ (wr ((σ.2.2 3007 (σ.2.1 4) x2) + x3)) < 80) ∧ (if (σ.2.2 3013 (σ.2.1 4) (wr ((σ.2.2 3007 (σ.2.1 4) x2) + x3))) = 0 then T72 d Q 57 [wO 5 73, wI x1, wI x2, wI x3, wM 2] [] σ else (((0 : Int) = 0 ∨ (0 : Int) = 1) ∧ Q (some (wI 0)) σ)))))))) := j3_T.go d [0, 11, 14, 20, 41, 57] 400
set_option maxRecDepth 100000 in
theorem b72_57 {d : Nat} {Q : j3_P} {σ : j3_S} {x1 : Int} {x2 : Int} {x3 : Int} :
  T72 d Q 57 [wO 5 73, wI x1, wI x2, wI x3, wM 2] [] σ = (((1 : Int) = 0 ∨ (1 : Int) = 1) ∧ Q (some (wI 1)) σ) := j3_T.go d [0, 11, 14, 20, 41, 57] 400
def T73 (d : Nat) (Q : j3_P) : j3_K := j3_T false (j3_tc false d) jc_X5_findClash (some .boolean) Q
theorem e73 {d : Nat} {Q : j3_P} {σ : j3_S}  : j3_tc false (d + 1) 73 [wO 5 73] σ Q = T73 d Q 0 [wO 5 73, wM 2, wM 2] [] σ := j3_entry ⟨Nat.le_of_ble_eq_true rfl, rfl⟩
set_option maxRecDepth 100000 in
theorem b73_0 {d : Nat} {Q : j3_P} {σ : j3_S}  :
  T73 d Q 0 [wO 5 73, wM 2, wM 2] [] σ = T73 d Q 2 [wO 5 73, wI 0, wM 2] [] σ := j3_T.go d [0, 2, 9, 20, 26, 31, 42, 47, 48, 53] 400
set_option maxRecDepth 100000 in
theorem b73_2 {d : Nat} {Q : j3_P} {σ : j3_S} {x1 : Int} {w2 : j3_W} :
  T73 d Q 2 [wO 5 73, wI x1, w2] [] σ = (¬ (σ.2.1 4) = 0 ∧ (if x1 < (σ.1 3000 (σ.2.1 4)) then T73 d Q 9 [wO 5 73, wI x1, wI 0] [] σ else (((0 : Int) = 0 ∨ (0 : Int) = 1) ∧ Q (some (wI 0)) σ))) := j3_T.go d [0, 2, 9, 20, 26, 31, 42, 47, 48, 53] 400
set_option maxRecDepth 100000 in
theorem b73_9 {d : Nat} {Q : j3_P} {σ : j3_S} {x1 : Int} {x2 : Int} :
  T73 d Q 9 [wO 5 73, wI x1, wI x2] [] σ = (¬ (σ.2.1 4) = 0 ∧ ((0 ≤ x1 ∧ x1 < 10) ∧ (if x2 < (σ.2.2 3005 (σ.2.1 4) x1) then j3_tc false d 75 [wO 5 73, wI x1, wI x2] σ (fun r σ1 => T73 d Q 20 [wO 5 73, wI x1, wI x2] (r.toList ++ []) σ1) else T73 d Q 31 [wO 5 73, wI x1, wI 0] [] σ))) := j3_T.go d [0, 2, 9, 20, 26, 31, 42, 47, 48, 53] 400
set_option maxRecDepth 100000 in
theorem b73_20 {d : Nat} {Q : j3_P} {σ : j3_S} {x1 : Int} {x2 : Int} {xs0 : Int} :
  T73 d Q 20 [wO 5 73, wI x1, wI x2] [wI xs0] σ = (if xs0 = 0 then T73 d Q 9 [wO 5 73, wI x1, wI (wr (x2 + 1))] [] σ else j3_tc false d 74 [wO 5 73, wI x1, wI x2, wI 0] σ (fun r σ1 => T73 d Q 26 [wO 5 73, wI x1, wI x2] (r.toList ++ []) σ1)) := j3_T.go d [0, 2, 9, 20, 26, 31, 42, 47, 48, 53] 400
set_option maxRecDepth 100000 in
theorem b73_26 {d : Nat} {Q : j3_P} {σ : j3_S} {x1 : Int} {x2 : Int} {xs0 : Int} :
  T73 d Q 26 [wO 5 73, wI x1, wI x2] [wI xs0] σ = ((xs0 = 0 ∨ xs0 = 1) ∧ Q (some (wI xs0)) σ) := j3_T.go d [0, 2, 9, 20, 26, 31, 42, 47, 48, 53] 400
set_option maxRecDepth 100000 in
theorem b73_31 {d : Nat} {Q : j3_P} {σ : j3_S} {x1 : Int} {x2 : Int} :
  T73 d Q 31 [wO 5 73, wI x1, wI x2] [] σ = (¬ (σ.2.1 4) = 0 ∧ ((0 ≤ x1 ∧ x1 < 10) ∧ (if x2 < (σ.2.2 3006 (σ.2.1 4) x1) then j3_tc false d 76 [wO 5 73, wI x1, wI x2] σ (fun r σ1 => T73 d Q 42 [wO 5 73, wI x1, wI x2] (r.toList ++ []) σ1) else T73 d Q 2 [wO 5 73, wI (wr (x1 + 1)), wI x2] [] σ))) := j3_T.go d [0, 2, 9, 20, 26, 31, 42, 47, 48, 53] 400
set_option maxRecDepth 100000 in
theorem b73_42 {d : Nat} {Q : j3_P} {σ : j3_S} {x1 : Int} {x2 : Int} {xs0 : Int} :
  T73 d Q 42 [wO 5 73, wI x1, wI x2] [wI xs0] σ = (if xs0 = 0 then j3_tc false d 77 [wO 5 73, wI x1, wI x2] σ (fun r σ1 => T73 d Q 47 [wO 5 73, wI x1, wI x2] (r.toList ++ []) σ1) else T73 d Q 48 [wO 5 73, wI x1, wI x2] [] σ) := j3_T.go d [0, 2, 9, 20, 26, 31, 42, 47, 48, 53] 400
set_option maxRecDepth 100000 in
theorem b73_47 {d : Nat} {Q : j3_P} {σ : j3_S} {x1 : Int} {x2 : Int} {xs0 : Int} :
  T73 d Q 47 [wO 5 73, wI x1, wI x2] [wI xs0] σ = (if xs0 = 0 then T73 d Q 31 [wO 5 73, wI x1, wI (wr (x2 + 1))] [] σ else T73 d Q 48 [wO 5 73, wI x1, wI x2] [] σ) := j3_T.go d [0, 2, 9, 20, 26, 31, 42, 47, 48, 53] 400
set_option maxRecDepth 100000 in
theorem b73_48 {d : Nat} {Q : j3_P} {σ : j3_S} {x1 : Int} {x2 : Int} :
  T73 d Q 48 [wO 5 73, wI x1, wI x2] [] σ = j3_tc false d 74 [wO 5 73, wI x1, wI x2, wI 1] σ (fun r σ1 => T73 d Q 53 [wO 5 73, wI x1, wI x2] (r.toList ++ []) σ1) := j3_T.go d [0, 2, 9, 20, 26, 31, 42, 47, 48, 53] 400
set_option maxRecDepth 100000 in
theorem b73_53 {d : Nat} {Q : j3_P} {σ : j3_S} {x1 : Int} {x2 : Int} {xs0 : Int} :
  T73 d Q 53 [wO 5 73, wI x1, wI x2] [wI xs0] σ = ((xs0 = 0 ∨ xs0 = 1) ∧ Q (some (wI xs0)) σ) := j3_T.go d [0, 2, 9, 20, 26, 31, 42, 47, 48, 53] 400
def T74 (d : Nat) (Q : j3_P) : j3_K := j3_T false (j3_tc false d) jc_X5_clash (some .boolean) Q
theorem e74 {d : Nat} {Q : j3_P} {σ : j3_S} {x1 : Int} {x2 : Int} {x3 : Int} : j3_tc false (d + 1) 74 [wO 5 73, wI x1, wI x2, wI x3] σ Q = T74 d Q 0 [wO 5 73, wI x1, wI x2, wI x3] [] σ := j3_entry ⟨Nat.le_of_ble_eq_true rfl, rfl⟩
set_option maxRecDepth 100000 in
theorem b74_0 {d : Nat} {Q : j3_P} {σ : j3_S} {x1 : Int} {x2 : Int} {x3 : Int} :
  T74 d Q 0 [wO 5 73, wI x1, wI x2, wI x3] [] σ = (((1 : Int) = 0 ∨ (1 : Int) = 1) ∧ Q (some (wI 1)) ((j3_up (j3_up (j3_up σ.1 5008 73 x1) 5009 73 x2) 5010 73 x3), σ.2.1, σ.2.2)) := j3_T.go d [0] 400
def T75 (d : Nat) (Q : j3_P) : j3_K := j3_T false (j3_tc false d) jc_X5_fieldClashes (some .boolean) Q
theorem e75 {d : Nat} {Q : j3_P} {σ : j3_S} {x1 : Int} {x2 : Int} : j3_tc false (d + 1) 75 [wO 5 73, wI x1, wI x2] σ Q = T75 d Q 0 [wO 5 73, wI x1, wI x2, wM 2, wM 2] [] σ := j3_entry ⟨Nat.le_of_ble_eq_true rfl, rfl⟩
set_option maxRecDepth 100000 in
theorem b75_0 {d : Nat} {Q : j3_P} {σ : j3_S} {x1 : Int} {x2 : Int} :
  T75 d Q 0 [wO 5 73, wI x1, wI x2, wM 2, wM 2] [] σ = T75 d Q 6 [wO 5 73, wI x1, wI x2, wI (wr (x1 * 6)), wI 0] [] σ := j3_T.go d [0, 6] 400
set_option maxRecDepth 100000 in
theorem b75_6 {d : Nat} {Q : j3_P} {σ : j3_S} {x1 : Int} {x2 : Int} {x3 : Int} {x4 : Int} :
  T75 d Q 6 [wO 5 73, wI x1, wI x2, wI x3, wI x4] [] σ = (if x4 < x2 then (¬ (σ.2.1 4) = 0 ∧ ((0 ≤ (wr (x3 + x4)) ∧ (wr (x3 + x4)) < 60) ∧ (¬ (σ.2.1 4) = 0 ∧ ((0 ≤ (wr (x3 + x2)) ∧ (wr (x3 + x2)) < 60) ∧ (if (σ.2.2 3008 (σ.2.1 4) (wr (x3 + x4))) = (σ.2.2 3008 (σ.2.1 4) (wr (x3 + x2))) then (((1 : Int) = 0 ∨ (1 : Int) = 1) ∧ Q (some (wI 1)) σ) else T75 d Q 6 [wO 5 73, wI x1, wI x2, wI x3, wI (wr (x4 + 1))] [] σ))))) else (((0 : Int) = 0 ∨ (0 : Int) = 1) ∧ Q (some (wI 0)) σ)) := j3_T.go d [0, 6] 400
def T76 (d : Nat) (Q : j3_P) : j3_K := j3_T false (j3_tc false d) jc_X5_methodClashes (some .boolean) Q
theorem e76 {d : Nat} {Q : j3_P} {σ : j3_S} {x1 : Int} {x2 : Int} : j3_tc false (d + 1) 76 [wO 5 73, wI x1, wI x2] σ Q = T76 d Q 0 [wO 5 73, wI x1, wI x2, wM 2, wM 2] [] σ := j3_entry ⟨Nat.le_of_ble_eq_true rfl, rfl⟩
set_option maxRecDepth 100000 in
theorem b76_0 {d : Nat} {Q : j3_P} {σ : j3_S} {x1 : Int} {x2 : Int} :
  T76 d Q 0 [wO 5 73, wI x1, wI x2, wM 2, wM 2] [] σ = (¬ (σ.2.1 4) = 0 ∧ ((0 ≤ x1 ∧ x1 < 10) ∧ T76 d Q 8 [wO 5 73, wI x1, wI x2, wI (σ.2.2 3007 (σ.2.1 4) x1), wI 0] [] σ)) := j3_T.go d [0, 8] 400
set_option maxRecDepth 100000 in
theorem b76_8 {d : Nat} {Q : j3_P} {σ : j3_S} {x1 : Int} {x2 : Int} {x3 : Int} {x4 : Int} :
  T76 d Q 8 [wO 5 73, wI x1, wI x2, wI x3, wI x4] [] σ = (if x4 < x2 then (¬ (σ.2.1 4) = 0 ∧ ((0 ≤ (wr (x3 + x4)) ∧ (wr (x3 + x4)) < 80) ∧ (¬ (σ.2.1 4) = 0 ∧ ((0 ≤ (wr (x3 + x2)) ∧ (wr (x3 + x2)) < 80) ∧ (if (σ.2.2 3012 (σ.2.1 4) (wr (x3 + x4))) = (σ.2.2 3012 (σ.2.1 4) (wr (x3 + x2))) then (((1 : Int) = 0 ∨ (1 : Int) = 1) ∧ Q (some (wI 1)) σ) else T76 d Q 8 [wO 5 73, wI x1, wI x2, wI x3, wI (wr (x4 + 1))] [] σ))))) else (((0 : Int) = 0 ∨ (0 : Int) = 1) ∧ Q (some (wI 0)) σ)) := j3_T.go d [0, 8] 400
def T77 (d : Nat) (Q : j3_P) : j3_K := j3_T false (j3_tc false d) jc_X5_methodClashesAbove (some .boolean) Q
theorem e77 {d : Nat} {Q : j3_P} {σ : j3_S} {x1 : Int} {x2 : Int} : j3_tc false (d + 1) 77 [wO 5 73, wI x1, wI x2] σ Q = T77 d Q 0 [wO 5 73, wI x1, wI x2, wM 2, wM 2, wM 2, wM 2] [] σ := j3_entry ⟨Nat.le_of_ble_eq_true rfl, rfl⟩
set_option maxRecDepth 100000 in
theorem b77_0 {d : Nat} {Q : j3_P} {σ : j3_S} {x1 : Int} {x2 : Int} :
  T77 d Q 0 [wO 5 73, wI x1, wI x2, wM 2, wM 2, wM 2, wM 2] [] σ = (¬ (σ.2.1 4) = 0 ∧ ((0 ≤ x1 ∧ x1 < 10) ∧ (¬ (σ.2.1 4) = 0 ∧ ((0 ≤ x1 ∧ x1 < 10) ∧ T77 d Q 16 [wO 5 73, wI x1, wI x2, wI (wr ((σ.2.2 3007 (σ.2.1 4) x1) + x2)), wI (σ.2.2 3003 (σ.2.1 4) x1), wI 0, wM 2] [] σ)))) := j3_T.go d [0, 16, 30, 39, 42] 400
set_option maxRecDepth 100000 in
theorem b77_16 {d : Nat} {Q : j3_P} {σ : j3_S} {x1 : Int} {x2 : Int} {x3 : Int} {x4 : Int} {x5 : Int} {w6 : j3_W} :
  T77 d Q 16 [wO 5 73, wI x1, wI x2, wI x3, wI x4, wI x5, w6] [] σ = (if x5 < (10 : Int) then (if x4 < 0 then (((0 : Int) = 0 ∨ (0 : Int) = 1) ∧ Q (some (wI 0)) σ) else (¬ (σ.2.1 4) = 0 ∧ (¬ (σ.2.1 4) = 0 ∧ ((0 ≤ x3 ∧ x3 < 80) ∧ j3_tc false d 50 [wO 3 (σ.2.1 4), wI x4, wI (σ.2.2 3012 (σ.2.1 4) x3)] σ (fun r σ1 => T77 d Q 30 [wO 5 73, wI x1, wI x2, wI x3, wI x4, wI x5, w6] (r.toList ++ []) σ1))))) else (((0 : Int) = 0 ∨ (0 : Int) = 1) ∧ Q (some (wI 0)) σ)) := j3_T.go d [0, 16, 30, 39, 42] 400
set_option maxRecDepth 100000 in
theorem b77_30 {d : Nat} {Q : j3_P} {σ : j3_S} {x1 : Int} {x2 : Int} {x3 : Int} {x4 : Int} {x5 : Int} {w6 : j3_W} {xs0 : Int} :
  T77 d Q 30 [wO 5 73, wI x1, wI x2, wI x3, wI x4, wI x5, w6] [wI xs0] σ = (if xs0 = (-1 : Int) then T77 d Q 42 [wO 5 73, wI x1, wI x2, wI x3, wI x4, wI x5, wI xs0] [] σ else (¬ (σ.2.1 4) = 0 ∧ j3_tc false d 55 [wO 3 (σ.2.1 4), wI x3, wI xs0] σ (fun r σ1 => T77 d Q 39 [wO 5 73, wI x1, wI x2, wI x3, wI x4, wI x5, wI xs0] (r.toList ++ []) σ1))) := j3_T.go d [0, 16, 30, 39, 42] 400
set_option maxRecDepth 100000 in
theorem b77_39 {d : Nat} {Q : j3_P} {σ : j3_S} {x1 : Int} {x2 : Int} {x3 : Int} {x4 : Int} {x5 : Int} {x6 : Int} {xs0 : Int} :
  T77 d Q 39 [wO 5 73, wI x1, wI x2, wI x3, wI x4, wI x5, wI x6] [wI xs0] σ = (if xs0 = 0 then (((1 : Int) = 0 ∨ (1 : Int) = 1) ∧ Q (some (wI 1)) σ) else T77 d Q 42 [wO 5 73, wI x1, wI x2, wI x3, wI x4, wI x5, wI x6] [] σ) := j3_T.go d [0, 16, 30, 39, 42] 400
set_option maxRecDepth 100000 in
theorem b77_42 {d : Nat} {Q : j3_P} {σ : j3_S} {x1 : Int} {x2 : Int} {x3 : Int} {x4 : Int} {x5 : Int} {x6 : Int} :
  T77 d Q 42 [wO 5 73, wI x1, wI x2, wI x3, wI x4, wI x5, wI x6] [] σ = (¬ (σ.2.1 4) = 0 ∧ ((0 ≤ x4 ∧ x4 < 10) ∧ T77 d Q 16 [wO 5 73, wI x1, wI x2, wI x3, wI (σ.2.2 3003 (σ.2.1 4) x4), wI (wr (x5 + 1)), wI x6] [] σ)) := j3_T.go d [0, 16, 30, 39, 42] 400
def T79 (d : Nat) (Q : j3_P) : j3_K := j3_T false (j3_tc false d) jc_X6_makeSmall none Q
theorem e79 {d : Nat} {Q : j3_P} {σ : j3_S} {o1 : Nat} {o2 : Nat} {x4 : Int} {x5 : Int} : j3_tc false (d + 1) 79 [wO 6 83, wO 3 o1, wO 3 o2, wA 9008 0, wI x4, wI x5] σ Q = T79 d Q 0 [wO 6 83, wO 3 o1, wO 3 o2, wA 9008 0, wI x4, wI x5, wM 2] [] σ := j3_entry ⟨Nat.le_of_ble_eq_true rfl, rfl⟩
set_option maxRecDepth 100000 in
theorem b79_0 {d : Nat} {Q : j3_P} {σ : j3_S} {o1 : Nat} {o2 : Nat} {x4 : Int} {x5 : Int} :
  T79 d Q 0 [wO 6 83, wO 3 o1, wO 3 o2, wA 9008 0, wI x4, wI x5, wM 2] [] σ = j3_tc false d 248 [wA 6005 83, wI 0] ((j3_up σ.1 6014 83 x5), (j3_upP (j3_upP σ.2.1 5 o1) 6 o2), σ.2.2) (fun r σ1 => T79 d Q 13 [wO 6 83, wO 3 o1, wO 3 o2, wA 9008 0, wI x4, wI x5, wM 2] (r.toList ++ []) σ1) := j3_T.go d [0, 13, 23, 25, 47, 52, 55, 67, 69, 71, 73, 75, 77, 82] 400
set_option maxRecDepth 100000 in
theorem b79_13 {d : Nat} {Q : j3_P} {σ : j3_S} {o1 : Nat} {o2 : Nat} {x4 : Int} {x5 : Int} :
  T79 d Q 13 [wO 6 83, wO 3 o1, wO 3 o2, wA 9008 0, wI x4, wI x5, wM 2] [] σ = (¬ (σ.2.1 5) = 0 ∧ (¬ (σ.2.1 5) = 0 ∧ j3_tc false d 57 [wO 4 92, wO 3 (σ.2.1 5), wO 0 ((σ.2.1 5) + 17), wA 9008 0, wI x4] σ (fun r σ1 => T79 d Q 23 [wO 6 83, wO 3 o1, wO 3 o2, wA 9008 0, wI x4, wI x5, wM 2] (r.toList ++ []) σ1))) := j3_T.go d [0, 13, 23, 25, 47, 52, 55, 67, 69, 71, 73, 75, 77, 82] 400
set_option maxRecDepth 100000 in
theorem b79_23 {d : Nat} {Q : j3_P} {σ : j3_S} {o1 : Nat} {o2 : Nat} {x4 : Int} {x5 : Int} :
  T79 d Q 23 [wO 6 83, wO 3 o1, wO 3 o2, wA 9008 0, wI x4, wI x5, wM 2] [] σ = T79 d Q 25 [wO 6 83, wO 3 o1, wO 3 o2, wA 9008 0, wI x4, wI x5, wI 0] [] σ := j3_T.go d [0, 13, 23, 25, 47, 52, 55, 67, 69, 71, 73, 75, 77, 82] 400
set_option maxRecDepth 100000 in
theorem b79_25 {d : Nat} {Q : j3_P} {σ : j3_S} {o1 : Nat} {o2 : Nat} {x4 : Int} {x5 : Int} {x6 : Int} :
  T79 d Q 25 [wO 6 83, wO 3 o1, wO 3 o2, wA 9008 0, wI x4, wI x5, wI x6] [] σ = (¬ (σ.2.1 5) = 0 ∧ (if x6 < (σ.1 3001 (σ.2.1 5)) then (¬ (σ.2.1 6) = 0 ∧ ((0 ≤ x6 ∧ x6 < 80) ∧ ((0 ≤ x6 ∧ x6 < 80) ∧ (if (σ.2.2 4000 92 x6) = (1 : Int) then j3_tc false d 80 [wO 6 83, wI x6] (σ.1, σ.2.1, (j3_ast σ.2.2 0 ((σ.2.1 6) + 17) x6 0)) (fun r σ1 => T79 d Q 47 [wO 6 83, wO 3 o1, wO 3 o2, wA 9008 0, wI x4, wI x5, wI x6] (r.toList ++ []) σ1) else T79 d Q 55 [wO 6 83, wO 3 o1, wO 3 o2, wA 9008 0, wI x4, wI x5, wI x6] [] (σ.1, σ.2.1, (j3_ast σ.2.2 0 ((σ.2.1 6) + 17) x6 0)))))) else (¬ (σ.2.1 5) = 0 ∧ (¬ (σ.2.1 6) = 0 ∧ j3_tc false d 57 [wO 4 92, wO 3 (σ.2.1 5), wO 0 ((σ.2.1 6) + 17), wA 9008 0, wI x4] σ (fun r σ1 => T79 d Q 67 [wO 6 83, wO 3 o1, wO 3 o2, wA 9008 0, wI x4, wI x5, wI x6] (r.toList ++ []) σ1))))) := j3_T.go d [0, 13, 23, 25, 47, 52, 55, 67, 69, 71, 73, 75, 77, 82] 400
set_option maxRecDepth 100000 in
theorem b79_47 {d : Nat} {Q : j3_P} {σ : j3_S} {o1 : Nat} {o2 : Nat} {x4 : Int} {x5 : Int} {x6 : Int} :
  T79 d Q 47 [wO 6 83, wO 3 o1, wO 3 o2, wA 9008 0, wI x4, wI x5, wI x6] [] σ = j3_tc false d 109 [wO 7 96, wA 6005 83] σ (fun r σ1 => T79 d Q 52 [wO 6 83, wO 3 o1, wO 3 o2, wA 9008 0, wI x4, wI x5, wI x6] (r.toList ++ []) σ1) := j3_T.go d [0, 13, 23, 25, 47, 52, 55, 67, 69, 71, 73, 75, 77, 82] 400
set_option maxRecDepth 100000 in
theorem b79_52 {d : Nat} {Q : j3_P} {σ : j3_S} {o1 : Nat} {o2 : Nat} {x4 : Int} {x5 : Int} {x6 : Int} :
  T79 d Q 52 [wO 6 83, wO 3 o1, wO 3 o2, wA 9008 0, wI x4, wI x5, wI x6] [] σ = j3_tc false d 87 [wO 6 83, wI x6] σ (fun r σ1 => T79 d Q 55 [wO 6 83, wO 3 o1, wO 3 o2, wA 9008 0, wI x4, wI x5, wI x6] (r.toList ++ []) σ1) := j3_T.go d [0, 13, 23, 25, 47, 52, 55, 67, 69, 71, 73, 75, 77, 82] 400
set_option maxRecDepth 100000 in
theorem b79_55 {d : Nat} {Q : j3_P} {σ : j3_S} {o1 : Nat} {o2 : Nat} {x4 : Int} {x5 : Int} {x6 : Int} :
  T79 d Q 55 [wO 6 83, wO 3 o1, wO 3 o2, wA 9008 0, wI x4, wI x5, wI x6] [] σ = T79 d Q 25 [wO 6 83, wO 3 o1, wO 3 o2, wA 9008 0, wI x4, wI x5, wI (wr (x6 + 1))] [] σ := j3_T.go d [0, 13, 23, 25, 47, 52, 55, 67, 69, 71, 73, 75, 77, 82] 400
set_option maxRecDepth 100000 in
theorem b79_67 {d : Nat} {Q : j3_P} {σ : j3_S} {o1 : Nat} {o2 : Nat} {x4 : Int} {x5 : Int} {x6 : Int} :
  T79 d Q 67 [wO 6 83, wO 3 o1, wO 3 o2, wA 9008 0, wI x4, wI x5, wI x6] [] σ = j3_tc false d 88 [wO 6 83] σ (fun r σ1 => T79 d Q 69 [wO 6 83, wO 3 o1, wO 3 o2, wA 9008 0, wI x4, wI x5, wI x6] (r.toList ++ []) σ1) := j3_T.go d [0, 13, 23, 25, 47, 52, 55, 67, 69, 71, 73, 75, 77, 82] 400
set_option maxRecDepth 100000 in
theorem b79_69 {d : Nat} {Q : j3_P} {σ : j3_S} {o1 : Nat} {o2 : Nat} {x4 : Int} {x5 : Int} {x6 : Int} :
  T79 d Q 69 [wO 6 83, wO 3 o1, wO 3 o2, wA 9008 0, wI x4, wI x5, wI x6] [] σ = j3_tc false d 93 [wO 6 83] σ (fun r σ1 => T79 d Q 71 [wO 6 83, wO 3 o1, wO 3 o2, wA 9008 0, wI x4, wI x5, wI x6] (r.toList ++ []) σ1) := j3_T.go d [0, 13, 23, 25, 47, 52, 55, 67, 69, 71, 73, 75, 77, 82] 400
set_option maxRecDepth 100000 in
theorem b79_71 {d : Nat} {Q : j3_P} {σ : j3_S} {o1 : Nat} {o2 : Nat} {x4 : Int} {x5 : Int} {x6 : Int} :
  T79 d Q 71 [wO 6 83, wO 3 o1, wO 3 o2, wA 9008 0, wI x4, wI x5, wI x6] [] σ = j3_tc false d 94 [wO 6 83] σ (fun r σ1 => T79 d Q 73 [wO 6 83, wO 3 o1, wO 3 o2, wA 9008 0, wI x4, wI x5, wI x6] (r.toList ++ []) σ1) := j3_T.go d [0, 13, 23, 25, 47, 52, 55, 67, 69, 71, 73, 75, 77, 82] 400
set_option maxRecDepth 100000 in
theorem b79_73 {d : Nat} {Q : j3_P} {σ : j3_S} {o1 : Nat} {o2 : Nat} {x4 : Int} {x5 : Int} {x6 : Int} :
  T79 d Q 73 [wO 6 83, wO 3 o1, wO 3 o2, wA 9008 0, wI x4, wI x5, wI x6] [] σ = j3_tc false d 98 [wO 6 83] σ (fun r σ1 => T79 d Q 75 [wO 6 83, wO 3 o1, wO 3 o2, wA 9008 0, wI x4, wI x5, wI x6] (r.toList ++ []) σ1) := j3_T.go d [0, 13, 23, 25, 47, 52, 55, 67, 69, 71, 73, 75, 77, 82] 400
set_option maxRecDepth 100000 in
theorem b79_75 {d : Nat} {Q : j3_P} {σ : j3_S} {o1 : Nat} {o2 : Nat} {x4 : Int} {x5 : Int} {x6 : Int} :
  T79 d Q 75 [wO 6 83, wO 3 o1, wO 3 o2, wA 9008 0, wI x4, wI x5, wI x6] [] σ = j3_tc false d 102 [wO 6 83] σ (fun r σ1 => T79 d Q 77 [wO 6 83, wO 3 o1, wO 3 o2, wA 9008 0, wI x4, wI x5, wI x6] (r.toList ++ []) σ1) := j3_T.go d [0, 13, 23, 25, 47, 52, 55, 67, 69, 71, 73, 75, 77, 82] 400
set_option maxRecDepth 100000 in
theorem b79_77 {d : Nat} {Q : j3_P} {σ : j3_S} {o1 : Nat} {o2 : Nat} {x4 : Int} {x5 : Int} {x6 : Int} :
  T79 d Q 77 [wO 6 83, wO 3 o1, wO 3 o2, wA 9008 0, wI x4, wI x5, wI x6] [] σ = (¬ (σ.2.1 6) = 0 ∧ j3_tc false d 122 [wO 8 90, wO 3 (σ.2.1 6)] σ (fun r σ1 => T79 d Q 82 [wO 6 83, wO 3 o1, wO 3 o2, wA 9008 0, wI x4, wI x5, wI x6] (r.toList ++ []) σ1)) := j3_T.go d [0, 13, 23, 25, 47, 52, 55, 67, 69, 71, 73, 75, 77, 82] 400
set_option maxRecDepth 100000 in
theorem b79_82 {d : Nat} {Q : j3_P} {σ : j3_S} {o1 : Nat} {o2 : Nat} {x4 : Int} {x5 : Int} {x6 : Int} :
  T79 d Q 82 [wO 6 83, wO 3 o1, wO 3 o2, wA 9008 0, wI x4, wI x5, wI x6] [] σ = Q none σ := j3_T.go d [0, 13, 23, 25, 47, 52, 55, 67, 69, 71, 73, 75, 77, 82] 400
def T80 (d : Nat) (Q : j3_P) : j3_K := j3_T false (j3_tc false d) jc_X6_gather none Q
theorem e80 {d : Nat} {Q : j3_P} {σ : j3_S} {x1 : Int} : j3_tc false (d + 1) 80 [wO 6 83, wI x1] σ Q = T80 d Q 0 [wO 6 83, wI x1, wM 2, wM 2, wM 2, wM 2, wM 2, wM 2, wM 2, wM 2, wM 2] [] σ := j3_entry ⟨Nat.le_of_ble_eq_true rfl, rfl⟩
set_option maxRecDepth 100000 in
theorem b80_0 {d : Nat} {Q : j3_P} {σ : j3_S} {x1 : Int} :
  T80 d Q 0 [wO 6 83, wI x1, wM 2, wM 2, wM 2, wM 2, wM 2, wM 2, wM 2, wM 2, wM 2] [] σ = (¬ (σ.2.1 5) = 0 ∧ ((0 ≤ x1 ∧ x1 < 80) ∧ j3_tc false d 106 [wO 7 96, wI (σ.2.2 3017 (σ.2.1 5) x1)] σ (fun r σ1 => T80 d Q 8 [wO 6 83, wI x1, wM 2, wM 2, wM 2, wM 2, wM 2, wM 2, wM 2, wM 2, wM 2] (r.toList ++ []) σ1))) := j3_T.go d [0, 8, 21, 71, 93, 110, 114, 117, 132, 133, 134, 162, 174, 181] 400
set_option maxRecDepth 100000 in
theorem b80_8 {d : Nat} {Q : j3_P} {σ : j3_S} {x1 : Int} :
  T80 d Q 8 [wO 6 83, wI x1, wM 2, wM 2, wM 2, wM 2, wM 2, wM 2, wM 2, wM 2, wM 2] [] σ = (¬ (σ.2.1 5) = 0 ∧ ((0 ≤ x1 ∧ x1 < 80) ∧ T80 d Q 21 [wO 6 83, wI x1, wI (wr (x1 * 120)), wI (σ.2.2 0 ((σ.2.1 5) + 17) x1), wI 0, wM 2, wM 2, wM 2, wM 2, wM 2, wM 2] [] σ)) := j3_T.go d [0, 8, 21, 71, 93, 110, 114, 117, 132, 133, 134, 162, 174, 181] 400
set_option maxRecDepth 100000 in
theorem b80_21 {d : Nat} {Q : j3_P} {σ : j3_S} {x1 : Int} {x2 : Int} {x3 : Int} {x4 : Int} {w5 : j3_W} {w6 : j3_W} {w7 : j3_W} {w8 : j3_W} {w9 : j3_W} {w10 : j3_W} :
  T80 d Q 21 [wO 6 83, wI x1, wI x2, wI x3, wI x4, w5, w6, w7, w8, w9, w10] [] σ = (¬ (σ.2.1 5) = 0 ∧ ((0 ≤ x1 ∧ x1 < 80) ∧ (if x4 < (σ.2.2 0 ((σ.2.1 5) + 17) x1) then ((0 ≤ x4 ∧ x4 < 120) ∧ (¬ (σ.2.1 5) = 0 ∧ ((0 ≤ (wr (x2 + x4)) ∧ (wr (x2 + x4)) < 9600) ∧ (¬ (σ.2.1 5) = 0 ∧ ((0 ≤ (wr (x2 + x4)) ∧ (wr (x2 + x4)) < 9600) ∧ (¬ (σ.2.1 5) = 0 ∧ ((0 ≤ (wr (x2 + x4)) ∧ (wr (x2 + x4)) < 9600) ∧ (¬ (σ.2.1 5) = 0 ∧ ((0 ≤ (wr (x2 + x4)) ∧ (wr (x2 + x4)) < 9600) ∧ (if (σ.2.2 4 ((σ.2.1 5) + 17) (wr (x2 + x4))) < 0 then T80 d Q 71 [wO 6 83, wI x1, wI x2, wI x3, wI x4, wI (wr (x2 + x4)), wI (σ.2.2 1 ((σ.2.1 5) + 17) (wr (x2 + x4))), wI (σ.2.2 2 ((σ.2.1 5) + 17) (wr (x2 + x4))), wI (σ.2.2 3 ((σ.2.1 5) + 17) (wr (x2 + x4))), w9, w10] [wI 0] (σ.1, σ.2.1, (j3_ast σ.2.2 6009 83 x4 (σ.1 7000 96))) else T80 d Q 71 [wO 6 83, wI x1, wI x2, wI x3, wI x4, wI (wr (x2 + x4)), wI (σ.2.2 1 ((σ.2.1 5) + 17) (wr (x2 + x4))), wI (σ.2.2 2 ((σ.2.1 5) + 17) (wr (x2 + x4))), wI (σ.2.2 3 ((σ.2.1 5) + 17) (wr (x2 + x4))), w9, w10] [wI 1] (σ.1, σ.2.1, (j3_ast σ.2.2 6009 83 x4 (σ.1 7000 96))))))))))))) else j3_tc false d 108 [wO 7 96, wA 6009 83] σ (fun r σ1 => T80 d Q 181 [wO 6 83, wI x1, wI x2, wI x3, wI x4, w5, w6, w7, w8, w9, w10] (r.toList ++ []) σ1)))) := j3_T.go d [0, 8, 21, 71, 93, 110, 114, 117, 132, 133, 134, 162, 174, 181] 400
set_option maxRecDepth 100000 in
theorem b80_71 {d : Nat} {Q : j3_P} {σ : j3_S} {x1 : Int} {x2 : Int} {x3 : Int} {x4 : Int} {x5 : Int} {x6 : Int} {x7 : Int} {x8 : Int} {w9 : j3_W} {w10 : j3_W} {xs0 : Int} :
  T80 d Q 71 [wO 6 83, wI x1, wI x2, wI x3, wI x4, wI x5, wI x6, wI x7, wI x8, w9, w10] [wI xs0] σ = (if xs0 = 0 then T80 d Q 117 [wO 6 83, wI x1, wI x2, wI x3, wI x4, wI x5, wI x6, wI x7, wI x8, wI xs0, w10] [] σ else (if x6 = (20 : Int) then (¬ (σ.2.1 5) = 0 ∧ ((0 ≤ x7 ∧ x7 < 10) ∧ (¬ (σ.2.1 5) = 0 ∧ ((0 ≤ x5 ∧ x5 < 9600) ∧ j3_tc false d 82 [wO 6 83, wI (wr ((σ.2.2 3007 (σ.2.1 5) x7) + x8)), wI (σ.2.2 4 ((σ.2.1 5) + 17) x5), wI x3] σ (fun r σ1 => T80 d Q 93 [wO 6 83, wI x1, wI x2, wI x3, wI x4, wI x5, wI x6, wI x7, wI x8, wI xs0, w10] (r.toList ++ []) σ1))))) else T80 d Q 117 [wO 6 83, wI x1, wI x2, wI x3, wI x4, wI x5, wI x6, wI x7, wI x8, wI xs0, w10] [] σ)) := j3_T.go d [0, 8, 21, 71, 93, 110, 114, 117, 132, 133, 134, 162, 174, 181] 400
set_option maxRecDepth 100000 in
theorem b80_93 {d : Nat} {Q : j3_P} {σ : j3_S} {x1 : Int} {x2 : Int} {x3 : Int} {x4 : Int} {x5 : Int} {x6 : Int} {x7 : Int} {x8 : Int} {x9 : Int} {w10 : j3_W} {xs0 : Int} :
  T80 d Q 93 [wO 6 83, wI x1, wI x2, wI x3, wI x4, wI x5, wI x6, wI x7, wI x8, wI x9, w10] [wI xs0] σ = (if xs0 = 0 then T80 d Q 117 [wO 6 83, wI x1, wI x2, wI x3, wI x4, wI x5, wI x6, wI x7, wI x8, wI x9, w10] [] σ else (¬ (σ.2.1 5) = 0 ∧ ((0 ≤ x7 ∧ x7 < 10) ∧ j3_tc false d 86 [wO 6 83, wI (wr ((σ.2.2 3007 (σ.2.1 5) x7) + x8)), wI (wr ((wr (x1 * 1000)) + x4))] σ (fun r σ1 => T80 d Q 110 [wO 6 83, wI x1, wI x2, wI x3, wI x4, wI x5, wI x6, wI x7, wI x8, wI x9, wI (wr ((σ.2.2 3007 (σ.2.1 5) x7) + x8))] (r.toList ++ []) σ1)))) := j3_T.go d [0, 8, 21, 71, 93, 110, 114, 117, 132, 133, 134, 162, 174, 181] 400
set_option maxRecDepth 100000 in
theorem b80_110 {d : Nat} {Q : j3_P} {σ : j3_S} {x1 : Int} {x2 : Int} {x3 : Int} {x4 : Int} {x5 : Int} {x6 : Int} {x7 : Int} {x8 : Int} {x9 : Int} {x10 : Int} :
  T80 d Q 110 [wO 6 83, wI x1, wI x2, wI x3, wI x4, wI x5, wI x6, wI x7, wI x8, wI x9, wI x10] [] σ = j3_tc false d 81 [wO 6 83, wI x10] σ (fun r σ1 => T80 d Q 114 [wO 6 83, wI x1, wI x2, wI x3, wI x4, wI x5, wI x6, wI x7, wI x8, wI x9, wI x10] (r.toList ++ [wI x3]) σ1) := j3_T.go d [0, 8, 21, 71, 93, 110, 114, 117, 132, 133, 134, 162, 174, 181] 400
set_option maxRecDepth 100000 in
theorem b80_114 {d : Nat} {Q : j3_P} {σ : j3_S} {x1 : Int} {x2 : Int} {x3 : Int} {x4 : Int} {x5 : Int} {x6 : Int} {x7 : Int} {x8 : Int} {x9 : Int} {x10 : Int} {xs0 : Int} {xs1 : Int} :
  T80 d Q 114 [wO 6 83, wI x1, wI x2, wI x3, wI x4, wI x5, wI x6, wI x7, wI x8, wI x9, wI x10] [wI xs0, wI xs1] σ = T80 d Q 174 [wO 6 83, wI x1, wI x2, wI (wr (xs1 + xs0)), wI x4, wI x5, wI x6, wI x7, wI x8, wI x9, wI x10] [] σ := j3_T.go d [0, 8, 21, 71, 93, 110, 114, 117, 132, 133, 134, 162, 174, 181] 400
set_option maxRecDepth 100000 in
theorem b80_117 {d : Nat} {Q : j3_P} {σ : j3_S} {x1 : Int} {x2 : Int} {x3 : Int} {x4 : Int} {x5 : Int} {x6 : Int} {x7 : Int} {x8 : Int} {x9 : Int} {w10 : j3_W} :
  T80 d Q 117 [wO 6 83, wI x1, wI x2, wI x3, wI x4, wI x5, wI x6, wI x7, wI x8, wI x9, w10] [] σ = (if x9 = 0 then T80 d Q 133 [wO 6 83, wI x1, wI x2, wI x3, wI x4, wI x5, wI x6, wI x7, wI x8, wI x9, w10] [] σ else (if x6 = (21 : Int) then (¬ (σ.2.1 5) = 0 ∧ ((0 ≤ x7 ∧ x7 < 10) ∧ j3_tc false d 62 [wO 4 92, wI (wr ((σ.2.2 3007 (σ.2.1 5) x7) + x8))] σ (fun r σ1 => T80 d Q 132 [wO 6 83, wI x1, wI x2, wI x3, wI x4, wI x5, wI x6, wI x7, wI x8, wI x9, w10] (r.toList ++ []) σ1))) else T80 d Q 133 [wO 6 83, wI x1, wI x2, wI x3, wI x4, wI x5, wI x6, wI x7, wI x8, wI x9, w10] [] σ)) := j3_T.go d [0, 8, 21, 71, 93, 110, 114, 117, 132, 133, 134, 162, 174, 181] 400
set_option maxRecDepth 100000 in
theorem b80_132 {d : Nat} {Q : j3_P} {σ : j3_S} {x1 : Int} {x2 : Int} {x3 : Int} {x4 : Int} {x5 : Int} {x6 : Int} {x7 : Int} {x8 : Int} {x9 : Int} {w10 : j3_W} {xs0 : Int} :
  T80 d Q 132 [wO 6 83, wI x1, wI x2, wI x3, wI x4, wI x5, wI x6, wI x7, wI x8, wI x9, w10] [wI xs0] σ = T80 d Q 134 [wO 6 83, wI x1, wI x2, wI x3, wI x4, wI x5, wI x6, wI x7, wI x8, wI x9, w10] [wI xs0] σ := j3_T.go d [0, 8, 21, 71, 93, 110, 114, 117, 132, 133, 134, 162, 174, 181] 400
set_option maxRecDepth 100000 in
theorem b80_133 {d : Nat} {Q : j3_P} {σ : j3_S} {x1 : Int} {x2 : Int} {x3 : Int} {x4 : Int} {x5 : Int} {x6 : Int} {x7 : Int} {x8 : Int} {x9 : Int} {w10 : j3_W} :
  T80 d Q 133 [wO 6 83, wI x1, wI x2, wI x3, wI x4, wI x5, wI x6, wI x7, wI x8, wI x9, w10] [] σ = T80 d Q 134 [wO 6 83, wI x1, wI x2, wI x3, wI x4, wI x5, wI x6, wI x7, wI x8, wI x9, w10] [wI (-1)] σ := j3_T.go d [0, 8, 21, 71, 93, 110, 114, 117, 132, 133, 134, 162, 174, 181] 400
set_option maxRecDepth 100000 in
theorem b80_134 {d : Nat} {Q : j3_P} {σ : j3_S} {x1 : Int} {x2 : Int} {x3 : Int} {x4 : Int} {x5 : Int} {x6 : Int} {x7 : Int} {x8 : Int} {x9 : Int} {w10 : j3_W} {xs0 : Int} :
  T80 d Q 134 [wO 6 83, wI x1, wI x2, wI x3, wI x4, wI x5, wI x6, wI x7, wI x8, wI x9, w10] [wI xs0] σ = (if xs0 = (-1 : Int) then T80 d Q 162 [wO 6 83, wI x1, wI x2, wI x3, wI x4, wI x5, wI x6, wI x7, wI x8, wI x9, wI xs0] [] σ else (¬ (σ.2.1 5) = 0 ∧ ((0 ≤ xs0 ∧ xs0 < 80) ∧ (¬ (σ.2.1 5) = 0 ∧ ((0 ≤ (σ.2.2 3011 (σ.2.1 5) xs0) ∧ (σ.2.2 3011 (σ.2.1 5) xs0) < 10) ∧ ((0 ≤ (0 : Int) ∧ (0 : Int) < 23) ∧ ((0 ≤ (0 : Int) ∧ (0 : Int) < 23) ∧ T80 d Q 162 [wO 6 83, wI x1, wI x2, wI x3, wI x4, wI x5, wI 20, wI (σ.2.2 3011 (σ.2.1 5) xs0), wI (wr (xs0 - (σ.2.2 3007 (σ.2.1 5) (σ.2.2 3011 (σ.2.1 5) xs0)))), wI x9, wI xs0] [] (σ.1, σ.2.1, (j3_ast σ.2.2 6005 83 0 (wr ((σ.2.2 6005 83 0) + 1))))))))))) := j3_T.go d [0, 8, 21, 71, 93, 110, 114, 117, 132, 133, 134, 162, 174, 181] 400
set_option maxRecDepth 100000 in
theorem b80_162 {d : Nat} {Q : j3_P} {σ : j3_S} {x1 : Int} {x2 : Int} {x3 : Int} {x4 : Int} {x5 : Int} {x6 : Int} {x7 : Int} {x8 : Int} {x9 : Int} {x10 : Int} :
  T80 d Q 162 [wO 6 83, wI x1, wI x2, wI x3, wI x4, wI x5, wI x6, wI x7, wI x8, wI x9, wI x10] [] σ = j3_tc false d 107 [wO 7 96, wI x6, wI x7, wI x8, wI (wr ((wr (x1 * 1000)) + x4)), wI (-1)] σ (fun r σ1 => T80 d Q 174 [wO 6 83, wI x1, wI x2, wI x3, wI x4, wI x5, wI x6, wI x7, wI x8, wI x9, wI x10] (r.toList ++ []) σ1) := j3_T.go d [0, 8, 21, 71, 93, 110, 114, 117, 132, 133, 134, 162, 174, 181] 400
set_option maxRecDepth 100000 in
theorem b80_174 {d : Nat} {Q : j3_P} {σ : j3_S} {x1 : Int} {x2 : Int} {x3 : Int} {x4 : Int} {x5 : Int} {x6 : Int} {x7 : Int} {x8 : Int} {x9 : Int} {x10 : Int} :
  T80 d Q 174 [wO 6 83, wI x1, wI x2, wI x3, wI x4, wI x5, wI x6, wI x7, wI x8, wI x9, wI x10] [] σ = T80 d Q 21 [wO 6 83, wI x1, wI x2, wI x3, wI (wr (x4 + 1)), wI x5, wI x6, wI x7, wI x8, wI x9, wI x10] [] σ := j3_T.go d [0, 8, 21, 71, 93, 110, 114, 117, 132, 133, 134, 162, 174, 181] 400
set_option maxRecDepth 100000 in
theorem b80_181 {d : Nat} {Q : j3_P} {σ : j3_S} {x1 : Int} {x2 : Int} {x3 : Int} {x4 : Int} {w5 : j3_W} {w6 : j3_W} {w7 : j3_W} {w8 : j3_W} {w9 : j3_W} {w10 : j3_W} :
  T80 d Q 181 [wO 6 83, wI x1, wI x2, wI x3, wI x4, w5, w6, w7, w8, w9, w10] [] σ = Q none σ := j3_T.go d [0, 8, 21, 71, 93, 110, 114, 117, 132, 133, 134, 162, 174, 181] 400
def T81 (d : Nat) (Q : j3_P) : j3_K := j3_T false (j3_tc false d) jc_X6_growth (some .int) Q
theorem e81 {d : Nat} {Q : j3_P} {σ : j3_S} {x1 : Int} : j3_tc false (d + 1) 81 [wO 6 83, wI x1] σ Q = T81 d Q 0 [wO 6 83, wI x1] [] σ := j3_entry ⟨Nat.le_of_ble_eq_true rfl, rfl⟩
set_option maxRecDepth 100000 in
theorem b81_0 {d : Nat} {Q : j3_P} {σ : j3_S} {x1 : Int} :
  T81 d Q 0 [wO 6 83, wI x1] [] σ = (¬ (σ.2.1 5) = 0 ∧ ((0 ≤ x1 ∧ x1 < 80) ∧ (¬ (σ.2.1 5) = 0 ∧ ((0 ≤ x1 ∧ x1 < 80) ∧ Q (some (wI (wr ((wr ((σ.2.2 3015 (σ.2.1 5) x1) + (σ.2.2 0 ((σ.2.1 5) + 17) x1))) - 2)))) σ)))) := j3_T.go d [0] 400
def T82 (d : Nat) (Q : j3_P) : j3_K := j3_T false (j3_tc false d) jc_X6_canPutIn (some .boolean) Q
theorem e82 {d : Nat} {Q : j3_P} {σ : j3_S} {x1 : Int} {x2 : Int} {x3 : Int} : j3_tc false (d + 1) 82 [wO 6 83, wI x1, wI x2, wI x3] σ Q = T82 d Q 0 [wO 6 83, wI x1, wI x2, wI x3, wM 2] [] σ := j3_entry ⟨Nat.le_of_ble_eq_true rfl, rfl⟩
set_option maxRecDepth 100000 in
theorem b82_0 {d : Nat} {Q : j3_P} {σ : j3_S} {x1 : Int} {x2 : Int} {x3 : Int} :
  T82 d Q 0 [wO 6 83, wI x1, wI x2, wI x3, wM 2] [] σ = j3_tc false d 83 [wO 6 83, wI x1] σ (fun r σ1 => T82 d Q 3 [wO 6 83, wI x1, wI x2, wI x3, wM 2] (r.toList ++ []) σ1) := j3_T.go d [0, 3, 29, 36] 400
set_option maxRecDepth 100000 in
theorem b82_3 {d : Nat} {Q : j3_P} {σ : j3_S} {x1 : Int} {x2 : Int} {x3 : Int} {xs0 : Int} :
  T82 d Q 3 [wO 6 83, wI x1, wI x2, wI x3, wM 2] [wI xs0] σ = (if xs0 = 0 then (((0 : Int) = 0 ∨ (0 : Int) = 1) ∧ Q (some (wI 0)) σ) else (¬ (σ.2.1 5) = 0 ∧ ((0 ≤ x1 ∧ x1 < 80) ∧ (¬ (σ.2.1 5) = 0 ∧ ((0 ≤ x1 ∧ x1 < 80) ∧ (if (20 : Int) < (wr ((σ.1 7001 96) + (σ.2.2 3017 (σ.2.1 5) x1))) then (((0 : Int) = 0 ∨ (0 : Int) = 1) ∧ Q (some (wI 0)) σ) else j3_tc false d 81 [wO 6 83, wI x1] σ (fun r σ1 => T82 d Q 29 [wO 6 83, wI x1, wI x2, wI x3, wI (wr (x2 - (σ.2.2 3015 (σ.2.1 5) x1)))] (r.toList ++ [wI x3]) σ1))))))) := j3_T.go d [0, 3, 29, 36] 400
set_option maxRecDepth 100000 in
theorem b82_29 {d : Nat} {Q : j3_P} {σ : j3_S} {x1 : Int} {x2 : Int} {x3 : Int} {x4 : Int} {xs0 : Int} {xs1 : Int} :
  T82 d Q 29 [wO 6 83, wI x1, wI x2, wI x3, wI x4] [wI xs0, wI xs1] σ = (if (120 : Int) < (wr (xs1 + xs0)) then (((0 : Int) = 0 ∨ (0 : Int) = 1) ∧ Q (some (wI 0)) σ) else j3_tc false d 85 [wO 6 83, wI x1] σ (fun r σ1 => T82 d Q 36 [wO 6 83, wI x1, wI x2, wI x3, wI x4] (r.toList ++ [wI x4]) σ1)) := j3_T.go d [0, 3, 29, 36] 400
set_option maxRecDepth 100000 in
theorem b82_36 {d : Nat} {Q : j3_P} {σ : j3_S} {x1 : Int} {x2 : Int} {x3 : Int} {x4 : Int} {xs0 : Int} {xs1 : Int} :
  T82 d Q 36 [wO 6 83, wI x1, wI x2, wI x3, wI x4] [wI xs0, wI xs1] σ = (if (10 : Int) < (wr (xs1 + xs0)) then (((0 : Int) = 0 ∨ (0 : Int) = 1) ∧ Q (some (wI 0)) σ) else (((1 : Int) = 0 ∨ (1 : Int) = 1) ∧ Q (some (wI 1)) σ)) := j3_T.go d [0, 3, 29, 36] 400
def T83 (d : Nat) (Q : j3_P) : j3_K := j3_T false (j3_tc false d) jc_X6_isLeaf (some .boolean) Q
theorem e83 {d : Nat} {Q : j3_P} {σ : j3_S} {x1 : Int} : j3_tc false (d + 1) 83 [wO 6 83, wI x1] σ Q = T83 d Q 0 [wO 6 83, wI x1, wM 2, wM 2, wM 2] [] σ := j3_entry ⟨Nat.le_of_ble_eq_true rfl, rfl⟩
set_option maxRecDepth 100000 in
theorem b83_0 {d : Nat} {Q : j3_P} {σ : j3_S} {x1 : Int} :
  T83 d Q 0 [wO 6 83, wI x1, wM 2, wM 2, wM 2] [] σ = (¬ (σ.2.1 5) = 0 ∧ ((0 ≤ x1 ∧ x1 < 80) ∧ (¬ (σ.2.1 5) = 0 ∧ ((0 ≤ x1 ∧ x1 < 80) ∧ (if (σ.2.2 3013 (σ.2.1 5) x1) = 0 then (((0 : Int) = 0 ∨ (0 : Int) = 1) ∧ Q (some (wI 0)) σ) else (if (σ.2.2 0 ((σ.2.1 5) + 17) x1) < (1 : Int) then (((0 : Int) = 0 ∨ (0 : Int) = 1) ∧ Q (some (wI 0)) σ) else (if (σ.1 6014 83) < (σ.2.2 0 ((σ.2.1 5) + 17) x1) then (((0 : Int) = 0 ∨ (0 : Int) = 1) ∧ Q (some (wI 0)) σ) else T83 d Q 34 [wO 6 83, wI x1, wI (σ.2.2 0 ((σ.2.1 5) + 17) x1), wI (wr ((wr ((wr (x1 * 120)) + (σ.2.2 0 ((σ.2.1 5) + 17) x1))) - 1)), wI (wr (x1 * 120))] [] σ))))))) := j3_T.go d [0, 34, 45, 59] 400
set_option maxRecDepth 100000 in
theorem b83_34 {d : Nat} {Q : j3_P} {σ : j3_S} {x1 : Int} {x2 : Int} {x3 : Int} {x4 : Int} :
  T83 d Q 34 [wO 6 83, wI x1, wI x2, wI x3, wI x4] [] σ = (if x4 < x3 then (¬ (σ.2.1 5) = 0 ∧ ((0 ≤ x4 ∧ x4 < 9600) ∧ j3_tc false d 84 [wO 6 83, wI (σ.2.2 1 ((σ.2.1 5) + 17) x4)] σ (fun r σ1 => T83 d Q 45 [wO 6 83, wI x1, wI x2, wI x3, wI x4] (r.toList ++ []) σ1))) else (¬ (σ.2.1 5) = 0 ∧ ((0 ≤ x1 ∧ x1 < 80) ∧ (if (σ.2.2 3014 (σ.2.1 5) x1) = 0 then T83 d Q 59 [wO 6 83, wI x1, wI x2, wI x3, wI x4] [wI 0] σ else T83 d Q 59 [wO 6 83, wI x1, wI x2, wI x3, wI x4] [wI 1] σ)))) := j3_T.go d [0, 34, 45, 59] 400
set_option maxRecDepth 100000 in
theorem b83_45 {d : Nat} {Q : j3_P} {σ : j3_S} {x1 : Int} {x2 : Int} {x3 : Int} {x4 : Int} {xs0 : Int} :
  T83 d Q 45 [wO 6 83, wI x1, wI x2, wI x3, wI x4] [wI xs0] σ = (if xs0 = 0 then (((0 : Int) = 0 ∨ (0 : Int) = 1) ∧ Q (some (wI 0)) σ) else T83 d Q 34 [wO 6 83, wI x1, wI x2, wI x3, wI (wr (x4 + 1))] [] σ) := j3_T.go d [0, 34, 45, 59] 400
set_option maxRecDepth 100000 in
theorem b83_59 {d : Nat} {Q : j3_P} {σ : j3_S} {x1 : Int} {x2 : Int} {x3 : Int} {x4 : Int} {xs0 : Int} :
  T83 d Q 59 [wO 6 83, wI x1, wI x2, wI x3, wI x4] [wI xs0] σ = (¬ (σ.2.1 5) = 0 ∧ ((0 ≤ x3 ∧ x3 < 9600) ∧ (if (σ.2.2 1 ((σ.2.1 5) + 17) x3) = (22 : Int) then (¬ (σ.2.1 5) = 0 ∧ ((0 ≤ x3 ∧ x3 < 9600) ∧ (if (σ.2.2 4 ((σ.2.1 5) + 17) x3) = xs0 then (((1 : Int) = 0 ∨ (1 : Int) = 1) ∧ Q (some (wI 1)) σ) else (((0 : Int) = 0 ∨ (0 : Int) = 1) ∧ Q (some (wI 0)) σ)))) else (((0 : Int) = 0 ∨ (0 : Int) = 1) ∧ Q (some (wI 0)) σ)))) := j3_T.go d [0, 34, 45, 59] 400
def T84 (d : Nat) (Q : j3_P) : j3_K := j3_T false (j3_tc false d) jc_X6_isPlain (some .boolean) Q
theorem e84 {d : Nat} {Q : j3_P} {σ : j3_S} {x1 : Int} : j3_tc false (d + 1) 84 [wO 6 83, wI x1] σ Q = T84 d Q 0 [wO 6 83, wI x1] [] σ := j3_entry ⟨Nat.le_of_ble_eq_true rfl, rfl⟩
set_option maxRecDepth 100000 in
theorem b84_0 {d : Nat} {Q : j3_P} {σ : j3_S} {x1 : Int} :
  T84 d Q 0 [wO 6 83, wI x1] [] σ = (if (10 : Int) < x1 then (if x1 < (15 : Int) then T84 d Q 9 [wO 6 83, wI x1] [] σ else (if (19 : Int) < x1 then T84 d Q 9 [wO 6 83, wI x1] [] σ else T84 d Q 15 [wO 6 83, wI x1] [] σ)) else T84 d Q 15 [wO 6 83, wI x1] [] σ) := j3_T.go d [0, 9, 15] 400
set_option maxRecDepth 100000 in
theorem b84_9 {d : Nat} {Q : j3_P} {σ : j3_S} {x1 : Int} :
  T84 d Q 9 [wO 6 83, wI x1] [] σ = (if x1 < (23 : Int) then (((0 : Int) = 0 ∨ (0 : Int) = 1) ∧ Q (some (wI 0)) σ) else (if (25 : Int) < x1 then (((0 : Int) = 0 ∨ (0 : Int) = 1) ∧ Q (some (wI 0)) σ) else T84 d Q 15 [wO 6 83, wI x1] [] σ)) := j3_T.go d [0, 9, 15] 400
set_option maxRecDepth 100000 in
theorem b84_15 {d : Nat} {Q : j3_P} {σ : j3_S} {x1 : Int} :
  T84 d Q 15 [wO 6 83, wI x1] [] σ = (((1 : Int) = 0 ∨ (1 : Int) = 1) ∧ Q (some (wI 1)) σ) := j3_T.go d [0, 9, 15] 400
def T85 (d : Nat) (Q : j3_P) : j3_K := j3_T false (j3_tc false d) jc_X6_highest (some .int) Q
theorem e85 {d : Nat} {Q : j3_P} {σ : j3_S} {x1 : Int} : j3_tc false (d + 1) 85 [wO 6 83, wI x1] σ Q = T85 d Q 0 [wO 6 83, wI x1, wM 2, wM 2, wM 2] [] σ := j3_entry ⟨Nat.le_of_ble_eq_true rfl, rfl⟩
set_option maxRecDepth 100000 in
theorem b85_0 {d : Nat} {Q : j3_P} {σ : j3_S} {x1 : Int} :
  T85 d Q 0 [wO 6 83, wI x1, wM 2, wM 2, wM 2] [] σ = T85 d Q 8 [wO 6 83, wI x1, wI 0, wI (wr (x1 * 120)), wI (wr (x1 * 120))] [] σ := j3_T.go d [0, 8] 400
set_option maxRecDepth 100000 in
theorem b85_8 {d : Nat} {Q : j3_P} {σ : j3_S} {x1 : Int} {x2 : Int} {x3 : Int} {x4 : Int} :
  T85 d Q 8 [wO 6 83, wI x1, wI x2, wI x3, wI x4] [] σ = (¬ (σ.2.1 5) = 0 ∧ ((0 ≤ x1 ∧ x1 < 80) ∧ (if x4 < (wr (x3 + (σ.2.2 0 ((σ.2.1 5) + 17) x1))) then (¬ (σ.2.1 5) = 0 ∧ ((0 ≤ x4 ∧ x4 < 9600) ∧ T85 d Q 8 [wO 6 83, wI x1, wI (if x2 < (σ.2.2 4 ((σ.2.1 5) + 17) x4) then (σ.2.2 4 ((σ.2.1 5) + 17) x4) else x2), wI x3, wI (wr (x4 + 1))] [] σ)) else Q (some (wI x2)) σ))) := j3_T.go d [0, 8] 400
def T86 (d : Nat) (Q : j3_P) : j3_K := j3_T false (j3_tc false d) jc_X6_putIn none Q
theorem e86 {d : Nat} {Q : j3_P} {σ : j3_S} {x1 : Int} {x2 : Int} : j3_tc false (d + 1) 86 [wO 6 83, wI x1, wI x2] σ Q = T86 d Q 0 [wO 6 83, wI x1, wI x2, wM 2, wM 2, wM 2, wM 2, wM 2] [] σ := j3_entry ⟨Nat.le_of_ble_eq_true rfl, rfl⟩
set_option maxRecDepth 100000 in
theorem b86_0 {d : Nat} {Q : j3_P} {σ : j3_S} {x1 : Int} {x2 : Int} :
  T86 d Q 0 [wO 6 83, wI x1, wI x2, wM 2, wM 2, wM 2, wM 2, wM 2] [] σ = (¬ (σ.2.1 5) = 0 ∧ ((0 ≤ x1 ∧ x1 < 80) ∧ T86 d Q 12 [wO 6 83, wI x1, wI x2, wI (σ.1 7001 96), wI (wr ((σ.2.2 3015 (σ.2.1 5) x1) - 1)), wM 2, wM 2, wM 2] [] σ)) := j3_T.go d [0, 12, 24, 28, 59, 84] 400
set_option maxRecDepth 100000 in
theorem b86_12 {d : Nat} {Q : j3_P} {σ : j3_S} {x1 : Int} {x2 : Int} {x3 : Int} {x4 : Int} :
  T86 d Q 12 [wO 6 83, wI x1, wI x2, wI x3, wI x4, wM 2, wM 2, wM 2] [] σ = (if x4 < 0 then T86 d Q 28 [wO 6 83, wI x1, wI x2, wI x3, wI 0, wM 2, wM 2, wM 2] [] σ else j3_tc false d 107 [wO 7 96, wI 3, wI (wr (x3 + x4)), wI 0, wI x2, wI (-1)] σ (fun r σ1 => T86 d Q 24 [wO 6 83, wI x1, wI x2, wI x3, wI x4, wM 2, wM 2, wM 2] (r.toList ++ []) σ1)) := j3_T.go d [0, 12, 24, 28, 59, 84] 400
set_option maxRecDepth 100000 in
theorem b86_24 {d : Nat} {Q : j3_P} {σ : j3_S} {x1 : Int} {x2 : Int} {x3 : Int} {x4 : Int} :
  T86 d Q 24 [wO 6 83, wI x1, wI x2, wI x3, wI x4, wM 2, wM 2, wM 2] [] σ = T86 d Q 12 [wO 6 83, wI x1, wI x2, wI x3, wI (wr (x4 + (-1))), wM 2, wM 2, wM 2] [] σ := j3_T.go d [0, 12, 24, 28, 59, 84] 400
set_option maxRecDepth 100000 in
theorem b86_28 {d : Nat} {Q : j3_P} {σ : j3_S} {x1 : Int} {x2 : Int} {x3 : Int} {x4 : Int} {w5 : j3_W} {w6 : j3_W} {w7 : j3_W} :
  T86 d Q 28 [wO 6 83, wI x1, wI x2, wI x3, wI x4, w5, w6, w7] [] σ = (¬ (σ.2.1 5) = 0 ∧ ((0 ≤ x1 ∧ x1 < 80) ∧ (if x4 < (wr ((σ.2.2 0 ((σ.2.1 5) + 17) x1) - 1)) then (¬ (σ.2.1 5) = 0 ∧ ((0 ≤ (wr ((wr (x1 * 120)) + x4)) ∧ (wr ((wr (x1 * 120)) + x4)) < 9600) ∧ ((0 ≤ (σ.2.2 1 ((σ.2.1 5) + 17) (wr ((wr (x1 * 120)) + x4))) ∧ (σ.2.2 1 ((σ.2.1 5) + 17) (wr ((wr (x1 * 120)) + x4))) < 27) ∧ (if (i_tls (σ.2.2 1 ((σ.2.1 5) + 17) (wr ((wr (x1 * 120)) + x4)))) = (2 : Int) then T86 d Q 59 [wO 6 83, wI x1, wI x2, wI x3, wI x4, wI (wr ((wr (x1 * 120)) + x4)), wI (σ.2.2 1 ((σ.2.1 5) + 17) (wr ((wr (x1 * 120)) + x4))), w7] [wI x3] σ else T86 d Q 59 [wO 6 83, wI x1, wI x2, wI x3, wI x4, wI (wr ((wr (x1 * 120)) + x4)), wI (σ.2.2 1 ((σ.2.1 5) + 17) (wr ((wr (x1 * 120)) + x4))), w7] [wI 0] σ)))) else (¬ (σ.2.1 5) = 0 ∧ ((0 ≤ x1 ∧ x1 < 80) ∧ ((0 ≤ (1 : Int) ∧ (1 : Int) < 23) ∧ ((0 ≤ (1 : Int) ∧ (1 : Int) < 23) ∧ Q none ((j3_up σ.1 7001 96 (wr ((σ.1 7001 96) + (σ.2.2 3017 (σ.2.1 5) x1)))), σ.2.1, (j3_ast σ.2.2 6005 83 1 (wr ((σ.2.2 6005 83 1) + 1))))))))))) := j3_T.go d [0, 12, 24, 28, 59, 84] 400
set_option maxRecDepth 100000 in
theorem b86_59 {d : Nat} {Q : j3_P} {σ : j3_S} {x1 : Int} {x2 : Int} {x3 : Int} {x4 : Int} {x5 : Int} {x6 : Int} {w7 : j3_W} {xs0 : Int} :
  T86 d Q 59 [wO 6 83, wI x1, wI x2, wI x3, wI x4, wI x5, wI x6, w7] [wI xs0] σ = (¬ (σ.2.1 5) = 0 ∧ ((0 ≤ x5 ∧ x5 < 9600) ∧ (¬ (σ.2.1 5) = 0 ∧ ((0 ≤ x5 ∧ x5 < 9600) ∧ j3_tc false d 107 [wO 7 96, wI x6, wI (wr ((σ.2.2 2 ((σ.2.1 5) + 17) x5) + xs0)), wI (σ.2.2 3 ((σ.2.1 5) + 17) x5), wI (wr ((wr (x1 * 1000)) + x4)), wI x2] σ (fun r σ1 => T86 d Q 84 [wO 6 83, wI x1, wI x2, wI x3, wI x4, wI x5, wI x6, wI xs0] (r.toList ++ []) σ1))))) := j3_T.go d [0, 12, 24, 28, 59, 84] 400
set_option maxRecDepth 100000 in
theorem b86_84 {d : Nat} {Q : j3_P} {σ : j3_S} {x1 : Int} {x2 : Int} {x3 : Int} {x4 : Int} {x5 : Int} {x6 : Int} {x7 : Int} :
  T86 d Q 84 [wO 6 83, wI x1, wI x2, wI x3, wI x4, wI x5, wI x6, wI x7] [] σ = T86 d Q 28 [wO 6 83, wI x1, wI x2, wI x3, wI (wr (x4 + 1)), wI x5, wI x6, wI x7] [] σ := j3_T.go d [0, 12, 24, 28, 59, 84] 400
def T87 (d : Nat) (Q : j3_P) : j3_K := j3_T false (j3_tc false d) jc_X6_lay none Q
theorem e87 {d : Nat} {Q : j3_P} {σ : j3_S} {x1 : Int} : j3_tc false (d + 1) 87 [wO 6 83, wI x1] σ Q = T87 d Q 0 [wO 6 83, wI x1, wM 2] [] σ := j3_entry ⟨Nat.le_of_ble_eq_true rfl, rfl⟩
set_option maxRecDepth 100000 in
theorem b87_0 {d : Nat} {Q : j3_P} {σ : j3_S} {x1 : Int} :
  T87 d Q 0 [wO 6 83, wI x1, wM 2] [] σ = (¬ (σ.2.1 6) = 0 ∧ ((0 ≤ (0 : Int) ∧ 0 ≤ (wr (x1 * 120)) ∧ 0 ≤ (σ.1 7000 96) ∧ (0 : Int) + (σ.1 7000 96) ≤ 120 ∧ (wr (x1 * 120)) + (σ.1 7000 96) ≤ 9600) ∧ (¬ (σ.2.1 6) = 0 ∧ ((0 ≤ (0 : Int) ∧ 0 ≤ (wr (x1 * 120)) ∧ 0 ≤ (σ.1 7000 96) ∧ (0 : Int) + (σ.1 7000 96) ≤ 120 ∧ (wr (x1 * 120)) + (σ.1 7000 96) ≤ 9600) ∧ (¬ (σ.2.1 6) = 0 ∧ ((0 ≤ (0 : Int) ∧ 0 ≤ (wr (x1 * 120)) ∧ 0 ≤ (σ.1 7000 96) ∧ (0 : Int) + (σ.1 7000 96) ≤ 120 ∧ (wr (x1 * 120)) + (σ.1 7000 96) ≤ 9600) ∧ ((0 ≤ (0 : Int) ∧ 0 ≤ (wr (x1 * 120)) ∧ 0 ≤ (σ.1 7000 96) ∧ (0 : Int) + (σ.1 7000 96) ≤ 120 ∧ (wr (x1 * 120)) + (σ.1 7000 96) ≤ 9600) ∧ ((0 ≤ (0 : Int) ∧ 0 ≤ (wr (x1 * 120)) ∧ 0 ≤ (σ.1 7000 96) ∧ (0 : Int) + (σ.1 7000 96) ≤ 120 ∧ (wr (x1 * 120)) + (σ.1 7000 96) ≤ 9600) ∧ (¬ (σ.2.1 6) = 0 ∧ j3_tc false d 249 [wA 4 ((σ.2.1 6) + 17), wI (wr (x1 * 120)), wI (wr ((wr (x1 * 120)) + (σ.1 7000 96))), wI 0] (σ.1, σ.2.1, (j3_acp (j3_acp (j3_acp (j3_acp (j3_acp σ.2.2 7002 96 1 ((σ.2.1 6) + 17) 0 (wr (x1 * 120)) (σ.1 7000 96)) 7003 96 2 ((σ.2.1 6) + 17) 0 (wr (x1 * 120)) (σ.1 7000 96)) 7004 96 3 ((σ.2.1 6) + 17) 0 (wr (x1 * 120)) (σ.1 7000 96)) 7005 96 6003 83 0 (wr (x1 * 120)) (σ.1 7000 96)) 7006 96 6004 83 0 (wr (x1 * 120)) (σ.1 7000 96))) (fun r σ1 => T87 d Q 77 [wO 6 83, wI x1, wI (wr (x1 * 120))] (r.toList ++ []) σ1)))))))))) := j3_T.go d [0, 77] 400
set_option maxRecDepth 100000 in
theorem b87_77 {d : Nat} {Q : j3_P} {σ : j3_S} {x1 : Int} {x2 : Int} :
  T87 d Q 77 [wO 6 83, wI x1, wI x2] [] σ = (¬ (σ.2.1 6) = 0 ∧ ((0 ≤ x1 ∧ x1 < 80) ∧ ((0 ≤ x1 ∧ x1 < 80) ∧ Q none (σ.1, σ.2.1, (j3_ast (j3_ast σ.2.2 0 ((σ.2.1 6) + 17) x1 (σ.1 7000 96)) 6010 83 x1 (σ.1 7001 96)))))) := j3_T.go d [0, 77] 400
def T88 (d : Nat) (Q : j3_P) : j3_K := j3_T false (j3_tc false d) jc_X6_markAll none Q
theorem e88 {d : Nat} {Q : j3_P} {σ : j3_S}  : j3_tc false (d + 1) 88 [wO 6 83] σ Q = T88 d Q 0 [wO 6 83, wM 2] [] σ := j3_entry ⟨Nat.le_of_ble_eq_true rfl, rfl⟩
set_option maxRecDepth 100000 in
theorem b88_0 {d : Nat} {Q : j3_P} {σ : j3_S}  :
  T88 d Q 0 [wO 6 83, wM 2] [] σ = j3_tc false d 248 [wA 6000 83, wI (-1)] σ (fun r σ1 => T88 d Q 4 [wO 6 83, wM 2] (r.toList ++ []) σ1) := j3_T.go d [0, 4, 8, 12, 14, 34, 38, 46, 54, 76] 400
set_option maxRecDepth 100000 in
theorem b88_4 {d : Nat} {Q : j3_P} {σ : j3_S}  :
  T88 d Q 4 [wO 6 83, wM 2] [] σ = j3_tc false d 248 [wA 6001 83, wI (-1)] σ (fun r σ1 => T88 d Q 8 [wO 6 83, wM 2] (r.toList ++ []) σ1) := j3_T.go d [0, 4, 8, 12, 14, 34, 38, 46, 54, 76] 400
set_option maxRecDepth 100000 in
theorem b88_8 {d : Nat} {Q : j3_P} {σ : j3_S}  :
  T88 d Q 8 [wO 6 83, wM 2] [] σ = j3_tc false d 248 [wA 6002 83, wI (-1)] σ (fun r σ1 => T88 d Q 12 [wO 6 83, wM 2] (r.toList ++ []) σ1) := j3_T.go d [0, 4, 8, 12, 14, 34, 38, 46, 54, 76] 400
set_option maxRecDepth 100000 in
theorem b88_12 {d : Nat} {Q : j3_P} {σ : j3_S}  :
  T88 d Q 12 [wO 6 83, wM 2] [] σ = T88 d Q 14 [wO 6 83, wI 0] [] σ := j3_T.go d [0, 4, 8, 12, 14, 34, 38, 46, 54, 76] 400
set_option maxRecDepth 100000 in
theorem b88_14 {d : Nat} {Q : j3_P} {σ : j3_S} {x1 : Int} :
  T88 d Q 14 [wO 6 83, wI x1] [] σ = (¬ (σ.2.1 5) = 0 ∧ (if x1 < (σ.1 3001 (σ.2.1 5)) then ((0 ≤ x1 ∧ x1 < 80) ∧ (if (σ.2.2 4000 92 x1) = (1 : Int) then ((0 ≤ x1 ∧ x1 < 80) ∧ j3_tc false d 89 [wO 6 83, wI x1] (σ.1, σ.2.1, (j3_ast σ.2.2 6002 83 x1 0)) (fun r σ1 => T88 d Q 34 [wO 6 83, wI x1] (r.toList ++ []) σ1)) else T88 d Q 34 [wO 6 83, wI x1] [] σ)) else T88 d Q 38 [wO 6 83, wI 0] [] σ)) := j3_T.go d [0, 4, 8, 12, 14, 34, 38, 46, 54, 76] 400
set_option maxRecDepth 100000 in
theorem b88_34 {d : Nat} {Q : j3_P} {σ : j3_S} {x1 : Int} :
  T88 d Q 34 [wO 6 83, wI x1] [] σ = T88 d Q 14 [wO 6 83, wI (wr (x1 + 1))] [] σ := j3_T.go d [0, 4, 8, 12, 14, 34, 38, 46, 54, 76] 400
set_option maxRecDepth 100000 in
theorem b88_38 {d : Nat} {Q : j3_P} {σ : j3_S} {x1 : Int} :
  T88 d Q 38 [wO 6 83, wI x1] [] σ = (¬ (σ.2.1 5) = 0 ∧ (if x1 < (σ.1 3000 (σ.2.1 5)) then j3_tc false d 90 [wO 6 83, wI x1] σ (fun r σ1 => T88 d Q 46 [wO 6 83, wI x1] (r.toList ++ []) σ1) else (¬ (σ.2.1 5) = 0 ∧ T88 d Q 54 [wO 6 83, wI (wr ((σ.1 3000 (σ.2.1 5)) - 1))] [] σ))) := j3_T.go d [0, 4, 8, 12, 14, 34, 38, 46, 54, 76] 400
set_option maxRecDepth 100000 in
theorem b88_46 {d : Nat} {Q : j3_P} {σ : j3_S} {x1 : Int} :
  T88 d Q 46 [wO 6 83, wI x1] [] σ = T88 d Q 38 [wO 6 83, wI (wr (x1 + 1))] [] σ := j3_T.go d [0, 4, 8, 12, 14, 34, 38, 46, 54, 76] 400
set_option maxRecDepth 100000 in
theorem b88_54 {d : Nat} {Q : j3_P} {σ : j3_S} {x1 : Int} :
  T88 d Q 54 [wO 6 83, wI x1] [] σ = (if x1 < 0 then Q none σ else ((0 ≤ x1 ∧ x1 < 10) ∧ (if (σ.2.2 6000 83 x1) = 0 then (¬ (σ.2.1 5) = 0 ∧ ((0 ≤ x1 ∧ x1 < 10) ∧ (if (σ.2.2 3003 (σ.2.1 5) x1) < 0 then T88 d Q 76 [wO 6 83, wI x1] [] σ else (¬ (σ.2.1 5) = 0 ∧ ((0 ≤ x1 ∧ x1 < 10) ∧ ((0 ≤ (σ.2.2 3003 (σ.2.1 5) x1) ∧ (σ.2.2 3003 (σ.2.1 5) x1) < 10) ∧ T88 d Q 76 [wO 6 83, wI x1] [] (σ.1, σ.2.1, (j3_ast σ.2.2 6000 83 (σ.2.2 3003 (σ.2.1 5) x1) 0)))))))) else T88 d Q 76 [wO 6 83, wI x1] [] σ))) := j3_T.go d [0, 4, 8, 12, 14, 34, 38, 46, 54, 76] 400
set_option maxRecDepth 100000 in
theorem b88_76 {d : Nat} {Q : j3_P} {σ : j3_S} {x1 : Int} :
  T88 d Q 76 [wO 6 83, wI x1] [] σ = T88 d Q 54 [wO 6 83, wI (wr (x1 + (-1)))] [] σ := j3_T.go d [0, 4, 8, 12, 14, 34, 38, 46, 54, 76] 400
def T89 (d : Nat) (Q : j3_P) : j3_K := j3_T false (j3_tc false d) jc_X6_markTold none Q
theorem e89 {d : Nat} {Q : j3_P} {σ : j3_S} {x1 : Int} : j3_tc false (d + 1) 89 [wO 6 83, wI x1] σ Q = T89 d Q 0 [wO 6 83, wI x1, wM 2, wM 2, wM 2, wM 2] [] σ := j3_entry ⟨Nat.le_of_ble_eq_true rfl, rfl⟩
set_option maxRecDepth 100000 in
theorem b89_0 {d : Nat} {Q : j3_P} {σ : j3_S} {x1 : Int} :
  T89 d Q 0 [wO 6 83, wI x1, wM 2, wM 2, wM 2, wM 2] [] σ = T89 d Q 6 [wO 6 83, wI x1, wI (wr (x1 * 120)), wI (wr (x1 * 120)), wM 2, wM 2] [] σ := j3_T.go d [0, 6, 36, 81] 400
set_option maxRecDepth 100000 in
theorem b89_6 {d : Nat} {Q : j3_P} {σ : j3_S} {x1 : Int} {x2 : Int} {x3 : Int} {w4 : j3_W} {w5 : j3_W} :
  T89 d Q 6 [wO 6 83, wI x1, wI x2, wI x3, w4, w5] [] σ = (¬ (σ.2.1 6) = 0 ∧ ((0 ≤ x1 ∧ x1 < 80) ∧ (if x3 < (wr (x2 + (σ.2.2 0 ((σ.2.1 6) + 17) x1))) then (¬ (σ.2.1 6) = 0 ∧ ((0 ≤ x3 ∧ x3 < 9600) ∧ (¬ (σ.2.1 6) = 0 ∧ ((0 ≤ x3 ∧ x3 < 9600) ∧ (if (σ.2.2 1 ((σ.2.1 6) + 17) x3) = (24 : Int) then T89 d Q 36 [wO 6 83, wI x1, wI x2, wI x3, wI (σ.2.2 1 ((σ.2.1 6) + 17) x3), wI (σ.2.2 2 ((σ.2.1 6) + 17) x3)] [] σ else (if (σ.2.2 1 ((σ.2.1 6) + 17) x3) = (25 : Int) then T89 d Q 36 [wO 6 83, wI x1, wI x2, wI x3, wI (σ.2.2 1 ((σ.2.1 6) + 17) x3), wI (σ.2.2 2 ((σ.2.1 6) + 17) x3)] [] σ else (if (σ.2.2 1 ((σ.2.1 6) + 17) x3) = (21 : Int) then (¬ (σ.2.1 5) = 0 ∧ ((0 ≤ (σ.2.2 2 ((σ.2.1 6) + 17) x3) ∧ (σ.2.2 2 ((σ.2.1 6) + 17) x3) < 10) ∧ (¬ (σ.2.1 6) = 0 ∧ ((0 ≤ x3 ∧ x3 < 9600) ∧ ((0 ≤ (wr ((σ.2.2 3007 (σ.2.1 5) (σ.2.2 2 ((σ.2.1 6) + 17) x3)) + (σ.2.2 3 ((σ.2.1 6) + 17) x3))) ∧ (wr ((σ.2.2 3007 (σ.2.1 5) (σ.2.2 2 ((σ.2.1 6) + 17) x3)) + (σ.2.2 3 ((σ.2.1 6) + 17) x3))) < 80) ∧ T89 d Q 81 [wO 6 83, wI x1, wI x2, wI x3, wI (σ.2.2 1 ((σ.2.1 6) + 17) x3), wI (σ.2.2 2 ((σ.2.1 6) + 17) x3)] [] (σ.1, σ.2.1, (j3_ast σ.2.2 6002 83 (wr ((σ.2.2 3007 (σ.2.1 5) (σ.2.2 2 ((σ.2.1 6) + 17) x3)) + (σ.2.2 3 ((σ.2.1 6) + 17) x3))) 0))))))) else ((0 ≤ (σ.2.2 1 ((σ.2.1 6) + 17) x3) ∧ (σ.2.2 1 ((σ.2.1 6) + 17) x3) < 27) ∧ (if (i_tls (σ.2.2 1 ((σ.2.1 6) + 17) x3)) = (5 : Int) then (¬ (σ.2.1 6) = 0 ∧ ((0 ≤ x3 ∧ x3 < 9600) ∧ ((0 ≤ (wr ((wr ((σ.2.2 2 ((σ.2.1 6) + 17) x3) * 6)) + (σ.2.2 3 ((σ.2.1 6) + 17) x3))) ∧ (wr ((wr ((σ.2.2 2 ((σ.2.1 6) + 17) x3) * 6)) + (σ.2.2 3 ((σ.2.1 6) + 17) x3))) < 60) ∧ T89 d Q 81 [wO 6 83, wI x1, wI x2, wI x3, wI (σ.2.2 1 ((σ.2.1 6) + 17) x3), wI (σ.2.2 2 ((σ.2.1 6) + 17) x3)] [] (σ.1, σ.2.1, (j3_ast σ.2.2 6001 83 (wr ((wr ((σ.2.2 2 ((σ.2.1 6) + 17) x3) * 6)) + (σ.2.2 3 ((σ.2.1 6) + 17) x3))) 0))))) else T89 d Q 81 [wO 6 83, wI x1, wI x2, wI x3, wI (σ.2.2 1 ((σ.2.1 6) + 17) x3), wI (σ.2.2 2 ((σ.2.1 6) + 17) x3)] [] σ))))))))) else Q none σ))) := j3_T.go d [0, 6, 36, 81] 400
set_option maxRecDepth 100000 in
theorem b89_36 {d : Nat} {Q : j3_P} {σ : j3_S} {x1 : Int} {x2 : Int} {x3 : Int} {x4 : Int} {x5 : Int} :
  T89 d Q 36 [wO 6 83, wI x1, wI x2, wI x3, wI x4, wI x5] [] σ = ((0 ≤ x5 ∧ x5 < 10) ∧ T89 d Q 81 [wO 6 83, wI x1, wI x2, wI x3, wI x4, wI x5] [] (σ.1, σ.2.1, (j3_ast σ.2.2 6000 83 x5 0))) := j3_T.go d [0, 6, 36, 81] 400
set_option maxRecDepth 100000 in
theorem b89_81 {d : Nat} {Q : j3_P} {σ : j3_S} {x1 : Int} {x2 : Int} {x3 : Int} {x4 : Int} {x5 : Int} :
  T89 d Q 81 [wO 6 83, wI x1, wI x2, wI x3, wI x4, wI x5] [] σ = T89 d Q 6 [wO 6 83, wI x1, wI x2, wI (wr (x3 + 1)), wI x4, wI x5] [] σ := j3_T.go d [0, 6, 36, 81] 400
def T90 (d : Nat) (Q : j3_P) : j3_K := j3_T false (j3_tc false d) jc_X6_markMembers none Q
theorem e90 {d : Nat} {Q : j3_P} {σ : j3_S} {x1 : Int} : j3_tc false (d + 1) 90 [wO 6 83, wI x1] σ Q = T90 d Q 0 [wO 6 83, wI x1, wM 2, wM 2] [] σ := j3_entry ⟨Nat.le_of_ble_eq_true rfl, rfl⟩
set_option maxRecDepth 100000 in
theorem b90_0 {d : Nat} {Q : j3_P} {σ : j3_S} {x1 : Int} :
  T90 d Q 0 [wO 6 83, wI x1, wM 2, wM 2] [] σ = ((0 ≤ x1 ∧ x1 < 10) ∧ (if (σ.2.2 4001 92 x1) = (1 : Int) then ((0 ≤ x1 ∧ x1 < 10) ∧ T90 d Q 12 [wO 6 83, wI x1, wM 2, wM 2] [] (σ.1, σ.2.1, (j3_ast σ.2.2 6000 83 x1 0))) else T90 d Q 12 [wO 6 83, wI x1, wM 2, wM 2] [] σ)) := j3_T.go d [0, 12, 14, 44, 48, 76] 400
set_option maxRecDepth 100000 in
theorem b90_12 {d : Nat} {Q : j3_P} {σ : j3_S} {x1 : Int} :
  T90 d Q 12 [wO 6 83, wI x1, wM 2, wM 2] [] σ = T90 d Q 14 [wO 6 83, wI x1, wI 0, wM 2] [] σ := j3_T.go d [0, 12, 14, 44, 48, 76] 400
set_option maxRecDepth 100000 in
theorem b90_14 {d : Nat} {Q : j3_P} {σ : j3_S} {x1 : Int} {x2 : Int} {w3 : j3_W} :
  T90 d Q 14 [wO 6 83, wI x1, wI x2, w3] [] σ = (¬ (σ.2.1 5) = 0 ∧ ((0 ≤ x1 ∧ x1 < 10) ∧ (if x2 < (σ.2.2 3005 (σ.2.1 5) x1) then ((0 ≤ (wr ((wr (x1 * 6)) + x2)) ∧ (wr ((wr (x1 * 6)) + x2)) < 60) ∧ (if (σ.2.2 6001 83 (wr ((wr (x1 * 6)) + x2))) = 0 then ((0 ≤ x1 ∧ x1 < 10) ∧ (¬ (σ.2.1 5) = 0 ∧ ((0 ≤ (wr ((wr (x1 * 6)) + x2)) ∧ (wr ((wr (x1 * 6)) + x2)) < 60) ∧ j3_tc false d 92 [wO 6 83, wI (σ.2.2 3009 (σ.2.1 5) (wr ((wr (x1 * 6)) + x2)))] (σ.1, σ.2.1, (j3_ast σ.2.2 6000 83 x1 0)) (fun r σ1 => T90 d Q 44 [wO 6 83, wI x1, wI x2, wI (wr ((wr (x1 * 6)) + x2))] (r.toList ++ []) σ1)))) else T90 d Q 44 [wO 6 83, wI x1, wI x2, wI (wr ((wr (x1 * 6)) + x2))] [] σ)) else T90 d Q 48 [wO 6 83, wI x1, wI 0, w3] [] σ))) := j3_T.go d [0, 12, 14, 44, 48, 76] 400
set_option maxRecDepth 100000 in
theorem b90_44 {d : Nat} {Q : j3_P} {σ : j3_S} {x1 : Int} {x2 : Int} {x3 : Int} :
  T90 d Q 44 [wO 6 83, wI x1, wI x2, wI x3] [] σ = T90 d Q 14 [wO 6 83, wI x1, wI (wr (x2 + 1)), wI x3] [] σ := j3_T.go d [0, 12, 14, 44, 48, 76] 400
set_option maxRecDepth 100000 in
theorem b90_48 {d : Nat} {Q : j3_P} {σ : j3_S} {x1 : Int} {x2 : Int} {w3 : j3_W} :
  T90 d Q 48 [wO 6 83, wI x1, wI x2, w3] [] σ = (¬ (σ.2.1 5) = 0 ∧ ((0 ≤ x1 ∧ x1 < 10) ∧ (if x2 < (σ.2.2 3006 (σ.2.1 5) x1) then (¬ (σ.2.1 5) = 0 ∧ ((0 ≤ x1 ∧ x1 < 10) ∧ ((0 ≤ (wr ((σ.2.2 3007 (σ.2.1 5) x1) + x2)) ∧ (wr ((σ.2.2 3007 (σ.2.1 5) x1) + x2)) < 80) ∧ (if (σ.2.2 6002 83 (wr ((σ.2.2 3007 (σ.2.1 5) x1) + x2))) = 0 then ((0 ≤ x1 ∧ x1 < 10) ∧ j3_tc false d 91 [wO 6 83, wI (wr ((σ.2.2 3007 (σ.2.1 5) x1) + x2))] (σ.1, σ.2.1, (j3_ast σ.2.2 6000 83 x1 0)) (fun r σ1 => T90 d Q 76 [wO 6 83, wI x1, wI x2, wI (wr ((σ.2.2 3007 (σ.2.1 5) x1) + x2))] (r.toList ++ []) σ1)) else T90 d Q 76 [wO 6 83, wI x1, wI x2, wI (wr ((σ.2.2 3007 (σ.2.1 5) x1) + x2))] [] σ)))) else Q none σ))) := j3_T.go d [0, 12, 14, 44, 48, 76] 400
set_option maxRecDepth 100000 in
theorem b90_76 {d : Nat} {Q : j3_P} {σ : j3_S} {x1 : Int} {x2 : Int} {x3 : Int} :
  T90 d Q 76 [wO 6 83, wI x1, wI x2, wI x3] [] σ = T90 d Q 48 [wO 6 83, wI x1, wI (wr (x2 + 1)), wI x3] [] σ := j3_T.go d [0, 12, 14, 44, 48, 76] 400
def T91 (d : Nat) (Q : j3_P) : j3_K := j3_T false (j3_tc false d) jc_X6_markFace none Q
theorem e91 {d : Nat} {Q : j3_P} {σ : j3_S} {x1 : Int} : j3_tc false (d + 1) 91 [wO 6 83, wI x1] σ Q = T91 d Q 0 [wO 6 83, wI x1, wM 2] [] σ := j3_entry ⟨Nat.le_of_ble_eq_true rfl, rfl⟩
set_option maxRecDepth 100000 in
theorem b91_0 {d : Nat} {Q : j3_P} {σ : j3_S} {x1 : Int} :
  T91 d Q 0 [wO 6 83, wI x1, wM 2] [] σ = (¬ (σ.2.1 5) = 0 ∧ ((0 ≤ x1 ∧ x1 < 80) ∧ (if (σ.2.2 3014 (σ.2.1 5) x1) = 0 then T91 d Q 15 [wO 6 83, wI x1, wM 2] [] σ else (¬ (σ.2.1 5) = 0 ∧ ((0 ≤ x1 ∧ x1 < 80) ∧ j3_tc false d 92 [wO 6 83, wI (wr ((σ.2.2 3014 (σ.2.1 5) x1) - 1))] σ (fun r σ1 => T91 d Q 15 [wO 6 83, wI x1, wM 2] (r.toList ++ []) σ1)))))) := j3_T.go d [0, 15, 17, 35] 400
set_option maxRecDepth 100000 in
theorem b91_15 {d : Nat} {Q : j3_P} {σ : j3_S} {x1 : Int} :
  T91 d Q 15 [wO 6 83, wI x1, wM 2] [] σ = T91 d Q 17 [wO 6 83, wI x1, wI 0] [] σ := j3_T.go d [0, 15, 17, 35] 400
set_option maxRecDepth 100000 in
theorem b91_17 {d : Nat} {Q : j3_P} {σ : j3_S} {x1 : Int} {x2 : Int} :
  T91 d Q 17 [wO 6 83, wI x1, wI x2] [] σ = (¬ (σ.2.1 5) = 0 ∧ ((0 ≤ x1 ∧ x1 < 80) ∧ (if x2 < (σ.2.2 3015 (σ.2.1 5) x1) then (¬ (σ.2.1 5) = 0 ∧ ((0 ≤ (wr ((wr (x1 * 3)) + x2)) ∧ (wr ((wr (x1 * 3)) + x2)) < 240) ∧ j3_tc false d 92 [wO 6 83, wI (σ.2.2 3016 (σ.2.1 5) (wr ((wr (x1 * 3)) + x2)))] σ (fun r σ1 => T91 d Q 35 [wO 6 83, wI x1, wI x2] (r.toList ++ []) σ1))) else Q none σ))) := j3_T.go d [0, 15, 17, 35] 400
set_option maxRecDepth 100000 in
theorem b91_35 {d : Nat} {Q : j3_P} {σ : j3_S} {x1 : Int} {x2 : Int} :
  T91 d Q 35 [wO 6 83, wI x1, wI x2] [] σ = T91 d Q 17 [wO 6 83, wI x1, wI (wr (x2 + 1))] [] σ := j3_T.go d [0, 15, 17, 35] 400
def T92 (d : Nat) (Q : j3_P) : j3_K := j3_T false (j3_tc false d) jc_X6_markType none Q
theorem e92 {d : Nat} {Q : j3_P} {σ : j3_S} {x1 : Int} : j3_tc false (d + 1) 92 [wO 6 83, wI x1] σ Q = T92 d Q 0 [wO 6 83, wI x1] [] σ := j3_entry ⟨Nat.le_of_ble_eq_true rfl, rfl⟩
set_option maxRecDepth 100000 in
theorem b92_0 {d : Nat} {Q : j3_P} {σ : j3_S} {x1 : Int} :
  T92 d Q 0 [wO 6 83, wI x1] [] σ = (if 0 < x1 then ((0 ≤ (wr (x1 - 1)) ∧ (wr (x1 - 1)) < 10) ∧ Q none (σ.1, σ.2.1, (j3_ast σ.2.2 6000 83 (wr (x1 - 1)) 0))) else Q none σ) := j3_T.go d [0] 400
def T93 (d : Nat) (Q : j3_P) : j3_K := j3_T false (j3_tc false d) jc_X6_number none Q
theorem e93 {d : Nat} {Q : j3_P} {σ : j3_S}  : j3_tc false (d + 1) 93 [wO 6 83] σ Q = T93 d Q 0 [wO 6 83, wM 2, wM 2, wM 2, wM 2, wM 2] [] σ := j3_entry ⟨Nat.le_of_ble_eq_true rfl, rfl⟩
set_option maxRecDepth 100000 in
theorem b93_0 {d : Nat} {Q : j3_P} {σ : j3_S}  :
  T93 d Q 0 [wO 6 83, wM 2, wM 2, wM 2, wM 2, wM 2] [] σ = T93 d Q 6 [wO 6 83, wI 0, wI 0, wI 0, wM 2, wM 2] [] σ := j3_T.go d [0, 6, 22, 28, 50, 56, 72] 400
set_option maxRecDepth 100000 in
theorem b93_6 {d : Nat} {Q : j3_P} {σ : j3_S} {x1 : Int} {x2 : Int} {x3 : Int} {w4 : j3_W} {w5 : j3_W} :
  T93 d Q 6 [wO 6 83, wI x1, wI x2, wI x3, w4, w5] [] σ = (¬ (σ.2.1 5) = 0 ∧ (if x3 < (σ.1 3000 (σ.2.1 5)) then ((0 ≤ x3 ∧ x3 < 10) ∧ (if (σ.2.2 6000 83 x3) = 0 then ((0 ≤ x3 ∧ x3 < 10) ∧ T93 d Q 22 [wO 6 83, wI (wr (x1 + 1)), wI x2, wI x3, w4, w5] [] (σ.1, σ.2.1, (j3_ast σ.2.2 6000 83 x3 x1))) else T93 d Q 22 [wO 6 83, wI x1, wI x2, wI x3, w4, w5] [] σ)) else T93 d Q 56 [wO 6 83, wI x1, wI x2, wI 0, w4, w5] [] σ)) := j3_T.go d [0, 6, 22, 28, 50, 56, 72] 400
set_option maxRecDepth 100000 in
theorem b93_22 {d : Nat} {Q : j3_P} {σ : j3_S} {x1 : Int} {x2 : Int} {x3 : Int} {w4 : j3_W} {w5 : j3_W} :
  T93 d Q 22 [wO 6 83, wI x1, wI x2, wI x3, w4, w5] [] σ = T93 d Q 28 [wO 6 83, wI x1, wI x2, wI x3, wI 0, wI (wr (x3 * 6))] [] σ := j3_T.go d [0, 6, 22, 28, 50, 56, 72] 400
set_option maxRecDepth 100000 in
theorem b93_28 {d : Nat} {Q : j3_P} {σ : j3_S} {x1 : Int} {x2 : Int} {x3 : Int} {x4 : Int} {x5 : Int} :
  T93 d Q 28 [wO 6 83, wI x1, wI x2, wI x3, wI x4, wI x5] [] σ = (¬ (σ.2.1 5) = 0 ∧ ((0 ≤ x3 ∧ x3 < 10) ∧ (if x5 < (wr ((wr (x3 * 6)) + (σ.2.2 3005 (σ.2.1 5) x3))) then ((0 ≤ x5 ∧ x5 < 60) ∧ (if (σ.2.2 6001 83 x5) = 0 then ((0 ≤ x5 ∧ x5 < 60) ∧ T93 d Q 50 [wO 6 83, wI x1, wI x2, wI x3, wI (wr (x4 + 1)), wI x5] [] (σ.1, σ.2.1, (j3_ast σ.2.2 6001 83 x5 x4))) else T93 d Q 50 [wO 6 83, wI x1, wI x2, wI x3, wI x4, wI x5] [] σ)) else T93 d Q 6 [wO 6 83, wI x1, wI x2, wI (wr (x3 + 1)), wI x4, wI x5] [] σ))) := j3_T.go d [0, 6, 22, 28, 50, 56, 72] 400
set_option maxRecDepth 100000 in
theorem b93_50 {d : Nat} {Q : j3_P} {σ : j3_S} {x1 : Int} {x2 : Int} {x3 : Int} {x4 : Int} {x5 : Int} :
  T93 d Q 50 [wO 6 83, wI x1, wI x2, wI x3, wI x4, wI x5] [] σ = T93 d Q 28 [wO 6 83, wI x1, wI x2, wI x3, wI x4, wI (wr (x5 + 1))] [] σ := j3_T.go d [0, 6, 22, 28, 50, 56, 72] 400
set_option maxRecDepth 100000 in
theorem b93_56 {d : Nat} {Q : j3_P} {σ : j3_S} {x1 : Int} {x2 : Int} {x3 : Int} {w4 : j3_W} {w5 : j3_W} :
  T93 d Q 56 [wO 6 83, wI x1, wI x2, wI x3, w4, w5] [] σ = (¬ (σ.2.1 5) = 0 ∧ (if x3 < (σ.1 3001 (σ.2.1 5)) then ((0 ≤ x3 ∧ x3 < 80) ∧ (if (σ.2.2 6002 83 x3) = 0 then ((0 ≤ x3 ∧ x3 < 80) ∧ T93 d Q 72 [wO 6 83, wI x1, wI (wr (x2 + 1)), wI x3, w4, w5] [] (σ.1, σ.2.1, (j3_ast σ.2.2 6002 83 x3 x2))) else T93 d Q 72 [wO 6 83, wI x1, wI x2, wI x3, w4, w5] [] σ)) else (¬ (σ.2.1 6) = 0 ∧ (¬ (σ.2.1 6) = 0 ∧ Q none ((j3_up (j3_up σ.1 3000 (σ.2.1 6) x1) 3001 (σ.2.1 6) x2), σ.2.1, σ.2.2))))) := j3_T.go d [0, 6, 22, 28, 50, 56, 72] 400
set_option maxRecDepth 100000 in
theorem b93_72 {d : Nat} {Q : j3_P} {σ : j3_S} {x1 : Int} {x2 : Int} {x3 : Int} {w4 : j3_W} {w5 : j3_W} :
  T93 d Q 72 [wO 6 83, wI x1, wI x2, wI x3, w4, w5] [] σ = T93 d Q 56 [wO 6 83, wI x1, wI x2, wI (wr (x3 + 1)), w4, w5] [] σ := j3_T.go d [0, 6, 22, 28, 50, 56, 72] 400
def T94 (d : Nat) (Q : j3_P) : j3_K := j3_T false (j3_tc false d) jc_X6_nameMethods none Q
theorem e94 {d : Nat} {Q : j3_P} {σ : j3_S}  : j3_tc false (d + 1) 94 [wO 6 83] σ Q = T94 d Q 0 [wO 6 83, wM 2, wM 2] [] σ := j3_entry ⟨Nat.le_of_ble_eq_true rfl, rfl⟩
set_option maxRecDepth 100000 in
theorem b94_0 {d : Nat} {Q : j3_P} {σ : j3_S}  :
  T94 d Q 0 [wO 6 83, wM 2, wM 2] [] σ = T94 d Q 2 [wO 6 83, wI 0, wM 2] [] σ := j3_T.go d [0, 2, 16, 26, 31, 32] 400
set_option maxRecDepth 100000 in
theorem b94_2 {d : Nat} {Q : j3_P} {σ : j3_S} {x1 : Int} {w2 : j3_W} :
  T94 d Q 2 [wO 6 83, wI x1, w2] [] σ = (¬ (σ.2.1 5) = 0 ∧ (if x1 < (σ.1 3001 (σ.2.1 5)) then ((0 ≤ x1 ∧ x1 < 80) ∧ (if (σ.2.2 6002 83 x1) = (-1 : Int) then T94 d Q 32 [wO 6 83, wI x1, w2] [] σ else j3_tc false d 95 [wO 6 83, wI x1] σ (fun r σ1 => T94 d Q 16 [wO 6 83, wI x1, w2] (r.toList ++ []) σ1))) else Q none σ)) := j3_T.go d [0, 2, 16, 26, 31, 32] 400
set_option maxRecDepth 100000 in
theorem b94_16 {d : Nat} {Q : j3_P} {σ : j3_S} {x1 : Int} {w2 : j3_W} {xs0 : Int} :
  T94 d Q 16 [wO 6 83, wI x1, w2] [wI xs0] σ = (if xs0 = (-1 : Int) then j3_tc false d 96 [wO 6 83, wI x1] σ (fun r σ1 => T94 d Q 26 [wO 6 83, wI x1, wI xs0] (r.toList ++ [wI x1, wA 6011 83]) σ1) else ((0 ≤ xs0 ∧ xs0 < 80) ∧ T94 d Q 31 [wO 6 83, wI x1, wI xs0] [wI (σ.2.2 6011 83 xs0), wI x1, wA 6011 83] σ)) := j3_T.go d [0, 2, 16, 26, 31, 32] 400
set_option maxRecDepth 100000 in
theorem b94_26 {d : Nat} {Q : j3_P} {σ : j3_S} {x1 : Int} {x2 : Int} {xs0 : Int} {xs1 : Int} :
  T94 d Q 26 [wO 6 83, wI x1, wI x2] [wI xs0, wI xs1, wA 6011 83] σ = T94 d Q 31 [wO 6 83, wI x1, wI x2] [wI xs0, wI xs1, wA 6011 83] σ := j3_T.go d [0, 2, 16, 26, 31, 32] 400
set_option maxRecDepth 100000 in
theorem b94_31 {d : Nat} {Q : j3_P} {σ : j3_S} {x1 : Int} {x2 : Int} {xs0 : Int} {xs1 : Int} :
  T94 d Q 31 [wO 6 83, wI x1, wI x2] [wI xs0, wI xs1, wA 6011 83] σ = ((0 ≤ xs1 ∧ xs1 < 80) ∧ T94 d Q 32 [wO 6 83, wI x1, wI x2] [] (σ.1, σ.2.1, (j3_ast σ.2.2 6011 83 xs1 xs0))) := j3_T.go d [0, 2, 16, 26, 31, 32] 400
set_option maxRecDepth 100000 in
theorem b94_32 {d : Nat} {Q : j3_P} {σ : j3_S} {x1 : Int} {w2 : j3_W} :
  T94 d Q 32 [wO 6 83, wI x1, w2] [] σ = T94 d Q 2 [wO 6 83, wI (wr (x1 + 1)), w2] [] σ := j3_T.go d [0, 2, 16, 26, 31, 32] 400
def T95 (d : Nat) (Q : j3_P) : j3_K := j3_T false (j3_tc false d) jc_X6_nearestAbove (some .int) Q
theorem e95 {d : Nat} {Q : j3_P} {σ : j3_S} {x1 : Int} : j3_tc false (d + 1) 95 [wO 6 83, wI x1] σ Q = T95 d Q 0 [wO 6 83, wI x1, wM 2, wM 2, wM 2] [] σ := j3_entry ⟨Nat.le_of_ble_eq_true rfl, rfl⟩
set_option maxRecDepth 100000 in
theorem b95_0 {d : Nat} {Q : j3_P} {σ : j3_S} {x1 : Int} :
  T95 d Q 0 [wO 6 83, wI x1, wM 2, wM 2, wM 2] [] σ = (¬ (σ.2.1 5) = 0 ∧ (¬ (σ.2.1 5) = 0 ∧ ((0 ≤ x1 ∧ x1 < 80) ∧ ((0 ≤ (σ.2.2 3011 (σ.2.1 5) x1) ∧ (σ.2.2 3011 (σ.2.1 5) x1) < 10) ∧ T95 d Q 12 [wO 6 83, wI x1, wI (σ.2.2 3003 (σ.2.1 5) (σ.2.2 3011 (σ.2.1 5) x1)), wI 0, wM 2] [] σ)))) := j3_T.go d [0, 12, 26, 38] 400
set_option maxRecDepth 100000 in
theorem b95_12 {d : Nat} {Q : j3_P} {σ : j3_S} {x1 : Int} {x2 : Int} {x3 : Int} {w4 : j3_W} :
  T95 d Q 12 [wO 6 83, wI x1, wI x2, wI x3, w4] [] σ = (if x3 < (10 : Int) then (if x2 < 0 then Q (some (wI (-1))) σ else (¬ (σ.2.1 5) = 0 ∧ (¬ (σ.2.1 5) = 0 ∧ ((0 ≤ x1 ∧ x1 < 80) ∧ j3_tc false d 50 [wO 3 (σ.2.1 5), wI x2, wI (σ.2.2 3012 (σ.2.1 5) x1)] σ (fun r σ1 => T95 d Q 26 [wO 6 83, wI x1, wI x2, wI x3, w4] (r.toList ++ []) σ1))))) else Q (some (wI (-1))) σ) := j3_T.go d [0, 12, 26, 38] 400
set_option maxRecDepth 100000 in
theorem b95_26 {d : Nat} {Q : j3_P} {σ : j3_S} {x1 : Int} {x2 : Int} {x3 : Int} {w4 : j3_W} {xs0 : Int} :
  T95 d Q 26 [wO 6 83, wI x1, wI x2, wI x3, w4] [wI xs0] σ = (if xs0 = (-1 : Int) then T95 d Q 38 [wO 6 83, wI x1, wI x2, wI x3, wI xs0] [] σ else ((0 ≤ xs0 ∧ xs0 < 80) ∧ (if (σ.2.2 6002 83 xs0) = (-1 : Int) then T95 d Q 38 [wO 6 83, wI x1, wI x2, wI x3, wI xs0] [] σ else Q (some (wI xs0)) σ))) := j3_T.go d [0, 12, 26, 38] 400
set_option maxRecDepth 100000 in
theorem b95_38 {d : Nat} {Q : j3_P} {σ : j3_S} {x1 : Int} {x2 : Int} {x3 : Int} {x4 : Int} :
  T95 d Q 38 [wO 6 83, wI x1, wI x2, wI x3, wI x4] [] σ = (¬ (σ.2.1 5) = 0 ∧ ((0 ≤ x2 ∧ x2 < 10) ∧ T95 d Q 12 [wO 6 83, wI x1, wI (σ.2.2 3003 (σ.2.1 5) x2), wI (wr (x3 + 1)), wI x4] [] σ)) := j3_T.go d [0, 12, 26, 38] 400
def T96 (d : Nat) (Q : j3_P) : j3_K := j3_T false (j3_tc false d) jc_X6_leastFree (some .int) Q
theorem e96 {d : Nat} {Q : j3_P} {σ : j3_S} {x1 : Int} : j3_tc false (d + 1) 96 [wO 6 83, wI x1] σ Q = T96 d Q 0 [wO 6 83, wI x1, wM 2, wM 2] [] σ := j3_entry ⟨Nat.le_of_ble_eq_true rfl, rfl⟩
set_option maxRecDepth 100000 in
theorem b96_0 {d : Nat} {Q : j3_P} {σ : j3_S} {x1 : Int} :
  T96 d Q 0 [wO 6 83, wI x1, wM 2, wM 2] [] σ = T96 d Q 4 [wO 6 83, wI x1, wI 1, wI 0] [] σ := j3_T.go d [0, 4, 11] 400
set_option maxRecDepth 100000 in
theorem b96_4 {d : Nat} {Q : j3_P} {σ : j3_S} {x1 : Int} {x2 : Int} {x3 : Int} :
  T96 d Q 4 [wO 6 83, wI x1, wI x2, wI x3] [] σ = (if x3 < (80 : Int) then j3_tc false d 97 [wO 6 83, wI x1, wI x2] σ (fun r σ1 => T96 d Q 11 [wO 6 83, wI x1, wI x2, wI x3] (r.toList ++ []) σ1) else Q (some (wI x2)) σ) := j3_T.go d [0, 4, 11] 400
set_option maxRecDepth 100000 in
theorem b96_11 {d : Nat} {Q : j3_P} {σ : j3_S} {x1 : Int} {x2 : Int} {x3 : Int} {xs0 : Int} :
  T96 d Q 11 [wO 6 83, wI x1, wI x2, wI x3] [wI xs0] σ = (if xs0 = 0 then Q (some (wI x2)) σ else T96 d Q 4 [wO 6 83, wI x1, wI (wr (x2 + 1)), wI (wr (x3 + 1))] [] σ) := j3_T.go d [0, 4, 11] 400
def T97 (d : Nat) (Q : j3_P) : j3_K := j3_T false (j3_tc false d) jc_X6_isTaken (some .boolean) Q
theorem e97 {d : Nat} {Q : j3_P} {σ : j3_S} {x1 : Int} {x2 : Int} : j3_tc false (d + 1) 97 [wO 6 83, wI x1, wI x2] σ Q = T97 d Q 0 [wO 6 83, wI x1, wI x2, wM 2] [] σ := j3_entry ⟨Nat.le_of_ble_eq_true rfl, rfl⟩
set_option maxRecDepth 100000 in
theorem b97_0 {d : Nat} {Q : j3_P} {σ : j3_S} {x1 : Int} {x2 : Int} :
  T97 d Q 0 [wO 6 83, wI x1, wI x2, wM 2] [] σ = T97 d Q 2 [wO 6 83, wI x1, wI x2, wI 0] [] σ := j3_T.go d [0, 2, 30, 33] 400
set_option maxRecDepth 100000 in
theorem b97_2 {d : Nat} {Q : j3_P} {σ : j3_S} {x1 : Int} {x2 : Int} {x3 : Int} :
  T97 d Q 2 [wO 6 83, wI x1, wI x2, wI x3] [] σ = (if x3 < x1 then ((0 ≤ x3 ∧ x3 < 80) ∧ (if (σ.2.2 6002 83 x3) = (-1 : Int) then T97 d Q 33 [wO 6 83, wI x1, wI x2, wI x3] [] σ else ((0 ≤ x3 ∧ x3 < 80) ∧ (if (σ.2.2 6011 83 x3) = x2 then (¬ (σ.2.1 5) = 0 ∧ (¬ (σ.2.1 5) = 0 ∧ ((0 ≤ x3 ∧ x3 < 80) ∧ (¬ (σ.2.1 5) = 0 ∧ ((0 ≤ x1 ∧ x1 < 80) ∧ j3_tc false d 48 [wO 3 (σ.2.1 5), wI (σ.2.2 3011 (σ.2.1 5) x3), wI (σ.2.2 3011 (σ.2.1 5) x1)] σ (fun r σ1 => T97 d Q 30 [wO 6 83, wI x1, wI x2, wI x3] (r.toList ++ []) σ1)))))) else T97 d Q 33 [wO 6 83, wI x1, wI x2, wI x3] [] σ)))) else (((0 : Int) = 0 ∨ (0 : Int) = 1) ∧ Q (some (wI 0)) σ)) := j3_T.go d [0, 2, 30, 33] 400
set_option maxRecDepth 100000 in
theorem b97_30 {d : Nat} {Q : j3_P} {σ : j3_S} {x1 : Int} {x2 : Int} {x3 : Int} {xs0 : Int} :
  T97 d Q 30 [wO 6 83, wI x1, wI x2, wI x3] [wI xs0] σ = (if xs0 = 0 then T97 d Q 33 [wO 6 83, wI x1, wI x2, wI x3] [] σ else (((1 : Int) = 0 ∨ (1 : Int) = 1) ∧ Q (some (wI 1)) σ)) := j3_T.go d [0, 2, 30, 33] 400
set_option maxRecDepth 100000 in
theorem b97_33 {d : Nat} {Q : j3_P} {σ : j3_S} {x1 : Int} {x2 : Int} {x3 : Int} :
  T97 d Q 33 [wO 6 83, wI x1, wI x2, wI x3] [] σ = T97 d Q 2 [wO 6 83, wI x1, wI x2, wI (wr (x3 + 1))] [] σ := j3_T.go d [0, 2, 30, 33] 400
def T98 (d : Nat) (Q : j3_P) : j3_K := j3_T false (j3_tc false d) jc_X6_writeClasses none Q
theorem e98 {d : Nat} {Q : j3_P} {σ : j3_S}  : j3_tc false (d + 1) 98 [wO 6 83] σ Q = T98 d Q 0 [wO 6 83, wM 2, wM 2, wM 2, wM 2, wM 2] [] σ := j3_entry ⟨Nat.le_of_ble_eq_true rfl, rfl⟩
set_option maxRecDepth 100000 in
theorem b98_0 {d : Nat} {Q : j3_P} {σ : j3_S}  :
  T98 d Q 0 [wO 6 83, wM 2, wM 2, wM 2, wM 2, wM 2] [] σ = T98 d Q 4 [wO 6 83, wI 0, wI 0, wM 2, wM 2, wM 2] [] σ := j3_T.go d [0, 4, 44, 63, 72, 101, 102, 116] 400
set_option maxRecDepth 100000 in
theorem b98_4 {d : Nat} {Q : j3_P} {σ : j3_S} {x1 : Int} {x2 : Int} {w3 : j3_W} {w4 : j3_W} {w5 : j3_W} :
  T98 d Q 4 [wO 6 83, wI x1, wI x2, w3, w4, w5] [] σ = (¬ (σ.2.1 5) = 0 ∧ (if x2 < (σ.1 3000 (σ.2.1 5)) then ((0 ≤ x2 ∧ x2 < 10) ∧ (if (σ.2.2 6000 83 x2) = (-1 : Int) then T98 d Q 116 [wO 6 83, wI x1, wI x2, wI (σ.2.2 6000 83 x2), w4, w5] [] σ else (¬ (σ.2.1 5) = 0 ∧ ((0 ≤ x2 ∧ x2 < 10) ∧ (¬ (σ.2.1 6) = 0 ∧ ((0 ≤ (σ.2.2 6000 83 x2) ∧ (σ.2.2 6000 83 x2) < 10) ∧ (¬ (σ.2.1 6) = 0 ∧ (if (σ.2.2 3003 (σ.2.1 5) x2) < 0 then T98 d Q 44 [wO 6 83, wI x1, wI x2, wI (σ.2.2 6000 83 x2), wI (σ.2.2 3003 (σ.2.1 5) x2), w5] [wI (-1), wI (σ.2.2 6000 83 x2), wA 3003 (σ.2.1 6)] (σ.1, σ.2.1, (j3_ast σ.2.2 3002 (σ.2.1 6) (σ.2.2 6000 83 x2) (wr ((σ.2.2 6000 83 x2) + 1)))) else ((0 ≤ (σ.2.2 3003 (σ.2.1 5) x2) ∧ (σ.2.2 3003 (σ.2.1 5) x2) < 10) ∧ T98 d Q 44 [wO 6 83, wI x1, wI x2, wI (σ.2.2 6000 83 x2), wI (σ.2.2 3003 (σ.2.1 5) x2), w5] [wI (σ.2.2 6000 83 (σ.2.2 3003 (σ.2.1 5) x2)), wI (σ.2.2 6000 83 x2), wA 3003 (σ.2.1 6)] (σ.1, σ.2.1, (j3_ast σ.2.2 3002 (σ.2.1 6) (σ.2.2 6000 83 x2) (wr ((σ.2.2 6000 83 x2) + 1))))))))))))) else Q none σ)) := j3_T.go d [0, 4, 44, 63, 72, 101, 102, 116] 400
set_option maxRecDepth 100000 in
theorem b98_44 {d : Nat} {Q : j3_P} {σ : j3_S} {x1 : Int} {x2 : Int} {x3 : Int} {x4 : Int} {w5 : j3_W} {xs0 : Int} {xs1 : Int} {os2 : Nat} :
  T98 d Q 44 [wO 6 83, wI x1, wI x2, wI x3, wI x4, w5] [wI xs0, wI xs1, wA 3003 os2] σ = ((0 ≤ xs1 ∧ xs1 < 10) ∧ (¬ (σ.2.1 6) = 0 ∧ (¬ (σ.2.1 5) = 0 ∧ ((0 ≤ x2 ∧ x2 < 10) ∧ ((0 ≤ x3 ∧ x3 < 10) ∧ (¬ (σ.2.1 6) = 0 ∧ j3_tc false d 99 [wO 6 83, wI x2, wI x3] (σ.1, σ.2.1, (j3_ast (j3_ast σ.2.2 3003 os2 xs1 xs0) 3004 (σ.2.1 6) x3 (σ.2.2 3004 (σ.2.1 5) x2))) (fun r σ1 => T98 d Q 63 [wO 6 83, wI x1, wI x2, wI x3, wI x4, w5] (r.toList ++ [wI x3, wA 3005 (σ.2.1 6)]) σ1))))))) := j3_T.go d [0, 4, 44, 63, 72, 101, 102, 116] 400
set_option maxRecDepth 100000 in
theorem b98_63 {d : Nat} {Q : j3_P} {σ : j3_S} {x1 : Int} {x2 : Int} {x3 : Int} {x4 : Int} {w5 : j3_W} {xs0 : Int} {xs1 : Int} {os2 : Nat} :
  T98 d Q 63 [wO 6 83, wI x1, wI x2, wI x3, wI x4, w5] [wI xs0, wI xs1, wA 3005 os2] σ = ((0 ≤ xs1 ∧ xs1 < 10) ∧ (¬ (σ.2.1 6) = 0 ∧ ((0 ≤ x3 ∧ x3 < 10) ∧ T98 d Q 72 [wO 6 83, wI x1, wI x2, wI x3, wI x4, wI 0] [] (σ.1, σ.2.1, (j3_ast (j3_ast σ.2.2 3005 os2 xs1 xs0) 3007 (σ.2.1 6) x3 x1))))) := j3_T.go d [0, 4, 44, 63, 72, 101, 102, 116] 400
set_option maxRecDepth 100000 in
theorem b98_72 {d : Nat} {Q : j3_P} {σ : j3_S} {x1 : Int} {x2 : Int} {x3 : Int} {x4 : Int} {x5 : Int} :
  T98 d Q 72 [wO 6 83, wI x1, wI x2, wI x3, wI x4, wI x5] [] σ = (¬ (σ.2.1 5) = 0 ∧ ((0 ≤ x2 ∧ x2 < 10) ∧ (if x5 < (σ.2.2 3006 (σ.2.1 5) x2) then (¬ (σ.2.1 5) = 0 ∧ ((0 ≤ x2 ∧ x2 < 10) ∧ ((0 ≤ (wr ((σ.2.2 3007 (σ.2.1 5) x2) + x5)) ∧ (wr ((σ.2.2 3007 (σ.2.1 5) x2) + x5)) < 80) ∧ (if (σ.2.2 6002 83 (wr ((σ.2.2 3007 (σ.2.1 5) x2) + x5))) = (-1 : Int) then T98 d Q 102 [wO 6 83, wI x1, wI x2, wI x3, wI x4, wI x5] [] σ else (¬ (σ.2.1 5) = 0 ∧ ((0 ≤ x2 ∧ x2 < 10) ∧ j3_tc false d 101 [wO 6 83, wI (wr ((σ.2.2 3007 (σ.2.1 5) x2) + x5)), wI x3] σ (fun r σ1 => T98 d Q 101 [wO 6 83, wI x1, wI x2, wI x3, wI x4, wI x5] (r.toList ++ []) σ1))))))) else (¬ (σ.2.1 6) = 0 ∧ (¬ (σ.2.1 6) = 0 ∧ ((0 ≤ x3 ∧ x3 < 10) ∧ ((0 ≤ x3 ∧ x3 < 10) ∧ T98 d Q 116 [wO 6 83, wI x1, wI x2, wI x3, wI x4, wI x5] [] (σ.1, σ.2.1, (j3_ast σ.2.2 3006 (σ.2.1 6) x3 (wr (x1 - (σ.2.2 3007 (σ.2.1 6) x3)))))))))))) := j3_T.go d [0, 4, 44, 63, 72, 101, 102, 116] 400
set_option maxRecDepth 100000 in
theorem b98_101 {d : Nat} {Q : j3_P} {σ : j3_S} {x1 : Int} {x2 : Int} {x3 : Int} {x4 : Int} {x5 : Int} :
  T98 d Q 101 [wO 6 83, wI x1, wI x2, wI x3, wI x4, wI x5] [] σ = T98 d Q 102 [wO 6 83, wI (wr (x1 + 1)), wI x2, wI x3, wI x4, wI x5] [] σ := j3_T.go d [0, 4, 44, 63, 72, 101, 102, 116] 400
set_option maxRecDepth 100000 in
theorem b98_102 {d : Nat} {Q : j3_P} {σ : j3_S} {x1 : Int} {x2 : Int} {x3 : Int} {x4 : Int} {x5 : Int} :
  T98 d Q 102 [wO 6 83, wI x1, wI x2, wI x3, wI x4, wI x5] [] σ = T98 d Q 72 [wO 6 83, wI x1, wI x2, wI x3, wI x4, wI (wr (x5 + 1))] [] σ := j3_T.go d [0, 4, 44, 63, 72, 101, 102, 116] 400
set_option maxRecDepth 100000 in
theorem b98_116 {d : Nat} {Q : j3_P} {σ : j3_S} {x1 : Int} {x2 : Int} {x3 : Int} {w4 : j3_W} {w5 : j3_W} :
  T98 d Q 116 [wO 6 83, wI x1, wI x2, wI x3, w4, w5] [] σ = T98 d Q 4 [wO 6 83, wI x1, wI (wr (x2 + 1)), wI x3, w4, w5] [] σ := j3_T.go d [0, 4, 44, 63, 72, 101, 102, 116] 400
def T99 (d : Nat) (Q : j3_P) : j3_K := j3_T false (j3_tc false d) jc_X6_writeFields (some .int) Q
theorem e99 {d : Nat} {Q : j3_P} {σ : j3_S} {x1 : Int} {x2 : Int} : j3_tc false (d + 1) 99 [wO 6 83, wI x1, wI x2] σ Q = T99 d Q 0 [wO 6 83, wI x1, wI x2, wM 2, wM 2, wM 2, wM 2] [] σ := j3_entry ⟨Nat.le_of_ble_eq_true rfl, rfl⟩
set_option maxRecDepth 100000 in
theorem b99_0 {d : Nat} {Q : j3_P} {σ : j3_S} {x1 : Int} {x2 : Int} :
  T99 d Q 0 [wO 6 83, wI x1, wI x2, wM 2, wM 2, wM 2, wM 2] [] σ = T99 d Q 4 [wO 6 83, wI x1, wI x2, wI 0, wI 0, wM 2, wM 2] [] σ := j3_T.go d [0, 4, 54, 66] 400
set_option maxRecDepth 100000 in
theorem b99_4 {d : Nat} {Q : j3_P} {σ : j3_S} {x1 : Int} {x2 : Int} {x3 : Int} {x4 : Int} {w5 : j3_W} {w6 : j3_W} :
  T99 d Q 4 [wO 6 83, wI x1, wI x2, wI x3, wI x4, w5, w6] [] σ = (¬ (σ.2.1 5) = 0 ∧ ((0 ≤ x1 ∧ x1 < 10) ∧ (if x4 < (σ.2.2 3005 (σ.2.1 5) x1) then ((0 ≤ (wr ((wr (x1 * 6)) + x4)) ∧ (wr ((wr (x1 * 6)) + x4)) < 60) ∧ (if (σ.2.2 6001 83 (wr ((wr (x1 * 6)) + x4))) = (-1 : Int) then T99 d Q 66 [wO 6 83, wI x1, wI x2, wI x3, wI x4, wI (wr ((wr (x1 * 6)) + x4)), w6] [] σ else ((0 ≤ (wr ((wr (x1 * 6)) + x4)) ∧ (wr ((wr (x1 * 6)) + x4)) < 60) ∧ (¬ (σ.2.1 6) = 0 ∧ ((0 ≤ (wr ((wr (x1 * 6)) + x4)) ∧ (wr ((wr (x1 * 6)) + x4)) < 60) ∧ ((0 ≤ (wr ((wr (x2 * 6)) + (σ.2.2 6001 83 (wr ((wr (x1 * 6)) + x4))))) ∧ (wr ((wr (x2 * 6)) + (σ.2.2 6001 83 (wr ((wr (x1 * 6)) + x4))))) < 60) ∧ (¬ (σ.2.1 6) = 0 ∧ (¬ (σ.2.1 5) = 0 ∧ ((0 ≤ (wr ((wr (x1 * 6)) + x4)) ∧ (wr ((wr (x1 * 6)) + x4)) < 60) ∧ j3_tc false d 100 [wO 6 83, wI (σ.2.2 3009 (σ.2.1 5) (wr ((wr (x1 * 6)) + x4)))] (σ.1, σ.2.1, (j3_ast σ.2.2 3008 (σ.2.1 6) (wr ((wr (x2 * 6)) + (σ.2.2 6001 83 (wr ((wr (x1 * 6)) + x4))))) (wr ((σ.2.2 6001 83 (wr ((wr (x1 * 6)) + x4))) + 1)))) (fun r σ1 => T99 d Q 54 [wO 6 83, wI x1, wI x2, wI x3, wI x4, wI (wr ((wr (x1 * 6)) + x4)), wI (wr ((wr (x2 * 6)) + (σ.2.2 6001 83 (wr ((wr (x1 * 6)) + x4)))))] (r.toList ++ [wI (wr ((wr (x2 * 6)) + (σ.2.2 6001 83 (wr ((wr (x1 * 6)) + x4))))), wA 3009 (σ.2.1 6)]) σ1)))))))))) else Q (some (wI x3)) σ))) := j3_T.go d [0, 4, 54, 66] 400
set_option maxRecDepth 100000 in
theorem b99_54 {d : Nat} {Q : j3_P} {σ : j3_S} {x1 : Int} {x2 : Int} {x3 : Int} {x4 : Int} {x5 : Int} {x6 : Int} {xs0 : Int} {xs1 : Int} {os2 : Nat} :
  T99 d Q 54 [wO 6 83, wI x1, wI x2, wI x3, wI x4, wI x5, wI x6] [wI xs0, wI xs1, wA 3009 os2] σ = ((0 ≤ xs1 ∧ xs1 < 60) ∧ (¬ (σ.2.1 6) = 0 ∧ (¬ (σ.2.1 5) = 0 ∧ ((0 ≤ x5 ∧ x5 < 60) ∧ ((0 ≤ x6 ∧ x6 < 60) ∧ T99 d Q 66 [wO 6 83, wI x1, wI x2, wI (wr (x3 + 1)), wI x4, wI x5, wI x6] [] (σ.1, σ.2.1, (j3_ast (j3_ast σ.2.2 3009 os2 xs1 xs0) 3010 (σ.2.1 6) x6 (σ.2.2 3010 (σ.2.1 5) x5)))))))) := j3_T.go d [0, 4, 54, 66] 400
set_option maxRecDepth 100000 in
theorem b99_66 {d : Nat} {Q : j3_P} {σ : j3_S} {x1 : Int} {x2 : Int} {x3 : Int} {x4 : Int} {x5 : Int} {w6 : j3_W} :
  T99 d Q 66 [wO 6 83, wI x1, wI x2, wI x3, wI x4, wI x5, w6] [] σ = T99 d Q 4 [wO 6 83, wI x1, wI x2, wI x3, wI (wr (x4 + 1)), wI x5, w6] [] σ := j3_T.go d [0, 4, 54, 66] 400
