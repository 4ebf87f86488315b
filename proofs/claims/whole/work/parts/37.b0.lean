def T2 (d : Nat) (Q : j3_P) : j3_K := j3_T false (j3_tc false d) jc_X1_check (some .int) Q
theorem e2 {d : Nat} {Q : j3_P} {σ : j3_S} {o1 : Nat} {x2 : Int} : j3_tc false (d + 1) 2 [wO 1 76, wO 3 o1, wI x2] σ Q = T2 d Q 0 [wO 1 76, wO 3 o1, wI x2, wM 2, wM 2, wM 2] [] σ := j3_entry ⟨Nat.le_of_ble_eq_true rfl, rfl⟩
set_option maxRecDepth 100000 in
theorem b2_0 {d : Nat} {Q : j3_P} {σ : j3_S} {o1 : Nat} {x2 : Int} :
  T2 d Q 0 [wO 1 76, wO 3 o1, wI x2, wM 2, wM 2, wM 2] [] σ = j3_tc false d 5 [wO 1 76] ((j3_up (j3_up (j3_up σ.1 1003 76 x2) 1001 76 0) 1000 76 (-1)), (j3_upP σ.2.1 0 o1), σ.2.2) (fun r σ1 => T2 d Q 14 [wO 1 76, wO 3 o1, wI x2, wM 2, wM 2, wM 2] (r.toList ++ []) σ1) := j3_T.go d [0, 14, 18, 28, 52, 53, 55, 63, 64, 67] 400
set_option maxRecDepth 100000 in
theorem b2_14 {d : Nat} {Q : j3_P} {σ : j3_S} {o1 : Nat} {x2 : Int} :
  T2 d Q 14 [wO 1 76, wO 3 o1, wI x2, wM 2, wM 2, wM 2] [] σ = T2 d Q 18 [wO 1 76, wO 3 o1, wI x2, wI 1, wI 0, wM 2] [] σ := j3_T.go d [0, 14, 18, 28, 52, 53, 55, 63, 64, 67] 400
set_option maxRecDepth 100000 in
theorem b2_18 {d : Nat} {Q : j3_P} {σ : j3_S} {o1 : Nat} {x2 : Int} {x3 : Int} {x4 : Int} {w5 : j3_W} :
  T2 d Q 18 [wO 1 76, wO 3 o1, wI x2, wI x3, wI x4, w5] [] σ = (if x4 < (1000000 : Int) then (if x3 = 0 then T2 d Q 67 [wO 1 76, wO 3 o1, wI x2, wI x3, wI x4, w5] [] σ else (((0 : Int) = 0 ∨ (0 : Int) = 1) ∧ T2 d Q 28 [wO 1 76, wO 3 o1, wI x2, wI x3, wI x4, wI 0] [] ((j3_up σ.1 1004 76 0), σ.2.1, σ.2.2))) else T2 d Q 67 [wO 1 76, wO 3 o1, wI x2, wI x3, wI x4, w5] [] σ) := j3_T.go d [0, 14, 18, 28, 52, 53, 55, 63, 64, 67] 400
set_option maxRecDepth 100000 in
theorem b2_28 {d : Nat} {Q : j3_P} {σ : j3_S} {o1 : Nat} {x2 : Int} {x3 : Int} {x4 : Int} {x5 : Int} :
  T2 d Q 28 [wO 1 76, wO 3 o1, wI x2, wI x3, wI x4, wI x5] [] σ = (¬ (σ.2.1 0) = 0 ∧ ((0 ≤ (σ.1 1003 76) ∧ (σ.1 1003 76) < 80) ∧ (if x5 < (σ.2.2 0 ((σ.2.1 0) + 17) (σ.1 1003 76)) then (if (σ.1 1001 76) = 0 then ((0 ≤ x5 ∧ x5 < 120) ∧ (if (σ.2.2 1005 76 x5) < 0 then T2 d Q 53 [wO 1 76, wO 3 o1, wI x2, wI x3, wI x4, wI x5] [] σ else j3_tc false d 6 [wO 1 76, wI x5] ((j3_up σ.1 1000 76 x5), σ.2.1, σ.2.2) (fun r σ1 => T2 d Q 52 [wO 1 76, wO 3 o1, wI x2, wI x3, wI x4, wI x5] (r.toList ++ [wO 1 76]) σ1))) else T2 d Q 55 [wO 1 76, wO 3 o1, wI x2, wI x3, wI x4, wI x5] [] σ) else T2 d Q 55 [wO 1 76, wO 3 o1, wI x2, wI x3, wI x4, wI x5] [] σ))) := j3_T.go d [0, 14, 18, 28, 52, 53, 55, 63, 64, 67] 400
set_option maxRecDepth 100000 in
theorem b2_52 {d : Nat} {Q : j3_P} {σ : j3_S} {o1 : Nat} {x2 : Int} {x3 : Int} {x4 : Int} {x5 : Int} {xs0 : Int} :
  T2 d Q 52 [wO 1 76, wO 3 o1, wI x2, wI x3, wI x4, wI x5] [wI xs0, wO 1 76] σ = T2 d Q 53 [wO 1 76, wO 3 o1, wI x2, wI x3, wI x4, wI x5] [] ((j3_up σ.1 1001 76 xs0), σ.2.1, σ.2.2) := j3_T.go d [0, 14, 18, 28, 52, 53, 55, 63, 64, 67] 400
set_option maxRecDepth 100000 in
theorem b2_53 {d : Nat} {Q : j3_P} {σ : j3_S} {o1 : Nat} {x2 : Int} {x3 : Int} {x4 : Int} {x5 : Int} :
  T2 d Q 53 [wO 1 76, wO 3 o1, wI x2, wI x3, wI x4, wI x5] [] σ = T2 d Q 28 [wO 1 76, wO 3 o1, wI x2, wI x3, wI x4, wI (wr (x5 + 1))] [] σ := j3_T.go d [0, 14, 18, 28, 52, 53, 55, 63, 64, 67] 400
set_option maxRecDepth 100000 in
theorem b2_55 {d : Nat} {Q : j3_P} {σ : j3_S} {o1 : Nat} {x2 : Int} {x3 : Int} {x4 : Int} {x5 : Int} :
  T2 d Q 55 [wO 1 76, wO 3 o1, wI x2, wI x3, wI x4, wI x5] [] σ = (if (σ.1 1004 76) = 0 then T2 d Q 63 [wO 1 76, wO 3 o1, wI x2, wI x3, wI x4, wI x5] [] σ else (if (σ.1 1001 76) = 0 then T2 d Q 64 [wO 1 76, wO 3 o1, wI x2, wI x3, wI x4, wI x5] [wI 1] σ else T2 d Q 63 [wO 1 76, wO 3 o1, wI x2, wI x3, wI x4, wI x5] [] σ)) := j3_T.go d [0, 14, 18, 28, 52, 53, 55, 63, 64, 67] 400
set_option maxRecDepth 100000 in
theorem b2_63 {d : Nat} {Q : j3_P} {σ : j3_S} {o1 : Nat} {x2 : Int} {x3 : Int} {x4 : Int} {x5 : Int} :
  T2 d Q 63 [wO 1 76, wO 3 o1, wI x2, wI x3, wI x4, wI x5] [] σ = T2 d Q 64 [wO 1 76, wO 3 o1, wI x2, wI x3, wI x4, wI x5] [wI 0] σ := j3_T.go d [0, 14, 18, 28, 52, 53, 55, 63, 64, 67] 400
set_option maxRecDepth 100000 in
theorem b2_64 {d : Nat} {Q : j3_P} {σ : j3_S} {o1 : Nat} {x2 : Int} {x3 : Int} {x4 : Int} {x5 : Int} {xs0 : Int} :
  T2 d Q 64 [wO 1 76, wO 3 o1, wI x2, wI x3, wI x4, wI x5] [wI xs0] σ = T2 d Q 18 [wO 1 76, wO 3 o1, wI x2, wI xs0, wI (wr (x4 + 1)), wI x5] [] σ := j3_T.go d [0, 14, 18, 28, 52, 53, 55, 63, 64, 67] 400
set_option maxRecDepth 100000 in
theorem b2_67 {d : Nat} {Q : j3_P} {σ : j3_S} {o1 : Nat} {x2 : Int} {x3 : Int} {x4 : Int} {w5 : j3_W} :
  T2 d Q 67 [wO 1 76, wO 3 o1, wI x2, wI x3, wI x4, w5] [] σ = (¬ (σ.2.1 0) = 0 ∧ (¬ (σ.2.1 0) = 0 ∧ ((0 ≤ (σ.1 1003 76) ∧ (σ.1 1003 76) < 80) ∧ ((0 ≤ (0 : Int) ∧ 0 ≤ (wr ((σ.1 1003 76) * 120)) ∧ 0 ≤ (σ.2.2 0 ((σ.2.1 0) + 17) (σ.1 1003 76)) ∧ (0 : Int) + (σ.2.2 0 ((σ.2.1 0) + 17) (σ.1 1003 76)) ≤ 120 ∧ (wr ((σ.1 1003 76) * 120)) + (σ.2.2 0 ((σ.2.1 0) + 17) (σ.1 1003 76)) ≤ 9600) ∧ Q (some (wI (σ.1 1001 76))) (σ.1, σ.2.1, (j3_acp σ.2.2 1005 76 4 ((σ.2.1 0) + 17) 0 (wr ((σ.1 1003 76) * 120)) (σ.2.2 0 ((σ.2.1 0) + 17) (σ.1 1003 76)))))))) := j3_T.go d [0, 14, 18, 28, 52, 53, 55, 63, 64, 67] 400
def T3 (d : Nat) (Q : j3_P) : j3_K := j3_T false (j3_tc false d) jc_X1_localAt (some .int) Q
theorem e3 {d : Nat} {Q : j3_P} {σ : j3_S} {x1 : Int} {x2 : Int} : j3_tc false (d + 1) 3 [wO 1 76, wI x1, wI x2] σ Q = T3 d Q 0 [wO 1 76, wI x1, wI x2] [] σ := j3_entry ⟨Nat.le_of_ble_eq_true rfl, rfl⟩
set_option maxRecDepth 100000 in
theorem b3_0 {d : Nat} {Q : j3_P} {σ : j3_S} {x1 : Int} {x2 : Int} :
  T3 d Q 0 [wO 1 76, wI x1, wI x2] [] σ = ((0 ≤ (wr ((wr (x1 * 20)) + x2)) ∧ (wr ((wr (x1 * 20)) + x2)) < 2400) ∧ Q (some (wI (σ.2.2 1007 76 (wr ((wr (x1 * 20)) + x2))))) σ) := j3_T.go d [0] 400
def T4 (d : Nat) (Q : j3_P) : j3_K := j3_T false (j3_tc false d) jc_X1_stackAt (some .int) Q
theorem e4 {d : Nat} {Q : j3_P} {σ : j3_S} {x1 : Int} {x2 : Int} : j3_tc false (d + 1) 4 [wO 1 76, wI x1, wI x2] σ Q = T4 d Q 0 [wO 1 76, wI x1, wI x2] [] σ := j3_entry ⟨Nat.le_of_ble_eq_true rfl, rfl⟩
set_option maxRecDepth 100000 in
theorem b4_0 {d : Nat} {Q : j3_P} {σ : j3_S} {x1 : Int} {x2 : Int} :
  T4 d Q 0 [wO 1 76, wI x1, wI x2] [] σ = ((0 ≤ (wr ((wr (x1 * 10)) + x2)) ∧ (wr ((wr (x1 * 10)) + x2)) < 1200) ∧ Q (some (wI (σ.2.2 1006 76 (wr ((wr (x1 * 10)) + x2))))) σ) := j3_T.go d [0] 400
def T5 (d : Nat) (Q : j3_P) : j3_K := j3_T false (j3_tc false d) jc_X1_begin none Q
theorem e5 {d : Nat} {Q : j3_P} {σ : j3_S}  : j3_tc false (d + 1) 5 [wO 1 76] σ Q = T5 d Q 0 [wO 1 76, wM 2, wM 2] [] σ := j3_entry ⟨Nat.le_of_ble_eq_true rfl, rfl⟩
set_option maxRecDepth 100000 in
theorem b5_0 {d : Nat} {Q : j3_P} {σ : j3_S}  :
  T5 d Q 0 [wO 1 76, wM 2, wM 2] [] σ = j3_tc false d 248 [wA 1005 76, wI (-1)] σ (fun r σ1 => T5 d Q 4 [wO 1 76, wM 2, wM 2] (r.toList ++ []) σ1) := j3_T.go d [0, 4, 10, 20, 36, 38, 57] 400
set_option maxRecDepth 100000 in
theorem b5_4 {d : Nat} {Q : j3_P} {σ : j3_S}  :
  T5 d Q 4 [wO 1 76, wM 2, wM 2] [] σ = j3_tc false d 249 [wA 1007 76, wI 0, wI 20, wI 0] σ (fun r σ1 => T5 d Q 10 [wO 1 76, wM 2, wM 2] (r.toList ++ []) σ1) := j3_T.go d [0, 4, 10, 20, 36, 38, 57] 400
set_option maxRecDepth 100000 in
theorem b5_10 {d : Nat} {Q : j3_P} {σ : j3_S}  :
  T5 d Q 10 [wO 1 76, wM 2, wM 2] [] σ = ((0 ≤ (0 : Int) ∧ (0 : Int) < 120) ∧ (¬ (σ.2.1 0) = 0 ∧ j3_tc false d 51 [wO 3 (σ.2.1 0), wI (σ.1 1003 76)] (σ.1, σ.2.1, (j3_ast σ.2.2 1005 76 0 0)) (fun r σ1 => T5 d Q 20 [wO 1 76, wM 2, wM 2] (r.toList ++ []) σ1))) := j3_T.go d [0, 4, 10, 20, 36, 38, 57] 400
set_option maxRecDepth 100000 in
theorem b5_20 {d : Nat} {Q : j3_P} {σ : j3_S} {xs0 : Int} :
  T5 d Q 20 [wO 1 76, wM 2, wM 2] [wI xs0] σ = (if xs0 = (1 : Int) then (¬ (σ.2.1 0) = 0 ∧ ((0 ≤ (σ.1 1003 76) ∧ (σ.1 1003 76) < 80) ∧ ((0 ≤ (0 : Int) ∧ (0 : Int) < 2400) ∧ T5 d Q 36 [wO 1 76, wI xs0, wM 2] [] (σ.1, σ.2.1, (j3_ast σ.2.2 1007 76 0 (wr (4 + (σ.2.2 3011 (σ.2.1 0) (σ.1 1003 76))))))))) else T5 d Q 36 [wO 1 76, wI xs0, wM 2] [] σ) := j3_T.go d [0, 4, 10, 20, 36, 38, 57] 400
set_option maxRecDepth 100000 in
theorem b5_36 {d : Nat} {Q : j3_P} {σ : j3_S} {x1 : Int} :
  T5 d Q 36 [wO 1 76, wI x1, wM 2] [] σ = T5 d Q 38 [wO 1 76, wI x1, wI 0] [] σ := j3_T.go d [0, 4, 10, 20, 36, 38, 57] 400
set_option maxRecDepth 100000 in
theorem b5_38 {d : Nat} {Q : j3_P} {σ : j3_S} {x1 : Int} {x2 : Int} :
  T5 d Q 38 [wO 1 76, wI x1, wI x2] [] σ = (¬ (σ.2.1 0) = 0 ∧ ((0 ≤ (σ.1 1003 76) ∧ (σ.1 1003 76) < 80) ∧ (if x2 < (σ.2.2 3015 (σ.2.1 0) (σ.1 1003 76)) then (¬ (σ.2.1 0) = 0 ∧ j3_tc false d 53 [wO 3 (σ.2.1 0), wI (σ.1 1003 76), wI x2] σ (fun r σ1 => T5 d Q 57 [wO 1 76, wI x1, wI x2] (r.toList ++ [wI (wr (x1 + x2)), wA 1007 76]) σ1)) else Q none σ))) := j3_T.go d [0, 4, 10, 20, 36, 38, 57] 400
set_option maxRecDepth 100000 in
theorem b5_57 {d : Nat} {Q : j3_P} {σ : j3_S} {x1 : Int} {x2 : Int} {xs0 : Int} {xs1 : Int} :
  T5 d Q 57 [wO 1 76, wI x1, wI x2] [wI xs0, wI xs1, wA 1007 76] σ = ((0 ≤ xs1 ∧ xs1 < 2400) ∧ T5 d Q 38 [wO 1 76, wI x1, wI (wr (x2 + 1))] [] (σ.1, σ.2.1, (j3_ast σ.2.2 1007 76 xs1 xs0))) := j3_T.go d [0, 4, 10, 20, 36, 38, 57] 400
def T6 (d : Nat) (Q : j3_P) : j3_K := j3_T false (j3_tc false d) jc_X1_lookAt (some .int) Q
theorem e6 {d : Nat} {Q : j3_P} {σ : j3_S} {x1 : Int} : j3_tc false (d + 1) 6 [wO 1 76, wI x1] σ Q = T6 d Q 0 [wO 1 76, wI x1, wM 2, wM 2, wM 2, wM 2, wM 2] [] σ := j3_entry ⟨Nat.le_of_ble_eq_true rfl, rfl⟩
set_option maxRecDepth 100000 in
theorem b6_0 {d : Nat} {Q : j3_P} {σ : j3_S} {x1 : Int} :
  T6 d Q 0 [wO 1 76, wI x1, wM 2, wM 2, wM 2, wM 2, wM 2] [] σ = (¬ (σ.2.1 0) = 0 ∧ ((0 ≤ (wr ((wr ((σ.1 1003 76) * 120)) + x1)) ∧ (wr ((wr ((σ.1 1003 76) * 120)) + x1)) < 9600) ∧ (¬ (σ.2.1 0) = 0 ∧ ((0 ≤ (wr ((wr ((σ.1 1003 76) * 120)) + x1)) ∧ (wr ((wr ((σ.1 1003 76) * 120)) + x1)) < 9600) ∧ j3_tc false d 7 [wO 1 76, wI x1] σ (fun r σ1 => T6 d Q 24 [wO 1 76, wI x1, wI (wr ((wr ((σ.1 1003 76) * 120)) + x1)), wI (σ.2.2 1 ((σ.2.1 0) + 17) (wr ((wr ((σ.1 1003 76) * 120)) + x1))), wI (σ.2.2 2 ((σ.2.1 0) + 17) (wr ((wr ((σ.1 1003 76) * 120)) + x1))), wM 2, wM 2] (r.toList ++ []) σ1))))) := j3_T.go d [0, 24, 34, 37, 51, 53, 74, 91, 93, 94, 98, 102] 400
set_option maxRecDepth 100000 in
theorem b6_24 {d : Nat} {Q : j3_P} {σ : j3_S} {x1 : Int} {x2 : Int} {x3 : Int} {x4 : Int} :
  T6 d Q 24 [wO 1 76, wI x1, wI x2, wI x3, wI x4, wM 2, wM 2] [] σ = (¬ (σ.2.1 0) = 0 ∧ ((0 ≤ x2 ∧ x2 < 9600) ∧ j3_tc false d 8 [wO 1 76, wI x3, wI x4, wI (σ.2.2 3 ((σ.2.1 0) + 17) x2)] σ (fun r σ1 => T6 d Q 34 [wO 1 76, wI x1, wI x2, wI x3, wI x4, wM 2, wM 2] (r.toList ++ []) σ1))) := j3_T.go d [0, 24, 34, 37, 51, 53, 74, 91, 93, 94, 98, 102] 400
set_option maxRecDepth 100000 in
theorem b6_34 {d : Nat} {Q : j3_P} {σ : j3_S} {x1 : Int} {x2 : Int} {x3 : Int} {x4 : Int} :
  T6 d Q 34 [wO 1 76, wI x1, wI x2, wI x3, wI x4, wM 2, wM 2] [] σ = j3_tc false d 13 [wO 1 76, wI x3] σ (fun r σ1 => T6 d Q 37 [wO 1 76, wI x1, wI x2, wI x3, wI x4, wM 2, wM 2] (r.toList ++ []) σ1) := j3_T.go d [0, 24, 34, 37, 51, 53, 74, 91, 93, 94, 98, 102] 400
set_option maxRecDepth 100000 in
theorem b6_37 {d : Nat} {Q : j3_P} {σ : j3_S} {x1 : Int} {x2 : Int} {x3 : Int} {x4 : Int} {xs0 : Int} :
  T6 d Q 37 [wO 1 76, wI x1, wI x2, wI x3, wI x4, wM 2, wM 2] [wI xs0] σ = (if xs0 = 0 then (if x3 = (3 : Int) then ((0 ≤ x4 ∧ x4 < 20) ∧ T6 d Q 51 [wO 1 76, wI x1, wI x2, wI x3, wI x4, wI xs0, wM 2] [] (σ.1, σ.2.1, (j3_ast σ.2.2 1009 76 x4 (σ.1 1013 76)))) else T6 d Q 51 [wO 1 76, wI x1, wI x2, wI x3, wI x4, wI xs0, wM 2] [] σ) else Q (some (wI xs0)) σ) := j3_T.go d [0, 24, 34, 37, 51, 53, 74, 91, 93, 94, 98, 102] 400
set_option maxRecDepth 100000 in
theorem b6_51 {d : Nat} {Q : j3_P} {σ : j3_S} {x1 : Int} {x2 : Int} {x3 : Int} {x4 : Int} {x5 : Int} :
  T6 d Q 51 [wO 1 76, wI x1, wI x2, wI x3, wI x4, wI x5, wM 2] [] σ = T6 d Q 53 [wO 1 76, wI x1, wI x2, wI x3, wI x4, wI x5, wI 0] [] σ := j3_T.go d [0, 24, 34, 37, 51, 53, 74, 91, 93, 94, 98, 102] 400
set_option maxRecDepth 100000 in
theorem b6_53 {d : Nat} {Q : j3_P} {σ : j3_S} {x1 : Int} {x2 : Int} {x3 : Int} {x4 : Int} {x5 : Int} {x6 : Int} :
  T6 d Q 53 [wO 1 76, wI x1, wI x2, wI x3, wI x4, wI x5, wI x6] [] σ = (if x6 < (σ.1 1014 76) then ((0 ≤ (σ.1 1010 76) ∧ (σ.1 1010 76) < 10) ∧ T6 d Q 53 [wO 1 76, wI x1, wI x2, wI x3, wI x4, wI x5, wI (wr (x6 + 1))] [] ((j3_up σ.1 1010 76 (wr ((σ.1 1010 76) + 1))), σ.2.1, (j3_ast σ.2.2 1008 76 (σ.1 1010 76) (σ.1 1013 76)))) else j3_tc false d 152 [wI x3] σ (fun r σ1 => T6 d Q 74 [wO 1 76, wI x1, wI x2, wI x3, wI x4, wI x5, wI x6] (r.toList ++ []) σ1)) := j3_T.go d [0, 24, 34, 37, 51, 53, 74, 91, 93, 94, 98, 102] 400
set_option maxRecDepth 100000 in
theorem b6_74 {d : Nat} {Q : j3_P} {σ : j3_S} {x1 : Int} {x2 : Int} {x3 : Int} {x4 : Int} {x5 : Int} {x6 : Int} {xs0 : Int} :
  T6 d Q 74 [wO 1 76, wI x1, wI x2, wI x3, wI x4, wI x5, wI x6] [wI xs0] σ = (if xs0 = 0 then T6 d Q 94 [wO 1 76, wI x1, wI x2, wI x3, wI x4, wI x5, wI x6] [] σ else (¬ (σ.2.1 0) = 0 ∧ ((0 ≤ (σ.1 1003 76) ∧ (σ.1 1003 76) < 80) ∧ (if (wr (x1 + 1)) < (σ.2.2 0 ((σ.2.1 0) + 17) (σ.1 1003 76)) then j3_tc false d 15 [wO 1 76, wI (wr (x1 + 1))] σ (fun r σ1 => T6 d Q 91 [wO 1 76, wI x1, wI x2, wI x3, wI x4, wI x5, wI x6] (r.toList ++ []) σ1) else T6 d Q 93 [wO 1 76, wI x1, wI x2, wI x3, wI x4, wI x5, wI x6] [wI 7] σ)))) := j3_T.go d [0, 24, 34, 37, 51, 53, 74, 91, 93, 94, 98, 102] 400
set_option maxRecDepth 100000 in
theorem b6_91 {d : Nat} {Q : j3_P} {σ : j3_S} {x1 : Int} {x2 : Int} {x3 : Int} {x4 : Int} {x5 : Int} {x6 : Int} {xs0 : Int} :
  T6 d Q 91 [wO 1 76, wI x1, wI x2, wI x3, wI x4, wI x5, wI x6] [wI xs0] σ = T6 d Q 93 [wO 1 76, wI x1, wI x2, wI x3, wI x4, wI x5, wI x6] [wI xs0] σ := j3_T.go d [0, 24, 34, 37, 51, 53, 74, 91, 93, 94, 98, 102] 400
set_option maxRecDepth 100000 in
theorem b6_93 {d : Nat} {Q : j3_P} {σ : j3_S} {x1 : Int} {x2 : Int} {x3 : Int} {x4 : Int} {x5 : Int} {x6 : Int} {xs0 : Int} :
  T6 d Q 93 [wO 1 76, wI x1, wI x2, wI x3, wI x4, wI x5, wI x6] [wI xs0] σ = T6 d Q 94 [wO 1 76, wI x1, wI x2, wI x3, wI x4, wI xs0, wI x6] [] σ := j3_T.go d [0, 24, 34, 37, 51, 53, 74, 91, 93, 94, 98, 102] 400
set_option maxRecDepth 100000 in
theorem b6_94 {d : Nat} {Q : j3_P} {σ : j3_S} {x1 : Int} {x2 : Int} {x3 : Int} {x4 : Int} {x5 : Int} {x6 : Int} :
  T6 d Q 94 [wO 1 76, wI x1, wI x2, wI x3, wI x4, wI x5, wI x6] [] σ = (if x5 = 0 then j3_tc false d 151 [wI x3] σ (fun r σ1 => T6 d Q 98 [wO 1 76, wI x1, wI x2, wI x3, wI x4, wI x5, wI x6] (r.toList ++ []) σ1) else Q (some (wI x5)) σ) := j3_T.go d [0, 24, 34, 37, 51, 53, 74, 91, 93, 94, 98, 102] 400
set_option maxRecDepth 100000 in
theorem b6_98 {d : Nat} {Q : j3_P} {σ : j3_S} {x1 : Int} {x2 : Int} {x3 : Int} {x4 : Int} {x5 : Int} {x6 : Int} {xs0 : Int} :
  T6 d Q 98 [wO 1 76, wI x1, wI x2, wI x3, wI x4, wI x5, wI x6] [wI xs0] σ = (if xs0 = 0 then Q (some (wI x5)) σ else j3_tc false d 15 [wO 1 76, wI x4] σ (fun r σ1 => T6 d Q 102 [wO 1 76, wI x1, wI x2, wI x3, wI x4, wI x5, wI x6] (r.toList ++ []) σ1)) := j3_T.go d [0, 24, 34, 37, 51, 53, 74, 91, 93, 94, 98, 102] 400
set_option maxRecDepth 100000 in
theorem b6_102 {d : Nat} {Q : j3_P} {σ : j3_S} {x1 : Int} {x2 : Int} {x3 : Int} {x4 : Int} {x5 : Int} {x6 : Int} {xs0 : Int} :
  T6 d Q 102 [wO 1 76, wI x1, wI x2, wI x3, wI x4, wI x5, wI x6] [wI xs0] σ = Q (some (wI xs0)) σ := j3_T.go d [0, 24, 34, 37, 51, 53, 74, 91, 93, 94, 98, 102] 400
def T7 (d : Nat) (Q : j3_P) : j3_K := j3_T false (j3_tc false d) jc_X1_takeState none Q
theorem e7 {d : Nat} {Q : j3_P} {σ : j3_S} {x1 : Int} : j3_tc false (d + 1) 7 [wO 1 76, wI x1] σ Q = T7 d Q 0 [wO 1 76, wI x1] [] σ := j3_entry ⟨Nat.le_of_ble_eq_true rfl, rfl⟩
set_option maxRecDepth 100000 in
theorem b7_0 {d : Nat} {Q : j3_P} {σ : j3_S} {x1 : Int} :
  T7 d Q 0 [wO 1 76, wI x1] [] σ = ((0 ≤ x1 ∧ x1 < 120) ∧ ((0 ≤ (wr (x1 * 10)) ∧ 0 ≤ (0 : Int) ∧ 0 ≤ (σ.2.2 1005 76 x1) ∧ (wr (x1 * 10)) + (σ.2.2 1005 76 x1) ≤ 1200 ∧ (0 : Int) + (σ.2.2 1005 76 x1) ≤ 10) ∧ (¬ (σ.2.1 0) = 0 ∧ ((0 ≤ (σ.1 1003 76) ∧ (σ.1 1003 76) < 80) ∧ ((0 ≤ (wr (x1 * 20)) ∧ 0 ≤ (0 : Int) ∧ 0 ≤ (σ.2.2 3017 (σ.2.1 0) (σ.1 1003 76)) ∧ (wr (x1 * 20)) + (σ.2.2 3017 (σ.2.1 0) (σ.1 1003 76)) ≤ 2400 ∧ (0 : Int) + (σ.2.2 3017 (σ.2.1 0) (σ.1 1003 76)) ≤ 20) ∧ Q none ((j3_up σ.1 1010 76 (σ.2.2 1005 76 x1)), σ.2.1, (j3_acp (j3_acp σ.2.2 1006 76 1008 76 (wr (x1 * 10)) 0 (σ.2.2 1005 76 x1)) 1007 76 1009 76 (wr (x1 * 20)) 0 (σ.2.2 3017 (σ.2.1 0) (σ.1 1003 76))))))))) := j3_T.go d [0] 400
def T8 (d : Nat) (Q : j3_P) : j3_K := j3_T false (j3_tc false d) jc_X1_ask none Q
theorem e8 {d : Nat} {Q : j3_P} {σ : j3_S} {x1 : Int} {x2 : Int} {x3 : Int} : j3_tc false (d + 1) 8 [wO 1 76, wI x1, wI x2, wI x3] σ Q = T8 d Q 0 [wO 1 76, wI x1, wI x2, wI x3] [] σ := j3_entry ⟨Nat.le_of_ble_eq_true rfl, rfl⟩
set_option maxRecDepth 100000 in
theorem b8_0 {d : Nat} {Q : j3_P} {σ : j3_S} {x1 : Int} {x2 : Int} {x3 : Int} :
  T8 d Q 0 [wO 1 76, wI x1, wI x2, wI x3] [] σ = (if x1 < (6 : Int) then T8 d Q 25 [wO 1 76, wI x1, wI x2, wI x3] [] ((j3_up (j3_up (j3_up σ.1 1012 76 0) 1014 76 0) 1013 76 0), σ.2.1, σ.2.2) else (if (10 : Int) < x1 then T8 d Q 25 [wO 1 76, wI x1, wI x2, wI x3] [] ((j3_up (j3_up (j3_up σ.1 1012 76 0) 1014 76 0) 1013 76 0), σ.2.1, σ.2.2) else j3_tc false d 11 [wO 1 76, wI 1] ((j3_up (j3_up (j3_up σ.1 1012 76 0) 1014 76 0) 1013 76 0), σ.2.1, σ.2.2) (fun r σ1 => T8 d Q 18 [wO 1 76, wI x1, wI x2, wI x3] (r.toList ++ []) σ1))) := j3_T.go d [0, 18, 21, 24, 25, 27, 30, 31, 34, 35, 41, 42, 45, 46, 49, 50, 53, 56, 57, 60, 61, 74, 75, 76, 86, 87, 92] 400
set_option maxRecDepth 100000 in
theorem b8_18 {d : Nat} {Q : j3_P} {σ : j3_S} {x1 : Int} {x2 : Int} {x3 : Int} :
  T8 d Q 18 [wO 1 76, wI x1, wI x2, wI x3] [] σ = j3_tc false d 11 [wO 1 76, wI 1] σ (fun r σ1 => T8 d Q 21 [wO 1 76, wI x1, wI x2, wI x3] (r.toList ++ []) σ1) := j3_T.go d [0, 18, 21, 24, 25, 27, 30, 31, 34, 35, 41, 42, 45, 46, 49, 50, 53, 56, 57, 60, 61, 74, 75, 76, 86, 87, 92] 400
set_option maxRecDepth 100000 in
theorem b8_21 {d : Nat} {Q : j3_P} {σ : j3_S} {x1 : Int} {x2 : Int} {x3 : Int} :
  T8 d Q 21 [wO 1 76, wI x1, wI x2, wI x3] [] σ = j3_tc false d 12 [wO 1 76, wI 1] σ (fun r σ1 => T8 d Q 24 [wO 1 76, wI x1, wI x2, wI x3] (r.toList ++ []) σ1) := j3_T.go d [0, 18, 21, 24, 25, 27, 30, 31, 34, 35, 41, 42, 45, 46, 49, 50, 53, 56, 57, 60, 61, 74, 75, 76, 86, 87, 92] 400
set_option maxRecDepth 100000 in
theorem b8_24 {d : Nat} {Q : j3_P} {σ : j3_S} {x1 : Int} {x2 : Int} {x3 : Int} :
  T8 d Q 24 [wO 1 76, wI x1, wI x2, wI x3] [] σ = Q none σ := j3_T.go d [0, 18, 21, 24, 25, 27, 30, 31, 34, 35, 41, 42, 45, 46, 49, 50, 53, 56, 57, 60, 61, 74, 75, 76, 86, 87, 92] 400
set_option maxRecDepth 100000 in
theorem b8_25 {d : Nat} {Q : j3_P} {σ : j3_S} {x1 : Int} {x2 : Int} {x3 : Int} :
  T8 d Q 25 [wO 1 76, wI x1, wI x2, wI x3] [] σ = (if x1 = 0 then T8 d Q 27 [wO 1 76, wI x1, wI x2, wI x3] [] σ else (if x1 = 1 then T8 d Q 31 [wO 1 76, wI x1, wI x2, wI x3] [] σ else (if x1 = 2 then T8 d Q 35 [wO 1 76, wI x1, wI x2, wI x3] [] σ else (if x1 = 3 then T8 d Q 42 [wO 1 76, wI x1, wI x2, wI x3] [] σ else (if x1 = 4 then T8 d Q 42 [wO 1 76, wI x1, wI x2, wI x3] [] σ else (if x1 = 5 then T8 d Q 42 [wO 1 76, wI x1, wI x2, wI x3] [] σ else (if x1 = 6 then T8 d Q 87 [wO 1 76, wI x1, wI x2, wI x3] [] σ else (if x1 = 7 then T8 d Q 87 [wO 1 76, wI x1, wI x2, wI x3] [] σ else (if x1 = 8 then T8 d Q 87 [wO 1 76, wI x1, wI x2, wI x3] [] σ else (if x1 = 9 then T8 d Q 87 [wO 1 76, wI x1, wI x2, wI x3] [] σ else (if x1 = 10 then T8 d Q 87 [wO 1 76, wI x1, wI x2, wI x3] [] σ else (if x1 = 11 then T8 d Q 87 [wO 1 76, wI x1, wI x2, wI x3] [] σ else (if x1 = 12 then T8 d Q 46 [wO 1 76, wI x1, wI x2, wI x3] [] σ else (if x1 = 13 then T8 d Q 50 [wO 1 76, wI x1, wI x2, wI x3] [] σ else (if x1 = 14 then T8 d Q 57 [wO 1 76, wI x1, wI x2, wI x3] [] σ else (if x1 = 15 then T8 d Q 87 [wO 1 76, wI x1, wI x2, wI x3] [] σ else (if x1 = 16 then T8 d Q 87 [wO 1 76, wI x1, wI x2, wI x3] [] σ else (if x1 = 17 then T8 d Q 87 [wO 1 76, wI x1, wI x2, wI x3] [] σ else (if x1 = 18 then T8 d Q 87 [wO 1 76, wI x1, wI x2, wI x3] [] σ else (if x1 = 19 then T8 d Q 87 [wO 1 76, wI x1, wI x2, wI x3] [] σ else (if x1 = 20 then T8 d Q 76 [wO 1 76, wI x1, wI x2, wI x3] [] σ else (if x1 = 21 then T8 d Q 76 [wO 1 76, wI x1, wI x2, wI x3] [] σ else (if x1 = 22 then T8 d Q 61 [wO 1 76, wI x1, wI x2, wI x3] [] σ else (if x1 = 23 then T8 d Q 46 [wO 1 76, wI x1, wI x2, wI x3] [] σ else T8 d Q 87 [wO 1 76, wI x1, wI x2, wI x3] [] σ)))))))))))))))))))))))) := j3_T.go d [0, 18, 21, 24, 25, 27, 30, 31, 34, 35, 41, 42, 45, 46, 49, 50, 53, 56, 57, 60, 61, 74, 75, 76, 86, 87, 92] 400
set_option maxRecDepth 100000 in
theorem b8_27 {d : Nat} {Q : j3_P} {σ : j3_S} {x1 : Int} {x2 : Int} {x3 : Int} :
  T8 d Q 27 [wO 1 76, wI x1, wI x2, wI x3] [] σ = j3_tc false d 12 [wO 1 76, wI 1] σ (fun r σ1 => T8 d Q 30 [wO 1 76, wI x1, wI x2, wI x3] (r.toList ++ []) σ1) := j3_T.go d [0, 18, 21, 24, 25, 27, 30, 31, 34, 35, 41, 42, 45, 46, 49, 50, 53, 56, 57, 60, 61, 74, 75, 76, 86, 87, 92] 400
set_option maxRecDepth 100000 in
theorem b8_30 {d : Nat} {Q : j3_P} {σ : j3_S} {x1 : Int} {x2 : Int} {x3 : Int} :
  T8 d Q 30 [wO 1 76, wI x1, wI x2, wI x3] [] σ = T8 d Q 92 [wO 1 76, wI x1, wI x2, wI x3] [] σ := j3_T.go d [0, 18, 21, 24, 25, 27, 30, 31, 34, 35, 41, 42, 45, 46, 49, 50, 53, 56, 57, 60, 61, 74, 75, 76, 86, 87, 92] 400
set_option maxRecDepth 100000 in
theorem b8_31 {d : Nat} {Q : j3_P} {σ : j3_S} {x1 : Int} {x2 : Int} {x3 : Int} :
  T8 d Q 31 [wO 1 76, wI x1, wI x2, wI x3] [] σ = j3_tc false d 12 [wO 1 76, wI 2] σ (fun r σ1 => T8 d Q 34 [wO 1 76, wI x1, wI x2, wI x3] (r.toList ++ []) σ1) := j3_T.go d [0, 18, 21, 24, 25, 27, 30, 31, 34, 35, 41, 42, 45, 46, 49, 50, 53, 56, 57, 60, 61, 74, 75, 76, 86, 87, 92] 400
set_option maxRecDepth 100000 in
theorem b8_34 {d : Nat} {Q : j3_P} {σ : j3_S} {x1 : Int} {x2 : Int} {x3 : Int} :
  T8 d Q 34 [wO 1 76, wI x1, wI x2, wI x3] [] σ = T8 d Q 92 [wO 1 76, wI x1, wI x2, wI x3] [] σ := j3_T.go d [0, 18, 21, 24, 25, 27, 30, 31, 34, 35, 41, 42, 45, 46, 49, 50, 53, 56, 57, 60, 61, 74, 75, 76, 86, 87, 92] 400
set_option maxRecDepth 100000 in
theorem b8_35 {d : Nat} {Q : j3_P} {σ : j3_S} {x1 : Int} {x2 : Int} {x3 : Int} :
  T8 d Q 35 [wO 1 76, wI x1, wI x2, wI x3] [] σ = ((0 ≤ x2 ∧ x2 < 20) ∧ j3_tc false d 12 [wO 1 76, wI (σ.2.2 1009 76 x2)] σ (fun r σ1 => T8 d Q 41 [wO 1 76, wI x1, wI x2, wI x3] (r.toList ++ []) σ1)) := j3_T.go d [0, 18, 21, 24, 25, 27, 30, 31, 34, 35, 41, 42, 45, 46, 49, 50, 53, 56, 57, 60, 61, 74, 75, 76, 86, 87, 92] 400
set_option maxRecDepth 100000 in
theorem b8_41 {d : Nat} {Q : j3_P} {σ : j3_S} {x1 : Int} {x2 : Int} {x3 : Int} :
  T8 d Q 41 [wO 1 76, wI x1, wI x2, wI x3] [] σ = T8 d Q 92 [wO 1 76, wI x1, wI x2, wI x3] [] σ := j3_T.go d [0, 18, 21, 24, 25, 27, 30, 31, 34, 35, 41, 42, 45, 46, 49, 50, 53, 56, 57, 60, 61, 74, 75, 76, 86, 87, 92] 400
set_option maxRecDepth 100000 in
theorem b8_42 {d : Nat} {Q : j3_P} {σ : j3_S} {x1 : Int} {x2 : Int} {x3 : Int} :
  T8 d Q 42 [wO 1 76, wI x1, wI x2, wI x3] [] σ = j3_tc false d 11 [wO 1 76, wI (-1)] σ (fun r σ1 => T8 d Q 45 [wO 1 76, wI x1, wI x2, wI x3] (r.toList ++ []) σ1) := j3_T.go d [0, 18, 21, 24, 25, 27, 30, 31, 34, 35, 41, 42, 45, 46, 49, 50, 53, 56, 57, 60, 61, 74, 75, 76, 86, 87, 92] 400
set_option maxRecDepth 100000 in
theorem b8_45 {d : Nat} {Q : j3_P} {σ : j3_S} {x1 : Int} {x2 : Int} {x3 : Int} :
  T8 d Q 45 [wO 1 76, wI x1, wI x2, wI x3] [] σ = T8 d Q 92 [wO 1 76, wI x1, wI x2, wI x3] [] σ := j3_T.go d [0, 18, 21, 24, 25, 27, 30, 31, 34, 35, 41, 42, 45, 46, 49, 50, 53, 56, 57, 60, 61, 74, 75, 76, 86, 87, 92] 400
set_option maxRecDepth 100000 in
theorem b8_46 {d : Nat} {Q : j3_P} {σ : j3_S} {x1 : Int} {x2 : Int} {x3 : Int} :
  T8 d Q 46 [wO 1 76, wI x1, wI x2, wI x3] [] σ = j3_tc false d 11 [wO 1 76, wI 1] σ (fun r σ1 => T8 d Q 49 [wO 1 76, wI x1, wI x2, wI x3] (r.toList ++ []) σ1) := j3_T.go d [0, 18, 21, 24, 25, 27, 30, 31, 34, 35, 41, 42, 45, 46, 49, 50, 53, 56, 57, 60, 61, 74, 75, 76, 86, 87, 92] 400
set_option maxRecDepth 100000 in
theorem b8_49 {d : Nat} {Q : j3_P} {σ : j3_S} {x1 : Int} {x2 : Int} {x3 : Int} :
  T8 d Q 49 [wO 1 76, wI x1, wI x2, wI x3] [] σ = T8 d Q 92 [wO 1 76, wI x1, wI x2, wI x3] [] σ := j3_T.go d [0, 18, 21, 24, 25, 27, 30, 31, 34, 35, 41, 42, 45, 46, 49, 50, 53, 56, 57, 60, 61, 74, 75, 76, 86, 87, 92] 400
set_option maxRecDepth 100000 in
theorem b8_50 {d : Nat} {Q : j3_P} {σ : j3_S} {x1 : Int} {x2 : Int} {x3 : Int} :
  T8 d Q 50 [wO 1 76, wI x1, wI x2, wI x3] [] σ = j3_tc false d 11 [wO 1 76, wI 1] σ (fun r σ1 => T8 d Q 53 [wO 1 76, wI x1, wI x2, wI x3] (r.toList ++ []) σ1) := j3_T.go d [0, 18, 21, 24, 25, 27, 30, 31, 34, 35, 41, 42, 45, 46, 49, 50, 53, 56, 57, 60, 61, 74, 75, 76, 86, 87, 92] 400
set_option maxRecDepth 100000 in
theorem b8_53 {d : Nat} {Q : j3_P} {σ : j3_S} {x1 : Int} {x2 : Int} {x3 : Int} :
  T8 d Q 53 [wO 1 76, wI x1, wI x2, wI x3] [] σ = j3_tc false d 11 [wO 1 76, wI 1] σ (fun r σ1 => T8 d Q 56 [wO 1 76, wI x1, wI x2, wI x3] (r.toList ++ []) σ1) := j3_T.go d [0, 18, 21, 24, 25, 27, 30, 31, 34, 35, 41, 42, 45, 46, 49, 50, 53, 56, 57, 60, 61, 74, 75, 76, 86, 87, 92] 400
set_option maxRecDepth 100000 in
theorem b8_56 {d : Nat} {Q : j3_P} {σ : j3_S} {x1 : Int} {x2 : Int} {x3 : Int} :
  T8 d Q 56 [wO 1 76, wI x1, wI x2, wI x3] [] σ = T8 d Q 92 [wO 1 76, wI x1, wI x2, wI x3] [] σ := j3_T.go d [0, 18, 21, 24, 25, 27, 30, 31, 34, 35, 41, 42, 45, 46, 49, 50, 53, 56, 57, 60, 61, 74, 75, 76, 86, 87, 92] 400
set_option maxRecDepth 100000 in
theorem b8_57 {d : Nat} {Q : j3_P} {σ : j3_S} {x1 : Int} {x2 : Int} {x3 : Int} :
  T8 d Q 57 [wO 1 76, wI x1, wI x2, wI x3] [] σ = j3_tc false d 11 [wO 1 76, wI (-2)] σ (fun r σ1 => T8 d Q 60 [wO 1 76, wI x1, wI x2, wI x3] (r.toList ++ []) σ1) := j3_T.go d [0, 18, 21, 24, 25, 27, 30, 31, 34, 35, 41, 42, 45, 46, 49, 50, 53, 56, 57, 60, 61, 74, 75, 76, 86, 87, 92] 400
set_option maxRecDepth 100000 in
theorem b8_60 {d : Nat} {Q : j3_P} {σ : j3_S} {x1 : Int} {x2 : Int} {x3 : Int} :
  T8 d Q 60 [wO 1 76, wI x1, wI x2, wI x3] [] σ = T8 d Q 92 [wO 1 76, wI x1, wI x2, wI x3] [] σ := j3_T.go d [0, 18, 21, 24, 25, 27, 30, 31, 34, 35, 41, 42, 45, 46, 49, 50, 53, 56, 57, 60, 61, 74, 75, 76, 86, 87, 92] 400
set_option maxRecDepth 100000 in
theorem b8_61 {d : Nat} {Q : j3_P} {σ : j3_S} {x1 : Int} {x2 : Int} {x3 : Int} :
  T8 d Q 61 [wO 1 76, wI x1, wI x2, wI x3] [] σ = (¬ (σ.2.1 0) = 0 ∧ ((0 ≤ (σ.1 1003 76) ∧ (σ.1 1003 76) < 80) ∧ (if (σ.2.2 3014 (σ.2.1 0) (σ.1 1003 76)) = 0 then T8 d Q 92 [wO 1 76, wI x1, wI x2, wI x3] [] σ else (¬ (σ.2.1 0) = 0 ∧ j3_tc false d 54 [wO 3 (σ.2.1 0), wI (σ.1 1003 76)] σ (fun r σ1 => T8 d Q 74 [wO 1 76, wI x1, wI x2, wI x3] (r.toList ++ [wO 1 76]) σ1))))) := j3_T.go d [0, 18, 21, 24, 25, 27, 30, 31, 34, 35, 41, 42, 45, 46, 49, 50, 53, 56, 57, 60, 61, 74, 75, 76, 86, 87, 92] 400
set_option maxRecDepth 100000 in
theorem b8_74 {d : Nat} {Q : j3_P} {σ : j3_S} {x1 : Int} {x2 : Int} {x3 : Int} {xs0 : Int} :
  T8 d Q 74 [wO 1 76, wI x1, wI x2, wI x3] [wI xs0, wO 1 76] σ = j3_tc false d 11 [wO 1 76, wI xs0] σ (fun r σ1 => T8 d Q 75 [wO 1 76, wI x1, wI x2, wI x3] (r.toList ++ []) σ1) := j3_T.go d [0, 18, 21, 24, 25, 27, 30, 31, 34, 35, 41, 42, 45, 46, 49, 50, 53, 56, 57, 60, 61, 74, 75, 76, 86, 87, 92] 400
set_option maxRecDepth 100000 in
theorem b8_75 {d : Nat} {Q : j3_P} {σ : j3_S} {x1 : Int} {x2 : Int} {x3 : Int} :
  T8 d Q 75 [wO 1 76, wI x1, wI x2, wI x3] [] σ = T8 d Q 92 [wO 1 76, wI x1, wI x2, wI x3] [] σ := j3_T.go d [0, 18, 21, 24, 25, 27, 30, 31, 34, 35, 41, 42, 45, 46, 49, 50, 53, 56, 57, 60, 61, 74, 75, 76, 86, 87, 92] 400
set_option maxRecDepth 100000 in
theorem b8_76 {d : Nat} {Q : j3_P} {σ : j3_S} {x1 : Int} {x2 : Int} {x3 : Int} :
  T8 d Q 76 [wO 1 76, wI x1, wI x2, wI x3] [] σ = (¬ (σ.2.1 0) = 0 ∧ ((0 ≤ x2 ∧ x2 < 10) ∧ j3_tc false d 10 [wO 1 76, wI x2, wI (wr ((σ.2.2 3007 (σ.2.1 0) x2) + x3))] σ (fun r σ1 => T8 d Q 86 [wO 1 76, wI x1, wI x2, wI x3] (r.toList ++ []) σ1))) := j3_T.go d [0, 18, 21, 24, 25, 27, 30, 31, 34, 35, 41, 42, 45, 46, 49, 50, 53, 56, 57, 60, 61, 74, 75, 76, 86, 87, 92] 400
set_option maxRecDepth 100000 in
theorem b8_86 {d : Nat} {Q : j3_P} {σ : j3_S} {x1 : Int} {x2 : Int} {x3 : Int} :
  T8 d Q 86 [wO 1 76, wI x1, wI x2, wI x3] [] σ = T8 d Q 92 [wO 1 76, wI x1, wI x2, wI x3] [] σ := j3_T.go d [0, 18, 21, 24, 25, 27, 30, 31, 34, 35, 41, 42, 45, 46, 49, 50, 53, 56, 57, 60, 61, 74, 75, 76, 86, 87, 92] 400
set_option maxRecDepth 100000 in
theorem b8_87 {d : Nat} {Q : j3_P} {σ : j3_S} {x1 : Int} {x2 : Int} {x3 : Int} :
  T8 d Q 87 [wO 1 76, wI x1, wI x2, wI x3] [] σ = j3_tc false d 9 [wO 1 76, wI x1, wI x2, wI x3] σ (fun r σ1 => T8 d Q 92 [wO 1 76, wI x1, wI x2, wI x3] (r.toList ++ []) σ1) := j3_T.go d [0, 18, 21, 24, 25, 27, 30, 31, 34, 35, 41, 42, 45, 46, 49, 50, 53, 56, 57, 60, 61, 74, 75, 76, 86, 87, 92] 400
set_option maxRecDepth 100000 in
theorem b8_92 {d : Nat} {Q : j3_P} {σ : j3_S} {x1 : Int} {x2 : Int} {x3 : Int} :
  T8 d Q 92 [wO 1 76, wI x1, wI x2, wI x3] [] σ = Q none σ := j3_T.go d [0, 18, 21, 24, 25, 27, 30, 31, 34, 35, 41, 42, 45, 46, 49, 50, 53, 56, 57, 60, 61, 74, 75, 76, 86, 87, 92] 400
def T9 (d : Nat) (Q : j3_P) : j3_K := j3_T false (j3_tc false d) jc_X1_askOfObjects none Q
theorem e9 {d : Nat} {Q : j3_P} {σ : j3_S} {x1 : Int} {x2 : Int} {x3 : Int} : j3_tc false (d + 1) 9 [wO 1 76, wI x1, wI x2, wI x3] σ Q = T9 d Q 0 [wO 1 76, wI x1, wI x2, wI x3] [] σ := j3_entry ⟨Nat.le_of_ble_eq_true rfl, rfl⟩
set_option maxRecDepth 100000 in
theorem b9_0 {d : Nat} {Q : j3_P} {σ : j3_S} {x1 : Int} {x2 : Int} {x3 : Int} :
  T9 d Q 0 [wO 1 76, wI x1, wI x2, wI x3] [] σ = (if x1 = 15 then T9 d Q 2 [wO 1 76, wI x1, wI x2, wI x3] [] σ else (if x1 = 16 then T9 d Q 8 [wO 1 76, wI x1, wI x2, wI x3] [] σ else (if x1 = 17 then T9 d Q 21 [wO 1 76, wI x1, wI x2, wI x3] [] σ else (if x1 = 18 then T9 d Q 34 [wO 1 76, wI x1, wI x2, wI x3] [] σ else (if x1 = 19 then T9 d Q 42 [wO 1 76, wI x1, wI x2, wI x3] [] σ else (if x1 = 20 then T9 d Q 66 [wO 1 76, wI x1, wI x2, wI x3] [] σ else (if x1 = 21 then T9 d Q 66 [wO 1 76, wI x1, wI x2, wI x3] [] σ else (if x1 = 22 then T9 d Q 66 [wO 1 76, wI x1, wI x2, wI x3] [] σ else (if x1 = 23 then T9 d Q 66 [wO 1 76, wI x1, wI x2, wI x3] [] σ else (if x1 = 24 then T9 d Q 50 [wO 1 76, wI x1, wI x2, wI x3] [] σ else (if x1 = 25 then T9 d Q 59 [wO 1 76, wI x1, wI x2, wI x3] [] σ else T9 d Q 66 [wO 1 76, wI x1, wI x2, wI x3] [] σ))))))))))) := j3_T.go d [0, 2, 7, 8, 13, 19, 20, 21, 26, 32, 33, 34, 40, 41, 42, 48, 49, 50, 53, 58, 59, 62, 65, 66] 400
set_option maxRecDepth 100000 in
theorem b9_2 {d : Nat} {Q : j3_P} {σ : j3_S} {x1 : Int} {x2 : Int} {x3 : Int} :
  T9 d Q 2 [wO 1 76, wI x1, wI x2, wI x3] [] σ = j3_tc false d 12 [wO 1 76, wI (wr (4 + x2))] σ (fun r σ1 => T9 d Q 7 [wO 1 76, wI x1, wI x2, wI x3] (r.toList ++ []) σ1) := j3_T.go d [0, 2, 7, 8, 13, 19, 20, 21, 26, 32, 33, 34, 40, 41, 42, 48, 49, 50, 53, 58, 59, 62, 65, 66] 400
set_option maxRecDepth 100000 in
theorem b9_7 {d : Nat} {Q : j3_P} {σ : j3_S} {x1 : Int} {x2 : Int} {x3 : Int} :
  T9 d Q 7 [wO 1 76, wI x1, wI x2, wI x3] [] σ = T9 d Q 66 [wO 1 76, wI x1, wI x2, wI x3] [] σ := j3_T.go d [0, 2, 7, 8, 13, 19, 20, 21, 26, 32, 33, 34, 40, 41, 42, 48, 49, 50, 53, 58, 59, 62, 65, 66] 400
set_option maxRecDepth 100000 in
theorem b9_8 {d : Nat} {Q : j3_P} {σ : j3_S} {x1 : Int} {x2 : Int} {x3 : Int} :
  T9 d Q 8 [wO 1 76, wI x1, wI x2, wI x3] [] σ = j3_tc false d 11 [wO 1 76, wI (wr (4 + x2))] σ (fun r σ1 => T9 d Q 13 [wO 1 76, wI x1, wI x2, wI x3] (r.toList ++ []) σ1) := j3_T.go d [0, 2, 7, 8, 13, 19, 20, 21, 26, 32, 33, 34, 40, 41, 42, 48, 49, 50, 53, 58, 59, 62, 65, 66] 400
set_option maxRecDepth 100000 in
theorem b9_13 {d : Nat} {Q : j3_P} {σ : j3_S} {x1 : Int} {x2 : Int} {x3 : Int} :
  T9 d Q 13 [wO 1 76, wI x1, wI x2, wI x3] [] σ = (¬ (σ.2.1 0) = 0 ∧ j3_tc false d 52 [wO 3 (σ.2.1 0), wI x2, wI x3] σ (fun r σ1 => T9 d Q 19 [wO 1 76, wI x1, wI x2, wI x3] (r.toList ++ [wO 1 76]) σ1)) := j3_T.go d [0, 2, 7, 8, 13, 19, 20, 21, 26, 32, 33, 34, 40, 41, 42, 48, 49, 50, 53, 58, 59, 62, 65, 66] 400
set_option maxRecDepth 100000 in
theorem b9_19 {d : Nat} {Q : j3_P} {σ : j3_S} {x1 : Int} {x2 : Int} {x3 : Int} {xs0 : Int} :
  T9 d Q 19 [wO 1 76, wI x1, wI x2, wI x3] [wI xs0, wO 1 76] σ = j3_tc false d 12 [wO 1 76, wI xs0] σ (fun r σ1 => T9 d Q 20 [wO 1 76, wI x1, wI x2, wI x3] (r.toList ++ []) σ1) := j3_T.go d [0, 2, 7, 8, 13, 19, 20, 21, 26, 32, 33, 34, 40, 41, 42, 48, 49, 50, 53, 58, 59, 62, 65, 66] 400
set_option maxRecDepth 100000 in
theorem b9_20 {d : Nat} {Q : j3_P} {σ : j3_S} {x1 : Int} {x2 : Int} {x3 : Int} :
  T9 d Q 20 [wO 1 76, wI x1, wI x2, wI x3] [] σ = T9 d Q 66 [wO 1 76, wI x1, wI x2, wI x3] [] σ := j3_T.go d [0, 2, 7, 8, 13, 19, 20, 21, 26, 32, 33, 34, 40, 41, 42, 48, 49, 50, 53, 58, 59, 62, 65, 66] 400
set_option maxRecDepth 100000 in
theorem b9_21 {d : Nat} {Q : j3_P} {σ : j3_S} {x1 : Int} {x2 : Int} {x3 : Int} :
  T9 d Q 21 [wO 1 76, wI x1, wI x2, wI x3] [] σ = j3_tc false d 11 [wO 1 76, wI (wr (4 + x2))] σ (fun r σ1 => T9 d Q 26 [wO 1 76, wI x1, wI x2, wI x3] (r.toList ++ []) σ1) := j3_T.go d [0, 2, 7, 8, 13, 19, 20, 21, 26, 32, 33, 34, 40, 41, 42, 48, 49, 50, 53, 58, 59, 62, 65, 66] 400
set_option maxRecDepth 100000 in
theorem b9_26 {d : Nat} {Q : j3_P} {σ : j3_S} {x1 : Int} {x2 : Int} {x3 : Int} :
  T9 d Q 26 [wO 1 76, wI x1, wI x2, wI x3] [] σ = (¬ (σ.2.1 0) = 0 ∧ j3_tc false d 52 [wO 3 (σ.2.1 0), wI x2, wI x3] σ (fun r σ1 => T9 d Q 32 [wO 1 76, wI x1, wI x2, wI x3] (r.toList ++ [wO 1 76]) σ1)) := j3_T.go d [0, 2, 7, 8, 13, 19, 20, 21, 26, 32, 33, 34, 40, 41, 42, 48, 49, 50, 53, 58, 59, 62, 65, 66] 400
set_option maxRecDepth 100000 in
theorem b9_32 {d : Nat} {Q : j3_P} {σ : j3_S} {x1 : Int} {x2 : Int} {x3 : Int} {xs0 : Int} :
  T9 d Q 32 [wO 1 76, wI x1, wI x2, wI x3] [wI xs0, wO 1 76] σ = j3_tc false d 11 [wO 1 76, wI xs0] σ (fun r σ1 => T9 d Q 33 [wO 1 76, wI x1, wI x2, wI x3] (r.toList ++ []) σ1) := j3_T.go d [0, 2, 7, 8, 13, 19, 20, 21, 26, 32, 33, 34, 40, 41, 42, 48, 49, 50, 53, 58, 59, 62, 65, 66] 400
set_option maxRecDepth 100000 in
theorem b9_33 {d : Nat} {Q : j3_P} {σ : j3_S} {x1 : Int} {x2 : Int} {x3 : Int} :
  T9 d Q 33 [wO 1 76, wI x1, wI x2, wI x3] [] σ = T9 d Q 66 [wO 1 76, wI x1, wI x2, wI x3] [] σ := j3_T.go d [0, 2, 7, 8, 13, 19, 20, 21, 26, 32, 33, 34, 40, 41, 42, 48, 49, 50, 53, 58, 59, 62, 65, 66] 400
set_option maxRecDepth 100000 in
theorem b9_34 {d : Nat} {Q : j3_P} {σ : j3_S} {x1 : Int} {x2 : Int} {x3 : Int} :
  T9 d Q 34 [wO 1 76, wI x1, wI x2, wI x3] [] σ = (¬ (σ.2.1 0) = 0 ∧ j3_tc false d 52 [wO 3 (σ.2.1 0), wI x2, wI x3] σ (fun r σ1 => T9 d Q 40 [wO 1 76, wI x1, wI x2, wI x3] (r.toList ++ [wO 1 76]) σ1)) := j3_T.go d [0, 2, 7, 8, 13, 19, 20, 21, 26, 32, 33, 34, 40, 41, 42, 48, 49, 50, 53, 58, 59, 62, 65, 66] 400
set_option maxRecDepth 100000 in
theorem b9_40 {d : Nat} {Q : j3_P} {σ : j3_S} {x1 : Int} {x2 : Int} {x3 : Int} {xs0 : Int} :
  T9 d Q 40 [wO 1 76, wI x1, wI x2, wI x3] [wI xs0, wO 1 76] σ = j3_tc false d 12 [wO 1 76, wI xs0] σ (fun r σ1 => T9 d Q 41 [wO 1 76, wI x1, wI x2, wI x3] (r.toList ++ []) σ1) := j3_T.go d [0, 2, 7, 8, 13, 19, 20, 21, 26, 32, 33, 34, 40, 41, 42, 48, 49, 50, 53, 58, 59, 62, 65, 66] 400
set_option maxRecDepth 100000 in
theorem b9_41 {d : Nat} {Q : j3_P} {σ : j3_S} {x1 : Int} {x2 : Int} {x3 : Int} :
  T9 d Q 41 [wO 1 76, wI x1, wI x2, wI x3] [] σ = T9 d Q 66 [wO 1 76, wI x1, wI x2, wI x3] [] σ := j3_T.go d [0, 2, 7, 8, 13, 19, 20, 21, 26, 32, 33, 34, 40, 41, 42, 48, 49, 50, 53, 58, 59, 62, 65, 66] 400
set_option maxRecDepth 100000 in
theorem b9_42 {d : Nat} {Q : j3_P} {σ : j3_S} {x1 : Int} {x2 : Int} {x3 : Int} :
  T9 d Q 42 [wO 1 76, wI x1, wI x2, wI x3] [] σ = (¬ (σ.2.1 0) = 0 ∧ j3_tc false d 52 [wO 3 (σ.2.1 0), wI x2, wI x3] σ (fun r σ1 => T9 d Q 48 [wO 1 76, wI x1, wI x2, wI x3] (r.toList ++ [wO 1 76]) σ1)) := j3_T.go d [0, 2, 7, 8, 13, 19, 20, 21, 26, 32, 33, 34, 40, 41, 42, 48, 49, 50, 53, 58, 59, 62, 65, 66] 400
set_option maxRecDepth 100000 in
theorem b9_48 {d : Nat} {Q : j3_P} {σ : j3_S} {x1 : Int} {x2 : Int} {x3 : Int} {xs0 : Int} :
  T9 d Q 48 [wO 1 76, wI x1, wI x2, wI x3] [wI xs0, wO 1 76] σ = j3_tc false d 11 [wO 1 76, wI xs0] σ (fun r σ1 => T9 d Q 49 [wO 1 76, wI x1, wI x2, wI x3] (r.toList ++ []) σ1) := j3_T.go d [0, 2, 7, 8, 13, 19, 20, 21, 26, 32, 33, 34, 40, 41, 42, 48, 49, 50, 53, 58, 59, 62, 65, 66] 400
set_option maxRecDepth 100000 in
theorem b9_49 {d : Nat} {Q : j3_P} {σ : j3_S} {x1 : Int} {x2 : Int} {x3 : Int} :
  T9 d Q 49 [wO 1 76, wI x1, wI x2, wI x3] [] σ = T9 d Q 66 [wO 1 76, wI x1, wI x2, wI x3] [] σ := j3_T.go d [0, 2, 7, 8, 13, 19, 20, 21, 26, 32, 33, 34, 40, 41, 42, 48, 49, 50, 53, 58, 59, 62, 65, 66] 400
set_option maxRecDepth 100000 in
theorem b9_50 {d : Nat} {Q : j3_P} {σ : j3_S} {x1 : Int} {x2 : Int} {x3 : Int} :
  T9 d Q 50 [wO 1 76, wI x1, wI x2, wI x3] [] σ = j3_tc false d 11 [wO 1 76, wI (-2)] σ (fun r σ1 => T9 d Q 53 [wO 1 76, wI x1, wI x2, wI x3] (r.toList ++ []) σ1) := j3_T.go d [0, 2, 7, 8, 13, 19, 20, 21, 26, 32, 33, 34, 40, 41, 42, 48, 49, 50, 53, 58, 59, 62, 65, 66] 400
set_option maxRecDepth 100000 in
theorem b9_53 {d : Nat} {Q : j3_P} {σ : j3_S} {x1 : Int} {x2 : Int} {x3 : Int} :
  T9 d Q 53 [wO 1 76, wI x1, wI x2, wI x3] [] σ = j3_tc false d 12 [wO 1 76, wI (wr (4 + x2))] σ (fun r σ1 => T9 d Q 58 [wO 1 76, wI x1, wI x2, wI x3] (r.toList ++ []) σ1) := j3_T.go d [0, 2, 7, 8, 13, 19, 20, 21, 26, 32, 33, 34, 40, 41, 42, 48, 49, 50, 53, 58, 59, 62, 65, 66] 400
set_option maxRecDepth 100000 in
theorem b9_58 {d : Nat} {Q : j3_P} {σ : j3_S} {x1 : Int} {x2 : Int} {x3 : Int} :
  T9 d Q 58 [wO 1 76, wI x1, wI x2, wI x3] [] σ = T9 d Q 66 [wO 1 76, wI x1, wI x2, wI x3] [] σ := j3_T.go d [0, 2, 7, 8, 13, 19, 20, 21, 26, 32, 33, 34, 40, 41, 42, 48, 49, 50, 53, 58, 59, 62, 65, 66] 400
set_option maxRecDepth 100000 in
theorem b9_59 {d : Nat} {Q : j3_P} {σ : j3_S} {x1 : Int} {x2 : Int} {x3 : Int} :
  T9 d Q 59 [wO 1 76, wI x1, wI x2, wI x3] [] σ = j3_tc false d 11 [wO 1 76, wI (-2)] σ (fun r σ1 => T9 d Q 62 [wO 1 76, wI x1, wI x2, wI x3] (r.toList ++ []) σ1) := j3_T.go d [0, 2, 7, 8, 13, 19, 20, 21, 26, 32, 33, 34, 40, 41, 42, 48, 49, 50, 53, 58, 59, 62, 65, 66] 400
set_option maxRecDepth 100000 in
theorem b9_62 {d : Nat} {Q : j3_P} {σ : j3_S} {x1 : Int} {x2 : Int} {x3 : Int} :
  T9 d Q 62 [wO 1 76, wI x1, wI x2, wI x3] [] σ = j3_tc false d 12 [wO 1 76, wI 1] σ (fun r σ1 => T9 d Q 65 [wO 1 76, wI x1, wI x2, wI x3] (r.toList ++ []) σ1) := j3_T.go d [0, 2, 7, 8, 13, 19, 20, 21, 26, 32, 33, 34, 40, 41, 42, 48, 49, 50, 53, 58, 59, 62, 65, 66] 400
set_option maxRecDepth 100000 in
theorem b9_65 {d : Nat} {Q : j3_P} {σ : j3_S} {x1 : Int} {x2 : Int} {x3 : Int} :
  T9 d Q 65 [wO 1 76, wI x1, wI x2, wI x3] [] σ = T9 d Q 66 [wO 1 76, wI x1, wI x2, wI x3] [] σ := j3_T.go d [0, 2, 7, 8, 13, 19, 20, 21, 26, 32, 33, 34, 40, 41, 42, 48, 49, 50, 53, 58, 59, 62, 65, 66] 400
set_option maxRecDepth 100000 in
theorem b9_66 {d : Nat} {Q : j3_P} {σ : j3_S} {x1 : Int} {x2 : Int} {x3 : Int} :
  T9 d Q 66 [wO 1 76, wI x1, wI x2, wI x3] [] σ = Q none σ := j3_T.go d [0, 2, 7, 8, 13, 19, 20, 21, 26, 32, 33, 34, 40, 41, 42, 48, 49, 50, 53, 58, 59, 62, 65, 66] 400
def T10 (d : Nat) (Q : j3_P) : j3_K := j3_T false (j3_tc false d) jc_X1_askOfCall none Q
theorem e10 {d : Nat} {Q : j3_P} {σ : j3_S} {x1 : Int} {x2 : Int} : j3_tc false (d + 1) 10 [wO 1 76, wI x1, wI x2] σ Q = T10 d Q 0 [wO 1 76, wI x1, wI x2, wM 2] [] σ := j3_entry ⟨Nat.le_of_ble_eq_true rfl, rfl⟩
set_option maxRecDepth 100000 in
theorem b10_0 {d : Nat} {Q : j3_P} {σ : j3_S} {x1 : Int} {x2 : Int} :
  T10 d Q 0 [wO 1 76, wI x1, wI x2, wM 2] [] σ = (¬ (σ.2.1 0) = 0 ∧ j3_tc false d 51 [wO 3 (σ.2.1 0), wI x2] σ (fun r σ1 => T10 d Q 4 [wO 1 76, wI x1, wI x2, wM 2] (r.toList ++ []) σ1)) := j3_T.go d [0, 4, 11, 13, 26, 27, 40, 41] 400
set_option maxRecDepth 100000 in
theorem b10_4 {d : Nat} {Q : j3_P} {σ : j3_S} {x1 : Int} {x2 : Int} {xs0 : Int} :
  T10 d Q 4 [wO 1 76, wI x1, wI x2, wM 2] [wI xs0] σ = (if xs0 = (1 : Int) then j3_tc false d 11 [wO 1 76, wI (wr (4 + x1))] σ (fun r σ1 => T10 d Q 11 [wO 1 76, wI x1, wI x2, wM 2] (r.toList ++ []) σ1) else T10 d Q 11 [wO 1 76, wI x1, wI x2, wM 2] [] σ) := j3_T.go d [0, 4, 11, 13, 26, 27, 40, 41] 400
set_option maxRecDepth 100000 in
theorem b10_11 {d : Nat} {Q : j3_P} {σ : j3_S} {x1 : Int} {x2 : Int} :
  T10 d Q 11 [wO 1 76, wI x1, wI x2, wM 2] [] σ = T10 d Q 13 [wO 1 76, wI x1, wI x2, wI 0] [] σ := j3_T.go d [0, 4, 11, 13, 26, 27, 40, 41] 400
set_option maxRecDepth 100000 in
theorem b10_13 {d : Nat} {Q : j3_P} {σ : j3_S} {x1 : Int} {x2 : Int} {x3 : Int} :
  T10 d Q 13 [wO 1 76, wI x1, wI x2, wI x3] [] σ = (¬ (σ.2.1 0) = 0 ∧ ((0 ≤ x2 ∧ x2 < 80) ∧ (if x3 < (σ.2.2 3015 (σ.2.1 0) x2) then (¬ (σ.2.1 0) = 0 ∧ j3_tc false d 53 [wO 3 (σ.2.1 0), wI x2, wI x3] σ (fun r σ1 => T10 d Q 26 [wO 1 76, wI x1, wI x2, wI x3] (r.toList ++ [wO 1 76]) σ1)) else (¬ (σ.2.1 0) = 0 ∧ ((0 ≤ x2 ∧ x2 < 80) ∧ (if (σ.2.2 3014 (σ.2.1 0) x2) = 0 then T10 d Q 41 [wO 1 76, wI x1, wI x2, wI x3] [] σ else (¬ (σ.2.1 0) = 0 ∧ j3_tc false d 54 [wO 3 (σ.2.1 0), wI x2] σ (fun r σ1 => T10 d Q 40 [wO 1 76, wI x1, wI x2, wI x3] (r.toList ++ [wO 1 76]) σ1)))))))) := j3_T.go d [0, 4, 11, 13, 26, 27, 40, 41] 400
set_option maxRecDepth 100000 in
theorem b10_26 {d : Nat} {Q : j3_P} {σ : j3_S} {x1 : Int} {x2 : Int} {x3 : Int} {xs0 : Int} :
  T10 d Q 26 [wO 1 76, wI x1, wI x2, wI x3] [wI xs0, wO 1 76] σ = j3_tc false d 11 [wO 1 76, wI xs0] σ (fun r σ1 => T10 d Q 27 [wO 1 76, wI x1, wI x2, wI x3] (r.toList ++ []) σ1) := j3_T.go d [0, 4, 11, 13, 26, 27, 40, 41] 400
set_option maxRecDepth 100000 in
theorem b10_27 {d : Nat} {Q : j3_P} {σ : j3_S} {x1 : Int} {x2 : Int} {x3 : Int} :
  T10 d Q 27 [wO 1 76, wI x1, wI x2, wI x3] [] σ = T10 d Q 13 [wO 1 76, wI x1, wI x2, wI (wr (x3 + 1))] [] σ := j3_T.go d [0, 4, 11, 13, 26, 27, 40, 41] 400
set_option maxRecDepth 100000 in
theorem b10_40 {d : Nat} {Q : j3_P} {σ : j3_S} {x1 : Int} {x2 : Int} {x3 : Int} {xs0 : Int} :
  T10 d Q 40 [wO 1 76, wI x1, wI x2, wI x3] [wI xs0, wO 1 76] σ = j3_tc false d 12 [wO 1 76, wI xs0] σ (fun r σ1 => T10 d Q 41 [wO 1 76, wI x1, wI x2, wI x3] (r.toList ++ []) σ1) := j3_T.go d [0, 4, 11, 13, 26, 27, 40, 41] 400
set_option maxRecDepth 100000 in
theorem b10_41 {d : Nat} {Q : j3_P} {σ : j3_S} {x1 : Int} {x2 : Int} {x3 : Int} :
  T10 d Q 41 [wO 1 76, wI x1, wI x2, wI x3] [] σ = Q none σ := j3_T.go d [0, 4, 11, 13, 26, 27, 40, 41] 400
def T11 (d : Nat) (Q : j3_P) : j3_K := j3_T false (j3_tc false d) jc_X1_want none Q
theorem e11 {d : Nat} {Q : j3_P} {σ : j3_S} {x1 : Int} : j3_tc false (d + 1) 11 [wO 1 76, wI x1] σ Q = T11 d Q 0 [wO 1 76, wI x1] [] σ := j3_entry ⟨Nat.le_of_ble_eq_true rfl, rfl⟩
set_option maxRecDepth 100000 in
theorem b11_0 {d : Nat} {Q : j3_P} {σ : j3_S} {x1 : Int} :
  T11 d Q 0 [wO 1 76, wI x1] [] σ = (if (σ.1 1012 76) < (4 : Int) then ((0 ≤ (σ.1 1012 76) ∧ (σ.1 1012 76) < 4) ∧ Q none ((j3_up σ.1 1012 76 (wr ((σ.1 1012 76) + 1))), σ.2.1, (j3_ast σ.2.2 1011 76 (σ.1 1012 76) x1))) else Q none σ) := j3_T.go d [0] 400
def T12 (d : Nat) (Q : j3_P) : j3_K := j3_T false (j3_tc false d) jc_X1_give none Q
theorem e12 {d : Nat} {Q : j3_P} {σ : j3_S} {x1 : Int} : j3_tc false (d + 1) 12 [wO 1 76, wI x1] σ Q = T12 d Q 0 [wO 1 76, wI x1] [] σ := j3_entry ⟨Nat.le_of_ble_eq_true rfl, rfl⟩
set_option maxRecDepth 100000 in
theorem b12_0 {d : Nat} {Q : j3_P} {σ : j3_S} {x1 : Int} :
  T12 d Q 0 [wO 1 76, wI x1] [] σ = Q none ((j3_up (j3_up σ.1 1013 76 x1) 1014 76 1), σ.2.1, σ.2.2) := j3_T.go d [0] 400
def T13 (d : Nat) (Q : j3_P) : j3_K := j3_T false (j3_tc false d) jc_X1_takeWanted (some .int) Q
theorem e13 {d : Nat} {Q : j3_P} {σ : j3_S} {x1 : Int} : j3_tc false (d + 1) 13 [wO 1 76, wI x1] σ Q = T13 d Q 0 [wO 1 76, wI x1, wM 2] [] σ := j3_entry ⟨Nat.le_of_ble_eq_true rfl, rfl⟩
set_option maxRecDepth 100000 in
theorem b13_0 {d : Nat} {Q : j3_P} {σ : j3_S} {x1 : Int} :
  T13 d Q 0 [wO 1 76, wI x1, wM 2] [] σ = (if (σ.1 1010 76) < (σ.1 1012 76) then Q (some (wI 3)) σ else T13 d Q 19 [wO 1 76, wI x1, wI (wr ((σ.1 1012 76) - 1))] [] ((j3_up σ.1 1010 76 (wr ((σ.1 1010 76) - (σ.1 1012 76)))), σ.2.1, σ.2.2)) := j3_T.go d [0, 19, 34, 47, 53, 67, 68] 400
set_option maxRecDepth 100000 in
theorem b13_19 {d : Nat} {Q : j3_P} {σ : j3_S} {x1 : Int} {x2 : Int} :
  T13 d Q 19 [wO 1 76, wI x1, wI x2] [] σ = (if x2 < 0 then (if x1 = (2 : Int) then (if (σ.1 1013 76) = 0 then Q (some (wI 4)) σ else T13 d Q 47 [wO 1 76, wI x1, wI x2] [] σ) else T13 d Q 47 [wO 1 76, wI x1, wI x2] [] σ) else ((0 ≤ (wr ((σ.1 1010 76) + x2)) ∧ (wr ((σ.1 1010 76) + x2)) < 10) ∧ ((0 ≤ x2 ∧ x2 < 4) ∧ j3_tc false d 14 [wO 1 76, wI (σ.2.2 1008 76 (wr ((σ.1 1010 76) + x2))), wI (σ.2.2 1011 76 x2)] σ (fun r σ1 => T13 d Q 34 [wO 1 76, wI x1, wI x2] (r.toList ++ []) σ1)))) := j3_T.go d [0, 19, 34, 47, 53, 67, 68] 400
set_option maxRecDepth 100000 in
theorem b13_34 {d : Nat} {Q : j3_P} {σ : j3_S} {x1 : Int} {x2 : Int} {xs0 : Int} :
  T13 d Q 34 [wO 1 76, wI x1, wI x2] [wI xs0] σ = (if xs0 = 0 then Q (some (wI 4)) σ else T13 d Q 19 [wO 1 76, wI x1, wI (wr (x2 + (-1)))] [] σ) := j3_T.go d [0, 19, 34, 47, 53, 67, 68] 400
set_option maxRecDepth 100000 in
theorem b13_47 {d : Nat} {Q : j3_P} {σ : j3_S} {x1 : Int} {x2 : Int} :
  T13 d Q 47 [wO 1 76, wI x1, wI x2] [] σ = (if x1 = (3 : Int) then T13 d Q 53 [wO 1 76, wI x1, wI x2] [] σ else (if x1 = (5 : Int) then T13 d Q 53 [wO 1 76, wI x1, wI x2] [] σ else T13 d Q 68 [wO 1 76, wI x1, wI x2] [] σ)) := j3_T.go d [0, 19, 34, 47, 53, 67, 68] 400
set_option maxRecDepth 100000 in
theorem b13_53 {d : Nat} {Q : j3_P} {σ : j3_S} {x1 : Int} {x2 : Int} :
  T13 d Q 53 [wO 1 76, wI x1, wI x2] [] σ = ((0 ≤ (σ.1 1010 76) ∧ (σ.1 1010 76) < 10) ∧ (if x1 = (5 : Int) then T13 d Q 67 [wO 1 76, wI x1, wI x2] [wI 2, wO 1 76] ((j3_up σ.1 1013 76 (σ.2.2 1008 76 (σ.1 1010 76))), σ.2.1, σ.2.2) else T13 d Q 67 [wO 1 76, wI x1, wI x2] [wI 0, wO 1 76] ((j3_up σ.1 1013 76 (σ.2.2 1008 76 (σ.1 1010 76))), σ.2.1, σ.2.2))) := j3_T.go d [0, 19, 34, 47, 53, 67, 68] 400
set_option maxRecDepth 100000 in
theorem b13_67 {d : Nat} {Q : j3_P} {σ : j3_S} {x1 : Int} {x2 : Int} {xs0 : Int} :
  T13 d Q 67 [wO 1 76, wI x1, wI x2] [wI xs0, wO 1 76] σ = T13 d Q 68 [wO 1 76, wI x1, wI x2] [] ((j3_up σ.1 1014 76 xs0), σ.2.1, σ.2.2) := j3_T.go d [0, 19, 34, 47, 53, 67, 68] 400
set_option maxRecDepth 100000 in
theorem b13_68 {d : Nat} {Q : j3_P} {σ : j3_S} {x1 : Int} {x2 : Int} :
  T13 d Q 68 [wO 1 76, wI x1, wI x2] [] σ = (if (10 : Int) < (wr ((σ.1 1010 76) + (σ.1 1014 76))) then Q (some (wI 5)) σ else Q (some (wI 0)) σ) := j3_T.go d [0, 19, 34, 47, 53, 67, 68] 400
def T14 (d : Nat) (Q : j3_P) : j3_K := j3_T false (j3_tc false d) jc_X1_fits (some .boolean) Q
theorem e14 {d : Nat} {Q : j3_P} {σ : j3_S} {x1 : Int} {x2 : Int} : j3_tc false (d + 1) 14 [wO 1 76, wI x1, wI x2] σ Q = T14 d Q 0 [wO 1 76, wI x1, wI x2] [] σ := j3_entry ⟨Nat.le_of_ble_eq_true rfl, rfl⟩
set_option maxRecDepth 100000 in
theorem b14_0 {d : Nat} {Q : j3_P} {σ : j3_S} {x1 : Int} {x2 : Int} :
  T14 d Q 0 [wO 1 76, wI x1, wI x2] [] σ = (if x2 = (-1 : Int) then (((1 : Int) = 0 ∨ (1 : Int) = 1) ∧ Q (some (wI 1)) σ) else (if x2 = (-2 : Int) then (if x1 = (1 : Int) then (((0 : Int) = 0 ∨ (0 : Int) = 1) ∧ Q (some (wI 0)) σ) else (((1 : Int) = 0 ∨ (1 : Int) = 1) ∧ Q (some (wI 1)) σ)) else (if x2 = (1 : Int) then T14 d Q 21 [wO 1 76, wI x1, wI x2] [] σ else (if x1 < (4 : Int) then T14 d Q 21 [wO 1 76, wI x1, wI x2] [] σ else (¬ (σ.2.1 0) = 0 ∧ j3_tc false d 48 [wO 3 (σ.2.1 0), wI (wr (x2 - 4)), wI (wr (x1 - 4))] σ (fun r σ1 => T14 d Q 43 [wO 1 76, wI x1, wI x2] (r.toList ++ []) σ1)))))) := j3_T.go d [0, 21, 30, 43] 400
set_option maxRecDepth 100000 in
theorem b14_21 {d : Nat} {Q : j3_P} {σ : j3_S} {x1 : Int} {x2 : Int} :
  T14 d Q 21 [wO 1 76, wI x1, wI x2] [] σ = (if x1 = x2 then T14 d Q 30 [wO 1 76, wI x1, wI x2] [] σ else (if x2 < (4 : Int) then (((0 : Int) = 0 ∨ (0 : Int) = 1) ∧ Q (some (wI 0)) σ) else (if x1 = (2 : Int) then T14 d Q 30 [wO 1 76, wI x1, wI x2] [] σ else (((0 : Int) = 0 ∨ (0 : Int) = 1) ∧ Q (some (wI 0)) σ)))) := j3_T.go d [0, 21, 30, 43] 400
set_option maxRecDepth 100000 in
theorem b14_30 {d : Nat} {Q : j3_P} {σ : j3_S} {x1 : Int} {x2 : Int} :
  T14 d Q 30 [wO 1 76, wI x1, wI x2] [] σ = (((1 : Int) = 0 ∨ (1 : Int) = 1) ∧ Q (some (wI 1)) σ) := j3_T.go d [0, 21, 30, 43] 400
set_option maxRecDepth 100000 in
theorem b14_43 {d : Nat} {Q : j3_P} {σ : j3_S} {x1 : Int} {x2 : Int} {xs0 : Int} :
  T14 d Q 43 [wO 1 76, wI x1, wI x2] [wI xs0] σ = ((xs0 = 0 ∨ xs0 = 1) ∧ Q (some (wI xs0)) σ) := j3_T.go d [0, 21, 30, 43] 400
def T15 (d : Nat) (Q : j3_P) : j3_K := j3_T false (j3_tc false d) jc_X1_goTo (some .int) Q
theorem e15 {d : Nat} {Q : j3_P} {σ : j3_S} {x1 : Int} : j3_tc false (d + 1) 15 [wO 1 76, wI x1] σ Q = T15 d Q 0 [wO 1 76, wI x1, wM 2, wM 2, wM 2] [] σ := j3_entry ⟨Nat.le_of_ble_eq_true rfl, rfl⟩
set_option maxRecDepth 100000 in
theorem b15_0 {d : Nat} {Q : j3_P} {σ : j3_S} {x1 : Int} :
  T15 d Q 0 [wO 1 76, wI x1, wM 2, wM 2, wM 2] [] σ = (if x1 < 0 then Q (some (wI 7)) σ else (if x1 < (120 : Int) then ((0 ≤ x1 ∧ x1 < 120) ∧ (if (σ.2.2 1005 76 x1) < 0 then ((0 ≤ x1 ∧ x1 < 120) ∧ ((0 ≤ (0 : Int) ∧ 0 ≤ (wr (x1 * 10)) ∧ 0 ≤ (σ.1 1010 76) ∧ (0 : Int) + (σ.1 1010 76) ≤ 10 ∧ (wr (x1 * 10)) + (σ.1 1010 76) ≤ 1200) ∧ (¬ (σ.2.1 0) = 0 ∧ ((0 ≤ (σ.1 1003 76) ∧ (σ.1 1003 76) < 80) ∧ ((0 ≤ (0 : Int) ∧ 0 ≤ (wr (x1 * 20)) ∧ 0 ≤ (σ.2.2 3017 (σ.2.1 0) (σ.1 1003 76)) ∧ (0 : Int) + (σ.2.2 3017 (σ.2.1 0) (σ.1 1003 76)) ≤ 20 ∧ (wr (x1 * 20)) + (σ.2.2 3017 (σ.2.1 0) (σ.1 1003 76)) ≤ 2400) ∧ (((1 : Int) = 0 ∨ (1 : Int) = 1) ∧ Q (some (wI 0)) ((j3_up σ.1 1004 76 1), σ.2.1, (j3_acp (j3_acp (j3_ast σ.2.2 1005 76 x1 (σ.1 1010 76)) 1008 76 1006 76 0 (wr (x1 * 10)) (σ.1 1010 76)) 1009 76 1007 76 0 (wr (x1 * 20)) (σ.2.2 3017 (σ.2.1 0) (σ.1 1003 76)))))))))) else ((0 ≤ x1 ∧ x1 < 120) ∧ (if (σ.2.2 1005 76 x1) = (σ.1 1010 76) then T15 d Q 64 [wO 1 76, wI x1, wI (wr (x1 * 10)), wI (wr (x1 * 20)), wI 0] [] σ else Q (some (wI 6)) σ)))) else Q (some (wI 7)) σ)) := j3_T.go d [0, 64, 79, 88, 102, 115] 400
set_option maxRecDepth 100000 in
theorem b15_64 {d : Nat} {Q : j3_P} {σ : j3_S} {x1 : Int} {x2 : Int} {x3 : Int} {x4 : Int} :
  T15 d Q 64 [wO 1 76, wI x1, wI x2, wI x3, wI x4] [] σ = (if x4 < (σ.1 1010 76) then ((0 ≤ (wr (x2 + x4)) ∧ (wr (x2 + x4)) < 1200) ∧ (if (σ.2.2 1006 76 (wr (x2 + x4))) = (1 : Int) then T15 d Q 79 [wO 1 76, wI x1, wI x2, wI x3, wI x4] [wI 1] σ else T15 d Q 79 [wO 1 76, wI x1, wI x2, wI x3, wI x4] [wI 0] σ)) else j3_tc false d 16 [wO 1 76, wA 1006 76, wI x2, wA 1008 76, wI (σ.1 1010 76)] σ (fun r σ1 => T15 d Q 102 [wO 1 76, wI x1, wI x2, wI x3, wI x4] (r.toList ++ []) σ1)) := j3_T.go d [0, 64, 79, 88, 102, 115] 400
set_option maxRecDepth 100000 in
theorem b15_79 {d : Nat} {Q : j3_P} {σ : j3_S} {x1 : Int} {x2 : Int} {x3 : Int} {x4 : Int} {xs0 : Int} :
  T15 d Q 79 [wO 1 76, wI x1, wI x2, wI x3, wI x4] [wI xs0] σ = ((0 ≤ x4 ∧ x4 < 10) ∧ (if (σ.2.2 1008 76 x4) = (1 : Int) then T15 d Q 88 [wO 1 76, wI x1, wI x2, wI x3, wI x4] [wI 1, wI xs0] σ else T15 d Q 88 [wO 1 76, wI x1, wI x2, wI x3, wI x4] [wI 0, wI xs0] σ)) := j3_T.go d [0, 64, 79, 88, 102, 115] 400
set_option maxRecDepth 100000 in
theorem b15_88 {d : Nat} {Q : j3_P} {σ : j3_S} {x1 : Int} {x2 : Int} {x3 : Int} {x4 : Int} {xs0 : Int} {xs1 : Int} :
  T15 d Q 88 [wO 1 76, wI x1, wI x2, wI x3, wI x4] [wI xs0, wI xs1] σ = (if xs1 = xs0 then T15 d Q 64 [wO 1 76, wI x1, wI x2, wI x3, wI (wr (x4 + 1))] [] σ else Q (some (wI 6)) σ) := j3_T.go d [0, 64, 79, 88, 102, 115] 400
set_option maxRecDepth 100000 in
theorem b15_102 {d : Nat} {Q : j3_P} {σ : j3_S} {x1 : Int} {x2 : Int} {x3 : Int} {x4 : Int} :
  T15 d Q 102 [wO 1 76, wI x1, wI x2, wI x3, wI x4] [] σ = (¬ (σ.2.1 0) = 0 ∧ ((0 ≤ (σ.1 1003 76) ∧ (σ.1 1003 76) < 80) ∧ j3_tc false d 16 [wO 1 76, wA 1007 76, wI x3, wA 1009 76, wI (σ.2.2 3017 (σ.2.1 0) (σ.1 1003 76))] σ (fun r σ1 => T15 d Q 115 [wO 1 76, wI x1, wI x2, wI x3, wI x4] (r.toList ++ []) σ1))) := j3_T.go d [0, 64, 79, 88, 102, 115] 400
set_option maxRecDepth 100000 in
theorem b15_115 {d : Nat} {Q : j3_P} {σ : j3_S} {x1 : Int} {x2 : Int} {x3 : Int} {x4 : Int} :
  T15 d Q 115 [wO 1 76, wI x1, wI x2, wI x3, wI x4] [] σ = Q (some (wI 0)) σ := j3_T.go d [0, 64, 79, 88, 102, 115] 400
def T16 (d : Nat) (Q : j3_P) : j3_K := j3_T false (j3_tc false d) jc_X1_meetAll none Q
theorem e16 {d : Nat} {Q : j3_P} {σ : j3_S} {e1 o1 : Nat} {x2 : Int} {e3 o3 : Nat} {x4 : Int} : j3_tc false (d + 1) 16 [wO 1 76, wA e1 o1, wI x2, wA e3 o3, wI x4] σ Q = T16 d Q 0 [wO 1 76, wA e1 o1, wI x2, wA e3 o3, wI x4, wM 2, wM 2] [] σ := j3_entry ⟨Nat.le_of_ble_eq_true rfl, rfl⟩
set_option maxRecDepth 100000 in
theorem b16_0 {d : Nat} {Q : j3_P} {σ : j3_S} {e1 o1 : Nat} {x2 : Int} {e3 o3 : Nat} {x4 : Int} :
  T16 d Q 0 [wO 1 76, wA e1 o1, wI x2, wA e3 o3, wI x4, wM 2, wM 2] [] σ = T16 d Q 2 [wO 1 76, wA e1 o1, wI x2, wA e3 o3, wI x4, wI 0, wM 2] [] σ := j3_T.go d [0, 2, 15, 32] 400
set_option maxRecDepth 100000 in
theorem b16_2 {d : Nat} {Q : j3_P} {σ : j3_S} {e1 o1 : Nat} {x2 : Int} {e3 o3 : Nat} {x4 : Int} {x5 : Int} {w6 : j3_W} :
  T16 d Q 2 [wO 1 76, wA e1 o1, wI x2, wA e3 o3, wI x4, wI x5, w6] [] σ = (if x5 < x4 then (bif (lt_fq e1 == 0) && j3_g false e1 then (0 ≤ (wr (x2 + x5)) ∧ (wr (x2 + x5)) < (lt_fn e1 : Int)) ∧ (bif (lt_fq e3 == 0) && j3_g false e3 then (0 ≤ x5 ∧ x5 < (lt_fn e3 : Int)) ∧ j3_tc false d 17 [wO 1 76, wI (σ.2.2 e1 o1 (wr (x2 + x5))), wI (σ.2.2 e3 o3 x5)] σ (fun r σ1 => T16 d Q 15 [wO 1 76, wA e1 o1, wI x2, wA e3 o3, wI x4, wI x5, w6] (r.toList ++ []) σ1) else False) else False) else Q none σ) := j3_T.go d [0, 2, 15, 32] 400
set_option maxRecDepth 100000 in
theorem b16_15 {d : Nat} {Q : j3_P} {σ : j3_S} {e1 o1 : Nat} {x2 : Int} {e3 o3 : Nat} {x4 : Int} {x5 : Int} {w6 : j3_W} {xs0 : Int} :
  T16 d Q 15 [wO 1 76, wA e1 o1, wI x2, wA e3 o3, wI x4, wI x5, w6] [wI xs0] σ = (bif (lt_fq e1 == 0) && j3_g false e1 then (0 ≤ (wr (x2 + x5)) ∧ (wr (x2 + x5)) < (lt_fn e1 : Int)) ∧ (if xs0 = (σ.2.2 e1 o1 (wr (x2 + x5))) then T16 d Q 32 [wO 1 76, wA e1 o1, wI x2, wA e3 o3, wI x4, wI x5, wI xs0] [] σ else (bif (lt_fq e1 == 0) && j3_g false e1 then (0 ≤ (wr (x2 + x5)) ∧ (wr (x2 + x5)) < (lt_fn e1 : Int)) ∧ (((1 : Int) = 0 ∨ (1 : Int) = 1) ∧ T16 d Q 32 [wO 1 76, wA e1 o1, wI x2, wA e3 o3, wI x4, wI x5, wI xs0] [] ((j3_up σ.1 1004 76 1), σ.2.1, (j3_ast σ.2.2 e1 o1 (wr (x2 + x5)) xs0))) else False)) else False) := j3_T.go d [0, 2, 15, 32] 400
set_option maxRecDepth 100000 in
theorem b16_32 {d : Nat} {Q : j3_P} {σ : j3_S} {e1 o1 : Nat} {x2 : Int} {e3 o3 : Nat} {x4 : Int} {x5 : Int} {x6 : Int} :
  T16 d Q 32 [wO 1 76, wA e1 o1, wI x2, wA e3 o3, wI x4, wI x5, wI x6] [] σ = T16 d Q 2 [wO 1 76, wA e1 o1, wI x2, wA e3 o3, wI x4, wI (wr (x5 + 1)), wI x6] [] σ := j3_T.go d [0, 2, 15, 32] 400
def T17 (d : Nat) (Q : j3_P) : j3_K := j3_T false (j3_tc false d) jc_X1_meet (some .int) Q
theorem e17 {d : Nat} {Q : j3_P} {σ : j3_S} {x1 : Int} {x2 : Int} : j3_tc false (d + 1) 17 [wO 1 76, wI x1, wI x2] σ Q = T17 d Q 0 [wO 1 76, wI x1, wI x2, wM 2, wM 2] [] σ := j3_entry ⟨Nat.le_of_ble_eq_true rfl, rfl⟩
set_option maxRecDepth 100000 in
theorem b17_0 {d : Nat} {Q : j3_P} {σ : j3_S} {x1 : Int} {x2 : Int} :
  T17 d Q 0 [wO 1 76, wI x1, wI x2, wM 2, wM 2] [] σ = (if x1 = x2 then Q (some (wI x1)) σ else (if (1 : Int) < x1 then (if (1 : Int) < x2 then (if x1 = (2 : Int) then T17 d Q 19 [wO 1 76, wI x1, wI x2, wM 2, wM 2] [] σ else (if x2 = (2 : Int) then T17 d Q 19 [wO 1 76, wI x1, wI x2, wM 2, wM 2] [] σ else (if x1 = (3 : Int) then Q (some (wI 3)) σ else (if x2 = (3 : Int) then Q (some (wI 3)) σ else T17 d Q 40 [wO 1 76, wI x1, wI x2, wI (wr (x1 - 4)), wI 0] [] σ)))) else Q (some (wI 0)) σ) else Q (some (wI 0)) σ)) := j3_T.go d [0, 19, 40, 52] 400
set_option maxRecDepth 100000 in
theorem b17_19 {d : Nat} {Q : j3_P} {σ : j3_S} {x1 : Int} {x2 : Int} :
  T17 d Q 19 [wO 1 76, wI x1, wI x2, wM 2, wM 2] [] σ = (if x1 = (2 : Int) then Q (some (wI x2)) σ else Q (some (wI x1)) σ) := j3_T.go d [0, 19, 40, 52] 400
set_option maxRecDepth 100000 in
theorem b17_40 {d : Nat} {Q : j3_P} {σ : j3_S} {x1 : Int} {x2 : Int} {x3 : Int} {x4 : Int} :
  T17 d Q 40 [wO 1 76, wI x1, wI x2, wI x3, wI x4] [] σ = (if x4 < (10 : Int) then (if x3 < 0 then Q (some (wI 3)) σ else (¬ (σ.2.1 0) = 0 ∧ j3_tc false d 48 [wO 3 (σ.2.1 0), wI x3, wI (wr (x2 - 4))] σ (fun r σ1 => T17 d Q 52 [wO 1 76, wI x1, wI x2, wI x3, wI x4] (r.toList ++ []) σ1))) else Q (some (wI 3)) σ) := j3_T.go d [0, 19, 40, 52] 400
set_option maxRecDepth 100000 in
theorem b17_52 {d : Nat} {Q : j3_P} {σ : j3_S} {x1 : Int} {x2 : Int} {x3 : Int} {x4 : Int} {xs0 : Int} :
  T17 d Q 52 [wO 1 76, wI x1, wI x2, wI x3, wI x4] [wI xs0] σ = (if xs0 = 0 then (¬ (σ.2.1 0) = 0 ∧ ((0 ≤ x3 ∧ x3 < 10) ∧ T17 d Q 40 [wO 1 76, wI x1, wI x2, wI (σ.2.2 3003 (σ.2.1 0) x3), wI (wr (x4 + 1))] [] σ)) else Q (some (wI (wr (4 + x3)))) σ) := j3_T.go d [0, 19, 40, 52] 400
def T19 (d : Nat) (Q : j3_P) : j3_K := j3_T false (j3_tc false d) jc_X2_forget none Q
theorem e19 {d : Nat} {Q : j3_P} {σ : j3_S}  : j3_tc false (d + 1) 19 [wO 2 109] σ Q = T19 d Q 0 [wO 2 109] [] σ := j3_entry ⟨Nat.le_of_ble_eq_true rfl, rfl⟩
set_option maxRecDepth 100000 in
theorem b19_0 {d : Nat} {Q : j3_P} {σ : j3_S}  :
  T19 d Q 0 [wO 2 109] [] σ = (((0 : Int) = 0 ∨ (0 : Int) = 1) ∧ Q none ((j3_up σ.1 2000 109 0), σ.2.1, σ.2.2)) := j3_T.go d [0] 400
def T20 (d : Nat) (Q : j3_P) : j3_K := j3_T false (j3_tc false d) jc_X2_go (some .int) Q
theorem e20 {d : Nat} {Q : j3_P} {σ : j3_S} {o1 : Nat} {x2 : Int} {x3 : Int} : j3_tc false (d + 1) 20 [wO 2 109, wO 3 o1, wI x2, wI x3] σ Q = T20 d Q 0 [wO 2 109, wO 3 o1, wI x2, wI x3, wM 2, wM 2] [] σ := j3_entry ⟨Nat.le_of_ble_eq_true rfl, rfl⟩
set_option maxRecDepth 100000 in
theorem b20_0 {d : Nat} {Q : j3_P} {σ : j3_S} {o1 : Nat} {x2 : Int} {x3 : Int} :
  T20 d Q 0 [wO 2 109, wO 3 o1, wI x2, wI x3, wM 2, wM 2] [] σ = (((1 : Int) = 0 ∨ (1 : Int) = 1) ∧ j3_tc false d 248 [wA 2001 109, wI 0] ((j3_up (j3_up (j3_up (j3_up σ.1 2000 109 1) 2006 109 (-1)) 2007 109 0) 2012 109 0), (j3_upP σ.2.1 1 o1), σ.2.2) (fun r σ1 => T20 d Q 19 [wO 2 109, wO 3 o1, wI x2, wI x3, wM 2, wM 2] (r.toList ++ []) σ1)) := j3_T.go d [0, 19, 23, 26, 30, 40, 42, 53, 71] 400
set_option maxRecDepth 100000 in
theorem b20_19 {d : Nat} {Q : j3_P} {σ : j3_S} {o1 : Nat} {x2 : Int} {x3 : Int} :
  T20 d Q 19 [wO 2 109, wO 3 o1, wI x2, wI x3, wM 2, wM 2] [] σ = j3_tc false d 248 [wA 2015 109, wI 0] σ (fun r σ1 => T20 d Q 23 [wO 2 109, wO 3 o1, wI x2, wI x3, wM 2, wM 2] (r.toList ++ []) σ1) := j3_T.go d [0, 19, 23, 26, 30, 40, 42, 53, 71] 400
set_option maxRecDepth 100000 in
theorem b20_23 {d : Nat} {Q : j3_P} {σ : j3_S} {o1 : Nat} {x2 : Int} {x3 : Int} :
  T20 d Q 23 [wO 2 109, wO 3 o1, wI x2, wI x3, wM 2, wM 2] [] σ = j3_tc false d 24 [wO 2 109, wI x2] σ (fun r σ1 => T20 d Q 26 [wO 2 109, wO 3 o1, wI x2, wI x3, wM 2, wM 2] (r.toList ++ []) σ1) := j3_T.go d [0, 19, 23, 26, 30, 40, 42, 53, 71] 400
set_option maxRecDepth 100000 in
theorem b20_26 {d : Nat} {Q : j3_P} {σ : j3_S} {o1 : Nat} {x2 : Int} {x3 : Int} :
  T20 d Q 26 [wO 2 109, wO 3 o1, wI x2, wI x3, wM 2, wM 2] [] σ = T20 d Q 30 [wO 2 109, wO 3 o1, wI x2, wI x3, wI 0, wI 0] [] σ := j3_T.go d [0, 19, 23, 26, 30, 40, 42, 53, 71] 400
set_option maxRecDepth 100000 in
theorem b20_30 {d : Nat} {Q : j3_P} {σ : j3_S} {o1 : Nat} {x2 : Int} {x3 : Int} {x4 : Int} {x5 : Int} :
  T20 d Q 30 [wO 2 109, wO 3 o1, wI x2, wI x3, wI x4, wI x5] [] σ = (if x5 < x3 then (if (σ.1 2006 109) = (-1 : Int) then j3_tc false d 28 [wO 2 109] σ (fun r σ1 => T20 d Q 40 [wO 2 109, wO 3 o1, wI x2, wI x3, wI (wr (x4 + 1)), wI x5] (r.toList ++ []) σ1) else T20 d Q 42 [wO 2 109, wO 3 o1, wI x2, wI x3, wI x4, wI x5] [] σ) else T20 d Q 42 [wO 2 109, wO 3 o1, wI x2, wI x3, wI x4, wI x5] [] σ) := j3_T.go d [0, 19, 23, 26, 30, 40, 42, 53, 71] 400
set_option maxRecDepth 100000 in
theorem b20_40 {d : Nat} {Q : j3_P} {σ : j3_S} {o1 : Nat} {x2 : Int} {x3 : Int} {x4 : Int} {x5 : Int} :
  T20 d Q 40 [wO 2 109, wO 3 o1, wI x2, wI x3, wI x4, wI x5] [] σ = T20 d Q 30 [wO 2 109, wO 3 o1, wI x2, wI x3, wI x4, wI (wr (x5 + 1))] [] σ := j3_T.go d [0, 19, 23, 26, 30, 40, 42, 53, 71] 400
set_option maxRecDepth 100000 in
theorem b20_42 {d : Nat} {Q : j3_P} {σ : j3_S} {o1 : Nat} {x2 : Int} {x3 : Int} {x4 : Int} {x5 : Int} :
  T20 d Q 42 [wO 2 109, wO 3 o1, wI x2, wI x3, wI x4, wI x5] [] σ = (if (σ.1 2006 109) = (-1 : Int) then T20 d Q 53 [wO 2 109, wO 3 o1, wI x2, wI x3, wI x4, wI x5] [wI 2, wI 0, wA 2001 109] σ else T20 d Q 53 [wO 2 109, wO 3 o1, wI x2, wI x3, wI x4, wI x5] [wI (σ.1 2006 109), wI 0, wA 2001 109] σ) := j3_T.go d [0, 19, 23, 26, 30, 40, 42, 53, 71] 400
set_option maxRecDepth 100000 in
theorem b20_53 {d : Nat} {Q : j3_P} {σ : j3_S} {o1 : Nat} {x2 : Int} {x3 : Int} {x4 : Int} {x5 : Int} {xs0 : Int} {xs1 : Int} :
  T20 d Q 53 [wO 2 109, wO 3 o1, wI x2, wI x3, wI x4, wI x5] [wI xs0, wI xs1, wA 2001 109] σ = ((0 ≤ xs1 ∧ xs1 < 8) ∧ ((0 ≤ (1 : Int) ∧ (1 : Int) < 8) ∧ ((0 ≤ (5 : Int) ∧ (5 : Int) < 8) ∧ (if (σ.1 2006 109) = (1 : Int) then j3_tc false d 21 [wO 2 109] (σ.1, σ.2.1, (j3_ast (j3_ast (j3_ast σ.2.2 2001 109 xs1 xs0) 2001 109 1 x4) 2001 109 5 (σ.1 2012 109))) (fun r σ1 => T20 d Q 71 [wO 2 109, wO 3 o1, wI x2, wI x3, wI x4, wI x5] (r.toList ++ []) σ1) else T20 d Q 71 [wO 2 109, wO 3 o1, wI x2, wI x3, wI x4, wI x5] [] (σ.1, σ.2.1, (j3_ast (j3_ast (j3_ast σ.2.2 2001 109 xs1 xs0) 2001 109 1 x4) 2001 109 5 (σ.1 2012 109))))))) := j3_T.go d [0, 19, 23, 26, 30, 40, 42, 53, 71] 400
set_option maxRecDepth 100000 in
theorem b20_71 {d : Nat} {Q : j3_P} {σ : j3_S} {o1 : Nat} {x2 : Int} {x3 : Int} {x4 : Int} {x5 : Int} :
  T20 d Q 71 [wO 2 109, wO 3 o1, wI x2, wI x3, wI x4, wI x5] [] σ = ((0 ≤ (0 : Int) ∧ (0 : Int) < 8) ∧ Q (some (wI (σ.2.2 2001 109 0))) σ) := j3_T.go d [0, 19, 23, 26, 30, 40, 42, 53, 71] 400
def T21 (d : Nat) (Q : j3_P) : j3_K := j3_T false (j3_tc false d) jc_X2_takeTrace none Q
theorem e21 {d : Nat} {Q : j3_P} {σ : j3_S}  : j3_tc false (d + 1) 21 [wO 2 109] σ Q = T21 d Q 0 [wO 2 109, wM 2, wM 2] [] σ := j3_entry ⟨Nat.le_of_ble_eq_true rfl, rfl⟩
set_option maxRecDepth 100000 in
theorem b21_0 {d : Nat} {Q : j3_P} {σ : j3_S}  :
  T21 d Q 0 [wO 2 109, wM 2, wM 2] [] σ = ((0 ≤ (4 : Int) ∧ (4 : Int) < 8) ∧ T21 d Q 8 [wO 2 109, wI 0, wM 2] [] (σ.1, σ.2.1, (j3_ast σ.2.2 2001 109 4 (σ.1 2007 109)))) := j3_T.go d [0, 8] 400
set_option maxRecDepth 100000 in
theorem b21_8 {d : Nat} {Q : j3_P} {σ : j3_S} {x1 : Int} {w2 : j3_W} :
  T21 d Q 8 [wO 2 109, wI x1, w2] [] σ = (if x1 < (σ.1 2007 109) then ((0 ≤ (wr ((wr ((σ.1 2007 109) - 1)) - x1)) ∧ (wr ((wr ((σ.1 2007 109) - 1)) - x1)) < 40) ∧ ((0 ≤ (wr ((wr ((σ.1 2007 109) - 1)) - x1)) ∧ (wr ((wr ((σ.1 2007 109) - 1)) - x1)) < 40) ∧ ((0 ≤ x1 ∧ x1 < 40) ∧ T21 d Q 8 [wO 2 109, wI (wr (x1 + 1)), wI (wr ((wr ((σ.1 2007 109) - 1)) - x1))] [] (σ.1, σ.2.1, (j3_ast σ.2.2 2003 109 x1 (wr ((wr ((σ.2.2 2008 109 (wr ((wr ((σ.1 2007 109) - 1)) - x1))) * 1000)) + (σ.2.2 2009 109 (wr ((wr ((σ.1 2007 109) - 1)) - x1)))))))))) else Q none σ) := j3_T.go d [0, 8] 400
def T22 (d : Nat) (Q : j3_P) : j3_K := j3_T false (j3_tc false d) jc_X2_tellBack none Q
theorem e22 {d : Nat} {Q : j3_P} {σ : j3_S} {x1 : Int} : j3_tc false (d + 1) 22 [wO 2 109, wI x1, wA 6003 83, wA 6004 83] σ Q = T22 d Q 0 [wO 2 109, wI x1, wA 6003 83, wA 6004 83, wM 2, wM 2] [] σ := j3_entry ⟨Nat.le_of_ble_eq_true rfl, rfl⟩
set_option maxRecDepth 100000 in
theorem b22_0 {d : Nat} {Q : j3_P} {σ : j3_S} {x1 : Int} :
  T22 d Q 0 [wO 2 109, wI x1, wA 6003 83, wA 6004 83, wM 2, wM 2] [] σ = ((0 ≤ (7 : Int) ∧ (7 : Int) < 8) ∧ T22 d Q 7 [wO 2 109, wI x1, wA 6003 83, wA 6004 83, wI 0, wM 2] [] (σ.1, σ.2.1, (j3_ast σ.2.2 2001 109 7 0))) := j3_T.go d [0, 7, 21, 43, 48] 400
set_option maxRecDepth 100000 in
theorem b22_7 {d : Nat} {Q : j3_P} {σ : j3_S} {x1 : Int} {x4 : Int} {w5 : j3_W} :
  T22 d Q 7 [wO 2 109, wI x1, wA 6003 83, wA 6004 83, wI x4, w5] [] σ = ((0 ≤ (4 : Int) ∧ (4 : Int) < 8) ∧ (if x4 < (σ.2.2 2001 109 4) then (if x1 = 0 then ((0 ≤ x4 ∧ x4 < 40) ∧ j3_tc false d 23 [wO 2 109, wI (σ.2.2 2003 109 x4)] σ (fun r σ1 => T22 d Q 21 [wO 2 109, wI x1, wA 6003 83, wA 6004 83, wI x4, w5] (r.toList ++ []) σ1)) else ((0 ≤ x4 ∧ x4 < 40) ∧ (¬ (1000 : Int) = 0 ∧ ((0 ≤ x4 ∧ x4 < 40) ∧ (¬ (1000 : Int) = 0 ∧ ((0 ≤ (wr ((wr ((i_dv (σ.2.2 2003 109 x4) 1000) * 120)) + (i_rm (σ.2.2 2003 109 x4) 1000))) ∧ (wr ((wr ((i_dv (σ.2.2 2003 109 x4) 1000) * 120)) + (i_rm (σ.2.2 2003 109 x4) 1000))) < 9600) ∧ j3_tc false d 23 [wO 2 109, wI (σ.2.2 6003 83 (wr ((wr ((i_dv (σ.2.2 2003 109 x4) 1000) * 120)) + (i_rm (σ.2.2 2003 109 x4) 1000))))] σ (fun r σ1 => T22 d Q 43 [wO 2 109, wI x1, wA 6003 83, wA 6004 83, wI x4, wI (wr ((wr ((i_dv (σ.2.2 2003 109 x4) 1000) * 120)) + (i_rm (σ.2.2 2003 109 x4) 1000)))] (r.toList ++ []) σ1))))))) else Q none σ)) := j3_T.go d [0, 7, 21, 43, 48] 400
set_option maxRecDepth 100000 in
theorem b22_21 {d : Nat} {Q : j3_P} {σ : j3_S} {x1 : Int} {x4 : Int} {w5 : j3_W} :
  T22 d Q 21 [wO 2 109, wI x1, wA 6003 83, wA 6004 83, wI x4, w5] [] σ = T22 d Q 48 [wO 2 109, wI x1, wA 6003 83, wA 6004 83, wI x4, w5] [] σ := j3_T.go d [0, 7, 21, 43, 48] 400
set_option maxRecDepth 100000 in
theorem b22_43 {d : Nat} {Q : j3_P} {σ : j3_S} {x1 : Int} {x4 : Int} {x5 : Int} :
  T22 d Q 43 [wO 2 109, wI x1, wA 6003 83, wA 6004 83, wI x4, wI x5] [] σ = ((0 ≤ x5 ∧ x5 < 9600) ∧ j3_tc false d 23 [wO 2 109, wI (σ.2.2 6004 83 x5)] σ (fun r σ1 => T22 d Q 48 [wO 2 109, wI x1, wA 6003 83, wA 6004 83, wI x4, wI x5] (r.toList ++ []) σ1)) := j3_T.go d [0, 7, 21, 43, 48] 400
set_option maxRecDepth 100000 in
theorem b22_48 {d : Nat} {Q : j3_P} {σ : j3_S} {x1 : Int} {x4 : Int} {w5 : j3_W} :
  T22 d Q 48 [wO 2 109, wI x1, wA 6003 83, wA 6004 83, wI x4, w5] [] σ = T22 d Q 7 [wO 2 109, wI x1, wA 6003 83, wA 6004 83, wI (wr (x4 + 1)), w5] [] σ := j3_T.go d [0, 7, 21, 43, 48] 400
def T23 (d : Nat) (Q : j3_P) : j3_K := j3_T false (j3_tc false d) jc_X2_addBack none Q
theorem e23 {d : Nat} {Q : j3_P} {σ : j3_S} {x1 : Int} : j3_tc false (d + 1) 23 [wO 2 109, wI x1] σ Q = T23 d Q 0 [wO 2 109, wI x1] [] σ := j3_entry ⟨Nat.le_of_ble_eq_true rfl, rfl⟩
set_option maxRecDepth 100000 in
theorem b23_0 {d : Nat} {Q : j3_P} {σ : j3_S} {x1 : Int} :
  T23 d Q 0 [wO 2 109, wI x1] [] σ = (if x1 = (-1 : Int) then Q none σ else ((0 ≤ (7 : Int) ∧ (7 : Int) < 8) ∧ (if (σ.2.2 2001 109 7) < (80 : Int) then ((0 ≤ (7 : Int) ∧ (7 : Int) < 8) ∧ ((0 ≤ (σ.2.2 2001 109 7) ∧ (σ.2.2 2001 109 7) < 80) ∧ ((0 ≤ (7 : Int) ∧ (7 : Int) < 8) ∧ ((0 ≤ (7 : Int) ∧ (7 : Int) < 8) ∧ Q none (σ.1, σ.2.1, (j3_ast (j3_ast σ.2.2 2004 109 (σ.2.2 2001 109 7) x1) 2001 109 7 (wr ((σ.2.2 2001 109 7) + 1)))))))) else Q none σ))) := j3_T.go d [0] 400
def T24 (d : Nat) (Q : j3_P) : j3_K := j3_T false (j3_tc false d) jc_X2_pushFrame none Q
theorem e24 {d : Nat} {Q : j3_P} {σ : j3_S} {x1 : Int} : j3_tc false (d + 1) 24 [wO 2 109, wI x1] σ Q = T24 d Q 0 [wO 2 109, wI x1] [] σ := j3_entry ⟨Nat.le_of_ble_eq_true rfl, rfl⟩
set_option maxRecDepth 100000 in
theorem b24_0 {d : Nat} {Q : j3_P} {σ : j3_S} {x1 : Int} :
  T24 d Q 0 [wO 2 109, wI x1] [] σ = ((0 ≤ (σ.1 2007 109) ∧ (σ.1 2007 109) < 40) ∧ ((0 ≤ (σ.1 2007 109) ∧ (σ.1 2007 109) < 40) ∧ ((0 ≤ (σ.1 2007 109) ∧ (σ.1 2007 109) < 40) ∧ ((0 ≤ (6 : Int) ∧ (6 : Int) < 8) ∧ ((0 ≤ (6 : Int) ∧ (6 : Int) < 8) ∧ Q none ((j3_up σ.1 2007 109 (wr ((σ.1 2007 109) + 1))), σ.2.1, (j3_ast (j3_ast (j3_ast (j3_ast σ.2.2 2008 109 (σ.1 2007 109) x1) 2009 109 (σ.1 2007 109) 0) 2010 109 (σ.1 2007 109) 0) 2001 109 6 (if (σ.2.2 2001 109 6) < (wr ((σ.1 2007 109) + 1)) then (wr ((σ.1 2007 109) + 1)) else (σ.2.2 2001 109 6))))))))) := j3_T.go d [0] 400
def T25 (d : Nat) (Q : j3_P) : j3_K := j3_T false (j3_tc false d) jc_X2_trap none Q
theorem e25 {d : Nat} {Q : j3_P} {σ : j3_S} {x1 : Int} : j3_tc false (d + 1) 25 [wO 2 109, wI x1] σ Q = T25 d Q 0 [wO 2 109, wI x1] [] σ := j3_entry ⟨Nat.le_of_ble_eq_true rfl, rfl⟩
set_option maxRecDepth 100000 in
theorem b25_0 {d : Nat} {Q : j3_P} {σ : j3_S} {x1 : Int} :
  T25 d Q 0 [wO 2 109, wI x1] [] σ = ((0 ≤ (2 : Int) ∧ (2 : Int) < 8) ∧ Q none ((j3_up σ.1 2006 109 1), σ.2.1, (j3_ast σ.2.2 2001 109 2 x1))) := j3_T.go d [0] 400
def T26 (d : Nat) (Q : j3_P) : j3_K := j3_T false (j3_tc false d) jc_X2_push none Q
theorem e26 {d : Nat} {Q : j3_P} {σ : j3_S} {x1 : Int} : j3_tc false (d + 1) 26 [wO 2 109, wI x1] σ Q = T26 d Q 0 [wO 2 109, wI x1, wM 2] [] σ := j3_entry ⟨Nat.le_of_ble_eq_true rfl, rfl⟩
set_option maxRecDepth 100000 in
theorem b26_0 {d : Nat} {Q : j3_P} {σ : j3_S} {x1 : Int} :
  T26 d Q 0 [wO 2 109, wI x1, wM 2] [] σ = (if (wr ((σ.1 2007 109) - 1)) < 0 then Q none σ else ((0 ≤ (wr ((σ.1 2007 109) - 1)) ∧ (wr ((σ.1 2007 109) - 1)) < 40) ∧ (if (σ.2.2 2010 109 (wr ((σ.1 2007 109) - 1))) < (10 : Int) then ((0 ≤ (wr ((σ.1 2007 109) - 1)) ∧ (wr ((σ.1 2007 109) - 1)) < 40) ∧ ((0 ≤ (wr ((wr ((wr ((wr ((σ.1 2007 109) - 1)) * 30)) + 20)) + (σ.2.2 2010 109 (wr ((σ.1 2007 109) - 1))))) ∧ (wr ((wr ((wr ((wr ((σ.1 2007 109) - 1)) * 30)) + 20)) + (σ.2.2 2010 109 (wr ((σ.1 2007 109) - 1))))) < 1200) ∧ ((0 ≤ (wr ((σ.1 2007 109) - 1)) ∧ (wr ((σ.1 2007 109) - 1)) < 40) ∧ ((0 ≤ (wr ((σ.1 2007 109) - 1)) ∧ (wr ((σ.1 2007 109) - 1)) < 40) ∧ Q none (σ.1, σ.2.1, (j3_ast (j3_ast σ.2.2 2011 109 (wr ((wr ((wr ((wr ((σ.1 2007 109) - 1)) * 30)) + 20)) + (σ.2.2 2010 109 (wr ((σ.1 2007 109) - 1))))) x1) 2010 109 (wr ((σ.1 2007 109) - 1)) (wr ((σ.2.2 2010 109 (wr ((σ.1 2007 109) - 1))) + 1)))))))) else Q none σ))) := j3_T.go d [0] 400
def T27 (d : Nat) (Q : j3_P) : j3_K := j3_T false (j3_tc false d) jc_X2_pop (some .int) Q
theorem e27 {d : Nat} {Q : j3_P} {σ : j3_S}  : j3_tc false (d + 1) 27 [wO 2 109] σ Q = T27 d Q 0 [wO 2 109, wM 2] [] σ := j3_entry ⟨Nat.le_of_ble_eq_true rfl, rfl⟩
set_option maxRecDepth 100000 in
theorem b27_0 {d : Nat} {Q : j3_P} {σ : j3_S}  :
  T27 d Q 0 [wO 2 109, wM 2] [] σ = (if (wr ((σ.1 2007 109) - 1)) < 0 then Q (some (wI 0)) σ else ((0 ≤ (wr ((σ.1 2007 109) - 1)) ∧ (wr ((σ.1 2007 109) - 1)) < 40) ∧ (if 0 < (σ.2.2 2010 109 (wr ((σ.1 2007 109) - 1))) then ((0 ≤ (wr ((σ.1 2007 109) - 1)) ∧ (wr ((σ.1 2007 109) - 1)) < 40) ∧ ((0 ≤ (wr ((σ.1 2007 109) - 1)) ∧ (wr ((σ.1 2007 109) - 1)) < 40) ∧ ((0 ≤ (wr ((σ.1 2007 109) - 1)) ∧ (wr ((σ.1 2007 109) - 1)) < 40) ∧ ((0 ≤ (wr ((wr ((wr ((wr ((σ.1 2007 109) - 1)) * 30)) + 20)) + (i_up (σ.2.2 2010 109) (wr ((σ.1 2007 109) - 1)) (wr ((σ.2.2 2010 109 (wr ((σ.1 2007 109) - 1))) - 1)) (wr ((σ.1 2007 109) - 1))))) ∧ (wr ((wr ((wr ((wr ((σ.1 2007 109) - 1)) * 30)) + 20)) + (i_up (σ.2.2 2010 109) (wr ((σ.1 2007 109) - 1)) (wr ((σ.2.2 2010 109 (wr ((σ.1 2007 109) - 1))) - 1)) (wr ((σ.1 2007 109) - 1))))) < 1200) ∧ Q (some (wI (σ.2.2 2011 109 (wr ((wr ((wr ((wr ((σ.1 2007 109) - 1)) * 30)) + 20)) + (i_up (σ.2.2 2010 109) (wr ((σ.1 2007 109) - 1)) (wr ((σ.2.2 2010 109 (wr ((σ.1 2007 109) - 1))) - 1)) (wr ((σ.1 2007 109) - 1)))))))) (σ.1, σ.2.1, (j3_ast σ.2.2 2010 109 (wr ((σ.1 2007 109) - 1)) (wr ((σ.2.2 2010 109 (wr ((σ.1 2007 109) - 1))) - 1)))))))) else Q (some (wI 0)) σ))) := j3_T.go d [0] 400
def T28 (d : Nat) (Q : j3_P) : j3_K := j3_T false (j3_tc false d) jc_X2_step none Q
theorem e28 {d : Nat} {Q : j3_P} {σ : j3_S}  : j3_tc false (d + 1) 28 [wO 2 109] σ Q = T28 d Q 0 [wO 2 109, wM 2, wM 2, wM 2, wM 2, wM 2] [] σ := j3_entry ⟨Nat.le_of_ble_eq_true rfl, rfl⟩
set_option maxRecDepth 100000 in
theorem b28_0 {d : Nat} {Q : j3_P} {σ : j3_S}  :
  T28 d Q 0 [wO 2 109, wM 2, wM 2, wM 2, wM 2, wM 2] [] σ = (if (wr ((σ.1 2007 109) - 1)) < 0 then Q none ((j3_up σ.1 2006 109 0), σ.2.1, σ.2.2) else (¬ (σ.2.1 1) = 0 ∧ ((0 ≤ (wr ((σ.1 2007 109) - 1)) ∧ (wr ((σ.1 2007 109) - 1)) < 40) ∧ ((0 ≤ (wr ((σ.1 2007 109) - 1)) ∧ (wr ((σ.1 2007 109) - 1)) < 40) ∧ j3_tc false d 45 [wO 3 (σ.2.1 1), wI (σ.2.2 2008 109 (wr ((σ.1 2007 109) - 1))), wI (σ.2.2 2009 109 (wr ((σ.1 2007 109) - 1)))] σ (fun r σ1 => T28 d Q 18 [wO 2 109, wI (wr ((σ.1 2007 109) - 1)), wM 2, wM 2, wM 2, wM 2] (r.toList ++ []) σ1))))) := j3_T.go d [0, 18, 58, 65, 82, 92, 98, 108, 109, 120, 121, 128] 400
set_option maxRecDepth 100000 in
theorem b28_18 {d : Nat} {Q : j3_P} {σ : j3_S} {x1 : Int} {xs0 : Int} :
  T28 d Q 18 [wO 2 109, wI x1, wM 2, wM 2, wM 2, wM 2] [wI xs0] σ = (if xs0 = 0 then Q none ((j3_up σ.1 2006 109 0), σ.2.1, σ.2.2) else ((0 ≤ x1 ∧ x1 < 40) ∧ ((0 ≤ x1 ∧ x1 < 40) ∧ (¬ (σ.2.1 1) = 0 ∧ ((0 ≤ (wr ((wr ((σ.2.2 2008 109 x1) * 120)) + (σ.2.2 2009 109 x1))) ∧ (wr ((wr ((σ.2.2 2008 109 x1) * 120)) + (σ.2.2 2009 109 x1))) < 9600) ∧ (¬ (σ.2.1 1) = 0 ∧ ((0 ≤ (wr ((wr ((σ.2.2 2008 109 x1) * 120)) + (σ.2.2 2009 109 x1))) ∧ (wr ((wr ((σ.2.2 2008 109 x1) * 120)) + (σ.2.2 2009 109 x1))) < 9600) ∧ (¬ (σ.2.1 1) = 0 ∧ ((0 ≤ (wr ((wr ((σ.2.2 2008 109 x1) * 120)) + (σ.2.2 2009 109 x1))) ∧ (wr ((wr ((σ.2.2 2008 109 x1) * 120)) + (σ.2.2 2009 109 x1))) < 9600) ∧ j3_tc false d 151 [wI (σ.2.2 1 ((σ.2.1 1) + 17) (wr ((wr ((σ.2.2 2008 109 x1) * 120)) + (σ.2.2 2009 109 x1))))] σ (fun r σ1 => T28 d Q 58 [wO 2 109, wI x1, wI (wr ((wr ((σ.2.2 2008 109 x1) * 120)) + (σ.2.2 2009 109 x1))), wI (σ.2.2 1 ((σ.2.1 1) + 17) (wr ((wr ((σ.2.2 2008 109 x1) * 120)) + (σ.2.2 2009 109 x1)))), wI (σ.2.2 2 ((σ.2.1 1) + 17) (wr ((wr ((σ.2.2 2008 109 x1) * 120)) + (σ.2.2 2009 109 x1)))), wI (σ.2.2 3 ((σ.2.1 1) + 17) (wr ((wr ((σ.2.2 2008 109 x1) * 120)) + (σ.2.2 2009 109 x1))))] (r.toList ++ []) σ1)))))))))) := j3_T.go d [0, 18, 58, 65, 82, 92, 98, 108, 109, 120, 121, 128] 400
set_option maxRecDepth 100000 in
theorem b28_58 {d : Nat} {Q : j3_P} {σ : j3_S} {x1 : Int} {x2 : Int} {x3 : Int} {x4 : Int} {x5 : Int} {xs0 : Int} :
  T28 d Q 58 [wO 2 109, wI x1, wI x2, wI x3, wI x4, wI x5] [wI xs0] σ = (if xs0 = 0 then (if x3 = (20 : Int) then T28 d Q 82 [wO 2 109, wI x1, wI x2, wI x3, wI x4, wI x5] [] σ else (if x3 = (21 : Int) then T28 d Q 82 [wO 2 109, wI x1, wI x2, wI x3, wI x4, wI x5] [] σ else (if x3 = (22 : Int) then j3_tc false d 39 [wO 2 109] σ (fun r σ1 => T28 d Q 98 [wO 2 109, wI x1, wI x2, wI x3, wI x4, wI x5] (r.toList ++ []) σ1) else (if x3 < (6 : Int) then T28 d Q 109 [wO 2 109, wI x1, wI x2, wI x3, wI x4, wI x5] [] σ else (if (10 : Int) < x3 then T28 d Q 109 [wO 2 109, wI x1, wI x2, wI x3, wI x4, wI x5] [] σ else j3_tc false d 30 [wO 2 109, wI x3] σ (fun r σ1 => T28 d Q 108 [wO 2 109, wI x1, wI x2, wI x3, wI x4, wI x5] (r.toList ++ []) σ1)))))) else j3_tc false d 29 [wO 2 109, wI x3] σ (fun r σ1 => T28 d Q 65 [wO 2 109, wI x1, wI x2, wI x3, wI x4, wI x5] (r.toList ++ [wI x1, wA 2009 109]) σ1)) := j3_T.go d [0, 18, 58, 65, 82, 92, 98, 108, 109, 120, 121, 128] 400
set_option maxRecDepth 100000 in
theorem b28_65 {d : Nat} {Q : j3_P} {σ : j3_S} {x1 : Int} {x2 : Int} {x3 : Int} {x4 : Int} {x5 : Int} {xs0 : Int} {xs1 : Int} :
  T28 d Q 65 [wO 2 109, wI x1, wI x2, wI x3, wI x4, wI x5] [wI xs0, wI xs1, wA 2009 109] σ = (if xs0 = 0 then ((0 ≤ x1 ∧ x1 < 40) ∧ ((0 ≤ xs1 ∧ xs1 < 40) ∧ Q none (σ.1, σ.2.1, (j3_ast σ.2.2 2009 109 xs1 (wr ((σ.2.2 2009 109 x1) + 1)))))) else ((0 ≤ xs1 ∧ xs1 < 40) ∧ Q none (σ.1, σ.2.1, (j3_ast σ.2.2 2009 109 xs1 x4)))) := j3_T.go d [0, 18, 58, 65, 82, 92, 98, 108, 109, 120, 121, 128] 400
set_option maxRecDepth 100000 in
theorem b28_82 {d : Nat} {Q : j3_P} {σ : j3_S} {x1 : Int} {x2 : Int} {x3 : Int} {x4 : Int} {x5 : Int} :
  T28 d Q 82 [wO 2 109, wI x1, wI x2, wI x3, wI x4, wI x5] [] σ = (¬ (σ.2.1 1) = 0 ∧ ((0 ≤ x4 ∧ x4 < 10) ∧ j3_tc false d 38 [wO 2 109, wI x3, wI (wr ((σ.2.2 3007 (σ.2.1 1) x4) + x5))] σ (fun r σ1 => T28 d Q 92 [wO 2 109, wI x1, wI x2, wI x3, wI x4, wI x5] (r.toList ++ []) σ1))) := j3_T.go d [0, 18, 58, 65, 82, 92, 98, 108, 109, 120, 121, 128] 400
set_option maxRecDepth 100000 in
theorem b28_92 {d : Nat} {Q : j3_P} {σ : j3_S} {x1 : Int} {x2 : Int} {x3 : Int} {x4 : Int} {x5 : Int} :
  T28 d Q 92 [wO 2 109, wI x1, wI x2, wI x3, wI x4, wI x5] [] σ = Q none σ := j3_T.go d [0, 18, 58, 65, 82, 92, 98, 108, 109, 120, 121, 128] 400
set_option maxRecDepth 100000 in
theorem b28_98 {d : Nat} {Q : j3_P} {σ : j3_S} {x1 : Int} {x2 : Int} {x3 : Int} {x4 : Int} {x5 : Int} :
  T28 d Q 98 [wO 2 109, wI x1, wI x2, wI x3, wI x4, wI x5] [] σ = Q none σ := j3_T.go d [0, 18, 58, 65, 82, 92, 98, 108, 109, 120, 121, 128] 400
set_option maxRecDepth 100000 in
theorem b28_108 {d : Nat} {Q : j3_P} {σ : j3_S} {x1 : Int} {x2 : Int} {x3 : Int} {x4 : Int} {x5 : Int} :
  T28 d Q 108 [wO 2 109, wI x1, wI x2, wI x3, wI x4, wI x5] [] σ = T28 d Q 128 [wO 2 109, wI x1, wI x2, wI x3, wI x4, wI x5] [] σ := j3_T.go d [0, 18, 58, 65, 82, 92, 98, 108, 109, 120, 121, 128] 400
set_option maxRecDepth 100000 in
theorem b28_109 {d : Nat} {Q : j3_P} {σ : j3_S} {x1 : Int} {x2 : Int} {x3 : Int} {x4 : Int} {x5 : Int} :
  T28 d Q 109 [wO 2 109, wI x1, wI x2, wI x3, wI x4, wI x5] [] σ = (if x3 < (16 : Int) then T28 d Q 121 [wO 2 109, wI x1, wI x2, wI x3, wI x4, wI x5] [] σ else (if (19 : Int) < x3 then T28 d Q 121 [wO 2 109, wI x1, wI x2, wI x3, wI x4, wI x5] [] σ else j3_tc false d 37 [wO 2 109, wI x3, wI x4, wI x5] σ (fun r σ1 => T28 d Q 120 [wO 2 109, wI x1, wI x2, wI x3, wI x4, wI x5] (r.toList ++ []) σ1))) := j3_T.go d [0, 18, 58, 65, 82, 92, 98, 108, 109, 120, 121, 128] 400
set_option maxRecDepth 100000 in
theorem b28_120 {d : Nat} {Q : j3_P} {σ : j3_S} {x1 : Int} {x2 : Int} {x3 : Int} {x4 : Int} {x5 : Int} :
  T28 d Q 120 [wO 2 109, wI x1, wI x2, wI x3, wI x4, wI x5] [] σ = T28 d Q 128 [wO 2 109, wI x1, wI x2, wI x3, wI x4, wI x5] [] σ := j3_T.go d [0, 18, 58, 65, 82, 92, 98, 108, 109, 120, 121, 128] 400
set_option maxRecDepth 100000 in
theorem b28_121 {d : Nat} {Q : j3_P} {σ : j3_S} {x1 : Int} {x2 : Int} {x3 : Int} {x4 : Int} {x5 : Int} :
  T28 d Q 121 [wO 2 109, wI x1, wI x2, wI x3, wI x4, wI x5] [] σ = j3_tc false d 31 [wO 2 109, wI x3, wI x4, wI (wr (x1 * 30))] σ (fun r σ1 => T28 d Q 128 [wO 2 109, wI x1, wI x2, wI x3, wI x4, wI x5] (r.toList ++ []) σ1) := j3_T.go d [0, 18, 58, 65, 82, 92, 98, 108, 109, 120, 121, 128] 400
set_option maxRecDepth 100000 in
theorem b28_128 {d : Nat} {Q : j3_P} {σ : j3_S} {x1 : Int} {x2 : Int} {x3 : Int} {x4 : Int} {x5 : Int} :
  T28 d Q 128 [wO 2 109, wI x1, wI x2, wI x3, wI x4, wI x5] [] σ = (if (σ.1 2006 109) = (-1 : Int) then ((0 ≤ x1 ∧ x1 < 40) ∧ ((0 ≤ x1 ∧ x1 < 40) ∧ Q none (σ.1, σ.2.1, (j3_ast σ.2.2 2009 109 x1 (wr ((σ.2.2 2009 109 x1) + 1)))))) else Q none σ) := j3_T.go d [0, 18, 58, 65, 82, 92, 98, 108, 109, 120, 121, 128] 400
def T29 (d : Nat) (Q : j3_P) : j3_K := j3_T false (j3_tc false d) jc_X2_jumps (some .boolean) Q
theorem e29 {d : Nat} {Q : j3_P} {σ : j3_S} {x1 : Int} : j3_tc false (d + 1) 29 [wO 2 109, wI x1] σ Q = T29 d Q 0 [wO 2 109, wI x1, wM 2] [] σ := j3_entry ⟨Nat.le_of_ble_eq_true rfl, rfl⟩
set_option maxRecDepth 100000 in
theorem b29_0 {d : Nat} {Q : j3_P} {σ : j3_S} {x1 : Int} :
  T29 d Q 0 [wO 2 109, wI x1, wM 2] [] σ = (if x1 = (11 : Int) then (((1 : Int) = 0 ∨ (1 : Int) = 1) ∧ Q (some (wI 1)) σ) else j3_tc false d 27 [wO 2 109] σ (fun r σ1 => T29 d Q 7 [wO 2 109, wI x1, wM 2] (r.toList ++ []) σ1)) := j3_T.go d [0, 7, 13] 400
set_option maxRecDepth 100000 in
theorem b29_7 {d : Nat} {Q : j3_P} {σ : j3_S} {x1 : Int} {xs0 : Int} :
  T29 d Q 7 [wO 2 109, wI x1, wM 2] [wI xs0] σ = (if x1 = (13 : Int) then j3_tc false d 27 [wO 2 109] σ (fun r σ1 => T29 d Q 13 [wO 2 109, wI x1, wI xs0] (r.toList ++ []) σ1) else (if xs0 = 0 then (((1 : Int) = 0 ∨ (1 : Int) = 1) ∧ Q (some (wI 1)) σ) else (((0 : Int) = 0 ∨ (0 : Int) = 1) ∧ Q (some (wI 0)) σ))) := j3_T.go d [0, 7, 13] 400
set_option maxRecDepth 100000 in
theorem b29_13 {d : Nat} {Q : j3_P} {σ : j3_S} {x1 : Int} {x2 : Int} {xs0 : Int} :
  T29 d Q 13 [wO 2 109, wI x1, wI x2] [wI xs0] σ = (if xs0 < x2 then (((1 : Int) = 0 ∨ (1 : Int) = 1) ∧ Q (some (wI 1)) σ) else (((0 : Int) = 0 ∨ (0 : Int) = 1) ∧ Q (some (wI 0)) σ)) := j3_T.go d [0, 7, 13] 400
def T30 (d : Nat) (Q : j3_P) : j3_K := j3_T false (j3_tc false d) jc_X2_reckon none Q
theorem e30 {d : Nat} {Q : j3_P} {σ : j3_S} {x1 : Int} : j3_tc false (d + 1) 30 [wO 2 109, wI x1] σ Q = T30 d Q 0 [wO 2 109, wI x1, wM 2, wM 2] [] σ := j3_entry ⟨Nat.le_of_ble_eq_true rfl, rfl⟩
set_option maxRecDepth 100000 in
theorem b30_0 {d : Nat} {Q : j3_P} {σ : j3_S} {x1 : Int} :
  T30 d Q 0 [wO 2 109, wI x1, wM 2, wM 2] [] σ = j3_tc false d 27 [wO 2 109] σ (fun r σ1 => T30 d Q 2 [wO 2 109, wI x1, wM 2, wM 2] (r.toList ++ []) σ1) := j3_T.go d [0, 2, 5, 14, 17, 18, 23, 24] 400
set_option maxRecDepth 100000 in
theorem b30_2 {d : Nat} {Q : j3_P} {σ : j3_S} {x1 : Int} {xs0 : Int} :
  T30 d Q 2 [wO 2 109, wI x1, wM 2, wM 2] [wI xs0] σ = j3_tc false d 27 [wO 2 109] σ (fun r σ1 => T30 d Q 5 [wO 2 109, wI x1, wI xs0, wM 2] (r.toList ++ []) σ1) := j3_T.go d [0, 2, 5, 14, 17, 18, 23, 24] 400
set_option maxRecDepth 100000 in
theorem b30_5 {d : Nat} {Q : j3_P} {σ : j3_S} {x1 : Int} {x2 : Int} {xs0 : Int} :
  T30 d Q 5 [wO 2 109, wI x1, wI x2, wM 2] [wI xs0] σ = (if x2 = 0 then (if x1 = (9 : Int) then T30 d Q 14 [wO 2 109, wI x1, wI x2, wI xs0] [] σ else (if x1 = (10 : Int) then T30 d Q 14 [wO 2 109, wI x1, wI x2, wI xs0] [] σ else T30 d Q 18 [wO 2 109, wI x1, wI x2, wI xs0] [] σ)) else T30 d Q 18 [wO 2 109, wI x1, wI x2, wI xs0] [] σ) := j3_T.go d [0, 2, 5, 14, 17, 18, 23, 24] 400
set_option maxRecDepth 100000 in
theorem b30_14 {d : Nat} {Q : j3_P} {σ : j3_S} {x1 : Int} {x2 : Int} {x3 : Int} :
  T30 d Q 14 [wO 2 109, wI x1, wI x2, wI x3] [] σ = j3_tc false d 25 [wO 2 109, wI 2] σ (fun r σ1 => T30 d Q 17 [wO 2 109, wI x1, wI x2, wI x3] (r.toList ++ []) σ1) := j3_T.go d [0, 2, 5, 14, 17, 18, 23, 24] 400
set_option maxRecDepth 100000 in
theorem b30_17 {d : Nat} {Q : j3_P} {σ : j3_S} {x1 : Int} {x2 : Int} {x3 : Int} :
  T30 d Q 17 [wO 2 109, wI x1, wI x2, wI x3] [] σ = T30 d Q 24 [wO 2 109, wI x1, wI x2, wI x3] [] σ := j3_T.go d [0, 2, 5, 14, 17, 18, 23, 24] 400
set_option maxRecDepth 100000 in
theorem b30_18 {d : Nat} {Q : j3_P} {σ : j3_S} {x1 : Int} {x2 : Int} {x3 : Int} :
  T30 d Q 18 [wO 2 109, wI x1, wI x2, wI x3] [] σ = j3_tc false d 153 [wI x1, wI x3, wI x2] σ (fun r σ1 => T30 d Q 23 [wO 2 109, wI x1, wI x2, wI x3] (r.toList ++ [wO 2 109]) σ1) := j3_T.go d [0, 2, 5, 14, 17, 18, 23, 24] 400
set_option maxRecDepth 100000 in
theorem b30_23 {d : Nat} {Q : j3_P} {σ : j3_S} {x1 : Int} {x2 : Int} {x3 : Int} {xs0 : Int} :
  T30 d Q 23 [wO 2 109, wI x1, wI x2, wI x3] [wI xs0, wO 2 109] σ = j3_tc false d 26 [wO 2 109, wI xs0] σ (fun r σ1 => T30 d Q 24 [wO 2 109, wI x1, wI x2, wI x3] (r.toList ++ []) σ1) := j3_T.go d [0, 2, 5, 14, 17, 18, 23, 24] 400
set_option maxRecDepth 100000 in
theorem b30_24 {d : Nat} {Q : j3_P} {σ : j3_S} {x1 : Int} {x2 : Int} {x3 : Int} :
  T30 d Q 24 [wO 2 109, wI x1, wI x2, wI x3] [] σ = Q none σ := j3_T.go d [0, 2, 5, 14, 17, 18, 23, 24] 400
def T31 (d : Nat) (Q : j3_P) : j3_K := j3_T false (j3_tc false d) jc_X2_doPlain none Q
theorem e31 {d : Nat} {Q : j3_P} {σ : j3_S} {x1 : Int} {x2 : Int} {x3 : Int} : j3_tc false (d + 1) 31 [wO 2 109, wI x1, wI x2, wI x3] σ Q = T31 d Q 0 [wO 2 109, wI x1, wI x2, wI x3, wM 2] [] σ := j3_entry ⟨Nat.le_of_ble_eq_true rfl, rfl⟩
set_option maxRecDepth 100000 in
theorem b31_0 {d : Nat} {Q : j3_P} {σ : j3_S} {x1 : Int} {x2 : Int} {x3 : Int} :
  T31 d Q 0 [wO 2 109, wI x1, wI x2, wI x3, wM 2] [] σ = (if x1 = 0 then T31 d Q 2 [wO 2 109, wI x1, wI x2, wI x3, wM 2] [] σ else (if x1 = 1 then T31 d Q 6 [wO 2 109, wI x1, wI x2, wI x3, wM 2] [] σ else (if x1 = 2 then T31 d Q 10 [wO 2 109, wI x1, wI x2, wI x3, wM 2] [] σ else (if x1 = 3 then T31 d Q 19 [wO 2 109, wI x1, wI x2, wI x3, wM 2] [] σ else (if x1 = 4 then T31 d Q 28 [wO 2 109, wI x1, wI x2, wI x3, wM 2] [] σ else (if x1 = 5 then T31 d Q 32 [wO 2 109, wI x1, wI x2, wI x3, wM 2] [] σ else (if x1 = 6 then T31 d Q 69 [wO 2 109, wI x1, wI x2, wI x3, wM 2] [] σ else (if x1 = 7 then T31 d Q 69 [wO 2 109, wI x1, wI x2, wI x3, wM 2] [] σ else (if x1 = 8 then T31 d Q 69 [wO 2 109, wI x1, wI x2, wI x3, wM 2] [] σ else (if x1 = 9 then T31 d Q 69 [wO 2 109, wI x1, wI x2, wI x3, wM 2] [] σ else (if x1 = 10 then T31 d Q 69 [wO 2 109, wI x1, wI x2, wI x3, wM 2] [] σ else (if x1 = 11 then T31 d Q 69 [wO 2 109, wI x1, wI x2, wI x3, wM 2] [] σ else (if x1 = 12 then T31 d Q 69 [wO 2 109, wI x1, wI x2, wI x3, wM 2] [] σ else (if x1 = 13 then T31 d Q 69 [wO 2 109, wI x1, wI x2, wI x3, wM 2] [] σ else (if x1 = 14 then T31 d Q 69 [wO 2 109, wI x1, wI x2, wI x3, wM 2] [] σ else (if x1 = 15 then T31 d Q 42 [wO 2 109, wI x1, wI x2, wI x3, wM 2] [] σ else (if x1 = 16 then T31 d Q 69 [wO 2 109, wI x1, wI x2, wI x3, wM 2] [] σ else (if x1 = 17 then T31 d Q 69 [wO 2 109, wI x1, wI x2, wI x3, wM 2] [] σ else (if x1 = 18 then T31 d Q 69 [wO 2 109, wI x1, wI x2, wI x3, wM 2] [] σ else (if x1 = 19 then T31 d Q 69 [wO 2 109, wI x1, wI x2, wI x3, wM 2] [] σ else (if x1 = 20 then T31 d Q 69 [wO 2 109, wI x1, wI x2, wI x3, wM 2] [] σ else (if x1 = 21 then T31 d Q 69 [wO 2 109, wI x1, wI x2, wI x3, wM 2] [] σ else (if x1 = 22 then T31 d Q 69 [wO 2 109, wI x1, wI x2, wI x3, wM 2] [] σ else (if x1 = 23 then T31 d Q 46 [wO 2 109, wI x1, wI x2, wI x3, wM 2] [] σ else (if x1 = 24 then T31 d Q 51 [wO 2 109, wI x1, wI x2, wI x3, wM 2] [] σ else (if x1 = 25 then T31 d Q 57 [wO 2 109, wI x1, wI x2, wI x3, wM 2] [] σ else T31 d Q 69 [wO 2 109, wI x1, wI x2, wI x3, wM 2] [] σ)))))))))))))))))))))))))) := j3_T.go d [0, 2, 5, 6, 9, 10, 18, 19, 26, 28, 30, 32, 34, 38, 41, 42, 45, 46, 49, 50, 51, 55, 56, 57, 62, 63, 67, 68, 69, 72] 400
set_option maxRecDepth 100000 in
theorem b31_2 {d : Nat} {Q : j3_P} {σ : j3_S} {x1 : Int} {x2 : Int} {x3 : Int} :
  T31 d Q 2 [wO 2 109, wI x1, wI x2, wI x3, wM 2] [] σ = j3_tc false d 26 [wO 2 109, wI x2] σ (fun r σ1 => T31 d Q 5 [wO 2 109, wI x1, wI x2, wI x3, wM 2] (r.toList ++ []) σ1) := j3_T.go d [0, 2, 5, 6, 9, 10, 18, 19, 26, 28, 30, 32, 34, 38, 41, 42, 45, 46, 49, 50, 51, 55, 56, 57, 62, 63, 67, 68, 69, 72] 400
set_option maxRecDepth 100000 in
theorem b31_5 {d : Nat} {Q : j3_P} {σ : j3_S} {x1 : Int} {x2 : Int} {x3 : Int} :
  T31 d Q 5 [wO 2 109, wI x1, wI x2, wI x3, wM 2] [] σ = T31 d Q 72 [wO 2 109, wI x1, wI x2, wI x3, wM 2] [] σ := j3_T.go d [0, 2, 5, 6, 9, 10, 18, 19, 26, 28, 30, 32, 34, 38, 41, 42, 45, 46, 49, 50, 51, 55, 56, 57, 62, 63, 67, 68, 69, 72] 400
set_option maxRecDepth 100000 in
theorem b31_6 {d : Nat} {Q : j3_P} {σ : j3_S} {x1 : Int} {x2 : Int} {x3 : Int} :
  T31 d Q 6 [wO 2 109, wI x1, wI x2, wI x3, wM 2] [] σ = j3_tc false d 26 [wO 2 109, wI 0] σ (fun r σ1 => T31 d Q 9 [wO 2 109, wI x1, wI x2, wI x3, wM 2] (r.toList ++ []) σ1) := j3_T.go d [0, 2, 5, 6, 9, 10, 18, 19, 26, 28, 30, 32, 34, 38, 41, 42, 45, 46, 49, 50, 51, 55, 56, 57, 62, 63, 67, 68, 69, 72] 400
set_option maxRecDepth 100000 in
theorem b31_9 {d : Nat} {Q : j3_P} {σ : j3_S} {x1 : Int} {x2 : Int} {x3 : Int} :
  T31 d Q 9 [wO 2 109, wI x1, wI x2, wI x3, wM 2] [] σ = T31 d Q 72 [wO 2 109, wI x1, wI x2, wI x3, wM 2] [] σ := j3_T.go d [0, 2, 5, 6, 9, 10, 18, 19, 26, 28, 30, 32, 34, 38, 41, 42, 45, 46, 49, 50, 51, 55, 56, 57, 62, 63, 67, 68, 69, 72] 400
set_option maxRecDepth 100000 in
theorem b31_10 {d : Nat} {Q : j3_P} {σ : j3_S} {x1 : Int} {x2 : Int} {x3 : Int} :
  T31 d Q 10 [wO 2 109, wI x1, wI x2, wI x3, wM 2] [] σ = ((0 ≤ (wr (x3 + x2)) ∧ (wr (x3 + x2)) < 1200) ∧ j3_tc false d 26 [wO 2 109, wI (σ.2.2 2011 109 (wr (x3 + x2)))] σ (fun r σ1 => T31 d Q 18 [wO 2 109, wI x1, wI x2, wI x3, wM 2] (r.toList ++ []) σ1)) := j3_T.go d [0, 2, 5, 6, 9, 10, 18, 19, 26, 28, 30, 32, 34, 38, 41, 42, 45, 46, 49, 50, 51, 55, 56, 57, 62, 63, 67, 68, 69, 72] 400
set_option maxRecDepth 100000 in
theorem b31_18 {d : Nat} {Q : j3_P} {σ : j3_S} {x1 : Int} {x2 : Int} {x3 : Int} :
  T31 d Q 18 [wO 2 109, wI x1, wI x2, wI x3, wM 2] [] σ = T31 d Q 72 [wO 2 109, wI x1, wI x2, wI x3, wM 2] [] σ := j3_T.go d [0, 2, 5, 6, 9, 10, 18, 19, 26, 28, 30, 32, 34, 38, 41, 42, 45, 46, 49, 50, 51, 55, 56, 57, 62, 63, 67, 68, 69, 72] 400
set_option maxRecDepth 100000 in
theorem b31_19 {d : Nat} {Q : j3_P} {σ : j3_S} {x1 : Int} {x2 : Int} {x3 : Int} :
  T31 d Q 19 [wO 2 109, wI x1, wI x2, wI x3, wM 2] [] σ = j3_tc false d 27 [wO 2 109] σ (fun r σ1 => T31 d Q 26 [wO 2 109, wI x1, wI x2, wI x3, wM 2] (r.toList ++ [wI (wr (x3 + x2)), wA 2011 109]) σ1) := j3_T.go d [0, 2, 5, 6, 9, 10, 18, 19, 26, 28, 30, 32, 34, 38, 41, 42, 45, 46, 49, 50, 51, 55, 56, 57, 62, 63, 67, 68, 69, 72] 400
set_option maxRecDepth 100000 in
theorem b31_26 {d : Nat} {Q : j3_P} {σ : j3_S} {x1 : Int} {x2 : Int} {x3 : Int} {xs0 : Int} {xs1 : Int} :
  T31 d Q 26 [wO 2 109, wI x1, wI x2, wI x3, wM 2] [wI xs0, wI xs1, wA 2011 109] σ = ((0 ≤ xs1 ∧ xs1 < 1200) ∧ T31 d Q 72 [wO 2 109, wI x1, wI x2, wI x3, wM 2] [] (σ.1, σ.2.1, (j3_ast σ.2.2 2011 109 xs1 xs0))) := j3_T.go d [0, 2, 5, 6, 9, 10, 18, 19, 26, 28, 30, 32, 34, 38, 41, 42, 45, 46, 49, 50, 51, 55, 56, 57, 62, 63, 67, 68, 69, 72] 400
set_option maxRecDepth 100000 in
theorem b31_28 {d : Nat} {Q : j3_P} {σ : j3_S} {x1 : Int} {x2 : Int} {x3 : Int} :
  T31 d Q 28 [wO 2 109, wI x1, wI x2, wI x3, wM 2] [] σ = j3_tc false d 27 [wO 2 109] σ (fun r σ1 => T31 d Q 30 [wO 2 109, wI x1, wI x2, wI x3, wM 2] (r.toList ++ []) σ1) := j3_T.go d [0, 2, 5, 6, 9, 10, 18, 19, 26, 28, 30, 32, 34, 38, 41, 42, 45, 46, 49, 50, 51, 55, 56, 57, 62, 63, 67, 68, 69, 72] 400
set_option maxRecDepth 100000 in
theorem b31_30 {d : Nat} {Q : j3_P} {σ : j3_S} {x1 : Int} {x2 : Int} {x3 : Int} {xs0 : Int} :
  T31 d Q 30 [wO 2 109, wI x1, wI x2, wI x3, wM 2] [wI xs0] σ = T31 d Q 72 [wO 2 109, wI x1, wI x2, wI x3, wM 2] [] σ := j3_T.go d [0, 2, 5, 6, 9, 10, 18, 19, 26, 28, 30, 32, 34, 38, 41, 42, 45, 46, 49, 50, 51, 55, 56, 57, 62, 63, 67, 68, 69, 72] 400
set_option maxRecDepth 100000 in
theorem b31_32 {d : Nat} {Q : j3_P} {σ : j3_S} {x1 : Int} {x2 : Int} {x3 : Int} :
  T31 d Q 32 [wO 2 109, wI x1, wI x2, wI x3, wM 2] [] σ = j3_tc false d 27 [wO 2 109] σ (fun r σ1 => T31 d Q 34 [wO 2 109, wI x1, wI x2, wI x3, wM 2] (r.toList ++ []) σ1) := j3_T.go d [0, 2, 5, 6, 9, 10, 18, 19, 26, 28, 30, 32, 34, 38, 41, 42, 45, 46, 49, 50, 51, 55, 56, 57, 62, 63, 67, 68, 69, 72] 400
set_option maxRecDepth 100000 in
theorem b31_34 {d : Nat} {Q : j3_P} {σ : j3_S} {x1 : Int} {x2 : Int} {x3 : Int} {xs0 : Int} :
  T31 d Q 34 [wO 2 109, wI x1, wI x2, wI x3, wM 2] [wI xs0] σ = j3_tc false d 26 [wO 2 109, wI xs0] σ (fun r σ1 => T31 d Q 38 [wO 2 109, wI x1, wI x2, wI x3, wI xs0] (r.toList ++ []) σ1) := j3_T.go d [0, 2, 5, 6, 9, 10, 18, 19, 26, 28, 30, 32, 34, 38, 41, 42, 45, 46, 49, 50, 51, 55, 56, 57, 62, 63, 67, 68, 69, 72] 400
set_option maxRecDepth 100000 in
theorem b31_38 {d : Nat} {Q : j3_P} {σ : j3_S} {x1 : Int} {x2 : Int} {x3 : Int} {x4 : Int} :
  T31 d Q 38 [wO 2 109, wI x1, wI x2, wI x3, wI x4] [] σ = j3_tc false d 26 [wO 2 109, wI x4] σ (fun r σ1 => T31 d Q 41 [wO 2 109, wI x1, wI x2, wI x3, wI x4] (r.toList ++ []) σ1) := j3_T.go d [0, 2, 5, 6, 9, 10, 18, 19, 26, 28, 30, 32, 34, 38, 41, 42, 45, 46, 49, 50, 51, 55, 56, 57, 62, 63, 67, 68, 69, 72] 400
set_option maxRecDepth 100000 in
theorem b31_41 {d : Nat} {Q : j3_P} {σ : j3_S} {x1 : Int} {x2 : Int} {x3 : Int} {x4 : Int} :
  T31 d Q 41 [wO 2 109, wI x1, wI x2, wI x3, wI x4] [] σ = T31 d Q 72 [wO 2 109, wI x1, wI x2, wI x3, wI x4] [] σ := j3_T.go d [0, 2, 5, 6, 9, 10, 18, 19, 26, 28, 30, 32, 34, 38, 41, 42, 45, 46, 49, 50, 51, 55, 56, 57, 62, 63, 67, 68, 69, 72] 400
set_option maxRecDepth 100000 in
theorem b31_42 {d : Nat} {Q : j3_P} {σ : j3_S} {x1 : Int} {x2 : Int} {x3 : Int} :
  T31 d Q 42 [wO 2 109, wI x1, wI x2, wI x3, wM 2] [] σ = j3_tc false d 33 [wO 2 109, wI x2] σ (fun r σ1 => T31 d Q 45 [wO 2 109, wI x1, wI x2, wI x3, wM 2] (r.toList ++ []) σ1) := j3_T.go d [0, 2, 5, 6, 9, 10, 18, 19, 26, 28, 30, 32, 34, 38, 41, 42, 45, 46, 49, 50, 51, 55, 56, 57, 62, 63, 67, 68, 69, 72] 400
set_option maxRecDepth 100000 in
theorem b31_45 {d : Nat} {Q : j3_P} {σ : j3_S} {x1 : Int} {x2 : Int} {x3 : Int} :
  T31 d Q 45 [wO 2 109, wI x1, wI x2, wI x3, wM 2] [] σ = T31 d Q 72 [wO 2 109, wI x1, wI x2, wI x3, wM 2] [] σ := j3_T.go d [0, 2, 5, 6, 9, 10, 18, 19, 26, 28, 30, 32, 34, 38, 41, 42, 45, 46, 49, 50, 51, 55, 56, 57, 62, 63, 67, 68, 69, 72] 400
set_option maxRecDepth 100000 in
theorem b31_46 {d : Nat} {Q : j3_P} {σ : j3_S} {x1 : Int} {x2 : Int} {x3 : Int} :
  T31 d Q 46 [wO 2 109, wI x1, wI x2, wI x3, wM 2] [] σ = j3_tc false d 27 [wO 2 109] σ (fun r σ1 => T31 d Q 49 [wO 2 109, wI x1, wI x2, wI x3, wM 2] (r.toList ++ [wO 2 109]) σ1) := j3_T.go d [0, 2, 5, 6, 9, 10, 18, 19, 26, 28, 30, 32, 34, 38, 41, 42, 45, 46, 49, 50, 51, 55, 56, 57, 62, 63, 67, 68, 69, 72] 400
set_option maxRecDepth 100000 in
theorem b31_49 {d : Nat} {Q : j3_P} {σ : j3_S} {x1 : Int} {x2 : Int} {x3 : Int} {xs0 : Int} :
  T31 d Q 49 [wO 2 109, wI x1, wI x2, wI x3, wM 2] [wI xs0, wO 2 109] σ = j3_tc false d 32 [wO 2 109, wI xs0] σ (fun r σ1 => T31 d Q 50 [wO 2 109, wI x1, wI x2, wI x3, wM 2] (r.toList ++ []) σ1) := j3_T.go d [0, 2, 5, 6, 9, 10, 18, 19, 26, 28, 30, 32, 34, 38, 41, 42, 45, 46, 49, 50, 51, 55, 56, 57, 62, 63, 67, 68, 69, 72] 400
set_option maxRecDepth 100000 in
theorem b31_50 {d : Nat} {Q : j3_P} {σ : j3_S} {x1 : Int} {x2 : Int} {x3 : Int} :
  T31 d Q 50 [wO 2 109, wI x1, wI x2, wI x3, wM 2] [] σ = T31 d Q 72 [wO 2 109, wI x1, wI x2, wI x3, wM 2] [] σ := j3_T.go d [0, 2, 5, 6, 9, 10, 18, 19, 26, 28, 30, 32, 34, 38, 41, 42, 45, 46, 49, 50, 51, 55, 56, 57, 62, 63, 67, 68, 69, 72] 400
set_option maxRecDepth 100000 in
theorem b31_51 {d : Nat} {Q : j3_P} {σ : j3_S} {x1 : Int} {x2 : Int} {x3 : Int} :
  T31 d Q 51 [wO 2 109, wI x1, wI x2, wI x3, wM 2] [] σ = j3_tc false d 27 [wO 2 109] σ (fun r σ1 => T31 d Q 55 [wO 2 109, wI x1, wI x2, wI x3, wM 2] (r.toList ++ [wI x2, wO 2 109]) σ1) := j3_T.go d [0, 2, 5, 6, 9, 10, 18, 19, 26, 28, 30, 32, 34, 38, 41, 42, 45, 46, 49, 50, 51, 55, 56, 57, 62, 63, 67, 68, 69, 72] 400
set_option maxRecDepth 100000 in
theorem b31_55 {d : Nat} {Q : j3_P} {σ : j3_S} {x1 : Int} {x2 : Int} {x3 : Int} {xs0 : Int} {xs1 : Int} :
  T31 d Q 55 [wO 2 109, wI x1, wI x2, wI x3, wM 2] [wI xs0, wI xs1, wO 2 109] σ = j3_tc false d 36 [wO 2 109, wI xs1, wI xs0] σ (fun r σ1 => T31 d Q 56 [wO 2 109, wI x1, wI x2, wI x3, wM 2] (r.toList ++ []) σ1) := j3_T.go d [0, 2, 5, 6, 9, 10, 18, 19, 26, 28, 30, 32, 34, 38, 41, 42, 45, 46, 49, 50, 51, 55, 56, 57, 62, 63, 67, 68, 69, 72] 400
set_option maxRecDepth 100000 in
theorem b31_56 {d : Nat} {Q : j3_P} {σ : j3_S} {x1 : Int} {x2 : Int} {x3 : Int} :
  T31 d Q 56 [wO 2 109, wI x1, wI x2, wI x3, wM 2] [] σ = T31 d Q 72 [wO 2 109, wI x1, wI x2, wI x3, wM 2] [] σ := j3_T.go d [0, 2, 5, 6, 9, 10, 18, 19, 26, 28, 30, 32, 34, 38, 41, 42, 45, 46, 49, 50, 51, 55, 56, 57, 62, 63, 67, 68, 69, 72] 400
set_option maxRecDepth 100000 in
theorem b31_57 {d : Nat} {Q : j3_P} {σ : j3_S} {x1 : Int} {x2 : Int} {x3 : Int} :
  T31 d Q 57 [wO 2 109, wI x1, wI x2, wI x3, wM 2] [] σ = j3_tc false d 27 [wO 2 109] σ (fun r σ1 => T31 d Q 62 [wO 2 109, wI x1, wI x2, wI x3, wM 2] (r.toList ++ [wI x2, wO 2 109, wO 2 109]) σ1) := j3_T.go d [0, 2, 5, 6, 9, 10, 18, 19, 26, 28, 30, 32, 34, 38, 41, 42, 45, 46, 49, 50, 51, 55, 56, 57, 62, 63, 67, 68, 69, 72] 400
set_option maxRecDepth 100000 in
theorem b31_62 {d : Nat} {Q : j3_P} {σ : j3_S} {x1 : Int} {x2 : Int} {x3 : Int} {xs0 : Int} {xs1 : Int} :
  T31 d Q 62 [wO 2 109, wI x1, wI x2, wI x3, wM 2] [wI xs0, wI xs1, wO 2 109, wO 2 109] σ = j3_tc false d 35 [wO 2 109, wI xs1, wI xs0] σ (fun r σ1 => T31 d Q 63 [wO 2 109, wI x1, wI x2, wI x3, wM 2] (r.toList ++ [wO 2 109]) σ1) := j3_T.go d [0, 2, 5, 6, 9, 10, 18, 19, 26, 28, 30, 32, 34, 38, 41, 42, 45, 46, 49, 50, 51, 55, 56, 57, 62, 63, 67, 68, 69, 72] 400
set_option maxRecDepth 100000 in
theorem b31_63 {d : Nat} {Q : j3_P} {σ : j3_S} {x1 : Int} {x2 : Int} {x3 : Int} {xs0 : Int} :
  T31 d Q 63 [wO 2 109, wI x1, wI x2, wI x3, wM 2] [wI xs0, wO 2 109] σ = (if xs0 = 0 then T31 d Q 67 [wO 2 109, wI x1, wI x2, wI x3, wM 2] [wI 0, wO 2 109] σ else T31 d Q 67 [wO 2 109, wI x1, wI x2, wI x3, wM 2] [wI 1, wO 2 109] σ) := j3_T.go d [0, 2, 5, 6, 9, 10, 18, 19, 26, 28, 30, 32, 34, 38, 41, 42, 45, 46, 49, 50, 51, 55, 56, 57, 62, 63, 67, 68, 69, 72] 400
set_option maxRecDepth 100000 in
theorem b31_67 {d : Nat} {Q : j3_P} {σ : j3_S} {x1 : Int} {x2 : Int} {x3 : Int} {xs0 : Int} :
  T31 d Q 67 [wO 2 109, wI x1, wI x2, wI x3, wM 2] [wI xs0, wO 2 109] σ = j3_tc false d 26 [wO 2 109, wI xs0] σ (fun r σ1 => T31 d Q 68 [wO 2 109, wI x1, wI x2, wI x3, wM 2] (r.toList ++ []) σ1) := j3_T.go d [0, 2, 5, 6, 9, 10, 18, 19, 26, 28, 30, 32, 34, 38, 41, 42, 45, 46, 49, 50, 51, 55, 56, 57, 62, 63, 67, 68, 69, 72] 400
set_option maxRecDepth 100000 in
theorem b31_68 {d : Nat} {Q : j3_P} {σ : j3_S} {x1 : Int} {x2 : Int} {x3 : Int} :
  T31 d Q 68 [wO 2 109, wI x1, wI x2, wI x3, wM 2] [] σ = T31 d Q 72 [wO 2 109, wI x1, wI x2, wI x3, wM 2] [] σ := j3_T.go d [0, 2, 5, 6, 9, 10, 18, 19, 26, 28, 30, 32, 34, 38, 41, 42, 45, 46, 49, 50, 51, 55, 56, 57, 62, 63, 67, 68, 69, 72] 400
set_option maxRecDepth 100000 in
theorem b31_69 {d : Nat} {Q : j3_P} {σ : j3_S} {x1 : Int} {x2 : Int} {x3 : Int} :
  T31 d Q 69 [wO 2 109, wI x1, wI x2, wI x3, wM 2] [] σ = j3_tc false d 25 [wO 2 109, wI 4] σ (fun r σ1 => T31 d Q 72 [wO 2 109, wI x1, wI x2, wI x3, wM 2] (r.toList ++ []) σ1) := j3_T.go d [0, 2, 5, 6, 9, 10, 18, 19, 26, 28, 30, 32, 34, 38, 41, 42, 45, 46, 49, 50, 51, 55, 56, 57, 62, 63, 67, 68, 69, 72] 400
set_option maxRecDepth 100000 in
theorem b31_72 {d : Nat} {Q : j3_P} {σ : j3_S} {x1 : Int} {x2 : Int} {x3 : Int} {w4 : j3_W} :
  T31 d Q 72 [wO 2 109, wI x1, wI x2, wI x3, w4] [] σ = Q none σ := j3_T.go d [0, 2, 5, 6, 9, 10, 18, 19, 26, 28, 30, 32, 34, 38, 41, 42, 45, 46, 49, 50, 51, 55, 56, 57, 62, 63, 67, 68, 69, 72] 400
def T32 (d : Nat) (Q : j3_P) : j3_K := j3_T false (j3_tc false d) jc_X2_putOut none Q
theorem e32 {d : Nat} {Q : j3_P} {σ : j3_S} {x1 : Int} : j3_tc false (d + 1) 32 [wO 2 109, wI x1] σ Q = T32 d Q 0 [wO 2 109, wI x1] [] σ := j3_entry ⟨Nat.le_of_ble_eq_true rfl, rfl⟩
set_option maxRecDepth 100000 in
theorem b32_0 {d : Nat} {Q : j3_P} {σ : j3_S} {x1 : Int} :
  T32 d Q 0 [wO 2 109, wI x1] [] σ = ((0 ≤ (3 : Int) ∧ (3 : Int) < 8) ∧ (if (σ.2.2 2001 109 3) < (100 : Int) then ((0 ≤ (3 : Int) ∧ (3 : Int) < 8) ∧ ((0 ≤ (σ.2.2 2001 109 3) ∧ (σ.2.2 2001 109 3) < 100) ∧ T32 d Q 14 [wO 2 109, wI x1] [] (σ.1, σ.2.1, (j3_ast σ.2.2 2002 109 (σ.2.2 2001 109 3) x1)))) else T32 d Q 14 [wO 2 109, wI x1] [] σ)) := j3_T.go d [0, 14] 400
set_option maxRecDepth 100000 in
theorem b32_14 {d : Nat} {Q : j3_P} {σ : j3_S} {x1 : Int} :
  T32 d Q 14 [wO 2 109, wI x1] [] σ = ((0 ≤ (3 : Int) ∧ (3 : Int) < 8) ∧ ((0 ≤ (3 : Int) ∧ (3 : Int) < 8) ∧ Q none (σ.1, σ.2.1, (j3_ast σ.2.2 2001 109 3 (wr ((σ.2.2 2001 109 3) + 1)))))) := j3_T.go d [0, 14] 400
def T33 (d : Nat) (Q : j3_P) : j3_K := j3_T false (j3_tc false d) jc_X2_makeObject none Q
theorem e33 {d : Nat} {Q : j3_P} {σ : j3_S} {x1 : Int} : j3_tc false (d + 1) 33 [wO 2 109, wI x1] σ Q = T33 d Q 0 [wO 2 109, wI x1, wM 2] [] σ := j3_entry ⟨Nat.le_of_ble_eq_true rfl, rfl⟩
set_option maxRecDepth 100000 in
theorem b33_0 {d : Nat} {Q : j3_P} {σ : j3_S} {x1 : Int} :
  T33 d Q 0 [wO 2 109, wI x1, wM 2] [] σ = (if (σ.1 2012 109) < (200 : Int) then ((0 ≤ (σ.1 2012 109) ∧ (σ.1 2012 109) < 200) ∧ j3_tc false d 249 [wA 2014 109, wI (wr ((σ.1 2012 109) * 60)), wI (wr ((wr ((σ.1 2012 109) * 60)) + 60)), wI 0] (σ.1, σ.2.1, (j3_ast σ.2.2 2013 109 (σ.1 2012 109) x1)) (fun r σ1 => T33 d Q 27 [wO 2 109, wI x1, wI (wr ((σ.1 2012 109) * 60))] (r.toList ++ []) σ1)) else j3_tc false d 25 [wO 2 109, wI 6] σ (fun r σ1 => T33 d Q 7 [wO 2 109, wI x1, wM 2] (r.toList ++ []) σ1)) := j3_T.go d [0, 7, 27, 37] 400
set_option maxRecDepth 100000 in
theorem b33_7 {d : Nat} {Q : j3_P} {σ : j3_S} {x1 : Int} :
  T33 d Q 7 [wO 2 109, wI x1, wM 2] [] σ = Q none σ := j3_T.go d [0, 7, 27, 37] 400
set_option maxRecDepth 100000 in
theorem b33_27 {d : Nat} {Q : j3_P} {σ : j3_S} {x1 : Int} {x2 : Int} :
  T33 d Q 27 [wO 2 109, wI x1, wI x2] [] σ = j3_tc false d 26 [wO 2 109, wI (wr ((σ.1 2012 109) + 1))] ((j3_up σ.1 2012 109 (wr ((σ.1 2012 109) + 1))), σ.2.1, σ.2.2) (fun r σ1 => T33 d Q 37 [wO 2 109, wI x1, wI x2] (r.toList ++ []) σ1) := j3_T.go d [0, 7, 27, 37] 400
set_option maxRecDepth 100000 in
theorem b33_37 {d : Nat} {Q : j3_P} {σ : j3_S} {x1 : Int} {x2 : Int} :
  T33 d Q 37 [wO 2 109, wI x1, wI x2] [] σ = Q none σ := j3_T.go d [0, 7, 27, 37] 400
def T34 (d : Nat) (Q : j3_P) : j3_K := j3_T false (j3_tc false d) jc_X2_isObject (some .boolean) Q
theorem e34 {d : Nat} {Q : j3_P} {σ : j3_S} {x1 : Int} : j3_tc false (d + 1) 34 [wO 2 109, wI x1] σ Q = T34 d Q 0 [wO 2 109, wI x1] [] σ := j3_entry ⟨Nat.le_of_ble_eq_true rfl, rfl⟩
set_option maxRecDepth 100000 in
theorem b34_0 {d : Nat} {Q : j3_P} {σ : j3_S} {x1 : Int} :
  T34 d Q 0 [wO 2 109, wI x1] [] σ = (if 0 < x1 then (if (σ.1 2012 109) < x1 then (((0 : Int) = 0 ∨ (0 : Int) = 1) ∧ Q (some (wI 0)) σ) else (((1 : Int) = 0 ∨ (1 : Int) = 1) ∧ Q (some (wI 1)) σ)) else (((0 : Int) = 0 ∨ (0 : Int) = 1) ∧ Q (some (wI 0)) σ)) := j3_T.go d [0] 400
def T35 (d : Nat) (Q : j3_P) : j3_K := j3_T false (j3_tc false d) jc_X2_isOf (some .boolean) Q
theorem e35 {d : Nat} {Q : j3_P} {σ : j3_S} {x1 : Int} {x2 : Int} : j3_tc false (d + 1) 35 [wO 2 109, wI x1, wI x2] σ Q = T35 d Q 0 [wO 2 109, wI x1, wI x2] [] σ := j3_entry ⟨Nat.le_of_ble_eq_true rfl, rfl⟩
set_option maxRecDepth 100000 in
theorem b35_0 {d : Nat} {Q : j3_P} {σ : j3_S} {x1 : Int} {x2 : Int} :
  T35 d Q 0 [wO 2 109, wI x1, wI x2] [] σ = j3_tc false d 34 [wO 2 109, wI x2] σ (fun r σ1 => T35 d Q 3 [wO 2 109, wI x1, wI x2] (r.toList ++ []) σ1) := j3_T.go d [0, 3, 14] 400
set_option maxRecDepth 100000 in
theorem b35_3 {d : Nat} {Q : j3_P} {σ : j3_S} {x1 : Int} {x2 : Int} {xs0 : Int} :
  T35 d Q 3 [wO 2 109, wI x1, wI x2] [wI xs0] σ = (if xs0 = 0 then (((0 : Int) = 0 ∨ (0 : Int) = 1) ∧ Q (some (wI 0)) σ) else (¬ (σ.2.1 1) = 0 ∧ ((0 ≤ (wr (x2 - 1)) ∧ (wr (x2 - 1)) < 200) ∧ j3_tc false d 48 [wO 3 (σ.2.1 1), wI x1, wI (σ.2.2 2013 109 (wr (x2 - 1)))] σ (fun r σ1 => T35 d Q 14 [wO 2 109, wI x1, wI x2] (r.toList ++ []) σ1)))) := j3_T.go d [0, 3, 14] 400
set_option maxRecDepth 100000 in
theorem b35_14 {d : Nat} {Q : j3_P} {σ : j3_S} {x1 : Int} {x2 : Int} {xs0 : Int} :
  T35 d Q 14 [wO 2 109, wI x1, wI x2] [wI xs0] σ = (if xs0 = 0 then (((0 : Int) = 0 ∨ (0 : Int) = 1) ∧ Q (some (wI 0)) σ) else (((1 : Int) = 0 ∨ (1 : Int) = 1) ∧ Q (some (wI 1)) σ)) := j3_T.go d [0, 3, 14] 400
def T36 (d : Nat) (Q : j3_P) : j3_K := j3_T false (j3_tc false d) jc_X2_cast none Q
theorem e36 {d : Nat} {Q : j3_P} {σ : j3_S} {x1 : Int} {x2 : Int} : j3_tc false (d + 1) 36 [wO 2 109, wI x1, wI x2] σ Q = T36 d Q 0 [wO 2 109, wI x1, wI x2] [] σ := j3_entry ⟨Nat.le_of_ble_eq_true rfl, rfl⟩
set_option maxRecDepth 100000 in
theorem b36_0 {d : Nat} {Q : j3_P} {σ : j3_S} {x1 : Int} {x2 : Int} :
  T36 d Q 0 [wO 2 109, wI x1, wI x2] [] σ = (if x2 = 0 then T36 d Q 7 [wO 2 109, wI x1, wI x2] [] σ else j3_tc false d 35 [wO 2 109, wI x1, wI x2] σ (fun r σ1 => T36 d Q 6 [wO 2 109, wI x1, wI x2] (r.toList ++ []) σ1)) := j3_T.go d [0, 6, 7, 10, 14] 400
set_option maxRecDepth 100000 in
theorem b36_6 {d : Nat} {Q : j3_P} {σ : j3_S} {x1 : Int} {x2 : Int} {xs0 : Int} :
  T36 d Q 6 [wO 2 109, wI x1, wI x2] [wI xs0] σ = (if xs0 = 0 then j3_tc false d 25 [wO 2 109, wI 3] σ (fun r σ1 => T36 d Q 14 [wO 2 109, wI x1, wI x2] (r.toList ++ []) σ1) else T36 d Q 7 [wO 2 109, wI x1, wI x2] [] σ) := j3_T.go d [0, 6, 7, 10, 14] 400
set_option maxRecDepth 100000 in
theorem b36_7 {d : Nat} {Q : j3_P} {σ : j3_S} {x1 : Int} {x2 : Int} :
  T36 d Q 7 [wO 2 109, wI x1, wI x2] [] σ = j3_tc false d 26 [wO 2 109, wI x2] σ (fun r σ1 => T36 d Q 10 [wO 2 109, wI x1, wI x2] (r.toList ++ []) σ1) := j3_T.go d [0, 6, 7, 10, 14] 400
set_option maxRecDepth 100000 in
theorem b36_10 {d : Nat} {Q : j3_P} {σ : j3_S} {x1 : Int} {x2 : Int} :
  T36 d Q 10 [wO 2 109, wI x1, wI x2] [] σ = T36 d Q 14 [wO 2 109, wI x1, wI x2] [] σ := j3_T.go d [0, 6, 7, 10, 14] 400
set_option maxRecDepth 100000 in
theorem b36_14 {d : Nat} {Q : j3_P} {σ : j3_S} {x1 : Int} {x2 : Int} :
  T36 d Q 14 [wO 2 109, wI x1, wI x2] [] σ = Q none σ := j3_T.go d [0, 6, 7, 10, 14] 400
def T37 (d : Nat) (Q : j3_P) : j3_K := j3_T false (j3_tc false d) jc_X2_useField none Q
theorem e37 {d : Nat} {Q : j3_P} {σ : j3_S} {x1 : Int} {x2 : Int} {x3 : Int} : j3_tc false (d + 1) 37 [wO 2 109, wI x1, wI x2, wI x3] σ Q = T37 d Q 0 [wO 2 109, wI x1, wI x2, wI x3, wM 2, wM 2, wM 2] [] σ := j3_entry ⟨Nat.le_of_ble_eq_true rfl, rfl⟩
set_option maxRecDepth 100000 in
theorem b37_0 {d : Nat} {Q : j3_P} {σ : j3_S} {x1 : Int} {x2 : Int} {x3 : Int} :
  T37 d Q 0 [wO 2 109, wI x1, wI x2, wI x3, wM 2, wM 2, wM 2] [] σ = (if x1 = (18 : Int) then ((0 ≤ (wr ((wr (x2 * 6)) + x3)) ∧ (wr ((wr (x2 * 6)) + x3)) < 60) ∧ j3_tc false d 26 [wO 2 109, wI (σ.2.2 2015 109 (wr ((wr (x2 * 6)) + x3)))] σ (fun r σ1 => T37 d Q 13 [wO 2 109, wI x1, wI x2, wI x3, wM 2, wM 2, wM 2] (r.toList ++ []) σ1)) else (if x1 = (19 : Int) then j3_tc false d 27 [wO 2 109] σ (fun r σ1 => T37 d Q 26 [wO 2 109, wI x1, wI x2, wI x3, wM 2, wM 2, wM 2] (r.toList ++ [wI (wr ((wr (x2 * 6)) + x3)), wA 2015 109]) σ1) else (if x1 = (17 : Int) then j3_tc false d 27 [wO 2 109] σ (fun r σ1 => T37 d Q 33 [wO 2 109, wI x1, wI x2, wI x3, wM 2, wM 2, wM 2] (r.toList ++ []) σ1) else T37 d Q 35 [wO 2 109, wI x1, wI x2, wI x3, wM 2, wM 2, wM 2] [wI 0] σ))) := j3_T.go d [0, 13, 26, 33, 35, 38, 42, 46, 78] 400
set_option maxRecDepth 100000 in
theorem b37_13 {d : Nat} {Q : j3_P} {σ : j3_S} {x1 : Int} {x2 : Int} {x3 : Int} :
  T37 d Q 13 [wO 2 109, wI x1, wI x2, wI x3, wM 2, wM 2, wM 2] [] σ = Q none σ := j3_T.go d [0, 13, 26, 33, 35, 38, 42, 46, 78] 400
set_option maxRecDepth 100000 in
theorem b37_26 {d : Nat} {Q : j3_P} {σ : j3_S} {x1 : Int} {x2 : Int} {x3 : Int} {xs0 : Int} {xs1 : Int} :
  T37 d Q 26 [wO 2 109, wI x1, wI x2, wI x3, wM 2, wM 2, wM 2] [wI xs0, wI xs1, wA 2015 109] σ = ((0 ≤ xs1 ∧ xs1 < 60) ∧ Q none (σ.1, σ.2.1, (j3_ast σ.2.2 2015 109 xs1 xs0))) := j3_T.go d [0, 13, 26, 33, 35, 38, 42, 46, 78] 400
set_option maxRecDepth 100000 in
theorem b37_33 {d : Nat} {Q : j3_P} {σ : j3_S} {x1 : Int} {x2 : Int} {x3 : Int} {xs0 : Int} :
  T37 d Q 33 [wO 2 109, wI x1, wI x2, wI x3, wM 2, wM 2, wM 2] [wI xs0] σ = T37 d Q 35 [wO 2 109, wI x1, wI x2, wI x3, wM 2, wM 2, wM 2] [wI xs0] σ := j3_T.go d [0, 13, 26, 33, 35, 38, 42, 46, 78] 400
set_option maxRecDepth 100000 in
theorem b37_35 {d : Nat} {Q : j3_P} {σ : j3_S} {x1 : Int} {x2 : Int} {x3 : Int} {xs0 : Int} :
  T37 d Q 35 [wO 2 109, wI x1, wI x2, wI x3, wM 2, wM 2, wM 2] [wI xs0] σ = j3_tc false d 27 [wO 2 109] σ (fun r σ1 => T37 d Q 38 [wO 2 109, wI x1, wI x2, wI x3, wI xs0, wM 2, wM 2] (r.toList ++ []) σ1) := j3_T.go d [0, 13, 26, 33, 35, 38, 42, 46, 78] 400
set_option maxRecDepth 100000 in
theorem b37_38 {d : Nat} {Q : j3_P} {σ : j3_S} {x1 : Int} {x2 : Int} {x3 : Int} {x4 : Int} {xs0 : Int} :
  T37 d Q 38 [wO 2 109, wI x1, wI x2, wI x3, wI x4, wM 2, wM 2] [wI xs0] σ = j3_tc false d 34 [wO 2 109, wI xs0] σ (fun r σ1 => T37 d Q 42 [wO 2 109, wI x1, wI x2, wI x3, wI x4, wI xs0, wM 2] (r.toList ++ []) σ1) := j3_T.go d [0, 13, 26, 33, 35, 38, 42, 46, 78] 400
set_option maxRecDepth 100000 in
theorem b37_42 {d : Nat} {Q : j3_P} {σ : j3_S} {x1 : Int} {x2 : Int} {x3 : Int} {x4 : Int} {x5 : Int} {xs0 : Int} :
  T37 d Q 42 [wO 2 109, wI x1, wI x2, wI x3, wI x4, wI x5, wM 2] [wI xs0] σ = (if xs0 = 0 then j3_tc false d 25 [wO 2 109, wI 1] σ (fun r σ1 => T37 d Q 46 [wO 2 109, wI x1, wI x2, wI x3, wI x4, wI x5, wM 2] (r.toList ++ []) σ1) else (¬ (σ.2.1 1) = 0 ∧ ((0 ≤ x2 ∧ x2 < 10) ∧ (if x1 = (17 : Int) then ((0 ≤ (wr ((wr ((wr ((wr (x5 - 1)) * 60)) + (wr ((σ.2.2 3004 (σ.2.1 1) x2) * 6)))) + x3)) ∧ (wr ((wr ((wr ((wr (x5 - 1)) * 60)) + (wr ((σ.2.2 3004 (σ.2.1 1) x2) * 6)))) + x3)) < 12000) ∧ T37 d Q 78 [wO 2 109, wI x1, wI x2, wI x3, wI x4, wI x5, wI (wr ((wr ((wr ((wr (x5 - 1)) * 60)) + (wr ((σ.2.2 3004 (σ.2.1 1) x2) * 6)))) + x3))] [] (σ.1, σ.2.1, (j3_ast σ.2.2 2014 109 (wr ((wr ((wr ((wr (x5 - 1)) * 60)) + (wr ((σ.2.2 3004 (σ.2.1 1) x2) * 6)))) + x3)) x4))) else ((0 ≤ (wr ((wr ((wr ((wr (x5 - 1)) * 60)) + (wr ((σ.2.2 3004 (σ.2.1 1) x2) * 6)))) + x3)) ∧ (wr ((wr ((wr ((wr (x5 - 1)) * 60)) + (wr ((σ.2.2 3004 (σ.2.1 1) x2) * 6)))) + x3)) < 12000) ∧ j3_tc false d 26 [wO 2 109, wI (σ.2.2 2014 109 (wr ((wr ((wr ((wr (x5 - 1)) * 60)) + (wr ((σ.2.2 3004 (σ.2.1 1) x2) * 6)))) + x3)))] σ (fun r σ1 => T37 d Q 78 [wO 2 109, wI x1, wI x2, wI x3, wI x4, wI x5, wI (wr ((wr ((wr ((wr (x5 - 1)) * 60)) + (wr ((σ.2.2 3004 (σ.2.1 1) x2) * 6)))) + x3))] (r.toList ++ []) σ1)))))) := j3_T.go d [0, 13, 26, 33, 35, 38, 42, 46, 78] 400
set_option maxRecDepth 100000 in
theorem b37_46 {d : Nat} {Q : j3_P} {σ : j3_S} {x1 : Int} {x2 : Int} {x3 : Int} {x4 : Int} {x5 : Int} :
  T37 d Q 46 [wO 2 109, wI x1, wI x2, wI x3, wI x4, wI x5, wM 2] [] σ = Q none σ := j3_T.go d [0, 13, 26, 33, 35, 38, 42, 46, 78] 400
set_option maxRecDepth 100000 in
theorem b37_78 {d : Nat} {Q : j3_P} {σ : j3_S} {x1 : Int} {x2 : Int} {x3 : Int} {x4 : Int} {x5 : Int} {x6 : Int} :
  T37 d Q 78 [wO 2 109, wI x1, wI x2, wI x3, wI x4, wI x5, wI x6] [] σ = Q none σ := j3_T.go d [0, 13, 26, 33, 35, 38, 42, 46, 78] 400
def T38 (d : Nat) (Q : j3_P) : j3_K := j3_T false (j3_tc false d) jc_X2_enter none Q
theorem e38 {d : Nat} {Q : j3_P} {σ : j3_S} {x1 : Int} {x2 : Int} : j3_tc false (d + 1) 38 [wO 2 109, wI x1, wI x2] σ Q = T38 d Q 0 [wO 2 109, wI x1, wI x2, wM 2, wM 2, wM 2, wM 2, wM 2] [] σ := j3_entry ⟨Nat.le_of_ble_eq_true rfl, rfl⟩
set_option maxRecDepth 100000 in
theorem b38_0 {d : Nat} {Q : j3_P} {σ : j3_S} {x1 : Int} {x2 : Int} :
  T38 d Q 0 [wO 2 109, wI x1, wI x2, wM 2, wM 2, wM 2, wM 2, wM 2] [] σ = (¬ (σ.2.1 1) = 0 ∧ ((0 ≤ x2 ∧ x2 < 80) ∧ (¬ (σ.2.1 1) = 0 ∧ j3_tc false d 51 [wO 3 (σ.2.1 1), wI x2] σ (fun r σ1 => T38 d Q 14 [wO 2 109, wI x1, wI x2, wI (wr ((σ.1 2007 109) - 1)), wM 2, wM 2, wM 2, wM 2] (r.toList ++ [wI (σ.2.2 3015 (σ.2.1 1) x2)]) σ1)))) := j3_T.go d [0, 14, 29, 45, 49, 53, 67, 69, 70, 79, 82, 108] 400
set_option maxRecDepth 100000 in
theorem b38_14 {d : Nat} {Q : j3_P} {σ : j3_S} {x1 : Int} {x2 : Int} {x3 : Int} {xs0 : Int} {xs1 : Int} :
  T38 d Q 14 [wO 2 109, wI x1, wI x2, wI x3, wM 2, wM 2, wM 2, wM 2] [wI xs0, wI xs1] σ = ((0 ≤ x3 ∧ x3 < 40) ∧ (¬ (σ.2.1 1) = 0 ∧ j3_tc false d 51 [wO 3 (σ.2.1 1), wI x2] σ (fun r σ1 => T38 d Q 29 [wO 2 109, wI x1, wI x2, wI x3, wI (wr (xs1 + xs0)), wI (wr ((σ.2.2 2010 109 x3) - (wr (xs1 + xs0)))), wI x2, wM 2] (r.toList ++ []) σ1))) := j3_T.go d [0, 14, 29, 45, 49, 53, 67, 69, 70, 79, 82, 108] 400
set_option maxRecDepth 100000 in
theorem b38_29 {d : Nat} {Q : j3_P} {σ : j3_S} {x1 : Int} {x2 : Int} {x3 : Int} {x4 : Int} {x5 : Int} {x6 : Int} {xs0 : Int} :
  T38 d Q 29 [wO 2 109, wI x1, wI x2, wI x3, wI x4, wI x5, wI x6, wM 2] [wI xs0] σ = (if xs0 = (1 : Int) then (if x5 < 0 then T38 d Q 45 [wO 2 109, wI x1, wI x2, wI x3, wI x4, wI x5, wI x6, wM 2] [wI 0] σ else ((0 ≤ (wr ((wr ((wr (x3 * 30)) + 20)) + x5)) ∧ (wr ((wr ((wr (x3 * 30)) + 20)) + x5)) < 1200) ∧ T38 d Q 45 [wO 2 109, wI x1, wI x2, wI x3, wI x4, wI x5, wI x6, wM 2] [wI (σ.2.2 2011 109 (wr ((wr ((wr (x3 * 30)) + 20)) + x5)))] σ)) else T38 d Q 70 [wO 2 109, wI x1, wI x2, wI x3, wI x4, wI x5, wI x6, wM 2] [] σ) := j3_T.go d [0, 14, 29, 45, 49, 53, 67, 69, 70, 79, 82, 108] 400
set_option maxRecDepth 100000 in
theorem b38_45 {d : Nat} {Q : j3_P} {σ : j3_S} {x1 : Int} {x2 : Int} {x3 : Int} {x4 : Int} {x5 : Int} {x6 : Int} {xs0 : Int} :
  T38 d Q 45 [wO 2 109, wI x1, wI x2, wI x3, wI x4, wI x5, wI x6, wM 2] [wI xs0] σ = j3_tc false d 34 [wO 2 109, wI xs0] σ (fun r σ1 => T38 d Q 49 [wO 2 109, wI x1, wI x2, wI x3, wI x4, wI x5, wI x6, wI xs0] (r.toList ++ []) σ1) := j3_T.go d [0, 14, 29, 45, 49, 53, 67, 69, 70, 79, 82, 108] 400
set_option maxRecDepth 100000 in
theorem b38_49 {d : Nat} {Q : j3_P} {σ : j3_S} {x1 : Int} {x2 : Int} {x3 : Int} {x4 : Int} {x5 : Int} {x6 : Int} {x7 : Int} {xs0 : Int} :
  T38 d Q 49 [wO 2 109, wI x1, wI x2, wI x3, wI x4, wI x5, wI x6, wI x7] [wI xs0] σ = (if xs0 = 0 then j3_tc false d 25 [wO 2 109, wI 1] σ (fun r σ1 => T38 d Q 53 [wO 2 109, wI x1, wI x2, wI x3, wI x4, wI x5, wI x6, wI x7] (r.toList ++ []) σ1) else (if x1 = (21 : Int) then (¬ (σ.2.1 1) = 0 ∧ ((0 ≤ (wr (x7 - 1)) ∧ (wr (x7 - 1)) < 200) ∧ j3_tc false d 49 [wO 3 (σ.2.1 1), wI (σ.2.2 2013 109 (wr (x7 - 1))), wI x2] σ (fun r σ1 => T38 d Q 67 [wO 2 109, wI x1, wI x2, wI x3, wI x4, wI x5, wI x6, wI x7] (r.toList ++ []) σ1))) else T38 d Q 69 [wO 2 109, wI x1, wI x2, wI x3, wI x4, wI x5, wI x6, wI x7] [wI x2] σ)) := j3_T.go d [0, 14, 29, 45, 49, 53, 67, 69, 70, 79, 82, 108] 400
set_option maxRecDepth 100000 in
theorem b38_53 {d : Nat} {Q : j3_P} {σ : j3_S} {x1 : Int} {x2 : Int} {x3 : Int} {x4 : Int} {x5 : Int} {x6 : Int} {x7 : Int} :
  T38 d Q 53 [wO 2 109, wI x1, wI x2, wI x3, wI x4, wI x5, wI x6, wI x7] [] σ = Q none σ := j3_T.go d [0, 14, 29, 45, 49, 53, 67, 69, 70, 79, 82, 108] 400
set_option maxRecDepth 100000 in
theorem b38_67 {d : Nat} {Q : j3_P} {σ : j3_S} {x1 : Int} {x2 : Int} {x3 : Int} {x4 : Int} {x5 : Int} {x6 : Int} {x7 : Int} {xs0 : Int} :
  T38 d Q 67 [wO 2 109, wI x1, wI x2, wI x3, wI x4, wI x5, wI x6, wI x7] [wI xs0] σ = T38 d Q 69 [wO 2 109, wI x1, wI x2, wI x3, wI x4, wI x5, wI x6, wI x7] [wI xs0] σ := j3_T.go d [0, 14, 29, 45, 49, 53, 67, 69, 70, 79, 82, 108] 400
set_option maxRecDepth 100000 in
theorem b38_69 {d : Nat} {Q : j3_P} {σ : j3_S} {x1 : Int} {x2 : Int} {x3 : Int} {x4 : Int} {x5 : Int} {x6 : Int} {x7 : Int} {xs0 : Int} :
  T38 d Q 69 [wO 2 109, wI x1, wI x2, wI x3, wI x4, wI x5, wI x6, wI x7] [wI xs0] σ = T38 d Q 70 [wO 2 109, wI x1, wI x2, wI x3, wI x4, wI x5, wI xs0, wI x7] [] σ := j3_T.go d [0, 14, 29, 45, 49, 53, 67, 69, 70, 79, 82, 108] 400
set_option maxRecDepth 100000 in
theorem b38_70 {d : Nat} {Q : j3_P} {σ : j3_S} {x1 : Int} {x2 : Int} {x3 : Int} {x4 : Int} {x5 : Int} {x6 : Int} {w7 : j3_W} :
  T38 d Q 70 [wO 2 109, wI x1, wI x2, wI x3, wI x4, wI x5, wI x6, w7] [] σ = (if (σ.1 2007 109) < (40 : Int) then (if x6 = (-1 : Int) then T38 d Q 79 [wO 2 109, wI x1, wI x2, wI x3, wI x4, wI x5, wI x6, w7] [] σ else (if x5 < 0 then T38 d Q 79 [wO 2 109, wI x1, wI x2, wI x3, wI x4, wI x5, wI x6, w7] [] σ else ((0 ≤ x3 ∧ x3 < 40) ∧ ((0 ≤ (wr ((wr ((wr (x3 * 30)) + 20)) + x5)) ∧ 0 ≤ (wr ((σ.1 2007 109) * 30)) ∧ 0 ≤ x4 ∧ (wr ((wr ((wr (x3 * 30)) + 20)) + x5)) + x4 ≤ 1200 ∧ (wr ((σ.1 2007 109) * 30)) + x4 ≤ 1200) ∧ j3_tc false d 24 [wO 2 109, wI x6] (σ.1, σ.2.1, (j3_acp (j3_ast σ.2.2 2010 109 x3 x5) 2011 109 2011 109 (wr ((wr ((wr (x3 * 30)) + 20)) + x5)) (wr ((σ.1 2007 109) * 30)) x4)) (fun r σ1 => T38 d Q 108 [wO 2 109, wI x1, wI x2, wI x3, wI x4, wI x5, wI x6, w7] (r.toList ++ []) σ1))))) else T38 d Q 79 [wO 2 109, wI x1, wI x2, wI x3, wI x4, wI x5, wI x6, w7] [] σ) := j3_T.go d [0, 14, 29, 45, 49, 53, 67, 69, 70, 79, 82, 108] 400
set_option maxRecDepth 100000 in
theorem b38_79 {d : Nat} {Q : j3_P} {σ : j3_S} {x1 : Int} {x2 : Int} {x3 : Int} {x4 : Int} {x5 : Int} {x6 : Int} {w7 : j3_W} :
  T38 d Q 79 [wO 2 109, wI x1, wI x2, wI x3, wI x4, wI x5, wI x6, w7] [] σ = j3_tc false d 25 [wO 2 109, wI 5] σ (fun r σ1 => T38 d Q 82 [wO 2 109, wI x1, wI x2, wI x3, wI x4, wI x5, wI x6, w7] (r.toList ++ []) σ1) := j3_T.go d [0, 14, 29, 45, 49, 53, 67, 69, 70, 79, 82, 108] 400
set_option maxRecDepth 100000 in
theorem b38_82 {d : Nat} {Q : j3_P} {σ : j3_S} {x1 : Int} {x2 : Int} {x3 : Int} {x4 : Int} {x5 : Int} {x6 : Int} {w7 : j3_W} :
  T38 d Q 82 [wO 2 109, wI x1, wI x2, wI x3, wI x4, wI x5, wI x6, w7] [] σ = Q none σ := j3_T.go d [0, 14, 29, 45, 49, 53, 67, 69, 70, 79, 82, 108] 400
set_option maxRecDepth 100000 in
theorem b38_108 {d : Nat} {Q : j3_P} {σ : j3_S} {x1 : Int} {x2 : Int} {x3 : Int} {x4 : Int} {x5 : Int} {x6 : Int} {w7 : j3_W} :
  T38 d Q 108 [wO 2 109, wI x1, wI x2, wI x3, wI x4, wI x5, wI x6, w7] [] σ = Q none σ := j3_T.go d [0, 14, 29, 45, 49, 53, 67, 69, 70, 79, 82, 108] 400
def T39 (d : Nat) (Q : j3_P) : j3_K := j3_T false (j3_tc false d) jc_X2_leave none Q
theorem e39 {d : Nat} {Q : j3_P} {σ : j3_S}  : j3_tc false (d + 1) 39 [wO 2 109] σ Q = T39 d Q 0 [wO 2 109, wM 2, wM 2] [] σ := j3_entry ⟨Nat.le_of_ble_eq_true rfl, rfl⟩
set_option maxRecDepth 100000 in
theorem b39_0 {d : Nat} {Q : j3_P} {σ : j3_S}  :
  T39 d Q 0 [wO 2 109, wM 2, wM 2] [] σ = (¬ (σ.2.1 1) = 0 ∧ ((0 ≤ (wr ((σ.1 2007 109) - 1)) ∧ (wr ((σ.1 2007 109) - 1)) < 40) ∧ ((0 ≤ (σ.2.2 2008 109 (wr ((σ.1 2007 109) - 1))) ∧ (σ.2.2 2008 109 (wr ((σ.1 2007 109) - 1))) < 80) ∧ (if (σ.2.2 3014 (σ.2.1 1) (σ.2.2 2008 109 (wr ((σ.1 2007 109) - 1)))) = 0 then T39 d Q 15 [wO 2 109, wM 2, wM 2] [wI 0] σ else T39 d Q 15 [wO 2 109, wM 2, wM 2] [wI 1] σ)))) := j3_T.go d [0, 15, 20, 22, 42] 400
set_option maxRecDepth 100000 in
theorem b39_15 {d : Nat} {Q : j3_P} {σ : j3_S} {xs0 : Int} :
  T39 d Q 15 [wO 2 109, wM 2, wM 2] [wI xs0] σ = (if xs0 = 0 then T39 d Q 22 [wO 2 109, wI xs0, wM 2] [wI 0] σ else j3_tc false d 27 [wO 2 109] σ (fun r σ1 => T39 d Q 20 [wO 2 109, wI xs0, wM 2] (r.toList ++ []) σ1)) := j3_T.go d [0, 15, 20, 22, 42] 400
set_option maxRecDepth 100000 in
theorem b39_20 {d : Nat} {Q : j3_P} {σ : j3_S} {x1 : Int} {xs0 : Int} :
  T39 d Q 20 [wO 2 109, wI x1, wM 2] [wI xs0] σ = T39 d Q 22 [wO 2 109, wI x1, wM 2] [wI xs0] σ := j3_T.go d [0, 15, 20, 22, 42] 400
set_option maxRecDepth 100000 in
theorem b39_22 {d : Nat} {Q : j3_P} {σ : j3_S} {x1 : Int} {xs0 : Int} :
  T39 d Q 22 [wO 2 109, wI x1, wM 2] [wI xs0] σ = (if (σ.1 2007 109) = (1 : Int) then Q none ((j3_up σ.1 2006 109 0), σ.2.1, σ.2.2) else (if x1 = 0 then T39 d Q 42 [wO 2 109, wI x1, wI xs0] [] ((j3_up σ.1 2007 109 (wr ((σ.1 2007 109) - 1))), σ.2.1, σ.2.2) else j3_tc false d 26 [wO 2 109, wI xs0] ((j3_up σ.1 2007 109 (wr ((σ.1 2007 109) - 1))), σ.2.1, σ.2.2) (fun r σ1 => T39 d Q 42 [wO 2 109, wI x1, wI xs0] (r.toList ++ []) σ1))) := j3_T.go d [0, 15, 20, 22, 42] 400
set_option maxRecDepth 100000 in
theorem b39_42 {d : Nat} {Q : j3_P} {σ : j3_S} {x1 : Int} {x2 : Int} :
  T39 d Q 42 [wO 2 109, wI x1, wI x2] [] σ = ((0 ≤ (wr ((σ.1 2007 109) - 1)) ∧ (wr ((σ.1 2007 109) - 1)) < 40) ∧ ((0 ≤ (wr ((σ.1 2007 109) - 1)) ∧ (wr ((σ.1 2007 109) - 1)) < 40) ∧ Q none (σ.1, σ.2.1, (j3_ast σ.2.2 2009 109 (wr ((σ.1 2007 109) - 1)) (wr ((σ.2.2 2009 109 (wr ((σ.1 2007 109) - 1))) + 1)))))) := j3_T.go d [0, 15, 20, 22, 42] 400
def T41 (d : Nat) (Q : j3_P) : j3_K := j3_T false (j3_tc false d) jc_X3_hasClass (some .boolean) Q
theorem e41 {d : Nat} {Q : j3_P} {σ : j3_S} {o0 : Nat} {x1 : Int} : j3_tc false (d + 1) 41 [wO 3 o0, wI x1] σ Q = T41 d Q 0 [wO 3 o0, wI x1] [] σ := j3_entry ⟨Nat.le_of_ble_eq_true rfl, rfl⟩
set_option maxRecDepth 100000 in
theorem b41_0 {d : Nat} {Q : j3_P} {σ : j3_S} {o0 : Nat} {x1 : Int} :
  T41 d Q 0 [wO 3 o0, wI x1] [] σ = (if x1 < 0 then (((0 : Int) = 0 ∨ (0 : Int) = 1) ∧ Q (some (wI 0)) σ) else (if x1 < (σ.1 3000 o0) then (((1 : Int) = 0 ∨ (1 : Int) = 1) ∧ Q (some (wI 1)) σ) else (((0 : Int) = 0 ∨ (0 : Int) = 1) ∧ Q (some (wI 0)) σ))) := j3_T.go d [0] 400
def T42 (d : Nat) (Q : j3_P) : j3_K := j3_T false (j3_tc false d) jc_X3_hasField (some .boolean) Q
theorem e42 {d : Nat} {Q : j3_P} {σ : j3_S} {o0 : Nat} {x1 : Int} {x2 : Int} : j3_tc false (d + 1) 42 [wO 3 o0, wI x1, wI x2] σ Q = T42 d Q 0 [wO 3 o0, wI x1, wI x2] [] σ := j3_entry ⟨Nat.le_of_ble_eq_true rfl, rfl⟩
set_option maxRecDepth 100000 in
theorem b42_0 {d : Nat} {Q : j3_P} {σ : j3_S} {o0 : Nat} {x1 : Int} {x2 : Int} :
  T42 d Q 0 [wO 3 o0, wI x1, wI x2] [] σ = j3_tc false d 41 [wO 3 o0, wI x1] σ (fun r σ1 => T42 d Q 3 [wO 3 o0, wI x1, wI x2] (r.toList ++ []) σ1) := j3_T.go d [0, 3] 400
set_option maxRecDepth 100000 in
theorem b42_3 {d : Nat} {Q : j3_P} {σ : j3_S} {o0 : Nat} {x1 : Int} {x2 : Int} {xs0 : Int} :
  T42 d Q 3 [wO 3 o0, wI x1, wI x2] [wI xs0] σ = (if xs0 = 0 then (((0 : Int) = 0 ∨ (0 : Int) = 1) ∧ Q (some (wI 0)) σ) else (if x2 < 0 then (((0 : Int) = 0 ∨ (0 : Int) = 1) ∧ Q (some (wI 0)) σ) else ((0 ≤ x1 ∧ x1 < 10) ∧ (if x2 < (σ.2.2 3005 o0 x1) then (((1 : Int) = 0 ∨ (1 : Int) = 1) ∧ Q (some (wI 1)) σ) else (((0 : Int) = 0 ∨ (0 : Int) = 1) ∧ Q (some (wI 0)) σ))))) := j3_T.go d [0, 3] 400
def T43 (d : Nat) (Q : j3_P) : j3_K := j3_T false (j3_tc false d) jc_X3_hasMethod (some .boolean) Q
theorem e43 {d : Nat} {Q : j3_P} {σ : j3_S} {o0 : Nat} {x1 : Int} {x2 : Int} : j3_tc false (d + 1) 43 [wO 3 o0, wI x1, wI x2] σ Q = T43 d Q 0 [wO 3 o0, wI x1, wI x2] [] σ := j3_entry ⟨Nat.le_of_ble_eq_true rfl, rfl⟩
set_option maxRecDepth 100000 in
theorem b43_0 {d : Nat} {Q : j3_P} {σ : j3_S} {o0 : Nat} {x1 : Int} {x2 : Int} :
  T43 d Q 0 [wO 3 o0, wI x1, wI x2] [] σ = j3_tc false d 41 [wO 3 o0, wI x1] σ (fun r σ1 => T43 d Q 3 [wO 3 o0, wI x1, wI x2] (r.toList ++ []) σ1) := j3_T.go d [0, 3] 400
set_option maxRecDepth 100000 in
theorem b43_3 {d : Nat} {Q : j3_P} {σ : j3_S} {o0 : Nat} {x1 : Int} {x2 : Int} {xs0 : Int} :
  T43 d Q 3 [wO 3 o0, wI x1, wI x2] [wI xs0] σ = (if xs0 = 0 then (((0 : Int) = 0 ∨ (0 : Int) = 1) ∧ Q (some (wI 0)) σ) else (if x2 < 0 then (((0 : Int) = 0 ∨ (0 : Int) = 1) ∧ Q (some (wI 0)) σ) else ((0 ≤ x1 ∧ x1 < 10) ∧ (if x2 < (σ.2.2 3006 o0 x1) then (((1 : Int) = 0 ∨ (1 : Int) = 1) ∧ Q (some (wI 1)) σ) else (((0 : Int) = 0 ∨ (0 : Int) = 1) ∧ Q (some (wI 0)) σ))))) := j3_T.go d [0, 3] 400
def T44 (d : Nat) (Q : j3_P) : j3_K := j3_T false (j3_tc false d) jc_X3_hasNumber (some .boolean) Q
theorem e44 {d : Nat} {Q : j3_P} {σ : j3_S} {o0 : Nat} {x1 : Int} : j3_tc false (d + 1) 44 [wO 3 o0, wI x1] σ Q = T44 d Q 0 [wO 3 o0, wI x1] [] σ := j3_entry ⟨Nat.le_of_ble_eq_true rfl, rfl⟩
set_option maxRecDepth 100000 in
theorem b44_0 {d : Nat} {Q : j3_P} {σ : j3_S} {o0 : Nat} {x1 : Int} :
  T44 d Q 0 [wO 3 o0, wI x1] [] σ = (if x1 < 0 then (((0 : Int) = 0 ∨ (0 : Int) = 1) ∧ Q (some (wI 0)) σ) else (if x1 < (σ.1 3001 o0) then (((1 : Int) = 0 ∨ (1 : Int) = 1) ∧ Q (some (wI 1)) σ) else (((0 : Int) = 0 ∨ (0 : Int) = 1) ∧ Q (some (wI 0)) σ))) := j3_T.go d [0] 400
def T45 (d : Nat) (Q : j3_P) : j3_K := j3_T false (j3_tc false d) jc_X3_hasInstruction (some .boolean) Q
theorem e45 {d : Nat} {Q : j3_P} {σ : j3_S} {o0 : Nat} {x1 : Int} {x2 : Int} : j3_tc false (d + 1) 45 [wO 3 o0, wI x1, wI x2] σ Q = T45 d Q 0 [wO 3 o0, wI x1, wI x2] [] σ := j3_entry ⟨Nat.le_of_ble_eq_true rfl, rfl⟩
set_option maxRecDepth 100000 in
theorem b45_0 {d : Nat} {Q : j3_P} {σ : j3_S} {o0 : Nat} {x1 : Int} {x2 : Int} :
  T45 d Q 0 [wO 3 o0, wI x1, wI x2] [] σ = j3_tc false d 44 [wO 3 o0, wI x1] σ (fun r σ1 => T45 d Q 3 [wO 3 o0, wI x1, wI x2] (r.toList ++ []) σ1) := j3_T.go d [0, 3] 400
set_option maxRecDepth 100000 in
theorem b45_3 {d : Nat} {Q : j3_P} {σ : j3_S} {o0 : Nat} {x1 : Int} {x2 : Int} {xs0 : Int} :
  T45 d Q 3 [wO 3 o0, wI x1, wI x2] [wI xs0] σ = (if xs0 = 0 then (((0 : Int) = 0 ∨ (0 : Int) = 1) ∧ Q (some (wI 0)) σ) else (if x2 < 0 then (((0 : Int) = 0 ∨ (0 : Int) = 1) ∧ Q (some (wI 0)) σ) else ((0 ≤ x1 ∧ x1 < 80) ∧ (if x2 < (σ.2.2 0 (o0 + 17) x1) then (((1 : Int) = 0 ∨ (1 : Int) = 1) ∧ Q (some (wI 1)) σ) else (((0 : Int) = 0 ∨ (0 : Int) = 1) ∧ Q (some (wI 0)) σ))))) := j3_T.go d [0, 3] 400
def T46 (d : Nat) (Q : j3_P) : j3_K := j3_T false (j3_tc false d) jc_X3_countFields (some .int) Q
theorem e46 {d : Nat} {Q : j3_P} {σ : j3_S} {o0 : Nat} : j3_tc false (d + 1) 46 [wO 3 o0] σ Q = T46 d Q 0 [wO 3 o0, wM 2, wM 2] [] σ := j3_entry ⟨Nat.le_of_ble_eq_true rfl, rfl⟩
set_option maxRecDepth 100000 in
theorem b46_0 {d : Nat} {Q : j3_P} {σ : j3_S} {o0 : Nat} :
  T46 d Q 0 [wO 3 o0, wM 2, wM 2] [] σ = T46 d Q 4 [wO 3 o0, wI 0, wI 0] [] σ := j3_T.go d [0, 4] 400
set_option maxRecDepth 100000 in
theorem b46_4 {d : Nat} {Q : j3_P} {σ : j3_S} {o0 : Nat} {x1 : Int} {x2 : Int} :
  T46 d Q 4 [wO 3 o0, wI x1, wI x2] [] σ = (if x2 < (σ.1 3000 o0) then ((0 ≤ x2 ∧ x2 < 10) ∧ T46 d Q 4 [wO 3 o0, wI (wr (x1 + (σ.2.2 3005 o0 x2))), wI (wr (x2 + 1))] [] σ) else Q (some (wI x1)) σ) := j3_T.go d [0, 4] 400
def T47 (d : Nat) (Q : j3_P) : j3_K := j3_T false (j3_tc false d) jc_X3_countInstructions (some .int) Q
theorem e47 {d : Nat} {Q : j3_P} {σ : j3_S} {o0 : Nat} : j3_tc false (d + 1) 47 [wO 3 o0] σ Q = T47 d Q 0 [wO 3 o0, wM 2, wM 2] [] σ := j3_entry ⟨Nat.le_of_ble_eq_true rfl, rfl⟩
set_option maxRecDepth 100000 in
theorem b47_0 {d : Nat} {Q : j3_P} {σ : j3_S} {o0 : Nat} :
  T47 d Q 0 [wO 3 o0, wM 2, wM 2] [] σ = T47 d Q 4 [wO 3 o0, wI 0, wI 0] [] σ := j3_T.go d [0, 4] 400
set_option maxRecDepth 100000 in
theorem b47_4 {d : Nat} {Q : j3_P} {σ : j3_S} {o0 : Nat} {x1 : Int} {x2 : Int} :
  T47 d Q 4 [wO 3 o0, wI x1, wI x2] [] σ = (if x2 < (σ.1 3001 o0) then ((0 ≤ x2 ∧ x2 < 80) ∧ T47 d Q 4 [wO 3 o0, wI (wr (x1 + (σ.2.2 0 (o0 + 17) x2))), wI (wr (x2 + 1))] [] σ) else Q (some (wI x1)) σ) := j3_T.go d [0, 4] 400
def T48 (d : Nat) (Q : j3_P) : j3_K := j3_T false (j3_tc false d) jc_X3_covers (some .boolean) Q
theorem e48 {d : Nat} {Q : j3_P} {σ : j3_S} {o0 : Nat} {x1 : Int} {x2 : Int} : j3_tc false (d + 1) 48 [wO 3 o0, wI x1, wI x2] σ Q = T48 d Q 0 [wO 3 o0, wI x1, wI x2, wM 2, wM 2] [] σ := j3_entry ⟨Nat.le_of_ble_eq_true rfl, rfl⟩
set_option maxRecDepth 100000 in
theorem b48_0 {d : Nat} {Q : j3_P} {σ : j3_S} {o0 : Nat} {x1 : Int} {x2 : Int} :
  T48 d Q 0 [wO 3 o0, wI x1, wI x2, wM 2, wM 2] [] σ = T48 d Q 4 [wO 3 o0, wI x1, wI x2, wI x2, wI 0] [] σ := j3_T.go d [0, 4] 400
set_option maxRecDepth 100000 in
theorem b48_4 {d : Nat} {Q : j3_P} {σ : j3_S} {o0 : Nat} {x1 : Int} {x2 : Int} {x3 : Int} {x4 : Int} :
  T48 d Q 4 [wO 3 o0, wI x1, wI x2, wI x3, wI x4] [] σ = (if x4 < (10 : Int) then (if x3 < 0 then (((0 : Int) = 0 ∨ (0 : Int) = 1) ∧ Q (some (wI 0)) σ) else (if x3 = x1 then (((1 : Int) = 0 ∨ (1 : Int) = 1) ∧ Q (some (wI 1)) σ) else ((0 ≤ x3 ∧ x3 < 10) ∧ T48 d Q 4 [wO 3 o0, wI x1, wI x2, wI (σ.2.2 3003 o0 x3), wI (wr (x4 + 1))] [] σ))) else (((0 : Int) = 0 ∨ (0 : Int) = 1) ∧ Q (some (wI 0)) σ)) := j3_T.go d [0, 4] 400
def T49 (d : Nat) (Q : j3_P) : j3_K := j3_T false (j3_tc false d) jc_X3_meaning (some .int) Q
theorem e49 {d : Nat} {Q : j3_P} {σ : j3_S} {o0 : Nat} {x1 : Int} {x2 : Int} : j3_tc false (d + 1) 49 [wO 3 o0, wI x1, wI x2] σ Q = T49 d Q 0 [wO 3 o0, wI x1, wI x2, wM 2, wM 2, wM 2] [] σ := j3_entry ⟨Nat.le_of_ble_eq_true rfl, rfl⟩
set_option maxRecDepth 100000 in
theorem b49_0 {d : Nat} {Q : j3_P} {σ : j3_S} {o0 : Nat} {x1 : Int} {x2 : Int} :
  T49 d Q 0 [wO 3 o0, wI x1, wI x2, wM 2, wM 2, wM 2] [] σ = T49 d Q 4 [wO 3 o0, wI x1, wI x2, wI x1, wI 0, wM 2] [] σ := j3_T.go d [0, 4, 16] 400
set_option maxRecDepth 100000 in
theorem b49_4 {d : Nat} {Q : j3_P} {σ : j3_S} {o0 : Nat} {x1 : Int} {x2 : Int} {x3 : Int} {x4 : Int} {w5 : j3_W} :
  T49 d Q 4 [wO 3 o0, wI x1, wI x2, wI x3, wI x4, w5] [] σ = (if x4 < (10 : Int) then (if x3 < 0 then Q (some (wI (-1))) σ else ((0 ≤ x2 ∧ x2 < 80) ∧ j3_tc false d 50 [wO 3 o0, wI x3, wI (σ.2.2 3012 o0 x2)] σ (fun r σ1 => T49 d Q 16 [wO 3 o0, wI x1, wI x2, wI x3, wI x4, w5] (r.toList ++ []) σ1))) else Q (some (wI (-1))) σ) := j3_T.go d [0, 4, 16] 400
set_option maxRecDepth 100000 in
theorem b49_16 {d : Nat} {Q : j3_P} {σ : j3_S} {o0 : Nat} {x1 : Int} {x2 : Int} {x3 : Int} {x4 : Int} {w5 : j3_W} {xs0 : Int} :
  T49 d Q 16 [wO 3 o0, wI x1, wI x2, wI x3, wI x4, w5] [wI xs0] σ = (if xs0 = (-1 : Int) then ((0 ≤ x3 ∧ x3 < 10) ∧ T49 d Q 4 [wO 3 o0, wI x1, wI x2, wI (σ.2.2 3003 o0 x3), wI (wr (x4 + 1)), wI xs0] [] σ) else Q (some (wI xs0)) σ) := j3_T.go d [0, 4, 16] 400
def T50 (d : Nat) (Q : j3_P) : j3_K := j3_T false (j3_tc false d) jc_X3_named (some .int) Q
theorem e50 {d : Nat} {Q : j3_P} {σ : j3_S} {o0 : Nat} {x1 : Int} {x2 : Int} : j3_tc false (d + 1) 50 [wO 3 o0, wI x1, wI x2] σ Q = T50 d Q 0 [wO 3 o0, wI x1, wI x2, wM 2, wM 2] [] σ := j3_entry ⟨Nat.le_of_ble_eq_true rfl, rfl⟩
set_option maxRecDepth 100000 in
theorem b50_0 {d : Nat} {Q : j3_P} {σ : j3_S} {o0 : Nat} {x1 : Int} {x2 : Int} :
  T50 d Q 0 [wO 3 o0, wI x1, wI x2, wM 2, wM 2] [] σ = ((0 ≤ x1 ∧ x1 < 10) ∧ T50 d Q 7 [wO 3 o0, wI x1, wI x2, wI (σ.2.2 3007 o0 x1), wI 0] [] σ) := j3_T.go d [0, 7] 400
set_option maxRecDepth 100000 in
theorem b50_7 {d : Nat} {Q : j3_P} {σ : j3_S} {o0 : Nat} {x1 : Int} {x2 : Int} {x3 : Int} {x4 : Int} :
  T50 d Q 7 [wO 3 o0, wI x1, wI x2, wI x3, wI x4] [] σ = ((0 ≤ x1 ∧ x1 < 10) ∧ (if x4 < (σ.2.2 3006 o0 x1) then ((0 ≤ (wr (x3 + x4)) ∧ (wr (x3 + x4)) < 80) ∧ (if (σ.2.2 3012 o0 (wr (x3 + x4))) = x2 then Q (some (wI (wr (x3 + x4)))) σ else T50 d Q 7 [wO 3 o0, wI x1, wI x2, wI x3, wI (wr (x4 + 1))] [] σ)) else Q (some (wI (-1))) σ)) := j3_T.go d [0, 7] 400
def T51 (d : Nat) (Q : j3_P) : j3_K := j3_T false (j3_tc false d) jc_X3_receivers (some .int) Q
theorem e51 {d : Nat} {Q : j3_P} {σ : j3_S} {o0 : Nat} {x1 : Int} : j3_tc false (d + 1) 51 [wO 3 o0, wI x1] σ Q = T51 d Q 0 [wO 3 o0, wI x1] [] σ := j3_entry ⟨Nat.le_of_ble_eq_true rfl, rfl⟩
set_option maxRecDepth 100000 in
theorem b51_0 {d : Nat} {Q : j3_P} {σ : j3_S} {o0 : Nat} {x1 : Int} :
  T51 d Q 0 [wO 3 o0, wI x1] [] σ = ((0 ≤ x1 ∧ x1 < 80) ∧ (if (σ.2.2 3013 o0 x1) = 0 then Q (some (wI 1)) σ else Q (some (wI 0)) σ)) := j3_T.go d [0] 400
def T52 (d : Nat) (Q : j3_P) : j3_K := j3_T false (j3_tc false d) jc_X3_typeOfField (some .int) Q
theorem e52 {d : Nat} {Q : j3_P} {σ : j3_S} {o0 : Nat} {x1 : Int} {x2 : Int} : j3_tc false (d + 1) 52 [wO 3 o0, wI x1, wI x2] σ Q = T52 d Q 0 [wO 3 o0, wI x1, wI x2, wM 2] [] σ := j3_entry ⟨Nat.le_of_ble_eq_true rfl, rfl⟩
set_option maxRecDepth 100000 in
theorem b52_0 {d : Nat} {Q : j3_P} {σ : j3_S} {o0 : Nat} {x1 : Int} {x2 : Int} :
  T52 d Q 0 [wO 3 o0, wI x1, wI x2, wM 2] [] σ = ((0 ≤ (wr ((wr (x1 * 6)) + x2)) ∧ (wr ((wr (x1 * 6)) + x2)) < 60) ∧ (if (σ.2.2 3009 o0 (wr ((wr (x1 * 6)) + x2))) = 0 then Q (some (wI 1)) σ else Q (some (wI (wr ((wr ((σ.2.2 3009 o0 (wr ((wr (x1 * 6)) + x2))) - 1)) + 4)))) σ)) := j3_T.go d [0] 400
def T53 (d : Nat) (Q : j3_P) : j3_K := j3_T false (j3_tc false d) jc_X3_typeOfParam (some .int) Q
theorem e53 {d : Nat} {Q : j3_P} {σ : j3_S} {o0 : Nat} {x1 : Int} {x2 : Int} : j3_tc false (d + 1) 53 [wO 3 o0, wI x1, wI x2] σ Q = T53 d Q 0 [wO 3 o0, wI x1, wI x2, wM 2] [] σ := j3_entry ⟨Nat.le_of_ble_eq_true rfl, rfl⟩
set_option maxRecDepth 100000 in
theorem b53_0 {d : Nat} {Q : j3_P} {σ : j3_S} {o0 : Nat} {x1 : Int} {x2 : Int} :
  T53 d Q 0 [wO 3 o0, wI x1, wI x2, wM 2] [] σ = ((0 ≤ (wr ((wr (x1 * 3)) + x2)) ∧ (wr ((wr (x1 * 3)) + x2)) < 240) ∧ (if (σ.2.2 3016 o0 (wr ((wr (x1 * 3)) + x2))) = 0 then Q (some (wI 1)) σ else Q (some (wI (wr ((wr ((σ.2.2 3016 o0 (wr ((wr (x1 * 3)) + x2))) - 1)) + 4)))) σ)) := j3_T.go d [0] 400
def T54 (d : Nat) (Q : j3_P) : j3_K := j3_T false (j3_tc false d) jc_X3_typeOfResult (some .int) Q
theorem e54 {d : Nat} {Q : j3_P} {σ : j3_S} {o0 : Nat} {x1 : Int} : j3_tc false (d + 1) 54 [wO 3 o0, wI x1] σ Q = T54 d Q 0 [wO 3 o0, wI x1] [] σ := j3_entry ⟨Nat.le_of_ble_eq_true rfl, rfl⟩
set_option maxRecDepth 100000 in
theorem b54_0 {d : Nat} {Q : j3_P} {σ : j3_S} {o0 : Nat} {x1 : Int} :
  T54 d Q 0 [wO 3 o0, wI x1] [] σ = ((0 ≤ x1 ∧ x1 < 80) ∧ (if (σ.2.2 3014 o0 x1) = (1 : Int) then Q (some (wI 1)) σ else ((0 ≤ x1 ∧ x1 < 80) ∧ Q (some (wI (wr ((wr ((σ.2.2 3014 o0 x1) - 2)) + 4)))) σ))) := j3_T.go d [0] 400
def T55 (d : Nat) (Q : j3_P) : j3_K := j3_T false (j3_tc false d) jc_X3_sameFace (some .boolean) Q
theorem e55 {d : Nat} {Q : j3_P} {σ : j3_S} {o0 : Nat} {x1 : Int} {x2 : Int} : j3_tc false (d + 1) 55 [wO 3 o0, wI x1, wI x2] σ Q = T55 d Q 0 [wO 3 o0, wI x1, wI x2, wM 2] [] σ := j3_entry ⟨Nat.le_of_ble_eq_true rfl, rfl⟩
set_option maxRecDepth 100000 in
theorem b55_0 {d : Nat} {Q : j3_P} {σ : j3_S} {o0 : Nat} {x1 : Int} {x2 : Int} :
  T55 d Q 0 [wO 3 o0, wI x1, wI x2, wM 2] [] σ = ((0 ≤ x1 ∧ x1 < 80) ∧ (if (σ.2.2 3013 o0 x1) = 0 then ((0 ≤ x2 ∧ x2 < 80) ∧ (if (σ.2.2 3013 o0 x2) = 0 then ((0 ≤ x1 ∧ x1 < 80) ∧ ((0 ≤ x2 ∧ x2 < 80) ∧ (if (σ.2.2 3014 o0 x1) = (σ.2.2 3014 o0 x2) then ((0 ≤ x1 ∧ x1 < 80) ∧ ((0 ≤ x2 ∧ x2 < 80) ∧ (if (σ.2.2 3015 o0 x1) = (σ.2.2 3015 o0 x2) then T55 d Q 32 [wO 3 o0, wI x1, wI x2, wI 0] [] σ else (((0 : Int) = 0 ∨ (0 : Int) = 1) ∧ Q (some (wI 0)) σ)))) else (((0 : Int) = 0 ∨ (0 : Int) = 1) ∧ Q (some (wI 0)) σ)))) else (((0 : Int) = 0 ∨ (0 : Int) = 1) ∧ Q (some (wI 0)) σ))) else (((0 : Int) = 0 ∨ (0 : Int) = 1) ∧ Q (some (wI 0)) σ))) := j3_T.go d [0, 32] 400
set_option maxRecDepth 100000 in
theorem b55_32 {d : Nat} {Q : j3_P} {σ : j3_S} {o0 : Nat} {x1 : Int} {x2 : Int} {x3 : Int} :
  T55 d Q 32 [wO 3 o0, wI x1, wI x2, wI x3] [] σ = ((0 ≤ x1 ∧ x1 < 80) ∧ (if x3 < (σ.2.2 3015 o0 x1) then ((0 ≤ (wr ((wr (x1 * 3)) + x3)) ∧ (wr ((wr (x1 * 3)) + x3)) < 240) ∧ ((0 ≤ (wr ((wr (x2 * 3)) + x3)) ∧ (wr ((wr (x2 * 3)) + x3)) < 240) ∧ (if (σ.2.2 3016 o0 (wr ((wr (x1 * 3)) + x3))) = (σ.2.2 3016 o0 (wr ((wr (x2 * 3)) + x3))) then T55 d Q 32 [wO 3 o0, wI x1, wI x2, wI (wr (x3 + 1))] [] σ else (((0 : Int) = 0 ∨ (0 : Int) = 1) ∧ Q (some (wI 0)) σ)))) else (((1 : Int) = 0 ∨ (1 : Int) = 1) ∧ Q (some (wI 1)) σ))) := j3_T.go d [0, 32] 400
def T57 (d : Nat) (Q : j3_P) : j3_K := j3_T false (j3_tc false d) jc_X4_find none Q
theorem e57 {d : Nat} {Q : j3_P} {σ : j3_S} {o1 : Nat} {o2 : Nat} {x4 : Int} : j3_tc false (d + 1) 57 [wO 4 92, wO 3 o1, wO 0 o2, wA 9008 0, wI x4] σ Q = T57 d Q 0 [wO 4 92, wO 3 o1, wO 0 o2, wA 9008 0, wI x4, wM 2, wM 2] [] σ := j3_entry ⟨Nat.le_of_ble_eq_true rfl, rfl⟩
set_option maxRecDepth 100000 in
theorem b57_0 {d : Nat} {Q : j3_P} {σ : j3_S} {o1 : Nat} {o2 : Nat} {x4 : Int} :
  T57 d Q 0 [wO 4 92, wO 3 o1, wO 0 o2, wA 9008 0, wI x4, wM 2, wM 2] [] σ = j3_tc false d 58 [wO 4 92] (σ.1, (j3_upP σ.2.1 2 o1), σ.2.2) (fun r σ1 => T57 d Q 5 [wO 4 92, wO 3 o1, wO 0 o2, wA 9008 0, wI x4, wM 2, wM 2] (r.toList ++ []) σ1) := j3_T.go d [0, 5, 9, 13, 15, 32, 43, 58] 400
set_option maxRecDepth 100000 in
theorem b57_5 {d : Nat} {Q : j3_P} {σ : j3_S} {o1 : Nat} {o2 : Nat} {x4 : Int} :
  T57 d Q 5 [wO 4 92, wO 3 o1, wO 0 o2, wA 9008 0, wI x4, wM 2, wM 2] [] σ = j3_tc false d 248 [wA 4000 92, wI 0] σ (fun r σ1 => T57 d Q 9 [wO 4 92, wO 3 o1, wO 0 o2, wA 9008 0, wI x4, wM 2, wM 2] (r.toList ++ []) σ1) := j3_T.go d [0, 5, 9, 13, 15, 32, 43, 58] 400
set_option maxRecDepth 100000 in
theorem b57_9 {d : Nat} {Q : j3_P} {σ : j3_S} {o1 : Nat} {o2 : Nat} {x4 : Int} :
  T57 d Q 9 [wO 4 92, wO 3 o1, wO 0 o2, wA 9008 0, wI x4, wM 2, wM 2] [] σ = j3_tc false d 248 [wA 4001 92, wI 0] σ (fun r σ1 => T57 d Q 13 [wO 4 92, wO 3 o1, wO 0 o2, wA 9008 0, wI x4, wM 2, wM 2] (r.toList ++ []) σ1) := j3_T.go d [0, 5, 9, 13, 15, 32, 43, 58] 400
set_option maxRecDepth 100000 in
theorem b57_13 {d : Nat} {Q : j3_P} {σ : j3_S} {o1 : Nat} {o2 : Nat} {x4 : Int} :
  T57 d Q 13 [wO 4 92, wO 3 o1, wO 0 o2, wA 9008 0, wI x4, wM 2, wM 2] [] σ = T57 d Q 15 [wO 4 92, wO 3 o1, wO 0 o2, wA 9008 0, wI x4, wI 0, wM 2] [] σ := j3_T.go d [0, 5, 9, 13, 15, 32, 43, 58] 400
set_option maxRecDepth 100000 in
theorem b57_15 {d : Nat} {Q : j3_P} {σ : j3_S} {o1 : Nat} {o2 : Nat} {x4 : Int} {x5 : Int} :
  T57 d Q 15 [wO 4 92, wO 3 o1, wO 0 o2, wA 9008 0, wI x4, wI x5, wM 2] [] σ = (if x5 < x4 then ((0 ≤ x5 ∧ x5 < 6) ∧ ((0 ≤ (σ.2.2 9008 0 x5) ∧ (σ.2.2 9008 0 x5) < 80) ∧ T57 d Q 15 [wO 4 92, wO 3 o1, wO 0 o2, wA 9008 0, wI x4, wI (wr (x5 + 1)), wM 2] [] (σ.1, σ.2.1, (j3_ast σ.2.2 4000 92 (σ.2.2 9008 0 x5) 1)))) else (((1 : Int) = 0 ∨ (1 : Int) = 1) ∧ T57 d Q 32 [wO 4 92, wO 3 o1, wO 0 o2, wA 9008 0, wI x4, wI 0, wM 2] [] ((j3_up σ.1 4004 92 1), σ.2.1, σ.2.2))) := j3_T.go d [0, 5, 9, 13, 15, 32, 43, 58] 400
set_option maxRecDepth 100000 in
theorem b57_32 {d : Nat} {Q : j3_P} {σ : j3_S} {o1 : Nat} {o2 : Nat} {x4 : Int} {x5 : Int} {w6 : j3_W} :
  T57 d Q 32 [wO 4 92, wO 3 o1, wO 0 o2, wA 9008 0, wI x4, wI x5, w6] [] σ = (if x5 < (1000000 : Int) then (if (σ.1 4004 92) = 0 then Q none σ else (((0 : Int) = 0 ∨ (0 : Int) = 1) ∧ T57 d Q 43 [wO 4 92, wO 3 o1, wO 0 o2, wA 9008 0, wI x4, wI x5, wI 0] [] ((j3_up σ.1 4004 92 0), σ.2.1, σ.2.2))) else Q none σ) := j3_T.go d [0, 5, 9, 13, 15, 32, 43, 58] 400
set_option maxRecDepth 100000 in
theorem b57_43 {d : Nat} {Q : j3_P} {σ : j3_S} {o1 : Nat} {o2 : Nat} {x4 : Int} {x5 : Int} {x6 : Int} :
  T57 d Q 43 [wO 4 92, wO 3 o1, wO 0 o2, wA 9008 0, wI x4, wI x5, wI x6] [] σ = (¬ (σ.2.1 2) = 0 ∧ (if x6 < (σ.1 3001 (σ.2.1 2)) then ((0 ≤ x6 ∧ x6 < 80) ∧ (if (σ.2.2 4000 92 x6) = (1 : Int) then j3_tc false d 59 [wO 4 92, wO 0 o2, wI x6] σ (fun r σ1 => T57 d Q 58 [wO 4 92, wO 3 o1, wO 0 o2, wA 9008 0, wI x4, wI x5, wI x6] (r.toList ++ []) σ1) else T57 d Q 58 [wO 4 92, wO 3 o1, wO 0 o2, wA 9008 0, wI x4, wI x5, wI x6] [] σ)) else T57 d Q 32 [wO 4 92, wO 3 o1, wO 0 o2, wA 9008 0, wI x4, wI (wr (x5 + 1)), wI x6] [] σ)) := j3_T.go d [0, 5, 9, 13, 15, 32, 43, 58] 400
set_option maxRecDepth 100000 in
theorem b57_58 {d : Nat} {Q : j3_P} {σ : j3_S} {o1 : Nat} {o2 : Nat} {x4 : Int} {x5 : Int} {x6 : Int} :
  T57 d Q 58 [wO 4 92, wO 3 o1, wO 0 o2, wA 9008 0, wI x4, wI x5, wI x6] [] σ = T57 d Q 43 [wO 4 92, wO 3 o1, wO 0 o2, wA 9008 0, wI x4, wI x5, wI (wr (x6 + 1))] [] σ := j3_T.go d [0, 5, 9, 13, 15, 32, 43, 58] 400
def T58 (d : Nat) (Q : j3_P) : j3_K := j3_T false (j3_tc false d) jc_X4_findMeans none Q
theorem e58 {d : Nat} {Q : j3_P} {σ : j3_S}  : j3_tc false (d + 1) 58 [wO 4 92] σ Q = T58 d Q 0 [wO 4 92, wM 2, wM 2] [] σ := j3_entry ⟨Nat.le_of_ble_eq_true rfl, rfl⟩
set_option maxRecDepth 100000 in
theorem b58_0 {d : Nat} {Q : j3_P} {σ : j3_S}  :
  T58 d Q 0 [wO 4 92, wM 2, wM 2] [] σ = T58 d Q 2 [wO 4 92, wI 0, wM 2] [] σ := j3_T.go d [0, 2, 9, 30, 36, 38] 400
set_option maxRecDepth 100000 in
theorem b58_2 {d : Nat} {Q : j3_P} {σ : j3_S} {x1 : Int} {w2 : j3_W} :
  T58 d Q 2 [wO 4 92, wI x1, w2] [] σ = (¬ (σ.2.1 2) = 0 ∧ (if x1 < (σ.1 3000 (σ.2.1 2)) then T58 d Q 9 [wO 4 92, wI x1, wI 0] [] σ else Q none σ)) := j3_T.go d [0, 2, 9, 30, 36, 38] 400
set_option maxRecDepth 100000 in
theorem b58_9 {d : Nat} {Q : j3_P} {σ : j3_S} {x1 : Int} {x2 : Int} :
  T58 d Q 9 [wO 4 92, wI x1, wI x2] [] σ = (¬ (σ.2.1 2) = 0 ∧ (if x2 < (σ.1 3001 (σ.2.1 2)) then (¬ (σ.2.1 2) = 0 ∧ (¬ (σ.2.1 2) = 0 ∧ ((0 ≤ x2 ∧ x2 < 80) ∧ j3_tc false d 48 [wO 3 (σ.2.1 2), wI (σ.2.2 3011 (σ.2.1 2) x2), wI x1] σ (fun r σ1 => T58 d Q 30 [wO 4 92, wI x1, wI x2] (r.toList ++ [wI (wr ((wr (x1 * 80)) + x2)), wA 4002 92]) σ1)))) else T58 d Q 2 [wO 4 92, wI (wr (x1 + 1)), wI x2] [] σ)) := j3_T.go d [0, 2, 9, 30, 36, 38] 400
set_option maxRecDepth 100000 in
theorem b58_30 {d : Nat} {Q : j3_P} {σ : j3_S} {x1 : Int} {x2 : Int} {xs0 : Int} {xs1 : Int} :
  T58 d Q 30 [wO 4 92, wI x1, wI x2] [wI xs0, wI xs1, wA 4002 92] σ = (if xs0 = 0 then T58 d Q 38 [wO 4 92, wI x1, wI x2] [wI (-1), wI xs1, wA 4002 92] σ else (¬ (σ.2.1 2) = 0 ∧ j3_tc false d 49 [wO 3 (σ.2.1 2), wI x1, wI x2] σ (fun r σ1 => T58 d Q 36 [wO 4 92, wI x1, wI x2] (r.toList ++ [wI xs1, wA 4002 92]) σ1))) := j3_T.go d [0, 2, 9, 30, 36, 38] 400
set_option maxRecDepth 100000 in
theorem b58_36 {d : Nat} {Q : j3_P} {σ : j3_S} {x1 : Int} {x2 : Int} {xs0 : Int} {xs1 : Int} :
  T58 d Q 36 [wO 4 92, wI x1, wI x2] [wI xs0, wI xs1, wA 4002 92] σ = T58 d Q 38 [wO 4 92, wI x1, wI x2] [wI xs0, wI xs1, wA 4002 92] σ := j3_T.go d [0, 2, 9, 30, 36, 38] 400
set_option maxRecDepth 100000 in
theorem b58_38 {d : Nat} {Q : j3_P} {σ : j3_S} {x1 : Int} {x2 : Int} {xs0 : Int} {xs1 : Int} :
  T58 d Q 38 [wO 4 92, wI x1, wI x2] [wI xs0, wI xs1, wA 4002 92] σ = ((0 ≤ xs1 ∧ xs1 < 800) ∧ T58 d Q 9 [wO 4 92, wI x1, wI (wr (x2 + 1))] [] (σ.1, σ.2.1, (j3_ast σ.2.2 4002 92 xs1 xs0))) := j3_T.go d [0, 2, 9, 30, 36, 38] 400
def T59 (d : Nat) (Q : j3_P) : j3_K := j3_T false (j3_tc false d) jc_X4_goThrough none Q
theorem e59 {d : Nat} {Q : j3_P} {σ : j3_S} {o1 : Nat} {x2 : Int} : j3_tc false (d + 1) 59 [wO 4 92, wO 0 o1, wI x2] σ Q = T59 d Q 0 [wO 4 92, wO 0 o1, wI x2, wM 2, wM 2, wM 2] [] σ := j3_entry ⟨Nat.le_of_ble_eq_true rfl, rfl⟩
set_option maxRecDepth 100000 in
theorem b59_0 {d : Nat} {Q : j3_P} {σ : j3_S} {o1 : Nat} {x2 : Int} :
  T59 d Q 0 [wO 4 92, wO 0 o1, wI x2, wM 2, wM 2, wM 2] [] σ = T59 d Q 6 [wO 4 92, wO 0 o1, wI x2, wI (wr (x2 * 120)), wI (wr (x2 * 120)), wM 2] [] σ := j3_T.go d [0, 6, 30, 35, 36, 50, 51, 63, 64] 400
set_option maxRecDepth 100000 in
theorem b59_6 {d : Nat} {Q : j3_P} {σ : j3_S} {o1 : Nat} {x2 : Int} {x3 : Int} {x4 : Int} {w5 : j3_W} :
  T59 d Q 6 [wO 4 92, wO 0 o1, wI x2, wI x3, wI x4, w5] [] σ = ((0 ≤ x2 ∧ x2 < 80) ∧ (if x4 < (wr (x3 + (σ.2.2 0 o1 x2))) then ((0 ≤ x4 ∧ x4 < 9600) ∧ (if (σ.2.2 4 o1 x4) < 0 then T59 d Q 64 [wO 4 92, wO 0 o1, wI x2, wI x3, wI x4, w5] [] σ else ((0 ≤ x4 ∧ x4 < 9600) ∧ ((0 ≤ x4 ∧ x4 < 9600) ∧ (if (σ.2.2 1 o1 x4) = 15 then T59 d Q 30 [wO 4 92, wO 0 o1, wI x2, wI x3, wI x4, wI (σ.2.2 2 o1 x4)] [] σ else (if (σ.2.2 1 o1 x4) = 20 then T59 d Q 36 [wO 4 92, wO 0 o1, wI x2, wI x3, wI x4, wI (σ.2.2 2 o1 x4)] [] σ else (if (σ.2.2 1 o1 x4) = 21 then T59 d Q 51 [wO 4 92, wO 0 o1, wI x2, wI x3, wI x4, wI (σ.2.2 2 o1 x4)] [] σ else T59 d Q 64 [wO 4 92, wO 0 o1, wI x2, wI x3, wI x4, wI (σ.2.2 2 o1 x4)] [] σ))))))) else Q none σ)) := j3_T.go d [0, 6, 30, 35, 36, 50, 51, 63, 64] 400
set_option maxRecDepth 100000 in
theorem b59_30 {d : Nat} {Q : j3_P} {σ : j3_S} {o1 : Nat} {x2 : Int} {x3 : Int} {x4 : Int} {x5 : Int} :
  T59 d Q 30 [wO 4 92, wO 0 o1, wI x2, wI x3, wI x4, wI x5] [] σ = j3_tc false d 60 [wO 4 92, wA 4001 92, wI x5] σ (fun r σ1 => T59 d Q 35 [wO 4 92, wO 0 o1, wI x2, wI x3, wI x4, wI x5] (r.toList ++ []) σ1) := j3_T.go d [0, 6, 30, 35, 36, 50, 51, 63, 64] 400
set_option maxRecDepth 100000 in
theorem b59_35 {d : Nat} {Q : j3_P} {σ : j3_S} {o1 : Nat} {x2 : Int} {x3 : Int} {x4 : Int} {x5 : Int} :
  T59 d Q 35 [wO 4 92, wO 0 o1, wI x2, wI x3, wI x4, wI x5] [] σ = T59 d Q 64 [wO 4 92, wO 0 o1, wI x2, wI x3, wI x4, wI x5] [] σ := j3_T.go d [0, 6, 30, 35, 36, 50, 51, 63, 64] 400
set_option maxRecDepth 100000 in
theorem b59_36 {d : Nat} {Q : j3_P} {σ : j3_S} {o1 : Nat} {x2 : Int} {x3 : Int} {x4 : Int} {x5 : Int} :
  T59 d Q 36 [wO 4 92, wO 0 o1, wI x2, wI x3, wI x4, wI x5] [] σ = (¬ (σ.2.1 2) = 0 ∧ ((0 ≤ x5 ∧ x5 < 10) ∧ ((0 ≤ x4 ∧ x4 < 9600) ∧ j3_tc false d 60 [wO 4 92, wA 4000 92, wI (wr ((σ.2.2 3007 (σ.2.1 2) x5) + (σ.2.2 3 o1 x4)))] σ (fun r σ1 => T59 d Q 50 [wO 4 92, wO 0 o1, wI x2, wI x3, wI x4, wI x5] (r.toList ++ []) σ1)))) := j3_T.go d [0, 6, 30, 35, 36, 50, 51, 63, 64] 400
set_option maxRecDepth 100000 in
theorem b59_50 {d : Nat} {Q : j3_P} {σ : j3_S} {o1 : Nat} {x2 : Int} {x3 : Int} {x4 : Int} {x5 : Int} :
  T59 d Q 50 [wO 4 92, wO 0 o1, wI x2, wI x3, wI x4, wI x5] [] σ = T59 d Q 64 [wO 4 92, wO 0 o1, wI x2, wI x3, wI x4, wI x5] [] σ := j3_T.go d [0, 6, 30, 35, 36, 50, 51, 63, 64] 400
set_option maxRecDepth 100000 in
theorem b59_51 {d : Nat} {Q : j3_P} {σ : j3_S} {o1 : Nat} {x2 : Int} {x3 : Int} {x4 : Int} {x5 : Int} :
  T59 d Q 51 [wO 4 92, wO 0 o1, wI x2, wI x3, wI x4, wI x5] [] σ = (¬ (σ.2.1 2) = 0 ∧ ((0 ≤ x5 ∧ x5 < 10) ∧ ((0 ≤ x4 ∧ x4 < 9600) ∧ j3_tc false d 61 [wO 4 92, wI (wr ((σ.2.2 3007 (σ.2.1 2) x5) + (σ.2.2 3 o1 x4)))] σ (fun r σ1 => T59 d Q 63 [wO 4 92, wO 0 o1, wI x2, wI x3, wI x4, wI x5] (r.toList ++ []) σ1)))) := j3_T.go d [0, 6, 30, 35, 36, 50, 51, 63, 64] 400
set_option maxRecDepth 100000 in
theorem b59_63 {d : Nat} {Q : j3_P} {σ : j3_S} {o1 : Nat} {x2 : Int} {x3 : Int} {x4 : Int} {x5 : Int} :
  T59 d Q 63 [wO 4 92, wO 0 o1, wI x2, wI x3, wI x4, wI x5] [] σ = T59 d Q 64 [wO 4 92, wO 0 o1, wI x2, wI x3, wI x4, wI x5] [] σ := j3_T.go d [0, 6, 30, 35, 36, 50, 51, 63, 64] 400
set_option maxRecDepth 100000 in
theorem b59_64 {d : Nat} {Q : j3_P} {σ : j3_S} {o1 : Nat} {x2 : Int} {x3 : Int} {x4 : Int} {w5 : j3_W} :
  T59 d Q 64 [wO 4 92, wO 0 o1, wI x2, wI x3, wI x4, w5] [] σ = T59 d Q 6 [wO 4 92, wO 0 o1, wI x2, wI x3, wI (wr (x4 + 1)), w5] [] σ := j3_T.go d [0, 6, 30, 35, 36, 50, 51, 63, 64] 400
