def T100 (d : Nat) (Q : j3_P) : j3_K := j3_T false (j3_tc false d) jc_X6_typeAnew (some .int) Q
theorem e100 {d : Nat} {Q : j3_P} {σ : j3_S} {x1 : Int} : j3_tc false (d + 1) 100 [wO 6 83, wI x1] σ Q = T100 d Q 0 [wO 6 83, wI x1] [] σ := j3_entry ⟨Nat.le_of_ble_eq_true rfl, rfl⟩
set_option maxRecDepth 100000 in
theorem b100_0 {d : Nat} {Q : j3_P} {σ : j3_S} {x1 : Int} :
  T100 d Q 0 [wO 6 83, wI x1] [] σ = (if 0 < x1 then ((0 ≤ (wr (x1 - 1)) ∧ (wr (x1 - 1)) < 10) ∧ Q (some (wI (wr ((σ.2.2 6000 83 (wr (x1 - 1))) + 1)))) σ) else Q (some (wI x1)) σ) := j3_T.go d [0] 400
def T101 (d : Nat) (Q : j3_P) : j3_K := j3_T false (j3_tc false d) jc_X6_writeFace none Q
theorem e101 {d : Nat} {Q : j3_P} {σ : j3_S} {x1 : Int} {x2 : Int} : j3_tc false (d + 1) 101 [wO 6 83, wI x1, wI x2] σ Q = T101 d Q 0 [wO 6 83, wI x1, wI x2, wM 2, wM 2] [] σ := j3_entry ⟨Nat.le_of_ble_eq_true rfl, rfl⟩
set_option maxRecDepth 100000 in
theorem b101_0 {d : Nat} {Q : j3_P} {σ : j3_S} {x1 : Int} {x2 : Int} :
  T101 d Q 0 [wO 6 83, wI x1, wI x2, wM 2, wM 2] [] σ = ((0 ≤ x1 ∧ x1 < 80) ∧ (¬ (σ.2.1 6) = 0 ∧ ((0 ≤ (σ.2.2 6002 83 x1) ∧ (σ.2.2 6002 83 x1) < 80) ∧ (¬ (σ.2.1 6) = 0 ∧ ((0 ≤ x1 ∧ x1 < 80) ∧ ((0 ≤ (σ.2.2 6002 83 x1) ∧ (σ.2.2 6002 83 x1) < 80) ∧ (¬ (σ.2.1 6) = 0 ∧ (¬ (σ.2.1 5) = 0 ∧ ((0 ≤ x1 ∧ x1 < 80) ∧ ((0 ≤ (σ.2.2 6002 83 x1) ∧ (σ.2.2 6002 83 x1) < 80) ∧ (¬ (σ.2.1 6) = 0 ∧ (¬ (σ.2.1 5) = 0 ∧ ((0 ≤ x1 ∧ x1 < 80) ∧ j3_tc false d 100 [wO 6 83, wI (wr ((σ.2.2 3014 (σ.2.1 5) x1) - 1))] (σ.1, σ.2.1, (j3_ast (j3_ast (j3_ast σ.2.2 3011 (σ.2.1 6) (σ.2.2 6002 83 x1) x2) 3012 (σ.2.1 6) (σ.2.2 6002 83 x1) (σ.2.2 6011 83 x1)) 3013 (σ.2.1 6) (σ.2.2 6002 83 x1) (σ.2.2 3013 (σ.2.1 5) x1))) (fun r σ1 => T101 d Q 43 [wO 6 83, wI x1, wI x2, wI (σ.2.2 6002 83 x1), wM 2] (r.toList ++ [wI (σ.2.2 6002 83 x1), wA 3014 (σ.2.1 6)]) σ1)))))))))))))) := j3_T.go d [0, 43, 58, 84, 112] 400
set_option maxRecDepth 100000 in
theorem b101_43 {d : Nat} {Q : j3_P} {σ : j3_S} {x1 : Int} {x2 : Int} {x3 : Int} {xs0 : Int} {xs1 : Int} {os2 : Nat} :
  T101 d Q 43 [wO 6 83, wI x1, wI x2, wI x3, wM 2] [wI xs0, wI xs1, wA 3014 os2] σ = ((0 ≤ xs1 ∧ xs1 < 80) ∧ (¬ (σ.2.1 6) = 0 ∧ (¬ (σ.2.1 5) = 0 ∧ ((0 ≤ x1 ∧ x1 < 80) ∧ ((0 ≤ x3 ∧ x3 < 80) ∧ T101 d Q 58 [wO 6 83, wI x1, wI x2, wI x3, wI 0] [] (σ.1, σ.2.1, (j3_ast (j3_ast σ.2.2 3014 os2 xs1 (wr (xs0 + 1))) 3015 (σ.2.1 6) x3 (σ.2.2 3015 (σ.2.1 5) x1)))))))) := j3_T.go d [0, 43, 58, 84, 112] 400
set_option maxRecDepth 100000 in
theorem b101_58 {d : Nat} {Q : j3_P} {σ : j3_S} {x1 : Int} {x2 : Int} {x3 : Int} {x4 : Int} :
  T101 d Q 58 [wO 6 83, wI x1, wI x2, wI x3, wI x4] [] σ = (¬ (σ.2.1 5) = 0 ∧ ((0 ≤ x1 ∧ x1 < 80) ∧ (if x4 < (σ.2.2 3015 (σ.2.1 5) x1) then (¬ (σ.2.1 6) = 0 ∧ (¬ (σ.2.1 5) = 0 ∧ ((0 ≤ (wr ((wr (x1 * 3)) + x4)) ∧ (wr ((wr (x1 * 3)) + x4)) < 240) ∧ j3_tc false d 100 [wO 6 83, wI (σ.2.2 3016 (σ.2.1 5) (wr ((wr (x1 * 3)) + x4)))] σ (fun r σ1 => T101 d Q 84 [wO 6 83, wI x1, wI x2, wI x3, wI x4] (r.toList ++ [wI (wr ((wr (x3 * 3)) + x4)), wA 3016 (σ.2.1 6)]) σ1)))) else (¬ (σ.2.1 6) = 0 ∧ ((0 ≤ x1 ∧ x1 < 80) ∧ (if (σ.2.2 4000 92 x1) = (1 : Int) then ((0 ≤ x1 ∧ x1 < 80) ∧ ((0 ≤ x3 ∧ x3 < 80) ∧ Q none (σ.1, σ.2.1, (j3_ast σ.2.2 3017 (σ.2.1 6) x3 (σ.2.2 6010 83 x1))))) else (¬ (σ.2.1 5) = 0 ∧ ((0 ≤ x1 ∧ x1 < 80) ∧ (¬ (σ.2.1 5) = 0 ∧ j3_tc false d 51 [wO 3 (σ.2.1 5), wI x1] σ (fun r σ1 => T101 d Q 112 [wO 6 83, wI x1, wI x2, wI x3, wI x4] (r.toList ++ [wI (σ.2.2 3015 (σ.2.1 5) x1), wI x3, wA 3017 (σ.2.1 6)]) σ1)))))))))) := j3_T.go d [0, 43, 58, 84, 112] 400
set_option maxRecDepth 100000 in
theorem b101_84 {d : Nat} {Q : j3_P} {σ : j3_S} {x1 : Int} {x2 : Int} {x3 : Int} {x4 : Int} {xs0 : Int} {xs1 : Int} {os2 : Nat} :
  T101 d Q 84 [wO 6 83, wI x1, wI x2, wI x3, wI x4] [wI xs0, wI xs1, wA 3016 os2] σ = ((0 ≤ xs1 ∧ xs1 < 240) ∧ T101 d Q 58 [wO 6 83, wI x1, wI x2, wI x3, wI (wr (x4 + 1))] [] (σ.1, σ.2.1, (j3_ast σ.2.2 3016 os2 xs1 xs0))) := j3_T.go d [0, 43, 58, 84, 112] 400
set_option maxRecDepth 100000 in
theorem b101_112 {d : Nat} {Q : j3_P} {σ : j3_S} {x1 : Int} {x2 : Int} {x3 : Int} {x4 : Int} {xs0 : Int} {xs1 : Int} {xs2 : Int} {os3 : Nat} :
  T101 d Q 112 [wO 6 83, wI x1, wI x2, wI x3, wI x4] [wI xs0, wI xs1, wI xs2, wA 3017 os3] σ = ((0 ≤ xs2 ∧ xs2 < 80) ∧ Q none (σ.1, σ.2.1, (j3_ast σ.2.2 3017 os3 xs2 (wr (xs1 + xs0))))) := j3_T.go d [0, 43, 58, 84, 112] 400
def T102 (d : Nat) (Q : j3_P) : j3_K := j3_T false (j3_tc false d) jc_X6_moveCodes none Q
theorem e102 {d : Nat} {Q : j3_P} {σ : j3_S}  : j3_tc false (d + 1) 102 [wO 6 83] σ Q = T102 d Q 0 [wO 6 83, wM 2] [] σ := j3_entry ⟨Nat.le_of_ble_eq_true rfl, rfl⟩
set_option maxRecDepth 100000 in
theorem b102_0 {d : Nat} {Q : j3_P} {σ : j3_S}  :
  T102 d Q 0 [wO 6 83, wM 2] [] σ = T102 d Q 2 [wO 6 83, wI 0] [] σ := j3_T.go d [0, 2, 28, 35] 400
set_option maxRecDepth 100000 in
theorem b102_2 {d : Nat} {Q : j3_P} {σ : j3_S} {x1 : Int} :
  T102 d Q 2 [wO 6 83, wI x1] [] σ = (¬ (σ.2.1 5) = 0 ∧ (if x1 < (σ.1 3001 (σ.2.1 5)) then ((0 ≤ x1 ∧ x1 < 80) ∧ (if (σ.2.2 6002 83 x1) = (-1 : Int) then T102 d Q 35 [wO 6 83, wI x1] [] σ else ((0 ≤ x1 ∧ x1 < 80) ∧ (if (σ.2.2 4000 92 x1) = (1 : Int) then ((0 ≤ x1 ∧ x1 < 80) ∧ j3_tc false d 104 [wO 6 83, wI x1, wI (σ.2.2 6002 83 x1)] σ (fun r σ1 => T102 d Q 28 [wO 6 83, wI x1] (r.toList ++ []) σ1)) else ((0 ≤ x1 ∧ x1 < 80) ∧ j3_tc false d 103 [wO 6 83, wI (σ.2.2 6002 83 x1)] σ (fun r σ1 => T102 d Q 35 [wO 6 83, wI x1] (r.toList ++ []) σ1)))))) else Q none σ)) := j3_T.go d [0, 2, 28, 35] 400
set_option maxRecDepth 100000 in
theorem b102_28 {d : Nat} {Q : j3_P} {σ : j3_S} {x1 : Int} :
  T102 d Q 28 [wO 6 83, wI x1] [] σ = T102 d Q 35 [wO 6 83, wI x1] [] σ := j3_T.go d [0, 2, 28, 35] 400
set_option maxRecDepth 100000 in
theorem b102_35 {d : Nat} {Q : j3_P} {σ : j3_S} {x1 : Int} :
  T102 d Q 35 [wO 6 83, wI x1] [] σ = T102 d Q 2 [wO 6 83, wI (wr (x1 + 1))] [] σ := j3_T.go d [0, 2, 28, 35] 400
def T103 (d : Nat) (Q : j3_P) : j3_K := j3_T false (j3_tc false d) jc_X6_makeShell none Q
theorem e103 {d : Nat} {Q : j3_P} {σ : j3_S} {x1 : Int} : j3_tc false (d + 1) 103 [wO 6 83, wI x1] σ Q = T103 d Q 0 [wO 6 83, wI x1, wM 2] [] σ := j3_entry ⟨Nat.le_of_ble_eq_true rfl, rfl⟩
set_option maxRecDepth 100000 in
theorem b103_0 {d : Nat} {Q : j3_P} {σ : j3_S} {x1 : Int} :
  T103 d Q 0 [wO 6 83, wI x1, wM 2] [] σ = (¬ (σ.2.1 6) = 0 ∧ ((0 ≤ x1 ∧ x1 < 80) ∧ (¬ (σ.2.1 6) = 0 ∧ ((0 ≤ (wr (x1 * 120)) ∧ (wr (x1 * 120)) < 9600) ∧ (¬ (σ.2.1 6) = 0 ∧ ((0 ≤ (wr (x1 * 120)) ∧ (wr (x1 * 120)) < 9600) ∧ (¬ (σ.2.1 6) = 0 ∧ ((0 ≤ (wr (x1 * 120)) ∧ (wr (x1 * 120)) < 9600) ∧ ((0 ≤ (wr (x1 * 120)) ∧ (wr (x1 * 120)) < 9600) ∧ ((0 ≤ (wr (x1 * 120)) ∧ (wr (x1 * 120)) < 9600) ∧ ((0 ≤ (3 : Int) ∧ (3 : Int) < 23) ∧ ((0 ≤ (3 : Int) ∧ (3 : Int) < 23) ∧ Q none (σ.1, σ.2.1, (j3_ast (j3_ast (j3_ast (j3_ast (j3_ast (j3_ast (j3_ast σ.2.2 0 ((σ.2.1 6) + 17) x1 1) 1 ((σ.2.1 6) + 17) (wr (x1 * 120)) 26) 2 ((σ.2.1 6) + 17) (wr (x1 * 120)) 0) 3 ((σ.2.1 6) + 17) (wr (x1 * 120)) 0) 6003 83 (wr (x1 * 120)) (-1)) 6004 83 (wr (x1 * 120)) (-1)) 6005 83 3 (wr ((σ.2.2 6005 83 3) + 1)))))))))))))))) := j3_T.go d [0] 400
def T104 (d : Nat) (Q : j3_P) : j3_K := j3_T false (j3_tc false d) jc_X6_moveCode none Q
theorem e104 {d : Nat} {Q : j3_P} {σ : j3_S} {x1 : Int} {x2 : Int} : j3_tc false (d + 1) 104 [wO 6 83, wI x1, wI x2] σ Q = T104 d Q 0 [wO 6 83, wI x1, wI x2, wM 2, wM 2, wM 2, wM 2, wM 2, wM 2, wM 2] [] σ := j3_entry ⟨Nat.le_of_ble_eq_true rfl, rfl⟩
set_option maxRecDepth 100000 in
theorem b104_0 {d : Nat} {Q : j3_P} {σ : j3_S} {x1 : Int} {x2 : Int} :
  T104 d Q 0 [wO 6 83, wI x1, wI x2, wM 2, wM 2, wM 2, wM 2, wM 2, wM 2, wM 2] [] σ = (¬ (σ.2.1 6) = 0 ∧ ((0 ≤ x1 ∧ x1 < 80) ∧ T104 d Q 9 [wO 6 83, wI x1, wI x2, wI (σ.2.2 0 ((σ.2.1 6) + 17) x1), wI 0, wM 2, wM 2, wM 2, wM 2, wM 2] [] σ)) := j3_T.go d [0, 9, 85, 108] 400
set_option maxRecDepth 100000 in
theorem b104_9 {d : Nat} {Q : j3_P} {σ : j3_S} {x1 : Int} {x2 : Int} {x3 : Int} {x4 : Int} {w5 : j3_W} {w6 : j3_W} {w7 : j3_W} {w8 : j3_W} {w9 : j3_W} :
  T104 d Q 9 [wO 6 83, wI x1, wI x2, wI x3, wI x4, w5, w6, w7, w8, w9] [] σ = (if x4 < x3 then (¬ (σ.2.1 6) = 0 ∧ ((0 ≤ (wr ((wr (x1 * 120)) + x4)) ∧ (wr ((wr (x1 * 120)) + x4)) < 9600) ∧ (¬ (σ.2.1 6) = 0 ∧ ((0 ≤ (wr ((wr (x1 * 120)) + x4)) ∧ (wr ((wr (x1 * 120)) + x4)) < 9600) ∧ (¬ (σ.2.1 6) = 0 ∧ ((0 ≤ (wr ((wr (x1 * 120)) + x4)) ∧ (wr ((wr (x1 * 120)) + x4)) < 9600) ∧ ((0 ≤ (σ.2.2 1 ((σ.2.1 6) + 17) (wr ((wr (x1 * 120)) + x4))) ∧ (σ.2.2 1 ((σ.2.1 6) + 17) (wr ((wr (x1 * 120)) + x4))) < 27) ∧ (if (i_tls (σ.2.2 1 ((σ.2.1 6) + 17) (wr ((wr (x1 * 120)) + x4)))) = (5 : Int) then ((0 ≤ (wr ((wr ((σ.2.2 2 ((σ.2.1 6) + 17) (wr ((wr (x1 * 120)) + x4))) * 6)) + (σ.2.2 3 ((σ.2.1 6) + 17) (wr ((wr (x1 * 120)) + x4))))) ∧ (wr ((wr ((σ.2.2 2 ((σ.2.1 6) + 17) (wr ((wr (x1 * 120)) + x4))) * 6)) + (σ.2.2 3 ((σ.2.1 6) + 17) (wr ((wr (x1 * 120)) + x4))))) < 60) ∧ T104 d Q 85 [wO 6 83, wI x1, wI x2, wI x3, wI x4, wI (wr ((wr (x1 * 120)) + x4)), wI (wr ((wr (x2 * 120)) + x4)), wI (σ.2.2 1 ((σ.2.1 6) + 17) (wr ((wr (x1 * 120)) + x4))), wI (σ.2.2 2 ((σ.2.1 6) + 17) (wr ((wr (x1 * 120)) + x4))), wI (σ.2.2 6001 83 (wr ((wr ((σ.2.2 2 ((σ.2.1 6) + 17) (wr ((wr (x1 * 120)) + x4))) * 6)) + (σ.2.2 3 ((σ.2.1 6) + 17) (wr ((wr (x1 * 120)) + x4))))))] [] σ) else ((0 ≤ (σ.2.2 1 ((σ.2.1 6) + 17) (wr ((wr (x1 * 120)) + x4))) ∧ (σ.2.2 1 ((σ.2.1 6) + 17) (wr ((wr (x1 * 120)) + x4))) < 27) ∧ (if (i_tls (σ.2.2 1 ((σ.2.1 6) + 17) (wr ((wr (x1 * 120)) + x4)))) = (6 : Int) then (¬ (σ.2.1 5) = 0 ∧ ((0 ≤ (σ.2.2 2 ((σ.2.1 6) + 17) (wr ((wr (x1 * 120)) + x4))) ∧ (σ.2.2 2 ((σ.2.1 6) + 17) (wr ((wr (x1 * 120)) + x4))) < 10) ∧ ((0 ≤ (wr ((σ.2.2 3007 (σ.2.1 5) (σ.2.2 2 ((σ.2.1 6) + 17) (wr ((wr (x1 * 120)) + x4)))) + (σ.2.2 3 ((σ.2.1 6) + 17) (wr ((wr (x1 * 120)) + x4))))) ∧ (wr ((σ.2.2 3007 (σ.2.1 5) (σ.2.2 2 ((σ.2.1 6) + 17) (wr ((wr (x1 * 120)) + x4)))) + (σ.2.2 3 ((σ.2.1 6) + 17) (wr ((wr (x1 * 120)) + x4))))) < 80) ∧ (¬ (σ.2.1 6) = 0 ∧ ((0 ≤ (σ.2.2 2 ((σ.2.1 6) + 17) (wr ((wr (x1 * 120)) + x4))) ∧ (σ.2.2 2 ((σ.2.1 6) + 17) (wr ((wr (x1 * 120)) + x4))) < 10) ∧ ((0 ≤ (σ.2.2 6000 83 (σ.2.2 2 ((σ.2.1 6) + 17) (wr ((wr (x1 * 120)) + x4)))) ∧ (σ.2.2 6000 83 (σ.2.2 2 ((σ.2.1 6) + 17) (wr ((wr (x1 * 120)) + x4)))) < 10) ∧ T104 d Q 85 [wO 6 83, wI x1, wI x2, wI x3, wI x4, wI (wr ((wr (x1 * 120)) + x4)), wI (wr ((wr (x2 * 120)) + x4)), wI (σ.2.2 1 ((σ.2.1 6) + 17) (wr ((wr (x1 * 120)) + x4))), wI (σ.2.2 2 ((σ.2.1 6) + 17) (wr ((wr (x1 * 120)) + x4))), wI (wr ((σ.2.2 6002 83 (wr ((σ.2.2 3007 (σ.2.1 5) (σ.2.2 2 ((σ.2.1 6) + 17) (wr ((wr (x1 * 120)) + x4)))) + (σ.2.2 3 ((σ.2.1 6) + 17) (wr ((wr (x1 * 120)) + x4)))))) - (σ.2.2 3007 (σ.2.1 6) (σ.2.2 6000 83 (σ.2.2 2 ((σ.2.1 6) + 17) (wr ((wr (x1 * 120)) + x4)))))))] [] σ)))))) else T104 d Q 85 [wO 6 83, wI x1, wI x2, wI x3, wI x4, wI (wr ((wr (x1 * 120)) + x4)), wI (wr ((wr (x2 * 120)) + x4)), wI (σ.2.2 1 ((σ.2.1 6) + 17) (wr ((wr (x1 * 120)) + x4))), wI (σ.2.2 2 ((σ.2.1 6) + 17) (wr ((wr (x1 * 120)) + x4))), wI (σ.2.2 3 ((σ.2.1 6) + 17) (wr ((wr (x1 * 120)) + x4)))] [] σ)))))))))) else (¬ (σ.2.1 6) = 0 ∧ ((0 ≤ x2 ∧ x2 < 80) ∧ Q none (σ.1, σ.2.1, (j3_ast σ.2.2 0 ((σ.2.1 6) + 17) x2 x3))))) := j3_T.go d [0, 9, 85, 108] 400
set_option maxRecDepth 100000 in
theorem b104_85 {d : Nat} {Q : j3_P} {σ : j3_S} {x1 : Int} {x2 : Int} {x3 : Int} {x4 : Int} {x5 : Int} {x6 : Int} {x7 : Int} {x8 : Int} {x9 : Int} :
  T104 d Q 85 [wO 6 83, wI x1, wI x2, wI x3, wI x4, wI x5, wI x6, wI x7, wI x8, wI x9] [] σ = (¬ (σ.2.1 6) = 0 ∧ ((0 ≤ x6 ∧ x6 < 9600) ∧ (¬ (σ.2.1 6) = 0 ∧ ((0 ≤ x7 ∧ x7 < 27) ∧ (if (i_tls x7) < (4 : Int) then T104 d Q 108 [wO 6 83, wI x1, wI x2, wI x3, wI x4, wI x5, wI x6, wI x7, wI x8, wI x9] [wI x8, wI x6, wA 2 ((σ.2.1 6) + 17)] (σ.1, σ.2.1, (j3_ast σ.2.2 1 ((σ.2.1 6) + 17) x6 x7)) else ((0 ≤ x8 ∧ x8 < 10) ∧ T104 d Q 108 [wO 6 83, wI x1, wI x2, wI x3, wI x4, wI x5, wI x6, wI x7, wI x8, wI x9] [wI (σ.2.2 6000 83 x8), wI x6, wA 2 ((σ.2.1 6) + 17)] (σ.1, σ.2.1, (j3_ast σ.2.2 1 ((σ.2.1 6) + 17) x6 x7)))))))) := j3_T.go d [0, 9, 85, 108] 400
set_option maxRecDepth 100000 in
theorem b104_108 {d : Nat} {Q : j3_P} {σ : j3_S} {x1 : Int} {x2 : Int} {x3 : Int} {x4 : Int} {x5 : Int} {x6 : Int} {x7 : Int} {x8 : Int} {x9 : Int} {xs0 : Int} {xs1 : Int} {os2 : Nat} :
  T104 d Q 108 [wO 6 83, wI x1, wI x2, wI x3, wI x4, wI x5, wI x6, wI x7, wI x8, wI x9] [wI xs0, wI xs1, wA 2 os2] σ = ((0 ≤ xs1 ∧ xs1 < 9600) ∧ (¬ (σ.2.1 6) = 0 ∧ ((0 ≤ x6 ∧ x6 < 9600) ∧ ((0 ≤ x5 ∧ x5 < 9600) ∧ ((0 ≤ x6 ∧ x6 < 9600) ∧ ((0 ≤ x5 ∧ x5 < 9600) ∧ ((0 ≤ x6 ∧ x6 < 9600) ∧ T104 d Q 9 [wO 6 83, wI x1, wI x2, wI x3, wI (wr (x4 + 1)), wI x5, wI x6, wI x7, wI x8, wI x9] [] (σ.1, σ.2.1, (j3_ast (j3_ast (j3_ast (j3_ast σ.2.2 2 os2 xs1 xs0) 3 ((σ.2.1 6) + 17) x6 x9) 6003 83 x6 (σ.2.2 6003 83 x5)) 6004 83 x6 (σ.2.2 6004 83 x5)))))))))) := j3_T.go d [0, 9, 85, 108] 400
def T106 (d : Nat) (Q : j3_P) : j3_K := j3_T false (j3_tc false d) jc_X7_begin none Q
theorem e106 {d : Nat} {Q : j3_P} {σ : j3_S} {x1 : Int} : j3_tc false (d + 1) 106 [wO 7 96, wI x1] σ Q = T106 d Q 0 [wO 7 96, wI x1] [] σ := j3_entry ⟨Nat.le_of_ble_eq_true rfl, rfl⟩
set_option maxRecDepth 100000 in
theorem b106_0 {d : Nat} {Q : j3_P} {σ : j3_S} {x1 : Int} :
  T106 d Q 0 [wO 7 96, wI x1] [] σ = Q none ((j3_up (j3_up σ.1 7000 96 0) 7001 96 x1), σ.2.1, σ.2.2) := j3_T.go d [0] 400
def T107 (d : Nat) (Q : j3_P) : j3_K := j3_T false (j3_tc false d) jc_X7_add none Q
theorem e107 {d : Nat} {Q : j3_P} {σ : j3_S} {x1 : Int} {x2 : Int} {x3 : Int} {x4 : Int} {x5 : Int} : j3_tc false (d + 1) 107 [wO 7 96, wI x1, wI x2, wI x3, wI x4, wI x5] σ Q = T107 d Q 0 [wO 7 96, wI x1, wI x2, wI x3, wI x4, wI x5] [] σ := j3_entry ⟨Nat.le_of_ble_eq_true rfl, rfl⟩
set_option maxRecDepth 100000 in
theorem b107_0 {d : Nat} {Q : j3_P} {σ : j3_S} {x1 : Int} {x2 : Int} {x3 : Int} {x4 : Int} {x5 : Int} :
  T107 d Q 0 [wO 7 96, wI x1, wI x2, wI x3, wI x4, wI x5] [] σ = (if (σ.1 7000 96) < (120 : Int) then ((0 ≤ (σ.1 7000 96) ∧ (σ.1 7000 96) < 120) ∧ ((0 ≤ (σ.1 7000 96) ∧ (σ.1 7000 96) < 120) ∧ ((0 ≤ (σ.1 7000 96) ∧ (σ.1 7000 96) < 120) ∧ ((0 ≤ (σ.1 7000 96) ∧ (σ.1 7000 96) < 120) ∧ ((0 ≤ (σ.1 7000 96) ∧ (σ.1 7000 96) < 120) ∧ Q none ((j3_up σ.1 7000 96 (wr ((σ.1 7000 96) + 1))), σ.2.1, (j3_ast (j3_ast (j3_ast (j3_ast (j3_ast σ.2.2 7002 96 (σ.1 7000 96) x1) 7003 96 (σ.1 7000 96) x2) 7004 96 (σ.1 7000 96) x3) 7005 96 (σ.1 7000 96) x4) 7006 96 (σ.1 7000 96) x5))))))) else Q none σ) := j3_T.go d [0] 400
def T108 (d : Nat) (Q : j3_P) : j3_K := j3_T false (j3_tc false d) jc_X7_aimAnew none Q
theorem e108 {d : Nat} {Q : j3_P} {σ : j3_S}  : j3_tc false (d + 1) 108 [wO 7 96, wA 6009 83] σ Q = T108 d Q 0 [wO 7 96, wA 6009 83, wM 2] [] σ := j3_entry ⟨Nat.le_of_ble_eq_true rfl, rfl⟩
set_option maxRecDepth 100000 in
theorem b108_0 {d : Nat} {Q : j3_P} {σ : j3_S}  :
  T108 d Q 0 [wO 7 96, wA 6009 83, wM 2] [] σ = T108 d Q 2 [wO 7 96, wA 6009 83, wI 0] [] σ := j3_T.go d [0, 2, 11, 22] 400
set_option maxRecDepth 100000 in
theorem b108_2 {d : Nat} {Q : j3_P} {σ : j3_S} {x2 : Int} :
  T108 d Q 2 [wO 7 96, wA 6009 83, wI x2] [] σ = (if x2 < (σ.1 7000 96) then ((0 ≤ x2 ∧ x2 < 120) ∧ j3_tc false d 151 [wI (σ.2.2 7002 96 x2)] σ (fun r σ1 => T108 d Q 11 [wO 7 96, wA 6009 83, wI x2] (r.toList ++ []) σ1)) else Q none σ) := j3_T.go d [0, 2, 11, 22] 400
set_option maxRecDepth 100000 in
theorem b108_11 {d : Nat} {Q : j3_P} {σ : j3_S} {x2 : Int} {xs0 : Int} :
  T108 d Q 11 [wO 7 96, wA 6009 83, wI x2] [wI xs0] σ = (if xs0 = 0 then T108 d Q 22 [wO 7 96, wA 6009 83, wI x2] [] σ else ((0 ≤ x2 ∧ x2 < 120) ∧ ((0 ≤ (σ.2.2 7003 96 x2) ∧ (σ.2.2 7003 96 x2) < 120) ∧ ((0 ≤ x2 ∧ x2 < 120) ∧ T108 d Q 22 [wO 7 96, wA 6009 83, wI x2] [] (σ.1, σ.2.1, (j3_ast σ.2.2 7003 96 x2 (σ.2.2 6009 83 (σ.2.2 7003 96 x2)))))))) := j3_T.go d [0, 2, 11, 22] 400
set_option maxRecDepth 100000 in
theorem b108_22 {d : Nat} {Q : j3_P} {σ : j3_S} {x2 : Int} :
  T108 d Q 22 [wO 7 96, wA 6009 83, wI x2] [] σ = T108 d Q 2 [wO 7 96, wA 6009 83, wI (wr (x2 + 1))] [] σ := j3_T.go d [0, 2, 11, 22] 400
def T109 (d : Nat) (Q : j3_P) : j3_K := j3_T false (j3_tc false d) jc_X7_fold none Q
theorem e109 {d : Nat} {Q : j3_P} {σ : j3_S}  : j3_tc false (d + 1) 109 [wO 7 96, wA 6005 83] σ Q = T109 d Q 0 [wO 7 96, wA 6005 83, wM 2, wM 2, wM 2] [] σ := j3_entry ⟨Nat.le_of_ble_eq_true rfl, rfl⟩
set_option maxRecDepth 100000 in
theorem b109_0 {d : Nat} {Q : j3_P} {σ : j3_S}  :
  T109 d Q 0 [wO 7 96, wA 6005 83, wM 2, wM 2, wM 2] [] σ = T109 d Q 4 [wO 7 96, wA 6005 83, wI 0, wI 0, wM 2] [] σ := j3_T.go d [0, 4, 12, 14, 21, 42] 400
set_option maxRecDepth 100000 in
theorem b109_4 {d : Nat} {Q : j3_P} {σ : j3_S} {x2 : Int} {x3 : Int} {w4 : j3_W} :
  T109 d Q 4 [wO 7 96, wA 6005 83, wI x2, wI x3, w4] [] σ = (if x3 < (1000000 : Int) then (if x2 = (-1 : Int) then Q none σ else j3_tc false d 111 [wO 7 96] σ (fun r σ1 => T109 d Q 12 [wO 7 96, wA 6005 83, wI x2, wI x3, w4] (r.toList ++ []) σ1)) else Q none σ) := j3_T.go d [0, 4, 12, 14, 21, 42] 400
set_option maxRecDepth 100000 in
theorem b109_12 {d : Nat} {Q : j3_P} {σ : j3_S} {x2 : Int} {x3 : Int} {w4 : j3_W} :
  T109 d Q 12 [wO 7 96, wA 6005 83, wI x2, wI x3, w4] [] σ = j3_tc false d 110 [wO 7 96] σ (fun r σ1 => T109 d Q 14 [wO 7 96, wA 6005 83, wI x2, wI x3, w4] (r.toList ++ []) σ1) := j3_T.go d [0, 4, 12, 14, 21, 42] 400
set_option maxRecDepth 100000 in
theorem b109_14 {d : Nat} {Q : j3_P} {σ : j3_S} {x2 : Int} {x3 : Int} {w4 : j3_W} {xs0 : Int} :
  T109 d Q 14 [wO 7 96, wA 6005 83, wI x2, wI x3, w4] [wI xs0] σ = (if xs0 = (-1 : Int) then T109 d Q 42 [wO 7 96, wA 6005 83, wI xs0, wI x3, w4] [] σ else j3_tc false d 114 [wO 7 96, wI xs0] σ (fun r σ1 => T109 d Q 21 [wO 7 96, wA 6005 83, wI xs0, wI x3, w4] (r.toList ++ []) σ1)) := j3_T.go d [0, 4, 12, 14, 21, 42] 400
set_option maxRecDepth 100000 in
theorem b109_21 {d : Nat} {Q : j3_P} {σ : j3_S} {x2 : Int} {x3 : Int} {w4 : j3_W} {xs0 : Int} :
  T109 d Q 21 [wO 7 96, wA 6005 83, wI x2, wI x3, w4] [wI xs0] σ = ((0 ≤ (2 : Int) ∧ (2 : Int) < 23) ∧ ((0 ≤ (2 : Int) ∧ (2 : Int) < 23) ∧ ((0 ≤ (wr (10 + xs0)) ∧ (wr (10 + xs0)) < 23) ∧ ((0 ≤ (wr (10 + xs0)) ∧ (wr (10 + xs0)) < 23) ∧ j3_tc false d 117 [wO 7 96, wI xs0, wI x2] (σ.1, σ.2.1, (j3_ast (j3_ast σ.2.2 6005 83 2 (wr ((σ.2.2 6005 83 2) + 1))) 6005 83 (wr (10 + xs0)) (wr ((i_up (σ.2.2 6005 83) 2 (wr ((σ.2.2 6005 83 2) + 1)) (wr (10 + xs0))) + 1)))) (fun r σ1 => T109 d Q 42 [wO 7 96, wA 6005 83, wI x2, wI x3, wI xs0] (r.toList ++ []) σ1))))) := j3_T.go d [0, 4, 12, 14, 21, 42] 400
set_option maxRecDepth 100000 in
theorem b109_42 {d : Nat} {Q : j3_P} {σ : j3_S} {x2 : Int} {x3 : Int} {w4 : j3_W} :
  T109 d Q 42 [wO 7 96, wA 6005 83, wI x2, wI x3, w4] [] σ = T109 d Q 4 [wO 7 96, wA 6005 83, wI x2, wI (wr (x3 + 1)), w4] [] σ := j3_T.go d [0, 4, 12, 14, 21, 42] 400
def T110 (d : Nat) (Q : j3_P) : j3_K := j3_T false (j3_tc false d) jc_X7_firstFit (some .int) Q
theorem e110 {d : Nat} {Q : j3_P} {σ : j3_S}  : j3_tc false (d + 1) 110 [wO 7 96] σ Q = T110 d Q 0 [wO 7 96, wM 2] [] σ := j3_entry ⟨Nat.le_of_ble_eq_true rfl, rfl⟩
set_option maxRecDepth 100000 in
theorem b110_0 {d : Nat} {Q : j3_P} {σ : j3_S}  :
  T110 d Q 0 [wO 7 96, wM 2] [] σ = T110 d Q 2 [wO 7 96, wI 0] [] σ := j3_T.go d [0, 2, 9] 400
set_option maxRecDepth 100000 in
theorem b110_2 {d : Nat} {Q : j3_P} {σ : j3_S} {x1 : Int} :
  T110 d Q 2 [wO 7 96, wI x1] [] σ = (if x1 < (σ.1 7000 96) then j3_tc false d 114 [wO 7 96, wI x1] σ (fun r σ1 => T110 d Q 9 [wO 7 96, wI x1] (r.toList ++ []) σ1) else Q (some (wI (-1))) σ) := j3_T.go d [0, 2, 9] 400
set_option maxRecDepth 100000 in
theorem b110_9 {d : Nat} {Q : j3_P} {σ : j3_S} {x1 : Int} {xs0 : Int} :
  T110 d Q 9 [wO 7 96, wI x1] [wI xs0] σ = (if xs0 = 0 then T110 d Q 2 [wO 7 96, wI (wr (x1 + 1))] [] σ else Q (some (wI x1)) σ) := j3_T.go d [0, 2, 9] 400
def T111 (d : Nat) (Q : j3_P) : j3_K := j3_T false (j3_tc false d) jc_X7_survey none Q
theorem e111 {d : Nat} {Q : j3_P} {σ : j3_S}  : j3_tc false (d + 1) 111 [wO 7 96] σ Q = T111 d Q 0 [wO 7 96, wM 2, wM 2] [] σ := j3_entry ⟨Nat.le_of_ble_eq_true rfl, rfl⟩
set_option maxRecDepth 100000 in
theorem b111_0 {d : Nat} {Q : j3_P} {σ : j3_S}  :
  T111 d Q 0 [wO 7 96, wM 2, wM 2] [] σ = j3_tc false d 248 [wA 7007 96, wI 0] σ (fun r σ1 => T111 d Q 4 [wO 7 96, wM 2, wM 2] (r.toList ++ []) σ1) := j3_T.go d [0, 4, 8, 12, 14, 23, 30, 42, 59, 67, 69, 86, 92, 97, 104] 400
set_option maxRecDepth 100000 in
theorem b111_4 {d : Nat} {Q : j3_P} {σ : j3_S}  :
  T111 d Q 4 [wO 7 96, wM 2, wM 2] [] σ = j3_tc false d 248 [wA 7010 96, wI 0] σ (fun r σ1 => T111 d Q 8 [wO 7 96, wM 2, wM 2] (r.toList ++ []) σ1) := j3_T.go d [0, 4, 8, 12, 14, 23, 30, 42, 59, 67, 69, 86, 92, 97, 104] 400
set_option maxRecDepth 100000 in
theorem b111_8 {d : Nat} {Q : j3_P} {σ : j3_S}  :
  T111 d Q 8 [wO 7 96, wM 2, wM 2] [] σ = j3_tc false d 248 [wA 7011 96, wI 0] σ (fun r σ1 => T111 d Q 12 [wO 7 96, wM 2, wM 2] (r.toList ++ []) σ1) := j3_T.go d [0, 4, 8, 12, 14, 23, 30, 42, 59, 67, 69, 86, 92, 97, 104] 400
set_option maxRecDepth 100000 in
theorem b111_12 {d : Nat} {Q : j3_P} {σ : j3_S}  :
  T111 d Q 12 [wO 7 96, wM 2, wM 2] [] σ = T111 d Q 14 [wO 7 96, wI 0, wM 2] [] σ := j3_T.go d [0, 4, 8, 12, 14, 23, 30, 42, 59, 67, 69, 86, 92, 97, 104] 400
set_option maxRecDepth 100000 in
theorem b111_14 {d : Nat} {Q : j3_P} {σ : j3_S} {x1 : Int} :
  T111 d Q 14 [wO 7 96, wI x1, wM 2] [] σ = (if x1 < (σ.1 7000 96) then ((0 ≤ x1 ∧ x1 < 120) ∧ j3_tc false d 151 [wI (σ.2.2 7002 96 x1)] σ (fun r σ1 => T111 d Q 23 [wO 7 96, wI x1, wM 2] (r.toList ++ []) σ1)) else j3_tc false d 113 [wO 7 96, wI 0] ((j3_up σ.1 7009 96 0), σ.2.1, σ.2.2) (fun r σ1 => T111 d Q 67 [wO 7 96, wI x1, wM 2] (r.toList ++ []) σ1)) := j3_T.go d [0, 4, 8, 12, 14, 23, 30, 42, 59, 67, 69, 86, 92, 97, 104] 400
set_option maxRecDepth 100000 in
theorem b111_23 {d : Nat} {Q : j3_P} {σ : j3_S} {x1 : Int} {xs0 : Int} :
  T111 d Q 23 [wO 7 96, wI x1, wM 2] [wI xs0] σ = (if xs0 = 0 then T111 d Q 42 [wO 7 96, wI x1, wM 2] [] σ else ((0 ≤ x1 ∧ x1 < 120) ∧ j3_tc false d 112 [wO 7 96, wI (σ.2.2 7003 96 x1)] σ (fun r σ1 => T111 d Q 30 [wO 7 96, wI x1, wM 2] (r.toList ++ []) σ1))) := j3_T.go d [0, 4, 8, 12, 14, 23, 30, 42, 59, 67, 69, 86, 92, 97, 104] 400
set_option maxRecDepth 100000 in
theorem b111_30 {d : Nat} {Q : j3_P} {σ : j3_S} {x1 : Int} {xs0 : Int} :
  T111 d Q 30 [wO 7 96, wI x1, wM 2] [wI xs0] σ = (if xs0 = 0 then T111 d Q 42 [wO 7 96, wI x1, wM 2] [] σ else ((0 ≤ x1 ∧ x1 < 120) ∧ ((0 ≤ (σ.2.2 7003 96 x1) ∧ (σ.2.2 7003 96 x1) < 120) ∧ ((0 ≤ (σ.2.2 7003 96 x1) ∧ (σ.2.2 7003 96 x1) < 120) ∧ T111 d Q 42 [wO 7 96, wI x1, wM 2] [] (σ.1, σ.2.1, (j3_ast σ.2.2 7010 96 (σ.2.2 7003 96 x1) (wr ((σ.2.2 7010 96 (σ.2.2 7003 96 x1)) + 1)))))))) := j3_T.go d [0, 4, 8, 12, 14, 23, 30, 42, 59, 67, 69, 86, 92, 97, 104] 400
set_option maxRecDepth 100000 in
theorem b111_42 {d : Nat} {Q : j3_P} {σ : j3_S} {x1 : Int} :
  T111 d Q 42 [wO 7 96, wI x1, wM 2] [] σ = ((0 ≤ x1 ∧ x1 < 120) ∧ (if (σ.2.2 7002 96 x1) = (2 : Int) then ((0 ≤ x1 ∧ x1 < 120) ∧ ((0 ≤ (σ.2.2 7003 96 x1) ∧ (σ.2.2 7003 96 x1) < 20) ∧ ((0 ≤ (σ.2.2 7003 96 x1) ∧ (σ.2.2 7003 96 x1) < 20) ∧ T111 d Q 59 [wO 7 96, wI x1, wM 2] [] (σ.1, σ.2.1, (j3_ast σ.2.2 7011 96 (σ.2.2 7003 96 x1) (wr ((σ.2.2 7011 96 (σ.2.2 7003 96 x1)) + 1))))))) else T111 d Q 59 [wO 7 96, wI x1, wM 2] [] σ)) := j3_T.go d [0, 4, 8, 12, 14, 23, 30, 42, 59, 67, 69, 86, 92, 97, 104] 400
set_option maxRecDepth 100000 in
theorem b111_59 {d : Nat} {Q : j3_P} {σ : j3_S} {x1 : Int} :
  T111 d Q 59 [wO 7 96, wI x1, wM 2] [] σ = T111 d Q 14 [wO 7 96, wI (wr (x1 + 1)), wM 2] [] σ := j3_T.go d [0, 4, 8, 12, 14, 23, 30, 42, 59, 67, 69, 86, 92, 97, 104] 400
set_option maxRecDepth 100000 in
theorem b111_67 {d : Nat} {Q : j3_P} {σ : j3_S} {x1 : Int} :
  T111 d Q 67 [wO 7 96, wI x1, wM 2] [] σ = T111 d Q 69 [wO 7 96, wI 0, wM 2] [] σ := j3_T.go d [0, 4, 8, 12, 14, 23, 30, 42, 59, 67, 69, 86, 92, 97, 104] 400
set_option maxRecDepth 100000 in
theorem b111_69 {d : Nat} {Q : j3_P} {σ : j3_S} {x1 : Int} {w2 : j3_W} :
  T111 d Q 69 [wO 7 96, wI x1, w2] [] σ = (if x1 < (σ.1 7009 96) then (if x1 < (120 : Int) then ((0 ≤ x1 ∧ x1 < 120) ∧ ((0 ≤ (σ.2.2 7008 96 x1) ∧ (σ.2.2 7008 96 x1) < 120) ∧ j3_tc false d 152 [wI (σ.2.2 7002 96 (σ.2.2 7008 96 x1))] σ (fun r σ1 => T111 d Q 86 [wO 7 96, wI x1, wI (σ.2.2 7008 96 x1)] (r.toList ++ []) σ1))) else Q none σ) else Q none σ) := j3_T.go d [0, 4, 8, 12, 14, 23, 30, 42, 59, 67, 69, 86, 92, 97, 104] 400
set_option maxRecDepth 100000 in
theorem b111_86 {d : Nat} {Q : j3_P} {σ : j3_S} {x1 : Int} {x2 : Int} {xs0 : Int} :
  T111 d Q 86 [wO 7 96, wI x1, wI x2] [wI xs0] σ = (if xs0 = 0 then T111 d Q 92 [wO 7 96, wI x1, wI x2] [] σ else j3_tc false d 113 [wO 7 96, wI (wr (x2 + 1))] σ (fun r σ1 => T111 d Q 92 [wO 7 96, wI x1, wI x2] (r.toList ++ []) σ1)) := j3_T.go d [0, 4, 8, 12, 14, 23, 30, 42, 59, 67, 69, 86, 92, 97, 104] 400
set_option maxRecDepth 100000 in
theorem b111_92 {d : Nat} {Q : j3_P} {σ : j3_S} {x1 : Int} {x2 : Int} :
  T111 d Q 92 [wO 7 96, wI x1, wI x2] [] σ = ((0 ≤ x2 ∧ x2 < 120) ∧ j3_tc false d 151 [wI (σ.2.2 7002 96 x2)] σ (fun r σ1 => T111 d Q 97 [wO 7 96, wI x1, wI x2] (r.toList ++ []) σ1)) := j3_T.go d [0, 4, 8, 12, 14, 23, 30, 42, 59, 67, 69, 86, 92, 97, 104] 400
set_option maxRecDepth 100000 in
theorem b111_97 {d : Nat} {Q : j3_P} {σ : j3_S} {x1 : Int} {x2 : Int} {xs0 : Int} :
  T111 d Q 97 [wO 7 96, wI x1, wI x2] [wI xs0] σ = (if xs0 = 0 then T111 d Q 104 [wO 7 96, wI x1, wI x2] [] σ else ((0 ≤ x2 ∧ x2 < 120) ∧ j3_tc false d 113 [wO 7 96, wI (σ.2.2 7003 96 x2)] σ (fun r σ1 => T111 d Q 104 [wO 7 96, wI x1, wI x2] (r.toList ++ []) σ1))) := j3_T.go d [0, 4, 8, 12, 14, 23, 30, 42, 59, 67, 69, 86, 92, 97, 104] 400
set_option maxRecDepth 100000 in
theorem b111_104 {d : Nat} {Q : j3_P} {σ : j3_S} {x1 : Int} {x2 : Int} :
  T111 d Q 104 [wO 7 96, wI x1, wI x2] [] σ = T111 d Q 69 [wO 7 96, wI (wr (x1 + 1)), wI x2] [] σ := j3_T.go d [0, 4, 8, 12, 14, 23, 30, 42, 59, 67, 69, 86, 92, 97, 104] 400
def T112 (d : Nat) (Q : j3_P) : j3_K := j3_T false (j3_tc false d) jc_X7_isPlace (some .boolean) Q
theorem e112 {d : Nat} {Q : j3_P} {σ : j3_S} {x1 : Int} : j3_tc false (d + 1) 112 [wO 7 96, wI x1] σ Q = T112 d Q 0 [wO 7 96, wI x1] [] σ := j3_entry ⟨Nat.le_of_ble_eq_true rfl, rfl⟩
set_option maxRecDepth 100000 in
theorem b112_0 {d : Nat} {Q : j3_P} {σ : j3_S} {x1 : Int} :
  T112 d Q 0 [wO 7 96, wI x1] [] σ = (if x1 < 0 then (((0 : Int) = 0 ∨ (0 : Int) = 1) ∧ Q (some (wI 0)) σ) else (if x1 < (σ.1 7000 96) then (((1 : Int) = 0 ∨ (1 : Int) = 1) ∧ Q (some (wI 1)) σ) else (((0 : Int) = 0 ∨ (0 : Int) = 1) ∧ Q (some (wI 0)) σ))) := j3_T.go d [0] 400
def T113 (d : Nat) (Q : j3_P) : j3_K := j3_T false (j3_tc false d) jc_X7_meetFirst none Q
theorem e113 {d : Nat} {Q : j3_P} {σ : j3_S} {x1 : Int} : j3_tc false (d + 1) 113 [wO 7 96, wI x1] σ Q = T113 d Q 0 [wO 7 96, wI x1] [] σ := j3_entry ⟨Nat.le_of_ble_eq_true rfl, rfl⟩
set_option maxRecDepth 100000 in
theorem b113_0 {d : Nat} {Q : j3_P} {σ : j3_S} {x1 : Int} :
  T113 d Q 0 [wO 7 96, wI x1] [] σ = j3_tc false d 112 [wO 7 96, wI x1] σ (fun r σ1 => T113 d Q 3 [wO 7 96, wI x1] (r.toList ++ []) σ1) := j3_T.go d [0, 3] 400
set_option maxRecDepth 100000 in
theorem b113_3 {d : Nat} {Q : j3_P} {σ : j3_S} {x1 : Int} {xs0 : Int} :
  T113 d Q 3 [wO 7 96, wI x1] [wI xs0] σ = (if xs0 = 0 then Q none σ else ((0 ≤ x1 ∧ x1 < 120) ∧ (if (σ.2.2 7007 96 x1) = 0 then ((0 ≤ x1 ∧ x1 < 120) ∧ ((0 ≤ (σ.1 7009 96) ∧ (σ.1 7009 96) < 120) ∧ Q none ((j3_up σ.1 7009 96 (wr ((σ.1 7009 96) + 1))), σ.2.1, (j3_ast (j3_ast σ.2.2 7007 96 x1 1) 7008 96 (σ.1 7009 96) x1)))) else Q none σ))) := j3_T.go d [0, 3] 400
def T114 (d : Nat) (Q : j3_P) : j3_K := j3_T false (j3_tc false d) jc_X7_ruleAt (some .int) Q
theorem e114 {d : Nat} {Q : j3_P} {σ : j3_S} {x1 : Int} : j3_tc false (d + 1) 114 [wO 7 96, wI x1] σ Q = T114 d Q 0 [wO 7 96, wI x1, wM 2, wM 2] [] σ := j3_entry ⟨Nat.le_of_ble_eq_true rfl, rfl⟩
set_option maxRecDepth 100000 in
theorem b114_0 {d : Nat} {Q : j3_P} {σ : j3_S} {x1 : Int} :
  T114 d Q 0 [wO 7 96, wI x1, wM 2, wM 2] [] σ = ((0 ≤ x1 ∧ x1 < 120) ∧ (if (σ.2.2 7007 96 x1) = 0 then Q (some (wI 1)) σ else ((0 ≤ x1 ∧ x1 < 120) ∧ (if (σ.2.2 7002 96 x1) = (11 : Int) then ((0 ≤ x1 ∧ x1 < 120) ∧ (if (σ.2.2 7003 96 x1) = (wr (x1 + 1)) then Q (some (wI 2)) σ else T114 d Q 25 [wO 7 96, wI x1, wI (σ.2.2 7002 96 x1), wM 2] [] σ)) else T114 d Q 25 [wO 7 96, wI x1, wI (σ.2.2 7002 96 x1), wM 2] [] σ)))) := j3_T.go d [0, 25, 27, 31, 35, 40, 55, 56, 59, 63, 64, 76, 99, 106, 118, 130] 400
set_option maxRecDepth 100000 in
theorem b114_25 {d : Nat} {Q : j3_P} {σ : j3_S} {x1 : Int} {x2 : Int} :
  T114 d Q 25 [wO 7 96, wI x1, wI x2, wM 2] [] σ = j3_tc false d 151 [wI x2] σ (fun r σ1 => T114 d Q 27 [wO 7 96, wI x1, wI x2, wM 2] (r.toList ++ []) σ1) := j3_T.go d [0, 25, 27, 31, 35, 40, 55, 56, 59, 63, 64, 76, 99, 106, 118, 130] 400
set_option maxRecDepth 100000 in
theorem b114_27 {d : Nat} {Q : j3_P} {σ : j3_S} {x1 : Int} {x2 : Int} {xs0 : Int} :
  T114 d Q 27 [wO 7 96, wI x1, wI x2, wM 2] [wI xs0] σ = (if xs0 = 0 then T114 d Q 35 [wO 7 96, wI x1, wI x2, wM 2] [] σ else j3_tc false d 116 [wO 7 96, wI x1] σ (fun r σ1 => T114 d Q 31 [wO 7 96, wI x1, wI x2, wM 2] (r.toList ++ []) σ1)) := j3_T.go d [0, 25, 27, 31, 35, 40, 55, 56, 59, 63, 64, 76, 99, 106, 118, 130] 400
set_option maxRecDepth 100000 in
theorem b114_31 {d : Nat} {Q : j3_P} {σ : j3_S} {x1 : Int} {x2 : Int} {xs0 : Int} :
  T114 d Q 31 [wO 7 96, wI x1, wI x2, wM 2] [wI xs0] σ = (if xs0 = (-1 : Int) then T114 d Q 35 [wO 7 96, wI x1, wI x2, wM 2] [] σ else Q (some (wI 3)) σ) := j3_T.go d [0, 25, 27, 31, 35, 40, 55, 56, 59, 63, 64, 76, 99, 106, 118, 130] 400
set_option maxRecDepth 100000 in
theorem b114_35 {d : Nat} {Q : j3_P} {σ : j3_S} {x1 : Int} {x2 : Int} :
  T114 d Q 35 [wO 7 96, wI x1, wI x2, wM 2] [] σ = j3_tc false d 112 [wO 7 96, wI (wr (x1 + 1))] σ (fun r σ1 => T114 d Q 40 [wO 7 96, wI x1, wI x2, wM 2] (r.toList ++ []) σ1) := j3_T.go d [0, 25, 27, 31, 35, 40, 55, 56, 59, 63, 64, 76, 99, 106, 118, 130] 400
set_option maxRecDepth 100000 in
theorem b114_40 {d : Nat} {Q : j3_P} {σ : j3_S} {x1 : Int} {x2 : Int} {xs0 : Int} :
  T114 d Q 40 [wO 7 96, wI x1, wI x2, wM 2] [wI xs0] σ = (if xs0 = 0 then T114 d Q 55 [wO 7 96, wI x1, wI x2, wM 2] [] σ else ((0 ≤ (wr (x1 + 1)) ∧ (wr (x1 + 1)) < 120) ∧ (if (σ.2.2 7010 96 (wr (x1 + 1))) = 0 then ((0 ≤ (wr (x1 + 1)) ∧ (wr (x1 + 1)) < 120) ∧ T114 d Q 56 [wO 7 96, wI x1, wI x2, wM 2] [wI (σ.2.2 7002 96 (wr (x1 + 1)))] σ) else T114 d Q 55 [wO 7 96, wI x1, wI x2, wM 2] [] σ))) := j3_T.go d [0, 25, 27, 31, 35, 40, 55, 56, 59, 63, 64, 76, 99, 106, 118, 130] 400
set_option maxRecDepth 100000 in
theorem b114_55 {d : Nat} {Q : j3_P} {σ : j3_S} {x1 : Int} {x2 : Int} :
  T114 d Q 55 [wO 7 96, wI x1, wI x2, wM 2] [] σ = T114 d Q 56 [wO 7 96, wI x1, wI x2, wM 2] [wI (-1)] σ := j3_T.go d [0, 25, 27, 31, 35, 40, 55, 56, 59, 63, 64, 76, 99, 106, 118, 130] 400
set_option maxRecDepth 100000 in
theorem b114_56 {d : Nat} {Q : j3_P} {σ : j3_S} {x1 : Int} {x2 : Int} {xs0 : Int} :
  T114 d Q 56 [wO 7 96, wI x1, wI x2, wM 2] [wI xs0] σ = (if x2 = 0 then T114 d Q 59 [wO 7 96, wI x1, wI x2, wI xs0] [] σ else (if x2 = 1 then T114 d Q 64 [wO 7 96, wI x1, wI x2, wI xs0] [] σ else (if x2 = 2 then T114 d Q 76 [wO 7 96, wI x1, wI x2, wI xs0] [] σ else (if x2 = 3 then T114 d Q 106 [wO 7 96, wI x1, wI x2, wI xs0] [] σ else (if x2 = 4 then T114 d Q 130 [wO 7 96, wI x1, wI x2, wI xs0] [] σ else (if x2 = 5 then T114 d Q 99 [wO 7 96, wI x1, wI x2, wI xs0] [] σ else (if x2 = 6 then T114 d Q 130 [wO 7 96, wI x1, wI x2, wI xs0] [] σ else (if x2 = 7 then T114 d Q 130 [wO 7 96, wI x1, wI x2, wI xs0] [] σ else (if x2 = 8 then T114 d Q 130 [wO 7 96, wI x1, wI x2, wI xs0] [] σ else (if x2 = 9 then T114 d Q 130 [wO 7 96, wI x1, wI x2, wI xs0] [] σ else (if x2 = 10 then T114 d Q 130 [wO 7 96, wI x1, wI x2, wI xs0] [] σ else (if x2 = 11 then T114 d Q 130 [wO 7 96, wI x1, wI x2, wI xs0] [] σ else (if x2 = 12 then T114 d Q 118 [wO 7 96, wI x1, wI x2, wI xs0] [] σ else (if x2 = 13 then T114 d Q 130 [wO 7 96, wI x1, wI x2, wI xs0] [] σ else (if x2 = 14 then T114 d Q 118 [wO 7 96, wI x1, wI x2, wI xs0] [] σ else T114 d Q 130 [wO 7 96, wI x1, wI x2, wI xs0] [] σ))))))))))))))) := j3_T.go d [0, 25, 27, 31, 35, 40, 55, 56, 59, 63, 64, 76, 99, 106, 118, 130] 400
set_option maxRecDepth 100000 in
theorem b114_59 {d : Nat} {Q : j3_P} {σ : j3_S} {x1 : Int} {x2 : Int} {x3 : Int} :
  T114 d Q 59 [wO 7 96, wI x1, wI x2, wI x3] [] σ = j3_tc false d 115 [wO 7 96, wI x1, wI x3] σ (fun r σ1 => T114 d Q 63 [wO 7 96, wI x1, wI x2, wI x3] (r.toList ++ []) σ1) := j3_T.go d [0, 25, 27, 31, 35, 40, 55, 56, 59, 63, 64, 76, 99, 106, 118, 130] 400
set_option maxRecDepth 100000 in
theorem b114_63 {d : Nat} {Q : j3_P} {σ : j3_S} {x1 : Int} {x2 : Int} {x3 : Int} {xs0 : Int} :
  T114 d Q 63 [wO 7 96, wI x1, wI x2, wI x3] [wI xs0] σ = Q (some (wI xs0)) σ := j3_T.go d [0, 25, 27, 31, 35, 40, 55, 56, 59, 63, 64, 76, 99, 106, 118, 130] 400
set_option maxRecDepth 100000 in
theorem b114_64 {d : Nat} {Q : j3_P} {σ : j3_S} {x1 : Int} {x2 : Int} {x3 : Int} :
  T114 d Q 64 [wO 7 96, wI x1, wI x2, wI x3] [] σ = (if x3 = (4 : Int) then Q (some (wI 5)) σ else (if x3 = (14 : Int) then Q (some (wI 8)) σ else Q (some (wI 0)) σ)) := j3_T.go d [0, 25, 27, 31, 35, 40, 55, 56, 59, 63, 64, 76, 99, 106, 118, 130] 400
set_option maxRecDepth 100000 in
theorem b114_76 {d : Nat} {Q : j3_P} {σ : j3_S} {x1 : Int} {x2 : Int} {x3 : Int} :
  T114 d Q 76 [wO 7 96, wI x1, wI x2, wI x3] [] σ = (if x3 = (4 : Int) then Q (some (wI 5)) σ else (if x3 = (3 : Int) then ((0 ≤ x1 ∧ x1 < 120) ∧ ((0 ≤ (wr (x1 + 1)) ∧ (wr (x1 + 1)) < 120) ∧ (if (σ.2.2 7003 96 x1) = (σ.2.2 7003 96 (wr (x1 + 1))) then Q (some (wI 11)) σ else Q (some (wI 0)) σ))) else Q (some (wI 0)) σ)) := j3_T.go d [0, 25, 27, 31, 35, 40, 55, 56, 59, 63, 64, 76, 99, 106, 118, 130] 400
set_option maxRecDepth 100000 in
theorem b114_99 {d : Nat} {Q : j3_P} {σ : j3_S} {x1 : Int} {x2 : Int} {x3 : Int} :
  T114 d Q 99 [wO 7 96, wI x1, wI x2, wI x3] [] σ = (if x3 = (4 : Int) then Q (some (wI 5)) σ else Q (some (wI 0)) σ) := j3_T.go d [0, 25, 27, 31, 35, 40, 55, 56, 59, 63, 64, 76, 99, 106, 118, 130] 400
set_option maxRecDepth 100000 in
theorem b114_106 {d : Nat} {Q : j3_P} {σ : j3_S} {x1 : Int} {x2 : Int} {x3 : Int} :
  T114 d Q 106 [wO 7 96, wI x1, wI x2, wI x3] [] σ = ((0 ≤ x1 ∧ x1 < 120) ∧ ((0 ≤ (σ.2.2 7003 96 x1) ∧ (σ.2.2 7003 96 x1) < 20) ∧ (if (σ.2.2 7011 96 (σ.2.2 7003 96 x1)) = 0 then Q (some (wI 10)) σ else Q (some (wI 0)) σ))) := j3_T.go d [0, 25, 27, 31, 35, 40, 55, 56, 59, 63, 64, 76, 99, 106, 118, 130] 400
set_option maxRecDepth 100000 in
theorem b114_118 {d : Nat} {Q : j3_P} {σ : j3_S} {x1 : Int} {x2 : Int} {x3 : Int} :
  T114 d Q 118 [wO 7 96, wI x1, wI x2, wI x3] [] σ = ((0 ≤ x1 ∧ x1 < 120) ∧ (if (σ.2.2 7003 96 x1) = (wr (x1 + 1)) then Q (some (wI 12)) σ else Q (some (wI 0)) σ)) := j3_T.go d [0, 25, 27, 31, 35, 40, 55, 56, 59, 63, 64, 76, 99, 106, 118, 130] 400
set_option maxRecDepth 100000 in
theorem b114_130 {d : Nat} {Q : j3_P} {σ : j3_S} {x1 : Int} {x2 : Int} {x3 : Int} :
  T114 d Q 130 [wO 7 96, wI x1, wI x2, wI x3] [] σ = Q (some (wI 0)) σ := j3_T.go d [0, 25, 27, 31, 35, 40, 55, 56, 59, 63, 64, 76, 99, 106, 118, 130] 400
def T115 (d : Nat) (Q : j3_P) : j3_K := j3_T false (j3_tc false d) jc_X7_ruleOfInt (some .int) Q
theorem e115 {d : Nat} {Q : j3_P} {σ : j3_S} {x1 : Int} {x2 : Int} : j3_tc false (d + 1) 115 [wO 7 96, wI x1, wI x2] σ Q = T115 d Q 0 [wO 7 96, wI x1, wI x2, wM 2, wM 2, wM 2] [] σ := j3_entry ⟨Nat.le_of_ble_eq_true rfl, rfl⟩
set_option maxRecDepth 100000 in
theorem b115_0 {d : Nat} {Q : j3_P} {σ : j3_S} {x1 : Int} {x2 : Int} :
  T115 d Q 0 [wO 7 96, wI x1, wI x2, wM 2, wM 2, wM 2] [] σ = (if x2 = 0 then j3_tc false d 112 [wO 7 96, wI (wr (x1 + 2))] σ (fun r σ1 => T115 d Q 7 [wO 7 96, wI x1, wI x2, wM 2, wM 2, wM 2] (r.toList ++ []) σ1) else T115 d Q 22 [wO 7 96, wI x1, wI x2, wM 2, wM 2, wM 2] [] σ) := j3_T.go d [0, 7, 22, 23, 42, 68, 70, 71, 84, 86, 87, 92] 400
set_option maxRecDepth 100000 in
theorem b115_7 {d : Nat} {Q : j3_P} {σ : j3_S} {x1 : Int} {x2 : Int} {xs0 : Int} :
  T115 d Q 7 [wO 7 96, wI x1, wI x2, wM 2, wM 2, wM 2] [wI xs0] σ = (if xs0 = 0 then T115 d Q 22 [wO 7 96, wI x1, wI x2, wM 2, wM 2, wM 2] [] σ else ((0 ≤ (wr (x1 + 2)) ∧ (wr (x1 + 2)) < 120) ∧ (if (σ.2.2 7010 96 (wr (x1 + 2))) = 0 then ((0 ≤ (wr (x1 + 2)) ∧ (wr (x1 + 2)) < 120) ∧ T115 d Q 23 [wO 7 96, wI x1, wI x2, wM 2, wM 2, wM 2] [wI (σ.2.2 7002 96 (wr (x1 + 2)))] σ) else T115 d Q 22 [wO 7 96, wI x1, wI x2, wM 2, wM 2, wM 2] [] σ))) := j3_T.go d [0, 7, 22, 23, 42, 68, 70, 71, 84, 86, 87, 92] 400
set_option maxRecDepth 100000 in
theorem b115_22 {d : Nat} {Q : j3_P} {σ : j3_S} {x1 : Int} {x2 : Int} :
  T115 d Q 22 [wO 7 96, wI x1, wI x2, wM 2, wM 2, wM 2] [] σ = T115 d Q 23 [wO 7 96, wI x1, wI x2, wM 2, wM 2, wM 2] [wI (-1)] σ := j3_T.go d [0, 7, 22, 23, 42, 68, 70, 71, 84, 86, 87, 92] 400
set_option maxRecDepth 100000 in
theorem b115_23 {d : Nat} {Q : j3_P} {σ : j3_S} {x1 : Int} {x2 : Int} {xs0 : Int} :
  T115 d Q 23 [wO 7 96, wI x1, wI x2, wM 2, wM 2, wM 2] [wI xs0] σ = (if xs0 < (6 : Int) then T115 d Q 42 [wO 7 96, wI x1, wI x2, wI xs0, wM 2, wM 2] [] σ else (if (10 : Int) < xs0 then T115 d Q 42 [wO 7 96, wI x1, wI x2, wI xs0, wM 2, wM 2] [] σ else (if (8 : Int) < xs0 then ((0 ≤ (wr (x1 + 1)) ∧ (wr (x1 + 1)) < 120) ∧ (if (σ.2.2 7003 96 (wr (x1 + 1))) = 0 then T115 d Q 42 [wO 7 96, wI x1, wI x2, wI xs0, wM 2, wM 2] [] σ else Q (some (wI 4)) σ)) else Q (some (wI 4)) σ))) := j3_T.go d [0, 7, 22, 23, 42, 68, 70, 71, 84, 86, 87, 92] 400
set_option maxRecDepth 100000 in
theorem b115_42 {d : Nat} {Q : j3_P} {σ : j3_S} {x1 : Int} {x2 : Int} {x3 : Int} :
  T115 d Q 42 [wO 7 96, wI x1, wI x2, wI x3, wM 2, wM 2] [] σ = (if x2 = (4 : Int) then Q (some (wI 5)) σ else (if x2 = (12 : Int) then Q (some (wI 6)) σ else (if x3 = (13 : Int) then Q (some (wI 7)) σ else ((0 ≤ x1 ∧ x1 < 120) ∧ (if (σ.2.2 7003 96 x1) = 0 then (if x2 = (6 : Int) then T115 d Q 68 [wO 7 96, wI x1, wI x2, wI x3, wM 2, wM 2] [] σ else (if x2 = (7 : Int) then T115 d Q 68 [wO 7 96, wI x1, wI x2, wI x3, wM 2, wM 2] [] σ else T115 d Q 70 [wO 7 96, wI x1, wI x2, wI x3, wM 2, wM 2] [] σ)) else T115 d Q 70 [wO 7 96, wI x1, wI x2, wI x3, wM 2, wM 2] [] σ))))) := j3_T.go d [0, 7, 22, 23, 42, 68, 70, 71, 84, 86, 87, 92] 400
set_option maxRecDepth 100000 in
theorem b115_68 {d : Nat} {Q : j3_P} {σ : j3_S} {x1 : Int} {x2 : Int} {x3 : Int} :
  T115 d Q 68 [wO 7 96, wI x1, wI x2, wI x3, wM 2, wM 2] [] σ = T115 d Q 71 [wO 7 96, wI x1, wI x2, wI x3, wM 2, wM 2] [wI 1] σ := j3_T.go d [0, 7, 22, 23, 42, 68, 70, 71, 84, 86, 87, 92] 400
set_option maxRecDepth 100000 in
theorem b115_70 {d : Nat} {Q : j3_P} {σ : j3_S} {x1 : Int} {x2 : Int} {x3 : Int} :
  T115 d Q 70 [wO 7 96, wI x1, wI x2, wI x3, wM 2, wM 2] [] σ = T115 d Q 71 [wO 7 96, wI x1, wI x2, wI x3, wM 2, wM 2] [wI 0] σ := j3_T.go d [0, 7, 22, 23, 42, 68, 70, 71, 84, 86, 87, 92] 400
set_option maxRecDepth 100000 in
theorem b115_71 {d : Nat} {Q : j3_P} {σ : j3_S} {x1 : Int} {x2 : Int} {x3 : Int} {xs0 : Int} :
  T115 d Q 71 [wO 7 96, wI x1, wI x2, wI x3, wM 2, wM 2] [wI xs0] σ = ((0 ≤ x1 ∧ x1 < 120) ∧ (if (σ.2.2 7003 96 x1) = (1 : Int) then (if x2 = (8 : Int) then T115 d Q 84 [wO 7 96, wI x1, wI x2, wI x3, wI xs0, wM 2] [] σ else (if x2 = (9 : Int) then T115 d Q 84 [wO 7 96, wI x1, wI x2, wI x3, wI xs0, wM 2] [] σ else T115 d Q 86 [wO 7 96, wI x1, wI x2, wI x3, wI xs0, wM 2] [] σ)) else T115 d Q 86 [wO 7 96, wI x1, wI x2, wI x3, wI xs0, wM 2] [] σ)) := j3_T.go d [0, 7, 22, 23, 42, 68, 70, 71, 84, 86, 87, 92] 400
set_option maxRecDepth 100000 in
theorem b115_84 {d : Nat} {Q : j3_P} {σ : j3_S} {x1 : Int} {x2 : Int} {x3 : Int} {x4 : Int} :
  T115 d Q 84 [wO 7 96, wI x1, wI x2, wI x3, wI x4, wM 2] [] σ = T115 d Q 87 [wO 7 96, wI x1, wI x2, wI x3, wI x4, wM 2] [wI 1] σ := j3_T.go d [0, 7, 22, 23, 42, 68, 70, 71, 84, 86, 87, 92] 400
set_option maxRecDepth 100000 in
theorem b115_86 {d : Nat} {Q : j3_P} {σ : j3_S} {x1 : Int} {x2 : Int} {x3 : Int} {x4 : Int} :
  T115 d Q 86 [wO 7 96, wI x1, wI x2, wI x3, wI x4, wM 2] [] σ = T115 d Q 87 [wO 7 96, wI x1, wI x2, wI x3, wI x4, wM 2] [wI 0] σ := j3_T.go d [0, 7, 22, 23, 42, 68, 70, 71, 84, 86, 87, 92] 400
set_option maxRecDepth 100000 in
theorem b115_87 {d : Nat} {Q : j3_P} {σ : j3_S} {x1 : Int} {x2 : Int} {x3 : Int} {x4 : Int} {xs0 : Int} :
  T115 d Q 87 [wO 7 96, wI x1, wI x2, wI x3, wI x4, wM 2] [wI xs0] σ = (if x4 = 0 then (if xs0 = 0 then Q (some (wI 0)) σ else T115 d Q 92 [wO 7 96, wI x1, wI x2, wI x3, wI x4, wI xs0] [] σ) else T115 d Q 92 [wO 7 96, wI x1, wI x2, wI x3, wI x4, wI xs0] [] σ) := j3_T.go d [0, 7, 22, 23, 42, 68, 70, 71, 84, 86, 87, 92] 400
set_option maxRecDepth 100000 in
theorem b115_92 {d : Nat} {Q : j3_P} {σ : j3_S} {x1 : Int} {x2 : Int} {x3 : Int} {x4 : Int} {x5 : Int} :
  T115 d Q 92 [wO 7 96, wI x1, wI x2, wI x3, wI x4, wI x5] [] σ = Q (some (wI 9)) σ := j3_T.go d [0, 7, 22, 23, 42, 68, 70, 71, 84, 86, 87, 92] 400
def T116 (d : Nat) (Q : j3_P) : j3_K := j3_T false (j3_tc false d) jc_X7_lead (some .int) Q
theorem e116 {d : Nat} {Q : j3_P} {σ : j3_S} {x1 : Int} : j3_tc false (d + 1) 116 [wO 7 96, wI x1] σ Q = T116 d Q 0 [wO 7 96, wI x1, wM 2, wM 2] [] σ := j3_entry ⟨Nat.le_of_ble_eq_true rfl, rfl⟩
set_option maxRecDepth 100000 in
theorem b116_0 {d : Nat} {Q : j3_P} {σ : j3_S} {x1 : Int} :
  T116 d Q 0 [wO 7 96, wI x1, wM 2, wM 2] [] σ = ((0 ≤ x1 ∧ x1 < 120) ∧ j3_tc false d 112 [wO 7 96, wI (σ.2.2 7003 96 x1)] σ (fun r σ1 => T116 d Q 8 [wO 7 96, wI x1, wI (σ.2.2 7003 96 x1), wM 2] (r.toList ++ []) σ1)) := j3_T.go d [0, 8, 19, 26, 40, 43] 400
set_option maxRecDepth 100000 in
theorem b116_8 {d : Nat} {Q : j3_P} {σ : j3_S} {x1 : Int} {x2 : Int} {xs0 : Int} :
  T116 d Q 8 [wO 7 96, wI x1, wI x2, wM 2] [wI xs0] σ = (if xs0 = 0 then Q (some (wI (-1))) σ else ((0 ≤ x2 ∧ x2 < 120) ∧ (if (σ.2.2 7002 96 x2) = (11 : Int) then T116 d Q 19 [wO 7 96, wI x1, wI x2, wI 0] [] σ else Q (some (wI (-1))) σ))) := j3_T.go d [0, 8, 19, 26, 40, 43] 400
set_option maxRecDepth 100000 in
theorem b116_19 {d : Nat} {Q : j3_P} {σ : j3_S} {x1 : Int} {x2 : Int} {x3 : Int} :
  T116 d Q 19 [wO 7 96, wI x1, wI x2, wI x3] [] σ = (if x3 < (σ.1 7000 96) then j3_tc false d 112 [wO 7 96, wI x2] σ (fun r σ1 => T116 d Q 26 [wO 7 96, wI x1, wI x2, wI x3] (r.toList ++ []) σ1) else T116 d Q 40 [wO 7 96, wI x1, wI x2, wI x3] [] σ) := j3_T.go d [0, 8, 19, 26, 40, 43] 400
set_option maxRecDepth 100000 in
theorem b116_26 {d : Nat} {Q : j3_P} {σ : j3_S} {x1 : Int} {x2 : Int} {x3 : Int} {xs0 : Int} :
  T116 d Q 26 [wO 7 96, wI x1, wI x2, wI x3] [wI xs0] σ = (if xs0 = 0 then T116 d Q 40 [wO 7 96, wI x1, wI x2, wI x3] [] σ else ((0 ≤ x2 ∧ x2 < 120) ∧ (if (σ.2.2 7002 96 x2) = (11 : Int) then ((0 ≤ x2 ∧ x2 < 120) ∧ T116 d Q 19 [wO 7 96, wI x1, wI (σ.2.2 7003 96 x2), wI (wr (x3 + 1))] [] σ) else T116 d Q 40 [wO 7 96, wI x1, wI x2, wI x3] [] σ))) := j3_T.go d [0, 8, 19, 26, 40, 43] 400
set_option maxRecDepth 100000 in
theorem b116_40 {d : Nat} {Q : j3_P} {σ : j3_S} {x1 : Int} {x2 : Int} {x3 : Int} :
  T116 d Q 40 [wO 7 96, wI x1, wI x2, wI x3] [] σ = j3_tc false d 112 [wO 7 96, wI x2] σ (fun r σ1 => T116 d Q 43 [wO 7 96, wI x1, wI x2, wI x3] (r.toList ++ []) σ1) := j3_T.go d [0, 8, 19, 26, 40, 43] 400
set_option maxRecDepth 100000 in
theorem b116_43 {d : Nat} {Q : j3_P} {σ : j3_S} {x1 : Int} {x2 : Int} {x3 : Int} {xs0 : Int} :
  T116 d Q 43 [wO 7 96, wI x1, wI x2, wI x3] [wI xs0] σ = (if xs0 = 0 then Q (some (wI (-1))) σ else ((0 ≤ x2 ∧ x2 < 120) ∧ (if (σ.2.2 7002 96 x2) = (11 : Int) then Q (some (wI (-1))) σ else Q (some (wI x2)) σ))) := j3_T.go d [0, 8, 19, 26, 40, 43] 400
def T117 (d : Nat) (Q : j3_P) : j3_K := j3_T false (j3_tc false d) jc_X7_apply none Q
theorem e117 {d : Nat} {Q : j3_P} {σ : j3_S} {x1 : Int} {x2 : Int} : j3_tc false (d + 1) 117 [wO 7 96, wI x1, wI x2] σ Q = T117 d Q 0 [wO 7 96, wI x1, wI x2] [] σ := j3_entry ⟨Nat.le_of_ble_eq_true rfl, rfl⟩
set_option maxRecDepth 100000 in
theorem b117_0 {d : Nat} {Q : j3_P} {σ : j3_S} {x1 : Int} {x2 : Int} :
  T117 d Q 0 [wO 7 96, wI x1, wI x2] [] σ = (if x1 = 1 then T117 d Q 2 [wO 7 96, wI x1, wI x2] [] σ else (if x1 = 2 then T117 d Q 2 [wO 7 96, wI x1, wI x2] [] σ else (if x1 = 3 then T117 d Q 7 [wO 7 96, wI x1, wI x2] [] σ else (if x1 = 4 then T117 d Q 15 [wO 7 96, wI x1, wI x2] [] σ else (if x1 = 5 then T117 d Q 52 [wO 7 96, wI x1, wI x2] [] σ else (if x1 = 6 then T117 d Q 40 [wO 7 96, wI x1, wI x2] [] σ else (if x1 = 7 then T117 d Q 40 [wO 7 96, wI x1, wI x2] [] σ else (if x1 = 8 then T117 d Q 40 [wO 7 96, wI x1, wI x2] [] σ else (if x1 = 9 then T117 d Q 52 [wO 7 96, wI x1, wI x2] [] σ else (if x1 = 10 then T117 d Q 45 [wO 7 96, wI x1, wI x2] [] σ else (if x1 = 11 then T117 d Q 52 [wO 7 96, wI x1, wI x2] [] σ else (if x1 = 12 then T117 d Q 45 [wO 7 96, wI x1, wI x2] [] σ else T117 d Q 52 [wO 7 96, wI x1, wI x2] [] σ)))))))))))) := j3_T.go d [0, 2, 6, 7, 13, 15, 35, 39, 40, 44, 45, 51, 52, 56] 400
set_option maxRecDepth 100000 in
theorem b117_2 {d : Nat} {Q : j3_P} {σ : j3_S} {x1 : Int} {x2 : Int} :
  T117 d Q 2 [wO 7 96, wI x1, wI x2] [] σ = j3_tc false d 120 [wO 7 96, wI x2, wI 1] σ (fun r σ1 => T117 d Q 6 [wO 7 96, wI x1, wI x2] (r.toList ++ []) σ1) := j3_T.go d [0, 2, 6, 7, 13, 15, 35, 39, 40, 44, 45, 51, 52, 56] 400
set_option maxRecDepth 100000 in
theorem b117_6 {d : Nat} {Q : j3_P} {σ : j3_S} {x1 : Int} {x2 : Int} :
  T117 d Q 6 [wO 7 96, wI x1, wI x2] [] σ = T117 d Q 56 [wO 7 96, wI x1, wI x2] [] σ := j3_T.go d [0, 2, 6, 7, 13, 15, 35, 39, 40, 44, 45, 51, 52, 56] 400
set_option maxRecDepth 100000 in
theorem b117_7 {d : Nat} {Q : j3_P} {σ : j3_S} {x1 : Int} {x2 : Int} :
  T117 d Q 7 [wO 7 96, wI x1, wI x2] [] σ = j3_tc false d 116 [wO 7 96, wI x2] σ (fun r σ1 => T117 d Q 13 [wO 7 96, wI x1, wI x2] (r.toList ++ [wI x2, wA 7003 96]) σ1) := j3_T.go d [0, 2, 6, 7, 13, 15, 35, 39, 40, 44, 45, 51, 52, 56] 400
set_option maxRecDepth 100000 in
theorem b117_13 {d : Nat} {Q : j3_P} {σ : j3_S} {x1 : Int} {x2 : Int} {xs0 : Int} {xs1 : Int} :
  T117 d Q 13 [wO 7 96, wI x1, wI x2] [wI xs0, wI xs1, wA 7003 96] σ = ((0 ≤ xs1 ∧ xs1 < 120) ∧ T117 d Q 56 [wO 7 96, wI x1, wI x2] [] (σ.1, σ.2.1, (j3_ast σ.2.2 7003 96 xs1 xs0))) := j3_T.go d [0, 2, 6, 7, 13, 15, 35, 39, 40, 44, 45, 51, 52, 56] 400
set_option maxRecDepth 100000 in
theorem b117_15 {d : Nat} {Q : j3_P} {σ : j3_S} {x1 : Int} {x2 : Int} :
  T117 d Q 15 [wO 7 96, wI x1, wI x2] [] σ = ((0 ≤ (wr (x2 + 2)) ∧ (wr (x2 + 2)) < 120) ∧ ((0 ≤ x2 ∧ x2 < 120) ∧ ((0 ≤ (wr (x2 + 1)) ∧ (wr (x2 + 1)) < 120) ∧ j3_tc false d 153 [wI (σ.2.2 7002 96 (wr (x2 + 2))), wI (σ.2.2 7003 96 x2), wI (σ.2.2 7003 96 (wr (x2 + 1)))] σ (fun r σ1 => T117 d Q 35 [wO 7 96, wI x1, wI x2] (r.toList ++ [wI 0, wI x2, wO 7 96]) σ1)))) := j3_T.go d [0, 2, 6, 7, 13, 15, 35, 39, 40, 44, 45, 51, 52, 56] 400
set_option maxRecDepth 100000 in
theorem b117_35 {d : Nat} {Q : j3_P} {σ : j3_S} {x1 : Int} {x2 : Int} {xs0 : Int} {xs1 : Int} {xs2 : Int} :
  T117 d Q 35 [wO 7 96, wI x1, wI x2] [wI xs0, wI xs1, wI xs2, wO 7 96] σ = j3_tc false d 119 [wO 7 96, wI xs2, wI xs1, wI xs0, wI (wr (x2 + 2))] σ (fun r σ1 => T117 d Q 39 [wO 7 96, wI x1, wI x2] (r.toList ++ []) σ1) := j3_T.go d [0, 2, 6, 7, 13, 15, 35, 39, 40, 44, 45, 51, 52, 56] 400
set_option maxRecDepth 100000 in
theorem b117_39 {d : Nat} {Q : j3_P} {σ : j3_S} {x1 : Int} {x2 : Int} :
  T117 d Q 39 [wO 7 96, wI x1, wI x2] [] σ = T117 d Q 56 [wO 7 96, wI x1, wI x2] [] σ := j3_T.go d [0, 2, 6, 7, 13, 15, 35, 39, 40, 44, 45, 51, 52, 56] 400
set_option maxRecDepth 100000 in
theorem b117_40 {d : Nat} {Q : j3_P} {σ : j3_S} {x1 : Int} {x2 : Int} :
  T117 d Q 40 [wO 7 96, wI x1, wI x2] [] σ = j3_tc false d 118 [wO 7 96, wI x1, wI x2] σ (fun r σ1 => T117 d Q 44 [wO 7 96, wI x1, wI x2] (r.toList ++ []) σ1) := j3_T.go d [0, 2, 6, 7, 13, 15, 35, 39, 40, 44, 45, 51, 52, 56] 400
set_option maxRecDepth 100000 in
theorem b117_44 {d : Nat} {Q : j3_P} {σ : j3_S} {x1 : Int} {x2 : Int} :
  T117 d Q 44 [wO 7 96, wI x1, wI x2] [] σ = T117 d Q 56 [wO 7 96, wI x1, wI x2] [] σ := j3_T.go d [0, 2, 6, 7, 13, 15, 35, 39, 40, 44, 45, 51, 52, 56] 400
set_option maxRecDepth 100000 in
theorem b117_45 {d : Nat} {Q : j3_P} {σ : j3_S} {x1 : Int} {x2 : Int} :
  T117 d Q 45 [wO 7 96, wI x1, wI x2] [] σ = j3_tc false d 119 [wO 7 96, wI x2, wI 4, wI 0, wI x2] σ (fun r σ1 => T117 d Q 51 [wO 7 96, wI x1, wI x2] (r.toList ++ []) σ1) := j3_T.go d [0, 2, 6, 7, 13, 15, 35, 39, 40, 44, 45, 51, 52, 56] 400
set_option maxRecDepth 100000 in
theorem b117_51 {d : Nat} {Q : j3_P} {σ : j3_S} {x1 : Int} {x2 : Int} :
  T117 d Q 51 [wO 7 96, wI x1, wI x2] [] σ = T117 d Q 56 [wO 7 96, wI x1, wI x2] [] σ := j3_T.go d [0, 2, 6, 7, 13, 15, 35, 39, 40, 44, 45, 51, 52, 56] 400
set_option maxRecDepth 100000 in
theorem b117_52 {d : Nat} {Q : j3_P} {σ : j3_S} {x1 : Int} {x2 : Int} :
  T117 d Q 52 [wO 7 96, wI x1, wI x2] [] σ = j3_tc false d 120 [wO 7 96, wI x2, wI 2] σ (fun r σ1 => T117 d Q 56 [wO 7 96, wI x1, wI x2] (r.toList ++ []) σ1) := j3_T.go d [0, 2, 6, 7, 13, 15, 35, 39, 40, 44, 45, 51, 52, 56] 400
set_option maxRecDepth 100000 in
theorem b117_56 {d : Nat} {Q : j3_P} {σ : j3_S} {x1 : Int} {x2 : Int} :
  T117 d Q 56 [wO 7 96, wI x1, wI x2] [] σ = Q none σ := j3_T.go d [0, 2, 6, 7, 13, 15, 35, 39, 40, 44, 45, 51, 52, 56] 400
def T118 (d : Nat) (Q : j3_P) : j3_K := j3_T false (j3_tc false d) jc_X7_decide none Q
theorem e118 {d : Nat} {Q : j3_P} {σ : j3_S} {x1 : Int} {x2 : Int} : j3_tc false (d + 1) 118 [wO 7 96, wI x1, wI x2] σ Q = T118 d Q 0 [wO 7 96, wI x1, wI x2, wM 2, wM 2] [] σ := j3_entry ⟨Nat.le_of_ble_eq_true rfl, rfl⟩
set_option maxRecDepth 100000 in
theorem b118_0 {d : Nat} {Q : j3_P} {σ : j3_S} {x1 : Int} {x2 : Int} :
  T118 d Q 0 [wO 7 96, wI x1, wI x2, wM 2, wM 2] [] σ = (if x1 = (7 : Int) then T118 d Q 10 [wO 7 96, wI x1, wI x2, wM 2, wM 2] [wI (wr (x2 + 2))] σ else T118 d Q 10 [wO 7 96, wI x1, wI x2, wM 2, wM 2] [wI (wr (x2 + 1))] σ) := j3_T.go d [0, 10, 34, 36, 37, 49, 58] 400
set_option maxRecDepth 100000 in
theorem b118_10 {d : Nat} {Q : j3_P} {σ : j3_S} {x1 : Int} {x2 : Int} {xs0 : Int} :
  T118 d Q 10 [wO 7 96, wI x1, wI x2, wM 2, wM 2] [wI xs0] σ = (if x1 = (8 : Int) then T118 d Q 34 [wO 7 96, wI x1, wI x2, wI xs0, wM 2] [] σ else (if x1 = (7 : Int) then ((0 ≤ x2 ∧ x2 < 120) ∧ ((0 ≤ (wr (x2 + 1)) ∧ (wr (x2 + 1)) < 120) ∧ (if (σ.2.2 7003 96 x2) < (σ.2.2 7003 96 (wr (x2 + 1))) then T118 d Q 34 [wO 7 96, wI x1, wI x2, wI xs0, wM 2] [] σ else T118 d Q 36 [wO 7 96, wI x1, wI x2, wI xs0, wM 2] [] σ))) else ((0 ≤ x2 ∧ x2 < 120) ∧ (if (σ.2.2 7003 96 x2) = 0 then T118 d Q 34 [wO 7 96, wI x1, wI x2, wI xs0, wM 2] [] σ else T118 d Q 36 [wO 7 96, wI x1, wI x2, wI xs0, wM 2] [] σ)))) := j3_T.go d [0, 10, 34, 36, 37, 49, 58] 400
set_option maxRecDepth 100000 in
theorem b118_34 {d : Nat} {Q : j3_P} {σ : j3_S} {x1 : Int} {x2 : Int} {x3 : Int} :
  T118 d Q 34 [wO 7 96, wI x1, wI x2, wI x3, wM 2] [] σ = T118 d Q 37 [wO 7 96, wI x1, wI x2, wI x3, wM 2] [wI 1] σ := j3_T.go d [0, 10, 34, 36, 37, 49, 58] 400
set_option maxRecDepth 100000 in
theorem b118_36 {d : Nat} {Q : j3_P} {σ : j3_S} {x1 : Int} {x2 : Int} {x3 : Int} :
  T118 d Q 36 [wO 7 96, wI x1, wI x2, wI x3, wM 2] [] σ = T118 d Q 37 [wO 7 96, wI x1, wI x2, wI x3, wM 2] [wI 0] σ := j3_T.go d [0, 10, 34, 36, 37, 49, 58] 400
set_option maxRecDepth 100000 in
theorem b118_37 {d : Nat} {Q : j3_P} {σ : j3_S} {x1 : Int} {x2 : Int} {x3 : Int} {xs0 : Int} :
  T118 d Q 37 [wO 7 96, wI x1, wI x2, wI x3, wM 2] [wI xs0] σ = (if xs0 = 0 then j3_tc false d 120 [wO 7 96, wI x2, wI (wr ((wr (x3 - x2)) + 1))] σ (fun r σ1 => T118 d Q 58 [wO 7 96, wI x1, wI x2, wI x3, wI xs0] (r.toList ++ []) σ1) else ((0 ≤ x3 ∧ x3 < 120) ∧ j3_tc false d 119 [wO 7 96, wI x2, wI 11, wI (σ.2.2 7003 96 x3), wI x3] σ (fun r σ1 => T118 d Q 49 [wO 7 96, wI x1, wI x2, wI x3, wI xs0] (r.toList ++ []) σ1))) := j3_T.go d [0, 10, 34, 36, 37, 49, 58] 400
set_option maxRecDepth 100000 in
theorem b118_49 {d : Nat} {Q : j3_P} {σ : j3_S} {x1 : Int} {x2 : Int} {x3 : Int} {x4 : Int} :
  T118 d Q 49 [wO 7 96, wI x1, wI x2, wI x3, wI x4] [] σ = T118 d Q 58 [wO 7 96, wI x1, wI x2, wI x3, wI x4] [] σ := j3_T.go d [0, 10, 34, 36, 37, 49, 58] 400
set_option maxRecDepth 100000 in
theorem b118_58 {d : Nat} {Q : j3_P} {σ : j3_S} {x1 : Int} {x2 : Int} {x3 : Int} {x4 : Int} :
  T118 d Q 58 [wO 7 96, wI x1, wI x2, wI x3, wI x4] [] σ = Q none σ := j3_T.go d [0, 10, 34, 36, 37, 49, 58] 400
def T119 (d : Nat) (Q : j3_P) : j3_K := j3_T false (j3_tc false d) jc_X7_become none Q
theorem e119 {d : Nat} {Q : j3_P} {σ : j3_S} {x1 : Int} {x2 : Int} {x3 : Int} {x4 : Int} : j3_tc false (d + 1) 119 [wO 7 96, wI x1, wI x2, wI x3, wI x4] σ Q = T119 d Q 0 [wO 7 96, wI x1, wI x2, wI x3, wI x4] [] σ := j3_entry ⟨Nat.le_of_ble_eq_true rfl, rfl⟩
set_option maxRecDepth 100000 in
theorem b119_0 {d : Nat} {Q : j3_P} {σ : j3_S} {x1 : Int} {x2 : Int} {x3 : Int} {x4 : Int} :
  T119 d Q 0 [wO 7 96, wI x1, wI x2, wI x3, wI x4] [] σ = ((0 ≤ x1 ∧ x1 < 120) ∧ ((0 ≤ x1 ∧ x1 < 120) ∧ ((0 ≤ x1 ∧ x1 < 120) ∧ ((0 ≤ x4 ∧ x4 < 120) ∧ ((0 ≤ x1 ∧ x1 < 120) ∧ ((0 ≤ x4 ∧ x4 < 120) ∧ ((0 ≤ x1 ∧ x1 < 120) ∧ j3_tc false d 120 [wO 7 96, wI (wr (x1 + 1)), wI (wr (x4 - x1))] (σ.1, σ.2.1, (j3_ast (j3_ast (j3_ast (j3_ast (j3_ast σ.2.2 7002 96 x1 x2) 7003 96 x1 x3) 7004 96 x1 0) 7005 96 x1 (σ.2.2 7005 96 x4)) 7006 96 x1 (σ.2.2 7006 96 x4))) (fun r σ1 => T119 d Q 39 [wO 7 96, wI x1, wI x2, wI x3, wI x4] (r.toList ++ []) σ1)))))))) := j3_T.go d [0, 39] 400
set_option maxRecDepth 100000 in
theorem b119_39 {d : Nat} {Q : j3_P} {σ : j3_S} {x1 : Int} {x2 : Int} {x3 : Int} {x4 : Int} :
  T119 d Q 39 [wO 7 96, wI x1, wI x2, wI x3, wI x4] [] σ = Q none σ := j3_T.go d [0, 39] 400
def T120 (d : Nat) (Q : j3_P) : j3_K := j3_T false (j3_tc false d) jc_X7_cut none Q
theorem e120 {d : Nat} {Q : j3_P} {σ : j3_S} {x1 : Int} {x2 : Int} : j3_tc false (d + 1) 120 [wO 7 96, wI x1, wI x2] σ Q = T120 d Q 0 [wO 7 96, wI x1, wI x2, wM 2, wM 2] [] σ := j3_entry ⟨Nat.le_of_ble_eq_true rfl, rfl⟩
set_option maxRecDepth 100000 in
theorem b120_0 {d : Nat} {Q : j3_P} {σ : j3_S} {x1 : Int} {x2 : Int} :
  T120 d Q 0 [wO 7 96, wI x1, wI x2, wM 2, wM 2] [] σ = (if 0 < x2 then (if x1 < 0 then Q none σ else (if (σ.1 7000 96) < (wr (x1 + x2)) then Q none σ else ((0 ≤ (wr (x1 + x2)) ∧ 0 ≤ x1 ∧ 0 ≤ (wr ((wr ((σ.1 7000 96) - x1)) - x2)) ∧ (wr (x1 + x2)) + (wr ((wr ((σ.1 7000 96) - x1)) - x2)) ≤ 120 ∧ x1 + (wr ((wr ((σ.1 7000 96) - x1)) - x2)) ≤ 120) ∧ ((0 ≤ (wr (x1 + x2)) ∧ 0 ≤ x1 ∧ 0 ≤ (wr ((wr ((σ.1 7000 96) - x1)) - x2)) ∧ (wr (x1 + x2)) + (wr ((wr ((σ.1 7000 96) - x1)) - x2)) ≤ 120 ∧ x1 + (wr ((wr ((σ.1 7000 96) - x1)) - x2)) ≤ 120) ∧ ((0 ≤ (wr (x1 + x2)) ∧ 0 ≤ x1 ∧ 0 ≤ (wr ((wr ((σ.1 7000 96) - x1)) - x2)) ∧ (wr (x1 + x2)) + (wr ((wr ((σ.1 7000 96) - x1)) - x2)) ≤ 120 ∧ x1 + (wr ((wr ((σ.1 7000 96) - x1)) - x2)) ≤ 120) ∧ ((0 ≤ (wr (x1 + x2)) ∧ 0 ≤ x1 ∧ 0 ≤ (wr ((wr ((σ.1 7000 96) - x1)) - x2)) ∧ (wr (x1 + x2)) + (wr ((wr ((σ.1 7000 96) - x1)) - x2)) ≤ 120 ∧ x1 + (wr ((wr ((σ.1 7000 96) - x1)) - x2)) ≤ 120) ∧ ((0 ≤ (wr (x1 + x2)) ∧ 0 ≤ x1 ∧ 0 ≤ (wr ((wr ((σ.1 7000 96) - x1)) - x2)) ∧ (wr (x1 + x2)) + (wr ((wr ((σ.1 7000 96) - x1)) - x2)) ≤ 120 ∧ x1 + (wr ((wr ((σ.1 7000 96) - x1)) - x2)) ≤ 120) ∧ T120 d Q 76 [wO 7 96, wI x1, wI x2, wI (wr ((wr ((σ.1 7000 96) - x1)) - x2)), wI 0] [] ((j3_up σ.1 7000 96 (wr ((σ.1 7000 96) - x2))), σ.2.1, (j3_acp (j3_acp (j3_acp (j3_acp (j3_acp σ.2.2 7002 96 7002 96 (wr (x1 + x2)) x1 (wr ((wr ((σ.1 7000 96) - x1)) - x2))) 7003 96 7003 96 (wr (x1 + x2)) x1 (wr ((wr ((σ.1 7000 96) - x1)) - x2))) 7004 96 7004 96 (wr (x1 + x2)) x1 (wr ((wr ((σ.1 7000 96) - x1)) - x2))) 7005 96 7005 96 (wr (x1 + x2)) x1 (wr ((wr ((σ.1 7000 96) - x1)) - x2))) 7006 96 7006 96 (wr (x1 + x2)) x1 (wr ((wr ((σ.1 7000 96) - x1)) - x2))))))))))) else Q none σ) := j3_T.go d [0, 76, 85, 104] 400
set_option maxRecDepth 100000 in
theorem b120_76 {d : Nat} {Q : j3_P} {σ : j3_S} {x1 : Int} {x2 : Int} {x3 : Int} {x4 : Int} :
  T120 d Q 76 [wO 7 96, wI x1, wI x2, wI x3, wI x4] [] σ = (if x4 < (σ.1 7000 96) then ((0 ≤ x4 ∧ x4 < 120) ∧ j3_tc false d 151 [wI (σ.2.2 7002 96 x4)] σ (fun r σ1 => T120 d Q 85 [wO 7 96, wI x1, wI x2, wI x3, wI x4] (r.toList ++ []) σ1)) else Q none σ) := j3_T.go d [0, 76, 85, 104] 400
set_option maxRecDepth 100000 in
theorem b120_85 {d : Nat} {Q : j3_P} {σ : j3_S} {x1 : Int} {x2 : Int} {x3 : Int} {x4 : Int} {xs0 : Int} :
  T120 d Q 85 [wO 7 96, wI x1, wI x2, wI x3, wI x4] [wI xs0] σ = (if xs0 = 0 then T120 d Q 104 [wO 7 96, wI x1, wI x2, wI x3, wI x4] [] σ else ((0 ≤ x4 ∧ x4 < 120) ∧ (if x1 < (σ.2.2 7003 96 x4) then ((0 ≤ x4 ∧ x4 < 120) ∧ ((0 ≤ x4 ∧ x4 < 120) ∧ T120 d Q 104 [wO 7 96, wI x1, wI x2, wI x3, wI x4] [] (σ.1, σ.2.1, (j3_ast σ.2.2 7003 96 x4 (if x1 < (wr ((σ.2.2 7003 96 x4) - x2)) then (wr ((σ.2.2 7003 96 x4) - x2)) else x1))))) else T120 d Q 104 [wO 7 96, wI x1, wI x2, wI x3, wI x4] [] σ))) := j3_T.go d [0, 76, 85, 104] 400
set_option maxRecDepth 100000 in
theorem b120_104 {d : Nat} {Q : j3_P} {σ : j3_S} {x1 : Int} {x2 : Int} {x3 : Int} {x4 : Int} :
  T120 d Q 104 [wO 7 96, wI x1, wI x2, wI x3, wI x4] [] σ = T120 d Q 76 [wO 7 96, wI x1, wI x2, wI x3, wI (wr (x4 + 1))] [] σ := j3_T.go d [0, 76, 85, 104] 400
def T122 (d : Nat) (Q : j3_P) : j3_K := j3_T false (j3_tc false d) jc_X8_write none Q
theorem e122 {d : Nat} {Q : j3_P} {σ : j3_S} {o1 : Nat} : j3_tc false (d + 1) 122 [wO 8 90, wO 3 o1] σ Q = T122 d Q 0 [wO 8 90, wO 3 o1, wM 2] [] σ := j3_entry ⟨Nat.le_of_ble_eq_true rfl, rfl⟩
set_option maxRecDepth 100000 in
theorem b122_0 {d : Nat} {Q : j3_P} {σ : j3_S} {o1 : Nat} :
  T122 d Q 0 [wO 8 90, wO 3 o1, wM 2] [] σ = j3_tc false d 123 [wO 8 90, wI 83] ((j3_up σ.1 8001 90 0), σ.2.1, σ.2.2) (fun r σ1 => T122 d Q 6 [wO 8 90, wO 3 o1, wM 2] (r.toList ++ []) σ1) := j3_T.go d [0, 6, 9, 13, 15, 23] 400
set_option maxRecDepth 100000 in
theorem b122_6 {d : Nat} {Q : j3_P} {σ : j3_S} {o1 : Nat} :
  T122 d Q 6 [wO 8 90, wO 3 o1, wM 2] [] σ = j3_tc false d 123 [wO 8 90, wI 72] σ (fun r σ1 => T122 d Q 9 [wO 8 90, wO 3 o1, wM 2] (r.toList ++ []) σ1) := j3_T.go d [0, 6, 9, 13, 15, 23] 400
set_option maxRecDepth 100000 in
theorem b122_9 {d : Nat} {Q : j3_P} {σ : j3_S} {o1 : Nat} :
  T122 d Q 9 [wO 8 90, wO 3 o1, wM 2] [] σ = j3_tc false d 123 [wO 8 90, wI (σ.1 3000 o1)] σ (fun r σ1 => T122 d Q 13 [wO 8 90, wO 3 o1, wM 2] (r.toList ++ []) σ1) := j3_T.go d [0, 6, 9, 13, 15, 23] 400
set_option maxRecDepth 100000 in
theorem b122_13 {d : Nat} {Q : j3_P} {σ : j3_S} {o1 : Nat} :
  T122 d Q 13 [wO 8 90, wO 3 o1, wM 2] [] σ = T122 d Q 15 [wO 8 90, wO 3 o1, wI 0] [] σ := j3_T.go d [0, 6, 9, 13, 15, 23] 400
set_option maxRecDepth 100000 in
theorem b122_15 {d : Nat} {Q : j3_P} {σ : j3_S} {o1 : Nat} {x2 : Int} :
  T122 d Q 15 [wO 8 90, wO 3 o1, wI x2] [] σ = (if x2 < (σ.1 3000 o1) then j3_tc false d 124 [wO 8 90, wO 3 o1, wI x2] σ (fun r σ1 => T122 d Q 23 [wO 8 90, wO 3 o1, wI x2] (r.toList ++ []) σ1) else Q none σ) := j3_T.go d [0, 6, 9, 13, 15, 23] 400
set_option maxRecDepth 100000 in
theorem b122_23 {d : Nat} {Q : j3_P} {σ : j3_S} {o1 : Nat} {x2 : Int} :
  T122 d Q 23 [wO 8 90, wO 3 o1, wI x2] [] σ = T122 d Q 15 [wO 8 90, wO 3 o1, wI (wr (x2 + 1))] [] σ := j3_T.go d [0, 6, 9, 13, 15, 23] 400
def T123 (d : Nat) (Q : j3_P) : j3_K := j3_T false (j3_tc false d) jc_X8_put none Q
theorem e123 {d : Nat} {Q : j3_P} {σ : j3_S} {x1 : Int} : j3_tc false (d + 1) 123 [wO 8 90, wI x1] σ Q = T123 d Q 0 [wO 8 90, wI x1] [] σ := j3_entry ⟨Nat.le_of_ble_eq_true rfl, rfl⟩
set_option maxRecDepth 100000 in
theorem b123_0 {d : Nat} {Q : j3_P} {σ : j3_S} {x1 : Int} :
  T123 d Q 0 [wO 8 90, wI x1] [] σ = (if (σ.1 8001 90) < (48943 : Int) then ((-128 ≤ (i_tb x1) ∧ (i_tb x1) < 128) ∧ (0 ≤ (σ.1 8001 90) ∧ (σ.1 8001 90) < 48943) ∧ Q none ((j3_up σ.1 8001 90 (wr ((σ.1 8001 90) + 1))), σ.2.1, (j3_ast σ.2.2 8000 90 (σ.1 8001 90) (i_tb x1)))) else Q none σ) := j3_T.go d [0] 400
def T124 (d : Nat) (Q : j3_P) : j3_K := j3_T false (j3_tc false d) jc_X8_writeClass none Q
theorem e124 {d : Nat} {Q : j3_P} {σ : j3_S} {o1 : Nat} {x2 : Int} : j3_tc false (d + 1) 124 [wO 8 90, wO 3 o1, wI x2] σ Q = T124 d Q 0 [wO 8 90, wO 3 o1, wI x2, wM 2] [] σ := j3_entry ⟨Nat.le_of_ble_eq_true rfl, rfl⟩
set_option maxRecDepth 100000 in
theorem b124_0 {d : Nat} {Q : j3_P} {σ : j3_S} {o1 : Nat} {x2 : Int} :
  T124 d Q 0 [wO 8 90, wO 3 o1, wI x2, wM 2] [] σ = ((0 ≤ x2 ∧ x2 < 10) ∧ j3_tc false d 123 [wO 8 90, wI (σ.2.2 3002 o1 x2)] σ (fun r σ1 => T124 d Q 6 [wO 8 90, wO 3 o1, wI x2, wM 2] (r.toList ++ []) σ1)) := j3_T.go d [0, 6, 14, 20, 22, 38, 48, 58, 66, 68, 83] 400
set_option maxRecDepth 100000 in
theorem b124_6 {d : Nat} {Q : j3_P} {σ : j3_S} {o1 : Nat} {x2 : Int} :
  T124 d Q 6 [wO 8 90, wO 3 o1, wI x2, wM 2] [] σ = ((0 ≤ x2 ∧ x2 < 10) ∧ j3_tc false d 123 [wO 8 90, wI (wr ((σ.2.2 3003 o1 x2) + 1))] σ (fun r σ1 => T124 d Q 14 [wO 8 90, wO 3 o1, wI x2, wM 2] (r.toList ++ []) σ1)) := j3_T.go d [0, 6, 14, 20, 22, 38, 48, 58, 66, 68, 83] 400
set_option maxRecDepth 100000 in
theorem b124_14 {d : Nat} {Q : j3_P} {σ : j3_S} {o1 : Nat} {x2 : Int} :
  T124 d Q 14 [wO 8 90, wO 3 o1, wI x2, wM 2] [] σ = ((0 ≤ x2 ∧ x2 < 10) ∧ j3_tc false d 123 [wO 8 90, wI (σ.2.2 3005 o1 x2)] σ (fun r σ1 => T124 d Q 20 [wO 8 90, wO 3 o1, wI x2, wM 2] (r.toList ++ []) σ1)) := j3_T.go d [0, 6, 14, 20, 22, 38, 48, 58, 66, 68, 83] 400
set_option maxRecDepth 100000 in
theorem b124_20 {d : Nat} {Q : j3_P} {σ : j3_S} {o1 : Nat} {x2 : Int} :
  T124 d Q 20 [wO 8 90, wO 3 o1, wI x2, wM 2] [] σ = T124 d Q 22 [wO 8 90, wO 3 o1, wI x2, wI 0] [] σ := j3_T.go d [0, 6, 14, 20, 22, 38, 48, 58, 66, 68, 83] 400
set_option maxRecDepth 100000 in
theorem b124_22 {d : Nat} {Q : j3_P} {σ : j3_S} {o1 : Nat} {x2 : Int} {x3 : Int} :
  T124 d Q 22 [wO 8 90, wO 3 o1, wI x2, wI x3] [] σ = ((0 ≤ x2 ∧ x2 < 10) ∧ (if x3 < (σ.2.2 3005 o1 x2) then ((0 ≤ (wr ((wr (x2 * 6)) + x3)) ∧ (wr ((wr (x2 * 6)) + x3)) < 60) ∧ j3_tc false d 123 [wO 8 90, wI (σ.2.2 3008 o1 (wr ((wr (x2 * 6)) + x3)))] σ (fun r σ1 => T124 d Q 38 [wO 8 90, wO 3 o1, wI x2, wI x3] (r.toList ++ []) σ1)) else ((0 ≤ x2 ∧ x2 < 10) ∧ j3_tc false d 123 [wO 8 90, wI (σ.2.2 3006 o1 x2)] σ (fun r σ1 => T124 d Q 66 [wO 8 90, wO 3 o1, wI x2, wI x3] (r.toList ++ []) σ1)))) := j3_T.go d [0, 6, 14, 20, 22, 38, 48, 58, 66, 68, 83] 400
set_option maxRecDepth 100000 in
theorem b124_38 {d : Nat} {Q : j3_P} {σ : j3_S} {o1 : Nat} {x2 : Int} {x3 : Int} :
  T124 d Q 38 [wO 8 90, wO 3 o1, wI x2, wI x3] [] σ = ((0 ≤ (wr ((wr (x2 * 6)) + x3)) ∧ (wr ((wr (x2 * 6)) + x3)) < 60) ∧ j3_tc false d 123 [wO 8 90, wI (σ.2.2 3009 o1 (wr ((wr (x2 * 6)) + x3)))] σ (fun r σ1 => T124 d Q 48 [wO 8 90, wO 3 o1, wI x2, wI x3] (r.toList ++ []) σ1)) := j3_T.go d [0, 6, 14, 20, 22, 38, 48, 58, 66, 68, 83] 400
set_option maxRecDepth 100000 in
theorem b124_48 {d : Nat} {Q : j3_P} {σ : j3_S} {o1 : Nat} {x2 : Int} {x3 : Int} :
  T124 d Q 48 [wO 8 90, wO 3 o1, wI x2, wI x3] [] σ = ((0 ≤ (wr ((wr (x2 * 6)) + x3)) ∧ (wr ((wr (x2 * 6)) + x3)) < 60) ∧ j3_tc false d 123 [wO 8 90, wI (σ.2.2 3010 o1 (wr ((wr (x2 * 6)) + x3)))] σ (fun r σ1 => T124 d Q 58 [wO 8 90, wO 3 o1, wI x2, wI x3] (r.toList ++ []) σ1)) := j3_T.go d [0, 6, 14, 20, 22, 38, 48, 58, 66, 68, 83] 400
set_option maxRecDepth 100000 in
theorem b124_58 {d : Nat} {Q : j3_P} {σ : j3_S} {o1 : Nat} {x2 : Int} {x3 : Int} :
  T124 d Q 58 [wO 8 90, wO 3 o1, wI x2, wI x3] [] σ = T124 d Q 22 [wO 8 90, wO 3 o1, wI x2, wI (wr (x3 + 1))] [] σ := j3_T.go d [0, 6, 14, 20, 22, 38, 48, 58, 66, 68, 83] 400
set_option maxRecDepth 100000 in
theorem b124_66 {d : Nat} {Q : j3_P} {σ : j3_S} {o1 : Nat} {x2 : Int} {x3 : Int} :
  T124 d Q 66 [wO 8 90, wO 3 o1, wI x2, wI x3] [] σ = T124 d Q 68 [wO 8 90, wO 3 o1, wI x2, wI 0] [] σ := j3_T.go d [0, 6, 14, 20, 22, 38, 48, 58, 66, 68, 83] 400
set_option maxRecDepth 100000 in
theorem b124_68 {d : Nat} {Q : j3_P} {σ : j3_S} {o1 : Nat} {x2 : Int} {x3 : Int} :
  T124 d Q 68 [wO 8 90, wO 3 o1, wI x2, wI x3] [] σ = ((0 ≤ x2 ∧ x2 < 10) ∧ (if x3 < (σ.2.2 3006 o1 x2) then ((0 ≤ x2 ∧ x2 < 10) ∧ j3_tc false d 125 [wO 8 90, wO 3 o1, wI (wr ((σ.2.2 3007 o1 x2) + x3))] σ (fun r σ1 => T124 d Q 83 [wO 8 90, wO 3 o1, wI x2, wI x3] (r.toList ++ []) σ1)) else Q none σ)) := j3_T.go d [0, 6, 14, 20, 22, 38, 48, 58, 66, 68, 83] 400
set_option maxRecDepth 100000 in
theorem b124_83 {d : Nat} {Q : j3_P} {σ : j3_S} {o1 : Nat} {x2 : Int} {x3 : Int} :
  T124 d Q 83 [wO 8 90, wO 3 o1, wI x2, wI x3] [] σ = T124 d Q 68 [wO 8 90, wO 3 o1, wI x2, wI (wr (x3 + 1))] [] σ := j3_T.go d [0, 6, 14, 20, 22, 38, 48, 58, 66, 68, 83] 400
def T125 (d : Nat) (Q : j3_P) : j3_K := j3_T false (j3_tc false d) jc_X8_writeMethod none Q
theorem e125 {d : Nat} {Q : j3_P} {σ : j3_S} {o1 : Nat} {x2 : Int} : j3_tc false (d + 1) 125 [wO 8 90, wO 3 o1, wI x2] σ Q = T125 d Q 0 [wO 8 90, wO 3 o1, wI x2, wM 2, wM 2] [] σ := j3_entry ⟨Nat.le_of_ble_eq_true rfl, rfl⟩
set_option maxRecDepth 100000 in
theorem b125_0 {d : Nat} {Q : j3_P} {σ : j3_S} {o1 : Nat} {x2 : Int} :
  T125 d Q 0 [wO 8 90, wO 3 o1, wI x2, wM 2, wM 2] [] σ = ((0 ≤ x2 ∧ x2 < 80) ∧ j3_tc false d 123 [wO 8 90, wI (σ.2.2 3012 o1 x2)] σ (fun r σ1 => T125 d Q 6 [wO 8 90, wO 3 o1, wI x2, wM 2, wM 2] (r.toList ++ []) σ1)) := j3_T.go d [0, 6, 12, 18, 24, 26, 42, 50, 57, 63, 89] 400
set_option maxRecDepth 100000 in
theorem b125_6 {d : Nat} {Q : j3_P} {σ : j3_S} {o1 : Nat} {x2 : Int} :
  T125 d Q 6 [wO 8 90, wO 3 o1, wI x2, wM 2, wM 2] [] σ = ((0 ≤ x2 ∧ x2 < 80) ∧ j3_tc false d 123 [wO 8 90, wI (σ.2.2 3013 o1 x2)] σ (fun r σ1 => T125 d Q 12 [wO 8 90, wO 3 o1, wI x2, wM 2, wM 2] (r.toList ++ []) σ1)) := j3_T.go d [0, 6, 12, 18, 24, 26, 42, 50, 57, 63, 89] 400
set_option maxRecDepth 100000 in
theorem b125_12 {d : Nat} {Q : j3_P} {σ : j3_S} {o1 : Nat} {x2 : Int} :
  T125 d Q 12 [wO 8 90, wO 3 o1, wI x2, wM 2, wM 2] [] σ = ((0 ≤ x2 ∧ x2 < 80) ∧ j3_tc false d 123 [wO 8 90, wI (σ.2.2 3014 o1 x2)] σ (fun r σ1 => T125 d Q 18 [wO 8 90, wO 3 o1, wI x2, wM 2, wM 2] (r.toList ++ []) σ1)) := j3_T.go d [0, 6, 12, 18, 24, 26, 42, 50, 57, 63, 89] 400
set_option maxRecDepth 100000 in
theorem b125_18 {d : Nat} {Q : j3_P} {σ : j3_S} {o1 : Nat} {x2 : Int} :
  T125 d Q 18 [wO 8 90, wO 3 o1, wI x2, wM 2, wM 2] [] σ = ((0 ≤ x2 ∧ x2 < 80) ∧ j3_tc false d 123 [wO 8 90, wI (σ.2.2 3015 o1 x2)] σ (fun r σ1 => T125 d Q 24 [wO 8 90, wO 3 o1, wI x2, wM 2, wM 2] (r.toList ++ []) σ1)) := j3_T.go d [0, 6, 12, 18, 24, 26, 42, 50, 57, 63, 89] 400
set_option maxRecDepth 100000 in
theorem b125_24 {d : Nat} {Q : j3_P} {σ : j3_S} {o1 : Nat} {x2 : Int} :
  T125 d Q 24 [wO 8 90, wO 3 o1, wI x2, wM 2, wM 2] [] σ = T125 d Q 26 [wO 8 90, wO 3 o1, wI x2, wI 0, wM 2] [] σ := j3_T.go d [0, 6, 12, 18, 24, 26, 42, 50, 57, 63, 89] 400
set_option maxRecDepth 100000 in
theorem b125_26 {d : Nat} {Q : j3_P} {σ : j3_S} {o1 : Nat} {x2 : Int} {x3 : Int} :
  T125 d Q 26 [wO 8 90, wO 3 o1, wI x2, wI x3, wM 2] [] σ = ((0 ≤ x2 ∧ x2 < 80) ∧ (if x3 < (σ.2.2 3015 o1 x2) then ((0 ≤ (wr ((wr (x2 * 3)) + x3)) ∧ (wr ((wr (x2 * 3)) + x3)) < 240) ∧ j3_tc false d 123 [wO 8 90, wI (σ.2.2 3016 o1 (wr ((wr (x2 * 3)) + x3)))] σ (fun r σ1 => T125 d Q 42 [wO 8 90, wO 3 o1, wI x2, wI x3, wM 2] (r.toList ++ []) σ1)) else ((0 ≤ x2 ∧ x2 < 80) ∧ j3_tc false d 123 [wO 8 90, wI (σ.2.2 3017 o1 x2)] σ (fun r σ1 => T125 d Q 50 [wO 8 90, wO 3 o1, wI x2, wI x3, wM 2] (r.toList ++ []) σ1)))) := j3_T.go d [0, 6, 12, 18, 24, 26, 42, 50, 57, 63, 89] 400
set_option maxRecDepth 100000 in
theorem b125_42 {d : Nat} {Q : j3_P} {σ : j3_S} {o1 : Nat} {x2 : Int} {x3 : Int} :
  T125 d Q 42 [wO 8 90, wO 3 o1, wI x2, wI x3, wM 2] [] σ = T125 d Q 26 [wO 8 90, wO 3 o1, wI x2, wI (wr (x3 + 1)), wM 2] [] σ := j3_T.go d [0, 6, 12, 18, 24, 26, 42, 50, 57, 63, 89] 400
set_option maxRecDepth 100000 in
theorem b125_50 {d : Nat} {Q : j3_P} {σ : j3_S} {o1 : Nat} {x2 : Int} {x3 : Int} :
  T125 d Q 50 [wO 8 90, wO 3 o1, wI x2, wI x3, wM 2] [] σ = ((0 ≤ x2 ∧ x2 < 80) ∧ j3_tc false d 123 [wO 8 90, wI (σ.2.2 0 (o1 + 17) x2)] σ (fun r σ1 => T125 d Q 57 [wO 8 90, wO 3 o1, wI x2, wI x3, wM 2] (r.toList ++ []) σ1)) := j3_T.go d [0, 6, 12, 18, 24, 26, 42, 50, 57, 63, 89] 400
set_option maxRecDepth 100000 in
theorem b125_57 {d : Nat} {Q : j3_P} {σ : j3_S} {o1 : Nat} {x2 : Int} {x3 : Int} :
  T125 d Q 57 [wO 8 90, wO 3 o1, wI x2, wI x3, wM 2] [] σ = T125 d Q 63 [wO 8 90, wO 3 o1, wI x2, wI (wr (x2 * 120)), wI (wr (x2 * 120))] [] σ := j3_T.go d [0, 6, 12, 18, 24, 26, 42, 50, 57, 63, 89] 400
set_option maxRecDepth 100000 in
theorem b125_63 {d : Nat} {Q : j3_P} {σ : j3_S} {o1 : Nat} {x2 : Int} {x3 : Int} {x4 : Int} :
  T125 d Q 63 [wO 8 90, wO 3 o1, wI x2, wI x3, wI x4] [] σ = ((0 ≤ x2 ∧ x2 < 80) ∧ (if x4 < (wr (x3 + (σ.2.2 0 (o1 + 17) x2))) then ((0 ≤ x4 ∧ x4 < 9600) ∧ ((0 ≤ x4 ∧ x4 < 9600) ∧ ((0 ≤ x4 ∧ x4 < 9600) ∧ j3_tc false d 126 [wO 8 90, wI (σ.2.2 1 (o1 + 17) x4), wI (σ.2.2 2 (o1 + 17) x4), wI (σ.2.2 3 (o1 + 17) x4)] σ (fun r σ1 => T125 d Q 89 [wO 8 90, wO 3 o1, wI x2, wI x3, wI x4] (r.toList ++ []) σ1)))) else Q none σ)) := j3_T.go d [0, 6, 12, 18, 24, 26, 42, 50, 57, 63, 89] 400
set_option maxRecDepth 100000 in
theorem b125_89 {d : Nat} {Q : j3_P} {σ : j3_S} {o1 : Nat} {x2 : Int} {x3 : Int} {x4 : Int} :
  T125 d Q 89 [wO 8 90, wO 3 o1, wI x2, wI x3, wI x4] [] σ = T125 d Q 63 [wO 8 90, wO 3 o1, wI x2, wI x3, wI (wr (x4 + 1))] [] σ := j3_T.go d [0, 6, 12, 18, 24, 26, 42, 50, 57, 63, 89] 400
def T126 (d : Nat) (Q : j3_P) : j3_K := j3_T false (j3_tc false d) jc_X8_writeInstruction none Q
theorem e126 {d : Nat} {Q : j3_P} {σ : j3_S} {x1 : Int} {x2 : Int} {x3 : Int} : j3_tc false (d + 1) 126 [wO 8 90, wI x1, wI x2, wI x3] σ Q = T126 d Q 0 [wO 8 90, wI x1, wI x2, wI x3, wM 2] [] σ := j3_entry ⟨Nat.le_of_ble_eq_true rfl, rfl⟩
set_option maxRecDepth 100000 in
theorem b126_0 {d : Nat} {Q : j3_P} {σ : j3_S} {x1 : Int} {x2 : Int} {x3 : Int} :
  T126 d Q 0 [wO 8 90, wI x1, wI x2, wI x3, wM 2] [] σ = j3_tc false d 123 [wO 8 90, wI x1] σ (fun r σ1 => T126 d Q 3 [wO 8 90, wI x1, wI x2, wI x3, wM 2] (r.toList ++ []) σ1) := j3_T.go d [0, 3, 15, 20, 25, 30, 36, 39] 400
set_option maxRecDepth 100000 in
theorem b126_3 {d : Nat} {Q : j3_P} {σ : j3_S} {x1 : Int} {x2 : Int} {x3 : Int} :
  T126 d Q 3 [wO 8 90, wI x1, wI x2, wI x3, wM 2] [] σ = ((0 ≤ x1 ∧ x1 < 27) ∧ (if (i_tls x1) = (1 : Int) then j3_tc false d 123 [wO 8 90, wI (i_sr x2 24)] σ (fun r σ1 => T126 d Q 15 [wO 8 90, wI x1, wI x2, wI x3, wI (i_tls x1)] (r.toList ++ []) σ1) else T126 d Q 25 [wO 8 90, wI x1, wI x2, wI x3, wI (i_tls x1)] [] σ)) := j3_T.go d [0, 3, 15, 20, 25, 30, 36, 39] 400
set_option maxRecDepth 100000 in
theorem b126_15 {d : Nat} {Q : j3_P} {σ : j3_S} {x1 : Int} {x2 : Int} {x3 : Int} {x4 : Int} :
  T126 d Q 15 [wO 8 90, wI x1, wI x2, wI x3, wI x4] [] σ = j3_tc false d 123 [wO 8 90, wI (i_sr x2 16)] σ (fun r σ1 => T126 d Q 20 [wO 8 90, wI x1, wI x2, wI x3, wI x4] (r.toList ++ []) σ1) := j3_T.go d [0, 3, 15, 20, 25, 30, 36, 39] 400
set_option maxRecDepth 100000 in
theorem b126_20 {d : Nat} {Q : j3_P} {σ : j3_S} {x1 : Int} {x2 : Int} {x3 : Int} {x4 : Int} :
  T126 d Q 20 [wO 8 90, wI x1, wI x2, wI x3, wI x4] [] σ = j3_tc false d 123 [wO 8 90, wI (i_sr x2 8)] σ (fun r σ1 => T126 d Q 25 [wO 8 90, wI x1, wI x2, wI x3, wI x4] (r.toList ++ []) σ1) := j3_T.go d [0, 3, 15, 20, 25, 30, 36, 39] 400
set_option maxRecDepth 100000 in
theorem b126_25 {d : Nat} {Q : j3_P} {σ : j3_S} {x1 : Int} {x2 : Int} {x3 : Int} {x4 : Int} :
  T126 d Q 25 [wO 8 90, wI x1, wI x2, wI x3, wI x4] [] σ = (if x4 = 0 then T126 d Q 30 [wO 8 90, wI x1, wI x2, wI x3, wI x4] [] σ else j3_tc false d 123 [wO 8 90, wI x2] σ (fun r σ1 => T126 d Q 30 [wO 8 90, wI x1, wI x2, wI x3, wI x4] (r.toList ++ []) σ1)) := j3_T.go d [0, 3, 15, 20, 25, 30, 36, 39] 400
set_option maxRecDepth 100000 in
theorem b126_30 {d : Nat} {Q : j3_P} {σ : j3_S} {x1 : Int} {x2 : Int} {x3 : Int} {x4 : Int} :
  T126 d Q 30 [wO 8 90, wI x1, wI x2, wI x3, wI x4] [] σ = (if x4 = (5 : Int) then T126 d Q 36 [wO 8 90, wI x1, wI x2, wI x3, wI x4] [] σ else (if x4 = (6 : Int) then T126 d Q 36 [wO 8 90, wI x1, wI x2, wI x3, wI x4] [] σ else T126 d Q 39 [wO 8 90, wI x1, wI x2, wI x3, wI x4] [] σ)) := j3_T.go d [0, 3, 15, 20, 25, 30, 36, 39] 400
set_option maxRecDepth 100000 in
theorem b126_36 {d : Nat} {Q : j3_P} {σ : j3_S} {x1 : Int} {x2 : Int} {x3 : Int} {x4 : Int} :
  T126 d Q 36 [wO 8 90, wI x1, wI x2, wI x3, wI x4] [] σ = j3_tc false d 123 [wO 8 90, wI x3] σ (fun r σ1 => T126 d Q 39 [wO 8 90, wI x1, wI x2, wI x3, wI x4] (r.toList ++ []) σ1) := j3_T.go d [0, 3, 15, 20, 25, 30, 36, 39] 400
set_option maxRecDepth 100000 in
theorem b126_39 {d : Nat} {Q : j3_P} {σ : j3_S} {x1 : Int} {x2 : Int} {x3 : Int} {x4 : Int} :
  T126 d Q 39 [wO 8 90, wI x1, wI x2, wI x3, wI x4] [] σ = Q none σ := j3_T.go d [0, 3, 15, 20, 25, 30, 36, 39] 400
