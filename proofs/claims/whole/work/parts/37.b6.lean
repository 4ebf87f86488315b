def T215 (d : Nat) (Q : j3_P) : j3_K := j3_T true (j3_tc true d) jc_X10_keep none Q
theorem e215 {d : Nat} {Q : j3_P} {σ : j3_S}  : j3_tc true (d + 1) 215 [wO 10 121] σ Q = T215 d Q 0 [wO 10 121, wM 2, wM 2, wM 2, wM 2] [] σ := j3_entry ⟨Nat.le_of_ble_eq_true rfl, rfl⟩
set_option maxRecDepth 100000 in
theorem b215_0 {d : Nat} {Q : j3_P} {σ : j3_S}  :
  T215 d Q 0 [wO 10 121, wM 2, wM 2, wM 2, wM 2] [] σ = T215 d Q 2 [wO 10 121, wI 0, wM 2, wM 2, wM 2] [] σ := j3_T.go d [0, 2, 14, 26, 41, 55, 59, 67, 84, 96, 102, 123, 142, 144, 148, 156, 174, 184, 190, 208, 216, 218, 234, 236] 400
set_option maxRecDepth 100000 in
theorem b215_2 {d : Nat} {Q : j3_P} {σ : j3_S} {x1 : Int} :
  T215 d Q 2 [wO 10 121, wI x1, wM 2, wM 2, wM 2] [] σ = (if x1 < (10 : Int) then (((0 : Int) = 0 ∨ (0 : Int) = 1) ∧ (0 ≤ x1 ∧ x1 < 10) ∧ T215 d Q 2 [wO 10 121, wI (wr (x1 + 1)), wM 2, wM 2, wM 2] [] (σ.1, σ.2.1, (j3_ast σ.2.2 10072 121 x1 0))) else T215 d Q 14 [wO 10 121, wI 0, wM 2, wM 2, wM 2] [] σ) := j3_T.go d [0, 2, 14, 26, 41, 55, 59, 67, 84, 96, 102, 123, 142, 144, 148, 156, 174, 184, 190, 208, 216, 218, 234, 236] 400
set_option maxRecDepth 100000 in
theorem b215_14 {d : Nat} {Q : j3_P} {σ : j3_S} {x1 : Int} :
  T215 d Q 14 [wO 10 121, wI x1, wM 2, wM 2, wM 2] [] σ = (if x1 < (60 : Int) then (((0 : Int) = 0 ∨ (0 : Int) = 1) ∧ (0 ≤ x1 ∧ x1 < 60) ∧ T215 d Q 14 [wO 10 121, wI (wr (x1 + 1)), wM 2, wM 2, wM 2] [] (σ.1, σ.2.1, (j3_ast σ.2.2 10073 121 x1 0))) else T215 d Q 26 [wO 10 121, wI 0, wM 2, wM 2, wM 2] [] σ) := j3_T.go d [0, 2, 14, 26, 41, 55, 59, 67, 84, 96, 102, 123, 142, 144, 148, 156, 174, 184, 190, 208, 216, 218, 234, 236] 400
set_option maxRecDepth 100000 in
theorem b215_26 {d : Nat} {Q : j3_P} {σ : j3_S} {x1 : Int} :
  T215 d Q 26 [wO 10 121, wI x1, wM 2, wM 2, wM 2] [] σ = (if x1 < (80 : Int) then ((0 ≤ x1 ∧ x1 < 80) ∧ (((σ.2.2 10049 121 x1) = 0 ∨ (σ.2.2 10049 121 x1) = 1) ∧ (0 ≤ x1 ∧ x1 < 80) ∧ T215 d Q 26 [wO 10 121, wI (wr (x1 + 1)), wM 2, wM 2, wM 2] [] (σ.1, σ.2.1, (j3_ast σ.2.2 10074 121 x1 (σ.2.2 10049 121 x1))))) else T215 d Q 41 [wO 10 121, wI 0, wM 2, wM 2, wM 2] [] σ) := j3_T.go d [0, 2, 14, 26, 41, 55, 59, 67, 84, 96, 102, 123, 142, 144, 148, 156, 174, 184, 190, 208, 216, 218, 234, 236] 400
set_option maxRecDepth 100000 in
theorem b215_41 {d : Nat} {Q : j3_P} {σ : j3_S} {x1 : Int} :
  T215 d Q 41 [wO 10 121, wI x1, wM 2, wM 2, wM 2] [] σ = ((0 ≤ (0 : Int) ∧ (0 : Int) < 3) ∧ (if x1 < (σ.2.2 10009 121 0) then ((0 ≤ x1 ∧ x1 < 10) ∧ (if (σ.2.2 10050 121 x1) = 0 then T215 d Q 55 [wO 10 121, wI x1, wM 2, wM 2, wM 2] [] σ else j3_tc true d 213 [wO 10 121, wI x1] σ (fun r σ1 => T215 d Q 55 [wO 10 121, wI x1, wM 2, wM 2, wM 2] (r.toList ++ []) σ1))) else T215 d Q 59 [wO 10 121, wI 0, wM 2, wM 2, wM 2] [] σ)) := j3_T.go d [0, 2, 14, 26, 41, 55, 59, 67, 84, 96, 102, 123, 142, 144, 148, 156, 174, 184, 190, 208, 216, 218, 234, 236] 400
set_option maxRecDepth 100000 in
theorem b215_55 {d : Nat} {Q : j3_P} {σ : j3_S} {x1 : Int} :
  T215 d Q 55 [wO 10 121, wI x1, wM 2, wM 2, wM 2] [] σ = T215 d Q 41 [wO 10 121, wI (wr (x1 + 1)), wM 2, wM 2, wM 2] [] σ := j3_T.go d [0, 2, 14, 26, 41, 55, 59, 67, 84, 96, 102, 123, 142, 144, 148, 156, 174, 184, 190, 208, 216, 218, 234, 236] 400
set_option maxRecDepth 100000 in
theorem b215_59 {d : Nat} {Q : j3_P} {σ : j3_S} {x1 : Int} {w2 : j3_W} {w3 : j3_W} {w4 : j3_W} :
  T215 d Q 59 [wO 10 121, wI x1, w2, w3, w4] [] σ = ((0 ≤ (0 : Int) ∧ (0 : Int) < 3) ∧ (if x1 < (σ.2.2 10018 121 0) then T215 d Q 67 [wO 10 121, wI x1, wI 0, w3, w4] [] σ else T215 d Q 148 [wO 10 121, wI 0, w2, w3, w4] [] σ)) := j3_T.go d [0, 2, 14, 26, 41, 55, 59, 67, 84, 96, 102, 123, 142, 144, 148, 156, 174, 184, 190, 208, 216, 218, 234, 236] 400
set_option maxRecDepth 100000 in
theorem b215_67 {d : Nat} {Q : j3_P} {σ : j3_S} {x1 : Int} {x2 : Int} {w3 : j3_W} {w4 : j3_W} :
  T215 d Q 67 [wO 10 121, wI x1, wI x2, w3, w4] [] σ = ((0 ≤ x1 ∧ x1 < 80) ∧ (if (σ.2.2 10049 121 x1) = 0 then T215 d Q 144 [wO 10 121, wI x1, wI x2, w3, w4] [] σ else ((0 ≤ (wr (160 + x1)) ∧ (wr (160 + x1)) < 240) ∧ (if x2 < (σ.2.2 10026 121 (wr (160 + x1))) then j3_tc true d 160 [wI 2, wI x1, wI x2] σ (fun r σ1 => T215 d Q 84 [wO 10 121, wI x1, wI x2, w3, w4] (r.toList ++ []) σ1) else T215 d Q 144 [wO 10 121, wI x1, wI x2, w3, w4] [] σ)))) := j3_T.go d [0, 2, 14, 26, 41, 55, 59, 67, 84, 96, 102, 123, 142, 144, 148, 156, 174, 184, 190, 208, 216, 218, 234, 236] 400
set_option maxRecDepth 100000 in
theorem b215_84 {d : Nat} {Q : j3_P} {σ : j3_S} {x1 : Int} {x2 : Int} {w3 : j3_W} {w4 : j3_W} {xs0 : Int} :
  T215 d Q 84 [wO 10 121, wI x1, wI x2, w3, w4] [wI xs0] σ = ((0 ≤ xs0 ∧ xs0 < 28800) ∧ (if (σ.2.2 10027 121 xs0) = (24 : Int) then T215 d Q 96 [wO 10 121, wI x1, wI x2, wI xs0, wI (σ.2.2 10027 121 xs0)] [] σ else (if (σ.2.2 10027 121 xs0) = (25 : Int) then T215 d Q 96 [wO 10 121, wI x1, wI x2, wI xs0, wI (σ.2.2 10027 121 xs0)] [] σ else T215 d Q 102 [wO 10 121, wI x1, wI x2, wI xs0, wI (σ.2.2 10027 121 xs0)] [] σ))) := j3_T.go d [0, 2, 14, 26, 41, 55, 59, 67, 84, 96, 102, 123, 142, 144, 148, 156, 174, 184, 190, 208, 216, 218, 234, 236] 400
set_option maxRecDepth 100000 in
theorem b215_96 {d : Nat} {Q : j3_P} {σ : j3_S} {x1 : Int} {x2 : Int} {x3 : Int} {x4 : Int} :
  T215 d Q 96 [wO 10 121, wI x1, wI x2, wI x3, wI x4] [] σ = ((0 ≤ x3 ∧ x3 < 28800) ∧ j3_tc true d 213 [wO 10 121, wI (σ.2.2 10028 121 x3)] σ (fun r σ1 => T215 d Q 102 [wO 10 121, wI x1, wI x2, wI x3, wI x4] (r.toList ++ []) σ1)) := j3_T.go d [0, 2, 14, 26, 41, 55, 59, 67, 84, 96, 102, 123, 142, 144, 148, 156, 174, 184, 190, 208, 216, 218, 234, 236] 400
set_option maxRecDepth 100000 in
theorem b215_102 {d : Nat} {Q : j3_P} {σ : j3_S} {x1 : Int} {x2 : Int} {x3 : Int} {x4 : Int} :
  T215 d Q 102 [wO 10 121, wI x1, wI x2, wI x3, wI x4] [] σ = (if x4 < (16 : Int) then T215 d Q 123 [wO 10 121, wI x1, wI x2, wI x3, wI x4] [] σ else (if (19 : Int) < x4 then T215 d Q 123 [wO 10 121, wI x1, wI x2, wI x3, wI x4] [] σ else ((0 ≤ x3 ∧ x3 < 28800) ∧ ((0 ≤ x3 ∧ x3 < 28800) ∧ (((1 : Int) = 0 ∨ (1 : Int) = 1) ∧ (0 ≤ (wr ((wr (6 * (σ.2.2 10028 121 x3))) + (σ.2.2 10029 121 x3))) ∧ (wr ((wr (6 * (σ.2.2 10028 121 x3))) + (σ.2.2 10029 121 x3))) < 60) ∧ T215 d Q 123 [wO 10 121, wI x1, wI x2, wI x3, wI x4] [] (σ.1, σ.2.1, (j3_ast σ.2.2 10073 121 (wr ((wr (6 * (σ.2.2 10028 121 x3))) + (σ.2.2 10029 121 x3))) 1))))))) := j3_T.go d [0, 2, 14, 26, 41, 55, 59, 67, 84, 96, 102, 123, 142, 144, 148, 156, 174, 184, 190, 208, 216, 218, 234, 236] 400
set_option maxRecDepth 100000 in
theorem b215_123 {d : Nat} {Q : j3_P} {σ : j3_S} {x1 : Int} {x2 : Int} {x3 : Int} {x4 : Int} :
  T215 d Q 123 [wO 10 121, wI x1, wI x2, wI x3, wI x4] [] σ = (if x4 = (21 : Int) then ((0 ≤ x3 ∧ x3 < 28800) ∧ ((0 ≤ (σ.2.2 10028 121 x3) ∧ (σ.2.2 10028 121 x3) < 30) ∧ ((0 ≤ x3 ∧ x3 < 28800) ∧ (((1 : Int) = 0 ∨ (1 : Int) = 1) ∧ (0 ≤ (wr ((σ.2.2 10013 121 (σ.2.2 10028 121 x3)) + (σ.2.2 10029 121 x3))) ∧ (wr ((σ.2.2 10013 121 (σ.2.2 10028 121 x3)) + (σ.2.2 10029 121 x3))) < 80) ∧ T215 d Q 142 [wO 10 121, wI x1, wI x2, wI x3, wI x4] [] (σ.1, σ.2.1, (j3_ast σ.2.2 10074 121 (wr ((σ.2.2 10013 121 (σ.2.2 10028 121 x3)) + (σ.2.2 10029 121 x3))) 1)))))) else T215 d Q 142 [wO 10 121, wI x1, wI x2, wI x3, wI x4] [] σ) := j3_T.go d [0, 2, 14, 26, 41, 55, 59, 67, 84, 96, 102, 123, 142, 144, 148, 156, 174, 184, 190, 208, 216, 218, 234, 236] 400
set_option maxRecDepth 100000 in
theorem b215_142 {d : Nat} {Q : j3_P} {σ : j3_S} {x1 : Int} {x2 : Int} {x3 : Int} {x4 : Int} :
  T215 d Q 142 [wO 10 121, wI x1, wI x2, wI x3, wI x4] [] σ = T215 d Q 67 [wO 10 121, wI x1, wI (wr (x2 + 1)), wI x3, wI x4] [] σ := j3_T.go d [0, 2, 14, 26, 41, 55, 59, 67, 84, 96, 102, 123, 142, 144, 148, 156, 174, 184, 190, 208, 216, 218, 234, 236] 400
set_option maxRecDepth 100000 in
theorem b215_144 {d : Nat} {Q : j3_P} {σ : j3_S} {x1 : Int} {x2 : Int} {w3 : j3_W} {w4 : j3_W} :
  T215 d Q 144 [wO 10 121, wI x1, wI x2, w3, w4] [] σ = T215 d Q 59 [wO 10 121, wI (wr (x1 + 1)), wI x2, w3, w4] [] σ := j3_T.go d [0, 2, 14, 26, 41, 55, 59, 67, 84, 96, 102, 123, 142, 144, 148, 156, 174, 184, 190, 208, 216, 218, 234, 236] 400
set_option maxRecDepth 100000 in
theorem b215_148 {d : Nat} {Q : j3_P} {σ : j3_S} {x1 : Int} {w2 : j3_W} {w3 : j3_W} {w4 : j3_W} :
  T215 d Q 148 [wO 10 121, wI x1, w2, w3, w4] [] σ = ((0 ≤ (0 : Int) ∧ (0 : Int) < 3) ∧ (if x1 < (σ.2.2 10009 121 0) then T215 d Q 156 [wO 10 121, wI x1, wI 0, w3, w4] [] σ else T215 d Q 190 [wO 10 121, wI 0, w2, w3, w4] [] σ)) := j3_T.go d [0, 2, 14, 26, 41, 55, 59, 67, 84, 96, 102, 123, 142, 144, 148, 156, 174, 184, 190, 208, 216, 218, 234, 236] 400
set_option maxRecDepth 100000 in
theorem b215_156 {d : Nat} {Q : j3_P} {σ : j3_S} {x1 : Int} {x2 : Int} {w3 : j3_W} {w4 : j3_W} :
  T215 d Q 156 [wO 10 121, wI x1, wI x2, w3, w4] [] σ = ((0 ≤ x1 ∧ x1 < 30) ∧ (if x2 < (σ.2.2 10012 121 x1) then ((0 ≤ (wr ((wr (6 * x1)) + x2)) ∧ (wr ((wr (6 * x1)) + x2)) < 60) ∧ (if (σ.2.2 10073 121 (wr ((wr (6 * x1)) + x2))) = 0 then T215 d Q 184 [wO 10 121, wI x1, wI x2, w3, w4] [] σ else j3_tc true d 213 [wO 10 121, wI x1] σ (fun r σ1 => T215 d Q 174 [wO 10 121, wI x1, wI x2, w3, w4] (r.toList ++ []) σ1))) else T215 d Q 148 [wO 10 121, wI (wr (x1 + 1)), wI x2, w3, w4] [] σ)) := j3_T.go d [0, 2, 14, 26, 41, 55, 59, 67, 84, 96, 102, 123, 142, 144, 148, 156, 174, 184, 190, 208, 216, 218, 234, 236] 400
set_option maxRecDepth 100000 in
theorem b215_174 {d : Nat} {Q : j3_P} {σ : j3_S} {x1 : Int} {x2 : Int} {w3 : j3_W} {w4 : j3_W} :
  T215 d Q 174 [wO 10 121, wI x1, wI x2, w3, w4] [] σ = ((0 ≤ (wr ((wr (6 * x1)) + x2)) ∧ (wr ((wr (6 * x1)) + x2)) < 180) ∧ j3_tc true d 214 [wO 10 121, wI (σ.2.2 10016 121 (wr ((wr (6 * x1)) + x2)))] σ (fun r σ1 => T215 d Q 184 [wO 10 121, wI x1, wI x2, w3, w4] (r.toList ++ []) σ1)) := j3_T.go d [0, 2, 14, 26, 41, 55, 59, 67, 84, 96, 102, 123, 142, 144, 148, 156, 174, 184, 190, 208, 216, 218, 234, 236] 400
set_option maxRecDepth 100000 in
theorem b215_184 {d : Nat} {Q : j3_P} {σ : j3_S} {x1 : Int} {x2 : Int} {w3 : j3_W} {w4 : j3_W} :
  T215 d Q 184 [wO 10 121, wI x1, wI x2, w3, w4] [] σ = T215 d Q 156 [wO 10 121, wI x1, wI (wr (x2 + 1)), w3, w4] [] σ := j3_T.go d [0, 2, 14, 26, 41, 55, 59, 67, 84, 96, 102, 123, 142, 144, 148, 156, 174, 184, 190, 208, 216, 218, 234, 236] 400
set_option maxRecDepth 100000 in
theorem b215_190 {d : Nat} {Q : j3_P} {σ : j3_S} {x1 : Int} {w2 : j3_W} {w3 : j3_W} {w4 : j3_W} :
  T215 d Q 190 [wO 10 121, wI x1, w2, w3, w4] [] σ = ((0 ≤ (0 : Int) ∧ (0 : Int) < 3) ∧ (if x1 < (σ.2.2 10018 121 0) then ((0 ≤ x1 ∧ x1 < 80) ∧ (if (σ.2.2 10074 121 x1) = 0 then T215 d Q 236 [wO 10 121, wI x1, w2, w3, w4] [] σ else ((0 ≤ x1 ∧ x1 < 240) ∧ j3_tc true d 213 [wO 10 121, wI (σ.2.2 10019 121 x1)] σ (fun r σ1 => T215 d Q 208 [wO 10 121, wI x1, w2, w3, w4] (r.toList ++ []) σ1)))) else Q none σ)) := j3_T.go d [0, 2, 14, 26, 41, 55, 59, 67, 84, 96, 102, 123, 142, 144, 148, 156, 174, 184, 190, 208, 216, 218, 234, 236] 400
set_option maxRecDepth 100000 in
theorem b215_208 {d : Nat} {Q : j3_P} {σ : j3_S} {x1 : Int} {w2 : j3_W} {w3 : j3_W} {w4 : j3_W} :
  T215 d Q 208 [wO 10 121, wI x1, w2, w3, w4] [] σ = ((0 ≤ x1 ∧ x1 < 240) ∧ j3_tc true d 214 [wO 10 121, wI (wr ((σ.2.2 10022 121 x1) - 1))] σ (fun r σ1 => T215 d Q 216 [wO 10 121, wI x1, w2, w3, w4] (r.toList ++ []) σ1)) := j3_T.go d [0, 2, 14, 26, 41, 55, 59, 67, 84, 96, 102, 123, 142, 144, 148, 156, 174, 184, 190, 208, 216, 218, 234, 236] 400
set_option maxRecDepth 100000 in
theorem b215_216 {d : Nat} {Q : j3_P} {σ : j3_S} {x1 : Int} {w2 : j3_W} {w3 : j3_W} {w4 : j3_W} :
  T215 d Q 216 [wO 10 121, wI x1, w2, w3, w4] [] σ = T215 d Q 218 [wO 10 121, wI x1, wI 0, w3, w4] [] σ := j3_T.go d [0, 2, 14, 26, 41, 55, 59, 67, 84, 96, 102, 123, 142, 144, 148, 156, 174, 184, 190, 208, 216, 218, 234, 236] 400
set_option maxRecDepth 100000 in
theorem b215_218 {d : Nat} {Q : j3_P} {σ : j3_S} {x1 : Int} {x2 : Int} {w3 : j3_W} {w4 : j3_W} :
  T215 d Q 218 [wO 10 121, wI x1, wI x2, w3, w4] [] σ = ((0 ≤ x1 ∧ x1 < 240) ∧ (if x2 < (σ.2.2 10023 121 x1) then ((0 ≤ (wr ((wr (3 * x1)) + x2)) ∧ (wr ((wr (3 * x1)) + x2)) < 720) ∧ j3_tc true d 214 [wO 10 121, wI (σ.2.2 10024 121 (wr ((wr (3 * x1)) + x2)))] σ (fun r σ1 => T215 d Q 234 [wO 10 121, wI x1, wI x2, w3, w4] (r.toList ++ []) σ1)) else T215 d Q 236 [wO 10 121, wI x1, wI x2, w3, w4] [] σ)) := j3_T.go d [0, 2, 14, 26, 41, 55, 59, 67, 84, 96, 102, 123, 142, 144, 148, 156, 174, 184, 190, 208, 216, 218, 234, 236] 400
set_option maxRecDepth 100000 in
theorem b215_234 {d : Nat} {Q : j3_P} {σ : j3_S} {x1 : Int} {x2 : Int} {w3 : j3_W} {w4 : j3_W} :
  T215 d Q 234 [wO 10 121, wI x1, wI x2, w3, w4] [] σ = T215 d Q 218 [wO 10 121, wI x1, wI (wr (x2 + 1)), w3, w4] [] σ := j3_T.go d [0, 2, 14, 26, 41, 55, 59, 67, 84, 96, 102, 123, 142, 144, 148, 156, 174, 184, 190, 208, 216, 218, 234, 236] 400
set_option maxRecDepth 100000 in
theorem b215_236 {d : Nat} {Q : j3_P} {σ : j3_S} {x1 : Int} {w2 : j3_W} {w3 : j3_W} {w4 : j3_W} :
  T215 d Q 236 [wO 10 121, wI x1, w2, w3, w4] [] σ = T215 d Q 190 [wO 10 121, wI (wr (x1 + 1)), w2, w3, w4] [] σ := j3_T.go d [0, 2, 14, 26, 41, 55, 59, 67, 84, 96, 102, 123, 142, 144, 148, 156, 174, 184, 190, 208, 216, 218, 234, 236] 400
def T216 (d : Nat) (Q : j3_P) : j3_K := j3_T true (j3_tc true d) jc_X10_typeNow (some .int) Q
theorem e216 {d : Nat} {Q : j3_P} {σ : j3_S} {x1 : Int} : j3_tc true (d + 1) 216 [wO 10 121, wI x1] σ Q = T216 d Q 0 [wO 10 121, wI x1] [] σ := j3_entry ⟨Nat.le_of_ble_eq_true rfl, rfl⟩
set_option maxRecDepth 100000 in
theorem b216_0 {d : Nat} {Q : j3_P} {σ : j3_S} {x1 : Int} :
  T216 d Q 0 [wO 10 121, wI x1] [] σ = (if x1 = 0 then Q (some (wI 0)) σ else ((0 ≤ (wr (x1 - 1)) ∧ (wr (x1 - 1)) < 10) ∧ Q (some (wI (wr (1 + (σ.2.2 10069 121 (wr (x1 - 1))))))) σ)) := j3_T.go d [0] 400
def T217 (d : Nat) (Q : j3_P) : j3_K := j3_T true (j3_tc true d) jc_X10_number none Q
theorem e217 {d : Nat} {Q : j3_P} {σ : j3_S}  : j3_tc true (d + 1) 217 [wO 10 121] σ Q = T217 d Q 0 [wO 10 121, wM 2, wM 2, wM 2, wM 2, wM 2, wM 2] [] σ := j3_entry ⟨Nat.le_of_ble_eq_true rfl, rfl⟩
set_option maxRecDepth 100000 in
theorem b217_0 {d : Nat} {Q : j3_P} {σ : j3_S}  :
  T217 d Q 0 [wO 10 121, wM 2, wM 2, wM 2, wM 2, wM 2, wM 2] [] σ = ((0 ≤ (1 : Int) ∧ (1 : Int) < 3) ∧ ((0 ≤ (1 : Int) ∧ (1 : Int) < 3) ∧ T217 d Q 12 [wO 10 121, wI 0, wM 2, wM 2, wM 2, wM 2, wM 2] [] (σ.1, σ.2.1, (j3_ast (j3_ast σ.2.2 10009 121 1 0) 10018 121 1 0)))) := j3_T.go d [0, 12, 32, 46, 52, 71, 96, 138, 152, 156, 180, 196, 197, 232, 259] 400
set_option maxRecDepth 100000 in
theorem b217_12 {d : Nat} {Q : j3_P} {σ : j3_S} {x1 : Int} :
  T217 d Q 12 [wO 10 121, wI x1, wM 2, wM 2, wM 2, wM 2, wM 2] [] σ = ((0 ≤ (0 : Int) ∧ (0 : Int) < 3) ∧ (if x1 < (σ.2.2 10009 121 0) then ((0 ≤ x1 ∧ x1 < 10) ∧ (if (σ.2.2 10072 121 x1) = 0 then T217 d Q 32 [wO 10 121, wI x1, wM 2, wM 2, wM 2, wM 2, wM 2] [wI (-1), wI x1, wA 10069 121] σ else ((0 ≤ (1 : Int) ∧ (1 : Int) < 3) ∧ T217 d Q 32 [wO 10 121, wI x1, wM 2, wM 2, wM 2, wM 2, wM 2] [wI (σ.2.2 10009 121 1), wI x1, wA 10069 121] σ))) else T217 d Q 52 [wO 10 121, wI 0, wM 2, wM 2, wM 2, wM 2, wM 2] [] σ)) := j3_T.go d [0, 12, 32, 46, 52, 71, 96, 138, 152, 156, 180, 196, 197, 232, 259] 400
set_option maxRecDepth 100000 in
theorem b217_32 {d : Nat} {Q : j3_P} {σ : j3_S} {x1 : Int} {xs0 : Int} {xs1 : Int} :
  T217 d Q 32 [wO 10 121, wI x1, wM 2, wM 2, wM 2, wM 2, wM 2] [wI xs0, wI xs1, wA 10069 121] σ = ((0 ≤ xs1 ∧ xs1 < 10) ∧ ((0 ≤ (1 : Int) ∧ (1 : Int) < 3) ∧ ((0 ≤ x1 ∧ x1 < 10) ∧ (if (σ.2.2 10072 121 x1) = 0 then T217 d Q 46 [wO 10 121, wI x1, wM 2, wM 2, wM 2, wM 2, wM 2] [wI 0, wI (σ.2.2 10009 121 1), wI 1, wA 10009 121] (σ.1, σ.2.1, (j3_ast σ.2.2 10069 121 xs1 xs0)) else T217 d Q 46 [wO 10 121, wI x1, wM 2, wM 2, wM 2, wM 2, wM 2] [wI 1, wI (σ.2.2 10009 121 1), wI 1, wA 10009 121] (σ.1, σ.2.1, (j3_ast σ.2.2 10069 121 xs1 xs0)))))) := j3_T.go d [0, 12, 32, 46, 52, 71, 96, 138, 152, 156, 180, 196, 197, 232, 259] 400
set_option maxRecDepth 100000 in
theorem b217_46 {d : Nat} {Q : j3_P} {σ : j3_S} {x1 : Int} {xs0 : Int} {xs1 : Int} {xs2 : Int} :
  T217 d Q 46 [wO 10 121, wI x1, wM 2, wM 2, wM 2, wM 2, wM 2] [wI xs0, wI xs1, wI xs2, wA 10009 121] σ = ((0 ≤ xs2 ∧ xs2 < 3) ∧ T217 d Q 12 [wO 10 121, wI (wr (x1 + 1)), wM 2, wM 2, wM 2, wM 2, wM 2] [] (σ.1, σ.2.1, (j3_ast σ.2.2 10009 121 xs2 (wr (xs1 + xs0))))) := j3_T.go d [0, 12, 32, 46, 52, 71, 96, 138, 152, 156, 180, 196, 197, 232, 259] 400
set_option maxRecDepth 100000 in
theorem b217_52 {d : Nat} {Q : j3_P} {σ : j3_S} {x1 : Int} {w2 : j3_W} {w3 : j3_W} {w4 : j3_W} {w5 : j3_W} {w6 : j3_W} :
  T217 d Q 52 [wO 10 121, wI x1, w2, w3, w4, w5, w6] [] σ = ((0 ≤ (0 : Int) ∧ (0 : Int) < 3) ∧ (if x1 < (σ.2.2 10009 121 0) then ((0 ≤ x1 ∧ x1 < 10) ∧ T217 d Q 71 [wO 10 121, wI x1, wI (wr (10 + (σ.2.2 10069 121 x1))), wI 0, wI 0, wI 0, w6] [] σ) else Q none σ)) := j3_T.go d [0, 12, 32, 46, 52, 71, 96, 138, 152, 156, 180, 196, 197, 232, 259] 400
set_option maxRecDepth 100000 in
theorem b217_71 {d : Nat} {Q : j3_P} {σ : j3_S} {x1 : Int} {x2 : Int} {x3 : Int} {x4 : Int} {x5 : Int} {w6 : j3_W} :
  T217 d Q 71 [wO 10 121, wI x1, wI x2, wI x3, wI x4, wI x5, w6] [] σ = ((0 ≤ x1 ∧ x1 < 30) ∧ (if x5 < (σ.2.2 10012 121 x1) then ((0 ≤ (wr ((wr (6 * x1)) + x5)) ∧ (wr ((wr (6 * x1)) + x5)) < 60) ∧ (if (σ.2.2 10073 121 (wr ((wr (6 * x1)) + x5))) = 0 then T217 d Q 96 [wO 10 121, wI x1, wI x2, wI x3, wI x4, wI x5, w6] [wI (-1), wI (wr ((wr (6 * x1)) + x5)), wA 10070 121] σ else T217 d Q 96 [wO 10 121, wI x1, wI x2, wI x3, wI x4, wI x5, w6] [wI x3, wI (wr ((wr (6 * x1)) + x5)), wA 10070 121] σ)) else T217 d Q 156 [wO 10 121, wI x1, wI x2, wI x3, wI x4, wI 0, w6] [] σ)) := j3_T.go d [0, 12, 32, 46, 52, 71, 96, 138, 152, 156, 180, 196, 197, 232, 259] 400
set_option maxRecDepth 100000 in
theorem b217_96 {d : Nat} {Q : j3_P} {σ : j3_S} {x1 : Int} {x2 : Int} {x3 : Int} {x4 : Int} {x5 : Int} {w6 : j3_W} {xs0 : Int} {xs1 : Int} :
  T217 d Q 96 [wO 10 121, wI x1, wI x2, wI x3, wI x4, wI x5, w6] [wI xs0, wI xs1, wA 10070 121] σ = ((0 ≤ xs1 ∧ xs1 < 60) ∧ ((0 ≤ (wr ((wr (6 * x1)) + x5)) ∧ (wr ((wr (6 * x1)) + x5)) < 60) ∧ (if (σ.2.2 10073 121 (wr ((wr (6 * x1)) + x5))) = 0 then T217 d Q 152 [wO 10 121, wI x1, wI x2, wI x3, wI x4, wI x5, w6] [] (σ.1, σ.2.1, (j3_ast σ.2.2 10070 121 xs1 xs0)) else ((0 ≤ x1 ∧ x1 < 10) ∧ ((0 ≤ (wr ((wr (60 + (wr (6 * (σ.2.2 10069 121 x1))))) + x3)) ∧ (wr ((wr (60 + (wr (6 * (σ.2.2 10069 121 x1))))) + x3)) < 180) ∧ ((0 ≤ (wr ((wr (6 * x1)) + x5)) ∧ (wr ((wr (6 * x1)) + x5)) < 180) ∧ j3_tc true d 216 [wO 10 121, wI (σ.2.2 10016 121 (wr ((wr (6 * x1)) + x5)))] (σ.1, σ.2.1, (j3_ast (j3_ast σ.2.2 10070 121 xs1 xs0) 10015 121 (wr ((wr (60 + (wr (6 * (σ.2.2 10069 121 x1))))) + x3)) (wr (x3 + 1)))) (fun r σ1 => T217 d Q 138 [wO 10 121, wI x1, wI x2, wI x3, wI x4, wI x5, wI (wr ((wr (60 + (wr (6 * (σ.2.2 10069 121 x1))))) + x3))] (r.toList ++ [wI (wr ((wr (60 + (wr (6 * (σ.2.2 10069 121 x1))))) + x3)), wA 10016 121]) σ1))))))) := j3_T.go d [0, 12, 32, 46, 52, 71, 96, 138, 152, 156, 180, 196, 197, 232, 259] 400
set_option maxRecDepth 100000 in
theorem b217_138 {d : Nat} {Q : j3_P} {σ : j3_S} {x1 : Int} {x2 : Int} {x3 : Int} {x4 : Int} {x5 : Int} {x6 : Int} {xs0 : Int} {xs1 : Int} :
  T217 d Q 138 [wO 10 121, wI x1, wI x2, wI x3, wI x4, wI x5, wI x6] [wI xs0, wI xs1, wA 10016 121] σ = ((0 ≤ xs1 ∧ xs1 < 180) ∧ ((0 ≤ (wr ((wr (6 * x1)) + x5)) ∧ (wr ((wr (6 * x1)) + x5)) < 180) ∧ ((0 ≤ x6 ∧ x6 < 180) ∧ T217 d Q 152 [wO 10 121, wI x1, wI x2, wI (wr (x3 + 1)), wI x4, wI x5, wI x6] [] (σ.1, σ.2.1, (j3_ast (j3_ast σ.2.2 10016 121 xs1 xs0) 10017 121 x6 (σ.2.2 10017 121 (wr ((wr (6 * x1)) + x5)))))))) := j3_T.go d [0, 12, 32, 46, 52, 71, 96, 138, 152, 156, 180, 196, 197, 232, 259] 400
set_option maxRecDepth 100000 in
theorem b217_152 {d : Nat} {Q : j3_P} {σ : j3_S} {x1 : Int} {x2 : Int} {x3 : Int} {x4 : Int} {x5 : Int} {w6 : j3_W} :
  T217 d Q 152 [wO 10 121, wI x1, wI x2, wI x3, wI x4, wI x5, w6] [] σ = T217 d Q 71 [wO 10 121, wI x1, wI x2, wI x3, wI x4, wI (wr (x5 + 1)), w6] [] σ := j3_T.go d [0, 12, 32, 46, 52, 71, 96, 138, 152, 156, 180, 196, 197, 232, 259] 400
set_option maxRecDepth 100000 in
theorem b217_156 {d : Nat} {Q : j3_P} {σ : j3_S} {x1 : Int} {x2 : Int} {x3 : Int} {x4 : Int} {x5 : Int} {w6 : j3_W} :
  T217 d Q 156 [wO 10 121, wI x1, wI x2, wI x3, wI x4, wI x5, w6] [] σ = ((0 ≤ x1 ∧ x1 < 30) ∧ (if x5 < (σ.2.2 10014 121 x1) then ((0 ≤ x1 ∧ x1 < 30) ∧ ((0 ≤ (wr ((σ.2.2 10013 121 x1) + x5)) ∧ (wr ((σ.2.2 10013 121 x1) + x5)) < 80) ∧ (if (σ.2.2 10074 121 (wr ((σ.2.2 10013 121 x1) + x5))) = 0 then T217 d Q 180 [wO 10 121, wI x1, wI x2, wI x3, wI x4, wI x5, wI (wr ((σ.2.2 10013 121 x1) + x5))] [wI (-1), wI (wr ((σ.2.2 10013 121 x1) + x5)), wA 10071 121] σ else T217 d Q 180 [wO 10 121, wI x1, wI x2, wI x3, wI x4, wI x5, wI (wr ((σ.2.2 10013 121 x1) + x5))] [wI x4, wI (wr ((σ.2.2 10013 121 x1) + x5)), wA 10071 121] σ))) else ((0 ≤ x1 ∧ x1 < 10) ∧ (if (σ.2.2 10072 121 x1) = 0 then T217 d Q 259 [wO 10 121, wI x1, wI x2, wI x3, wI x4, wI x5, w6] [] σ else ((0 ≤ x1 ∧ x1 < 10) ∧ ((0 ≤ x2 ∧ x2 < 30) ∧ ((0 ≤ x1 ∧ x1 < 30) ∧ (if (σ.2.2 10011 121 x1) < 0 then T217 d Q 232 [wO 10 121, wI x1, wI x2, wI x3, wI x4, wI x5, w6] [wI (-1), wI x2, wA 10011 121] (σ.1, σ.2.1, (j3_ast σ.2.2 10010 121 x2 (wr ((σ.2.2 10069 121 x1) + 1)))) else ((0 ≤ x1 ∧ x1 < 30) ∧ ((0 ≤ (σ.2.2 10011 121 x1) ∧ (σ.2.2 10011 121 x1) < 10) ∧ T217 d Q 232 [wO 10 121, wI x1, wI x2, wI x3, wI x4, wI x5, w6] [wI (σ.2.2 10069 121 (σ.2.2 10011 121 x1)), wI x2, wA 10011 121] (σ.1, σ.2.1, (j3_ast σ.2.2 10010 121 x2 (wr ((σ.2.2 10069 121 x1) + 1)))))))))))))) := j3_T.go d [0, 12, 32, 46, 52, 71, 96, 138, 152, 156, 180, 196, 197, 232, 259] 400
set_option maxRecDepth 100000 in
theorem b217_180 {d : Nat} {Q : j3_P} {σ : j3_S} {x1 : Int} {x2 : Int} {x3 : Int} {x4 : Int} {x5 : Int} {x6 : Int} {xs0 : Int} {xs1 : Int} :
  T217 d Q 180 [wO 10 121, wI x1, wI x2, wI x3, wI x4, wI x5, wI x6] [wI xs0, wI xs1, wA 10071 121] σ = ((0 ≤ xs1 ∧ xs1 < 80) ∧ ((0 ≤ x6 ∧ x6 < 80) ∧ (if (σ.2.2 10074 121 x6) = 0 then T217 d Q 197 [wO 10 121, wI x1, wI x2, wI x3, wI x4, wI x5, wI x6] [] (σ.1, σ.2.1, (j3_ast σ.2.2 10071 121 xs1 xs0)) else ((0 ≤ (1 : Int) ∧ (1 : Int) < 3) ∧ j3_tc true d 218 [wO 10 121, wI x6, wI (wr ((σ.2.2 10018 121 1) + x4))] (σ.1, σ.2.1, (j3_ast σ.2.2 10071 121 xs1 xs0)) (fun r σ1 => T217 d Q 196 [wO 10 121, wI x1, wI x2, wI x3, wI x4, wI x5, wI x6] (r.toList ++ []) σ1))))) := j3_T.go d [0, 12, 32, 46, 52, 71, 96, 138, 152, 156, 180, 196, 197, 232, 259] 400
set_option maxRecDepth 100000 in
theorem b217_196 {d : Nat} {Q : j3_P} {σ : j3_S} {x1 : Int} {x2 : Int} {x3 : Int} {x4 : Int} {x5 : Int} {x6 : Int} :
  T217 d Q 196 [wO 10 121, wI x1, wI x2, wI x3, wI x4, wI x5, wI x6] [] σ = T217 d Q 197 [wO 10 121, wI x1, wI x2, wI x3, wI (wr (x4 + 1)), wI x5, wI x6] [] σ := j3_T.go d [0, 12, 32, 46, 52, 71, 96, 138, 152, 156, 180, 196, 197, 232, 259] 400
set_option maxRecDepth 100000 in
theorem b217_197 {d : Nat} {Q : j3_P} {σ : j3_S} {x1 : Int} {x2 : Int} {x3 : Int} {x4 : Int} {x5 : Int} {x6 : Int} :
  T217 d Q 197 [wO 10 121, wI x1, wI x2, wI x3, wI x4, wI x5, wI x6] [] σ = T217 d Q 156 [wO 10 121, wI x1, wI x2, wI x3, wI x4, wI (wr (x5 + 1)), wI x6] [] σ := j3_T.go d [0, 12, 32, 46, 52, 71, 96, 138, 152, 156, 180, 196, 197, 232, 259] 400
set_option maxRecDepth 100000 in
theorem b217_232 {d : Nat} {Q : j3_P} {σ : j3_S} {x1 : Int} {x2 : Int} {x3 : Int} {x4 : Int} {x5 : Int} {w6 : j3_W} {xs0 : Int} {xs1 : Int} :
  T217 d Q 232 [wO 10 121, wI x1, wI x2, wI x3, wI x4, wI x5, w6] [wI xs0, wI xs1, wA 10011 121] σ = ((0 ≤ xs1 ∧ xs1 < 30) ∧ ((0 ≤ x2 ∧ x2 < 30) ∧ ((0 ≤ x2 ∧ x2 < 30) ∧ ((0 ≤ (1 : Int) ∧ (1 : Int) < 3) ∧ ((0 ≤ x2 ∧ x2 < 30) ∧ ((0 ≤ (1 : Int) ∧ (1 : Int) < 3) ∧ ((0 ≤ (1 : Int) ∧ (1 : Int) < 3) ∧ T217 d Q 259 [wO 10 121, wI x1, wI x2, wI x3, wI x4, wI x5, w6] [] (σ.1, σ.2.1, (j3_ast (j3_ast (j3_ast (j3_ast (j3_ast σ.2.2 10011 121 xs1 xs0) 10012 121 x2 x3) 10014 121 x2 x4) 10013 121 x2 (σ.2.2 10018 121 1)) 10018 121 1 (wr ((σ.2.2 10018 121 1) + x4))))))))))) := j3_T.go d [0, 12, 32, 46, 52, 71, 96, 138, 152, 156, 180, 196, 197, 232, 259] 400
set_option maxRecDepth 100000 in
theorem b217_259 {d : Nat} {Q : j3_P} {σ : j3_S} {x1 : Int} {x2 : Int} {x3 : Int} {x4 : Int} {x5 : Int} {w6 : j3_W} :
  T217 d Q 259 [wO 10 121, wI x1, wI x2, wI x3, wI x4, wI x5, w6] [] σ = T217 d Q 52 [wO 10 121, wI (wr (x1 + 1)), wI x2, wI x3, wI x4, wI x5, w6] [] σ := j3_T.go d [0, 12, 32, 46, 52, 71, 96, 138, 152, 156, 180, 196, 197, 232, 259] 400
def T218 (d : Nat) (Q : j3_P) : j3_K := j3_T true (j3_tc true d) jc_X10_numberMethod none Q
theorem e218 {d : Nat} {Q : j3_P} {σ : j3_S} {x1 : Int} {x2 : Int} : j3_tc true (d + 1) 218 [wO 10 121, wI x1, wI x2] σ Q = T218 d Q 0 [wO 10 121, wI x1, wI x2, wM 2, wM 2] [] σ := j3_entry ⟨Nat.le_of_ble_eq_true rfl, rfl⟩
set_option maxRecDepth 100000 in
theorem b218_0 {d : Nat} {Q : j3_P} {σ : j3_S} {x1 : Int} {x2 : Int} :
  T218 d Q 0 [wO 10 121, wI x1, wI x2, wM 2, wM 2] [] σ = ((0 ≤ x1 ∧ x1 < 240) ∧ ((0 ≤ (σ.2.2 10019 121 x1) ∧ (σ.2.2 10019 121 x1) < 10) ∧ ((0 ≤ (wr (80 + x2)) ∧ (wr (80 + x2)) < 240) ∧ ((0 ≤ x1 ∧ x1 < 240) ∧ ((0 ≤ (wr (80 + x2)) ∧ (wr (80 + x2)) < 240) ∧ ((0 ≤ x1 ∧ x1 < 240) ∧ (if (σ.2.2 10022 121 x1) < (2 : Int) then ((0 ≤ x1 ∧ x1 < 240) ∧ T218 d Q 48 [wO 10 121, wI x1, wI x2, wI (wr (80 + x2)), wM 2] [wI (σ.2.2 10022 121 x1), wI (wr (80 + x2)), wA 10022 121] (σ.1, σ.2.1, (j3_ast (j3_ast σ.2.2 10019 121 (wr (80 + x2)) (σ.2.2 10069 121 (σ.2.2 10019 121 x1))) 10021 121 (wr (80 + x2)) (σ.2.2 10021 121 x1)))) else ((0 ≤ x1 ∧ x1 < 240) ∧ ((0 ≤ (wr ((σ.2.2 10022 121 x1) - 2)) ∧ (wr ((σ.2.2 10022 121 x1) - 2)) < 10) ∧ T218 d Q 48 [wO 10 121, wI x1, wI x2, wI (wr (80 + x2)), wM 2] [wI (wr (2 + (σ.2.2 10069 121 (wr ((σ.2.2 10022 121 x1) - 2))))), wI (wr (80 + x2)), wA 10022 121] (σ.1, σ.2.1, (j3_ast (j3_ast σ.2.2 10019 121 (wr (80 + x2)) (σ.2.2 10069 121 (σ.2.2 10019 121 x1))) 10021 121 (wr (80 + x2)) (σ.2.2 10021 121 x1)))))))))))) := j3_T.go d [0, 48, 59, 82, 112, 123, 127, 128, 155] 400
set_option maxRecDepth 100000 in
theorem b218_48 {d : Nat} {Q : j3_P} {σ : j3_S} {x1 : Int} {x2 : Int} {x3 : Int} {xs0 : Int} {xs1 : Int} :
  T218 d Q 48 [wO 10 121, wI x1, wI x2, wI x3, wM 2] [wI xs0, wI xs1, wA 10022 121] σ = ((0 ≤ xs1 ∧ xs1 < 240) ∧ ((0 ≤ x1 ∧ x1 < 240) ∧ ((0 ≤ x3 ∧ x3 < 240) ∧ T218 d Q 59 [wO 10 121, wI x1, wI x2, wI x3, wI 0] [] (σ.1, σ.2.1, (j3_ast (j3_ast σ.2.2 10022 121 xs1 xs0) 10023 121 x3 (σ.2.2 10023 121 x1)))))) := j3_T.go d [0, 48, 59, 82, 112, 123, 127, 128, 155] 400
set_option maxRecDepth 100000 in
theorem b218_59 {d : Nat} {Q : j3_P} {σ : j3_S} {x1 : Int} {x2 : Int} {x3 : Int} {x4 : Int} :
  T218 d Q 59 [wO 10 121, wI x1, wI x2, wI x3, wI x4] [] σ = ((0 ≤ x1 ∧ x1 < 240) ∧ (if x4 < (σ.2.2 10023 121 x1) then ((0 ≤ (wr ((wr (3 * x1)) + x4)) ∧ (wr ((wr (3 * x1)) + x4)) < 720) ∧ j3_tc true d 216 [wO 10 121, wI (σ.2.2 10024 121 (wr ((wr (3 * x1)) + x4)))] σ (fun r σ1 => T218 d Q 82 [wO 10 121, wI x1, wI x2, wI x3, wI x4] (r.toList ++ [wI (wr ((wr (3 * x3)) + x4)), wA 10024 121]) σ1)) else ((0 ≤ x1 ∧ x1 < 80) ∧ (if (σ.2.2 10049 121 x1) = 0 then ((0 ≤ x1 ∧ x1 < 240) ∧ ((0 ≤ x1 ∧ x1 < 240) ∧ ((0 ≤ x3 ∧ x3 < 240) ∧ ((0 ≤ x3 ∧ x3 < 240) ∧ j3_tc true d 160 [wI 1, wI x2, wI 0] (σ.1, σ.2.1, (j3_ast (j3_ast σ.2.2 10025 121 x3 (wr ((wr ((σ.2.2 10023 121 x1) + 1)) - (σ.2.2 10021 121 x1)))) 10026 121 x3 1)) (fun r σ1 => T218 d Q 155 [wO 10 121, wI x1, wI x2, wI x3, wI x4] (r.toList ++ []) σ1))))) else ((0 ≤ (wr (160 + x1)) ∧ (wr (160 + x1)) < 240) ∧ ((0 ≤ x3 ∧ x3 < 240) ∧ ((0 ≤ (wr (160 + x1)) ∧ (wr (160 + x1)) < 240) ∧ ((0 ≤ x3 ∧ x3 < 240) ∧ T218 d Q 112 [wO 10 121, wI x1, wI x2, wI x3, wI 0] [] (σ.1, σ.2.1, (j3_ast (j3_ast σ.2.2 10025 121 x3 (σ.2.2 10025 121 (wr (160 + x1)))) 10026 121 x3 (σ.2.2 10026 121 (wr (160 + x1))))))))))))) := j3_T.go d [0, 48, 59, 82, 112, 123, 127, 128, 155] 400
set_option maxRecDepth 100000 in
theorem b218_82 {d : Nat} {Q : j3_P} {σ : j3_S} {x1 : Int} {x2 : Int} {x3 : Int} {x4 : Int} {xs0 : Int} {xs1 : Int} :
  T218 d Q 82 [wO 10 121, wI x1, wI x2, wI x3, wI x4] [wI xs0, wI xs1, wA 10024 121] σ = ((0 ≤ xs1 ∧ xs1 < 720) ∧ T218 d Q 59 [wO 10 121, wI x1, wI x2, wI x3, wI (wr (x4 + 1))] [] (σ.1, σ.2.1, (j3_ast σ.2.2 10024 121 xs1 xs0))) := j3_T.go d [0, 48, 59, 82, 112, 123, 127, 128, 155] 400
set_option maxRecDepth 100000 in
theorem b218_112 {d : Nat} {Q : j3_P} {σ : j3_S} {x1 : Int} {x2 : Int} {x3 : Int} {x4 : Int} :
  T218 d Q 112 [wO 10 121, wI x1, wI x2, wI x3, wI x4] [] σ = ((0 ≤ x3 ∧ x3 < 240) ∧ (if x4 < (σ.2.2 10026 121 x3) then j3_tc true d 160 [wI 2, wI x1, wI x4] σ (fun r σ1 => T218 d Q 123 [wO 10 121, wI x1, wI x2, wI x3, wI x4] (r.toList ++ [wO 10 121]) σ1) else Q none σ)) := j3_T.go d [0, 48, 59, 82, 112, 123, 127, 128, 155] 400
set_option maxRecDepth 100000 in
theorem b218_123 {d : Nat} {Q : j3_P} {σ : j3_S} {x1 : Int} {x2 : Int} {x3 : Int} {x4 : Int} {xs0 : Int} :
  T218 d Q 123 [wO 10 121, wI x1, wI x2, wI x3, wI x4] [wI xs0, wO 10 121] σ = j3_tc true d 160 [wI 1, wI x2, wI x4] σ (fun r σ1 => T218 d Q 127 [wO 10 121, wI x1, wI x2, wI x3, wI x4] (r.toList ++ [wI xs0, wO 10 121]) σ1) := j3_T.go d [0, 48, 59, 82, 112, 123, 127, 128, 155] 400
set_option maxRecDepth 100000 in
theorem b218_127 {d : Nat} {Q : j3_P} {σ : j3_S} {x1 : Int} {x2 : Int} {x3 : Int} {x4 : Int} {xs0 : Int} {xs1 : Int} :
  T218 d Q 127 [wO 10 121, wI x1, wI x2, wI x3, wI x4] [wI xs0, wI xs1, wO 10 121] σ = j3_tc true d 182 [wO 10 121, wI xs1, wI xs0] σ (fun r σ1 => T218 d Q 128 [wO 10 121, wI x1, wI x2, wI x3, wI x4] (r.toList ++ []) σ1) := j3_T.go d [0, 48, 59, 82, 112, 123, 127, 128, 155] 400
set_option maxRecDepth 100000 in
theorem b218_128 {d : Nat} {Q : j3_P} {σ : j3_S} {x1 : Int} {x2 : Int} {x3 : Int} {x4 : Int} :
  T218 d Q 128 [wO 10 121, wI x1, wI x2, wI x3, wI x4] [] σ = T218 d Q 112 [wO 10 121, wI x1, wI x2, wI x3, wI (wr (x4 + 1))] [] σ := j3_T.go d [0, 48, 59, 82, 112, 123, 127, 128, 155] 400
set_option maxRecDepth 100000 in
theorem b218_155 {d : Nat} {Q : j3_P} {σ : j3_S} {x1 : Int} {x2 : Int} {x3 : Int} {x4 : Int} {xs0 : Int} :
  T218 d Q 155 [wO 10 121, wI x1, wI x2, wI x3, wI x4] [wI xs0] σ = ((0 ≤ xs0 ∧ xs0 < 28800) ∧ ((0 ≤ xs0 ∧ xs0 < 28800) ∧ ((0 ≤ xs0 ∧ xs0 < 28800) ∧ ((0 ≤ xs0 ∧ xs0 < 28800) ∧ ((0 ≤ (3 : Int) ∧ (3 : Int) < 23) ∧ ((0 ≤ (3 : Int) ∧ (3 : Int) < 23) ∧ Q none (σ.1, σ.2.1, (j3_ast (j3_ast (j3_ast (j3_ast (j3_ast σ.2.2 10027 121 xs0 26) 10028 121 xs0 0) 10029 121 xs0 0) 10030 121 xs0 0) 10052 121 3 (wr ((σ.2.2 10052 121 3) + 1)))))))))) := j3_T.go d [0, 48, 59, 82, 112, 123, 127, 128, 155] 400
def T219 (d : Nat) (Q : j3_P) : j3_K := j3_T true (j3_tc true d) jc_X10_tellAnew none Q
theorem e219 {d : Nat} {Q : j3_P} {σ : j3_S}  : j3_tc true (d + 1) 219 [wO 10 121] σ Q = T219 d Q 0 [wO 10 121, wM 2, wM 2, wM 2, wM 2] [] σ := j3_entry ⟨Nat.le_of_ble_eq_true rfl, rfl⟩
set_option maxRecDepth 100000 in
theorem b219_0 {d : Nat} {Q : j3_P} {σ : j3_S}  :
  T219 d Q 0 [wO 10 121, wM 2, wM 2, wM 2, wM 2] [] σ = T219 d Q 2 [wO 10 121, wI 0, wM 2, wM 2, wM 2] [] σ := j3_T.go d [0, 2, 10, 22, 52, 58, 77, 82, 89, 100] 400
set_option maxRecDepth 100000 in
theorem b219_2 {d : Nat} {Q : j3_P} {σ : j3_S} {x1 : Int} {w2 : j3_W} {w3 : j3_W} {w4 : j3_W} :
  T219 d Q 2 [wO 10 121, wI x1, w2, w3, w4] [] σ = ((0 ≤ (1 : Int) ∧ (1 : Int) < 3) ∧ (if x1 < (σ.2.2 10018 121 1) then T219 d Q 10 [wO 10 121, wI x1, wI 0, w3, w4] [] σ else Q none σ)) := j3_T.go d [0, 2, 10, 22, 52, 58, 77, 82, 89, 100] 400
set_option maxRecDepth 100000 in
theorem b219_10 {d : Nat} {Q : j3_P} {σ : j3_S} {x1 : Int} {x2 : Int} {w3 : j3_W} {w4 : j3_W} :
  T219 d Q 10 [wO 10 121, wI x1, wI x2, w3, w4] [] σ = ((0 ≤ (wr (80 + x1)) ∧ (wr (80 + x1)) < 240) ∧ (if x2 < (σ.2.2 10026 121 (wr (80 + x1))) then j3_tc true d 160 [wI 1, wI x1, wI x2] σ (fun r σ1 => T219 d Q 22 [wO 10 121, wI x1, wI x2, w3, w4] (r.toList ++ []) σ1) else T219 d Q 2 [wO 10 121, wI (wr (x1 + 1)), wI x2, w3, w4] [] σ)) := j3_T.go d [0, 2, 10, 22, 52, 58, 77, 82, 89, 100] 400
set_option maxRecDepth 100000 in
theorem b219_22 {d : Nat} {Q : j3_P} {σ : j3_S} {x1 : Int} {x2 : Int} {w3 : j3_W} {w4 : j3_W} {xs0 : Int} :
  T219 d Q 22 [wO 10 121, wI x1, wI x2, w3, w4] [wI xs0] σ = ((0 ≤ xs0 ∧ xs0 < 28800) ∧ (if (σ.2.2 10027 121 xs0) < (16 : Int) then T219 d Q 52 [wO 10 121, wI x1, wI x2, wI xs0, wI (σ.2.2 10027 121 xs0)] [] σ else (if (19 : Int) < (σ.2.2 10027 121 xs0) then T219 d Q 52 [wO 10 121, wI x1, wI x2, wI xs0, wI (σ.2.2 10027 121 xs0)] [] σ else ((0 ≤ xs0 ∧ xs0 < 28800) ∧ ((0 ≤ xs0 ∧ xs0 < 28800) ∧ ((0 ≤ (wr ((wr (6 * (σ.2.2 10028 121 xs0))) + (σ.2.2 10029 121 xs0))) ∧ (wr ((wr (6 * (σ.2.2 10028 121 xs0))) + (σ.2.2 10029 121 xs0))) < 60) ∧ ((0 ≤ xs0 ∧ xs0 < 28800) ∧ T219 d Q 52 [wO 10 121, wI x1, wI x2, wI xs0, wI (σ.2.2 10027 121 xs0)] [] (σ.1, σ.2.1, (j3_ast σ.2.2 10029 121 xs0 (σ.2.2 10070 121 (wr ((wr (6 * (σ.2.2 10028 121 xs0))) + (σ.2.2 10029 121 xs0))))))))))))) := j3_T.go d [0, 2, 10, 22, 52, 58, 77, 82, 89, 100] 400
set_option maxRecDepth 100000 in
theorem b219_52 {d : Nat} {Q : j3_P} {σ : j3_S} {x1 : Int} {x2 : Int} {x3 : Int} {x4 : Int} :
  T219 d Q 52 [wO 10 121, wI x1, wI x2, wI x3, wI x4] [] σ = (if x4 = (20 : Int) then T219 d Q 58 [wO 10 121, wI x1, wI x2, wI x3, wI x4] [] σ else (if x4 = (21 : Int) then T219 d Q 58 [wO 10 121, wI x1, wI x2, wI x3, wI x4] [] σ else T219 d Q 77 [wO 10 121, wI x1, wI x2, wI x3, wI x4] [] σ)) := j3_T.go d [0, 2, 10, 22, 52, 58, 77, 82, 89, 100] 400
set_option maxRecDepth 100000 in
theorem b219_58 {d : Nat} {Q : j3_P} {σ : j3_S} {x1 : Int} {x2 : Int} {x3 : Int} {x4 : Int} :
  T219 d Q 58 [wO 10 121, wI x1, wI x2, wI x3, wI x4] [] σ = ((0 ≤ x3 ∧ x3 < 28800) ∧ ((0 ≤ (σ.2.2 10028 121 x3) ∧ (σ.2.2 10028 121 x3) < 30) ∧ ((0 ≤ x3 ∧ x3 < 28800) ∧ ((0 ≤ (wr ((σ.2.2 10013 121 (σ.2.2 10028 121 x3)) + (σ.2.2 10029 121 x3))) ∧ (wr ((σ.2.2 10013 121 (σ.2.2 10028 121 x3)) + (σ.2.2 10029 121 x3))) < 80) ∧ ((0 ≤ x3 ∧ x3 < 28800) ∧ T219 d Q 77 [wO 10 121, wI x1, wI x2, wI x3, wI x4] [] (σ.1, σ.2.1, (j3_ast σ.2.2 10029 121 x3 (σ.2.2 10071 121 (wr ((σ.2.2 10013 121 (σ.2.2 10028 121 x3)) + (σ.2.2 10029 121 x3))))))))))) := j3_T.go d [0, 2, 10, 22, 52, 58, 77, 82, 89, 100] 400
set_option maxRecDepth 100000 in
theorem b219_77 {d : Nat} {Q : j3_P} {σ : j3_S} {x1 : Int} {x2 : Int} {x3 : Int} {x4 : Int} :
  T219 d Q 77 [wO 10 121, wI x1, wI x2, wI x3, wI x4] [] σ = (if x4 = (15 : Int) then T219 d Q 89 [wO 10 121, wI x1, wI x2, wI x3, wI x4] [] σ else j3_tc true d 165 [wI x4] σ (fun r σ1 => T219 d Q 82 [wO 10 121, wI x1, wI x2, wI x3, wI x4] (r.toList ++ []) σ1)) := j3_T.go d [0, 2, 10, 22, 52, 58, 77, 82, 89, 100] 400
set_option maxRecDepth 100000 in
theorem b219_82 {d : Nat} {Q : j3_P} {σ : j3_S} {x1 : Int} {x2 : Int} {x3 : Int} {x4 : Int} {xs0 : Int} :
  T219 d Q 82 [wO 10 121, wI x1, wI x2, wI x3, wI x4] [wI xs0] σ = (if xs0 = 0 then (if x4 = (24 : Int) then T219 d Q 89 [wO 10 121, wI x1, wI x2, wI x3, wI x4] [] σ else (if x4 = (25 : Int) then T219 d Q 89 [wO 10 121, wI x1, wI x2, wI x3, wI x4] [] σ else T219 d Q 100 [wO 10 121, wI x1, wI x2, wI x3, wI x4] [] σ)) else T219 d Q 89 [wO 10 121, wI x1, wI x2, wI x3, wI x4] [] σ) := j3_T.go d [0, 2, 10, 22, 52, 58, 77, 82, 89, 100] 400
set_option maxRecDepth 100000 in
theorem b219_89 {d : Nat} {Q : j3_P} {σ : j3_S} {x1 : Int} {x2 : Int} {x3 : Int} {x4 : Int} :
  T219 d Q 89 [wO 10 121, wI x1, wI x2, wI x3, wI x4] [] σ = ((0 ≤ x3 ∧ x3 < 28800) ∧ ((0 ≤ (σ.2.2 10028 121 x3) ∧ (σ.2.2 10028 121 x3) < 10) ∧ ((0 ≤ x3 ∧ x3 < 28800) ∧ T219 d Q 100 [wO 10 121, wI x1, wI x2, wI x3, wI x4] [] (σ.1, σ.2.1, (j3_ast σ.2.2 10028 121 x3 (σ.2.2 10069 121 (σ.2.2 10028 121 x3))))))) := j3_T.go d [0, 2, 10, 22, 52, 58, 77, 82, 89, 100] 400
set_option maxRecDepth 100000 in
theorem b219_100 {d : Nat} {Q : j3_P} {σ : j3_S} {x1 : Int} {x2 : Int} {x3 : Int} {x4 : Int} :
  T219 d Q 100 [wO 10 121, wI x1, wI x2, wI x3, wI x4] [] σ = T219 d Q 10 [wO 10 121, wI x1, wI (wr (x2 + 1)), wI x3, wI x4] [] σ := j3_T.go d [0, 2, 10, 22, 52, 58, 77, 82, 89, 100] 400
def T220 (d : Nat) (Q : j3_P) : j3_K := j3_T true (j3_tc true d) jc_X10_numberNow (some .int) Q
theorem e220 {d : Nat} {Q : j3_P} {σ : j3_S} {x1 : Int} : j3_tc true (d + 1) 220 [wO 10 121, wI x1] σ Q = T220 d Q 0 [wO 10 121, wI x1] [] σ := j3_entry ⟨Nat.le_of_ble_eq_true rfl, rfl⟩
set_option maxRecDepth 100000 in
theorem b220_0 {d : Nat} {Q : j3_P} {σ : j3_S} {x1 : Int} :
  T220 d Q 0 [wO 10 121, wI x1] [] σ = ((0 ≤ x1 ∧ x1 < 240) ∧ ((0 ≤ (σ.2.2 10019 121 x1) ∧ (σ.2.2 10019 121 x1) < 10) ∧ ((0 ≤ (wr (10 + (σ.2.2 10069 121 (σ.2.2 10019 121 x1)))) ∧ (wr (10 + (σ.2.2 10069 121 (σ.2.2 10019 121 x1)))) < 30) ∧ ((0 ≤ x1 ∧ x1 < 80) ∧ Q (some (wI (wr ((σ.2.2 10013 121 (wr (10 + (σ.2.2 10069 121 (σ.2.2 10019 121 x1))))) + (σ.2.2 10071 121 x1))))) σ)))) := j3_T.go d [0] 400
def T221 (d : Nat) (Q : j3_P) : j3_K := j3_T true (j3_tc true d) jc_X10_nameMethods none Q
theorem e221 {d : Nat} {Q : j3_P} {σ : j3_S}  : j3_tc true (d + 1) 221 [wO 10 121] σ Q = T221 d Q 0 [wO 10 121, wM 2, wM 2, wM 2, wM 2, wM 2] [] σ := j3_entry ⟨Nat.le_of_ble_eq_true rfl, rfl⟩
set_option maxRecDepth 100000 in
theorem b221_0 {d : Nat} {Q : j3_P} {σ : j3_S}  :
  T221 d Q 0 [wO 10 121, wM 2, wM 2, wM 2, wM 2, wM 2] [] σ = T221 d Q 2 [wO 10 121, wI 0, wM 2, wM 2, wM 2, wM 2] [] σ := j3_T.go d [0, 2, 17, 28, 34, 71, 79, 92, 98, 99] 400
set_option maxRecDepth 100000 in
theorem b221_2 {d : Nat} {Q : j3_P} {σ : j3_S} {x1 : Int} {w2 : j3_W} {w3 : j3_W} {w4 : j3_W} {w5 : j3_W} :
  T221 d Q 2 [wO 10 121, wI x1, w2, w3, w4, w5] [] σ = ((0 ≤ (0 : Int) ∧ (0 : Int) < 3) ∧ (if x1 < (σ.2.2 10018 121 0) then ((0 ≤ x1 ∧ x1 < 80) ∧ (if (σ.2.2 10074 121 x1) = 0 then T221 d Q 99 [wO 10 121, wI x1, w2, w3, w4, w5] [] σ else j3_tc true d 220 [wO 10 121, wI x1] σ (fun r σ1 => T221 d Q 17 [wO 10 121, wI x1, w2, w3, w4, w5] (r.toList ++ []) σ1))) else Q none σ)) := j3_T.go d [0, 2, 17, 28, 34, 71, 79, 92, 98, 99] 400
set_option maxRecDepth 100000 in
theorem b221_17 {d : Nat} {Q : j3_P} {σ : j3_S} {x1 : Int} {w2 : j3_W} {w3 : j3_W} {w4 : j3_W} {w5 : j3_W} {xs0 : Int} :
  T221 d Q 17 [wO 10 121, wI x1, w2, w3, w4, w5] [wI xs0] σ = ((0 ≤ x1 ∧ x1 < 240) ∧ ((0 ≤ (σ.2.2 10019 121 x1) ∧ (σ.2.2 10019 121 x1) < 30) ∧ T221 d Q 28 [wO 10 121, wI x1, wI xs0, wI (-1), wI (σ.2.2 10011 121 (σ.2.2 10019 121 x1)), w5] [] σ)) := j3_T.go d [0, 2, 17, 28, 34, 71, 79, 92, 98, 99] 400
set_option maxRecDepth 100000 in
theorem b221_28 {d : Nat} {Q : j3_P} {σ : j3_S} {x1 : Int} {x2 : Int} {x3 : Int} {x4 : Int} {w5 : j3_W} :
  T221 d Q 28 [wO 10 121, wI x1, wI x2, wI x3, wI x4, w5] [] σ = (if x4 < 0 then T221 d Q 79 [wO 10 121, wI x1, wI x2, wI x3, wI x4, w5] [] σ else (if x3 < 0 then T221 d Q 34 [wO 10 121, wI x1, wI x2, wI x3, wI x4, wI 0] [] σ else T221 d Q 79 [wO 10 121, wI x1, wI x2, wI x3, wI x4, w5] [] σ)) := j3_T.go d [0, 2, 17, 28, 34, 71, 79, 92, 98, 99] 400
set_option maxRecDepth 100000 in
theorem b221_34 {d : Nat} {Q : j3_P} {σ : j3_S} {x1 : Int} {x2 : Int} {x3 : Int} {x4 : Int} {x5 : Int} :
  T221 d Q 34 [wO 10 121, wI x1, wI x2, wI x3, wI x4, wI x5] [] σ = ((0 ≤ x4 ∧ x4 < 30) ∧ (if x5 < (σ.2.2 10014 121 x4) then ((0 ≤ x4 ∧ x4 < 30) ∧ ((0 ≤ (wr ((σ.2.2 10013 121 x4) + x5)) ∧ (wr ((σ.2.2 10013 121 x4) + x5)) < 80) ∧ (if (σ.2.2 10074 121 (wr ((σ.2.2 10013 121 x4) + x5))) = 0 then T221 d Q 71 [wO 10 121, wI x1, wI x2, wI x3, wI x4, wI x5] [] σ else ((0 ≤ x4 ∧ x4 < 30) ∧ ((0 ≤ (wr ((σ.2.2 10013 121 x4) + x5)) ∧ (wr ((σ.2.2 10013 121 x4) + x5)) < 240) ∧ ((0 ≤ x1 ∧ x1 < 240) ∧ (if (σ.2.2 10020 121 (wr ((σ.2.2 10013 121 x4) + x5))) = (σ.2.2 10020 121 x1) then ((0 ≤ x4 ∧ x4 < 30) ∧ T221 d Q 71 [wO 10 121, wI x1, wI x2, wI (wr ((σ.2.2 10013 121 x4) + x5)), wI x4, wI x5] [] σ) else T221 d Q 71 [wO 10 121, wI x1, wI x2, wI x3, wI x4, wI x5] [] σ))))))) else ((0 ≤ x4 ∧ x4 < 30) ∧ T221 d Q 28 [wO 10 121, wI x1, wI x2, wI x3, wI (σ.2.2 10011 121 x4), wI x5] [] σ))) := j3_T.go d [0, 2, 17, 28, 34, 71, 79, 92, 98, 99] 400
set_option maxRecDepth 100000 in
theorem b221_71 {d : Nat} {Q : j3_P} {σ : j3_S} {x1 : Int} {x2 : Int} {x3 : Int} {x4 : Int} {x5 : Int} :
  T221 d Q 71 [wO 10 121, wI x1, wI x2, wI x3, wI x4, wI x5] [] σ = T221 d Q 34 [wO 10 121, wI x1, wI x2, wI x3, wI x4, wI (wr (x5 + 1))] [] σ := j3_T.go d [0, 2, 17, 28, 34, 71, 79, 92, 98, 99] 400
set_option maxRecDepth 100000 in
theorem b221_79 {d : Nat} {Q : j3_P} {σ : j3_S} {x1 : Int} {x2 : Int} {x3 : Int} {x4 : Int} {w5 : j3_W} :
  T221 d Q 79 [wO 10 121, wI x1, wI x2, wI x3, wI x4, w5] [] σ = (if x3 < 0 then j3_tc true d 222 [wO 10 121, wI x2] σ (fun r σ1 => T221 d Q 98 [wO 10 121, wI x1, wI x2, wI x3, wI x4, w5] (r.toList ++ [wI (wr (80 + x2)), wA 10020 121]) σ1) else j3_tc true d 220 [wO 10 121, wI x3] σ (fun r σ1 => T221 d Q 92 [wO 10 121, wI x1, wI x2, wI x3, wI x4, w5] (r.toList ++ [wI 80, wA 10020 121, wI (wr (80 + x2)), wA 10020 121]) σ1)) := j3_T.go d [0, 2, 17, 28, 34, 71, 79, 92, 98, 99] 400
set_option maxRecDepth 100000 in
theorem b221_92 {d : Nat} {Q : j3_P} {σ : j3_S} {x1 : Int} {x2 : Int} {x3 : Int} {x4 : Int} {w5 : j3_W} {xs0 : Int} {xs1 : Int} {xs3 : Int} :
  T221 d Q 92 [wO 10 121, wI x1, wI x2, wI x3, wI x4, w5] [wI xs0, wI xs1, wA 10020 121, wI xs3, wA 10020 121] σ = ((0 ≤ (wr (xs1 + xs0)) ∧ (wr (xs1 + xs0)) < 240) ∧ T221 d Q 98 [wO 10 121, wI x1, wI x2, wI x3, wI x4, w5] [wI (σ.2.2 10020 121 (wr (xs1 + xs0))), wI xs3, wA 10020 121] σ) := j3_T.go d [0, 2, 17, 28, 34, 71, 79, 92, 98, 99] 400
set_option maxRecDepth 100000 in
theorem b221_98 {d : Nat} {Q : j3_P} {σ : j3_S} {x1 : Int} {x2 : Int} {x3 : Int} {x4 : Int} {w5 : j3_W} {xs0 : Int} {xs1 : Int} :
  T221 d Q 98 [wO 10 121, wI x1, wI x2, wI x3, wI x4, w5] [wI xs0, wI xs1, wA 10020 121] σ = ((0 ≤ xs1 ∧ xs1 < 240) ∧ T221 d Q 99 [wO 10 121, wI x1, wI x2, wI x3, wI x4, w5] [] (σ.1, σ.2.1, (j3_ast σ.2.2 10020 121 xs1 xs0))) := j3_T.go d [0, 2, 17, 28, 34, 71, 79, 92, 98, 99] 400
set_option maxRecDepth 100000 in
theorem b221_99 {d : Nat} {Q : j3_P} {σ : j3_S} {x1 : Int} {w2 : j3_W} {w3 : j3_W} {w4 : j3_W} {w5 : j3_W} :
  T221 d Q 99 [wO 10 121, wI x1, w2, w3, w4, w5] [] σ = T221 d Q 2 [wO 10 121, wI (wr (x1 + 1)), w2, w3, w4, w5] [] σ := j3_T.go d [0, 2, 17, 28, 34, 71, 79, 92, 98, 99] 400
def T222 (d : Nat) (Q : j3_P) : j3_K := j3_T true (j3_tc true d) jc_X10_leastName (some .int) Q
theorem e222 {d : Nat} {Q : j3_P} {σ : j3_S} {x1 : Int} : j3_tc true (d + 1) 222 [wO 10 121, wI x1] σ Q = T222 d Q 0 [wO 10 121, wI x1, wM 2, wM 2, wM 2, wM 2, wM 2] [] σ := j3_entry ⟨Nat.le_of_ble_eq_true rfl, rfl⟩
set_option maxRecDepth 100000 in
theorem b222_0 {d : Nat} {Q : j3_P} {σ : j3_S} {x1 : Int} :
  T222 d Q 0 [wO 10 121, wI x1, wM 2, wM 2, wM 2, wM 2, wM 2] [] σ = T222 d Q 4 [wO 10 121, wI x1, wI 1, wI 0, wM 2, wM 2, wM 2] [] σ := j3_T.go d [0, 4, 15, 19, 49, 51, 52, 69] 400
set_option maxRecDepth 100000 in
theorem b222_4 {d : Nat} {Q : j3_P} {σ : j3_S} {x1 : Int} {x2 : Int} {x3 : Int} {w4 : j3_W} {w5 : j3_W} {w6 : j3_W} :
  T222 d Q 4 [wO 10 121, wI x1, wI x2, wI x3, w4, w5, w6] [] σ = (if x3 = 0 then ((0 ≤ (wr (80 + x1)) ∧ (wr (80 + x1)) < 240) ∧ T222 d Q 15 [wO 10 121, wI x1, wI x2, wI 1, wI (σ.2.2 10019 121 (wr (80 + x1))), w5, w6] [] σ) else Q (some (wI x2)) σ) := j3_T.go d [0, 4, 15, 19, 49, 51, 52, 69] 400
set_option maxRecDepth 100000 in
theorem b222_15 {d : Nat} {Q : j3_P} {σ : j3_S} {x1 : Int} {x2 : Int} {x3 : Int} {x4 : Int} {w5 : j3_W} {w6 : j3_W} :
  T222 d Q 15 [wO 10 121, wI x1, wI x2, wI x3, wI x4, w5, w6] [] σ = (if x4 < 0 then (if x3 = 0 then T222 d Q 69 [wO 10 121, wI x1, wI x2, wI x3, wI x4, w5, w6] [wI 1, wI x2] σ else T222 d Q 69 [wO 10 121, wI x1, wI x2, wI x3, wI x4, w5, w6] [wI 0, wI x2] σ) else T222 d Q 19 [wO 10 121, wI x1, wI x2, wI x3, wI x4, wI 0, w6] [] σ) := j3_T.go d [0, 4, 15, 19, 49, 51, 52, 69] 400
set_option maxRecDepth 100000 in
theorem b222_19 {d : Nat} {Q : j3_P} {σ : j3_S} {x1 : Int} {x2 : Int} {x3 : Int} {x4 : Int} {x5 : Int} {w6 : j3_W} :
  T222 d Q 19 [wO 10 121, wI x1, wI x2, wI x3, wI x4, wI x5, w6] [] σ = ((0 ≤ (wr (10 + x4)) ∧ (wr (10 + x4)) < 30) ∧ (if x5 < (σ.2.2 10014 121 (wr (10 + x4))) then ((0 ≤ (wr (10 + x4)) ∧ (wr (10 + x4)) < 30) ∧ (if x3 = 0 then T222 d Q 51 [wO 10 121, wI x1, wI x2, wI x3, wI x4, wI x5, wI (wr ((σ.2.2 10013 121 (wr (10 + x4))) + x5))] [] σ else (if (wr ((σ.2.2 10013 121 (wr (10 + x4))) + x5)) < x1 then ((0 ≤ (wr (80 + (wr ((σ.2.2 10013 121 (wr (10 + x4))) + x5)))) ∧ (wr (80 + (wr ((σ.2.2 10013 121 (wr (10 + x4))) + x5)))) < 240) ∧ (if (σ.2.2 10020 121 (wr (80 + (wr ((σ.2.2 10013 121 (wr (10 + x4))) + x5))))) = x2 then T222 d Q 51 [wO 10 121, wI x1, wI x2, wI x3, wI x4, wI x5, wI (wr ((σ.2.2 10013 121 (wr (10 + x4))) + x5))] [] σ else T222 d Q 49 [wO 10 121, wI x1, wI x2, wI x3, wI x4, wI x5, wI (wr ((σ.2.2 10013 121 (wr (10 + x4))) + x5))] [] σ)) else T222 d Q 49 [wO 10 121, wI x1, wI x2, wI x3, wI x4, wI x5, wI (wr ((σ.2.2 10013 121 (wr (10 + x4))) + x5))] [] σ))) else ((0 ≤ (wr (10 + x4)) ∧ (wr (10 + x4)) < 30) ∧ T222 d Q 15 [wO 10 121, wI x1, wI x2, wI x3, wI (σ.2.2 10011 121 (wr (10 + x4))), wI x5, w6] [] σ))) := j3_T.go d [0, 4, 15, 19, 49, 51, 52, 69] 400
set_option maxRecDepth 100000 in
theorem b222_49 {d : Nat} {Q : j3_P} {σ : j3_S} {x1 : Int} {x2 : Int} {x3 : Int} {x4 : Int} {x5 : Int} {x6 : Int} :
  T222 d Q 49 [wO 10 121, wI x1, wI x2, wI x3, wI x4, wI x5, wI x6] [] σ = T222 d Q 52 [wO 10 121, wI x1, wI x2, wI x3, wI x4, wI x5, wI x6] [wI 1] σ := j3_T.go d [0, 4, 15, 19, 49, 51, 52, 69] 400
set_option maxRecDepth 100000 in
theorem b222_51 {d : Nat} {Q : j3_P} {σ : j3_S} {x1 : Int} {x2 : Int} {x3 : Int} {x4 : Int} {x5 : Int} {x6 : Int} :
  T222 d Q 51 [wO 10 121, wI x1, wI x2, wI x3, wI x4, wI x5, wI x6] [] σ = T222 d Q 52 [wO 10 121, wI x1, wI x2, wI x3, wI x4, wI x5, wI x6] [wI 0] σ := j3_T.go d [0, 4, 15, 19, 49, 51, 52, 69] 400
set_option maxRecDepth 100000 in
theorem b222_52 {d : Nat} {Q : j3_P} {σ : j3_S} {x1 : Int} {x2 : Int} {x3 : Int} {x4 : Int} {x5 : Int} {x6 : Int} {xs0 : Int} :
  T222 d Q 52 [wO 10 121, wI x1, wI x2, wI x3, wI x4, wI x5, wI x6] [wI xs0] σ = T222 d Q 19 [wO 10 121, wI x1, wI x2, wI xs0, wI x4, wI (wr (x5 + 1)), wI x6] [] σ := j3_T.go d [0, 4, 15, 19, 49, 51, 52, 69] 400
set_option maxRecDepth 100000 in
theorem b222_69 {d : Nat} {Q : j3_P} {σ : j3_S} {x1 : Int} {x2 : Int} {x3 : Int} {x4 : Int} {w5 : j3_W} {w6 : j3_W} {xs0 : Int} {xs1 : Int} :
  T222 d Q 69 [wO 10 121, wI x1, wI x2, wI x3, wI x4, w5, w6] [wI xs0, wI xs1] σ = T222 d Q 4 [wO 10 121, wI x1, wI (wr (xs1 + xs0)), wI x3, wI x4, w5, w6] [] σ := j3_T.go d [0, 4, 15, 19, 49, 51, 52, 69] 400
def T223 (d : Nat) (Q : j3_P) : j3_K := j3_T true (j3_tc true d) jc_X10_write none Q
theorem e223 {d : Nat} {Q : j3_P} {σ : j3_S} {x1 : Int} : j3_tc true (d + 1) 223 [wO 10 121, wI x1] σ Q = T223 d Q 0 [wO 10 121, wI x1] [] σ := j3_entry ⟨Nat.le_of_ble_eq_true rfl, rfl⟩
set_option maxRecDepth 100000 in
theorem b223_0 {d : Nat} {Q : j3_P} {σ : j3_S} {x1 : Int} :
  T223 d Q 0 [wO 10 121, wI x1] [] σ = ((0 ≤ (σ.1 10076 121) ∧ (σ.1 10076 121) < 60000) ∧ Q none ((j3_up σ.1 10076 121 (wr ((σ.1 10076 121) + 1))), σ.2.1, (j3_ast σ.2.2 10075 121 (σ.1 10076 121) (i_an x1 255)))) := j3_T.go d [0] 400
def T224 (d : Nat) (Q : j3_P) : j3_K := j3_T true (j3_tc true d) jc_X10_writeAll none Q
theorem e224 {d : Nat} {Q : j3_P} {σ : j3_S}  : j3_tc true (d + 1) 224 [wO 10 121] σ Q = T224 d Q 0 [wO 10 121, wM 2, wM 2] [] σ := j3_entry ⟨Nat.le_of_ble_eq_true rfl, rfl⟩
set_option maxRecDepth 100000 in
theorem b224_0 {d : Nat} {Q : j3_P} {σ : j3_S}  :
  T224 d Q 0 [wO 10 121, wM 2, wM 2] [] σ = j3_tc true d 223 [wO 10 121, wI 83] ((j3_up σ.1 10076 121 0), σ.2.1, σ.2.2) (fun r σ1 => T224 d Q 6 [wO 10 121, wM 2, wM 2] (r.toList ++ []) σ1) := j3_T.go d [0, 6, 9, 15, 17, 31, 41, 49, 51, 71, 83, 95, 105, 107, 125] 400
set_option maxRecDepth 100000 in
theorem b224_6 {d : Nat} {Q : j3_P} {σ : j3_S}  :
  T224 d Q 6 [wO 10 121, wM 2, wM 2] [] σ = j3_tc true d 223 [wO 10 121, wI 72] σ (fun r σ1 => T224 d Q 9 [wO 10 121, wM 2, wM 2] (r.toList ++ []) σ1) := j3_T.go d [0, 6, 9, 15, 17, 31, 41, 49, 51, 71, 83, 95, 105, 107, 125] 400
set_option maxRecDepth 100000 in
theorem b224_9 {d : Nat} {Q : j3_P} {σ : j3_S}  :
  T224 d Q 9 [wO 10 121, wM 2, wM 2] [] σ = ((0 ≤ (1 : Int) ∧ (1 : Int) < 3) ∧ j3_tc true d 223 [wO 10 121, wI (σ.2.2 10009 121 1)] σ (fun r σ1 => T224 d Q 15 [wO 10 121, wM 2, wM 2] (r.toList ++ []) σ1)) := j3_T.go d [0, 6, 9, 15, 17, 31, 41, 49, 51, 71, 83, 95, 105, 107, 125] 400
set_option maxRecDepth 100000 in
theorem b224_15 {d : Nat} {Q : j3_P} {σ : j3_S}  :
  T224 d Q 15 [wO 10 121, wM 2, wM 2] [] σ = T224 d Q 17 [wO 10 121, wI 0, wM 2] [] σ := j3_T.go d [0, 6, 9, 15, 17, 31, 41, 49, 51, 71, 83, 95, 105, 107, 125] 400
set_option maxRecDepth 100000 in
theorem b224_17 {d : Nat} {Q : j3_P} {σ : j3_S} {x1 : Int} {w2 : j3_W} :
  T224 d Q 17 [wO 10 121, wI x1, w2] [] σ = ((0 ≤ (1 : Int) ∧ (1 : Int) < 3) ∧ (if x1 < (σ.2.2 10009 121 1) then ((0 ≤ (wr (10 + x1)) ∧ (wr (10 + x1)) < 30) ∧ j3_tc true d 223 [wO 10 121, wI (σ.2.2 10010 121 (wr (10 + x1)))] σ (fun r σ1 => T224 d Q 31 [wO 10 121, wI x1, w2] (r.toList ++ []) σ1)) else ((0 ≤ (1 : Int) ∧ (1 : Int) < 3) ∧ Q none (σ.1, σ.2.1, (j3_ast σ.2.2 10034 121 1 (σ.1 10076 121)))))) := j3_T.go d [0, 6, 9, 15, 17, 31, 41, 49, 51, 71, 83, 95, 105, 107, 125] 400
set_option maxRecDepth 100000 in
theorem b224_31 {d : Nat} {Q : j3_P} {σ : j3_S} {x1 : Int} {w2 : j3_W} :
  T224 d Q 31 [wO 10 121, wI x1, w2] [] σ = ((0 ≤ (wr (10 + x1)) ∧ (wr (10 + x1)) < 30) ∧ j3_tc true d 223 [wO 10 121, wI (wr ((σ.2.2 10011 121 (wr (10 + x1))) + 1))] σ (fun r σ1 => T224 d Q 41 [wO 10 121, wI x1, w2] (r.toList ++ []) σ1)) := j3_T.go d [0, 6, 9, 15, 17, 31, 41, 49, 51, 71, 83, 95, 105, 107, 125] 400
set_option maxRecDepth 100000 in
theorem b224_41 {d : Nat} {Q : j3_P} {σ : j3_S} {x1 : Int} {w2 : j3_W} :
  T224 d Q 41 [wO 10 121, wI x1, w2] [] σ = ((0 ≤ (wr (10 + x1)) ∧ (wr (10 + x1)) < 30) ∧ j3_tc true d 223 [wO 10 121, wI (σ.2.2 10012 121 (wr (10 + x1)))] σ (fun r σ1 => T224 d Q 49 [wO 10 121, wI x1, w2] (r.toList ++ []) σ1)) := j3_T.go d [0, 6, 9, 15, 17, 31, 41, 49, 51, 71, 83, 95, 105, 107, 125] 400
set_option maxRecDepth 100000 in
theorem b224_49 {d : Nat} {Q : j3_P} {σ : j3_S} {x1 : Int} {w2 : j3_W} :
  T224 d Q 49 [wO 10 121, wI x1, w2] [] σ = T224 d Q 51 [wO 10 121, wI x1, wI 0] [] σ := j3_T.go d [0, 6, 9, 15, 17, 31, 41, 49, 51, 71, 83, 95, 105, 107, 125] 400
set_option maxRecDepth 100000 in
theorem b224_51 {d : Nat} {Q : j3_P} {σ : j3_S} {x1 : Int} {x2 : Int} :
  T224 d Q 51 [wO 10 121, wI x1, wI x2] [] σ = ((0 ≤ (wr (10 + x1)) ∧ (wr (10 + x1)) < 30) ∧ (if x2 < (σ.2.2 10012 121 (wr (10 + x1))) then ((0 ≤ (wr ((wr (60 + (wr (6 * x1)))) + x2)) ∧ (wr ((wr (60 + (wr (6 * x1)))) + x2)) < 180) ∧ j3_tc true d 223 [wO 10 121, wI (σ.2.2 10015 121 (wr ((wr (60 + (wr (6 * x1)))) + x2)))] σ (fun r σ1 => T224 d Q 71 [wO 10 121, wI x1, wI x2] (r.toList ++ []) σ1)) else ((0 ≤ (wr (10 + x1)) ∧ (wr (10 + x1)) < 30) ∧ j3_tc true d 223 [wO 10 121, wI (σ.2.2 10014 121 (wr (10 + x1)))] σ (fun r σ1 => T224 d Q 105 [wO 10 121, wI x1, wI x2] (r.toList ++ []) σ1)))) := j3_T.go d [0, 6, 9, 15, 17, 31, 41, 49, 51, 71, 83, 95, 105, 107, 125] 400
set_option maxRecDepth 100000 in
theorem b224_71 {d : Nat} {Q : j3_P} {σ : j3_S} {x1 : Int} {x2 : Int} :
  T224 d Q 71 [wO 10 121, wI x1, wI x2] [] σ = ((0 ≤ (wr ((wr (60 + (wr (6 * x1)))) + x2)) ∧ (wr ((wr (60 + (wr (6 * x1)))) + x2)) < 180) ∧ j3_tc true d 223 [wO 10 121, wI (σ.2.2 10016 121 (wr ((wr (60 + (wr (6 * x1)))) + x2)))] σ (fun r σ1 => T224 d Q 83 [wO 10 121, wI x1, wI x2] (r.toList ++ []) σ1)) := j3_T.go d [0, 6, 9, 15, 17, 31, 41, 49, 51, 71, 83, 95, 105, 107, 125] 400
set_option maxRecDepth 100000 in
theorem b224_83 {d : Nat} {Q : j3_P} {σ : j3_S} {x1 : Int} {x2 : Int} :
  T224 d Q 83 [wO 10 121, wI x1, wI x2] [] σ = ((0 ≤ (wr ((wr (60 + (wr (6 * x1)))) + x2)) ∧ (wr ((wr (60 + (wr (6 * x1)))) + x2)) < 180) ∧ j3_tc true d 223 [wO 10 121, wI (σ.2.2 10017 121 (wr ((wr (60 + (wr (6 * x1)))) + x2)))] σ (fun r σ1 => T224 d Q 95 [wO 10 121, wI x1, wI x2] (r.toList ++ []) σ1)) := j3_T.go d [0, 6, 9, 15, 17, 31, 41, 49, 51, 71, 83, 95, 105, 107, 125] 400
set_option maxRecDepth 100000 in
theorem b224_95 {d : Nat} {Q : j3_P} {σ : j3_S} {x1 : Int} {x2 : Int} :
  T224 d Q 95 [wO 10 121, wI x1, wI x2] [] σ = T224 d Q 51 [wO 10 121, wI x1, wI (wr (x2 + 1))] [] σ := j3_T.go d [0, 6, 9, 15, 17, 31, 41, 49, 51, 71, 83, 95, 105, 107, 125] 400
set_option maxRecDepth 100000 in
theorem b224_105 {d : Nat} {Q : j3_P} {σ : j3_S} {x1 : Int} {x2 : Int} :
  T224 d Q 105 [wO 10 121, wI x1, wI x2] [] σ = T224 d Q 107 [wO 10 121, wI x1, wI 0] [] σ := j3_T.go d [0, 6, 9, 15, 17, 31, 41, 49, 51, 71, 83, 95, 105, 107, 125] 400
set_option maxRecDepth 100000 in
theorem b224_107 {d : Nat} {Q : j3_P} {σ : j3_S} {x1 : Int} {x2 : Int} :
  T224 d Q 107 [wO 10 121, wI x1, wI x2] [] σ = ((0 ≤ (wr (10 + x1)) ∧ (wr (10 + x1)) < 30) ∧ (if x2 < (σ.2.2 10014 121 (wr (10 + x1))) then ((0 ≤ (wr (10 + x1)) ∧ (wr (10 + x1)) < 30) ∧ j3_tc true d 225 [wO 10 121, wI (wr ((σ.2.2 10013 121 (wr (10 + x1))) + x2))] σ (fun r σ1 => T224 d Q 125 [wO 10 121, wI x1, wI x2] (r.toList ++ []) σ1)) else T224 d Q 17 [wO 10 121, wI (wr (x1 + 1)), wI x2] [] σ)) := j3_T.go d [0, 6, 9, 15, 17, 31, 41, 49, 51, 71, 83, 95, 105, 107, 125] 400
set_option maxRecDepth 100000 in
theorem b224_125 {d : Nat} {Q : j3_P} {σ : j3_S} {x1 : Int} {x2 : Int} :
  T224 d Q 125 [wO 10 121, wI x1, wI x2] [] σ = T224 d Q 107 [wO 10 121, wI x1, wI (wr (x2 + 1))] [] σ := j3_T.go d [0, 6, 9, 15, 17, 31, 41, 49, 51, 71, 83, 95, 105, 107, 125] 400
def T225 (d : Nat) (Q : j3_P) : j3_K := j3_T true (j3_tc true d) jc_X10_writeMethod none Q
theorem e225 {d : Nat} {Q : j3_P} {σ : j3_S} {x1 : Int} : j3_tc true (d + 1) 225 [wO 10 121, wI x1] σ Q = T225 d Q 0 [wO 10 121, wI x1, wM 2, wM 2, wM 2, wM 2, wM 2] [] σ := j3_entry ⟨Nat.le_of_ble_eq_true rfl, rfl⟩
set_option maxRecDepth 100000 in
theorem b225_0 {d : Nat} {Q : j3_P} {σ : j3_S} {x1 : Int} :
  T225 d Q 0 [wO 10 121, wI x1, wM 2, wM 2, wM 2, wM 2, wM 2] [] σ = ((0 ≤ (wr (80 + x1)) ∧ (wr (80 + x1)) < 240) ∧ j3_tc true d 223 [wO 10 121, wI (σ.2.2 10020 121 (wr (80 + x1)))] σ (fun r σ1 => T225 d Q 10 [wO 10 121, wI x1, wI (wr (80 + x1)), wM 2, wM 2, wM 2, wM 2] (r.toList ++ []) σ1)) := j3_T.go d [0, 10, 16, 22, 28, 30, 46, 54, 60, 62, 72, 81, 85, 95, 97, 105, 111, 118, 124, 126, 133] 400
set_option maxRecDepth 100000 in
theorem b225_10 {d : Nat} {Q : j3_P} {σ : j3_S} {x1 : Int} {x2 : Int} :
  T225 d Q 10 [wO 10 121, wI x1, wI x2, wM 2, wM 2, wM 2, wM 2] [] σ = ((0 ≤ x2 ∧ x2 < 240) ∧ j3_tc true d 223 [wO 10 121, wI (σ.2.2 10021 121 x2)] σ (fun r σ1 => T225 d Q 16 [wO 10 121, wI x1, wI x2, wM 2, wM 2, wM 2, wM 2] (r.toList ++ []) σ1)) := j3_T.go d [0, 10, 16, 22, 28, 30, 46, 54, 60, 62, 72, 81, 85, 95, 97, 105, 111, 118, 124, 126, 133] 400
set_option maxRecDepth 100000 in
theorem b225_16 {d : Nat} {Q : j3_P} {σ : j3_S} {x1 : Int} {x2 : Int} :
  T225 d Q 16 [wO 10 121, wI x1, wI x2, wM 2, wM 2, wM 2, wM 2] [] σ = ((0 ≤ x2 ∧ x2 < 240) ∧ j3_tc true d 223 [wO 10 121, wI (σ.2.2 10022 121 x2)] σ (fun r σ1 => T225 d Q 22 [wO 10 121, wI x1, wI x2, wM 2, wM 2, wM 2, wM 2] (r.toList ++ []) σ1)) := j3_T.go d [0, 10, 16, 22, 28, 30, 46, 54, 60, 62, 72, 81, 85, 95, 97, 105, 111, 118, 124, 126, 133] 400
set_option maxRecDepth 100000 in
theorem b225_22 {d : Nat} {Q : j3_P} {σ : j3_S} {x1 : Int} {x2 : Int} :
  T225 d Q 22 [wO 10 121, wI x1, wI x2, wM 2, wM 2, wM 2, wM 2] [] σ = ((0 ≤ x2 ∧ x2 < 240) ∧ j3_tc true d 223 [wO 10 121, wI (σ.2.2 10023 121 x2)] σ (fun r σ1 => T225 d Q 28 [wO 10 121, wI x1, wI x2, wM 2, wM 2, wM 2, wM 2] (r.toList ++ []) σ1)) := j3_T.go d [0, 10, 16, 22, 28, 30, 46, 54, 60, 62, 72, 81, 85, 95, 97, 105, 111, 118, 124, 126, 133] 400
set_option maxRecDepth 100000 in
theorem b225_28 {d : Nat} {Q : j3_P} {σ : j3_S} {x1 : Int} {x2 : Int} :
  T225 d Q 28 [wO 10 121, wI x1, wI x2, wM 2, wM 2, wM 2, wM 2] [] σ = T225 d Q 30 [wO 10 121, wI x1, wI x2, wI 0, wM 2, wM 2, wM 2] [] σ := j3_T.go d [0, 10, 16, 22, 28, 30, 46, 54, 60, 62, 72, 81, 85, 95, 97, 105, 111, 118, 124, 126, 133] 400
set_option maxRecDepth 100000 in
theorem b225_30 {d : Nat} {Q : j3_P} {σ : j3_S} {x1 : Int} {x2 : Int} {x3 : Int} :
  T225 d Q 30 [wO 10 121, wI x1, wI x2, wI x3, wM 2, wM 2, wM 2] [] σ = ((0 ≤ x2 ∧ x2 < 240) ∧ (if x3 < (σ.2.2 10023 121 x2) then ((0 ≤ (wr ((wr (3 * x2)) + x3)) ∧ (wr ((wr (3 * x2)) + x3)) < 720) ∧ j3_tc true d 223 [wO 10 121, wI (σ.2.2 10024 121 (wr ((wr (3 * x2)) + x3)))] σ (fun r σ1 => T225 d Q 46 [wO 10 121, wI x1, wI x2, wI x3, wM 2, wM 2, wM 2] (r.toList ++ []) σ1)) else ((0 ≤ x2 ∧ x2 < 240) ∧ j3_tc true d 223 [wO 10 121, wI (σ.2.2 10025 121 x2)] σ (fun r σ1 => T225 d Q 54 [wO 10 121, wI x1, wI x2, wI x3, wM 2, wM 2, wM 2] (r.toList ++ []) σ1)))) := j3_T.go d [0, 10, 16, 22, 28, 30, 46, 54, 60, 62, 72, 81, 85, 95, 97, 105, 111, 118, 124, 126, 133] 400
set_option maxRecDepth 100000 in
theorem b225_46 {d : Nat} {Q : j3_P} {σ : j3_S} {x1 : Int} {x2 : Int} {x3 : Int} :
  T225 d Q 46 [wO 10 121, wI x1, wI x2, wI x3, wM 2, wM 2, wM 2] [] σ = T225 d Q 30 [wO 10 121, wI x1, wI x2, wI (wr (x3 + 1)), wM 2, wM 2, wM 2] [] σ := j3_T.go d [0, 10, 16, 22, 28, 30, 46, 54, 60, 62, 72, 81, 85, 95, 97, 105, 111, 118, 124, 126, 133] 400
set_option maxRecDepth 100000 in
theorem b225_54 {d : Nat} {Q : j3_P} {σ : j3_S} {x1 : Int} {x2 : Int} {x3 : Int} :
  T225 d Q 54 [wO 10 121, wI x1, wI x2, wI x3, wM 2, wM 2, wM 2] [] σ = ((0 ≤ x2 ∧ x2 < 240) ∧ j3_tc true d 223 [wO 10 121, wI (σ.2.2 10026 121 x2)] σ (fun r σ1 => T225 d Q 60 [wO 10 121, wI x1, wI x2, wI x3, wM 2, wM 2, wM 2] (r.toList ++ []) σ1)) := j3_T.go d [0, 10, 16, 22, 28, 30, 46, 54, 60, 62, 72, 81, 85, 95, 97, 105, 111, 118, 124, 126, 133] 400
set_option maxRecDepth 100000 in
theorem b225_60 {d : Nat} {Q : j3_P} {σ : j3_S} {x1 : Int} {x2 : Int} {x3 : Int} :
  T225 d Q 60 [wO 10 121, wI x1, wI x2, wI x3, wM 2, wM 2, wM 2] [] σ = T225 d Q 62 [wO 10 121, wI x1, wI x2, wI 0, wM 2, wM 2, wM 2] [] σ := j3_T.go d [0, 10, 16, 22, 28, 30, 46, 54, 60, 62, 72, 81, 85, 95, 97, 105, 111, 118, 124, 126, 133] 400
set_option maxRecDepth 100000 in
theorem b225_62 {d : Nat} {Q : j3_P} {σ : j3_S} {x1 : Int} {x2 : Int} {x3 : Int} {w4 : j3_W} {w5 : j3_W} {w6 : j3_W} :
  T225 d Q 62 [wO 10 121, wI x1, wI x2, wI x3, w4, w5, w6] [] σ = ((0 ≤ x2 ∧ x2 < 240) ∧ (if x3 < (σ.2.2 10026 121 x2) then j3_tc true d 160 [wI 1, wI x1, wI x3] σ (fun r σ1 => T225 d Q 72 [wO 10 121, wI x1, wI x2, wI x3, w4, w5, w6] (r.toList ++ []) σ1) else Q none σ)) := j3_T.go d [0, 10, 16, 22, 28, 30, 46, 54, 60, 62, 72, 81, 85, 95, 97, 105, 111, 118, 124, 126, 133] 400
set_option maxRecDepth 100000 in
theorem b225_72 {d : Nat} {Q : j3_P} {σ : j3_S} {x1 : Int} {x2 : Int} {x3 : Int} {w4 : j3_W} {w5 : j3_W} {w6 : j3_W} {xs0 : Int} :
  T225 d Q 72 [wO 10 121, wI x1, wI x2, wI x3, w4, w5, w6] [wI xs0] σ = ((0 ≤ xs0 ∧ xs0 < 28800) ∧ j3_tc true d 223 [wO 10 121, wI (σ.2.2 10027 121 xs0)] σ (fun r σ1 => T225 d Q 81 [wO 10 121, wI x1, wI x2, wI x3, wI xs0, wI (σ.2.2 10027 121 xs0), w6] (r.toList ++ []) σ1)) := j3_T.go d [0, 10, 16, 22, 28, 30, 46, 54, 60, 62, 72, 81, 85, 95, 97, 105, 111, 118, 124, 126, 133] 400
set_option maxRecDepth 100000 in
theorem b225_81 {d : Nat} {Q : j3_P} {σ : j3_S} {x1 : Int} {x2 : Int} {x3 : Int} {x4 : Int} {x5 : Int} {w6 : j3_W} :
  T225 d Q 81 [wO 10 121, wI x1, wI x2, wI x3, wI x4, wI x5, w6] [] σ = (if x5 = 0 then T225 d Q 85 [wO 10 121, wI x1, wI x2, wI x3, wI x4, wI x5, wI 24] [] σ else T225 d Q 97 [wO 10 121, wI x1, wI x2, wI x3, wI x4, wI x5, w6] [] σ) := j3_T.go d [0, 10, 16, 22, 28, 30, 46, 54, 60, 62, 72, 81, 85, 95, 97, 105, 111, 118, 124, 126, 133] 400
set_option maxRecDepth 100000 in
theorem b225_85 {d : Nat} {Q : j3_P} {σ : j3_S} {x1 : Int} {x2 : Int} {x3 : Int} {x4 : Int} {x5 : Int} {x6 : Int} :
  T225 d Q 85 [wO 10 121, wI x1, wI x2, wI x3, wI x4, wI x5, wI x6] [] σ = (if x6 < 0 then T225 d Q 97 [wO 10 121, wI x1, wI x2, wI x3, wI x4, wI x5, wI x6] [] σ else ((0 ≤ x4 ∧ x4 < 28800) ∧ j3_tc true d 223 [wO 10 121, wI (i_sr (σ.2.2 10028 121 x4) x6)] σ (fun r σ1 => T225 d Q 95 [wO 10 121, wI x1, wI x2, wI x3, wI x4, wI x5, wI x6] (r.toList ++ []) σ1))) := j3_T.go d [0, 10, 16, 22, 28, 30, 46, 54, 60, 62, 72, 81, 85, 95, 97, 105, 111, 118, 124, 126, 133] 400
set_option maxRecDepth 100000 in
theorem b225_95 {d : Nat} {Q : j3_P} {σ : j3_S} {x1 : Int} {x2 : Int} {x3 : Int} {x4 : Int} {x5 : Int} {x6 : Int} :
  T225 d Q 95 [wO 10 121, wI x1, wI x2, wI x3, wI x4, wI x5, wI x6] [] σ = T225 d Q 85 [wO 10 121, wI x1, wI x2, wI x3, wI x4, wI x5, wI (wr (x6 + (-8)))] [] σ := j3_T.go d [0, 10, 16, 22, 28, 30, 46, 54, 60, 62, 72, 81, 85, 95, 97, 105, 111, 118, 124, 126, 133] 400
set_option maxRecDepth 100000 in
theorem b225_97 {d : Nat} {Q : j3_P} {σ : j3_S} {x1 : Int} {x2 : Int} {x3 : Int} {x4 : Int} {x5 : Int} {w6 : j3_W} :
  T225 d Q 97 [wO 10 121, wI x1, wI x2, wI x3, wI x4, wI x5, w6] [] σ = (if x5 = (2 : Int) then T225 d Q 118 [wO 10 121, wI x1, wI x2, wI x3, wI x4, wI x5, w6] [] σ else (if x5 = (3 : Int) then T225 d Q 118 [wO 10 121, wI x1, wI x2, wI x3, wI x4, wI x5, w6] [] σ else j3_tc true d 164 [wI x5] σ (fun r σ1 => T225 d Q 105 [wO 10 121, wI x1, wI x2, wI x3, wI x4, wI x5, w6] (r.toList ++ []) σ1))) := j3_T.go d [0, 10, 16, 22, 28, 30, 46, 54, 60, 62, 72, 81, 85, 95, 97, 105, 111, 118, 124, 126, 133] 400
set_option maxRecDepth 100000 in
theorem b225_105 {d : Nat} {Q : j3_P} {σ : j3_S} {x1 : Int} {x2 : Int} {x3 : Int} {x4 : Int} {x5 : Int} {w6 : j3_W} {xs0 : Int} :
  T225 d Q 105 [wO 10 121, wI x1, wI x2, wI x3, wI x4, wI x5, w6] [wI xs0] σ = (if xs0 = 0 then (if x5 = (15 : Int) then T225 d Q 118 [wO 10 121, wI x1, wI x2, wI x3, wI x4, wI x5, w6] [] σ else j3_tc true d 165 [wI x5] σ (fun r σ1 => T225 d Q 111 [wO 10 121, wI x1, wI x2, wI x3, wI x4, wI x5, w6] (r.toList ++ []) σ1)) else T225 d Q 118 [wO 10 121, wI x1, wI x2, wI x3, wI x4, wI x5, w6] [] σ) := j3_T.go d [0, 10, 16, 22, 28, 30, 46, 54, 60, 62, 72, 81, 85, 95, 97, 105, 111, 118, 124, 126, 133] 400
set_option maxRecDepth 100000 in
theorem b225_111 {d : Nat} {Q : j3_P} {σ : j3_S} {x1 : Int} {x2 : Int} {x3 : Int} {x4 : Int} {x5 : Int} {w6 : j3_W} {xs0 : Int} :
  T225 d Q 111 [wO 10 121, wI x1, wI x2, wI x3, wI x4, wI x5, w6] [wI xs0] σ = (if xs0 = 0 then (if x5 = (24 : Int) then T225 d Q 118 [wO 10 121, wI x1, wI x2, wI x3, wI x4, wI x5, w6] [] σ else (if x5 = (25 : Int) then T225 d Q 118 [wO 10 121, wI x1, wI x2, wI x3, wI x4, wI x5, w6] [] σ else T225 d Q 124 [wO 10 121, wI x1, wI x2, wI x3, wI x4, wI x5, w6] [] σ)) else T225 d Q 118 [wO 10 121, wI x1, wI x2, wI x3, wI x4, wI x5, w6] [] σ) := j3_T.go d [0, 10, 16, 22, 28, 30, 46, 54, 60, 62, 72, 81, 85, 95, 97, 105, 111, 118, 124, 126, 133] 400
set_option maxRecDepth 100000 in
theorem b225_118 {d : Nat} {Q : j3_P} {σ : j3_S} {x1 : Int} {x2 : Int} {x3 : Int} {x4 : Int} {x5 : Int} {w6 : j3_W} :
  T225 d Q 118 [wO 10 121, wI x1, wI x2, wI x3, wI x4, wI x5, w6] [] σ = ((0 ≤ x4 ∧ x4 < 28800) ∧ j3_tc true d 223 [wO 10 121, wI (σ.2.2 10028 121 x4)] σ (fun r σ1 => T225 d Q 124 [wO 10 121, wI x1, wI x2, wI x3, wI x4, wI x5, w6] (r.toList ++ []) σ1)) := j3_T.go d [0, 10, 16, 22, 28, 30, 46, 54, 60, 62, 72, 81, 85, 95, 97, 105, 111, 118, 124, 126, 133] 400
set_option maxRecDepth 100000 in
theorem b225_124 {d : Nat} {Q : j3_P} {σ : j3_S} {x1 : Int} {x2 : Int} {x3 : Int} {x4 : Int} {x5 : Int} {w6 : j3_W} :
  T225 d Q 124 [wO 10 121, wI x1, wI x2, wI x3, wI x4, wI x5, w6] [] σ = j3_tc true d 165 [wI x5] σ (fun r σ1 => T225 d Q 126 [wO 10 121, wI x1, wI x2, wI x3, wI x4, wI x5, w6] (r.toList ++ []) σ1) := j3_T.go d [0, 10, 16, 22, 28, 30, 46, 54, 60, 62, 72, 81, 85, 95, 97, 105, 111, 118, 124, 126, 133] 400
set_option maxRecDepth 100000 in
theorem b225_126 {d : Nat} {Q : j3_P} {σ : j3_S} {x1 : Int} {x2 : Int} {x3 : Int} {x4 : Int} {x5 : Int} {w6 : j3_W} {xs0 : Int} :
  T225 d Q 126 [wO 10 121, wI x1, wI x2, wI x3, wI x4, wI x5, w6] [wI xs0] σ = (if xs0 = 0 then T225 d Q 133 [wO 10 121, wI x1, wI x2, wI x3, wI x4, wI x5, w6] [] σ else ((0 ≤ x4 ∧ x4 < 28800) ∧ j3_tc true d 223 [wO 10 121, wI (σ.2.2 10029 121 x4)] σ (fun r σ1 => T225 d Q 133 [wO 10 121, wI x1, wI x2, wI x3, wI x4, wI x5, w6] (r.toList ++ []) σ1))) := j3_T.go d [0, 10, 16, 22, 28, 30, 46, 54, 60, 62, 72, 81, 85, 95, 97, 105, 111, 118, 124, 126, 133] 400
set_option maxRecDepth 100000 in
theorem b225_133 {d : Nat} {Q : j3_P} {σ : j3_S} {x1 : Int} {x2 : Int} {x3 : Int} {x4 : Int} {x5 : Int} {w6 : j3_W} :
  T225 d Q 133 [wO 10 121, wI x1, wI x2, wI x3, wI x4, wI x5, w6] [] σ = T225 d Q 62 [wO 10 121, wI x1, wI x2, wI (wr (x3 + 1)), wI x4, wI x5, w6] [] σ := j3_T.go d [0, 10, 16, 22, 28, 30, 46, 54, 60, 62, 72, 81, 85, 95, 97, 105, 111, 118, 124, 126, 133] 400
def T226 (d : Nat) (Q : j3_P) : j3_K := j3_T true (j3_tc true d) jc_X10_shrink (some .int) Q
theorem e226 {d : Nat} {Q : j3_P} {σ : j3_S} {x1 : Int} : j3_tc true (d + 1) 226 [wO 10 121, wI x1] σ Q = T226 d Q 0 [wO 10 121, wI x1, wM 2] [] σ := j3_entry ⟨Nat.le_of_ble_eq_true rfl, rfl⟩
set_option maxRecDepth 100000 in
theorem b226_0 {d : Nat} {Q : j3_P} {σ : j3_S} {x1 : Int} :
  T226 d Q 0 [wO 10 121, wI x1, wM 2] [] σ = (if x1 < 0 then T226 d Q 8 [wO 10 121, wI x1, wM 2] [] ((j3_up σ.1 10000 121 0), σ.2.1, σ.2.2) else (if (12 : Int) < x1 then T226 d Q 8 [wO 10 121, wI x1, wM 2] [] ((j3_up σ.1 10000 121 0), σ.2.1, σ.2.2) else (if (σ.1 10043 121) = 0 then T226 d Q 19 [wO 10 121, wI x1, wM 2] [] ((j3_up σ.1 10000 121 0), σ.2.1, σ.2.2) else (if (σ.1 10045 121) = 0 then T226 d Q 19 [wO 10 121, wI x1, wM 2] [] ((j3_up σ.1 10000 121 0), σ.2.1, σ.2.2) else T226 d Q 26 [wO 10 121, wI x1, wI 0] [] ((j3_up σ.1 10000 121 0), σ.2.1, σ.2.2))))) := j3_T.go d [0, 8, 19, 26, 39, 41, 53, 61, 65, 80, 84, 98, 103, 105, 107, 109, 111, 113] 400
set_option maxRecDepth 100000 in
theorem b226_8 {d : Nat} {Q : j3_P} {σ : j3_S} {x1 : Int} :
  T226 d Q 8 [wO 10 121, wI x1, wM 2] [] σ = Q (some (wI 0)) ((j3_up σ.1 10000 121 1), σ.2.1, σ.2.2) := j3_T.go d [0, 8, 19, 26, 39, 41, 53, 61, 65, 80, 84, 98, 103, 105, 107, 109, 111, 113] 400
set_option maxRecDepth 100000 in
theorem b226_19 {d : Nat} {Q : j3_P} {σ : j3_S} {x1 : Int} :
  T226 d Q 19 [wO 10 121, wI x1, wM 2] [] σ = Q (some (wI 0)) ((j3_up σ.1 10000 121 2), σ.2.1, σ.2.2) := j3_T.go d [0, 8, 19, 26, 39, 41, 53, 61, 65, 80, 84, 98, 103, 105, 107, 109, 111, 113] 400
set_option maxRecDepth 100000 in
theorem b226_26 {d : Nat} {Q : j3_P} {σ : j3_S} {x1 : Int} {x2 : Int} :
  T226 d Q 26 [wO 10 121, wI x1, wI x2] [] σ = (if x2 < (23 : Int) then ((0 ≤ x2 ∧ x2 < 23) ∧ T226 d Q 26 [wO 10 121, wI x1, wI (wr (x2 + 1))] [] (σ.1, σ.2.1, (j3_ast σ.2.2 10052 121 x2 0))) else j3_tc true d 194 [wO 10 121, wI 0] σ (fun r σ1 => T226 d Q 39 [wO 10 121, wI x1, wI x2] (r.toList ++ []) σ1)) := j3_T.go d [0, 8, 19, 26, 39, 41, 53, 61, 65, 80, 84, 98, 103, 105, 107, 109, 111, 113] 400
set_option maxRecDepth 100000 in
theorem b226_39 {d : Nat} {Q : j3_P} {σ : j3_S} {x1 : Int} {x2 : Int} :
  T226 d Q 39 [wO 10 121, wI x1, wI x2] [] σ = T226 d Q 41 [wO 10 121, wI x1, wI 0] [] σ := j3_T.go d [0, 8, 19, 26, 39, 41, 53, 61, 65, 80, 84, 98, 103, 105, 107, 109, 111, 113] 400
set_option maxRecDepth 100000 in
theorem b226_41 {d : Nat} {Q : j3_P} {σ : j3_S} {x1 : Int} {x2 : Int} :
  T226 d Q 41 [wO 10 121, wI x1, wI x2] [] σ = ((0 ≤ (0 : Int) ∧ (0 : Int) < 3) ∧ (if x2 < (σ.2.2 10018 121 0) then j3_tc true d 181 [wO 10 121, wI 0, wI x2, wI 2, wI x2] σ (fun r σ1 => T226 d Q 53 [wO 10 121, wI x1, wI x2] (r.toList ++ []) σ1) else T226 d Q 65 [wO 10 121, wI x1, wI 0] [] σ)) := j3_T.go d [0, 8, 19, 26, 39, 41, 53, 61, 65, 80, 84, 98, 103, 105, 107, 109, 111, 113] 400
set_option maxRecDepth 100000 in
theorem b226_53 {d : Nat} {Q : j3_P} {σ : j3_S} {x1 : Int} {x2 : Int} :
  T226 d Q 53 [wO 10 121, wI x1, wI x2] [] σ = ((0 ≤ x2 ∧ x2 < 80) ∧ (if (σ.2.2 10049 121 x2) = 0 then T226 d Q 61 [wO 10 121, wI x1, wI x2] [] σ else j3_tc true d 196 [wO 10 121, wI x2] σ (fun r σ1 => T226 d Q 61 [wO 10 121, wI x1, wI x2] (r.toList ++ []) σ1))) := j3_T.go d [0, 8, 19, 26, 39, 41, 53, 61, 65, 80, 84, 98, 103, 105, 107, 109, 111, 113] 400
set_option maxRecDepth 100000 in
theorem b226_61 {d : Nat} {Q : j3_P} {σ : j3_S} {x1 : Int} {x2 : Int} :
  T226 d Q 61 [wO 10 121, wI x1, wI x2] [] σ = T226 d Q 41 [wO 10 121, wI x1, wI (wr (x2 + 1))] [] σ := j3_T.go d [0, 8, 19, 26, 39, 41, 53, 61, 65, 80, 84, 98, 103, 105, 107, 109, 111, 113] 400
set_option maxRecDepth 100000 in
theorem b226_65 {d : Nat} {Q : j3_P} {σ : j3_S} {x1 : Int} {x2 : Int} :
  T226 d Q 65 [wO 10 121, wI x1, wI x2] [] σ = ((0 ≤ (0 : Int) ∧ (0 : Int) < 3) ∧ (if x2 < (σ.2.2 10018 121 0) then ((0 ≤ x2 ∧ x2 < 80) ∧ (if (σ.2.2 10049 121 x2) = 0 then T226 d Q 80 [wO 10 121, wI x1, wI x2] [] σ else j3_tc true d 199 [wO 10 121, wI x2, wI x1] σ (fun r σ1 => T226 d Q 80 [wO 10 121, wI x1, wI x2] (r.toList ++ []) σ1))) else T226 d Q 84 [wO 10 121, wI x1, wI 0] [] σ)) := j3_T.go d [0, 8, 19, 26, 39, 41, 53, 61, 65, 80, 84, 98, 103, 105, 107, 109, 111, 113] 400
set_option maxRecDepth 100000 in
theorem b226_80 {d : Nat} {Q : j3_P} {σ : j3_S} {x1 : Int} {x2 : Int} :
  T226 d Q 80 [wO 10 121, wI x1, wI x2] [] σ = T226 d Q 65 [wO 10 121, wI x1, wI (wr (x2 + 1))] [] σ := j3_T.go d [0, 8, 19, 26, 39, 41, 53, 61, 65, 80, 84, 98, 103, 105, 107, 109, 111, 113] 400
set_option maxRecDepth 100000 in
theorem b226_84 {d : Nat} {Q : j3_P} {σ : j3_S} {x1 : Int} {x2 : Int} :
  T226 d Q 84 [wO 10 121, wI x1, wI x2] [] σ = ((0 ≤ (0 : Int) ∧ (0 : Int) < 3) ∧ (if x2 < (σ.2.2 10018 121 0) then ((0 ≤ x2 ∧ x2 < 80) ∧ (if (σ.2.2 10049 121 x2) = 0 then T226 d Q 98 [wO 10 121, wI x1, wI x2] [] σ else j3_tc true d 212 [wO 10 121, wI x2] σ (fun r σ1 => T226 d Q 98 [wO 10 121, wI x1, wI x2] (r.toList ++ []) σ1))) else j3_tc true d 194 [wO 10 121, wI 2] σ (fun r σ1 => T226 d Q 103 [wO 10 121, wI x1, wI x2] (r.toList ++ []) σ1))) := j3_T.go d [0, 8, 19, 26, 39, 41, 53, 61, 65, 80, 84, 98, 103, 105, 107, 109, 111, 113] 400
set_option maxRecDepth 100000 in
theorem b226_98 {d : Nat} {Q : j3_P} {σ : j3_S} {x1 : Int} {x2 : Int} :
  T226 d Q 98 [wO 10 121, wI x1, wI x2] [] σ = T226 d Q 84 [wO 10 121, wI x1, wI (wr (x2 + 1))] [] σ := j3_T.go d [0, 8, 19, 26, 39, 41, 53, 61, 65, 80, 84, 98, 103, 105, 107, 109, 111, 113] 400
set_option maxRecDepth 100000 in
theorem b226_103 {d : Nat} {Q : j3_P} {σ : j3_S} {x1 : Int} {x2 : Int} :
  T226 d Q 103 [wO 10 121, wI x1, wI x2] [] σ = j3_tc true d 215 [wO 10 121] σ (fun r σ1 => T226 d Q 105 [wO 10 121, wI x1, wI x2] (r.toList ++ []) σ1) := j3_T.go d [0, 8, 19, 26, 39, 41, 53, 61, 65, 80, 84, 98, 103, 105, 107, 109, 111, 113] 400
set_option maxRecDepth 100000 in
theorem b226_105 {d : Nat} {Q : j3_P} {σ : j3_S} {x1 : Int} {x2 : Int} :
  T226 d Q 105 [wO 10 121, wI x1, wI x2] [] σ = j3_tc true d 217 [wO 10 121] σ (fun r σ1 => T226 d Q 107 [wO 10 121, wI x1, wI x2] (r.toList ++ []) σ1) := j3_T.go d [0, 8, 19, 26, 39, 41, 53, 61, 65, 80, 84, 98, 103, 105, 107, 109, 111, 113] 400
set_option maxRecDepth 100000 in
theorem b226_107 {d : Nat} {Q : j3_P} {σ : j3_S} {x1 : Int} {x2 : Int} :
  T226 d Q 107 [wO 10 121, wI x1, wI x2] [] σ = j3_tc true d 219 [wO 10 121] σ (fun r σ1 => T226 d Q 109 [wO 10 121, wI x1, wI x2] (r.toList ++ []) σ1) := j3_T.go d [0, 8, 19, 26, 39, 41, 53, 61, 65, 80, 84, 98, 103, 105, 107, 109, 111, 113] 400
set_option maxRecDepth 100000 in
theorem b226_109 {d : Nat} {Q : j3_P} {σ : j3_S} {x1 : Int} {x2 : Int} :
  T226 d Q 109 [wO 10 121, wI x1, wI x2] [] σ = j3_tc true d 221 [wO 10 121] σ (fun r σ1 => T226 d Q 111 [wO 10 121, wI x1, wI x2] (r.toList ++ []) σ1) := j3_T.go d [0, 8, 19, 26, 39, 41, 53, 61, 65, 80, 84, 98, 103, 105, 107, 109, 111, 113] 400
set_option maxRecDepth 100000 in
theorem b226_111 {d : Nat} {Q : j3_P} {σ : j3_S} {x1 : Int} {x2 : Int} :
  T226 d Q 111 [wO 10 121, wI x1, wI x2] [] σ = j3_tc true d 224 [wO 10 121] σ (fun r σ1 => T226 d Q 113 [wO 10 121, wI x1, wI x2] (r.toList ++ []) σ1) := j3_T.go d [0, 8, 19, 26, 39, 41, 53, 61, 65, 80, 84, 98, 103, 105, 107, 109, 111, 113] 400
set_option maxRecDepth 100000 in
theorem b226_113 {d : Nat} {Q : j3_P} {σ : j3_S} {x1 : Int} {x2 : Int} :
  T226 d Q 113 [wO 10 121, wI x1, wI x2] [] σ = (((1 : Int) = 0 ∨ (1 : Int) = 1) ∧ Q (some (wI (σ.1 10076 121))) ((j3_up σ.1 10044 121 1), σ.2.1, σ.2.2)) := j3_T.go d [0, 8, 19, 26, 39, 41, 53, 61, 65, 80, 84, 98, 103, 105, 107, 109, 111, 113] 400
def T227 (d : Nat) (Q : j3_P) : j3_K := j3_T true (j3_tc true d) jc_X10_out (some .int) Q
theorem e227 {d : Nat} {Q : j3_P} {σ : j3_S} {x1 : Int} : j3_tc true (d + 1) 227 [wO 10 121, wI x1] σ Q = T227 d Q 0 [wO 10 121, wI x1] [] σ := j3_entry ⟨Nat.le_of_ble_eq_true rfl, rfl⟩
set_option maxRecDepth 100000 in
theorem b227_0 {d : Nat} {Q : j3_P} {σ : j3_S} {x1 : Int} :
  T227 d Q 0 [wO 10 121, wI x1] [] σ = (if (σ.1 10044 121) = 0 then T227 d Q 12 [wO 10 121, wI x1] [] ((j3_up σ.1 10000 121 0), σ.2.1, σ.2.2) else (if x1 < 0 then T227 d Q 12 [wO 10 121, wI x1] [] ((j3_up σ.1 10000 121 0), σ.2.1, σ.2.2) else (if x1 < (σ.1 10076 121) then ((0 ≤ x1 ∧ x1 < 60000) ∧ Q (some (wI (σ.2.2 10075 121 x1))) ((j3_up σ.1 10000 121 0), σ.2.1, σ.2.2)) else T227 d Q 12 [wO 10 121, wI x1] [] ((j3_up σ.1 10000 121 0), σ.2.1, σ.2.2)))) := j3_T.go d [0, 12] 400
set_option maxRecDepth 100000 in
theorem b227_12 {d : Nat} {Q : j3_P} {σ : j3_S} {x1 : Int} :
  T227 d Q 12 [wO 10 121, wI x1] [] σ = Q (some (wI (-1))) σ := j3_T.go d [0, 12] 400
def T228 (d : Nat) (Q : j3_P) : j3_K := j3_T true (j3_tc true d) jc_X10_kept (some .int) Q
theorem e228 {d : Nat} {Q : j3_P} {σ : j3_S} {x1 : Int} {x2 : Int} {x3 : Int} : j3_tc true (d + 1) 228 [wO 10 121, wI x1, wI x2, wI x3] σ Q = T228 d Q 0 [wO 10 121, wI x1, wI x2, wI x3] [] σ := j3_entry ⟨Nat.le_of_ble_eq_true rfl, rfl⟩
set_option maxRecDepth 100000 in
theorem b228_0 {d : Nat} {Q : j3_P} {σ : j3_S} {x1 : Int} {x2 : Int} {x3 : Int} :
  T228 d Q 0 [wO 10 121, wI x1, wI x2, wI x3] [] σ = (if (σ.1 10044 121) = 0 then Q (some (wI (-1))) ((j3_up σ.1 10000 121 0), σ.2.1, σ.2.2) else (if x2 < 0 then Q (some (wI (-1))) ((j3_up σ.1 10000 121 0), σ.2.1, σ.2.2) else ((0 ≤ (0 : Int) ∧ (0 : Int) < 3) ∧ (if x2 < (σ.2.2 10009 121 0) then (if x1 = 0 then ((0 ≤ x2 ∧ x2 < 10) ∧ Q (some (wI (σ.2.2 10069 121 x2))) ((j3_up σ.1 10000 121 0), σ.2.1, σ.2.2)) else (if x1 = (1 : Int) then (if x3 < 0 then T228 d Q 34 [wO 10 121, wI x1, wI x2, wI x3] [] ((j3_up σ.1 10000 121 0), σ.2.1, σ.2.2) else ((0 ≤ x2 ∧ x2 < 30) ∧ (if x3 < (σ.2.2 10012 121 x2) then ((0 ≤ (wr ((wr (6 * x2)) + x3)) ∧ (wr ((wr (6 * x2)) + x3)) < 60) ∧ Q (some (wI (σ.2.2 10070 121 (wr ((wr (6 * x2)) + x3))))) ((j3_up σ.1 10000 121 0), σ.2.1, σ.2.2)) else T228 d Q 34 [wO 10 121, wI x1, wI x2, wI x3] [] ((j3_up σ.1 10000 121 0), σ.2.1, σ.2.2)))) else (if x1 = (2 : Int) then (if x3 < 0 then T228 d Q 56 [wO 10 121, wI x1, wI x2, wI x3] [] ((j3_up σ.1 10000 121 0), σ.2.1, σ.2.2) else ((0 ≤ x2 ∧ x2 < 30) ∧ (if x3 < (σ.2.2 10014 121 x2) then ((0 ≤ x2 ∧ x2 < 30) ∧ ((0 ≤ (wr ((σ.2.2 10013 121 x2) + x3)) ∧ (wr ((σ.2.2 10013 121 x2) + x3)) < 80) ∧ Q (some (wI (σ.2.2 10071 121 (wr ((σ.2.2 10013 121 x2) + x3))))) ((j3_up σ.1 10000 121 0), σ.2.1, σ.2.2))) else T228 d Q 56 [wO 10 121, wI x1, wI x2, wI x3] [] ((j3_up σ.1 10000 121 0), σ.2.1, σ.2.2)))) else T228 d Q 56 [wO 10 121, wI x1, wI x2, wI x3] [] ((j3_up σ.1 10000 121 0), σ.2.1, σ.2.2)))) else Q (some (wI (-1))) ((j3_up σ.1 10000 121 0), σ.2.1, σ.2.2))))) := j3_T.go d [0, 34, 56] 400
set_option maxRecDepth 100000 in
theorem b228_34 {d : Nat} {Q : j3_P} {σ : j3_S} {x1 : Int} {x2 : Int} {x3 : Int} :
  T228 d Q 34 [wO 10 121, wI x1, wI x2, wI x3] [] σ = Q (some (wI (-1))) σ := j3_T.go d [0, 34, 56] 400
set_option maxRecDepth 100000 in
theorem b228_56 {d : Nat} {Q : j3_P} {σ : j3_S} {x1 : Int} {x2 : Int} {x3 : Int} :
  T228 d Q 56 [wO 10 121, wI x1, wI x2, wI x3] [] σ = Q (some (wI (-1))) σ := j3_T.go d [0, 34, 56] 400
def T229 (d : Nat) (Q : j3_P) : j3_K := j3_T true (j3_tc true d) jc_X10_made (some .int) Q
theorem e229 {d : Nat} {Q : j3_P} {σ : j3_S} {x1 : Int} : j3_tc true (d + 1) 229 [wO 10 121, wI x1] σ Q = T229 d Q 0 [wO 10 121, wI x1] [] σ := j3_entry ⟨Nat.le_of_ble_eq_true rfl, rfl⟩
set_option maxRecDepth 100000 in
theorem b229_0 {d : Nat} {Q : j3_P} {σ : j3_S} {x1 : Int} :
  T229 d Q 0 [wO 10 121, wI x1] [] σ = (if x1 < 0 then T229 d Q 8 [wO 10 121, wI x1] [] ((j3_up σ.1 10000 121 0), σ.2.1, σ.2.2) else (if (3 : Int) < x1 then T229 d Q 8 [wO 10 121, wI x1] [] ((j3_up σ.1 10000 121 0), σ.2.1, σ.2.2) else T229 d Q 16 [wO 10 121, wI x1] [] ((j3_up σ.1 10000 121 0), σ.2.1, σ.2.2))) := j3_T.go d [0, 8, 16] 400
set_option maxRecDepth 100000 in
theorem b229_8 {d : Nat} {Q : j3_P} {σ : j3_S} {x1 : Int} :
  T229 d Q 8 [wO 10 121, wI x1] [] σ = (if x1 < (11 : Int) then Q (some (wI (-1))) σ else (if (22 : Int) < x1 then Q (some (wI (-1))) σ else T229 d Q 16 [wO 10 121, wI x1] [] σ)) := j3_T.go d [0, 8, 16] 400
set_option maxRecDepth 100000 in
theorem b229_16 {d : Nat} {Q : j3_P} {σ : j3_S} {x1 : Int} :
  T229 d Q 16 [wO 10 121, wI x1] [] σ = (if (σ.1 10044 121) = 0 then Q (some (wI 0)) σ else ((0 ≤ x1 ∧ x1 < 23) ∧ Q (some (wI (σ.2.2 10052 121 x1))) σ)) := j3_T.go d [0, 8, 16] 400
def T230 (d : Nat) (Q : j3_P) : j3_K := j3_T true (j3_tc true d) jc_X10_origin (some .int) Q
theorem e230 {d : Nat} {Q : j3_P} {σ : j3_S} {x1 : Int} {x2 : Int} {x3 : Int} : j3_tc true (d + 1) 230 [wO 10 121, wI x1, wI x2, wI x3] σ Q = T230 d Q 0 [wO 10 121, wI x1, wI x2, wI x3, wM 2] [] σ := j3_entry ⟨Nat.le_of_ble_eq_true rfl, rfl⟩
set_option maxRecDepth 100000 in
theorem b230_0 {d : Nat} {Q : j3_P} {σ : j3_S} {x1 : Int} {x2 : Int} {x3 : Int} :
  T230 d Q 0 [wO 10 121, wI x1, wI x2, wI x3, wM 2] [] σ = (if (σ.1 10044 121) = 0 then Q (some (wI (-1))) ((j3_up σ.1 10000 121 0), σ.2.1, σ.2.2) else (if x1 < 0 then Q (some (wI (-1))) ((j3_up σ.1 10000 121 0), σ.2.1, σ.2.2) else ((0 ≤ (1 : Int) ∧ (1 : Int) < 3) ∧ (if x1 < (σ.2.2 10018 121 1) then (if x2 < 0 then Q (some (wI (-1))) ((j3_up σ.1 10000 121 0), σ.2.1, σ.2.2) else ((0 ≤ (wr (80 + x1)) ∧ (wr (80 + x1)) < 240) ∧ (if x2 < (σ.2.2 10026 121 (wr (80 + x1))) then j3_tc true d 160 [wI 1, wI x1, wI x2] ((j3_up σ.1 10000 121 0), σ.2.1, σ.2.2) (fun r σ1 => T230 d Q 30 [wO 10 121, wI x1, wI x2, wI x3, wM 2] (r.toList ++ []) σ1) else Q (some (wI (-1))) ((j3_up σ.1 10000 121 0), σ.2.1, σ.2.2)))) else Q (some (wI (-1))) ((j3_up σ.1 10000 121 0), σ.2.1, σ.2.2))))) := j3_T.go d [0, 30, 39] 400
set_option maxRecDepth 100000 in
theorem b230_30 {d : Nat} {Q : j3_P} {σ : j3_S} {x1 : Int} {x2 : Int} {x3 : Int} {xs0 : Int} :
  T230 d Q 30 [wO 10 121, wI x1, wI x2, wI x3, wM 2] [wI xs0] σ = (if x3 < 0 then T230 d Q 39 [wO 10 121, wI x1, wI x2, wI x3, wI xs0] [] σ else ((0 ≤ xs0 ∧ xs0 < 28800) ∧ (if x3 < (σ.2.2 10030 121 xs0) then (if x3 = 0 then ((0 ≤ xs0 ∧ xs0 < 28800) ∧ Q (some (wI (σ.2.2 10031 121 xs0))) σ) else ((0 ≤ xs0 ∧ xs0 < 28800) ∧ Q (some (wI (σ.2.2 10032 121 xs0))) σ)) else T230 d Q 39 [wO 10 121, wI x1, wI x2, wI x3, wI xs0] [] σ))) := j3_T.go d [0, 30, 39] 400
set_option maxRecDepth 100000 in
theorem b230_39 {d : Nat} {Q : j3_P} {σ : j3_S} {x1 : Int} {x2 : Int} {x3 : Int} {x4 : Int} :
  T230 d Q 39 [wO 10 121, wI x1, wI x2, wI x3, wI x4] [] σ = Q (some (wI (-1))) σ := j3_T.go d [0, 30, 39] 400
def T231 (d : Nat) (Q : j3_P) : j3_K := j3_T true (j3_tc true d) jc_X10_top (some .int) Q
theorem e231 {d : Nat} {Q : j3_P} {σ : j3_S}  : j3_tc true (d + 1) 231 [wO 10 121] σ Q = T231 d Q 0 [wO 10 121] [] σ := j3_entry ⟨Nat.le_of_ble_eq_true rfl, rfl⟩
set_option maxRecDepth 100000 in
theorem b231_0 {d : Nat} {Q : j3_P} {σ : j3_S}  :
  T231 d Q 0 [wO 10 121] [] σ = ((0 ≤ (wr ((σ.1 10079 121) - 1)) ∧ (wr ((σ.1 10079 121) - 1)) < 40) ∧ Q (some (wI (wr ((wr ((wr (10 * (wr ((σ.1 10079 121) - 1)))) + (σ.2.2 10082 121 (wr ((σ.1 10079 121) - 1))))) - 1)))) σ) := j3_T.go d [0] 400
def T232 (d : Nat) (Q : j3_P) : j3_K := j3_T true (j3_tc true d) jc_X10_pop (some .int) Q
theorem e232 {d : Nat} {Q : j3_P} {σ : j3_S}  : j3_tc true (d + 1) 232 [wO 10 121] σ Q = T232 d Q 0 [wO 10 121, wM 2] [] σ := j3_entry ⟨Nat.le_of_ble_eq_true rfl, rfl⟩
set_option maxRecDepth 100000 in
theorem b232_0 {d : Nat} {Q : j3_P} {σ : j3_S}  :
  T232 d Q 0 [wO 10 121, wM 2] [] σ = j3_tc true d 231 [wO 10 121] σ (fun r σ1 => T232 d Q 4 [wO 10 121, wM 2] (r.toList ++ [wA 10084 121]) σ1) := j3_T.go d [0, 4] 400
set_option maxRecDepth 100000 in
theorem b232_4 {d : Nat} {Q : j3_P} {σ : j3_S} {xs0 : Int} :
  T232 d Q 4 [wO 10 121, wM 2] [wI xs0, wA 10084 121] σ = ((0 ≤ xs0 ∧ xs0 < 400) ∧ ((0 ≤ (wr ((σ.1 10079 121) - 1)) ∧ (wr ((σ.1 10079 121) - 1)) < 40) ∧ ((0 ≤ (wr ((σ.1 10079 121) - 1)) ∧ (wr ((σ.1 10079 121) - 1)) < 40) ∧ Q (some (wI (σ.2.2 10084 121 xs0))) (σ.1, σ.2.1, (j3_ast σ.2.2 10082 121 (wr ((σ.1 10079 121) - 1)) (wr ((σ.2.2 10082 121 (wr ((σ.1 10079 121) - 1))) - 1))))))) := j3_T.go d [0, 4] 400
def T233 (d : Nat) (Q : j3_P) : j3_K := j3_T true (j3_tc true d) jc_X10_pushValue none Q
theorem e233 {d : Nat} {Q : j3_P} {σ : j3_S} {x1 : Int} : j3_tc true (d + 1) 233 [wO 10 121, wI x1] σ Q = T233 d Q 0 [wO 10 121, wI x1] [] σ := j3_entry ⟨Nat.le_of_ble_eq_true rfl, rfl⟩
set_option maxRecDepth 100000 in
theorem b233_0 {d : Nat} {Q : j3_P} {σ : j3_S} {x1 : Int} :
  T233 d Q 0 [wO 10 121, wI x1] [] σ = ((0 ≤ (wr ((σ.1 10079 121) - 1)) ∧ (wr ((σ.1 10079 121) - 1)) < 40) ∧ ((0 ≤ (wr ((σ.1 10079 121) - 1)) ∧ (wr ((σ.1 10079 121) - 1)) < 40) ∧ j3_tc true d 231 [wO 10 121] (σ.1, σ.2.1, (j3_ast σ.2.2 10082 121 (wr ((σ.1 10079 121) - 1)) (wr ((σ.2.2 10082 121 (wr ((σ.1 10079 121) - 1))) + 1)))) (fun r σ1 => T233 d Q 15 [wO 10 121, wI x1] (r.toList ++ [wA 10084 121]) σ1))) := j3_T.go d [0, 15] 400
set_option maxRecDepth 100000 in
theorem b233_15 {d : Nat} {Q : j3_P} {σ : j3_S} {x1 : Int} {xs0 : Int} :
  T233 d Q 15 [wO 10 121, wI x1] [wI xs0, wA 10084 121] σ = ((0 ≤ xs0 ∧ xs0 < 400) ∧ Q none (σ.1, σ.2.1, (j3_ast σ.2.2 10084 121 xs0 x1))) := j3_T.go d [0, 15] 400
def T234 (d : Nat) (Q : j3_P) : j3_K := j3_T true (j3_tc true d) jc_X10_trapped none Q
theorem e234 {d : Nat} {Q : j3_P} {σ : j3_S} {x1 : Int} : j3_tc true (d + 1) 234 [wO 10 121, wI x1] σ Q = T234 d Q 0 [wO 10 121, wI x1] [] σ := j3_entry ⟨Nat.le_of_ble_eq_true rfl, rfl⟩
set_option maxRecDepth 100000 in
theorem b234_0 {d : Nat} {Q : j3_P} {σ : j3_S} {x1 : Int} :
  T234 d Q 0 [wO 10 121, wI x1] [] σ = Q none ((j3_up (j3_up σ.1 10094 121 1) 10095 121 x1), σ.2.1, σ.2.2) := j3_T.go d [0] 400
def T235 (d : Nat) (Q : j3_P) : j3_K := j3_T true (j3_tc true d) jc_X10_call none Q
theorem e235 {d : Nat} {Q : j3_P} {σ : j3_S} {x1 : Int} {x2 : Int} : j3_tc true (d + 1) 235 [wO 10 121, wI x1, wI x2] σ Q = T235 d Q 0 [wO 10 121, wI x1, wI x2, wM 2, wM 2, wM 2, wM 2, wM 2] [] σ := j3_entry ⟨Nat.le_of_ble_eq_true rfl, rfl⟩
set_option maxRecDepth 100000 in
theorem b235_0 {d : Nat} {Q : j3_P} {σ : j3_S} {x1 : Int} {x2 : Int} :
  T235 d Q 0 [wO 10 121, wI x1, wI x2, wM 2, wM 2, wM 2, wM 2, wM 2] [] σ = ((0 ≤ x1 ∧ x1 < 28800) ∧ ((0 ≤ (wr ((wr (10 * (σ.1 10093 121))) + (σ.2.2 10028 121 x1))) ∧ (wr ((wr (10 * (σ.1 10093 121))) + (σ.2.2 10028 121 x1))) < 30) ∧ ((0 ≤ x1 ∧ x1 < 28800) ∧ ((0 ≤ (wr ((wr ((wr (80 * (σ.1 10093 121))) + (σ.2.2 10013 121 (wr ((wr (10 * (σ.1 10093 121))) + (σ.2.2 10028 121 x1)))))) + (σ.2.2 10029 121 x1))) ∧ (wr ((wr ((wr (80 * (σ.1 10093 121))) + (σ.2.2 10013 121 (wr ((wr (10 * (σ.1 10093 121))) + (σ.2.2 10028 121 x1)))))) + (σ.2.2 10029 121 x1))) < 240) ∧ ((0 ≤ (wr ((wr ((wr (80 * (σ.1 10093 121))) + (σ.2.2 10013 121 (wr ((wr (10 * (σ.1 10093 121))) + (σ.2.2 10028 121 x1)))))) + (σ.2.2 10029 121 x1))) ∧ (wr ((wr ((wr (80 * (σ.1 10093 121))) + (σ.2.2 10013 121 (wr ((wr (10 * (σ.1 10093 121))) + (σ.2.2 10028 121 x1)))))) + (σ.2.2 10029 121 x1))) < 240) ∧ j3_tc true d 231 [wO 10 121] σ (fun r σ1 => T235 d Q 37 [wO 10 121, wI x1, wI x2, wI (wr ((wr ((wr (80 * (σ.1 10093 121))) + (σ.2.2 10013 121 (wr ((wr (10 * (σ.1 10093 121))) + (σ.2.2 10028 121 x1)))))) + (σ.2.2 10029 121 x1))), wI (wr ((wr ((σ.2.2 10023 121 (wr ((wr ((wr (80 * (σ.1 10093 121))) + (σ.2.2 10013 121 (wr ((wr (10 * (σ.1 10093 121))) + (σ.2.2 10028 121 x1)))))) + (σ.2.2 10029 121 x1)))) + 1)) - (σ.2.2 10021 121 (wr ((wr ((wr (80 * (σ.1 10093 121))) + (σ.2.2 10013 121 (wr ((wr (10 * (σ.1 10093 121))) + (σ.2.2 10028 121 x1)))))) + (σ.2.2 10029 121 x1)))))), wM 2, wM 2, wM 2] (r.toList ++ []) σ1)))))) := j3_T.go d [0, 37, 55, 56, 63, 83, 90, 104, 126] 400
set_option maxRecDepth 100000 in
theorem b235_37 {d : Nat} {Q : j3_P} {σ : j3_S} {x1 : Int} {x2 : Int} {x3 : Int} {x4 : Int} {xs0 : Int} :
  T235 d Q 37 [wO 10 121, wI x1, wI x2, wI x3, wI x4, wM 2, wM 2, wM 2] [wI xs0] σ = ((0 ≤ x3 ∧ x3 < 240) ∧ (if (σ.2.2 10021 121 x3) = 0 then ((0 ≤ (wr ((wr (xs0 + 1)) - x4)) ∧ (wr ((wr (xs0 + 1)) - x4)) < 400) ∧ (if (σ.2.2 10084 121 (wr ((wr (xs0 + 1)) - x4))) = 0 then j3_tc true d 234 [wO 10 121, wI 1] σ (fun r σ1 => T235 d Q 55 [wO 10 121, wI x1, wI x2, wI x3, wI x4, wI (wr ((wr (xs0 + 1)) - x4)), wM 2, wM 2] (r.toList ++ []) σ1) else T235 d Q 56 [wO 10 121, wI x1, wI x2, wI x3, wI x4, wI (wr ((wr (xs0 + 1)) - x4)), wM 2, wM 2] [] σ)) else T235 d Q 56 [wO 10 121, wI x1, wI x2, wI x3, wI x4, wI (wr ((wr (xs0 + 1)) - x4)), wM 2, wM 2] [] σ)) := j3_T.go d [0, 37, 55, 56, 63, 83, 90, 104, 126] 400
set_option maxRecDepth 100000 in
theorem b235_55 {d : Nat} {Q : j3_P} {σ : j3_S} {x1 : Int} {x2 : Int} {x3 : Int} {x4 : Int} {x5 : Int} :
  T235 d Q 55 [wO 10 121, wI x1, wI x2, wI x3, wI x4, wI x5, wM 2, wM 2] [] σ = Q none σ := j3_T.go d [0, 37, 55, 56, 63, 83, 90, 104, 126] 400
set_option maxRecDepth 100000 in
theorem b235_56 {d : Nat} {Q : j3_P} {σ : j3_S} {x1 : Int} {x2 : Int} {x3 : Int} {x4 : Int} {x5 : Int} :
  T235 d Q 56 [wO 10 121, wI x1, wI x2, wI x3, wI x4, wI x5, wM 2, wM 2] [] σ = (if (σ.1 10079 121) = (40 : Int) then j3_tc true d 234 [wO 10 121, wI 5] σ (fun r σ1 => T235 d Q 63 [wO 10 121, wI x1, wI x2, wI x3, wI x4, wI x5, wM 2, wM 2] (r.toList ++ []) σ1) else (if x2 = 0 then T235 d Q 90 [wO 10 121, wI x1, wI x2, wI x3, wI x4, wI x5, wM 2, wM 2] [wI (wr (x3 - (wr (80 * (σ.1 10093 121)))))] σ else ((0 ≤ x5 ∧ x5 < 400) ∧ ((0 ≤ (wr ((σ.2.2 10084 121 x5) - 1)) ∧ (wr ((σ.2.2 10084 121 x5) - 1)) < 200) ∧ ((0 ≤ x3 ∧ x3 < 240) ∧ j3_tc true d 192 [wO 10 121, wI (σ.1 10093 121), wI (σ.2.2 10086 121 (wr ((σ.2.2 10084 121 x5) - 1))), wI (σ.2.2 10020 121 x3)] σ (fun r σ1 => T235 d Q 83 [wO 10 121, wI x1, wI x2, wI x3, wI x4, wI x5, wM 2, wM 2] (r.toList ++ []) σ1)))))) := j3_T.go d [0, 37, 55, 56, 63, 83, 90, 104, 126] 400
set_option maxRecDepth 100000 in
theorem b235_63 {d : Nat} {Q : j3_P} {σ : j3_S} {x1 : Int} {x2 : Int} {x3 : Int} {x4 : Int} {x5 : Int} :
  T235 d Q 63 [wO 10 121, wI x1, wI x2, wI x3, wI x4, wI x5, wM 2, wM 2] [] σ = Q none σ := j3_T.go d [0, 37, 55, 56, 63, 83, 90, 104, 126] 400
set_option maxRecDepth 100000 in
theorem b235_83 {d : Nat} {Q : j3_P} {σ : j3_S} {x1 : Int} {x2 : Int} {x3 : Int} {x4 : Int} {x5 : Int} {xs0 : Int} :
  T235 d Q 83 [wO 10 121, wI x1, wI x2, wI x3, wI x4, wI x5, wM 2, wM 2] [wI xs0] σ = T235 d Q 90 [wO 10 121, wI x1, wI x2, wI x3, wI x4, wI x5, wM 2, wM 2] [wI xs0] σ := j3_T.go d [0, 37, 55, 56, 63, 83, 90, 104, 126] 400
set_option maxRecDepth 100000 in
theorem b235_90 {d : Nat} {Q : j3_P} {σ : j3_S} {x1 : Int} {x2 : Int} {x3 : Int} {x4 : Int} {x5 : Int} {xs0 : Int} :
  T235 d Q 90 [wO 10 121, wI x1, wI x2, wI x3, wI x4, wI x5, wM 2, wM 2] [wI xs0] σ = ((0 ≤ (wr ((σ.1 10079 121) - 1)) ∧ (wr ((σ.1 10079 121) - 1)) < 40) ∧ ((0 ≤ (wr ((σ.1 10079 121) - 1)) ∧ (wr ((σ.1 10079 121) - 1)) < 40) ∧ T235 d Q 104 [wO 10 121, wI x1, wI x2, wI x3, wI x4, wI x5, wI xs0, wI 0] [] (σ.1, σ.2.1, (j3_ast σ.2.2 10082 121 (wr ((σ.1 10079 121) - 1)) (wr ((σ.2.2 10082 121 (wr ((σ.1 10079 121) - 1))) - x4)))))) := j3_T.go d [0, 37, 55, 56, 63, 83, 90, 104, 126] 400
set_option maxRecDepth 100000 in
theorem b235_104 {d : Nat} {Q : j3_P} {σ : j3_S} {x1 : Int} {x2 : Int} {x3 : Int} {x4 : Int} {x5 : Int} {x6 : Int} {x7 : Int} :
  T235 d Q 104 [wO 10 121, wI x1, wI x2, wI x3, wI x4, wI x5, wI x6, wI x7] [] σ = (if x7 < (20 : Int) then (if x7 < x4 then ((0 ≤ (wr (x5 + x7)) ∧ (wr (x5 + x7)) < 400) ∧ T235 d Q 126 [wO 10 121, wI x1, wI x2, wI x3, wI x4, wI x5, wI x6, wI x7] [wI (σ.2.2 10084 121 (wr (x5 + x7))), wI (wr ((wr (20 * (σ.1 10079 121))) + x7)), wA 10083 121] σ) else T235 d Q 126 [wO 10 121, wI x1, wI x2, wI x3, wI x4, wI x5, wI x6, wI x7] [wI 0, wI (wr ((wr (20 * (σ.1 10079 121))) + x7)), wA 10083 121] σ) else ((0 ≤ (σ.1 10079 121) ∧ (σ.1 10079 121) < 40) ∧ ((0 ≤ (σ.1 10079 121) ∧ (σ.1 10079 121) < 40) ∧ ((0 ≤ (σ.1 10079 121) ∧ (σ.1 10079 121) < 40) ∧ (if (σ.1 10096 121) < (wr ((σ.1 10079 121) + 1)) then Q none ((j3_up (j3_up σ.1 10079 121 (wr ((σ.1 10079 121) + 1))) 10096 121 (wr ((σ.1 10079 121) + 1))), σ.2.1, (j3_ast (j3_ast (j3_ast σ.2.2 10080 121 (σ.1 10079 121) x6) 10081 121 (σ.1 10079 121) 0) 10082 121 (σ.1 10079 121) 0)) else Q none ((j3_up (j3_up σ.1 10079 121 (wr ((σ.1 10079 121) + 1))) 10096 121 (σ.1 10096 121)), σ.2.1, (j3_ast (j3_ast (j3_ast σ.2.2 10080 121 (σ.1 10079 121) x6) 10081 121 (σ.1 10079 121) 0) 10082 121 (σ.1 10079 121) 0))))))) := j3_T.go d [0, 37, 55, 56, 63, 83, 90, 104, 126] 400
set_option maxRecDepth 100000 in
theorem b235_126 {d : Nat} {Q : j3_P} {σ : j3_S} {x1 : Int} {x2 : Int} {x3 : Int} {x4 : Int} {x5 : Int} {x6 : Int} {x7 : Int} {xs0 : Int} {xs1 : Int} :
  T235 d Q 126 [wO 10 121, wI x1, wI x2, wI x3, wI x4, wI x5, wI x6, wI x7] [wI xs0, wI xs1, wA 10083 121] σ = ((0 ≤ xs1 ∧ xs1 < 800) ∧ T235 d Q 104 [wO 10 121, wI x1, wI x2, wI x3, wI x4, wI x5, wI x6, wI (wr (x7 + 1))] [] (σ.1, σ.2.1, (j3_ast σ.2.2 10083 121 xs1 xs0))) := j3_T.go d [0, 37, 55, 56, 63, 83, 90, 104, 126] 400
def T236 (d : Nat) (Q : j3_P) : j3_K := j3_T true (j3_tc true d) jc_X10_goBack none Q
theorem e236 {d : Nat} {Q : j3_P} {σ : j3_S}  : j3_tc true (d + 1) 236 [wO 10 121] σ Q = T236 d Q 0 [wO 10 121, wM 2, wM 2] [] σ := j3_entry ⟨Nat.le_of_ble_eq_true rfl, rfl⟩
set_option maxRecDepth 100000 in
theorem b236_0 {d : Nat} {Q : j3_P} {σ : j3_S}  :
  T236 d Q 0 [wO 10 121, wM 2, wM 2] [] σ = ((0 ≤ (wr ((σ.1 10079 121) - 1)) ∧ (wr ((σ.1 10079 121) - 1)) < 40) ∧ ((0 ≤ (wr ((wr (80 * (σ.1 10093 121))) + (σ.2.2 10080 121 (wr ((σ.1 10079 121) - 1))))) ∧ (wr ((wr (80 * (σ.1 10093 121))) + (σ.2.2 10080 121 (wr ((σ.1 10079 121) - 1))))) < 240) ∧ (if 0 < (σ.2.2 10022 121 (wr ((wr (80 * (σ.1 10093 121))) + (σ.2.2 10080 121 (wr ((σ.1 10079 121) - 1)))))) then T236 d Q 19 [wO 10 121, wM 2, wM 2] [wI 1] σ else T236 d Q 19 [wO 10 121, wM 2, wM 2] [wI 0] σ))) := j3_T.go d [0, 19, 24, 26, 45] 400
set_option maxRecDepth 100000 in
theorem b236_19 {d : Nat} {Q : j3_P} {σ : j3_S} {xs0 : Int} :
  T236 d Q 19 [wO 10 121, wM 2, wM 2] [wI xs0] σ = (if xs0 = 0 then T236 d Q 26 [wO 10 121, wI xs0, wM 2] [wI 0] σ else j3_tc true d 232 [wO 10 121] σ (fun r σ1 => T236 d Q 24 [wO 10 121, wI xs0, wM 2] (r.toList ++ []) σ1)) := j3_T.go d [0, 19, 24, 26, 45] 400
set_option maxRecDepth 100000 in
theorem b236_24 {d : Nat} {Q : j3_P} {σ : j3_S} {x1 : Int} {xs0 : Int} :
  T236 d Q 24 [wO 10 121, wI x1, wM 2] [wI xs0] σ = T236 d Q 26 [wO 10 121, wI x1, wM 2] [wI xs0] σ := j3_T.go d [0, 19, 24, 26, 45] 400
set_option maxRecDepth 100000 in
theorem b236_26 {d : Nat} {Q : j3_P} {σ : j3_S} {x1 : Int} {xs0 : Int} :
  T236 d Q 26 [wO 10 121, wI x1, wM 2] [wI xs0] σ = (if (wr ((σ.1 10079 121) - 1)) = 0 then Q none ((j3_up (j3_up σ.1 10079 121 (wr ((σ.1 10079 121) - 1))) 10094 121 0), σ.2.1, σ.2.2) else (if x1 = 0 then T236 d Q 45 [wO 10 121, wI x1, wI xs0] [] ((j3_up σ.1 10079 121 (wr ((σ.1 10079 121) - 1))), σ.2.1, σ.2.2) else j3_tc true d 233 [wO 10 121, wI xs0] ((j3_up σ.1 10079 121 (wr ((σ.1 10079 121) - 1))), σ.2.1, σ.2.2) (fun r σ1 => T236 d Q 45 [wO 10 121, wI x1, wI xs0] (r.toList ++ []) σ1))) := j3_T.go d [0, 19, 24, 26, 45] 400
set_option maxRecDepth 100000 in
theorem b236_45 {d : Nat} {Q : j3_P} {σ : j3_S} {x1 : Int} {x2 : Int} :
  T236 d Q 45 [wO 10 121, wI x1, wI x2] [] σ = ((0 ≤ (wr ((σ.1 10079 121) - 1)) ∧ (wr ((σ.1 10079 121) - 1)) < 40) ∧ ((0 ≤ (wr ((σ.1 10079 121) - 1)) ∧ (wr ((σ.1 10079 121) - 1)) < 40) ∧ Q none (σ.1, σ.2.1, (j3_ast σ.2.2 10081 121 (wr ((σ.1 10079 121) - 1)) (wr ((σ.2.2 10081 121 (wr ((σ.1 10079 121) - 1))) + 1)))))) := j3_T.go d [0, 19, 24, 26, 45] 400
def T237 (d : Nat) (Q : j3_P) : j3_K := j3_T true (j3_tc true d) jc_X10_step none Q
theorem e237 {d : Nat} {Q : j3_P} {σ : j3_S}  : j3_tc true (d + 1) 237 [wO 10 121] σ Q = T237 d Q 0 [wO 10 121, wM 2, wM 2, wM 2, wM 2, wM 2] [] σ := j3_entry ⟨Nat.le_of_ble_eq_true rfl, rfl⟩
set_option maxRecDepth 100000 in
theorem b237_0 {d : Nat} {Q : j3_P} {σ : j3_S}  :
  T237 d Q 0 [wO 10 121, wM 2, wM 2, wM 2, wM 2, wM 2] [] σ = ((0 ≤ (wr ((σ.1 10079 121) - 1)) ∧ (wr ((σ.1 10079 121) - 1)) < 40) ∧ ((0 ≤ (wr ((σ.1 10079 121) - 1)) ∧ (wr ((σ.1 10079 121) - 1)) < 40) ∧ j3_tc true d 160 [wI (σ.1 10093 121), wI (σ.2.2 10080 121 (wr ((σ.1 10079 121) - 1))), wI (σ.2.2 10081 121 (wr ((σ.1 10079 121) - 1)))] σ (fun r σ1 => T237 d Q 16 [wO 10 121, wI (wr ((σ.1 10079 121) - 1)), wM 2, wM 2, wM 2, wM 2] (r.toList ++ []) σ1))) := j3_T.go d [0, 16, 28, 36, 37, 43, 53, 59, 60, 63, 64, 77, 78, 90, 92, 101, 106, 108, 109, 115, 117, 124, 126, 128, 131, 139, 141, 153, 155, 170, 173, 174, 180, 185] 400
set_option maxRecDepth 100000 in
theorem b237_16 {d : Nat} {Q : j3_P} {σ : j3_S} {x1 : Int} {xs0 : Int} :
  T237 d Q 16 [wO 10 121, wI x1, wM 2, wM 2, wM 2, wM 2] [wI xs0] σ = ((0 ≤ xs0 ∧ xs0 < 28800) ∧ (if (σ.2.2 10027 121 xs0) = (20 : Int) then T237 d Q 28 [wO 10 121, wI x1, wI xs0, wI (σ.2.2 10027 121 xs0), wM 2, wM 2] [] σ else (if (σ.2.2 10027 121 xs0) = (21 : Int) then T237 d Q 28 [wO 10 121, wI x1, wI xs0, wI (σ.2.2 10027 121 xs0), wM 2, wM 2] [] σ else (if (σ.2.2 10027 121 xs0) = (22 : Int) then j3_tc true d 236 [wO 10 121] σ (fun r σ1 => T237 d Q 43 [wO 10 121, wI x1, wI xs0, wI (σ.2.2 10027 121 xs0), wM 2, wM 2] (r.toList ++ []) σ1) else ((0 ≤ x1 ∧ x1 < 40) ∧ (if (σ.2.2 10027 121 xs0) = 0 then T237 d Q 53 [wO 10 121, wI x1, wI xs0, wI (σ.2.2 10027 121 xs0), wI (wr ((σ.2.2 10081 121 x1) + 1)), wM 2] [] σ else (if (σ.2.2 10027 121 xs0) = 1 then T237 d Q 60 [wO 10 121, wI x1, wI xs0, wI (σ.2.2 10027 121 xs0), wI (wr ((σ.2.2 10081 121 x1) + 1)), wM 2] [] σ else (if (σ.2.2 10027 121 xs0) = 2 then T237 d Q 64 [wO 10 121, wI x1, wI xs0, wI (σ.2.2 10027 121 xs0), wI (wr ((σ.2.2 10081 121 x1) + 1)), wM 2] [] σ else (if (σ.2.2 10027 121 xs0) = 3 then T237 d Q 78 [wO 10 121, wI x1, wI xs0, wI (σ.2.2 10027 121 xs0), wI (wr ((σ.2.2 10081 121 x1) + 1)), wM 2] [] σ else (if (σ.2.2 10027 121 xs0) = 4 then T237 d Q 92 [wO 10 121, wI x1, wI xs0, wI (σ.2.2 10027 121 xs0), wI (wr ((σ.2.2 10081 121 x1) + 1)), wM 2] [] σ else (if (σ.2.2 10027 121 xs0) = 5 then T237 d Q 101 [wO 10 121, wI x1, wI xs0, wI (σ.2.2 10027 121 xs0), wI (wr ((σ.2.2 10081 121 x1) + 1)), wM 2] [] σ else (if (σ.2.2 10027 121 xs0) = 6 then T237 d Q 174 [wO 10 121, wI x1, wI xs0, wI (σ.2.2 10027 121 xs0), wI (wr ((σ.2.2 10081 121 x1) + 1)), wM 2] [] σ else (if (σ.2.2 10027 121 xs0) = 7 then T237 d Q 174 [wO 10 121, wI x1, wI xs0, wI (σ.2.2 10027 121 xs0), wI (wr ((σ.2.2 10081 121 x1) + 1)), wM 2] [] σ else (if (σ.2.2 10027 121 xs0) = 8 then T237 d Q 174 [wO 10 121, wI x1, wI xs0, wI (σ.2.2 10027 121 xs0), wI (wr ((σ.2.2 10081 121 x1) + 1)), wM 2] [] σ else (if (σ.2.2 10027 121 xs0) = 9 then T237 d Q 174 [wO 10 121, wI x1, wI xs0, wI (σ.2.2 10027 121 xs0), wI (wr ((σ.2.2 10081 121 x1) + 1)), wM 2] [] σ else (if (σ.2.2 10027 121 xs0) = 10 then T237 d Q 174 [wO 10 121, wI x1, wI xs0, wI (σ.2.2 10027 121 xs0), wI (wr ((σ.2.2 10081 121 x1) + 1)), wM 2] [] σ else (if (σ.2.2 10027 121 xs0) = 11 then T237 d Q 109 [wO 10 121, wI x1, wI xs0, wI (σ.2.2 10027 121 xs0), wI (wr ((σ.2.2 10081 121 x1) + 1)), wM 2] [] σ else (if (σ.2.2 10027 121 xs0) = 12 then T237 d Q 115 [wO 10 121, wI x1, wI xs0, wI (σ.2.2 10027 121 xs0), wI (wr ((σ.2.2 10081 121 x1) + 1)), wM 2] [] σ else (if (σ.2.2 10027 121 xs0) = 13 then T237 d Q 126 [wO 10 121, wI x1, wI xs0, wI (σ.2.2 10027 121 xs0), wI (wr ((σ.2.2 10081 121 x1) + 1)), wM 2] [] σ else (if (σ.2.2 10027 121 xs0) = 14 then T237 d Q 115 [wO 10 121, wI x1, wI xs0, wI (σ.2.2 10027 121 xs0), wI (wr ((σ.2.2 10081 121 x1) + 1)), wM 2] [] σ else (if (σ.2.2 10027 121 xs0) = 15 then T237 d Q 174 [wO 10 121, wI x1, wI xs0, wI (σ.2.2 10027 121 xs0), wI (wr ((σ.2.2 10081 121 x1) + 1)), wM 2] [] σ else (if (σ.2.2 10027 121 xs0) = 16 then T237 d Q 174 [wO 10 121, wI x1, wI xs0, wI (σ.2.2 10027 121 xs0), wI (wr ((σ.2.2 10081 121 x1) + 1)), wM 2] [] σ else (if (σ.2.2 10027 121 xs0) = 17 then T237 d Q 174 [wO 10 121, wI x1, wI xs0, wI (σ.2.2 10027 121 xs0), wI (wr ((σ.2.2 10081 121 x1) + 1)), wM 2] [] σ else (if (σ.2.2 10027 121 xs0) = 18 then T237 d Q 174 [wO 10 121, wI x1, wI xs0, wI (σ.2.2 10027 121 xs0), wI (wr ((σ.2.2 10081 121 x1) + 1)), wM 2] [] σ else (if (σ.2.2 10027 121 xs0) = 19 then T237 d Q 174 [wO 10 121, wI x1, wI xs0, wI (σ.2.2 10027 121 xs0), wI (wr ((σ.2.2 10081 121 x1) + 1)), wM 2] [] σ else (if (σ.2.2 10027 121 xs0) = 20 then T237 d Q 174 [wO 10 121, wI x1, wI xs0, wI (σ.2.2 10027 121 xs0), wI (wr ((σ.2.2 10081 121 x1) + 1)), wM 2] [] σ else (if (σ.2.2 10027 121 xs0) = 21 then T237 d Q 174 [wO 10 121, wI x1, wI xs0, wI (σ.2.2 10027 121 xs0), wI (wr ((σ.2.2 10081 121 x1) + 1)), wM 2] [] σ else (if (σ.2.2 10027 121 xs0) = 22 then T237 d Q 174 [wO 10 121, wI x1, wI xs0, wI (σ.2.2 10027 121 xs0), wI (wr ((σ.2.2 10081 121 x1) + 1)), wM 2] [] σ else (if (σ.2.2 10027 121 xs0) = 23 then T237 d Q 141 [wO 10 121, wI x1, wI xs0, wI (σ.2.2 10027 121 xs0), wI (wr ((σ.2.2 10081 121 x1) + 1)), wM 2] [] σ else (if (σ.2.2 10027 121 xs0) = 24 then T237 d Q 174 [wO 10 121, wI x1, wI xs0, wI (σ.2.2 10027 121 xs0), wI (wr ((σ.2.2 10081 121 x1) + 1)), wM 2] [] σ else (if (σ.2.2 10027 121 xs0) = 25 then T237 d Q 174 [wO 10 121, wI x1, wI xs0, wI (σ.2.2 10027 121 xs0), wI (wr ((σ.2.2 10081 121 x1) + 1)), wM 2] [] σ else (if (σ.2.2 10027 121 xs0) = 26 then T237 d Q 170 [wO 10 121, wI x1, wI xs0, wI (σ.2.2 10027 121 xs0), wI (wr ((σ.2.2 10081 121 x1) + 1)), wM 2] [] σ else T237 d Q 174 [wO 10 121, wI x1, wI xs0, wI (σ.2.2 10027 121 xs0), wI (wr ((σ.2.2 10081 121 x1) + 1)), wM 2] [] σ)))))))))))))))))))))))))))))))) := j3_T.go d [0, 16, 28, 36, 37, 43, 53, 59, 60, 63, 64, 77, 78, 90, 92, 101, 106, 108, 109, 115, 117, 124, 126, 128, 131, 139, 141, 153, 155, 170, 173, 174, 180, 185] 400
set_option maxRecDepth 100000 in
theorem b237_28 {d : Nat} {Q : j3_P} {σ : j3_S} {x1 : Int} {x2 : Int} {x3 : Int} :
  T237 d Q 28 [wO 10 121, wI x1, wI x2, wI x3, wM 2, wM 2] [] σ = (if x3 = (21 : Int) then T237 d Q 36 [wO 10 121, wI x1, wI x2, wI x3, wM 2, wM 2] [wI 1, wI x2, wO 10 121] σ else T237 d Q 36 [wO 10 121, wI x1, wI x2, wI x3, wM 2, wM 2] [wI 0, wI x2, wO 10 121] σ) := j3_T.go d [0, 16, 28, 36, 37, 43, 53, 59, 60, 63, 64, 77, 78, 90, 92, 101, 106, 108, 109, 115, 117, 124, 126, 128, 131, 139, 141, 153, 155, 170, 173, 174, 180, 185] 400
set_option maxRecDepth 100000 in
theorem b237_36 {d : Nat} {Q : j3_P} {σ : j3_S} {x1 : Int} {x2 : Int} {x3 : Int} {xs0 : Int} {xs1 : Int} :
  T237 d Q 36 [wO 10 121, wI x1, wI x2, wI x3, wM 2, wM 2] [wI xs0, wI xs1, wO 10 121] σ = j3_tc true d 235 [wO 10 121, wI xs1, wI xs0] σ (fun r σ1 => T237 d Q 37 [wO 10 121, wI x1, wI x2, wI x3, wM 2, wM 2] (r.toList ++ []) σ1) := j3_T.go d [0, 16, 28, 36, 37, 43, 53, 59, 60, 63, 64, 77, 78, 90, 92, 101, 106, 108, 109, 115, 117, 124, 126, 128, 131, 139, 141, 153, 155, 170, 173, 174, 180, 185] 400
set_option maxRecDepth 100000 in
theorem b237_37 {d : Nat} {Q : j3_P} {σ : j3_S} {x1 : Int} {x2 : Int} {x3 : Int} :
  T237 d Q 37 [wO 10 121, wI x1, wI x2, wI x3, wM 2, wM 2] [] σ = Q none σ := j3_T.go d [0, 16, 28, 36, 37, 43, 53, 59, 60, 63, 64, 77, 78, 90, 92, 101, 106, 108, 109, 115, 117, 124, 126, 128, 131, 139, 141, 153, 155, 170, 173, 174, 180, 185] 400
set_option maxRecDepth 100000 in
theorem b237_43 {d : Nat} {Q : j3_P} {σ : j3_S} {x1 : Int} {x2 : Int} {x3 : Int} :
  T237 d Q 43 [wO 10 121, wI x1, wI x2, wI x3, wM 2, wM 2] [] σ = Q none σ := j3_T.go d [0, 16, 28, 36, 37, 43, 53, 59, 60, 63, 64, 77, 78, 90, 92, 101, 106, 108, 109, 115, 117, 124, 126, 128, 131, 139, 141, 153, 155, 170, 173, 174, 180, 185] 400
set_option maxRecDepth 100000 in
theorem b237_53 {d : Nat} {Q : j3_P} {σ : j3_S} {x1 : Int} {x2 : Int} {x3 : Int} {x4 : Int} :
  T237 d Q 53 [wO 10 121, wI x1, wI x2, wI x3, wI x4, wM 2] [] σ = ((0 ≤ x2 ∧ x2 < 28800) ∧ j3_tc true d 233 [wO 10 121, wI (σ.2.2 10028 121 x2)] σ (fun r σ1 => T237 d Q 59 [wO 10 121, wI x1, wI x2, wI x3, wI x4, wM 2] (r.toList ++ []) σ1)) := j3_T.go d [0, 16, 28, 36, 37, 43, 53, 59, 60, 63, 64, 77, 78, 90, 92, 101, 106, 108, 109, 115, 117, 124, 126, 128, 131, 139, 141, 153, 155, 170, 173, 174, 180, 185] 400
set_option maxRecDepth 100000 in
theorem b237_59 {d : Nat} {Q : j3_P} {σ : j3_S} {x1 : Int} {x2 : Int} {x3 : Int} {x4 : Int} :
  T237 d Q 59 [wO 10 121, wI x1, wI x2, wI x3, wI x4, wM 2] [] σ = T237 d Q 185 [wO 10 121, wI x1, wI x2, wI x3, wI x4, wM 2] [] σ := j3_T.go d [0, 16, 28, 36, 37, 43, 53, 59, 60, 63, 64, 77, 78, 90, 92, 101, 106, 108, 109, 115, 117, 124, 126, 128, 131, 139, 141, 153, 155, 170, 173, 174, 180, 185] 400
set_option maxRecDepth 100000 in
theorem b237_60 {d : Nat} {Q : j3_P} {σ : j3_S} {x1 : Int} {x2 : Int} {x3 : Int} {x4 : Int} :
  T237 d Q 60 [wO 10 121, wI x1, wI x2, wI x3, wI x4, wM 2] [] σ = j3_tc true d 233 [wO 10 121, wI 0] σ (fun r σ1 => T237 d Q 63 [wO 10 121, wI x1, wI x2, wI x3, wI x4, wM 2] (r.toList ++ []) σ1) := j3_T.go d [0, 16, 28, 36, 37, 43, 53, 59, 60, 63, 64, 77, 78, 90, 92, 101, 106, 108, 109, 115, 117, 124, 126, 128, 131, 139, 141, 153, 155, 170, 173, 174, 180, 185] 400
set_option maxRecDepth 100000 in
theorem b237_63 {d : Nat} {Q : j3_P} {σ : j3_S} {x1 : Int} {x2 : Int} {x3 : Int} {x4 : Int} :
  T237 d Q 63 [wO 10 121, wI x1, wI x2, wI x3, wI x4, wM 2] [] σ = T237 d Q 185 [wO 10 121, wI x1, wI x2, wI x3, wI x4, wM 2] [] σ := j3_T.go d [0, 16, 28, 36, 37, 43, 53, 59, 60, 63, 64, 77, 78, 90, 92, 101, 106, 108, 109, 115, 117, 124, 126, 128, 131, 139, 141, 153, 155, 170, 173, 174, 180, 185] 400
set_option maxRecDepth 100000 in
theorem b237_64 {d : Nat} {Q : j3_P} {σ : j3_S} {x1 : Int} {x2 : Int} {x3 : Int} {x4 : Int} :
  T237 d Q 64 [wO 10 121, wI x1, wI x2, wI x3, wI x4, wM 2] [] σ = ((0 ≤ x2 ∧ x2 < 28800) ∧ ((0 ≤ (wr ((wr (20 * x1)) + (σ.2.2 10028 121 x2))) ∧ (wr ((wr (20 * x1)) + (σ.2.2 10028 121 x2))) < 800) ∧ j3_tc true d 233 [wO 10 121, wI (σ.2.2 10083 121 (wr ((wr (20 * x1)) + (σ.2.2 10028 121 x2))))] σ (fun r σ1 => T237 d Q 77 [wO 10 121, wI x1, wI x2, wI x3, wI x4, wM 2] (r.toList ++ []) σ1))) := j3_T.go d [0, 16, 28, 36, 37, 43, 53, 59, 60, 63, 64, 77, 78, 90, 92, 101, 106, 108, 109, 115, 117, 124, 126, 128, 131, 139, 141, 153, 155, 170, 173, 174, 180, 185] 400
set_option maxRecDepth 100000 in
theorem b237_77 {d : Nat} {Q : j3_P} {σ : j3_S} {x1 : Int} {x2 : Int} {x3 : Int} {x4 : Int} :
  T237 d Q 77 [wO 10 121, wI x1, wI x2, wI x3, wI x4, wM 2] [] σ = T237 d Q 185 [wO 10 121, wI x1, wI x2, wI x3, wI x4, wM 2] [] σ := j3_T.go d [0, 16, 28, 36, 37, 43, 53, 59, 60, 63, 64, 77, 78, 90, 92, 101, 106, 108, 109, 115, 117, 124, 126, 128, 131, 139, 141, 153, 155, 170, 173, 174, 180, 185] 400
set_option maxRecDepth 100000 in
theorem b237_78 {d : Nat} {Q : j3_P} {σ : j3_S} {x1 : Int} {x2 : Int} {x3 : Int} {x4 : Int} :
  T237 d Q 78 [wO 10 121, wI x1, wI x2, wI x3, wI x4, wM 2] [] σ = ((0 ≤ x2 ∧ x2 < 28800) ∧ j3_tc true d 232 [wO 10 121] σ (fun r σ1 => T237 d Q 90 [wO 10 121, wI x1, wI x2, wI x3, wI x4, wM 2] (r.toList ++ [wI (wr ((wr (20 * x1)) + (σ.2.2 10028 121 x2))), wA 10083 121]) σ1)) := j3_T.go d [0, 16, 28, 36, 37, 43, 53, 59, 60, 63, 64, 77, 78, 90, 92, 101, 106, 108, 109, 115, 117, 124, 126, 128, 131, 139, 141, 153, 155, 170, 173, 174, 180, 185] 400
set_option maxRecDepth 100000 in
theorem b237_90 {d : Nat} {Q : j3_P} {σ : j3_S} {x1 : Int} {x2 : Int} {x3 : Int} {x4 : Int} {xs0 : Int} {xs1 : Int} :
  T237 d Q 90 [wO 10 121, wI x1, wI x2, wI x3, wI x4, wM 2] [wI xs0, wI xs1, wA 10083 121] σ = ((0 ≤ xs1 ∧ xs1 < 800) ∧ T237 d Q 185 [wO 10 121, wI x1, wI x2, wI x3, wI x4, wM 2] [] (σ.1, σ.2.1, (j3_ast σ.2.2 10083 121 xs1 xs0))) := j3_T.go d [0, 16, 28, 36, 37, 43, 53, 59, 60, 63, 64, 77, 78, 90, 92, 101, 106, 108, 109, 115, 117, 124, 126, 128, 131, 139, 141, 153, 155, 170, 173, 174, 180, 185] 400
set_option maxRecDepth 100000 in
theorem b237_92 {d : Nat} {Q : j3_P} {σ : j3_S} {x1 : Int} {x2 : Int} {x3 : Int} {x4 : Int} :
  T237 d Q 92 [wO 10 121, wI x1, wI x2, wI x3, wI x4, wM 2] [] σ = ((0 ≤ x1 ∧ x1 < 40) ∧ ((0 ≤ x1 ∧ x1 < 40) ∧ T237 d Q 185 [wO 10 121, wI x1, wI x2, wI x3, wI x4, wM 2] [] (σ.1, σ.2.1, (j3_ast σ.2.2 10082 121 x1 (wr ((σ.2.2 10082 121 x1) - 1)))))) := j3_T.go d [0, 16, 28, 36, 37, 43, 53, 59, 60, 63, 64, 77, 78, 90, 92, 101, 106, 108, 109, 115, 117, 124, 126, 128, 131, 139, 141, 153, 155, 170, 173, 174, 180, 185] 400
set_option maxRecDepth 100000 in
theorem b237_101 {d : Nat} {Q : j3_P} {σ : j3_S} {x1 : Int} {x2 : Int} {x3 : Int} {x4 : Int} :
  T237 d Q 101 [wO 10 121, wI x1, wI x2, wI x3, wI x4, wM 2] [] σ = j3_tc true d 231 [wO 10 121] σ (fun r σ1 => T237 d Q 106 [wO 10 121, wI x1, wI x2, wI x3, wI x4, wM 2] (r.toList ++ [wA 10084 121, wO 10 121]) σ1) := j3_T.go d [0, 16, 28, 36, 37, 43, 53, 59, 60, 63, 64, 77, 78, 90, 92, 101, 106, 108, 109, 115, 117, 124, 126, 128, 131, 139, 141, 153, 155, 170, 173, 174, 180, 185] 400
set_option maxRecDepth 100000 in
theorem b237_106 {d : Nat} {Q : j3_P} {σ : j3_S} {x1 : Int} {x2 : Int} {x3 : Int} {x4 : Int} {xs0 : Int} :
  T237 d Q 106 [wO 10 121, wI x1, wI x2, wI x3, wI x4, wM 2] [wI xs0, wA 10084 121, wO 10 121] σ = ((0 ≤ xs0 ∧ xs0 < 400) ∧ j3_tc true d 233 [wO 10 121, wI (σ.2.2 10084 121 xs0)] σ (fun r σ1 => T237 d Q 108 [wO 10 121, wI x1, wI x2, wI x3, wI x4, wM 2] (r.toList ++ []) σ1)) := j3_T.go d [0, 16, 28, 36, 37, 43, 53, 59, 60, 63, 64, 77, 78, 90, 92, 101, 106, 108, 109, 115, 117, 124, 126, 128, 131, 139, 141, 153, 155, 170, 173, 174, 180, 185] 400
set_option maxRecDepth 100000 in
theorem b237_108 {d : Nat} {Q : j3_P} {σ : j3_S} {x1 : Int} {x2 : Int} {x3 : Int} {x4 : Int} :
  T237 d Q 108 [wO 10 121, wI x1, wI x2, wI x3, wI x4, wM 2] [] σ = T237 d Q 185 [wO 10 121, wI x1, wI x2, wI x3, wI x4, wM 2] [] σ := j3_T.go d [0, 16, 28, 36, 37, 43, 53, 59, 60, 63, 64, 77, 78, 90, 92, 101, 106, 108, 109, 115, 117, 124, 126, 128, 131, 139, 141, 153, 155, 170, 173, 174, 180, 185] 400
set_option maxRecDepth 100000 in
theorem b237_109 {d : Nat} {Q : j3_P} {σ : j3_S} {x1 : Int} {x2 : Int} {x3 : Int} {x4 : Int} :
  T237 d Q 109 [wO 10 121, wI x1, wI x2, wI x3, wI x4, wM 2] [] σ = ((0 ≤ x2 ∧ x2 < 28800) ∧ T237 d Q 185 [wO 10 121, wI x1, wI x2, wI x3, wI (σ.2.2 10028 121 x2), wM 2] [] σ) := j3_T.go d [0, 16, 28, 36, 37, 43, 53, 59, 60, 63, 64, 77, 78, 90, 92, 101, 106, 108, 109, 115, 117, 124, 126, 128, 131, 139, 141, 153, 155, 170, 173, 174, 180, 185] 400
set_option maxRecDepth 100000 in
theorem b237_115 {d : Nat} {Q : j3_P} {σ : j3_S} {x1 : Int} {x2 : Int} {x3 : Int} {x4 : Int} :
  T237 d Q 115 [wO 10 121, wI x1, wI x2, wI x3, wI x4, wM 2] [] σ = j3_tc true d 232 [wO 10 121] σ (fun r σ1 => T237 d Q 117 [wO 10 121, wI x1, wI x2, wI x3, wI x4, wM 2] (r.toList ++ []) σ1) := j3_T.go d [0, 16, 28, 36, 37, 43, 53, 59, 60, 63, 64, 77, 78, 90, 92, 101, 106, 108, 109, 115, 117, 124, 126, 128, 131, 139, 141, 153, 155, 170, 173, 174, 180, 185] 400
set_option maxRecDepth 100000 in
theorem b237_117 {d : Nat} {Q : j3_P} {σ : j3_S} {x1 : Int} {x2 : Int} {x3 : Int} {x4 : Int} {xs0 : Int} :
  T237 d Q 117 [wO 10 121, wI x1, wI x2, wI x3, wI x4, wM 2] [wI xs0] σ = (if xs0 = 0 then ((0 ≤ x2 ∧ x2 < 28800) ∧ T237 d Q 124 [wO 10 121, wI x1, wI x2, wI x3, wI x4, wM 2] [wI (σ.2.2 10028 121 x2)] σ) else T237 d Q 124 [wO 10 121, wI x1, wI x2, wI x3, wI x4, wM 2] [wI x4] σ) := j3_T.go d [0, 16, 28, 36, 37, 43, 53, 59, 60, 63, 64, 77, 78, 90, 92, 101, 106, 108, 109, 115, 117, 124, 126, 128, 131, 139, 141, 153, 155, 170, 173, 174, 180, 185] 400
set_option maxRecDepth 100000 in
theorem b237_124 {d : Nat} {Q : j3_P} {σ : j3_S} {x1 : Int} {x2 : Int} {x3 : Int} {x4 : Int} {xs0 : Int} :
  T237 d Q 124 [wO 10 121, wI x1, wI x2, wI x3, wI x4, wM 2] [wI xs0] σ = T237 d Q 185 [wO 10 121, wI x1, wI x2, wI x3, wI xs0, wM 2] [] σ := j3_T.go d [0, 16, 28, 36, 37, 43, 53, 59, 60, 63, 64, 77, 78, 90, 92, 101, 106, 108, 109, 115, 117, 124, 126, 128, 131, 139, 141, 153, 155, 170, 173, 174, 180, 185] 400
set_option maxRecDepth 100000 in
theorem b237_126 {d : Nat} {Q : j3_P} {σ : j3_S} {x1 : Int} {x2 : Int} {x3 : Int} {x4 : Int} :
  T237 d Q 126 [wO 10 121, wI x1, wI x2, wI x3, wI x4, wM 2] [] σ = j3_tc true d 232 [wO 10 121] σ (fun r σ1 => T237 d Q 128 [wO 10 121, wI x1, wI x2, wI x3, wI x4, wM 2] (r.toList ++ []) σ1) := j3_T.go d [0, 16, 28, 36, 37, 43, 53, 59, 60, 63, 64, 77, 78, 90, 92, 101, 106, 108, 109, 115, 117, 124, 126, 128, 131, 139, 141, 153, 155, 170, 173, 174, 180, 185] 400
set_option maxRecDepth 100000 in
theorem b237_128 {d : Nat} {Q : j3_P} {σ : j3_S} {x1 : Int} {x2 : Int} {x3 : Int} {x4 : Int} {xs0 : Int} :
  T237 d Q 128 [wO 10 121, wI x1, wI x2, wI x3, wI x4, wM 2] [wI xs0] σ = j3_tc true d 232 [wO 10 121] σ (fun r σ1 => T237 d Q 131 [wO 10 121, wI x1, wI x2, wI x3, wI x4, wI xs0] (r.toList ++ []) σ1) := j3_T.go d [0, 16, 28, 36, 37, 43, 53, 59, 60, 63, 64, 77, 78, 90, 92, 101, 106, 108, 109, 115, 117, 124, 126, 128, 131, 139, 141, 153, 155, 170, 173, 174, 180, 185] 400
set_option maxRecDepth 100000 in
theorem b237_131 {d : Nat} {Q : j3_P} {σ : j3_S} {x1 : Int} {x2 : Int} {x3 : Int} {x4 : Int} {x5 : Int} {xs0 : Int} :
  T237 d Q 131 [wO 10 121, wI x1, wI x2, wI x3, wI x4, wI x5] [wI xs0] σ = (if xs0 < x5 then ((0 ≤ x2 ∧ x2 < 28800) ∧ T237 d Q 139 [wO 10 121, wI x1, wI x2, wI x3, wI x4, wI x5] [wI (σ.2.2 10028 121 x2)] σ) else T237 d Q 139 [wO 10 121, wI x1, wI x2, wI x3, wI x4, wI x5] [wI x4] σ) := j3_T.go d [0, 16, 28, 36, 37, 43, 53, 59, 60, 63, 64, 77, 78, 90, 92, 101, 106, 108, 109, 115, 117, 124, 126, 128, 131, 139, 141, 153, 155, 170, 173, 174, 180, 185] 400
set_option maxRecDepth 100000 in
theorem b237_139 {d : Nat} {Q : j3_P} {σ : j3_S} {x1 : Int} {x2 : Int} {x3 : Int} {x4 : Int} {x5 : Int} {xs0 : Int} :
  T237 d Q 139 [wO 10 121, wI x1, wI x2, wI x3, wI x4, wI x5] [wI xs0] σ = T237 d Q 185 [wO 10 121, wI x1, wI x2, wI x3, wI xs0, wI x5] [] σ := j3_T.go d [0, 16, 28, 36, 37, 43, 53, 59, 60, 63, 64, 77, 78, 90, 92, 101, 106, 108, 109, 115, 117, 124, 126, 128, 131, 139, 141, 153, 155, 170, 173, 174, 180, 185] 400
set_option maxRecDepth 100000 in
theorem b237_141 {d : Nat} {Q : j3_P} {σ : j3_S} {x1 : Int} {x2 : Int} {x3 : Int} {x4 : Int} :
  T237 d Q 141 [wO 10 121, wI x1, wI x2, wI x3, wI x4, wM 2] [] σ = (if (σ.1 10089 121) < (100 : Int) then j3_tc true d 231 [wO 10 121] σ (fun r σ1 => T237 d Q 153 [wO 10 121, wI x1, wI x2, wI x3, wI x4, wM 2] (r.toList ++ [wA 10084 121, wI (σ.1 10089 121), wA 10090 121]) σ1) else T237 d Q 155 [wO 10 121, wI x1, wI x2, wI x3, wI x4, wM 2] [] σ) := j3_T.go d [0, 16, 28, 36, 37, 43, 53, 59, 60, 63, 64, 77, 78, 90, 92, 101, 106, 108, 109, 115, 117, 124, 126, 128, 131, 139, 141, 153, 155, 170, 173, 174, 180, 185] 400
set_option maxRecDepth 100000 in
theorem b237_153 {d : Nat} {Q : j3_P} {σ : j3_S} {x1 : Int} {x2 : Int} {x3 : Int} {x4 : Int} {xs0 : Int} {xs2 : Int} :
  T237 d Q 153 [wO 10 121, wI x1, wI x2, wI x3, wI x4, wM 2] [wI xs0, wA 10084 121, wI xs2, wA 10090 121] σ = ((0 ≤ xs0 ∧ xs0 < 400) ∧ ((0 ≤ xs2 ∧ xs2 < 100) ∧ T237 d Q 155 [wO 10 121, wI x1, wI x2, wI x3, wI x4, wM 2] [] (σ.1, σ.2.1, (j3_ast σ.2.2 10090 121 xs2 (σ.2.2 10084 121 xs0))))) := j3_T.go d [0, 16, 28, 36, 37, 43, 53, 59, 60, 63, 64, 77, 78, 90, 92, 101, 106, 108, 109, 115, 117, 124, 126, 128, 131, 139, 141, 153, 155, 170, 173, 174, 180, 185] 400
set_option maxRecDepth 100000 in
theorem b237_155 {d : Nat} {Q : j3_P} {σ : j3_S} {x1 : Int} {x2 : Int} {x3 : Int} {x4 : Int} :
  T237 d Q 155 [wO 10 121, wI x1, wI x2, wI x3, wI x4, wM 2] [] σ = ((0 ≤ x1 ∧ x1 < 40) ∧ ((0 ≤ x1 ∧ x1 < 40) ∧ T237 d Q 185 [wO 10 121, wI x1, wI x2, wI x3, wI x4, wM 2] [] ((j3_up σ.1 10089 121 (wr ((σ.1 10089 121) + 1))), σ.2.1, (j3_ast σ.2.2 10082 121 x1 (wr ((σ.2.2 10082 121 x1) - 1)))))) := j3_T.go d [0, 16, 28, 36, 37, 43, 53, 59, 60, 63, 64, 77, 78, 90, 92, 101, 106, 108, 109, 115, 117, 124, 126, 128, 131, 139, 141, 153, 155, 170, 173, 174, 180, 185] 400
set_option maxRecDepth 100000 in
theorem b237_170 {d : Nat} {Q : j3_P} {σ : j3_S} {x1 : Int} {x2 : Int} {x3 : Int} {x4 : Int} :
  T237 d Q 170 [wO 10 121, wI x1, wI x2, wI x3, wI x4, wM 2] [] σ = j3_tc true d 234 [wO 10 121, wI 4] σ (fun r σ1 => T237 d Q 173 [wO 10 121, wI x1, wI x2, wI x3, wI x4, wM 2] (r.toList ++ []) σ1) := j3_T.go d [0, 16, 28, 36, 37, 43, 53, 59, 60, 63, 64, 77, 78, 90, 92, 101, 106, 108, 109, 115, 117, 124, 126, 128, 131, 139, 141, 153, 155, 170, 173, 174, 180, 185] 400
set_option maxRecDepth 100000 in
theorem b237_173 {d : Nat} {Q : j3_P} {σ : j3_S} {x1 : Int} {x2 : Int} {x3 : Int} {x4 : Int} :
  T237 d Q 173 [wO 10 121, wI x1, wI x2, wI x3, wI x4, wM 2] [] σ = T237 d Q 185 [wO 10 121, wI x1, wI x2, wI x3, wI x4, wM 2] [] σ := j3_T.go d [0, 16, 28, 36, 37, 43, 53, 59, 60, 63, 64, 77, 78, 90, 92, 101, 106, 108, 109, 115, 117, 124, 126, 128, 131, 139, 141, 153, 155, 170, 173, 174, 180, 185] 400
set_option maxRecDepth 100000 in
theorem b237_174 {d : Nat} {Q : j3_P} {σ : j3_S} {x1 : Int} {x2 : Int} {x3 : Int} {x4 : Int} :
  T237 d Q 174 [wO 10 121, wI x1, wI x2, wI x3, wI x4, wM 2] [] σ = (if (10 : Int) < x3 then j3_tc true d 239 [wO 10 121, wI x2, wI x3] σ (fun r σ1 => T237 d Q 185 [wO 10 121, wI x1, wI x2, wI x3, wI x4, wM 2] (r.toList ++ []) σ1) else j3_tc true d 238 [wO 10 121, wI x3] σ (fun r σ1 => T237 d Q 180 [wO 10 121, wI x1, wI x2, wI x3, wI x4, wM 2] (r.toList ++ []) σ1)) := j3_T.go d [0, 16, 28, 36, 37, 43, 53, 59, 60, 63, 64, 77, 78, 90, 92, 101, 106, 108, 109, 115, 117, 124, 126, 128, 131, 139, 141, 153, 155, 170, 173, 174, 180, 185] 400
set_option maxRecDepth 100000 in
theorem b237_180 {d : Nat} {Q : j3_P} {σ : j3_S} {x1 : Int} {x2 : Int} {x3 : Int} {x4 : Int} :
  T237 d Q 180 [wO 10 121, wI x1, wI x2, wI x3, wI x4, wM 2] [] σ = T237 d Q 185 [wO 10 121, wI x1, wI x2, wI x3, wI x4, wM 2] [] σ := j3_T.go d [0, 16, 28, 36, 37, 43, 53, 59, 60, 63, 64, 77, 78, 90, 92, 101, 106, 108, 109, 115, 117, 124, 126, 128, 131, 139, 141, 153, 155, 170, 173, 174, 180, 185] 400
set_option maxRecDepth 100000 in
theorem b237_185 {d : Nat} {Q : j3_P} {σ : j3_S} {x1 : Int} {x2 : Int} {x3 : Int} {x4 : Int} {w5 : j3_W} :
  T237 d Q 185 [wO 10 121, wI x1, wI x2, wI x3, wI x4, w5] [] σ = (if (σ.1 10094 121) < 0 then ((0 ≤ x1 ∧ x1 < 40) ∧ Q none (σ.1, σ.2.1, (j3_ast σ.2.2 10081 121 x1 x4))) else Q none σ) := j3_T.go d [0, 16, 28, 36, 37, 43, 53, 59, 60, 63, 64, 77, 78, 90, 92, 101, 106, 108, 109, 115, 117, 124, 126, 128, 131, 139, 141, 153, 155, 170, 173, 174, 180, 185] 400
def T238 (d : Nat) (Q : j3_P) : j3_K := j3_T true (j3_tc true d) jc_X10_reckon none Q
theorem e238 {d : Nat} {Q : j3_P} {σ : j3_S} {x1 : Int} : j3_tc true (d + 1) 238 [wO 10 121, wI x1] σ Q = T238 d Q 0 [wO 10 121, wI x1, wM 2, wM 2] [] σ := j3_entry ⟨Nat.le_of_ble_eq_true rfl, rfl⟩
set_option maxRecDepth 100000 in
theorem b238_0 {d : Nat} {Q : j3_P} {σ : j3_S} {x1 : Int} :
  T238 d Q 0 [wO 10 121, wI x1, wM 2, wM 2] [] σ = j3_tc true d 231 [wO 10 121] σ (fun r σ1 => T238 d Q 4 [wO 10 121, wI x1, wM 2, wM 2] (r.toList ++ [wA 10084 121]) σ1) := j3_T.go d [0, 4, 14, 15, 28, 34, 35] 400
set_option maxRecDepth 100000 in
theorem b238_4 {d : Nat} {Q : j3_P} {σ : j3_S} {x1 : Int} {xs0 : Int} :
  T238 d Q 4 [wO 10 121, wI x1, wM 2, wM 2] [wI xs0, wA 10084 121] σ = ((0 ≤ xs0 ∧ xs0 < 400) ∧ (if x1 < (9 : Int) then T238 d Q 15 [wO 10 121, wI x1, wI (σ.2.2 10084 121 xs0), wM 2] [] σ else (if (σ.2.2 10084 121 xs0) = 0 then j3_tc true d 234 [wO 10 121, wI 2] σ (fun r σ1 => T238 d Q 14 [wO 10 121, wI x1, wI (σ.2.2 10084 121 xs0), wM 2] (r.toList ++ []) σ1) else T238 d Q 15 [wO 10 121, wI x1, wI (σ.2.2 10084 121 xs0), wM 2] [] σ))) := j3_T.go d [0, 4, 14, 15, 28, 34, 35] 400
set_option maxRecDepth 100000 in
theorem b238_14 {d : Nat} {Q : j3_P} {σ : j3_S} {x1 : Int} {x2 : Int} :
  T238 d Q 14 [wO 10 121, wI x1, wI x2, wM 2] [] σ = Q none σ := j3_T.go d [0, 4, 14, 15, 28, 34, 35] 400
set_option maxRecDepth 100000 in
theorem b238_15 {d : Nat} {Q : j3_P} {σ : j3_S} {x1 : Int} {x2 : Int} :
  T238 d Q 15 [wO 10 121, wI x1, wI x2, wM 2] [] σ = ((0 ≤ (wr ((σ.1 10079 121) - 1)) ∧ (wr ((σ.1 10079 121) - 1)) < 40) ∧ ((0 ≤ (wr ((σ.1 10079 121) - 1)) ∧ (wr ((σ.1 10079 121) - 1)) < 40) ∧ j3_tc true d 232 [wO 10 121] (σ.1, σ.2.1, (j3_ast σ.2.2 10082 121 (wr ((σ.1 10079 121) - 1)) (wr ((σ.2.2 10082 121 (wr ((σ.1 10079 121) - 1))) - 1)))) (fun r σ1 => T238 d Q 28 [wO 10 121, wI x1, wI x2, wM 2] (r.toList ++ []) σ1))) := j3_T.go d [0, 4, 14, 15, 28, 34, 35] 400
set_option maxRecDepth 100000 in
theorem b238_28 {d : Nat} {Q : j3_P} {σ : j3_S} {x1 : Int} {x2 : Int} {xs0 : Int} :
  T238 d Q 28 [wO 10 121, wI x1, wI x2, wM 2] [wI xs0] σ = j3_tc true d 210 [wI x1, wI xs0, wI x2] σ (fun r σ1 => T238 d Q 34 [wO 10 121, wI x1, wI x2, wI xs0] (r.toList ++ [wO 10 121]) σ1) := j3_T.go d [0, 4, 14, 15, 28, 34, 35] 400
set_option maxRecDepth 100000 in
theorem b238_34 {d : Nat} {Q : j3_P} {σ : j3_S} {x1 : Int} {x2 : Int} {x3 : Int} {xs0 : Int} :
  T238 d Q 34 [wO 10 121, wI x1, wI x2, wI x3] [wI xs0, wO 10 121] σ = j3_tc true d 233 [wO 10 121, wI xs0] σ (fun r σ1 => T238 d Q 35 [wO 10 121, wI x1, wI x2, wI x3] (r.toList ++ []) σ1) := j3_T.go d [0, 4, 14, 15, 28, 34, 35] 400
set_option maxRecDepth 100000 in
theorem b238_35 {d : Nat} {Q : j3_P} {σ : j3_S} {x1 : Int} {x2 : Int} {x3 : Int} :
  T238 d Q 35 [wO 10 121, wI x1, wI x2, wI x3] [] σ = Q none σ := j3_T.go d [0, 4, 14, 15, 28, 34, 35] 400
def T239 (d : Nat) (Q : j3_P) : j3_K := j3_T true (j3_tc true d) jc_X10_reachObject none Q
theorem e239 {d : Nat} {Q : j3_P} {σ : j3_S} {x1 : Int} {x2 : Int} : j3_tc true (d + 1) 239 [wO 10 121, wI x1, wI x2] σ Q = T239 d Q 0 [wO 10 121, wI x1, wI x2, wM 2, wM 2, wM 2] [] σ := j3_entry ⟨Nat.le_of_ble_eq_true rfl, rfl⟩
set_option maxRecDepth 100000 in
theorem b239_0 {d : Nat} {Q : j3_P} {σ : j3_S} {x1 : Int} {x2 : Int} :
  T239 d Q 0 [wO 10 121, wI x1, wI x2, wM 2, wM 2, wM 2] [] σ = ((0 ≤ x1 ∧ x1 < 28800) ∧ ((0 ≤ x1 ∧ x1 < 28800) ∧ (if x2 = (15 : Int) then T239 d Q 18 [wO 10 121, wI x1, wI x2, wI (wr ((wr (6 * (σ.2.2 10028 121 x1))) + (σ.2.2 10029 121 x1))), wM 2, wM 2] [] σ else (if x2 = (18 : Int) then T239 d Q 18 [wO 10 121, wI x1, wI x2, wI (wr ((wr (6 * (σ.2.2 10028 121 x1))) + (σ.2.2 10029 121 x1))), wM 2, wM 2] [] σ else j3_tc true d 231 [wO 10 121] σ (fun r σ1 => T239 d Q 24 [wO 10 121, wI x1, wI x2, wI (wr ((wr (6 * (σ.2.2 10028 121 x1))) + (σ.2.2 10029 121 x1))), wM 2, wM 2] (r.toList ++ [wA 10084 121]) σ1))))) := j3_T.go d [0, 18, 24, 25, 28, 35, 47, 72, 73, 79, 80, 85, 87, 92, 97, 109, 113, 122, 146, 162, 166, 167, 171, 187] 400
set_option maxRecDepth 100000 in
theorem b239_18 {d : Nat} {Q : j3_P} {σ : j3_S} {x1 : Int} {x2 : Int} {x3 : Int} :
  T239 d Q 18 [wO 10 121, wI x1, wI x2, wI x3, wM 2, wM 2] [] σ = T239 d Q 25 [wO 10 121, wI x1, wI x2, wI x3, wM 2, wM 2] [wI 0] σ := j3_T.go d [0, 18, 24, 25, 28, 35, 47, 72, 73, 79, 80, 85, 87, 92, 97, 109, 113, 122, 146, 162, 166, 167, 171, 187] 400
set_option maxRecDepth 100000 in
theorem b239_24 {d : Nat} {Q : j3_P} {σ : j3_S} {x1 : Int} {x2 : Int} {x3 : Int} {xs0 : Int} :
  T239 d Q 24 [wO 10 121, wI x1, wI x2, wI x3, wM 2, wM 2] [wI xs0, wA 10084 121] σ = ((0 ≤ xs0 ∧ xs0 < 400) ∧ T239 d Q 25 [wO 10 121, wI x1, wI x2, wI x3, wM 2, wM 2] [wI (σ.2.2 10084 121 xs0)] σ) := j3_T.go d [0, 18, 24, 25, 28, 35, 47, 72, 73, 79, 80, 85, 87, 92, 97, 109, 113, 122, 146, 162, 166, 167, 171, 187] 400
set_option maxRecDepth 100000 in
theorem b239_25 {d : Nat} {Q : j3_P} {σ : j3_S} {x1 : Int} {x2 : Int} {x3 : Int} {xs0 : Int} :
  T239 d Q 25 [wO 10 121, wI x1, wI x2, wI x3, wM 2, wM 2] [wI xs0] σ = (if x2 = 15 then T239 d Q 28 [wO 10 121, wI x1, wI x2, wI x3, wI xs0, wM 2] [] σ else (if x2 = 16 then T239 d Q 87 [wO 10 121, wI x1, wI x2, wI x3, wI xs0, wM 2] [] σ else (if x2 = 17 then T239 d Q 109 [wO 10 121, wI x1, wI x2, wI x3, wI xs0, wM 2] [] σ else (if x2 = 18 then T239 d Q 73 [wO 10 121, wI x1, wI x2, wI x3, wI xs0, wM 2] [] σ else (if x2 = 19 then T239 d Q 80 [wO 10 121, wI x1, wI x2, wI x3, wI xs0, wM 2] [] σ else (if x2 = 20 then T239 d Q 167 [wO 10 121, wI x1, wI x2, wI x3, wI xs0, wM 2] [] σ else (if x2 = 21 then T239 d Q 167 [wO 10 121, wI x1, wI x2, wI x3, wI xs0, wM 2] [] σ else (if x2 = 22 then T239 d Q 167 [wO 10 121, wI x1, wI x2, wI x3, wI xs0, wM 2] [] σ else (if x2 = 23 then T239 d Q 167 [wO 10 121, wI x1, wI x2, wI x3, wI xs0, wM 2] [] σ else (if x2 = 24 then T239 d Q 146 [wO 10 121, wI x1, wI x2, wI x3, wI xs0, wM 2] [] σ else T239 d Q 167 [wO 10 121, wI x1, wI x2, wI x3, wI xs0, wM 2] [] σ)))))))))) := j3_T.go d [0, 18, 24, 25, 28, 35, 47, 72, 73, 79, 80, 85, 87, 92, 97, 109, 113, 122, 146, 162, 166, 167, 171, 187] 400
set_option maxRecDepth 100000 in
theorem b239_28 {d : Nat} {Q : j3_P} {σ : j3_S} {x1 : Int} {x2 : Int} {x3 : Int} {x4 : Int} :
  T239 d Q 28 [wO 10 121, wI x1, wI x2, wI x3, wI x4, wM 2] [] σ = (if (σ.1 10085 121) = (200 : Int) then j3_tc true d 234 [wO 10 121, wI 6] σ (fun r σ1 => T239 d Q 35 [wO 10 121, wI x1, wI x2, wI x3, wI x4, wM 2] (r.toList ++ []) σ1) else ((0 ≤ x1 ∧ x1 < 28800) ∧ ((0 ≤ (σ.1 10085 121) ∧ (σ.1 10085 121) < 200) ∧ T239 d Q 47 [wO 10 121, wI x1, wI x2, wI x3, wI x4, wI 0] [] (σ.1, σ.2.1, (j3_ast σ.2.2 10086 121 (σ.1 10085 121) (σ.2.2 10028 121 x1)))))) := j3_T.go d [0, 18, 24, 25, 28, 35, 47, 72, 73, 79, 80, 85, 87, 92, 97, 109, 113, 122, 146, 162, 166, 167, 171, 187] 400
set_option maxRecDepth 100000 in
theorem b239_35 {d : Nat} {Q : j3_P} {σ : j3_S} {x1 : Int} {x2 : Int} {x3 : Int} {x4 : Int} :
  T239 d Q 35 [wO 10 121, wI x1, wI x2, wI x3, wI x4, wM 2] [] σ = Q none σ := j3_T.go d [0, 18, 24, 25, 28, 35, 47, 72, 73, 79, 80, 85, 87, 92, 97, 109, 113, 122, 146, 162, 166, 167, 171, 187] 400
set_option maxRecDepth 100000 in
theorem b239_47 {d : Nat} {Q : j3_P} {σ : j3_S} {x1 : Int} {x2 : Int} {x3 : Int} {x4 : Int} {x5 : Int} :
  T239 d Q 47 [wO 10 121, wI x1, wI x2, wI x3, wI x4, wI x5] [] σ = (if x5 < (60 : Int) then ((0 ≤ (wr ((wr (60 * (σ.1 10085 121))) + x5)) ∧ (wr ((wr (60 * (σ.1 10085 121))) + x5)) < 12000) ∧ T239 d Q 47 [wO 10 121, wI x1, wI x2, wI x3, wI x4, wI (wr (x5 + 1))] [] (σ.1, σ.2.1, (j3_ast σ.2.2 10087 121 (wr ((wr (60 * (σ.1 10085 121))) + x5)) 0))) else j3_tc true d 233 [wO 10 121, wI (wr ((σ.1 10085 121) + 1))] ((j3_up σ.1 10085 121 (wr ((σ.1 10085 121) + 1))), σ.2.1, σ.2.2) (fun r σ1 => T239 d Q 72 [wO 10 121, wI x1, wI x2, wI x3, wI x4, wI x5] (r.toList ++ []) σ1)) := j3_T.go d [0, 18, 24, 25, 28, 35, 47, 72, 73, 79, 80, 85, 87, 92, 97, 109, 113, 122, 146, 162, 166, 167, 171, 187] 400
set_option maxRecDepth 100000 in
theorem b239_72 {d : Nat} {Q : j3_P} {σ : j3_S} {x1 : Int} {x2 : Int} {x3 : Int} {x4 : Int} {x5 : Int} :
  T239 d Q 72 [wO 10 121, wI x1, wI x2, wI x3, wI x4, wI x5] [] σ = Q none σ := j3_T.go d [0, 18, 24, 25, 28, 35, 47, 72, 73, 79, 80, 85, 87, 92, 97, 109, 113, 122, 146, 162, 166, 167, 171, 187] 400
set_option maxRecDepth 100000 in
theorem b239_73 {d : Nat} {Q : j3_P} {σ : j3_S} {x1 : Int} {x2 : Int} {x3 : Int} {x4 : Int} :
  T239 d Q 73 [wO 10 121, wI x1, wI x2, wI x3, wI x4, wM 2] [] σ = ((0 ≤ x3 ∧ x3 < 60) ∧ j3_tc true d 233 [wO 10 121, wI (σ.2.2 10088 121 x3)] σ (fun r σ1 => T239 d Q 79 [wO 10 121, wI x1, wI x2, wI x3, wI x4, wM 2] (r.toList ++ []) σ1)) := j3_T.go d [0, 18, 24, 25, 28, 35, 47, 72, 73, 79, 80, 85, 87, 92, 97, 109, 113, 122, 146, 162, 166, 167, 171, 187] 400
set_option maxRecDepth 100000 in
theorem b239_79 {d : Nat} {Q : j3_P} {σ : j3_S} {x1 : Int} {x2 : Int} {x3 : Int} {x4 : Int} :
  T239 d Q 79 [wO 10 121, wI x1, wI x2, wI x3, wI x4, wM 2] [] σ = Q none σ := j3_T.go d [0, 18, 24, 25, 28, 35, 47, 72, 73, 79, 80, 85, 87, 92, 97, 109, 113, 122, 146, 162, 166, 167, 171, 187] 400
set_option maxRecDepth 100000 in
theorem b239_80 {d : Nat} {Q : j3_P} {σ : j3_S} {x1 : Int} {x2 : Int} {x3 : Int} {x4 : Int} :
  T239 d Q 80 [wO 10 121, wI x1, wI x2, wI x3, wI x4, wM 2] [] σ = j3_tc true d 232 [wO 10 121] σ (fun r σ1 => T239 d Q 85 [wO 10 121, wI x1, wI x2, wI x3, wI x4, wM 2] (r.toList ++ [wI x3, wA 10088 121]) σ1) := j3_T.go d [0, 18, 24, 25, 28, 35, 47, 72, 73, 79, 80, 85, 87, 92, 97, 109, 113, 122, 146, 162, 166, 167, 171, 187] 400
set_option maxRecDepth 100000 in
theorem b239_85 {d : Nat} {Q : j3_P} {σ : j3_S} {x1 : Int} {x2 : Int} {x3 : Int} {x4 : Int} {xs0 : Int} {xs1 : Int} :
  T239 d Q 85 [wO 10 121, wI x1, wI x2, wI x3, wI x4, wM 2] [wI xs0, wI xs1, wA 10088 121] σ = ((0 ≤ xs1 ∧ xs1 < 60) ∧ Q none (σ.1, σ.2.1, (j3_ast σ.2.2 10088 121 xs1 xs0))) := j3_T.go d [0, 18, 24, 25, 28, 35, 47, 72, 73, 79, 80, 85, 87, 92, 97, 109, 113, 122, 146, 162, 166, 167, 171, 187] 400
set_option maxRecDepth 100000 in
theorem b239_87 {d : Nat} {Q : j3_P} {σ : j3_S} {x1 : Int} {x2 : Int} {x3 : Int} {x4 : Int} :
  T239 d Q 87 [wO 10 121, wI x1, wI x2, wI x3, wI x4, wM 2] [] σ = (if x4 = 0 then j3_tc true d 234 [wO 10 121, wI 1] σ (fun r σ1 => T239 d Q 92 [wO 10 121, wI x1, wI x2, wI x3, wI x4, wM 2] (r.toList ++ []) σ1) else j3_tc true d 231 [wO 10 121] σ (fun r σ1 => T239 d Q 97 [wO 10 121, wI x1, wI x2, wI x3, wI x4, wM 2] (r.toList ++ [wA 10084 121]) σ1)) := j3_T.go d [0, 18, 24, 25, 28, 35, 47, 72, 73, 79, 80, 85, 87, 92, 97, 109, 113, 122, 146, 162, 166, 167, 171, 187] 400
set_option maxRecDepth 100000 in
theorem b239_92 {d : Nat} {Q : j3_P} {σ : j3_S} {x1 : Int} {x2 : Int} {x3 : Int} {x4 : Int} :
  T239 d Q 92 [wO 10 121, wI x1, wI x2, wI x3, wI x4, wM 2] [] σ = Q none σ := j3_T.go d [0, 18, 24, 25, 28, 35, 47, 72, 73, 79, 80, 85, 87, 92, 97, 109, 113, 122, 146, 162, 166, 167, 171, 187] 400
set_option maxRecDepth 100000 in
theorem b239_97 {d : Nat} {Q : j3_P} {σ : j3_S} {x1 : Int} {x2 : Int} {x3 : Int} {x4 : Int} {xs0 : Int} :
  T239 d Q 97 [wO 10 121, wI x1, wI x2, wI x3, wI x4, wM 2] [wI xs0, wA 10084 121] σ = ((0 ≤ (wr ((wr (60 * (wr (x4 - 1)))) + x3)) ∧ (wr ((wr (60 * (wr (x4 - 1)))) + x3)) < 12000) ∧ ((0 ≤ xs0 ∧ xs0 < 400) ∧ Q none (σ.1, σ.2.1, (j3_ast σ.2.2 10084 121 xs0 (σ.2.2 10087 121 (wr ((wr (60 * (wr (x4 - 1)))) + x3))))))) := j3_T.go d [0, 18, 24, 25, 28, 35, 47, 72, 73, 79, 80, 85, 87, 92, 97, 109, 113, 122, 146, 162, 166, 167, 171, 187] 400
set_option maxRecDepth 100000 in
theorem b239_109 {d : Nat} {Q : j3_P} {σ : j3_S} {x1 : Int} {x2 : Int} {x3 : Int} {x4 : Int} :
  T239 d Q 109 [wO 10 121, wI x1, wI x2, wI x3, wI x4, wM 2] [] σ = j3_tc true d 231 [wO 10 121] σ (fun r σ1 => T239 d Q 113 [wO 10 121, wI x1, wI x2, wI x3, wI x4, wM 2] (r.toList ++ [wA 10084 121]) σ1) := j3_T.go d [0, 18, 24, 25, 28, 35, 47, 72, 73, 79, 80, 85, 87, 92, 97, 109, 113, 122, 146, 162, 166, 167, 171, 187] 400
set_option maxRecDepth 100000 in
theorem b239_113 {d : Nat} {Q : j3_P} {σ : j3_S} {x1 : Int} {x2 : Int} {x3 : Int} {x4 : Int} {xs0 : Int} :
  T239 d Q 113 [wO 10 121, wI x1, wI x2, wI x3, wI x4, wM 2] [wI xs0, wA 10084 121] σ = ((0 ≤ (wr (xs0 - 1)) ∧ (wr (xs0 - 1)) < 400) ∧ (if (σ.2.2 10084 121 (wr (xs0 - 1))) = 0 then j3_tc true d 234 [wO 10 121, wI 1] σ (fun r σ1 => T239 d Q 122 [wO 10 121, wI x1, wI x2, wI x3, wI x4, wI (σ.2.2 10084 121 (wr (xs0 - 1)))] (r.toList ++ []) σ1) else ((0 ≤ (wr ((wr (60 * (wr ((σ.2.2 10084 121 (wr (xs0 - 1))) - 1)))) + x3)) ∧ (wr ((wr (60 * (wr ((σ.2.2 10084 121 (wr (xs0 - 1))) - 1)))) + x3)) < 12000) ∧ ((0 ≤ (wr ((σ.1 10079 121) - 1)) ∧ (wr ((σ.1 10079 121) - 1)) < 40) ∧ ((0 ≤ (wr ((σ.1 10079 121) - 1)) ∧ (wr ((σ.1 10079 121) - 1)) < 40) ∧ Q none (σ.1, σ.2.1, (j3_ast (j3_ast σ.2.2 10087 121 (wr ((wr (60 * (wr ((σ.2.2 10084 121 (wr (xs0 - 1))) - 1)))) + x3)) x4) 10082 121 (wr ((σ.1 10079 121) - 1)) (wr ((σ.2.2 10082 121 (wr ((σ.1 10079 121) - 1))) - 2))))))))) := j3_T.go d [0, 18, 24, 25, 28, 35, 47, 72, 73, 79, 80, 85, 87, 92, 97, 109, 113, 122, 146, 162, 166, 167, 171, 187] 400
set_option maxRecDepth 100000 in
theorem b239_122 {d : Nat} {Q : j3_P} {σ : j3_S} {x1 : Int} {x2 : Int} {x3 : Int} {x4 : Int} {x5 : Int} :
  T239 d Q 122 [wO 10 121, wI x1, wI x2, wI x3, wI x4, wI x5] [] σ = Q none σ := j3_T.go d [0, 18, 24, 25, 28, 35, 47, 72, 73, 79, 80, 85, 87, 92, 97, 109, 113, 122, 146, 162, 166, 167, 171, 187] 400
set_option maxRecDepth 100000 in
theorem b239_146 {d : Nat} {Q : j3_P} {σ : j3_S} {x1 : Int} {x2 : Int} {x3 : Int} {x4 : Int} :
  T239 d Q 146 [wO 10 121, wI x1, wI x2, wI x3, wI x4, wM 2] [] σ = (if x4 = 0 then T239 d Q 166 [wO 10 121, wI x1, wI x2, wI x3, wI x4, wM 2] [] σ else ((0 ≤ x1 ∧ x1 < 28800) ∧ ((0 ≤ (wr (x4 - 1)) ∧ (wr (x4 - 1)) < 200) ∧ j3_tc true d 170 [wO 10 121, wI (σ.1 10093 121), wI (σ.2.2 10028 121 x1), wI (σ.2.2 10086 121 (wr (x4 - 1)))] σ (fun r σ1 => T239 d Q 162 [wO 10 121, wI x1, wI x2, wI x3, wI x4, wM 2] (r.toList ++ []) σ1)))) := j3_T.go d [0, 18, 24, 25, 28, 35, 47, 72, 73, 79, 80, 85, 87, 92, 97, 109, 113, 122, 146, 162, 166, 167, 171, 187] 400
set_option maxRecDepth 100000 in
theorem b239_162 {d : Nat} {Q : j3_P} {σ : j3_S} {x1 : Int} {x2 : Int} {x3 : Int} {x4 : Int} {xs0 : Int} :
  T239 d Q 162 [wO 10 121, wI x1, wI x2, wI x3, wI x4, wM 2] [wI xs0] σ = (if xs0 = 0 then j3_tc true d 234 [wO 10 121, wI 3] σ (fun r σ1 => T239 d Q 166 [wO 10 121, wI x1, wI x2, wI x3, wI x4, wM 2] (r.toList ++ []) σ1) else T239 d Q 166 [wO 10 121, wI x1, wI x2, wI x3, wI x4, wM 2] [] σ) := j3_T.go d [0, 18, 24, 25, 28, 35, 47, 72, 73, 79, 80, 85, 87, 92, 97, 109, 113, 122, 146, 162, 166, 167, 171, 187] 400
set_option maxRecDepth 100000 in
theorem b239_166 {d : Nat} {Q : j3_P} {σ : j3_S} {x1 : Int} {x2 : Int} {x3 : Int} {x4 : Int} :
  T239 d Q 166 [wO 10 121, wI x1, wI x2, wI x3, wI x4, wM 2] [] σ = Q none σ := j3_T.go d [0, 18, 24, 25, 28, 35, 47, 72, 73, 79, 80, 85, 87, 92, 97, 109, 113, 122, 146, 162, 166, 167, 171, 187] 400
set_option maxRecDepth 100000 in
theorem b239_167 {d : Nat} {Q : j3_P} {σ : j3_S} {x1 : Int} {x2 : Int} {x3 : Int} {x4 : Int} :
  T239 d Q 167 [wO 10 121, wI x1, wI x2, wI x3, wI x4, wM 2] [] σ = j3_tc true d 231 [wO 10 121] σ (fun r σ1 => T239 d Q 171 [wO 10 121, wI x1, wI x2, wI x3, wI x4, wM 2] (r.toList ++ [wA 10084 121]) σ1) := j3_T.go d [0, 18, 24, 25, 28, 35, 47, 72, 73, 79, 80, 85, 87, 92, 97, 109, 113, 122, 146, 162, 166, 167, 171, 187] 400
set_option maxRecDepth 100000 in
theorem b239_171 {d : Nat} {Q : j3_P} {σ : j3_S} {x1 : Int} {x2 : Int} {x3 : Int} {x4 : Int} {xs0 : Int} :
  T239 d Q 171 [wO 10 121, wI x1, wI x2, wI x3, wI x4, wM 2] [wI xs0, wA 10084 121] σ = (if x4 = 0 then ((0 ≤ xs0 ∧ xs0 < 400) ∧ Q none (σ.1, σ.2.1, (j3_ast σ.2.2 10084 121 xs0 0))) else ((0 ≤ x1 ∧ x1 < 28800) ∧ ((0 ≤ (wr (x4 - 1)) ∧ (wr (x4 - 1)) < 200) ∧ j3_tc true d 170 [wO 10 121, wI (σ.1 10093 121), wI (σ.2.2 10028 121 x1), wI (σ.2.2 10086 121 (wr (x4 - 1)))] σ (fun r σ1 => T239 d Q 187 [wO 10 121, wI x1, wI x2, wI x3, wI x4, wM 2] (r.toList ++ [wI xs0, wA 10084 121]) σ1)))) := j3_T.go d [0, 18, 24, 25, 28, 35, 47, 72, 73, 79, 80, 85, 87, 92, 97, 109, 113, 122, 146, 162, 166, 167, 171, 187] 400
set_option maxRecDepth 100000 in
theorem b239_187 {d : Nat} {Q : j3_P} {σ : j3_S} {x1 : Int} {x2 : Int} {x3 : Int} {x4 : Int} {xs0 : Int} {xs1 : Int} :
  T239 d Q 187 [wO 10 121, wI x1, wI x2, wI x3, wI x4, wM 2] [wI xs0, wI xs1, wA 10084 121] σ = (if xs0 = 0 then ((0 ≤ xs1 ∧ xs1 < 400) ∧ Q none (σ.1, σ.2.1, (j3_ast σ.2.2 10084 121 xs1 0))) else ((0 ≤ xs1 ∧ xs1 < 400) ∧ Q none (σ.1, σ.2.1, (j3_ast σ.2.2 10084 121 xs1 1)))) := j3_T.go d [0, 18, 24, 25, 28, 35, 47, 72, 73, 79, 80, 85, 87, 92, 97, 109, 113, 122, 146, 162, 166, 167, 171, 187] 400
def T240 (d : Nat) (Q : j3_P) : j3_K := j3_T true (j3_tc true d) jc_X10_traceBack none Q
theorem e240 {d : Nat} {Q : j3_P} {σ : j3_S}  : j3_tc true (d + 1) 240 [wO 10 121] σ Q = T240 d Q 0 [wO 10 121, wM 2, wM 2, wM 2, wM 2, wM 2] [] σ := j3_entry ⟨Nat.le_of_ble_eq_true rfl, rfl⟩
set_option maxRecDepth 100000 in
theorem b240_0 {d : Nat} {Q : j3_P} {σ : j3_S}  :
  T240 d Q 0 [wO 10 121, wM 2, wM 2, wM 2, wM 2, wM 2] [] σ = T240 d Q 4 [wO 10 121, wI 0, wI 0, wM 2, wM 2, wM 2] [] σ := j3_T.go d [0, 4, 26, 57, 77, 81] 400
set_option maxRecDepth 100000 in
theorem b240_4 {d : Nat} {Q : j3_P} {σ : j3_S} {x1 : Int} {x2 : Int} {w3 : j3_W} {w4 : j3_W} {w5 : j3_W} :
  T240 d Q 4 [wO 10 121, wI x1, wI x2, w3, w4, w5] [] σ = (if x2 < (σ.1 10079 121) then ((0 ≤ (wr ((wr ((σ.1 10079 121) - 1)) - x2)) ∧ (wr ((wr ((σ.1 10079 121) - 1)) - x2)) < 40) ∧ ((0 ≤ (wr ((wr ((σ.1 10079 121) - 1)) - x2)) ∧ (wr ((wr ((σ.1 10079 121) - 1)) - x2)) < 40) ∧ j3_tc true d 160 [wI (σ.1 10093 121), wI (σ.2.2 10080 121 (wr ((wr ((σ.1 10079 121) - 1)) - x2))), wI (σ.2.2 10081 121 (wr ((wr ((σ.1 10079 121) - 1)) - x2)))] σ (fun r σ1 => T240 d Q 26 [wO 10 121, wI x1, wI x2, wI (wr ((wr ((σ.1 10079 121) - 1)) - x2)), w4, w5] (r.toList ++ []) σ1))) else ((0 ≤ (7 : Int) ∧ (7 : Int) < 8) ∧ ((0 ≤ (4 : Int) ∧ (4 : Int) < 8) ∧ Q none (σ.1, σ.2.1, (j3_ast (j3_ast σ.2.2 10078 121 7 x1) 10078 121 4 (σ.1 10079 121)))))) := j3_T.go d [0, 4, 26, 57, 77, 81] 400
set_option maxRecDepth 100000 in
theorem b240_26 {d : Nat} {Q : j3_P} {σ : j3_S} {x1 : Int} {x2 : Int} {x3 : Int} {w4 : j3_W} {w5 : j3_W} {xs0 : Int} :
  T240 d Q 26 [wO 10 121, wI x1, wI x2, wI x3, w4, w5] [wI xs0] σ = ((0 ≤ x3 ∧ x3 < 40) ∧ ((0 ≤ x3 ∧ x3 < 40) ∧ ((0 ≤ x2 ∧ x2 < 40) ∧ (if (σ.1 10093 121) = 0 then ((0 ≤ x2 ∧ x2 < 40) ∧ ((0 ≤ x1 ∧ x1 < 80) ∧ T240 d Q 81 [wO 10 121, wI (wr (x1 + 1)), wI x2, wI x3, wI xs0, w5] [] (σ.1, σ.2.1, (j3_ast (j3_ast σ.2.2 10091 121 x2 (wr ((wr (1000 * (σ.2.2 10080 121 x3))) + (σ.2.2 10081 121 x3)))) 10092 121 x1 (i_up (σ.2.2 10091 121) x2 (wr ((wr (1000 * (σ.2.2 10080 121 x3))) + (σ.2.2 10081 121 x3))) x2))))) else T240 d Q 57 [wO 10 121, wI x1, wI x2, wI x3, wI xs0, wI 0] [] (σ.1, σ.2.1, (j3_ast σ.2.2 10091 121 x2 (wr ((wr (1000 * (σ.2.2 10080 121 x3))) + (σ.2.2 10081 121 x3))))))))) := j3_T.go d [0, 4, 26, 57, 77, 81] 400
set_option maxRecDepth 100000 in
theorem b240_57 {d : Nat} {Q : j3_P} {σ : j3_S} {x1 : Int} {x2 : Int} {x3 : Int} {x4 : Int} {x5 : Int} :
  T240 d Q 57 [wO 10 121, wI x1, wI x2, wI x3, wI x4, wI x5] [] σ = ((0 ≤ x4 ∧ x4 < 28800) ∧ (if x5 < (σ.2.2 10030 121 x4) then (if x5 = 0 then ((0 ≤ x4 ∧ x4 < 28800) ∧ T240 d Q 77 [wO 10 121, wI x1, wI x2, wI x3, wI x4, wI x5] [wI (σ.2.2 10031 121 x4), wI x1, wA 10092 121] σ) else ((0 ≤ x4 ∧ x4 < 28800) ∧ T240 d Q 77 [wO 10 121, wI x1, wI x2, wI x3, wI x4, wI x5] [wI (σ.2.2 10032 121 x4), wI x1, wA 10092 121] σ)) else T240 d Q 81 [wO 10 121, wI x1, wI x2, wI x3, wI x4, wI x5] [] σ)) := j3_T.go d [0, 4, 26, 57, 77, 81] 400
set_option maxRecDepth 100000 in
theorem b240_77 {d : Nat} {Q : j3_P} {σ : j3_S} {x1 : Int} {x2 : Int} {x3 : Int} {x4 : Int} {x5 : Int} {xs0 : Int} {xs1 : Int} :
  T240 d Q 77 [wO 10 121, wI x1, wI x2, wI x3, wI x4, wI x5] [wI xs0, wI xs1, wA 10092 121] σ = ((0 ≤ xs1 ∧ xs1 < 80) ∧ T240 d Q 57 [wO 10 121, wI (wr (x1 + 1)), wI x2, wI x3, wI x4, wI (wr (x5 + 1))] [] (σ.1, σ.2.1, (j3_ast σ.2.2 10092 121 xs1 xs0))) := j3_T.go d [0, 4, 26, 57, 77, 81] 400
set_option maxRecDepth 100000 in
theorem b240_81 {d : Nat} {Q : j3_P} {σ : j3_S} {x1 : Int} {x2 : Int} {x3 : Int} {x4 : Int} {w5 : j3_W} :
  T240 d Q 81 [wO 10 121, wI x1, wI x2, wI x3, wI x4, w5] [] σ = T240 d Q 4 [wO 10 121, wI x1, wI (wr (x2 + 1)), wI x3, wI x4, w5] [] σ := j3_T.go d [0, 4, 26, 57, 77, 81] 400
def T241 (d : Nat) (Q : j3_P) : j3_K := j3_T true (j3_tc true d) jc_X10_run (some .int) Q
theorem e241 {d : Nat} {Q : j3_P} {σ : j3_S} {x1 : Int} {x2 : Int} {x3 : Int} : j3_tc true (d + 1) 241 [wO 10 121, wI x1, wI x2, wI x3] σ Q = T241 d Q 0 [wO 10 121, wI x1, wI x2, wI x3, wM 2] [] σ := j3_entry ⟨Nat.le_of_ble_eq_true rfl, rfl⟩
set_option maxRecDepth 100000 in
theorem b241_0 {d : Nat} {Q : j3_P} {σ : j3_S} {x1 : Int} {x2 : Int} {x3 : Int} :
  T241 d Q 0 [wO 10 121, wI x1, wI x2, wI x3, wM 2] [] σ = j3_tc true d 187 [wO 10 121, wI x1] ((j3_up σ.1 10000 121 0), σ.2.1, σ.2.2) (fun r σ1 => T241 d Q 6 [wO 10 121, wI x1, wI x2, wI x3, wM 2] (r.toList ++ []) σ1) := j3_T.go d [0, 6, 23, 26, 37, 43, 55, 94, 99, 112, 124, 137, 144] 400
set_option maxRecDepth 100000 in
theorem b241_6 {d : Nat} {Q : j3_P} {σ : j3_S} {x1 : Int} {x2 : Int} {x3 : Int} {xs0 : Int} :
  T241 d Q 6 [wO 10 121, wI x1, wI x2, wI x3, wM 2] [wI xs0] σ = (if xs0 = 0 then T241 d Q 26 [wO 10 121, wI x1, wI x2, wI x3, wM 2] [] ((j3_up σ.1 10000 121 1), σ.2.1, σ.2.2) else (if x2 < 0 then T241 d Q 23 [wO 10 121, wI x1, wI x2, wI x3, wM 2] [] σ else (if x2 < (σ.1 10045 121) then (if x3 < (1 : Int) then T241 d Q 23 [wO 10 121, wI x1, wI x2, wI x3, wM 2] [] σ else (if (20000 : Int) < x3 then T241 d Q 23 [wO 10 121, wI x1, wI x2, wI x3, wM 2] [] σ else T241 d Q 26 [wO 10 121, wI x1, wI x2, wI x3, wM 2] [] σ)) else T241 d Q 23 [wO 10 121, wI x1, wI x2, wI x3, wM 2] [] σ))) := j3_T.go d [0, 6, 23, 26, 37, 43, 55, 94, 99, 112, 124, 137, 144] 400
set_option maxRecDepth 100000 in
theorem b241_23 {d : Nat} {Q : j3_P} {σ : j3_S} {x1 : Int} {x2 : Int} {x3 : Int} :
  T241 d Q 23 [wO 10 121, wI x1, wI x2, wI x3, wM 2] [] σ = T241 d Q 26 [wO 10 121, wI x1, wI x2, wI x3, wM 2] [] ((j3_up σ.1 10000 121 2), σ.2.1, σ.2.2) := j3_T.go d [0, 6, 23, 26, 37, 43, 55, 94, 99, 112, 124, 137, 144] 400
set_option maxRecDepth 100000 in
theorem b241_26 {d : Nat} {Q : j3_P} {σ : j3_S} {x1 : Int} {x2 : Int} {x3 : Int} :
  T241 d Q 26 [wO 10 121, wI x1, wI x2, wI x3, wM 2] [] σ = (if 0 < (σ.1 10000 121) then Q (some (wI 0)) σ else (if x1 = 0 then T241 d Q 37 [wO 10 121, wI x1, wI x2, wI x3, wM 2] [wI 0, wO 10 121] σ else T241 d Q 37 [wO 10 121, wI x1, wI x2, wI x3, wM 2] [wI 1, wO 10 121] σ)) := j3_T.go d [0, 6, 23, 26, 37, 43, 55, 94, 99, 112, 124, 137, 144] 400
set_option maxRecDepth 100000 in
theorem b241_37 {d : Nat} {Q : j3_P} {σ : j3_S} {x1 : Int} {x2 : Int} {x3 : Int} {xs0 : Int} :
  T241 d Q 37 [wO 10 121, wI x1, wI x2, wI x3, wM 2] [wI xs0, wO 10 121] σ = (((1 : Int) = 0 ∨ (1 : Int) = 1) ∧ T241 d Q 43 [wO 10 121, wI x1, wI x2, wI x3, wI 0] [] ((j3_up (j3_up σ.1 10093 121 xs0) 10077 121 1), σ.2.1, σ.2.2)) := j3_T.go d [0, 6, 23, 26, 37, 43, 55, 94, 99, 112, 124, 137, 144] 400
set_option maxRecDepth 100000 in
theorem b241_43 {d : Nat} {Q : j3_P} {σ : j3_S} {x1 : Int} {x2 : Int} {x3 : Int} {x4 : Int} :
  T241 d Q 43 [wO 10 121, wI x1, wI x2, wI x3, wI x4] [] σ = (if x4 < (8 : Int) then ((0 ≤ x4 ∧ x4 < 8) ∧ T241 d Q 43 [wO 10 121, wI x1, wI x2, wI x3, wI (wr (x4 + 1))] [] (σ.1, σ.2.1, (j3_ast σ.2.2 10078 121 x4 0))) else T241 d Q 55 [wO 10 121, wI x1, wI x2, wI x3, wI 0] [] σ) := j3_T.go d [0, 6, 23, 26, 37, 43, 55, 94, 99, 112, 124, 137, 144] 400
set_option maxRecDepth 100000 in
theorem b241_55 {d : Nat} {Q : j3_P} {σ : j3_S} {x1 : Int} {x2 : Int} {x3 : Int} {x4 : Int} :
  T241 d Q 55 [wO 10 121, wI x1, wI x2, wI x3, wI x4] [] σ = (if x4 < (60 : Int) then ((0 ≤ x4 ∧ x4 < 60) ∧ T241 d Q 55 [wO 10 121, wI x1, wI x2, wI x3, wI (wr (x4 + 1))] [] (σ.1, σ.2.1, (j3_ast σ.2.2 10088 121 x4 0))) else (if x1 = 0 then ((0 ≤ x2 ∧ x2 < 6) ∧ T241 d Q 99 [wO 10 121, wI x1, wI x2, wI x3, wI x4] [wI (σ.2.2 10046 121 x2), wI 0, wA 10080 121] ((j3_up (j3_up (j3_up (j3_up (j3_up (j3_up σ.1 10085 121 0) 10089 121 0) 10095 121 0) 10096 121 1) 10094 121 (-1)) 10079 121 1), σ.2.1, σ.2.2)) else ((0 ≤ x2 ∧ x2 < 6) ∧ j3_tc true d 220 [wO 10 121, wI (σ.2.2 10046 121 x2)] ((j3_up (j3_up (j3_up (j3_up (j3_up (j3_up σ.1 10085 121 0) 10089 121 0) 10095 121 0) 10096 121 1) 10094 121 (-1)) 10079 121 1), σ.2.1, σ.2.2) (fun r σ1 => T241 d Q 94 [wO 10 121, wI x1, wI x2, wI x3, wI x4] (r.toList ++ [wI 0, wA 10080 121]) σ1)))) := j3_T.go d [0, 6, 23, 26, 37, 43, 55, 94, 99, 112, 124, 137, 144] 400
set_option maxRecDepth 100000 in
theorem b241_94 {d : Nat} {Q : j3_P} {σ : j3_S} {x1 : Int} {x2 : Int} {x3 : Int} {x4 : Int} {xs0 : Int} {xs1 : Int} :
  T241 d Q 94 [wO 10 121, wI x1, wI x2, wI x3, wI x4] [wI xs0, wI xs1, wA 10080 121] σ = T241 d Q 99 [wO 10 121, wI x1, wI x2, wI x3, wI x4] [wI xs0, wI xs1, wA 10080 121] σ := j3_T.go d [0, 6, 23, 26, 37, 43, 55, 94, 99, 112, 124, 137, 144] 400
set_option maxRecDepth 100000 in
theorem b241_99 {d : Nat} {Q : j3_P} {σ : j3_S} {x1 : Int} {x2 : Int} {x3 : Int} {x4 : Int} {xs0 : Int} {xs1 : Int} :
  T241 d Q 99 [wO 10 121, wI x1, wI x2, wI x3, wI x4] [wI xs0, wI xs1, wA 10080 121] σ = ((0 ≤ xs1 ∧ xs1 < 40) ∧ ((0 ≤ (0 : Int) ∧ (0 : Int) < 40) ∧ ((0 ≤ (0 : Int) ∧ (0 : Int) < 40) ∧ T241 d Q 112 [wO 10 121, wI x1, wI x2, wI x3, wI 0] [] (σ.1, σ.2.1, (j3_ast (j3_ast (j3_ast σ.2.2 10080 121 xs1 xs0) 10081 121 0 0) 10082 121 0 0))))) := j3_T.go d [0, 6, 23, 26, 37, 43, 55, 94, 99, 112, 124, 137, 144] 400
set_option maxRecDepth 100000 in
theorem b241_112 {d : Nat} {Q : j3_P} {σ : j3_S} {x1 : Int} {x2 : Int} {x3 : Int} {x4 : Int} :
  T241 d Q 112 [wO 10 121, wI x1, wI x2, wI x3, wI x4] [] σ = (if x4 < (20 : Int) then ((0 ≤ x4 ∧ x4 < 800) ∧ T241 d Q 112 [wO 10 121, wI x1, wI x2, wI x3, wI (wr (x4 + 1))] [] (σ.1, σ.2.1, (j3_ast σ.2.2 10083 121 x4 0))) else T241 d Q 124 [wO 10 121, wI x1, wI x2, wI x3, wI 0] [] σ) := j3_T.go d [0, 6, 23, 26, 37, 43, 55, 94, 99, 112, 124, 137, 144] 400
set_option maxRecDepth 100000 in
theorem b241_124 {d : Nat} {Q : j3_P} {σ : j3_S} {x1 : Int} {x2 : Int} {x3 : Int} {x4 : Int} :
  T241 d Q 124 [wO 10 121, wI x1, wI x2, wI x3, wI x4] [] σ = (if (σ.1 10094 121) < 0 then (if x4 = x3 then T241 d Q 124 [wO 10 121, wI x1, wI x2, wI x3, wI x4] [] ((j3_up σ.1 10094 121 2), σ.2.1, σ.2.2) else j3_tc true d 237 [wO 10 121] σ (fun r σ1 => T241 d Q 137 [wO 10 121, wI x1, wI x2, wI x3, wI (wr (x4 + 1))] (r.toList ++ []) σ1)) else (if (σ.1 10094 121) = (1 : Int) then j3_tc true d 240 [wO 10 121] σ (fun r σ1 => T241 d Q 144 [wO 10 121, wI x1, wI x2, wI x3, wI x4] (r.toList ++ []) σ1) else T241 d Q 144 [wO 10 121, wI x1, wI x2, wI x3, wI x4] [] σ)) := j3_T.go d [0, 6, 23, 26, 37, 43, 55, 94, 99, 112, 124, 137, 144] 400
set_option maxRecDepth 100000 in
theorem b241_137 {d : Nat} {Q : j3_P} {σ : j3_S} {x1 : Int} {x2 : Int} {x3 : Int} {x4 : Int} :
  T241 d Q 137 [wO 10 121, wI x1, wI x2, wI x3, wI x4] [] σ = T241 d Q 124 [wO 10 121, wI x1, wI x2, wI x3, wI x4] [] σ := j3_T.go d [0, 6, 23, 26, 37, 43, 55, 94, 99, 112, 124, 137, 144] 400
set_option maxRecDepth 100000 in
theorem b241_144 {d : Nat} {Q : j3_P} {σ : j3_S} {x1 : Int} {x2 : Int} {x3 : Int} {x4 : Int} :
  T241 d Q 144 [wO 10 121, wI x1, wI x2, wI x3, wI x4] [] σ = ((0 ≤ (0 : Int) ∧ (0 : Int) < 8) ∧ ((0 ≤ (1 : Int) ∧ (1 : Int) < 8) ∧ ((0 ≤ (2 : Int) ∧ (2 : Int) < 8) ∧ ((0 ≤ (3 : Int) ∧ (3 : Int) < 8) ∧ ((0 ≤ (5 : Int) ∧ (5 : Int) < 8) ∧ ((0 ≤ (6 : Int) ∧ (6 : Int) < 8) ∧ Q (some (wI (σ.1 10094 121))) (σ.1, σ.2.1, (j3_ast (j3_ast (j3_ast (j3_ast (j3_ast (j3_ast σ.2.2 10078 121 0 (σ.1 10094 121)) 10078 121 1 x4) 10078 121 2 (σ.1 10095 121)) 10078 121 3 (σ.1 10089 121)) 10078 121 5 (σ.1 10085 121)) 10078 121 6 (σ.1 10096 121))))))))) := j3_T.go d [0, 6, 23, 26, 37, 43, 55, 94, 99, 112, 124, 137, 144] 400
def T242 (d : Nat) (Q : j3_P) : j3_K := j3_T true (j3_tc true d) jc_X10_result (some .int) Q
theorem e242 {d : Nat} {Q : j3_P} {σ : j3_S} {x1 : Int} : j3_tc true (d + 1) 242 [wO 10 121, wI x1] σ Q = T242 d Q 0 [wO 10 121, wI x1] [] σ := j3_entry ⟨Nat.le_of_ble_eq_true rfl, rfl⟩
set_option maxRecDepth 100000 in
theorem b242_0 {d : Nat} {Q : j3_P} {σ : j3_S} {x1 : Int} :
  T242 d Q 0 [wO 10 121, wI x1] [] σ = (if (σ.1 10077 121) = 0 then T242 d Q 11 [wO 10 121, wI x1] [] ((j3_up σ.1 10000 121 0), σ.2.1, σ.2.2) else (if x1 < 0 then T242 d Q 11 [wO 10 121, wI x1] [] ((j3_up σ.1 10000 121 0), σ.2.1, σ.2.2) else (if (7 : Int) < x1 then T242 d Q 11 [wO 10 121, wI x1] [] ((j3_up σ.1 10000 121 0), σ.2.1, σ.2.2) else ((0 ≤ x1 ∧ x1 < 8) ∧ Q (some (wI (σ.2.2 10078 121 x1))) ((j3_up σ.1 10000 121 0), σ.2.1, σ.2.2))))) := j3_T.go d [0, 11] 400
set_option maxRecDepth 100000 in
theorem b242_11 {d : Nat} {Q : j3_P} {σ : j3_S} {x1 : Int} :
  T242 d Q 11 [wO 10 121, wI x1] [] σ = Q (some (wI (-1))) σ := j3_T.go d [0, 11] 400
def T243 (d : Nat) (Q : j3_P) : j3_K := j3_T true (j3_tc true d) jc_X10_output (some .int) Q
theorem e243 {d : Nat} {Q : j3_P} {σ : j3_S} {x1 : Int} : j3_tc true (d + 1) 243 [wO 10 121, wI x1] σ Q = T243 d Q 0 [wO 10 121, wI x1] [] σ := j3_entry ⟨Nat.le_of_ble_eq_true rfl, rfl⟩
set_option maxRecDepth 100000 in
theorem b243_0 {d : Nat} {Q : j3_P} {σ : j3_S} {x1 : Int} :
  T243 d Q 0 [wO 10 121, wI x1] [] σ = (if (σ.1 10077 121) = 0 then T243 d Q 15 [wO 10 121, wI x1] [] ((j3_up σ.1 10000 121 0), σ.2.1, σ.2.2) else (if x1 < 0 then T243 d Q 15 [wO 10 121, wI x1] [] ((j3_up σ.1 10000 121 0), σ.2.1, σ.2.2) else (if x1 < (σ.1 10089 121) then (if x1 < (100 : Int) then ((0 ≤ x1 ∧ x1 < 100) ∧ Q (some (wI (σ.2.2 10090 121 x1))) ((j3_up σ.1 10000 121 0), σ.2.1, σ.2.2)) else T243 d Q 15 [wO 10 121, wI x1] [] ((j3_up σ.1 10000 121 0), σ.2.1, σ.2.2)) else T243 d Q 15 [wO 10 121, wI x1] [] ((j3_up σ.1 10000 121 0), σ.2.1, σ.2.2)))) := j3_T.go d [0, 15] 400
set_option maxRecDepth 100000 in
theorem b243_15 {d : Nat} {Q : j3_P} {σ : j3_S} {x1 : Int} :
  T243 d Q 15 [wO 10 121, wI x1] [] σ = Q (some (wI 0)) σ := j3_T.go d [0, 15] 400
def T244 (d : Nat) (Q : j3_P) : j3_K := j3_T true (j3_tc true d) jc_X10_trace (some .int) Q
theorem e244 {d : Nat} {Q : j3_P} {σ : j3_S} {x1 : Int} : j3_tc true (d + 1) 244 [wO 10 121, wI x1] σ Q = T244 d Q 0 [wO 10 121, wI x1] [] σ := j3_entry ⟨Nat.le_of_ble_eq_true rfl, rfl⟩
set_option maxRecDepth 100000 in
theorem b244_0 {d : Nat} {Q : j3_P} {σ : j3_S} {x1 : Int} :
  T244 d Q 0 [wO 10 121, wI x1] [] σ = (if (σ.1 10077 121) = 0 then T244 d Q 14 [wO 10 121, wI x1] [] ((j3_up σ.1 10000 121 0), σ.2.1, σ.2.2) else (if x1 < 0 then T244 d Q 14 [wO 10 121, wI x1] [] ((j3_up σ.1 10000 121 0), σ.2.1, σ.2.2) else ((0 ≤ (4 : Int) ∧ (4 : Int) < 8) ∧ (if x1 < (σ.2.2 10078 121 4) then ((0 ≤ x1 ∧ x1 < 40) ∧ Q (some (wI (σ.2.2 10091 121 x1))) ((j3_up σ.1 10000 121 0), σ.2.1, σ.2.2)) else T244 d Q 14 [wO 10 121, wI x1] [] ((j3_up σ.1 10000 121 0), σ.2.1, σ.2.2))))) := j3_T.go d [0, 14] 400
set_option maxRecDepth 100000 in
theorem b244_14 {d : Nat} {Q : j3_P} {σ : j3_S} {x1 : Int} :
  T244 d Q 14 [wO 10 121, wI x1] [] σ = Q (some (wI (-1))) σ := j3_T.go d [0, 14] 400
def T245 (d : Nat) (Q : j3_P) : j3_K := j3_T true (j3_tc true d) jc_X10_back (some .int) Q
theorem e245 {d : Nat} {Q : j3_P} {σ : j3_S} {x1 : Int} : j3_tc true (d + 1) 245 [wO 10 121, wI x1] σ Q = T245 d Q 0 [wO 10 121, wI x1] [] σ := j3_entry ⟨Nat.le_of_ble_eq_true rfl, rfl⟩
set_option maxRecDepth 100000 in
theorem b245_0 {d : Nat} {Q : j3_P} {σ : j3_S} {x1 : Int} :
  T245 d Q 0 [wO 10 121, wI x1] [] σ = (if (σ.1 10077 121) = 0 then T245 d Q 14 [wO 10 121, wI x1] [] ((j3_up σ.1 10000 121 0), σ.2.1, σ.2.2) else (if x1 < 0 then T245 d Q 14 [wO 10 121, wI x1] [] ((j3_up σ.1 10000 121 0), σ.2.1, σ.2.2) else ((0 ≤ (7 : Int) ∧ (7 : Int) < 8) ∧ (if x1 < (σ.2.2 10078 121 7) then ((0 ≤ x1 ∧ x1 < 80) ∧ Q (some (wI (σ.2.2 10092 121 x1))) ((j3_up σ.1 10000 121 0), σ.2.1, σ.2.2)) else T245 d Q 14 [wO 10 121, wI x1] [] ((j3_up σ.1 10000 121 0), σ.2.1, σ.2.2))))) := j3_T.go d [0, 14] 400
set_option maxRecDepth 100000 in
theorem b245_14 {d : Nat} {Q : j3_P} {σ : j3_S} {x1 : Int} :
  T245 d Q 14 [wO 10 121, wI x1] [] σ = Q (some (wI (-1))) σ := j3_T.go d [0, 14] 400
def T246 (d : Nat) (Q : j3_P) : j3_K := j3_T true (j3_tc true d) jc_X10_again (some .boolean) Q
theorem e246 {d : Nat} {Q : j3_P} {σ : j3_S}  : j3_tc true (d + 1) 246 [wO 10 121] σ Q = T246 d Q 0 [wO 10 121, wM 2] [] σ := j3_entry ⟨Nat.le_of_ble_eq_true rfl, rfl⟩
set_option maxRecDepth 100000 in
theorem b246_0 {d : Nat} {Q : j3_P} {σ : j3_S}  :
  T246 d Q 0 [wO 10 121, wM 2] [] σ = (if (σ.1 10044 121) = 0 then (((0 : Int) = 0 ∨ (0 : Int) = 1) ∧ Q (some (wI 0)) ((j3_up σ.1 10000 121 0), σ.2.1, σ.2.2)) else T246 d Q 10 [wO 10 121, wI 0] [] ((j3_up σ.1 10000 121 0), σ.2.1, σ.2.2)) := j3_T.go d [0, 10, 23, 30, 36] 400
set_option maxRecDepth 100000 in
theorem b246_10 {d : Nat} {Q : j3_P} {σ : j3_S} {x1 : Int} :
  T246 d Q 10 [wO 10 121, wI x1] [] σ = (if x1 < (σ.1 10045 121) then ((0 ≤ x1 ∧ x1 < 6) ∧ j3_tc true d 220 [wO 10 121, wI (σ.2.2 10046 121 x1)] σ (fun r σ1 => T246 d Q 23 [wO 10 121, wI x1] (r.toList ++ [wI x1, wA 10046 121]) σ1)) else j3_tc true d 183 [wO 10 121, wI 1, wI 0] σ (fun r σ1 => T246 d Q 30 [wO 10 121, wI x1] (r.toList ++ []) σ1)) := j3_T.go d [0, 10, 23, 30, 36] 400
set_option maxRecDepth 100000 in
theorem b246_23 {d : Nat} {Q : j3_P} {σ : j3_S} {x1 : Int} {xs0 : Int} {xs1 : Int} :
  T246 d Q 23 [wO 10 121, wI x1] [wI xs0, wI xs1, wA 10046 121] σ = ((0 ≤ xs1 ∧ xs1 < 6) ∧ T246 d Q 10 [wO 10 121, wI (wr (x1 + 1))] [] (σ.1, σ.2.1, (j3_ast σ.2.2 10046 121 xs1 xs0))) := j3_T.go d [0, 10, 23, 30, 36] 400
set_option maxRecDepth 100000 in
theorem b246_30 {d : Nat} {Q : j3_P} {σ : j3_S} {x1 : Int} :
  T246 d Q 30 [wO 10 121, wI x1] [] σ = j3_tc true d 180 [wO 10 121, wI 0] ((j3_up σ.1 10007 121 0), σ.2.1, σ.2.2) (fun r σ1 => T246 d Q 36 [wO 10 121, wI x1] (r.toList ++ []) σ1) := j3_T.go d [0, 10, 23, 30, 36] 400
set_option maxRecDepth 100000 in
theorem b246_36 {d : Nat} {Q : j3_P} {σ : j3_S} {x1 : Int} :
  T246 d Q 36 [wO 10 121, wI x1] [] σ = (((0 : Int) = 0 ∨ (0 : Int) = 1) ∧ (((0 : Int) = 0 ∨ (0 : Int) = 1) ∧ (((1 : Int) = 0 ∨ (1 : Int) = 1) ∧ Q (some (wI 1)) ((j3_up (j3_up σ.1 10044 121 0) 10077 121 0), σ.2.1, σ.2.2)))) := j3_T.go d [0, 10, 23, 30, 36] 400
def T247 (d : Nat) (Q : j3_P) : j3_K := j3_T false (j3_tc false d) jc_J7_rangeCheck_23922 none Q
theorem e247 {d : Nat} {Q : j3_P} {σ : j3_S} {x0 : Int} {x1 : Int} {x2 : Int} : j3_tc false (d + 1) 247 [wI x0, wI x1, wI x2] σ Q = T247 d Q 0 [wI x0, wI x1, wI x2] [] σ := j3_entry ⟨Nat.le_of_ble_eq_true rfl, rfl⟩
set_option maxRecDepth 100000 in
theorem b247_0 {d : Nat} {Q : j3_P} {σ : j3_S} {x0 : Int} {x1 : Int} {x2 : Int} :
  T247 d Q 0 [wI x0, wI x1, wI x2] [] σ = (if x2 < x1 then False else (if x1 < 0 then False else (if x0 < x2 then False else Q none σ))) := j3_T.go d [0] 400
def T248 (d : Nat) (Q : j3_P) : j3_K := j3_T false (j3_tc false d) jc_J7_fill_53178 none Q
theorem e248 {d : Nat} {Q : j3_P} {σ : j3_S} {e0 o0 : Nat} {x1 : Int} : j3_tc false (d + 1) 248 [wA e0 o0, wI x1] σ Q = T248 d Q 0 [wA e0 o0, wI x1, wM 2, wM 2] [] σ := j3_entry ⟨Nat.le_of_ble_eq_true rfl, rfl⟩
set_option maxRecDepth 100000 in
theorem b248_0 {d : Nat} {Q : j3_P} {σ : j3_S} {e0 o0 : Nat} {x1 : Int} :
  T248 d Q 0 [wA e0 o0, wI x1, wM 2, wM 2] [] σ = (bif (lt_fq e0 == 0 || lt_fq e0 == 1) && (lt_fn e0).blt 2147483648 then T248 d Q 5 [wA e0 o0, wI x1, wI 0, wI (lt_fn e0 : Int)] [] σ else False) := j3_T.go d [0, 5] 400
set_option maxRecDepth 100000 in
theorem b248_5 {d : Nat} {Q : j3_P} {σ : j3_S} {e0 o0 : Nat} {x1 : Int} {x2 : Int} {x3 : Int} :
  T248 d Q 5 [wA e0 o0, wI x1, wI x2, wI x3] [] σ = (if x2 < x3 then (bif (lt_fq e0 == 0) && j3_g false e0 then (0 ≤ x2 ∧ x2 < (lt_fn e0 : Int)) ∧ T248 d Q 5 [wA e0 o0, wI x1, wI (wr (x2 + 1)), wI x3] [] (σ.1, σ.2.1, (j3_ast σ.2.2 e0 o0 x2 x1)) else False) else Q none σ) := j3_T.go d [0, 5] 400
def T249 (d : Nat) (Q : j3_P) : j3_K := j3_T false (j3_tc false d) jc_J7_fill_fda19 none Q
theorem e249 {d : Nat} {Q : j3_P} {σ : j3_S} {e0 o0 : Nat} {x1 : Int} {x2 : Int} {x3 : Int} : j3_tc false (d + 1) 249 [wA e0 o0, wI x1, wI x2, wI x3] σ Q = T249 d Q 0 [wA e0 o0, wI x1, wI x2, wI x3, wM 2] [] σ := j3_entry ⟨Nat.le_of_ble_eq_true rfl, rfl⟩
set_option maxRecDepth 100000 in
theorem b249_0 {d : Nat} {Q : j3_P} {σ : j3_S} {e0 o0 : Nat} {x1 : Int} {x2 : Int} {x3 : Int} :
  T249 d Q 0 [wA e0 o0, wI x1, wI x2, wI x3, wM 2] [] σ = (bif (lt_fq e0 == 0 || lt_fq e0 == 1) && (lt_fn e0).blt 2147483648 then j3_tc false d 247 [wI (lt_fn e0 : Int), wI x1, wI x2] σ (fun r σ1 => T249 d Q 5 [wA e0 o0, wI x1, wI x2, wI x3, wM 2] (r.toList ++ []) σ1) else False) := j3_T.go d [0, 5, 7] 400
set_option maxRecDepth 100000 in
theorem b249_5 {d : Nat} {Q : j3_P} {σ : j3_S} {e0 o0 : Nat} {x1 : Int} {x2 : Int} {x3 : Int} :
  T249 d Q 5 [wA e0 o0, wI x1, wI x2, wI x3, wM 2] [] σ = T249 d Q 7 [wA e0 o0, wI x1, wI x2, wI x3, wI x1] [] σ := j3_T.go d [0, 5, 7] 400
set_option maxRecDepth 100000 in
theorem b249_7 {d : Nat} {Q : j3_P} {σ : j3_S} {e0 o0 : Nat} {x1 : Int} {x2 : Int} {x3 : Int} {x4 : Int} :
  T249 d Q 7 [wA e0 o0, wI x1, wI x2, wI x3, wI x4] [] σ = (if x4 < x2 then (bif (lt_fq e0 == 0) && j3_g false e0 then (0 ≤ x4 ∧ x4 < (lt_fn e0 : Int)) ∧ T249 d Q 7 [wA e0 o0, wI x1, wI x2, wI x3, wI (wr (x4 + 1))] [] (σ.1, σ.2.1, (j3_ast σ.2.2 e0 o0 x4 x3)) else False) else Q none σ) := j3_T.go d [0, 5, 7] 400
