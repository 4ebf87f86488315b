def T185 (d : Nat) (Q : j3_P) : j3_K := j3_T true (j3_tc true d) jc_X10_read (some .int) Q
theorem e185 {d : Nat} {Q : j3_P} {σ : j3_S}  : j3_tc true (d + 1) 185 [wO 10 121] σ Q = T185 d Q 0 [wO 10 121, wM 2, wM 2] [] σ := j3_entry ⟨Nat.le_of_ble_eq_true rfl, rfl⟩
set_option maxRecDepth 100000 in
theorem b185_0 {d : Nat} {Q : j3_P} {σ : j3_S}  :
  T185 d Q 0 [wO 10 121, wM 2, wM 2] [] σ = (((0 : Int) = 0 ∨ (0 : Int) = 1) ∧ j3_tc true d 161 [wO 10 121] ((j3_up (j3_up (j3_up (j3_up (j3_up σ.1 10000 121 0) 10003 121 (σ.1 10002 121)) 10002 121 0) 10007 121 0) 10042 121 0), σ.2.1, σ.2.2) (fun r σ1 => T185 d Q 18 [wO 10 121, wM 2, wM 2] (r.toList ++ []) σ1)) := j3_T.go d [0, 18, 23, 28, 34, 40, 63, 65, 73, 86] 400
set_option maxRecDepth 100000 in
theorem b185_18 {d : Nat} {Q : j3_P} {σ : j3_S}  :
  T185 d Q 18 [wO 10 121, wM 2, wM 2] [] σ = (if (σ.1 10007 121) = 0 then j3_tc true d 167 [wO 10 121] σ (fun r σ1 => T185 d Q 23 [wO 10 121, wM 2, wM 2] (r.toList ++ []) σ1) else T185 d Q 23 [wO 10 121, wM 2, wM 2] [] σ) := j3_T.go d [0, 18, 23, 28, 34, 40, 63, 65, 73, 86] 400
set_option maxRecDepth 100000 in
theorem b185_23 {d : Nat} {Q : j3_P} {σ : j3_S}  :
  T185 d Q 23 [wO 10 121, wM 2, wM 2] [] σ = (if (σ.1 10007 121) = 0 then j3_tc true d 169 [wO 10 121] σ (fun r σ1 => T185 d Q 28 [wO 10 121, wM 2, wM 2] (r.toList ++ []) σ1) else T185 d Q 28 [wO 10 121, wM 2, wM 2] [] σ) := j3_T.go d [0, 18, 23, 28, 34, 40, 63, 65, 73, 86] 400
set_option maxRecDepth 100000 in
theorem b185_28 {d : Nat} {Q : j3_P} {σ : j3_S}  :
  T185 d Q 28 [wO 10 121, wM 2, wM 2] [] σ = (if (σ.1 10007 121) = 0 then j3_tc true d 180 [wO 10 121, wI 2] σ (fun r σ1 => T185 d Q 34 [wO 10 121, wM 2, wM 2] (r.toList ++ []) σ1) else T185 d Q 34 [wO 10 121, wM 2, wM 2] [] σ) := j3_T.go d [0, 18, 23, 28, 34, 40, 63, 65, 73, 86] 400
set_option maxRecDepth 100000 in
theorem b185_34 {d : Nat} {Q : j3_P} {σ : j3_S}  :
  T185 d Q 34 [wO 10 121, wM 2, wM 2] [] σ = T185 d Q 40 [wO 10 121, wI 0, wM 2] [] ((j3_up σ.1 10005 121 (σ.1 10007 121)), σ.2.1, σ.2.2) := j3_T.go d [0, 18, 23, 28, 34, 40, 63, 65, 73, 86] 400
set_option maxRecDepth 100000 in
theorem b185_40 {d : Nat} {Q : j3_P} {σ : j3_S} {x1 : Int} :
  T185 d Q 40 [wO 10 121, wI x1, wM 2] [] σ = (if x1 < (3 : Int) then ((0 ≤ x1 ∧ x1 < 3) ∧ ((0 ≤ x1 ∧ x1 < 3) ∧ T185 d Q 40 [wO 10 121, wI (wr (x1 + 1)), wM 2] [] (σ.1, σ.2.1, (j3_ast σ.2.2 10006 121 x1 (σ.2.2 10008 121 x1))))) else (if (σ.1 10007 121) = 0 then j3_tc true d 183 [wO 10 121, wI 2, wI 0] σ (fun r σ1 => T185 d Q 63 [wO 10 121, wI x1, wM 2] (r.toList ++ []) σ1) else Q (some (wI (σ.1 10007 121))) σ)) := j3_T.go d [0, 18, 23, 28, 34, 40, 63, 65, 73, 86] 400
set_option maxRecDepth 100000 in
theorem b185_63 {d : Nat} {Q : j3_P} {σ : j3_S} {x1 : Int} :
  T185 d Q 63 [wO 10 121, wI x1, wM 2] [] σ = T185 d Q 65 [wO 10 121, wI 0, wM 2] [] σ := j3_T.go d [0, 18, 23, 28, 34, 40, 63, 65, 73, 86] 400
set_option maxRecDepth 100000 in
theorem b185_65 {d : Nat} {Q : j3_P} {σ : j3_S} {x1 : Int} {w2 : j3_W} :
  T185 d Q 65 [wO 10 121, wI x1, w2] [] σ = ((0 ≤ (0 : Int) ∧ (0 : Int) < 3) ∧ (if x1 < (σ.2.2 10018 121 0) then T185 d Q 73 [wO 10 121, wI x1, wI 0] [] σ else (((1 : Int) = 0 ∨ (1 : Int) = 1) ∧ (((0 : Int) = 0 ∨ (0 : Int) = 1) ∧ (((0 : Int) = 0 ∨ (0 : Int) = 1) ∧ Q (some (wI 0)) ((j3_up (j3_up (j3_up (j3_up σ.1 10043 121 1) 10044 121 0) 10077 121 0) 10045 121 0), σ.2.1, σ.2.2)))))) := j3_T.go d [0, 18, 23, 28, 34, 40, 63, 65, 73, 86] 400
set_option maxRecDepth 100000 in
theorem b185_73 {d : Nat} {Q : j3_P} {σ : j3_S} {x1 : Int} {x2 : Int} :
  T185 d Q 73 [wO 10 121, wI x1, wI x2] [] σ = ((0 ≤ x1 ∧ x1 < 240) ∧ (if x2 < (σ.2.2 10026 121 x1) then j3_tc true d 184 [wO 10 121, wI (wr ((wr (120 * x1)) + x2))] σ (fun r σ1 => T185 d Q 86 [wO 10 121, wI x1, wI x2] (r.toList ++ []) σ1) else T185 d Q 65 [wO 10 121, wI (wr (x1 + 1)), wI x2] [] σ)) := j3_T.go d [0, 18, 23, 28, 34, 40, 63, 65, 73, 86] 400
set_option maxRecDepth 100000 in
theorem b185_86 {d : Nat} {Q : j3_P} {σ : j3_S} {x1 : Int} {x2 : Int} :
  T185 d Q 86 [wO 10 121, wI x1, wI x2] [] σ = T185 d Q 73 [wO 10 121, wI x1, wI (wr (x2 + 1))] [] σ := j3_T.go d [0, 18, 23, 28, 34, 40, 63, 65, 73, 86] 400
def T186 (d : Nat) (Q : j3_P) : j3_K := j3_T true (j3_tc true d) jc_X10_fault (some .int) Q
theorem e186 {d : Nat} {Q : j3_P} {σ : j3_S} {x1 : Int} : j3_tc true (d + 1) 186 [wO 10 121, wI x1] σ Q = T186 d Q 0 [wO 10 121, wI x1] [] σ := j3_entry ⟨Nat.le_of_ble_eq_true rfl, rfl⟩
set_option maxRecDepth 100000 in
theorem b186_0 {d : Nat} {Q : j3_P} {σ : j3_S} {x1 : Int} :
  T186 d Q 0 [wO 10 121, wI x1] [] σ = (if x1 = 0 then Q (some (wI (σ.1 10005 121))) ((j3_up σ.1 10000 121 0), σ.2.1, σ.2.2) else (if (σ.1 10005 121) = 0 then T186 d Q 17 [wO 10 121, wI x1] [] ((j3_up σ.1 10000 121 0), σ.2.1, σ.2.2) else (if x1 < (1 : Int) then T186 d Q 17 [wO 10 121, wI x1] [] ((j3_up σ.1 10000 121 0), σ.2.1, σ.2.2) else (if (3 : Int) < x1 then T186 d Q 17 [wO 10 121, wI x1] [] ((j3_up σ.1 10000 121 0), σ.2.1, σ.2.2) else ((0 ≤ (wr (x1 - 1)) ∧ (wr (x1 - 1)) < 3) ∧ Q (some (wI (σ.2.2 10006 121 (wr (x1 - 1))))) ((j3_up σ.1 10000 121 0), σ.2.1, σ.2.2)))))) := j3_T.go d [0, 17] 400
set_option maxRecDepth 100000 in
theorem b186_17 {d : Nat} {Q : j3_P} {σ : j3_S} {x1 : Int} :
  T186 d Q 17 [wO 10 121, wI x1] [] σ = Q (some (wI (-1))) σ := j3_T.go d [0, 17] 400
def T187 (d : Nat) (Q : j3_P) : j3_K := j3_T true (j3_tc true d) jc_X10_isThere (some .boolean) Q
theorem e187 {d : Nat} {Q : j3_P} {σ : j3_S} {x1 : Int} : j3_tc true (d + 1) 187 [wO 10 121, wI x1] σ Q = T187 d Q 0 [wO 10 121, wI x1] [] σ := j3_entry ⟨Nat.le_of_ble_eq_true rfl, rfl⟩
set_option maxRecDepth 100000 in
theorem b187_0 {d : Nat} {Q : j3_P} {σ : j3_S} {x1 : Int} :
  T187 d Q 0 [wO 10 121, wI x1] [] σ = (if x1 = 0 then (((σ.1 10043 121) = 0 ∨ (σ.1 10043 121) = 1) ∧ Q (some (wI (σ.1 10043 121))) σ) else (((σ.1 10044 121) = 0 ∨ (σ.1 10044 121) = 1) ∧ Q (some (wI (σ.1 10044 121))) σ)) := j3_T.go d [0] 400
def T188 (d : Nat) (Q : j3_P) : j3_K := j3_T true (j3_tc true d) jc_X10_size (some .int) Q
theorem e188 {d : Nat} {Q : j3_P} {σ : j3_S} {x1 : Int} {x2 : Int} : j3_tc true (d + 1) 188 [wO 10 121, wI x1, wI x2] σ Q = T188 d Q 0 [wO 10 121, wI x1, wI x2, wM 2, wM 2, wM 2] [] σ := j3_entry ⟨Nat.le_of_ble_eq_true rfl, rfl⟩
set_option maxRecDepth 100000 in
theorem b188_0 {d : Nat} {Q : j3_P} {σ : j3_S} {x1 : Int} {x2 : Int} :
  T188 d Q 0 [wO 10 121, wI x1, wI x2, wM 2, wM 2, wM 2] [] σ = (if x2 < 0 then Q (some (wI (-1))) ((j3_up σ.1 10000 121 0), σ.2.1, σ.2.2) else (if (4 : Int) < x2 then Q (some (wI (-1))) ((j3_up σ.1 10000 121 0), σ.2.1, σ.2.2) else j3_tc true d 187 [wO 10 121, wI x1] ((j3_up σ.1 10000 121 0), σ.2.1, σ.2.2) (fun r σ1 => T188 d Q 13 [wO 10 121, wI x1, wI x2, wM 2, wM 2, wM 2] (r.toList ++ []) σ1))) := j3_T.go d [0, 13, 21, 26, 48, 50, 72] 400
set_option maxRecDepth 100000 in
theorem b188_13 {d : Nat} {Q : j3_P} {σ : j3_S} {x1 : Int} {x2 : Int} {xs0 : Int} :
  T188 d Q 13 [wO 10 121, wI x1, wI x2, wM 2, wM 2, wM 2] [wI xs0] σ = (if xs0 = 0 then Q (some (wI 0)) σ else (if x1 = 0 then T188 d Q 21 [wO 10 121, wI x1, wI x2, wM 2, wM 2, wM 2] [wI 0] σ else T188 d Q 21 [wO 10 121, wI x1, wI x2, wM 2, wM 2, wM 2] [wI 1] σ)) := j3_T.go d [0, 13, 21, 26, 48, 50, 72] 400
set_option maxRecDepth 100000 in
theorem b188_21 {d : Nat} {Q : j3_P} {σ : j3_S} {x1 : Int} {x2 : Int} {xs0 : Int} :
  T188 d Q 21 [wO 10 121, wI x1, wI x2, wM 2, wM 2, wM 2] [wI xs0] σ = T188 d Q 26 [wO 10 121, wI x1, wI x2, wI xs0, wI 0, wI 0] [] σ := j3_T.go d [0, 13, 21, 26, 48, 50, 72] 400
set_option maxRecDepth 100000 in
theorem b188_26 {d : Nat} {Q : j3_P} {σ : j3_S} {x1 : Int} {x2 : Int} {x3 : Int} {x4 : Int} {x5 : Int} :
  T188 d Q 26 [wO 10 121, wI x1, wI x2, wI x3, wI x4, wI x5] [] σ = ((0 ≤ x3 ∧ x3 < 3) ∧ (if x5 < (σ.2.2 10009 121 x3) then (if x2 = (1 : Int) then ((0 ≤ (wr ((wr (10 * x3)) + x5)) ∧ (wr ((wr (10 * x3)) + x5)) < 30) ∧ T188 d Q 26 [wO 10 121, wI x1, wI x2, wI x3, wI (wr (x4 + (σ.2.2 10012 121 (wr ((wr (10 * x3)) + x5))))), wI (wr (x5 + 1))] [] σ) else T188 d Q 48 [wO 10 121, wI x1, wI x2, wI x3, wI x4, wI x5] [] σ) else T188 d Q 48 [wO 10 121, wI x1, wI x2, wI x3, wI x4, wI x5] [] σ)) := j3_T.go d [0, 13, 21, 26, 48, 50, 72] 400
set_option maxRecDepth 100000 in
theorem b188_48 {d : Nat} {Q : j3_P} {σ : j3_S} {x1 : Int} {x2 : Int} {x3 : Int} {x4 : Int} {x5 : Int} :
  T188 d Q 48 [wO 10 121, wI x1, wI x2, wI x3, wI x4, wI x5] [] σ = T188 d Q 50 [wO 10 121, wI x1, wI x2, wI x3, wI x4, wI 0] [] σ := j3_T.go d [0, 13, 21, 26, 48, 50, 72] 400
set_option maxRecDepth 100000 in
theorem b188_50 {d : Nat} {Q : j3_P} {σ : j3_S} {x1 : Int} {x2 : Int} {x3 : Int} {x4 : Int} {x5 : Int} :
  T188 d Q 50 [wO 10 121, wI x1, wI x2, wI x3, wI x4, wI x5] [] σ = ((0 ≤ x3 ∧ x3 < 3) ∧ (if x5 < (σ.2.2 10018 121 x3) then (if x2 = (3 : Int) then ((0 ≤ (wr ((wr (80 * x3)) + x5)) ∧ (wr ((wr (80 * x3)) + x5)) < 240) ∧ T188 d Q 50 [wO 10 121, wI x1, wI x2, wI x3, wI (wr (x4 + (σ.2.2 10026 121 (wr ((wr (80 * x3)) + x5))))), wI (wr (x5 + 1))] [] σ) else T188 d Q 72 [wO 10 121, wI x1, wI x2, wI x3, wI x4, wI x5] [] σ) else T188 d Q 72 [wO 10 121, wI x1, wI x2, wI x3, wI x4, wI x5] [] σ)) := j3_T.go d [0, 13, 21, 26, 48, 50, 72] 400
set_option maxRecDepth 100000 in
theorem b188_72 {d : Nat} {Q : j3_P} {σ : j3_S} {x1 : Int} {x2 : Int} {x3 : Int} {x4 : Int} {x5 : Int} :
  T188 d Q 72 [wO 10 121, wI x1, wI x2, wI x3, wI x4, wI x5] [] σ = (if x2 = 0 then ((0 ≤ x3 ∧ x3 < 3) ∧ Q (some (wI (σ.2.2 10009 121 x3))) σ) else (if x2 = (2 : Int) then ((0 ≤ x3 ∧ x3 < 3) ∧ Q (some (wI (σ.2.2 10018 121 x3))) σ) else (if x2 = (4 : Int) then ((0 ≤ x3 ∧ x3 < 3) ∧ Q (some (wI (σ.2.2 10034 121 x3))) σ) else Q (some (wI x4)) σ))) := j3_T.go d [0, 13, 21, 26, 48, 50, 72] 400
def T189 (d : Nat) (Q : j3_P) : j3_K := j3_T true (j3_tc true d) jc_X10_method (some .int) Q
theorem e189 {d : Nat} {Q : j3_P} {σ : j3_S} {x1 : Int} {x2 : Int} {x3 : Int} {x4 : Int} : j3_tc true (d + 1) 189 [wO 10 121, wI x1, wI x2, wI x3, wI x4] σ Q = T189 d Q 0 [wO 10 121, wI x1, wI x2, wI x3, wI x4, wM 2, wM 2] [] σ := j3_entry ⟨Nat.le_of_ble_eq_true rfl, rfl⟩
set_option maxRecDepth 100000 in
theorem b189_0 {d : Nat} {Q : j3_P} {σ : j3_S} {x1 : Int} {x2 : Int} {x3 : Int} {x4 : Int} :
  T189 d Q 0 [wO 10 121, wI x1, wI x2, wI x3, wI x4, wM 2, wM 2] [] σ = (if x1 = 0 then T189 d Q 8 [wO 10 121, wI x1, wI x2, wI x3, wI x4, wM 2, wM 2] [wI 0] ((j3_up σ.1 10000 121 0), σ.2.1, σ.2.2) else T189 d Q 8 [wO 10 121, wI x1, wI x2, wI x3, wI x4, wM 2, wM 2] [wI 1] ((j3_up σ.1 10000 121 0), σ.2.1, σ.2.2)) := j3_T.go d [0, 8, 12, 52, 57, 62, 67, 72, 77, 82, 88] 400
set_option maxRecDepth 100000 in
theorem b189_8 {d : Nat} {Q : j3_P} {σ : j3_S} {x1 : Int} {x2 : Int} {x3 : Int} {x4 : Int} {xs0 : Int} :
  T189 d Q 8 [wO 10 121, wI x1, wI x2, wI x3, wI x4, wM 2, wM 2] [wI xs0] σ = j3_tc true d 187 [wO 10 121, wI x1] σ (fun r σ1 => T189 d Q 12 [wO 10 121, wI x1, wI x2, wI x3, wI x4, wI xs0, wM 2] (r.toList ++ []) σ1) := j3_T.go d [0, 8, 12, 52, 57, 62, 67, 72, 77, 82, 88] 400
set_option maxRecDepth 100000 in
theorem b189_12 {d : Nat} {Q : j3_P} {σ : j3_S} {x1 : Int} {x2 : Int} {x3 : Int} {x4 : Int} {x5 : Int} {xs0 : Int} :
  T189 d Q 12 [wO 10 121, wI x1, wI x2, wI x3, wI x4, wI x5, wM 2] [wI xs0] σ = (if xs0 = 0 then Q (some (wI (-1))) σ else (if x2 < 0 then Q (some (wI (-1))) σ else ((0 ≤ x5 ∧ x5 < 3) ∧ (if x2 < (σ.2.2 10009 121 x5) then (if x3 < 0 then Q (some (wI (-1))) σ else ((0 ≤ (wr ((wr (10 * x5)) + x2)) ∧ (wr ((wr (10 * x5)) + x2)) < 30) ∧ (if x3 < (σ.2.2 10014 121 (wr ((wr (10 * x5)) + x2))) then ((0 ≤ (wr ((wr (10 * x5)) + x2)) ∧ (wr ((wr (10 * x5)) + x2)) < 30) ∧ (if x4 = 0 then T189 d Q 52 [wO 10 121, wI x1, wI x2, wI x3, wI x4, wI x5, wI (wr ((wr ((wr (80 * x5)) + (σ.2.2 10013 121 (wr ((wr (10 * x5)) + x2))))) + x3))] [] σ else (if x4 = 1 then T189 d Q 57 [wO 10 121, wI x1, wI x2, wI x3, wI x4, wI x5, wI (wr ((wr ((wr (80 * x5)) + (σ.2.2 10013 121 (wr ((wr (10 * x5)) + x2))))) + x3))] [] σ else (if x4 = 2 then T189 d Q 62 [wO 10 121, wI x1, wI x2, wI x3, wI x4, wI x5, wI (wr ((wr ((wr (80 * x5)) + (σ.2.2 10013 121 (wr ((wr (10 * x5)) + x2))))) + x3))] [] σ else (if x4 = 3 then T189 d Q 67 [wO 10 121, wI x1, wI x2, wI x3, wI x4, wI x5, wI (wr ((wr ((wr (80 * x5)) + (σ.2.2 10013 121 (wr ((wr (10 * x5)) + x2))))) + x3))] [] σ else (if x4 = 4 then T189 d Q 72 [wO 10 121, wI x1, wI x2, wI x3, wI x4, wI x5, wI (wr ((wr ((wr (80 * x5)) + (σ.2.2 10013 121 (wr ((wr (10 * x5)) + x2))))) + x3))] [] σ else (if x4 = 5 then T189 d Q 77 [wO 10 121, wI x1, wI x2, wI x3, wI x4, wI x5, wI (wr ((wr ((wr (80 * x5)) + (σ.2.2 10013 121 (wr ((wr (10 * x5)) + x2))))) + x3))] [] σ else (if x4 = 6 then T189 d Q 82 [wO 10 121, wI x1, wI x2, wI x3, wI x4, wI x5, wI (wr ((wr ((wr (80 * x5)) + (σ.2.2 10013 121 (wr ((wr (10 * x5)) + x2))))) + x3))] [] σ else T189 d Q 88 [wO 10 121, wI x1, wI x2, wI x3, wI x4, wI x5, wI (wr ((wr ((wr (80 * x5)) + (σ.2.2 10013 121 (wr ((wr (10 * x5)) + x2))))) + x3))] [] σ)))))))) else Q (some (wI (-1))) σ))) else Q (some (wI (-1))) σ)))) := j3_T.go d [0, 8, 12, 52, 57, 62, 67, 72, 77, 82, 88] 400
set_option maxRecDepth 100000 in
theorem b189_52 {d : Nat} {Q : j3_P} {σ : j3_S} {x1 : Int} {x2 : Int} {x3 : Int} {x4 : Int} {x5 : Int} {x6 : Int} :
  T189 d Q 52 [wO 10 121, wI x1, wI x2, wI x3, wI x4, wI x5, wI x6] [] σ = ((0 ≤ x6 ∧ x6 < 240) ∧ Q (some (wI (σ.2.2 10020 121 x6))) σ) := j3_T.go d [0, 8, 12, 52, 57, 62, 67, 72, 77, 82, 88] 400
set_option maxRecDepth 100000 in
theorem b189_57 {d : Nat} {Q : j3_P} {σ : j3_S} {x1 : Int} {x2 : Int} {x3 : Int} {x4 : Int} {x5 : Int} {x6 : Int} :
  T189 d Q 57 [wO 10 121, wI x1, wI x2, wI x3, wI x4, wI x5, wI x6] [] σ = ((0 ≤ x6 ∧ x6 < 240) ∧ Q (some (wI (σ.2.2 10021 121 x6))) σ) := j3_T.go d [0, 8, 12, 52, 57, 62, 67, 72, 77, 82, 88] 400
set_option maxRecDepth 100000 in
theorem b189_62 {d : Nat} {Q : j3_P} {σ : j3_S} {x1 : Int} {x2 : Int} {x3 : Int} {x4 : Int} {x5 : Int} {x6 : Int} :
  T189 d Q 62 [wO 10 121, wI x1, wI x2, wI x3, wI x4, wI x5, wI x6] [] σ = ((0 ≤ x6 ∧ x6 < 240) ∧ Q (some (wI (σ.2.2 10022 121 x6))) σ) := j3_T.go d [0, 8, 12, 52, 57, 62, 67, 72, 77, 82, 88] 400
set_option maxRecDepth 100000 in
theorem b189_67 {d : Nat} {Q : j3_P} {σ : j3_S} {x1 : Int} {x2 : Int} {x3 : Int} {x4 : Int} {x5 : Int} {x6 : Int} :
  T189 d Q 67 [wO 10 121, wI x1, wI x2, wI x3, wI x4, wI x5, wI x6] [] σ = ((0 ≤ x6 ∧ x6 < 240) ∧ Q (some (wI (σ.2.2 10023 121 x6))) σ) := j3_T.go d [0, 8, 12, 52, 57, 62, 67, 72, 77, 82, 88] 400
set_option maxRecDepth 100000 in
theorem b189_72 {d : Nat} {Q : j3_P} {σ : j3_S} {x1 : Int} {x2 : Int} {x3 : Int} {x4 : Int} {x5 : Int} {x6 : Int} :
  T189 d Q 72 [wO 10 121, wI x1, wI x2, wI x3, wI x4, wI x5, wI x6] [] σ = ((0 ≤ x6 ∧ x6 < 240) ∧ Q (some (wI (σ.2.2 10025 121 x6))) σ) := j3_T.go d [0, 8, 12, 52, 57, 62, 67, 72, 77, 82, 88] 400
set_option maxRecDepth 100000 in
theorem b189_77 {d : Nat} {Q : j3_P} {σ : j3_S} {x1 : Int} {x2 : Int} {x3 : Int} {x4 : Int} {x5 : Int} {x6 : Int} :
  T189 d Q 77 [wO 10 121, wI x1, wI x2, wI x3, wI x4, wI x5, wI x6] [] σ = ((0 ≤ x6 ∧ x6 < 240) ∧ Q (some (wI (σ.2.2 10026 121 x6))) σ) := j3_T.go d [0, 8, 12, 52, 57, 62, 67, 72, 77, 82, 88] 400
set_option maxRecDepth 100000 in
theorem b189_82 {d : Nat} {Q : j3_P} {σ : j3_S} {x1 : Int} {x2 : Int} {x3 : Int} {x4 : Int} {x5 : Int} {x6 : Int} :
  T189 d Q 82 [wO 10 121, wI x1, wI x2, wI x3, wI x4, wI x5, wI x6] [] σ = Q (some (wI (wr (x6 - (wr (80 * x5)))))) σ := j3_T.go d [0, 8, 12, 52, 57, 62, 67, 72, 77, 82, 88] 400
set_option maxRecDepth 100000 in
theorem b189_88 {d : Nat} {Q : j3_P} {σ : j3_S} {x1 : Int} {x2 : Int} {x3 : Int} {x4 : Int} {x5 : Int} {x6 : Int} :
  T189 d Q 88 [wO 10 121, wI x1, wI x2, wI x3, wI x4, wI x5, wI x6] [] σ = Q (some (wI (-1))) σ := j3_T.go d [0, 8, 12, 52, 57, 62, 67, 72, 77, 82, 88] 400
def T190 (d : Nat) (Q : j3_P) : j3_K := j3_T true (j3_tc true d) jc_X10_type (some .int) Q
theorem e190 {d : Nat} {Q : j3_P} {σ : j3_S} {x1 : Int} {x2 : Int} {x3 : Int} : j3_tc true (d + 1) 190 [wO 10 121, wI x1, wI x2, wI x3] σ Q = T190 d Q 0 [wO 10 121, wI x1, wI x2, wI x3, wM 2] [] σ := j3_entry ⟨Nat.le_of_ble_eq_true rfl, rfl⟩
set_option maxRecDepth 100000 in
theorem b190_0 {d : Nat} {Q : j3_P} {σ : j3_S} {x1 : Int} {x2 : Int} {x3 : Int} :
  T190 d Q 0 [wO 10 121, wI x1, wI x2, wI x3, wM 2] [] σ = (if (σ.1 10043 121) = 0 then Q (some (wI (-1))) ((j3_up σ.1 10000 121 0), σ.2.1, σ.2.2) else (if x1 < 0 then Q (some (wI (-1))) ((j3_up σ.1 10000 121 0), σ.2.1, σ.2.2) else ((0 ≤ (0 : Int) ∧ (0 : Int) < 3) ∧ (if x1 < (σ.2.2 10018 121 0) then (if x2 < 0 then Q (some (wI (-1))) ((j3_up σ.1 10000 121 0), σ.2.1, σ.2.2) else ((0 ≤ x1 ∧ x1 < 240) ∧ (if x2 < (σ.2.2 10026 121 x1) then (if x3 = 0 then ((0 ≤ (wr ((wr (120 * x1)) + x2)) ∧ (wr ((wr (120 * x1)) + x2)) < 19200) ∧ (if (σ.2.2 10035 121 (wr ((wr (120 * x1)) + x2))) = 0 then Q (some (wI 0)) ((j3_up σ.1 10000 121 0), σ.2.1, σ.2.2) else Q (some (wI 1)) ((j3_up σ.1 10000 121 0), σ.2.1, σ.2.2))) else ((0 ≤ (wr ((wr (120 * x1)) + x2)) ∧ (wr ((wr (120 * x1)) + x2)) < 19200) ∧ (if (σ.2.2 10035 121 (wr ((wr (120 * x1)) + x2))) = 0 then Q (some (wI (-1))) ((j3_up σ.1 10000 121 0), σ.2.1, σ.2.2) else (if x3 = (1 : Int) then ((0 ≤ (wr ((wr (120 * x1)) + x2)) ∧ (wr ((wr (120 * x1)) + x2)) < 19200) ∧ Q (some (wI (σ.2.2 10036 121 (wr ((wr (120 * x1)) + x2))))) ((j3_up σ.1 10000 121 0), σ.2.1, σ.2.2)) else (if x3 < (10 : Int) then T190 d Q 78 [wO 10 121, wI x1, wI x2, wI x3, wI (wr ((wr (120 * x1)) + x2))] [] ((j3_up σ.1 10000 121 0), σ.2.1, σ.2.2) else ((0 ≤ x1 ∧ x1 < 240) ∧ (if x3 < (wr (10 + (σ.2.2 10025 121 x1))) then ((0 ≤ (wr ((wr ((wr (20 * (wr ((wr (120 * x1)) + x2)))) + x3)) - 10)) ∧ (wr ((wr ((wr (20 * (wr ((wr (120 * x1)) + x2)))) + x3)) - 10)) < 384000) ∧ Q (some (wI (σ.2.2 10038 121 (wr ((wr ((wr (20 * (wr ((wr (120 * x1)) + x2)))) + x3)) - 10))))) ((j3_up σ.1 10000 121 0), σ.2.1, σ.2.2)) else T190 d Q 78 [wO 10 121, wI x1, wI x2, wI x3, wI (wr ((wr (120 * x1)) + x2))] [] ((j3_up σ.1 10000 121 0), σ.2.1, σ.2.2)))))))) else Q (some (wI (-1))) ((j3_up σ.1 10000 121 0), σ.2.1, σ.2.2)))) else Q (some (wI (-1))) ((j3_up σ.1 10000 121 0), σ.2.1, σ.2.2))))) := j3_T.go d [0, 78] 400
set_option maxRecDepth 100000 in
theorem b190_78 {d : Nat} {Q : j3_P} {σ : j3_S} {x1 : Int} {x2 : Int} {x3 : Int} {x4 : Int} :
  T190 d Q 78 [wO 10 121, wI x1, wI x2, wI x3, wI x4] [] σ = (if x3 < (30 : Int) then Q (some (wI (-1))) σ else ((0 ≤ x4 ∧ x4 < 19200) ∧ (if x3 < (wr (30 + (σ.2.2 10036 121 x4))) then ((0 ≤ (wr ((wr ((wr (10 * x4)) + x3)) - 30)) ∧ (wr ((wr ((wr (10 * x4)) + x3)) - 30)) < 192000) ∧ Q (some (wI (σ.2.2 10037 121 (wr ((wr ((wr (10 * x4)) + x3)) - 30))))) σ) else Q (some (wI (-1))) σ))) := j3_T.go d [0, 78] 400
def T191 (d : Nat) (Q : j3_P) : j3_K := j3_T true (j3_tc true d) jc_X10_entry (some .int) Q
theorem e191 {d : Nat} {Q : j3_P} {σ : j3_S} {x1 : Int} : j3_tc true (d + 1) 191 [wO 10 121, wI x1] σ Q = T191 d Q 0 [wO 10 121, wI x1, wM 2] [] σ := j3_entry ⟨Nat.le_of_ble_eq_true rfl, rfl⟩
set_option maxRecDepth 100000 in
theorem b191_0 {d : Nat} {Q : j3_P} {σ : j3_S} {x1 : Int} :
  T191 d Q 0 [wO 10 121, wI x1, wM 2] [] σ = (if (σ.1 10043 121) = 0 then Q (some (wI (-1))) ((j3_up σ.1 10000 121 0), σ.2.1, σ.2.2) else (if x1 < 0 then Q (some (wI (-1))) ((j3_up σ.1 10000 121 0), σ.2.1, σ.2.2) else ((0 ≤ (0 : Int) ∧ (0 : Int) < 3) ∧ (if x1 < (σ.2.2 10018 121 0) then ((0 ≤ x1 ∧ x1 < 240) ∧ (if (σ.2.2 10021 121 x1) = 0 then Q (some (wI (-1))) ((j3_up σ.1 10000 121 0), σ.2.1, σ.2.2) else ((0 ≤ x1 ∧ x1 < 240) ∧ (if 0 < (σ.2.2 10023 121 x1) then Q (some (wI (-1))) ((j3_up σ.1 10000 121 0), σ.2.1, σ.2.2) else T191 d Q 28 [wO 10 121, wI x1, wI 0] [] ((j3_up σ.1 10000 121 0), σ.2.1, σ.2.2))))) else Q (some (wI (-1))) ((j3_up σ.1 10000 121 0), σ.2.1, σ.2.2))))) := j3_T.go d [0, 28] 400
set_option maxRecDepth 100000 in
theorem b191_28 {d : Nat} {Q : j3_P} {σ : j3_S} {x1 : Int} {x2 : Int} :
  T191 d Q 28 [wO 10 121, wI x1, wI x2] [] σ = (if x2 < (σ.1 10045 121) then ((0 ≤ x2 ∧ x2 < 6) ∧ (if (σ.2.2 10046 121 x2) = x1 then Q (some (wI x2)) σ else T191 d Q 28 [wO 10 121, wI x1, wI (wr (x2 + 1))] [] σ)) else (if (σ.1 10045 121) = (6 : Int) then Q (some (wI (-1))) σ else ((0 ≤ (σ.1 10045 121) ∧ (σ.1 10045 121) < 6) ∧ (((0 : Int) = 0 ∨ (0 : Int) = 1) ∧ Q (some (wI (wr ((wr ((σ.1 10045 121) + 1)) - 1)))) ((j3_up (j3_up σ.1 10045 121 (wr ((σ.1 10045 121) + 1))) 10044 121 0), σ.2.1, (j3_ast σ.2.2 10046 121 (σ.1 10045 121) x1)))))) := j3_T.go d [0, 28] 400
def T192 (d : Nat) (Q : j3_P) : j3_K := j3_T true (j3_tc true d) jc_X10_find (some .int) Q
theorem e192 {d : Nat} {Q : j3_P} {σ : j3_S} {x1 : Int} {x2 : Int} {x3 : Int} : j3_tc true (d + 1) 192 [wO 10 121, wI x1, wI x2, wI x3] σ Q = T192 d Q 0 [wO 10 121, wI x1, wI x2, wI x3, wM 2, wM 2] [] σ := j3_entry ⟨Nat.le_of_ble_eq_true rfl, rfl⟩
set_option maxRecDepth 100000 in
theorem b192_0 {d : Nat} {Q : j3_P} {σ : j3_S} {x1 : Int} {x2 : Int} {x3 : Int} :
  T192 d Q 0 [wO 10 121, wI x1, wI x2, wI x3, wM 2, wM 2] [] σ = T192 d Q 2 [wO 10 121, wI x1, wI x2, wI x3, wI x2, wM 2] [] σ := j3_T.go d [0, 2, 6] 400
set_option maxRecDepth 100000 in
theorem b192_2 {d : Nat} {Q : j3_P} {σ : j3_S} {x1 : Int} {x2 : Int} {x3 : Int} {x4 : Int} {w5 : j3_W} :
  T192 d Q 2 [wO 10 121, wI x1, wI x2, wI x3, wI x4, w5] [] σ = (if x4 < 0 then Q (some (wI (-1))) σ else T192 d Q 6 [wO 10 121, wI x1, wI x2, wI x3, wI x4, wI 0] [] σ) := j3_T.go d [0, 2, 6] 400
set_option maxRecDepth 100000 in
theorem b192_6 {d : Nat} {Q : j3_P} {σ : j3_S} {x1 : Int} {x2 : Int} {x3 : Int} {x4 : Int} {x5 : Int} :
  T192 d Q 6 [wO 10 121, wI x1, wI x2, wI x3, wI x4, wI x5] [] σ = ((0 ≤ (wr ((wr (10 * x1)) + x4)) ∧ (wr ((wr (10 * x1)) + x4)) < 30) ∧ (if x5 < (σ.2.2 10014 121 (wr ((wr (10 * x1)) + x4))) then ((0 ≤ (wr ((wr (10 * x1)) + x4)) ∧ (wr ((wr (10 * x1)) + x4)) < 30) ∧ ((0 ≤ (wr ((wr ((wr (80 * x1)) + (σ.2.2 10013 121 (wr ((wr (10 * x1)) + x4))))) + x5)) ∧ (wr ((wr ((wr (80 * x1)) + (σ.2.2 10013 121 (wr ((wr (10 * x1)) + x4))))) + x5)) < 240) ∧ (if (σ.2.2 10020 121 (wr ((wr ((wr (80 * x1)) + (σ.2.2 10013 121 (wr ((wr (10 * x1)) + x4))))) + x5))) = x3 then ((0 ≤ (wr ((wr (10 * x1)) + x4)) ∧ (wr ((wr (10 * x1)) + x4)) < 30) ∧ Q (some (wI (wr ((σ.2.2 10013 121 (wr ((wr (10 * x1)) + x4))) + x5)))) σ) else T192 d Q 6 [wO 10 121, wI x1, wI x2, wI x3, wI x4, wI (wr (x5 + 1))] [] σ))) else ((0 ≤ (wr ((wr (10 * x1)) + x4)) ∧ (wr ((wr (10 * x1)) + x4)) < 30) ∧ T192 d Q 2 [wO 10 121, wI x1, wI x2, wI x3, wI (σ.2.2 10011 121 (wr ((wr (10 * x1)) + x4))), wI x5] [] σ))) := j3_T.go d [0, 2, 6] 400
def T193 (d : Nat) (Q : j3_P) : j3_K := j3_T true (j3_tc true d) jc_X10_mark none Q
theorem e193 {d : Nat} {Q : j3_P} {σ : j3_S} {x1 : Int} : j3_tc true (d + 1) 193 [wO 10 121, wI x1] σ Q = T193 d Q 0 [wO 10 121, wI x1] [] σ := j3_entry ⟨Nat.le_of_ble_eq_true rfl, rfl⟩
set_option maxRecDepth 100000 in
theorem b193_0 {d : Nat} {Q : j3_P} {σ : j3_S} {x1 : Int} :
  T193 d Q 0 [wO 10 121, wI x1] [] σ = (if (σ.1 10051 121) = 0 then ((0 ≤ x1 ∧ x1 < 80) ∧ (if (σ.2.2 10049 121 x1) = 0 then T193 d Q 9 [wO 10 121, wI x1] [wO 10 121] σ else T193 d Q 12 [wO 10 121, wI x1] [wI 0, wO 10 121] σ)) else T193 d Q 9 [wO 10 121, wI x1] [wO 10 121] σ) := j3_T.go d [0, 9, 12] 400
set_option maxRecDepth 100000 in
theorem b193_9 {d : Nat} {Q : j3_P} {σ : j3_S} {x1 : Int} :
  T193 d Q 9 [wO 10 121, wI x1] [wO 10 121] σ = T193 d Q 12 [wO 10 121, wI x1] [wI 1, wO 10 121] σ := j3_T.go d [0, 9, 12] 400
set_option maxRecDepth 100000 in
theorem b193_12 {d : Nat} {Q : j3_P} {σ : j3_S} {x1 : Int} {xs0 : Int} :
  T193 d Q 12 [wO 10 121, wI x1] [wI xs0, wO 10 121] σ = ((xs0 = 0 ∨ xs0 = 1) ∧ (((1 : Int) = 0 ∨ (1 : Int) = 1) ∧ (0 ≤ x1 ∧ x1 < 80) ∧ Q none ((j3_up σ.1 10051 121 xs0), σ.2.1, (j3_ast σ.2.2 10049 121 x1 1)))) := j3_T.go d [0, 9, 12] 400
def T194 (d : Nat) (Q : j3_P) : j3_K := j3_T true (j3_tc true d) jc_X10_reach none Q
theorem e194 {d : Nat} {Q : j3_P} {σ : j3_S} {x1 : Int} : j3_tc true (d + 1) 194 [wO 10 121, wI x1] σ Q = T194 d Q 0 [wO 10 121, wI x1, wM 2, wM 2] [] σ := j3_entry ⟨Nat.le_of_ble_eq_true rfl, rfl⟩
set_option maxRecDepth 100000 in
theorem b194_0 {d : Nat} {Q : j3_P} {σ : j3_S} {x1 : Int} :
  T194 d Q 0 [wO 10 121, wI x1, wM 2, wM 2] [] σ = T194 d Q 2 [wO 10 121, wI x1, wI 0, wM 2] [] σ := j3_T.go d [0, 2, 14, 26, 43, 51, 59, 85, 90, 91, 93] 400
set_option maxRecDepth 100000 in
theorem b194_2 {d : Nat} {Q : j3_P} {σ : j3_S} {x1 : Int} {x2 : Int} :
  T194 d Q 2 [wO 10 121, wI x1, wI x2, wM 2] [] σ = (if x2 < (80 : Int) then (((0 : Int) = 0 ∨ (0 : Int) = 1) ∧ (0 ≤ x2 ∧ x2 < 80) ∧ T194 d Q 2 [wO 10 121, wI x1, wI (wr (x2 + 1)), wM 2] [] (σ.1, σ.2.1, (j3_ast σ.2.2 10049 121 x2 0))) else T194 d Q 14 [wO 10 121, wI x1, wI 0, wM 2] [] σ) := j3_T.go d [0, 2, 14, 26, 43, 51, 59, 85, 90, 91, 93] 400
set_option maxRecDepth 100000 in
theorem b194_14 {d : Nat} {Q : j3_P} {σ : j3_S} {x1 : Int} {x2 : Int} :
  T194 d Q 14 [wO 10 121, wI x1, wI x2, wM 2] [] σ = (if x2 < (10 : Int) then (((0 : Int) = 0 ∨ (0 : Int) = 1) ∧ (0 ≤ x2 ∧ x2 < 10) ∧ T194 d Q 14 [wO 10 121, wI x1, wI (wr (x2 + 1)), wM 2] [] (σ.1, σ.2.1, (j3_ast σ.2.2 10050 121 x2 0))) else T194 d Q 26 [wO 10 121, wI x1, wI 0, wM 2] [] σ) := j3_T.go d [0, 2, 14, 26, 43, 51, 59, 85, 90, 91, 93] 400
set_option maxRecDepth 100000 in
theorem b194_26 {d : Nat} {Q : j3_P} {σ : j3_S} {x1 : Int} {x2 : Int} :
  T194 d Q 26 [wO 10 121, wI x1, wI x2, wM 2] [] σ = (if x2 < (σ.1 10045 121) then ((0 ≤ x2 ∧ x2 < 6) ∧ (((1 : Int) = 0 ∨ (1 : Int) = 1) ∧ (0 ≤ (σ.2.2 10046 121 x2) ∧ (σ.2.2 10046 121 x2) < 80) ∧ T194 d Q 26 [wO 10 121, wI x1, wI (wr (x2 + 1)), wM 2] [] (σ.1, σ.2.1, (j3_ast σ.2.2 10049 121 (σ.2.2 10046 121 x2) 1)))) else (((1 : Int) = 0 ∨ (1 : Int) = 1) ∧ T194 d Q 43 [wO 10 121, wI x1, wI x2, wM 2] [] ((j3_up σ.1 10051 121 1), σ.2.1, σ.2.2))) := j3_T.go d [0, 2, 14, 26, 43, 51, 59, 85, 90, 91, 93] 400
set_option maxRecDepth 100000 in
theorem b194_43 {d : Nat} {Q : j3_P} {σ : j3_S} {x1 : Int} {x2 : Int} {w3 : j3_W} :
  T194 d Q 43 [wO 10 121, wI x1, wI x2, w3] [] σ = (if (σ.1 10051 121) = 0 then Q none σ else (((0 : Int) = 0 ∨ (0 : Int) = 1) ∧ T194 d Q 51 [wO 10 121, wI x1, wI 0, w3] [] ((j3_up σ.1 10051 121 0), σ.2.1, σ.2.2))) := j3_T.go d [0, 2, 14, 26, 43, 51, 59, 85, 90, 91, 93] 400
set_option maxRecDepth 100000 in
theorem b194_51 {d : Nat} {Q : j3_P} {σ : j3_S} {x1 : Int} {x2 : Int} {w3 : j3_W} :
  T194 d Q 51 [wO 10 121, wI x1, wI x2, w3] [] σ = ((0 ≤ (0 : Int) ∧ (0 : Int) < 3) ∧ (if x2 < (σ.2.2 10018 121 0) then T194 d Q 59 [wO 10 121, wI x1, wI x2, wI 0] [] σ else T194 d Q 43 [wO 10 121, wI x1, wI x2, w3] [] σ)) := j3_T.go d [0, 2, 14, 26, 43, 51, 59, 85, 90, 91, 93] 400
set_option maxRecDepth 100000 in
theorem b194_59 {d : Nat} {Q : j3_P} {σ : j3_S} {x1 : Int} {x2 : Int} {x3 : Int} :
  T194 d Q 59 [wO 10 121, wI x1, wI x2, wI x3] [] σ = ((0 ≤ x2 ∧ x2 < 80) ∧ (if (σ.2.2 10049 121 x2) = 0 then T194 d Q 93 [wO 10 121, wI x1, wI x2, wI x3] [] σ else ((0 ≤ (wr ((wr (80 * x1)) + x2)) ∧ (wr ((wr (80 * x1)) + x2)) < 240) ∧ (if x3 < (σ.2.2 10026 121 (wr ((wr (80 * x1)) + x2))) then (if x1 = 0 then ((0 ≤ (wr ((wr (120 * x2)) + x3)) ∧ (wr ((wr (120 * x2)) + x3)) < 19200) ∧ (if (σ.2.2 10035 121 (wr ((wr (120 * x2)) + x3))) = 0 then T194 d Q 91 [wO 10 121, wI x1, wI x2, wI x3] [] σ else T194 d Q 85 [wO 10 121, wI x1, wI x2, wI x3] [] σ)) else T194 d Q 85 [wO 10 121, wI x1, wI x2, wI x3] [] σ) else T194 d Q 93 [wO 10 121, wI x1, wI x2, wI x3] [] σ)))) := j3_T.go d [0, 2, 14, 26, 43, 51, 59, 85, 90, 91, 93] 400
set_option maxRecDepth 100000 in
theorem b194_85 {d : Nat} {Q : j3_P} {σ : j3_S} {x1 : Int} {x2 : Int} {x3 : Int} :
  T194 d Q 85 [wO 10 121, wI x1, wI x2, wI x3] [] σ = j3_tc true d 160 [wI x1, wI x2, wI x3] σ (fun r σ1 => T194 d Q 90 [wO 10 121, wI x1, wI x2, wI x3] (r.toList ++ [wO 10 121]) σ1) := j3_T.go d [0, 2, 14, 26, 43, 51, 59, 85, 90, 91, 93] 400
set_option maxRecDepth 100000 in
theorem b194_90 {d : Nat} {Q : j3_P} {σ : j3_S} {x1 : Int} {x2 : Int} {x3 : Int} {xs0 : Int} :
  T194 d Q 90 [wO 10 121, wI x1, wI x2, wI x3] [wI xs0, wO 10 121] σ = j3_tc true d 195 [wO 10 121, wI xs0] σ (fun r σ1 => T194 d Q 91 [wO 10 121, wI x1, wI x2, wI x3] (r.toList ++ []) σ1) := j3_T.go d [0, 2, 14, 26, 43, 51, 59, 85, 90, 91, 93] 400
set_option maxRecDepth 100000 in
theorem b194_91 {d : Nat} {Q : j3_P} {σ : j3_S} {x1 : Int} {x2 : Int} {x3 : Int} :
  T194 d Q 91 [wO 10 121, wI x1, wI x2, wI x3] [] σ = T194 d Q 59 [wO 10 121, wI x1, wI x2, wI (wr (x3 + 1))] [] σ := j3_T.go d [0, 2, 14, 26, 43, 51, 59, 85, 90, 91, 93] 400
set_option maxRecDepth 100000 in
theorem b194_93 {d : Nat} {Q : j3_P} {σ : j3_S} {x1 : Int} {x2 : Int} {x3 : Int} :
  T194 d Q 93 [wO 10 121, wI x1, wI x2, wI x3] [] σ = T194 d Q 51 [wO 10 121, wI x1, wI (wr (x2 + 1)), wI x3] [] σ := j3_T.go d [0, 2, 14, 26, 43, 51, 59, 85, 90, 91, 93] 400
def T195 (d : Nat) (Q : j3_P) : j3_K := j3_T true (j3_tc true d) jc_X10_reachBy none Q
theorem e195 {d : Nat} {Q : j3_P} {σ : j3_S} {x1 : Int} : j3_tc true (d + 1) 195 [wO 10 121, wI x1] σ Q = T195 d Q 0 [wO 10 121, wI x1, wM 2, wM 2] [] σ := j3_entry ⟨Nat.le_of_ble_eq_true rfl, rfl⟩
set_option maxRecDepth 100000 in
theorem b195_0 {d : Nat} {Q : j3_P} {σ : j3_S} {x1 : Int} :
  T195 d Q 0 [wO 10 121, wI x1, wM 2, wM 2] [] σ = ((0 ≤ x1 ∧ x1 < 28800) ∧ (if (σ.2.2 10027 121 x1) = (15 : Int) then (if (σ.1 10051 121) = 0 then ((0 ≤ x1 ∧ x1 < 28800) ∧ ((0 ≤ (σ.2.2 10028 121 x1) ∧ (σ.2.2 10028 121 x1) < 10) ∧ (if (σ.2.2 10050 121 (σ.2.2 10028 121 x1)) = 0 then T195 d Q 20 [wO 10 121, wI x1, wI (σ.2.2 10027 121 x1), wM 2] [wO 10 121] σ else T195 d Q 23 [wO 10 121, wI x1, wI (σ.2.2 10027 121 x1), wM 2] [wI 0, wO 10 121] σ))) else T195 d Q 20 [wO 10 121, wI x1, wI (σ.2.2 10027 121 x1), wM 2] [wO 10 121] σ) else T195 d Q 32 [wO 10 121, wI x1, wI (σ.2.2 10027 121 x1), wM 2] [] σ)) := j3_T.go d [0, 20, 23, 32, 49, 55, 74, 95, 96] 400
set_option maxRecDepth 100000 in
theorem b195_20 {d : Nat} {Q : j3_P} {σ : j3_S} {x1 : Int} {x2 : Int} :
  T195 d Q 20 [wO 10 121, wI x1, wI x2, wM 2] [wO 10 121] σ = T195 d Q 23 [wO 10 121, wI x1, wI x2, wM 2] [wI 1, wO 10 121] σ := j3_T.go d [0, 20, 23, 32, 49, 55, 74, 95, 96] 400
set_option maxRecDepth 100000 in
theorem b195_23 {d : Nat} {Q : j3_P} {σ : j3_S} {x1 : Int} {x2 : Int} {xs0 : Int} :
  T195 d Q 23 [wO 10 121, wI x1, wI x2, wM 2] [wI xs0, wO 10 121] σ = ((xs0 = 0 ∨ xs0 = 1) ∧ ((0 ≤ x1 ∧ x1 < 28800) ∧ (((1 : Int) = 0 ∨ (1 : Int) = 1) ∧ (0 ≤ (σ.2.2 10028 121 x1) ∧ (σ.2.2 10028 121 x1) < 10) ∧ T195 d Q 32 [wO 10 121, wI x1, wI x2, wM 2] [] ((j3_up σ.1 10051 121 xs0), σ.2.1, (j3_ast σ.2.2 10050 121 (σ.2.2 10028 121 x1) 1))))) := j3_T.go d [0, 20, 23, 32, 49, 55, 74, 95, 96] 400
set_option maxRecDepth 100000 in
theorem b195_32 {d : Nat} {Q : j3_P} {σ : j3_S} {x1 : Int} {x2 : Int} :
  T195 d Q 32 [wO 10 121, wI x1, wI x2, wM 2] [] σ = (if x2 = (20 : Int) then ((0 ≤ x1 ∧ x1 < 28800) ∧ ((0 ≤ (σ.2.2 10028 121 x1) ∧ (σ.2.2 10028 121 x1) < 30) ∧ ((0 ≤ x1 ∧ x1 < 28800) ∧ j3_tc true d 193 [wO 10 121, wI (wr ((σ.2.2 10013 121 (σ.2.2 10028 121 x1)) + (σ.2.2 10029 121 x1)))] σ (fun r σ1 => T195 d Q 49 [wO 10 121, wI x1, wI x2, wM 2] (r.toList ++ []) σ1)))) else T195 d Q 49 [wO 10 121, wI x1, wI x2, wM 2] [] σ) := j3_T.go d [0, 20, 23, 32, 49, 55, 74, 95, 96] 400
set_option maxRecDepth 100000 in
theorem b195_49 {d : Nat} {Q : j3_P} {σ : j3_S} {x1 : Int} {x2 : Int} :
  T195 d Q 49 [wO 10 121, wI x1, wI x2, wM 2] [] σ = (if x2 = (21 : Int) then T195 d Q 55 [wO 10 121, wI x1, wI x2, wI 0] [] σ else Q none σ) := j3_T.go d [0, 20, 23, 32, 49, 55, 74, 95, 96] 400
set_option maxRecDepth 100000 in
theorem b195_55 {d : Nat} {Q : j3_P} {σ : j3_S} {x1 : Int} {x2 : Int} {x3 : Int} :
  T195 d Q 55 [wO 10 121, wI x1, wI x2, wI x3] [] σ = ((0 ≤ (0 : Int) ∧ (0 : Int) < 3) ∧ (if x3 < (σ.2.2 10009 121 0) then ((0 ≤ x3 ∧ x3 < 10) ∧ (if (σ.2.2 10050 121 x3) = 0 then T195 d Q 96 [wO 10 121, wI x1, wI x2, wI x3] [] σ else ((0 ≤ x1 ∧ x1 < 28800) ∧ j3_tc true d 170 [wO 10 121, wI 0, wI (σ.2.2 10028 121 x1), wI x3] σ (fun r σ1 => T195 d Q 74 [wO 10 121, wI x1, wI x2, wI x3] (r.toList ++ []) σ1)))) else Q none σ)) := j3_T.go d [0, 20, 23, 32, 49, 55, 74, 95, 96] 400
set_option maxRecDepth 100000 in
theorem b195_74 {d : Nat} {Q : j3_P} {σ : j3_S} {x1 : Int} {x2 : Int} {x3 : Int} {xs0 : Int} :
  T195 d Q 74 [wO 10 121, wI x1, wI x2, wI x3] [wI xs0] σ = (if xs0 = 0 then T195 d Q 96 [wO 10 121, wI x1, wI x2, wI x3] [] σ else ((0 ≤ x1 ∧ x1 < 28800) ∧ ((0 ≤ (σ.2.2 10028 121 x1) ∧ (σ.2.2 10028 121 x1) < 30) ∧ ((0 ≤ x1 ∧ x1 < 28800) ∧ ((0 ≤ (wr ((σ.2.2 10013 121 (σ.2.2 10028 121 x1)) + (σ.2.2 10029 121 x1))) ∧ (wr ((σ.2.2 10013 121 (σ.2.2 10028 121 x1)) + (σ.2.2 10029 121 x1))) < 240) ∧ j3_tc true d 192 [wO 10 121, wI 0, wI x3, wI (σ.2.2 10020 121 (wr ((σ.2.2 10013 121 (σ.2.2 10028 121 x1)) + (σ.2.2 10029 121 x1))))] σ (fun r σ1 => T195 d Q 95 [wO 10 121, wI x1, wI x2, wI x3] (r.toList ++ [wO 10 121]) σ1)))))) := j3_T.go d [0, 20, 23, 32, 49, 55, 74, 95, 96] 400
set_option maxRecDepth 100000 in
theorem b195_95 {d : Nat} {Q : j3_P} {σ : j3_S} {x1 : Int} {x2 : Int} {x3 : Int} {xs0 : Int} :
  T195 d Q 95 [wO 10 121, wI x1, wI x2, wI x3] [wI xs0, wO 10 121] σ = j3_tc true d 193 [wO 10 121, wI xs0] σ (fun r σ1 => T195 d Q 96 [wO 10 121, wI x1, wI x2, wI x3] (r.toList ++ []) σ1) := j3_T.go d [0, 20, 23, 32, 49, 55, 74, 95, 96] 400
set_option maxRecDepth 100000 in
theorem b195_96 {d : Nat} {Q : j3_P} {σ : j3_S} {x1 : Int} {x2 : Int} {x3 : Int} :
  T195 d Q 96 [wO 10 121, wI x1, wI x2, wI x3] [] σ = T195 d Q 55 [wO 10 121, wI x1, wI x2, wI (wr (x3 + 1))] [] σ := j3_T.go d [0, 20, 23, 32, 49, 55, 74, 95, 96] 400
def T196 (d : Nat) (Q : j3_P) : j3_K := j3_T true (j3_tc true d) jc_X10_bind none Q
theorem e196 {d : Nat} {Q : j3_P} {σ : j3_S} {x1 : Int} : j3_tc true (d + 1) 196 [wO 10 121, wI x1] σ Q = T196 d Q 0 [wO 10 121, wI x1, wM 2, wM 2, wM 2, wM 2, wM 2, wM 2] [] σ := j3_entry ⟨Nat.le_of_ble_eq_true rfl, rfl⟩
set_option maxRecDepth 100000 in
theorem b196_0 {d : Nat} {Q : j3_P} {σ : j3_S} {x1 : Int} :
  T196 d Q 0 [wO 10 121, wI x1, wM 2, wM 2, wM 2, wM 2, wM 2, wM 2] [] σ = T196 d Q 2 [wO 10 121, wI x1, wI 0, wM 2, wM 2, wM 2, wM 2, wM 2] [] σ := j3_T.go d [0, 2, 12, 35, 54, 75, 83, 85, 86, 89, 106, 142] 400
set_option maxRecDepth 100000 in
theorem b196_2 {d : Nat} {Q : j3_P} {σ : j3_S} {x1 : Int} {x2 : Int} {w3 : j3_W} {w4 : j3_W} {w5 : j3_W} {w6 : j3_W} {w7 : j3_W} :
  T196 d Q 2 [wO 10 121, wI x1, wI x2, w3, w4, w5, w6, w7] [] σ = ((0 ≤ x1 ∧ x1 < 240) ∧ (if x2 < (σ.2.2 10026 121 x1) then j3_tc true d 160 [wI 2, wI x1, wI x2] σ (fun r σ1 => T196 d Q 12 [wO 10 121, wI x1, wI x2, w3, w4, w5, w6, w7] (r.toList ++ []) σ1) else Q none σ)) := j3_T.go d [0, 2, 12, 35, 54, 75, 83, 85, 86, 89, 106, 142] 400
set_option maxRecDepth 100000 in
theorem b196_12 {d : Nat} {Q : j3_P} {σ : j3_S} {x1 : Int} {x2 : Int} {w3 : j3_W} {w4 : j3_W} {w5 : j3_W} {w6 : j3_W} {w7 : j3_W} {xs0 : Int} :
  T196 d Q 12 [wO 10 121, wI x1, wI x2, w3, w4, w5, w6, w7] [wI xs0] σ = ((0 ≤ xs0 ∧ xs0 < 28800) ∧ (if (σ.2.2 10027 121 xs0) = (21 : Int) then ((0 ≤ (wr ((wr (120 * x1)) + x2)) ∧ (wr ((wr (120 * x1)) + x2)) < 19200) ∧ (if (σ.2.2 10035 121 (wr ((wr (120 * x1)) + x2))) = 0 then T196 d Q 142 [wO 10 121, wI x1, wI x2, wI xs0, w4, w5, w6, w7] [] σ else T196 d Q 35 [wO 10 121, wI x1, wI x2, wI xs0, wI (-1), wI 0, wI 0, w7] [] σ)) else T196 d Q 142 [wO 10 121, wI x1, wI x2, wI xs0, w4, w5, w6, w7] [] σ)) := j3_T.go d [0, 2, 12, 35, 54, 75, 83, 85, 86, 89, 106, 142] 400
set_option maxRecDepth 100000 in
theorem b196_35 {d : Nat} {Q : j3_P} {σ : j3_S} {x1 : Int} {x2 : Int} {x3 : Int} {x4 : Int} {x5 : Int} {x6 : Int} {w7 : j3_W} :
  T196 d Q 35 [wO 10 121, wI x1, wI x2, wI x3, wI x4, wI x5, wI x6, w7] [] σ = ((0 ≤ (0 : Int) ∧ (0 : Int) < 3) ∧ (if x6 < (σ.2.2 10009 121 0) then ((0 ≤ x6 ∧ x6 < 10) ∧ (if (σ.2.2 10050 121 x6) = 0 then T196 d Q 89 [wO 10 121, wI x1, wI x2, wI x3, wI x4, wI x5, wI x6, w7] [] σ else ((0 ≤ x3 ∧ x3 < 28800) ∧ j3_tc true d 170 [wO 10 121, wI 0, wI (σ.2.2 10028 121 x3), wI x6] σ (fun r σ1 => T196 d Q 54 [wO 10 121, wI x1, wI x2, wI x3, wI x4, wI x5, wI x6, w7] (r.toList ++ []) σ1)))) else (if x4 < 0 then T196 d Q 142 [wO 10 121, wI x1, wI x2, wI x3, wI x4, wI x5, wI x6, w7] [] σ else (if x5 = 0 then ((0 ≤ x4 ∧ x4 < 240) ∧ ((0 ≤ x3 ∧ x3 < 28800) ∧ j3_tc true d 170 [wO 10 121, wI 0, wI (σ.2.2 10019 121 x4), wI (σ.2.2 10028 121 x3)] σ (fun r σ1 => T196 d Q 106 [wO 10 121, wI x1, wI x2, wI x3, wI x4, wI x5, wI x6, w7] (r.toList ++ []) σ1))) else T196 d Q 142 [wO 10 121, wI x1, wI x2, wI x3, wI x4, wI x5, wI x6, w7] [] σ)))) := j3_T.go d [0, 2, 12, 35, 54, 75, 83, 85, 86, 89, 106, 142] 400
set_option maxRecDepth 100000 in
theorem b196_54 {d : Nat} {Q : j3_P} {σ : j3_S} {x1 : Int} {x2 : Int} {x3 : Int} {x4 : Int} {x5 : Int} {x6 : Int} {w7 : j3_W} {xs0 : Int} :
  T196 d Q 54 [wO 10 121, wI x1, wI x2, wI x3, wI x4, wI x5, wI x6, w7] [wI xs0] σ = (if xs0 = 0 then T196 d Q 89 [wO 10 121, wI x1, wI x2, wI x3, wI x4, wI x5, wI x6, w7] [] σ else ((0 ≤ x3 ∧ x3 < 28800) ∧ ((0 ≤ (σ.2.2 10028 121 x3) ∧ (σ.2.2 10028 121 x3) < 30) ∧ ((0 ≤ x3 ∧ x3 < 28800) ∧ ((0 ≤ (wr ((σ.2.2 10013 121 (σ.2.2 10028 121 x3)) + (σ.2.2 10029 121 x3))) ∧ (wr ((σ.2.2 10013 121 (σ.2.2 10028 121 x3)) + (σ.2.2 10029 121 x3))) < 240) ∧ j3_tc true d 192 [wO 10 121, wI 0, wI x6, wI (σ.2.2 10020 121 (wr ((σ.2.2 10013 121 (σ.2.2 10028 121 x3)) + (σ.2.2 10029 121 x3))))] σ (fun r σ1 => T196 d Q 75 [wO 10 121, wI x1, wI x2, wI x3, wI x4, wI x5, wI x6, w7] (r.toList ++ []) σ1)))))) := j3_T.go d [0, 2, 12, 35, 54, 75, 83, 85, 86, 89, 106, 142] 400
set_option maxRecDepth 100000 in
theorem b196_75 {d : Nat} {Q : j3_P} {σ : j3_S} {x1 : Int} {x2 : Int} {x3 : Int} {x4 : Int} {x5 : Int} {x6 : Int} {w7 : j3_W} {xs0 : Int} :
  T196 d Q 75 [wO 10 121, wI x1, wI x2, wI x3, wI x4, wI x5, wI x6, w7] [wI xs0] σ = (if x5 = 0 then (if x4 < 0 then T196 d Q 85 [wO 10 121, wI x1, wI x2, wI x3, wI x4, wI x5, wI x6, wI xs0] [] σ else (if x4 = xs0 then T196 d Q 85 [wO 10 121, wI x1, wI x2, wI x3, wI x4, wI x5, wI x6, wI xs0] [] σ else T196 d Q 83 [wO 10 121, wI x1, wI x2, wI x3, wI x4, wI x5, wI x6, wI xs0] [] σ)) else T196 d Q 83 [wO 10 121, wI x1, wI x2, wI x3, wI x4, wI x5, wI x6, wI xs0] [] σ) := j3_T.go d [0, 2, 12, 35, 54, 75, 83, 85, 86, 89, 106, 142] 400
set_option maxRecDepth 100000 in
theorem b196_83 {d : Nat} {Q : j3_P} {σ : j3_S} {x1 : Int} {x2 : Int} {x3 : Int} {x4 : Int} {x5 : Int} {x6 : Int} {x7 : Int} :
  T196 d Q 83 [wO 10 121, wI x1, wI x2, wI x3, wI x4, wI x5, wI x6, wI x7] [] σ = T196 d Q 86 [wO 10 121, wI x1, wI x2, wI x3, wI x4, wI x5, wI x6, wI x7] [wI 1] σ := j3_T.go d [0, 2, 12, 35, 54, 75, 83, 85, 86, 89, 106, 142] 400
set_option maxRecDepth 100000 in
theorem b196_85 {d : Nat} {Q : j3_P} {σ : j3_S} {x1 : Int} {x2 : Int} {x3 : Int} {x4 : Int} {x5 : Int} {x6 : Int} {x7 : Int} :
  T196 d Q 85 [wO 10 121, wI x1, wI x2, wI x3, wI x4, wI x5, wI x6, wI x7] [] σ = T196 d Q 86 [wO 10 121, wI x1, wI x2, wI x3, wI x4, wI x5, wI x6, wI x7] [wI 0] σ := j3_T.go d [0, 2, 12, 35, 54, 75, 83, 85, 86, 89, 106, 142] 400
set_option maxRecDepth 100000 in
theorem b196_86 {d : Nat} {Q : j3_P} {σ : j3_S} {x1 : Int} {x2 : Int} {x3 : Int} {x4 : Int} {x5 : Int} {x6 : Int} {x7 : Int} {xs0 : Int} :
  T196 d Q 86 [wO 10 121, wI x1, wI x2, wI x3, wI x4, wI x5, wI x6, wI x7] [wI xs0] σ = T196 d Q 89 [wO 10 121, wI x1, wI x2, wI x3, wI x7, wI xs0, wI x6, wI x7] [] σ := j3_T.go d [0, 2, 12, 35, 54, 75, 83, 85, 86, 89, 106, 142] 400
set_option maxRecDepth 100000 in
theorem b196_89 {d : Nat} {Q : j3_P} {σ : j3_S} {x1 : Int} {x2 : Int} {x3 : Int} {x4 : Int} {x5 : Int} {x6 : Int} {w7 : j3_W} :
  T196 d Q 89 [wO 10 121, wI x1, wI x2, wI x3, wI x4, wI x5, wI x6, w7] [] σ = T196 d Q 35 [wO 10 121, wI x1, wI x2, wI x3, wI x4, wI x5, wI (wr (x6 + 1)), w7] [] σ := j3_T.go d [0, 2, 12, 35, 54, 75, 83, 85, 86, 89, 106, 142] 400
set_option maxRecDepth 100000 in
theorem b196_106 {d : Nat} {Q : j3_P} {σ : j3_S} {x1 : Int} {x2 : Int} {x3 : Int} {x4 : Int} {x5 : Int} {x6 : Int} {w7 : j3_W} {xs0 : Int} :
  T196 d Q 106 [wO 10 121, wI x1, wI x2, wI x3, wI x4, wI x5, wI x6, w7] [wI xs0] σ = (if xs0 = 0 then T196 d Q 142 [wO 10 121, wI x1, wI x2, wI x3, wI x4, wI x5, wI x6, w7] [] σ else ((0 ≤ x3 ∧ x3 < 28800) ∧ ((0 ≤ x4 ∧ x4 < 240) ∧ ((0 ≤ x3 ∧ x3 < 28800) ∧ ((0 ≤ x4 ∧ x4 < 240) ∧ ((0 ≤ (σ.2.2 10019 121 x4) ∧ (σ.2.2 10019 121 x4) < 30) ∧ ((0 ≤ x3 ∧ x3 < 28800) ∧ ((0 ≤ (0 : Int) ∧ (0 : Int) < 23) ∧ ((0 ≤ (0 : Int) ∧ (0 : Int) < 23) ∧ T196 d Q 142 [wO 10 121, wI x1, wI x2, wI x3, wI x4, wI x5, wI x6, w7] [] (σ.1, σ.2.1, (j3_ast (j3_ast (j3_ast (j3_ast σ.2.2 10027 121 x3 20) 10028 121 x3 (σ.2.2 10019 121 x4)) 10029 121 x3 (wr (x4 - (σ.2.2 10013 121 (σ.2.2 10019 121 x4))))) 10052 121 0 (wr ((σ.2.2 10052 121 0) + 1))))))))))))) := j3_T.go d [0, 2, 12, 35, 54, 75, 83, 85, 86, 89, 106, 142] 400
set_option maxRecDepth 100000 in
theorem b196_142 {d : Nat} {Q : j3_P} {σ : j3_S} {x1 : Int} {x2 : Int} {x3 : Int} {w4 : j3_W} {w5 : j3_W} {w6 : j3_W} {w7 : j3_W} :
  T196 d Q 142 [wO 10 121, wI x1, wI x2, wI x3, w4, w5, w6, w7] [] σ = T196 d Q 2 [wO 10 121, wI x1, wI (wr (x2 + 1)), wI x3, w4, w5, w6, w7] [] σ := j3_T.go d [0, 2, 12, 35, 54, 75, 83, 85, 86, 89, 106, 142] 400
def T197 (d : Nat) (Q : j3_P) : j3_K := j3_T true (j3_tc true d) jc_X10_isLeaf (some .boolean) Q
theorem e197 {d : Nat} {Q : j3_P} {σ : j3_S} {x1 : Int} {x2 : Int} : j3_tc true (d + 1) 197 [wO 10 121, wI x1, wI x2] σ Q = T197 d Q 0 [wO 10 121, wI x1, wI x2, wM 2, wM 2, wM 2] [] σ := j3_entry ⟨Nat.le_of_ble_eq_true rfl, rfl⟩
set_option maxRecDepth 100000 in
theorem b197_0 {d : Nat} {Q : j3_P} {σ : j3_S} {x1 : Int} {x2 : Int} :
  T197 d Q 0 [wO 10 121, wI x1, wI x2, wM 2, wM 2, wM 2] [] σ = ((0 ≤ x1 ∧ x1 < 240) ∧ ((0 ≤ x1 ∧ x1 < 240) ∧ (if (σ.2.2 10021 121 x1) = 0 then (((0 : Int) = 0 ∨ (0 : Int) = 1) ∧ Q (some (wI 0)) σ) else (if x2 < (σ.2.2 10026 121 x1) then (((0 : Int) = 0 ∨ (0 : Int) = 1) ∧ Q (some (wI 0)) σ) else j3_tc true d 160 [wI 0, wI x1, wI (wr ((σ.2.2 10026 121 x1) - 1))] σ (fun r σ1 => T197 d Q 21 [wO 10 121, wI x1, wI x2, wI (σ.2.2 10026 121 x1), wM 2, wM 2] (r.toList ++ [wA 10027 121]) σ1))))) := j3_T.go d [0, 21, 28, 39, 50, 58, 78] 400
set_option maxRecDepth 100000 in
theorem b197_21 {d : Nat} {Q : j3_P} {σ : j3_S} {x1 : Int} {x2 : Int} {x3 : Int} {xs0 : Int} :
  T197 d Q 21 [wO 10 121, wI x1, wI x2, wI x3, wM 2, wM 2] [wI xs0, wA 10027 121] σ = ((0 ≤ xs0 ∧ xs0 < 28800) ∧ (if (σ.2.2 10027 121 xs0) = (22 : Int) then T197 d Q 28 [wO 10 121, wI x1, wI x2, wI x3, wI 0, wM 2] [] σ else (((0 : Int) = 0 ∨ (0 : Int) = 1) ∧ Q (some (wI 0)) σ))) := j3_T.go d [0, 21, 28, 39, 50, 58, 78] 400
set_option maxRecDepth 100000 in
theorem b197_28 {d : Nat} {Q : j3_P} {σ : j3_S} {x1 : Int} {x2 : Int} {x3 : Int} {x4 : Int} {w5 : j3_W} :
  T197 d Q 28 [wO 10 121, wI x1, wI x2, wI x3, wI x4, w5] [] σ = (if x4 < (wr (x3 - 1)) then j3_tc true d 160 [wI 0, wI x1, wI x4] σ (fun r σ1 => T197 d Q 39 [wO 10 121, wI x1, wI x2, wI x3, wI x4, w5] (r.toList ++ [wA 10027 121]) σ1) else ((0 ≤ (wr ((wr ((wr (120 * x1)) + x3)) - 1)) ∧ (wr ((wr ((wr (120 * x1)) + x3)) - 1)) < 19200) ∧ ((0 ≤ x1 ∧ x1 < 240) ∧ (if 0 < (σ.2.2 10022 121 x1) then T197 d Q 78 [wO 10 121, wI x1, wI x2, wI x3, wI x4, w5] [wI 1, wI (σ.2.2 10036 121 (wr ((wr ((wr (120 * x1)) + x3)) - 1)))] σ else T197 d Q 78 [wO 10 121, wI x1, wI x2, wI x3, wI x4, w5] [wI 0, wI (σ.2.2 10036 121 (wr ((wr ((wr (120 * x1)) + x3)) - 1)))] σ)))) := j3_T.go d [0, 21, 28, 39, 50, 58, 78] 400
set_option maxRecDepth 100000 in
theorem b197_39 {d : Nat} {Q : j3_P} {σ : j3_S} {x1 : Int} {x2 : Int} {x3 : Int} {x4 : Int} {w5 : j3_W} {xs0 : Int} :
  T197 d Q 39 [wO 10 121, wI x1, wI x2, wI x3, wI x4, w5] [wI xs0, wA 10027 121] σ = ((0 ≤ xs0 ∧ xs0 < 28800) ∧ (if (10 : Int) < (σ.2.2 10027 121 xs0) then (if (σ.2.2 10027 121 xs0) < (15 : Int) then T197 d Q 50 [wO 10 121, wI x1, wI x2, wI x3, wI x4, wI (σ.2.2 10027 121 xs0)] [] σ else (if (19 : Int) < (σ.2.2 10027 121 xs0) then T197 d Q 50 [wO 10 121, wI x1, wI x2, wI x3, wI x4, wI (σ.2.2 10027 121 xs0)] [] σ else T197 d Q 58 [wO 10 121, wI x1, wI x2, wI x3, wI x4, wI (σ.2.2 10027 121 xs0)] [] σ)) else T197 d Q 58 [wO 10 121, wI x1, wI x2, wI x3, wI x4, wI (σ.2.2 10027 121 xs0)] [] σ)) := j3_T.go d [0, 21, 28, 39, 50, 58, 78] 400
set_option maxRecDepth 100000 in
theorem b197_50 {d : Nat} {Q : j3_P} {σ : j3_S} {x1 : Int} {x2 : Int} {x3 : Int} {x4 : Int} {x5 : Int} :
  T197 d Q 50 [wO 10 121, wI x1, wI x2, wI x3, wI x4, wI x5] [] σ = (if x5 < (23 : Int) then (((0 : Int) = 0 ∨ (0 : Int) = 1) ∧ Q (some (wI 0)) σ) else (if (25 : Int) < x5 then (((0 : Int) = 0 ∨ (0 : Int) = 1) ∧ Q (some (wI 0)) σ) else T197 d Q 58 [wO 10 121, wI x1, wI x2, wI x3, wI x4, wI x5] [] σ)) := j3_T.go d [0, 21, 28, 39, 50, 58, 78] 400
set_option maxRecDepth 100000 in
theorem b197_58 {d : Nat} {Q : j3_P} {σ : j3_S} {x1 : Int} {x2 : Int} {x3 : Int} {x4 : Int} {x5 : Int} :
  T197 d Q 58 [wO 10 121, wI x1, wI x2, wI x3, wI x4, wI x5] [] σ = T197 d Q 28 [wO 10 121, wI x1, wI x2, wI x3, wI (wr (x4 + 1)), wI x5] [] σ := j3_T.go d [0, 21, 28, 39, 50, 58, 78] 400
set_option maxRecDepth 100000 in
theorem b197_78 {d : Nat} {Q : j3_P} {σ : j3_S} {x1 : Int} {x2 : Int} {x3 : Int} {x4 : Int} {w5 : j3_W} {xs0 : Int} {xs1 : Int} :
  T197 d Q 78 [wO 10 121, wI x1, wI x2, wI x3, wI x4, w5] [wI xs0, wI xs1] σ = (if xs1 = xs0 then (((1 : Int) = 0 ∨ (1 : Int) = 1) ∧ Q (some (wI 1)) σ) else (((0 : Int) = 0 ∨ (0 : Int) = 1) ∧ Q (some (wI 0)) σ)) := j3_T.go d [0, 21, 28, 39, 50, 58, 78] 400
def T198 (d : Nat) (Q : j3_P) : j3_K := j3_T true (j3_tc true d) jc_X10_lay none Q
theorem e198 {d : Nat} {Q : j3_P} {σ : j3_S} {x1 : Int} {x2 : Int} {x3 : Int} {x4 : Int} {x5 : Int} {x6 : Int} {x7 : Int} : j3_tc true (d + 1) 198 [wO 10 121, wI x1, wI x2, wI x3, wI x4, wI x5, wI x6, wI x7] σ Q = T198 d Q 0 [wO 10 121, wI x1, wI x2, wI x3, wI x4, wI x5, wI x6, wI x7] [] σ := j3_entry ⟨Nat.le_of_ble_eq_true rfl, rfl⟩
set_option maxRecDepth 100000 in
theorem b198_0 {d : Nat} {Q : j3_P} {σ : j3_S} {x1 : Int} {x2 : Int} {x3 : Int} {x4 : Int} {x5 : Int} {x6 : Int} {x7 : Int} :
  T198 d Q 0 [wO 10 121, wI x1, wI x2, wI x3, wI x4, wI x5, wI x6, wI x7] [] σ = ((0 ≤ (σ.1 10061 121) ∧ (σ.1 10061 121) < 240) ∧ ((0 ≤ (σ.1 10061 121) ∧ (σ.1 10061 121) < 240) ∧ ((0 ≤ (σ.1 10061 121) ∧ (σ.1 10061 121) < 240) ∧ ((x4 = 0 ∨ x4 = 1) ∧ (0 ≤ (σ.1 10061 121) ∧ (σ.1 10061 121) < 240) ∧ ((0 ≤ (σ.1 10061 121) ∧ (σ.1 10061 121) < 240) ∧ ((0 ≤ (σ.1 10061 121) ∧ (σ.1 10061 121) < 240) ∧ ((0 ≤ (σ.1 10061 121) ∧ (σ.1 10061 121) < 240) ∧ Q none ((j3_up σ.1 10061 121 (wr ((σ.1 10061 121) + 1))), σ.2.1, (j3_ast (j3_ast (j3_ast (j3_ast (j3_ast (j3_ast (j3_ast σ.2.2 10053 121 (σ.1 10061 121) x1) 10054 121 (σ.1 10061 121) x2) 10055 121 (σ.1 10061 121) x3) 10059 121 (σ.1 10061 121) x4) 10056 121 (σ.1 10061 121) x5) 10057 121 (σ.1 10061 121) x6) 10058 121 (σ.1 10061 121) x7))))))))) := j3_T.go d [0] 400
def T199 (d : Nat) (Q : j3_P) : j3_K := j3_T true (j3_tc true d) jc_X10_putIn none Q
theorem e199 {d : Nat} {Q : j3_P} {σ : j3_S} {x1 : Int} {x2 : Int} : j3_tc true (d + 1) 199 [wO 10 121, wI x1, wI x2] σ Q = T199 d Q 0 [wO 10 121, wI x1, wI x2, wM 2, wM 2, wM 2, wM 2, wM 2] [] σ := j3_entry ⟨Nat.le_of_ble_eq_true rfl, rfl⟩
set_option maxRecDepth 100000 in
theorem b199_0 {d : Nat} {Q : j3_P} {σ : j3_S} {x1 : Int} {x2 : Int} :
  T199 d Q 0 [wO 10 121, wI x1, wI x2, wM 2, wM 2, wM 2, wM 2, wM 2] [] σ = ((0 ≤ (wr (160 + x1)) ∧ (wr (160 + x1)) < 240) ∧ T199 d Q 14 [wO 10 121, wI x1, wI x2, wI (σ.2.2 10026 121 (wr (160 + x1))), wI (σ.2.2 10026 121 (wr (160 + x1))), wI 0, wM 2, wM 2] [] ((j3_up σ.1 10061 121 0), σ.2.1, σ.2.2)) := j3_T.go d [0, 14, 21, 56, 57, 64, 71, 91, 100, 122, 126, 134, 156, 165, 169] 400
set_option maxRecDepth 100000 in
theorem b199_14 {d : Nat} {Q : j3_P} {σ : j3_S} {x1 : Int} {x2 : Int} {x3 : Int} {x4 : Int} {x5 : Int} {w6 : j3_W} {w7 : j3_W} :
  T199 d Q 14 [wO 10 121, wI x1, wI x2, wI x3, wI x4, wI x5, w6, w7] [] σ = (if x5 < x3 then j3_tc true d 160 [wI 2, wI x1, wI x5] σ (fun r σ1 => T199 d Q 21 [wO 10 121, wI x1, wI x2, wI x3, wI x4, wI x5, w6, w7] (r.toList ++ []) σ1) else T199 d Q 126 [wO 10 121, wI x1, wI x2, wI x3, wI x4, wI 0, w6, w7] [] σ) := j3_T.go d [0, 14, 21, 56, 57, 64, 71, 91, 100, 122, 126, 134, 156, 165, 169] 400
set_option maxRecDepth 100000 in
theorem b199_21 {d : Nat} {Q : j3_P} {σ : j3_S} {x1 : Int} {x2 : Int} {x3 : Int} {x4 : Int} {x5 : Int} {w6 : j3_W} {w7 : j3_W} {xs0 : Int} :
  T199 d Q 21 [wO 10 121, wI x1, wI x2, wI x3, wI x4, wI x5, w6, w7] [wI xs0] σ = ((0 ≤ x5 ∧ x5 < 121) ∧ ((0 ≤ xs0 ∧ xs0 < 28800) ∧ (if (σ.2.2 10027 121 xs0) = (20 : Int) then ((0 ≤ (wr ((wr (120 * x1)) + x5)) ∧ (wr ((wr (120 * x1)) + x5)) < 19200) ∧ (if (σ.2.2 10035 121 (wr ((wr (120 * x1)) + x5))) = 0 then T199 d Q 56 [wO 10 121, wI x1, wI x2, wI x3, wI x4, wI x5, wI xs0, w7] [] (σ.1, σ.2.1, (j3_ast σ.2.2 10060 121 x5 (σ.1 10061 121))) else ((0 ≤ xs0 ∧ xs0 < 28800) ∧ ((0 ≤ (σ.2.2 10028 121 xs0) ∧ (σ.2.2 10028 121 xs0) < 30) ∧ ((0 ≤ xs0 ∧ xs0 < 28800) ∧ T199 d Q 57 [wO 10 121, wI x1, wI x2, wI x3, wI x4, wI x5, wI xs0, w7] [wI (wr ((σ.2.2 10013 121 (σ.2.2 10028 121 xs0)) + (σ.2.2 10029 121 xs0)))] (σ.1, σ.2.1, (j3_ast σ.2.2 10060 121 x5 (σ.1 10061 121)))))))) else T199 d Q 56 [wO 10 121, wI x1, wI x2, wI x3, wI x4, wI x5, wI xs0, w7] [] (σ.1, σ.2.1, (j3_ast σ.2.2 10060 121 x5 (σ.1 10061 121)))))) := j3_T.go d [0, 14, 21, 56, 57, 64, 71, 91, 100, 122, 126, 134, 156, 165, 169] 400
set_option maxRecDepth 100000 in
theorem b199_56 {d : Nat} {Q : j3_P} {σ : j3_S} {x1 : Int} {x2 : Int} {x3 : Int} {x4 : Int} {x5 : Int} {x6 : Int} {w7 : j3_W} :
  T199 d Q 56 [wO 10 121, wI x1, wI x2, wI x3, wI x4, wI x5, wI x6, w7] [] σ = T199 d Q 57 [wO 10 121, wI x1, wI x2, wI x3, wI x4, wI x5, wI x6, w7] [wI (-1)] σ := j3_T.go d [0, 14, 21, 56, 57, 64, 71, 91, 100, 122, 126, 134, 156, 165, 169] 400
set_option maxRecDepth 100000 in
theorem b199_57 {d : Nat} {Q : j3_P} {σ : j3_S} {x1 : Int} {x2 : Int} {x3 : Int} {x4 : Int} {x5 : Int} {x6 : Int} {w7 : j3_W} {xs0 : Int} :
  T199 d Q 57 [wO 10 121, wI x1, wI x2, wI x3, wI x4, wI x5, wI x6, w7] [wI xs0] σ = (if xs0 < 0 then T199 d Q 100 [wO 10 121, wI x1, wI x2, wI x3, wI x4, wI x5, wI x6, wI xs0] [] σ else j3_tc true d 197 [wO 10 121, wI xs0, wI x2] σ (fun r σ1 => T199 d Q 64 [wO 10 121, wI x1, wI x2, wI x3, wI x4, wI x5, wI x6, wI xs0] (r.toList ++ []) σ1)) := j3_T.go d [0, 14, 21, 56, 57, 64, 71, 91, 100, 122, 126, 134, 156, 165, 169] 400
set_option maxRecDepth 100000 in
theorem b199_64 {d : Nat} {Q : j3_P} {σ : j3_S} {x1 : Int} {x2 : Int} {x3 : Int} {x4 : Int} {x5 : Int} {x6 : Int} {x7 : Int} {xs0 : Int} :
  T199 d Q 64 [wO 10 121, wI x1, wI x2, wI x3, wI x4, wI x5, wI x6, wI x7] [wI xs0] σ = (if xs0 = 0 then T199 d Q 100 [wO 10 121, wI x1, wI x2, wI x3, wI x4, wI x5, wI x6, wI x7] [] σ else j3_tc true d 200 [wO 10 121, wI x1, wI x5, wI x7, wI x4] σ (fun r σ1 => T199 d Q 71 [wO 10 121, wI x1, wI x2, wI x3, wI x4, wI x5, wI x6, wI x7] (r.toList ++ []) σ1)) := j3_T.go d [0, 14, 21, 56, 57, 64, 71, 91, 100, 122, 126, 134, 156, 165, 169] 400
set_option maxRecDepth 100000 in
theorem b199_71 {d : Nat} {Q : j3_P} {σ : j3_S} {x1 : Int} {x2 : Int} {x3 : Int} {x4 : Int} {x5 : Int} {x6 : Int} {x7 : Int} {xs0 : Int} :
  T199 d Q 71 [wO 10 121, wI x1, wI x2, wI x3, wI x4, wI x5, wI x6, wI x7] [wI xs0] σ = (if xs0 = 0 then T199 d Q 100 [wO 10 121, wI x1, wI x2, wI x3, wI x4, wI x5, wI x6, wI x7] [] σ else ((0 ≤ x7 ∧ x7 < 240) ∧ ((0 ≤ x7 ∧ x7 < 240) ∧ j3_tc true d 201 [wO 10 121, wI x1, wI x5, wI x7] σ (fun r σ1 => T199 d Q 91 [wO 10 121, wI x1, wI x2, wI x3, wI (wr (x4 + (wr ((wr ((σ.2.2 10023 121 x7) + (σ.2.2 10026 121 x7))) - 2)))), wI x5, wI x6, wI x7] (r.toList ++ []) σ1)))) := j3_T.go d [0, 14, 21, 56, 57, 64, 71, 91, 100, 122, 126, 134, 156, 165, 169] 400
set_option maxRecDepth 100000 in
theorem b199_91 {d : Nat} {Q : j3_P} {σ : j3_S} {x1 : Int} {x2 : Int} {x3 : Int} {x4 : Int} {x5 : Int} {x6 : Int} {x7 : Int} :
  T199 d Q 91 [wO 10 121, wI x1, wI x2, wI x3, wI x4, wI x5, wI x6, wI x7] [] σ = ((0 ≤ (1 : Int) ∧ (1 : Int) < 23) ∧ ((0 ≤ (1 : Int) ∧ (1 : Int) < 23) ∧ T199 d Q 122 [wO 10 121, wI x1, wI x2, wI x3, wI x4, wI x5, wI x6, wI x7] [] (σ.1, σ.2.1, (j3_ast σ.2.2 10052 121 1 (wr ((σ.2.2 10052 121 1) + 1)))))) := j3_T.go d [0, 14, 21, 56, 57, 64, 71, 91, 100, 122, 126, 134, 156, 165, 169] 400
set_option maxRecDepth 100000 in
theorem b199_100 {d : Nat} {Q : j3_P} {σ : j3_S} {x1 : Int} {x2 : Int} {x3 : Int} {x4 : Int} {x5 : Int} {x6 : Int} {x7 : Int} :
  T199 d Q 100 [wO 10 121, wI x1, wI x2, wI x3, wI x4, wI x5, wI x6, wI x7] [] σ = ((0 ≤ x6 ∧ x6 < 28800) ∧ ((0 ≤ x6 ∧ x6 < 28800) ∧ ((0 ≤ x6 ∧ x6 < 28800) ∧ j3_tc true d 198 [wO 10 121, wI (σ.2.2 10027 121 x6), wI (σ.2.2 10028 121 x6), wI (σ.2.2 10029 121 x6), wI 1, wI 1, wI (wr ((wr (1000 * x1)) + x5)), wI 0] σ (fun r σ1 => T199 d Q 122 [wO 10 121, wI x1, wI x2, wI x3, wI x4, wI x5, wI x6, wI x7] (r.toList ++ []) σ1)))) := j3_T.go d [0, 14, 21, 56, 57, 64, 71, 91, 100, 122, 126, 134, 156, 165, 169] 400
set_option maxRecDepth 100000 in
theorem b199_122 {d : Nat} {Q : j3_P} {σ : j3_S} {x1 : Int} {x2 : Int} {x3 : Int} {x4 : Int} {x5 : Int} {x6 : Int} {x7 : Int} :
  T199 d Q 122 [wO 10 121, wI x1, wI x2, wI x3, wI x4, wI x5, wI x6, wI x7] [] σ = T199 d Q 14 [wO 10 121, wI x1, wI x2, wI x3, wI x4, wI (wr (x5 + 1)), wI x6, wI x7] [] σ := j3_T.go d [0, 14, 21, 56, 57, 64, 71, 91, 100, 122, 126, 134, 156, 165, 169] 400
set_option maxRecDepth 100000 in
theorem b199_126 {d : Nat} {Q : j3_P} {σ : j3_S} {x1 : Int} {x2 : Int} {x3 : Int} {x4 : Int} {x5 : Int} {w6 : j3_W} {w7 : j3_W} :
  T199 d Q 126 [wO 10 121, wI x1, wI x2, wI x3, wI x4, wI x5, w6, w7] [] σ = (if x5 < (σ.1 10061 121) then j3_tc true d 160 [wI 2, wI x1, wI x5] σ (fun r σ1 => T199 d Q 134 [wO 10 121, wI x1, wI x2, wI x3, wI x4, wI x5, w6, w7] (r.toList ++ []) σ1) else ((0 ≤ (wr (160 + x1)) ∧ (wr (160 + x1)) < 240) ∧ Q none (σ.1, σ.2.1, (j3_ast σ.2.2 10026 121 (wr (160 + x1)) (σ.1 10061 121))))) := j3_T.go d [0, 14, 21, 56, 57, 64, 71, 91, 100, 122, 126, 134, 156, 165, 169] 400
set_option maxRecDepth 100000 in
theorem b199_134 {d : Nat} {Q : j3_P} {σ : j3_S} {x1 : Int} {x2 : Int} {x3 : Int} {x4 : Int} {x5 : Int} {w6 : j3_W} {w7 : j3_W} {xs0 : Int} :
  T199 d Q 134 [wO 10 121, wI x1, wI x2, wI x3, wI x4, wI x5, w6, w7] [wI xs0] σ = ((0 ≤ x5 ∧ x5 < 240) ∧ ((0 ≤ xs0 ∧ xs0 < 28800) ∧ ((0 ≤ x5 ∧ x5 < 240) ∧ (if (σ.2.2 10059 121 x5) = 0 then T199 d Q 165 [wO 10 121, wI x1, wI x2, wI x3, wI x4, wI x5, wI xs0, w7] [wI xs0, wA 10028 121] (σ.1, σ.2.1, (j3_ast σ.2.2 10027 121 xs0 (σ.2.2 10053 121 x5))) else ((0 ≤ x5 ∧ x5 < 240) ∧ j3_tc true d 164 [wI (σ.2.2 10053 121 x5)] (σ.1, σ.2.1, (j3_ast σ.2.2 10027 121 xs0 (σ.2.2 10053 121 x5))) (fun r σ1 => T199 d Q 156 [wO 10 121, wI x1, wI x2, wI x3, wI x4, wI x5, wI xs0, w7] (r.toList ++ [wI xs0, wA 10028 121]) σ1)))))) := j3_T.go d [0, 14, 21, 56, 57, 64, 71, 91, 100, 122, 126, 134, 156, 165, 169] 400
set_option maxRecDepth 100000 in
theorem b199_156 {d : Nat} {Q : j3_P} {σ : j3_S} {x1 : Int} {x2 : Int} {x3 : Int} {x4 : Int} {x5 : Int} {x6 : Int} {w7 : j3_W} {xs0 : Int} {xs1 : Int} :
  T199 d Q 156 [wO 10 121, wI x1, wI x2, wI x3, wI x4, wI x5, wI x6, w7] [wI xs0, wI xs1, wA 10028 121] σ = (if xs0 = 0 then T199 d Q 165 [wO 10 121, wI x1, wI x2, wI x3, wI x4, wI x5, wI x6, w7] [wI xs1, wA 10028 121] σ else ((0 ≤ x5 ∧ x5 < 240) ∧ ((0 ≤ (σ.2.2 10054 121 x5) ∧ (σ.2.2 10054 121 x5) < 121) ∧ T199 d Q 169 [wO 10 121, wI x1, wI x2, wI x3, wI x4, wI x5, wI x6, w7] [wI (σ.2.2 10060 121 (σ.2.2 10054 121 x5)), wI xs1, wA 10028 121] σ))) := j3_T.go d [0, 14, 21, 56, 57, 64, 71, 91, 100, 122, 126, 134, 156, 165, 169] 400
set_option maxRecDepth 100000 in
theorem b199_165 {d : Nat} {Q : j3_P} {σ : j3_S} {x1 : Int} {x2 : Int} {x3 : Int} {x4 : Int} {x5 : Int} {x6 : Int} {w7 : j3_W} {xs0 : Int} :
  T199 d Q 165 [wO 10 121, wI x1, wI x2, wI x3, wI x4, wI x5, wI x6, w7] [wI xs0, wA 10028 121] σ = ((0 ≤ x5 ∧ x5 < 240) ∧ T199 d Q 169 [wO 10 121, wI x1, wI x2, wI x3, wI x4, wI x5, wI x6, w7] [wI (σ.2.2 10054 121 x5), wI xs0, wA 10028 121] σ) := j3_T.go d [0, 14, 21, 56, 57, 64, 71, 91, 100, 122, 126, 134, 156, 165, 169] 400
set_option maxRecDepth 100000 in
theorem b199_169 {d : Nat} {Q : j3_P} {σ : j3_S} {x1 : Int} {x2 : Int} {x3 : Int} {x4 : Int} {x5 : Int} {x6 : Int} {w7 : j3_W} {xs0 : Int} {xs1 : Int} :
  T199 d Q 169 [wO 10 121, wI x1, wI x2, wI x3, wI x4, wI x5, wI x6, w7] [wI xs0, wI xs1, wA 10028 121] σ = ((0 ≤ xs1 ∧ xs1 < 28800) ∧ ((0 ≤ x5 ∧ x5 < 240) ∧ ((0 ≤ x6 ∧ x6 < 28800) ∧ ((0 ≤ x5 ∧ x5 < 240) ∧ ((0 ≤ x6 ∧ x6 < 28800) ∧ ((0 ≤ x5 ∧ x5 < 240) ∧ ((0 ≤ x6 ∧ x6 < 28800) ∧ ((0 ≤ x5 ∧ x5 < 240) ∧ ((0 ≤ x6 ∧ x6 < 28800) ∧ T199 d Q 126 [wO 10 121, wI x1, wI x2, wI x3, wI x4, wI (wr (x5 + 1)), wI x6, w7] [] (σ.1, σ.2.1, (j3_ast (j3_ast (j3_ast (j3_ast (j3_ast σ.2.2 10028 121 xs1 xs0) 10029 121 x6 (σ.2.2 10055 121 x5)) 10030 121 x6 (σ.2.2 10056 121 x5)) 10031 121 x6 (σ.2.2 10057 121 x5)) 10032 121 x6 (σ.2.2 10058 121 x5)))))))))))) := j3_T.go d [0, 14, 21, 56, 57, 64, 71, 91, 100, 122, 126, 134, 156, 165, 169] 400
def T200 (d : Nat) (Q : j3_P) : j3_K := j3_T true (j3_tc true d) jc_X10_hasRoom (some .boolean) Q
theorem e200 {d : Nat} {Q : j3_P} {σ : j3_S} {x1 : Int} {x2 : Int} {x3 : Int} {x4 : Int} : j3_tc true (d + 1) 200 [wO 10 121, wI x1, wI x2, wI x3, wI x4] σ Q = T200 d Q 0 [wO 10 121, wI x1, wI x2, wI x3, wI x4, wM 2, wM 2, wM 2] [] σ := j3_entry ⟨Nat.le_of_ble_eq_true rfl, rfl⟩
set_option maxRecDepth 100000 in
theorem b200_0 {d : Nat} {Q : j3_P} {σ : j3_S} {x1 : Int} {x2 : Int} {x3 : Int} {x4 : Int} :
  T200 d Q 0 [wO 10 121, wI x1, wI x2, wI x3, wI x4, wM 2, wM 2, wM 2] [] σ = ((0 ≤ (wr (160 + x1)) ∧ (wr (160 + x1)) < 240) ∧ ((0 ≤ x3 ∧ x3 < 240) ∧ (if (20 : Int) < (wr ((σ.2.2 10025 121 (wr (160 + x1))) + (σ.2.2 10025 121 x3))) then (((0 : Int) = 0 ∨ (0 : Int) = 1) ∧ Q (some (wI 0)) σ) else ((0 ≤ x3 ∧ x3 < 240) ∧ ((0 ≤ x3 ∧ x3 < 240) ∧ (if (120 : Int) < (wr ((wr ((wr (x4 + (σ.2.2 10023 121 x3))) + (σ.2.2 10026 121 x3))) - 2)) then (((0 : Int) = 0 ∨ (0 : Int) = 1) ∧ Q (some (wI 0)) σ) else ((0 ≤ (wr ((wr (120 * x1)) + x2)) ∧ (wr ((wr (120 * x1)) + x2)) < 19200) ∧ ((0 ≤ x3 ∧ x3 < 240) ∧ T200 d Q 48 [wO 10 121, wI x1, wI x2, wI x3, wI x4, wI (wr ((σ.2.2 10036 121 (wr ((wr (120 * x1)) + x2))) - (σ.2.2 10023 121 x3))), wI 1, wI 0] [] σ)))))))) := j3_T.go d [0, 48, 70, 71] 400
set_option maxRecDepth 100000 in
theorem b200_48 {d : Nat} {Q : j3_P} {σ : j3_S} {x1 : Int} {x2 : Int} {x3 : Int} {x4 : Int} {x5 : Int} {x6 : Int} {x7 : Int} :
  T200 d Q 48 [wO 10 121, wI x1, wI x2, wI x3, wI x4, wI x5, wI x6, wI x7] [] σ = ((0 ≤ x3 ∧ x3 < 240) ∧ (if x7 < (σ.2.2 10026 121 x3) then (if x6 = 0 then T200 d Q 70 [wO 10 121, wI x1, wI x2, wI x3, wI x4, wI x5, wI x6, wI x7] [] σ else ((0 ≤ (wr ((wr (120 * x3)) + x7)) ∧ (wr ((wr (120 * x3)) + x7)) < 19200) ∧ (if (10 : Int) < (wr (x5 + (σ.2.2 10036 121 (wr ((wr (120 * x3)) + x7))))) then T200 d Q 70 [wO 10 121, wI x1, wI x2, wI x3, wI x4, wI x5, wI x6, wI x7] [] σ else T200 d Q 71 [wO 10 121, wI x1, wI x2, wI x3, wI x4, wI x5, wI x6, wI x7] [wI 1] σ))) else ((x6 = 0 ∨ x6 = 1) ∧ Q (some (wI x6)) σ))) := j3_T.go d [0, 48, 70, 71] 400
set_option maxRecDepth 100000 in
theorem b200_70 {d : Nat} {Q : j3_P} {σ : j3_S} {x1 : Int} {x2 : Int} {x3 : Int} {x4 : Int} {x5 : Int} {x6 : Int} {x7 : Int} :
  T200 d Q 70 [wO 10 121, wI x1, wI x2, wI x3, wI x4, wI x5, wI x6, wI x7] [] σ = T200 d Q 71 [wO 10 121, wI x1, wI x2, wI x3, wI x4, wI x5, wI x6, wI x7] [wI 0] σ := j3_T.go d [0, 48, 70, 71] 400
set_option maxRecDepth 100000 in
theorem b200_71 {d : Nat} {Q : j3_P} {σ : j3_S} {x1 : Int} {x2 : Int} {x3 : Int} {x4 : Int} {x5 : Int} {x6 : Int} {x7 : Int} {xs0 : Int} :
  T200 d Q 71 [wO 10 121, wI x1, wI x2, wI x3, wI x4, wI x5, wI x6, wI x7] [wI xs0] σ = T200 d Q 48 [wO 10 121, wI x1, wI x2, wI x3, wI x4, wI x5, wI xs0, wI (wr (x7 + 1))] [] σ := j3_T.go d [0, 48, 70, 71] 400
def T201 (d : Nat) (Q : j3_P) : j3_K := j3_T true (j3_tc true d) jc_X10_putLeaf none Q
theorem e201 {d : Nat} {Q : j3_P} {σ : j3_S} {x1 : Int} {x2 : Int} {x3 : Int} : j3_tc true (d + 1) 201 [wO 10 121, wI x1, wI x2, wI x3] σ Q = T201 d Q 0 [wO 10 121, wI x1, wI x2, wI x3, wM 2, wM 2, wM 2, wM 2] [] σ := j3_entry ⟨Nat.le_of_ble_eq_true rfl, rfl⟩
set_option maxRecDepth 100000 in
theorem b201_0 {d : Nat} {Q : j3_P} {σ : j3_S} {x1 : Int} {x2 : Int} {x3 : Int} :
  T201 d Q 0 [wO 10 121, wI x1, wI x2, wI x3, wM 2, wM 2, wM 2, wM 2] [] σ = ((0 ≤ (wr (160 + x1)) ∧ (wr (160 + x1)) < 240) ∧ ((0 ≤ x3 ∧ x3 < 240) ∧ T201 d Q 14 [wO 10 121, wI x1, wI x2, wI x3, wI (σ.2.2 10025 121 (wr (160 + x1))), wI (wr ((σ.2.2 10023 121 x3) - 1)), wM 2, wM 2] [] σ)) := j3_T.go d [0, 14, 31, 35, 47, 60, 63, 78, 96] 400
set_option maxRecDepth 100000 in
theorem b201_14 {d : Nat} {Q : j3_P} {σ : j3_S} {x1 : Int} {x2 : Int} {x3 : Int} {x4 : Int} {x5 : Int} :
  T201 d Q 14 [wO 10 121, wI x1, wI x2, wI x3, wI x4, wI x5, wM 2, wM 2] [] σ = (if x5 < 0 then T201 d Q 35 [wO 10 121, wI x1, wI x2, wI x3, wI x4, wI 0, wM 2, wM 2] [] σ else j3_tc true d 198 [wO 10 121, wI 3, wI (wr (x4 + x5)), wI 0, wI 0, wI 1, wI (wr ((wr (1000 * x1)) + x2)), wI 0] σ (fun r σ1 => T201 d Q 31 [wO 10 121, wI x1, wI x2, wI x3, wI x4, wI x5, wM 2, wM 2] (r.toList ++ []) σ1)) := j3_T.go d [0, 14, 31, 35, 47, 60, 63, 78, 96] 400
set_option maxRecDepth 100000 in
theorem b201_31 {d : Nat} {Q : j3_P} {σ : j3_S} {x1 : Int} {x2 : Int} {x3 : Int} {x4 : Int} {x5 : Int} :
  T201 d Q 31 [wO 10 121, wI x1, wI x2, wI x3, wI x4, wI x5, wM 2, wM 2] [] σ = T201 d Q 14 [wO 10 121, wI x1, wI x2, wI x3, wI x4, wI (wr (x5 + (-1))), wM 2, wM 2] [] σ := j3_T.go d [0, 14, 31, 35, 47, 60, 63, 78, 96] 400
set_option maxRecDepth 100000 in
theorem b201_35 {d : Nat} {Q : j3_P} {σ : j3_S} {x1 : Int} {x2 : Int} {x3 : Int} {x4 : Int} {x5 : Int} {w6 : j3_W} {w7 : j3_W} :
  T201 d Q 35 [wO 10 121, wI x1, wI x2, wI x3, wI x4, wI x5, w6, w7] [] σ = ((0 ≤ x3 ∧ x3 < 240) ∧ (if x5 < (wr ((σ.2.2 10026 121 x3) - 1)) then j3_tc true d 160 [wI 0, wI x3, wI x5] σ (fun r σ1 => T201 d Q 47 [wO 10 121, wI x1, wI x2, wI x3, wI x4, wI x5, w6, w7] (r.toList ++ []) σ1) else ((0 ≤ (wr (160 + x1)) ∧ (wr (160 + x1)) < 240) ∧ ((0 ≤ x3 ∧ x3 < 240) ∧ ((0 ≤ (wr (160 + x1)) ∧ (wr (160 + x1)) < 240) ∧ Q none (σ.1, σ.2.1, (j3_ast σ.2.2 10025 121 (wr (160 + x1)) (wr ((σ.2.2 10025 121 (wr (160 + x1))) + (σ.2.2 10025 121 x3)))))))))) := j3_T.go d [0, 14, 31, 35, 47, 60, 63, 78, 96] 400
set_option maxRecDepth 100000 in
theorem b201_47 {d : Nat} {Q : j3_P} {σ : j3_S} {x1 : Int} {x2 : Int} {x3 : Int} {x4 : Int} {x5 : Int} {w6 : j3_W} {w7 : j3_W} {xs0 : Int} :
  T201 d Q 47 [wO 10 121, wI x1, wI x2, wI x3, wI x4, wI x5, w6, w7] [wI xs0] σ = ((0 ≤ xs0 ∧ xs0 < 28800) ∧ (if (σ.2.2 10027 121 xs0) = (2 : Int) then T201 d Q 60 [wO 10 121, wI x1, wI x2, wI x3, wI x4, wI x5, wI xs0, w7] [] σ else ((0 ≤ xs0 ∧ xs0 < 28800) ∧ (if (σ.2.2 10027 121 xs0) = (3 : Int) then T201 d Q 60 [wO 10 121, wI x1, wI x2, wI x3, wI x4, wI x5, wI xs0, w7] [] σ else T201 d Q 63 [wO 10 121, wI x1, wI x2, wI x3, wI x4, wI x5, wI xs0, w7] [wI 0] σ)))) := j3_T.go d [0, 14, 31, 35, 47, 60, 63, 78, 96] 400
set_option maxRecDepth 100000 in
theorem b201_60 {d : Nat} {Q : j3_P} {σ : j3_S} {x1 : Int} {x2 : Int} {x3 : Int} {x4 : Int} {x5 : Int} {x6 : Int} {w7 : j3_W} :
  T201 d Q 60 [wO 10 121, wI x1, wI x2, wI x3, wI x4, wI x5, wI x6, w7] [] σ = T201 d Q 63 [wO 10 121, wI x1, wI x2, wI x3, wI x4, wI x5, wI x6, w7] [wI 1] σ := j3_T.go d [0, 14, 31, 35, 47, 60, 63, 78, 96] 400
set_option maxRecDepth 100000 in
theorem b201_63 {d : Nat} {Q : j3_P} {σ : j3_S} {x1 : Int} {x2 : Int} {x3 : Int} {x4 : Int} {x5 : Int} {x6 : Int} {w7 : j3_W} {xs0 : Int} :
  T201 d Q 63 [wO 10 121, wI x1, wI x2, wI x3, wI x4, wI x5, wI x6, w7] [wI xs0] σ = ((0 ≤ x6 ∧ x6 < 28800) ∧ ((0 ≤ x6 ∧ x6 < 28800) ∧ (if xs0 = 0 then T201 d Q 78 [wO 10 121, wI x1, wI x2, wI x3, wI x4, wI x5, wI x6, wI xs0] [wI 0, wI (σ.2.2 10028 121 x6), wI (σ.2.2 10027 121 x6), wO 10 121] σ else T201 d Q 78 [wO 10 121, wI x1, wI x2, wI x3, wI x4, wI x5, wI x6, wI xs0] [wI x4, wI (σ.2.2 10028 121 x6), wI (σ.2.2 10027 121 x6), wO 10 121] σ))) := j3_T.go d [0, 14, 31, 35, 47, 60, 63, 78, 96] 400
set_option maxRecDepth 100000 in
theorem b201_78 {d : Nat} {Q : j3_P} {σ : j3_S} {x1 : Int} {x2 : Int} {x3 : Int} {x4 : Int} {x5 : Int} {x6 : Int} {x7 : Int} {xs0 : Int} {xs1 : Int} {xs2 : Int} :
  T201 d Q 78 [wO 10 121, wI x1, wI x2, wI x3, wI x4, wI x5, wI x6, wI x7] [wI xs0, wI xs1, wI xs2, wO 10 121] σ = ((0 ≤ x6 ∧ x6 < 28800) ∧ j3_tc true d 198 [wO 10 121, wI xs2, wI (wr (xs1 + xs0)), wI (σ.2.2 10029 121 x6), wI 0, wI 2, wI (wr ((wr (1000 * x3)) + x5)), wI (wr ((wr (1000 * x1)) + x2))] σ (fun r σ1 => T201 d Q 96 [wO 10 121, wI x1, wI x2, wI x3, wI x4, wI x5, wI x6, wI x7] (r.toList ++ []) σ1)) := j3_T.go d [0, 14, 31, 35, 47, 60, 63, 78, 96] 400
set_option maxRecDepth 100000 in
theorem b201_96 {d : Nat} {Q : j3_P} {σ : j3_S} {x1 : Int} {x2 : Int} {x3 : Int} {x4 : Int} {x5 : Int} {x6 : Int} {x7 : Int} :
  T201 d Q 96 [wO 10 121, wI x1, wI x2, wI x3, wI x4, wI x5, wI x6, wI x7] [] σ = T201 d Q 35 [wO 10 121, wI x1, wI x2, wI x3, wI x4, wI (wr (x5 + 1)), wI x6, wI x7] [] σ := j3_T.go d [0, 14, 31, 35, 47, 60, 63, 78, 96] 400
def T202 (d : Nat) (Q : j3_P) : j3_K := j3_T true (j3_tc true d) jc_X10_survey none Q
theorem e202 {d : Nat} {Q : j3_P} {σ : j3_S}  : j3_tc true (d + 1) 202 [wO 10 121] σ Q = T202 d Q 0 [wO 10 121, wM 2, wM 2] [] σ := j3_entry ⟨Nat.le_of_ble_eq_true rfl, rfl⟩
set_option maxRecDepth 100000 in
theorem b202_0 {d : Nat} {Q : j3_P} {σ : j3_S}  :
  T202 d Q 0 [wO 10 121, wM 2, wM 2] [] σ = T202 d Q 2 [wO 10 121, wI 0, wM 2] [] σ := j3_T.go d [0, 2, 19, 31, 43, 55, 75, 83, 120, 122, 132] 400
set_option maxRecDepth 100000 in
theorem b202_2 {d : Nat} {Q : j3_P} {σ : j3_S} {x1 : Int} :
  T202 d Q 2 [wO 10 121, wI x1, wM 2] [] σ = (if x1 < (120 : Int) then (((0 : Int) = 0 ∨ (0 : Int) = 1) ∧ (0 ≤ x1 ∧ x1 < 120) ∧ (((0 : Int) = 0 ∨ (0 : Int) = 1) ∧ (0 ≤ x1 ∧ x1 < 120) ∧ T202 d Q 2 [wO 10 121, wI (wr (x1 + 1)), wM 2] [] (σ.1, σ.2.1, (j3_ast (j3_ast σ.2.2 10064 121 x1 0) 10065 121 x1 0)))) else T202 d Q 19 [wO 10 121, wI 0, wM 2] [] σ) := j3_T.go d [0, 2, 19, 31, 43, 55, 75, 83, 120, 122, 132] 400
set_option maxRecDepth 100000 in
theorem b202_19 {d : Nat} {Q : j3_P} {σ : j3_S} {x1 : Int} :
  T202 d Q 19 [wO 10 121, wI x1, wM 2] [] σ = (if x1 < (20 : Int) then (((0 : Int) = 0 ∨ (0 : Int) = 1) ∧ (0 ≤ x1 ∧ x1 < 20) ∧ T202 d Q 19 [wO 10 121, wI (wr (x1 + 1)), wM 2] [] (σ.1, σ.2.1, (j3_ast σ.2.2 10066 121 x1 0))) else T202 d Q 31 [wO 10 121, wI 0, wM 2] [] σ) := j3_T.go d [0, 2, 19, 31, 43, 55, 75, 83, 120, 122, 132] 400
set_option maxRecDepth 100000 in
theorem b202_31 {d : Nat} {Q : j3_P} {σ : j3_S} {x1 : Int} :
  T202 d Q 31 [wO 10 121, wI x1, wM 2] [] σ = (if x1 < (σ.1 10063 121) then ((0 ≤ (wr ((σ.1 10062 121) + x1)) ∧ (wr ((σ.1 10062 121) + x1)) < 28800) ∧ j3_tc true d 164 [wI (σ.2.2 10027 121 (wr ((σ.1 10062 121) + x1)))] σ (fun r σ1 => T202 d Q 43 [wO 10 121, wI x1, wM 2] (r.toList ++ []) σ1)) else j3_tc true d 203 [wO 10 121, wI 0] ((j3_up σ.1 10068 121 0), σ.2.1, σ.2.2) (fun r σ1 => T202 d Q 83 [wO 10 121, wI x1, wM 2] (r.toList ++ []) σ1)) := j3_T.go d [0, 2, 19, 31, 43, 55, 75, 83, 120, 122, 132] 400
set_option maxRecDepth 100000 in
theorem b202_43 {d : Nat} {Q : j3_P} {σ : j3_S} {x1 : Int} {xs0 : Int} :
  T202 d Q 43 [wO 10 121, wI x1, wM 2] [wI xs0] σ = (if xs0 = 0 then T202 d Q 55 [wO 10 121, wI x1, wM 2] [] σ else ((0 ≤ (wr ((σ.1 10062 121) + x1)) ∧ (wr ((σ.1 10062 121) + x1)) < 28800) ∧ (((1 : Int) = 0 ∨ (1 : Int) = 1) ∧ (0 ≤ (σ.2.2 10028 121 (wr ((σ.1 10062 121) + x1))) ∧ (σ.2.2 10028 121 (wr ((σ.1 10062 121) + x1))) < 120) ∧ T202 d Q 55 [wO 10 121, wI x1, wM 2] [] (σ.1, σ.2.1, (j3_ast σ.2.2 10065 121 (σ.2.2 10028 121 (wr ((σ.1 10062 121) + x1))) 1))))) := j3_T.go d [0, 2, 19, 31, 43, 55, 75, 83, 120, 122, 132] 400
set_option maxRecDepth 100000 in
theorem b202_55 {d : Nat} {Q : j3_P} {σ : j3_S} {x1 : Int} :
  T202 d Q 55 [wO 10 121, wI x1, wM 2] [] σ = ((0 ≤ (wr ((σ.1 10062 121) + x1)) ∧ (wr ((σ.1 10062 121) + x1)) < 28800) ∧ (if (σ.2.2 10027 121 (wr ((σ.1 10062 121) + x1))) = (2 : Int) then ((0 ≤ (wr ((σ.1 10062 121) + x1)) ∧ (wr ((σ.1 10062 121) + x1)) < 28800) ∧ (((1 : Int) = 0 ∨ (1 : Int) = 1) ∧ (0 ≤ (σ.2.2 10028 121 (wr ((σ.1 10062 121) + x1))) ∧ (σ.2.2 10028 121 (wr ((σ.1 10062 121) + x1))) < 20) ∧ T202 d Q 75 [wO 10 121, wI x1, wM 2] [] (σ.1, σ.2.1, (j3_ast σ.2.2 10066 121 (σ.2.2 10028 121 (wr ((σ.1 10062 121) + x1))) 1)))) else T202 d Q 75 [wO 10 121, wI x1, wM 2] [] σ)) := j3_T.go d [0, 2, 19, 31, 43, 55, 75, 83, 120, 122, 132] 400
set_option maxRecDepth 100000 in
theorem b202_75 {d : Nat} {Q : j3_P} {σ : j3_S} {x1 : Int} :
  T202 d Q 75 [wO 10 121, wI x1, wM 2] [] σ = T202 d Q 31 [wO 10 121, wI (wr (x1 + 1)), wM 2] [] σ := j3_T.go d [0, 2, 19, 31, 43, 55, 75, 83, 120, 122, 132] 400
set_option maxRecDepth 100000 in
theorem b202_83 {d : Nat} {Q : j3_P} {σ : j3_S} {x1 : Int} {w2 : j3_W} :
  T202 d Q 83 [wO 10 121, wI x1, w2] [] σ = (if 0 < (σ.1 10068 121) then ((0 ≤ (wr ((σ.1 10068 121) - 1)) ∧ (wr ((σ.1 10068 121) - 1)) < 120) ∧ ((0 ≤ (wr ((σ.1 10062 121) + (σ.2.2 10067 121 (wr ((σ.1 10068 121) - 1))))) ∧ (wr ((σ.1 10062 121) + (σ.2.2 10067 121 (wr ((σ.1 10068 121) - 1))))) < 28800) ∧ (if (σ.2.2 10027 121 (wr ((σ.1 10062 121) + (σ.2.2 10067 121 (wr ((σ.1 10068 121) - 1)))))) = (11 : Int) then T202 d Q 120 [wO 10 121, wI (σ.2.2 10067 121 (wr ((σ.1 10068 121) - 1))), wI (σ.2.2 10027 121 (wr ((σ.1 10062 121) + (σ.2.2 10067 121 (wr ((σ.1 10068 121) - 1))))))] [] ((j3_up σ.1 10068 121 (wr ((σ.1 10068 121) - 1))), σ.2.1, σ.2.2) else (if (σ.2.2 10027 121 (wr ((σ.1 10062 121) + (σ.2.2 10067 121 (wr ((σ.1 10068 121) - 1)))))) = (22 : Int) then T202 d Q 120 [wO 10 121, wI (σ.2.2 10067 121 (wr ((σ.1 10068 121) - 1))), wI (σ.2.2 10027 121 (wr ((σ.1 10062 121) + (σ.2.2 10067 121 (wr ((σ.1 10068 121) - 1))))))] [] ((j3_up σ.1 10068 121 (wr ((σ.1 10068 121) - 1))), σ.2.1, σ.2.2) else (if (σ.2.2 10027 121 (wr ((σ.1 10062 121) + (σ.2.2 10067 121 (wr ((σ.1 10068 121) - 1)))))) = (26 : Int) then T202 d Q 120 [wO 10 121, wI (σ.2.2 10067 121 (wr ((σ.1 10068 121) - 1))), wI (σ.2.2 10027 121 (wr ((σ.1 10062 121) + (σ.2.2 10067 121 (wr ((σ.1 10068 121) - 1))))))] [] ((j3_up σ.1 10068 121 (wr ((σ.1 10068 121) - 1))), σ.2.1, σ.2.2) else j3_tc true d 203 [wO 10 121, wI (wr ((σ.2.2 10067 121 (wr ((σ.1 10068 121) - 1))) + 1))] ((j3_up σ.1 10068 121 (wr ((σ.1 10068 121) - 1))), σ.2.1, σ.2.2) (fun r σ1 => T202 d Q 120 [wO 10 121, wI (σ.2.2 10067 121 (wr ((σ.1 10068 121) - 1))), wI (σ.2.2 10027 121 (wr ((σ.1 10062 121) + (σ.2.2 10067 121 (wr ((σ.1 10068 121) - 1))))))] (r.toList ++ []) σ1)))))) else Q none σ) := j3_T.go d [0, 2, 19, 31, 43, 55, 75, 83, 120, 122, 132] 400
set_option maxRecDepth 100000 in
theorem b202_120 {d : Nat} {Q : j3_P} {σ : j3_S} {x1 : Int} {x2 : Int} :
  T202 d Q 120 [wO 10 121, wI x1, wI x2] [] σ = j3_tc true d 164 [wI x2] σ (fun r σ1 => T202 d Q 122 [wO 10 121, wI x1, wI x2] (r.toList ++ []) σ1) := j3_T.go d [0, 2, 19, 31, 43, 55, 75, 83, 120, 122, 132] 400
set_option maxRecDepth 100000 in
theorem b202_122 {d : Nat} {Q : j3_P} {σ : j3_S} {x1 : Int} {x2 : Int} {xs0 : Int} :
  T202 d Q 122 [wO 10 121, wI x1, wI x2] [wI xs0] σ = (if xs0 = 0 then T202 d Q 132 [wO 10 121, wI x1, wI x2] [] σ else ((0 ≤ (wr ((σ.1 10062 121) + x1)) ∧ (wr ((σ.1 10062 121) + x1)) < 28800) ∧ j3_tc true d 203 [wO 10 121, wI (σ.2.2 10028 121 (wr ((σ.1 10062 121) + x1)))] σ (fun r σ1 => T202 d Q 132 [wO 10 121, wI x1, wI x2] (r.toList ++ []) σ1))) := j3_T.go d [0, 2, 19, 31, 43, 55, 75, 83, 120, 122, 132] 400
set_option maxRecDepth 100000 in
theorem b202_132 {d : Nat} {Q : j3_P} {σ : j3_S} {x1 : Int} {x2 : Int} :
  T202 d Q 132 [wO 10 121, wI x1, wI x2] [] σ = T202 d Q 83 [wO 10 121, wI x1, wI x2] [] σ := j3_T.go d [0, 2, 19, 31, 43, 55, 75, 83, 120, 122, 132] 400
def T203 (d : Nat) (Q : j3_P) : j3_K := j3_T true (j3_tc true d) jc_X10_comeTo none Q
theorem e203 {d : Nat} {Q : j3_P} {σ : j3_S} {x1 : Int} : j3_tc true (d + 1) 203 [wO 10 121, wI x1] σ Q = T203 d Q 0 [wO 10 121, wI x1] [] σ := j3_entry ⟨Nat.le_of_ble_eq_true rfl, rfl⟩
set_option maxRecDepth 100000 in
theorem b203_0 {d : Nat} {Q : j3_P} {σ : j3_S} {x1 : Int} :
  T203 d Q 0 [wO 10 121, wI x1] [] σ = ((0 ≤ x1 ∧ x1 < 120) ∧ (if (σ.2.2 10064 121 x1) = 0 then (((1 : Int) = 0 ∨ (1 : Int) = 1) ∧ (0 ≤ x1 ∧ x1 < 120) ∧ ((0 ≤ (σ.1 10068 121) ∧ (σ.1 10068 121) < 120) ∧ Q none ((j3_up σ.1 10068 121 (wr ((σ.1 10068 121) + 1))), σ.2.1, (j3_ast (j3_ast σ.2.2 10064 121 x1 1) 10067 121 (σ.1 10068 121) x1)))) else Q none σ)) := j3_T.go d [0] 400
def T204 (d : Nat) (Q : j3_P) : j3_K := j3_T true (j3_tc true d) jc_X10_alone (some .boolean) Q
theorem e204 {d : Nat} {Q : j3_P} {σ : j3_S} {x1 : Int} {x2 : Int} : j3_tc true (d + 1) 204 [wO 10 121, wI x1, wI x2] σ Q = T204 d Q 0 [wO 10 121, wI x1, wI x2, wM 2] [] σ := j3_entry ⟨Nat.le_of_ble_eq_true rfl, rfl⟩
set_option maxRecDepth 100000 in
theorem b204_0 {d : Nat} {Q : j3_P} {σ : j3_S} {x1 : Int} {x2 : Int} :
  T204 d Q 0 [wO 10 121, wI x1, wI x2, wM 2] [] σ = (if (σ.1 10063 121) < (wr (x1 + x2)) then (((0 : Int) = 0 ∨ (0 : Int) = 1) ∧ Q (some (wI 0)) σ) else T204 d Q 10 [wO 10 121, wI x1, wI x2, wI 1] [] σ) := j3_T.go d [0, 10] 400
set_option maxRecDepth 100000 in
theorem b204_10 {d : Nat} {Q : j3_P} {σ : j3_S} {x1 : Int} {x2 : Int} {x3 : Int} :
  T204 d Q 10 [wO 10 121, wI x1, wI x2, wI x3] [] σ = (if x3 < x2 then ((0 ≤ (wr (x1 + x3)) ∧ (wr (x1 + x3)) < 120) ∧ (if (σ.2.2 10065 121 (wr (x1 + x3))) = 0 then T204 d Q 10 [wO 10 121, wI x1, wI x2, wI (wr (x3 + 1))] [] σ else (((0 : Int) = 0 ∨ (0 : Int) = 1) ∧ Q (some (wI 0)) σ))) else (((1 : Int) = 0 ∨ (1 : Int) = 1) ∧ Q (some (wI 1)) σ)) := j3_T.go d [0, 10] 400
def T205 (d : Nat) (Q : j3_P) : j3_K := j3_T true (j3_tc true d) jc_X10_is (some .boolean) Q
theorem e205 {d : Nat} {Q : j3_P} {σ : j3_S} {x1 : Int} {x2 : Int} : j3_tc true (d + 1) 205 [wO 10 121, wI x1, wI x2] σ Q = T205 d Q 0 [wO 10 121, wI x1, wI x2] [] σ := j3_entry ⟨Nat.le_of_ble_eq_true rfl, rfl⟩
set_option maxRecDepth 100000 in
theorem b205_0 {d : Nat} {Q : j3_P} {σ : j3_S} {x1 : Int} {x2 : Int} :
  T205 d Q 0 [wO 10 121, wI x1, wI x2] [] σ = ((0 ≤ (wr ((σ.1 10062 121) + x1)) ∧ (wr ((σ.1 10062 121) + x1)) < 28800) ∧ (if (σ.2.2 10027 121 (wr ((σ.1 10062 121) + x1))) = x2 then (((1 : Int) = 0 ∨ (1 : Int) = 1) ∧ Q (some (wI 1)) σ) else (((0 : Int) = 0 ∨ (0 : Int) = 1) ∧ Q (some (wI 0)) σ))) := j3_T.go d [0] 400
def T206 (d : Nat) (Q : j3_P) : j3_K := j3_T true (j3_tc true d) jc_X10_leads (some .int) Q
theorem e206 {d : Nat} {Q : j3_P} {σ : j3_S} {x1 : Int} : j3_tc true (d + 1) 206 [wO 10 121, wI x1] σ Q = T206 d Q 0 [wO 10 121, wI x1, wM 2, wM 2] [] σ := j3_entry ⟨Nat.le_of_ble_eq_true rfl, rfl⟩
set_option maxRecDepth 100000 in
theorem b206_0 {d : Nat} {Q : j3_P} {σ : j3_S} {x1 : Int} :
  T206 d Q 0 [wO 10 121, wI x1, wM 2, wM 2] [] σ = T206 d Q 4 [wO 10 121, wI x1, wI x1, wI 0] [] σ := j3_T.go d [0, 4, 12] 400
set_option maxRecDepth 100000 in
theorem b206_4 {d : Nat} {Q : j3_P} {σ : j3_S} {x1 : Int} {x2 : Int} {x3 : Int} :
  T206 d Q 4 [wO 10 121, wI x1, wI x2, wI x3] [] σ = (if (σ.1 10063 121) < x3 then Q (some (wI (-1))) σ else j3_tc true d 205 [wO 10 121, wI x2, wI 11] σ (fun r σ1 => T206 d Q 12 [wO 10 121, wI x1, wI x2, wI x3] (r.toList ++ []) σ1)) := j3_T.go d [0, 4, 12] 400
set_option maxRecDepth 100000 in
theorem b206_12 {d : Nat} {Q : j3_P} {σ : j3_S} {x1 : Int} {x2 : Int} {x3 : Int} {xs0 : Int} :
  T206 d Q 12 [wO 10 121, wI x1, wI x2, wI x3] [wI xs0] σ = (if xs0 = 0 then Q (some (wI x2)) σ else ((0 ≤ (wr ((σ.1 10062 121) + x2)) ∧ (wr ((σ.1 10062 121) + x2)) < 28800) ∧ T206 d Q 4 [wO 10 121, wI x1, wI (σ.2.2 10028 121 (wr ((σ.1 10062 121) + x2))), wI (wr (x3 + 1))] [] σ)) := j3_T.go d [0, 4, 12] 400
def T207 (d : Nat) (Q : j3_P) : j3_K := j3_T true (j3_tc true d) jc_X10_fitsRule (some .boolean) Q
theorem e207 {d : Nat} {Q : j3_P} {σ : j3_S} {x1 : Int} {x2 : Int} : j3_tc true (d + 1) 207 [wO 10 121, wI x1, wI x2] σ Q = T207 d Q 0 [wO 10 121, wI x1, wI x2, wM 2, wM 2, wM 2] [] σ := j3_entry ⟨Nat.le_of_ble_eq_true rfl, rfl⟩
set_option maxRecDepth 100000 in
theorem b207_0 {d : Nat} {Q : j3_P} {σ : j3_S} {x1 : Int} {x2 : Int} :
  T207 d Q 0 [wO 10 121, wI x1, wI x2, wM 2, wM 2, wM 2] [] σ = ((0 ≤ (wr ((σ.1 10062 121) + x2)) ∧ (wr ((σ.1 10062 121) + x2)) < 28800) ∧ (if (wr (x2 + 1)) < (σ.1 10063 121) then ((0 ≤ (wr ((wr ((σ.1 10062 121) + x2)) + 1)) ∧ (wr ((wr ((σ.1 10062 121) + x2)) + 1)) < 28800) ∧ T207 d Q 24 [wO 10 121, wI x1, wI x2, wI (wr ((σ.1 10062 121) + x2)), wI (σ.2.2 10027 121 (wr ((σ.1 10062 121) + x2))), wM 2] [wI (σ.2.2 10027 121 (wr ((wr ((σ.1 10062 121) + x2)) + 1)))] σ) else T207 d Q 24 [wO 10 121, wI x1, wI x2, wI (wr ((σ.1 10062 121) + x2)), wI (σ.2.2 10027 121 (wr ((σ.1 10062 121) + x2))), wM 2] [wI (-1)] σ)) := j3_T.go d [0, 24, 27, 36, 51, 53, 61, 68, 73, 77, 113, 117, 121, 136, 140, 144, 154, 158, 175, 179, 190, 194, 208, 220, 224, 239, 243, 265, 271] 400
set_option maxRecDepth 100000 in
theorem b207_24 {d : Nat} {Q : j3_P} {σ : j3_S} {x1 : Int} {x2 : Int} {x3 : Int} {x4 : Int} {xs0 : Int} :
  T207 d Q 24 [wO 10 121, wI x1, wI x2, wI x3, wI x4, wM 2] [wI xs0] σ = (if x1 = 1 then T207 d Q 27 [wO 10 121, wI x1, wI x2, wI x3, wI x4, wI xs0] [] σ else (if x1 = 2 then T207 d Q 36 [wO 10 121, wI x1, wI x2, wI x3, wI x4, wI xs0] [] σ else (if x1 = 3 then T207 d Q 51 [wO 10 121, wI x1, wI x2, wI x3, wI x4, wI xs0] [] σ else (if x1 = 4 then T207 d Q 73 [wO 10 121, wI x1, wI x2, wI x3, wI x4, wI xs0] [] σ else (if x1 = 5 then T207 d Q 117 [wO 10 121, wI x1, wI x2, wI x3, wI x4, wI xs0] [] σ else (if x1 = 6 then T207 d Q 140 [wO 10 121, wI x1, wI x2, wI x3, wI x4, wI xs0] [] σ else (if x1 = 7 then T207 d Q 154 [wO 10 121, wI x1, wI x2, wI x3, wI x4, wI xs0] [] σ else (if x1 = 8 then T207 d Q 175 [wO 10 121, wI x1, wI x2, wI x3, wI x4, wI xs0] [] σ else (if x1 = 9 then T207 d Q 190 [wO 10 121, wI x1, wI x2, wI x3, wI x4, wI xs0] [] σ else (if x1 = 10 then T207 d Q 224 [wO 10 121, wI x1, wI x2, wI x3, wI x4, wI xs0] [] σ else (if x1 = 11 then T207 d Q 239 [wO 10 121, wI x1, wI x2, wI x3, wI x4, wI xs0] [] σ else T207 d Q 265 [wO 10 121, wI x1, wI x2, wI x3, wI x4, wI xs0] [] σ))))))))))) := j3_T.go d [0, 24, 27, 36, 51, 53, 61, 68, 73, 77, 113, 117, 121, 136, 140, 144, 154, 158, 175, 179, 190, 194, 208, 220, 224, 239, 243, 265, 271] 400
set_option maxRecDepth 100000 in
theorem b207_27 {d : Nat} {Q : j3_P} {σ : j3_S} {x1 : Int} {x2 : Int} {x3 : Int} {x4 : Int} {x5 : Int} :
  T207 d Q 27 [wO 10 121, wI x1, wI x2, wI x3, wI x4, wI x5] [] σ = ((0 ≤ x2 ∧ x2 < 120) ∧ (if (σ.2.2 10064 121 x2) = 0 then (((1 : Int) = 0 ∨ (1 : Int) = 1) ∧ Q (some (wI 1)) σ) else (((0 : Int) = 0 ∨ (0 : Int) = 1) ∧ Q (some (wI 0)) σ))) := j3_T.go d [0, 24, 27, 36, 51, 53, 61, 68, 73, 77, 113, 117, 121, 136, 140, 144, 154, 158, 175, 179, 190, 194, 208, 220, 224, 239, 243, 265, 271] 400
set_option maxRecDepth 100000 in
theorem b207_36 {d : Nat} {Q : j3_P} {σ : j3_S} {x1 : Int} {x2 : Int} {x3 : Int} {x4 : Int} {x5 : Int} :
  T207 d Q 36 [wO 10 121, wI x1, wI x2, wI x3, wI x4, wI x5] [] σ = (if x4 = (11 : Int) then ((0 ≤ x3 ∧ x3 < 28800) ∧ (if (σ.2.2 10028 121 x3) = (wr (x2 + 1)) then (((1 : Int) = 0 ∨ (1 : Int) = 1) ∧ Q (some (wI 1)) σ) else (((0 : Int) = 0 ∨ (0 : Int) = 1) ∧ Q (some (wI 0)) σ))) else (((0 : Int) = 0 ∨ (0 : Int) = 1) ∧ Q (some (wI 0)) σ)) := j3_T.go d [0, 24, 27, 36, 51, 53, 61, 68, 73, 77, 113, 117, 121, 136, 140, 144, 154, 158, 175, 179, 190, 194, 208, 220, 224, 239, 243, 265, 271] 400
set_option maxRecDepth 100000 in
theorem b207_51 {d : Nat} {Q : j3_P} {σ : j3_S} {x1 : Int} {x2 : Int} {x3 : Int} {x4 : Int} {x5 : Int} :
  T207 d Q 51 [wO 10 121, wI x1, wI x2, wI x3, wI x4, wI x5] [] σ = j3_tc true d 164 [wI x4] σ (fun r σ1 => T207 d Q 53 [wO 10 121, wI x1, wI x2, wI x3, wI x4, wI x5] (r.toList ++ []) σ1) := j3_T.go d [0, 24, 27, 36, 51, 53, 61, 68, 73, 77, 113, 117, 121, 136, 140, 144, 154, 158, 175, 179, 190, 194, 208, 220, 224, 239, 243, 265, 271] 400
set_option maxRecDepth 100000 in
theorem b207_53 {d : Nat} {Q : j3_P} {σ : j3_S} {x1 : Int} {x2 : Int} {x3 : Int} {x4 : Int} {x5 : Int} {xs0 : Int} :
  T207 d Q 53 [wO 10 121, wI x1, wI x2, wI x3, wI x4, wI x5] [wI xs0] σ = (if xs0 = 0 then (((0 : Int) = 0 ∨ (0 : Int) = 1) ∧ Q (some (wI 0)) σ) else ((0 ≤ x3 ∧ x3 < 28800) ∧ j3_tc true d 205 [wO 10 121, wI (σ.2.2 10028 121 x3), wI 11] σ (fun r σ1 => T207 d Q 61 [wO 10 121, wI x1, wI x2, wI x3, wI x4, wI x5] (r.toList ++ []) σ1))) := j3_T.go d [0, 24, 27, 36, 51, 53, 61, 68, 73, 77, 113, 117, 121, 136, 140, 144, 154, 158, 175, 179, 190, 194, 208, 220, 224, 239, 243, 265, 271] 400
set_option maxRecDepth 100000 in
theorem b207_61 {d : Nat} {Q : j3_P} {σ : j3_S} {x1 : Int} {x2 : Int} {x3 : Int} {x4 : Int} {x5 : Int} {xs0 : Int} :
  T207 d Q 61 [wO 10 121, wI x1, wI x2, wI x3, wI x4, wI x5] [wI xs0] σ = (if xs0 = 0 then (((0 : Int) = 0 ∨ (0 : Int) = 1) ∧ Q (some (wI 0)) σ) else ((0 ≤ x3 ∧ x3 < 28800) ∧ j3_tc true d 206 [wO 10 121, wI (σ.2.2 10028 121 x3)] σ (fun r σ1 => T207 d Q 68 [wO 10 121, wI x1, wI x2, wI x3, wI x4, wI x5] (r.toList ++ []) σ1))) := j3_T.go d [0, 24, 27, 36, 51, 53, 61, 68, 73, 77, 113, 117, 121, 136, 140, 144, 154, 158, 175, 179, 190, 194, 208, 220, 224, 239, 243, 265, 271] 400
set_option maxRecDepth 100000 in
theorem b207_68 {d : Nat} {Q : j3_P} {σ : j3_S} {x1 : Int} {x2 : Int} {x3 : Int} {x4 : Int} {x5 : Int} {xs0 : Int} :
  T207 d Q 68 [wO 10 121, wI x1, wI x2, wI x3, wI x4, wI x5] [wI xs0] σ = (if xs0 < 0 then (((0 : Int) = 0 ∨ (0 : Int) = 1) ∧ Q (some (wI 0)) σ) else (((1 : Int) = 0 ∨ (1 : Int) = 1) ∧ Q (some (wI 1)) σ)) := j3_T.go d [0, 24, 27, 36, 51, 53, 61, 68, 73, 77, 113, 117, 121, 136, 140, 144, 154, 158, 175, 179, 190, 194, 208, 220, 224, 239, 243, 265, 271] 400
set_option maxRecDepth 100000 in
theorem b207_73 {d : Nat} {Q : j3_P} {σ : j3_S} {x1 : Int} {x2 : Int} {x3 : Int} {x4 : Int} {x5 : Int} :
  T207 d Q 73 [wO 10 121, wI x1, wI x2, wI x3, wI x4, wI x5] [] σ = j3_tc true d 204 [wO 10 121, wI x2, wI 3] σ (fun r σ1 => T207 d Q 77 [wO 10 121, wI x1, wI x2, wI x3, wI x4, wI x5] (r.toList ++ []) σ1) := j3_T.go d [0, 24, 27, 36, 51, 53, 61, 68, 73, 77, 113, 117, 121, 136, 140, 144, 154, 158, 175, 179, 190, 194, 208, 220, 224, 239, 243, 265, 271] 400
set_option maxRecDepth 100000 in
theorem b207_77 {d : Nat} {Q : j3_P} {σ : j3_S} {x1 : Int} {x2 : Int} {x3 : Int} {x4 : Int} {x5 : Int} {xs0 : Int} :
  T207 d Q 77 [wO 10 121, wI x1, wI x2, wI x3, wI x4, wI x5] [wI xs0] σ = (if xs0 = 0 then (((0 : Int) = 0 ∨ (0 : Int) = 1) ∧ Q (some (wI 0)) σ) else (if x4 = 0 then (if x5 = 0 then ((0 ≤ (wr (x3 + 2)) ∧ (wr (x3 + 2)) < 28800) ∧ (if (σ.2.2 10027 121 (wr (x3 + 2))) < (6 : Int) then (((0 : Int) = 0 ∨ (0 : Int) = 1) ∧ Q (some (wI 0)) σ) else ((0 ≤ (wr (x3 + 2)) ∧ (wr (x3 + 2)) < 28800) ∧ (if (10 : Int) < (σ.2.2 10027 121 (wr (x3 + 2))) then (((0 : Int) = 0 ∨ (0 : Int) = 1) ∧ Q (some (wI 0)) σ) else ((0 ≤ (wr (x3 + 2)) ∧ (wr (x3 + 2)) < 28800) ∧ (if (σ.2.2 10027 121 (wr (x3 + 2))) < (9 : Int) then T207 d Q 113 [wO 10 121, wI x1, wI x2, wI x3, wI x4, wI x5] [] σ else ((0 ≤ (wr (x3 + 1)) ∧ (wr (x3 + 1)) < 28800) ∧ (if (σ.2.2 10028 121 (wr (x3 + 1))) = 0 then (((0 : Int) = 0 ∨ (0 : Int) = 1) ∧ Q (some (wI 0)) σ) else T207 d Q 113 [wO 10 121, wI x1, wI x2, wI x3, wI x4, wI x5] [] σ)))))))) else (((0 : Int) = 0 ∨ (0 : Int) = 1) ∧ Q (some (wI 0)) σ)) else (((0 : Int) = 0 ∨ (0 : Int) = 1) ∧ Q (some (wI 0)) σ))) := j3_T.go d [0, 24, 27, 36, 51, 53, 61, 68, 73, 77, 113, 117, 121, 136, 140, 144, 154, 158, 175, 179, 190, 194, 208, 220, 224, 239, 243, 265, 271] 400
set_option maxRecDepth 100000 in
theorem b207_113 {d : Nat} {Q : j3_P} {σ : j3_S} {x1 : Int} {x2 : Int} {x3 : Int} {x4 : Int} {x5 : Int} :
  T207 d Q 113 [wO 10 121, wI x1, wI x2, wI x3, wI x4, wI x5] [] σ = (((1 : Int) = 0 ∨ (1 : Int) = 1) ∧ Q (some (wI 1)) σ) := j3_T.go d [0, 24, 27, 36, 51, 53, 61, 68, 73, 77, 113, 117, 121, 136, 140, 144, 154, 158, 175, 179, 190, 194, 208, 220, 224, 239, 243, 265, 271] 400
set_option maxRecDepth 100000 in
theorem b207_117 {d : Nat} {Q : j3_P} {σ : j3_S} {x1 : Int} {x2 : Int} {x3 : Int} {x4 : Int} {x5 : Int} :
  T207 d Q 117 [wO 10 121, wI x1, wI x2, wI x3, wI x4, wI x5] [] σ = j3_tc true d 204 [wO 10 121, wI x2, wI 2] σ (fun r σ1 => T207 d Q 121 [wO 10 121, wI x1, wI x2, wI x3, wI x4, wI x5] (r.toList ++ []) σ1) := j3_T.go d [0, 24, 27, 36, 51, 53, 61, 68, 73, 77, 113, 117, 121, 136, 140, 144, 154, 158, 175, 179, 190, 194, 208, 220, 224, 239, 243, 265, 271] 400
set_option maxRecDepth 100000 in
theorem b207_121 {d : Nat} {Q : j3_P} {σ : j3_S} {x1 : Int} {x2 : Int} {x3 : Int} {x4 : Int} {x5 : Int} {xs0 : Int} :
  T207 d Q 121 [wO 10 121, wI x1, wI x2, wI x3, wI x4, wI x5] [wI xs0] σ = (if xs0 = 0 then (((0 : Int) = 0 ∨ (0 : Int) = 1) ∧ Q (some (wI 0)) σ) else (if x5 = (4 : Int) then (if x4 = 0 then T207 d Q 136 [wO 10 121, wI x1, wI x2, wI x3, wI x4, wI x5] [] σ else (if x4 = (1 : Int) then T207 d Q 136 [wO 10 121, wI x1, wI x2, wI x3, wI x4, wI x5] [] σ else (if x4 = (2 : Int) then T207 d Q 136 [wO 10 121, wI x1, wI x2, wI x3, wI x4, wI x5] [] σ else (if x4 = (5 : Int) then T207 d Q 136 [wO 10 121, wI x1, wI x2, wI x3, wI x4, wI x5] [] σ else (((0 : Int) = 0 ∨ (0 : Int) = 1) ∧ Q (some (wI 0)) σ))))) else (((0 : Int) = 0 ∨ (0 : Int) = 1) ∧ Q (some (wI 0)) σ))) := j3_T.go d [0, 24, 27, 36, 51, 53, 61, 68, 73, 77, 113, 117, 121, 136, 140, 144, 154, 158, 175, 179, 190, 194, 208, 220, 224, 239, 243, 265, 271] 400
set_option maxRecDepth 100000 in
theorem b207_136 {d : Nat} {Q : j3_P} {σ : j3_S} {x1 : Int} {x2 : Int} {x3 : Int} {x4 : Int} {x5 : Int} :
  T207 d Q 136 [wO 10 121, wI x1, wI x2, wI x3, wI x4, wI x5] [] σ = (((1 : Int) = 0 ∨ (1 : Int) = 1) ∧ Q (some (wI 1)) σ) := j3_T.go d [0, 24, 27, 36, 51, 53, 61, 68, 73, 77, 113, 117, 121, 136, 140, 144, 154, 158, 175, 179, 190, 194, 208, 220, 224, 239, 243, 265, 271] 400
set_option maxRecDepth 100000 in
theorem b207_140 {d : Nat} {Q : j3_P} {σ : j3_S} {x1 : Int} {x2 : Int} {x3 : Int} {x4 : Int} {x5 : Int} :
  T207 d Q 140 [wO 10 121, wI x1, wI x2, wI x3, wI x4, wI x5] [] σ = j3_tc true d 204 [wO 10 121, wI x2, wI 2] σ (fun r σ1 => T207 d Q 144 [wO 10 121, wI x1, wI x2, wI x3, wI x4, wI x5] (r.toList ++ []) σ1) := j3_T.go d [0, 24, 27, 36, 51, 53, 61, 68, 73, 77, 113, 117, 121, 136, 140, 144, 154, 158, 175, 179, 190, 194, 208, 220, 224, 239, 243, 265, 271] 400
set_option maxRecDepth 100000 in
theorem b207_144 {d : Nat} {Q : j3_P} {σ : j3_S} {x1 : Int} {x2 : Int} {x3 : Int} {x4 : Int} {x5 : Int} {xs0 : Int} :
  T207 d Q 144 [wO 10 121, wI x1, wI x2, wI x3, wI x4, wI x5] [wI xs0] σ = (if xs0 = 0 then (((0 : Int) = 0 ∨ (0 : Int) = 1) ∧ Q (some (wI 0)) σ) else (if x4 = 0 then (if x5 = (12 : Int) then (((1 : Int) = 0 ∨ (1 : Int) = 1) ∧ Q (some (wI 1)) σ) else (((0 : Int) = 0 ∨ (0 : Int) = 1) ∧ Q (some (wI 0)) σ)) else (((0 : Int) = 0 ∨ (0 : Int) = 1) ∧ Q (some (wI 0)) σ))) := j3_T.go d [0, 24, 27, 36, 51, 53, 61, 68, 73, 77, 113, 117, 121, 136, 140, 144, 154, 158, 175, 179, 190, 194, 208, 220, 224, 239, 243, 265, 271] 400
set_option maxRecDepth 100000 in
theorem b207_154 {d : Nat} {Q : j3_P} {σ : j3_S} {x1 : Int} {x2 : Int} {x3 : Int} {x4 : Int} {x5 : Int} :
  T207 d Q 154 [wO 10 121, wI x1, wI x2, wI x3, wI x4, wI x5] [] σ = j3_tc true d 204 [wO 10 121, wI x2, wI 3] σ (fun r σ1 => T207 d Q 158 [wO 10 121, wI x1, wI x2, wI x3, wI x4, wI x5] (r.toList ++ []) σ1) := j3_T.go d [0, 24, 27, 36, 51, 53, 61, 68, 73, 77, 113, 117, 121, 136, 140, 144, 154, 158, 175, 179, 190, 194, 208, 220, 224, 239, 243, 265, 271] 400
set_option maxRecDepth 100000 in
theorem b207_158 {d : Nat} {Q : j3_P} {σ : j3_S} {x1 : Int} {x2 : Int} {x3 : Int} {x4 : Int} {x5 : Int} {xs0 : Int} :
  T207 d Q 158 [wO 10 121, wI x1, wI x2, wI x3, wI x4, wI x5] [wI xs0] σ = (if xs0 = 0 then (((0 : Int) = 0 ∨ (0 : Int) = 1) ∧ Q (some (wI 0)) σ) else (if x4 = 0 then (if x5 = 0 then ((0 ≤ (wr (x3 + 2)) ∧ (wr (x3 + 2)) < 28800) ∧ (if (σ.2.2 10027 121 (wr (x3 + 2))) = (13 : Int) then (((1 : Int) = 0 ∨ (1 : Int) = 1) ∧ Q (some (wI 1)) σ) else (((0 : Int) = 0 ∨ (0 : Int) = 1) ∧ Q (some (wI 0)) σ))) else (((0 : Int) = 0 ∨ (0 : Int) = 1) ∧ Q (some (wI 0)) σ)) else (((0 : Int) = 0 ∨ (0 : Int) = 1) ∧ Q (some (wI 0)) σ))) := j3_T.go d [0, 24, 27, 36, 51, 53, 61, 68, 73, 77, 113, 117, 121, 136, 140, 144, 154, 158, 175, 179, 190, 194, 208, 220, 224, 239, 243, 265, 271] 400
set_option maxRecDepth 100000 in
theorem b207_175 {d : Nat} {Q : j3_P} {σ : j3_S} {x1 : Int} {x2 : Int} {x3 : Int} {x4 : Int} {x5 : Int} :
  T207 d Q 175 [wO 10 121, wI x1, wI x2, wI x3, wI x4, wI x5] [] σ = j3_tc true d 204 [wO 10 121, wI x2, wI 2] σ (fun r σ1 => T207 d Q 179 [wO 10 121, wI x1, wI x2, wI x3, wI x4, wI x5] (r.toList ++ []) σ1) := j3_T.go d [0, 24, 27, 36, 51, 53, 61, 68, 73, 77, 113, 117, 121, 136, 140, 144, 154, 158, 175, 179, 190, 194, 208, 220, 224, 239, 243, 265, 271] 400
set_option maxRecDepth 100000 in
theorem b207_179 {d : Nat} {Q : j3_P} {σ : j3_S} {x1 : Int} {x2 : Int} {x3 : Int} {x4 : Int} {x5 : Int} {xs0 : Int} :
  T207 d Q 179 [wO 10 121, wI x1, wI x2, wI x3, wI x4, wI x5] [wI xs0] σ = (if xs0 = 0 then (((0 : Int) = 0 ∨ (0 : Int) = 1) ∧ Q (some (wI 0)) σ) else (if x4 = (1 : Int) then (if x5 = (14 : Int) then (((1 : Int) = 0 ∨ (1 : Int) = 1) ∧ Q (some (wI 1)) σ) else (((0 : Int) = 0 ∨ (0 : Int) = 1) ∧ Q (some (wI 0)) σ)) else (((0 : Int) = 0 ∨ (0 : Int) = 1) ∧ Q (some (wI 0)) σ))) := j3_T.go d [0, 24, 27, 36, 51, 53, 61, 68, 73, 77, 113, 117, 121, 136, 140, 144, 154, 158, 175, 179, 190, 194, 208, 220, 224, 239, 243, 265, 271] 400
set_option maxRecDepth 100000 in
theorem b207_190 {d : Nat} {Q : j3_P} {σ : j3_S} {x1 : Int} {x2 : Int} {x3 : Int} {x4 : Int} {x5 : Int} :
  T207 d Q 190 [wO 10 121, wI x1, wI x2, wI x3, wI x4, wI x5] [] σ = j3_tc true d 204 [wO 10 121, wI x2, wI 2] σ (fun r σ1 => T207 d Q 194 [wO 10 121, wI x1, wI x2, wI x3, wI x4, wI x5] (r.toList ++ []) σ1) := j3_T.go d [0, 24, 27, 36, 51, 53, 61, 68, 73, 77, 113, 117, 121, 136, 140, 144, 154, 158, 175, 179, 190, 194, 208, 220, 224, 239, 243, 265, 271] 400
set_option maxRecDepth 100000 in
theorem b207_194 {d : Nat} {Q : j3_P} {σ : j3_S} {x1 : Int} {x2 : Int} {x3 : Int} {x4 : Int} {x5 : Int} {xs0 : Int} :
  T207 d Q 194 [wO 10 121, wI x1, wI x2, wI x3, wI x4, wI x5] [wI xs0] σ = (if xs0 = 0 then (((0 : Int) = 0 ∨ (0 : Int) = 1) ∧ Q (some (wI 0)) σ) else (if x4 = 0 then ((0 ≤ x3 ∧ x3 < 28800) ∧ (if (σ.2.2 10028 121 x3) = 0 then (if x5 = (6 : Int) then T207 d Q 220 [wO 10 121, wI x1, wI x2, wI x3, wI x4, wI x5] [] σ else (if x5 = (7 : Int) then T207 d Q 220 [wO 10 121, wI x1, wI x2, wI x3, wI x4, wI x5] [] σ else T207 d Q 208 [wO 10 121, wI x1, wI x2, wI x3, wI x4, wI x5] [] σ)) else T207 d Q 208 [wO 10 121, wI x1, wI x2, wI x3, wI x4, wI x5] [] σ)) else (((0 : Int) = 0 ∨ (0 : Int) = 1) ∧ Q (some (wI 0)) σ))) := j3_T.go d [0, 24, 27, 36, 51, 53, 61, 68, 73, 77, 113, 117, 121, 136, 140, 144, 154, 158, 175, 179, 190, 194, 208, 220, 224, 239, 243, 265, 271] 400
set_option maxRecDepth 100000 in
theorem b207_208 {d : Nat} {Q : j3_P} {σ : j3_S} {x1 : Int} {x2 : Int} {x3 : Int} {x4 : Int} {x5 : Int} :
  T207 d Q 208 [wO 10 121, wI x1, wI x2, wI x3, wI x4, wI x5] [] σ = ((0 ≤ x3 ∧ x3 < 28800) ∧ (if (σ.2.2 10028 121 x3) = (1 : Int) then (if x5 = (8 : Int) then T207 d Q 220 [wO 10 121, wI x1, wI x2, wI x3, wI x4, wI x5] [] σ else (if x5 = (9 : Int) then T207 d Q 220 [wO 10 121, wI x1, wI x2, wI x3, wI x4, wI x5] [] σ else (((0 : Int) = 0 ∨ (0 : Int) = 1) ∧ Q (some (wI 0)) σ))) else (((0 : Int) = 0 ∨ (0 : Int) = 1) ∧ Q (some (wI 0)) σ))) := j3_T.go d [0, 24, 27, 36, 51, 53, 61, 68, 73, 77, 113, 117, 121, 136, 140, 144, 154, 158, 175, 179, 190, 194, 208, 220, 224, 239, 243, 265, 271] 400
set_option maxRecDepth 100000 in
theorem b207_220 {d : Nat} {Q : j3_P} {σ : j3_S} {x1 : Int} {x2 : Int} {x3 : Int} {x4 : Int} {x5 : Int} :
  T207 d Q 220 [wO 10 121, wI x1, wI x2, wI x3, wI x4, wI x5] [] σ = (((1 : Int) = 0 ∨ (1 : Int) = 1) ∧ Q (some (wI 1)) σ) := j3_T.go d [0, 24, 27, 36, 51, 53, 61, 68, 73, 77, 113, 117, 121, 136, 140, 144, 154, 158, 175, 179, 190, 194, 208, 220, 224, 239, 243, 265, 271] 400
set_option maxRecDepth 100000 in
theorem b207_224 {d : Nat} {Q : j3_P} {σ : j3_S} {x1 : Int} {x2 : Int} {x3 : Int} {x4 : Int} {x5 : Int} :
  T207 d Q 224 [wO 10 121, wI x1, wI x2, wI x3, wI x4, wI x5] [] σ = (if x4 = (3 : Int) then ((0 ≤ x3 ∧ x3 < 28800) ∧ ((0 ≤ (σ.2.2 10028 121 x3) ∧ (σ.2.2 10028 121 x3) < 20) ∧ (if (σ.2.2 10066 121 (σ.2.2 10028 121 x3)) = 0 then (((1 : Int) = 0 ∨ (1 : Int) = 1) ∧ Q (some (wI 1)) σ) else (((0 : Int) = 0 ∨ (0 : Int) = 1) ∧ Q (some (wI 0)) σ)))) else (((0 : Int) = 0 ∨ (0 : Int) = 1) ∧ Q (some (wI 0)) σ)) := j3_T.go d [0, 24, 27, 36, 51, 53, 61, 68, 73, 77, 113, 117, 121, 136, 140, 144, 154, 158, 175, 179, 190, 194, 208, 220, 224, 239, 243, 265, 271] 400
set_option maxRecDepth 100000 in
theorem b207_239 {d : Nat} {Q : j3_P} {σ : j3_S} {x1 : Int} {x2 : Int} {x3 : Int} {x4 : Int} {x5 : Int} :
  T207 d Q 239 [wO 10 121, wI x1, wI x2, wI x3, wI x4, wI x5] [] σ = j3_tc true d 204 [wO 10 121, wI x2, wI 2] σ (fun r σ1 => T207 d Q 243 [wO 10 121, wI x1, wI x2, wI x3, wI x4, wI x5] (r.toList ++ []) σ1) := j3_T.go d [0, 24, 27, 36, 51, 53, 61, 68, 73, 77, 113, 117, 121, 136, 140, 144, 154, 158, 175, 179, 190, 194, 208, 220, 224, 239, 243, 265, 271] 400
set_option maxRecDepth 100000 in
theorem b207_243 {d : Nat} {Q : j3_P} {σ : j3_S} {x1 : Int} {x2 : Int} {x3 : Int} {x4 : Int} {x5 : Int} {xs0 : Int} :
  T207 d Q 243 [wO 10 121, wI x1, wI x2, wI x3, wI x4, wI x5] [wI xs0] σ = (if xs0 = 0 then (((0 : Int) = 0 ∨ (0 : Int) = 1) ∧ Q (some (wI 0)) σ) else (if x4 = (2 : Int) then (if x5 = (3 : Int) then ((0 ≤ x3 ∧ x3 < 28800) ∧ ((0 ≤ (wr (x3 + 1)) ∧ (wr (x3 + 1)) < 28800) ∧ (if (σ.2.2 10028 121 x3) = (σ.2.2 10028 121 (wr (x3 + 1))) then (((1 : Int) = 0 ∨ (1 : Int) = 1) ∧ Q (some (wI 1)) σ) else (((0 : Int) = 0 ∨ (0 : Int) = 1) ∧ Q (some (wI 0)) σ)))) else (((0 : Int) = 0 ∨ (0 : Int) = 1) ∧ Q (some (wI 0)) σ)) else (((0 : Int) = 0 ∨ (0 : Int) = 1) ∧ Q (some (wI 0)) σ))) := j3_T.go d [0, 24, 27, 36, 51, 53, 61, 68, 73, 77, 113, 117, 121, 136, 140, 144, 154, 158, 175, 179, 190, 194, 208, 220, 224, 239, 243, 265, 271] 400
set_option maxRecDepth 100000 in
theorem b207_265 {d : Nat} {Q : j3_P} {σ : j3_S} {x1 : Int} {x2 : Int} {x3 : Int} {x4 : Int} {x5 : Int} :
  T207 d Q 265 [wO 10 121, wI x1, wI x2, wI x3, wI x4, wI x5] [] σ = (if x4 = (12 : Int) then T207 d Q 271 [wO 10 121, wI x1, wI x2, wI x3, wI x4, wI x5] [] σ else (if x4 = (14 : Int) then T207 d Q 271 [wO 10 121, wI x1, wI x2, wI x3, wI x4, wI x5] [] σ else (((0 : Int) = 0 ∨ (0 : Int) = 1) ∧ Q (some (wI 0)) σ))) := j3_T.go d [0, 24, 27, 36, 51, 53, 61, 68, 73, 77, 113, 117, 121, 136, 140, 144, 154, 158, 175, 179, 190, 194, 208, 220, 224, 239, 243, 265, 271] 400
set_option maxRecDepth 100000 in
theorem b207_271 {d : Nat} {Q : j3_P} {σ : j3_S} {x1 : Int} {x2 : Int} {x3 : Int} {x4 : Int} {x5 : Int} :
  T207 d Q 271 [wO 10 121, wI x1, wI x2, wI x3, wI x4, wI x5] [] σ = ((0 ≤ x3 ∧ x3 < 28800) ∧ (if (σ.2.2 10028 121 x3) = (wr (x2 + 1)) then (((1 : Int) = 0 ∨ (1 : Int) = 1) ∧ Q (some (wI 1)) σ) else (((0 : Int) = 0 ∨ (0 : Int) = 1) ∧ Q (some (wI 0)) σ))) := j3_T.go d [0, 24, 27, 36, 51, 53, 61, 68, 73, 77, 113, 117, 121, 136, 140, 144, 154, 158, 175, 179, 190, 194, 208, 220, 224, 239, 243, 265, 271] 400
def T208 (d : Nat) (Q : j3_P) : j3_K := j3_T true (j3_tc true d) jc_X10_cut none Q
theorem e208 {d : Nat} {Q : j3_P} {σ : j3_S} {x1 : Int} {x2 : Int} : j3_tc true (d + 1) 208 [wO 10 121, wI x1, wI x2] σ Q = T208 d Q 0 [wO 10 121, wI x1, wI x2, wM 2, wM 2] [] σ := j3_entry ⟨Nat.le_of_ble_eq_true rfl, rfl⟩
set_option maxRecDepth 100000 in
theorem b208_0 {d : Nat} {Q : j3_P} {σ : j3_S} {x1 : Int} {x2 : Int} :
  T208 d Q 0 [wO 10 121, wI x1, wI x2, wM 2, wM 2] [] σ = T208 d Q 2 [wO 10 121, wI x1, wI x2, wI x1, wM 2] [] σ := j3_T.go d [0, 2, 20, 30, 42, 73, 74] 400
set_option maxRecDepth 100000 in
theorem b208_2 {d : Nat} {Q : j3_P} {σ : j3_S} {x1 : Int} {x2 : Int} {x3 : Int} :
  T208 d Q 2 [wO 10 121, wI x1, wI x2, wI x3, wM 2] [] σ = (if (wr (x3 + x2)) < (σ.1 10063 121) then j3_tc true d 182 [wO 10 121, wI (wr ((wr ((σ.1 10062 121) + x3)) + x2)), wI (wr ((σ.1 10062 121) + x3))] σ (fun r σ1 => T208 d Q 20 [wO 10 121, wI x1, wI x2, wI x3, wM 2] (r.toList ++ []) σ1) else T208 d Q 30 [wO 10 121, wI x1, wI x2, wI 0, wM 2] [] ((j3_up σ.1 10063 121 (wr ((σ.1 10063 121) - x2))), σ.2.1, σ.2.2)) := j3_T.go d [0, 2, 20, 30, 42, 73, 74] 400
set_option maxRecDepth 100000 in
theorem b208_20 {d : Nat} {Q : j3_P} {σ : j3_S} {x1 : Int} {x2 : Int} {x3 : Int} :
  T208 d Q 20 [wO 10 121, wI x1, wI x2, wI x3, wM 2] [] σ = T208 d Q 2 [wO 10 121, wI x1, wI x2, wI (wr (x3 + 1)), wM 2] [] σ := j3_T.go d [0, 2, 20, 30, 42, 73, 74] 400
set_option maxRecDepth 100000 in
theorem b208_30 {d : Nat} {Q : j3_P} {σ : j3_S} {x1 : Int} {x2 : Int} {x3 : Int} {w4 : j3_W} :
  T208 d Q 30 [wO 10 121, wI x1, wI x2, wI x3, w4] [] σ = (if x3 < (σ.1 10063 121) then ((0 ≤ (wr ((σ.1 10062 121) + x3)) ∧ (wr ((σ.1 10062 121) + x3)) < 28800) ∧ j3_tc true d 164 [wI (σ.2.2 10027 121 (wr ((σ.1 10062 121) + x3)))] σ (fun r σ1 => T208 d Q 42 [wO 10 121, wI x1, wI x2, wI x3, w4] (r.toList ++ []) σ1)) else Q none σ) := j3_T.go d [0, 2, 20, 30, 42, 73, 74] 400
set_option maxRecDepth 100000 in
theorem b208_42 {d : Nat} {Q : j3_P} {σ : j3_S} {x1 : Int} {x2 : Int} {x3 : Int} {w4 : j3_W} {xs0 : Int} :
  T208 d Q 42 [wO 10 121, wI x1, wI x2, wI x3, w4] [wI xs0] σ = (if xs0 = 0 then T208 d Q 74 [wO 10 121, wI x1, wI x2, wI x3, w4] [] σ else ((0 ≤ (wr ((σ.1 10062 121) + x3)) ∧ (wr ((σ.1 10062 121) + x3)) < 28800) ∧ (if (σ.2.2 10028 121 (wr ((σ.1 10062 121) + x3))) < (wr (x1 + x2)) then (if x1 < (σ.2.2 10028 121 (wr ((σ.1 10062 121) + x3))) then T208 d Q 73 [wO 10 121, wI x1, wI x2, wI x3, wI (σ.2.2 10028 121 (wr ((σ.1 10062 121) + x3)))] [wI x1, wI (wr ((σ.1 10062 121) + x3)), wA 10028 121] σ else T208 d Q 73 [wO 10 121, wI x1, wI x2, wI x3, wI (σ.2.2 10028 121 (wr ((σ.1 10062 121) + x3)))] [wI (σ.2.2 10028 121 (wr ((σ.1 10062 121) + x3))), wI (wr ((σ.1 10062 121) + x3)), wA 10028 121] σ) else T208 d Q 73 [wO 10 121, wI x1, wI x2, wI x3, wI (σ.2.2 10028 121 (wr ((σ.1 10062 121) + x3)))] [wI (wr ((σ.2.2 10028 121 (wr ((σ.1 10062 121) + x3))) - x2)), wI (wr ((σ.1 10062 121) + x3)), wA 10028 121] σ))) := j3_T.go d [0, 2, 20, 30, 42, 73, 74] 400
set_option maxRecDepth 100000 in
theorem b208_73 {d : Nat} {Q : j3_P} {σ : j3_S} {x1 : Int} {x2 : Int} {x3 : Int} {x4 : Int} {xs0 : Int} {xs1 : Int} :
  T208 d Q 73 [wO 10 121, wI x1, wI x2, wI x3, wI x4] [wI xs0, wI xs1, wA 10028 121] σ = ((0 ≤ xs1 ∧ xs1 < 28800) ∧ T208 d Q 74 [wO 10 121, wI x1, wI x2, wI x3, wI x4] [] (σ.1, σ.2.1, (j3_ast σ.2.2 10028 121 xs1 xs0))) := j3_T.go d [0, 2, 20, 30, 42, 73, 74] 400
set_option maxRecDepth 100000 in
theorem b208_74 {d : Nat} {Q : j3_P} {σ : j3_S} {x1 : Int} {x2 : Int} {x3 : Int} {w4 : j3_W} :
  T208 d Q 74 [wO 10 121, wI x1, wI x2, wI x3, w4] [] σ = T208 d Q 30 [wO 10 121, wI x1, wI x2, wI (wr (x3 + 1)), w4] [] σ := j3_T.go d [0, 2, 20, 30, 42, 73, 74] 400
def T209 (d : Nat) (Q : j3_P) : j3_K := j3_T true (j3_tc true d) jc_X10_join none Q
theorem e209 {d : Nat} {Q : j3_P} {σ : j3_S} {x1 : Int} {x2 : Int} {x3 : Int} {x4 : Int} : j3_tc true (d + 1) 209 [wO 10 121, wI x1, wI x2, wI x3, wI x4] σ Q = T209 d Q 0 [wO 10 121, wI x1, wI x2, wI x3, wI x4, wM 2] [] σ := j3_entry ⟨Nat.le_of_ble_eq_true rfl, rfl⟩
set_option maxRecDepth 100000 in
theorem b209_0 {d : Nat} {Q : j3_P} {σ : j3_S} {x1 : Int} {x2 : Int} {x3 : Int} {x4 : Int} :
  T209 d Q 0 [wO 10 121, wI x1, wI x2, wI x3, wI x4, wM 2] [] σ = ((0 ≤ (wr ((wr ((wr ((σ.1 10062 121) + x1)) + x2)) - 1)) ∧ (wr ((wr ((wr ((σ.1 10062 121) + x1)) + x2)) - 1)) < 28800) ∧ ((0 ≤ (wr ((wr ((wr ((σ.1 10062 121) + x1)) + x2)) - 1)) ∧ (wr ((wr ((wr ((σ.1 10062 121) + x1)) + x2)) - 1)) < 28800) ∧ ((0 ≤ (wr ((wr ((wr ((σ.1 10062 121) + x1)) + x2)) - 1)) ∧ (wr ((wr ((wr ((σ.1 10062 121) + x1)) + x2)) - 1)) < 28800) ∧ (if (1 : Int) < x2 then j3_tc true d 208 [wO 10 121, wI x1, wI (wr (x2 - 1))] (σ.1, σ.2.1, (j3_ast (j3_ast (j3_ast σ.2.2 10027 121 (wr ((wr ((wr ((σ.1 10062 121) + x1)) + x2)) - 1)) x3) 10028 121 (wr ((wr ((wr ((σ.1 10062 121) + x1)) + x2)) - 1)) x4) 10029 121 (wr ((wr ((wr ((σ.1 10062 121) + x1)) + x2)) - 1)) 0)) (fun r σ1 => T209 d Q 33 [wO 10 121, wI x1, wI x2, wI x3, wI x4, wI (wr ((wr ((wr ((σ.1 10062 121) + x1)) + x2)) - 1))] (r.toList ++ []) σ1) else T209 d Q 33 [wO 10 121, wI x1, wI x2, wI x3, wI x4, wI (wr ((wr ((wr ((σ.1 10062 121) + x1)) + x2)) - 1))] [] (σ.1, σ.2.1, (j3_ast (j3_ast (j3_ast σ.2.2 10027 121 (wr ((wr ((wr ((σ.1 10062 121) + x1)) + x2)) - 1)) x3) 10028 121 (wr ((wr ((wr ((σ.1 10062 121) + x1)) + x2)) - 1)) x4) 10029 121 (wr ((wr ((wr ((σ.1 10062 121) + x1)) + x2)) - 1)) 0)))))) := j3_T.go d [0, 33] 400
set_option maxRecDepth 100000 in
theorem b209_33 {d : Nat} {Q : j3_P} {σ : j3_S} {x1 : Int} {x2 : Int} {x3 : Int} {x4 : Int} {x5 : Int} :
  T209 d Q 33 [wO 10 121, wI x1, wI x2, wI x3, wI x4, wI x5] [] σ = Q none σ := j3_T.go d [0, 33] 400
def T210 (d : Nat) (Q : j3_P) : j3_K := j3_T true (j3_tc true d) jc_X10_worked (some .int) Q
theorem e210 {d : Nat} {Q : j3_P} {σ : j3_S} {x0 : Int} {x1 : Int} {x2 : Int} : j3_tc true (d + 1) 210 [wI x0, wI x1, wI x2] σ Q = T210 d Q 0 [wI x0, wI x1, wI x2] [] σ := j3_entry ⟨Nat.le_of_ble_eq_true rfl, rfl⟩
set_option maxRecDepth 100000 in
theorem b210_0 {d : Nat} {Q : j3_P} {σ : j3_S} {x0 : Int} {x1 : Int} {x2 : Int} :
  T210 d Q 0 [wI x0, wI x1, wI x2] [] σ = (if x0 = (6 : Int) then Q (some (wI (wr (x1 + x2)))) σ else (if x0 = (7 : Int) then Q (some (wI (wr (x1 - x2)))) σ else (if x0 = (8 : Int) then Q (some (wI (wr (x1 * x2)))) σ else (if x0 = (9 : Int) then (¬ x2 = 0 ∧ Q (some (wI (i_dv x1 x2))) σ) else (¬ x2 = 0 ∧ Q (some (wI (i_rm x1 x2))) σ))))) := j3_T.go d [0] 400
def T211 (d : Nat) (Q : j3_P) : j3_K := j3_T true (j3_tc true d) jc_X10_done none Q
theorem e211 {d : Nat} {Q : j3_P} {σ : j3_S} {x1 : Int} {x2 : Int} : j3_tc true (d + 1) 211 [wO 10 121, wI x1, wI x2] σ Q = T211 d Q 0 [wO 10 121, wI x1, wI x2, wM 2] [] σ := j3_entry ⟨Nat.le_of_ble_eq_true rfl, rfl⟩
set_option maxRecDepth 100000 in
theorem b211_0 {d : Nat} {Q : j3_P} {σ : j3_S} {x1 : Int} {x2 : Int} :
  T211 d Q 0 [wO 10 121, wI x1, wI x2, wM 2] [] σ = (if x1 = 1 then T211 d Q 7 [wO 10 121, wI x1, wI x2, wI (wr ((σ.1 10062 121) + x2))] [] σ else (if x1 = 2 then T211 d Q 7 [wO 10 121, wI x1, wI x2, wI (wr ((σ.1 10062 121) + x2))] [] σ else (if x1 = 3 then T211 d Q 12 [wO 10 121, wI x1, wI x2, wI (wr ((σ.1 10062 121) + x2))] [] σ else (if x1 = 4 then T211 d Q 23 [wO 10 121, wI x1, wI x2, wI (wr ((σ.1 10062 121) + x2))] [] σ else (if x1 = 5 then T211 d Q 46 [wO 10 121, wI x1, wI x2, wI (wr ((σ.1 10062 121) + x2))] [] σ else (if x1 = 6 then T211 d Q 51 [wO 10 121, wI x1, wI x2, wI (wr ((σ.1 10062 121) + x2))] [] σ else (if x1 = 7 then T211 d Q 73 [wO 10 121, wI x1, wI x2, wI (wr ((σ.1 10062 121) + x2))] [] σ else (if x1 = 8 then T211 d Q 101 [wO 10 121, wI x1, wI x2, wI (wr ((σ.1 10062 121) + x2))] [] σ else (if x1 = 9 then T211 d Q 46 [wO 10 121, wI x1, wI x2, wI (wr ((σ.1 10062 121) + x2))] [] σ else (if x1 = 10 then T211 d Q 113 [wO 10 121, wI x1, wI x2, wI (wr ((σ.1 10062 121) + x2))] [] σ else (if x1 = 11 then T211 d Q 46 [wO 10 121, wI x1, wI x2, wI (wr ((σ.1 10062 121) + x2))] [] σ else T211 d Q 113 [wO 10 121, wI x1, wI x2, wI (wr ((σ.1 10062 121) + x2))] [] σ))))))))))) := j3_T.go d [0, 7, 11, 12, 21, 23, 44, 45, 46, 50, 51, 67, 72, 73, 95, 100, 101, 112, 113, 119] 400
set_option maxRecDepth 100000 in
theorem b211_7 {d : Nat} {Q : j3_P} {σ : j3_S} {x1 : Int} {x2 : Int} {x3 : Int} :
  T211 d Q 7 [wO 10 121, wI x1, wI x2, wI x3] [] σ = j3_tc true d 208 [wO 10 121, wI x2, wI 1] σ (fun r σ1 => T211 d Q 11 [wO 10 121, wI x1, wI x2, wI x3] (r.toList ++ []) σ1) := j3_T.go d [0, 7, 11, 12, 21, 23, 44, 45, 46, 50, 51, 67, 72, 73, 95, 100, 101, 112, 113, 119] 400
set_option maxRecDepth 100000 in
theorem b211_11 {d : Nat} {Q : j3_P} {σ : j3_S} {x1 : Int} {x2 : Int} {x3 : Int} :
  T211 d Q 11 [wO 10 121, wI x1, wI x2, wI x3] [] σ = T211 d Q 119 [wO 10 121, wI x1, wI x2, wI x3] [] σ := j3_T.go d [0, 7, 11, 12, 21, 23, 44, 45, 46, 50, 51, 67, 72, 73, 95, 100, 101, 112, 113, 119] 400
set_option maxRecDepth 100000 in
theorem b211_12 {d : Nat} {Q : j3_P} {σ : j3_S} {x1 : Int} {x2 : Int} {x3 : Int} :
  T211 d Q 12 [wO 10 121, wI x1, wI x2, wI x3] [] σ = ((0 ≤ x3 ∧ x3 < 28800) ∧ j3_tc true d 206 [wO 10 121, wI (σ.2.2 10028 121 x3)] σ (fun r σ1 => T211 d Q 21 [wO 10 121, wI x1, wI x2, wI x3] (r.toList ++ [wI x3, wA 10028 121]) σ1)) := j3_T.go d [0, 7, 11, 12, 21, 23, 44, 45, 46, 50, 51, 67, 72, 73, 95, 100, 101, 112, 113, 119] 400
set_option maxRecDepth 100000 in
theorem b211_21 {d : Nat} {Q : j3_P} {σ : j3_S} {x1 : Int} {x2 : Int} {x3 : Int} {xs0 : Int} {xs1 : Int} :
  T211 d Q 21 [wO 10 121, wI x1, wI x2, wI x3] [wI xs0, wI xs1, wA 10028 121] σ = ((0 ≤ xs1 ∧ xs1 < 28800) ∧ T211 d Q 119 [wO 10 121, wI x1, wI x2, wI x3] [] (σ.1, σ.2.1, (j3_ast σ.2.2 10028 121 xs1 xs0))) := j3_T.go d [0, 7, 11, 12, 21, 23, 44, 45, 46, 50, 51, 67, 72, 73, 95, 100, 101, 112, 113, 119] 400
set_option maxRecDepth 100000 in
theorem b211_23 {d : Nat} {Q : j3_P} {σ : j3_S} {x1 : Int} {x2 : Int} {x3 : Int} :
  T211 d Q 23 [wO 10 121, wI x1, wI x2, wI x3] [] σ = ((0 ≤ (wr (x3 + 2)) ∧ (wr (x3 + 2)) < 28800) ∧ ((0 ≤ x3 ∧ x3 < 28800) ∧ ((0 ≤ (wr (x3 + 1)) ∧ (wr (x3 + 1)) < 28800) ∧ j3_tc true d 210 [wI (σ.2.2 10027 121 (wr (x3 + 2))), wI (σ.2.2 10028 121 x3), wI (σ.2.2 10028 121 (wr (x3 + 1)))] σ (fun r σ1 => T211 d Q 44 [wO 10 121, wI x1, wI x2, wI x3] (r.toList ++ [wI 0, wI 3, wI x2, wO 10 121]) σ1)))) := j3_T.go d [0, 7, 11, 12, 21, 23, 44, 45, 46, 50, 51, 67, 72, 73, 95, 100, 101, 112, 113, 119] 400
set_option maxRecDepth 100000 in
theorem b211_44 {d : Nat} {Q : j3_P} {σ : j3_S} {x1 : Int} {x2 : Int} {x3 : Int} {xs0 : Int} {xs1 : Int} {xs2 : Int} {xs3 : Int} :
  T211 d Q 44 [wO 10 121, wI x1, wI x2, wI x3] [wI xs0, wI xs1, wI xs2, wI xs3, wO 10 121] σ = j3_tc true d 209 [wO 10 121, wI xs3, wI xs2, wI xs1, wI xs0] σ (fun r σ1 => T211 d Q 45 [wO 10 121, wI x1, wI x2, wI x3] (r.toList ++ []) σ1) := j3_T.go d [0, 7, 11, 12, 21, 23, 44, 45, 46, 50, 51, 67, 72, 73, 95, 100, 101, 112, 113, 119] 400
set_option maxRecDepth 100000 in
theorem b211_45 {d : Nat} {Q : j3_P} {σ : j3_S} {x1 : Int} {x2 : Int} {x3 : Int} :
  T211 d Q 45 [wO 10 121, wI x1, wI x2, wI x3] [] σ = T211 d Q 119 [wO 10 121, wI x1, wI x2, wI x3] [] σ := j3_T.go d [0, 7, 11, 12, 21, 23, 44, 45, 46, 50, 51, 67, 72, 73, 95, 100, 101, 112, 113, 119] 400
set_option maxRecDepth 100000 in
theorem b211_46 {d : Nat} {Q : j3_P} {σ : j3_S} {x1 : Int} {x2 : Int} {x3 : Int} :
  T211 d Q 46 [wO 10 121, wI x1, wI x2, wI x3] [] σ = j3_tc true d 208 [wO 10 121, wI x2, wI 2] σ (fun r σ1 => T211 d Q 50 [wO 10 121, wI x1, wI x2, wI x3] (r.toList ++ []) σ1) := j3_T.go d [0, 7, 11, 12, 21, 23, 44, 45, 46, 50, 51, 67, 72, 73, 95, 100, 101, 112, 113, 119] 400
set_option maxRecDepth 100000 in
theorem b211_50 {d : Nat} {Q : j3_P} {σ : j3_S} {x1 : Int} {x2 : Int} {x3 : Int} :
  T211 d Q 50 [wO 10 121, wI x1, wI x2, wI x3] [] σ = T211 d Q 119 [wO 10 121, wI x1, wI x2, wI x3] [] σ := j3_T.go d [0, 7, 11, 12, 21, 23, 44, 45, 46, 50, 51, 67, 72, 73, 95, 100, 101, 112, 113, 119] 400
set_option maxRecDepth 100000 in
theorem b211_51 {d : Nat} {Q : j3_P} {σ : j3_S} {x1 : Int} {x2 : Int} {x3 : Int} :
  T211 d Q 51 [wO 10 121, wI x1, wI x2, wI x3] [] σ = ((0 ≤ x3 ∧ x3 < 28800) ∧ (if (σ.2.2 10028 121 x3) = 0 then ((0 ≤ (wr (x3 + 1)) ∧ (wr (x3 + 1)) < 28800) ∧ j3_tc true d 209 [wO 10 121, wI x2, wI 2, wI 11, wI (σ.2.2 10028 121 (wr (x3 + 1)))] σ (fun r σ1 => T211 d Q 67 [wO 10 121, wI x1, wI x2, wI x3] (r.toList ++ []) σ1)) else j3_tc true d 208 [wO 10 121, wI x2, wI 2] σ (fun r σ1 => T211 d Q 72 [wO 10 121, wI x1, wI x2, wI x3] (r.toList ++ []) σ1))) := j3_T.go d [0, 7, 11, 12, 21, 23, 44, 45, 46, 50, 51, 67, 72, 73, 95, 100, 101, 112, 113, 119] 400
set_option maxRecDepth 100000 in
theorem b211_67 {d : Nat} {Q : j3_P} {σ : j3_S} {x1 : Int} {x2 : Int} {x3 : Int} :
  T211 d Q 67 [wO 10 121, wI x1, wI x2, wI x3] [] σ = T211 d Q 119 [wO 10 121, wI x1, wI x2, wI x3] [] σ := j3_T.go d [0, 7, 11, 12, 21, 23, 44, 45, 46, 50, 51, 67, 72, 73, 95, 100, 101, 112, 113, 119] 400
set_option maxRecDepth 100000 in
theorem b211_72 {d : Nat} {Q : j3_P} {σ : j3_S} {x1 : Int} {x2 : Int} {x3 : Int} :
  T211 d Q 72 [wO 10 121, wI x1, wI x2, wI x3] [] σ = T211 d Q 119 [wO 10 121, wI x1, wI x2, wI x3] [] σ := j3_T.go d [0, 7, 11, 12, 21, 23, 44, 45, 46, 50, 51, 67, 72, 73, 95, 100, 101, 112, 113, 119] 400
set_option maxRecDepth 100000 in
theorem b211_73 {d : Nat} {Q : j3_P} {σ : j3_S} {x1 : Int} {x2 : Int} {x3 : Int} :
  T211 d Q 73 [wO 10 121, wI x1, wI x2, wI x3] [] σ = ((0 ≤ x3 ∧ x3 < 28800) ∧ ((0 ≤ (wr (x3 + 1)) ∧ (wr (x3 + 1)) < 28800) ∧ (if (σ.2.2 10028 121 x3) < (σ.2.2 10028 121 (wr (x3 + 1))) then ((0 ≤ (wr (x3 + 2)) ∧ (wr (x3 + 2)) < 28800) ∧ j3_tc true d 209 [wO 10 121, wI x2, wI 3, wI 11, wI (σ.2.2 10028 121 (wr (x3 + 2)))] σ (fun r σ1 => T211 d Q 95 [wO 10 121, wI x1, wI x2, wI x3] (r.toList ++ []) σ1)) else j3_tc true d 208 [wO 10 121, wI x2, wI 3] σ (fun r σ1 => T211 d Q 100 [wO 10 121, wI x1, wI x2, wI x3] (r.toList ++ []) σ1)))) := j3_T.go d [0, 7, 11, 12, 21, 23, 44, 45, 46, 50, 51, 67, 72, 73, 95, 100, 101, 112, 113, 119] 400
set_option maxRecDepth 100000 in
theorem b211_95 {d : Nat} {Q : j3_P} {σ : j3_S} {x1 : Int} {x2 : Int} {x3 : Int} :
  T211 d Q 95 [wO 10 121, wI x1, wI x2, wI x3] [] σ = T211 d Q 119 [wO 10 121, wI x1, wI x2, wI x3] [] σ := j3_T.go d [0, 7, 11, 12, 21, 23, 44, 45, 46, 50, 51, 67, 72, 73, 95, 100, 101, 112, 113, 119] 400
set_option maxRecDepth 100000 in
theorem b211_100 {d : Nat} {Q : j3_P} {σ : j3_S} {x1 : Int} {x2 : Int} {x3 : Int} :
  T211 d Q 100 [wO 10 121, wI x1, wI x2, wI x3] [] σ = T211 d Q 119 [wO 10 121, wI x1, wI x2, wI x3] [] σ := j3_T.go d [0, 7, 11, 12, 21, 23, 44, 45, 46, 50, 51, 67, 72, 73, 95, 100, 101, 112, 113, 119] 400
set_option maxRecDepth 100000 in
theorem b211_101 {d : Nat} {Q : j3_P} {σ : j3_S} {x1 : Int} {x2 : Int} {x3 : Int} :
  T211 d Q 101 [wO 10 121, wI x1, wI x2, wI x3] [] σ = ((0 ≤ (wr (x3 + 1)) ∧ (wr (x3 + 1)) < 28800) ∧ j3_tc true d 209 [wO 10 121, wI x2, wI 2, wI 11, wI (σ.2.2 10028 121 (wr (x3 + 1)))] σ (fun r σ1 => T211 d Q 112 [wO 10 121, wI x1, wI x2, wI x3] (r.toList ++ []) σ1)) := j3_T.go d [0, 7, 11, 12, 21, 23, 44, 45, 46, 50, 51, 67, 72, 73, 95, 100, 101, 112, 113, 119] 400
set_option maxRecDepth 100000 in
theorem b211_112 {d : Nat} {Q : j3_P} {σ : j3_S} {x1 : Int} {x2 : Int} {x3 : Int} :
  T211 d Q 112 [wO 10 121, wI x1, wI x2, wI x3] [] σ = T211 d Q 119 [wO 10 121, wI x1, wI x2, wI x3] [] σ := j3_T.go d [0, 7, 11, 12, 21, 23, 44, 45, 46, 50, 51, 67, 72, 73, 95, 100, 101, 112, 113, 119] 400
set_option maxRecDepth 100000 in
theorem b211_113 {d : Nat} {Q : j3_P} {σ : j3_S} {x1 : Int} {x2 : Int} {x3 : Int} :
  T211 d Q 113 [wO 10 121, wI x1, wI x2, wI x3] [] σ = j3_tc true d 209 [wO 10 121, wI x2, wI 1, wI 4, wI 0] σ (fun r σ1 => T211 d Q 119 [wO 10 121, wI x1, wI x2, wI x3] (r.toList ++ []) σ1) := j3_T.go d [0, 7, 11, 12, 21, 23, 44, 45, 46, 50, 51, 67, 72, 73, 95, 100, 101, 112, 113, 119] 400
set_option maxRecDepth 100000 in
theorem b211_119 {d : Nat} {Q : j3_P} {σ : j3_S} {x1 : Int} {x2 : Int} {x3 : Int} :
  T211 d Q 119 [wO 10 121, wI x1, wI x2, wI x3] [] σ = Q none σ := j3_T.go d [0, 7, 11, 12, 21, 23, 44, 45, 46, 50, 51, 67, 72, 73, 95, 100, 101, 112, 113, 119] 400
def T212 (d : Nat) (Q : j3_P) : j3_K := j3_T true (j3_tc true d) jc_X10_rules none Q
theorem e212 {d : Nat} {Q : j3_P} {σ : j3_S} {x1 : Int} : j3_tc true (d + 1) 212 [wO 10 121, wI x1] σ Q = T212 d Q 0 [wO 10 121, wI x1, wM 2, wM 2, wM 2] [] σ := j3_entry ⟨Nat.le_of_ble_eq_true rfl, rfl⟩
set_option maxRecDepth 100000 in
theorem b212_0 {d : Nat} {Q : j3_P} {σ : j3_S} {x1 : Int} :
  T212 d Q 0 [wO 10 121, wI x1, wM 2, wM 2, wM 2] [] σ = j3_tc true d 160 [wI 2, wI x1, wI 0] σ (fun r σ1 => T212 d Q 5 [wO 10 121, wI x1, wM 2, wM 2, wM 2] (r.toList ++ [wO 10 121]) σ1) := j3_T.go d [0, 5, 16, 22, 24, 32, 41, 47, 67, 69, 71] 400
set_option maxRecDepth 100000 in
theorem b212_5 {d : Nat} {Q : j3_P} {σ : j3_S} {x1 : Int} {xs0 : Int} :
  T212 d Q 5 [wO 10 121, wI x1, wM 2, wM 2, wM 2] [wI xs0, wO 10 121] σ = ((0 ≤ (wr (160 + x1)) ∧ (wr (160 + x1)) < 240) ∧ T212 d Q 16 [wO 10 121, wI x1, wI 1, wM 2, wM 2] [] ((j3_up (j3_up σ.1 10062 121 xs0) 10063 121 (σ.2.2 10026 121 (wr (160 + x1)))), σ.2.1, σ.2.2)) := j3_T.go d [0, 5, 16, 22, 24, 32, 41, 47, 67, 69, 71] 400
set_option maxRecDepth 100000 in
theorem b212_16 {d : Nat} {Q : j3_P} {σ : j3_S} {x1 : Int} {x2 : Int} {w3 : j3_W} {w4 : j3_W} :
  T212 d Q 16 [wO 10 121, wI x1, wI x2, w3, w4] [] σ = (if x2 = 0 then ((0 ≤ (wr (160 + x1)) ∧ (wr (160 + x1)) < 240) ∧ Q none (σ.1, σ.2.1, (j3_ast σ.2.2 10026 121 (wr (160 + x1)) (σ.1 10063 121)))) else j3_tc true d 202 [wO 10 121] σ (fun r σ1 => T212 d Q 22 [wO 10 121, wI x1, wI 0, w3, w4] (r.toList ++ []) σ1)) := j3_T.go d [0, 5, 16, 22, 24, 32, 41, 47, 67, 69, 71] 400
set_option maxRecDepth 100000 in
theorem b212_22 {d : Nat} {Q : j3_P} {σ : j3_S} {x1 : Int} {x2 : Int} {w3 : j3_W} {w4 : j3_W} :
  T212 d Q 22 [wO 10 121, wI x1, wI x2, w3, w4] [] σ = T212 d Q 24 [wO 10 121, wI x1, wI x2, wI 0, w4] [] σ := j3_T.go d [0, 5, 16, 22, 24, 32, 41, 47, 67, 69, 71] 400
set_option maxRecDepth 100000 in
theorem b212_24 {d : Nat} {Q : j3_P} {σ : j3_S} {x1 : Int} {x2 : Int} {x3 : Int} {w4 : j3_W} :
  T212 d Q 24 [wO 10 121, wI x1, wI x2, wI x3, w4] [] σ = (if x3 < (σ.1 10063 121) then (if x2 = 0 then T212 d Q 32 [wO 10 121, wI x1, wI x2, wI x3, wI 1] [] σ else T212 d Q 71 [wO 10 121, wI x1, wI x2, wI x3, w4] [] σ) else T212 d Q 71 [wO 10 121, wI x1, wI x2, wI x3, w4] [] σ) := j3_T.go d [0, 5, 16, 22, 24, 32, 41, 47, 67, 69, 71] 400
set_option maxRecDepth 100000 in
theorem b212_32 {d : Nat} {Q : j3_P} {σ : j3_S} {x1 : Int} {x2 : Int} {x3 : Int} {x4 : Int} :
  T212 d Q 32 [wO 10 121, wI x1, wI x2, wI x3, wI x4] [] σ = (if (12 : Int) < x4 then T212 d Q 69 [wO 10 121, wI x1, wI x2, wI x3, wI x4] [] σ else (if x2 = 0 then j3_tc true d 207 [wO 10 121, wI x4, wI x3] σ (fun r σ1 => T212 d Q 41 [wO 10 121, wI x1, wI x2, wI x3, wI x4] (r.toList ++ []) σ1) else T212 d Q 69 [wO 10 121, wI x1, wI x2, wI x3, wI x4] [] σ)) := j3_T.go d [0, 5, 16, 22, 24, 32, 41, 47, 67, 69, 71] 400
set_option maxRecDepth 100000 in
theorem b212_41 {d : Nat} {Q : j3_P} {σ : j3_S} {x1 : Int} {x2 : Int} {x3 : Int} {x4 : Int} {xs0 : Int} :
  T212 d Q 41 [wO 10 121, wI x1, wI x2, wI x3, wI x4] [wI xs0] σ = (if xs0 = 0 then T212 d Q 67 [wO 10 121, wI x1, wI x2, wI x3, wI x4] [] σ else j3_tc true d 211 [wO 10 121, wI x4, wI x3] σ (fun r σ1 => T212 d Q 47 [wO 10 121, wI x1, wI x2, wI x3, wI x4] (r.toList ++ []) σ1)) := j3_T.go d [0, 5, 16, 22, 24, 32, 41, 47, 67, 69, 71] 400
set_option maxRecDepth 100000 in
theorem b212_47 {d : Nat} {Q : j3_P} {σ : j3_S} {x1 : Int} {x2 : Int} {x3 : Int} {x4 : Int} :
  T212 d Q 47 [wO 10 121, wI x1, wI x2, wI x3, wI x4] [] σ = ((0 ≤ (2 : Int) ∧ (2 : Int) < 23) ∧ ((0 ≤ (2 : Int) ∧ (2 : Int) < 23) ∧ ((0 ≤ (wr (10 + x4)) ∧ (wr (10 + x4)) < 23) ∧ ((0 ≤ (wr (10 + x4)) ∧ (wr (10 + x4)) < 23) ∧ T212 d Q 67 [wO 10 121, wI x1, wI 1, wI x3, wI x4] [] (σ.1, σ.2.1, (j3_ast (j3_ast σ.2.2 10052 121 2 (wr ((σ.2.2 10052 121 2) + 1))) 10052 121 (wr (10 + x4)) (wr ((i_up (σ.2.2 10052 121) 2 (wr ((σ.2.2 10052 121 2) + 1)) (wr (10 + x4))) + 1)))))))) := j3_T.go d [0, 5, 16, 22, 24, 32, 41, 47, 67, 69, 71] 400
set_option maxRecDepth 100000 in
theorem b212_67 {d : Nat} {Q : j3_P} {σ : j3_S} {x1 : Int} {x2 : Int} {x3 : Int} {x4 : Int} :
  T212 d Q 67 [wO 10 121, wI x1, wI x2, wI x3, wI x4] [] σ = T212 d Q 32 [wO 10 121, wI x1, wI x2, wI x3, wI (wr (x4 + 1))] [] σ := j3_T.go d [0, 5, 16, 22, 24, 32, 41, 47, 67, 69, 71] 400
set_option maxRecDepth 100000 in
theorem b212_69 {d : Nat} {Q : j3_P} {σ : j3_S} {x1 : Int} {x2 : Int} {x3 : Int} {x4 : Int} :
  T212 d Q 69 [wO 10 121, wI x1, wI x2, wI x3, wI x4] [] σ = T212 d Q 24 [wO 10 121, wI x1, wI x2, wI (wr (x3 + 1)), wI x4] [] σ := j3_T.go d [0, 5, 16, 22, 24, 32, 41, 47, 67, 69, 71] 400
set_option maxRecDepth 100000 in
theorem b212_71 {d : Nat} {Q : j3_P} {σ : j3_S} {x1 : Int} {x2 : Int} {x3 : Int} {w4 : j3_W} :
  T212 d Q 71 [wO 10 121, wI x1, wI x2, wI x3, w4] [] σ = T212 d Q 16 [wO 10 121, wI x1, wI x2, wI x3, w4] [] σ := j3_T.go d [0, 5, 16, 22, 24, 32, 41, 47, 67, 69, 71] 400
def T213 (d : Nat) (Q : j3_P) : j3_K := j3_T true (j3_tc true d) jc_X10_keepClass none Q
theorem e213 {d : Nat} {Q : j3_P} {σ : j3_S} {x1 : Int} : j3_tc true (d + 1) 213 [wO 10 121, wI x1] σ Q = T213 d Q 0 [wO 10 121, wI x1, wM 2] [] σ := j3_entry ⟨Nat.le_of_ble_eq_true rfl, rfl⟩
set_option maxRecDepth 100000 in
theorem b213_0 {d : Nat} {Q : j3_P} {σ : j3_S} {x1 : Int} :
  T213 d Q 0 [wO 10 121, wI x1, wM 2] [] σ = T213 d Q 2 [wO 10 121, wI x1, wI x1] [] σ := j3_T.go d [0, 2] 400
set_option maxRecDepth 100000 in
theorem b213_2 {d : Nat} {Q : j3_P} {σ : j3_S} {x1 : Int} {x2 : Int} :
  T213 d Q 2 [wO 10 121, wI x1, wI x2] [] σ = (if x2 < 0 then Q none σ else (((1 : Int) = 0 ∨ (1 : Int) = 1) ∧ (0 ≤ x2 ∧ x2 < 10) ∧ ((0 ≤ x2 ∧ x2 < 30) ∧ T213 d Q 2 [wO 10 121, wI x1, wI (σ.2.2 10011 121 x2)] [] (σ.1, σ.2.1, (j3_ast σ.2.2 10072 121 x2 1))))) := j3_T.go d [0, 2] 400
def T214 (d : Nat) (Q : j3_P) : j3_K := j3_T true (j3_tc true d) jc_X10_keepType none Q
theorem e214 {d : Nat} {Q : j3_P} {σ : j3_S} {x1 : Int} : j3_tc true (d + 1) 214 [wO 10 121, wI x1] σ Q = T214 d Q 0 [wO 10 121, wI x1] [] σ := j3_entry ⟨Nat.le_of_ble_eq_true rfl, rfl⟩
set_option maxRecDepth 100000 in
theorem b214_0 {d : Nat} {Q : j3_P} {σ : j3_S} {x1 : Int} :
  T214 d Q 0 [wO 10 121, wI x1] [] σ = (if 0 < x1 then j3_tc true d 213 [wO 10 121, wI (wr (x1 - 1))] σ (fun r σ1 => T214 d Q 7 [wO 10 121, wI x1] (r.toList ++ []) σ1) else T214 d Q 7 [wO 10 121, wI x1] [] σ) := j3_T.go d [0, 7] 400
set_option maxRecDepth 100000 in
theorem b214_7 {d : Nat} {Q : j3_P} {σ : j3_S} {x1 : Int} :
  T214 d Q 7 [wO 10 121, wI x1] [] σ = Q none σ := j3_T.go d [0, 7] 400
