def T155 (d : Nat) (Q : j3_P) : j3_K := j3_T true (j3_tc true d) jc_X10_thrown (some .int) Q
theorem e155 {d : Nat} {Q : j3_P} {σ : j3_S}  : j3_tc true (d + 1) 155 [wO 10 121] σ Q = T155 d Q 0 [wO 10 121] [] σ := j3_entry ⟨Nat.le_of_ble_eq_true rfl, rfl⟩
set_option maxRecDepth 100000 in
theorem b155_0 {d : Nat} {Q : j3_P} {σ : j3_S}  :
  T155 d Q 0 [wO 10 121] [] σ = Q (some (wI (σ.1 10000 121))) σ := j3_T.go d [0] 400
def T156 (d : Nat) (Q : j3_P) : j3_K := j3_T true (j3_tc true d) jc_X10_feed (some .boolean) Q
theorem e156 {d : Nat} {Q : j3_P} {σ : j3_S} {x1 : Int} {x2 : Int} {x3 : Int} {x4 : Int} {x5 : Int} : j3_tc true (d + 1) 156 [wO 10 121, wI x1, wI x2, wI x3, wI x4, wI x5] σ Q = T156 d Q 0 [wO 10 121, wI x1, wI x2, wI x3, wI x4, wI x5, wM 2, wM 2] [] σ := j3_entry ⟨Nat.le_of_ble_eq_true rfl, rfl⟩
set_option maxRecDepth 100000 in
theorem b156_0 {d : Nat} {Q : j3_P} {σ : j3_S} {x1 : Int} {x2 : Int} {x3 : Int} {x4 : Int} {x5 : Int} :
  T156 d Q 0 [wO 10 121, wI x1, wI x2, wI x3, wI x4, wI x5, wM 2, wM 2] [] σ = (if (4000 : Int) < (wr ((σ.1 10002 121) + 20)) then (((0 : Int) = 0 ∨ (0 : Int) = 1) ∧ Q (some (wI 0)) ((j3_up σ.1 10000 121 0), σ.2.1, σ.2.2)) else T156 d Q 13 [wO 10 121, wI x1, wI x2, wI x3, wI x4, wI x5, wI 0, wM 2] [] ((j3_up σ.1 10000 121 0), σ.2.1, σ.2.2)) := j3_T.go d [0, 13, 37] 400
set_option maxRecDepth 100000 in
theorem b156_13 {d : Nat} {Q : j3_P} {σ : j3_S} {x1 : Int} {x2 : Int} {x3 : Int} {x4 : Int} {x5 : Int} {x6 : Int} {w7 : j3_W} :
  T156 d Q 13 [wO 10 121, wI x1, wI x2, wI x3, wI x4, wI x5, wI x6, w7] [] σ = (if x6 < (20 : Int) then (if x6 < (4 : Int) then T156 d Q 37 [wO 10 121, wI x1, wI x2, wI x3, wI x4, wI x5, wI x6, w7] [wI x1] σ else (if x6 < (8 : Int) then T156 d Q 37 [wO 10 121, wI x1, wI x2, wI x3, wI x4, wI x5, wI x6, w7] [wI x2] σ else (if x6 < (12 : Int) then T156 d Q 37 [wO 10 121, wI x1, wI x2, wI x3, wI x4, wI x5, wI x6, w7] [wI x3] σ else (if x6 < (16 : Int) then T156 d Q 37 [wO 10 121, wI x1, wI x2, wI x3, wI x4, wI x5, wI x6, w7] [wI x4] σ else T156 d Q 37 [wO 10 121, wI x1, wI x2, wI x3, wI x4, wI x5, wI x6, w7] [wI x5] σ)))) else (((1 : Int) = 0 ∨ (1 : Int) = 1) ∧ Q (some (wI 1)) σ)) := j3_T.go d [0, 13, 37] 400
set_option maxRecDepth 100000 in
theorem b156_37 {d : Nat} {Q : j3_P} {σ : j3_S} {x1 : Int} {x2 : Int} {x3 : Int} {x4 : Int} {x5 : Int} {x6 : Int} {w7 : j3_W} {xs0 : Int} :
  T156 d Q 37 [wO 10 121, wI x1, wI x2, wI x3, wI x4, wI x5, wI x6, w7] [wI xs0] σ = (¬ (4 : Int) = 0 ∧ ((0 ≤ (σ.1 10002 121) ∧ (σ.1 10002 121) < 4000) ∧ T156 d Q 13 [wO 10 121, wI x1, wI x2, wI x3, wI x4, wI x5, wI (wr (x6 + 1)), wI xs0] [] ((j3_up σ.1 10002 121 (wr ((σ.1 10002 121) + 1))), σ.2.1, (j3_ast σ.2.2 10001 121 (σ.1 10002 121) (i_an (i_sr xs0 (wr (24 - (wr (8 * (i_rm x6 4)))))) 255))))) := j3_T.go d [0, 13, 37] 400
def T157 (d : Nat) (Q : j3_P) : j3_K := j3_T true (j3_tc true d) jc_X10_end (some .boolean) Q
theorem e157 {d : Nat} {Q : j3_P} {σ : j3_S} {x1 : Int} : j3_tc true (d + 1) 157 [wO 10 121, wI x1] σ Q = T157 d Q 0 [wO 10 121, wI x1] [] σ := j3_entry ⟨Nat.le_of_ble_eq_true rfl, rfl⟩
set_option maxRecDepth 100000 in
theorem b157_0 {d : Nat} {Q : j3_P} {σ : j3_S} {x1 : Int} :
  T157 d Q 0 [wO 10 121, wI x1] [] σ = (if x1 < 0 then (((0 : Int) = 0 ∨ (0 : Int) = 1) ∧ Q (some (wI 0)) ((j3_up σ.1 10000 121 0), σ.2.1, σ.2.2)) else (if (σ.1 10002 121) < x1 then (((0 : Int) = 0 ∨ (0 : Int) = 1) ∧ Q (some (wI 0)) ((j3_up σ.1 10000 121 0), σ.2.1, σ.2.2)) else (((1 : Int) = 0 ∨ (1 : Int) = 1) ∧ Q (some (wI 1)) ((j3_up (j3_up σ.1 10000 121 0) 10002 121 x1), σ.2.1, σ.2.2)))) := j3_T.go d [0] 400
def T158 (d : Nat) (Q : j3_P) : j3_K := j3_T true (j3_tc true d) jc_X10_wrong none Q
theorem e158 {d : Nat} {Q : j3_P} {σ : j3_S} {x1 : Int} {x2 : Int} {x3 : Int} {x4 : Int} : j3_tc true (d + 1) 158 [wO 10 121, wI x1, wI x2, wI x3, wI x4] σ Q = T158 d Q 0 [wO 10 121, wI x1, wI x2, wI x3, wI x4] [] σ := j3_entry ⟨Nat.le_of_ble_eq_true rfl, rfl⟩
set_option maxRecDepth 100000 in
theorem b158_0 {d : Nat} {Q : j3_P} {σ : j3_S} {x1 : Int} {x2 : Int} {x3 : Int} {x4 : Int} :
  T158 d Q 0 [wO 10 121, wI x1, wI x2, wI x3, wI x4] [] σ = (if (σ.1 10007 121) = 0 then ((0 ≤ (0 : Int) ∧ (0 : Int) < 3) ∧ ((0 ≤ (1 : Int) ∧ (1 : Int) < 3) ∧ ((0 ≤ (2 : Int) ∧ (2 : Int) < 3) ∧ Q none ((j3_up σ.1 10007 121 x1), σ.2.1, (j3_ast (j3_ast (j3_ast σ.2.2 10008 121 0 x2) 10008 121 1 x3) 10008 121 2 x4))))) else Q none σ) := j3_T.go d [0] 400
def T159 (d : Nat) (Q : j3_P) : j3_K := j3_T true (j3_tc true d) jc_X10_take (some .int) Q
theorem e159 {d : Nat} {Q : j3_P} {σ : j3_S} {x1 : Int} {x2 : Int} : j3_tc true (d + 1) 159 [wO 10 121, wI x1, wI x2] σ Q = T159 d Q 0 [wO 10 121, wI x1, wI x2, wM 2] [] σ := j3_entry ⟨Nat.le_of_ble_eq_true rfl, rfl⟩
set_option maxRecDepth 100000 in
theorem b159_0 {d : Nat} {Q : j3_P} {σ : j3_S} {x1 : Int} {x2 : Int} :
  T159 d Q 0 [wO 10 121, wI x1, wI x2, wM 2] [] σ = (if (σ.1 10007 121) = 0 then (if (σ.1 10004 121) < (σ.1 10003 121) then ((0 ≤ (σ.1 10004 121) ∧ (σ.1 10004 121) < 4000) ∧ (if (σ.2.2 10001 121 (σ.1 10004 121)) < x1 then T159 d Q 31 [wO 10 121, wI x1, wI x2, wI (σ.2.2 10001 121 (σ.1 10004 121))] [] σ else (if x2 < (σ.2.2 10001 121 (σ.1 10004 121)) then T159 d Q 31 [wO 10 121, wI x1, wI x2, wI (σ.2.2 10001 121 (σ.1 10004 121))] [] σ else Q (some (wI (σ.2.2 10001 121 (σ.1 10004 121)))) ((j3_up σ.1 10004 121 (wr ((σ.1 10004 121) + 1))), σ.2.1, σ.2.2)))) else j3_tc true d 158 [wO 10 121, wI 1, wI (σ.1 10003 121), wI (-1), wI (-1)] σ (fun r σ1 => T159 d Q 17 [wO 10 121, wI x1, wI x2, wM 2] (r.toList ++ []) σ1)) else Q (some (wI x1)) σ) := j3_T.go d [0, 17, 31, 38] 400
set_option maxRecDepth 100000 in
theorem b159_17 {d : Nat} {Q : j3_P} {σ : j3_S} {x1 : Int} {x2 : Int} :
  T159 d Q 17 [wO 10 121, wI x1, wI x2, wM 2] [] σ = Q (some (wI x1)) σ := j3_T.go d [0, 17, 31, 38] 400
set_option maxRecDepth 100000 in
theorem b159_31 {d : Nat} {Q : j3_P} {σ : j3_S} {x1 : Int} {x2 : Int} {x3 : Int} :
  T159 d Q 31 [wO 10 121, wI x1, wI x2, wI x3] [] σ = j3_tc true d 158 [wO 10 121, wI 1, wI (σ.1 10004 121), wI (-1), wI (-1)] σ (fun r σ1 => T159 d Q 38 [wO 10 121, wI x1, wI x2, wI x3] (r.toList ++ []) σ1) := j3_T.go d [0, 17, 31, 38] 400
set_option maxRecDepth 100000 in
theorem b159_38 {d : Nat} {Q : j3_P} {σ : j3_S} {x1 : Int} {x2 : Int} {x3 : Int} :
  T159 d Q 38 [wO 10 121, wI x1, wI x2, wI x3] [] σ = Q (some (wI x1)) σ := j3_T.go d [0, 17, 31, 38] 400
def T160 (d : Nat) (Q : j3_P) : j3_K := j3_T true (j3_tc true d) jc_X10_index (some .int) Q
theorem e160 {d : Nat} {Q : j3_P} {σ : j3_S} {x0 : Int} {x1 : Int} {x2 : Int} : j3_tc true (d + 1) 160 [wI x0, wI x1, wI x2] σ Q = T160 d Q 0 [wI x0, wI x1, wI x2] [] σ := j3_entry ⟨Nat.le_of_ble_eq_true rfl, rfl⟩
set_option maxRecDepth 100000 in
theorem b160_0 {d : Nat} {Q : j3_P} {σ : j3_S} {x0 : Int} {x1 : Int} {x2 : Int} :
  T160 d Q 0 [wI x0, wI x1, wI x2] [] σ = Q (some (wI (wr ((wr ((wr (9600 * x0)) + (wr (120 * x1)))) + x2)))) σ := j3_T.go d [0] 400
def T161 (d : Nat) (Q : j3_P) : j3_K := j3_T true (j3_tc true d) jc_X10_readAll none Q
theorem e161 {d : Nat} {Q : j3_P} {σ : j3_S}  : j3_tc true (d + 1) 161 [wO 10 121] σ Q = T161 d Q 0 [wO 10 121, wM 2] [] σ := j3_entry ⟨Nat.le_of_ble_eq_true rfl, rfl⟩
set_option maxRecDepth 100000 in
theorem b161_0 {d : Nat} {Q : j3_P} {σ : j3_S}  :
  T161 d Q 0 [wO 10 121, wM 2] [] σ = j3_tc true d 159 [wO 10 121, wI 83, wI 83] ((j3_up σ.1 10004 121 0), σ.2.1, σ.2.2) (fun r σ1 => T161 d Q 7 [wO 10 121, wM 2] (r.toList ++ []) σ1) := j3_T.go d [0, 7, 12, 20, 28, 40, 42, 57] 400
set_option maxRecDepth 100000 in
theorem b161_7 {d : Nat} {Q : j3_P} {σ : j3_S} {xs0 : Int} :
  T161 d Q 7 [wO 10 121, wM 2] [wI xs0] σ = j3_tc true d 159 [wO 10 121, wI 72, wI 72] σ (fun r σ1 => T161 d Q 12 [wO 10 121, wM 2] (r.toList ++ []) σ1) := j3_T.go d [0, 7, 12, 20, 28, 40, 42, 57] 400
set_option maxRecDepth 100000 in
theorem b161_12 {d : Nat} {Q : j3_P} {σ : j3_S} {xs0 : Int} :
  T161 d Q 12 [wO 10 121, wM 2] [wI xs0] σ = j3_tc true d 159 [wO 10 121, wI 1, wI 10] σ (fun r σ1 => T161 d Q 20 [wO 10 121, wM 2] (r.toList ++ [wI 2, wA 10009 121]) σ1) := j3_T.go d [0, 7, 12, 20, 28, 40, 42, 57] 400
set_option maxRecDepth 100000 in
theorem b161_20 {d : Nat} {Q : j3_P} {σ : j3_S} {xs0 : Int} {xs1 : Int} :
  T161 d Q 20 [wO 10 121, wM 2] [wI xs0, wI xs1, wA 10009 121] σ = ((0 ≤ xs1 ∧ xs1 < 3) ∧ ((0 ≤ (2 : Int) ∧ (2 : Int) < 3) ∧ T161 d Q 28 [wO 10 121, wI 0] [] (σ.1, σ.2.1, (j3_ast (j3_ast σ.2.2 10009 121 xs1 xs0) 10018 121 2 0)))) := j3_T.go d [0, 7, 12, 20, 28, 40, 42, 57] 400
set_option maxRecDepth 100000 in
theorem b161_28 {d : Nat} {Q : j3_P} {σ : j3_S} {x1 : Int} :
  T161 d Q 28 [wO 10 121, wI x1] [] σ = ((0 ≤ (2 : Int) ∧ (2 : Int) < 3) ∧ (if x1 < (σ.2.2 10009 121 2) then (if (σ.1 10007 121) = 0 then j3_tc true d 162 [wO 10 121, wI x1] σ (fun r σ1 => T161 d Q 40 [wO 10 121, wI x1] (r.toList ++ []) σ1) else T161 d Q 42 [wO 10 121, wI x1] [] σ) else T161 d Q 42 [wO 10 121, wI x1] [] σ)) := j3_T.go d [0, 7, 12, 20, 28, 40, 42, 57] 400
set_option maxRecDepth 100000 in
theorem b161_40 {d : Nat} {Q : j3_P} {σ : j3_S} {x1 : Int} :
  T161 d Q 40 [wO 10 121, wI x1] [] σ = T161 d Q 28 [wO 10 121, wI (wr (x1 + 1))] [] σ := j3_T.go d [0, 7, 12, 20, 28, 40, 42, 57] 400
set_option maxRecDepth 100000 in
theorem b161_42 {d : Nat} {Q : j3_P} {σ : j3_S} {x1 : Int} :
  T161 d Q 42 [wO 10 121, wI x1] [] σ = (if (σ.1 10007 121) = 0 then (if (σ.1 10004 121) < (σ.1 10003 121) then j3_tc true d 158 [wO 10 121, wI 1, wI (σ.1 10004 121), wI (-1), wI (-1)] σ (fun r σ1 => T161 d Q 57 [wO 10 121, wI x1] (r.toList ++ []) σ1) else T161 d Q 57 [wO 10 121, wI x1] [] σ) else T161 d Q 57 [wO 10 121, wI x1] [] σ) := j3_T.go d [0, 7, 12, 20, 28, 40, 42, 57] 400
set_option maxRecDepth 100000 in
theorem b161_57 {d : Nat} {Q : j3_P} {σ : j3_S} {x1 : Int} :
  T161 d Q 57 [wO 10 121, wI x1] [] σ = ((0 ≤ (2 : Int) ∧ (2 : Int) < 3) ∧ Q none (σ.1, σ.2.1, (j3_ast σ.2.2 10034 121 2 (σ.1 10003 121)))) := j3_T.go d [0, 7, 12, 20, 28, 40, 42, 57] 400
def T162 (d : Nat) (Q : j3_P) : j3_K := j3_T true (j3_tc true d) jc_X10_readClass none Q
theorem e162 {d : Nat} {Q : j3_P} {σ : j3_S} {x1 : Int} : j3_tc true (d + 1) 162 [wO 10 121, wI x1] σ Q = T162 d Q 0 [wO 10 121, wI x1, wM 2, wM 2, wM 2] [] σ := j3_entry ⟨Nat.le_of_ble_eq_true rfl, rfl⟩
set_option maxRecDepth 100000 in
theorem b162_0 {d : Nat} {Q : j3_P} {σ : j3_S} {x1 : Int} :
  T162 d Q 0 [wO 10 121, wI x1, wM 2, wM 2, wM 2] [] σ = j3_tc true d 159 [wO 10 121, wI 1, wI 255] σ (fun r σ1 => T162 d Q 11 [wO 10 121, wI x1, wI (wr (20 + x1)), wM 2, wM 2] (r.toList ++ [wI (wr (20 + x1)), wA 10010 121]) σ1) := j3_T.go d [0, 11, 19, 29, 32, 56, 67, 75, 78, 85, 96, 108] 400
set_option maxRecDepth 100000 in
theorem b162_11 {d : Nat} {Q : j3_P} {σ : j3_S} {x1 : Int} {x2 : Int} {xs0 : Int} {xs1 : Int} :
  T162 d Q 11 [wO 10 121, wI x1, wI x2, wM 2, wM 2] [wI xs0, wI xs1, wA 10010 121] σ = ((0 ≤ xs1 ∧ xs1 < 30) ∧ j3_tc true d 159 [wO 10 121, wI 0, wI x1] (σ.1, σ.2.1, (j3_ast σ.2.2 10010 121 xs1 xs0)) (fun r σ1 => T162 d Q 19 [wO 10 121, wI x1, wI x2, wM 2, wM 2] (r.toList ++ [wI x2, wA 10011 121]) σ1)) := j3_T.go d [0, 11, 19, 29, 32, 56, 67, 75, 78, 85, 96, 108] 400
set_option maxRecDepth 100000 in
theorem b162_19 {d : Nat} {Q : j3_P} {σ : j3_S} {x1 : Int} {x2 : Int} {xs0 : Int} {xs1 : Int} :
  T162 d Q 19 [wO 10 121, wI x1, wI x2, wM 2, wM 2] [wI xs0, wI xs1, wA 10011 121] σ = ((0 ≤ xs1 ∧ xs1 < 30) ∧ j3_tc true d 159 [wO 10 121, wI 0, wI 6] (σ.1, σ.2.1, (j3_ast σ.2.2 10011 121 xs1 (wr (xs0 - 1)))) (fun r σ1 => T162 d Q 29 [wO 10 121, wI x1, wI x2, wM 2, wM 2] (r.toList ++ [wI x2, wA 10012 121]) σ1)) := j3_T.go d [0, 11, 19, 29, 32, 56, 67, 75, 78, 85, 96, 108] 400
set_option maxRecDepth 100000 in
theorem b162_29 {d : Nat} {Q : j3_P} {σ : j3_S} {x1 : Int} {x2 : Int} {xs0 : Int} {xs1 : Int} :
  T162 d Q 29 [wO 10 121, wI x1, wI x2, wM 2, wM 2] [wI xs0, wI xs1, wA 10012 121] σ = ((0 ≤ xs1 ∧ xs1 < 30) ∧ T162 d Q 32 [wO 10 121, wI x1, wI x2, wI 0, wM 2] [] (σ.1, σ.2.1, (j3_ast σ.2.2 10012 121 xs1 xs0))) := j3_T.go d [0, 11, 19, 29, 32, 56, 67, 75, 78, 85, 96, 108] 400
set_option maxRecDepth 100000 in
theorem b162_32 {d : Nat} {Q : j3_P} {σ : j3_S} {x1 : Int} {x2 : Int} {x3 : Int} {w4 : j3_W} :
  T162 d Q 32 [wO 10 121, wI x1, wI x2, wI x3, w4] [] σ = ((0 ≤ x2 ∧ x2 < 30) ∧ (if x3 < (σ.2.2 10012 121 x2) then (if (σ.1 10007 121) = 0 then j3_tc true d 159 [wO 10 121, wI 1, wI 255] σ (fun r σ1 => T162 d Q 56 [wO 10 121, wI x1, wI x2, wI x3, wI (wr ((wr (120 + (wr (6 * x1)))) + x3))] (r.toList ++ [wI (wr ((wr (120 + (wr (6 * x1)))) + x3)), wA 10015 121]) σ1) else T162 d Q 78 [wO 10 121, wI x1, wI x2, wI x3, w4] [] σ) else T162 d Q 78 [wO 10 121, wI x1, wI x2, wI x3, w4] [] σ)) := j3_T.go d [0, 11, 19, 29, 32, 56, 67, 75, 78, 85, 96, 108] 400
set_option maxRecDepth 100000 in
theorem b162_56 {d : Nat} {Q : j3_P} {σ : j3_S} {x1 : Int} {x2 : Int} {x3 : Int} {x4 : Int} {xs0 : Int} {xs1 : Int} :
  T162 d Q 56 [wO 10 121, wI x1, wI x2, wI x3, wI x4] [wI xs0, wI xs1, wA 10015 121] σ = ((0 ≤ xs1 ∧ xs1 < 180) ∧ ((0 ≤ (2 : Int) ∧ (2 : Int) < 3) ∧ j3_tc true d 159 [wO 10 121, wI 0, wI (σ.2.2 10009 121 2)] (σ.1, σ.2.1, (j3_ast σ.2.2 10015 121 xs1 xs0)) (fun r σ1 => T162 d Q 67 [wO 10 121, wI x1, wI x2, wI x3, wI x4] (r.toList ++ [wI x4, wA 10016 121]) σ1))) := j3_T.go d [0, 11, 19, 29, 32, 56, 67, 75, 78, 85, 96, 108] 400
set_option maxRecDepth 100000 in
theorem b162_67 {d : Nat} {Q : j3_P} {σ : j3_S} {x1 : Int} {x2 : Int} {x3 : Int} {x4 : Int} {xs0 : Int} {xs1 : Int} :
  T162 d Q 67 [wO 10 121, wI x1, wI x2, wI x3, wI x4] [wI xs0, wI xs1, wA 10016 121] σ = ((0 ≤ xs1 ∧ xs1 < 180) ∧ j3_tc true d 159 [wO 10 121, wI 0, wI 1] (σ.1, σ.2.1, (j3_ast σ.2.2 10016 121 xs1 xs0)) (fun r σ1 => T162 d Q 75 [wO 10 121, wI x1, wI x2, wI x3, wI x4] (r.toList ++ [wI x4, wA 10017 121]) σ1)) := j3_T.go d [0, 11, 19, 29, 32, 56, 67, 75, 78, 85, 96, 108] 400
set_option maxRecDepth 100000 in
theorem b162_75 {d : Nat} {Q : j3_P} {σ : j3_S} {x1 : Int} {x2 : Int} {x3 : Int} {x4 : Int} {xs0 : Int} {xs1 : Int} :
  T162 d Q 75 [wO 10 121, wI x1, wI x2, wI x3, wI x4] [wI xs0, wI xs1, wA 10017 121] σ = ((0 ≤ xs1 ∧ xs1 < 180) ∧ T162 d Q 32 [wO 10 121, wI x1, wI x2, wI (wr (x3 + 1)), wI x4] [] (σ.1, σ.2.1, (j3_ast σ.2.2 10017 121 xs1 xs0))) := j3_T.go d [0, 11, 19, 29, 32, 56, 67, 75, 78, 85, 96, 108] 400
set_option maxRecDepth 100000 in
theorem b162_78 {d : Nat} {Q : j3_P} {σ : j3_S} {x1 : Int} {x2 : Int} {x3 : Int} {w4 : j3_W} :
  T162 d Q 78 [wO 10 121, wI x1, wI x2, wI x3, w4] [] σ = j3_tc true d 159 [wO 10 121, wI 0, wI 8] σ (fun r σ1 => T162 d Q 85 [wO 10 121, wI x1, wI x2, wI x3, w4] (r.toList ++ [wI x2, wA 10014 121]) σ1) := j3_T.go d [0, 11, 19, 29, 32, 56, 67, 75, 78, 85, 96, 108] 400
set_option maxRecDepth 100000 in
theorem b162_85 {d : Nat} {Q : j3_P} {σ : j3_S} {x1 : Int} {x2 : Int} {x3 : Int} {w4 : j3_W} {xs0 : Int} {xs1 : Int} :
  T162 d Q 85 [wO 10 121, wI x1, wI x2, wI x3, w4] [wI xs0, wI xs1, wA 10014 121] σ = ((0 ≤ xs1 ∧ xs1 < 30) ∧ ((0 ≤ (2 : Int) ∧ (2 : Int) < 3) ∧ ((0 ≤ x2 ∧ x2 < 30) ∧ T162 d Q 96 [wO 10 121, wI x1, wI x2, wI 0, w4] [] (σ.1, σ.2.1, (j3_ast (j3_ast σ.2.2 10014 121 xs1 xs0) 10013 121 x2 (σ.2.2 10018 121 2)))))) := j3_T.go d [0, 11, 19, 29, 32, 56, 67, 75, 78, 85, 96, 108] 400
set_option maxRecDepth 100000 in
theorem b162_96 {d : Nat} {Q : j3_P} {σ : j3_S} {x1 : Int} {x2 : Int} {x3 : Int} {w4 : j3_W} :
  T162 d Q 96 [wO 10 121, wI x1, wI x2, wI x3, w4] [] σ = ((0 ≤ x2 ∧ x2 < 30) ∧ (if x3 < (σ.2.2 10014 121 x2) then (if (σ.1 10007 121) = 0 then j3_tc true d 163 [wO 10 121, wI x1] σ (fun r σ1 => T162 d Q 108 [wO 10 121, wI x1, wI x2, wI x3, w4] (r.toList ++ []) σ1) else Q none σ) else Q none σ)) := j3_T.go d [0, 11, 19, 29, 32, 56, 67, 75, 78, 85, 96, 108] 400
set_option maxRecDepth 100000 in
theorem b162_108 {d : Nat} {Q : j3_P} {σ : j3_S} {x1 : Int} {x2 : Int} {x3 : Int} {w4 : j3_W} :
  T162 d Q 108 [wO 10 121, wI x1, wI x2, wI x3, w4] [] σ = T162 d Q 96 [wO 10 121, wI x1, wI x2, wI (wr (x3 + 1)), w4] [] σ := j3_T.go d [0, 11, 19, 29, 32, 56, 67, 75, 78, 85, 96, 108] 400
def T163 (d : Nat) (Q : j3_P) : j3_K := j3_T true (j3_tc true d) jc_X10_readMethod none Q
theorem e163 {d : Nat} {Q : j3_P} {σ : j3_S} {x1 : Int} : j3_tc true (d + 1) 163 [wO 10 121, wI x1] σ Q = T163 d Q 0 [wO 10 121, wI x1, wM 2, wM 2, wM 2] [] σ := j3_entry ⟨Nat.le_of_ble_eq_true rfl, rfl⟩
set_option maxRecDepth 100000 in
theorem b163_0 {d : Nat} {Q : j3_P} {σ : j3_S} {x1 : Int} :
  T163 d Q 0 [wO 10 121, wI x1, wM 2, wM 2, wM 2] [] σ = ((0 ≤ (2 : Int) ∧ (2 : Int) < 3) ∧ ((0 ≤ (2 : Int) ∧ (2 : Int) < 3) ∧ ((0 ≤ (2 : Int) ∧ (2 : Int) < 3) ∧ ((0 ≤ (wr (160 + (σ.2.2 10018 121 2))) ∧ (wr (160 + (σ.2.2 10018 121 2))) < 240) ∧ j3_tc true d 159 [wO 10 121, wI 1, wI 255] (σ.1, σ.2.1, (j3_ast (j3_ast σ.2.2 10018 121 2 (wr ((σ.2.2 10018 121 2) + 1))) 10019 121 (wr (160 + (σ.2.2 10018 121 2))) x1)) (fun r σ1 => T163 d Q 29 [wO 10 121, wI x1, wI (σ.2.2 10018 121 2), wI (wr (160 + (σ.2.2 10018 121 2))), wM 2] (r.toList ++ [wI (wr (160 + (σ.2.2 10018 121 2))), wA 10020 121]) σ1))))) := j3_T.go d [0, 29, 37, 50, 58, 61, 84, 87, 104, 112, 115, 130, 131] 400
set_option maxRecDepth 100000 in
theorem b163_29 {d : Nat} {Q : j3_P} {σ : j3_S} {x1 : Int} {x2 : Int} {x3 : Int} {xs0 : Int} {xs1 : Int} :
  T163 d Q 29 [wO 10 121, wI x1, wI x2, wI x3, wM 2] [wI xs0, wI xs1, wA 10020 121] σ = ((0 ≤ xs1 ∧ xs1 < 240) ∧ j3_tc true d 159 [wO 10 121, wI 0, wI 1] (σ.1, σ.2.1, (j3_ast σ.2.2 10020 121 xs1 xs0)) (fun r σ1 => T163 d Q 37 [wO 10 121, wI x1, wI x2, wI x3, wM 2] (r.toList ++ [wI x3, wA 10021 121]) σ1)) := j3_T.go d [0, 29, 37, 50, 58, 61, 84, 87, 104, 112, 115, 130, 131] 400
set_option maxRecDepth 100000 in
theorem b163_37 {d : Nat} {Q : j3_P} {σ : j3_S} {x1 : Int} {x2 : Int} {x3 : Int} {xs0 : Int} {xs1 : Int} :
  T163 d Q 37 [wO 10 121, wI x1, wI x2, wI x3, wM 2] [wI xs0, wI xs1, wA 10021 121] σ = ((0 ≤ xs1 ∧ xs1 < 240) ∧ ((0 ≤ (2 : Int) ∧ (2 : Int) < 3) ∧ j3_tc true d 159 [wO 10 121, wI 0, wI (wr (1 + (σ.2.2 10009 121 2)))] (σ.1, σ.2.1, (j3_ast σ.2.2 10021 121 xs1 xs0)) (fun r σ1 => T163 d Q 50 [wO 10 121, wI x1, wI x2, wI x3, wM 2] (r.toList ++ [wI x3, wA 10022 121]) σ1))) := j3_T.go d [0, 29, 37, 50, 58, 61, 84, 87, 104, 112, 115, 130, 131] 400
set_option maxRecDepth 100000 in
theorem b163_50 {d : Nat} {Q : j3_P} {σ : j3_S} {x1 : Int} {x2 : Int} {x3 : Int} {xs0 : Int} {xs1 : Int} :
  T163 d Q 50 [wO 10 121, wI x1, wI x2, wI x3, wM 2] [wI xs0, wI xs1, wA 10022 121] σ = ((0 ≤ xs1 ∧ xs1 < 240) ∧ j3_tc true d 159 [wO 10 121, wI 0, wI 3] (σ.1, σ.2.1, (j3_ast σ.2.2 10022 121 xs1 xs0)) (fun r σ1 => T163 d Q 58 [wO 10 121, wI x1, wI x2, wI x3, wM 2] (r.toList ++ [wI x3, wA 10023 121]) σ1)) := j3_T.go d [0, 29, 37, 50, 58, 61, 84, 87, 104, 112, 115, 130, 131] 400
set_option maxRecDepth 100000 in
theorem b163_58 {d : Nat} {Q : j3_P} {σ : j3_S} {x1 : Int} {x2 : Int} {x3 : Int} {xs0 : Int} {xs1 : Int} :
  T163 d Q 58 [wO 10 121, wI x1, wI x2, wI x3, wM 2] [wI xs0, wI xs1, wA 10023 121] σ = ((0 ≤ xs1 ∧ xs1 < 240) ∧ T163 d Q 61 [wO 10 121, wI x1, wI x2, wI x3, wI 0] [] (σ.1, σ.2.1, (j3_ast σ.2.2 10023 121 xs1 xs0))) := j3_T.go d [0, 29, 37, 50, 58, 61, 84, 87, 104, 112, 115, 130, 131] 400
set_option maxRecDepth 100000 in
theorem b163_61 {d : Nat} {Q : j3_P} {σ : j3_S} {x1 : Int} {x2 : Int} {x3 : Int} {x4 : Int} :
  T163 d Q 61 [wO 10 121, wI x1, wI x2, wI x3, wI x4] [] σ = ((0 ≤ x3 ∧ x3 < 240) ∧ (if x4 < (σ.2.2 10023 121 x3) then (if (σ.1 10007 121) = 0 then ((0 ≤ (2 : Int) ∧ (2 : Int) < 3) ∧ j3_tc true d 159 [wO 10 121, wI 0, wI (σ.2.2 10009 121 2)] σ (fun r σ1 => T163 d Q 84 [wO 10 121, wI x1, wI x2, wI x3, wI x4] (r.toList ++ [wI (wr ((wr (3 * x3)) + x4)), wA 10024 121]) σ1)) else T163 d Q 87 [wO 10 121, wI x1, wI x2, wI x3, wI x4] [] σ) else T163 d Q 87 [wO 10 121, wI x1, wI x2, wI x3, wI x4] [] σ)) := j3_T.go d [0, 29, 37, 50, 58, 61, 84, 87, 104, 112, 115, 130, 131] 400
set_option maxRecDepth 100000 in
theorem b163_84 {d : Nat} {Q : j3_P} {σ : j3_S} {x1 : Int} {x2 : Int} {x3 : Int} {x4 : Int} {xs0 : Int} {xs1 : Int} :
  T163 d Q 84 [wO 10 121, wI x1, wI x2, wI x3, wI x4] [wI xs0, wI xs1, wA 10024 121] σ = ((0 ≤ xs1 ∧ xs1 < 720) ∧ T163 d Q 61 [wO 10 121, wI x1, wI x2, wI x3, wI (wr (x4 + 1))] [] (σ.1, σ.2.1, (j3_ast σ.2.2 10024 121 xs1 xs0))) := j3_T.go d [0, 29, 37, 50, 58, 61, 84, 87, 104, 112, 115, 130, 131] 400
set_option maxRecDepth 100000 in
theorem b163_87 {d : Nat} {Q : j3_P} {σ : j3_S} {x1 : Int} {x2 : Int} {x3 : Int} {x4 : Int} :
  T163 d Q 87 [wO 10 121, wI x1, wI x2, wI x3, wI x4] [] σ = ((0 ≤ x3 ∧ x3 < 240) ∧ ((0 ≤ x3 ∧ x3 < 240) ∧ j3_tc true d 159 [wO 10 121, wI (wr ((wr ((σ.2.2 10023 121 x3) + 1)) - (σ.2.2 10021 121 x3))), wI 20] σ (fun r σ1 => T163 d Q 104 [wO 10 121, wI x1, wI x2, wI x3, wI x4] (r.toList ++ [wI x3, wA 10025 121]) σ1))) := j3_T.go d [0, 29, 37, 50, 58, 61, 84, 87, 104, 112, 115, 130, 131] 400
set_option maxRecDepth 100000 in
theorem b163_104 {d : Nat} {Q : j3_P} {σ : j3_S} {x1 : Int} {x2 : Int} {x3 : Int} {x4 : Int} {xs0 : Int} {xs1 : Int} :
  T163 d Q 104 [wO 10 121, wI x1, wI x2, wI x3, wI x4] [wI xs0, wI xs1, wA 10025 121] σ = ((0 ≤ xs1 ∧ xs1 < 240) ∧ j3_tc true d 159 [wO 10 121, wI 1, wI 120] (σ.1, σ.2.1, (j3_ast σ.2.2 10025 121 xs1 xs0)) (fun r σ1 => T163 d Q 112 [wO 10 121, wI x1, wI x2, wI x3, wI x4] (r.toList ++ [wI x3, wA 10026 121]) σ1)) := j3_T.go d [0, 29, 37, 50, 58, 61, 84, 87, 104, 112, 115, 130, 131] 400
set_option maxRecDepth 100000 in
theorem b163_112 {d : Nat} {Q : j3_P} {σ : j3_S} {x1 : Int} {x2 : Int} {x3 : Int} {x4 : Int} {xs0 : Int} {xs1 : Int} :
  T163 d Q 112 [wO 10 121, wI x1, wI x2, wI x3, wI x4] [wI xs0, wI xs1, wA 10026 121] σ = ((0 ≤ xs1 ∧ xs1 < 240) ∧ T163 d Q 115 [wO 10 121, wI x1, wI x2, wI x3, wI 0] [] (σ.1, σ.2.1, (j3_ast σ.2.2 10026 121 xs1 xs0))) := j3_T.go d [0, 29, 37, 50, 58, 61, 84, 87, 104, 112, 115, 130, 131] 400
set_option maxRecDepth 100000 in
theorem b163_115 {d : Nat} {Q : j3_P} {σ : j3_S} {x1 : Int} {x2 : Int} {x3 : Int} {x4 : Int} :
  T163 d Q 115 [wO 10 121, wI x1, wI x2, wI x3, wI x4] [] σ = ((0 ≤ x3 ∧ x3 < 240) ∧ (if x4 < (σ.2.2 10026 121 x3) then (if (σ.1 10007 121) = 0 then j3_tc true d 160 [wI 2, wI x2, wI x4] σ (fun r σ1 => T163 d Q 130 [wO 10 121, wI x1, wI x2, wI x3, wI x4] (r.toList ++ [wI x3, wO 10 121]) σ1) else Q none σ) else Q none σ)) := j3_T.go d [0, 29, 37, 50, 58, 61, 84, 87, 104, 112, 115, 130, 131] 400
set_option maxRecDepth 100000 in
theorem b163_130 {d : Nat} {Q : j3_P} {σ : j3_S} {x1 : Int} {x2 : Int} {x3 : Int} {x4 : Int} {xs0 : Int} {xs1 : Int} :
  T163 d Q 130 [wO 10 121, wI x1, wI x2, wI x3, wI x4] [wI xs0, wI xs1, wO 10 121] σ = j3_tc true d 166 [wO 10 121, wI xs1, wI xs0] σ (fun r σ1 => T163 d Q 131 [wO 10 121, wI x1, wI x2, wI x3, wI x4] (r.toList ++ []) σ1) := j3_T.go d [0, 29, 37, 50, 58, 61, 84, 87, 104, 112, 115, 130, 131] 400
set_option maxRecDepth 100000 in
theorem b163_131 {d : Nat} {Q : j3_P} {σ : j3_S} {x1 : Int} {x2 : Int} {x3 : Int} {x4 : Int} :
  T163 d Q 131 [wO 10 121, wI x1, wI x2, wI x3, wI x4] [] σ = T163 d Q 115 [wO 10 121, wI x1, wI x2, wI x3, wI (wr (x4 + 1))] [] σ := j3_T.go d [0, 29, 37, 50, 58, 61, 84, 87, 104, 112, 115, 130, 131] 400
def T164 (d : Nat) (Q : j3_P) : j3_K := j3_T true (j3_tc true d) jc_X10_isJump (some .boolean) Q
theorem e164 {d : Nat} {Q : j3_P} {σ : j3_S} {x0 : Int} : j3_tc true (d + 1) 164 [wI x0] σ Q = T164 d Q 0 [wI x0] [] σ := j3_entry ⟨Nat.le_of_ble_eq_true rfl, rfl⟩
set_option maxRecDepth 100000 in
theorem b164_0 {d : Nat} {Q : j3_P} {σ : j3_S} {x0 : Int} :
  T164 d Q 0 [wI x0] [] σ = (if x0 < (11 : Int) then (((0 : Int) = 0 ∨ (0 : Int) = 1) ∧ Q (some (wI 0)) σ) else (if (14 : Int) < x0 then (((0 : Int) = 0 ∨ (0 : Int) = 1) ∧ Q (some (wI 0)) σ) else (((1 : Int) = 0 ∨ (1 : Int) = 1) ∧ Q (some (wI 1)) σ))) := j3_T.go d [0] 400
def T165 (d : Nat) (Q : j3_P) : j3_K := j3_T true (j3_tc true d) jc_X10_hasTwo (some .boolean) Q
theorem e165 {d : Nat} {Q : j3_P} {σ : j3_S} {x0 : Int} : j3_tc true (d + 1) 165 [wI x0] σ Q = T165 d Q 0 [wI x0] [] σ := j3_entry ⟨Nat.le_of_ble_eq_true rfl, rfl⟩
set_option maxRecDepth 100000 in
theorem b165_0 {d : Nat} {Q : j3_P} {σ : j3_S} {x0 : Int} :
  T165 d Q 0 [wI x0] [] σ = (if x0 < (16 : Int) then (((0 : Int) = 0 ∨ (0 : Int) = 1) ∧ Q (some (wI 0)) σ) else (if (21 : Int) < x0 then (((0 : Int) = 0 ∨ (0 : Int) = 1) ∧ Q (some (wI 0)) σ) else (((1 : Int) = 0 ∨ (1 : Int) = 1) ∧ Q (some (wI 1)) σ))) := j3_T.go d [0] 400
def T166 (d : Nat) (Q : j3_P) : j3_K := j3_T true (j3_tc true d) jc_X10_readInstruction none Q
theorem e166 {d : Nat} {Q : j3_P} {σ : j3_S} {x1 : Int} {x2 : Int} : j3_tc true (d + 1) 166 [wO 10 121, wI x1, wI x2] σ Q = T166 d Q 0 [wO 10 121, wI x1, wI x2, wM 2, wM 2] [] σ := j3_entry ⟨Nat.le_of_ble_eq_true rfl, rfl⟩
set_option maxRecDepth 100000 in
theorem b166_0 {d : Nat} {Q : j3_P} {σ : j3_S} {x1 : Int} {x2 : Int} :
  T166 d Q 0 [wO 10 121, wI x1, wI x2, wM 2, wM 2] [] σ = j3_tc true d 159 [wO 10 121, wI 0, wI 26] σ (fun r σ1 => T166 d Q 4 [wO 10 121, wI x1, wI x2, wM 2, wM 2] (r.toList ++ []) σ1) := j3_T.go d [0, 4, 24, 40, 44, 50, 62, 63, 65, 78, 79, 84, 91, 103, 104, 114, 122] 400
set_option maxRecDepth 100000 in
theorem b166_4 {d : Nat} {Q : j3_P} {σ : j3_S} {x1 : Int} {x2 : Int} {xs0 : Int} :
  T166 d Q 4 [wO 10 121, wI x1, wI x2, wM 2, wM 2] [wI xs0] σ = ((0 ≤ x2 ∧ x2 < 28800) ∧ ((0 ≤ x2 ∧ x2 < 28800) ∧ ((0 ≤ x2 ∧ x2 < 28800) ∧ (if xs0 = 0 then T166 d Q 24 [wO 10 121, wI x1, wI x2, wI xs0, wI 0] [] (σ.1, σ.2.1, (j3_ast (j3_ast (j3_ast σ.2.2 10027 121 x2 xs0) 10028 121 x2 0) 10029 121 x2 0)) else T166 d Q 44 [wO 10 121, wI x1, wI x2, wI xs0, wM 2] [] (σ.1, σ.2.1, (j3_ast (j3_ast (j3_ast σ.2.2 10027 121 x2 xs0) 10028 121 x2 0) 10029 121 x2 0)))))) := j3_T.go d [0, 4, 24, 40, 44, 50, 62, 63, 65, 78, 79, 84, 91, 103, 104, 114, 122] 400
set_option maxRecDepth 100000 in
theorem b166_24 {d : Nat} {Q : j3_P} {σ : j3_S} {x1 : Int} {x2 : Int} {x3 : Int} {x4 : Int} :
  T166 d Q 24 [wO 10 121, wI x1, wI x2, wI x3, wI x4] [] σ = (if x4 < (4 : Int) then ((0 ≤ x2 ∧ x2 < 28800) ∧ j3_tc true d 159 [wO 10 121, wI 0, wI 255] σ (fun r σ1 => T166 d Q 40 [wO 10 121, wI x1, wI x2, wI x3, wI x4] (r.toList ++ [wI (i_sl (σ.2.2 10028 121 x2) 8), wI x2, wA 10028 121]) σ1)) else T166 d Q 44 [wO 10 121, wI x1, wI x2, wI x3, wI x4] [] σ) := j3_T.go d [0, 4, 24, 40, 44, 50, 62, 63, 65, 78, 79, 84, 91, 103, 104, 114, 122] 400
set_option maxRecDepth 100000 in
theorem b166_40 {d : Nat} {Q : j3_P} {σ : j3_S} {x1 : Int} {x2 : Int} {x3 : Int} {x4 : Int} {xs0 : Int} {xs1 : Int} {xs2 : Int} :
  T166 d Q 40 [wO 10 121, wI x1, wI x2, wI x3, wI x4] [wI xs0, wI xs1, wI xs2, wA 10028 121] σ = ((0 ≤ xs2 ∧ xs2 < 28800) ∧ T166 d Q 24 [wO 10 121, wI x1, wI x2, wI x3, wI (wr (x4 + 1))] [] (σ.1, σ.2.1, (j3_ast σ.2.2 10028 121 xs2 (i_or xs1 xs0)))) := j3_T.go d [0, 4, 24, 40, 44, 50, 62, 63, 65, 78, 79, 84, 91, 103, 104, 114, 122] 400
set_option maxRecDepth 100000 in
theorem b166_44 {d : Nat} {Q : j3_P} {σ : j3_S} {x1 : Int} {x2 : Int} {x3 : Int} {w4 : j3_W} :
  T166 d Q 44 [wO 10 121, wI x1, wI x2, wI x3, w4] [] σ = (if x3 = (2 : Int) then T166 d Q 50 [wO 10 121, wI x1, wI x2, wI x3, w4] [] σ else (if x3 = (3 : Int) then T166 d Q 50 [wO 10 121, wI x1, wI x2, wI x3, w4] [] σ else T166 d Q 63 [wO 10 121, wI x1, wI x2, wI x3, w4] [] σ)) := j3_T.go d [0, 4, 24, 40, 44, 50, 62, 63, 65, 78, 79, 84, 91, 103, 104, 114, 122] 400
set_option maxRecDepth 100000 in
theorem b166_50 {d : Nat} {Q : j3_P} {σ : j3_S} {x1 : Int} {x2 : Int} {x3 : Int} {w4 : j3_W} :
  T166 d Q 50 [wO 10 121, wI x1, wI x2, wI x3, w4] [] σ = ((0 ≤ x1 ∧ x1 < 240) ∧ j3_tc true d 159 [wO 10 121, wI 0, wI (wr ((σ.2.2 10025 121 x1) - 1))] σ (fun r σ1 => T166 d Q 62 [wO 10 121, wI x1, wI x2, wI x3, w4] (r.toList ++ [wI x2, wA 10028 121]) σ1)) := j3_T.go d [0, 4, 24, 40, 44, 50, 62, 63, 65, 78, 79, 84, 91, 103, 104, 114, 122] 400
set_option maxRecDepth 100000 in
theorem b166_62 {d : Nat} {Q : j3_P} {σ : j3_S} {x1 : Int} {x2 : Int} {x3 : Int} {w4 : j3_W} {xs0 : Int} {xs1 : Int} :
  T166 d Q 62 [wO 10 121, wI x1, wI x2, wI x3, w4] [wI xs0, wI xs1, wA 10028 121] σ = ((0 ≤ xs1 ∧ xs1 < 28800) ∧ T166 d Q 63 [wO 10 121, wI x1, wI x2, wI x3, w4] [] (σ.1, σ.2.1, (j3_ast σ.2.2 10028 121 xs1 xs0))) := j3_T.go d [0, 4, 24, 40, 44, 50, 62, 63, 65, 78, 79, 84, 91, 103, 104, 114, 122] 400
set_option maxRecDepth 100000 in
theorem b166_63 {d : Nat} {Q : j3_P} {σ : j3_S} {x1 : Int} {x2 : Int} {x3 : Int} {w4 : j3_W} :
  T166 d Q 63 [wO 10 121, wI x1, wI x2, wI x3, w4] [] σ = j3_tc true d 164 [wI x3] σ (fun r σ1 => T166 d Q 65 [wO 10 121, wI x1, wI x2, wI x3, w4] (r.toList ++ []) σ1) := j3_T.go d [0, 4, 24, 40, 44, 50, 62, 63, 65, 78, 79, 84, 91, 103, 104, 114, 122] 400
set_option maxRecDepth 100000 in
theorem b166_65 {d : Nat} {Q : j3_P} {σ : j3_S} {x1 : Int} {x2 : Int} {x3 : Int} {w4 : j3_W} {xs0 : Int} :
  T166 d Q 65 [wO 10 121, wI x1, wI x2, wI x3, w4] [wI xs0] σ = (if xs0 = 0 then T166 d Q 79 [wO 10 121, wI x1, wI x2, wI x3, w4] [] σ else ((0 ≤ x1 ∧ x1 < 240) ∧ j3_tc true d 159 [wO 10 121, wI 0, wI (wr ((σ.2.2 10026 121 x1) - 1))] σ (fun r σ1 => T166 d Q 78 [wO 10 121, wI x1, wI x2, wI x3, w4] (r.toList ++ [wI x2, wA 10028 121]) σ1))) := j3_T.go d [0, 4, 24, 40, 44, 50, 62, 63, 65, 78, 79, 84, 91, 103, 104, 114, 122] 400
set_option maxRecDepth 100000 in
theorem b166_78 {d : Nat} {Q : j3_P} {σ : j3_S} {x1 : Int} {x2 : Int} {x3 : Int} {w4 : j3_W} {xs0 : Int} {xs1 : Int} :
  T166 d Q 78 [wO 10 121, wI x1, wI x2, wI x3, w4] [wI xs0, wI xs1, wA 10028 121] σ = ((0 ≤ xs1 ∧ xs1 < 28800) ∧ T166 d Q 79 [wO 10 121, wI x1, wI x2, wI x3, w4] [] (σ.1, σ.2.1, (j3_ast σ.2.2 10028 121 xs1 xs0))) := j3_T.go d [0, 4, 24, 40, 44, 50, 62, 63, 65, 78, 79, 84, 91, 103, 104, 114, 122] 400
set_option maxRecDepth 100000 in
theorem b166_79 {d : Nat} {Q : j3_P} {σ : j3_S} {x1 : Int} {x2 : Int} {x3 : Int} {w4 : j3_W} :
  T166 d Q 79 [wO 10 121, wI x1, wI x2, wI x3, w4] [] σ = (if x3 = (15 : Int) then T166 d Q 91 [wO 10 121, wI x1, wI x2, wI x3, w4] [] σ else j3_tc true d 165 [wI x3] σ (fun r σ1 => T166 d Q 84 [wO 10 121, wI x1, wI x2, wI x3, w4] (r.toList ++ []) σ1)) := j3_T.go d [0, 4, 24, 40, 44, 50, 62, 63, 65, 78, 79, 84, 91, 103, 104, 114, 122] 400
set_option maxRecDepth 100000 in
theorem b166_84 {d : Nat} {Q : j3_P} {σ : j3_S} {x1 : Int} {x2 : Int} {x3 : Int} {w4 : j3_W} {xs0 : Int} :
  T166 d Q 84 [wO 10 121, wI x1, wI x2, wI x3, w4] [wI xs0] σ = (if xs0 = 0 then (if x3 = (24 : Int) then T166 d Q 91 [wO 10 121, wI x1, wI x2, wI x3, w4] [] σ else (if x3 = (25 : Int) then T166 d Q 91 [wO 10 121, wI x1, wI x2, wI x3, w4] [] σ else T166 d Q 104 [wO 10 121, wI x1, wI x2, wI x3, w4] [] σ)) else T166 d Q 91 [wO 10 121, wI x1, wI x2, wI x3, w4] [] σ) := j3_T.go d [0, 4, 24, 40, 44, 50, 62, 63, 65, 78, 79, 84, 91, 103, 104, 114, 122] 400
set_option maxRecDepth 100000 in
theorem b166_91 {d : Nat} {Q : j3_P} {σ : j3_S} {x1 : Int} {x2 : Int} {x3 : Int} {w4 : j3_W} :
  T166 d Q 91 [wO 10 121, wI x1, wI x2, wI x3, w4] [] σ = ((0 ≤ (2 : Int) ∧ (2 : Int) < 3) ∧ j3_tc true d 159 [wO 10 121, wI 0, wI (wr ((σ.2.2 10009 121 2) - 1))] σ (fun r σ1 => T166 d Q 103 [wO 10 121, wI x1, wI x2, wI x3, w4] (r.toList ++ [wI x2, wA 10028 121]) σ1)) := j3_T.go d [0, 4, 24, 40, 44, 50, 62, 63, 65, 78, 79, 84, 91, 103, 104, 114, 122] 400
set_option maxRecDepth 100000 in
theorem b166_103 {d : Nat} {Q : j3_P} {σ : j3_S} {x1 : Int} {x2 : Int} {x3 : Int} {w4 : j3_W} {xs0 : Int} {xs1 : Int} :
  T166 d Q 103 [wO 10 121, wI x1, wI x2, wI x3, w4] [wI xs0, wI xs1, wA 10028 121] σ = ((0 ≤ xs1 ∧ xs1 < 28800) ∧ T166 d Q 104 [wO 10 121, wI x1, wI x2, wI x3, w4] [] (σ.1, σ.2.1, (j3_ast σ.2.2 10028 121 xs1 xs0))) := j3_T.go d [0, 4, 24, 40, 44, 50, 62, 63, 65, 78, 79, 84, 91, 103, 104, 114, 122] 400
set_option maxRecDepth 100000 in
theorem b166_104 {d : Nat} {Q : j3_P} {σ : j3_S} {x1 : Int} {x2 : Int} {x3 : Int} {w4 : j3_W} :
  T166 d Q 104 [wO 10 121, wI x1, wI x2, wI x3, w4] [] σ = ((0 ≤ (wr (x2 - 19200)) ∧ (wr (x2 - 19200)) < 9600) ∧ j3_tc true d 165 [wI x3] (σ.1, σ.2.1, (j3_ast σ.2.2 10033 121 (wr (x2 - 19200)) (σ.1 10004 121))) (fun r σ1 => T166 d Q 114 [wO 10 121, wI x1, wI x2, wI x3, w4] (r.toList ++ []) σ1)) := j3_T.go d [0, 4, 24, 40, 44, 50, 62, 63, 65, 78, 79, 84, 91, 103, 104, 114, 122] 400
set_option maxRecDepth 100000 in
theorem b166_114 {d : Nat} {Q : j3_P} {σ : j3_S} {x1 : Int} {x2 : Int} {x3 : Int} {w4 : j3_W} {xs0 : Int} :
  T166 d Q 114 [wO 10 121, wI x1, wI x2, wI x3, w4] [wI xs0] σ = (if xs0 = 0 then Q none σ else j3_tc true d 159 [wO 10 121, wI 0, wI 255] σ (fun r σ1 => T166 d Q 122 [wO 10 121, wI x1, wI x2, wI x3, w4] (r.toList ++ [wI x2, wA 10029 121]) σ1)) := j3_T.go d [0, 4, 24, 40, 44, 50, 62, 63, 65, 78, 79, 84, 91, 103, 104, 114, 122] 400
set_option maxRecDepth 100000 in
theorem b166_122 {d : Nat} {Q : j3_P} {σ : j3_S} {x1 : Int} {x2 : Int} {x3 : Int} {w4 : j3_W} {xs0 : Int} {xs1 : Int} :
  T166 d Q 122 [wO 10 121, wI x1, wI x2, wI x3, w4] [wI xs0, wI xs1, wA 10029 121] σ = ((0 ≤ xs1 ∧ xs1 < 28800) ∧ Q none (σ.1, σ.2.1, (j3_ast σ.2.2 10029 121 xs1 xs0))) := j3_T.go d [0, 4, 24, 40, 44, 50, 62, 63, 65, 78, 79, 84, 91, 103, 104, 114, 122] 400
def T167 (d : Nat) (Q : j3_P) : j3_K := j3_T true (j3_tc true d) jc_X10_checkTold none Q
theorem e167 {d : Nat} {Q : j3_P} {σ : j3_S}  : j3_tc true (d + 1) 167 [wO 10 121] σ Q = T167 d Q 0 [wO 10 121, wM 2, wM 2, wM 2, wM 2, wM 2, wM 2] [] σ := j3_entry ⟨Nat.le_of_ble_eq_true rfl, rfl⟩
set_option maxRecDepth 100000 in
theorem b167_0 {d : Nat} {Q : j3_P} {σ : j3_S}  :
  T167 d Q 0 [wO 10 121, wM 2, wM 2, wM 2, wM 2, wM 2, wM 2] [] σ = T167 d Q 2 [wO 10 121, wI 0, wM 2, wM 2, wM 2, wM 2, wM 2] [] σ := j3_T.go d [0, 2, 13, 28, 36, 44, 70, 74, 101, 105, 106, 134, 135, 148, 150] 400
set_option maxRecDepth 100000 in
theorem b167_2 {d : Nat} {Q : j3_P} {σ : j3_S} {x1 : Int} {w2 : j3_W} {w3 : j3_W} {w4 : j3_W} {w5 : j3_W} {w6 : j3_W} :
  T167 d Q 2 [wO 10 121, wI x1, w2, w3, w4, w5, w6] [] σ = ((0 ≤ (2 : Int) ∧ (2 : Int) < 3) ∧ (if x1 < (σ.2.2 10018 121 2) then (if (σ.1 10007 121) = 0 then T167 d Q 13 [wO 10 121, wI x1, wI 0, w3, w4, w5, w6] [] σ else Q none σ) else Q none σ)) := j3_T.go d [0, 2, 13, 28, 36, 44, 70, 74, 101, 105, 106, 134, 135, 148, 150] 400
set_option maxRecDepth 100000 in
theorem b167_13 {d : Nat} {Q : j3_P} {σ : j3_S} {x1 : Int} {x2 : Int} {w3 : j3_W} {w4 : j3_W} {w5 : j3_W} {w6 : j3_W} :
  T167 d Q 13 [wO 10 121, wI x1, wI x2, w3, w4, w5, w6] [] σ = ((0 ≤ (wr (160 + x1)) ∧ (wr (160 + x1)) < 240) ∧ (if x2 < (σ.2.2 10026 121 (wr (160 + x1))) then (if (σ.1 10007 121) = 0 then j3_tc true d 160 [wI 2, wI x1, wI x2] σ (fun r σ1 => T167 d Q 28 [wO 10 121, wI x1, wI x2, w3, w4, w5, w6] (r.toList ++ []) σ1) else T167 d Q 150 [wO 10 121, wI x1, wI x2, w3, w4, w5, w6] [] σ) else T167 d Q 150 [wO 10 121, wI x1, wI x2, w3, w4, w5, w6] [] σ)) := j3_T.go d [0, 2, 13, 28, 36, 44, 70, 74, 101, 105, 106, 134, 135, 148, 150] 400
set_option maxRecDepth 100000 in
theorem b167_28 {d : Nat} {Q : j3_P} {σ : j3_S} {x1 : Int} {x2 : Int} {w3 : j3_W} {w4 : j3_W} {w5 : j3_W} {w6 : j3_W} {xs0 : Int} :
  T167 d Q 28 [wO 10 121, wI x1, wI x2, w3, w4, w5, w6] [wI xs0] σ = ((0 ≤ xs0 ∧ xs0 < 28800) ∧ j3_tc true d 165 [wI (σ.2.2 10027 121 xs0)] σ (fun r σ1 => T167 d Q 36 [wO 10 121, wI x1, wI x2, wI xs0, wI (σ.2.2 10027 121 xs0), w5, w6] (r.toList ++ []) σ1)) := j3_T.go d [0, 2, 13, 28, 36, 44, 70, 74, 101, 105, 106, 134, 135, 148, 150] 400
set_option maxRecDepth 100000 in
theorem b167_36 {d : Nat} {Q : j3_P} {σ : j3_S} {x1 : Int} {x2 : Int} {x3 : Int} {x4 : Int} {w5 : j3_W} {w6 : j3_W} {xs0 : Int} :
  T167 d Q 36 [wO 10 121, wI x1, wI x2, wI x3, wI x4, w5, w6] [wI xs0] σ = (if xs0 = 0 then T167 d Q 148 [wO 10 121, wI x1, wI x2, wI x3, wI x4, w5, w6] [] σ else (if (19 : Int) < x4 then T167 d Q 44 [wO 10 121, wI x1, wI x2, wI x3, wI x4, w5, w6] [wI 0] σ else T167 d Q 44 [wO 10 121, wI x1, wI x2, wI x3, wI x4, w5, w6] [wI 1] σ)) := j3_T.go d [0, 2, 13, 28, 36, 44, 70, 74, 101, 105, 106, 134, 135, 148, 150] 400
set_option maxRecDepth 100000 in
theorem b167_44 {d : Nat} {Q : j3_P} {σ : j3_S} {x1 : Int} {x2 : Int} {x3 : Int} {x4 : Int} {w5 : j3_W} {w6 : j3_W} {xs0 : Int} :
  T167 d Q 44 [wO 10 121, wI x1, wI x2, wI x3, wI x4, w5, w6] [wI xs0] σ = ((0 ≤ x3 ∧ x3 < 28800) ∧ (if xs0 = 0 then ((0 ≤ x3 ∧ x3 < 28800) ∧ ((0 ≤ (wr (20 + (σ.2.2 10028 121 x3))) ∧ (wr (20 + (σ.2.2 10028 121 x3))) < 30) ∧ T167 d Q 70 [wO 10 121, wI x1, wI x2, wI x3, wI x4, wI xs0, w6] [wI (σ.2.2 10014 121 (wr (20 + (σ.2.2 10028 121 x3)))), wI (σ.2.2 10029 121 x3)] σ)) else ((0 ≤ x3 ∧ x3 < 28800) ∧ ((0 ≤ (wr (20 + (σ.2.2 10028 121 x3))) ∧ (wr (20 + (σ.2.2 10028 121 x3))) < 30) ∧ T167 d Q 70 [wO 10 121, wI x1, wI x2, wI x3, wI x4, wI xs0, w6] [wI (σ.2.2 10012 121 (wr (20 + (σ.2.2 10028 121 x3)))), wI (σ.2.2 10029 121 x3)] σ)))) := j3_T.go d [0, 2, 13, 28, 36, 44, 70, 74, 101, 105, 106, 134, 135, 148, 150] 400
set_option maxRecDepth 100000 in
theorem b167_70 {d : Nat} {Q : j3_P} {σ : j3_S} {x1 : Int} {x2 : Int} {x3 : Int} {x4 : Int} {x5 : Int} {w6 : j3_W} {xs0 : Int} {xs1 : Int} :
  T167 d Q 70 [wO 10 121, wI x1, wI x2, wI x3, wI x4, wI x5, w6] [wI xs0, wI xs1] σ = (if xs1 < xs0 then T167 d Q 74 [wO 10 121, wI x1, wI x2, wI x3, wI x4, wI x5, w6] [wI 1] σ else T167 d Q 74 [wO 10 121, wI x1, wI x2, wI x3, wI x4, wI x5, w6] [wI 0] σ) := j3_T.go d [0, 2, 13, 28, 36, 44, 70, 74, 101, 105, 106, 134, 135, 148, 150] 400
set_option maxRecDepth 100000 in
theorem b167_74 {d : Nat} {Q : j3_P} {σ : j3_S} {x1 : Int} {x2 : Int} {x3 : Int} {x4 : Int} {x5 : Int} {w6 : j3_W} {xs0 : Int} :
  T167 d Q 74 [wO 10 121, wI x1, wI x2, wI x3, wI x4, wI x5, w6] [wI xs0] σ = (if xs0 = 0 then T167 d Q 106 [wO 10 121, wI x1, wI x2, wI x3, wI x4, wI x5, wI xs0] [] σ else (if x5 = 0 then T167 d Q 106 [wO 10 121, wI x1, wI x2, wI x3, wI x4, wI x5, wI xs0] [] σ else ((0 ≤ x3 ∧ x3 < 28800) ∧ ((0 ≤ x3 ∧ x3 < 28800) ∧ ((0 ≤ (wr ((wr (120 + (wr (6 * (σ.2.2 10028 121 x3))))) + (σ.2.2 10029 121 x3))) ∧ (wr ((wr (120 + (wr (6 * (σ.2.2 10028 121 x3))))) + (σ.2.2 10029 121 x3))) < 180) ∧ (if x4 < (18 : Int) then T167 d Q 101 [wO 10 121, wI x1, wI x2, wI x3, wI x4, wI x5, wI xs0] [wI 0, wI (σ.2.2 10017 121 (wr ((wr (120 + (wr (6 * (σ.2.2 10028 121 x3))))) + (σ.2.2 10029 121 x3))))] σ else T167 d Q 101 [wO 10 121, wI x1, wI x2, wI x3, wI x4, wI x5, wI xs0] [wI 1, wI (σ.2.2 10017 121 (wr ((wr (120 + (wr (6 * (σ.2.2 10028 121 x3))))) + (σ.2.2 10029 121 x3))))] σ)))))) := j3_T.go d [0, 2, 13, 28, 36, 44, 70, 74, 101, 105, 106, 134, 135, 148, 150] 400
set_option maxRecDepth 100000 in
theorem b167_101 {d : Nat} {Q : j3_P} {σ : j3_S} {x1 : Int} {x2 : Int} {x3 : Int} {x4 : Int} {x5 : Int} {x6 : Int} {xs0 : Int} {xs1 : Int} :
  T167 d Q 101 [wO 10 121, wI x1, wI x2, wI x3, wI x4, wI x5, wI x6] [wI xs0, wI xs1] σ = (if xs1 = xs0 then T167 d Q 105 [wO 10 121, wI x1, wI x2, wI x3, wI x4, wI x5, wI x6] [wI 1] σ else T167 d Q 105 [wO 10 121, wI x1, wI x2, wI x3, wI x4, wI x5, wI x6] [wI 0] σ) := j3_T.go d [0, 2, 13, 28, 36, 44, 70, 74, 101, 105, 106, 134, 135, 148, 150] 400
set_option maxRecDepth 100000 in
theorem b167_105 {d : Nat} {Q : j3_P} {σ : j3_S} {x1 : Int} {x2 : Int} {x3 : Int} {x4 : Int} {x5 : Int} {x6 : Int} {xs0 : Int} :
  T167 d Q 105 [wO 10 121, wI x1, wI x2, wI x3, wI x4, wI x5, wI x6] [wI xs0] σ = T167 d Q 106 [wO 10 121, wI x1, wI x2, wI x3, wI x4, wI x5, wI xs0] [] σ := j3_T.go d [0, 2, 13, 28, 36, 44, 70, 74, 101, 105, 106, 134, 135, 148, 150] 400
set_option maxRecDepth 100000 in
theorem b167_106 {d : Nat} {Q : j3_P} {σ : j3_S} {x1 : Int} {x2 : Int} {x3 : Int} {x4 : Int} {x5 : Int} {x6 : Int} :
  T167 d Q 106 [wO 10 121, wI x1, wI x2, wI x3, wI x4, wI x5, wI x6] [] σ = (if x6 = 0 then T167 d Q 135 [wO 10 121, wI x1, wI x2, wI x3, wI x4, wI x5, wI x6] [] σ else (if x4 = (21 : Int) then ((0 ≤ x3 ∧ x3 < 28800) ∧ ((0 ≤ (wr (20 + (σ.2.2 10028 121 x3))) ∧ (wr (20 + (σ.2.2 10028 121 x3))) < 30) ∧ ((0 ≤ x3 ∧ x3 < 28800) ∧ ((0 ≤ (wr ((wr (160 + (σ.2.2 10013 121 (wr (20 + (σ.2.2 10028 121 x3)))))) + (σ.2.2 10029 121 x3))) ∧ (wr ((wr (160 + (σ.2.2 10013 121 (wr (20 + (σ.2.2 10028 121 x3)))))) + (σ.2.2 10029 121 x3))) < 240) ∧ (if (σ.2.2 10021 121 (wr ((wr (160 + (σ.2.2 10013 121 (wr (20 + (σ.2.2 10028 121 x3)))))) + (σ.2.2 10029 121 x3)))) = 0 then T167 d Q 134 [wO 10 121, wI x1, wI x2, wI x3, wI x4, wI x5, wI x6] [wI 1] σ else T167 d Q 134 [wO 10 121, wI x1, wI x2, wI x3, wI x4, wI x5, wI x6] [wI 0] σ))))) else T167 d Q 135 [wO 10 121, wI x1, wI x2, wI x3, wI x4, wI x5, wI x6] [] σ)) := j3_T.go d [0, 2, 13, 28, 36, 44, 70, 74, 101, 105, 106, 134, 135, 148, 150] 400
set_option maxRecDepth 100000 in
theorem b167_134 {d : Nat} {Q : j3_P} {σ : j3_S} {x1 : Int} {x2 : Int} {x3 : Int} {x4 : Int} {x5 : Int} {x6 : Int} {xs0 : Int} :
  T167 d Q 134 [wO 10 121, wI x1, wI x2, wI x3, wI x4, wI x5, wI x6] [wI xs0] σ = T167 d Q 135 [wO 10 121, wI x1, wI x2, wI x3, wI x4, wI x5, wI xs0] [] σ := j3_T.go d [0, 2, 13, 28, 36, 44, 70, 74, 101, 105, 106, 134, 135, 148, 150] 400
set_option maxRecDepth 100000 in
theorem b167_135 {d : Nat} {Q : j3_P} {σ : j3_S} {x1 : Int} {x2 : Int} {x3 : Int} {x4 : Int} {x5 : Int} {x6 : Int} :
  T167 d Q 135 [wO 10 121, wI x1, wI x2, wI x3, wI x4, wI x5, wI x6] [] σ = (if x6 = 0 then ((0 ≤ (wr (x3 - 19200)) ∧ (wr (x3 - 19200)) < 9600) ∧ j3_tc true d 158 [wO 10 121, wI 1, wI (σ.2.2 10033 121 (wr (x3 - 19200))), wI (-1), wI (-1)] σ (fun r σ1 => T167 d Q 148 [wO 10 121, wI x1, wI x2, wI x3, wI x4, wI x5, wI x6] (r.toList ++ []) σ1)) else T167 d Q 148 [wO 10 121, wI x1, wI x2, wI x3, wI x4, wI x5, wI x6] [] σ) := j3_T.go d [0, 2, 13, 28, 36, 44, 70, 74, 101, 105, 106, 134, 135, 148, 150] 400
set_option maxRecDepth 100000 in
theorem b167_148 {d : Nat} {Q : j3_P} {σ : j3_S} {x1 : Int} {x2 : Int} {x3 : Int} {x4 : Int} {w5 : j3_W} {w6 : j3_W} :
  T167 d Q 148 [wO 10 121, wI x1, wI x2, wI x3, wI x4, w5, w6] [] σ = T167 d Q 13 [wO 10 121, wI x1, wI (wr (x2 + 1)), wI x3, wI x4, w5, w6] [] σ := j3_T.go d [0, 2, 13, 28, 36, 44, 70, 74, 101, 105, 106, 134, 135, 148, 150] 400
set_option maxRecDepth 100000 in
theorem b167_150 {d : Nat} {Q : j3_P} {σ : j3_S} {x1 : Int} {x2 : Int} {w3 : j3_W} {w4 : j3_W} {w5 : j3_W} {w6 : j3_W} :
  T167 d Q 150 [wO 10 121, wI x1, wI x2, w3, w4, w5, w6] [] σ = T167 d Q 2 [wO 10 121, wI (wr (x1 + 1)), wI x2, w3, w4, w5, w6] [] σ := j3_T.go d [0, 2, 13, 28, 36, 44, 70, 74, 101, 105, 106, 134, 135, 148, 150] 400
def T168 (d : Nat) (Q : j3_P) : j3_K := j3_T true (j3_tc true d) jc_X10_sameShape (some .boolean) Q
theorem e168 {d : Nat} {Q : j3_P} {σ : j3_S} {x1 : Int} {x2 : Int} : j3_tc true (d + 1) 168 [wO 10 121, wI x1, wI x2] σ Q = T168 d Q 0 [wO 10 121, wI x1, wI x2, wM 2, wM 2] [] σ := j3_entry ⟨Nat.le_of_ble_eq_true rfl, rfl⟩
set_option maxRecDepth 100000 in
theorem b168_0 {d : Nat} {Q : j3_P} {σ : j3_S} {x1 : Int} {x2 : Int} :
  T168 d Q 0 [wO 10 121, wI x1, wI x2, wM 2, wM 2] [] σ = ((0 ≤ x1 ∧ x1 < 240) ∧ (if (σ.2.2 10021 121 x1) = 0 then ((0 ≤ x2 ∧ x2 < 240) ∧ (if (σ.2.2 10021 121 x2) = 0 then ((0 ≤ x1 ∧ x1 < 240) ∧ ((0 ≤ x2 ∧ x2 < 240) ∧ (if (σ.2.2 10022 121 x1) = (σ.2.2 10022 121 x2) then ((0 ≤ x1 ∧ x1 < 240) ∧ ((0 ≤ x2 ∧ x2 < 240) ∧ (if (σ.2.2 10023 121 x1) = (σ.2.2 10023 121 x2) then T168 d Q 31 [wO 10 121, wI x1, wI x2, wM 2, wM 2] [wI 1] σ else T168 d Q 30 [wO 10 121, wI x1, wI x2, wM 2, wM 2] [] σ))) else T168 d Q 30 [wO 10 121, wI x1, wI x2, wM 2, wM 2] [] σ))) else T168 d Q 30 [wO 10 121, wI x1, wI x2, wM 2, wM 2] [] σ)) else T168 d Q 30 [wO 10 121, wI x1, wI x2, wM 2, wM 2] [] σ)) := j3_T.go d [0, 30, 31, 34, 62, 65] 400
set_option maxRecDepth 100000 in
theorem b168_30 {d : Nat} {Q : j3_P} {σ : j3_S} {x1 : Int} {x2 : Int} :
  T168 d Q 30 [wO 10 121, wI x1, wI x2, wM 2, wM 2] [] σ = T168 d Q 31 [wO 10 121, wI x1, wI x2, wM 2, wM 2] [wI 0] σ := j3_T.go d [0, 30, 31, 34, 62, 65] 400
set_option maxRecDepth 100000 in
theorem b168_31 {d : Nat} {Q : j3_P} {σ : j3_S} {x1 : Int} {x2 : Int} {xs0 : Int} :
  T168 d Q 31 [wO 10 121, wI x1, wI x2, wM 2, wM 2] [wI xs0] σ = T168 d Q 34 [wO 10 121, wI x1, wI x2, wI xs0, wI 0] [] σ := j3_T.go d [0, 30, 31, 34, 62, 65] 400
set_option maxRecDepth 100000 in
theorem b168_34 {d : Nat} {Q : j3_P} {σ : j3_S} {x1 : Int} {x2 : Int} {x3 : Int} {x4 : Int} :
  T168 d Q 34 [wO 10 121, wI x1, wI x2, wI x3, wI x4] [] σ = (if x4 < (3 : Int) then (if x3 = 0 then ((x3 = 0 ∨ x3 = 1) ∧ Q (some (wI x3)) σ) else ((0 ≤ x1 ∧ x1 < 240) ∧ (if x4 < (σ.2.2 10023 121 x1) then ((0 ≤ (wr ((wr (3 * x1)) + x4)) ∧ (wr ((wr (3 * x1)) + x4)) < 720) ∧ ((0 ≤ (wr ((wr (3 * x2)) + x4)) ∧ (wr ((wr (3 * x2)) + x4)) < 720) ∧ (if (σ.2.2 10024 121 (wr ((wr (3 * x1)) + x4))) = (σ.2.2 10024 121 (wr ((wr (3 * x2)) + x4))) then T168 d Q 62 [wO 10 121, wI x1, wI x2, wI x3, wI x4] [] σ else T168 d Q 65 [wO 10 121, wI x1, wI x2, wI x3, wI x4] [wI 0] σ))) else T168 d Q 62 [wO 10 121, wI x1, wI x2, wI x3, wI x4] [] σ))) else ((x3 = 0 ∨ x3 = 1) ∧ Q (some (wI x3)) σ)) := j3_T.go d [0, 30, 31, 34, 62, 65] 400
set_option maxRecDepth 100000 in
theorem b168_62 {d : Nat} {Q : j3_P} {σ : j3_S} {x1 : Int} {x2 : Int} {x3 : Int} {x4 : Int} :
  T168 d Q 62 [wO 10 121, wI x1, wI x2, wI x3, wI x4] [] σ = T168 d Q 65 [wO 10 121, wI x1, wI x2, wI x3, wI x4] [wI 1] σ := j3_T.go d [0, 30, 31, 34, 62, 65] 400
set_option maxRecDepth 100000 in
theorem b168_65 {d : Nat} {Q : j3_P} {σ : j3_S} {x1 : Int} {x2 : Int} {x3 : Int} {x4 : Int} {xs0 : Int} :
  T168 d Q 65 [wO 10 121, wI x1, wI x2, wI x3, wI x4] [wI xs0] σ = T168 d Q 34 [wO 10 121, wI x1, wI x2, wI xs0, wI (wr (x4 + 1))] [] σ := j3_T.go d [0, 30, 31, 34, 62, 65] 400
def T169 (d : Nat) (Q : j3_P) : j3_K := j3_T true (j3_tc true d) jc_X10_checkNames none Q
theorem e169 {d : Nat} {Q : j3_P} {σ : j3_S}  : j3_tc true (d + 1) 169 [wO 10 121] σ Q = T169 d Q 0 [wO 10 121, wM 2, wM 2, wM 2, wM 2, wM 2, wM 2, wM 2] [] σ := j3_entry ⟨Nat.le_of_ble_eq_true rfl, rfl⟩
set_option maxRecDepth 100000 in
theorem b169_0 {d : Nat} {Q : j3_P} {σ : j3_S}  :
  T169 d Q 0 [wO 10 121, wM 2, wM 2, wM 2, wM 2, wM 2, wM 2, wM 2] [] σ = T169 d Q 2 [wO 10 121, wI 0, wM 2, wM 2, wM 2, wM 2, wM 2, wM 2] [] σ := j3_T.go d [0, 2, 13, 23, 53, 59, 85, 110, 111, 121, 125, 159, 160, 162, 163, 182, 184] 400
set_option maxRecDepth 100000 in
theorem b169_2 {d : Nat} {Q : j3_P} {σ : j3_S} {x1 : Int} {w2 : j3_W} {w3 : j3_W} {w4 : j3_W} {w5 : j3_W} {w6 : j3_W} {w7 : j3_W} :
  T169 d Q 2 [wO 10 121, wI x1, w2, w3, w4, w5, w6, w7] [] σ = ((0 ≤ (2 : Int) ∧ (2 : Int) < 3) ∧ (if x1 < (σ.2.2 10009 121 2) then (if (σ.1 10007 121) = 0 then T169 d Q 13 [wO 10 121, wI x1, wI 0, w3, w4, w5, w6, w7] [] σ else Q none σ) else Q none σ)) := j3_T.go d [0, 2, 13, 23, 53, 59, 85, 110, 111, 121, 125, 159, 160, 162, 163, 182, 184] 400
set_option maxRecDepth 100000 in
theorem b169_13 {d : Nat} {Q : j3_P} {σ : j3_S} {x1 : Int} {x2 : Int} {w3 : j3_W} {w4 : j3_W} {w5 : j3_W} {w6 : j3_W} {w7 : j3_W} :
  T169 d Q 13 [wO 10 121, wI x1, wI x2, w3, w4, w5, w6, w7] [] σ = ((0 ≤ (wr (20 + x1)) ∧ (wr (20 + x1)) < 30) ∧ (if x2 < (σ.2.2 10012 121 (wr (20 + x1))) then T169 d Q 23 [wO 10 121, wI x1, wI x2, wI 0, w4, w5, w6, w7] [] σ else T169 d Q 59 [wO 10 121, wI x1, wI 0, w3, w4, w5, w6, w7] [] σ)) := j3_T.go d [0, 2, 13, 23, 53, 59, 85, 110, 111, 121, 125, 159, 160, 162, 163, 182, 184] 400
set_option maxRecDepth 100000 in
theorem b169_23 {d : Nat} {Q : j3_P} {σ : j3_S} {x1 : Int} {x2 : Int} {x3 : Int} {w4 : j3_W} {w5 : j3_W} {w6 : j3_W} {w7 : j3_W} :
  T169 d Q 23 [wO 10 121, wI x1, wI x2, wI x3, w4, w5, w6, w7] [] σ = (if x3 < x2 then ((0 ≤ (wr ((wr (120 + (wr (6 * x1)))) + x2)) ∧ (wr ((wr (120 + (wr (6 * x1)))) + x2)) < 180) ∧ ((0 ≤ (wr ((wr (120 + (wr (6 * x1)))) + x3)) ∧ (wr ((wr (120 + (wr (6 * x1)))) + x3)) < 180) ∧ (if (σ.2.2 10015 121 (wr ((wr (120 + (wr (6 * x1)))) + x2))) = (σ.2.2 10015 121 (wr ((wr (120 + (wr (6 * x1)))) + x3))) then j3_tc true d 158 [wO 10 121, wI 2, wI x1, wI x2, wI 0] σ (fun r σ1 => T169 d Q 53 [wO 10 121, wI x1, wI x2, wI x3, w4, w5, w6, w7] (r.toList ++ []) σ1) else T169 d Q 53 [wO 10 121, wI x1, wI x2, wI x3, w4, w5, w6, w7] [] σ))) else T169 d Q 13 [wO 10 121, wI x1, wI (wr (x2 + 1)), wI x3, w4, w5, w6, w7] [] σ) := j3_T.go d [0, 2, 13, 23, 53, 59, 85, 110, 111, 121, 125, 159, 160, 162, 163, 182, 184] 400
set_option maxRecDepth 100000 in
theorem b169_53 {d : Nat} {Q : j3_P} {σ : j3_S} {x1 : Int} {x2 : Int} {x3 : Int} {w4 : j3_W} {w5 : j3_W} {w6 : j3_W} {w7 : j3_W} :
  T169 d Q 53 [wO 10 121, wI x1, wI x2, wI x3, w4, w5, w6, w7] [] σ = T169 d Q 23 [wO 10 121, wI x1, wI x2, wI (wr (x3 + 1)), w4, w5, w6, w7] [] σ := j3_T.go d [0, 2, 13, 23, 53, 59, 85, 110, 111, 121, 125, 159, 160, 162, 163, 182, 184] 400
set_option maxRecDepth 100000 in
theorem b169_59 {d : Nat} {Q : j3_P} {σ : j3_S} {x1 : Int} {x2 : Int} {w3 : j3_W} {w4 : j3_W} {w5 : j3_W} {w6 : j3_W} {w7 : j3_W} :
  T169 d Q 59 [wO 10 121, wI x1, wI x2, w3, w4, w5, w6, w7] [] σ = ((0 ≤ (wr (20 + x1)) ∧ (wr (20 + x1)) < 30) ∧ (if x2 < (σ.2.2 10014 121 (wr (20 + x1))) then (if (σ.1 10007 121) = 0 then ((0 ≤ (wr (20 + x1)) ∧ (wr (20 + x1)) < 30) ∧ T169 d Q 85 [wO 10 121, wI x1, wI x2, wI (wr ((wr (160 + (σ.2.2 10013 121 (wr (20 + x1))))) + x2)), wI 1, wI 0, w6, w7] [] σ) else T169 d Q 184 [wO 10 121, wI x1, wI x2, w3, w4, w5, w6, w7] [] σ) else T169 d Q 184 [wO 10 121, wI x1, wI x2, w3, w4, w5, w6, w7] [] σ)) := j3_T.go d [0, 2, 13, 23, 53, 59, 85, 110, 111, 121, 125, 159, 160, 162, 163, 182, 184] 400
set_option maxRecDepth 100000 in
theorem b169_85 {d : Nat} {Q : j3_P} {σ : j3_S} {x1 : Int} {x2 : Int} {x3 : Int} {x4 : Int} {x5 : Int} {w6 : j3_W} {w7 : j3_W} :
  T169 d Q 85 [wO 10 121, wI x1, wI x2, wI x3, wI x4, wI x5, w6, w7] [] σ = (if x5 < x2 then (if x4 = 0 then T169 d Q 110 [wO 10 121, wI x1, wI x2, wI x3, wI x4, wI x5, w6, w7] [] σ else ((0 ≤ (wr (20 + x1)) ∧ (wr (20 + x1)) < 30) ∧ ((0 ≤ (wr ((wr (160 + (σ.2.2 10013 121 (wr (20 + x1))))) + x5)) ∧ (wr ((wr (160 + (σ.2.2 10013 121 (wr (20 + x1))))) + x5)) < 240) ∧ ((0 ≤ x3 ∧ x3 < 240) ∧ (if (σ.2.2 10020 121 (wr ((wr (160 + (σ.2.2 10013 121 (wr (20 + x1))))) + x5))) = (σ.2.2 10020 121 x3) then T169 d Q 110 [wO 10 121, wI x1, wI x2, wI x3, wI x4, wI x5, w6, w7] [] σ else T169 d Q 111 [wO 10 121, wI x1, wI x2, wI x3, wI x4, wI x5, w6, w7] [wI 1] σ))))) else ((0 ≤ (wr (20 + x1)) ∧ (wr (20 + x1)) < 30) ∧ T169 d Q 121 [wO 10 121, wI x1, wI x2, wI x3, wI x4, wI (σ.2.2 10011 121 (wr (20 + x1))), w6, w7] [] σ)) := j3_T.go d [0, 2, 13, 23, 53, 59, 85, 110, 111, 121, 125, 159, 160, 162, 163, 182, 184] 400
set_option maxRecDepth 100000 in
theorem b169_110 {d : Nat} {Q : j3_P} {σ : j3_S} {x1 : Int} {x2 : Int} {x3 : Int} {x4 : Int} {x5 : Int} {w6 : j3_W} {w7 : j3_W} :
  T169 d Q 110 [wO 10 121, wI x1, wI x2, wI x3, wI x4, wI x5, w6, w7] [] σ = T169 d Q 111 [wO 10 121, wI x1, wI x2, wI x3, wI x4, wI x5, w6, w7] [wI 0] σ := j3_T.go d [0, 2, 13, 23, 53, 59, 85, 110, 111, 121, 125, 159, 160, 162, 163, 182, 184] 400
set_option maxRecDepth 100000 in
theorem b169_111 {d : Nat} {Q : j3_P} {σ : j3_S} {x1 : Int} {x2 : Int} {x3 : Int} {x4 : Int} {x5 : Int} {w6 : j3_W} {w7 : j3_W} {xs0 : Int} :
  T169 d Q 111 [wO 10 121, wI x1, wI x2, wI x3, wI x4, wI x5, w6, w7] [wI xs0] σ = T169 d Q 85 [wO 10 121, wI x1, wI x2, wI x3, wI xs0, wI (wr (x5 + 1)), w6, w7] [] σ := j3_T.go d [0, 2, 13, 23, 53, 59, 85, 110, 111, 121, 125, 159, 160, 162, 163, 182, 184] 400
set_option maxRecDepth 100000 in
theorem b169_121 {d : Nat} {Q : j3_P} {σ : j3_S} {x1 : Int} {x2 : Int} {x3 : Int} {x4 : Int} {x5 : Int} {w6 : j3_W} {w7 : j3_W} :
  T169 d Q 121 [wO 10 121, wI x1, wI x2, wI x3, wI x4, wI x5, w6, w7] [] σ = (if x5 < 0 then (if x4 = 0 then j3_tc true d 158 [wO 10 121, wI 2, wI x1, wI x2, wI 1] σ (fun r σ1 => T169 d Q 182 [wO 10 121, wI x1, wI x2, wI x3, wI x4, wI x5, w6, w7] (r.toList ++ []) σ1) else T169 d Q 182 [wO 10 121, wI x1, wI x2, wI x3, wI x4, wI x5, w6, w7] [] σ) else T169 d Q 125 [wO 10 121, wI x1, wI x2, wI x3, wI x4, wI x5, wI 0, w7] [] σ) := j3_T.go d [0, 2, 13, 23, 53, 59, 85, 110, 111, 121, 125, 159, 160, 162, 163, 182, 184] 400
set_option maxRecDepth 100000 in
theorem b169_125 {d : Nat} {Q : j3_P} {σ : j3_S} {x1 : Int} {x2 : Int} {x3 : Int} {x4 : Int} {x5 : Int} {x6 : Int} {w7 : j3_W} :
  T169 d Q 125 [wO 10 121, wI x1, wI x2, wI x3, wI x4, wI x5, wI x6, w7] [] σ = ((0 ≤ (wr (20 + x5)) ∧ (wr (20 + x5)) < 30) ∧ (if x6 < (σ.2.2 10014 121 (wr (20 + x5))) then ((0 ≤ (wr (20 + x5)) ∧ (wr (20 + x5)) < 30) ∧ (if x4 = 0 then T169 d Q 162 [wO 10 121, wI x1, wI x2, wI x3, wI x4, wI x5, wI x6, wI (wr ((wr (160 + (σ.2.2 10013 121 (wr (20 + x5))))) + x6))] [] σ else ((0 ≤ (wr ((wr (160 + (σ.2.2 10013 121 (wr (20 + x5))))) + x6)) ∧ (wr ((wr (160 + (σ.2.2 10013 121 (wr (20 + x5))))) + x6)) < 240) ∧ ((0 ≤ x3 ∧ x3 < 240) ∧ (if (σ.2.2 10020 121 (wr ((wr (160 + (σ.2.2 10013 121 (wr (20 + x5))))) + x6))) = (σ.2.2 10020 121 x3) then j3_tc true d 168 [wO 10 121, wI x3, wI (wr ((wr (160 + (σ.2.2 10013 121 (wr (20 + x5))))) + x6))] σ (fun r σ1 => T169 d Q 159 [wO 10 121, wI x1, wI x2, wI x3, wI x4, wI x5, wI x6, wI (wr ((wr (160 + (σ.2.2 10013 121 (wr (20 + x5))))) + x6))] (r.toList ++ []) σ1) else T169 d Q 160 [wO 10 121, wI x1, wI x2, wI x3, wI x4, wI x5, wI x6, wI (wr ((wr (160 + (σ.2.2 10013 121 (wr (20 + x5))))) + x6))] [] σ))))) else ((0 ≤ (wr (20 + x5)) ∧ (wr (20 + x5)) < 30) ∧ T169 d Q 121 [wO 10 121, wI x1, wI x2, wI x3, wI x4, wI (σ.2.2 10011 121 (wr (20 + x5))), wI x6, w7] [] σ))) := j3_T.go d [0, 2, 13, 23, 53, 59, 85, 110, 111, 121, 125, 159, 160, 162, 163, 182, 184] 400
set_option maxRecDepth 100000 in
theorem b169_159 {d : Nat} {Q : j3_P} {σ : j3_S} {x1 : Int} {x2 : Int} {x3 : Int} {x4 : Int} {x5 : Int} {x6 : Int} {x7 : Int} {xs0 : Int} :
  T169 d Q 159 [wO 10 121, wI x1, wI x2, wI x3, wI x4, wI x5, wI x6, wI x7] [wI xs0] σ = (if xs0 = 0 then T169 d Q 162 [wO 10 121, wI x1, wI x2, wI x3, wI x4, wI x5, wI x6, wI x7] [] σ else T169 d Q 160 [wO 10 121, wI x1, wI x2, wI x3, wI x4, wI x5, wI x6, wI x7] [] σ) := j3_T.go d [0, 2, 13, 23, 53, 59, 85, 110, 111, 121, 125, 159, 160, 162, 163, 182, 184] 400
set_option maxRecDepth 100000 in
theorem b169_160 {d : Nat} {Q : j3_P} {σ : j3_S} {x1 : Int} {x2 : Int} {x3 : Int} {x4 : Int} {x5 : Int} {x6 : Int} {x7 : Int} :
  T169 d Q 160 [wO 10 121, wI x1, wI x2, wI x3, wI x4, wI x5, wI x6, wI x7] [] σ = T169 d Q 163 [wO 10 121, wI x1, wI x2, wI x3, wI x4, wI x5, wI x6, wI x7] [wI 1] σ := j3_T.go d [0, 2, 13, 23, 53, 59, 85, 110, 111, 121, 125, 159, 160, 162, 163, 182, 184] 400
set_option maxRecDepth 100000 in
theorem b169_162 {d : Nat} {Q : j3_P} {σ : j3_S} {x1 : Int} {x2 : Int} {x3 : Int} {x4 : Int} {x5 : Int} {x6 : Int} {x7 : Int} :
  T169 d Q 162 [wO 10 121, wI x1, wI x2, wI x3, wI x4, wI x5, wI x6, wI x7] [] σ = T169 d Q 163 [wO 10 121, wI x1, wI x2, wI x3, wI x4, wI x5, wI x6, wI x7] [wI 0] σ := j3_T.go d [0, 2, 13, 23, 53, 59, 85, 110, 111, 121, 125, 159, 160, 162, 163, 182, 184] 400
set_option maxRecDepth 100000 in
theorem b169_163 {d : Nat} {Q : j3_P} {σ : j3_S} {x1 : Int} {x2 : Int} {x3 : Int} {x4 : Int} {x5 : Int} {x6 : Int} {x7 : Int} {xs0 : Int} :
  T169 d Q 163 [wO 10 121, wI x1, wI x2, wI x3, wI x4, wI x5, wI x6, wI x7] [wI xs0] σ = T169 d Q 125 [wO 10 121, wI x1, wI x2, wI x3, wI xs0, wI x5, wI (wr (x6 + 1)), wI x7] [] σ := j3_T.go d [0, 2, 13, 23, 53, 59, 85, 110, 111, 121, 125, 159, 160, 162, 163, 182, 184] 400
set_option maxRecDepth 100000 in
theorem b169_182 {d : Nat} {Q : j3_P} {σ : j3_S} {x1 : Int} {x2 : Int} {x3 : Int} {x4 : Int} {x5 : Int} {w6 : j3_W} {w7 : j3_W} :
  T169 d Q 182 [wO 10 121, wI x1, wI x2, wI x3, wI x4, wI x5, w6, w7] [] σ = T169 d Q 59 [wO 10 121, wI x1, wI (wr (x2 + 1)), wI x3, wI x4, wI x5, w6, w7] [] σ := j3_T.go d [0, 2, 13, 23, 53, 59, 85, 110, 111, 121, 125, 159, 160, 162, 163, 182, 184] 400
set_option maxRecDepth 100000 in
theorem b169_184 {d : Nat} {Q : j3_P} {σ : j3_S} {x1 : Int} {x2 : Int} {w3 : j3_W} {w4 : j3_W} {w5 : j3_W} {w6 : j3_W} {w7 : j3_W} :
  T169 d Q 184 [wO 10 121, wI x1, wI x2, w3, w4, w5, w6, w7] [] σ = T169 d Q 2 [wO 10 121, wI (wr (x1 + 1)), wI x2, w3, w4, w5, w6, w7] [] σ := j3_T.go d [0, 2, 13, 23, 53, 59, 85, 110, 111, 121, 125, 159, 160, 162, 163, 182, 184] 400
def T170 (d : Nat) (Q : j3_P) : j3_K := j3_T true (j3_tc true d) jc_X10_covers (some .boolean) Q
theorem e170 {d : Nat} {Q : j3_P} {σ : j3_S} {x1 : Int} {x2 : Int} {x3 : Int} : j3_tc true (d + 1) 170 [wO 10 121, wI x1, wI x2, wI x3] σ Q = T170 d Q 0 [wO 10 121, wI x1, wI x2, wI x3, wM 2] [] σ := j3_entry ⟨Nat.le_of_ble_eq_true rfl, rfl⟩
set_option maxRecDepth 100000 in
theorem b170_0 {d : Nat} {Q : j3_P} {σ : j3_S} {x1 : Int} {x2 : Int} {x3 : Int} :
  T170 d Q 0 [wO 10 121, wI x1, wI x2, wI x3, wM 2] [] σ = T170 d Q 2 [wO 10 121, wI x1, wI x2, wI x3, wI x3] [] σ := j3_T.go d [0, 2, 17] 400
set_option maxRecDepth 100000 in
theorem b170_2 {d : Nat} {Q : j3_P} {σ : j3_S} {x1 : Int} {x2 : Int} {x3 : Int} {x4 : Int} :
  T170 d Q 2 [wO 10 121, wI x1, wI x2, wI x3, wI x4] [] σ = (if x4 < 0 then T170 d Q 17 [wO 10 121, wI x1, wI x2, wI x3, wI x4] [] σ else (if x4 = x2 then T170 d Q 17 [wO 10 121, wI x1, wI x2, wI x3, wI x4] [] σ else ((0 ≤ (wr ((wr (10 * x1)) + x4)) ∧ (wr ((wr (10 * x1)) + x4)) < 30) ∧ T170 d Q 2 [wO 10 121, wI x1, wI x2, wI x3, wI (σ.2.2 10011 121 (wr ((wr (10 * x1)) + x4)))] [] σ))) := j3_T.go d [0, 2, 17] 400
set_option maxRecDepth 100000 in
theorem b170_17 {d : Nat} {Q : j3_P} {σ : j3_S} {x1 : Int} {x2 : Int} {x3 : Int} {x4 : Int} :
  T170 d Q 17 [wO 10 121, wI x1, wI x2, wI x3, wI x4] [] σ = (if x4 = x2 then (((1 : Int) = 0 ∨ (1 : Int) = 1) ∧ Q (some (wI 1)) σ) else (((0 : Int) = 0 ∨ (0 : Int) = 1) ∧ Q (some (wI 0)) σ)) := j3_T.go d [0, 2, 17] 400
def T171 (d : Nat) (Q : j3_P) : j3_K := j3_T true (j3_tc true d) jc_X10_meet (some .int) Q
theorem e171 {d : Nat} {Q : j3_P} {σ : j3_S} {x1 : Int} {x2 : Int} {x3 : Int} : j3_tc true (d + 1) 171 [wO 10 121, wI x1, wI x2, wI x3] σ Q = T171 d Q 0 [wO 10 121, wI x1, wI x2, wI x3, wM 2] [] σ := j3_entry ⟨Nat.le_of_ble_eq_true rfl, rfl⟩
set_option maxRecDepth 100000 in
theorem b171_0 {d : Nat} {Q : j3_P} {σ : j3_S} {x1 : Int} {x2 : Int} {x3 : Int} :
  T171 d Q 0 [wO 10 121, wI x1, wI x2, wI x3, wM 2] [] σ = (if x2 = x3 then Q (some (wI x2)) σ else (if x2 = 0 then Q (some (wI 0)) σ else (if x3 = 0 then Q (some (wI 0)) σ else (if x2 = (1 : Int) then Q (some (wI 0)) σ else (if x3 = (1 : Int) then Q (some (wI 0)) σ else (if x2 = (2 : Int) then Q (some (wI x3)) σ else (if x3 = (2 : Int) then Q (some (wI x2)) σ else (if x2 = (3 : Int) then Q (some (wI 3)) σ else (if x3 = (3 : Int) then Q (some (wI 3)) σ else T171 d Q 39 [wO 10 121, wI x1, wI x2, wI x3, wI (wr (x2 - 4))] [] σ))))))))) := j3_T.go d [0, 39, 48, 59] 400
set_option maxRecDepth 100000 in
theorem b171_39 {d : Nat} {Q : j3_P} {σ : j3_S} {x1 : Int} {x2 : Int} {x3 : Int} {x4 : Int} :
  T171 d Q 39 [wO 10 121, wI x1, wI x2, wI x3, wI x4] [] σ = (if x4 < 0 then T171 d Q 59 [wO 10 121, wI x1, wI x2, wI x3, wI x4] [] σ else j3_tc true d 170 [wO 10 121, wI x1, wI x4, wI (wr (x3 - 4))] σ (fun r σ1 => T171 d Q 48 [wO 10 121, wI x1, wI x2, wI x3, wI x4] (r.toList ++ []) σ1)) := j3_T.go d [0, 39, 48, 59] 400
set_option maxRecDepth 100000 in
theorem b171_48 {d : Nat} {Q : j3_P} {σ : j3_S} {x1 : Int} {x2 : Int} {x3 : Int} {x4 : Int} {xs0 : Int} :
  T171 d Q 48 [wO 10 121, wI x1, wI x2, wI x3, wI x4] [wI xs0] σ = (if xs0 = 0 then ((0 ≤ (wr ((wr (10 * x1)) + x4)) ∧ (wr ((wr (10 * x1)) + x4)) < 30) ∧ T171 d Q 39 [wO 10 121, wI x1, wI x2, wI x3, wI (σ.2.2 10011 121 (wr ((wr (10 * x1)) + x4)))] [] σ) else T171 d Q 59 [wO 10 121, wI x1, wI x2, wI x3, wI x4] [] σ) := j3_T.go d [0, 39, 48, 59] 400
set_option maxRecDepth 100000 in
theorem b171_59 {d : Nat} {Q : j3_P} {σ : j3_S} {x1 : Int} {x2 : Int} {x3 : Int} {x4 : Int} :
  T171 d Q 59 [wO 10 121, wI x1, wI x2, wI x3, wI x4] [] σ = (if x4 < 0 then Q (some (wI 3)) σ else Q (some (wI (wr (4 + x4)))) σ) := j3_T.go d [0, 39, 48, 59] 400
def T172 (d : Nat) (Q : j3_P) : j3_K := j3_T true (j3_tc true d) jc_X10_fits (some .boolean) Q
theorem e172 {d : Nat} {Q : j3_P} {σ : j3_S} {x1 : Int} {x2 : Int} {x3 : Int} : j3_tc true (d + 1) 172 [wO 10 121, wI x1, wI x2, wI x3] σ Q = T172 d Q 0 [wO 10 121, wI x1, wI x2, wI x3] [] σ := j3_entry ⟨Nat.le_of_ble_eq_true rfl, rfl⟩
set_option maxRecDepth 100000 in
theorem b172_0 {d : Nat} {Q : j3_P} {σ : j3_S} {x1 : Int} {x2 : Int} {x3 : Int} :
  T172 d Q 0 [wO 10 121, wI x1, wI x2, wI x3] [] σ = (if x3 = (-1 : Int) then (((1 : Int) = 0 ∨ (1 : Int) = 1) ∧ Q (some (wI 1)) σ) else (if x3 = (-2 : Int) then (if x2 = (1 : Int) then (((0 : Int) = 0 ∨ (0 : Int) = 1) ∧ Q (some (wI 0)) σ) else (((1 : Int) = 0 ∨ (1 : Int) = 1) ∧ Q (some (wI 1)) σ)) else (if x3 = (1 : Int) then (if x2 = (1 : Int) then (((1 : Int) = 0 ∨ (1 : Int) = 1) ∧ Q (some (wI 1)) σ) else (((0 : Int) = 0 ∨ (0 : Int) = 1) ∧ Q (some (wI 0)) σ)) else (if x2 = (2 : Int) then T172 d Q 41 [wO 10 121, wI x1, wI x2, wI x3] [] σ else (if x2 < (4 : Int) then (((0 : Int) = 0 ∨ (0 : Int) = 1) ∧ Q (some (wI 0)) σ) else j3_tc true d 170 [wO 10 121, wI x1, wI (wr (x3 - 4)), wI (wr (x2 - 4))] σ (fun r σ1 => T172 d Q 40 [wO 10 121, wI x1, wI x2, wI x3] (r.toList ++ []) σ1)))))) := j3_T.go d [0, 40, 41] 400
set_option maxRecDepth 100000 in
theorem b172_40 {d : Nat} {Q : j3_P} {σ : j3_S} {x1 : Int} {x2 : Int} {x3 : Int} {xs0 : Int} :
  T172 d Q 40 [wO 10 121, wI x1, wI x2, wI x3] [wI xs0] σ = (if xs0 = 0 then (((0 : Int) = 0 ∨ (0 : Int) = 1) ∧ Q (some (wI 0)) σ) else T172 d Q 41 [wO 10 121, wI x1, wI x2, wI x3] [] σ) := j3_T.go d [0, 40, 41] 400
set_option maxRecDepth 100000 in
theorem b172_41 {d : Nat} {Q : j3_P} {σ : j3_S} {x1 : Int} {x2 : Int} {x3 : Int} :
  T172 d Q 41 [wO 10 121, wI x1, wI x2, wI x3] [] σ = (((1 : Int) = 0 ∨ (1 : Int) = 1) ∧ Q (some (wI 1)) σ) := j3_T.go d [0, 40, 41] 400
def T173 (d : Nat) (Q : j3_P) : j3_K := j3_T true (j3_tc true d) jc_X10_of (some .int) Q
theorem e173 {d : Nat} {Q : j3_P} {σ : j3_S} {x0 : Int} : j3_tc true (d + 1) 173 [wI x0] σ Q = T173 d Q 0 [wI x0] [] σ := j3_entry ⟨Nat.le_of_ble_eq_true rfl, rfl⟩
set_option maxRecDepth 100000 in
theorem b173_0 {d : Nat} {Q : j3_P} {σ : j3_S} {x0 : Int} :
  T173 d Q 0 [wI x0] [] σ = (if x0 = 0 then Q (some (wI 1)) σ else Q (some (wI (wr ((wr (4 + x0)) - 1)))) σ) := j3_T.go d [0] 400
def T174 (d : Nat) (Q : j3_P) : j3_K := j3_T true (j3_tc true d) jc_X10_wants none Q
theorem e174 {d : Nat} {Q : j3_P} {σ : j3_S} {x1 : Int} : j3_tc true (d + 1) 174 [wO 10 121, wI x1] σ Q = T174 d Q 0 [wO 10 121, wI x1] [] σ := j3_entry ⟨Nat.le_of_ble_eq_true rfl, rfl⟩
set_option maxRecDepth 100000 in
theorem b174_0 {d : Nat} {Q : j3_P} {σ : j3_S} {x1 : Int} :
  T174 d Q 0 [wO 10 121, wI x1] [] σ = ((0 ≤ (σ.1 10047 121) ∧ (σ.1 10047 121) < 5) ∧ Q none ((j3_up σ.1 10047 121 (wr ((σ.1 10047 121) + 1))), σ.2.1, (j3_ast σ.2.2 10048 121 (σ.1 10047 121) x1))) := j3_T.go d [0] 400
def T175 (d : Nat) (Q : j3_P) : j3_K := j3_T true (j3_tc true d) jc_X10_wantAll none Q
theorem e175 {d : Nat} {Q : j3_P} {σ : j3_S} {x1 : Int} {x2 : Int} {x3 : Int} : j3_tc true (d + 1) 175 [wO 10 121, wI x1, wI x2, wI x3] σ Q = T175 d Q 0 [wO 10 121, wI x1, wI x2, wI x3, wM 2, wM 2, wM 2] [] σ := j3_entry ⟨Nat.le_of_ble_eq_true rfl, rfl⟩
set_option maxRecDepth 100000 in
theorem b175_0 {d : Nat} {Q : j3_P} {σ : j3_S} {x1 : Int} {x2 : Int} {x3 : Int} :
  T175 d Q 0 [wO 10 121, wI x1, wI x2, wI x3, wM 2, wM 2, wM 2] [] σ = ((0 ≤ x3 ∧ x3 < 28800) ∧ (if (σ.2.2 10027 121 x3) = (3 : Int) then T175 d Q 17 [wO 10 121, wI x1, wI x2, wI x3, wI (σ.2.2 10027 121 x3), wM 2, wM 2] [] ((j3_up σ.1 10047 121 0), σ.2.1, σ.2.2) else (if (σ.2.2 10027 121 x3) = (4 : Int) then T175 d Q 17 [wO 10 121, wI x1, wI x2, wI x3, wI (σ.2.2 10027 121 x3), wM 2, wM 2] [] ((j3_up σ.1 10047 121 0), σ.2.1, σ.2.2) else (if (σ.2.2 10027 121 x3) = (5 : Int) then T175 d Q 17 [wO 10 121, wI x1, wI x2, wI x3, wI (σ.2.2 10027 121 x3), wM 2, wM 2] [] ((j3_up σ.1 10047 121 0), σ.2.1, σ.2.2) else T175 d Q 20 [wO 10 121, wI x1, wI x2, wI x3, wI (σ.2.2 10027 121 x3), wM 2, wM 2] [] ((j3_up σ.1 10047 121 0), σ.2.1, σ.2.2))))) := j3_T.go d [0, 17, 20, 26, 29, 35, 38, 41, 44, 53, 56, 62, 82, 83, 89, 97, 103, 131, 143, 144, 159, 183, 184] 400
set_option maxRecDepth 100000 in
theorem b175_17 {d : Nat} {Q : j3_P} {σ : j3_S} {x1 : Int} {x2 : Int} {x3 : Int} {x4 : Int} :
  T175 d Q 17 [wO 10 121, wI x1, wI x2, wI x3, wI x4, wM 2, wM 2] [] σ = j3_tc true d 174 [wO 10 121, wI (-1)] σ (fun r σ1 => T175 d Q 20 [wO 10 121, wI x1, wI x2, wI x3, wI x4, wM 2, wM 2] (r.toList ++ []) σ1) := j3_T.go d [0, 17, 20, 26, 29, 35, 38, 41, 44, 53, 56, 62, 82, 83, 89, 97, 103, 131, 143, 144, 159, 183, 184] 400
set_option maxRecDepth 100000 in
theorem b175_20 {d : Nat} {Q : j3_P} {σ : j3_S} {x1 : Int} {x2 : Int} {x3 : Int} {x4 : Int} :
  T175 d Q 20 [wO 10 121, wI x1, wI x2, wI x3, wI x4, wM 2, wM 2] [] σ = (if x4 = (12 : Int) then T175 d Q 26 [wO 10 121, wI x1, wI x2, wI x3, wI x4, wM 2, wM 2] [] σ else (if x4 = (23 : Int) then T175 d Q 26 [wO 10 121, wI x1, wI x2, wI x3, wI x4, wM 2, wM 2] [] σ else T175 d Q 29 [wO 10 121, wI x1, wI x2, wI x3, wI x4, wM 2, wM 2] [] σ)) := j3_T.go d [0, 17, 20, 26, 29, 35, 38, 41, 44, 53, 56, 62, 82, 83, 89, 97, 103, 131, 143, 144, 159, 183, 184] 400
set_option maxRecDepth 100000 in
theorem b175_26 {d : Nat} {Q : j3_P} {σ : j3_S} {x1 : Int} {x2 : Int} {x3 : Int} {x4 : Int} :
  T175 d Q 26 [wO 10 121, wI x1, wI x2, wI x3, wI x4, wM 2, wM 2] [] σ = j3_tc true d 174 [wO 10 121, wI 1] σ (fun r σ1 => T175 d Q 29 [wO 10 121, wI x1, wI x2, wI x3, wI x4, wM 2, wM 2] (r.toList ++ []) σ1) := j3_T.go d [0, 17, 20, 26, 29, 35, 38, 41, 44, 53, 56, 62, 82, 83, 89, 97, 103, 131, 143, 144, 159, 183, 184] 400
set_option maxRecDepth 100000 in
theorem b175_29 {d : Nat} {Q : j3_P} {σ : j3_S} {x1 : Int} {x2 : Int} {x3 : Int} {x4 : Int} :
  T175 d Q 29 [wO 10 121, wI x1, wI x2, wI x3, wI x4, wM 2, wM 2] [] σ = (if x4 < (6 : Int) then T175 d Q 35 [wO 10 121, wI x1, wI x2, wI x3, wI x4, wM 2, wM 2] [] σ else (if (10 : Int) < x4 then T175 d Q 35 [wO 10 121, wI x1, wI x2, wI x3, wI x4, wM 2, wM 2] [] σ else T175 d Q 38 [wO 10 121, wI x1, wI x2, wI x3, wI x4, wM 2, wM 2] [] σ)) := j3_T.go d [0, 17, 20, 26, 29, 35, 38, 41, 44, 53, 56, 62, 82, 83, 89, 97, 103, 131, 143, 144, 159, 183, 184] 400
set_option maxRecDepth 100000 in
theorem b175_35 {d : Nat} {Q : j3_P} {σ : j3_S} {x1 : Int} {x2 : Int} {x3 : Int} {x4 : Int} :
  T175 d Q 35 [wO 10 121, wI x1, wI x2, wI x3, wI x4, wM 2, wM 2] [] σ = (if x4 = (13 : Int) then T175 d Q 38 [wO 10 121, wI x1, wI x2, wI x3, wI x4, wM 2, wM 2] [] σ else T175 d Q 44 [wO 10 121, wI x1, wI x2, wI x3, wI x4, wM 2, wM 2] [] σ) := j3_T.go d [0, 17, 20, 26, 29, 35, 38, 41, 44, 53, 56, 62, 82, 83, 89, 97, 103, 131, 143, 144, 159, 183, 184] 400
set_option maxRecDepth 100000 in
theorem b175_38 {d : Nat} {Q : j3_P} {σ : j3_S} {x1 : Int} {x2 : Int} {x3 : Int} {x4 : Int} :
  T175 d Q 38 [wO 10 121, wI x1, wI x2, wI x3, wI x4, wM 2, wM 2] [] σ = j3_tc true d 174 [wO 10 121, wI 1] σ (fun r σ1 => T175 d Q 41 [wO 10 121, wI x1, wI x2, wI x3, wI x4, wM 2, wM 2] (r.toList ++ []) σ1) := j3_T.go d [0, 17, 20, 26, 29, 35, 38, 41, 44, 53, 56, 62, 82, 83, 89, 97, 103, 131, 143, 144, 159, 183, 184] 400
set_option maxRecDepth 100000 in
theorem b175_41 {d : Nat} {Q : j3_P} {σ : j3_S} {x1 : Int} {x2 : Int} {x3 : Int} {x4 : Int} :
  T175 d Q 41 [wO 10 121, wI x1, wI x2, wI x3, wI x4, wM 2, wM 2] [] σ = j3_tc true d 174 [wO 10 121, wI 1] σ (fun r σ1 => T175 d Q 44 [wO 10 121, wI x1, wI x2, wI x3, wI x4, wM 2, wM 2] (r.toList ++ []) σ1) := j3_T.go d [0, 17, 20, 26, 29, 35, 38, 41, 44, 53, 56, 62, 82, 83, 89, 97, 103, 131, 143, 144, 159, 183, 184] 400
set_option maxRecDepth 100000 in
theorem b175_44 {d : Nat} {Q : j3_P} {σ : j3_S} {x1 : Int} {x2 : Int} {x3 : Int} {x4 : Int} :
  T175 d Q 44 [wO 10 121, wI x1, wI x2, wI x3, wI x4, wM 2, wM 2] [] σ = (if x4 = (14 : Int) then T175 d Q 53 [wO 10 121, wI x1, wI x2, wI x3, wI x4, wM 2, wM 2] [] σ else (if x4 = (24 : Int) then T175 d Q 53 [wO 10 121, wI x1, wI x2, wI x3, wI x4, wM 2, wM 2] [] σ else (if x4 = (25 : Int) then T175 d Q 53 [wO 10 121, wI x1, wI x2, wI x3, wI x4, wM 2, wM 2] [] σ else T175 d Q 56 [wO 10 121, wI x1, wI x2, wI x3, wI x4, wM 2, wM 2] [] σ))) := j3_T.go d [0, 17, 20, 26, 29, 35, 38, 41, 44, 53, 56, 62, 82, 83, 89, 97, 103, 131, 143, 144, 159, 183, 184] 400
set_option maxRecDepth 100000 in
theorem b175_53 {d : Nat} {Q : j3_P} {σ : j3_S} {x1 : Int} {x2 : Int} {x3 : Int} {x4 : Int} :
  T175 d Q 53 [wO 10 121, wI x1, wI x2, wI x3, wI x4, wM 2, wM 2] [] σ = j3_tc true d 174 [wO 10 121, wI (-2)] σ (fun r σ1 => T175 d Q 56 [wO 10 121, wI x1, wI x2, wI x3, wI x4, wM 2, wM 2] (r.toList ++ []) σ1) := j3_T.go d [0, 17, 20, 26, 29, 35, 38, 41, 44, 53, 56, 62, 82, 83, 89, 97, 103, 131, 143, 144, 159, 183, 184] 400
set_option maxRecDepth 100000 in
theorem b175_56 {d : Nat} {Q : j3_P} {σ : j3_S} {x1 : Int} {x2 : Int} {x3 : Int} {x4 : Int} :
  T175 d Q 56 [wO 10 121, wI x1, wI x2, wI x3, wI x4, wM 2, wM 2] [] σ = (if x4 = (17 : Int) then T175 d Q 62 [wO 10 121, wI x1, wI x2, wI x3, wI x4, wM 2, wM 2] [] σ else (if x4 = (19 : Int) then T175 d Q 62 [wO 10 121, wI x1, wI x2, wI x3, wI x4, wM 2, wM 2] [] σ else T175 d Q 83 [wO 10 121, wI x1, wI x2, wI x3, wI x4, wM 2, wM 2] [] σ)) := j3_T.go d [0, 17, 20, 26, 29, 35, 38, 41, 44, 53, 56, 62, 82, 83, 89, 97, 103, 131, 143, 144, 159, 183, 184] 400
set_option maxRecDepth 100000 in
theorem b175_62 {d : Nat} {Q : j3_P} {σ : j3_S} {x1 : Int} {x2 : Int} {x3 : Int} {x4 : Int} :
  T175 d Q 62 [wO 10 121, wI x1, wI x2, wI x3, wI x4, wM 2, wM 2] [] σ = ((0 ≤ x3 ∧ x3 < 28800) ∧ ((0 ≤ x3 ∧ x3 < 28800) ∧ ((0 ≤ (wr ((wr ((wr (60 * x1)) + (wr (6 * (σ.2.2 10028 121 x3))))) + (σ.2.2 10029 121 x3))) ∧ (wr ((wr ((wr (60 * x1)) + (wr (6 * (σ.2.2 10028 121 x3))))) + (σ.2.2 10029 121 x3))) < 180) ∧ j3_tc true d 173 [wI (σ.2.2 10016 121 (wr ((wr ((wr (60 * x1)) + (wr (6 * (σ.2.2 10028 121 x3))))) + (σ.2.2 10029 121 x3))))] σ (fun r σ1 => T175 d Q 82 [wO 10 121, wI x1, wI x2, wI x3, wI x4, wM 2, wM 2] (r.toList ++ [wO 10 121]) σ1)))) := j3_T.go d [0, 17, 20, 26, 29, 35, 38, 41, 44, 53, 56, 62, 82, 83, 89, 97, 103, 131, 143, 144, 159, 183, 184] 400
set_option maxRecDepth 100000 in
theorem b175_82 {d : Nat} {Q : j3_P} {σ : j3_S} {x1 : Int} {x2 : Int} {x3 : Int} {x4 : Int} {xs0 : Int} :
  T175 d Q 82 [wO 10 121, wI x1, wI x2, wI x3, wI x4, wM 2, wM 2] [wI xs0, wO 10 121] σ = j3_tc true d 174 [wO 10 121, wI xs0] σ (fun r σ1 => T175 d Q 83 [wO 10 121, wI x1, wI x2, wI x3, wI x4, wM 2, wM 2] (r.toList ++ []) σ1) := j3_T.go d [0, 17, 20, 26, 29, 35, 38, 41, 44, 53, 56, 62, 82, 83, 89, 97, 103, 131, 143, 144, 159, 183, 184] 400
set_option maxRecDepth 100000 in
theorem b175_83 {d : Nat} {Q : j3_P} {σ : j3_S} {x1 : Int} {x2 : Int} {x3 : Int} {x4 : Int} :
  T175 d Q 83 [wO 10 121, wI x1, wI x2, wI x3, wI x4, wM 2, wM 2] [] σ = (if x4 = (16 : Int) then T175 d Q 89 [wO 10 121, wI x1, wI x2, wI x3, wI x4, wM 2, wM 2] [] σ else (if x4 = (17 : Int) then T175 d Q 89 [wO 10 121, wI x1, wI x2, wI x3, wI x4, wM 2, wM 2] [] σ else T175 d Q 97 [wO 10 121, wI x1, wI x2, wI x3, wI x4, wM 2, wM 2] [] σ)) := j3_T.go d [0, 17, 20, 26, 29, 35, 38, 41, 44, 53, 56, 62, 82, 83, 89, 97, 103, 131, 143, 144, 159, 183, 184] 400
set_option maxRecDepth 100000 in
theorem b175_89 {d : Nat} {Q : j3_P} {σ : j3_S} {x1 : Int} {x2 : Int} {x3 : Int} {x4 : Int} :
  T175 d Q 89 [wO 10 121, wI x1, wI x2, wI x3, wI x4, wM 2, wM 2] [] σ = ((0 ≤ x3 ∧ x3 < 28800) ∧ j3_tc true d 174 [wO 10 121, wI (wr (4 + (σ.2.2 10028 121 x3)))] σ (fun r σ1 => T175 d Q 97 [wO 10 121, wI x1, wI x2, wI x3, wI x4, wM 2, wM 2] (r.toList ++ []) σ1)) := j3_T.go d [0, 17, 20, 26, 29, 35, 38, 41, 44, 53, 56, 62, 82, 83, 89, 97, 103, 131, 143, 144, 159, 183, 184] 400
set_option maxRecDepth 100000 in
theorem b175_97 {d : Nat} {Q : j3_P} {σ : j3_S} {x1 : Int} {x2 : Int} {x3 : Int} {x4 : Int} :
  T175 d Q 97 [wO 10 121, wI x1, wI x2, wI x3, wI x4, wM 2, wM 2] [] σ = (if x4 = (20 : Int) then T175 d Q 103 [wO 10 121, wI x1, wI x2, wI x3, wI x4, wM 2, wM 2] [] σ else (if x4 = (21 : Int) then T175 d Q 103 [wO 10 121, wI x1, wI x2, wI x3, wI x4, wM 2, wM 2] [] σ else T175 d Q 159 [wO 10 121, wI x1, wI x2, wI x3, wI x4, wM 2, wM 2] [] σ)) := j3_T.go d [0, 17, 20, 26, 29, 35, 38, 41, 44, 53, 56, 62, 82, 83, 89, 97, 103, 131, 143, 144, 159, 183, 184] 400
set_option maxRecDepth 100000 in
theorem b175_103 {d : Nat} {Q : j3_P} {σ : j3_S} {x1 : Int} {x2 : Int} {x3 : Int} {x4 : Int} :
  T175 d Q 103 [wO 10 121, wI x1, wI x2, wI x3, wI x4, wM 2, wM 2] [] σ = ((0 ≤ x3 ∧ x3 < 28800) ∧ ((0 ≤ (wr ((wr (10 * x1)) + (σ.2.2 10028 121 x3))) ∧ (wr ((wr (10 * x1)) + (σ.2.2 10028 121 x3))) < 30) ∧ ((0 ≤ x3 ∧ x3 < 28800) ∧ ((0 ≤ (wr ((wr ((wr (80 * x1)) + (σ.2.2 10013 121 (wr ((wr (10 * x1)) + (σ.2.2 10028 121 x3)))))) + (σ.2.2 10029 121 x3))) ∧ (wr ((wr ((wr (80 * x1)) + (σ.2.2 10013 121 (wr ((wr (10 * x1)) + (σ.2.2 10028 121 x3)))))) + (σ.2.2 10029 121 x3))) < 240) ∧ T175 d Q 131 [wO 10 121, wI x1, wI x2, wI x3, wI x4, wI (wr ((wr ((wr (80 * x1)) + (σ.2.2 10013 121 (wr ((wr (10 * x1)) + (σ.2.2 10028 121 x3)))))) + (σ.2.2 10029 121 x3))), wI (wr ((σ.2.2 10023 121 (wr ((wr ((wr (80 * x1)) + (σ.2.2 10013 121 (wr ((wr (10 * x1)) + (σ.2.2 10028 121 x3)))))) + (σ.2.2 10029 121 x3)))) - 1))] [] σ)))) := j3_T.go d [0, 17, 20, 26, 29, 35, 38, 41, 44, 53, 56, 62, 82, 83, 89, 97, 103, 131, 143, 144, 159, 183, 184] 400
set_option maxRecDepth 100000 in
theorem b175_131 {d : Nat} {Q : j3_P} {σ : j3_S} {x1 : Int} {x2 : Int} {x3 : Int} {x4 : Int} {x5 : Int} {x6 : Int} :
  T175 d Q 131 [wO 10 121, wI x1, wI x2, wI x3, wI x4, wI x5, wI x6] [] σ = (if x6 < 0 then ((0 ≤ x5 ∧ x5 < 240) ∧ (if (σ.2.2 10021 121 x5) = 0 then ((0 ≤ x3 ∧ x3 < 28800) ∧ j3_tc true d 174 [wO 10 121, wI (wr (4 + (σ.2.2 10028 121 x3)))] σ (fun r σ1 => T175 d Q 159 [wO 10 121, wI x1, wI x2, wI x3, wI x4, wI x5, wI x6] (r.toList ++ []) σ1)) else T175 d Q 159 [wO 10 121, wI x1, wI x2, wI x3, wI x4, wI x5, wI x6] [] σ)) else ((0 ≤ (wr ((wr (3 * x5)) + x6)) ∧ (wr ((wr (3 * x5)) + x6)) < 720) ∧ j3_tc true d 173 [wI (σ.2.2 10024 121 (wr ((wr (3 * x5)) + x6)))] σ (fun r σ1 => T175 d Q 143 [wO 10 121, wI x1, wI x2, wI x3, wI x4, wI x5, wI x6] (r.toList ++ [wO 10 121]) σ1))) := j3_T.go d [0, 17, 20, 26, 29, 35, 38, 41, 44, 53, 56, 62, 82, 83, 89, 97, 103, 131, 143, 144, 159, 183, 184] 400
set_option maxRecDepth 100000 in
theorem b175_143 {d : Nat} {Q : j3_P} {σ : j3_S} {x1 : Int} {x2 : Int} {x3 : Int} {x4 : Int} {x5 : Int} {x6 : Int} {xs0 : Int} :
  T175 d Q 143 [wO 10 121, wI x1, wI x2, wI x3, wI x4, wI x5, wI x6] [wI xs0, wO 10 121] σ = j3_tc true d 174 [wO 10 121, wI xs0] σ (fun r σ1 => T175 d Q 144 [wO 10 121, wI x1, wI x2, wI x3, wI x4, wI x5, wI x6] (r.toList ++ []) σ1) := j3_T.go d [0, 17, 20, 26, 29, 35, 38, 41, 44, 53, 56, 62, 82, 83, 89, 97, 103, 131, 143, 144, 159, 183, 184] 400
set_option maxRecDepth 100000 in
theorem b175_144 {d : Nat} {Q : j3_P} {σ : j3_S} {x1 : Int} {x2 : Int} {x3 : Int} {x4 : Int} {x5 : Int} {x6 : Int} :
  T175 d Q 144 [wO 10 121, wI x1, wI x2, wI x3, wI x4, wI x5, wI x6] [] σ = T175 d Q 131 [wO 10 121, wI x1, wI x2, wI x3, wI x4, wI x5, wI (wr (x6 + (-1)))] [] σ := j3_T.go d [0, 17, 20, 26, 29, 35, 38, 41, 44, 53, 56, 62, 82, 83, 89, 97, 103, 131, 143, 144, 159, 183, 184] 400
set_option maxRecDepth 100000 in
theorem b175_159 {d : Nat} {Q : j3_P} {σ : j3_S} {x1 : Int} {x2 : Int} {x3 : Int} {x4 : Int} {w5 : j3_W} {w6 : j3_W} :
  T175 d Q 159 [wO 10 121, wI x1, wI x2, wI x3, wI x4, w5, w6] [] σ = (if x4 = (22 : Int) then ((0 ≤ (wr ((wr (80 * x1)) + x2)) ∧ (wr ((wr (80 * x1)) + x2)) < 240) ∧ (if 0 < (σ.2.2 10022 121 (wr ((wr (80 * x1)) + x2))) then ((0 ≤ (wr ((wr (80 * x1)) + x2)) ∧ (wr ((wr (80 * x1)) + x2)) < 240) ∧ j3_tc true d 173 [wI (wr ((σ.2.2 10022 121 (wr ((wr (80 * x1)) + x2))) - 1))] σ (fun r σ1 => T175 d Q 183 [wO 10 121, wI x1, wI x2, wI x3, wI x4, w5, w6] (r.toList ++ [wO 10 121]) σ1)) else T175 d Q 184 [wO 10 121, wI x1, wI x2, wI x3, wI x4, w5, w6] [] σ)) else T175 d Q 184 [wO 10 121, wI x1, wI x2, wI x3, wI x4, w5, w6] [] σ) := j3_T.go d [0, 17, 20, 26, 29, 35, 38, 41, 44, 53, 56, 62, 82, 83, 89, 97, 103, 131, 143, 144, 159, 183, 184] 400
set_option maxRecDepth 100000 in
theorem b175_183 {d : Nat} {Q : j3_P} {σ : j3_S} {x1 : Int} {x2 : Int} {x3 : Int} {x4 : Int} {w5 : j3_W} {w6 : j3_W} {xs0 : Int} :
  T175 d Q 183 [wO 10 121, wI x1, wI x2, wI x3, wI x4, w5, w6] [wI xs0, wO 10 121] σ = j3_tc true d 174 [wO 10 121, wI xs0] σ (fun r σ1 => T175 d Q 184 [wO 10 121, wI x1, wI x2, wI x3, wI x4, w5, w6] (r.toList ++ []) σ1) := j3_T.go d [0, 17, 20, 26, 29, 35, 38, 41, 44, 53, 56, 62, 82, 83, 89, 97, 103, 131, 143, 144, 159, 183, 184] 400
set_option maxRecDepth 100000 in
theorem b175_184 {d : Nat} {Q : j3_P} {σ : j3_S} {x1 : Int} {x2 : Int} {x3 : Int} {x4 : Int} {w5 : j3_W} {w6 : j3_W} :
  T175 d Q 184 [wO 10 121, wI x1, wI x2, wI x3, wI x4, w5, w6] [] σ = Q none σ := j3_T.go d [0, 17, 20, 26, 29, 35, 38, 41, 44, 53, 56, 62, 82, 83, 89, 97, 103, 131, 143, 144, 159, 183, 184] 400
def T176 (d : Nat) (Q : j3_P) : j3_K := j3_T true (j3_tc true d) jc_X10_push none Q
theorem e176 {d : Nat} {Q : j3_P} {σ : j3_S} {x1 : Int} : j3_tc true (d + 1) 176 [wO 10 121, wI x1] σ Q = T176 d Q 0 [wO 10 121, wI x1] [] σ := j3_entry ⟨Nat.le_of_ble_eq_true rfl, rfl⟩
set_option maxRecDepth 100000 in
theorem b176_0 {d : Nat} {Q : j3_P} {σ : j3_S} {x1 : Int} :
  T176 d Q 0 [wO 10 121, wI x1] [] σ = ((0 ≤ (σ.1 10041 121) ∧ (σ.1 10041 121) < 20) ∧ Q none ((j3_up σ.1 10041 121 (wr ((σ.1 10041 121) + 1))), σ.2.1, (j3_ast σ.2.2 10039 121 (σ.1 10041 121) x1))) := j3_T.go d [0] 400
def T177 (d : Nat) (Q : j3_P) : j3_K := j3_T true (j3_tc true d) jc_X10_give none Q
theorem e177 {d : Nat} {Q : j3_P} {σ : j3_S} {x1 : Int} {x2 : Int} : j3_tc true (d + 1) 177 [wO 10 121, wI x1, wI x2] σ Q = T177 d Q 0 [wO 10 121, wI x1, wI x2, wM 2, wM 2] [] σ := j3_entry ⟨Nat.le_of_ble_eq_true rfl, rfl⟩
set_option maxRecDepth 100000 in
theorem b177_0 {d : Nat} {Q : j3_P} {σ : j3_S} {x1 : Int} {x2 : Int} :
  T177 d Q 0 [wO 10 121, wI x1, wI x2, wM 2, wM 2] [] σ = ((0 ≤ x2 ∧ x2 < 28800) ∧ (if (σ.2.2 10027 121 x2) = 0 then T177 d Q 16 [wO 10 121, wI x1, wI x2, wI (σ.2.2 10027 121 x2), wM 2] [] σ else (if (σ.2.2 10027 121 x2) < (6 : Int) then T177 d Q 13 [wO 10 121, wI x1, wI x2, wI (σ.2.2 10027 121 x2), wM 2] [] σ else (if (10 : Int) < (σ.2.2 10027 121 x2) then T177 d Q 13 [wO 10 121, wI x1, wI x2, wI (σ.2.2 10027 121 x2), wM 2] [] σ else T177 d Q 16 [wO 10 121, wI x1, wI x2, wI (σ.2.2 10027 121 x2), wM 2] [] σ)))) := j3_T.go d [0, 13, 16, 19, 25, 37, 52, 70, 76, 84, 90, 110, 111, 117, 148, 149] 400
set_option maxRecDepth 100000 in
theorem b177_13 {d : Nat} {Q : j3_P} {σ : j3_S} {x1 : Int} {x2 : Int} {x3 : Int} :
  T177 d Q 13 [wO 10 121, wI x1, wI x2, wI x3, wM 2] [] σ = (if x3 = (25 : Int) then T177 d Q 16 [wO 10 121, wI x1, wI x2, wI x3, wM 2] [] σ else T177 d Q 19 [wO 10 121, wI x1, wI x2, wI x3, wM 2] [] σ) := j3_T.go d [0, 13, 16, 19, 25, 37, 52, 70, 76, 84, 90, 110, 111, 117, 148, 149] 400
set_option maxRecDepth 100000 in
theorem b177_16 {d : Nat} {Q : j3_P} {σ : j3_S} {x1 : Int} {x2 : Int} {x3 : Int} :
  T177 d Q 16 [wO 10 121, wI x1, wI x2, wI x3, wM 2] [] σ = j3_tc true d 176 [wO 10 121, wI 1] σ (fun r σ1 => T177 d Q 19 [wO 10 121, wI x1, wI x2, wI x3, wM 2] (r.toList ++ []) σ1) := j3_T.go d [0, 13, 16, 19, 25, 37, 52, 70, 76, 84, 90, 110, 111, 117, 148, 149] 400
set_option maxRecDepth 100000 in
theorem b177_19 {d : Nat} {Q : j3_P} {σ : j3_S} {x1 : Int} {x2 : Int} {x3 : Int} :
  T177 d Q 19 [wO 10 121, wI x1, wI x2, wI x3, wM 2] [] σ = (if x3 = (1 : Int) then j3_tc true d 176 [wO 10 121, wI 2] σ (fun r σ1 => T177 d Q 25 [wO 10 121, wI x1, wI x2, wI x3, wM 2] (r.toList ++ []) σ1) else T177 d Q 25 [wO 10 121, wI x1, wI x2, wI x3, wM 2] [] σ) := j3_T.go d [0, 13, 16, 19, 25, 37, 52, 70, 76, 84, 90, 110, 111, 117, 148, 149] 400
set_option maxRecDepth 100000 in
theorem b177_25 {d : Nat} {Q : j3_P} {σ : j3_S} {x1 : Int} {x2 : Int} {x3 : Int} :
  T177 d Q 25 [wO 10 121, wI x1, wI x2, wI x3, wM 2] [] σ = (if x3 = (2 : Int) then ((0 ≤ x2 ∧ x2 < 28800) ∧ ((0 ≤ (σ.2.2 10028 121 x2) ∧ (σ.2.2 10028 121 x2) < 20) ∧ j3_tc true d 176 [wO 10 121, wI (σ.2.2 10040 121 (σ.2.2 10028 121 x2))] σ (fun r σ1 => T177 d Q 37 [wO 10 121, wI x1, wI x2, wI x3, wM 2] (r.toList ++ []) σ1))) else T177 d Q 37 [wO 10 121, wI x1, wI x2, wI x3, wM 2] [] σ) := j3_T.go d [0, 13, 16, 19, 25, 37, 52, 70, 76, 84, 90, 110, 111, 117, 148, 149] 400
set_option maxRecDepth 100000 in
theorem b177_37 {d : Nat} {Q : j3_P} {σ : j3_S} {x1 : Int} {x2 : Int} {x3 : Int} :
  T177 d Q 37 [wO 10 121, wI x1, wI x2, wI x3, wM 2] [] σ = (if x3 = (3 : Int) then ((0 ≤ x2 ∧ x2 < 28800) ∧ ((0 ≤ (σ.1 10041 121) ∧ (σ.1 10041 121) < 20) ∧ ((0 ≤ (σ.2.2 10028 121 x2) ∧ (σ.2.2 10028 121 x2) < 20) ∧ T177 d Q 52 [wO 10 121, wI x1, wI x2, wI x3, wM 2] [] (σ.1, σ.2.1, (j3_ast σ.2.2 10040 121 (σ.2.2 10028 121 x2) (σ.2.2 10039 121 (σ.1 10041 121))))))) else T177 d Q 52 [wO 10 121, wI x1, wI x2, wI x3, wM 2] [] σ) := j3_T.go d [0, 13, 16, 19, 25, 37, 52, 70, 76, 84, 90, 110, 111, 117, 148, 149] 400
set_option maxRecDepth 100000 in
theorem b177_52 {d : Nat} {Q : j3_P} {σ : j3_S} {x1 : Int} {x2 : Int} {x3 : Int} :
  T177 d Q 52 [wO 10 121, wI x1, wI x2, wI x3, wM 2] [] σ = (if x3 = (5 : Int) then ((0 ≤ (wr ((wr ((σ.1 10041 121) + 1)) - 1)) ∧ (wr ((wr ((σ.1 10041 121) + 1)) - 1)) < 20) ∧ j3_tc true d 176 [wO 10 121, wI (σ.2.2 10039 121 (wr ((wr ((σ.1 10041 121) + 1)) - 1)))] ((j3_up σ.1 10041 121 (wr ((σ.1 10041 121) + 1))), σ.2.1, σ.2.2) (fun r σ1 => T177 d Q 70 [wO 10 121, wI x1, wI x2, wI x3, wM 2] (r.toList ++ []) σ1)) else T177 d Q 70 [wO 10 121, wI x1, wI x2, wI x3, wM 2] [] σ) := j3_T.go d [0, 13, 16, 19, 25, 37, 52, 70, 76, 84, 90, 110, 111, 117, 148, 149] 400
set_option maxRecDepth 100000 in
theorem b177_70 {d : Nat} {Q : j3_P} {σ : j3_S} {x1 : Int} {x2 : Int} {x3 : Int} :
  T177 d Q 70 [wO 10 121, wI x1, wI x2, wI x3, wM 2] [] σ = (if x3 = (15 : Int) then T177 d Q 76 [wO 10 121, wI x1, wI x2, wI x3, wM 2] [] σ else (if x3 = (24 : Int) then T177 d Q 76 [wO 10 121, wI x1, wI x2, wI x3, wM 2] [] σ else T177 d Q 84 [wO 10 121, wI x1, wI x2, wI x3, wM 2] [] σ)) := j3_T.go d [0, 13, 16, 19, 25, 37, 52, 70, 76, 84, 90, 110, 111, 117, 148, 149] 400
set_option maxRecDepth 100000 in
theorem b177_76 {d : Nat} {Q : j3_P} {σ : j3_S} {x1 : Int} {x2 : Int} {x3 : Int} :
  T177 d Q 76 [wO 10 121, wI x1, wI x2, wI x3, wM 2] [] σ = ((0 ≤ x2 ∧ x2 < 28800) ∧ j3_tc true d 176 [wO 10 121, wI (wr (4 + (σ.2.2 10028 121 x2)))] σ (fun r σ1 => T177 d Q 84 [wO 10 121, wI x1, wI x2, wI x3, wM 2] (r.toList ++ []) σ1)) := j3_T.go d [0, 13, 16, 19, 25, 37, 52, 70, 76, 84, 90, 110, 111, 117, 148, 149] 400
set_option maxRecDepth 100000 in
theorem b177_84 {d : Nat} {Q : j3_P} {σ : j3_S} {x1 : Int} {x2 : Int} {x3 : Int} :
  T177 d Q 84 [wO 10 121, wI x1, wI x2, wI x3, wM 2] [] σ = (if x3 = (16 : Int) then T177 d Q 90 [wO 10 121, wI x1, wI x2, wI x3, wM 2] [] σ else (if x3 = (18 : Int) then T177 d Q 90 [wO 10 121, wI x1, wI x2, wI x3, wM 2] [] σ else T177 d Q 111 [wO 10 121, wI x1, wI x2, wI x3, wM 2] [] σ)) := j3_T.go d [0, 13, 16, 19, 25, 37, 52, 70, 76, 84, 90, 110, 111, 117, 148, 149] 400
set_option maxRecDepth 100000 in
theorem b177_90 {d : Nat} {Q : j3_P} {σ : j3_S} {x1 : Int} {x2 : Int} {x3 : Int} :
  T177 d Q 90 [wO 10 121, wI x1, wI x2, wI x3, wM 2] [] σ = ((0 ≤ x2 ∧ x2 < 28800) ∧ ((0 ≤ x2 ∧ x2 < 28800) ∧ ((0 ≤ (wr ((wr ((wr (60 * x1)) + (wr (6 * (σ.2.2 10028 121 x2))))) + (σ.2.2 10029 121 x2))) ∧ (wr ((wr ((wr (60 * x1)) + (wr (6 * (σ.2.2 10028 121 x2))))) + (σ.2.2 10029 121 x2))) < 180) ∧ j3_tc true d 173 [wI (σ.2.2 10016 121 (wr ((wr ((wr (60 * x1)) + (wr (6 * (σ.2.2 10028 121 x2))))) + (σ.2.2 10029 121 x2))))] σ (fun r σ1 => T177 d Q 110 [wO 10 121, wI x1, wI x2, wI x3, wM 2] (r.toList ++ [wO 10 121]) σ1)))) := j3_T.go d [0, 13, 16, 19, 25, 37, 52, 70, 76, 84, 90, 110, 111, 117, 148, 149] 400
set_option maxRecDepth 100000 in
theorem b177_110 {d : Nat} {Q : j3_P} {σ : j3_S} {x1 : Int} {x2 : Int} {x3 : Int} {xs0 : Int} :
  T177 d Q 110 [wO 10 121, wI x1, wI x2, wI x3, wM 2] [wI xs0, wO 10 121] σ = j3_tc true d 176 [wO 10 121, wI xs0] σ (fun r σ1 => T177 d Q 111 [wO 10 121, wI x1, wI x2, wI x3, wM 2] (r.toList ++ []) σ1) := j3_T.go d [0, 13, 16, 19, 25, 37, 52, 70, 76, 84, 90, 110, 111, 117, 148, 149] 400
set_option maxRecDepth 100000 in
theorem b177_111 {d : Nat} {Q : j3_P} {σ : j3_S} {x1 : Int} {x2 : Int} {x3 : Int} :
  T177 d Q 111 [wO 10 121, wI x1, wI x2, wI x3, wM 2] [] σ = (if x3 = (20 : Int) then T177 d Q 117 [wO 10 121, wI x1, wI x2, wI x3, wM 2] [] σ else (if x3 = (21 : Int) then T177 d Q 117 [wO 10 121, wI x1, wI x2, wI x3, wM 2] [] σ else T177 d Q 149 [wO 10 121, wI x1, wI x2, wI x3, wM 2] [] σ)) := j3_T.go d [0, 13, 16, 19, 25, 37, 52, 70, 76, 84, 90, 110, 111, 117, 148, 149] 400
set_option maxRecDepth 100000 in
theorem b177_117 {d : Nat} {Q : j3_P} {σ : j3_S} {x1 : Int} {x2 : Int} {x3 : Int} :
  T177 d Q 117 [wO 10 121, wI x1, wI x2, wI x3, wM 2] [] σ = ((0 ≤ x2 ∧ x2 < 28800) ∧ ((0 ≤ (wr ((wr (10 * x1)) + (σ.2.2 10028 121 x2))) ∧ (wr ((wr (10 * x1)) + (σ.2.2 10028 121 x2))) < 30) ∧ ((0 ≤ x2 ∧ x2 < 28800) ∧ ((0 ≤ (wr ((wr ((wr (80 * x1)) + (σ.2.2 10013 121 (wr ((wr (10 * x1)) + (σ.2.2 10028 121 x2)))))) + (σ.2.2 10029 121 x2))) ∧ (wr ((wr ((wr (80 * x1)) + (σ.2.2 10013 121 (wr ((wr (10 * x1)) + (σ.2.2 10028 121 x2)))))) + (σ.2.2 10029 121 x2))) < 240) ∧ (if 0 < (σ.2.2 10022 121 (wr ((wr ((wr (80 * x1)) + (σ.2.2 10013 121 (wr ((wr (10 * x1)) + (σ.2.2 10028 121 x2)))))) + (σ.2.2 10029 121 x2)))) then j3_tc true d 173 [wI (wr ((σ.2.2 10022 121 (wr ((wr ((wr (80 * x1)) + (σ.2.2 10013 121 (wr ((wr (10 * x1)) + (σ.2.2 10028 121 x2)))))) + (σ.2.2 10029 121 x2)))) - 1))] σ (fun r σ1 => T177 d Q 148 [wO 10 121, wI x1, wI x2, wI x3, wI (σ.2.2 10022 121 (wr ((wr ((wr (80 * x1)) + (σ.2.2 10013 121 (wr ((wr (10 * x1)) + (σ.2.2 10028 121 x2)))))) + (σ.2.2 10029 121 x2))))] (r.toList ++ [wO 10 121]) σ1) else T177 d Q 149 [wO 10 121, wI x1, wI x2, wI x3, wI (σ.2.2 10022 121 (wr ((wr ((wr (80 * x1)) + (σ.2.2 10013 121 (wr ((wr (10 * x1)) + (σ.2.2 10028 121 x2)))))) + (σ.2.2 10029 121 x2))))] [] σ))))) := j3_T.go d [0, 13, 16, 19, 25, 37, 52, 70, 76, 84, 90, 110, 111, 117, 148, 149] 400
set_option maxRecDepth 100000 in
theorem b177_148 {d : Nat} {Q : j3_P} {σ : j3_S} {x1 : Int} {x2 : Int} {x3 : Int} {x4 : Int} {xs0 : Int} :
  T177 d Q 148 [wO 10 121, wI x1, wI x2, wI x3, wI x4] [wI xs0, wO 10 121] σ = j3_tc true d 176 [wO 10 121, wI xs0] σ (fun r σ1 => T177 d Q 149 [wO 10 121, wI x1, wI x2, wI x3, wI x4] (r.toList ++ []) σ1) := j3_T.go d [0, 13, 16, 19, 25, 37, 52, 70, 76, 84, 90, 110, 111, 117, 148, 149] 400
set_option maxRecDepth 100000 in
theorem b177_149 {d : Nat} {Q : j3_P} {σ : j3_S} {x1 : Int} {x2 : Int} {x3 : Int} {w4 : j3_W} :
  T177 d Q 149 [wO 10 121, wI x1, wI x2, wI x3, w4] [] σ = Q none σ := j3_T.go d [0, 13, 16, 19, 25, 37, 52, 70, 76, 84, 90, 110, 111, 117, 148, 149] 400
def T178 (d : Nat) (Q : j3_P) : j3_K := j3_T true (j3_tc true d) jc_X10_arrive none Q
theorem e178 {d : Nat} {Q : j3_P} {σ : j3_S} {x1 : Int} {x2 : Int} {x3 : Int} {x4 : Int} : j3_tc true (d + 1) 178 [wO 10 121, wI x1, wI x2, wI x3, wI x4] σ Q = T178 d Q 0 [wO 10 121, wI x1, wI x2, wI x3, wI x4, wM 2, wM 2, wM 2, wM 2, wM 2] [] σ := j3_entry ⟨Nat.le_of_ble_eq_true rfl, rfl⟩
set_option maxRecDepth 100000 in
theorem b178_0 {d : Nat} {Q : j3_P} {σ : j3_S} {x1 : Int} {x2 : Int} {x3 : Int} {x4 : Int} :
  T178 d Q 0 [wO 10 121, wI x1, wI x2, wI x3, wI x4, wM 2, wM 2, wM 2, wM 2, wM 2] [] σ = (if x1 = 0 then T178 d Q 5 [wO 10 121, wI x1, wI x2, wI x3, wI x4, wM 2, wM 2, wM 2, wM 2, wM 2] [wI 0] σ else T178 d Q 5 [wO 10 121, wI x1, wI x2, wI x3, wI x4, wM 2, wM 2, wM 2, wM 2, wM 2] [wI 9600] σ) := j3_T.go d [0, 5, 30, 50, 104, 107, 124, 133, 140, 144, 166, 181, 184, 196, 198, 219, 234, 237] 400
set_option maxRecDepth 100000 in
theorem b178_5 {d : Nat} {Q : j3_P} {σ : j3_S} {x1 : Int} {x2 : Int} {x3 : Int} {x4 : Int} {xs0 : Int} :
  T178 d Q 5 [wO 10 121, wI x1, wI x2, wI x3, wI x4, wM 2, wM 2, wM 2, wM 2, wM 2] [wI xs0] σ = ((0 ≤ (wr ((wr (xs0 + (wr (120 * x2)))) + x3)) ∧ (wr ((wr (xs0 + (wr (120 * x2)))) + x3)) < 19200) ∧ (if (σ.2.2 10035 121 (wr ((wr (xs0 + (wr (120 * x2)))) + x3))) = 0 then (((1 : Int) = 0 ∨ (1 : Int) = 1) ∧ (0 ≤ (wr ((wr (xs0 + (wr (120 * x2)))) + x3)) ∧ (wr ((wr (xs0 + (wr (120 * x2)))) + x3)) < 19200) ∧ ((0 ≤ (wr ((wr (xs0 + (wr (120 * x2)))) + x3)) ∧ (wr ((wr (xs0 + (wr (120 * x2)))) + x3)) < 19200) ∧ T178 d Q 30 [wO 10 121, wI x1, wI x2, wI x3, wI x4, wI (wr ((wr (xs0 + (wr (120 * x2)))) + x3)), wI 0, wM 2, wM 2, wM 2] [] (σ.1, σ.2.1, (j3_ast (j3_ast σ.2.2 10035 121 (wr ((wr (xs0 + (wr (120 * x2)))) + x3)) 1) 10036 121 (wr ((wr (xs0 + (wr (120 * x2)))) + x3)) (σ.1 10041 121))))) else ((0 ≤ (wr ((wr (80 * x1)) + x2)) ∧ (wr ((wr (80 * x1)) + x2)) < 240) ∧ ((0 ≤ (wr ((wr (10 * x1)) + (σ.2.2 10019 121 (wr ((wr (80 * x1)) + x2))))) ∧ (wr ((wr (10 * x1)) + (σ.2.2 10019 121 (wr ((wr (80 * x1)) + x2))))) < 30) ∧ ((0 ≤ (wr ((wr (xs0 + (wr (120 * x2)))) + x3)) ∧ (wr ((wr (xs0 + (wr (120 * x2)))) + x3)) < 19200) ∧ (if (σ.2.2 10036 121 (wr ((wr (xs0 + (wr (120 * x2)))) + x3))) = (σ.1 10041 121) then T178 d Q 107 [wO 10 121, wI x1, wI x2, wI x3, wI x4, wI (wr ((wr (xs0 + (wr (120 * x2)))) + x3)), wI (σ.2.2 10019 121 (wr ((wr (80 * x1)) + x2))), wI (wr (x2 - (σ.2.2 10013 121 (wr ((wr (10 * x1)) + (σ.2.2 10019 121 (wr ((wr (80 * x1)) + x2)))))))), wI 0, wM 2] [] σ else j3_tc true d 158 [wO 10 121, wI 6, wI (σ.2.2 10019 121 (wr ((wr (80 * x1)) + x2))), wI (wr (x2 - (σ.2.2 10013 121 (wr ((wr (10 * x1)) + (σ.2.2 10019 121 (wr ((wr (80 * x1)) + x2)))))))), wI x4] σ (fun r σ1 => T178 d Q 104 [wO 10 121, wI x1, wI x2, wI x3, wI x4, wI (wr ((wr (xs0 + (wr (120 * x2)))) + x3)), wI (σ.2.2 10019 121 (wr ((wr (80 * x1)) + x2))), wI (wr (x2 - (σ.2.2 10013 121 (wr ((wr (10 * x1)) + (σ.2.2 10019 121 (wr ((wr (80 * x1)) + x2)))))))), wM 2, wM 2] (r.toList ++ []) σ1))))))) := j3_T.go d [0, 5, 30, 50, 104, 107, 124, 133, 140, 144, 166, 181, 184, 196, 198, 219, 234, 237] 400
set_option maxRecDepth 100000 in
theorem b178_30 {d : Nat} {Q : j3_P} {σ : j3_S} {x1 : Int} {x2 : Int} {x3 : Int} {x4 : Int} {x5 : Int} {x6 : Int} :
  T178 d Q 30 [wO 10 121, wI x1, wI x2, wI x3, wI x4, wI x5, wI x6, wM 2, wM 2, wM 2] [] σ = (if x6 < (σ.1 10041 121) then ((0 ≤ x6 ∧ x6 < 20) ∧ ((0 ≤ (wr ((wr (10 * x5)) + x6)) ∧ (wr ((wr (10 * x5)) + x6)) < 192000) ∧ T178 d Q 30 [wO 10 121, wI x1, wI x2, wI x3, wI x4, wI x5, wI (wr (x6 + 1)), wM 2, wM 2, wM 2] [] (σ.1, σ.2.1, (j3_ast σ.2.2 10037 121 (wr ((wr (10 * x5)) + x6)) (σ.2.2 10039 121 x6))))) else T178 d Q 50 [wO 10 121, wI x1, wI x2, wI x3, wI x4, wI x5, wI 0, wM 2, wM 2, wM 2] [] σ) := j3_T.go d [0, 5, 30, 50, 104, 107, 124, 133, 140, 144, 166, 181, 184, 196, 198, 219, 234, 237] 400
set_option maxRecDepth 100000 in
theorem b178_50 {d : Nat} {Q : j3_P} {σ : j3_S} {x1 : Int} {x2 : Int} {x3 : Int} {x4 : Int} {x5 : Int} {x6 : Int} :
  T178 d Q 50 [wO 10 121, wI x1, wI x2, wI x3, wI x4, wI x5, wI x6, wM 2, wM 2, wM 2] [] σ = (if x6 < (20 : Int) then ((0 ≤ x6 ∧ x6 < 20) ∧ ((0 ≤ (wr ((wr (20 * x5)) + x6)) ∧ (wr ((wr (20 * x5)) + x6)) < 384000) ∧ T178 d Q 50 [wO 10 121, wI x1, wI x2, wI x3, wI x4, wI x5, wI (wr (x6 + 1)), wM 2, wM 2, wM 2] [] (σ.1, σ.2.1, (j3_ast σ.2.2 10038 121 (wr ((wr (20 * x5)) + x6)) (σ.2.2 10040 121 x6))))) else (((1 : Int) = 0 ∨ (1 : Int) = 1) ∧ Q none ((j3_up σ.1 10042 121 1), σ.2.1, σ.2.2))) := j3_T.go d [0, 5, 30, 50, 104, 107, 124, 133, 140, 144, 166, 181, 184, 196, 198, 219, 234, 237] 400
set_option maxRecDepth 100000 in
theorem b178_104 {d : Nat} {Q : j3_P} {σ : j3_S} {x1 : Int} {x2 : Int} {x3 : Int} {x4 : Int} {x5 : Int} {x6 : Int} {x7 : Int} :
  T178 d Q 104 [wO 10 121, wI x1, wI x2, wI x3, wI x4, wI x5, wI x6, wI x7, wM 2, wM 2] [] σ = Q none σ := j3_T.go d [0, 5, 30, 50, 104, 107, 124, 133, 140, 144, 166, 181, 184, 196, 198, 219, 234, 237] 400
set_option maxRecDepth 100000 in
theorem b178_107 {d : Nat} {Q : j3_P} {σ : j3_S} {x1 : Int} {x2 : Int} {x3 : Int} {x4 : Int} {x5 : Int} {x6 : Int} {x7 : Int} {x8 : Int} :
  T178 d Q 107 [wO 10 121, wI x1, wI x2, wI x3, wI x4, wI x5, wI x6, wI x7, wI x8, wM 2] [] σ = (if x8 < (σ.1 10041 121) then ((0 ≤ (wr ((wr (10 * x5)) + x8)) ∧ (wr ((wr (10 * x5)) + x8)) < 192000) ∧ (if (σ.2.2 10037 121 (wr ((wr (10 * x5)) + x8))) = (1 : Int) then T178 d Q 124 [wO 10 121, wI x1, wI x2, wI x3, wI x4, wI x5, wI x6, wI x7, wI x8, wM 2] [wI 1] σ else T178 d Q 124 [wO 10 121, wI x1, wI x2, wI x3, wI x4, wI x5, wI x6, wI x7, wI x8, wM 2] [wI 0] σ)) else T178 d Q 144 [wO 10 121, wI x1, wI x2, wI x3, wI x4, wI x5, wI x6, wI x7, wI 0, wM 2] [] σ) := j3_T.go d [0, 5, 30, 50, 104, 107, 124, 133, 140, 144, 166, 181, 184, 196, 198, 219, 234, 237] 400
set_option maxRecDepth 100000 in
theorem b178_124 {d : Nat} {Q : j3_P} {σ : j3_S} {x1 : Int} {x2 : Int} {x3 : Int} {x4 : Int} {x5 : Int} {x6 : Int} {x7 : Int} {x8 : Int} {xs0 : Int} :
  T178 d Q 124 [wO 10 121, wI x1, wI x2, wI x3, wI x4, wI x5, wI x6, wI x7, wI x8, wM 2] [wI xs0] σ = ((0 ≤ x8 ∧ x8 < 20) ∧ (if (σ.2.2 10039 121 x8) = (1 : Int) then T178 d Q 133 [wO 10 121, wI x1, wI x2, wI x3, wI x4, wI x5, wI x6, wI x7, wI x8, wM 2] [wI 1, wI xs0] σ else T178 d Q 133 [wO 10 121, wI x1, wI x2, wI x3, wI x4, wI x5, wI x6, wI x7, wI x8, wM 2] [wI 0, wI xs0] σ)) := j3_T.go d [0, 5, 30, 50, 104, 107, 124, 133, 140, 144, 166, 181, 184, 196, 198, 219, 234, 237] 400
set_option maxRecDepth 100000 in
theorem b178_133 {d : Nat} {Q : j3_P} {σ : j3_S} {x1 : Int} {x2 : Int} {x3 : Int} {x4 : Int} {x5 : Int} {x6 : Int} {x7 : Int} {x8 : Int} {xs0 : Int} {xs1 : Int} :
  T178 d Q 133 [wO 10 121, wI x1, wI x2, wI x3, wI x4, wI x5, wI x6, wI x7, wI x8, wM 2] [wI xs0, wI xs1] σ = (if xs1 = xs0 then T178 d Q 140 [wO 10 121, wI x1, wI x2, wI x3, wI x4, wI x5, wI x6, wI x7, wI x8, wM 2] [] σ else j3_tc true d 158 [wO 10 121, wI 6, wI x6, wI x7, wI x4] σ (fun r σ1 => T178 d Q 140 [wO 10 121, wI x1, wI x2, wI x3, wI x4, wI x5, wI x6, wI x7, wI x8, wM 2] (r.toList ++ []) σ1)) := j3_T.go d [0, 5, 30, 50, 104, 107, 124, 133, 140, 144, 166, 181, 184, 196, 198, 219, 234, 237] 400
set_option maxRecDepth 100000 in
theorem b178_140 {d : Nat} {Q : j3_P} {σ : j3_S} {x1 : Int} {x2 : Int} {x3 : Int} {x4 : Int} {x5 : Int} {x6 : Int} {x7 : Int} {x8 : Int} :
  T178 d Q 140 [wO 10 121, wI x1, wI x2, wI x3, wI x4, wI x5, wI x6, wI x7, wI x8, wM 2] [] σ = T178 d Q 107 [wO 10 121, wI x1, wI x2, wI x3, wI x4, wI x5, wI x6, wI x7, wI (wr (x8 + 1)), wM 2] [] σ := j3_T.go d [0, 5, 30, 50, 104, 107, 124, 133, 140, 144, 166, 181, 184, 196, 198, 219, 234, 237] 400
set_option maxRecDepth 100000 in
theorem b178_144 {d : Nat} {Q : j3_P} {σ : j3_S} {x1 : Int} {x2 : Int} {x3 : Int} {x4 : Int} {x5 : Int} {x6 : Int} {x7 : Int} {x8 : Int} {w9 : j3_W} :
  T178 d Q 144 [wO 10 121, wI x1, wI x2, wI x3, wI x4, wI x5, wI x6, wI x7, wI x8, w9] [] σ = (if x8 < (σ.1 10041 121) then (if (σ.1 10007 121) = 0 then ((0 ≤ (wr ((wr (10 * x5)) + x8)) ∧ (wr ((wr (10 * x5)) + x8)) < 192000) ∧ ((0 ≤ x8 ∧ x8 < 20) ∧ j3_tc true d 171 [wO 10 121, wI x1, wI (σ.2.2 10037 121 (wr ((wr (10 * x5)) + x8))), wI (σ.2.2 10039 121 x8)] σ (fun r σ1 => T178 d Q 166 [wO 10 121, wI x1, wI x2, wI x3, wI x4, wI x5, wI x6, wI x7, wI x8, w9] (r.toList ++ []) σ1))) else T178 d Q 196 [wO 10 121, wI x1, wI x2, wI x3, wI x4, wI x5, wI x6, wI x7, wI x8, w9] [] σ) else T178 d Q 196 [wO 10 121, wI x1, wI x2, wI x3, wI x4, wI x5, wI x6, wI x7, wI x8, w9] [] σ) := j3_T.go d [0, 5, 30, 50, 104, 107, 124, 133, 140, 144, 166, 181, 184, 196, 198, 219, 234, 237] 400
set_option maxRecDepth 100000 in
theorem b178_166 {d : Nat} {Q : j3_P} {σ : j3_S} {x1 : Int} {x2 : Int} {x3 : Int} {x4 : Int} {x5 : Int} {x6 : Int} {x7 : Int} {x8 : Int} {w9 : j3_W} {xs0 : Int} :
  T178 d Q 166 [wO 10 121, wI x1, wI x2, wI x3, wI x4, wI x5, wI x6, wI x7, wI x8, w9] [wI xs0] σ = (if (σ.1 10042 121) = 0 then ((0 ≤ (wr ((wr (10 * x5)) + x8)) ∧ (wr ((wr (10 * x5)) + x8)) < 192000) ∧ (if xs0 = (σ.2.2 10037 121 (wr ((wr (10 * x5)) + x8))) then T178 d Q 184 [wO 10 121, wI x1, wI x2, wI x3, wI x4, wI x5, wI x6, wI x7, wI x8, wI xs0] [wI 0, wO 10 121] σ else T178 d Q 181 [wO 10 121, wI x1, wI x2, wI x3, wI x4, wI x5, wI x6, wI x7, wI x8, wI xs0] [wO 10 121] σ)) else T178 d Q 181 [wO 10 121, wI x1, wI x2, wI x3, wI x4, wI x5, wI x6, wI x7, wI x8, wI xs0] [wO 10 121] σ) := j3_T.go d [0, 5, 30, 50, 104, 107, 124, 133, 140, 144, 166, 181, 184, 196, 198, 219, 234, 237] 400
set_option maxRecDepth 100000 in
theorem b178_181 {d : Nat} {Q : j3_P} {σ : j3_S} {x1 : Int} {x2 : Int} {x3 : Int} {x4 : Int} {x5 : Int} {x6 : Int} {x7 : Int} {x8 : Int} {x9 : Int} :
  T178 d Q 181 [wO 10 121, wI x1, wI x2, wI x3, wI x4, wI x5, wI x6, wI x7, wI x8, wI x9] [wO 10 121] σ = T178 d Q 184 [wO 10 121, wI x1, wI x2, wI x3, wI x4, wI x5, wI x6, wI x7, wI x8, wI x9] [wI 1, wO 10 121] σ := j3_T.go d [0, 5, 30, 50, 104, 107, 124, 133, 140, 144, 166, 181, 184, 196, 198, 219, 234, 237] 400
set_option maxRecDepth 100000 in
theorem b178_184 {d : Nat} {Q : j3_P} {σ : j3_S} {x1 : Int} {x2 : Int} {x3 : Int} {x4 : Int} {x5 : Int} {x6 : Int} {x7 : Int} {x8 : Int} {x9 : Int} {xs0 : Int} :
  T178 d Q 184 [wO 10 121, wI x1, wI x2, wI x3, wI x4, wI x5, wI x6, wI x7, wI x8, wI x9] [wI xs0, wO 10 121] σ = ((xs0 = 0 ∨ xs0 = 1) ∧ ((0 ≤ (wr ((wr (10 * x5)) + x8)) ∧ (wr ((wr (10 * x5)) + x8)) < 192000) ∧ T178 d Q 144 [wO 10 121, wI x1, wI x2, wI x3, wI x4, wI x5, wI x6, wI x7, wI (wr (x8 + 1)), wI x9] [] ((j3_up σ.1 10042 121 xs0), σ.2.1, (j3_ast σ.2.2 10037 121 (wr ((wr (10 * x5)) + x8)) x9)))) := j3_T.go d [0, 5, 30, 50, 104, 107, 124, 133, 140, 144, 166, 181, 184, 196, 198, 219, 234, 237] 400
set_option maxRecDepth 100000 in
theorem b178_196 {d : Nat} {Q : j3_P} {σ : j3_S} {x1 : Int} {x2 : Int} {x3 : Int} {x4 : Int} {x5 : Int} {x6 : Int} {x7 : Int} {x8 : Int} {w9 : j3_W} :
  T178 d Q 196 [wO 10 121, wI x1, wI x2, wI x3, wI x4, wI x5, wI x6, wI x7, wI x8, w9] [] σ = T178 d Q 198 [wO 10 121, wI x1, wI x2, wI x3, wI x4, wI x5, wI x6, wI x7, wI 0, w9] [] σ := j3_T.go d [0, 5, 30, 50, 104, 107, 124, 133, 140, 144, 166, 181, 184, 196, 198, 219, 234, 237] 400
set_option maxRecDepth 100000 in
theorem b178_198 {d : Nat} {Q : j3_P} {σ : j3_S} {x1 : Int} {x2 : Int} {x3 : Int} {x4 : Int} {x5 : Int} {x6 : Int} {x7 : Int} {x8 : Int} {w9 : j3_W} :
  T178 d Q 198 [wO 10 121, wI x1, wI x2, wI x3, wI x4, wI x5, wI x6, wI x7, wI x8, w9] [] σ = (if x8 < (20 : Int) then (if (σ.1 10007 121) = 0 then ((0 ≤ (wr ((wr (20 * x5)) + x8)) ∧ (wr ((wr (20 * x5)) + x8)) < 384000) ∧ ((0 ≤ x8 ∧ x8 < 20) ∧ j3_tc true d 171 [wO 10 121, wI x1, wI (σ.2.2 10038 121 (wr ((wr (20 * x5)) + x8))), wI (σ.2.2 10040 121 x8)] σ (fun r σ1 => T178 d Q 219 [wO 10 121, wI x1, wI x2, wI x3, wI x4, wI x5, wI x6, wI x7, wI x8, w9] (r.toList ++ []) σ1))) else Q none σ) else Q none σ) := j3_T.go d [0, 5, 30, 50, 104, 107, 124, 133, 140, 144, 166, 181, 184, 196, 198, 219, 234, 237] 400
set_option maxRecDepth 100000 in
theorem b178_219 {d : Nat} {Q : j3_P} {σ : j3_S} {x1 : Int} {x2 : Int} {x3 : Int} {x4 : Int} {x5 : Int} {x6 : Int} {x7 : Int} {x8 : Int} {w9 : j3_W} {xs0 : Int} :
  T178 d Q 219 [wO 10 121, wI x1, wI x2, wI x3, wI x4, wI x5, wI x6, wI x7, wI x8, w9] [wI xs0] σ = (if (σ.1 10042 121) = 0 then ((0 ≤ (wr ((wr (20 * x5)) + x8)) ∧ (wr ((wr (20 * x5)) + x8)) < 384000) ∧ (if xs0 = (σ.2.2 10038 121 (wr ((wr (20 * x5)) + x8))) then T178 d Q 237 [wO 10 121, wI x1, wI x2, wI x3, wI x4, wI x5, wI x6, wI x7, wI x8, wI xs0] [wI 0, wO 10 121] σ else T178 d Q 234 [wO 10 121, wI x1, wI x2, wI x3, wI x4, wI x5, wI x6, wI x7, wI x8, wI xs0] [wO 10 121] σ)) else T178 d Q 234 [wO 10 121, wI x1, wI x2, wI x3, wI x4, wI x5, wI x6, wI x7, wI x8, wI xs0] [wO 10 121] σ) := j3_T.go d [0, 5, 30, 50, 104, 107, 124, 133, 140, 144, 166, 181, 184, 196, 198, 219, 234, 237] 400
set_option maxRecDepth 100000 in
theorem b178_234 {d : Nat} {Q : j3_P} {σ : j3_S} {x1 : Int} {x2 : Int} {x3 : Int} {x4 : Int} {x5 : Int} {x6 : Int} {x7 : Int} {x8 : Int} {x9 : Int} :
  T178 d Q 234 [wO 10 121, wI x1, wI x2, wI x3, wI x4, wI x5, wI x6, wI x7, wI x8, wI x9] [wO 10 121] σ = T178 d Q 237 [wO 10 121, wI x1, wI x2, wI x3, wI x4, wI x5, wI x6, wI x7, wI x8, wI x9] [wI 1, wO 10 121] σ := j3_T.go d [0, 5, 30, 50, 104, 107, 124, 133, 140, 144, 166, 181, 184, 196, 198, 219, 234, 237] 400
set_option maxRecDepth 100000 in
theorem b178_237 {d : Nat} {Q : j3_P} {σ : j3_S} {x1 : Int} {x2 : Int} {x3 : Int} {x4 : Int} {x5 : Int} {x6 : Int} {x7 : Int} {x8 : Int} {x9 : Int} {xs0 : Int} :
  T178 d Q 237 [wO 10 121, wI x1, wI x2, wI x3, wI x4, wI x5, wI x6, wI x7, wI x8, wI x9] [wI xs0, wO 10 121] σ = ((xs0 = 0 ∨ xs0 = 1) ∧ ((0 ≤ (wr ((wr (20 * x5)) + x8)) ∧ (wr ((wr (20 * x5)) + x8)) < 384000) ∧ T178 d Q 198 [wO 10 121, wI x1, wI x2, wI x3, wI x4, wI x5, wI x6, wI x7, wI (wr (x8 + 1)), wI x9] [] ((j3_up σ.1 10042 121 xs0), σ.2.1, (j3_ast σ.2.2 10038 121 (wr ((wr (20 * x5)) + x8)) x9)))) := j3_T.go d [0, 5, 30, 50, 104, 107, 124, 133, 140, 144, 166, 181, 184, 196, 198, 219, 234, 237] 400
def T179 (d : Nat) (Q : j3_P) : j3_K := j3_T true (j3_tc true d) jc_X10_look none Q
theorem e179 {d : Nat} {Q : j3_P} {σ : j3_S} {x1 : Int} {x2 : Int} {x3 : Int} : j3_tc true (d + 1) 179 [wO 10 121, wI x1, wI x2, wI x3] σ Q = T179 d Q 0 [wO 10 121, wI x1, wI x2, wI x3, wM 2, wM 2, wM 2, wM 2, wM 2, wM 2] [] σ := j3_entry ⟨Nat.le_of_ble_eq_true rfl, rfl⟩
set_option maxRecDepth 100000 in
theorem b179_0 {d : Nat} {Q : j3_P} {σ : j3_S} {x1 : Int} {x2 : Int} {x3 : Int} :
  T179 d Q 0 [wO 10 121, wI x1, wI x2, wI x3, wM 2, wM 2, wM 2, wM 2, wM 2, wM 2] [] σ = (if x1 = 0 then T179 d Q 5 [wO 10 121, wI x1, wI x2, wI x3, wM 2, wM 2, wM 2, wM 2, wM 2, wM 2] [wI 0] σ else T179 d Q 5 [wO 10 121, wI x1, wI x2, wI x3, wM 2, wM 2, wM 2, wM 2, wM 2, wM 2] [wI 9600] σ) := j3_T.go d [0, 5, 16, 47, 67, 89, 100, 106, 126, 133, 155, 170, 180, 212, 221, 226, 236] 400
set_option maxRecDepth 100000 in
theorem b179_5 {d : Nat} {Q : j3_P} {σ : j3_S} {x1 : Int} {x2 : Int} {x3 : Int} {xs0 : Int} :
  T179 d Q 5 [wO 10 121, wI x1, wI x2, wI x3, wM 2, wM 2, wM 2, wM 2, wM 2, wM 2] [wI xs0] σ = j3_tc true d 160 [wI x1, wI x2, wI x3] σ (fun r σ1 => T179 d Q 16 [wO 10 121, wI x1, wI x2, wI x3, wI (wr ((wr (xs0 + (wr (120 * x2)))) + x3)), wM 2, wM 2, wM 2, wM 2, wM 2] (r.toList ++ []) σ1) := j3_T.go d [0, 5, 16, 47, 67, 89, 100, 106, 126, 133, 155, 170, 180, 212, 221, 226, 236] 400
set_option maxRecDepth 100000 in
theorem b179_16 {d : Nat} {Q : j3_P} {σ : j3_S} {x1 : Int} {x2 : Int} {x3 : Int} {x4 : Int} {xs0 : Int} :
  T179 d Q 16 [wO 10 121, wI x1, wI x2, wI x3, wI x4, wM 2, wM 2, wM 2, wM 2, wM 2] [wI xs0] σ = ((0 ≤ (wr ((wr (80 * x1)) + x2)) ∧ (wr ((wr (80 * x1)) + x2)) < 240) ∧ ((0 ≤ (wr ((wr (10 * x1)) + (σ.2.2 10019 121 (wr ((wr (80 * x1)) + x2))))) ∧ (wr ((wr (10 * x1)) + (σ.2.2 10019 121 (wr ((wr (80 * x1)) + x2))))) < 30) ∧ ((0 ≤ x4 ∧ x4 < 19200) ∧ T179 d Q 47 [wO 10 121, wI x1, wI x2, wI x3, wI x4, wI xs0, wI (wr ((wr (80 * x1)) + x2)), wI (σ.2.2 10019 121 (wr ((wr (80 * x1)) + x2))), wI (wr (x2 - (σ.2.2 10013 121 (wr ((wr (10 * x1)) + (σ.2.2 10019 121 (wr ((wr (80 * x1)) + x2)))))))), wI 0] [] ((j3_up σ.1 10041 121 (σ.2.2 10036 121 x4)), σ.2.1, σ.2.2)))) := j3_T.go d [0, 5, 16, 47, 67, 89, 100, 106, 126, 133, 155, 170, 180, 212, 221, 226, 236] 400
set_option maxRecDepth 100000 in
theorem b179_47 {d : Nat} {Q : j3_P} {σ : j3_S} {x1 : Int} {x2 : Int} {x3 : Int} {x4 : Int} {x5 : Int} {x6 : Int} {x7 : Int} {x8 : Int} {x9 : Int} :
  T179 d Q 47 [wO 10 121, wI x1, wI x2, wI x3, wI x4, wI x5, wI x6, wI x7, wI x8, wI x9] [] σ = (if x9 < (σ.1 10041 121) then ((0 ≤ (wr ((wr (10 * x4)) + x9)) ∧ (wr ((wr (10 * x4)) + x9)) < 192000) ∧ ((0 ≤ x9 ∧ x9 < 20) ∧ T179 d Q 47 [wO 10 121, wI x1, wI x2, wI x3, wI x4, wI x5, wI x6, wI x7, wI x8, wI (wr (x9 + 1))] [] (σ.1, σ.2.1, (j3_ast σ.2.2 10039 121 x9 (σ.2.2 10037 121 (wr ((wr (10 * x4)) + x9))))))) else T179 d Q 67 [wO 10 121, wI x1, wI x2, wI x3, wI x4, wI x5, wI x6, wI x7, wI x8, wI 0] [] σ) := j3_T.go d [0, 5, 16, 47, 67, 89, 100, 106, 126, 133, 155, 170, 180, 212, 221, 226, 236] 400
set_option maxRecDepth 100000 in
theorem b179_67 {d : Nat} {Q : j3_P} {σ : j3_S} {x1 : Int} {x2 : Int} {x3 : Int} {x4 : Int} {x5 : Int} {x6 : Int} {x7 : Int} {x8 : Int} {x9 : Int} :
  T179 d Q 67 [wO 10 121, wI x1, wI x2, wI x3, wI x4, wI x5, wI x6, wI x7, wI x8, wI x9] [] σ = (if x9 < (20 : Int) then ((0 ≤ (wr ((wr (20 * x4)) + x9)) ∧ (wr ((wr (20 * x4)) + x9)) < 384000) ∧ ((0 ≤ x9 ∧ x9 < 20) ∧ T179 d Q 67 [wO 10 121, wI x1, wI x2, wI x3, wI x4, wI x5, wI x6, wI x7, wI x8, wI (wr (x9 + 1))] [] (σ.1, σ.2.1, (j3_ast σ.2.2 10040 121 x9 (σ.2.2 10038 121 (wr ((wr (20 * x4)) + x9))))))) else j3_tc true d 175 [wO 10 121, wI x1, wI x2, wI x5] σ (fun r σ1 => T179 d Q 89 [wO 10 121, wI x1, wI x2, wI x3, wI x4, wI x5, wI x6, wI x7, wI x8, wI x9] (r.toList ++ []) σ1)) := j3_T.go d [0, 5, 16, 47, 67, 89, 100, 106, 126, 133, 155, 170, 180, 212, 221, 226, 236] 400
set_option maxRecDepth 100000 in
theorem b179_89 {d : Nat} {Q : j3_P} {σ : j3_S} {x1 : Int} {x2 : Int} {x3 : Int} {x4 : Int} {x5 : Int} {x6 : Int} {x7 : Int} {x8 : Int} {x9 : Int} :
  T179 d Q 89 [wO 10 121, wI x1, wI x2, wI x3, wI x4, wI x5, wI x6, wI x7, wI x8, wI x9] [] σ = (if (σ.1 10041 121) < (σ.1 10047 121) then j3_tc true d 158 [wO 10 121, wI 3, wI x7, wI x8, wI x3] σ (fun r σ1 => T179 d Q 100 [wO 10 121, wI x1, wI x2, wI x3, wI x4, wI x5, wI x6, wI x7, wI x8, wI x9] (r.toList ++ []) σ1) else T179 d Q 100 [wO 10 121, wI x1, wI x2, wI x3, wI x4, wI x5, wI x6, wI x7, wI x8, wI x9] [] σ) := j3_T.go d [0, 5, 16, 47, 67, 89, 100, 106, 126, 133, 155, 170, 180, 212, 221, 226, 236] 400
set_option maxRecDepth 100000 in
theorem b179_100 {d : Nat} {Q : j3_P} {σ : j3_S} {x1 : Int} {x2 : Int} {x3 : Int} {x4 : Int} {x5 : Int} {x6 : Int} {x7 : Int} {x8 : Int} {x9 : Int} :
  T179 d Q 100 [wO 10 121, wI x1, wI x2, wI x3, wI x4, wI x5, wI x6, wI x7, wI x8, wI x9] [] σ = (if (σ.1 10007 121) = 0 then T179 d Q 106 [wO 10 121, wI x1, wI x2, wI x3, wI x4, wI x5, wI x6, wI x7, wI x8, wI 0] [] σ else Q none σ) := j3_T.go d [0, 5, 16, 47, 67, 89, 100, 106, 126, 133, 155, 170, 180, 212, 221, 226, 236] 400
set_option maxRecDepth 100000 in
theorem b179_106 {d : Nat} {Q : j3_P} {σ : j3_S} {x1 : Int} {x2 : Int} {x3 : Int} {x4 : Int} {x5 : Int} {x6 : Int} {x7 : Int} {x8 : Int} {x9 : Int} :
  T179 d Q 106 [wO 10 121, wI x1, wI x2, wI x3, wI x4, wI x5, wI x6, wI x7, wI x8, wI x9] [] σ = (if x9 < (σ.1 10047 121) then ((0 ≤ (wr ((wr ((σ.1 10041 121) - 1)) - x9)) ∧ (wr ((wr ((σ.1 10041 121) - 1)) - x9)) < 20) ∧ ((0 ≤ x9 ∧ x9 < 5) ∧ j3_tc true d 172 [wO 10 121, wI x1, wI (σ.2.2 10039 121 (wr ((wr ((σ.1 10041 121) - 1)) - x9))), wI (σ.2.2 10048 121 x9)] σ (fun r σ1 => T179 d Q 126 [wO 10 121, wI x1, wI x2, wI x3, wI x4, wI x5, wI x6, wI x7, wI x8, wI x9] (r.toList ++ []) σ1))) else ((0 ≤ x5 ∧ x5 < 28800) ∧ (if (σ.2.2 10027 121 x5) = (2 : Int) then ((0 ≤ x5 ∧ x5 < 28800) ∧ ((0 ≤ (σ.2.2 10028 121 x5) ∧ (σ.2.2 10028 121 x5) < 20) ∧ (if (σ.2.2 10040 121 (σ.2.2 10028 121 x5)) = 0 then j3_tc true d 158 [wO 10 121, wI 4, wI x7, wI x8, wI x3] σ (fun r σ1 => T179 d Q 155 [wO 10 121, wI x1, wI x2, wI x3, wI x4, wI x5, wI x6, wI x7, wI x8, wI x9] (r.toList ++ []) σ1) else T179 d Q 155 [wO 10 121, wI x1, wI x2, wI x3, wI x4, wI x5, wI x6, wI x7, wI x8, wI x9] [] σ))) else T179 d Q 155 [wO 10 121, wI x1, wI x2, wI x3, wI x4, wI x5, wI x6, wI x7, wI x8, wI x9] [] σ))) := j3_T.go d [0, 5, 16, 47, 67, 89, 100, 106, 126, 133, 155, 170, 180, 212, 221, 226, 236] 400
set_option maxRecDepth 100000 in
theorem b179_126 {d : Nat} {Q : j3_P} {σ : j3_S} {x1 : Int} {x2 : Int} {x3 : Int} {x4 : Int} {x5 : Int} {x6 : Int} {x7 : Int} {x8 : Int} {x9 : Int} {xs0 : Int} :
  T179 d Q 126 [wO 10 121, wI x1, wI x2, wI x3, wI x4, wI x5, wI x6, wI x7, wI x8, wI x9] [wI xs0] σ = (if xs0 = 0 then j3_tc true d 158 [wO 10 121, wI 4, wI x7, wI x8, wI x3] σ (fun r σ1 => T179 d Q 133 [wO 10 121, wI x1, wI x2, wI x3, wI x4, wI x5, wI x6, wI x7, wI x8, wI x9] (r.toList ++ []) σ1) else T179 d Q 133 [wO 10 121, wI x1, wI x2, wI x3, wI x4, wI x5, wI x6, wI x7, wI x8, wI x9] [] σ) := j3_T.go d [0, 5, 16, 47, 67, 89, 100, 106, 126, 133, 155, 170, 180, 212, 221, 226, 236] 400
set_option maxRecDepth 100000 in
theorem b179_133 {d : Nat} {Q : j3_P} {σ : j3_S} {x1 : Int} {x2 : Int} {x3 : Int} {x4 : Int} {x5 : Int} {x6 : Int} {x7 : Int} {x8 : Int} {x9 : Int} :
  T179 d Q 133 [wO 10 121, wI x1, wI x2, wI x3, wI x4, wI x5, wI x6, wI x7, wI x8, wI x9] [] σ = T179 d Q 106 [wO 10 121, wI x1, wI x2, wI x3, wI x4, wI x5, wI x6, wI x7, wI x8, wI (wr (x9 + 1))] [] σ := j3_T.go d [0, 5, 16, 47, 67, 89, 100, 106, 126, 133, 155, 170, 180, 212, 221, 226, 236] 400
set_option maxRecDepth 100000 in
theorem b179_155 {d : Nat} {Q : j3_P} {σ : j3_S} {x1 : Int} {x2 : Int} {x3 : Int} {x4 : Int} {x5 : Int} {x6 : Int} {x7 : Int} {x8 : Int} {x9 : Int} :
  T179 d Q 155 [wO 10 121, wI x1, wI x2, wI x3, wI x4, wI x5, wI x6, wI x7, wI x8, wI x9] [] σ = (if (σ.1 10007 121) = 0 then j3_tc true d 177 [wO 10 121, wI x1, wI x5] ((j3_up σ.1 10041 121 (wr ((σ.1 10041 121) - (σ.1 10047 121)))), σ.2.1, σ.2.2) (fun r σ1 => T179 d Q 170 [wO 10 121, wI x1, wI x2, wI x3, wI x4, wI x5, wI x6, wI x7, wI x8, wI x9] (r.toList ++ []) σ1) else Q none σ) := j3_T.go d [0, 5, 16, 47, 67, 89, 100, 106, 126, 133, 155, 170, 180, 212, 221, 226, 236] 400
set_option maxRecDepth 100000 in
theorem b179_170 {d : Nat} {Q : j3_P} {σ : j3_S} {x1 : Int} {x2 : Int} {x3 : Int} {x4 : Int} {x5 : Int} {x6 : Int} {x7 : Int} {x8 : Int} {x9 : Int} :
  T179 d Q 170 [wO 10 121, wI x1, wI x2, wI x3, wI x4, wI x5, wI x6, wI x7, wI x8, wI x9] [] σ = (if (10 : Int) < (σ.1 10041 121) then j3_tc true d 158 [wO 10 121, wI 5, wI x7, wI x8, wI x3] σ (fun r σ1 => T179 d Q 180 [wO 10 121, wI x1, wI x2, wI x3, wI x4, wI x5, wI x6, wI x7, wI x8, wI x9] (r.toList ++ []) σ1) else T179 d Q 180 [wO 10 121, wI x1, wI x2, wI x3, wI x4, wI x5, wI x6, wI x7, wI x8, wI x9] [] σ) := j3_T.go d [0, 5, 16, 47, 67, 89, 100, 106, 126, 133, 155, 170, 180, 212, 221, 226, 236] 400
set_option maxRecDepth 100000 in
theorem b179_180 {d : Nat} {Q : j3_P} {σ : j3_S} {x1 : Int} {x2 : Int} {x3 : Int} {x4 : Int} {x5 : Int} {x6 : Int} {x7 : Int} {x8 : Int} {x9 : Int} :
  T179 d Q 180 [wO 10 121, wI x1, wI x2, wI x3, wI x4, wI x5, wI x6, wI x7, wI x8, wI x9] [] σ = (if (σ.1 10007 121) = 0 then ((0 ≤ x5 ∧ x5 < 28800) ∧ (if (σ.2.2 10027 121 x5) = (11 : Int) then T179 d Q 221 [wO 10 121, wI x1, wI x2, wI x3, wI x4, wI x5, wI x6, wI x7, wI x8, wI (σ.2.2 10027 121 x5)] [] σ else (if (σ.2.2 10027 121 x5) = (22 : Int) then T179 d Q 221 [wO 10 121, wI x1, wI x2, wI x3, wI x4, wI x5, wI x6, wI x7, wI x8, wI (σ.2.2 10027 121 x5)] [] σ else (if (σ.2.2 10027 121 x5) = (26 : Int) then T179 d Q 221 [wO 10 121, wI x1, wI x2, wI x3, wI x4, wI x5, wI x6, wI x7, wI x8, wI (σ.2.2 10027 121 x5)] [] σ else ((0 ≤ x6 ∧ x6 < 240) ∧ (if (wr (x3 + 1)) = (σ.2.2 10026 121 x6) then j3_tc true d 158 [wO 10 121, wI 7, wI x7, wI x8, wI x3] σ (fun r σ1 => T179 d Q 212 [wO 10 121, wI x1, wI x2, wI x3, wI x4, wI x5, wI x6, wI x7, wI x8, wI (σ.2.2 10027 121 x5)] (r.toList ++ []) σ1) else j3_tc true d 178 [wO 10 121, wI x1, wI x2, wI (wr (x3 + 1)), wI x3] σ (fun r σ1 => T179 d Q 221 [wO 10 121, wI x1, wI x2, wI x3, wI x4, wI x5, wI x6, wI x7, wI x8, wI (σ.2.2 10027 121 x5)] (r.toList ++ []) σ1))))))) else Q none σ) := j3_T.go d [0, 5, 16, 47, 67, 89, 100, 106, 126, 133, 155, 170, 180, 212, 221, 226, 236] 400
set_option maxRecDepth 100000 in
theorem b179_212 {d : Nat} {Q : j3_P} {σ : j3_S} {x1 : Int} {x2 : Int} {x3 : Int} {x4 : Int} {x5 : Int} {x6 : Int} {x7 : Int} {x8 : Int} {x9 : Int} :
  T179 d Q 212 [wO 10 121, wI x1, wI x2, wI x3, wI x4, wI x5, wI x6, wI x7, wI x8, wI x9] [] σ = T179 d Q 221 [wO 10 121, wI x1, wI x2, wI x3, wI x4, wI x5, wI x6, wI x7, wI x8, wI x9] [] σ := j3_T.go d [0, 5, 16, 47, 67, 89, 100, 106, 126, 133, 155, 170, 180, 212, 221, 226, 236] 400
set_option maxRecDepth 100000 in
theorem b179_221 {d : Nat} {Q : j3_P} {σ : j3_S} {x1 : Int} {x2 : Int} {x3 : Int} {x4 : Int} {x5 : Int} {x6 : Int} {x7 : Int} {x8 : Int} {x9 : Int} :
  T179 d Q 221 [wO 10 121, wI x1, wI x2, wI x3, wI x4, wI x5, wI x6, wI x7, wI x8, wI x9] [] σ = (if (σ.1 10007 121) = 0 then j3_tc true d 164 [wI x9] σ (fun r σ1 => T179 d Q 226 [wO 10 121, wI x1, wI x2, wI x3, wI x4, wI x5, wI x6, wI x7, wI x8, wI x9] (r.toList ++ []) σ1) else T179 d Q 236 [wO 10 121, wI x1, wI x2, wI x3, wI x4, wI x5, wI x6, wI x7, wI x8, wI x9] [] σ) := j3_T.go d [0, 5, 16, 47, 67, 89, 100, 106, 126, 133, 155, 170, 180, 212, 221, 226, 236] 400
set_option maxRecDepth 100000 in
theorem b179_226 {d : Nat} {Q : j3_P} {σ : j3_S} {x1 : Int} {x2 : Int} {x3 : Int} {x4 : Int} {x5 : Int} {x6 : Int} {x7 : Int} {x8 : Int} {x9 : Int} {xs0 : Int} :
  T179 d Q 226 [wO 10 121, wI x1, wI x2, wI x3, wI x4, wI x5, wI x6, wI x7, wI x8, wI x9] [wI xs0] σ = (if xs0 = 0 then T179 d Q 236 [wO 10 121, wI x1, wI x2, wI x3, wI x4, wI x5, wI x6, wI x7, wI x8, wI x9] [] σ else ((0 ≤ x5 ∧ x5 < 28800) ∧ j3_tc true d 178 [wO 10 121, wI x1, wI x2, wI (σ.2.2 10028 121 x5), wI x3] σ (fun r σ1 => T179 d Q 236 [wO 10 121, wI x1, wI x2, wI x3, wI x4, wI x5, wI x6, wI x7, wI x8, wI x9] (r.toList ++ []) σ1))) := j3_T.go d [0, 5, 16, 47, 67, 89, 100, 106, 126, 133, 155, 170, 180, 212, 221, 226, 236] 400
set_option maxRecDepth 100000 in
theorem b179_236 {d : Nat} {Q : j3_P} {σ : j3_S} {x1 : Int} {x2 : Int} {x3 : Int} {x4 : Int} {x5 : Int} {x6 : Int} {x7 : Int} {x8 : Int} {x9 : Int} :
  T179 d Q 236 [wO 10 121, wI x1, wI x2, wI x3, wI x4, wI x5, wI x6, wI x7, wI x8, wI x9] [] σ = Q none σ := j3_T.go d [0, 5, 16, 47, 67, 89, 100, 106, 126, 133, 155, 170, 180, 212, 221, 226, 236] 400
def T180 (d : Nat) (Q : j3_P) : j3_K := j3_T true (j3_tc true d) jc_X10_types none Q
theorem e180 {d : Nat} {Q : j3_P} {σ : j3_S} {x1 : Int} : j3_tc true (d + 1) 180 [wO 10 121, wI x1] σ Q = T180 d Q 0 [wO 10 121, wI x1, wM 2, wM 2, wM 2, wM 2] [] σ := j3_entry ⟨Nat.le_of_ble_eq_true rfl, rfl⟩
set_option maxRecDepth 100000 in
theorem b180_0 {d : Nat} {Q : j3_P} {σ : j3_S} {x1 : Int} :
  T180 d Q 0 [wO 10 121, wI x1, wM 2, wM 2, wM 2, wM 2] [] σ = T180 d Q 2 [wO 10 121, wI x1, wI 0, wM 2, wM 2, wM 2] [] σ := j3_T.go d [0, 2, 19, 29, 61, 63, 83, 93, 109, 120, 136, 149, 151, 152] 400
set_option maxRecDepth 100000 in
theorem b180_2 {d : Nat} {Q : j3_P} {σ : j3_S} {x1 : Int} {x2 : Int} {w3 : j3_W} {w4 : j3_W} {w5 : j3_W} :
  T180 d Q 2 [wO 10 121, wI x1, wI x2, w3, w4, w5] [] σ = ((0 ≤ x1 ∧ x1 < 3) ∧ (if x2 < (σ.2.2 10018 121 x1) then (if (σ.1 10007 121) = 0 then T180 d Q 19 [wO 10 121, wI x1, wI x2, wI (wr ((wr (80 * x1)) + x2)), wI 0, w5] [] σ else Q none σ) else Q none σ)) := j3_T.go d [0, 2, 19, 29, 61, 63, 83, 93, 109, 120, 136, 149, 151, 152] 400
set_option maxRecDepth 100000 in
theorem b180_19 {d : Nat} {Q : j3_P} {σ : j3_S} {x1 : Int} {x2 : Int} {x3 : Int} {x4 : Int} {w5 : j3_W} :
  T180 d Q 19 [wO 10 121, wI x1, wI x2, wI x3, wI x4, w5] [] σ = (if x4 < (120 : Int) then (if x1 = 0 then T180 d Q 29 [wO 10 121, wI x1, wI x2, wI x3, wI x4, w5] [wI 0, wA 10035 121] σ else T180 d Q 29 [wO 10 121, wI x1, wI x2, wI x3, wI x4, w5] [wI 9600, wA 10035 121] σ) else ((0 ≤ x3 ∧ x3 < 240) ∧ (if (σ.2.2 10021 121 x3) = 0 then ((0 ≤ x3 ∧ x3 < 240) ∧ ((0 ≤ (0 : Int) ∧ (0 : Int) < 20) ∧ T180 d Q 61 [wO 10 121, wI x1, wI x2, wI x3, wI 1, w5] [] ((j3_up σ.1 10041 121 0), σ.2.1, (j3_ast σ.2.2 10040 121 0 (wr (4 + (σ.2.2 10019 121 x3))))))) else T180 d Q 61 [wO 10 121, wI x1, wI x2, wI x3, wI 0, w5] [] ((j3_up σ.1 10041 121 0), σ.2.1, σ.2.2)))) := j3_T.go d [0, 2, 19, 29, 61, 63, 83, 93, 109, 120, 136, 149, 151, 152] 400
set_option maxRecDepth 100000 in
theorem b180_29 {d : Nat} {Q : j3_P} {σ : j3_S} {x1 : Int} {x2 : Int} {x3 : Int} {x4 : Int} {w5 : j3_W} {xs0 : Int} :
  T180 d Q 29 [wO 10 121, wI x1, wI x2, wI x3, wI x4, w5] [wI xs0, wA 10035 121] σ = (((0 : Int) = 0 ∨ (0 : Int) = 1) ∧ (0 ≤ (wr ((wr (xs0 + (wr (120 * x2)))) + x4)) ∧ (wr ((wr (xs0 + (wr (120 * x2)))) + x4)) < 19200) ∧ T180 d Q 19 [wO 10 121, wI x1, wI x2, wI x3, wI (wr (x4 + 1)), w5] [] (σ.1, σ.2.1, (j3_ast σ.2.2 10035 121 (wr ((wr (xs0 + (wr (120 * x2)))) + x4)) 0))) := j3_T.go d [0, 2, 19, 29, 61, 63, 83, 93, 109, 120, 136, 149, 151, 152] 400
set_option maxRecDepth 100000 in
theorem b180_61 {d : Nat} {Q : j3_P} {σ : j3_S} {x1 : Int} {x2 : Int} {x3 : Int} {x4 : Int} {w5 : j3_W} :
  T180 d Q 61 [wO 10 121, wI x1, wI x2, wI x3, wI x4, w5] [] σ = T180 d Q 63 [wO 10 121, wI x1, wI x2, wI x3, wI x4, wI 0] [] σ := j3_T.go d [0, 2, 19, 29, 61, 63, 83, 93, 109, 120, 136, 149, 151, 152] 400
set_option maxRecDepth 100000 in
theorem b180_63 {d : Nat} {Q : j3_P} {σ : j3_S} {x1 : Int} {x2 : Int} {x3 : Int} {x4 : Int} {x5 : Int} :
  T180 d Q 63 [wO 10 121, wI x1, wI x2, wI x3, wI x4, wI x5] [] σ = ((0 ≤ x3 ∧ x3 < 240) ∧ (if x5 < (σ.2.2 10023 121 x3) then ((0 ≤ (wr ((wr (3 * x3)) + x5)) ∧ (wr ((wr (3 * x3)) + x5)) < 720) ∧ j3_tc true d 173 [wI (σ.2.2 10024 121 (wr ((wr (3 * x3)) + x5)))] σ (fun r σ1 => T180 d Q 83 [wO 10 121, wI x1, wI x2, wI x3, wI x4, wI x5] (r.toList ++ [wI (wr (x4 + x5)), wA 10040 121]) σ1)) else ((0 ≤ x3 ∧ x3 < 240) ∧ T180 d Q 93 [wO 10 121, wI x1, wI x2, wI x3, wI x4, wI (wr (x4 + (σ.2.2 10023 121 x3)))] [] σ))) := j3_T.go d [0, 2, 19, 29, 61, 63, 83, 93, 109, 120, 136, 149, 151, 152] 400
set_option maxRecDepth 100000 in
theorem b180_83 {d : Nat} {Q : j3_P} {σ : j3_S} {x1 : Int} {x2 : Int} {x3 : Int} {x4 : Int} {x5 : Int} {xs0 : Int} {xs1 : Int} :
  T180 d Q 83 [wO 10 121, wI x1, wI x2, wI x3, wI x4, wI x5] [wI xs0, wI xs1, wA 10040 121] σ = ((0 ≤ xs1 ∧ xs1 < 20) ∧ T180 d Q 63 [wO 10 121, wI x1, wI x2, wI x3, wI x4, wI (wr (x5 + 1))] [] (σ.1, σ.2.1, (j3_ast σ.2.2 10040 121 xs1 xs0))) := j3_T.go d [0, 2, 19, 29, 61, 63, 83, 93, 109, 120, 136, 149, 151, 152] 400
set_option maxRecDepth 100000 in
theorem b180_93 {d : Nat} {Q : j3_P} {σ : j3_S} {x1 : Int} {x2 : Int} {x3 : Int} {x4 : Int} {x5 : Int} :
  T180 d Q 93 [wO 10 121, wI x1, wI x2, wI x3, wI x4, wI x5] [] σ = (if x5 < (20 : Int) then ((0 ≤ x5 ∧ x5 < 20) ∧ T180 d Q 93 [wO 10 121, wI x1, wI x2, wI x3, wI x4, wI (wr (x5 + 1))] [] (σ.1, σ.2.1, (j3_ast σ.2.2 10040 121 x5 0))) else j3_tc true d 178 [wO 10 121, wI x1, wI x2, wI 0, wI 0] σ (fun r σ1 => T180 d Q 109 [wO 10 121, wI x1, wI x2, wI x3, wI x4, wI x5] (r.toList ++ []) σ1)) := j3_T.go d [0, 2, 19, 29, 61, 63, 83, 93, 109, 120, 136, 149, 151, 152] 400
set_option maxRecDepth 100000 in
theorem b180_109 {d : Nat} {Q : j3_P} {σ : j3_S} {x1 : Int} {x2 : Int} {x3 : Int} {x4 : Int} {x5 : Int} :
  T180 d Q 109 [wO 10 121, wI x1, wI x2, wI x3, wI x4, wI x5] [] σ = (if (σ.1 10042 121) = 0 then T180 d Q 152 [wO 10 121, wI x1, wI x2, wI x3, wI x4, wI x5] [] σ else (if (σ.1 10007 121) = 0 then (((0 : Int) = 0 ∨ (0 : Int) = 1) ∧ T180 d Q 120 [wO 10 121, wI x1, wI x2, wI x3, wI x4, wI 0] [] ((j3_up σ.1 10042 121 0), σ.2.1, σ.2.2)) else T180 d Q 152 [wO 10 121, wI x1, wI x2, wI x3, wI x4, wI x5] [] σ)) := j3_T.go d [0, 2, 19, 29, 61, 63, 83, 93, 109, 120, 136, 149, 151, 152] 400
set_option maxRecDepth 100000 in
theorem b180_120 {d : Nat} {Q : j3_P} {σ : j3_S} {x1 : Int} {x2 : Int} {x3 : Int} {x4 : Int} {x5 : Int} :
  T180 d Q 120 [wO 10 121, wI x1, wI x2, wI x3, wI x4, wI x5] [] σ = ((0 ≤ x3 ∧ x3 < 240) ∧ (if x5 < (σ.2.2 10026 121 x3) then (if (σ.1 10007 121) = 0 then (if x1 = 0 then T180 d Q 136 [wO 10 121, wI x1, wI x2, wI x3, wI x4, wI x5] [wI 0, wA 10035 121] σ else T180 d Q 136 [wO 10 121, wI x1, wI x2, wI x3, wI x4, wI x5] [wI 9600, wA 10035 121] σ) else T180 d Q 151 [wO 10 121, wI x1, wI x2, wI x3, wI x4, wI x5] [] σ) else T180 d Q 151 [wO 10 121, wI x1, wI x2, wI x3, wI x4, wI x5] [] σ)) := j3_T.go d [0, 2, 19, 29, 61, 63, 83, 93, 109, 120, 136, 149, 151, 152] 400
set_option maxRecDepth 100000 in
theorem b180_136 {d : Nat} {Q : j3_P} {σ : j3_S} {x1 : Int} {x2 : Int} {x3 : Int} {x4 : Int} {x5 : Int} {xs0 : Int} :
  T180 d Q 136 [wO 10 121, wI x1, wI x2, wI x3, wI x4, wI x5] [wI xs0, wA 10035 121] σ = ((0 ≤ (wr ((wr (xs0 + (wr (120 * x2)))) + x5)) ∧ (wr ((wr (xs0 + (wr (120 * x2)))) + x5)) < 19200) ∧ (if (σ.2.2 10035 121 (wr ((wr (xs0 + (wr (120 * x2)))) + x5))) = 0 then T180 d Q 149 [wO 10 121, wI x1, wI x2, wI x3, wI x4, wI x5] [] σ else j3_tc true d 179 [wO 10 121, wI x1, wI x2, wI x5] σ (fun r σ1 => T180 d Q 149 [wO 10 121, wI x1, wI x2, wI x3, wI x4, wI x5] (r.toList ++ []) σ1))) := j3_T.go d [0, 2, 19, 29, 61, 63, 83, 93, 109, 120, 136, 149, 151, 152] 400
set_option maxRecDepth 100000 in
theorem b180_149 {d : Nat} {Q : j3_P} {σ : j3_S} {x1 : Int} {x2 : Int} {x3 : Int} {x4 : Int} {x5 : Int} :
  T180 d Q 149 [wO 10 121, wI x1, wI x2, wI x3, wI x4, wI x5] [] σ = T180 d Q 120 [wO 10 121, wI x1, wI x2, wI x3, wI x4, wI (wr (x5 + 1))] [] σ := j3_T.go d [0, 2, 19, 29, 61, 63, 83, 93, 109, 120, 136, 149, 151, 152] 400
set_option maxRecDepth 100000 in
theorem b180_151 {d : Nat} {Q : j3_P} {σ : j3_S} {x1 : Int} {x2 : Int} {x3 : Int} {x4 : Int} {x5 : Int} :
  T180 d Q 151 [wO 10 121, wI x1, wI x2, wI x3, wI x4, wI x5] [] σ = T180 d Q 109 [wO 10 121, wI x1, wI x2, wI x3, wI x4, wI x5] [] σ := j3_T.go d [0, 2, 19, 29, 61, 63, 83, 93, 109, 120, 136, 149, 151, 152] 400
set_option maxRecDepth 100000 in
theorem b180_152 {d : Nat} {Q : j3_P} {σ : j3_S} {x1 : Int} {x2 : Int} {x3 : Int} {x4 : Int} {x5 : Int} :
  T180 d Q 152 [wO 10 121, wI x1, wI x2, wI x3, wI x4, wI x5] [] σ = (((0 : Int) = 0 ∨ (0 : Int) = 1) ∧ T180 d Q 2 [wO 10 121, wI x1, wI (wr (x2 + 1)), wI x3, wI x4, wI x5] [] ((j3_up σ.1 10042 121 0), σ.2.1, σ.2.2)) := j3_T.go d [0, 2, 19, 29, 61, 63, 83, 93, 109, 120, 136, 149, 151, 152] 400
def T181 (d : Nat) (Q : j3_P) : j3_K := j3_T true (j3_tc true d) jc_X10_copyMethod none Q
theorem e181 {d : Nat} {Q : j3_P} {σ : j3_S} {x1 : Int} {x2 : Int} {x3 : Int} {x4 : Int} : j3_tc true (d + 1) 181 [wO 10 121, wI x1, wI x2, wI x3, wI x4] σ Q = T181 d Q 0 [wO 10 121, wI x1, wI x2, wI x3, wI x4, wM 2, wM 2, wM 2] [] σ := j3_entry ⟨Nat.le_of_ble_eq_true rfl, rfl⟩
set_option maxRecDepth 100000 in
theorem b181_0 {d : Nat} {Q : j3_P} {σ : j3_S} {x1 : Int} {x2 : Int} {x3 : Int} {x4 : Int} :
  T181 d Q 0 [wO 10 121, wI x1, wI x2, wI x3, wI x4, wM 2, wM 2, wM 2] [] σ = ((0 ≤ (wr ((wr (80 * x1)) + x2)) ∧ (wr ((wr (80 * x1)) + x2)) < 240) ∧ ((0 ≤ (wr ((wr (80 * x3)) + x4)) ∧ (wr ((wr (80 * x3)) + x4)) < 240) ∧ ((0 ≤ (wr ((wr (80 * x1)) + x2)) ∧ (wr ((wr (80 * x1)) + x2)) < 240) ∧ ((0 ≤ (wr ((wr (80 * x3)) + x4)) ∧ (wr ((wr (80 * x3)) + x4)) < 240) ∧ ((0 ≤ (wr ((wr (80 * x1)) + x2)) ∧ (wr ((wr (80 * x1)) + x2)) < 240) ∧ ((0 ≤ (wr ((wr (80 * x3)) + x4)) ∧ (wr ((wr (80 * x3)) + x4)) < 240) ∧ ((0 ≤ (wr ((wr (80 * x1)) + x2)) ∧ (wr ((wr (80 * x1)) + x2)) < 240) ∧ ((0 ≤ (wr ((wr (80 * x3)) + x4)) ∧ (wr ((wr (80 * x3)) + x4)) < 240) ∧ ((0 ≤ (wr ((wr (80 * x1)) + x2)) ∧ (wr ((wr (80 * x1)) + x2)) < 240) ∧ ((0 ≤ (wr ((wr (80 * x3)) + x4)) ∧ (wr ((wr (80 * x3)) + x4)) < 240) ∧ T181 d Q 54 [wO 10 121, wI x1, wI x2, wI x3, wI x4, wI (wr ((wr (80 * x1)) + x2)), wI (wr ((wr (80 * x3)) + x4)), wI 0] [] (σ.1, σ.2.1, (j3_ast (j3_ast (j3_ast (j3_ast (j3_ast σ.2.2 10019 121 (wr ((wr (80 * x3)) + x4)) (σ.2.2 10019 121 (wr ((wr (80 * x1)) + x2)))) 10020 121 (wr ((wr (80 * x3)) + x4)) (σ.2.2 10020 121 (wr ((wr (80 * x1)) + x2)))) 10021 121 (wr ((wr (80 * x3)) + x4)) (σ.2.2 10021 121 (wr ((wr (80 * x1)) + x2)))) 10022 121 (wr ((wr (80 * x3)) + x4)) (σ.2.2 10022 121 (wr ((wr (80 * x1)) + x2)))) 10023 121 (wr ((wr (80 * x3)) + x4)) (σ.2.2 10023 121 (wr ((wr (80 * x1)) + x2))))))))))))))) := j3_T.go d [0, 54, 93, 104, 108, 109] 400
set_option maxRecDepth 100000 in
theorem b181_54 {d : Nat} {Q : j3_P} {σ : j3_S} {x1 : Int} {x2 : Int} {x3 : Int} {x4 : Int} {x5 : Int} {x6 : Int} {x7 : Int} :
  T181 d Q 54 [wO 10 121, wI x1, wI x2, wI x3, wI x4, wI x5, wI x6, wI x7] [] σ = (if x7 < (3 : Int) then ((0 ≤ (wr ((wr (3 * x5)) + x7)) ∧ (wr ((wr (3 * x5)) + x7)) < 720) ∧ ((0 ≤ (wr ((wr (3 * x6)) + x7)) ∧ (wr ((wr (3 * x6)) + x7)) < 720) ∧ T181 d Q 54 [wO 10 121, wI x1, wI x2, wI x3, wI x4, wI x5, wI x6, wI (wr (x7 + 1))] [] (σ.1, σ.2.1, (j3_ast σ.2.2 10024 121 (wr ((wr (3 * x6)) + x7)) (σ.2.2 10024 121 (wr ((wr (3 * x5)) + x7))))))) else ((0 ≤ x5 ∧ x5 < 240) ∧ ((0 ≤ x6 ∧ x6 < 240) ∧ ((0 ≤ x5 ∧ x5 < 240) ∧ ((0 ≤ x6 ∧ x6 < 240) ∧ T181 d Q 93 [wO 10 121, wI x1, wI x2, wI x3, wI x4, wI x5, wI x6, wI 0] [] (σ.1, σ.2.1, (j3_ast (j3_ast σ.2.2 10025 121 x6 (σ.2.2 10025 121 x5)) 10026 121 x6 (σ.2.2 10026 121 x5)))))))) := j3_T.go d [0, 54, 93, 104, 108, 109] 400
set_option maxRecDepth 100000 in
theorem b181_93 {d : Nat} {Q : j3_P} {σ : j3_S} {x1 : Int} {x2 : Int} {x3 : Int} {x4 : Int} {x5 : Int} {x6 : Int} {x7 : Int} :
  T181 d Q 93 [wO 10 121, wI x1, wI x2, wI x3, wI x4, wI x5, wI x6, wI x7] [] σ = ((0 ≤ x5 ∧ x5 < 240) ∧ (if x7 < (σ.2.2 10026 121 x5) then j3_tc true d 160 [wI x1, wI x2, wI x7] σ (fun r σ1 => T181 d Q 104 [wO 10 121, wI x1, wI x2, wI x3, wI x4, wI x5, wI x6, wI x7] (r.toList ++ [wO 10 121]) σ1) else Q none σ)) := j3_T.go d [0, 54, 93, 104, 108, 109] 400
set_option maxRecDepth 100000 in
theorem b181_104 {d : Nat} {Q : j3_P} {σ : j3_S} {x1 : Int} {x2 : Int} {x3 : Int} {x4 : Int} {x5 : Int} {x6 : Int} {x7 : Int} {xs0 : Int} :
  T181 d Q 104 [wO 10 121, wI x1, wI x2, wI x3, wI x4, wI x5, wI x6, wI x7] [wI xs0, wO 10 121] σ = j3_tc true d 160 [wI x3, wI x4, wI x7] σ (fun r σ1 => T181 d Q 108 [wO 10 121, wI x1, wI x2, wI x3, wI x4, wI x5, wI x6, wI x7] (r.toList ++ [wI xs0, wO 10 121]) σ1) := j3_T.go d [0, 54, 93, 104, 108, 109] 400
set_option maxRecDepth 100000 in
theorem b181_108 {d : Nat} {Q : j3_P} {σ : j3_S} {x1 : Int} {x2 : Int} {x3 : Int} {x4 : Int} {x5 : Int} {x6 : Int} {x7 : Int} {xs0 : Int} {xs1 : Int} :
  T181 d Q 108 [wO 10 121, wI x1, wI x2, wI x3, wI x4, wI x5, wI x6, wI x7] [wI xs0, wI xs1, wO 10 121] σ = j3_tc true d 182 [wO 10 121, wI xs1, wI xs0] σ (fun r σ1 => T181 d Q 109 [wO 10 121, wI x1, wI x2, wI x3, wI x4, wI x5, wI x6, wI x7] (r.toList ++ []) σ1) := j3_T.go d [0, 54, 93, 104, 108, 109] 400
set_option maxRecDepth 100000 in
theorem b181_109 {d : Nat} {Q : j3_P} {σ : j3_S} {x1 : Int} {x2 : Int} {x3 : Int} {x4 : Int} {x5 : Int} {x6 : Int} {x7 : Int} :
  T181 d Q 109 [wO 10 121, wI x1, wI x2, wI x3, wI x4, wI x5, wI x6, wI x7] [] σ = T181 d Q 93 [wO 10 121, wI x1, wI x2, wI x3, wI x4, wI x5, wI x6, wI (wr (x7 + 1))] [] σ := j3_T.go d [0, 54, 93, 104, 108, 109] 400
def T182 (d : Nat) (Q : j3_P) : j3_K := j3_T true (j3_tc true d) jc_X10_copyInstruction none Q
theorem e182 {d : Nat} {Q : j3_P} {σ : j3_S} {x1 : Int} {x2 : Int} : j3_tc true (d + 1) 182 [wO 10 121, wI x1, wI x2] σ Q = T182 d Q 0 [wO 10 121, wI x1, wI x2] [] σ := j3_entry ⟨Nat.le_of_ble_eq_true rfl, rfl⟩
set_option maxRecDepth 100000 in
theorem b182_0 {d : Nat} {Q : j3_P} {σ : j3_S} {x1 : Int} {x2 : Int} :
  T182 d Q 0 [wO 10 121, wI x1, wI x2] [] σ = ((0 ≤ x1 ∧ x1 < 28800) ∧ ((0 ≤ x2 ∧ x2 < 28800) ∧ ((0 ≤ x1 ∧ x1 < 28800) ∧ ((0 ≤ x2 ∧ x2 < 28800) ∧ ((0 ≤ x1 ∧ x1 < 28800) ∧ ((0 ≤ x2 ∧ x2 < 28800) ∧ ((0 ≤ x1 ∧ x1 < 28800) ∧ ((0 ≤ x2 ∧ x2 < 28800) ∧ ((0 ≤ x1 ∧ x1 < 28800) ∧ ((0 ≤ x2 ∧ x2 < 28800) ∧ ((0 ≤ x1 ∧ x1 < 28800) ∧ ((0 ≤ x2 ∧ x2 < 28800) ∧ Q none (σ.1, σ.2.1, (j3_ast (j3_ast (j3_ast (j3_ast (j3_ast (j3_ast σ.2.2 10027 121 x2 (σ.2.2 10027 121 x1)) 10028 121 x2 (σ.2.2 10028 121 x1)) 10029 121 x2 (σ.2.2 10029 121 x1)) 10030 121 x2 (σ.2.2 10030 121 x1)) 10031 121 x2 (σ.2.2 10031 121 x1)) 10032 121 x2 (σ.2.2 10032 121 x1))))))))))))))) := j3_T.go d [0] 400
def T183 (d : Nat) (Q : j3_P) : j3_K := j3_T true (j3_tc true d) jc_X10_copy none Q
theorem e183 {d : Nat} {Q : j3_P} {σ : j3_S} {x1 : Int} {x2 : Int} : j3_tc true (d + 1) 183 [wO 10 121, wI x1, wI x2] σ Q = T183 d Q 0 [wO 10 121, wI x1, wI x2, wM 2, wM 2] [] σ := j3_entry ⟨Nat.le_of_ble_eq_true rfl, rfl⟩
set_option maxRecDepth 100000 in
theorem b183_0 {d : Nat} {Q : j3_P} {σ : j3_S} {x1 : Int} {x2 : Int} :
  T183 d Q 0 [wO 10 121, wI x1, wI x2, wM 2, wM 2] [] σ = ((0 ≤ x1 ∧ x1 < 3) ∧ ((0 ≤ x2 ∧ x2 < 3) ∧ T183 d Q 10 [wO 10 121, wI x1, wI x2, wI 0, wM 2] [] (σ.1, σ.2.1, (j3_ast σ.2.2 10009 121 x2 (σ.2.2 10009 121 x1))))) := j3_T.go d [0, 10, 98, 187, 199] 400
set_option maxRecDepth 100000 in
theorem b183_10 {d : Nat} {Q : j3_P} {σ : j3_S} {x1 : Int} {x2 : Int} {x3 : Int} {w4 : j3_W} :
  T183 d Q 10 [wO 10 121, wI x1, wI x2, wI x3, w4] [] σ = ((0 ≤ x1 ∧ x1 < 3) ∧ (if x3 < (σ.2.2 10009 121 x1) then ((0 ≤ (wr ((wr (10 * x1)) + x3)) ∧ (wr ((wr (10 * x1)) + x3)) < 30) ∧ ((0 ≤ (wr ((wr (10 * x2)) + x3)) ∧ (wr ((wr (10 * x2)) + x3)) < 30) ∧ ((0 ≤ (wr ((wr (10 * x1)) + x3)) ∧ (wr ((wr (10 * x1)) + x3)) < 30) ∧ ((0 ≤ (wr ((wr (10 * x2)) + x3)) ∧ (wr ((wr (10 * x2)) + x3)) < 30) ∧ ((0 ≤ (wr ((wr (10 * x1)) + x3)) ∧ (wr ((wr (10 * x1)) + x3)) < 30) ∧ ((0 ≤ (wr ((wr (10 * x2)) + x3)) ∧ (wr ((wr (10 * x2)) + x3)) < 30) ∧ ((0 ≤ (wr ((wr (10 * x1)) + x3)) ∧ (wr ((wr (10 * x1)) + x3)) < 30) ∧ ((0 ≤ (wr ((wr (10 * x2)) + x3)) ∧ (wr ((wr (10 * x2)) + x3)) < 30) ∧ ((0 ≤ (wr ((wr (10 * x1)) + x3)) ∧ (wr ((wr (10 * x1)) + x3)) < 30) ∧ ((0 ≤ (wr ((wr (10 * x2)) + x3)) ∧ (wr ((wr (10 * x2)) + x3)) < 30) ∧ T183 d Q 98 [wO 10 121, wI x1, wI x2, wI x3, wI 0] [] (σ.1, σ.2.1, (j3_ast (j3_ast (j3_ast (j3_ast (j3_ast σ.2.2 10010 121 (wr ((wr (10 * x2)) + x3)) (σ.2.2 10010 121 (wr ((wr (10 * x1)) + x3)))) 10011 121 (wr ((wr (10 * x2)) + x3)) (σ.2.2 10011 121 (wr ((wr (10 * x1)) + x3)))) 10012 121 (wr ((wr (10 * x2)) + x3)) (σ.2.2 10012 121 (wr ((wr (10 * x1)) + x3)))) 10013 121 (wr ((wr (10 * x2)) + x3)) (σ.2.2 10013 121 (wr ((wr (10 * x1)) + x3)))) 10014 121 (wr ((wr (10 * x2)) + x3)) (σ.2.2 10014 121 (wr ((wr (10 * x1)) + x3))))))))))))))) else ((0 ≤ x1 ∧ x1 < 3) ∧ ((0 ≤ x2 ∧ x2 < 3) ∧ T183 d Q 187 [wO 10 121, wI x1, wI x2, wI 0, w4] [] (σ.1, σ.2.1, (j3_ast σ.2.2 10018 121 x2 (σ.2.2 10018 121 x1))))))) := j3_T.go d [0, 10, 98, 187, 199] 400
set_option maxRecDepth 100000 in
theorem b183_98 {d : Nat} {Q : j3_P} {σ : j3_S} {x1 : Int} {x2 : Int} {x3 : Int} {x4 : Int} :
  T183 d Q 98 [wO 10 121, wI x1, wI x2, wI x3, wI x4] [] σ = (if x4 < (6 : Int) then ((0 ≤ (wr ((wr ((wr (60 * x1)) + (wr (6 * x3)))) + x4)) ∧ (wr ((wr ((wr (60 * x1)) + (wr (6 * x3)))) + x4)) < 180) ∧ ((0 ≤ (wr ((wr ((wr (60 * x2)) + (wr (6 * x3)))) + x4)) ∧ (wr ((wr ((wr (60 * x2)) + (wr (6 * x3)))) + x4)) < 180) ∧ ((0 ≤ (wr ((wr ((wr (60 * x1)) + (wr (6 * x3)))) + x4)) ∧ (wr ((wr ((wr (60 * x1)) + (wr (6 * x3)))) + x4)) < 180) ∧ ((0 ≤ (wr ((wr ((wr (60 * x2)) + (wr (6 * x3)))) + x4)) ∧ (wr ((wr ((wr (60 * x2)) + (wr (6 * x3)))) + x4)) < 180) ∧ ((0 ≤ (wr ((wr ((wr (60 * x1)) + (wr (6 * x3)))) + x4)) ∧ (wr ((wr ((wr (60 * x1)) + (wr (6 * x3)))) + x4)) < 180) ∧ ((0 ≤ (wr ((wr ((wr (60 * x2)) + (wr (6 * x3)))) + x4)) ∧ (wr ((wr ((wr (60 * x2)) + (wr (6 * x3)))) + x4)) < 180) ∧ T183 d Q 98 [wO 10 121, wI x1, wI x2, wI x3, wI (wr (x4 + 1))] [] (σ.1, σ.2.1, (j3_ast (j3_ast (j3_ast σ.2.2 10015 121 (wr ((wr ((wr (60 * x2)) + (wr (6 * x3)))) + x4)) (σ.2.2 10015 121 (wr ((wr ((wr (60 * x1)) + (wr (6 * x3)))) + x4)))) 10016 121 (wr ((wr ((wr (60 * x2)) + (wr (6 * x3)))) + x4)) (σ.2.2 10016 121 (wr ((wr ((wr (60 * x1)) + (wr (6 * x3)))) + x4)))) 10017 121 (wr ((wr ((wr (60 * x2)) + (wr (6 * x3)))) + x4)) (σ.2.2 10017 121 (wr ((wr ((wr (60 * x1)) + (wr (6 * x3)))) + x4))))))))))) else T183 d Q 10 [wO 10 121, wI x1, wI x2, wI (wr (x3 + 1)), wI x4] [] σ) := j3_T.go d [0, 10, 98, 187, 199] 400
set_option maxRecDepth 100000 in
theorem b183_187 {d : Nat} {Q : j3_P} {σ : j3_S} {x1 : Int} {x2 : Int} {x3 : Int} {w4 : j3_W} :
  T183 d Q 187 [wO 10 121, wI x1, wI x2, wI x3, w4] [] σ = ((0 ≤ x1 ∧ x1 < 3) ∧ (if x3 < (σ.2.2 10018 121 x1) then j3_tc true d 181 [wO 10 121, wI x1, wI x3, wI x2, wI x3] σ (fun r σ1 => T183 d Q 199 [wO 10 121, wI x1, wI x2, wI x3, w4] (r.toList ++ []) σ1) else ((0 ≤ x1 ∧ x1 < 3) ∧ ((0 ≤ x2 ∧ x2 < 3) ∧ Q none (σ.1, σ.2.1, (j3_ast σ.2.2 10034 121 x2 (σ.2.2 10034 121 x1))))))) := j3_T.go d [0, 10, 98, 187, 199] 400
set_option maxRecDepth 100000 in
theorem b183_199 {d : Nat} {Q : j3_P} {σ : j3_S} {x1 : Int} {x2 : Int} {x3 : Int} {w4 : j3_W} :
  T183 d Q 199 [wO 10 121, wI x1, wI x2, wI x3, w4] [] σ = T183 d Q 187 [wO 10 121, wI x1, wI x2, wI (wr (x3 + 1)), w4] [] σ := j3_T.go d [0, 10, 98, 187, 199] 400
def T184 (d : Nat) (Q : j3_P) : j3_K := j3_T true (j3_tc true d) jc_X10_copyState none Q
theorem e184 {d : Nat} {Q : j3_P} {σ : j3_S} {x1 : Int} : j3_tc true (d + 1) 184 [wO 10 121, wI x1] σ Q = T184 d Q 0 [wO 10 121, wI x1, wM 2] [] σ := j3_entry ⟨Nat.le_of_ble_eq_true rfl, rfl⟩
set_option maxRecDepth 100000 in
theorem b184_0 {d : Nat} {Q : j3_P} {σ : j3_S} {x1 : Int} :
  T184 d Q 0 [wO 10 121, wI x1, wM 2] [] σ = ((0 ≤ (wr (9600 + x1)) ∧ (wr (9600 + x1)) < 19200) ∧ (((σ.2.2 10035 121 (wr (9600 + x1))) = 0 ∨ (σ.2.2 10035 121 (wr (9600 + x1))) = 1) ∧ (0 ≤ x1 ∧ x1 < 19200) ∧ ((0 ≤ (wr (9600 + x1)) ∧ (wr (9600 + x1)) < 19200) ∧ ((0 ≤ x1 ∧ x1 < 19200) ∧ T184 d Q 22 [wO 10 121, wI x1, wI 0] [] (σ.1, σ.2.1, (j3_ast (j3_ast σ.2.2 10035 121 x1 (σ.2.2 10035 121 (wr (9600 + x1)))) 10036 121 x1 (σ.2.2 10036 121 (wr (9600 + x1))))))))) := j3_T.go d [0, 22, 47] 400
set_option maxRecDepth 100000 in
theorem b184_22 {d : Nat} {Q : j3_P} {σ : j3_S} {x1 : Int} {x2 : Int} :
  T184 d Q 22 [wO 10 121, wI x1, wI x2] [] σ = (if x2 < (10 : Int) then ((0 ≤ (wr ((wr (96000 + (wr (10 * x1)))) + x2)) ∧ (wr ((wr (96000 + (wr (10 * x1)))) + x2)) < 192000) ∧ ((0 ≤ (wr ((wr (10 * x1)) + x2)) ∧ (wr ((wr (10 * x1)) + x2)) < 192000) ∧ T184 d Q 22 [wO 10 121, wI x1, wI (wr (x2 + 1))] [] (σ.1, σ.2.1, (j3_ast σ.2.2 10037 121 (wr ((wr (10 * x1)) + x2)) (σ.2.2 10037 121 (wr ((wr (96000 + (wr (10 * x1)))) + x2))))))) else T184 d Q 47 [wO 10 121, wI x1, wI 0] [] σ) := j3_T.go d [0, 22, 47] 400
set_option maxRecDepth 100000 in
theorem b184_47 {d : Nat} {Q : j3_P} {σ : j3_S} {x1 : Int} {x2 : Int} :
  T184 d Q 47 [wO 10 121, wI x1, wI x2] [] σ = (if x2 < (20 : Int) then ((0 ≤ (wr ((wr (192000 + (wr (20 * x1)))) + x2)) ∧ (wr ((wr (192000 + (wr (20 * x1)))) + x2)) < 384000) ∧ ((0 ≤ (wr ((wr (20 * x1)) + x2)) ∧ (wr ((wr (20 * x1)) + x2)) < 384000) ∧ T184 d Q 47 [wO 10 121, wI x1, wI (wr (x2 + 1))] [] (σ.1, σ.2.1, (j3_ast σ.2.2 10038 121 (wr ((wr (20 * x1)) + x2)) (σ.2.2 10038 121 (wr ((wr (192000 + (wr (20 * x1)))) + x2))))))) else Q none σ) := j3_T.go d [0, 22, 47] 400
