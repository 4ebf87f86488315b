abbrev T60 (C : j2_C) (Q : j2_P) : j2_K := j2_T C jc_X4_mark none Q
set_option maxRecDepth 100000 in
theorem b60_0 {C : j2_C} (hC : j2_up1 C) {Q : j2_P} {o0 : Nat} {o1 : Nat} {e1 : Nat} {x2 : Int32} {σ : j2_S}
  (h : (if lt_fq e1 = 0 then vp_in x2 (lt_fn e1) ∧ ((¬ (σ.2.2 e1 o1 x2.toNatClampNeg) = 0 → ((none : Option FieldType) = none ∧ Q none σ)) ∧ (¬ (¬ (σ.2.2 e1 o1 x2.toNatClampNeg) = 0) → (if lt_fq e1 = 0 then vp_in x2 (lt_fn e1) ∧ (((nI 1) = 0 ∨ (nI 1) = 1) ∧ ((none : Option FieldType) = none ∧ Q none ((j2_up σ.1 4004 o0 (nI 1)), σ.2.1, (j2_ast σ.2.2 e1 o1 x2.toNatClampNeg (nI 1))))) else False))) else False)) :
  T60 C Q 0 [vO 4 o0, vA e1 o1, vI x2] [] σ := j2_T.go hC [0] 400 h
abbrev T61 (C : j2_C) (Q : j2_P) : j2_K := j2_T C jc_X4_markMeanings none Q
set_option maxRecDepth 100000 in
theorem b61_0 {C : j2_C} (hC : j2_up1 C) {Q : j2_P} {o0 : Nat} {x1 : Int32} {p0 : j2_W} {p1 : j2_W} {g2 : Nat} {p3 : j2_W} {p4 : j2_W} {p5 : j2_W} {p6 : j2_W} {p7 : j2_W} {p8 : j2_W} {p9 : j2_W} {I : Nat → Nat → Int32} {A : Nat → Nat → Nat → Int32}
  (h : T61 C Q 2 [vO 4 o0, vI x1, vI (nI 0), vM 2] [] (I, [p0, p1, vO 3 g2, p3, p4, p5, p6, p7, p8, p9], A)) :
  T61 C Q 0 [vO 4 o0, vI x1, vM 2, vM 2] [] (I, [p0, p1, vO 3 g2, p3, p4, p5, p6, p7, p8, p9], A) := j2_T.go hC [0, 2, 30] 400 h
set_option maxRecDepth 100000 in
theorem b61_2 {C : j2_C} (hC : j2_up1 C) {Q : j2_P} {o0 : Nat} {x1 : Int32} {x2 : Int32} {w3 : j2_W} {p0 : j2_W} {p1 : j2_W} {g2 : Nat} {p3 : j2_W} {p4 : j2_W} {p5 : j2_W} {p6 : j2_W} {p7 : j2_W} {p8 : j2_W} {p9 : j2_W} {I : Nat → Nat → Int32} {A : Nat → Nat → Nat → Int32}
  (h : (((I 3000 g2) ≤ x2 → ((none : Option FieldType) = none ∧ Q none (I, [p0, p1, vO 3 g2, p3, p4, p5, p6, p7, p8, p9], A))) ∧ (¬ ((I 3000 g2) ≤ x2) → (vp_in ((x2 * (nI 80)) + x1) 800 ∧ (vp_in x2 10 ∧ ((¬ (A 4001 o0 x2.toNatClampNeg) = (nI 1) → T61 C Q 30 [vO 4 o0, vI x1, vI x2, vI (A 4002 o0 ((x2 * (nI 80)) + x1).toNatClampNeg)] [] (I, [p0, p1, vO 3 g2, p3, p4, p5, p6, p7, p8, p9], A)) ∧ (¬ (¬ (A 4001 o0 x2.toNatClampNeg) = (nI 1)) → (((A 4002 o0 ((x2 * (nI 80)) + x1).toNatClampNeg) = (-1 : Int32) → T61 C Q 30 [vO 4 o0, vI x1, vI x2, vI (A 4002 o0 ((x2 * (nI 80)) + x1).toNatClampNeg)] [] (I, [p0, p1, vO 3 g2, p3, p4, p5, p6, p7, p8, p9], A)) ∧ (¬ ((A 4002 o0 ((x2 * (nI 80)) + x1).toNatClampNeg) = (-1 : Int32)) → C 60 [vO 4 o0, vA 4000 o0, vI (A 4002 o0 ((x2 * (nI 80)) + x1).toNatClampNeg)] (I, [p0, p1, vO 3 g2, p3, p4, p5, p6, p7, p8, p9], A) (fun r σ1 => T61 C Q 30 [vO 4 o0, vI x1, vI x2, vI (A 4002 o0 ((x2 * (nI 80)) + x1).toNatClampNeg)] (r.toList ++ []) σ1)))))))))) :
  T61 C Q 2 [vO 4 o0, vI x1, vI x2, w3] [] (I, [p0, p1, vO 3 g2, p3, p4, p5, p6, p7, p8, p9], A) := j2_T.go hC [0, 2, 30] 400 h
set_option maxRecDepth 100000 in
theorem b61_30 {C : j2_C} (hC : j2_up1 C) {Q : j2_P} {o0 : Nat} {x1 : Int32} {x2 : Int32} {x3 : Int32} {p0 : j2_W} {p1 : j2_W} {g2 : Nat} {p3 : j2_W} {p4 : j2_W} {p5 : j2_W} {p6 : j2_W} {p7 : j2_W} {p8 : j2_W} {p9 : j2_W} {I : Nat → Nat → Int32} {A : Nat → Nat → Nat → Int32}
  (h : T61 C Q 2 [vO 4 o0, vI x1, vI (x2 + (nI 1)), vI x3] [] (I, [p0, p1, vO 3 g2, p3, p4, p5, p6, p7, p8, p9], A)) :
  T61 C Q 30 [vO 4 o0, vI x1, vI x2, vI x3] [] (I, [p0, p1, vO 3 g2, p3, p4, p5, p6, p7, p8, p9], A) := j2_T.go hC [0, 2, 30] 400 h
abbrev T62 (C : j2_C) (Q : j2_P) : j2_K := j2_T C jc_X4_boundTo (some .int) Q
set_option maxRecDepth 100000 in
theorem b62_0 {C : j2_C} (hC : j2_up1 C) {Q : j2_P} {o0 : Nat} {x1 : Int32} {p0 : j2_W} {p1 : j2_W} {g2 : Nat} {p3 : j2_W} {p4 : j2_W} {p5 : j2_W} {p6 : j2_W} {p7 : j2_W} {p8 : j2_W} {p9 : j2_W} {I : Nat → Nat → Int32} {A : Nat → Nat → Nat → Int32}
  (h : T62 C Q 4 [vO 4 o0, vI x1, vI (-1 : Int32), vI (nI 0), vM 2] [] (I, [p0, p1, vO 3 g2, p3, p4, p5, p6, p7, p8, p9], A)) :
  T62 C Q 0 [vO 4 o0, vI x1, vM 2, vM 2, vM 2] [] (I, [p0, p1, vO 3 g2, p3, p4, p5, p6, p7, p8, p9], A) := j2_T.go hC [0, 4, 35, 37, 55] 400 h
set_option maxRecDepth 100000 in
theorem b62_4 {C : j2_C} (hC : j2_up1 C) {Q : j2_P} {o0 : Nat} {x1 : Int32} {x2 : Int32} {x3 : Int32} {w4 : j2_W} {p0 : j2_W} {p1 : j2_W} {g2 : Nat} {p3 : j2_W} {p4 : j2_W} {p5 : j2_W} {p6 : j2_W} {p7 : j2_W} {p8 : j2_W} {p9 : j2_W} {I : Nat → Nat → Int32} {A : Nat → Nat → Nat → Int32}
  (h : (((I 3000 g2) ≤ x3 → ((x2 = (-1 : Int32) → (True ∧ Q (some (vI (-1 : Int32))) (I, [p0, p1, vO 3 g2, p3, p4, p5, p6, p7, p8, p9], A))) ∧ (¬ (x2 = (-1 : Int32)) → (vp_in x2 80 ∧ (vp_in x1 80 ∧ C 48 [vO 3 g2, vI (A 3011 g2 x2.toNatClampNeg), vI (A 3011 g2 x1.toNatClampNeg)] (I, [p0, p1, vO 3 g2, p3, p4, p5, p6, p7, p8, p9], A) (fun r σ1 => T62 C Q 55 [vO 4 o0, vI x1, vI x2, vI x3, w4] (r.toList ++ []) σ1)))))) ∧ (¬ ((I 3000 g2) ≤ x3) → (vp_in ((x3 * (nI 80)) + x1) 800 ∧ (vp_in x3 10 ∧ ((¬ (A 4001 o0 x3.toNatClampNeg) = (nI 1) → T62 C Q 37 [vO 4 o0, vI x1, vI x2, vI x3, vI (A 4002 o0 ((x3 * (nI 80)) + x1).toNatClampNeg)] [] (I, [p0, p1, vO 3 g2, p3, p4, p5, p6, p7, p8, p9], A)) ∧ (¬ (¬ (A 4001 o0 x3.toNatClampNeg) = (nI 1)) → (((A 4002 o0 ((x3 * (nI 80)) + x1).toNatClampNeg) = (-1 : Int32) → T62 C Q 37 [vO 4 o0, vI x1, vI x2, vI x3, vI (A 4002 o0 ((x3 * (nI 80)) + x1).toNatClampNeg)] [] (I, [p0, p1, vO 3 g2, p3, p4, p5, p6, p7, p8, p9], A)) ∧ (¬ ((A 4002 o0 ((x3 * (nI 80)) + x1).toNatClampNeg) = (-1 : Int32)) → ((x2 = (-1 : Int32) → T62 C Q 35 [vO 4 o0, vI x1, vI x2, vI x3, vI (A 4002 o0 ((x3 * (nI 80)) + x1).toNatClampNeg)] [] (I, [p0, p1, vO 3 g2, p3, p4, p5, p6, p7, p8, p9], A)) ∧ (¬ (x2 = (-1 : Int32)) → ((x2 = (A 4002 o0 ((x3 * (nI 80)) + x1).toNatClampNeg) → T62 C Q 35 [vO 4 o0, vI x1, vI x2, vI x3, vI (A 4002 o0 ((x3 * (nI 80)) + x1).toNatClampNeg)] [] (I, [p0, p1, vO 3 g2, p3, p4, p5, p6, p7, p8, p9], A)) ∧ (¬ (x2 = (A 4002 o0 ((x3 * (nI 80)) + x1).toNatClampNeg)) → (True ∧ Q (some (vI (-1 : Int32))) (I, [p0, p1, vO 3 g2, p3, p4, p5, p6, p7, p8, p9], A))))))))))))))) :
  T62 C Q 4 [vO 4 o0, vI x1, vI x2, vI x3, w4] [] (I, [p0, p1, vO 3 g2, p3, p4, p5, p6, p7, p8, p9], A) := j2_T.go hC [0, 4, 35, 37, 55] 400 h
set_option maxRecDepth 100000 in
theorem b62_35 {C : j2_C} (hC : j2_up1 C) {Q : j2_P} {o0 : Nat} {x1 : Int32} {x2 : Int32} {x3 : Int32} {x4 : Int32} {p0 : j2_W} {p1 : j2_W} {g2 : Nat} {p3 : j2_W} {p4 : j2_W} {p5 : j2_W} {p6 : j2_W} {p7 : j2_W} {p8 : j2_W} {p9 : j2_W} {I : Nat → Nat → Int32} {A : Nat → Nat → Nat → Int32}
  (h : T62 C Q 37 [vO 4 o0, vI x1, vI x4, vI x3, vI x4] [] (I, [p0, p1, vO 3 g2, p3, p4, p5, p6, p7, p8, p9], A)) :
  T62 C Q 35 [vO 4 o0, vI x1, vI x2, vI x3, vI x4] [] (I, [p0, p1, vO 3 g2, p3, p4, p5, p6, p7, p8, p9], A) := j2_T.go hC [0, 4, 35, 37, 55] 400 h
set_option maxRecDepth 100000 in
theorem b62_37 {C : j2_C} (hC : j2_up1 C) {Q : j2_P} {o0 : Nat} {x1 : Int32} {x2 : Int32} {x3 : Int32} {x4 : Int32} {p0 : j2_W} {p1 : j2_W} {g2 : Nat} {p3 : j2_W} {p4 : j2_W} {p5 : j2_W} {p6 : j2_W} {p7 : j2_W} {p8 : j2_W} {p9 : j2_W} {I : Nat → Nat → Int32} {A : Nat → Nat → Nat → Int32}
  (h : T62 C Q 4 [vO 4 o0, vI x1, vI x2, vI (x3 + (nI 1)), vI x4] [] (I, [p0, p1, vO 3 g2, p3, p4, p5, p6, p7, p8, p9], A)) :
  T62 C Q 37 [vO 4 o0, vI x1, vI x2, vI x3, vI x4] [] (I, [p0, p1, vO 3 g2, p3, p4, p5, p6, p7, p8, p9], A) := j2_T.go hC [0, 4, 35, 37, 55] 400 h
set_option maxRecDepth 100000 in
theorem b62_55 {C : j2_C} (hC : j2_up1 C) {Q : j2_P} {o0 : Nat} {x1 : Int32} {x2 : Int32} {x3 : Int32} {w4 : j2_W} {xs0 : Int32} {p0 : j2_W} {p1 : j2_W} {g2 : Nat} {p3 : j2_W} {p4 : j2_W} {p5 : j2_W} {p6 : j2_W} {p7 : j2_W} {p8 : j2_W} {p9 : j2_W} {I : Nat → Nat → Int32} {A : Nat → Nat → Nat → Int32}
  (h : ((xs0 = 0 → (True ∧ Q (some (vI (-1 : Int32))) (I, [p0, p1, vO 3 g2, p3, p4, p5, p6, p7, p8, p9], A))) ∧ (¬ (xs0 = 0) → (True ∧ Q (some (vI x2)) (I, [p0, p1, vO 3 g2, p3, p4, p5, p6, p7, p8, p9], A))))) :
  T62 C Q 55 [vO 4 o0, vI x1, vI x2, vI x3, w4] [vI xs0] (I, [p0, p1, vO 3 g2, p3, p4, p5, p6, p7, p8, p9], A) := j2_T.go hC [0, 4, 35, 37, 55] 400 h
abbrev T64 (C : j2_C) (Q : j2_P) : j2_K := j2_T C jc_X5_firstWrong (some .int) Q
set_option maxRecDepth 100000 in
theorem b64_0 {C : j2_C} (hC : j2_up1 C) {Q : j2_P} {o0 : Nat} {o1 : Nat} {e1 : Nat} {x2 : Int32} {o3 : Nat} {p0 : j2_W} {p1 : j2_W} {p2 : j2_W} {p3 : j2_W} {g4 : Nat} {p5 : j2_W} {p6 : j2_W} {p7 : j2_W} {p8 : j2_W} {p9 : j2_W} {I : Nat → Nat → Int32} {A : Nat → Nat → Nat → Int32}
  (h : (((nI 0) = 0 ∨ (nI 0) = 1) ∧ C 66 [vO 5 o0, vI (nI 83), vI (nI 83)] ((j2_up (j2_up (j2_up (j2_up I 5001 o0 x2) 5002 o0 (nI 0)) 5003 o0 (nI 0)) 5007 o0 (nI 0)), [p0, p1, p2, vA e1 o1, vO 3 o3, p5, p6, p7, p8, p9], A) (fun r σ1 => T64 C Q 22 [vO 5 o0, vA e1 o1, vI x2, vO 3 o3, vM 2] (r.toList ++ []) σ1))) :
  T64 C Q 0 [vO 5 o0, vA e1 o1, vI x2, vO 3 o3, vM 2] [] (I, [p0, p1, p2, p3, vO 3 g4, p5, p6, p7, p8, p9], A) := j2_T.go hC [0, 22, 27, 34, 41, 52, 54, 62, 67] 400 h
set_option maxRecDepth 100000 in
theorem b64_22 {C : j2_C} (hC : j2_up1 C) {Q : j2_P} {o0 : Nat} {o1 : Nat} {e1 : Nat} {x2 : Int32} {o3 : Nat} {xs0 : Int32} {p0 : j2_W} {p1 : j2_W} {p2 : j2_W} {p3 : j2_W} {g4 : Nat} {p5 : j2_W} {p6 : j2_W} {p7 : j2_W} {p8 : j2_W} {p9 : j2_W} {I : Nat → Nat → Int32} {A : Nat → Nat → Nat → Int32}
  (h : C 66 [vO 5 o0, vI (nI 72), vI (nI 72)] (I, [p0, p1, p2, p3, vO 3 g4, p5, p6, p7, p8, p9], A) (fun r σ1 => T64 C Q 27 [vO 5 o0, vA e1 o1, vI x2, vO 3 o3, vM 2] (r.toList ++ []) σ1)) :
  T64 C Q 22 [vO 5 o0, vA e1 o1, vI x2, vO 3 o3, vM 2] [vI xs0] (I, [p0, p1, p2, p3, vO 3 g4, p5, p6, p7, p8, p9], A) := j2_T.go hC [0, 22, 27, 34, 41, 52, 54, 62, 67] 400 h
set_option maxRecDepth 100000 in
theorem b64_27 {C : j2_C} (hC : j2_up1 C) {Q : j2_P} {o0 : Nat} {o1 : Nat} {e1 : Nat} {x2 : Int32} {o3 : Nat} {xs0 : Int32} {p0 : j2_W} {p1 : j2_W} {p2 : j2_W} {p3 : j2_W} {g4 : Nat} {p5 : j2_W} {p6 : j2_W} {p7 : j2_W} {p8 : j2_W} {p9 : j2_W} {I : Nat → Nat → Int32} {A : Nat → Nat → Nat → Int32}
  (h : C 66 [vO 5 o0, vI (nI 1), vI (nI 10)] (I, [p0, p1, p2, p3, vO 3 g4, p5, p6, p7, p8, p9], A) (fun r σ1 => T64 C Q 34 [vO 5 o0, vA e1 o1, vI x2, vO 3 o3, vM 2] (r.toList ++ [vO 3 g4]) σ1)) :
  T64 C Q 27 [vO 5 o0, vA e1 o1, vI x2, vO 3 o3, vM 2] [vI xs0] (I, [p0, p1, p2, p3, vO 3 g4, p5, p6, p7, p8, p9], A) := j2_T.go hC [0, 22, 27, 34, 41, 52, 54, 62, 67] 400 h
set_option maxRecDepth 100000 in
theorem b64_34 {C : j2_C} (hC : j2_up1 C) {Q : j2_P} {o0 : Nat} {o1 : Nat} {e1 : Nat} {x2 : Int32} {o3 : Nat} {xs0 : Int32} {os1 : Nat} {p0 : j2_W} {p1 : j2_W} {p2 : j2_W} {p3 : j2_W} {g4 : Nat} {p5 : j2_W} {p6 : j2_W} {p7 : j2_W} {p8 : j2_W} {p9 : j2_W} {I : Nat → Nat → Int32} {A : Nat → Nat → Nat → Int32}
  (h : T64 C Q 41 [vO 5 o0, vA e1 o1, vI x2, vO 3 o3, vI (nI 0)] [] ((j2_up (j2_up I 3000 os1 xs0) 3001 g4 (nI 0)), [p0, p1, p2, p3, vO 3 g4, p5, p6, p7, p8, p9], A)) :
  T64 C Q 34 [vO 5 o0, vA e1 o1, vI x2, vO 3 o3, vM 2] [vI xs0, vO 3 os1] (I, [p0, p1, p2, p3, vO 3 g4, p5, p6, p7, p8, p9], A) := j2_T.go hC [0, 22, 27, 34, 41, 52, 54, 62, 67] 400 h
set_option maxRecDepth 100000 in
theorem b64_41 {C : j2_C} (hC : j2_up1 C) {Q : j2_P} {o0 : Nat} {o1 : Nat} {e1 : Nat} {x2 : Int32} {o3 : Nat} {x4 : Int32} {p0 : j2_W} {p1 : j2_W} {p2 : j2_W} {p3 : j2_W} {g4 : Nat} {p5 : j2_W} {p6 : j2_W} {p7 : j2_W} {p8 : j2_W} {p9 : j2_W} {I : Nat → Nat → Int32} {A : Nat → Nat → Nat → Int32}
  (h : (((I 3000 g4) ≤ x4 → T64 C Q 54 [vO 5 o0, vA e1 o1, vI x2, vO 3 o3, vI x4] [] (I, [p0, p1, p2, p3, vO 3 g4, p5, p6, p7, p8, p9], A)) ∧ (¬ ((I 3000 g4) ≤ x4) → ((¬ (I 5003 o0) = 0 → T64 C Q 54 [vO 5 o0, vA e1 o1, vI x2, vO 3 o3, vI x4] [] (I, [p0, p1, p2, p3, vO 3 g4, p5, p6, p7, p8, p9], A)) ∧ (¬ (¬ (I 5003 o0) = 0) → C 67 [vO 5 o0, vI x4] (I, [p0, p1, p2, p3, vO 3 g4, p5, p6, p7, p8, p9], A) (fun r σ1 => T64 C Q 52 [vO 5 o0, vA e1 o1, vI x2, vO 3 o3, vI x4] (r.toList ++ []) σ1)))))) :
  T64 C Q 41 [vO 5 o0, vA e1 o1, vI x2, vO 3 o3, vI x4] [] (I, [p0, p1, p2, p3, vO 3 g4, p5, p6, p7, p8, p9], A) := j2_T.go hC [0, 22, 27, 34, 41, 52, 54, 62, 67] 400 h
set_option maxRecDepth 100000 in
theorem b64_52 {C : j2_C} (hC : j2_up1 C) {Q : j2_P} {o0 : Nat} {o1 : Nat} {e1 : Nat} {x2 : Int32} {o3 : Nat} {x4 : Int32} {p0 : j2_W} {p1 : j2_W} {p2 : j2_W} {p3 : j2_W} {g4 : Nat} {p5 : j2_W} {p6 : j2_W} {p7 : j2_W} {p8 : j2_W} {p9 : j2_W} {I : Nat → Nat → Int32} {A : Nat → Nat → Nat → Int32}
  (h : T64 C Q 41 [vO 5 o0, vA e1 o1, vI x2, vO 3 o3, vI (x4 + (nI 1))] [] (I, [p0, p1, p2, p3, vO 3 g4, p5, p6, p7, p8, p9], A)) :
  T64 C Q 52 [vO 5 o0, vA e1 o1, vI x2, vO 3 o3, vI x4] [] (I, [p0, p1, p2, p3, vO 3 g4, p5, p6, p7, p8, p9], A) := j2_T.go hC [0, 22, 27, 34, 41, 52, 54, 62, 67] 400 h
set_option maxRecDepth 100000 in
theorem b64_54 {C : j2_C} (hC : j2_up1 C) {Q : j2_P} {o0 : Nat} {o1 : Nat} {e1 : Nat} {x2 : Int32} {o3 : Nat} {x4 : Int32} {p0 : j2_W} {p1 : j2_W} {p2 : j2_W} {p3 : j2_W} {g4 : Nat} {p5 : j2_W} {p6 : j2_W} {p7 : j2_W} {p8 : j2_W} {p9 : j2_W} {I : Nat → Nat → Int32} {A : Nat → Nat → Nat → Int32}
  (h : ((¬ (I 5003 o0) = 0 → T64 C Q 62 [vO 5 o0, vA e1 o1, vI x2, vO 3 o3, vI x4] [] (I, [p0, p1, p2, p3, vO 3 g4, p5, p6, p7, p8, p9], A)) ∧ (¬ (¬ (I 5003 o0) = 0) → (((I 5001 o0) ≤ (I 5002 o0) → C 65 [vO 5 o0] (I, [p0, p1, p2, p3, vO 3 g4, p5, p6, p7, p8, p9], A) (fun r σ1 => T64 C Q 67 [vO 5 o0, vA e1 o1, vI x2, vO 3 o3, vI x4] (r.toList ++ []) σ1)) ∧ (¬ ((I 5001 o0) ≤ (I 5002 o0)) → T64 C Q 62 [vO 5 o0, vA e1 o1, vI x2, vO 3 o3, vI x4] [] (I, [p0, p1, p2, p3, vO 3 g4, p5, p6, p7, p8, p9], A)))))) :
  T64 C Q 54 [vO 5 o0, vA e1 o1, vI x2, vO 3 o3, vI x4] [] (I, [p0, p1, p2, p3, vO 3 g4, p5, p6, p7, p8, p9], A) := j2_T.go hC [0, 22, 27, 34, 41, 52, 54, 62, 67] 400 h
set_option maxRecDepth 100000 in
theorem b64_62 {C : j2_C} (hC : j2_up1 C) {Q : j2_P} {o0 : Nat} {o1 : Nat} {e1 : Nat} {x2 : Int32} {o3 : Nat} {x4 : Int32} {p0 : j2_W} {p1 : j2_W} {p2 : j2_W} {p3 : j2_W} {g4 : Nat} {p5 : j2_W} {p6 : j2_W} {p7 : j2_W} {p8 : j2_W} {p9 : j2_W} {I : Nat → Nat → Int32} {A : Nat → Nat → Nat → Int32}
  (h : T64 C Q 67 [vO 5 o0, vA e1 o1, vI x2, vO 3 o3, vI x4] [vI (I 5002 o0)] (I, [p0, p1, p2, p3, vO 3 g4, p5, p6, p7, p8, p9], A)) :
  T64 C Q 62 [vO 5 o0, vA e1 o1, vI x2, vO 3 o3, vI x4] [] (I, [p0, p1, p2, p3, vO 3 g4, p5, p6, p7, p8, p9], A) := j2_T.go hC [0, 22, 27, 34, 41, 52, 54, 62, 67] 400 h
set_option maxRecDepth 100000 in
theorem b64_67 {C : j2_C} (hC : j2_up1 C) {Q : j2_P} {o0 : Nat} {o1 : Nat} {e1 : Nat} {x2 : Int32} {o3 : Nat} {x4 : Int32} {xs0 : Int32} {p0 : j2_W} {p1 : j2_W} {p2 : j2_W} {p3 : j2_W} {g4 : Nat} {p5 : j2_W} {p6 : j2_W} {p7 : j2_W} {p8 : j2_W} {p9 : j2_W} {I : Nat → Nat → Int32} {A : Nat → Nat → Nat → Int32}
  (h : (True ∧ Q (some (vI xs0)) (I, [p0, p1, p2, p3, vO 3 g4, p5, p6, p7, p8, p9], A))) :
  T64 C Q 67 [vO 5 o0, vA e1 o1, vI x2, vO 3 o3, vI x4] [vI xs0] (I, [p0, p1, p2, p3, vO 3 g4, p5, p6, p7, p8, p9], A) := j2_T.go hC [0, 22, 27, 34, 41, 52, 54, 62, 67] 400 h
abbrev T65 (C : j2_C) (Q : j2_P) : j2_K := j2_T C jc_X5_firstStranger (some .int) Q
set_option maxRecDepth 100000 in
theorem b65_0 {C : j2_C} (hC : j2_up1 C) {Q : j2_P} {o0 : Nat} {p0 : j2_W} {p1 : j2_W} {p2 : j2_W} {p3 : j2_W} {g4 : Nat} {p5 : j2_W} {p6 : j2_W} {p7 : j2_W} {p8 : j2_W} {p9 : j2_W} {I : Nat → Nat → Int32} {A : Nat → Nat → Nat → Int32}
  (h : T65 C Q 2 [vO 5 o0, vI (nI 0), vM 2] [] (I, [p0, p1, p2, p3, vO 3 g4, p5, p6, p7, p8, p9], A)) :
  T65 C Q 0 [vO 5 o0, vM 2, vM 2] [] (I, [p0, p1, p2, p3, vO 3 g4, p5, p6, p7, p8, p9], A) := j2_T.go hC [0, 2, 31] 400 h
set_option maxRecDepth 100000 in
theorem b65_2 {C : j2_C} (hC : j2_up1 C) {Q : j2_P} {o0 : Nat} {x1 : Int32} {w2 : j2_W} {p0 : j2_W} {p1 : j2_W} {p2 : j2_W} {p3 : j2_W} {g4 : Nat} {p5 : j2_W} {p6 : j2_W} {p7 : j2_W} {p8 : j2_W} {p9 : j2_W} {I : Nat → Nat → Int32} {A : Nat → Nat → Nat → Int32}
  (h : (((I 5007 o0) ≤ x1 → (True ∧ Q (some (vI (-1 : Int32))) (I, [p0, p1, p2, p3, vO 3 g4, p5, p6, p7, p8, p9], A))) ∧ (¬ ((I 5007 o0) ≤ x1) → (vp_in x1 4000 ∧ (vp_in (A 5005 o0 x1.toNatClampNeg) 9600 ∧ (vp_in (A 5005 o0 x1.toNatClampNeg) 9600 ∧ (vp_in (A 5005 o0 x1.toNatClampNeg) 9600 ∧ C 72 [vO 5 o0, vI (A 1 (g4 + 17) (A 5005 o0 x1.toNatClampNeg).toNatClampNeg), vI (A 2 (g4 + 17) (A 5005 o0 x1.toNatClampNeg).toNatClampNeg), vI (A 3 (g4 + 17) (A 5005 o0 x1.toNatClampNeg).toNatClampNeg)] (I, [p0, p1, p2, p3, vO 3 g4, p5, p6, p7, p8, p9], A) (fun r σ1 => T65 C Q 31 [vO 5 o0, vI x1, vI (A 5005 o0 x1.toNatClampNeg)] (r.toList ++ []) σ1)))))))) :
  T65 C Q 2 [vO 5 o0, vI x1, w2] [] (I, [p0, p1, p2, p3, vO 3 g4, p5, p6, p7, p8, p9], A) := j2_T.go hC [0, 2, 31] 400 h
set_option maxRecDepth 100000 in
theorem b65_31 {C : j2_C} (hC : j2_up1 C) {Q : j2_P} {o0 : Nat} {x1 : Int32} {x2 : Int32} {xs0 : Int32} {p0 : j2_W} {p1 : j2_W} {p2 : j2_W} {p3 : j2_W} {g4 : Nat} {p5 : j2_W} {p6 : j2_W} {p7 : j2_W} {p8 : j2_W} {p9 : j2_W} {I : Nat → Nat → Int32} {A : Nat → Nat → Nat → Int32}
  (h : ((¬ xs0 = 0 → T65 C Q 2 [vO 5 o0, vI (x1 + (nI 1)), vI x2] [] (I, [p0, p1, p2, p3, vO 3 g4, p5, p6, p7, p8, p9], A)) ∧ (¬ (¬ xs0 = 0) → (vp_in x1 4000 ∧ (True ∧ Q (some (vI (A 5006 o0 x1.toNatClampNeg))) (I, [p0, p1, p2, p3, vO 3 g4, p5, p6, p7, p8, p9], A)))))) :
  T65 C Q 31 [vO 5 o0, vI x1, vI x2] [vI xs0] (I, [p0, p1, p2, p3, vO 3 g4, p5, p6, p7, p8, p9], A) := j2_T.go hC [0, 2, 31] 400 h
abbrev T66 (C : j2_C) (Q : j2_P) : j2_K := j2_T C jc_X5_next (some .int) Q
set_option maxRecDepth 100000 in
theorem b66_0 {C : j2_C} (hC : j2_up1 C) {Q : j2_P} {o0 : Nat} {x1 : Int32} {x2 : Int32} {p0 : j2_W} {p1 : j2_W} {p2 : j2_W} {g3 : Nat} {p4 : j2_W} {p5 : j2_W} {p6 : j2_W} {p7 : j2_W} {p8 : j2_W} {p9 : j2_W} {I : Nat → Nat → Int32} {A : Nat → Nat → Nat → Int32}
  (h : ((¬ (I 5003 o0) = 0 → T66 C Q 14 [vO 5 o0, vI x1, vI x2, vM 2] [] (I, [p0, p1, p2, vA 9000 g3, p4, p5, p6, p7, p8, p9], A)) ∧ (¬ (¬ (I 5003 o0) = 0) → (((I 5001 o0) ≤ (I 5002 o0) → T66 C Q 14 [vO 5 o0, vI x1, vI x2, vM 2] [] (I, [p0, p1, p2, vA 9000 g3, p4, p5, p6, p7, p8, p9], A)) ∧ (¬ ((I 5001 o0) ≤ (I 5002 o0)) → (((I 5002 o0) < (nI 4000) → (vp_in (I 5002 o0) 4000 ∧ ((((A 9000 g3 (I 5002 o0).toNatClampNeg) &&& (nI 255)) < x1 → T66 C Q 33 [vO 5 o0, vI x1, vI x2, vI ((A 9000 g3 (I 5002 o0).toNatClampNeg) &&& (nI 255))] [] (I, [p0, p1, p2, vA 9000 g3, p4, p5, p6, p7, p8, p9], A)) ∧ (¬ (((A 9000 g3 (I 5002 o0).toNatClampNeg) &&& (nI 255)) < x1) → ((((A 9000 g3 (I 5002 o0).toNatClampNeg) &&& (nI 255)) ≤ x2 → (True ∧ Q (some (vI ((A 9000 g3 (I 5002 o0).toNatClampNeg) &&& (nI 255)))) ((j2_up I 5002 o0 ((I 5002 o0) + (nI 1))), [p0, p1, p2, vA 9000 g3, p4, p5, p6, p7, p8, p9], A))) ∧ (¬ (((A 9000 g3 (I 5002 o0).toNatClampNeg) &&& (nI 255)) ≤ x2) → T66 C Q 33 [vO 5 o0, vI x1, vI x2, vI ((A 9000 g3 (I 5002 o0).toNatClampNeg) &&& (nI 255))] [] (I, [p0, p1, p2, vA 9000 g3, p4, p5, p6, p7, p8, p9], A))))))) ∧ (¬ ((I 5002 o0) < (nI 4000)) → T66 C Q 14 [vO 5 o0, vI x1, vI x2, vM 2] [] (I, [p0, p1, p2, vA 9000 g3, p4, p5, p6, p7, p8, p9], A)))))))) :
  T66 C Q 0 [vO 5 o0, vI x1, vI x2, vM 2] [] (I, [p0, p1, p2, vA 9000 g3, p4, p5, p6, p7, p8, p9], A) := j2_T.go hC [0, 14, 33] 400 h
set_option maxRecDepth 100000 in
theorem b66_14 {C : j2_C} (hC : j2_up1 C) {Q : j2_P} {o0 : Nat} {x1 : Int32} {x2 : Int32} {p0 : j2_W} {p1 : j2_W} {p2 : j2_W} {g3 : Nat} {p4 : j2_W} {p5 : j2_W} {p6 : j2_W} {p7 : j2_W} {p8 : j2_W} {p9 : j2_W} {I : Nat → Nat → Int32} {A : Nat → Nat → Nat → Int32}
  (h : (((nI 1) = 0 ∨ (nI 1) = 1) ∧ (True ∧ Q (some (vI x1)) ((j2_up I 5003 o0 (nI 1)), [p0, p1, p2, vA 9000 g3, p4, p5, p6, p7, p8, p9], A)))) :
  T66 C Q 14 [vO 5 o0, vI x1, vI x2, vM 2] [] (I, [p0, p1, p2, vA 9000 g3, p4, p5, p6, p7, p8, p9], A) := j2_T.go hC [0, 14, 33] 400 h
set_option maxRecDepth 100000 in
theorem b66_33 {C : j2_C} (hC : j2_up1 C) {Q : j2_P} {o0 : Nat} {x1 : Int32} {x2 : Int32} {x3 : Int32} {p0 : j2_W} {p1 : j2_W} {p2 : j2_W} {g3 : Nat} {p4 : j2_W} {p5 : j2_W} {p6 : j2_W} {p7 : j2_W} {p8 : j2_W} {p9 : j2_W} {I : Nat → Nat → Int32} {A : Nat → Nat → Nat → Int32}
  (h : (((nI 1) = 0 ∨ (nI 1) = 1) ∧ (True ∧ Q (some (vI x1)) ((j2_up I 5003 o0 (nI 1)), [p0, p1, p2, vA 9000 g3, p4, p5, p6, p7, p8, p9], A)))) :
  T66 C Q 33 [vO 5 o0, vI x1, vI x2, vI x3] [] (I, [p0, p1, p2, vA 9000 g3, p4, p5, p6, p7, p8, p9], A) := j2_T.go hC [0, 14, 33] 400 h
abbrev T67 (C : j2_C) (Q : j2_P) : j2_K := j2_T C jc_X5_readClass none Q
set_option maxRecDepth 100000 in
theorem b67_0 {C : j2_C} (hC : j2_up1 C) {Q : j2_P} {o0 : Nat} {x1 : Int32} {p0 : j2_W} {p1 : j2_W} {p2 : j2_W} {p3 : j2_W} {g4 : Nat} {p5 : j2_W} {p6 : j2_W} {p7 : j2_W} {p8 : j2_W} {p9 : j2_W} {I : Nat → Nat → Int32} {A : Nat → Nat → Nat → Int32}
  (h : C 66 [vO 5 o0, vI (nI 1), vI (nI 255)] (I, [p0, p1, p2, p3, vO 3 g4, p5, p6, p7, p8, p9], A) (fun r σ1 => T67 C Q 8 [vO 5 o0, vI x1, vM 2, vM 2, vM 2] (r.toList ++ [vI x1, vA 3002 g4]) σ1)) :
  T67 C Q 0 [vO 5 o0, vI x1, vM 2, vM 2, vM 2] [] (I, [p0, p1, p2, p3, vO 3 g4, p5, p6, p7, p8, p9], A) := j2_T.go hC [0, 8, 13, 37, 46, 49, 70, 81, 90, 109, 112, 128] 400 h
set_option maxRecDepth 100000 in
theorem b67_8 {C : j2_C} (hC : j2_up1 C) {Q : j2_P} {o0 : Nat} {x1 : Int32} {xs0 : Int32} {xs1 : Int32} {os2 : Nat} {p0 : j2_W} {p1 : j2_W} {p2 : j2_W} {p3 : j2_W} {g4 : Nat} {p5 : j2_W} {p6 : j2_W} {p7 : j2_W} {p8 : j2_W} {p9 : j2_W} {I : Nat → Nat → Int32} {A : Nat → Nat → Nat → Int32}
  (h : (vp_in xs1 10 ∧ C 66 [vO 5 o0, vI (nI 0), vI x1] (I, [p0, p1, p2, p3, vO 3 g4, p5, p6, p7, p8, p9], (j2_ast A 3002 os2 xs1.toNatClampNeg xs0)) (fun r σ1 => T67 C Q 13 [vO 5 o0, vI x1, vM 2, vM 2, vM 2] (r.toList ++ []) σ1))) :
  T67 C Q 8 [vO 5 o0, vI x1, vM 2, vM 2, vM 2] [vI xs0, vI xs1, vA 3002 os2] (I, [p0, p1, p2, p3, vO 3 g4, p5, p6, p7, p8, p9], A) := j2_T.go hC [0, 8, 13, 37, 46, 49, 70, 81, 90, 109, 112, 128] 400 h
set_option maxRecDepth 100000 in
theorem b67_13 {C : j2_C} (hC : j2_up1 C) {Q : j2_P} {o0 : Nat} {x1 : Int32} {xs0 : Int32} {p0 : j2_W} {p1 : j2_W} {p2 : j2_W} {p3 : j2_W} {g4 : Nat} {p5 : j2_W} {p6 : j2_W} {p7 : j2_W} {p8 : j2_W} {p9 : j2_W} {I : Nat → Nat → Int32} {A : Nat → Nat → Nat → Int32}
  (h : (vp_in x1 10 ∧ ((0 ≤ (xs0 - (nI 1)) → (vp_in (xs0 - (nI 1)) 10 ∧ T67 C Q 37 [vO 5 o0, vI x1, vI (xs0 - (nI 1)), vM 2, vM 2] [vI (((j2_ast A 3003 g4 x1.toNatClampNeg (xs0 - (nI 1))) 3004 g4 (xs0 - (nI 1)).toNatClampNeg) + (nI 1)), vI x1, vA 3004 g4] (I, [p0, p1, p2, p3, vO 3 g4, p5, p6, p7, p8, p9], (j2_ast A 3003 g4 x1.toNatClampNeg (xs0 - (nI 1)))))) ∧ (¬ (0 ≤ (xs0 - (nI 1))) → T67 C Q 37 [vO 5 o0, vI x1, vI (xs0 - (nI 1)), vM 2, vM 2] [vI (nI 0), vI x1, vA 3004 g4] (I, [p0, p1, p2, p3, vO 3 g4, p5, p6, p7, p8, p9], (j2_ast A 3003 g4 x1.toNatClampNeg (xs0 - (nI 1)))))))) :
  T67 C Q 13 [vO 5 o0, vI x1, vM 2, vM 2, vM 2] [vI xs0] (I, [p0, p1, p2, p3, vO 3 g4, p5, p6, p7, p8, p9], A) := j2_T.go hC [0, 8, 13, 37, 46, 49, 70, 81, 90, 109, 112, 128] 400 h
set_option maxRecDepth 100000 in
theorem b67_37 {C : j2_C} (hC : j2_up1 C) {Q : j2_P} {o0 : Nat} {x1 : Int32} {x2 : Int32} {xs0 : Int32} {xs1 : Int32} {os2 : Nat} {p0 : j2_W} {p1 : j2_W} {p2 : j2_W} {p3 : j2_W} {g4 : Nat} {p5 : j2_W} {p6 : j2_W} {p7 : j2_W} {p8 : j2_W} {p9 : j2_W} {I : Nat → Nat → Int32} {A : Nat → Nat → Nat → Int32}
  (h : (vp_in xs1 10 ∧ C 66 [vO 5 o0, vI (nI 0), vI (nI 6)] (I, [p0, p1, p2, p3, vO 3 g4, p5, p6, p7, p8, p9], (j2_ast A 3004 os2 xs1.toNatClampNeg xs0)) (fun r σ1 => T67 C Q 46 [vO 5 o0, vI x1, vI x2, vM 2, vM 2] (r.toList ++ [vI x1, vA 3005 g4]) σ1))) :
  T67 C Q 37 [vO 5 o0, vI x1, vI x2, vM 2, vM 2] [vI xs0, vI xs1, vA 3004 os2] (I, [p0, p1, p2, p3, vO 3 g4, p5, p6, p7, p8, p9], A) := j2_T.go hC [0, 8, 13, 37, 46, 49, 70, 81, 90, 109, 112, 128] 400 h
set_option maxRecDepth 100000 in
theorem b67_46 {C : j2_C} (hC : j2_up1 C) {Q : j2_P} {o0 : Nat} {x1 : Int32} {x2 : Int32} {xs0 : Int32} {xs1 : Int32} {os2 : Nat} {p0 : j2_W} {p1 : j2_W} {p2 : j2_W} {p3 : j2_W} {g4 : Nat} {p5 : j2_W} {p6 : j2_W} {p7 : j2_W} {p8 : j2_W} {p9 : j2_W} {I : Nat → Nat → Int32} {A : Nat → Nat → Nat → Int32}
  (h : (vp_in xs1 10 ∧ T67 C Q 49 [vO 5 o0, vI x1, vI x2, vI (nI 0), vM 2] [] (I, [p0, p1, p2, p3, vO 3 g4, p5, p6, p7, p8, p9], (j2_ast A 3005 os2 xs1.toNatClampNeg xs0)))) :
  T67 C Q 46 [vO 5 o0, vI x1, vI x2, vM 2, vM 2] [vI xs0, vI xs1, vA 3005 os2] (I, [p0, p1, p2, p3, vO 3 g4, p5, p6, p7, p8, p9], A) := j2_T.go hC [0, 8, 13, 37, 46, 49, 70, 81, 90, 109, 112, 128] 400 h
set_option maxRecDepth 100000 in
theorem b67_49 {C : j2_C} (hC : j2_up1 C) {Q : j2_P} {o0 : Nat} {x1 : Int32} {x2 : Int32} {x3 : Int32} {w4 : j2_W} {p0 : j2_W} {p1 : j2_W} {p2 : j2_W} {p3 : j2_W} {g4 : Nat} {p5 : j2_W} {p6 : j2_W} {p7 : j2_W} {p8 : j2_W} {p9 : j2_W} {I : Nat → Nat → Int32} {A : Nat → Nat → Nat → Int32}
  (h : (vp_in x1 10 ∧ (((A 3005 g4 x1.toNatClampNeg) ≤ x3 → (vp_in x1 10 ∧ C 66 [vO 5 o0, vI (nI 0), vI (nI 8)] (I, [p0, p1, p2, p3, vO 3 g4, p5, p6, p7, p8, p9], (j2_ast A 3007 g4 x1.toNatClampNeg (I 3001 g4))) (fun r σ1 => T67 C Q 109 [vO 5 o0, vI x1, vI x2, vI x3, w4] (r.toList ++ [vI x1, vA 3006 g4]) σ1))) ∧ (¬ ((A 3005 g4 x1.toNatClampNeg) ≤ x3) → C 66 [vO 5 o0, vI (nI 1), vI (nI 255)] (I, [p0, p1, p2, p3, vO 3 g4, p5, p6, p7, p8, p9], A) (fun r σ1 => T67 C Q 70 [vO 5 o0, vI x1, vI x2, vI x3, vI ((x1 * (nI 6)) + x3)] (r.toList ++ [vI ((x1 * (nI 6)) + x3), vA 3008 g4]) σ1))))) :
  T67 C Q 49 [vO 5 o0, vI x1, vI x2, vI x3, w4] [] (I, [p0, p1, p2, p3, vO 3 g4, p5, p6, p7, p8, p9], A) := j2_T.go hC [0, 8, 13, 37, 46, 49, 70, 81, 90, 109, 112, 128] 400 h
set_option maxRecDepth 100000 in
theorem b67_70 {C : j2_C} (hC : j2_up1 C) {Q : j2_P} {o0 : Nat} {x1 : Int32} {x2 : Int32} {x3 : Int32} {x4 : Int32} {xs0 : Int32} {xs1 : Int32} {os2 : Nat} {p0 : j2_W} {p1 : j2_W} {p2 : j2_W} {p3 : j2_W} {g4 : Nat} {p5 : j2_W} {p6 : j2_W} {p7 : j2_W} {p8 : j2_W} {p9 : j2_W} {I : Nat → Nat → Int32} {A : Nat → Nat → Nat → Int32}
  (h : (vp_in xs1 60 ∧ C 66 [vO 5 o0, vI (nI 0), vI (I 3000 g4)] (I, [p0, p1, p2, p3, vO 3 g4, p5, p6, p7, p8, p9], (j2_ast A 3008 os2 xs1.toNatClampNeg xs0)) (fun r σ1 => T67 C Q 81 [vO 5 o0, vI x1, vI x2, vI x3, vI x4] (r.toList ++ [vI x4, vA 3009 g4]) σ1))) :
  T67 C Q 70 [vO 5 o0, vI x1, vI x2, vI x3, vI x4] [vI xs0, vI xs1, vA 3008 os2] (I, [p0, p1, p2, p3, vO 3 g4, p5, p6, p7, p8, p9], A) := j2_T.go hC [0, 8, 13, 37, 46, 49, 70, 81, 90, 109, 112, 128] 400 h
set_option maxRecDepth 100000 in
theorem b67_81 {C : j2_C} (hC : j2_up1 C) {Q : j2_P} {o0 : Nat} {x1 : Int32} {x2 : Int32} {x3 : Int32} {x4 : Int32} {xs0 : Int32} {xs1 : Int32} {os2 : Nat} {p0 : j2_W} {p1 : j2_W} {p2 : j2_W} {p3 : j2_W} {g4 : Nat} {p5 : j2_W} {p6 : j2_W} {p7 : j2_W} {p8 : j2_W} {p9 : j2_W} {I : Nat → Nat → Int32} {A : Nat → Nat → Nat → Int32}
  (h : (vp_in xs1 60 ∧ C 66 [vO 5 o0, vI (nI 0), vI (nI 1)] (I, [p0, p1, p2, p3, vO 3 g4, p5, p6, p7, p8, p9], (j2_ast A 3009 os2 xs1.toNatClampNeg xs0)) (fun r σ1 => T67 C Q 90 [vO 5 o0, vI x1, vI x2, vI x3, vI x4] (r.toList ++ [vI x4, vA 3010 g4]) σ1))) :
  T67 C Q 81 [vO 5 o0, vI x1, vI x2, vI x3, vI x4] [vI xs0, vI xs1, vA 3009 os2] (I, [p0, p1, p2, p3, vO 3 g4, p5, p6, p7, p8, p9], A) := j2_T.go hC [0, 8, 13, 37, 46, 49, 70, 81, 90, 109, 112, 128] 400 h
set_option maxRecDepth 100000 in
theorem b67_90 {C : j2_C} (hC : j2_up1 C) {Q : j2_P} {o0 : Nat} {x1 : Int32} {x2 : Int32} {x3 : Int32} {x4 : Int32} {xs0 : Int32} {xs1 : Int32} {os2 : Nat} {p0 : j2_W} {p1 : j2_W} {p2 : j2_W} {p3 : j2_W} {g4 : Nat} {p5 : j2_W} {p6 : j2_W} {p7 : j2_W} {p8 : j2_W} {p9 : j2_W} {I : Nat → Nat → Int32} {A : Nat → Nat → Nat → Int32}
  (h : (vp_in xs1 60 ∧ T67 C Q 49 [vO 5 o0, vI x1, vI x2, vI (x3 + (nI 1)), vI x4] [] (I, [p0, p1, p2, p3, vO 3 g4, p5, p6, p7, p8, p9], (j2_ast A 3010 os2 xs1.toNatClampNeg xs0)))) :
  T67 C Q 90 [vO 5 o0, vI x1, vI x2, vI x3, vI x4] [vI xs0, vI xs1, vA 3010 os2] (I, [p0, p1, p2, p3, vO 3 g4, p5, p6, p7, p8, p9], A) := j2_T.go hC [0, 8, 13, 37, 46, 49, 70, 81, 90, 109, 112, 128] 400 h
set_option maxRecDepth 100000 in
theorem b67_109 {C : j2_C} (hC : j2_up1 C) {Q : j2_P} {o0 : Nat} {x1 : Int32} {x2 : Int32} {x3 : Int32} {w4 : j2_W} {xs0 : Int32} {xs1 : Int32} {os2 : Nat} {p0 : j2_W} {p1 : j2_W} {p2 : j2_W} {p3 : j2_W} {g4 : Nat} {p5 : j2_W} {p6 : j2_W} {p7 : j2_W} {p8 : j2_W} {p9 : j2_W} {I : Nat → Nat → Int32} {A : Nat → Nat → Nat → Int32}
  (h : (vp_in xs1 10 ∧ T67 C Q 112 [vO 5 o0, vI x1, vI x2, vI (nI 0), w4] [] (I, [p0, p1, p2, p3, vO 3 g4, p5, p6, p7, p8, p9], (j2_ast A 3006 os2 xs1.toNatClampNeg xs0)))) :
  T67 C Q 109 [vO 5 o0, vI x1, vI x2, vI x3, w4] [vI xs0, vI xs1, vA 3006 os2] (I, [p0, p1, p2, p3, vO 3 g4, p5, p6, p7, p8, p9], A) := j2_T.go hC [0, 8, 13, 37, 46, 49, 70, 81, 90, 109, 112, 128] 400 h
set_option maxRecDepth 100000 in
theorem b67_112 {C : j2_C} (hC : j2_up1 C) {Q : j2_P} {o0 : Nat} {x1 : Int32} {x2 : Int32} {x3 : Int32} {w4 : j2_W} {p0 : j2_W} {p1 : j2_W} {p2 : j2_W} {p3 : j2_W} {g4 : Nat} {p5 : j2_W} {p6 : j2_W} {p7 : j2_W} {p8 : j2_W} {p9 : j2_W} {I : Nat → Nat → Int32} {A : Nat → Nat → Nat → Int32}
  (h : (vp_in x1 10 ∧ (((A 3006 g4 x1.toNatClampNeg) ≤ x3 → ((none : Option FieldType) = none ∧ Q none (I, [p0, p1, p2, p3, vO 3 g4, p5, p6, p7, p8, p9], A))) ∧ (¬ ((A 3006 g4 x1.toNatClampNeg) ≤ x3) → ((¬ (I 5003 o0) = 0 → ((none : Option FieldType) = none ∧ Q none (I, [p0, p1, p2, p3, vO 3 g4, p5, p6, p7, p8, p9], A))) ∧ (¬ (¬ (I 5003 o0) = 0) → C 68 [vO 5 o0, vI x1, vI (I 3001 g4)] (I, [p0, p1, p2, p3, vO 3 g4, p5, p6, p7, p8, p9], A) (fun r σ1 => T67 C Q 128 [vO 5 o0, vI x1, vI x2, vI x3, w4] (r.toList ++ []) σ1))))))) :
  T67 C Q 112 [vO 5 o0, vI x1, vI x2, vI x3, w4] [] (I, [p0, p1, p2, p3, vO 3 g4, p5, p6, p7, p8, p9], A) := j2_T.go hC [0, 8, 13, 37, 46, 49, 70, 81, 90, 109, 112, 128] 400 h
set_option maxRecDepth 100000 in
theorem b67_128 {C : j2_C} (hC : j2_up1 C) {Q : j2_P} {o0 : Nat} {x1 : Int32} {x2 : Int32} {x3 : Int32} {w4 : j2_W} {p0 : j2_W} {p1 : j2_W} {p2 : j2_W} {p3 : j2_W} {g4 : Nat} {p5 : j2_W} {p6 : j2_W} {p7 : j2_W} {p8 : j2_W} {p9 : j2_W} {I : Nat → Nat → Int32} {A : Nat → Nat → Nat → Int32}
  (h : T67 C Q 112 [vO 5 o0, vI x1, vI x2, vI (x3 + (nI 1)), w4] [] ((j2_up I 3001 g4 ((I 3001 g4) + (nI 1))), [p0, p1, p2, p3, vO 3 g4, p5, p6, p7, p8, p9], A)) :
  T67 C Q 128 [vO 5 o0, vI x1, vI x2, vI x3, w4] [] (I, [p0, p1, p2, p3, vO 3 g4, p5, p6, p7, p8, p9], A) := j2_T.go hC [0, 8, 13, 37, 46, 49, 70, 81, 90, 109, 112, 128] 400 h
abbrev T68 (C : j2_C) (Q : j2_P) : j2_K := j2_T C jc_X5_readMethod none Q
set_option maxRecDepth 100000 in
theorem b68_0 {C : j2_C} (hC : j2_up1 C) {Q : j2_P} {o0 : Nat} {x1 : Int32} {x2 : Int32} {p0 : j2_W} {p1 : j2_W} {p2 : j2_W} {p3 : j2_W} {g4 : Nat} {p5 : j2_W} {p6 : j2_W} {p7 : j2_W} {p8 : j2_W} {p9 : j2_W} {I : Nat → Nat → Int32} {A : Nat → Nat → Nat → Int32}
  (h : (vp_in x2 80 ∧ C 66 [vO 5 o0, vI (nI 1), vI (nI 255)] (I, [p0, p1, p2, p3, vO 3 g4, p5, p6, p7, p8, p9], (j2_ast A 3011 g4 x2.toNatClampNeg x1)) (fun r σ1 => T68 C Q 14 [vO 5 o0, vI x1, vI x2, vM 2] (r.toList ++ [vI x2, vA 3012 g4]) σ1))) :
  T68 C Q 0 [vO 5 o0, vI x1, vI x2, vM 2] [] (I, [p0, p1, p2, p3, vO 3 g4, p5, p6, p7, p8, p9], A) := j2_T.go hC [0, 14, 23, 36, 45, 48, 69, 86, 89, 99, 102, 121] 400 h
set_option maxRecDepth 100000 in
theorem b68_14 {C : j2_C} (hC : j2_up1 C) {Q : j2_P} {o0 : Nat} {x1 : Int32} {x2 : Int32} {xs0 : Int32} {xs1 : Int32} {os2 : Nat} {p0 : j2_W} {p1 : j2_W} {p2 : j2_W} {p3 : j2_W} {g4 : Nat} {p5 : j2_W} {p6 : j2_W} {p7 : j2_W} {p8 : j2_W} {p9 : j2_W} {I : Nat → Nat → Int32} {A : Nat → Nat → Nat → Int32}
  (h : (vp_in xs1 80 ∧ C 66 [vO 5 o0, vI (nI 0), vI (nI 1)] (I, [p0, p1, p2, p3, vO 3 g4, p5, p6, p7, p8, p9], (j2_ast A 3012 os2 xs1.toNatClampNeg xs0)) (fun r σ1 => T68 C Q 23 [vO 5 o0, vI x1, vI x2, vM 2] (r.toList ++ [vI x2, vA 3013 g4]) σ1))) :
  T68 C Q 14 [vO 5 o0, vI x1, vI x2, vM 2] [vI xs0, vI xs1, vA 3012 os2] (I, [p0, p1, p2, p3, vO 3 g4, p5, p6, p7, p8, p9], A) := j2_T.go hC [0, 14, 23, 36, 45, 48, 69, 86, 89, 99, 102, 121] 400 h
set_option maxRecDepth 100000 in
theorem b68_23 {C : j2_C} (hC : j2_up1 C) {Q : j2_P} {o0 : Nat} {x1 : Int32} {x2 : Int32} {xs0 : Int32} {xs1 : Int32} {os2 : Nat} {p0 : j2_W} {p1 : j2_W} {p2 : j2_W} {p3 : j2_W} {g4 : Nat} {p5 : j2_W} {p6 : j2_W} {p7 : j2_W} {p8 : j2_W} {p9 : j2_W} {I : Nat → Nat → Int32} {A : Nat → Nat → Nat → Int32}
  (h : (vp_in xs1 80 ∧ C 66 [vO 5 o0, vI (nI 0), vI ((I 3000 g4) + (nI 1))] (I, [p0, p1, p2, p3, vO 3 g4, p5, p6, p7, p8, p9], (j2_ast A 3013 os2 xs1.toNatClampNeg xs0)) (fun r σ1 => T68 C Q 36 [vO 5 o0, vI x1, vI x2, vM 2] (r.toList ++ [vI x2, vA 3014 g4]) σ1))) :
  T68 C Q 23 [vO 5 o0, vI x1, vI x2, vM 2] [vI xs0, vI xs1, vA 3013 os2] (I, [p0, p1, p2, p3, vO 3 g4, p5, p6, p7, p8, p9], A) := j2_T.go hC [0, 14, 23, 36, 45, 48, 69, 86, 89, 99, 102, 121] 400 h
set_option maxRecDepth 100000 in
theorem b68_36 {C : j2_C} (hC : j2_up1 C) {Q : j2_P} {o0 : Nat} {x1 : Int32} {x2 : Int32} {xs0 : Int32} {xs1 : Int32} {os2 : Nat} {p0 : j2_W} {p1 : j2_W} {p2 : j2_W} {p3 : j2_W} {g4 : Nat} {p5 : j2_W} {p6 : j2_W} {p7 : j2_W} {p8 : j2_W} {p9 : j2_W} {I : Nat → Nat → Int32} {A : Nat → Nat → Nat → Int32}
  (h : (vp_in xs1 80 ∧ C 66 [vO 5 o0, vI (nI 0), vI (nI 3)] (I, [p0, p1, p2, p3, vO 3 g4, p5, p6, p7, p8, p9], (j2_ast A 3014 os2 xs1.toNatClampNeg xs0)) (fun r σ1 => T68 C Q 45 [vO 5 o0, vI x1, vI x2, vM 2] (r.toList ++ [vI x2, vA 3015 g4]) σ1))) :
  T68 C Q 36 [vO 5 o0, vI x1, vI x2, vM 2] [vI xs0, vI xs1, vA 3014 os2] (I, [p0, p1, p2, p3, vO 3 g4, p5, p6, p7, p8, p9], A) := j2_T.go hC [0, 14, 23, 36, 45, 48, 69, 86, 89, 99, 102, 121] 400 h
set_option maxRecDepth 100000 in
theorem b68_45 {C : j2_C} (hC : j2_up1 C) {Q : j2_P} {o0 : Nat} {x1 : Int32} {x2 : Int32} {xs0 : Int32} {xs1 : Int32} {os2 : Nat} {p0 : j2_W} {p1 : j2_W} {p2 : j2_W} {p3 : j2_W} {g4 : Nat} {p5 : j2_W} {p6 : j2_W} {p7 : j2_W} {p8 : j2_W} {p9 : j2_W} {I : Nat → Nat → Int32} {A : Nat → Nat → Nat → Int32}
  (h : (vp_in xs1 80 ∧ T68 C Q 48 [vO 5 o0, vI x1, vI x2, vI (nI 0)] [] (I, [p0, p1, p2, p3, vO 3 g4, p5, p6, p7, p8, p9], (j2_ast A 3015 os2 xs1.toNatClampNeg xs0)))) :
  T68 C Q 45 [vO 5 o0, vI x1, vI x2, vM 2] [vI xs0, vI xs1, vA 3015 os2] (I, [p0, p1, p2, p3, vO 3 g4, p5, p6, p7, p8, p9], A) := j2_T.go hC [0, 14, 23, 36, 45, 48, 69, 86, 89, 99, 102, 121] 400 h
set_option maxRecDepth 100000 in
theorem b68_48 {C : j2_C} (hC : j2_up1 C) {Q : j2_P} {o0 : Nat} {x1 : Int32} {x2 : Int32} {x3 : Int32} {p0 : j2_W} {p1 : j2_W} {p2 : j2_W} {p3 : j2_W} {g4 : Nat} {p5 : j2_W} {p6 : j2_W} {p7 : j2_W} {p8 : j2_W} {p9 : j2_W} {I : Nat → Nat → Int32} {A : Nat → Nat → Nat → Int32}
  (h : (vp_in x2 80 ∧ (((A 3015 g4 x2.toNatClampNeg) ≤ x3 → (vp_in x2 80 ∧ C 51 [vO 3 g4, vI x2] (I, [p0, p1, p2, p3, vO 3 g4, p5, p6, p7, p8, p9], A) (fun r σ1 => T68 C Q 86 [vO 5 o0, vI x1, vI x2, vI x3] (r.toList ++ [vI (A 3015 g4 x2.toNatClampNeg), vO 5 o0, vI x2, vA 3017 g4]) σ1))) ∧ (¬ ((A 3015 g4 x2.toNatClampNeg) ≤ x3) → C 66 [vO 5 o0, vI (nI 0), vI (I 3000 g4)] (I, [p0, p1, p2, p3, vO 3 g4, p5, p6, p7, p8, p9], A) (fun r σ1 => T68 C Q 69 [vO 5 o0, vI x1, vI x2, vI x3] (r.toList ++ [vI ((x2 * (nI 3)) + x3), vA 3016 g4]) σ1))))) :
  T68 C Q 48 [vO 5 o0, vI x1, vI x2, vI x3] [] (I, [p0, p1, p2, p3, vO 3 g4, p5, p6, p7, p8, p9], A) := j2_T.go hC [0, 14, 23, 36, 45, 48, 69, 86, 89, 99, 102, 121] 400 h
set_option maxRecDepth 100000 in
theorem b68_69 {C : j2_C} (hC : j2_up1 C) {Q : j2_P} {o0 : Nat} {x1 : Int32} {x2 : Int32} {x3 : Int32} {xs0 : Int32} {xs1 : Int32} {os2 : Nat} {p0 : j2_W} {p1 : j2_W} {p2 : j2_W} {p3 : j2_W} {g4 : Nat} {p5 : j2_W} {p6 : j2_W} {p7 : j2_W} {p8 : j2_W} {p9 : j2_W} {I : Nat → Nat → Int32} {A : Nat → Nat → Nat → Int32}
  (h : (vp_in xs1 240 ∧ T68 C Q 48 [vO 5 o0, vI x1, vI x2, vI (x3 + (nI 1))] [] (I, [p0, p1, p2, p3, vO 3 g4, p5, p6, p7, p8, p9], (j2_ast A 3016 os2 xs1.toNatClampNeg xs0)))) :
  T68 C Q 69 [vO 5 o0, vI x1, vI x2, vI x3] [vI xs0, vI xs1, vA 3016 os2] (I, [p0, p1, p2, p3, vO 3 g4, p5, p6, p7, p8, p9], A) := j2_T.go hC [0, 14, 23, 36, 45, 48, 69, 86, 89, 99, 102, 121] 400 h
set_option maxRecDepth 100000 in
theorem b68_86 {C : j2_C} (hC : j2_up1 C) {Q : j2_P} {o0 : Nat} {x1 : Int32} {x2 : Int32} {x3 : Int32} {xs0 : Int32} {xs1 : Int32} {os2 : Nat} {xs3 : Int32} {os4 : Nat} {p0 : j2_W} {p1 : j2_W} {p2 : j2_W} {p3 : j2_W} {g4 : Nat} {p5 : j2_W} {p6 : j2_W} {p7 : j2_W} {p8 : j2_W} {p9 : j2_W} {I : Nat → Nat → Int32} {A : Nat → Nat → Nat → Int32}
  (h : C 66 [vO 5 os2, vI (xs1 + xs0), vI (nI 20)] (I, [p0, p1, p2, p3, vO 3 g4, p5, p6, p7, p8, p9], A) (fun r σ1 => T68 C Q 89 [vO 5 o0, vI x1, vI x2, vI x3] (r.toList ++ [vI xs3, vA 3017 os4]) σ1)) :
  T68 C Q 86 [vO 5 o0, vI x1, vI x2, vI x3] [vI xs0, vI xs1, vO 5 os2, vI xs3, vA 3017 os4] (I, [p0, p1, p2, p3, vO 3 g4, p5, p6, p7, p8, p9], A) := j2_T.go hC [0, 14, 23, 36, 45, 48, 69, 86, 89, 99, 102, 121] 400 h
set_option maxRecDepth 100000 in
theorem b68_89 {C : j2_C} (hC : j2_up1 C) {Q : j2_P} {o0 : Nat} {x1 : Int32} {x2 : Int32} {x3 : Int32} {xs0 : Int32} {xs1 : Int32} {os2 : Nat} {p0 : j2_W} {p1 : j2_W} {p2 : j2_W} {p3 : j2_W} {g4 : Nat} {p5 : j2_W} {p6 : j2_W} {p7 : j2_W} {p8 : j2_W} {p9 : j2_W} {I : Nat → Nat → Int32} {A : Nat → Nat → Nat → Int32}
  (h : (vp_in xs1 80 ∧ C 66 [vO 5 o0, vI (nI 1), vI (nI 120)] (I, [p0, p1, p2, p3, vO 3 g4, p5, p6, p7, p8, p9], (j2_ast A 3017 os2 xs1.toNatClampNeg xs0)) (fun r σ1 => T68 C Q 99 [vO 5 o0, vI x1, vI x2, vI x3] (r.toList ++ [vI x2, vA 0 (g4 + 17)]) σ1))) :
  T68 C Q 89 [vO 5 o0, vI x1, vI x2, vI x3] [vI xs0, vI xs1, vA 3017 os2] (I, [p0, p1, p2, p3, vO 3 g4, p5, p6, p7, p8, p9], A) := j2_T.go hC [0, 14, 23, 36, 45, 48, 69, 86, 89, 99, 102, 121] 400 h
set_option maxRecDepth 100000 in
theorem b68_99 {C : j2_C} (hC : j2_up1 C) {Q : j2_P} {o0 : Nat} {x1 : Int32} {x2 : Int32} {x3 : Int32} {xs0 : Int32} {xs1 : Int32} {os2 : Nat} {p0 : j2_W} {p1 : j2_W} {p2 : j2_W} {p3 : j2_W} {g4 : Nat} {p5 : j2_W} {p6 : j2_W} {p7 : j2_W} {p8 : j2_W} {p9 : j2_W} {I : Nat → Nat → Int32} {A : Nat → Nat → Nat → Int32}
  (h : (vp_in xs1 80 ∧ T68 C Q 102 [vO 5 o0, vI x1, vI x2, vI (nI 0)] [] (I, [p0, p1, p2, p3, vO 3 g4, p5, p6, p7, p8, p9], (j2_ast A 0 os2 xs1.toNatClampNeg xs0)))) :
  T68 C Q 99 [vO 5 o0, vI x1, vI x2, vI x3] [vI xs0, vI xs1, vA 0 os2] (I, [p0, p1, p2, p3, vO 3 g4, p5, p6, p7, p8, p9], A) := j2_T.go hC [0, 14, 23, 36, 45, 48, 69, 86, 89, 99, 102, 121] 400 h
set_option maxRecDepth 100000 in
theorem b68_102 {C : j2_C} (hC : j2_up1 C) {Q : j2_P} {o0 : Nat} {x1 : Int32} {x2 : Int32} {x3 : Int32} {p0 : j2_W} {p1 : j2_W} {p2 : j2_W} {p3 : j2_W} {g4 : Nat} {p5 : j2_W} {p6 : j2_W} {p7 : j2_W} {p8 : j2_W} {p9 : j2_W} {I : Nat → Nat → Int32} {A : Nat → Nat → Nat → Int32}
  (h : (vp_in x2 80 ∧ (((A 0 (g4 + 17) x2.toNatClampNeg) ≤ x3 → ((none : Option FieldType) = none ∧ Q none (I, [p0, p1, p2, p3, vO 3 g4, p5, p6, p7, p8, p9], A))) ∧ (¬ ((A 0 (g4 + 17) x2.toNatClampNeg) ≤ x3) → ((¬ (I 5003 o0) = 0 → ((none : Option FieldType) = none ∧ Q none (I, [p0, p1, p2, p3, vO 3 g4, p5, p6, p7, p8, p9], A))) ∧ (¬ (¬ (I 5003 o0) = 0) → C 69 [vO 5 o0, vI x2, vI ((x2 * (nI 120)) + x3)] (I, [p0, p1, p2, p3, vO 3 g4, p5, p6, p7, p8, p9], A) (fun r σ1 => T68 C Q 121 [vO 5 o0, vI x1, vI x2, vI x3] (r.toList ++ []) σ1))))))) :
  T68 C Q 102 [vO 5 o0, vI x1, vI x2, vI x3] [] (I, [p0, p1, p2, p3, vO 3 g4, p5, p6, p7, p8, p9], A) := j2_T.go hC [0, 14, 23, 36, 45, 48, 69, 86, 89, 99, 102, 121] 400 h
set_option maxRecDepth 100000 in
theorem b68_121 {C : j2_C} (hC : j2_up1 C) {Q : j2_P} {o0 : Nat} {x1 : Int32} {x2 : Int32} {x3 : Int32} {p0 : j2_W} {p1 : j2_W} {p2 : j2_W} {p3 : j2_W} {g4 : Nat} {p5 : j2_W} {p6 : j2_W} {p7 : j2_W} {p8 : j2_W} {p9 : j2_W} {I : Nat → Nat → Int32} {A : Nat → Nat → Nat → Int32}
  (h : T68 C Q 102 [vO 5 o0, vI x1, vI x2, vI (x3 + (nI 1))] [] (I, [p0, p1, p2, p3, vO 3 g4, p5, p6, p7, p8, p9], A)) :
  T68 C Q 121 [vO 5 o0, vI x1, vI x2, vI x3] [] (I, [p0, p1, p2, p3, vO 3 g4, p5, p6, p7, p8, p9], A) := j2_T.go hC [0, 14, 23, 36, 45, 48, 69, 86, 89, 99, 102, 121] 400 h
abbrev T69 (C : j2_C) (Q : j2_P) : j2_K := j2_T C jc_X5_readInstruction none Q
set_option maxRecDepth 100000 in
theorem b69_0 {C : j2_C} (hC : j2_up1 C) {Q : j2_P} {o0 : Nat} {x1 : Int32} {x2 : Int32} {p0 : j2_W} {p1 : j2_W} {p2 : j2_W} {p3 : j2_W} {g4 : Nat} {p5 : j2_W} {p6 : j2_W} {p7 : j2_W} {p8 : j2_W} {p9 : j2_W} {I : Nat → Nat → Int32} {A : Nat → Nat → Nat → Int32}
  (h : C 66 [vO 5 o0, vI (nI 0), vI (nI 26)] (I, [p0, p1, p2, p3, vO 3 g4, p5, p6, p7, p8, p9], A) (fun r σ1 => T69 C Q 4 [vO 5 o0, vI x1, vI x2, vM 2, vM 2, vM 2] (r.toList ++ []) σ1)) :
  T69 C Q 0 [vO 5 o0, vI x1, vI x2, vM 2, vM 2, vM 2] [] (I, [p0, p1, p2, p3, vO 3 g4, p5, p6, p7, p8, p9], A) := j2_T.go hC [0, 4, 12, 13, 15, 17, 27, 29, 40, 42, 50, 52, 60, 64, 68, 70] 400 h
set_option maxRecDepth 100000 in
theorem b69_4 {C : j2_C} (hC : j2_up1 C) {Q : j2_P} {o0 : Nat} {x1 : Int32} {x2 : Int32} {xs0 : Int32} {p0 : j2_W} {p1 : j2_W} {p2 : j2_W} {p3 : j2_W} {g4 : Nat} {p5 : j2_W} {p6 : j2_W} {p7 : j2_W} {p8 : j2_W} {p9 : j2_W} {I : Nat → Nat → Int32} {A : Nat → Nat → Nat → Int32}
  (h : (vp_in xs0 27 ∧ T69 C Q 12 [vO 5 o0, vI x1, vI x2, vI xs0, vI (nI 0), vI (nI 0)] [vI ((jt_ro 0).2 xs0.toNatClampNeg)] (I, [p0, p1, p2, p3, vO 3 g4, p5, p6, p7, p8, p9], A))) :
  T69 C Q 4 [vO 5 o0, vI x1, vI x2, vM 2, vM 2, vM 2] [vI xs0] (I, [p0, p1, p2, p3, vO 3 g4, p5, p6, p7, p8, p9], A) := j2_T.go hC [0, 4, 12, 13, 15, 17, 27, 29, 40, 42, 50, 52, 60, 64, 68, 70] 400 h
set_option maxRecDepth 100000 in
theorem b69_12 {C : j2_C} (hC : j2_up1 C) {Q : j2_P} {o0 : Nat} {x1 : Int32} {x2 : Int32} {x3 : Int32} {x4 : Int32} {x5 : Int32} {xs0 : Int32} {p0 : j2_W} {p1 : j2_W} {p2 : j2_W} {p3 : j2_W} {g4 : Nat} {p5 : j2_W} {p6 : j2_W} {p7 : j2_W} {p8 : j2_W} {p9 : j2_W} {I : Nat → Nat → Int32} {A : Nat → Nat → Nat → Int32} (h0 : xs0 = (nI 1) → T69 C Q 13 [vO 5 o0, vI x1, vI x2, vI x3, vI x4, vI x5] [] (I, [p0, p1, p2, p3, vO 3 g4, p5, p6, p7, p8, p9], A)) (h1 : xs0 = (nI 2) → T69 C Q 17 [vO 5 o0, vI x1, vI x2, vI x3, vI x4, vI x5] [] (I, [p0, p1, p2, p3, vO 3 g4, p5, p6, p7, p8, p9], A)) (h2 : xs0 = (nI 3) → T69 C Q 29 [vO 5 o0, vI x1, vI x2, vI x3, vI x4, vI x5] [] (I, [p0, p1, p2, p3, vO 3 g4, p5, p6, p7, p8, p9], A)) (h3 : xs0 = (nI 4) → T69 C Q 42 [vO 5 o0, vI x1, vI x2, vI x3, vI x4, vI x5] [] (I, [p0, p1, p2, p3, vO 3 g4, p5, p6, p7, p8, p9], A)) (h4 : xs0 = (nI 5) → T69 C Q 52 [vO 5 o0, vI x1, vI x2, vI x3, vI x4, vI x5] [] (I, [p0, p1, p2, p3, vO 3 g4, p5, p6, p7, p8, p9], A)) (h5 : xs0 = (nI 6) → T69 C Q 52 [vO 5 o0, vI x1, vI x2, vI x3, vI x4, vI x5] [] (I, [p0, p1, p2, p3, vO 3 g4, p5, p6, p7, p8, p9], A)) (hd : (xs0.toInt < 1 ∨ 6 < xs0.toInt) → T69 C Q 70 [vO 5 o0, vI x1, vI x2, vI x3, vI x4, vI x5] [] (I, [p0, p1, p2, p3, vO 3 g4, p5, p6, p7, p8, p9], A)) :
  T69 C Q 12 [vO 5 o0, vI x1, vI x2, vI x3, vI x4, vI x5] [vI xs0] (I, [p0, p1, p2, p3, vO 3 g4, p5, p6, p7, p8, p9], A) := j2_T.tsw hC (d := 70) (lo := 1) (hi := 6) (ts := #[13, 17, 29, 42, 52, 52]) rfl hd (fun g1 g2 => by
  have g : xs0.toInt = 1 ∨ xs0.toInt = 2 ∨ xs0.toInt = 3 ∨ xs0.toInt = 4 ∨ xs0.toInt = 5 ∨ xs0.toInt = 6 := by omega
  rcases g with g | g | g | g | g | g
  · rw [g]; exact h0 (Int32.toInt_inj.mp (g.trans (by decide)))
  · rw [g]; exact h1 (Int32.toInt_inj.mp (g.trans (by decide)))
  · rw [g]; exact h2 (Int32.toInt_inj.mp (g.trans (by decide)))
  · rw [g]; exact h3 (Int32.toInt_inj.mp (g.trans (by decide)))
  · rw [g]; exact h4 (Int32.toInt_inj.mp (g.trans (by decide)))
  · rw [g]; exact h5 (Int32.toInt_inj.mp (g.trans (by decide)))
  )
set_option maxRecDepth 100000 in
theorem b69_13 {C : j2_C} (hC : j2_up1 C) {Q : j2_P} {o0 : Nat} {x1 : Int32} {x2 : Int32} {x3 : Int32} {x4 : Int32} {x5 : Int32} {p0 : j2_W} {p1 : j2_W} {p2 : j2_W} {p3 : j2_W} {g4 : Nat} {p5 : j2_W} {p6 : j2_W} {p7 : j2_W} {p8 : j2_W} {p9 : j2_W} {I : Nat → Nat → Int32} {A : Nat → Nat → Nat → Int32}
  (h : C 70 [vO 5 o0] (I, [p0, p1, p2, p3, vO 3 g4, p5, p6, p7, p8, p9], A) (fun r σ1 => T69 C Q 15 [vO 5 o0, vI x1, vI x2, vI x3, vI x4, vI x5] (r.toList ++ []) σ1)) :
  T69 C Q 13 [vO 5 o0, vI x1, vI x2, vI x3, vI x4, vI x5] [] (I, [p0, p1, p2, p3, vO 3 g4, p5, p6, p7, p8, p9], A) := j2_T.go hC [0, 4, 12, 13, 15, 17, 27, 29, 40, 42, 50, 52, 60, 64, 68, 70] 400 h
set_option maxRecDepth 100000 in
theorem b69_15 {C : j2_C} (hC : j2_up1 C) {Q : j2_P} {o0 : Nat} {x1 : Int32} {x2 : Int32} {x3 : Int32} {x4 : Int32} {x5 : Int32} {xs0 : Int32} {p0 : j2_W} {p1 : j2_W} {p2 : j2_W} {p3 : j2_W} {g4 : Nat} {p5 : j2_W} {p6 : j2_W} {p7 : j2_W} {p8 : j2_W} {p9 : j2_W} {I : Nat → Nat → Int32} {A : Nat → Nat → Nat → Int32}
  (h : T69 C Q 70 [vO 5 o0, vI x1, vI x2, vI x3, vI xs0, vI x5] [] (I, [p0, p1, p2, p3, vO 3 g4, p5, p6, p7, p8, p9], A)) :
  T69 C Q 15 [vO 5 o0, vI x1, vI x2, vI x3, vI x4, vI x5] [vI xs0] (I, [p0, p1, p2, p3, vO 3 g4, p5, p6, p7, p8, p9], A) := j2_T.go hC [0, 4, 12, 13, 15, 17, 27, 29, 40, 42, 50, 52, 60, 64, 68, 70] 400 h
set_option maxRecDepth 100000 in
theorem b69_17 {C : j2_C} (hC : j2_up1 C) {Q : j2_P} {o0 : Nat} {x1 : Int32} {x2 : Int32} {x3 : Int32} {x4 : Int32} {x5 : Int32} {p0 : j2_W} {p1 : j2_W} {p2 : j2_W} {p3 : j2_W} {g4 : Nat} {p5 : j2_W} {p6 : j2_W} {p7 : j2_W} {p8 : j2_W} {p9 : j2_W} {I : Nat → Nat → Int32} {A : Nat → Nat → Nat → Int32}
  (h : (vp_in x1 80 ∧ C 66 [vO 5 o0, vI (nI 0), vI ((A 3017 g4 x1.toNatClampNeg) - (nI 1))] (I, [p0, p1, p2, p3, vO 3 g4, p5, p6, p7, p8, p9], A) (fun r σ1 => T69 C Q 27 [vO 5 o0, vI x1, vI x2, vI x3, vI x4, vI x5] (r.toList ++ []) σ1))) :
  T69 C Q 17 [vO 5 o0, vI x1, vI x2, vI x3, vI x4, vI x5] [] (I, [p0, p1, p2, p3, vO 3 g4, p5, p6, p7, p8, p9], A) := j2_T.go hC [0, 4, 12, 13, 15, 17, 27, 29, 40, 42, 50, 52, 60, 64, 68, 70] 400 h
set_option maxRecDepth 100000 in
theorem b69_27 {C : j2_C} (hC : j2_up1 C) {Q : j2_P} {o0 : Nat} {x1 : Int32} {x2 : Int32} {x3 : Int32} {x4 : Int32} {x5 : Int32} {xs0 : Int32} {p0 : j2_W} {p1 : j2_W} {p2 : j2_W} {p3 : j2_W} {g4 : Nat} {p5 : j2_W} {p6 : j2_W} {p7 : j2_W} {p8 : j2_W} {p9 : j2_W} {I : Nat → Nat → Int32} {A : Nat → Nat → Nat → Int32}
  (h : T69 C Q 70 [vO 5 o0, vI x1, vI x2, vI x3, vI xs0, vI x5] [] (I, [p0, p1, p2, p3, vO 3 g4, p5, p6, p7, p8, p9], A)) :
  T69 C Q 27 [vO 5 o0, vI x1, vI x2, vI x3, vI x4, vI x5] [vI xs0] (I, [p0, p1, p2, p3, vO 3 g4, p5, p6, p7, p8, p9], A) := j2_T.go hC [0, 4, 12, 13, 15, 17, 27, 29, 40, 42, 50, 52, 60, 64, 68, 70] 400 h
set_option maxRecDepth 100000 in
theorem b69_29 {C : j2_C} (hC : j2_up1 C) {Q : j2_P} {o0 : Nat} {x1 : Int32} {x2 : Int32} {x3 : Int32} {x4 : Int32} {x5 : Int32} {p0 : j2_W} {p1 : j2_W} {p2 : j2_W} {p3 : j2_W} {g4 : Nat} {p5 : j2_W} {p6 : j2_W} {p7 : j2_W} {p8 : j2_W} {p9 : j2_W} {I : Nat → Nat → Int32} {A : Nat → Nat → Nat → Int32}
  (h : (vp_in x1 80 ∧ C 66 [vO 5 o0, vI (nI 0), vI ((A 0 (g4 + 17) x1.toNatClampNeg) - (nI 1))] (I, [p0, p1, p2, p3, vO 3 g4, p5, p6, p7, p8, p9], A) (fun r σ1 => T69 C Q 40 [vO 5 o0, vI x1, vI x2, vI x3, vI x4, vI x5] (r.toList ++ []) σ1))) :
  T69 C Q 29 [vO 5 o0, vI x1, vI x2, vI x3, vI x4, vI x5] [] (I, [p0, p1, p2, p3, vO 3 g4, p5, p6, p7, p8, p9], A) := j2_T.go hC [0, 4, 12, 13, 15, 17, 27, 29, 40, 42, 50, 52, 60, 64, 68, 70] 400 h
set_option maxRecDepth 100000 in
theorem b69_40 {C : j2_C} (hC : j2_up1 C) {Q : j2_P} {o0 : Nat} {x1 : Int32} {x2 : Int32} {x3 : Int32} {x4 : Int32} {x5 : Int32} {xs0 : Int32} {p0 : j2_W} {p1 : j2_W} {p2 : j2_W} {p3 : j2_W} {g4 : Nat} {p5 : j2_W} {p6 : j2_W} {p7 : j2_W} {p8 : j2_W} {p9 : j2_W} {I : Nat → Nat → Int32} {A : Nat → Nat → Nat → Int32}
  (h : T69 C Q 70 [vO 5 o0, vI x1, vI x2, vI x3, vI xs0, vI x5] [] (I, [p0, p1, p2, p3, vO 3 g4, p5, p6, p7, p8, p9], A)) :
  T69 C Q 40 [vO 5 o0, vI x1, vI x2, vI x3, vI x4, vI x5] [vI xs0] (I, [p0, p1, p2, p3, vO 3 g4, p5, p6, p7, p8, p9], A) := j2_T.go hC [0, 4, 12, 13, 15, 17, 27, 29, 40, 42, 50, 52, 60, 64, 68, 70] 400 h
set_option maxRecDepth 100000 in
theorem b69_42 {C : j2_C} (hC : j2_up1 C) {Q : j2_P} {o0 : Nat} {x1 : Int32} {x2 : Int32} {x3 : Int32} {x4 : Int32} {x5 : Int32} {p0 : j2_W} {p1 : j2_W} {p2 : j2_W} {p3 : j2_W} {g4 : Nat} {p5 : j2_W} {p6 : j2_W} {p7 : j2_W} {p8 : j2_W} {p9 : j2_W} {I : Nat → Nat → Int32} {A : Nat → Nat → Nat → Int32}
  (h : C 66 [vO 5 o0, vI (nI 0), vI ((I 3000 g4) - (nI 1))] (I, [p0, p1, p2, p3, vO 3 g4, p5, p6, p7, p8, p9], A) (fun r σ1 => T69 C Q 50 [vO 5 o0, vI x1, vI x2, vI x3, vI x4, vI x5] (r.toList ++ []) σ1)) :
  T69 C Q 42 [vO 5 o0, vI x1, vI x2, vI x3, vI x4, vI x5] [] (I, [p0, p1, p2, p3, vO 3 g4, p5, p6, p7, p8, p9], A) := j2_T.go hC [0, 4, 12, 13, 15, 17, 27, 29, 40, 42, 50, 52, 60, 64, 68, 70] 400 h
set_option maxRecDepth 100000 in
theorem b69_50 {C : j2_C} (hC : j2_up1 C) {Q : j2_P} {o0 : Nat} {x1 : Int32} {x2 : Int32} {x3 : Int32} {x4 : Int32} {x5 : Int32} {xs0 : Int32} {p0 : j2_W} {p1 : j2_W} {p2 : j2_W} {p3 : j2_W} {g4 : Nat} {p5 : j2_W} {p6 : j2_W} {p7 : j2_W} {p8 : j2_W} {p9 : j2_W} {I : Nat → Nat → Int32} {A : Nat → Nat → Nat → Int32}
  (h : T69 C Q 70 [vO 5 o0, vI x1, vI x2, vI x3, vI xs0, vI x5] [] (I, [p0, p1, p2, p3, vO 3 g4, p5, p6, p7, p8, p9], A)) :
  T69 C Q 50 [vO 5 o0, vI x1, vI x2, vI x3, vI x4, vI x5] [vI xs0] (I, [p0, p1, p2, p3, vO 3 g4, p5, p6, p7, p8, p9], A) := j2_T.go hC [0, 4, 12, 13, 15, 17, 27, 29, 40, 42, 50, 52, 60, 64, 68, 70] 400 h
set_option maxRecDepth 100000 in
theorem b69_52 {C : j2_C} (hC : j2_up1 C) {Q : j2_P} {o0 : Nat} {x1 : Int32} {x2 : Int32} {x3 : Int32} {x4 : Int32} {x5 : Int32} {p0 : j2_W} {p1 : j2_W} {p2 : j2_W} {p3 : j2_W} {g4 : Nat} {p5 : j2_W} {p6 : j2_W} {p7 : j2_W} {p8 : j2_W} {p9 : j2_W} {I : Nat → Nat → Int32} {A : Nat → Nat → Nat → Int32}
  (h : C 66 [vO 5 o0, vI (nI 0), vI ((I 3000 g4) - (nI 1))] (I, [p0, p1, p2, p3, vO 3 g4, p5, p6, p7, p8, p9], A) (fun r σ1 => T69 C Q 60 [vO 5 o0, vI x1, vI x2, vI x3, vI x4, vI x5] (r.toList ++ []) σ1)) :
  T69 C Q 52 [vO 5 o0, vI x1, vI x2, vI x3, vI x4, vI x5] [] (I, [p0, p1, p2, p3, vO 3 g4, p5, p6, p7, p8, p9], A) := j2_T.go hC [0, 4, 12, 13, 15, 17, 27, 29, 40, 42, 50, 52, 60, 64, 68, 70] 400 h
set_option maxRecDepth 100000 in
theorem b69_60 {C : j2_C} (hC : j2_up1 C) {Q : j2_P} {o0 : Nat} {x1 : Int32} {x2 : Int32} {x3 : Int32} {x4 : Int32} {x5 : Int32} {xs0 : Int32} {p0 : j2_W} {p1 : j2_W} {p2 : j2_W} {p3 : j2_W} {g4 : Nat} {p5 : j2_W} {p6 : j2_W} {p7 : j2_W} {p8 : j2_W} {p9 : j2_W} {I : Nat → Nat → Int32} {A : Nat → Nat → Nat → Int32}
  (h : C 71 [vO 5 o0, vI x2] (I, [p0, p1, p2, p3, vO 3 g4, p5, p6, p7, p8, p9], A) (fun r σ1 => T69 C Q 64 [vO 5 o0, vI x1, vI x2, vI x3, vI xs0, vI x5] (r.toList ++ []) σ1)) :
  T69 C Q 60 [vO 5 o0, vI x1, vI x2, vI x3, vI x4, vI x5] [vI xs0] (I, [p0, p1, p2, p3, vO 3 g4, p5, p6, p7, p8, p9], A) := j2_T.go hC [0, 4, 12, 13, 15, 17, 27, 29, 40, 42, 50, 52, 60, 64, 68, 70] 400 h
set_option maxRecDepth 100000 in
theorem b69_64 {C : j2_C} (hC : j2_up1 C) {Q : j2_P} {o0 : Nat} {x1 : Int32} {x2 : Int32} {x3 : Int32} {x4 : Int32} {x5 : Int32} {p0 : j2_W} {p1 : j2_W} {p2 : j2_W} {p3 : j2_W} {g4 : Nat} {p5 : j2_W} {p6 : j2_W} {p7 : j2_W} {p8 : j2_W} {p9 : j2_W} {I : Nat → Nat → Int32} {A : Nat → Nat → Nat → Int32}
  (h : C 66 [vO 5 o0, vI (nI 0), vI (nI 255)] (I, [p0, p1, p2, p3, vO 3 g4, p5, p6, p7, p8, p9], A) (fun r σ1 => T69 C Q 68 [vO 5 o0, vI x1, vI x2, vI x3, vI x4, vI x5] (r.toList ++ []) σ1)) :
  T69 C Q 64 [vO 5 o0, vI x1, vI x2, vI x3, vI x4, vI x5] [] (I, [p0, p1, p2, p3, vO 3 g4, p5, p6, p7, p8, p9], A) := j2_T.go hC [0, 4, 12, 13, 15, 17, 27, 29, 40, 42, 50, 52, 60, 64, 68, 70] 400 h
set_option maxRecDepth 100000 in
theorem b69_68 {C : j2_C} (hC : j2_up1 C) {Q : j2_P} {o0 : Nat} {x1 : Int32} {x2 : Int32} {x3 : Int32} {x4 : Int32} {x5 : Int32} {xs0 : Int32} {p0 : j2_W} {p1 : j2_W} {p2 : j2_W} {p3 : j2_W} {g4 : Nat} {p5 : j2_W} {p6 : j2_W} {p7 : j2_W} {p8 : j2_W} {p9 : j2_W} {I : Nat → Nat → Int32} {A : Nat → Nat → Nat → Int32}
  (h : T69 C Q 70 [vO 5 o0, vI x1, vI x2, vI x3, vI x4, vI xs0] [] (I, [p0, p1, p2, p3, vO 3 g4, p5, p6, p7, p8, p9], A)) :
  T69 C Q 68 [vO 5 o0, vI x1, vI x2, vI x3, vI x4, vI x5] [vI xs0] (I, [p0, p1, p2, p3, vO 3 g4, p5, p6, p7, p8, p9], A) := j2_T.go hC [0, 4, 12, 13, 15, 17, 27, 29, 40, 42, 50, 52, 60, 64, 68, 70] 400 h
set_option maxRecDepth 100000 in
theorem b69_70 {C : j2_C} (hC : j2_up1 C) {Q : j2_P} {o0 : Nat} {x1 : Int32} {x2 : Int32} {x3 : Int32} {x4 : Int32} {x5 : Int32} {p0 : j2_W} {p1 : j2_W} {p2 : j2_W} {p3 : j2_W} {g4 : Nat} {p5 : j2_W} {p6 : j2_W} {p7 : j2_W} {p8 : j2_W} {p9 : j2_W} {I : Nat → Nat → Int32} {A : Nat → Nat → Nat → Int32}
  (h : (vp_in x2 9600 ∧ (vp_in x2 9600 ∧ (vp_in x2 9600 ∧ (vp_in x2 9600 ∧ ((none : Option FieldType) = none ∧ Q none (I, [p0, p1, p2, p3, vO 3 g4, p5, p6, p7, p8, p9], (j2_ast (j2_ast (j2_ast (j2_ast A 1 (g4 + 17) x2.toNatClampNeg x3) 2 (g4 + 17) x2.toNatClampNeg x4) 3 (g4 + 17) x2.toNatClampNeg x5) 4 (g4 + 17) x2.toNatClampNeg (-1 : Int32))))))))) :
  T69 C Q 70 [vO 5 o0, vI x1, vI x2, vI x3, vI x4, vI x5] [] (I, [p0, p1, p2, p3, vO 3 g4, p5, p6, p7, p8, p9], A) := j2_T.go hC [0, 4, 12, 13, 15, 17, 27, 29, 40, 42, 50, 52, 60, 64, 68, 70] 400 h
abbrev T70 (C : j2_C) (Q : j2_P) : j2_K := j2_T C jc_X5_nextNumber (some .int) Q
set_option maxRecDepth 100000 in
theorem b70_0 {C : j2_C} (hC : j2_up1 C) {Q : j2_P} {o0 : Nat} {σ : j2_S}
  (h : T70 C Q 4 [vO 5 o0, vI (nI 0), vI (nI 0)] [] σ) :
  T70 C Q 0 [vO 5 o0, vM 2, vM 2] [] σ := j2_T.go hC [0, 4, 14] 400 h
set_option maxRecDepth 100000 in
theorem b70_4 {C : j2_C} (hC : j2_up1 C) {Q : j2_P} {o0 : Nat} {x1 : Int32} {x2 : Int32} {σ : j2_S}
  (h : (((nI 4) ≤ x2 → (True ∧ Q (some (vI x1)) σ)) ∧ (¬ ((nI 4) ≤ x2) → C 66 [vO 5 o0, vI (nI 0), vI (nI 255)] σ (fun r σ1 => T70 C Q 14 [vO 5 o0, vI x1, vI x2] (r.toList ++ [vI (x1 <<< ((nI 8) &&& 31))]) σ1)))) :
  T70 C Q 4 [vO 5 o0, vI x1, vI x2] [] σ := j2_T.go hC [0, 4, 14] 400 h
set_option maxRecDepth 100000 in
theorem b70_14 {C : j2_C} (hC : j2_up1 C) {Q : j2_P} {o0 : Nat} {x1 : Int32} {x2 : Int32} {xs0 : Int32} {xs1 : Int32} {σ : j2_S}
  (h : T70 C Q 4 [vO 5 o0, vI (xs1 ||| xs0), vI (x2 + (nI 1))] [] σ) :
  T70 C Q 14 [vO 5 o0, vI x1, vI x2] [vI xs0, vI xs1] σ := j2_T.go hC [0, 4, 14] 400 h
abbrev T71 (C : j2_C) (Q : j2_P) : j2_K := j2_T C jc_X5_noteTelling none Q
set_option maxRecDepth 100000 in
theorem b71_0 {C : j2_C} (hC : j2_up1 C) {Q : j2_P} {o0 : Nat} {x1 : Int32} {σ : j2_S}
  (h : (((nI 4000) ≤ (σ.1 5007 o0) → ((none : Option FieldType) = none ∧ Q none σ)) ∧ (¬ ((nI 4000) ≤ (σ.1 5007 o0)) → (vp_in (σ.1 5007 o0) 4000 ∧ (vp_in (σ.1 5007 o0) 4000 ∧ ((none : Option FieldType) = none ∧ Q none ((j2_up σ.1 5007 o0 ((σ.1 5007 o0) + (nI 1))), σ.2.1, (j2_ast (j2_ast σ.2.2 5005 o0 (σ.1 5007 o0).toNatClampNeg x1) 5006 o0 (σ.1 5007 o0).toNatClampNeg (σ.1 5002 o0))))))))) :
  T71 C Q 0 [vO 5 o0, vI x1] [] σ := j2_T.go hC [0] 400 h
abbrev T72 (C : j2_C) (Q : j2_P) : j2_K := j2_T C jc_X5_agrees (some .boolean) Q
set_option maxRecDepth 100000 in
theorem b72_0 {C : j2_C} (hC : j2_up1 C) {Q : j2_P} {o0 : Nat} {x1 : Int32} {x2 : Int32} {x3 : Int32} {p0 : j2_W} {p1 : j2_W} {p2 : j2_W} {p3 : j2_W} {g4 : Nat} {p5 : j2_W} {p6 : j2_W} {p7 : j2_W} {p8 : j2_W} {p9 : j2_W} {I : Nat → Nat → Int32} {A : Nat → Nat → Nat → Int32}
  (h : (vp_in x1 27 ∧ ((¬ ((jt_ro 0).2 x1.toNatClampNeg) = (nI 5) → C 43 [vO 3 g4, vI x2, vI x3] (I, [p0, p1, p2, p3, vO 3 g4, p5, p6, p7, p8, p9], A) (fun r σ1 => T72 C Q 41 [vO 5 o0, vI x1, vI x2, vI x3, vM 2] (r.toList ++ []) σ1)) ∧ (¬ (¬ ((jt_ro 0).2 x1.toNatClampNeg) = (nI 5)) → ((x1 = (nI 18) → T72 C Q 11 [vO 5 o0, vI x1, vI x2, vI x3, vM 2] [] (I, [p0, p1, p2, p3, vO 3 g4, p5, p6, p7, p8, p9], A)) ∧ (¬ (x1 = (nI 18)) → ((¬ x1 = (nI 19) → T72 C Q 14 [vO 5 o0, vI x1, vI x2, vI x3, vM 2] [vI (nI 0)] (I, [p0, p1, p2, p3, vO 3 g4, p5, p6, p7, p8, p9], A)) ∧ (¬ (¬ x1 = (nI 19)) → T72 C Q 11 [vO 5 o0, vI x1, vI x2, vI x3, vM 2] [] (I, [p0, p1, p2, p3, vO 3 g4, p5, p6, p7, p8, p9], A))))))))) :
  T72 C Q 0 [vO 5 o0, vI x1, vI x2, vI x3, vM 2] [] (I, [p0, p1, p2, p3, vO 3 g4, p5, p6, p7, p8, p9], A) := j2_T.go hC [0, 11, 14, 20, 41, 57] 400 h
set_option maxRecDepth 100000 in
theorem b72_11 {C : j2_C} (hC : j2_up1 C) {Q : j2_P} {o0 : Nat} {x1 : Int32} {x2 : Int32} {x3 : Int32} {p0 : j2_W} {p1 : j2_W} {p2 : j2_W} {p3 : j2_W} {g4 : Nat} {p5 : j2_W} {p6 : j2_W} {p7 : j2_W} {p8 : j2_W} {p9 : j2_W} {I : Nat → Nat → Int32} {A : Nat → Nat → Nat → Int32}
  (h : T72 C Q 14 [vO 5 o0, vI x1, vI x2, vI x3, vM 2] [vI (nI 1)] (I, [p0, p1, p2, p3, vO 3 g4, p5, p6, p7, p8, p9], A)) :
  T72 C Q 11 [vO 5 o0, vI x1, vI x2, vI x3, vM 2] [] (I, [p0, p1, p2, p3, vO 3 g4, p5, p6, p7, p8, p9], A) := j2_T.go hC [0, 11, 14, 20, 41, 57] 400 h
set_option maxRecDepth 100000 in
theorem b72_14 {C : j2_C} (hC : j2_up1 C) {Q : j2_P} {o0 : Nat} {x1 : Int32} {x2 : Int32} {x3 : Int32} {xs0 : Int32} {p0 : j2_W} {p1 : j2_W} {p2 : j2_W} {p3 : j2_W} {g4 : Nat} {p5 : j2_W} {p6 : j2_W} {p7 : j2_W} {p8 : j2_W} {p9 : j2_W} {I : Nat → Nat → Int32} {A : Nat → Nat → Nat → Int32}
  (h : C 42 [vO 3 g4, vI x2, vI x3] (I, [p0, p1, p2, p3, vO 3 g4, p5, p6, p7, p8, p9], A) (fun r σ1 => T72 C Q 20 [vO 5 o0, vI x1, vI x2, vI x3, vI xs0] (r.toList ++ []) σ1)) :
  T72 C Q 14 [vO 5 o0, vI x1, vI x2, vI x3, vM 2] [vI xs0] (I, [p0, p1, p2, p3, vO 3 g4, p5, p6, p7, p8, p9], A) := j2_T.go hC [0, 11, 14, 20, 41, 57] 400 h
set_option maxRecDepth 100000 in
theorem b72_20 {C : j2_C} (hC : j2_up1 C) {Q : j2_P} {o0 : Nat} {x1 : Int32} {x2 : Int32} {x3 : Int32} {x4 : Int32} {xs0 : Int32} {p0 : j2_W} {p1 : j2_W} {p2 : j2_W} {p3 : j2_W} {g4 : Nat} {p5 : j2_W} {p6 : j2_W} {p7 : j2_W} {p8 : j2_W} {p9 : j2_W} {I : Nat → Nat → Int32} {A : Nat → Nat → Nat → Int32}
  (h : ((xs0 = 0 → (((nI 0) = 0 ∨ (nI 0) = 1) ∧ Q (some (vI (nI 0))) (I, [p0, p1, p2, p3, vO 3 g4, p5, p6, p7, p8, p9], A))) ∧ (¬ (xs0 = 0) → (vp_in ((x2 * (nI 6)) + x3) 60 ∧ ((¬ (A 3010 g4 ((x2 * (nI 6)) + x3).toNatClampNeg) = x4 → (((nI 0) = 0 ∨ (nI 0) = 1) ∧ Q (some (vI (nI 0))) (I, [p0, p1, p2, p3, vO 3 g4, p5, p6, p7, p8, p9], A))) ∧ (¬ (¬ (A 3010 g4 ((x2 * (nI 6)) + x3).toNatClampNeg) = x4) → (((nI 1) = 0 ∨ (nI 1) = 1) ∧ Q (some (vI (nI 1))) (I, [p0, p1, p2, p3, vO 3 g4, p5, p6, p7, p8, p9], A)))))))) :
  T72 C Q 20 [vO 5 o0, vI x1, vI x2, vI x3, vI x4] [vI xs0] (I, [p0, p1, p2, p3, vO 3 g4, p5, p6, p7, p8, p9], A) := j2_T.go hC [0, 11, 14, 20, 41, 57] 400 h
set_option maxRecDepth 100000 in
theorem b72_41 {C : j2_C} (hC : j2_up1 C) {Q : j2_P} {o0 : Nat} {x1 : Int32} {x2 : Int32} {x3 : Int32} {xs0 : Int32} {p0 : j2_W} {p1 : j2_W} {p2 : j2_W} {p3 : j2_W} {g4 : Nat} {p5 : j2_W} {p6 : j2_W} {p7 : j2_W} {p8 : j2_W} {p9 : j2_W} {I : Nat → Nat → Int32} {A : Nat → Nat → Nat → Int32}
  (h : ((xs0 = 0 → (((nI 0) = 0 ∨ (nI 0) = 1) ∧ Q (some (vI (nI 0))) (I, [p0, p1, p2, p3, vO 3 g4, p5, p6, p7, p8, p9], A))) ∧ (¬ (xs0 = 0) → ((x1 = (nI 20) → T72 C Q 57 [vO 5 o0, vI x1, vI x2, vI x3, vM 2] [] (I, [p0, p1, p2, p3, vO 3 g4, p5, p6, p7, p8, p9], A)) ∧ (¬ (x1 = (nI 20)) → (vp_in x2 10 ∧ (vp_in ((A 3007 g4 x2.toNatClampNeg) + x3) 80 ∧ ((¬ (A 3013 g4 ((A 3007 g4 x2.toNatClampNeg) + x3).toNatClampNeg) = 0 → (((nI 0) = 0 ∨ (nI 0) = 1) ∧ Q (some (vI (nI 0))) (I, [p0, p1, p2, p3, vO 3 g4, p5, p6, p7, p8, p9], A))) ∧ (¬ (¬ (A 3013 g4 ((A 3007 g4 x2.toNatClampNeg) + x3).toNatClampNeg) = 0) → T72 C Q 57 [vO 5 o0, vI x1, vI x2, vI x3, vM 2] [] (I, [p0, p1, p2, p3, vO 3 g4, p5, p6, p7, p8, p9], A)))))))))) :
  T72 C Q 41 [vO 5 o0, vI x1, vI x2, vI x3, vM 2] [vI xs0] (I, [p0, p1, p2, p3, vO 3 g4, p5, p6, p7, p8, p9], A) := j2_T.go hC [0, 11, 14, 20, 41, 57] 400 h
set_option maxRecDepth 100000 in
theorem b72_57 {C : j2_C} (hC : j2_up1 C) {Q : j2_P} {o0 : Nat} {x1 : Int32} {x2 : Int32} {x3 : Int32} {p0 : j2_W} {p1 : j2_W} {p2 : j2_W} {p3 : j2_W} {g4 : Nat} {p5 : j2_W} {p6 : j2_W} {p7 : j2_W} {p8 : j2_W} {p9 : j2_W} {I : Nat → Nat → Int32} {A : Nat → Nat → Nat → Int32}
  (h : (((nI 1) = 0 ∨ (nI 1) = 1) ∧ Q (some (vI (nI 1))) (I, [p0, p1, p2, p3, vO 3 g4, p5, p6, p7, p8, p9], A))) :
  T72 C Q 57 [vO 5 o0, vI x1, vI x2, vI x3, vM 2] [] (I, [p0, p1, p2, p3, vO 3 g4, p5, p6, p7, p8, p9], A) := j2_T.go hC [0, 11, 14, 20, 41, 57] 400 h
abbrev T73 (C : j2_C) (Q : j2_P) : j2_K := j2_T C jc_X5_findClash (some .boolean) Q
set_option maxRecDepth 100000 in
theorem b73_0 {C : j2_C} (hC : j2_up1 C) {Q : j2_P} {o0 : Nat} {p0 : j2_W} {p1 : j2_W} {p2 : j2_W} {p3 : j2_W} {g4 : Nat} {p5 : j2_W} {p6 : j2_W} {p7 : j2_W} {p8 : j2_W} {p9 : j2_W} {I : Nat → Nat → Int32} {A : Nat → Nat → Nat → Int32}
  (h : T73 C Q 2 [vO 5 o0, vI (nI 0), vM 2] [] (I, [p0, p1, p2, p3, vO 3 g4, p5, p6, p7, p8, p9], A)) :
  T73 C Q 0 [vO 5 o0, vM 2, vM 2] [] (I, [p0, p1, p2, p3, vO 3 g4, p5, p6, p7, p8, p9], A) := j2_T.go hC [0, 2, 9, 20, 26, 31, 42, 47, 48, 53] 400 h
set_option maxRecDepth 100000 in
theorem b73_2 {C : j2_C} (hC : j2_up1 C) {Q : j2_P} {o0 : Nat} {x1 : Int32} {w2 : j2_W} {p0 : j2_W} {p1 : j2_W} {p2 : j2_W} {p3 : j2_W} {g4 : Nat} {p5 : j2_W} {p6 : j2_W} {p7 : j2_W} {p8 : j2_W} {p9 : j2_W} {I : Nat → Nat → Int32} {A : Nat → Nat → Nat → Int32}
  (h : (((I 3000 g4) ≤ x1 → (((nI 0) = 0 ∨ (nI 0) = 1) ∧ Q (some (vI (nI 0))) (I, [p0, p1, p2, p3, vO 3 g4, p5, p6, p7, p8, p9], A))) ∧ (¬ ((I 3000 g4) ≤ x1) → T73 C Q 9 [vO 5 o0, vI x1, vI (nI 0)] [] (I, [p0, p1, p2, p3, vO 3 g4, p5, p6, p7, p8, p9], A)))) :
  T73 C Q 2 [vO 5 o0, vI x1, w2] [] (I, [p0, p1, p2, p3, vO 3 g4, p5, p6, p7, p8, p9], A) := j2_T.go hC [0, 2, 9, 20, 26, 31, 42, 47, 48, 53] 400 h
set_option maxRecDepth 100000 in
theorem b73_9 {C : j2_C} (hC : j2_up1 C) {Q : j2_P} {o0 : Nat} {x1 : Int32} {x2 : Int32} {p0 : j2_W} {p1 : j2_W} {p2 : j2_W} {p3 : j2_W} {g4 : Nat} {p5 : j2_W} {p6 : j2_W} {p7 : j2_W} {p8 : j2_W} {p9 : j2_W} {I : Nat → Nat → Int32} {A : Nat → Nat → Nat → Int32}
  (h : (vp_in x1 10 ∧ (((A 3005 g4 x1.toNatClampNeg) ≤ x2 → T73 C Q 31 [vO 5 o0, vI x1, vI (nI 0)] [] (I, [p0, p1, p2, p3, vO 3 g4, p5, p6, p7, p8, p9], A)) ∧ (¬ ((A 3005 g4 x1.toNatClampNeg) ≤ x2) → C 75 [vO 5 o0, vI x1, vI x2] (I, [p0, p1, p2, p3, vO 3 g4, p5, p6, p7, p8, p9], A) (fun r σ1 => T73 C Q 20 [vO 5 o0, vI x1, vI x2] (r.toList ++ []) σ1))))) :
  T73 C Q 9 [vO 5 o0, vI x1, vI x2] [] (I, [p0, p1, p2, p3, vO 3 g4, p5, p6, p7, p8, p9], A) := j2_T.go hC [0, 2, 9, 20, 26, 31, 42, 47, 48, 53] 400 h
set_option maxRecDepth 100000 in
theorem b73_20 {C : j2_C} (hC : j2_up1 C) {Q : j2_P} {o0 : Nat} {x1 : Int32} {x2 : Int32} {xs0 : Int32} {p0 : j2_W} {p1 : j2_W} {p2 : j2_W} {p3 : j2_W} {g4 : Nat} {p5 : j2_W} {p6 : j2_W} {p7 : j2_W} {p8 : j2_W} {p9 : j2_W} {I : Nat → Nat → Int32} {A : Nat → Nat → Nat → Int32}
  (h : ((xs0 = 0 → T73 C Q 9 [vO 5 o0, vI x1, vI (x2 + (nI 1))] [] (I, [p0, p1, p2, p3, vO 3 g4, p5, p6, p7, p8, p9], A)) ∧ (¬ (xs0 = 0) → C 74 [vO 5 o0, vI x1, vI x2, vI (nI 0)] (I, [p0, p1, p2, p3, vO 3 g4, p5, p6, p7, p8, p9], A) (fun r σ1 => T73 C Q 26 [vO 5 o0, vI x1, vI x2] (r.toList ++ []) σ1)))) :
  T73 C Q 20 [vO 5 o0, vI x1, vI x2] [vI xs0] (I, [p0, p1, p2, p3, vO 3 g4, p5, p6, p7, p8, p9], A) := j2_T.go hC [0, 2, 9, 20, 26, 31, 42, 47, 48, 53] 400 h
set_option maxRecDepth 100000 in
theorem b73_26 {C : j2_C} (hC : j2_up1 C) {Q : j2_P} {o0 : Nat} {x1 : Int32} {x2 : Int32} {xs0 : Int32} {p0 : j2_W} {p1 : j2_W} {p2 : j2_W} {p3 : j2_W} {g4 : Nat} {p5 : j2_W} {p6 : j2_W} {p7 : j2_W} {p8 : j2_W} {p9 : j2_W} {I : Nat → Nat → Int32} {A : Nat → Nat → Nat → Int32}
  (h : ((xs0 = 0 ∨ xs0 = 1) ∧ Q (some (vI xs0)) (I, [p0, p1, p2, p3, vO 3 g4, p5, p6, p7, p8, p9], A))) :
  T73 C Q 26 [vO 5 o0, vI x1, vI x2] [vI xs0] (I, [p0, p1, p2, p3, vO 3 g4, p5, p6, p7, p8, p9], A) := j2_T.go hC [0, 2, 9, 20, 26, 31, 42, 47, 48, 53] 400 h
set_option maxRecDepth 100000 in
theorem b73_31 {C : j2_C} (hC : j2_up1 C) {Q : j2_P} {o0 : Nat} {x1 : Int32} {x2 : Int32} {p0 : j2_W} {p1 : j2_W} {p2 : j2_W} {p3 : j2_W} {g4 : Nat} {p5 : j2_W} {p6 : j2_W} {p7 : j2_W} {p8 : j2_W} {p9 : j2_W} {I : Nat → Nat → Int32} {A : Nat → Nat → Nat → Int32}
  (h : (vp_in x1 10 ∧ (((A 3006 g4 x1.toNatClampNeg) ≤ x2 → T73 C Q 2 [vO 5 o0, vI (x1 + (nI 1)), vI x2] [] (I, [p0, p1, p2, p3, vO 3 g4, p5, p6, p7, p8, p9], A)) ∧ (¬ ((A 3006 g4 x1.toNatClampNeg) ≤ x2) → C 76 [vO 5 o0, vI x1, vI x2] (I, [p0, p1, p2, p3, vO 3 g4, p5, p6, p7, p8, p9], A) (fun r σ1 => T73 C Q 42 [vO 5 o0, vI x1, vI x2] (r.toList ++ []) σ1))))) :
  T73 C Q 31 [vO 5 o0, vI x1, vI x2] [] (I, [p0, p1, p2, p3, vO 3 g4, p5, p6, p7, p8, p9], A) := j2_T.go hC [0, 2, 9, 20, 26, 31, 42, 47, 48, 53] 400 h
set_option maxRecDepth 100000 in
theorem b73_42 {C : j2_C} (hC : j2_up1 C) {Q : j2_P} {o0 : Nat} {x1 : Int32} {x2 : Int32} {xs0 : Int32} {p0 : j2_W} {p1 : j2_W} {p2 : j2_W} {p3 : j2_W} {g4 : Nat} {p5 : j2_W} {p6 : j2_W} {p7 : j2_W} {p8 : j2_W} {p9 : j2_W} {I : Nat → Nat → Int32} {A : Nat → Nat → Nat → Int32}
  (h : ((¬ xs0 = 0 → T73 C Q 48 [vO 5 o0, vI x1, vI x2] [] (I, [p0, p1, p2, p3, vO 3 g4, p5, p6, p7, p8, p9], A)) ∧ (¬ (¬ xs0 = 0) → C 77 [vO 5 o0, vI x1, vI x2] (I, [p0, p1, p2, p3, vO 3 g4, p5, p6, p7, p8, p9], A) (fun r σ1 => T73 C Q 47 [vO 5 o0, vI x1, vI x2] (r.toList ++ []) σ1)))) :
  T73 C Q 42 [vO 5 o0, vI x1, vI x2] [vI xs0] (I, [p0, p1, p2, p3, vO 3 g4, p5, p6, p7, p8, p9], A) := j2_T.go hC [0, 2, 9, 20, 26, 31, 42, 47, 48, 53] 400 h
set_option maxRecDepth 100000 in
theorem b73_47 {C : j2_C} (hC : j2_up1 C) {Q : j2_P} {o0 : Nat} {x1 : Int32} {x2 : Int32} {xs0 : Int32} {p0 : j2_W} {p1 : j2_W} {p2 : j2_W} {p3 : j2_W} {g4 : Nat} {p5 : j2_W} {p6 : j2_W} {p7 : j2_W} {p8 : j2_W} {p9 : j2_W} {I : Nat → Nat → Int32} {A : Nat → Nat → Nat → Int32}
  (h : ((xs0 = 0 → T73 C Q 31 [vO 5 o0, vI x1, vI (x2 + (nI 1))] [] (I, [p0, p1, p2, p3, vO 3 g4, p5, p6, p7, p8, p9], A)) ∧ (¬ (xs0 = 0) → T73 C Q 48 [vO 5 o0, vI x1, vI x2] [] (I, [p0, p1, p2, p3, vO 3 g4, p5, p6, p7, p8, p9], A)))) :
  T73 C Q 47 [vO 5 o0, vI x1, vI x2] [vI xs0] (I, [p0, p1, p2, p3, vO 3 g4, p5, p6, p7, p8, p9], A) := j2_T.go hC [0, 2, 9, 20, 26, 31, 42, 47, 48, 53] 400 h
set_option maxRecDepth 100000 in
theorem b73_48 {C : j2_C} (hC : j2_up1 C) {Q : j2_P} {o0 : Nat} {x1 : Int32} {x2 : Int32} {p0 : j2_W} {p1 : j2_W} {p2 : j2_W} {p3 : j2_W} {g4 : Nat} {p5 : j2_W} {p6 : j2_W} {p7 : j2_W} {p8 : j2_W} {p9 : j2_W} {I : Nat → Nat → Int32} {A : Nat → Nat → Nat → Int32}
  (h : C 74 [vO 5 o0, vI x1, vI x2, vI (nI 1)] (I, [p0, p1, p2, p3, vO 3 g4, p5, p6, p7, p8, p9], A) (fun r σ1 => T73 C Q 53 [vO 5 o0, vI x1, vI x2] (r.toList ++ []) σ1)) :
  T73 C Q 48 [vO 5 o0, vI x1, vI x2] [] (I, [p0, p1, p2, p3, vO 3 g4, p5, p6, p7, p8, p9], A) := j2_T.go hC [0, 2, 9, 20, 26, 31, 42, 47, 48, 53] 400 h
set_option maxRecDepth 100000 in
theorem b73_53 {C : j2_C} (hC : j2_up1 C) {Q : j2_P} {o0 : Nat} {x1 : Int32} {x2 : Int32} {xs0 : Int32} {p0 : j2_W} {p1 : j2_W} {p2 : j2_W} {p3 : j2_W} {g4 : Nat} {p5 : j2_W} {p6 : j2_W} {p7 : j2_W} {p8 : j2_W} {p9 : j2_W} {I : Nat → Nat → Int32} {A : Nat → Nat → Nat → Int32}
  (h : ((xs0 = 0 ∨ xs0 = 1) ∧ Q (some (vI xs0)) (I, [p0, p1, p2, p3, vO 3 g4, p5, p6, p7, p8, p9], A))) :
  T73 C Q 53 [vO 5 o0, vI x1, vI x2] [vI xs0] (I, [p0, p1, p2, p3, vO 3 g4, p5, p6, p7, p8, p9], A) := j2_T.go hC [0, 2, 9, 20, 26, 31, 42, 47, 48, 53] 400 h
abbrev T74 (C : j2_C) (Q : j2_P) : j2_K := j2_T C jc_X5_clash (some .boolean) Q
set_option maxRecDepth 100000 in
theorem b74_0 {C : j2_C} (hC : j2_up1 C) {Q : j2_P} {o0 : Nat} {x1 : Int32} {x2 : Int32} {x3 : Int32} {σ : j2_S}
  (h : (((nI 1) = 0 ∨ (nI 1) = 1) ∧ Q (some (vI (nI 1))) ((j2_up (j2_up (j2_up σ.1 5008 o0 x1) 5009 o0 x2) 5010 o0 x3), σ.2.1, σ.2.2))) :
  T74 C Q 0 [vO 5 o0, vI x1, vI x2, vI x3] [] σ := j2_T.go hC [0] 400 h
abbrev T75 (C : j2_C) (Q : j2_P) : j2_K := j2_T C jc_X5_fieldClashes (some .boolean) Q
set_option maxRecDepth 100000 in
theorem b75_0 {C : j2_C} (hC : j2_up1 C) {Q : j2_P} {o0 : Nat} {x1 : Int32} {x2 : Int32} {p0 : j2_W} {p1 : j2_W} {p2 : j2_W} {p3 : j2_W} {g4 : Nat} {p5 : j2_W} {p6 : j2_W} {p7 : j2_W} {p8 : j2_W} {p9 : j2_W} {I : Nat → Nat → Int32} {A : Nat → Nat → Nat → Int32}
  (h : T75 C Q 6 [vO 5 o0, vI x1, vI x2, vI (x1 * (nI 6)), vI (nI 0)] [] (I, [p0, p1, p2, p3, vO 3 g4, p5, p6, p7, p8, p9], A)) :
  T75 C Q 0 [vO 5 o0, vI x1, vI x2, vM 2, vM 2] [] (I, [p0, p1, p2, p3, vO 3 g4, p5, p6, p7, p8, p9], A) := j2_T.go hC [0, 6] 400 h
set_option maxRecDepth 100000 in
theorem b75_6 {C : j2_C} (hC : j2_up1 C) {Q : j2_P} {o0 : Nat} {x1 : Int32} {x2 : Int32} {x3 : Int32} {x4 : Int32} {p0 : j2_W} {p1 : j2_W} {p2 : j2_W} {p3 : j2_W} {g4 : Nat} {p5 : j2_W} {p6 : j2_W} {p7 : j2_W} {p8 : j2_W} {p9 : j2_W} {I : Nat → Nat → Int32} {A : Nat → Nat → Nat → Int32}
  (h : ((x2 ≤ x4 → (((nI 0) = 0 ∨ (nI 0) = 1) ∧ Q (some (vI (nI 0))) (I, [p0, p1, p2, p3, vO 3 g4, p5, p6, p7, p8, p9], A))) ∧ (¬ (x2 ≤ x4) → (vp_in (x3 + x4) 60 ∧ (vp_in (x3 + x2) 60 ∧ ((¬ (A 3008 g4 (x3 + x4).toNatClampNeg) = (A 3008 g4 (x3 + x2).toNatClampNeg) → T75 C Q 6 [vO 5 o0, vI x1, vI x2, vI x3, vI (x4 + (nI 1))] [] (I, [p0, p1, p2, p3, vO 3 g4, p5, p6, p7, p8, p9], A)) ∧ (¬ (¬ (A 3008 g4 (x3 + x4).toNatClampNeg) = (A 3008 g4 (x3 + x2).toNatClampNeg)) → (((nI 1) = 0 ∨ (nI 1) = 1) ∧ Q (some (vI (nI 1))) (I, [p0, p1, p2, p3, vO 3 g4, p5, p6, p7, p8, p9], A))))))))) :
  T75 C Q 6 [vO 5 o0, vI x1, vI x2, vI x3, vI x4] [] (I, [p0, p1, p2, p3, vO 3 g4, p5, p6, p7, p8, p9], A) := j2_T.go hC [0, 6] 400 h
abbrev T76 (C : j2_C) (Q : j2_P) : j2_K := j2_T C jc_X5_methodClashes (some .boolean) Q
set_option maxRecDepth 100000 in
theorem b76_0 {C : j2_C} (hC : j2_up1 C) {Q : j2_P} {o0 : Nat} {x1 : Int32} {x2 : Int32} {p0 : j2_W} {p1 : j2_W} {p2 : j2_W} {p3 : j2_W} {g4 : Nat} {p5 : j2_W} {p6 : j2_W} {p7 : j2_W} {p8 : j2_W} {p9 : j2_W} {I : Nat → Nat → Int32} {A : Nat → Nat → Nat → Int32}
  (h : (vp_in x1 10 ∧ T76 C Q 8 [vO 5 o0, vI x1, vI x2, vI (A 3007 g4 x1.toNatClampNeg), vI (nI 0)] [] (I, [p0, p1, p2, p3, vO 3 g4, p5, p6, p7, p8, p9], A))) :
  T76 C Q 0 [vO 5 o0, vI x1, vI x2, vM 2, vM 2] [] (I, [p0, p1, p2, p3, vO 3 g4, p5, p6, p7, p8, p9], A) := j2_T.go hC [0, 8] 400 h
set_option maxRecDepth 100000 in
theorem b76_8 {C : j2_C} (hC : j2_up1 C) {Q : j2_P} {o0 : Nat} {x1 : Int32} {x2 : Int32} {x3 : Int32} {x4 : Int32} {p0 : j2_W} {p1 : j2_W} {p2 : j2_W} {p3 : j2_W} {g4 : Nat} {p5 : j2_W} {p6 : j2_W} {p7 : j2_W} {p8 : j2_W} {p9 : j2_W} {I : Nat → Nat → Int32} {A : Nat → Nat → Nat → Int32}
  (h : ((x2 ≤ x4 → (((nI 0) = 0 ∨ (nI 0) = 1) ∧ Q (some (vI (nI 0))) (I, [p0, p1, p2, p3, vO 3 g4, p5, p6, p7, p8, p9], A))) ∧ (¬ (x2 ≤ x4) → (vp_in (x3 + x4) 80 ∧ (vp_in (x3 + x2) 80 ∧ ((¬ (A 3012 g4 (x3 + x4).toNatClampNeg) = (A 3012 g4 (x3 + x2).toNatClampNeg) → T76 C Q 8 [vO 5 o0, vI x1, vI x2, vI x3, vI (x4 + (nI 1))] [] (I, [p0, p1, p2, p3, vO 3 g4, p5, p6, p7, p8, p9], A)) ∧ (¬ (¬ (A 3012 g4 (x3 + x4).toNatClampNeg) = (A 3012 g4 (x3 + x2).toNatClampNeg)) → (((nI 1) = 0 ∨ (nI 1) = 1) ∧ Q (some (vI (nI 1))) (I, [p0, p1, p2, p3, vO 3 g4, p5, p6, p7, p8, p9], A))))))))) :
  T76 C Q 8 [vO 5 o0, vI x1, vI x2, vI x3, vI x4] [] (I, [p0, p1, p2, p3, vO 3 g4, p5, p6, p7, p8, p9], A) := j2_T.go hC [0, 8] 400 h
abbrev T77 (C : j2_C) (Q : j2_P) : j2_K := j2_T C jc_X5_methodClashesAbove (some .boolean) Q
set_option maxRecDepth 100000 in
theorem b77_0 {C : j2_C} (hC : j2_up1 C) {Q : j2_P} {o0 : Nat} {x1 : Int32} {x2 : Int32} {p0 : j2_W} {p1 : j2_W} {p2 : j2_W} {p3 : j2_W} {g4 : Nat} {p5 : j2_W} {p6 : j2_W} {p7 : j2_W} {p8 : j2_W} {p9 : j2_W} {I : Nat → Nat → Int32} {A : Nat → Nat → Nat → Int32}
  (h : (vp_in x1 10 ∧ (vp_in x1 10 ∧ T77 C Q 16 [vO 5 o0, vI x1, vI x2, vI ((A 3007 g4 x1.toNatClampNeg) + x2), vI (A 3003 g4 x1.toNatClampNeg), vI (nI 0), vM 2] [] (I, [p0, p1, p2, p3, vO 3 g4, p5, p6, p7, p8, p9], A)))) :
  T77 C Q 0 [vO 5 o0, vI x1, vI x2, vM 2, vM 2, vM 2, vM 2] [] (I, [p0, p1, p2, p3, vO 3 g4, p5, p6, p7, p8, p9], A) := j2_T.go hC [0, 16, 30, 39, 42] 400 h
set_option maxRecDepth 100000 in
theorem b77_16 {C : j2_C} (hC : j2_up1 C) {Q : j2_P} {o0 : Nat} {x1 : Int32} {x2 : Int32} {x3 : Int32} {x4 : Int32} {x5 : Int32} {w6 : j2_W} {p0 : j2_W} {p1 : j2_W} {p2 : j2_W} {p3 : j2_W} {g4 : Nat} {p5 : j2_W} {p6 : j2_W} {p7 : j2_W} {p8 : j2_W} {p9 : j2_W} {I : Nat → Nat → Int32} {A : Nat → Nat → Nat → Int32}
  (h : (((nI 10) ≤ x5 → (((nI 0) = 0 ∨ (nI 0) = 1) ∧ Q (some (vI (nI 0))) (I, [p0, p1, p2, p3, vO 3 g4, p5, p6, p7, p8, p9], A))) ∧ (¬ ((nI 10) ≤ x5) → ((x4 < 0 → (((nI 0) = 0 ∨ (nI 0) = 1) ∧ Q (some (vI (nI 0))) (I, [p0, p1, p2, p3, vO 3 g4, p5, p6, p7, p8, p9], A))) ∧ (¬ (x4 < 0) → (vp_in x3 80 ∧ C 50 [vO 3 g4, vI x4, vI (A 3012 g4 x3.toNatClampNeg)] (I, [p0, p1, p2, p3, vO 3 g4, p5, p6, p7, p8, p9], A) (fun r σ1 => T77 C Q 30 [vO 5 o0, vI x1, vI x2, vI x3, vI x4, vI x5, w6] (r.toList ++ []) σ1))))))) :
  T77 C Q 16 [vO 5 o0, vI x1, vI x2, vI x3, vI x4, vI x5, w6] [] (I, [p0, p1, p2, p3, vO 3 g4, p5, p6, p7, p8, p9], A) := j2_T.go hC [0, 16, 30, 39, 42] 400 h
set_option maxRecDepth 100000 in
theorem b77_30 {C : j2_C} (hC : j2_up1 C) {Q : j2_P} {o0 : Nat} {x1 : Int32} {x2 : Int32} {x3 : Int32} {x4 : Int32} {x5 : Int32} {w6 : j2_W} {xs0 : Int32} {p0 : j2_W} {p1 : j2_W} {p2 : j2_W} {p3 : j2_W} {g4 : Nat} {p5 : j2_W} {p6 : j2_W} {p7 : j2_W} {p8 : j2_W} {p9 : j2_W} {I : Nat → Nat → Int32} {A : Nat → Nat → Nat → Int32}
  (h : ((xs0 = (-1 : Int32) → T77 C Q 42 [vO 5 o0, vI x1, vI x2, vI x3, vI x4, vI x5, vI xs0] [] (I, [p0, p1, p2, p3, vO 3 g4, p5, p6, p7, p8, p9], A)) ∧ (¬ (xs0 = (-1 : Int32)) → C 55 [vO 3 g4, vI x3, vI xs0] (I, [p0, p1, p2, p3, vO 3 g4, p5, p6, p7, p8, p9], A) (fun r σ1 => T77 C Q 39 [vO 5 o0, vI x1, vI x2, vI x3, vI x4, vI x5, vI xs0] (r.toList ++ []) σ1)))) :
  T77 C Q 30 [vO 5 o0, vI x1, vI x2, vI x3, vI x4, vI x5, w6] [vI xs0] (I, [p0, p1, p2, p3, vO 3 g4, p5, p6, p7, p8, p9], A) := j2_T.go hC [0, 16, 30, 39, 42] 400 h
set_option maxRecDepth 100000 in
theorem b77_39 {C : j2_C} (hC : j2_up1 C) {Q : j2_P} {o0 : Nat} {x1 : Int32} {x2 : Int32} {x3 : Int32} {x4 : Int32} {x5 : Int32} {x6 : Int32} {xs0 : Int32} {p0 : j2_W} {p1 : j2_W} {p2 : j2_W} {p3 : j2_W} {g4 : Nat} {p5 : j2_W} {p6 : j2_W} {p7 : j2_W} {p8 : j2_W} {p9 : j2_W} {I : Nat → Nat → Int32} {A : Nat → Nat → Nat → Int32}
  (h : ((¬ xs0 = 0 → T77 C Q 42 [vO 5 o0, vI x1, vI x2, vI x3, vI x4, vI x5, vI x6] [] (I, [p0, p1, p2, p3, vO 3 g4, p5, p6, p7, p8, p9], A)) ∧ (¬ (¬ xs0 = 0) → (((nI 1) = 0 ∨ (nI 1) = 1) ∧ Q (some (vI (nI 1))) (I, [p0, p1, p2, p3, vO 3 g4, p5, p6, p7, p8, p9], A))))) :
  T77 C Q 39 [vO 5 o0, vI x1, vI x2, vI x3, vI x4, vI x5, vI x6] [vI xs0] (I, [p0, p1, p2, p3, vO 3 g4, p5, p6, p7, p8, p9], A) := j2_T.go hC [0, 16, 30, 39, 42] 400 h
set_option maxRecDepth 100000 in
theorem b77_42 {C : j2_C} (hC : j2_up1 C) {Q : j2_P} {o0 : Nat} {x1 : Int32} {x2 : Int32} {x3 : Int32} {x4 : Int32} {x5 : Int32} {x6 : Int32} {p0 : j2_W} {p1 : j2_W} {p2 : j2_W} {p3 : j2_W} {g4 : Nat} {p5 : j2_W} {p6 : j2_W} {p7 : j2_W} {p8 : j2_W} {p9 : j2_W} {I : Nat → Nat → Int32} {A : Nat → Nat → Nat → Int32}
  (h : (vp_in x4 10 ∧ T77 C Q 16 [vO 5 o0, vI x1, vI x2, vI x3, vI (A 3003 g4 x4.toNatClampNeg), vI (x5 + (nI 1)), vI x6] [] (I, [p0, p1, p2, p3, vO 3 g4, p5, p6, p7, p8, p9], A))) :
  T77 C Q 42 [vO 5 o0, vI x1, vI x2, vI x3, vI x4, vI x5, vI x6] [] (I, [p0, p1, p2, p3, vO 3 g4, p5, p6, p7, p8, p9], A) := j2_T.go hC [0, 16, 30, 39, 42] 400 h
abbrev T79 (C : j2_C) (Q : j2_P) : j2_K := j2_T C jc_X6_makeSmall none Q
set_option maxRecDepth 100000 in
theorem b79_0 {C : j2_C} (hC : j2_up1 C) {Q : j2_P} {o0 : Nat} {o1 : Nat} {o2 : Nat} {o3 : Nat} {e3 : Nat} {x4 : Int32} {x5 : Int32} {p0 : j2_W} {p1 : j2_W} {p2 : j2_W} {p3 : j2_W} {p4 : j2_W} {g5 : Nat} {g6 : Nat} {p7 : j2_W} {p8 : j2_W} {p9 : j2_W} {I : Nat → Nat → Int32} {A : Nat → Nat → Nat → Int32}
  (h : C 248 [vA 6005 o0, vI (nI 0)] ((j2_up I 6014 o0 x5), [p0, p1, p2, p3, p4, vO 3 o1, vO 3 o2, p7, p8, p9], A) (fun r σ1 => T79 C Q 13 [vO 6 o0, vO 3 o1, vO 3 o2, vA e3 o3, vI x4, vI x5, vM 2] (r.toList ++ []) σ1)) :
  T79 C Q 0 [vO 6 o0, vO 3 o1, vO 3 o2, vA e3 o3, vI x4, vI x5, vM 2] [] (I, [p0, p1, p2, p3, p4, vO 3 g5, vO 3 g6, p7, p8, p9], A) := j2_T.go hC [0, 13, 23, 25, 47, 52, 55, 67, 69, 71, 73, 75, 77, 82] 400 h
set_option maxRecDepth 100000 in
theorem b79_13 {C : j2_C} (hC : j2_up1 C) {Q : j2_P} {o0 : Nat} {o1 : Nat} {o2 : Nat} {o3 : Nat} {e3 : Nat} {x4 : Int32} {x5 : Int32} {p0 : j2_W} {p1 : j2_W} {p2 : j2_W} {p3 : j2_W} {p4 : j2_W} {g5 : Nat} {g6 : Nat} {p7 : j2_W} {p8 : j2_W} {p9 : j2_W} {I : Nat → Nat → Int32} {A : Nat → Nat → Nat → Int32}
  (h : C 57 [vO 4 (o0 + 9), vO 3 g5, vO 0 (g5 + 17), vA e3 o3, vI x4] (I, [p0, p1, p2, p3, p4, vO 3 g5, vO 3 g6, p7, p8, p9], A) (fun r σ1 => T79 C Q 23 [vO 6 o0, vO 3 o1, vO 3 o2, vA e3 o3, vI x4, vI x5, vM 2] (r.toList ++ []) σ1)) :
  T79 C Q 13 [vO 6 o0, vO 3 o1, vO 3 o2, vA e3 o3, vI x4, vI x5, vM 2] [] (I, [p0, p1, p2, p3, p4, vO 3 g5, vO 3 g6, p7, p8, p9], A) := j2_T.go hC [0, 13, 23, 25, 47, 52, 55, 67, 69, 71, 73, 75, 77, 82] 400 h
set_option maxRecDepth 100000 in
theorem b79_23 {C : j2_C} (hC : j2_up1 C) {Q : j2_P} {o0 : Nat} {o1 : Nat} {o2 : Nat} {o3 : Nat} {e3 : Nat} {x4 : Int32} {x5 : Int32} {p0 : j2_W} {p1 : j2_W} {p2 : j2_W} {p3 : j2_W} {p4 : j2_W} {g5 : Nat} {g6 : Nat} {p7 : j2_W} {p8 : j2_W} {p9 : j2_W} {I : Nat → Nat → Int32} {A : Nat → Nat → Nat → Int32}
  (h : T79 C Q 25 [vO 6 o0, vO 3 o1, vO 3 o2, vA e3 o3, vI x4, vI x5, vI (nI 0)] [] (I, [p0, p1, p2, p3, p4, vO 3 g5, vO 3 g6, p7, p8, p9], A)) :
  T79 C Q 23 [vO 6 o0, vO 3 o1, vO 3 o2, vA e3 o3, vI x4, vI x5, vM 2] [] (I, [p0, p1, p2, p3, p4, vO 3 g5, vO 3 g6, p7, p8, p9], A) := j2_T.go hC [0, 13, 23, 25, 47, 52, 55, 67, 69, 71, 73, 75, 77, 82] 400 h
set_option maxRecDepth 100000 in
theorem b79_25 {C : j2_C} (hC : j2_up1 C) {Q : j2_P} {o0 : Nat} {o1 : Nat} {o2 : Nat} {o3 : Nat} {e3 : Nat} {x4 : Int32} {x5 : Int32} {x6 : Int32} {p0 : j2_W} {p1 : j2_W} {p2 : j2_W} {p3 : j2_W} {p4 : j2_W} {g5 : Nat} {g6 : Nat} {p7 : j2_W} {p8 : j2_W} {p9 : j2_W} {I : Nat → Nat → Int32} {A : Nat → Nat → Nat → Int32}
  (h : (((I 3001 g5) ≤ x6 → C 57 [vO 4 (o0 + 9), vO 3 g5, vO 0 (g6 + 17), vA e3 o3, vI x4] (I, [p0, p1, p2, p3, p4, vO 3 g5, vO 3 g6, p7, p8, p9], A) (fun r σ1 => T79 C Q 67 [vO 6 o0, vO 3 o1, vO 3 o2, vA e3 o3, vI x4, vI x5, vI x6] (r.toList ++ []) σ1)) ∧ (¬ ((I 3001 g5) ≤ x6) → (vp_in x6 80 ∧ (vp_in x6 80 ∧ ((¬ ((j2_ast A 0 (g6 + 17) x6.toNatClampNeg (nI 0)) 4000 (o0 + 9) x6.toNatClampNeg) = (nI 1) → T79 C Q 55 [vO 6 o0, vO 3 o1, vO 3 o2, vA e3 o3, vI x4, vI x5, vI x6] [] (I, [p0, p1, p2, p3, p4, vO 3 g5, vO 3 g6, p7, p8, p9], (j2_ast A 0 (g6 + 17) x6.toNatClampNeg (nI 0)))) ∧ (¬ (¬ ((j2_ast A 0 (g6 + 17) x6.toNatClampNeg (nI 0)) 4000 (o0 + 9) x6.toNatClampNeg) = (nI 1)) → C 80 [vO 6 o0, vI x6] (I, [p0, p1, p2, p3, p4, vO 3 g5, vO 3 g6, p7, p8, p9], (j2_ast A 0 (g6 + 17) x6.toNatClampNeg (nI 0))) (fun r σ1 => T79 C Q 47 [vO 6 o0, vO 3 o1, vO 3 o2, vA e3 o3, vI x4, vI x5, vI x6] (r.toList ++ []) σ1)))))))) :
  T79 C Q 25 [vO 6 o0, vO 3 o1, vO 3 o2, vA e3 o3, vI x4, vI x5, vI x6] [] (I, [p0, p1, p2, p3, p4, vO 3 g5, vO 3 g6, p7, p8, p9], A) := j2_T.go hC [0, 13, 23, 25, 47, 52, 55, 67, 69, 71, 73, 75, 77, 82] 400 h
set_option maxRecDepth 100000 in
theorem b79_47 {C : j2_C} (hC : j2_up1 C) {Q : j2_P} {o0 : Nat} {o1 : Nat} {o2 : Nat} {o3 : Nat} {e3 : Nat} {x4 : Int32} {x5 : Int32} {x6 : Int32} {p0 : j2_W} {p1 : j2_W} {p2 : j2_W} {p3 : j2_W} {p4 : j2_W} {g5 : Nat} {g6 : Nat} {p7 : j2_W} {p8 : j2_W} {p9 : j2_W} {I : Nat → Nat → Int32} {A : Nat → Nat → Nat → Int32}
  (h : C 109 [vO 7 (o0 + 13), vA 6005 o0] (I, [p0, p1, p2, p3, p4, vO 3 g5, vO 3 g6, p7, p8, p9], A) (fun r σ1 => T79 C Q 52 [vO 6 o0, vO 3 o1, vO 3 o2, vA e3 o3, vI x4, vI x5, vI x6] (r.toList ++ []) σ1)) :
  T79 C Q 47 [vO 6 o0, vO 3 o1, vO 3 o2, vA e3 o3, vI x4, vI x5, vI x6] [] (I, [p0, p1, p2, p3, p4, vO 3 g5, vO 3 g6, p7, p8, p9], A) := j2_T.go hC [0, 13, 23, 25, 47, 52, 55, 67, 69, 71, 73, 75, 77, 82] 400 h
set_option maxRecDepth 100000 in
theorem b79_52 {C : j2_C} (hC : j2_up1 C) {Q : j2_P} {o0 : Nat} {o1 : Nat} {o2 : Nat} {o3 : Nat} {e3 : Nat} {x4 : Int32} {x5 : Int32} {x6 : Int32} {p0 : j2_W} {p1 : j2_W} {p2 : j2_W} {p3 : j2_W} {p4 : j2_W} {g5 : Nat} {g6 : Nat} {p7 : j2_W} {p8 : j2_W} {p9 : j2_W} {I : Nat → Nat → Int32} {A : Nat → Nat → Nat → Int32}
  (h : C 87 [vO 6 o0, vI x6] (I, [p0, p1, p2, p3, p4, vO 3 g5, vO 3 g6, p7, p8, p9], A) (fun r σ1 => T79 C Q 55 [vO 6 o0, vO 3 o1, vO 3 o2, vA e3 o3, vI x4, vI x5, vI x6] (r.toList ++ []) σ1)) :
  T79 C Q 52 [vO 6 o0, vO 3 o1, vO 3 o2, vA e3 o3, vI x4, vI x5, vI x6] [] (I, [p0, p1, p2, p3, p4, vO 3 g5, vO 3 g6, p7, p8, p9], A) := j2_T.go hC [0, 13, 23, 25, 47, 52, 55, 67, 69, 71, 73, 75, 77, 82] 400 h
set_option maxRecDepth 100000 in
theorem b79_55 {C : j2_C} (hC : j2_up1 C) {Q : j2_P} {o0 : Nat} {o1 : Nat} {o2 : Nat} {o3 : Nat} {e3 : Nat} {x4 : Int32} {x5 : Int32} {x6 : Int32} {p0 : j2_W} {p1 : j2_W} {p2 : j2_W} {p3 : j2_W} {p4 : j2_W} {g5 : Nat} {g6 : Nat} {p7 : j2_W} {p8 : j2_W} {p9 : j2_W} {I : Nat → Nat → Int32} {A : Nat → Nat → Nat → Int32}
  (h : T79 C Q 25 [vO 6 o0, vO 3 o1, vO 3 o2, vA e3 o3, vI x4, vI x5, vI (x6 + (nI 1))] [] (I, [p0, p1, p2, p3, p4, vO 3 g5, vO 3 g6, p7, p8, p9], A)) :
  T79 C Q 55 [vO 6 o0, vO 3 o1, vO 3 o2, vA e3 o3, vI x4, vI x5, vI x6] [] (I, [p0, p1, p2, p3, p4, vO 3 g5, vO 3 g6, p7, p8, p9], A) := j2_T.go hC [0, 13, 23, 25, 47, 52, 55, 67, 69, 71, 73, 75, 77, 82] 400 h
set_option maxRecDepth 100000 in
theorem b79_67 {C : j2_C} (hC : j2_up1 C) {Q : j2_P} {o0 : Nat} {o1 : Nat} {o2 : Nat} {o3 : Nat} {e3 : Nat} {x4 : Int32} {x5 : Int32} {x6 : Int32} {p0 : j2_W} {p1 : j2_W} {p2 : j2_W} {p3 : j2_W} {p4 : j2_W} {g5 : Nat} {g6 : Nat} {p7 : j2_W} {p8 : j2_W} {p9 : j2_W} {I : Nat → Nat → Int32} {A : Nat → Nat → Nat → Int32}
  (h : C 88 [vO 6 o0] (I, [p0, p1, p2, p3, p4, vO 3 g5, vO 3 g6, p7, p8, p9], A) (fun r σ1 => T79 C Q 69 [vO 6 o0, vO 3 o1, vO 3 o2, vA e3 o3, vI x4, vI x5, vI x6] (r.toList ++ []) σ1)) :
  T79 C Q 67 [vO 6 o0, vO 3 o1, vO 3 o2, vA e3 o3, vI x4, vI x5, vI x6] [] (I, [p0, p1, p2, p3, p4, vO 3 g5, vO 3 g6, p7, p8, p9], A) := j2_T.go hC [0, 13, 23, 25, 47, 52, 55, 67, 69, 71, 73, 75, 77, 82] 400 h
set_option maxRecDepth 100000 in
theorem b79_69 {C : j2_C} (hC : j2_up1 C) {Q : j2_P} {o0 : Nat} {o1 : Nat} {o2 : Nat} {o3 : Nat} {e3 : Nat} {x4 : Int32} {x5 : Int32} {x6 : Int32} {p0 : j2_W} {p1 : j2_W} {p2 : j2_W} {p3 : j2_W} {p4 : j2_W} {g5 : Nat} {g6 : Nat} {p7 : j2_W} {p8 : j2_W} {p9 : j2_W} {I : Nat → Nat → Int32} {A : Nat → Nat → Nat → Int32}
  (h : C 93 [vO 6 o0] (I, [p0, p1, p2, p3, p4, vO 3 g5, vO 3 g6, p7, p8, p9], A) (fun r σ1 => T79 C Q 71 [vO 6 o0, vO 3 o1, vO 3 o2, vA e3 o3, vI x4, vI x5, vI x6] (r.toList ++ []) σ1)) :
  T79 C Q 69 [vO 6 o0, vO 3 o1, vO 3 o2, vA e3 o3, vI x4, vI x5, vI x6] [] (I, [p0, p1, p2, p3, p4, vO 3 g5, vO 3 g6, p7, p8, p9], A) := j2_T.go hC [0, 13, 23, 25, 47, 52, 55, 67, 69, 71, 73, 75, 77, 82] 400 h
set_option maxRecDepth 100000 in
theorem b79_71 {C : j2_C} (hC : j2_up1 C) {Q : j2_P} {o0 : Nat} {o1 : Nat} {o2 : Nat} {o3 : Nat} {e3 : Nat} {x4 : Int32} {x5 : Int32} {x6 : Int32} {p0 : j2_W} {p1 : j2_W} {p2 : j2_W} {p3 : j2_W} {p4 : j2_W} {g5 : Nat} {g6 : Nat} {p7 : j2_W} {p8 : j2_W} {p9 : j2_W} {I : Nat → Nat → Int32} {A : Nat → Nat → Nat → Int32}
  (h : C 94 [vO 6 o0] (I, [p0, p1, p2, p3, p4, vO 3 g5, vO 3 g6, p7, p8, p9], A) (fun r σ1 => T79 C Q 73 [vO 6 o0, vO 3 o1, vO 3 o2, vA e3 o3, vI x4, vI x5, vI x6] (r.toList ++ []) σ1)) :
  T79 C Q 71 [vO 6 o0, vO 3 o1, vO 3 o2, vA e3 o3, vI x4, vI x5, vI x6] [] (I, [p0, p1, p2, p3, p4, vO 3 g5, vO 3 g6, p7, p8, p9], A) := j2_T.go hC [0, 13, 23, 25, 47, 52, 55, 67, 69, 71, 73, 75, 77, 82] 400 h
set_option maxRecDepth 100000 in
theorem b79_73 {C : j2_C} (hC : j2_up1 C) {Q : j2_P} {o0 : Nat} {o1 : Nat} {o2 : Nat} {o3 : Nat} {e3 : Nat} {x4 : Int32} {x5 : Int32} {x6 : Int32} {p0 : j2_W} {p1 : j2_W} {p2 : j2_W} {p3 : j2_W} {p4 : j2_W} {g5 : Nat} {g6 : Nat} {p7 : j2_W} {p8 : j2_W} {p9 : j2_W} {I : Nat → Nat → Int32} {A : Nat → Nat → Nat → Int32}
  (h : C 98 [vO 6 o0] (I, [p0, p1, p2, p3, p4, vO 3 g5, vO 3 g6, p7, p8, p9], A) (fun r σ1 => T79 C Q 75 [vO 6 o0, vO 3 o1, vO 3 o2, vA e3 o3, vI x4, vI x5, vI x6] (r.toList ++ []) σ1)) :
  T79 C Q 73 [vO 6 o0, vO 3 o1, vO 3 o2, vA e3 o3, vI x4, vI x5, vI x6] [] (I, [p0, p1, p2, p3, p4, vO 3 g5, vO 3 g6, p7, p8, p9], A) := j2_T.go hC [0, 13, 23, 25, 47, 52, 55, 67, 69, 71, 73, 75, 77, 82] 400 h
set_option maxRecDepth 100000 in
theorem b79_75 {C : j2_C} (hC : j2_up1 C) {Q : j2_P} {o0 : Nat} {o1 : Nat} {o2 : Nat} {o3 : Nat} {e3 : Nat} {x4 : Int32} {x5 : Int32} {x6 : Int32} {p0 : j2_W} {p1 : j2_W} {p2 : j2_W} {p3 : j2_W} {p4 : j2_W} {g5 : Nat} {g6 : Nat} {p7 : j2_W} {p8 : j2_W} {p9 : j2_W} {I : Nat → Nat → Int32} {A : Nat → Nat → Nat → Int32}
  (h : C 102 [vO 6 o0] (I, [p0, p1, p2, p3, p4, vO 3 g5, vO 3 g6, p7, p8, p9], A) (fun r σ1 => T79 C Q 77 [vO 6 o0, vO 3 o1, vO 3 o2, vA e3 o3, vI x4, vI x5, vI x6] (r.toList ++ []) σ1)) :
  T79 C Q 75 [vO 6 o0, vO 3 o1, vO 3 o2, vA e3 o3, vI x4, vI x5, vI x6] [] (I, [p0, p1, p2, p3, p4, vO 3 g5, vO 3 g6, p7, p8, p9], A) := j2_T.go hC [0, 13, 23, 25, 47, 52, 55, 67, 69, 71, 73, 75, 77, 82] 400 h
set_option maxRecDepth 100000 in
theorem b79_77 {C : j2_C} (hC : j2_up1 C) {Q : j2_P} {o0 : Nat} {o1 : Nat} {o2 : Nat} {o3 : Nat} {e3 : Nat} {x4 : Int32} {x5 : Int32} {x6 : Int32} {p0 : j2_W} {p1 : j2_W} {p2 : j2_W} {p3 : j2_W} {p4 : j2_W} {g5 : Nat} {g6 : Nat} {p7 : j2_W} {p8 : j2_W} {p9 : j2_W} {I : Nat → Nat → Int32} {A : Nat → Nat → Nat → Int32}
  (h : C 122 [vO 8 (o0 + 7), vO 3 g6] (I, [p0, p1, p2, p3, p4, vO 3 g5, vO 3 g6, p7, p8, p9], A) (fun r σ1 => T79 C Q 82 [vO 6 o0, vO 3 o1, vO 3 o2, vA e3 o3, vI x4, vI x5, vI x6] (r.toList ++ []) σ1)) :
  T79 C Q 77 [vO 6 o0, vO 3 o1, vO 3 o2, vA e3 o3, vI x4, vI x5, vI x6] [] (I, [p0, p1, p2, p3, p4, vO 3 g5, vO 3 g6, p7, p8, p9], A) := j2_T.go hC [0, 13, 23, 25, 47, 52, 55, 67, 69, 71, 73, 75, 77, 82] 400 h
set_option maxRecDepth 100000 in
theorem b79_82 {C : j2_C} (hC : j2_up1 C) {Q : j2_P} {o0 : Nat} {o1 : Nat} {o2 : Nat} {o3 : Nat} {e3 : Nat} {x4 : Int32} {x5 : Int32} {x6 : Int32} {p0 : j2_W} {p1 : j2_W} {p2 : j2_W} {p3 : j2_W} {p4 : j2_W} {g5 : Nat} {g6 : Nat} {p7 : j2_W} {p8 : j2_W} {p9 : j2_W} {I : Nat → Nat → Int32} {A : Nat → Nat → Nat → Int32}
  (h : ((none : Option FieldType) = none ∧ Q none (I, [p0, p1, p2, p3, p4, vO 3 g5, vO 3 g6, p7, p8, p9], A))) :
  T79 C Q 82 [vO 6 o0, vO 3 o1, vO 3 o2, vA e3 o3, vI x4, vI x5, vI x6] [] (I, [p0, p1, p2, p3, p4, vO 3 g5, vO 3 g6, p7, p8, p9], A) := j2_T.go hC [0, 13, 23, 25, 47, 52, 55, 67, 69, 71, 73, 75, 77, 82] 400 h
abbrev T80 (C : j2_C) (Q : j2_P) : j2_K := j2_T C jc_X6_gather none Q
set_option maxRecDepth 100000 in
theorem b80_0 {C : j2_C} (hC : j2_up1 C) {Q : j2_P} {o0 : Nat} {x1 : Int32} {p0 : j2_W} {p1 : j2_W} {p2 : j2_W} {p3 : j2_W} {p4 : j2_W} {g5 : Nat} {p6 : j2_W} {p7 : j2_W} {p8 : j2_W} {p9 : j2_W} {I : Nat → Nat → Int32} {A : Nat → Nat → Nat → Int32}
  (h : (vp_in x1 80 ∧ C 106 [vO 7 (o0 + 13), vI (A 3017 g5 x1.toNatClampNeg)] (I, [p0, p1, p2, p3, p4, vO 3 g5, p6, p7, p8, p9], A) (fun r σ1 => T80 C Q 8 [vO 6 o0, vI x1, vM 2, vM 2, vM 2, vM 2, vM 2, vM 2, vM 2, vM 2, vM 2] (r.toList ++ []) σ1))) :
  T80 C Q 0 [vO 6 o0, vI x1, vM 2, vM 2, vM 2, vM 2, vM 2, vM 2, vM 2, vM 2, vM 2] [] (I, [p0, p1, p2, p3, p4, vO 3 g5, p6, p7, p8, p9], A) := j2_T.go hC [0, 8, 21, 71, 93, 110, 114, 117, 132, 133, 134, 162, 174, 181] 400 h
set_option maxRecDepth 100000 in
theorem b80_8 {C : j2_C} (hC : j2_up1 C) {Q : j2_P} {o0 : Nat} {x1 : Int32} {p0 : j2_W} {p1 : j2_W} {p2 : j2_W} {p3 : j2_W} {p4 : j2_W} {g5 : Nat} {p6 : j2_W} {p7 : j2_W} {p8 : j2_W} {p9 : j2_W} {I : Nat → Nat → Int32} {A : Nat → Nat → Nat → Int32}
  (h : (vp_in x1 80 ∧ T80 C Q 21 [vO 6 o0, vI x1, vI (x1 * (nI 120)), vI (A 0 (g5 + 17) x1.toNatClampNeg), vI (nI 0), vM 2, vM 2, vM 2, vM 2, vM 2, vM 2] [] (I, [p0, p1, p2, p3, p4, vO 3 g5, p6, p7, p8, p9], A))) :
  T80 C Q 8 [vO 6 o0, vI x1, vM 2, vM 2, vM 2, vM 2, vM 2, vM 2, vM 2, vM 2, vM 2] [] (I, [p0, p1, p2, p3, p4, vO 3 g5, p6, p7, p8, p9], A) := j2_T.go hC [0, 8, 21, 71, 93, 110, 114, 117, 132, 133, 134, 162, 174, 181] 400 h
set_option maxRecDepth 100000 in
theorem b80_21 {C : j2_C} (hC : j2_up1 C) {Q : j2_P} {o0 : Nat} {x1 : Int32} {x2 : Int32} {x3 : Int32} {x4 : Int32} {w5 : j2_W} {w6 : j2_W} {w7 : j2_W} {w8 : j2_W} {w9 : j2_W} {w10 : j2_W} {p0 : j2_W} {p1 : j2_W} {p2 : j2_W} {p3 : j2_W} {p4 : j2_W} {g5 : Nat} {p6 : j2_W} {p7 : j2_W} {p8 : j2_W} {p9 : j2_W} {I : Nat → Nat → Int32} {A : Nat → Nat → Nat → Int32}
  (h : (vp_in x1 80 ∧ (((A 0 (g5 + 17) x1.toNatClampNeg) ≤ x4 → C 108 [vO 7 (o0 + 13), vA 6009 o0] (I, [p0, p1, p2, p3, p4, vO 3 g5, p6, p7, p8, p9], A) (fun r σ1 => T80 C Q 181 [vO 6 o0, vI x1, vI x2, vI x3, vI x4, w5, w6, w7, w8, w9, w10] (r.toList ++ []) σ1)) ∧ (¬ ((A 0 (g5 + 17) x1.toNatClampNeg) ≤ x4) → (vp_in x4 120 ∧ (vp_in (x2 + x4) 9600 ∧ (vp_in (x2 + x4) 9600 ∧ (vp_in (x2 + x4) 9600 ∧ (vp_in (x2 + x4) 9600 ∧ ((((j2_ast A 6009 o0 x4.toNatClampNeg (I 7000 (o0 + 13))) 4 (g5 + 17) (x2 + x4).toNatClampNeg) < 0 → T80 C Q 71 [vO 6 o0, vI x1, vI x2, vI x3, vI x4, vI (x2 + x4), vI ((j2_ast A 6009 o0 x4.toNatClampNeg (I 7000 (o0 + 13))) 1 (g5 + 17) (x2 + x4).toNatClampNeg), vI ((j2_ast A 6009 o0 x4.toNatClampNeg (I 7000 (o0 + 13))) 2 (g5 + 17) (x2 + x4).toNatClampNeg), vI ((j2_ast A 6009 o0 x4.toNatClampNeg (I 7000 (o0 + 13))) 3 (g5 + 17) (x2 + x4).toNatClampNeg), w9, w10] [vI (nI 0)] (I, [p0, p1, p2, p3, p4, vO 3 g5, p6, p7, p8, p9], (j2_ast A 6009 o0 x4.toNatClampNeg (I 7000 (o0 + 13))))) ∧ (¬ (((j2_ast A 6009 o0 x4.toNatClampNeg (I 7000 (o0 + 13))) 4 (g5 + 17) (x2 + x4).toNatClampNeg) < 0) → T80 C Q 71 [vO 6 o0, vI x1, vI x2, vI x3, vI x4, vI (x2 + x4), vI ((j2_ast A 6009 o0 x4.toNatClampNeg (I 7000 (o0 + 13))) 1 (g5 + 17) (x2 + x4).toNatClampNeg), vI ((j2_ast A 6009 o0 x4.toNatClampNeg (I 7000 (o0 + 13))) 2 (g5 + 17) (x2 + x4).toNatClampNeg), vI ((j2_ast A 6009 o0 x4.toNatClampNeg (I 7000 (o0 + 13))) 3 (g5 + 17) (x2 + x4).toNatClampNeg), w9, w10] [vI (nI 1)] (I, [p0, p1, p2, p3, p4, vO 3 g5, p6, p7, p8, p9], (j2_ast A 6009 o0 x4.toNatClampNeg (I 7000 (o0 + 13))))))))))))))) :
  T80 C Q 21 [vO 6 o0, vI x1, vI x2, vI x3, vI x4, w5, w6, w7, w8, w9, w10] [] (I, [p0, p1, p2, p3, p4, vO 3 g5, p6, p7, p8, p9], A) := j2_T.go hC [0, 8, 21, 71, 93, 110, 114, 117, 132, 133, 134, 162, 174, 181] 400 h
set_option maxRecDepth 100000 in
theorem b80_71 {C : j2_C} (hC : j2_up1 C) {Q : j2_P} {o0 : Nat} {x1 : Int32} {x2 : Int32} {x3 : Int32} {x4 : Int32} {x5 : Int32} {x6 : Int32} {x7 : Int32} {x8 : Int32} {w9 : j2_W} {w10 : j2_W} {xs0 : Int32} {p0 : j2_W} {p1 : j2_W} {p2 : j2_W} {p3 : j2_W} {p4 : j2_W} {g5 : Nat} {p6 : j2_W} {p7 : j2_W} {p8 : j2_W} {p9 : j2_W} {I : Nat → Nat → Int32} {A : Nat → Nat → Nat → Int32}
  (h : ((xs0 = 0 → T80 C Q 117 [vO 6 o0, vI x1, vI x2, vI x3, vI x4, vI x5, vI x6, vI x7, vI x8, vI xs0, w10] [] (I, [p0, p1, p2, p3, p4, vO 3 g5, p6, p7, p8, p9], A)) ∧ (¬ (xs0 = 0) → ((¬ x6 = (nI 20) → T80 C Q 117 [vO 6 o0, vI x1, vI x2, vI x3, vI x4, vI x5, vI x6, vI x7, vI x8, vI xs0, w10] [] (I, [p0, p1, p2, p3, p4, vO 3 g5, p6, p7, p8, p9], A)) ∧ (¬ (¬ x6 = (nI 20)) → (vp_in x7 10 ∧ (vp_in x5 9600 ∧ C 82 [vO 6 o0, vI ((A 3007 g5 x7.toNatClampNeg) + x8), vI (A 4 (g5 + 17) x5.toNatClampNeg), vI x3] (I, [p0, p1, p2, p3, p4, vO 3 g5, p6, p7, p8, p9], A) (fun r σ1 => T80 C Q 93 [vO 6 o0, vI x1, vI x2, vI x3, vI x4, vI x5, vI x6, vI x7, vI x8, vI xs0, w10] (r.toList ++ []) σ1)))))))) :
  T80 C Q 71 [vO 6 o0, vI x1, vI x2, vI x3, vI x4, vI x5, vI x6, vI x7, vI x8, w9, w10] [vI xs0] (I, [p0, p1, p2, p3, p4, vO 3 g5, p6, p7, p8, p9], A) := j2_T.go hC [0, 8, 21, 71, 93, 110, 114, 117, 132, 133, 134, 162, 174, 181] 400 h
set_option maxRecDepth 100000 in
theorem b80_93 {C : j2_C} (hC : j2_up1 C) {Q : j2_P} {o0 : Nat} {x1 : Int32} {x2 : Int32} {x3 : Int32} {x4 : Int32} {x5 : Int32} {x6 : Int32} {x7 : Int32} {x8 : Int32} {x9 : Int32} {w10 : j2_W} {xs0 : Int32} {p0 : j2_W} {p1 : j2_W} {p2 : j2_W} {p3 : j2_W} {p4 : j2_W} {g5 : Nat} {p6 : j2_W} {p7 : j2_W} {p8 : j2_W} {p9 : j2_W} {I : Nat → Nat → Int32} {A : Nat → Nat → Nat → Int32}
  (h : ((xs0 = 0 → T80 C Q 117 [vO 6 o0, vI x1, vI x2, vI x3, vI x4, vI x5, vI x6, vI x7, vI x8, vI x9, w10] [] (I, [p0, p1, p2, p3, p4, vO 3 g5, p6, p7, p8, p9], A)) ∧ (¬ (xs0 = 0) → (vp_in x7 10 ∧ C 86 [vO 6 o0, vI ((A 3007 g5 x7.toNatClampNeg) + x8), vI ((x1 * (nI 1000)) + x4)] (I, [p0, p1, p2, p3, p4, vO 3 g5, p6, p7, p8, p9], A) (fun r σ1 => T80 C Q 110 [vO 6 o0, vI x1, vI x2, vI x3, vI x4, vI x5, vI x6, vI x7, vI x8, vI x9, vI ((A 3007 g5 x7.toNatClampNeg) + x8)] (r.toList ++ []) σ1))))) :
  T80 C Q 93 [vO 6 o0, vI x1, vI x2, vI x3, vI x4, vI x5, vI x6, vI x7, vI x8, vI x9, w10] [vI xs0] (I, [p0, p1, p2, p3, p4, vO 3 g5, p6, p7, p8, p9], A) := j2_T.go hC [0, 8, 21, 71, 93, 110, 114, 117, 132, 133, 134, 162, 174, 181] 400 h
set_option maxRecDepth 100000 in
theorem b80_110 {C : j2_C} (hC : j2_up1 C) {Q : j2_P} {o0 : Nat} {x1 : Int32} {x2 : Int32} {x3 : Int32} {x4 : Int32} {x5 : Int32} {x6 : Int32} {x7 : Int32} {x8 : Int32} {x9 : Int32} {x10 : Int32} {p0 : j2_W} {p1 : j2_W} {p2 : j2_W} {p3 : j2_W} {p4 : j2_W} {g5 : Nat} {p6 : j2_W} {p7 : j2_W} {p8 : j2_W} {p9 : j2_W} {I : Nat → Nat → Int32} {A : Nat → Nat → Nat → Int32}
  (h : C 81 [vO 6 o0, vI x10] (I, [p0, p1, p2, p3, p4, vO 3 g5, p6, p7, p8, p9], A) (fun r σ1 => T80 C Q 114 [vO 6 o0, vI x1, vI x2, vI x3, vI x4, vI x5, vI x6, vI x7, vI x8, vI x9, vI x10] (r.toList ++ [vI x3]) σ1)) :
  T80 C Q 110 [vO 6 o0, vI x1, vI x2, vI x3, vI x4, vI x5, vI x6, vI x7, vI x8, vI x9, vI x10] [] (I, [p0, p1, p2, p3, p4, vO 3 g5, p6, p7, p8, p9], A) := j2_T.go hC [0, 8, 21, 71, 93, 110, 114, 117, 132, 133, 134, 162, 174, 181] 400 h
set_option maxRecDepth 100000 in
theorem b80_114 {C : j2_C} (hC : j2_up1 C) {Q : j2_P} {o0 : Nat} {x1 : Int32} {x2 : Int32} {x3 : Int32} {x4 : Int32} {x5 : Int32} {x6 : Int32} {x7 : Int32} {x8 : Int32} {x9 : Int32} {x10 : Int32} {xs0 : Int32} {xs1 : Int32} {p0 : j2_W} {p1 : j2_W} {p2 : j2_W} {p3 : j2_W} {p4 : j2_W} {g5 : Nat} {p6 : j2_W} {p7 : j2_W} {p8 : j2_W} {p9 : j2_W} {I : Nat → Nat → Int32} {A : Nat → Nat → Nat → Int32}
  (h : T80 C Q 174 [vO 6 o0, vI x1, vI x2, vI (xs1 + xs0), vI x4, vI x5, vI x6, vI x7, vI x8, vI x9, vI x10] [] (I, [p0, p1, p2, p3, p4, vO 3 g5, p6, p7, p8, p9], A)) :
  T80 C Q 114 [vO 6 o0, vI x1, vI x2, vI x3, vI x4, vI x5, vI x6, vI x7, vI x8, vI x9, vI x10] [vI xs0, vI xs1] (I, [p0, p1, p2, p3, p4, vO 3 g5, p6, p7, p8, p9], A) := j2_T.go hC [0, 8, 21, 71, 93, 110, 114, 117, 132, 133, 134, 162, 174, 181] 400 h
set_option maxRecDepth 100000 in
theorem b80_117 {C : j2_C} (hC : j2_up1 C) {Q : j2_P} {o0 : Nat} {x1 : Int32} {x2 : Int32} {x3 : Int32} {x4 : Int32} {x5 : Int32} {x6 : Int32} {x7 : Int32} {x8 : Int32} {x9 : Int32} {w10 : j2_W} {p0 : j2_W} {p1 : j2_W} {p2 : j2_W} {p3 : j2_W} {p4 : j2_W} {g5 : Nat} {p6 : j2_W} {p7 : j2_W} {p8 : j2_W} {p9 : j2_W} {I : Nat → Nat → Int32} {A : Nat → Nat → Nat → Int32}
  (h : ((x9 = 0 → T80 C Q 133 [vO 6 o0, vI x1, vI x2, vI x3, vI x4, vI x5, vI x6, vI x7, vI x8, vI x9, w10] [] (I, [p0, p1, p2, p3, p4, vO 3 g5, p6, p7, p8, p9], A)) ∧ (¬ (x9 = 0) → ((¬ x6 = (nI 21) → T80 C Q 133 [vO 6 o0, vI x1, vI x2, vI x3, vI x4, vI x5, vI x6, vI x7, vI x8, vI x9, w10] [] (I, [p0, p1, p2, p3, p4, vO 3 g5, p6, p7, p8, p9], A)) ∧ (¬ (¬ x6 = (nI 21)) → (vp_in x7 10 ∧ C 62 [vO 4 (o0 + 9), vI ((A 3007 g5 x7.toNatClampNeg) + x8)] (I, [p0, p1, p2, p3, p4, vO 3 g5, p6, p7, p8, p9], A) (fun r σ1 => T80 C Q 132 [vO 6 o0, vI x1, vI x2, vI x3, vI x4, vI x5, vI x6, vI x7, vI x8, vI x9, w10] (r.toList ++ []) σ1))))))) :
  T80 C Q 117 [vO 6 o0, vI x1, vI x2, vI x3, vI x4, vI x5, vI x6, vI x7, vI x8, vI x9, w10] [] (I, [p0, p1, p2, p3, p4, vO 3 g5, p6, p7, p8, p9], A) := j2_T.go hC [0, 8, 21, 71, 93, 110, 114, 117, 132, 133, 134, 162, 174, 181] 400 h
set_option maxRecDepth 100000 in
theorem b80_132 {C : j2_C} (hC : j2_up1 C) {Q : j2_P} {o0 : Nat} {x1 : Int32} {x2 : Int32} {x3 : Int32} {x4 : Int32} {x5 : Int32} {x6 : Int32} {x7 : Int32} {x8 : Int32} {x9 : Int32} {w10 : j2_W} {xs0 : Int32} {p0 : j2_W} {p1 : j2_W} {p2 : j2_W} {p3 : j2_W} {p4 : j2_W} {g5 : Nat} {p6 : j2_W} {p7 : j2_W} {p8 : j2_W} {p9 : j2_W} {I : Nat → Nat → Int32} {A : Nat → Nat → Nat → Int32}
  (h : T80 C Q 134 [vO 6 o0, vI x1, vI x2, vI x3, vI x4, vI x5, vI x6, vI x7, vI x8, vI x9, w10] [vI xs0] (I, [p0, p1, p2, p3, p4, vO 3 g5, p6, p7, p8, p9], A)) :
  T80 C Q 132 [vO 6 o0, vI x1, vI x2, vI x3, vI x4, vI x5, vI x6, vI x7, vI x8, vI x9, w10] [vI xs0] (I, [p0, p1, p2, p3, p4, vO 3 g5, p6, p7, p8, p9], A) := j2_T.go hC [0, 8, 21, 71, 93, 110, 114, 117, 132, 133, 134, 162, 174, 181] 400 h
set_option maxRecDepth 100000 in
theorem b80_133 {C : j2_C} (hC : j2_up1 C) {Q : j2_P} {o0 : Nat} {x1 : Int32} {x2 : Int32} {x3 : Int32} {x4 : Int32} {x5 : Int32} {x6 : Int32} {x7 : Int32} {x8 : Int32} {x9 : Int32} {w10 : j2_W} {p0 : j2_W} {p1 : j2_W} {p2 : j2_W} {p3 : j2_W} {p4 : j2_W} {g5 : Nat} {p6 : j2_W} {p7 : j2_W} {p8 : j2_W} {p9 : j2_W} {I : Nat → Nat → Int32} {A : Nat → Nat → Nat → Int32}
  (h : T80 C Q 134 [vO 6 o0, vI x1, vI x2, vI x3, vI x4, vI x5, vI x6, vI x7, vI x8, vI x9, w10] [vI (-1 : Int32)] (I, [p0, p1, p2, p3, p4, vO 3 g5, p6, p7, p8, p9], A)) :
  T80 C Q 133 [vO 6 o0, vI x1, vI x2, vI x3, vI x4, vI x5, vI x6, vI x7, vI x8, vI x9, w10] [] (I, [p0, p1, p2, p3, p4, vO 3 g5, p6, p7, p8, p9], A) := j2_T.go hC [0, 8, 21, 71, 93, 110, 114, 117, 132, 133, 134, 162, 174, 181] 400 h
set_option maxRecDepth 100000 in
theorem b80_134 {C : j2_C} (hC : j2_up1 C) {Q : j2_P} {o0 : Nat} {x1 : Int32} {x2 : Int32} {x3 : Int32} {x4 : Int32} {x5 : Int32} {x6 : Int32} {x7 : Int32} {x8 : Int32} {x9 : Int32} {w10 : j2_W} {xs0 : Int32} {p0 : j2_W} {p1 : j2_W} {p2 : j2_W} {p3 : j2_W} {p4 : j2_W} {g5 : Nat} {p6 : j2_W} {p7 : j2_W} {p8 : j2_W} {p9 : j2_W} {I : Nat → Nat → Int32} {A : Nat → Nat → Nat → Int32}
  (h : ((xs0 = (-1 : Int32) → T80 C Q 162 [vO 6 o0, vI x1, vI x2, vI x3, vI x4, vI x5, vI x6, vI x7, vI x8, vI x9, vI xs0] [] (I, [p0, p1, p2, p3, p4, vO 3 g5, p6, p7, p8, p9], A)) ∧ (¬ (xs0 = (-1 : Int32)) → (vp_in xs0 80 ∧ (vp_in (A 3011 g5 xs0.toNatClampNeg) 10 ∧ (vp_in (nI 0) 23 ∧ (vp_in (nI 0) 23 ∧ T80 C Q 162 [vO 6 o0, vI x1, vI x2, vI x3, vI x4, vI x5, vI (nI 20), vI (A 3011 g5 xs0.toNatClampNeg), vI (xs0 - (A 3007 g5 (A 3011 g5 xs0.toNatClampNeg).toNatClampNeg)), vI x9, vI xs0] [] (I, [p0, p1, p2, p3, p4, vO 3 g5, p6, p7, p8, p9], (j2_ast A 6005 o0 (nI 0).toNatClampNeg ((A 6005 o0 (nI 0).toNatClampNeg) + (nI 1))))))))))) :
  T80 C Q 134 [vO 6 o0, vI x1, vI x2, vI x3, vI x4, vI x5, vI x6, vI x7, vI x8, vI x9, w10] [vI xs0] (I, [p0, p1, p2, p3, p4, vO 3 g5, p6, p7, p8, p9], A) := j2_T.go hC [0, 8, 21, 71, 93, 110, 114, 117, 132, 133, 134, 162, 174, 181] 400 h
set_option maxRecDepth 100000 in
theorem b80_162 {C : j2_C} (hC : j2_up1 C) {Q : j2_P} {o0 : Nat} {x1 : Int32} {x2 : Int32} {x3 : Int32} {x4 : Int32} {x5 : Int32} {x6 : Int32} {x7 : Int32} {x8 : Int32} {x9 : Int32} {x10 : Int32} {p0 : j2_W} {p1 : j2_W} {p2 : j2_W} {p3 : j2_W} {p4 : j2_W} {g5 : Nat} {p6 : j2_W} {p7 : j2_W} {p8 : j2_W} {p9 : j2_W} {I : Nat → Nat → Int32} {A : Nat → Nat → Nat → Int32}
  (h : C 107 [vO 7 (o0 + 13), vI x6, vI x7, vI x8, vI ((x1 * (nI 1000)) + x4), vI (-1 : Int32)] (I, [p0, p1, p2, p3, p4, vO 3 g5, p6, p7, p8, p9], A) (fun r σ1 => T80 C Q 174 [vO 6 o0, vI x1, vI x2, vI x3, vI x4, vI x5, vI x6, vI x7, vI x8, vI x9, vI x10] (r.toList ++ []) σ1)) :
  T80 C Q 162 [vO 6 o0, vI x1, vI x2, vI x3, vI x4, vI x5, vI x6, vI x7, vI x8, vI x9, vI x10] [] (I, [p0, p1, p2, p3, p4, vO 3 g5, p6, p7, p8, p9], A) := j2_T.go hC [0, 8, 21, 71, 93, 110, 114, 117, 132, 133, 134, 162, 174, 181] 400 h
set_option maxRecDepth 100000 in
theorem b80_174 {C : j2_C} (hC : j2_up1 C) {Q : j2_P} {o0 : Nat} {x1 : Int32} {x2 : Int32} {x3 : Int32} {x4 : Int32} {x5 : Int32} {x6 : Int32} {x7 : Int32} {x8 : Int32} {x9 : Int32} {x10 : Int32} {p0 : j2_W} {p1 : j2_W} {p2 : j2_W} {p3 : j2_W} {p4 : j2_W} {g5 : Nat} {p6 : j2_W} {p7 : j2_W} {p8 : j2_W} {p9 : j2_W} {I : Nat → Nat → Int32} {A : Nat → Nat → Nat → Int32}
  (h : T80 C Q 21 [vO 6 o0, vI x1, vI x2, vI x3, vI (x4 + (nI 1)), vI x5, vI x6, vI x7, vI x8, vI x9, vI x10] [] (I, [p0, p1, p2, p3, p4, vO 3 g5, p6, p7, p8, p9], A)) :
  T80 C Q 174 [vO 6 o0, vI x1, vI x2, vI x3, vI x4, vI x5, vI x6, vI x7, vI x8, vI x9, vI x10] [] (I, [p0, p1, p2, p3, p4, vO 3 g5, p6, p7, p8, p9], A) := j2_T.go hC [0, 8, 21, 71, 93, 110, 114, 117, 132, 133, 134, 162, 174, 181] 400 h
set_option maxRecDepth 100000 in
theorem b80_181 {C : j2_C} (hC : j2_up1 C) {Q : j2_P} {o0 : Nat} {x1 : Int32} {x2 : Int32} {x3 : Int32} {x4 : Int32} {w5 : j2_W} {w6 : j2_W} {w7 : j2_W} {w8 : j2_W} {w9 : j2_W} {w10 : j2_W} {p0 : j2_W} {p1 : j2_W} {p2 : j2_W} {p3 : j2_W} {p4 : j2_W} {g5 : Nat} {p6 : j2_W} {p7 : j2_W} {p8 : j2_W} {p9 : j2_W} {I : Nat → Nat → Int32} {A : Nat → Nat → Nat → Int32}
  (h : ((none : Option FieldType) = none ∧ Q none (I, [p0, p1, p2, p3, p4, vO 3 g5, p6, p7, p8, p9], A))) :
  T80 C Q 181 [vO 6 o0, vI x1, vI x2, vI x3, vI x4, w5, w6, w7, w8, w9, w10] [] (I, [p0, p1, p2, p3, p4, vO 3 g5, p6, p7, p8, p9], A) := j2_T.go hC [0, 8, 21, 71, 93, 110, 114, 117, 132, 133, 134, 162, 174, 181] 400 h
abbrev T81 (C : j2_C) (Q : j2_P) : j2_K := j2_T C jc_X6_growth (some .int) Q
set_option maxRecDepth 100000 in
theorem b81_0 {C : j2_C} (hC : j2_up1 C) {Q : j2_P} {o0 : Nat} {x1 : Int32} {p0 : j2_W} {p1 : j2_W} {p2 : j2_W} {p3 : j2_W} {p4 : j2_W} {g5 : Nat} {p6 : j2_W} {p7 : j2_W} {p8 : j2_W} {p9 : j2_W} {I : Nat → Nat → Int32} {A : Nat → Nat → Nat → Int32}
  (h : (vp_in x1 80 ∧ (vp_in x1 80 ∧ (True ∧ Q (some (vI (((A 3015 g5 x1.toNatClampNeg) + (A 0 (g5 + 17) x1.toNatClampNeg)) - (nI 2)))) (I, [p0, p1, p2, p3, p4, vO 3 g5, p6, p7, p8, p9], A))))) :
  T81 C Q 0 [vO 6 o0, vI x1] [] (I, [p0, p1, p2, p3, p4, vO 3 g5, p6, p7, p8, p9], A) := j2_T.go hC [0] 400 h
abbrev T82 (C : j2_C) (Q : j2_P) : j2_K := j2_T C jc_X6_canPutIn (some .boolean) Q
set_option maxRecDepth 100000 in
theorem b82_0 {C : j2_C} (hC : j2_up1 C) {Q : j2_P} {o0 : Nat} {x1 : Int32} {x2 : Int32} {x3 : Int32} {p0 : j2_W} {p1 : j2_W} {p2 : j2_W} {p3 : j2_W} {p4 : j2_W} {g5 : Nat} {p6 : j2_W} {p7 : j2_W} {p8 : j2_W} {p9 : j2_W} {I : Nat → Nat → Int32} {A : Nat → Nat → Nat → Int32}
  (h : C 83 [vO 6 o0, vI x1] (I, [p0, p1, p2, p3, p4, vO 3 g5, p6, p7, p8, p9], A) (fun r σ1 => T82 C Q 3 [vO 6 o0, vI x1, vI x2, vI x3, vM 2] (r.toList ++ []) σ1)) :
  T82 C Q 0 [vO 6 o0, vI x1, vI x2, vI x3, vM 2] [] (I, [p0, p1, p2, p3, p4, vO 3 g5, p6, p7, p8, p9], A) := j2_T.go hC [0, 3, 29, 36] 400 h
set_option maxRecDepth 100000 in
theorem b82_3 {C : j2_C} (hC : j2_up1 C) {Q : j2_P} {o0 : Nat} {x1 : Int32} {x2 : Int32} {x3 : Int32} {xs0 : Int32} {p0 : j2_W} {p1 : j2_W} {p2 : j2_W} {p3 : j2_W} {p4 : j2_W} {g5 : Nat} {p6 : j2_W} {p7 : j2_W} {p8 : j2_W} {p9 : j2_W} {I : Nat → Nat → Int32} {A : Nat → Nat → Nat → Int32}
  (h : ((¬ xs0 = 0 → (vp_in x1 80 ∧ (vp_in x1 80 ∧ (((nI 20) < ((I 7001 (o0 + 13)) + (A 3017 g5 x1.toNatClampNeg)) → (((nI 0) = 0 ∨ (nI 0) = 1) ∧ Q (some (vI (nI 0))) (I, [p0, p1, p2, p3, p4, vO 3 g5, p6, p7, p8, p9], A))) ∧ (¬ ((nI 20) < ((I 7001 (o0 + 13)) + (A 3017 g5 x1.toNatClampNeg))) → C 81 [vO 6 o0, vI x1] (I, [p0, p1, p2, p3, p4, vO 3 g5, p6, p7, p8, p9], A) (fun r σ1 => T82 C Q 29 [vO 6 o0, vI x1, vI x2, vI x3, vI (x2 - (A 3015 g5 x1.toNatClampNeg))] (r.toList ++ [vI x3]) σ1)))))) ∧ (¬ (¬ xs0 = 0) → (((nI 0) = 0 ∨ (nI 0) = 1) ∧ Q (some (vI (nI 0))) (I, [p0, p1, p2, p3, p4, vO 3 g5, p6, p7, p8, p9], A))))) :
  T82 C Q 3 [vO 6 o0, vI x1, vI x2, vI x3, vM 2] [vI xs0] (I, [p0, p1, p2, p3, p4, vO 3 g5, p6, p7, p8, p9], A) := j2_T.go hC [0, 3, 29, 36] 400 h
set_option maxRecDepth 100000 in
theorem b82_29 {C : j2_C} (hC : j2_up1 C) {Q : j2_P} {o0 : Nat} {x1 : Int32} {x2 : Int32} {x3 : Int32} {x4 : Int32} {xs0 : Int32} {xs1 : Int32} {p0 : j2_W} {p1 : j2_W} {p2 : j2_W} {p3 : j2_W} {p4 : j2_W} {g5 : Nat} {p6 : j2_W} {p7 : j2_W} {p8 : j2_W} {p9 : j2_W} {I : Nat → Nat → Int32} {A : Nat → Nat → Nat → Int32}
  (h : (((nI 120) < (xs1 + xs0) → (((nI 0) = 0 ∨ (nI 0) = 1) ∧ Q (some (vI (nI 0))) (I, [p0, p1, p2, p3, p4, vO 3 g5, p6, p7, p8, p9], A))) ∧ (¬ ((nI 120) < (xs1 + xs0)) → C 85 [vO 6 o0, vI x1] (I, [p0, p1, p2, p3, p4, vO 3 g5, p6, p7, p8, p9], A) (fun r σ1 => T82 C Q 36 [vO 6 o0, vI x1, vI x2, vI x3, vI x4] (r.toList ++ [vI x4]) σ1)))) :
  T82 C Q 29 [vO 6 o0, vI x1, vI x2, vI x3, vI x4] [vI xs0, vI xs1] (I, [p0, p1, p2, p3, p4, vO 3 g5, p6, p7, p8, p9], A) := j2_T.go hC [0, 3, 29, 36] 400 h
set_option maxRecDepth 100000 in
theorem b82_36 {C : j2_C} (hC : j2_up1 C) {Q : j2_P} {o0 : Nat} {x1 : Int32} {x2 : Int32} {x3 : Int32} {x4 : Int32} {xs0 : Int32} {xs1 : Int32} {p0 : j2_W} {p1 : j2_W} {p2 : j2_W} {p3 : j2_W} {p4 : j2_W} {g5 : Nat} {p6 : j2_W} {p7 : j2_W} {p8 : j2_W} {p9 : j2_W} {I : Nat → Nat → Int32} {A : Nat → Nat → Nat → Int32}
  (h : (((nI 10) < (xs1 + xs0) → (((nI 0) = 0 ∨ (nI 0) = 1) ∧ Q (some (vI (nI 0))) (I, [p0, p1, p2, p3, p4, vO 3 g5, p6, p7, p8, p9], A))) ∧ (¬ ((nI 10) < (xs1 + xs0)) → (((nI 1) = 0 ∨ (nI 1) = 1) ∧ Q (some (vI (nI 1))) (I, [p0, p1, p2, p3, p4, vO 3 g5, p6, p7, p8, p9], A))))) :
  T82 C Q 36 [vO 6 o0, vI x1, vI x2, vI x3, vI x4] [vI xs0, vI xs1] (I, [p0, p1, p2, p3, p4, vO 3 g5, p6, p7, p8, p9], A) := j2_T.go hC [0, 3, 29, 36] 400 h
abbrev T83 (C : j2_C) (Q : j2_P) : j2_K := j2_T C jc_X6_isLeaf (some .boolean) Q
set_option maxRecDepth 100000 in
theorem b83_0 {C : j2_C} (hC : j2_up1 C) {Q : j2_P} {o0 : Nat} {x1 : Int32} {p0 : j2_W} {p1 : j2_W} {p2 : j2_W} {p3 : j2_W} {p4 : j2_W} {g5 : Nat} {p6 : j2_W} {p7 : j2_W} {p8 : j2_W} {p9 : j2_W} {I : Nat → Nat → Int32} {A : Nat → Nat → Nat → Int32}
  (h : (vp_in x1 80 ∧ (vp_in x1 80 ∧ (((A 3013 g5 x1.toNatClampNeg) = 0 → (((nI 0) = 0 ∨ (nI 0) = 1) ∧ Q (some (vI (nI 0))) (I, [p0, p1, p2, p3, p4, vO 3 g5, p6, p7, p8, p9], A))) ∧ (¬ ((A 3013 g5 x1.toNatClampNeg) = 0) → (((A 0 (g5 + 17) x1.toNatClampNeg) < (nI 1) → (((nI 0) = 0 ∨ (nI 0) = 1) ∧ Q (some (vI (nI 0))) (I, [p0, p1, p2, p3, p4, vO 3 g5, p6, p7, p8, p9], A))) ∧ (¬ ((A 0 (g5 + 17) x1.toNatClampNeg) < (nI 1)) → (((A 0 (g5 + 17) x1.toNatClampNeg) ≤ (I 6014 o0) → T83 C Q 34 [vO 6 o0, vI x1, vI (A 0 (g5 + 17) x1.toNatClampNeg), vI (((x1 * (nI 120)) + (A 0 (g5 + 17) x1.toNatClampNeg)) - (nI 1)), vI (x1 * (nI 120))] [] (I, [p0, p1, p2, p3, p4, vO 3 g5, p6, p7, p8, p9], A)) ∧ (¬ ((A 0 (g5 + 17) x1.toNatClampNeg) ≤ (I 6014 o0)) → (((nI 0) = 0 ∨ (nI 0) = 1) ∧ Q (some (vI (nI 0))) (I, [p0, p1, p2, p3, p4, vO 3 g5, p6, p7, p8, p9], A))))))))))) :
  T83 C Q 0 [vO 6 o0, vI x1, vM 2, vM 2, vM 2] [] (I, [p0, p1, p2, p3, p4, vO 3 g5, p6, p7, p8, p9], A) := j2_T.go hC [0, 34, 45, 59] 400 h
set_option maxRecDepth 100000 in
theorem b83_34 {C : j2_C} (hC : j2_up1 C) {Q : j2_P} {o0 : Nat} {x1 : Int32} {x2 : Int32} {x3 : Int32} {x4 : Int32} {p0 : j2_W} {p1 : j2_W} {p2 : j2_W} {p3 : j2_W} {p4 : j2_W} {g5 : Nat} {p6 : j2_W} {p7 : j2_W} {p8 : j2_W} {p9 : j2_W} {I : Nat → Nat → Int32} {A : Nat → Nat → Nat → Int32}
  (h : ((x3 ≤ x4 → (vp_in x1 80 ∧ ((¬ (A 3014 g5 x1.toNatClampNeg) = 0 → T83 C Q 59 [vO 6 o0, vI x1, vI x2, vI x3, vI x4] [vI (nI 1)] (I, [p0, p1, p2, p3, p4, vO 3 g5, p6, p7, p8, p9], A)) ∧ (¬ (¬ (A 3014 g5 x1.toNatClampNeg) = 0) → T83 C Q 59 [vO 6 o0, vI x1, vI x2, vI x3, vI x4] [vI (nI 0)] (I, [p0, p1, p2, p3, p4, vO 3 g5, p6, p7, p8, p9], A))))) ∧ (¬ (x3 ≤ x4) → (vp_in x4 9600 ∧ C 84 [vO 6 o0, vI (A 1 (g5 + 17) x4.toNatClampNeg)] (I, [p0, p1, p2, p3, p4, vO 3 g5, p6, p7, p8, p9], A) (fun r σ1 => T83 C Q 45 [vO 6 o0, vI x1, vI x2, vI x3, vI x4] (r.toList ++ []) σ1))))) :
  T83 C Q 34 [vO 6 o0, vI x1, vI x2, vI x3, vI x4] [] (I, [p0, p1, p2, p3, p4, vO 3 g5, p6, p7, p8, p9], A) := j2_T.go hC [0, 34, 45, 59] 400 h
set_option maxRecDepth 100000 in
theorem b83_45 {C : j2_C} (hC : j2_up1 C) {Q : j2_P} {o0 : Nat} {x1 : Int32} {x2 : Int32} {x3 : Int32} {x4 : Int32} {xs0 : Int32} {p0 : j2_W} {p1 : j2_W} {p2 : j2_W} {p3 : j2_W} {p4 : j2_W} {g5 : Nat} {p6 : j2_W} {p7 : j2_W} {p8 : j2_W} {p9 : j2_W} {I : Nat → Nat → Int32} {A : Nat → Nat → Nat → Int32}
  (h : ((¬ xs0 = 0 → T83 C Q 34 [vO 6 o0, vI x1, vI x2, vI x3, vI (x4 + (nI 1))] [] (I, [p0, p1, p2, p3, p4, vO 3 g5, p6, p7, p8, p9], A)) ∧ (¬ (¬ xs0 = 0) → (((nI 0) = 0 ∨ (nI 0) = 1) ∧ Q (some (vI (nI 0))) (I, [p0, p1, p2, p3, p4, vO 3 g5, p6, p7, p8, p9], A))))) :
  T83 C Q 45 [vO 6 o0, vI x1, vI x2, vI x3, vI x4] [vI xs0] (I, [p0, p1, p2, p3, p4, vO 3 g5, p6, p7, p8, p9], A) := j2_T.go hC [0, 34, 45, 59] 400 h
set_option maxRecDepth 100000 in
theorem b83_59 {C : j2_C} (hC : j2_up1 C) {Q : j2_P} {o0 : Nat} {x1 : Int32} {x2 : Int32} {x3 : Int32} {x4 : Int32} {xs0 : Int32} {p0 : j2_W} {p1 : j2_W} {p2 : j2_W} {p3 : j2_W} {p4 : j2_W} {g5 : Nat} {p6 : j2_W} {p7 : j2_W} {p8 : j2_W} {p9 : j2_W} {I : Nat → Nat → Int32} {A : Nat → Nat → Nat → Int32}
  (h : (vp_in x3 9600 ∧ ((¬ (A 1 (g5 + 17) x3.toNatClampNeg) = (nI 22) → (((nI 0) = 0 ∨ (nI 0) = 1) ∧ Q (some (vI (nI 0))) (I, [p0, p1, p2, p3, p4, vO 3 g5, p6, p7, p8, p9], A))) ∧ (¬ (¬ (A 1 (g5 + 17) x3.toNatClampNeg) = (nI 22)) → (vp_in x3 9600 ∧ ((¬ (A 4 (g5 + 17) x3.toNatClampNeg) = xs0 → (((nI 0) = 0 ∨ (nI 0) = 1) ∧ Q (some (vI (nI 0))) (I, [p0, p1, p2, p3, p4, vO 3 g5, p6, p7, p8, p9], A))) ∧ (¬ (¬ (A 4 (g5 + 17) x3.toNatClampNeg) = xs0) → (((nI 1) = 0 ∨ (nI 1) = 1) ∧ Q (some (vI (nI 1))) (I, [p0, p1, p2, p3, p4, vO 3 g5, p6, p7, p8, p9], A))))))))) :
  T83 C Q 59 [vO 6 o0, vI x1, vI x2, vI x3, vI x4] [vI xs0] (I, [p0, p1, p2, p3, p4, vO 3 g5, p6, p7, p8, p9], A) := j2_T.go hC [0, 34, 45, 59] 400 h
abbrev T84 (C : j2_C) (Q : j2_P) : j2_K := j2_T C jc_X6_isPlain (some .boolean) Q
set_option maxRecDepth 100000 in
theorem b84_0 {C : j2_C} (hC : j2_up1 C) {Q : j2_P} {o0 : Nat} {x1 : Int32} {σ : j2_S}
  (h : ((x1 ≤ (nI 10) → T84 C Q 15 [vO 6 o0, vI x1] [] σ) ∧ (¬ (x1 ≤ (nI 10)) → ((x1 < (nI 15) → T84 C Q 9 [vO 6 o0, vI x1] [] σ) ∧ (¬ (x1 < (nI 15)) → ((x1 ≤ (nI 19) → T84 C Q 15 [vO 6 o0, vI x1] [] σ) ∧ (¬ (x1 ≤ (nI 19)) → T84 C Q 9 [vO 6 o0, vI x1] [] σ))))))) :
  T84 C Q 0 [vO 6 o0, vI x1] [] σ := j2_T.go hC [0, 9, 15] 400 h
set_option maxRecDepth 100000 in
theorem b84_9 {C : j2_C} (hC : j2_up1 C) {Q : j2_P} {o0 : Nat} {x1 : Int32} {σ : j2_S}
  (h : ((x1 < (nI 23) → (((nI 0) = 0 ∨ (nI 0) = 1) ∧ Q (some (vI (nI 0))) σ)) ∧ (¬ (x1 < (nI 23)) → (((nI 25) < x1 → (((nI 0) = 0 ∨ (nI 0) = 1) ∧ Q (some (vI (nI 0))) σ)) ∧ (¬ ((nI 25) < x1) → T84 C Q 15 [vO 6 o0, vI x1] [] σ))))) :
  T84 C Q 9 [vO 6 o0, vI x1] [] σ := j2_T.go hC [0, 9, 15] 400 h
set_option maxRecDepth 100000 in
theorem b84_15 {C : j2_C} (hC : j2_up1 C) {Q : j2_P} {o0 : Nat} {x1 : Int32} {σ : j2_S}
  (h : (((nI 1) = 0 ∨ (nI 1) = 1) ∧ Q (some (vI (nI 1))) σ)) :
  T84 C Q 15 [vO 6 o0, vI x1] [] σ := j2_T.go hC [0, 9, 15] 400 h
abbrev T85 (C : j2_C) (Q : j2_P) : j2_K := j2_T C jc_X6_highest (some .int) Q
set_option maxRecDepth 100000 in
theorem b85_0 {C : j2_C} (hC : j2_up1 C) {Q : j2_P} {o0 : Nat} {x1 : Int32} {p0 : j2_W} {p1 : j2_W} {p2 : j2_W} {p3 : j2_W} {p4 : j2_W} {g5 : Nat} {p6 : j2_W} {p7 : j2_W} {p8 : j2_W} {p9 : j2_W} {I : Nat → Nat → Int32} {A : Nat → Nat → Nat → Int32}
  (h : T85 C Q 8 [vO 6 o0, vI x1, vI (nI 0), vI (x1 * (nI 120)), vI (x1 * (nI 120))] [] (I, [p0, p1, p2, p3, p4, vO 3 g5, p6, p7, p8, p9], A)) :
  T85 C Q 0 [vO 6 o0, vI x1, vM 2, vM 2, vM 2] [] (I, [p0, p1, p2, p3, p4, vO 3 g5, p6, p7, p8, p9], A) := j2_T.go hC [0, 8] 400 h
set_option maxRecDepth 100000 in
theorem b85_8 {C : j2_C} (hC : j2_up1 C) {Q : j2_P} {o0 : Nat} {x1 : Int32} {x2 : Int32} {x3 : Int32} {x4 : Int32} {p0 : j2_W} {p1 : j2_W} {p2 : j2_W} {p3 : j2_W} {p4 : j2_W} {g5 : Nat} {p6 : j2_W} {p7 : j2_W} {p8 : j2_W} {p9 : j2_W} {I : Nat → Nat → Int32} {A : Nat → Nat → Nat → Int32}
  (h : (vp_in x1 80 ∧ (((x3 + (A 0 (g5 + 17) x1.toNatClampNeg)) ≤ x4 → (True ∧ Q (some (vI x2)) (I, [p0, p1, p2, p3, p4, vO 3 g5, p6, p7, p8, p9], A))) ∧ (¬ ((x3 + (A 0 (g5 + 17) x1.toNatClampNeg)) ≤ x4) → (vp_in x4 9600 ∧ T85 C Q 8 [vO 6 o0, vI x1, vI (if x2 < (A 4 (g5 + 17) x4.toNatClampNeg) then (A 4 (g5 + 17) x4.toNatClampNeg) else x2), vI x3, vI (x4 + (nI 1))] [] (I, [p0, p1, p2, p3, p4, vO 3 g5, p6, p7, p8, p9], A)))))) :
  T85 C Q 8 [vO 6 o0, vI x1, vI x2, vI x3, vI x4] [] (I, [p0, p1, p2, p3, p4, vO 3 g5, p6, p7, p8, p9], A) := j2_T.go hC [0, 8] 400 h
abbrev T86 (C : j2_C) (Q : j2_P) : j2_K := j2_T C jc_X6_putIn none Q
set_option maxRecDepth 100000 in
theorem b86_0 {C : j2_C} (hC : j2_up1 C) {Q : j2_P} {o0 : Nat} {x1 : Int32} {x2 : Int32} {p0 : j2_W} {p1 : j2_W} {p2 : j2_W} {p3 : j2_W} {p4 : j2_W} {g5 : Nat} {p6 : j2_W} {p7 : j2_W} {p8 : j2_W} {p9 : j2_W} {I : Nat → Nat → Int32} {A : Nat → Nat → Nat → Int32}
  (h : (vp_in x1 80 ∧ T86 C Q 12 [vO 6 o0, vI x1, vI x2, vI (I 7001 (o0 + 13)), vI ((A 3015 g5 x1.toNatClampNeg) - (nI 1)), vM 2, vM 2, vM 2] [] (I, [p0, p1, p2, p3, p4, vO 3 g5, p6, p7, p8, p9], A))) :
  T86 C Q 0 [vO 6 o0, vI x1, vI x2, vM 2, vM 2, vM 2, vM 2, vM 2] [] (I, [p0, p1, p2, p3, p4, vO 3 g5, p6, p7, p8, p9], A) := j2_T.go hC [0, 12, 24, 28, 59, 84] 400 h
set_option maxRecDepth 100000 in
theorem b86_12 {C : j2_C} (hC : j2_up1 C) {Q : j2_P} {o0 : Nat} {x1 : Int32} {x2 : Int32} {x3 : Int32} {x4 : Int32} {p0 : j2_W} {p1 : j2_W} {p2 : j2_W} {p3 : j2_W} {p4 : j2_W} {g5 : Nat} {p6 : j2_W} {p7 : j2_W} {p8 : j2_W} {p9 : j2_W} {I : Nat → Nat → Int32} {A : Nat → Nat → Nat → Int32}
  (h : ((x4 < 0 → T86 C Q 28 [vO 6 o0, vI x1, vI x2, vI x3, vI (nI 0), vM 2, vM 2, vM 2] [] (I, [p0, p1, p2, p3, p4, vO 3 g5, p6, p7, p8, p9], A)) ∧ (¬ (x4 < 0) → C 107 [vO 7 (o0 + 13), vI (nI 3), vI (x3 + x4), vI (nI 0), vI x2, vI (-1 : Int32)] (I, [p0, p1, p2, p3, p4, vO 3 g5, p6, p7, p8, p9], A) (fun r σ1 => T86 C Q 24 [vO 6 o0, vI x1, vI x2, vI x3, vI x4, vM 2, vM 2, vM 2] (r.toList ++ []) σ1)))) :
  T86 C Q 12 [vO 6 o0, vI x1, vI x2, vI x3, vI x4, vM 2, vM 2, vM 2] [] (I, [p0, p1, p2, p3, p4, vO 3 g5, p6, p7, p8, p9], A) := j2_T.go hC [0, 12, 24, 28, 59, 84] 400 h
set_option maxRecDepth 100000 in
theorem b86_24 {C : j2_C} (hC : j2_up1 C) {Q : j2_P} {o0 : Nat} {x1 : Int32} {x2 : Int32} {x3 : Int32} {x4 : Int32} {p0 : j2_W} {p1 : j2_W} {p2 : j2_W} {p3 : j2_W} {p4 : j2_W} {g5 : Nat} {p6 : j2_W} {p7 : j2_W} {p8 : j2_W} {p9 : j2_W} {I : Nat → Nat → Int32} {A : Nat → Nat → Nat → Int32}
  (h : T86 C Q 12 [vO 6 o0, vI x1, vI x2, vI x3, vI (x4 + (-1 : Int32)), vM 2, vM 2, vM 2] [] (I, [p0, p1, p2, p3, p4, vO 3 g5, p6, p7, p8, p9], A)) :
  T86 C Q 24 [vO 6 o0, vI x1, vI x2, vI x3, vI x4, vM 2, vM 2, vM 2] [] (I, [p0, p1, p2, p3, p4, vO 3 g5, p6, p7, p8, p9], A) := j2_T.go hC [0, 12, 24, 28, 59, 84] 400 h
set_option maxRecDepth 100000 in
theorem b86_28 {C : j2_C} (hC : j2_up1 C) {Q : j2_P} {o0 : Nat} {x1 : Int32} {x2 : Int32} {x3 : Int32} {x4 : Int32} {w5 : j2_W} {w6 : j2_W} {w7 : j2_W} {p0 : j2_W} {p1 : j2_W} {p2 : j2_W} {p3 : j2_W} {p4 : j2_W} {g5 : Nat} {p6 : j2_W} {p7 : j2_W} {p8 : j2_W} {p9 : j2_W} {I : Nat → Nat → Int32} {A : Nat → Nat → Nat → Int32}
  (h : (vp_in x1 80 ∧ ((((A 0 (g5 + 17) x1.toNatClampNeg) - (nI 1)) ≤ x4 → (vp_in x1 80 ∧ (vp_in (nI 1) 23 ∧ (vp_in (nI 1) 23 ∧ ((none : Option FieldType) = none ∧ Q none ((j2_up I 7001 (o0 + 13) ((I 7001 (o0 + 13)) + (A 3017 g5 x1.toNatClampNeg))), [p0, p1, p2, p3, p4, vO 3 g5, p6, p7, p8, p9], (j2_ast A 6005 o0 (nI 1).toNatClampNeg ((A 6005 o0 (nI 1).toNatClampNeg) + (nI 1))))))))) ∧ (¬ (((A 0 (g5 + 17) x1.toNatClampNeg) - (nI 1)) ≤ x4) → (vp_in ((x1 * (nI 120)) + x4) 9600 ∧ (vp_in (A 1 (g5 + 17) ((x1 * (nI 120)) + x4).toNatClampNeg) 27 ∧ ((¬ ((jt_ro 0).2 (A 1 (g5 + 17) ((x1 * (nI 120)) + x4).toNatClampNeg).toNatClampNeg) = (nI 2) → T86 C Q 59 [vO 6 o0, vI x1, vI x2, vI x3, vI x4, vI ((x1 * (nI 120)) + x4), vI (A 1 (g5 + 17) ((x1 * (nI 120)) + x4).toNatClampNeg), w7] [vI (nI 0)] (I, [p0, p1, p2, p3, p4, vO 3 g5, p6, p7, p8, p9], A)) ∧ (¬ (¬ ((jt_ro 0).2 (A 1 (g5 + 17) ((x1 * (nI 120)) + x4).toNatClampNeg).toNatClampNeg) = (nI 2)) → T86 C Q 59 [vO 6 o0, vI x1, vI x2, vI x3, vI x4, vI ((x1 * (nI 120)) + x4), vI (A 1 (g5 + 17) ((x1 * (nI 120)) + x4).toNatClampNeg), w7] [vI x3] (I, [p0, p1, p2, p3, p4, vO 3 g5, p6, p7, p8, p9], A))))))))) :
  T86 C Q 28 [vO 6 o0, vI x1, vI x2, vI x3, vI x4, w5, w6, w7] [] (I, [p0, p1, p2, p3, p4, vO 3 g5, p6, p7, p8, p9], A) := j2_T.go hC [0, 12, 24, 28, 59, 84] 400 h
set_option maxRecDepth 100000 in
theorem b86_59 {C : j2_C} (hC : j2_up1 C) {Q : j2_P} {o0 : Nat} {x1 : Int32} {x2 : Int32} {x3 : Int32} {x4 : Int32} {x5 : Int32} {x6 : Int32} {w7 : j2_W} {xs0 : Int32} {p0 : j2_W} {p1 : j2_W} {p2 : j2_W} {p3 : j2_W} {p4 : j2_W} {g5 : Nat} {p6 : j2_W} {p7 : j2_W} {p8 : j2_W} {p9 : j2_W} {I : Nat → Nat → Int32} {A : Nat → Nat → Nat → Int32}
  (h : (vp_in x5 9600 ∧ (vp_in x5 9600 ∧ C 107 [vO 7 (o0 + 13), vI x6, vI ((A 2 (g5 + 17) x5.toNatClampNeg) + xs0), vI (A 3 (g5 + 17) x5.toNatClampNeg), vI ((x1 * (nI 1000)) + x4), vI x2] (I, [p0, p1, p2, p3, p4, vO 3 g5, p6, p7, p8, p9], A) (fun r σ1 => T86 C Q 84 [vO 6 o0, vI x1, vI x2, vI x3, vI x4, vI x5, vI x6, vI xs0] (r.toList ++ []) σ1)))) :
  T86 C Q 59 [vO 6 o0, vI x1, vI x2, vI x3, vI x4, vI x5, vI x6, w7] [vI xs0] (I, [p0, p1, p2, p3, p4, vO 3 g5, p6, p7, p8, p9], A) := j2_T.go hC [0, 12, 24, 28, 59, 84] 400 h
set_option maxRecDepth 100000 in
theorem b86_84 {C : j2_C} (hC : j2_up1 C) {Q : j2_P} {o0 : Nat} {x1 : Int32} {x2 : Int32} {x3 : Int32} {x4 : Int32} {x5 : Int32} {x6 : Int32} {x7 : Int32} {p0 : j2_W} {p1 : j2_W} {p2 : j2_W} {p3 : j2_W} {p4 : j2_W} {g5 : Nat} {p6 : j2_W} {p7 : j2_W} {p8 : j2_W} {p9 : j2_W} {I : Nat → Nat → Int32} {A : Nat → Nat → Nat → Int32}
  (h : T86 C Q 28 [vO 6 o0, vI x1, vI x2, vI x3, vI (x4 + (nI 1)), vI x5, vI x6, vI x7] [] (I, [p0, p1, p2, p3, p4, vO 3 g5, p6, p7, p8, p9], A)) :
  T86 C Q 84 [vO 6 o0, vI x1, vI x2, vI x3, vI x4, vI x5, vI x6, vI x7] [] (I, [p0, p1, p2, p3, p4, vO 3 g5, p6, p7, p8, p9], A) := j2_T.go hC [0, 12, 24, 28, 59, 84] 400 h
abbrev T87 (C : j2_C) (Q : j2_P) : j2_K := j2_T C jc_X6_lay none Q
set_option maxRecDepth 100000 in
theorem b87_0 {C : j2_C} (hC : j2_up1 C) {Q : j2_P} {o0 : Nat} {x1 : Int32} {p0 : j2_W} {p1 : j2_W} {p2 : j2_W} {p3 : j2_W} {p4 : j2_W} {p5 : j2_W} {g6 : Nat} {p7 : j2_W} {p8 : j2_W} {p9 : j2_W} {I : Nat → Nat → Int32} {A : Nat → Nat → Nat → Int32}
  (h : (¬ (nI 0) < 0 ∧ ¬ (x1 * (nI 120)) < 0 ∧ ¬ (I 7000 (o0 + 13)) < 0 ∧ (nI 0).toNatClampNeg + (I 7000 (o0 + 13)).toNatClampNeg ≤ 120 ∧ (x1 * (nI 120)).toNatClampNeg + (I 7000 (o0 + 13)).toNatClampNeg ≤ 9600 ∧ (¬ (nI 0) < 0 ∧ ¬ (x1 * (nI 120)) < 0 ∧ ¬ (I 7000 (o0 + 13)) < 0 ∧ (nI 0).toNatClampNeg + (I 7000 (o0 + 13)).toNatClampNeg ≤ 120 ∧ (x1 * (nI 120)).toNatClampNeg + (I 7000 (o0 + 13)).toNatClampNeg ≤ 9600 ∧ (¬ (nI 0) < 0 ∧ ¬ (x1 * (nI 120)) < 0 ∧ ¬ (I 7000 (o0 + 13)) < 0 ∧ (nI 0).toNatClampNeg + (I 7000 (o0 + 13)).toNatClampNeg ≤ 120 ∧ (x1 * (nI 120)).toNatClampNeg + (I 7000 (o0 + 13)).toNatClampNeg ≤ 9600 ∧ (¬ (nI 0) < 0 ∧ ¬ (x1 * (nI 120)) < 0 ∧ ¬ (I 7000 (o0 + 13)) < 0 ∧ (nI 0).toNatClampNeg + (I 7000 (o0 + 13)).toNatClampNeg ≤ 120 ∧ (x1 * (nI 120)).toNatClampNeg + (I 7000 (o0 + 13)).toNatClampNeg ≤ 9600 ∧ (¬ (nI 0) < 0 ∧ ¬ (x1 * (nI 120)) < 0 ∧ ¬ (I 7000 (o0 + 13)) < 0 ∧ (nI 0).toNatClampNeg + (I 7000 (o0 + 13)).toNatClampNeg ≤ 120 ∧ (x1 * (nI 120)).toNatClampNeg + (I 7000 (o0 + 13)).toNatClampNeg ≤ 9600 ∧ C 249 [vA 4 (g6 + 17), vI (x1 * (nI 120)), vI ((x1 * (nI 120)) + (I 7000 (o0 + 13))), vI (nI 0)] (I, [p0, p1, p2, p3, p4, p5, vO 3 g6, p7, p8, p9], (j2_acp (j2_acp (j2_acp (j2_acp (j2_acp A 7002 (o0 + 13) 1 (g6 + 17) (nI 0).toNatClampNeg (x1 * (nI 120)).toNatClampNeg (I 7000 (o0 + 13)).toNatClampNeg) 7003 (o0 + 13) 2 (g6 + 17) (nI 0).toNatClampNeg (x1 * (nI 120)).toNatClampNeg (I 7000 (o0 + 13)).toNatClampNeg) 7004 (o0 + 13) 3 (g6 + 17) (nI 0).toNatClampNeg (x1 * (nI 120)).toNatClampNeg (I 7000 (o0 + 13)).toNatClampNeg) 7005 (o0 + 13) 6003 o0 (nI 0).toNatClampNeg (x1 * (nI 120)).toNatClampNeg (I 7000 (o0 + 13)).toNatClampNeg) 7006 (o0 + 13) 6004 o0 (nI 0).toNatClampNeg (x1 * (nI 120)).toNatClampNeg (I 7000 (o0 + 13)).toNatClampNeg)) (fun r σ1 => T87 C Q 77 [vO 6 o0, vI x1, vI (x1 * (nI 120))] (r.toList ++ []) σ1))))))) :
  T87 C Q 0 [vO 6 o0, vI x1, vM 2] [] (I, [p0, p1, p2, p3, p4, p5, vO 3 g6, p7, p8, p9], A) := j2_T.go hC [0, 77] 400 h
set_option maxRecDepth 100000 in
theorem b87_77 {C : j2_C} (hC : j2_up1 C) {Q : j2_P} {o0 : Nat} {x1 : Int32} {x2 : Int32} {p0 : j2_W} {p1 : j2_W} {p2 : j2_W} {p3 : j2_W} {p4 : j2_W} {p5 : j2_W} {g6 : Nat} {p7 : j2_W} {p8 : j2_W} {p9 : j2_W} {I : Nat → Nat → Int32} {A : Nat → Nat → Nat → Int32}
  (h : (vp_in x1 80 ∧ (vp_in x1 80 ∧ ((none : Option FieldType) = none ∧ Q none (I, [p0, p1, p2, p3, p4, p5, vO 3 g6, p7, p8, p9], (j2_ast (j2_ast A 0 (g6 + 17) x1.toNatClampNeg (I 7000 (o0 + 13))) 6010 o0 x1.toNatClampNeg (I 7001 (o0 + 13)))))))) :
  T87 C Q 77 [vO 6 o0, vI x1, vI x2] [] (I, [p0, p1, p2, p3, p4, p5, vO 3 g6, p7, p8, p9], A) := j2_T.go hC [0, 77] 400 h
abbrev T88 (C : j2_C) (Q : j2_P) : j2_K := j2_T C jc_X6_markAll none Q
set_option maxRecDepth 100000 in
theorem b88_0 {C : j2_C} (hC : j2_up1 C) {Q : j2_P} {o0 : Nat} {p0 : j2_W} {p1 : j2_W} {p2 : j2_W} {p3 : j2_W} {p4 : j2_W} {g5 : Nat} {p6 : j2_W} {p7 : j2_W} {p8 : j2_W} {p9 : j2_W} {I : Nat → Nat → Int32} {A : Nat → Nat → Nat → Int32}
  (h : C 248 [vA 6000 o0, vI (-1 : Int32)] (I, [p0, p1, p2, p3, p4, vO 3 g5, p6, p7, p8, p9], A) (fun r σ1 => T88 C Q 4 [vO 6 o0, vM 2] (r.toList ++ []) σ1)) :
  T88 C Q 0 [vO 6 o0, vM 2] [] (I, [p0, p1, p2, p3, p4, vO 3 g5, p6, p7, p8, p9], A) := j2_T.go hC [0, 4, 8, 12, 14, 34, 38, 46, 54, 76] 400 h
set_option maxRecDepth 100000 in
theorem b88_4 {C : j2_C} (hC : j2_up1 C) {Q : j2_P} {o0 : Nat} {p0 : j2_W} {p1 : j2_W} {p2 : j2_W} {p3 : j2_W} {p4 : j2_W} {g5 : Nat} {p6 : j2_W} {p7 : j2_W} {p8 : j2_W} {p9 : j2_W} {I : Nat → Nat → Int32} {A : Nat → Nat → Nat → Int32}
  (h : C 248 [vA 6001 o0, vI (-1 : Int32)] (I, [p0, p1, p2, p3, p4, vO 3 g5, p6, p7, p8, p9], A) (fun r σ1 => T88 C Q 8 [vO 6 o0, vM 2] (r.toList ++ []) σ1)) :
  T88 C Q 4 [vO 6 o0, vM 2] [] (I, [p0, p1, p2, p3, p4, vO 3 g5, p6, p7, p8, p9], A) := j2_T.go hC [0, 4, 8, 12, 14, 34, 38, 46, 54, 76] 400 h
set_option maxRecDepth 100000 in
theorem b88_8 {C : j2_C} (hC : j2_up1 C) {Q : j2_P} {o0 : Nat} {p0 : j2_W} {p1 : j2_W} {p2 : j2_W} {p3 : j2_W} {p4 : j2_W} {g5 : Nat} {p6 : j2_W} {p7 : j2_W} {p8 : j2_W} {p9 : j2_W} {I : Nat → Nat → Int32} {A : Nat → Nat → Nat → Int32}
  (h : C 248 [vA 6002 o0, vI (-1 : Int32)] (I, [p0, p1, p2, p3, p4, vO 3 g5, p6, p7, p8, p9], A) (fun r σ1 => T88 C Q 12 [vO 6 o0, vM 2] (r.toList ++ []) σ1)) :
  T88 C Q 8 [vO 6 o0, vM 2] [] (I, [p0, p1, p2, p3, p4, vO 3 g5, p6, p7, p8, p9], A) := j2_T.go hC [0, 4, 8, 12, 14, 34, 38, 46, 54, 76] 400 h
set_option maxRecDepth 100000 in
theorem b88_12 {C : j2_C} (hC : j2_up1 C) {Q : j2_P} {o0 : Nat} {p0 : j2_W} {p1 : j2_W} {p2 : j2_W} {p3 : j2_W} {p4 : j2_W} {g5 : Nat} {p6 : j2_W} {p7 : j2_W} {p8 : j2_W} {p9 : j2_W} {I : Nat → Nat → Int32} {A : Nat → Nat → Nat → Int32}
  (h : T88 C Q 14 [vO 6 o0, vI (nI 0)] [] (I, [p0, p1, p2, p3, p4, vO 3 g5, p6, p7, p8, p9], A)) :
  T88 C Q 12 [vO 6 o0, vM 2] [] (I, [p0, p1, p2, p3, p4, vO 3 g5, p6, p7, p8, p9], A) := j2_T.go hC [0, 4, 8, 12, 14, 34, 38, 46, 54, 76] 400 h
set_option maxRecDepth 100000 in
theorem b88_14 {C : j2_C} (hC : j2_up1 C) {Q : j2_P} {o0 : Nat} {x1 : Int32} {p0 : j2_W} {p1 : j2_W} {p2 : j2_W} {p3 : j2_W} {p4 : j2_W} {g5 : Nat} {p6 : j2_W} {p7 : j2_W} {p8 : j2_W} {p9 : j2_W} {I : Nat → Nat → Int32} {A : Nat → Nat → Nat → Int32}
  (h : (((I 3001 g5) ≤ x1 → T88 C Q 38 [vO 6 o0, vI (nI 0)] [] (I, [p0, p1, p2, p3, p4, vO 3 g5, p6, p7, p8, p9], A)) ∧ (¬ ((I 3001 g5) ≤ x1) → (vp_in x1 80 ∧ ((¬ (A 4000 (o0 + 9) x1.toNatClampNeg) = (nI 1) → T88 C Q 34 [vO 6 o0, vI x1] [] (I, [p0, p1, p2, p3, p4, vO 3 g5, p6, p7, p8, p9], A)) ∧ (¬ (¬ (A 4000 (o0 + 9) x1.toNatClampNeg) = (nI 1)) → (vp_in x1 80 ∧ C 89 [vO 6 o0, vI x1] (I, [p0, p1, p2, p3, p4, vO 3 g5, p6, p7, p8, p9], (j2_ast A 6002 o0 x1.toNatClampNeg (nI 0))) (fun r σ1 => T88 C Q 34 [vO 6 o0, vI x1] (r.toList ++ []) σ1)))))))) :
  T88 C Q 14 [vO 6 o0, vI x1] [] (I, [p0, p1, p2, p3, p4, vO 3 g5, p6, p7, p8, p9], A) := j2_T.go hC [0, 4, 8, 12, 14, 34, 38, 46, 54, 76] 400 h
set_option maxRecDepth 100000 in
theorem b88_34 {C : j2_C} (hC : j2_up1 C) {Q : j2_P} {o0 : Nat} {x1 : Int32} {p0 : j2_W} {p1 : j2_W} {p2 : j2_W} {p3 : j2_W} {p4 : j2_W} {g5 : Nat} {p6 : j2_W} {p7 : j2_W} {p8 : j2_W} {p9 : j2_W} {I : Nat → Nat → Int32} {A : Nat → Nat → Nat → Int32}
  (h : T88 C Q 14 [vO 6 o0, vI (x1 + (nI 1))] [] (I, [p0, p1, p2, p3, p4, vO 3 g5, p6, p7, p8, p9], A)) :
  T88 C Q 34 [vO 6 o0, vI x1] [] (I, [p0, p1, p2, p3, p4, vO 3 g5, p6, p7, p8, p9], A) := j2_T.go hC [0, 4, 8, 12, 14, 34, 38, 46, 54, 76] 400 h
set_option maxRecDepth 100000 in
theorem b88_38 {C : j2_C} (hC : j2_up1 C) {Q : j2_P} {o0 : Nat} {x1 : Int32} {p0 : j2_W} {p1 : j2_W} {p2 : j2_W} {p3 : j2_W} {p4 : j2_W} {g5 : Nat} {p6 : j2_W} {p7 : j2_W} {p8 : j2_W} {p9 : j2_W} {I : Nat → Nat → Int32} {A : Nat → Nat → Nat → Int32}
  (h : (((I 3000 g5) ≤ x1 → T88 C Q 54 [vO 6 o0, vI ((I 3000 g5) - (nI 1))] [] (I, [p0, p1, p2, p3, p4, vO 3 g5, p6, p7, p8, p9], A)) ∧ (¬ ((I 3000 g5) ≤ x1) → C 90 [vO 6 o0, vI x1] (I, [p0, p1, p2, p3, p4, vO 3 g5, p6, p7, p8, p9], A) (fun r σ1 => T88 C Q 46 [vO 6 o0, vI x1] (r.toList ++ []) σ1)))) :
  T88 C Q 38 [vO 6 o0, vI x1] [] (I, [p0, p1, p2, p3, p4, vO 3 g5, p6, p7, p8, p9], A) := j2_T.go hC [0, 4, 8, 12, 14, 34, 38, 46, 54, 76] 400 h
set_option maxRecDepth 100000 in
theorem b88_46 {C : j2_C} (hC : j2_up1 C) {Q : j2_P} {o0 : Nat} {x1 : Int32} {p0 : j2_W} {p1 : j2_W} {p2 : j2_W} {p3 : j2_W} {p4 : j2_W} {g5 : Nat} {p6 : j2_W} {p7 : j2_W} {p8 : j2_W} {p9 : j2_W} {I : Nat → Nat → Int32} {A : Nat → Nat → Nat → Int32}
  (h : T88 C Q 38 [vO 6 o0, vI (x1 + (nI 1))] [] (I, [p0, p1, p2, p3, p4, vO 3 g5, p6, p7, p8, p9], A)) :
  T88 C Q 46 [vO 6 o0, vI x1] [] (I, [p0, p1, p2, p3, p4, vO 3 g5, p6, p7, p8, p9], A) := j2_T.go hC [0, 4, 8, 12, 14, 34, 38, 46, 54, 76] 400 h
set_option maxRecDepth 100000 in
theorem b88_54 {C : j2_C} (hC : j2_up1 C) {Q : j2_P} {o0 : Nat} {x1 : Int32} {p0 : j2_W} {p1 : j2_W} {p2 : j2_W} {p3 : j2_W} {p4 : j2_W} {g5 : Nat} {p6 : j2_W} {p7 : j2_W} {p8 : j2_W} {p9 : j2_W} {I : Nat → Nat → Int32} {A : Nat → Nat → Nat → Int32}
  (h : ((x1 < 0 → ((none : Option FieldType) = none ∧ Q none (I, [p0, p1, p2, p3, p4, vO 3 g5, p6, p7, p8, p9], A))) ∧ (¬ (x1 < 0) → (vp_in x1 10 ∧ ((¬ (A 6000 o0 x1.toNatClampNeg) = 0 → T88 C Q 76 [vO 6 o0, vI x1] [] (I, [p0, p1, p2, p3, p4, vO 3 g5, p6, p7, p8, p9], A)) ∧ (¬ (¬ (A 6000 o0 x1.toNatClampNeg) = 0) → (vp_in x1 10 ∧ (((A 3003 g5 x1.toNatClampNeg) < 0 → T88 C Q 76 [vO 6 o0, vI x1] [] (I, [p0, p1, p2, p3, p4, vO 3 g5, p6, p7, p8, p9], A)) ∧ (¬ ((A 3003 g5 x1.toNatClampNeg) < 0) → (vp_in x1 10 ∧ (vp_in (A 3003 g5 x1.toNatClampNeg) 10 ∧ T88 C Q 76 [vO 6 o0, vI x1] [] (I, [p0, p1, p2, p3, p4, vO 3 g5, p6, p7, p8, p9], (j2_ast A 6000 o0 (A 3003 g5 x1.toNatClampNeg).toNatClampNeg (nI 0)))))))))))))) :
  T88 C Q 54 [vO 6 o0, vI x1] [] (I, [p0, p1, p2, p3, p4, vO 3 g5, p6, p7, p8, p9], A) := j2_T.go hC [0, 4, 8, 12, 14, 34, 38, 46, 54, 76] 400 h
set_option maxRecDepth 100000 in
theorem b88_76 {C : j2_C} (hC : j2_up1 C) {Q : j2_P} {o0 : Nat} {x1 : Int32} {p0 : j2_W} {p1 : j2_W} {p2 : j2_W} {p3 : j2_W} {p4 : j2_W} {g5 : Nat} {p6 : j2_W} {p7 : j2_W} {p8 : j2_W} {p9 : j2_W} {I : Nat → Nat → Int32} {A : Nat → Nat → Nat → Int32}
  (h : T88 C Q 54 [vO 6 o0, vI (x1 + (-1 : Int32))] [] (I, [p0, p1, p2, p3, p4, vO 3 g5, p6, p7, p8, p9], A)) :
  T88 C Q 76 [vO 6 o0, vI x1] [] (I, [p0, p1, p2, p3, p4, vO 3 g5, p6, p7, p8, p9], A) := j2_T.go hC [0, 4, 8, 12, 14, 34, 38, 46, 54, 76] 400 h
abbrev T89 (C : j2_C) (Q : j2_P) : j2_K := j2_T C jc_X6_markTold none Q
set_option maxRecDepth 100000 in
theorem b89_0 {C : j2_C} (hC : j2_up1 C) {Q : j2_P} {o0 : Nat} {x1 : Int32} {p0 : j2_W} {p1 : j2_W} {p2 : j2_W} {p3 : j2_W} {p4 : j2_W} {g5 : Nat} {g6 : Nat} {p7 : j2_W} {p8 : j2_W} {p9 : j2_W} {I : Nat → Nat → Int32} {A : Nat → Nat → Nat → Int32}
  (h : T89 C Q 6 [vO 6 o0, vI x1, vI (x1 * (nI 120)), vI (x1 * (nI 120)), vM 2, vM 2] [] (I, [p0, p1, p2, p3, p4, vO 3 g5, vO 3 g6, p7, p8, p9], A)) :
  T89 C Q 0 [vO 6 o0, vI x1, vM 2, vM 2, vM 2, vM 2] [] (I, [p0, p1, p2, p3, p4, vO 3 g5, vO 3 g6, p7, p8, p9], A) := j2_T.go hC [0, 6, 36, 81] 400 h
set_option maxRecDepth 100000 in
theorem b89_6 {C : j2_C} (hC : j2_up1 C) {Q : j2_P} {o0 : Nat} {x1 : Int32} {x2 : Int32} {x3 : Int32} {w4 : j2_W} {w5 : j2_W} {p0 : j2_W} {p1 : j2_W} {p2 : j2_W} {p3 : j2_W} {p4 : j2_W} {g5 : Nat} {g6 : Nat} {p7 : j2_W} {p8 : j2_W} {p9 : j2_W} {I : Nat → Nat → Int32} {A : Nat → Nat → Nat → Int32}
  (h : (vp_in x1 80 ∧ (((x2 + (A 0 (g6 + 17) x1.toNatClampNeg)) ≤ x3 → ((none : Option FieldType) = none ∧ Q none (I, [p0, p1, p2, p3, p4, vO 3 g5, vO 3 g6, p7, p8, p9], A))) ∧ (¬ ((x2 + (A 0 (g6 + 17) x1.toNatClampNeg)) ≤ x3) → (vp_in x3 9600 ∧ (vp_in x3 9600 ∧ (((A 1 (g6 + 17) x3.toNatClampNeg) = (nI 24) → T89 C Q 36 [vO 6 o0, vI x1, vI x2, vI x3, vI (A 1 (g6 + 17) x3.toNatClampNeg), vI (A 2 (g6 + 17) x3.toNatClampNeg)] [] (I, [p0, p1, p2, p3, p4, vO 3 g5, vO 3 g6, p7, p8, p9], A)) ∧ (¬ ((A 1 (g6 + 17) x3.toNatClampNeg) = (nI 24)) → ((¬ (A 1 (g6 + 17) x3.toNatClampNeg) = (nI 25) → ((¬ (A 1 (g6 + 17) x3.toNatClampNeg) = (nI 21) → (vp_in (A 1 (g6 + 17) x3.toNatClampNeg) 27 ∧ ((¬ ((jt_ro 0).2 (A 1 (g6 + 17) x3.toNatClampNeg).toNatClampNeg) = (nI 5) → T89 C Q 81 [vO 6 o0, vI x1, vI x2, vI x3, vI (A 1 (g6 + 17) x3.toNatClampNeg), vI (A 2 (g6 + 17) x3.toNatClampNeg)] [] (I, [p0, p1, p2, p3, p4, vO 3 g5, vO 3 g6, p7, p8, p9], A)) ∧ (¬ (¬ ((jt_ro 0).2 (A 1 (g6 + 17) x3.toNatClampNeg).toNatClampNeg) = (nI 5)) → (vp_in x3 9600 ∧ (vp_in (((A 2 (g6 + 17) x3.toNatClampNeg) * (nI 6)) + (A 3 (g6 + 17) x3.toNatClampNeg)) 60 ∧ T89 C Q 81 [vO 6 o0, vI x1, vI x2, vI x3, vI (A 1 (g6 + 17) x3.toNatClampNeg), vI (A 2 (g6 + 17) x3.toNatClampNeg)] [] (I, [p0, p1, p2, p3, p4, vO 3 g5, vO 3 g6, p7, p8, p9], (j2_ast A 6001 o0 (((A 2 (g6 + 17) x3.toNatClampNeg) * (nI 6)) + (A 3 (g6 + 17) x3.toNatClampNeg)).toNatClampNeg (nI 0))))))))) ∧ (¬ (¬ (A 1 (g6 + 17) x3.toNatClampNeg) = (nI 21)) → (vp_in (A 2 (g6 + 17) x3.toNatClampNeg) 10 ∧ (vp_in x3 9600 ∧ (vp_in ((A 3007 g5 (A 2 (g6 + 17) x3.toNatClampNeg).toNatClampNeg) + (A 3 (g6 + 17) x3.toNatClampNeg)) 80 ∧ T89 C Q 81 [vO 6 o0, vI x1, vI x2, vI x3, vI (A 1 (g6 + 17) x3.toNatClampNeg), vI (A 2 (g6 + 17) x3.toNatClampNeg)] [] (I, [p0, p1, p2, p3, p4, vO 3 g5, vO 3 g6, p7, p8, p9], (j2_ast A 6002 o0 ((A 3007 g5 (A 2 (g6 + 17) x3.toNatClampNeg).toNatClampNeg) + (A 3 (g6 + 17) x3.toNatClampNeg)).toNatClampNeg (nI 0))))))))) ∧ (¬ (¬ (A 1 (g6 + 17) x3.toNatClampNeg) = (nI 25)) → T89 C Q 36 [vO 6 o0, vI x1, vI x2, vI x3, vI (A 1 (g6 + 17) x3.toNatClampNeg), vI (A 2 (g6 + 17) x3.toNatClampNeg)] [] (I, [p0, p1, p2, p3, p4, vO 3 g5, vO 3 g6, p7, p8, p9], A))))))))))) :
  T89 C Q 6 [vO 6 o0, vI x1, vI x2, vI x3, w4, w5] [] (I, [p0, p1, p2, p3, p4, vO 3 g5, vO 3 g6, p7, p8, p9], A) := j2_T.go hC [0, 6, 36, 81] 400 h
set_option maxRecDepth 100000 in
theorem b89_36 {C : j2_C} (hC : j2_up1 C) {Q : j2_P} {o0 : Nat} {x1 : Int32} {x2 : Int32} {x3 : Int32} {x4 : Int32} {x5 : Int32} {p0 : j2_W} {p1 : j2_W} {p2 : j2_W} {p3 : j2_W} {p4 : j2_W} {g5 : Nat} {g6 : Nat} {p7 : j2_W} {p8 : j2_W} {p9 : j2_W} {I : Nat → Nat → Int32} {A : Nat → Nat → Nat → Int32}
  (h : (vp_in x5 10 ∧ T89 C Q 81 [vO 6 o0, vI x1, vI x2, vI x3, vI x4, vI x5] [] (I, [p0, p1, p2, p3, p4, vO 3 g5, vO 3 g6, p7, p8, p9], (j2_ast A 6000 o0 x5.toNatClampNeg (nI 0))))) :
  T89 C Q 36 [vO 6 o0, vI x1, vI x2, vI x3, vI x4, vI x5] [] (I, [p0, p1, p2, p3, p4, vO 3 g5, vO 3 g6, p7, p8, p9], A) := j2_T.go hC [0, 6, 36, 81] 400 h
set_option maxRecDepth 100000 in
theorem b89_81 {C : j2_C} (hC : j2_up1 C) {Q : j2_P} {o0 : Nat} {x1 : Int32} {x2 : Int32} {x3 : Int32} {x4 : Int32} {x5 : Int32} {p0 : j2_W} {p1 : j2_W} {p2 : j2_W} {p3 : j2_W} {p4 : j2_W} {g5 : Nat} {g6 : Nat} {p7 : j2_W} {p8 : j2_W} {p9 : j2_W} {I : Nat → Nat → Int32} {A : Nat → Nat → Nat → Int32}
  (h : T89 C Q 6 [vO 6 o0, vI x1, vI x2, vI (x3 + (nI 1)), vI x4, vI x5] [] (I, [p0, p1, p2, p3, p4, vO 3 g5, vO 3 g6, p7, p8, p9], A)) :
  T89 C Q 81 [vO 6 o0, vI x1, vI x2, vI x3, vI x4, vI x5] [] (I, [p0, p1, p2, p3, p4, vO 3 g5, vO 3 g6, p7, p8, p9], A) := j2_T.go hC [0, 6, 36, 81] 400 h
abbrev T90 (C : j2_C) (Q : j2_P) : j2_K := j2_T C jc_X6_markMembers none Q
set_option maxRecDepth 100000 in
theorem b90_0 {C : j2_C} (hC : j2_up1 C) {Q : j2_P} {o0 : Nat} {x1 : Int32} {p0 : j2_W} {p1 : j2_W} {p2 : j2_W} {p3 : j2_W} {p4 : j2_W} {g5 : Nat} {p6 : j2_W} {p7 : j2_W} {p8 : j2_W} {p9 : j2_W} {I : Nat → Nat → Int32} {A : Nat → Nat → Nat → Int32}
  (h : (vp_in x1 10 ∧ ((¬ (A 4001 (o0 + 9) x1.toNatClampNeg) = (nI 1) → T90 C Q 12 [vO 6 o0, vI x1, vM 2, vM 2] [] (I, [p0, p1, p2, p3, p4, vO 3 g5, p6, p7, p8, p9], A)) ∧ (¬ (¬ (A 4001 (o0 + 9) x1.toNatClampNeg) = (nI 1)) → (vp_in x1 10 ∧ T90 C Q 12 [vO 6 o0, vI x1, vM 2, vM 2] [] (I, [p0, p1, p2, p3, p4, vO 3 g5, p6, p7, p8, p9], (j2_ast A 6000 o0 x1.toNatClampNeg (nI 0)))))))) :
  T90 C Q 0 [vO 6 o0, vI x1, vM 2, vM 2] [] (I, [p0, p1, p2, p3, p4, vO 3 g5, p6, p7, p8, p9], A) := j2_T.go hC [0, 12, 14, 44, 48, 76] 400 h
set_option maxRecDepth 100000 in
theorem b90_12 {C : j2_C} (hC : j2_up1 C) {Q : j2_P} {o0 : Nat} {x1 : Int32} {p0 : j2_W} {p1 : j2_W} {p2 : j2_W} {p3 : j2_W} {p4 : j2_W} {g5 : Nat} {p6 : j2_W} {p7 : j2_W} {p8 : j2_W} {p9 : j2_W} {I : Nat → Nat → Int32} {A : Nat → Nat → Nat → Int32}
  (h : T90 C Q 14 [vO 6 o0, vI x1, vI (nI 0), vM 2] [] (I, [p0, p1, p2, p3, p4, vO 3 g5, p6, p7, p8, p9], A)) :
  T90 C Q 12 [vO 6 o0, vI x1, vM 2, vM 2] [] (I, [p0, p1, p2, p3, p4, vO 3 g5, p6, p7, p8, p9], A) := j2_T.go hC [0, 12, 14, 44, 48, 76] 400 h
set_option maxRecDepth 100000 in
theorem b90_14 {C : j2_C} (hC : j2_up1 C) {Q : j2_P} {o0 : Nat} {x1 : Int32} {x2 : Int32} {w3 : j2_W} {p0 : j2_W} {p1 : j2_W} {p2 : j2_W} {p3 : j2_W} {p4 : j2_W} {g5 : Nat} {p6 : j2_W} {p7 : j2_W} {p8 : j2_W} {p9 : j2_W} {I : Nat → Nat → Int32} {A : Nat → Nat → Nat → Int32}
  (h : (vp_in x1 10 ∧ (((A 3005 g5 x1.toNatClampNeg) ≤ x2 → T90 C Q 48 [vO 6 o0, vI x1, vI (nI 0), w3] [] (I, [p0, p1, p2, p3, p4, vO 3 g5, p6, p7, p8, p9], A)) ∧ (¬ ((A 3005 g5 x1.toNatClampNeg) ≤ x2) → (vp_in ((x1 * (nI 6)) + x2) 60 ∧ ((¬ (A 6001 o0 ((x1 * (nI 6)) + x2).toNatClampNeg) = 0 → T90 C Q 44 [vO 6 o0, vI x1, vI x2, vI ((x1 * (nI 6)) + x2)] [] (I, [p0, p1, p2, p3, p4, vO 3 g5, p6, p7, p8, p9], A)) ∧ (¬ (¬ (A 6001 o0 ((x1 * (nI 6)) + x2).toNatClampNeg) = 0) → (vp_in x1 10 ∧ (vp_in ((x1 * (nI 6)) + x2) 60 ∧ C 92 [vO 6 o0, vI ((j2_ast A 6000 o0 x1.toNatClampNeg (nI 0)) 3009 g5 ((x1 * (nI 6)) + x2).toNatClampNeg)] (I, [p0, p1, p2, p3, p4, vO 3 g5, p6, p7, p8, p9], (j2_ast A 6000 o0 x1.toNatClampNeg (nI 0))) (fun r σ1 => T90 C Q 44 [vO 6 o0, vI x1, vI x2, vI ((x1 * (nI 6)) + x2)] (r.toList ++ []) σ1)))))))))) :
  T90 C Q 14 [vO 6 o0, vI x1, vI x2, w3] [] (I, [p0, p1, p2, p3, p4, vO 3 g5, p6, p7, p8, p9], A) := j2_T.go hC [0, 12, 14, 44, 48, 76] 400 h
set_option maxRecDepth 100000 in
theorem b90_44 {C : j2_C} (hC : j2_up1 C) {Q : j2_P} {o0 : Nat} {x1 : Int32} {x2 : Int32} {x3 : Int32} {p0 : j2_W} {p1 : j2_W} {p2 : j2_W} {p3 : j2_W} {p4 : j2_W} {g5 : Nat} {p6 : j2_W} {p7 : j2_W} {p8 : j2_W} {p9 : j2_W} {I : Nat → Nat → Int32} {A : Nat → Nat → Nat → Int32}
  (h : T90 C Q 14 [vO 6 o0, vI x1, vI (x2 + (nI 1)), vI x3] [] (I, [p0, p1, p2, p3, p4, vO 3 g5, p6, p7, p8, p9], A)) :
  T90 C Q 44 [vO 6 o0, vI x1, vI x2, vI x3] [] (I, [p0, p1, p2, p3, p4, vO 3 g5, p6, p7, p8, p9], A) := j2_T.go hC [0, 12, 14, 44, 48, 76] 400 h
set_option maxRecDepth 100000 in
theorem b90_48 {C : j2_C} (hC : j2_up1 C) {Q : j2_P} {o0 : Nat} {x1 : Int32} {x2 : Int32} {w3 : j2_W} {p0 : j2_W} {p1 : j2_W} {p2 : j2_W} {p3 : j2_W} {p4 : j2_W} {g5 : Nat} {p6 : j2_W} {p7 : j2_W} {p8 : j2_W} {p9 : j2_W} {I : Nat → Nat → Int32} {A : Nat → Nat → Nat → Int32}
  (h : (vp_in x1 10 ∧ (((A 3006 g5 x1.toNatClampNeg) ≤ x2 → ((none : Option FieldType) = none ∧ Q none (I, [p0, p1, p2, p3, p4, vO 3 g5, p6, p7, p8, p9], A))) ∧ (¬ ((A 3006 g5 x1.toNatClampNeg) ≤ x2) → (vp_in x1 10 ∧ (vp_in ((A 3007 g5 x1.toNatClampNeg) + x2) 80 ∧ ((¬ (A 6002 o0 ((A 3007 g5 x1.toNatClampNeg) + x2).toNatClampNeg) = 0 → T90 C Q 76 [vO 6 o0, vI x1, vI x2, vI ((A 3007 g5 x1.toNatClampNeg) + x2)] [] (I, [p0, p1, p2, p3, p4, vO 3 g5, p6, p7, p8, p9], A)) ∧ (¬ (¬ (A 6002 o0 ((A 3007 g5 x1.toNatClampNeg) + x2).toNatClampNeg) = 0) → (vp_in x1 10 ∧ C 91 [vO 6 o0, vI ((A 3007 g5 x1.toNatClampNeg) + x2)] (I, [p0, p1, p2, p3, p4, vO 3 g5, p6, p7, p8, p9], (j2_ast A 6000 o0 x1.toNatClampNeg (nI 0))) (fun r σ1 => T90 C Q 76 [vO 6 o0, vI x1, vI x2, vI ((A 3007 g5 x1.toNatClampNeg) + x2)] (r.toList ++ []) σ1)))))))))) :
  T90 C Q 48 [vO 6 o0, vI x1, vI x2, w3] [] (I, [p0, p1, p2, p3, p4, vO 3 g5, p6, p7, p8, p9], A) := j2_T.go hC [0, 12, 14, 44, 48, 76] 400 h
set_option maxRecDepth 100000 in
theorem b90_76 {C : j2_C} (hC : j2_up1 C) {Q : j2_P} {o0 : Nat} {x1 : Int32} {x2 : Int32} {x3 : Int32} {p0 : j2_W} {p1 : j2_W} {p2 : j2_W} {p3 : j2_W} {p4 : j2_W} {g5 : Nat} {p6 : j2_W} {p7 : j2_W} {p8 : j2_W} {p9 : j2_W} {I : Nat → Nat → Int32} {A : Nat → Nat → Nat → Int32}
  (h : T90 C Q 48 [vO 6 o0, vI x1, vI (x2 + (nI 1)), vI x3] [] (I, [p0, p1, p2, p3, p4, vO 3 g5, p6, p7, p8, p9], A)) :
  T90 C Q 76 [vO 6 o0, vI x1, vI x2, vI x3] [] (I, [p0, p1, p2, p3, p4, vO 3 g5, p6, p7, p8, p9], A) := j2_T.go hC [0, 12, 14, 44, 48, 76] 400 h
abbrev T91 (C : j2_C) (Q : j2_P) : j2_K := j2_T C jc_X6_markFace none Q
set_option maxRecDepth 100000 in
theorem b91_0 {C : j2_C} (hC : j2_up1 C) {Q : j2_P} {o0 : Nat} {x1 : Int32} {p0 : j2_W} {p1 : j2_W} {p2 : j2_W} {p3 : j2_W} {p4 : j2_W} {g5 : Nat} {p6 : j2_W} {p7 : j2_W} {p8 : j2_W} {p9 : j2_W} {I : Nat → Nat → Int32} {A : Nat → Nat → Nat → Int32}
  (h : (vp_in x1 80 ∧ (((A 3014 g5 x1.toNatClampNeg) = 0 → T91 C Q 15 [vO 6 o0, vI x1, vM 2] [] (I, [p0, p1, p2, p3, p4, vO 3 g5, p6, p7, p8, p9], A)) ∧ (¬ ((A 3014 g5 x1.toNatClampNeg) = 0) → (vp_in x1 80 ∧ C 92 [vO 6 o0, vI ((A 3014 g5 x1.toNatClampNeg) - (nI 1))] (I, [p0, p1, p2, p3, p4, vO 3 g5, p6, p7, p8, p9], A) (fun r σ1 => T91 C Q 15 [vO 6 o0, vI x1, vM 2] (r.toList ++ []) σ1)))))) :
  T91 C Q 0 [vO 6 o0, vI x1, vM 2] [] (I, [p0, p1, p2, p3, p4, vO 3 g5, p6, p7, p8, p9], A) := j2_T.go hC [0, 15, 17, 35] 400 h
set_option maxRecDepth 100000 in
theorem b91_15 {C : j2_C} (hC : j2_up1 C) {Q : j2_P} {o0 : Nat} {x1 : Int32} {p0 : j2_W} {p1 : j2_W} {p2 : j2_W} {p3 : j2_W} {p4 : j2_W} {g5 : Nat} {p6 : j2_W} {p7 : j2_W} {p8 : j2_W} {p9 : j2_W} {I : Nat → Nat → Int32} {A : Nat → Nat → Nat → Int32}
  (h : T91 C Q 17 [vO 6 o0, vI x1, vI (nI 0)] [] (I, [p0, p1, p2, p3, p4, vO 3 g5, p6, p7, p8, p9], A)) :
  T91 C Q 15 [vO 6 o0, vI x1, vM 2] [] (I, [p0, p1, p2, p3, p4, vO 3 g5, p6, p7, p8, p9], A) := j2_T.go hC [0, 15, 17, 35] 400 h
set_option maxRecDepth 100000 in
theorem b91_17 {C : j2_C} (hC : j2_up1 C) {Q : j2_P} {o0 : Nat} {x1 : Int32} {x2 : Int32} {p0 : j2_W} {p1 : j2_W} {p2 : j2_W} {p3 : j2_W} {p4 : j2_W} {g5 : Nat} {p6 : j2_W} {p7 : j2_W} {p8 : j2_W} {p9 : j2_W} {I : Nat → Nat → Int32} {A : Nat → Nat → Nat → Int32}
  (h : (vp_in x1 80 ∧ (((A 3015 g5 x1.toNatClampNeg) ≤ x2 → ((none : Option FieldType) = none ∧ Q none (I, [p0, p1, p2, p3, p4, vO 3 g5, p6, p7, p8, p9], A))) ∧ (¬ ((A 3015 g5 x1.toNatClampNeg) ≤ x2) → (vp_in ((x1 * (nI 3)) + x2) 240 ∧ C 92 [vO 6 o0, vI (A 3016 g5 ((x1 * (nI 3)) + x2).toNatClampNeg)] (I, [p0, p1, p2, p3, p4, vO 3 g5, p6, p7, p8, p9], A) (fun r σ1 => T91 C Q 35 [vO 6 o0, vI x1, vI x2] (r.toList ++ []) σ1)))))) :
  T91 C Q 17 [vO 6 o0, vI x1, vI x2] [] (I, [p0, p1, p2, p3, p4, vO 3 g5, p6, p7, p8, p9], A) := j2_T.go hC [0, 15, 17, 35] 400 h
set_option maxRecDepth 100000 in
theorem b91_35 {C : j2_C} (hC : j2_up1 C) {Q : j2_P} {o0 : Nat} {x1 : Int32} {x2 : Int32} {p0 : j2_W} {p1 : j2_W} {p2 : j2_W} {p3 : j2_W} {p4 : j2_W} {g5 : Nat} {p6 : j2_W} {p7 : j2_W} {p8 : j2_W} {p9 : j2_W} {I : Nat → Nat → Int32} {A : Nat → Nat → Nat → Int32}
  (h : T91 C Q 17 [vO 6 o0, vI x1, vI (x2 + (nI 1))] [] (I, [p0, p1, p2, p3, p4, vO 3 g5, p6, p7, p8, p9], A)) :
  T91 C Q 35 [vO 6 o0, vI x1, vI x2] [] (I, [p0, p1, p2, p3, p4, vO 3 g5, p6, p7, p8, p9], A) := j2_T.go hC [0, 15, 17, 35] 400 h
abbrev T92 (C : j2_C) (Q : j2_P) : j2_K := j2_T C jc_X6_markType none Q
set_option maxRecDepth 100000 in
theorem b92_0 {C : j2_C} (hC : j2_up1 C) {Q : j2_P} {o0 : Nat} {x1 : Int32} {σ : j2_S}
  (h : ((x1 ≤ 0 → ((none : Option FieldType) = none ∧ Q none σ)) ∧ (¬ (x1 ≤ 0) → (vp_in (x1 - (nI 1)) 10 ∧ ((none : Option FieldType) = none ∧ Q none (σ.1, σ.2.1, (j2_ast σ.2.2 6000 o0 (x1 - (nI 1)).toNatClampNeg (nI 0)))))))) :
  T92 C Q 0 [vO 6 o0, vI x1] [] σ := j2_T.go hC [0] 400 h
abbrev T93 (C : j2_C) (Q : j2_P) : j2_K := j2_T C jc_X6_number none Q
set_option maxRecDepth 100000 in
theorem b93_0 {C : j2_C} (hC : j2_up1 C) {Q : j2_P} {o0 : Nat} {p0 : j2_W} {p1 : j2_W} {p2 : j2_W} {p3 : j2_W} {p4 : j2_W} {g5 : Nat} {g6 : Nat} {p7 : j2_W} {p8 : j2_W} {p9 : j2_W} {I : Nat → Nat → Int32} {A : Nat → Nat → Nat → Int32}
  (h : T93 C Q 6 [vO 6 o0, vI (nI 0), vI (nI 0), vI (nI 0), vM 2, vM 2] [] (I, [p0, p1, p2, p3, p4, vO 3 g5, vO 3 g6, p7, p8, p9], A)) :
  T93 C Q 0 [vO 6 o0, vM 2, vM 2, vM 2, vM 2, vM 2] [] (I, [p0, p1, p2, p3, p4, vO 3 g5, vO 3 g6, p7, p8, p9], A) := j2_T.go hC [0, 6, 22, 28, 50, 56, 72] 400 h
set_option maxRecDepth 100000 in
theorem b93_6 {C : j2_C} (hC : j2_up1 C) {Q : j2_P} {o0 : Nat} {x1 : Int32} {x2 : Int32} {x3 : Int32} {w4 : j2_W} {w5 : j2_W} {p0 : j2_W} {p1 : j2_W} {p2 : j2_W} {p3 : j2_W} {p4 : j2_W} {g5 : Nat} {g6 : Nat} {p7 : j2_W} {p8 : j2_W} {p9 : j2_W} {I : Nat → Nat → Int32} {A : Nat → Nat → Nat → Int32}
  (h : (((I 3000 g5) ≤ x3 → T93 C Q 56 [vO 6 o0, vI x1, vI x2, vI (nI 0), w4, w5] [] (I, [p0, p1, p2, p3, p4, vO 3 g5, vO 3 g6, p7, p8, p9], A)) ∧ (¬ ((I 3000 g5) ≤ x3) → (vp_in x3 10 ∧ ((¬ (A 6000 o0 x3.toNatClampNeg) = 0 → T93 C Q 22 [vO 6 o0, vI x1, vI x2, vI x3, w4, w5] [] (I, [p0, p1, p2, p3, p4, vO 3 g5, vO 3 g6, p7, p8, p9], A)) ∧ (¬ (¬ (A 6000 o0 x3.toNatClampNeg) = 0) → (vp_in x3 10 ∧ T93 C Q 22 [vO 6 o0, vI (x1 + (nI 1)), vI x2, vI x3, w4, w5] [] (I, [p0, p1, p2, p3, p4, vO 3 g5, vO 3 g6, p7, p8, p9], (j2_ast A 6000 o0 x3.toNatClampNeg x1))))))))) :
  T93 C Q 6 [vO 6 o0, vI x1, vI x2, vI x3, w4, w5] [] (I, [p0, p1, p2, p3, p4, vO 3 g5, vO 3 g6, p7, p8, p9], A) := j2_T.go hC [0, 6, 22, 28, 50, 56, 72] 400 h
set_option maxRecDepth 100000 in
theorem b93_22 {C : j2_C} (hC : j2_up1 C) {Q : j2_P} {o0 : Nat} {x1 : Int32} {x2 : Int32} {x3 : Int32} {w4 : j2_W} {w5 : j2_W} {p0 : j2_W} {p1 : j2_W} {p2 : j2_W} {p3 : j2_W} {p4 : j2_W} {g5 : Nat} {g6 : Nat} {p7 : j2_W} {p8 : j2_W} {p9 : j2_W} {I : Nat → Nat → Int32} {A : Nat → Nat → Nat → Int32}
  (h : T93 C Q 28 [vO 6 o0, vI x1, vI x2, vI x3, vI (nI 0), vI (x3 * (nI 6))] [] (I, [p0, p1, p2, p3, p4, vO 3 g5, vO 3 g6, p7, p8, p9], A)) :
  T93 C Q 22 [vO 6 o0, vI x1, vI x2, vI x3, w4, w5] [] (I, [p0, p1, p2, p3, p4, vO 3 g5, vO 3 g6, p7, p8, p9], A) := j2_T.go hC [0, 6, 22, 28, 50, 56, 72] 400 h
set_option maxRecDepth 100000 in
theorem b93_28 {C : j2_C} (hC : j2_up1 C) {Q : j2_P} {o0 : Nat} {x1 : Int32} {x2 : Int32} {x3 : Int32} {x4 : Int32} {x5 : Int32} {p0 : j2_W} {p1 : j2_W} {p2 : j2_W} {p3 : j2_W} {p4 : j2_W} {g5 : Nat} {g6 : Nat} {p7 : j2_W} {p8 : j2_W} {p9 : j2_W} {I : Nat → Nat → Int32} {A : Nat → Nat → Nat → Int32}
  (h : (vp_in x3 10 ∧ ((((x3 * (nI 6)) + (A 3005 g5 x3.toNatClampNeg)) ≤ x5 → T93 C Q 6 [vO 6 o0, vI x1, vI x2, vI (x3 + (nI 1)), vI x4, vI x5] [] (I, [p0, p1, p2, p3, p4, vO 3 g5, vO 3 g6, p7, p8, p9], A)) ∧ (¬ (((x3 * (nI 6)) + (A 3005 g5 x3.toNatClampNeg)) ≤ x5) → (vp_in x5 60 ∧ ((¬ (A 6001 o0 x5.toNatClampNeg) = 0 → T93 C Q 50 [vO 6 o0, vI x1, vI x2, vI x3, vI x4, vI x5] [] (I, [p0, p1, p2, p3, p4, vO 3 g5, vO 3 g6, p7, p8, p9], A)) ∧ (¬ (¬ (A 6001 o0 x5.toNatClampNeg) = 0) → (vp_in x5 60 ∧ T93 C Q 50 [vO 6 o0, vI x1, vI x2, vI x3, vI (x4 + (nI 1)), vI x5] [] (I, [p0, p1, p2, p3, p4, vO 3 g5, vO 3 g6, p7, p8, p9], (j2_ast A 6001 o0 x5.toNatClampNeg x4)))))))))) :
  T93 C Q 28 [vO 6 o0, vI x1, vI x2, vI x3, vI x4, vI x5] [] (I, [p0, p1, p2, p3, p4, vO 3 g5, vO 3 g6, p7, p8, p9], A) := j2_T.go hC [0, 6, 22, 28, 50, 56, 72] 400 h
set_option maxRecDepth 100000 in
theorem b93_50 {C : j2_C} (hC : j2_up1 C) {Q : j2_P} {o0 : Nat} {x1 : Int32} {x2 : Int32} {x3 : Int32} {x4 : Int32} {x5 : Int32} {p0 : j2_W} {p1 : j2_W} {p2 : j2_W} {p3 : j2_W} {p4 : j2_W} {g5 : Nat} {g6 : Nat} {p7 : j2_W} {p8 : j2_W} {p9 : j2_W} {I : Nat → Nat → Int32} {A : Nat → Nat → Nat → Int32}
  (h : T93 C Q 28 [vO 6 o0, vI x1, vI x2, vI x3, vI x4, vI (x5 + (nI 1))] [] (I, [p0, p1, p2, p3, p4, vO 3 g5, vO 3 g6, p7, p8, p9], A)) :
  T93 C Q 50 [vO 6 o0, vI x1, vI x2, vI x3, vI x4, vI x5] [] (I, [p0, p1, p2, p3, p4, vO 3 g5, vO 3 g6, p7, p8, p9], A) := j2_T.go hC [0, 6, 22, 28, 50, 56, 72] 400 h
set_option maxRecDepth 100000 in
theorem b93_56 {C : j2_C} (hC : j2_up1 C) {Q : j2_P} {o0 : Nat} {x1 : Int32} {x2 : Int32} {x3 : Int32} {w4 : j2_W} {w5 : j2_W} {p0 : j2_W} {p1 : j2_W} {p2 : j2_W} {p3 : j2_W} {p4 : j2_W} {g5 : Nat} {g6 : Nat} {p7 : j2_W} {p8 : j2_W} {p9 : j2_W} {I : Nat → Nat → Int32} {A : Nat → Nat → Nat → Int32}
  (h : (((I 3001 g5) ≤ x3 → ((none : Option FieldType) = none ∧ Q none ((j2_up (j2_up I 3000 g6 x1) 3001 g6 x2), [p0, p1, p2, p3, p4, vO 3 g5, vO 3 g6, p7, p8, p9], A))) ∧ (¬ ((I 3001 g5) ≤ x3) → (vp_in x3 80 ∧ ((¬ (A 6002 o0 x3.toNatClampNeg) = 0 → T93 C Q 72 [vO 6 o0, vI x1, vI x2, vI x3, w4, w5] [] (I, [p0, p1, p2, p3, p4, vO 3 g5, vO 3 g6, p7, p8, p9], A)) ∧ (¬ (¬ (A 6002 o0 x3.toNatClampNeg) = 0) → (vp_in x3 80 ∧ T93 C Q 72 [vO 6 o0, vI x1, vI (x2 + (nI 1)), vI x3, w4, w5] [] (I, [p0, p1, p2, p3, p4, vO 3 g5, vO 3 g6, p7, p8, p9], (j2_ast A 6002 o0 x3.toNatClampNeg x2))))))))) :
  T93 C Q 56 [vO 6 o0, vI x1, vI x2, vI x3, w4, w5] [] (I, [p0, p1, p2, p3, p4, vO 3 g5, vO 3 g6, p7, p8, p9], A) := j2_T.go hC [0, 6, 22, 28, 50, 56, 72] 400 h
set_option maxRecDepth 100000 in
theorem b93_72 {C : j2_C} (hC : j2_up1 C) {Q : j2_P} {o0 : Nat} {x1 : Int32} {x2 : Int32} {x3 : Int32} {w4 : j2_W} {w5 : j2_W} {p0 : j2_W} {p1 : j2_W} {p2 : j2_W} {p3 : j2_W} {p4 : j2_W} {g5 : Nat} {g6 : Nat} {p7 : j2_W} {p8 : j2_W} {p9 : j2_W} {I : Nat → Nat → Int32} {A : Nat → Nat → Nat → Int32}
  (h : T93 C Q 56 [vO 6 o0, vI x1, vI x2, vI (x3 + (nI 1)), w4, w5] [] (I, [p0, p1, p2, p3, p4, vO 3 g5, vO 3 g6, p7, p8, p9], A)) :
  T93 C Q 72 [vO 6 o0, vI x1, vI x2, vI x3, w4, w5] [] (I, [p0, p1, p2, p3, p4, vO 3 g5, vO 3 g6, p7, p8, p9], A) := j2_T.go hC [0, 6, 22, 28, 50, 56, 72] 400 h
abbrev T94 (C : j2_C) (Q : j2_P) : j2_K := j2_T C jc_X6_nameMethods none Q
set_option maxRecDepth 100000 in
theorem b94_0 {C : j2_C} (hC : j2_up1 C) {Q : j2_P} {o0 : Nat} {p0 : j2_W} {p1 : j2_W} {p2 : j2_W} {p3 : j2_W} {p4 : j2_W} {g5 : Nat} {p6 : j2_W} {p7 : j2_W} {p8 : j2_W} {p9 : j2_W} {I : Nat → Nat → Int32} {A : Nat → Nat → Nat → Int32}
  (h : T94 C Q 2 [vO 6 o0, vI (nI 0), vM 2] [] (I, [p0, p1, p2, p3, p4, vO 3 g5, p6, p7, p8, p9], A)) :
  T94 C Q 0 [vO 6 o0, vM 2, vM 2] [] (I, [p0, p1, p2, p3, p4, vO 3 g5, p6, p7, p8, p9], A) := j2_T.go hC [0, 2, 16, 26, 31, 32] 400 h
set_option maxRecDepth 100000 in
theorem b94_2 {C : j2_C} (hC : j2_up1 C) {Q : j2_P} {o0 : Nat} {x1 : Int32} {w2 : j2_W} {p0 : j2_W} {p1 : j2_W} {p2 : j2_W} {p3 : j2_W} {p4 : j2_W} {g5 : Nat} {p6 : j2_W} {p7 : j2_W} {p8 : j2_W} {p9 : j2_W} {I : Nat → Nat → Int32} {A : Nat → Nat → Nat → Int32}
  (h : (((I 3001 g5) ≤ x1 → ((none : Option FieldType) = none ∧ Q none (I, [p0, p1, p2, p3, p4, vO 3 g5, p6, p7, p8, p9], A))) ∧ (¬ ((I 3001 g5) ≤ x1) → (vp_in x1 80 ∧ (((A 6002 o0 x1.toNatClampNeg) = (-1 : Int32) → T94 C Q 32 [vO 6 o0, vI x1, w2] [] (I, [p0, p1, p2, p3, p4, vO 3 g5, p6, p7, p8, p9], A)) ∧ (¬ ((A 6002 o0 x1.toNatClampNeg) = (-1 : Int32)) → C 95 [vO 6 o0, vI x1] (I, [p0, p1, p2, p3, p4, vO 3 g5, p6, p7, p8, p9], A) (fun r σ1 => T94 C Q 16 [vO 6 o0, vI x1, w2] (r.toList ++ []) σ1))))))) :
  T94 C Q 2 [vO 6 o0, vI x1, w2] [] (I, [p0, p1, p2, p3, p4, vO 3 g5, p6, p7, p8, p9], A) := j2_T.go hC [0, 2, 16, 26, 31, 32] 400 h
set_option maxRecDepth 100000 in
theorem b94_16 {C : j2_C} (hC : j2_up1 C) {Q : j2_P} {o0 : Nat} {x1 : Int32} {w2 : j2_W} {xs0 : Int32} {p0 : j2_W} {p1 : j2_W} {p2 : j2_W} {p3 : j2_W} {p4 : j2_W} {g5 : Nat} {p6 : j2_W} {p7 : j2_W} {p8 : j2_W} {p9 : j2_W} {I : Nat → Nat → Int32} {A : Nat → Nat → Nat → Int32}
  (h : ((¬ xs0 = (-1 : Int32) → (vp_in xs0 80 ∧ T94 C Q 31 [vO 6 o0, vI x1, vI xs0] [vI (A 6011 o0 xs0.toNatClampNeg), vI x1, vA 6011 o0] (I, [p0, p1, p2, p3, p4, vO 3 g5, p6, p7, p8, p9], A))) ∧ (¬ (¬ xs0 = (-1 : Int32)) → C 96 [vO 6 o0, vI x1] (I, [p0, p1, p2, p3, p4, vO 3 g5, p6, p7, p8, p9], A) (fun r σ1 => T94 C Q 26 [vO 6 o0, vI x1, vI xs0] (r.toList ++ [vI x1, vA 6011 o0]) σ1)))) :
  T94 C Q 16 [vO 6 o0, vI x1, w2] [vI xs0] (I, [p0, p1, p2, p3, p4, vO 3 g5, p6, p7, p8, p9], A) := j2_T.go hC [0, 2, 16, 26, 31, 32] 400 h
set_option maxRecDepth 100000 in
theorem b94_26 {C : j2_C} (hC : j2_up1 C) {Q : j2_P} {o0 : Nat} {x1 : Int32} {x2 : Int32} {xs0 : Int32} {xs1 : Int32} {os2 : Nat} {p0 : j2_W} {p1 : j2_W} {p2 : j2_W} {p3 : j2_W} {p4 : j2_W} {g5 : Nat} {p6 : j2_W} {p7 : j2_W} {p8 : j2_W} {p9 : j2_W} {I : Nat → Nat → Int32} {A : Nat → Nat → Nat → Int32}
  (h : T94 C Q 31 [vO 6 o0, vI x1, vI x2] [vI xs0, vI xs1, vA 6011 os2] (I, [p0, p1, p2, p3, p4, vO 3 g5, p6, p7, p8, p9], A)) :
  T94 C Q 26 [vO 6 o0, vI x1, vI x2] [vI xs0, vI xs1, vA 6011 os2] (I, [p0, p1, p2, p3, p4, vO 3 g5, p6, p7, p8, p9], A) := j2_T.go hC [0, 2, 16, 26, 31, 32] 400 h
set_option maxRecDepth 100000 in
theorem b94_31 {C : j2_C} (hC : j2_up1 C) {Q : j2_P} {o0 : Nat} {x1 : Int32} {x2 : Int32} {xs0 : Int32} {xs1 : Int32} {os2 : Nat} {p0 : j2_W} {p1 : j2_W} {p2 : j2_W} {p3 : j2_W} {p4 : j2_W} {g5 : Nat} {p6 : j2_W} {p7 : j2_W} {p8 : j2_W} {p9 : j2_W} {I : Nat → Nat → Int32} {A : Nat → Nat → Nat → Int32}
  (h : (vp_in xs1 80 ∧ T94 C Q 32 [vO 6 o0, vI x1, vI x2] [] (I, [p0, p1, p2, p3, p4, vO 3 g5, p6, p7, p8, p9], (j2_ast A 6011 os2 xs1.toNatClampNeg xs0)))) :
  T94 C Q 31 [vO 6 o0, vI x1, vI x2] [vI xs0, vI xs1, vA 6011 os2] (I, [p0, p1, p2, p3, p4, vO 3 g5, p6, p7, p8, p9], A) := j2_T.go hC [0, 2, 16, 26, 31, 32] 400 h
set_option maxRecDepth 100000 in
theorem b94_32 {C : j2_C} (hC : j2_up1 C) {Q : j2_P} {o0 : Nat} {x1 : Int32} {w2 : j2_W} {p0 : j2_W} {p1 : j2_W} {p2 : j2_W} {p3 : j2_W} {p4 : j2_W} {g5 : Nat} {p6 : j2_W} {p7 : j2_W} {p8 : j2_W} {p9 : j2_W} {I : Nat → Nat → Int32} {A : Nat → Nat → Nat → Int32}
  (h : T94 C Q 2 [vO 6 o0, vI (x1 + (nI 1)), w2] [] (I, [p0, p1, p2, p3, p4, vO 3 g5, p6, p7, p8, p9], A)) :
  T94 C Q 32 [vO 6 o0, vI x1, w2] [] (I, [p0, p1, p2, p3, p4, vO 3 g5, p6, p7, p8, p9], A) := j2_T.go hC [0, 2, 16, 26, 31, 32] 400 h
abbrev T95 (C : j2_C) (Q : j2_P) : j2_K := j2_T C jc_X6_nearestAbove (some .int) Q
set_option maxRecDepth 100000 in
theorem b95_0 {C : j2_C} (hC : j2_up1 C) {Q : j2_P} {o0 : Nat} {x1 : Int32} {p0 : j2_W} {p1 : j2_W} {p2 : j2_W} {p3 : j2_W} {p4 : j2_W} {g5 : Nat} {p6 : j2_W} {p7 : j2_W} {p8 : j2_W} {p9 : j2_W} {I : Nat → Nat → Int32} {A : Nat → Nat → Nat → Int32}
  (h : (vp_in x1 80 ∧ (vp_in (A 3011 g5 x1.toNatClampNeg) 10 ∧ T95 C Q 12 [vO 6 o0, vI x1, vI (A 3003 g5 (A 3011 g5 x1.toNatClampNeg).toNatClampNeg), vI (nI 0), vM 2] [] (I, [p0, p1, p2, p3, p4, vO 3 g5, p6, p7, p8, p9], A)))) :
  T95 C Q 0 [vO 6 o0, vI x1, vM 2, vM 2, vM 2] [] (I, [p0, p1, p2, p3, p4, vO 3 g5, p6, p7, p8, p9], A) := j2_T.go hC [0, 12, 26, 38] 400 h
set_option maxRecDepth 100000 in
theorem b95_12 {C : j2_C} (hC : j2_up1 C) {Q : j2_P} {o0 : Nat} {x1 : Int32} {x2 : Int32} {x3 : Int32} {w4 : j2_W} {p0 : j2_W} {p1 : j2_W} {p2 : j2_W} {p3 : j2_W} {p4 : j2_W} {g5 : Nat} {p6 : j2_W} {p7 : j2_W} {p8 : j2_W} {p9 : j2_W} {I : Nat → Nat → Int32} {A : Nat → Nat → Nat → Int32}
  (h : (((nI 10) ≤ x3 → (True ∧ Q (some (vI (-1 : Int32))) (I, [p0, p1, p2, p3, p4, vO 3 g5, p6, p7, p8, p9], A))) ∧ (¬ ((nI 10) ≤ x3) → ((x2 < 0 → (True ∧ Q (some (vI (-1 : Int32))) (I, [p0, p1, p2, p3, p4, vO 3 g5, p6, p7, p8, p9], A))) ∧ (¬ (x2 < 0) → (vp_in x1 80 ∧ C 50 [vO 3 g5, vI x2, vI (A 3012 g5 x1.toNatClampNeg)] (I, [p0, p1, p2, p3, p4, vO 3 g5, p6, p7, p8, p9], A) (fun r σ1 => T95 C Q 26 [vO 6 o0, vI x1, vI x2, vI x3, w4] (r.toList ++ []) σ1))))))) :
  T95 C Q 12 [vO 6 o0, vI x1, vI x2, vI x3, w4] [] (I, [p0, p1, p2, p3, p4, vO 3 g5, p6, p7, p8, p9], A) := j2_T.go hC [0, 12, 26, 38] 400 h
set_option maxRecDepth 100000 in
theorem b95_26 {C : j2_C} (hC : j2_up1 C) {Q : j2_P} {o0 : Nat} {x1 : Int32} {x2 : Int32} {x3 : Int32} {w4 : j2_W} {xs0 : Int32} {p0 : j2_W} {p1 : j2_W} {p2 : j2_W} {p3 : j2_W} {p4 : j2_W} {g5 : Nat} {p6 : j2_W} {p7 : j2_W} {p8 : j2_W} {p9 : j2_W} {I : Nat → Nat → Int32} {A : Nat → Nat → Nat → Int32}
  (h : ((xs0 = (-1 : Int32) → T95 C Q 38 [vO 6 o0, vI x1, vI x2, vI x3, vI xs0] [] (I, [p0, p1, p2, p3, p4, vO 3 g5, p6, p7, p8, p9], A)) ∧ (¬ (xs0 = (-1 : Int32)) → (vp_in xs0 80 ∧ (((A 6002 o0 xs0.toNatClampNeg) = (-1 : Int32) → T95 C Q 38 [vO 6 o0, vI x1, vI x2, vI x3, vI xs0] [] (I, [p0, p1, p2, p3, p4, vO 3 g5, p6, p7, p8, p9], A)) ∧ (¬ ((A 6002 o0 xs0.toNatClampNeg) = (-1 : Int32)) → (True ∧ Q (some (vI xs0)) (I, [p0, p1, p2, p3, p4, vO 3 g5, p6, p7, p8, p9], A)))))))) :
  T95 C Q 26 [vO 6 o0, vI x1, vI x2, vI x3, w4] [vI xs0] (I, [p0, p1, p2, p3, p4, vO 3 g5, p6, p7, p8, p9], A) := j2_T.go hC [0, 12, 26, 38] 400 h
set_option maxRecDepth 100000 in
theorem b95_38 {C : j2_C} (hC : j2_up1 C) {Q : j2_P} {o0 : Nat} {x1 : Int32} {x2 : Int32} {x3 : Int32} {x4 : Int32} {p0 : j2_W} {p1 : j2_W} {p2 : j2_W} {p3 : j2_W} {p4 : j2_W} {g5 : Nat} {p6 : j2_W} {p7 : j2_W} {p8 : j2_W} {p9 : j2_W} {I : Nat → Nat → Int32} {A : Nat → Nat → Nat → Int32}
  (h : (vp_in x2 10 ∧ T95 C Q 12 [vO 6 o0, vI x1, vI (A 3003 g5 x2.toNatClampNeg), vI (x3 + (nI 1)), vI x4] [] (I, [p0, p1, p2, p3, p4, vO 3 g5, p6, p7, p8, p9], A))) :
  T95 C Q 38 [vO 6 o0, vI x1, vI x2, vI x3, vI x4] [] (I, [p0, p1, p2, p3, p4, vO 3 g5, p6, p7, p8, p9], A) := j2_T.go hC [0, 12, 26, 38] 400 h
abbrev T96 (C : j2_C) (Q : j2_P) : j2_K := j2_T C jc_X6_leastFree (some .int) Q
set_option maxRecDepth 100000 in
theorem b96_0 {C : j2_C} (hC : j2_up1 C) {Q : j2_P} {o0 : Nat} {x1 : Int32} {σ : j2_S}
  (h : T96 C Q 4 [vO 6 o0, vI x1, vI (nI 1), vI (nI 0)] [] σ) :
  T96 C Q 0 [vO 6 o0, vI x1, vM 2, vM 2] [] σ := j2_T.go hC [0, 4, 11] 400 h
set_option maxRecDepth 100000 in
theorem b96_4 {C : j2_C} (hC : j2_up1 C) {Q : j2_P} {o0 : Nat} {x1 : Int32} {x2 : Int32} {x3 : Int32} {σ : j2_S}
  (h : (((nI 80) ≤ x3 → (True ∧ Q (some (vI x2)) σ)) ∧ (¬ ((nI 80) ≤ x3) → C 97 [vO 6 o0, vI x1, vI x2] σ (fun r σ1 => T96 C Q 11 [vO 6 o0, vI x1, vI x2, vI x3] (r.toList ++ []) σ1)))) :
  T96 C Q 4 [vO 6 o0, vI x1, vI x2, vI x3] [] σ := j2_T.go hC [0, 4, 11] 400 h
set_option maxRecDepth 100000 in
theorem b96_11 {C : j2_C} (hC : j2_up1 C) {Q : j2_P} {o0 : Nat} {x1 : Int32} {x2 : Int32} {x3 : Int32} {xs0 : Int32} {σ : j2_S}
  (h : ((xs0 = 0 → (True ∧ Q (some (vI x2)) σ)) ∧ (¬ (xs0 = 0) → T96 C Q 4 [vO 6 o0, vI x1, vI (x2 + (nI 1)), vI (x3 + (nI 1))] [] σ))) :
  T96 C Q 11 [vO 6 o0, vI x1, vI x2, vI x3] [vI xs0] σ := j2_T.go hC [0, 4, 11] 400 h
abbrev T97 (C : j2_C) (Q : j2_P) : j2_K := j2_T C jc_X6_isTaken (some .boolean) Q
set_option maxRecDepth 100000 in
theorem b97_0 {C : j2_C} (hC : j2_up1 C) {Q : j2_P} {o0 : Nat} {x1 : Int32} {x2 : Int32} {p0 : j2_W} {p1 : j2_W} {p2 : j2_W} {p3 : j2_W} {p4 : j2_W} {g5 : Nat} {p6 : j2_W} {p7 : j2_W} {p8 : j2_W} {p9 : j2_W} {I : Nat → Nat → Int32} {A : Nat → Nat → Nat → Int32}
  (h : T97 C Q 2 [vO 6 o0, vI x1, vI x2, vI (nI 0)] [] (I, [p0, p1, p2, p3, p4, vO 3 g5, p6, p7, p8, p9], A)) :
  T97 C Q 0 [vO 6 o0, vI x1, vI x2, vM 2] [] (I, [p0, p1, p2, p3, p4, vO 3 g5, p6, p7, p8, p9], A) := j2_T.go hC [0, 2, 30, 33] 400 h
set_option maxRecDepth 100000 in
theorem b97_2 {C : j2_C} (hC : j2_up1 C) {Q : j2_P} {o0 : Nat} {x1 : Int32} {x2 : Int32} {x3 : Int32} {p0 : j2_W} {p1 : j2_W} {p2 : j2_W} {p3 : j2_W} {p4 : j2_W} {g5 : Nat} {p6 : j2_W} {p7 : j2_W} {p8 : j2_W} {p9 : j2_W} {I : Nat → Nat → Int32} {A : Nat → Nat → Nat → Int32}
  (h : ((x1 ≤ x3 → (((nI 0) = 0 ∨ (nI 0) = 1) ∧ Q (some (vI (nI 0))) (I, [p0, p1, p2, p3, p4, vO 3 g5, p6, p7, p8, p9], A))) ∧ (¬ (x1 ≤ x3) → (vp_in x3 80 ∧ (((A 6002 o0 x3.toNatClampNeg) = (-1 : Int32) → T97 C Q 33 [vO 6 o0, vI x1, vI x2, vI x3] [] (I, [p0, p1, p2, p3, p4, vO 3 g5, p6, p7, p8, p9], A)) ∧ (¬ ((A 6002 o0 x3.toNatClampNeg) = (-1 : Int32)) → (vp_in x3 80 ∧ ((¬ (A 6011 o0 x3.toNatClampNeg) = x2 → T97 C Q 33 [vO 6 o0, vI x1, vI x2, vI x3] [] (I, [p0, p1, p2, p3, p4, vO 3 g5, p6, p7, p8, p9], A)) ∧ (¬ (¬ (A 6011 o0 x3.toNatClampNeg) = x2) → (vp_in x3 80 ∧ (vp_in x1 80 ∧ C 48 [vO 3 g5, vI (A 3011 g5 x3.toNatClampNeg), vI (A 3011 g5 x1.toNatClampNeg)] (I, [p0, p1, p2, p3, p4, vO 3 g5, p6, p7, p8, p9], A) (fun r σ1 => T97 C Q 30 [vO 6 o0, vI x1, vI x2, vI x3] (r.toList ++ []) σ1)))))))))))) :
  T97 C Q 2 [vO 6 o0, vI x1, vI x2, vI x3] [] (I, [p0, p1, p2, p3, p4, vO 3 g5, p6, p7, p8, p9], A) := j2_T.go hC [0, 2, 30, 33] 400 h
set_option maxRecDepth 100000 in
theorem b97_30 {C : j2_C} (hC : j2_up1 C) {Q : j2_P} {o0 : Nat} {x1 : Int32} {x2 : Int32} {x3 : Int32} {xs0 : Int32} {p0 : j2_W} {p1 : j2_W} {p2 : j2_W} {p3 : j2_W} {p4 : j2_W} {g5 : Nat} {p6 : j2_W} {p7 : j2_W} {p8 : j2_W} {p9 : j2_W} {I : Nat → Nat → Int32} {A : Nat → Nat → Nat → Int32}
  (h : ((xs0 = 0 → T97 C Q 33 [vO 6 o0, vI x1, vI x2, vI x3] [] (I, [p0, p1, p2, p3, p4, vO 3 g5, p6, p7, p8, p9], A)) ∧ (¬ (xs0 = 0) → (((nI 1) = 0 ∨ (nI 1) = 1) ∧ Q (some (vI (nI 1))) (I, [p0, p1, p2, p3, p4, vO 3 g5, p6, p7, p8, p9], A))))) :
  T97 C Q 30 [vO 6 o0, vI x1, vI x2, vI x3] [vI xs0] (I, [p0, p1, p2, p3, p4, vO 3 g5, p6, p7, p8, p9], A) := j2_T.go hC [0, 2, 30, 33] 400 h
set_option maxRecDepth 100000 in
theorem b97_33 {C : j2_C} (hC : j2_up1 C) {Q : j2_P} {o0 : Nat} {x1 : Int32} {x2 : Int32} {x3 : Int32} {p0 : j2_W} {p1 : j2_W} {p2 : j2_W} {p3 : j2_W} {p4 : j2_W} {g5 : Nat} {p6 : j2_W} {p7 : j2_W} {p8 : j2_W} {p9 : j2_W} {I : Nat → Nat → Int32} {A : Nat → Nat → Nat → Int32}
  (h : T97 C Q 2 [vO 6 o0, vI x1, vI x2, vI (x3 + (nI 1))] [] (I, [p0, p1, p2, p3, p4, vO 3 g5, p6, p7, p8, p9], A)) :
  T97 C Q 33 [vO 6 o0, vI x1, vI x2, vI x3] [] (I, [p0, p1, p2, p3, p4, vO 3 g5, p6, p7, p8, p9], A) := j2_T.go hC [0, 2, 30, 33] 400 h
abbrev T98 (C : j2_C) (Q : j2_P) : j2_K := j2_T C jc_X6_writeClasses none Q
set_option maxRecDepth 100000 in
theorem b98_0 {C : j2_C} (hC : j2_up1 C) {Q : j2_P} {o0 : Nat} {p0 : j2_W} {p1 : j2_W} {p2 : j2_W} {p3 : j2_W} {p4 : j2_W} {g5 : Nat} {g6 : Nat} {p7 : j2_W} {p8 : j2_W} {p9 : j2_W} {I : Nat → Nat → Int32} {A : Nat → Nat → Nat → Int32}
  (h : T98 C Q 4 [vO 6 o0, vI (nI 0), vI (nI 0), vM 2, vM 2, vM 2] [] (I, [p0, p1, p2, p3, p4, vO 3 g5, vO 3 g6, p7, p8, p9], A)) :
  T98 C Q 0 [vO 6 o0, vM 2, vM 2, vM 2, vM 2, vM 2] [] (I, [p0, p1, p2, p3, p4, vO 3 g5, vO 3 g6, p7, p8, p9], A) := j2_T.go hC [0, 4, 44, 63, 72, 101, 102, 116] 400 h
set_option maxRecDepth 100000 in
theorem b98_4 {C : j2_C} (hC : j2_up1 C) {Q : j2_P} {o0 : Nat} {x1 : Int32} {x2 : Int32} {w3 : j2_W} {w4 : j2_W} {w5 : j2_W} {p0 : j2_W} {p1 : j2_W} {p2 : j2_W} {p3 : j2_W} {p4 : j2_W} {g5 : Nat} {g6 : Nat} {p7 : j2_W} {p8 : j2_W} {p9 : j2_W} {I : Nat → Nat → Int32} {A : Nat → Nat → Nat → Int32}
  (h : (((I 3000 g5) ≤ x2 → ((none : Option FieldType) = none ∧ Q none (I, [p0, p1, p2, p3, p4, vO 3 g5, vO 3 g6, p7, p8, p9], A))) ∧ (¬ ((I 3000 g5) ≤ x2) → (vp_in x2 10 ∧ ((¬ (A 6000 o0 x2.toNatClampNeg) = (-1 : Int32) → (vp_in x2 10 ∧ (vp_in (A 6000 o0 x2.toNatClampNeg) 10 ∧ ((0 ≤ (A 3003 g5 x2.toNatClampNeg) → (vp_in (A 3003 g5 x2.toNatClampNeg) 10 ∧ T98 C Q 44 [vO 6 o0, vI x1, vI x2, vI (A 6000 o0 x2.toNatClampNeg), vI (A 3003 g5 x2.toNatClampNeg), w5] [vI ((j2_ast A 3002 g6 (A 6000 o0 x2.toNatClampNeg).toNatClampNeg ((A 6000 o0 x2.toNatClampNeg) + (nI 1))) 6000 o0 (A 3003 g5 x2.toNatClampNeg).toNatClampNeg), vI (A 6000 o0 x2.toNatClampNeg), vA 3003 g6] (I, [p0, p1, p2, p3, p4, vO 3 g5, vO 3 g6, p7, p8, p9], (j2_ast A 3002 g6 (A 6000 o0 x2.toNatClampNeg).toNatClampNeg ((A 6000 o0 x2.toNatClampNeg) + (nI 1)))))) ∧ (¬ (0 ≤ (A 3003 g5 x2.toNatClampNeg)) → T98 C Q 44 [vO 6 o0, vI x1, vI x2, vI (A 6000 o0 x2.toNatClampNeg), vI (A 3003 g5 x2.toNatClampNeg), w5] [vI (-1 : Int32), vI (A 6000 o0 x2.toNatClampNeg), vA 3003 g6] (I, [p0, p1, p2, p3, p4, vO 3 g5, vO 3 g6, p7, p8, p9], (j2_ast A 3002 g6 (A 6000 o0 x2.toNatClampNeg).toNatClampNeg ((A 6000 o0 x2.toNatClampNeg) + (nI 1))))))))) ∧ (¬ (¬ (A 6000 o0 x2.toNatClampNeg) = (-1 : Int32)) → T98 C Q 116 [vO 6 o0, vI x1, vI x2, vI (A 6000 o0 x2.toNatClampNeg), w4, w5] [] (I, [p0, p1, p2, p3, p4, vO 3 g5, vO 3 g6, p7, p8, p9], A))))))) :
  T98 C Q 4 [vO 6 o0, vI x1, vI x2, w3, w4, w5] [] (I, [p0, p1, p2, p3, p4, vO 3 g5, vO 3 g6, p7, p8, p9], A) := j2_T.go hC [0, 4, 44, 63, 72, 101, 102, 116] 400 h
set_option maxRecDepth 100000 in
theorem b98_44 {C : j2_C} (hC : j2_up1 C) {Q : j2_P} {o0 : Nat} {x1 : Int32} {x2 : Int32} {x3 : Int32} {x4 : Int32} {w5 : j2_W} {xs0 : Int32} {xs1 : Int32} {os2 : Nat} {p0 : j2_W} {p1 : j2_W} {p2 : j2_W} {p3 : j2_W} {p4 : j2_W} {g5 : Nat} {g6 : Nat} {p7 : j2_W} {p8 : j2_W} {p9 : j2_W} {I : Nat → Nat → Int32} {A : Nat → Nat → Nat → Int32}
  (h : (vp_in xs1 10 ∧ (vp_in x2 10 ∧ (vp_in x3 10 ∧ C 99 [vO 6 o0, vI x2, vI x3] (I, [p0, p1, p2, p3, p4, vO 3 g5, vO 3 g6, p7, p8, p9], (j2_ast (j2_ast A 3003 os2 xs1.toNatClampNeg xs0) 3004 g6 x3.toNatClampNeg ((j2_ast A 3003 os2 xs1.toNatClampNeg xs0) 3004 g5 x2.toNatClampNeg))) (fun r σ1 => T98 C Q 63 [vO 6 o0, vI x1, vI x2, vI x3, vI x4, w5] (r.toList ++ [vI x3, vA 3005 g6]) σ1))))) :
  T98 C Q 44 [vO 6 o0, vI x1, vI x2, vI x3, vI x4, w5] [vI xs0, vI xs1, vA 3003 os2] (I, [p0, p1, p2, p3, p4, vO 3 g5, vO 3 g6, p7, p8, p9], A) := j2_T.go hC [0, 4, 44, 63, 72, 101, 102, 116] 400 h
set_option maxRecDepth 100000 in
theorem b98_63 {C : j2_C} (hC : j2_up1 C) {Q : j2_P} {o0 : Nat} {x1 : Int32} {x2 : Int32} {x3 : Int32} {x4 : Int32} {w5 : j2_W} {xs0 : Int32} {xs1 : Int32} {os2 : Nat} {p0 : j2_W} {p1 : j2_W} {p2 : j2_W} {p3 : j2_W} {p4 : j2_W} {g5 : Nat} {g6 : Nat} {p7 : j2_W} {p8 : j2_W} {p9 : j2_W} {I : Nat → Nat → Int32} {A : Nat → Nat → Nat → Int32}
  (h : (vp_in xs1 10 ∧ (vp_in x3 10 ∧ T98 C Q 72 [vO 6 o0, vI x1, vI x2, vI x3, vI x4, vI (nI 0)] [] (I, [p0, p1, p2, p3, p4, vO 3 g5, vO 3 g6, p7, p8, p9], (j2_ast (j2_ast A 3005 os2 xs1.toNatClampNeg xs0) 3007 g6 x3.toNatClampNeg x1))))) :
  T98 C Q 63 [vO 6 o0, vI x1, vI x2, vI x3, vI x4, w5] [vI xs0, vI xs1, vA 3005 os2] (I, [p0, p1, p2, p3, p4, vO 3 g5, vO 3 g6, p7, p8, p9], A) := j2_T.go hC [0, 4, 44, 63, 72, 101, 102, 116] 400 h
set_option maxRecDepth 100000 in
theorem b98_72 {C : j2_C} (hC : j2_up1 C) {Q : j2_P} {o0 : Nat} {x1 : Int32} {x2 : Int32} {x3 : Int32} {x4 : Int32} {x5 : Int32} {p0 : j2_W} {p1 : j2_W} {p2 : j2_W} {p3 : j2_W} {p4 : j2_W} {g5 : Nat} {g6 : Nat} {p7 : j2_W} {p8 : j2_W} {p9 : j2_W} {I : Nat → Nat → Int32} {A : Nat → Nat → Nat → Int32}
  (h : (vp_in x2 10 ∧ (((A 3006 g5 x2.toNatClampNeg) ≤ x5 → (vp_in x3 10 ∧ (vp_in x3 10 ∧ T98 C Q 116 [vO 6 o0, vI x1, vI x2, vI x3, vI x4, vI x5] [] (I, [p0, p1, p2, p3, p4, vO 3 g5, vO 3 g6, p7, p8, p9], (j2_ast A 3006 g6 x3.toNatClampNeg (x1 - (A 3007 g6 x3.toNatClampNeg))))))) ∧ (¬ ((A 3006 g5 x2.toNatClampNeg) ≤ x5) → (vp_in x2 10 ∧ (vp_in ((A 3007 g5 x2.toNatClampNeg) + x5) 80 ∧ (((A 6002 o0 ((A 3007 g5 x2.toNatClampNeg) + x5).toNatClampNeg) = (-1 : Int32) → T98 C Q 102 [vO 6 o0, vI x1, vI x2, vI x3, vI x4, vI x5] [] (I, [p0, p1, p2, p3, p4, vO 3 g5, vO 3 g6, p7, p8, p9], A)) ∧ (¬ ((A 6002 o0 ((A 3007 g5 x2.toNatClampNeg) + x5).toNatClampNeg) = (-1 : Int32)) → (vp_in x2 10 ∧ C 101 [vO 6 o0, vI ((A 3007 g5 x2.toNatClampNeg) + x5), vI x3] (I, [p0, p1, p2, p3, p4, vO 3 g5, vO 3 g6, p7, p8, p9], A) (fun r σ1 => T98 C Q 101 [vO 6 o0, vI x1, vI x2, vI x3, vI x4, vI x5] (r.toList ++ []) σ1)))))))))) :
  T98 C Q 72 [vO 6 o0, vI x1, vI x2, vI x3, vI x4, vI x5] [] (I, [p0, p1, p2, p3, p4, vO 3 g5, vO 3 g6, p7, p8, p9], A) := j2_T.go hC [0, 4, 44, 63, 72, 101, 102, 116] 400 h
set_option maxRecDepth 100000 in
theorem b98_101 {C : j2_C} (hC : j2_up1 C) {Q : j2_P} {o0 : Nat} {x1 : Int32} {x2 : Int32} {x3 : Int32} {x4 : Int32} {x5 : Int32} {p0 : j2_W} {p1 : j2_W} {p2 : j2_W} {p3 : j2_W} {p4 : j2_W} {g5 : Nat} {g6 : Nat} {p7 : j2_W} {p8 : j2_W} {p9 : j2_W} {I : Nat → Nat → Int32} {A : Nat → Nat → Nat → Int32}
  (h : T98 C Q 102 [vO 6 o0, vI (x1 + (nI 1)), vI x2, vI x3, vI x4, vI x5] [] (I, [p0, p1, p2, p3, p4, vO 3 g5, vO 3 g6, p7, p8, p9], A)) :
  T98 C Q 101 [vO 6 o0, vI x1, vI x2, vI x3, vI x4, vI x5] [] (I, [p0, p1, p2, p3, p4, vO 3 g5, vO 3 g6, p7, p8, p9], A) := j2_T.go hC [0, 4, 44, 63, 72, 101, 102, 116] 400 h
set_option maxRecDepth 100000 in
theorem b98_102 {C : j2_C} (hC : j2_up1 C) {Q : j2_P} {o0 : Nat} {x1 : Int32} {x2 : Int32} {x3 : Int32} {x4 : Int32} {x5 : Int32} {p0 : j2_W} {p1 : j2_W} {p2 : j2_W} {p3 : j2_W} {p4 : j2_W} {g5 : Nat} {g6 : Nat} {p7 : j2_W} {p8 : j2_W} {p9 : j2_W} {I : Nat → Nat → Int32} {A : Nat → Nat → Nat → Int32}
  (h : T98 C Q 72 [vO 6 o0, vI x1, vI x2, vI x3, vI x4, vI (x5 + (nI 1))] [] (I, [p0, p1, p2, p3, p4, vO 3 g5, vO 3 g6, p7, p8, p9], A)) :
  T98 C Q 102 [vO 6 o0, vI x1, vI x2, vI x3, vI x4, vI x5] [] (I, [p0, p1, p2, p3, p4, vO 3 g5, vO 3 g6, p7, p8, p9], A) := j2_T.go hC [0, 4, 44, 63, 72, 101, 102, 116] 400 h
set_option maxRecDepth 100000 in
theorem b98_116 {C : j2_C} (hC : j2_up1 C) {Q : j2_P} {o0 : Nat} {x1 : Int32} {x2 : Int32} {x3 : Int32} {w4 : j2_W} {w5 : j2_W} {p0 : j2_W} {p1 : j2_W} {p2 : j2_W} {p3 : j2_W} {p4 : j2_W} {g5 : Nat} {g6 : Nat} {p7 : j2_W} {p8 : j2_W} {p9 : j2_W} {I : Nat → Nat → Int32} {A : Nat → Nat → Nat → Int32}
  (h : T98 C Q 4 [vO 6 o0, vI x1, vI (x2 + (nI 1)), vI x3, w4, w5] [] (I, [p0, p1, p2, p3, p4, vO 3 g5, vO 3 g6, p7, p8, p9], A)) :
  T98 C Q 116 [vO 6 o0, vI x1, vI x2, vI x3, w4, w5] [] (I, [p0, p1, p2, p3, p4, vO 3 g5, vO 3 g6, p7, p8, p9], A) := j2_T.go hC [0, 4, 44, 63, 72, 101, 102, 116] 400 h
abbrev T99 (C : j2_C) (Q : j2_P) : j2_K := j2_T C jc_X6_writeFields (some .int) Q
set_option maxRecDepth 100000 in
theorem b99_0 {C : j2_C} (hC : j2_up1 C) {Q : j2_P} {o0 : Nat} {x1 : Int32} {x2 : Int32} {p0 : j2_W} {p1 : j2_W} {p2 : j2_W} {p3 : j2_W} {p4 : j2_W} {g5 : Nat} {g6 : Nat} {p7 : j2_W} {p8 : j2_W} {p9 : j2_W} {I : Nat → Nat → Int32} {A : Nat → Nat → Nat → Int32}
  (h : T99 C Q 4 [vO 6 o0, vI x1, vI x2, vI (nI 0), vI (nI 0), vM 2, vM 2] [] (I, [p0, p1, p2, p3, p4, vO 3 g5, vO 3 g6, p7, p8, p9], A)) :
  T99 C Q 0 [vO 6 o0, vI x1, vI x2, vM 2, vM 2, vM 2, vM 2] [] (I, [p0, p1, p2, p3, p4, vO 3 g5, vO 3 g6, p7, p8, p9], A) := j2_T.go hC [0, 4, 54, 66] 400 h
set_option maxRecDepth 100000 in
theorem b99_4 {C : j2_C} (hC : j2_up1 C) {Q : j2_P} {o0 : Nat} {x1 : Int32} {x2 : Int32} {x3 : Int32} {x4 : Int32} {w5 : j2_W} {w6 : j2_W} {p0 : j2_W} {p1 : j2_W} {p2 : j2_W} {p3 : j2_W} {p4 : j2_W} {g5 : Nat} {g6 : Nat} {p7 : j2_W} {p8 : j2_W} {p9 : j2_W} {I : Nat → Nat → Int32} {A : Nat → Nat → Nat → Int32}
  (h : (vp_in x1 10 ∧ (((A 3005 g5 x1.toNatClampNeg) ≤ x4 → (True ∧ Q (some (vI x3)) (I, [p0, p1, p2, p3, p4, vO 3 g5, vO 3 g6, p7, p8, p9], A))) ∧ (¬ ((A 3005 g5 x1.toNatClampNeg) ≤ x4) → (vp_in ((x1 * (nI 6)) + x4) 60 ∧ (((A 6001 o0 ((x1 * (nI 6)) + x4).toNatClampNeg) = (-1 : Int32) → T99 C Q 66 [vO 6 o0, vI x1, vI x2, vI x3, vI x4, vI ((x1 * (nI 6)) + x4), w6] [] (I, [p0, p1, p2, p3, p4, vO 3 g5, vO 3 g6, p7, p8, p9], A)) ∧ (¬ ((A 6001 o0 ((x1 * (nI 6)) + x4).toNatClampNeg) = (-1 : Int32)) → (vp_in ((x1 * (nI 6)) + x4) 60 ∧ (vp_in ((x1 * (nI 6)) + x4) 60 ∧ (vp_in ((x2 * (nI 6)) + (A 6001 o0 ((x1 * (nI 6)) + x4).toNatClampNeg)) 60 ∧ (vp_in ((x1 * (nI 6)) + x4) 60 ∧ C 100 [vO 6 o0, vI ((j2_ast A 3008 g6 ((x2 * (nI 6)) + (A 6001 o0 ((x1 * (nI 6)) + x4).toNatClampNeg)).toNatClampNeg ((A 6001 o0 ((x1 * (nI 6)) + x4).toNatClampNeg) + (nI 1))) 3009 g5 ((x1 * (nI 6)) + x4).toNatClampNeg)] (I, [p0, p1, p2, p3, p4, vO 3 g5, vO 3 g6, p7, p8, p9], (j2_ast A 3008 g6 ((x2 * (nI 6)) + (A 6001 o0 ((x1 * (nI 6)) + x4).toNatClampNeg)).toNatClampNeg ((A 6001 o0 ((x1 * (nI 6)) + x4).toNatClampNeg) + (nI 1)))) (fun r σ1 => T99 C Q 54 [vO 6 o0, vI x1, vI x2, vI x3, vI x4, vI ((x1 * (nI 6)) + x4), vI ((x2 * (nI 6)) + (A 6001 o0 ((x1 * (nI 6)) + x4).toNatClampNeg))] (r.toList ++ [vI ((x2 * (nI 6)) + (A 6001 o0 ((x1 * (nI 6)) + x4).toNatClampNeg)), vA 3009 g6]) σ1)))))))))))) :
  T99 C Q 4 [vO 6 o0, vI x1, vI x2, vI x3, vI x4, w5, w6] [] (I, [p0, p1, p2, p3, p4, vO 3 g5, vO 3 g6, p7, p8, p9], A) := j2_T.go hC [0, 4, 54, 66] 400 h
set_option maxRecDepth 100000 in
theorem b99_54 {C : j2_C} (hC : j2_up1 C) {Q : j2_P} {o0 : Nat} {x1 : Int32} {x2 : Int32} {x3 : Int32} {x4 : Int32} {x5 : Int32} {x6 : Int32} {xs0 : Int32} {xs1 : Int32} {os2 : Nat} {p0 : j2_W} {p1 : j2_W} {p2 : j2_W} {p3 : j2_W} {p4 : j2_W} {g5 : Nat} {g6 : Nat} {p7 : j2_W} {p8 : j2_W} {p9 : j2_W} {I : Nat → Nat → Int32} {A : Nat → Nat → Nat → Int32}
  (h : (vp_in xs1 60 ∧ (vp_in x5 60 ∧ (vp_in x6 60 ∧ T99 C Q 66 [vO 6 o0, vI x1, vI x2, vI (x3 + (nI 1)), vI x4, vI x5, vI x6] [] (I, [p0, p1, p2, p3, p4, vO 3 g5, vO 3 g6, p7, p8, p9], (j2_ast (j2_ast A 3009 os2 xs1.toNatClampNeg xs0) 3010 g6 x6.toNatClampNeg ((j2_ast A 3009 os2 xs1.toNatClampNeg xs0) 3010 g5 x5.toNatClampNeg))))))) :
  T99 C Q 54 [vO 6 o0, vI x1, vI x2, vI x3, vI x4, vI x5, vI x6] [vI xs0, vI xs1, vA 3009 os2] (I, [p0, p1, p2, p3, p4, vO 3 g5, vO 3 g6, p7, p8, p9], A) := j2_T.go hC [0, 4, 54, 66] 400 h
set_option maxRecDepth 100000 in
theorem b99_66 {C : j2_C} (hC : j2_up1 C) {Q : j2_P} {o0 : Nat} {x1 : Int32} {x2 : Int32} {x3 : Int32} {x4 : Int32} {x5 : Int32} {w6 : j2_W} {p0 : j2_W} {p1 : j2_W} {p2 : j2_W} {p3 : j2_W} {p4 : j2_W} {g5 : Nat} {g6 : Nat} {p7 : j2_W} {p8 : j2_W} {p9 : j2_W} {I : Nat → Nat → Int32} {A : Nat → Nat → Nat → Int32}
  (h : T99 C Q 4 [vO 6 o0, vI x1, vI x2, vI x3, vI (x4 + (nI 1)), vI x5, w6] [] (I, [p0, p1, p2, p3, p4, vO 3 g5, vO 3 g6, p7, p8, p9], A)) :
  T99 C Q 66 [vO 6 o0, vI x1, vI x2, vI x3, vI x4, vI x5, w6] [] (I, [p0, p1, p2, p3, p4, vO 3 g5, vO 3 g6, p7, p8, p9], A) := j2_T.go hC [0, 4, 54, 66] 400 h
