abbrev T100 (C : j2_C) (Q : j2_P) : j2_K := j2_T C jc_X6_typeAnew (some .int) Q
set_option maxRecDepth 100000 in
theorem b100_0 {C : j2_C} (hC : j2_up1 C) {Q : j2_P} {o0 : Nat} {x1 : Int32} {σ : j2_S}
  (h : ((0 < x1 → (vp_in (x1 - (nI 1)) 10 ∧ (True ∧ Q (some (vI ((σ.2.2 6000 o0 (x1 - (nI 1)).toNatClampNeg) + (nI 1)))) σ))) ∧ (¬ (0 < x1) → (True ∧ Q (some (vI x1)) σ)))) :
  T100 C Q 0 [vO 6 o0, vI x1] [] σ := j2_T.go hC [0] 400 h
abbrev T101 (C : j2_C) (Q : j2_P) : j2_K := j2_T C jc_X6_writeFace none Q
set_option maxRecDepth 100000 in
theorem b101_0 {C : j2_C} (hC : j2_up1 C) {Q : j2_P} {o0 : Nat} {x1 : Int32} {x2 : Int32} {p0 : j2_W} {p1 : j2_W} {p2 : j2_W} {p3 : j2_W} {p4 : j2_W} {g5 : Nat} {g6 : Nat} {p7 : j2_W} {p8 : j2_W} {p9 : j2_W} {I : Nat → Nat → Int32} {A : Nat → Nat → Nat → Int32}
  (h : (vp_in x1 80 ∧ (vp_in (A 6002 o0 x1.toNatClampNeg) 80 ∧ (vp_in x1 80 ∧ (vp_in (A 6002 o0 x1.toNatClampNeg) 80 ∧ (vp_in x1 80 ∧ (vp_in (A 6002 o0 x1.toNatClampNeg) 80 ∧ (vp_in x1 80 ∧ C 100 [vO 6 o0, vI (((j2_ast (j2_ast (j2_ast A 3011 g6 (A 6002 o0 x1.toNatClampNeg).toNatClampNeg x2) 3012 g6 (A 6002 o0 x1.toNatClampNeg).toNatClampNeg ((j2_ast A 3011 g6 (A 6002 o0 x1.toNatClampNeg).toNatClampNeg x2) 6011 o0 x1.toNatClampNeg)) 3013 g6 (A 6002 o0 x1.toNatClampNeg).toNatClampNeg ((j2_ast (j2_ast A 3011 g6 (A 6002 o0 x1.toNatClampNeg).toNatClampNeg x2) 3012 g6 (A 6002 o0 x1.toNatClampNeg).toNatClampNeg ((j2_ast A 3011 g6 (A 6002 o0 x1.toNatClampNeg).toNatClampNeg x2) 6011 o0 x1.toNatClampNeg)) 3013 g5 x1.toNatClampNeg)) 3014 g5 x1.toNatClampNeg) - (nI 1))] (I, [p0, p1, p2, p3, p4, vO 3 g5, vO 3 g6, p7, p8, p9], (j2_ast (j2_ast (j2_ast A 3011 g6 (A 6002 o0 x1.toNatClampNeg).toNatClampNeg x2) 3012 g6 (A 6002 o0 x1.toNatClampNeg).toNatClampNeg ((j2_ast A 3011 g6 (A 6002 o0 x1.toNatClampNeg).toNatClampNeg x2) 6011 o0 x1.toNatClampNeg)) 3013 g6 (A 6002 o0 x1.toNatClampNeg).toNatClampNeg ((j2_ast (j2_ast A 3011 g6 (A 6002 o0 x1.toNatClampNeg).toNatClampNeg x2) 3012 g6 (A 6002 o0 x1.toNatClampNeg).toNatClampNeg ((j2_ast A 3011 g6 (A 6002 o0 x1.toNatClampNeg).toNatClampNeg x2) 6011 o0 x1.toNatClampNeg)) 3013 g5 x1.toNatClampNeg))) (fun r σ1 => T101 C Q 43 [vO 6 o0, vI x1, vI x2, vI (A 6002 o0 x1.toNatClampNeg), vM 2] (r.toList ++ [vI (A 6002 o0 x1.toNatClampNeg), vA 3014 g6]) σ1))))))))) :
  T101 C Q 0 [vO 6 o0, vI x1, vI x2, vM 2, vM 2] [] (I, [p0, p1, p2, p3, p4, vO 3 g5, vO 3 g6, p7, p8, p9], A) := j2_T.go hC [0, 43, 58, 84, 112] 400 h
set_option maxRecDepth 100000 in
theorem b101_43 {C : j2_C} (hC : j2_up1 C) {Q : j2_P} {o0 : Nat} {x1 : Int32} {x2 : Int32} {x3 : Int32} {xs0 : Int32} {xs1 : Int32} {os2 : Nat} {p0 : j2_W} {p1 : j2_W} {p2 : j2_W} {p3 : j2_W} {p4 : j2_W} {g5 : Nat} {g6 : Nat} {p7 : j2_W} {p8 : j2_W} {p9 : j2_W} {I : Nat → Nat → Int32} {A : Nat → Nat → Nat → Int32}
  (h : (vp_in xs1 80 ∧ (vp_in x1 80 ∧ (vp_in x3 80 ∧ T101 C Q 58 [vO 6 o0, vI x1, vI x2, vI x3, vI (nI 0)] [] (I, [p0, p1, p2, p3, p4, vO 3 g5, vO 3 g6, p7, p8, p9], (j2_ast (j2_ast A 3014 os2 xs1.toNatClampNeg (xs0 + (nI 1))) 3015 g6 x3.toNatClampNeg ((j2_ast A 3014 os2 xs1.toNatClampNeg (xs0 + (nI 1))) 3015 g5 x1.toNatClampNeg))))))) :
  T101 C Q 43 [vO 6 o0, vI x1, vI x2, vI x3, vM 2] [vI xs0, vI xs1, vA 3014 os2] (I, [p0, p1, p2, p3, p4, vO 3 g5, vO 3 g6, p7, p8, p9], A) := j2_T.go hC [0, 43, 58, 84, 112] 400 h
set_option maxRecDepth 100000 in
theorem b101_58 {C : j2_C} (hC : j2_up1 C) {Q : j2_P} {o0 : Nat} {x1 : Int32} {x2 : Int32} {x3 : Int32} {x4 : Int32} {p0 : j2_W} {p1 : j2_W} {p2 : j2_W} {p3 : j2_W} {p4 : j2_W} {g5 : Nat} {g6 : Nat} {p7 : j2_W} {p8 : j2_W} {p9 : j2_W} {I : Nat → Nat → Int32} {A : Nat → Nat → Nat → Int32}
  (h : (vp_in x1 80 ∧ (((A 3015 g5 x1.toNatClampNeg) ≤ x4 → (vp_in x1 80 ∧ ((¬ (A 4000 (o0 + 9) x1.toNatClampNeg) = (nI 1) → (vp_in x1 80 ∧ C 51 [vO 3 g5, vI x1] (I, [p0, p1, p2, p3, p4, vO 3 g5, vO 3 g6, p7, p8, p9], A) (fun r σ1 => T101 C Q 112 [vO 6 o0, vI x1, vI x2, vI x3, vI x4] (r.toList ++ [vI (A 3015 g5 x1.toNatClampNeg), vI x3, vA 3017 g6]) σ1))) ∧ (¬ (¬ (A 4000 (o0 + 9) x1.toNatClampNeg) = (nI 1)) → (vp_in x1 80 ∧ (vp_in x3 80 ∧ ((none : Option FieldType) = none ∧ Q none (I, [p0, p1, p2, p3, p4, vO 3 g5, vO 3 g6, p7, p8, p9], (j2_ast A 3017 g6 x3.toNatClampNeg (A 6010 o0 x1.toNatClampNeg)))))))))) ∧ (¬ ((A 3015 g5 x1.toNatClampNeg) ≤ x4) → (vp_in ((x1 * (nI 3)) + x4) 240 ∧ C 100 [vO 6 o0, vI (A 3016 g5 ((x1 * (nI 3)) + x4).toNatClampNeg)] (I, [p0, p1, p2, p3, p4, vO 3 g5, vO 3 g6, p7, p8, p9], A) (fun r σ1 => T101 C Q 84 [vO 6 o0, vI x1, vI x2, vI x3, vI x4] (r.toList ++ [vI ((x3 * (nI 3)) + x4), vA 3016 g6]) σ1)))))) :
  T101 C Q 58 [vO 6 o0, vI x1, vI x2, vI x3, vI x4] [] (I, [p0, p1, p2, p3, p4, vO 3 g5, vO 3 g6, p7, p8, p9], A) := j2_T.go hC [0, 43, 58, 84, 112] 400 h
set_option maxRecDepth 100000 in
theorem b101_84 {C : j2_C} (hC : j2_up1 C) {Q : j2_P} {o0 : Nat} {x1 : Int32} {x2 : Int32} {x3 : Int32} {x4 : Int32} {xs0 : Int32} {xs1 : Int32} {os2 : Nat} {p0 : j2_W} {p1 : j2_W} {p2 : j2_W} {p3 : j2_W} {p4 : j2_W} {g5 : Nat} {g6 : Nat} {p7 : j2_W} {p8 : j2_W} {p9 : j2_W} {I : Nat → Nat → Int32} {A : Nat → Nat → Nat → Int32}
  (h : (vp_in xs1 240 ∧ T101 C Q 58 [vO 6 o0, vI x1, vI x2, vI x3, vI (x4 + (nI 1))] [] (I, [p0, p1, p2, p3, p4, vO 3 g5, vO 3 g6, p7, p8, p9], (j2_ast A 3016 os2 xs1.toNatClampNeg xs0)))) :
  T101 C Q 84 [vO 6 o0, vI x1, vI x2, vI x3, vI x4] [vI xs0, vI xs1, vA 3016 os2] (I, [p0, p1, p2, p3, p4, vO 3 g5, vO 3 g6, p7, p8, p9], A) := j2_T.go hC [0, 43, 58, 84, 112] 400 h
set_option maxRecDepth 100000 in
theorem b101_112 {C : j2_C} (hC : j2_up1 C) {Q : j2_P} {o0 : Nat} {x1 : Int32} {x2 : Int32} {x3 : Int32} {x4 : Int32} {xs0 : Int32} {xs1 : Int32} {xs2 : Int32} {os3 : Nat} {p0 : j2_W} {p1 : j2_W} {p2 : j2_W} {p3 : j2_W} {p4 : j2_W} {g5 : Nat} {g6 : Nat} {p7 : j2_W} {p8 : j2_W} {p9 : j2_W} {I : Nat → Nat → Int32} {A : Nat → Nat → Nat → Int32}
  (h : (vp_in xs2 80 ∧ ((none : Option FieldType) = none ∧ Q none (I, [p0, p1, p2, p3, p4, vO 3 g5, vO 3 g6, p7, p8, p9], (j2_ast A 3017 os3 xs2.toNatClampNeg (xs1 + xs0)))))) :
  T101 C Q 112 [vO 6 o0, vI x1, vI x2, vI x3, vI x4] [vI xs0, vI xs1, vI xs2, vA 3017 os3] (I, [p0, p1, p2, p3, p4, vO 3 g5, vO 3 g6, p7, p8, p9], A) := j2_T.go hC [0, 43, 58, 84, 112] 400 h
abbrev T102 (C : j2_C) (Q : j2_P) : j2_K := j2_T C jc_X6_moveCodes none Q
set_option maxRecDepth 100000 in
theorem b102_0 {C : j2_C} (hC : j2_up1 C) {Q : j2_P} {o0 : Nat} {p0 : j2_W} {p1 : j2_W} {p2 : j2_W} {p3 : j2_W} {p4 : j2_W} {g5 : Nat} {p6 : j2_W} {p7 : j2_W} {p8 : j2_W} {p9 : j2_W} {I : Nat → Nat → Int32} {A : Nat → Nat → Nat → Int32}
  (h : T102 C Q 2 [vO 6 o0, vI (nI 0)] [] (I, [p0, p1, p2, p3, p4, vO 3 g5, p6, p7, p8, p9], A)) :
  T102 C Q 0 [vO 6 o0, vM 2] [] (I, [p0, p1, p2, p3, p4, vO 3 g5, p6, p7, p8, p9], A) := j2_T.go hC [0, 2, 28, 35] 400 h
set_option maxRecDepth 100000 in
theorem b102_2 {C : j2_C} (hC : j2_up1 C) {Q : j2_P} {o0 : Nat} {x1 : Int32} {p0 : j2_W} {p1 : j2_W} {p2 : j2_W} {p3 : j2_W} {p4 : j2_W} {g5 : Nat} {p6 : j2_W} {p7 : j2_W} {p8 : j2_W} {p9 : j2_W} {I : Nat → Nat → Int32} {A : Nat → Nat → Nat → Int32}
  (h : (((I 3001 g5) ≤ x1 → ((none : Option FieldType) = none ∧ Q none (I, [p0, p1, p2, p3, p4, vO 3 g5, p6, p7, p8, p9], A))) ∧ (¬ ((I 3001 g5) ≤ x1) → (vp_in x1 80 ∧ ((¬ (A 6002 o0 x1.toNatClampNeg) = (-1 : Int32) → (vp_in x1 80 ∧ ((¬ (A 4000 (o0 + 9) x1.toNatClampNeg) = (nI 1) → (vp_in x1 80 ∧ C 103 [vO 6 o0, vI (A 6002 o0 x1.toNatClampNeg)] (I, [p0, p1, p2, p3, p4, vO 3 g5, p6, p7, p8, p9], A) (fun r σ1 => T102 C Q 35 [vO 6 o0, vI x1] (r.toList ++ []) σ1))) ∧ (¬ (¬ (A 4000 (o0 + 9) x1.toNatClampNeg) = (nI 1)) → (vp_in x1 80 ∧ C 104 [vO 6 o0, vI x1, vI (A 6002 o0 x1.toNatClampNeg)] (I, [p0, p1, p2, p3, p4, vO 3 g5, p6, p7, p8, p9], A) (fun r σ1 => T102 C Q 28 [vO 6 o0, vI x1] (r.toList ++ []) σ1)))))) ∧ (¬ (¬ (A 6002 o0 x1.toNatClampNeg) = (-1 : Int32)) → T102 C Q 35 [vO 6 o0, vI x1] [] (I, [p0, p1, p2, p3, p4, vO 3 g5, p6, p7, p8, p9], A))))))) :
  T102 C Q 2 [vO 6 o0, vI x1] [] (I, [p0, p1, p2, p3, p4, vO 3 g5, p6, p7, p8, p9], A) := j2_T.go hC [0, 2, 28, 35] 400 h
set_option maxRecDepth 100000 in
theorem b102_28 {C : j2_C} (hC : j2_up1 C) {Q : j2_P} {o0 : Nat} {x1 : Int32} {p0 : j2_W} {p1 : j2_W} {p2 : j2_W} {p3 : j2_W} {p4 : j2_W} {g5 : Nat} {p6 : j2_W} {p7 : j2_W} {p8 : j2_W} {p9 : j2_W} {I : Nat → Nat → Int32} {A : Nat → Nat → Nat → Int32}
  (h : T102 C Q 35 [vO 6 o0, vI x1] [] (I, [p0, p1, p2, p3, p4, vO 3 g5, p6, p7, p8, p9], A)) :
  T102 C Q 28 [vO 6 o0, vI x1] [] (I, [p0, p1, p2, p3, p4, vO 3 g5, p6, p7, p8, p9], A) := j2_T.go hC [0, 2, 28, 35] 400 h
set_option maxRecDepth 100000 in
theorem b102_35 {C : j2_C} (hC : j2_up1 C) {Q : j2_P} {o0 : Nat} {x1 : Int32} {p0 : j2_W} {p1 : j2_W} {p2 : j2_W} {p3 : j2_W} {p4 : j2_W} {g5 : Nat} {p6 : j2_W} {p7 : j2_W} {p8 : j2_W} {p9 : j2_W} {I : Nat → Nat → Int32} {A : Nat → Nat → Nat → Int32}
  (h : T102 C Q 2 [vO 6 o0, vI (x1 + (nI 1))] [] (I, [p0, p1, p2, p3, p4, vO 3 g5, p6, p7, p8, p9], A)) :
  T102 C Q 35 [vO 6 o0, vI x1] [] (I, [p0, p1, p2, p3, p4, vO 3 g5, p6, p7, p8, p9], A) := j2_T.go hC [0, 2, 28, 35] 400 h
abbrev T103 (C : j2_C) (Q : j2_P) : j2_K := j2_T C jc_X6_makeShell none Q
set_option maxRecDepth 100000 in
theorem b103_0 {C : j2_C} (hC : j2_up1 C) {Q : j2_P} {o0 : Nat} {x1 : Int32} {p0 : j2_W} {p1 : j2_W} {p2 : j2_W} {p3 : j2_W} {p4 : j2_W} {p5 : j2_W} {g6 : Nat} {p7 : j2_W} {p8 : j2_W} {p9 : j2_W} {I : Nat → Nat → Int32} {A : Nat → Nat → Nat → Int32}
  (h : (vp_in x1 80 ∧ (vp_in (x1 * (nI 120)) 9600 ∧ (vp_in (x1 * (nI 120)) 9600 ∧ (vp_in (x1 * (nI 120)) 9600 ∧ (vp_in (x1 * (nI 120)) 9600 ∧ (vp_in (x1 * (nI 120)) 9600 ∧ (vp_in (nI 3) 23 ∧ (vp_in (nI 3) 23 ∧ ((none : Option FieldType) = none ∧ Q none (I, [p0, p1, p2, p3, p4, p5, vO 3 g6, p7, p8, p9], (j2_ast (j2_ast (j2_ast (j2_ast (j2_ast (j2_ast (j2_ast A 0 (g6 + 17) x1.toNatClampNeg (nI 1)) 1 (g6 + 17) (x1 * (nI 120)).toNatClampNeg (nI 26)) 2 (g6 + 17) (x1 * (nI 120)).toNatClampNeg (nI 0)) 3 (g6 + 17) (x1 * (nI 120)).toNatClampNeg (nI 0)) 6003 o0 (x1 * (nI 120)).toNatClampNeg (-1 : Int32)) 6004 o0 (x1 * (nI 120)).toNatClampNeg (-1 : Int32)) 6005 o0 (nI 3).toNatClampNeg (((j2_ast (j2_ast (j2_ast (j2_ast (j2_ast (j2_ast A 0 (g6 + 17) x1.toNatClampNeg (nI 1)) 1 (g6 + 17) (x1 * (nI 120)).toNatClampNeg (nI 26)) 2 (g6 + 17) (x1 * (nI 120)).toNatClampNeg (nI 0)) 3 (g6 + 17) (x1 * (nI 120)).toNatClampNeg (nI 0)) 6003 o0 (x1 * (nI 120)).toNatClampNeg (-1 : Int32)) 6004 o0 (x1 * (nI 120)).toNatClampNeg (-1 : Int32)) 6005 o0 (nI 3).toNatClampNeg) + (nI 1)))))))))))))) :
  T103 C Q 0 [vO 6 o0, vI x1, vM 2] [] (I, [p0, p1, p2, p3, p4, p5, vO 3 g6, p7, p8, p9], A) := j2_T.go hC [0] 400 h
abbrev T104 (C : j2_C) (Q : j2_P) : j2_K := j2_T C jc_X6_moveCode none Q
set_option maxRecDepth 100000 in
theorem b104_0 {C : j2_C} (hC : j2_up1 C) {Q : j2_P} {o0 : Nat} {x1 : Int32} {x2 : Int32} {p0 : j2_W} {p1 : j2_W} {p2 : j2_W} {p3 : j2_W} {p4 : j2_W} {g5 : Nat} {g6 : Nat} {p7 : j2_W} {p8 : j2_W} {p9 : j2_W} {I : Nat → Nat → Int32} {A : Nat → Nat → Nat → Int32}
  (h : (vp_in x1 80 ∧ T104 C Q 9 [vO 6 o0, vI x1, vI x2, vI (A 0 (g6 + 17) x1.toNatClampNeg), vI (nI 0), vM 2, vM 2, vM 2, vM 2, vM 2] [] (I, [p0, p1, p2, p3, p4, vO 3 g5, vO 3 g6, p7, p8, p9], A))) :
  T104 C Q 0 [vO 6 o0, vI x1, vI x2, vM 2, vM 2, vM 2, vM 2, vM 2, vM 2, vM 2] [] (I, [p0, p1, p2, p3, p4, vO 3 g5, vO 3 g6, p7, p8, p9], A) := j2_T.go hC [0, 9, 85, 108] 400 h
set_option maxRecDepth 100000 in
theorem b104_9 {C : j2_C} (hC : j2_up1 C) {Q : j2_P} {o0 : Nat} {x1 : Int32} {x2 : Int32} {x3 : Int32} {x4 : Int32} {w5 : j2_W} {w6 : j2_W} {w7 : j2_W} {w8 : j2_W} {w9 : j2_W} {p0 : j2_W} {p1 : j2_W} {p2 : j2_W} {p3 : j2_W} {p4 : j2_W} {g5 : Nat} {g6 : Nat} {p7 : j2_W} {p8 : j2_W} {p9 : j2_W} {I : Nat → Nat → Int32} {A : Nat → Nat → Nat → Int32}
  (h : ((x3 ≤ x4 → (vp_in x2 80 ∧ ((none : Option FieldType) = none ∧ Q none (I, [p0, p1, p2, p3, p4, vO 3 g5, vO 3 g6, p7, p8, p9], (j2_ast A 0 (g6 + 17) x2.toNatClampNeg x3))))) ∧ (¬ (x3 ≤ x4) → (vp_in ((x1 * (nI 120)) + x4) 9600 ∧ (vp_in ((x1 * (nI 120)) + x4) 9600 ∧ (vp_in ((x1 * (nI 120)) + x4) 9600 ∧ (vp_in (A 1 (g6 + 17) ((x1 * (nI 120)) + x4).toNatClampNeg) 27 ∧ ((¬ ((jt_ro 0).2 (A 1 (g6 + 17) ((x1 * (nI 120)) + x4).toNatClampNeg).toNatClampNeg) = (nI 5) → (vp_in (A 1 (g6 + 17) ((x1 * (nI 120)) + x4).toNatClampNeg) 27 ∧ ((¬ ((jt_ro 0).2 (A 1 (g6 + 17) ((x1 * (nI 120)) + x4).toNatClampNeg).toNatClampNeg) = (nI 6) → T104 C Q 85 [vO 6 o0, vI x1, vI x2, vI x3, vI x4, vI ((x1 * (nI 120)) + x4), vI ((x2 * (nI 120)) + x4), vI (A 1 (g6 + 17) ((x1 * (nI 120)) + x4).toNatClampNeg), vI (A 2 (g6 + 17) ((x1 * (nI 120)) + x4).toNatClampNeg), vI (A 3 (g6 + 17) ((x1 * (nI 120)) + x4).toNatClampNeg)] [] (I, [p0, p1, p2, p3, p4, vO 3 g5, vO 3 g6, p7, p8, p9], A)) ∧ (¬ (¬ ((jt_ro 0).2 (A 1 (g6 + 17) ((x1 * (nI 120)) + x4).toNatClampNeg).toNatClampNeg) = (nI 6)) → (vp_in (A 2 (g6 + 17) ((x1 * (nI 120)) + x4).toNatClampNeg) 10 ∧ (vp_in ((A 3007 g5 (A 2 (g6 + 17) ((x1 * (nI 120)) + x4).toNatClampNeg).toNatClampNeg) + (A 3 (g6 + 17) ((x1 * (nI 120)) + x4).toNatClampNeg)) 80 ∧ (vp_in (A 2 (g6 + 17) ((x1 * (nI 120)) + x4).toNatClampNeg) 10 ∧ (vp_in (A 6000 o0 (A 2 (g6 + 17) ((x1 * (nI 120)) + x4).toNatClampNeg).toNatClampNeg) 10 ∧ T104 C Q 85 [vO 6 o0, vI x1, vI x2, vI x3, vI x4, vI ((x1 * (nI 120)) + x4), vI ((x2 * (nI 120)) + x4), vI (A 1 (g6 + 17) ((x1 * (nI 120)) + x4).toNatClampNeg), vI (A 2 (g6 + 17) ((x1 * (nI 120)) + x4).toNatClampNeg), vI ((A 6002 o0 ((A 3007 g5 (A 2 (g6 + 17) ((x1 * (nI 120)) + x4).toNatClampNeg).toNatClampNeg) + (A 3 (g6 + 17) ((x1 * (nI 120)) + x4).toNatClampNeg)).toNatClampNeg) - (A 3007 g6 (A 6000 o0 (A 2 (g6 + 17) ((x1 * (nI 120)) + x4).toNatClampNeg).toNatClampNeg).toNatClampNeg))] [] (I, [p0, p1, p2, p3, p4, vO 3 g5, vO 3 g6, p7, p8, p9], A))))))))) ∧ (¬ (¬ ((jt_ro 0).2 (A 1 (g6 + 17) ((x1 * (nI 120)) + x4).toNatClampNeg).toNatClampNeg) = (nI 5)) → (vp_in (((A 2 (g6 + 17) ((x1 * (nI 120)) + x4).toNatClampNeg) * (nI 6)) + (A 3 (g6 + 17) ((x1 * (nI 120)) + x4).toNatClampNeg)) 60 ∧ T104 C Q 85 [vO 6 o0, vI x1, vI x2, vI x3, vI x4, vI ((x1 * (nI 120)) + x4), vI ((x2 * (nI 120)) + x4), vI (A 1 (g6 + 17) ((x1 * (nI 120)) + x4).toNatClampNeg), vI (A 2 (g6 + 17) ((x1 * (nI 120)) + x4).toNatClampNeg), vI (A 6001 o0 (((A 2 (g6 + 17) ((x1 * (nI 120)) + x4).toNatClampNeg) * (nI 6)) + (A 3 (g6 + 17) ((x1 * (nI 120)) + x4).toNatClampNeg)).toNatClampNeg)] [] (I, [p0, p1, p2, p3, p4, vO 3 g5, vO 3 g6, p7, p8, p9], A))))))))))) :
  T104 C Q 9 [vO 6 o0, vI x1, vI x2, vI x3, vI x4, w5, w6, w7, w8, w9] [] (I, [p0, p1, p2, p3, p4, vO 3 g5, vO 3 g6, p7, p8, p9], A) := j2_T.go hC [0, 9, 85, 108] 400 h
set_option maxRecDepth 100000 in
theorem b104_85 {C : j2_C} (hC : j2_up1 C) {Q : j2_P} {o0 : Nat} {x1 : Int32} {x2 : Int32} {x3 : Int32} {x4 : Int32} {x5 : Int32} {x6 : Int32} {x7 : Int32} {x8 : Int32} {x9 : Int32} {p0 : j2_W} {p1 : j2_W} {p2 : j2_W} {p3 : j2_W} {p4 : j2_W} {g5 : Nat} {g6 : Nat} {p7 : j2_W} {p8 : j2_W} {p9 : j2_W} {I : Nat → Nat → Int32} {A : Nat → Nat → Nat → Int32}
  (h : (vp_in x6 9600 ∧ (vp_in x7 27 ∧ ((((jt_ro 0).2 x7.toNatClampNeg) < (nI 4) → T104 C Q 108 [vO 6 o0, vI x1, vI x2, vI x3, vI x4, vI x5, vI x6, vI x7, vI x8, vI x9] [vI x8, vI x6, vA 2 (g6 + 17)] (I, [p0, p1, p2, p3, p4, vO 3 g5, vO 3 g6, p7, p8, p9], (j2_ast A 1 (g6 + 17) x6.toNatClampNeg x7))) ∧ (¬ (((jt_ro 0).2 x7.toNatClampNeg) < (nI 4)) → (vp_in x8 10 ∧ T104 C Q 108 [vO 6 o0, vI x1, vI x2, vI x3, vI x4, vI x5, vI x6, vI x7, vI x8, vI x9] [vI ((j2_ast A 1 (g6 + 17) x6.toNatClampNeg x7) 6000 o0 x8.toNatClampNeg), vI x6, vA 2 (g6 + 17)] (I, [p0, p1, p2, p3, p4, vO 3 g5, vO 3 g6, p7, p8, p9], (j2_ast A 1 (g6 + 17) x6.toNatClampNeg x7)))))))) :
  T104 C Q 85 [vO 6 o0, vI x1, vI x2, vI x3, vI x4, vI x5, vI x6, vI x7, vI x8, vI x9] [] (I, [p0, p1, p2, p3, p4, vO 3 g5, vO 3 g6, p7, p8, p9], A) := j2_T.go hC [0, 9, 85, 108] 400 h
set_option maxRecDepth 100000 in
theorem b104_108 {C : j2_C} (hC : j2_up1 C) {Q : j2_P} {o0 : Nat} {x1 : Int32} {x2 : Int32} {x3 : Int32} {x4 : Int32} {x5 : Int32} {x6 : Int32} {x7 : Int32} {x8 : Int32} {x9 : Int32} {xs0 : Int32} {xs1 : Int32} {os2 : Nat} {p0 : j2_W} {p1 : j2_W} {p2 : j2_W} {p3 : j2_W} {p4 : j2_W} {g5 : Nat} {g6 : Nat} {p7 : j2_W} {p8 : j2_W} {p9 : j2_W} {I : Nat → Nat → Int32} {A : Nat → Nat → Nat → Int32}
  (h : (vp_in xs1 9600 ∧ (vp_in x6 9600 ∧ (vp_in x5 9600 ∧ (vp_in x6 9600 ∧ (vp_in x5 9600 ∧ (vp_in x6 9600 ∧ T104 C Q 9 [vO 6 o0, vI x1, vI x2, vI x3, vI (x4 + (nI 1)), vI x5, vI x6, vI x7, vI x8, vI x9] [] (I, [p0, p1, p2, p3, p4, vO 3 g5, vO 3 g6, p7, p8, p9], (j2_ast (j2_ast (j2_ast (j2_ast A 2 os2 xs1.toNatClampNeg xs0) 3 (g6 + 17) x6.toNatClampNeg x9) 6003 o0 x6.toNatClampNeg ((j2_ast (j2_ast A 2 os2 xs1.toNatClampNeg xs0) 3 (g6 + 17) x6.toNatClampNeg x9) 6003 o0 x5.toNatClampNeg)) 6004 o0 x6.toNatClampNeg ((j2_ast (j2_ast (j2_ast A 2 os2 xs1.toNatClampNeg xs0) 3 (g6 + 17) x6.toNatClampNeg x9) 6003 o0 x6.toNatClampNeg ((j2_ast (j2_ast A 2 os2 xs1.toNatClampNeg xs0) 3 (g6 + 17) x6.toNatClampNeg x9) 6003 o0 x5.toNatClampNeg)) 6004 o0 x5.toNatClampNeg)))))))))) :
  T104 C Q 108 [vO 6 o0, vI x1, vI x2, vI x3, vI x4, vI x5, vI x6, vI x7, vI x8, vI x9] [vI xs0, vI xs1, vA 2 os2] (I, [p0, p1, p2, p3, p4, vO 3 g5, vO 3 g6, p7, p8, p9], A) := j2_T.go hC [0, 9, 85, 108] 400 h
abbrev T106 (C : j2_C) (Q : j2_P) : j2_K := j2_T C jc_X7_begin none Q
set_option maxRecDepth 100000 in
theorem b106_0 {C : j2_C} (hC : j2_up1 C) {Q : j2_P} {o0 : Nat} {x1 : Int32} {σ : j2_S}
  (h : ((none : Option FieldType) = none ∧ Q none ((j2_up (j2_up σ.1 7000 o0 (nI 0)) 7001 o0 x1), σ.2.1, σ.2.2))) :
  T106 C Q 0 [vO 7 o0, vI x1] [] σ := j2_T.go hC [0] 400 h
abbrev T107 (C : j2_C) (Q : j2_P) : j2_K := j2_T C jc_X7_add none Q
set_option maxRecDepth 100000 in
theorem b107_0 {C : j2_C} (hC : j2_up1 C) {Q : j2_P} {o0 : Nat} {x1 : Int32} {x2 : Int32} {x3 : Int32} {x4 : Int32} {x5 : Int32} {σ : j2_S}
  (h : (((nI 120) ≤ (σ.1 7000 o0) → ((none : Option FieldType) = none ∧ Q none σ)) ∧ (¬ ((nI 120) ≤ (σ.1 7000 o0)) → (vp_in (σ.1 7000 o0) 120 ∧ (vp_in (σ.1 7000 o0) 120 ∧ (vp_in (σ.1 7000 o0) 120 ∧ (vp_in (σ.1 7000 o0) 120 ∧ (vp_in (σ.1 7000 o0) 120 ∧ ((none : Option FieldType) = none ∧ Q none ((j2_up σ.1 7000 o0 ((σ.1 7000 o0) + (nI 1))), σ.2.1, (j2_ast (j2_ast (j2_ast (j2_ast (j2_ast σ.2.2 7002 o0 (σ.1 7000 o0).toNatClampNeg x1) 7003 o0 (σ.1 7000 o0).toNatClampNeg x2) 7004 o0 (σ.1 7000 o0).toNatClampNeg x3) 7005 o0 (σ.1 7000 o0).toNatClampNeg x4) 7006 o0 (σ.1 7000 o0).toNatClampNeg x5))))))))))) :
  T107 C Q 0 [vO 7 o0, vI x1, vI x2, vI x3, vI x4, vI x5] [] σ := j2_T.go hC [0] 400 h
abbrev T108 (C : j2_C) (Q : j2_P) : j2_K := j2_T C jc_X7_aimAnew none Q
set_option maxRecDepth 100000 in
theorem b108_0 {C : j2_C} (hC : j2_up1 C) {Q : j2_P} {o0 : Nat} {o1 : Nat} {e1 : Nat} {σ : j2_S}
  (h : T108 C Q 2 [vO 7 o0, vA e1 o1, vI (nI 0)] [] σ) :
  T108 C Q 0 [vO 7 o0, vA e1 o1, vM 2] [] σ := j2_T.go hC [0, 2, 11, 22] 400 h
set_option maxRecDepth 100000 in
theorem b108_2 {C : j2_C} (hC : j2_up1 C) {Q : j2_P} {o0 : Nat} {o1 : Nat} {e1 : Nat} {x2 : Int32} {σ : j2_S}
  (h : (((σ.1 7000 o0) ≤ x2 → ((none : Option FieldType) = none ∧ Q none σ)) ∧ (¬ ((σ.1 7000 o0) ≤ x2) → (vp_in x2 120 ∧ C 151 [vI (σ.2.2 7002 o0 x2.toNatClampNeg)] σ (fun r σ1 => T108 C Q 11 [vO 7 o0, vA e1 o1, vI x2] (r.toList ++ []) σ1))))) :
  T108 C Q 2 [vO 7 o0, vA e1 o1, vI x2] [] σ := j2_T.go hC [0, 2, 11, 22] 400 h
set_option maxRecDepth 100000 in
theorem b108_11 {C : j2_C} (hC : j2_up1 C) {Q : j2_P} {o0 : Nat} {o1 : Nat} {e1 : Nat} {x2 : Int32} {xs0 : Int32} {σ : j2_S}
  (h : ((xs0 = 0 → T108 C Q 22 [vO 7 o0, vA e1 o1, vI x2] [] σ) ∧ (¬ (xs0 = 0) → (vp_in x2 120 ∧ (if lt_fq e1 = 0 then vp_in (σ.2.2 7003 o0 x2.toNatClampNeg) (lt_fn e1) ∧ (vp_in x2 120 ∧ T108 C Q 22 [vO 7 o0, vA e1 o1, vI x2] [] (σ.1, σ.2.1, (j2_ast σ.2.2 7003 o0 x2.toNatClampNeg (σ.2.2 e1 o1 (σ.2.2 7003 o0 x2.toNatClampNeg).toNatClampNeg)))) else False))))) :
  T108 C Q 11 [vO 7 o0, vA e1 o1, vI x2] [vI xs0] σ := j2_T.go hC [0, 2, 11, 22] 400 h
set_option maxRecDepth 100000 in
theorem b108_22 {C : j2_C} (hC : j2_up1 C) {Q : j2_P} {o0 : Nat} {o1 : Nat} {e1 : Nat} {x2 : Int32} {σ : j2_S}
  (h : T108 C Q 2 [vO 7 o0, vA e1 o1, vI (x2 + (nI 1))] [] σ) :
  T108 C Q 22 [vO 7 o0, vA e1 o1, vI x2] [] σ := j2_T.go hC [0, 2, 11, 22] 400 h
abbrev T109 (C : j2_C) (Q : j2_P) : j2_K := j2_T C jc_X7_fold none Q
set_option maxRecDepth 100000 in
theorem b109_0 {C : j2_C} (hC : j2_up1 C) {Q : j2_P} {o0 : Nat} {o1 : Nat} {e1 : Nat} {σ : j2_S}
  (h : T109 C Q 4 [vO 7 o0, vA e1 o1, vI (nI 0), vI (nI 0), vM 2] [] σ) :
  T109 C Q 0 [vO 7 o0, vA e1 o1, vM 2, vM 2, vM 2] [] σ := j2_T.go hC [0, 4, 12, 14, 21, 42] 400 h
set_option maxRecDepth 100000 in
theorem b109_4 {C : j2_C} (hC : j2_up1 C) {Q : j2_P} {o0 : Nat} {o1 : Nat} {e1 : Nat} {x2 : Int32} {x3 : Int32} {w4 : j2_W} {σ : j2_S}
  (h : (((nI 1000000) ≤ x3 → ((none : Option FieldType) = none ∧ Q none σ)) ∧ (¬ ((nI 1000000) ≤ x3) → ((x2 = (-1 : Int32) → ((none : Option FieldType) = none ∧ Q none σ)) ∧ (¬ (x2 = (-1 : Int32)) → C 111 [vO 7 o0] σ (fun r σ1 => T109 C Q 12 [vO 7 o0, vA e1 o1, vI x2, vI x3, w4] (r.toList ++ []) σ1)))))) :
  T109 C Q 4 [vO 7 o0, vA e1 o1, vI x2, vI x3, w4] [] σ := j2_T.go hC [0, 4, 12, 14, 21, 42] 400 h
set_option maxRecDepth 100000 in
theorem b109_12 {C : j2_C} (hC : j2_up1 C) {Q : j2_P} {o0 : Nat} {o1 : Nat} {e1 : Nat} {x2 : Int32} {x3 : Int32} {w4 : j2_W} {σ : j2_S}
  (h : C 110 [vO 7 o0] σ (fun r σ1 => T109 C Q 14 [vO 7 o0, vA e1 o1, vI x2, vI x3, w4] (r.toList ++ []) σ1)) :
  T109 C Q 12 [vO 7 o0, vA e1 o1, vI x2, vI x3, w4] [] σ := j2_T.go hC [0, 4, 12, 14, 21, 42] 400 h
set_option maxRecDepth 100000 in
theorem b109_14 {C : j2_C} (hC : j2_up1 C) {Q : j2_P} {o0 : Nat} {o1 : Nat} {e1 : Nat} {x2 : Int32} {x3 : Int32} {w4 : j2_W} {xs0 : Int32} {σ : j2_S}
  (h : ((xs0 = (-1 : Int32) → T109 C Q 42 [vO 7 o0, vA e1 o1, vI xs0, vI x3, w4] [] σ) ∧ (¬ (xs0 = (-1 : Int32)) → C 114 [vO 7 o0, vI xs0] σ (fun r σ1 => T109 C Q 21 [vO 7 o0, vA e1 o1, vI xs0, vI x3, w4] (r.toList ++ []) σ1)))) :
  T109 C Q 14 [vO 7 o0, vA e1 o1, vI x2, vI x3, w4] [vI xs0] σ := j2_T.go hC [0, 4, 12, 14, 21, 42] 400 h
set_option maxRecDepth 100000 in
theorem b109_21 {C : j2_C} (hC : j2_up1 C) {Q : j2_P} {o0 : Nat} {o1 : Nat} {e1 : Nat} {x2 : Int32} {x3 : Int32} {w4 : j2_W} {xs0 : Int32} {σ : j2_S}
  (h : (if lt_fq e1 = 0 then vp_in (nI 2) (lt_fn e1) ∧ (if lt_fq e1 = 0 then vp_in (nI 2) (lt_fn e1) ∧ (if lt_fq e1 = 0 then vp_in ((nI 10) + xs0) (lt_fn e1) ∧ (if lt_fq e1 = 0 then vp_in ((nI 10) + xs0) (lt_fn e1) ∧ C 117 [vO 7 o0, vI xs0, vI x2] (σ.1, σ.2.1, (j2_ast (j2_ast σ.2.2 e1 o1 (nI 2).toNatClampNeg ((σ.2.2 e1 o1 (nI 2).toNatClampNeg) + (nI 1))) e1 o1 ((nI 10) + xs0).toNatClampNeg (((j2_ast σ.2.2 e1 o1 (nI 2).toNatClampNeg ((σ.2.2 e1 o1 (nI 2).toNatClampNeg) + (nI 1))) e1 o1 ((nI 10) + xs0).toNatClampNeg) + (nI 1)))) (fun r σ1 => T109 C Q 42 [vO 7 o0, vA e1 o1, vI x2, vI x3, vI xs0] (r.toList ++ []) σ1) else False) else False) else False) else False)) :
  T109 C Q 21 [vO 7 o0, vA e1 o1, vI x2, vI x3, w4] [vI xs0] σ := j2_T.go hC [0, 4, 12, 14, 21, 42] 400 h
set_option maxRecDepth 100000 in
theorem b109_42 {C : j2_C} (hC : j2_up1 C) {Q : j2_P} {o0 : Nat} {o1 : Nat} {e1 : Nat} {x2 : Int32} {x3 : Int32} {w4 : j2_W} {σ : j2_S}
  (h : T109 C Q 4 [vO 7 o0, vA e1 o1, vI x2, vI (x3 + (nI 1)), w4] [] σ) :
  T109 C Q 42 [vO 7 o0, vA e1 o1, vI x2, vI x3, w4] [] σ := j2_T.go hC [0, 4, 12, 14, 21, 42] 400 h
abbrev T110 (C : j2_C) (Q : j2_P) : j2_K := j2_T C jc_X7_firstFit (some .int) Q
set_option maxRecDepth 100000 in
theorem b110_0 {C : j2_C} (hC : j2_up1 C) {Q : j2_P} {o0 : Nat} {σ : j2_S}
  (h : T110 C Q 2 [vO 7 o0, vI (nI 0)] [] σ) :
  T110 C Q 0 [vO 7 o0, vM 2] [] σ := j2_T.go hC [0, 2, 9] 400 h
set_option maxRecDepth 100000 in
theorem b110_2 {C : j2_C} (hC : j2_up1 C) {Q : j2_P} {o0 : Nat} {x1 : Int32} {σ : j2_S}
  (h : (((σ.1 7000 o0) ≤ x1 → (True ∧ Q (some (vI (-1 : Int32))) σ)) ∧ (¬ ((σ.1 7000 o0) ≤ x1) → C 114 [vO 7 o0, vI x1] σ (fun r σ1 => T110 C Q 9 [vO 7 o0, vI x1] (r.toList ++ []) σ1)))) :
  T110 C Q 2 [vO 7 o0, vI x1] [] σ := j2_T.go hC [0, 2, 9] 400 h
set_option maxRecDepth 100000 in
theorem b110_9 {C : j2_C} (hC : j2_up1 C) {Q : j2_P} {o0 : Nat} {x1 : Int32} {xs0 : Int32} {σ : j2_S}
  (h : ((xs0 = 0 → T110 C Q 2 [vO 7 o0, vI (x1 + (nI 1))] [] σ) ∧ (¬ (xs0 = 0) → (True ∧ Q (some (vI x1)) σ)))) :
  T110 C Q 9 [vO 7 o0, vI x1] [vI xs0] σ := j2_T.go hC [0, 2, 9] 400 h
abbrev T111 (C : j2_C) (Q : j2_P) : j2_K := j2_T C jc_X7_survey none Q
set_option maxRecDepth 100000 in
theorem b111_0 {C : j2_C} (hC : j2_up1 C) {Q : j2_P} {o0 : Nat} {σ : j2_S}
  (h : C 248 [vA 7007 o0, vI (nI 0)] σ (fun r σ1 => T111 C Q 4 [vO 7 o0, vM 2, vM 2] (r.toList ++ []) σ1)) :
  T111 C Q 0 [vO 7 o0, vM 2, vM 2] [] σ := j2_T.go hC [0, 4, 8, 12, 14, 23, 30, 42, 59, 67, 69, 86, 92, 97, 104] 400 h
set_option maxRecDepth 100000 in
theorem b111_4 {C : j2_C} (hC : j2_up1 C) {Q : j2_P} {o0 : Nat} {σ : j2_S}
  (h : C 248 [vA 7010 o0, vI (nI 0)] σ (fun r σ1 => T111 C Q 8 [vO 7 o0, vM 2, vM 2] (r.toList ++ []) σ1)) :
  T111 C Q 4 [vO 7 o0, vM 2, vM 2] [] σ := j2_T.go hC [0, 4, 8, 12, 14, 23, 30, 42, 59, 67, 69, 86, 92, 97, 104] 400 h
set_option maxRecDepth 100000 in
theorem b111_8 {C : j2_C} (hC : j2_up1 C) {Q : j2_P} {o0 : Nat} {σ : j2_S}
  (h : C 248 [vA 7011 o0, vI (nI 0)] σ (fun r σ1 => T111 C Q 12 [vO 7 o0, vM 2, vM 2] (r.toList ++ []) σ1)) :
  T111 C Q 8 [vO 7 o0, vM 2, vM 2] [] σ := j2_T.go hC [0, 4, 8, 12, 14, 23, 30, 42, 59, 67, 69, 86, 92, 97, 104] 400 h
set_option maxRecDepth 100000 in
theorem b111_12 {C : j2_C} (hC : j2_up1 C) {Q : j2_P} {o0 : Nat} {σ : j2_S}
  (h : T111 C Q 14 [vO 7 o0, vI (nI 0), vM 2] [] σ) :
  T111 C Q 12 [vO 7 o0, vM 2, vM 2] [] σ := j2_T.go hC [0, 4, 8, 12, 14, 23, 30, 42, 59, 67, 69, 86, 92, 97, 104] 400 h
set_option maxRecDepth 100000 in
theorem b111_14 {C : j2_C} (hC : j2_up1 C) {Q : j2_P} {o0 : Nat} {x1 : Int32} {σ : j2_S}
  (h : (((σ.1 7000 o0) ≤ x1 → C 113 [vO 7 o0, vI (nI 0)] ((j2_up σ.1 7009 o0 (nI 0)), σ.2.1, σ.2.2) (fun r σ1 => T111 C Q 67 [vO 7 o0, vI x1, vM 2] (r.toList ++ []) σ1)) ∧ (¬ ((σ.1 7000 o0) ≤ x1) → (vp_in x1 120 ∧ C 151 [vI (σ.2.2 7002 o0 x1.toNatClampNeg)] σ (fun r σ1 => T111 C Q 23 [vO 7 o0, vI x1, vM 2] (r.toList ++ []) σ1))))) :
  T111 C Q 14 [vO 7 o0, vI x1, vM 2] [] σ := j2_T.go hC [0, 4, 8, 12, 14, 23, 30, 42, 59, 67, 69, 86, 92, 97, 104] 400 h
set_option maxRecDepth 100000 in
theorem b111_23 {C : j2_C} (hC : j2_up1 C) {Q : j2_P} {o0 : Nat} {x1 : Int32} {xs0 : Int32} {σ : j2_S}
  (h : ((xs0 = 0 → T111 C Q 42 [vO 7 o0, vI x1, vM 2] [] σ) ∧ (¬ (xs0 = 0) → (vp_in x1 120 ∧ C 112 [vO 7 o0, vI (σ.2.2 7003 o0 x1.toNatClampNeg)] σ (fun r σ1 => T111 C Q 30 [vO 7 o0, vI x1, vM 2] (r.toList ++ []) σ1))))) :
  T111 C Q 23 [vO 7 o0, vI x1, vM 2] [vI xs0] σ := j2_T.go hC [0, 4, 8, 12, 14, 23, 30, 42, 59, 67, 69, 86, 92, 97, 104] 400 h
set_option maxRecDepth 100000 in
theorem b111_30 {C : j2_C} (hC : j2_up1 C) {Q : j2_P} {o0 : Nat} {x1 : Int32} {xs0 : Int32} {σ : j2_S}
  (h : ((xs0 = 0 → T111 C Q 42 [vO 7 o0, vI x1, vM 2] [] σ) ∧ (¬ (xs0 = 0) → (vp_in x1 120 ∧ (vp_in (σ.2.2 7003 o0 x1.toNatClampNeg) 120 ∧ (vp_in (σ.2.2 7003 o0 x1.toNatClampNeg) 120 ∧ T111 C Q 42 [vO 7 o0, vI x1, vM 2] [] (σ.1, σ.2.1, (j2_ast σ.2.2 7010 o0 (σ.2.2 7003 o0 x1.toNatClampNeg).toNatClampNeg ((σ.2.2 7010 o0 (σ.2.2 7003 o0 x1.toNatClampNeg).toNatClampNeg) + (nI 1)))))))))) :
  T111 C Q 30 [vO 7 o0, vI x1, vM 2] [vI xs0] σ := j2_T.go hC [0, 4, 8, 12, 14, 23, 30, 42, 59, 67, 69, 86, 92, 97, 104] 400 h
set_option maxRecDepth 100000 in
theorem b111_42 {C : j2_C} (hC : j2_up1 C) {Q : j2_P} {o0 : Nat} {x1 : Int32} {σ : j2_S}
  (h : (vp_in x1 120 ∧ ((¬ (σ.2.2 7002 o0 x1.toNatClampNeg) = (nI 2) → T111 C Q 59 [vO 7 o0, vI x1, vM 2] [] σ) ∧ (¬ (¬ (σ.2.2 7002 o0 x1.toNatClampNeg) = (nI 2)) → (vp_in x1 120 ∧ (vp_in (σ.2.2 7003 o0 x1.toNatClampNeg) 20 ∧ (vp_in (σ.2.2 7003 o0 x1.toNatClampNeg) 20 ∧ T111 C Q 59 [vO 7 o0, vI x1, vM 2] [] (σ.1, σ.2.1, (j2_ast σ.2.2 7011 o0 (σ.2.2 7003 o0 x1.toNatClampNeg).toNatClampNeg ((σ.2.2 7011 o0 (σ.2.2 7003 o0 x1.toNatClampNeg).toNatClampNeg) + (nI 1))))))))))) :
  T111 C Q 42 [vO 7 o0, vI x1, vM 2] [] σ := j2_T.go hC [0, 4, 8, 12, 14, 23, 30, 42, 59, 67, 69, 86, 92, 97, 104] 400 h
set_option maxRecDepth 100000 in
theorem b111_59 {C : j2_C} (hC : j2_up1 C) {Q : j2_P} {o0 : Nat} {x1 : Int32} {σ : j2_S}
  (h : T111 C Q 14 [vO 7 o0, vI (x1 + (nI 1)), vM 2] [] σ) :
  T111 C Q 59 [vO 7 o0, vI x1, vM 2] [] σ := j2_T.go hC [0, 4, 8, 12, 14, 23, 30, 42, 59, 67, 69, 86, 92, 97, 104] 400 h
set_option maxRecDepth 100000 in
theorem b111_67 {C : j2_C} (hC : j2_up1 C) {Q : j2_P} {o0 : Nat} {x1 : Int32} {σ : j2_S}
  (h : T111 C Q 69 [vO 7 o0, vI (nI 0), vM 2] [] σ) :
  T111 C Q 67 [vO 7 o0, vI x1, vM 2] [] σ := j2_T.go hC [0, 4, 8, 12, 14, 23, 30, 42, 59, 67, 69, 86, 92, 97, 104] 400 h
set_option maxRecDepth 100000 in
theorem b111_69 {C : j2_C} (hC : j2_up1 C) {Q : j2_P} {o0 : Nat} {x1 : Int32} {w2 : j2_W} {σ : j2_S}
  (h : (((σ.1 7009 o0) ≤ x1 → ((none : Option FieldType) = none ∧ Q none σ)) ∧ (¬ ((σ.1 7009 o0) ≤ x1) → (((nI 120) ≤ x1 → ((none : Option FieldType) = none ∧ Q none σ)) ∧ (¬ ((nI 120) ≤ x1) → (vp_in x1 120 ∧ (vp_in (σ.2.2 7008 o0 x1.toNatClampNeg) 120 ∧ C 152 [vI (σ.2.2 7002 o0 (σ.2.2 7008 o0 x1.toNatClampNeg).toNatClampNeg)] σ (fun r σ1 => T111 C Q 86 [vO 7 o0, vI x1, vI (σ.2.2 7008 o0 x1.toNatClampNeg)] (r.toList ++ []) σ1)))))))) :
  T111 C Q 69 [vO 7 o0, vI x1, w2] [] σ := j2_T.go hC [0, 4, 8, 12, 14, 23, 30, 42, 59, 67, 69, 86, 92, 97, 104] 400 h
set_option maxRecDepth 100000 in
theorem b111_86 {C : j2_C} (hC : j2_up1 C) {Q : j2_P} {o0 : Nat} {x1 : Int32} {x2 : Int32} {xs0 : Int32} {σ : j2_S}
  (h : ((xs0 = 0 → T111 C Q 92 [vO 7 o0, vI x1, vI x2] [] σ) ∧ (¬ (xs0 = 0) → C 113 [vO 7 o0, vI (x2 + (nI 1))] σ (fun r σ1 => T111 C Q 92 [vO 7 o0, vI x1, vI x2] (r.toList ++ []) σ1)))) :
  T111 C Q 86 [vO 7 o0, vI x1, vI x2] [vI xs0] σ := j2_T.go hC [0, 4, 8, 12, 14, 23, 30, 42, 59, 67, 69, 86, 92, 97, 104] 400 h
set_option maxRecDepth 100000 in
theorem b111_92 {C : j2_C} (hC : j2_up1 C) {Q : j2_P} {o0 : Nat} {x1 : Int32} {x2 : Int32} {σ : j2_S}
  (h : (vp_in x2 120 ∧ C 151 [vI (σ.2.2 7002 o0 x2.toNatClampNeg)] σ (fun r σ1 => T111 C Q 97 [vO 7 o0, vI x1, vI x2] (r.toList ++ []) σ1))) :
  T111 C Q 92 [vO 7 o0, vI x1, vI x2] [] σ := j2_T.go hC [0, 4, 8, 12, 14, 23, 30, 42, 59, 67, 69, 86, 92, 97, 104] 400 h
set_option maxRecDepth 100000 in
theorem b111_97 {C : j2_C} (hC : j2_up1 C) {Q : j2_P} {o0 : Nat} {x1 : Int32} {x2 : Int32} {xs0 : Int32} {σ : j2_S}
  (h : ((xs0 = 0 → T111 C Q 104 [vO 7 o0, vI x1, vI x2] [] σ) ∧ (¬ (xs0 = 0) → (vp_in x2 120 ∧ C 113 [vO 7 o0, vI (σ.2.2 7003 o0 x2.toNatClampNeg)] σ (fun r σ1 => T111 C Q 104 [vO 7 o0, vI x1, vI x2] (r.toList ++ []) σ1))))) :
  T111 C Q 97 [vO 7 o0, vI x1, vI x2] [vI xs0] σ := j2_T.go hC [0, 4, 8, 12, 14, 23, 30, 42, 59, 67, 69, 86, 92, 97, 104] 400 h
set_option maxRecDepth 100000 in
theorem b111_104 {C : j2_C} (hC : j2_up1 C) {Q : j2_P} {o0 : Nat} {x1 : Int32} {x2 : Int32} {σ : j2_S}
  (h : T111 C Q 69 [vO 7 o0, vI (x1 + (nI 1)), vI x2] [] σ) :
  T111 C Q 104 [vO 7 o0, vI x1, vI x2] [] σ := j2_T.go hC [0, 4, 8, 12, 14, 23, 30, 42, 59, 67, 69, 86, 92, 97, 104] 400 h
abbrev T112 (C : j2_C) (Q : j2_P) : j2_K := j2_T C jc_X7_isPlace (some .boolean) Q
set_option maxRecDepth 100000 in
theorem b112_0 {C : j2_C} (hC : j2_up1 C) {Q : j2_P} {o0 : Nat} {x1 : Int32} {σ : j2_S}
  (h : ((x1 < 0 → (((nI 0) = 0 ∨ (nI 0) = 1) ∧ Q (some (vI (nI 0))) σ)) ∧ (¬ (x1 < 0) → (((σ.1 7000 o0) ≤ x1 → (((nI 0) = 0 ∨ (nI 0) = 1) ∧ Q (some (vI (nI 0))) σ)) ∧ (¬ ((σ.1 7000 o0) ≤ x1) → (((nI 1) = 0 ∨ (nI 1) = 1) ∧ Q (some (vI (nI 1))) σ)))))) :
  T112 C Q 0 [vO 7 o0, vI x1] [] σ := j2_T.go hC [0] 400 h
abbrev T113 (C : j2_C) (Q : j2_P) : j2_K := j2_T C jc_X7_meetFirst none Q
set_option maxRecDepth 100000 in
theorem b113_0 {C : j2_C} (hC : j2_up1 C) {Q : j2_P} {o0 : Nat} {x1 : Int32} {σ : j2_S}
  (h : C 112 [vO 7 o0, vI x1] σ (fun r σ1 => T113 C Q 3 [vO 7 o0, vI x1] (r.toList ++ []) σ1)) :
  T113 C Q 0 [vO 7 o0, vI x1] [] σ := j2_T.go hC [0, 3] 400 h
set_option maxRecDepth 100000 in
theorem b113_3 {C : j2_C} (hC : j2_up1 C) {Q : j2_P} {o0 : Nat} {x1 : Int32} {xs0 : Int32} {σ : j2_S}
  (h : ((xs0 = 0 → ((none : Option FieldType) = none ∧ Q none σ)) ∧ (¬ (xs0 = 0) → (vp_in x1 120 ∧ ((¬ (σ.2.2 7007 o0 x1.toNatClampNeg) = 0 → ((none : Option FieldType) = none ∧ Q none σ)) ∧ (¬ (¬ (σ.2.2 7007 o0 x1.toNatClampNeg) = 0) → (vp_in x1 120 ∧ (vp_in (σ.1 7009 o0) 120 ∧ ((none : Option FieldType) = none ∧ Q none ((j2_up σ.1 7009 o0 ((σ.1 7009 o0) + (nI 1))), σ.2.1, (j2_ast (j2_ast σ.2.2 7007 o0 x1.toNatClampNeg (nI 1)) 7008 o0 (σ.1 7009 o0).toNatClampNeg x1))))))))))) :
  T113 C Q 3 [vO 7 o0, vI x1] [vI xs0] σ := j2_T.go hC [0, 3] 400 h
abbrev T114 (C : j2_C) (Q : j2_P) : j2_K := j2_T C jc_X7_ruleAt (some .int) Q
set_option maxRecDepth 100000 in
theorem b114_0 {C : j2_C} (hC : j2_up1 C) {Q : j2_P} {o0 : Nat} {x1 : Int32} {σ : j2_S}
  (h : (vp_in x1 120 ∧ ((¬ (σ.2.2 7007 o0 x1.toNatClampNeg) = 0 → (vp_in x1 120 ∧ ((¬ (σ.2.2 7002 o0 x1.toNatClampNeg) = (nI 11) → T114 C Q 25 [vO 7 o0, vI x1, vI (σ.2.2 7002 o0 x1.toNatClampNeg), vM 2] [] σ) ∧ (¬ (¬ (σ.2.2 7002 o0 x1.toNatClampNeg) = (nI 11)) → (vp_in x1 120 ∧ ((¬ (σ.2.2 7003 o0 x1.toNatClampNeg) = (x1 + (nI 1)) → T114 C Q 25 [vO 7 o0, vI x1, vI (σ.2.2 7002 o0 x1.toNatClampNeg), vM 2] [] σ) ∧ (¬ (¬ (σ.2.2 7003 o0 x1.toNatClampNeg) = (x1 + (nI 1))) → (True ∧ Q (some (vI (nI 2))) σ)))))))) ∧ (¬ (¬ (σ.2.2 7007 o0 x1.toNatClampNeg) = 0) → (True ∧ Q (some (vI (nI 1))) σ))))) :
  T114 C Q 0 [vO 7 o0, vI x1, vM 2, vM 2] [] σ := j2_T.go hC [0, 25, 27, 31, 35, 40, 55, 56, 58, 59, 63, 64, 76, 99, 106, 118, 130] 400 h
set_option maxRecDepth 100000 in
theorem b114_25 {C : j2_C} (hC : j2_up1 C) {Q : j2_P} {o0 : Nat} {x1 : Int32} {x2 : Int32} {σ : j2_S}
  (h : C 151 [vI x2] σ (fun r σ1 => T114 C Q 27 [vO 7 o0, vI x1, vI x2, vM 2] (r.toList ++ []) σ1)) :
  T114 C Q 25 [vO 7 o0, vI x1, vI x2, vM 2] [] σ := j2_T.go hC [0, 25, 27, 31, 35, 40, 55, 56, 58, 59, 63, 64, 76, 99, 106, 118, 130] 400 h
set_option maxRecDepth 100000 in
theorem b114_27 {C : j2_C} (hC : j2_up1 C) {Q : j2_P} {o0 : Nat} {x1 : Int32} {x2 : Int32} {xs0 : Int32} {σ : j2_S}
  (h : ((xs0 = 0 → T114 C Q 35 [vO 7 o0, vI x1, vI x2, vM 2] [] σ) ∧ (¬ (xs0 = 0) → C 116 [vO 7 o0, vI x1] σ (fun r σ1 => T114 C Q 31 [vO 7 o0, vI x1, vI x2, vM 2] (r.toList ++ []) σ1)))) :
  T114 C Q 27 [vO 7 o0, vI x1, vI x2, vM 2] [vI xs0] σ := j2_T.go hC [0, 25, 27, 31, 35, 40, 55, 56, 58, 59, 63, 64, 76, 99, 106, 118, 130] 400 h
set_option maxRecDepth 100000 in
theorem b114_31 {C : j2_C} (hC : j2_up1 C) {Q : j2_P} {o0 : Nat} {x1 : Int32} {x2 : Int32} {xs0 : Int32} {σ : j2_S}
  (h : ((xs0 = (-1 : Int32) → T114 C Q 35 [vO 7 o0, vI x1, vI x2, vM 2] [] σ) ∧ (¬ (xs0 = (-1 : Int32)) → (True ∧ Q (some (vI (nI 3))) σ)))) :
  T114 C Q 31 [vO 7 o0, vI x1, vI x2, vM 2] [vI xs0] σ := j2_T.go hC [0, 25, 27, 31, 35, 40, 55, 56, 58, 59, 63, 64, 76, 99, 106, 118, 130] 400 h
set_option maxRecDepth 100000 in
theorem b114_35 {C : j2_C} (hC : j2_up1 C) {Q : j2_P} {o0 : Nat} {x1 : Int32} {x2 : Int32} {σ : j2_S}
  (h : C 112 [vO 7 o0, vI (x1 + (nI 1))] σ (fun r σ1 => T114 C Q 40 [vO 7 o0, vI x1, vI x2, vM 2] (r.toList ++ []) σ1)) :
  T114 C Q 35 [vO 7 o0, vI x1, vI x2, vM 2] [] σ := j2_T.go hC [0, 25, 27, 31, 35, 40, 55, 56, 58, 59, 63, 64, 76, 99, 106, 118, 130] 400 h
set_option maxRecDepth 100000 in
theorem b114_40 {C : j2_C} (hC : j2_up1 C) {Q : j2_P} {o0 : Nat} {x1 : Int32} {x2 : Int32} {xs0 : Int32} {σ : j2_S}
  (h : ((xs0 = 0 → T114 C Q 55 [vO 7 o0, vI x1, vI x2, vM 2] [] σ) ∧ (¬ (xs0 = 0) → (vp_in (x1 + (nI 1)) 120 ∧ ((¬ (σ.2.2 7010 o0 (x1 + (nI 1)).toNatClampNeg) = 0 → T114 C Q 55 [vO 7 o0, vI x1, vI x2, vM 2] [] σ) ∧ (¬ (¬ (σ.2.2 7010 o0 (x1 + (nI 1)).toNatClampNeg) = 0) → (vp_in (x1 + (nI 1)) 120 ∧ T114 C Q 56 [vO 7 o0, vI x1, vI x2, vM 2] [vI (σ.2.2 7002 o0 (x1 + (nI 1)).toNatClampNeg)] σ))))))) :
  T114 C Q 40 [vO 7 o0, vI x1, vI x2, vM 2] [vI xs0] σ := j2_T.go hC [0, 25, 27, 31, 35, 40, 55, 56, 58, 59, 63, 64, 76, 99, 106, 118, 130] 400 h
set_option maxRecDepth 100000 in
theorem b114_55 {C : j2_C} (hC : j2_up1 C) {Q : j2_P} {o0 : Nat} {x1 : Int32} {x2 : Int32} {σ : j2_S}
  (h : T114 C Q 56 [vO 7 o0, vI x1, vI x2, vM 2] [vI (-1 : Int32)] σ) :
  T114 C Q 55 [vO 7 o0, vI x1, vI x2, vM 2] [] σ := j2_T.go hC [0, 25, 27, 31, 35, 40, 55, 56, 58, 59, 63, 64, 76, 99, 106, 118, 130] 400 h
set_option maxRecDepth 100000 in
theorem b114_56 {C : j2_C} (hC : j2_up1 C) {Q : j2_P} {o0 : Nat} {x1 : Int32} {x2 : Int32} {xs0 : Int32} {σ : j2_S}
  (h : T114 C Q 58 [vO 7 o0, vI x1, vI x2, vI xs0] [vI x2] σ) :
  T114 C Q 56 [vO 7 o0, vI x1, vI x2, vM 2] [vI xs0] σ := j2_T.go hC [0, 25, 27, 31, 35, 40, 55, 56, 58, 59, 63, 64, 76, 99, 106, 118, 130] 400 h
set_option maxRecDepth 100000 in
theorem b114_58 {C : j2_C} (hC : j2_up1 C) {Q : j2_P} {o0 : Nat} {x1 : Int32} {x2 : Int32} {x3 : Int32} {xs0 : Int32} {σ : j2_S} (h0 : xs0 = (nI 0) → T114 C Q 59 [vO 7 o0, vI x1, vI x2, vI x3] [] σ) (h1 : xs0 = (nI 1) → T114 C Q 64 [vO 7 o0, vI x1, vI x2, vI x3] [] σ) (h2 : xs0 = (nI 2) → T114 C Q 76 [vO 7 o0, vI x1, vI x2, vI x3] [] σ) (h3 : xs0 = (nI 3) → T114 C Q 106 [vO 7 o0, vI x1, vI x2, vI x3] [] σ) (h4 : xs0 = (nI 4) → T114 C Q 130 [vO 7 o0, vI x1, vI x2, vI x3] [] σ) (h5 : xs0 = (nI 5) → T114 C Q 99 [vO 7 o0, vI x1, vI x2, vI x3] [] σ) (h6 : xs0 = (nI 6) → T114 C Q 130 [vO 7 o0, vI x1, vI x2, vI x3] [] σ) (h7 : xs0 = (nI 7) → T114 C Q 130 [vO 7 o0, vI x1, vI x2, vI x3] [] σ) (h8 : xs0 = (nI 8) → T114 C Q 130 [vO 7 o0, vI x1, vI x2, vI x3] [] σ) (h9 : xs0 = (nI 9) → T114 C Q 130 [vO 7 o0, vI x1, vI x2, vI x3] [] σ) (h10 : xs0 = (nI 10) → T114 C Q 130 [vO 7 o0, vI x1, vI x2, vI x3] [] σ) (h11 : xs0 = (nI 11) → T114 C Q 130 [vO 7 o0, vI x1, vI x2, vI x3] [] σ) (h12 : xs0 = (nI 12) → T114 C Q 118 [vO 7 o0, vI x1, vI x2, vI x3] [] σ) (h13 : xs0 = (nI 13) → T114 C Q 130 [vO 7 o0, vI x1, vI x2, vI x3] [] σ) (h14 : xs0 = (nI 14) → T114 C Q 118 [vO 7 o0, vI x1, vI x2, vI x3] [] σ) (hd : (xs0.toInt < 0 ∨ 14 < xs0.toInt) → T114 C Q 130 [vO 7 o0, vI x1, vI x2, vI x3] [] σ) :
  T114 C Q 58 [vO 7 o0, vI x1, vI x2, vI x3] [vI xs0] σ := j2_T.tsw hC (d := 130) (lo := 0) (hi := 14) (ts := #[59, 64, 76, 106, 130, 99, 130, 130, 130, 130, 130, 130, 118, 130, 118]) rfl hd (fun g1 g2 => by
  have g : xs0.toInt = 0 ∨ xs0.toInt = 1 ∨ xs0.toInt = 2 ∨ xs0.toInt = 3 ∨ xs0.toInt = 4 ∨ xs0.toInt = 5 ∨ xs0.toInt = 6 ∨ xs0.toInt = 7 ∨ xs0.toInt = 8 ∨ xs0.toInt = 9 ∨ xs0.toInt = 10 ∨ xs0.toInt = 11 ∨ xs0.toInt = 12 ∨ xs0.toInt = 13 ∨ xs0.toInt = 14 := by omega
  rcases g with g | g | g | g | g | g | g | g | g | g | g | g | g | g | g
  · rw [g]; exact h0 (Int32.toInt_inj.mp (g.trans (by decide)))
  · rw [g]; exact h1 (Int32.toInt_inj.mp (g.trans (by decide)))
  · rw [g]; exact h2 (Int32.toInt_inj.mp (g.trans (by decide)))
  · rw [g]; exact h3 (Int32.toInt_inj.mp (g.trans (by decide)))
  · rw [g]; exact h4 (Int32.toInt_inj.mp (g.trans (by decide)))
  · rw [g]; exact h5 (Int32.toInt_inj.mp (g.trans (by decide)))
  · rw [g]; exact h6 (Int32.toInt_inj.mp (g.trans (by decide)))
  · rw [g]; exact h7 (Int32.toInt_inj.mp (g.trans (by decide)))
  · rw [g]; exact h8 (Int32.toInt_inj.mp (g.trans (by decide)))
  · rw [g]; exact h9 (Int32.toInt_inj.mp (g.trans (by decide)))
  · rw [g]; exact h10 (Int32.toInt_inj.mp (g.trans (by decide)))
  · rw [g]; exact h11 (Int32.toInt_inj.mp (g.trans (by decide)))
  · rw [g]; exact h12 (Int32.toInt_inj.mp (g.trans (by decide)))
  · rw [g]; exact h13 (Int32.toInt_inj.mp (g.trans (by decide)))
  · rw [g]; exact h14 (Int32.toInt_inj.mp (g.trans (by decide)))
  )
set_option maxRecDepth 100000 in
theorem b114_59 {C : j2_C} (hC : j2_up1 C) {Q : j2_P} {o0 : Nat} {x1 : Int32} {x2 : Int32} {x3 : Int32} {σ : j2_S}
  (h : C 115 [vO 7 o0, vI x1, vI x3] σ (fun r σ1 => T114 C Q 63 [vO 7 o0, vI x1, vI x2, vI x3] (r.toList ++ []) σ1)) :
  T114 C Q 59 [vO 7 o0, vI x1, vI x2, vI x3] [] σ := j2_T.go hC [0, 25, 27, 31, 35, 40, 55, 56, 58, 59, 63, 64, 76, 99, 106, 118, 130] 400 h
set_option maxRecDepth 100000 in
theorem b114_63 {C : j2_C} (hC : j2_up1 C) {Q : j2_P} {o0 : Nat} {x1 : Int32} {x2 : Int32} {x3 : Int32} {xs0 : Int32} {σ : j2_S}
  (h : (True ∧ Q (some (vI xs0)) σ)) :
  T114 C Q 63 [vO 7 o0, vI x1, vI x2, vI x3] [vI xs0] σ := j2_T.go hC [0, 25, 27, 31, 35, 40, 55, 56, 58, 59, 63, 64, 76, 99, 106, 118, 130] 400 h
set_option maxRecDepth 100000 in
theorem b114_64 {C : j2_C} (hC : j2_up1 C) {Q : j2_P} {o0 : Nat} {x1 : Int32} {x2 : Int32} {x3 : Int32} {σ : j2_S}
  (h : ((¬ x3 = (nI 4) → ((¬ x3 = (nI 14) → (True ∧ Q (some (vI (nI 0))) σ)) ∧ (¬ (¬ x3 = (nI 14)) → (True ∧ Q (some (vI (nI 8))) σ)))) ∧ (¬ (¬ x3 = (nI 4)) → (True ∧ Q (some (vI (nI 5))) σ)))) :
  T114 C Q 64 [vO 7 o0, vI x1, vI x2, vI x3] [] σ := j2_T.go hC [0, 25, 27, 31, 35, 40, 55, 56, 58, 59, 63, 64, 76, 99, 106, 118, 130] 400 h
set_option maxRecDepth 100000 in
theorem b114_76 {C : j2_C} (hC : j2_up1 C) {Q : j2_P} {o0 : Nat} {x1 : Int32} {x2 : Int32} {x3 : Int32} {σ : j2_S}
  (h : ((¬ x3 = (nI 4) → ((¬ x3 = (nI 3) → (True ∧ Q (some (vI (nI 0))) σ)) ∧ (¬ (¬ x3 = (nI 3)) → (vp_in x1 120 ∧ (vp_in (x1 + (nI 1)) 120 ∧ ((¬ (σ.2.2 7003 o0 x1.toNatClampNeg) = (σ.2.2 7003 o0 (x1 + (nI 1)).toNatClampNeg) → (True ∧ Q (some (vI (nI 0))) σ)) ∧ (¬ (¬ (σ.2.2 7003 o0 x1.toNatClampNeg) = (σ.2.2 7003 o0 (x1 + (nI 1)).toNatClampNeg)) → (True ∧ Q (some (vI (nI 11))) σ)))))))) ∧ (¬ (¬ x3 = (nI 4)) → (True ∧ Q (some (vI (nI 5))) σ)))) :
  T114 C Q 76 [vO 7 o0, vI x1, vI x2, vI x3] [] σ := j2_T.go hC [0, 25, 27, 31, 35, 40, 55, 56, 58, 59, 63, 64, 76, 99, 106, 118, 130] 400 h
set_option maxRecDepth 100000 in
theorem b114_99 {C : j2_C} (hC : j2_up1 C) {Q : j2_P} {o0 : Nat} {x1 : Int32} {x2 : Int32} {x3 : Int32} {σ : j2_S}
  (h : ((¬ x3 = (nI 4) → (True ∧ Q (some (vI (nI 0))) σ)) ∧ (¬ (¬ x3 = (nI 4)) → (True ∧ Q (some (vI (nI 5))) σ)))) :
  T114 C Q 99 [vO 7 o0, vI x1, vI x2, vI x3] [] σ := j2_T.go hC [0, 25, 27, 31, 35, 40, 55, 56, 58, 59, 63, 64, 76, 99, 106, 118, 130] 400 h
set_option maxRecDepth 100000 in
theorem b114_106 {C : j2_C} (hC : j2_up1 C) {Q : j2_P} {o0 : Nat} {x1 : Int32} {x2 : Int32} {x3 : Int32} {σ : j2_S}
  (h : (vp_in x1 120 ∧ (vp_in (σ.2.2 7003 o0 x1.toNatClampNeg) 20 ∧ ((¬ (σ.2.2 7011 o0 (σ.2.2 7003 o0 x1.toNatClampNeg).toNatClampNeg) = 0 → (True ∧ Q (some (vI (nI 0))) σ)) ∧ (¬ (¬ (σ.2.2 7011 o0 (σ.2.2 7003 o0 x1.toNatClampNeg).toNatClampNeg) = 0) → (True ∧ Q (some (vI (nI 10))) σ)))))) :
  T114 C Q 106 [vO 7 o0, vI x1, vI x2, vI x3] [] σ := j2_T.go hC [0, 25, 27, 31, 35, 40, 55, 56, 58, 59, 63, 64, 76, 99, 106, 118, 130] 400 h
set_option maxRecDepth 100000 in
theorem b114_118 {C : j2_C} (hC : j2_up1 C) {Q : j2_P} {o0 : Nat} {x1 : Int32} {x2 : Int32} {x3 : Int32} {σ : j2_S}
  (h : (vp_in x1 120 ∧ ((¬ (σ.2.2 7003 o0 x1.toNatClampNeg) = (x1 + (nI 1)) → (True ∧ Q (some (vI (nI 0))) σ)) ∧ (¬ (¬ (σ.2.2 7003 o0 x1.toNatClampNeg) = (x1 + (nI 1))) → (True ∧ Q (some (vI (nI 12))) σ))))) :
  T114 C Q 118 [vO 7 o0, vI x1, vI x2, vI x3] [] σ := j2_T.go hC [0, 25, 27, 31, 35, 40, 55, 56, 58, 59, 63, 64, 76, 99, 106, 118, 130] 400 h
set_option maxRecDepth 100000 in
theorem b114_130 {C : j2_C} (hC : j2_up1 C) {Q : j2_P} {o0 : Nat} {x1 : Int32} {x2 : Int32} {x3 : Int32} {σ : j2_S}
  (h : (True ∧ Q (some (vI (nI 0))) σ)) :
  T114 C Q 130 [vO 7 o0, vI x1, vI x2, vI x3] [] σ := j2_T.go hC [0, 25, 27, 31, 35, 40, 55, 56, 58, 59, 63, 64, 76, 99, 106, 118, 130] 400 h
abbrev T115 (C : j2_C) (Q : j2_P) : j2_K := j2_T C jc_X7_ruleOfInt (some .int) Q
set_option maxRecDepth 100000 in
theorem b115_0 {C : j2_C} (hC : j2_up1 C) {Q : j2_P} {o0 : Nat} {x1 : Int32} {x2 : Int32} {σ : j2_S}
  (h : ((¬ x2 = 0 → T115 C Q 22 [vO 7 o0, vI x1, vI x2, vM 2, vM 2, vM 2] [] σ) ∧ (¬ (¬ x2 = 0) → C 112 [vO 7 o0, vI (x1 + (nI 2))] σ (fun r σ1 => T115 C Q 7 [vO 7 o0, vI x1, vI x2, vM 2, vM 2, vM 2] (r.toList ++ []) σ1)))) :
  T115 C Q 0 [vO 7 o0, vI x1, vI x2, vM 2, vM 2, vM 2] [] σ := j2_T.go hC [0, 7, 22, 23, 42, 68, 70, 71, 84, 86, 87, 92] 400 h
set_option maxRecDepth 100000 in
theorem b115_7 {C : j2_C} (hC : j2_up1 C) {Q : j2_P} {o0 : Nat} {x1 : Int32} {x2 : Int32} {xs0 : Int32} {σ : j2_S}
  (h : ((xs0 = 0 → T115 C Q 22 [vO 7 o0, vI x1, vI x2, vM 2, vM 2, vM 2] [] σ) ∧ (¬ (xs0 = 0) → (vp_in (x1 + (nI 2)) 120 ∧ ((¬ (σ.2.2 7010 o0 (x1 + (nI 2)).toNatClampNeg) = 0 → T115 C Q 22 [vO 7 o0, vI x1, vI x2, vM 2, vM 2, vM 2] [] σ) ∧ (¬ (¬ (σ.2.2 7010 o0 (x1 + (nI 2)).toNatClampNeg) = 0) → (vp_in (x1 + (nI 2)) 120 ∧ T115 C Q 23 [vO 7 o0, vI x1, vI x2, vM 2, vM 2, vM 2] [vI (σ.2.2 7002 o0 (x1 + (nI 2)).toNatClampNeg)] σ))))))) :
  T115 C Q 7 [vO 7 o0, vI x1, vI x2, vM 2, vM 2, vM 2] [vI xs0] σ := j2_T.go hC [0, 7, 22, 23, 42, 68, 70, 71, 84, 86, 87, 92] 400 h
set_option maxRecDepth 100000 in
theorem b115_22 {C : j2_C} (hC : j2_up1 C) {Q : j2_P} {o0 : Nat} {x1 : Int32} {x2 : Int32} {σ : j2_S}
  (h : T115 C Q 23 [vO 7 o0, vI x1, vI x2, vM 2, vM 2, vM 2] [vI (-1 : Int32)] σ) :
  T115 C Q 22 [vO 7 o0, vI x1, vI x2, vM 2, vM 2, vM 2] [] σ := j2_T.go hC [0, 7, 22, 23, 42, 68, 70, 71, 84, 86, 87, 92] 400 h
set_option maxRecDepth 100000 in
theorem b115_23 {C : j2_C} (hC : j2_up1 C) {Q : j2_P} {o0 : Nat} {x1 : Int32} {x2 : Int32} {xs0 : Int32} {σ : j2_S}
  (h : ((xs0 < (nI 6) → T115 C Q 42 [vO 7 o0, vI x1, vI x2, vI xs0, vM 2, vM 2] [] σ) ∧ (¬ (xs0 < (nI 6)) → (((nI 10) < xs0 → T115 C Q 42 [vO 7 o0, vI x1, vI x2, vI xs0, vM 2, vM 2] [] σ) ∧ (¬ ((nI 10) < xs0) → ((xs0 ≤ (nI 8) → (True ∧ Q (some (vI (nI 4))) σ)) ∧ (¬ (xs0 ≤ (nI 8)) → (vp_in (x1 + (nI 1)) 120 ∧ (((σ.2.2 7003 o0 (x1 + (nI 1)).toNatClampNeg) = 0 → T115 C Q 42 [vO 7 o0, vI x1, vI x2, vI xs0, vM 2, vM 2] [] σ) ∧ (¬ ((σ.2.2 7003 o0 (x1 + (nI 1)).toNatClampNeg) = 0) → (True ∧ Q (some (vI (nI 4))) σ))))))))))) :
  T115 C Q 23 [vO 7 o0, vI x1, vI x2, vM 2, vM 2, vM 2] [vI xs0] σ := j2_T.go hC [0, 7, 22, 23, 42, 68, 70, 71, 84, 86, 87, 92] 400 h
set_option maxRecDepth 100000 in
theorem b115_42 {C : j2_C} (hC : j2_up1 C) {Q : j2_P} {o0 : Nat} {x1 : Int32} {x2 : Int32} {x3 : Int32} {σ : j2_S}
  (h : ((¬ x2 = (nI 4) → ((¬ x2 = (nI 12) → ((¬ x3 = (nI 13) → (vp_in x1 120 ∧ ((¬ (σ.2.2 7003 o0 x1.toNatClampNeg) = 0 → T115 C Q 70 [vO 7 o0, vI x1, vI x2, vI x3, vM 2, vM 2] [] σ) ∧ (¬ (¬ (σ.2.2 7003 o0 x1.toNatClampNeg) = 0) → ((x2 = (nI 6) → T115 C Q 68 [vO 7 o0, vI x1, vI x2, vI x3, vM 2, vM 2] [] σ) ∧ (¬ (x2 = (nI 6)) → ((¬ x2 = (nI 7) → T115 C Q 70 [vO 7 o0, vI x1, vI x2, vI x3, vM 2, vM 2] [] σ) ∧ (¬ (¬ x2 = (nI 7)) → T115 C Q 68 [vO 7 o0, vI x1, vI x2, vI x3, vM 2, vM 2] [] σ)))))))) ∧ (¬ (¬ x3 = (nI 13)) → (True ∧ Q (some (vI (nI 7))) σ)))) ∧ (¬ (¬ x2 = (nI 12)) → (True ∧ Q (some (vI (nI 6))) σ)))) ∧ (¬ (¬ x2 = (nI 4)) → (True ∧ Q (some (vI (nI 5))) σ)))) :
  T115 C Q 42 [vO 7 o0, vI x1, vI x2, vI x3, vM 2, vM 2] [] σ := j2_T.go hC [0, 7, 22, 23, 42, 68, 70, 71, 84, 86, 87, 92] 400 h
set_option maxRecDepth 100000 in
theorem b115_68 {C : j2_C} (hC : j2_up1 C) {Q : j2_P} {o0 : Nat} {x1 : Int32} {x2 : Int32} {x3 : Int32} {σ : j2_S}
  (h : T115 C Q 71 [vO 7 o0, vI x1, vI x2, vI x3, vM 2, vM 2] [vI (nI 1)] σ) :
  T115 C Q 68 [vO 7 o0, vI x1, vI x2, vI x3, vM 2, vM 2] [] σ := j2_T.go hC [0, 7, 22, 23, 42, 68, 70, 71, 84, 86, 87, 92] 400 h
set_option maxRecDepth 100000 in
theorem b115_70 {C : j2_C} (hC : j2_up1 C) {Q : j2_P} {o0 : Nat} {x1 : Int32} {x2 : Int32} {x3 : Int32} {σ : j2_S}
  (h : T115 C Q 71 [vO 7 o0, vI x1, vI x2, vI x3, vM 2, vM 2] [vI (nI 0)] σ) :
  T115 C Q 70 [vO 7 o0, vI x1, vI x2, vI x3, vM 2, vM 2] [] σ := j2_T.go hC [0, 7, 22, 23, 42, 68, 70, 71, 84, 86, 87, 92] 400 h
set_option maxRecDepth 100000 in
theorem b115_71 {C : j2_C} (hC : j2_up1 C) {Q : j2_P} {o0 : Nat} {x1 : Int32} {x2 : Int32} {x3 : Int32} {xs0 : Int32} {σ : j2_S}
  (h : (vp_in x1 120 ∧ ((¬ (σ.2.2 7003 o0 x1.toNatClampNeg) = (nI 1) → T115 C Q 86 [vO 7 o0, vI x1, vI x2, vI x3, vI xs0, vM 2] [] σ) ∧ (¬ (¬ (σ.2.2 7003 o0 x1.toNatClampNeg) = (nI 1)) → ((x2 = (nI 8) → T115 C Q 84 [vO 7 o0, vI x1, vI x2, vI x3, vI xs0, vM 2] [] σ) ∧ (¬ (x2 = (nI 8)) → ((¬ x2 = (nI 9) → T115 C Q 86 [vO 7 o0, vI x1, vI x2, vI x3, vI xs0, vM 2] [] σ) ∧ (¬ (¬ x2 = (nI 9)) → T115 C Q 84 [vO 7 o0, vI x1, vI x2, vI x3, vI xs0, vM 2] [] σ)))))))) :
  T115 C Q 71 [vO 7 o0, vI x1, vI x2, vI x3, vM 2, vM 2] [vI xs0] σ := j2_T.go hC [0, 7, 22, 23, 42, 68, 70, 71, 84, 86, 87, 92] 400 h
set_option maxRecDepth 100000 in
theorem b115_84 {C : j2_C} (hC : j2_up1 C) {Q : j2_P} {o0 : Nat} {x1 : Int32} {x2 : Int32} {x3 : Int32} {x4 : Int32} {σ : j2_S}
  (h : T115 C Q 87 [vO 7 o0, vI x1, vI x2, vI x3, vI x4, vM 2] [vI (nI 1)] σ) :
  T115 C Q 84 [vO 7 o0, vI x1, vI x2, vI x3, vI x4, vM 2] [] σ := j2_T.go hC [0, 7, 22, 23, 42, 68, 70, 71, 84, 86, 87, 92] 400 h
set_option maxRecDepth 100000 in
theorem b115_86 {C : j2_C} (hC : j2_up1 C) {Q : j2_P} {o0 : Nat} {x1 : Int32} {x2 : Int32} {x3 : Int32} {x4 : Int32} {σ : j2_S}
  (h : T115 C Q 87 [vO 7 o0, vI x1, vI x2, vI x3, vI x4, vM 2] [vI (nI 0)] σ) :
  T115 C Q 86 [vO 7 o0, vI x1, vI x2, vI x3, vI x4, vM 2] [] σ := j2_T.go hC [0, 7, 22, 23, 42, 68, 70, 71, 84, 86, 87, 92] 400 h
set_option maxRecDepth 100000 in
theorem b115_87 {C : j2_C} (hC : j2_up1 C) {Q : j2_P} {o0 : Nat} {x1 : Int32} {x2 : Int32} {x3 : Int32} {x4 : Int32} {xs0 : Int32} {σ : j2_S}
  (h : ((¬ x4 = 0 → T115 C Q 92 [vO 7 o0, vI x1, vI x2, vI x3, vI x4, vI xs0] [] σ) ∧ (¬ (¬ x4 = 0) → ((xs0 = 0 → (True ∧ Q (some (vI (nI 0))) σ)) ∧ (¬ (xs0 = 0) → T115 C Q 92 [vO 7 o0, vI x1, vI x2, vI x3, vI x4, vI xs0] [] σ))))) :
  T115 C Q 87 [vO 7 o0, vI x1, vI x2, vI x3, vI x4, vM 2] [vI xs0] σ := j2_T.go hC [0, 7, 22, 23, 42, 68, 70, 71, 84, 86, 87, 92] 400 h
set_option maxRecDepth 100000 in
theorem b115_92 {C : j2_C} (hC : j2_up1 C) {Q : j2_P} {o0 : Nat} {x1 : Int32} {x2 : Int32} {x3 : Int32} {x4 : Int32} {x5 : Int32} {σ : j2_S}
  (h : (True ∧ Q (some (vI (nI 9))) σ)) :
  T115 C Q 92 [vO 7 o0, vI x1, vI x2, vI x3, vI x4, vI x5] [] σ := j2_T.go hC [0, 7, 22, 23, 42, 68, 70, 71, 84, 86, 87, 92] 400 h
abbrev T116 (C : j2_C) (Q : j2_P) : j2_K := j2_T C jc_X7_lead (some .int) Q
set_option maxRecDepth 100000 in
theorem b116_0 {C : j2_C} (hC : j2_up1 C) {Q : j2_P} {o0 : Nat} {x1 : Int32} {σ : j2_S}
  (h : (vp_in x1 120 ∧ C 112 [vO 7 o0, vI (σ.2.2 7003 o0 x1.toNatClampNeg)] σ (fun r σ1 => T116 C Q 8 [vO 7 o0, vI x1, vI (σ.2.2 7003 o0 x1.toNatClampNeg), vM 2] (r.toList ++ []) σ1))) :
  T116 C Q 0 [vO 7 o0, vI x1, vM 2, vM 2] [] σ := j2_T.go hC [0, 8, 19, 26, 40, 43] 400 h
set_option maxRecDepth 100000 in
theorem b116_8 {C : j2_C} (hC : j2_up1 C) {Q : j2_P} {o0 : Nat} {x1 : Int32} {x2 : Int32} {xs0 : Int32} {σ : j2_S}
  (h : ((xs0 = 0 → (True ∧ Q (some (vI (-1 : Int32))) σ)) ∧ (¬ (xs0 = 0) → (vp_in x2 120 ∧ (((σ.2.2 7002 o0 x2.toNatClampNeg) = (nI 11) → T116 C Q 19 [vO 7 o0, vI x1, vI x2, vI (nI 0)] [] σ) ∧ (¬ ((σ.2.2 7002 o0 x2.toNatClampNeg) = (nI 11)) → (True ∧ Q (some (vI (-1 : Int32))) σ))))))) :
  T116 C Q 8 [vO 7 o0, vI x1, vI x2, vM 2] [vI xs0] σ := j2_T.go hC [0, 8, 19, 26, 40, 43] 400 h
set_option maxRecDepth 100000 in
theorem b116_19 {C : j2_C} (hC : j2_up1 C) {Q : j2_P} {o0 : Nat} {x1 : Int32} {x2 : Int32} {x3 : Int32} {σ : j2_S}
  (h : (((σ.1 7000 o0) ≤ x3 → T116 C Q 40 [vO 7 o0, vI x1, vI x2, vI x3] [] σ) ∧ (¬ ((σ.1 7000 o0) ≤ x3) → C 112 [vO 7 o0, vI x2] σ (fun r σ1 => T116 C Q 26 [vO 7 o0, vI x1, vI x2, vI x3] (r.toList ++ []) σ1)))) :
  T116 C Q 19 [vO 7 o0, vI x1, vI x2, vI x3] [] σ := j2_T.go hC [0, 8, 19, 26, 40, 43] 400 h
set_option maxRecDepth 100000 in
theorem b116_26 {C : j2_C} (hC : j2_up1 C) {Q : j2_P} {o0 : Nat} {x1 : Int32} {x2 : Int32} {x3 : Int32} {xs0 : Int32} {σ : j2_S}
  (h : ((xs0 = 0 → T116 C Q 40 [vO 7 o0, vI x1, vI x2, vI x3] [] σ) ∧ (¬ (xs0 = 0) → (vp_in x2 120 ∧ ((¬ (σ.2.2 7002 o0 x2.toNatClampNeg) = (nI 11) → T116 C Q 40 [vO 7 o0, vI x1, vI x2, vI x3] [] σ) ∧ (¬ (¬ (σ.2.2 7002 o0 x2.toNatClampNeg) = (nI 11)) → (vp_in x2 120 ∧ T116 C Q 19 [vO 7 o0, vI x1, vI (σ.2.2 7003 o0 x2.toNatClampNeg), vI (x3 + (nI 1))] [] σ))))))) :
  T116 C Q 26 [vO 7 o0, vI x1, vI x2, vI x3] [vI xs0] σ := j2_T.go hC [0, 8, 19, 26, 40, 43] 400 h
set_option maxRecDepth 100000 in
theorem b116_40 {C : j2_C} (hC : j2_up1 C) {Q : j2_P} {o0 : Nat} {x1 : Int32} {x2 : Int32} {x3 : Int32} {σ : j2_S}
  (h : C 112 [vO 7 o0, vI x2] σ (fun r σ1 => T116 C Q 43 [vO 7 o0, vI x1, vI x2, vI x3] (r.toList ++ []) σ1)) :
  T116 C Q 40 [vO 7 o0, vI x1, vI x2, vI x3] [] σ := j2_T.go hC [0, 8, 19, 26, 40, 43] 400 h
set_option maxRecDepth 100000 in
theorem b116_43 {C : j2_C} (hC : j2_up1 C) {Q : j2_P} {o0 : Nat} {x1 : Int32} {x2 : Int32} {x3 : Int32} {xs0 : Int32} {σ : j2_S}
  (h : ((xs0 = 0 → (True ∧ Q (some (vI (-1 : Int32))) σ)) ∧ (¬ (xs0 = 0) → (vp_in x2 120 ∧ (((σ.2.2 7002 o0 x2.toNatClampNeg) = (nI 11) → (True ∧ Q (some (vI (-1 : Int32))) σ)) ∧ (¬ ((σ.2.2 7002 o0 x2.toNatClampNeg) = (nI 11)) → (True ∧ Q (some (vI x2)) σ))))))) :
  T116 C Q 43 [vO 7 o0, vI x1, vI x2, vI x3] [vI xs0] σ := j2_T.go hC [0, 8, 19, 26, 40, 43] 400 h
abbrev T117 (C : j2_C) (Q : j2_P) : j2_K := j2_T C jc_X7_apply none Q
set_option maxRecDepth 100000 in
theorem b117_0 {C : j2_C} (hC : j2_up1 C) {Q : j2_P} {o0 : Nat} {x1 : Int32} {x2 : Int32} {σ : j2_S}
  (h : T117 C Q 1 [vO 7 o0, vI x1, vI x2] [vI x1] σ) :
  T117 C Q 0 [vO 7 o0, vI x1, vI x2] [] σ := j2_T.go hC [0, 1, 2, 6, 7, 13, 15, 35, 39, 40, 44, 45, 51, 52, 56] 400 h
set_option maxRecDepth 100000 in
theorem b117_1 {C : j2_C} (hC : j2_up1 C) {Q : j2_P} {o0 : Nat} {x1 : Int32} {x2 : Int32} {xs0 : Int32} {σ : j2_S} (h0 : xs0 = (nI 1) → T117 C Q 2 [vO 7 o0, vI x1, vI x2] [] σ) (h1 : xs0 = (nI 2) → T117 C Q 2 [vO 7 o0, vI x1, vI x2] [] σ) (h2 : xs0 = (nI 3) → T117 C Q 7 [vO 7 o0, vI x1, vI x2] [] σ) (h3 : xs0 = (nI 4) → T117 C Q 15 [vO 7 o0, vI x1, vI x2] [] σ) (h4 : xs0 = (nI 5) → T117 C Q 52 [vO 7 o0, vI x1, vI x2] [] σ) (h5 : xs0 = (nI 6) → T117 C Q 40 [vO 7 o0, vI x1, vI x2] [] σ) (h6 : xs0 = (nI 7) → T117 C Q 40 [vO 7 o0, vI x1, vI x2] [] σ) (h7 : xs0 = (nI 8) → T117 C Q 40 [vO 7 o0, vI x1, vI x2] [] σ) (h8 : xs0 = (nI 9) → T117 C Q 52 [vO 7 o0, vI x1, vI x2] [] σ) (h9 : xs0 = (nI 10) → T117 C Q 45 [vO 7 o0, vI x1, vI x2] [] σ) (h10 : xs0 = (nI 11) → T117 C Q 52 [vO 7 o0, vI x1, vI x2] [] σ) (h11 : xs0 = (nI 12) → T117 C Q 45 [vO 7 o0, vI x1, vI x2] [] σ) (hd : (xs0.toInt < 1 ∨ 12 < xs0.toInt) → T117 C Q 52 [vO 7 o0, vI x1, vI x2] [] σ) :
  T117 C Q 1 [vO 7 o0, vI x1, vI x2] [vI xs0] σ := j2_T.tsw hC (d := 52) (lo := 1) (hi := 12) (ts := #[2, 2, 7, 15, 52, 40, 40, 40, 52, 45, 52, 45]) rfl hd (fun g1 g2 => by
  have g : xs0.toInt = 1 ∨ xs0.toInt = 2 ∨ xs0.toInt = 3 ∨ xs0.toInt = 4 ∨ xs0.toInt = 5 ∨ xs0.toInt = 6 ∨ xs0.toInt = 7 ∨ xs0.toInt = 8 ∨ xs0.toInt = 9 ∨ xs0.toInt = 10 ∨ xs0.toInt = 11 ∨ xs0.toInt = 12 := by omega
  rcases g with g | g | g | g | g | g | g | g | g | g | g | g
  · rw [g]; exact h0 (Int32.toInt_inj.mp (g.trans (by decide)))
  · rw [g]; exact h1 (Int32.toInt_inj.mp (g.trans (by decide)))
  · rw [g]; exact h2 (Int32.toInt_inj.mp (g.trans (by decide)))
  · rw [g]; exact h3 (Int32.toInt_inj.mp (g.trans (by decide)))
  · rw [g]; exact h4 (Int32.toInt_inj.mp (g.trans (by decide)))
  · rw [g]; exact h5 (Int32.toInt_inj.mp (g.trans (by decide)))
  · rw [g]; exact h6 (Int32.toInt_inj.mp (g.trans (by decide)))
  · rw [g]; exact h7 (Int32.toInt_inj.mp (g.trans (by decide)))
  · rw [g]; exact h8 (Int32.toInt_inj.mp (g.trans (by decide)))
  · rw [g]; exact h9 (Int32.toInt_inj.mp (g.trans (by decide)))
  · rw [g]; exact h10 (Int32.toInt_inj.mp (g.trans (by decide)))
  · rw [g]; exact h11 (Int32.toInt_inj.mp (g.trans (by decide)))
  )
set_option maxRecDepth 100000 in
theorem b117_2 {C : j2_C} (hC : j2_up1 C) {Q : j2_P} {o0 : Nat} {x1 : Int32} {x2 : Int32} {σ : j2_S}
  (h : C 120 [vO 7 o0, vI x2, vI (nI 1)] σ (fun r σ1 => T117 C Q 6 [vO 7 o0, vI x1, vI x2] (r.toList ++ []) σ1)) :
  T117 C Q 2 [vO 7 o0, vI x1, vI x2] [] σ := j2_T.go hC [0, 1, 2, 6, 7, 13, 15, 35, 39, 40, 44, 45, 51, 52, 56] 400 h
set_option maxRecDepth 100000 in
theorem b117_6 {C : j2_C} (hC : j2_up1 C) {Q : j2_P} {o0 : Nat} {x1 : Int32} {x2 : Int32} {σ : j2_S}
  (h : T117 C Q 56 [vO 7 o0, vI x1, vI x2] [] σ) :
  T117 C Q 6 [vO 7 o0, vI x1, vI x2] [] σ := j2_T.go hC [0, 1, 2, 6, 7, 13, 15, 35, 39, 40, 44, 45, 51, 52, 56] 400 h
set_option maxRecDepth 100000 in
theorem b117_7 {C : j2_C} (hC : j2_up1 C) {Q : j2_P} {o0 : Nat} {x1 : Int32} {x2 : Int32} {σ : j2_S}
  (h : C 116 [vO 7 o0, vI x2] σ (fun r σ1 => T117 C Q 13 [vO 7 o0, vI x1, vI x2] (r.toList ++ [vI x2, vA 7003 o0]) σ1)) :
  T117 C Q 7 [vO 7 o0, vI x1, vI x2] [] σ := j2_T.go hC [0, 1, 2, 6, 7, 13, 15, 35, 39, 40, 44, 45, 51, 52, 56] 400 h
set_option maxRecDepth 100000 in
theorem b117_13 {C : j2_C} (hC : j2_up1 C) {Q : j2_P} {o0 : Nat} {x1 : Int32} {x2 : Int32} {xs0 : Int32} {xs1 : Int32} {os2 : Nat} {σ : j2_S}
  (h : (vp_in xs1 120 ∧ T117 C Q 56 [vO 7 o0, vI x1, vI x2] [] (σ.1, σ.2.1, (j2_ast σ.2.2 7003 os2 xs1.toNatClampNeg xs0)))) :
  T117 C Q 13 [vO 7 o0, vI x1, vI x2] [vI xs0, vI xs1, vA 7003 os2] σ := j2_T.go hC [0, 1, 2, 6, 7, 13, 15, 35, 39, 40, 44, 45, 51, 52, 56] 400 h
set_option maxRecDepth 100000 in
theorem b117_15 {C : j2_C} (hC : j2_up1 C) {Q : j2_P} {o0 : Nat} {x1 : Int32} {x2 : Int32} {σ : j2_S}
  (h : (vp_in (x2 + (nI 2)) 120 ∧ (vp_in x2 120 ∧ (vp_in (x2 + (nI 1)) 120 ∧ C 153 [vI (σ.2.2 7002 o0 (x2 + (nI 2)).toNatClampNeg), vI (σ.2.2 7003 o0 x2.toNatClampNeg), vI (σ.2.2 7003 o0 (x2 + (nI 1)).toNatClampNeg)] σ (fun r σ1 => T117 C Q 35 [vO 7 o0, vI x1, vI x2] (r.toList ++ [vI (nI 0), vI x2, vO 7 o0]) σ1))))) :
  T117 C Q 15 [vO 7 o0, vI x1, vI x2] [] σ := j2_T.go hC [0, 1, 2, 6, 7, 13, 15, 35, 39, 40, 44, 45, 51, 52, 56] 400 h
set_option maxRecDepth 100000 in
theorem b117_35 {C : j2_C} (hC : j2_up1 C) {Q : j2_P} {o0 : Nat} {x1 : Int32} {x2 : Int32} {xs0 : Int32} {xs1 : Int32} {xs2 : Int32} {os3 : Nat} {σ : j2_S}
  (h : C 119 [vO 7 os3, vI xs2, vI xs1, vI xs0, vI (x2 + (nI 2))] σ (fun r σ1 => T117 C Q 39 [vO 7 o0, vI x1, vI x2] (r.toList ++ []) σ1)) :
  T117 C Q 35 [vO 7 o0, vI x1, vI x2] [vI xs0, vI xs1, vI xs2, vO 7 os3] σ := j2_T.go hC [0, 1, 2, 6, 7, 13, 15, 35, 39, 40, 44, 45, 51, 52, 56] 400 h
set_option maxRecDepth 100000 in
theorem b117_39 {C : j2_C} (hC : j2_up1 C) {Q : j2_P} {o0 : Nat} {x1 : Int32} {x2 : Int32} {σ : j2_S}
  (h : T117 C Q 56 [vO 7 o0, vI x1, vI x2] [] σ) :
  T117 C Q 39 [vO 7 o0, vI x1, vI x2] [] σ := j2_T.go hC [0, 1, 2, 6, 7, 13, 15, 35, 39, 40, 44, 45, 51, 52, 56] 400 h
set_option maxRecDepth 100000 in
theorem b117_40 {C : j2_C} (hC : j2_up1 C) {Q : j2_P} {o0 : Nat} {x1 : Int32} {x2 : Int32} {σ : j2_S}
  (h : C 118 [vO 7 o0, vI x1, vI x2] σ (fun r σ1 => T117 C Q 44 [vO 7 o0, vI x1, vI x2] (r.toList ++ []) σ1)) :
  T117 C Q 40 [vO 7 o0, vI x1, vI x2] [] σ := j2_T.go hC [0, 1, 2, 6, 7, 13, 15, 35, 39, 40, 44, 45, 51, 52, 56] 400 h
set_option maxRecDepth 100000 in
theorem b117_44 {C : j2_C} (hC : j2_up1 C) {Q : j2_P} {o0 : Nat} {x1 : Int32} {x2 : Int32} {σ : j2_S}
  (h : T117 C Q 56 [vO 7 o0, vI x1, vI x2] [] σ) :
  T117 C Q 44 [vO 7 o0, vI x1, vI x2] [] σ := j2_T.go hC [0, 1, 2, 6, 7, 13, 15, 35, 39, 40, 44, 45, 51, 52, 56] 400 h
set_option maxRecDepth 100000 in
theorem b117_45 {C : j2_C} (hC : j2_up1 C) {Q : j2_P} {o0 : Nat} {x1 : Int32} {x2 : Int32} {σ : j2_S}
  (h : C 119 [vO 7 o0, vI x2, vI (nI 4), vI (nI 0), vI x2] σ (fun r σ1 => T117 C Q 51 [vO 7 o0, vI x1, vI x2] (r.toList ++ []) σ1)) :
  T117 C Q 45 [vO 7 o0, vI x1, vI x2] [] σ := j2_T.go hC [0, 1, 2, 6, 7, 13, 15, 35, 39, 40, 44, 45, 51, 52, 56] 400 h
set_option maxRecDepth 100000 in
theorem b117_51 {C : j2_C} (hC : j2_up1 C) {Q : j2_P} {o0 : Nat} {x1 : Int32} {x2 : Int32} {σ : j2_S}
  (h : T117 C Q 56 [vO 7 o0, vI x1, vI x2] [] σ) :
  T117 C Q 51 [vO 7 o0, vI x1, vI x2] [] σ := j2_T.go hC [0, 1, 2, 6, 7, 13, 15, 35, 39, 40, 44, 45, 51, 52, 56] 400 h
set_option maxRecDepth 100000 in
theorem b117_52 {C : j2_C} (hC : j2_up1 C) {Q : j2_P} {o0 : Nat} {x1 : Int32} {x2 : Int32} {σ : j2_S}
  (h : C 120 [vO 7 o0, vI x2, vI (nI 2)] σ (fun r σ1 => T117 C Q 56 [vO 7 o0, vI x1, vI x2] (r.toList ++ []) σ1)) :
  T117 C Q 52 [vO 7 o0, vI x1, vI x2] [] σ := j2_T.go hC [0, 1, 2, 6, 7, 13, 15, 35, 39, 40, 44, 45, 51, 52, 56] 400 h
set_option maxRecDepth 100000 in
theorem b117_56 {C : j2_C} (hC : j2_up1 C) {Q : j2_P} {o0 : Nat} {x1 : Int32} {x2 : Int32} {σ : j2_S}
  (h : ((none : Option FieldType) = none ∧ Q none σ)) :
  T117 C Q 56 [vO 7 o0, vI x1, vI x2] [] σ := j2_T.go hC [0, 1, 2, 6, 7, 13, 15, 35, 39, 40, 44, 45, 51, 52, 56] 400 h
abbrev T118 (C : j2_C) (Q : j2_P) : j2_K := j2_T C jc_X7_decide none Q
set_option maxRecDepth 100000 in
theorem b118_0 {C : j2_C} (hC : j2_up1 C) {Q : j2_P} {o0 : Nat} {x1 : Int32} {x2 : Int32} {σ : j2_S}
  (h : ((¬ x1 = (nI 7) → T118 C Q 10 [vO 7 o0, vI x1, vI x2, vM 2, vM 2] [vI (x2 + (nI 1))] σ) ∧ (¬ (¬ x1 = (nI 7)) → T118 C Q 10 [vO 7 o0, vI x1, vI x2, vM 2, vM 2] [vI (x2 + (nI 2))] σ))) :
  T118 C Q 0 [vO 7 o0, vI x1, vI x2, vM 2, vM 2] [] σ := j2_T.go hC [0, 10, 34, 36, 37, 49, 58] 400 h
set_option maxRecDepth 100000 in
theorem b118_10 {C : j2_C} (hC : j2_up1 C) {Q : j2_P} {o0 : Nat} {x1 : Int32} {x2 : Int32} {xs0 : Int32} {σ : j2_S}
  (h : ((x1 = (nI 8) → T118 C Q 34 [vO 7 o0, vI x1, vI x2, vI xs0, vM 2] [] σ) ∧ (¬ (x1 = (nI 8)) → ((¬ x1 = (nI 7) → (vp_in x2 120 ∧ ((¬ (σ.2.2 7003 o0 x2.toNatClampNeg) = 0 → T118 C Q 36 [vO 7 o0, vI x1, vI x2, vI xs0, vM 2] [] σ) ∧ (¬ (¬ (σ.2.2 7003 o0 x2.toNatClampNeg) = 0) → T118 C Q 34 [vO 7 o0, vI x1, vI x2, vI xs0, vM 2] [] σ)))) ∧ (¬ (¬ x1 = (nI 7)) → (vp_in x2 120 ∧ (vp_in (x2 + (nI 1)) 120 ∧ (((σ.2.2 7003 o0 (x2 + (nI 1)).toNatClampNeg) ≤ (σ.2.2 7003 o0 x2.toNatClampNeg) → T118 C Q 36 [vO 7 o0, vI x1, vI x2, vI xs0, vM 2] [] σ) ∧ (¬ ((σ.2.2 7003 o0 (x2 + (nI 1)).toNatClampNeg) ≤ (σ.2.2 7003 o0 x2.toNatClampNeg)) → T118 C Q 34 [vO 7 o0, vI x1, vI x2, vI xs0, vM 2] [] σ))))))))) :
  T118 C Q 10 [vO 7 o0, vI x1, vI x2, vM 2, vM 2] [vI xs0] σ := j2_T.go hC [0, 10, 34, 36, 37, 49, 58] 400 h
set_option maxRecDepth 100000 in
theorem b118_34 {C : j2_C} (hC : j2_up1 C) {Q : j2_P} {o0 : Nat} {x1 : Int32} {x2 : Int32} {x3 : Int32} {σ : j2_S}
  (h : T118 C Q 37 [vO 7 o0, vI x1, vI x2, vI x3, vM 2] [vI (nI 1)] σ) :
  T118 C Q 34 [vO 7 o0, vI x1, vI x2, vI x3, vM 2] [] σ := j2_T.go hC [0, 10, 34, 36, 37, 49, 58] 400 h
set_option maxRecDepth 100000 in
theorem b118_36 {C : j2_C} (hC : j2_up1 C) {Q : j2_P} {o0 : Nat} {x1 : Int32} {x2 : Int32} {x3 : Int32} {σ : j2_S}
  (h : T118 C Q 37 [vO 7 o0, vI x1, vI x2, vI x3, vM 2] [vI (nI 0)] σ) :
  T118 C Q 36 [vO 7 o0, vI x1, vI x2, vI x3, vM 2] [] σ := j2_T.go hC [0, 10, 34, 36, 37, 49, 58] 400 h
set_option maxRecDepth 100000 in
theorem b118_37 {C : j2_C} (hC : j2_up1 C) {Q : j2_P} {o0 : Nat} {x1 : Int32} {x2 : Int32} {x3 : Int32} {xs0 : Int32} {σ : j2_S}
  (h : ((xs0 = 0 → C 120 [vO 7 o0, vI x2, vI ((x3 - x2) + (nI 1))] σ (fun r σ1 => T118 C Q 58 [vO 7 o0, vI x1, vI x2, vI x3, vI xs0] (r.toList ++ []) σ1)) ∧ (¬ (xs0 = 0) → (vp_in x3 120 ∧ C 119 [vO 7 o0, vI x2, vI (nI 11), vI (σ.2.2 7003 o0 x3.toNatClampNeg), vI x3] σ (fun r σ1 => T118 C Q 49 [vO 7 o0, vI x1, vI x2, vI x3, vI xs0] (r.toList ++ []) σ1))))) :
  T118 C Q 37 [vO 7 o0, vI x1, vI x2, vI x3, vM 2] [vI xs0] σ := j2_T.go hC [0, 10, 34, 36, 37, 49, 58] 400 h
set_option maxRecDepth 100000 in
theorem b118_49 {C : j2_C} (hC : j2_up1 C) {Q : j2_P} {o0 : Nat} {x1 : Int32} {x2 : Int32} {x3 : Int32} {x4 : Int32} {σ : j2_S}
  (h : T118 C Q 58 [vO 7 o0, vI x1, vI x2, vI x3, vI x4] [] σ) :
  T118 C Q 49 [vO 7 o0, vI x1, vI x2, vI x3, vI x4] [] σ := j2_T.go hC [0, 10, 34, 36, 37, 49, 58] 400 h
set_option maxRecDepth 100000 in
theorem b118_58 {C : j2_C} (hC : j2_up1 C) {Q : j2_P} {o0 : Nat} {x1 : Int32} {x2 : Int32} {x3 : Int32} {x4 : Int32} {σ : j2_S}
  (h : ((none : Option FieldType) = none ∧ Q none σ)) :
  T118 C Q 58 [vO 7 o0, vI x1, vI x2, vI x3, vI x4] [] σ := j2_T.go hC [0, 10, 34, 36, 37, 49, 58] 400 h
abbrev T119 (C : j2_C) (Q : j2_P) : j2_K := j2_T C jc_X7_become none Q
set_option maxRecDepth 100000 in
theorem b119_0 {C : j2_C} (hC : j2_up1 C) {Q : j2_P} {o0 : Nat} {x1 : Int32} {x2 : Int32} {x3 : Int32} {x4 : Int32} {σ : j2_S}
  (h : (vp_in x1 120 ∧ (vp_in x1 120 ∧ (vp_in x1 120 ∧ (vp_in x4 120 ∧ (vp_in x1 120 ∧ (vp_in x4 120 ∧ (vp_in x1 120 ∧ C 120 [vO 7 o0, vI (x1 + (nI 1)), vI (x4 - x1)] (σ.1, σ.2.1, (j2_ast (j2_ast (j2_ast (j2_ast (j2_ast σ.2.2 7002 o0 x1.toNatClampNeg x2) 7003 o0 x1.toNatClampNeg x3) 7004 o0 x1.toNatClampNeg (nI 0)) 7005 o0 x1.toNatClampNeg ((j2_ast (j2_ast (j2_ast σ.2.2 7002 o0 x1.toNatClampNeg x2) 7003 o0 x1.toNatClampNeg x3) 7004 o0 x1.toNatClampNeg (nI 0)) 7005 o0 x4.toNatClampNeg)) 7006 o0 x1.toNatClampNeg ((j2_ast (j2_ast (j2_ast (j2_ast σ.2.2 7002 o0 x1.toNatClampNeg x2) 7003 o0 x1.toNatClampNeg x3) 7004 o0 x1.toNatClampNeg (nI 0)) 7005 o0 x1.toNatClampNeg ((j2_ast (j2_ast (j2_ast σ.2.2 7002 o0 x1.toNatClampNeg x2) 7003 o0 x1.toNatClampNeg x3) 7004 o0 x1.toNatClampNeg (nI 0)) 7005 o0 x4.toNatClampNeg)) 7006 o0 x4.toNatClampNeg))) (fun r σ1 => T119 C Q 39 [vO 7 o0, vI x1, vI x2, vI x3, vI x4] (r.toList ++ []) σ1))))))))) :
  T119 C Q 0 [vO 7 o0, vI x1, vI x2, vI x3, vI x4] [] σ := j2_T.go hC [0, 39] 400 h
set_option maxRecDepth 100000 in
theorem b119_39 {C : j2_C} (hC : j2_up1 C) {Q : j2_P} {o0 : Nat} {x1 : Int32} {x2 : Int32} {x3 : Int32} {x4 : Int32} {σ : j2_S}
  (h : ((none : Option FieldType) = none ∧ Q none σ)) :
  T119 C Q 39 [vO 7 o0, vI x1, vI x2, vI x3, vI x4] [] σ := j2_T.go hC [0, 39] 400 h
abbrev T120 (C : j2_C) (Q : j2_P) : j2_K := j2_T C jc_X7_cut none Q
set_option maxRecDepth 100000 in
theorem b120_0 {C : j2_C} (hC : j2_up1 C) {Q : j2_P} {o0 : Nat} {x1 : Int32} {x2 : Int32} {σ : j2_S}
  (h : ((x2 ≤ 0 → ((none : Option FieldType) = none ∧ Q none σ)) ∧ (¬ (x2 ≤ 0) → ((x1 < 0 → ((none : Option FieldType) = none ∧ Q none σ)) ∧ (¬ (x1 < 0) → (((x1 + x2) ≤ (σ.1 7000 o0) → (¬ (x1 + x2) < 0 ∧ ¬ x1 < 0 ∧ ¬ (((σ.1 7000 o0) - x1) - x2) < 0 ∧ (x1 + x2).toNatClampNeg + (((σ.1 7000 o0) - x1) - x2).toNatClampNeg ≤ 120 ∧ x1.toNatClampNeg + (((σ.1 7000 o0) - x1) - x2).toNatClampNeg ≤ 120 ∧ (¬ (x1 + x2) < 0 ∧ ¬ x1 < 0 ∧ ¬ (((σ.1 7000 o0) - x1) - x2) < 0 ∧ (x1 + x2).toNatClampNeg + (((σ.1 7000 o0) - x1) - x2).toNatClampNeg ≤ 120 ∧ x1.toNatClampNeg + (((σ.1 7000 o0) - x1) - x2).toNatClampNeg ≤ 120 ∧ (¬ (x1 + x2) < 0 ∧ ¬ x1 < 0 ∧ ¬ (((σ.1 7000 o0) - x1) - x2) < 0 ∧ (x1 + x2).toNatClampNeg + (((σ.1 7000 o0) - x1) - x2).toNatClampNeg ≤ 120 ∧ x1.toNatClampNeg + (((σ.1 7000 o0) - x1) - x2).toNatClampNeg ≤ 120 ∧ (¬ (x1 + x2) < 0 ∧ ¬ x1 < 0 ∧ ¬ (((σ.1 7000 o0) - x1) - x2) < 0 ∧ (x1 + x2).toNatClampNeg + (((σ.1 7000 o0) - x1) - x2).toNatClampNeg ≤ 120 ∧ x1.toNatClampNeg + (((σ.1 7000 o0) - x1) - x2).toNatClampNeg ≤ 120 ∧ (¬ (x1 + x2) < 0 ∧ ¬ x1 < 0 ∧ ¬ (((σ.1 7000 o0) - x1) - x2) < 0 ∧ (x1 + x2).toNatClampNeg + (((σ.1 7000 o0) - x1) - x2).toNatClampNeg ≤ 120 ∧ x1.toNatClampNeg + (((σ.1 7000 o0) - x1) - x2).toNatClampNeg ≤ 120 ∧ T120 C Q 76 [vO 7 o0, vI x1, vI x2, vI (((σ.1 7000 o0) - x1) - x2), vI (nI 0)] [] ((j2_up σ.1 7000 o0 ((σ.1 7000 o0) - x2)), σ.2.1, (j2_acp (j2_acp (j2_acp (j2_acp (j2_acp σ.2.2 7002 o0 7002 o0 (x1 + x2).toNatClampNeg x1.toNatClampNeg (((σ.1 7000 o0) - x1) - x2).toNatClampNeg) 7003 o0 7003 o0 (x1 + x2).toNatClampNeg x1.toNatClampNeg (((σ.1 7000 o0) - x1) - x2).toNatClampNeg) 7004 o0 7004 o0 (x1 + x2).toNatClampNeg x1.toNatClampNeg (((σ.1 7000 o0) - x1) - x2).toNatClampNeg) 7005 o0 7005 o0 (x1 + x2).toNatClampNeg x1.toNatClampNeg (((σ.1 7000 o0) - x1) - x2).toNatClampNeg) 7006 o0 7006 o0 (x1 + x2).toNatClampNeg x1.toNatClampNeg (((σ.1 7000 o0) - x1) - x2).toNatClampNeg)))))))) ∧ (¬ ((x1 + x2) ≤ (σ.1 7000 o0)) → ((none : Option FieldType) = none ∧ Q none σ)))))))) :
  T120 C Q 0 [vO 7 o0, vI x1, vI x2, vM 2, vM 2] [] σ := j2_T.go hC [0, 76, 85, 104] 400 h
set_option maxRecDepth 100000 in
theorem b120_76 {C : j2_C} (hC : j2_up1 C) {Q : j2_P} {o0 : Nat} {x1 : Int32} {x2 : Int32} {x3 : Int32} {x4 : Int32} {σ : j2_S}
  (h : (((σ.1 7000 o0) ≤ x4 → ((none : Option FieldType) = none ∧ Q none σ)) ∧ (¬ ((σ.1 7000 o0) ≤ x4) → (vp_in x4 120 ∧ C 151 [vI (σ.2.2 7002 o0 x4.toNatClampNeg)] σ (fun r σ1 => T120 C Q 85 [vO 7 o0, vI x1, vI x2, vI x3, vI x4] (r.toList ++ []) σ1))))) :
  T120 C Q 76 [vO 7 o0, vI x1, vI x2, vI x3, vI x4] [] σ := j2_T.go hC [0, 76, 85, 104] 400 h
set_option maxRecDepth 100000 in
theorem b120_85 {C : j2_C} (hC : j2_up1 C) {Q : j2_P} {o0 : Nat} {x1 : Int32} {x2 : Int32} {x3 : Int32} {x4 : Int32} {xs0 : Int32} {σ : j2_S}
  (h : ((xs0 = 0 → T120 C Q 104 [vO 7 o0, vI x1, vI x2, vI x3, vI x4] [] σ) ∧ (¬ (xs0 = 0) → (vp_in x4 120 ∧ (((σ.2.2 7003 o0 x4.toNatClampNeg) ≤ x1 → T120 C Q 104 [vO 7 o0, vI x1, vI x2, vI x3, vI x4] [] σ) ∧ (¬ ((σ.2.2 7003 o0 x4.toNatClampNeg) ≤ x1) → (vp_in x4 120 ∧ (vp_in x4 120 ∧ T120 C Q 104 [vO 7 o0, vI x1, vI x2, vI x3, vI x4] [] (σ.1, σ.2.1, (j2_ast σ.2.2 7003 o0 x4.toNatClampNeg (if x1 < ((σ.2.2 7003 o0 x4.toNatClampNeg) - x2) then ((σ.2.2 7003 o0 x4.toNatClampNeg) - x2) else x1))))))))))) :
  T120 C Q 85 [vO 7 o0, vI x1, vI x2, vI x3, vI x4] [vI xs0] σ := j2_T.go hC [0, 76, 85, 104] 400 h
set_option maxRecDepth 100000 in
theorem b120_104 {C : j2_C} (hC : j2_up1 C) {Q : j2_P} {o0 : Nat} {x1 : Int32} {x2 : Int32} {x3 : Int32} {x4 : Int32} {σ : j2_S}
  (h : T120 C Q 76 [vO 7 o0, vI x1, vI x2, vI x3, vI (x4 + (nI 1))] [] σ) :
  T120 C Q 104 [vO 7 o0, vI x1, vI x2, vI x3, vI x4] [] σ := j2_T.go hC [0, 76, 85, 104] 400 h
abbrev T122 (C : j2_C) (Q : j2_P) : j2_K := j2_T C jc_X8_write none Q
set_option maxRecDepth 100000 in
theorem b122_0 {C : j2_C} (hC : j2_up1 C) {Q : j2_P} {o0 : Nat} {o1 : Nat} {σ : j2_S}
  (h : C 123 [vO 8 o0, vI (nI 83)] ((j2_up σ.1 8001 o0 (nI 0)), σ.2.1, σ.2.2) (fun r σ1 => T122 C Q 6 [vO 8 o0, vO 3 o1, vM 2] (r.toList ++ []) σ1)) :
  T122 C Q 0 [vO 8 o0, vO 3 o1, vM 2] [] σ := j2_T.go hC [0, 6, 9, 13, 15, 23] 400 h
set_option maxRecDepth 100000 in
theorem b122_6 {C : j2_C} (hC : j2_up1 C) {Q : j2_P} {o0 : Nat} {o1 : Nat} {σ : j2_S}
  (h : C 123 [vO 8 o0, vI (nI 72)] σ (fun r σ1 => T122 C Q 9 [vO 8 o0, vO 3 o1, vM 2] (r.toList ++ []) σ1)) :
  T122 C Q 6 [vO 8 o0, vO 3 o1, vM 2] [] σ := j2_T.go hC [0, 6, 9, 13, 15, 23] 400 h
set_option maxRecDepth 100000 in
theorem b122_9 {C : j2_C} (hC : j2_up1 C) {Q : j2_P} {o0 : Nat} {o1 : Nat} {σ : j2_S}
  (h : C 123 [vO 8 o0, vI (σ.1 3000 o1)] σ (fun r σ1 => T122 C Q 13 [vO 8 o0, vO 3 o1, vM 2] (r.toList ++ []) σ1)) :
  T122 C Q 9 [vO 8 o0, vO 3 o1, vM 2] [] σ := j2_T.go hC [0, 6, 9, 13, 15, 23] 400 h
set_option maxRecDepth 100000 in
theorem b122_13 {C : j2_C} (hC : j2_up1 C) {Q : j2_P} {o0 : Nat} {o1 : Nat} {σ : j2_S}
  (h : T122 C Q 15 [vO 8 o0, vO 3 o1, vI (nI 0)] [] σ) :
  T122 C Q 13 [vO 8 o0, vO 3 o1, vM 2] [] σ := j2_T.go hC [0, 6, 9, 13, 15, 23] 400 h
set_option maxRecDepth 100000 in
theorem b122_15 {C : j2_C} (hC : j2_up1 C) {Q : j2_P} {o0 : Nat} {o1 : Nat} {x2 : Int32} {σ : j2_S}
  (h : (((σ.1 3000 o1) ≤ x2 → ((none : Option FieldType) = none ∧ Q none σ)) ∧ (¬ ((σ.1 3000 o1) ≤ x2) → C 124 [vO 8 o0, vO 3 o1, vI x2] σ (fun r σ1 => T122 C Q 23 [vO 8 o0, vO 3 o1, vI x2] (r.toList ++ []) σ1)))) :
  T122 C Q 15 [vO 8 o0, vO 3 o1, vI x2] [] σ := j2_T.go hC [0, 6, 9, 13, 15, 23] 400 h
set_option maxRecDepth 100000 in
theorem b122_23 {C : j2_C} (hC : j2_up1 C) {Q : j2_P} {o0 : Nat} {o1 : Nat} {x2 : Int32} {σ : j2_S}
  (h : T122 C Q 15 [vO 8 o0, vO 3 o1, vI (x2 + (nI 1))] [] σ) :
  T122 C Q 23 [vO 8 o0, vO 3 o1, vI x2] [] σ := j2_T.go hC [0, 6, 9, 13, 15, 23] 400 h
abbrev T123 (C : j2_C) (Q : j2_P) : j2_K := j2_T C jc_X8_put none Q
set_option maxRecDepth 100000 in
theorem b123_0 {C : j2_C} (hC : j2_up1 C) {Q : j2_P} {o0 : Nat} {x1 : Int32} {σ : j2_S}
  (h : (((nI 48943) ≤ (σ.1 8001 o0) → ((none : Option FieldType) = none ∧ Q none σ)) ∧ (¬ ((nI 48943) ≤ (σ.1 8001 o0)) → (x1.toInt8.toInt32.toInt8.toInt32 = x1.toInt8.toInt32 ∧ vp_in (σ.1 8001 o0) 48943 ∧ ((none : Option FieldType) = none ∧ Q none ((j2_up σ.1 8001 o0 ((σ.1 8001 o0) + (nI 1))), σ.2.1, (j2_ast σ.2.2 8000 o0 (σ.1 8001 o0).toNatClampNeg x1.toInt8.toInt32))))))) :
  T123 C Q 0 [vO 8 o0, vI x1] [] σ := j2_T.go hC [0] 400 h
abbrev T124 (C : j2_C) (Q : j2_P) : j2_K := j2_T C jc_X8_writeClass none Q
set_option maxRecDepth 100000 in
theorem b124_0 {C : j2_C} (hC : j2_up1 C) {Q : j2_P} {o0 : Nat} {o1 : Nat} {x2 : Int32} {σ : j2_S}
  (h : (vp_in x2 10 ∧ C 123 [vO 8 o0, vI (σ.2.2 3002 o1 x2.toNatClampNeg)] σ (fun r σ1 => T124 C Q 6 [vO 8 o0, vO 3 o1, vI x2, vM 2] (r.toList ++ []) σ1))) :
  T124 C Q 0 [vO 8 o0, vO 3 o1, vI x2, vM 2] [] σ := j2_T.go hC [0, 6, 14, 20, 22, 38, 48, 58, 66, 68, 83] 400 h
set_option maxRecDepth 100000 in
theorem b124_6 {C : j2_C} (hC : j2_up1 C) {Q : j2_P} {o0 : Nat} {o1 : Nat} {x2 : Int32} {σ : j2_S}
  (h : (vp_in x2 10 ∧ C 123 [vO 8 o0, vI ((σ.2.2 3003 o1 x2.toNatClampNeg) + (nI 1))] σ (fun r σ1 => T124 C Q 14 [vO 8 o0, vO 3 o1, vI x2, vM 2] (r.toList ++ []) σ1))) :
  T124 C Q 6 [vO 8 o0, vO 3 o1, vI x2, vM 2] [] σ := j2_T.go hC [0, 6, 14, 20, 22, 38, 48, 58, 66, 68, 83] 400 h
set_option maxRecDepth 100000 in
theorem b124_14 {C : j2_C} (hC : j2_up1 C) {Q : j2_P} {o0 : Nat} {o1 : Nat} {x2 : Int32} {σ : j2_S}
  (h : (vp_in x2 10 ∧ C 123 [vO 8 o0, vI (σ.2.2 3005 o1 x2.toNatClampNeg)] σ (fun r σ1 => T124 C Q 20 [vO 8 o0, vO 3 o1, vI x2, vM 2] (r.toList ++ []) σ1))) :
  T124 C Q 14 [vO 8 o0, vO 3 o1, vI x2, vM 2] [] σ := j2_T.go hC [0, 6, 14, 20, 22, 38, 48, 58, 66, 68, 83] 400 h
set_option maxRecDepth 100000 in
theorem b124_20 {C : j2_C} (hC : j2_up1 C) {Q : j2_P} {o0 : Nat} {o1 : Nat} {x2 : Int32} {σ : j2_S}
  (h : T124 C Q 22 [vO 8 o0, vO 3 o1, vI x2, vI (nI 0)] [] σ) :
  T124 C Q 20 [vO 8 o0, vO 3 o1, vI x2, vM 2] [] σ := j2_T.go hC [0, 6, 14, 20, 22, 38, 48, 58, 66, 68, 83] 400 h
set_option maxRecDepth 100000 in
theorem b124_22 {C : j2_C} (hC : j2_up1 C) {Q : j2_P} {o0 : Nat} {o1 : Nat} {x2 : Int32} {x3 : Int32} {σ : j2_S}
  (h : (vp_in x2 10 ∧ (((σ.2.2 3005 o1 x2.toNatClampNeg) ≤ x3 → (vp_in x2 10 ∧ C 123 [vO 8 o0, vI (σ.2.2 3006 o1 x2.toNatClampNeg)] σ (fun r σ1 => T124 C Q 66 [vO 8 o0, vO 3 o1, vI x2, vI x3] (r.toList ++ []) σ1))) ∧ (¬ ((σ.2.2 3005 o1 x2.toNatClampNeg) ≤ x3) → (vp_in ((x2 * (nI 6)) + x3) 60 ∧ C 123 [vO 8 o0, vI (σ.2.2 3008 o1 ((x2 * (nI 6)) + x3).toNatClampNeg)] σ (fun r σ1 => T124 C Q 38 [vO 8 o0, vO 3 o1, vI x2, vI x3] (r.toList ++ []) σ1)))))) :
  T124 C Q 22 [vO 8 o0, vO 3 o1, vI x2, vI x3] [] σ := j2_T.go hC [0, 6, 14, 20, 22, 38, 48, 58, 66, 68, 83] 400 h
set_option maxRecDepth 100000 in
theorem b124_38 {C : j2_C} (hC : j2_up1 C) {Q : j2_P} {o0 : Nat} {o1 : Nat} {x2 : Int32} {x3 : Int32} {σ : j2_S}
  (h : (vp_in ((x2 * (nI 6)) + x3) 60 ∧ C 123 [vO 8 o0, vI (σ.2.2 3009 o1 ((x2 * (nI 6)) + x3).toNatClampNeg)] σ (fun r σ1 => T124 C Q 48 [vO 8 o0, vO 3 o1, vI x2, vI x3] (r.toList ++ []) σ1))) :
  T124 C Q 38 [vO 8 o0, vO 3 o1, vI x2, vI x3] [] σ := j2_T.go hC [0, 6, 14, 20, 22, 38, 48, 58, 66, 68, 83] 400 h
set_option maxRecDepth 100000 in
theorem b124_48 {C : j2_C} (hC : j2_up1 C) {Q : j2_P} {o0 : Nat} {o1 : Nat} {x2 : Int32} {x3 : Int32} {σ : j2_S}
  (h : (vp_in ((x2 * (nI 6)) + x3) 60 ∧ C 123 [vO 8 o0, vI (σ.2.2 3010 o1 ((x2 * (nI 6)) + x3).toNatClampNeg)] σ (fun r σ1 => T124 C Q 58 [vO 8 o0, vO 3 o1, vI x2, vI x3] (r.toList ++ []) σ1))) :
  T124 C Q 48 [vO 8 o0, vO 3 o1, vI x2, vI x3] [] σ := j2_T.go hC [0, 6, 14, 20, 22, 38, 48, 58, 66, 68, 83] 400 h
set_option maxRecDepth 100000 in
theorem b124_58 {C : j2_C} (hC : j2_up1 C) {Q : j2_P} {o0 : Nat} {o1 : Nat} {x2 : Int32} {x3 : Int32} {σ : j2_S}
  (h : T124 C Q 22 [vO 8 o0, vO 3 o1, vI x2, vI (x3 + (nI 1))] [] σ) :
  T124 C Q 58 [vO 8 o0, vO 3 o1, vI x2, vI x3] [] σ := j2_T.go hC [0, 6, 14, 20, 22, 38, 48, 58, 66, 68, 83] 400 h
set_option maxRecDepth 100000 in
theorem b124_66 {C : j2_C} (hC : j2_up1 C) {Q : j2_P} {o0 : Nat} {o1 : Nat} {x2 : Int32} {x3 : Int32} {σ : j2_S}
  (h : T124 C Q 68 [vO 8 o0, vO 3 o1, vI x2, vI (nI 0)] [] σ) :
  T124 C Q 66 [vO 8 o0, vO 3 o1, vI x2, vI x3] [] σ := j2_T.go hC [0, 6, 14, 20, 22, 38, 48, 58, 66, 68, 83] 400 h
set_option maxRecDepth 100000 in
theorem b124_68 {C : j2_C} (hC : j2_up1 C) {Q : j2_P} {o0 : Nat} {o1 : Nat} {x2 : Int32} {x3 : Int32} {σ : j2_S}
  (h : (vp_in x2 10 ∧ (((σ.2.2 3006 o1 x2.toNatClampNeg) ≤ x3 → ((none : Option FieldType) = none ∧ Q none σ)) ∧ (¬ ((σ.2.2 3006 o1 x2.toNatClampNeg) ≤ x3) → (vp_in x2 10 ∧ C 125 [vO 8 o0, vO 3 o1, vI ((σ.2.2 3007 o1 x2.toNatClampNeg) + x3)] σ (fun r σ1 => T124 C Q 83 [vO 8 o0, vO 3 o1, vI x2, vI x3] (r.toList ++ []) σ1)))))) :
  T124 C Q 68 [vO 8 o0, vO 3 o1, vI x2, vI x3] [] σ := j2_T.go hC [0, 6, 14, 20, 22, 38, 48, 58, 66, 68, 83] 400 h
set_option maxRecDepth 100000 in
theorem b124_83 {C : j2_C} (hC : j2_up1 C) {Q : j2_P} {o0 : Nat} {o1 : Nat} {x2 : Int32} {x3 : Int32} {σ : j2_S}
  (h : T124 C Q 68 [vO 8 o0, vO 3 o1, vI x2, vI (x3 + (nI 1))] [] σ) :
  T124 C Q 83 [vO 8 o0, vO 3 o1, vI x2, vI x3] [] σ := j2_T.go hC [0, 6, 14, 20, 22, 38, 48, 58, 66, 68, 83] 400 h
abbrev T125 (C : j2_C) (Q : j2_P) : j2_K := j2_T C jc_X8_writeMethod none Q
set_option maxRecDepth 100000 in
theorem b125_0 {C : j2_C} (hC : j2_up1 C) {Q : j2_P} {o0 : Nat} {o1 : Nat} {x2 : Int32} {σ : j2_S}
  (h : (vp_in x2 80 ∧ C 123 [vO 8 o0, vI (σ.2.2 3012 o1 x2.toNatClampNeg)] σ (fun r σ1 => T125 C Q 6 [vO 8 o0, vO 3 o1, vI x2, vM 2, vM 2] (r.toList ++ []) σ1))) :
  T125 C Q 0 [vO 8 o0, vO 3 o1, vI x2, vM 2, vM 2] [] σ := j2_T.go hC [0, 6, 12, 18, 24, 26, 42, 50, 57, 63, 89] 400 h
set_option maxRecDepth 100000 in
theorem b125_6 {C : j2_C} (hC : j2_up1 C) {Q : j2_P} {o0 : Nat} {o1 : Nat} {x2 : Int32} {σ : j2_S}
  (h : (vp_in x2 80 ∧ C 123 [vO 8 o0, vI (σ.2.2 3013 o1 x2.toNatClampNeg)] σ (fun r σ1 => T125 C Q 12 [vO 8 o0, vO 3 o1, vI x2, vM 2, vM 2] (r.toList ++ []) σ1))) :
  T125 C Q 6 [vO 8 o0, vO 3 o1, vI x2, vM 2, vM 2] [] σ := j2_T.go hC [0, 6, 12, 18, 24, 26, 42, 50, 57, 63, 89] 400 h
set_option maxRecDepth 100000 in
theorem b125_12 {C : j2_C} (hC : j2_up1 C) {Q : j2_P} {o0 : Nat} {o1 : Nat} {x2 : Int32} {σ : j2_S}
  (h : (vp_in x2 80 ∧ C 123 [vO 8 o0, vI (σ.2.2 3014 o1 x2.toNatClampNeg)] σ (fun r σ1 => T125 C Q 18 [vO 8 o0, vO 3 o1, vI x2, vM 2, vM 2] (r.toList ++ []) σ1))) :
  T125 C Q 12 [vO 8 o0, vO 3 o1, vI x2, vM 2, vM 2] [] σ := j2_T.go hC [0, 6, 12, 18, 24, 26, 42, 50, 57, 63, 89] 400 h
set_option maxRecDepth 100000 in
theorem b125_18 {C : j2_C} (hC : j2_up1 C) {Q : j2_P} {o0 : Nat} {o1 : Nat} {x2 : Int32} {σ : j2_S}
  (h : (vp_in x2 80 ∧ C 123 [vO 8 o0, vI (σ.2.2 3015 o1 x2.toNatClampNeg)] σ (fun r σ1 => T125 C Q 24 [vO 8 o0, vO 3 o1, vI x2, vM 2, vM 2] (r.toList ++ []) σ1))) :
  T125 C Q 18 [vO 8 o0, vO 3 o1, vI x2, vM 2, vM 2] [] σ := j2_T.go hC [0, 6, 12, 18, 24, 26, 42, 50, 57, 63, 89] 400 h
set_option maxRecDepth 100000 in
theorem b125_24 {C : j2_C} (hC : j2_up1 C) {Q : j2_P} {o0 : Nat} {o1 : Nat} {x2 : Int32} {σ : j2_S}
  (h : T125 C Q 26 [vO 8 o0, vO 3 o1, vI x2, vI (nI 0), vM 2] [] σ) :
  T125 C Q 24 [vO 8 o0, vO 3 o1, vI x2, vM 2, vM 2] [] σ := j2_T.go hC [0, 6, 12, 18, 24, 26, 42, 50, 57, 63, 89] 400 h
set_option maxRecDepth 100000 in
theorem b125_26 {C : j2_C} (hC : j2_up1 C) {Q : j2_P} {o0 : Nat} {o1 : Nat} {x2 : Int32} {x3 : Int32} {σ : j2_S}
  (h : (vp_in x2 80 ∧ (((σ.2.2 3015 o1 x2.toNatClampNeg) ≤ x3 → (vp_in x2 80 ∧ C 123 [vO 8 o0, vI (σ.2.2 3017 o1 x2.toNatClampNeg)] σ (fun r σ1 => T125 C Q 50 [vO 8 o0, vO 3 o1, vI x2, vI x3, vM 2] (r.toList ++ []) σ1))) ∧ (¬ ((σ.2.2 3015 o1 x2.toNatClampNeg) ≤ x3) → (vp_in ((x2 * (nI 3)) + x3) 240 ∧ C 123 [vO 8 o0, vI (σ.2.2 3016 o1 ((x2 * (nI 3)) + x3).toNatClampNeg)] σ (fun r σ1 => T125 C Q 42 [vO 8 o0, vO 3 o1, vI x2, vI x3, vM 2] (r.toList ++ []) σ1)))))) :
  T125 C Q 26 [vO 8 o0, vO 3 o1, vI x2, vI x3, vM 2] [] σ := j2_T.go hC [0, 6, 12, 18, 24, 26, 42, 50, 57, 63, 89] 400 h
set_option maxRecDepth 100000 in
theorem b125_42 {C : j2_C} (hC : j2_up1 C) {Q : j2_P} {o0 : Nat} {o1 : Nat} {x2 : Int32} {x3 : Int32} {σ : j2_S}
  (h : T125 C Q 26 [vO 8 o0, vO 3 o1, vI x2, vI (x3 + (nI 1)), vM 2] [] σ) :
  T125 C Q 42 [vO 8 o0, vO 3 o1, vI x2, vI x3, vM 2] [] σ := j2_T.go hC [0, 6, 12, 18, 24, 26, 42, 50, 57, 63, 89] 400 h
set_option maxRecDepth 100000 in
theorem b125_50 {C : j2_C} (hC : j2_up1 C) {Q : j2_P} {o0 : Nat} {o1 : Nat} {x2 : Int32} {x3 : Int32} {σ : j2_S}
  (h : (vp_in x2 80 ∧ C 123 [vO 8 o0, vI (σ.2.2 0 (o1 + 17) x2.toNatClampNeg)] σ (fun r σ1 => T125 C Q 57 [vO 8 o0, vO 3 o1, vI x2, vI x3, vM 2] (r.toList ++ []) σ1))) :
  T125 C Q 50 [vO 8 o0, vO 3 o1, vI x2, vI x3, vM 2] [] σ := j2_T.go hC [0, 6, 12, 18, 24, 26, 42, 50, 57, 63, 89] 400 h
set_option maxRecDepth 100000 in
theorem b125_57 {C : j2_C} (hC : j2_up1 C) {Q : j2_P} {o0 : Nat} {o1 : Nat} {x2 : Int32} {x3 : Int32} {σ : j2_S}
  (h : T125 C Q 63 [vO 8 o0, vO 3 o1, vI x2, vI (x2 * (nI 120)), vI (x2 * (nI 120))] [] σ) :
  T125 C Q 57 [vO 8 o0, vO 3 o1, vI x2, vI x3, vM 2] [] σ := j2_T.go hC [0, 6, 12, 18, 24, 26, 42, 50, 57, 63, 89] 400 h
set_option maxRecDepth 100000 in
theorem b125_63 {C : j2_C} (hC : j2_up1 C) {Q : j2_P} {o0 : Nat} {o1 : Nat} {x2 : Int32} {x3 : Int32} {x4 : Int32} {σ : j2_S}
  (h : (vp_in x2 80 ∧ (((x3 + (σ.2.2 0 (o1 + 17) x2.toNatClampNeg)) ≤ x4 → ((none : Option FieldType) = none ∧ Q none σ)) ∧ (¬ ((x3 + (σ.2.2 0 (o1 + 17) x2.toNatClampNeg)) ≤ x4) → (vp_in x4 9600 ∧ (vp_in x4 9600 ∧ (vp_in x4 9600 ∧ C 126 [vO 8 o0, vI (σ.2.2 1 (o1 + 17) x4.toNatClampNeg), vI (σ.2.2 2 (o1 + 17) x4.toNatClampNeg), vI (σ.2.2 3 (o1 + 17) x4.toNatClampNeg)] σ (fun r σ1 => T125 C Q 89 [vO 8 o0, vO 3 o1, vI x2, vI x3, vI x4] (r.toList ++ []) σ1)))))))) :
  T125 C Q 63 [vO 8 o0, vO 3 o1, vI x2, vI x3, vI x4] [] σ := j2_T.go hC [0, 6, 12, 18, 24, 26, 42, 50, 57, 63, 89] 400 h
set_option maxRecDepth 100000 in
theorem b125_89 {C : j2_C} (hC : j2_up1 C) {Q : j2_P} {o0 : Nat} {o1 : Nat} {x2 : Int32} {x3 : Int32} {x4 : Int32} {σ : j2_S}
  (h : T125 C Q 63 [vO 8 o0, vO 3 o1, vI x2, vI x3, vI (x4 + (nI 1))] [] σ) :
  T125 C Q 89 [vO 8 o0, vO 3 o1, vI x2, vI x3, vI x4] [] σ := j2_T.go hC [0, 6, 12, 18, 24, 26, 42, 50, 57, 63, 89] 400 h
abbrev T126 (C : j2_C) (Q : j2_P) : j2_K := j2_T C jc_X8_writeInstruction none Q
set_option maxRecDepth 100000 in
theorem b126_0 {C : j2_C} (hC : j2_up1 C) {Q : j2_P} {o0 : Nat} {x1 : Int32} {x2 : Int32} {x3 : Int32} {σ : j2_S}
  (h : C 123 [vO 8 o0, vI x1] σ (fun r σ1 => T126 C Q 3 [vO 8 o0, vI x1, vI x2, vI x3, vM 2] (r.toList ++ []) σ1)) :
  T126 C Q 0 [vO 8 o0, vI x1, vI x2, vI x3, vM 2] [] σ := j2_T.go hC [0, 3, 15, 20, 25, 30, 36, 39] 400 h
set_option maxRecDepth 100000 in
theorem b126_3 {C : j2_C} (hC : j2_up1 C) {Q : j2_P} {o0 : Nat} {x1 : Int32} {x2 : Int32} {x3 : Int32} {σ : j2_S}
  (h : (vp_in x1 27 ∧ ((¬ ((jt_ro 0).2 x1.toNatClampNeg) = (nI 1) → T126 C Q 25 [vO 8 o0, vI x1, vI x2, vI x3, vI ((jt_ro 0).2 x1.toNatClampNeg)] [] σ) ∧ (¬ (¬ ((jt_ro 0).2 x1.toNatClampNeg) = (nI 1)) → C 123 [vO 8 o0, vI (x2 >>> ((nI 24) &&& 31))] σ (fun r σ1 => T126 C Q 15 [vO 8 o0, vI x1, vI x2, vI x3, vI ((jt_ro 0).2 x1.toNatClampNeg)] (r.toList ++ []) σ1))))) :
  T126 C Q 3 [vO 8 o0, vI x1, vI x2, vI x3, vM 2] [] σ := j2_T.go hC [0, 3, 15, 20, 25, 30, 36, 39] 400 h
set_option maxRecDepth 100000 in
theorem b126_15 {C : j2_C} (hC : j2_up1 C) {Q : j2_P} {o0 : Nat} {x1 : Int32} {x2 : Int32} {x3 : Int32} {x4 : Int32} {σ : j2_S}
  (h : C 123 [vO 8 o0, vI (x2 >>> ((nI 16) &&& 31))] σ (fun r σ1 => T126 C Q 20 [vO 8 o0, vI x1, vI x2, vI x3, vI x4] (r.toList ++ []) σ1)) :
  T126 C Q 15 [vO 8 o0, vI x1, vI x2, vI x3, vI x4] [] σ := j2_T.go hC [0, 3, 15, 20, 25, 30, 36, 39] 400 h
set_option maxRecDepth 100000 in
theorem b126_20 {C : j2_C} (hC : j2_up1 C) {Q : j2_P} {o0 : Nat} {x1 : Int32} {x2 : Int32} {x3 : Int32} {x4 : Int32} {σ : j2_S}
  (h : C 123 [vO 8 o0, vI (x2 >>> ((nI 8) &&& 31))] σ (fun r σ1 => T126 C Q 25 [vO 8 o0, vI x1, vI x2, vI x3, vI x4] (r.toList ++ []) σ1)) :
  T126 C Q 20 [vO 8 o0, vI x1, vI x2, vI x3, vI x4] [] σ := j2_T.go hC [0, 3, 15, 20, 25, 30, 36, 39] 400 h
set_option maxRecDepth 100000 in
theorem b126_25 {C : j2_C} (hC : j2_up1 C) {Q : j2_P} {o0 : Nat} {x1 : Int32} {x2 : Int32} {x3 : Int32} {x4 : Int32} {σ : j2_S}
  (h : ((x4 = 0 → T126 C Q 30 [vO 8 o0, vI x1, vI x2, vI x3, vI x4] [] σ) ∧ (¬ (x4 = 0) → C 123 [vO 8 o0, vI x2] σ (fun r σ1 => T126 C Q 30 [vO 8 o0, vI x1, vI x2, vI x3, vI x4] (r.toList ++ []) σ1)))) :
  T126 C Q 25 [vO 8 o0, vI x1, vI x2, vI x3, vI x4] [] σ := j2_T.go hC [0, 3, 15, 20, 25, 30, 36, 39] 400 h
set_option maxRecDepth 100000 in
theorem b126_30 {C : j2_C} (hC : j2_up1 C) {Q : j2_P} {o0 : Nat} {x1 : Int32} {x2 : Int32} {x3 : Int32} {x4 : Int32} {σ : j2_S}
  (h : ((x4 = (nI 5) → T126 C Q 36 [vO 8 o0, vI x1, vI x2, vI x3, vI x4] [] σ) ∧ (¬ (x4 = (nI 5)) → ((¬ x4 = (nI 6) → T126 C Q 39 [vO 8 o0, vI x1, vI x2, vI x3, vI x4] [] σ) ∧ (¬ (¬ x4 = (nI 6)) → T126 C Q 36 [vO 8 o0, vI x1, vI x2, vI x3, vI x4] [] σ))))) :
  T126 C Q 30 [vO 8 o0, vI x1, vI x2, vI x3, vI x4] [] σ := j2_T.go hC [0, 3, 15, 20, 25, 30, 36, 39] 400 h
set_option maxRecDepth 100000 in
theorem b126_36 {C : j2_C} (hC : j2_up1 C) {Q : j2_P} {o0 : Nat} {x1 : Int32} {x2 : Int32} {x3 : Int32} {x4 : Int32} {σ : j2_S}
  (h : C 123 [vO 8 o0, vI x3] σ (fun r σ1 => T126 C Q 39 [vO 8 o0, vI x1, vI x2, vI x3, vI x4] (r.toList ++ []) σ1)) :
  T126 C Q 36 [vO 8 o0, vI x1, vI x2, vI x3, vI x4] [] σ := j2_T.go hC [0, 3, 15, 20, 25, 30, 36, 39] 400 h
set_option maxRecDepth 100000 in
theorem b126_39 {C : j2_C} (hC : j2_up1 C) {Q : j2_P} {o0 : Nat} {x1 : Int32} {x2 : Int32} {x3 : Int32} {x4 : Int32} {σ : j2_S}
  (h : ((none : Option FieldType) = none ∧ Q none σ)) :
  T126 C Q 39 [vO 8 o0, vI x1, vI x2, vI x3, vI x4] [] σ := j2_T.go hC [0, 3, 15, 20, 25, 30, 36, 39] 400 h
