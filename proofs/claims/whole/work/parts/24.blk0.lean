abbrev T2 (C : j2_C) (Q : j2_P) : j2_K := j2_T C jc_X1_check (some .int) Q
set_option maxRecDepth 100000 in
theorem b2_0 {C : j2_C} (hC : j2_up1 C) {Q : j2_P} {o0 : Nat} {o1 : Nat} {x2 : Int32} {g0 : Nat} {p1 : j2_W} {p2 : j2_W} {p3 : j2_W} {p4 : j2_W} {p5 : j2_W} {p6 : j2_W} {p7 : j2_W} {p8 : j2_W} {p9 : j2_W} {I : Nat → Nat → Int32} {A : Nat → Nat → Nat → Int32}
  (h : C 5 [vO 1 o0] ((j2_up (j2_up (j2_up I 1003 o0 x2) 1001 o0 (nI 0)) 1000 o0 (-1 : Int32)), [vO 3 o1, p1, p2, p3, p4, p5, p6, p7, p8, p9], A) (fun r σ1 => T2 C Q 14 [vO 1 o0, vO 3 o1, vI x2, vM 2, vM 2, vM 2] (r.toList ++ []) σ1)) :
  T2 C Q 0 [vO 1 o0, vO 3 o1, vI x2, vM 2, vM 2, vM 2] [] (I, [vO 3 g0, p1, p2, p3, p4, p5, p6, p7, p8, p9], A) := j2_T.go hC [0, 14, 18, 28, 52, 53, 55, 63, 64, 67] 400 h
set_option maxRecDepth 100000 in
theorem b2_14 {C : j2_C} (hC : j2_up1 C) {Q : j2_P} {o0 : Nat} {o1 : Nat} {x2 : Int32} {g0 : Nat} {p1 : j2_W} {p2 : j2_W} {p3 : j2_W} {p4 : j2_W} {p5 : j2_W} {p6 : j2_W} {p7 : j2_W} {p8 : j2_W} {p9 : j2_W} {I : Nat → Nat → Int32} {A : Nat → Nat → Nat → Int32}
  (h : T2 C Q 18 [vO 1 o0, vO 3 o1, vI x2, vI (nI 1), vI (nI 0), vM 2] [] (I, [vO 3 g0, p1, p2, p3, p4, p5, p6, p7, p8, p9], A)) :
  T2 C Q 14 [vO 1 o0, vO 3 o1, vI x2, vM 2, vM 2, vM 2] [] (I, [vO 3 g0, p1, p2, p3, p4, p5, p6, p7, p8, p9], A) := j2_T.go hC [0, 14, 18, 28, 52, 53, 55, 63, 64, 67] 400 h
set_option maxRecDepth 100000 in
theorem b2_18 {C : j2_C} (hC : j2_up1 C) {Q : j2_P} {o0 : Nat} {o1 : Nat} {x2 : Int32} {x3 : Int32} {x4 : Int32} {w5 : j2_W} {g0 : Nat} {p1 : j2_W} {p2 : j2_W} {p3 : j2_W} {p4 : j2_W} {p5 : j2_W} {p6 : j2_W} {p7 : j2_W} {p8 : j2_W} {p9 : j2_W} {I : Nat → Nat → Int32} {A : Nat → Nat → Nat → Int32}
  (h : (((nI 1000000) ≤ x4 → T2 C Q 67 [vO 1 o0, vO 3 o1, vI x2, vI x3, vI x4, w5] [] (I, [vO 3 g0, p1, p2, p3, p4, p5, p6, p7, p8, p9], A)) ∧ (¬ ((nI 1000000) ≤ x4) → ((x3 = 0 → T2 C Q 67 [vO 1 o0, vO 3 o1, vI x2, vI x3, vI x4, w5] [] (I, [vO 3 g0, p1, p2, p3, p4, p5, p6, p7, p8, p9], A)) ∧ (¬ (x3 = 0) → (((nI 0) = 0 ∨ (nI 0) = 1) ∧ T2 C Q 28 [vO 1 o0, vO 3 o1, vI x2, vI x3, vI x4, vI (nI 0)] [] ((j2_up I 1004 o0 (nI 0)), [vO 3 g0, p1, p2, p3, p4, p5, p6, p7, p8, p9], A))))))) :
  T2 C Q 18 [vO 1 o0, vO 3 o1, vI x2, vI x3, vI x4, w5] [] (I, [vO 3 g0, p1, p2, p3, p4, p5, p6, p7, p8, p9], A) := j2_T.go hC [0, 14, 18, 28, 52, 53, 55, 63, 64, 67] 400 h
set_option maxRecDepth 100000 in
theorem b2_28 {C : j2_C} (hC : j2_up1 C) {Q : j2_P} {o0 : Nat} {o1 : Nat} {x2 : Int32} {x3 : Int32} {x4 : Int32} {x5 : Int32} {g0 : Nat} {p1 : j2_W} {p2 : j2_W} {p3 : j2_W} {p4 : j2_W} {p5 : j2_W} {p6 : j2_W} {p7 : j2_W} {p8 : j2_W} {p9 : j2_W} {I : Nat → Nat → Int32} {A : Nat → Nat → Nat → Int32}
  (h : (vp_in (I 1003 o0) 80 ∧ (((A 0 (g0 + 17) (I 1003 o0).toNatClampNeg) ≤ x5 → T2 C Q 55 [vO 1 o0, vO 3 o1, vI x2, vI x3, vI x4, vI x5] [] (I, [vO 3 g0, p1, p2, p3, p4, p5, p6, p7, p8, p9], A)) ∧ (¬ ((A 0 (g0 + 17) (I 1003 o0).toNatClampNeg) ≤ x5) → ((¬ (I 1001 o0) = 0 → T2 C Q 55 [vO 1 o0, vO 3 o1, vI x2, vI x3, vI x4, vI x5] [] (I, [vO 3 g0, p1, p2, p3, p4, p5, p6, p7, p8, p9], A)) ∧ (¬ (¬ (I 1001 o0) = 0) → (vp_in x5 120 ∧ (((A 1005 o0 x5.toNatClampNeg) < 0 → T2 C Q 53 [vO 1 o0, vO 3 o1, vI x2, vI x3, vI x4, vI x5] [] (I, [vO 3 g0, p1, p2, p3, p4, p5, p6, p7, p8, p9], A)) ∧ (¬ ((A 1005 o0 x5.toNatClampNeg) < 0) → C 6 [vO 1 o0, vI x5] ((j2_up I 1000 o0 x5), [vO 3 g0, p1, p2, p3, p4, p5, p6, p7, p8, p9], A) (fun r σ1 => T2 C Q 52 [vO 1 o0, vO 3 o1, vI x2, vI x3, vI x4, vI x5] (r.toList ++ [vO 1 o0]) σ1)))))))))) :
  T2 C Q 28 [vO 1 o0, vO 3 o1, vI x2, vI x3, vI x4, vI x5] [] (I, [vO 3 g0, p1, p2, p3, p4, p5, p6, p7, p8, p9], A) := j2_T.go hC [0, 14, 18, 28, 52, 53, 55, 63, 64, 67] 400 h
set_option maxRecDepth 100000 in
theorem b2_52 {C : j2_C} (hC : j2_up1 C) {Q : j2_P} {o0 : Nat} {o1 : Nat} {x2 : Int32} {x3 : Int32} {x4 : Int32} {x5 : Int32} {xs0 : Int32} {os1 : Nat} {g0 : Nat} {p1 : j2_W} {p2 : j2_W} {p3 : j2_W} {p4 : j2_W} {p5 : j2_W} {p6 : j2_W} {p7 : j2_W} {p8 : j2_W} {p9 : j2_W} {I : Nat → Nat → Int32} {A : Nat → Nat → Nat → Int32}
  (h : T2 C Q 53 [vO 1 o0, vO 3 o1, vI x2, vI x3, vI x4, vI x5] [] ((j2_up I 1001 os1 xs0), [vO 3 g0, p1, p2, p3, p4, p5, p6, p7, p8, p9], A)) :
  T2 C Q 52 [vO 1 o0, vO 3 o1, vI x2, vI x3, vI x4, vI x5] [vI xs0, vO 1 os1] (I, [vO 3 g0, p1, p2, p3, p4, p5, p6, p7, p8, p9], A) := j2_T.go hC [0, 14, 18, 28, 52, 53, 55, 63, 64, 67] 400 h
set_option maxRecDepth 100000 in
theorem b2_53 {C : j2_C} (hC : j2_up1 C) {Q : j2_P} {o0 : Nat} {o1 : Nat} {x2 : Int32} {x3 : Int32} {x4 : Int32} {x5 : Int32} {g0 : Nat} {p1 : j2_W} {p2 : j2_W} {p3 : j2_W} {p4 : j2_W} {p5 : j2_W} {p6 : j2_W} {p7 : j2_W} {p8 : j2_W} {p9 : j2_W} {I : Nat → Nat → Int32} {A : Nat → Nat → Nat → Int32}
  (h : T2 C Q 28 [vO 1 o0, vO 3 o1, vI x2, vI x3, vI x4, vI (x5 + (nI 1))] [] (I, [vO 3 g0, p1, p2, p3, p4, p5, p6, p7, p8, p9], A)) :
  T2 C Q 53 [vO 1 o0, vO 3 o1, vI x2, vI x3, vI x4, vI x5] [] (I, [vO 3 g0, p1, p2, p3, p4, p5, p6, p7, p8, p9], A) := j2_T.go hC [0, 14, 18, 28, 52, 53, 55, 63, 64, 67] 400 h
set_option maxRecDepth 100000 in
theorem b2_55 {C : j2_C} (hC : j2_up1 C) {Q : j2_P} {o0 : Nat} {o1 : Nat} {x2 : Int32} {x3 : Int32} {x4 : Int32} {x5 : Int32} {g0 : Nat} {p1 : j2_W} {p2 : j2_W} {p3 : j2_W} {p4 : j2_W} {p5 : j2_W} {p6 : j2_W} {p7 : j2_W} {p8 : j2_W} {p9 : j2_W} {I : Nat → Nat → Int32} {A : Nat → Nat → Nat → Int32}
  (h : (((I 1004 o0) = 0 → T2 C Q 63 [vO 1 o0, vO 3 o1, vI x2, vI x3, vI x4, vI x5] [] (I, [vO 3 g0, p1, p2, p3, p4, p5, p6, p7, p8, p9], A)) ∧ (¬ ((I 1004 o0) = 0) → ((¬ (I 1001 o0) = 0 → T2 C Q 63 [vO 1 o0, vO 3 o1, vI x2, vI x3, vI x4, vI x5] [] (I, [vO 3 g0, p1, p2, p3, p4, p5, p6, p7, p8, p9], A)) ∧ (¬ (¬ (I 1001 o0) = 0) → T2 C Q 64 [vO 1 o0, vO 3 o1, vI x2, vI x3, vI x4, vI x5] [vI (nI 1)] (I, [vO 3 g0, p1, p2, p3, p4, p5, p6, p7, p8, p9], A)))))) :
  T2 C Q 55 [vO 1 o0, vO 3 o1, vI x2, vI x3, vI x4, vI x5] [] (I, [vO 3 g0, p1, p2, p3, p4, p5, p6, p7, p8, p9], A) := j2_T.go hC [0, 14, 18, 28, 52, 53, 55, 63, 64, 67] 400 h
set_option maxRecDepth 100000 in
theorem b2_63 {C : j2_C} (hC : j2_up1 C) {Q : j2_P} {o0 : Nat} {o1 : Nat} {x2 : Int32} {x3 : Int32} {x4 : Int32} {x5 : Int32} {g0 : Nat} {p1 : j2_W} {p2 : j2_W} {p3 : j2_W} {p4 : j2_W} {p5 : j2_W} {p6 : j2_W} {p7 : j2_W} {p8 : j2_W} {p9 : j2_W} {I : Nat → Nat → Int32} {A : Nat → Nat → Nat → Int32}
  (h : T2 C Q 64 [vO 1 o0, vO 3 o1, vI x2, vI x3, vI x4, vI x5] [vI (nI 0)] (I, [vO 3 g0, p1, p2, p3, p4, p5, p6, p7, p8, p9], A)) :
  T2 C Q 63 [vO 1 o0, vO 3 o1, vI x2, vI x3, vI x4, vI x5] [] (I, [vO 3 g0, p1, p2, p3, p4, p5, p6, p7, p8, p9], A) := j2_T.go hC [0, 14, 18, 28, 52, 53, 55, 63, 64, 67] 400 h
set_option maxRecDepth 100000 in
theorem b2_64 {C : j2_C} (hC : j2_up1 C) {Q : j2_P} {o0 : Nat} {o1 : Nat} {x2 : Int32} {x3 : Int32} {x4 : Int32} {x5 : Int32} {xs0 : Int32} {g0 : Nat} {p1 : j2_W} {p2 : j2_W} {p3 : j2_W} {p4 : j2_W} {p5 : j2_W} {p6 : j2_W} {p7 : j2_W} {p8 : j2_W} {p9 : j2_W} {I : Nat → Nat → Int32} {A : Nat → Nat → Nat → Int32}
  (h : T2 C Q 18 [vO 1 o0, vO 3 o1, vI x2, vI xs0, vI (x4 + (nI 1)), vI x5] [] (I, [vO 3 g0, p1, p2, p3, p4, p5, p6, p7, p8, p9], A)) :
  T2 C Q 64 [vO 1 o0, vO 3 o1, vI x2, vI x3, vI x4, vI x5] [vI xs0] (I, [vO 3 g0, p1, p2, p3, p4, p5, p6, p7, p8, p9], A) := j2_T.go hC [0, 14, 18, 28, 52, 53, 55, 63, 64, 67] 400 h
set_option maxRecDepth 100000 in
theorem b2_67 {C : j2_C} (hC : j2_up1 C) {Q : j2_P} {o0 : Nat} {o1 : Nat} {x2 : Int32} {x3 : Int32} {x4 : Int32} {w5 : j2_W} {g0 : Nat} {p1 : j2_W} {p2 : j2_W} {p3 : j2_W} {p4 : j2_W} {p5 : j2_W} {p6 : j2_W} {p7 : j2_W} {p8 : j2_W} {p9 : j2_W} {I : Nat → Nat → Int32} {A : Nat → Nat → Nat → Int32}
  (h : (vp_in (I 1003 o0) 80 ∧ (¬ (nI 0) < 0 ∧ ¬ ((I 1003 o0) * (nI 120)) < 0 ∧ ¬ (A 0 (g0 + 17) (I 1003 o0).toNatClampNeg) < 0 ∧ (nI 0).toNatClampNeg + (A 0 (g0 + 17) (I 1003 o0).toNatClampNeg).toNatClampNeg ≤ 120 ∧ ((I 1003 o0) * (nI 120)).toNatClampNeg + (A 0 (g0 + 17) (I 1003 o0).toNatClampNeg).toNatClampNeg ≤ 9600 ∧ (True ∧ Q (some (vI (I 1001 o0))) (I, [vO 3 g0, p1, p2, p3, p4, p5, p6, p7, p8, p9], (j2_acp A 1005 o0 4 (g0 + 17) (nI 0).toNatClampNeg ((I 1003 o0) * (nI 120)).toNatClampNeg (A 0 (g0 + 17) (I 1003 o0).toNatClampNeg).toNatClampNeg)))))) :
  T2 C Q 67 [vO 1 o0, vO 3 o1, vI x2, vI x3, vI x4, w5] [] (I, [vO 3 g0, p1, p2, p3, p4, p5, p6, p7, p8, p9], A) := j2_T.go hC [0, 14, 18, 28, 52, 53, 55, 63, 64, 67] 400 h
abbrev T3 (C : j2_C) (Q : j2_P) : j2_K := j2_T C jc_X1_localAt (some .int) Q
set_option maxRecDepth 100000 in
theorem b3_0 {C : j2_C} (hC : j2_up1 C) {Q : j2_P} {o0 : Nat} {x1 : Int32} {x2 : Int32} {σ : j2_S}
  (h : (vp_in ((x1 * (nI 20)) + x2) 2400 ∧ (True ∧ Q (some (vI (σ.2.2 1007 o0 ((x1 * (nI 20)) + x2).toNatClampNeg))) σ))) :
  T3 C Q 0 [vO 1 o0, vI x1, vI x2] [] σ := j2_T.go hC [0] 400 h
abbrev T4 (C : j2_C) (Q : j2_P) : j2_K := j2_T C jc_X1_stackAt (some .int) Q
set_option maxRecDepth 100000 in
theorem b4_0 {C : j2_C} (hC : j2_up1 C) {Q : j2_P} {o0 : Nat} {x1 : Int32} {x2 : Int32} {σ : j2_S}
  (h : (vp_in ((x1 * (nI 10)) + x2) 1200 ∧ (True ∧ Q (some (vI (σ.2.2 1006 o0 ((x1 * (nI 10)) + x2).toNatClampNeg))) σ))) :
  T4 C Q 0 [vO 1 o0, vI x1, vI x2] [] σ := j2_T.go hC [0] 400 h
abbrev T5 (C : j2_C) (Q : j2_P) : j2_K := j2_T C jc_X1_begin none Q
set_option maxRecDepth 100000 in
theorem b5_0 {C : j2_C} (hC : j2_up1 C) {Q : j2_P} {o0 : Nat} {g0 : Nat} {p1 : j2_W} {p2 : j2_W} {p3 : j2_W} {p4 : j2_W} {p5 : j2_W} {p6 : j2_W} {p7 : j2_W} {p8 : j2_W} {p9 : j2_W} {I : Nat → Nat → Int32} {A : Nat → Nat → Nat → Int32}
  (h : C 248 [vA 1005 o0, vI (-1 : Int32)] (I, [vO 3 g0, p1, p2, p3, p4, p5, p6, p7, p8, p9], A) (fun r σ1 => T5 C Q 4 [vO 1 o0, vM 2, vM 2] (r.toList ++ []) σ1)) :
  T5 C Q 0 [vO 1 o0, vM 2, vM 2] [] (I, [vO 3 g0, p1, p2, p3, p4, p5, p6, p7, p8, p9], A) := j2_T.go hC [0, 4, 10, 20, 36, 38, 57] 400 h
set_option maxRecDepth 100000 in
theorem b5_4 {C : j2_C} (hC : j2_up1 C) {Q : j2_P} {o0 : Nat} {g0 : Nat} {p1 : j2_W} {p2 : j2_W} {p3 : j2_W} {p4 : j2_W} {p5 : j2_W} {p6 : j2_W} {p7 : j2_W} {p8 : j2_W} {p9 : j2_W} {I : Nat → Nat → Int32} {A : Nat → Nat → Nat → Int32}
  (h : C 249 [vA 1007 o0, vI (nI 0), vI (nI 20), vI (nI 0)] (I, [vO 3 g0, p1, p2, p3, p4, p5, p6, p7, p8, p9], A) (fun r σ1 => T5 C Q 10 [vO 1 o0, vM 2, vM 2] (r.toList ++ []) σ1)) :
  T5 C Q 4 [vO 1 o0, vM 2, vM 2] [] (I, [vO 3 g0, p1, p2, p3, p4, p5, p6, p7, p8, p9], A) := j2_T.go hC [0, 4, 10, 20, 36, 38, 57] 400 h
set_option maxRecDepth 100000 in
theorem b5_10 {C : j2_C} (hC : j2_up1 C) {Q : j2_P} {o0 : Nat} {g0 : Nat} {p1 : j2_W} {p2 : j2_W} {p3 : j2_W} {p4 : j2_W} {p5 : j2_W} {p6 : j2_W} {p7 : j2_W} {p8 : j2_W} {p9 : j2_W} {I : Nat → Nat → Int32} {A : Nat → Nat → Nat → Int32}
  (h : (vp_in (nI 0) 120 ∧ C 51 [vO 3 g0, vI (I 1003 o0)] (I, [vO 3 g0, p1, p2, p3, p4, p5, p6, p7, p8, p9], (j2_ast A 1005 o0 (nI 0).toNatClampNeg (nI 0))) (fun r σ1 => T5 C Q 20 [vO 1 o0, vM 2, vM 2] (r.toList ++ []) σ1))) :
  T5 C Q 10 [vO 1 o0, vM 2, vM 2] [] (I, [vO 3 g0, p1, p2, p3, p4, p5, p6, p7, p8, p9], A) := j2_T.go hC [0, 4, 10, 20, 36, 38, 57] 400 h
set_option maxRecDepth 100000 in
theorem b5_20 {C : j2_C} (hC : j2_up1 C) {Q : j2_P} {o0 : Nat} {xs0 : Int32} {g0 : Nat} {p1 : j2_W} {p2 : j2_W} {p3 : j2_W} {p4 : j2_W} {p5 : j2_W} {p6 : j2_W} {p7 : j2_W} {p8 : j2_W} {p9 : j2_W} {I : Nat → Nat → Int32} {A : Nat → Nat → Nat → Int32}
  (h : ((¬ xs0 = (nI 1) → T5 C Q 36 [vO 1 o0, vI xs0, vM 2] [] (I, [vO 3 g0, p1, p2, p3, p4, p5, p6, p7, p8, p9], A)) ∧ (¬ (¬ xs0 = (nI 1)) → (vp_in (I 1003 o0) 80 ∧ (vp_in (nI 0) 2400 ∧ T5 C Q 36 [vO 1 o0, vI xs0, vM 2] [] (I, [vO 3 g0, p1, p2, p3, p4, p5, p6, p7, p8, p9], (j2_ast A 1007 o0 (nI 0).toNatClampNeg ((nI 4) + (A 3011 g0 (I 1003 o0).toNatClampNeg))))))))) :
  T5 C Q 20 [vO 1 o0, vM 2, vM 2] [vI xs0] (I, [vO 3 g0, p1, p2, p3, p4, p5, p6, p7, p8, p9], A) := j2_T.go hC [0, 4, 10, 20, 36, 38, 57] 400 h
set_option maxRecDepth 100000 in
theorem b5_36 {C : j2_C} (hC : j2_up1 C) {Q : j2_P} {o0 : Nat} {x1 : Int32} {g0 : Nat} {p1 : j2_W} {p2 : j2_W} {p3 : j2_W} {p4 : j2_W} {p5 : j2_W} {p6 : j2_W} {p7 : j2_W} {p8 : j2_W} {p9 : j2_W} {I : Nat → Nat → Int32} {A : Nat → Nat → Nat → Int32}
  (h : T5 C Q 38 [vO 1 o0, vI x1, vI (nI 0)] [] (I, [vO 3 g0, p1, p2, p3, p4, p5, p6, p7, p8, p9], A)) :
  T5 C Q 36 [vO 1 o0, vI x1, vM 2] [] (I, [vO 3 g0, p1, p2, p3, p4, p5, p6, p7, p8, p9], A) := j2_T.go hC [0, 4, 10, 20, 36, 38, 57] 400 h
set_option maxRecDepth 100000 in
theorem b5_38 {C : j2_C} (hC : j2_up1 C) {Q : j2_P} {o0 : Nat} {x1 : Int32} {x2 : Int32} {g0 : Nat} {p1 : j2_W} {p2 : j2_W} {p3 : j2_W} {p4 : j2_W} {p5 : j2_W} {p6 : j2_W} {p7 : j2_W} {p8 : j2_W} {p9 : j2_W} {I : Nat → Nat → Int32} {A : Nat → Nat → Nat → Int32}
  (h : (vp_in (I 1003 o0) 80 ∧ (((A 3015 g0 (I 1003 o0).toNatClampNeg) ≤ x2 → ((none : Option FieldType) = none ∧ Q none (I, [vO 3 g0, p1, p2, p3, p4, p5, p6, p7, p8, p9], A))) ∧ (¬ ((A 3015 g0 (I 1003 o0).toNatClampNeg) ≤ x2) → C 53 [vO 3 g0, vI (I 1003 o0), vI x2] (I, [vO 3 g0, p1, p2, p3, p4, p5, p6, p7, p8, p9], A) (fun r σ1 => T5 C Q 57 [vO 1 o0, vI x1, vI x2] (r.toList ++ [vI (x1 + x2), vA 1007 o0]) σ1))))) :
  T5 C Q 38 [vO 1 o0, vI x1, vI x2] [] (I, [vO 3 g0, p1, p2, p3, p4, p5, p6, p7, p8, p9], A) := j2_T.go hC [0, 4, 10, 20, 36, 38, 57] 400 h
set_option maxRecDepth 100000 in
theorem b5_57 {C : j2_C} (hC : j2_up1 C) {Q : j2_P} {o0 : Nat} {x1 : Int32} {x2 : Int32} {xs0 : Int32} {xs1 : Int32} {os2 : Nat} {g0 : Nat} {p1 : j2_W} {p2 : j2_W} {p3 : j2_W} {p4 : j2_W} {p5 : j2_W} {p6 : j2_W} {p7 : j2_W} {p8 : j2_W} {p9 : j2_W} {I : Nat → Nat → Int32} {A : Nat → Nat → Nat → Int32}
  (h : (vp_in xs1 2400 ∧ T5 C Q 38 [vO 1 o0, vI x1, vI (x2 + (nI 1))] [] (I, [vO 3 g0, p1, p2, p3, p4, p5, p6, p7, p8, p9], (j2_ast A 1007 os2 xs1.toNatClampNeg xs0)))) :
  T5 C Q 57 [vO 1 o0, vI x1, vI x2] [vI xs0, vI xs1, vA 1007 os2] (I, [vO 3 g0, p1, p2, p3, p4, p5, p6, p7, p8, p9], A) := j2_T.go hC [0, 4, 10, 20, 36, 38, 57] 400 h
abbrev T6 (C : j2_C) (Q : j2_P) : j2_K := j2_T C jc_X1_lookAt (some .int) Q
set_option maxRecDepth 100000 in
theorem b6_0 {C : j2_C} (hC : j2_up1 C) {Q : j2_P} {o0 : Nat} {x1 : Int32} {g0 : Nat} {p1 : j2_W} {p2 : j2_W} {p3 : j2_W} {p4 : j2_W} {p5 : j2_W} {p6 : j2_W} {p7 : j2_W} {p8 : j2_W} {p9 : j2_W} {I : Nat → Nat → Int32} {A : Nat → Nat → Nat → Int32}
  (h : (vp_in (((I 1003 o0) * (nI 120)) + x1) 9600 ∧ (vp_in (((I 1003 o0) * (nI 120)) + x1) 9600 ∧ C 7 [vO 1 o0, vI x1] (I, [vO 3 g0, p1, p2, p3, p4, p5, p6, p7, p8, p9], A) (fun r σ1 => T6 C Q 24 [vO 1 o0, vI x1, vI (((I 1003 o0) * (nI 120)) + x1), vI (A 1 (g0 + 17) (((I 1003 o0) * (nI 120)) + x1).toNatClampNeg), vI (A 2 (g0 + 17) (((I 1003 o0) * (nI 120)) + x1).toNatClampNeg), vM 2, vM 2] (r.toList ++ []) σ1)))) :
  T6 C Q 0 [vO 1 o0, vI x1, vM 2, vM 2, vM 2, vM 2, vM 2] [] (I, [vO 3 g0, p1, p2, p3, p4, p5, p6, p7, p8, p9], A) := j2_T.go hC [0, 24, 34, 37, 51, 53, 74, 91, 93, 94, 98, 102] 400 h
set_option maxRecDepth 100000 in
theorem b6_24 {C : j2_C} (hC : j2_up1 C) {Q : j2_P} {o0 : Nat} {x1 : Int32} {x2 : Int32} {x3 : Int32} {x4 : Int32} {g0 : Nat} {p1 : j2_W} {p2 : j2_W} {p3 : j2_W} {p4 : j2_W} {p5 : j2_W} {p6 : j2_W} {p7 : j2_W} {p8 : j2_W} {p9 : j2_W} {I : Nat → Nat → Int32} {A : Nat → Nat → Nat → Int32}
  (h : (vp_in x2 9600 ∧ C 8 [vO 1 o0, vI x3, vI x4, vI (A 3 (g0 + 17) x2.toNatClampNeg)] (I, [vO 3 g0, p1, p2, p3, p4, p5, p6, p7, p8, p9], A) (fun r σ1 => T6 C Q 34 [vO 1 o0, vI x1, vI x2, vI x3, vI x4, vM 2, vM 2] (r.toList ++ []) σ1))) :
  T6 C Q 24 [vO 1 o0, vI x1, vI x2, vI x3, vI x4, vM 2, vM 2] [] (I, [vO 3 g0, p1, p2, p3, p4, p5, p6, p7, p8, p9], A) := j2_T.go hC [0, 24, 34, 37, 51, 53, 74, 91, 93, 94, 98, 102] 400 h
set_option maxRecDepth 100000 in
theorem b6_34 {C : j2_C} (hC : j2_up1 C) {Q : j2_P} {o0 : Nat} {x1 : Int32} {x2 : Int32} {x3 : Int32} {x4 : Int32} {g0 : Nat} {p1 : j2_W} {p2 : j2_W} {p3 : j2_W} {p4 : j2_W} {p5 : j2_W} {p6 : j2_W} {p7 : j2_W} {p8 : j2_W} {p9 : j2_W} {I : Nat → Nat → Int32} {A : Nat → Nat → Nat → Int32}
  (h : C 13 [vO 1 o0, vI x3] (I, [vO 3 g0, p1, p2, p3, p4, p5, p6, p7, p8, p9], A) (fun r σ1 => T6 C Q 37 [vO 1 o0, vI x1, vI x2, vI x3, vI x4, vM 2, vM 2] (r.toList ++ []) σ1)) :
  T6 C Q 34 [vO 1 o0, vI x1, vI x2, vI x3, vI x4, vM 2, vM 2] [] (I, [vO 3 g0, p1, p2, p3, p4, p5, p6, p7, p8, p9], A) := j2_T.go hC [0, 24, 34, 37, 51, 53, 74, 91, 93, 94, 98, 102] 400 h
set_option maxRecDepth 100000 in
theorem b6_37 {C : j2_C} (hC : j2_up1 C) {Q : j2_P} {o0 : Nat} {x1 : Int32} {x2 : Int32} {x3 : Int32} {x4 : Int32} {xs0 : Int32} {g0 : Nat} {p1 : j2_W} {p2 : j2_W} {p3 : j2_W} {p4 : j2_W} {p5 : j2_W} {p6 : j2_W} {p7 : j2_W} {p8 : j2_W} {p9 : j2_W} {I : Nat → Nat → Int32} {A : Nat → Nat → Nat → Int32}
  (h : ((xs0 = 0 → ((¬ x3 = (nI 3) → T6 C Q 51 [vO 1 o0, vI x1, vI x2, vI x3, vI x4, vI xs0, vM 2] [] (I, [vO 3 g0, p1, p2, p3, p4, p5, p6, p7, p8, p9], A)) ∧ (¬ (¬ x3 = (nI 3)) → (vp_in x4 20 ∧ T6 C Q 51 [vO 1 o0, vI x1, vI x2, vI x3, vI x4, vI xs0, vM 2] [] (I, [vO 3 g0, p1, p2, p3, p4, p5, p6, p7, p8, p9], (j2_ast A 1009 o0 x4.toNatClampNeg (I 1013 o0))))))) ∧ (¬ (xs0 = 0) → (True ∧ Q (some (vI xs0)) (I, [vO 3 g0, p1, p2, p3, p4, p5, p6, p7, p8, p9], A))))) :
  T6 C Q 37 [vO 1 o0, vI x1, vI x2, vI x3, vI x4, vM 2, vM 2] [vI xs0] (I, [vO 3 g0, p1, p2, p3, p4, p5, p6, p7, p8, p9], A) := j2_T.go hC [0, 24, 34, 37, 51, 53, 74, 91, 93, 94, 98, 102] 400 h
set_option maxRecDepth 100000 in
theorem b6_51 {C : j2_C} (hC : j2_up1 C) {Q : j2_P} {o0 : Nat} {x1 : Int32} {x2 : Int32} {x3 : Int32} {x4 : Int32} {x5 : Int32} {g0 : Nat} {p1 : j2_W} {p2 : j2_W} {p3 : j2_W} {p4 : j2_W} {p5 : j2_W} {p6 : j2_W} {p7 : j2_W} {p8 : j2_W} {p9 : j2_W} {I : Nat → Nat → Int32} {A : Nat → Nat → Nat → Int32}
  (h : T6 C Q 53 [vO 1 o0, vI x1, vI x2, vI x3, vI x4, vI x5, vI (nI 0)] [] (I, [vO 3 g0, p1, p2, p3, p4, p5, p6, p7, p8, p9], A)) :
  T6 C Q 51 [vO 1 o0, vI x1, vI x2, vI x3, vI x4, vI x5, vM 2] [] (I, [vO 3 g0, p1, p2, p3, p4, p5, p6, p7, p8, p9], A) := j2_T.go hC [0, 24, 34, 37, 51, 53, 74, 91, 93, 94, 98, 102] 400 h
set_option maxRecDepth 100000 in
theorem b6_53 {C : j2_C} (hC : j2_up1 C) {Q : j2_P} {o0 : Nat} {x1 : Int32} {x2 : Int32} {x3 : Int32} {x4 : Int32} {x5 : Int32} {x6 : Int32} {g0 : Nat} {p1 : j2_W} {p2 : j2_W} {p3 : j2_W} {p4 : j2_W} {p5 : j2_W} {p6 : j2_W} {p7 : j2_W} {p8 : j2_W} {p9 : j2_W} {I : Nat → Nat → Int32} {A : Nat → Nat → Nat → Int32}
  (h : (((I 1014 o0) ≤ x6 → C 152 [vI x3] (I, [vO 3 g0, p1, p2, p3, p4, p5, p6, p7, p8, p9], A) (fun r σ1 => T6 C Q 74 [vO 1 o0, vI x1, vI x2, vI x3, vI x4, vI x5, vI x6] (r.toList ++ []) σ1)) ∧ (¬ ((I 1014 o0) ≤ x6) → (vp_in (I 1010 o0) 10 ∧ T6 C Q 53 [vO 1 o0, vI x1, vI x2, vI x3, vI x4, vI x5, vI (x6 + (nI 1))] [] ((j2_up I 1010 o0 ((I 1010 o0) + (nI 1))), [vO 3 g0, p1, p2, p3, p4, p5, p6, p7, p8, p9], (j2_ast A 1008 o0 (I 1010 o0).toNatClampNeg (I 1013 o0))))))) :
  T6 C Q 53 [vO 1 o0, vI x1, vI x2, vI x3, vI x4, vI x5, vI x6] [] (I, [vO 3 g0, p1, p2, p3, p4, p5, p6, p7, p8, p9], A) := j2_T.go hC [0, 24, 34, 37, 51, 53, 74, 91, 93, 94, 98, 102] 400 h
set_option maxRecDepth 100000 in
theorem b6_74 {C : j2_C} (hC : j2_up1 C) {Q : j2_P} {o0 : Nat} {x1 : Int32} {x2 : Int32} {x3 : Int32} {x4 : Int32} {x5 : Int32} {x6 : Int32} {xs0 : Int32} {g0 : Nat} {p1 : j2_W} {p2 : j2_W} {p3 : j2_W} {p4 : j2_W} {p5 : j2_W} {p6 : j2_W} {p7 : j2_W} {p8 : j2_W} {p9 : j2_W} {I : Nat → Nat → Int32} {A : Nat → Nat → Nat → Int32}
  (h : ((xs0 = 0 → T6 C Q 94 [vO 1 o0, vI x1, vI x2, vI x3, vI x4, vI x5, vI x6] [] (I, [vO 3 g0, p1, p2, p3, p4, p5, p6, p7, p8, p9], A)) ∧ (¬ (xs0 = 0) → (vp_in (I 1003 o0) 80 ∧ (((A 0 (g0 + 17) (I 1003 o0).toNatClampNeg) ≤ (x1 + (nI 1)) → T6 C Q 93 [vO 1 o0, vI x1, vI x2, vI x3, vI x4, vI x5, vI x6] [vI (nI 7)] (I, [vO 3 g0, p1, p2, p3, p4, p5, p6, p7, p8, p9], A)) ∧ (¬ ((A 0 (g0 + 17) (I 1003 o0).toNatClampNeg) ≤ (x1 + (nI 1))) → C 15 [vO 1 o0, vI (x1 + (nI 1))] (I, [vO 3 g0, p1, p2, p3, p4, p5, p6, p7, p8, p9], A) (fun r σ1 => T6 C Q 91 [vO 1 o0, vI x1, vI x2, vI x3, vI x4, vI x5, vI x6] (r.toList ++ []) σ1))))))) :
  T6 C Q 74 [vO 1 o0, vI x1, vI x2, vI x3, vI x4, vI x5, vI x6] [vI xs0] (I, [vO 3 g0, p1, p2, p3, p4, p5, p6, p7, p8, p9], A) := j2_T.go hC [0, 24, 34, 37, 51, 53, 74, 91, 93, 94, 98, 102] 400 h
set_option maxRecDepth 100000 in
theorem b6_91 {C : j2_C} (hC : j2_up1 C) {Q : j2_P} {o0 : Nat} {x1 : Int32} {x2 : Int32} {x3 : Int32} {x4 : Int32} {x5 : Int32} {x6 : Int32} {xs0 : Int32} {g0 : Nat} {p1 : j2_W} {p2 : j2_W} {p3 : j2_W} {p4 : j2_W} {p5 : j2_W} {p6 : j2_W} {p7 : j2_W} {p8 : j2_W} {p9 : j2_W} {I : Nat → Nat → Int32} {A : Nat → Nat → Nat → Int32}
  (h : T6 C Q 93 [vO 1 o0, vI x1, vI x2, vI x3, vI x4, vI x5, vI x6] [vI xs0] (I, [vO 3 g0, p1, p2, p3, p4, p5, p6, p7, p8, p9], A)) :
  T6 C Q 91 [vO 1 o0, vI x1, vI x2, vI x3, vI x4, vI x5, vI x6] [vI xs0] (I, [vO 3 g0, p1, p2, p3, p4, p5, p6, p7, p8, p9], A) := j2_T.go hC [0, 24, 34, 37, 51, 53, 74, 91, 93, 94, 98, 102] 400 h
set_option maxRecDepth 100000 in
theorem b6_93 {C : j2_C} (hC : j2_up1 C) {Q : j2_P} {o0 : Nat} {x1 : Int32} {x2 : Int32} {x3 : Int32} {x4 : Int32} {x5 : Int32} {x6 : Int32} {xs0 : Int32} {g0 : Nat} {p1 : j2_W} {p2 : j2_W} {p3 : j2_W} {p4 : j2_W} {p5 : j2_W} {p6 : j2_W} {p7 : j2_W} {p8 : j2_W} {p9 : j2_W} {I : Nat → Nat → Int32} {A : Nat → Nat → Nat → Int32}
  (h : T6 C Q 94 [vO 1 o0, vI x1, vI x2, vI x3, vI x4, vI xs0, vI x6] [] (I, [vO 3 g0, p1, p2, p3, p4, p5, p6, p7, p8, p9], A)) :
  T6 C Q 93 [vO 1 o0, vI x1, vI x2, vI x3, vI x4, vI x5, vI x6] [vI xs0] (I, [vO 3 g0, p1, p2, p3, p4, p5, p6, p7, p8, p9], A) := j2_T.go hC [0, 24, 34, 37, 51, 53, 74, 91, 93, 94, 98, 102] 400 h
set_option maxRecDepth 100000 in
theorem b6_94 {C : j2_C} (hC : j2_up1 C) {Q : j2_P} {o0 : Nat} {x1 : Int32} {x2 : Int32} {x3 : Int32} {x4 : Int32} {x5 : Int32} {x6 : Int32} {g0 : Nat} {p1 : j2_W} {p2 : j2_W} {p3 : j2_W} {p4 : j2_W} {p5 : j2_W} {p6 : j2_W} {p7 : j2_W} {p8 : j2_W} {p9 : j2_W} {I : Nat → Nat → Int32} {A : Nat → Nat → Nat → Int32}
  (h : ((¬ x5 = 0 → (True ∧ Q (some (vI x5)) (I, [vO 3 g0, p1, p2, p3, p4, p5, p6, p7, p8, p9], A))) ∧ (¬ (¬ x5 = 0) → C 151 [vI x3] (I, [vO 3 g0, p1, p2, p3, p4, p5, p6, p7, p8, p9], A) (fun r σ1 => T6 C Q 98 [vO 1 o0, vI x1, vI x2, vI x3, vI x4, vI x5, vI x6] (r.toList ++ []) σ1)))) :
  T6 C Q 94 [vO 1 o0, vI x1, vI x2, vI x3, vI x4, vI x5, vI x6] [] (I, [vO 3 g0, p1, p2, p3, p4, p5, p6, p7, p8, p9], A) := j2_T.go hC [0, 24, 34, 37, 51, 53, 74, 91, 93, 94, 98, 102] 400 h
set_option maxRecDepth 100000 in
theorem b6_98 {C : j2_C} (hC : j2_up1 C) {Q : j2_P} {o0 : Nat} {x1 : Int32} {x2 : Int32} {x3 : Int32} {x4 : Int32} {x5 : Int32} {x6 : Int32} {xs0 : Int32} {g0 : Nat} {p1 : j2_W} {p2 : j2_W} {p3 : j2_W} {p4 : j2_W} {p5 : j2_W} {p6 : j2_W} {p7 : j2_W} {p8 : j2_W} {p9 : j2_W} {I : Nat → Nat → Int32} {A : Nat → Nat → Nat → Int32}
  (h : ((xs0 = 0 → (True ∧ Q (some (vI x5)) (I, [vO 3 g0, p1, p2, p3, p4, p5, p6, p7, p8, p9], A))) ∧ (¬ (xs0 = 0) → C 15 [vO 1 o0, vI x4] (I, [vO 3 g0, p1, p2, p3, p4, p5, p6, p7, p8, p9], A) (fun r σ1 => T6 C Q 102 [vO 1 o0, vI x1, vI x2, vI x3, vI x4, vI x5, vI x6] (r.toList ++ []) σ1)))) :
  T6 C Q 98 [vO 1 o0, vI x1, vI x2, vI x3, vI x4, vI x5, vI x6] [vI xs0] (I, [vO 3 g0, p1, p2, p3, p4, p5, p6, p7, p8, p9], A) := j2_T.go hC [0, 24, 34, 37, 51, 53, 74, 91, 93, 94, 98, 102] 400 h
set_option maxRecDepth 100000 in
theorem b6_102 {C : j2_C} (hC : j2_up1 C) {Q : j2_P} {o0 : Nat} {x1 : Int32} {x2 : Int32} {x3 : Int32} {x4 : Int32} {x5 : Int32} {x6 : Int32} {xs0 : Int32} {g0 : Nat} {p1 : j2_W} {p2 : j2_W} {p3 : j2_W} {p4 : j2_W} {p5 : j2_W} {p6 : j2_W} {p7 : j2_W} {p8 : j2_W} {p9 : j2_W} {I : Nat → Nat → Int32} {A : Nat → Nat → Nat → Int32}
  (h : (True ∧ Q (some (vI xs0)) (I, [vO 3 g0, p1, p2, p3, p4, p5, p6, p7, p8, p9], A))) :
  T6 C Q 102 [vO 1 o0, vI x1, vI x2, vI x3, vI x4, vI x5, vI x6] [vI xs0] (I, [vO 3 g0, p1, p2, p3, p4, p5, p6, p7, p8, p9], A) := j2_T.go hC [0, 24, 34, 37, 51, 53, 74, 91, 93, 94, 98, 102] 400 h
abbrev T7 (C : j2_C) (Q : j2_P) : j2_K := j2_T C jc_X1_takeState none Q
set_option maxRecDepth 100000 in
theorem b7_0 {C : j2_C} (hC : j2_up1 C) {Q : j2_P} {o0 : Nat} {x1 : Int32} {g0 : Nat} {p1 : j2_W} {p2 : j2_W} {p3 : j2_W} {p4 : j2_W} {p5 : j2_W} {p6 : j2_W} {p7 : j2_W} {p8 : j2_W} {p9 : j2_W} {I : Nat → Nat → Int32} {A : Nat → Nat → Nat → Int32}
  (h : (vp_in x1 120 ∧ (¬ (x1 * (nI 10)) < 0 ∧ ¬ (nI 0) < 0 ∧ ¬ ((j2_up I 1010 o0 (A 1005 o0 x1.toNatClampNeg)) 1010 o0) < 0 ∧ (x1 * (nI 10)).toNatClampNeg + ((j2_up I 1010 o0 (A 1005 o0 x1.toNatClampNeg)) 1010 o0).toNatClampNeg ≤ 1200 ∧ (nI 0).toNatClampNeg + ((j2_up I 1010 o0 (A 1005 o0 x1.toNatClampNeg)) 1010 o0).toNatClampNeg ≤ 10 ∧ (vp_in ((j2_up I 1010 o0 (A 1005 o0 x1.toNatClampNeg)) 1003 o0) 80 ∧ (¬ (x1 * (nI 20)) < 0 ∧ ¬ (nI 0) < 0 ∧ ¬ ((j2_acp A 1006 o0 1008 o0 (x1 * (nI 10)).toNatClampNeg (nI 0).toNatClampNeg ((j2_up I 1010 o0 (A 1005 o0 x1.toNatClampNeg)) 1010 o0).toNatClampNeg) 3017 g0 ((j2_up I 1010 o0 (A 1005 o0 x1.toNatClampNeg)) 1003 o0).toNatClampNeg) < 0 ∧ (x1 * (nI 20)).toNatClampNeg + ((j2_acp A 1006 o0 1008 o0 (x1 * (nI 10)).toNatClampNeg (nI 0).toNatClampNeg ((j2_up I 1010 o0 (A 1005 o0 x1.toNatClampNeg)) 1010 o0).toNatClampNeg) 3017 g0 ((j2_up I 1010 o0 (A 1005 o0 x1.toNatClampNeg)) 1003 o0).toNatClampNeg).toNatClampNeg ≤ 2400 ∧ (nI 0).toNatClampNeg + ((j2_acp A 1006 o0 1008 o0 (x1 * (nI 10)).toNatClampNeg (nI 0).toNatClampNeg ((j2_up I 1010 o0 (A 1005 o0 x1.toNatClampNeg)) 1010 o0).toNatClampNeg) 3017 g0 ((j2_up I 1010 o0 (A 1005 o0 x1.toNatClampNeg)) 1003 o0).toNatClampNeg).toNatClampNeg ≤ 20 ∧ ((none : Option FieldType) = none ∧ Q none ((j2_up I 1010 o0 (A 1005 o0 x1.toNatClampNeg)), [vO 3 g0, p1, p2, p3, p4, p5, p6, p7, p8, p9], (j2_acp (j2_acp A 1006 o0 1008 o0 (x1 * (nI 10)).toNatClampNeg (nI 0).toNatClampNeg ((j2_up I 1010 o0 (A 1005 o0 x1.toNatClampNeg)) 1010 o0).toNatClampNeg) 1007 o0 1009 o0 (x1 * (nI 20)).toNatClampNeg (nI 0).toNatClampNeg ((j2_acp A 1006 o0 1008 o0 (x1 * (nI 10)).toNatClampNeg (nI 0).toNatClampNeg ((j2_up I 1010 o0 (A 1005 o0 x1.toNatClampNeg)) 1010 o0).toNatClampNeg) 3017 g0 ((j2_up I 1010 o0 (A 1005 o0 x1.toNatClampNeg)) 1003 o0).toNatClampNeg).toNatClampNeg)))))))) :
  T7 C Q 0 [vO 1 o0, vI x1] [] (I, [vO 3 g0, p1, p2, p3, p4, p5, p6, p7, p8, p9], A) := j2_T.go hC [0] 400 h
abbrev T8 (C : j2_C) (Q : j2_P) : j2_K := j2_T C jc_X1_ask none Q
set_option maxRecDepth 100000 in
theorem b8_0 {C : j2_C} (hC : j2_up1 C) {Q : j2_P} {o0 : Nat} {x1 : Int32} {x2 : Int32} {x3 : Int32} {g0 : Nat} {p1 : j2_W} {p2 : j2_W} {p3 : j2_W} {p4 : j2_W} {p5 : j2_W} {p6 : j2_W} {p7 : j2_W} {p8 : j2_W} {p9 : j2_W} {I : Nat → Nat → Int32} {A : Nat → Nat → Nat → Int32}
  (h : ((x1 < (nI 6) → T8 C Q 25 [vO 1 o0, vI x1, vI x2, vI x3] [] ((j2_up (j2_up (j2_up I 1012 o0 (nI 0)) 1014 o0 (nI 0)) 1013 o0 (nI 0)), [vO 3 g0, p1, p2, p3, p4, p5, p6, p7, p8, p9], A)) ∧ (¬ (x1 < (nI 6)) → (((nI 10) < x1 → T8 C Q 25 [vO 1 o0, vI x1, vI x2, vI x3] [] ((j2_up (j2_up (j2_up I 1012 o0 (nI 0)) 1014 o0 (nI 0)) 1013 o0 (nI 0)), [vO 3 g0, p1, p2, p3, p4, p5, p6, p7, p8, p9], A)) ∧ (¬ ((nI 10) < x1) → C 11 [vO 1 o0, vI (nI 1)] ((j2_up (j2_up (j2_up I 1012 o0 (nI 0)) 1014 o0 (nI 0)) 1013 o0 (nI 0)), [vO 3 g0, p1, p2, p3, p4, p5, p6, p7, p8, p9], A) (fun r σ1 => T8 C Q 18 [vO 1 o0, vI x1, vI x2, vI x3] (r.toList ++ []) σ1)))))) :
  T8 C Q 0 [vO 1 o0, vI x1, vI x2, vI x3] [] (I, [vO 3 g0, p1, p2, p3, p4, p5, p6, p7, p8, p9], A) := j2_T.go hC [0, 18, 21, 24, 25, 26, 27, 30, 31, 34, 35, 41, 42, 45, 46, 49, 50, 53, 56, 57, 60, 61, 74, 75, 76, 86, 87, 92] 400 h
set_option maxRecDepth 100000 in
theorem b8_18 {C : j2_C} (hC : j2_up1 C) {Q : j2_P} {o0 : Nat} {x1 : Int32} {x2 : Int32} {x3 : Int32} {g0 : Nat} {p1 : j2_W} {p2 : j2_W} {p3 : j2_W} {p4 : j2_W} {p5 : j2_W} {p6 : j2_W} {p7 : j2_W} {p8 : j2_W} {p9 : j2_W} {I : Nat → Nat → Int32} {A : Nat → Nat → Nat → Int32}
  (h : C 11 [vO 1 o0, vI (nI 1)] (I, [vO 3 g0, p1, p2, p3, p4, p5, p6, p7, p8, p9], A) (fun r σ1 => T8 C Q 21 [vO 1 o0, vI x1, vI x2, vI x3] (r.toList ++ []) σ1)) :
  T8 C Q 18 [vO 1 o0, vI x1, vI x2, vI x3] [] (I, [vO 3 g0, p1, p2, p3, p4, p5, p6, p7, p8, p9], A) := j2_T.go hC [0, 18, 21, 24, 25, 26, 27, 30, 31, 34, 35, 41, 42, 45, 46, 49, 50, 53, 56, 57, 60, 61, 74, 75, 76, 86, 87, 92] 400 h
set_option maxRecDepth 100000 in
theorem b8_21 {C : j2_C} (hC : j2_up1 C) {Q : j2_P} {o0 : Nat} {x1 : Int32} {x2 : Int32} {x3 : Int32} {g0 : Nat} {p1 : j2_W} {p2 : j2_W} {p3 : j2_W} {p4 : j2_W} {p5 : j2_W} {p6 : j2_W} {p7 : j2_W} {p8 : j2_W} {p9 : j2_W} {I : Nat → Nat → Int32} {A : Nat → Nat → Nat → Int32}
  (h : C 12 [vO 1 o0, vI (nI 1)] (I, [vO 3 g0, p1, p2, p3, p4, p5, p6, p7, p8, p9], A) (fun r σ1 => T8 C Q 24 [vO 1 o0, vI x1, vI x2, vI x3] (r.toList ++ []) σ1)) :
  T8 C Q 21 [vO 1 o0, vI x1, vI x2, vI x3] [] (I, [vO 3 g0, p1, p2, p3, p4, p5, p6, p7, p8, p9], A) := j2_T.go hC [0, 18, 21, 24, 25, 26, 27, 30, 31, 34, 35, 41, 42, 45, 46, 49, 50, 53, 56, 57, 60, 61, 74, 75, 76, 86, 87, 92] 400 h
set_option maxRecDepth 100000 in
theorem b8_24 {C : j2_C} (hC : j2_up1 C) {Q : j2_P} {o0 : Nat} {x1 : Int32} {x2 : Int32} {x3 : Int32} {g0 : Nat} {p1 : j2_W} {p2 : j2_W} {p3 : j2_W} {p4 : j2_W} {p5 : j2_W} {p6 : j2_W} {p7 : j2_W} {p8 : j2_W} {p9 : j2_W} {I : Nat → Nat → Int32} {A : Nat → Nat → Nat → Int32}
  (h : ((none : Option FieldType) = none ∧ Q none (I, [vO 3 g0, p1, p2, p3, p4, p5, p6, p7, p8, p9], A))) :
  T8 C Q 24 [vO 1 o0, vI x1, vI x2, vI x3] [] (I, [vO 3 g0, p1, p2, p3, p4, p5, p6, p7, p8, p9], A) := j2_T.go hC [0, 18, 21, 24, 25, 26, 27, 30, 31, 34, 35, 41, 42, 45, 46, 49, 50, 53, 56, 57, 60, 61, 74, 75, 76, 86, 87, 92] 400 h
set_option maxRecDepth 100000 in
theorem b8_25 {C : j2_C} (hC : j2_up1 C) {Q : j2_P} {o0 : Nat} {x1 : Int32} {x2 : Int32} {x3 : Int32} {g0 : Nat} {p1 : j2_W} {p2 : j2_W} {p3 : j2_W} {p4 : j2_W} {p5 : j2_W} {p6 : j2_W} {p7 : j2_W} {p8 : j2_W} {p9 : j2_W} {I : Nat → Nat → Int32} {A : Nat → Nat → Nat → Int32}
  (h : T8 C Q 26 [vO 1 o0, vI x1, vI x2, vI x3] [vI x1] (I, [vO 3 g0, p1, p2, p3, p4, p5, p6, p7, p8, p9], A)) :
  T8 C Q 25 [vO 1 o0, vI x1, vI x2, vI x3] [] (I, [vO 3 g0, p1, p2, p3, p4, p5, p6, p7, p8, p9], A) := j2_T.go hC [0, 18, 21, 24, 25, 26, 27, 30, 31, 34, 35, 41, 42, 45, 46, 49, 50, 53, 56, 57, 60, 61, 74, 75, 76, 86, 87, 92] 400 h
set_option maxRecDepth 100000 in
theorem b8_26 {C : j2_C} (hC : j2_up1 C) {Q : j2_P} {o0 : Nat} {x1 : Int32} {x2 : Int32} {x3 : Int32} {xs0 : Int32} {g0 : Nat} {p1 : j2_W} {p2 : j2_W} {p3 : j2_W} {p4 : j2_W} {p5 : j2_W} {p6 : j2_W} {p7 : j2_W} {p8 : j2_W} {p9 : j2_W} {I : Nat → Nat → Int32} {A : Nat → Nat → Nat → Int32} (h0 : xs0 = (nI 0) → T8 C Q 27 [vO 1 o0, vI x1, vI x2, vI x3] [] (I, [vO 3 g0, p1, p2, p3, p4, p5, p6, p7, p8, p9], A)) (h1 : xs0 = (nI 1) → T8 C Q 31 [vO 1 o0, vI x1, vI x2, vI x3] [] (I, [vO 3 g0, p1, p2, p3, p4, p5, p6, p7, p8, p9], A)) (h2 : xs0 = (nI 2) → T8 C Q 35 [vO 1 o0, vI x1, vI x2, vI x3] [] (I, [vO 3 g0, p1, p2, p3, p4, p5, p6, p7, p8, p9], A)) (h3 : xs0 = (nI 3) → T8 C Q 42 [vO 1 o0, vI x1, vI x2, vI x3] [] (I, [vO 3 g0, p1, p2, p3, p4, p5, p6, p7, p8, p9], A)) (h4 : xs0 = (nI 4) → T8 C Q 42 [vO 1 o0, vI x1, vI x2, vI x3] [] (I, [vO 3 g0, p1, p2, p3, p4, p5, p6, p7, p8, p9], A)) (h5 : xs0 = (nI 5) → T8 C Q 42 [vO 1 o0, vI x1, vI x2, vI x3] [] (I, [vO 3 g0, p1, p2, p3, p4, p5, p6, p7, p8, p9], A)) (h6 : xs0 = (nI 6) → T8 C Q 87 [vO 1 o0, vI x1, vI x2, vI x3] [] (I, [vO 3 g0, p1, p2, p3, p4, p5, p6, p7, p8, p9], A)) (h7 : xs0 = (nI 7) → T8 C Q 87 [vO 1 o0, vI x1, vI x2, vI x3] [] (I, [vO 3 g0, p1, p2, p3, p4, p5, p6, p7, p8, p9], A)) (h8 : xs0 = (nI 8) → T8 C Q 87 [vO 1 o0, vI x1, vI x2, vI x3] [] (I, [vO 3 g0, p1, p2, p3, p4, p5, p6, p7, p8, p9], A)) (h9 : xs0 = (nI 9) → T8 C Q 87 [vO 1 o0, vI x1, vI x2, vI x3] [] (I, [vO 3 g0, p1, p2, p3, p4, p5, p6, p7, p8, p9], A)) (h10 : xs0 = (nI 10) → T8 C Q 87 [vO 1 o0, vI x1, vI x2, vI x3] [] (I, [vO 3 g0, p1, p2, p3, p4, p5, p6, p7, p8, p9], A)) (h11 : xs0 = (nI 11) → T8 C Q 87 [vO 1 o0, vI x1, vI x2, vI x3] [] (I, [vO 3 g0, p1, p2, p3, p4, p5, p6, p7, p8, p9], A)) (h12 : xs0 = (nI 12) → T8 C Q 46 [vO 1 o0, vI x1, vI x2, vI x3] [] (I, [vO 3 g0, p1, p2, p3, p4, p5, p6, p7, p8, p9], A)) (h13 : xs0 = (nI 13) → T8 C Q 50 [vO 1 o0, vI x1, vI x2, vI x3] [] (I, [vO 3 g0, p1, p2, p3, p4, p5, p6, p7, p8, p9], A)) (h14 : xs0 = (nI 14) → T8 C Q 57 [vO 1 o0, vI x1, vI x2, vI x3] [] (I, [vO 3 g0, p1, p2, p3, p4, p5, p6, p7, p8, p9], A)) (h15 : xs0 = (nI 15) → T8 C Q 87 [vO 1 o0, vI x1, vI x2, vI x3] [] (I, [vO 3 g0, p1, p2, p3, p4, p5, p6, p7, p8, p9], A)) (h16 : xs0 = (nI 16) → T8 C Q 87 [vO 1 o0, vI x1, vI x2, vI x3] [] (I, [vO 3 g0, p1, p2, p3, p4, p5, p6, p7, p8, p9], A)) (h17 : xs0 = (nI 17) → T8 C Q 87 [vO 1 o0, vI x1, vI x2, vI x3] [] (I, [vO 3 g0, p1, p2, p3, p4, p5, p6, p7, p8, p9], A)) (h18 : xs0 = (nI 18) → T8 C Q 87 [vO 1 o0, vI x1, vI x2, vI x3] [] (I, [vO 3 g0, p1, p2, p3, p4, p5, p6, p7, p8, p9], A)) (h19 : xs0 = (nI 19) → T8 C Q 87 [vO 1 o0, vI x1, vI x2, vI x3] [] (I, [vO 3 g0, p1, p2, p3, p4, p5, p6, p7, p8, p9], A)) (h20 : xs0 = (nI 20) → T8 C Q 76 [vO 1 o0, vI x1, vI x2, vI x3] [] (I, [vO 3 g0, p1, p2, p3, p4, p5, p6, p7, p8, p9], A)) (h21 : xs0 = (nI 21) → T8 C Q 76 [vO 1 o0, vI x1, vI x2, vI x3] [] (I, [vO 3 g0, p1, p2, p3, p4, p5, p6, p7, p8, p9], A)) (h22 : xs0 = (nI 22) → T8 C Q 61 [vO 1 o0, vI x1, vI x2, vI x3] [] (I, [vO 3 g0, p1, p2, p3, p4, p5, p6, p7, p8, p9], A)) (h23 : xs0 = (nI 23) → T8 C Q 46 [vO 1 o0, vI x1, vI x2, vI x3] [] (I, [vO 3 g0, p1, p2, p3, p4, p5, p6, p7, p8, p9], A)) (hd : (xs0.toInt < 0 ∨ 23 < xs0.toInt) → T8 C Q 87 [vO 1 o0, vI x1, vI x2, vI x3] [] (I, [vO 3 g0, p1, p2, p3, p4, p5, p6, p7, p8, p9], A)) :
  T8 C Q 26 [vO 1 o0, vI x1, vI x2, vI x3] [vI xs0] (I, [vO 3 g0, p1, p2, p3, p4, p5, p6, p7, p8, p9], A) := j2_T.tsw hC (d := 87) (lo := 0) (hi := 23) (ts := #[27, 31, 35, 42, 42, 42, 87, 87, 87, 87, 87, 87, 46, 50, 57, 87, 87, 87, 87, 87, 76, 76, 61, 46]) rfl hd (fun g1 g2 => by
  have g : xs0.toInt = 0 ∨ xs0.toInt = 1 ∨ xs0.toInt = 2 ∨ xs0.toInt = 3 ∨ xs0.toInt = 4 ∨ xs0.toInt = 5 ∨ xs0.toInt = 6 ∨ xs0.toInt = 7 ∨ xs0.toInt = 8 ∨ xs0.toInt = 9 ∨ xs0.toInt = 10 ∨ xs0.toInt = 11 ∨ xs0.toInt = 12 ∨ xs0.toInt = 13 ∨ xs0.toInt = 14 ∨ xs0.toInt = 15 ∨ xs0.toInt = 16 ∨ xs0.toInt = 17 ∨ xs0.toInt = 18 ∨ xs0.toInt = 19 ∨ xs0.toInt = 20 ∨ xs0.toInt = 21 ∨ xs0.toInt = 22 ∨ xs0.toInt = 23 := by omega
  rcases g with g | g | g | g | g | g | g | g | g | g | g | g | g | g | g | g | g | g | g | g | g | g | g | g
  · rw [g]; exact h0 (Int32.toInt_inj.mp (g.trans (by decide)))
  · rw [g]; exact h1 (Int32.toInt_inj.mp (g.trans (by decide)))
  · rw [g]; exact h2 (Int32.toInt_inj.mp (g.trans (by decide)))
  · rw [g]; exact h3 (Int32.toInt_inj.mp (g.trans (by decide)))
  · rw [g]; exact h4 (Int32.toInt_inj.mp (g.trans (by decide)))
  · rw [g]; exact h5 (Int32.toInt_inj.mp (g.trans (by decide)))
  · rw [g]; exact h6 (Int32.toInt_inj.mp (g.trans (by decide)))
  · rw [g]; exact h7 (Int32.toInt_inj.mp (g.trans (by decide)))
  · rw [g]; exact h8 (Int32.toInt_inj.mp (g.trans (by decide)))
  · rw [g]; exact h9 (Int32.toInt_inj.mp (g.trans (by decide)))
  · rw [g]; exact h10 (Int32.toInt_inj.mp (g.trans (by decide)))
  · rw [g]; exact h11 (Int32.toInt_inj.mp (g.trans (by decide)))
  · rw [g]; exact h12 (Int32.toInt_inj.mp (g.trans (by decide)))
  · rw [g]; exact h13 (Int32.toInt_inj.mp (g.trans (by decide)))
  · rw [g]; exact h14 (Int32.toInt_inj.mp (g.trans (by decide)))
  · rw [g]; exact h15 (Int32.toInt_inj.mp (g.trans (by decide)))
  · rw [g]; exact h16 (Int32.toInt_inj.mp (g.trans (by decide)))
  · rw [g]; exact h17 (Int32.toInt_inj.mp (g.trans (by decide)))
  · rw [g]; exact h18 (Int32.toInt_inj.mp (g.trans (by decide)))
  · rw [g]; exact h19 (Int32.toInt_inj.mp (g.trans (by decide)))
  · rw [g]; exact h20 (Int32.toInt_inj.mp (g.trans (by decide)))
  · rw [g]; exact h21 (Int32.toInt_inj.mp (g.trans (by decide)))
  · rw [g]; exact h22 (Int32.toInt_inj.mp (g.trans (by decide)))
  · rw [g]; exact h23 (Int32.toInt_inj.mp (g.trans (by decide)))
  )
set_option maxRecDepth 100000 in
theorem b8_27 {C : j2_C} (hC : j2_up1 C) {Q : j2_P} {o0 : Nat} {x1 : Int32} {x2 : Int32} {x3 : Int32} {g0 : Nat} {p1 : j2_W} {p2 : j2_W} {p3 : j2_W} {p4 : j2_W} {p5 : j2_W} {p6 : j2_W} {p7 : j2_W} {p8 : j2_W} {p9 : j2_W} {I : Nat → Nat → Int32} {A : Nat → Nat → Nat → Int32}
  (h : C 12 [vO 1 o0, vI (nI 1)] (I, [vO 3 g0, p1, p2, p3, p4, p5, p6, p7, p8, p9], A) (fun r σ1 => T8 C Q 30 [vO 1 o0, vI x1, vI x2, vI x3] (r.toList ++ []) σ1)) :
  T8 C Q 27 [vO 1 o0, vI x1, vI x2, vI x3] [] (I, [vO 3 g0, p1, p2, p3, p4, p5, p6, p7, p8, p9], A) := j2_T.go hC [0, 18, 21, 24, 25, 26, 27, 30, 31, 34, 35, 41, 42, 45, 46, 49, 50, 53, 56, 57, 60, 61, 74, 75, 76, 86, 87, 92] 400 h
set_option maxRecDepth 100000 in
theorem b8_30 {C : j2_C} (hC : j2_up1 C) {Q : j2_P} {o0 : Nat} {x1 : Int32} {x2 : Int32} {x3 : Int32} {g0 : Nat} {p1 : j2_W} {p2 : j2_W} {p3 : j2_W} {p4 : j2_W} {p5 : j2_W} {p6 : j2_W} {p7 : j2_W} {p8 : j2_W} {p9 : j2_W} {I : Nat → Nat → Int32} {A : Nat → Nat → Nat → Int32}
  (h : T8 C Q 92 [vO 1 o0, vI x1, vI x2, vI x3] [] (I, [vO 3 g0, p1, p2, p3, p4, p5, p6, p7, p8, p9], A)) :
  T8 C Q 30 [vO 1 o0, vI x1, vI x2, vI x3] [] (I, [vO 3 g0, p1, p2, p3, p4, p5, p6, p7, p8, p9], A) := j2_T.go hC [0, 18, 21, 24, 25, 26, 27, 30, 31, 34, 35, 41, 42, 45, 46, 49, 50, 53, 56, 57, 60, 61, 74, 75, 76, 86, 87, 92] 400 h
set_option maxRecDepth 100000 in
theorem b8_31 {C : j2_C} (hC : j2_up1 C) {Q : j2_P} {o0 : Nat} {x1 : Int32} {x2 : Int32} {x3 : Int32} {g0 : Nat} {p1 : j2_W} {p2 : j2_W} {p3 : j2_W} {p4 : j2_W} {p5 : j2_W} {p6 : j2_W} {p7 : j2_W} {p8 : j2_W} {p9 : j2_W} {I : Nat → Nat → Int32} {A : Nat → Nat → Nat → Int32}
  (h : C 12 [vO 1 o0, vI (nI 2)] (I, [vO 3 g0, p1, p2, p3, p4, p5, p6, p7, p8, p9], A) (fun r σ1 => T8 C Q 34 [vO 1 o0, vI x1, vI x2, vI x3] (r.toList ++ []) σ1)) :
  T8 C Q 31 [vO 1 o0, vI x1, vI x2, vI x3] [] (I, [vO 3 g0, p1, p2, p3, p4, p5, p6, p7, p8, p9], A) := j2_T.go hC [0, 18, 21, 24, 25, 26, 27, 30, 31, 34, 35, 41, 42, 45, 46, 49, 50, 53, 56, 57, 60, 61, 74, 75, 76, 86, 87, 92] 400 h
set_option maxRecDepth 100000 in
theorem b8_34 {C : j2_C} (hC : j2_up1 C) {Q : j2_P} {o0 : Nat} {x1 : Int32} {x2 : Int32} {x3 : Int32} {g0 : Nat} {p1 : j2_W} {p2 : j2_W} {p3 : j2_W} {p4 : j2_W} {p5 : j2_W} {p6 : j2_W} {p7 : j2_W} {p8 : j2_W} {p9 : j2_W} {I : Nat → Nat → Int32} {A : Nat → Nat → Nat → Int32}
  (h : T8 C Q 92 [vO 1 o0, vI x1, vI x2, vI x3] [] (I, [vO 3 g0, p1, p2, p3, p4, p5, p6, p7, p8, p9], A)) :
  T8 C Q 34 [vO 1 o0, vI x1, vI x2, vI x3] [] (I, [vO 3 g0, p1, p2, p3, p4, p5, p6, p7, p8, p9], A) := j2_T.go hC [0, 18, 21, 24, 25, 26, 27, 30, 31, 34, 35, 41, 42, 45, 46, 49, 50, 53, 56, 57, 60, 61, 74, 75, 76, 86, 87, 92] 400 h
set_option maxRecDepth 100000 in
theorem b8_35 {C : j2_C} (hC : j2_up1 C) {Q : j2_P} {o0 : Nat} {x1 : Int32} {x2 : Int32} {x3 : Int32} {g0 : Nat} {p1 : j2_W} {p2 : j2_W} {p3 : j2_W} {p4 : j2_W} {p5 : j2_W} {p6 : j2_W} {p7 : j2_W} {p8 : j2_W} {p9 : j2_W} {I : Nat → Nat → Int32} {A : Nat → Nat → Nat → Int32}
  (h : (vp_in x2 20 ∧ C 12 [vO 1 o0, vI (A 1009 o0 x2.toNatClampNeg)] (I, [vO 3 g0, p1, p2, p3, p4, p5, p6, p7, p8, p9], A) (fun r σ1 => T8 C Q 41 [vO 1 o0, vI x1, vI x2, vI x3] (r.toList ++ []) σ1))) :
  T8 C Q 35 [vO 1 o0, vI x1, vI x2, vI x3] [] (I, [vO 3 g0, p1, p2, p3, p4, p5, p6, p7, p8, p9], A) := j2_T.go hC [0, 18, 21, 24, 25, 26, 27, 30, 31, 34, 35, 41, 42, 45, 46, 49, 50, 53, 56, 57, 60, 61, 74, 75, 76, 86, 87, 92] 400 h
set_option maxRecDepth 100000 in
theorem b8_41 {C : j2_C} (hC : j2_up1 C) {Q : j2_P} {o0 : Nat} {x1 : Int32} {x2 : Int32} {x3 : Int32} {g0 : Nat} {p1 : j2_W} {p2 : j2_W} {p3 : j2_W} {p4 : j2_W} {p5 : j2_W} {p6 : j2_W} {p7 : j2_W} {p8 : j2_W} {p9 : j2_W} {I : Nat → Nat → Int32} {A : Nat → Nat → Nat → Int32}
  (h : T8 C Q 92 [vO 1 o0, vI x1, vI x2, vI x3] [] (I, [vO 3 g0, p1, p2, p3, p4, p5, p6, p7, p8, p9], A)) :
  T8 C Q 41 [vO 1 o0, vI x1, vI x2, vI x3] [] (I, [vO 3 g0, p1, p2, p3, p4, p5, p6, p7, p8, p9], A) := j2_T.go hC [0, 18, 21, 24, 25, 26, 27, 30, 31, 34, 35, 41, 42, 45, 46, 49, 50, 53, 56, 57, 60, 61, 74, 75, 76, 86, 87, 92] 400 h
set_option maxRecDepth 100000 in
theorem b8_42 {C : j2_C} (hC : j2_up1 C) {Q : j2_P} {o0 : Nat} {x1 : Int32} {x2 : Int32} {x3 : Int32} {g0 : Nat} {p1 : j2_W} {p2 : j2_W} {p3 : j2_W} {p4 : j2_W} {p5 : j2_W} {p6 : j2_W} {p7 : j2_W} {p8 : j2_W} {p9 : j2_W} {I : Nat → Nat → Int32} {A : Nat → Nat → Nat → Int32}
  (h : C 11 [vO 1 o0, vI (-1 : Int32)] (I, [vO 3 g0, p1, p2, p3, p4, p5, p6, p7, p8, p9], A) (fun r σ1 => T8 C Q 45 [vO 1 o0, vI x1, vI x2, vI x3] (r.toList ++ []) σ1)) :
  T8 C Q 42 [vO 1 o0, vI x1, vI x2, vI x3] [] (I, [vO 3 g0, p1, p2, p3, p4, p5, p6, p7, p8, p9], A) := j2_T.go hC [0, 18, 21, 24, 25, 26, 27, 30, 31, 34, 35, 41, 42, 45, 46, 49, 50, 53, 56, 57, 60, 61, 74, 75, 76, 86, 87, 92] 400 h
set_option maxRecDepth 100000 in
theorem b8_45 {C : j2_C} (hC : j2_up1 C) {Q : j2_P} {o0 : Nat} {x1 : Int32} {x2 : Int32} {x3 : Int32} {g0 : Nat} {p1 : j2_W} {p2 : j2_W} {p3 : j2_W} {p4 : j2_W} {p5 : j2_W} {p6 : j2_W} {p7 : j2_W} {p8 : j2_W} {p9 : j2_W} {I : Nat → Nat → Int32} {A : Nat → Nat → Nat → Int32}
  (h : T8 C Q 92 [vO 1 o0, vI x1, vI x2, vI x3] [] (I, [vO 3 g0, p1, p2, p3, p4, p5, p6, p7, p8, p9], A)) :
  T8 C Q 45 [vO 1 o0, vI x1, vI x2, vI x3] [] (I, [vO 3 g0, p1, p2, p3, p4, p5, p6, p7, p8, p9], A) := j2_T.go hC [0, 18, 21, 24, 25, 26, 27, 30, 31, 34, 35, 41, 42, 45, 46, 49, 50, 53, 56, 57, 60, 61, 74, 75, 76, 86, 87, 92] 400 h
set_option maxRecDepth 100000 in
theorem b8_46 {C : j2_C} (hC : j2_up1 C) {Q : j2_P} {o0 : Nat} {x1 : Int32} {x2 : Int32} {x3 : Int32} {g0 : Nat} {p1 : j2_W} {p2 : j2_W} {p3 : j2_W} {p4 : j2_W} {p5 : j2_W} {p6 : j2_W} {p7 : j2_W} {p8 : j2_W} {p9 : j2_W} {I : Nat → Nat → Int32} {A : Nat → Nat → Nat → Int32}
  (h : C 11 [vO 1 o0, vI (nI 1)] (I, [vO 3 g0, p1, p2, p3, p4, p5, p6, p7, p8, p9], A) (fun r σ1 => T8 C Q 49 [vO 1 o0, vI x1, vI x2, vI x3] (r.toList ++ []) σ1)) :
  T8 C Q 46 [vO 1 o0, vI x1, vI x2, vI x3] [] (I, [vO 3 g0, p1, p2, p3, p4, p5, p6, p7, p8, p9], A) := j2_T.go hC [0, 18, 21, 24, 25, 26, 27, 30, 31, 34, 35, 41, 42, 45, 46, 49, 50, 53, 56, 57, 60, 61, 74, 75, 76, 86, 87, 92] 400 h
set_option maxRecDepth 100000 in
theorem b8_49 {C : j2_C} (hC : j2_up1 C) {Q : j2_P} {o0 : Nat} {x1 : Int32} {x2 : Int32} {x3 : Int32} {g0 : Nat} {p1 : j2_W} {p2 : j2_W} {p3 : j2_W} {p4 : j2_W} {p5 : j2_W} {p6 : j2_W} {p7 : j2_W} {p8 : j2_W} {p9 : j2_W} {I : Nat → Nat → Int32} {A : Nat → Nat → Nat → Int32}
  (h : T8 C Q 92 [vO 1 o0, vI x1, vI x2, vI x3] [] (I, [vO 3 g0, p1, p2, p3, p4, p5, p6, p7, p8, p9], A)) :
  T8 C Q 49 [vO 1 o0, vI x1, vI x2, vI x3] [] (I, [vO 3 g0, p1, p2, p3, p4, p5, p6, p7, p8, p9], A) := j2_T.go hC [0, 18, 21, 24, 25, 26, 27, 30, 31, 34, 35, 41, 42, 45, 46, 49, 50, 53, 56, 57, 60, 61, 74, 75, 76, 86, 87, 92] 400 h
set_option maxRecDepth 100000 in
theorem b8_50 {C : j2_C} (hC : j2_up1 C) {Q : j2_P} {o0 : Nat} {x1 : Int32} {x2 : Int32} {x3 : Int32} {g0 : Nat} {p1 : j2_W} {p2 : j2_W} {p3 : j2_W} {p4 : j2_W} {p5 : j2_W} {p6 : j2_W} {p7 : j2_W} {p8 : j2_W} {p9 : j2_W} {I : Nat → Nat → Int32} {A : Nat → Nat → Nat → Int32}
  (h : C 11 [vO 1 o0, vI (nI 1)] (I, [vO 3 g0, p1, p2, p3, p4, p5, p6, p7, p8, p9], A) (fun r σ1 => T8 C Q 53 [vO 1 o0, vI x1, vI x2, vI x3] (r.toList ++ []) σ1)) :
  T8 C Q 50 [vO 1 o0, vI x1, vI x2, vI x3] [] (I, [vO 3 g0, p1, p2, p3, p4, p5, p6, p7, p8, p9], A) := j2_T.go hC [0, 18, 21, 24, 25, 26, 27, 30, 31, 34, 35, 41, 42, 45, 46, 49, 50, 53, 56, 57, 60, 61, 74, 75, 76, 86, 87, 92] 400 h
set_option maxRecDepth 100000 in
theorem b8_53 {C : j2_C} (hC : j2_up1 C) {Q : j2_P} {o0 : Nat} {x1 : Int32} {x2 : Int32} {x3 : Int32} {g0 : Nat} {p1 : j2_W} {p2 : j2_W} {p3 : j2_W} {p4 : j2_W} {p5 : j2_W} {p6 : j2_W} {p7 : j2_W} {p8 : j2_W} {p9 : j2_W} {I : Nat → Nat → Int32} {A : Nat → Nat → Nat → Int32}
  (h : C 11 [vO 1 o0, vI (nI 1)] (I, [vO 3 g0, p1, p2, p3, p4, p5, p6, p7, p8, p9], A) (fun r σ1 => T8 C Q 56 [vO 1 o0, vI x1, vI x2, vI x3] (r.toList ++ []) σ1)) :
  T8 C Q 53 [vO 1 o0, vI x1, vI x2, vI x3] [] (I, [vO 3 g0, p1, p2, p3, p4, p5, p6, p7, p8, p9], A) := j2_T.go hC [0, 18, 21, 24, 25, 26, 27, 30, 31, 34, 35, 41, 42, 45, 46, 49, 50, 53, 56, 57, 60, 61, 74, 75, 76, 86, 87, 92] 400 h
set_option maxRecDepth 100000 in
theorem b8_56 {C : j2_C} (hC : j2_up1 C) {Q : j2_P} {o0 : Nat} {x1 : Int32} {x2 : Int32} {x3 : Int32} {g0 : Nat} {p1 : j2_W} {p2 : j2_W} {p3 : j2_W} {p4 : j2_W} {p5 : j2_W} {p6 : j2_W} {p7 : j2_W} {p8 : j2_W} {p9 : j2_W} {I : Nat → Nat → Int32} {A : Nat → Nat → Nat → Int32}
  (h : T8 C Q 92 [vO 1 o0, vI x1, vI x2, vI x3] [] (I, [vO 3 g0, p1, p2, p3, p4, p5, p6, p7, p8, p9], A)) :
  T8 C Q 56 [vO 1 o0, vI x1, vI x2, vI x3] [] (I, [vO 3 g0, p1, p2, p3, p4, p5, p6, p7, p8, p9], A) := j2_T.go hC [0, 18, 21, 24, 25, 26, 27, 30, 31, 34, 35, 41, 42, 45, 46, 49, 50, 53, 56, 57, 60, 61, 74, 75, 76, 86, 87, 92] 400 h
set_option maxRecDepth 100000 in
theorem b8_57 {C : j2_C} (hC : j2_up1 C) {Q : j2_P} {o0 : Nat} {x1 : Int32} {x2 : Int32} {x3 : Int32} {g0 : Nat} {p1 : j2_W} {p2 : j2_W} {p3 : j2_W} {p4 : j2_W} {p5 : j2_W} {p6 : j2_W} {p7 : j2_W} {p8 : j2_W} {p9 : j2_W} {I : Nat → Nat → Int32} {A : Nat → Nat → Nat → Int32}
  (h : C 11 [vO 1 o0, vI (-2 : Int32)] (I, [vO 3 g0, p1, p2, p3, p4, p5, p6, p7, p8, p9], A) (fun r σ1 => T8 C Q 60 [vO 1 o0, vI x1, vI x2, vI x3] (r.toList ++ []) σ1)) :
  T8 C Q 57 [vO 1 o0, vI x1, vI x2, vI x3] [] (I, [vO 3 g0, p1, p2, p3, p4, p5, p6, p7, p8, p9], A) := j2_T.go hC [0, 18, 21, 24, 25, 26, 27, 30, 31, 34, 35, 41, 42, 45, 46, 49, 50, 53, 56, 57, 60, 61, 74, 75, 76, 86, 87, 92] 400 h
set_option maxRecDepth 100000 in
theorem b8_60 {C : j2_C} (hC : j2_up1 C) {Q : j2_P} {o0 : Nat} {x1 : Int32} {x2 : Int32} {x3 : Int32} {g0 : Nat} {p1 : j2_W} {p2 : j2_W} {p3 : j2_W} {p4 : j2_W} {p5 : j2_W} {p6 : j2_W} {p7 : j2_W} {p8 : j2_W} {p9 : j2_W} {I : Nat → Nat → Int32} {A : Nat → Nat → Nat → Int32}
  (h : T8 C Q 92 [vO 1 o0, vI x1, vI x2, vI x3] [] (I, [vO 3 g0, p1, p2, p3, p4, p5, p6, p7, p8, p9], A)) :
  T8 C Q 60 [vO 1 o0, vI x1, vI x2, vI x3] [] (I, [vO 3 g0, p1, p2, p3, p4, p5, p6, p7, p8, p9], A) := j2_T.go hC [0, 18, 21, 24, 25, 26, 27, 30, 31, 34, 35, 41, 42, 45, 46, 49, 50, 53, 56, 57, 60, 61, 74, 75, 76, 86, 87, 92] 400 h
set_option maxRecDepth 100000 in
theorem b8_61 {C : j2_C} (hC : j2_up1 C) {Q : j2_P} {o0 : Nat} {x1 : Int32} {x2 : Int32} {x3 : Int32} {g0 : Nat} {p1 : j2_W} {p2 : j2_W} {p3 : j2_W} {p4 : j2_W} {p5 : j2_W} {p6 : j2_W} {p7 : j2_W} {p8 : j2_W} {p9 : j2_W} {I : Nat → Nat → Int32} {A : Nat → Nat → Nat → Int32}
  (h : (vp_in (I 1003 o0) 80 ∧ (((A 3014 g0 (I 1003 o0).toNatClampNeg) = 0 → T8 C Q 92 [vO 1 o0, vI x1, vI x2, vI x3] [] (I, [vO 3 g0, p1, p2, p3, p4, p5, p6, p7, p8, p9], A)) ∧ (¬ ((A 3014 g0 (I 1003 o0).toNatClampNeg) = 0) → C 54 [vO 3 g0, vI (I 1003 o0)] (I, [vO 3 g0, p1, p2, p3, p4, p5, p6, p7, p8, p9], A) (fun r σ1 => T8 C Q 74 [vO 1 o0, vI x1, vI x2, vI x3] (r.toList ++ [vO 1 o0]) σ1))))) :
  T8 C Q 61 [vO 1 o0, vI x1, vI x2, vI x3] [] (I, [vO 3 g0, p1, p2, p3, p4, p5, p6, p7, p8, p9], A) := j2_T.go hC [0, 18, 21, 24, 25, 26, 27, 30, 31, 34, 35, 41, 42, 45, 46, 49, 50, 53, 56, 57, 60, 61, 74, 75, 76, 86, 87, 92] 400 h
set_option maxRecDepth 100000 in
theorem b8_74 {C : j2_C} (hC : j2_up1 C) {Q : j2_P} {o0 : Nat} {x1 : Int32} {x2 : Int32} {x3 : Int32} {xs0 : Int32} {os1 : Nat} {g0 : Nat} {p1 : j2_W} {p2 : j2_W} {p3 : j2_W} {p4 : j2_W} {p5 : j2_W} {p6 : j2_W} {p7 : j2_W} {p8 : j2_W} {p9 : j2_W} {I : Nat → Nat → Int32} {A : Nat → Nat → Nat → Int32}
  (h : C 11 [vO 1 os1, vI xs0] (I, [vO 3 g0, p1, p2, p3, p4, p5, p6, p7, p8, p9], A) (fun r σ1 => T8 C Q 75 [vO 1 o0, vI x1, vI x2, vI x3] (r.toList ++ []) σ1)) :
  T8 C Q 74 [vO 1 o0, vI x1, vI x2, vI x3] [vI xs0, vO 1 os1] (I, [vO 3 g0, p1, p2, p3, p4, p5, p6, p7, p8, p9], A) := j2_T.go hC [0, 18, 21, 24, 25, 26, 27, 30, 31, 34, 35, 41, 42, 45, 46, 49, 50, 53, 56, 57, 60, 61, 74, 75, 76, 86, 87, 92] 400 h
set_option maxRecDepth 100000 in
theorem b8_75 {C : j2_C} (hC : j2_up1 C) {Q : j2_P} {o0 : Nat} {x1 : Int32} {x2 : Int32} {x3 : Int32} {g0 : Nat} {p1 : j2_W} {p2 : j2_W} {p3 : j2_W} {p4 : j2_W} {p5 : j2_W} {p6 : j2_W} {p7 : j2_W} {p8 : j2_W} {p9 : j2_W} {I : Nat → Nat → Int32} {A : Nat → Nat → Nat → Int32}
  (h : T8 C Q 92 [vO 1 o0, vI x1, vI x2, vI x3] [] (I, [vO 3 g0, p1, p2, p3, p4, p5, p6, p7, p8, p9], A)) :
  T8 C Q 75 [vO 1 o0, vI x1, vI x2, vI x3] [] (I, [vO 3 g0, p1, p2, p3, p4, p5, p6, p7, p8, p9], A) := j2_T.go hC [0, 18, 21, 24, 25, 26, 27, 30, 31, 34, 35, 41, 42, 45, 46, 49, 50, 53, 56, 57, 60, 61, 74, 75, 76, 86, 87, 92] 400 h
set_option maxRecDepth 100000 in
theorem b8_76 {C : j2_C} (hC : j2_up1 C) {Q : j2_P} {o0 : Nat} {x1 : Int32} {x2 : Int32} {x3 : Int32} {g0 : Nat} {p1 : j2_W} {p2 : j2_W} {p3 : j2_W} {p4 : j2_W} {p5 : j2_W} {p6 : j2_W} {p7 : j2_W} {p8 : j2_W} {p9 : j2_W} {I : Nat → Nat → Int32} {A : Nat → Nat → Nat → Int32}
  (h : (vp_in x2 10 ∧ C 10 [vO 1 o0, vI x2, vI ((A 3007 g0 x2.toNatClampNeg) + x3)] (I, [vO 3 g0, p1, p2, p3, p4, p5, p6, p7, p8, p9], A) (fun r σ1 => T8 C Q 86 [vO 1 o0, vI x1, vI x2, vI x3] (r.toList ++ []) σ1))) :
  T8 C Q 76 [vO 1 o0, vI x1, vI x2, vI x3] [] (I, [vO 3 g0, p1, p2, p3, p4, p5, p6, p7, p8, p9], A) := j2_T.go hC [0, 18, 21, 24, 25, 26, 27, 30, 31, 34, 35, 41, 42, 45, 46, 49, 50, 53, 56, 57, 60, 61, 74, 75, 76, 86, 87, 92] 400 h
set_option maxRecDepth 100000 in
theorem b8_86 {C : j2_C} (hC : j2_up1 C) {Q : j2_P} {o0 : Nat} {x1 : Int32} {x2 : Int32} {x3 : Int32} {g0 : Nat} {p1 : j2_W} {p2 : j2_W} {p3 : j2_W} {p4 : j2_W} {p5 : j2_W} {p6 : j2_W} {p7 : j2_W} {p8 : j2_W} {p9 : j2_W} {I : Nat → Nat → Int32} {A : Nat → Nat → Nat → Int32}
  (h : T8 C Q 92 [vO 1 o0, vI x1, vI x2, vI x3] [] (I, [vO 3 g0, p1, p2, p3, p4, p5, p6, p7, p8, p9], A)) :
  T8 C Q 86 [vO 1 o0, vI x1, vI x2, vI x3] [] (I, [vO 3 g0, p1, p2, p3, p4, p5, p6, p7, p8, p9], A) := j2_T.go hC [0, 18, 21, 24, 25, 26, 27, 30, 31, 34, 35, 41, 42, 45, 46, 49, 50, 53, 56, 57, 60, 61, 74, 75, 76, 86, 87, 92] 400 h
set_option maxRecDepth 100000 in
theorem b8_87 {C : j2_C} (hC : j2_up1 C) {Q : j2_P} {o0 : Nat} {x1 : Int32} {x2 : Int32} {x3 : Int32} {g0 : Nat} {p1 : j2_W} {p2 : j2_W} {p3 : j2_W} {p4 : j2_W} {p5 : j2_W} {p6 : j2_W} {p7 : j2_W} {p8 : j2_W} {p9 : j2_W} {I : Nat → Nat → Int32} {A : Nat → Nat → Nat → Int32}
  (h : C 9 [vO 1 o0, vI x1, vI x2, vI x3] (I, [vO 3 g0, p1, p2, p3, p4, p5, p6, p7, p8, p9], A) (fun r σ1 => T8 C Q 92 [vO 1 o0, vI x1, vI x2, vI x3] (r.toList ++ []) σ1)) :
  T8 C Q 87 [vO 1 o0, vI x1, vI x2, vI x3] [] (I, [vO 3 g0, p1, p2, p3, p4, p5, p6, p7, p8, p9], A) := j2_T.go hC [0, 18, 21, 24, 25, 26, 27, 30, 31, 34, 35, 41, 42, 45, 46, 49, 50, 53, 56, 57, 60, 61, 74, 75, 76, 86, 87, 92] 400 h
set_option maxRecDepth 100000 in
theorem b8_92 {C : j2_C} (hC : j2_up1 C) {Q : j2_P} {o0 : Nat} {x1 : Int32} {x2 : Int32} {x3 : Int32} {g0 : Nat} {p1 : j2_W} {p2 : j2_W} {p3 : j2_W} {p4 : j2_W} {p5 : j2_W} {p6 : j2_W} {p7 : j2_W} {p8 : j2_W} {p9 : j2_W} {I : Nat → Nat → Int32} {A : Nat → Nat → Nat → Int32}
  (h : ((none : Option FieldType) = none ∧ Q none (I, [vO 3 g0, p1, p2, p3, p4, p5, p6, p7, p8, p9], A))) :
  T8 C Q 92 [vO 1 o0, vI x1, vI x2, vI x3] [] (I, [vO 3 g0, p1, p2, p3, p4, p5, p6, p7, p8, p9], A) := j2_T.go hC [0, 18, 21, 24, 25, 26, 27, 30, 31, 34, 35, 41, 42, 45, 46, 49, 50, 53, 56, 57, 60, 61, 74, 75, 76, 86, 87, 92] 400 h
abbrev T9 (C : j2_C) (Q : j2_P) : j2_K := j2_T C jc_X1_askOfObjects none Q
set_option maxRecDepth 100000 in
theorem b9_0 {C : j2_C} (hC : j2_up1 C) {Q : j2_P} {o0 : Nat} {x1 : Int32} {x2 : Int32} {x3 : Int32} {g0 : Nat} {p1 : j2_W} {p2 : j2_W} {p3 : j2_W} {p4 : j2_W} {p5 : j2_W} {p6 : j2_W} {p7 : j2_W} {p8 : j2_W} {p9 : j2_W} {I : Nat → Nat → Int32} {A : Nat → Nat → Nat → Int32}
  (h : T9 C Q 1 [vO 1 o0, vI x1, vI x2, vI x3] [vI x1] (I, [vO 3 g0, p1, p2, p3, p4, p5, p6, p7, p8, p9], A)) :
  T9 C Q 0 [vO 1 o0, vI x1, vI x2, vI x3] [] (I, [vO 3 g0, p1, p2, p3, p4, p5, p6, p7, p8, p9], A) := j2_T.go hC [0, 1, 2, 7, 8, 13, 19, 20, 21, 26, 32, 33, 34, 40, 41, 42, 48, 49, 50, 53, 58, 59, 62, 65, 66] 400 h
set_option maxRecDepth 100000 in
theorem b9_1 {C : j2_C} (hC : j2_up1 C) {Q : j2_P} {o0 : Nat} {x1 : Int32} {x2 : Int32} {x3 : Int32} {xs0 : Int32} {g0 : Nat} {p1 : j2_W} {p2 : j2_W} {p3 : j2_W} {p4 : j2_W} {p5 : j2_W} {p6 : j2_W} {p7 : j2_W} {p8 : j2_W} {p9 : j2_W} {I : Nat → Nat → Int32} {A : Nat → Nat → Nat → Int32} (h0 : xs0 = (nI 15) → T9 C Q 2 [vO 1 o0, vI x1, vI x2, vI x3] [] (I, [vO 3 g0, p1, p2, p3, p4, p5, p6, p7, p8, p9], A)) (h1 : xs0 = (nI 16) → T9 C Q 8 [vO 1 o0, vI x1, vI x2, vI x3] [] (I, [vO 3 g0, p1, p2, p3, p4, p5, p6, p7, p8, p9], A)) (h2 : xs0 = (nI 17) → T9 C Q 21 [vO 1 o0, vI x1, vI x2, vI x3] [] (I, [vO 3 g0, p1, p2, p3, p4, p5, p6, p7, p8, p9], A)) (h3 : xs0 = (nI 18) → T9 C Q 34 [vO 1 o0, vI x1, vI x2, vI x3] [] (I, [vO 3 g0, p1, p2, p3, p4, p5, p6, p7, p8, p9], A)) (h4 : xs0 = (nI 19) → T9 C Q 42 [vO 1 o0, vI x1, vI x2, vI x3] [] (I, [vO 3 g0, p1, p2, p3, p4, p5, p6, p7, p8, p9], A)) (h5 : xs0 = (nI 20) → T9 C Q 66 [vO 1 o0, vI x1, vI x2, vI x3] [] (I, [vO 3 g0, p1, p2, p3, p4, p5, p6, p7, p8, p9], A)) (h6 : xs0 = (nI 21) → T9 C Q 66 [vO 1 o0, vI x1, vI x2, vI x3] [] (I, [vO 3 g0, p1, p2, p3, p4, p5, p6, p7, p8, p9], A)) (h7 : xs0 = (nI 22) → T9 C Q 66 [vO 1 o0, vI x1, vI x2, vI x3] [] (I, [vO 3 g0, p1, p2, p3, p4, p5, p6, p7, p8, p9], A)) (h8 : xs0 = (nI 23) → T9 C Q 66 [vO 1 o0, vI x1, vI x2, vI x3] [] (I, [vO 3 g0, p1, p2, p3, p4, p5, p6, p7, p8, p9], A)) (h9 : xs0 = (nI 24) → T9 C Q 50 [vO 1 o0, vI x1, vI x2, vI x3] [] (I, [vO 3 g0, p1, p2, p3, p4, p5, p6, p7, p8, p9], A)) (h10 : xs0 = (nI 25) → T9 C Q 59 [vO 1 o0, vI x1, vI x2, vI x3] [] (I, [vO 3 g0, p1, p2, p3, p4, p5, p6, p7, p8, p9], A)) (hd : (xs0.toInt < 15 ∨ 25 < xs0.toInt) → T9 C Q 66 [vO 1 o0, vI x1, vI x2, vI x3] [] (I, [vO 3 g0, p1, p2, p3, p4, p5, p6, p7, p8, p9], A)) :
  T9 C Q 1 [vO 1 o0, vI x1, vI x2, vI x3] [vI xs0] (I, [vO 3 g0, p1, p2, p3, p4, p5, p6, p7, p8, p9], A) := j2_T.tsw hC (d := 66) (lo := 15) (hi := 25) (ts := #[2, 8, 21, 34, 42, 66, 66, 66, 66, 50, 59]) rfl hd (fun g1 g2 => by
  have g : xs0.toInt = 15 ∨ xs0.toInt = 16 ∨ xs0.toInt = 17 ∨ xs0.toInt = 18 ∨ xs0.toInt = 19 ∨ xs0.toInt = 20 ∨ xs0.toInt = 21 ∨ xs0.toInt = 22 ∨ xs0.toInt = 23 ∨ xs0.toInt = 24 ∨ xs0.toInt = 25 := by omega
  rcases g with g | g | g | g | g | g | g | g | g | g | g
  · rw [g]; exact h0 (Int32.toInt_inj.mp (g.trans (by decide)))
  · rw [g]; exact h1 (Int32.toInt_inj.mp (g.trans (by decide)))
  · rw [g]; exact h2 (Int32.toInt_inj.mp (g.trans (by decide)))
  · rw [g]; exact h3 (Int32.toInt_inj.mp (g.trans (by decide)))
  · rw [g]; exact h4 (Int32.toInt_inj.mp (g.trans (by decide)))
  · rw [g]; exact h5 (Int32.toInt_inj.mp (g.trans (by decide)))
  · rw [g]; exact h6 (Int32.toInt_inj.mp (g.trans (by decide)))
  · rw [g]; exact h7 (Int32.toInt_inj.mp (g.trans (by decide)))
  · rw [g]; exact h8 (Int32.toInt_inj.mp (g.trans (by decide)))
  · rw [g]; exact h9 (Int32.toInt_inj.mp (g.trans (by decide)))
  · rw [g]; exact h10 (Int32.toInt_inj.mp (g.trans (by decide)))
  )
set_option maxRecDepth 100000 in
theorem b9_2 {C : j2_C} (hC : j2_up1 C) {Q : j2_P} {o0 : Nat} {x1 : Int32} {x2 : Int32} {x3 : Int32} {g0 : Nat} {p1 : j2_W} {p2 : j2_W} {p3 : j2_W} {p4 : j2_W} {p5 : j2_W} {p6 : j2_W} {p7 : j2_W} {p8 : j2_W} {p9 : j2_W} {I : Nat → Nat → Int32} {A : Nat → Nat → Nat → Int32}
  (h : C 12 [vO 1 o0, vI ((nI 4) + x2)] (I, [vO 3 g0, p1, p2, p3, p4, p5, p6, p7, p8, p9], A) (fun r σ1 => T9 C Q 7 [vO 1 o0, vI x1, vI x2, vI x3] (r.toList ++ []) σ1)) :
  T9 C Q 2 [vO 1 o0, vI x1, vI x2, vI x3] [] (I, [vO 3 g0, p1, p2, p3, p4, p5, p6, p7, p8, p9], A) := j2_T.go hC [0, 1, 2, 7, 8, 13, 19, 20, 21, 26, 32, 33, 34, 40, 41, 42, 48, 49, 50, 53, 58, 59, 62, 65, 66] 400 h
set_option maxRecDepth 100000 in
theorem b9_7 {C : j2_C} (hC : j2_up1 C) {Q : j2_P} {o0 : Nat} {x1 : Int32} {x2 : Int32} {x3 : Int32} {g0 : Nat} {p1 : j2_W} {p2 : j2_W} {p3 : j2_W} {p4 : j2_W} {p5 : j2_W} {p6 : j2_W} {p7 : j2_W} {p8 : j2_W} {p9 : j2_W} {I : Nat → Nat → Int32} {A : Nat → Nat → Nat → Int32}
  (h : T9 C Q 66 [vO 1 o0, vI x1, vI x2, vI x3] [] (I, [vO 3 g0, p1, p2, p3, p4, p5, p6, p7, p8, p9], A)) :
  T9 C Q 7 [vO 1 o0, vI x1, vI x2, vI x3] [] (I, [vO 3 g0, p1, p2, p3, p4, p5, p6, p7, p8, p9], A) := j2_T.go hC [0, 1, 2, 7, 8, 13, 19, 20, 21, 26, 32, 33, 34, 40, 41, 42, 48, 49, 50, 53, 58, 59, 62, 65, 66] 400 h
set_option maxRecDepth 100000 in
theorem b9_8 {C : j2_C} (hC : j2_up1 C) {Q : j2_P} {o0 : Nat} {x1 : Int32} {x2 : Int32} {x3 : Int32} {g0 : Nat} {p1 : j2_W} {p2 : j2_W} {p3 : j2_W} {p4 : j2_W} {p5 : j2_W} {p6 : j2_W} {p7 : j2_W} {p8 : j2_W} {p9 : j2_W} {I : Nat → Nat → Int32} {A : Nat → Nat → Nat → Int32}
  (h : C 11 [vO 1 o0, vI ((nI 4) + x2)] (I, [vO 3 g0, p1, p2, p3, p4, p5, p6, p7, p8, p9], A) (fun r σ1 => T9 C Q 13 [vO 1 o0, vI x1, vI x2, vI x3] (r.toList ++ []) σ1)) :
  T9 C Q 8 [vO 1 o0, vI x1, vI x2, vI x3] [] (I, [vO 3 g0, p1, p2, p3, p4, p5, p6, p7, p8, p9], A) := j2_T.go hC [0, 1, 2, 7, 8, 13, 19, 20, 21, 26, 32, 33, 34, 40, 41, 42, 48, 49, 50, 53, 58, 59, 62, 65, 66] 400 h
set_option maxRecDepth 100000 in
theorem b9_13 {C : j2_C} (hC : j2_up1 C) {Q : j2_P} {o0 : Nat} {x1 : Int32} {x2 : Int32} {x3 : Int32} {g0 : Nat} {p1 : j2_W} {p2 : j2_W} {p3 : j2_W} {p4 : j2_W} {p5 : j2_W} {p6 : j2_W} {p7 : j2_W} {p8 : j2_W} {p9 : j2_W} {I : Nat → Nat → Int32} {A : Nat → Nat → Nat → Int32}
  (h : C 52 [vO 3 g0, vI x2, vI x3] (I, [vO 3 g0, p1, p2, p3, p4, p5, p6, p7, p8, p9], A) (fun r σ1 => T9 C Q 19 [vO 1 o0, vI x1, vI x2, vI x3] (r.toList ++ [vO 1 o0]) σ1)) :
  T9 C Q 13 [vO 1 o0, vI x1, vI x2, vI x3] [] (I, [vO 3 g0, p1, p2, p3, p4, p5, p6, p7, p8, p9], A) := j2_T.go hC [0, 1, 2, 7, 8, 13, 19, 20, 21, 26, 32, 33, 34, 40, 41, 42, 48, 49, 50, 53, 58, 59, 62, 65, 66] 400 h
set_option maxRecDepth 100000 in
theorem b9_19 {C : j2_C} (hC : j2_up1 C) {Q : j2_P} {o0 : Nat} {x1 : Int32} {x2 : Int32} {x3 : Int32} {xs0 : Int32} {os1 : Nat} {g0 : Nat} {p1 : j2_W} {p2 : j2_W} {p3 : j2_W} {p4 : j2_W} {p5 : j2_W} {p6 : j2_W} {p7 : j2_W} {p8 : j2_W} {p9 : j2_W} {I : Nat → Nat → Int32} {A : Nat → Nat → Nat → Int32}
  (h : C 12 [vO 1 os1, vI xs0] (I, [vO 3 g0, p1, p2, p3, p4, p5, p6, p7, p8, p9], A) (fun r σ1 => T9 C Q 20 [vO 1 o0, vI x1, vI x2, vI x3] (r.toList ++ []) σ1)) :
  T9 C Q 19 [vO 1 o0, vI x1, vI x2, vI x3] [vI xs0, vO 1 os1] (I, [vO 3 g0, p1, p2, p3, p4, p5, p6, p7, p8, p9], A) := j2_T.go hC [0, 1, 2, 7, 8, 13, 19, 20, 21, 26, 32, 33, 34, 40, 41, 42, 48, 49, 50, 53, 58, 59, 62, 65, 66] 400 h
set_option maxRecDepth 100000 in
theorem b9_20 {C : j2_C} (hC : j2_up1 C) {Q : j2_P} {o0 : Nat} {x1 : Int32} {x2 : Int32} {x3 : Int32} {g0 : Nat} {p1 : j2_W} {p2 : j2_W} {p3 : j2_W} {p4 : j2_W} {p5 : j2_W} {p6 : j2_W} {p7 : j2_W} {p8 : j2_W} {p9 : j2_W} {I : Nat → Nat → Int32} {A : Nat → Nat → Nat → Int32}
  (h : T9 C Q 66 [vO 1 o0, vI x1, vI x2, vI x3] [] (I, [vO 3 g0, p1, p2, p3, p4, p5, p6, p7, p8, p9], A)) :
  T9 C Q 20 [vO 1 o0, vI x1, vI x2, vI x3] [] (I, [vO 3 g0, p1, p2, p3, p4, p5, p6, p7, p8, p9], A) := j2_T.go hC [0, 1, 2, 7, 8, 13, 19, 20, 21, 26, 32, 33, 34, 40, 41, 42, 48, 49, 50, 53, 58, 59, 62, 65, 66] 400 h
set_option maxRecDepth 100000 in
theorem b9_21 {C : j2_C} (hC : j2_up1 C) {Q : j2_P} {o0 : Nat} {x1 : Int32} {x2 : Int32} {x3 : Int32} {g0 : Nat} {p1 : j2_W} {p2 : j2_W} {p3 : j2_W} {p4 : j2_W} {p5 : j2_W} {p6 : j2_W} {p7 : j2_W} {p8 : j2_W} {p9 : j2_W} {I : Nat → Nat → Int32} {A : Nat → Nat → Nat → Int32}
  (h : C 11 [vO 1 o0, vI ((nI 4) + x2)] (I, [vO 3 g0, p1, p2, p3, p4, p5, p6, p7, p8, p9], A) (fun r σ1 => T9 C Q 26 [vO 1 o0, vI x1, vI x2, vI x3] (r.toList ++ []) σ1)) :
  T9 C Q 21 [vO 1 o0, vI x1, vI x2, vI x3] [] (I, [vO 3 g0, p1, p2, p3, p4, p5, p6, p7, p8, p9], A) := j2_T.go hC [0, 1, 2, 7, 8, 13, 19, 20, 21, 26, 32, 33, 34, 40, 41, 42, 48, 49, 50, 53, 58, 59, 62, 65, 66] 400 h
set_option maxRecDepth 100000 in
theorem b9_26 {C : j2_C} (hC : j2_up1 C) {Q : j2_P} {o0 : Nat} {x1 : Int32} {x2 : Int32} {x3 : Int32} {g0 : Nat} {p1 : j2_W} {p2 : j2_W} {p3 : j2_W} {p4 : j2_W} {p5 : j2_W} {p6 : j2_W} {p7 : j2_W} {p8 : j2_W} {p9 : j2_W} {I : Nat → Nat → Int32} {A : Nat → Nat → Nat → Int32}
  (h : C 52 [vO 3 g0, vI x2, vI x3] (I, [vO 3 g0, p1, p2, p3, p4, p5, p6, p7, p8, p9], A) (fun r σ1 => T9 C Q 32 [vO 1 o0, vI x1, vI x2, vI x3] (r.toList ++ [vO 1 o0]) σ1)) :
  T9 C Q 26 [vO 1 o0, vI x1, vI x2, vI x3] [] (I, [vO 3 g0, p1, p2, p3, p4, p5, p6, p7, p8, p9], A) := j2_T.go hC [0, 1, 2, 7, 8, 13, 19, 20, 21, 26, 32, 33, 34, 40, 41, 42, 48, 49, 50, 53, 58, 59, 62, 65, 66] 400 h
set_option maxRecDepth 100000 in
theorem b9_32 {C : j2_C} (hC : j2_up1 C) {Q : j2_P} {o0 : Nat} {x1 : Int32} {x2 : Int32} {x3 : Int32} {xs0 : Int32} {os1 : Nat} {g0 : Nat} {p1 : j2_W} {p2 : j2_W} {p3 : j2_W} {p4 : j2_W} {p5 : j2_W} {p6 : j2_W} {p7 : j2_W} {p8 : j2_W} {p9 : j2_W} {I : Nat → Nat → Int32} {A : Nat → Nat → Nat → Int32}
  (h : C 11 [vO 1 os1, vI xs0] (I, [vO 3 g0, p1, p2, p3, p4, p5, p6, p7, p8, p9], A) (fun r σ1 => T9 C Q 33 [vO 1 o0, vI x1, vI x2, vI x3] (r.toList ++ []) σ1)) :
  T9 C Q 32 [vO 1 o0, vI x1, vI x2, vI x3] [vI xs0, vO 1 os1] (I, [vO 3 g0, p1, p2, p3, p4, p5, p6, p7, p8, p9], A) := j2_T.go hC [0, 1, 2, 7, 8, 13, 19, 20, 21, 26, 32, 33, 34, 40, 41, 42, 48, 49, 50, 53, 58, 59, 62, 65, 66] 400 h
set_option maxRecDepth 100000 in
theorem b9_33 {C : j2_C} (hC : j2_up1 C) {Q : j2_P} {o0 : Nat} {x1 : Int32} {x2 : Int32} {x3 : Int32} {g0 : Nat} {p1 : j2_W} {p2 : j2_W} {p3 : j2_W} {p4 : j2_W} {p5 : j2_W} {p6 : j2_W} {p7 : j2_W} {p8 : j2_W} {p9 : j2_W} {I : Nat → Nat → Int32} {A : Nat → Nat → Nat → Int32}
  (h : T9 C Q 66 [vO 1 o0, vI x1, vI x2, vI x3] [] (I, [vO 3 g0, p1, p2, p3, p4, p5, p6, p7, p8, p9], A)) :
  T9 C Q 33 [vO 1 o0, vI x1, vI x2, vI x3] [] (I, [vO 3 g0, p1, p2, p3, p4, p5, p6, p7, p8, p9], A) := j2_T.go hC [0, 1, 2, 7, 8, 13, 19, 20, 21, 26, 32, 33, 34, 40, 41, 42, 48, 49, 50, 53, 58, 59, 62, 65, 66] 400 h
set_option maxRecDepth 100000 in
theorem b9_34 {C : j2_C} (hC : j2_up1 C) {Q : j2_P} {o0 : Nat} {x1 : Int32} {x2 : Int32} {x3 : Int32} {g0 : Nat} {p1 : j2_W} {p2 : j2_W} {p3 : j2_W} {p4 : j2_W} {p5 : j2_W} {p6 : j2_W} {p7 : j2_W} {p8 : j2_W} {p9 : j2_W} {I : Nat → Nat → Int32} {A : Nat → Nat → Nat → Int32}
  (h : C 52 [vO 3 g0, vI x2, vI x3] (I, [vO 3 g0, p1, p2, p3, p4, p5, p6, p7, p8, p9], A) (fun r σ1 => T9 C Q 40 [vO 1 o0, vI x1, vI x2, vI x3] (r.toList ++ [vO 1 o0]) σ1)) :
  T9 C Q 34 [vO 1 o0, vI x1, vI x2, vI x3] [] (I, [vO 3 g0, p1, p2, p3, p4, p5, p6, p7, p8, p9], A) := j2_T.go hC [0, 1, 2, 7, 8, 13, 19, 20, 21, 26, 32, 33, 34, 40, 41, 42, 48, 49, 50, 53, 58, 59, 62, 65, 66] 400 h
set_option maxRecDepth 100000 in
theorem b9_40 {C : j2_C} (hC : j2_up1 C) {Q : j2_P} {o0 : Nat} {x1 : Int32} {x2 : Int32} {x3 : Int32} {xs0 : Int32} {os1 : Nat} {g0 : Nat} {p1 : j2_W} {p2 : j2_W} {p3 : j2_W} {p4 : j2_W} {p5 : j2_W} {p6 : j2_W} {p7 : j2_W} {p8 : j2_W} {p9 : j2_W} {I : Nat → Nat → Int32} {A : Nat → Nat → Nat → Int32}
  (h : C 12 [vO 1 os1, vI xs0] (I, [vO 3 g0, p1, p2, p3, p4, p5, p6, p7, p8, p9], A) (fun r σ1 => T9 C Q 41 [vO 1 o0, vI x1, vI x2, vI x3] (r.toList ++ []) σ1)) :
  T9 C Q 40 [vO 1 o0, vI x1, vI x2, vI x3] [vI xs0, vO 1 os1] (I, [vO 3 g0, p1, p2, p3, p4, p5, p6, p7, p8, p9], A) := j2_T.go hC [0, 1, 2, 7, 8, 13, 19, 20, 21, 26, 32, 33, 34, 40, 41, 42, 48, 49, 50, 53, 58, 59, 62, 65, 66] 400 h
set_option maxRecDepth 100000 in
theorem b9_41 {C : j2_C} (hC : j2_up1 C) {Q : j2_P} {o0 : Nat} {x1 : Int32} {x2 : Int32} {x3 : Int32} {g0 : Nat} {p1 : j2_W} {p2 : j2_W} {p3 : j2_W} {p4 : j2_W} {p5 : j2_W} {p6 : j2_W} {p7 : j2_W} {p8 : j2_W} {p9 : j2_W} {I : Nat → Nat → Int32} {A : Nat → Nat → Nat → Int32}
  (h : T9 C Q 66 [vO 1 o0, vI x1, vI x2, vI x3] [] (I, [vO 3 g0, p1, p2, p3, p4, p5, p6, p7, p8, p9], A)) :
  T9 C Q 41 [vO 1 o0, vI x1, vI x2, vI x3] [] (I, [vO 3 g0, p1, p2, p3, p4, p5, p6, p7, p8, p9], A) := j2_T.go hC [0, 1, 2, 7, 8, 13, 19, 20, 21, 26, 32, 33, 34, 40, 41, 42, 48, 49, 50, 53, 58, 59, 62, 65, 66] 400 h
set_option maxRecDepth 100000 in
theorem b9_42 {C : j2_C} (hC : j2_up1 C) {Q : j2_P} {o0 : Nat} {x1 : Int32} {x2 : Int32} {x3 : Int32} {g0 : Nat} {p1 : j2_W} {p2 : j2_W} {p3 : j2_W} {p4 : j2_W} {p5 : j2_W} {p6 : j2_W} {p7 : j2_W} {p8 : j2_W} {p9 : j2_W} {I : Nat → Nat → Int32} {A : Nat → Nat → Nat → Int32}
  (h : C 52 [vO 3 g0, vI x2, vI x3] (I, [vO 3 g0, p1, p2, p3, p4, p5, p6, p7, p8, p9], A) (fun r σ1 => T9 C Q 48 [vO 1 o0, vI x1, vI x2, vI x3] (r.toList ++ [vO 1 o0]) σ1)) :
  T9 C Q 42 [vO 1 o0, vI x1, vI x2, vI x3] [] (I, [vO 3 g0, p1, p2, p3, p4, p5, p6, p7, p8, p9], A) := j2_T.go hC [0, 1, 2, 7, 8, 13, 19, 20, 21, 26, 32, 33, 34, 40, 41, 42, 48, 49, 50, 53, 58, 59, 62, 65, 66] 400 h
set_option maxRecDepth 100000 in
theorem b9_48 {C : j2_C} (hC : j2_up1 C) {Q : j2_P} {o0 : Nat} {x1 : Int32} {x2 : Int32} {x3 : Int32} {xs0 : Int32} {os1 : Nat} {g0 : Nat} {p1 : j2_W} {p2 : j2_W} {p3 : j2_W} {p4 : j2_W} {p5 : j2_W} {p6 : j2_W} {p7 : j2_W} {p8 : j2_W} {p9 : j2_W} {I : Nat → Nat → Int32} {A : Nat → Nat → Nat → Int32}
  (h : C 11 [vO 1 os1, vI xs0] (I, [vO 3 g0, p1, p2, p3, p4, p5, p6, p7, p8, p9], A) (fun r σ1 => T9 C Q 49 [vO 1 o0, vI x1, vI x2, vI x3] (r.toList ++ []) σ1)) :
  T9 C Q 48 [vO 1 o0, vI x1, vI x2, vI x3] [vI xs0, vO 1 os1] (I, [vO 3 g0, p1, p2, p3, p4, p5, p6, p7, p8, p9], A) := j2_T.go hC [0, 1, 2, 7, 8, 13, 19, 20, 21, 26, 32, 33, 34, 40, 41, 42, 48, 49, 50, 53, 58, 59, 62, 65, 66] 400 h
set_option maxRecDepth 100000 in
theorem b9_49 {C : j2_C} (hC : j2_up1 C) {Q : j2_P} {o0 : Nat} {x1 : Int32} {x2 : Int32} {x3 : Int32} {g0 : Nat} {p1 : j2_W} {p2 : j2_W} {p3 : j2_W} {p4 : j2_W} {p5 : j2_W} {p6 : j2_W} {p7 : j2_W} {p8 : j2_W} {p9 : j2_W} {I : Nat → Nat → Int32} {A : Nat → Nat → Nat → Int32}
  (h : T9 C Q 66 [vO 1 o0, vI x1, vI x2, vI x3] [] (I, [vO 3 g0, p1, p2, p3, p4, p5, p6, p7, p8, p9], A)) :
  T9 C Q 49 [vO 1 o0, vI x1, vI x2, vI x3] [] (I, [vO 3 g0, p1, p2, p3, p4, p5, p6, p7, p8, p9], A) := j2_T.go hC [0, 1, 2, 7, 8, 13, 19, 20, 21, 26, 32, 33, 34, 40, 41, 42, 48, 49, 50, 53, 58, 59, 62, 65, 66] 400 h
set_option maxRecDepth 100000 in
theorem b9_50 {C : j2_C} (hC : j2_up1 C) {Q : j2_P} {o0 : Nat} {x1 : Int32} {x2 : Int32} {x3 : Int32} {g0 : Nat} {p1 : j2_W} {p2 : j2_W} {p3 : j2_W} {p4 : j2_W} {p5 : j2_W} {p6 : j2_W} {p7 : j2_W} {p8 : j2_W} {p9 : j2_W} {I : Nat → Nat → Int32} {A : Nat → Nat → Nat → Int32}
  (h : C 11 [vO 1 o0, vI (-2 : Int32)] (I, [vO 3 g0, p1, p2, p3, p4, p5, p6, p7, p8, p9], A) (fun r σ1 => T9 C Q 53 [vO 1 o0, vI x1, vI x2, vI x3] (r.toList ++ []) σ1)) :
  T9 C Q 50 [vO 1 o0, vI x1, vI x2, vI x3] [] (I, [vO 3 g0, p1, p2, p3, p4, p5, p6, p7, p8, p9], A) := j2_T.go hC [0, 1, 2, 7, 8, 13, 19, 20, 21, 26, 32, 33, 34, 40, 41, 42, 48, 49, 50, 53, 58, 59, 62, 65, 66] 400 h
set_option maxRecDepth 100000 in
theorem b9_53 {C : j2_C} (hC : j2_up1 C) {Q : j2_P} {o0 : Nat} {x1 : Int32} {x2 : Int32} {x3 : Int32} {g0 : Nat} {p1 : j2_W} {p2 : j2_W} {p3 : j2_W} {p4 : j2_W} {p5 : j2_W} {p6 : j2_W} {p7 : j2_W} {p8 : j2_W} {p9 : j2_W} {I : Nat → Nat → Int32} {A : Nat → Nat → Nat → Int32}
  (h : C 12 [vO 1 o0, vI ((nI 4) + x2)] (I, [vO 3 g0, p1, p2, p3, p4, p5, p6, p7, p8, p9], A) (fun r σ1 => T9 C Q 58 [vO 1 o0, vI x1, vI x2, vI x3] (r.toList ++ []) σ1)) :
  T9 C Q 53 [vO 1 o0, vI x1, vI x2, vI x3] [] (I, [vO 3 g0, p1, p2, p3, p4, p5, p6, p7, p8, p9], A) := j2_T.go hC [0, 1, 2, 7, 8, 13, 19, 20, 21, 26, 32, 33, 34, 40, 41, 42, 48, 49, 50, 53, 58, 59, 62, 65, 66] 400 h
set_option maxRecDepth 100000 in
theorem b9_58 {C : j2_C} (hC : j2_up1 C) {Q : j2_P} {o0 : Nat} {x1 : Int32} {x2 : Int32} {x3 : Int32} {g0 : Nat} {p1 : j2_W} {p2 : j2_W} {p3 : j2_W} {p4 : j2_W} {p5 : j2_W} {p6 : j2_W} {p7 : j2_W} {p8 : j2_W} {p9 : j2_W} {I : Nat → Nat → Int32} {A : Nat → Nat → Nat → Int32}
  (h : T9 C Q 66 [vO 1 o0, vI x1, vI x2, vI x3] [] (I, [vO 3 g0, p1, p2, p3, p4, p5, p6, p7, p8, p9], A)) :
  T9 C Q 58 [vO 1 o0, vI x1, vI x2, vI x3] [] (I, [vO 3 g0, p1, p2, p3, p4, p5, p6, p7, p8, p9], A) := j2_T.go hC [0, 1, 2, 7, 8, 13, 19, 20, 21, 26, 32, 33, 34, 40, 41, 42, 48, 49, 50, 53, 58, 59, 62, 65, 66] 400 h
set_option maxRecDepth 100000 in
theorem b9_59 {C : j2_C} (hC : j2_up1 C) {Q : j2_P} {o0 : Nat} {x1 : Int32} {x2 : Int32} {x3 : Int32} {g0 : Nat} {p1 : j2_W} {p2 : j2_W} {p3 : j2_W} {p4 : j2_W} {p5 : j2_W} {p6 : j2_W} {p7 : j2_W} {p8 : j2_W} {p9 : j2_W} {I : Nat → Nat → Int32} {A : Nat → Nat → Nat → Int32}
  (h : C 11 [vO 1 o0, vI (-2 : Int32)] (I, [vO 3 g0, p1, p2, p3, p4, p5, p6, p7, p8, p9], A) (fun r σ1 => T9 C Q 62 [vO 1 o0, vI x1, vI x2, vI x3] (r.toList ++ []) σ1)) :
  T9 C Q 59 [vO 1 o0, vI x1, vI x2, vI x3] [] (I, [vO 3 g0, p1, p2, p3, p4, p5, p6, p7, p8, p9], A) := j2_T.go hC [0, 1, 2, 7, 8, 13, 19, 20, 21, 26, 32, 33, 34, 40, 41, 42, 48, 49, 50, 53, 58, 59, 62, 65, 66] 400 h
set_option maxRecDepth 100000 in
theorem b9_62 {C : j2_C} (hC : j2_up1 C) {Q : j2_P} {o0 : Nat} {x1 : Int32} {x2 : Int32} {x3 : Int32} {g0 : Nat} {p1 : j2_W} {p2 : j2_W} {p3 : j2_W} {p4 : j2_W} {p5 : j2_W} {p6 : j2_W} {p7 : j2_W} {p8 : j2_W} {p9 : j2_W} {I : Nat → Nat → Int32} {A : Nat → Nat → Nat → Int32}
  (h : C 12 [vO 1 o0, vI (nI 1)] (I, [vO 3 g0, p1, p2, p3, p4, p5, p6, p7, p8, p9], A) (fun r σ1 => T9 C Q 65 [vO 1 o0, vI x1, vI x2, vI x3] (r.toList ++ []) σ1)) :
  T9 C Q 62 [vO 1 o0, vI x1, vI x2, vI x3] [] (I, [vO 3 g0, p1, p2, p3, p4, p5, p6, p7, p8, p9], A) := j2_T.go hC [0, 1, 2, 7, 8, 13, 19, 20, 21, 26, 32, 33, 34, 40, 41, 42, 48, 49, 50, 53, 58, 59, 62, 65, 66] 400 h
set_option maxRecDepth 100000 in
theorem b9_65 {C : j2_C} (hC : j2_up1 C) {Q : j2_P} {o0 : Nat} {x1 : Int32} {x2 : Int32} {x3 : Int32} {g0 : Nat} {p1 : j2_W} {p2 : j2_W} {p3 : j2_W} {p4 : j2_W} {p5 : j2_W} {p6 : j2_W} {p7 : j2_W} {p8 : j2_W} {p9 : j2_W} {I : Nat → Nat → Int32} {A : Nat → Nat → Nat → Int32}
  (h : T9 C Q 66 [vO 1 o0, vI x1, vI x2, vI x3] [] (I, [vO 3 g0, p1, p2, p3, p4, p5, p6, p7, p8, p9], A)) :
  T9 C Q 65 [vO 1 o0, vI x1, vI x2, vI x3] [] (I, [vO 3 g0, p1, p2, p3, p4, p5, p6, p7, p8, p9], A) := j2_T.go hC [0, 1, 2, 7, 8, 13, 19, 20, 21, 26, 32, 33, 34, 40, 41, 42, 48, 49, 50, 53, 58, 59, 62, 65, 66] 400 h
set_option maxRecDepth 100000 in
theorem b9_66 {C : j2_C} (hC : j2_up1 C) {Q : j2_P} {o0 : Nat} {x1 : Int32} {x2 : Int32} {x3 : Int32} {g0 : Nat} {p1 : j2_W} {p2 : j2_W} {p3 : j2_W} {p4 : j2_W} {p5 : j2_W} {p6 : j2_W} {p7 : j2_W} {p8 : j2_W} {p9 : j2_W} {I : Nat → Nat → Int32} {A : Nat → Nat → Nat → Int32}
  (h : ((none : Option FieldType) = none ∧ Q none (I, [vO 3 g0, p1, p2, p3, p4, p5, p6, p7, p8, p9], A))) :
  T9 C Q 66 [vO 1 o0, vI x1, vI x2, vI x3] [] (I, [vO 3 g0, p1, p2, p3, p4, p5, p6, p7, p8, p9], A) := j2_T.go hC [0, 1, 2, 7, 8, 13, 19, 20, 21, 26, 32, 33, 34, 40, 41, 42, 48, 49, 50, 53, 58, 59, 62, 65, 66] 400 h
abbrev T10 (C : j2_C) (Q : j2_P) : j2_K := j2_T C jc_X1_askOfCall none Q
set_option maxRecDepth 100000 in
theorem b10_0 {C : j2_C} (hC : j2_up1 C) {Q : j2_P} {o0 : Nat} {x1 : Int32} {x2 : Int32} {g0 : Nat} {p1 : j2_W} {p2 : j2_W} {p3 : j2_W} {p4 : j2_W} {p5 : j2_W} {p6 : j2_W} {p7 : j2_W} {p8 : j2_W} {p9 : j2_W} {I : Nat → Nat → Int32} {A : Nat → Nat → Nat → Int32}
  (h : C 51 [vO 3 g0, vI x2] (I, [vO 3 g0, p1, p2, p3, p4, p5, p6, p7, p8, p9], A) (fun r σ1 => T10 C Q 4 [vO 1 o0, vI x1, vI x2, vM 2] (r.toList ++ []) σ1)) :
  T10 C Q 0 [vO 1 o0, vI x1, vI x2, vM 2] [] (I, [vO 3 g0, p1, p2, p3, p4, p5, p6, p7, p8, p9], A) := j2_T.go hC [0, 4, 11, 13, 26, 27, 40, 41] 400 h
set_option maxRecDepth 100000 in
theorem b10_4 {C : j2_C} (hC : j2_up1 C) {Q : j2_P} {o0 : Nat} {x1 : Int32} {x2 : Int32} {xs0 : Int32} {g0 : Nat} {p1 : j2_W} {p2 : j2_W} {p3 : j2_W} {p4 : j2_W} {p5 : j2_W} {p6 : j2_W} {p7 : j2_W} {p8 : j2_W} {p9 : j2_W} {I : Nat → Nat → Int32} {A : Nat → Nat → Nat → Int32}
  (h : ((¬ xs0 = (nI 1) → T10 C Q 11 [vO 1 o0, vI x1, vI x2, vM 2] [] (I, [vO 3 g0, p1, p2, p3, p4, p5, p6, p7, p8, p9], A)) ∧ (¬ (¬ xs0 = (nI 1)) → C 11 [vO 1 o0, vI ((nI 4) + x1)] (I, [vO 3 g0, p1, p2, p3, p4, p5, p6, p7, p8, p9], A) (fun r σ1 => T10 C Q 11 [vO 1 o0, vI x1, vI x2, vM 2] (r.toList ++ []) σ1)))) :
  T10 C Q 4 [vO 1 o0, vI x1, vI x2, vM 2] [vI xs0] (I, [vO 3 g0, p1, p2, p3, p4, p5, p6, p7, p8, p9], A) := j2_T.go hC [0, 4, 11, 13, 26, 27, 40, 41] 400 h
set_option maxRecDepth 100000 in
theorem b10_11 {C : j2_C} (hC : j2_up1 C) {Q : j2_P} {o0 : Nat} {x1 : Int32} {x2 : Int32} {g0 : Nat} {p1 : j2_W} {p2 : j2_W} {p3 : j2_W} {p4 : j2_W} {p5 : j2_W} {p6 : j2_W} {p7 : j2_W} {p8 : j2_W} {p9 : j2_W} {I : Nat → Nat → Int32} {A : Nat → Nat → Nat → Int32}
  (h : T10 C Q 13 [vO 1 o0, vI x1, vI x2, vI (nI 0)] [] (I, [vO 3 g0, p1, p2, p3, p4, p5, p6, p7, p8, p9], A)) :
  T10 C Q 11 [vO 1 o0, vI x1, vI x2, vM 2] [] (I, [vO 3 g0, p1, p2, p3, p4, p5, p6, p7, p8, p9], A) := j2_T.go hC [0, 4, 11, 13, 26, 27, 40, 41] 400 h
set_option maxRecDepth 100000 in
theorem b10_13 {C : j2_C} (hC : j2_up1 C) {Q : j2_P} {o0 : Nat} {x1 : Int32} {x2 : Int32} {x3 : Int32} {g0 : Nat} {p1 : j2_W} {p2 : j2_W} {p3 : j2_W} {p4 : j2_W} {p5 : j2_W} {p6 : j2_W} {p7 : j2_W} {p8 : j2_W} {p9 : j2_W} {I : Nat → Nat → Int32} {A : Nat → Nat → Nat → Int32}
  (h : (vp_in x2 80 ∧ (((A 3015 g0 x2.toNatClampNeg) ≤ x3 → (vp_in x2 80 ∧ (((A 3014 g0 x2.toNatClampNeg) = 0 → T10 C Q 41 [vO 1 o0, vI x1, vI x2, vI x3] [] (I, [vO 3 g0, p1, p2, p3, p4, p5, p6, p7, p8, p9], A)) ∧ (¬ ((A 3014 g0 x2.toNatClampNeg) = 0) → C 54 [vO 3 g0, vI x2] (I, [vO 3 g0, p1, p2, p3, p4, p5, p6, p7, p8, p9], A) (fun r σ1 => T10 C Q 40 [vO 1 o0, vI x1, vI x2, vI x3] (r.toList ++ [vO 1 o0]) σ1))))) ∧ (¬ ((A 3015 g0 x2.toNatClampNeg) ≤ x3) → C 53 [vO 3 g0, vI x2, vI x3] (I, [vO 3 g0, p1, p2, p3, p4, p5, p6, p7, p8, p9], A) (fun r σ1 => T10 C Q 26 [vO 1 o0, vI x1, vI x2, vI x3] (r.toList ++ [vO 1 o0]) σ1))))) :
  T10 C Q 13 [vO 1 o0, vI x1, vI x2, vI x3] [] (I, [vO 3 g0, p1, p2, p3, p4, p5, p6, p7, p8, p9], A) := j2_T.go hC [0, 4, 11, 13, 26, 27, 40, 41] 400 h
set_option maxRecDepth 100000 in
theorem b10_26 {C : j2_C} (hC : j2_up1 C) {Q : j2_P} {o0 : Nat} {x1 : Int32} {x2 : Int32} {x3 : Int32} {xs0 : Int32} {os1 : Nat} {g0 : Nat} {p1 : j2_W} {p2 : j2_W} {p3 : j2_W} {p4 : j2_W} {p5 : j2_W} {p6 : j2_W} {p7 : j2_W} {p8 : j2_W} {p9 : j2_W} {I : Nat → Nat → Int32} {A : Nat → Nat → Nat → Int32}
  (h : C 11 [vO 1 os1, vI xs0] (I, [vO 3 g0, p1, p2, p3, p4, p5, p6, p7, p8, p9], A) (fun r σ1 => T10 C Q 27 [vO 1 o0, vI x1, vI x2, vI x3] (r.toList ++ []) σ1)) :
  T10 C Q 26 [vO 1 o0, vI x1, vI x2, vI x3] [vI xs0, vO 1 os1] (I, [vO 3 g0, p1, p2, p3, p4, p5, p6, p7, p8, p9], A) := j2_T.go hC [0, 4, 11, 13, 26, 27, 40, 41] 400 h
set_option maxRecDepth 100000 in
theorem b10_27 {C : j2_C} (hC : j2_up1 C) {Q : j2_P} {o0 : Nat} {x1 : Int32} {x2 : Int32} {x3 : Int32} {g0 : Nat} {p1 : j2_W} {p2 : j2_W} {p3 : j2_W} {p4 : j2_W} {p5 : j2_W} {p6 : j2_W} {p7 : j2_W} {p8 : j2_W} {p9 : j2_W} {I : Nat → Nat → Int32} {A : Nat → Nat → Nat → Int32}
  (h : T10 C Q 13 [vO 1 o0, vI x1, vI x2, vI (x3 + (nI 1))] [] (I, [vO 3 g0, p1, p2, p3, p4, p5, p6, p7, p8, p9], A)) :
  T10 C Q 27 [vO 1 o0, vI x1, vI x2, vI x3] [] (I, [vO 3 g0, p1, p2, p3, p4, p5, p6, p7, p8, p9], A) := j2_T.go hC [0, 4, 11, 13, 26, 27, 40, 41] 400 h
set_option maxRecDepth 100000 in
theorem b10_40 {C : j2_C} (hC : j2_up1 C) {Q : j2_P} {o0 : Nat} {x1 : Int32} {x2 : Int32} {x3 : Int32} {xs0 : Int32} {os1 : Nat} {g0 : Nat} {p1 : j2_W} {p2 : j2_W} {p3 : j2_W} {p4 : j2_W} {p5 : j2_W} {p6 : j2_W} {p7 : j2_W} {p8 : j2_W} {p9 : j2_W} {I : Nat → Nat → Int32} {A : Nat → Nat → Nat → Int32}
  (h : C 12 [vO 1 os1, vI xs0] (I, [vO 3 g0, p1, p2, p3, p4, p5, p6, p7, p8, p9], A) (fun r σ1 => T10 C Q 41 [vO 1 o0, vI x1, vI x2, vI x3] (r.toList ++ []) σ1)) :
  T10 C Q 40 [vO 1 o0, vI x1, vI x2, vI x3] [vI xs0, vO 1 os1] (I, [vO 3 g0, p1, p2, p3, p4, p5, p6, p7, p8, p9], A) := j2_T.go hC [0, 4, 11, 13, 26, 27, 40, 41] 400 h
set_option maxRecDepth 100000 in
theorem b10_41 {C : j2_C} (hC : j2_up1 C) {Q : j2_P} {o0 : Nat} {x1 : Int32} {x2 : Int32} {x3 : Int32} {g0 : Nat} {p1 : j2_W} {p2 : j2_W} {p3 : j2_W} {p4 : j2_W} {p5 : j2_W} {p6 : j2_W} {p7 : j2_W} {p8 : j2_W} {p9 : j2_W} {I : Nat → Nat → Int32} {A : Nat → Nat → Nat → Int32}
  (h : ((none : Option FieldType) = none ∧ Q none (I, [vO 3 g0, p1, p2, p3, p4, p5, p6, p7, p8, p9], A))) :
  T10 C Q 41 [vO 1 o0, vI x1, vI x2, vI x3] [] (I, [vO 3 g0, p1, p2, p3, p4, p5, p6, p7, p8, p9], A) := j2_T.go hC [0, 4, 11, 13, 26, 27, 40, 41] 400 h
abbrev T11 (C : j2_C) (Q : j2_P) : j2_K := j2_T C jc_X1_want none Q
set_option maxRecDepth 100000 in
theorem b11_0 {C : j2_C} (hC : j2_up1 C) {Q : j2_P} {o0 : Nat} {x1 : Int32} {σ : j2_S}
  (h : (((nI 4) ≤ (σ.1 1012 o0) → ((none : Option FieldType) = none ∧ Q none σ)) ∧ (¬ ((nI 4) ≤ (σ.1 1012 o0)) → (vp_in (σ.1 1012 o0) 4 ∧ ((none : Option FieldType) = none ∧ Q none ((j2_up σ.1 1012 o0 ((σ.1 1012 o0) + (nI 1))), σ.2.1, (j2_ast σ.2.2 1011 o0 (σ.1 1012 o0).toNatClampNeg x1))))))) :
  T11 C Q 0 [vO 1 o0, vI x1] [] σ := j2_T.go hC [0] 400 h
abbrev T12 (C : j2_C) (Q : j2_P) : j2_K := j2_T C jc_X1_give none Q
set_option maxRecDepth 100000 in
theorem b12_0 {C : j2_C} (hC : j2_up1 C) {Q : j2_P} {o0 : Nat} {x1 : Int32} {σ : j2_S}
  (h : ((none : Option FieldType) = none ∧ Q none ((j2_up (j2_up σ.1 1013 o0 x1) 1014 o0 (nI 1)), σ.2.1, σ.2.2))) :
  T12 C Q 0 [vO 1 o0, vI x1] [] σ := j2_T.go hC [0] 400 h
abbrev T13 (C : j2_C) (Q : j2_P) : j2_K := j2_T C jc_X1_takeWanted (some .int) Q
set_option maxRecDepth 100000 in
theorem b13_0 {C : j2_C} (hC : j2_up1 C) {Q : j2_P} {o0 : Nat} {x1 : Int32} {σ : j2_S}
  (h : (((σ.1 1012 o0) ≤ (σ.1 1010 o0) → T13 C Q 19 [vO 1 o0, vI x1, vI (((j2_up σ.1 1010 o0 ((σ.1 1010 o0) - (σ.1 1012 o0))) 1012 o0) - (nI 1))] [] ((j2_up σ.1 1010 o0 ((σ.1 1010 o0) - (σ.1 1012 o0))), σ.2.1, σ.2.2)) ∧ (¬ ((σ.1 1012 o0) ≤ (σ.1 1010 o0)) → (True ∧ Q (some (vI (nI 3))) σ)))) :
  T13 C Q 0 [vO 1 o0, vI x1, vM 2] [] σ := j2_T.go hC [0, 19, 34, 47, 53, 67, 68] 400 h
set_option maxRecDepth 100000 in
theorem b13_19 {C : j2_C} (hC : j2_up1 C) {Q : j2_P} {o0 : Nat} {x1 : Int32} {x2 : Int32} {σ : j2_S}
  (h : ((x2 < 0 → ((¬ x1 = (nI 2) → T13 C Q 47 [vO 1 o0, vI x1, vI x2] [] σ) ∧ (¬ (¬ x1 = (nI 2)) → ((¬ (σ.1 1013 o0) = 0 → T13 C Q 47 [vO 1 o0, vI x1, vI x2] [] σ) ∧ (¬ (¬ (σ.1 1013 o0) = 0) → (True ∧ Q (some (vI (nI 4))) σ)))))) ∧ (¬ (x2 < 0) → (vp_in ((σ.1 1010 o0) + x2) 10 ∧ (vp_in x2 4 ∧ C 14 [vO 1 o0, vI (σ.2.2 1008 o0 ((σ.1 1010 o0) + x2).toNatClampNeg), vI (σ.2.2 1011 o0 x2.toNatClampNeg)] σ (fun r σ1 => T13 C Q 34 [vO 1 o0, vI x1, vI x2] (r.toList ++ []) σ1)))))) :
  T13 C Q 19 [vO 1 o0, vI x1, vI x2] [] σ := j2_T.go hC [0, 19, 34, 47, 53, 67, 68] 400 h
set_option maxRecDepth 100000 in
theorem b13_34 {C : j2_C} (hC : j2_up1 C) {Q : j2_P} {o0 : Nat} {x1 : Int32} {x2 : Int32} {xs0 : Int32} {σ : j2_S}
  (h : ((¬ xs0 = 0 → T13 C Q 19 [vO 1 o0, vI x1, vI (x2 + (-1 : Int32))] [] σ) ∧ (¬ (¬ xs0 = 0) → (True ∧ Q (some (vI (nI 4))) σ)))) :
  T13 C Q 34 [vO 1 o0, vI x1, vI x2] [vI xs0] σ := j2_T.go hC [0, 19, 34, 47, 53, 67, 68] 400 h
set_option maxRecDepth 100000 in
theorem b13_47 {C : j2_C} (hC : j2_up1 C) {Q : j2_P} {o0 : Nat} {x1 : Int32} {x2 : Int32} {σ : j2_S}
  (h : ((x1 = (nI 3) → T13 C Q 53 [vO 1 o0, vI x1, vI x2] [] σ) ∧ (¬ (x1 = (nI 3)) → ((¬ x1 = (nI 5) → T13 C Q 68 [vO 1 o0, vI x1, vI x2] [] σ) ∧ (¬ (¬ x1 = (nI 5)) → T13 C Q 53 [vO 1 o0, vI x1, vI x2] [] σ))))) :
  T13 C Q 47 [vO 1 o0, vI x1, vI x2] [] σ := j2_T.go hC [0, 19, 34, 47, 53, 67, 68] 400 h
set_option maxRecDepth 100000 in
theorem b13_53 {C : j2_C} (hC : j2_up1 C) {Q : j2_P} {o0 : Nat} {x1 : Int32} {x2 : Int32} {σ : j2_S}
  (h : (vp_in (σ.1 1010 o0) 10 ∧ ((¬ x1 = (nI 5) → T13 C Q 67 [vO 1 o0, vI x1, vI x2] [vI (nI 0), vO 1 o0] ((j2_up σ.1 1013 o0 (σ.2.2 1008 o0 (σ.1 1010 o0).toNatClampNeg)), σ.2.1, σ.2.2)) ∧ (¬ (¬ x1 = (nI 5)) → T13 C Q 67 [vO 1 o0, vI x1, vI x2] [vI (nI 2), vO 1 o0] ((j2_up σ.1 1013 o0 (σ.2.2 1008 o0 (σ.1 1010 o0).toNatClampNeg)), σ.2.1, σ.2.2))))) :
  T13 C Q 53 [vO 1 o0, vI x1, vI x2] [] σ := j2_T.go hC [0, 19, 34, 47, 53, 67, 68] 400 h
set_option maxRecDepth 100000 in
theorem b13_67 {C : j2_C} (hC : j2_up1 C) {Q : j2_P} {o0 : Nat} {x1 : Int32} {x2 : Int32} {xs0 : Int32} {os1 : Nat} {σ : j2_S}
  (h : T13 C Q 68 [vO 1 o0, vI x1, vI x2] [] ((j2_up σ.1 1014 os1 xs0), σ.2.1, σ.2.2)) :
  T13 C Q 67 [vO 1 o0, vI x1, vI x2] [vI xs0, vO 1 os1] σ := j2_T.go hC [0, 19, 34, 47, 53, 67, 68] 400 h
set_option maxRecDepth 100000 in
theorem b13_68 {C : j2_C} (hC : j2_up1 C) {Q : j2_P} {o0 : Nat} {x1 : Int32} {x2 : Int32} {σ : j2_S}
  (h : ((((σ.1 1010 o0) + (σ.1 1014 o0)) ≤ (nI 10) → (True ∧ Q (some (vI (nI 0))) σ)) ∧ (¬ (((σ.1 1010 o0) + (σ.1 1014 o0)) ≤ (nI 10)) → (True ∧ Q (some (vI (nI 5))) σ)))) :
  T13 C Q 68 [vO 1 o0, vI x1, vI x2] [] σ := j2_T.go hC [0, 19, 34, 47, 53, 67, 68] 400 h
abbrev T14 (C : j2_C) (Q : j2_P) : j2_K := j2_T C jc_X1_fits (some .boolean) Q
set_option maxRecDepth 100000 in
theorem b14_0 {C : j2_C} (hC : j2_up1 C) {Q : j2_P} {o0 : Nat} {x1 : Int32} {x2 : Int32} {g0 : Nat} {p1 : j2_W} {p2 : j2_W} {p3 : j2_W} {p4 : j2_W} {p5 : j2_W} {p6 : j2_W} {p7 : j2_W} {p8 : j2_W} {p9 : j2_W} {I : Nat → Nat → Int32} {A : Nat → Nat → Nat → Int32}
  (h : ((¬ x2 = (-1 : Int32) → ((¬ x2 = (-2 : Int32) → ((x2 = (nI 1) → T14 C Q 21 [vO 1 o0, vI x1, vI x2] [] (I, [vO 3 g0, p1, p2, p3, p4, p5, p6, p7, p8, p9], A)) ∧ (¬ (x2 = (nI 1)) → (((nI 4) ≤ x1 → C 48 [vO 3 g0, vI (x2 - (nI 4)), vI (x1 - (nI 4))] (I, [vO 3 g0, p1, p2, p3, p4, p5, p6, p7, p8, p9], A) (fun r σ1 => T14 C Q 43 [vO 1 o0, vI x1, vI x2] (r.toList ++ []) σ1)) ∧ (¬ ((nI 4) ≤ x1) → T14 C Q 21 [vO 1 o0, vI x1, vI x2] [] (I, [vO 3 g0, p1, p2, p3, p4, p5, p6, p7, p8, p9], A)))))) ∧ (¬ (¬ x2 = (-2 : Int32)) → ((x1 = (nI 1) → (((nI 0) = 0 ∨ (nI 0) = 1) ∧ Q (some (vI (nI 0))) (I, [vO 3 g0, p1, p2, p3, p4, p5, p6, p7, p8, p9], A))) ∧ (¬ (x1 = (nI 1)) → (((nI 1) = 0 ∨ (nI 1) = 1) ∧ Q (some (vI (nI 1))) (I, [vO 3 g0, p1, p2, p3, p4, p5, p6, p7, p8, p9], A))))))) ∧ (¬ (¬ x2 = (-1 : Int32)) → (((nI 1) = 0 ∨ (nI 1) = 1) ∧ Q (some (vI (nI 1))) (I, [vO 3 g0, p1, p2, p3, p4, p5, p6, p7, p8, p9], A))))) :
  T14 C Q 0 [vO 1 o0, vI x1, vI x2] [] (I, [vO 3 g0, p1, p2, p3, p4, p5, p6, p7, p8, p9], A) := j2_T.go hC [0, 21, 30, 43] 400 h
set_option maxRecDepth 100000 in
theorem b14_21 {C : j2_C} (hC : j2_up1 C) {Q : j2_P} {o0 : Nat} {x1 : Int32} {x2 : Int32} {g0 : Nat} {p1 : j2_W} {p2 : j2_W} {p3 : j2_W} {p4 : j2_W} {p5 : j2_W} {p6 : j2_W} {p7 : j2_W} {p8 : j2_W} {p9 : j2_W} {I : Nat → Nat → Int32} {A : Nat → Nat → Nat → Int32}
  (h : ((x1 = x2 → T14 C Q 30 [vO 1 o0, vI x1, vI x2] [] (I, [vO 3 g0, p1, p2, p3, p4, p5, p6, p7, p8, p9], A)) ∧ (¬ (x1 = x2) → ((x2 < (nI 4) → (((nI 0) = 0 ∨ (nI 0) = 1) ∧ Q (some (vI (nI 0))) (I, [vO 3 g0, p1, p2, p3, p4, p5, p6, p7, p8, p9], A))) ∧ (¬ (x2 < (nI 4)) → ((¬ x1 = (nI 2) → (((nI 0) = 0 ∨ (nI 0) = 1) ∧ Q (some (vI (nI 0))) (I, [vO 3 g0, p1, p2, p3, p4, p5, p6, p7, p8, p9], A))) ∧ (¬ (¬ x1 = (nI 2)) → T14 C Q 30 [vO 1 o0, vI x1, vI x2] [] (I, [vO 3 g0, p1, p2, p3, p4, p5, p6, p7, p8, p9], A)))))))) :
  T14 C Q 21 [vO 1 o0, vI x1, vI x2] [] (I, [vO 3 g0, p1, p2, p3, p4, p5, p6, p7, p8, p9], A) := j2_T.go hC [0, 21, 30, 43] 400 h
set_option maxRecDepth 100000 in
theorem b14_30 {C : j2_C} (hC : j2_up1 C) {Q : j2_P} {o0 : Nat} {x1 : Int32} {x2 : Int32} {g0 : Nat} {p1 : j2_W} {p2 : j2_W} {p3 : j2_W} {p4 : j2_W} {p5 : j2_W} {p6 : j2_W} {p7 : j2_W} {p8 : j2_W} {p9 : j2_W} {I : Nat → Nat → Int32} {A : Nat → Nat → Nat → Int32}
  (h : (((nI 1) = 0 ∨ (nI 1) = 1) ∧ Q (some (vI (nI 1))) (I, [vO 3 g0, p1, p2, p3, p4, p5, p6, p7, p8, p9], A))) :
  T14 C Q 30 [vO 1 o0, vI x1, vI x2] [] (I, [vO 3 g0, p1, p2, p3, p4, p5, p6, p7, p8, p9], A) := j2_T.go hC [0, 21, 30, 43] 400 h
set_option maxRecDepth 100000 in
theorem b14_43 {C : j2_C} (hC : j2_up1 C) {Q : j2_P} {o0 : Nat} {x1 : Int32} {x2 : Int32} {xs0 : Int32} {g0 : Nat} {p1 : j2_W} {p2 : j2_W} {p3 : j2_W} {p4 : j2_W} {p5 : j2_W} {p6 : j2_W} {p7 : j2_W} {p8 : j2_W} {p9 : j2_W} {I : Nat → Nat → Int32} {A : Nat → Nat → Nat → Int32}
  (h : ((xs0 = 0 ∨ xs0 = 1) ∧ Q (some (vI xs0)) (I, [vO 3 g0, p1, p2, p3, p4, p5, p6, p7, p8, p9], A))) :
  T14 C Q 43 [vO 1 o0, vI x1, vI x2] [vI xs0] (I, [vO 3 g0, p1, p2, p3, p4, p5, p6, p7, p8, p9], A) := j2_T.go hC [0, 21, 30, 43] 400 h
abbrev T15 (C : j2_C) (Q : j2_P) : j2_K := j2_T C jc_X1_goTo (some .int) Q
set_option maxRecDepth 100000 in
theorem b15_0 {C : j2_C} (hC : j2_up1 C) {Q : j2_P} {o0 : Nat} {x1 : Int32} {g0 : Nat} {p1 : j2_W} {p2 : j2_W} {p3 : j2_W} {p4 : j2_W} {p5 : j2_W} {p6 : j2_W} {p7 : j2_W} {p8 : j2_W} {p9 : j2_W} {I : Nat → Nat → Int32} {A : Nat → Nat → Nat → Int32}
  (h : ((x1 < 0 → (True ∧ Q (some (vI (nI 7))) (I, [vO 3 g0, p1, p2, p3, p4, p5, p6, p7, p8, p9], A))) ∧ (¬ (x1 < 0) → ((x1 < (nI 120) → (vp_in x1 120 ∧ ((0 ≤ (A 1005 o0 x1.toNatClampNeg) → (vp_in x1 120 ∧ (((A 1005 o0 x1.toNatClampNeg) = (I 1010 o0) → T15 C Q 64 [vO 1 o0, vI x1, vI (x1 * (nI 10)), vI (x1 * (nI 20)), vI (nI 0)] [] (I, [vO 3 g0, p1, p2, p3, p4, p5, p6, p7, p8, p9], A)) ∧ (¬ ((A 1005 o0 x1.toNatClampNeg) = (I 1010 o0)) → (True ∧ Q (some (vI (nI 6))) (I, [vO 3 g0, p1, p2, p3, p4, p5, p6, p7, p8, p9], A)))))) ∧ (¬ (0 ≤ (A 1005 o0 x1.toNatClampNeg)) → (vp_in x1 120 ∧ (¬ (nI 0) < 0 ∧ ¬ (x1 * (nI 10)) < 0 ∧ ¬ (I 1010 o0) < 0 ∧ (nI 0).toNatClampNeg + (I 1010 o0).toNatClampNeg ≤ 10 ∧ (x1 * (nI 10)).toNatClampNeg + (I 1010 o0).toNatClampNeg ≤ 1200 ∧ (vp_in (I 1003 o0) 80 ∧ (¬ (nI 0) < 0 ∧ ¬ (x1 * (nI 20)) < 0 ∧ ¬ ((j2_acp (j2_ast A 1005 o0 x1.toNatClampNeg (I 1010 o0)) 1008 o0 1006 o0 (nI 0).toNatClampNeg (x1 * (nI 10)).toNatClampNeg (I 1010 o0).toNatClampNeg) 3017 g0 (I 1003 o0).toNatClampNeg) < 0 ∧ (nI 0).toNatClampNeg + ((j2_acp (j2_ast A 1005 o0 x1.toNatClampNeg (I 1010 o0)) 1008 o0 1006 o0 (nI 0).toNatClampNeg (x1 * (nI 10)).toNatClampNeg (I 1010 o0).toNatClampNeg) 3017 g0 (I 1003 o0).toNatClampNeg).toNatClampNeg ≤ 20 ∧ (x1 * (nI 20)).toNatClampNeg + ((j2_acp (j2_ast A 1005 o0 x1.toNatClampNeg (I 1010 o0)) 1008 o0 1006 o0 (nI 0).toNatClampNeg (x1 * (nI 10)).toNatClampNeg (I 1010 o0).toNatClampNeg) 3017 g0 (I 1003 o0).toNatClampNeg).toNatClampNeg ≤ 2400 ∧ (((nI 1) = 0 ∨ (nI 1) = 1) ∧ (True ∧ Q (some (vI (nI 0))) ((j2_up I 1004 o0 (nI 1)), [vO 3 g0, p1, p2, p3, p4, p5, p6, p7, p8, p9], (j2_acp (j2_acp (j2_ast A 1005 o0 x1.toNatClampNeg (I 1010 o0)) 1008 o0 1006 o0 (nI 0).toNatClampNeg (x1 * (nI 10)).toNatClampNeg (I 1010 o0).toNatClampNeg) 1009 o0 1007 o0 (nI 0).toNatClampNeg (x1 * (nI 20)).toNatClampNeg ((j2_acp (j2_ast A 1005 o0 x1.toNatClampNeg (I 1010 o0)) 1008 o0 1006 o0 (nI 0).toNatClampNeg (x1 * (nI 10)).toNatClampNeg (I 1010 o0).toNatClampNeg) 3017 g0 (I 1003 o0).toNatClampNeg).toNatClampNeg)))))))))))) ∧ (¬ (x1 < (nI 120)) → (True ∧ Q (some (vI (nI 7))) (I, [vO 3 g0, p1, p2, p3, p4, p5, p6, p7, p8, p9], A))))))) :
  T15 C Q 0 [vO 1 o0, vI x1, vM 2, vM 2, vM 2] [] (I, [vO 3 g0, p1, p2, p3, p4, p5, p6, p7, p8, p9], A) := j2_T.go hC [0, 64, 79, 88, 102, 115] 400 h
set_option maxRecDepth 100000 in
theorem b15_64 {C : j2_C} (hC : j2_up1 C) {Q : j2_P} {o0 : Nat} {x1 : Int32} {x2 : Int32} {x3 : Int32} {x4 : Int32} {g0 : Nat} {p1 : j2_W} {p2 : j2_W} {p3 : j2_W} {p4 : j2_W} {p5 : j2_W} {p6 : j2_W} {p7 : j2_W} {p8 : j2_W} {p9 : j2_W} {I : Nat → Nat → Int32} {A : Nat → Nat → Nat → Int32}
  (h : (((I 1010 o0) ≤ x4 → C 16 [vO 1 o0, vA 1006 o0, vI x2, vA 1008 o0, vI (I 1010 o0)] (I, [vO 3 g0, p1, p2, p3, p4, p5, p6, p7, p8, p9], A) (fun r σ1 => T15 C Q 102 [vO 1 o0, vI x1, vI x2, vI x3, vI x4] (r.toList ++ []) σ1)) ∧ (¬ ((I 1010 o0) ≤ x4) → (vp_in (x2 + x4) 1200 ∧ ((¬ (A 1006 o0 (x2 + x4).toNatClampNeg) = (nI 1) → T15 C Q 79 [vO 1 o0, vI x1, vI x2, vI x3, vI x4] [vI (nI 0)] (I, [vO 3 g0, p1, p2, p3, p4, p5, p6, p7, p8, p9], A)) ∧ (¬ (¬ (A 1006 o0 (x2 + x4).toNatClampNeg) = (nI 1)) → T15 C Q 79 [vO 1 o0, vI x1, vI x2, vI x3, vI x4] [vI (nI 1)] (I, [vO 3 g0, p1, p2, p3, p4, p5, p6, p7, p8, p9], A))))))) :
  T15 C Q 64 [vO 1 o0, vI x1, vI x2, vI x3, vI x4] [] (I, [vO 3 g0, p1, p2, p3, p4, p5, p6, p7, p8, p9], A) := j2_T.go hC [0, 64, 79, 88, 102, 115] 400 h
set_option maxRecDepth 100000 in
theorem b15_79 {C : j2_C} (hC : j2_up1 C) {Q : j2_P} {o0 : Nat} {x1 : Int32} {x2 : Int32} {x3 : Int32} {x4 : Int32} {xs0 : Int32} {g0 : Nat} {p1 : j2_W} {p2 : j2_W} {p3 : j2_W} {p4 : j2_W} {p5 : j2_W} {p6 : j2_W} {p7 : j2_W} {p8 : j2_W} {p9 : j2_W} {I : Nat → Nat → Int32} {A : Nat → Nat → Nat → Int32}
  (h : (vp_in x4 10 ∧ ((¬ (A 1008 o0 x4.toNatClampNeg) = (nI 1) → T15 C Q 88 [vO 1 o0, vI x1, vI x2, vI x3, vI x4] [vI (nI 0), vI xs0] (I, [vO 3 g0, p1, p2, p3, p4, p5, p6, p7, p8, p9], A)) ∧ (¬ (¬ (A 1008 o0 x4.toNatClampNeg) = (nI 1)) → T15 C Q 88 [vO 1 o0, vI x1, vI x2, vI x3, vI x4] [vI (nI 1), vI xs0] (I, [vO 3 g0, p1, p2, p3, p4, p5, p6, p7, p8, p9], A))))) :
  T15 C Q 79 [vO 1 o0, vI x1, vI x2, vI x3, vI x4] [vI xs0] (I, [vO 3 g0, p1, p2, p3, p4, p5, p6, p7, p8, p9], A) := j2_T.go hC [0, 64, 79, 88, 102, 115] 400 h
set_option maxRecDepth 100000 in
theorem b15_88 {C : j2_C} (hC : j2_up1 C) {Q : j2_P} {o0 : Nat} {x1 : Int32} {x2 : Int32} {x3 : Int32} {x4 : Int32} {xs0 : Int32} {xs1 : Int32} {g0 : Nat} {p1 : j2_W} {p2 : j2_W} {p3 : j2_W} {p4 : j2_W} {p5 : j2_W} {p6 : j2_W} {p7 : j2_W} {p8 : j2_W} {p9 : j2_W} {I : Nat → Nat → Int32} {A : Nat → Nat → Nat → Int32}
  (h : ((xs1 = xs0 → T15 C Q 64 [vO 1 o0, vI x1, vI x2, vI x3, vI (x4 + (nI 1))] [] (I, [vO 3 g0, p1, p2, p3, p4, p5, p6, p7, p8, p9], A)) ∧ (¬ (xs1 = xs0) → (True ∧ Q (some (vI (nI 6))) (I, [vO 3 g0, p1, p2, p3, p4, p5, p6, p7, p8, p9], A))))) :
  T15 C Q 88 [vO 1 o0, vI x1, vI x2, vI x3, vI x4] [vI xs0, vI xs1] (I, [vO 3 g0, p1, p2, p3, p4, p5, p6, p7, p8, p9], A) := j2_T.go hC [0, 64, 79, 88, 102, 115] 400 h
set_option maxRecDepth 100000 in
theorem b15_102 {C : j2_C} (hC : j2_up1 C) {Q : j2_P} {o0 : Nat} {x1 : Int32} {x2 : Int32} {x3 : Int32} {x4 : Int32} {g0 : Nat} {p1 : j2_W} {p2 : j2_W} {p3 : j2_W} {p4 : j2_W} {p5 : j2_W} {p6 : j2_W} {p7 : j2_W} {p8 : j2_W} {p9 : j2_W} {I : Nat → Nat → Int32} {A : Nat → Nat → Nat → Int32}
  (h : (vp_in (I 1003 o0) 80 ∧ C 16 [vO 1 o0, vA 1007 o0, vI x3, vA 1009 o0, vI (A 3017 g0 (I 1003 o0).toNatClampNeg)] (I, [vO 3 g0, p1, p2, p3, p4, p5, p6, p7, p8, p9], A) (fun r σ1 => T15 C Q 115 [vO 1 o0, vI x1, vI x2, vI x3, vI x4] (r.toList ++ []) σ1))) :
  T15 C Q 102 [vO 1 o0, vI x1, vI x2, vI x3, vI x4] [] (I, [vO 3 g0, p1, p2, p3, p4, p5, p6, p7, p8, p9], A) := j2_T.go hC [0, 64, 79, 88, 102, 115] 400 h
set_option maxRecDepth 100000 in
theorem b15_115 {C : j2_C} (hC : j2_up1 C) {Q : j2_P} {o0 : Nat} {x1 : Int32} {x2 : Int32} {x3 : Int32} {x4 : Int32} {g0 : Nat} {p1 : j2_W} {p2 : j2_W} {p3 : j2_W} {p4 : j2_W} {p5 : j2_W} {p6 : j2_W} {p7 : j2_W} {p8 : j2_W} {p9 : j2_W} {I : Nat → Nat → Int32} {A : Nat → Nat → Nat → Int32}
  (h : (True ∧ Q (some (vI (nI 0))) (I, [vO 3 g0, p1, p2, p3, p4, p5, p6, p7, p8, p9], A))) :
  T15 C Q 115 [vO 1 o0, vI x1, vI x2, vI x3, vI x4] [] (I, [vO 3 g0, p1, p2, p3, p4, p5, p6, p7, p8, p9], A) := j2_T.go hC [0, 64, 79, 88, 102, 115] 400 h
abbrev T16 (C : j2_C) (Q : j2_P) : j2_K := j2_T C jc_X1_meetAll none Q
set_option maxRecDepth 100000 in
theorem b16_0 {C : j2_C} (hC : j2_up1 C) {Q : j2_P} {o0 : Nat} {o1 : Nat} {e1 : Nat} {x2 : Int32} {o3 : Nat} {e3 : Nat} {x4 : Int32} {σ : j2_S}
  (h : T16 C Q 2 [vO 1 o0, vA e1 o1, vI x2, vA e3 o3, vI x4, vI (nI 0), vM 2] [] σ) :
  T16 C Q 0 [vO 1 o0, vA e1 o1, vI x2, vA e3 o3, vI x4, vM 2, vM 2] [] σ := j2_T.go hC [0, 2, 15, 32] 400 h
set_option maxRecDepth 100000 in
theorem b16_2 {C : j2_C} (hC : j2_up1 C) {Q : j2_P} {o0 : Nat} {o1 : Nat} {e1 : Nat} {x2 : Int32} {o3 : Nat} {e3 : Nat} {x4 : Int32} {x5 : Int32} {w6 : j2_W} {σ : j2_S}
  (h : ((x4 ≤ x5 → ((none : Option FieldType) = none ∧ Q none σ)) ∧ (¬ (x4 ≤ x5) → (if lt_fq e1 = 0 then vp_in (x2 + x5) (lt_fn e1) ∧ (if lt_fq e3 = 0 then vp_in x5 (lt_fn e3) ∧ C 17 [vO 1 o0, vI (σ.2.2 e1 o1 (x2 + x5).toNatClampNeg), vI (σ.2.2 e3 o3 x5.toNatClampNeg)] σ (fun r σ1 => T16 C Q 15 [vO 1 o0, vA e1 o1, vI x2, vA e3 o3, vI x4, vI x5, w6] (r.toList ++ []) σ1) else False) else False)))) :
  T16 C Q 2 [vO 1 o0, vA e1 o1, vI x2, vA e3 o3, vI x4, vI x5, w6] [] σ := j2_T.go hC [0, 2, 15, 32] 400 h
set_option maxRecDepth 100000 in
theorem b16_15 {C : j2_C} (hC : j2_up1 C) {Q : j2_P} {o0 : Nat} {o1 : Nat} {e1 : Nat} {x2 : Int32} {o3 : Nat} {e3 : Nat} {x4 : Int32} {x5 : Int32} {w6 : j2_W} {xs0 : Int32} {σ : j2_S}
  (h : (if lt_fq e1 = 0 then vp_in (x2 + x5) (lt_fn e1) ∧ ((xs0 = (σ.2.2 e1 o1 (x2 + x5).toNatClampNeg) → T16 C Q 32 [vO 1 o0, vA e1 o1, vI x2, vA e3 o3, vI x4, vI x5, vI xs0] [] σ) ∧ (¬ (xs0 = (σ.2.2 e1 o1 (x2 + x5).toNatClampNeg)) → (if lt_fq e1 = 0 then vp_in (x2 + x5) (lt_fn e1) ∧ (((nI 1) = 0 ∨ (nI 1) = 1) ∧ T16 C Q 32 [vO 1 o0, vA e1 o1, vI x2, vA e3 o3, vI x4, vI x5, vI xs0] [] ((j2_up σ.1 1004 o0 (nI 1)), σ.2.1, (j2_ast σ.2.2 e1 o1 (x2 + x5).toNatClampNeg xs0))) else False))) else False)) :
  T16 C Q 15 [vO 1 o0, vA e1 o1, vI x2, vA e3 o3, vI x4, vI x5, w6] [vI xs0] σ := j2_T.go hC [0, 2, 15, 32] 400 h
set_option maxRecDepth 100000 in
theorem b16_32 {C : j2_C} (hC : j2_up1 C) {Q : j2_P} {o0 : Nat} {o1 : Nat} {e1 : Nat} {x2 : Int32} {o3 : Nat} {e3 : Nat} {x4 : Int32} {x5 : Int32} {x6 : Int32} {σ : j2_S}
  (h : T16 C Q 2 [vO 1 o0, vA e1 o1, vI x2, vA e3 o3, vI x4, vI (x5 + (nI 1)), vI x6] [] σ) :
  T16 C Q 32 [vO 1 o0, vA e1 o1, vI x2, vA e3 o3, vI x4, vI x5, vI x6] [] σ := j2_T.go hC [0, 2, 15, 32] 400 h
abbrev T17 (C : j2_C) (Q : j2_P) : j2_K := j2_T C jc_X1_meet (some .int) Q
set_option maxRecDepth 100000 in
theorem b17_0 {C : j2_C} (hC : j2_up1 C) {Q : j2_P} {o0 : Nat} {x1 : Int32} {x2 : Int32} {g0 : Nat} {p1 : j2_W} {p2 : j2_W} {p3 : j2_W} {p4 : j2_W} {p5 : j2_W} {p6 : j2_W} {p7 : j2_W} {p8 : j2_W} {p9 : j2_W} {I : Nat → Nat → Int32} {A : Nat → Nat → Nat → Int32}
  (h : ((¬ x1 = x2 → ((x1 ≤ (nI 1) → (True ∧ Q (some (vI (nI 0))) (I, [vO 3 g0, p1, p2, p3, p4, p5, p6, p7, p8, p9], A))) ∧ (¬ (x1 ≤ (nI 1)) → (((nI 1) < x2 → ((x1 = (nI 2) → T17 C Q 19 [vO 1 o0, vI x1, vI x2, vM 2, vM 2] [] (I, [vO 3 g0, p1, p2, p3, p4, p5, p6, p7, p8, p9], A)) ∧ (¬ (x1 = (nI 2)) → ((¬ x2 = (nI 2) → ((x1 = (nI 3) → (True ∧ Q (some (vI (nI 3))) (I, [vO 3 g0, p1, p2, p3, p4, p5, p6, p7, p8, p9], A))) ∧ (¬ (x1 = (nI 3)) → ((¬ x2 = (nI 3) → T17 C Q 40 [vO 1 o0, vI x1, vI x2, vI (x1 - (nI 4)), vI (nI 0)] [] (I, [vO 3 g0, p1, p2, p3, p4, p5, p6, p7, p8, p9], A)) ∧ (¬ (¬ x2 = (nI 3)) → (True ∧ Q (some (vI (nI 3))) (I, [vO 3 g0, p1, p2, p3, p4, p5, p6, p7, p8, p9], A))))))) ∧ (¬ (¬ x2 = (nI 2)) → T17 C Q 19 [vO 1 o0, vI x1, vI x2, vM 2, vM 2] [] (I, [vO 3 g0, p1, p2, p3, p4, p5, p6, p7, p8, p9], A)))))) ∧ (¬ ((nI 1) < x2) → (True ∧ Q (some (vI (nI 0))) (I, [vO 3 g0, p1, p2, p3, p4, p5, p6, p7, p8, p9], A))))))) ∧ (¬ (¬ x1 = x2) → (True ∧ Q (some (vI x1)) (I, [vO 3 g0, p1, p2, p3, p4, p5, p6, p7, p8, p9], A))))) :
  T17 C Q 0 [vO 1 o0, vI x1, vI x2, vM 2, vM 2] [] (I, [vO 3 g0, p1, p2, p3, p4, p5, p6, p7, p8, p9], A) := j2_T.go hC [0, 19, 40, 52] 400 h
set_option maxRecDepth 100000 in
theorem b17_19 {C : j2_C} (hC : j2_up1 C) {Q : j2_P} {o0 : Nat} {x1 : Int32} {x2 : Int32} {g0 : Nat} {p1 : j2_W} {p2 : j2_W} {p3 : j2_W} {p4 : j2_W} {p5 : j2_W} {p6 : j2_W} {p7 : j2_W} {p8 : j2_W} {p9 : j2_W} {I : Nat → Nat → Int32} {A : Nat → Nat → Nat → Int32}
  (h : ((¬ x1 = (nI 2) → (True ∧ Q (some (vI x1)) (I, [vO 3 g0, p1, p2, p3, p4, p5, p6, p7, p8, p9], A))) ∧ (¬ (¬ x1 = (nI 2)) → (True ∧ Q (some (vI x2)) (I, [vO 3 g0, p1, p2, p3, p4, p5, p6, p7, p8, p9], A))))) :
  T17 C Q 19 [vO 1 o0, vI x1, vI x2, vM 2, vM 2] [] (I, [vO 3 g0, p1, p2, p3, p4, p5, p6, p7, p8, p9], A) := j2_T.go hC [0, 19, 40, 52] 400 h
set_option maxRecDepth 100000 in
theorem b17_40 {C : j2_C} (hC : j2_up1 C) {Q : j2_P} {o0 : Nat} {x1 : Int32} {x2 : Int32} {x3 : Int32} {x4 : Int32} {g0 : Nat} {p1 : j2_W} {p2 : j2_W} {p3 : j2_W} {p4 : j2_W} {p5 : j2_W} {p6 : j2_W} {p7 : j2_W} {p8 : j2_W} {p9 : j2_W} {I : Nat → Nat → Int32} {A : Nat → Nat → Nat → Int32}
  (h : (((nI 10) ≤ x4 → (True ∧ Q (some (vI (nI 3))) (I, [vO 3 g0, p1, p2, p3, p4, p5, p6, p7, p8, p9], A))) ∧ (¬ ((nI 10) ≤ x4) → ((x3 < 0 → (True ∧ Q (some (vI (nI 3))) (I, [vO 3 g0, p1, p2, p3, p4, p5, p6, p7, p8, p9], A))) ∧ (¬ (x3 < 0) → C 48 [vO 3 g0, vI x3, vI (x2 - (nI 4))] (I, [vO 3 g0, p1, p2, p3, p4, p5, p6, p7, p8, p9], A) (fun r σ1 => T17 C Q 52 [vO 1 o0, vI x1, vI x2, vI x3, vI x4] (r.toList ++ []) σ1)))))) :
  T17 C Q 40 [vO 1 o0, vI x1, vI x2, vI x3, vI x4] [] (I, [vO 3 g0, p1, p2, p3, p4, p5, p6, p7, p8, p9], A) := j2_T.go hC [0, 19, 40, 52] 400 h
set_option maxRecDepth 100000 in
theorem b17_52 {C : j2_C} (hC : j2_up1 C) {Q : j2_P} {o0 : Nat} {x1 : Int32} {x2 : Int32} {x3 : Int32} {x4 : Int32} {xs0 : Int32} {g0 : Nat} {p1 : j2_W} {p2 : j2_W} {p3 : j2_W} {p4 : j2_W} {p5 : j2_W} {p6 : j2_W} {p7 : j2_W} {p8 : j2_W} {p9 : j2_W} {I : Nat → Nat → Int32} {A : Nat → Nat → Nat → Int32}
  (h : ((xs0 = 0 → (vp_in x3 10 ∧ T17 C Q 40 [vO 1 o0, vI x1, vI x2, vI (A 3003 g0 x3.toNatClampNeg), vI (x4 + (nI 1))] [] (I, [vO 3 g0, p1, p2, p3, p4, p5, p6, p7, p8, p9], A))) ∧ (¬ (xs0 = 0) → (True ∧ Q (some (vI ((nI 4) + x3))) (I, [vO 3 g0, p1, p2, p3, p4, p5, p6, p7, p8, p9], A))))) :
  T17 C Q 52 [vO 1 o0, vI x1, vI x2, vI x3, vI x4] [vI xs0] (I, [vO 3 g0, p1, p2, p3, p4, p5, p6, p7, p8, p9], A) := j2_T.go hC [0, 19, 40, 52] 400 h
abbrev T19 (C : j2_C) (Q : j2_P) : j2_K := j2_T C jc_X2_forget none Q
set_option maxRecDepth 100000 in
theorem b19_0 {C : j2_C} (hC : j2_up1 C) {Q : j2_P} {o0 : Nat} {σ : j2_S}
  (h : (((nI 0) = 0 ∨ (nI 0) = 1) ∧ ((none : Option FieldType) = none ∧ Q none ((j2_up σ.1 2000 o0 (nI 0)), σ.2.1, σ.2.2)))) :
  T19 C Q 0 [vO 2 o0] [] σ := j2_T.go hC [0] 400 h
abbrev T20 (C : j2_C) (Q : j2_P) : j2_K := j2_T C jc_X2_go (some .int) Q
set_option maxRecDepth 100000 in
theorem b20_0 {C : j2_C} (hC : j2_up1 C) {Q : j2_P} {o0 : Nat} {o1 : Nat} {x2 : Int32} {x3 : Int32} {p0 : j2_W} {p1 : j2_W} {p2 : j2_W} {p3 : j2_W} {p4 : j2_W} {p5 : j2_W} {p6 : j2_W} {p7 : j2_W} {p8 : j2_W} {p9 : j2_W} {I : Nat → Nat → Int32} {A : Nat → Nat → Nat → Int32}
  (h : (((nI 1) = 0 ∨ (nI 1) = 1) ∧ C 248 [vA 2001 o0, vI (nI 0)] ((j2_up (j2_up (j2_up (j2_up I 2000 o0 (nI 1)) 2006 o0 (-1 : Int32)) 2007 o0 (nI 0)) 2012 o0 (nI 0)), [p0, vO 3 o1, p2, p3, p4, p5, p6, p7, p8, p9], A) (fun r σ1 => T20 C Q 19 [vO 2 o0, vO 3 o1, vI x2, vI x3, vM 2, vM 2] (r.toList ++ []) σ1))) :
  T20 C Q 0 [vO 2 o0, vO 3 o1, vI x2, vI x3, vM 2, vM 2] [] (I, [p0, p1, p2, p3, p4, p5, p6, p7, p8, p9], A) := j2_T.go hC [0, 19, 23, 26, 30, 40, 42, 53, 71] 400 h
set_option maxRecDepth 100000 in
theorem b20_19 {C : j2_C} (hC : j2_up1 C) {Q : j2_P} {o0 : Nat} {o1 : Nat} {x2 : Int32} {x3 : Int32} {p0 : j2_W} {p1 : j2_W} {p2 : j2_W} {p3 : j2_W} {p4 : j2_W} {p5 : j2_W} {p6 : j2_W} {p7 : j2_W} {p8 : j2_W} {p9 : j2_W} {I : Nat → Nat → Int32} {A : Nat → Nat → Nat → Int32}
  (h : C 248 [vA 2015 o0, vI (nI 0)] (I, [p0, p1, p2, p3, p4, p5, p6, p7, p8, p9], A) (fun r σ1 => T20 C Q 23 [vO 2 o0, vO 3 o1, vI x2, vI x3, vM 2, vM 2] (r.toList ++ []) σ1)) :
  T20 C Q 19 [vO 2 o0, vO 3 o1, vI x2, vI x3, vM 2, vM 2] [] (I, [p0, p1, p2, p3, p4, p5, p6, p7, p8, p9], A) := j2_T.go hC [0, 19, 23, 26, 30, 40, 42, 53, 71] 400 h
set_option maxRecDepth 100000 in
theorem b20_23 {C : j2_C} (hC : j2_up1 C) {Q : j2_P} {o0 : Nat} {o1 : Nat} {x2 : Int32} {x3 : Int32} {p0 : j2_W} {p1 : j2_W} {p2 : j2_W} {p3 : j2_W} {p4 : j2_W} {p5 : j2_W} {p6 : j2_W} {p7 : j2_W} {p8 : j2_W} {p9 : j2_W} {I : Nat → Nat → Int32} {A : Nat → Nat → Nat → Int32}
  (h : C 24 [vO 2 o0, vI x2] (I, [p0, p1, p2, p3, p4, p5, p6, p7, p8, p9], A) (fun r σ1 => T20 C Q 26 [vO 2 o0, vO 3 o1, vI x2, vI x3, vM 2, vM 2] (r.toList ++ []) σ1)) :
  T20 C Q 23 [vO 2 o0, vO 3 o1, vI x2, vI x3, vM 2, vM 2] [] (I, [p0, p1, p2, p3, p4, p5, p6, p7, p8, p9], A) := j2_T.go hC [0, 19, 23, 26, 30, 40, 42, 53, 71] 400 h
set_option maxRecDepth 100000 in
theorem b20_26 {C : j2_C} (hC : j2_up1 C) {Q : j2_P} {o0 : Nat} {o1 : Nat} {x2 : Int32} {x3 : Int32} {p0 : j2_W} {p1 : j2_W} {p2 : j2_W} {p3 : j2_W} {p4 : j2_W} {p5 : j2_W} {p6 : j2_W} {p7 : j2_W} {p8 : j2_W} {p9 : j2_W} {I : Nat → Nat → Int32} {A : Nat → Nat → Nat → Int32}
  (h : T20 C Q 30 [vO 2 o0, vO 3 o1, vI x2, vI x3, vI (nI 0), vI (nI 0)] [] (I, [p0, p1, p2, p3, p4, p5, p6, p7, p8, p9], A)) :
  T20 C Q 26 [vO 2 o0, vO 3 o1, vI x2, vI x3, vM 2, vM 2] [] (I, [p0, p1, p2, p3, p4, p5, p6, p7, p8, p9], A) := j2_T.go hC [0, 19, 23, 26, 30, 40, 42, 53, 71] 400 h
set_option maxRecDepth 100000 in
theorem b20_30 {C : j2_C} (hC : j2_up1 C) {Q : j2_P} {o0 : Nat} {o1 : Nat} {x2 : Int32} {x3 : Int32} {x4 : Int32} {x5 : Int32} {p0 : j2_W} {p1 : j2_W} {p2 : j2_W} {p3 : j2_W} {p4 : j2_W} {p5 : j2_W} {p6 : j2_W} {p7 : j2_W} {p8 : j2_W} {p9 : j2_W} {I : Nat → Nat → Int32} {A : Nat → Nat → Nat → Int32}
  (h : ((x3 ≤ x5 → T20 C Q 42 [vO 2 o0, vO 3 o1, vI x2, vI x3, vI x4, vI x5] [] (I, [p0, p1, p2, p3, p4, p5, p6, p7, p8, p9], A)) ∧ (¬ (x3 ≤ x5) → ((¬ (I 2006 o0) = (-1 : Int32) → T20 C Q 42 [vO 2 o0, vO 3 o1, vI x2, vI x3, vI x4, vI x5] [] (I, [p0, p1, p2, p3, p4, p5, p6, p7, p8, p9], A)) ∧ (¬ (¬ (I 2006 o0) = (-1 : Int32)) → C 28 [vO 2 o0] (I, [p0, p1, p2, p3, p4, p5, p6, p7, p8, p9], A) (fun r σ1 => T20 C Q 40 [vO 2 o0, vO 3 o1, vI x2, vI x3, vI (x4 + (nI 1)), vI x5] (r.toList ++ []) σ1)))))) :
  T20 C Q 30 [vO 2 o0, vO 3 o1, vI x2, vI x3, vI x4, vI x5] [] (I, [p0, p1, p2, p3, p4, p5, p6, p7, p8, p9], A) := j2_T.go hC [0, 19, 23, 26, 30, 40, 42, 53, 71] 400 h
set_option maxRecDepth 100000 in
theorem b20_40 {C : j2_C} (hC : j2_up1 C) {Q : j2_P} {o0 : Nat} {o1 : Nat} {x2 : Int32} {x3 : Int32} {x4 : Int32} {x5 : Int32} {p0 : j2_W} {p1 : j2_W} {p2 : j2_W} {p3 : j2_W} {p4 : j2_W} {p5 : j2_W} {p6 : j2_W} {p7 : j2_W} {p8 : j2_W} {p9 : j2_W} {I : Nat → Nat → Int32} {A : Nat → Nat → Nat → Int32}
  (h : T20 C Q 30 [vO 2 o0, vO 3 o1, vI x2, vI x3, vI x4, vI (x5 + (nI 1))] [] (I, [p0, p1, p2, p3, p4, p5, p6, p7, p8, p9], A)) :
  T20 C Q 40 [vO 2 o0, vO 3 o1, vI x2, vI x3, vI x4, vI x5] [] (I, [p0, p1, p2, p3, p4, p5, p6, p7, p8, p9], A) := j2_T.go hC [0, 19, 23, 26, 30, 40, 42, 53, 71] 400 h
set_option maxRecDepth 100000 in
theorem b20_42 {C : j2_C} (hC : j2_up1 C) {Q : j2_P} {o0 : Nat} {o1 : Nat} {x2 : Int32} {x3 : Int32} {x4 : Int32} {x5 : Int32} {p0 : j2_W} {p1 : j2_W} {p2 : j2_W} {p3 : j2_W} {p4 : j2_W} {p5 : j2_W} {p6 : j2_W} {p7 : j2_W} {p8 : j2_W} {p9 : j2_W} {I : Nat → Nat → Int32} {A : Nat → Nat → Nat → Int32}
  (h : ((¬ (I 2006 o0) = (-1 : Int32) → T20 C Q 53 [vO 2 o0, vO 3 o1, vI x2, vI x3, vI x4, vI x5] [vI (I 2006 o0), vI (nI 0), vA 2001 o0] (I, [p0, p1, p2, p3, p4, p5, p6, p7, p8, p9], A)) ∧ (¬ (¬ (I 2006 o0) = (-1 : Int32)) → T20 C Q 53 [vO 2 o0, vO 3 o1, vI x2, vI x3, vI x4, vI x5] [vI (nI 2), vI (nI 0), vA 2001 o0] (I, [p0, p1, p2, p3, p4, p5, p6, p7, p8, p9], A)))) :
  T20 C Q 42 [vO 2 o0, vO 3 o1, vI x2, vI x3, vI x4, vI x5] [] (I, [p0, p1, p2, p3, p4, p5, p6, p7, p8, p9], A) := j2_T.go hC [0, 19, 23, 26, 30, 40, 42, 53, 71] 400 h
set_option maxRecDepth 100000 in
theorem b20_53 {C : j2_C} (hC : j2_up1 C) {Q : j2_P} {o0 : Nat} {o1 : Nat} {x2 : Int32} {x3 : Int32} {x4 : Int32} {x5 : Int32} {xs0 : Int32} {xs1 : Int32} {os2 : Nat} {p0 : j2_W} {p1 : j2_W} {p2 : j2_W} {p3 : j2_W} {p4 : j2_W} {p5 : j2_W} {p6 : j2_W} {p7 : j2_W} {p8 : j2_W} {p9 : j2_W} {I : Nat → Nat → Int32} {A : Nat → Nat → Nat → Int32}
  (h : (vp_in xs1 8 ∧ (vp_in (nI 1) 8 ∧ (vp_in (nI 5) 8 ∧ ((¬ (I 2006 o0) = (nI 1) → T20 C Q 71 [vO 2 o0, vO 3 o1, vI x2, vI x3, vI x4, vI x5] [] (I, [p0, p1, p2, p3, p4, p5, p6, p7, p8, p9], (j2_ast (j2_ast (j2_ast A 2001 os2 xs1.toNatClampNeg xs0) 2001 o0 (nI 1).toNatClampNeg x4) 2001 o0 (nI 5).toNatClampNeg (I 2012 o0)))) ∧ (¬ (¬ (I 2006 o0) = (nI 1)) → C 21 [vO 2 o0] (I, [p0, p1, p2, p3, p4, p5, p6, p7, p8, p9], (j2_ast (j2_ast (j2_ast A 2001 os2 xs1.toNatClampNeg xs0) 2001 o0 (nI 1).toNatClampNeg x4) 2001 o0 (nI 5).toNatClampNeg (I 2012 o0))) (fun r σ1 => T20 C Q 71 [vO 2 o0, vO 3 o1, vI x2, vI x3, vI x4, vI x5] (r.toList ++ []) σ1))))))) :
  T20 C Q 53 [vO 2 o0, vO 3 o1, vI x2, vI x3, vI x4, vI x5] [vI xs0, vI xs1, vA 2001 os2] (I, [p0, p1, p2, p3, p4, p5, p6, p7, p8, p9], A) := j2_T.go hC [0, 19, 23, 26, 30, 40, 42, 53, 71] 400 h
set_option maxRecDepth 100000 in
theorem b20_71 {C : j2_C} (hC : j2_up1 C) {Q : j2_P} {o0 : Nat} {o1 : Nat} {x2 : Int32} {x3 : Int32} {x4 : Int32} {x5 : Int32} {p0 : j2_W} {p1 : j2_W} {p2 : j2_W} {p3 : j2_W} {p4 : j2_W} {p5 : j2_W} {p6 : j2_W} {p7 : j2_W} {p8 : j2_W} {p9 : j2_W} {I : Nat → Nat → Int32} {A : Nat → Nat → Nat → Int32}
  (h : (vp_in (nI 0) 8 ∧ (True ∧ Q (some (vI (A 2001 o0 (nI 0).toNatClampNeg))) (I, [p0, p1, p2, p3, p4, p5, p6, p7, p8, p9], A)))) :
  T20 C Q 71 [vO 2 o0, vO 3 o1, vI x2, vI x3, vI x4, vI x5] [] (I, [p0, p1, p2, p3, p4, p5, p6, p7, p8, p9], A) := j2_T.go hC [0, 19, 23, 26, 30, 40, 42, 53, 71] 400 h
abbrev T21 (C : j2_C) (Q : j2_P) : j2_K := j2_T C jc_X2_takeTrace none Q
set_option maxRecDepth 100000 in
theorem b21_0 {C : j2_C} (hC : j2_up1 C) {Q : j2_P} {o0 : Nat} {σ : j2_S}
  (h : (vp_in (nI 4) 8 ∧ T21 C Q 8 [vO 2 o0, vI (nI 0), vM 2] [] (σ.1, σ.2.1, (j2_ast σ.2.2 2001 o0 (nI 4).toNatClampNeg (σ.1 2007 o0))))) :
  T21 C Q 0 [vO 2 o0, vM 2, vM 2] [] σ := j2_T.go hC [0, 8] 400 h
set_option maxRecDepth 100000 in
theorem b21_8 {C : j2_C} (hC : j2_up1 C) {Q : j2_P} {o0 : Nat} {x1 : Int32} {w2 : j2_W} {σ : j2_S}
  (h : (((σ.1 2007 o0) ≤ x1 → ((none : Option FieldType) = none ∧ Q none σ)) ∧ (¬ ((σ.1 2007 o0) ≤ x1) → (vp_in (((σ.1 2007 o0) - (nI 1)) - x1) 40 ∧ (vp_in (((σ.1 2007 o0) - (nI 1)) - x1) 40 ∧ (vp_in x1 40 ∧ T21 C Q 8 [vO 2 o0, vI (x1 + (nI 1)), vI (((σ.1 2007 o0) - (nI 1)) - x1)] [] (σ.1, σ.2.1, (j2_ast σ.2.2 2003 o0 x1.toNatClampNeg (((σ.2.2 2008 o0 (((σ.1 2007 o0) - (nI 1)) - x1).toNatClampNeg) * (nI 1000)) + (σ.2.2 2009 o0 (((σ.1 2007 o0) - (nI 1)) - x1).toNatClampNeg)))))))))) :
  T21 C Q 8 [vO 2 o0, vI x1, w2] [] σ := j2_T.go hC [0, 8] 400 h
abbrev T22 (C : j2_C) (Q : j2_P) : j2_K := j2_T C jc_X2_tellBack none Q
set_option maxRecDepth 100000 in
theorem b22_0 {C : j2_C} (hC : j2_up1 C) {Q : j2_P} {o0 : Nat} {x1 : Int32} {o2 : Nat} {e2 : Nat} {o3 : Nat} {e3 : Nat} {σ : j2_S}
  (h : (vp_in (nI 7) 8 ∧ T22 C Q 7 [vO 2 o0, vI x1, vA e2 o2, vA e3 o3, vI (nI 0), vM 2] [] (σ.1, σ.2.1, (j2_ast σ.2.2 2001 o0 (nI 7).toNatClampNeg (nI 0))))) :
  T22 C Q 0 [vO 2 o0, vI x1, vA e2 o2, vA e3 o3, vM 2, vM 2] [] σ := j2_T.go hC [0, 7, 21, 43, 48] 400 h
set_option maxRecDepth 100000 in
theorem b22_7 {C : j2_C} (hC : j2_up1 C) {Q : j2_P} {o0 : Nat} {x1 : Int32} {o2 : Nat} {e2 : Nat} {o3 : Nat} {e3 : Nat} {x4 : Int32} {w5 : j2_W} {σ : j2_S}
  (h : (vp_in (nI 4) 8 ∧ (((σ.2.2 2001 o0 (nI 4).toNatClampNeg) ≤ x4 → ((none : Option FieldType) = none ∧ Q none σ)) ∧ (¬ ((σ.2.2 2001 o0 (nI 4).toNatClampNeg) ≤ x4) → ((¬ x1 = 0 → (vp_in x4 40 ∧ (¬ (nI 1000) = 0 ∧ (vp_in x4 40 ∧ (¬ (nI 1000) = 0 ∧ (if lt_fq e2 = 0 then vp_in ((((σ.2.2 2003 o0 x4.toNatClampNeg) / (nI 1000)) * (nI 120)) + ((σ.2.2 2003 o0 x4.toNatClampNeg) - (σ.2.2 2003 o0 x4.toNatClampNeg) / (nI 1000) * (nI 1000))) (lt_fn e2) ∧ C 23 [vO 2 o0, vI (σ.2.2 e2 o2 ((((σ.2.2 2003 o0 x4.toNatClampNeg) / (nI 1000)) * (nI 120)) + ((σ.2.2 2003 o0 x4.toNatClampNeg) - (σ.2.2 2003 o0 x4.toNatClampNeg) / (nI 1000) * (nI 1000))).toNatClampNeg)] σ (fun r σ1 => T22 C Q 43 [vO 2 o0, vI x1, vA e2 o2, vA e3 o3, vI x4, vI ((((σ.2.2 2003 o0 x4.toNatClampNeg) / (nI 1000)) * (nI 120)) + ((σ.2.2 2003 o0 x4.toNatClampNeg) - (σ.2.2 2003 o0 x4.toNatClampNeg) / (nI 1000) * (nI 1000)))] (r.toList ++ []) σ1) else False)))))) ∧ (¬ (¬ x1 = 0) → (vp_in x4 40 ∧ C 23 [vO 2 o0, vI (σ.2.2 2003 o0 x4.toNatClampNeg)] σ (fun r σ1 => T22 C Q 21 [vO 2 o0, vI x1, vA e2 o2, vA e3 o3, vI x4, w5] (r.toList ++ []) σ1)))))))) :
  T22 C Q 7 [vO 2 o0, vI x1, vA e2 o2, vA e3 o3, vI x4, w5] [] σ := j2_T.go hC [0, 7, 21, 43, 48] 400 h
set_option maxRecDepth 100000 in
theorem b22_21 {C : j2_C} (hC : j2_up1 C) {Q : j2_P} {o0 : Nat} {x1 : Int32} {o2 : Nat} {e2 : Nat} {o3 : Nat} {e3 : Nat} {x4 : Int32} {w5 : j2_W} {σ : j2_S}
  (h : T22 C Q 48 [vO 2 o0, vI x1, vA e2 o2, vA e3 o3, vI x4, w5] [] σ) :
  T22 C Q 21 [vO 2 o0, vI x1, vA e2 o2, vA e3 o3, vI x4, w5] [] σ := j2_T.go hC [0, 7, 21, 43, 48] 400 h
set_option maxRecDepth 100000 in
theorem b22_43 {C : j2_C} (hC : j2_up1 C) {Q : j2_P} {o0 : Nat} {x1 : Int32} {o2 : Nat} {e2 : Nat} {o3 : Nat} {e3 : Nat} {x4 : Int32} {x5 : Int32} {σ : j2_S}
  (h : (if lt_fq e3 = 0 then vp_in x5 (lt_fn e3) ∧ C 23 [vO 2 o0, vI (σ.2.2 e3 o3 x5.toNatClampNeg)] σ (fun r σ1 => T22 C Q 48 [vO 2 o0, vI x1, vA e2 o2, vA e3 o3, vI x4, vI x5] (r.toList ++ []) σ1) else False)) :
  T22 C Q 43 [vO 2 o0, vI x1, vA e2 o2, vA e3 o3, vI x4, vI x5] [] σ := j2_T.go hC [0, 7, 21, 43, 48] 400 h
set_option maxRecDepth 100000 in
theorem b22_48 {C : j2_C} (hC : j2_up1 C) {Q : j2_P} {o0 : Nat} {x1 : Int32} {o2 : Nat} {e2 : Nat} {o3 : Nat} {e3 : Nat} {x4 : Int32} {w5 : j2_W} {σ : j2_S}
  (h : T22 C Q 7 [vO 2 o0, vI x1, vA e2 o2, vA e3 o3, vI (x4 + (nI 1)), w5] [] σ) :
  T22 C Q 48 [vO 2 o0, vI x1, vA e2 o2, vA e3 o3, vI x4, w5] [] σ := j2_T.go hC [0, 7, 21, 43, 48] 400 h
abbrev T23 (C : j2_C) (Q : j2_P) : j2_K := j2_T C jc_X2_addBack none Q
set_option maxRecDepth 100000 in
theorem b23_0 {C : j2_C} (hC : j2_up1 C) {Q : j2_P} {o0 : Nat} {x1 : Int32} {σ : j2_S}
  (h : ((x1 = (-1 : Int32) → ((none : Option FieldType) = none ∧ Q none σ)) ∧ (¬ (x1 = (-1 : Int32)) → (vp_in (nI 7) 8 ∧ (((nI 80) ≤ (σ.2.2 2001 o0 (nI 7).toNatClampNeg) → ((none : Option FieldType) = none ∧ Q none σ)) ∧ (¬ ((nI 80) ≤ (σ.2.2 2001 o0 (nI 7).toNatClampNeg)) → (vp_in (nI 7) 8 ∧ (vp_in (σ.2.2 2001 o0 (nI 7).toNatClampNeg) 80 ∧ (vp_in (nI 7) 8 ∧ (vp_in (nI 7) 8 ∧ ((none : Option FieldType) = none ∧ Q none (σ.1, σ.2.1, (j2_ast (j2_ast σ.2.2 2004 o0 (σ.2.2 2001 o0 (nI 7).toNatClampNeg).toNatClampNeg x1) 2001 o0 (nI 7).toNatClampNeg (((j2_ast σ.2.2 2004 o0 (σ.2.2 2001 o0 (nI 7).toNatClampNeg).toNatClampNeg x1) 2001 o0 (nI 7).toNatClampNeg) + (nI 1))))))))))))))) :
  T23 C Q 0 [vO 2 o0, vI x1] [] σ := j2_T.go hC [0] 400 h
abbrev T24 (C : j2_C) (Q : j2_P) : j2_K := j2_T C jc_X2_pushFrame none Q
set_option maxRecDepth 100000 in
theorem b24_0 {C : j2_C} (hC : j2_up1 C) {Q : j2_P} {o0 : Nat} {x1 : Int32} {σ : j2_S}
  (h : (vp_in (σ.1 2007 o0) 40 ∧ (vp_in (σ.1 2007 o0) 40 ∧ (vp_in (σ.1 2007 o0) 40 ∧ (vp_in (nI 6) 8 ∧ (vp_in (nI 6) 8 ∧ ((none : Option FieldType) = none ∧ Q none ((j2_up σ.1 2007 o0 ((σ.1 2007 o0) + (nI 1))), σ.2.1, (j2_ast (j2_ast (j2_ast (j2_ast σ.2.2 2008 o0 (σ.1 2007 o0).toNatClampNeg x1) 2009 o0 (σ.1 2007 o0).toNatClampNeg (nI 0)) 2010 o0 (σ.1 2007 o0).toNatClampNeg (nI 0)) 2001 o0 (nI 6).toNatClampNeg (if ((j2_ast (j2_ast (j2_ast σ.2.2 2008 o0 (σ.1 2007 o0).toNatClampNeg x1) 2009 o0 (σ.1 2007 o0).toNatClampNeg (nI 0)) 2010 o0 (σ.1 2007 o0).toNatClampNeg (nI 0)) 2001 o0 (nI 6).toNatClampNeg) < ((j2_up σ.1 2007 o0 ((σ.1 2007 o0) + (nI 1))) 2007 o0) then ((j2_up σ.1 2007 o0 ((σ.1 2007 o0) + (nI 1))) 2007 o0) else ((j2_ast (j2_ast (j2_ast σ.2.2 2008 o0 (σ.1 2007 o0).toNatClampNeg x1) 2009 o0 (σ.1 2007 o0).toNatClampNeg (nI 0)) 2010 o0 (σ.1 2007 o0).toNatClampNeg (nI 0)) 2001 o0 (nI 6).toNatClampNeg))))))))))) :
  T24 C Q 0 [vO 2 o0, vI x1] [] σ := j2_T.go hC [0] 400 h
abbrev T25 (C : j2_C) (Q : j2_P) : j2_K := j2_T C jc_X2_trap none Q
set_option maxRecDepth 100000 in
theorem b25_0 {C : j2_C} (hC : j2_up1 C) {Q : j2_P} {o0 : Nat} {x1 : Int32} {σ : j2_S}
  (h : (vp_in (nI 2) 8 ∧ ((none : Option FieldType) = none ∧ Q none ((j2_up σ.1 2006 o0 (nI 1)), σ.2.1, (j2_ast σ.2.2 2001 o0 (nI 2).toNatClampNeg x1))))) :
  T25 C Q 0 [vO 2 o0, vI x1] [] σ := j2_T.go hC [0] 400 h
abbrev T26 (C : j2_C) (Q : j2_P) : j2_K := j2_T C jc_X2_push none Q
set_option maxRecDepth 100000 in
theorem b26_0 {C : j2_C} (hC : j2_up1 C) {Q : j2_P} {o0 : Nat} {x1 : Int32} {σ : j2_S}
  (h : ((((σ.1 2007 o0) - (nI 1)) < 0 → ((none : Option FieldType) = none ∧ Q none σ)) ∧ (¬ (((σ.1 2007 o0) - (nI 1)) < 0) → (vp_in ((σ.1 2007 o0) - (nI 1)) 40 ∧ (((nI 10) ≤ (σ.2.2 2010 o0 ((σ.1 2007 o0) - (nI 1)).toNatClampNeg) → ((none : Option FieldType) = none ∧ Q none σ)) ∧ (¬ ((nI 10) ≤ (σ.2.2 2010 o0 ((σ.1 2007 o0) - (nI 1)).toNatClampNeg)) → (vp_in ((σ.1 2007 o0) - (nI 1)) 40 ∧ (vp_in (((((σ.1 2007 o0) - (nI 1)) * (nI 30)) + (nI 20)) + (σ.2.2 2010 o0 ((σ.1 2007 o0) - (nI 1)).toNatClampNeg)) 1200 ∧ (vp_in ((σ.1 2007 o0) - (nI 1)) 40 ∧ (vp_in ((σ.1 2007 o0) - (nI 1)) 40 ∧ ((none : Option FieldType) = none ∧ Q none (σ.1, σ.2.1, (j2_ast (j2_ast σ.2.2 2011 o0 (((((σ.1 2007 o0) - (nI 1)) * (nI 30)) + (nI 20)) + (σ.2.2 2010 o0 ((σ.1 2007 o0) - (nI 1)).toNatClampNeg)).toNatClampNeg x1) 2010 o0 ((σ.1 2007 o0) - (nI 1)).toNatClampNeg (((j2_ast σ.2.2 2011 o0 (((((σ.1 2007 o0) - (nI 1)) * (nI 30)) + (nI 20)) + (σ.2.2 2010 o0 ((σ.1 2007 o0) - (nI 1)).toNatClampNeg)).toNatClampNeg x1) 2010 o0 ((σ.1 2007 o0) - (nI 1)).toNatClampNeg) + (nI 1))))))))))))))) :
  T26 C Q 0 [vO 2 o0, vI x1, vM 2] [] σ := j2_T.go hC [0] 400 h
abbrev T27 (C : j2_C) (Q : j2_P) : j2_K := j2_T C jc_X2_pop (some .int) Q
set_option maxRecDepth 100000 in
theorem b27_0 {C : j2_C} (hC : j2_up1 C) {Q : j2_P} {o0 : Nat} {σ : j2_S}
  (h : ((((σ.1 2007 o0) - (nI 1)) < 0 → (True ∧ Q (some (vI (nI 0))) σ)) ∧ (¬ (((σ.1 2007 o0) - (nI 1)) < 0) → (vp_in ((σ.1 2007 o0) - (nI 1)) 40 ∧ ((0 < (σ.2.2 2010 o0 ((σ.1 2007 o0) - (nI 1)).toNatClampNeg) → (vp_in ((σ.1 2007 o0) - (nI 1)) 40 ∧ (vp_in ((σ.1 2007 o0) - (nI 1)) 40 ∧ (vp_in ((σ.1 2007 o0) - (nI 1)) 40 ∧ (vp_in (((((σ.1 2007 o0) - (nI 1)) * (nI 30)) + (nI 20)) + ((j2_ast σ.2.2 2010 o0 ((σ.1 2007 o0) - (nI 1)).toNatClampNeg ((σ.2.2 2010 o0 ((σ.1 2007 o0) - (nI 1)).toNatClampNeg) - (nI 1))) 2010 o0 ((σ.1 2007 o0) - (nI 1)).toNatClampNeg)) 1200 ∧ (True ∧ Q (some (vI ((j2_ast σ.2.2 2010 o0 ((σ.1 2007 o0) - (nI 1)).toNatClampNeg ((σ.2.2 2010 o0 ((σ.1 2007 o0) - (nI 1)).toNatClampNeg) - (nI 1))) 2011 o0 (((((σ.1 2007 o0) - (nI 1)) * (nI 30)) + (nI 20)) + ((j2_ast σ.2.2 2010 o0 ((σ.1 2007 o0) - (nI 1)).toNatClampNeg ((σ.2.2 2010 o0 ((σ.1 2007 o0) - (nI 1)).toNatClampNeg) - (nI 1))) 2010 o0 ((σ.1 2007 o0) - (nI 1)).toNatClampNeg)).toNatClampNeg))) (σ.1, σ.2.1, (j2_ast σ.2.2 2010 o0 ((σ.1 2007 o0) - (nI 1)).toNatClampNeg ((σ.2.2 2010 o0 ((σ.1 2007 o0) - (nI 1)).toNatClampNeg) - (nI 1)))))))))) ∧ (¬ (0 < (σ.2.2 2010 o0 ((σ.1 2007 o0) - (nI 1)).toNatClampNeg)) → (True ∧ Q (some (vI (nI 0))) σ))))))) :
  T27 C Q 0 [vO 2 o0, vM 2] [] σ := j2_T.go hC [0] 400 h
abbrev T28 (C : j2_C) (Q : j2_P) : j2_K := j2_T C jc_X2_step none Q
set_option maxRecDepth 100000 in
theorem b28_0 {C : j2_C} (hC : j2_up1 C) {Q : j2_P} {o0 : Nat} {p0 : j2_W} {g1 : Nat} {p2 : j2_W} {p3 : j2_W} {p4 : j2_W} {p5 : j2_W} {p6 : j2_W} {p7 : j2_W} {p8 : j2_W} {p9 : j2_W} {I : Nat → Nat → Int32} {A : Nat → Nat → Nat → Int32}
  (h : ((((I 2007 o0) - (nI 1)) < 0 → ((none : Option FieldType) = none ∧ Q none ((j2_up I 2006 o0 (nI 0)), [p0, vO 3 g1, p2, p3, p4, p5, p6, p7, p8, p9], A))) ∧ (¬ (((I 2007 o0) - (nI 1)) < 0) → (vp_in ((I 2007 o0) - (nI 1)) 40 ∧ (vp_in ((I 2007 o0) - (nI 1)) 40 ∧ C 45 [vO 3 g1, vI (A 2008 o0 ((I 2007 o0) - (nI 1)).toNatClampNeg), vI (A 2009 o0 ((I 2007 o0) - (nI 1)).toNatClampNeg)] (I, [p0, vO 3 g1, p2, p3, p4, p5, p6, p7, p8, p9], A) (fun r σ1 => T28 C Q 18 [vO 2 o0, vI ((I 2007 o0) - (nI 1)), vM 2, vM 2, vM 2, vM 2] (r.toList ++ []) σ1)))))) :
  T28 C Q 0 [vO 2 o0, vM 2, vM 2, vM 2, vM 2, vM 2] [] (I, [p0, vO 3 g1, p2, p3, p4, p5, p6, p7, p8, p9], A) := j2_T.go hC [0, 18, 58, 65, 82, 92, 98, 108, 109, 120, 121, 128] 400 h
set_option maxRecDepth 100000 in
theorem b28_18 {C : j2_C} (hC : j2_up1 C) {Q : j2_P} {o0 : Nat} {x1 : Int32} {xs0 : Int32} {p0 : j2_W} {g1 : Nat} {p2 : j2_W} {p3 : j2_W} {p4 : j2_W} {p5 : j2_W} {p6 : j2_W} {p7 : j2_W} {p8 : j2_W} {p9 : j2_W} {I : Nat → Nat → Int32} {A : Nat → Nat → Nat → Int32}
  (h : ((¬ xs0 = 0 → (vp_in x1 40 ∧ (vp_in x1 40 ∧ (vp_in (((A 2008 o0 x1.toNatClampNeg) * (nI 120)) + (A 2009 o0 x1.toNatClampNeg)) 9600 ∧ (vp_in (((A 2008 o0 x1.toNatClampNeg) * (nI 120)) + (A 2009 o0 x1.toNatClampNeg)) 9600 ∧ (vp_in (((A 2008 o0 x1.toNatClampNeg) * (nI 120)) + (A 2009 o0 x1.toNatClampNeg)) 9600 ∧ C 151 [vI (A 1 (g1 + 17) (((A 2008 o0 x1.toNatClampNeg) * (nI 120)) + (A 2009 o0 x1.toNatClampNeg)).toNatClampNeg)] (I, [p0, vO 3 g1, p2, p3, p4, p5, p6, p7, p8, p9], A) (fun r σ1 => T28 C Q 58 [vO 2 o0, vI x1, vI (((A 2008 o0 x1.toNatClampNeg) * (nI 120)) + (A 2009 o0 x1.toNatClampNeg)), vI (A 1 (g1 + 17) (((A 2008 o0 x1.toNatClampNeg) * (nI 120)) + (A 2009 o0 x1.toNatClampNeg)).toNatClampNeg), vI (A 2 (g1 + 17) (((A 2008 o0 x1.toNatClampNeg) * (nI 120)) + (A 2009 o0 x1.toNatClampNeg)).toNatClampNeg), vI (A 3 (g1 + 17) (((A 2008 o0 x1.toNatClampNeg) * (nI 120)) + (A 2009 o0 x1.toNatClampNeg)).toNatClampNeg)] (r.toList ++ []) σ1))))))) ∧ (¬ (¬ xs0 = 0) → ((none : Option FieldType) = none ∧ Q none ((j2_up I 2006 o0 (nI 0)), [p0, vO 3 g1, p2, p3, p4, p5, p6, p7, p8, p9], A))))) :
  T28 C Q 18 [vO 2 o0, vI x1, vM 2, vM 2, vM 2, vM 2] [vI xs0] (I, [p0, vO 3 g1, p2, p3, p4, p5, p6, p7, p8, p9], A) := j2_T.go hC [0, 18, 58, 65, 82, 92, 98, 108, 109, 120, 121, 128] 400 h
set_option maxRecDepth 100000 in
theorem b28_58 {C : j2_C} (hC : j2_up1 C) {Q : j2_P} {o0 : Nat} {x1 : Int32} {x2 : Int32} {x3 : Int32} {x4 : Int32} {x5 : Int32} {xs0 : Int32} {p0 : j2_W} {g1 : Nat} {p2 : j2_W} {p3 : j2_W} {p4 : j2_W} {p5 : j2_W} {p6 : j2_W} {p7 : j2_W} {p8 : j2_W} {p9 : j2_W} {I : Nat → Nat → Int32} {A : Nat → Nat → Nat → Int32}
  (h : ((xs0 = 0 → ((x3 = (nI 20) → T28 C Q 82 [vO 2 o0, vI x1, vI x2, vI x3, vI x4, vI x5] [] (I, [p0, vO 3 g1, p2, p3, p4, p5, p6, p7, p8, p9], A)) ∧ (¬ (x3 = (nI 20)) → ((¬ x3 = (nI 21) → ((¬ x3 = (nI 22) → ((x3 < (nI 6) → T28 C Q 109 [vO 2 o0, vI x1, vI x2, vI x3, vI x4, vI x5] [] (I, [p0, vO 3 g1, p2, p3, p4, p5, p6, p7, p8, p9], A)) ∧ (¬ (x3 < (nI 6)) → (((nI 10) < x3 → T28 C Q 109 [vO 2 o0, vI x1, vI x2, vI x3, vI x4, vI x5] [] (I, [p0, vO 3 g1, p2, p3, p4, p5, p6, p7, p8, p9], A)) ∧ (¬ ((nI 10) < x3) → C 30 [vO 2 o0, vI x3] (I, [p0, vO 3 g1, p2, p3, p4, p5, p6, p7, p8, p9], A) (fun r σ1 => T28 C Q 108 [vO 2 o0, vI x1, vI x2, vI x3, vI x4, vI x5] (r.toList ++ []) σ1)))))) ∧ (¬ (¬ x3 = (nI 22)) → C 39 [vO 2 o0] (I, [p0, vO 3 g1, p2, p3, p4, p5, p6, p7, p8, p9], A) (fun r σ1 => T28 C Q 98 [vO 2 o0, vI x1, vI x2, vI x3, vI x4, vI x5] (r.toList ++ []) σ1)))) ∧ (¬ (¬ x3 = (nI 21)) → T28 C Q 82 [vO 2 o0, vI x1, vI x2, vI x3, vI x4, vI x5] [] (I, [p0, vO 3 g1, p2, p3, p4, p5, p6, p7, p8, p9], A)))))) ∧ (¬ (xs0 = 0) → C 29 [vO 2 o0, vI x3] (I, [p0, vO 3 g1, p2, p3, p4, p5, p6, p7, p8, p9], A) (fun r σ1 => T28 C Q 65 [vO 2 o0, vI x1, vI x2, vI x3, vI x4, vI x5] (r.toList ++ [vI x1, vA 2009 o0]) σ1)))) :
  T28 C Q 58 [vO 2 o0, vI x1, vI x2, vI x3, vI x4, vI x5] [vI xs0] (I, [p0, vO 3 g1, p2, p3, p4, p5, p6, p7, p8, p9], A) := j2_T.go hC [0, 18, 58, 65, 82, 92, 98, 108, 109, 120, 121, 128] 400 h
set_option maxRecDepth 100000 in
theorem b28_65 {C : j2_C} (hC : j2_up1 C) {Q : j2_P} {o0 : Nat} {x1 : Int32} {x2 : Int32} {x3 : Int32} {x4 : Int32} {x5 : Int32} {xs0 : Int32} {xs1 : Int32} {os2 : Nat} {p0 : j2_W} {g1 : Nat} {p2 : j2_W} {p3 : j2_W} {p4 : j2_W} {p5 : j2_W} {p6 : j2_W} {p7 : j2_W} {p8 : j2_W} {p9 : j2_W} {I : Nat → Nat → Int32} {A : Nat → Nat → Nat → Int32}
  (h : ((xs0 = 0 → (vp_in x1 40 ∧ (vp_in xs1 40 ∧ ((none : Option FieldType) = none ∧ Q none (I, [p0, vO 3 g1, p2, p3, p4, p5, p6, p7, p8, p9], (j2_ast A 2009 os2 xs1.toNatClampNeg ((A 2009 o0 x1.toNatClampNeg) + (nI 1)))))))) ∧ (¬ (xs0 = 0) → (vp_in xs1 40 ∧ ((none : Option FieldType) = none ∧ Q none (I, [p0, vO 3 g1, p2, p3, p4, p5, p6, p7, p8, p9], (j2_ast A 2009 os2 xs1.toNatClampNeg x4))))))) :
  T28 C Q 65 [vO 2 o0, vI x1, vI x2, vI x3, vI x4, vI x5] [vI xs0, vI xs1, vA 2009 os2] (I, [p0, vO 3 g1, p2, p3, p4, p5, p6, p7, p8, p9], A) := j2_T.go hC [0, 18, 58, 65, 82, 92, 98, 108, 109, 120, 121, 128] 400 h
set_option maxRecDepth 100000 in
theorem b28_82 {C : j2_C} (hC : j2_up1 C) {Q : j2_P} {o0 : Nat} {x1 : Int32} {x2 : Int32} {x3 : Int32} {x4 : Int32} {x5 : Int32} {p0 : j2_W} {g1 : Nat} {p2 : j2_W} {p3 : j2_W} {p4 : j2_W} {p5 : j2_W} {p6 : j2_W} {p7 : j2_W} {p8 : j2_W} {p9 : j2_W} {I : Nat → Nat → Int32} {A : Nat → Nat → Nat → Int32}
  (h : (vp_in x4 10 ∧ C 38 [vO 2 o0, vI x3, vI ((A 3007 g1 x4.toNatClampNeg) + x5)] (I, [p0, vO 3 g1, p2, p3, p4, p5, p6, p7, p8, p9], A) (fun r σ1 => T28 C Q 92 [vO 2 o0, vI x1, vI x2, vI x3, vI x4, vI x5] (r.toList ++ []) σ1))) :
  T28 C Q 82 [vO 2 o0, vI x1, vI x2, vI x3, vI x4, vI x5] [] (I, [p0, vO 3 g1, p2, p3, p4, p5, p6, p7, p8, p9], A) := j2_T.go hC [0, 18, 58, 65, 82, 92, 98, 108, 109, 120, 121, 128] 400 h
set_option maxRecDepth 100000 in
theorem b28_92 {C : j2_C} (hC : j2_up1 C) {Q : j2_P} {o0 : Nat} {x1 : Int32} {x2 : Int32} {x3 : Int32} {x4 : Int32} {x5 : Int32} {p0 : j2_W} {g1 : Nat} {p2 : j2_W} {p3 : j2_W} {p4 : j2_W} {p5 : j2_W} {p6 : j2_W} {p7 : j2_W} {p8 : j2_W} {p9 : j2_W} {I : Nat → Nat → Int32} {A : Nat → Nat → Nat → Int32}
  (h : ((none : Option FieldType) = none ∧ Q none (I, [p0, vO 3 g1, p2, p3, p4, p5, p6, p7, p8, p9], A))) :
  T28 C Q 92 [vO 2 o0, vI x1, vI x2, vI x3, vI x4, vI x5] [] (I, [p0, vO 3 g1, p2, p3, p4, p5, p6, p7, p8, p9], A) := j2_T.go hC [0, 18, 58, 65, 82, 92, 98, 108, 109, 120, 121, 128] 400 h
set_option maxRecDepth 100000 in
theorem b28_98 {C : j2_C} (hC : j2_up1 C) {Q : j2_P} {o0 : Nat} {x1 : Int32} {x2 : Int32} {x3 : Int32} {x4 : Int32} {x5 : Int32} {p0 : j2_W} {g1 : Nat} {p2 : j2_W} {p3 : j2_W} {p4 : j2_W} {p5 : j2_W} {p6 : j2_W} {p7 : j2_W} {p8 : j2_W} {p9 : j2_W} {I : Nat → Nat → Int32} {A : Nat → Nat → Nat → Int32}
  (h : ((none : Option FieldType) = none ∧ Q none (I, [p0, vO 3 g1, p2, p3, p4, p5, p6, p7, p8, p9], A))) :
  T28 C Q 98 [vO 2 o0, vI x1, vI x2, vI x3, vI x4, vI x5] [] (I, [p0, vO 3 g1, p2, p3, p4, p5, p6, p7, p8, p9], A) := j2_T.go hC [0, 18, 58, 65, 82, 92, 98, 108, 109, 120, 121, 128] 400 h
set_option maxRecDepth 100000 in
theorem b28_108 {C : j2_C} (hC : j2_up1 C) {Q : j2_P} {o0 : Nat} {x1 : Int32} {x2 : Int32} {x3 : Int32} {x4 : Int32} {x5 : Int32} {p0 : j2_W} {g1 : Nat} {p2 : j2_W} {p3 : j2_W} {p4 : j2_W} {p5 : j2_W} {p6 : j2_W} {p7 : j2_W} {p8 : j2_W} {p9 : j2_W} {I : Nat → Nat → Int32} {A : Nat → Nat → Nat → Int32}
  (h : T28 C Q 128 [vO 2 o0, vI x1, vI x2, vI x3, vI x4, vI x5] [] (I, [p0, vO 3 g1, p2, p3, p4, p5, p6, p7, p8, p9], A)) :
  T28 C Q 108 [vO 2 o0, vI x1, vI x2, vI x3, vI x4, vI x5] [] (I, [p0, vO 3 g1, p2, p3, p4, p5, p6, p7, p8, p9], A) := j2_T.go hC [0, 18, 58, 65, 82, 92, 98, 108, 109, 120, 121, 128] 400 h
set_option maxRecDepth 100000 in
theorem b28_109 {C : j2_C} (hC : j2_up1 C) {Q : j2_P} {o0 : Nat} {x1 : Int32} {x2 : Int32} {x3 : Int32} {x4 : Int32} {x5 : Int32} {p0 : j2_W} {g1 : Nat} {p2 : j2_W} {p3 : j2_W} {p4 : j2_W} {p5 : j2_W} {p6 : j2_W} {p7 : j2_W} {p8 : j2_W} {p9 : j2_W} {I : Nat → Nat → Int32} {A : Nat → Nat → Nat → Int32}
  (h : ((x3 < (nI 16) → T28 C Q 121 [vO 2 o0, vI x1, vI x2, vI x3, vI x4, vI x5] [] (I, [p0, vO 3 g1, p2, p3, p4, p5, p6, p7, p8, p9], A)) ∧ (¬ (x3 < (nI 16)) → (((nI 19) < x3 → T28 C Q 121 [vO 2 o0, vI x1, vI x2, vI x3, vI x4, vI x5] [] (I, [p0, vO 3 g1, p2, p3, p4, p5, p6, p7, p8, p9], A)) ∧ (¬ ((nI 19) < x3) → C 37 [vO 2 o0, vI x3, vI x4, vI x5] (I, [p0, vO 3 g1, p2, p3, p4, p5, p6, p7, p8, p9], A) (fun r σ1 => T28 C Q 120 [vO 2 o0, vI x1, vI x2, vI x3, vI x4, vI x5] (r.toList ++ []) σ1)))))) :
  T28 C Q 109 [vO 2 o0, vI x1, vI x2, vI x3, vI x4, vI x5] [] (I, [p0, vO 3 g1, p2, p3, p4, p5, p6, p7, p8, p9], A) := j2_T.go hC [0, 18, 58, 65, 82, 92, 98, 108, 109, 120, 121, 128] 400 h
set_option maxRecDepth 100000 in
theorem b28_120 {C : j2_C} (hC : j2_up1 C) {Q : j2_P} {o0 : Nat} {x1 : Int32} {x2 : Int32} {x3 : Int32} {x4 : Int32} {x5 : Int32} {p0 : j2_W} {g1 : Nat} {p2 : j2_W} {p3 : j2_W} {p4 : j2_W} {p5 : j2_W} {p6 : j2_W} {p7 : j2_W} {p8 : j2_W} {p9 : j2_W} {I : Nat → Nat → Int32} {A : Nat → Nat → Nat → Int32}
  (h : T28 C Q 128 [vO 2 o0, vI x1, vI x2, vI x3, vI x4, vI x5] [] (I, [p0, vO 3 g1, p2, p3, p4, p5, p6, p7, p8, p9], A)) :
  T28 C Q 120 [vO 2 o0, vI x1, vI x2, vI x3, vI x4, vI x5] [] (I, [p0, vO 3 g1, p2, p3, p4, p5, p6, p7, p8, p9], A) := j2_T.go hC [0, 18, 58, 65, 82, 92, 98, 108, 109, 120, 121, 128] 400 h
set_option maxRecDepth 100000 in
theorem b28_121 {C : j2_C} (hC : j2_up1 C) {Q : j2_P} {o0 : Nat} {x1 : Int32} {x2 : Int32} {x3 : Int32} {x4 : Int32} {x5 : Int32} {p0 : j2_W} {g1 : Nat} {p2 : j2_W} {p3 : j2_W} {p4 : j2_W} {p5 : j2_W} {p6 : j2_W} {p7 : j2_W} {p8 : j2_W} {p9 : j2_W} {I : Nat → Nat → Int32} {A : Nat → Nat → Nat → Int32}
  (h : C 31 [vO 2 o0, vI x3, vI x4, vI (x1 * (nI 30))] (I, [p0, vO 3 g1, p2, p3, p4, p5, p6, p7, p8, p9], A) (fun r σ1 => T28 C Q 128 [vO 2 o0, vI x1, vI x2, vI x3, vI x4, vI x5] (r.toList ++ []) σ1)) :
  T28 C Q 121 [vO 2 o0, vI x1, vI x2, vI x3, vI x4, vI x5] [] (I, [p0, vO 3 g1, p2, p3, p4, p5, p6, p7, p8, p9], A) := j2_T.go hC [0, 18, 58, 65, 82, 92, 98, 108, 109, 120, 121, 128] 400 h
set_option maxRecDepth 100000 in
theorem b28_128 {C : j2_C} (hC : j2_up1 C) {Q : j2_P} {o0 : Nat} {x1 : Int32} {x2 : Int32} {x3 : Int32} {x4 : Int32} {x5 : Int32} {p0 : j2_W} {g1 : Nat} {p2 : j2_W} {p3 : j2_W} {p4 : j2_W} {p5 : j2_W} {p6 : j2_W} {p7 : j2_W} {p8 : j2_W} {p9 : j2_W} {I : Nat → Nat → Int32} {A : Nat → Nat → Nat → Int32}
  (h : ((¬ (I 2006 o0) = (-1 : Int32) → ((none : Option FieldType) = none ∧ Q none (I, [p0, vO 3 g1, p2, p3, p4, p5, p6, p7, p8, p9], A))) ∧ (¬ (¬ (I 2006 o0) = (-1 : Int32)) → (vp_in x1 40 ∧ (vp_in x1 40 ∧ ((none : Option FieldType) = none ∧ Q none (I, [p0, vO 3 g1, p2, p3, p4, p5, p6, p7, p8, p9], (j2_ast A 2009 o0 x1.toNatClampNeg ((A 2009 o0 x1.toNatClampNeg) + (nI 1)))))))))) :
  T28 C Q 128 [vO 2 o0, vI x1, vI x2, vI x3, vI x4, vI x5] [] (I, [p0, vO 3 g1, p2, p3, p4, p5, p6, p7, p8, p9], A) := j2_T.go hC [0, 18, 58, 65, 82, 92, 98, 108, 109, 120, 121, 128] 400 h
abbrev T29 (C : j2_C) (Q : j2_P) : j2_K := j2_T C jc_X2_jumps (some .boolean) Q
set_option maxRecDepth 100000 in
theorem b29_0 {C : j2_C} (hC : j2_up1 C) {Q : j2_P} {o0 : Nat} {x1 : Int32} {σ : j2_S}
  (h : ((¬ x1 = (nI 11) → C 27 [vO 2 o0] σ (fun r σ1 => T29 C Q 7 [vO 2 o0, vI x1, vM 2] (r.toList ++ []) σ1)) ∧ (¬ (¬ x1 = (nI 11)) → (((nI 1) = 0 ∨ (nI 1) = 1) ∧ Q (some (vI (nI 1))) σ)))) :
  T29 C Q 0 [vO 2 o0, vI x1, vM 2] [] σ := j2_T.go hC [0, 7, 13] 400 h
set_option maxRecDepth 100000 in
theorem b29_7 {C : j2_C} (hC : j2_up1 C) {Q : j2_P} {o0 : Nat} {x1 : Int32} {xs0 : Int32} {σ : j2_S}
  (h : ((¬ x1 = (nI 13) → ((¬ xs0 = 0 → (((nI 0) = 0 ∨ (nI 0) = 1) ∧ Q (some (vI (nI 0))) σ)) ∧ (¬ (¬ xs0 = 0) → (((nI 1) = 0 ∨ (nI 1) = 1) ∧ Q (some (vI (nI 1))) σ)))) ∧ (¬ (¬ x1 = (nI 13)) → C 27 [vO 2 o0] σ (fun r σ1 => T29 C Q 13 [vO 2 o0, vI x1, vI xs0] (r.toList ++ []) σ1)))) :
  T29 C Q 7 [vO 2 o0, vI x1, vM 2] [vI xs0] σ := j2_T.go hC [0, 7, 13] 400 h
set_option maxRecDepth 100000 in
theorem b29_13 {C : j2_C} (hC : j2_up1 C) {Q : j2_P} {o0 : Nat} {x1 : Int32} {x2 : Int32} {xs0 : Int32} {σ : j2_S}
  (h : ((x2 ≤ xs0 → (((nI 0) = 0 ∨ (nI 0) = 1) ∧ Q (some (vI (nI 0))) σ)) ∧ (¬ (x2 ≤ xs0) → (((nI 1) = 0 ∨ (nI 1) = 1) ∧ Q (some (vI (nI 1))) σ)))) :
  T29 C Q 13 [vO 2 o0, vI x1, vI x2] [vI xs0] σ := j2_T.go hC [0, 7, 13] 400 h
abbrev T30 (C : j2_C) (Q : j2_P) : j2_K := j2_T C jc_X2_reckon none Q
set_option maxRecDepth 100000 in
theorem b30_0 {C : j2_C} (hC : j2_up1 C) {Q : j2_P} {o0 : Nat} {x1 : Int32} {σ : j2_S}
  (h : C 27 [vO 2 o0] σ (fun r σ1 => T30 C Q 2 [vO 2 o0, vI x1, vM 2, vM 2] (r.toList ++ []) σ1)) :
  T30 C Q 0 [vO 2 o0, vI x1, vM 2, vM 2] [] σ := j2_T.go hC [0, 2, 5, 14, 17, 18, 23, 24] 400 h
set_option maxRecDepth 100000 in
theorem b30_2 {C : j2_C} (hC : j2_up1 C) {Q : j2_P} {o0 : Nat} {x1 : Int32} {xs0 : Int32} {σ : j2_S}
  (h : C 27 [vO 2 o0] σ (fun r σ1 => T30 C Q 5 [vO 2 o0, vI x1, vI xs0, vM 2] (r.toList ++ []) σ1)) :
  T30 C Q 2 [vO 2 o0, vI x1, vM 2, vM 2] [vI xs0] σ := j2_T.go hC [0, 2, 5, 14, 17, 18, 23, 24] 400 h
set_option maxRecDepth 100000 in
theorem b30_5 {C : j2_C} (hC : j2_up1 C) {Q : j2_P} {o0 : Nat} {x1 : Int32} {x2 : Int32} {xs0 : Int32} {σ : j2_S}
  (h : ((¬ x2 = 0 → T30 C Q 18 [vO 2 o0, vI x1, vI x2, vI xs0] [] σ) ∧ (¬ (¬ x2 = 0) → ((x1 = (nI 9) → T30 C Q 14 [vO 2 o0, vI x1, vI x2, vI xs0] [] σ) ∧ (¬ (x1 = (nI 9)) → ((¬ x1 = (nI 10) → T30 C Q 18 [vO 2 o0, vI x1, vI x2, vI xs0] [] σ) ∧ (¬ (¬ x1 = (nI 10)) → T30 C Q 14 [vO 2 o0, vI x1, vI x2, vI xs0] [] σ))))))) :
  T30 C Q 5 [vO 2 o0, vI x1, vI x2, vM 2] [vI xs0] σ := j2_T.go hC [0, 2, 5, 14, 17, 18, 23, 24] 400 h
set_option maxRecDepth 100000 in
theorem b30_14 {C : j2_C} (hC : j2_up1 C) {Q : j2_P} {o0 : Nat} {x1 : Int32} {x2 : Int32} {x3 : Int32} {σ : j2_S}
  (h : C 25 [vO 2 o0, vI (nI 2)] σ (fun r σ1 => T30 C Q 17 [vO 2 o0, vI x1, vI x2, vI x3] (r.toList ++ []) σ1)) :
  T30 C Q 14 [vO 2 o0, vI x1, vI x2, vI x3] [] σ := j2_T.go hC [0, 2, 5, 14, 17, 18, 23, 24] 400 h
set_option maxRecDepth 100000 in
theorem b30_17 {C : j2_C} (hC : j2_up1 C) {Q : j2_P} {o0 : Nat} {x1 : Int32} {x2 : Int32} {x3 : Int32} {σ : j2_S}
  (h : T30 C Q 24 [vO 2 o0, vI x1, vI x2, vI x3] [] σ) :
  T30 C Q 17 [vO 2 o0, vI x1, vI x2, vI x3] [] σ := j2_T.go hC [0, 2, 5, 14, 17, 18, 23, 24] 400 h
set_option maxRecDepth 100000 in
theorem b30_18 {C : j2_C} (hC : j2_up1 C) {Q : j2_P} {o0 : Nat} {x1 : Int32} {x2 : Int32} {x3 : Int32} {σ : j2_S}
  (h : C 153 [vI x1, vI x3, vI x2] σ (fun r σ1 => T30 C Q 23 [vO 2 o0, vI x1, vI x2, vI x3] (r.toList ++ [vO 2 o0]) σ1)) :
  T30 C Q 18 [vO 2 o0, vI x1, vI x2, vI x3] [] σ := j2_T.go hC [0, 2, 5, 14, 17, 18, 23, 24] 400 h
set_option maxRecDepth 100000 in
theorem b30_23 {C : j2_C} (hC : j2_up1 C) {Q : j2_P} {o0 : Nat} {x1 : Int32} {x2 : Int32} {x3 : Int32} {xs0 : Int32} {os1 : Nat} {σ : j2_S}
  (h : C 26 [vO 2 os1, vI xs0] σ (fun r σ1 => T30 C Q 24 [vO 2 o0, vI x1, vI x2, vI x3] (r.toList ++ []) σ1)) :
  T30 C Q 23 [vO 2 o0, vI x1, vI x2, vI x3] [vI xs0, vO 2 os1] σ := j2_T.go hC [0, 2, 5, 14, 17, 18, 23, 24] 400 h
set_option maxRecDepth 100000 in
theorem b30_24 {C : j2_C} (hC : j2_up1 C) {Q : j2_P} {o0 : Nat} {x1 : Int32} {x2 : Int32} {x3 : Int32} {σ : j2_S}
  (h : ((none : Option FieldType) = none ∧ Q none σ)) :
  T30 C Q 24 [vO 2 o0, vI x1, vI x2, vI x3] [] σ := j2_T.go hC [0, 2, 5, 14, 17, 18, 23, 24] 400 h
abbrev T31 (C : j2_C) (Q : j2_P) : j2_K := j2_T C jc_X2_doPlain none Q
set_option maxRecDepth 100000 in
theorem b31_0 {C : j2_C} (hC : j2_up1 C) {Q : j2_P} {o0 : Nat} {x1 : Int32} {x2 : Int32} {x3 : Int32} {σ : j2_S}
  (h : T31 C Q 1 [vO 2 o0, vI x1, vI x2, vI x3, vM 2] [vI x1] σ) :
  T31 C Q 0 [vO 2 o0, vI x1, vI x2, vI x3, vM 2] [] σ := j2_T.go hC [0, 1, 2, 5, 6, 9, 10, 18, 19, 26, 28, 30, 32, 34, 38, 41, 42, 45, 46, 49, 50, 51, 55, 56, 57, 62, 63, 67, 68, 69, 72] 400 h
set_option maxRecDepth 100000 in
theorem b31_1 {C : j2_C} (hC : j2_up1 C) {Q : j2_P} {o0 : Nat} {x1 : Int32} {x2 : Int32} {x3 : Int32} {xs0 : Int32} {σ : j2_S} (h0 : xs0 = (nI 0) → T31 C Q 2 [vO 2 o0, vI x1, vI x2, vI x3, vM 2] [] σ) (h1 : xs0 = (nI 1) → T31 C Q 6 [vO 2 o0, vI x1, vI x2, vI x3, vM 2] [] σ) (h2 : xs0 = (nI 2) → T31 C Q 10 [vO 2 o0, vI x1, vI x2, vI x3, vM 2] [] σ) (h3 : xs0 = (nI 3) → T31 C Q 19 [vO 2 o0, vI x1, vI x2, vI x3, vM 2] [] σ) (h4 : xs0 = (nI 4) → T31 C Q 28 [vO 2 o0, vI x1, vI x2, vI x3, vM 2] [] σ) (h5 : xs0 = (nI 5) → T31 C Q 32 [vO 2 o0, vI x1, vI x2, vI x3, vM 2] [] σ) (h6 : xs0 = (nI 6) → T31 C Q 69 [vO 2 o0, vI x1, vI x2, vI x3, vM 2] [] σ) (h7 : xs0 = (nI 7) → T31 C Q 69 [vO 2 o0, vI x1, vI x2, vI x3, vM 2] [] σ) (h8 : xs0 = (nI 8) → T31 C Q 69 [vO 2 o0, vI x1, vI x2, vI x3, vM 2] [] σ) (h9 : xs0 = (nI 9) → T31 C Q 69 [vO 2 o0, vI x1, vI x2, vI x3, vM 2] [] σ) (h10 : xs0 = (nI 10) → T31 C Q 69 [vO 2 o0, vI x1, vI x2, vI x3, vM 2] [] σ) (h11 : xs0 = (nI 11) → T31 C Q 69 [vO 2 o0, vI x1, vI x2, vI x3, vM 2] [] σ) (h12 : xs0 = (nI 12) → T31 C Q 69 [vO 2 o0, vI x1, vI x2, vI x3, vM 2] [] σ) (h13 : xs0 = (nI 13) → T31 C Q 69 [vO 2 o0, vI x1, vI x2, vI x3, vM 2] [] σ) (h14 : xs0 = (nI 14) → T31 C Q 69 [vO 2 o0, vI x1, vI x2, vI x3, vM 2] [] σ) (h15 : xs0 = (nI 15) → T31 C Q 42 [vO 2 o0, vI x1, vI x2, vI x3, vM 2] [] σ) (h16 : xs0 = (nI 16) → T31 C Q 69 [vO 2 o0, vI x1, vI x2, vI x3, vM 2] [] σ) (h17 : xs0 = (nI 17) → T31 C Q 69 [vO 2 o0, vI x1, vI x2, vI x3, vM 2] [] σ) (h18 : xs0 = (nI 18) → T31 C Q 69 [vO 2 o0, vI x1, vI x2, vI x3, vM 2] [] σ) (h19 : xs0 = (nI 19) → T31 C Q 69 [vO 2 o0, vI x1, vI x2, vI x3, vM 2] [] σ) (h20 : xs0 = (nI 20) → T31 C Q 69 [vO 2 o0, vI x1, vI x2, vI x3, vM 2] [] σ) (h21 : xs0 = (nI 21) → T31 C Q 69 [vO 2 o0, vI x1, vI x2, vI x3, vM 2] [] σ) (h22 : xs0 = (nI 22) → T31 C Q 69 [vO 2 o0, vI x1, vI x2, vI x3, vM 2] [] σ) (h23 : xs0 = (nI 23) → T31 C Q 46 [vO 2 o0, vI x1, vI x2, vI x3, vM 2] [] σ) (h24 : xs0 = (nI 24) → T31 C Q 51 [vO 2 o0, vI x1, vI x2, vI x3, vM 2] [] σ) (h25 : xs0 = (nI 25) → T31 C Q 57 [vO 2 o0, vI x1, vI x2, vI x3, vM 2] [] σ) (hd : (xs0.toInt < 0 ∨ 25 < xs0.toInt) → T31 C Q 69 [vO 2 o0, vI x1, vI x2, vI x3, vM 2] [] σ) :
  T31 C Q 1 [vO 2 o0, vI x1, vI x2, vI x3, vM 2] [vI xs0] σ := j2_T.tsw hC (d := 69) (lo := 0) (hi := 25) (ts := #[2, 6, 10, 19, 28, 32, 69, 69, 69, 69, 69, 69, 69, 69, 69, 42, 69, 69, 69, 69, 69, 69, 69, 46, 51, 57]) rfl hd (fun g1 g2 => by
  have g : xs0.toInt = 0 ∨ xs0.toInt = 1 ∨ xs0.toInt = 2 ∨ xs0.toInt = 3 ∨ xs0.toInt = 4 ∨ xs0.toInt = 5 ∨ xs0.toInt = 6 ∨ xs0.toInt = 7 ∨ xs0.toInt = 8 ∨ xs0.toInt = 9 ∨ xs0.toInt = 10 ∨ xs0.toInt = 11 ∨ xs0.toInt = 12 ∨ xs0.toInt = 13 ∨ xs0.toInt = 14 ∨ xs0.toInt = 15 ∨ xs0.toInt = 16 ∨ xs0.toInt = 17 ∨ xs0.toInt = 18 ∨ xs0.toInt = 19 ∨ xs0.toInt = 20 ∨ xs0.toInt = 21 ∨ xs0.toInt = 22 ∨ xs0.toInt = 23 ∨ xs0.toInt = 24 ∨ xs0.toInt = 25 := by omega
  rcases g with g | g | g | g | g | g | g | g | g | g | g | g | g | g | g | g | g | g | g | g | g | g | g | g | g | g
  · rw [g]; exact h0 (Int32.toInt_inj.mp (g.trans (by decide)))
  · rw [g]; exact h1 (Int32.toInt_inj.mp (g.trans (by decide)))
  · rw [g]; exact h2 (Int32.toInt_inj.mp (g.trans (by decide)))
  · rw [g]; exact h3 (Int32.toInt_inj.mp (g.trans (by decide)))
  · rw [g]; exact h4 (Int32.toInt_inj.mp (g.trans (by decide)))
  · rw [g]; exact h5 (Int32.toInt_inj.mp (g.trans (by decide)))
  · rw [g]; exact h6 (Int32.toInt_inj.mp (g.trans (by decide)))
  · rw [g]; exact h7 (Int32.toInt_inj.mp (g.trans (by decide)))
  · rw [g]; exact h8 (Int32.toInt_inj.mp (g.trans (by decide)))
  · rw [g]; exact h9 (Int32.toInt_inj.mp (g.trans (by decide)))
  · rw [g]; exact h10 (Int32.toInt_inj.mp (g.trans (by decide)))
  · rw [g]; exact h11 (Int32.toInt_inj.mp (g.trans (by decide)))
  · rw [g]; exact h12 (Int32.toInt_inj.mp (g.trans (by decide)))
  · rw [g]; exact h13 (Int32.toInt_inj.mp (g.trans (by decide)))
  · rw [g]; exact h14 (Int32.toInt_inj.mp (g.trans (by decide)))
  · rw [g]; exact h15 (Int32.toInt_inj.mp (g.trans (by decide)))
  · rw [g]; exact h16 (Int32.toInt_inj.mp (g.trans (by decide)))
  · rw [g]; exact h17 (Int32.toInt_inj.mp (g.trans (by decide)))
  · rw [g]; exact h18 (Int32.toInt_inj.mp (g.trans (by decide)))
  · rw [g]; exact h19 (Int32.toInt_inj.mp (g.trans (by decide)))
  · rw [g]; exact h20 (Int32.toInt_inj.mp (g.trans (by decide)))
  · rw [g]; exact h21 (Int32.toInt_inj.mp (g.trans (by decide)))
  · rw [g]; exact h22 (Int32.toInt_inj.mp (g.trans (by decide)))
  · rw [g]; exact h23 (Int32.toInt_inj.mp (g.trans (by decide)))
  · rw [g]; exact h24 (Int32.toInt_inj.mp (g.trans (by decide)))
  · rw [g]; exact h25 (Int32.toInt_inj.mp (g.trans (by decide)))
  )
set_option maxRecDepth 100000 in
theorem b31_2 {C : j2_C} (hC : j2_up1 C) {Q : j2_P} {o0 : Nat} {x1 : Int32} {x2 : Int32} {x3 : Int32} {σ : j2_S}
  (h : C 26 [vO 2 o0, vI x2] σ (fun r σ1 => T31 C Q 5 [vO 2 o0, vI x1, vI x2, vI x3, vM 2] (r.toList ++ []) σ1)) :
  T31 C Q 2 [vO 2 o0, vI x1, vI x2, vI x3, vM 2] [] σ := j2_T.go hC [0, 1, 2, 5, 6, 9, 10, 18, 19, 26, 28, 30, 32, 34, 38, 41, 42, 45, 46, 49, 50, 51, 55, 56, 57, 62, 63, 67, 68, 69, 72] 400 h
set_option maxRecDepth 100000 in
theorem b31_5 {C : j2_C} (hC : j2_up1 C) {Q : j2_P} {o0 : Nat} {x1 : Int32} {x2 : Int32} {x3 : Int32} {σ : j2_S}
  (h : T31 C Q 72 [vO 2 o0, vI x1, vI x2, vI x3, vM 2] [] σ) :
  T31 C Q 5 [vO 2 o0, vI x1, vI x2, vI x3, vM 2] [] σ := j2_T.go hC [0, 1, 2, 5, 6, 9, 10, 18, 19, 26, 28, 30, 32, 34, 38, 41, 42, 45, 46, 49, 50, 51, 55, 56, 57, 62, 63, 67, 68, 69, 72] 400 h
set_option maxRecDepth 100000 in
theorem b31_6 {C : j2_C} (hC : j2_up1 C) {Q : j2_P} {o0 : Nat} {x1 : Int32} {x2 : Int32} {x3 : Int32} {σ : j2_S}
  (h : C 26 [vO 2 o0, vI (nI 0)] σ (fun r σ1 => T31 C Q 9 [vO 2 o0, vI x1, vI x2, vI x3, vM 2] (r.toList ++ []) σ1)) :
  T31 C Q 6 [vO 2 o0, vI x1, vI x2, vI x3, vM 2] [] σ := j2_T.go hC [0, 1, 2, 5, 6, 9, 10, 18, 19, 26, 28, 30, 32, 34, 38, 41, 42, 45, 46, 49, 50, 51, 55, 56, 57, 62, 63, 67, 68, 69, 72] 400 h
set_option maxRecDepth 100000 in
theorem b31_9 {C : j2_C} (hC : j2_up1 C) {Q : j2_P} {o0 : Nat} {x1 : Int32} {x2 : Int32} {x3 : Int32} {σ : j2_S}
  (h : T31 C Q 72 [vO 2 o0, vI x1, vI x2, vI x3, vM 2] [] σ) :
  T31 C Q 9 [vO 2 o0, vI x1, vI x2, vI x3, vM 2] [] σ := j2_T.go hC [0, 1, 2, 5, 6, 9, 10, 18, 19, 26, 28, 30, 32, 34, 38, 41, 42, 45, 46, 49, 50, 51, 55, 56, 57, 62, 63, 67, 68, 69, 72] 400 h
set_option maxRecDepth 100000 in
theorem b31_10 {C : j2_C} (hC : j2_up1 C) {Q : j2_P} {o0 : Nat} {x1 : Int32} {x2 : Int32} {x3 : Int32} {σ : j2_S}
  (h : (vp_in (x3 + x2) 1200 ∧ C 26 [vO 2 o0, vI (σ.2.2 2011 o0 (x3 + x2).toNatClampNeg)] σ (fun r σ1 => T31 C Q 18 [vO 2 o0, vI x1, vI x2, vI x3, vM 2] (r.toList ++ []) σ1))) :
  T31 C Q 10 [vO 2 o0, vI x1, vI x2, vI x3, vM 2] [] σ := j2_T.go hC [0, 1, 2, 5, 6, 9, 10, 18, 19, 26, 28, 30, 32, 34, 38, 41, 42, 45, 46, 49, 50, 51, 55, 56, 57, 62, 63, 67, 68, 69, 72] 400 h
set_option maxRecDepth 100000 in
theorem b31_18 {C : j2_C} (hC : j2_up1 C) {Q : j2_P} {o0 : Nat} {x1 : Int32} {x2 : Int32} {x3 : Int32} {σ : j2_S}
  (h : T31 C Q 72 [vO 2 o0, vI x1, vI x2, vI x3, vM 2] [] σ) :
  T31 C Q 18 [vO 2 o0, vI x1, vI x2, vI x3, vM 2] [] σ := j2_T.go hC [0, 1, 2, 5, 6, 9, 10, 18, 19, 26, 28, 30, 32, 34, 38, 41, 42, 45, 46, 49, 50, 51, 55, 56, 57, 62, 63, 67, 68, 69, 72] 400 h
set_option maxRecDepth 100000 in
theorem b31_19 {C : j2_C} (hC : j2_up1 C) {Q : j2_P} {o0 : Nat} {x1 : Int32} {x2 : Int32} {x3 : Int32} {σ : j2_S}
  (h : C 27 [vO 2 o0] σ (fun r σ1 => T31 C Q 26 [vO 2 o0, vI x1, vI x2, vI x3, vM 2] (r.toList ++ [vI (x3 + x2), vA 2011 o0]) σ1)) :
  T31 C Q 19 [vO 2 o0, vI x1, vI x2, vI x3, vM 2] [] σ := j2_T.go hC [0, 1, 2, 5, 6, 9, 10, 18, 19, 26, 28, 30, 32, 34, 38, 41, 42, 45, 46, 49, 50, 51, 55, 56, 57, 62, 63, 67, 68, 69, 72] 400 h
set_option maxRecDepth 100000 in
theorem b31_26 {C : j2_C} (hC : j2_up1 C) {Q : j2_P} {o0 : Nat} {x1 : Int32} {x2 : Int32} {x3 : Int32} {xs0 : Int32} {xs1 : Int32} {os2 : Nat} {σ : j2_S}
  (h : (vp_in xs1 1200 ∧ T31 C Q 72 [vO 2 o0, vI x1, vI x2, vI x3, vM 2] [] (σ.1, σ.2.1, (j2_ast σ.2.2 2011 os2 xs1.toNatClampNeg xs0)))) :
  T31 C Q 26 [vO 2 o0, vI x1, vI x2, vI x3, vM 2] [vI xs0, vI xs1, vA 2011 os2] σ := j2_T.go hC [0, 1, 2, 5, 6, 9, 10, 18, 19, 26, 28, 30, 32, 34, 38, 41, 42, 45, 46, 49, 50, 51, 55, 56, 57, 62, 63, 67, 68, 69, 72] 400 h
set_option maxRecDepth 100000 in
theorem b31_28 {C : j2_C} (hC : j2_up1 C) {Q : j2_P} {o0 : Nat} {x1 : Int32} {x2 : Int32} {x3 : Int32} {σ : j2_S}
  (h : C 27 [vO 2 o0] σ (fun r σ1 => T31 C Q 30 [vO 2 o0, vI x1, vI x2, vI x3, vM 2] (r.toList ++ []) σ1)) :
  T31 C Q 28 [vO 2 o0, vI x1, vI x2, vI x3, vM 2] [] σ := j2_T.go hC [0, 1, 2, 5, 6, 9, 10, 18, 19, 26, 28, 30, 32, 34, 38, 41, 42, 45, 46, 49, 50, 51, 55, 56, 57, 62, 63, 67, 68, 69, 72] 400 h
set_option maxRecDepth 100000 in
theorem b31_30 {C : j2_C} (hC : j2_up1 C) {Q : j2_P} {o0 : Nat} {x1 : Int32} {x2 : Int32} {x3 : Int32} {xs0 : Int32} {σ : j2_S}
  (h : T31 C Q 72 [vO 2 o0, vI x1, vI x2, vI x3, vM 2] [] σ) :
  T31 C Q 30 [vO 2 o0, vI x1, vI x2, vI x3, vM 2] [vI xs0] σ := j2_T.go hC [0, 1, 2, 5, 6, 9, 10, 18, 19, 26, 28, 30, 32, 34, 38, 41, 42, 45, 46, 49, 50, 51, 55, 56, 57, 62, 63, 67, 68, 69, 72] 400 h
set_option maxRecDepth 100000 in
theorem b31_32 {C : j2_C} (hC : j2_up1 C) {Q : j2_P} {o0 : Nat} {x1 : Int32} {x2 : Int32} {x3 : Int32} {σ : j2_S}
  (h : C 27 [vO 2 o0] σ (fun r σ1 => T31 C Q 34 [vO 2 o0, vI x1, vI x2, vI x3, vM 2] (r.toList ++ []) σ1)) :
  T31 C Q 32 [vO 2 o0, vI x1, vI x2, vI x3, vM 2] [] σ := j2_T.go hC [0, 1, 2, 5, 6, 9, 10, 18, 19, 26, 28, 30, 32, 34, 38, 41, 42, 45, 46, 49, 50, 51, 55, 56, 57, 62, 63, 67, 68, 69, 72] 400 h
set_option maxRecDepth 100000 in
theorem b31_34 {C : j2_C} (hC : j2_up1 C) {Q : j2_P} {o0 : Nat} {x1 : Int32} {x2 : Int32} {x3 : Int32} {xs0 : Int32} {σ : j2_S}
  (h : C 26 [vO 2 o0, vI xs0] σ (fun r σ1 => T31 C Q 38 [vO 2 o0, vI x1, vI x2, vI x3, vI xs0] (r.toList ++ []) σ1)) :
  T31 C Q 34 [vO 2 o0, vI x1, vI x2, vI x3, vM 2] [vI xs0] σ := j2_T.go hC [0, 1, 2, 5, 6, 9, 10, 18, 19, 26, 28, 30, 32, 34, 38, 41, 42, 45, 46, 49, 50, 51, 55, 56, 57, 62, 63, 67, 68, 69, 72] 400 h
set_option maxRecDepth 100000 in
theorem b31_38 {C : j2_C} (hC : j2_up1 C) {Q : j2_P} {o0 : Nat} {x1 : Int32} {x2 : Int32} {x3 : Int32} {x4 : Int32} {σ : j2_S}
  (h : C 26 [vO 2 o0, vI x4] σ (fun r σ1 => T31 C Q 41 [vO 2 o0, vI x1, vI x2, vI x3, vI x4] (r.toList ++ []) σ1)) :
  T31 C Q 38 [vO 2 o0, vI x1, vI x2, vI x3, vI x4] [] σ := j2_T.go hC [0, 1, 2, 5, 6, 9, 10, 18, 19, 26, 28, 30, 32, 34, 38, 41, 42, 45, 46, 49, 50, 51, 55, 56, 57, 62, 63, 67, 68, 69, 72] 400 h
set_option maxRecDepth 100000 in
theorem b31_41 {C : j2_C} (hC : j2_up1 C) {Q : j2_P} {o0 : Nat} {x1 : Int32} {x2 : Int32} {x3 : Int32} {x4 : Int32} {σ : j2_S}
  (h : T31 C Q 72 [vO 2 o0, vI x1, vI x2, vI x3, vI x4] [] σ) :
  T31 C Q 41 [vO 2 o0, vI x1, vI x2, vI x3, vI x4] [] σ := j2_T.go hC [0, 1, 2, 5, 6, 9, 10, 18, 19, 26, 28, 30, 32, 34, 38, 41, 42, 45, 46, 49, 50, 51, 55, 56, 57, 62, 63, 67, 68, 69, 72] 400 h
set_option maxRecDepth 100000 in
theorem b31_42 {C : j2_C} (hC : j2_up1 C) {Q : j2_P} {o0 : Nat} {x1 : Int32} {x2 : Int32} {x3 : Int32} {σ : j2_S}
  (h : C 33 [vO 2 o0, vI x2] σ (fun r σ1 => T31 C Q 45 [vO 2 o0, vI x1, vI x2, vI x3, vM 2] (r.toList ++ []) σ1)) :
  T31 C Q 42 [vO 2 o0, vI x1, vI x2, vI x3, vM 2] [] σ := j2_T.go hC [0, 1, 2, 5, 6, 9, 10, 18, 19, 26, 28, 30, 32, 34, 38, 41, 42, 45, 46, 49, 50, 51, 55, 56, 57, 62, 63, 67, 68, 69, 72] 400 h
set_option maxRecDepth 100000 in
theorem b31_45 {C : j2_C} (hC : j2_up1 C) {Q : j2_P} {o0 : Nat} {x1 : Int32} {x2 : Int32} {x3 : Int32} {σ : j2_S}
  (h : T31 C Q 72 [vO 2 o0, vI x1, vI x2, vI x3, vM 2] [] σ) :
  T31 C Q 45 [vO 2 o0, vI x1, vI x2, vI x3, vM 2] [] σ := j2_T.go hC [0, 1, 2, 5, 6, 9, 10, 18, 19, 26, 28, 30, 32, 34, 38, 41, 42, 45, 46, 49, 50, 51, 55, 56, 57, 62, 63, 67, 68, 69, 72] 400 h
set_option maxRecDepth 100000 in
theorem b31_46 {C : j2_C} (hC : j2_up1 C) {Q : j2_P} {o0 : Nat} {x1 : Int32} {x2 : Int32} {x3 : Int32} {σ : j2_S}
  (h : C 27 [vO 2 o0] σ (fun r σ1 => T31 C Q 49 [vO 2 o0, vI x1, vI x2, vI x3, vM 2] (r.toList ++ [vO 2 o0]) σ1)) :
  T31 C Q 46 [vO 2 o0, vI x1, vI x2, vI x3, vM 2] [] σ := j2_T.go hC [0, 1, 2, 5, 6, 9, 10, 18, 19, 26, 28, 30, 32, 34, 38, 41, 42, 45, 46, 49, 50, 51, 55, 56, 57, 62, 63, 67, 68, 69, 72] 400 h
set_option maxRecDepth 100000 in
theorem b31_49 {C : j2_C} (hC : j2_up1 C) {Q : j2_P} {o0 : Nat} {x1 : Int32} {x2 : Int32} {x3 : Int32} {xs0 : Int32} {os1 : Nat} {σ : j2_S}
  (h : C 32 [vO 2 os1, vI xs0] σ (fun r σ1 => T31 C Q 50 [vO 2 o0, vI x1, vI x2, vI x3, vM 2] (r.toList ++ []) σ1)) :
  T31 C Q 49 [vO 2 o0, vI x1, vI x2, vI x3, vM 2] [vI xs0, vO 2 os1] σ := j2_T.go hC [0, 1, 2, 5, 6, 9, 10, 18, 19, 26, 28, 30, 32, 34, 38, 41, 42, 45, 46, 49, 50, 51, 55, 56, 57, 62, 63, 67, 68, 69, 72] 400 h
set_option maxRecDepth 100000 in
theorem b31_50 {C : j2_C} (hC : j2_up1 C) {Q : j2_P} {o0 : Nat} {x1 : Int32} {x2 : Int32} {x3 : Int32} {σ : j2_S}
  (h : T31 C Q 72 [vO 2 o0, vI x1, vI x2, vI x3, vM 2] [] σ) :
  T31 C Q 50 [vO 2 o0, vI x1, vI x2, vI x3, vM 2] [] σ := j2_T.go hC [0, 1, 2, 5, 6, 9, 10, 18, 19, 26, 28, 30, 32, 34, 38, 41, 42, 45, 46, 49, 50, 51, 55, 56, 57, 62, 63, 67, 68, 69, 72] 400 h
set_option maxRecDepth 100000 in
theorem b31_51 {C : j2_C} (hC : j2_up1 C) {Q : j2_P} {o0 : Nat} {x1 : Int32} {x2 : Int32} {x3 : Int32} {σ : j2_S}
  (h : C 27 [vO 2 o0] σ (fun r σ1 => T31 C Q 55 [vO 2 o0, vI x1, vI x2, vI x3, vM 2] (r.toList ++ [vI x2, vO 2 o0]) σ1)) :
  T31 C Q 51 [vO 2 o0, vI x1, vI x2, vI x3, vM 2] [] σ := j2_T.go hC [0, 1, 2, 5, 6, 9, 10, 18, 19, 26, 28, 30, 32, 34, 38, 41, 42, 45, 46, 49, 50, 51, 55, 56, 57, 62, 63, 67, 68, 69, 72] 400 h
set_option maxRecDepth 100000 in
theorem b31_55 {C : j2_C} (hC : j2_up1 C) {Q : j2_P} {o0 : Nat} {x1 : Int32} {x2 : Int32} {x3 : Int32} {xs0 : Int32} {xs1 : Int32} {os2 : Nat} {σ : j2_S}
  (h : C 36 [vO 2 os2, vI xs1, vI xs0] σ (fun r σ1 => T31 C Q 56 [vO 2 o0, vI x1, vI x2, vI x3, vM 2] (r.toList ++ []) σ1)) :
  T31 C Q 55 [vO 2 o0, vI x1, vI x2, vI x3, vM 2] [vI xs0, vI xs1, vO 2 os2] σ := j2_T.go hC [0, 1, 2, 5, 6, 9, 10, 18, 19, 26, 28, 30, 32, 34, 38, 41, 42, 45, 46, 49, 50, 51, 55, 56, 57, 62, 63, 67, 68, 69, 72] 400 h
set_option maxRecDepth 100000 in
theorem b31_56 {C : j2_C} (hC : j2_up1 C) {Q : j2_P} {o0 : Nat} {x1 : Int32} {x2 : Int32} {x3 : Int32} {σ : j2_S}
  (h : T31 C Q 72 [vO 2 o0, vI x1, vI x2, vI x3, vM 2] [] σ) :
  T31 C Q 56 [vO 2 o0, vI x1, vI x2, vI x3, vM 2] [] σ := j2_T.go hC [0, 1, 2, 5, 6, 9, 10, 18, 19, 26, 28, 30, 32, 34, 38, 41, 42, 45, 46, 49, 50, 51, 55, 56, 57, 62, 63, 67, 68, 69, 72] 400 h
set_option maxRecDepth 100000 in
theorem b31_57 {C : j2_C} (hC : j2_up1 C) {Q : j2_P} {o0 : Nat} {x1 : Int32} {x2 : Int32} {x3 : Int32} {σ : j2_S}
  (h : C 27 [vO 2 o0] σ (fun r σ1 => T31 C Q 62 [vO 2 o0, vI x1, vI x2, vI x3, vM 2] (r.toList ++ [vI x2, vO 2 o0, vO 2 o0]) σ1)) :
  T31 C Q 57 [vO 2 o0, vI x1, vI x2, vI x3, vM 2] [] σ := j2_T.go hC [0, 1, 2, 5, 6, 9, 10, 18, 19, 26, 28, 30, 32, 34, 38, 41, 42, 45, 46, 49, 50, 51, 55, 56, 57, 62, 63, 67, 68, 69, 72] 400 h
set_option maxRecDepth 100000 in
theorem b31_62 {C : j2_C} (hC : j2_up1 C) {Q : j2_P} {o0 : Nat} {x1 : Int32} {x2 : Int32} {x3 : Int32} {xs0 : Int32} {xs1 : Int32} {os2 : Nat} {os3 : Nat} {σ : j2_S}
  (h : C 35 [vO 2 os2, vI xs1, vI xs0] σ (fun r σ1 => T31 C Q 63 [vO 2 o0, vI x1, vI x2, vI x3, vM 2] (r.toList ++ [vO 2 os3]) σ1)) :
  T31 C Q 62 [vO 2 o0, vI x1, vI x2, vI x3, vM 2] [vI xs0, vI xs1, vO 2 os2, vO 2 os3] σ := j2_T.go hC [0, 1, 2, 5, 6, 9, 10, 18, 19, 26, 28, 30, 32, 34, 38, 41, 42, 45, 46, 49, 50, 51, 55, 56, 57, 62, 63, 67, 68, 69, 72] 400 h
set_option maxRecDepth 100000 in
theorem b31_63 {C : j2_C} (hC : j2_up1 C) {Q : j2_P} {o0 : Nat} {x1 : Int32} {x2 : Int32} {x3 : Int32} {xs0 : Int32} {os1 : Nat} {σ : j2_S}
  (h : ((xs0 = 0 → T31 C Q 67 [vO 2 o0, vI x1, vI x2, vI x3, vM 2] [vI (nI 0), vO 2 os1] σ) ∧ (¬ (xs0 = 0) → T31 C Q 67 [vO 2 o0, vI x1, vI x2, vI x3, vM 2] [vI (nI 1), vO 2 os1] σ))) :
  T31 C Q 63 [vO 2 o0, vI x1, vI x2, vI x3, vM 2] [vI xs0, vO 2 os1] σ := j2_T.go hC [0, 1, 2, 5, 6, 9, 10, 18, 19, 26, 28, 30, 32, 34, 38, 41, 42, 45, 46, 49, 50, 51, 55, 56, 57, 62, 63, 67, 68, 69, 72] 400 h
set_option maxRecDepth 100000 in
theorem b31_67 {C : j2_C} (hC : j2_up1 C) {Q : j2_P} {o0 : Nat} {x1 : Int32} {x2 : Int32} {x3 : Int32} {xs0 : Int32} {os1 : Nat} {σ : j2_S}
  (h : C 26 [vO 2 os1, vI xs0] σ (fun r σ1 => T31 C Q 68 [vO 2 o0, vI x1, vI x2, vI x3, vM 2] (r.toList ++ []) σ1)) :
  T31 C Q 67 [vO 2 o0, vI x1, vI x2, vI x3, vM 2] [vI xs0, vO 2 os1] σ := j2_T.go hC [0, 1, 2, 5, 6, 9, 10, 18, 19, 26, 28, 30, 32, 34, 38, 41, 42, 45, 46, 49, 50, 51, 55, 56, 57, 62, 63, 67, 68, 69, 72] 400 h
set_option maxRecDepth 100000 in
theorem b31_68 {C : j2_C} (hC : j2_up1 C) {Q : j2_P} {o0 : Nat} {x1 : Int32} {x2 : Int32} {x3 : Int32} {σ : j2_S}
  (h : T31 C Q 72 [vO 2 o0, vI x1, vI x2, vI x3, vM 2] [] σ) :
  T31 C Q 68 [vO 2 o0, vI x1, vI x2, vI x3, vM 2] [] σ := j2_T.go hC [0, 1, 2, 5, 6, 9, 10, 18, 19, 26, 28, 30, 32, 34, 38, 41, 42, 45, 46, 49, 50, 51, 55, 56, 57, 62, 63, 67, 68, 69, 72] 400 h
set_option maxRecDepth 100000 in
theorem b31_69 {C : j2_C} (hC : j2_up1 C) {Q : j2_P} {o0 : Nat} {x1 : Int32} {x2 : Int32} {x3 : Int32} {σ : j2_S}
  (h : C 25 [vO 2 o0, vI (nI 4)] σ (fun r σ1 => T31 C Q 72 [vO 2 o0, vI x1, vI x2, vI x3, vM 2] (r.toList ++ []) σ1)) :
  T31 C Q 69 [vO 2 o0, vI x1, vI x2, vI x3, vM 2] [] σ := j2_T.go hC [0, 1, 2, 5, 6, 9, 10, 18, 19, 26, 28, 30, 32, 34, 38, 41, 42, 45, 46, 49, 50, 51, 55, 56, 57, 62, 63, 67, 68, 69, 72] 400 h
set_option maxRecDepth 100000 in
theorem b31_72 {C : j2_C} (hC : j2_up1 C) {Q : j2_P} {o0 : Nat} {x1 : Int32} {x2 : Int32} {x3 : Int32} {w4 : j2_W} {σ : j2_S}
  (h : ((none : Option FieldType) = none ∧ Q none σ)) :
  T31 C Q 72 [vO 2 o0, vI x1, vI x2, vI x3, w4] [] σ := j2_T.go hC [0, 1, 2, 5, 6, 9, 10, 18, 19, 26, 28, 30, 32, 34, 38, 41, 42, 45, 46, 49, 50, 51, 55, 56, 57, 62, 63, 67, 68, 69, 72] 400 h
abbrev T32 (C : j2_C) (Q : j2_P) : j2_K := j2_T C jc_X2_putOut none Q
set_option maxRecDepth 100000 in
theorem b32_0 {C : j2_C} (hC : j2_up1 C) {Q : j2_P} {o0 : Nat} {x1 : Int32} {σ : j2_S}
  (h : (vp_in (nI 3) 8 ∧ (((nI 100) ≤ (σ.2.2 2001 o0 (nI 3).toNatClampNeg) → T32 C Q 14 [vO 2 o0, vI x1] [] σ) ∧ (¬ ((nI 100) ≤ (σ.2.2 2001 o0 (nI 3).toNatClampNeg)) → (vp_in (nI 3) 8 ∧ (vp_in (σ.2.2 2001 o0 (nI 3).toNatClampNeg) 100 ∧ T32 C Q 14 [vO 2 o0, vI x1] [] (σ.1, σ.2.1, (j2_ast σ.2.2 2002 o0 (σ.2.2 2001 o0 (nI 3).toNatClampNeg).toNatClampNeg x1)))))))) :
  T32 C Q 0 [vO 2 o0, vI x1] [] σ := j2_T.go hC [0, 14] 400 h
set_option maxRecDepth 100000 in
theorem b32_14 {C : j2_C} (hC : j2_up1 C) {Q : j2_P} {o0 : Nat} {x1 : Int32} {σ : j2_S}
  (h : (vp_in (nI 3) 8 ∧ (vp_in (nI 3) 8 ∧ ((none : Option FieldType) = none ∧ Q none (σ.1, σ.2.1, (j2_ast σ.2.2 2001 o0 (nI 3).toNatClampNeg ((σ.2.2 2001 o0 (nI 3).toNatClampNeg) + (nI 1)))))))) :
  T32 C Q 14 [vO 2 o0, vI x1] [] σ := j2_T.go hC [0, 14] 400 h
abbrev T33 (C : j2_C) (Q : j2_P) : j2_K := j2_T C jc_X2_makeObject none Q
set_option maxRecDepth 100000 in
theorem b33_0 {C : j2_C} (hC : j2_up1 C) {Q : j2_P} {o0 : Nat} {x1 : Int32} {σ : j2_S}
  (h : (((σ.1 2012 o0) < (nI 200) → (vp_in (σ.1 2012 o0) 200 ∧ C 249 [vA 2014 o0, vI ((σ.1 2012 o0) * (nI 60)), vI (((σ.1 2012 o0) * (nI 60)) + (nI 60)), vI (nI 0)] (σ.1, σ.2.1, (j2_ast σ.2.2 2013 o0 (σ.1 2012 o0).toNatClampNeg x1)) (fun r σ1 => T33 C Q 27 [vO 2 o0, vI x1, vI ((σ.1 2012 o0) * (nI 60))] (r.toList ++ []) σ1))) ∧ (¬ ((σ.1 2012 o0) < (nI 200)) → C 25 [vO 2 o0, vI (nI 6)] σ (fun r σ1 => T33 C Q 7 [vO 2 o0, vI x1, vM 2] (r.toList ++ []) σ1)))) :
  T33 C Q 0 [vO 2 o0, vI x1, vM 2] [] σ := j2_T.go hC [0, 7, 27, 37] 400 h
set_option maxRecDepth 100000 in
theorem b33_7 {C : j2_C} (hC : j2_up1 C) {Q : j2_P} {o0 : Nat} {x1 : Int32} {σ : j2_S}
  (h : ((none : Option FieldType) = none ∧ Q none σ)) :
  T33 C Q 7 [vO 2 o0, vI x1, vM 2] [] σ := j2_T.go hC [0, 7, 27, 37] 400 h
set_option maxRecDepth 100000 in
theorem b33_27 {C : j2_C} (hC : j2_up1 C) {Q : j2_P} {o0 : Nat} {x1 : Int32} {x2 : Int32} {σ : j2_S}
  (h : C 26 [vO 2 o0, vI ((j2_up σ.1 2012 o0 ((σ.1 2012 o0) + (nI 1))) 2012 o0)] ((j2_up σ.1 2012 o0 ((σ.1 2012 o0) + (nI 1))), σ.2.1, σ.2.2) (fun r σ1 => T33 C Q 37 [vO 2 o0, vI x1, vI x2] (r.toList ++ []) σ1)) :
  T33 C Q 27 [vO 2 o0, vI x1, vI x2] [] σ := j2_T.go hC [0, 7, 27, 37] 400 h
set_option maxRecDepth 100000 in
theorem b33_37 {C : j2_C} (hC : j2_up1 C) {Q : j2_P} {o0 : Nat} {x1 : Int32} {x2 : Int32} {σ : j2_S}
  (h : ((none : Option FieldType) = none ∧ Q none σ)) :
  T33 C Q 37 [vO 2 o0, vI x1, vI x2] [] σ := j2_T.go hC [0, 7, 27, 37] 400 h
abbrev T34 (C : j2_C) (Q : j2_P) : j2_K := j2_T C jc_X2_isObject (some .boolean) Q
set_option maxRecDepth 100000 in
theorem b34_0 {C : j2_C} (hC : j2_up1 C) {Q : j2_P} {o0 : Nat} {x1 : Int32} {σ : j2_S}
  (h : ((x1 ≤ 0 → (((nI 0) = 0 ∨ (nI 0) = 1) ∧ Q (some (vI (nI 0))) σ)) ∧ (¬ (x1 ≤ 0) → (((σ.1 2012 o0) < x1 → (((nI 0) = 0 ∨ (nI 0) = 1) ∧ Q (some (vI (nI 0))) σ)) ∧ (¬ ((σ.1 2012 o0) < x1) → (((nI 1) = 0 ∨ (nI 1) = 1) ∧ Q (some (vI (nI 1))) σ)))))) :
  T34 C Q 0 [vO 2 o0, vI x1] [] σ := j2_T.go hC [0] 400 h
abbrev T35 (C : j2_C) (Q : j2_P) : j2_K := j2_T C jc_X2_isOf (some .boolean) Q
set_option maxRecDepth 100000 in
theorem b35_0 {C : j2_C} (hC : j2_up1 C) {Q : j2_P} {o0 : Nat} {x1 : Int32} {x2 : Int32} {p0 : j2_W} {g1 : Nat} {p2 : j2_W} {p3 : j2_W} {p4 : j2_W} {p5 : j2_W} {p6 : j2_W} {p7 : j2_W} {p8 : j2_W} {p9 : j2_W} {I : Nat → Nat → Int32} {A : Nat → Nat → Nat → Int32}
  (h : C 34 [vO 2 o0, vI x2] (I, [p0, vO 3 g1, p2, p3, p4, p5, p6, p7, p8, p9], A) (fun r σ1 => T35 C Q 3 [vO 2 o0, vI x1, vI x2] (r.toList ++ []) σ1)) :
  T35 C Q 0 [vO 2 o0, vI x1, vI x2] [] (I, [p0, vO 3 g1, p2, p3, p4, p5, p6, p7, p8, p9], A) := j2_T.go hC [0, 3, 14] 400 h
set_option maxRecDepth 100000 in
theorem b35_3 {C : j2_C} (hC : j2_up1 C) {Q : j2_P} {o0 : Nat} {x1 : Int32} {x2 : Int32} {xs0 : Int32} {p0 : j2_W} {g1 : Nat} {p2 : j2_W} {p3 : j2_W} {p4 : j2_W} {p5 : j2_W} {p6 : j2_W} {p7 : j2_W} {p8 : j2_W} {p9 : j2_W} {I : Nat → Nat → Int32} {A : Nat → Nat → Nat → Int32}
  (h : ((xs0 = 0 → (((nI 0) = 0 ∨ (nI 0) = 1) ∧ Q (some (vI (nI 0))) (I, [p0, vO 3 g1, p2, p3, p4, p5, p6, p7, p8, p9], A))) ∧ (¬ (xs0 = 0) → (vp_in (x2 - (nI 1)) 200 ∧ C 48 [vO 3 g1, vI x1, vI (A 2013 o0 (x2 - (nI 1)).toNatClampNeg)] (I, [p0, vO 3 g1, p2, p3, p4, p5, p6, p7, p8, p9], A) (fun r σ1 => T35 C Q 14 [vO 2 o0, vI x1, vI x2] (r.toList ++ []) σ1))))) :
  T35 C Q 3 [vO 2 o0, vI x1, vI x2] [vI xs0] (I, [p0, vO 3 g1, p2, p3, p4, p5, p6, p7, p8, p9], A) := j2_T.go hC [0, 3, 14] 400 h
set_option maxRecDepth 100000 in
theorem b35_14 {C : j2_C} (hC : j2_up1 C) {Q : j2_P} {o0 : Nat} {x1 : Int32} {x2 : Int32} {xs0 : Int32} {p0 : j2_W} {g1 : Nat} {p2 : j2_W} {p3 : j2_W} {p4 : j2_W} {p5 : j2_W} {p6 : j2_W} {p7 : j2_W} {p8 : j2_W} {p9 : j2_W} {I : Nat → Nat → Int32} {A : Nat → Nat → Nat → Int32}
  (h : ((xs0 = 0 → (((nI 0) = 0 ∨ (nI 0) = 1) ∧ Q (some (vI (nI 0))) (I, [p0, vO 3 g1, p2, p3, p4, p5, p6, p7, p8, p9], A))) ∧ (¬ (xs0 = 0) → (((nI 1) = 0 ∨ (nI 1) = 1) ∧ Q (some (vI (nI 1))) (I, [p0, vO 3 g1, p2, p3, p4, p5, p6, p7, p8, p9], A))))) :
  T35 C Q 14 [vO 2 o0, vI x1, vI x2] [vI xs0] (I, [p0, vO 3 g1, p2, p3, p4, p5, p6, p7, p8, p9], A) := j2_T.go hC [0, 3, 14] 400 h
abbrev T36 (C : j2_C) (Q : j2_P) : j2_K := j2_T C jc_X2_cast none Q
set_option maxRecDepth 100000 in
theorem b36_0 {C : j2_C} (hC : j2_up1 C) {Q : j2_P} {o0 : Nat} {x1 : Int32} {x2 : Int32} {σ : j2_S}
  (h : ((x2 = 0 → T36 C Q 7 [vO 2 o0, vI x1, vI x2] [] σ) ∧ (¬ (x2 = 0) → C 35 [vO 2 o0, vI x1, vI x2] σ (fun r σ1 => T36 C Q 6 [vO 2 o0, vI x1, vI x2] (r.toList ++ []) σ1)))) :
  T36 C Q 0 [vO 2 o0, vI x1, vI x2] [] σ := j2_T.go hC [0, 6, 7, 10, 14] 400 h
set_option maxRecDepth 100000 in
theorem b36_6 {C : j2_C} (hC : j2_up1 C) {Q : j2_P} {o0 : Nat} {x1 : Int32} {x2 : Int32} {xs0 : Int32} {σ : j2_S}
  (h : ((xs0 = 0 → C 25 [vO 2 o0, vI (nI 3)] σ (fun r σ1 => T36 C Q 14 [vO 2 o0, vI x1, vI x2] (r.toList ++ []) σ1)) ∧ (¬ (xs0 = 0) → T36 C Q 7 [vO 2 o0, vI x1, vI x2] [] σ))) :
  T36 C Q 6 [vO 2 o0, vI x1, vI x2] [vI xs0] σ := j2_T.go hC [0, 6, 7, 10, 14] 400 h
set_option maxRecDepth 100000 in
theorem b36_7 {C : j2_C} (hC : j2_up1 C) {Q : j2_P} {o0 : Nat} {x1 : Int32} {x2 : Int32} {σ : j2_S}
  (h : C 26 [vO 2 o0, vI x2] σ (fun r σ1 => T36 C Q 10 [vO 2 o0, vI x1, vI x2] (r.toList ++ []) σ1)) :
  T36 C Q 7 [vO 2 o0, vI x1, vI x2] [] σ := j2_T.go hC [0, 6, 7, 10, 14] 400 h
set_option maxRecDepth 100000 in
theorem b36_10 {C : j2_C} (hC : j2_up1 C) {Q : j2_P} {o0 : Nat} {x1 : Int32} {x2 : Int32} {σ : j2_S}
  (h : T36 C Q 14 [vO 2 o0, vI x1, vI x2] [] σ) :
  T36 C Q 10 [vO 2 o0, vI x1, vI x2] [] σ := j2_T.go hC [0, 6, 7, 10, 14] 400 h
set_option maxRecDepth 100000 in
theorem b36_14 {C : j2_C} (hC : j2_up1 C) {Q : j2_P} {o0 : Nat} {x1 : Int32} {x2 : Int32} {σ : j2_S}
  (h : ((none : Option FieldType) = none ∧ Q none σ)) :
  T36 C Q 14 [vO 2 o0, vI x1, vI x2] [] σ := j2_T.go hC [0, 6, 7, 10, 14] 400 h
abbrev T37 (C : j2_C) (Q : j2_P) : j2_K := j2_T C jc_X2_useField none Q
set_option maxRecDepth 100000 in
theorem b37_0 {C : j2_C} (hC : j2_up1 C) {Q : j2_P} {o0 : Nat} {x1 : Int32} {x2 : Int32} {x3 : Int32} {p0 : j2_W} {g1 : Nat} {p2 : j2_W} {p3 : j2_W} {p4 : j2_W} {p5 : j2_W} {p6 : j2_W} {p7 : j2_W} {p8 : j2_W} {p9 : j2_W} {I : Nat → Nat → Int32} {A : Nat → Nat → Nat → Int32}
  (h : ((¬ x1 = (nI 18) → ((¬ x1 = (nI 19) → ((¬ x1 = (nI 17) → T37 C Q 35 [vO 2 o0, vI x1, vI x2, vI x3, vM 2, vM 2, vM 2] [vI (nI 0)] (I, [p0, vO 3 g1, p2, p3, p4, p5, p6, p7, p8, p9], A)) ∧ (¬ (¬ x1 = (nI 17)) → C 27 [vO 2 o0] (I, [p0, vO 3 g1, p2, p3, p4, p5, p6, p7, p8, p9], A) (fun r σ1 => T37 C Q 33 [vO 2 o0, vI x1, vI x2, vI x3, vM 2, vM 2, vM 2] (r.toList ++ []) σ1)))) ∧ (¬ (¬ x1 = (nI 19)) → C 27 [vO 2 o0] (I, [p0, vO 3 g1, p2, p3, p4, p5, p6, p7, p8, p9], A) (fun r σ1 => T37 C Q 26 [vO 2 o0, vI x1, vI x2, vI x3, vM 2, vM 2, vM 2] (r.toList ++ [vI ((x2 * (nI 6)) + x3), vA 2015 o0]) σ1)))) ∧ (¬ (¬ x1 = (nI 18)) → (vp_in ((x2 * (nI 6)) + x3) 60 ∧ C 26 [vO 2 o0, vI (A 2015 o0 ((x2 * (nI 6)) + x3).toNatClampNeg)] (I, [p0, vO 3 g1, p2, p3, p4, p5, p6, p7, p8, p9], A) (fun r σ1 => T37 C Q 13 [vO 2 o0, vI x1, vI x2, vI x3, vM 2, vM 2, vM 2] (r.toList ++ []) σ1))))) :
  T37 C Q 0 [vO 2 o0, vI x1, vI x2, vI x3, vM 2, vM 2, vM 2] [] (I, [p0, vO 3 g1, p2, p3, p4, p5, p6, p7, p8, p9], A) := j2_T.go hC [0, 13, 26, 33, 35, 38, 42, 46, 78] 400 h
set_option maxRecDepth 100000 in
theorem b37_13 {C : j2_C} (hC : j2_up1 C) {Q : j2_P} {o0 : Nat} {x1 : Int32} {x2 : Int32} {x3 : Int32} {p0 : j2_W} {g1 : Nat} {p2 : j2_W} {p3 : j2_W} {p4 : j2_W} {p5 : j2_W} {p6 : j2_W} {p7 : j2_W} {p8 : j2_W} {p9 : j2_W} {I : Nat → Nat → Int32} {A : Nat → Nat → Nat → Int32}
  (h : ((none : Option FieldType) = none ∧ Q none (I, [p0, vO 3 g1, p2, p3, p4, p5, p6, p7, p8, p9], A))) :
  T37 C Q 13 [vO 2 o0, vI x1, vI x2, vI x3, vM 2, vM 2, vM 2] [] (I, [p0, vO 3 g1, p2, p3, p4, p5, p6, p7, p8, p9], A) := j2_T.go hC [0, 13, 26, 33, 35, 38, 42, 46, 78] 400 h
set_option maxRecDepth 100000 in
theorem b37_26 {C : j2_C} (hC : j2_up1 C) {Q : j2_P} {o0 : Nat} {x1 : Int32} {x2 : Int32} {x3 : Int32} {xs0 : Int32} {xs1 : Int32} {os2 : Nat} {p0 : j2_W} {g1 : Nat} {p2 : j2_W} {p3 : j2_W} {p4 : j2_W} {p5 : j2_W} {p6 : j2_W} {p7 : j2_W} {p8 : j2_W} {p9 : j2_W} {I : Nat → Nat → Int32} {A : Nat → Nat → Nat → Int32}
  (h : (vp_in xs1 60 ∧ ((none : Option FieldType) = none ∧ Q none (I, [p0, vO 3 g1, p2, p3, p4, p5, p6, p7, p8, p9], (j2_ast A 2015 os2 xs1.toNatClampNeg xs0))))) :
  T37 C Q 26 [vO 2 o0, vI x1, vI x2, vI x3, vM 2, vM 2, vM 2] [vI xs0, vI xs1, vA 2015 os2] (I, [p0, vO 3 g1, p2, p3, p4, p5, p6, p7, p8, p9], A) := j2_T.go hC [0, 13, 26, 33, 35, 38, 42, 46, 78] 400 h
set_option maxRecDepth 100000 in
theorem b37_33 {C : j2_C} (hC : j2_up1 C) {Q : j2_P} {o0 : Nat} {x1 : Int32} {x2 : Int32} {x3 : Int32} {xs0 : Int32} {p0 : j2_W} {g1 : Nat} {p2 : j2_W} {p3 : j2_W} {p4 : j2_W} {p5 : j2_W} {p6 : j2_W} {p7 : j2_W} {p8 : j2_W} {p9 : j2_W} {I : Nat → Nat → Int32} {A : Nat → Nat → Nat → Int32}
  (h : T37 C Q 35 [vO 2 o0, vI x1, vI x2, vI x3, vM 2, vM 2, vM 2] [vI xs0] (I, [p0, vO 3 g1, p2, p3, p4, p5, p6, p7, p8, p9], A)) :
  T37 C Q 33 [vO 2 o0, vI x1, vI x2, vI x3, vM 2, vM 2, vM 2] [vI xs0] (I, [p0, vO 3 g1, p2, p3, p4, p5, p6, p7, p8, p9], A) := j2_T.go hC [0, 13, 26, 33, 35, 38, 42, 46, 78] 400 h
set_option maxRecDepth 100000 in
theorem b37_35 {C : j2_C} (hC : j2_up1 C) {Q : j2_P} {o0 : Nat} {x1 : Int32} {x2 : Int32} {x3 : Int32} {xs0 : Int32} {p0 : j2_W} {g1 : Nat} {p2 : j2_W} {p3 : j2_W} {p4 : j2_W} {p5 : j2_W} {p6 : j2_W} {p7 : j2_W} {p8 : j2_W} {p9 : j2_W} {I : Nat → Nat → Int32} {A : Nat → Nat → Nat → Int32}
  (h : C 27 [vO 2 o0] (I, [p0, vO 3 g1, p2, p3, p4, p5, p6, p7, p8, p9], A) (fun r σ1 => T37 C Q 38 [vO 2 o0, vI x1, vI x2, vI x3, vI xs0, vM 2, vM 2] (r.toList ++ []) σ1)) :
  T37 C Q 35 [vO 2 o0, vI x1, vI x2, vI x3, vM 2, vM 2, vM 2] [vI xs0] (I, [p0, vO 3 g1, p2, p3, p4, p5, p6, p7, p8, p9], A) := j2_T.go hC [0, 13, 26, 33, 35, 38, 42, 46, 78] 400 h
set_option maxRecDepth 100000 in
theorem b37_38 {C : j2_C} (hC : j2_up1 C) {Q : j2_P} {o0 : Nat} {x1 : Int32} {x2 : Int32} {x3 : Int32} {x4 : Int32} {xs0 : Int32} {p0 : j2_W} {g1 : Nat} {p2 : j2_W} {p3 : j2_W} {p4 : j2_W} {p5 : j2_W} {p6 : j2_W} {p7 : j2_W} {p8 : j2_W} {p9 : j2_W} {I : Nat → Nat → Int32} {A : Nat → Nat → Nat → Int32}
  (h : C 34 [vO 2 o0, vI xs0] (I, [p0, vO 3 g1, p2, p3, p4, p5, p6, p7, p8, p9], A) (fun r σ1 => T37 C Q 42 [vO 2 o0, vI x1, vI x2, vI x3, vI x4, vI xs0, vM 2] (r.toList ++ []) σ1)) :
  T37 C Q 38 [vO 2 o0, vI x1, vI x2, vI x3, vI x4, vM 2, vM 2] [vI xs0] (I, [p0, vO 3 g1, p2, p3, p4, p5, p6, p7, p8, p9], A) := j2_T.go hC [0, 13, 26, 33, 35, 38, 42, 46, 78] 400 h
set_option maxRecDepth 100000 in
theorem b37_42 {C : j2_C} (hC : j2_up1 C) {Q : j2_P} {o0 : Nat} {x1 : Int32} {x2 : Int32} {x3 : Int32} {x4 : Int32} {x5 : Int32} {xs0 : Int32} {p0 : j2_W} {g1 : Nat} {p2 : j2_W} {p3 : j2_W} {p4 : j2_W} {p5 : j2_W} {p6 : j2_W} {p7 : j2_W} {p8 : j2_W} {p9 : j2_W} {I : Nat → Nat → Int32} {A : Nat → Nat → Nat → Int32}
  (h : ((¬ xs0 = 0 → (vp_in x2 10 ∧ ((¬ x1 = (nI 17) → (vp_in ((((x5 - (nI 1)) * (nI 60)) + ((A 3004 g1 x2.toNatClampNeg) * (nI 6))) + x3) 12000 ∧ C 26 [vO 2 o0, vI (A 2014 o0 ((((x5 - (nI 1)) * (nI 60)) + ((A 3004 g1 x2.toNatClampNeg) * (nI 6))) + x3).toNatClampNeg)] (I, [p0, vO 3 g1, p2, p3, p4, p5, p6, p7, p8, p9], A) (fun r σ1 => T37 C Q 78 [vO 2 o0, vI x1, vI x2, vI x3, vI x4, vI x5, vI ((((x5 - (nI 1)) * (nI 60)) + ((A 3004 g1 x2.toNatClampNeg) * (nI 6))) + x3)] (r.toList ++ []) σ1))) ∧ (¬ (¬ x1 = (nI 17)) → (vp_in ((((x5 - (nI 1)) * (nI 60)) + ((A 3004 g1 x2.toNatClampNeg) * (nI 6))) + x3) 12000 ∧ T37 C Q 78 [vO 2 o0, vI x1, vI x2, vI x3, vI x4, vI x5, vI ((((x5 - (nI 1)) * (nI 60)) + ((A 3004 g1 x2.toNatClampNeg) * (nI 6))) + x3)] [] (I, [p0, vO 3 g1, p2, p3, p4, p5, p6, p7, p8, p9], (j2_ast A 2014 o0 ((((x5 - (nI 1)) * (nI 60)) + ((A 3004 g1 x2.toNatClampNeg) * (nI 6))) + x3).toNatClampNeg x4))))))) ∧ (¬ (¬ xs0 = 0) → C 25 [vO 2 o0, vI (nI 1)] (I, [p0, vO 3 g1, p2, p3, p4, p5, p6, p7, p8, p9], A) (fun r σ1 => T37 C Q 46 [vO 2 o0, vI x1, vI x2, vI x3, vI x4, vI x5, vM 2] (r.toList ++ []) σ1)))) :
  T37 C Q 42 [vO 2 o0, vI x1, vI x2, vI x3, vI x4, vI x5, vM 2] [vI xs0] (I, [p0, vO 3 g1, p2, p3, p4, p5, p6, p7, p8, p9], A) := j2_T.go hC [0, 13, 26, 33, 35, 38, 42, 46, 78] 400 h
set_option maxRecDepth 100000 in
theorem b37_46 {C : j2_C} (hC : j2_up1 C) {Q : j2_P} {o0 : Nat} {x1 : Int32} {x2 : Int32} {x3 : Int32} {x4 : Int32} {x5 : Int32} {p0 : j2_W} {g1 : Nat} {p2 : j2_W} {p3 : j2_W} {p4 : j2_W} {p5 : j2_W} {p6 : j2_W} {p7 : j2_W} {p8 : j2_W} {p9 : j2_W} {I : Nat → Nat → Int32} {A : Nat → Nat → Nat → Int32}
  (h : ((none : Option FieldType) = none ∧ Q none (I, [p0, vO 3 g1, p2, p3, p4, p5, p6, p7, p8, p9], A))) :
  T37 C Q 46 [vO 2 o0, vI x1, vI x2, vI x3, vI x4, vI x5, vM 2] [] (I, [p0, vO 3 g1, p2, p3, p4, p5, p6, p7, p8, p9], A) := j2_T.go hC [0, 13, 26, 33, 35, 38, 42, 46, 78] 400 h
set_option maxRecDepth 100000 in
theorem b37_78 {C : j2_C} (hC : j2_up1 C) {Q : j2_P} {o0 : Nat} {x1 : Int32} {x2 : Int32} {x3 : Int32} {x4 : Int32} {x5 : Int32} {x6 : Int32} {p0 : j2_W} {g1 : Nat} {p2 : j2_W} {p3 : j2_W} {p4 : j2_W} {p5 : j2_W} {p6 : j2_W} {p7 : j2_W} {p8 : j2_W} {p9 : j2_W} {I : Nat → Nat → Int32} {A : Nat → Nat → Nat → Int32}
  (h : ((none : Option FieldType) = none ∧ Q none (I, [p0, vO 3 g1, p2, p3, p4, p5, p6, p7, p8, p9], A))) :
  T37 C Q 78 [vO 2 o0, vI x1, vI x2, vI x3, vI x4, vI x5, vI x6] [] (I, [p0, vO 3 g1, p2, p3, p4, p5, p6, p7, p8, p9], A) := j2_T.go hC [0, 13, 26, 33, 35, 38, 42, 46, 78] 400 h
abbrev T38 (C : j2_C) (Q : j2_P) : j2_K := j2_T C jc_X2_enter none Q
set_option maxRecDepth 100000 in
theorem b38_0 {C : j2_C} (hC : j2_up1 C) {Q : j2_P} {o0 : Nat} {x1 : Int32} {x2 : Int32} {p0 : j2_W} {g1 : Nat} {p2 : j2_W} {p3 : j2_W} {p4 : j2_W} {p5 : j2_W} {p6 : j2_W} {p7 : j2_W} {p8 : j2_W} {p9 : j2_W} {I : Nat → Nat → Int32} {A : Nat → Nat → Nat → Int32}
  (h : (vp_in x2 80 ∧ C 51 [vO 3 g1, vI x2] (I, [p0, vO 3 g1, p2, p3, p4, p5, p6, p7, p8, p9], A) (fun r σ1 => T38 C Q 14 [vO 2 o0, vI x1, vI x2, vI ((I 2007 o0) - (nI 1)), vM 2, vM 2, vM 2, vM 2] (r.toList ++ [vI (A 3015 g1 x2.toNatClampNeg)]) σ1))) :
  T38 C Q 0 [vO 2 o0, vI x1, vI x2, vM 2, vM 2, vM 2, vM 2, vM 2] [] (I, [p0, vO 3 g1, p2, p3, p4, p5, p6, p7, p8, p9], A) := j2_T.go hC [0, 14, 29, 45, 49, 53, 67, 69, 70, 79, 82, 108] 400 h
set_option maxRecDepth 100000 in
theorem b38_14 {C : j2_C} (hC : j2_up1 C) {Q : j2_P} {o0 : Nat} {x1 : Int32} {x2 : Int32} {x3 : Int32} {xs0 : Int32} {xs1 : Int32} {p0 : j2_W} {g1 : Nat} {p2 : j2_W} {p3 : j2_W} {p4 : j2_W} {p5 : j2_W} {p6 : j2_W} {p7 : j2_W} {p8 : j2_W} {p9 : j2_W} {I : Nat → Nat → Int32} {A : Nat → Nat → Nat → Int32}
  (h : (vp_in x3 40 ∧ C 51 [vO 3 g1, vI x2] (I, [p0, vO 3 g1, p2, p3, p4, p5, p6, p7, p8, p9], A) (fun r σ1 => T38 C Q 29 [vO 2 o0, vI x1, vI x2, vI x3, vI (xs1 + xs0), vI ((A 2010 o0 x3.toNatClampNeg) - (xs1 + xs0)), vI x2, vM 2] (r.toList ++ []) σ1))) :
  T38 C Q 14 [vO 2 o0, vI x1, vI x2, vI x3, vM 2, vM 2, vM 2, vM 2] [vI xs0, vI xs1] (I, [p0, vO 3 g1, p2, p3, p4, p5, p6, p7, p8, p9], A) := j2_T.go hC [0, 14, 29, 45, 49, 53, 67, 69, 70, 79, 82, 108] 400 h
set_option maxRecDepth 100000 in
theorem b38_29 {C : j2_C} (hC : j2_up1 C) {Q : j2_P} {o0 : Nat} {x1 : Int32} {x2 : Int32} {x3 : Int32} {x4 : Int32} {x5 : Int32} {x6 : Int32} {xs0 : Int32} {p0 : j2_W} {g1 : Nat} {p2 : j2_W} {p3 : j2_W} {p4 : j2_W} {p5 : j2_W} {p6 : j2_W} {p7 : j2_W} {p8 : j2_W} {p9 : j2_W} {I : Nat → Nat → Int32} {A : Nat → Nat → Nat → Int32}
  (h : ((¬ xs0 = (nI 1) → T38 C Q 70 [vO 2 o0, vI x1, vI x2, vI x3, vI x4, vI x5, vI x6, vM 2] [] (I, [p0, vO 3 g1, p2, p3, p4, p5, p6, p7, p8, p9], A)) ∧ (¬ (¬ xs0 = (nI 1)) → ((x5 < 0 → T38 C Q 45 [vO 2 o0, vI x1, vI x2, vI x3, vI x4, vI x5, vI x6, vM 2] [vI (nI 0)] (I, [p0, vO 3 g1, p2, p3, p4, p5, p6, p7, p8, p9], A)) ∧ (¬ (x5 < 0) → (vp_in (((x3 * (nI 30)) + (nI 20)) + x5) 1200 ∧ T38 C Q 45 [vO 2 o0, vI x1, vI x2, vI x3, vI x4, vI x5, vI x6, vM 2] [vI (A 2011 o0 (((x3 * (nI 30)) + (nI 20)) + x5).toNatClampNeg)] (I, [p0, vO 3 g1, p2, p3, p4, p5, p6, p7, p8, p9], A))))))) :
  T38 C Q 29 [vO 2 o0, vI x1, vI x2, vI x3, vI x4, vI x5, vI x6, vM 2] [vI xs0] (I, [p0, vO 3 g1, p2, p3, p4, p5, p6, p7, p8, p9], A) := j2_T.go hC [0, 14, 29, 45, 49, 53, 67, 69, 70, 79, 82, 108] 400 h
set_option maxRecDepth 100000 in
theorem b38_45 {C : j2_C} (hC : j2_up1 C) {Q : j2_P} {o0 : Nat} {x1 : Int32} {x2 : Int32} {x3 : Int32} {x4 : Int32} {x5 : Int32} {x6 : Int32} {xs0 : Int32} {p0 : j2_W} {g1 : Nat} {p2 : j2_W} {p3 : j2_W} {p4 : j2_W} {p5 : j2_W} {p6 : j2_W} {p7 : j2_W} {p8 : j2_W} {p9 : j2_W} {I : Nat → Nat → Int32} {A : Nat → Nat → Nat → Int32}
  (h : C 34 [vO 2 o0, vI xs0] (I, [p0, vO 3 g1, p2, p3, p4, p5, p6, p7, p8, p9], A) (fun r σ1 => T38 C Q 49 [vO 2 o0, vI x1, vI x2, vI x3, vI x4, vI x5, vI x6, vI xs0] (r.toList ++ []) σ1)) :
  T38 C Q 45 [vO 2 o0, vI x1, vI x2, vI x3, vI x4, vI x5, vI x6, vM 2] [vI xs0] (I, [p0, vO 3 g1, p2, p3, p4, p5, p6, p7, p8, p9], A) := j2_T.go hC [0, 14, 29, 45, 49, 53, 67, 69, 70, 79, 82, 108] 400 h
set_option maxRecDepth 100000 in
theorem b38_49 {C : j2_C} (hC : j2_up1 C) {Q : j2_P} {o0 : Nat} {x1 : Int32} {x2 : Int32} {x3 : Int32} {x4 : Int32} {x5 : Int32} {x6 : Int32} {x7 : Int32} {xs0 : Int32} {p0 : j2_W} {g1 : Nat} {p2 : j2_W} {p3 : j2_W} {p4 : j2_W} {p5 : j2_W} {p6 : j2_W} {p7 : j2_W} {p8 : j2_W} {p9 : j2_W} {I : Nat → Nat → Int32} {A : Nat → Nat → Nat → Int32}
  (h : ((¬ xs0 = 0 → ((¬ x1 = (nI 21) → T38 C Q 69 [vO 2 o0, vI x1, vI x2, vI x3, vI x4, vI x5, vI x6, vI x7] [vI x2] (I, [p0, vO 3 g1, p2, p3, p4, p5, p6, p7, p8, p9], A)) ∧ (¬ (¬ x1 = (nI 21)) → (vp_in (x7 - (nI 1)) 200 ∧ C 49 [vO 3 g1, vI (A 2013 o0 (x7 - (nI 1)).toNatClampNeg), vI x2] (I, [p0, vO 3 g1, p2, p3, p4, p5, p6, p7, p8, p9], A) (fun r σ1 => T38 C Q 67 [vO 2 o0, vI x1, vI x2, vI x3, vI x4, vI x5, vI x6, vI x7] (r.toList ++ []) σ1))))) ∧ (¬ (¬ xs0 = 0) → C 25 [vO 2 o0, vI (nI 1)] (I, [p0, vO 3 g1, p2, p3, p4, p5, p6, p7, p8, p9], A) (fun r σ1 => T38 C Q 53 [vO 2 o0, vI x1, vI x2, vI x3, vI x4, vI x5, vI x6, vI x7] (r.toList ++ []) σ1)))) :
  T38 C Q 49 [vO 2 o0, vI x1, vI x2, vI x3, vI x4, vI x5, vI x6, vI x7] [vI xs0] (I, [p0, vO 3 g1, p2, p3, p4, p5, p6, p7, p8, p9], A) := j2_T.go hC [0, 14, 29, 45, 49, 53, 67, 69, 70, 79, 82, 108] 400 h
set_option maxRecDepth 100000 in
theorem b38_53 {C : j2_C} (hC : j2_up1 C) {Q : j2_P} {o0 : Nat} {x1 : Int32} {x2 : Int32} {x3 : Int32} {x4 : Int32} {x5 : Int32} {x6 : Int32} {x7 : Int32} {p0 : j2_W} {g1 : Nat} {p2 : j2_W} {p3 : j2_W} {p4 : j2_W} {p5 : j2_W} {p6 : j2_W} {p7 : j2_W} {p8 : j2_W} {p9 : j2_W} {I : Nat → Nat → Int32} {A : Nat → Nat → Nat → Int32}
  (h : ((none : Option FieldType) = none ∧ Q none (I, [p0, vO 3 g1, p2, p3, p4, p5, p6, p7, p8, p9], A))) :
  T38 C Q 53 [vO 2 o0, vI x1, vI x2, vI x3, vI x4, vI x5, vI x6, vI x7] [] (I, [p0, vO 3 g1, p2, p3, p4, p5, p6, p7, p8, p9], A) := j2_T.go hC [0, 14, 29, 45, 49, 53, 67, 69, 70, 79, 82, 108] 400 h
set_option maxRecDepth 100000 in
theorem b38_67 {C : j2_C} (hC : j2_up1 C) {Q : j2_P} {o0 : Nat} {x1 : Int32} {x2 : Int32} {x3 : Int32} {x4 : Int32} {x5 : Int32} {x6 : Int32} {x7 : Int32} {xs0 : Int32} {p0 : j2_W} {g1 : Nat} {p2 : j2_W} {p3 : j2_W} {p4 : j2_W} {p5 : j2_W} {p6 : j2_W} {p7 : j2_W} {p8 : j2_W} {p9 : j2_W} {I : Nat → Nat → Int32} {A : Nat → Nat → Nat → Int32}
  (h : T38 C Q 69 [vO 2 o0, vI x1, vI x2, vI x3, vI x4, vI x5, vI x6, vI x7] [vI xs0] (I, [p0, vO 3 g1, p2, p3, p4, p5, p6, p7, p8, p9], A)) :
  T38 C Q 67 [vO 2 o0, vI x1, vI x2, vI x3, vI x4, vI x5, vI x6, vI x7] [vI xs0] (I, [p0, vO 3 g1, p2, p3, p4, p5, p6, p7, p8, p9], A) := j2_T.go hC [0, 14, 29, 45, 49, 53, 67, 69, 70, 79, 82, 108] 400 h
set_option maxRecDepth 100000 in
theorem b38_69 {C : j2_C} (hC : j2_up1 C) {Q : j2_P} {o0 : Nat} {x1 : Int32} {x2 : Int32} {x3 : Int32} {x4 : Int32} {x5 : Int32} {x6 : Int32} {x7 : Int32} {xs0 : Int32} {p0 : j2_W} {g1 : Nat} {p2 : j2_W} {p3 : j2_W} {p4 : j2_W} {p5 : j2_W} {p6 : j2_W} {p7 : j2_W} {p8 : j2_W} {p9 : j2_W} {I : Nat → Nat → Int32} {A : Nat → Nat → Nat → Int32}
  (h : T38 C Q 70 [vO 2 o0, vI x1, vI x2, vI x3, vI x4, vI x5, vI xs0, vI x7] [] (I, [p0, vO 3 g1, p2, p3, p4, p5, p6, p7, p8, p9], A)) :
  T38 C Q 69 [vO 2 o0, vI x1, vI x2, vI x3, vI x4, vI x5, vI x6, vI x7] [vI xs0] (I, [p0, vO 3 g1, p2, p3, p4, p5, p6, p7, p8, p9], A) := j2_T.go hC [0, 14, 29, 45, 49, 53, 67, 69, 70, 79, 82, 108] 400 h
set_option maxRecDepth 100000 in
theorem b38_70 {C : j2_C} (hC : j2_up1 C) {Q : j2_P} {o0 : Nat} {x1 : Int32} {x2 : Int32} {x3 : Int32} {x4 : Int32} {x5 : Int32} {x6 : Int32} {w7 : j2_W} {p0 : j2_W} {g1 : Nat} {p2 : j2_W} {p3 : j2_W} {p4 : j2_W} {p5 : j2_W} {p6 : j2_W} {p7 : j2_W} {p8 : j2_W} {p9 : j2_W} {I : Nat → Nat → Int32} {A : Nat → Nat → Nat → Int32}
  (h : (((nI 40) ≤ (I 2007 o0) → T38 C Q 79 [vO 2 o0, vI x1, vI x2, vI x3, vI x4, vI x5, vI x6, w7] [] (I, [p0, vO 3 g1, p2, p3, p4, p5, p6, p7, p8, p9], A)) ∧ (¬ ((nI 40) ≤ (I 2007 o0)) → ((x6 = (-1 : Int32) → T38 C Q 79 [vO 2 o0, vI x1, vI x2, vI x3, vI x4, vI x5, vI x6, w7] [] (I, [p0, vO 3 g1, p2, p3, p4, p5, p6, p7, p8, p9], A)) ∧ (¬ (x6 = (-1 : Int32)) → ((0 ≤ x5 → (vp_in x3 40 ∧ (¬ (((x3 * (nI 30)) + (nI 20)) + x5) < 0 ∧ ¬ ((I 2007 o0) * (nI 30)) < 0 ∧ ¬ x4 < 0 ∧ (((x3 * (nI 30)) + (nI 20)) + x5).toNatClampNeg + x4.toNatClampNeg ≤ 1200 ∧ ((I 2007 o0) * (nI 30)).toNatClampNeg + x4.toNatClampNeg ≤ 1200 ∧ C 24 [vO 2 o0, vI x6] (I, [p0, vO 3 g1, p2, p3, p4, p5, p6, p7, p8, p9], (j2_acp (j2_ast A 2010 o0 x3.toNatClampNeg x5) 2011 o0 2011 o0 (((x3 * (nI 30)) + (nI 20)) + x5).toNatClampNeg ((I 2007 o0) * (nI 30)).toNatClampNeg x4.toNatClampNeg)) (fun r σ1 => T38 C Q 108 [vO 2 o0, vI x1, vI x2, vI x3, vI x4, vI x5, vI x6, w7] (r.toList ++ []) σ1)))) ∧ (¬ (0 ≤ x5) → T38 C Q 79 [vO 2 o0, vI x1, vI x2, vI x3, vI x4, vI x5, vI x6, w7] [] (I, [p0, vO 3 g1, p2, p3, p4, p5, p6, p7, p8, p9], A)))))))) :
  T38 C Q 70 [vO 2 o0, vI x1, vI x2, vI x3, vI x4, vI x5, vI x6, w7] [] (I, [p0, vO 3 g1, p2, p3, p4, p5, p6, p7, p8, p9], A) := j2_T.go hC [0, 14, 29, 45, 49, 53, 67, 69, 70, 79, 82, 108] 400 h
set_option maxRecDepth 100000 in
theorem b38_79 {C : j2_C} (hC : j2_up1 C) {Q : j2_P} {o0 : Nat} {x1 : Int32} {x2 : Int32} {x3 : Int32} {x4 : Int32} {x5 : Int32} {x6 : Int32} {w7 : j2_W} {p0 : j2_W} {g1 : Nat} {p2 : j2_W} {p3 : j2_W} {p4 : j2_W} {p5 : j2_W} {p6 : j2_W} {p7 : j2_W} {p8 : j2_W} {p9 : j2_W} {I : Nat → Nat → Int32} {A : Nat → Nat → Nat → Int32}
  (h : C 25 [vO 2 o0, vI (nI 5)] (I, [p0, vO 3 g1, p2, p3, p4, p5, p6, p7, p8, p9], A) (fun r σ1 => T38 C Q 82 [vO 2 o0, vI x1, vI x2, vI x3, vI x4, vI x5, vI x6, w7] (r.toList ++ []) σ1)) :
  T38 C Q 79 [vO 2 o0, vI x1, vI x2, vI x3, vI x4, vI x5, vI x6, w7] [] (I, [p0, vO 3 g1, p2, p3, p4, p5, p6, p7, p8, p9], A) := j2_T.go hC [0, 14, 29, 45, 49, 53, 67, 69, 70, 79, 82, 108] 400 h
set_option maxRecDepth 100000 in
theorem b38_82 {C : j2_C} (hC : j2_up1 C) {Q : j2_P} {o0 : Nat} {x1 : Int32} {x2 : Int32} {x3 : Int32} {x4 : Int32} {x5 : Int32} {x6 : Int32} {w7 : j2_W} {p0 : j2_W} {g1 : Nat} {p2 : j2_W} {p3 : j2_W} {p4 : j2_W} {p5 : j2_W} {p6 : j2_W} {p7 : j2_W} {p8 : j2_W} {p9 : j2_W} {I : Nat → Nat → Int32} {A : Nat → Nat → Nat → Int32}
  (h : ((none : Option FieldType) = none ∧ Q none (I, [p0, vO 3 g1, p2, p3, p4, p5, p6, p7, p8, p9], A))) :
  T38 C Q 82 [vO 2 o0, vI x1, vI x2, vI x3, vI x4, vI x5, vI x6, w7] [] (I, [p0, vO 3 g1, p2, p3, p4, p5, p6, p7, p8, p9], A) := j2_T.go hC [0, 14, 29, 45, 49, 53, 67, 69, 70, 79, 82, 108] 400 h
set_option maxRecDepth 100000 in
theorem b38_108 {C : j2_C} (hC : j2_up1 C) {Q : j2_P} {o0 : Nat} {x1 : Int32} {x2 : Int32} {x3 : Int32} {x4 : Int32} {x5 : Int32} {x6 : Int32} {w7 : j2_W} {p0 : j2_W} {g1 : Nat} {p2 : j2_W} {p3 : j2_W} {p4 : j2_W} {p5 : j2_W} {p6 : j2_W} {p7 : j2_W} {p8 : j2_W} {p9 : j2_W} {I : Nat → Nat → Int32} {A : Nat → Nat → Nat → Int32}
  (h : ((none : Option FieldType) = none ∧ Q none (I, [p0, vO 3 g1, p2, p3, p4, p5, p6, p7, p8, p9], A))) :
  T38 C Q 108 [vO 2 o0, vI x1, vI x2, vI x3, vI x4, vI x5, vI x6, w7] [] (I, [p0, vO 3 g1, p2, p3, p4, p5, p6, p7, p8, p9], A) := j2_T.go hC [0, 14, 29, 45, 49, 53, 67, 69, 70, 79, 82, 108] 400 h
abbrev T39 (C : j2_C) (Q : j2_P) : j2_K := j2_T C jc_X2_leave none Q
set_option maxRecDepth 100000 in
theorem b39_0 {C : j2_C} (hC : j2_up1 C) {Q : j2_P} {o0 : Nat} {p0 : j2_W} {g1 : Nat} {p2 : j2_W} {p3 : j2_W} {p4 : j2_W} {p5 : j2_W} {p6 : j2_W} {p7 : j2_W} {p8 : j2_W} {p9 : j2_W} {I : Nat → Nat → Int32} {A : Nat → Nat → Nat → Int32}
  (h : (vp_in ((I 2007 o0) - (nI 1)) 40 ∧ (vp_in (A 2008 o0 ((I 2007 o0) - (nI 1)).toNatClampNeg) 80 ∧ (((A 3014 g1 (A 2008 o0 ((I 2007 o0) - (nI 1)).toNatClampNeg).toNatClampNeg) = 0 → T39 C Q 15 [vO 2 o0, vM 2, vM 2] [vI (nI 0)] (I, [p0, vO 3 g1, p2, p3, p4, p5, p6, p7, p8, p9], A)) ∧ (¬ ((A 3014 g1 (A 2008 o0 ((I 2007 o0) - (nI 1)).toNatClampNeg).toNatClampNeg) = 0) → T39 C Q 15 [vO 2 o0, vM 2, vM 2] [vI (nI 1)] (I, [p0, vO 3 g1, p2, p3, p4, p5, p6, p7, p8, p9], A)))))) :
  T39 C Q 0 [vO 2 o0, vM 2, vM 2] [] (I, [p0, vO 3 g1, p2, p3, p4, p5, p6, p7, p8, p9], A) := j2_T.go hC [0, 15, 20, 22, 42] 400 h
set_option maxRecDepth 100000 in
theorem b39_15 {C : j2_C} (hC : j2_up1 C) {Q : j2_P} {o0 : Nat} {xs0 : Int32} {p0 : j2_W} {g1 : Nat} {p2 : j2_W} {p3 : j2_W} {p4 : j2_W} {p5 : j2_W} {p6 : j2_W} {p7 : j2_W} {p8 : j2_W} {p9 : j2_W} {I : Nat → Nat → Int32} {A : Nat → Nat → Nat → Int32}
  (h : ((xs0 = 0 → T39 C Q 22 [vO 2 o0, vI xs0, vM 2] [vI (nI 0)] (I, [p0, vO 3 g1, p2, p3, p4, p5, p6, p7, p8, p9], A)) ∧ (¬ (xs0 = 0) → C 27 [vO 2 o0] (I, [p0, vO 3 g1, p2, p3, p4, p5, p6, p7, p8, p9], A) (fun r σ1 => T39 C Q 20 [vO 2 o0, vI xs0, vM 2] (r.toList ++ []) σ1)))) :
  T39 C Q 15 [vO 2 o0, vM 2, vM 2] [vI xs0] (I, [p0, vO 3 g1, p2, p3, p4, p5, p6, p7, p8, p9], A) := j2_T.go hC [0, 15, 20, 22, 42] 400 h
set_option maxRecDepth 100000 in
theorem b39_20 {C : j2_C} (hC : j2_up1 C) {Q : j2_P} {o0 : Nat} {x1 : Int32} {xs0 : Int32} {p0 : j2_W} {g1 : Nat} {p2 : j2_W} {p3 : j2_W} {p4 : j2_W} {p5 : j2_W} {p6 : j2_W} {p7 : j2_W} {p8 : j2_W} {p9 : j2_W} {I : Nat → Nat → Int32} {A : Nat → Nat → Nat → Int32}
  (h : T39 C Q 22 [vO 2 o0, vI x1, vM 2] [vI xs0] (I, [p0, vO 3 g1, p2, p3, p4, p5, p6, p7, p8, p9], A)) :
  T39 C Q 20 [vO 2 o0, vI x1, vM 2] [vI xs0] (I, [p0, vO 3 g1, p2, p3, p4, p5, p6, p7, p8, p9], A) := j2_T.go hC [0, 15, 20, 22, 42] 400 h
set_option maxRecDepth 100000 in
theorem b39_22 {C : j2_C} (hC : j2_up1 C) {Q : j2_P} {o0 : Nat} {x1 : Int32} {xs0 : Int32} {p0 : j2_W} {g1 : Nat} {p2 : j2_W} {p3 : j2_W} {p4 : j2_W} {p5 : j2_W} {p6 : j2_W} {p7 : j2_W} {p8 : j2_W} {p9 : j2_W} {I : Nat → Nat → Int32} {A : Nat → Nat → Nat → Int32}
  (h : ((¬ (I 2007 o0) = (nI 1) → ((x1 = 0 → T39 C Q 42 [vO 2 o0, vI x1, vI xs0] [] ((j2_up I 2007 o0 ((I 2007 o0) - (nI 1))), [p0, vO 3 g1, p2, p3, p4, p5, p6, p7, p8, p9], A)) ∧ (¬ (x1 = 0) → C 26 [vO 2 o0, vI xs0] ((j2_up I 2007 o0 ((I 2007 o0) - (nI 1))), [p0, vO 3 g1, p2, p3, p4, p5, p6, p7, p8, p9], A) (fun r σ1 => T39 C Q 42 [vO 2 o0, vI x1, vI xs0] (r.toList ++ []) σ1)))) ∧ (¬ (¬ (I 2007 o0) = (nI 1)) → ((none : Option FieldType) = none ∧ Q none ((j2_up I 2006 o0 (nI 0)), [p0, vO 3 g1, p2, p3, p4, p5, p6, p7, p8, p9], A))))) :
  T39 C Q 22 [vO 2 o0, vI x1, vM 2] [vI xs0] (I, [p0, vO 3 g1, p2, p3, p4, p5, p6, p7, p8, p9], A) := j2_T.go hC [0, 15, 20, 22, 42] 400 h
set_option maxRecDepth 100000 in
theorem b39_42 {C : j2_C} (hC : j2_up1 C) {Q : j2_P} {o0 : Nat} {x1 : Int32} {x2 : Int32} {p0 : j2_W} {g1 : Nat} {p2 : j2_W} {p3 : j2_W} {p4 : j2_W} {p5 : j2_W} {p6 : j2_W} {p7 : j2_W} {p8 : j2_W} {p9 : j2_W} {I : Nat → Nat → Int32} {A : Nat → Nat → Nat → Int32}
  (h : (vp_in ((I 2007 o0) - (nI 1)) 40 ∧ (vp_in ((I 2007 o0) - (nI 1)) 40 ∧ ((none : Option FieldType) = none ∧ Q none (I, [p0, vO 3 g1, p2, p3, p4, p5, p6, p7, p8, p9], (j2_ast A 2009 o0 ((I 2007 o0) - (nI 1)).toNatClampNeg ((A 2009 o0 ((I 2007 o0) - (nI 1)).toNatClampNeg) + (nI 1)))))))) :
  T39 C Q 42 [vO 2 o0, vI x1, vI x2] [] (I, [p0, vO 3 g1, p2, p3, p4, p5, p6, p7, p8, p9], A) := j2_T.go hC [0, 15, 20, 22, 42] 400 h
abbrev T41 (C : j2_C) (Q : j2_P) : j2_K := j2_T C jc_X3_hasClass (some .boolean) Q
set_option maxRecDepth 100000 in
theorem b41_0 {C : j2_C} (hC : j2_up1 C) {Q : j2_P} {o0 : Nat} {x1 : Int32} {σ : j2_S}
  (h : ((x1 < 0 → (((nI 0) = 0 ∨ (nI 0) = 1) ∧ Q (some (vI (nI 0))) σ)) ∧ (¬ (x1 < 0) → (((σ.1 3000 o0) ≤ x1 → (((nI 0) = 0 ∨ (nI 0) = 1) ∧ Q (some (vI (nI 0))) σ)) ∧ (¬ ((σ.1 3000 o0) ≤ x1) → (((nI 1) = 0 ∨ (nI 1) = 1) ∧ Q (some (vI (nI 1))) σ)))))) :
  T41 C Q 0 [vO 3 o0, vI x1] [] σ := j2_T.go hC [0] 400 h
abbrev T42 (C : j2_C) (Q : j2_P) : j2_K := j2_T C jc_X3_hasField (some .boolean) Q
set_option maxRecDepth 100000 in
theorem b42_0 {C : j2_C} (hC : j2_up1 C) {Q : j2_P} {o0 : Nat} {x1 : Int32} {x2 : Int32} {σ : j2_S}
  (h : C 41 [vO 3 o0, vI x1] σ (fun r σ1 => T42 C Q 3 [vO 3 o0, vI x1, vI x2] (r.toList ++ []) σ1)) :
  T42 C Q 0 [vO 3 o0, vI x1, vI x2] [] σ := j2_T.go hC [0, 3] 400 h
set_option maxRecDepth 100000 in
theorem b42_3 {C : j2_C} (hC : j2_up1 C) {Q : j2_P} {o0 : Nat} {x1 : Int32} {x2 : Int32} {xs0 : Int32} {σ : j2_S}
  (h : ((xs0 = 0 → (((nI 0) = 0 ∨ (nI 0) = 1) ∧ Q (some (vI (nI 0))) σ)) ∧ (¬ (xs0 = 0) → ((x2 < 0 → (((nI 0) = 0 ∨ (nI 0) = 1) ∧ Q (some (vI (nI 0))) σ)) ∧ (¬ (x2 < 0) → (vp_in x1 10 ∧ (((σ.2.2 3005 o0 x1.toNatClampNeg) ≤ x2 → (((nI 0) = 0 ∨ (nI 0) = 1) ∧ Q (some (vI (nI 0))) σ)) ∧ (¬ ((σ.2.2 3005 o0 x1.toNatClampNeg) ≤ x2) → (((nI 1) = 0 ∨ (nI 1) = 1) ∧ Q (some (vI (nI 1))) σ))))))))) :
  T42 C Q 3 [vO 3 o0, vI x1, vI x2] [vI xs0] σ := j2_T.go hC [0, 3] 400 h
abbrev T43 (C : j2_C) (Q : j2_P) : j2_K := j2_T C jc_X3_hasMethod (some .boolean) Q
set_option maxRecDepth 100000 in
theorem b43_0 {C : j2_C} (hC : j2_up1 C) {Q : j2_P} {o0 : Nat} {x1 : Int32} {x2 : Int32} {σ : j2_S}
  (h : C 41 [vO 3 o0, vI x1] σ (fun r σ1 => T43 C Q 3 [vO 3 o0, vI x1, vI x2] (r.toList ++ []) σ1)) :
  T43 C Q 0 [vO 3 o0, vI x1, vI x2] [] σ := j2_T.go hC [0, 3] 400 h
set_option maxRecDepth 100000 in
theorem b43_3 {C : j2_C} (hC : j2_up1 C) {Q : j2_P} {o0 : Nat} {x1 : Int32} {x2 : Int32} {xs0 : Int32} {σ : j2_S}
  (h : ((xs0 = 0 → (((nI 0) = 0 ∨ (nI 0) = 1) ∧ Q (some (vI (nI 0))) σ)) ∧ (¬ (xs0 = 0) → ((x2 < 0 → (((nI 0) = 0 ∨ (nI 0) = 1) ∧ Q (some (vI (nI 0))) σ)) ∧ (¬ (x2 < 0) → (vp_in x1 10 ∧ (((σ.2.2 3006 o0 x1.toNatClampNeg) ≤ x2 → (((nI 0) = 0 ∨ (nI 0) = 1) ∧ Q (some (vI (nI 0))) σ)) ∧ (¬ ((σ.2.2 3006 o0 x1.toNatClampNeg) ≤ x2) → (((nI 1) = 0 ∨ (nI 1) = 1) ∧ Q (some (vI (nI 1))) σ))))))))) :
  T43 C Q 3 [vO 3 o0, vI x1, vI x2] [vI xs0] σ := j2_T.go hC [0, 3] 400 h
abbrev T44 (C : j2_C) (Q : j2_P) : j2_K := j2_T C jc_X3_hasNumber (some .boolean) Q
set_option maxRecDepth 100000 in
theorem b44_0 {C : j2_C} (hC : j2_up1 C) {Q : j2_P} {o0 : Nat} {x1 : Int32} {σ : j2_S}
  (h : ((x1 < 0 → (((nI 0) = 0 ∨ (nI 0) = 1) ∧ Q (some (vI (nI 0))) σ)) ∧ (¬ (x1 < 0) → (((σ.1 3001 o0) ≤ x1 → (((nI 0) = 0 ∨ (nI 0) = 1) ∧ Q (some (vI (nI 0))) σ)) ∧ (¬ ((σ.1 3001 o0) ≤ x1) → (((nI 1) = 0 ∨ (nI 1) = 1) ∧ Q (some (vI (nI 1))) σ)))))) :
  T44 C Q 0 [vO 3 o0, vI x1] [] σ := j2_T.go hC [0] 400 h
abbrev T45 (C : j2_C) (Q : j2_P) : j2_K := j2_T C jc_X3_hasInstruction (some .boolean) Q
set_option maxRecDepth 100000 in
theorem b45_0 {C : j2_C} (hC : j2_up1 C) {Q : j2_P} {o0 : Nat} {x1 : Int32} {x2 : Int32} {σ : j2_S}
  (h : C 44 [vO 3 o0, vI x1] σ (fun r σ1 => T45 C Q 3 [vO 3 o0, vI x1, vI x2] (r.toList ++ []) σ1)) :
  T45 C Q 0 [vO 3 o0, vI x1, vI x2] [] σ := j2_T.go hC [0, 3] 400 h
set_option maxRecDepth 100000 in
theorem b45_3 {C : j2_C} (hC : j2_up1 C) {Q : j2_P} {o0 : Nat} {x1 : Int32} {x2 : Int32} {xs0 : Int32} {σ : j2_S}
  (h : ((xs0 = 0 → (((nI 0) = 0 ∨ (nI 0) = 1) ∧ Q (some (vI (nI 0))) σ)) ∧ (¬ (xs0 = 0) → ((x2 < 0 → (((nI 0) = 0 ∨ (nI 0) = 1) ∧ Q (some (vI (nI 0))) σ)) ∧ (¬ (x2 < 0) → (vp_in x1 80 ∧ (((σ.2.2 0 (o0 + 17) x1.toNatClampNeg) ≤ x2 → (((nI 0) = 0 ∨ (nI 0) = 1) ∧ Q (some (vI (nI 0))) σ)) ∧ (¬ ((σ.2.2 0 (o0 + 17) x1.toNatClampNeg) ≤ x2) → (((nI 1) = 0 ∨ (nI 1) = 1) ∧ Q (some (vI (nI 1))) σ))))))))) :
  T45 C Q 3 [vO 3 o0, vI x1, vI x2] [vI xs0] σ := j2_T.go hC [0, 3] 400 h
abbrev T46 (C : j2_C) (Q : j2_P) : j2_K := j2_T C jc_X3_countFields (some .int) Q
set_option maxRecDepth 100000 in
theorem b46_0 {C : j2_C} (hC : j2_up1 C) {Q : j2_P} {o0 : Nat} {σ : j2_S}
  (h : T46 C Q 4 [vO 3 o0, vI (nI 0), vI (nI 0)] [] σ) :
  T46 C Q 0 [vO 3 o0, vM 2, vM 2] [] σ := j2_T.go hC [0, 4] 400 h
set_option maxRecDepth 100000 in
theorem b46_4 {C : j2_C} (hC : j2_up1 C) {Q : j2_P} {o0 : Nat} {x1 : Int32} {x2 : Int32} {σ : j2_S}
  (h : (((σ.1 3000 o0) ≤ x2 → (True ∧ Q (some (vI x1)) σ)) ∧ (¬ ((σ.1 3000 o0) ≤ x2) → (vp_in x2 10 ∧ T46 C Q 4 [vO 3 o0, vI (x1 + (σ.2.2 3005 o0 x2.toNatClampNeg)), vI (x2 + (nI 1))] [] σ)))) :
  T46 C Q 4 [vO 3 o0, vI x1, vI x2] [] σ := j2_T.go hC [0, 4] 400 h
abbrev T47 (C : j2_C) (Q : j2_P) : j2_K := j2_T C jc_X3_countInstructions (some .int) Q
set_option maxRecDepth 100000 in
theorem b47_0 {C : j2_C} (hC : j2_up1 C) {Q : j2_P} {o0 : Nat} {σ : j2_S}
  (h : T47 C Q 4 [vO 3 o0, vI (nI 0), vI (nI 0)] [] σ) :
  T47 C Q 0 [vO 3 o0, vM 2, vM 2] [] σ := j2_T.go hC [0, 4] 400 h
set_option maxRecDepth 100000 in
theorem b47_4 {C : j2_C} (hC : j2_up1 C) {Q : j2_P} {o0 : Nat} {x1 : Int32} {x2 : Int32} {σ : j2_S}
  (h : (((σ.1 3001 o0) ≤ x2 → (True ∧ Q (some (vI x1)) σ)) ∧ (¬ ((σ.1 3001 o0) ≤ x2) → (vp_in x2 80 ∧ T47 C Q 4 [vO 3 o0, vI (x1 + (σ.2.2 0 (o0 + 17) x2.toNatClampNeg)), vI (x2 + (nI 1))] [] σ)))) :
  T47 C Q 4 [vO 3 o0, vI x1, vI x2] [] σ := j2_T.go hC [0, 4] 400 h
abbrev T48 (C : j2_C) (Q : j2_P) : j2_K := j2_T C jc_X3_covers (some .boolean) Q
set_option maxRecDepth 100000 in
theorem b48_0 {C : j2_C} (hC : j2_up1 C) {Q : j2_P} {o0 : Nat} {x1 : Int32} {x2 : Int32} {σ : j2_S}
  (h : T48 C Q 4 [vO 3 o0, vI x1, vI x2, vI x2, vI (nI 0)] [] σ) :
  T48 C Q 0 [vO 3 o0, vI x1, vI x2, vM 2, vM 2] [] σ := j2_T.go hC [0, 4] 400 h
set_option maxRecDepth 100000 in
theorem b48_4 {C : j2_C} (hC : j2_up1 C) {Q : j2_P} {o0 : Nat} {x1 : Int32} {x2 : Int32} {x3 : Int32} {x4 : Int32} {σ : j2_S}
  (h : (((nI 10) ≤ x4 → (((nI 0) = 0 ∨ (nI 0) = 1) ∧ Q (some (vI (nI 0))) σ)) ∧ (¬ ((nI 10) ≤ x4) → ((x3 < 0 → (((nI 0) = 0 ∨ (nI 0) = 1) ∧ Q (some (vI (nI 0))) σ)) ∧ (¬ (x3 < 0) → ((¬ x3 = x1 → (vp_in x3 10 ∧ T48 C Q 4 [vO 3 o0, vI x1, vI x2, vI (σ.2.2 3003 o0 x3.toNatClampNeg), vI (x4 + (nI 1))] [] σ)) ∧ (¬ (¬ x3 = x1) → (((nI 1) = 0 ∨ (nI 1) = 1) ∧ Q (some (vI (nI 1))) σ)))))))) :
  T48 C Q 4 [vO 3 o0, vI x1, vI x2, vI x3, vI x4] [] σ := j2_T.go hC [0, 4] 400 h
abbrev T49 (C : j2_C) (Q : j2_P) : j2_K := j2_T C jc_X3_meaning (some .int) Q
set_option maxRecDepth 100000 in
theorem b49_0 {C : j2_C} (hC : j2_up1 C) {Q : j2_P} {o0 : Nat} {x1 : Int32} {x2 : Int32} {σ : j2_S}
  (h : T49 C Q 4 [vO 3 o0, vI x1, vI x2, vI x1, vI (nI 0), vM 2] [] σ) :
  T49 C Q 0 [vO 3 o0, vI x1, vI x2, vM 2, vM 2, vM 2] [] σ := j2_T.go hC [0, 4, 16] 400 h
set_option maxRecDepth 100000 in
theorem b49_4 {C : j2_C} (hC : j2_up1 C) {Q : j2_P} {o0 : Nat} {x1 : Int32} {x2 : Int32} {x3 : Int32} {x4 : Int32} {w5 : j2_W} {σ : j2_S}
  (h : (((nI 10) ≤ x4 → (True ∧ Q (some (vI (-1 : Int32))) σ)) ∧ (¬ ((nI 10) ≤ x4) → ((x3 < 0 → (True ∧ Q (some (vI (-1 : Int32))) σ)) ∧ (¬ (x3 < 0) → (vp_in x2 80 ∧ C 50 [vO 3 o0, vI x3, vI (σ.2.2 3012 o0 x2.toNatClampNeg)] σ (fun r σ1 => T49 C Q 16 [vO 3 o0, vI x1, vI x2, vI x3, vI x4, w5] (r.toList ++ []) σ1))))))) :
  T49 C Q 4 [vO 3 o0, vI x1, vI x2, vI x3, vI x4, w5] [] σ := j2_T.go hC [0, 4, 16] 400 h
set_option maxRecDepth 100000 in
theorem b49_16 {C : j2_C} (hC : j2_up1 C) {Q : j2_P} {o0 : Nat} {x1 : Int32} {x2 : Int32} {x3 : Int32} {x4 : Int32} {w5 : j2_W} {xs0 : Int32} {σ : j2_S}
  (h : ((xs0 = (-1 : Int32) → (vp_in x3 10 ∧ T49 C Q 4 [vO 3 o0, vI x1, vI x2, vI (σ.2.2 3003 o0 x3.toNatClampNeg), vI (x4 + (nI 1)), vI xs0] [] σ)) ∧ (¬ (xs0 = (-1 : Int32)) → (True ∧ Q (some (vI xs0)) σ)))) :
  T49 C Q 16 [vO 3 o0, vI x1, vI x2, vI x3, vI x4, w5] [vI xs0] σ := j2_T.go hC [0, 4, 16] 400 h
abbrev T50 (C : j2_C) (Q : j2_P) : j2_K := j2_T C jc_X3_named (some .int) Q
set_option maxRecDepth 100000 in
theorem b50_0 {C : j2_C} (hC : j2_up1 C) {Q : j2_P} {o0 : Nat} {x1 : Int32} {x2 : Int32} {σ : j2_S}
  (h : (vp_in x1 10 ∧ T50 C Q 7 [vO 3 o0, vI x1, vI x2, vI (σ.2.2 3007 o0 x1.toNatClampNeg), vI (nI 0)] [] σ)) :
  T50 C Q 0 [vO 3 o0, vI x1, vI x2, vM 2, vM 2] [] σ := j2_T.go hC [0, 7] 400 h
set_option maxRecDepth 100000 in
theorem b50_7 {C : j2_C} (hC : j2_up1 C) {Q : j2_P} {o0 : Nat} {x1 : Int32} {x2 : Int32} {x3 : Int32} {x4 : Int32} {σ : j2_S}
  (h : (vp_in x1 10 ∧ (((σ.2.2 3006 o0 x1.toNatClampNeg) ≤ x4 → (True ∧ Q (some (vI (-1 : Int32))) σ)) ∧ (¬ ((σ.2.2 3006 o0 x1.toNatClampNeg) ≤ x4) → (vp_in (x3 + x4) 80 ∧ ((¬ (σ.2.2 3012 o0 (x3 + x4).toNatClampNeg) = x2 → T50 C Q 7 [vO 3 o0, vI x1, vI x2, vI x3, vI (x4 + (nI 1))] [] σ) ∧ (¬ (¬ (σ.2.2 3012 o0 (x3 + x4).toNatClampNeg) = x2) → (True ∧ Q (some (vI (x3 + x4))) σ)))))))) :
  T50 C Q 7 [vO 3 o0, vI x1, vI x2, vI x3, vI x4] [] σ := j2_T.go hC [0, 7] 400 h
abbrev T51 (C : j2_C) (Q : j2_P) : j2_K := j2_T C jc_X3_receivers (some .int) Q
set_option maxRecDepth 100000 in
theorem b51_0 {C : j2_C} (hC : j2_up1 C) {Q : j2_P} {o0 : Nat} {x1 : Int32} {σ : j2_S}
  (h : (vp_in x1 80 ∧ ((¬ (σ.2.2 3013 o0 x1.toNatClampNeg) = 0 → (True ∧ Q (some (vI (nI 0))) σ)) ∧ (¬ (¬ (σ.2.2 3013 o0 x1.toNatClampNeg) = 0) → (True ∧ Q (some (vI (nI 1))) σ))))) :
  T51 C Q 0 [vO 3 o0, vI x1] [] σ := j2_T.go hC [0] 400 h
abbrev T52 (C : j2_C) (Q : j2_P) : j2_K := j2_T C jc_X3_typeOfField (some .int) Q
set_option maxRecDepth 100000 in
theorem b52_0 {C : j2_C} (hC : j2_up1 C) {Q : j2_P} {o0 : Nat} {x1 : Int32} {x2 : Int32} {σ : j2_S}
  (h : (vp_in ((x1 * (nI 6)) + x2) 60 ∧ ((¬ (σ.2.2 3009 o0 ((x1 * (nI 6)) + x2).toNatClampNeg) = 0 → (True ∧ Q (some (vI (((σ.2.2 3009 o0 ((x1 * (nI 6)) + x2).toNatClampNeg) - (nI 1)) + (nI 4)))) σ)) ∧ (¬ (¬ (σ.2.2 3009 o0 ((x1 * (nI 6)) + x2).toNatClampNeg) = 0) → (True ∧ Q (some (vI (nI 1))) σ))))) :
  T52 C Q 0 [vO 3 o0, vI x1, vI x2, vM 2] [] σ := j2_T.go hC [0] 400 h
abbrev T53 (C : j2_C) (Q : j2_P) : j2_K := j2_T C jc_X3_typeOfParam (some .int) Q
set_option maxRecDepth 100000 in
theorem b53_0 {C : j2_C} (hC : j2_up1 C) {Q : j2_P} {o0 : Nat} {x1 : Int32} {x2 : Int32} {σ : j2_S}
  (h : (vp_in ((x1 * (nI 3)) + x2) 240 ∧ ((¬ (σ.2.2 3016 o0 ((x1 * (nI 3)) + x2).toNatClampNeg) = 0 → (True ∧ Q (some (vI (((σ.2.2 3016 o0 ((x1 * (nI 3)) + x2).toNatClampNeg) - (nI 1)) + (nI 4)))) σ)) ∧ (¬ (¬ (σ.2.2 3016 o0 ((x1 * (nI 3)) + x2).toNatClampNeg) = 0) → (True ∧ Q (some (vI (nI 1))) σ))))) :
  T53 C Q 0 [vO 3 o0, vI x1, vI x2, vM 2] [] σ := j2_T.go hC [0] 400 h
abbrev T54 (C : j2_C) (Q : j2_P) : j2_K := j2_T C jc_X3_typeOfResult (some .int) Q
set_option maxRecDepth 100000 in
theorem b54_0 {C : j2_C} (hC : j2_up1 C) {Q : j2_P} {o0 : Nat} {x1 : Int32} {σ : j2_S}
  (h : (vp_in x1 80 ∧ ((¬ (σ.2.2 3014 o0 x1.toNatClampNeg) = (nI 1) → (vp_in x1 80 ∧ (True ∧ Q (some (vI (((σ.2.2 3014 o0 x1.toNatClampNeg) - (nI 2)) + (nI 4)))) σ))) ∧ (¬ (¬ (σ.2.2 3014 o0 x1.toNatClampNeg) = (nI 1)) → (True ∧ Q (some (vI (nI 1))) σ))))) :
  T54 C Q 0 [vO 3 o0, vI x1] [] σ := j2_T.go hC [0] 400 h
abbrev T55 (C : j2_C) (Q : j2_P) : j2_K := j2_T C jc_X3_sameFace (some .boolean) Q
set_option maxRecDepth 100000 in
theorem b55_0 {C : j2_C} (hC : j2_up1 C) {Q : j2_P} {o0 : Nat} {x1 : Int32} {x2 : Int32} {σ : j2_S}
  (h : (vp_in x1 80 ∧ ((¬ (σ.2.2 3013 o0 x1.toNatClampNeg) = 0 → (((nI 0) = 0 ∨ (nI 0) = 1) ∧ Q (some (vI (nI 0))) σ)) ∧ (¬ (¬ (σ.2.2 3013 o0 x1.toNatClampNeg) = 0) → (vp_in x2 80 ∧ ((¬ (σ.2.2 3013 o0 x2.toNatClampNeg) = 0 → (((nI 0) = 0 ∨ (nI 0) = 1) ∧ Q (some (vI (nI 0))) σ)) ∧ (¬ (¬ (σ.2.2 3013 o0 x2.toNatClampNeg) = 0) → (vp_in x1 80 ∧ (vp_in x2 80 ∧ ((¬ (σ.2.2 3014 o0 x1.toNatClampNeg) = (σ.2.2 3014 o0 x2.toNatClampNeg) → (((nI 0) = 0 ∨ (nI 0) = 1) ∧ Q (some (vI (nI 0))) σ)) ∧ (¬ (¬ (σ.2.2 3014 o0 x1.toNatClampNeg) = (σ.2.2 3014 o0 x2.toNatClampNeg)) → (vp_in x1 80 ∧ (vp_in x2 80 ∧ (((σ.2.2 3015 o0 x1.toNatClampNeg) = (σ.2.2 3015 o0 x2.toNatClampNeg) → T55 C Q 32 [vO 3 o0, vI x1, vI x2, vI (nI 0)] [] σ) ∧ (¬ ((σ.2.2 3015 o0 x1.toNatClampNeg) = (σ.2.2 3015 o0 x2.toNatClampNeg)) → (((nI 0) = 0 ∨ (nI 0) = 1) ∧ Q (some (vI (nI 0))) σ)))))))))))))))) :
  T55 C Q 0 [vO 3 o0, vI x1, vI x2, vM 2] [] σ := j2_T.go hC [0, 32] 400 h
set_option maxRecDepth 100000 in
theorem b55_32 {C : j2_C} (hC : j2_up1 C) {Q : j2_P} {o0 : Nat} {x1 : Int32} {x2 : Int32} {x3 : Int32} {σ : j2_S}
  (h : (vp_in x1 80 ∧ (((σ.2.2 3015 o0 x1.toNatClampNeg) ≤ x3 → (((nI 1) = 0 ∨ (nI 1) = 1) ∧ Q (some (vI (nI 1))) σ)) ∧ (¬ ((σ.2.2 3015 o0 x1.toNatClampNeg) ≤ x3) → (vp_in ((x1 * (nI 3)) + x3) 240 ∧ (vp_in ((x2 * (nI 3)) + x3) 240 ∧ (((σ.2.2 3016 o0 ((x1 * (nI 3)) + x3).toNatClampNeg) = (σ.2.2 3016 o0 ((x2 * (nI 3)) + x3).toNatClampNeg) → T55 C Q 32 [vO 3 o0, vI x1, vI x2, vI (x3 + (nI 1))] [] σ) ∧ (¬ ((σ.2.2 3016 o0 ((x1 * (nI 3)) + x3).toNatClampNeg) = (σ.2.2 3016 o0 ((x2 * (nI 3)) + x3).toNatClampNeg)) → (((nI 0) = 0 ∨ (nI 0) = 1) ∧ Q (some (vI (nI 0))) σ))))))))) :
  T55 C Q 32 [vO 3 o0, vI x1, vI x2, vI x3] [] σ := j2_T.go hC [0, 32] 400 h
abbrev T57 (C : j2_C) (Q : j2_P) : j2_K := j2_T C jc_X4_find none Q
set_option maxRecDepth 100000 in
theorem b57_0 {C : j2_C} (hC : j2_up1 C) {Q : j2_P} {o0 : Nat} {o1 : Nat} {o2 : Nat} {o3 : Nat} {e3 : Nat} {x4 : Int32} {p0 : j2_W} {p1 : j2_W} {g2 : Nat} {p3 : j2_W} {p4 : j2_W} {p5 : j2_W} {p6 : j2_W} {p7 : j2_W} {p8 : j2_W} {p9 : j2_W} {I : Nat → Nat → Int32} {A : Nat → Nat → Nat → Int32}
  (h : C 58 [vO 4 o0] (I, [p0, p1, vO 3 o1, p3, p4, p5, p6, p7, p8, p9], A) (fun r σ1 => T57 C Q 5 [vO 4 o0, vO 3 o1, vO 0 o2, vA e3 o3, vI x4, vM 2, vM 2] (r.toList ++ []) σ1)) :
  T57 C Q 0 [vO 4 o0, vO 3 o1, vO 0 o2, vA e3 o3, vI x4, vM 2, vM 2] [] (I, [p0, p1, vO 3 g2, p3, p4, p5, p6, p7, p8, p9], A) := j2_T.go hC [0, 5, 9, 13, 15, 32, 43, 58] 400 h
set_option maxRecDepth 100000 in
theorem b57_5 {C : j2_C} (hC : j2_up1 C) {Q : j2_P} {o0 : Nat} {o1 : Nat} {o2 : Nat} {o3 : Nat} {e3 : Nat} {x4 : Int32} {p0 : j2_W} {p1 : j2_W} {g2 : Nat} {p3 : j2_W} {p4 : j2_W} {p5 : j2_W} {p6 : j2_W} {p7 : j2_W} {p8 : j2_W} {p9 : j2_W} {I : Nat → Nat → Int32} {A : Nat → Nat → Nat → Int32}
  (h : C 248 [vA 4000 o0, vI (nI 0)] (I, [p0, p1, vO 3 g2, p3, p4, p5, p6, p7, p8, p9], A) (fun r σ1 => T57 C Q 9 [vO 4 o0, vO 3 o1, vO 0 o2, vA e3 o3, vI x4, vM 2, vM 2] (r.toList ++ []) σ1)) :
  T57 C Q 5 [vO 4 o0, vO 3 o1, vO 0 o2, vA e3 o3, vI x4, vM 2, vM 2] [] (I, [p0, p1, vO 3 g2, p3, p4, p5, p6, p7, p8, p9], A) := j2_T.go hC [0, 5, 9, 13, 15, 32, 43, 58] 400 h
set_option maxRecDepth 100000 in
theorem b57_9 {C : j2_C} (hC : j2_up1 C) {Q : j2_P} {o0 : Nat} {o1 : Nat} {o2 : Nat} {o3 : Nat} {e3 : Nat} {x4 : Int32} {p0 : j2_W} {p1 : j2_W} {g2 : Nat} {p3 : j2_W} {p4 : j2_W} {p5 : j2_W} {p6 : j2_W} {p7 : j2_W} {p8 : j2_W} {p9 : j2_W} {I : Nat → Nat → Int32} {A : Nat → Nat → Nat → Int32}
  (h : C 248 [vA 4001 o0, vI (nI 0)] (I, [p0, p1, vO 3 g2, p3, p4, p5, p6, p7, p8, p9], A) (fun r σ1 => T57 C Q 13 [vO 4 o0, vO 3 o1, vO 0 o2, vA e3 o3, vI x4, vM 2, vM 2] (r.toList ++ []) σ1)) :
  T57 C Q 9 [vO 4 o0, vO 3 o1, vO 0 o2, vA e3 o3, vI x4, vM 2, vM 2] [] (I, [p0, p1, vO 3 g2, p3, p4, p5, p6, p7, p8, p9], A) := j2_T.go hC [0, 5, 9, 13, 15, 32, 43, 58] 400 h
set_option maxRecDepth 100000 in
theorem b57_13 {C : j2_C} (hC : j2_up1 C) {Q : j2_P} {o0 : Nat} {o1 : Nat} {o2 : Nat} {o3 : Nat} {e3 : Nat} {x4 : Int32} {p0 : j2_W} {p1 : j2_W} {g2 : Nat} {p3 : j2_W} {p4 : j2_W} {p5 : j2_W} {p6 : j2_W} {p7 : j2_W} {p8 : j2_W} {p9 : j2_W} {I : Nat → Nat → Int32} {A : Nat → Nat → Nat → Int32}
  (h : T57 C Q 15 [vO 4 o0, vO 3 o1, vO 0 o2, vA e3 o3, vI x4, vI (nI 0), vM 2] [] (I, [p0, p1, vO 3 g2, p3, p4, p5, p6, p7, p8, p9], A)) :
  T57 C Q 13 [vO 4 o0, vO 3 o1, vO 0 o2, vA e3 o3, vI x4, vM 2, vM 2] [] (I, [p0, p1, vO 3 g2, p3, p4, p5, p6, p7, p8, p9], A) := j2_T.go hC [0, 5, 9, 13, 15, 32, 43, 58] 400 h
set_option maxRecDepth 100000 in
theorem b57_15 {C : j2_C} (hC : j2_up1 C) {Q : j2_P} {o0 : Nat} {o1 : Nat} {o2 : Nat} {o3 : Nat} {e3 : Nat} {x4 : Int32} {x5 : Int32} {p0 : j2_W} {p1 : j2_W} {g2 : Nat} {p3 : j2_W} {p4 : j2_W} {p5 : j2_W} {p6 : j2_W} {p7 : j2_W} {p8 : j2_W} {p9 : j2_W} {I : Nat → Nat → Int32} {A : Nat → Nat → Nat → Int32}
  (h : ((x4 ≤ x5 → (((nI 1) = 0 ∨ (nI 1) = 1) ∧ T57 C Q 32 [vO 4 o0, vO 3 o1, vO 0 o2, vA e3 o3, vI x4, vI (nI 0), vM 2] [] ((j2_up I 4004 o0 (nI 1)), [p0, p1, vO 3 g2, p3, p4, p5, p6, p7, p8, p9], A))) ∧ (¬ (x4 ≤ x5) → (if lt_fq e3 = 0 then vp_in x5 (lt_fn e3) ∧ (vp_in (A e3 o3 x5.toNatClampNeg) 80 ∧ T57 C Q 15 [vO 4 o0, vO 3 o1, vO 0 o2, vA e3 o3, vI x4, vI (x5 + (nI 1)), vM 2] [] (I, [p0, p1, vO 3 g2, p3, p4, p5, p6, p7, p8, p9], (j2_ast A 4000 o0 (A e3 o3 x5.toNatClampNeg).toNatClampNeg (nI 1)))) else False)))) :
  T57 C Q 15 [vO 4 o0, vO 3 o1, vO 0 o2, vA e3 o3, vI x4, vI x5, vM 2] [] (I, [p0, p1, vO 3 g2, p3, p4, p5, p6, p7, p8, p9], A) := j2_T.go hC [0, 5, 9, 13, 15, 32, 43, 58] 400 h
set_option maxRecDepth 100000 in
theorem b57_32 {C : j2_C} (hC : j2_up1 C) {Q : j2_P} {o0 : Nat} {o1 : Nat} {o2 : Nat} {o3 : Nat} {e3 : Nat} {x4 : Int32} {x5 : Int32} {w6 : j2_W} {p0 : j2_W} {p1 : j2_W} {g2 : Nat} {p3 : j2_W} {p4 : j2_W} {p5 : j2_W} {p6 : j2_W} {p7 : j2_W} {p8 : j2_W} {p9 : j2_W} {I : Nat → Nat → Int32} {A : Nat → Nat → Nat → Int32}
  (h : (((nI 1000000) ≤ x5 → ((none : Option FieldType) = none ∧ Q none (I, [p0, p1, vO 3 g2, p3, p4, p5, p6, p7, p8, p9], A))) ∧ (¬ ((nI 1000000) ≤ x5) → (((I 4004 o0) = 0 → ((none : Option FieldType) = none ∧ Q none (I, [p0, p1, vO 3 g2, p3, p4, p5, p6, p7, p8, p9], A))) ∧ (¬ ((I 4004 o0) = 0) → (((nI 0) = 0 ∨ (nI 0) = 1) ∧ T57 C Q 43 [vO 4 o0, vO 3 o1, vO 0 o2, vA e3 o3, vI x4, vI x5, vI (nI 0)] [] ((j2_up I 4004 o0 (nI 0)), [p0, p1, vO 3 g2, p3, p4, p5, p6, p7, p8, p9], A))))))) :
  T57 C Q 32 [vO 4 o0, vO 3 o1, vO 0 o2, vA e3 o3, vI x4, vI x5, w6] [] (I, [p0, p1, vO 3 g2, p3, p4, p5, p6, p7, p8, p9], A) := j2_T.go hC [0, 5, 9, 13, 15, 32, 43, 58] 400 h
set_option maxRecDepth 100000 in
theorem b57_43 {C : j2_C} (hC : j2_up1 C) {Q : j2_P} {o0 : Nat} {o1 : Nat} {o2 : Nat} {o3 : Nat} {e3 : Nat} {x4 : Int32} {x5 : Int32} {x6 : Int32} {p0 : j2_W} {p1 : j2_W} {g2 : Nat} {p3 : j2_W} {p4 : j2_W} {p5 : j2_W} {p6 : j2_W} {p7 : j2_W} {p8 : j2_W} {p9 : j2_W} {I : Nat → Nat → Int32} {A : Nat → Nat → Nat → Int32}
  (h : (((I 3001 g2) ≤ x6 → T57 C Q 32 [vO 4 o0, vO 3 o1, vO 0 o2, vA e3 o3, vI x4, vI (x5 + (nI 1)), vI x6] [] (I, [p0, p1, vO 3 g2, p3, p4, p5, p6, p7, p8, p9], A)) ∧ (¬ ((I 3001 g2) ≤ x6) → (vp_in x6 80 ∧ ((¬ (A 4000 o0 x6.toNatClampNeg) = (nI 1) → T57 C Q 58 [vO 4 o0, vO 3 o1, vO 0 o2, vA e3 o3, vI x4, vI x5, vI x6] [] (I, [p0, p1, vO 3 g2, p3, p4, p5, p6, p7, p8, p9], A)) ∧ (¬ (¬ (A 4000 o0 x6.toNatClampNeg) = (nI 1)) → C 59 [vO 4 o0, vO 0 o2, vI x6] (I, [p0, p1, vO 3 g2, p3, p4, p5, p6, p7, p8, p9], A) (fun r σ1 => T57 C Q 58 [vO 4 o0, vO 3 o1, vO 0 o2, vA e3 o3, vI x4, vI x5, vI x6] (r.toList ++ []) σ1))))))) :
  T57 C Q 43 [vO 4 o0, vO 3 o1, vO 0 o2, vA e3 o3, vI x4, vI x5, vI x6] [] (I, [p0, p1, vO 3 g2, p3, p4, p5, p6, p7, p8, p9], A) := j2_T.go hC [0, 5, 9, 13, 15, 32, 43, 58] 400 h
set_option maxRecDepth 100000 in
theorem b57_58 {C : j2_C} (hC : j2_up1 C) {Q : j2_P} {o0 : Nat} {o1 : Nat} {o2 : Nat} {o3 : Nat} {e3 : Nat} {x4 : Int32} {x5 : Int32} {x6 : Int32} {p0 : j2_W} {p1 : j2_W} {g2 : Nat} {p3 : j2_W} {p4 : j2_W} {p5 : j2_W} {p6 : j2_W} {p7 : j2_W} {p8 : j2_W} {p9 : j2_W} {I : Nat → Nat → Int32} {A : Nat → Nat → Nat → Int32}
  (h : T57 C Q 43 [vO 4 o0, vO 3 o1, vO 0 o2, vA e3 o3, vI x4, vI x5, vI (x6 + (nI 1))] [] (I, [p0, p1, vO 3 g2, p3, p4, p5, p6, p7, p8, p9], A)) :
  T57 C Q 58 [vO 4 o0, vO 3 o1, vO 0 o2, vA e3 o3, vI x4, vI x5, vI x6] [] (I, [p0, p1, vO 3 g2, p3, p4, p5, p6, p7, p8, p9], A) := j2_T.go hC [0, 5, 9, 13, 15, 32, 43, 58] 400 h
abbrev T58 (C : j2_C) (Q : j2_P) : j2_K := j2_T C jc_X4_findMeans none Q
set_option maxRecDepth 100000 in
theorem b58_0 {C : j2_C} (hC : j2_up1 C) {Q : j2_P} {o0 : Nat} {p0 : j2_W} {p1 : j2_W} {g2 : Nat} {p3 : j2_W} {p4 : j2_W} {p5 : j2_W} {p6 : j2_W} {p7 : j2_W} {p8 : j2_W} {p9 : j2_W} {I : Nat → Nat → Int32} {A : Nat → Nat → Nat → Int32}
  (h : T58 C Q 2 [vO 4 o0, vI (nI 0), vM 2] [] (I, [p0, p1, vO 3 g2, p3, p4, p5, p6, p7, p8, p9], A)) :
  T58 C Q 0 [vO 4 o0, vM 2, vM 2] [] (I, [p0, p1, vO 3 g2, p3, p4, p5, p6, p7, p8, p9], A) := j2_T.go hC [0, 2, 9, 30, 36, 38] 400 h
set_option maxRecDepth 100000 in
theorem b58_2 {C : j2_C} (hC : j2_up1 C) {Q : j2_P} {o0 : Nat} {x1 : Int32} {w2 : j2_W} {p0 : j2_W} {p1 : j2_W} {g2 : Nat} {p3 : j2_W} {p4 : j2_W} {p5 : j2_W} {p6 : j2_W} {p7 : j2_W} {p8 : j2_W} {p9 : j2_W} {I : Nat → Nat → Int32} {A : Nat → Nat → Nat → Int32}
  (h : (((I 3000 g2) ≤ x1 → ((none : Option FieldType) = none ∧ Q none (I, [p0, p1, vO 3 g2, p3, p4, p5, p6, p7, p8, p9], A))) ∧ (¬ ((I 3000 g2) ≤ x1) → T58 C Q 9 [vO 4 o0, vI x1, vI (nI 0)] [] (I, [p0, p1, vO 3 g2, p3, p4, p5, p6, p7, p8, p9], A)))) :
  T58 C Q 2 [vO 4 o0, vI x1, w2] [] (I, [p0, p1, vO 3 g2, p3, p4, p5, p6, p7, p8, p9], A) := j2_T.go hC [0, 2, 9, 30, 36, 38] 400 h
set_option maxRecDepth 100000 in
theorem b58_9 {C : j2_C} (hC : j2_up1 C) {Q : j2_P} {o0 : Nat} {x1 : Int32} {x2 : Int32} {p0 : j2_W} {p1 : j2_W} {g2 : Nat} {p3 : j2_W} {p4 : j2_W} {p5 : j2_W} {p6 : j2_W} {p7 : j2_W} {p8 : j2_W} {p9 : j2_W} {I : Nat → Nat → Int32} {A : Nat → Nat → Nat → Int32}
  (h : (((I 3001 g2) ≤ x2 → T58 C Q 2 [vO 4 o0, vI (x1 + (nI 1)), vI x2] [] (I, [p0, p1, vO 3 g2, p3, p4, p5, p6, p7, p8, p9], A)) ∧ (¬ ((I 3001 g2) ≤ x2) → (vp_in x2 80 ∧ C 48 [vO 3 g2, vI (A 3011 g2 x2.toNatClampNeg), vI x1] (I, [p0, p1, vO 3 g2, p3, p4, p5, p6, p7, p8, p9], A) (fun r σ1 => T58 C Q 30 [vO 4 o0, vI x1, vI x2] (r.toList ++ [vI ((x1 * (nI 80)) + x2), vA 4002 o0]) σ1))))) :
  T58 C Q 9 [vO 4 o0, vI x1, vI x2] [] (I, [p0, p1, vO 3 g2, p3, p4, p5, p6, p7, p8, p9], A) := j2_T.go hC [0, 2, 9, 30, 36, 38] 400 h
set_option maxRecDepth 100000 in
theorem b58_30 {C : j2_C} (hC : j2_up1 C) {Q : j2_P} {o0 : Nat} {x1 : Int32} {x2 : Int32} {xs0 : Int32} {xs1 : Int32} {os2 : Nat} {p0 : j2_W} {p1 : j2_W} {g2 : Nat} {p3 : j2_W} {p4 : j2_W} {p5 : j2_W} {p6 : j2_W} {p7 : j2_W} {p8 : j2_W} {p9 : j2_W} {I : Nat → Nat → Int32} {A : Nat → Nat → Nat → Int32}
  (h : ((xs0 = 0 → T58 C Q 38 [vO 4 o0, vI x1, vI x2] [vI (-1 : Int32), vI xs1, vA 4002 os2] (I, [p0, p1, vO 3 g2, p3, p4, p5, p6, p7, p8, p9], A)) ∧ (¬ (xs0 = 0) → C 49 [vO 3 g2, vI x1, vI x2] (I, [p0, p1, vO 3 g2, p3, p4, p5, p6, p7, p8, p9], A) (fun r σ1 => T58 C Q 36 [vO 4 o0, vI x1, vI x2] (r.toList ++ [vI xs1, vA 4002 os2]) σ1)))) :
  T58 C Q 30 [vO 4 o0, vI x1, vI x2] [vI xs0, vI xs1, vA 4002 os2] (I, [p0, p1, vO 3 g2, p3, p4, p5, p6, p7, p8, p9], A) := j2_T.go hC [0, 2, 9, 30, 36, 38] 400 h
set_option maxRecDepth 100000 in
theorem b58_36 {C : j2_C} (hC : j2_up1 C) {Q : j2_P} {o0 : Nat} {x1 : Int32} {x2 : Int32} {xs0 : Int32} {xs1 : Int32} {os2 : Nat} {p0 : j2_W} {p1 : j2_W} {g2 : Nat} {p3 : j2_W} {p4 : j2_W} {p5 : j2_W} {p6 : j2_W} {p7 : j2_W} {p8 : j2_W} {p9 : j2_W} {I : Nat → Nat → Int32} {A : Nat → Nat → Nat → Int32}
  (h : T58 C Q 38 [vO 4 o0, vI x1, vI x2] [vI xs0, vI xs1, vA 4002 os2] (I, [p0, p1, vO 3 g2, p3, p4, p5, p6, p7, p8, p9], A)) :
  T58 C Q 36 [vO 4 o0, vI x1, vI x2] [vI xs0, vI xs1, vA 4002 os2] (I, [p0, p1, vO 3 g2, p3, p4, p5, p6, p7, p8, p9], A) := j2_T.go hC [0, 2, 9, 30, 36, 38] 400 h
set_option maxRecDepth 100000 in
theorem b58_38 {C : j2_C} (hC : j2_up1 C) {Q : j2_P} {o0 : Nat} {x1 : Int32} {x2 : Int32} {xs0 : Int32} {xs1 : Int32} {os2 : Nat} {p0 : j2_W} {p1 : j2_W} {g2 : Nat} {p3 : j2_W} {p4 : j2_W} {p5 : j2_W} {p6 : j2_W} {p7 : j2_W} {p8 : j2_W} {p9 : j2_W} {I : Nat → Nat → Int32} {A : Nat → Nat → Nat → Int32}
  (h : (vp_in xs1 800 ∧ T58 C Q 9 [vO 4 o0, vI x1, vI (x2 + (nI 1))] [] (I, [p0, p1, vO 3 g2, p3, p4, p5, p6, p7, p8, p9], (j2_ast A 4002 os2 xs1.toNatClampNeg xs0)))) :
  T58 C Q 38 [vO 4 o0, vI x1, vI x2] [vI xs0, vI xs1, vA 4002 os2] (I, [p0, p1, vO 3 g2, p3, p4, p5, p6, p7, p8, p9], A) := j2_T.go hC [0, 2, 9, 30, 36, 38] 400 h
abbrev T59 (C : j2_C) (Q : j2_P) : j2_K := j2_T C jc_X4_goThrough none Q
set_option maxRecDepth 100000 in
theorem b59_0 {C : j2_C} (hC : j2_up1 C) {Q : j2_P} {o0 : Nat} {o1 : Nat} {x2 : Int32} {p0 : j2_W} {p1 : j2_W} {g2 : Nat} {p3 : j2_W} {p4 : j2_W} {p5 : j2_W} {p6 : j2_W} {p7 : j2_W} {p8 : j2_W} {p9 : j2_W} {I : Nat → Nat → Int32} {A : Nat → Nat → Nat → Int32}
  (h : T59 C Q 6 [vO 4 o0, vO 0 o1, vI x2, vI (x2 * (nI 120)), vI (x2 * (nI 120)), vM 2] [] (I, [p0, p1, vO 3 g2, p3, p4, p5, p6, p7, p8, p9], A)) :
  T59 C Q 0 [vO 4 o0, vO 0 o1, vI x2, vM 2, vM 2, vM 2] [] (I, [p0, p1, vO 3 g2, p3, p4, p5, p6, p7, p8, p9], A) := j2_T.go hC [0, 6, 29, 30, 35, 36, 50, 51, 63, 64] 400 h
set_option maxRecDepth 100000 in
theorem b59_6 {C : j2_C} (hC : j2_up1 C) {Q : j2_P} {o0 : Nat} {o1 : Nat} {x2 : Int32} {x3 : Int32} {x4 : Int32} {w5 : j2_W} {p0 : j2_W} {p1 : j2_W} {g2 : Nat} {p3 : j2_W} {p4 : j2_W} {p5 : j2_W} {p6 : j2_W} {p7 : j2_W} {p8 : j2_W} {p9 : j2_W} {I : Nat → Nat → Int32} {A : Nat → Nat → Nat → Int32}
  (h : (vp_in x2 80 ∧ (((x3 + (A 0 o1 x2.toNatClampNeg)) ≤ x4 → ((none : Option FieldType) = none ∧ Q none (I, [p0, p1, vO 3 g2, p3, p4, p5, p6, p7, p8, p9], A))) ∧ (¬ ((x3 + (A 0 o1 x2.toNatClampNeg)) ≤ x4) → (vp_in x4 9600 ∧ ((0 ≤ (A 4 o1 x4.toNatClampNeg) → (vp_in x4 9600 ∧ (vp_in x4 9600 ∧ T59 C Q 29 [vO 4 o0, vO 0 o1, vI x2, vI x3, vI x4, vI (A 2 o1 x4.toNatClampNeg)] [vI (A 1 o1 x4.toNatClampNeg)] (I, [p0, p1, vO 3 g2, p3, p4, p5, p6, p7, p8, p9], A)))) ∧ (¬ (0 ≤ (A 4 o1 x4.toNatClampNeg)) → T59 C Q 64 [vO 4 o0, vO 0 o1, vI x2, vI x3, vI x4, w5] [] (I, [p0, p1, vO 3 g2, p3, p4, p5, p6, p7, p8, p9], A)))))))) :
  T59 C Q 6 [vO 4 o0, vO 0 o1, vI x2, vI x3, vI x4, w5] [] (I, [p0, p1, vO 3 g2, p3, p4, p5, p6, p7, p8, p9], A) := j2_T.go hC [0, 6, 29, 30, 35, 36, 50, 51, 63, 64] 400 h
set_option maxRecDepth 100000 in
theorem b59_29 {C : j2_C} (hC : j2_up1 C) {Q : j2_P} {o0 : Nat} {o1 : Nat} {x2 : Int32} {x3 : Int32} {x4 : Int32} {x5 : Int32} {xs0 : Int32} {p0 : j2_W} {p1 : j2_W} {g2 : Nat} {p3 : j2_W} {p4 : j2_W} {p5 : j2_W} {p6 : j2_W} {p7 : j2_W} {p8 : j2_W} {p9 : j2_W} {I : Nat → Nat → Int32} {A : Nat → Nat → Nat → Int32} (h0 : xs0 = (nI 15) → T59 C Q 30 [vO 4 o0, vO 0 o1, vI x2, vI x3, vI x4, vI x5] [] (I, [p0, p1, vO 3 g2, p3, p4, p5, p6, p7, p8, p9], A)) (h1 : xs0 = (nI 20) → T59 C Q 36 [vO 4 o0, vO 0 o1, vI x2, vI x3, vI x4, vI x5] [] (I, [p0, p1, vO 3 g2, p3, p4, p5, p6, p7, p8, p9], A)) (h2 : xs0 = (nI 21) → T59 C Q 51 [vO 4 o0, vO 0 o1, vI x2, vI x3, vI x4, vI x5] [] (I, [p0, p1, vO 3 g2, p3, p4, p5, p6, p7, p8, p9], A)) (hd : ¬ xs0 = (nI 15) → ¬ xs0 = (nI 20) → ¬ xs0 = (nI 21) → T59 C Q 64 [vO 4 o0, vO 0 o1, vI x2, vI x3, vI x4, vI x5] [] (I, [p0, p1, vO 3 g2, p3, p4, p5, p6, p7, p8, p9], A)) :
  T59 C Q 29 [vO 4 o0, vO 0 o1, vI x2, vI x3, vI x4, vI x5] [vI xs0] (I, [p0, p1, vO 3 g2, p3, p4, p5, p6, p7, p8, p9], A) := j2_T.lsw hC (d := 64) (ps := #[(15, 30), (20, 36), (21, 51)]) rfl (by
  by_cases g0 : xs0 = (nI 15)
  · subst g0; exact h0 rfl
  by_cases g1 : xs0 = (nI 20)
  · subst g1; exact h1 rfl
  by_cases g2 : xs0 = (nI 21)
  · subst g2; exact h2 rfl
  have q0 : ¬ (15 : Int) = xs0.toInt := fun q => g0 (Int32.toInt_inj.mp (q.symm.trans (by decide)))
  have q1 : ¬ (20 : Int) = xs0.toInt := fun q => g1 (Int32.toInt_inj.mp (q.symm.trans (by decide)))
  have q2 : ¬ (21 : Int) = xs0.toInt := fun q => g2 (Int32.toInt_inj.mp (q.symm.trans (by decide)))
  have := hd g0 g1 g2
  simpa [Op.lookupswitch.offset, q0, q1, q2] using this)
set_option maxRecDepth 100000 in
theorem b59_30 {C : j2_C} (hC : j2_up1 C) {Q : j2_P} {o0 : Nat} {o1 : Nat} {x2 : Int32} {x3 : Int32} {x4 : Int32} {x5 : Int32} {p0 : j2_W} {p1 : j2_W} {g2 : Nat} {p3 : j2_W} {p4 : j2_W} {p5 : j2_W} {p6 : j2_W} {p7 : j2_W} {p8 : j2_W} {p9 : j2_W} {I : Nat → Nat → Int32} {A : Nat → Nat → Nat → Int32}
  (h : C 60 [vO 4 o0, vA 4001 o0, vI x5] (I, [p0, p1, vO 3 g2, p3, p4, p5, p6, p7, p8, p9], A) (fun r σ1 => T59 C Q 35 [vO 4 o0, vO 0 o1, vI x2, vI x3, vI x4, vI x5] (r.toList ++ []) σ1)) :
  T59 C Q 30 [vO 4 o0, vO 0 o1, vI x2, vI x3, vI x4, vI x5] [] (I, [p0, p1, vO 3 g2, p3, p4, p5, p6, p7, p8, p9], A) := j2_T.go hC [0, 6, 29, 30, 35, 36, 50, 51, 63, 64] 400 h
set_option maxRecDepth 100000 in
theorem b59_35 {C : j2_C} (hC : j2_up1 C) {Q : j2_P} {o0 : Nat} {o1 : Nat} {x2 : Int32} {x3 : Int32} {x4 : Int32} {x5 : Int32} {p0 : j2_W} {p1 : j2_W} {g2 : Nat} {p3 : j2_W} {p4 : j2_W} {p5 : j2_W} {p6 : j2_W} {p7 : j2_W} {p8 : j2_W} {p9 : j2_W} {I : Nat → Nat → Int32} {A : Nat → Nat → Nat → Int32}
  (h : T59 C Q 64 [vO 4 o0, vO 0 o1, vI x2, vI x3, vI x4, vI x5] [] (I, [p0, p1, vO 3 g2, p3, p4, p5, p6, p7, p8, p9], A)) :
  T59 C Q 35 [vO 4 o0, vO 0 o1, vI x2, vI x3, vI x4, vI x5] [] (I, [p0, p1, vO 3 g2, p3, p4, p5, p6, p7, p8, p9], A) := j2_T.go hC [0, 6, 29, 30, 35, 36, 50, 51, 63, 64] 400 h
set_option maxRecDepth 100000 in
theorem b59_36 {C : j2_C} (hC : j2_up1 C) {Q : j2_P} {o0 : Nat} {o1 : Nat} {x2 : Int32} {x3 : Int32} {x4 : Int32} {x5 : Int32} {p0 : j2_W} {p1 : j2_W} {g2 : Nat} {p3 : j2_W} {p4 : j2_W} {p5 : j2_W} {p6 : j2_W} {p7 : j2_W} {p8 : j2_W} {p9 : j2_W} {I : Nat → Nat → Int32} {A : Nat → Nat → Nat → Int32}
  (h : (vp_in x5 10 ∧ (vp_in x4 9600 ∧ C 60 [vO 4 o0, vA 4000 o0, vI ((A 3007 g2 x5.toNatClampNeg) + (A 3 o1 x4.toNatClampNeg))] (I, [p0, p1, vO 3 g2, p3, p4, p5, p6, p7, p8, p9], A) (fun r σ1 => T59 C Q 50 [vO 4 o0, vO 0 o1, vI x2, vI x3, vI x4, vI x5] (r.toList ++ []) σ1)))) :
  T59 C Q 36 [vO 4 o0, vO 0 o1, vI x2, vI x3, vI x4, vI x5] [] (I, [p0, p1, vO 3 g2, p3, p4, p5, p6, p7, p8, p9], A) := j2_T.go hC [0, 6, 29, 30, 35, 36, 50, 51, 63, 64] 400 h
set_option maxRecDepth 100000 in
theorem b59_50 {C : j2_C} (hC : j2_up1 C) {Q : j2_P} {o0 : Nat} {o1 : Nat} {x2 : Int32} {x3 : Int32} {x4 : Int32} {x5 : Int32} {p0 : j2_W} {p1 : j2_W} {g2 : Nat} {p3 : j2_W} {p4 : j2_W} {p5 : j2_W} {p6 : j2_W} {p7 : j2_W} {p8 : j2_W} {p9 : j2_W} {I : Nat → Nat → Int32} {A : Nat → Nat → Nat → Int32}
  (h : T59 C Q 64 [vO 4 o0, vO 0 o1, vI x2, vI x3, vI x4, vI x5] [] (I, [p0, p1, vO 3 g2, p3, p4, p5, p6, p7, p8, p9], A)) :
  T59 C Q 50 [vO 4 o0, vO 0 o1, vI x2, vI x3, vI x4, vI x5] [] (I, [p0, p1, vO 3 g2, p3, p4, p5, p6, p7, p8, p9], A) := j2_T.go hC [0, 6, 29, 30, 35, 36, 50, 51, 63, 64] 400 h
set_option maxRecDepth 100000 in
theorem b59_51 {C : j2_C} (hC : j2_up1 C) {Q : j2_P} {o0 : Nat} {o1 : Nat} {x2 : Int32} {x3 : Int32} {x4 : Int32} {x5 : Int32} {p0 : j2_W} {p1 : j2_W} {g2 : Nat} {p3 : j2_W} {p4 : j2_W} {p5 : j2_W} {p6 : j2_W} {p7 : j2_W} {p8 : j2_W} {p9 : j2_W} {I : Nat → Nat → Int32} {A : Nat → Nat → Nat → Int32}
  (h : (vp_in x5 10 ∧ (vp_in x4 9600 ∧ C 61 [vO 4 o0, vI ((A 3007 g2 x5.toNatClampNeg) + (A 3 o1 x4.toNatClampNeg))] (I, [p0, p1, vO 3 g2, p3, p4, p5, p6, p7, p8, p9], A) (fun r σ1 => T59 C Q 63 [vO 4 o0, vO 0 o1, vI x2, vI x3, vI x4, vI x5] (r.toList ++ []) σ1)))) :
  T59 C Q 51 [vO 4 o0, vO 0 o1, vI x2, vI x3, vI x4, vI x5] [] (I, [p0, p1, vO 3 g2, p3, p4, p5, p6, p7, p8, p9], A) := j2_T.go hC [0, 6, 29, 30, 35, 36, 50, 51, 63, 64] 400 h
set_option maxRecDepth 100000 in
theorem b59_63 {C : j2_C} (hC : j2_up1 C) {Q : j2_P} {o0 : Nat} {o1 : Nat} {x2 : Int32} {x3 : Int32} {x4 : Int32} {x5 : Int32} {p0 : j2_W} {p1 : j2_W} {g2 : Nat} {p3 : j2_W} {p4 : j2_W} {p5 : j2_W} {p6 : j2_W} {p7 : j2_W} {p8 : j2_W} {p9 : j2_W} {I : Nat → Nat → Int32} {A : Nat → Nat → Nat → Int32}
  (h : T59 C Q 64 [vO 4 o0, vO 0 o1, vI x2, vI x3, vI x4, vI x5] [] (I, [p0, p1, vO 3 g2, p3, p4, p5, p6, p7, p8, p9], A)) :
  T59 C Q 63 [vO 4 o0, vO 0 o1, vI x2, vI x3, vI x4, vI x5] [] (I, [p0, p1, vO 3 g2, p3, p4, p5, p6, p7, p8, p9], A) := j2_T.go hC [0, 6, 29, 30, 35, 36, 50, 51, 63, 64] 400 h
set_option maxRecDepth 100000 in
theorem b59_64 {C : j2_C} (hC : j2_up1 C) {Q : j2_P} {o0 : Nat} {o1 : Nat} {x2 : Int32} {x3 : Int32} {x4 : Int32} {w5 : j2_W} {p0 : j2_W} {p1 : j2_W} {g2 : Nat} {p3 : j2_W} {p4 : j2_W} {p5 : j2_W} {p6 : j2_W} {p7 : j2_W} {p8 : j2_W} {p9 : j2_W} {I : Nat → Nat → Int32} {A : Nat → Nat → Nat → Int32}
  (h : T59 C Q 6 [vO 4 o0, vO 0 o1, vI x2, vI x3, vI (x4 + (nI 1)), w5] [] (I, [p0, p1, vO 3 g2, p3, p4, p5, p6, p7, p8, p9], A)) :
  T59 C Q 64 [vO 4 o0, vO 0 o1, vI x2, vI x3, vI x4, w5] [] (I, [p0, p1, vO 3 g2, p3, p4, p5, p6, p7, p8, p9], A) := j2_T.go hC [0, 6, 29, 30, 35, 36, 50, 51, 63, 64] 400 h
