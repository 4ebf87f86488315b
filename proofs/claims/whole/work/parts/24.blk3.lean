abbrev T128 (C : j2_C) (Q : j2_P) : j2_K := j2_T C jc_X9_feed (some .boolean) Q
set_option maxRecDepth 100000 in
theorem b128_0 {C : j2_C} (hC : j2_up1 C) {Q : j2_P} {o0 : Nat} {x1 : Int32} {x2 : Int32} {x3 : Int32} {x4 : Int32} {x5 : Int32} {σ : j2_S}
  (h : ((((σ.1 9001 o0) + (nI 20)) ≤ (nI 4000) → C 129 [vO 9 o0, vI x1] σ (fun r σ1 => T128 C Q 11 [vO 9 o0, vI x1, vI x2, vI x3, vI x4, vI x5] (r.toList ++ []) σ1)) ∧ (¬ (((σ.1 9001 o0) + (nI 20)) ≤ (nI 4000)) → (((nI 0) = 0 ∨ (nI 0) = 1) ∧ Q (some (vI (nI 0))) σ)))) :
  T128 C Q 0 [vO 9 o0, vI x1, vI x2, vI x3, vI x4, vI x5] [] σ := j2_T.go hC [0, 11, 14, 17, 20, 23] 400 h
set_option maxRecDepth 100000 in
theorem b128_11 {C : j2_C} (hC : j2_up1 C) {Q : j2_P} {o0 : Nat} {x1 : Int32} {x2 : Int32} {x3 : Int32} {x4 : Int32} {x5 : Int32} {σ : j2_S}
  (h : C 129 [vO 9 o0, vI x2] σ (fun r σ1 => T128 C Q 14 [vO 9 o0, vI x1, vI x2, vI x3, vI x4, vI x5] (r.toList ++ []) σ1)) :
  T128 C Q 11 [vO 9 o0, vI x1, vI x2, vI x3, vI x4, vI x5] [] σ := j2_T.go hC [0, 11, 14, 17, 20, 23] 400 h
set_option maxRecDepth 100000 in
theorem b128_14 {C : j2_C} (hC : j2_up1 C) {Q : j2_P} {o0 : Nat} {x1 : Int32} {x2 : Int32} {x3 : Int32} {x4 : Int32} {x5 : Int32} {σ : j2_S}
  (h : C 129 [vO 9 o0, vI x3] σ (fun r σ1 => T128 C Q 17 [vO 9 o0, vI x1, vI x2, vI x3, vI x4, vI x5] (r.toList ++ []) σ1)) :
  T128 C Q 14 [vO 9 o0, vI x1, vI x2, vI x3, vI x4, vI x5] [] σ := j2_T.go hC [0, 11, 14, 17, 20, 23] 400 h
set_option maxRecDepth 100000 in
theorem b128_17 {C : j2_C} (hC : j2_up1 C) {Q : j2_P} {o0 : Nat} {x1 : Int32} {x2 : Int32} {x3 : Int32} {x4 : Int32} {x5 : Int32} {σ : j2_S}
  (h : C 129 [vO 9 o0, vI x4] σ (fun r σ1 => T128 C Q 20 [vO 9 o0, vI x1, vI x2, vI x3, vI x4, vI x5] (r.toList ++ []) σ1)) :
  T128 C Q 17 [vO 9 o0, vI x1, vI x2, vI x3, vI x4, vI x5] [] σ := j2_T.go hC [0, 11, 14, 17, 20, 23] 400 h
set_option maxRecDepth 100000 in
theorem b128_20 {C : j2_C} (hC : j2_up1 C) {Q : j2_P} {o0 : Nat} {x1 : Int32} {x2 : Int32} {x3 : Int32} {x4 : Int32} {x5 : Int32} {σ : j2_S}
  (h : C 129 [vO 9 o0, vI x5] σ (fun r σ1 => T128 C Q 23 [vO 9 o0, vI x1, vI x2, vI x3, vI x4, vI x5] (r.toList ++ []) σ1)) :
  T128 C Q 20 [vO 9 o0, vI x1, vI x2, vI x3, vI x4, vI x5] [] σ := j2_T.go hC [0, 11, 14, 17, 20, 23] 400 h
set_option maxRecDepth 100000 in
theorem b128_23 {C : j2_C} (hC : j2_up1 C) {Q : j2_P} {o0 : Nat} {x1 : Int32} {x2 : Int32} {x3 : Int32} {x4 : Int32} {x5 : Int32} {σ : j2_S}
  (h : (((nI 1) = 0 ∨ (nI 1) = 1) ∧ Q (some (vI (nI 1))) σ)) :
  T128 C Q 23 [vO 9 o0, vI x1, vI x2, vI x3, vI x4, vI x5] [] σ := j2_T.go hC [0, 11, 14, 17, 20, 23] 400 h
abbrev T129 (C : j2_C) (Q : j2_P) : j2_K := j2_T C jc_X9_addNumber none Q
set_option maxRecDepth 100000 in
theorem b129_0 {C : j2_C} (hC : j2_up1 C) {Q : j2_P} {o0 : Nat} {x1 : Int32} {σ : j2_S}
  (h : T129 C Q 2 [vO 9 o0, vI x1, vI (nI 24)] [] σ) :
  T129 C Q 0 [vO 9 o0, vI x1, vM 2] [] σ := j2_T.go hC [0, 2, 23] 400 h
set_option maxRecDepth 100000 in
theorem b129_2 {C : j2_C} (hC : j2_up1 C) {Q : j2_P} {o0 : Nat} {x1 : Int32} {x2 : Int32} {σ : j2_S}
  (h : ((x2 < 0 → ((none : Option FieldType) = none ∧ Q none σ)) ∧ (¬ (x2 < 0) → (((nI 4000) ≤ (σ.1 9001 o0) → T129 C Q 23 [vO 9 o0, vI x1, vI x2] [] σ) ∧ (¬ ((nI 4000) ≤ (σ.1 9001 o0)) → ((x1 >>> (x2 &&& 31)).toInt8.toInt32.toInt8.toInt32 = (x1 >>> (x2 &&& 31)).toInt8.toInt32 ∧ vp_in (σ.1 9001 o0) 4000 ∧ T129 C Q 23 [vO 9 o0, vI x1, vI x2] [] ((j2_up σ.1 9001 o0 ((σ.1 9001 o0) + (nI 1))), σ.2.1, (j2_ast σ.2.2 9000 o0 (σ.1 9001 o0).toNatClampNeg (x1 >>> (x2 &&& 31)).toInt8.toInt32)))))))) :
  T129 C Q 2 [vO 9 o0, vI x1, vI x2] [] σ := j2_T.go hC [0, 2, 23] 400 h
set_option maxRecDepth 100000 in
theorem b129_23 {C : j2_C} (hC : j2_up1 C) {Q : j2_P} {o0 : Nat} {x1 : Int32} {x2 : Int32} {σ : j2_S}
  (h : T129 C Q 2 [vO 9 o0, vI x1, vI (x2 + (-8 : Int32))] [] σ) :
  T129 C Q 23 [vO 9 o0, vI x1, vI x2] [] σ := j2_T.go hC [0, 2, 23] 400 h
abbrev T130 (C : j2_C) (Q : j2_P) : j2_K := j2_T C jc_X9_end (some .boolean) Q
set_option maxRecDepth 100000 in
theorem b130_0 {C : j2_C} (hC : j2_up1 C) {Q : j2_P} {o0 : Nat} {x1 : Int32} {σ : j2_S}
  (h : ((x1 < 0 → (((nI 0) = 0 ∨ (nI 0) = 1) ∧ Q (some (vI (nI 0))) σ)) ∧ (¬ (x1 < 0) → ((x1 ≤ (σ.1 9001 o0) → (((nI 1) = 0 ∨ (nI 1) = 1) ∧ Q (some (vI (nI 1))) ((j2_up σ.1 9001 o0 x1), σ.2.1, σ.2.2))) ∧ (¬ (x1 ≤ (σ.1 9001 o0)) → (((nI 0) = 0 ∨ (nI 0) = 1) ∧ Q (some (vI (nI 0))) σ)))))) :
  T130 C Q 0 [vO 9 o0, vI x1] [] σ := j2_T.go hC [0] 400 h
abbrev T131 (C : j2_C) (Q : j2_P) : j2_K := j2_T C jc_X9_read (some .int) Q
set_option maxRecDepth 100000 in
theorem b131_0 {C : j2_C} (hC : j2_up1 C) {Q : j2_P} {o0 : Nat} {p0 : j2_W} {p1 : j2_W} {p2 : j2_W} {p3 : j2_W} {p4 : j2_W} {p5 : j2_W} {p6 : j2_W} {g7 : Nat} {p8 : j2_W} {g9 : Nat} {I : Nat → Nat → Int32} {A : Nat → Nat → Nat → Int32}
  (h : C 132 [vO 9 o0, vI (I 9001 o0)] ((j2_up (j2_up I 9001 o0 (nI 0)) 9013 o0 (-1 : Int32)), [p0, p1, p2, p3, p4, p5, p6, vO 3 g7, p8, vO 3 g9], A) (fun r σ1 => T131 C Q 12 [vO 9 o0, vI (I 9001 o0), vM 2, vM 2] (r.toList ++ []) σ1)) :
  T131 C Q 0 [vO 9 o0, vM 2, vM 2, vM 2] [] (I, [p0, p1, p2, p3, p4, p5, p6, vO 3 g7, p8, vO 3 g9], A) := j2_T.go hC [0, 12, 40] 400 h
set_option maxRecDepth 100000 in
theorem b131_12 {C : j2_C} (hC : j2_up1 C) {Q : j2_P} {o0 : Nat} {x1 : Int32} {xs0 : Int32} {p0 : j2_W} {p1 : j2_W} {p2 : j2_W} {p3 : j2_W} {p4 : j2_W} {p5 : j2_W} {p6 : j2_W} {g7 : Nat} {p8 : j2_W} {g9 : Nat} {I : Nat → Nat → Int32} {A : Nat → Nat → Nat → Int32}
  (h : ((¬ xs0 = 0 → T131 C Q 40 [vO 9 o0, vI x1, vI xs0, vM 2] [] (I, [p0, p1, p2, p3, p4, p5, p6, vO 3 g7, p8, vO 3 g9], A)) ∧ (¬ (¬ xs0 = 0) → (((nI 1) = 0 ∨ (nI 1) = 1) ∧ (((nI 0) = 0 ∨ (nI 0) = 1) ∧ C 19 [vO 2 (o0 + 109)] ((j2_up (j2_up (j2_up (j2_up I 9005 o0 (nI 1)) 9006 o0 (nI 0)) 9007 o0 x1) 9009 o0 (nI 0)), [p0, p1, p2, p3, p4, p5, p6, vO 3 g9, p8, vO 3 g7], A) (fun r σ1 => T131 C Q 40 [vO 9 o0, vI x1, vI xs0, vO 3 g7] (r.toList ++ []) σ1)))))) :
  T131 C Q 12 [vO 9 o0, vI x1, vM 2, vM 2] [vI xs0] (I, [p0, p1, p2, p3, p4, p5, p6, vO 3 g7, p8, vO 3 g9], A) := j2_T.go hC [0, 12, 40] 400 h
set_option maxRecDepth 100000 in
theorem b131_40 {C : j2_C} (hC : j2_up1 C) {Q : j2_P} {o0 : Nat} {x1 : Int32} {x2 : Int32} {w3 : j2_W} {p0 : j2_W} {p1 : j2_W} {p2 : j2_W} {p3 : j2_W} {p4 : j2_W} {p5 : j2_W} {p6 : j2_W} {g7 : Nat} {p8 : j2_W} {g9 : Nat} {I : Nat → Nat → Int32} {A : Nat → Nat → Nat → Int32}
  (h : (True ∧ Q (some (vI x2)) (I, [p0, p1, p2, p3, p4, p5, p6, vO 3 g7, p8, vO 3 g9], A))) :
  T131 C Q 40 [vO 9 o0, vI x1, vI x2, w3] [] (I, [p0, p1, p2, p3, p4, p5, p6, vO 3 g7, p8, vO 3 g9], A) := j2_T.go hC [0, 12, 40] 400 h
abbrev T132 (C : j2_C) (Q : j2_P) : j2_K := j2_T C jc_X9_findFault (some .int) Q
set_option maxRecDepth 100000 in
theorem b132_0 {C : j2_C} (hC : j2_up1 C) {Q : j2_P} {o0 : Nat} {x1 : Int32} {p0 : j2_W} {p1 : j2_W} {p2 : j2_W} {p3 : j2_W} {p4 : j2_W} {p5 : j2_W} {p6 : j2_W} {p7 : j2_W} {p8 : j2_W} {g9 : Nat} {I : Nat → Nat → Int32} {A : Nat → Nat → Nat → Int32}
  (h : C 64 [vO 5 (o0 + 73), vA 9000 o0, vI x1, vO 3 g9] (I, [p0, p1, p2, p3, p4, p5, p6, p7, p8, vO 3 g9], A) (fun r σ1 => T132 C Q 8 [vO 9 o0, vI x1, vM 2, vM 2, vM 2, vM 2] (r.toList ++ []) σ1)) :
  T132 C Q 0 [vO 9 o0, vI x1, vM 2, vM 2, vM 2, vM 2] [] (I, [p0, p1, p2, p3, p4, p5, p6, p7, p8, vO 3 g9], A) := j2_T.go hC [0, 8, 18, 22, 35, 38, 49, 72, 81] 400 h
set_option maxRecDepth 100000 in
theorem b132_8 {C : j2_C} (hC : j2_up1 C) {Q : j2_P} {o0 : Nat} {x1 : Int32} {xs0 : Int32} {p0 : j2_W} {p1 : j2_W} {p2 : j2_W} {p3 : j2_W} {p4 : j2_W} {p5 : j2_W} {p6 : j2_W} {p7 : j2_W} {p8 : j2_W} {g9 : Nat} {I : Nat → Nat → Int32} {A : Nat → Nat → Nat → Int32}
  (h : ((xs0 = (-1 : Int32) → C 73 [vO 5 (o0 + 73)] (I, [p0, p1, p2, p3, p4, p5, p6, p7, p8, vO 3 g9], A) (fun r σ1 => T132 C Q 22 [vO 9 o0, vI x1, vI xs0, vM 2, vM 2, vM 2] (r.toList ++ []) σ1)) ∧ (¬ (xs0 = (-1 : Int32)) → C 133 [vO 9 o0, vI (nI 1), vI xs0, vI (-1 : Int32), vI (-1 : Int32)] (I, [p0, p1, p2, p3, p4, p5, p6, p7, p8, vO 3 g9], A) (fun r σ1 => T132 C Q 18 [vO 9 o0, vI x1, vI xs0, vM 2, vM 2, vM 2] (r.toList ++ []) σ1)))) :
  T132 C Q 8 [vO 9 o0, vI x1, vM 2, vM 2, vM 2, vM 2] [vI xs0] (I, [p0, p1, p2, p3, p4, p5, p6, p7, p8, vO 3 g9], A) := j2_T.go hC [0, 8, 18, 22, 35, 38, 49, 72, 81] 400 h
set_option maxRecDepth 100000 in
theorem b132_18 {C : j2_C} (hC : j2_up1 C) {Q : j2_P} {o0 : Nat} {x1 : Int32} {x2 : Int32} {xs0 : Int32} {p0 : j2_W} {p1 : j2_W} {p2 : j2_W} {p3 : j2_W} {p4 : j2_W} {p5 : j2_W} {p6 : j2_W} {p7 : j2_W} {p8 : j2_W} {g9 : Nat} {I : Nat → Nat → Int32} {A : Nat → Nat → Nat → Int32}
  (h : (True ∧ Q (some (vI xs0)) (I, [p0, p1, p2, p3, p4, p5, p6, p7, p8, vO 3 g9], A))) :
  T132 C Q 18 [vO 9 o0, vI x1, vI x2, vM 2, vM 2, vM 2] [vI xs0] (I, [p0, p1, p2, p3, p4, p5, p6, p7, p8, vO 3 g9], A) := j2_T.go hC [0, 8, 18, 22, 35, 38, 49, 72, 81] 400 h
set_option maxRecDepth 100000 in
theorem b132_22 {C : j2_C} (hC : j2_up1 C) {Q : j2_P} {o0 : Nat} {x1 : Int32} {x2 : Int32} {xs0 : Int32} {p0 : j2_W} {p1 : j2_W} {p2 : j2_W} {p3 : j2_W} {p4 : j2_W} {p5 : j2_W} {p6 : j2_W} {p7 : j2_W} {p8 : j2_W} {g9 : Nat} {I : Nat → Nat → Int32} {A : Nat → Nat → Nat → Int32}
  (h : ((xs0 = 0 → T132 C Q 38 [vO 9 o0, vI x1, vI x2, vI (nI 0), vM 2, vM 2] [] (I, [p0, p1, p2, p3, p4, p5, p6, p7, p8, vO 3 g9], A)) ∧ (¬ (xs0 = 0) → C 133 [vO 9 o0, vI (nI 2), vI (I 5008 (o0 + 73)), vI (I 5009 (o0 + 73)), vI (I 5010 (o0 + 73))] (I, [p0, p1, p2, p3, p4, p5, p6, p7, p8, vO 3 g9], A) (fun r σ1 => T132 C Q 35 [vO 9 o0, vI x1, vI x2, vM 2, vM 2, vM 2] (r.toList ++ []) σ1)))) :
  T132 C Q 22 [vO 9 o0, vI x1, vI x2, vM 2, vM 2, vM 2] [vI xs0] (I, [p0, p1, p2, p3, p4, p5, p6, p7, p8, vO 3 g9], A) := j2_T.go hC [0, 8, 18, 22, 35, 38, 49, 72, 81] 400 h
set_option maxRecDepth 100000 in
theorem b132_35 {C : j2_C} (hC : j2_up1 C) {Q : j2_P} {o0 : Nat} {x1 : Int32} {x2 : Int32} {xs0 : Int32} {p0 : j2_W} {p1 : j2_W} {p2 : j2_W} {p3 : j2_W} {p4 : j2_W} {p5 : j2_W} {p6 : j2_W} {p7 : j2_W} {p8 : j2_W} {g9 : Nat} {I : Nat → Nat → Int32} {A : Nat → Nat → Nat → Int32}
  (h : (True ∧ Q (some (vI xs0)) (I, [p0, p1, p2, p3, p4, p5, p6, p7, p8, vO 3 g9], A))) :
  T132 C Q 35 [vO 9 o0, vI x1, vI x2, vM 2, vM 2, vM 2] [vI xs0] (I, [p0, p1, p2, p3, p4, p5, p6, p7, p8, vO 3 g9], A) := j2_T.go hC [0, 8, 18, 22, 35, 38, 49, 72, 81] 400 h
set_option maxRecDepth 100000 in
theorem b132_38 {C : j2_C} (hC : j2_up1 C) {Q : j2_P} {o0 : Nat} {x1 : Int32} {x2 : Int32} {x3 : Int32} {w4 : j2_W} {p0 : j2_W} {p1 : j2_W} {p2 : j2_W} {p3 : j2_W} {p4 : j2_W} {p5 : j2_W} {p6 : j2_W} {p7 : j2_W} {p8 : j2_W} {g9 : Nat} {I : Nat → Nat → Int32} {A : Nat → Nat → Nat → Int32}
  (h : (((I 3001 g9) ≤ x3 → C 133 [vO 9 o0, vI (nI 0), vI (-1 : Int32), vI (-1 : Int32), vI (-1 : Int32)] (I, [p0, p1, p2, p3, p4, p5, p6, p7, p8, vO 3 g9], A) (fun r σ1 => T132 C Q 81 [vO 9 o0, vI x1, vI x2, vI x3, w4, vM 2] (r.toList ++ []) σ1)) ∧ (¬ ((I 3001 g9) ≤ x3) → C 2 [vO 1 (o0 + 76), vO 3 g9, vI x3] (I, [p0, p1, p2, p3, p4, p5, p6, p7, p8, vO 3 g9], A) (fun r σ1 => T132 C Q 49 [vO 9 o0, vI x1, vI x2, vI x3, w4, vM 2] (r.toList ++ []) σ1)))) :
  T132 C Q 38 [vO 9 o0, vI x1, vI x2, vI x3, w4, vM 2] [] (I, [p0, p1, p2, p3, p4, p5, p6, p7, p8, vO 3 g9], A) := j2_T.go hC [0, 8, 18, 22, 35, 38, 49, 72, 81] 400 h
set_option maxRecDepth 100000 in
theorem b132_49 {C : j2_C} (hC : j2_up1 C) {Q : j2_P} {o0 : Nat} {x1 : Int32} {x2 : Int32} {x3 : Int32} {w4 : j2_W} {xs0 : Int32} {p0 : j2_W} {p1 : j2_W} {p2 : j2_W} {p3 : j2_W} {p4 : j2_W} {p5 : j2_W} {p6 : j2_W} {p7 : j2_W} {p8 : j2_W} {g9 : Nat} {I : Nat → Nat → Int32} {A : Nat → Nat → Nat → Int32}
  (h : ((xs0 = 0 → T132 C Q 38 [vO 9 o0, vI x1, vI x2, vI (x3 + (nI 1)), vI xs0, vM 2] [] (I, [p0, p1, p2, p3, p4, p5, p6, p7, p8, vO 3 g9], A)) ∧ (¬ (xs0 = 0) → (vp_in x3 80 ∧ (vp_in (A 3011 g9 x3.toNatClampNeg) 10 ∧ C 133 [vO 9 o0, vI xs0, vI (A 3011 g9 x3.toNatClampNeg), vI (x3 - (A 3007 g9 (A 3011 g9 x3.toNatClampNeg).toNatClampNeg)), vI (I 1000 (o0 + 76))] (I, [p0, p1, p2, p3, p4, p5, p6, p7, p8, vO 3 g9], A) (fun r σ1 => T132 C Q 72 [vO 9 o0, vI x1, vI x2, vI x3, vI xs0, vI (A 3011 g9 x3.toNatClampNeg)] (r.toList ++ []) σ1)))))) :
  T132 C Q 49 [vO 9 o0, vI x1, vI x2, vI x3, w4, vM 2] [vI xs0] (I, [p0, p1, p2, p3, p4, p5, p6, p7, p8, vO 3 g9], A) := j2_T.go hC [0, 8, 18, 22, 35, 38, 49, 72, 81] 400 h
set_option maxRecDepth 100000 in
theorem b132_72 {C : j2_C} (hC : j2_up1 C) {Q : j2_P} {o0 : Nat} {x1 : Int32} {x2 : Int32} {x3 : Int32} {x4 : Int32} {x5 : Int32} {xs0 : Int32} {p0 : j2_W} {p1 : j2_W} {p2 : j2_W} {p3 : j2_W} {p4 : j2_W} {p5 : j2_W} {p6 : j2_W} {p7 : j2_W} {p8 : j2_W} {g9 : Nat} {I : Nat → Nat → Int32} {A : Nat → Nat → Nat → Int32}
  (h : (True ∧ Q (some (vI xs0)) (I, [p0, p1, p2, p3, p4, p5, p6, p7, p8, vO 3 g9], A))) :
  T132 C Q 72 [vO 9 o0, vI x1, vI x2, vI x3, vI x4, vI x5] [vI xs0] (I, [p0, p1, p2, p3, p4, p5, p6, p7, p8, vO 3 g9], A) := j2_T.go hC [0, 8, 18, 22, 35, 38, 49, 72, 81] 400 h
set_option maxRecDepth 100000 in
theorem b132_81 {C : j2_C} (hC : j2_up1 C) {Q : j2_P} {o0 : Nat} {x1 : Int32} {x2 : Int32} {x3 : Int32} {w4 : j2_W} {xs0 : Int32} {p0 : j2_W} {p1 : j2_W} {p2 : j2_W} {p3 : j2_W} {p4 : j2_W} {p5 : j2_W} {p6 : j2_W} {p7 : j2_W} {p8 : j2_W} {g9 : Nat} {I : Nat → Nat → Int32} {A : Nat → Nat → Nat → Int32}
  (h : (True ∧ Q (some (vI xs0)) (I, [p0, p1, p2, p3, p4, p5, p6, p7, p8, vO 3 g9], A))) :
  T132 C Q 81 [vO 9 o0, vI x1, vI x2, vI x3, w4, vM 2] [vI xs0] (I, [p0, p1, p2, p3, p4, p5, p6, p7, p8, vO 3 g9], A) := j2_T.go hC [0, 8, 18, 22, 35, 38, 49, 72, 81] 400 h
abbrev T133 (C : j2_C) (Q : j2_P) : j2_K := j2_T C jc_X9_tellFault (some .int) Q
set_option maxRecDepth 100000 in
theorem b133_0 {C : j2_C} (hC : j2_up1 C) {Q : j2_P} {o0 : Nat} {x1 : Int32} {x2 : Int32} {x3 : Int32} {x4 : Int32} {σ : j2_S}
  (h : (vp_in (nI 0) 4 ∧ (vp_in (nI 1) 4 ∧ (vp_in (nI 2) 4 ∧ (vp_in (nI 3) 4 ∧ (True ∧ Q (some (vI x1)) (σ.1, σ.2.1, (j2_ast (j2_ast (j2_ast (j2_ast σ.2.2 9010 o0 (nI 0).toNatClampNeg x1) 9010 o0 (nI 1).toNatClampNeg x2) 9010 o0 (nI 2).toNatClampNeg x3) 9010 o0 (nI 3).toNatClampNeg x4)))))))) :
  T133 C Q 0 [vO 9 o0, vI x1, vI x2, vI x3, vI x4] [] σ := j2_T.go hC [0] 400 h
abbrev T134 (C : j2_C) (Q : j2_P) : j2_K := j2_T C jc_X9_fault (some .int) Q
set_option maxRecDepth 100000 in
theorem b134_0 {C : j2_C} (hC : j2_up1 C) {Q : j2_P} {o0 : Nat} {x1 : Int32} {σ : j2_S}
  (h : ((x1 < 0 → (True ∧ Q (some (vI (-1 : Int32))) σ)) ∧ (¬ (x1 < 0) → (((nI 4) ≤ x1 → (True ∧ Q (some (vI (-1 : Int32))) σ)) ∧ (¬ ((nI 4) ≤ x1) → (vp_in x1 4 ∧ (True ∧ Q (some (vI (σ.2.2 9010 o0 x1.toNatClampNeg))) σ))))))) :
  T134 C Q 0 [vO 9 o0, vI x1] [] σ := j2_T.go hC [0] 400 h
abbrev T135 (C : j2_C) (Q : j2_P) : j2_K := j2_T C jc_X9_size (some .int) Q
set_option maxRecDepth 100000 in
theorem b135_0 {C : j2_C} (hC : j2_up1 C) {Q : j2_P} {o0 : Nat} {x1 : Int32} {x2 : Int32} {p0 : j2_W} {p1 : j2_W} {p2 : j2_W} {p3 : j2_W} {p4 : j2_W} {p5 : j2_W} {p6 : j2_W} {g7 : Nat} {g8 : Nat} {p9 : j2_W} {I : Nat → Nat → Int32} {A : Nat → Nat → Nat → Int32}
  (h : ((x2 < 0 → (True ∧ Q (some (vI (-1 : Int32))) (I, [p0, p1, p2, p3, p4, p5, p6, vO 3 g7, vO 3 g8, p9], A))) ∧ (¬ (x2 < 0) → ((x2 ≤ (nI 4) → ((x1 = 0 → ((¬ (I 9005 o0) = 0 → T135 C Q 18 [vO 9 o0, vI x1, vI x2, vM 2] [] (I, [p0, p1, p2, p3, p4, p5, p6, vO 3 g7, vO 3 g8, p9], A)) ∧ (¬ (¬ (I 9005 o0) = 0) → (True ∧ Q (some (vI (nI 0))) (I, [p0, p1, p2, p3, p4, p5, p6, vO 3 g7, vO 3 g8, p9], A))))) ∧ (¬ (x1 = 0) → (((I 9006 o0) = 0 → (True ∧ Q (some (vI (nI 0))) (I, [p0, p1, p2, p3, p4, p5, p6, vO 3 g7, vO 3 g8, p9], A))) ∧ (¬ ((I 9006 o0) = 0) → T135 C Q 18 [vO 9 o0, vI x1, vI x2, vM 2] [] (I, [p0, p1, p2, p3, p4, p5, p6, vO 3 g7, vO 3 g8, p9], A)))))) ∧ (¬ (x2 ≤ (nI 4)) → (True ∧ Q (some (vI (-1 : Int32))) (I, [p0, p1, p2, p3, p4, p5, p6, vO 3 g7, vO 3 g8, p9], A))))))) :
  T135 C Q 0 [vO 9 o0, vI x1, vI x2, vM 2] [] (I, [p0, p1, p2, p3, p4, p5, p6, vO 3 g7, vO 3 g8, p9], A) := j2_T.go hC [0, 18, 25, 27, 28, 31, 33, 34, 37, 39, 40] 400 h
set_option maxRecDepth 100000 in
theorem b135_18 {C : j2_C} (hC : j2_up1 C) {Q : j2_P} {o0 : Nat} {x1 : Int32} {x2 : Int32} {p0 : j2_W} {p1 : j2_W} {p2 : j2_W} {p3 : j2_W} {p4 : j2_W} {p5 : j2_W} {p6 : j2_W} {g7 : Nat} {g8 : Nat} {p9 : j2_W} {I : Nat → Nat → Int32} {A : Nat → Nat → Nat → Int32}
  (h : ((x1 = 0 → T135 C Q 25 [vO 9 o0, vI x1, vI x2, vM 2] [vO 3 g7] (I, [p0, p1, p2, p3, p4, p5, p6, vO 3 g7, vO 3 g8, p9], A)) ∧ (¬ (x1 = 0) → T135 C Q 25 [vO 9 o0, vI x1, vI x2, vM 2] [vO 3 g8] (I, [p0, p1, p2, p3, p4, p5, p6, vO 3 g7, vO 3 g8, p9], A)))) :
  T135 C Q 18 [vO 9 o0, vI x1, vI x2, vM 2] [] (I, [p0, p1, p2, p3, p4, p5, p6, vO 3 g7, vO 3 g8, p9], A) := j2_T.go hC [0, 18, 25, 27, 28, 31, 33, 34, 37, 39, 40] 400 h
set_option maxRecDepth 100000 in
theorem b135_25 {C : j2_C} (hC : j2_up1 C) {Q : j2_P} {o0 : Nat} {x1 : Int32} {x2 : Int32} {os0 : Nat} {p0 : j2_W} {p1 : j2_W} {p2 : j2_W} {p3 : j2_W} {p4 : j2_W} {p5 : j2_W} {p6 : j2_W} {g7 : Nat} {g8 : Nat} {p9 : j2_W} {I : Nat → Nat → Int32} {A : Nat → Nat → Nat → Int32}
  (h : T135 C Q 27 [vO 9 o0, vI x1, vI x2, vO 3 os0] [vI x2] (I, [p0, p1, p2, p3, p4, p5, p6, vO 3 g7, vO 3 g8, p9], A)) :
  T135 C Q 25 [vO 9 o0, vI x1, vI x2, vM 2] [vO 3 os0] (I, [p0, p1, p2, p3, p4, p5, p6, vO 3 g7, vO 3 g8, p9], A) := j2_T.go hC [0, 18, 25, 27, 28, 31, 33, 34, 37, 39, 40] 400 h
set_option maxRecDepth 100000 in
theorem b135_27 {C : j2_C} (hC : j2_up1 C) {Q : j2_P} {o0 : Nat} {x1 : Int32} {x2 : Int32} {o3 : Nat} {xs0 : Int32} {p0 : j2_W} {p1 : j2_W} {p2 : j2_W} {p3 : j2_W} {p4 : j2_W} {p5 : j2_W} {p6 : j2_W} {g7 : Nat} {g8 : Nat} {p9 : j2_W} {I : Nat → Nat → Int32} {A : Nat → Nat → Nat → Int32} (h0 : xs0 = (nI 0) → T135 C Q 28 [vO 9 o0, vI x1, vI x2, vO 3 o3] [] (I, [p0, p1, p2, p3, p4, p5, p6, vO 3 g7, vO 3 g8, p9], A)) (h1 : xs0 = (nI 1) → T135 C Q 31 [vO 9 o0, vI x1, vI x2, vO 3 o3] [] (I, [p0, p1, p2, p3, p4, p5, p6, vO 3 g7, vO 3 g8, p9], A)) (h2 : xs0 = (nI 2) → T135 C Q 34 [vO 9 o0, vI x1, vI x2, vO 3 o3] [] (I, [p0, p1, p2, p3, p4, p5, p6, vO 3 g7, vO 3 g8, p9], A)) (h3 : xs0 = (nI 3) → T135 C Q 37 [vO 9 o0, vI x1, vI x2, vO 3 o3] [] (I, [p0, p1, p2, p3, p4, p5, p6, vO 3 g7, vO 3 g8, p9], A)) (hd : (xs0.toInt < 0 ∨ 3 < xs0.toInt) → T135 C Q 40 [vO 9 o0, vI x1, vI x2, vO 3 o3] [] (I, [p0, p1, p2, p3, p4, p5, p6, vO 3 g7, vO 3 g8, p9], A)) :
  T135 C Q 27 [vO 9 o0, vI x1, vI x2, vO 3 o3] [vI xs0] (I, [p0, p1, p2, p3, p4, p5, p6, vO 3 g7, vO 3 g8, p9], A) := j2_T.tsw hC (d := 40) (lo := 0) (hi := 3) (ts := #[28, 31, 34, 37]) rfl hd (fun g1 g2 => by
  have g : xs0.toInt = 0 ∨ xs0.toInt = 1 ∨ xs0.toInt = 2 ∨ xs0.toInt = 3 := by omega
  rcases g with g | g | g | g
  · rw [g]; exact h0 (Int32.toInt_inj.mp (g.trans (by decide)))
  · rw [g]; exact h1 (Int32.toInt_inj.mp (g.trans (by decide)))
  · rw [g]; exact h2 (Int32.toInt_inj.mp (g.trans (by decide)))
  · rw [g]; exact h3 (Int32.toInt_inj.mp (g.trans (by decide)))
  )
set_option maxRecDepth 100000 in
theorem b135_28 {C : j2_C} (hC : j2_up1 C) {Q : j2_P} {o0 : Nat} {x1 : Int32} {x2 : Int32} {o3 : Nat} {p0 : j2_W} {p1 : j2_W} {p2 : j2_W} {p3 : j2_W} {p4 : j2_W} {p5 : j2_W} {p6 : j2_W} {g7 : Nat} {g8 : Nat} {p9 : j2_W} {I : Nat → Nat → Int32} {A : Nat → Nat → Nat → Int32}
  (h : (True ∧ Q (some (vI (I 3000 o3))) (I, [p0, p1, p2, p3, p4, p5, p6, vO 3 g7, vO 3 g8, p9], A))) :
  T135 C Q 28 [vO 9 o0, vI x1, vI x2, vO 3 o3] [] (I, [p0, p1, p2, p3, p4, p5, p6, vO 3 g7, vO 3 g8, p9], A) := j2_T.go hC [0, 18, 25, 27, 28, 31, 33, 34, 37, 39, 40] 400 h
set_option maxRecDepth 100000 in
theorem b135_31 {C : j2_C} (hC : j2_up1 C) {Q : j2_P} {o0 : Nat} {x1 : Int32} {x2 : Int32} {o3 : Nat} {p0 : j2_W} {p1 : j2_W} {p2 : j2_W} {p3 : j2_W} {p4 : j2_W} {p5 : j2_W} {p6 : j2_W} {g7 : Nat} {g8 : Nat} {p9 : j2_W} {I : Nat → Nat → Int32} {A : Nat → Nat → Nat → Int32}
  (h : C 46 [vO 3 o3] (I, [p0, p1, p2, p3, p4, p5, p6, vO 3 g7, vO 3 g8, p9], A) (fun r σ1 => T135 C Q 33 [vO 9 o0, vI x1, vI x2, vO 3 o3] (r.toList ++ []) σ1)) :
  T135 C Q 31 [vO 9 o0, vI x1, vI x2, vO 3 o3] [] (I, [p0, p1, p2, p3, p4, p5, p6, vO 3 g7, vO 3 g8, p9], A) := j2_T.go hC [0, 18, 25, 27, 28, 31, 33, 34, 37, 39, 40] 400 h
set_option maxRecDepth 100000 in
theorem b135_33 {C : j2_C} (hC : j2_up1 C) {Q : j2_P} {o0 : Nat} {x1 : Int32} {x2 : Int32} {o3 : Nat} {xs0 : Int32} {p0 : j2_W} {p1 : j2_W} {p2 : j2_W} {p3 : j2_W} {p4 : j2_W} {p5 : j2_W} {p6 : j2_W} {g7 : Nat} {g8 : Nat} {p9 : j2_W} {I : Nat → Nat → Int32} {A : Nat → Nat → Nat → Int32}
  (h : (True ∧ Q (some (vI xs0)) (I, [p0, p1, p2, p3, p4, p5, p6, vO 3 g7, vO 3 g8, p9], A))) :
  T135 C Q 33 [vO 9 o0, vI x1, vI x2, vO 3 o3] [vI xs0] (I, [p0, p1, p2, p3, p4, p5, p6, vO 3 g7, vO 3 g8, p9], A) := j2_T.go hC [0, 18, 25, 27, 28, 31, 33, 34, 37, 39, 40] 400 h
set_option maxRecDepth 100000 in
theorem b135_34 {C : j2_C} (hC : j2_up1 C) {Q : j2_P} {o0 : Nat} {x1 : Int32} {x2 : Int32} {o3 : Nat} {p0 : j2_W} {p1 : j2_W} {p2 : j2_W} {p3 : j2_W} {p4 : j2_W} {p5 : j2_W} {p6 : j2_W} {g7 : Nat} {g8 : Nat} {p9 : j2_W} {I : Nat → Nat → Int32} {A : Nat → Nat → Nat → Int32}
  (h : (True ∧ Q (some (vI (I 3001 o3))) (I, [p0, p1, p2, p3, p4, p5, p6, vO 3 g7, vO 3 g8, p9], A))) :
  T135 C Q 34 [vO 9 o0, vI x1, vI x2, vO 3 o3] [] (I, [p0, p1, p2, p3, p4, p5, p6, vO 3 g7, vO 3 g8, p9], A) := j2_T.go hC [0, 18, 25, 27, 28, 31, 33, 34, 37, 39, 40] 400 h
set_option maxRecDepth 100000 in
theorem b135_37 {C : j2_C} (hC : j2_up1 C) {Q : j2_P} {o0 : Nat} {x1 : Int32} {x2 : Int32} {o3 : Nat} {p0 : j2_W} {p1 : j2_W} {p2 : j2_W} {p3 : j2_W} {p4 : j2_W} {p5 : j2_W} {p6 : j2_W} {g7 : Nat} {g8 : Nat} {p9 : j2_W} {I : Nat → Nat → Int32} {A : Nat → Nat → Nat → Int32}
  (h : C 47 [vO 3 o3] (I, [p0, p1, p2, p3, p4, p5, p6, vO 3 g7, vO 3 g8, p9], A) (fun r σ1 => T135 C Q 39 [vO 9 o0, vI x1, vI x2, vO 3 o3] (r.toList ++ []) σ1)) :
  T135 C Q 37 [vO 9 o0, vI x1, vI x2, vO 3 o3] [] (I, [p0, p1, p2, p3, p4, p5, p6, vO 3 g7, vO 3 g8, p9], A) := j2_T.go hC [0, 18, 25, 27, 28, 31, 33, 34, 37, 39, 40] 400 h
set_option maxRecDepth 100000 in
theorem b135_39 {C : j2_C} (hC : j2_up1 C) {Q : j2_P} {o0 : Nat} {x1 : Int32} {x2 : Int32} {o3 : Nat} {xs0 : Int32} {p0 : j2_W} {p1 : j2_W} {p2 : j2_W} {p3 : j2_W} {p4 : j2_W} {p5 : j2_W} {p6 : j2_W} {g7 : Nat} {g8 : Nat} {p9 : j2_W} {I : Nat → Nat → Int32} {A : Nat → Nat → Nat → Int32}
  (h : (True ∧ Q (some (vI xs0)) (I, [p0, p1, p2, p3, p4, p5, p6, vO 3 g7, vO 3 g8, p9], A))) :
  T135 C Q 39 [vO 9 o0, vI x1, vI x2, vO 3 o3] [vI xs0] (I, [p0, p1, p2, p3, p4, p5, p6, vO 3 g7, vO 3 g8, p9], A) := j2_T.go hC [0, 18, 25, 27, 28, 31, 33, 34, 37, 39, 40] 400 h
set_option maxRecDepth 100000 in
theorem b135_40 {C : j2_C} (hC : j2_up1 C) {Q : j2_P} {o0 : Nat} {x1 : Int32} {x2 : Int32} {o3 : Nat} {p0 : j2_W} {p1 : j2_W} {p2 : j2_W} {p3 : j2_W} {p4 : j2_W} {p5 : j2_W} {p6 : j2_W} {g7 : Nat} {g8 : Nat} {p9 : j2_W} {I : Nat → Nat → Int32} {A : Nat → Nat → Nat → Int32}
  (h : ((x1 = 0 → (True ∧ Q (some (vI (I 9007 o0))) (I, [p0, p1, p2, p3, p4, p5, p6, vO 3 g7, vO 3 g8, p9], A))) ∧ (¬ (x1 = 0) → (True ∧ Q (some (vI (I 8001 ((o0 + 83) + 7)))) (I, [p0, p1, p2, p3, p4, p5, p6, vO 3 g7, vO 3 g8, p9], A))))) :
  T135 C Q 40 [vO 9 o0, vI x1, vI x2, vO 3 o3] [] (I, [p0, p1, p2, p3, p4, p5, p6, vO 3 g7, vO 3 g8, p9], A) := j2_T.go hC [0, 18, 25, 27, 28, 31, 33, 34, 37, 39, 40] 400 h
abbrev T136 (C : j2_C) (Q : j2_P) : j2_K := j2_T C jc_X9_method (some .int) Q
set_option maxRecDepth 100000 in
theorem b136_0 {C : j2_C} (hC : j2_up1 C) {Q : j2_P} {o0 : Nat} {x1 : Int32} {x2 : Int32} {x3 : Int32} {x4 : Int32} {p0 : j2_W} {p1 : j2_W} {p2 : j2_W} {p3 : j2_W} {p4 : j2_W} {p5 : j2_W} {p6 : j2_W} {g7 : Nat} {g8 : Nat} {p9 : j2_W} {I : Nat → Nat → Int32} {A : Nat → Nat → Nat → Int32}
  (h : ((x1 = 0 → T136 C Q 7 [vO 9 o0, vI x1, vI x2, vI x3, vI x4, vM 2, vM 2] [vO 3 g7] (I, [p0, p1, p2, p3, p4, p5, p6, vO 3 g7, vO 3 g8, p9], A)) ∧ (¬ (x1 = 0) → T136 C Q 7 [vO 9 o0, vI x1, vI x2, vI x3, vI x4, vM 2, vM 2] [vO 3 g8] (I, [p0, p1, p2, p3, p4, p5, p6, vO 3 g7, vO 3 g8, p9], A)))) :
  T136 C Q 0 [vO 9 o0, vI x1, vI x2, vI x3, vI x4, vM 2, vM 2] [] (I, [p0, p1, p2, p3, p4, p5, p6, vO 3 g7, vO 3 g8, p9], A) := j2_T.go hC [0, 7, 17, 21, 32, 33, 38, 43, 48, 53, 58, 64, 66] 400 h
set_option maxRecDepth 100000 in
theorem b136_7 {C : j2_C} (hC : j2_up1 C) {Q : j2_P} {o0 : Nat} {x1 : Int32} {x2 : Int32} {x3 : Int32} {x4 : Int32} {os0 : Nat} {p0 : j2_W} {p1 : j2_W} {p2 : j2_W} {p3 : j2_W} {p4 : j2_W} {p5 : j2_W} {p6 : j2_W} {g7 : Nat} {g8 : Nat} {p9 : j2_W} {I : Nat → Nat → Int32} {A : Nat → Nat → Nat → Int32}
  (h : ((x1 = 0 → (((I 9005 o0) = 0 → (True ∧ Q (some (vI (-1 : Int32))) (I, [p0, p1, p2, p3, p4, p5, p6, vO 3 g7, vO 3 g8, p9], A))) ∧ (¬ ((I 9005 o0) = 0) → T136 C Q 17 [vO 9 o0, vI x1, vI x2, vI x3, vI x4, vO 3 os0, vM 2] [] (I, [p0, p1, p2, p3, p4, p5, p6, vO 3 g7, vO 3 g8, p9], A)))) ∧ (¬ (x1 = 0) → (((I 9006 o0) = 0 → (True ∧ Q (some (vI (-1 : Int32))) (I, [p0, p1, p2, p3, p4, p5, p6, vO 3 g7, vO 3 g8, p9], A))) ∧ (¬ ((I 9006 o0) = 0) → T136 C Q 17 [vO 9 o0, vI x1, vI x2, vI x3, vI x4, vO 3 os0, vM 2] [] (I, [p0, p1, p2, p3, p4, p5, p6, vO 3 g7, vO 3 g8, p9], A)))))) :
  T136 C Q 7 [vO 9 o0, vI x1, vI x2, vI x3, vI x4, vM 2, vM 2] [vO 3 os0] (I, [p0, p1, p2, p3, p4, p5, p6, vO 3 g7, vO 3 g8, p9], A) := j2_T.go hC [0, 7, 17, 21, 32, 33, 38, 43, 48, 53, 58, 64, 66] 400 h
set_option maxRecDepth 100000 in
theorem b136_17 {C : j2_C} (hC : j2_up1 C) {Q : j2_P} {o0 : Nat} {x1 : Int32} {x2 : Int32} {x3 : Int32} {x4 : Int32} {o5 : Nat} {p0 : j2_W} {p1 : j2_W} {p2 : j2_W} {p3 : j2_W} {p4 : j2_W} {p5 : j2_W} {p6 : j2_W} {g7 : Nat} {g8 : Nat} {p9 : j2_W} {I : Nat → Nat → Int32} {A : Nat → Nat → Nat → Int32}
  (h : C 43 [vO 3 o5, vI x2, vI x3] (I, [p0, p1, p2, p3, p4, p5, p6, vO 3 g7, vO 3 g8, p9], A) (fun r σ1 => T136 C Q 21 [vO 9 o0, vI x1, vI x2, vI x3, vI x4, vO 3 o5, vM 2] (r.toList ++ []) σ1)) :
  T136 C Q 17 [vO 9 o0, vI x1, vI x2, vI x3, vI x4, vO 3 o5, vM 2] [] (I, [p0, p1, p2, p3, p4, p5, p6, vO 3 g7, vO 3 g8, p9], A) := j2_T.go hC [0, 7, 17, 21, 32, 33, 38, 43, 48, 53, 58, 64, 66] 400 h
set_option maxRecDepth 100000 in
theorem b136_21 {C : j2_C} (hC : j2_up1 C) {Q : j2_P} {o0 : Nat} {x1 : Int32} {x2 : Int32} {x3 : Int32} {x4 : Int32} {o5 : Nat} {xs0 : Int32} {p0 : j2_W} {p1 : j2_W} {p2 : j2_W} {p3 : j2_W} {p4 : j2_W} {p5 : j2_W} {p6 : j2_W} {g7 : Nat} {g8 : Nat} {p9 : j2_W} {I : Nat → Nat → Int32} {A : Nat → Nat → Nat → Int32}
  (h : ((¬ xs0 = 0 → (vp_in x2 10 ∧ T136 C Q 32 [vO 9 o0, vI x1, vI x2, vI x3, vI x4, vO 3 o5, vI ((A 3007 o5 x2.toNatClampNeg) + x3)] [vI x4] (I, [p0, p1, p2, p3, p4, p5, p6, vO 3 g7, vO 3 g8, p9], A))) ∧ (¬ (¬ xs0 = 0) → (True ∧ Q (some (vI (-1 : Int32))) (I, [p0, p1, p2, p3, p4, p5, p6, vO 3 g7, vO 3 g8, p9], A))))) :
  T136 C Q 21 [vO 9 o0, vI x1, vI x2, vI x3, vI x4, vO 3 o5, vM 2] [vI xs0] (I, [p0, p1, p2, p3, p4, p5, p6, vO 3 g7, vO 3 g8, p9], A) := j2_T.go hC [0, 7, 17, 21, 32, 33, 38, 43, 48, 53, 58, 64, 66] 400 h
set_option maxRecDepth 100000 in
theorem b136_32 {C : j2_C} (hC : j2_up1 C) {Q : j2_P} {o0 : Nat} {x1 : Int32} {x2 : Int32} {x3 : Int32} {x4 : Int32} {o5 : Nat} {x6 : Int32} {xs0 : Int32} {p0 : j2_W} {p1 : j2_W} {p2 : j2_W} {p3 : j2_W} {p4 : j2_W} {p5 : j2_W} {p6 : j2_W} {g7 : Nat} {g8 : Nat} {p9 : j2_W} {I : Nat → Nat → Int32} {A : Nat → Nat → Nat → Int32} (h0 : xs0 = (nI 0) → T136 C Q 33 [vO 9 o0, vI x1, vI x2, vI x3, vI x4, vO 3 o5, vI x6] [] (I, [p0, p1, p2, p3, p4, p5, p6, vO 3 g7, vO 3 g8, p9], A)) (h1 : xs0 = (nI 1) → T136 C Q 38 [vO 9 o0, vI x1, vI x2, vI x3, vI x4, vO 3 o5, vI x6] [] (I, [p0, p1, p2, p3, p4, p5, p6, vO 3 g7, vO 3 g8, p9], A)) (h2 : xs0 = (nI 2) → T136 C Q 43 [vO 9 o0, vI x1, vI x2, vI x3, vI x4, vO 3 o5, vI x6] [] (I, [p0, p1, p2, p3, p4, p5, p6, vO 3 g7, vO 3 g8, p9], A)) (h3 : xs0 = (nI 3) → T136 C Q 48 [vO 9 o0, vI x1, vI x2, vI x3, vI x4, vO 3 o5, vI x6] [] (I, [p0, p1, p2, p3, p4, p5, p6, vO 3 g7, vO 3 g8, p9], A)) (h4 : xs0 = (nI 4) → T136 C Q 53 [vO 9 o0, vI x1, vI x2, vI x3, vI x4, vO 3 o5, vI x6] [] (I, [p0, p1, p2, p3, p4, p5, p6, vO 3 g7, vO 3 g8, p9], A)) (h5 : xs0 = (nI 5) → T136 C Q 58 [vO 9 o0, vI x1, vI x2, vI x3, vI x4, vO 3 o5, vI x6] [] (I, [p0, p1, p2, p3, p4, p5, p6, vO 3 g7, vO 3 g8, p9], A)) (h6 : xs0 = (nI 6) → T136 C Q 64 [vO 9 o0, vI x1, vI x2, vI x3, vI x4, vO 3 o5, vI x6] [] (I, [p0, p1, p2, p3, p4, p5, p6, vO 3 g7, vO 3 g8, p9], A)) (hd : (xs0.toInt < 0 ∨ 6 < xs0.toInt) → T136 C Q 66 [vO 9 o0, vI x1, vI x2, vI x3, vI x4, vO 3 o5, vI x6] [] (I, [p0, p1, p2, p3, p4, p5, p6, vO 3 g7, vO 3 g8, p9], A)) :
  T136 C Q 32 [vO 9 o0, vI x1, vI x2, vI x3, vI x4, vO 3 o5, vI x6] [vI xs0] (I, [p0, p1, p2, p3, p4, p5, p6, vO 3 g7, vO 3 g8, p9], A) := j2_T.tsw hC (d := 66) (lo := 0) (hi := 6) (ts := #[33, 38, 43, 48, 53, 58, 64]) rfl hd (fun g1 g2 => by
  have g : xs0.toInt = 0 ∨ xs0.toInt = 1 ∨ xs0.toInt = 2 ∨ xs0.toInt = 3 ∨ xs0.toInt = 4 ∨ xs0.toInt = 5 ∨ xs0.toInt = 6 := by omega
  rcases g with g | g | g | g | g | g | g
  · rw [g]; exact h0 (Int32.toInt_inj.mp (g.trans (by decide)))
  · rw [g]; exact h1 (Int32.toInt_inj.mp (g.trans (by decide)))
  · rw [g]; exact h2 (Int32.toInt_inj.mp (g.trans (by decide)))
  · rw [g]; exact h3 (Int32.toInt_inj.mp (g.trans (by decide)))
  · rw [g]; exact h4 (Int32.toInt_inj.mp (g.trans (by decide)))
  · rw [g]; exact h5 (Int32.toInt_inj.mp (g.trans (by decide)))
  · rw [g]; exact h6 (Int32.toInt_inj.mp (g.trans (by decide)))
  )
set_option maxRecDepth 100000 in
theorem b136_33 {C : j2_C} (hC : j2_up1 C) {Q : j2_P} {o0 : Nat} {x1 : Int32} {x2 : Int32} {x3 : Int32} {x4 : Int32} {o5 : Nat} {x6 : Int32} {p0 : j2_W} {p1 : j2_W} {p2 : j2_W} {p3 : j2_W} {p4 : j2_W} {p5 : j2_W} {p6 : j2_W} {g7 : Nat} {g8 : Nat} {p9 : j2_W} {I : Nat → Nat → Int32} {A : Nat → Nat → Nat → Int32}
  (h : (vp_in x6 80 ∧ (True ∧ Q (some (vI (A 3012 o5 x6.toNatClampNeg))) (I, [p0, p1, p2, p3, p4, p5, p6, vO 3 g7, vO 3 g8, p9], A)))) :
  T136 C Q 33 [vO 9 o0, vI x1, vI x2, vI x3, vI x4, vO 3 o5, vI x6] [] (I, [p0, p1, p2, p3, p4, p5, p6, vO 3 g7, vO 3 g8, p9], A) := j2_T.go hC [0, 7, 17, 21, 32, 33, 38, 43, 48, 53, 58, 64, 66] 400 h
set_option maxRecDepth 100000 in
theorem b136_38 {C : j2_C} (hC : j2_up1 C) {Q : j2_P} {o0 : Nat} {x1 : Int32} {x2 : Int32} {x3 : Int32} {x4 : Int32} {o5 : Nat} {x6 : Int32} {p0 : j2_W} {p1 : j2_W} {p2 : j2_W} {p3 : j2_W} {p4 : j2_W} {p5 : j2_W} {p6 : j2_W} {g7 : Nat} {g8 : Nat} {p9 : j2_W} {I : Nat → Nat → Int32} {A : Nat → Nat → Nat → Int32}
  (h : (vp_in x6 80 ∧ (True ∧ Q (some (vI (A 3013 o5 x6.toNatClampNeg))) (I, [p0, p1, p2, p3, p4, p5, p6, vO 3 g7, vO 3 g8, p9], A)))) :
  T136 C Q 38 [vO 9 o0, vI x1, vI x2, vI x3, vI x4, vO 3 o5, vI x6] [] (I, [p0, p1, p2, p3, p4, p5, p6, vO 3 g7, vO 3 g8, p9], A) := j2_T.go hC [0, 7, 17, 21, 32, 33, 38, 43, 48, 53, 58, 64, 66] 400 h
set_option maxRecDepth 100000 in
theorem b136_43 {C : j2_C} (hC : j2_up1 C) {Q : j2_P} {o0 : Nat} {x1 : Int32} {x2 : Int32} {x3 : Int32} {x4 : Int32} {o5 : Nat} {x6 : Int32} {p0 : j2_W} {p1 : j2_W} {p2 : j2_W} {p3 : j2_W} {p4 : j2_W} {p5 : j2_W} {p6 : j2_W} {g7 : Nat} {g8 : Nat} {p9 : j2_W} {I : Nat → Nat → Int32} {A : Nat → Nat → Nat → Int32}
  (h : (vp_in x6 80 ∧ (True ∧ Q (some (vI (A 3014 o5 x6.toNatClampNeg))) (I, [p0, p1, p2, p3, p4, p5, p6, vO 3 g7, vO 3 g8, p9], A)))) :
  T136 C Q 43 [vO 9 o0, vI x1, vI x2, vI x3, vI x4, vO 3 o5, vI x6] [] (I, [p0, p1, p2, p3, p4, p5, p6, vO 3 g7, vO 3 g8, p9], A) := j2_T.go hC [0, 7, 17, 21, 32, 33, 38, 43, 48, 53, 58, 64, 66] 400 h
set_option maxRecDepth 100000 in
theorem b136_48 {C : j2_C} (hC : j2_up1 C) {Q : j2_P} {o0 : Nat} {x1 : Int32} {x2 : Int32} {x3 : Int32} {x4 : Int32} {o5 : Nat} {x6 : Int32} {p0 : j2_W} {p1 : j2_W} {p2 : j2_W} {p3 : j2_W} {p4 : j2_W} {p5 : j2_W} {p6 : j2_W} {g7 : Nat} {g8 : Nat} {p9 : j2_W} {I : Nat → Nat → Int32} {A : Nat → Nat → Nat → Int32}
  (h : (vp_in x6 80 ∧ (True ∧ Q (some (vI (A 3015 o5 x6.toNatClampNeg))) (I, [p0, p1, p2, p3, p4, p5, p6, vO 3 g7, vO 3 g8, p9], A)))) :
  T136 C Q 48 [vO 9 o0, vI x1, vI x2, vI x3, vI x4, vO 3 o5, vI x6] [] (I, [p0, p1, p2, p3, p4, p5, p6, vO 3 g7, vO 3 g8, p9], A) := j2_T.go hC [0, 7, 17, 21, 32, 33, 38, 43, 48, 53, 58, 64, 66] 400 h
set_option maxRecDepth 100000 in
theorem b136_53 {C : j2_C} (hC : j2_up1 C) {Q : j2_P} {o0 : Nat} {x1 : Int32} {x2 : Int32} {x3 : Int32} {x4 : Int32} {o5 : Nat} {x6 : Int32} {p0 : j2_W} {p1 : j2_W} {p2 : j2_W} {p3 : j2_W} {p4 : j2_W} {p5 : j2_W} {p6 : j2_W} {g7 : Nat} {g8 : Nat} {p9 : j2_W} {I : Nat → Nat → Int32} {A : Nat → Nat → Nat → Int32}
  (h : (vp_in x6 80 ∧ (True ∧ Q (some (vI (A 3017 o5 x6.toNatClampNeg))) (I, [p0, p1, p2, p3, p4, p5, p6, vO 3 g7, vO 3 g8, p9], A)))) :
  T136 C Q 53 [vO 9 o0, vI x1, vI x2, vI x3, vI x4, vO 3 o5, vI x6] [] (I, [p0, p1, p2, p3, p4, p5, p6, vO 3 g7, vO 3 g8, p9], A) := j2_T.go hC [0, 7, 17, 21, 32, 33, 38, 43, 48, 53, 58, 64, 66] 400 h
set_option maxRecDepth 100000 in
theorem b136_58 {C : j2_C} (hC : j2_up1 C) {Q : j2_P} {o0 : Nat} {x1 : Int32} {x2 : Int32} {x3 : Int32} {x4 : Int32} {o5 : Nat} {x6 : Int32} {p0 : j2_W} {p1 : j2_W} {p2 : j2_W} {p3 : j2_W} {p4 : j2_W} {p5 : j2_W} {p6 : j2_W} {g7 : Nat} {g8 : Nat} {p9 : j2_W} {I : Nat → Nat → Int32} {A : Nat → Nat → Nat → Int32}
  (h : (vp_in x6 80 ∧ (True ∧ Q (some (vI (A 0 (o5 + 17) x6.toNatClampNeg))) (I, [p0, p1, p2, p3, p4, p5, p6, vO 3 g7, vO 3 g8, p9], A)))) :
  T136 C Q 58 [vO 9 o0, vI x1, vI x2, vI x3, vI x4, vO 3 o5, vI x6] [] (I, [p0, p1, p2, p3, p4, p5, p6, vO 3 g7, vO 3 g8, p9], A) := j2_T.go hC [0, 7, 17, 21, 32, 33, 38, 43, 48, 53, 58, 64, 66] 400 h
set_option maxRecDepth 100000 in
theorem b136_64 {C : j2_C} (hC : j2_up1 C) {Q : j2_P} {o0 : Nat} {x1 : Int32} {x2 : Int32} {x3 : Int32} {x4 : Int32} {o5 : Nat} {x6 : Int32} {p0 : j2_W} {p1 : j2_W} {p2 : j2_W} {p3 : j2_W} {p4 : j2_W} {p5 : j2_W} {p6 : j2_W} {g7 : Nat} {g8 : Nat} {p9 : j2_W} {I : Nat → Nat → Int32} {A : Nat → Nat → Nat → Int32}
  (h : (True ∧ Q (some (vI x6)) (I, [p0, p1, p2, p3, p4, p5, p6, vO 3 g7, vO 3 g8, p9], A))) :
  T136 C Q 64 [vO 9 o0, vI x1, vI x2, vI x3, vI x4, vO 3 o5, vI x6] [] (I, [p0, p1, p2, p3, p4, p5, p6, vO 3 g7, vO 3 g8, p9], A) := j2_T.go hC [0, 7, 17, 21, 32, 33, 38, 43, 48, 53, 58, 64, 66] 400 h
set_option maxRecDepth 100000 in
theorem b136_66 {C : j2_C} (hC : j2_up1 C) {Q : j2_P} {o0 : Nat} {x1 : Int32} {x2 : Int32} {x3 : Int32} {x4 : Int32} {o5 : Nat} {x6 : Int32} {p0 : j2_W} {p1 : j2_W} {p2 : j2_W} {p3 : j2_W} {p4 : j2_W} {p5 : j2_W} {p6 : j2_W} {g7 : Nat} {g8 : Nat} {p9 : j2_W} {I : Nat → Nat → Int32} {A : Nat → Nat → Nat → Int32}
  (h : (True ∧ Q (some (vI (-1 : Int32))) (I, [p0, p1, p2, p3, p4, p5, p6, vO 3 g7, vO 3 g8, p9], A))) :
  T136 C Q 66 [vO 9 o0, vI x1, vI x2, vI x3, vI x4, vO 3 o5, vI x6] [] (I, [p0, p1, p2, p3, p4, p5, p6, vO 3 g7, vO 3 g8, p9], A) := j2_T.go hC [0, 7, 17, 21, 32, 33, 38, 43, 48, 53, 58, 64, 66] 400 h
abbrev T137 (C : j2_C) (Q : j2_P) : j2_K := j2_T C jc_X9_type (some .int) Q
set_option maxRecDepth 100000 in
theorem b137_0 {C : j2_C} (hC : j2_up1 C) {Q : j2_P} {o0 : Nat} {x1 : Int32} {x2 : Int32} {x3 : Int32} {p0 : j2_W} {p1 : j2_W} {p2 : j2_W} {p3 : j2_W} {p4 : j2_W} {p5 : j2_W} {p6 : j2_W} {g7 : Nat} {p8 : j2_W} {p9 : j2_W} {I : Nat → Nat → Int32} {A : Nat → Nat → Nat → Int32}
  (h : (((I 9005 o0) = 0 → (True ∧ Q (some (vI (-1 : Int32))) (I, [p0, p1, p2, p3, p4, p5, p6, vO 3 g7, p8, p9], A))) ∧ (¬ ((I 9005 o0) = 0) → C 45 [vO 3 g7, vI x1, vI x2] (I, [p0, p1, p2, p3, p4, p5, p6, vO 3 g7, p8, p9], A) (fun r σ1 => T137 C Q 8 [vO 9 o0, vI x1, vI x2, vI x3, vM 2] (r.toList ++ []) σ1)))) :
  T137 C Q 0 [vO 9 o0, vI x1, vI x2, vI x3, vM 2] [] (I, [p0, p1, p2, p3, p4, p5, p6, vO 3 g7, p8, p9], A) := j2_T.go hC [0, 8, 54, 61, 62, 73, 80] 400 h
set_option maxRecDepth 100000 in
theorem b137_8 {C : j2_C} (hC : j2_up1 C) {Q : j2_P} {o0 : Nat} {x1 : Int32} {x2 : Int32} {x3 : Int32} {xs0 : Int32} {p0 : j2_W} {p1 : j2_W} {p2 : j2_W} {p3 : j2_W} {p4 : j2_W} {p5 : j2_W} {p6 : j2_W} {g7 : Nat} {p8 : j2_W} {p9 : j2_W} {I : Nat → Nat → Int32} {A : Nat → Nat → Nat → Int32}
  (h : ((¬ xs0 = 0 → (vp_in ((x1 * (nI 120)) + x2) 9600 ∧ ((¬ x3 = 0 → ((0 ≤ (A 4 (g7 + 17) ((x1 * (nI 120)) + x2).toNatClampNeg) → ((¬ x3 = (nI 1) → ((x3 < (nI 10) → T137 C Q 62 [vO 9 o0, vI x1, vI x2, vI x3, vI (A 4 (g7 + 17) ((x1 * (nI 120)) + x2).toNatClampNeg)] [] (I, [p0, p1, p2, p3, p4, p5, p6, vO 3 g7, p8, p9], A)) ∧ (¬ (x3 < (nI 10)) → (vp_in x1 80 ∧ (((A 3017 g7 x1.toNatClampNeg) ≤ (x3 - (nI 10)) → T137 C Q 62 [vO 9 o0, vI x1, vI x2, vI x3, vI (A 4 (g7 + 17) ((x1 * (nI 120)) + x2).toNatClampNeg)] [] (I, [p0, p1, p2, p3, p4, p5, p6, vO 3 g7, p8, p9], A)) ∧ (¬ ((A 3017 g7 x1.toNatClampNeg) ≤ (x3 - (nI 10))) → C 138 [vO 9 o0, vI x1] (I, [p0, p1, p2, p3, p4, p5, p6, vO 3 g7, p8, p9], A) (fun r σ1 => T137 C Q 54 [vO 9 o0, vI x1, vI x2, vI x3, vI (A 4 (g7 + 17) ((x1 * (nI 120)) + x2).toNatClampNeg)] (r.toList ++ []) σ1))))))) ∧ (¬ (¬ x3 = (nI 1)) → (True ∧ Q (some (vI (A 4 (g7 + 17) ((x1 * (nI 120)) + x2).toNatClampNeg))) (I, [p0, p1, p2, p3, p4, p5, p6, vO 3 g7, p8, p9], A))))) ∧ (¬ (0 ≤ (A 4 (g7 + 17) ((x1 * (nI 120)) + x2).toNatClampNeg)) → (True ∧ Q (some (vI (-1 : Int32))) (I, [p0, p1, p2, p3, p4, p5, p6, vO 3 g7, p8, p9], A))))) ∧ (¬ (¬ x3 = 0) → (((A 4 (g7 + 17) ((x1 * (nI 120)) + x2).toNatClampNeg) < 0 → (True ∧ Q (some (vI (nI 0))) (I, [p0, p1, p2, p3, p4, p5, p6, vO 3 g7, p8, p9], A))) ∧ (¬ ((A 4 (g7 + 17) ((x1 * (nI 120)) + x2).toNatClampNeg) < 0) → (True ∧ Q (some (vI (nI 1))) (I, [p0, p1, p2, p3, p4, p5, p6, vO 3 g7, p8, p9], A)))))))) ∧ (¬ (¬ xs0 = 0) → (True ∧ Q (some (vI (-1 : Int32))) (I, [p0, p1, p2, p3, p4, p5, p6, vO 3 g7, p8, p9], A))))) :
  T137 C Q 8 [vO 9 o0, vI x1, vI x2, vI x3, vM 2] [vI xs0] (I, [p0, p1, p2, p3, p4, p5, p6, vO 3 g7, p8, p9], A) := j2_T.go hC [0, 8, 54, 61, 62, 73, 80] 400 h
set_option maxRecDepth 100000 in
theorem b137_54 {C : j2_C} (hC : j2_up1 C) {Q : j2_P} {o0 : Nat} {x1 : Int32} {x2 : Int32} {x3 : Int32} {x4 : Int32} {p0 : j2_W} {p1 : j2_W} {p2 : j2_W} {p3 : j2_W} {p4 : j2_W} {p5 : j2_W} {p6 : j2_W} {g7 : Nat} {p8 : j2_W} {p9 : j2_W} {I : Nat → Nat → Int32} {A : Nat → Nat → Nat → Int32}
  (h : C 3 [vO 1 (o0 + 76), vI x2, vI (x3 - (nI 10))] (I, [p0, p1, p2, p3, p4, p5, p6, vO 3 g7, p8, p9], A) (fun r σ1 => T137 C Q 61 [vO 9 o0, vI x1, vI x2, vI x3, vI x4] (r.toList ++ []) σ1)) :
  T137 C Q 54 [vO 9 o0, vI x1, vI x2, vI x3, vI x4] [] (I, [p0, p1, p2, p3, p4, p5, p6, vO 3 g7, p8, p9], A) := j2_T.go hC [0, 8, 54, 61, 62, 73, 80] 400 h
set_option maxRecDepth 100000 in
theorem b137_61 {C : j2_C} (hC : j2_up1 C) {Q : j2_P} {o0 : Nat} {x1 : Int32} {x2 : Int32} {x3 : Int32} {x4 : Int32} {xs0 : Int32} {p0 : j2_W} {p1 : j2_W} {p2 : j2_W} {p3 : j2_W} {p4 : j2_W} {p5 : j2_W} {p6 : j2_W} {g7 : Nat} {p8 : j2_W} {p9 : j2_W} {I : Nat → Nat → Int32} {A : Nat → Nat → Nat → Int32}
  (h : (True ∧ Q (some (vI xs0)) (I, [p0, p1, p2, p3, p4, p5, p6, vO 3 g7, p8, p9], A))) :
  T137 C Q 61 [vO 9 o0, vI x1, vI x2, vI x3, vI x4] [vI xs0] (I, [p0, p1, p2, p3, p4, p5, p6, vO 3 g7, p8, p9], A) := j2_T.go hC [0, 8, 54, 61, 62, 73, 80] 400 h
set_option maxRecDepth 100000 in
theorem b137_62 {C : j2_C} (hC : j2_up1 C) {Q : j2_P} {o0 : Nat} {x1 : Int32} {x2 : Int32} {x3 : Int32} {x4 : Int32} {p0 : j2_W} {p1 : j2_W} {p2 : j2_W} {p3 : j2_W} {p4 : j2_W} {p5 : j2_W} {p6 : j2_W} {g7 : Nat} {p8 : j2_W} {p9 : j2_W} {I : Nat → Nat → Int32} {A : Nat → Nat → Nat → Int32}
  (h : ((x3 < (nI 30) → (True ∧ Q (some (vI (-1 : Int32))) (I, [p0, p1, p2, p3, p4, p5, p6, vO 3 g7, p8, p9], A))) ∧ (¬ (x3 < (nI 30)) → ((x4 ≤ (x3 - (nI 30)) → (True ∧ Q (some (vI (-1 : Int32))) (I, [p0, p1, p2, p3, p4, p5, p6, vO 3 g7, p8, p9], A))) ∧ (¬ (x4 ≤ (x3 - (nI 30))) → C 138 [vO 9 o0, vI x1] (I, [p0, p1, p2, p3, p4, p5, p6, vO 3 g7, p8, p9], A) (fun r σ1 => T137 C Q 73 [vO 9 o0, vI x1, vI x2, vI x3, vI x4] (r.toList ++ []) σ1)))))) :
  T137 C Q 62 [vO 9 o0, vI x1, vI x2, vI x3, vI x4] [] (I, [p0, p1, p2, p3, p4, p5, p6, vO 3 g7, p8, p9], A) := j2_T.go hC [0, 8, 54, 61, 62, 73, 80] 400 h
set_option maxRecDepth 100000 in
theorem b137_73 {C : j2_C} (hC : j2_up1 C) {Q : j2_P} {o0 : Nat} {x1 : Int32} {x2 : Int32} {x3 : Int32} {x4 : Int32} {p0 : j2_W} {p1 : j2_W} {p2 : j2_W} {p3 : j2_W} {p4 : j2_W} {p5 : j2_W} {p6 : j2_W} {g7 : Nat} {p8 : j2_W} {p9 : j2_W} {I : Nat → Nat → Int32} {A : Nat → Nat → Nat → Int32}
  (h : C 4 [vO 1 (o0 + 76), vI x2, vI (x3 - (nI 30))] (I, [p0, p1, p2, p3, p4, p5, p6, vO 3 g7, p8, p9], A) (fun r σ1 => T137 C Q 80 [vO 9 o0, vI x1, vI x2, vI x3, vI x4] (r.toList ++ []) σ1)) :
  T137 C Q 73 [vO 9 o0, vI x1, vI x2, vI x3, vI x4] [] (I, [p0, p1, p2, p3, p4, p5, p6, vO 3 g7, p8, p9], A) := j2_T.go hC [0, 8, 54, 61, 62, 73, 80] 400 h
set_option maxRecDepth 100000 in
theorem b137_80 {C : j2_C} (hC : j2_up1 C) {Q : j2_P} {o0 : Nat} {x1 : Int32} {x2 : Int32} {x3 : Int32} {x4 : Int32} {xs0 : Int32} {p0 : j2_W} {p1 : j2_W} {p2 : j2_W} {p3 : j2_W} {p4 : j2_W} {p5 : j2_W} {p6 : j2_W} {g7 : Nat} {p8 : j2_W} {p9 : j2_W} {I : Nat → Nat → Int32} {A : Nat → Nat → Nat → Int32}
  (h : (True ∧ Q (some (vI xs0)) (I, [p0, p1, p2, p3, p4, p5, p6, vO 3 g7, p8, p9], A))) :
  T137 C Q 80 [vO 9 o0, vI x1, vI x2, vI x3, vI x4] [vI xs0] (I, [p0, p1, p2, p3, p4, p5, p6, vO 3 g7, p8, p9], A) := j2_T.go hC [0, 8, 54, 61, 62, 73, 80] 400 h
abbrev T138 (C : j2_C) (Q : j2_P) : j2_K := j2_T C jc_X9_flowOf none Q
set_option maxRecDepth 100000 in
theorem b138_0 {C : j2_C} (hC : j2_up1 C) {Q : j2_P} {o0 : Nat} {x1 : Int32} {p0 : j2_W} {p1 : j2_W} {p2 : j2_W} {p3 : j2_W} {p4 : j2_W} {p5 : j2_W} {p6 : j2_W} {g7 : Nat} {p8 : j2_W} {p9 : j2_W} {I : Nat → Nat → Int32} {A : Nat → Nat → Nat → Int32}
  (h : (((I 9013 o0) = x1 → ((none : Option FieldType) = none ∧ Q none (I, [p0, p1, p2, p3, p4, p5, p6, vO 3 g7, p8, p9], A))) ∧ (¬ ((I 9013 o0) = x1) → C 2 [vO 1 (o0 + 76), vO 3 g7, vI x1] (I, [p0, p1, p2, p3, p4, p5, p6, vO 3 g7, p8, p9], A) (fun r σ1 => T138 C Q 10 [vO 9 o0, vI x1] (r.toList ++ []) σ1)))) :
  T138 C Q 0 [vO 9 o0, vI x1] [] (I, [p0, p1, p2, p3, p4, p5, p6, vO 3 g7, p8, p9], A) := j2_T.go hC [0, 10] 400 h
set_option maxRecDepth 100000 in
theorem b138_10 {C : j2_C} (hC : j2_up1 C) {Q : j2_P} {o0 : Nat} {x1 : Int32} {xs0 : Int32} {p0 : j2_W} {p1 : j2_W} {p2 : j2_W} {p3 : j2_W} {p4 : j2_W} {p5 : j2_W} {p6 : j2_W} {g7 : Nat} {p8 : j2_W} {p9 : j2_W} {I : Nat → Nat → Int32} {A : Nat → Nat → Nat → Int32}
  (h : ((none : Option FieldType) = none ∧ Q none ((j2_up I 9013 o0 x1), [p0, p1, p2, p3, p4, p5, p6, vO 3 g7, p8, p9], A))) :
  T138 C Q 10 [vO 9 o0, vI x1] [vI xs0] (I, [p0, p1, p2, p3, p4, p5, p6, vO 3 g7, p8, p9], A) := j2_T.go hC [0, 10] 400 h
abbrev T139 (C : j2_C) (Q : j2_P) : j2_K := j2_T C jc_X9_entry (some .int) Q
set_option maxRecDepth 100000 in
theorem b139_0 {C : j2_C} (hC : j2_up1 C) {Q : j2_P} {o0 : Nat} {x1 : Int32} {p0 : j2_W} {p1 : j2_W} {p2 : j2_W} {p3 : j2_W} {p4 : j2_W} {p5 : j2_W} {p6 : j2_W} {g7 : Nat} {p8 : j2_W} {p9 : j2_W} {I : Nat → Nat → Int32} {A : Nat → Nat → Nat → Int32}
  (h : (((I 9005 o0) = 0 → (True ∧ Q (some (vI (-1 : Int32))) (I, [p0, p1, p2, p3, p4, p5, p6, vO 3 g7, p8, p9], A))) ∧ (¬ ((I 9005 o0) = 0) → C 44 [vO 3 g7, vI x1] (I, [p0, p1, p2, p3, p4, p5, p6, vO 3 g7, p8, p9], A) (fun r σ1 => T139 C Q 7 [vO 9 o0, vI x1, vM 2] (r.toList ++ []) σ1)))) :
  T139 C Q 0 [vO 9 o0, vI x1, vM 2] [] (I, [p0, p1, p2, p3, p4, p5, p6, vO 3 g7, p8, p9], A) := j2_T.go hC [0, 7, 26] 400 h
set_option maxRecDepth 100000 in
theorem b139_7 {C : j2_C} (hC : j2_up1 C) {Q : j2_P} {o0 : Nat} {x1 : Int32} {xs0 : Int32} {p0 : j2_W} {p1 : j2_W} {p2 : j2_W} {p3 : j2_W} {p4 : j2_W} {p5 : j2_W} {p6 : j2_W} {g7 : Nat} {p8 : j2_W} {p9 : j2_W} {I : Nat → Nat → Int32} {A : Nat → Nat → Nat → Int32}
  (h : ((¬ xs0 = 0 → (vp_in x1 80 ∧ (((A 3013 g7 x1.toNatClampNeg) = 0 → (True ∧ Q (some (vI (-1 : Int32))) (I, [p0, p1, p2, p3, p4, p5, p6, vO 3 g7, p8, p9], A))) ∧ (¬ ((A 3013 g7 x1.toNatClampNeg) = 0) → (vp_in x1 80 ∧ (((A 3015 g7 x1.toNatClampNeg) = 0 → T139 C Q 26 [vO 9 o0, vI x1, vI (nI 0)] [] (I, [p0, p1, p2, p3, p4, p5, p6, vO 3 g7, p8, p9], A)) ∧ (¬ ((A 3015 g7 x1.toNatClampNeg) = 0) → (True ∧ Q (some (vI (-1 : Int32))) (I, [p0, p1, p2, p3, p4, p5, p6, vO 3 g7, p8, p9], A))))))))) ∧ (¬ (¬ xs0 = 0) → (True ∧ Q (some (vI (-1 : Int32))) (I, [p0, p1, p2, p3, p4, p5, p6, vO 3 g7, p8, p9], A))))) :
  T139 C Q 7 [vO 9 o0, vI x1, vM 2] [vI xs0] (I, [p0, p1, p2, p3, p4, p5, p6, vO 3 g7, p8, p9], A) := j2_T.go hC [0, 7, 26] 400 h
set_option maxRecDepth 100000 in
theorem b139_26 {C : j2_C} (hC : j2_up1 C) {Q : j2_P} {o0 : Nat} {x1 : Int32} {x2 : Int32} {p0 : j2_W} {p1 : j2_W} {p2 : j2_W} {p3 : j2_W} {p4 : j2_W} {p5 : j2_W} {p6 : j2_W} {g7 : Nat} {p8 : j2_W} {p9 : j2_W} {I : Nat → Nat → Int32} {A : Nat → Nat → Nat → Int32}
  (h : (((I 9009 o0) ≤ x2 → (((I 9009 o0) < (nI 6) → (vp_in (I 9009 o0) 6 ∧ (((nI 0) = 0 ∨ (nI 0) = 1) ∧ (True ∧ Q (some (vI (((j2_up (j2_up I 9009 o0 ((I 9009 o0) + (nI 1))) 9006 o0 (nI 0)) 9009 o0) - (nI 1)))) ((j2_up (j2_up I 9009 o0 ((I 9009 o0) + (nI 1))) 9006 o0 (nI 0)), [p0, p1, p2, p3, p4, p5, p6, vO 3 g7, p8, p9], (j2_ast A 9008 o0 (I 9009 o0).toNatClampNeg x1)))))) ∧ (¬ ((I 9009 o0) < (nI 6)) → (True ∧ Q (some (vI (-1 : Int32))) (I, [p0, p1, p2, p3, p4, p5, p6, vO 3 g7, p8, p9], A))))) ∧ (¬ ((I 9009 o0) ≤ x2) → (vp_in x2 6 ∧ ((¬ (A 9008 o0 x2.toNatClampNeg) = x1 → T139 C Q 26 [vO 9 o0, vI x1, vI (x2 + (nI 1))] [] (I, [p0, p1, p2, p3, p4, p5, p6, vO 3 g7, p8, p9], A)) ∧ (¬ (¬ (A 9008 o0 x2.toNatClampNeg) = x1) → (True ∧ Q (some (vI x2)) (I, [p0, p1, p2, p3, p4, p5, p6, vO 3 g7, p8, p9], A)))))))) :
  T139 C Q 26 [vO 9 o0, vI x1, vI x2] [] (I, [p0, p1, p2, p3, p4, p5, p6, vO 3 g7, p8, p9], A) := j2_T.go hC [0, 7, 26] 400 h
abbrev T140 (C : j2_C) (Q : j2_P) : j2_K := j2_T C jc_X9_shrink (some .int) Q
set_option maxRecDepth 100000 in
theorem b140_0 {C : j2_C} (hC : j2_up1 C) {Q : j2_P} {o0 : Nat} {x1 : Int32} {p0 : j2_W} {p1 : j2_W} {p2 : j2_W} {p3 : j2_W} {p4 : j2_W} {p5 : j2_W} {p6 : j2_W} {g7 : Nat} {g8 : Nat} {p9 : j2_W} {I : Nat → Nat → Int32} {A : Nat → Nat → Nat → Int32}
  (h : ((x1 < 0 → T140 C Q 5 [vO 9 o0, vI x1] [] (I, [p0, p1, p2, p3, p4, p5, p6, vO 3 g7, vO 3 g8, p9], A)) ∧ (¬ (x1 < 0) → ((x1 ≤ (nI 12) → (((I 9005 o0) = 0 → T140 C Q 16 [vO 9 o0, vI x1] [] (I, [p0, p1, p2, p3, p4, p5, p6, vO 3 g7, vO 3 g8, p9], A)) ∧ (¬ ((I 9005 o0) = 0) → ((¬ (I 9009 o0) = 0 → C 79 [vO 6 (o0 + 83), vO 3 g7, vO 3 g8, vA 9008 o0, vI (I 9009 o0), vI x1] (I, [p0, p1, p2, p3, p4, p5, p6, vO 3 g7, vO 3 g8, p9], A) (fun r σ1 => T140 C Q 33 [vO 9 o0, vI x1] (r.toList ++ []) σ1)) ∧ (¬ (¬ (I 9009 o0) = 0) → T140 C Q 16 [vO 9 o0, vI x1] [] (I, [p0, p1, p2, p3, p4, p5, p6, vO 3 g7, vO 3 g8, p9], A)))))) ∧ (¬ (x1 ≤ (nI 12)) → T140 C Q 5 [vO 9 o0, vI x1] [] (I, [p0, p1, p2, p3, p4, p5, p6, vO 3 g7, vO 3 g8, p9], A)))))) :
  T140 C Q 0 [vO 9 o0, vI x1] [] (I, [p0, p1, p2, p3, p4, p5, p6, vO 3 g7, vO 3 g8, p9], A) := j2_T.go hC [0, 5, 16, 33] 400 h
set_option maxRecDepth 100000 in
theorem b140_5 {C : j2_C} (hC : j2_up1 C) {Q : j2_P} {o0 : Nat} {x1 : Int32} {p0 : j2_W} {p1 : j2_W} {p2 : j2_W} {p3 : j2_W} {p4 : j2_W} {p5 : j2_W} {p6 : j2_W} {g7 : Nat} {g8 : Nat} {p9 : j2_W} {I : Nat → Nat → Int32} {A : Nat → Nat → Nat → Int32}
  (h : False) :
  T140 C Q 5 [vO 9 o0, vI x1] [] (I, [p0, p1, p2, p3, p4, p5, p6, vO 3 g7, vO 3 g8, p9], A) := j2_T.go hC [0, 5, 16, 33] 400 h
set_option maxRecDepth 100000 in
theorem b140_16 {C : j2_C} (hC : j2_up1 C) {Q : j2_P} {o0 : Nat} {x1 : Int32} {p0 : j2_W} {p1 : j2_W} {p2 : j2_W} {p3 : j2_W} {p4 : j2_W} {p5 : j2_W} {p6 : j2_W} {g7 : Nat} {g8 : Nat} {p9 : j2_W} {I : Nat → Nat → Int32} {A : Nat → Nat → Nat → Int32}
  (h : False) :
  T140 C Q 16 [vO 9 o0, vI x1] [] (I, [p0, p1, p2, p3, p4, p5, p6, vO 3 g7, vO 3 g8, p9], A) := j2_T.go hC [0, 5, 16, 33] 400 h
set_option maxRecDepth 100000 in
theorem b140_33 {C : j2_C} (hC : j2_up1 C) {Q : j2_P} {o0 : Nat} {x1 : Int32} {p0 : j2_W} {p1 : j2_W} {p2 : j2_W} {p3 : j2_W} {p4 : j2_W} {p5 : j2_W} {p6 : j2_W} {g7 : Nat} {g8 : Nat} {p9 : j2_W} {I : Nat → Nat → Int32} {A : Nat → Nat → Nat → Int32}
  (h : (((nI 1) = 0 ∨ (nI 1) = 1) ∧ (True ∧ Q (some (vI ((j2_up I 9006 o0 (nI 1)) 8001 ((o0 + 83) + 7)))) ((j2_up I 9006 o0 (nI 1)), [p0, p1, p2, p3, p4, p5, p6, vO 3 g7, vO 3 g8, p9], A)))) :
  T140 C Q 33 [vO 9 o0, vI x1] [] (I, [p0, p1, p2, p3, p4, p5, p6, vO 3 g7, vO 3 g8, p9], A) := j2_T.go hC [0, 5, 16, 33] 400 h
abbrev T141 (C : j2_C) (Q : j2_P) : j2_K := j2_T C jc_X9_out (some .int) Q
set_option maxRecDepth 100000 in
theorem b141_0 {C : j2_C} (hC : j2_up1 C) {Q : j2_P} {o0 : Nat} {x1 : Int32} {σ : j2_S}
  (h : (((σ.1 9006 o0) = 0 → (True ∧ Q (some (vI (-1 : Int32))) σ)) ∧ (¬ ((σ.1 9006 o0) = 0) → ((x1 < 0 → (True ∧ Q (some (vI (-1 : Int32))) σ)) ∧ (¬ (x1 < 0) → (((σ.1 8001 ((o0 + 83) + 7)) ≤ x1 → (True ∧ Q (some (vI (-1 : Int32))) σ)) ∧ (¬ ((σ.1 8001 ((o0 + 83) + 7)) ≤ x1) → ((x1 < (nI 48943) → (vp_in x1 48943 ∧ (True ∧ Q (some (vI ((σ.2.2 8000 ((o0 + 83) + 7) x1.toNatClampNeg) &&& (nI 255)))) σ))) ∧ (¬ (x1 < (nI 48943)) → (True ∧ Q (some (vI (-1 : Int32))) σ)))))))))) :
  T141 C Q 0 [vO 9 o0, vI x1] [] σ := j2_T.go hC [0] 400 h
abbrev T142 (C : j2_C) (Q : j2_P) : j2_K := j2_T C jc_X9_kept (some .int) Q
set_option maxRecDepth 100000 in
theorem b142_0 {C : j2_C} (hC : j2_up1 C) {Q : j2_P} {o0 : Nat} {x1 : Int32} {x2 : Int32} {x3 : Int32} {p0 : j2_W} {p1 : j2_W} {p2 : j2_W} {p3 : j2_W} {p4 : j2_W} {p5 : j2_W} {p6 : j2_W} {g7 : Nat} {g8 : Nat} {p9 : j2_W} {I : Nat → Nat → Int32} {A : Nat → Nat → Nat → Int32}
  (h : (((I 9006 o0) = 0 → (True ∧ Q (some (vI (-1 : Int32))) (I, [p0, p1, p2, p3, p4, p5, p6, vO 3 g7, vO 3 g8, p9], A))) ∧ (¬ ((I 9006 o0) = 0) → C 41 [vO 3 g7, vI x2] (I, [p0, p1, p2, p3, p4, p5, p6, vO 3 g7, vO 3 g8, p9], A) (fun r σ1 => T142 C Q 7 [vO 9 o0, vI x1, vI x2, vI x3, vM 2] (r.toList ++ []) σ1)))) :
  T142 C Q 0 [vO 9 o0, vI x1, vI x2, vI x3, vM 2] [] (I, [p0, p1, p2, p3, p4, p5, p6, vO 3 g7, vO 3 g8, p9], A) := j2_T.go hC [0, 7, 26, 37, 45] 400 h
set_option maxRecDepth 100000 in
theorem b142_7 {C : j2_C} (hC : j2_up1 C) {Q : j2_P} {o0 : Nat} {x1 : Int32} {x2 : Int32} {x3 : Int32} {xs0 : Int32} {p0 : j2_W} {p1 : j2_W} {p2 : j2_W} {p3 : j2_W} {p4 : j2_W} {p5 : j2_W} {p6 : j2_W} {g7 : Nat} {g8 : Nat} {p9 : j2_W} {I : Nat → Nat → Int32} {A : Nat → Nat → Nat → Int32}
  (h : ((¬ xs0 = 0 → ((¬ x1 = 0 → ((¬ x1 = (nI 1) → T142 C Q 37 [vO 9 o0, vI x1, vI x2, vI x3, vM 2] [] (I, [p0, p1, p2, p3, p4, p5, p6, vO 3 g7, vO 3 g8, p9], A)) ∧ (¬ (¬ x1 = (nI 1)) → C 42 [vO 3 g7, vI x2, vI x3] (I, [p0, p1, p2, p3, p4, p5, p6, vO 3 g7, vO 3 g8, p9], A) (fun r σ1 => T142 C Q 26 [vO 9 o0, vI x1, vI x2, vI x3, vM 2] (r.toList ++ []) σ1)))) ∧ (¬ (¬ x1 = 0) → (vp_in x2 10 ∧ (True ∧ Q (some (vI (A 6000 (o0 + 83) x2.toNatClampNeg))) (I, [p0, p1, p2, p3, p4, p5, p6, vO 3 g7, vO 3 g8, p9], A)))))) ∧ (¬ (¬ xs0 = 0) → (True ∧ Q (some (vI (-1 : Int32))) (I, [p0, p1, p2, p3, p4, p5, p6, vO 3 g7, vO 3 g8, p9], A))))) :
  T142 C Q 7 [vO 9 o0, vI x1, vI x2, vI x3, vM 2] [vI xs0] (I, [p0, p1, p2, p3, p4, p5, p6, vO 3 g7, vO 3 g8, p9], A) := j2_T.go hC [0, 7, 26, 37, 45] 400 h
set_option maxRecDepth 100000 in
theorem b142_26 {C : j2_C} (hC : j2_up1 C) {Q : j2_P} {o0 : Nat} {x1 : Int32} {x2 : Int32} {x3 : Int32} {xs0 : Int32} {p0 : j2_W} {p1 : j2_W} {p2 : j2_W} {p3 : j2_W} {p4 : j2_W} {p5 : j2_W} {p6 : j2_W} {g7 : Nat} {g8 : Nat} {p9 : j2_W} {I : Nat → Nat → Int32} {A : Nat → Nat → Nat → Int32}
  (h : ((xs0 = 0 → T142 C Q 37 [vO 9 o0, vI x1, vI x2, vI x3, vM 2] [] (I, [p0, p1, p2, p3, p4, p5, p6, vO 3 g7, vO 3 g8, p9], A)) ∧ (¬ (xs0 = 0) → (vp_in ((x2 * (nI 6)) + x3) 60 ∧ (True ∧ Q (some (vI (A 6001 (o0 + 83) ((x2 * (nI 6)) + x3).toNatClampNeg))) (I, [p0, p1, p2, p3, p4, p5, p6, vO 3 g7, vO 3 g8, p9], A)))))) :
  T142 C Q 26 [vO 9 o0, vI x1, vI x2, vI x3, vM 2] [vI xs0] (I, [p0, p1, p2, p3, p4, p5, p6, vO 3 g7, vO 3 g8, p9], A) := j2_T.go hC [0, 7, 26, 37, 45] 400 h
set_option maxRecDepth 100000 in
theorem b142_37 {C : j2_C} (hC : j2_up1 C) {Q : j2_P} {o0 : Nat} {x1 : Int32} {x2 : Int32} {x3 : Int32} {p0 : j2_W} {p1 : j2_W} {p2 : j2_W} {p3 : j2_W} {p4 : j2_W} {p5 : j2_W} {p6 : j2_W} {g7 : Nat} {g8 : Nat} {p9 : j2_W} {I : Nat → Nat → Int32} {A : Nat → Nat → Nat → Int32}
  (h : ((¬ x1 = (nI 2) → (True ∧ Q (some (vI (-1 : Int32))) (I, [p0, p1, p2, p3, p4, p5, p6, vO 3 g7, vO 3 g8, p9], A))) ∧ (¬ (¬ x1 = (nI 2)) → C 43 [vO 3 g7, vI x2, vI x3] (I, [p0, p1, p2, p3, p4, p5, p6, vO 3 g7, vO 3 g8, p9], A) (fun r σ1 => T142 C Q 45 [vO 9 o0, vI x1, vI x2, vI x3, vM 2] (r.toList ++ []) σ1)))) :
  T142 C Q 37 [vO 9 o0, vI x1, vI x2, vI x3, vM 2] [] (I, [p0, p1, p2, p3, p4, p5, p6, vO 3 g7, vO 3 g8, p9], A) := j2_T.go hC [0, 7, 26, 37, 45] 400 h
set_option maxRecDepth 100000 in
theorem b142_45 {C : j2_C} (hC : j2_up1 C) {Q : j2_P} {o0 : Nat} {x1 : Int32} {x2 : Int32} {x3 : Int32} {xs0 : Int32} {p0 : j2_W} {p1 : j2_W} {p2 : j2_W} {p3 : j2_W} {p4 : j2_W} {p5 : j2_W} {p6 : j2_W} {g7 : Nat} {g8 : Nat} {p9 : j2_W} {I : Nat → Nat → Int32} {A : Nat → Nat → Nat → Int32}
  (h : ((xs0 = 0 → (True ∧ Q (some (vI (-1 : Int32))) (I, [p0, p1, p2, p3, p4, p5, p6, vO 3 g7, vO 3 g8, p9], A))) ∧ (¬ (xs0 = 0) → (vp_in x2 10 ∧ (vp_in ((A 3007 g7 x2.toNatClampNeg) + x3) 80 ∧ ((¬ (A 6002 (o0 + 83) ((A 3007 g7 x2.toNatClampNeg) + x3).toNatClampNeg) = (-1 : Int32) → (vp_in (A 6002 (o0 + 83) ((A 3007 g7 x2.toNatClampNeg) + x3).toNatClampNeg) 80 ∧ (vp_in (A 3011 g8 (A 6002 (o0 + 83) ((A 3007 g7 x2.toNatClampNeg) + x3).toNatClampNeg).toNatClampNeg) 10 ∧ (True ∧ Q (some (vI ((A 6002 (o0 + 83) ((A 3007 g7 x2.toNatClampNeg) + x3).toNatClampNeg) - (A 3007 g8 (A 3011 g8 (A 6002 (o0 + 83) ((A 3007 g7 x2.toNatClampNeg) + x3).toNatClampNeg).toNatClampNeg).toNatClampNeg)))) (I, [p0, p1, p2, p3, p4, p5, p6, vO 3 g7, vO 3 g8, p9], A))))) ∧ (¬ (¬ (A 6002 (o0 + 83) ((A 3007 g7 x2.toNatClampNeg) + x3).toNatClampNeg) = (-1 : Int32)) → (True ∧ Q (some (vI (-1 : Int32))) (I, [p0, p1, p2, p3, p4, p5, p6, vO 3 g7, vO 3 g8, p9], A))))))))) :
  T142 C Q 45 [vO 9 o0, vI x1, vI x2, vI x3, vM 2] [vI xs0] (I, [p0, p1, p2, p3, p4, p5, p6, vO 3 g7, vO 3 g8, p9], A) := j2_T.go hC [0, 7, 26, 37, 45] 400 h
abbrev T143 (C : j2_C) (Q : j2_P) : j2_K := j2_T C jc_X9_made (some .int) Q
set_option maxRecDepth 100000 in
theorem b143_0 {C : j2_C} (hC : j2_up1 C) {Q : j2_P} {o0 : Nat} {x1 : Int32} {σ : j2_S}
  (h : ((x1 < 0 → T143 C Q 5 [vO 9 o0, vI x1, vM 2] [] σ) ∧ (¬ (x1 < 0) → ((x1 ≤ (nI 3) → T143 C Q 11 [vO 9 o0, vI x1, vM 2] [] σ) ∧ (¬ (x1 ≤ (nI 3)) → T143 C Q 5 [vO 9 o0, vI x1, vM 2] [] σ))))) :
  T143 C Q 0 [vO 9 o0, vI x1, vM 2] [] σ := j2_T.go hC [0, 5, 11, 13, 14] 400 h
set_option maxRecDepth 100000 in
theorem b143_5 {C : j2_C} (hC : j2_up1 C) {Q : j2_P} {o0 : Nat} {x1 : Int32} {σ : j2_S}
  (h : ((x1 ≤ (nI 10) → T143 C Q 13 [vO 9 o0, vI x1, vM 2] [] σ) ∧ (¬ (x1 ≤ (nI 10)) → (((nI 22) < x1 → T143 C Q 13 [vO 9 o0, vI x1, vM 2] [] σ) ∧ (¬ ((nI 22) < x1) → T143 C Q 11 [vO 9 o0, vI x1, vM 2] [] σ))))) :
  T143 C Q 5 [vO 9 o0, vI x1, vM 2] [] σ := j2_T.go hC [0, 5, 11, 13, 14] 400 h
set_option maxRecDepth 100000 in
theorem b143_11 {C : j2_C} (hC : j2_up1 C) {Q : j2_P} {o0 : Nat} {x1 : Int32} {σ : j2_S}
  (h : T143 C Q 14 [vO 9 o0, vI x1, vM 2] [vI (nI 1)] σ) :
  T143 C Q 11 [vO 9 o0, vI x1, vM 2] [] σ := j2_T.go hC [0, 5, 11, 13, 14] 400 h
set_option maxRecDepth 100000 in
theorem b143_13 {C : j2_C} (hC : j2_up1 C) {Q : j2_P} {o0 : Nat} {x1 : Int32} {σ : j2_S}
  (h : T143 C Q 14 [vO 9 o0, vI x1, vM 2] [vI (nI 0)] σ) :
  T143 C Q 13 [vO 9 o0, vI x1, vM 2] [] σ := j2_T.go hC [0, 5, 11, 13, 14] 400 h
set_option maxRecDepth 100000 in
theorem b143_14 {C : j2_C} (hC : j2_up1 C) {Q : j2_P} {o0 : Nat} {x1 : Int32} {xs0 : Int32} {σ : j2_S}
  (h : ((¬ xs0 = 0 → (((σ.1 9006 o0) = 0 → (True ∧ Q (some (vI (nI 0))) σ)) ∧ (¬ ((σ.1 9006 o0) = 0) → (vp_in x1 23 ∧ (True ∧ Q (some (vI (σ.2.2 6005 (o0 + 83) x1.toNatClampNeg))) σ))))) ∧ (¬ (¬ xs0 = 0) → (True ∧ Q (some (vI (-1 : Int32))) σ)))) :
  T143 C Q 14 [vO 9 o0, vI x1, vM 2] [vI xs0] σ := j2_T.go hC [0, 5, 11, 13, 14] 400 h
abbrev T144 (C : j2_C) (Q : j2_P) : j2_K := j2_T C jc_X9_origin (some .int) Q
set_option maxRecDepth 100000 in
theorem b144_0 {C : j2_C} (hC : j2_up1 C) {Q : j2_P} {o0 : Nat} {x1 : Int32} {x2 : Int32} {x3 : Int32} {p0 : j2_W} {p1 : j2_W} {p2 : j2_W} {p3 : j2_W} {p4 : j2_W} {p5 : j2_W} {p6 : j2_W} {p7 : j2_W} {g8 : Nat} {p9 : j2_W} {I : Nat → Nat → Int32} {A : Nat → Nat → Nat → Int32}
  (h : (((I 9006 o0) = 0 → (True ∧ Q (some (vI (-1 : Int32))) (I, [p0, p1, p2, p3, p4, p5, p6, p7, vO 3 g8, p9], A))) ∧ (¬ ((I 9006 o0) = 0) → C 45 [vO 3 g8, vI x1, vI x2] (I, [p0, p1, p2, p3, p4, p5, p6, p7, vO 3 g8, p9], A) (fun r σ1 => T144 C Q 8 [vO 9 o0, vI x1, vI x2, vI x3, vM 2] (r.toList ++ []) σ1)))) :
  T144 C Q 0 [vO 9 o0, vI x1, vI x2, vI x3, vM 2] [] (I, [p0, p1, p2, p3, p4, p5, p6, p7, vO 3 g8, p9], A) := j2_T.go hC [0, 8] 400 h
set_option maxRecDepth 100000 in
theorem b144_8 {C : j2_C} (hC : j2_up1 C) {Q : j2_P} {o0 : Nat} {x1 : Int32} {x2 : Int32} {x3 : Int32} {xs0 : Int32} {p0 : j2_W} {p1 : j2_W} {p2 : j2_W} {p3 : j2_W} {p4 : j2_W} {p5 : j2_W} {p6 : j2_W} {p7 : j2_W} {g8 : Nat} {p9 : j2_W} {I : Nat → Nat → Int32} {A : Nat → Nat → Nat → Int32}
  (h : ((¬ xs0 = 0 → ((¬ x3 = 0 → ((¬ x3 = (nI 1) → (True ∧ Q (some (vI (-1 : Int32))) (I, [p0, p1, p2, p3, p4, p5, p6, p7, vO 3 g8, p9], A))) ∧ (¬ (¬ x3 = (nI 1)) → (vp_in ((x1 * (nI 120)) + x2) 9600 ∧ (True ∧ Q (some (vI (A 6004 (o0 + 83) ((x1 * (nI 120)) + x2).toNatClampNeg))) (I, [p0, p1, p2, p3, p4, p5, p6, p7, vO 3 g8, p9], A)))))) ∧ (¬ (¬ x3 = 0) → (vp_in ((x1 * (nI 120)) + x2) 9600 ∧ (True ∧ Q (some (vI (A 6003 (o0 + 83) ((x1 * (nI 120)) + x2).toNatClampNeg))) (I, [p0, p1, p2, p3, p4, p5, p6, p7, vO 3 g8, p9], A)))))) ∧ (¬ (¬ xs0 = 0) → (True ∧ Q (some (vI (-1 : Int32))) (I, [p0, p1, p2, p3, p4, p5, p6, p7, vO 3 g8, p9], A))))) :
  T144 C Q 8 [vO 9 o0, vI x1, vI x2, vI x3, vM 2] [vI xs0] (I, [p0, p1, p2, p3, p4, p5, p6, p7, vO 3 g8, p9], A) := j2_T.go hC [0, 8] 400 h
abbrev T145 (C : j2_C) (Q : j2_P) : j2_K := j2_T C jc_X9_run (some .int) Q
set_option maxRecDepth 100000 in
theorem b145_0 {C : j2_C} (hC : j2_up1 C) {Q : j2_P} {o0 : Nat} {x1 : Int32} {x2 : Int32} {x3 : Int32} {p0 : j2_W} {p1 : j2_W} {p2 : j2_W} {p3 : j2_W} {p4 : j2_W} {p5 : j2_W} {p6 : j2_W} {g7 : Nat} {g8 : Nat} {p9 : j2_W} {I : Nat → Nat → Int32} {A : Nat → Nat → Nat → Int32}
  (h : ((x1 = 0 → ((¬ (I 9005 o0) = 0 → T145 C Q 14 [vO 9 o0, vI x1, vI x2, vI x3, vM 2, vM 2] [] (I, [p0, p1, p2, p3, p4, p5, p6, vO 3 g7, vO 3 g8, p9], A)) ∧ (¬ (¬ (I 9005 o0) = 0) → T145 C Q 9 [vO 9 o0, vI x1, vI x2, vI x3, vM 2, vM 2] [] (I, [p0, p1, p2, p3, p4, p5, p6, vO 3 g7, vO 3 g8, p9], A)))) ∧ (¬ (x1 = 0) → (((I 9006 o0) = 0 → T145 C Q 9 [vO 9 o0, vI x1, vI x2, vI x3, vM 2, vM 2] [] (I, [p0, p1, p2, p3, p4, p5, p6, vO 3 g7, vO 3 g8, p9], A)) ∧ (¬ ((I 9006 o0) = 0) → T145 C Q 14 [vO 9 o0, vI x1, vI x2, vI x3, vM 2, vM 2] [] (I, [p0, p1, p2, p3, p4, p5, p6, vO 3 g7, vO 3 g8, p9], A)))))) :
  T145 C Q 0 [vO 9 o0, vI x1, vI x2, vI x3, vM 2, vM 2] [] (I, [p0, p1, p2, p3, p4, p5, p6, vO 3 g7, vO 3 g8, p9], A) := j2_T.go hC [0, 9, 14, 20, 31, 51, 61, 64, 75] 400 h
set_option maxRecDepth 100000 in
theorem b145_9 {C : j2_C} (hC : j2_up1 C) {Q : j2_P} {o0 : Nat} {x1 : Int32} {x2 : Int32} {x3 : Int32} {p0 : j2_W} {p1 : j2_W} {p2 : j2_W} {p3 : j2_W} {p4 : j2_W} {p5 : j2_W} {p6 : j2_W} {g7 : Nat} {g8 : Nat} {p9 : j2_W} {I : Nat → Nat → Int32} {A : Nat → Nat → Nat → Int32}
  (h : False) :
  T145 C Q 9 [vO 9 o0, vI x1, vI x2, vI x3, vM 2, vM 2] [] (I, [p0, p1, p2, p3, p4, p5, p6, vO 3 g7, vO 3 g8, p9], A) := j2_T.go hC [0, 9, 14, 20, 31, 51, 61, 64, 75] 400 h
set_option maxRecDepth 100000 in
theorem b145_14 {C : j2_C} (hC : j2_up1 C) {Q : j2_P} {o0 : Nat} {x1 : Int32} {x2 : Int32} {x3 : Int32} {p0 : j2_W} {p1 : j2_W} {p2 : j2_W} {p3 : j2_W} {p4 : j2_W} {p5 : j2_W} {p6 : j2_W} {g7 : Nat} {g8 : Nat} {p9 : j2_W} {I : Nat → Nat → Int32} {A : Nat → Nat → Nat → Int32}
  (h : ((x2 < 0 → T145 C Q 20 [vO 9 o0, vI x1, vI x2, vI x3, vM 2, vM 2] [] (I, [p0, p1, p2, p3, p4, p5, p6, vO 3 g7, vO 3 g8, p9], A)) ∧ (¬ (x2 < 0) → ((x2 < (I 9009 o0) → ((x3 < (nI 1) → T145 C Q 31 [vO 9 o0, vI x1, vI x2, vI x3, vM 2, vM 2] [] (I, [p0, p1, p2, p3, p4, p5, p6, vO 3 g7, vO 3 g8, p9], A)) ∧ (¬ (x3 < (nI 1)) → ((x3 ≤ (nI 20000) → ((x1 = 0 → (vp_in x2 6 ∧ T145 C Q 51 [vO 9 o0, vI x1, vI x2, vI x3, vM 2, vM 2] [vI (A 9008 o0 x2.toNatClampNeg)] (I, [p0, p1, p2, p3, p4, p5, p6, vO 3 g7, vO 3 g8, p9], A))) ∧ (¬ (x1 = 0) → (vp_in x2 6 ∧ (vp_in (A 9008 o0 x2.toNatClampNeg) 80 ∧ T145 C Q 51 [vO 9 o0, vI x1, vI x2, vI x3, vM 2, vM 2] [vI (A 6002 (o0 + 83) (A 9008 o0 x2.toNatClampNeg).toNatClampNeg)] (I, [p0, p1, p2, p3, p4, p5, p6, vO 3 g7, vO 3 g8, p9], A)))))) ∧ (¬ (x3 ≤ (nI 20000)) → T145 C Q 31 [vO 9 o0, vI x1, vI x2, vI x3, vM 2, vM 2] [] (I, [p0, p1, p2, p3, p4, p5, p6, vO 3 g7, vO 3 g8, p9], A)))))) ∧ (¬ (x2 < (I 9009 o0)) → T145 C Q 20 [vO 9 o0, vI x1, vI x2, vI x3, vM 2, vM 2] [] (I, [p0, p1, p2, p3, p4, p5, p6, vO 3 g7, vO 3 g8, p9], A)))))) :
  T145 C Q 14 [vO 9 o0, vI x1, vI x2, vI x3, vM 2, vM 2] [] (I, [p0, p1, p2, p3, p4, p5, p6, vO 3 g7, vO 3 g8, p9], A) := j2_T.go hC [0, 9, 14, 20, 31, 51, 61, 64, 75] 400 h
set_option maxRecDepth 100000 in
theorem b145_20 {C : j2_C} (hC : j2_up1 C) {Q : j2_P} {o0 : Nat} {x1 : Int32} {x2 : Int32} {x3 : Int32} {p0 : j2_W} {p1 : j2_W} {p2 : j2_W} {p3 : j2_W} {p4 : j2_W} {p5 : j2_W} {p6 : j2_W} {g7 : Nat} {g8 : Nat} {p9 : j2_W} {I : Nat → Nat → Int32} {A : Nat → Nat → Nat → Int32}
  (h : False) :
  T145 C Q 20 [vO 9 o0, vI x1, vI x2, vI x3, vM 2, vM 2] [] (I, [p0, p1, p2, p3, p4, p5, p6, vO 3 g7, vO 3 g8, p9], A) := j2_T.go hC [0, 9, 14, 20, 31, 51, 61, 64, 75] 400 h
set_option maxRecDepth 100000 in
theorem b145_31 {C : j2_C} (hC : j2_up1 C) {Q : j2_P} {o0 : Nat} {x1 : Int32} {x2 : Int32} {x3 : Int32} {p0 : j2_W} {p1 : j2_W} {p2 : j2_W} {p3 : j2_W} {p4 : j2_W} {p5 : j2_W} {p6 : j2_W} {g7 : Nat} {g8 : Nat} {p9 : j2_W} {I : Nat → Nat → Int32} {A : Nat → Nat → Nat → Int32}
  (h : False) :
  T145 C Q 31 [vO 9 o0, vI x1, vI x2, vI x3, vM 2, vM 2] [] (I, [p0, p1, p2, p3, p4, p5, p6, vO 3 g7, vO 3 g8, p9], A) := j2_T.go hC [0, 9, 14, 20, 31, 51, 61, 64, 75] 400 h
set_option maxRecDepth 100000 in
theorem b145_51 {C : j2_C} (hC : j2_up1 C) {Q : j2_P} {o0 : Nat} {x1 : Int32} {x2 : Int32} {x3 : Int32} {xs0 : Int32} {p0 : j2_W} {p1 : j2_W} {p2 : j2_W} {p3 : j2_W} {p4 : j2_W} {p5 : j2_W} {p6 : j2_W} {g7 : Nat} {g8 : Nat} {p9 : j2_W} {I : Nat → Nat → Int32} {A : Nat → Nat → Nat → Int32}
  (h : ((x1 = 0 → T145 C Q 61 [vO 9 o0, vI x1, vI x2, vI x3, vI xs0, vM 2] [vO 3 g7, vO 2 (o0 + 109)] (I, [p0, p1, p2, p3, p4, p5, p6, vO 3 g7, vO 3 g8, p9], A)) ∧ (¬ (x1 = 0) → T145 C Q 61 [vO 9 o0, vI x1, vI x2, vI x3, vI xs0, vM 2] [vO 3 g8, vO 2 (o0 + 109)] (I, [p0, p1, p2, p3, p4, p5, p6, vO 3 g7, vO 3 g8, p9], A)))) :
  T145 C Q 51 [vO 9 o0, vI x1, vI x2, vI x3, vM 2, vM 2] [vI xs0] (I, [p0, p1, p2, p3, p4, p5, p6, vO 3 g7, vO 3 g8, p9], A) := j2_T.go hC [0, 9, 14, 20, 31, 51, 61, 64, 75] 400 h
set_option maxRecDepth 100000 in
theorem b145_61 {C : j2_C} (hC : j2_up1 C) {Q : j2_P} {o0 : Nat} {x1 : Int32} {x2 : Int32} {x3 : Int32} {x4 : Int32} {os0 : Nat} {os1 : Nat} {p0 : j2_W} {p1 : j2_W} {p2 : j2_W} {p3 : j2_W} {p4 : j2_W} {p5 : j2_W} {p6 : j2_W} {g7 : Nat} {g8 : Nat} {p9 : j2_W} {I : Nat → Nat → Int32} {A : Nat → Nat → Nat → Int32}
  (h : C 20 [vO 2 os1, vO 3 os0, vI x4, vI x3] (I, [p0, p1, p2, p3, p4, p5, p6, vO 3 g7, vO 3 g8, p9], A) (fun r σ1 => T145 C Q 64 [vO 9 o0, vI x1, vI x2, vI x3, vI x4, vM 2] (r.toList ++ []) σ1)) :
  T145 C Q 61 [vO 9 o0, vI x1, vI x2, vI x3, vI x4, vM 2] [vO 3 os0, vO 2 os1] (I, [p0, p1, p2, p3, p4, p5, p6, vO 3 g7, vO 3 g8, p9], A) := j2_T.go hC [0, 9, 14, 20, 31, 51, 61, 64, 75] 400 h
set_option maxRecDepth 100000 in
theorem b145_64 {C : j2_C} (hC : j2_up1 C) {Q : j2_P} {o0 : Nat} {x1 : Int32} {x2 : Int32} {x3 : Int32} {x4 : Int32} {xs0 : Int32} {p0 : j2_W} {p1 : j2_W} {p2 : j2_W} {p3 : j2_W} {p4 : j2_W} {p5 : j2_W} {p6 : j2_W} {g7 : Nat} {g8 : Nat} {p9 : j2_W} {I : Nat → Nat → Int32} {A : Nat → Nat → Nat → Int32}
  (h : C 22 [vO 2 (o0 + 109), vI x1, vA 6003 (o0 + 83), vA 6004 (o0 + 83)] (I, [p0, p1, p2, p3, p4, p5, p6, vO 3 g7, vO 3 g8, p9], A) (fun r σ1 => T145 C Q 75 [vO 9 o0, vI x1, vI x2, vI x3, vI x4, vI xs0] (r.toList ++ []) σ1)) :
  T145 C Q 64 [vO 9 o0, vI x1, vI x2, vI x3, vI x4, vM 2] [vI xs0] (I, [p0, p1, p2, p3, p4, p5, p6, vO 3 g7, vO 3 g8, p9], A) := j2_T.go hC [0, 9, 14, 20, 31, 51, 61, 64, 75] 400 h
set_option maxRecDepth 100000 in
theorem b145_75 {C : j2_C} (hC : j2_up1 C) {Q : j2_P} {o0 : Nat} {x1 : Int32} {x2 : Int32} {x3 : Int32} {x4 : Int32} {x5 : Int32} {p0 : j2_W} {p1 : j2_W} {p2 : j2_W} {p3 : j2_W} {p4 : j2_W} {p5 : j2_W} {p6 : j2_W} {g7 : Nat} {g8 : Nat} {p9 : j2_W} {I : Nat → Nat → Int32} {A : Nat → Nat → Nat → Int32}
  (h : (True ∧ Q (some (vI x5)) (I, [p0, p1, p2, p3, p4, p5, p6, vO 3 g7, vO 3 g8, p9], A))) :
  T145 C Q 75 [vO 9 o0, vI x1, vI x2, vI x3, vI x4, vI x5] [] (I, [p0, p1, p2, p3, p4, p5, p6, vO 3 g7, vO 3 g8, p9], A) := j2_T.go hC [0, 9, 14, 20, 31, 51, 61, 64, 75] 400 h
abbrev T146 (C : j2_C) (Q : j2_P) : j2_K := j2_T C jc_X9_result (some .int) Q
set_option maxRecDepth 100000 in
theorem b146_0 {C : j2_C} (hC : j2_up1 C) {Q : j2_P} {o0 : Nat} {x1 : Int32} {σ : j2_S}
  (h : (((σ.1 2000 (o0 + 109)) = 0 → (True ∧ Q (some (vI (-1 : Int32))) σ)) ∧ (¬ ((σ.1 2000 (o0 + 109)) = 0) → ((x1 < 0 → (True ∧ Q (some (vI (-1 : Int32))) σ)) ∧ (¬ (x1 < 0) → (((nI 8) ≤ x1 → (True ∧ Q (some (vI (-1 : Int32))) σ)) ∧ (¬ ((nI 8) ≤ x1) → (vp_in x1 8 ∧ (True ∧ Q (some (vI (σ.2.2 2001 (o0 + 109) x1.toNatClampNeg))) σ))))))))) :
  T146 C Q 0 [vO 9 o0, vI x1] [] σ := j2_T.go hC [0] 400 h
abbrev T147 (C : j2_C) (Q : j2_P) : j2_K := j2_T C jc_X9_output (some .int) Q
set_option maxRecDepth 100000 in
theorem b147_0 {C : j2_C} (hC : j2_up1 C) {Q : j2_P} {o0 : Nat} {x1 : Int32} {σ : j2_S}
  (h : (((σ.1 2000 (o0 + 109)) = 0 → (True ∧ Q (some (vI (nI 0))) σ)) ∧ (¬ ((σ.1 2000 (o0 + 109)) = 0) → ((x1 < 0 → (True ∧ Q (some (vI (nI 0))) σ)) ∧ (¬ (x1 < 0) → (((nI 100) ≤ x1 → (True ∧ Q (some (vI (nI 0))) σ)) ∧ (¬ ((nI 100) ≤ x1) → (vp_in (nI 3) 8 ∧ ((x1 < (σ.2.2 2001 (o0 + 109) (nI 3).toNatClampNeg) → (vp_in x1 100 ∧ (True ∧ Q (some (vI (σ.2.2 2002 (o0 + 109) x1.toNatClampNeg))) σ))) ∧ (¬ (x1 < (σ.2.2 2001 (o0 + 109) (nI 3).toNatClampNeg)) → (True ∧ Q (some (vI (nI 0))) σ))))))))))) :
  T147 C Q 0 [vO 9 o0, vI x1] [] σ := j2_T.go hC [0] 400 h
abbrev T148 (C : j2_C) (Q : j2_P) : j2_K := j2_T C jc_X9_trace (some .int) Q
set_option maxRecDepth 100000 in
theorem b148_0 {C : j2_C} (hC : j2_up1 C) {Q : j2_P} {o0 : Nat} {x1 : Int32} {σ : j2_S}
  (h : (((σ.1 2000 (o0 + 109)) = 0 → (True ∧ Q (some (vI (-1 : Int32))) σ)) ∧ (¬ ((σ.1 2000 (o0 + 109)) = 0) → ((x1 < 0 → (True ∧ Q (some (vI (-1 : Int32))) σ)) ∧ (¬ (x1 < 0) → (vp_in (nI 4) 8 ∧ (((σ.2.2 2001 (o0 + 109) (nI 4).toNatClampNeg) ≤ x1 → (True ∧ Q (some (vI (-1 : Int32))) σ)) ∧ (¬ ((σ.2.2 2001 (o0 + 109) (nI 4).toNatClampNeg) ≤ x1) → (((nI 40) ≤ x1 → (True ∧ Q (some (vI (-1 : Int32))) σ)) ∧ (¬ ((nI 40) ≤ x1) → (vp_in x1 40 ∧ (True ∧ Q (some (vI (σ.2.2 2003 (o0 + 109) x1.toNatClampNeg))) σ)))))))))))) :
  T148 C Q 0 [vO 9 o0, vI x1] [] σ := j2_T.go hC [0] 400 h
abbrev T149 (C : j2_C) (Q : j2_P) : j2_K := j2_T C jc_X9_back (some .int) Q
set_option maxRecDepth 100000 in
theorem b149_0 {C : j2_C} (hC : j2_up1 C) {Q : j2_P} {o0 : Nat} {x1 : Int32} {σ : j2_S}
  (h : (((σ.1 2000 (o0 + 109)) = 0 → (True ∧ Q (some (vI (-1 : Int32))) σ)) ∧ (¬ ((σ.1 2000 (o0 + 109)) = 0) → ((x1 < 0 → (True ∧ Q (some (vI (-1 : Int32))) σ)) ∧ (¬ (x1 < 0) → (vp_in (nI 7) 8 ∧ (((σ.2.2 2001 (o0 + 109) (nI 7).toNatClampNeg) ≤ x1 → (True ∧ Q (some (vI (-1 : Int32))) σ)) ∧ (¬ ((σ.2.2 2001 (o0 + 109) (nI 7).toNatClampNeg) ≤ x1) → (((nI 80) ≤ x1 → (True ∧ Q (some (vI (-1 : Int32))) σ)) ∧ (¬ ((nI 80) ≤ x1) → (vp_in x1 80 ∧ (True ∧ Q (some (vI (σ.2.2 2004 (o0 + 109) x1.toNatClampNeg))) σ)))))))))))) :
  T149 C Q 0 [vO 9 o0, vI x1] [] σ := j2_T.go hC [0] 400 h
abbrev T150 (C : j2_C) (Q : j2_P) : j2_K := j2_T C jc_X9_again (some .boolean) Q
set_option maxRecDepth 100000 in
theorem b150_0 {C : j2_C} (hC : j2_up1 C) {Q : j2_P} {o0 : Nat} {p0 : j2_W} {p1 : j2_W} {p2 : j2_W} {p3 : j2_W} {p4 : j2_W} {p5 : j2_W} {p6 : j2_W} {g7 : Nat} {g8 : Nat} {p9 : j2_W} {I : Nat → Nat → Int32} {A : Nat → Nat → Nat → Int32}
  (h : ((¬ (I 9006 o0) = 0 → (((nI 0) = 0 ∨ (nI 0) = 1) ∧ T150 C Q 26 [vO 9 o0, vO 3 g7, vI (nI 0)] [] ((j2_up (j2_up I 9006 o0 (nI 0)) 9007 o0 ((j2_up I 9006 o0 (nI 0)) 8001 ((o0 + 83) + 7))), [p0, p1, p2, p3, p4, p5, p6, vO 3 g8, vO 3 g7, p9], A))) ∧ (¬ (¬ (I 9006 o0) = 0) → (((nI 0) = 0 ∨ (nI 0) = 1) ∧ Q (some (vI (nI 0))) (I, [p0, p1, p2, p3, p4, p5, p6, vO 3 g7, vO 3 g8, p9], A))))) :
  T150 C Q 0 [vO 9 o0, vM 2, vM 2] [] (I, [p0, p1, p2, p3, p4, p5, p6, vO 3 g7, vO 3 g8, p9], A) := j2_T.go hC [0, 26, 47, 52, 63] 400 h
set_option maxRecDepth 100000 in
theorem b150_26 {C : j2_C} (hC : j2_up1 C) {Q : j2_P} {o0 : Nat} {o1 : Nat} {x2 : Int32} {p0 : j2_W} {p1 : j2_W} {p2 : j2_W} {p3 : j2_W} {p4 : j2_W} {p5 : j2_W} {p6 : j2_W} {g7 : Nat} {g8 : Nat} {p9 : j2_W} {I : Nat → Nat → Int32} {A : Nat → Nat → Nat → Int32}
  (h : (((I 9009 o0) ≤ x2 → C 19 [vO 2 (o0 + 109)] (I, [p0, p1, p2, p3, p4, p5, p6, vO 3 g7, vO 3 g8, p9], A) (fun r σ1 => T150 C Q 47 [vO 9 o0, vO 3 o1, vI x2] (r.toList ++ []) σ1)) ∧ (¬ ((I 9009 o0) ≤ x2) → (vp_in x2 6 ∧ (vp_in (A 9008 o0 x2.toNatClampNeg) 80 ∧ (vp_in x2 6 ∧ T150 C Q 26 [vO 9 o0, vO 3 o1, vI (x2 + (nI 1))] [] (I, [p0, p1, p2, p3, p4, p5, p6, vO 3 g7, vO 3 g8, p9], (j2_ast A 9008 o0 x2.toNatClampNeg (A 6002 (o0 + 83) (A 9008 o0 x2.toNatClampNeg).toNatClampNeg))))))))) :
  T150 C Q 26 [vO 9 o0, vO 3 o1, vI x2] [] (I, [p0, p1, p2, p3, p4, p5, p6, vO 3 g7, vO 3 g8, p9], A) := j2_T.go hC [0, 26, 47, 52, 63] 400 h
set_option maxRecDepth 100000 in
theorem b150_47 {C : j2_C} (hC : j2_up1 C) {Q : j2_P} {o0 : Nat} {o1 : Nat} {x2 : Int32} {p0 : j2_W} {p1 : j2_W} {p2 : j2_W} {p3 : j2_W} {p4 : j2_W} {p5 : j2_W} {p6 : j2_W} {g7 : Nat} {g8 : Nat} {p9 : j2_W} {I : Nat → Nat → Int32} {A : Nat → Nat → Nat → Int32}
  (h : T150 C Q 52 [vO 9 o0, vO 3 o1, vI (nI 0)] [] ((j2_up I 9013 o0 (-1 : Int32)), [p0, p1, p2, p3, p4, p5, p6, vO 3 g7, vO 3 g8, p9], A)) :
  T150 C Q 47 [vO 9 o0, vO 3 o1, vI x2] [] (I, [p0, p1, p2, p3, p4, p5, p6, vO 3 g7, vO 3 g8, p9], A) := j2_T.go hC [0, 26, 47, 52, 63] 400 h
set_option maxRecDepth 100000 in
theorem b150_52 {C : j2_C} (hC : j2_up1 C) {Q : j2_P} {o0 : Nat} {o1 : Nat} {x2 : Int32} {p0 : j2_W} {p1 : j2_W} {p2 : j2_W} {p3 : j2_W} {p4 : j2_W} {p5 : j2_W} {p6 : j2_W} {g7 : Nat} {g8 : Nat} {p9 : j2_W} {I : Nat → Nat → Int32} {A : Nat → Nat → Nat → Int32}
  (h : (((I 3001 g7) ≤ x2 → (((nI 1) = 0 ∨ (nI 1) = 1) ∧ Q (some (vI (nI 1))) (I, [p0, p1, p2, p3, p4, p5, p6, vO 3 g7, vO 3 g8, p9], A))) ∧ (¬ ((I 3001 g7) ≤ x2) → C 2 [vO 1 (o0 + 76), vO 3 g7, vI x2] (I, [p0, p1, p2, p3, p4, p5, p6, vO 3 g7, vO 3 g8, p9], A) (fun r σ1 => T150 C Q 63 [vO 9 o0, vO 3 o1, vI x2] (r.toList ++ []) σ1)))) :
  T150 C Q 52 [vO 9 o0, vO 3 o1, vI x2] [] (I, [p0, p1, p2, p3, p4, p5, p6, vO 3 g7, vO 3 g8, p9], A) := j2_T.go hC [0, 26, 47, 52, 63] 400 h
set_option maxRecDepth 100000 in
theorem b150_63 {C : j2_C} (hC : j2_up1 C) {Q : j2_P} {o0 : Nat} {o1 : Nat} {x2 : Int32} {xs0 : Int32} {p0 : j2_W} {p1 : j2_W} {p2 : j2_W} {p3 : j2_W} {p4 : j2_W} {p5 : j2_W} {p6 : j2_W} {g7 : Nat} {g8 : Nat} {p9 : j2_W} {I : Nat → Nat → Int32} {A : Nat → Nat → Nat → Int32}
  (h : T150 C Q 52 [vO 9 o0, vO 3 o1, vI (x2 + (nI 1))] [] (I, [p0, p1, p2, p3, p4, p5, p6, vO 3 g7, vO 3 g8, p9], A)) :
  T150 C Q 63 [vO 9 o0, vO 3 o1, vI x2] [vI xs0] (I, [p0, p1, p2, p3, p4, p5, p6, vO 3 g7, vO 3 g8, p9], A) := j2_T.go hC [0, 26, 47, 52, 63] 400 h
abbrev T151 (C : j2_C) (Q : j2_P) : j2_K := j2_T C jc_X9_isJump (some .boolean) Q
set_option maxRecDepth 100000 in
theorem b151_0 {C : j2_C} (hC : j2_up1 C) {Q : j2_P} {x0 : Int32} {σ : j2_S}
  (h : ((x0 < (nI 11) → (((nI 0) = 0 ∨ (nI 0) = 1) ∧ Q (some (vI (nI 0))) σ)) ∧ (¬ (x0 < (nI 11)) → (((nI 14) < x0 → (((nI 0) = 0 ∨ (nI 0) = 1) ∧ Q (some (vI (nI 0))) σ)) ∧ (¬ ((nI 14) < x0) → (((nI 1) = 0 ∨ (nI 1) = 1) ∧ Q (some (vI (nI 1))) σ)))))) :
  T151 C Q 0 [vI x0] [] σ := j2_T.go hC [0] 400 h
abbrev T152 (C : j2_C) (Q : j2_P) : j2_K := j2_T C jc_X9_goesOn (some .boolean) Q
set_option maxRecDepth 100000 in
theorem b152_0 {C : j2_C} (hC : j2_up1 C) {Q : j2_P} {x0 : Int32} {σ : j2_S}
  (h : ((x0 = (nI 11) → (((nI 0) = 0 ∨ (nI 0) = 1) ∧ Q (some (vI (nI 0))) σ)) ∧ (¬ (x0 = (nI 11)) → ((x0 = (nI 22) → (((nI 0) = 0 ∨ (nI 0) = 1) ∧ Q (some (vI (nI 0))) σ)) ∧ (¬ (x0 = (nI 22)) → ((x0 = (nI 26) → (((nI 0) = 0 ∨ (nI 0) = 1) ∧ Q (some (vI (nI 0))) σ)) ∧ (¬ (x0 = (nI 26)) → (((nI 1) = 0 ∨ (nI 1) = 1) ∧ Q (some (vI (nI 1))) σ)))))))) :
  T152 C Q 0 [vI x0] [] σ := j2_T.go hC [0] 400 h
abbrev T153 (C : j2_C) (Q : j2_P) : j2_K := j2_T C jc_X9_calculate (some .int) Q
set_option maxRecDepth 100000 in
theorem b153_0 {C : j2_C} (hC : j2_up1 C) {Q : j2_P} {x0 : Int32} {x1 : Int32} {x2 : Int32} {σ : j2_S}
  (h : T153 C Q 1 [vI x0, vI x1, vI x2] [vI x0] σ) :
  T153 C Q 0 [vI x0, vI x1, vI x2] [] σ := j2_T.go hC [0, 1, 2, 6, 10, 14, 22] 400 h
set_option maxRecDepth 100000 in
theorem b153_1 {C : j2_C} (hC : j2_up1 C) {Q : j2_P} {x0 : Int32} {x1 : Int32} {x2 : Int32} {xs0 : Int32} {σ : j2_S} (h0 : xs0 = (nI 6) → T153 C Q 2 [vI x0, vI x1, vI x2] [] σ) (h1 : xs0 = (nI 7) → T153 C Q 6 [vI x0, vI x1, vI x2] [] σ) (h2 : xs0 = (nI 8) → T153 C Q 10 [vI x0, vI x1, vI x2] [] σ) (h3 : xs0 = (nI 9) → T153 C Q 14 [vI x0, vI x1, vI x2] [] σ) (hd : (xs0.toInt < 6 ∨ 9 < xs0.toInt) → T153 C Q 22 [vI x0, vI x1, vI x2] [] σ) :
  T153 C Q 1 [vI x0, vI x1, vI x2] [vI xs0] σ := j2_T.tsw hC (d := 22) (lo := 6) (hi := 9) (ts := #[2, 6, 10, 14]) rfl hd (fun g1 g2 => by
  have g : xs0.toInt = 6 ∨ xs0.toInt = 7 ∨ xs0.toInt = 8 ∨ xs0.toInt = 9 := by omega
  rcases g with g | g | g | g
  · rw [g]; exact h0 (Int32.toInt_inj.mp (g.trans (by decide)))
  · rw [g]; exact h1 (Int32.toInt_inj.mp (g.trans (by decide)))
  · rw [g]; exact h2 (Int32.toInt_inj.mp (g.trans (by decide)))
  · rw [g]; exact h3 (Int32.toInt_inj.mp (g.trans (by decide)))
  )
set_option maxRecDepth 100000 in
theorem b153_2 {C : j2_C} (hC : j2_up1 C) {Q : j2_P} {x0 : Int32} {x1 : Int32} {x2 : Int32} {σ : j2_S}
  (h : (True ∧ Q (some (vI (x1 + x2))) σ)) :
  T153 C Q 2 [vI x0, vI x1, vI x2] [] σ := j2_T.go hC [0, 1, 2, 6, 10, 14, 22] 400 h
set_option maxRecDepth 100000 in
theorem b153_6 {C : j2_C} (hC : j2_up1 C) {Q : j2_P} {x0 : Int32} {x1 : Int32} {x2 : Int32} {σ : j2_S}
  (h : (True ∧ Q (some (vI (x1 - x2))) σ)) :
  T153 C Q 6 [vI x0, vI x1, vI x2] [] σ := j2_T.go hC [0, 1, 2, 6, 10, 14, 22] 400 h
set_option maxRecDepth 100000 in
theorem b153_10 {C : j2_C} (hC : j2_up1 C) {Q : j2_P} {x0 : Int32} {x1 : Int32} {x2 : Int32} {σ : j2_S}
  (h : (True ∧ Q (some (vI (x1 * x2))) σ)) :
  T153 C Q 10 [vI x0, vI x1, vI x2] [] σ := j2_T.go hC [0, 1, 2, 6, 10, 14, 22] 400 h
set_option maxRecDepth 100000 in
theorem b153_14 {C : j2_C} (hC : j2_up1 C) {Q : j2_P} {x0 : Int32} {x1 : Int32} {x2 : Int32} {σ : j2_S}
  (h : ((¬ x2 = 0 → (¬ x2 = 0 ∧ (True ∧ Q (some (vI (x1 / x2))) σ))) ∧ (¬ (¬ x2 = 0) → (True ∧ Q (some (vI (nI 0))) σ)))) :
  T153 C Q 14 [vI x0, vI x1, vI x2] [] σ := j2_T.go hC [0, 1, 2, 6, 10, 14, 22] 400 h
set_option maxRecDepth 100000 in
theorem b153_22 {C : j2_C} (hC : j2_up1 C) {Q : j2_P} {x0 : Int32} {x1 : Int32} {x2 : Int32} {σ : j2_S}
  (h : ((¬ x2 = 0 → (¬ x2 = 0 ∧ (True ∧ Q (some (vI (x1 - x1 / x2 * x2))) σ))) ∧ (¬ (¬ x2 = 0) → (True ∧ Q (some (vI (nI 0))) σ)))) :
  T153 C Q 22 [vI x0, vI x1, vI x2] [] σ := j2_T.go hC [0, 1, 2, 6, 10, 14, 22] 400 h
