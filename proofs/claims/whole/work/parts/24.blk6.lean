abbrev T215 (C : j2_C) (Q : j2_P) : j2_K := j2_T C jc_X10_keep none Q
set_option maxRecDepth 100000 in
theorem b215_0 {C : j2_C} (hC : j2_up1 C) {Q : j2_P} {o0 : Nat} {σ : j2_S}
  (h : T215 C Q 2 [vO 10 o0, vI (nI 0), vM 2, vM 2, vM 2] [] σ) :
  T215 C Q 0 [vO 10 o0, vM 2, vM 2, vM 2, vM 2] [] σ := j2_T.go hC [0, 2, 14, 26, 41, 55, 59, 67, 84, 96, 102, 123, 142, 144, 148, 156, 174, 184, 190, 208, 216, 218, 234, 236] 400 h
set_option maxRecDepth 100000 in
theorem b215_2 {C : j2_C} (hC : j2_up1 C) {Q : j2_P} {o0 : Nat} {x1 : Int32} {σ : j2_S}
  (h : (((nI 10) ≤ x1 → T215 C Q 14 [vO 10 o0, vI (nI 0), vM 2, vM 2, vM 2] [] σ) ∧ (¬ ((nI 10) ≤ x1) → (((nI 0) = 0 ∨ (nI 0) = 1) ∧ vp_in x1 10 ∧ T215 C Q 2 [vO 10 o0, vI (x1 + (nI 1)), vM 2, vM 2, vM 2] [] (σ.1, σ.2.1, (j2_ast σ.2.2 10072 o0 x1.toNatClampNeg (nI 0))))))) :
  T215 C Q 2 [vO 10 o0, vI x1, vM 2, vM 2, vM 2] [] σ := j2_T.go hC [0, 2, 14, 26, 41, 55, 59, 67, 84, 96, 102, 123, 142, 144, 148, 156, 174, 184, 190, 208, 216, 218, 234, 236] 400 h
set_option maxRecDepth 100000 in
theorem b215_14 {C : j2_C} (hC : j2_up1 C) {Q : j2_P} {o0 : Nat} {x1 : Int32} {σ : j2_S}
  (h : (((nI 60) ≤ x1 → T215 C Q 26 [vO 10 o0, vI (nI 0), vM 2, vM 2, vM 2] [] σ) ∧ (¬ ((nI 60) ≤ x1) → (((nI 0) = 0 ∨ (nI 0) = 1) ∧ vp_in x1 60 ∧ T215 C Q 14 [vO 10 o0, vI (x1 + (nI 1)), vM 2, vM 2, vM 2] [] (σ.1, σ.2.1, (j2_ast σ.2.2 10073 o0 x1.toNatClampNeg (nI 0))))))) :
  T215 C Q 14 [vO 10 o0, vI x1, vM 2, vM 2, vM 2] [] σ := j2_T.go hC [0, 2, 14, 26, 41, 55, 59, 67, 84, 96, 102, 123, 142, 144, 148, 156, 174, 184, 190, 208, 216, 218, 234, 236] 400 h
set_option maxRecDepth 100000 in
theorem b215_26 {C : j2_C} (hC : j2_up1 C) {Q : j2_P} {o0 : Nat} {x1 : Int32} {σ : j2_S}
  (h : (((nI 80) ≤ x1 → T215 C Q 41 [vO 10 o0, vI (nI 0), vM 2, vM 2, vM 2] [] σ) ∧ (¬ ((nI 80) ≤ x1) → (vp_in x1 80 ∧ (((σ.2.2 10049 o0 x1.toNatClampNeg) = 0 ∨ (σ.2.2 10049 o0 x1.toNatClampNeg) = 1) ∧ vp_in x1 80 ∧ T215 C Q 26 [vO 10 o0, vI (x1 + (nI 1)), vM 2, vM 2, vM 2] [] (σ.1, σ.2.1, (j2_ast σ.2.2 10074 o0 x1.toNatClampNeg (σ.2.2 10049 o0 x1.toNatClampNeg)))))))) :
  T215 C Q 26 [vO 10 o0, vI x1, vM 2, vM 2, vM 2] [] σ := j2_T.go hC [0, 2, 14, 26, 41, 55, 59, 67, 84, 96, 102, 123, 142, 144, 148, 156, 174, 184, 190, 208, 216, 218, 234, 236] 400 h
set_option maxRecDepth 100000 in
theorem b215_41 {C : j2_C} (hC : j2_up1 C) {Q : j2_P} {o0 : Nat} {x1 : Int32} {σ : j2_S}
  (h : (vp_in (nI 0) 3 ∧ (((σ.2.2 10009 o0 (nI 0).toNatClampNeg) ≤ x1 → T215 C Q 59 [vO 10 o0, vI (nI 0), vM 2, vM 2, vM 2] [] σ) ∧ (¬ ((σ.2.2 10009 o0 (nI 0).toNatClampNeg) ≤ x1) → (vp_in x1 10 ∧ (((σ.2.2 10050 o0 x1.toNatClampNeg) = 0 → T215 C Q 55 [vO 10 o0, vI x1, vM 2, vM 2, vM 2] [] σ) ∧ (¬ ((σ.2.2 10050 o0 x1.toNatClampNeg) = 0) → C 213 [vO 10 o0, vI x1] σ (fun r σ1 => T215 C Q 55 [vO 10 o0, vI x1, vM 2, vM 2, vM 2] (r.toList ++ []) σ1)))))))) :
  T215 C Q 41 [vO 10 o0, vI x1, vM 2, vM 2, vM 2] [] σ := j2_T.go hC [0, 2, 14, 26, 41, 55, 59, 67, 84, 96, 102, 123, 142, 144, 148, 156, 174, 184, 190, 208, 216, 218, 234, 236] 400 h
set_option maxRecDepth 100000 in
theorem b215_55 {C : j2_C} (hC : j2_up1 C) {Q : j2_P} {o0 : Nat} {x1 : Int32} {σ : j2_S}
  (h : T215 C Q 41 [vO 10 o0, vI (x1 + (nI 1)), vM 2, vM 2, vM 2] [] σ) :
  T215 C Q 55 [vO 10 o0, vI x1, vM 2, vM 2, vM 2] [] σ := j2_T.go hC [0, 2, 14, 26, 41, 55, 59, 67, 84, 96, 102, 123, 142, 144, 148, 156, 174, 184, 190, 208, 216, 218, 234, 236] 400 h
set_option maxRecDepth 100000 in
theorem b215_59 {C : j2_C} (hC : j2_up1 C) {Q : j2_P} {o0 : Nat} {x1 : Int32} {w2 : j2_W} {w3 : j2_W} {w4 : j2_W} {σ : j2_S}
  (h : (vp_in (nI 0) 3 ∧ (((σ.2.2 10018 o0 (nI 0).toNatClampNeg) ≤ x1 → T215 C Q 148 [vO 10 o0, vI (nI 0), w2, w3, w4] [] σ) ∧ (¬ ((σ.2.2 10018 o0 (nI 0).toNatClampNeg) ≤ x1) → T215 C Q 67 [vO 10 o0, vI x1, vI (nI 0), w3, w4] [] σ)))) :
  T215 C Q 59 [vO 10 o0, vI x1, w2, w3, w4] [] σ := j2_T.go hC [0, 2, 14, 26, 41, 55, 59, 67, 84, 96, 102, 123, 142, 144, 148, 156, 174, 184, 190, 208, 216, 218, 234, 236] 400 h
set_option maxRecDepth 100000 in
theorem b215_67 {C : j2_C} (hC : j2_up1 C) {Q : j2_P} {o0 : Nat} {x1 : Int32} {x2 : Int32} {w3 : j2_W} {w4 : j2_W} {σ : j2_S}
  (h : (vp_in x1 80 ∧ (((σ.2.2 10049 o0 x1.toNatClampNeg) = 0 → T215 C Q 144 [vO 10 o0, vI x1, vI x2, w3, w4] [] σ) ∧ (¬ ((σ.2.2 10049 o0 x1.toNatClampNeg) = 0) → (vp_in ((nI 160) + x1) 240 ∧ (((σ.2.2 10026 o0 ((nI 160) + x1).toNatClampNeg) ≤ x2 → T215 C Q 144 [vO 10 o0, vI x1, vI x2, w3, w4] [] σ) ∧ (¬ ((σ.2.2 10026 o0 ((nI 160) + x1).toNatClampNeg) ≤ x2) → C 160 [vI (nI 2), vI x1, vI x2] σ (fun r σ1 => T215 C Q 84 [vO 10 o0, vI x1, vI x2, w3, w4] (r.toList ++ []) σ1)))))))) :
  T215 C Q 67 [vO 10 o0, vI x1, vI x2, w3, w4] [] σ := j2_T.go hC [0, 2, 14, 26, 41, 55, 59, 67, 84, 96, 102, 123, 142, 144, 148, 156, 174, 184, 190, 208, 216, 218, 234, 236] 400 h
set_option maxRecDepth 100000 in
theorem b215_84 {C : j2_C} (hC : j2_up1 C) {Q : j2_P} {o0 : Nat} {x1 : Int32} {x2 : Int32} {w3 : j2_W} {w4 : j2_W} {xs0 : Int32} {σ : j2_S}
  (h : (vp_in xs0 28800 ∧ (((σ.2.2 10027 o0 xs0.toNatClampNeg) = (nI 24) → T215 C Q 96 [vO 10 o0, vI x1, vI x2, vI xs0, vI (σ.2.2 10027 o0 xs0.toNatClampNeg)] [] σ) ∧ (¬ ((σ.2.2 10027 o0 xs0.toNatClampNeg) = (nI 24)) → ((¬ (σ.2.2 10027 o0 xs0.toNatClampNeg) = (nI 25) → T215 C Q 102 [vO 10 o0, vI x1, vI x2, vI xs0, vI (σ.2.2 10027 o0 xs0.toNatClampNeg)] [] σ) ∧ (¬ (¬ (σ.2.2 10027 o0 xs0.toNatClampNeg) = (nI 25)) → T215 C Q 96 [vO 10 o0, vI x1, vI x2, vI xs0, vI (σ.2.2 10027 o0 xs0.toNatClampNeg)] [] σ)))))) :
  T215 C Q 84 [vO 10 o0, vI x1, vI x2, w3, w4] [vI xs0] σ := j2_T.go hC [0, 2, 14, 26, 41, 55, 59, 67, 84, 96, 102, 123, 142, 144, 148, 156, 174, 184, 190, 208, 216, 218, 234, 236] 400 h
set_option maxRecDepth 100000 in
theorem b215_96 {C : j2_C} (hC : j2_up1 C) {Q : j2_P} {o0 : Nat} {x1 : Int32} {x2 : Int32} {x3 : Int32} {x4 : Int32} {σ : j2_S}
  (h : (vp_in x3 28800 ∧ C 213 [vO 10 o0, vI (σ.2.2 10028 o0 x3.toNatClampNeg)] σ (fun r σ1 => T215 C Q 102 [vO 10 o0, vI x1, vI x2, vI x3, vI x4] (r.toList ++ []) σ1))) :
  T215 C Q 96 [vO 10 o0, vI x1, vI x2, vI x3, vI x4] [] σ := j2_T.go hC [0, 2, 14, 26, 41, 55, 59, 67, 84, 96, 102, 123, 142, 144, 148, 156, 174, 184, 190, 208, 216, 218, 234, 236] 400 h
set_option maxRecDepth 100000 in
theorem b215_102 {C : j2_C} (hC : j2_up1 C) {Q : j2_P} {o0 : Nat} {x1 : Int32} {x2 : Int32} {x3 : Int32} {x4 : Int32} {σ : j2_S}
  (h : ((x4 < (nI 16) → T215 C Q 123 [vO 10 o0, vI x1, vI x2, vI x3, vI x4] [] σ) ∧ (¬ (x4 < (nI 16)) → (((nI 19) < x4 → T215 C Q 123 [vO 10 o0, vI x1, vI x2, vI x3, vI x4] [] σ) ∧ (¬ ((nI 19) < x4) → (vp_in x3 28800 ∧ (vp_in x3 28800 ∧ (((nI 1) = 0 ∨ (nI 1) = 1) ∧ vp_in (((nI 6) * (σ.2.2 10028 o0 x3.toNatClampNeg)) + (σ.2.2 10029 o0 x3.toNatClampNeg)) 60 ∧ T215 C Q 123 [vO 10 o0, vI x1, vI x2, vI x3, vI x4] [] (σ.1, σ.2.1, (j2_ast σ.2.2 10073 o0 (((nI 6) * (σ.2.2 10028 o0 x3.toNatClampNeg)) + (σ.2.2 10029 o0 x3.toNatClampNeg)).toNatClampNeg (nI 1))))))))))) :
  T215 C Q 102 [vO 10 o0, vI x1, vI x2, vI x3, vI x4] [] σ := j2_T.go hC [0, 2, 14, 26, 41, 55, 59, 67, 84, 96, 102, 123, 142, 144, 148, 156, 174, 184, 190, 208, 216, 218, 234, 236] 400 h
set_option maxRecDepth 100000 in
theorem b215_123 {C : j2_C} (hC : j2_up1 C) {Q : j2_P} {o0 : Nat} {x1 : Int32} {x2 : Int32} {x3 : Int32} {x4 : Int32} {σ : j2_S}
  (h : ((¬ x4 = (nI 21) → T215 C Q 142 [vO 10 o0, vI x1, vI x2, vI x3, vI x4] [] σ) ∧ (¬ (¬ x4 = (nI 21)) → (vp_in x3 28800 ∧ (vp_in (σ.2.2 10028 o0 x3.toNatClampNeg) 30 ∧ (vp_in x3 28800 ∧ (((nI 1) = 0 ∨ (nI 1) = 1) ∧ vp_in ((σ.2.2 10013 o0 (σ.2.2 10028 o0 x3.toNatClampNeg).toNatClampNeg) + (σ.2.2 10029 o0 x3.toNatClampNeg)) 80 ∧ T215 C Q 142 [vO 10 o0, vI x1, vI x2, vI x3, vI x4] [] (σ.1, σ.2.1, (j2_ast σ.2.2 10074 o0 ((σ.2.2 10013 o0 (σ.2.2 10028 o0 x3.toNatClampNeg).toNatClampNeg) + (σ.2.2 10029 o0 x3.toNatClampNeg)).toNatClampNeg (nI 1)))))))))) :
  T215 C Q 123 [vO 10 o0, vI x1, vI x2, vI x3, vI x4] [] σ := j2_T.go hC [0, 2, 14, 26, 41, 55, 59, 67, 84, 96, 102, 123, 142, 144, 148, 156, 174, 184, 190, 208, 216, 218, 234, 236] 400 h
set_option maxRecDepth 100000 in
theorem b215_142 {C : j2_C} (hC : j2_up1 C) {Q : j2_P} {o0 : Nat} {x1 : Int32} {x2 : Int32} {x3 : Int32} {x4 : Int32} {σ : j2_S}
  (h : T215 C Q 67 [vO 10 o0, vI x1, vI (x2 + (nI 1)), vI x3, vI x4] [] σ) :
  T215 C Q 142 [vO 10 o0, vI x1, vI x2, vI x3, vI x4] [] σ := j2_T.go hC [0, 2, 14, 26, 41, 55, 59, 67, 84, 96, 102, 123, 142, 144, 148, 156, 174, 184, 190, 208, 216, 218, 234, 236] 400 h
set_option maxRecDepth 100000 in
theorem b215_144 {C : j2_C} (hC : j2_up1 C) {Q : j2_P} {o0 : Nat} {x1 : Int32} {x2 : Int32} {w3 : j2_W} {w4 : j2_W} {σ : j2_S}
  (h : T215 C Q 59 [vO 10 o0, vI (x1 + (nI 1)), vI x2, w3, w4] [] σ) :
  T215 C Q 144 [vO 10 o0, vI x1, vI x2, w3, w4] [] σ := j2_T.go hC [0, 2, 14, 26, 41, 55, 59, 67, 84, 96, 102, 123, 142, 144, 148, 156, 174, 184, 190, 208, 216, 218, 234, 236] 400 h
set_option maxRecDepth 100000 in
theorem b215_148 {C : j2_C} (hC : j2_up1 C) {Q : j2_P} {o0 : Nat} {x1 : Int32} {w2 : j2_W} {w3 : j2_W} {w4 : j2_W} {σ : j2_S}
  (h : (vp_in (nI 0) 3 ∧ (((σ.2.2 10009 o0 (nI 0).toNatClampNeg) ≤ x1 → T215 C Q 190 [vO 10 o0, vI (nI 0), w2, w3, w4] [] σ) ∧ (¬ ((σ.2.2 10009 o0 (nI 0).toNatClampNeg) ≤ x1) → T215 C Q 156 [vO 10 o0, vI x1, vI (nI 0), w3, w4] [] σ)))) :
  T215 C Q 148 [vO 10 o0, vI x1, w2, w3, w4] [] σ := j2_T.go hC [0, 2, 14, 26, 41, 55, 59, 67, 84, 96, 102, 123, 142, 144, 148, 156, 174, 184, 190, 208, 216, 218, 234, 236] 400 h
set_option maxRecDepth 100000 in
theorem b215_156 {C : j2_C} (hC : j2_up1 C) {Q : j2_P} {o0 : Nat} {x1 : Int32} {x2 : Int32} {w3 : j2_W} {w4 : j2_W} {σ : j2_S}
  (h : (vp_in x1 30 ∧ (((σ.2.2 10012 o0 x1.toNatClampNeg) ≤ x2 → T215 C Q 148 [vO 10 o0, vI (x1 + (nI 1)), vI x2, w3, w4] [] σ) ∧ (¬ ((σ.2.2 10012 o0 x1.toNatClampNeg) ≤ x2) → (vp_in (((nI 6) * x1) + x2) 60 ∧ (((σ.2.2 10073 o0 (((nI 6) * x1) + x2).toNatClampNeg) = 0 → T215 C Q 184 [vO 10 o0, vI x1, vI x2, w3, w4] [] σ) ∧ (¬ ((σ.2.2 10073 o0 (((nI 6) * x1) + x2).toNatClampNeg) = 0) → C 213 [vO 10 o0, vI x1] σ (fun r σ1 => T215 C Q 174 [vO 10 o0, vI x1, vI x2, w3, w4] (r.toList ++ []) σ1)))))))) :
  T215 C Q 156 [vO 10 o0, vI x1, vI x2, w3, w4] [] σ := j2_T.go hC [0, 2, 14, 26, 41, 55, 59, 67, 84, 96, 102, 123, 142, 144, 148, 156, 174, 184, 190, 208, 216, 218, 234, 236] 400 h
set_option maxRecDepth 100000 in
theorem b215_174 {C : j2_C} (hC : j2_up1 C) {Q : j2_P} {o0 : Nat} {x1 : Int32} {x2 : Int32} {w3 : j2_W} {w4 : j2_W} {σ : j2_S}
  (h : (vp_in (((nI 6) * x1) + x2) 180 ∧ C 214 [vO 10 o0, vI (σ.2.2 10016 o0 (((nI 6) * x1) + x2).toNatClampNeg)] σ (fun r σ1 => T215 C Q 184 [vO 10 o0, vI x1, vI x2, w3, w4] (r.toList ++ []) σ1))) :
  T215 C Q 174 [vO 10 o0, vI x1, vI x2, w3, w4] [] σ := j2_T.go hC [0, 2, 14, 26, 41, 55, 59, 67, 84, 96, 102, 123, 142, 144, 148, 156, 174, 184, 190, 208, 216, 218, 234, 236] 400 h
set_option maxRecDepth 100000 in
theorem b215_184 {C : j2_C} (hC : j2_up1 C) {Q : j2_P} {o0 : Nat} {x1 : Int32} {x2 : Int32} {w3 : j2_W} {w4 : j2_W} {σ : j2_S}
  (h : T215 C Q 156 [vO 10 o0, vI x1, vI (x2 + (nI 1)), w3, w4] [] σ) :
  T215 C Q 184 [vO 10 o0, vI x1, vI x2, w3, w4] [] σ := j2_T.go hC [0, 2, 14, 26, 41, 55, 59, 67, 84, 96, 102, 123, 142, 144, 148, 156, 174, 184, 190, 208, 216, 218, 234, 236] 400 h
set_option maxRecDepth 100000 in
theorem b215_190 {C : j2_C} (hC : j2_up1 C) {Q : j2_P} {o0 : Nat} {x1 : Int32} {w2 : j2_W} {w3 : j2_W} {w4 : j2_W} {σ : j2_S}
  (h : (vp_in (nI 0) 3 ∧ (((σ.2.2 10018 o0 (nI 0).toNatClampNeg) ≤ x1 → ((none : Option FieldType) = none ∧ Q none σ)) ∧ (¬ ((σ.2.2 10018 o0 (nI 0).toNatClampNeg) ≤ x1) → (vp_in x1 80 ∧ ((¬ (σ.2.2 10074 o0 x1.toNatClampNeg) = 0 → (vp_in x1 240 ∧ C 213 [vO 10 o0, vI (σ.2.2 10019 o0 x1.toNatClampNeg)] σ (fun r σ1 => T215 C Q 208 [vO 10 o0, vI x1, w2, w3, w4] (r.toList ++ []) σ1))) ∧ (¬ (¬ (σ.2.2 10074 o0 x1.toNatClampNeg) = 0) → T215 C Q 236 [vO 10 o0, vI x1, w2, w3, w4] [] σ))))))) :
  T215 C Q 190 [vO 10 o0, vI x1, w2, w3, w4] [] σ := j2_T.go hC [0, 2, 14, 26, 41, 55, 59, 67, 84, 96, 102, 123, 142, 144, 148, 156, 174, 184, 190, 208, 216, 218, 234, 236] 400 h
set_option maxRecDepth 100000 in
theorem b215_208 {C : j2_C} (hC : j2_up1 C) {Q : j2_P} {o0 : Nat} {x1 : Int32} {w2 : j2_W} {w3 : j2_W} {w4 : j2_W} {σ : j2_S}
  (h : (vp_in x1 240 ∧ C 214 [vO 10 o0, vI ((σ.2.2 10022 o0 x1.toNatClampNeg) - (nI 1))] σ (fun r σ1 => T215 C Q 216 [vO 10 o0, vI x1, w2, w3, w4] (r.toList ++ []) σ1))) :
  T215 C Q 208 [vO 10 o0, vI x1, w2, w3, w4] [] σ := j2_T.go hC [0, 2, 14, 26, 41, 55, 59, 67, 84, 96, 102, 123, 142, 144, 148, 156, 174, 184, 190, 208, 216, 218, 234, 236] 400 h
set_option maxRecDepth 100000 in
theorem b215_216 {C : j2_C} (hC : j2_up1 C) {Q : j2_P} {o0 : Nat} {x1 : Int32} {w2 : j2_W} {w3 : j2_W} {w4 : j2_W} {σ : j2_S}
  (h : T215 C Q 218 [vO 10 o0, vI x1, vI (nI 0), w3, w4] [] σ) :
  T215 C Q 216 [vO 10 o0, vI x1, w2, w3, w4] [] σ := j2_T.go hC [0, 2, 14, 26, 41, 55, 59, 67, 84, 96, 102, 123, 142, 144, 148, 156, 174, 184, 190, 208, 216, 218, 234, 236] 400 h
set_option maxRecDepth 100000 in
theorem b215_218 {C : j2_C} (hC : j2_up1 C) {Q : j2_P} {o0 : Nat} {x1 : Int32} {x2 : Int32} {w3 : j2_W} {w4 : j2_W} {σ : j2_S}
  (h : (vp_in x1 240 ∧ (((σ.2.2 10023 o0 x1.toNatClampNeg) ≤ x2 → T215 C Q 236 [vO 10 o0, vI x1, vI x2, w3, w4] [] σ) ∧ (¬ ((σ.2.2 10023 o0 x1.toNatClampNeg) ≤ x2) → (vp_in (((nI 3) * x1) + x2) 720 ∧ C 214 [vO 10 o0, vI (σ.2.2 10024 o0 (((nI 3) * x1) + x2).toNatClampNeg)] σ (fun r σ1 => T215 C Q 234 [vO 10 o0, vI x1, vI x2, w3, w4] (r.toList ++ []) σ1)))))) :
  T215 C Q 218 [vO 10 o0, vI x1, vI x2, w3, w4] [] σ := j2_T.go hC [0, 2, 14, 26, 41, 55, 59, 67, 84, 96, 102, 123, 142, 144, 148, 156, 174, 184, 190, 208, 216, 218, 234, 236] 400 h
set_option maxRecDepth 100000 in
theorem b215_234 {C : j2_C} (hC : j2_up1 C) {Q : j2_P} {o0 : Nat} {x1 : Int32} {x2 : Int32} {w3 : j2_W} {w4 : j2_W} {σ : j2_S}
  (h : T215 C Q 218 [vO 10 o0, vI x1, vI (x2 + (nI 1)), w3, w4] [] σ) :
  T215 C Q 234 [vO 10 o0, vI x1, vI x2, w3, w4] [] σ := j2_T.go hC [0, 2, 14, 26, 41, 55, 59, 67, 84, 96, 102, 123, 142, 144, 148, 156, 174, 184, 190, 208, 216, 218, 234, 236] 400 h
set_option maxRecDepth 100000 in
theorem b215_236 {C : j2_C} (hC : j2_up1 C) {Q : j2_P} {o0 : Nat} {x1 : Int32} {w2 : j2_W} {w3 : j2_W} {w4 : j2_W} {σ : j2_S}
  (h : T215 C Q 190 [vO 10 o0, vI (x1 + (nI 1)), w2, w3, w4] [] σ) :
  T215 C Q 236 [vO 10 o0, vI x1, w2, w3, w4] [] σ := j2_T.go hC [0, 2, 14, 26, 41, 55, 59, 67, 84, 96, 102, 123, 142, 144, 148, 156, 174, 184, 190, 208, 216, 218, 234, 236] 400 h
abbrev T216 (C : j2_C) (Q : j2_P) : j2_K := j2_T C jc_X10_typeNow (some .int) Q
set_option maxRecDepth 100000 in
theorem b216_0 {C : j2_C} (hC : j2_up1 C) {Q : j2_P} {o0 : Nat} {x1 : Int32} {σ : j2_S}
  (h : ((¬ x1 = 0 → (vp_in (x1 - (nI 1)) 10 ∧ (True ∧ Q (some (vI ((nI 1) + (σ.2.2 10069 o0 (x1 - (nI 1)).toNatClampNeg)))) σ))) ∧ (¬ (¬ x1 = 0) → (True ∧ Q (some (vI (nI 0))) σ)))) :
  T216 C Q 0 [vO 10 o0, vI x1] [] σ := j2_T.go hC [0] 400 h
abbrev T217 (C : j2_C) (Q : j2_P) : j2_K := j2_T C jc_X10_number none Q
set_option maxRecDepth 100000 in
theorem b217_0 {C : j2_C} (hC : j2_up1 C) {Q : j2_P} {o0 : Nat} {σ : j2_S}
  (h : (vp_in (nI 1) 3 ∧ (vp_in (nI 1) 3 ∧ T217 C Q 12 [vO 10 o0, vI (nI 0), vM 2, vM 2, vM 2, vM 2, vM 2] [] (σ.1, σ.2.1, (j2_ast (j2_ast σ.2.2 10009 o0 (nI 1).toNatClampNeg (nI 0)) 10018 o0 (nI 1).toNatClampNeg (nI 0)))))) :
  T217 C Q 0 [vO 10 o0, vM 2, vM 2, vM 2, vM 2, vM 2, vM 2] [] σ := j2_T.go hC [0, 12, 32, 46, 52, 71, 96, 138, 152, 156, 180, 196, 197, 232, 259] 400 h
set_option maxRecDepth 100000 in
theorem b217_12 {C : j2_C} (hC : j2_up1 C) {Q : j2_P} {o0 : Nat} {x1 : Int32} {σ : j2_S}
  (h : (vp_in (nI 0) 3 ∧ (((σ.2.2 10009 o0 (nI 0).toNatClampNeg) ≤ x1 → T217 C Q 52 [vO 10 o0, vI (nI 0), vM 2, vM 2, vM 2, vM 2, vM 2] [] σ) ∧ (¬ ((σ.2.2 10009 o0 (nI 0).toNatClampNeg) ≤ x1) → (vp_in x1 10 ∧ (((σ.2.2 10072 o0 x1.toNatClampNeg) = 0 → T217 C Q 32 [vO 10 o0, vI x1, vM 2, vM 2, vM 2, vM 2, vM 2] [vI (-1 : Int32), vI x1, vA 10069 o0] σ) ∧ (¬ ((σ.2.2 10072 o0 x1.toNatClampNeg) = 0) → (vp_in (nI 1) 3 ∧ T217 C Q 32 [vO 10 o0, vI x1, vM 2, vM 2, vM 2, vM 2, vM 2] [vI (σ.2.2 10009 o0 (nI 1).toNatClampNeg), vI x1, vA 10069 o0] σ)))))))) :
  T217 C Q 12 [vO 10 o0, vI x1, vM 2, vM 2, vM 2, vM 2, vM 2] [] σ := j2_T.go hC [0, 12, 32, 46, 52, 71, 96, 138, 152, 156, 180, 196, 197, 232, 259] 400 h
set_option maxRecDepth 100000 in
theorem b217_32 {C : j2_C} (hC : j2_up1 C) {Q : j2_P} {o0 : Nat} {x1 : Int32} {xs0 : Int32} {xs1 : Int32} {os2 : Nat} {σ : j2_S}
  (h : (vp_in xs1 10 ∧ (vp_in (nI 1) 3 ∧ (vp_in x1 10 ∧ ((((j2_ast σ.2.2 10069 os2 xs1.toNatClampNeg xs0) 10072 o0 x1.toNatClampNeg) = 0 → T217 C Q 46 [vO 10 o0, vI x1, vM 2, vM 2, vM 2, vM 2, vM 2] [vI (nI 0), vI ((j2_ast σ.2.2 10069 os2 xs1.toNatClampNeg xs0) 10009 o0 (nI 1).toNatClampNeg), vI (nI 1), vA 10009 o0] (σ.1, σ.2.1, (j2_ast σ.2.2 10069 os2 xs1.toNatClampNeg xs0))) ∧ (¬ (((j2_ast σ.2.2 10069 os2 xs1.toNatClampNeg xs0) 10072 o0 x1.toNatClampNeg) = 0) → T217 C Q 46 [vO 10 o0, vI x1, vM 2, vM 2, vM 2, vM 2, vM 2] [vI (nI 1), vI ((j2_ast σ.2.2 10069 os2 xs1.toNatClampNeg xs0) 10009 o0 (nI 1).toNatClampNeg), vI (nI 1), vA 10009 o0] (σ.1, σ.2.1, (j2_ast σ.2.2 10069 os2 xs1.toNatClampNeg xs0)))))))) :
  T217 C Q 32 [vO 10 o0, vI x1, vM 2, vM 2, vM 2, vM 2, vM 2] [vI xs0, vI xs1, vA 10069 os2] σ := j2_T.go hC [0, 12, 32, 46, 52, 71, 96, 138, 152, 156, 180, 196, 197, 232, 259] 400 h
set_option maxRecDepth 100000 in
theorem b217_46 {C : j2_C} (hC : j2_up1 C) {Q : j2_P} {o0 : Nat} {x1 : Int32} {xs0 : Int32} {xs1 : Int32} {xs2 : Int32} {os3 : Nat} {σ : j2_S}
  (h : (vp_in xs2 3 ∧ T217 C Q 12 [vO 10 o0, vI (x1 + (nI 1)), vM 2, vM 2, vM 2, vM 2, vM 2] [] (σ.1, σ.2.1, (j2_ast σ.2.2 10009 os3 xs2.toNatClampNeg (xs1 + xs0))))) :
  T217 C Q 46 [vO 10 o0, vI x1, vM 2, vM 2, vM 2, vM 2, vM 2] [vI xs0, vI xs1, vI xs2, vA 10009 os3] σ := j2_T.go hC [0, 12, 32, 46, 52, 71, 96, 138, 152, 156, 180, 196, 197, 232, 259] 400 h
set_option maxRecDepth 100000 in
theorem b217_52 {C : j2_C} (hC : j2_up1 C) {Q : j2_P} {o0 : Nat} {x1 : Int32} {w2 : j2_W} {w3 : j2_W} {w4 : j2_W} {w5 : j2_W} {w6 : j2_W} {σ : j2_S}
  (h : (vp_in (nI 0) 3 ∧ (((σ.2.2 10009 o0 (nI 0).toNatClampNeg) ≤ x1 → ((none : Option FieldType) = none ∧ Q none σ)) ∧ (¬ ((σ.2.2 10009 o0 (nI 0).toNatClampNeg) ≤ x1) → (vp_in x1 10 ∧ T217 C Q 71 [vO 10 o0, vI x1, vI ((nI 10) + (σ.2.2 10069 o0 x1.toNatClampNeg)), vI (nI 0), vI (nI 0), vI (nI 0), w6] [] σ))))) :
  T217 C Q 52 [vO 10 o0, vI x1, w2, w3, w4, w5, w6] [] σ := j2_T.go hC [0, 12, 32, 46, 52, 71, 96, 138, 152, 156, 180, 196, 197, 232, 259] 400 h
set_option maxRecDepth 100000 in
theorem b217_71 {C : j2_C} (hC : j2_up1 C) {Q : j2_P} {o0 : Nat} {x1 : Int32} {x2 : Int32} {x3 : Int32} {x4 : Int32} {x5 : Int32} {w6 : j2_W} {σ : j2_S}
  (h : (vp_in x1 30 ∧ (((σ.2.2 10012 o0 x1.toNatClampNeg) ≤ x5 → T217 C Q 156 [vO 10 o0, vI x1, vI x2, vI x3, vI x4, vI (nI 0), w6] [] σ) ∧ (¬ ((σ.2.2 10012 o0 x1.toNatClampNeg) ≤ x5) → (vp_in (((nI 6) * x1) + x5) 60 ∧ (((σ.2.2 10073 o0 (((nI 6) * x1) + x5).toNatClampNeg) = 0 → T217 C Q 96 [vO 10 o0, vI x1, vI x2, vI x3, vI x4, vI x5, w6] [vI (-1 : Int32), vI (((nI 6) * x1) + x5), vA 10070 o0] σ) ∧ (¬ ((σ.2.2 10073 o0 (((nI 6) * x1) + x5).toNatClampNeg) = 0) → T217 C Q 96 [vO 10 o0, vI x1, vI x2, vI x3, vI x4, vI x5, w6] [vI x3, vI (((nI 6) * x1) + x5), vA 10070 o0] σ))))))) :
  T217 C Q 71 [vO 10 o0, vI x1, vI x2, vI x3, vI x4, vI x5, w6] [] σ := j2_T.go hC [0, 12, 32, 46, 52, 71, 96, 138, 152, 156, 180, 196, 197, 232, 259] 400 h
set_option maxRecDepth 100000 in
theorem b217_96 {C : j2_C} (hC : j2_up1 C) {Q : j2_P} {o0 : Nat} {x1 : Int32} {x2 : Int32} {x3 : Int32} {x4 : Int32} {x5 : Int32} {w6 : j2_W} {xs0 : Int32} {xs1 : Int32} {os2 : Nat} {σ : j2_S}
  (h : (vp_in xs1 60 ∧ (vp_in (((nI 6) * x1) + x5) 60 ∧ ((¬ ((j2_ast σ.2.2 10070 os2 xs1.toNatClampNeg xs0) 10073 o0 (((nI 6) * x1) + x5).toNatClampNeg) = 0 → (vp_in x1 10 ∧ (vp_in (((nI 60) + ((nI 6) * ((j2_ast σ.2.2 10070 os2 xs1.toNatClampNeg xs0) 10069 o0 x1.toNatClampNeg))) + x3) 180 ∧ (vp_in (((nI 6) * x1) + x5) 180 ∧ C 216 [vO 10 o0, vI ((j2_ast (j2_ast σ.2.2 10070 os2 xs1.toNatClampNeg xs0) 10015 o0 (((nI 60) + ((nI 6) * ((j2_ast σ.2.2 10070 os2 xs1.toNatClampNeg xs0) 10069 o0 x1.toNatClampNeg))) + x3).toNatClampNeg (x3 + (nI 1))) 10016 o0 (((nI 6) * x1) + x5).toNatClampNeg)] (σ.1, σ.2.1, (j2_ast (j2_ast σ.2.2 10070 os2 xs1.toNatClampNeg xs0) 10015 o0 (((nI 60) + ((nI 6) * ((j2_ast σ.2.2 10070 os2 xs1.toNatClampNeg xs0) 10069 o0 x1.toNatClampNeg))) + x3).toNatClampNeg (x3 + (nI 1)))) (fun r σ1 => T217 C Q 138 [vO 10 o0, vI x1, vI x2, vI x3, vI x4, vI x5, vI (((nI 60) + ((nI 6) * ((j2_ast σ.2.2 10070 os2 xs1.toNatClampNeg xs0) 10069 o0 x1.toNatClampNeg))) + x3)] (r.toList ++ [vI (((nI 60) + ((nI 6) * ((j2_ast σ.2.2 10070 os2 xs1.toNatClampNeg xs0) 10069 o0 x1.toNatClampNeg))) + x3), vA 10016 o0]) σ1))))) ∧ (¬ (¬ ((j2_ast σ.2.2 10070 os2 xs1.toNatClampNeg xs0) 10073 o0 (((nI 6) * x1) + x5).toNatClampNeg) = 0) → T217 C Q 152 [vO 10 o0, vI x1, vI x2, vI x3, vI x4, vI x5, w6] [] (σ.1, σ.2.1, (j2_ast σ.2.2 10070 os2 xs1.toNatClampNeg xs0))))))) :
  T217 C Q 96 [vO 10 o0, vI x1, vI x2, vI x3, vI x4, vI x5, w6] [vI xs0, vI xs1, vA 10070 os2] σ := j2_T.go hC [0, 12, 32, 46, 52, 71, 96, 138, 152, 156, 180, 196, 197, 232, 259] 400 h
set_option maxRecDepth 100000 in
theorem b217_138 {C : j2_C} (hC : j2_up1 C) {Q : j2_P} {o0 : Nat} {x1 : Int32} {x2 : Int32} {x3 : Int32} {x4 : Int32} {x5 : Int32} {x6 : Int32} {xs0 : Int32} {xs1 : Int32} {os2 : Nat} {σ : j2_S}
  (h : (vp_in xs1 180 ∧ (vp_in (((nI 6) * x1) + x5) 180 ∧ (vp_in x6 180 ∧ T217 C Q 152 [vO 10 o0, vI x1, vI x2, vI (x3 + (nI 1)), vI x4, vI x5, vI x6] [] (σ.1, σ.2.1, (j2_ast (j2_ast σ.2.2 10016 os2 xs1.toNatClampNeg xs0) 10017 o0 x6.toNatClampNeg ((j2_ast σ.2.2 10016 os2 xs1.toNatClampNeg xs0) 10017 o0 (((nI 6) * x1) + x5).toNatClampNeg))))))) :
  T217 C Q 138 [vO 10 o0, vI x1, vI x2, vI x3, vI x4, vI x5, vI x6] [vI xs0, vI xs1, vA 10016 os2] σ := j2_T.go hC [0, 12, 32, 46, 52, 71, 96, 138, 152, 156, 180, 196, 197, 232, 259] 400 h
set_option maxRecDepth 100000 in
theorem b217_152 {C : j2_C} (hC : j2_up1 C) {Q : j2_P} {o0 : Nat} {x1 : Int32} {x2 : Int32} {x3 : Int32} {x4 : Int32} {x5 : Int32} {w6 : j2_W} {σ : j2_S}
  (h : T217 C Q 71 [vO 10 o0, vI x1, vI x2, vI x3, vI x4, vI (x5 + (nI 1)), w6] [] σ) :
  T217 C Q 152 [vO 10 o0, vI x1, vI x2, vI x3, vI x4, vI x5, w6] [] σ := j2_T.go hC [0, 12, 32, 46, 52, 71, 96, 138, 152, 156, 180, 196, 197, 232, 259] 400 h
set_option maxRecDepth 100000 in
theorem b217_156 {C : j2_C} (hC : j2_up1 C) {Q : j2_P} {o0 : Nat} {x1 : Int32} {x2 : Int32} {x3 : Int32} {x4 : Int32} {x5 : Int32} {w6 : j2_W} {σ : j2_S}
  (h : (vp_in x1 30 ∧ (((σ.2.2 10014 o0 x1.toNatClampNeg) ≤ x5 → (vp_in x1 10 ∧ ((¬ (σ.2.2 10072 o0 x1.toNatClampNeg) = 0 → (vp_in x1 10 ∧ (vp_in x2 30 ∧ (vp_in x1 30 ∧ ((0 ≤ ((j2_ast σ.2.2 10010 o0 x2.toNatClampNeg ((σ.2.2 10069 o0 x1.toNatClampNeg) + (nI 1))) 10011 o0 x1.toNatClampNeg) → (vp_in x1 30 ∧ (vp_in ((j2_ast σ.2.2 10010 o0 x2.toNatClampNeg ((σ.2.2 10069 o0 x1.toNatClampNeg) + (nI 1))) 10011 o0 x1.toNatClampNeg) 10 ∧ T217 C Q 232 [vO 10 o0, vI x1, vI x2, vI x3, vI x4, vI x5, w6] [vI ((j2_ast σ.2.2 10010 o0 x2.toNatClampNeg ((σ.2.2 10069 o0 x1.toNatClampNeg) + (nI 1))) 10069 o0 ((j2_ast σ.2.2 10010 o0 x2.toNatClampNeg ((σ.2.2 10069 o0 x1.toNatClampNeg) + (nI 1))) 10011 o0 x1.toNatClampNeg).toNatClampNeg), vI x2, vA 10011 o0] (σ.1, σ.2.1, (j2_ast σ.2.2 10010 o0 x2.toNatClampNeg ((σ.2.2 10069 o0 x1.toNatClampNeg) + (nI 1))))))) ∧ (¬ (0 ≤ ((j2_ast σ.2.2 10010 o0 x2.toNatClampNeg ((σ.2.2 10069 o0 x1.toNatClampNeg) + (nI 1))) 10011 o0 x1.toNatClampNeg)) → T217 C Q 232 [vO 10 o0, vI x1, vI x2, vI x3, vI x4, vI x5, w6] [vI (-1 : Int32), vI x2, vA 10011 o0] (σ.1, σ.2.1, (j2_ast σ.2.2 10010 o0 x2.toNatClampNeg ((σ.2.2 10069 o0 x1.toNatClampNeg) + (nI 1)))))))))) ∧ (¬ (¬ (σ.2.2 10072 o0 x1.toNatClampNeg) = 0) → T217 C Q 259 [vO 10 o0, vI x1, vI x2, vI x3, vI x4, vI x5, w6] [] σ)))) ∧ (¬ ((σ.2.2 10014 o0 x1.toNatClampNeg) ≤ x5) → (vp_in x1 30 ∧ (vp_in ((σ.2.2 10013 o0 x1.toNatClampNeg) + x5) 80 ∧ (((σ.2.2 10074 o0 ((σ.2.2 10013 o0 x1.toNatClampNeg) + x5).toNatClampNeg) = 0 → T217 C Q 180 [vO 10 o0, vI x1, vI x2, vI x3, vI x4, vI x5, vI ((σ.2.2 10013 o0 x1.toNatClampNeg) + x5)] [vI (-1 : Int32), vI ((σ.2.2 10013 o0 x1.toNatClampNeg) + x5), vA 10071 o0] σ) ∧ (¬ ((σ.2.2 10074 o0 ((σ.2.2 10013 o0 x1.toNatClampNeg) + x5).toNatClampNeg) = 0) → T217 C Q 180 [vO 10 o0, vI x1, vI x2, vI x3, vI x4, vI x5, vI ((σ.2.2 10013 o0 x1.toNatClampNeg) + x5)] [vI x4, vI ((σ.2.2 10013 o0 x1.toNatClampNeg) + x5), vA 10071 o0] σ)))))))) :
  T217 C Q 156 [vO 10 o0, vI x1, vI x2, vI x3, vI x4, vI x5, w6] [] σ := j2_T.go hC [0, 12, 32, 46, 52, 71, 96, 138, 152, 156, 180, 196, 197, 232, 259] 400 h
set_option maxRecDepth 100000 in
theorem b217_180 {C : j2_C} (hC : j2_up1 C) {Q : j2_P} {o0 : Nat} {x1 : Int32} {x2 : Int32} {x3 : Int32} {x4 : Int32} {x5 : Int32} {x6 : Int32} {xs0 : Int32} {xs1 : Int32} {os2 : Nat} {σ : j2_S}
  (h : (vp_in xs1 80 ∧ (vp_in x6 80 ∧ ((¬ ((j2_ast σ.2.2 10071 os2 xs1.toNatClampNeg xs0) 10074 o0 x6.toNatClampNeg) = 0 → (vp_in (nI 1) 3 ∧ C 218 [vO 10 o0, vI x6, vI (((j2_ast σ.2.2 10071 os2 xs1.toNatClampNeg xs0) 10018 o0 (nI 1).toNatClampNeg) + x4)] (σ.1, σ.2.1, (j2_ast σ.2.2 10071 os2 xs1.toNatClampNeg xs0)) (fun r σ1 => T217 C Q 196 [vO 10 o0, vI x1, vI x2, vI x3, vI x4, vI x5, vI x6] (r.toList ++ []) σ1))) ∧ (¬ (¬ ((j2_ast σ.2.2 10071 os2 xs1.toNatClampNeg xs0) 10074 o0 x6.toNatClampNeg) = 0) → T217 C Q 197 [vO 10 o0, vI x1, vI x2, vI x3, vI x4, vI x5, vI x6] [] (σ.1, σ.2.1, (j2_ast σ.2.2 10071 os2 xs1.toNatClampNeg xs0))))))) :
  T217 C Q 180 [vO 10 o0, vI x1, vI x2, vI x3, vI x4, vI x5, vI x6] [vI xs0, vI xs1, vA 10071 os2] σ := j2_T.go hC [0, 12, 32, 46, 52, 71, 96, 138, 152, 156, 180, 196, 197, 232, 259] 400 h
set_option maxRecDepth 100000 in
theorem b217_196 {C : j2_C} (hC : j2_up1 C) {Q : j2_P} {o0 : Nat} {x1 : Int32} {x2 : Int32} {x3 : Int32} {x4 : Int32} {x5 : Int32} {x6 : Int32} {σ : j2_S}
  (h : T217 C Q 197 [vO 10 o0, vI x1, vI x2, vI x3, vI (x4 + (nI 1)), vI x5, vI x6] [] σ) :
  T217 C Q 196 [vO 10 o0, vI x1, vI x2, vI x3, vI x4, vI x5, vI x6] [] σ := j2_T.go hC [0, 12, 32, 46, 52, 71, 96, 138, 152, 156, 180, 196, 197, 232, 259] 400 h
set_option maxRecDepth 100000 in
theorem b217_197 {C : j2_C} (hC : j2_up1 C) {Q : j2_P} {o0 : Nat} {x1 : Int32} {x2 : Int32} {x3 : Int32} {x4 : Int32} {x5 : Int32} {x6 : Int32} {σ : j2_S}
  (h : T217 C Q 156 [vO 10 o0, vI x1, vI x2, vI x3, vI x4, vI (x5 + (nI 1)), vI x6] [] σ) :
  T217 C Q 197 [vO 10 o0, vI x1, vI x2, vI x3, vI x4, vI x5, vI x6] [] σ := j2_T.go hC [0, 12, 32, 46, 52, 71, 96, 138, 152, 156, 180, 196, 197, 232, 259] 400 h
set_option maxRecDepth 100000 in
theorem b217_232 {C : j2_C} (hC : j2_up1 C) {Q : j2_P} {o0 : Nat} {x1 : Int32} {x2 : Int32} {x3 : Int32} {x4 : Int32} {x5 : Int32} {w6 : j2_W} {xs0 : Int32} {xs1 : Int32} {os2 : Nat} {σ : j2_S}
  (h : (vp_in xs1 30 ∧ (vp_in x2 30 ∧ (vp_in x2 30 ∧ (vp_in (nI 1) 3 ∧ (vp_in x2 30 ∧ (vp_in (nI 1) 3 ∧ (vp_in (nI 1) 3 ∧ T217 C Q 259 [vO 10 o0, vI x1, vI x2, vI x3, vI x4, vI x5, w6] [] (σ.1, σ.2.1, (j2_ast (j2_ast (j2_ast (j2_ast (j2_ast σ.2.2 10011 os2 xs1.toNatClampNeg xs0) 10012 o0 x2.toNatClampNeg x3) 10014 o0 x2.toNatClampNeg x4) 10013 o0 x2.toNatClampNeg ((j2_ast (j2_ast (j2_ast σ.2.2 10011 os2 xs1.toNatClampNeg xs0) 10012 o0 x2.toNatClampNeg x3) 10014 o0 x2.toNatClampNeg x4) 10018 o0 (nI 1).toNatClampNeg)) 10018 o0 (nI 1).toNatClampNeg (((j2_ast (j2_ast (j2_ast (j2_ast σ.2.2 10011 os2 xs1.toNatClampNeg xs0) 10012 o0 x2.toNatClampNeg x3) 10014 o0 x2.toNatClampNeg x4) 10013 o0 x2.toNatClampNeg ((j2_ast (j2_ast (j2_ast σ.2.2 10011 os2 xs1.toNatClampNeg xs0) 10012 o0 x2.toNatClampNeg x3) 10014 o0 x2.toNatClampNeg x4) 10018 o0 (nI 1).toNatClampNeg)) 10018 o0 (nI 1).toNatClampNeg) + x4))))))))))) :
  T217 C Q 232 [vO 10 o0, vI x1, vI x2, vI x3, vI x4, vI x5, w6] [vI xs0, vI xs1, vA 10011 os2] σ := j2_T.go hC [0, 12, 32, 46, 52, 71, 96, 138, 152, 156, 180, 196, 197, 232, 259] 400 h
set_option maxRecDepth 100000 in
theorem b217_259 {C : j2_C} (hC : j2_up1 C) {Q : j2_P} {o0 : Nat} {x1 : Int32} {x2 : Int32} {x3 : Int32} {x4 : Int32} {x5 : Int32} {w6 : j2_W} {σ : j2_S}
  (h : T217 C Q 52 [vO 10 o0, vI (x1 + (nI 1)), vI x2, vI x3, vI x4, vI x5, w6] [] σ) :
  T217 C Q 259 [vO 10 o0, vI x1, vI x2, vI x3, vI x4, vI x5, w6] [] σ := j2_T.go hC [0, 12, 32, 46, 52, 71, 96, 138, 152, 156, 180, 196, 197, 232, 259] 400 h
abbrev T218 (C : j2_C) (Q : j2_P) : j2_K := j2_T C jc_X10_numberMethod none Q
set_option maxRecDepth 100000 in
theorem b218_0 {C : j2_C} (hC : j2_up1 C) {Q : j2_P} {o0 : Nat} {x1 : Int32} {x2 : Int32} {σ : j2_S}
  (h : (vp_in x1 240 ∧ (vp_in (σ.2.2 10019 o0 x1.toNatClampNeg) 10 ∧ (vp_in ((nI 80) + x2) 240 ∧ (vp_in x1 240 ∧ (vp_in ((nI 80) + x2) 240 ∧ (vp_in x1 240 ∧ (((nI 2) ≤ ((j2_ast (j2_ast σ.2.2 10019 o0 ((nI 80) + x2).toNatClampNeg (σ.2.2 10069 o0 (σ.2.2 10019 o0 x1.toNatClampNeg).toNatClampNeg)) 10021 o0 ((nI 80) + x2).toNatClampNeg ((j2_ast σ.2.2 10019 o0 ((nI 80) + x2).toNatClampNeg (σ.2.2 10069 o0 (σ.2.2 10019 o0 x1.toNatClampNeg).toNatClampNeg)) 10021 o0 x1.toNatClampNeg)) 10022 o0 x1.toNatClampNeg) → (vp_in x1 240 ∧ (vp_in (((j2_ast (j2_ast σ.2.2 10019 o0 ((nI 80) + x2).toNatClampNeg (σ.2.2 10069 o0 (σ.2.2 10019 o0 x1.toNatClampNeg).toNatClampNeg)) 10021 o0 ((nI 80) + x2).toNatClampNeg ((j2_ast σ.2.2 10019 o0 ((nI 80) + x2).toNatClampNeg (σ.2.2 10069 o0 (σ.2.2 10019 o0 x1.toNatClampNeg).toNatClampNeg)) 10021 o0 x1.toNatClampNeg)) 10022 o0 x1.toNatClampNeg) - (nI 2)) 10 ∧ T218 C Q 48 [vO 10 o0, vI x1, vI x2, vI ((nI 80) + x2), vM 2] [vI ((nI 2) + ((j2_ast (j2_ast σ.2.2 10019 o0 ((nI 80) + x2).toNatClampNeg (σ.2.2 10069 o0 (σ.2.2 10019 o0 x1.toNatClampNeg).toNatClampNeg)) 10021 o0 ((nI 80) + x2).toNatClampNeg ((j2_ast σ.2.2 10019 o0 ((nI 80) + x2).toNatClampNeg (σ.2.2 10069 o0 (σ.2.2 10019 o0 x1.toNatClampNeg).toNatClampNeg)) 10021 o0 x1.toNatClampNeg)) 10069 o0 (((j2_ast (j2_ast σ.2.2 10019 o0 ((nI 80) + x2).toNatClampNeg (σ.2.2 10069 o0 (σ.2.2 10019 o0 x1.toNatClampNeg).toNatClampNeg)) 10021 o0 ((nI 80) + x2).toNatClampNeg ((j2_ast σ.2.2 10019 o0 ((nI 80) + x2).toNatClampNeg (σ.2.2 10069 o0 (σ.2.2 10019 o0 x1.toNatClampNeg).toNatClampNeg)) 10021 o0 x1.toNatClampNeg)) 10022 o0 x1.toNatClampNeg) - (nI 2)).toNatClampNeg)), vI ((nI 80) + x2), vA 10022 o0] (σ.1, σ.2.1, (j2_ast (j2_ast σ.2.2 10019 o0 ((nI 80) + x2).toNatClampNeg (σ.2.2 10069 o0 (σ.2.2 10019 o0 x1.toNatClampNeg).toNatClampNeg)) 10021 o0 ((nI 80) + x2).toNatClampNeg ((j2_ast σ.2.2 10019 o0 ((nI 80) + x2).toNatClampNeg (σ.2.2 10069 o0 (σ.2.2 10019 o0 x1.toNatClampNeg).toNatClampNeg)) 10021 o0 x1.toNatClampNeg)))))) ∧ (¬ ((nI 2) ≤ ((j2_ast (j2_ast σ.2.2 10019 o0 ((nI 80) + x2).toNatClampNeg (σ.2.2 10069 o0 (σ.2.2 10019 o0 x1.toNatClampNeg).toNatClampNeg)) 10021 o0 ((nI 80) + x2).toNatClampNeg ((j2_ast σ.2.2 10019 o0 ((nI 80) + x2).toNatClampNeg (σ.2.2 10069 o0 (σ.2.2 10019 o0 x1.toNatClampNeg).toNatClampNeg)) 10021 o0 x1.toNatClampNeg)) 10022 o0 x1.toNatClampNeg)) → (vp_in x1 240 ∧ T218 C Q 48 [vO 10 o0, vI x1, vI x2, vI ((nI 80) + x2), vM 2] [vI ((j2_ast (j2_ast σ.2.2 10019 o0 ((nI 80) + x2).toNatClampNeg (σ.2.2 10069 o0 (σ.2.2 10019 o0 x1.toNatClampNeg).toNatClampNeg)) 10021 o0 ((nI 80) + x2).toNatClampNeg ((j2_ast σ.2.2 10019 o0 ((nI 80) + x2).toNatClampNeg (σ.2.2 10069 o0 (σ.2.2 10019 o0 x1.toNatClampNeg).toNatClampNeg)) 10021 o0 x1.toNatClampNeg)) 10022 o0 x1.toNatClampNeg), vI ((nI 80) + x2), vA 10022 o0] (σ.1, σ.2.1, (j2_ast (j2_ast σ.2.2 10019 o0 ((nI 80) + x2).toNatClampNeg (σ.2.2 10069 o0 (σ.2.2 10019 o0 x1.toNatClampNeg).toNatClampNeg)) 10021 o0 ((nI 80) + x2).toNatClampNeg ((j2_ast σ.2.2 10019 o0 ((nI 80) + x2).toNatClampNeg (σ.2.2 10069 o0 (σ.2.2 10019 o0 x1.toNatClampNeg).toNatClampNeg)) 10021 o0 x1.toNatClampNeg))))))))))))) :
  T218 C Q 0 [vO 10 o0, vI x1, vI x2, vM 2, vM 2] [] σ := j2_T.go hC [0, 48, 59, 82, 112, 123, 127, 128, 155] 400 h
set_option maxRecDepth 100000 in
theorem b218_48 {C : j2_C} (hC : j2_up1 C) {Q : j2_P} {o0 : Nat} {x1 : Int32} {x2 : Int32} {x3 : Int32} {xs0 : Int32} {xs1 : Int32} {os2 : Nat} {σ : j2_S}
  (h : (vp_in xs1 240 ∧ (vp_in x1 240 ∧ (vp_in x3 240 ∧ T218 C Q 59 [vO 10 o0, vI x1, vI x2, vI x3, vI (nI 0)] [] (σ.1, σ.2.1, (j2_ast (j2_ast σ.2.2 10022 os2 xs1.toNatClampNeg xs0) 10023 o0 x3.toNatClampNeg ((j2_ast σ.2.2 10022 os2 xs1.toNatClampNeg xs0) 10023 o0 x1.toNatClampNeg))))))) :
  T218 C Q 48 [vO 10 o0, vI x1, vI x2, vI x3, vM 2] [vI xs0, vI xs1, vA 10022 os2] σ := j2_T.go hC [0, 48, 59, 82, 112, 123, 127, 128, 155] 400 h
set_option maxRecDepth 100000 in
theorem b218_59 {C : j2_C} (hC : j2_up1 C) {Q : j2_P} {o0 : Nat} {x1 : Int32} {x2 : Int32} {x3 : Int32} {x4 : Int32} {σ : j2_S}
  (h : (vp_in x1 240 ∧ (((σ.2.2 10023 o0 x1.toNatClampNeg) ≤ x4 → (vp_in x1 80 ∧ (((σ.2.2 10049 o0 x1.toNatClampNeg) = 0 → (vp_in x1 240 ∧ (vp_in x1 240 ∧ (vp_in x3 240 ∧ (vp_in x3 240 ∧ C 160 [vI (nI 1), vI x2, vI (nI 0)] (σ.1, σ.2.1, (j2_ast (j2_ast σ.2.2 10025 o0 x3.toNatClampNeg (((σ.2.2 10023 o0 x1.toNatClampNeg) + (nI 1)) - (σ.2.2 10021 o0 x1.toNatClampNeg))) 10026 o0 x3.toNatClampNeg (nI 1))) (fun r σ1 => T218 C Q 155 [vO 10 o0, vI x1, vI x2, vI x3, vI x4] (r.toList ++ []) σ1)))))) ∧ (¬ ((σ.2.2 10049 o0 x1.toNatClampNeg) = 0) → (vp_in ((nI 160) + x1) 240 ∧ (vp_in x3 240 ∧ (vp_in ((nI 160) + x1) 240 ∧ (vp_in x3 240 ∧ T218 C Q 112 [vO 10 o0, vI x1, vI x2, vI x3, vI (nI 0)] [] (σ.1, σ.2.1, (j2_ast (j2_ast σ.2.2 10025 o0 x3.toNatClampNeg (σ.2.2 10025 o0 ((nI 160) + x1).toNatClampNeg)) 10026 o0 x3.toNatClampNeg ((j2_ast σ.2.2 10025 o0 x3.toNatClampNeg (σ.2.2 10025 o0 ((nI 160) + x1).toNatClampNeg)) 10026 o0 ((nI 160) + x1).toNatClampNeg))))))))))) ∧ (¬ ((σ.2.2 10023 o0 x1.toNatClampNeg) ≤ x4) → (vp_in (((nI 3) * x1) + x4) 720 ∧ C 216 [vO 10 o0, vI (σ.2.2 10024 o0 (((nI 3) * x1) + x4).toNatClampNeg)] σ (fun r σ1 => T218 C Q 82 [vO 10 o0, vI x1, vI x2, vI x3, vI x4] (r.toList ++ [vI (((nI 3) * x3) + x4), vA 10024 o0]) σ1)))))) :
  T218 C Q 59 [vO 10 o0, vI x1, vI x2, vI x3, vI x4] [] σ := j2_T.go hC [0, 48, 59, 82, 112, 123, 127, 128, 155] 400 h
set_option maxRecDepth 100000 in
theorem b218_82 {C : j2_C} (hC : j2_up1 C) {Q : j2_P} {o0 : Nat} {x1 : Int32} {x2 : Int32} {x3 : Int32} {x4 : Int32} {xs0 : Int32} {xs1 : Int32} {os2 : Nat} {σ : j2_S}
  (h : (vp_in xs1 720 ∧ T218 C Q 59 [vO 10 o0, vI x1, vI x2, vI x3, vI (x4 + (nI 1))] [] (σ.1, σ.2.1, (j2_ast σ.2.2 10024 os2 xs1.toNatClampNeg xs0)))) :
  T218 C Q 82 [vO 10 o0, vI x1, vI x2, vI x3, vI x4] [vI xs0, vI xs1, vA 10024 os2] σ := j2_T.go hC [0, 48, 59, 82, 112, 123, 127, 128, 155] 400 h
set_option maxRecDepth 100000 in
theorem b218_112 {C : j2_C} (hC : j2_up1 C) {Q : j2_P} {o0 : Nat} {x1 : Int32} {x2 : Int32} {x3 : Int32} {x4 : Int32} {σ : j2_S}
  (h : (vp_in x3 240 ∧ (((σ.2.2 10026 o0 x3.toNatClampNeg) ≤ x4 → ((none : Option FieldType) = none ∧ Q none σ)) ∧ (¬ ((σ.2.2 10026 o0 x3.toNatClampNeg) ≤ x4) → C 160 [vI (nI 2), vI x1, vI x4] σ (fun r σ1 => T218 C Q 123 [vO 10 o0, vI x1, vI x2, vI x3, vI x4] (r.toList ++ [vO 10 o0]) σ1))))) :
  T218 C Q 112 [vO 10 o0, vI x1, vI x2, vI x3, vI x4] [] σ := j2_T.go hC [0, 48, 59, 82, 112, 123, 127, 128, 155] 400 h
set_option maxRecDepth 100000 in
theorem b218_123 {C : j2_C} (hC : j2_up1 C) {Q : j2_P} {o0 : Nat} {x1 : Int32} {x2 : Int32} {x3 : Int32} {x4 : Int32} {xs0 : Int32} {os1 : Nat} {σ : j2_S}
  (h : C 160 [vI (nI 1), vI x2, vI x4] σ (fun r σ1 => T218 C Q 127 [vO 10 o0, vI x1, vI x2, vI x3, vI x4] (r.toList ++ [vI xs0, vO 10 os1]) σ1)) :
  T218 C Q 123 [vO 10 o0, vI x1, vI x2, vI x3, vI x4] [vI xs0, vO 10 os1] σ := j2_T.go hC [0, 48, 59, 82, 112, 123, 127, 128, 155] 400 h
set_option maxRecDepth 100000 in
theorem b218_127 {C : j2_C} (hC : j2_up1 C) {Q : j2_P} {o0 : Nat} {x1 : Int32} {x2 : Int32} {x3 : Int32} {x4 : Int32} {xs0 : Int32} {xs1 : Int32} {os2 : Nat} {σ : j2_S}
  (h : C 182 [vO 10 os2, vI xs1, vI xs0] σ (fun r σ1 => T218 C Q 128 [vO 10 o0, vI x1, vI x2, vI x3, vI x4] (r.toList ++ []) σ1)) :
  T218 C Q 127 [vO 10 o0, vI x1, vI x2, vI x3, vI x4] [vI xs0, vI xs1, vO 10 os2] σ := j2_T.go hC [0, 48, 59, 82, 112, 123, 127, 128, 155] 400 h
set_option maxRecDepth 100000 in
theorem b218_128 {C : j2_C} (hC : j2_up1 C) {Q : j2_P} {o0 : Nat} {x1 : Int32} {x2 : Int32} {x3 : Int32} {x4 : Int32} {σ : j2_S}
  (h : T218 C Q 112 [vO 10 o0, vI x1, vI x2, vI x3, vI (x4 + (nI 1))] [] σ) :
  T218 C Q 128 [vO 10 o0, vI x1, vI x2, vI x3, vI x4] [] σ := j2_T.go hC [0, 48, 59, 82, 112, 123, 127, 128, 155] 400 h
set_option maxRecDepth 100000 in
theorem b218_155 {C : j2_C} (hC : j2_up1 C) {Q : j2_P} {o0 : Nat} {x1 : Int32} {x2 : Int32} {x3 : Int32} {x4 : Int32} {xs0 : Int32} {σ : j2_S}
  (h : (vp_in xs0 28800 ∧ (vp_in xs0 28800 ∧ (vp_in xs0 28800 ∧ (vp_in xs0 28800 ∧ (vp_in (nI 3) 23 ∧ (vp_in (nI 3) 23 ∧ ((none : Option FieldType) = none ∧ Q none (σ.1, σ.2.1, (j2_ast (j2_ast (j2_ast (j2_ast (j2_ast σ.2.2 10027 o0 xs0.toNatClampNeg (nI 26)) 10028 o0 xs0.toNatClampNeg (nI 0)) 10029 o0 xs0.toNatClampNeg (nI 0)) 10030 o0 xs0.toNatClampNeg (nI 0)) 10052 o0 (nI 3).toNatClampNeg (((j2_ast (j2_ast (j2_ast (j2_ast σ.2.2 10027 o0 xs0.toNatClampNeg (nI 26)) 10028 o0 xs0.toNatClampNeg (nI 0)) 10029 o0 xs0.toNatClampNeg (nI 0)) 10030 o0 xs0.toNatClampNeg (nI 0)) 10052 o0 (nI 3).toNatClampNeg) + (nI 1)))))))))))) :
  T218 C Q 155 [vO 10 o0, vI x1, vI x2, vI x3, vI x4] [vI xs0] σ := j2_T.go hC [0, 48, 59, 82, 112, 123, 127, 128, 155] 400 h
abbrev T219 (C : j2_C) (Q : j2_P) : j2_K := j2_T C jc_X10_tellAnew none Q
set_option maxRecDepth 100000 in
theorem b219_0 {C : j2_C} (hC : j2_up1 C) {Q : j2_P} {o0 : Nat} {σ : j2_S}
  (h : T219 C Q 2 [vO 10 o0, vI (nI 0), vM 2, vM 2, vM 2] [] σ) :
  T219 C Q 0 [vO 10 o0, vM 2, vM 2, vM 2, vM 2] [] σ := j2_T.go hC [0, 2, 10, 22, 52, 58, 77, 82, 89, 100] 400 h
set_option maxRecDepth 100000 in
theorem b219_2 {C : j2_C} (hC : j2_up1 C) {Q : j2_P} {o0 : Nat} {x1 : Int32} {w2 : j2_W} {w3 : j2_W} {w4 : j2_W} {σ : j2_S}
  (h : (vp_in (nI 1) 3 ∧ (((σ.2.2 10018 o0 (nI 1).toNatClampNeg) ≤ x1 → ((none : Option FieldType) = none ∧ Q none σ)) ∧ (¬ ((σ.2.2 10018 o0 (nI 1).toNatClampNeg) ≤ x1) → T219 C Q 10 [vO 10 o0, vI x1, vI (nI 0), w3, w4] [] σ)))) :
  T219 C Q 2 [vO 10 o0, vI x1, w2, w3, w4] [] σ := j2_T.go hC [0, 2, 10, 22, 52, 58, 77, 82, 89, 100] 400 h
set_option maxRecDepth 100000 in
theorem b219_10 {C : j2_C} (hC : j2_up1 C) {Q : j2_P} {o0 : Nat} {x1 : Int32} {x2 : Int32} {w3 : j2_W} {w4 : j2_W} {σ : j2_S}
  (h : (vp_in ((nI 80) + x1) 240 ∧ (((σ.2.2 10026 o0 ((nI 80) + x1).toNatClampNeg) ≤ x2 → T219 C Q 2 [vO 10 o0, vI (x1 + (nI 1)), vI x2, w3, w4] [] σ) ∧ (¬ ((σ.2.2 10026 o0 ((nI 80) + x1).toNatClampNeg) ≤ x2) → C 160 [vI (nI 1), vI x1, vI x2] σ (fun r σ1 => T219 C Q 22 [vO 10 o0, vI x1, vI x2, w3, w4] (r.toList ++ []) σ1))))) :
  T219 C Q 10 [vO 10 o0, vI x1, vI x2, w3, w4] [] σ := j2_T.go hC [0, 2, 10, 22, 52, 58, 77, 82, 89, 100] 400 h
set_option maxRecDepth 100000 in
theorem b219_22 {C : j2_C} (hC : j2_up1 C) {Q : j2_P} {o0 : Nat} {x1 : Int32} {x2 : Int32} {w3 : j2_W} {w4 : j2_W} {xs0 : Int32} {σ : j2_S}
  (h : (vp_in xs0 28800 ∧ (((σ.2.2 10027 o0 xs0.toNatClampNeg) < (nI 16) → T219 C Q 52 [vO 10 o0, vI x1, vI x2, vI xs0, vI (σ.2.2 10027 o0 xs0.toNatClampNeg)] [] σ) ∧ (¬ ((σ.2.2 10027 o0 xs0.toNatClampNeg) < (nI 16)) → (((nI 19) < (σ.2.2 10027 o0 xs0.toNatClampNeg) → T219 C Q 52 [vO 10 o0, vI x1, vI x2, vI xs0, vI (σ.2.2 10027 o0 xs0.toNatClampNeg)] [] σ) ∧ (¬ ((nI 19) < (σ.2.2 10027 o0 xs0.toNatClampNeg)) → (vp_in xs0 28800 ∧ (vp_in xs0 28800 ∧ (vp_in (((nI 6) * (σ.2.2 10028 o0 xs0.toNatClampNeg)) + (σ.2.2 10029 o0 xs0.toNatClampNeg)) 60 ∧ (vp_in xs0 28800 ∧ T219 C Q 52 [vO 10 o0, vI x1, vI x2, vI xs0, vI (σ.2.2 10027 o0 xs0.toNatClampNeg)] [] (σ.1, σ.2.1, (j2_ast σ.2.2 10029 o0 xs0.toNatClampNeg (σ.2.2 10070 o0 (((nI 6) * (σ.2.2 10028 o0 xs0.toNatClampNeg)) + (σ.2.2 10029 o0 xs0.toNatClampNeg)).toNatClampNeg))))))))))))) :
  T219 C Q 22 [vO 10 o0, vI x1, vI x2, w3, w4] [vI xs0] σ := j2_T.go hC [0, 2, 10, 22, 52, 58, 77, 82, 89, 100] 400 h
set_option maxRecDepth 100000 in
theorem b219_52 {C : j2_C} (hC : j2_up1 C) {Q : j2_P} {o0 : Nat} {x1 : Int32} {x2 : Int32} {x3 : Int32} {x4 : Int32} {σ : j2_S}
  (h : ((x4 = (nI 20) → T219 C Q 58 [vO 10 o0, vI x1, vI x2, vI x3, vI x4] [] σ) ∧ (¬ (x4 = (nI 20)) → ((¬ x4 = (nI 21) → T219 C Q 77 [vO 10 o0, vI x1, vI x2, vI x3, vI x4] [] σ) ∧ (¬ (¬ x4 = (nI 21)) → T219 C Q 58 [vO 10 o0, vI x1, vI x2, vI x3, vI x4] [] σ))))) :
  T219 C Q 52 [vO 10 o0, vI x1, vI x2, vI x3, vI x4] [] σ := j2_T.go hC [0, 2, 10, 22, 52, 58, 77, 82, 89, 100] 400 h
set_option maxRecDepth 100000 in
theorem b219_58 {C : j2_C} (hC : j2_up1 C) {Q : j2_P} {o0 : Nat} {x1 : Int32} {x2 : Int32} {x3 : Int32} {x4 : Int32} {σ : j2_S}
  (h : (vp_in x3 28800 ∧ (vp_in (σ.2.2 10028 o0 x3.toNatClampNeg) 30 ∧ (vp_in x3 28800 ∧ (vp_in ((σ.2.2 10013 o0 (σ.2.2 10028 o0 x3.toNatClampNeg).toNatClampNeg) + (σ.2.2 10029 o0 x3.toNatClampNeg)) 80 ∧ (vp_in x3 28800 ∧ T219 C Q 77 [vO 10 o0, vI x1, vI x2, vI x3, vI x4] [] (σ.1, σ.2.1, (j2_ast σ.2.2 10029 o0 x3.toNatClampNeg (σ.2.2 10071 o0 ((σ.2.2 10013 o0 (σ.2.2 10028 o0 x3.toNatClampNeg).toNatClampNeg) + (σ.2.2 10029 o0 x3.toNatClampNeg)).toNatClampNeg))))))))) :
  T219 C Q 58 [vO 10 o0, vI x1, vI x2, vI x3, vI x4] [] σ := j2_T.go hC [0, 2, 10, 22, 52, 58, 77, 82, 89, 100] 400 h
set_option maxRecDepth 100000 in
theorem b219_77 {C : j2_C} (hC : j2_up1 C) {Q : j2_P} {o0 : Nat} {x1 : Int32} {x2 : Int32} {x3 : Int32} {x4 : Int32} {σ : j2_S}
  (h : ((x4 = (nI 15) → T219 C Q 89 [vO 10 o0, vI x1, vI x2, vI x3, vI x4] [] σ) ∧ (¬ (x4 = (nI 15)) → C 165 [vI x4] σ (fun r σ1 => T219 C Q 82 [vO 10 o0, vI x1, vI x2, vI x3, vI x4] (r.toList ++ []) σ1)))) :
  T219 C Q 77 [vO 10 o0, vI x1, vI x2, vI x3, vI x4] [] σ := j2_T.go hC [0, 2, 10, 22, 52, 58, 77, 82, 89, 100] 400 h
set_option maxRecDepth 100000 in
theorem b219_82 {C : j2_C} (hC : j2_up1 C) {Q : j2_P} {o0 : Nat} {x1 : Int32} {x2 : Int32} {x3 : Int32} {x4 : Int32} {xs0 : Int32} {σ : j2_S}
  (h : ((¬ xs0 = 0 → T219 C Q 89 [vO 10 o0, vI x1, vI x2, vI x3, vI x4] [] σ) ∧ (¬ (¬ xs0 = 0) → ((x4 = (nI 24) → T219 C Q 89 [vO 10 o0, vI x1, vI x2, vI x3, vI x4] [] σ) ∧ (¬ (x4 = (nI 24)) → ((¬ x4 = (nI 25) → T219 C Q 100 [vO 10 o0, vI x1, vI x2, vI x3, vI x4] [] σ) ∧ (¬ (¬ x4 = (nI 25)) → T219 C Q 89 [vO 10 o0, vI x1, vI x2, vI x3, vI x4] [] σ))))))) :
  T219 C Q 82 [vO 10 o0, vI x1, vI x2, vI x3, vI x4] [vI xs0] σ := j2_T.go hC [0, 2, 10, 22, 52, 58, 77, 82, 89, 100] 400 h
set_option maxRecDepth 100000 in
theorem b219_89 {C : j2_C} (hC : j2_up1 C) {Q : j2_P} {o0 : Nat} {x1 : Int32} {x2 : Int32} {x3 : Int32} {x4 : Int32} {σ : j2_S}
  (h : (vp_in x3 28800 ∧ (vp_in (σ.2.2 10028 o0 x3.toNatClampNeg) 10 ∧ (vp_in x3 28800 ∧ T219 C Q 100 [vO 10 o0, vI x1, vI x2, vI x3, vI x4] [] (σ.1, σ.2.1, (j2_ast σ.2.2 10028 o0 x3.toNatClampNeg (σ.2.2 10069 o0 (σ.2.2 10028 o0 x3.toNatClampNeg).toNatClampNeg))))))) :
  T219 C Q 89 [vO 10 o0, vI x1, vI x2, vI x3, vI x4] [] σ := j2_T.go hC [0, 2, 10, 22, 52, 58, 77, 82, 89, 100] 400 h
set_option maxRecDepth 100000 in
theorem b219_100 {C : j2_C} (hC : j2_up1 C) {Q : j2_P} {o0 : Nat} {x1 : Int32} {x2 : Int32} {x3 : Int32} {x4 : Int32} {σ : j2_S}
  (h : T219 C Q 10 [vO 10 o0, vI x1, vI (x2 + (nI 1)), vI x3, vI x4] [] σ) :
  T219 C Q 100 [vO 10 o0, vI x1, vI x2, vI x3, vI x4] [] σ := j2_T.go hC [0, 2, 10, 22, 52, 58, 77, 82, 89, 100] 400 h
abbrev T220 (C : j2_C) (Q : j2_P) : j2_K := j2_T C jc_X10_numberNow (some .int) Q
set_option maxRecDepth 100000 in
theorem b220_0 {C : j2_C} (hC : j2_up1 C) {Q : j2_P} {o0 : Nat} {x1 : Int32} {σ : j2_S}
  (h : (vp_in x1 240 ∧ (vp_in (σ.2.2 10019 o0 x1.toNatClampNeg) 10 ∧ (vp_in ((nI 10) + (σ.2.2 10069 o0 (σ.2.2 10019 o0 x1.toNatClampNeg).toNatClampNeg)) 30 ∧ (vp_in x1 80 ∧ (True ∧ Q (some (vI ((σ.2.2 10013 o0 ((nI 10) + (σ.2.2 10069 o0 (σ.2.2 10019 o0 x1.toNatClampNeg).toNatClampNeg)).toNatClampNeg) + (σ.2.2 10071 o0 x1.toNatClampNeg)))) σ)))))) :
  T220 C Q 0 [vO 10 o0, vI x1] [] σ := j2_T.go hC [0] 400 h
abbrev T221 (C : j2_C) (Q : j2_P) : j2_K := j2_T C jc_X10_nameMethods none Q
set_option maxRecDepth 100000 in
theorem b221_0 {C : j2_C} (hC : j2_up1 C) {Q : j2_P} {o0 : Nat} {σ : j2_S}
  (h : T221 C Q 2 [vO 10 o0, vI (nI 0), vM 2, vM 2, vM 2, vM 2] [] σ) :
  T221 C Q 0 [vO 10 o0, vM 2, vM 2, vM 2, vM 2, vM 2] [] σ := j2_T.go hC [0, 2, 17, 28, 34, 71, 79, 92, 98, 99] 400 h
set_option maxRecDepth 100000 in
theorem b221_2 {C : j2_C} (hC : j2_up1 C) {Q : j2_P} {o0 : Nat} {x1 : Int32} {w2 : j2_W} {w3 : j2_W} {w4 : j2_W} {w5 : j2_W} {σ : j2_S}
  (h : (vp_in (nI 0) 3 ∧ (((σ.2.2 10018 o0 (nI 0).toNatClampNeg) ≤ x1 → ((none : Option FieldType) = none ∧ Q none σ)) ∧ (¬ ((σ.2.2 10018 o0 (nI 0).toNatClampNeg) ≤ x1) → (vp_in x1 80 ∧ ((¬ (σ.2.2 10074 o0 x1.toNatClampNeg) = 0 → C 220 [vO 10 o0, vI x1] σ (fun r σ1 => T221 C Q 17 [vO 10 o0, vI x1, w2, w3, w4, w5] (r.toList ++ []) σ1)) ∧ (¬ (¬ (σ.2.2 10074 o0 x1.toNatClampNeg) = 0) → T221 C Q 99 [vO 10 o0, vI x1, w2, w3, w4, w5] [] σ))))))) :
  T221 C Q 2 [vO 10 o0, vI x1, w2, w3, w4, w5] [] σ := j2_T.go hC [0, 2, 17, 28, 34, 71, 79, 92, 98, 99] 400 h
set_option maxRecDepth 100000 in
theorem b221_17 {C : j2_C} (hC : j2_up1 C) {Q : j2_P} {o0 : Nat} {x1 : Int32} {w2 : j2_W} {w3 : j2_W} {w4 : j2_W} {w5 : j2_W} {xs0 : Int32} {σ : j2_S}
  (h : (vp_in x1 240 ∧ (vp_in (σ.2.2 10019 o0 x1.toNatClampNeg) 30 ∧ T221 C Q 28 [vO 10 o0, vI x1, vI xs0, vI (-1 : Int32), vI (σ.2.2 10011 o0 (σ.2.2 10019 o0 x1.toNatClampNeg).toNatClampNeg), w5] [] σ))) :
  T221 C Q 17 [vO 10 o0, vI x1, w2, w3, w4, w5] [vI xs0] σ := j2_T.go hC [0, 2, 17, 28, 34, 71, 79, 92, 98, 99] 400 h
set_option maxRecDepth 100000 in
theorem b221_28 {C : j2_C} (hC : j2_up1 C) {Q : j2_P} {o0 : Nat} {x1 : Int32} {x2 : Int32} {x3 : Int32} {x4 : Int32} {w5 : j2_W} {σ : j2_S}
  (h : ((x4 < 0 → T221 C Q 79 [vO 10 o0, vI x1, vI x2, vI x3, vI x4, w5] [] σ) ∧ (¬ (x4 < 0) → ((0 ≤ x3 → T221 C Q 79 [vO 10 o0, vI x1, vI x2, vI x3, vI x4, w5] [] σ) ∧ (¬ (0 ≤ x3) → T221 C Q 34 [vO 10 o0, vI x1, vI x2, vI x3, vI x4, vI (nI 0)] [] σ))))) :
  T221 C Q 28 [vO 10 o0, vI x1, vI x2, vI x3, vI x4, w5] [] σ := j2_T.go hC [0, 2, 17, 28, 34, 71, 79, 92, 98, 99] 400 h
set_option maxRecDepth 100000 in
theorem b221_34 {C : j2_C} (hC : j2_up1 C) {Q : j2_P} {o0 : Nat} {x1 : Int32} {x2 : Int32} {x3 : Int32} {x4 : Int32} {x5 : Int32} {σ : j2_S}
  (h : (vp_in x4 30 ∧ (((σ.2.2 10014 o0 x4.toNatClampNeg) ≤ x5 → (vp_in x4 30 ∧ T221 C Q 28 [vO 10 o0, vI x1, vI x2, vI x3, vI (σ.2.2 10011 o0 x4.toNatClampNeg), vI x5] [] σ)) ∧ (¬ ((σ.2.2 10014 o0 x4.toNatClampNeg) ≤ x5) → (vp_in x4 30 ∧ (vp_in ((σ.2.2 10013 o0 x4.toNatClampNeg) + x5) 80 ∧ (((σ.2.2 10074 o0 ((σ.2.2 10013 o0 x4.toNatClampNeg) + x5).toNatClampNeg) = 0 → T221 C Q 71 [vO 10 o0, vI x1, vI x2, vI x3, vI x4, vI x5] [] σ) ∧ (¬ ((σ.2.2 10074 o0 ((σ.2.2 10013 o0 x4.toNatClampNeg) + x5).toNatClampNeg) = 0) → (vp_in x4 30 ∧ (vp_in ((σ.2.2 10013 o0 x4.toNatClampNeg) + x5) 240 ∧ (vp_in x1 240 ∧ ((¬ (σ.2.2 10020 o0 ((σ.2.2 10013 o0 x4.toNatClampNeg) + x5).toNatClampNeg) = (σ.2.2 10020 o0 x1.toNatClampNeg) → T221 C Q 71 [vO 10 o0, vI x1, vI x2, vI x3, vI x4, vI x5] [] σ) ∧ (¬ (¬ (σ.2.2 10020 o0 ((σ.2.2 10013 o0 x4.toNatClampNeg) + x5).toNatClampNeg) = (σ.2.2 10020 o0 x1.toNatClampNeg)) → (vp_in x4 30 ∧ T221 C Q 71 [vO 10 o0, vI x1, vI x2, vI ((σ.2.2 10013 o0 x4.toNatClampNeg) + x5), vI x4, vI x5] [] σ)))))))))))))) :
  T221 C Q 34 [vO 10 o0, vI x1, vI x2, vI x3, vI x4, vI x5] [] σ := j2_T.go hC [0, 2, 17, 28, 34, 71, 79, 92, 98, 99] 400 h
set_option maxRecDepth 100000 in
theorem b221_71 {C : j2_C} (hC : j2_up1 C) {Q : j2_P} {o0 : Nat} {x1 : Int32} {x2 : Int32} {x3 : Int32} {x4 : Int32} {x5 : Int32} {σ : j2_S}
  (h : T221 C Q 34 [vO 10 o0, vI x1, vI x2, vI x3, vI x4, vI (x5 + (nI 1))] [] σ) :
  T221 C Q 71 [vO 10 o0, vI x1, vI x2, vI x3, vI x4, vI x5] [] σ := j2_T.go hC [0, 2, 17, 28, 34, 71, 79, 92, 98, 99] 400 h
set_option maxRecDepth 100000 in
theorem b221_79 {C : j2_C} (hC : j2_up1 C) {Q : j2_P} {o0 : Nat} {x1 : Int32} {x2 : Int32} {x3 : Int32} {x4 : Int32} {w5 : j2_W} {σ : j2_S}
  (h : ((x3 < 0 → C 222 [vO 10 o0, vI x2] σ (fun r σ1 => T221 C Q 98 [vO 10 o0, vI x1, vI x2, vI x3, vI x4, w5] (r.toList ++ [vI ((nI 80) + x2), vA 10020 o0]) σ1)) ∧ (¬ (x3 < 0) → C 220 [vO 10 o0, vI x3] σ (fun r σ1 => T221 C Q 92 [vO 10 o0, vI x1, vI x2, vI x3, vI x4, w5] (r.toList ++ [vI (nI 80), vA 10020 o0, vI ((nI 80) + x2), vA 10020 o0]) σ1)))) :
  T221 C Q 79 [vO 10 o0, vI x1, vI x2, vI x3, vI x4, w5] [] σ := j2_T.go hC [0, 2, 17, 28, 34, 71, 79, 92, 98, 99] 400 h
set_option maxRecDepth 100000 in
theorem b221_92 {C : j2_C} (hC : j2_up1 C) {Q : j2_P} {o0 : Nat} {x1 : Int32} {x2 : Int32} {x3 : Int32} {x4 : Int32} {w5 : j2_W} {xs0 : Int32} {xs1 : Int32} {os2 : Nat} {xs3 : Int32} {os4 : Nat} {σ : j2_S}
  (h : (vp_in (xs1 + xs0) 240 ∧ T221 C Q 98 [vO 10 o0, vI x1, vI x2, vI x3, vI x4, w5] [vI (σ.2.2 10020 os2 (xs1 + xs0).toNatClampNeg), vI xs3, vA 10020 os4] σ)) :
  T221 C Q 92 [vO 10 o0, vI x1, vI x2, vI x3, vI x4, w5] [vI xs0, vI xs1, vA 10020 os2, vI xs3, vA 10020 os4] σ := j2_T.go hC [0, 2, 17, 28, 34, 71, 79, 92, 98, 99] 400 h
set_option maxRecDepth 100000 in
theorem b221_98 {C : j2_C} (hC : j2_up1 C) {Q : j2_P} {o0 : Nat} {x1 : Int32} {x2 : Int32} {x3 : Int32} {x4 : Int32} {w5 : j2_W} {xs0 : Int32} {xs1 : Int32} {os2 : Nat} {σ : j2_S}
  (h : (vp_in xs1 240 ∧ T221 C Q 99 [vO 10 o0, vI x1, vI x2, vI x3, vI x4, w5] [] (σ.1, σ.2.1, (j2_ast σ.2.2 10020 os2 xs1.toNatClampNeg xs0)))) :
  T221 C Q 98 [vO 10 o0, vI x1, vI x2, vI x3, vI x4, w5] [vI xs0, vI xs1, vA 10020 os2] σ := j2_T.go hC [0, 2, 17, 28, 34, 71, 79, 92, 98, 99] 400 h
set_option maxRecDepth 100000 in
theorem b221_99 {C : j2_C} (hC : j2_up1 C) {Q : j2_P} {o0 : Nat} {x1 : Int32} {w2 : j2_W} {w3 : j2_W} {w4 : j2_W} {w5 : j2_W} {σ : j2_S}
  (h : T221 C Q 2 [vO 10 o0, vI (x1 + (nI 1)), w2, w3, w4, w5] [] σ) :
  T221 C Q 99 [vO 10 o0, vI x1, w2, w3, w4, w5] [] σ := j2_T.go hC [0, 2, 17, 28, 34, 71, 79, 92, 98, 99] 400 h
abbrev T222 (C : j2_C) (Q : j2_P) : j2_K := j2_T C jc_X10_leastName (some .int) Q
set_option maxRecDepth 100000 in
theorem b222_0 {C : j2_C} (hC : j2_up1 C) {Q : j2_P} {o0 : Nat} {x1 : Int32} {σ : j2_S}
  (h : T222 C Q 4 [vO 10 o0, vI x1, vI (nI 1), vI (nI 0), vM 2, vM 2, vM 2] [] σ) :
  T222 C Q 0 [vO 10 o0, vI x1, vM 2, vM 2, vM 2, vM 2, vM 2] [] σ := j2_T.go hC [0, 4, 15, 19, 49, 51, 52, 69] 400 h
set_option maxRecDepth 100000 in
theorem b222_4 {C : j2_C} (hC : j2_up1 C) {Q : j2_P} {o0 : Nat} {x1 : Int32} {x2 : Int32} {x3 : Int32} {w4 : j2_W} {w5 : j2_W} {w6 : j2_W} {σ : j2_S}
  (h : ((¬ x3 = 0 → (True ∧ Q (some (vI x2)) σ)) ∧ (¬ (¬ x3 = 0) → (vp_in ((nI 80) + x1) 240 ∧ T222 C Q 15 [vO 10 o0, vI x1, vI x2, vI (nI 1), vI (σ.2.2 10019 o0 ((nI 80) + x1).toNatClampNeg), w5, w6] [] σ)))) :
  T222 C Q 4 [vO 10 o0, vI x1, vI x2, vI x3, w4, w5, w6] [] σ := j2_T.go hC [0, 4, 15, 19, 49, 51, 52, 69] 400 h
set_option maxRecDepth 100000 in
theorem b222_15 {C : j2_C} (hC : j2_up1 C) {Q : j2_P} {o0 : Nat} {x1 : Int32} {x2 : Int32} {x3 : Int32} {x4 : Int32} {w5 : j2_W} {w6 : j2_W} {σ : j2_S}
  (h : ((x4 < 0 → ((x3 = 0 → T222 C Q 69 [vO 10 o0, vI x1, vI x2, vI x3, vI x4, w5, w6] [vI (nI 1), vI x2] σ) ∧ (¬ (x3 = 0) → T222 C Q 69 [vO 10 o0, vI x1, vI x2, vI x3, vI x4, w5, w6] [vI (nI 0), vI x2] σ))) ∧ (¬ (x4 < 0) → T222 C Q 19 [vO 10 o0, vI x1, vI x2, vI x3, vI x4, vI (nI 0), w6] [] σ))) :
  T222 C Q 15 [vO 10 o0, vI x1, vI x2, vI x3, vI x4, w5, w6] [] σ := j2_T.go hC [0, 4, 15, 19, 49, 51, 52, 69] 400 h
set_option maxRecDepth 100000 in
theorem b222_19 {C : j2_C} (hC : j2_up1 C) {Q : j2_P} {o0 : Nat} {x1 : Int32} {x2 : Int32} {x3 : Int32} {x4 : Int32} {x5 : Int32} {w6 : j2_W} {σ : j2_S}
  (h : (vp_in ((nI 10) + x4) 30 ∧ (((σ.2.2 10014 o0 ((nI 10) + x4).toNatClampNeg) ≤ x5 → (vp_in ((nI 10) + x4) 30 ∧ T222 C Q 15 [vO 10 o0, vI x1, vI x2, vI x3, vI (σ.2.2 10011 o0 ((nI 10) + x4).toNatClampNeg), vI x5, w6] [] σ)) ∧ (¬ ((σ.2.2 10014 o0 ((nI 10) + x4).toNatClampNeg) ≤ x5) → (vp_in ((nI 10) + x4) 30 ∧ ((x3 = 0 → T222 C Q 51 [vO 10 o0, vI x1, vI x2, vI x3, vI x4, vI x5, vI ((σ.2.2 10013 o0 ((nI 10) + x4).toNatClampNeg) + x5)] [] σ) ∧ (¬ (x3 = 0) → ((x1 ≤ ((σ.2.2 10013 o0 ((nI 10) + x4).toNatClampNeg) + x5) → T222 C Q 49 [vO 10 o0, vI x1, vI x2, vI x3, vI x4, vI x5, vI ((σ.2.2 10013 o0 ((nI 10) + x4).toNatClampNeg) + x5)] [] σ) ∧ (¬ (x1 ≤ ((σ.2.2 10013 o0 ((nI 10) + x4).toNatClampNeg) + x5)) → (vp_in ((nI 80) + ((σ.2.2 10013 o0 ((nI 10) + x4).toNatClampNeg) + x5)) 240 ∧ (((σ.2.2 10020 o0 ((nI 80) + ((σ.2.2 10013 o0 ((nI 10) + x4).toNatClampNeg) + x5)).toNatClampNeg) = x2 → T222 C Q 51 [vO 10 o0, vI x1, vI x2, vI x3, vI x4, vI x5, vI ((σ.2.2 10013 o0 ((nI 10) + x4).toNatClampNeg) + x5)] [] σ) ∧ (¬ ((σ.2.2 10020 o0 ((nI 80) + ((σ.2.2 10013 o0 ((nI 10) + x4).toNatClampNeg) + x5)).toNatClampNeg) = x2) → T222 C Q 49 [vO 10 o0, vI x1, vI x2, vI x3, vI x4, vI x5, vI ((σ.2.2 10013 o0 ((nI 10) + x4).toNatClampNeg) + x5)] [] σ)))))))))))) :
  T222 C Q 19 [vO 10 o0, vI x1, vI x2, vI x3, vI x4, vI x5, w6] [] σ := j2_T.go hC [0, 4, 15, 19, 49, 51, 52, 69] 400 h
set_option maxRecDepth 100000 in
theorem b222_49 {C : j2_C} (hC : j2_up1 C) {Q : j2_P} {o0 : Nat} {x1 : Int32} {x2 : Int32} {x3 : Int32} {x4 : Int32} {x5 : Int32} {x6 : Int32} {σ : j2_S}
  (h : T222 C Q 52 [vO 10 o0, vI x1, vI x2, vI x3, vI x4, vI x5, vI x6] [vI (nI 1)] σ) :
  T222 C Q 49 [vO 10 o0, vI x1, vI x2, vI x3, vI x4, vI x5, vI x6] [] σ := j2_T.go hC [0, 4, 15, 19, 49, 51, 52, 69] 400 h
set_option maxRecDepth 100000 in
theorem b222_51 {C : j2_C} (hC : j2_up1 C) {Q : j2_P} {o0 : Nat} {x1 : Int32} {x2 : Int32} {x3 : Int32} {x4 : Int32} {x5 : Int32} {x6 : Int32} {σ : j2_S}
  (h : T222 C Q 52 [vO 10 o0, vI x1, vI x2, vI x3, vI x4, vI x5, vI x6] [vI (nI 0)] σ) :
  T222 C Q 51 [vO 10 o0, vI x1, vI x2, vI x3, vI x4, vI x5, vI x6] [] σ := j2_T.go hC [0, 4, 15, 19, 49, 51, 52, 69] 400 h
set_option maxRecDepth 100000 in
theorem b222_52 {C : j2_C} (hC : j2_up1 C) {Q : j2_P} {o0 : Nat} {x1 : Int32} {x2 : Int32} {x3 : Int32} {x4 : Int32} {x5 : Int32} {x6 : Int32} {xs0 : Int32} {σ : j2_S}
  (h : T222 C Q 19 [vO 10 o0, vI x1, vI x2, vI xs0, vI x4, vI (x5 + (nI 1)), vI x6] [] σ) :
  T222 C Q 52 [vO 10 o0, vI x1, vI x2, vI x3, vI x4, vI x5, vI x6] [vI xs0] σ := j2_T.go hC [0, 4, 15, 19, 49, 51, 52, 69] 400 h
set_option maxRecDepth 100000 in
theorem b222_69 {C : j2_C} (hC : j2_up1 C) {Q : j2_P} {o0 : Nat} {x1 : Int32} {x2 : Int32} {x3 : Int32} {x4 : Int32} {w5 : j2_W} {w6 : j2_W} {xs0 : Int32} {xs1 : Int32} {σ : j2_S}
  (h : T222 C Q 4 [vO 10 o0, vI x1, vI (xs1 + xs0), vI x3, vI x4, w5, w6] [] σ) :
  T222 C Q 69 [vO 10 o0, vI x1, vI x2, vI x3, vI x4, w5, w6] [vI xs0, vI xs1] σ := j2_T.go hC [0, 4, 15, 19, 49, 51, 52, 69] 400 h
abbrev T223 (C : j2_C) (Q : j2_P) : j2_K := j2_T C jc_X10_write none Q
set_option maxRecDepth 100000 in
theorem b223_0 {C : j2_C} (hC : j2_up1 C) {Q : j2_P} {o0 : Nat} {x1 : Int32} {σ : j2_S}
  (h : (vp_in (σ.1 10076 o0) 60000 ∧ ((none : Option FieldType) = none ∧ Q none ((j2_up σ.1 10076 o0 ((σ.1 10076 o0) + (nI 1))), σ.2.1, (j2_ast σ.2.2 10075 o0 (σ.1 10076 o0).toNatClampNeg (x1 &&& (nI 255))))))) :
  T223 C Q 0 [vO 10 o0, vI x1] [] σ := j2_T.go hC [0] 400 h
abbrev T224 (C : j2_C) (Q : j2_P) : j2_K := j2_T C jc_X10_writeAll none Q
set_option maxRecDepth 100000 in
theorem b224_0 {C : j2_C} (hC : j2_up1 C) {Q : j2_P} {o0 : Nat} {σ : j2_S}
  (h : C 223 [vO 10 o0, vI (nI 83)] ((j2_up σ.1 10076 o0 (nI 0)), σ.2.1, σ.2.2) (fun r σ1 => T224 C Q 6 [vO 10 o0, vM 2, vM 2] (r.toList ++ []) σ1)) :
  T224 C Q 0 [vO 10 o0, vM 2, vM 2] [] σ := j2_T.go hC [0, 6, 9, 15, 17, 31, 41, 49, 51, 71, 83, 95, 105, 107, 125] 400 h
set_option maxRecDepth 100000 in
theorem b224_6 {C : j2_C} (hC : j2_up1 C) {Q : j2_P} {o0 : Nat} {σ : j2_S}
  (h : C 223 [vO 10 o0, vI (nI 72)] σ (fun r σ1 => T224 C Q 9 [vO 10 o0, vM 2, vM 2] (r.toList ++ []) σ1)) :
  T224 C Q 6 [vO 10 o0, vM 2, vM 2] [] σ := j2_T.go hC [0, 6, 9, 15, 17, 31, 41, 49, 51, 71, 83, 95, 105, 107, 125] 400 h
set_option maxRecDepth 100000 in
theorem b224_9 {C : j2_C} (hC : j2_up1 C) {Q : j2_P} {o0 : Nat} {σ : j2_S}
  (h : (vp_in (nI 1) 3 ∧ C 223 [vO 10 o0, vI (σ.2.2 10009 o0 (nI 1).toNatClampNeg)] σ (fun r σ1 => T224 C Q 15 [vO 10 o0, vM 2, vM 2] (r.toList ++ []) σ1))) :
  T224 C Q 9 [vO 10 o0, vM 2, vM 2] [] σ := j2_T.go hC [0, 6, 9, 15, 17, 31, 41, 49, 51, 71, 83, 95, 105, 107, 125] 400 h
set_option maxRecDepth 100000 in
theorem b224_15 {C : j2_C} (hC : j2_up1 C) {Q : j2_P} {o0 : Nat} {σ : j2_S}
  (h : T224 C Q 17 [vO 10 o0, vI (nI 0), vM 2] [] σ) :
  T224 C Q 15 [vO 10 o0, vM 2, vM 2] [] σ := j2_T.go hC [0, 6, 9, 15, 17, 31, 41, 49, 51, 71, 83, 95, 105, 107, 125] 400 h
set_option maxRecDepth 100000 in
theorem b224_17 {C : j2_C} (hC : j2_up1 C) {Q : j2_P} {o0 : Nat} {x1 : Int32} {w2 : j2_W} {σ : j2_S}
  (h : (vp_in (nI 1) 3 ∧ (((σ.2.2 10009 o0 (nI 1).toNatClampNeg) ≤ x1 → (vp_in (nI 1) 3 ∧ ((none : Option FieldType) = none ∧ Q none (σ.1, σ.2.1, (j2_ast σ.2.2 10034 o0 (nI 1).toNatClampNeg (σ.1 10076 o0)))))) ∧ (¬ ((σ.2.2 10009 o0 (nI 1).toNatClampNeg) ≤ x1) → (vp_in ((nI 10) + x1) 30 ∧ C 223 [vO 10 o0, vI (σ.2.2 10010 o0 ((nI 10) + x1).toNatClampNeg)] σ (fun r σ1 => T224 C Q 31 [vO 10 o0, vI x1, w2] (r.toList ++ []) σ1)))))) :
  T224 C Q 17 [vO 10 o0, vI x1, w2] [] σ := j2_T.go hC [0, 6, 9, 15, 17, 31, 41, 49, 51, 71, 83, 95, 105, 107, 125] 400 h
set_option maxRecDepth 100000 in
theorem b224_31 {C : j2_C} (hC : j2_up1 C) {Q : j2_P} {o0 : Nat} {x1 : Int32} {w2 : j2_W} {σ : j2_S}
  (h : (vp_in ((nI 10) + x1) 30 ∧ C 223 [vO 10 o0, vI ((σ.2.2 10011 o0 ((nI 10) + x1).toNatClampNeg) + (nI 1))] σ (fun r σ1 => T224 C Q 41 [vO 10 o0, vI x1, w2] (r.toList ++ []) σ1))) :
  T224 C Q 31 [vO 10 o0, vI x1, w2] [] σ := j2_T.go hC [0, 6, 9, 15, 17, 31, 41, 49, 51, 71, 83, 95, 105, 107, 125] 400 h
set_option maxRecDepth 100000 in
theorem b224_41 {C : j2_C} (hC : j2_up1 C) {Q : j2_P} {o0 : Nat} {x1 : Int32} {w2 : j2_W} {σ : j2_S}
  (h : (vp_in ((nI 10) + x1) 30 ∧ C 223 [vO 10 o0, vI (σ.2.2 10012 o0 ((nI 10) + x1).toNatClampNeg)] σ (fun r σ1 => T224 C Q 49 [vO 10 o0, vI x1, w2] (r.toList ++ []) σ1))) :
  T224 C Q 41 [vO 10 o0, vI x1, w2] [] σ := j2_T.go hC [0, 6, 9, 15, 17, 31, 41, 49, 51, 71, 83, 95, 105, 107, 125] 400 h
set_option maxRecDepth 100000 in
theorem b224_49 {C : j2_C} (hC : j2_up1 C) {Q : j2_P} {o0 : Nat} {x1 : Int32} {w2 : j2_W} {σ : j2_S}
  (h : T224 C Q 51 [vO 10 o0, vI x1, vI (nI 0)] [] σ) :
  T224 C Q 49 [vO 10 o0, vI x1, w2] [] σ := j2_T.go hC [0, 6, 9, 15, 17, 31, 41, 49, 51, 71, 83, 95, 105, 107, 125] 400 h
set_option maxRecDepth 100000 in
theorem b224_51 {C : j2_C} (hC : j2_up1 C) {Q : j2_P} {o0 : Nat} {x1 : Int32} {x2 : Int32} {σ : j2_S}
  (h : (vp_in ((nI 10) + x1) 30 ∧ (((σ.2.2 10012 o0 ((nI 10) + x1).toNatClampNeg) ≤ x2 → (vp_in ((nI 10) + x1) 30 ∧ C 223 [vO 10 o0, vI (σ.2.2 10014 o0 ((nI 10) + x1).toNatClampNeg)] σ (fun r σ1 => T224 C Q 105 [vO 10 o0, vI x1, vI x2] (r.toList ++ []) σ1))) ∧ (¬ ((σ.2.2 10012 o0 ((nI 10) + x1).toNatClampNeg) ≤ x2) → (vp_in (((nI 60) + ((nI 6) * x1)) + x2) 180 ∧ C 223 [vO 10 o0, vI (σ.2.2 10015 o0 (((nI 60) + ((nI 6) * x1)) + x2).toNatClampNeg)] σ (fun r σ1 => T224 C Q 71 [vO 10 o0, vI x1, vI x2] (r.toList ++ []) σ1)))))) :
  T224 C Q 51 [vO 10 o0, vI x1, vI x2] [] σ := j2_T.go hC [0, 6, 9, 15, 17, 31, 41, 49, 51, 71, 83, 95, 105, 107, 125] 400 h
set_option maxRecDepth 100000 in
theorem b224_71 {C : j2_C} (hC : j2_up1 C) {Q : j2_P} {o0 : Nat} {x1 : Int32} {x2 : Int32} {σ : j2_S}
  (h : (vp_in (((nI 60) + ((nI 6) * x1)) + x2) 180 ∧ C 223 [vO 10 o0, vI (σ.2.2 10016 o0 (((nI 60) + ((nI 6) * x1)) + x2).toNatClampNeg)] σ (fun r σ1 => T224 C Q 83 [vO 10 o0, vI x1, vI x2] (r.toList ++ []) σ1))) :
  T224 C Q 71 [vO 10 o0, vI x1, vI x2] [] σ := j2_T.go hC [0, 6, 9, 15, 17, 31, 41, 49, 51, 71, 83, 95, 105, 107, 125] 400 h
set_option maxRecDepth 100000 in
theorem b224_83 {C : j2_C} (hC : j2_up1 C) {Q : j2_P} {o0 : Nat} {x1 : Int32} {x2 : Int32} {σ : j2_S}
  (h : (vp_in (((nI 60) + ((nI 6) * x1)) + x2) 180 ∧ C 223 [vO 10 o0, vI (σ.2.2 10017 o0 (((nI 60) + ((nI 6) * x1)) + x2).toNatClampNeg)] σ (fun r σ1 => T224 C Q 95 [vO 10 o0, vI x1, vI x2] (r.toList ++ []) σ1))) :
  T224 C Q 83 [vO 10 o0, vI x1, vI x2] [] σ := j2_T.go hC [0, 6, 9, 15, 17, 31, 41, 49, 51, 71, 83, 95, 105, 107, 125] 400 h
set_option maxRecDepth 100000 in
theorem b224_95 {C : j2_C} (hC : j2_up1 C) {Q : j2_P} {o0 : Nat} {x1 : Int32} {x2 : Int32} {σ : j2_S}
  (h : T224 C Q 51 [vO 10 o0, vI x1, vI (x2 + (nI 1))] [] σ) :
  T224 C Q 95 [vO 10 o0, vI x1, vI x2] [] σ := j2_T.go hC [0, 6, 9, 15, 17, 31, 41, 49, 51, 71, 83, 95, 105, 107, 125] 400 h
set_option maxRecDepth 100000 in
theorem b224_105 {C : j2_C} (hC : j2_up1 C) {Q : j2_P} {o0 : Nat} {x1 : Int32} {x2 : Int32} {σ : j2_S}
  (h : T224 C Q 107 [vO 10 o0, vI x1, vI (nI 0)] [] σ) :
  T224 C Q 105 [vO 10 o0, vI x1, vI x2] [] σ := j2_T.go hC [0, 6, 9, 15, 17, 31, 41, 49, 51, 71, 83, 95, 105, 107, 125] 400 h
set_option maxRecDepth 100000 in
theorem b224_107 {C : j2_C} (hC : j2_up1 C) {Q : j2_P} {o0 : Nat} {x1 : Int32} {x2 : Int32} {σ : j2_S}
  (h : (vp_in ((nI 10) + x1) 30 ∧ (((σ.2.2 10014 o0 ((nI 10) + x1).toNatClampNeg) ≤ x2 → T224 C Q 17 [vO 10 o0, vI (x1 + (nI 1)), vI x2] [] σ) ∧ (¬ ((σ.2.2 10014 o0 ((nI 10) + x1).toNatClampNeg) ≤ x2) → (vp_in ((nI 10) + x1) 30 ∧ C 225 [vO 10 o0, vI ((σ.2.2 10013 o0 ((nI 10) + x1).toNatClampNeg) + x2)] σ (fun r σ1 => T224 C Q 125 [vO 10 o0, vI x1, vI x2] (r.toList ++ []) σ1)))))) :
  T224 C Q 107 [vO 10 o0, vI x1, vI x2] [] σ := j2_T.go hC [0, 6, 9, 15, 17, 31, 41, 49, 51, 71, 83, 95, 105, 107, 125] 400 h
set_option maxRecDepth 100000 in
theorem b224_125 {C : j2_C} (hC : j2_up1 C) {Q : j2_P} {o0 : Nat} {x1 : Int32} {x2 : Int32} {σ : j2_S}
  (h : T224 C Q 107 [vO 10 o0, vI x1, vI (x2 + (nI 1))] [] σ) :
  T224 C Q 125 [vO 10 o0, vI x1, vI x2] [] σ := j2_T.go hC [0, 6, 9, 15, 17, 31, 41, 49, 51, 71, 83, 95, 105, 107, 125] 400 h
abbrev T225 (C : j2_C) (Q : j2_P) : j2_K := j2_T C jc_X10_writeMethod none Q
set_option maxRecDepth 100000 in
theorem b225_0 {C : j2_C} (hC : j2_up1 C) {Q : j2_P} {o0 : Nat} {x1 : Int32} {σ : j2_S}
  (h : (vp_in ((nI 80) + x1) 240 ∧ C 223 [vO 10 o0, vI (σ.2.2 10020 o0 ((nI 80) + x1).toNatClampNeg)] σ (fun r σ1 => T225 C Q 10 [vO 10 o0, vI x1, vI ((nI 80) + x1), vM 2, vM 2, vM 2, vM 2] (r.toList ++ []) σ1))) :
  T225 C Q 0 [vO 10 o0, vI x1, vM 2, vM 2, vM 2, vM 2, vM 2] [] σ := j2_T.go hC [0, 10, 16, 22, 28, 30, 46, 54, 60, 62, 72, 81, 85, 95, 97, 105, 111, 118, 124, 126, 133] 400 h
set_option maxRecDepth 100000 in
theorem b225_10 {C : j2_C} (hC : j2_up1 C) {Q : j2_P} {o0 : Nat} {x1 : Int32} {x2 : Int32} {σ : j2_S}
  (h : (vp_in x2 240 ∧ C 223 [vO 10 o0, vI (σ.2.2 10021 o0 x2.toNatClampNeg)] σ (fun r σ1 => T225 C Q 16 [vO 10 o0, vI x1, vI x2, vM 2, vM 2, vM 2, vM 2] (r.toList ++ []) σ1))) :
  T225 C Q 10 [vO 10 o0, vI x1, vI x2, vM 2, vM 2, vM 2, vM 2] [] σ := j2_T.go hC [0, 10, 16, 22, 28, 30, 46, 54, 60, 62, 72, 81, 85, 95, 97, 105, 111, 118, 124, 126, 133] 400 h
set_option maxRecDepth 100000 in
theorem b225_16 {C : j2_C} (hC : j2_up1 C) {Q : j2_P} {o0 : Nat} {x1 : Int32} {x2 : Int32} {σ : j2_S}
  (h : (vp_in x2 240 ∧ C 223 [vO 10 o0, vI (σ.2.2 10022 o0 x2.toNatClampNeg)] σ (fun r σ1 => T225 C Q 22 [vO 10 o0, vI x1, vI x2, vM 2, vM 2, vM 2, vM 2] (r.toList ++ []) σ1))) :
  T225 C Q 16 [vO 10 o0, vI x1, vI x2, vM 2, vM 2, vM 2, vM 2] [] σ := j2_T.go hC [0, 10, 16, 22, 28, 30, 46, 54, 60, 62, 72, 81, 85, 95, 97, 105, 111, 118, 124, 126, 133] 400 h
set_option maxRecDepth 100000 in
theorem b225_22 {C : j2_C} (hC : j2_up1 C) {Q : j2_P} {o0 : Nat} {x1 : Int32} {x2 : Int32} {σ : j2_S}
  (h : (vp_in x2 240 ∧ C 223 [vO 10 o0, vI (σ.2.2 10023 o0 x2.toNatClampNeg)] σ (fun r σ1 => T225 C Q 28 [vO 10 o0, vI x1, vI x2, vM 2, vM 2, vM 2, vM 2] (r.toList ++ []) σ1))) :
  T225 C Q 22 [vO 10 o0, vI x1, vI x2, vM 2, vM 2, vM 2, vM 2] [] σ := j2_T.go hC [0, 10, 16, 22, 28, 30, 46, 54, 60, 62, 72, 81, 85, 95, 97, 105, 111, 118, 124, 126, 133] 400 h
set_option maxRecDepth 100000 in
theorem b225_28 {C : j2_C} (hC : j2_up1 C) {Q : j2_P} {o0 : Nat} {x1 : Int32} {x2 : Int32} {σ : j2_S}
  (h : T225 C Q 30 [vO 10 o0, vI x1, vI x2, vI (nI 0), vM 2, vM 2, vM 2] [] σ) :
  T225 C Q 28 [vO 10 o0, vI x1, vI x2, vM 2, vM 2, vM 2, vM 2] [] σ := j2_T.go hC [0, 10, 16, 22, 28, 30, 46, 54, 60, 62, 72, 81, 85, 95, 97, 105, 111, 118, 124, 126, 133] 400 h
set_option maxRecDepth 100000 in
theorem b225_30 {C : j2_C} (hC : j2_up1 C) {Q : j2_P} {o0 : Nat} {x1 : Int32} {x2 : Int32} {x3 : Int32} {σ : j2_S}
  (h : (vp_in x2 240 ∧ (((σ.2.2 10023 o0 x2.toNatClampNeg) ≤ x3 → (vp_in x2 240 ∧ C 223 [vO 10 o0, vI (σ.2.2 10025 o0 x2.toNatClampNeg)] σ (fun r σ1 => T225 C Q 54 [vO 10 o0, vI x1, vI x2, vI x3, vM 2, vM 2, vM 2] (r.toList ++ []) σ1))) ∧ (¬ ((σ.2.2 10023 o0 x2.toNatClampNeg) ≤ x3) → (vp_in (((nI 3) * x2) + x3) 720 ∧ C 223 [vO 10 o0, vI (σ.2.2 10024 o0 (((nI 3) * x2) + x3).toNatClampNeg)] σ (fun r σ1 => T225 C Q 46 [vO 10 o0, vI x1, vI x2, vI x3, vM 2, vM 2, vM 2] (r.toList ++ []) σ1)))))) :
  T225 C Q 30 [vO 10 o0, vI x1, vI x2, vI x3, vM 2, vM 2, vM 2] [] σ := j2_T.go hC [0, 10, 16, 22, 28, 30, 46, 54, 60, 62, 72, 81, 85, 95, 97, 105, 111, 118, 124, 126, 133] 400 h
set_option maxRecDepth 100000 in
theorem b225_46 {C : j2_C} (hC : j2_up1 C) {Q : j2_P} {o0 : Nat} {x1 : Int32} {x2 : Int32} {x3 : Int32} {σ : j2_S}
  (h : T225 C Q 30 [vO 10 o0, vI x1, vI x2, vI (x3 + (nI 1)), vM 2, vM 2, vM 2] [] σ) :
  T225 C Q 46 [vO 10 o0, vI x1, vI x2, vI x3, vM 2, vM 2, vM 2] [] σ := j2_T.go hC [0, 10, 16, 22, 28, 30, 46, 54, 60, 62, 72, 81, 85, 95, 97, 105, 111, 118, 124, 126, 133] 400 h
set_option maxRecDepth 100000 in
theorem b225_54 {C : j2_C} (hC : j2_up1 C) {Q : j2_P} {o0 : Nat} {x1 : Int32} {x2 : Int32} {x3 : Int32} {σ : j2_S}
  (h : (vp_in x2 240 ∧ C 223 [vO 10 o0, vI (σ.2.2 10026 o0 x2.toNatClampNeg)] σ (fun r σ1 => T225 C Q 60 [vO 10 o0, vI x1, vI x2, vI x3, vM 2, vM 2, vM 2] (r.toList ++ []) σ1))) :
  T225 C Q 54 [vO 10 o0, vI x1, vI x2, vI x3, vM 2, vM 2, vM 2] [] σ := j2_T.go hC [0, 10, 16, 22, 28, 30, 46, 54, 60, 62, 72, 81, 85, 95, 97, 105, 111, 118, 124, 126, 133] 400 h
set_option maxRecDepth 100000 in
theorem b225_60 {C : j2_C} (hC : j2_up1 C) {Q : j2_P} {o0 : Nat} {x1 : Int32} {x2 : Int32} {x3 : Int32} {σ : j2_S}
  (h : T225 C Q 62 [vO 10 o0, vI x1, vI x2, vI (nI 0), vM 2, vM 2, vM 2] [] σ) :
  T225 C Q 60 [vO 10 o0, vI x1, vI x2, vI x3, vM 2, vM 2, vM 2] [] σ := j2_T.go hC [0, 10, 16, 22, 28, 30, 46, 54, 60, 62, 72, 81, 85, 95, 97, 105, 111, 118, 124, 126, 133] 400 h
set_option maxRecDepth 100000 in
theorem b225_62 {C : j2_C} (hC : j2_up1 C) {Q : j2_P} {o0 : Nat} {x1 : Int32} {x2 : Int32} {x3 : Int32} {w4 : j2_W} {w5 : j2_W} {w6 : j2_W} {σ : j2_S}
  (h : (vp_in x2 240 ∧ (((σ.2.2 10026 o0 x2.toNatClampNeg) ≤ x3 → ((none : Option FieldType) = none ∧ Q none σ)) ∧ (¬ ((σ.2.2 10026 o0 x2.toNatClampNeg) ≤ x3) → C 160 [vI (nI 1), vI x1, vI x3] σ (fun r σ1 => T225 C Q 72 [vO 10 o0, vI x1, vI x2, vI x3, w4, w5, w6] (r.toList ++ []) σ1))))) :
  T225 C Q 62 [vO 10 o0, vI x1, vI x2, vI x3, w4, w5, w6] [] σ := j2_T.go hC [0, 10, 16, 22, 28, 30, 46, 54, 60, 62, 72, 81, 85, 95, 97, 105, 111, 118, 124, 126, 133] 400 h
set_option maxRecDepth 100000 in
theorem b225_72 {C : j2_C} (hC : j2_up1 C) {Q : j2_P} {o0 : Nat} {x1 : Int32} {x2 : Int32} {x3 : Int32} {w4 : j2_W} {w5 : j2_W} {w6 : j2_W} {xs0 : Int32} {σ : j2_S}
  (h : (vp_in xs0 28800 ∧ C 223 [vO 10 o0, vI (σ.2.2 10027 o0 xs0.toNatClampNeg)] σ (fun r σ1 => T225 C Q 81 [vO 10 o0, vI x1, vI x2, vI x3, vI xs0, vI (σ.2.2 10027 o0 xs0.toNatClampNeg), w6] (r.toList ++ []) σ1))) :
  T225 C Q 72 [vO 10 o0, vI x1, vI x2, vI x3, w4, w5, w6] [vI xs0] σ := j2_T.go hC [0, 10, 16, 22, 28, 30, 46, 54, 60, 62, 72, 81, 85, 95, 97, 105, 111, 118, 124, 126, 133] 400 h
set_option maxRecDepth 100000 in
theorem b225_81 {C : j2_C} (hC : j2_up1 C) {Q : j2_P} {o0 : Nat} {x1 : Int32} {x2 : Int32} {x3 : Int32} {x4 : Int32} {x5 : Int32} {w6 : j2_W} {σ : j2_S}
  (h : ((¬ x5 = 0 → T225 C Q 97 [vO 10 o0, vI x1, vI x2, vI x3, vI x4, vI x5, w6] [] σ) ∧ (¬ (¬ x5 = 0) → T225 C Q 85 [vO 10 o0, vI x1, vI x2, vI x3, vI x4, vI x5, vI (nI 24)] [] σ))) :
  T225 C Q 81 [vO 10 o0, vI x1, vI x2, vI x3, vI x4, vI x5, w6] [] σ := j2_T.go hC [0, 10, 16, 22, 28, 30, 46, 54, 60, 62, 72, 81, 85, 95, 97, 105, 111, 118, 124, 126, 133] 400 h
set_option maxRecDepth 100000 in
theorem b225_85 {C : j2_C} (hC : j2_up1 C) {Q : j2_P} {o0 : Nat} {x1 : Int32} {x2 : Int32} {x3 : Int32} {x4 : Int32} {x5 : Int32} {x6 : Int32} {σ : j2_S}
  (h : ((x6 < 0 → T225 C Q 97 [vO 10 o0, vI x1, vI x2, vI x3, vI x4, vI x5, vI x6] [] σ) ∧ (¬ (x6 < 0) → (vp_in x4 28800 ∧ C 223 [vO 10 o0, vI ((σ.2.2 10028 o0 x4.toNatClampNeg) >>> (x6 &&& 31))] σ (fun r σ1 => T225 C Q 95 [vO 10 o0, vI x1, vI x2, vI x3, vI x4, vI x5, vI x6] (r.toList ++ []) σ1))))) :
  T225 C Q 85 [vO 10 o0, vI x1, vI x2, vI x3, vI x4, vI x5, vI x6] [] σ := j2_T.go hC [0, 10, 16, 22, 28, 30, 46, 54, 60, 62, 72, 81, 85, 95, 97, 105, 111, 118, 124, 126, 133] 400 h
set_option maxRecDepth 100000 in
theorem b225_95 {C : j2_C} (hC : j2_up1 C) {Q : j2_P} {o0 : Nat} {x1 : Int32} {x2 : Int32} {x3 : Int32} {x4 : Int32} {x5 : Int32} {x6 : Int32} {σ : j2_S}
  (h : T225 C Q 85 [vO 10 o0, vI x1, vI x2, vI x3, vI x4, vI x5, vI (x6 + (-8 : Int32))] [] σ) :
  T225 C Q 95 [vO 10 o0, vI x1, vI x2, vI x3, vI x4, vI x5, vI x6] [] σ := j2_T.go hC [0, 10, 16, 22, 28, 30, 46, 54, 60, 62, 72, 81, 85, 95, 97, 105, 111, 118, 124, 126, 133] 400 h
set_option maxRecDepth 100000 in
theorem b225_97 {C : j2_C} (hC : j2_up1 C) {Q : j2_P} {o0 : Nat} {x1 : Int32} {x2 : Int32} {x3 : Int32} {x4 : Int32} {x5 : Int32} {w6 : j2_W} {σ : j2_S}
  (h : ((x5 = (nI 2) → T225 C Q 118 [vO 10 o0, vI x1, vI x2, vI x3, vI x4, vI x5, w6] [] σ) ∧ (¬ (x5 = (nI 2)) → ((x5 = (nI 3) → T225 C Q 118 [vO 10 o0, vI x1, vI x2, vI x3, vI x4, vI x5, w6] [] σ) ∧ (¬ (x5 = (nI 3)) → C 164 [vI x5] σ (fun r σ1 => T225 C Q 105 [vO 10 o0, vI x1, vI x2, vI x3, vI x4, vI x5, w6] (r.toList ++ []) σ1)))))) :
  T225 C Q 97 [vO 10 o0, vI x1, vI x2, vI x3, vI x4, vI x5, w6] [] σ := j2_T.go hC [0, 10, 16, 22, 28, 30, 46, 54, 60, 62, 72, 81, 85, 95, 97, 105, 111, 118, 124, 126, 133] 400 h
set_option maxRecDepth 100000 in
theorem b225_105 {C : j2_C} (hC : j2_up1 C) {Q : j2_P} {o0 : Nat} {x1 : Int32} {x2 : Int32} {x3 : Int32} {x4 : Int32} {x5 : Int32} {w6 : j2_W} {xs0 : Int32} {σ : j2_S}
  (h : ((¬ xs0 = 0 → T225 C Q 118 [vO 10 o0, vI x1, vI x2, vI x3, vI x4, vI x5, w6] [] σ) ∧ (¬ (¬ xs0 = 0) → ((x5 = (nI 15) → T225 C Q 118 [vO 10 o0, vI x1, vI x2, vI x3, vI x4, vI x5, w6] [] σ) ∧ (¬ (x5 = (nI 15)) → C 165 [vI x5] σ (fun r σ1 => T225 C Q 111 [vO 10 o0, vI x1, vI x2, vI x3, vI x4, vI x5, w6] (r.toList ++ []) σ1)))))) :
  T225 C Q 105 [vO 10 o0, vI x1, vI x2, vI x3, vI x4, vI x5, w6] [vI xs0] σ := j2_T.go hC [0, 10, 16, 22, 28, 30, 46, 54, 60, 62, 72, 81, 85, 95, 97, 105, 111, 118, 124, 126, 133] 400 h
set_option maxRecDepth 100000 in
theorem b225_111 {C : j2_C} (hC : j2_up1 C) {Q : j2_P} {o0 : Nat} {x1 : Int32} {x2 : Int32} {x3 : Int32} {x4 : Int32} {x5 : Int32} {w6 : j2_W} {xs0 : Int32} {σ : j2_S}
  (h : ((¬ xs0 = 0 → T225 C Q 118 [vO 10 o0, vI x1, vI x2, vI x3, vI x4, vI x5, w6] [] σ) ∧ (¬ (¬ xs0 = 0) → ((x5 = (nI 24) → T225 C Q 118 [vO 10 o0, vI x1, vI x2, vI x3, vI x4, vI x5, w6] [] σ) ∧ (¬ (x5 = (nI 24)) → ((¬ x5 = (nI 25) → T225 C Q 124 [vO 10 o0, vI x1, vI x2, vI x3, vI x4, vI x5, w6] [] σ) ∧ (¬ (¬ x5 = (nI 25)) → T225 C Q 118 [vO 10 o0, vI x1, vI x2, vI x3, vI x4, vI x5, w6] [] σ))))))) :
  T225 C Q 111 [vO 10 o0, vI x1, vI x2, vI x3, vI x4, vI x5, w6] [vI xs0] σ := j2_T.go hC [0, 10, 16, 22, 28, 30, 46, 54, 60, 62, 72, 81, 85, 95, 97, 105, 111, 118, 124, 126, 133] 400 h
set_option maxRecDepth 100000 in
theorem b225_118 {C : j2_C} (hC : j2_up1 C) {Q : j2_P} {o0 : Nat} {x1 : Int32} {x2 : Int32} {x3 : Int32} {x4 : Int32} {x5 : Int32} {w6 : j2_W} {σ : j2_S}
  (h : (vp_in x4 28800 ∧ C 223 [vO 10 o0, vI (σ.2.2 10028 o0 x4.toNatClampNeg)] σ (fun r σ1 => T225 C Q 124 [vO 10 o0, vI x1, vI x2, vI x3, vI x4, vI x5, w6] (r.toList ++ []) σ1))) :
  T225 C Q 118 [vO 10 o0, vI x1, vI x2, vI x3, vI x4, vI x5, w6] [] σ := j2_T.go hC [0, 10, 16, 22, 28, 30, 46, 54, 60, 62, 72, 81, 85, 95, 97, 105, 111, 118, 124, 126, 133] 400 h
set_option maxRecDepth 100000 in
theorem b225_124 {C : j2_C} (hC : j2_up1 C) {Q : j2_P} {o0 : Nat} {x1 : Int32} {x2 : Int32} {x3 : Int32} {x4 : Int32} {x5 : Int32} {w6 : j2_W} {σ : j2_S}
  (h : C 165 [vI x5] σ (fun r σ1 => T225 C Q 126 [vO 10 o0, vI x1, vI x2, vI x3, vI x4, vI x5, w6] (r.toList ++ []) σ1)) :
  T225 C Q 124 [vO 10 o0, vI x1, vI x2, vI x3, vI x4, vI x5, w6] [] σ := j2_T.go hC [0, 10, 16, 22, 28, 30, 46, 54, 60, 62, 72, 81, 85, 95, 97, 105, 111, 118, 124, 126, 133] 400 h
set_option maxRecDepth 100000 in
theorem b225_126 {C : j2_C} (hC : j2_up1 C) {Q : j2_P} {o0 : Nat} {x1 : Int32} {x2 : Int32} {x3 : Int32} {x4 : Int32} {x5 : Int32} {w6 : j2_W} {xs0 : Int32} {σ : j2_S}
  (h : ((xs0 = 0 → T225 C Q 133 [vO 10 o0, vI x1, vI x2, vI x3, vI x4, vI x5, w6] [] σ) ∧ (¬ (xs0 = 0) → (vp_in x4 28800 ∧ C 223 [vO 10 o0, vI (σ.2.2 10029 o0 x4.toNatClampNeg)] σ (fun r σ1 => T225 C Q 133 [vO 10 o0, vI x1, vI x2, vI x3, vI x4, vI x5, w6] (r.toList ++ []) σ1))))) :
  T225 C Q 126 [vO 10 o0, vI x1, vI x2, vI x3, vI x4, vI x5, w6] [vI xs0] σ := j2_T.go hC [0, 10, 16, 22, 28, 30, 46, 54, 60, 62, 72, 81, 85, 95, 97, 105, 111, 118, 124, 126, 133] 400 h
set_option maxRecDepth 100000 in
theorem b225_133 {C : j2_C} (hC : j2_up1 C) {Q : j2_P} {o0 : Nat} {x1 : Int32} {x2 : Int32} {x3 : Int32} {x4 : Int32} {x5 : Int32} {w6 : j2_W} {σ : j2_S}
  (h : T225 C Q 62 [vO 10 o0, vI x1, vI x2, vI (x3 + (nI 1)), vI x4, vI x5, w6] [] σ) :
  T225 C Q 133 [vO 10 o0, vI x1, vI x2, vI x3, vI x4, vI x5, w6] [] σ := j2_T.go hC [0, 10, 16, 22, 28, 30, 46, 54, 60, 62, 72, 81, 85, 95, 97, 105, 111, 118, 124, 126, 133] 400 h
abbrev T226 (C : j2_C) (Q : j2_P) : j2_K := j2_T C jc_X10_shrink (some .int) Q
set_option maxRecDepth 100000 in
theorem b226_0 {C : j2_C} (hC : j2_up1 C) {Q : j2_P} {o0 : Nat} {x1 : Int32} {σ : j2_S}
  (h : ((x1 < 0 → T226 C Q 8 [vO 10 o0, vI x1, vM 2] [] ((j2_up σ.1 10000 o0 (nI 0)), σ.2.1, σ.2.2)) ∧ (¬ (x1 < 0) → ((x1 ≤ (nI 12) → ((((j2_up σ.1 10000 o0 (nI 0)) 10043 o0) = 0 → T226 C Q 19 [vO 10 o0, vI x1, vM 2] [] ((j2_up σ.1 10000 o0 (nI 0)), σ.2.1, σ.2.2)) ∧ (¬ (((j2_up σ.1 10000 o0 (nI 0)) 10043 o0) = 0) → ((¬ ((j2_up σ.1 10000 o0 (nI 0)) 10045 o0) = 0 → T226 C Q 26 [vO 10 o0, vI x1, vI (nI 0)] [] ((j2_up σ.1 10000 o0 (nI 0)), σ.2.1, σ.2.2)) ∧ (¬ (¬ ((j2_up σ.1 10000 o0 (nI 0)) 10045 o0) = 0) → T226 C Q 19 [vO 10 o0, vI x1, vM 2] [] ((j2_up σ.1 10000 o0 (nI 0)), σ.2.1, σ.2.2)))))) ∧ (¬ (x1 ≤ (nI 12)) → T226 C Q 8 [vO 10 o0, vI x1, vM 2] [] ((j2_up σ.1 10000 o0 (nI 0)), σ.2.1, σ.2.2)))))) :
  T226 C Q 0 [vO 10 o0, vI x1, vM 2] [] σ := j2_T.go hC [0, 8, 19, 26, 39, 41, 53, 61, 65, 80, 84, 98, 103, 105, 107, 109, 111, 113] 400 h
set_option maxRecDepth 100000 in
theorem b226_8 {C : j2_C} (hC : j2_up1 C) {Q : j2_P} {o0 : Nat} {x1 : Int32} {σ : j2_S}
  (h : (True ∧ Q (some (vI (nI 0))) ((j2_up σ.1 10000 o0 (nI 1)), σ.2.1, σ.2.2))) :
  T226 C Q 8 [vO 10 o0, vI x1, vM 2] [] σ := j2_T.go hC [0, 8, 19, 26, 39, 41, 53, 61, 65, 80, 84, 98, 103, 105, 107, 109, 111, 113] 400 h
set_option maxRecDepth 100000 in
theorem b226_19 {C : j2_C} (hC : j2_up1 C) {Q : j2_P} {o0 : Nat} {x1 : Int32} {σ : j2_S}
  (h : (True ∧ Q (some (vI (nI 0))) ((j2_up σ.1 10000 o0 (nI 2)), σ.2.1, σ.2.2))) :
  T226 C Q 19 [vO 10 o0, vI x1, vM 2] [] σ := j2_T.go hC [0, 8, 19, 26, 39, 41, 53, 61, 65, 80, 84, 98, 103, 105, 107, 109, 111, 113] 400 h
set_option maxRecDepth 100000 in
theorem b226_26 {C : j2_C} (hC : j2_up1 C) {Q : j2_P} {o0 : Nat} {x1 : Int32} {x2 : Int32} {σ : j2_S}
  (h : (((nI 23) ≤ x2 → C 194 [vO 10 o0, vI (nI 0)] σ (fun r σ1 => T226 C Q 39 [vO 10 o0, vI x1, vI x2] (r.toList ++ []) σ1)) ∧ (¬ ((nI 23) ≤ x2) → (vp_in x2 23 ∧ T226 C Q 26 [vO 10 o0, vI x1, vI (x2 + (nI 1))] [] (σ.1, σ.2.1, (j2_ast σ.2.2 10052 o0 x2.toNatClampNeg (nI 0))))))) :
  T226 C Q 26 [vO 10 o0, vI x1, vI x2] [] σ := j2_T.go hC [0, 8, 19, 26, 39, 41, 53, 61, 65, 80, 84, 98, 103, 105, 107, 109, 111, 113] 400 h
set_option maxRecDepth 100000 in
theorem b226_39 {C : j2_C} (hC : j2_up1 C) {Q : j2_P} {o0 : Nat} {x1 : Int32} {x2 : Int32} {σ : j2_S}
  (h : T226 C Q 41 [vO 10 o0, vI x1, vI (nI 0)] [] σ) :
  T226 C Q 39 [vO 10 o0, vI x1, vI x2] [] σ := j2_T.go hC [0, 8, 19, 26, 39, 41, 53, 61, 65, 80, 84, 98, 103, 105, 107, 109, 111, 113] 400 h
set_option maxRecDepth 100000 in
theorem b226_41 {C : j2_C} (hC : j2_up1 C) {Q : j2_P} {o0 : Nat} {x1 : Int32} {x2 : Int32} {σ : j2_S}
  (h : (vp_in (nI 0) 3 ∧ (((σ.2.2 10018 o0 (nI 0).toNatClampNeg) ≤ x2 → T226 C Q 65 [vO 10 o0, vI x1, vI (nI 0)] [] σ) ∧ (¬ ((σ.2.2 10018 o0 (nI 0).toNatClampNeg) ≤ x2) → C 181 [vO 10 o0, vI (nI 0), vI x2, vI (nI 2), vI x2] σ (fun r σ1 => T226 C Q 53 [vO 10 o0, vI x1, vI x2] (r.toList ++ []) σ1))))) :
  T226 C Q 41 [vO 10 o0, vI x1, vI x2] [] σ := j2_T.go hC [0, 8, 19, 26, 39, 41, 53, 61, 65, 80, 84, 98, 103, 105, 107, 109, 111, 113] 400 h
set_option maxRecDepth 100000 in
theorem b226_53 {C : j2_C} (hC : j2_up1 C) {Q : j2_P} {o0 : Nat} {x1 : Int32} {x2 : Int32} {σ : j2_S}
  (h : (vp_in x2 80 ∧ (((σ.2.2 10049 o0 x2.toNatClampNeg) = 0 → T226 C Q 61 [vO 10 o0, vI x1, vI x2] [] σ) ∧ (¬ ((σ.2.2 10049 o0 x2.toNatClampNeg) = 0) → C 196 [vO 10 o0, vI x2] σ (fun r σ1 => T226 C Q 61 [vO 10 o0, vI x1, vI x2] (r.toList ++ []) σ1))))) :
  T226 C Q 53 [vO 10 o0, vI x1, vI x2] [] σ := j2_T.go hC [0, 8, 19, 26, 39, 41, 53, 61, 65, 80, 84, 98, 103, 105, 107, 109, 111, 113] 400 h
set_option maxRecDepth 100000 in
theorem b226_61 {C : j2_C} (hC : j2_up1 C) {Q : j2_P} {o0 : Nat} {x1 : Int32} {x2 : Int32} {σ : j2_S}
  (h : T226 C Q 41 [vO 10 o0, vI x1, vI (x2 + (nI 1))] [] σ) :
  T226 C Q 61 [vO 10 o0, vI x1, vI x2] [] σ := j2_T.go hC [0, 8, 19, 26, 39, 41, 53, 61, 65, 80, 84, 98, 103, 105, 107, 109, 111, 113] 400 h
set_option maxRecDepth 100000 in
theorem b226_65 {C : j2_C} (hC : j2_up1 C) {Q : j2_P} {o0 : Nat} {x1 : Int32} {x2 : Int32} {σ : j2_S}
  (h : (vp_in (nI 0) 3 ∧ (((σ.2.2 10018 o0 (nI 0).toNatClampNeg) ≤ x2 → T226 C Q 84 [vO 10 o0, vI x1, vI (nI 0)] [] σ) ∧ (¬ ((σ.2.2 10018 o0 (nI 0).toNatClampNeg) ≤ x2) → (vp_in x2 80 ∧ (((σ.2.2 10049 o0 x2.toNatClampNeg) = 0 → T226 C Q 80 [vO 10 o0, vI x1, vI x2] [] σ) ∧ (¬ ((σ.2.2 10049 o0 x2.toNatClampNeg) = 0) → C 199 [vO 10 o0, vI x2, vI x1] σ (fun r σ1 => T226 C Q 80 [vO 10 o0, vI x1, vI x2] (r.toList ++ []) σ1)))))))) :
  T226 C Q 65 [vO 10 o0, vI x1, vI x2] [] σ := j2_T.go hC [0, 8, 19, 26, 39, 41, 53, 61, 65, 80, 84, 98, 103, 105, 107, 109, 111, 113] 400 h
set_option maxRecDepth 100000 in
theorem b226_80 {C : j2_C} (hC : j2_up1 C) {Q : j2_P} {o0 : Nat} {x1 : Int32} {x2 : Int32} {σ : j2_S}
  (h : T226 C Q 65 [vO 10 o0, vI x1, vI (x2 + (nI 1))] [] σ) :
  T226 C Q 80 [vO 10 o0, vI x1, vI x2] [] σ := j2_T.go hC [0, 8, 19, 26, 39, 41, 53, 61, 65, 80, 84, 98, 103, 105, 107, 109, 111, 113] 400 h
set_option maxRecDepth 100000 in
theorem b226_84 {C : j2_C} (hC : j2_up1 C) {Q : j2_P} {o0 : Nat} {x1 : Int32} {x2 : Int32} {σ : j2_S}
  (h : (vp_in (nI 0) 3 ∧ (((σ.2.2 10018 o0 (nI 0).toNatClampNeg) ≤ x2 → C 194 [vO 10 o0, vI (nI 2)] σ (fun r σ1 => T226 C Q 103 [vO 10 o0, vI x1, vI x2] (r.toList ++ []) σ1)) ∧ (¬ ((σ.2.2 10018 o0 (nI 0).toNatClampNeg) ≤ x2) → (vp_in x2 80 ∧ (((σ.2.2 10049 o0 x2.toNatClampNeg) = 0 → T226 C Q 98 [vO 10 o0, vI x1, vI x2] [] σ) ∧ (¬ ((σ.2.2 10049 o0 x2.toNatClampNeg) = 0) → C 212 [vO 10 o0, vI x2] σ (fun r σ1 => T226 C Q 98 [vO 10 o0, vI x1, vI x2] (r.toList ++ []) σ1)))))))) :
  T226 C Q 84 [vO 10 o0, vI x1, vI x2] [] σ := j2_T.go hC [0, 8, 19, 26, 39, 41, 53, 61, 65, 80, 84, 98, 103, 105, 107, 109, 111, 113] 400 h
set_option maxRecDepth 100000 in
theorem b226_98 {C : j2_C} (hC : j2_up1 C) {Q : j2_P} {o0 : Nat} {x1 : Int32} {x2 : Int32} {σ : j2_S}
  (h : T226 C Q 84 [vO 10 o0, vI x1, vI (x2 + (nI 1))] [] σ) :
  T226 C Q 98 [vO 10 o0, vI x1, vI x2] [] σ := j2_T.go hC [0, 8, 19, 26, 39, 41, 53, 61, 65, 80, 84, 98, 103, 105, 107, 109, 111, 113] 400 h
set_option maxRecDepth 100000 in
theorem b226_103 {C : j2_C} (hC : j2_up1 C) {Q : j2_P} {o0 : Nat} {x1 : Int32} {x2 : Int32} {σ : j2_S}
  (h : C 215 [vO 10 o0] σ (fun r σ1 => T226 C Q 105 [vO 10 o0, vI x1, vI x2] (r.toList ++ []) σ1)) :
  T226 C Q 103 [vO 10 o0, vI x1, vI x2] [] σ := j2_T.go hC [0, 8, 19, 26, 39, 41, 53, 61, 65, 80, 84, 98, 103, 105, 107, 109, 111, 113] 400 h
set_option maxRecDepth 100000 in
theorem b226_105 {C : j2_C} (hC : j2_up1 C) {Q : j2_P} {o0 : Nat} {x1 : Int32} {x2 : Int32} {σ : j2_S}
  (h : C 217 [vO 10 o0] σ (fun r σ1 => T226 C Q 107 [vO 10 o0, vI x1, vI x2] (r.toList ++ []) σ1)) :
  T226 C Q 105 [vO 10 o0, vI x1, vI x2] [] σ := j2_T.go hC [0, 8, 19, 26, 39, 41, 53, 61, 65, 80, 84, 98, 103, 105, 107, 109, 111, 113] 400 h
set_option maxRecDepth 100000 in
theorem b226_107 {C : j2_C} (hC : j2_up1 C) {Q : j2_P} {o0 : Nat} {x1 : Int32} {x2 : Int32} {σ : j2_S}
  (h : C 219 [vO 10 o0] σ (fun r σ1 => T226 C Q 109 [vO 10 o0, vI x1, vI x2] (r.toList ++ []) σ1)) :
  T226 C Q 107 [vO 10 o0, vI x1, vI x2] [] σ := j2_T.go hC [0, 8, 19, 26, 39, 41, 53, 61, 65, 80, 84, 98, 103, 105, 107, 109, 111, 113] 400 h
set_option maxRecDepth 100000 in
theorem b226_109 {C : j2_C} (hC : j2_up1 C) {Q : j2_P} {o0 : Nat} {x1 : Int32} {x2 : Int32} {σ : j2_S}
  (h : C 221 [vO 10 o0] σ (fun r σ1 => T226 C Q 111 [vO 10 o0, vI x1, vI x2] (r.toList ++ []) σ1)) :
  T226 C Q 109 [vO 10 o0, vI x1, vI x2] [] σ := j2_T.go hC [0, 8, 19, 26, 39, 41, 53, 61, 65, 80, 84, 98, 103, 105, 107, 109, 111, 113] 400 h
set_option maxRecDepth 100000 in
theorem b226_111 {C : j2_C} (hC : j2_up1 C) {Q : j2_P} {o0 : Nat} {x1 : Int32} {x2 : Int32} {σ : j2_S}
  (h : C 224 [vO 10 o0] σ (fun r σ1 => T226 C Q 113 [vO 10 o0, vI x1, vI x2] (r.toList ++ []) σ1)) :
  T226 C Q 111 [vO 10 o0, vI x1, vI x2] [] σ := j2_T.go hC [0, 8, 19, 26, 39, 41, 53, 61, 65, 80, 84, 98, 103, 105, 107, 109, 111, 113] 400 h
set_option maxRecDepth 100000 in
theorem b226_113 {C : j2_C} (hC : j2_up1 C) {Q : j2_P} {o0 : Nat} {x1 : Int32} {x2 : Int32} {σ : j2_S}
  (h : (((nI 1) = 0 ∨ (nI 1) = 1) ∧ (True ∧ Q (some (vI ((j2_up σ.1 10044 o0 (nI 1)) 10076 o0))) ((j2_up σ.1 10044 o0 (nI 1)), σ.2.1, σ.2.2)))) :
  T226 C Q 113 [vO 10 o0, vI x1, vI x2] [] σ := j2_T.go hC [0, 8, 19, 26, 39, 41, 53, 61, 65, 80, 84, 98, 103, 105, 107, 109, 111, 113] 400 h
abbrev T227 (C : j2_C) (Q : j2_P) : j2_K := j2_T C jc_X10_out (some .int) Q
set_option maxRecDepth 100000 in
theorem b227_0 {C : j2_C} (hC : j2_up1 C) {Q : j2_P} {o0 : Nat} {x1 : Int32} {σ : j2_S}
  (h : ((((j2_up σ.1 10000 o0 (nI 0)) 10044 o0) = 0 → T227 C Q 12 [vO 10 o0, vI x1] [] ((j2_up σ.1 10000 o0 (nI 0)), σ.2.1, σ.2.2)) ∧ (¬ (((j2_up σ.1 10000 o0 (nI 0)) 10044 o0) = 0) → ((x1 < 0 → T227 C Q 12 [vO 10 o0, vI x1] [] ((j2_up σ.1 10000 o0 (nI 0)), σ.2.1, σ.2.2)) ∧ (¬ (x1 < 0) → ((x1 < ((j2_up σ.1 10000 o0 (nI 0)) 10076 o0) → (vp_in x1 60000 ∧ (True ∧ Q (some (vI (σ.2.2 10075 o0 x1.toNatClampNeg))) ((j2_up σ.1 10000 o0 (nI 0)), σ.2.1, σ.2.2)))) ∧ (¬ (x1 < ((j2_up σ.1 10000 o0 (nI 0)) 10076 o0)) → T227 C Q 12 [vO 10 o0, vI x1] [] ((j2_up σ.1 10000 o0 (nI 0)), σ.2.1, σ.2.2)))))))) :
  T227 C Q 0 [vO 10 o0, vI x1] [] σ := j2_T.go hC [0, 12] 400 h
set_option maxRecDepth 100000 in
theorem b227_12 {C : j2_C} (hC : j2_up1 C) {Q : j2_P} {o0 : Nat} {x1 : Int32} {σ : j2_S}
  (h : (True ∧ Q (some (vI (-1 : Int32))) σ)) :
  T227 C Q 12 [vO 10 o0, vI x1] [] σ := j2_T.go hC [0, 12] 400 h
abbrev T228 (C : j2_C) (Q : j2_P) : j2_K := j2_T C jc_X10_kept (some .int) Q
set_option maxRecDepth 100000 in
theorem b228_0 {C : j2_C} (hC : j2_up1 C) {Q : j2_P} {o0 : Nat} {x1 : Int32} {x2 : Int32} {x3 : Int32} {σ : j2_S}
  (h : ((((j2_up σ.1 10000 o0 (nI 0)) 10044 o0) = 0 → (True ∧ Q (some (vI (-1 : Int32))) ((j2_up σ.1 10000 o0 (nI 0)), σ.2.1, σ.2.2))) ∧ (¬ (((j2_up σ.1 10000 o0 (nI 0)) 10044 o0) = 0) → ((x2 < 0 → (True ∧ Q (some (vI (-1 : Int32))) ((j2_up σ.1 10000 o0 (nI 0)), σ.2.1, σ.2.2))) ∧ (¬ (x2 < 0) → (vp_in (nI 0) 3 ∧ ((x2 < (σ.2.2 10009 o0 (nI 0).toNatClampNeg) → ((¬ x1 = 0 → ((¬ x1 = (nI 1) → ((¬ x1 = (nI 2) → T228 C Q 56 [vO 10 o0, vI x1, vI x2, vI x3] [] ((j2_up σ.1 10000 o0 (nI 0)), σ.2.1, σ.2.2)) ∧ (¬ (¬ x1 = (nI 2)) → ((x3 < 0 → T228 C Q 56 [vO 10 o0, vI x1, vI x2, vI x3] [] ((j2_up σ.1 10000 o0 (nI 0)), σ.2.1, σ.2.2)) ∧ (¬ (x3 < 0) → (vp_in x2 30 ∧ ((x3 < (σ.2.2 10014 o0 x2.toNatClampNeg) → (vp_in x2 30 ∧ (vp_in ((σ.2.2 10013 o0 x2.toNatClampNeg) + x3) 80 ∧ (True ∧ Q (some (vI (σ.2.2 10071 o0 ((σ.2.2 10013 o0 x2.toNatClampNeg) + x3).toNatClampNeg))) ((j2_up σ.1 10000 o0 (nI 0)), σ.2.1, σ.2.2))))) ∧ (¬ (x3 < (σ.2.2 10014 o0 x2.toNatClampNeg)) → T228 C Q 56 [vO 10 o0, vI x1, vI x2, vI x3] [] ((j2_up σ.1 10000 o0 (nI 0)), σ.2.1, σ.2.2))))))))) ∧ (¬ (¬ x1 = (nI 1)) → ((x3 < 0 → T228 C Q 34 [vO 10 o0, vI x1, vI x2, vI x3] [] ((j2_up σ.1 10000 o0 (nI 0)), σ.2.1, σ.2.2)) ∧ (¬ (x3 < 0) → (vp_in x2 30 ∧ ((x3 < (σ.2.2 10012 o0 x2.toNatClampNeg) → (vp_in (((nI 6) * x2) + x3) 60 ∧ (True ∧ Q (some (vI (σ.2.2 10070 o0 (((nI 6) * x2) + x3).toNatClampNeg))) ((j2_up σ.1 10000 o0 (nI 0)), σ.2.1, σ.2.2)))) ∧ (¬ (x3 < (σ.2.2 10012 o0 x2.toNatClampNeg)) → T228 C Q 34 [vO 10 o0, vI x1, vI x2, vI x3] [] ((j2_up σ.1 10000 o0 (nI 0)), σ.2.1, σ.2.2))))))))) ∧ (¬ (¬ x1 = 0) → (vp_in x2 10 ∧ (True ∧ Q (some (vI (σ.2.2 10069 o0 x2.toNatClampNeg))) ((j2_up σ.1 10000 o0 (nI 0)), σ.2.1, σ.2.2)))))) ∧ (¬ (x2 < (σ.2.2 10009 o0 (nI 0).toNatClampNeg)) → (True ∧ Q (some (vI (-1 : Int32))) ((j2_up σ.1 10000 o0 (nI 0)), σ.2.1, σ.2.2)))))))))) :
  T228 C Q 0 [vO 10 o0, vI x1, vI x2, vI x3] [] σ := j2_T.go hC [0, 34, 56] 400 h
set_option maxRecDepth 100000 in
theorem b228_34 {C : j2_C} (hC : j2_up1 C) {Q : j2_P} {o0 : Nat} {x1 : Int32} {x2 : Int32} {x3 : Int32} {σ : j2_S}
  (h : (True ∧ Q (some (vI (-1 : Int32))) σ)) :
  T228 C Q 34 [vO 10 o0, vI x1, vI x2, vI x3] [] σ := j2_T.go hC [0, 34, 56] 400 h
set_option maxRecDepth 100000 in
theorem b228_56 {C : j2_C} (hC : j2_up1 C) {Q : j2_P} {o0 : Nat} {x1 : Int32} {x2 : Int32} {x3 : Int32} {σ : j2_S}
  (h : (True ∧ Q (some (vI (-1 : Int32))) σ)) :
  T228 C Q 56 [vO 10 o0, vI x1, vI x2, vI x3] [] σ := j2_T.go hC [0, 34, 56] 400 h
abbrev T229 (C : j2_C) (Q : j2_P) : j2_K := j2_T C jc_X10_made (some .int) Q
set_option maxRecDepth 100000 in
theorem b229_0 {C : j2_C} (hC : j2_up1 C) {Q : j2_P} {o0 : Nat} {x1 : Int32} {σ : j2_S}
  (h : ((x1 < 0 → T229 C Q 8 [vO 10 o0, vI x1] [] ((j2_up σ.1 10000 o0 (nI 0)), σ.2.1, σ.2.2)) ∧ (¬ (x1 < 0) → ((x1 ≤ (nI 3) → T229 C Q 16 [vO 10 o0, vI x1] [] ((j2_up σ.1 10000 o0 (nI 0)), σ.2.1, σ.2.2)) ∧ (¬ (x1 ≤ (nI 3)) → T229 C Q 8 [vO 10 o0, vI x1] [] ((j2_up σ.1 10000 o0 (nI 0)), σ.2.1, σ.2.2)))))) :
  T229 C Q 0 [vO 10 o0, vI x1] [] σ := j2_T.go hC [0, 8, 16] 400 h
set_option maxRecDepth 100000 in
theorem b229_8 {C : j2_C} (hC : j2_up1 C) {Q : j2_P} {o0 : Nat} {x1 : Int32} {σ : j2_S}
  (h : ((x1 < (nI 11) → (True ∧ Q (some (vI (-1 : Int32))) σ)) ∧ (¬ (x1 < (nI 11)) → ((x1 ≤ (nI 22) → T229 C Q 16 [vO 10 o0, vI x1] [] σ) ∧ (¬ (x1 ≤ (nI 22)) → (True ∧ Q (some (vI (-1 : Int32))) σ)))))) :
  T229 C Q 8 [vO 10 o0, vI x1] [] σ := j2_T.go hC [0, 8, 16] 400 h
set_option maxRecDepth 100000 in
theorem b229_16 {C : j2_C} (hC : j2_up1 C) {Q : j2_P} {o0 : Nat} {x1 : Int32} {σ : j2_S}
  (h : (((σ.1 10044 o0) = 0 → (True ∧ Q (some (vI (nI 0))) σ)) ∧ (¬ ((σ.1 10044 o0) = 0) → (vp_in x1 23 ∧ (True ∧ Q (some (vI (σ.2.2 10052 o0 x1.toNatClampNeg))) σ))))) :
  T229 C Q 16 [vO 10 o0, vI x1] [] σ := j2_T.go hC [0, 8, 16] 400 h
abbrev T230 (C : j2_C) (Q : j2_P) : j2_K := j2_T C jc_X10_origin (some .int) Q
set_option maxRecDepth 100000 in
theorem b230_0 {C : j2_C} (hC : j2_up1 C) {Q : j2_P} {o0 : Nat} {x1 : Int32} {x2 : Int32} {x3 : Int32} {σ : j2_S}
  (h : ((((j2_up σ.1 10000 o0 (nI 0)) 10044 o0) = 0 → (True ∧ Q (some (vI (-1 : Int32))) ((j2_up σ.1 10000 o0 (nI 0)), σ.2.1, σ.2.2))) ∧ (¬ (((j2_up σ.1 10000 o0 (nI 0)) 10044 o0) = 0) → ((x1 < 0 → (True ∧ Q (some (vI (-1 : Int32))) ((j2_up σ.1 10000 o0 (nI 0)), σ.2.1, σ.2.2))) ∧ (¬ (x1 < 0) → (vp_in (nI 1) 3 ∧ (((σ.2.2 10018 o0 (nI 1).toNatClampNeg) ≤ x1 → (True ∧ Q (some (vI (-1 : Int32))) ((j2_up σ.1 10000 o0 (nI 0)), σ.2.1, σ.2.2))) ∧ (¬ ((σ.2.2 10018 o0 (nI 1).toNatClampNeg) ≤ x1) → ((x2 < 0 → (True ∧ Q (some (vI (-1 : Int32))) ((j2_up σ.1 10000 o0 (nI 0)), σ.2.1, σ.2.2))) ∧ (¬ (x2 < 0) → (vp_in ((nI 80) + x1) 240 ∧ ((x2 < (σ.2.2 10026 o0 ((nI 80) + x1).toNatClampNeg) → C 160 [vI (nI 1), vI x1, vI x2] ((j2_up σ.1 10000 o0 (nI 0)), σ.2.1, σ.2.2) (fun r σ1 => T230 C Q 30 [vO 10 o0, vI x1, vI x2, vI x3, vM 2] (r.toList ++ []) σ1)) ∧ (¬ (x2 < (σ.2.2 10026 o0 ((nI 80) + x1).toNatClampNeg)) → (True ∧ Q (some (vI (-1 : Int32))) ((j2_up σ.1 10000 o0 (nI 0)), σ.2.1, σ.2.2))))))))))))))) :
  T230 C Q 0 [vO 10 o0, vI x1, vI x2, vI x3, vM 2] [] σ := j2_T.go hC [0, 30, 39] 400 h
set_option maxRecDepth 100000 in
theorem b230_30 {C : j2_C} (hC : j2_up1 C) {Q : j2_P} {o0 : Nat} {x1 : Int32} {x2 : Int32} {x3 : Int32} {xs0 : Int32} {σ : j2_S}
  (h : ((x3 < 0 → T230 C Q 39 [vO 10 o0, vI x1, vI x2, vI x3, vI xs0] [] σ) ∧ (¬ (x3 < 0) → (vp_in xs0 28800 ∧ ((x3 < (σ.2.2 10030 o0 xs0.toNatClampNeg) → ((¬ x3 = 0 → (vp_in xs0 28800 ∧ (True ∧ Q (some (vI (σ.2.2 10032 o0 xs0.toNatClampNeg))) σ))) ∧ (¬ (¬ x3 = 0) → (vp_in xs0 28800 ∧ (True ∧ Q (some (vI (σ.2.2 10031 o0 xs0.toNatClampNeg))) σ))))) ∧ (¬ (x3 < (σ.2.2 10030 o0 xs0.toNatClampNeg)) → T230 C Q 39 [vO 10 o0, vI x1, vI x2, vI x3, vI xs0] [] σ)))))) :
  T230 C Q 30 [vO 10 o0, vI x1, vI x2, vI x3, vM 2] [vI xs0] σ := j2_T.go hC [0, 30, 39] 400 h
set_option maxRecDepth 100000 in
theorem b230_39 {C : j2_C} (hC : j2_up1 C) {Q : j2_P} {o0 : Nat} {x1 : Int32} {x2 : Int32} {x3 : Int32} {x4 : Int32} {σ : j2_S}
  (h : (True ∧ Q (some (vI (-1 : Int32))) σ)) :
  T230 C Q 39 [vO 10 o0, vI x1, vI x2, vI x3, vI x4] [] σ := j2_T.go hC [0, 30, 39] 400 h
abbrev T231 (C : j2_C) (Q : j2_P) : j2_K := j2_T C jc_X10_top (some .int) Q
set_option maxRecDepth 100000 in
theorem b231_0 {C : j2_C} (hC : j2_up1 C) {Q : j2_P} {o0 : Nat} {σ : j2_S}
  (h : (vp_in ((σ.1 10079 o0) - (nI 1)) 40 ∧ (True ∧ Q (some (vI ((((nI 10) * ((σ.1 10079 o0) - (nI 1))) + (σ.2.2 10082 o0 ((σ.1 10079 o0) - (nI 1)).toNatClampNeg)) - (nI 1)))) σ))) :
  T231 C Q 0 [vO 10 o0] [] σ := j2_T.go hC [0] 400 h
abbrev T232 (C : j2_C) (Q : j2_P) : j2_K := j2_T C jc_X10_pop (some .int) Q
set_option maxRecDepth 100000 in
theorem b232_0 {C : j2_C} (hC : j2_up1 C) {Q : j2_P} {o0 : Nat} {σ : j2_S}
  (h : C 231 [vO 10 o0] σ (fun r σ1 => T232 C Q 4 [vO 10 o0, vM 2] (r.toList ++ [vA 10084 o0]) σ1)) :
  T232 C Q 0 [vO 10 o0, vM 2] [] σ := j2_T.go hC [0, 4] 400 h
set_option maxRecDepth 100000 in
theorem b232_4 {C : j2_C} (hC : j2_up1 C) {Q : j2_P} {o0 : Nat} {xs0 : Int32} {os1 : Nat} {σ : j2_S}
  (h : (vp_in xs0 400 ∧ (vp_in ((σ.1 10079 o0) - (nI 1)) 40 ∧ (vp_in ((σ.1 10079 o0) - (nI 1)) 40 ∧ (True ∧ Q (some (vI (σ.2.2 10084 os1 xs0.toNatClampNeg))) (σ.1, σ.2.1, (j2_ast σ.2.2 10082 o0 ((σ.1 10079 o0) - (nI 1)).toNatClampNeg ((σ.2.2 10082 o0 ((σ.1 10079 o0) - (nI 1)).toNatClampNeg) - (nI 1))))))))) :
  T232 C Q 4 [vO 10 o0, vM 2] [vI xs0, vA 10084 os1] σ := j2_T.go hC [0, 4] 400 h
abbrev T233 (C : j2_C) (Q : j2_P) : j2_K := j2_T C jc_X10_pushValue none Q
set_option maxRecDepth 100000 in
theorem b233_0 {C : j2_C} (hC : j2_up1 C) {Q : j2_P} {o0 : Nat} {x1 : Int32} {σ : j2_S}
  (h : (vp_in ((σ.1 10079 o0) - (nI 1)) 40 ∧ (vp_in ((σ.1 10079 o0) - (nI 1)) 40 ∧ C 231 [vO 10 o0] (σ.1, σ.2.1, (j2_ast σ.2.2 10082 o0 ((σ.1 10079 o0) - (nI 1)).toNatClampNeg ((σ.2.2 10082 o0 ((σ.1 10079 o0) - (nI 1)).toNatClampNeg) + (nI 1)))) (fun r σ1 => T233 C Q 15 [vO 10 o0, vI x1] (r.toList ++ [vA 10084 o0]) σ1)))) :
  T233 C Q 0 [vO 10 o0, vI x1] [] σ := j2_T.go hC [0, 15] 400 h
set_option maxRecDepth 100000 in
theorem b233_15 {C : j2_C} (hC : j2_up1 C) {Q : j2_P} {o0 : Nat} {x1 : Int32} {xs0 : Int32} {os1 : Nat} {σ : j2_S}
  (h : (vp_in xs0 400 ∧ ((none : Option FieldType) = none ∧ Q none (σ.1, σ.2.1, (j2_ast σ.2.2 10084 os1 xs0.toNatClampNeg x1))))) :
  T233 C Q 15 [vO 10 o0, vI x1] [vI xs0, vA 10084 os1] σ := j2_T.go hC [0, 15] 400 h
abbrev T234 (C : j2_C) (Q : j2_P) : j2_K := j2_T C jc_X10_trapped none Q
set_option maxRecDepth 100000 in
theorem b234_0 {C : j2_C} (hC : j2_up1 C) {Q : j2_P} {o0 : Nat} {x1 : Int32} {σ : j2_S}
  (h : ((none : Option FieldType) = none ∧ Q none ((j2_up (j2_up σ.1 10094 o0 (nI 1)) 10095 o0 x1), σ.2.1, σ.2.2))) :
  T234 C Q 0 [vO 10 o0, vI x1] [] σ := j2_T.go hC [0] 400 h
abbrev T235 (C : j2_C) (Q : j2_P) : j2_K := j2_T C jc_X10_call none Q
set_option maxRecDepth 100000 in
theorem b235_0 {C : j2_C} (hC : j2_up1 C) {Q : j2_P} {o0 : Nat} {x1 : Int32} {x2 : Int32} {σ : j2_S}
  (h : (vp_in x1 28800 ∧ (vp_in (((nI 10) * (σ.1 10093 o0)) + (σ.2.2 10028 o0 x1.toNatClampNeg)) 30 ∧ (vp_in x1 28800 ∧ (vp_in ((((nI 80) * (σ.1 10093 o0)) + (σ.2.2 10013 o0 (((nI 10) * (σ.1 10093 o0)) + (σ.2.2 10028 o0 x1.toNatClampNeg)).toNatClampNeg)) + (σ.2.2 10029 o0 x1.toNatClampNeg)) 240 ∧ (vp_in ((((nI 80) * (σ.1 10093 o0)) + (σ.2.2 10013 o0 (((nI 10) * (σ.1 10093 o0)) + (σ.2.2 10028 o0 x1.toNatClampNeg)).toNatClampNeg)) + (σ.2.2 10029 o0 x1.toNatClampNeg)) 240 ∧ C 231 [vO 10 o0] σ (fun r σ1 => T235 C Q 37 [vO 10 o0, vI x1, vI x2, vI ((((nI 80) * (σ.1 10093 o0)) + (σ.2.2 10013 o0 (((nI 10) * (σ.1 10093 o0)) + (σ.2.2 10028 o0 x1.toNatClampNeg)).toNatClampNeg)) + (σ.2.2 10029 o0 x1.toNatClampNeg)), vI (((σ.2.2 10023 o0 ((((nI 80) * (σ.1 10093 o0)) + (σ.2.2 10013 o0 (((nI 10) * (σ.1 10093 o0)) + (σ.2.2 10028 o0 x1.toNatClampNeg)).toNatClampNeg)) + (σ.2.2 10029 o0 x1.toNatClampNeg)).toNatClampNeg) + (nI 1)) - (σ.2.2 10021 o0 ((((nI 80) * (σ.1 10093 o0)) + (σ.2.2 10013 o0 (((nI 10) * (σ.1 10093 o0)) + (σ.2.2 10028 o0 x1.toNatClampNeg)).toNatClampNeg)) + (σ.2.2 10029 o0 x1.toNatClampNeg)).toNatClampNeg)), vM 2, vM 2, vM 2] (r.toList ++ []) σ1))))))) :
  T235 C Q 0 [vO 10 o0, vI x1, vI x2, vM 2, vM 2, vM 2, vM 2, vM 2] [] σ := j2_T.go hC [0, 37, 55, 56, 63, 83, 90, 104, 126] 400 h
set_option maxRecDepth 100000 in
theorem b235_37 {C : j2_C} (hC : j2_up1 C) {Q : j2_P} {o0 : Nat} {x1 : Int32} {x2 : Int32} {x3 : Int32} {x4 : Int32} {xs0 : Int32} {σ : j2_S}
  (h : (vp_in x3 240 ∧ ((¬ (σ.2.2 10021 o0 x3.toNatClampNeg) = 0 → T235 C Q 56 [vO 10 o0, vI x1, vI x2, vI x3, vI x4, vI ((xs0 + (nI 1)) - x4), vM 2, vM 2] [] σ) ∧ (¬ (¬ (σ.2.2 10021 o0 x3.toNatClampNeg) = 0) → (vp_in ((xs0 + (nI 1)) - x4) 400 ∧ ((¬ (σ.2.2 10084 o0 ((xs0 + (nI 1)) - x4).toNatClampNeg) = 0 → T235 C Q 56 [vO 10 o0, vI x1, vI x2, vI x3, vI x4, vI ((xs0 + (nI 1)) - x4), vM 2, vM 2] [] σ) ∧ (¬ (¬ (σ.2.2 10084 o0 ((xs0 + (nI 1)) - x4).toNatClampNeg) = 0) → C 234 [vO 10 o0, vI (nI 1)] σ (fun r σ1 => T235 C Q 55 [vO 10 o0, vI x1, vI x2, vI x3, vI x4, vI ((xs0 + (nI 1)) - x4), vM 2, vM 2] (r.toList ++ []) σ1)))))))) :
  T235 C Q 37 [vO 10 o0, vI x1, vI x2, vI x3, vI x4, vM 2, vM 2, vM 2] [vI xs0] σ := j2_T.go hC [0, 37, 55, 56, 63, 83, 90, 104, 126] 400 h
set_option maxRecDepth 100000 in
theorem b235_55 {C : j2_C} (hC : j2_up1 C) {Q : j2_P} {o0 : Nat} {x1 : Int32} {x2 : Int32} {x3 : Int32} {x4 : Int32} {x5 : Int32} {σ : j2_S}
  (h : ((none : Option FieldType) = none ∧ Q none σ)) :
  T235 C Q 55 [vO 10 o0, vI x1, vI x2, vI x3, vI x4, vI x5, vM 2, vM 2] [] σ := j2_T.go hC [0, 37, 55, 56, 63, 83, 90, 104, 126] 400 h
set_option maxRecDepth 100000 in
theorem b235_56 {C : j2_C} (hC : j2_up1 C) {Q : j2_P} {o0 : Nat} {x1 : Int32} {x2 : Int32} {x3 : Int32} {x4 : Int32} {x5 : Int32} {σ : j2_S}
  (h : ((¬ (σ.1 10079 o0) = (nI 40) → ((x2 = 0 → T235 C Q 90 [vO 10 o0, vI x1, vI x2, vI x3, vI x4, vI x5, vM 2, vM 2] [vI (x3 - ((nI 80) * (σ.1 10093 o0)))] σ) ∧ (¬ (x2 = 0) → (vp_in x5 400 ∧ (vp_in ((σ.2.2 10084 o0 x5.toNatClampNeg) - (nI 1)) 200 ∧ (vp_in x3 240 ∧ C 192 [vO 10 o0, vI (σ.1 10093 o0), vI (σ.2.2 10086 o0 ((σ.2.2 10084 o0 x5.toNatClampNeg) - (nI 1)).toNatClampNeg), vI (σ.2.2 10020 o0 x3.toNatClampNeg)] σ (fun r σ1 => T235 C Q 83 [vO 10 o0, vI x1, vI x2, vI x3, vI x4, vI x5, vM 2, vM 2] (r.toList ++ []) σ1))))))) ∧ (¬ (¬ (σ.1 10079 o0) = (nI 40)) → C 234 [vO 10 o0, vI (nI 5)] σ (fun r σ1 => T235 C Q 63 [vO 10 o0, vI x1, vI x2, vI x3, vI x4, vI x5, vM 2, vM 2] (r.toList ++ []) σ1)))) :
  T235 C Q 56 [vO 10 o0, vI x1, vI x2, vI x3, vI x4, vI x5, vM 2, vM 2] [] σ := j2_T.go hC [0, 37, 55, 56, 63, 83, 90, 104, 126] 400 h
set_option maxRecDepth 100000 in
theorem b235_63 {C : j2_C} (hC : j2_up1 C) {Q : j2_P} {o0 : Nat} {x1 : Int32} {x2 : Int32} {x3 : Int32} {x4 : Int32} {x5 : Int32} {σ : j2_S}
  (h : ((none : Option FieldType) = none ∧ Q none σ)) :
  T235 C Q 63 [vO 10 o0, vI x1, vI x2, vI x3, vI x4, vI x5, vM 2, vM 2] [] σ := j2_T.go hC [0, 37, 55, 56, 63, 83, 90, 104, 126] 400 h
set_option maxRecDepth 100000 in
theorem b235_83 {C : j2_C} (hC : j2_up1 C) {Q : j2_P} {o0 : Nat} {x1 : Int32} {x2 : Int32} {x3 : Int32} {x4 : Int32} {x5 : Int32} {xs0 : Int32} {σ : j2_S}
  (h : T235 C Q 90 [vO 10 o0, vI x1, vI x2, vI x3, vI x4, vI x5, vM 2, vM 2] [vI xs0] σ) :
  T235 C Q 83 [vO 10 o0, vI x1, vI x2, vI x3, vI x4, vI x5, vM 2, vM 2] [vI xs0] σ := j2_T.go hC [0, 37, 55, 56, 63, 83, 90, 104, 126] 400 h
set_option maxRecDepth 100000 in
theorem b235_90 {C : j2_C} (hC : j2_up1 C) {Q : j2_P} {o0 : Nat} {x1 : Int32} {x2 : Int32} {x3 : Int32} {x4 : Int32} {x5 : Int32} {xs0 : Int32} {σ : j2_S}
  (h : (vp_in ((σ.1 10079 o0) - (nI 1)) 40 ∧ (vp_in ((σ.1 10079 o0) - (nI 1)) 40 ∧ T235 C Q 104 [vO 10 o0, vI x1, vI x2, vI x3, vI x4, vI x5, vI xs0, vI (nI 0)] [] (σ.1, σ.2.1, (j2_ast σ.2.2 10082 o0 ((σ.1 10079 o0) - (nI 1)).toNatClampNeg ((σ.2.2 10082 o0 ((σ.1 10079 o0) - (nI 1)).toNatClampNeg) - x4)))))) :
  T235 C Q 90 [vO 10 o0, vI x1, vI x2, vI x3, vI x4, vI x5, vM 2, vM 2] [vI xs0] σ := j2_T.go hC [0, 37, 55, 56, 63, 83, 90, 104, 126] 400 h
set_option maxRecDepth 100000 in
theorem b235_104 {C : j2_C} (hC : j2_up1 C) {Q : j2_P} {o0 : Nat} {x1 : Int32} {x2 : Int32} {x3 : Int32} {x4 : Int32} {x5 : Int32} {x6 : Int32} {x7 : Int32} {σ : j2_S}
  (h : (((nI 20) ≤ x7 → (vp_in (σ.1 10079 o0) 40 ∧ (vp_in (σ.1 10079 o0) 40 ∧ (vp_in (σ.1 10079 o0) 40 ∧ ((((j2_up σ.1 10079 o0 ((σ.1 10079 o0) + (nI 1))) 10079 o0) ≤ ((j2_up σ.1 10079 o0 ((σ.1 10079 o0) + (nI 1))) 10096 o0) → ((none : Option FieldType) = none ∧ Q none ((j2_up (j2_up σ.1 10079 o0 ((σ.1 10079 o0) + (nI 1))) 10096 o0 ((j2_up σ.1 10079 o0 ((σ.1 10079 o0) + (nI 1))) 10096 o0)), σ.2.1, (j2_ast (j2_ast (j2_ast σ.2.2 10080 o0 (σ.1 10079 o0).toNatClampNeg x6) 10081 o0 (σ.1 10079 o0).toNatClampNeg (nI 0)) 10082 o0 (σ.1 10079 o0).toNatClampNeg (nI 0))))) ∧ (¬ (((j2_up σ.1 10079 o0 ((σ.1 10079 o0) + (nI 1))) 10079 o0) ≤ ((j2_up σ.1 10079 o0 ((σ.1 10079 o0) + (nI 1))) 10096 o0)) → ((none : Option FieldType) = none ∧ Q none ((j2_up (j2_up σ.1 10079 o0 ((σ.1 10079 o0) + (nI 1))) 10096 o0 ((j2_up σ.1 10079 o0 ((σ.1 10079 o0) + (nI 1))) 10079 o0)), σ.2.1, (j2_ast (j2_ast (j2_ast σ.2.2 10080 o0 (σ.1 10079 o0).toNatClampNeg x6) 10081 o0 (σ.1 10079 o0).toNatClampNeg (nI 0)) 10082 o0 (σ.1 10079 o0).toNatClampNeg (nI 0)))))))))) ∧ (¬ ((nI 20) ≤ x7) → ((x4 ≤ x7 → T235 C Q 126 [vO 10 o0, vI x1, vI x2, vI x3, vI x4, vI x5, vI x6, vI x7] [vI (nI 0), vI (((nI 20) * (σ.1 10079 o0)) + x7), vA 10083 o0] σ) ∧ (¬ (x4 ≤ x7) → (vp_in (x5 + x7) 400 ∧ T235 C Q 126 [vO 10 o0, vI x1, vI x2, vI x3, vI x4, vI x5, vI x6, vI x7] [vI (σ.2.2 10084 o0 (x5 + x7).toNatClampNeg), vI (((nI 20) * (σ.1 10079 o0)) + x7), vA 10083 o0] σ)))))) :
  T235 C Q 104 [vO 10 o0, vI x1, vI x2, vI x3, vI x4, vI x5, vI x6, vI x7] [] σ := j2_T.go hC [0, 37, 55, 56, 63, 83, 90, 104, 126] 400 h
set_option maxRecDepth 100000 in
theorem b235_126 {C : j2_C} (hC : j2_up1 C) {Q : j2_P} {o0 : Nat} {x1 : Int32} {x2 : Int32} {x3 : Int32} {x4 : Int32} {x5 : Int32} {x6 : Int32} {x7 : Int32} {xs0 : Int32} {xs1 : Int32} {os2 : Nat} {σ : j2_S}
  (h : (vp_in xs1 800 ∧ T235 C Q 104 [vO 10 o0, vI x1, vI x2, vI x3, vI x4, vI x5, vI x6, vI (x7 + (nI 1))] [] (σ.1, σ.2.1, (j2_ast σ.2.2 10083 os2 xs1.toNatClampNeg xs0)))) :
  T235 C Q 126 [vO 10 o0, vI x1, vI x2, vI x3, vI x4, vI x5, vI x6, vI x7] [vI xs0, vI xs1, vA 10083 os2] σ := j2_T.go hC [0, 37, 55, 56, 63, 83, 90, 104, 126] 400 h
abbrev T236 (C : j2_C) (Q : j2_P) : j2_K := j2_T C jc_X10_goBack none Q
set_option maxRecDepth 100000 in
theorem b236_0 {C : j2_C} (hC : j2_up1 C) {Q : j2_P} {o0 : Nat} {σ : j2_S}
  (h : (vp_in ((σ.1 10079 o0) - (nI 1)) 40 ∧ (vp_in (((nI 80) * (σ.1 10093 o0)) + (σ.2.2 10080 o0 ((σ.1 10079 o0) - (nI 1)).toNatClampNeg)) 240 ∧ (((σ.2.2 10022 o0 (((nI 80) * (σ.1 10093 o0)) + (σ.2.2 10080 o0 ((σ.1 10079 o0) - (nI 1)).toNatClampNeg)).toNatClampNeg) ≤ 0 → T236 C Q 19 [vO 10 o0, vM 2, vM 2] [vI (nI 0)] σ) ∧ (¬ ((σ.2.2 10022 o0 (((nI 80) * (σ.1 10093 o0)) + (σ.2.2 10080 o0 ((σ.1 10079 o0) - (nI 1)).toNatClampNeg)).toNatClampNeg) ≤ 0) → T236 C Q 19 [vO 10 o0, vM 2, vM 2] [vI (nI 1)] σ))))) :
  T236 C Q 0 [vO 10 o0, vM 2, vM 2] [] σ := j2_T.go hC [0, 19, 24, 26, 45] 400 h
set_option maxRecDepth 100000 in
theorem b236_19 {C : j2_C} (hC : j2_up1 C) {Q : j2_P} {o0 : Nat} {xs0 : Int32} {σ : j2_S}
  (h : ((xs0 = 0 → T236 C Q 26 [vO 10 o0, vI xs0, vM 2] [vI (nI 0)] σ) ∧ (¬ (xs0 = 0) → C 232 [vO 10 o0] σ (fun r σ1 => T236 C Q 24 [vO 10 o0, vI xs0, vM 2] (r.toList ++ []) σ1)))) :
  T236 C Q 19 [vO 10 o0, vM 2, vM 2] [vI xs0] σ := j2_T.go hC [0, 19, 24, 26, 45] 400 h
set_option maxRecDepth 100000 in
theorem b236_24 {C : j2_C} (hC : j2_up1 C) {Q : j2_P} {o0 : Nat} {x1 : Int32} {xs0 : Int32} {σ : j2_S}
  (h : T236 C Q 26 [vO 10 o0, vI x1, vM 2] [vI xs0] σ) :
  T236 C Q 24 [vO 10 o0, vI x1, vM 2] [vI xs0] σ := j2_T.go hC [0, 19, 24, 26, 45] 400 h
set_option maxRecDepth 100000 in
theorem b236_26 {C : j2_C} (hC : j2_up1 C) {Q : j2_P} {o0 : Nat} {x1 : Int32} {xs0 : Int32} {σ : j2_S}
  (h : ((¬ ((j2_up σ.1 10079 o0 ((σ.1 10079 o0) - (nI 1))) 10079 o0) = 0 → ((x1 = 0 → T236 C Q 45 [vO 10 o0, vI x1, vI xs0] [] ((j2_up σ.1 10079 o0 ((σ.1 10079 o0) - (nI 1))), σ.2.1, σ.2.2)) ∧ (¬ (x1 = 0) → C 233 [vO 10 o0, vI xs0] ((j2_up σ.1 10079 o0 ((σ.1 10079 o0) - (nI 1))), σ.2.1, σ.2.2) (fun r σ1 => T236 C Q 45 [vO 10 o0, vI x1, vI xs0] (r.toList ++ []) σ1)))) ∧ (¬ (¬ ((j2_up σ.1 10079 o0 ((σ.1 10079 o0) - (nI 1))) 10079 o0) = 0) → ((none : Option FieldType) = none ∧ Q none ((j2_up (j2_up σ.1 10079 o0 ((σ.1 10079 o0) - (nI 1))) 10094 o0 (nI 0)), σ.2.1, σ.2.2))))) :
  T236 C Q 26 [vO 10 o0, vI x1, vM 2] [vI xs0] σ := j2_T.go hC [0, 19, 24, 26, 45] 400 h
set_option maxRecDepth 100000 in
theorem b236_45 {C : j2_C} (hC : j2_up1 C) {Q : j2_P} {o0 : Nat} {x1 : Int32} {x2 : Int32} {σ : j2_S}
  (h : (vp_in ((σ.1 10079 o0) - (nI 1)) 40 ∧ (vp_in ((σ.1 10079 o0) - (nI 1)) 40 ∧ ((none : Option FieldType) = none ∧ Q none (σ.1, σ.2.1, (j2_ast σ.2.2 10081 o0 ((σ.1 10079 o0) - (nI 1)).toNatClampNeg ((σ.2.2 10081 o0 ((σ.1 10079 o0) - (nI 1)).toNatClampNeg) + (nI 1)))))))) :
  T236 C Q 45 [vO 10 o0, vI x1, vI x2] [] σ := j2_T.go hC [0, 19, 24, 26, 45] 400 h
abbrev T237 (C : j2_C) (Q : j2_P) : j2_K := j2_T C jc_X10_step none Q
set_option maxRecDepth 100000 in
theorem b237_0 {C : j2_C} (hC : j2_up1 C) {Q : j2_P} {o0 : Nat} {σ : j2_S}
  (h : (vp_in ((σ.1 10079 o0) - (nI 1)) 40 ∧ (vp_in ((σ.1 10079 o0) - (nI 1)) 40 ∧ C 160 [vI (σ.1 10093 o0), vI (σ.2.2 10080 o0 ((σ.1 10079 o0) - (nI 1)).toNatClampNeg), vI (σ.2.2 10081 o0 ((σ.1 10079 o0) - (nI 1)).toNatClampNeg)] σ (fun r σ1 => T237 C Q 16 [vO 10 o0, vI ((σ.1 10079 o0) - (nI 1)), vM 2, vM 2, vM 2, vM 2] (r.toList ++ []) σ1)))) :
  T237 C Q 0 [vO 10 o0, vM 2, vM 2, vM 2, vM 2, vM 2] [] σ := j2_T.go hC [0, 16, 28, 36, 37, 43, 52, 53, 59, 60, 63, 64, 77, 78, 90, 92, 101, 106, 108, 109, 115, 117, 124, 126, 128, 131, 139, 141, 153, 155, 170, 173, 174, 180, 185] 400 h
set_option maxRecDepth 100000 in
theorem b237_16 {C : j2_C} (hC : j2_up1 C) {Q : j2_P} {o0 : Nat} {x1 : Int32} {xs0 : Int32} {σ : j2_S}
  (h : (vp_in xs0 28800 ∧ (((σ.2.2 10027 o0 xs0.toNatClampNeg) = (nI 20) → T237 C Q 28 [vO 10 o0, vI x1, vI xs0, vI (σ.2.2 10027 o0 xs0.toNatClampNeg), vM 2, vM 2] [] σ) ∧ (¬ ((σ.2.2 10027 o0 xs0.toNatClampNeg) = (nI 20)) → ((¬ (σ.2.2 10027 o0 xs0.toNatClampNeg) = (nI 21) → ((¬ (σ.2.2 10027 o0 xs0.toNatClampNeg) = (nI 22) → (vp_in x1 40 ∧ T237 C Q 52 [vO 10 o0, vI x1, vI xs0, vI (σ.2.2 10027 o0 xs0.toNatClampNeg), vI ((σ.2.2 10081 o0 x1.toNatClampNeg) + (nI 1)), vM 2] [vI (σ.2.2 10027 o0 xs0.toNatClampNeg)] σ)) ∧ (¬ (¬ (σ.2.2 10027 o0 xs0.toNatClampNeg) = (nI 22)) → C 236 [vO 10 o0] σ (fun r σ1 => T237 C Q 43 [vO 10 o0, vI x1, vI xs0, vI (σ.2.2 10027 o0 xs0.toNatClampNeg), vM 2, vM 2] (r.toList ++ []) σ1)))) ∧ (¬ (¬ (σ.2.2 10027 o0 xs0.toNatClampNeg) = (nI 21)) → T237 C Q 28 [vO 10 o0, vI x1, vI xs0, vI (σ.2.2 10027 o0 xs0.toNatClampNeg), vM 2, vM 2] [] σ)))))) :
  T237 C Q 16 [vO 10 o0, vI x1, vM 2, vM 2, vM 2, vM 2] [vI xs0] σ := j2_T.go hC [0, 16, 28, 36, 37, 43, 52, 53, 59, 60, 63, 64, 77, 78, 90, 92, 101, 106, 108, 109, 115, 117, 124, 126, 128, 131, 139, 141, 153, 155, 170, 173, 174, 180, 185] 400 h
set_option maxRecDepth 100000 in
theorem b237_28 {C : j2_C} (hC : j2_up1 C) {Q : j2_P} {o0 : Nat} {x1 : Int32} {x2 : Int32} {x3 : Int32} {σ : j2_S}
  (h : ((¬ x3 = (nI 21) → T237 C Q 36 [vO 10 o0, vI x1, vI x2, vI x3, vM 2, vM 2] [vI (nI 0), vI x2, vO 10 o0] σ) ∧ (¬ (¬ x3 = (nI 21)) → T237 C Q 36 [vO 10 o0, vI x1, vI x2, vI x3, vM 2, vM 2] [vI (nI 1), vI x2, vO 10 o0] σ))) :
  T237 C Q 28 [vO 10 o0, vI x1, vI x2, vI x3, vM 2, vM 2] [] σ := j2_T.go hC [0, 16, 28, 36, 37, 43, 52, 53, 59, 60, 63, 64, 77, 78, 90, 92, 101, 106, 108, 109, 115, 117, 124, 126, 128, 131, 139, 141, 153, 155, 170, 173, 174, 180, 185] 400 h
set_option maxRecDepth 100000 in
theorem b237_36 {C : j2_C} (hC : j2_up1 C) {Q : j2_P} {o0 : Nat} {x1 : Int32} {x2 : Int32} {x3 : Int32} {xs0 : Int32} {xs1 : Int32} {os2 : Nat} {σ : j2_S}
  (h : C 235 [vO 10 os2, vI xs1, vI xs0] σ (fun r σ1 => T237 C Q 37 [vO 10 o0, vI x1, vI x2, vI x3, vM 2, vM 2] (r.toList ++ []) σ1)) :
  T237 C Q 36 [vO 10 o0, vI x1, vI x2, vI x3, vM 2, vM 2] [vI xs0, vI xs1, vO 10 os2] σ := j2_T.go hC [0, 16, 28, 36, 37, 43, 52, 53, 59, 60, 63, 64, 77, 78, 90, 92, 101, 106, 108, 109, 115, 117, 124, 126, 128, 131, 139, 141, 153, 155, 170, 173, 174, 180, 185] 400 h
set_option maxRecDepth 100000 in
theorem b237_37 {C : j2_C} (hC : j2_up1 C) {Q : j2_P} {o0 : Nat} {x1 : Int32} {x2 : Int32} {x3 : Int32} {σ : j2_S}
  (h : ((none : Option FieldType) = none ∧ Q none σ)) :
  T237 C Q 37 [vO 10 o0, vI x1, vI x2, vI x3, vM 2, vM 2] [] σ := j2_T.go hC [0, 16, 28, 36, 37, 43, 52, 53, 59, 60, 63, 64, 77, 78, 90, 92, 101, 106, 108, 109, 115, 117, 124, 126, 128, 131, 139, 141, 153, 155, 170, 173, 174, 180, 185] 400 h
set_option maxRecDepth 100000 in
theorem b237_43 {C : j2_C} (hC : j2_up1 C) {Q : j2_P} {o0 : Nat} {x1 : Int32} {x2 : Int32} {x3 : Int32} {σ : j2_S}
  (h : ((none : Option FieldType) = none ∧ Q none σ)) :
  T237 C Q 43 [vO 10 o0, vI x1, vI x2, vI x3, vM 2, vM 2] [] σ := j2_T.go hC [0, 16, 28, 36, 37, 43, 52, 53, 59, 60, 63, 64, 77, 78, 90, 92, 101, 106, 108, 109, 115, 117, 124, 126, 128, 131, 139, 141, 153, 155, 170, 173, 174, 180, 185] 400 h
set_option maxRecDepth 100000 in
theorem b237_52 {C : j2_C} (hC : j2_up1 C) {Q : j2_P} {o0 : Nat} {x1 : Int32} {x2 : Int32} {x3 : Int32} {x4 : Int32} {xs0 : Int32} {σ : j2_S} (h0 : xs0 = (nI 0) → T237 C Q 53 [vO 10 o0, vI x1, vI x2, vI x3, vI x4, vM 2] [] σ) (h1 : xs0 = (nI 1) → T237 C Q 60 [vO 10 o0, vI x1, vI x2, vI x3, vI x4, vM 2] [] σ) (h2 : xs0 = (nI 2) → T237 C Q 64 [vO 10 o0, vI x1, vI x2, vI x3, vI x4, vM 2] [] σ) (h3 : xs0 = (nI 3) → T237 C Q 78 [vO 10 o0, vI x1, vI x2, vI x3, vI x4, vM 2] [] σ) (h4 : xs0 = (nI 4) → T237 C Q 92 [vO 10 o0, vI x1, vI x2, vI x3, vI x4, vM 2] [] σ) (h5 : xs0 = (nI 5) → T237 C Q 101 [vO 10 o0, vI x1, vI x2, vI x3, vI x4, vM 2] [] σ) (h6 : xs0 = (nI 6) → T237 C Q 174 [vO 10 o0, vI x1, vI x2, vI x3, vI x4, vM 2] [] σ) (h7 : xs0 = (nI 7) → T237 C Q 174 [vO 10 o0, vI x1, vI x2, vI x3, vI x4, vM 2] [] σ) (h8 : xs0 = (nI 8) → T237 C Q 174 [vO 10 o0, vI x1, vI x2, vI x3, vI x4, vM 2] [] σ) (h9 : xs0 = (nI 9) → T237 C Q 174 [vO 10 o0, vI x1, vI x2, vI x3, vI x4, vM 2] [] σ) (h10 : xs0 = (nI 10) → T237 C Q 174 [vO 10 o0, vI x1, vI x2, vI x3, vI x4, vM 2] [] σ) (h11 : xs0 = (nI 11) → T237 C Q 109 [vO 10 o0, vI x1, vI x2, vI x3, vI x4, vM 2] [] σ) (h12 : xs0 = (nI 12) → T237 C Q 115 [vO 10 o0, vI x1, vI x2, vI x3, vI x4, vM 2] [] σ) (h13 : xs0 = (nI 13) → T237 C Q 126 [vO 10 o0, vI x1, vI x2, vI x3, vI x4, vM 2] [] σ) (h14 : xs0 = (nI 14) → T237 C Q 115 [vO 10 o0, vI x1, vI x2, vI x3, vI x4, vM 2] [] σ) (h15 : xs0 = (nI 15) → T237 C Q 174 [vO 10 o0, vI x1, vI x2, vI x3, vI x4, vM 2] [] σ) (h16 : xs0 = (nI 16) → T237 C Q 174 [vO 10 o0, vI x1, vI x2, vI x3, vI x4, vM 2] [] σ) (h17 : xs0 = (nI 17) → T237 C Q 174 [vO 10 o0, vI x1, vI x2, vI x3, vI x4, vM 2] [] σ) (h18 : xs0 = (nI 18) → T237 C Q 174 [vO 10 o0, vI x1, vI x2, vI x3, vI x4, vM 2] [] σ) (h19 : xs0 = (nI 19) → T237 C Q 174 [vO 10 o0, vI x1, vI x2, vI x3, vI x4, vM 2] [] σ) (h20 : xs0 = (nI 20) → T237 C Q 174 [vO 10 o0, vI x1, vI x2, vI x3, vI x4, vM 2] [] σ) (h21 : xs0 = (nI 21) → T237 C Q 174 [vO 10 o0, vI x1, vI x2, vI x3, vI x4, vM 2] [] σ) (h22 : xs0 = (nI 22) → T237 C Q 174 [vO 10 o0, vI x1, vI x2, vI x3, vI x4, vM 2] [] σ) (h23 : xs0 = (nI 23) → T237 C Q 141 [vO 10 o0, vI x1, vI x2, vI x3, vI x4, vM 2] [] σ) (h24 : xs0 = (nI 24) → T237 C Q 174 [vO 10 o0, vI x1, vI x2, vI x3, vI x4, vM 2] [] σ) (h25 : xs0 = (nI 25) → T237 C Q 174 [vO 10 o0, vI x1, vI x2, vI x3, vI x4, vM 2] [] σ) (h26 : xs0 = (nI 26) → T237 C Q 170 [vO 10 o0, vI x1, vI x2, vI x3, vI x4, vM 2] [] σ) (hd : (xs0.toInt < 0 ∨ 26 < xs0.toInt) → T237 C Q 174 [vO 10 o0, vI x1, vI x2, vI x3, vI x4, vM 2] [] σ) :
  T237 C Q 52 [vO 10 o0, vI x1, vI x2, vI x3, vI x4, vM 2] [vI xs0] σ := j2_T.tsw hC (d := 174) (lo := 0) (hi := 26) (ts := #[53, 60, 64, 78, 92, 101, 174, 174, 174, 174, 174, 109, 115, 126, 115, 174, 174, 174, 174, 174, 174, 174, 174, 141, 174, 174, 170]) rfl hd (fun g1 g2 => by
  have g : xs0.toInt = 0 ∨ xs0.toInt = 1 ∨ xs0.toInt = 2 ∨ xs0.toInt = 3 ∨ xs0.toInt = 4 ∨ xs0.toInt = 5 ∨ xs0.toInt = 6 ∨ xs0.toInt = 7 ∨ xs0.toInt = 8 ∨ xs0.toInt = 9 ∨ xs0.toInt = 10 ∨ xs0.toInt = 11 ∨ xs0.toInt = 12 ∨ xs0.toInt = 13 ∨ xs0.toInt = 14 ∨ xs0.toInt = 15 ∨ xs0.toInt = 16 ∨ xs0.toInt = 17 ∨ xs0.toInt = 18 ∨ xs0.toInt = 19 ∨ xs0.toInt = 20 ∨ xs0.toInt = 21 ∨ xs0.toInt = 22 ∨ xs0.toInt = 23 ∨ xs0.toInt = 24 ∨ xs0.toInt = 25 ∨ xs0.toInt = 26 := by omega
  rcases g with g | g | g | g | g | g | g | g | g | g | g | g | g | g | g | g | g | g | g | g | g | g | g | g | g | g | g
  · rw [g]; exact h0 (Int32.toInt_inj.mp (g.trans (by decide)))
  · rw [g]; exact h1 (Int32.toInt_inj.mp (g.trans (by decide)))
  · rw [g]; exact h2 (Int32.toInt_inj.mp (g.trans (by decide)))
  · rw [g]; exact h3 (Int32.toInt_inj.mp (g.trans (by decide)))
  · rw [g]; exact h4 (Int32.toInt_inj.mp (g.trans (by decide)))
  · rw [g]; exact h5 (Int32.toInt_inj.mp (g.trans (by decide)))
  · rw [g]; exact h6 (Int32.toInt_inj.mp (g.trans (by decide)))
  · rw [g]; exact h7 (Int32.toInt_inj.mp (g.trans (by decide)))
  · rw [g]; exact h8 (Int32.toInt_inj.mp (g.trans (by decide)))
  · rw [g]; exact h9 (Int32.toInt_inj.mp (g.trans (by decide)))
  · rw [g]; exact h10 (Int32.toInt_inj.mp (g.trans (by decide)))
  · rw [g]; exact h11 (Int32.toInt_inj.mp (g.trans (by decide)))
  · rw [g]; exact h12 (Int32.toInt_inj.mp (g.trans (by decide)))
  · rw [g]; exact h13 (Int32.toInt_inj.mp (g.trans (by decide)))
  · rw [g]; exact h14 (Int32.toInt_inj.mp (g.trans (by decide)))
  · rw [g]; exact h15 (Int32.toInt_inj.mp (g.trans (by decide)))
  · rw [g]; exact h16 (Int32.toInt_inj.mp (g.trans (by decide)))
  · rw [g]; exact h17 (Int32.toInt_inj.mp (g.trans (by decide)))
  · rw [g]; exact h18 (Int32.toInt_inj.mp (g.trans (by decide)))
  · rw [g]; exact h19 (Int32.toInt_inj.mp (g.trans (by decide)))
  · rw [g]; exact h20 (Int32.toInt_inj.mp (g.trans (by decide)))
  · rw [g]; exact h21 (Int32.toInt_inj.mp (g.trans (by decide)))
  · rw [g]; exact h22 (Int32.toInt_inj.mp (g.trans (by decide)))
  · rw [g]; exact h23 (Int32.toInt_inj.mp (g.trans (by decide)))
  · rw [g]; exact h24 (Int32.toInt_inj.mp (g.trans (by decide)))
  · rw [g]; exact h25 (Int32.toInt_inj.mp (g.trans (by decide)))
  · rw [g]; exact h26 (Int32.toInt_inj.mp (g.trans (by decide)))
  )
set_option maxRecDepth 100000 in
theorem b237_53 {C : j2_C} (hC : j2_up1 C) {Q : j2_P} {o0 : Nat} {x1 : Int32} {x2 : Int32} {x3 : Int32} {x4 : Int32} {σ : j2_S}
  (h : (vp_in x2 28800 ∧ C 233 [vO 10 o0, vI (σ.2.2 10028 o0 x2.toNatClampNeg)] σ (fun r σ1 => T237 C Q 59 [vO 10 o0, vI x1, vI x2, vI x3, vI x4, vM 2] (r.toList ++ []) σ1))) :
  T237 C Q 53 [vO 10 o0, vI x1, vI x2, vI x3, vI x4, vM 2] [] σ := j2_T.go hC [0, 16, 28, 36, 37, 43, 52, 53, 59, 60, 63, 64, 77, 78, 90, 92, 101, 106, 108, 109, 115, 117, 124, 126, 128, 131, 139, 141, 153, 155, 170, 173, 174, 180, 185] 400 h
set_option maxRecDepth 100000 in
theorem b237_59 {C : j2_C} (hC : j2_up1 C) {Q : j2_P} {o0 : Nat} {x1 : Int32} {x2 : Int32} {x3 : Int32} {x4 : Int32} {σ : j2_S}
  (h : T237 C Q 185 [vO 10 o0, vI x1, vI x2, vI x3, vI x4, vM 2] [] σ) :
  T237 C Q 59 [vO 10 o0, vI x1, vI x2, vI x3, vI x4, vM 2] [] σ := j2_T.go hC [0, 16, 28, 36, 37, 43, 52, 53, 59, 60, 63, 64, 77, 78, 90, 92, 101, 106, 108, 109, 115, 117, 124, 126, 128, 131, 139, 141, 153, 155, 170, 173, 174, 180, 185] 400 h
set_option maxRecDepth 100000 in
theorem b237_60 {C : j2_C} (hC : j2_up1 C) {Q : j2_P} {o0 : Nat} {x1 : Int32} {x2 : Int32} {x3 : Int32} {x4 : Int32} {σ : j2_S}
  (h : C 233 [vO 10 o0, vI (nI 0)] σ (fun r σ1 => T237 C Q 63 [vO 10 o0, vI x1, vI x2, vI x3, vI x4, vM 2] (r.toList ++ []) σ1)) :
  T237 C Q 60 [vO 10 o0, vI x1, vI x2, vI x3, vI x4, vM 2] [] σ := j2_T.go hC [0, 16, 28, 36, 37, 43, 52, 53, 59, 60, 63, 64, 77, 78, 90, 92, 101, 106, 108, 109, 115, 117, 124, 126, 128, 131, 139, 141, 153, 155, 170, 173, 174, 180, 185] 400 h
set_option maxRecDepth 100000 in
theorem b237_63 {C : j2_C} (hC : j2_up1 C) {Q : j2_P} {o0 : Nat} {x1 : Int32} {x2 : Int32} {x3 : Int32} {x4 : Int32} {σ : j2_S}
  (h : T237 C Q 185 [vO 10 o0, vI x1, vI x2, vI x3, vI x4, vM 2] [] σ) :
  T237 C Q 63 [vO 10 o0, vI x1, vI x2, vI x3, vI x4, vM 2] [] σ := j2_T.go hC [0, 16, 28, 36, 37, 43, 52, 53, 59, 60, 63, 64, 77, 78, 90, 92, 101, 106, 108, 109, 115, 117, 124, 126, 128, 131, 139, 141, 153, 155, 170, 173, 174, 180, 185] 400 h
set_option maxRecDepth 100000 in
theorem b237_64 {C : j2_C} (hC : j2_up1 C) {Q : j2_P} {o0 : Nat} {x1 : Int32} {x2 : Int32} {x3 : Int32} {x4 : Int32} {σ : j2_S}
  (h : (vp_in x2 28800 ∧ (vp_in (((nI 20) * x1) + (σ.2.2 10028 o0 x2.toNatClampNeg)) 800 ∧ C 233 [vO 10 o0, vI (σ.2.2 10083 o0 (((nI 20) * x1) + (σ.2.2 10028 o0 x2.toNatClampNeg)).toNatClampNeg)] σ (fun r σ1 => T237 C Q 77 [vO 10 o0, vI x1, vI x2, vI x3, vI x4, vM 2] (r.toList ++ []) σ1)))) :
  T237 C Q 64 [vO 10 o0, vI x1, vI x2, vI x3, vI x4, vM 2] [] σ := j2_T.go hC [0, 16, 28, 36, 37, 43, 52, 53, 59, 60, 63, 64, 77, 78, 90, 92, 101, 106, 108, 109, 115, 117, 124, 126, 128, 131, 139, 141, 153, 155, 170, 173, 174, 180, 185] 400 h
set_option maxRecDepth 100000 in
theorem b237_77 {C : j2_C} (hC : j2_up1 C) {Q : j2_P} {o0 : Nat} {x1 : Int32} {x2 : Int32} {x3 : Int32} {x4 : Int32} {σ : j2_S}
  (h : T237 C Q 185 [vO 10 o0, vI x1, vI x2, vI x3, vI x4, vM 2] [] σ) :
  T237 C Q 77 [vO 10 o0, vI x1, vI x2, vI x3, vI x4, vM 2] [] σ := j2_T.go hC [0, 16, 28, 36, 37, 43, 52, 53, 59, 60, 63, 64, 77, 78, 90, 92, 101, 106, 108, 109, 115, 117, 124, 126, 128, 131, 139, 141, 153, 155, 170, 173, 174, 180, 185] 400 h
set_option maxRecDepth 100000 in
theorem b237_78 {C : j2_C} (hC : j2_up1 C) {Q : j2_P} {o0 : Nat} {x1 : Int32} {x2 : Int32} {x3 : Int32} {x4 : Int32} {σ : j2_S}
  (h : (vp_in x2 28800 ∧ C 232 [vO 10 o0] σ (fun r σ1 => T237 C Q 90 [vO 10 o0, vI x1, vI x2, vI x3, vI x4, vM 2] (r.toList ++ [vI (((nI 20) * x1) + (σ.2.2 10028 o0 x2.toNatClampNeg)), vA 10083 o0]) σ1))) :
  T237 C Q 78 [vO 10 o0, vI x1, vI x2, vI x3, vI x4, vM 2] [] σ := j2_T.go hC [0, 16, 28, 36, 37, 43, 52, 53, 59, 60, 63, 64, 77, 78, 90, 92, 101, 106, 108, 109, 115, 117, 124, 126, 128, 131, 139, 141, 153, 155, 170, 173, 174, 180, 185] 400 h
set_option maxRecDepth 100000 in
theorem b237_90 {C : j2_C} (hC : j2_up1 C) {Q : j2_P} {o0 : Nat} {x1 : Int32} {x2 : Int32} {x3 : Int32} {x4 : Int32} {xs0 : Int32} {xs1 : Int32} {os2 : Nat} {σ : j2_S}
  (h : (vp_in xs1 800 ∧ T237 C Q 185 [vO 10 o0, vI x1, vI x2, vI x3, vI x4, vM 2] [] (σ.1, σ.2.1, (j2_ast σ.2.2 10083 os2 xs1.toNatClampNeg xs0)))) :
  T237 C Q 90 [vO 10 o0, vI x1, vI x2, vI x3, vI x4, vM 2] [vI xs0, vI xs1, vA 10083 os2] σ := j2_T.go hC [0, 16, 28, 36, 37, 43, 52, 53, 59, 60, 63, 64, 77, 78, 90, 92, 101, 106, 108, 109, 115, 117, 124, 126, 128, 131, 139, 141, 153, 155, 170, 173, 174, 180, 185] 400 h
set_option maxRecDepth 100000 in
theorem b237_92 {C : j2_C} (hC : j2_up1 C) {Q : j2_P} {o0 : Nat} {x1 : Int32} {x2 : Int32} {x3 : Int32} {x4 : Int32} {σ : j2_S}
  (h : (vp_in x1 40 ∧ (vp_in x1 40 ∧ T237 C Q 185 [vO 10 o0, vI x1, vI x2, vI x3, vI x4, vM 2] [] (σ.1, σ.2.1, (j2_ast σ.2.2 10082 o0 x1.toNatClampNeg ((σ.2.2 10082 o0 x1.toNatClampNeg) - (nI 1))))))) :
  T237 C Q 92 [vO 10 o0, vI x1, vI x2, vI x3, vI x4, vM 2] [] σ := j2_T.go hC [0, 16, 28, 36, 37, 43, 52, 53, 59, 60, 63, 64, 77, 78, 90, 92, 101, 106, 108, 109, 115, 117, 124, 126, 128, 131, 139, 141, 153, 155, 170, 173, 174, 180, 185] 400 h
set_option maxRecDepth 100000 in
theorem b237_101 {C : j2_C} (hC : j2_up1 C) {Q : j2_P} {o0 : Nat} {x1 : Int32} {x2 : Int32} {x3 : Int32} {x4 : Int32} {σ : j2_S}
  (h : C 231 [vO 10 o0] σ (fun r σ1 => T237 C Q 106 [vO 10 o0, vI x1, vI x2, vI x3, vI x4, vM 2] (r.toList ++ [vA 10084 o0, vO 10 o0]) σ1)) :
  T237 C Q 101 [vO 10 o0, vI x1, vI x2, vI x3, vI x4, vM 2] [] σ := j2_T.go hC [0, 16, 28, 36, 37, 43, 52, 53, 59, 60, 63, 64, 77, 78, 90, 92, 101, 106, 108, 109, 115, 117, 124, 126, 128, 131, 139, 141, 153, 155, 170, 173, 174, 180, 185] 400 h
set_option maxRecDepth 100000 in
theorem b237_106 {C : j2_C} (hC : j2_up1 C) {Q : j2_P} {o0 : Nat} {x1 : Int32} {x2 : Int32} {x3 : Int32} {x4 : Int32} {xs0 : Int32} {os1 : Nat} {os2 : Nat} {σ : j2_S}
  (h : (vp_in xs0 400 ∧ C 233 [vO 10 os2, vI (σ.2.2 10084 os1 xs0.toNatClampNeg)] σ (fun r σ1 => T237 C Q 108 [vO 10 o0, vI x1, vI x2, vI x3, vI x4, vM 2] (r.toList ++ []) σ1))) :
  T237 C Q 106 [vO 10 o0, vI x1, vI x2, vI x3, vI x4, vM 2] [vI xs0, vA 10084 os1, vO 10 os2] σ := j2_T.go hC [0, 16, 28, 36, 37, 43, 52, 53, 59, 60, 63, 64, 77, 78, 90, 92, 101, 106, 108, 109, 115, 117, 124, 126, 128, 131, 139, 141, 153, 155, 170, 173, 174, 180, 185] 400 h
set_option maxRecDepth 100000 in
theorem b237_108 {C : j2_C} (hC : j2_up1 C) {Q : j2_P} {o0 : Nat} {x1 : Int32} {x2 : Int32} {x3 : Int32} {x4 : Int32} {σ : j2_S}
  (h : T237 C Q 185 [vO 10 o0, vI x1, vI x2, vI x3, vI x4, vM 2] [] σ) :
  T237 C Q 108 [vO 10 o0, vI x1, vI x2, vI x3, vI x4, vM 2] [] σ := j2_T.go hC [0, 16, 28, 36, 37, 43, 52, 53, 59, 60, 63, 64, 77, 78, 90, 92, 101, 106, 108, 109, 115, 117, 124, 126, 128, 131, 139, 141, 153, 155, 170, 173, 174, 180, 185] 400 h
set_option maxRecDepth 100000 in
theorem b237_109 {C : j2_C} (hC : j2_up1 C) {Q : j2_P} {o0 : Nat} {x1 : Int32} {x2 : Int32} {x3 : Int32} {x4 : Int32} {σ : j2_S}
  (h : (vp_in x2 28800 ∧ T237 C Q 185 [vO 10 o0, vI x1, vI x2, vI x3, vI (σ.2.2 10028 o0 x2.toNatClampNeg), vM 2] [] σ)) :
  T237 C Q 109 [vO 10 o0, vI x1, vI x2, vI x3, vI x4, vM 2] [] σ := j2_T.go hC [0, 16, 28, 36, 37, 43, 52, 53, 59, 60, 63, 64, 77, 78, 90, 92, 101, 106, 108, 109, 115, 117, 124, 126, 128, 131, 139, 141, 153, 155, 170, 173, 174, 180, 185] 400 h
set_option maxRecDepth 100000 in
theorem b237_115 {C : j2_C} (hC : j2_up1 C) {Q : j2_P} {o0 : Nat} {x1 : Int32} {x2 : Int32} {x3 : Int32} {x4 : Int32} {σ : j2_S}
  (h : C 232 [vO 10 o0] σ (fun r σ1 => T237 C Q 117 [vO 10 o0, vI x1, vI x2, vI x3, vI x4, vM 2] (r.toList ++ []) σ1)) :
  T237 C Q 115 [vO 10 o0, vI x1, vI x2, vI x3, vI x4, vM 2] [] σ := j2_T.go hC [0, 16, 28, 36, 37, 43, 52, 53, 59, 60, 63, 64, 77, 78, 90, 92, 101, 106, 108, 109, 115, 117, 124, 126, 128, 131, 139, 141, 153, 155, 170, 173, 174, 180, 185] 400 h
set_option maxRecDepth 100000 in
theorem b237_117 {C : j2_C} (hC : j2_up1 C) {Q : j2_P} {o0 : Nat} {x1 : Int32} {x2 : Int32} {x3 : Int32} {x4 : Int32} {xs0 : Int32} {σ : j2_S}
  (h : ((¬ xs0 = 0 → T237 C Q 124 [vO 10 o0, vI x1, vI x2, vI x3, vI x4, vM 2] [vI x4] σ) ∧ (¬ (¬ xs0 = 0) → (vp_in x2 28800 ∧ T237 C Q 124 [vO 10 o0, vI x1, vI x2, vI x3, vI x4, vM 2] [vI (σ.2.2 10028 o0 x2.toNatClampNeg)] σ)))) :
  T237 C Q 117 [vO 10 o0, vI x1, vI x2, vI x3, vI x4, vM 2] [vI xs0] σ := j2_T.go hC [0, 16, 28, 36, 37, 43, 52, 53, 59, 60, 63, 64, 77, 78, 90, 92, 101, 106, 108, 109, 115, 117, 124, 126, 128, 131, 139, 141, 153, 155, 170, 173, 174, 180, 185] 400 h
set_option maxRecDepth 100000 in
theorem b237_124 {C : j2_C} (hC : j2_up1 C) {Q : j2_P} {o0 : Nat} {x1 : Int32} {x2 : Int32} {x3 : Int32} {x4 : Int32} {xs0 : Int32} {σ : j2_S}
  (h : T237 C Q 185 [vO 10 o0, vI x1, vI x2, vI x3, vI xs0, vM 2] [] σ) :
  T237 C Q 124 [vO 10 o0, vI x1, vI x2, vI x3, vI x4, vM 2] [vI xs0] σ := j2_T.go hC [0, 16, 28, 36, 37, 43, 52, 53, 59, 60, 63, 64, 77, 78, 90, 92, 101, 106, 108, 109, 115, 117, 124, 126, 128, 131, 139, 141, 153, 155, 170, 173, 174, 180, 185] 400 h
set_option maxRecDepth 100000 in
theorem b237_126 {C : j2_C} (hC : j2_up1 C) {Q : j2_P} {o0 : Nat} {x1 : Int32} {x2 : Int32} {x3 : Int32} {x4 : Int32} {σ : j2_S}
  (h : C 232 [vO 10 o0] σ (fun r σ1 => T237 C Q 128 [vO 10 o0, vI x1, vI x2, vI x3, vI x4, vM 2] (r.toList ++ []) σ1)) :
  T237 C Q 126 [vO 10 o0, vI x1, vI x2, vI x3, vI x4, vM 2] [] σ := j2_T.go hC [0, 16, 28, 36, 37, 43, 52, 53, 59, 60, 63, 64, 77, 78, 90, 92, 101, 106, 108, 109, 115, 117, 124, 126, 128, 131, 139, 141, 153, 155, 170, 173, 174, 180, 185] 400 h
set_option maxRecDepth 100000 in
theorem b237_128 {C : j2_C} (hC : j2_up1 C) {Q : j2_P} {o0 : Nat} {x1 : Int32} {x2 : Int32} {x3 : Int32} {x4 : Int32} {xs0 : Int32} {σ : j2_S}
  (h : C 232 [vO 10 o0] σ (fun r σ1 => T237 C Q 131 [vO 10 o0, vI x1, vI x2, vI x3, vI x4, vI xs0] (r.toList ++ []) σ1)) :
  T237 C Q 128 [vO 10 o0, vI x1, vI x2, vI x3, vI x4, vM 2] [vI xs0] σ := j2_T.go hC [0, 16, 28, 36, 37, 43, 52, 53, 59, 60, 63, 64, 77, 78, 90, 92, 101, 106, 108, 109, 115, 117, 124, 126, 128, 131, 139, 141, 153, 155, 170, 173, 174, 180, 185] 400 h
set_option maxRecDepth 100000 in
theorem b237_131 {C : j2_C} (hC : j2_up1 C) {Q : j2_P} {o0 : Nat} {x1 : Int32} {x2 : Int32} {x3 : Int32} {x4 : Int32} {x5 : Int32} {xs0 : Int32} {σ : j2_S}
  (h : ((x5 ≤ xs0 → T237 C Q 139 [vO 10 o0, vI x1, vI x2, vI x3, vI x4, vI x5] [vI x4] σ) ∧ (¬ (x5 ≤ xs0) → (vp_in x2 28800 ∧ T237 C Q 139 [vO 10 o0, vI x1, vI x2, vI x3, vI x4, vI x5] [vI (σ.2.2 10028 o0 x2.toNatClampNeg)] σ)))) :
  T237 C Q 131 [vO 10 o0, vI x1, vI x2, vI x3, vI x4, vI x5] [vI xs0] σ := j2_T.go hC [0, 16, 28, 36, 37, 43, 52, 53, 59, 60, 63, 64, 77, 78, 90, 92, 101, 106, 108, 109, 115, 117, 124, 126, 128, 131, 139, 141, 153, 155, 170, 173, 174, 180, 185] 400 h
set_option maxRecDepth 100000 in
theorem b237_139 {C : j2_C} (hC : j2_up1 C) {Q : j2_P} {o0 : Nat} {x1 : Int32} {x2 : Int32} {x3 : Int32} {x4 : Int32} {x5 : Int32} {xs0 : Int32} {σ : j2_S}
  (h : T237 C Q 185 [vO 10 o0, vI x1, vI x2, vI x3, vI xs0, vI x5] [] σ) :
  T237 C Q 139 [vO 10 o0, vI x1, vI x2, vI x3, vI x4, vI x5] [vI xs0] σ := j2_T.go hC [0, 16, 28, 36, 37, 43, 52, 53, 59, 60, 63, 64, 77, 78, 90, 92, 101, 106, 108, 109, 115, 117, 124, 126, 128, 131, 139, 141, 153, 155, 170, 173, 174, 180, 185] 400 h
set_option maxRecDepth 100000 in
theorem b237_141 {C : j2_C} (hC : j2_up1 C) {Q : j2_P} {o0 : Nat} {x1 : Int32} {x2 : Int32} {x3 : Int32} {x4 : Int32} {σ : j2_S}
  (h : (((nI 100) ≤ (σ.1 10089 o0) → T237 C Q 155 [vO 10 o0, vI x1, vI x2, vI x3, vI x4, vM 2] [] σ) ∧ (¬ ((nI 100) ≤ (σ.1 10089 o0)) → C 231 [vO 10 o0] σ (fun r σ1 => T237 C Q 153 [vO 10 o0, vI x1, vI x2, vI x3, vI x4, vM 2] (r.toList ++ [vA 10084 o0, vI (σ.1 10089 o0), vA 10090 o0]) σ1)))) :
  T237 C Q 141 [vO 10 o0, vI x1, vI x2, vI x3, vI x4, vM 2] [] σ := j2_T.go hC [0, 16, 28, 36, 37, 43, 52, 53, 59, 60, 63, 64, 77, 78, 90, 92, 101, 106, 108, 109, 115, 117, 124, 126, 128, 131, 139, 141, 153, 155, 170, 173, 174, 180, 185] 400 h
set_option maxRecDepth 100000 in
theorem b237_153 {C : j2_C} (hC : j2_up1 C) {Q : j2_P} {o0 : Nat} {x1 : Int32} {x2 : Int32} {x3 : Int32} {x4 : Int32} {xs0 : Int32} {os1 : Nat} {xs2 : Int32} {os3 : Nat} {σ : j2_S}
  (h : (vp_in xs0 400 ∧ (vp_in xs2 100 ∧ T237 C Q 155 [vO 10 o0, vI x1, vI x2, vI x3, vI x4, vM 2] [] (σ.1, σ.2.1, (j2_ast σ.2.2 10090 os3 xs2.toNatClampNeg (σ.2.2 10084 os1 xs0.toNatClampNeg)))))) :
  T237 C Q 153 [vO 10 o0, vI x1, vI x2, vI x3, vI x4, vM 2] [vI xs0, vA 10084 os1, vI xs2, vA 10090 os3] σ := j2_T.go hC [0, 16, 28, 36, 37, 43, 52, 53, 59, 60, 63, 64, 77, 78, 90, 92, 101, 106, 108, 109, 115, 117, 124, 126, 128, 131, 139, 141, 153, 155, 170, 173, 174, 180, 185] 400 h
set_option maxRecDepth 100000 in
theorem b237_155 {C : j2_C} (hC : j2_up1 C) {Q : j2_P} {o0 : Nat} {x1 : Int32} {x2 : Int32} {x3 : Int32} {x4 : Int32} {σ : j2_S}
  (h : (vp_in x1 40 ∧ (vp_in x1 40 ∧ T237 C Q 185 [vO 10 o0, vI x1, vI x2, vI x3, vI x4, vM 2] [] ((j2_up σ.1 10089 o0 ((σ.1 10089 o0) + (nI 1))), σ.2.1, (j2_ast σ.2.2 10082 o0 x1.toNatClampNeg ((σ.2.2 10082 o0 x1.toNatClampNeg) - (nI 1))))))) :
  T237 C Q 155 [vO 10 o0, vI x1, vI x2, vI x3, vI x4, vM 2] [] σ := j2_T.go hC [0, 16, 28, 36, 37, 43, 52, 53, 59, 60, 63, 64, 77, 78, 90, 92, 101, 106, 108, 109, 115, 117, 124, 126, 128, 131, 139, 141, 153, 155, 170, 173, 174, 180, 185] 400 h
set_option maxRecDepth 100000 in
theorem b237_170 {C : j2_C} (hC : j2_up1 C) {Q : j2_P} {o0 : Nat} {x1 : Int32} {x2 : Int32} {x3 : Int32} {x4 : Int32} {σ : j2_S}
  (h : C 234 [vO 10 o0, vI (nI 4)] σ (fun r σ1 => T237 C Q 173 [vO 10 o0, vI x1, vI x2, vI x3, vI x4, vM 2] (r.toList ++ []) σ1)) :
  T237 C Q 170 [vO 10 o0, vI x1, vI x2, vI x3, vI x4, vM 2] [] σ := j2_T.go hC [0, 16, 28, 36, 37, 43, 52, 53, 59, 60, 63, 64, 77, 78, 90, 92, 101, 106, 108, 109, 115, 117, 124, 126, 128, 131, 139, 141, 153, 155, 170, 173, 174, 180, 185] 400 h
set_option maxRecDepth 100000 in
theorem b237_173 {C : j2_C} (hC : j2_up1 C) {Q : j2_P} {o0 : Nat} {x1 : Int32} {x2 : Int32} {x3 : Int32} {x4 : Int32} {σ : j2_S}
  (h : T237 C Q 185 [vO 10 o0, vI x1, vI x2, vI x3, vI x4, vM 2] [] σ) :
  T237 C Q 173 [vO 10 o0, vI x1, vI x2, vI x3, vI x4, vM 2] [] σ := j2_T.go hC [0, 16, 28, 36, 37, 43, 52, 53, 59, 60, 63, 64, 77, 78, 90, 92, 101, 106, 108, 109, 115, 117, 124, 126, 128, 131, 139, 141, 153, 155, 170, 173, 174, 180, 185] 400 h
set_option maxRecDepth 100000 in
theorem b237_174 {C : j2_C} (hC : j2_up1 C) {Q : j2_P} {o0 : Nat} {x1 : Int32} {x2 : Int32} {x3 : Int32} {x4 : Int32} {σ : j2_S}
  (h : (((nI 10) < x3 → C 239 [vO 10 o0, vI x2, vI x3] σ (fun r σ1 => T237 C Q 185 [vO 10 o0, vI x1, vI x2, vI x3, vI x4, vM 2] (r.toList ++ []) σ1)) ∧ (¬ ((nI 10) < x3) → C 238 [vO 10 o0, vI x3] σ (fun r σ1 => T237 C Q 180 [vO 10 o0, vI x1, vI x2, vI x3, vI x4, vM 2] (r.toList ++ []) σ1)))) :
  T237 C Q 174 [vO 10 o0, vI x1, vI x2, vI x3, vI x4, vM 2] [] σ := j2_T.go hC [0, 16, 28, 36, 37, 43, 52, 53, 59, 60, 63, 64, 77, 78, 90, 92, 101, 106, 108, 109, 115, 117, 124, 126, 128, 131, 139, 141, 153, 155, 170, 173, 174, 180, 185] 400 h
set_option maxRecDepth 100000 in
theorem b237_180 {C : j2_C} (hC : j2_up1 C) {Q : j2_P} {o0 : Nat} {x1 : Int32} {x2 : Int32} {x3 : Int32} {x4 : Int32} {σ : j2_S}
  (h : T237 C Q 185 [vO 10 o0, vI x1, vI x2, vI x3, vI x4, vM 2] [] σ) :
  T237 C Q 180 [vO 10 o0, vI x1, vI x2, vI x3, vI x4, vM 2] [] σ := j2_T.go hC [0, 16, 28, 36, 37, 43, 52, 53, 59, 60, 63, 64, 77, 78, 90, 92, 101, 106, 108, 109, 115, 117, 124, 126, 128, 131, 139, 141, 153, 155, 170, 173, 174, 180, 185] 400 h
set_option maxRecDepth 100000 in
theorem b237_185 {C : j2_C} (hC : j2_up1 C) {Q : j2_P} {o0 : Nat} {x1 : Int32} {x2 : Int32} {x3 : Int32} {x4 : Int32} {w5 : j2_W} {σ : j2_S}
  (h : ((0 ≤ (σ.1 10094 o0) → ((none : Option FieldType) = none ∧ Q none σ)) ∧ (¬ (0 ≤ (σ.1 10094 o0)) → (vp_in x1 40 ∧ ((none : Option FieldType) = none ∧ Q none (σ.1, σ.2.1, (j2_ast σ.2.2 10081 o0 x1.toNatClampNeg x4))))))) :
  T237 C Q 185 [vO 10 o0, vI x1, vI x2, vI x3, vI x4, w5] [] σ := j2_T.go hC [0, 16, 28, 36, 37, 43, 52, 53, 59, 60, 63, 64, 77, 78, 90, 92, 101, 106, 108, 109, 115, 117, 124, 126, 128, 131, 139, 141, 153, 155, 170, 173, 174, 180, 185] 400 h
abbrev T238 (C : j2_C) (Q : j2_P) : j2_K := j2_T C jc_X10_reckon none Q
set_option maxRecDepth 100000 in
theorem b238_0 {C : j2_C} (hC : j2_up1 C) {Q : j2_P} {o0 : Nat} {x1 : Int32} {σ : j2_S}
  (h : C 231 [vO 10 o0] σ (fun r σ1 => T238 C Q 4 [vO 10 o0, vI x1, vM 2, vM 2] (r.toList ++ [vA 10084 o0]) σ1)) :
  T238 C Q 0 [vO 10 o0, vI x1, vM 2, vM 2] [] σ := j2_T.go hC [0, 4, 14, 15, 28, 34, 35] 400 h
set_option maxRecDepth 100000 in
theorem b238_4 {C : j2_C} (hC : j2_up1 C) {Q : j2_P} {o0 : Nat} {x1 : Int32} {xs0 : Int32} {os1 : Nat} {σ : j2_S}
  (h : (vp_in xs0 400 ∧ ((x1 < (nI 9) → T238 C Q 15 [vO 10 o0, vI x1, vI (σ.2.2 10084 os1 xs0.toNatClampNeg), vM 2] [] σ) ∧ (¬ (x1 < (nI 9)) → ((¬ (σ.2.2 10084 os1 xs0.toNatClampNeg) = 0 → T238 C Q 15 [vO 10 o0, vI x1, vI (σ.2.2 10084 os1 xs0.toNatClampNeg), vM 2] [] σ) ∧ (¬ (¬ (σ.2.2 10084 os1 xs0.toNatClampNeg) = 0) → C 234 [vO 10 o0, vI (nI 2)] σ (fun r σ1 => T238 C Q 14 [vO 10 o0, vI x1, vI (σ.2.2 10084 os1 xs0.toNatClampNeg), vM 2] (r.toList ++ []) σ1))))))) :
  T238 C Q 4 [vO 10 o0, vI x1, vM 2, vM 2] [vI xs0, vA 10084 os1] σ := j2_T.go hC [0, 4, 14, 15, 28, 34, 35] 400 h
set_option maxRecDepth 100000 in
theorem b238_14 {C : j2_C} (hC : j2_up1 C) {Q : j2_P} {o0 : Nat} {x1 : Int32} {x2 : Int32} {σ : j2_S}
  (h : ((none : Option FieldType) = none ∧ Q none σ)) :
  T238 C Q 14 [vO 10 o0, vI x1, vI x2, vM 2] [] σ := j2_T.go hC [0, 4, 14, 15, 28, 34, 35] 400 h
set_option maxRecDepth 100000 in
theorem b238_15 {C : j2_C} (hC : j2_up1 C) {Q : j2_P} {o0 : Nat} {x1 : Int32} {x2 : Int32} {σ : j2_S}
  (h : (vp_in ((σ.1 10079 o0) - (nI 1)) 40 ∧ (vp_in ((σ.1 10079 o0) - (nI 1)) 40 ∧ C 232 [vO 10 o0] (σ.1, σ.2.1, (j2_ast σ.2.2 10082 o0 ((σ.1 10079 o0) - (nI 1)).toNatClampNeg ((σ.2.2 10082 o0 ((σ.1 10079 o0) - (nI 1)).toNatClampNeg) - (nI 1)))) (fun r σ1 => T238 C Q 28 [vO 10 o0, vI x1, vI x2, vM 2] (r.toList ++ []) σ1)))) :
  T238 C Q 15 [vO 10 o0, vI x1, vI x2, vM 2] [] σ := j2_T.go hC [0, 4, 14, 15, 28, 34, 35] 400 h
set_option maxRecDepth 100000 in
theorem b238_28 {C : j2_C} (hC : j2_up1 C) {Q : j2_P} {o0 : Nat} {x1 : Int32} {x2 : Int32} {xs0 : Int32} {σ : j2_S}
  (h : C 210 [vI x1, vI xs0, vI x2] σ (fun r σ1 => T238 C Q 34 [vO 10 o0, vI x1, vI x2, vI xs0] (r.toList ++ [vO 10 o0]) σ1)) :
  T238 C Q 28 [vO 10 o0, vI x1, vI x2, vM 2] [vI xs0] σ := j2_T.go hC [0, 4, 14, 15, 28, 34, 35] 400 h
set_option maxRecDepth 100000 in
theorem b238_34 {C : j2_C} (hC : j2_up1 C) {Q : j2_P} {o0 : Nat} {x1 : Int32} {x2 : Int32} {x3 : Int32} {xs0 : Int32} {os1 : Nat} {σ : j2_S}
  (h : C 233 [vO 10 os1, vI xs0] σ (fun r σ1 => T238 C Q 35 [vO 10 o0, vI x1, vI x2, vI x3] (r.toList ++ []) σ1)) :
  T238 C Q 34 [vO 10 o0, vI x1, vI x2, vI x3] [vI xs0, vO 10 os1] σ := j2_T.go hC [0, 4, 14, 15, 28, 34, 35] 400 h
set_option maxRecDepth 100000 in
theorem b238_35 {C : j2_C} (hC : j2_up1 C) {Q : j2_P} {o0 : Nat} {x1 : Int32} {x2 : Int32} {x3 : Int32} {σ : j2_S}
  (h : ((none : Option FieldType) = none ∧ Q none σ)) :
  T238 C Q 35 [vO 10 o0, vI x1, vI x2, vI x3] [] σ := j2_T.go hC [0, 4, 14, 15, 28, 34, 35] 400 h
abbrev T239 (C : j2_C) (Q : j2_P) : j2_K := j2_T C jc_X10_reachObject none Q
set_option maxRecDepth 100000 in
theorem b239_0 {C : j2_C} (hC : j2_up1 C) {Q : j2_P} {o0 : Nat} {x1 : Int32} {x2 : Int32} {σ : j2_S}
  (h : (vp_in x1 28800 ∧ (vp_in x1 28800 ∧ ((x2 = (nI 15) → T239 C Q 18 [vO 10 o0, vI x1, vI x2, vI (((nI 6) * (σ.2.2 10028 o0 x1.toNatClampNeg)) + (σ.2.2 10029 o0 x1.toNatClampNeg)), vM 2, vM 2] [] σ) ∧ (¬ (x2 = (nI 15)) → ((¬ x2 = (nI 18) → C 231 [vO 10 o0] σ (fun r σ1 => T239 C Q 24 [vO 10 o0, vI x1, vI x2, vI (((nI 6) * (σ.2.2 10028 o0 x1.toNatClampNeg)) + (σ.2.2 10029 o0 x1.toNatClampNeg)), vM 2, vM 2] (r.toList ++ [vA 10084 o0]) σ1)) ∧ (¬ (¬ x2 = (nI 18)) → T239 C Q 18 [vO 10 o0, vI x1, vI x2, vI (((nI 6) * (σ.2.2 10028 o0 x1.toNatClampNeg)) + (σ.2.2 10029 o0 x1.toNatClampNeg)), vM 2, vM 2] [] σ))))))) :
  T239 C Q 0 [vO 10 o0, vI x1, vI x2, vM 2, vM 2, vM 2] [] σ := j2_T.go hC [0, 18, 24, 25, 27, 28, 35, 47, 72, 73, 79, 80, 85, 87, 92, 97, 109, 113, 122, 146, 162, 166, 167, 171, 187] 400 h
set_option maxRecDepth 100000 in
theorem b239_18 {C : j2_C} (hC : j2_up1 C) {Q : j2_P} {o0 : Nat} {x1 : Int32} {x2 : Int32} {x3 : Int32} {σ : j2_S}
  (h : T239 C Q 25 [vO 10 o0, vI x1, vI x2, vI x3, vM 2, vM 2] [vI (nI 0)] σ) :
  T239 C Q 18 [vO 10 o0, vI x1, vI x2, vI x3, vM 2, vM 2] [] σ := j2_T.go hC [0, 18, 24, 25, 27, 28, 35, 47, 72, 73, 79, 80, 85, 87, 92, 97, 109, 113, 122, 146, 162, 166, 167, 171, 187] 400 h
set_option maxRecDepth 100000 in
theorem b239_24 {C : j2_C} (hC : j2_up1 C) {Q : j2_P} {o0 : Nat} {x1 : Int32} {x2 : Int32} {x3 : Int32} {xs0 : Int32} {os1 : Nat} {σ : j2_S}
  (h : (vp_in xs0 400 ∧ T239 C Q 25 [vO 10 o0, vI x1, vI x2, vI x3, vM 2, vM 2] [vI (σ.2.2 10084 os1 xs0.toNatClampNeg)] σ)) :
  T239 C Q 24 [vO 10 o0, vI x1, vI x2, vI x3, vM 2, vM 2] [vI xs0, vA 10084 os1] σ := j2_T.go hC [0, 18, 24, 25, 27, 28, 35, 47, 72, 73, 79, 80, 85, 87, 92, 97, 109, 113, 122, 146, 162, 166, 167, 171, 187] 400 h
set_option maxRecDepth 100000 in
theorem b239_25 {C : j2_C} (hC : j2_up1 C) {Q : j2_P} {o0 : Nat} {x1 : Int32} {x2 : Int32} {x3 : Int32} {xs0 : Int32} {σ : j2_S}
  (h : T239 C Q 27 [vO 10 o0, vI x1, vI x2, vI x3, vI xs0, vM 2] [vI x2] σ) :
  T239 C Q 25 [vO 10 o0, vI x1, vI x2, vI x3, vM 2, vM 2] [vI xs0] σ := j2_T.go hC [0, 18, 24, 25, 27, 28, 35, 47, 72, 73, 79, 80, 85, 87, 92, 97, 109, 113, 122, 146, 162, 166, 167, 171, 187] 400 h
set_option maxRecDepth 100000 in
theorem b239_27 {C : j2_C} (hC : j2_up1 C) {Q : j2_P} {o0 : Nat} {x1 : Int32} {x2 : Int32} {x3 : Int32} {x4 : Int32} {xs0 : Int32} {σ : j2_S} (h0 : xs0 = (nI 15) → T239 C Q 28 [vO 10 o0, vI x1, vI x2, vI x3, vI x4, vM 2] [] σ) (h1 : xs0 = (nI 16) → T239 C Q 87 [vO 10 o0, vI x1, vI x2, vI x3, vI x4, vM 2] [] σ) (h2 : xs0 = (nI 17) → T239 C Q 109 [vO 10 o0, vI x1, vI x2, vI x3, vI x4, vM 2] [] σ) (h3 : xs0 = (nI 18) → T239 C Q 73 [vO 10 o0, vI x1, vI x2, vI x3, vI x4, vM 2] [] σ) (h4 : xs0 = (nI 19) → T239 C Q 80 [vO 10 o0, vI x1, vI x2, vI x3, vI x4, vM 2] [] σ) (h5 : xs0 = (nI 20) → T239 C Q 167 [vO 10 o0, vI x1, vI x2, vI x3, vI x4, vM 2] [] σ) (h6 : xs0 = (nI 21) → T239 C Q 167 [vO 10 o0, vI x1, vI x2, vI x3, vI x4, vM 2] [] σ) (h7 : xs0 = (nI 22) → T239 C Q 167 [vO 10 o0, vI x1, vI x2, vI x3, vI x4, vM 2] [] σ) (h8 : xs0 = (nI 23) → T239 C Q 167 [vO 10 o0, vI x1, vI x2, vI x3, vI x4, vM 2] [] σ) (h9 : xs0 = (nI 24) → T239 C Q 146 [vO 10 o0, vI x1, vI x2, vI x3, vI x4, vM 2] [] σ) (hd : (xs0.toInt < 15 ∨ 24 < xs0.toInt) → T239 C Q 167 [vO 10 o0, vI x1, vI x2, vI x3, vI x4, vM 2] [] σ) :
  T239 C Q 27 [vO 10 o0, vI x1, vI x2, vI x3, vI x4, vM 2] [vI xs0] σ := j2_T.tsw hC (d := 167) (lo := 15) (hi := 24) (ts := #[28, 87, 109, 73, 80, 167, 167, 167, 167, 146]) rfl hd (fun g1 g2 => by
  have g : xs0.toInt = 15 ∨ xs0.toInt = 16 ∨ xs0.toInt = 17 ∨ xs0.toInt = 18 ∨ xs0.toInt = 19 ∨ xs0.toInt = 20 ∨ xs0.toInt = 21 ∨ xs0.toInt = 22 ∨ xs0.toInt = 23 ∨ xs0.toInt = 24 := by omega
  rcases g with g | g | g | g | g | g | g | g | g | g
  · rw [g]; exact h0 (Int32.toInt_inj.mp (g.trans (by decide)))
  · rw [g]; exact h1 (Int32.toInt_inj.mp (g.trans (by decide)))
  · rw [g]; exact h2 (Int32.toInt_inj.mp (g.trans (by decide)))
  · rw [g]; exact h3 (Int32.toInt_inj.mp (g.trans (by decide)))
  · rw [g]; exact h4 (Int32.toInt_inj.mp (g.trans (by decide)))
  · rw [g]; exact h5 (Int32.toInt_inj.mp (g.trans (by decide)))
  · rw [g]; exact h6 (Int32.toInt_inj.mp (g.trans (by decide)))
  · rw [g]; exact h7 (Int32.toInt_inj.mp (g.trans (by decide)))
  · rw [g]; exact h8 (Int32.toInt_inj.mp (g.trans (by decide)))
  · rw [g]; exact h9 (Int32.toInt_inj.mp (g.trans (by decide)))
  )
set_option maxRecDepth 100000 in
theorem b239_28 {C : j2_C} (hC : j2_up1 C) {Q : j2_P} {o0 : Nat} {x1 : Int32} {x2 : Int32} {x3 : Int32} {x4 : Int32} {σ : j2_S}
  (h : ((¬ (σ.1 10085 o0) = (nI 200) → (vp_in x1 28800 ∧ (vp_in (σ.1 10085 o0) 200 ∧ T239 C Q 47 [vO 10 o0, vI x1, vI x2, vI x3, vI x4, vI (nI 0)] [] (σ.1, σ.2.1, (j2_ast σ.2.2 10086 o0 (σ.1 10085 o0).toNatClampNeg (σ.2.2 10028 o0 x1.toNatClampNeg)))))) ∧ (¬ (¬ (σ.1 10085 o0) = (nI 200)) → C 234 [vO 10 o0, vI (nI 6)] σ (fun r σ1 => T239 C Q 35 [vO 10 o0, vI x1, vI x2, vI x3, vI x4, vM 2] (r.toList ++ []) σ1)))) :
  T239 C Q 28 [vO 10 o0, vI x1, vI x2, vI x3, vI x4, vM 2] [] σ := j2_T.go hC [0, 18, 24, 25, 27, 28, 35, 47, 72, 73, 79, 80, 85, 87, 92, 97, 109, 113, 122, 146, 162, 166, 167, 171, 187] 400 h
set_option maxRecDepth 100000 in
theorem b239_35 {C : j2_C} (hC : j2_up1 C) {Q : j2_P} {o0 : Nat} {x1 : Int32} {x2 : Int32} {x3 : Int32} {x4 : Int32} {σ : j2_S}
  (h : ((none : Option FieldType) = none ∧ Q none σ)) :
  T239 C Q 35 [vO 10 o0, vI x1, vI x2, vI x3, vI x4, vM 2] [] σ := j2_T.go hC [0, 18, 24, 25, 27, 28, 35, 47, 72, 73, 79, 80, 85, 87, 92, 97, 109, 113, 122, 146, 162, 166, 167, 171, 187] 400 h
set_option maxRecDepth 100000 in
theorem b239_47 {C : j2_C} (hC : j2_up1 C) {Q : j2_P} {o0 : Nat} {x1 : Int32} {x2 : Int32} {x3 : Int32} {x4 : Int32} {x5 : Int32} {σ : j2_S}
  (h : (((nI 60) ≤ x5 → C 233 [vO 10 o0, vI ((j2_up σ.1 10085 o0 ((σ.1 10085 o0) + (nI 1))) 10085 o0)] ((j2_up σ.1 10085 o0 ((σ.1 10085 o0) + (nI 1))), σ.2.1, σ.2.2) (fun r σ1 => T239 C Q 72 [vO 10 o0, vI x1, vI x2, vI x3, vI x4, vI x5] (r.toList ++ []) σ1)) ∧ (¬ ((nI 60) ≤ x5) → (vp_in (((nI 60) * (σ.1 10085 o0)) + x5) 12000 ∧ T239 C Q 47 [vO 10 o0, vI x1, vI x2, vI x3, vI x4, vI (x5 + (nI 1))] [] (σ.1, σ.2.1, (j2_ast σ.2.2 10087 o0 (((nI 60) * (σ.1 10085 o0)) + x5).toNatClampNeg (nI 0))))))) :
  T239 C Q 47 [vO 10 o0, vI x1, vI x2, vI x3, vI x4, vI x5] [] σ := j2_T.go hC [0, 18, 24, 25, 27, 28, 35, 47, 72, 73, 79, 80, 85, 87, 92, 97, 109, 113, 122, 146, 162, 166, 167, 171, 187] 400 h
set_option maxRecDepth 100000 in
theorem b239_72 {C : j2_C} (hC : j2_up1 C) {Q : j2_P} {o0 : Nat} {x1 : Int32} {x2 : Int32} {x3 : Int32} {x4 : Int32} {x5 : Int32} {σ : j2_S}
  (h : ((none : Option FieldType) = none ∧ Q none σ)) :
  T239 C Q 72 [vO 10 o0, vI x1, vI x2, vI x3, vI x4, vI x5] [] σ := j2_T.go hC [0, 18, 24, 25, 27, 28, 35, 47, 72, 73, 79, 80, 85, 87, 92, 97, 109, 113, 122, 146, 162, 166, 167, 171, 187] 400 h
set_option maxRecDepth 100000 in
theorem b239_73 {C : j2_C} (hC : j2_up1 C) {Q : j2_P} {o0 : Nat} {x1 : Int32} {x2 : Int32} {x3 : Int32} {x4 : Int32} {σ : j2_S}
  (h : (vp_in x3 60 ∧ C 233 [vO 10 o0, vI (σ.2.2 10088 o0 x3.toNatClampNeg)] σ (fun r σ1 => T239 C Q 79 [vO 10 o0, vI x1, vI x2, vI x3, vI x4, vM 2] (r.toList ++ []) σ1))) :
  T239 C Q 73 [vO 10 o0, vI x1, vI x2, vI x3, vI x4, vM 2] [] σ := j2_T.go hC [0, 18, 24, 25, 27, 28, 35, 47, 72, 73, 79, 80, 85, 87, 92, 97, 109, 113, 122, 146, 162, 166, 167, 171, 187] 400 h
set_option maxRecDepth 100000 in
theorem b239_79 {C : j2_C} (hC : j2_up1 C) {Q : j2_P} {o0 : Nat} {x1 : Int32} {x2 : Int32} {x3 : Int32} {x4 : Int32} {σ : j2_S}
  (h : ((none : Option FieldType) = none ∧ Q none σ)) :
  T239 C Q 79 [vO 10 o0, vI x1, vI x2, vI x3, vI x4, vM 2] [] σ := j2_T.go hC [0, 18, 24, 25, 27, 28, 35, 47, 72, 73, 79, 80, 85, 87, 92, 97, 109, 113, 122, 146, 162, 166, 167, 171, 187] 400 h
set_option maxRecDepth 100000 in
theorem b239_80 {C : j2_C} (hC : j2_up1 C) {Q : j2_P} {o0 : Nat} {x1 : Int32} {x2 : Int32} {x3 : Int32} {x4 : Int32} {σ : j2_S}
  (h : C 232 [vO 10 o0] σ (fun r σ1 => T239 C Q 85 [vO 10 o0, vI x1, vI x2, vI x3, vI x4, vM 2] (r.toList ++ [vI x3, vA 10088 o0]) σ1)) :
  T239 C Q 80 [vO 10 o0, vI x1, vI x2, vI x3, vI x4, vM 2] [] σ := j2_T.go hC [0, 18, 24, 25, 27, 28, 35, 47, 72, 73, 79, 80, 85, 87, 92, 97, 109, 113, 122, 146, 162, 166, 167, 171, 187] 400 h
set_option maxRecDepth 100000 in
theorem b239_85 {C : j2_C} (hC : j2_up1 C) {Q : j2_P} {o0 : Nat} {x1 : Int32} {x2 : Int32} {x3 : Int32} {x4 : Int32} {xs0 : Int32} {xs1 : Int32} {os2 : Nat} {σ : j2_S}
  (h : (vp_in xs1 60 ∧ ((none : Option FieldType) = none ∧ Q none (σ.1, σ.2.1, (j2_ast σ.2.2 10088 os2 xs1.toNatClampNeg xs0))))) :
  T239 C Q 85 [vO 10 o0, vI x1, vI x2, vI x3, vI x4, vM 2] [vI xs0, vI xs1, vA 10088 os2] σ := j2_T.go hC [0, 18, 24, 25, 27, 28, 35, 47, 72, 73, 79, 80, 85, 87, 92, 97, 109, 113, 122, 146, 162, 166, 167, 171, 187] 400 h
set_option maxRecDepth 100000 in
theorem b239_87 {C : j2_C} (hC : j2_up1 C) {Q : j2_P} {o0 : Nat} {x1 : Int32} {x2 : Int32} {x3 : Int32} {x4 : Int32} {σ : j2_S}
  (h : ((¬ x4 = 0 → C 231 [vO 10 o0] σ (fun r σ1 => T239 C Q 97 [vO 10 o0, vI x1, vI x2, vI x3, vI x4, vM 2] (r.toList ++ [vA 10084 o0]) σ1)) ∧ (¬ (¬ x4 = 0) → C 234 [vO 10 o0, vI (nI 1)] σ (fun r σ1 => T239 C Q 92 [vO 10 o0, vI x1, vI x2, vI x3, vI x4, vM 2] (r.toList ++ []) σ1)))) :
  T239 C Q 87 [vO 10 o0, vI x1, vI x2, vI x3, vI x4, vM 2] [] σ := j2_T.go hC [0, 18, 24, 25, 27, 28, 35, 47, 72, 73, 79, 80, 85, 87, 92, 97, 109, 113, 122, 146, 162, 166, 167, 171, 187] 400 h
set_option maxRecDepth 100000 in
theorem b239_92 {C : j2_C} (hC : j2_up1 C) {Q : j2_P} {o0 : Nat} {x1 : Int32} {x2 : Int32} {x3 : Int32} {x4 : Int32} {σ : j2_S}
  (h : ((none : Option FieldType) = none ∧ Q none σ)) :
  T239 C Q 92 [vO 10 o0, vI x1, vI x2, vI x3, vI x4, vM 2] [] σ := j2_T.go hC [0, 18, 24, 25, 27, 28, 35, 47, 72, 73, 79, 80, 85, 87, 92, 97, 109, 113, 122, 146, 162, 166, 167, 171, 187] 400 h
set_option maxRecDepth 100000 in
theorem b239_97 {C : j2_C} (hC : j2_up1 C) {Q : j2_P} {o0 : Nat} {x1 : Int32} {x2 : Int32} {x3 : Int32} {x4 : Int32} {xs0 : Int32} {os1 : Nat} {σ : j2_S}
  (h : (vp_in (((nI 60) * (x4 - (nI 1))) + x3) 12000 ∧ (vp_in xs0 400 ∧ ((none : Option FieldType) = none ∧ Q none (σ.1, σ.2.1, (j2_ast σ.2.2 10084 os1 xs0.toNatClampNeg (σ.2.2 10087 o0 (((nI 60) * (x4 - (nI 1))) + x3).toNatClampNeg))))))) :
  T239 C Q 97 [vO 10 o0, vI x1, vI x2, vI x3, vI x4, vM 2] [vI xs0, vA 10084 os1] σ := j2_T.go hC [0, 18, 24, 25, 27, 28, 35, 47, 72, 73, 79, 80, 85, 87, 92, 97, 109, 113, 122, 146, 162, 166, 167, 171, 187] 400 h
set_option maxRecDepth 100000 in
theorem b239_109 {C : j2_C} (hC : j2_up1 C) {Q : j2_P} {o0 : Nat} {x1 : Int32} {x2 : Int32} {x3 : Int32} {x4 : Int32} {σ : j2_S}
  (h : C 231 [vO 10 o0] σ (fun r σ1 => T239 C Q 113 [vO 10 o0, vI x1, vI x2, vI x3, vI x4, vM 2] (r.toList ++ [vA 10084 o0]) σ1)) :
  T239 C Q 109 [vO 10 o0, vI x1, vI x2, vI x3, vI x4, vM 2] [] σ := j2_T.go hC [0, 18, 24, 25, 27, 28, 35, 47, 72, 73, 79, 80, 85, 87, 92, 97, 109, 113, 122, 146, 162, 166, 167, 171, 187] 400 h
set_option maxRecDepth 100000 in
theorem b239_113 {C : j2_C} (hC : j2_up1 C) {Q : j2_P} {o0 : Nat} {x1 : Int32} {x2 : Int32} {x3 : Int32} {x4 : Int32} {xs0 : Int32} {os1 : Nat} {σ : j2_S}
  (h : (vp_in (xs0 - (nI 1)) 400 ∧ ((¬ (σ.2.2 10084 os1 (xs0 - (nI 1)).toNatClampNeg) = 0 → (vp_in (((nI 60) * ((σ.2.2 10084 os1 (xs0 - (nI 1)).toNatClampNeg) - (nI 1))) + x3) 12000 ∧ (vp_in ((σ.1 10079 o0) - (nI 1)) 40 ∧ (vp_in ((σ.1 10079 o0) - (nI 1)) 40 ∧ ((none : Option FieldType) = none ∧ Q none (σ.1, σ.2.1, (j2_ast (j2_ast σ.2.2 10087 o0 (((nI 60) * ((σ.2.2 10084 os1 (xs0 - (nI 1)).toNatClampNeg) - (nI 1))) + x3).toNatClampNeg x4) 10082 o0 ((σ.1 10079 o0) - (nI 1)).toNatClampNeg (((j2_ast σ.2.2 10087 o0 (((nI 60) * ((σ.2.2 10084 os1 (xs0 - (nI 1)).toNatClampNeg) - (nI 1))) + x3).toNatClampNeg x4) 10082 o0 ((σ.1 10079 o0) - (nI 1)).toNatClampNeg) - (nI 2))))))))) ∧ (¬ (¬ (σ.2.2 10084 os1 (xs0 - (nI 1)).toNatClampNeg) = 0) → C 234 [vO 10 o0, vI (nI 1)] σ (fun r σ1 => T239 C Q 122 [vO 10 o0, vI x1, vI x2, vI x3, vI x4, vI (σ.2.2 10084 os1 (xs0 - (nI 1)).toNatClampNeg)] (r.toList ++ []) σ1))))) :
  T239 C Q 113 [vO 10 o0, vI x1, vI x2, vI x3, vI x4, vM 2] [vI xs0, vA 10084 os1] σ := j2_T.go hC [0, 18, 24, 25, 27, 28, 35, 47, 72, 73, 79, 80, 85, 87, 92, 97, 109, 113, 122, 146, 162, 166, 167, 171, 187] 400 h
set_option maxRecDepth 100000 in
theorem b239_122 {C : j2_C} (hC : j2_up1 C) {Q : j2_P} {o0 : Nat} {x1 : Int32} {x2 : Int32} {x3 : Int32} {x4 : Int32} {x5 : Int32} {σ : j2_S}
  (h : ((none : Option FieldType) = none ∧ Q none σ)) :
  T239 C Q 122 [vO 10 o0, vI x1, vI x2, vI x3, vI x4, vI x5] [] σ := j2_T.go hC [0, 18, 24, 25, 27, 28, 35, 47, 72, 73, 79, 80, 85, 87, 92, 97, 109, 113, 122, 146, 162, 166, 167, 171, 187] 400 h
set_option maxRecDepth 100000 in
theorem b239_146 {C : j2_C} (hC : j2_up1 C) {Q : j2_P} {o0 : Nat} {x1 : Int32} {x2 : Int32} {x3 : Int32} {x4 : Int32} {σ : j2_S}
  (h : ((x4 = 0 → T239 C Q 166 [vO 10 o0, vI x1, vI x2, vI x3, vI x4, vM 2] [] σ) ∧ (¬ (x4 = 0) → (vp_in x1 28800 ∧ (vp_in (x4 - (nI 1)) 200 ∧ C 170 [vO 10 o0, vI (σ.1 10093 o0), vI (σ.2.2 10028 o0 x1.toNatClampNeg), vI (σ.2.2 10086 o0 (x4 - (nI 1)).toNatClampNeg)] σ (fun r σ1 => T239 C Q 162 [vO 10 o0, vI x1, vI x2, vI x3, vI x4, vM 2] (r.toList ++ []) σ1)))))) :
  T239 C Q 146 [vO 10 o0, vI x1, vI x2, vI x3, vI x4, vM 2] [] σ := j2_T.go hC [0, 18, 24, 25, 27, 28, 35, 47, 72, 73, 79, 80, 85, 87, 92, 97, 109, 113, 122, 146, 162, 166, 167, 171, 187] 400 h
set_option maxRecDepth 100000 in
theorem b239_162 {C : j2_C} (hC : j2_up1 C) {Q : j2_P} {o0 : Nat} {x1 : Int32} {x2 : Int32} {x3 : Int32} {x4 : Int32} {xs0 : Int32} {σ : j2_S}
  (h : ((¬ xs0 = 0 → T239 C Q 166 [vO 10 o0, vI x1, vI x2, vI x3, vI x4, vM 2] [] σ) ∧ (¬ (¬ xs0 = 0) → C 234 [vO 10 o0, vI (nI 3)] σ (fun r σ1 => T239 C Q 166 [vO 10 o0, vI x1, vI x2, vI x3, vI x4, vM 2] (r.toList ++ []) σ1)))) :
  T239 C Q 162 [vO 10 o0, vI x1, vI x2, vI x3, vI x4, vM 2] [vI xs0] σ := j2_T.go hC [0, 18, 24, 25, 27, 28, 35, 47, 72, 73, 79, 80, 85, 87, 92, 97, 109, 113, 122, 146, 162, 166, 167, 171, 187] 400 h
set_option maxRecDepth 100000 in
theorem b239_166 {C : j2_C} (hC : j2_up1 C) {Q : j2_P} {o0 : Nat} {x1 : Int32} {x2 : Int32} {x3 : Int32} {x4 : Int32} {σ : j2_S}
  (h : ((none : Option FieldType) = none ∧ Q none σ)) :
  T239 C Q 166 [vO 10 o0, vI x1, vI x2, vI x3, vI x4, vM 2] [] σ := j2_T.go hC [0, 18, 24, 25, 27, 28, 35, 47, 72, 73, 79, 80, 85, 87, 92, 97, 109, 113, 122, 146, 162, 166, 167, 171, 187] 400 h
set_option maxRecDepth 100000 in
theorem b239_167 {C : j2_C} (hC : j2_up1 C) {Q : j2_P} {o0 : Nat} {x1 : Int32} {x2 : Int32} {x3 : Int32} {x4 : Int32} {σ : j2_S}
  (h : C 231 [vO 10 o0] σ (fun r σ1 => T239 C Q 171 [vO 10 o0, vI x1, vI x2, vI x3, vI x4, vM 2] (r.toList ++ [vA 10084 o0]) σ1)) :
  T239 C Q 167 [vO 10 o0, vI x1, vI x2, vI x3, vI x4, vM 2] [] σ := j2_T.go hC [0, 18, 24, 25, 27, 28, 35, 47, 72, 73, 79, 80, 85, 87, 92, 97, 109, 113, 122, 146, 162, 166, 167, 171, 187] 400 h
set_option maxRecDepth 100000 in
theorem b239_171 {C : j2_C} (hC : j2_up1 C) {Q : j2_P} {o0 : Nat} {x1 : Int32} {x2 : Int32} {x3 : Int32} {x4 : Int32} {xs0 : Int32} {os1 : Nat} {σ : j2_S}
  (h : ((x4 = 0 → (vp_in xs0 400 ∧ ((none : Option FieldType) = none ∧ Q none (σ.1, σ.2.1, (j2_ast σ.2.2 10084 os1 xs0.toNatClampNeg (nI 0)))))) ∧ (¬ (x4 = 0) → (vp_in x1 28800 ∧ (vp_in (x4 - (nI 1)) 200 ∧ C 170 [vO 10 o0, vI (σ.1 10093 o0), vI (σ.2.2 10028 o0 x1.toNatClampNeg), vI (σ.2.2 10086 o0 (x4 - (nI 1)).toNatClampNeg)] σ (fun r σ1 => T239 C Q 187 [vO 10 o0, vI x1, vI x2, vI x3, vI x4, vM 2] (r.toList ++ [vI xs0, vA 10084 os1]) σ1)))))) :
  T239 C Q 171 [vO 10 o0, vI x1, vI x2, vI x3, vI x4, vM 2] [vI xs0, vA 10084 os1] σ := j2_T.go hC [0, 18, 24, 25, 27, 28, 35, 47, 72, 73, 79, 80, 85, 87, 92, 97, 109, 113, 122, 146, 162, 166, 167, 171, 187] 400 h
set_option maxRecDepth 100000 in
theorem b239_187 {C : j2_C} (hC : j2_up1 C) {Q : j2_P} {o0 : Nat} {x1 : Int32} {x2 : Int32} {x3 : Int32} {x4 : Int32} {xs0 : Int32} {xs1 : Int32} {os2 : Nat} {σ : j2_S}
  (h : ((xs0 = 0 → (vp_in xs1 400 ∧ ((none : Option FieldType) = none ∧ Q none (σ.1, σ.2.1, (j2_ast σ.2.2 10084 os2 xs1.toNatClampNeg (nI 0)))))) ∧ (¬ (xs0 = 0) → (vp_in xs1 400 ∧ ((none : Option FieldType) = none ∧ Q none (σ.1, σ.2.1, (j2_ast σ.2.2 10084 os2 xs1.toNatClampNeg (nI 1)))))))) :
  T239 C Q 187 [vO 10 o0, vI x1, vI x2, vI x3, vI x4, vM 2] [vI xs0, vI xs1, vA 10084 os2] σ := j2_T.go hC [0, 18, 24, 25, 27, 28, 35, 47, 72, 73, 79, 80, 85, 87, 92, 97, 109, 113, 122, 146, 162, 166, 167, 171, 187] 400 h
abbrev T240 (C : j2_C) (Q : j2_P) : j2_K := j2_T C jc_X10_traceBack none Q
set_option maxRecDepth 100000 in
theorem b240_0 {C : j2_C} (hC : j2_up1 C) {Q : j2_P} {o0 : Nat} {σ : j2_S}
  (h : T240 C Q 4 [vO 10 o0, vI (nI 0), vI (nI 0), vM 2, vM 2, vM 2] [] σ) :
  T240 C Q 0 [vO 10 o0, vM 2, vM 2, vM 2, vM 2, vM 2] [] σ := j2_T.go hC [0, 4, 26, 57, 77, 81] 400 h
set_option maxRecDepth 100000 in
theorem b240_4 {C : j2_C} (hC : j2_up1 C) {Q : j2_P} {o0 : Nat} {x1 : Int32} {x2 : Int32} {w3 : j2_W} {w4 : j2_W} {w5 : j2_W} {σ : j2_S}
  (h : (((σ.1 10079 o0) ≤ x2 → (vp_in (nI 7) 8 ∧ (vp_in (nI 4) 8 ∧ ((none : Option FieldType) = none ∧ Q none (σ.1, σ.2.1, (j2_ast (j2_ast σ.2.2 10078 o0 (nI 7).toNatClampNeg x1) 10078 o0 (nI 4).toNatClampNeg (σ.1 10079 o0))))))) ∧ (¬ ((σ.1 10079 o0) ≤ x2) → (vp_in (((σ.1 10079 o0) - (nI 1)) - x2) 40 ∧ (vp_in (((σ.1 10079 o0) - (nI 1)) - x2) 40 ∧ C 160 [vI (σ.1 10093 o0), vI (σ.2.2 10080 o0 (((σ.1 10079 o0) - (nI 1)) - x2).toNatClampNeg), vI (σ.2.2 10081 o0 (((σ.1 10079 o0) - (nI 1)) - x2).toNatClampNeg)] σ (fun r σ1 => T240 C Q 26 [vO 10 o0, vI x1, vI x2, vI (((σ.1 10079 o0) - (nI 1)) - x2), w4, w5] (r.toList ++ []) σ1)))))) :
  T240 C Q 4 [vO 10 o0, vI x1, vI x2, w3, w4, w5] [] σ := j2_T.go hC [0, 4, 26, 57, 77, 81] 400 h
set_option maxRecDepth 100000 in
theorem b240_26 {C : j2_C} (hC : j2_up1 C) {Q : j2_P} {o0 : Nat} {x1 : Int32} {x2 : Int32} {x3 : Int32} {w4 : j2_W} {w5 : j2_W} {xs0 : Int32} {σ : j2_S}
  (h : (vp_in x3 40 ∧ (vp_in x3 40 ∧ (vp_in x2 40 ∧ ((¬ (σ.1 10093 o0) = 0 → T240 C Q 57 [vO 10 o0, vI x1, vI x2, vI x3, vI xs0, vI (nI 0)] [] (σ.1, σ.2.1, (j2_ast σ.2.2 10091 o0 x2.toNatClampNeg (((nI 1000) * (σ.2.2 10080 o0 x3.toNatClampNeg)) + (σ.2.2 10081 o0 x3.toNatClampNeg))))) ∧ (¬ (¬ (σ.1 10093 o0) = 0) → (vp_in x2 40 ∧ (vp_in x1 80 ∧ T240 C Q 81 [vO 10 o0, vI (x1 + (nI 1)), vI x2, vI x3, vI xs0, w5] [] (σ.1, σ.2.1, (j2_ast (j2_ast σ.2.2 10091 o0 x2.toNatClampNeg (((nI 1000) * (σ.2.2 10080 o0 x3.toNatClampNeg)) + (σ.2.2 10081 o0 x3.toNatClampNeg))) 10092 o0 x1.toNatClampNeg ((j2_ast σ.2.2 10091 o0 x2.toNatClampNeg (((nI 1000) * (σ.2.2 10080 o0 x3.toNatClampNeg)) + (σ.2.2 10081 o0 x3.toNatClampNeg))) 10091 o0 x2.toNatClampNeg))))))))))) :
  T240 C Q 26 [vO 10 o0, vI x1, vI x2, vI x3, w4, w5] [vI xs0] σ := j2_T.go hC [0, 4, 26, 57, 77, 81] 400 h
set_option maxRecDepth 100000 in
theorem b240_57 {C : j2_C} (hC : j2_up1 C) {Q : j2_P} {o0 : Nat} {x1 : Int32} {x2 : Int32} {x3 : Int32} {x4 : Int32} {x5 : Int32} {σ : j2_S}
  (h : (vp_in x4 28800 ∧ (((σ.2.2 10030 o0 x4.toNatClampNeg) ≤ x5 → T240 C Q 81 [vO 10 o0, vI x1, vI x2, vI x3, vI x4, vI x5] [] σ) ∧ (¬ ((σ.2.2 10030 o0 x4.toNatClampNeg) ≤ x5) → ((¬ x5 = 0 → (vp_in x4 28800 ∧ T240 C Q 77 [vO 10 o0, vI x1, vI x2, vI x3, vI x4, vI x5] [vI (σ.2.2 10032 o0 x4.toNatClampNeg), vI x1, vA 10092 o0] σ)) ∧ (¬ (¬ x5 = 0) → (vp_in x4 28800 ∧ T240 C Q 77 [vO 10 o0, vI x1, vI x2, vI x3, vI x4, vI x5] [vI (σ.2.2 10031 o0 x4.toNatClampNeg), vI x1, vA 10092 o0] σ))))))) :
  T240 C Q 57 [vO 10 o0, vI x1, vI x2, vI x3, vI x4, vI x5] [] σ := j2_T.go hC [0, 4, 26, 57, 77, 81] 400 h
set_option maxRecDepth 100000 in
theorem b240_77 {C : j2_C} (hC : j2_up1 C) {Q : j2_P} {o0 : Nat} {x1 : Int32} {x2 : Int32} {x3 : Int32} {x4 : Int32} {x5 : Int32} {xs0 : Int32} {xs1 : Int32} {os2 : Nat} {σ : j2_S}
  (h : (vp_in xs1 80 ∧ T240 C Q 57 [vO 10 o0, vI (x1 + (nI 1)), vI x2, vI x3, vI x4, vI (x5 + (nI 1))] [] (σ.1, σ.2.1, (j2_ast σ.2.2 10092 os2 xs1.toNatClampNeg xs0)))) :
  T240 C Q 77 [vO 10 o0, vI x1, vI x2, vI x3, vI x4, vI x5] [vI xs0, vI xs1, vA 10092 os2] σ := j2_T.go hC [0, 4, 26, 57, 77, 81] 400 h
set_option maxRecDepth 100000 in
theorem b240_81 {C : j2_C} (hC : j2_up1 C) {Q : j2_P} {o0 : Nat} {x1 : Int32} {x2 : Int32} {x3 : Int32} {x4 : Int32} {w5 : j2_W} {σ : j2_S}
  (h : T240 C Q 4 [vO 10 o0, vI x1, vI (x2 + (nI 1)), vI x3, vI x4, w5] [] σ) :
  T240 C Q 81 [vO 10 o0, vI x1, vI x2, vI x3, vI x4, w5] [] σ := j2_T.go hC [0, 4, 26, 57, 77, 81] 400 h
abbrev T241 (C : j2_C) (Q : j2_P) : j2_K := j2_T C jc_X10_run (some .int) Q
set_option maxRecDepth 100000 in
theorem b241_0 {C : j2_C} (hC : j2_up1 C) {Q : j2_P} {o0 : Nat} {x1 : Int32} {x2 : Int32} {x3 : Int32} {σ : j2_S}
  (h : C 187 [vO 10 o0, vI x1] ((j2_up σ.1 10000 o0 (nI 0)), σ.2.1, σ.2.2) (fun r σ1 => T241 C Q 6 [vO 10 o0, vI x1, vI x2, vI x3, vM 2] (r.toList ++ []) σ1)) :
  T241 C Q 0 [vO 10 o0, vI x1, vI x2, vI x3, vM 2] [] σ := j2_T.go hC [0, 6, 23, 26, 37, 43, 55, 94, 99, 112, 124, 137, 144] 400 h
set_option maxRecDepth 100000 in
theorem b241_6 {C : j2_C} (hC : j2_up1 C) {Q : j2_P} {o0 : Nat} {x1 : Int32} {x2 : Int32} {x3 : Int32} {xs0 : Int32} {σ : j2_S}
  (h : ((¬ xs0 = 0 → ((x2 < 0 → T241 C Q 23 [vO 10 o0, vI x1, vI x2, vI x3, vM 2] [] σ) ∧ (¬ (x2 < 0) → (((σ.1 10045 o0) ≤ x2 → T241 C Q 23 [vO 10 o0, vI x1, vI x2, vI x3, vM 2] [] σ) ∧ (¬ ((σ.1 10045 o0) ≤ x2) → ((x3 < (nI 1) → T241 C Q 23 [vO 10 o0, vI x1, vI x2, vI x3, vM 2] [] σ) ∧ (¬ (x3 < (nI 1)) → ((x3 ≤ (nI 20000) → T241 C Q 26 [vO 10 o0, vI x1, vI x2, vI x3, vM 2] [] σ) ∧ (¬ (x3 ≤ (nI 20000)) → T241 C Q 23 [vO 10 o0, vI x1, vI x2, vI x3, vM 2] [] σ))))))))) ∧ (¬ (¬ xs0 = 0) → T241 C Q 26 [vO 10 o0, vI x1, vI x2, vI x3, vM 2] [] ((j2_up σ.1 10000 o0 (nI 1)), σ.2.1, σ.2.2)))) :
  T241 C Q 6 [vO 10 o0, vI x1, vI x2, vI x3, vM 2] [vI xs0] σ := j2_T.go hC [0, 6, 23, 26, 37, 43, 55, 94, 99, 112, 124, 137, 144] 400 h
set_option maxRecDepth 100000 in
theorem b241_23 {C : j2_C} (hC : j2_up1 C) {Q : j2_P} {o0 : Nat} {x1 : Int32} {x2 : Int32} {x3 : Int32} {σ : j2_S}
  (h : T241 C Q 26 [vO 10 o0, vI x1, vI x2, vI x3, vM 2] [] ((j2_up σ.1 10000 o0 (nI 2)), σ.2.1, σ.2.2)) :
  T241 C Q 23 [vO 10 o0, vI x1, vI x2, vI x3, vM 2] [] σ := j2_T.go hC [0, 6, 23, 26, 37, 43, 55, 94, 99, 112, 124, 137, 144] 400 h
set_option maxRecDepth 100000 in
theorem b241_26 {C : j2_C} (hC : j2_up1 C) {Q : j2_P} {o0 : Nat} {x1 : Int32} {x2 : Int32} {x3 : Int32} {σ : j2_S}
  (h : (((σ.1 10000 o0) ≤ 0 → ((x1 = 0 → T241 C Q 37 [vO 10 o0, vI x1, vI x2, vI x3, vM 2] [vI (nI 0), vO 10 o0] σ) ∧ (¬ (x1 = 0) → T241 C Q 37 [vO 10 o0, vI x1, vI x2, vI x3, vM 2] [vI (nI 1), vO 10 o0] σ))) ∧ (¬ ((σ.1 10000 o0) ≤ 0) → (True ∧ Q (some (vI (nI 0))) σ)))) :
  T241 C Q 26 [vO 10 o0, vI x1, vI x2, vI x3, vM 2] [] σ := j2_T.go hC [0, 6, 23, 26, 37, 43, 55, 94, 99, 112, 124, 137, 144] 400 h
set_option maxRecDepth 100000 in
theorem b241_37 {C : j2_C} (hC : j2_up1 C) {Q : j2_P} {o0 : Nat} {x1 : Int32} {x2 : Int32} {x3 : Int32} {xs0 : Int32} {os1 : Nat} {σ : j2_S}
  (h : (((nI 1) = 0 ∨ (nI 1) = 1) ∧ T241 C Q 43 [vO 10 o0, vI x1, vI x2, vI x3, vI (nI 0)] [] ((j2_up (j2_up σ.1 10093 os1 xs0) 10077 o0 (nI 1)), σ.2.1, σ.2.2))) :
  T241 C Q 37 [vO 10 o0, vI x1, vI x2, vI x3, vM 2] [vI xs0, vO 10 os1] σ := j2_T.go hC [0, 6, 23, 26, 37, 43, 55, 94, 99, 112, 124, 137, 144] 400 h
set_option maxRecDepth 100000 in
theorem b241_43 {C : j2_C} (hC : j2_up1 C) {Q : j2_P} {o0 : Nat} {x1 : Int32} {x2 : Int32} {x3 : Int32} {x4 : Int32} {σ : j2_S}
  (h : (((nI 8) ≤ x4 → T241 C Q 55 [vO 10 o0, vI x1, vI x2, vI x3, vI (nI 0)] [] σ) ∧ (¬ ((nI 8) ≤ x4) → (vp_in x4 8 ∧ T241 C Q 43 [vO 10 o0, vI x1, vI x2, vI x3, vI (x4 + (nI 1))] [] (σ.1, σ.2.1, (j2_ast σ.2.2 10078 o0 x4.toNatClampNeg (nI 0))))))) :
  T241 C Q 43 [vO 10 o0, vI x1, vI x2, vI x3, vI x4] [] σ := j2_T.go hC [0, 6, 23, 26, 37, 43, 55, 94, 99, 112, 124, 137, 144] 400 h
set_option maxRecDepth 100000 in
theorem b241_55 {C : j2_C} (hC : j2_up1 C) {Q : j2_P} {o0 : Nat} {x1 : Int32} {x2 : Int32} {x3 : Int32} {x4 : Int32} {σ : j2_S}
  (h : (((nI 60) ≤ x4 → ((x1 = 0 → (vp_in x2 6 ∧ T241 C Q 99 [vO 10 o0, vI x1, vI x2, vI x3, vI x4] [vI (σ.2.2 10046 o0 x2.toNatClampNeg), vI (nI 0), vA 10080 o0] ((j2_up (j2_up (j2_up (j2_up (j2_up (j2_up σ.1 10085 o0 (nI 0)) 10089 o0 (nI 0)) 10095 o0 (nI 0)) 10096 o0 (nI 1)) 10094 o0 (-1 : Int32)) 10079 o0 (nI 1)), σ.2.1, σ.2.2))) ∧ (¬ (x1 = 0) → (vp_in x2 6 ∧ C 220 [vO 10 o0, vI (σ.2.2 10046 o0 x2.toNatClampNeg)] ((j2_up (j2_up (j2_up (j2_up (j2_up (j2_up σ.1 10085 o0 (nI 0)) 10089 o0 (nI 0)) 10095 o0 (nI 0)) 10096 o0 (nI 1)) 10094 o0 (-1 : Int32)) 10079 o0 (nI 1)), σ.2.1, σ.2.2) (fun r σ1 => T241 C Q 94 [vO 10 o0, vI x1, vI x2, vI x3, vI x4] (r.toList ++ [vI (nI 0), vA 10080 o0]) σ1))))) ∧ (¬ ((nI 60) ≤ x4) → (vp_in x4 60 ∧ T241 C Q 55 [vO 10 o0, vI x1, vI x2, vI x3, vI (x4 + (nI 1))] [] (σ.1, σ.2.1, (j2_ast σ.2.2 10088 o0 x4.toNatClampNeg (nI 0))))))) :
  T241 C Q 55 [vO 10 o0, vI x1, vI x2, vI x3, vI x4] [] σ := j2_T.go hC [0, 6, 23, 26, 37, 43, 55, 94, 99, 112, 124, 137, 144] 400 h
set_option maxRecDepth 100000 in
theorem b241_94 {C : j2_C} (hC : j2_up1 C) {Q : j2_P} {o0 : Nat} {x1 : Int32} {x2 : Int32} {x3 : Int32} {x4 : Int32} {xs0 : Int32} {xs1 : Int32} {os2 : Nat} {σ : j2_S}
  (h : T241 C Q 99 [vO 10 o0, vI x1, vI x2, vI x3, vI x4] [vI xs0, vI xs1, vA 10080 os2] σ) :
  T241 C Q 94 [vO 10 o0, vI x1, vI x2, vI x3, vI x4] [vI xs0, vI xs1, vA 10080 os2] σ := j2_T.go hC [0, 6, 23, 26, 37, 43, 55, 94, 99, 112, 124, 137, 144] 400 h
set_option maxRecDepth 100000 in
theorem b241_99 {C : j2_C} (hC : j2_up1 C) {Q : j2_P} {o0 : Nat} {x1 : Int32} {x2 : Int32} {x3 : Int32} {x4 : Int32} {xs0 : Int32} {xs1 : Int32} {os2 : Nat} {σ : j2_S}
  (h : (vp_in xs1 40 ∧ (vp_in (nI 0) 40 ∧ (vp_in (nI 0) 40 ∧ T241 C Q 112 [vO 10 o0, vI x1, vI x2, vI x3, vI (nI 0)] [] (σ.1, σ.2.1, (j2_ast (j2_ast (j2_ast σ.2.2 10080 os2 xs1.toNatClampNeg xs0) 10081 o0 (nI 0).toNatClampNeg (nI 0)) 10082 o0 (nI 0).toNatClampNeg (nI 0))))))) :
  T241 C Q 99 [vO 10 o0, vI x1, vI x2, vI x3, vI x4] [vI xs0, vI xs1, vA 10080 os2] σ := j2_T.go hC [0, 6, 23, 26, 37, 43, 55, 94, 99, 112, 124, 137, 144] 400 h
set_option maxRecDepth 100000 in
theorem b241_112 {C : j2_C} (hC : j2_up1 C) {Q : j2_P} {o0 : Nat} {x1 : Int32} {x2 : Int32} {x3 : Int32} {x4 : Int32} {σ : j2_S}
  (h : (((nI 20) ≤ x4 → T241 C Q 124 [vO 10 o0, vI x1, vI x2, vI x3, vI (nI 0)] [] σ) ∧ (¬ ((nI 20) ≤ x4) → (vp_in x4 800 ∧ T241 C Q 112 [vO 10 o0, vI x1, vI x2, vI x3, vI (x4 + (nI 1))] [] (σ.1, σ.2.1, (j2_ast σ.2.2 10083 o0 x4.toNatClampNeg (nI 0))))))) :
  T241 C Q 112 [vO 10 o0, vI x1, vI x2, vI x3, vI x4] [] σ := j2_T.go hC [0, 6, 23, 26, 37, 43, 55, 94, 99, 112, 124, 137, 144] 400 h
set_option maxRecDepth 100000 in
theorem b241_124 {C : j2_C} (hC : j2_up1 C) {Q : j2_P} {o0 : Nat} {x1 : Int32} {x2 : Int32} {x3 : Int32} {x4 : Int32} {σ : j2_S}
  (h : ((0 ≤ (σ.1 10094 o0) → ((¬ (σ.1 10094 o0) = (nI 1) → T241 C Q 144 [vO 10 o0, vI x1, vI x2, vI x3, vI x4] [] σ) ∧ (¬ (¬ (σ.1 10094 o0) = (nI 1)) → C 240 [vO 10 o0] σ (fun r σ1 => T241 C Q 144 [vO 10 o0, vI x1, vI x2, vI x3, vI x4] (r.toList ++ []) σ1)))) ∧ (¬ (0 ≤ (σ.1 10094 o0)) → ((¬ x4 = x3 → C 237 [vO 10 o0] σ (fun r σ1 => T241 C Q 137 [vO 10 o0, vI x1, vI x2, vI x3, vI (x4 + (nI 1))] (r.toList ++ []) σ1)) ∧ (¬ (¬ x4 = x3) → T241 C Q 124 [vO 10 o0, vI x1, vI x2, vI x3, vI x4] [] ((j2_up σ.1 10094 o0 (nI 2)), σ.2.1, σ.2.2)))))) :
  T241 C Q 124 [vO 10 o0, vI x1, vI x2, vI x3, vI x4] [] σ := j2_T.go hC [0, 6, 23, 26, 37, 43, 55, 94, 99, 112, 124, 137, 144] 400 h
set_option maxRecDepth 100000 in
theorem b241_137 {C : j2_C} (hC : j2_up1 C) {Q : j2_P} {o0 : Nat} {x1 : Int32} {x2 : Int32} {x3 : Int32} {x4 : Int32} {σ : j2_S}
  (h : T241 C Q 124 [vO 10 o0, vI x1, vI x2, vI x3, vI x4] [] σ) :
  T241 C Q 137 [vO 10 o0, vI x1, vI x2, vI x3, vI x4] [] σ := j2_T.go hC [0, 6, 23, 26, 37, 43, 55, 94, 99, 112, 124, 137, 144] 400 h
set_option maxRecDepth 100000 in
theorem b241_144 {C : j2_C} (hC : j2_up1 C) {Q : j2_P} {o0 : Nat} {x1 : Int32} {x2 : Int32} {x3 : Int32} {x4 : Int32} {σ : j2_S}
  (h : (vp_in (nI 0) 8 ∧ (vp_in (nI 1) 8 ∧ (vp_in (nI 2) 8 ∧ (vp_in (nI 3) 8 ∧ (vp_in (nI 5) 8 ∧ (vp_in (nI 6) 8 ∧ (True ∧ Q (some (vI (σ.1 10094 o0))) (σ.1, σ.2.1, (j2_ast (j2_ast (j2_ast (j2_ast (j2_ast (j2_ast σ.2.2 10078 o0 (nI 0).toNatClampNeg (σ.1 10094 o0)) 10078 o0 (nI 1).toNatClampNeg x4) 10078 o0 (nI 2).toNatClampNeg (σ.1 10095 o0)) 10078 o0 (nI 3).toNatClampNeg (σ.1 10089 o0)) 10078 o0 (nI 5).toNatClampNeg (σ.1 10085 o0)) 10078 o0 (nI 6).toNatClampNeg (σ.1 10096 o0))))))))))) :
  T241 C Q 144 [vO 10 o0, vI x1, vI x2, vI x3, vI x4] [] σ := j2_T.go hC [0, 6, 23, 26, 37, 43, 55, 94, 99, 112, 124, 137, 144] 400 h
abbrev T242 (C : j2_C) (Q : j2_P) : j2_K := j2_T C jc_X10_result (some .int) Q
set_option maxRecDepth 100000 in
theorem b242_0 {C : j2_C} (hC : j2_up1 C) {Q : j2_P} {o0 : Nat} {x1 : Int32} {σ : j2_S}
  (h : ((((j2_up σ.1 10000 o0 (nI 0)) 10077 o0) = 0 → T242 C Q 11 [vO 10 o0, vI x1] [] ((j2_up σ.1 10000 o0 (nI 0)), σ.2.1, σ.2.2)) ∧ (¬ (((j2_up σ.1 10000 o0 (nI 0)) 10077 o0) = 0) → ((x1 < 0 → T242 C Q 11 [vO 10 o0, vI x1] [] ((j2_up σ.1 10000 o0 (nI 0)), σ.2.1, σ.2.2)) ∧ (¬ (x1 < 0) → ((x1 ≤ (nI 7) → (vp_in x1 8 ∧ (True ∧ Q (some (vI (σ.2.2 10078 o0 x1.toNatClampNeg))) ((j2_up σ.1 10000 o0 (nI 0)), σ.2.1, σ.2.2)))) ∧ (¬ (x1 ≤ (nI 7)) → T242 C Q 11 [vO 10 o0, vI x1] [] ((j2_up σ.1 10000 o0 (nI 0)), σ.2.1, σ.2.2)))))))) :
  T242 C Q 0 [vO 10 o0, vI x1] [] σ := j2_T.go hC [0, 11] 400 h
set_option maxRecDepth 100000 in
theorem b242_11 {C : j2_C} (hC : j2_up1 C) {Q : j2_P} {o0 : Nat} {x1 : Int32} {σ : j2_S}
  (h : (True ∧ Q (some (vI (-1 : Int32))) σ)) :
  T242 C Q 11 [vO 10 o0, vI x1] [] σ := j2_T.go hC [0, 11] 400 h
abbrev T243 (C : j2_C) (Q : j2_P) : j2_K := j2_T C jc_X10_output (some .int) Q
set_option maxRecDepth 100000 in
theorem b243_0 {C : j2_C} (hC : j2_up1 C) {Q : j2_P} {o0 : Nat} {x1 : Int32} {σ : j2_S}
  (h : ((((j2_up σ.1 10000 o0 (nI 0)) 10077 o0) = 0 → T243 C Q 15 [vO 10 o0, vI x1] [] ((j2_up σ.1 10000 o0 (nI 0)), σ.2.1, σ.2.2)) ∧ (¬ (((j2_up σ.1 10000 o0 (nI 0)) 10077 o0) = 0) → ((x1 < 0 → T243 C Q 15 [vO 10 o0, vI x1] [] ((j2_up σ.1 10000 o0 (nI 0)), σ.2.1, σ.2.2)) ∧ (¬ (x1 < 0) → ((((j2_up σ.1 10000 o0 (nI 0)) 10089 o0) ≤ x1 → T243 C Q 15 [vO 10 o0, vI x1] [] ((j2_up σ.1 10000 o0 (nI 0)), σ.2.1, σ.2.2)) ∧ (¬ (((j2_up σ.1 10000 o0 (nI 0)) 10089 o0) ≤ x1) → ((x1 < (nI 100) → (vp_in x1 100 ∧ (True ∧ Q (some (vI (σ.2.2 10090 o0 x1.toNatClampNeg))) ((j2_up σ.1 10000 o0 (nI 0)), σ.2.1, σ.2.2)))) ∧ (¬ (x1 < (nI 100)) → T243 C Q 15 [vO 10 o0, vI x1] [] ((j2_up σ.1 10000 o0 (nI 0)), σ.2.1, σ.2.2)))))))))) :
  T243 C Q 0 [vO 10 o0, vI x1] [] σ := j2_T.go hC [0, 15] 400 h
set_option maxRecDepth 100000 in
theorem b243_15 {C : j2_C} (hC : j2_up1 C) {Q : j2_P} {o0 : Nat} {x1 : Int32} {σ : j2_S}
  (h : (True ∧ Q (some (vI (nI 0))) σ)) :
  T243 C Q 15 [vO 10 o0, vI x1] [] σ := j2_T.go hC [0, 15] 400 h
abbrev T244 (C : j2_C) (Q : j2_P) : j2_K := j2_T C jc_X10_trace (some .int) Q
set_option maxRecDepth 100000 in
theorem b244_0 {C : j2_C} (hC : j2_up1 C) {Q : j2_P} {o0 : Nat} {x1 : Int32} {σ : j2_S}
  (h : ((((j2_up σ.1 10000 o0 (nI 0)) 10077 o0) = 0 → T244 C Q 14 [vO 10 o0, vI x1] [] ((j2_up σ.1 10000 o0 (nI 0)), σ.2.1, σ.2.2)) ∧ (¬ (((j2_up σ.1 10000 o0 (nI 0)) 10077 o0) = 0) → ((x1 < 0 → T244 C Q 14 [vO 10 o0, vI x1] [] ((j2_up σ.1 10000 o0 (nI 0)), σ.2.1, σ.2.2)) ∧ (¬ (x1 < 0) → (vp_in (nI 4) 8 ∧ ((x1 < (σ.2.2 10078 o0 (nI 4).toNatClampNeg) → (vp_in x1 40 ∧ (True ∧ Q (some (vI (σ.2.2 10091 o0 x1.toNatClampNeg))) ((j2_up σ.1 10000 o0 (nI 0)), σ.2.1, σ.2.2)))) ∧ (¬ (x1 < (σ.2.2 10078 o0 (nI 4).toNatClampNeg)) → T244 C Q 14 [vO 10 o0, vI x1] [] ((j2_up σ.1 10000 o0 (nI 0)), σ.2.1, σ.2.2))))))))) :
  T244 C Q 0 [vO 10 o0, vI x1] [] σ := j2_T.go hC [0, 14] 400 h
set_option maxRecDepth 100000 in
theorem b244_14 {C : j2_C} (hC : j2_up1 C) {Q : j2_P} {o0 : Nat} {x1 : Int32} {σ : j2_S}
  (h : (True ∧ Q (some (vI (-1 : Int32))) σ)) :
  T244 C Q 14 [vO 10 o0, vI x1] [] σ := j2_T.go hC [0, 14] 400 h
abbrev T245 (C : j2_C) (Q : j2_P) : j2_K := j2_T C jc_X10_back (some .int) Q
set_option maxRecDepth 100000 in
theorem b245_0 {C : j2_C} (hC : j2_up1 C) {Q : j2_P} {o0 : Nat} {x1 : Int32} {σ : j2_S}
  (h : ((((j2_up σ.1 10000 o0 (nI 0)) 10077 o0) = 0 → T245 C Q 14 [vO 10 o0, vI x1] [] ((j2_up σ.1 10000 o0 (nI 0)), σ.2.1, σ.2.2)) ∧ (¬ (((j2_up σ.1 10000 o0 (nI 0)) 10077 o0) = 0) → ((x1 < 0 → T245 C Q 14 [vO 10 o0, vI x1] [] ((j2_up σ.1 10000 o0 (nI 0)), σ.2.1, σ.2.2)) ∧ (¬ (x1 < 0) → (vp_in (nI 7) 8 ∧ ((x1 < (σ.2.2 10078 o0 (nI 7).toNatClampNeg) → (vp_in x1 80 ∧ (True ∧ Q (some (vI (σ.2.2 10092 o0 x1.toNatClampNeg))) ((j2_up σ.1 10000 o0 (nI 0)), σ.2.1, σ.2.2)))) ∧ (¬ (x1 < (σ.2.2 10078 o0 (nI 7).toNatClampNeg)) → T245 C Q 14 [vO 10 o0, vI x1] [] ((j2_up σ.1 10000 o0 (nI 0)), σ.2.1, σ.2.2))))))))) :
  T245 C Q 0 [vO 10 o0, vI x1] [] σ := j2_T.go hC [0, 14] 400 h
set_option maxRecDepth 100000 in
theorem b245_14 {C : j2_C} (hC : j2_up1 C) {Q : j2_P} {o0 : Nat} {x1 : Int32} {σ : j2_S}
  (h : (True ∧ Q (some (vI (-1 : Int32))) σ)) :
  T245 C Q 14 [vO 10 o0, vI x1] [] σ := j2_T.go hC [0, 14] 400 h
abbrev T246 (C : j2_C) (Q : j2_P) : j2_K := j2_T C jc_X10_again (some .boolean) Q
set_option maxRecDepth 100000 in
theorem b246_0 {C : j2_C} (hC : j2_up1 C) {Q : j2_P} {o0 : Nat} {σ : j2_S}
  (h : ((¬ ((j2_up σ.1 10000 o0 (nI 0)) 10044 o0) = 0 → T246 C Q 10 [vO 10 o0, vI (nI 0)] [] ((j2_up σ.1 10000 o0 (nI 0)), σ.2.1, σ.2.2)) ∧ (¬ (¬ ((j2_up σ.1 10000 o0 (nI 0)) 10044 o0) = 0) → (((nI 0) = 0 ∨ (nI 0) = 1) ∧ Q (some (vI (nI 0))) ((j2_up σ.1 10000 o0 (nI 0)), σ.2.1, σ.2.2))))) :
  T246 C Q 0 [vO 10 o0, vM 2] [] σ := j2_T.go hC [0, 10, 23, 30, 36] 400 h
set_option maxRecDepth 100000 in
theorem b246_10 {C : j2_C} (hC : j2_up1 C) {Q : j2_P} {o0 : Nat} {x1 : Int32} {σ : j2_S}
  (h : (((σ.1 10045 o0) ≤ x1 → C 183 [vO 10 o0, vI (nI 1), vI (nI 0)] σ (fun r σ1 => T246 C Q 30 [vO 10 o0, vI x1] (r.toList ++ []) σ1)) ∧ (¬ ((σ.1 10045 o0) ≤ x1) → (vp_in x1 6 ∧ C 220 [vO 10 o0, vI (σ.2.2 10046 o0 x1.toNatClampNeg)] σ (fun r σ1 => T246 C Q 23 [vO 10 o0, vI x1] (r.toList ++ [vI x1, vA 10046 o0]) σ1))))) :
  T246 C Q 10 [vO 10 o0, vI x1] [] σ := j2_T.go hC [0, 10, 23, 30, 36] 400 h
set_option maxRecDepth 100000 in
theorem b246_23 {C : j2_C} (hC : j2_up1 C) {Q : j2_P} {o0 : Nat} {x1 : Int32} {xs0 : Int32} {xs1 : Int32} {os2 : Nat} {σ : j2_S}
  (h : (vp_in xs1 6 ∧ T246 C Q 10 [vO 10 o0, vI (x1 + (nI 1))] [] (σ.1, σ.2.1, (j2_ast σ.2.2 10046 os2 xs1.toNatClampNeg xs0)))) :
  T246 C Q 23 [vO 10 o0, vI x1] [vI xs0, vI xs1, vA 10046 os2] σ := j2_T.go hC [0, 10, 23, 30, 36] 400 h
set_option maxRecDepth 100000 in
theorem b246_30 {C : j2_C} (hC : j2_up1 C) {Q : j2_P} {o0 : Nat} {x1 : Int32} {σ : j2_S}
  (h : C 180 [vO 10 o0, vI (nI 0)] ((j2_up σ.1 10007 o0 (nI 0)), σ.2.1, σ.2.2) (fun r σ1 => T246 C Q 36 [vO 10 o0, vI x1] (r.toList ++ []) σ1)) :
  T246 C Q 30 [vO 10 o0, vI x1] [] σ := j2_T.go hC [0, 10, 23, 30, 36] 400 h
set_option maxRecDepth 100000 in
theorem b246_36 {C : j2_C} (hC : j2_up1 C) {Q : j2_P} {o0 : Nat} {x1 : Int32} {σ : j2_S}
  (h : (((nI 0) = 0 ∨ (nI 0) = 1) ∧ (((nI 0) = 0 ∨ (nI 0) = 1) ∧ (((nI 1) = 0 ∨ (nI 1) = 1) ∧ Q (some (vI (nI 1))) ((j2_up (j2_up σ.1 10044 o0 (nI 0)) 10077 o0 (nI 0)), σ.2.1, σ.2.2))))) :
  T246 C Q 36 [vO 10 o0, vI x1] [] σ := j2_T.go hC [0, 10, 23, 30, 36] 400 h
abbrev T247 (C : j2_C) (Q : j2_P) : j2_K := j2_T C jc_J7_rangeCheck_23922 none Q
set_option maxRecDepth 100000 in
theorem b247_0 {C : j2_C} (hC : j2_up1 C) {Q : j2_P} {x0 : Int32} {x1 : Int32} {x2 : Int32} {σ : j2_S}
  (h : ((x1 ≤ x2 → ((0 ≤ x1 → ((x2 ≤ x0 → ((none : Option FieldType) = none ∧ Q none σ)) ∧ (¬ (x2 ≤ x0) → False))) ∧ (¬ (0 ≤ x1) → False))) ∧ (¬ (x1 ≤ x2) → False))) :
  T247 C Q 0 [vI x0, vI x1, vI x2] [] σ := j2_T.go hC [0] 400 h
abbrev T248 (C : j2_C) (Q : j2_P) : j2_K := j2_T C jc_J7_fill_53178 none Q
set_option maxRecDepth 100000 in
theorem b248_0 {C : j2_C} (hC : j2_up1 C) {Q : j2_P} {o0 : Nat} {e0 : Nat} {x1 : Int32} {σ : j2_S}
  (h : (if lt_fq e0 = 0 ∨ lt_fq e0 = 1 then T248 C Q 5 [vA e0 o0, vI x1, vI (nI 0), vI (Int32.ofNat (lt_fn e0))] [] σ else False)) :
  T248 C Q 0 [vA e0 o0, vI x1, vM 2, vM 2] [] σ := j2_T.go hC [0, 5] 400 h
set_option maxRecDepth 100000 in
theorem b248_5 {C : j2_C} (hC : j2_up1 C) {Q : j2_P} {o0 : Nat} {e0 : Nat} {x1 : Int32} {x2 : Int32} {x3 : Int32} {σ : j2_S}
  (h : ((x3 ≤ x2 → ((none : Option FieldType) = none ∧ Q none σ)) ∧ (¬ (x3 ≤ x2) → (if lt_fq e0 = 0 then vp_in x2 (lt_fn e0) ∧ T248 C Q 5 [vA e0 o0, vI x1, vI (x2 + (nI 1)), vI x3] [] (σ.1, σ.2.1, (j2_ast σ.2.2 e0 o0 x2.toNatClampNeg x1)) else False)))) :
  T248 C Q 5 [vA e0 o0, vI x1, vI x2, vI x3] [] σ := j2_T.go hC [0, 5] 400 h
abbrev T249 (C : j2_C) (Q : j2_P) : j2_K := j2_T C jc_J7_fill_fda19 none Q
set_option maxRecDepth 100000 in
theorem b249_0 {C : j2_C} (hC : j2_up1 C) {Q : j2_P} {o0 : Nat} {e0 : Nat} {x1 : Int32} {x2 : Int32} {x3 : Int32} {σ : j2_S}
  (h : (if lt_fq e0 = 0 ∨ lt_fq e0 = 1 then C 247 [vI (Int32.ofNat (lt_fn e0)), vI x1, vI x2] σ (fun r σ1 => T249 C Q 5 [vA e0 o0, vI x1, vI x2, vI x3, vM 2] (r.toList ++ []) σ1) else False)) :
  T249 C Q 0 [vA e0 o0, vI x1, vI x2, vI x3, vM 2] [] σ := j2_T.go hC [0, 5, 7] 400 h
set_option maxRecDepth 100000 in
theorem b249_5 {C : j2_C} (hC : j2_up1 C) {Q : j2_P} {o0 : Nat} {e0 : Nat} {x1 : Int32} {x2 : Int32} {x3 : Int32} {σ : j2_S}
  (h : T249 C Q 7 [vA e0 o0, vI x1, vI x2, vI x3, vI x1] [] σ) :
  T249 C Q 5 [vA e0 o0, vI x1, vI x2, vI x3, vM 2] [] σ := j2_T.go hC [0, 5, 7] 400 h
set_option maxRecDepth 100000 in
theorem b249_7 {C : j2_C} (hC : j2_up1 C) {Q : j2_P} {o0 : Nat} {e0 : Nat} {x1 : Int32} {x2 : Int32} {x3 : Int32} {x4 : Int32} {σ : j2_S}
  (h : ((x2 ≤ x4 → ((none : Option FieldType) = none ∧ Q none σ)) ∧ (¬ (x2 ≤ x4) → (if lt_fq e0 = 0 then vp_in x4 (lt_fn e0) ∧ T249 C Q 7 [vA e0 o0, vI x1, vI x2, vI x3, vI (x4 + (nI 1))] [] (σ.1, σ.2.1, (j2_ast σ.2.2 e0 o0 x4.toNatClampNeg x3)) else False)))) :
  T249 C Q 7 [vA e0 o0, vI x1, vI x2, vI x3, vI x4] [] σ := j2_T.go hC [0, 5, 7] 400 h
