abbrev T185 (C : j2_C) (Q : j2_P) : j2_K := j2_T C jc_X10_read (some .int) Q
set_option maxRecDepth 100000 in
theorem b185_0 {C : j2_C} (hC : j2_up1 C) {Q : j2_P} {o0 : Nat} {σ : j2_S}
  (h : (((nI 0) = 0 ∨ (nI 0) = 1) ∧ C 161 [vO 10 o0] ((j2_up (j2_up (j2_up (j2_up (j2_up σ.1 10000 o0 (nI 0)) 10003 o0 ((j2_up σ.1 10000 o0 (nI 0)) 10002 o0)) 10002 o0 (nI 0)) 10007 o0 (nI 0)) 10042 o0 (nI 0)), σ.2.1, σ.2.2) (fun r σ1 => T185 C Q 18 [vO 10 o0, vM 2, vM 2] (r.toList ++ []) σ1))) :
  T185 C Q 0 [vO 10 o0, vM 2, vM 2] [] σ := j2_T.go hC [0, 18, 23, 28, 34, 40, 63, 65, 73, 86] 400 h
set_option maxRecDepth 100000 in
theorem b185_18 {C : j2_C} (hC : j2_up1 C) {Q : j2_P} {o0 : Nat} {σ : j2_S}
  (h : ((¬ (σ.1 10007 o0) = 0 → T185 C Q 23 [vO 10 o0, vM 2, vM 2] [] σ) ∧ (¬ (¬ (σ.1 10007 o0) = 0) → C 167 [vO 10 o0] σ (fun r σ1 => T185 C Q 23 [vO 10 o0, vM 2, vM 2] (r.toList ++ []) σ1)))) :
  T185 C Q 18 [vO 10 o0, vM 2, vM 2] [] σ := j2_T.go hC [0, 18, 23, 28, 34, 40, 63, 65, 73, 86] 400 h
set_option maxRecDepth 100000 in
theorem b185_23 {C : j2_C} (hC : j2_up1 C) {Q : j2_P} {o0 : Nat} {σ : j2_S}
  (h : ((¬ (σ.1 10007 o0) = 0 → T185 C Q 28 [vO 10 o0, vM 2, vM 2] [] σ) ∧ (¬ (¬ (σ.1 10007 o0) = 0) → C 169 [vO 10 o0] σ (fun r σ1 => T185 C Q 28 [vO 10 o0, vM 2, vM 2] (r.toList ++ []) σ1)))) :
  T185 C Q 23 [vO 10 o0, vM 2, vM 2] [] σ := j2_T.go hC [0, 18, 23, 28, 34, 40, 63, 65, 73, 86] 400 h
set_option maxRecDepth 100000 in
theorem b185_28 {C : j2_C} (hC : j2_up1 C) {Q : j2_P} {o0 : Nat} {σ : j2_S}
  (h : ((¬ (σ.1 10007 o0) = 0 → T185 C Q 34 [vO 10 o0, vM 2, vM 2] [] σ) ∧ (¬ (¬ (σ.1 10007 o0) = 0) → C 180 [vO 10 o0, vI (nI 2)] σ (fun r σ1 => T185 C Q 34 [vO 10 o0, vM 2, vM 2] (r.toList ++ []) σ1)))) :
  T185 C Q 28 [vO 10 o0, vM 2, vM 2] [] σ := j2_T.go hC [0, 18, 23, 28, 34, 40, 63, 65, 73, 86] 400 h
set_option maxRecDepth 100000 in
theorem b185_34 {C : j2_C} (hC : j2_up1 C) {Q : j2_P} {o0 : Nat} {σ : j2_S}
  (h : T185 C Q 40 [vO 10 o0, vI (nI 0), vM 2] [] ((j2_up σ.1 10005 o0 (σ.1 10007 o0)), σ.2.1, σ.2.2)) :
  T185 C Q 34 [vO 10 o0, vM 2, vM 2] [] σ := j2_T.go hC [0, 18, 23, 28, 34, 40, 63, 65, 73, 86] 400 h
set_option maxRecDepth 100000 in
theorem b185_40 {C : j2_C} (hC : j2_up1 C) {Q : j2_P} {o0 : Nat} {x1 : Int32} {σ : j2_S}
  (h : (((nI 3) ≤ x1 → (((σ.1 10007 o0) = 0 → C 183 [vO 10 o0, vI (nI 2), vI (nI 0)] σ (fun r σ1 => T185 C Q 63 [vO 10 o0, vI x1, vM 2] (r.toList ++ []) σ1)) ∧ (¬ ((σ.1 10007 o0) = 0) → (True ∧ Q (some (vI (σ.1 10007 o0))) σ)))) ∧ (¬ ((nI 3) ≤ x1) → (vp_in x1 3 ∧ (vp_in x1 3 ∧ T185 C Q 40 [vO 10 o0, vI (x1 + (nI 1)), vM 2] [] (σ.1, σ.2.1, (j2_ast σ.2.2 10006 o0 x1.toNatClampNeg (σ.2.2 10008 o0 x1.toNatClampNeg)))))))) :
  T185 C Q 40 [vO 10 o0, vI x1, vM 2] [] σ := j2_T.go hC [0, 18, 23, 28, 34, 40, 63, 65, 73, 86] 400 h
set_option maxRecDepth 100000 in
theorem b185_63 {C : j2_C} (hC : j2_up1 C) {Q : j2_P} {o0 : Nat} {x1 : Int32} {σ : j2_S}
  (h : T185 C Q 65 [vO 10 o0, vI (nI 0), vM 2] [] σ) :
  T185 C Q 63 [vO 10 o0, vI x1, vM 2] [] σ := j2_T.go hC [0, 18, 23, 28, 34, 40, 63, 65, 73, 86] 400 h
set_option maxRecDepth 100000 in
theorem b185_65 {C : j2_C} (hC : j2_up1 C) {Q : j2_P} {o0 : Nat} {x1 : Int32} {w2 : j2_W} {σ : j2_S}
  (h : (vp_in (nI 0) 3 ∧ (((σ.2.2 10018 o0 (nI 0).toNatClampNeg) ≤ x1 → (((nI 1) = 0 ∨ (nI 1) = 1) ∧ (((nI 0) = 0 ∨ (nI 0) = 1) ∧ (((nI 0) = 0 ∨ (nI 0) = 1) ∧ (True ∧ Q (some (vI (nI 0))) ((j2_up (j2_up (j2_up (j2_up σ.1 10043 o0 (nI 1)) 10044 o0 (nI 0)) 10077 o0 (nI 0)) 10045 o0 (nI 0)), σ.2.1, σ.2.2)))))) ∧ (¬ ((σ.2.2 10018 o0 (nI 0).toNatClampNeg) ≤ x1) → T185 C Q 73 [vO 10 o0, vI x1, vI (nI 0)] [] σ)))) :
  T185 C Q 65 [vO 10 o0, vI x1, w2] [] σ := j2_T.go hC [0, 18, 23, 28, 34, 40, 63, 65, 73, 86] 400 h
set_option maxRecDepth 100000 in
theorem b185_73 {C : j2_C} (hC : j2_up1 C) {Q : j2_P} {o0 : Nat} {x1 : Int32} {x2 : Int32} {σ : j2_S}
  (h : (vp_in x1 240 ∧ (((σ.2.2 10026 o0 x1.toNatClampNeg) ≤ x2 → T185 C Q 65 [vO 10 o0, vI (x1 + (nI 1)), vI x2] [] σ) ∧ (¬ ((σ.2.2 10026 o0 x1.toNatClampNeg) ≤ x2) → C 184 [vO 10 o0, vI (((nI 120) * x1) + x2)] σ (fun r σ1 => T185 C Q 86 [vO 10 o0, vI x1, vI x2] (r.toList ++ []) σ1))))) :
  T185 C Q 73 [vO 10 o0, vI x1, vI x2] [] σ := j2_T.go hC [0, 18, 23, 28, 34, 40, 63, 65, 73, 86] 400 h
set_option maxRecDepth 100000 in
theorem b185_86 {C : j2_C} (hC : j2_up1 C) {Q : j2_P} {o0 : Nat} {x1 : Int32} {x2 : Int32} {σ : j2_S}
  (h : T185 C Q 73 [vO 10 o0, vI x1, vI (x2 + (nI 1))] [] σ) :
  T185 C Q 86 [vO 10 o0, vI x1, vI x2] [] σ := j2_T.go hC [0, 18, 23, 28, 34, 40, 63, 65, 73, 86] 400 h
abbrev T186 (C : j2_C) (Q : j2_P) : j2_K := j2_T C jc_X10_fault (some .int) Q
set_option maxRecDepth 100000 in
theorem b186_0 {C : j2_C} (hC : j2_up1 C) {Q : j2_P} {o0 : Nat} {x1 : Int32} {σ : j2_S}
  (h : ((¬ x1 = 0 → ((((j2_up σ.1 10000 o0 (nI 0)) 10005 o0) = 0 → T186 C Q 17 [vO 10 o0, vI x1] [] ((j2_up σ.1 10000 o0 (nI 0)), σ.2.1, σ.2.2)) ∧ (¬ (((j2_up σ.1 10000 o0 (nI 0)) 10005 o0) = 0) → ((x1 < (nI 1) → T186 C Q 17 [vO 10 o0, vI x1] [] ((j2_up σ.1 10000 o0 (nI 0)), σ.2.1, σ.2.2)) ∧ (¬ (x1 < (nI 1)) → ((x1 ≤ (nI 3) → (vp_in (x1 - (nI 1)) 3 ∧ (True ∧ Q (some (vI (σ.2.2 10006 o0 (x1 - (nI 1)).toNatClampNeg))) ((j2_up σ.1 10000 o0 (nI 0)), σ.2.1, σ.2.2)))) ∧ (¬ (x1 ≤ (nI 3)) → T186 C Q 17 [vO 10 o0, vI x1] [] ((j2_up σ.1 10000 o0 (nI 0)), σ.2.1, σ.2.2)))))))) ∧ (¬ (¬ x1 = 0) → (True ∧ Q (some (vI ((j2_up σ.1 10000 o0 (nI 0)) 10005 o0))) ((j2_up σ.1 10000 o0 (nI 0)), σ.2.1, σ.2.2))))) :
  T186 C Q 0 [vO 10 o0, vI x1] [] σ := j2_T.go hC [0, 17] 400 h
set_option maxRecDepth 100000 in
theorem b186_17 {C : j2_C} (hC : j2_up1 C) {Q : j2_P} {o0 : Nat} {x1 : Int32} {σ : j2_S}
  (h : (True ∧ Q (some (vI (-1 : Int32))) σ)) :
  T186 C Q 17 [vO 10 o0, vI x1] [] σ := j2_T.go hC [0, 17] 400 h
abbrev T187 (C : j2_C) (Q : j2_P) : j2_K := j2_T C jc_X10_isThere (some .boolean) Q
set_option maxRecDepth 100000 in
theorem b187_0 {C : j2_C} (hC : j2_up1 C) {Q : j2_P} {o0 : Nat} {x1 : Int32} {σ : j2_S}
  (h : ((x1 = 0 → (((σ.1 10043 o0) = 0 ∨ (σ.1 10043 o0) = 1) ∧ Q (some (vI (σ.1 10043 o0))) σ)) ∧ (¬ (x1 = 0) → (((σ.1 10044 o0) = 0 ∨ (σ.1 10044 o0) = 1) ∧ Q (some (vI (σ.1 10044 o0))) σ)))) :
  T187 C Q 0 [vO 10 o0, vI x1] [] σ := j2_T.go hC [0] 400 h
abbrev T188 (C : j2_C) (Q : j2_P) : j2_K := j2_T C jc_X10_size (some .int) Q
set_option maxRecDepth 100000 in
theorem b188_0 {C : j2_C} (hC : j2_up1 C) {Q : j2_P} {o0 : Nat} {x1 : Int32} {x2 : Int32} {σ : j2_S}
  (h : ((x2 < 0 → (True ∧ Q (some (vI (-1 : Int32))) ((j2_up σ.1 10000 o0 (nI 0)), σ.2.1, σ.2.2))) ∧ (¬ (x2 < 0) → ((x2 ≤ (nI 4) → C 187 [vO 10 o0, vI x1] ((j2_up σ.1 10000 o0 (nI 0)), σ.2.1, σ.2.2) (fun r σ1 => T188 C Q 13 [vO 10 o0, vI x1, vI x2, vM 2, vM 2, vM 2] (r.toList ++ []) σ1)) ∧ (¬ (x2 ≤ (nI 4)) → (True ∧ Q (some (vI (-1 : Int32))) ((j2_up σ.1 10000 o0 (nI 0)), σ.2.1, σ.2.2))))))) :
  T188 C Q 0 [vO 10 o0, vI x1, vI x2, vM 2, vM 2, vM 2] [] σ := j2_T.go hC [0, 13, 21, 26, 48, 50, 72] 400 h
set_option maxRecDepth 100000 in
theorem b188_13 {C : j2_C} (hC : j2_up1 C) {Q : j2_P} {o0 : Nat} {x1 : Int32} {x2 : Int32} {xs0 : Int32} {σ : j2_S}
  (h : ((¬ xs0 = 0 → ((x1 = 0 → T188 C Q 21 [vO 10 o0, vI x1, vI x2, vM 2, vM 2, vM 2] [vI (nI 0)] σ) ∧ (¬ (x1 = 0) → T188 C Q 21 [vO 10 o0, vI x1, vI x2, vM 2, vM 2, vM 2] [vI (nI 1)] σ))) ∧ (¬ (¬ xs0 = 0) → (True ∧ Q (some (vI (nI 0))) σ)))) :
  T188 C Q 13 [vO 10 o0, vI x1, vI x2, vM 2, vM 2, vM 2] [vI xs0] σ := j2_T.go hC [0, 13, 21, 26, 48, 50, 72] 400 h
set_option maxRecDepth 100000 in
theorem b188_21 {C : j2_C} (hC : j2_up1 C) {Q : j2_P} {o0 : Nat} {x1 : Int32} {x2 : Int32} {xs0 : Int32} {σ : j2_S}
  (h : T188 C Q 26 [vO 10 o0, vI x1, vI x2, vI xs0, vI (nI 0), vI (nI 0)] [] σ) :
  T188 C Q 21 [vO 10 o0, vI x1, vI x2, vM 2, vM 2, vM 2] [vI xs0] σ := j2_T.go hC [0, 13, 21, 26, 48, 50, 72] 400 h
set_option maxRecDepth 100000 in
theorem b188_26 {C : j2_C} (hC : j2_up1 C) {Q : j2_P} {o0 : Nat} {x1 : Int32} {x2 : Int32} {x3 : Int32} {x4 : Int32} {x5 : Int32} {σ : j2_S}
  (h : (vp_in x3 3 ∧ (((σ.2.2 10009 o0 x3.toNatClampNeg) ≤ x5 → T188 C Q 48 [vO 10 o0, vI x1, vI x2, vI x3, vI x4, vI x5] [] σ) ∧ (¬ ((σ.2.2 10009 o0 x3.toNatClampNeg) ≤ x5) → ((¬ x2 = (nI 1) → T188 C Q 48 [vO 10 o0, vI x1, vI x2, vI x3, vI x4, vI x5] [] σ) ∧ (¬ (¬ x2 = (nI 1)) → (vp_in (((nI 10) * x3) + x5) 30 ∧ T188 C Q 26 [vO 10 o0, vI x1, vI x2, vI x3, vI (x4 + (σ.2.2 10012 o0 (((nI 10) * x3) + x5).toNatClampNeg)), vI (x5 + (nI 1))] [] σ))))))) :
  T188 C Q 26 [vO 10 o0, vI x1, vI x2, vI x3, vI x4, vI x5] [] σ := j2_T.go hC [0, 13, 21, 26, 48, 50, 72] 400 h
set_option maxRecDepth 100000 in
theorem b188_48 {C : j2_C} (hC : j2_up1 C) {Q : j2_P} {o0 : Nat} {x1 : Int32} {x2 : Int32} {x3 : Int32} {x4 : Int32} {x5 : Int32} {σ : j2_S}
  (h : T188 C Q 50 [vO 10 o0, vI x1, vI x2, vI x3, vI x4, vI (nI 0)] [] σ) :
  T188 C Q 48 [vO 10 o0, vI x1, vI x2, vI x3, vI x4, vI x5] [] σ := j2_T.go hC [0, 13, 21, 26, 48, 50, 72] 400 h
set_option maxRecDepth 100000 in
theorem b188_50 {C : j2_C} (hC : j2_up1 C) {Q : j2_P} {o0 : Nat} {x1 : Int32} {x2 : Int32} {x3 : Int32} {x4 : Int32} {x5 : Int32} {σ : j2_S}
  (h : (vp_in x3 3 ∧ (((σ.2.2 10018 o0 x3.toNatClampNeg) ≤ x5 → T188 C Q 72 [vO 10 o0, vI x1, vI x2, vI x3, vI x4, vI x5] [] σ) ∧ (¬ ((σ.2.2 10018 o0 x3.toNatClampNeg) ≤ x5) → ((¬ x2 = (nI 3) → T188 C Q 72 [vO 10 o0, vI x1, vI x2, vI x3, vI x4, vI x5] [] σ) ∧ (¬ (¬ x2 = (nI 3)) → (vp_in (((nI 80) * x3) + x5) 240 ∧ T188 C Q 50 [vO 10 o0, vI x1, vI x2, vI x3, vI (x4 + (σ.2.2 10026 o0 (((nI 80) * x3) + x5).toNatClampNeg)), vI (x5 + (nI 1))] [] σ))))))) :
  T188 C Q 50 [vO 10 o0, vI x1, vI x2, vI x3, vI x4, vI x5] [] σ := j2_T.go hC [0, 13, 21, 26, 48, 50, 72] 400 h
set_option maxRecDepth 100000 in
theorem b188_72 {C : j2_C} (hC : j2_up1 C) {Q : j2_P} {o0 : Nat} {x1 : Int32} {x2 : Int32} {x3 : Int32} {x4 : Int32} {x5 : Int32} {σ : j2_S}
  (h : ((¬ x2 = 0 → ((¬ x2 = (nI 2) → ((¬ x2 = (nI 4) → (True ∧ Q (some (vI x4)) σ)) ∧ (¬ (¬ x2 = (nI 4)) → (vp_in x3 3 ∧ (True ∧ Q (some (vI (σ.2.2 10034 o0 x3.toNatClampNeg))) σ))))) ∧ (¬ (¬ x2 = (nI 2)) → (vp_in x3 3 ∧ (True ∧ Q (some (vI (σ.2.2 10018 o0 x3.toNatClampNeg))) σ))))) ∧ (¬ (¬ x2 = 0) → (vp_in x3 3 ∧ (True ∧ Q (some (vI (σ.2.2 10009 o0 x3.toNatClampNeg))) σ))))) :
  T188 C Q 72 [vO 10 o0, vI x1, vI x2, vI x3, vI x4, vI x5] [] σ := j2_T.go hC [0, 13, 21, 26, 48, 50, 72] 400 h
abbrev T189 (C : j2_C) (Q : j2_P) : j2_K := j2_T C jc_X10_method (some .int) Q
set_option maxRecDepth 100000 in
theorem b189_0 {C : j2_C} (hC : j2_up1 C) {Q : j2_P} {o0 : Nat} {x1 : Int32} {x2 : Int32} {x3 : Int32} {x4 : Int32} {σ : j2_S}
  (h : ((x1 = 0 → T189 C Q 8 [vO 10 o0, vI x1, vI x2, vI x3, vI x4, vM 2, vM 2] [vI (nI 0)] ((j2_up σ.1 10000 o0 (nI 0)), σ.2.1, σ.2.2)) ∧ (¬ (x1 = 0) → T189 C Q 8 [vO 10 o0, vI x1, vI x2, vI x3, vI x4, vM 2, vM 2] [vI (nI 1)] ((j2_up σ.1 10000 o0 (nI 0)), σ.2.1, σ.2.2)))) :
  T189 C Q 0 [vO 10 o0, vI x1, vI x2, vI x3, vI x4, vM 2, vM 2] [] σ := j2_T.go hC [0, 8, 12, 51, 52, 57, 62, 67, 72, 77, 82, 88] 400 h
set_option maxRecDepth 100000 in
theorem b189_8 {C : j2_C} (hC : j2_up1 C) {Q : j2_P} {o0 : Nat} {x1 : Int32} {x2 : Int32} {x3 : Int32} {x4 : Int32} {xs0 : Int32} {σ : j2_S}
  (h : C 187 [vO 10 o0, vI x1] σ (fun r σ1 => T189 C Q 12 [vO 10 o0, vI x1, vI x2, vI x3, vI x4, vI xs0, vM 2] (r.toList ++ []) σ1)) :
  T189 C Q 8 [vO 10 o0, vI x1, vI x2, vI x3, vI x4, vM 2, vM 2] [vI xs0] σ := j2_T.go hC [0, 8, 12, 51, 52, 57, 62, 67, 72, 77, 82, 88] 400 h
set_option maxRecDepth 100000 in
theorem b189_12 {C : j2_C} (hC : j2_up1 C) {Q : j2_P} {o0 : Nat} {x1 : Int32} {x2 : Int32} {x3 : Int32} {x4 : Int32} {x5 : Int32} {xs0 : Int32} {σ : j2_S}
  (h : ((xs0 = 0 → (True ∧ Q (some (vI (-1 : Int32))) σ)) ∧ (¬ (xs0 = 0) → ((x2 < 0 → (True ∧ Q (some (vI (-1 : Int32))) σ)) ∧ (¬ (x2 < 0) → (vp_in x5 3 ∧ (((σ.2.2 10009 o0 x5.toNatClampNeg) ≤ x2 → (True ∧ Q (some (vI (-1 : Int32))) σ)) ∧ (¬ ((σ.2.2 10009 o0 x5.toNatClampNeg) ≤ x2) → ((x3 < 0 → (True ∧ Q (some (vI (-1 : Int32))) σ)) ∧ (¬ (x3 < 0) → (vp_in (((nI 10) * x5) + x2) 30 ∧ ((x3 < (σ.2.2 10014 o0 (((nI 10) * x5) + x2).toNatClampNeg) → (vp_in (((nI 10) * x5) + x2) 30 ∧ T189 C Q 51 [vO 10 o0, vI x1, vI x2, vI x3, vI x4, vI x5, vI ((((nI 80) * x5) + (σ.2.2 10013 o0 (((nI 10) * x5) + x2).toNatClampNeg)) + x3)] [vI x4] σ)) ∧ (¬ (x3 < (σ.2.2 10014 o0 (((nI 10) * x5) + x2).toNatClampNeg)) → (True ∧ Q (some (vI (-1 : Int32))) σ)))))))))))))) :
  T189 C Q 12 [vO 10 o0, vI x1, vI x2, vI x3, vI x4, vI x5, vM 2] [vI xs0] σ := j2_T.go hC [0, 8, 12, 51, 52, 57, 62, 67, 72, 77, 82, 88] 400 h
set_option maxRecDepth 100000 in
theorem b189_51 {C : j2_C} (hC : j2_up1 C) {Q : j2_P} {o0 : Nat} {x1 : Int32} {x2 : Int32} {x3 : Int32} {x4 : Int32} {x5 : Int32} {x6 : Int32} {xs0 : Int32} {σ : j2_S} (h0 : xs0 = (nI 0) → T189 C Q 52 [vO 10 o0, vI x1, vI x2, vI x3, vI x4, vI x5, vI x6] [] σ) (h1 : xs0 = (nI 1) → T189 C Q 57 [vO 10 o0, vI x1, vI x2, vI x3, vI x4, vI x5, vI x6] [] σ) (h2 : xs0 = (nI 2) → T189 C Q 62 [vO 10 o0, vI x1, vI x2, vI x3, vI x4, vI x5, vI x6] [] σ) (h3 : xs0 = (nI 3) → T189 C Q 67 [vO 10 o0, vI x1, vI x2, vI x3, vI x4, vI x5, vI x6] [] σ) (h4 : xs0 = (nI 4) → T189 C Q 72 [vO 10 o0, vI x1, vI x2, vI x3, vI x4, vI x5, vI x6] [] σ) (h5 : xs0 = (nI 5) → T189 C Q 77 [vO 10 o0, vI x1, vI x2, vI x3, vI x4, vI x5, vI x6] [] σ) (h6 : xs0 = (nI 6) → T189 C Q 82 [vO 10 o0, vI x1, vI x2, vI x3, vI x4, vI x5, vI x6] [] σ) (hd : (xs0.toInt < 0 ∨ 6 < xs0.toInt) → T189 C Q 88 [vO 10 o0, vI x1, vI x2, vI x3, vI x4, vI x5, vI x6] [] σ) :
  T189 C Q 51 [vO 10 o0, vI x1, vI x2, vI x3, vI x4, vI x5, vI x6] [vI xs0] σ := j2_T.tsw hC (d := 88) (lo := 0) (hi := 6) (ts := #[52, 57, 62, 67, 72, 77, 82]) rfl hd (fun g1 g2 => by
  have g : xs0.toInt = 0 ∨ xs0.toInt = 1 ∨ xs0.toInt = 2 ∨ xs0.toInt = 3 ∨ xs0.toInt = 4 ∨ xs0.toInt = 5 ∨ xs0.toInt = 6 := by omega
  rcases g with g | g | g | g | g | g | g
  · rw [g]; exact h0 (Int32.toInt_inj.mp (g.trans (by decide)))
  · rw [g]; exact h1 (Int32.toInt_inj.mp (g.trans (by decide)))
  · rw [g]; exact h2 (Int32.toInt_inj.mp (g.trans (by decide)))
  · rw [g]; exact h3 (Int32.toInt_inj.mp (g.trans (by decide)))
  · rw [g]; exact h4 (Int32.toInt_inj.mp (g.trans (by decide)))
  · rw [g]; exact h5 (Int32.toInt_inj.mp (g.trans (by decide)))
  · rw [g]; exact h6 (Int32.toInt_inj.mp (g.trans (by decide)))
  )
set_option maxRecDepth 100000 in
theorem b189_52 {C : j2_C} (hC : j2_up1 C) {Q : j2_P} {o0 : Nat} {x1 : Int32} {x2 : Int32} {x3 : Int32} {x4 : Int32} {x5 : Int32} {x6 : Int32} {σ : j2_S}
  (h : (vp_in x6 240 ∧ (True ∧ Q (some (vI (σ.2.2 10020 o0 x6.toNatClampNeg))) σ))) :
  T189 C Q 52 [vO 10 o0, vI x1, vI x2, vI x3, vI x4, vI x5, vI x6] [] σ := j2_T.go hC [0, 8, 12, 51, 52, 57, 62, 67, 72, 77, 82, 88] 400 h
set_option maxRecDepth 100000 in
theorem b189_57 {C : j2_C} (hC : j2_up1 C) {Q : j2_P} {o0 : Nat} {x1 : Int32} {x2 : Int32} {x3 : Int32} {x4 : Int32} {x5 : Int32} {x6 : Int32} {σ : j2_S}
  (h : (vp_in x6 240 ∧ (True ∧ Q (some (vI (σ.2.2 10021 o0 x6.toNatClampNeg))) σ))) :
  T189 C Q 57 [vO 10 o0, vI x1, vI x2, vI x3, vI x4, vI x5, vI x6] [] σ := j2_T.go hC [0, 8, 12, 51, 52, 57, 62, 67, 72, 77, 82, 88] 400 h
set_option maxRecDepth 100000 in
theorem b189_62 {C : j2_C} (hC : j2_up1 C) {Q : j2_P} {o0 : Nat} {x1 : Int32} {x2 : Int32} {x3 : Int32} {x4 : Int32} {x5 : Int32} {x6 : Int32} {σ : j2_S}
  (h : (vp_in x6 240 ∧ (True ∧ Q (some (vI (σ.2.2 10022 o0 x6.toNatClampNeg))) σ))) :
  T189 C Q 62 [vO 10 o0, vI x1, vI x2, vI x3, vI x4, vI x5, vI x6] [] σ := j2_T.go hC [0, 8, 12, 51, 52, 57, 62, 67, 72, 77, 82, 88] 400 h
set_option maxRecDepth 100000 in
theorem b189_67 {C : j2_C} (hC : j2_up1 C) {Q : j2_P} {o0 : Nat} {x1 : Int32} {x2 : Int32} {x3 : Int32} {x4 : Int32} {x5 : Int32} {x6 : Int32} {σ : j2_S}
  (h : (vp_in x6 240 ∧ (True ∧ Q (some (vI (σ.2.2 10023 o0 x6.toNatClampNeg))) σ))) :
  T189 C Q 67 [vO 10 o0, vI x1, vI x2, vI x3, vI x4, vI x5, vI x6] [] σ := j2_T.go hC [0, 8, 12, 51, 52, 57, 62, 67, 72, 77, 82, 88] 400 h
set_option maxRecDepth 100000 in
theorem b189_72 {C : j2_C} (hC : j2_up1 C) {Q : j2_P} {o0 : Nat} {x1 : Int32} {x2 : Int32} {x3 : Int32} {x4 : Int32} {x5 : Int32} {x6 : Int32} {σ : j2_S}
  (h : (vp_in x6 240 ∧ (True ∧ Q (some (vI (σ.2.2 10025 o0 x6.toNatClampNeg))) σ))) :
  T189 C Q 72 [vO 10 o0, vI x1, vI x2, vI x3, vI x4, vI x5, vI x6] [] σ := j2_T.go hC [0, 8, 12, 51, 52, 57, 62, 67, 72, 77, 82, 88] 400 h
set_option maxRecDepth 100000 in
theorem b189_77 {C : j2_C} (hC : j2_up1 C) {Q : j2_P} {o0 : Nat} {x1 : Int32} {x2 : Int32} {x3 : Int32} {x4 : Int32} {x5 : Int32} {x6 : Int32} {σ : j2_S}
  (h : (vp_in x6 240 ∧ (True ∧ Q (some (vI (σ.2.2 10026 o0 x6.toNatClampNeg))) σ))) :
  T189 C Q 77 [vO 10 o0, vI x1, vI x2, vI x3, vI x4, vI x5, vI x6] [] σ := j2_T.go hC [0, 8, 12, 51, 52, 57, 62, 67, 72, 77, 82, 88] 400 h
set_option maxRecDepth 100000 in
theorem b189_82 {C : j2_C} (hC : j2_up1 C) {Q : j2_P} {o0 : Nat} {x1 : Int32} {x2 : Int32} {x3 : Int32} {x4 : Int32} {x5 : Int32} {x6 : Int32} {σ : j2_S}
  (h : (True ∧ Q (some (vI (x6 - ((nI 80) * x5)))) σ)) :
  T189 C Q 82 [vO 10 o0, vI x1, vI x2, vI x3, vI x4, vI x5, vI x6] [] σ := j2_T.go hC [0, 8, 12, 51, 52, 57, 62, 67, 72, 77, 82, 88] 400 h
set_option maxRecDepth 100000 in
theorem b189_88 {C : j2_C} (hC : j2_up1 C) {Q : j2_P} {o0 : Nat} {x1 : Int32} {x2 : Int32} {x3 : Int32} {x4 : Int32} {x5 : Int32} {x6 : Int32} {σ : j2_S}
  (h : (True ∧ Q (some (vI (-1 : Int32))) σ)) :
  T189 C Q 88 [vO 10 o0, vI x1, vI x2, vI x3, vI x4, vI x5, vI x6] [] σ := j2_T.go hC [0, 8, 12, 51, 52, 57, 62, 67, 72, 77, 82, 88] 400 h
abbrev T190 (C : j2_C) (Q : j2_P) : j2_K := j2_T C jc_X10_type (some .int) Q
set_option maxRecDepth 100000 in
theorem b190_0 {C : j2_C} (hC : j2_up1 C) {Q : j2_P} {o0 : Nat} {x1 : Int32} {x2 : Int32} {x3 : Int32} {σ : j2_S}
  (h : ((((j2_up σ.1 10000 o0 (nI 0)) 10043 o0) = 0 → (True ∧ Q (some (vI (-1 : Int32))) ((j2_up σ.1 10000 o0 (nI 0)), σ.2.1, σ.2.2))) ∧ (¬ (((j2_up σ.1 10000 o0 (nI 0)) 10043 o0) = 0) → ((x1 < 0 → (True ∧ Q (some (vI (-1 : Int32))) ((j2_up σ.1 10000 o0 (nI 0)), σ.2.1, σ.2.2))) ∧ (¬ (x1 < 0) → (vp_in (nI 0) 3 ∧ (((σ.2.2 10018 o0 (nI 0).toNatClampNeg) ≤ x1 → (True ∧ Q (some (vI (-1 : Int32))) ((j2_up σ.1 10000 o0 (nI 0)), σ.2.1, σ.2.2))) ∧ (¬ ((σ.2.2 10018 o0 (nI 0).toNatClampNeg) ≤ x1) → ((x2 < 0 → (True ∧ Q (some (vI (-1 : Int32))) ((j2_up σ.1 10000 o0 (nI 0)), σ.2.1, σ.2.2))) ∧ (¬ (x2 < 0) → (vp_in x1 240 ∧ ((x2 < (σ.2.2 10026 o0 x1.toNatClampNeg) → ((¬ x3 = 0 → (vp_in (((nI 120) * x1) + x2) 19200 ∧ ((¬ (σ.2.2 10035 o0 (((nI 120) * x1) + x2).toNatClampNeg) = 0 → ((¬ x3 = (nI 1) → ((x3 < (nI 10) → T190 C Q 78 [vO 10 o0, vI x1, vI x2, vI x3, vI (((nI 120) * x1) + x2)] [] ((j2_up σ.1 10000 o0 (nI 0)), σ.2.1, σ.2.2)) ∧ (¬ (x3 < (nI 10)) → (vp_in x1 240 ∧ ((((nI 10) + (σ.2.2 10025 o0 x1.toNatClampNeg)) ≤ x3 → T190 C Q 78 [vO 10 o0, vI x1, vI x2, vI x3, vI (((nI 120) * x1) + x2)] [] ((j2_up σ.1 10000 o0 (nI 0)), σ.2.1, σ.2.2)) ∧ (¬ (((nI 10) + (σ.2.2 10025 o0 x1.toNatClampNeg)) ≤ x3) → (vp_in ((((nI 20) * (((nI 120) * x1) + x2)) + x3) - (nI 10)) 384000 ∧ (True ∧ Q (some (vI (σ.2.2 10038 o0 ((((nI 20) * (((nI 120) * x1) + x2)) + x3) - (nI 10)).toNatClampNeg))) ((j2_up σ.1 10000 o0 (nI 0)), σ.2.1, σ.2.2))))))))) ∧ (¬ (¬ x3 = (nI 1)) → (vp_in (((nI 120) * x1) + x2) 19200 ∧ (True ∧ Q (some (vI (σ.2.2 10036 o0 (((nI 120) * x1) + x2).toNatClampNeg))) ((j2_up σ.1 10000 o0 (nI 0)), σ.2.1, σ.2.2)))))) ∧ (¬ (¬ (σ.2.2 10035 o0 (((nI 120) * x1) + x2).toNatClampNeg) = 0) → (True ∧ Q (some (vI (-1 : Int32))) ((j2_up σ.1 10000 o0 (nI 0)), σ.2.1, σ.2.2)))))) ∧ (¬ (¬ x3 = 0) → (vp_in (((nI 120) * x1) + x2) 19200 ∧ (((σ.2.2 10035 o0 (((nI 120) * x1) + x2).toNatClampNeg) = 0 → (True ∧ Q (some (vI (nI 0))) ((j2_up σ.1 10000 o0 (nI 0)), σ.2.1, σ.2.2))) ∧ (¬ ((σ.2.2 10035 o0 (((nI 120) * x1) + x2).toNatClampNeg) = 0) → (True ∧ Q (some (vI (nI 1))) ((j2_up σ.1 10000 o0 (nI 0)), σ.2.1, σ.2.2)))))))) ∧ (¬ (x2 < (σ.2.2 10026 o0 x1.toNatClampNeg)) → (True ∧ Q (some (vI (-1 : Int32))) ((j2_up σ.1 10000 o0 (nI 0)), σ.2.1, σ.2.2))))))))))))))) :
  T190 C Q 0 [vO 10 o0, vI x1, vI x2, vI x3, vM 2] [] σ := j2_T.go hC [0, 78] 400 h
set_option maxRecDepth 100000 in
theorem b190_78 {C : j2_C} (hC : j2_up1 C) {Q : j2_P} {o0 : Nat} {x1 : Int32} {x2 : Int32} {x3 : Int32} {x4 : Int32} {σ : j2_S}
  (h : ((x3 < (nI 30) → (True ∧ Q (some (vI (-1 : Int32))) σ)) ∧ (¬ (x3 < (nI 30)) → (vp_in x4 19200 ∧ ((((nI 30) + (σ.2.2 10036 o0 x4.toNatClampNeg)) ≤ x3 → (True ∧ Q (some (vI (-1 : Int32))) σ)) ∧ (¬ (((nI 30) + (σ.2.2 10036 o0 x4.toNatClampNeg)) ≤ x3) → (vp_in ((((nI 10) * x4) + x3) - (nI 30)) 192000 ∧ (True ∧ Q (some (vI (σ.2.2 10037 o0 ((((nI 10) * x4) + x3) - (nI 30)).toNatClampNeg))) σ)))))))) :
  T190 C Q 78 [vO 10 o0, vI x1, vI x2, vI x3, vI x4] [] σ := j2_T.go hC [0, 78] 400 h
abbrev T191 (C : j2_C) (Q : j2_P) : j2_K := j2_T C jc_X10_entry (some .int) Q
set_option maxRecDepth 100000 in
theorem b191_0 {C : j2_C} (hC : j2_up1 C) {Q : j2_P} {o0 : Nat} {x1 : Int32} {σ : j2_S}
  (h : ((((j2_up σ.1 10000 o0 (nI 0)) 10043 o0) = 0 → (True ∧ Q (some (vI (-1 : Int32))) ((j2_up σ.1 10000 o0 (nI 0)), σ.2.1, σ.2.2))) ∧ (¬ (((j2_up σ.1 10000 o0 (nI 0)) 10043 o0) = 0) → ((x1 < 0 → (True ∧ Q (some (vI (-1 : Int32))) ((j2_up σ.1 10000 o0 (nI 0)), σ.2.1, σ.2.2))) ∧ (¬ (x1 < 0) → (vp_in (nI 0) 3 ∧ (((σ.2.2 10018 o0 (nI 0).toNatClampNeg) ≤ x1 → (True ∧ Q (some (vI (-1 : Int32))) ((j2_up σ.1 10000 o0 (nI 0)), σ.2.1, σ.2.2))) ∧ (¬ ((σ.2.2 10018 o0 (nI 0).toNatClampNeg) ≤ x1) → (vp_in x1 240 ∧ (((σ.2.2 10021 o0 x1.toNatClampNeg) = 0 → (True ∧ Q (some (vI (-1 : Int32))) ((j2_up σ.1 10000 o0 (nI 0)), σ.2.1, σ.2.2))) ∧ (¬ ((σ.2.2 10021 o0 x1.toNatClampNeg) = 0) → (vp_in x1 240 ∧ (((σ.2.2 10023 o0 x1.toNatClampNeg) ≤ 0 → T191 C Q 28 [vO 10 o0, vI x1, vI (nI 0)] [] ((j2_up σ.1 10000 o0 (nI 0)), σ.2.1, σ.2.2)) ∧ (¬ ((σ.2.2 10023 o0 x1.toNatClampNeg) ≤ 0) → (True ∧ Q (some (vI (-1 : Int32))) ((j2_up σ.1 10000 o0 (nI 0)), σ.2.1, σ.2.2)))))))))))))))) :
  T191 C Q 0 [vO 10 o0, vI x1, vM 2] [] σ := j2_T.go hC [0, 28] 400 h
set_option maxRecDepth 100000 in
theorem b191_28 {C : j2_C} (hC : j2_up1 C) {Q : j2_P} {o0 : Nat} {x1 : Int32} {x2 : Int32} {σ : j2_S}
  (h : (((σ.1 10045 o0) ≤ x2 → ((¬ (σ.1 10045 o0) = (nI 6) → (vp_in (σ.1 10045 o0) 6 ∧ (((nI 0) = 0 ∨ (nI 0) = 1) ∧ (True ∧ Q (some (vI (((j2_up (j2_up σ.1 10045 o0 ((σ.1 10045 o0) + (nI 1))) 10044 o0 (nI 0)) 10045 o0) - (nI 1)))) ((j2_up (j2_up σ.1 10045 o0 ((σ.1 10045 o0) + (nI 1))) 10044 o0 (nI 0)), σ.2.1, (j2_ast σ.2.2 10046 o0 (σ.1 10045 o0).toNatClampNeg x1)))))) ∧ (¬ (¬ (σ.1 10045 o0) = (nI 6)) → (True ∧ Q (some (vI (-1 : Int32))) σ)))) ∧ (¬ ((σ.1 10045 o0) ≤ x2) → (vp_in x2 6 ∧ ((¬ (σ.2.2 10046 o0 x2.toNatClampNeg) = x1 → T191 C Q 28 [vO 10 o0, vI x1, vI (x2 + (nI 1))] [] σ) ∧ (¬ (¬ (σ.2.2 10046 o0 x2.toNatClampNeg) = x1) → (True ∧ Q (some (vI x2)) σ))))))) :
  T191 C Q 28 [vO 10 o0, vI x1, vI x2] [] σ := j2_T.go hC [0, 28] 400 h
abbrev T192 (C : j2_C) (Q : j2_P) : j2_K := j2_T C jc_X10_find (some .int) Q
set_option maxRecDepth 100000 in
theorem b192_0 {C : j2_C} (hC : j2_up1 C) {Q : j2_P} {o0 : Nat} {x1 : Int32} {x2 : Int32} {x3 : Int32} {σ : j2_S}
  (h : T192 C Q 2 [vO 10 o0, vI x1, vI x2, vI x3, vI x2, vM 2] [] σ) :
  T192 C Q 0 [vO 10 o0, vI x1, vI x2, vI x3, vM 2, vM 2] [] σ := j2_T.go hC [0, 2, 6] 400 h
set_option maxRecDepth 100000 in
theorem b192_2 {C : j2_C} (hC : j2_up1 C) {Q : j2_P} {o0 : Nat} {x1 : Int32} {x2 : Int32} {x3 : Int32} {x4 : Int32} {w5 : j2_W} {σ : j2_S}
  (h : ((x4 < 0 → (True ∧ Q (some (vI (-1 : Int32))) σ)) ∧ (¬ (x4 < 0) → T192 C Q 6 [vO 10 o0, vI x1, vI x2, vI x3, vI x4, vI (nI 0)] [] σ))) :
  T192 C Q 2 [vO 10 o0, vI x1, vI x2, vI x3, vI x4, w5] [] σ := j2_T.go hC [0, 2, 6] 400 h
set_option maxRecDepth 100000 in
theorem b192_6 {C : j2_C} (hC : j2_up1 C) {Q : j2_P} {o0 : Nat} {x1 : Int32} {x2 : Int32} {x3 : Int32} {x4 : Int32} {x5 : Int32} {σ : j2_S}
  (h : (vp_in (((nI 10) * x1) + x4) 30 ∧ (((σ.2.2 10014 o0 (((nI 10) * x1) + x4).toNatClampNeg) ≤ x5 → (vp_in (((nI 10) * x1) + x4) 30 ∧ T192 C Q 2 [vO 10 o0, vI x1, vI x2, vI x3, vI (σ.2.2 10011 o0 (((nI 10) * x1) + x4).toNatClampNeg), vI x5] [] σ)) ∧ (¬ ((σ.2.2 10014 o0 (((nI 10) * x1) + x4).toNatClampNeg) ≤ x5) → (vp_in (((nI 10) * x1) + x4) 30 ∧ (vp_in ((((nI 80) * x1) + (σ.2.2 10013 o0 (((nI 10) * x1) + x4).toNatClampNeg)) + x5) 240 ∧ ((¬ (σ.2.2 10020 o0 ((((nI 80) * x1) + (σ.2.2 10013 o0 (((nI 10) * x1) + x4).toNatClampNeg)) + x5).toNatClampNeg) = x3 → T192 C Q 6 [vO 10 o0, vI x1, vI x2, vI x3, vI x4, vI (x5 + (nI 1))] [] σ) ∧ (¬ (¬ (σ.2.2 10020 o0 ((((nI 80) * x1) + (σ.2.2 10013 o0 (((nI 10) * x1) + x4).toNatClampNeg)) + x5).toNatClampNeg) = x3) → (vp_in (((nI 10) * x1) + x4) 30 ∧ (True ∧ Q (some (vI ((σ.2.2 10013 o0 (((nI 10) * x1) + x4).toNatClampNeg) + x5))) σ)))))))))) :
  T192 C Q 6 [vO 10 o0, vI x1, vI x2, vI x3, vI x4, vI x5] [] σ := j2_T.go hC [0, 2, 6] 400 h
abbrev T193 (C : j2_C) (Q : j2_P) : j2_K := j2_T C jc_X10_mark none Q
set_option maxRecDepth 100000 in
theorem b193_0 {C : j2_C} (hC : j2_up1 C) {Q : j2_P} {o0 : Nat} {x1 : Int32} {σ : j2_S}
  (h : ((¬ (σ.1 10051 o0) = 0 → T193 C Q 9 [vO 10 o0, vI x1] [vO 10 o0] σ) ∧ (¬ (¬ (σ.1 10051 o0) = 0) → (vp_in x1 80 ∧ ((¬ (σ.2.2 10049 o0 x1.toNatClampNeg) = 0 → T193 C Q 12 [vO 10 o0, vI x1] [vI (nI 0), vO 10 o0] σ) ∧ (¬ (¬ (σ.2.2 10049 o0 x1.toNatClampNeg) = 0) → T193 C Q 9 [vO 10 o0, vI x1] [vO 10 o0] σ)))))) :
  T193 C Q 0 [vO 10 o0, vI x1] [] σ := j2_T.go hC [0, 9, 12] 400 h
set_option maxRecDepth 100000 in
theorem b193_9 {C : j2_C} (hC : j2_up1 C) {Q : j2_P} {o0 : Nat} {x1 : Int32} {os0 : Nat} {σ : j2_S}
  (h : T193 C Q 12 [vO 10 o0, vI x1] [vI (nI 1), vO 10 os0] σ) :
  T193 C Q 9 [vO 10 o0, vI x1] [vO 10 os0] σ := j2_T.go hC [0, 9, 12] 400 h
set_option maxRecDepth 100000 in
theorem b193_12 {C : j2_C} (hC : j2_up1 C) {Q : j2_P} {o0 : Nat} {x1 : Int32} {xs0 : Int32} {os1 : Nat} {σ : j2_S}
  (h : ((xs0 = 0 ∨ xs0 = 1) ∧ (((nI 1) = 0 ∨ (nI 1) = 1) ∧ vp_in x1 80 ∧ ((none : Option FieldType) = none ∧ Q none ((j2_up σ.1 10051 os1 xs0), σ.2.1, (j2_ast σ.2.2 10049 o0 x1.toNatClampNeg (nI 1))))))) :
  T193 C Q 12 [vO 10 o0, vI x1] [vI xs0, vO 10 os1] σ := j2_T.go hC [0, 9, 12] 400 h
abbrev T194 (C : j2_C) (Q : j2_P) : j2_K := j2_T C jc_X10_reach none Q
set_option maxRecDepth 100000 in
theorem b194_0 {C : j2_C} (hC : j2_up1 C) {Q : j2_P} {o0 : Nat} {x1 : Int32} {σ : j2_S}
  (h : T194 C Q 2 [vO 10 o0, vI x1, vI (nI 0), vM 2] [] σ) :
  T194 C Q 0 [vO 10 o0, vI x1, vM 2, vM 2] [] σ := j2_T.go hC [0, 2, 14, 26, 43, 51, 59, 85, 90, 91, 93] 400 h
set_option maxRecDepth 100000 in
theorem b194_2 {C : j2_C} (hC : j2_up1 C) {Q : j2_P} {o0 : Nat} {x1 : Int32} {x2 : Int32} {σ : j2_S}
  (h : (((nI 80) ≤ x2 → T194 C Q 14 [vO 10 o0, vI x1, vI (nI 0), vM 2] [] σ) ∧ (¬ ((nI 80) ≤ x2) → (((nI 0) = 0 ∨ (nI 0) = 1) ∧ vp_in x2 80 ∧ T194 C Q 2 [vO 10 o0, vI x1, vI (x2 + (nI 1)), vM 2] [] (σ.1, σ.2.1, (j2_ast σ.2.2 10049 o0 x2.toNatClampNeg (nI 0))))))) :
  T194 C Q 2 [vO 10 o0, vI x1, vI x2, vM 2] [] σ := j2_T.go hC [0, 2, 14, 26, 43, 51, 59, 85, 90, 91, 93] 400 h
set_option maxRecDepth 100000 in
theorem b194_14 {C : j2_C} (hC : j2_up1 C) {Q : j2_P} {o0 : Nat} {x1 : Int32} {x2 : Int32} {σ : j2_S}
  (h : (((nI 10) ≤ x2 → T194 C Q 26 [vO 10 o0, vI x1, vI (nI 0), vM 2] [] σ) ∧ (¬ ((nI 10) ≤ x2) → (((nI 0) = 0 ∨ (nI 0) = 1) ∧ vp_in x2 10 ∧ T194 C Q 14 [vO 10 o0, vI x1, vI (x2 + (nI 1)), vM 2] [] (σ.1, σ.2.1, (j2_ast σ.2.2 10050 o0 x2.toNatClampNeg (nI 0))))))) :
  T194 C Q 14 [vO 10 o0, vI x1, vI x2, vM 2] [] σ := j2_T.go hC [0, 2, 14, 26, 43, 51, 59, 85, 90, 91, 93] 400 h
set_option maxRecDepth 100000 in
theorem b194_26 {C : j2_C} (hC : j2_up1 C) {Q : j2_P} {o0 : Nat} {x1 : Int32} {x2 : Int32} {σ : j2_S}
  (h : (((σ.1 10045 o0) ≤ x2 → (((nI 1) = 0 ∨ (nI 1) = 1) ∧ T194 C Q 43 [vO 10 o0, vI x1, vI x2, vM 2] [] ((j2_up σ.1 10051 o0 (nI 1)), σ.2.1, σ.2.2))) ∧ (¬ ((σ.1 10045 o0) ≤ x2) → (vp_in x2 6 ∧ (((nI 1) = 0 ∨ (nI 1) = 1) ∧ vp_in (σ.2.2 10046 o0 x2.toNatClampNeg) 80 ∧ T194 C Q 26 [vO 10 o0, vI x1, vI (x2 + (nI 1)), vM 2] [] (σ.1, σ.2.1, (j2_ast σ.2.2 10049 o0 (σ.2.2 10046 o0 x2.toNatClampNeg).toNatClampNeg (nI 1)))))))) :
  T194 C Q 26 [vO 10 o0, vI x1, vI x2, vM 2] [] σ := j2_T.go hC [0, 2, 14, 26, 43, 51, 59, 85, 90, 91, 93] 400 h
set_option maxRecDepth 100000 in
theorem b194_43 {C : j2_C} (hC : j2_up1 C) {Q : j2_P} {o0 : Nat} {x1 : Int32} {x2 : Int32} {w3 : j2_W} {σ : j2_S}
  (h : (((σ.1 10051 o0) = 0 → ((none : Option FieldType) = none ∧ Q none σ)) ∧ (¬ ((σ.1 10051 o0) = 0) → (((nI 0) = 0 ∨ (nI 0) = 1) ∧ T194 C Q 51 [vO 10 o0, vI x1, vI (nI 0), w3] [] ((j2_up σ.1 10051 o0 (nI 0)), σ.2.1, σ.2.2))))) :
  T194 C Q 43 [vO 10 o0, vI x1, vI x2, w3] [] σ := j2_T.go hC [0, 2, 14, 26, 43, 51, 59, 85, 90, 91, 93] 400 h
set_option maxRecDepth 100000 in
theorem b194_51 {C : j2_C} (hC : j2_up1 C) {Q : j2_P} {o0 : Nat} {x1 : Int32} {x2 : Int32} {w3 : j2_W} {σ : j2_S}
  (h : (vp_in (nI 0) 3 ∧ (((σ.2.2 10018 o0 (nI 0).toNatClampNeg) ≤ x2 → T194 C Q 43 [vO 10 o0, vI x1, vI x2, w3] [] σ) ∧ (¬ ((σ.2.2 10018 o0 (nI 0).toNatClampNeg) ≤ x2) → T194 C Q 59 [vO 10 o0, vI x1, vI x2, vI (nI 0)] [] σ)))) :
  T194 C Q 51 [vO 10 o0, vI x1, vI x2, w3] [] σ := j2_T.go hC [0, 2, 14, 26, 43, 51, 59, 85, 90, 91, 93] 400 h
set_option maxRecDepth 100000 in
theorem b194_59 {C : j2_C} (hC : j2_up1 C) {Q : j2_P} {o0 : Nat} {x1 : Int32} {x2 : Int32} {x3 : Int32} {σ : j2_S}
  (h : (vp_in x2 80 ∧ (((σ.2.2 10049 o0 x2.toNatClampNeg) = 0 → T194 C Q 93 [vO 10 o0, vI x1, vI x2, vI x3] [] σ) ∧ (¬ ((σ.2.2 10049 o0 x2.toNatClampNeg) = 0) → (vp_in (((nI 80) * x1) + x2) 240 ∧ (((σ.2.2 10026 o0 (((nI 80) * x1) + x2).toNatClampNeg) ≤ x3 → T194 C Q 93 [vO 10 o0, vI x1, vI x2, vI x3] [] σ) ∧ (¬ ((σ.2.2 10026 o0 (((nI 80) * x1) + x2).toNatClampNeg) ≤ x3) → ((¬ x1 = 0 → T194 C Q 85 [vO 10 o0, vI x1, vI x2, vI x3] [] σ) ∧ (¬ (¬ x1 = 0) → (vp_in (((nI 120) * x2) + x3) 19200 ∧ (((σ.2.2 10035 o0 (((nI 120) * x2) + x3).toNatClampNeg) = 0 → T194 C Q 91 [vO 10 o0, vI x1, vI x2, vI x3] [] σ) ∧ (¬ ((σ.2.2 10035 o0 (((nI 120) * x2) + x3).toNatClampNeg) = 0) → T194 C Q 85 [vO 10 o0, vI x1, vI x2, vI x3] [] σ)))))))))))) :
  T194 C Q 59 [vO 10 o0, vI x1, vI x2, vI x3] [] σ := j2_T.go hC [0, 2, 14, 26, 43, 51, 59, 85, 90, 91, 93] 400 h
set_option maxRecDepth 100000 in
theorem b194_85 {C : j2_C} (hC : j2_up1 C) {Q : j2_P} {o0 : Nat} {x1 : Int32} {x2 : Int32} {x3 : Int32} {σ : j2_S}
  (h : C 160 [vI x1, vI x2, vI x3] σ (fun r σ1 => T194 C Q 90 [vO 10 o0, vI x1, vI x2, vI x3] (r.toList ++ [vO 10 o0]) σ1)) :
  T194 C Q 85 [vO 10 o0, vI x1, vI x2, vI x3] [] σ := j2_T.go hC [0, 2, 14, 26, 43, 51, 59, 85, 90, 91, 93] 400 h
set_option maxRecDepth 100000 in
theorem b194_90 {C : j2_C} (hC : j2_up1 C) {Q : j2_P} {o0 : Nat} {x1 : Int32} {x2 : Int32} {x3 : Int32} {xs0 : Int32} {os1 : Nat} {σ : j2_S}
  (h : C 195 [vO 10 os1, vI xs0] σ (fun r σ1 => T194 C Q 91 [vO 10 o0, vI x1, vI x2, vI x3] (r.toList ++ []) σ1)) :
  T194 C Q 90 [vO 10 o0, vI x1, vI x2, vI x3] [vI xs0, vO 10 os1] σ := j2_T.go hC [0, 2, 14, 26, 43, 51, 59, 85, 90, 91, 93] 400 h
set_option maxRecDepth 100000 in
theorem b194_91 {C : j2_C} (hC : j2_up1 C) {Q : j2_P} {o0 : Nat} {x1 : Int32} {x2 : Int32} {x3 : Int32} {σ : j2_S}
  (h : T194 C Q 59 [vO 10 o0, vI x1, vI x2, vI (x3 + (nI 1))] [] σ) :
  T194 C Q 91 [vO 10 o0, vI x1, vI x2, vI x3] [] σ := j2_T.go hC [0, 2, 14, 26, 43, 51, 59, 85, 90, 91, 93] 400 h
set_option maxRecDepth 100000 in
theorem b194_93 {C : j2_C} (hC : j2_up1 C) {Q : j2_P} {o0 : Nat} {x1 : Int32} {x2 : Int32} {x3 : Int32} {σ : j2_S}
  (h : T194 C Q 51 [vO 10 o0, vI x1, vI (x2 + (nI 1)), vI x3] [] σ) :
  T194 C Q 93 [vO 10 o0, vI x1, vI x2, vI x3] [] σ := j2_T.go hC [0, 2, 14, 26, 43, 51, 59, 85, 90, 91, 93] 400 h
abbrev T195 (C : j2_C) (Q : j2_P) : j2_K := j2_T C jc_X10_reachBy none Q
set_option maxRecDepth 100000 in
theorem b195_0 {C : j2_C} (hC : j2_up1 C) {Q : j2_P} {o0 : Nat} {x1 : Int32} {σ : j2_S}
  (h : (vp_in x1 28800 ∧ ((¬ (σ.2.2 10027 o0 x1.toNatClampNeg) = (nI 15) → T195 C Q 32 [vO 10 o0, vI x1, vI (σ.2.2 10027 o0 x1.toNatClampNeg), vM 2] [] σ) ∧ (¬ (¬ (σ.2.2 10027 o0 x1.toNatClampNeg) = (nI 15)) → ((¬ (σ.1 10051 o0) = 0 → T195 C Q 20 [vO 10 o0, vI x1, vI (σ.2.2 10027 o0 x1.toNatClampNeg), vM 2] [vO 10 o0] σ) ∧ (¬ (¬ (σ.1 10051 o0) = 0) → (vp_in x1 28800 ∧ (vp_in (σ.2.2 10028 o0 x1.toNatClampNeg) 10 ∧ ((¬ (σ.2.2 10050 o0 (σ.2.2 10028 o0 x1.toNatClampNeg).toNatClampNeg) = 0 → T195 C Q 23 [vO 10 o0, vI x1, vI (σ.2.2 10027 o0 x1.toNatClampNeg), vM 2] [vI (nI 0), vO 10 o0] σ) ∧ (¬ (¬ (σ.2.2 10050 o0 (σ.2.2 10028 o0 x1.toNatClampNeg).toNatClampNeg) = 0) → T195 C Q 20 [vO 10 o0, vI x1, vI (σ.2.2 10027 o0 x1.toNatClampNeg), vM 2] [vO 10 o0] σ)))))))))) :
  T195 C Q 0 [vO 10 o0, vI x1, vM 2, vM 2] [] σ := j2_T.go hC [0, 20, 23, 32, 49, 55, 74, 95, 96] 400 h
set_option maxRecDepth 100000 in
theorem b195_20 {C : j2_C} (hC : j2_up1 C) {Q : j2_P} {o0 : Nat} {x1 : Int32} {x2 : Int32} {os0 : Nat} {σ : j2_S}
  (h : T195 C Q 23 [vO 10 o0, vI x1, vI x2, vM 2] [vI (nI 1), vO 10 os0] σ) :
  T195 C Q 20 [vO 10 o0, vI x1, vI x2, vM 2] [vO 10 os0] σ := j2_T.go hC [0, 20, 23, 32, 49, 55, 74, 95, 96] 400 h
set_option maxRecDepth 100000 in
theorem b195_23 {C : j2_C} (hC : j2_up1 C) {Q : j2_P} {o0 : Nat} {x1 : Int32} {x2 : Int32} {xs0 : Int32} {os1 : Nat} {σ : j2_S}
  (h : ((xs0 = 0 ∨ xs0 = 1) ∧ (vp_in x1 28800 ∧ (((nI 1) = 0 ∨ (nI 1) = 1) ∧ vp_in (σ.2.2 10028 o0 x1.toNatClampNeg) 10 ∧ T195 C Q 32 [vO 10 o0, vI x1, vI x2, vM 2] [] ((j2_up σ.1 10051 os1 xs0), σ.2.1, (j2_ast σ.2.2 10050 o0 (σ.2.2 10028 o0 x1.toNatClampNeg).toNatClampNeg (nI 1))))))) :
  T195 C Q 23 [vO 10 o0, vI x1, vI x2, vM 2] [vI xs0, vO 10 os1] σ := j2_T.go hC [0, 20, 23, 32, 49, 55, 74, 95, 96] 400 h
set_option maxRecDepth 100000 in
theorem b195_32 {C : j2_C} (hC : j2_up1 C) {Q : j2_P} {o0 : Nat} {x1 : Int32} {x2 : Int32} {σ : j2_S}
  (h : ((¬ x2 = (nI 20) → T195 C Q 49 [vO 10 o0, vI x1, vI x2, vM 2] [] σ) ∧ (¬ (¬ x2 = (nI 20)) → (vp_in x1 28800 ∧ (vp_in (σ.2.2 10028 o0 x1.toNatClampNeg) 30 ∧ (vp_in x1 28800 ∧ C 193 [vO 10 o0, vI ((σ.2.2 10013 o0 (σ.2.2 10028 o0 x1.toNatClampNeg).toNatClampNeg) + (σ.2.2 10029 o0 x1.toNatClampNeg))] σ (fun r σ1 => T195 C Q 49 [vO 10 o0, vI x1, vI x2, vM 2] (r.toList ++ []) σ1))))))) :
  T195 C Q 32 [vO 10 o0, vI x1, vI x2, vM 2] [] σ := j2_T.go hC [0, 20, 23, 32, 49, 55, 74, 95, 96] 400 h
set_option maxRecDepth 100000 in
theorem b195_49 {C : j2_C} (hC : j2_up1 C) {Q : j2_P} {o0 : Nat} {x1 : Int32} {x2 : Int32} {σ : j2_S}
  (h : ((x2 = (nI 21) → T195 C Q 55 [vO 10 o0, vI x1, vI x2, vI (nI 0)] [] σ) ∧ (¬ (x2 = (nI 21)) → ((none : Option FieldType) = none ∧ Q none σ)))) :
  T195 C Q 49 [vO 10 o0, vI x1, vI x2, vM 2] [] σ := j2_T.go hC [0, 20, 23, 32, 49, 55, 74, 95, 96] 400 h
set_option maxRecDepth 100000 in
theorem b195_55 {C : j2_C} (hC : j2_up1 C) {Q : j2_P} {o0 : Nat} {x1 : Int32} {x2 : Int32} {x3 : Int32} {σ : j2_S}
  (h : (vp_in (nI 0) 3 ∧ (((σ.2.2 10009 o0 (nI 0).toNatClampNeg) ≤ x3 → ((none : Option FieldType) = none ∧ Q none σ)) ∧ (¬ ((σ.2.2 10009 o0 (nI 0).toNatClampNeg) ≤ x3) → (vp_in x3 10 ∧ (((σ.2.2 10050 o0 x3.toNatClampNeg) = 0 → T195 C Q 96 [vO 10 o0, vI x1, vI x2, vI x3] [] σ) ∧ (¬ ((σ.2.2 10050 o0 x3.toNatClampNeg) = 0) → (vp_in x1 28800 ∧ C 170 [vO 10 o0, vI (nI 0), vI (σ.2.2 10028 o0 x1.toNatClampNeg), vI x3] σ (fun r σ1 => T195 C Q 74 [vO 10 o0, vI x1, vI x2, vI x3] (r.toList ++ []) σ1))))))))) :
  T195 C Q 55 [vO 10 o0, vI x1, vI x2, vI x3] [] σ := j2_T.go hC [0, 20, 23, 32, 49, 55, 74, 95, 96] 400 h
set_option maxRecDepth 100000 in
theorem b195_74 {C : j2_C} (hC : j2_up1 C) {Q : j2_P} {o0 : Nat} {x1 : Int32} {x2 : Int32} {x3 : Int32} {xs0 : Int32} {σ : j2_S}
  (h : ((xs0 = 0 → T195 C Q 96 [vO 10 o0, vI x1, vI x2, vI x3] [] σ) ∧ (¬ (xs0 = 0) → (vp_in x1 28800 ∧ (vp_in (σ.2.2 10028 o0 x1.toNatClampNeg) 30 ∧ (vp_in x1 28800 ∧ (vp_in ((σ.2.2 10013 o0 (σ.2.2 10028 o0 x1.toNatClampNeg).toNatClampNeg) + (σ.2.2 10029 o0 x1.toNatClampNeg)) 240 ∧ C 192 [vO 10 o0, vI (nI 0), vI x3, vI (σ.2.2 10020 o0 ((σ.2.2 10013 o0 (σ.2.2 10028 o0 x1.toNatClampNeg).toNatClampNeg) + (σ.2.2 10029 o0 x1.toNatClampNeg)).toNatClampNeg)] σ (fun r σ1 => T195 C Q 95 [vO 10 o0, vI x1, vI x2, vI x3] (r.toList ++ [vO 10 o0]) σ1)))))))) :
  T195 C Q 74 [vO 10 o0, vI x1, vI x2, vI x3] [vI xs0] σ := j2_T.go hC [0, 20, 23, 32, 49, 55, 74, 95, 96] 400 h
set_option maxRecDepth 100000 in
theorem b195_95 {C : j2_C} (hC : j2_up1 C) {Q : j2_P} {o0 : Nat} {x1 : Int32} {x2 : Int32} {x3 : Int32} {xs0 : Int32} {os1 : Nat} {σ : j2_S}
  (h : C 193 [vO 10 os1, vI xs0] σ (fun r σ1 => T195 C Q 96 [vO 10 o0, vI x1, vI x2, vI x3] (r.toList ++ []) σ1)) :
  T195 C Q 95 [vO 10 o0, vI x1, vI x2, vI x3] [vI xs0, vO 10 os1] σ := j2_T.go hC [0, 20, 23, 32, 49, 55, 74, 95, 96] 400 h
set_option maxRecDepth 100000 in
theorem b195_96 {C : j2_C} (hC : j2_up1 C) {Q : j2_P} {o0 : Nat} {x1 : Int32} {x2 : Int32} {x3 : Int32} {σ : j2_S}
  (h : T195 C Q 55 [vO 10 o0, vI x1, vI x2, vI (x3 + (nI 1))] [] σ) :
  T195 C Q 96 [vO 10 o0, vI x1, vI x2, vI x3] [] σ := j2_T.go hC [0, 20, 23, 32, 49, 55, 74, 95, 96] 400 h
abbrev T196 (C : j2_C) (Q : j2_P) : j2_K := j2_T C jc_X10_bind none Q
set_option maxRecDepth 100000 in
theorem b196_0 {C : j2_C} (hC : j2_up1 C) {Q : j2_P} {o0 : Nat} {x1 : Int32} {σ : j2_S}
  (h : T196 C Q 2 [vO 10 o0, vI x1, vI (nI 0), vM 2, vM 2, vM 2, vM 2, vM 2] [] σ) :
  T196 C Q 0 [vO 10 o0, vI x1, vM 2, vM 2, vM 2, vM 2, vM 2, vM 2] [] σ := j2_T.go hC [0, 2, 12, 35, 54, 75, 83, 85, 86, 89, 106, 142] 400 h
set_option maxRecDepth 100000 in
theorem b196_2 {C : j2_C} (hC : j2_up1 C) {Q : j2_P} {o0 : Nat} {x1 : Int32} {x2 : Int32} {w3 : j2_W} {w4 : j2_W} {w5 : j2_W} {w6 : j2_W} {w7 : j2_W} {σ : j2_S}
  (h : (vp_in x1 240 ∧ (((σ.2.2 10026 o0 x1.toNatClampNeg) ≤ x2 → ((none : Option FieldType) = none ∧ Q none σ)) ∧ (¬ ((σ.2.2 10026 o0 x1.toNatClampNeg) ≤ x2) → C 160 [vI (nI 2), vI x1, vI x2] σ (fun r σ1 => T196 C Q 12 [vO 10 o0, vI x1, vI x2, w3, w4, w5, w6, w7] (r.toList ++ []) σ1))))) :
  T196 C Q 2 [vO 10 o0, vI x1, vI x2, w3, w4, w5, w6, w7] [] σ := j2_T.go hC [0, 2, 12, 35, 54, 75, 83, 85, 86, 89, 106, 142] 400 h
set_option maxRecDepth 100000 in
theorem b196_12 {C : j2_C} (hC : j2_up1 C) {Q : j2_P} {o0 : Nat} {x1 : Int32} {x2 : Int32} {w3 : j2_W} {w4 : j2_W} {w5 : j2_W} {w6 : j2_W} {w7 : j2_W} {xs0 : Int32} {σ : j2_S}
  (h : (vp_in xs0 28800 ∧ ((¬ (σ.2.2 10027 o0 xs0.toNatClampNeg) = (nI 21) → T196 C Q 142 [vO 10 o0, vI x1, vI x2, vI xs0, w4, w5, w6, w7] [] σ) ∧ (¬ (¬ (σ.2.2 10027 o0 xs0.toNatClampNeg) = (nI 21)) → (vp_in (((nI 120) * x1) + x2) 19200 ∧ ((¬ (σ.2.2 10035 o0 (((nI 120) * x1) + x2).toNatClampNeg) = 0 → T196 C Q 35 [vO 10 o0, vI x1, vI x2, vI xs0, vI (-1 : Int32), vI (nI 0), vI (nI 0), w7] [] σ) ∧ (¬ (¬ (σ.2.2 10035 o0 (((nI 120) * x1) + x2).toNatClampNeg) = 0) → T196 C Q 142 [vO 10 o0, vI x1, vI x2, vI xs0, w4, w5, w6, w7] [] σ))))))) :
  T196 C Q 12 [vO 10 o0, vI x1, vI x2, w3, w4, w5, w6, w7] [vI xs0] σ := j2_T.go hC [0, 2, 12, 35, 54, 75, 83, 85, 86, 89, 106, 142] 400 h
set_option maxRecDepth 100000 in
theorem b196_35 {C : j2_C} (hC : j2_up1 C) {Q : j2_P} {o0 : Nat} {x1 : Int32} {x2 : Int32} {x3 : Int32} {x4 : Int32} {x5 : Int32} {x6 : Int32} {w7 : j2_W} {σ : j2_S}
  (h : (vp_in (nI 0) 3 ∧ (((σ.2.2 10009 o0 (nI 0).toNatClampNeg) ≤ x6 → ((x4 < 0 → T196 C Q 142 [vO 10 o0, vI x1, vI x2, vI x3, vI x4, vI x5, vI x6, w7] [] σ) ∧ (¬ (x4 < 0) → ((¬ x5 = 0 → T196 C Q 142 [vO 10 o0, vI x1, vI x2, vI x3, vI x4, vI x5, vI x6, w7] [] σ) ∧ (¬ (¬ x5 = 0) → (vp_in x4 240 ∧ (vp_in x3 28800 ∧ C 170 [vO 10 o0, vI (nI 0), vI (σ.2.2 10019 o0 x4.toNatClampNeg), vI (σ.2.2 10028 o0 x3.toNatClampNeg)] σ (fun r σ1 => T196 C Q 106 [vO 10 o0, vI x1, vI x2, vI x3, vI x4, vI x5, vI x6, w7] (r.toList ++ []) σ1)))))))) ∧ (¬ ((σ.2.2 10009 o0 (nI 0).toNatClampNeg) ≤ x6) → (vp_in x6 10 ∧ (((σ.2.2 10050 o0 x6.toNatClampNeg) = 0 → T196 C Q 89 [vO 10 o0, vI x1, vI x2, vI x3, vI x4, vI x5, vI x6, w7] [] σ) ∧ (¬ ((σ.2.2 10050 o0 x6.toNatClampNeg) = 0) → (vp_in x3 28800 ∧ C 170 [vO 10 o0, vI (nI 0), vI (σ.2.2 10028 o0 x3.toNatClampNeg), vI x6] σ (fun r σ1 => T196 C Q 54 [vO 10 o0, vI x1, vI x2, vI x3, vI x4, vI x5, vI x6, w7] (r.toList ++ []) σ1))))))))) :
  T196 C Q 35 [vO 10 o0, vI x1, vI x2, vI x3, vI x4, vI x5, vI x6, w7] [] σ := j2_T.go hC [0, 2, 12, 35, 54, 75, 83, 85, 86, 89, 106, 142] 400 h
set_option maxRecDepth 100000 in
theorem b196_54 {C : j2_C} (hC : j2_up1 C) {Q : j2_P} {o0 : Nat} {x1 : Int32} {x2 : Int32} {x3 : Int32} {x4 : Int32} {x5 : Int32} {x6 : Int32} {w7 : j2_W} {xs0 : Int32} {σ : j2_S}
  (h : ((¬ xs0 = 0 → (vp_in x3 28800 ∧ (vp_in (σ.2.2 10028 o0 x3.toNatClampNeg) 30 ∧ (vp_in x3 28800 ∧ (vp_in ((σ.2.2 10013 o0 (σ.2.2 10028 o0 x3.toNatClampNeg).toNatClampNeg) + (σ.2.2 10029 o0 x3.toNatClampNeg)) 240 ∧ C 192 [vO 10 o0, vI (nI 0), vI x6, vI (σ.2.2 10020 o0 ((σ.2.2 10013 o0 (σ.2.2 10028 o0 x3.toNatClampNeg).toNatClampNeg) + (σ.2.2 10029 o0 x3.toNatClampNeg)).toNatClampNeg)] σ (fun r σ1 => T196 C Q 75 [vO 10 o0, vI x1, vI x2, vI x3, vI x4, vI x5, vI x6, w7] (r.toList ++ []) σ1)))))) ∧ (¬ (¬ xs0 = 0) → T196 C Q 89 [vO 10 o0, vI x1, vI x2, vI x3, vI x4, vI x5, vI x6, w7] [] σ))) :
  T196 C Q 54 [vO 10 o0, vI x1, vI x2, vI x3, vI x4, vI x5, vI x6, w7] [vI xs0] σ := j2_T.go hC [0, 2, 12, 35, 54, 75, 83, 85, 86, 89, 106, 142] 400 h
set_option maxRecDepth 100000 in
theorem b196_75 {C : j2_C} (hC : j2_up1 C) {Q : j2_P} {o0 : Nat} {x1 : Int32} {x2 : Int32} {x3 : Int32} {x4 : Int32} {x5 : Int32} {x6 : Int32} {w7 : j2_W} {xs0 : Int32} {σ : j2_S}
  (h : ((¬ x5 = 0 → T196 C Q 83 [vO 10 o0, vI x1, vI x2, vI x3, vI x4, vI x5, vI x6, vI xs0] [] σ) ∧ (¬ (¬ x5 = 0) → ((x4 < 0 → T196 C Q 85 [vO 10 o0, vI x1, vI x2, vI x3, vI x4, vI x5, vI x6, vI xs0] [] σ) ∧ (¬ (x4 < 0) → ((x4 = xs0 → T196 C Q 85 [vO 10 o0, vI x1, vI x2, vI x3, vI x4, vI x5, vI x6, vI xs0] [] σ) ∧ (¬ (x4 = xs0) → T196 C Q 83 [vO 10 o0, vI x1, vI x2, vI x3, vI x4, vI x5, vI x6, vI xs0] [] σ))))))) :
  T196 C Q 75 [vO 10 o0, vI x1, vI x2, vI x3, vI x4, vI x5, vI x6, w7] [vI xs0] σ := j2_T.go hC [0, 2, 12, 35, 54, 75, 83, 85, 86, 89, 106, 142] 400 h
set_option maxRecDepth 100000 in
theorem b196_83 {C : j2_C} (hC : j2_up1 C) {Q : j2_P} {o0 : Nat} {x1 : Int32} {x2 : Int32} {x3 : Int32} {x4 : Int32} {x5 : Int32} {x6 : Int32} {x7 : Int32} {σ : j2_S}
  (h : T196 C Q 86 [vO 10 o0, vI x1, vI x2, vI x3, vI x4, vI x5, vI x6, vI x7] [vI (nI 1)] σ) :
  T196 C Q 83 [vO 10 o0, vI x1, vI x2, vI x3, vI x4, vI x5, vI x6, vI x7] [] σ := j2_T.go hC [0, 2, 12, 35, 54, 75, 83, 85, 86, 89, 106, 142] 400 h
set_option maxRecDepth 100000 in
theorem b196_85 {C : j2_C} (hC : j2_up1 C) {Q : j2_P} {o0 : Nat} {x1 : Int32} {x2 : Int32} {x3 : Int32} {x4 : Int32} {x5 : Int32} {x6 : Int32} {x7 : Int32} {σ : j2_S}
  (h : T196 C Q 86 [vO 10 o0, vI x1, vI x2, vI x3, vI x4, vI x5, vI x6, vI x7] [vI (nI 0)] σ) :
  T196 C Q 85 [vO 10 o0, vI x1, vI x2, vI x3, vI x4, vI x5, vI x6, vI x7] [] σ := j2_T.go hC [0, 2, 12, 35, 54, 75, 83, 85, 86, 89, 106, 142] 400 h
set_option maxRecDepth 100000 in
theorem b196_86 {C : j2_C} (hC : j2_up1 C) {Q : j2_P} {o0 : Nat} {x1 : Int32} {x2 : Int32} {x3 : Int32} {x4 : Int32} {x5 : Int32} {x6 : Int32} {x7 : Int32} {xs0 : Int32} {σ : j2_S}
  (h : T196 C Q 89 [vO 10 o0, vI x1, vI x2, vI x3, vI x7, vI xs0, vI x6, vI x7] [] σ) :
  T196 C Q 86 [vO 10 o0, vI x1, vI x2, vI x3, vI x4, vI x5, vI x6, vI x7] [vI xs0] σ := j2_T.go hC [0, 2, 12, 35, 54, 75, 83, 85, 86, 89, 106, 142] 400 h
set_option maxRecDepth 100000 in
theorem b196_89 {C : j2_C} (hC : j2_up1 C) {Q : j2_P} {o0 : Nat} {x1 : Int32} {x2 : Int32} {x3 : Int32} {x4 : Int32} {x5 : Int32} {x6 : Int32} {w7 : j2_W} {σ : j2_S}
  (h : T196 C Q 35 [vO 10 o0, vI x1, vI x2, vI x3, vI x4, vI x5, vI (x6 + (nI 1)), w7] [] σ) :
  T196 C Q 89 [vO 10 o0, vI x1, vI x2, vI x3, vI x4, vI x5, vI x6, w7] [] σ := j2_T.go hC [0, 2, 12, 35, 54, 75, 83, 85, 86, 89, 106, 142] 400 h
set_option maxRecDepth 100000 in
theorem b196_106 {C : j2_C} (hC : j2_up1 C) {Q : j2_P} {o0 : Nat} {x1 : Int32} {x2 : Int32} {x3 : Int32} {x4 : Int32} {x5 : Int32} {x6 : Int32} {w7 : j2_W} {xs0 : Int32} {σ : j2_S}
  (h : ((¬ xs0 = 0 → (vp_in x3 28800 ∧ (vp_in x4 240 ∧ (vp_in x3 28800 ∧ (vp_in x4 240 ∧ (vp_in ((j2_ast (j2_ast σ.2.2 10027 o0 x3.toNatClampNeg (nI 20)) 10028 o0 x3.toNatClampNeg ((j2_ast σ.2.2 10027 o0 x3.toNatClampNeg (nI 20)) 10019 o0 x4.toNatClampNeg)) 10019 o0 x4.toNatClampNeg) 30 ∧ (vp_in x3 28800 ∧ (vp_in (nI 0) 23 ∧ (vp_in (nI 0) 23 ∧ T196 C Q 142 [vO 10 o0, vI x1, vI x2, vI x3, vI x4, vI x5, vI x6, w7] [] (σ.1, σ.2.1, (j2_ast (j2_ast (j2_ast (j2_ast σ.2.2 10027 o0 x3.toNatClampNeg (nI 20)) 10028 o0 x3.toNatClampNeg ((j2_ast σ.2.2 10027 o0 x3.toNatClampNeg (nI 20)) 10019 o0 x4.toNatClampNeg)) 10029 o0 x3.toNatClampNeg (x4 - ((j2_ast (j2_ast σ.2.2 10027 o0 x3.toNatClampNeg (nI 20)) 10028 o0 x3.toNatClampNeg ((j2_ast σ.2.2 10027 o0 x3.toNatClampNeg (nI 20)) 10019 o0 x4.toNatClampNeg)) 10013 o0 ((j2_ast (j2_ast σ.2.2 10027 o0 x3.toNatClampNeg (nI 20)) 10028 o0 x3.toNatClampNeg ((j2_ast σ.2.2 10027 o0 x3.toNatClampNeg (nI 20)) 10019 o0 x4.toNatClampNeg)) 10019 o0 x4.toNatClampNeg).toNatClampNeg))) 10052 o0 (nI 0).toNatClampNeg (((j2_ast (j2_ast (j2_ast σ.2.2 10027 o0 x3.toNatClampNeg (nI 20)) 10028 o0 x3.toNatClampNeg ((j2_ast σ.2.2 10027 o0 x3.toNatClampNeg (nI 20)) 10019 o0 x4.toNatClampNeg)) 10029 o0 x3.toNatClampNeg (x4 - ((j2_ast (j2_ast σ.2.2 10027 o0 x3.toNatClampNeg (nI 20)) 10028 o0 x3.toNatClampNeg ((j2_ast σ.2.2 10027 o0 x3.toNatClampNeg (nI 20)) 10019 o0 x4.toNatClampNeg)) 10013 o0 ((j2_ast (j2_ast σ.2.2 10027 o0 x3.toNatClampNeg (nI 20)) 10028 o0 x3.toNatClampNeg ((j2_ast σ.2.2 10027 o0 x3.toNatClampNeg (nI 20)) 10019 o0 x4.toNatClampNeg)) 10019 o0 x4.toNatClampNeg).toNatClampNeg))) 10052 o0 (nI 0).toNatClampNeg) + (nI 1))))))))))))) ∧ (¬ (¬ xs0 = 0) → T196 C Q 142 [vO 10 o0, vI x1, vI x2, vI x3, vI x4, vI x5, vI x6, w7] [] σ))) :
  T196 C Q 106 [vO 10 o0, vI x1, vI x2, vI x3, vI x4, vI x5, vI x6, w7] [vI xs0] σ := j2_T.go hC [0, 2, 12, 35, 54, 75, 83, 85, 86, 89, 106, 142] 400 h
set_option maxRecDepth 100000 in
theorem b196_142 {C : j2_C} (hC : j2_up1 C) {Q : j2_P} {o0 : Nat} {x1 : Int32} {x2 : Int32} {x3 : Int32} {w4 : j2_W} {w5 : j2_W} {w6 : j2_W} {w7 : j2_W} {σ : j2_S}
  (h : T196 C Q 2 [vO 10 o0, vI x1, vI (x2 + (nI 1)), vI x3, w4, w5, w6, w7] [] σ) :
  T196 C Q 142 [vO 10 o0, vI x1, vI x2, vI x3, w4, w5, w6, w7] [] σ := j2_T.go hC [0, 2, 12, 35, 54, 75, 83, 85, 86, 89, 106, 142] 400 h
abbrev T197 (C : j2_C) (Q : j2_P) : j2_K := j2_T C jc_X10_isLeaf (some .boolean) Q
set_option maxRecDepth 100000 in
theorem b197_0 {C : j2_C} (hC : j2_up1 C) {Q : j2_P} {o0 : Nat} {x1 : Int32} {x2 : Int32} {σ : j2_S}
  (h : (vp_in x1 240 ∧ (vp_in x1 240 ∧ (((σ.2.2 10021 o0 x1.toNatClampNeg) = 0 → (((nI 0) = 0 ∨ (nI 0) = 1) ∧ Q (some (vI (nI 0))) σ)) ∧ (¬ ((σ.2.2 10021 o0 x1.toNatClampNeg) = 0) → ((x2 < (σ.2.2 10026 o0 x1.toNatClampNeg) → (((nI 0) = 0 ∨ (nI 0) = 1) ∧ Q (some (vI (nI 0))) σ)) ∧ (¬ (x2 < (σ.2.2 10026 o0 x1.toNatClampNeg)) → C 160 [vI (nI 0), vI x1, vI ((σ.2.2 10026 o0 x1.toNatClampNeg) - (nI 1))] σ (fun r σ1 => T197 C Q 21 [vO 10 o0, vI x1, vI x2, vI (σ.2.2 10026 o0 x1.toNatClampNeg), vM 2, vM 2] (r.toList ++ [vA 10027 o0]) σ1)))))))) :
  T197 C Q 0 [vO 10 o0, vI x1, vI x2, vM 2, vM 2, vM 2] [] σ := j2_T.go hC [0, 21, 28, 39, 50, 58, 78] 400 h
set_option maxRecDepth 100000 in
theorem b197_21 {C : j2_C} (hC : j2_up1 C) {Q : j2_P} {o0 : Nat} {x1 : Int32} {x2 : Int32} {x3 : Int32} {xs0 : Int32} {os1 : Nat} {σ : j2_S}
  (h : (vp_in xs0 28800 ∧ (((σ.2.2 10027 os1 xs0.toNatClampNeg) = (nI 22) → T197 C Q 28 [vO 10 o0, vI x1, vI x2, vI x3, vI (nI 0), vM 2] [] σ) ∧ (¬ ((σ.2.2 10027 os1 xs0.toNatClampNeg) = (nI 22)) → (((nI 0) = 0 ∨ (nI 0) = 1) ∧ Q (some (vI (nI 0))) σ))))) :
  T197 C Q 21 [vO 10 o0, vI x1, vI x2, vI x3, vM 2, vM 2] [vI xs0, vA 10027 os1] σ := j2_T.go hC [0, 21, 28, 39, 50, 58, 78] 400 h
set_option maxRecDepth 100000 in
theorem b197_28 {C : j2_C} (hC : j2_up1 C) {Q : j2_P} {o0 : Nat} {x1 : Int32} {x2 : Int32} {x3 : Int32} {x4 : Int32} {w5 : j2_W} {σ : j2_S}
  (h : (((x3 - (nI 1)) ≤ x4 → (vp_in ((((nI 120) * x1) + x3) - (nI 1)) 19200 ∧ (vp_in x1 240 ∧ (((σ.2.2 10022 o0 x1.toNatClampNeg) ≤ 0 → T197 C Q 78 [vO 10 o0, vI x1, vI x2, vI x3, vI x4, w5] [vI (nI 0), vI (σ.2.2 10036 o0 ((((nI 120) * x1) + x3) - (nI 1)).toNatClampNeg)] σ) ∧ (¬ ((σ.2.2 10022 o0 x1.toNatClampNeg) ≤ 0) → T197 C Q 78 [vO 10 o0, vI x1, vI x2, vI x3, vI x4, w5] [vI (nI 1), vI (σ.2.2 10036 o0 ((((nI 120) * x1) + x3) - (nI 1)).toNatClampNeg)] σ))))) ∧ (¬ ((x3 - (nI 1)) ≤ x4) → C 160 [vI (nI 0), vI x1, vI x4] σ (fun r σ1 => T197 C Q 39 [vO 10 o0, vI x1, vI x2, vI x3, vI x4, w5] (r.toList ++ [vA 10027 o0]) σ1)))) :
  T197 C Q 28 [vO 10 o0, vI x1, vI x2, vI x3, vI x4, w5] [] σ := j2_T.go hC [0, 21, 28, 39, 50, 58, 78] 400 h
set_option maxRecDepth 100000 in
theorem b197_39 {C : j2_C} (hC : j2_up1 C) {Q : j2_P} {o0 : Nat} {x1 : Int32} {x2 : Int32} {x3 : Int32} {x4 : Int32} {w5 : j2_W} {xs0 : Int32} {os1 : Nat} {σ : j2_S}
  (h : (vp_in xs0 28800 ∧ (((σ.2.2 10027 os1 xs0.toNatClampNeg) ≤ (nI 10) → T197 C Q 58 [vO 10 o0, vI x1, vI x2, vI x3, vI x4, vI (σ.2.2 10027 os1 xs0.toNatClampNeg)] [] σ) ∧ (¬ ((σ.2.2 10027 os1 xs0.toNatClampNeg) ≤ (nI 10)) → (((σ.2.2 10027 os1 xs0.toNatClampNeg) < (nI 15) → T197 C Q 50 [vO 10 o0, vI x1, vI x2, vI x3, vI x4, vI (σ.2.2 10027 os1 xs0.toNatClampNeg)] [] σ) ∧ (¬ ((σ.2.2 10027 os1 xs0.toNatClampNeg) < (nI 15)) → (((σ.2.2 10027 os1 xs0.toNatClampNeg) ≤ (nI 19) → T197 C Q 58 [vO 10 o0, vI x1, vI x2, vI x3, vI x4, vI (σ.2.2 10027 os1 xs0.toNatClampNeg)] [] σ) ∧ (¬ ((σ.2.2 10027 os1 xs0.toNatClampNeg) ≤ (nI 19)) → T197 C Q 50 [vO 10 o0, vI x1, vI x2, vI x3, vI x4, vI (σ.2.2 10027 os1 xs0.toNatClampNeg)] [] σ)))))))) :
  T197 C Q 39 [vO 10 o0, vI x1, vI x2, vI x3, vI x4, w5] [vI xs0, vA 10027 os1] σ := j2_T.go hC [0, 21, 28, 39, 50, 58, 78] 400 h
set_option maxRecDepth 100000 in
theorem b197_50 {C : j2_C} (hC : j2_up1 C) {Q : j2_P} {o0 : Nat} {x1 : Int32} {x2 : Int32} {x3 : Int32} {x4 : Int32} {x5 : Int32} {σ : j2_S}
  (h : ((x5 < (nI 23) → (((nI 0) = 0 ∨ (nI 0) = 1) ∧ Q (some (vI (nI 0))) σ)) ∧ (¬ (x5 < (nI 23)) → ((x5 ≤ (nI 25) → T197 C Q 58 [vO 10 o0, vI x1, vI x2, vI x3, vI x4, vI x5] [] σ) ∧ (¬ (x5 ≤ (nI 25)) → (((nI 0) = 0 ∨ (nI 0) = 1) ∧ Q (some (vI (nI 0))) σ)))))) :
  T197 C Q 50 [vO 10 o0, vI x1, vI x2, vI x3, vI x4, vI x5] [] σ := j2_T.go hC [0, 21, 28, 39, 50, 58, 78] 400 h
set_option maxRecDepth 100000 in
theorem b197_58 {C : j2_C} (hC : j2_up1 C) {Q : j2_P} {o0 : Nat} {x1 : Int32} {x2 : Int32} {x3 : Int32} {x4 : Int32} {x5 : Int32} {σ : j2_S}
  (h : T197 C Q 28 [vO 10 o0, vI x1, vI x2, vI x3, vI (x4 + (nI 1)), vI x5] [] σ) :
  T197 C Q 58 [vO 10 o0, vI x1, vI x2, vI x3, vI x4, vI x5] [] σ := j2_T.go hC [0, 21, 28, 39, 50, 58, 78] 400 h
set_option maxRecDepth 100000 in
theorem b197_78 {C : j2_C} (hC : j2_up1 C) {Q : j2_P} {o0 : Nat} {x1 : Int32} {x2 : Int32} {x3 : Int32} {x4 : Int32} {w5 : j2_W} {xs0 : Int32} {xs1 : Int32} {σ : j2_S}
  (h : ((¬ xs1 = xs0 → (((nI 0) = 0 ∨ (nI 0) = 1) ∧ Q (some (vI (nI 0))) σ)) ∧ (¬ (¬ xs1 = xs0) → (((nI 1) = 0 ∨ (nI 1) = 1) ∧ Q (some (vI (nI 1))) σ)))) :
  T197 C Q 78 [vO 10 o0, vI x1, vI x2, vI x3, vI x4, w5] [vI xs0, vI xs1] σ := j2_T.go hC [0, 21, 28, 39, 50, 58, 78] 400 h
abbrev T198 (C : j2_C) (Q : j2_P) : j2_K := j2_T C jc_X10_lay none Q
set_option maxRecDepth 100000 in
theorem b198_0 {C : j2_C} (hC : j2_up1 C) {Q : j2_P} {o0 : Nat} {x1 : Int32} {x2 : Int32} {x3 : Int32} {x4 : Int32} {x5 : Int32} {x6 : Int32} {x7 : Int32} {σ : j2_S}
  (h : (vp_in (σ.1 10061 o0) 240 ∧ (vp_in (σ.1 10061 o0) 240 ∧ (vp_in (σ.1 10061 o0) 240 ∧ ((x4 = 0 ∨ x4 = 1) ∧ vp_in (σ.1 10061 o0) 240 ∧ (vp_in (σ.1 10061 o0) 240 ∧ (vp_in (σ.1 10061 o0) 240 ∧ (vp_in (σ.1 10061 o0) 240 ∧ ((none : Option FieldType) = none ∧ Q none ((j2_up σ.1 10061 o0 ((σ.1 10061 o0) + (nI 1))), σ.2.1, (j2_ast (j2_ast (j2_ast (j2_ast (j2_ast (j2_ast (j2_ast σ.2.2 10053 o0 (σ.1 10061 o0).toNatClampNeg x1) 10054 o0 (σ.1 10061 o0).toNatClampNeg x2) 10055 o0 (σ.1 10061 o0).toNatClampNeg x3) 10059 o0 (σ.1 10061 o0).toNatClampNeg x4) 10056 o0 (σ.1 10061 o0).toNatClampNeg x5) 10057 o0 (σ.1 10061 o0).toNatClampNeg x6) 10058 o0 (σ.1 10061 o0).toNatClampNeg x7))))))))))) :
  T198 C Q 0 [vO 10 o0, vI x1, vI x2, vI x3, vI x4, vI x5, vI x6, vI x7] [] σ := j2_T.go hC [0] 400 h
abbrev T199 (C : j2_C) (Q : j2_P) : j2_K := j2_T C jc_X10_putIn none Q
set_option maxRecDepth 100000 in
theorem b199_0 {C : j2_C} (hC : j2_up1 C) {Q : j2_P} {o0 : Nat} {x1 : Int32} {x2 : Int32} {σ : j2_S}
  (h : (vp_in ((nI 160) + x1) 240 ∧ T199 C Q 14 [vO 10 o0, vI x1, vI x2, vI (σ.2.2 10026 o0 ((nI 160) + x1).toNatClampNeg), vI (σ.2.2 10026 o0 ((nI 160) + x1).toNatClampNeg), vI (nI 0), vM 2, vM 2] [] ((j2_up σ.1 10061 o0 (nI 0)), σ.2.1, σ.2.2))) :
  T199 C Q 0 [vO 10 o0, vI x1, vI x2, vM 2, vM 2, vM 2, vM 2, vM 2] [] σ := j2_T.go hC [0, 14, 21, 56, 57, 64, 71, 91, 100, 122, 126, 134, 156, 165, 169] 400 h
set_option maxRecDepth 100000 in
theorem b199_14 {C : j2_C} (hC : j2_up1 C) {Q : j2_P} {o0 : Nat} {x1 : Int32} {x2 : Int32} {x3 : Int32} {x4 : Int32} {x5 : Int32} {w6 : j2_W} {w7 : j2_W} {σ : j2_S}
  (h : ((x3 ≤ x5 → T199 C Q 126 [vO 10 o0, vI x1, vI x2, vI x3, vI x4, vI (nI 0), w6, w7] [] σ) ∧ (¬ (x3 ≤ x5) → C 160 [vI (nI 2), vI x1, vI x5] σ (fun r σ1 => T199 C Q 21 [vO 10 o0, vI x1, vI x2, vI x3, vI x4, vI x5, w6, w7] (r.toList ++ []) σ1)))) :
  T199 C Q 14 [vO 10 o0, vI x1, vI x2, vI x3, vI x4, vI x5, w6, w7] [] σ := j2_T.go hC [0, 14, 21, 56, 57, 64, 71, 91, 100, 122, 126, 134, 156, 165, 169] 400 h
set_option maxRecDepth 100000 in
theorem b199_21 {C : j2_C} (hC : j2_up1 C) {Q : j2_P} {o0 : Nat} {x1 : Int32} {x2 : Int32} {x3 : Int32} {x4 : Int32} {x5 : Int32} {w6 : j2_W} {w7 : j2_W} {xs0 : Int32} {σ : j2_S}
  (h : (vp_in x5 121 ∧ (vp_in xs0 28800 ∧ ((¬ ((j2_ast σ.2.2 10060 o0 x5.toNatClampNeg (σ.1 10061 o0)) 10027 o0 xs0.toNatClampNeg) = (nI 20) → T199 C Q 56 [vO 10 o0, vI x1, vI x2, vI x3, vI x4, vI x5, vI xs0, w7] [] (σ.1, σ.2.1, (j2_ast σ.2.2 10060 o0 x5.toNatClampNeg (σ.1 10061 o0)))) ∧ (¬ (¬ ((j2_ast σ.2.2 10060 o0 x5.toNatClampNeg (σ.1 10061 o0)) 10027 o0 xs0.toNatClampNeg) = (nI 20)) → (vp_in (((nI 120) * x1) + x5) 19200 ∧ ((((j2_ast σ.2.2 10060 o0 x5.toNatClampNeg (σ.1 10061 o0)) 10035 o0 (((nI 120) * x1) + x5).toNatClampNeg) = 0 → T199 C Q 56 [vO 10 o0, vI x1, vI x2, vI x3, vI x4, vI x5, vI xs0, w7] [] (σ.1, σ.2.1, (j2_ast σ.2.2 10060 o0 x5.toNatClampNeg (σ.1 10061 o0)))) ∧ (¬ (((j2_ast σ.2.2 10060 o0 x5.toNatClampNeg (σ.1 10061 o0)) 10035 o0 (((nI 120) * x1) + x5).toNatClampNeg) = 0) → (vp_in xs0 28800 ∧ (vp_in ((j2_ast σ.2.2 10060 o0 x5.toNatClampNeg (σ.1 10061 o0)) 10028 o0 xs0.toNatClampNeg) 30 ∧ (vp_in xs0 28800 ∧ T199 C Q 57 [vO 10 o0, vI x1, vI x2, vI x3, vI x4, vI x5, vI xs0, w7] [vI (((j2_ast σ.2.2 10060 o0 x5.toNatClampNeg (σ.1 10061 o0)) 10013 o0 ((j2_ast σ.2.2 10060 o0 x5.toNatClampNeg (σ.1 10061 o0)) 10028 o0 xs0.toNatClampNeg).toNatClampNeg) + ((j2_ast σ.2.2 10060 o0 x5.toNatClampNeg (σ.1 10061 o0)) 10029 o0 xs0.toNatClampNeg))] (σ.1, σ.2.1, (j2_ast σ.2.2 10060 o0 x5.toNatClampNeg (σ.1 10061 o0)))))))))))))) :
  T199 C Q 21 [vO 10 o0, vI x1, vI x2, vI x3, vI x4, vI x5, w6, w7] [vI xs0] σ := j2_T.go hC [0, 14, 21, 56, 57, 64, 71, 91, 100, 122, 126, 134, 156, 165, 169] 400 h
set_option maxRecDepth 100000 in
theorem b199_56 {C : j2_C} (hC : j2_up1 C) {Q : j2_P} {o0 : Nat} {x1 : Int32} {x2 : Int32} {x3 : Int32} {x4 : Int32} {x5 : Int32} {x6 : Int32} {w7 : j2_W} {σ : j2_S}
  (h : T199 C Q 57 [vO 10 o0, vI x1, vI x2, vI x3, vI x4, vI x5, vI x6, w7] [vI (-1 : Int32)] σ) :
  T199 C Q 56 [vO 10 o0, vI x1, vI x2, vI x3, vI x4, vI x5, vI x6, w7] [] σ := j2_T.go hC [0, 14, 21, 56, 57, 64, 71, 91, 100, 122, 126, 134, 156, 165, 169] 400 h
set_option maxRecDepth 100000 in
theorem b199_57 {C : j2_C} (hC : j2_up1 C) {Q : j2_P} {o0 : Nat} {x1 : Int32} {x2 : Int32} {x3 : Int32} {x4 : Int32} {x5 : Int32} {x6 : Int32} {w7 : j2_W} {xs0 : Int32} {σ : j2_S}
  (h : ((xs0 < 0 → T199 C Q 100 [vO 10 o0, vI x1, vI x2, vI x3, vI x4, vI x5, vI x6, vI xs0] [] σ) ∧ (¬ (xs0 < 0) → C 197 [vO 10 o0, vI xs0, vI x2] σ (fun r σ1 => T199 C Q 64 [vO 10 o0, vI x1, vI x2, vI x3, vI x4, vI x5, vI x6, vI xs0] (r.toList ++ []) σ1)))) :
  T199 C Q 57 [vO 10 o0, vI x1, vI x2, vI x3, vI x4, vI x5, vI x6, w7] [vI xs0] σ := j2_T.go hC [0, 14, 21, 56, 57, 64, 71, 91, 100, 122, 126, 134, 156, 165, 169] 400 h
set_option maxRecDepth 100000 in
theorem b199_64 {C : j2_C} (hC : j2_up1 C) {Q : j2_P} {o0 : Nat} {x1 : Int32} {x2 : Int32} {x3 : Int32} {x4 : Int32} {x5 : Int32} {x6 : Int32} {x7 : Int32} {xs0 : Int32} {σ : j2_S}
  (h : ((xs0 = 0 → T199 C Q 100 [vO 10 o0, vI x1, vI x2, vI x3, vI x4, vI x5, vI x6, vI x7] [] σ) ∧ (¬ (xs0 = 0) → C 200 [vO 10 o0, vI x1, vI x5, vI x7, vI x4] σ (fun r σ1 => T199 C Q 71 [vO 10 o0, vI x1, vI x2, vI x3, vI x4, vI x5, vI x6, vI x7] (r.toList ++ []) σ1)))) :
  T199 C Q 64 [vO 10 o0, vI x1, vI x2, vI x3, vI x4, vI x5, vI x6, vI x7] [vI xs0] σ := j2_T.go hC [0, 14, 21, 56, 57, 64, 71, 91, 100, 122, 126, 134, 156, 165, 169] 400 h
set_option maxRecDepth 100000 in
theorem b199_71 {C : j2_C} (hC : j2_up1 C) {Q : j2_P} {o0 : Nat} {x1 : Int32} {x2 : Int32} {x3 : Int32} {x4 : Int32} {x5 : Int32} {x6 : Int32} {x7 : Int32} {xs0 : Int32} {σ : j2_S}
  (h : ((xs0 = 0 → T199 C Q 100 [vO 10 o0, vI x1, vI x2, vI x3, vI x4, vI x5, vI x6, vI x7] [] σ) ∧ (¬ (xs0 = 0) → (vp_in x7 240 ∧ (vp_in x7 240 ∧ C 201 [vO 10 o0, vI x1, vI x5, vI x7] σ (fun r σ1 => T199 C Q 91 [vO 10 o0, vI x1, vI x2, vI x3, vI (x4 + (((σ.2.2 10023 o0 x7.toNatClampNeg) + (σ.2.2 10026 o0 x7.toNatClampNeg)) - (nI 2))), vI x5, vI x6, vI x7] (r.toList ++ []) σ1)))))) :
  T199 C Q 71 [vO 10 o0, vI x1, vI x2, vI x3, vI x4, vI x5, vI x6, vI x7] [vI xs0] σ := j2_T.go hC [0, 14, 21, 56, 57, 64, 71, 91, 100, 122, 126, 134, 156, 165, 169] 400 h
set_option maxRecDepth 100000 in
theorem b199_91 {C : j2_C} (hC : j2_up1 C) {Q : j2_P} {o0 : Nat} {x1 : Int32} {x2 : Int32} {x3 : Int32} {x4 : Int32} {x5 : Int32} {x6 : Int32} {x7 : Int32} {σ : j2_S}
  (h : (vp_in (nI 1) 23 ∧ (vp_in (nI 1) 23 ∧ T199 C Q 122 [vO 10 o0, vI x1, vI x2, vI x3, vI x4, vI x5, vI x6, vI x7] [] (σ.1, σ.2.1, (j2_ast σ.2.2 10052 o0 (nI 1).toNatClampNeg ((σ.2.2 10052 o0 (nI 1).toNatClampNeg) + (nI 1))))))) :
  T199 C Q 91 [vO 10 o0, vI x1, vI x2, vI x3, vI x4, vI x5, vI x6, vI x7] [] σ := j2_T.go hC [0, 14, 21, 56, 57, 64, 71, 91, 100, 122, 126, 134, 156, 165, 169] 400 h
set_option maxRecDepth 100000 in
theorem b199_100 {C : j2_C} (hC : j2_up1 C) {Q : j2_P} {o0 : Nat} {x1 : Int32} {x2 : Int32} {x3 : Int32} {x4 : Int32} {x5 : Int32} {x6 : Int32} {x7 : Int32} {σ : j2_S}
  (h : (vp_in x6 28800 ∧ (vp_in x6 28800 ∧ (vp_in x6 28800 ∧ C 198 [vO 10 o0, vI (σ.2.2 10027 o0 x6.toNatClampNeg), vI (σ.2.2 10028 o0 x6.toNatClampNeg), vI (σ.2.2 10029 o0 x6.toNatClampNeg), vI (nI 1), vI (nI 1), vI (((nI 1000) * x1) + x5), vI (nI 0)] σ (fun r σ1 => T199 C Q 122 [vO 10 o0, vI x1, vI x2, vI x3, vI x4, vI x5, vI x6, vI x7] (r.toList ++ []) σ1))))) :
  T199 C Q 100 [vO 10 o0, vI x1, vI x2, vI x3, vI x4, vI x5, vI x6, vI x7] [] σ := j2_T.go hC [0, 14, 21, 56, 57, 64, 71, 91, 100, 122, 126, 134, 156, 165, 169] 400 h
set_option maxRecDepth 100000 in
theorem b199_122 {C : j2_C} (hC : j2_up1 C) {Q : j2_P} {o0 : Nat} {x1 : Int32} {x2 : Int32} {x3 : Int32} {x4 : Int32} {x5 : Int32} {x6 : Int32} {x7 : Int32} {σ : j2_S}
  (h : T199 C Q 14 [vO 10 o0, vI x1, vI x2, vI x3, vI x4, vI (x5 + (nI 1)), vI x6, vI x7] [] σ) :
  T199 C Q 122 [vO 10 o0, vI x1, vI x2, vI x3, vI x4, vI x5, vI x6, vI x7] [] σ := j2_T.go hC [0, 14, 21, 56, 57, 64, 71, 91, 100, 122, 126, 134, 156, 165, 169] 400 h
set_option maxRecDepth 100000 in
theorem b199_126 {C : j2_C} (hC : j2_up1 C) {Q : j2_P} {o0 : Nat} {x1 : Int32} {x2 : Int32} {x3 : Int32} {x4 : Int32} {x5 : Int32} {w6 : j2_W} {w7 : j2_W} {σ : j2_S}
  (h : (((σ.1 10061 o0) ≤ x5 → (vp_in ((nI 160) + x1) 240 ∧ ((none : Option FieldType) = none ∧ Q none (σ.1, σ.2.1, (j2_ast σ.2.2 10026 o0 ((nI 160) + x1).toNatClampNeg (σ.1 10061 o0)))))) ∧ (¬ ((σ.1 10061 o0) ≤ x5) → C 160 [vI (nI 2), vI x1, vI x5] σ (fun r σ1 => T199 C Q 134 [vO 10 o0, vI x1, vI x2, vI x3, vI x4, vI x5, w6, w7] (r.toList ++ []) σ1)))) :
  T199 C Q 126 [vO 10 o0, vI x1, vI x2, vI x3, vI x4, vI x5, w6, w7] [] σ := j2_T.go hC [0, 14, 21, 56, 57, 64, 71, 91, 100, 122, 126, 134, 156, 165, 169] 400 h
set_option maxRecDepth 100000 in
theorem b199_134 {C : j2_C} (hC : j2_up1 C) {Q : j2_P} {o0 : Nat} {x1 : Int32} {x2 : Int32} {x3 : Int32} {x4 : Int32} {x5 : Int32} {w6 : j2_W} {w7 : j2_W} {xs0 : Int32} {σ : j2_S}
  (h : (vp_in x5 240 ∧ (vp_in xs0 28800 ∧ (vp_in x5 240 ∧ ((((j2_ast σ.2.2 10027 o0 xs0.toNatClampNeg (σ.2.2 10053 o0 x5.toNatClampNeg)) 10059 o0 x5.toNatClampNeg) = 0 → T199 C Q 165 [vO 10 o0, vI x1, vI x2, vI x3, vI x4, vI x5, vI xs0, w7] [vI xs0, vA 10028 o0] (σ.1, σ.2.1, (j2_ast σ.2.2 10027 o0 xs0.toNatClampNeg (σ.2.2 10053 o0 x5.toNatClampNeg)))) ∧ (¬ (((j2_ast σ.2.2 10027 o0 xs0.toNatClampNeg (σ.2.2 10053 o0 x5.toNatClampNeg)) 10059 o0 x5.toNatClampNeg) = 0) → (vp_in x5 240 ∧ C 164 [vI ((j2_ast σ.2.2 10027 o0 xs0.toNatClampNeg (σ.2.2 10053 o0 x5.toNatClampNeg)) 10053 o0 x5.toNatClampNeg)] (σ.1, σ.2.1, (j2_ast σ.2.2 10027 o0 xs0.toNatClampNeg (σ.2.2 10053 o0 x5.toNatClampNeg))) (fun r σ1 => T199 C Q 156 [vO 10 o0, vI x1, vI x2, vI x3, vI x4, vI x5, vI xs0, w7] (r.toList ++ [vI xs0, vA 10028 o0]) σ1)))))))) :
  T199 C Q 134 [vO 10 o0, vI x1, vI x2, vI x3, vI x4, vI x5, w6, w7] [vI xs0] σ := j2_T.go hC [0, 14, 21, 56, 57, 64, 71, 91, 100, 122, 126, 134, 156, 165, 169] 400 h
set_option maxRecDepth 100000 in
theorem b199_156 {C : j2_C} (hC : j2_up1 C) {Q : j2_P} {o0 : Nat} {x1 : Int32} {x2 : Int32} {x3 : Int32} {x4 : Int32} {x5 : Int32} {x6 : Int32} {w7 : j2_W} {xs0 : Int32} {xs1 : Int32} {os2 : Nat} {σ : j2_S}
  (h : ((xs0 = 0 → T199 C Q 165 [vO 10 o0, vI x1, vI x2, vI x3, vI x4, vI x5, vI x6, w7] [vI xs1, vA 10028 os2] σ) ∧ (¬ (xs0 = 0) → (vp_in x5 240 ∧ (vp_in (σ.2.2 10054 o0 x5.toNatClampNeg) 121 ∧ T199 C Q 169 [vO 10 o0, vI x1, vI x2, vI x3, vI x4, vI x5, vI x6, w7] [vI (σ.2.2 10060 o0 (σ.2.2 10054 o0 x5.toNatClampNeg).toNatClampNeg), vI xs1, vA 10028 os2] σ))))) :
  T199 C Q 156 [vO 10 o0, vI x1, vI x2, vI x3, vI x4, vI x5, vI x6, w7] [vI xs0, vI xs1, vA 10028 os2] σ := j2_T.go hC [0, 14, 21, 56, 57, 64, 71, 91, 100, 122, 126, 134, 156, 165, 169] 400 h
set_option maxRecDepth 100000 in
theorem b199_165 {C : j2_C} (hC : j2_up1 C) {Q : j2_P} {o0 : Nat} {x1 : Int32} {x2 : Int32} {x3 : Int32} {x4 : Int32} {x5 : Int32} {x6 : Int32} {w7 : j2_W} {xs0 : Int32} {os1 : Nat} {σ : j2_S}
  (h : (vp_in x5 240 ∧ T199 C Q 169 [vO 10 o0, vI x1, vI x2, vI x3, vI x4, vI x5, vI x6, w7] [vI (σ.2.2 10054 o0 x5.toNatClampNeg), vI xs0, vA 10028 os1] σ)) :
  T199 C Q 165 [vO 10 o0, vI x1, vI x2, vI x3, vI x4, vI x5, vI x6, w7] [vI xs0, vA 10028 os1] σ := j2_T.go hC [0, 14, 21, 56, 57, 64, 71, 91, 100, 122, 126, 134, 156, 165, 169] 400 h
set_option maxRecDepth 100000 in
theorem b199_169 {C : j2_C} (hC : j2_up1 C) {Q : j2_P} {o0 : Nat} {x1 : Int32} {x2 : Int32} {x3 : Int32} {x4 : Int32} {x5 : Int32} {x6 : Int32} {w7 : j2_W} {xs0 : Int32} {xs1 : Int32} {os2 : Nat} {σ : j2_S}
  (h : (vp_in xs1 28800 ∧ (vp_in x5 240 ∧ (vp_in x6 28800 ∧ (vp_in x5 240 ∧ (vp_in x6 28800 ∧ (vp_in x5 240 ∧ (vp_in x6 28800 ∧ (vp_in x5 240 ∧ (vp_in x6 28800 ∧ T199 C Q 126 [vO 10 o0, vI x1, vI x2, vI x3, vI x4, vI (x5 + (nI 1)), vI x6, w7] [] (σ.1, σ.2.1, (j2_ast (j2_ast (j2_ast (j2_ast (j2_ast σ.2.2 10028 os2 xs1.toNatClampNeg xs0) 10029 o0 x6.toNatClampNeg ((j2_ast σ.2.2 10028 os2 xs1.toNatClampNeg xs0) 10055 o0 x5.toNatClampNeg)) 10030 o0 x6.toNatClampNeg ((j2_ast (j2_ast σ.2.2 10028 os2 xs1.toNatClampNeg xs0) 10029 o0 x6.toNatClampNeg ((j2_ast σ.2.2 10028 os2 xs1.toNatClampNeg xs0) 10055 o0 x5.toNatClampNeg)) 10056 o0 x5.toNatClampNeg)) 10031 o0 x6.toNatClampNeg ((j2_ast (j2_ast (j2_ast σ.2.2 10028 os2 xs1.toNatClampNeg xs0) 10029 o0 x6.toNatClampNeg ((j2_ast σ.2.2 10028 os2 xs1.toNatClampNeg xs0) 10055 o0 x5.toNatClampNeg)) 10030 o0 x6.toNatClampNeg ((j2_ast (j2_ast σ.2.2 10028 os2 xs1.toNatClampNeg xs0) 10029 o0 x6.toNatClampNeg ((j2_ast σ.2.2 10028 os2 xs1.toNatClampNeg xs0) 10055 o0 x5.toNatClampNeg)) 10056 o0 x5.toNatClampNeg)) 10057 o0 x5.toNatClampNeg)) 10032 o0 x6.toNatClampNeg ((j2_ast (j2_ast (j2_ast (j2_ast σ.2.2 10028 os2 xs1.toNatClampNeg xs0) 10029 o0 x6.toNatClampNeg ((j2_ast σ.2.2 10028 os2 xs1.toNatClampNeg xs0) 10055 o0 x5.toNatClampNeg)) 10030 o0 x6.toNatClampNeg ((j2_ast (j2_ast σ.2.2 10028 os2 xs1.toNatClampNeg xs0) 10029 o0 x6.toNatClampNeg ((j2_ast σ.2.2 10028 os2 xs1.toNatClampNeg xs0) 10055 o0 x5.toNatClampNeg)) 10056 o0 x5.toNatClampNeg)) 10031 o0 x6.toNatClampNeg ((j2_ast (j2_ast (j2_ast σ.2.2 10028 os2 xs1.toNatClampNeg xs0) 10029 o0 x6.toNatClampNeg ((j2_ast σ.2.2 10028 os2 xs1.toNatClampNeg xs0) 10055 o0 x5.toNatClampNeg)) 10030 o0 x6.toNatClampNeg ((j2_ast (j2_ast σ.2.2 10028 os2 xs1.toNatClampNeg xs0) 10029 o0 x6.toNatClampNeg ((j2_ast σ.2.2 10028 os2 xs1.toNatClampNeg xs0) 10055 o0 x5.toNatClampNeg)) 10056 o0 x5.toNatClampNeg)) 10057 o0 x5.toNatClampNeg)) 10058 o0 x5.toNatClampNeg))))))))))))) :
  T199 C Q 169 [vO 10 o0, vI x1, vI x2, vI x3, vI x4, vI x5, vI x6, w7] [vI xs0, vI xs1, vA 10028 os2] σ := j2_T.go hC [0, 14, 21, 56, 57, 64, 71, 91, 100, 122, 126, 134, 156, 165, 169] 400 h
abbrev T200 (C : j2_C) (Q : j2_P) : j2_K := j2_T C jc_X10_hasRoom (some .boolean) Q
set_option maxRecDepth 100000 in
theorem b200_0 {C : j2_C} (hC : j2_up1 C) {Q : j2_P} {o0 : Nat} {x1 : Int32} {x2 : Int32} {x3 : Int32} {x4 : Int32} {σ : j2_S}
  (h : (vp_in ((nI 160) + x1) 240 ∧ (vp_in x3 240 ∧ (((nI 20) < ((σ.2.2 10025 o0 ((nI 160) + x1).toNatClampNeg) + (σ.2.2 10025 o0 x3.toNatClampNeg)) → (((nI 0) = 0 ∨ (nI 0) = 1) ∧ Q (some (vI (nI 0))) σ)) ∧ (¬ ((nI 20) < ((σ.2.2 10025 o0 ((nI 160) + x1).toNatClampNeg) + (σ.2.2 10025 o0 x3.toNatClampNeg))) → (vp_in x3 240 ∧ (vp_in x3 240 ∧ (((((x4 + (σ.2.2 10023 o0 x3.toNatClampNeg)) + (σ.2.2 10026 o0 x3.toNatClampNeg)) - (nI 2)) ≤ (nI 120) → (vp_in (((nI 120) * x1) + x2) 19200 ∧ (vp_in x3 240 ∧ T200 C Q 48 [vO 10 o0, vI x1, vI x2, vI x3, vI x4, vI ((σ.2.2 10036 o0 (((nI 120) * x1) + x2).toNatClampNeg) - (σ.2.2 10023 o0 x3.toNatClampNeg)), vI (nI 1), vI (nI 0)] [] σ))) ∧ (¬ ((((x4 + (σ.2.2 10023 o0 x3.toNatClampNeg)) + (σ.2.2 10026 o0 x3.toNatClampNeg)) - (nI 2)) ≤ (nI 120)) → (((nI 0) = 0 ∨ (nI 0) = 1) ∧ Q (some (vI (nI 0))) σ)))))))))) :
  T200 C Q 0 [vO 10 o0, vI x1, vI x2, vI x3, vI x4, vM 2, vM 2, vM 2] [] σ := j2_T.go hC [0, 48, 70, 71] 400 h
set_option maxRecDepth 100000 in
theorem b200_48 {C : j2_C} (hC : j2_up1 C) {Q : j2_P} {o0 : Nat} {x1 : Int32} {x2 : Int32} {x3 : Int32} {x4 : Int32} {x5 : Int32} {x6 : Int32} {x7 : Int32} {σ : j2_S}
  (h : (vp_in x3 240 ∧ (((σ.2.2 10026 o0 x3.toNatClampNeg) ≤ x7 → ((x6 = 0 ∨ x6 = 1) ∧ Q (some (vI x6)) σ)) ∧ (¬ ((σ.2.2 10026 o0 x3.toNatClampNeg) ≤ x7) → ((x6 = 0 → T200 C Q 70 [vO 10 o0, vI x1, vI x2, vI x3, vI x4, vI x5, vI x6, vI x7] [] σ) ∧ (¬ (x6 = 0) → (vp_in (((nI 120) * x3) + x7) 19200 ∧ (((nI 10) < (x5 + (σ.2.2 10036 o0 (((nI 120) * x3) + x7).toNatClampNeg)) → T200 C Q 70 [vO 10 o0, vI x1, vI x2, vI x3, vI x4, vI x5, vI x6, vI x7] [] σ) ∧ (¬ ((nI 10) < (x5 + (σ.2.2 10036 o0 (((nI 120) * x3) + x7).toNatClampNeg))) → T200 C Q 71 [vO 10 o0, vI x1, vI x2, vI x3, vI x4, vI x5, vI x6, vI x7] [vI (nI 1)] σ))))))))) :
  T200 C Q 48 [vO 10 o0, vI x1, vI x2, vI x3, vI x4, vI x5, vI x6, vI x7] [] σ := j2_T.go hC [0, 48, 70, 71] 400 h
set_option maxRecDepth 100000 in
theorem b200_70 {C : j2_C} (hC : j2_up1 C) {Q : j2_P} {o0 : Nat} {x1 : Int32} {x2 : Int32} {x3 : Int32} {x4 : Int32} {x5 : Int32} {x6 : Int32} {x7 : Int32} {σ : j2_S}
  (h : T200 C Q 71 [vO 10 o0, vI x1, vI x2, vI x3, vI x4, vI x5, vI x6, vI x7] [vI (nI 0)] σ) :
  T200 C Q 70 [vO 10 o0, vI x1, vI x2, vI x3, vI x4, vI x5, vI x6, vI x7] [] σ := j2_T.go hC [0, 48, 70, 71] 400 h
set_option maxRecDepth 100000 in
theorem b200_71 {C : j2_C} (hC : j2_up1 C) {Q : j2_P} {o0 : Nat} {x1 : Int32} {x2 : Int32} {x3 : Int32} {x4 : Int32} {x5 : Int32} {x6 : Int32} {x7 : Int32} {xs0 : Int32} {σ : j2_S}
  (h : T200 C Q 48 [vO 10 o0, vI x1, vI x2, vI x3, vI x4, vI x5, vI xs0, vI (x7 + (nI 1))] [] σ) :
  T200 C Q 71 [vO 10 o0, vI x1, vI x2, vI x3, vI x4, vI x5, vI x6, vI x7] [vI xs0] σ := j2_T.go hC [0, 48, 70, 71] 400 h
abbrev T201 (C : j2_C) (Q : j2_P) : j2_K := j2_T C jc_X10_putLeaf none Q
set_option maxRecDepth 100000 in
theorem b201_0 {C : j2_C} (hC : j2_up1 C) {Q : j2_P} {o0 : Nat} {x1 : Int32} {x2 : Int32} {x3 : Int32} {σ : j2_S}
  (h : (vp_in ((nI 160) + x1) 240 ∧ (vp_in x3 240 ∧ T201 C Q 14 [vO 10 o0, vI x1, vI x2, vI x3, vI (σ.2.2 10025 o0 ((nI 160) + x1).toNatClampNeg), vI ((σ.2.2 10023 o0 x3.toNatClampNeg) - (nI 1)), vM 2, vM 2] [] σ))) :
  T201 C Q 0 [vO 10 o0, vI x1, vI x2, vI x3, vM 2, vM 2, vM 2, vM 2] [] σ := j2_T.go hC [0, 14, 31, 35, 47, 60, 63, 78, 96] 400 h
set_option maxRecDepth 100000 in
theorem b201_14 {C : j2_C} (hC : j2_up1 C) {Q : j2_P} {o0 : Nat} {x1 : Int32} {x2 : Int32} {x3 : Int32} {x4 : Int32} {x5 : Int32} {σ : j2_S}
  (h : ((x5 < 0 → T201 C Q 35 [vO 10 o0, vI x1, vI x2, vI x3, vI x4, vI (nI 0), vM 2, vM 2] [] σ) ∧ (¬ (x5 < 0) → C 198 [vO 10 o0, vI (nI 3), vI (x4 + x5), vI (nI 0), vI (nI 0), vI (nI 1), vI (((nI 1000) * x1) + x2), vI (nI 0)] σ (fun r σ1 => T201 C Q 31 [vO 10 o0, vI x1, vI x2, vI x3, vI x4, vI x5, vM 2, vM 2] (r.toList ++ []) σ1)))) :
  T201 C Q 14 [vO 10 o0, vI x1, vI x2, vI x3, vI x4, vI x5, vM 2, vM 2] [] σ := j2_T.go hC [0, 14, 31, 35, 47, 60, 63, 78, 96] 400 h
set_option maxRecDepth 100000 in
theorem b201_31 {C : j2_C} (hC : j2_up1 C) {Q : j2_P} {o0 : Nat} {x1 : Int32} {x2 : Int32} {x3 : Int32} {x4 : Int32} {x5 : Int32} {σ : j2_S}
  (h : T201 C Q 14 [vO 10 o0, vI x1, vI x2, vI x3, vI x4, vI (x5 + (-1 : Int32)), vM 2, vM 2] [] σ) :
  T201 C Q 31 [vO 10 o0, vI x1, vI x2, vI x3, vI x4, vI x5, vM 2, vM 2] [] σ := j2_T.go hC [0, 14, 31, 35, 47, 60, 63, 78, 96] 400 h
set_option maxRecDepth 100000 in
theorem b201_35 {C : j2_C} (hC : j2_up1 C) {Q : j2_P} {o0 : Nat} {x1 : Int32} {x2 : Int32} {x3 : Int32} {x4 : Int32} {x5 : Int32} {w6 : j2_W} {w7 : j2_W} {σ : j2_S}
  (h : (vp_in x3 240 ∧ ((((σ.2.2 10026 o0 x3.toNatClampNeg) - (nI 1)) ≤ x5 → (vp_in ((nI 160) + x1) 240 ∧ (vp_in x3 240 ∧ (vp_in ((nI 160) + x1) 240 ∧ ((none : Option FieldType) = none ∧ Q none (σ.1, σ.2.1, (j2_ast σ.2.2 10025 o0 ((nI 160) + x1).toNatClampNeg ((σ.2.2 10025 o0 ((nI 160) + x1).toNatClampNeg) + (σ.2.2 10025 o0 x3.toNatClampNeg))))))))) ∧ (¬ (((σ.2.2 10026 o0 x3.toNatClampNeg) - (nI 1)) ≤ x5) → C 160 [vI (nI 0), vI x3, vI x5] σ (fun r σ1 => T201 C Q 47 [vO 10 o0, vI x1, vI x2, vI x3, vI x4, vI x5, w6, w7] (r.toList ++ []) σ1))))) :
  T201 C Q 35 [vO 10 o0, vI x1, vI x2, vI x3, vI x4, vI x5, w6, w7] [] σ := j2_T.go hC [0, 14, 31, 35, 47, 60, 63, 78, 96] 400 h
set_option maxRecDepth 100000 in
theorem b201_47 {C : j2_C} (hC : j2_up1 C) {Q : j2_P} {o0 : Nat} {x1 : Int32} {x2 : Int32} {x3 : Int32} {x4 : Int32} {x5 : Int32} {w6 : j2_W} {w7 : j2_W} {xs0 : Int32} {σ : j2_S}
  (h : (vp_in xs0 28800 ∧ (((σ.2.2 10027 o0 xs0.toNatClampNeg) = (nI 2) → T201 C Q 60 [vO 10 o0, vI x1, vI x2, vI x3, vI x4, vI x5, vI xs0, w7] [] σ) ∧ (¬ ((σ.2.2 10027 o0 xs0.toNatClampNeg) = (nI 2)) → (vp_in xs0 28800 ∧ ((¬ (σ.2.2 10027 o0 xs0.toNatClampNeg) = (nI 3) → T201 C Q 63 [vO 10 o0, vI x1, vI x2, vI x3, vI x4, vI x5, vI xs0, w7] [vI (nI 0)] σ) ∧ (¬ (¬ (σ.2.2 10027 o0 xs0.toNatClampNeg) = (nI 3)) → T201 C Q 60 [vO 10 o0, vI x1, vI x2, vI x3, vI x4, vI x5, vI xs0, w7] [] σ))))))) :
  T201 C Q 47 [vO 10 o0, vI x1, vI x2, vI x3, vI x4, vI x5, w6, w7] [vI xs0] σ := j2_T.go hC [0, 14, 31, 35, 47, 60, 63, 78, 96] 400 h
set_option maxRecDepth 100000 in
theorem b201_60 {C : j2_C} (hC : j2_up1 C) {Q : j2_P} {o0 : Nat} {x1 : Int32} {x2 : Int32} {x3 : Int32} {x4 : Int32} {x5 : Int32} {x6 : Int32} {w7 : j2_W} {σ : j2_S}
  (h : T201 C Q 63 [vO 10 o0, vI x1, vI x2, vI x3, vI x4, vI x5, vI x6, w7] [vI (nI 1)] σ) :
  T201 C Q 60 [vO 10 o0, vI x1, vI x2, vI x3, vI x4, vI x5, vI x6, w7] [] σ := j2_T.go hC [0, 14, 31, 35, 47, 60, 63, 78, 96] 400 h
set_option maxRecDepth 100000 in
theorem b201_63 {C : j2_C} (hC : j2_up1 C) {Q : j2_P} {o0 : Nat} {x1 : Int32} {x2 : Int32} {x3 : Int32} {x4 : Int32} {x5 : Int32} {x6 : Int32} {w7 : j2_W} {xs0 : Int32} {σ : j2_S}
  (h : (vp_in x6 28800 ∧ (vp_in x6 28800 ∧ ((xs0 = 0 → T201 C Q 78 [vO 10 o0, vI x1, vI x2, vI x3, vI x4, vI x5, vI x6, vI xs0] [vI (nI 0), vI (σ.2.2 10028 o0 x6.toNatClampNeg), vI (σ.2.2 10027 o0 x6.toNatClampNeg), vO 10 o0] σ) ∧ (¬ (xs0 = 0) → T201 C Q 78 [vO 10 o0, vI x1, vI x2, vI x3, vI x4, vI x5, vI x6, vI xs0] [vI x4, vI (σ.2.2 10028 o0 x6.toNatClampNeg), vI (σ.2.2 10027 o0 x6.toNatClampNeg), vO 10 o0] σ))))) :
  T201 C Q 63 [vO 10 o0, vI x1, vI x2, vI x3, vI x4, vI x5, vI x6, w7] [vI xs0] σ := j2_T.go hC [0, 14, 31, 35, 47, 60, 63, 78, 96] 400 h
set_option maxRecDepth 100000 in
theorem b201_78 {C : j2_C} (hC : j2_up1 C) {Q : j2_P} {o0 : Nat} {x1 : Int32} {x2 : Int32} {x3 : Int32} {x4 : Int32} {x5 : Int32} {x6 : Int32} {x7 : Int32} {xs0 : Int32} {xs1 : Int32} {xs2 : Int32} {os3 : Nat} {σ : j2_S}
  (h : (vp_in x6 28800 ∧ C 198 [vO 10 os3, vI xs2, vI (xs1 + xs0), vI (σ.2.2 10029 o0 x6.toNatClampNeg), vI (nI 0), vI (nI 2), vI (((nI 1000) * x3) + x5), vI (((nI 1000) * x1) + x2)] σ (fun r σ1 => T201 C Q 96 [vO 10 o0, vI x1, vI x2, vI x3, vI x4, vI x5, vI x6, vI x7] (r.toList ++ []) σ1))) :
  T201 C Q 78 [vO 10 o0, vI x1, vI x2, vI x3, vI x4, vI x5, vI x6, vI x7] [vI xs0, vI xs1, vI xs2, vO 10 os3] σ := j2_T.go hC [0, 14, 31, 35, 47, 60, 63, 78, 96] 400 h
set_option maxRecDepth 100000 in
theorem b201_96 {C : j2_C} (hC : j2_up1 C) {Q : j2_P} {o0 : Nat} {x1 : Int32} {x2 : Int32} {x3 : Int32} {x4 : Int32} {x5 : Int32} {x6 : Int32} {x7 : Int32} {σ : j2_S}
  (h : T201 C Q 35 [vO 10 o0, vI x1, vI x2, vI x3, vI x4, vI (x5 + (nI 1)), vI x6, vI x7] [] σ) :
  T201 C Q 96 [vO 10 o0, vI x1, vI x2, vI x3, vI x4, vI x5, vI x6, vI x7] [] σ := j2_T.go hC [0, 14, 31, 35, 47, 60, 63, 78, 96] 400 h
abbrev T202 (C : j2_C) (Q : j2_P) : j2_K := j2_T C jc_X10_survey none Q
set_option maxRecDepth 100000 in
theorem b202_0 {C : j2_C} (hC : j2_up1 C) {Q : j2_P} {o0 : Nat} {σ : j2_S}
  (h : T202 C Q 2 [vO 10 o0, vI (nI 0), vM 2] [] σ) :
  T202 C Q 0 [vO 10 o0, vM 2, vM 2] [] σ := j2_T.go hC [0, 2, 19, 31, 43, 55, 75, 83, 120, 122, 132] 400 h
set_option maxRecDepth 100000 in
theorem b202_2 {C : j2_C} (hC : j2_up1 C) {Q : j2_P} {o0 : Nat} {x1 : Int32} {σ : j2_S}
  (h : (((nI 120) ≤ x1 → T202 C Q 19 [vO 10 o0, vI (nI 0), vM 2] [] σ) ∧ (¬ ((nI 120) ≤ x1) → (((nI 0) = 0 ∨ (nI 0) = 1) ∧ vp_in x1 120 ∧ (((nI 0) = 0 ∨ (nI 0) = 1) ∧ vp_in x1 120 ∧ T202 C Q 2 [vO 10 o0, vI (x1 + (nI 1)), vM 2] [] (σ.1, σ.2.1, (j2_ast (j2_ast σ.2.2 10064 o0 x1.toNatClampNeg (nI 0)) 10065 o0 x1.toNatClampNeg (nI 0)))))))) :
  T202 C Q 2 [vO 10 o0, vI x1, vM 2] [] σ := j2_T.go hC [0, 2, 19, 31, 43, 55, 75, 83, 120, 122, 132] 400 h
set_option maxRecDepth 100000 in
theorem b202_19 {C : j2_C} (hC : j2_up1 C) {Q : j2_P} {o0 : Nat} {x1 : Int32} {σ : j2_S}
  (h : (((nI 20) ≤ x1 → T202 C Q 31 [vO 10 o0, vI (nI 0), vM 2] [] σ) ∧ (¬ ((nI 20) ≤ x1) → (((nI 0) = 0 ∨ (nI 0) = 1) ∧ vp_in x1 20 ∧ T202 C Q 19 [vO 10 o0, vI (x1 + (nI 1)), vM 2] [] (σ.1, σ.2.1, (j2_ast σ.2.2 10066 o0 x1.toNatClampNeg (nI 0))))))) :
  T202 C Q 19 [vO 10 o0, vI x1, vM 2] [] σ := j2_T.go hC [0, 2, 19, 31, 43, 55, 75, 83, 120, 122, 132] 400 h
set_option maxRecDepth 100000 in
theorem b202_31 {C : j2_C} (hC : j2_up1 C) {Q : j2_P} {o0 : Nat} {x1 : Int32} {σ : j2_S}
  (h : (((σ.1 10063 o0) ≤ x1 → C 203 [vO 10 o0, vI (nI 0)] ((j2_up σ.1 10068 o0 (nI 0)), σ.2.1, σ.2.2) (fun r σ1 => T202 C Q 83 [vO 10 o0, vI x1, vM 2] (r.toList ++ []) σ1)) ∧ (¬ ((σ.1 10063 o0) ≤ x1) → (vp_in ((σ.1 10062 o0) + x1) 28800 ∧ C 164 [vI (σ.2.2 10027 o0 ((σ.1 10062 o0) + x1).toNatClampNeg)] σ (fun r σ1 => T202 C Q 43 [vO 10 o0, vI x1, vM 2] (r.toList ++ []) σ1))))) :
  T202 C Q 31 [vO 10 o0, vI x1, vM 2] [] σ := j2_T.go hC [0, 2, 19, 31, 43, 55, 75, 83, 120, 122, 132] 400 h
set_option maxRecDepth 100000 in
theorem b202_43 {C : j2_C} (hC : j2_up1 C) {Q : j2_P} {o0 : Nat} {x1 : Int32} {xs0 : Int32} {σ : j2_S}
  (h : ((xs0 = 0 → T202 C Q 55 [vO 10 o0, vI x1, vM 2] [] σ) ∧ (¬ (xs0 = 0) → (vp_in ((σ.1 10062 o0) + x1) 28800 ∧ (((nI 1) = 0 ∨ (nI 1) = 1) ∧ vp_in (σ.2.2 10028 o0 ((σ.1 10062 o0) + x1).toNatClampNeg) 120 ∧ T202 C Q 55 [vO 10 o0, vI x1, vM 2] [] (σ.1, σ.2.1, (j2_ast σ.2.2 10065 o0 (σ.2.2 10028 o0 ((σ.1 10062 o0) + x1).toNatClampNeg).toNatClampNeg (nI 1)))))))) :
  T202 C Q 43 [vO 10 o0, vI x1, vM 2] [vI xs0] σ := j2_T.go hC [0, 2, 19, 31, 43, 55, 75, 83, 120, 122, 132] 400 h
set_option maxRecDepth 100000 in
theorem b202_55 {C : j2_C} (hC : j2_up1 C) {Q : j2_P} {o0 : Nat} {x1 : Int32} {σ : j2_S}
  (h : (vp_in ((σ.1 10062 o0) + x1) 28800 ∧ ((¬ (σ.2.2 10027 o0 ((σ.1 10062 o0) + x1).toNatClampNeg) = (nI 2) → T202 C Q 75 [vO 10 o0, vI x1, vM 2] [] σ) ∧ (¬ (¬ (σ.2.2 10027 o0 ((σ.1 10062 o0) + x1).toNatClampNeg) = (nI 2)) → (vp_in ((σ.1 10062 o0) + x1) 28800 ∧ (((nI 1) = 0 ∨ (nI 1) = 1) ∧ vp_in (σ.2.2 10028 o0 ((σ.1 10062 o0) + x1).toNatClampNeg) 20 ∧ T202 C Q 75 [vO 10 o0, vI x1, vM 2] [] (σ.1, σ.2.1, (j2_ast σ.2.2 10066 o0 (σ.2.2 10028 o0 ((σ.1 10062 o0) + x1).toNatClampNeg).toNatClampNeg (nI 1))))))))) :
  T202 C Q 55 [vO 10 o0, vI x1, vM 2] [] σ := j2_T.go hC [0, 2, 19, 31, 43, 55, 75, 83, 120, 122, 132] 400 h
set_option maxRecDepth 100000 in
theorem b202_75 {C : j2_C} (hC : j2_up1 C) {Q : j2_P} {o0 : Nat} {x1 : Int32} {σ : j2_S}
  (h : T202 C Q 31 [vO 10 o0, vI (x1 + (nI 1)), vM 2] [] σ) :
  T202 C Q 75 [vO 10 o0, vI x1, vM 2] [] σ := j2_T.go hC [0, 2, 19, 31, 43, 55, 75, 83, 120, 122, 132] 400 h
set_option maxRecDepth 100000 in
theorem b202_83 {C : j2_C} (hC : j2_up1 C) {Q : j2_P} {o0 : Nat} {x1 : Int32} {w2 : j2_W} {σ : j2_S}
  (h : (((σ.1 10068 o0) ≤ 0 → ((none : Option FieldType) = none ∧ Q none σ)) ∧ (¬ ((σ.1 10068 o0) ≤ 0) → (vp_in ((j2_up σ.1 10068 o0 ((σ.1 10068 o0) - (nI 1))) 10068 o0) 120 ∧ (vp_in (((j2_up σ.1 10068 o0 ((σ.1 10068 o0) - (nI 1))) 10062 o0) + (σ.2.2 10067 o0 ((j2_up σ.1 10068 o0 ((σ.1 10068 o0) - (nI 1))) 10068 o0).toNatClampNeg)) 28800 ∧ (((σ.2.2 10027 o0 (((j2_up σ.1 10068 o0 ((σ.1 10068 o0) - (nI 1))) 10062 o0) + (σ.2.2 10067 o0 ((j2_up σ.1 10068 o0 ((σ.1 10068 o0) - (nI 1))) 10068 o0).toNatClampNeg)).toNatClampNeg) = (nI 11) → T202 C Q 120 [vO 10 o0, vI (σ.2.2 10067 o0 ((j2_up σ.1 10068 o0 ((σ.1 10068 o0) - (nI 1))) 10068 o0).toNatClampNeg), vI (σ.2.2 10027 o0 (((j2_up σ.1 10068 o0 ((σ.1 10068 o0) - (nI 1))) 10062 o0) + (σ.2.2 10067 o0 ((j2_up σ.1 10068 o0 ((σ.1 10068 o0) - (nI 1))) 10068 o0).toNatClampNeg)).toNatClampNeg)] [] ((j2_up σ.1 10068 o0 ((σ.1 10068 o0) - (nI 1))), σ.2.1, σ.2.2)) ∧ (¬ ((σ.2.2 10027 o0 (((j2_up σ.1 10068 o0 ((σ.1 10068 o0) - (nI 1))) 10062 o0) + (σ.2.2 10067 o0 ((j2_up σ.1 10068 o0 ((σ.1 10068 o0) - (nI 1))) 10068 o0).toNatClampNeg)).toNatClampNeg) = (nI 11)) → (((σ.2.2 10027 o0 (((j2_up σ.1 10068 o0 ((σ.1 10068 o0) - (nI 1))) 10062 o0) + (σ.2.2 10067 o0 ((j2_up σ.1 10068 o0 ((σ.1 10068 o0) - (nI 1))) 10068 o0).toNatClampNeg)).toNatClampNeg) = (nI 22) → T202 C Q 120 [vO 10 o0, vI (σ.2.2 10067 o0 ((j2_up σ.1 10068 o0 ((σ.1 10068 o0) - (nI 1))) 10068 o0).toNatClampNeg), vI (σ.2.2 10027 o0 (((j2_up σ.1 10068 o0 ((σ.1 10068 o0) - (nI 1))) 10062 o0) + (σ.2.2 10067 o0 ((j2_up σ.1 10068 o0 ((σ.1 10068 o0) - (nI 1))) 10068 o0).toNatClampNeg)).toNatClampNeg)] [] ((j2_up σ.1 10068 o0 ((σ.1 10068 o0) - (nI 1))), σ.2.1, σ.2.2)) ∧ (¬ ((σ.2.2 10027 o0 (((j2_up σ.1 10068 o0 ((σ.1 10068 o0) - (nI 1))) 10062 o0) + (σ.2.2 10067 o0 ((j2_up σ.1 10068 o0 ((σ.1 10068 o0) - (nI 1))) 10068 o0).toNatClampNeg)).toNatClampNeg) = (nI 22)) → (((σ.2.2 10027 o0 (((j2_up σ.1 10068 o0 ((σ.1 10068 o0) - (nI 1))) 10062 o0) + (σ.2.2 10067 o0 ((j2_up σ.1 10068 o0 ((σ.1 10068 o0) - (nI 1))) 10068 o0).toNatClampNeg)).toNatClampNeg) = (nI 26) → T202 C Q 120 [vO 10 o0, vI (σ.2.2 10067 o0 ((j2_up σ.1 10068 o0 ((σ.1 10068 o0) - (nI 1))) 10068 o0).toNatClampNeg), vI (σ.2.2 10027 o0 (((j2_up σ.1 10068 o0 ((σ.1 10068 o0) - (nI 1))) 10062 o0) + (σ.2.2 10067 o0 ((j2_up σ.1 10068 o0 ((σ.1 10068 o0) - (nI 1))) 10068 o0).toNatClampNeg)).toNatClampNeg)] [] ((j2_up σ.1 10068 o0 ((σ.1 10068 o0) - (nI 1))), σ.2.1, σ.2.2)) ∧ (¬ ((σ.2.2 10027 o0 (((j2_up σ.1 10068 o0 ((σ.1 10068 o0) - (nI 1))) 10062 o0) + (σ.2.2 10067 o0 ((j2_up σ.1 10068 o0 ((σ.1 10068 o0) - (nI 1))) 10068 o0).toNatClampNeg)).toNatClampNeg) = (nI 26)) → C 203 [vO 10 o0, vI ((σ.2.2 10067 o0 ((j2_up σ.1 10068 o0 ((σ.1 10068 o0) - (nI 1))) 10068 o0).toNatClampNeg) + (nI 1))] ((j2_up σ.1 10068 o0 ((σ.1 10068 o0) - (nI 1))), σ.2.1, σ.2.2) (fun r σ1 => T202 C Q 120 [vO 10 o0, vI (σ.2.2 10067 o0 ((j2_up σ.1 10068 o0 ((σ.1 10068 o0) - (nI 1))) 10068 o0).toNatClampNeg), vI (σ.2.2 10027 o0 (((j2_up σ.1 10068 o0 ((σ.1 10068 o0) - (nI 1))) 10062 o0) + (σ.2.2 10067 o0 ((j2_up σ.1 10068 o0 ((σ.1 10068 o0) - (nI 1))) 10068 o0).toNatClampNeg)).toNatClampNeg)] (r.toList ++ []) σ1)))))))))))) :
  T202 C Q 83 [vO 10 o0, vI x1, w2] [] σ := j2_T.go hC [0, 2, 19, 31, 43, 55, 75, 83, 120, 122, 132] 400 h
set_option maxRecDepth 100000 in
theorem b202_120 {C : j2_C} (hC : j2_up1 C) {Q : j2_P} {o0 : Nat} {x1 : Int32} {x2 : Int32} {σ : j2_S}
  (h : C 164 [vI x2] σ (fun r σ1 => T202 C Q 122 [vO 10 o0, vI x1, vI x2] (r.toList ++ []) σ1)) :
  T202 C Q 120 [vO 10 o0, vI x1, vI x2] [] σ := j2_T.go hC [0, 2, 19, 31, 43, 55, 75, 83, 120, 122, 132] 400 h
set_option maxRecDepth 100000 in
theorem b202_122 {C : j2_C} (hC : j2_up1 C) {Q : j2_P} {o0 : Nat} {x1 : Int32} {x2 : Int32} {xs0 : Int32} {σ : j2_S}
  (h : ((xs0 = 0 → T202 C Q 132 [vO 10 o0, vI x1, vI x2] [] σ) ∧ (¬ (xs0 = 0) → (vp_in ((σ.1 10062 o0) + x1) 28800 ∧ C 203 [vO 10 o0, vI (σ.2.2 10028 o0 ((σ.1 10062 o0) + x1).toNatClampNeg)] σ (fun r σ1 => T202 C Q 132 [vO 10 o0, vI x1, vI x2] (r.toList ++ []) σ1))))) :
  T202 C Q 122 [vO 10 o0, vI x1, vI x2] [vI xs0] σ := j2_T.go hC [0, 2, 19, 31, 43, 55, 75, 83, 120, 122, 132] 400 h
set_option maxRecDepth 100000 in
theorem b202_132 {C : j2_C} (hC : j2_up1 C) {Q : j2_P} {o0 : Nat} {x1 : Int32} {x2 : Int32} {σ : j2_S}
  (h : T202 C Q 83 [vO 10 o0, vI x1, vI x2] [] σ) :
  T202 C Q 132 [vO 10 o0, vI x1, vI x2] [] σ := j2_T.go hC [0, 2, 19, 31, 43, 55, 75, 83, 120, 122, 132] 400 h
abbrev T203 (C : j2_C) (Q : j2_P) : j2_K := j2_T C jc_X10_comeTo none Q
set_option maxRecDepth 100000 in
theorem b203_0 {C : j2_C} (hC : j2_up1 C) {Q : j2_P} {o0 : Nat} {x1 : Int32} {σ : j2_S}
  (h : (vp_in x1 120 ∧ (((σ.2.2 10064 o0 x1.toNatClampNeg) = 0 → (((nI 1) = 0 ∨ (nI 1) = 1) ∧ vp_in x1 120 ∧ (vp_in (σ.1 10068 o0) 120 ∧ ((none : Option FieldType) = none ∧ Q none ((j2_up σ.1 10068 o0 ((σ.1 10068 o0) + (nI 1))), σ.2.1, (j2_ast (j2_ast σ.2.2 10064 o0 x1.toNatClampNeg (nI 1)) 10067 o0 (σ.1 10068 o0).toNatClampNeg x1)))))) ∧ (¬ ((σ.2.2 10064 o0 x1.toNatClampNeg) = 0) → ((none : Option FieldType) = none ∧ Q none σ))))) :
  T203 C Q 0 [vO 10 o0, vI x1] [] σ := j2_T.go hC [0] 400 h
abbrev T204 (C : j2_C) (Q : j2_P) : j2_K := j2_T C jc_X10_alone (some .boolean) Q
set_option maxRecDepth 100000 in
theorem b204_0 {C : j2_C} (hC : j2_up1 C) {Q : j2_P} {o0 : Nat} {x1 : Int32} {x2 : Int32} {σ : j2_S}
  (h : (((x1 + x2) ≤ (σ.1 10063 o0) → T204 C Q 10 [vO 10 o0, vI x1, vI x2, vI (nI 1)] [] σ) ∧ (¬ ((x1 + x2) ≤ (σ.1 10063 o0)) → (((nI 0) = 0 ∨ (nI 0) = 1) ∧ Q (some (vI (nI 0))) σ)))) :
  T204 C Q 0 [vO 10 o0, vI x1, vI x2, vM 2] [] σ := j2_T.go hC [0, 10] 400 h
set_option maxRecDepth 100000 in
theorem b204_10 {C : j2_C} (hC : j2_up1 C) {Q : j2_P} {o0 : Nat} {x1 : Int32} {x2 : Int32} {x3 : Int32} {σ : j2_S}
  (h : ((x2 ≤ x3 → (((nI 1) = 0 ∨ (nI 1) = 1) ∧ Q (some (vI (nI 1))) σ)) ∧ (¬ (x2 ≤ x3) → (vp_in (x1 + x3) 120 ∧ (((σ.2.2 10065 o0 (x1 + x3).toNatClampNeg) = 0 → T204 C Q 10 [vO 10 o0, vI x1, vI x2, vI (x3 + (nI 1))] [] σ) ∧ (¬ ((σ.2.2 10065 o0 (x1 + x3).toNatClampNeg) = 0) → (((nI 0) = 0 ∨ (nI 0) = 1) ∧ Q (some (vI (nI 0))) σ))))))) :
  T204 C Q 10 [vO 10 o0, vI x1, vI x2, vI x3] [] σ := j2_T.go hC [0, 10] 400 h
abbrev T205 (C : j2_C) (Q : j2_P) : j2_K := j2_T C jc_X10_is (some .boolean) Q
set_option maxRecDepth 100000 in
theorem b205_0 {C : j2_C} (hC : j2_up1 C) {Q : j2_P} {o0 : Nat} {x1 : Int32} {x2 : Int32} {σ : j2_S}
  (h : (vp_in ((σ.1 10062 o0) + x1) 28800 ∧ ((¬ (σ.2.2 10027 o0 ((σ.1 10062 o0) + x1).toNatClampNeg) = x2 → (((nI 0) = 0 ∨ (nI 0) = 1) ∧ Q (some (vI (nI 0))) σ)) ∧ (¬ (¬ (σ.2.2 10027 o0 ((σ.1 10062 o0) + x1).toNatClampNeg) = x2) → (((nI 1) = 0 ∨ (nI 1) = 1) ∧ Q (some (vI (nI 1))) σ))))) :
  T205 C Q 0 [vO 10 o0, vI x1, vI x2] [] σ := j2_T.go hC [0] 400 h
abbrev T206 (C : j2_C) (Q : j2_P) : j2_K := j2_T C jc_X10_leads (some .int) Q
set_option maxRecDepth 100000 in
theorem b206_0 {C : j2_C} (hC : j2_up1 C) {Q : j2_P} {o0 : Nat} {x1 : Int32} {σ : j2_S}
  (h : T206 C Q 4 [vO 10 o0, vI x1, vI x1, vI (nI 0)] [] σ) :
  T206 C Q 0 [vO 10 o0, vI x1, vM 2, vM 2] [] σ := j2_T.go hC [0, 4, 12] 400 h
set_option maxRecDepth 100000 in
theorem b206_4 {C : j2_C} (hC : j2_up1 C) {Q : j2_P} {o0 : Nat} {x1 : Int32} {x2 : Int32} {x3 : Int32} {σ : j2_S}
  (h : (((σ.1 10063 o0) < x3 → (True ∧ Q (some (vI (-1 : Int32))) σ)) ∧ (¬ ((σ.1 10063 o0) < x3) → C 205 [vO 10 o0, vI x2, vI (nI 11)] σ (fun r σ1 => T206 C Q 12 [vO 10 o0, vI x1, vI x2, vI x3] (r.toList ++ []) σ1)))) :
  T206 C Q 4 [vO 10 o0, vI x1, vI x2, vI x3] [] σ := j2_T.go hC [0, 4, 12] 400 h
set_option maxRecDepth 100000 in
theorem b206_12 {C : j2_C} (hC : j2_up1 C) {Q : j2_P} {o0 : Nat} {x1 : Int32} {x2 : Int32} {x3 : Int32} {xs0 : Int32} {σ : j2_S}
  (h : ((¬ xs0 = 0 → (vp_in ((σ.1 10062 o0) + x2) 28800 ∧ T206 C Q 4 [vO 10 o0, vI x1, vI (σ.2.2 10028 o0 ((σ.1 10062 o0) + x2).toNatClampNeg), vI (x3 + (nI 1))] [] σ)) ∧ (¬ (¬ xs0 = 0) → (True ∧ Q (some (vI x2)) σ)))) :
  T206 C Q 12 [vO 10 o0, vI x1, vI x2, vI x3] [vI xs0] σ := j2_T.go hC [0, 4, 12] 400 h
abbrev T207 (C : j2_C) (Q : j2_P) : j2_K := j2_T C jc_X10_fitsRule (some .boolean) Q
set_option maxRecDepth 100000 in
theorem b207_0 {C : j2_C} (hC : j2_up1 C) {Q : j2_P} {o0 : Nat} {x1 : Int32} {x2 : Int32} {σ : j2_S}
  (h : (vp_in ((σ.1 10062 o0) + x2) 28800 ∧ (((σ.1 10063 o0) ≤ (x2 + (nI 1)) → T207 C Q 24 [vO 10 o0, vI x1, vI x2, vI ((σ.1 10062 o0) + x2), vI (σ.2.2 10027 o0 ((σ.1 10062 o0) + x2).toNatClampNeg), vM 2] [vI (-1 : Int32)] σ) ∧ (¬ ((σ.1 10063 o0) ≤ (x2 + (nI 1))) → (vp_in (((σ.1 10062 o0) + x2) + (nI 1)) 28800 ∧ T207 C Q 24 [vO 10 o0, vI x1, vI x2, vI ((σ.1 10062 o0) + x2), vI (σ.2.2 10027 o0 ((σ.1 10062 o0) + x2).toNatClampNeg), vM 2] [vI (σ.2.2 10027 o0 (((σ.1 10062 o0) + x2) + (nI 1)).toNatClampNeg)] σ))))) :
  T207 C Q 0 [vO 10 o0, vI x1, vI x2, vM 2, vM 2, vM 2] [] σ := j2_T.go hC [0, 24, 26, 27, 36, 51, 53, 61, 68, 73, 77, 113, 117, 121, 136, 140, 144, 154, 158, 175, 179, 190, 194, 208, 220, 224, 239, 243, 265, 271] 400 h
set_option maxRecDepth 100000 in
theorem b207_24 {C : j2_C} (hC : j2_up1 C) {Q : j2_P} {o0 : Nat} {x1 : Int32} {x2 : Int32} {x3 : Int32} {x4 : Int32} {xs0 : Int32} {σ : j2_S}
  (h : T207 C Q 26 [vO 10 o0, vI x1, vI x2, vI x3, vI x4, vI xs0] [vI x1] σ) :
  T207 C Q 24 [vO 10 o0, vI x1, vI x2, vI x3, vI x4, vM 2] [vI xs0] σ := j2_T.go hC [0, 24, 26, 27, 36, 51, 53, 61, 68, 73, 77, 113, 117, 121, 136, 140, 144, 154, 158, 175, 179, 190, 194, 208, 220, 224, 239, 243, 265, 271] 400 h
set_option maxRecDepth 100000 in
theorem b207_26 {C : j2_C} (hC : j2_up1 C) {Q : j2_P} {o0 : Nat} {x1 : Int32} {x2 : Int32} {x3 : Int32} {x4 : Int32} {x5 : Int32} {xs0 : Int32} {σ : j2_S} (h0 : xs0 = (nI 1) → T207 C Q 27 [vO 10 o0, vI x1, vI x2, vI x3, vI x4, vI x5] [] σ) (h1 : xs0 = (nI 2) → T207 C Q 36 [vO 10 o0, vI x1, vI x2, vI x3, vI x4, vI x5] [] σ) (h2 : xs0 = (nI 3) → T207 C Q 51 [vO 10 o0, vI x1, vI x2, vI x3, vI x4, vI x5] [] σ) (h3 : xs0 = (nI 4) → T207 C Q 73 [vO 10 o0, vI x1, vI x2, vI x3, vI x4, vI x5] [] σ) (h4 : xs0 = (nI 5) → T207 C Q 117 [vO 10 o0, vI x1, vI x2, vI x3, vI x4, vI x5] [] σ) (h5 : xs0 = (nI 6) → T207 C Q 140 [vO 10 o0, vI x1, vI x2, vI x3, vI x4, vI x5] [] σ) (h6 : xs0 = (nI 7) → T207 C Q 154 [vO 10 o0, vI x1, vI x2, vI x3, vI x4, vI x5] [] σ) (h7 : xs0 = (nI 8) → T207 C Q 175 [vO 10 o0, vI x1, vI x2, vI x3, vI x4, vI x5] [] σ) (h8 : xs0 = (nI 9) → T207 C Q 190 [vO 10 o0, vI x1, vI x2, vI x3, vI x4, vI x5] [] σ) (h9 : xs0 = (nI 10) → T207 C Q 224 [vO 10 o0, vI x1, vI x2, vI x3, vI x4, vI x5] [] σ) (h10 : xs0 = (nI 11) → T207 C Q 239 [vO 10 o0, vI x1, vI x2, vI x3, vI x4, vI x5] [] σ) (hd : (xs0.toInt < 1 ∨ 11 < xs0.toInt) → T207 C Q 265 [vO 10 o0, vI x1, vI x2, vI x3, vI x4, vI x5] [] σ) :
  T207 C Q 26 [vO 10 o0, vI x1, vI x2, vI x3, vI x4, vI x5] [vI xs0] σ := j2_T.tsw hC (d := 265) (lo := 1) (hi := 11) (ts := #[27, 36, 51, 73, 117, 140, 154, 175, 190, 224, 239]) rfl hd (fun g1 g2 => by
  have g : xs0.toInt = 1 ∨ xs0.toInt = 2 ∨ xs0.toInt = 3 ∨ xs0.toInt = 4 ∨ xs0.toInt = 5 ∨ xs0.toInt = 6 ∨ xs0.toInt = 7 ∨ xs0.toInt = 8 ∨ xs0.toInt = 9 ∨ xs0.toInt = 10 ∨ xs0.toInt = 11 := by omega
  rcases g with g | g | g | g | g | g | g | g | g | g | g
  · rw [g]; exact h0 (Int32.toInt_inj.mp (g.trans (by decide)))
  · rw [g]; exact h1 (Int32.toInt_inj.mp (g.trans (by decide)))
  · rw [g]; exact h2 (Int32.toInt_inj.mp (g.trans (by decide)))
  · rw [g]; exact h3 (Int32.toInt_inj.mp (g.trans (by decide)))
  · rw [g]; exact h4 (Int32.toInt_inj.mp (g.trans (by decide)))
  · rw [g]; exact h5 (Int32.toInt_inj.mp (g.trans (by decide)))
  · rw [g]; exact h6 (Int32.toInt_inj.mp (g.trans (by decide)))
  · rw [g]; exact h7 (Int32.toInt_inj.mp (g.trans (by decide)))
  · rw [g]; exact h8 (Int32.toInt_inj.mp (g.trans (by decide)))
  · rw [g]; exact h9 (Int32.toInt_inj.mp (g.trans (by decide)))
  · rw [g]; exact h10 (Int32.toInt_inj.mp (g.trans (by decide)))
  )
set_option maxRecDepth 100000 in
theorem b207_27 {C : j2_C} (hC : j2_up1 C) {Q : j2_P} {o0 : Nat} {x1 : Int32} {x2 : Int32} {x3 : Int32} {x4 : Int32} {x5 : Int32} {σ : j2_S}
  (h : (vp_in x2 120 ∧ ((¬ (σ.2.2 10064 o0 x2.toNatClampNeg) = 0 → (((nI 0) = 0 ∨ (nI 0) = 1) ∧ Q (some (vI (nI 0))) σ)) ∧ (¬ (¬ (σ.2.2 10064 o0 x2.toNatClampNeg) = 0) → (((nI 1) = 0 ∨ (nI 1) = 1) ∧ Q (some (vI (nI 1))) σ))))) :
  T207 C Q 27 [vO 10 o0, vI x1, vI x2, vI x3, vI x4, vI x5] [] σ := j2_T.go hC [0, 24, 26, 27, 36, 51, 53, 61, 68, 73, 77, 113, 117, 121, 136, 140, 144, 154, 158, 175, 179, 190, 194, 208, 220, 224, 239, 243, 265, 271] 400 h
set_option maxRecDepth 100000 in
theorem b207_36 {C : j2_C} (hC : j2_up1 C) {Q : j2_P} {o0 : Nat} {x1 : Int32} {x2 : Int32} {x3 : Int32} {x4 : Int32} {x5 : Int32} {σ : j2_S}
  (h : ((¬ x4 = (nI 11) → (((nI 0) = 0 ∨ (nI 0) = 1) ∧ Q (some (vI (nI 0))) σ)) ∧ (¬ (¬ x4 = (nI 11)) → (vp_in x3 28800 ∧ ((¬ (σ.2.2 10028 o0 x3.toNatClampNeg) = (x2 + (nI 1)) → (((nI 0) = 0 ∨ (nI 0) = 1) ∧ Q (some (vI (nI 0))) σ)) ∧ (¬ (¬ (σ.2.2 10028 o0 x3.toNatClampNeg) = (x2 + (nI 1))) → (((nI 1) = 0 ∨ (nI 1) = 1) ∧ Q (some (vI (nI 1))) σ))))))) :
  T207 C Q 36 [vO 10 o0, vI x1, vI x2, vI x3, vI x4, vI x5] [] σ := j2_T.go hC [0, 24, 26, 27, 36, 51, 53, 61, 68, 73, 77, 113, 117, 121, 136, 140, 144, 154, 158, 175, 179, 190, 194, 208, 220, 224, 239, 243, 265, 271] 400 h
set_option maxRecDepth 100000 in
theorem b207_51 {C : j2_C} (hC : j2_up1 C) {Q : j2_P} {o0 : Nat} {x1 : Int32} {x2 : Int32} {x3 : Int32} {x4 : Int32} {x5 : Int32} {σ : j2_S}
  (h : C 164 [vI x4] σ (fun r σ1 => T207 C Q 53 [vO 10 o0, vI x1, vI x2, vI x3, vI x4, vI x5] (r.toList ++ []) σ1)) :
  T207 C Q 51 [vO 10 o0, vI x1, vI x2, vI x3, vI x4, vI x5] [] σ := j2_T.go hC [0, 24, 26, 27, 36, 51, 53, 61, 68, 73, 77, 113, 117, 121, 136, 140, 144, 154, 158, 175, 179, 190, 194, 208, 220, 224, 239, 243, 265, 271] 400 h
set_option maxRecDepth 100000 in
theorem b207_53 {C : j2_C} (hC : j2_up1 C) {Q : j2_P} {o0 : Nat} {x1 : Int32} {x2 : Int32} {x3 : Int32} {x4 : Int32} {x5 : Int32} {xs0 : Int32} {σ : j2_S}
  (h : ((xs0 = 0 → (((nI 0) = 0 ∨ (nI 0) = 1) ∧ Q (some (vI (nI 0))) σ)) ∧ (¬ (xs0 = 0) → (vp_in x3 28800 ∧ C 205 [vO 10 o0, vI (σ.2.2 10028 o0 x3.toNatClampNeg), vI (nI 11)] σ (fun r σ1 => T207 C Q 61 [vO 10 o0, vI x1, vI x2, vI x3, vI x4, vI x5] (r.toList ++ []) σ1))))) :
  T207 C Q 53 [vO 10 o0, vI x1, vI x2, vI x3, vI x4, vI x5] [vI xs0] σ := j2_T.go hC [0, 24, 26, 27, 36, 51, 53, 61, 68, 73, 77, 113, 117, 121, 136, 140, 144, 154, 158, 175, 179, 190, 194, 208, 220, 224, 239, 243, 265, 271] 400 h
set_option maxRecDepth 100000 in
theorem b207_61 {C : j2_C} (hC : j2_up1 C) {Q : j2_P} {o0 : Nat} {x1 : Int32} {x2 : Int32} {x3 : Int32} {x4 : Int32} {x5 : Int32} {xs0 : Int32} {σ : j2_S}
  (h : ((xs0 = 0 → (((nI 0) = 0 ∨ (nI 0) = 1) ∧ Q (some (vI (nI 0))) σ)) ∧ (¬ (xs0 = 0) → (vp_in x3 28800 ∧ C 206 [vO 10 o0, vI (σ.2.2 10028 o0 x3.toNatClampNeg)] σ (fun r σ1 => T207 C Q 68 [vO 10 o0, vI x1, vI x2, vI x3, vI x4, vI x5] (r.toList ++ []) σ1))))) :
  T207 C Q 61 [vO 10 o0, vI x1, vI x2, vI x3, vI x4, vI x5] [vI xs0] σ := j2_T.go hC [0, 24, 26, 27, 36, 51, 53, 61, 68, 73, 77, 113, 117, 121, 136, 140, 144, 154, 158, 175, 179, 190, 194, 208, 220, 224, 239, 243, 265, 271] 400 h
set_option maxRecDepth 100000 in
theorem b207_68 {C : j2_C} (hC : j2_up1 C) {Q : j2_P} {o0 : Nat} {x1 : Int32} {x2 : Int32} {x3 : Int32} {x4 : Int32} {x5 : Int32} {xs0 : Int32} {σ : j2_S}
  (h : ((xs0 < 0 → (((nI 0) = 0 ∨ (nI 0) = 1) ∧ Q (some (vI (nI 0))) σ)) ∧ (¬ (xs0 < 0) → (((nI 1) = 0 ∨ (nI 1) = 1) ∧ Q (some (vI (nI 1))) σ)))) :
  T207 C Q 68 [vO 10 o0, vI x1, vI x2, vI x3, vI x4, vI x5] [vI xs0] σ := j2_T.go hC [0, 24, 26, 27, 36, 51, 53, 61, 68, 73, 77, 113, 117, 121, 136, 140, 144, 154, 158, 175, 179, 190, 194, 208, 220, 224, 239, 243, 265, 271] 400 h
set_option maxRecDepth 100000 in
theorem b207_73 {C : j2_C} (hC : j2_up1 C) {Q : j2_P} {o0 : Nat} {x1 : Int32} {x2 : Int32} {x3 : Int32} {x4 : Int32} {x5 : Int32} {σ : j2_S}
  (h : C 204 [vO 10 o0, vI x2, vI (nI 3)] σ (fun r σ1 => T207 C Q 77 [vO 10 o0, vI x1, vI x2, vI x3, vI x4, vI x5] (r.toList ++ []) σ1)) :
  T207 C Q 73 [vO 10 o0, vI x1, vI x2, vI x3, vI x4, vI x5] [] σ := j2_T.go hC [0, 24, 26, 27, 36, 51, 53, 61, 68, 73, 77, 113, 117, 121, 136, 140, 144, 154, 158, 175, 179, 190, 194, 208, 220, 224, 239, 243, 265, 271] 400 h
set_option maxRecDepth 100000 in
theorem b207_77 {C : j2_C} (hC : j2_up1 C) {Q : j2_P} {o0 : Nat} {x1 : Int32} {x2 : Int32} {x3 : Int32} {x4 : Int32} {x5 : Int32} {xs0 : Int32} {σ : j2_S}
  (h : ((xs0 = 0 → (((nI 0) = 0 ∨ (nI 0) = 1) ∧ Q (some (vI (nI 0))) σ)) ∧ (¬ (xs0 = 0) → ((¬ x4 = 0 → (((nI 0) = 0 ∨ (nI 0) = 1) ∧ Q (some (vI (nI 0))) σ)) ∧ (¬ (¬ x4 = 0) → ((¬ x5 = 0 → (((nI 0) = 0 ∨ (nI 0) = 1) ∧ Q (some (vI (nI 0))) σ)) ∧ (¬ (¬ x5 = 0) → (vp_in (x3 + (nI 2)) 28800 ∧ (((σ.2.2 10027 o0 (x3 + (nI 2)).toNatClampNeg) < (nI 6) → (((nI 0) = 0 ∨ (nI 0) = 1) ∧ Q (some (vI (nI 0))) σ)) ∧ (¬ ((σ.2.2 10027 o0 (x3 + (nI 2)).toNatClampNeg) < (nI 6)) → (vp_in (x3 + (nI 2)) 28800 ∧ (((nI 10) < (σ.2.2 10027 o0 (x3 + (nI 2)).toNatClampNeg) → (((nI 0) = 0 ∨ (nI 0) = 1) ∧ Q (some (vI (nI 0))) σ)) ∧ (¬ ((nI 10) < (σ.2.2 10027 o0 (x3 + (nI 2)).toNatClampNeg)) → (vp_in (x3 + (nI 2)) 28800 ∧ (((σ.2.2 10027 o0 (x3 + (nI 2)).toNatClampNeg) < (nI 9) → T207 C Q 113 [vO 10 o0, vI x1, vI x2, vI x3, vI x4, vI x5] [] σ) ∧ (¬ ((σ.2.2 10027 o0 (x3 + (nI 2)).toNatClampNeg) < (nI 9)) → (vp_in (x3 + (nI 1)) 28800 ∧ (((σ.2.2 10028 o0 (x3 + (nI 1)).toNatClampNeg) = 0 → (((nI 0) = 0 ∨ (nI 0) = 1) ∧ Q (some (vI (nI 0))) σ)) ∧ (¬ ((σ.2.2 10028 o0 (x3 + (nI 1)).toNatClampNeg) = 0) → T207 C Q 113 [vO 10 o0, vI x1, vI x2, vI x3, vI x4, vI x5] [] σ))))))))))))))))))) :
  T207 C Q 77 [vO 10 o0, vI x1, vI x2, vI x3, vI x4, vI x5] [vI xs0] σ := j2_T.go hC [0, 24, 26, 27, 36, 51, 53, 61, 68, 73, 77, 113, 117, 121, 136, 140, 144, 154, 158, 175, 179, 190, 194, 208, 220, 224, 239, 243, 265, 271] 400 h
set_option maxRecDepth 100000 in
theorem b207_113 {C : j2_C} (hC : j2_up1 C) {Q : j2_P} {o0 : Nat} {x1 : Int32} {x2 : Int32} {x3 : Int32} {x4 : Int32} {x5 : Int32} {σ : j2_S}
  (h : (((nI 1) = 0 ∨ (nI 1) = 1) ∧ Q (some (vI (nI 1))) σ)) :
  T207 C Q 113 [vO 10 o0, vI x1, vI x2, vI x3, vI x4, vI x5] [] σ := j2_T.go hC [0, 24, 26, 27, 36, 51, 53, 61, 68, 73, 77, 113, 117, 121, 136, 140, 144, 154, 158, 175, 179, 190, 194, 208, 220, 224, 239, 243, 265, 271] 400 h
set_option maxRecDepth 100000 in
theorem b207_117 {C : j2_C} (hC : j2_up1 C) {Q : j2_P} {o0 : Nat} {x1 : Int32} {x2 : Int32} {x3 : Int32} {x4 : Int32} {x5 : Int32} {σ : j2_S}
  (h : C 204 [vO 10 o0, vI x2, vI (nI 2)] σ (fun r σ1 => T207 C Q 121 [vO 10 o0, vI x1, vI x2, vI x3, vI x4, vI x5] (r.toList ++ []) σ1)) :
  T207 C Q 117 [vO 10 o0, vI x1, vI x2, vI x3, vI x4, vI x5] [] σ := j2_T.go hC [0, 24, 26, 27, 36, 51, 53, 61, 68, 73, 77, 113, 117, 121, 136, 140, 144, 154, 158, 175, 179, 190, 194, 208, 220, 224, 239, 243, 265, 271] 400 h
set_option maxRecDepth 100000 in
theorem b207_121 {C : j2_C} (hC : j2_up1 C) {Q : j2_P} {o0 : Nat} {x1 : Int32} {x2 : Int32} {x3 : Int32} {x4 : Int32} {x5 : Int32} {xs0 : Int32} {σ : j2_S}
  (h : ((xs0 = 0 → (((nI 0) = 0 ∨ (nI 0) = 1) ∧ Q (some (vI (nI 0))) σ)) ∧ (¬ (xs0 = 0) → ((¬ x5 = (nI 4) → (((nI 0) = 0 ∨ (nI 0) = 1) ∧ Q (some (vI (nI 0))) σ)) ∧ (¬ (¬ x5 = (nI 4)) → ((x4 = 0 → T207 C Q 136 [vO 10 o0, vI x1, vI x2, vI x3, vI x4, vI x5] [] σ) ∧ (¬ (x4 = 0) → ((x4 = (nI 1) → T207 C Q 136 [vO 10 o0, vI x1, vI x2, vI x3, vI x4, vI x5] [] σ) ∧ (¬ (x4 = (nI 1)) → ((x4 = (nI 2) → T207 C Q 136 [vO 10 o0, vI x1, vI x2, vI x3, vI x4, vI x5] [] σ) ∧ (¬ (x4 = (nI 2)) → ((¬ x4 = (nI 5) → (((nI 0) = 0 ∨ (nI 0) = 1) ∧ Q (some (vI (nI 0))) σ)) ∧ (¬ (¬ x4 = (nI 5)) → T207 C Q 136 [vO 10 o0, vI x1, vI x2, vI x3, vI x4, vI x5] [] σ))))))))))))) :
  T207 C Q 121 [vO 10 o0, vI x1, vI x2, vI x3, vI x4, vI x5] [vI xs0] σ := j2_T.go hC [0, 24, 26, 27, 36, 51, 53, 61, 68, 73, 77, 113, 117, 121, 136, 140, 144, 154, 158, 175, 179, 190, 194, 208, 220, 224, 239, 243, 265, 271] 400 h
set_option maxRecDepth 100000 in
theorem b207_136 {C : j2_C} (hC : j2_up1 C) {Q : j2_P} {o0 : Nat} {x1 : Int32} {x2 : Int32} {x3 : Int32} {x4 : Int32} {x5 : Int32} {σ : j2_S}
  (h : (((nI 1) = 0 ∨ (nI 1) = 1) ∧ Q (some (vI (nI 1))) σ)) :
  T207 C Q 136 [vO 10 o0, vI x1, vI x2, vI x3, vI x4, vI x5] [] σ := j2_T.go hC [0, 24, 26, 27, 36, 51, 53, 61, 68, 73, 77, 113, 117, 121, 136, 140, 144, 154, 158, 175, 179, 190, 194, 208, 220, 224, 239, 243, 265, 271] 400 h
set_option maxRecDepth 100000 in
theorem b207_140 {C : j2_C} (hC : j2_up1 C) {Q : j2_P} {o0 : Nat} {x1 : Int32} {x2 : Int32} {x3 : Int32} {x4 : Int32} {x5 : Int32} {σ : j2_S}
  (h : C 204 [vO 10 o0, vI x2, vI (nI 2)] σ (fun r σ1 => T207 C Q 144 [vO 10 o0, vI x1, vI x2, vI x3, vI x4, vI x5] (r.toList ++ []) σ1)) :
  T207 C Q 140 [vO 10 o0, vI x1, vI x2, vI x3, vI x4, vI x5] [] σ := j2_T.go hC [0, 24, 26, 27, 36, 51, 53, 61, 68, 73, 77, 113, 117, 121, 136, 140, 144, 154, 158, 175, 179, 190, 194, 208, 220, 224, 239, 243, 265, 271] 400 h
set_option maxRecDepth 100000 in
theorem b207_144 {C : j2_C} (hC : j2_up1 C) {Q : j2_P} {o0 : Nat} {x1 : Int32} {x2 : Int32} {x3 : Int32} {x4 : Int32} {x5 : Int32} {xs0 : Int32} {σ : j2_S}
  (h : ((xs0 = 0 → (((nI 0) = 0 ∨ (nI 0) = 1) ∧ Q (some (vI (nI 0))) σ)) ∧ (¬ (xs0 = 0) → ((¬ x4 = 0 → (((nI 0) = 0 ∨ (nI 0) = 1) ∧ Q (some (vI (nI 0))) σ)) ∧ (¬ (¬ x4 = 0) → ((¬ x5 = (nI 12) → (((nI 0) = 0 ∨ (nI 0) = 1) ∧ Q (some (vI (nI 0))) σ)) ∧ (¬ (¬ x5 = (nI 12)) → (((nI 1) = 0 ∨ (nI 1) = 1) ∧ Q (some (vI (nI 1))) σ)))))))) :
  T207 C Q 144 [vO 10 o0, vI x1, vI x2, vI x3, vI x4, vI x5] [vI xs0] σ := j2_T.go hC [0, 24, 26, 27, 36, 51, 53, 61, 68, 73, 77, 113, 117, 121, 136, 140, 144, 154, 158, 175, 179, 190, 194, 208, 220, 224, 239, 243, 265, 271] 400 h
set_option maxRecDepth 100000 in
theorem b207_154 {C : j2_C} (hC : j2_up1 C) {Q : j2_P} {o0 : Nat} {x1 : Int32} {x2 : Int32} {x3 : Int32} {x4 : Int32} {x5 : Int32} {σ : j2_S}
  (h : C 204 [vO 10 o0, vI x2, vI (nI 3)] σ (fun r σ1 => T207 C Q 158 [vO 10 o0, vI x1, vI x2, vI x3, vI x4, vI x5] (r.toList ++ []) σ1)) :
  T207 C Q 154 [vO 10 o0, vI x1, vI x2, vI x3, vI x4, vI x5] [] σ := j2_T.go hC [0, 24, 26, 27, 36, 51, 53, 61, 68, 73, 77, 113, 117, 121, 136, 140, 144, 154, 158, 175, 179, 190, 194, 208, 220, 224, 239, 243, 265, 271] 400 h
set_option maxRecDepth 100000 in
theorem b207_158 {C : j2_C} (hC : j2_up1 C) {Q : j2_P} {o0 : Nat} {x1 : Int32} {x2 : Int32} {x3 : Int32} {x4 : Int32} {x5 : Int32} {xs0 : Int32} {σ : j2_S}
  (h : ((xs0 = 0 → (((nI 0) = 0 ∨ (nI 0) = 1) ∧ Q (some (vI (nI 0))) σ)) ∧ (¬ (xs0 = 0) → ((¬ x4 = 0 → (((nI 0) = 0 ∨ (nI 0) = 1) ∧ Q (some (vI (nI 0))) σ)) ∧ (¬ (¬ x4 = 0) → ((¬ x5 = 0 → (((nI 0) = 0 ∨ (nI 0) = 1) ∧ Q (some (vI (nI 0))) σ)) ∧ (¬ (¬ x5 = 0) → (vp_in (x3 + (nI 2)) 28800 ∧ ((¬ (σ.2.2 10027 o0 (x3 + (nI 2)).toNatClampNeg) = (nI 13) → (((nI 0) = 0 ∨ (nI 0) = 1) ∧ Q (some (vI (nI 0))) σ)) ∧ (¬ (¬ (σ.2.2 10027 o0 (x3 + (nI 2)).toNatClampNeg) = (nI 13)) → (((nI 1) = 0 ∨ (nI 1) = 1) ∧ Q (some (vI (nI 1))) σ))))))))))) :
  T207 C Q 158 [vO 10 o0, vI x1, vI x2, vI x3, vI x4, vI x5] [vI xs0] σ := j2_T.go hC [0, 24, 26, 27, 36, 51, 53, 61, 68, 73, 77, 113, 117, 121, 136, 140, 144, 154, 158, 175, 179, 190, 194, 208, 220, 224, 239, 243, 265, 271] 400 h
set_option maxRecDepth 100000 in
theorem b207_175 {C : j2_C} (hC : j2_up1 C) {Q : j2_P} {o0 : Nat} {x1 : Int32} {x2 : Int32} {x3 : Int32} {x4 : Int32} {x5 : Int32} {σ : j2_S}
  (h : C 204 [vO 10 o0, vI x2, vI (nI 2)] σ (fun r σ1 => T207 C Q 179 [vO 10 o0, vI x1, vI x2, vI x3, vI x4, vI x5] (r.toList ++ []) σ1)) :
  T207 C Q 175 [vO 10 o0, vI x1, vI x2, vI x3, vI x4, vI x5] [] σ := j2_T.go hC [0, 24, 26, 27, 36, 51, 53, 61, 68, 73, 77, 113, 117, 121, 136, 140, 144, 154, 158, 175, 179, 190, 194, 208, 220, 224, 239, 243, 265, 271] 400 h
set_option maxRecDepth 100000 in
theorem b207_179 {C : j2_C} (hC : j2_up1 C) {Q : j2_P} {o0 : Nat} {x1 : Int32} {x2 : Int32} {x3 : Int32} {x4 : Int32} {x5 : Int32} {xs0 : Int32} {σ : j2_S}
  (h : ((xs0 = 0 → (((nI 0) = 0 ∨ (nI 0) = 1) ∧ Q (some (vI (nI 0))) σ)) ∧ (¬ (xs0 = 0) → ((¬ x4 = (nI 1) → (((nI 0) = 0 ∨ (nI 0) = 1) ∧ Q (some (vI (nI 0))) σ)) ∧ (¬ (¬ x4 = (nI 1)) → ((¬ x5 = (nI 14) → (((nI 0) = 0 ∨ (nI 0) = 1) ∧ Q (some (vI (nI 0))) σ)) ∧ (¬ (¬ x5 = (nI 14)) → (((nI 1) = 0 ∨ (nI 1) = 1) ∧ Q (some (vI (nI 1))) σ)))))))) :
  T207 C Q 179 [vO 10 o0, vI x1, vI x2, vI x3, vI x4, vI x5] [vI xs0] σ := j2_T.go hC [0, 24, 26, 27, 36, 51, 53, 61, 68, 73, 77, 113, 117, 121, 136, 140, 144, 154, 158, 175, 179, 190, 194, 208, 220, 224, 239, 243, 265, 271] 400 h
set_option maxRecDepth 100000 in
theorem b207_190 {C : j2_C} (hC : j2_up1 C) {Q : j2_P} {o0 : Nat} {x1 : Int32} {x2 : Int32} {x3 : Int32} {x4 : Int32} {x5 : Int32} {σ : j2_S}
  (h : C 204 [vO 10 o0, vI x2, vI (nI 2)] σ (fun r σ1 => T207 C Q 194 [vO 10 o0, vI x1, vI x2, vI x3, vI x4, vI x5] (r.toList ++ []) σ1)) :
  T207 C Q 190 [vO 10 o0, vI x1, vI x2, vI x3, vI x4, vI x5] [] σ := j2_T.go hC [0, 24, 26, 27, 36, 51, 53, 61, 68, 73, 77, 113, 117, 121, 136, 140, 144, 154, 158, 175, 179, 190, 194, 208, 220, 224, 239, 243, 265, 271] 400 h
set_option maxRecDepth 100000 in
theorem b207_194 {C : j2_C} (hC : j2_up1 C) {Q : j2_P} {o0 : Nat} {x1 : Int32} {x2 : Int32} {x3 : Int32} {x4 : Int32} {x5 : Int32} {xs0 : Int32} {σ : j2_S}
  (h : ((xs0 = 0 → (((nI 0) = 0 ∨ (nI 0) = 1) ∧ Q (some (vI (nI 0))) σ)) ∧ (¬ (xs0 = 0) → ((¬ x4 = 0 → (((nI 0) = 0 ∨ (nI 0) = 1) ∧ Q (some (vI (nI 0))) σ)) ∧ (¬ (¬ x4 = 0) → (vp_in x3 28800 ∧ ((¬ (σ.2.2 10028 o0 x3.toNatClampNeg) = 0 → T207 C Q 208 [vO 10 o0, vI x1, vI x2, vI x3, vI x4, vI x5] [] σ) ∧ (¬ (¬ (σ.2.2 10028 o0 x3.toNatClampNeg) = 0) → ((x5 = (nI 6) → T207 C Q 220 [vO 10 o0, vI x1, vI x2, vI x3, vI x4, vI x5] [] σ) ∧ (¬ (x5 = (nI 6)) → ((x5 = (nI 7) → T207 C Q 220 [vO 10 o0, vI x1, vI x2, vI x3, vI x4, vI x5] [] σ) ∧ (¬ (x5 = (nI 7)) → T207 C Q 208 [vO 10 o0, vI x1, vI x2, vI x3, vI x4, vI x5] [] σ)))))))))))) :
  T207 C Q 194 [vO 10 o0, vI x1, vI x2, vI x3, vI x4, vI x5] [vI xs0] σ := j2_T.go hC [0, 24, 26, 27, 36, 51, 53, 61, 68, 73, 77, 113, 117, 121, 136, 140, 144, 154, 158, 175, 179, 190, 194, 208, 220, 224, 239, 243, 265, 271] 400 h
set_option maxRecDepth 100000 in
theorem b207_208 {C : j2_C} (hC : j2_up1 C) {Q : j2_P} {o0 : Nat} {x1 : Int32} {x2 : Int32} {x3 : Int32} {x4 : Int32} {x5 : Int32} {σ : j2_S}
  (h : (vp_in x3 28800 ∧ ((¬ (σ.2.2 10028 o0 x3.toNatClampNeg) = (nI 1) → (((nI 0) = 0 ∨ (nI 0) = 1) ∧ Q (some (vI (nI 0))) σ)) ∧ (¬ (¬ (σ.2.2 10028 o0 x3.toNatClampNeg) = (nI 1)) → ((x5 = (nI 8) → T207 C Q 220 [vO 10 o0, vI x1, vI x2, vI x3, vI x4, vI x5] [] σ) ∧ (¬ (x5 = (nI 8)) → ((¬ x5 = (nI 9) → (((nI 0) = 0 ∨ (nI 0) = 1) ∧ Q (some (vI (nI 0))) σ)) ∧ (¬ (¬ x5 = (nI 9)) → T207 C Q 220 [vO 10 o0, vI x1, vI x2, vI x3, vI x4, vI x5] [] σ)))))))) :
  T207 C Q 208 [vO 10 o0, vI x1, vI x2, vI x3, vI x4, vI x5] [] σ := j2_T.go hC [0, 24, 26, 27, 36, 51, 53, 61, 68, 73, 77, 113, 117, 121, 136, 140, 144, 154, 158, 175, 179, 190, 194, 208, 220, 224, 239, 243, 265, 271] 400 h
set_option maxRecDepth 100000 in
theorem b207_220 {C : j2_C} (hC : j2_up1 C) {Q : j2_P} {o0 : Nat} {x1 : Int32} {x2 : Int32} {x3 : Int32} {x4 : Int32} {x5 : Int32} {σ : j2_S}
  (h : (((nI 1) = 0 ∨ (nI 1) = 1) ∧ Q (some (vI (nI 1))) σ)) :
  T207 C Q 220 [vO 10 o0, vI x1, vI x2, vI x3, vI x4, vI x5] [] σ := j2_T.go hC [0, 24, 26, 27, 36, 51, 53, 61, 68, 73, 77, 113, 117, 121, 136, 140, 144, 154, 158, 175, 179, 190, 194, 208, 220, 224, 239, 243, 265, 271] 400 h
set_option maxRecDepth 100000 in
theorem b207_224 {C : j2_C} (hC : j2_up1 C) {Q : j2_P} {o0 : Nat} {x1 : Int32} {x2 : Int32} {x3 : Int32} {x4 : Int32} {x5 : Int32} {σ : j2_S}
  (h : ((¬ x4 = (nI 3) → (((nI 0) = 0 ∨ (nI 0) = 1) ∧ Q (some (vI (nI 0))) σ)) ∧ (¬ (¬ x4 = (nI 3)) → (vp_in x3 28800 ∧ (vp_in (σ.2.2 10028 o0 x3.toNatClampNeg) 20 ∧ ((¬ (σ.2.2 10066 o0 (σ.2.2 10028 o0 x3.toNatClampNeg).toNatClampNeg) = 0 → (((nI 0) = 0 ∨ (nI 0) = 1) ∧ Q (some (vI (nI 0))) σ)) ∧ (¬ (¬ (σ.2.2 10066 o0 (σ.2.2 10028 o0 x3.toNatClampNeg).toNatClampNeg) = 0) → (((nI 1) = 0 ∨ (nI 1) = 1) ∧ Q (some (vI (nI 1))) σ)))))))) :
  T207 C Q 224 [vO 10 o0, vI x1, vI x2, vI x3, vI x4, vI x5] [] σ := j2_T.go hC [0, 24, 26, 27, 36, 51, 53, 61, 68, 73, 77, 113, 117, 121, 136, 140, 144, 154, 158, 175, 179, 190, 194, 208, 220, 224, 239, 243, 265, 271] 400 h
set_option maxRecDepth 100000 in
theorem b207_239 {C : j2_C} (hC : j2_up1 C) {Q : j2_P} {o0 : Nat} {x1 : Int32} {x2 : Int32} {x3 : Int32} {x4 : Int32} {x5 : Int32} {σ : j2_S}
  (h : C 204 [vO 10 o0, vI x2, vI (nI 2)] σ (fun r σ1 => T207 C Q 243 [vO 10 o0, vI x1, vI x2, vI x3, vI x4, vI x5] (r.toList ++ []) σ1)) :
  T207 C Q 239 [vO 10 o0, vI x1, vI x2, vI x3, vI x4, vI x5] [] σ := j2_T.go hC [0, 24, 26, 27, 36, 51, 53, 61, 68, 73, 77, 113, 117, 121, 136, 140, 144, 154, 158, 175, 179, 190, 194, 208, 220, 224, 239, 243, 265, 271] 400 h
set_option maxRecDepth 100000 in
theorem b207_243 {C : j2_C} (hC : j2_up1 C) {Q : j2_P} {o0 : Nat} {x1 : Int32} {x2 : Int32} {x3 : Int32} {x4 : Int32} {x5 : Int32} {xs0 : Int32} {σ : j2_S}
  (h : ((xs0 = 0 → (((nI 0) = 0 ∨ (nI 0) = 1) ∧ Q (some (vI (nI 0))) σ)) ∧ (¬ (xs0 = 0) → ((¬ x4 = (nI 2) → (((nI 0) = 0 ∨ (nI 0) = 1) ∧ Q (some (vI (nI 0))) σ)) ∧ (¬ (¬ x4 = (nI 2)) → ((¬ x5 = (nI 3) → (((nI 0) = 0 ∨ (nI 0) = 1) ∧ Q (some (vI (nI 0))) σ)) ∧ (¬ (¬ x5 = (nI 3)) → (vp_in x3 28800 ∧ (vp_in (x3 + (nI 1)) 28800 ∧ ((¬ (σ.2.2 10028 o0 x3.toNatClampNeg) = (σ.2.2 10028 o0 (x3 + (nI 1)).toNatClampNeg) → (((nI 0) = 0 ∨ (nI 0) = 1) ∧ Q (some (vI (nI 0))) σ)) ∧ (¬ (¬ (σ.2.2 10028 o0 x3.toNatClampNeg) = (σ.2.2 10028 o0 (x3 + (nI 1)).toNatClampNeg)) → (((nI 1) = 0 ∨ (nI 1) = 1) ∧ Q (some (vI (nI 1))) σ)))))))))))) :
  T207 C Q 243 [vO 10 o0, vI x1, vI x2, vI x3, vI x4, vI x5] [vI xs0] σ := j2_T.go hC [0, 24, 26, 27, 36, 51, 53, 61, 68, 73, 77, 113, 117, 121, 136, 140, 144, 154, 158, 175, 179, 190, 194, 208, 220, 224, 239, 243, 265, 271] 400 h
set_option maxRecDepth 100000 in
theorem b207_265 {C : j2_C} (hC : j2_up1 C) {Q : j2_P} {o0 : Nat} {x1 : Int32} {x2 : Int32} {x3 : Int32} {x4 : Int32} {x5 : Int32} {σ : j2_S}
  (h : ((x4 = (nI 12) → T207 C Q 271 [vO 10 o0, vI x1, vI x2, vI x3, vI x4, vI x5] [] σ) ∧ (¬ (x4 = (nI 12)) → ((¬ x4 = (nI 14) → (((nI 0) = 0 ∨ (nI 0) = 1) ∧ Q (some (vI (nI 0))) σ)) ∧ (¬ (¬ x4 = (nI 14)) → T207 C Q 271 [vO 10 o0, vI x1, vI x2, vI x3, vI x4, vI x5] [] σ))))) :
  T207 C Q 265 [vO 10 o0, vI x1, vI x2, vI x3, vI x4, vI x5] [] σ := j2_T.go hC [0, 24, 26, 27, 36, 51, 53, 61, 68, 73, 77, 113, 117, 121, 136, 140, 144, 154, 158, 175, 179, 190, 194, 208, 220, 224, 239, 243, 265, 271] 400 h
set_option maxRecDepth 100000 in
theorem b207_271 {C : j2_C} (hC : j2_up1 C) {Q : j2_P} {o0 : Nat} {x1 : Int32} {x2 : Int32} {x3 : Int32} {x4 : Int32} {x5 : Int32} {σ : j2_S}
  (h : (vp_in x3 28800 ∧ ((¬ (σ.2.2 10028 o0 x3.toNatClampNeg) = (x2 + (nI 1)) → (((nI 0) = 0 ∨ (nI 0) = 1) ∧ Q (some (vI (nI 0))) σ)) ∧ (¬ (¬ (σ.2.2 10028 o0 x3.toNatClampNeg) = (x2 + (nI 1))) → (((nI 1) = 0 ∨ (nI 1) = 1) ∧ Q (some (vI (nI 1))) σ))))) :
  T207 C Q 271 [vO 10 o0, vI x1, vI x2, vI x3, vI x4, vI x5] [] σ := j2_T.go hC [0, 24, 26, 27, 36, 51, 53, 61, 68, 73, 77, 113, 117, 121, 136, 140, 144, 154, 158, 175, 179, 190, 194, 208, 220, 224, 239, 243, 265, 271] 400 h
abbrev T208 (C : j2_C) (Q : j2_P) : j2_K := j2_T C jc_X10_cut none Q
set_option maxRecDepth 100000 in
theorem b208_0 {C : j2_C} (hC : j2_up1 C) {Q : j2_P} {o0 : Nat} {x1 : Int32} {x2 : Int32} {σ : j2_S}
  (h : T208 C Q 2 [vO 10 o0, vI x1, vI x2, vI x1, vM 2] [] σ) :
  T208 C Q 0 [vO 10 o0, vI x1, vI x2, vM 2, vM 2] [] σ := j2_T.go hC [0, 2, 20, 30, 42, 73, 74] 400 h
set_option maxRecDepth 100000 in
theorem b208_2 {C : j2_C} (hC : j2_up1 C) {Q : j2_P} {o0 : Nat} {x1 : Int32} {x2 : Int32} {x3 : Int32} {σ : j2_S}
  (h : (((σ.1 10063 o0) ≤ (x3 + x2) → T208 C Q 30 [vO 10 o0, vI x1, vI x2, vI (nI 0), vM 2] [] ((j2_up σ.1 10063 o0 ((σ.1 10063 o0) - x2)), σ.2.1, σ.2.2)) ∧ (¬ ((σ.1 10063 o0) ≤ (x3 + x2)) → C 182 [vO 10 o0, vI (((σ.1 10062 o0) + x3) + x2), vI ((σ.1 10062 o0) + x3)] σ (fun r σ1 => T208 C Q 20 [vO 10 o0, vI x1, vI x2, vI x3, vM 2] (r.toList ++ []) σ1)))) :
  T208 C Q 2 [vO 10 o0, vI x1, vI x2, vI x3, vM 2] [] σ := j2_T.go hC [0, 2, 20, 30, 42, 73, 74] 400 h
set_option maxRecDepth 100000 in
theorem b208_20 {C : j2_C} (hC : j2_up1 C) {Q : j2_P} {o0 : Nat} {x1 : Int32} {x2 : Int32} {x3 : Int32} {σ : j2_S}
  (h : T208 C Q 2 [vO 10 o0, vI x1, vI x2, vI (x3 + (nI 1)), vM 2] [] σ) :
  T208 C Q 20 [vO 10 o0, vI x1, vI x2, vI x3, vM 2] [] σ := j2_T.go hC [0, 2, 20, 30, 42, 73, 74] 400 h
set_option maxRecDepth 100000 in
theorem b208_30 {C : j2_C} (hC : j2_up1 C) {Q : j2_P} {o0 : Nat} {x1 : Int32} {x2 : Int32} {x3 : Int32} {w4 : j2_W} {σ : j2_S}
  (h : (((σ.1 10063 o0) ≤ x3 → ((none : Option FieldType) = none ∧ Q none σ)) ∧ (¬ ((σ.1 10063 o0) ≤ x3) → (vp_in ((σ.1 10062 o0) + x3) 28800 ∧ C 164 [vI (σ.2.2 10027 o0 ((σ.1 10062 o0) + x3).toNatClampNeg)] σ (fun r σ1 => T208 C Q 42 [vO 10 o0, vI x1, vI x2, vI x3, w4] (r.toList ++ []) σ1))))) :
  T208 C Q 30 [vO 10 o0, vI x1, vI x2, vI x3, w4] [] σ := j2_T.go hC [0, 2, 20, 30, 42, 73, 74] 400 h
set_option maxRecDepth 100000 in
theorem b208_42 {C : j2_C} (hC : j2_up1 C) {Q : j2_P} {o0 : Nat} {x1 : Int32} {x2 : Int32} {x3 : Int32} {w4 : j2_W} {xs0 : Int32} {σ : j2_S}
  (h : ((¬ xs0 = 0 → (vp_in ((σ.1 10062 o0) + x3) 28800 ∧ (((σ.2.2 10028 o0 ((σ.1 10062 o0) + x3).toNatClampNeg) < (x1 + x2) → (((σ.2.2 10028 o0 ((σ.1 10062 o0) + x3).toNatClampNeg) ≤ x1 → T208 C Q 73 [vO 10 o0, vI x1, vI x2, vI x3, vI (σ.2.2 10028 o0 ((σ.1 10062 o0) + x3).toNatClampNeg)] [vI (σ.2.2 10028 o0 ((σ.1 10062 o0) + x3).toNatClampNeg), vI ((σ.1 10062 o0) + x3), vA 10028 o0] σ) ∧ (¬ ((σ.2.2 10028 o0 ((σ.1 10062 o0) + x3).toNatClampNeg) ≤ x1) → T208 C Q 73 [vO 10 o0, vI x1, vI x2, vI x3, vI (σ.2.2 10028 o0 ((σ.1 10062 o0) + x3).toNatClampNeg)] [vI x1, vI ((σ.1 10062 o0) + x3), vA 10028 o0] σ))) ∧ (¬ ((σ.2.2 10028 o0 ((σ.1 10062 o0) + x3).toNatClampNeg) < (x1 + x2)) → T208 C Q 73 [vO 10 o0, vI x1, vI x2, vI x3, vI (σ.2.2 10028 o0 ((σ.1 10062 o0) + x3).toNatClampNeg)] [vI ((σ.2.2 10028 o0 ((σ.1 10062 o0) + x3).toNatClampNeg) - x2), vI ((σ.1 10062 o0) + x3), vA 10028 o0] σ)))) ∧ (¬ (¬ xs0 = 0) → T208 C Q 74 [vO 10 o0, vI x1, vI x2, vI x3, w4] [] σ))) :
  T208 C Q 42 [vO 10 o0, vI x1, vI x2, vI x3, w4] [vI xs0] σ := j2_T.go hC [0, 2, 20, 30, 42, 73, 74] 400 h
set_option maxRecDepth 100000 in
theorem b208_73 {C : j2_C} (hC : j2_up1 C) {Q : j2_P} {o0 : Nat} {x1 : Int32} {x2 : Int32} {x3 : Int32} {x4 : Int32} {xs0 : Int32} {xs1 : Int32} {os2 : Nat} {σ : j2_S}
  (h : (vp_in xs1 28800 ∧ T208 C Q 74 [vO 10 o0, vI x1, vI x2, vI x3, vI x4] [] (σ.1, σ.2.1, (j2_ast σ.2.2 10028 os2 xs1.toNatClampNeg xs0)))) :
  T208 C Q 73 [vO 10 o0, vI x1, vI x2, vI x3, vI x4] [vI xs0, vI xs1, vA 10028 os2] σ := j2_T.go hC [0, 2, 20, 30, 42, 73, 74] 400 h
set_option maxRecDepth 100000 in
theorem b208_74 {C : j2_C} (hC : j2_up1 C) {Q : j2_P} {o0 : Nat} {x1 : Int32} {x2 : Int32} {x3 : Int32} {w4 : j2_W} {σ : j2_S}
  (h : T208 C Q 30 [vO 10 o0, vI x1, vI x2, vI (x3 + (nI 1)), w4] [] σ) :
  T208 C Q 74 [vO 10 o0, vI x1, vI x2, vI x3, w4] [] σ := j2_T.go hC [0, 2, 20, 30, 42, 73, 74] 400 h
abbrev T209 (C : j2_C) (Q : j2_P) : j2_K := j2_T C jc_X10_join none Q
set_option maxRecDepth 100000 in
theorem b209_0 {C : j2_C} (hC : j2_up1 C) {Q : j2_P} {o0 : Nat} {x1 : Int32} {x2 : Int32} {x3 : Int32} {x4 : Int32} {σ : j2_S}
  (h : (vp_in ((((σ.1 10062 o0) + x1) + x2) - (nI 1)) 28800 ∧ (vp_in ((((σ.1 10062 o0) + x1) + x2) - (nI 1)) 28800 ∧ (vp_in ((((σ.1 10062 o0) + x1) + x2) - (nI 1)) 28800 ∧ ((x2 ≤ (nI 1) → T209 C Q 33 [vO 10 o0, vI x1, vI x2, vI x3, vI x4, vI ((((σ.1 10062 o0) + x1) + x2) - (nI 1))] [] (σ.1, σ.2.1, (j2_ast (j2_ast (j2_ast σ.2.2 10027 o0 ((((σ.1 10062 o0) + x1) + x2) - (nI 1)).toNatClampNeg x3) 10028 o0 ((((σ.1 10062 o0) + x1) + x2) - (nI 1)).toNatClampNeg x4) 10029 o0 ((((σ.1 10062 o0) + x1) + x2) - (nI 1)).toNatClampNeg (nI 0)))) ∧ (¬ (x2 ≤ (nI 1)) → C 208 [vO 10 o0, vI x1, vI (x2 - (nI 1))] (σ.1, σ.2.1, (j2_ast (j2_ast (j2_ast σ.2.2 10027 o0 ((((σ.1 10062 o0) + x1) + x2) - (nI 1)).toNatClampNeg x3) 10028 o0 ((((σ.1 10062 o0) + x1) + x2) - (nI 1)).toNatClampNeg x4) 10029 o0 ((((σ.1 10062 o0) + x1) + x2) - (nI 1)).toNatClampNeg (nI 0))) (fun r σ1 => T209 C Q 33 [vO 10 o0, vI x1, vI x2, vI x3, vI x4, vI ((((σ.1 10062 o0) + x1) + x2) - (nI 1))] (r.toList ++ []) σ1))))))) :
  T209 C Q 0 [vO 10 o0, vI x1, vI x2, vI x3, vI x4, vM 2] [] σ := j2_T.go hC [0, 33] 400 h
set_option maxRecDepth 100000 in
theorem b209_33 {C : j2_C} (hC : j2_up1 C) {Q : j2_P} {o0 : Nat} {x1 : Int32} {x2 : Int32} {x3 : Int32} {x4 : Int32} {x5 : Int32} {σ : j2_S}
  (h : ((none : Option FieldType) = none ∧ Q none σ)) :
  T209 C Q 33 [vO 10 o0, vI x1, vI x2, vI x3, vI x4, vI x5] [] σ := j2_T.go hC [0, 33] 400 h
abbrev T210 (C : j2_C) (Q : j2_P) : j2_K := j2_T C jc_X10_worked (some .int) Q
set_option maxRecDepth 100000 in
theorem b210_0 {C : j2_C} (hC : j2_up1 C) {Q : j2_P} {x0 : Int32} {x1 : Int32} {x2 : Int32} {σ : j2_S}
  (h : ((¬ x0 = (nI 6) → ((¬ x0 = (nI 7) → ((¬ x0 = (nI 8) → ((¬ x0 = (nI 9) → (¬ x2 = 0 ∧ (True ∧ Q (some (vI (x1 - x1 / x2 * x2))) σ))) ∧ (¬ (¬ x0 = (nI 9)) → (¬ x2 = 0 ∧ (True ∧ Q (some (vI (x1 / x2))) σ))))) ∧ (¬ (¬ x0 = (nI 8)) → (True ∧ Q (some (vI (x1 * x2))) σ)))) ∧ (¬ (¬ x0 = (nI 7)) → (True ∧ Q (some (vI (x1 - x2))) σ)))) ∧ (¬ (¬ x0 = (nI 6)) → (True ∧ Q (some (vI (x1 + x2))) σ)))) :
  T210 C Q 0 [vI x0, vI x1, vI x2] [] σ := j2_T.go hC [0] 400 h
abbrev T211 (C : j2_C) (Q : j2_P) : j2_K := j2_T C jc_X10_done none Q
set_option maxRecDepth 100000 in
theorem b211_0 {C : j2_C} (hC : j2_up1 C) {Q : j2_P} {o0 : Nat} {x1 : Int32} {x2 : Int32} {σ : j2_S}
  (h : T211 C Q 6 [vO 10 o0, vI x1, vI x2, vI ((σ.1 10062 o0) + x2)] [vI x1] σ) :
  T211 C Q 0 [vO 10 o0, vI x1, vI x2, vM 2] [] σ := j2_T.go hC [0, 6, 7, 11, 12, 21, 23, 44, 45, 46, 50, 51, 67, 72, 73, 95, 100, 101, 112, 113, 119] 400 h
set_option maxRecDepth 100000 in
theorem b211_6 {C : j2_C} (hC : j2_up1 C) {Q : j2_P} {o0 : Nat} {x1 : Int32} {x2 : Int32} {x3 : Int32} {xs0 : Int32} {σ : j2_S} (h0 : xs0 = (nI 1) → T211 C Q 7 [vO 10 o0, vI x1, vI x2, vI x3] [] σ) (h1 : xs0 = (nI 2) → T211 C Q 7 [vO 10 o0, vI x1, vI x2, vI x3] [] σ) (h2 : xs0 = (nI 3) → T211 C Q 12 [vO 10 o0, vI x1, vI x2, vI x3] [] σ) (h3 : xs0 = (nI 4) → T211 C Q 23 [vO 10 o0, vI x1, vI x2, vI x3] [] σ) (h4 : xs0 = (nI 5) → T211 C Q 46 [vO 10 o0, vI x1, vI x2, vI x3] [] σ) (h5 : xs0 = (nI 6) → T211 C Q 51 [vO 10 o0, vI x1, vI x2, vI x3] [] σ) (h6 : xs0 = (nI 7) → T211 C Q 73 [vO 10 o0, vI x1, vI x2, vI x3] [] σ) (h7 : xs0 = (nI 8) → T211 C Q 101 [vO 10 o0, vI x1, vI x2, vI x3] [] σ) (h8 : xs0 = (nI 9) → T211 C Q 46 [vO 10 o0, vI x1, vI x2, vI x3] [] σ) (h9 : xs0 = (nI 10) → T211 C Q 113 [vO 10 o0, vI x1, vI x2, vI x3] [] σ) (h10 : xs0 = (nI 11) → T211 C Q 46 [vO 10 o0, vI x1, vI x2, vI x3] [] σ) (hd : (xs0.toInt < 1 ∨ 11 < xs0.toInt) → T211 C Q 113 [vO 10 o0, vI x1, vI x2, vI x3] [] σ) :
  T211 C Q 6 [vO 10 o0, vI x1, vI x2, vI x3] [vI xs0] σ := j2_T.tsw hC (d := 113) (lo := 1) (hi := 11) (ts := #[7, 7, 12, 23, 46, 51, 73, 101, 46, 113, 46]) rfl hd (fun g1 g2 => by
  have g : xs0.toInt = 1 ∨ xs0.toInt = 2 ∨ xs0.toInt = 3 ∨ xs0.toInt = 4 ∨ xs0.toInt = 5 ∨ xs0.toInt = 6 ∨ xs0.toInt = 7 ∨ xs0.toInt = 8 ∨ xs0.toInt = 9 ∨ xs0.toInt = 10 ∨ xs0.toInt = 11 := by omega
  rcases g with g | g | g | g | g | g | g | g | g | g | g
  · rw [g]; exact h0 (Int32.toInt_inj.mp (g.trans (by decide)))
  · rw [g]; exact h1 (Int32.toInt_inj.mp (g.trans (by decide)))
  · rw [g]; exact h2 (Int32.toInt_inj.mp (g.trans (by decide)))
  · rw [g]; exact h3 (Int32.toInt_inj.mp (g.trans (by decide)))
  · rw [g]; exact h4 (Int32.toInt_inj.mp (g.trans (by decide)))
  · rw [g]; exact h5 (Int32.toInt_inj.mp (g.trans (by decide)))
  · rw [g]; exact h6 (Int32.toInt_inj.mp (g.trans (by decide)))
  · rw [g]; exact h7 (Int32.toInt_inj.mp (g.trans (by decide)))
  · rw [g]; exact h8 (Int32.toInt_inj.mp (g.trans (by decide)))
  · rw [g]; exact h9 (Int32.toInt_inj.mp (g.trans (by decide)))
  · rw [g]; exact h10 (Int32.toInt_inj.mp (g.trans (by decide)))
  )
set_option maxRecDepth 100000 in
theorem b211_7 {C : j2_C} (hC : j2_up1 C) {Q : j2_P} {o0 : Nat} {x1 : Int32} {x2 : Int32} {x3 : Int32} {σ : j2_S}
  (h : C 208 [vO 10 o0, vI x2, vI (nI 1)] σ (fun r σ1 => T211 C Q 11 [vO 10 o0, vI x1, vI x2, vI x3] (r.toList ++ []) σ1)) :
  T211 C Q 7 [vO 10 o0, vI x1, vI x2, vI x3] [] σ := j2_T.go hC [0, 6, 7, 11, 12, 21, 23, 44, 45, 46, 50, 51, 67, 72, 73, 95, 100, 101, 112, 113, 119] 400 h
set_option maxRecDepth 100000 in
theorem b211_11 {C : j2_C} (hC : j2_up1 C) {Q : j2_P} {o0 : Nat} {x1 : Int32} {x2 : Int32} {x3 : Int32} {σ : j2_S}
  (h : T211 C Q 119 [vO 10 o0, vI x1, vI x2, vI x3] [] σ) :
  T211 C Q 11 [vO 10 o0, vI x1, vI x2, vI x3] [] σ := j2_T.go hC [0, 6, 7, 11, 12, 21, 23, 44, 45, 46, 50, 51, 67, 72, 73, 95, 100, 101, 112, 113, 119] 400 h
set_option maxRecDepth 100000 in
theorem b211_12 {C : j2_C} (hC : j2_up1 C) {Q : j2_P} {o0 : Nat} {x1 : Int32} {x2 : Int32} {x3 : Int32} {σ : j2_S}
  (h : (vp_in x3 28800 ∧ C 206 [vO 10 o0, vI (σ.2.2 10028 o0 x3.toNatClampNeg)] σ (fun r σ1 => T211 C Q 21 [vO 10 o0, vI x1, vI x2, vI x3] (r.toList ++ [vI x3, vA 10028 o0]) σ1))) :
  T211 C Q 12 [vO 10 o0, vI x1, vI x2, vI x3] [] σ := j2_T.go hC [0, 6, 7, 11, 12, 21, 23, 44, 45, 46, 50, 51, 67, 72, 73, 95, 100, 101, 112, 113, 119] 400 h
set_option maxRecDepth 100000 in
theorem b211_21 {C : j2_C} (hC : j2_up1 C) {Q : j2_P} {o0 : Nat} {x1 : Int32} {x2 : Int32} {x3 : Int32} {xs0 : Int32} {xs1 : Int32} {os2 : Nat} {σ : j2_S}
  (h : (vp_in xs1 28800 ∧ T211 C Q 119 [vO 10 o0, vI x1, vI x2, vI x3] [] (σ.1, σ.2.1, (j2_ast σ.2.2 10028 os2 xs1.toNatClampNeg xs0)))) :
  T211 C Q 21 [vO 10 o0, vI x1, vI x2, vI x3] [vI xs0, vI xs1, vA 10028 os2] σ := j2_T.go hC [0, 6, 7, 11, 12, 21, 23, 44, 45, 46, 50, 51, 67, 72, 73, 95, 100, 101, 112, 113, 119] 400 h
set_option maxRecDepth 100000 in
theorem b211_23 {C : j2_C} (hC : j2_up1 C) {Q : j2_P} {o0 : Nat} {x1 : Int32} {x2 : Int32} {x3 : Int32} {σ : j2_S}
  (h : (vp_in (x3 + (nI 2)) 28800 ∧ (vp_in x3 28800 ∧ (vp_in (x3 + (nI 1)) 28800 ∧ C 210 [vI (σ.2.2 10027 o0 (x3 + (nI 2)).toNatClampNeg), vI (σ.2.2 10028 o0 x3.toNatClampNeg), vI (σ.2.2 10028 o0 (x3 + (nI 1)).toNatClampNeg)] σ (fun r σ1 => T211 C Q 44 [vO 10 o0, vI x1, vI x2, vI x3] (r.toList ++ [vI (nI 0), vI (nI 3), vI x2, vO 10 o0]) σ1))))) :
  T211 C Q 23 [vO 10 o0, vI x1, vI x2, vI x3] [] σ := j2_T.go hC [0, 6, 7, 11, 12, 21, 23, 44, 45, 46, 50, 51, 67, 72, 73, 95, 100, 101, 112, 113, 119] 400 h
set_option maxRecDepth 100000 in
theorem b211_44 {C : j2_C} (hC : j2_up1 C) {Q : j2_P} {o0 : Nat} {x1 : Int32} {x2 : Int32} {x3 : Int32} {xs0 : Int32} {xs1 : Int32} {xs2 : Int32} {xs3 : Int32} {os4 : Nat} {σ : j2_S}
  (h : C 209 [vO 10 os4, vI xs3, vI xs2, vI xs1, vI xs0] σ (fun r σ1 => T211 C Q 45 [vO 10 o0, vI x1, vI x2, vI x3] (r.toList ++ []) σ1)) :
  T211 C Q 44 [vO 10 o0, vI x1, vI x2, vI x3] [vI xs0, vI xs1, vI xs2, vI xs3, vO 10 os4] σ := j2_T.go hC [0, 6, 7, 11, 12, 21, 23, 44, 45, 46, 50, 51, 67, 72, 73, 95, 100, 101, 112, 113, 119] 400 h
set_option maxRecDepth 100000 in
theorem b211_45 {C : j2_C} (hC : j2_up1 C) {Q : j2_P} {o0 : Nat} {x1 : Int32} {x2 : Int32} {x3 : Int32} {σ : j2_S}
  (h : T211 C Q 119 [vO 10 o0, vI x1, vI x2, vI x3] [] σ) :
  T211 C Q 45 [vO 10 o0, vI x1, vI x2, vI x3] [] σ := j2_T.go hC [0, 6, 7, 11, 12, 21, 23, 44, 45, 46, 50, 51, 67, 72, 73, 95, 100, 101, 112, 113, 119] 400 h
set_option maxRecDepth 100000 in
theorem b211_46 {C : j2_C} (hC : j2_up1 C) {Q : j2_P} {o0 : Nat} {x1 : Int32} {x2 : Int32} {x3 : Int32} {σ : j2_S}
  (h : C 208 [vO 10 o0, vI x2, vI (nI 2)] σ (fun r σ1 => T211 C Q 50 [vO 10 o0, vI x1, vI x2, vI x3] (r.toList ++ []) σ1)) :
  T211 C Q 46 [vO 10 o0, vI x1, vI x2, vI x3] [] σ := j2_T.go hC [0, 6, 7, 11, 12, 21, 23, 44, 45, 46, 50, 51, 67, 72, 73, 95, 100, 101, 112, 113, 119] 400 h
set_option maxRecDepth 100000 in
theorem b211_50 {C : j2_C} (hC : j2_up1 C) {Q : j2_P} {o0 : Nat} {x1 : Int32} {x2 : Int32} {x3 : Int32} {σ : j2_S}
  (h : T211 C Q 119 [vO 10 o0, vI x1, vI x2, vI x3] [] σ) :
  T211 C Q 50 [vO 10 o0, vI x1, vI x2, vI x3] [] σ := j2_T.go hC [0, 6, 7, 11, 12, 21, 23, 44, 45, 46, 50, 51, 67, 72, 73, 95, 100, 101, 112, 113, 119] 400 h
set_option maxRecDepth 100000 in
theorem b211_51 {C : j2_C} (hC : j2_up1 C) {Q : j2_P} {o0 : Nat} {x1 : Int32} {x2 : Int32} {x3 : Int32} {σ : j2_S}
  (h : (vp_in x3 28800 ∧ ((¬ (σ.2.2 10028 o0 x3.toNatClampNeg) = 0 → C 208 [vO 10 o0, vI x2, vI (nI 2)] σ (fun r σ1 => T211 C Q 72 [vO 10 o0, vI x1, vI x2, vI x3] (r.toList ++ []) σ1)) ∧ (¬ (¬ (σ.2.2 10028 o0 x3.toNatClampNeg) = 0) → (vp_in (x3 + (nI 1)) 28800 ∧ C 209 [vO 10 o0, vI x2, vI (nI 2), vI (nI 11), vI (σ.2.2 10028 o0 (x3 + (nI 1)).toNatClampNeg)] σ (fun r σ1 => T211 C Q 67 [vO 10 o0, vI x1, vI x2, vI x3] (r.toList ++ []) σ1)))))) :
  T211 C Q 51 [vO 10 o0, vI x1, vI x2, vI x3] [] σ := j2_T.go hC [0, 6, 7, 11, 12, 21, 23, 44, 45, 46, 50, 51, 67, 72, 73, 95, 100, 101, 112, 113, 119] 400 h
set_option maxRecDepth 100000 in
theorem b211_67 {C : j2_C} (hC : j2_up1 C) {Q : j2_P} {o0 : Nat} {x1 : Int32} {x2 : Int32} {x3 : Int32} {σ : j2_S}
  (h : T211 C Q 119 [vO 10 o0, vI x1, vI x2, vI x3] [] σ) :
  T211 C Q 67 [vO 10 o0, vI x1, vI x2, vI x3] [] σ := j2_T.go hC [0, 6, 7, 11, 12, 21, 23, 44, 45, 46, 50, 51, 67, 72, 73, 95, 100, 101, 112, 113, 119] 400 h
set_option maxRecDepth 100000 in
theorem b211_72 {C : j2_C} (hC : j2_up1 C) {Q : j2_P} {o0 : Nat} {x1 : Int32} {x2 : Int32} {x3 : Int32} {σ : j2_S}
  (h : T211 C Q 119 [vO 10 o0, vI x1, vI x2, vI x3] [] σ) :
  T211 C Q 72 [vO 10 o0, vI x1, vI x2, vI x3] [] σ := j2_T.go hC [0, 6, 7, 11, 12, 21, 23, 44, 45, 46, 50, 51, 67, 72, 73, 95, 100, 101, 112, 113, 119] 400 h
set_option maxRecDepth 100000 in
theorem b211_73 {C : j2_C} (hC : j2_up1 C) {Q : j2_P} {o0 : Nat} {x1 : Int32} {x2 : Int32} {x3 : Int32} {σ : j2_S}
  (h : (vp_in x3 28800 ∧ (vp_in (x3 + (nI 1)) 28800 ∧ (((σ.2.2 10028 o0 (x3 + (nI 1)).toNatClampNeg) ≤ (σ.2.2 10028 o0 x3.toNatClampNeg) → C 208 [vO 10 o0, vI x2, vI (nI 3)] σ (fun r σ1 => T211 C Q 100 [vO 10 o0, vI x1, vI x2, vI x3] (r.toList ++ []) σ1)) ∧ (¬ ((σ.2.2 10028 o0 (x3 + (nI 1)).toNatClampNeg) ≤ (σ.2.2 10028 o0 x3.toNatClampNeg)) → (vp_in (x3 + (nI 2)) 28800 ∧ C 209 [vO 10 o0, vI x2, vI (nI 3), vI (nI 11), vI (σ.2.2 10028 o0 (x3 + (nI 2)).toNatClampNeg)] σ (fun r σ1 => T211 C Q 95 [vO 10 o0, vI x1, vI x2, vI x3] (r.toList ++ []) σ1))))))) :
  T211 C Q 73 [vO 10 o0, vI x1, vI x2, vI x3] [] σ := j2_T.go hC [0, 6, 7, 11, 12, 21, 23, 44, 45, 46, 50, 51, 67, 72, 73, 95, 100, 101, 112, 113, 119] 400 h
set_option maxRecDepth 100000 in
theorem b211_95 {C : j2_C} (hC : j2_up1 C) {Q : j2_P} {o0 : Nat} {x1 : Int32} {x2 : Int32} {x3 : Int32} {σ : j2_S}
  (h : T211 C Q 119 [vO 10 o0, vI x1, vI x2, vI x3] [] σ) :
  T211 C Q 95 [vO 10 o0, vI x1, vI x2, vI x3] [] σ := j2_T.go hC [0, 6, 7, 11, 12, 21, 23, 44, 45, 46, 50, 51, 67, 72, 73, 95, 100, 101, 112, 113, 119] 400 h
set_option maxRecDepth 100000 in
theorem b211_100 {C : j2_C} (hC : j2_up1 C) {Q : j2_P} {o0 : Nat} {x1 : Int32} {x2 : Int32} {x3 : Int32} {σ : j2_S}
  (h : T211 C Q 119 [vO 10 o0, vI x1, vI x2, vI x3] [] σ) :
  T211 C Q 100 [vO 10 o0, vI x1, vI x2, vI x3] [] σ := j2_T.go hC [0, 6, 7, 11, 12, 21, 23, 44, 45, 46, 50, 51, 67, 72, 73, 95, 100, 101, 112, 113, 119] 400 h
set_option maxRecDepth 100000 in
theorem b211_101 {C : j2_C} (hC : j2_up1 C) {Q : j2_P} {o0 : Nat} {x1 : Int32} {x2 : Int32} {x3 : Int32} {σ : j2_S}
  (h : (vp_in (x3 + (nI 1)) 28800 ∧ C 209 [vO 10 o0, vI x2, vI (nI 2), vI (nI 11), vI (σ.2.2 10028 o0 (x3 + (nI 1)).toNatClampNeg)] σ (fun r σ1 => T211 C Q 112 [vO 10 o0, vI x1, vI x2, vI x3] (r.toList ++ []) σ1))) :
  T211 C Q 101 [vO 10 o0, vI x1, vI x2, vI x3] [] σ := j2_T.go hC [0, 6, 7, 11, 12, 21, 23, 44, 45, 46, 50, 51, 67, 72, 73, 95, 100, 101, 112, 113, 119] 400 h
set_option maxRecDepth 100000 in
theorem b211_112 {C : j2_C} (hC : j2_up1 C) {Q : j2_P} {o0 : Nat} {x1 : Int32} {x2 : Int32} {x3 : Int32} {σ : j2_S}
  (h : T211 C Q 119 [vO 10 o0, vI x1, vI x2, vI x3] [] σ) :
  T211 C Q 112 [vO 10 o0, vI x1, vI x2, vI x3] [] σ := j2_T.go hC [0, 6, 7, 11, 12, 21, 23, 44, 45, 46, 50, 51, 67, 72, 73, 95, 100, 101, 112, 113, 119] 400 h
set_option maxRecDepth 100000 in
theorem b211_113 {C : j2_C} (hC : j2_up1 C) {Q : j2_P} {o0 : Nat} {x1 : Int32} {x2 : Int32} {x3 : Int32} {σ : j2_S}
  (h : C 209 [vO 10 o0, vI x2, vI (nI 1), vI (nI 4), vI (nI 0)] σ (fun r σ1 => T211 C Q 119 [vO 10 o0, vI x1, vI x2, vI x3] (r.toList ++ []) σ1)) :
  T211 C Q 113 [vO 10 o0, vI x1, vI x2, vI x3] [] σ := j2_T.go hC [0, 6, 7, 11, 12, 21, 23, 44, 45, 46, 50, 51, 67, 72, 73, 95, 100, 101, 112, 113, 119] 400 h
set_option maxRecDepth 100000 in
theorem b211_119 {C : j2_C} (hC : j2_up1 C) {Q : j2_P} {o0 : Nat} {x1 : Int32} {x2 : Int32} {x3 : Int32} {σ : j2_S}
  (h : ((none : Option FieldType) = none ∧ Q none σ)) :
  T211 C Q 119 [vO 10 o0, vI x1, vI x2, vI x3] [] σ := j2_T.go hC [0, 6, 7, 11, 12, 21, 23, 44, 45, 46, 50, 51, 67, 72, 73, 95, 100, 101, 112, 113, 119] 400 h
abbrev T212 (C : j2_C) (Q : j2_P) : j2_K := j2_T C jc_X10_rules none Q
set_option maxRecDepth 100000 in
theorem b212_0 {C : j2_C} (hC : j2_up1 C) {Q : j2_P} {o0 : Nat} {x1 : Int32} {σ : j2_S}
  (h : C 160 [vI (nI 2), vI x1, vI (nI 0)] σ (fun r σ1 => T212 C Q 5 [vO 10 o0, vI x1, vM 2, vM 2, vM 2] (r.toList ++ [vO 10 o0]) σ1)) :
  T212 C Q 0 [vO 10 o0, vI x1, vM 2, vM 2, vM 2] [] σ := j2_T.go hC [0, 5, 16, 22, 24, 32, 41, 47, 67, 69, 71] 400 h
set_option maxRecDepth 100000 in
theorem b212_5 {C : j2_C} (hC : j2_up1 C) {Q : j2_P} {o0 : Nat} {x1 : Int32} {xs0 : Int32} {os1 : Nat} {σ : j2_S}
  (h : (vp_in ((nI 160) + x1) 240 ∧ T212 C Q 16 [vO 10 o0, vI x1, vI (nI 1), vM 2, vM 2] [] ((j2_up (j2_up σ.1 10062 os1 xs0) 10063 o0 (σ.2.2 10026 o0 ((nI 160) + x1).toNatClampNeg)), σ.2.1, σ.2.2))) :
  T212 C Q 5 [vO 10 o0, vI x1, vM 2, vM 2, vM 2] [vI xs0, vO 10 os1] σ := j2_T.go hC [0, 5, 16, 22, 24, 32, 41, 47, 67, 69, 71] 400 h
set_option maxRecDepth 100000 in
theorem b212_16 {C : j2_C} (hC : j2_up1 C) {Q : j2_P} {o0 : Nat} {x1 : Int32} {x2 : Int32} {w3 : j2_W} {w4 : j2_W} {σ : j2_S}
  (h : ((x2 = 0 → (vp_in ((nI 160) + x1) 240 ∧ ((none : Option FieldType) = none ∧ Q none (σ.1, σ.2.1, (j2_ast σ.2.2 10026 o0 ((nI 160) + x1).toNatClampNeg (σ.1 10063 o0)))))) ∧ (¬ (x2 = 0) → C 202 [vO 10 o0] σ (fun r σ1 => T212 C Q 22 [vO 10 o0, vI x1, vI (nI 0), w3, w4] (r.toList ++ []) σ1)))) :
  T212 C Q 16 [vO 10 o0, vI x1, vI x2, w3, w4] [] σ := j2_T.go hC [0, 5, 16, 22, 24, 32, 41, 47, 67, 69, 71] 400 h
set_option maxRecDepth 100000 in
theorem b212_22 {C : j2_C} (hC : j2_up1 C) {Q : j2_P} {o0 : Nat} {x1 : Int32} {x2 : Int32} {w3 : j2_W} {w4 : j2_W} {σ : j2_S}
  (h : T212 C Q 24 [vO 10 o0, vI x1, vI x2, vI (nI 0), w4] [] σ) :
  T212 C Q 22 [vO 10 o0, vI x1, vI x2, w3, w4] [] σ := j2_T.go hC [0, 5, 16, 22, 24, 32, 41, 47, 67, 69, 71] 400 h
set_option maxRecDepth 100000 in
theorem b212_24 {C : j2_C} (hC : j2_up1 C) {Q : j2_P} {o0 : Nat} {x1 : Int32} {x2 : Int32} {x3 : Int32} {w4 : j2_W} {σ : j2_S}
  (h : (((σ.1 10063 o0) ≤ x3 → T212 C Q 71 [vO 10 o0, vI x1, vI x2, vI x3, w4] [] σ) ∧ (¬ ((σ.1 10063 o0) ≤ x3) → ((¬ x2 = 0 → T212 C Q 71 [vO 10 o0, vI x1, vI x2, vI x3, w4] [] σ) ∧ (¬ (¬ x2 = 0) → T212 C Q 32 [vO 10 o0, vI x1, vI x2, vI x3, vI (nI 1)] [] σ))))) :
  T212 C Q 24 [vO 10 o0, vI x1, vI x2, vI x3, w4] [] σ := j2_T.go hC [0, 5, 16, 22, 24, 32, 41, 47, 67, 69, 71] 400 h
set_option maxRecDepth 100000 in
theorem b212_32 {C : j2_C} (hC : j2_up1 C) {Q : j2_P} {o0 : Nat} {x1 : Int32} {x2 : Int32} {x3 : Int32} {x4 : Int32} {σ : j2_S}
  (h : (((nI 12) < x4 → T212 C Q 69 [vO 10 o0, vI x1, vI x2, vI x3, vI x4] [] σ) ∧ (¬ ((nI 12) < x4) → ((¬ x2 = 0 → T212 C Q 69 [vO 10 o0, vI x1, vI x2, vI x3, vI x4] [] σ) ∧ (¬ (¬ x2 = 0) → C 207 [vO 10 o0, vI x4, vI x3] σ (fun r σ1 => T212 C Q 41 [vO 10 o0, vI x1, vI x2, vI x3, vI x4] (r.toList ++ []) σ1)))))) :
  T212 C Q 32 [vO 10 o0, vI x1, vI x2, vI x3, vI x4] [] σ := j2_T.go hC [0, 5, 16, 22, 24, 32, 41, 47, 67, 69, 71] 400 h
set_option maxRecDepth 100000 in
theorem b212_41 {C : j2_C} (hC : j2_up1 C) {Q : j2_P} {o0 : Nat} {x1 : Int32} {x2 : Int32} {x3 : Int32} {x4 : Int32} {xs0 : Int32} {σ : j2_S}
  (h : ((¬ xs0 = 0 → C 211 [vO 10 o0, vI x4, vI x3] σ (fun r σ1 => T212 C Q 47 [vO 10 o0, vI x1, vI x2, vI x3, vI x4] (r.toList ++ []) σ1)) ∧ (¬ (¬ xs0 = 0) → T212 C Q 67 [vO 10 o0, vI x1, vI x2, vI x3, vI x4] [] σ))) :
  T212 C Q 41 [vO 10 o0, vI x1, vI x2, vI x3, vI x4] [vI xs0] σ := j2_T.go hC [0, 5, 16, 22, 24, 32, 41, 47, 67, 69, 71] 400 h
set_option maxRecDepth 100000 in
theorem b212_47 {C : j2_C} (hC : j2_up1 C) {Q : j2_P} {o0 : Nat} {x1 : Int32} {x2 : Int32} {x3 : Int32} {x4 : Int32} {σ : j2_S}
  (h : (vp_in (nI 2) 23 ∧ (vp_in (nI 2) 23 ∧ (vp_in ((nI 10) + x4) 23 ∧ (vp_in ((nI 10) + x4) 23 ∧ T212 C Q 67 [vO 10 o0, vI x1, vI (nI 1), vI x3, vI x4] [] (σ.1, σ.2.1, (j2_ast (j2_ast σ.2.2 10052 o0 (nI 2).toNatClampNeg ((σ.2.2 10052 o0 (nI 2).toNatClampNeg) + (nI 1))) 10052 o0 ((nI 10) + x4).toNatClampNeg (((j2_ast σ.2.2 10052 o0 (nI 2).toNatClampNeg ((σ.2.2 10052 o0 (nI 2).toNatClampNeg) + (nI 1))) 10052 o0 ((nI 10) + x4).toNatClampNeg) + (nI 1))))))))) :
  T212 C Q 47 [vO 10 o0, vI x1, vI x2, vI x3, vI x4] [] σ := j2_T.go hC [0, 5, 16, 22, 24, 32, 41, 47, 67, 69, 71] 400 h
set_option maxRecDepth 100000 in
theorem b212_67 {C : j2_C} (hC : j2_up1 C) {Q : j2_P} {o0 : Nat} {x1 : Int32} {x2 : Int32} {x3 : Int32} {x4 : Int32} {σ : j2_S}
  (h : T212 C Q 32 [vO 10 o0, vI x1, vI x2, vI x3, vI (x4 + (nI 1))] [] σ) :
  T212 C Q 67 [vO 10 o0, vI x1, vI x2, vI x3, vI x4] [] σ := j2_T.go hC [0, 5, 16, 22, 24, 32, 41, 47, 67, 69, 71] 400 h
set_option maxRecDepth 100000 in
theorem b212_69 {C : j2_C} (hC : j2_up1 C) {Q : j2_P} {o0 : Nat} {x1 : Int32} {x2 : Int32} {x3 : Int32} {x4 : Int32} {σ : j2_S}
  (h : T212 C Q 24 [vO 10 o0, vI x1, vI x2, vI (x3 + (nI 1)), vI x4] [] σ) :
  T212 C Q 69 [vO 10 o0, vI x1, vI x2, vI x3, vI x4] [] σ := j2_T.go hC [0, 5, 16, 22, 24, 32, 41, 47, 67, 69, 71] 400 h
set_option maxRecDepth 100000 in
theorem b212_71 {C : j2_C} (hC : j2_up1 C) {Q : j2_P} {o0 : Nat} {x1 : Int32} {x2 : Int32} {x3 : Int32} {w4 : j2_W} {σ : j2_S}
  (h : T212 C Q 16 [vO 10 o0, vI x1, vI x2, vI x3, w4] [] σ) :
  T212 C Q 71 [vO 10 o0, vI x1, vI x2, vI x3, w4] [] σ := j2_T.go hC [0, 5, 16, 22, 24, 32, 41, 47, 67, 69, 71] 400 h
abbrev T213 (C : j2_C) (Q : j2_P) : j2_K := j2_T C jc_X10_keepClass none Q
set_option maxRecDepth 100000 in
theorem b213_0 {C : j2_C} (hC : j2_up1 C) {Q : j2_P} {o0 : Nat} {x1 : Int32} {σ : j2_S}
  (h : T213 C Q 2 [vO 10 o0, vI x1, vI x1] [] σ) :
  T213 C Q 0 [vO 10 o0, vI x1, vM 2] [] σ := j2_T.go hC [0, 2] 400 h
set_option maxRecDepth 100000 in
theorem b213_2 {C : j2_C} (hC : j2_up1 C) {Q : j2_P} {o0 : Nat} {x1 : Int32} {x2 : Int32} {σ : j2_S}
  (h : ((x2 < 0 → ((none : Option FieldType) = none ∧ Q none σ)) ∧ (¬ (x2 < 0) → (((nI 1) = 0 ∨ (nI 1) = 1) ∧ vp_in x2 10 ∧ (vp_in x2 30 ∧ T213 C Q 2 [vO 10 o0, vI x1, vI ((j2_ast σ.2.2 10072 o0 x2.toNatClampNeg (nI 1)) 10011 o0 x2.toNatClampNeg)] [] (σ.1, σ.2.1, (j2_ast σ.2.2 10072 o0 x2.toNatClampNeg (nI 1)))))))) :
  T213 C Q 2 [vO 10 o0, vI x1, vI x2] [] σ := j2_T.go hC [0, 2] 400 h
abbrev T214 (C : j2_C) (Q : j2_P) : j2_K := j2_T C jc_X10_keepType none Q
set_option maxRecDepth 100000 in
theorem b214_0 {C : j2_C} (hC : j2_up1 C) {Q : j2_P} {o0 : Nat} {x1 : Int32} {σ : j2_S}
  (h : ((x1 ≤ 0 → T214 C Q 7 [vO 10 o0, vI x1] [] σ) ∧ (¬ (x1 ≤ 0) → C 213 [vO 10 o0, vI (x1 - (nI 1))] σ (fun r σ1 => T214 C Q 7 [vO 10 o0, vI x1] (r.toList ++ []) σ1)))) :
  T214 C Q 0 [vO 10 o0, vI x1] [] σ := j2_T.go hC [0, 7] 400 h
set_option maxRecDepth 100000 in
theorem b214_7 {C : j2_C} (hC : j2_up1 C) {Q : j2_P} {o0 : Nat} {x1 : Int32} {σ : j2_S}
  (h : ((none : Option FieldType) = none ∧ Q none σ)) :
  T214 C Q 7 [vO 10 o0, vI x1] [] σ := j2_T.go hC [0, 7] 400 h
