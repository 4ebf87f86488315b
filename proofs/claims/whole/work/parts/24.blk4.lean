abbrev T155 (C : j2_C) (Q : j2_P) : j2_K := j2_T C jc_X10_thrown (some .int) Q
set_option maxRecDepth 100000 in
theorem b155_0 {C : j2_C} (hC : j2_up1 C) {Q : j2_P} {o0 : Nat} {σ : j2_S}
  (h : (True ∧ Q (some (vI (σ.1 10000 o0))) σ)) :
  T155 C Q 0 [vO 10 o0] [] σ := j2_T.go hC [0] 400 h
abbrev T156 (C : j2_C) (Q : j2_P) : j2_K := j2_T C jc_X10_feed (some .boolean) Q
set_option maxRecDepth 100000 in
theorem b156_0 {C : j2_C} (hC : j2_up1 C) {Q : j2_P} {o0 : Nat} {x1 : Int32} {x2 : Int32} {x3 : Int32} {x4 : Int32} {x5 : Int32} {σ : j2_S}
  (h : (((((j2_up σ.1 10000 o0 (nI 0)) 10002 o0) + (nI 20)) ≤ (nI 4000) → T156 C Q 13 [vO 10 o0, vI x1, vI x2, vI x3, vI x4, vI x5, vI (nI 0), vM 2] [] ((j2_up σ.1 10000 o0 (nI 0)), σ.2.1, σ.2.2)) ∧ (¬ ((((j2_up σ.1 10000 o0 (nI 0)) 10002 o0) + (nI 20)) ≤ (nI 4000)) → (((nI 0) = 0 ∨ (nI 0) = 1) ∧ Q (some (vI (nI 0))) ((j2_up σ.1 10000 o0 (nI 0)), σ.2.1, σ.2.2))))) :
  T156 C Q 0 [vO 10 o0, vI x1, vI x2, vI x3, vI x4, vI x5, vM 2, vM 2] [] σ := j2_T.go hC [0, 13, 37] 400 h
set_option maxRecDepth 100000 in
theorem b156_13 {C : j2_C} (hC : j2_up1 C) {Q : j2_P} {o0 : Nat} {x1 : Int32} {x2 : Int32} {x3 : Int32} {x4 : Int32} {x5 : Int32} {x6 : Int32} {w7 : j2_W} {σ : j2_S}
  (h : (((nI 20) ≤ x6 → (((nI 1) = 0 ∨ (nI 1) = 1) ∧ Q (some (vI (nI 1))) σ)) ∧ (¬ ((nI 20) ≤ x6) → (((nI 4) ≤ x6 → (((nI 8) ≤ x6 → (((nI 12) ≤ x6 → (((nI 16) ≤ x6 → T156 C Q 37 [vO 10 o0, vI x1, vI x2, vI x3, vI x4, vI x5, vI x6, w7] [vI x5] σ) ∧ (¬ ((nI 16) ≤ x6) → T156 C Q 37 [vO 10 o0, vI x1, vI x2, vI x3, vI x4, vI x5, vI x6, w7] [vI x4] σ))) ∧ (¬ ((nI 12) ≤ x6) → T156 C Q 37 [vO 10 o0, vI x1, vI x2, vI x3, vI x4, vI x5, vI x6, w7] [vI x3] σ))) ∧ (¬ ((nI 8) ≤ x6) → T156 C Q 37 [vO 10 o0, vI x1, vI x2, vI x3, vI x4, vI x5, vI x6, w7] [vI x2] σ))) ∧ (¬ ((nI 4) ≤ x6) → T156 C Q 37 [vO 10 o0, vI x1, vI x2, vI x3, vI x4, vI x5, vI x6, w7] [vI x1] σ))))) :
  T156 C Q 13 [vO 10 o0, vI x1, vI x2, vI x3, vI x4, vI x5, vI x6, w7] [] σ := j2_T.go hC [0, 13, 37] 400 h
set_option maxRecDepth 100000 in
theorem b156_37 {C : j2_C} (hC : j2_up1 C) {Q : j2_P} {o0 : Nat} {x1 : Int32} {x2 : Int32} {x3 : Int32} {x4 : Int32} {x5 : Int32} {x6 : Int32} {w7 : j2_W} {xs0 : Int32} {σ : j2_S}
  (h : (¬ (nI 4) = 0 ∧ (vp_in (σ.1 10002 o0) 4000 ∧ T156 C Q 13 [vO 10 o0, vI x1, vI x2, vI x3, vI x4, vI x5, vI (x6 + (nI 1)), vI xs0] [] ((j2_up σ.1 10002 o0 ((σ.1 10002 o0) + (nI 1))), σ.2.1, (j2_ast σ.2.2 10001 o0 (σ.1 10002 o0).toNatClampNeg ((xs0 >>> (((nI 24) - ((nI 8) * (x6 - x6 / (nI 4) * (nI 4)))) &&& 31)) &&& (nI 255))))))) :
  T156 C Q 37 [vO 10 o0, vI x1, vI x2, vI x3, vI x4, vI x5, vI x6, w7] [vI xs0] σ := j2_T.go hC [0, 13, 37] 400 h
abbrev T157 (C : j2_C) (Q : j2_P) : j2_K := j2_T C jc_X10_end (some .boolean) Q
set_option maxRecDepth 100000 in
theorem b157_0 {C : j2_C} (hC : j2_up1 C) {Q : j2_P} {o0 : Nat} {x1 : Int32} {σ : j2_S}
  (h : ((x1 < 0 → (((nI 0) = 0 ∨ (nI 0) = 1) ∧ Q (some (vI (nI 0))) ((j2_up σ.1 10000 o0 (nI 0)), σ.2.1, σ.2.2))) ∧ (¬ (x1 < 0) → ((x1 ≤ ((j2_up σ.1 10000 o0 (nI 0)) 10002 o0) → (((nI 1) = 0 ∨ (nI 1) = 1) ∧ Q (some (vI (nI 1))) ((j2_up (j2_up σ.1 10000 o0 (nI 0)) 10002 o0 x1), σ.2.1, σ.2.2))) ∧ (¬ (x1 ≤ ((j2_up σ.1 10000 o0 (nI 0)) 10002 o0)) → (((nI 0) = 0 ∨ (nI 0) = 1) ∧ Q (some (vI (nI 0))) ((j2_up σ.1 10000 o0 (nI 0)), σ.2.1, σ.2.2))))))) :
  T157 C Q 0 [vO 10 o0, vI x1] [] σ := j2_T.go hC [0] 400 h
abbrev T158 (C : j2_C) (Q : j2_P) : j2_K := j2_T C jc_X10_wrong none Q
set_option maxRecDepth 100000 in
theorem b158_0 {C : j2_C} (hC : j2_up1 C) {Q : j2_P} {o0 : Nat} {x1 : Int32} {x2 : Int32} {x3 : Int32} {x4 : Int32} {σ : j2_S}
  (h : (((σ.1 10007 o0) = 0 → (vp_in (nI 0) 3 ∧ (vp_in (nI 1) 3 ∧ (vp_in (nI 2) 3 ∧ ((none : Option FieldType) = none ∧ Q none ((j2_up σ.1 10007 o0 x1), σ.2.1, (j2_ast (j2_ast (j2_ast σ.2.2 10008 o0 (nI 0).toNatClampNeg x2) 10008 o0 (nI 1).toNatClampNeg x3) 10008 o0 (nI 2).toNatClampNeg x4))))))) ∧ (¬ ((σ.1 10007 o0) = 0) → ((none : Option FieldType) = none ∧ Q none σ)))) :
  T158 C Q 0 [vO 10 o0, vI x1, vI x2, vI x3, vI x4] [] σ := j2_T.go hC [0] 400 h
abbrev T159 (C : j2_C) (Q : j2_P) : j2_K := j2_T C jc_X10_take (some .int) Q
set_option maxRecDepth 100000 in
theorem b159_0 {C : j2_C} (hC : j2_up1 C) {Q : j2_P} {o0 : Nat} {x1 : Int32} {x2 : Int32} {σ : j2_S}
  (h : (((σ.1 10007 o0) = 0 → (((σ.1 10004 o0) < (σ.1 10003 o0) → (vp_in (σ.1 10004 o0) 4000 ∧ (((σ.2.2 10001 o0 (σ.1 10004 o0).toNatClampNeg) < x1 → T159 C Q 31 [vO 10 o0, vI x1, vI x2, vI (σ.2.2 10001 o0 (σ.1 10004 o0).toNatClampNeg)] [] σ) ∧ (¬ ((σ.2.2 10001 o0 (σ.1 10004 o0).toNatClampNeg) < x1) → (((σ.2.2 10001 o0 (σ.1 10004 o0).toNatClampNeg) ≤ x2 → (True ∧ Q (some (vI (σ.2.2 10001 o0 (σ.1 10004 o0).toNatClampNeg))) ((j2_up σ.1 10004 o0 ((σ.1 10004 o0) + (nI 1))), σ.2.1, σ.2.2))) ∧ (¬ ((σ.2.2 10001 o0 (σ.1 10004 o0).toNatClampNeg) ≤ x2) → T159 C Q 31 [vO 10 o0, vI x1, vI x2, vI (σ.2.2 10001 o0 (σ.1 10004 o0).toNatClampNeg)] [] σ)))))) ∧ (¬ ((σ.1 10004 o0) < (σ.1 10003 o0)) → C 158 [vO 10 o0, vI (nI 1), vI (σ.1 10003 o0), vI (-1 : Int32), vI (-1 : Int32)] σ (fun r σ1 => T159 C Q 17 [vO 10 o0, vI x1, vI x2, vM 2] (r.toList ++ []) σ1)))) ∧ (¬ ((σ.1 10007 o0) = 0) → (True ∧ Q (some (vI x1)) σ)))) :
  T159 C Q 0 [vO 10 o0, vI x1, vI x2, vM 2] [] σ := j2_T.go hC [0, 17, 31, 38] 400 h
set_option maxRecDepth 100000 in
theorem b159_17 {C : j2_C} (hC : j2_up1 C) {Q : j2_P} {o0 : Nat} {x1 : Int32} {x2 : Int32} {σ : j2_S}
  (h : (True ∧ Q (some (vI x1)) σ)) :
  T159 C Q 17 [vO 10 o0, vI x1, vI x2, vM 2] [] σ := j2_T.go hC [0, 17, 31, 38] 400 h
set_option maxRecDepth 100000 in
theorem b159_31 {C : j2_C} (hC : j2_up1 C) {Q : j2_P} {o0 : Nat} {x1 : Int32} {x2 : Int32} {x3 : Int32} {σ : j2_S}
  (h : C 158 [vO 10 o0, vI (nI 1), vI (σ.1 10004 o0), vI (-1 : Int32), vI (-1 : Int32)] σ (fun r σ1 => T159 C Q 38 [vO 10 o0, vI x1, vI x2, vI x3] (r.toList ++ []) σ1)) :
  T159 C Q 31 [vO 10 o0, vI x1, vI x2, vI x3] [] σ := j2_T.go hC [0, 17, 31, 38] 400 h
set_option maxRecDepth 100000 in
theorem b159_38 {C : j2_C} (hC : j2_up1 C) {Q : j2_P} {o0 : Nat} {x1 : Int32} {x2 : Int32} {x3 : Int32} {σ : j2_S}
  (h : (True ∧ Q (some (vI x1)) σ)) :
  T159 C Q 38 [vO 10 o0, vI x1, vI x2, vI x3] [] σ := j2_T.go hC [0, 17, 31, 38] 400 h
abbrev T160 (C : j2_C) (Q : j2_P) : j2_K := j2_T C jc_X10_index (some .int) Q
set_option maxRecDepth 100000 in
theorem b160_0 {C : j2_C} (hC : j2_up1 C) {Q : j2_P} {x0 : Int32} {x1 : Int32} {x2 : Int32} {σ : j2_S}
  (h : (True ∧ Q (some (vI ((((nI 9600) * x0) + ((nI 120) * x1)) + x2))) σ)) :
  T160 C Q 0 [vI x0, vI x1, vI x2] [] σ := j2_T.go hC [0] 400 h
abbrev T161 (C : j2_C) (Q : j2_P) : j2_K := j2_T C jc_X10_readAll none Q
set_option maxRecDepth 100000 in
theorem b161_0 {C : j2_C} (hC : j2_up1 C) {Q : j2_P} {o0 : Nat} {σ : j2_S}
  (h : C 159 [vO 10 o0, vI (nI 83), vI (nI 83)] ((j2_up σ.1 10004 o0 (nI 0)), σ.2.1, σ.2.2) (fun r σ1 => T161 C Q 7 [vO 10 o0, vM 2] (r.toList ++ []) σ1)) :
  T161 C Q 0 [vO 10 o0, vM 2] [] σ := j2_T.go hC [0, 7, 12, 20, 28, 40, 42, 57] 400 h
set_option maxRecDepth 100000 in
theorem b161_7 {C : j2_C} (hC : j2_up1 C) {Q : j2_P} {o0 : Nat} {xs0 : Int32} {σ : j2_S}
  (h : C 159 [vO 10 o0, vI (nI 72), vI (nI 72)] σ (fun r σ1 => T161 C Q 12 [vO 10 o0, vM 2] (r.toList ++ []) σ1)) :
  T161 C Q 7 [vO 10 o0, vM 2] [vI xs0] σ := j2_T.go hC [0, 7, 12, 20, 28, 40, 42, 57] 400 h
set_option maxRecDepth 100000 in
theorem b161_12 {C : j2_C} (hC : j2_up1 C) {Q : j2_P} {o0 : Nat} {xs0 : Int32} {σ : j2_S}
  (h : C 159 [vO 10 o0, vI (nI 1), vI (nI 10)] σ (fun r σ1 => T161 C Q 20 [vO 10 o0, vM 2] (r.toList ++ [vI (nI 2), vA 10009 o0]) σ1)) :
  T161 C Q 12 [vO 10 o0, vM 2] [vI xs0] σ := j2_T.go hC [0, 7, 12, 20, 28, 40, 42, 57] 400 h
set_option maxRecDepth 100000 in
theorem b161_20 {C : j2_C} (hC : j2_up1 C) {Q : j2_P} {o0 : Nat} {xs0 : Int32} {xs1 : Int32} {os2 : Nat} {σ : j2_S}
  (h : (vp_in xs1 3 ∧ (vp_in (nI 2) 3 ∧ T161 C Q 28 [vO 10 o0, vI (nI 0)] [] (σ.1, σ.2.1, (j2_ast (j2_ast σ.2.2 10009 os2 xs1.toNatClampNeg xs0) 10018 o0 (nI 2).toNatClampNeg (nI 0)))))) :
  T161 C Q 20 [vO 10 o0, vM 2] [vI xs0, vI xs1, vA 10009 os2] σ := j2_T.go hC [0, 7, 12, 20, 28, 40, 42, 57] 400 h
set_option maxRecDepth 100000 in
theorem b161_28 {C : j2_C} (hC : j2_up1 C) {Q : j2_P} {o0 : Nat} {x1 : Int32} {σ : j2_S}
  (h : (vp_in (nI 2) 3 ∧ (((σ.2.2 10009 o0 (nI 2).toNatClampNeg) ≤ x1 → T161 C Q 42 [vO 10 o0, vI x1] [] σ) ∧ (¬ ((σ.2.2 10009 o0 (nI 2).toNatClampNeg) ≤ x1) → ((¬ (σ.1 10007 o0) = 0 → T161 C Q 42 [vO 10 o0, vI x1] [] σ) ∧ (¬ (¬ (σ.1 10007 o0) = 0) → C 162 [vO 10 o0, vI x1] σ (fun r σ1 => T161 C Q 40 [vO 10 o0, vI x1] (r.toList ++ []) σ1))))))) :
  T161 C Q 28 [vO 10 o0, vI x1] [] σ := j2_T.go hC [0, 7, 12, 20, 28, 40, 42, 57] 400 h
set_option maxRecDepth 100000 in
theorem b161_40 {C : j2_C} (hC : j2_up1 C) {Q : j2_P} {o0 : Nat} {x1 : Int32} {σ : j2_S}
  (h : T161 C Q 28 [vO 10 o0, vI (x1 + (nI 1))] [] σ) :
  T161 C Q 40 [vO 10 o0, vI x1] [] σ := j2_T.go hC [0, 7, 12, 20, 28, 40, 42, 57] 400 h
set_option maxRecDepth 100000 in
theorem b161_42 {C : j2_C} (hC : j2_up1 C) {Q : j2_P} {o0 : Nat} {x1 : Int32} {σ : j2_S}
  (h : ((¬ (σ.1 10007 o0) = 0 → T161 C Q 57 [vO 10 o0, vI x1] [] σ) ∧ (¬ (¬ (σ.1 10007 o0) = 0) → (((σ.1 10003 o0) ≤ (σ.1 10004 o0) → T161 C Q 57 [vO 10 o0, vI x1] [] σ) ∧ (¬ ((σ.1 10003 o0) ≤ (σ.1 10004 o0)) → C 158 [vO 10 o0, vI (nI 1), vI (σ.1 10004 o0), vI (-1 : Int32), vI (-1 : Int32)] σ (fun r σ1 => T161 C Q 57 [vO 10 o0, vI x1] (r.toList ++ []) σ1)))))) :
  T161 C Q 42 [vO 10 o0, vI x1] [] σ := j2_T.go hC [0, 7, 12, 20, 28, 40, 42, 57] 400 h
set_option maxRecDepth 100000 in
theorem b161_57 {C : j2_C} (hC : j2_up1 C) {Q : j2_P} {o0 : Nat} {x1 : Int32} {σ : j2_S}
  (h : (vp_in (nI 2) 3 ∧ ((none : Option FieldType) = none ∧ Q none (σ.1, σ.2.1, (j2_ast σ.2.2 10034 o0 (nI 2).toNatClampNeg (σ.1 10003 o0)))))) :
  T161 C Q 57 [vO 10 o0, vI x1] [] σ := j2_T.go hC [0, 7, 12, 20, 28, 40, 42, 57] 400 h
abbrev T162 (C : j2_C) (Q : j2_P) : j2_K := j2_T C jc_X10_readClass none Q
set_option maxRecDepth 100000 in
theorem b162_0 {C : j2_C} (hC : j2_up1 C) {Q : j2_P} {o0 : Nat} {x1 : Int32} {σ : j2_S}
  (h : C 159 [vO 10 o0, vI (nI 1), vI (nI 255)] σ (fun r σ1 => T162 C Q 11 [vO 10 o0, vI x1, vI ((nI 20) + x1), vM 2, vM 2] (r.toList ++ [vI ((nI 20) + x1), vA 10010 o0]) σ1)) :
  T162 C Q 0 [vO 10 o0, vI x1, vM 2, vM 2, vM 2] [] σ := j2_T.go hC [0, 11, 19, 29, 32, 56, 67, 75, 78, 85, 96, 108] 400 h
set_option maxRecDepth 100000 in
theorem b162_11 {C : j2_C} (hC : j2_up1 C) {Q : j2_P} {o0 : Nat} {x1 : Int32} {x2 : Int32} {xs0 : Int32} {xs1 : Int32} {os2 : Nat} {σ : j2_S}
  (h : (vp_in xs1 30 ∧ C 159 [vO 10 o0, vI (nI 0), vI x1] (σ.1, σ.2.1, (j2_ast σ.2.2 10010 os2 xs1.toNatClampNeg xs0)) (fun r σ1 => T162 C Q 19 [vO 10 o0, vI x1, vI x2, vM 2, vM 2] (r.toList ++ [vI x2, vA 10011 o0]) σ1))) :
  T162 C Q 11 [vO 10 o0, vI x1, vI x2, vM 2, vM 2] [vI xs0, vI xs1, vA 10010 os2] σ := j2_T.go hC [0, 11, 19, 29, 32, 56, 67, 75, 78, 85, 96, 108] 400 h
set_option maxRecDepth 100000 in
theorem b162_19 {C : j2_C} (hC : j2_up1 C) {Q : j2_P} {o0 : Nat} {x1 : Int32} {x2 : Int32} {xs0 : Int32} {xs1 : Int32} {os2 : Nat} {σ : j2_S}
  (h : (vp_in xs1 30 ∧ C 159 [vO 10 o0, vI (nI 0), vI (nI 6)] (σ.1, σ.2.1, (j2_ast σ.2.2 10011 os2 xs1.toNatClampNeg (xs0 - (nI 1)))) (fun r σ1 => T162 C Q 29 [vO 10 o0, vI x1, vI x2, vM 2, vM 2] (r.toList ++ [vI x2, vA 10012 o0]) σ1))) :
  T162 C Q 19 [vO 10 o0, vI x1, vI x2, vM 2, vM 2] [vI xs0, vI xs1, vA 10011 os2] σ := j2_T.go hC [0, 11, 19, 29, 32, 56, 67, 75, 78, 85, 96, 108] 400 h
set_option maxRecDepth 100000 in
theorem b162_29 {C : j2_C} (hC : j2_up1 C) {Q : j2_P} {o0 : Nat} {x1 : Int32} {x2 : Int32} {xs0 : Int32} {xs1 : Int32} {os2 : Nat} {σ : j2_S}
  (h : (vp_in xs1 30 ∧ T162 C Q 32 [vO 10 o0, vI x1, vI x2, vI (nI 0), vM 2] [] (σ.1, σ.2.1, (j2_ast σ.2.2 10012 os2 xs1.toNatClampNeg xs0)))) :
  T162 C Q 29 [vO 10 o0, vI x1, vI x2, vM 2, vM 2] [vI xs0, vI xs1, vA 10012 os2] σ := j2_T.go hC [0, 11, 19, 29, 32, 56, 67, 75, 78, 85, 96, 108] 400 h
set_option maxRecDepth 100000 in
theorem b162_32 {C : j2_C} (hC : j2_up1 C) {Q : j2_P} {o0 : Nat} {x1 : Int32} {x2 : Int32} {x3 : Int32} {w4 : j2_W} {σ : j2_S}
  (h : (vp_in x2 30 ∧ (((σ.2.2 10012 o0 x2.toNatClampNeg) ≤ x3 → T162 C Q 78 [vO 10 o0, vI x1, vI x2, vI x3, w4] [] σ) ∧ (¬ ((σ.2.2 10012 o0 x2.toNatClampNeg) ≤ x3) → ((¬ (σ.1 10007 o0) = 0 → T162 C Q 78 [vO 10 o0, vI x1, vI x2, vI x3, w4] [] σ) ∧ (¬ (¬ (σ.1 10007 o0) = 0) → C 159 [vO 10 o0, vI (nI 1), vI (nI 255)] σ (fun r σ1 => T162 C Q 56 [vO 10 o0, vI x1, vI x2, vI x3, vI (((nI 120) + ((nI 6) * x1)) + x3)] (r.toList ++ [vI (((nI 120) + ((nI 6) * x1)) + x3), vA 10015 o0]) σ1))))))) :
  T162 C Q 32 [vO 10 o0, vI x1, vI x2, vI x3, w4] [] σ := j2_T.go hC [0, 11, 19, 29, 32, 56, 67, 75, 78, 85, 96, 108] 400 h
set_option maxRecDepth 100000 in
theorem b162_56 {C : j2_C} (hC : j2_up1 C) {Q : j2_P} {o0 : Nat} {x1 : Int32} {x2 : Int32} {x3 : Int32} {x4 : Int32} {xs0 : Int32} {xs1 : Int32} {os2 : Nat} {σ : j2_S}
  (h : (vp_in xs1 180 ∧ (vp_in (nI 2) 3 ∧ C 159 [vO 10 o0, vI (nI 0), vI ((j2_ast σ.2.2 10015 os2 xs1.toNatClampNeg xs0) 10009 o0 (nI 2).toNatClampNeg)] (σ.1, σ.2.1, (j2_ast σ.2.2 10015 os2 xs1.toNatClampNeg xs0)) (fun r σ1 => T162 C Q 67 [vO 10 o0, vI x1, vI x2, vI x3, vI x4] (r.toList ++ [vI x4, vA 10016 o0]) σ1)))) :
  T162 C Q 56 [vO 10 o0, vI x1, vI x2, vI x3, vI x4] [vI xs0, vI xs1, vA 10015 os2] σ := j2_T.go hC [0, 11, 19, 29, 32, 56, 67, 75, 78, 85, 96, 108] 400 h
set_option maxRecDepth 100000 in
theorem b162_67 {C : j2_C} (hC : j2_up1 C) {Q : j2_P} {o0 : Nat} {x1 : Int32} {x2 : Int32} {x3 : Int32} {x4 : Int32} {xs0 : Int32} {xs1 : Int32} {os2 : Nat} {σ : j2_S}
  (h : (vp_in xs1 180 ∧ C 159 [vO 10 o0, vI (nI 0), vI (nI 1)] (σ.1, σ.2.1, (j2_ast σ.2.2 10016 os2 xs1.toNatClampNeg xs0)) (fun r σ1 => T162 C Q 75 [vO 10 o0, vI x1, vI x2, vI x3, vI x4] (r.toList ++ [vI x4, vA 10017 o0]) σ1))) :
  T162 C Q 67 [vO 10 o0, vI x1, vI x2, vI x3, vI x4] [vI xs0, vI xs1, vA 10016 os2] σ := j2_T.go hC [0, 11, 19, 29, 32, 56, 67, 75, 78, 85, 96, 108] 400 h
set_option maxRecDepth 100000 in
theorem b162_75 {C : j2_C} (hC : j2_up1 C) {Q : j2_P} {o0 : Nat} {x1 : Int32} {x2 : Int32} {x3 : Int32} {x4 : Int32} {xs0 : Int32} {xs1 : Int32} {os2 : Nat} {σ : j2_S}
  (h : (vp_in xs1 180 ∧ T162 C Q 32 [vO 10 o0, vI x1, vI x2, vI (x3 + (nI 1)), vI x4] [] (σ.1, σ.2.1, (j2_ast σ.2.2 10017 os2 xs1.toNatClampNeg xs0)))) :
  T162 C Q 75 [vO 10 o0, vI x1, vI x2, vI x3, vI x4] [vI xs0, vI xs1, vA 10017 os2] σ := j2_T.go hC [0, 11, 19, 29, 32, 56, 67, 75, 78, 85, 96, 108] 400 h
set_option maxRecDepth 100000 in
theorem b162_78 {C : j2_C} (hC : j2_up1 C) {Q : j2_P} {o0 : Nat} {x1 : Int32} {x2 : Int32} {x3 : Int32} {w4 : j2_W} {σ : j2_S}
  (h : C 159 [vO 10 o0, vI (nI 0), vI (nI 8)] σ (fun r σ1 => T162 C Q 85 [vO 10 o0, vI x1, vI x2, vI x3, w4] (r.toList ++ [vI x2, vA 10014 o0]) σ1)) :
  T162 C Q 78 [vO 10 o0, vI x1, vI x2, vI x3, w4] [] σ := j2_T.go hC [0, 11, 19, 29, 32, 56, 67, 75, 78, 85, 96, 108] 400 h
set_option maxRecDepth 100000 in
theorem b162_85 {C : j2_C} (hC : j2_up1 C) {Q : j2_P} {o0 : Nat} {x1 : Int32} {x2 : Int32} {x3 : Int32} {w4 : j2_W} {xs0 : Int32} {xs1 : Int32} {os2 : Nat} {σ : j2_S}
  (h : (vp_in xs1 30 ∧ (vp_in (nI 2) 3 ∧ (vp_in x2 30 ∧ T162 C Q 96 [vO 10 o0, vI x1, vI x2, vI (nI 0), w4] [] (σ.1, σ.2.1, (j2_ast (j2_ast σ.2.2 10014 os2 xs1.toNatClampNeg xs0) 10013 o0 x2.toNatClampNeg ((j2_ast σ.2.2 10014 os2 xs1.toNatClampNeg xs0) 10018 o0 (nI 2).toNatClampNeg))))))) :
  T162 C Q 85 [vO 10 o0, vI x1, vI x2, vI x3, w4] [vI xs0, vI xs1, vA 10014 os2] σ := j2_T.go hC [0, 11, 19, 29, 32, 56, 67, 75, 78, 85, 96, 108] 400 h
set_option maxRecDepth 100000 in
theorem b162_96 {C : j2_C} (hC : j2_up1 C) {Q : j2_P} {o0 : Nat} {x1 : Int32} {x2 : Int32} {x3 : Int32} {w4 : j2_W} {σ : j2_S}
  (h : (vp_in x2 30 ∧ (((σ.2.2 10014 o0 x2.toNatClampNeg) ≤ x3 → ((none : Option FieldType) = none ∧ Q none σ)) ∧ (¬ ((σ.2.2 10014 o0 x2.toNatClampNeg) ≤ x3) → ((¬ (σ.1 10007 o0) = 0 → ((none : Option FieldType) = none ∧ Q none σ)) ∧ (¬ (¬ (σ.1 10007 o0) = 0) → C 163 [vO 10 o0, vI x1] σ (fun r σ1 => T162 C Q 108 [vO 10 o0, vI x1, vI x2, vI x3, w4] (r.toList ++ []) σ1))))))) :
  T162 C Q 96 [vO 10 o0, vI x1, vI x2, vI x3, w4] [] σ := j2_T.go hC [0, 11, 19, 29, 32, 56, 67, 75, 78, 85, 96, 108] 400 h
set_option maxRecDepth 100000 in
theorem b162_108 {C : j2_C} (hC : j2_up1 C) {Q : j2_P} {o0 : Nat} {x1 : Int32} {x2 : Int32} {x3 : Int32} {w4 : j2_W} {σ : j2_S}
  (h : T162 C Q 96 [vO 10 o0, vI x1, vI x2, vI (x3 + (nI 1)), w4] [] σ) :
  T162 C Q 108 [vO 10 o0, vI x1, vI x2, vI x3, w4] [] σ := j2_T.go hC [0, 11, 19, 29, 32, 56, 67, 75, 78, 85, 96, 108] 400 h
abbrev T163 (C : j2_C) (Q : j2_P) : j2_K := j2_T C jc_X10_readMethod none Q
set_option maxRecDepth 100000 in
theorem b163_0 {C : j2_C} (hC : j2_up1 C) {Q : j2_P} {o0 : Nat} {x1 : Int32} {σ : j2_S}
  (h : (vp_in (nI 2) 3 ∧ (vp_in (nI 2) 3 ∧ (vp_in (nI 2) 3 ∧ (vp_in ((nI 160) + (σ.2.2 10018 o0 (nI 2).toNatClampNeg)) 240 ∧ C 159 [vO 10 o0, vI (nI 1), vI (nI 255)] (σ.1, σ.2.1, (j2_ast (j2_ast σ.2.2 10018 o0 (nI 2).toNatClampNeg ((σ.2.2 10018 o0 (nI 2).toNatClampNeg) + (nI 1))) 10019 o0 ((nI 160) + (σ.2.2 10018 o0 (nI 2).toNatClampNeg)).toNatClampNeg x1)) (fun r σ1 => T163 C Q 29 [vO 10 o0, vI x1, vI (σ.2.2 10018 o0 (nI 2).toNatClampNeg), vI ((nI 160) + (σ.2.2 10018 o0 (nI 2).toNatClampNeg)), vM 2] (r.toList ++ [vI ((nI 160) + (σ.2.2 10018 o0 (nI 2).toNatClampNeg)), vA 10020 o0]) σ1)))))) :
  T163 C Q 0 [vO 10 o0, vI x1, vM 2, vM 2, vM 2] [] σ := j2_T.go hC [0, 29, 37, 50, 58, 61, 84, 87, 104, 112, 115, 130, 131] 400 h
set_option maxRecDepth 100000 in
theorem b163_29 {C : j2_C} (hC : j2_up1 C) {Q : j2_P} {o0 : Nat} {x1 : Int32} {x2 : Int32} {x3 : Int32} {xs0 : Int32} {xs1 : Int32} {os2 : Nat} {σ : j2_S}
  (h : (vp_in xs1 240 ∧ C 159 [vO 10 o0, vI (nI 0), vI (nI 1)] (σ.1, σ.2.1, (j2_ast σ.2.2 10020 os2 xs1.toNatClampNeg xs0)) (fun r σ1 => T163 C Q 37 [vO 10 o0, vI x1, vI x2, vI x3, vM 2] (r.toList ++ [vI x3, vA 10021 o0]) σ1))) :
  T163 C Q 29 [vO 10 o0, vI x1, vI x2, vI x3, vM 2] [vI xs0, vI xs1, vA 10020 os2] σ := j2_T.go hC [0, 29, 37, 50, 58, 61, 84, 87, 104, 112, 115, 130, 131] 400 h
set_option maxRecDepth 100000 in
theorem b163_37 {C : j2_C} (hC : j2_up1 C) {Q : j2_P} {o0 : Nat} {x1 : Int32} {x2 : Int32} {x3 : Int32} {xs0 : Int32} {xs1 : Int32} {os2 : Nat} {σ : j2_S}
  (h : (vp_in xs1 240 ∧ (vp_in (nI 2) 3 ∧ C 159 [vO 10 o0, vI (nI 0), vI ((nI 1) + ((j2_ast σ.2.2 10021 os2 xs1.toNatClampNeg xs0) 10009 o0 (nI 2).toNatClampNeg))] (σ.1, σ.2.1, (j2_ast σ.2.2 10021 os2 xs1.toNatClampNeg xs0)) (fun r σ1 => T163 C Q 50 [vO 10 o0, vI x1, vI x2, vI x3, vM 2] (r.toList ++ [vI x3, vA 10022 o0]) σ1)))) :
  T163 C Q 37 [vO 10 o0, vI x1, vI x2, vI x3, vM 2] [vI xs0, vI xs1, vA 10021 os2] σ := j2_T.go hC [0, 29, 37, 50, 58, 61, 84, 87, 104, 112, 115, 130, 131] 400 h
set_option maxRecDepth 100000 in
theorem b163_50 {C : j2_C} (hC : j2_up1 C) {Q : j2_P} {o0 : Nat} {x1 : Int32} {x2 : Int32} {x3 : Int32} {xs0 : Int32} {xs1 : Int32} {os2 : Nat} {σ : j2_S}
  (h : (vp_in xs1 240 ∧ C 159 [vO 10 o0, vI (nI 0), vI (nI 3)] (σ.1, σ.2.1, (j2_ast σ.2.2 10022 os2 xs1.toNatClampNeg xs0)) (fun r σ1 => T163 C Q 58 [vO 10 o0, vI x1, vI x2, vI x3, vM 2] (r.toList ++ [vI x3, vA 10023 o0]) σ1))) :
  T163 C Q 50 [vO 10 o0, vI x1, vI x2, vI x3, vM 2] [vI xs0, vI xs1, vA 10022 os2] σ := j2_T.go hC [0, 29, 37, 50, 58, 61, 84, 87, 104, 112, 115, 130, 131] 400 h
set_option maxRecDepth 100000 in
theorem b163_58 {C : j2_C} (hC : j2_up1 C) {Q : j2_P} {o0 : Nat} {x1 : Int32} {x2 : Int32} {x3 : Int32} {xs0 : Int32} {xs1 : Int32} {os2 : Nat} {σ : j2_S}
  (h : (vp_in xs1 240 ∧ T163 C Q 61 [vO 10 o0, vI x1, vI x2, vI x3, vI (nI 0)] [] (σ.1, σ.2.1, (j2_ast σ.2.2 10023 os2 xs1.toNatClampNeg xs0)))) :
  T163 C Q 58 [vO 10 o0, vI x1, vI x2, vI x3, vM 2] [vI xs0, vI xs1, vA 10023 os2] σ := j2_T.go hC [0, 29, 37, 50, 58, 61, 84, 87, 104, 112, 115, 130, 131] 400 h
set_option maxRecDepth 100000 in
theorem b163_61 {C : j2_C} (hC : j2_up1 C) {Q : j2_P} {o0 : Nat} {x1 : Int32} {x2 : Int32} {x3 : Int32} {x4 : Int32} {σ : j2_S}
  (h : (vp_in x3 240 ∧ (((σ.2.2 10023 o0 x3.toNatClampNeg) ≤ x4 → T163 C Q 87 [vO 10 o0, vI x1, vI x2, vI x3, vI x4] [] σ) ∧ (¬ ((σ.2.2 10023 o0 x3.toNatClampNeg) ≤ x4) → ((¬ (σ.1 10007 o0) = 0 → T163 C Q 87 [vO 10 o0, vI x1, vI x2, vI x3, vI x4] [] σ) ∧ (¬ (¬ (σ.1 10007 o0) = 0) → (vp_in (nI 2) 3 ∧ C 159 [vO 10 o0, vI (nI 0), vI (σ.2.2 10009 o0 (nI 2).toNatClampNeg)] σ (fun r σ1 => T163 C Q 84 [vO 10 o0, vI x1, vI x2, vI x3, vI x4] (r.toList ++ [vI (((nI 3) * x3) + x4), vA 10024 o0]) σ1)))))))) :
  T163 C Q 61 [vO 10 o0, vI x1, vI x2, vI x3, vI x4] [] σ := j2_T.go hC [0, 29, 37, 50, 58, 61, 84, 87, 104, 112, 115, 130, 131] 400 h
set_option maxRecDepth 100000 in
theorem b163_84 {C : j2_C} (hC : j2_up1 C) {Q : j2_P} {o0 : Nat} {x1 : Int32} {x2 : Int32} {x3 : Int32} {x4 : Int32} {xs0 : Int32} {xs1 : Int32} {os2 : Nat} {σ : j2_S}
  (h : (vp_in xs1 720 ∧ T163 C Q 61 [vO 10 o0, vI x1, vI x2, vI x3, vI (x4 + (nI 1))] [] (σ.1, σ.2.1, (j2_ast σ.2.2 10024 os2 xs1.toNatClampNeg xs0)))) :
  T163 C Q 84 [vO 10 o0, vI x1, vI x2, vI x3, vI x4] [vI xs0, vI xs1, vA 10024 os2] σ := j2_T.go hC [0, 29, 37, 50, 58, 61, 84, 87, 104, 112, 115, 130, 131] 400 h
set_option maxRecDepth 100000 in
theorem b163_87 {C : j2_C} (hC : j2_up1 C) {Q : j2_P} {o0 : Nat} {x1 : Int32} {x2 : Int32} {x3 : Int32} {x4 : Int32} {σ : j2_S}
  (h : (vp_in x3 240 ∧ (vp_in x3 240 ∧ C 159 [vO 10 o0, vI (((σ.2.2 10023 o0 x3.toNatClampNeg) + (nI 1)) - (σ.2.2 10021 o0 x3.toNatClampNeg)), vI (nI 20)] σ (fun r σ1 => T163 C Q 104 [vO 10 o0, vI x1, vI x2, vI x3, vI x4] (r.toList ++ [vI x3, vA 10025 o0]) σ1)))) :
  T163 C Q 87 [vO 10 o0, vI x1, vI x2, vI x3, vI x4] [] σ := j2_T.go hC [0, 29, 37, 50, 58, 61, 84, 87, 104, 112, 115, 130, 131] 400 h
set_option maxRecDepth 100000 in
theorem b163_104 {C : j2_C} (hC : j2_up1 C) {Q : j2_P} {o0 : Nat} {x1 : Int32} {x2 : Int32} {x3 : Int32} {x4 : Int32} {xs0 : Int32} {xs1 : Int32} {os2 : Nat} {σ : j2_S}
  (h : (vp_in xs1 240 ∧ C 159 [vO 10 o0, vI (nI 1), vI (nI 120)] (σ.1, σ.2.1, (j2_ast σ.2.2 10025 os2 xs1.toNatClampNeg xs0)) (fun r σ1 => T163 C Q 112 [vO 10 o0, vI x1, vI x2, vI x3, vI x4] (r.toList ++ [vI x3, vA 10026 o0]) σ1))) :
  T163 C Q 104 [vO 10 o0, vI x1, vI x2, vI x3, vI x4] [vI xs0, vI xs1, vA 10025 os2] σ := j2_T.go hC [0, 29, 37, 50, 58, 61, 84, 87, 104, 112, 115, 130, 131] 400 h
set_option maxRecDepth 100000 in
theorem b163_112 {C : j2_C} (hC : j2_up1 C) {Q : j2_P} {o0 : Nat} {x1 : Int32} {x2 : Int32} {x3 : Int32} {x4 : Int32} {xs0 : Int32} {xs1 : Int32} {os2 : Nat} {σ : j2_S}
  (h : (vp_in xs1 240 ∧ T163 C Q 115 [vO 10 o0, vI x1, vI x2, vI x3, vI (nI 0)] [] (σ.1, σ.2.1, (j2_ast σ.2.2 10026 os2 xs1.toNatClampNeg xs0)))) :
  T163 C Q 112 [vO 10 o0, vI x1, vI x2, vI x3, vI x4] [vI xs0, vI xs1, vA 10026 os2] σ := j2_T.go hC [0, 29, 37, 50, 58, 61, 84, 87, 104, 112, 115, 130, 131] 400 h
set_option maxRecDepth 100000 in
theorem b163_115 {C : j2_C} (hC : j2_up1 C) {Q : j2_P} {o0 : Nat} {x1 : Int32} {x2 : Int32} {x3 : Int32} {x4 : Int32} {σ : j2_S}
  (h : (vp_in x3 240 ∧ (((σ.2.2 10026 o0 x3.toNatClampNeg) ≤ x4 → ((none : Option FieldType) = none ∧ Q none σ)) ∧ (¬ ((σ.2.2 10026 o0 x3.toNatClampNeg) ≤ x4) → ((¬ (σ.1 10007 o0) = 0 → ((none : Option FieldType) = none ∧ Q none σ)) ∧ (¬ (¬ (σ.1 10007 o0) = 0) → C 160 [vI (nI 2), vI x2, vI x4] σ (fun r σ1 => T163 C Q 130 [vO 10 o0, vI x1, vI x2, vI x3, vI x4] (r.toList ++ [vI x3, vO 10 o0]) σ1))))))) :
  T163 C Q 115 [vO 10 o0, vI x1, vI x2, vI x3, vI x4] [] σ := j2_T.go hC [0, 29, 37, 50, 58, 61, 84, 87, 104, 112, 115, 130, 131] 400 h
set_option maxRecDepth 100000 in
theorem b163_130 {C : j2_C} (hC : j2_up1 C) {Q : j2_P} {o0 : Nat} {x1 : Int32} {x2 : Int32} {x3 : Int32} {x4 : Int32} {xs0 : Int32} {xs1 : Int32} {os2 : Nat} {σ : j2_S}
  (h : C 166 [vO 10 os2, vI xs1, vI xs0] σ (fun r σ1 => T163 C Q 131 [vO 10 o0, vI x1, vI x2, vI x3, vI x4] (r.toList ++ []) σ1)) :
  T163 C Q 130 [vO 10 o0, vI x1, vI x2, vI x3, vI x4] [vI xs0, vI xs1, vO 10 os2] σ := j2_T.go hC [0, 29, 37, 50, 58, 61, 84, 87, 104, 112, 115, 130, 131] 400 h
set_option maxRecDepth 100000 in
theorem b163_131 {C : j2_C} (hC : j2_up1 C) {Q : j2_P} {o0 : Nat} {x1 : Int32} {x2 : Int32} {x3 : Int32} {x4 : Int32} {σ : j2_S}
  (h : T163 C Q 115 [vO 10 o0, vI x1, vI x2, vI x3, vI (x4 + (nI 1))] [] σ) :
  T163 C Q 131 [vO 10 o0, vI x1, vI x2, vI x3, vI x4] [] σ := j2_T.go hC [0, 29, 37, 50, 58, 61, 84, 87, 104, 112, 115, 130, 131] 400 h
abbrev T164 (C : j2_C) (Q : j2_P) : j2_K := j2_T C jc_X10_isJump (some .boolean) Q
set_option maxRecDepth 100000 in
theorem b164_0 {C : j2_C} (hC : j2_up1 C) {Q : j2_P} {x0 : Int32} {σ : j2_S}
  (h : ((x0 < (nI 11) → (((nI 0) = 0 ∨ (nI 0) = 1) ∧ Q (some (vI (nI 0))) σ)) ∧ (¬ (x0 < (nI 11)) → (((nI 14) < x0 → (((nI 0) = 0 ∨ (nI 0) = 1) ∧ Q (some (vI (nI 0))) σ)) ∧ (¬ ((nI 14) < x0) → (((nI 1) = 0 ∨ (nI 1) = 1) ∧ Q (some (vI (nI 1))) σ)))))) :
  T164 C Q 0 [vI x0] [] σ := j2_T.go hC [0] 400 h
abbrev T165 (C : j2_C) (Q : j2_P) : j2_K := j2_T C jc_X10_hasTwo (some .boolean) Q
set_option maxRecDepth 100000 in
theorem b165_0 {C : j2_C} (hC : j2_up1 C) {Q : j2_P} {x0 : Int32} {σ : j2_S}
  (h : ((x0 < (nI 16) → (((nI 0) = 0 ∨ (nI 0) = 1) ∧ Q (some (vI (nI 0))) σ)) ∧ (¬ (x0 < (nI 16)) → (((nI 21) < x0 → (((nI 0) = 0 ∨ (nI 0) = 1) ∧ Q (some (vI (nI 0))) σ)) ∧ (¬ ((nI 21) < x0) → (((nI 1) = 0 ∨ (nI 1) = 1) ∧ Q (some (vI (nI 1))) σ)))))) :
  T165 C Q 0 [vI x0] [] σ := j2_T.go hC [0] 400 h
abbrev T166 (C : j2_C) (Q : j2_P) : j2_K := j2_T C jc_X10_readInstruction none Q
set_option maxRecDepth 100000 in
theorem b166_0 {C : j2_C} (hC : j2_up1 C) {Q : j2_P} {o0 : Nat} {x1 : Int32} {x2 : Int32} {σ : j2_S}
  (h : C 159 [vO 10 o0, vI (nI 0), vI (nI 26)] σ (fun r σ1 => T166 C Q 4 [vO 10 o0, vI x1, vI x2, vM 2, vM 2] (r.toList ++ []) σ1)) :
  T166 C Q 0 [vO 10 o0, vI x1, vI x2, vM 2, vM 2] [] σ := j2_T.go hC [0, 4, 24, 40, 44, 50, 62, 63, 65, 78, 79, 84, 91, 103, 104, 114, 122] 400 h
set_option maxRecDepth 100000 in
theorem b166_4 {C : j2_C} (hC : j2_up1 C) {Q : j2_P} {o0 : Nat} {x1 : Int32} {x2 : Int32} {xs0 : Int32} {σ : j2_S}
  (h : (vp_in x2 28800 ∧ (vp_in x2 28800 ∧ (vp_in x2 28800 ∧ ((¬ xs0 = 0 → T166 C Q 44 [vO 10 o0, vI x1, vI x2, vI xs0, vM 2] [] (σ.1, σ.2.1, (j2_ast (j2_ast (j2_ast σ.2.2 10027 o0 x2.toNatClampNeg xs0) 10028 o0 x2.toNatClampNeg (nI 0)) 10029 o0 x2.toNatClampNeg (nI 0)))) ∧ (¬ (¬ xs0 = 0) → T166 C Q 24 [vO 10 o0, vI x1, vI x2, vI xs0, vI (nI 0)] [] (σ.1, σ.2.1, (j2_ast (j2_ast (j2_ast σ.2.2 10027 o0 x2.toNatClampNeg xs0) 10028 o0 x2.toNatClampNeg (nI 0)) 10029 o0 x2.toNatClampNeg (nI 0))))))))) :
  T166 C Q 4 [vO 10 o0, vI x1, vI x2, vM 2, vM 2] [vI xs0] σ := j2_T.go hC [0, 4, 24, 40, 44, 50, 62, 63, 65, 78, 79, 84, 91, 103, 104, 114, 122] 400 h
set_option maxRecDepth 100000 in
theorem b166_24 {C : j2_C} (hC : j2_up1 C) {Q : j2_P} {o0 : Nat} {x1 : Int32} {x2 : Int32} {x3 : Int32} {x4 : Int32} {σ : j2_S}
  (h : (((nI 4) ≤ x4 → T166 C Q 44 [vO 10 o0, vI x1, vI x2, vI x3, vI x4] [] σ) ∧ (¬ ((nI 4) ≤ x4) → (vp_in x2 28800 ∧ C 159 [vO 10 o0, vI (nI 0), vI (nI 255)] σ (fun r σ1 => T166 C Q 40 [vO 10 o0, vI x1, vI x2, vI x3, vI x4] (r.toList ++ [vI ((σ.2.2 10028 o0 x2.toNatClampNeg) <<< ((nI 8) &&& 31)), vI x2, vA 10028 o0]) σ1))))) :
  T166 C Q 24 [vO 10 o0, vI x1, vI x2, vI x3, vI x4] [] σ := j2_T.go hC [0, 4, 24, 40, 44, 50, 62, 63, 65, 78, 79, 84, 91, 103, 104, 114, 122] 400 h
set_option maxRecDepth 100000 in
theorem b166_40 {C : j2_C} (hC : j2_up1 C) {Q : j2_P} {o0 : Nat} {x1 : Int32} {x2 : Int32} {x3 : Int32} {x4 : Int32} {xs0 : Int32} {xs1 : Int32} {xs2 : Int32} {os3 : Nat} {σ : j2_S}
  (h : (vp_in xs2 28800 ∧ T166 C Q 24 [vO 10 o0, vI x1, vI x2, vI x3, vI (x4 + (nI 1))] [] (σ.1, σ.2.1, (j2_ast σ.2.2 10028 os3 xs2.toNatClampNeg (xs1 ||| xs0))))) :
  T166 C Q 40 [vO 10 o0, vI x1, vI x2, vI x3, vI x4] [vI xs0, vI xs1, vI xs2, vA 10028 os3] σ := j2_T.go hC [0, 4, 24, 40, 44, 50, 62, 63, 65, 78, 79, 84, 91, 103, 104, 114, 122] 400 h
set_option maxRecDepth 100000 in
theorem b166_44 {C : j2_C} (hC : j2_up1 C) {Q : j2_P} {o0 : Nat} {x1 : Int32} {x2 : Int32} {x3 : Int32} {w4 : j2_W} {σ : j2_S}
  (h : ((x3 = (nI 2) → T166 C Q 50 [vO 10 o0, vI x1, vI x2, vI x3, w4] [] σ) ∧ (¬ (x3 = (nI 2)) → ((¬ x3 = (nI 3) → T166 C Q 63 [vO 10 o0, vI x1, vI x2, vI x3, w4] [] σ) ∧ (¬ (¬ x3 = (nI 3)) → T166 C Q 50 [vO 10 o0, vI x1, vI x2, vI x3, w4] [] σ))))) :
  T166 C Q 44 [vO 10 o0, vI x1, vI x2, vI x3, w4] [] σ := j2_T.go hC [0, 4, 24, 40, 44, 50, 62, 63, 65, 78, 79, 84, 91, 103, 104, 114, 122] 400 h
set_option maxRecDepth 100000 in
theorem b166_50 {C : j2_C} (hC : j2_up1 C) {Q : j2_P} {o0 : Nat} {x1 : Int32} {x2 : Int32} {x3 : Int32} {w4 : j2_W} {σ : j2_S}
  (h : (vp_in x1 240 ∧ C 159 [vO 10 o0, vI (nI 0), vI ((σ.2.2 10025 o0 x1.toNatClampNeg) - (nI 1))] σ (fun r σ1 => T166 C Q 62 [vO 10 o0, vI x1, vI x2, vI x3, w4] (r.toList ++ [vI x2, vA 10028 o0]) σ1))) :
  T166 C Q 50 [vO 10 o0, vI x1, vI x2, vI x3, w4] [] σ := j2_T.go hC [0, 4, 24, 40, 44, 50, 62, 63, 65, 78, 79, 84, 91, 103, 104, 114, 122] 400 h
set_option maxRecDepth 100000 in
theorem b166_62 {C : j2_C} (hC : j2_up1 C) {Q : j2_P} {o0 : Nat} {x1 : Int32} {x2 : Int32} {x3 : Int32} {w4 : j2_W} {xs0 : Int32} {xs1 : Int32} {os2 : Nat} {σ : j2_S}
  (h : (vp_in xs1 28800 ∧ T166 C Q 63 [vO 10 o0, vI x1, vI x2, vI x3, w4] [] (σ.1, σ.2.1, (j2_ast σ.2.2 10028 os2 xs1.toNatClampNeg xs0)))) :
  T166 C Q 62 [vO 10 o0, vI x1, vI x2, vI x3, w4] [vI xs0, vI xs1, vA 10028 os2] σ := j2_T.go hC [0, 4, 24, 40, 44, 50, 62, 63, 65, 78, 79, 84, 91, 103, 104, 114, 122] 400 h
set_option maxRecDepth 100000 in
theorem b166_63 {C : j2_C} (hC : j2_up1 C) {Q : j2_P} {o0 : Nat} {x1 : Int32} {x2 : Int32} {x3 : Int32} {w4 : j2_W} {σ : j2_S}
  (h : C 164 [vI x3] σ (fun r σ1 => T166 C Q 65 [vO 10 o0, vI x1, vI x2, vI x3, w4] (r.toList ++ []) σ1)) :
  T166 C Q 63 [vO 10 o0, vI x1, vI x2, vI x3, w4] [] σ := j2_T.go hC [0, 4, 24, 40, 44, 50, 62, 63, 65, 78, 79, 84, 91, 103, 104, 114, 122] 400 h
set_option maxRecDepth 100000 in
theorem b166_65 {C : j2_C} (hC : j2_up1 C) {Q : j2_P} {o0 : Nat} {x1 : Int32} {x2 : Int32} {x3 : Int32} {w4 : j2_W} {xs0 : Int32} {σ : j2_S}
  (h : ((xs0 = 0 → T166 C Q 79 [vO 10 o0, vI x1, vI x2, vI x3, w4] [] σ) ∧ (¬ (xs0 = 0) → (vp_in x1 240 ∧ C 159 [vO 10 o0, vI (nI 0), vI ((σ.2.2 10026 o0 x1.toNatClampNeg) - (nI 1))] σ (fun r σ1 => T166 C Q 78 [vO 10 o0, vI x1, vI x2, vI x3, w4] (r.toList ++ [vI x2, vA 10028 o0]) σ1))))) :
  T166 C Q 65 [vO 10 o0, vI x1, vI x2, vI x3, w4] [vI xs0] σ := j2_T.go hC [0, 4, 24, 40, 44, 50, 62, 63, 65, 78, 79, 84, 91, 103, 104, 114, 122] 400 h
set_option maxRecDepth 100000 in
theorem b166_78 {C : j2_C} (hC : j2_up1 C) {Q : j2_P} {o0 : Nat} {x1 : Int32} {x2 : Int32} {x3 : Int32} {w4 : j2_W} {xs0 : Int32} {xs1 : Int32} {os2 : Nat} {σ : j2_S}
  (h : (vp_in xs1 28800 ∧ T166 C Q 79 [vO 10 o0, vI x1, vI x2, vI x3, w4] [] (σ.1, σ.2.1, (j2_ast σ.2.2 10028 os2 xs1.toNatClampNeg xs0)))) :
  T166 C Q 78 [vO 10 o0, vI x1, vI x2, vI x3, w4] [vI xs0, vI xs1, vA 10028 os2] σ := j2_T.go hC [0, 4, 24, 40, 44, 50, 62, 63, 65, 78, 79, 84, 91, 103, 104, 114, 122] 400 h
set_option maxRecDepth 100000 in
theorem b166_79 {C : j2_C} (hC : j2_up1 C) {Q : j2_P} {o0 : Nat} {x1 : Int32} {x2 : Int32} {x3 : Int32} {w4 : j2_W} {σ : j2_S}
  (h : ((x3 = (nI 15) → T166 C Q 91 [vO 10 o0, vI x1, vI x2, vI x3, w4] [] σ) ∧ (¬ (x3 = (nI 15)) → C 165 [vI x3] σ (fun r σ1 => T166 C Q 84 [vO 10 o0, vI x1, vI x2, vI x3, w4] (r.toList ++ []) σ1)))) :
  T166 C Q 79 [vO 10 o0, vI x1, vI x2, vI x3, w4] [] σ := j2_T.go hC [0, 4, 24, 40, 44, 50, 62, 63, 65, 78, 79, 84, 91, 103, 104, 114, 122] 400 h
set_option maxRecDepth 100000 in
theorem b166_84 {C : j2_C} (hC : j2_up1 C) {Q : j2_P} {o0 : Nat} {x1 : Int32} {x2 : Int32} {x3 : Int32} {w4 : j2_W} {xs0 : Int32} {σ : j2_S}
  (h : ((¬ xs0 = 0 → T166 C Q 91 [vO 10 o0, vI x1, vI x2, vI x3, w4] [] σ) ∧ (¬ (¬ xs0 = 0) → ((x3 = (nI 24) → T166 C Q 91 [vO 10 o0, vI x1, vI x2, vI x3, w4] [] σ) ∧ (¬ (x3 = (nI 24)) → ((¬ x3 = (nI 25) → T166 C Q 104 [vO 10 o0, vI x1, vI x2, vI x3, w4] [] σ) ∧ (¬ (¬ x3 = (nI 25)) → T166 C Q 91 [vO 10 o0, vI x1, vI x2, vI x3, w4] [] σ))))))) :
  T166 C Q 84 [vO 10 o0, vI x1, vI x2, vI x3, w4] [vI xs0] σ := j2_T.go hC [0, 4, 24, 40, 44, 50, 62, 63, 65, 78, 79, 84, 91, 103, 104, 114, 122] 400 h
set_option maxRecDepth 100000 in
theorem b166_91 {C : j2_C} (hC : j2_up1 C) {Q : j2_P} {o0 : Nat} {x1 : Int32} {x2 : Int32} {x3 : Int32} {w4 : j2_W} {σ : j2_S}
  (h : (vp_in (nI 2) 3 ∧ C 159 [vO 10 o0, vI (nI 0), vI ((σ.2.2 10009 o0 (nI 2).toNatClampNeg) - (nI 1))] σ (fun r σ1 => T166 C Q 103 [vO 10 o0, vI x1, vI x2, vI x3, w4] (r.toList ++ [vI x2, vA 10028 o0]) σ1))) :
  T166 C Q 91 [vO 10 o0, vI x1, vI x2, vI x3, w4] [] σ := j2_T.go hC [0, 4, 24, 40, 44, 50, 62, 63, 65, 78, 79, 84, 91, 103, 104, 114, 122] 400 h
set_option maxRecDepth 100000 in
theorem b166_103 {C : j2_C} (hC : j2_up1 C) {Q : j2_P} {o0 : Nat} {x1 : Int32} {x2 : Int32} {x3 : Int32} {w4 : j2_W} {xs0 : Int32} {xs1 : Int32} {os2 : Nat} {σ : j2_S}
  (h : (vp_in xs1 28800 ∧ T166 C Q 104 [vO 10 o0, vI x1, vI x2, vI x3, w4] [] (σ.1, σ.2.1, (j2_ast σ.2.2 10028 os2 xs1.toNatClampNeg xs0)))) :
  T166 C Q 103 [vO 10 o0, vI x1, vI x2, vI x3, w4] [vI xs0, vI xs1, vA 10028 os2] σ := j2_T.go hC [0, 4, 24, 40, 44, 50, 62, 63, 65, 78, 79, 84, 91, 103, 104, 114, 122] 400 h
set_option maxRecDepth 100000 in
theorem b166_104 {C : j2_C} (hC : j2_up1 C) {Q : j2_P} {o0 : Nat} {x1 : Int32} {x2 : Int32} {x3 : Int32} {w4 : j2_W} {σ : j2_S}
  (h : (vp_in (x2 - (nI 19200)) 9600 ∧ C 165 [vI x3] (σ.1, σ.2.1, (j2_ast σ.2.2 10033 o0 (x2 - (nI 19200)).toNatClampNeg (σ.1 10004 o0))) (fun r σ1 => T166 C Q 114 [vO 10 o0, vI x1, vI x2, vI x3, w4] (r.toList ++ []) σ1))) :
  T166 C Q 104 [vO 10 o0, vI x1, vI x2, vI x3, w4] [] σ := j2_T.go hC [0, 4, 24, 40, 44, 50, 62, 63, 65, 78, 79, 84, 91, 103, 104, 114, 122] 400 h
set_option maxRecDepth 100000 in
theorem b166_114 {C : j2_C} (hC : j2_up1 C) {Q : j2_P} {o0 : Nat} {x1 : Int32} {x2 : Int32} {x3 : Int32} {w4 : j2_W} {xs0 : Int32} {σ : j2_S}
  (h : ((xs0 = 0 → ((none : Option FieldType) = none ∧ Q none σ)) ∧ (¬ (xs0 = 0) → C 159 [vO 10 o0, vI (nI 0), vI (nI 255)] σ (fun r σ1 => T166 C Q 122 [vO 10 o0, vI x1, vI x2, vI x3, w4] (r.toList ++ [vI x2, vA 10029 o0]) σ1)))) :
  T166 C Q 114 [vO 10 o0, vI x1, vI x2, vI x3, w4] [vI xs0] σ := j2_T.go hC [0, 4, 24, 40, 44, 50, 62, 63, 65, 78, 79, 84, 91, 103, 104, 114, 122] 400 h
set_option maxRecDepth 100000 in
theorem b166_122 {C : j2_C} (hC : j2_up1 C) {Q : j2_P} {o0 : Nat} {x1 : Int32} {x2 : Int32} {x3 : Int32} {w4 : j2_W} {xs0 : Int32} {xs1 : Int32} {os2 : Nat} {σ : j2_S}
  (h : (vp_in xs1 28800 ∧ ((none : Option FieldType) = none ∧ Q none (σ.1, σ.2.1, (j2_ast σ.2.2 10029 os2 xs1.toNatClampNeg xs0))))) :
  T166 C Q 122 [vO 10 o0, vI x1, vI x2, vI x3, w4] [vI xs0, vI xs1, vA 10029 os2] σ := j2_T.go hC [0, 4, 24, 40, 44, 50, 62, 63, 65, 78, 79, 84, 91, 103, 104, 114, 122] 400 h
abbrev T167 (C : j2_C) (Q : j2_P) : j2_K := j2_T C jc_X10_checkTold none Q
set_option maxRecDepth 100000 in
theorem b167_0 {C : j2_C} (hC : j2_up1 C) {Q : j2_P} {o0 : Nat} {σ : j2_S}
  (h : T167 C Q 2 [vO 10 o0, vI (nI 0), vM 2, vM 2, vM 2, vM 2, vM 2] [] σ) :
  T167 C Q 0 [vO 10 o0, vM 2, vM 2, vM 2, vM 2, vM 2, vM 2] [] σ := j2_T.go hC [0, 2, 13, 28, 36, 44, 70, 74, 101, 105, 106, 134, 135, 148, 150] 400 h
set_option maxRecDepth 100000 in
theorem b167_2 {C : j2_C} (hC : j2_up1 C) {Q : j2_P} {o0 : Nat} {x1 : Int32} {w2 : j2_W} {w3 : j2_W} {w4 : j2_W} {w5 : j2_W} {w6 : j2_W} {σ : j2_S}
  (h : (vp_in (nI 2) 3 ∧ (((σ.2.2 10018 o0 (nI 2).toNatClampNeg) ≤ x1 → ((none : Option FieldType) = none ∧ Q none σ)) ∧ (¬ ((σ.2.2 10018 o0 (nI 2).toNatClampNeg) ≤ x1) → ((¬ (σ.1 10007 o0) = 0 → ((none : Option FieldType) = none ∧ Q none σ)) ∧ (¬ (¬ (σ.1 10007 o0) = 0) → T167 C Q 13 [vO 10 o0, vI x1, vI (nI 0), w3, w4, w5, w6] [] σ)))))) :
  T167 C Q 2 [vO 10 o0, vI x1, w2, w3, w4, w5, w6] [] σ := j2_T.go hC [0, 2, 13, 28, 36, 44, 70, 74, 101, 105, 106, 134, 135, 148, 150] 400 h
set_option maxRecDepth 100000 in
theorem b167_13 {C : j2_C} (hC : j2_up1 C) {Q : j2_P} {o0 : Nat} {x1 : Int32} {x2 : Int32} {w3 : j2_W} {w4 : j2_W} {w5 : j2_W} {w6 : j2_W} {σ : j2_S}
  (h : (vp_in ((nI 160) + x1) 240 ∧ (((σ.2.2 10026 o0 ((nI 160) + x1).toNatClampNeg) ≤ x2 → T167 C Q 150 [vO 10 o0, vI x1, vI x2, w3, w4, w5, w6] [] σ) ∧ (¬ ((σ.2.2 10026 o0 ((nI 160) + x1).toNatClampNeg) ≤ x2) → ((¬ (σ.1 10007 o0) = 0 → T167 C Q 150 [vO 10 o0, vI x1, vI x2, w3, w4, w5, w6] [] σ) ∧ (¬ (¬ (σ.1 10007 o0) = 0) → C 160 [vI (nI 2), vI x1, vI x2] σ (fun r σ1 => T167 C Q 28 [vO 10 o0, vI x1, vI x2, w3, w4, w5, w6] (r.toList ++ []) σ1))))))) :
  T167 C Q 13 [vO 10 o0, vI x1, vI x2, w3, w4, w5, w6] [] σ := j2_T.go hC [0, 2, 13, 28, 36, 44, 70, 74, 101, 105, 106, 134, 135, 148, 150] 400 h
set_option maxRecDepth 100000 in
theorem b167_28 {C : j2_C} (hC : j2_up1 C) {Q : j2_P} {o0 : Nat} {x1 : Int32} {x2 : Int32} {w3 : j2_W} {w4 : j2_W} {w5 : j2_W} {w6 : j2_W} {xs0 : Int32} {σ : j2_S}
  (h : (vp_in xs0 28800 ∧ C 165 [vI (σ.2.2 10027 o0 xs0.toNatClampNeg)] σ (fun r σ1 => T167 C Q 36 [vO 10 o0, vI x1, vI x2, vI xs0, vI (σ.2.2 10027 o0 xs0.toNatClampNeg), w5, w6] (r.toList ++ []) σ1))) :
  T167 C Q 28 [vO 10 o0, vI x1, vI x2, w3, w4, w5, w6] [vI xs0] σ := j2_T.go hC [0, 2, 13, 28, 36, 44, 70, 74, 101, 105, 106, 134, 135, 148, 150] 400 h
set_option maxRecDepth 100000 in
theorem b167_36 {C : j2_C} (hC : j2_up1 C) {Q : j2_P} {o0 : Nat} {x1 : Int32} {x2 : Int32} {x3 : Int32} {x4 : Int32} {w5 : j2_W} {w6 : j2_W} {xs0 : Int32} {σ : j2_S}
  (h : ((¬ xs0 = 0 → (((nI 19) < x4 → T167 C Q 44 [vO 10 o0, vI x1, vI x2, vI x3, vI x4, w5, w6] [vI (nI 0)] σ) ∧ (¬ ((nI 19) < x4) → T167 C Q 44 [vO 10 o0, vI x1, vI x2, vI x3, vI x4, w5, w6] [vI (nI 1)] σ))) ∧ (¬ (¬ xs0 = 0) → T167 C Q 148 [vO 10 o0, vI x1, vI x2, vI x3, vI x4, w5, w6] [] σ))) :
  T167 C Q 36 [vO 10 o0, vI x1, vI x2, vI x3, vI x4, w5, w6] [vI xs0] σ := j2_T.go hC [0, 2, 13, 28, 36, 44, 70, 74, 101, 105, 106, 134, 135, 148, 150] 400 h
set_option maxRecDepth 100000 in
theorem b167_44 {C : j2_C} (hC : j2_up1 C) {Q : j2_P} {o0 : Nat} {x1 : Int32} {x2 : Int32} {x3 : Int32} {x4 : Int32} {w5 : j2_W} {w6 : j2_W} {xs0 : Int32} {σ : j2_S}
  (h : (vp_in x3 28800 ∧ ((xs0 = 0 → (vp_in x3 28800 ∧ (vp_in ((nI 20) + (σ.2.2 10028 o0 x3.toNatClampNeg)) 30 ∧ T167 C Q 70 [vO 10 o0, vI x1, vI x2, vI x3, vI x4, vI xs0, w6] [vI (σ.2.2 10014 o0 ((nI 20) + (σ.2.2 10028 o0 x3.toNatClampNeg)).toNatClampNeg), vI (σ.2.2 10029 o0 x3.toNatClampNeg)] σ))) ∧ (¬ (xs0 = 0) → (vp_in x3 28800 ∧ (vp_in ((nI 20) + (σ.2.2 10028 o0 x3.toNatClampNeg)) 30 ∧ T167 C Q 70 [vO 10 o0, vI x1, vI x2, vI x3, vI x4, vI xs0, w6] [vI (σ.2.2 10012 o0 ((nI 20) + (σ.2.2 10028 o0 x3.toNatClampNeg)).toNatClampNeg), vI (σ.2.2 10029 o0 x3.toNatClampNeg)] σ)))))) :
  T167 C Q 44 [vO 10 o0, vI x1, vI x2, vI x3, vI x4, w5, w6] [vI xs0] σ := j2_T.go hC [0, 2, 13, 28, 36, 44, 70, 74, 101, 105, 106, 134, 135, 148, 150] 400 h
set_option maxRecDepth 100000 in
theorem b167_70 {C : j2_C} (hC : j2_up1 C) {Q : j2_P} {o0 : Nat} {x1 : Int32} {x2 : Int32} {x3 : Int32} {x4 : Int32} {x5 : Int32} {w6 : j2_W} {xs0 : Int32} {xs1 : Int32} {σ : j2_S}
  (h : ((xs0 ≤ xs1 → T167 C Q 74 [vO 10 o0, vI x1, vI x2, vI x3, vI x4, vI x5, w6] [vI (nI 0)] σ) ∧ (¬ (xs0 ≤ xs1) → T167 C Q 74 [vO 10 o0, vI x1, vI x2, vI x3, vI x4, vI x5, w6] [vI (nI 1)] σ))) :
  T167 C Q 70 [vO 10 o0, vI x1, vI x2, vI x3, vI x4, vI x5, w6] [vI xs0, vI xs1] σ := j2_T.go hC [0, 2, 13, 28, 36, 44, 70, 74, 101, 105, 106, 134, 135, 148, 150] 400 h
set_option maxRecDepth 100000 in
theorem b167_74 {C : j2_C} (hC : j2_up1 C) {Q : j2_P} {o0 : Nat} {x1 : Int32} {x2 : Int32} {x3 : Int32} {x4 : Int32} {x5 : Int32} {w6 : j2_W} {xs0 : Int32} {σ : j2_S}
  (h : ((xs0 = 0 → T167 C Q 106 [vO 10 o0, vI x1, vI x2, vI x3, vI x4, vI x5, vI xs0] [] σ) ∧ (¬ (xs0 = 0) → ((x5 = 0 → T167 C Q 106 [vO 10 o0, vI x1, vI x2, vI x3, vI x4, vI x5, vI xs0] [] σ) ∧ (¬ (x5 = 0) → (vp_in x3 28800 ∧ (vp_in x3 28800 ∧ (vp_in (((nI 120) + ((nI 6) * (σ.2.2 10028 o0 x3.toNatClampNeg))) + (σ.2.2 10029 o0 x3.toNatClampNeg)) 180 ∧ ((x4 < (nI 18) → T167 C Q 101 [vO 10 o0, vI x1, vI x2, vI x3, vI x4, vI x5, vI xs0] [vI (nI 0), vI (σ.2.2 10017 o0 (((nI 120) + ((nI 6) * (σ.2.2 10028 o0 x3.toNatClampNeg))) + (σ.2.2 10029 o0 x3.toNatClampNeg)).toNatClampNeg)] σ) ∧ (¬ (x4 < (nI 18)) → T167 C Q 101 [vO 10 o0, vI x1, vI x2, vI x3, vI x4, vI x5, vI xs0] [vI (nI 1), vI (σ.2.2 10017 o0 (((nI 120) + ((nI 6) * (σ.2.2 10028 o0 x3.toNatClampNeg))) + (σ.2.2 10029 o0 x3.toNatClampNeg)).toNatClampNeg)] σ)))))))))) :
  T167 C Q 74 [vO 10 o0, vI x1, vI x2, vI x3, vI x4, vI x5, w6] [vI xs0] σ := j2_T.go hC [0, 2, 13, 28, 36, 44, 70, 74, 101, 105, 106, 134, 135, 148, 150] 400 h
set_option maxRecDepth 100000 in
theorem b167_101 {C : j2_C} (hC : j2_up1 C) {Q : j2_P} {o0 : Nat} {x1 : Int32} {x2 : Int32} {x3 : Int32} {x4 : Int32} {x5 : Int32} {x6 : Int32} {xs0 : Int32} {xs1 : Int32} {σ : j2_S}
  (h : ((¬ xs1 = xs0 → T167 C Q 105 [vO 10 o0, vI x1, vI x2, vI x3, vI x4, vI x5, vI x6] [vI (nI 0)] σ) ∧ (¬ (¬ xs1 = xs0) → T167 C Q 105 [vO 10 o0, vI x1, vI x2, vI x3, vI x4, vI x5, vI x6] [vI (nI 1)] σ))) :
  T167 C Q 101 [vO 10 o0, vI x1, vI x2, vI x3, vI x4, vI x5, vI x6] [vI xs0, vI xs1] σ := j2_T.go hC [0, 2, 13, 28, 36, 44, 70, 74, 101, 105, 106, 134, 135, 148, 150] 400 h
set_option maxRecDepth 100000 in
theorem b167_105 {C : j2_C} (hC : j2_up1 C) {Q : j2_P} {o0 : Nat} {x1 : Int32} {x2 : Int32} {x3 : Int32} {x4 : Int32} {x5 : Int32} {x6 : Int32} {xs0 : Int32} {σ : j2_S}
  (h : T167 C Q 106 [vO 10 o0, vI x1, vI x2, vI x3, vI x4, vI x5, vI xs0] [] σ) :
  T167 C Q 105 [vO 10 o0, vI x1, vI x2, vI x3, vI x4, vI x5, vI x6] [vI xs0] σ := j2_T.go hC [0, 2, 13, 28, 36, 44, 70, 74, 101, 105, 106, 134, 135, 148, 150] 400 h
set_option maxRecDepth 100000 in
theorem b167_106 {C : j2_C} (hC : j2_up1 C) {Q : j2_P} {o0 : Nat} {x1 : Int32} {x2 : Int32} {x3 : Int32} {x4 : Int32} {x5 : Int32} {x6 : Int32} {σ : j2_S}
  (h : ((x6 = 0 → T167 C Q 135 [vO 10 o0, vI x1, vI x2, vI x3, vI x4, vI x5, vI x6] [] σ) ∧ (¬ (x6 = 0) → ((¬ x4 = (nI 21) → T167 C Q 135 [vO 10 o0, vI x1, vI x2, vI x3, vI x4, vI x5, vI x6] [] σ) ∧ (¬ (¬ x4 = (nI 21)) → (vp_in x3 28800 ∧ (vp_in ((nI 20) + (σ.2.2 10028 o0 x3.toNatClampNeg)) 30 ∧ (vp_in x3 28800 ∧ (vp_in (((nI 160) + (σ.2.2 10013 o0 ((nI 20) + (σ.2.2 10028 o0 x3.toNatClampNeg)).toNatClampNeg)) + (σ.2.2 10029 o0 x3.toNatClampNeg)) 240 ∧ ((¬ (σ.2.2 10021 o0 (((nI 160) + (σ.2.2 10013 o0 ((nI 20) + (σ.2.2 10028 o0 x3.toNatClampNeg)).toNatClampNeg)) + (σ.2.2 10029 o0 x3.toNatClampNeg)).toNatClampNeg) = 0 → T167 C Q 134 [vO 10 o0, vI x1, vI x2, vI x3, vI x4, vI x5, vI x6] [vI (nI 0)] σ) ∧ (¬ (¬ (σ.2.2 10021 o0 (((nI 160) + (σ.2.2 10013 o0 ((nI 20) + (σ.2.2 10028 o0 x3.toNatClampNeg)).toNatClampNeg)) + (σ.2.2 10029 o0 x3.toNatClampNeg)).toNatClampNeg) = 0) → T167 C Q 134 [vO 10 o0, vI x1, vI x2, vI x3, vI x4, vI x5, vI x6] [vI (nI 1)] σ))))))))))) :
  T167 C Q 106 [vO 10 o0, vI x1, vI x2, vI x3, vI x4, vI x5, vI x6] [] σ := j2_T.go hC [0, 2, 13, 28, 36, 44, 70, 74, 101, 105, 106, 134, 135, 148, 150] 400 h
set_option maxRecDepth 100000 in
theorem b167_134 {C : j2_C} (hC : j2_up1 C) {Q : j2_P} {o0 : Nat} {x1 : Int32} {x2 : Int32} {x3 : Int32} {x4 : Int32} {x5 : Int32} {x6 : Int32} {xs0 : Int32} {σ : j2_S}
  (h : T167 C Q 135 [vO 10 o0, vI x1, vI x2, vI x3, vI x4, vI x5, vI xs0] [] σ) :
  T167 C Q 134 [vO 10 o0, vI x1, vI x2, vI x3, vI x4, vI x5, vI x6] [vI xs0] σ := j2_T.go hC [0, 2, 13, 28, 36, 44, 70, 74, 101, 105, 106, 134, 135, 148, 150] 400 h
set_option maxRecDepth 100000 in
theorem b167_135 {C : j2_C} (hC : j2_up1 C) {Q : j2_P} {o0 : Nat} {x1 : Int32} {x2 : Int32} {x3 : Int32} {x4 : Int32} {x5 : Int32} {x6 : Int32} {σ : j2_S}
  (h : ((¬ x6 = 0 → T167 C Q 148 [vO 10 o0, vI x1, vI x2, vI x3, vI x4, vI x5, vI x6] [] σ) ∧ (¬ (¬ x6 = 0) → (vp_in (x3 - (nI 19200)) 9600 ∧ C 158 [vO 10 o0, vI (nI 1), vI (σ.2.2 10033 o0 (x3 - (nI 19200)).toNatClampNeg), vI (-1 : Int32), vI (-1 : Int32)] σ (fun r σ1 => T167 C Q 148 [vO 10 o0, vI x1, vI x2, vI x3, vI x4, vI x5, vI x6] (r.toList ++ []) σ1))))) :
  T167 C Q 135 [vO 10 o0, vI x1, vI x2, vI x3, vI x4, vI x5, vI x6] [] σ := j2_T.go hC [0, 2, 13, 28, 36, 44, 70, 74, 101, 105, 106, 134, 135, 148, 150] 400 h
set_option maxRecDepth 100000 in
theorem b167_148 {C : j2_C} (hC : j2_up1 C) {Q : j2_P} {o0 : Nat} {x1 : Int32} {x2 : Int32} {x3 : Int32} {x4 : Int32} {w5 : j2_W} {w6 : j2_W} {σ : j2_S}
  (h : T167 C Q 13 [vO 10 o0, vI x1, vI (x2 + (nI 1)), vI x3, vI x4, w5, w6] [] σ) :
  T167 C Q 148 [vO 10 o0, vI x1, vI x2, vI x3, vI x4, w5, w6] [] σ := j2_T.go hC [0, 2, 13, 28, 36, 44, 70, 74, 101, 105, 106, 134, 135, 148, 150] 400 h
set_option maxRecDepth 100000 in
theorem b167_150 {C : j2_C} (hC : j2_up1 C) {Q : j2_P} {o0 : Nat} {x1 : Int32} {x2 : Int32} {w3 : j2_W} {w4 : j2_W} {w5 : j2_W} {w6 : j2_W} {σ : j2_S}
  (h : T167 C Q 2 [vO 10 o0, vI (x1 + (nI 1)), vI x2, w3, w4, w5, w6] [] σ) :
  T167 C Q 150 [vO 10 o0, vI x1, vI x2, w3, w4, w5, w6] [] σ := j2_T.go hC [0, 2, 13, 28, 36, 44, 70, 74, 101, 105, 106, 134, 135, 148, 150] 400 h
abbrev T168 (C : j2_C) (Q : j2_P) : j2_K := j2_T C jc_X10_sameShape (some .boolean) Q
set_option maxRecDepth 100000 in
theorem b168_0 {C : j2_C} (hC : j2_up1 C) {Q : j2_P} {o0 : Nat} {x1 : Int32} {x2 : Int32} {σ : j2_S}
  (h : (vp_in x1 240 ∧ ((¬ (σ.2.2 10021 o0 x1.toNatClampNeg) = 0 → T168 C Q 30 [vO 10 o0, vI x1, vI x2, vM 2, vM 2] [] σ) ∧ (¬ (¬ (σ.2.2 10021 o0 x1.toNatClampNeg) = 0) → (vp_in x2 240 ∧ ((¬ (σ.2.2 10021 o0 x2.toNatClampNeg) = 0 → T168 C Q 30 [vO 10 o0, vI x1, vI x2, vM 2, vM 2] [] σ) ∧ (¬ (¬ (σ.2.2 10021 o0 x2.toNatClampNeg) = 0) → (vp_in x1 240 ∧ (vp_in x2 240 ∧ ((¬ (σ.2.2 10022 o0 x1.toNatClampNeg) = (σ.2.2 10022 o0 x2.toNatClampNeg) → T168 C Q 30 [vO 10 o0, vI x1, vI x2, vM 2, vM 2] [] σ) ∧ (¬ (¬ (σ.2.2 10022 o0 x1.toNatClampNeg) = (σ.2.2 10022 o0 x2.toNatClampNeg)) → (vp_in x1 240 ∧ (vp_in x2 240 ∧ ((¬ (σ.2.2 10023 o0 x1.toNatClampNeg) = (σ.2.2 10023 o0 x2.toNatClampNeg) → T168 C Q 30 [vO 10 o0, vI x1, vI x2, vM 2, vM 2] [] σ) ∧ (¬ (¬ (σ.2.2 10023 o0 x1.toNatClampNeg) = (σ.2.2 10023 o0 x2.toNatClampNeg)) → T168 C Q 31 [vO 10 o0, vI x1, vI x2, vM 2, vM 2] [vI (nI 1)] σ))))))))))))))) :
  T168 C Q 0 [vO 10 o0, vI x1, vI x2, vM 2, vM 2] [] σ := j2_T.go hC [0, 30, 31, 34, 62, 65] 400 h
set_option maxRecDepth 100000 in
theorem b168_30 {C : j2_C} (hC : j2_up1 C) {Q : j2_P} {o0 : Nat} {x1 : Int32} {x2 : Int32} {σ : j2_S}
  (h : T168 C Q 31 [vO 10 o0, vI x1, vI x2, vM 2, vM 2] [vI (nI 0)] σ) :
  T168 C Q 30 [vO 10 o0, vI x1, vI x2, vM 2, vM 2] [] σ := j2_T.go hC [0, 30, 31, 34, 62, 65] 400 h
set_option maxRecDepth 100000 in
theorem b168_31 {C : j2_C} (hC : j2_up1 C) {Q : j2_P} {o0 : Nat} {x1 : Int32} {x2 : Int32} {xs0 : Int32} {σ : j2_S}
  (h : T168 C Q 34 [vO 10 o0, vI x1, vI x2, vI xs0, vI (nI 0)] [] σ) :
  T168 C Q 31 [vO 10 o0, vI x1, vI x2, vM 2, vM 2] [vI xs0] σ := j2_T.go hC [0, 30, 31, 34, 62, 65] 400 h
set_option maxRecDepth 100000 in
theorem b168_34 {C : j2_C} (hC : j2_up1 C) {Q : j2_P} {o0 : Nat} {x1 : Int32} {x2 : Int32} {x3 : Int32} {x4 : Int32} {σ : j2_S}
  (h : (((nI 3) ≤ x4 → ((x3 = 0 ∨ x3 = 1) ∧ Q (some (vI x3)) σ)) ∧ (¬ ((nI 3) ≤ x4) → ((x3 = 0 → ((x3 = 0 ∨ x3 = 1) ∧ Q (some (vI x3)) σ)) ∧ (¬ (x3 = 0) → (vp_in x1 240 ∧ (((σ.2.2 10023 o0 x1.toNatClampNeg) ≤ x4 → T168 C Q 62 [vO 10 o0, vI x1, vI x2, vI x3, vI x4] [] σ) ∧ (¬ ((σ.2.2 10023 o0 x1.toNatClampNeg) ≤ x4) → (vp_in (((nI 3) * x1) + x4) 720 ∧ (vp_in (((nI 3) * x2) + x4) 720 ∧ ((¬ (σ.2.2 10024 o0 (((nI 3) * x1) + x4).toNatClampNeg) = (σ.2.2 10024 o0 (((nI 3) * x2) + x4).toNatClampNeg) → T168 C Q 65 [vO 10 o0, vI x1, vI x2, vI x3, vI x4] [vI (nI 0)] σ) ∧ (¬ (¬ (σ.2.2 10024 o0 (((nI 3) * x1) + x4).toNatClampNeg) = (σ.2.2 10024 o0 (((nI 3) * x2) + x4).toNatClampNeg)) → T168 C Q 62 [vO 10 o0, vI x1, vI x2, vI x3, vI x4] [] σ)))))))))))) :
  T168 C Q 34 [vO 10 o0, vI x1, vI x2, vI x3, vI x4] [] σ := j2_T.go hC [0, 30, 31, 34, 62, 65] 400 h
set_option maxRecDepth 100000 in
theorem b168_62 {C : j2_C} (hC : j2_up1 C) {Q : j2_P} {o0 : Nat} {x1 : Int32} {x2 : Int32} {x3 : Int32} {x4 : Int32} {σ : j2_S}
  (h : T168 C Q 65 [vO 10 o0, vI x1, vI x2, vI x3, vI x4] [vI (nI 1)] σ) :
  T168 C Q 62 [vO 10 o0, vI x1, vI x2, vI x3, vI x4] [] σ := j2_T.go hC [0, 30, 31, 34, 62, 65] 400 h
set_option maxRecDepth 100000 in
theorem b168_65 {C : j2_C} (hC : j2_up1 C) {Q : j2_P} {o0 : Nat} {x1 : Int32} {x2 : Int32} {x3 : Int32} {x4 : Int32} {xs0 : Int32} {σ : j2_S}
  (h : T168 C Q 34 [vO 10 o0, vI x1, vI x2, vI xs0, vI (x4 + (nI 1))] [] σ) :
  T168 C Q 65 [vO 10 o0, vI x1, vI x2, vI x3, vI x4] [vI xs0] σ := j2_T.go hC [0, 30, 31, 34, 62, 65] 400 h
abbrev T169 (C : j2_C) (Q : j2_P) : j2_K := j2_T C jc_X10_checkNames none Q
set_option maxRecDepth 100000 in
theorem b169_0 {C : j2_C} (hC : j2_up1 C) {Q : j2_P} {o0 : Nat} {σ : j2_S}
  (h : T169 C Q 2 [vO 10 o0, vI (nI 0), vM 2, vM 2, vM 2, vM 2, vM 2, vM 2] [] σ) :
  T169 C Q 0 [vO 10 o0, vM 2, vM 2, vM 2, vM 2, vM 2, vM 2, vM 2] [] σ := j2_T.go hC [0, 2, 13, 23, 53, 59, 85, 110, 111, 121, 125, 159, 160, 162, 163, 182, 184] 400 h
set_option maxRecDepth 100000 in
theorem b169_2 {C : j2_C} (hC : j2_up1 C) {Q : j2_P} {o0 : Nat} {x1 : Int32} {w2 : j2_W} {w3 : j2_W} {w4 : j2_W} {w5 : j2_W} {w6 : j2_W} {w7 : j2_W} {σ : j2_S}
  (h : (vp_in (nI 2) 3 ∧ (((σ.2.2 10009 o0 (nI 2).toNatClampNeg) ≤ x1 → ((none : Option FieldType) = none ∧ Q none σ)) ∧ (¬ ((σ.2.2 10009 o0 (nI 2).toNatClampNeg) ≤ x1) → ((¬ (σ.1 10007 o0) = 0 → ((none : Option FieldType) = none ∧ Q none σ)) ∧ (¬ (¬ (σ.1 10007 o0) = 0) → T169 C Q 13 [vO 10 o0, vI x1, vI (nI 0), w3, w4, w5, w6, w7] [] σ)))))) :
  T169 C Q 2 [vO 10 o0, vI x1, w2, w3, w4, w5, w6, w7] [] σ := j2_T.go hC [0, 2, 13, 23, 53, 59, 85, 110, 111, 121, 125, 159, 160, 162, 163, 182, 184] 400 h
set_option maxRecDepth 100000 in
theorem b169_13 {C : j2_C} (hC : j2_up1 C) {Q : j2_P} {o0 : Nat} {x1 : Int32} {x2 : Int32} {w3 : j2_W} {w4 : j2_W} {w5 : j2_W} {w6 : j2_W} {w7 : j2_W} {σ : j2_S}
  (h : (vp_in ((nI 20) + x1) 30 ∧ (((σ.2.2 10012 o0 ((nI 20) + x1).toNatClampNeg) ≤ x2 → T169 C Q 59 [vO 10 o0, vI x1, vI (nI 0), w3, w4, w5, w6, w7] [] σ) ∧ (¬ ((σ.2.2 10012 o0 ((nI 20) + x1).toNatClampNeg) ≤ x2) → T169 C Q 23 [vO 10 o0, vI x1, vI x2, vI (nI 0), w4, w5, w6, w7] [] σ)))) :
  T169 C Q 13 [vO 10 o0, vI x1, vI x2, w3, w4, w5, w6, w7] [] σ := j2_T.go hC [0, 2, 13, 23, 53, 59, 85, 110, 111, 121, 125, 159, 160, 162, 163, 182, 184] 400 h
set_option maxRecDepth 100000 in
theorem b169_23 {C : j2_C} (hC : j2_up1 C) {Q : j2_P} {o0 : Nat} {x1 : Int32} {x2 : Int32} {x3 : Int32} {w4 : j2_W} {w5 : j2_W} {w6 : j2_W} {w7 : j2_W} {σ : j2_S}
  (h : ((x2 ≤ x3 → T169 C Q 13 [vO 10 o0, vI x1, vI (x2 + (nI 1)), vI x3, w4, w5, w6, w7] [] σ) ∧ (¬ (x2 ≤ x3) → (vp_in (((nI 120) + ((nI 6) * x1)) + x2) 180 ∧ (vp_in (((nI 120) + ((nI 6) * x1)) + x3) 180 ∧ ((¬ (σ.2.2 10015 o0 (((nI 120) + ((nI 6) * x1)) + x2).toNatClampNeg) = (σ.2.2 10015 o0 (((nI 120) + ((nI 6) * x1)) + x3).toNatClampNeg) → T169 C Q 53 [vO 10 o0, vI x1, vI x2, vI x3, w4, w5, w6, w7] [] σ) ∧ (¬ (¬ (σ.2.2 10015 o0 (((nI 120) + ((nI 6) * x1)) + x2).toNatClampNeg) = (σ.2.2 10015 o0 (((nI 120) + ((nI 6) * x1)) + x3).toNatClampNeg)) → C 158 [vO 10 o0, vI (nI 2), vI x1, vI x2, vI (nI 0)] σ (fun r σ1 => T169 C Q 53 [vO 10 o0, vI x1, vI x2, vI x3, w4, w5, w6, w7] (r.toList ++ []) σ1)))))))) :
  T169 C Q 23 [vO 10 o0, vI x1, vI x2, vI x3, w4, w5, w6, w7] [] σ := j2_T.go hC [0, 2, 13, 23, 53, 59, 85, 110, 111, 121, 125, 159, 160, 162, 163, 182, 184] 400 h
set_option maxRecDepth 100000 in
theorem b169_53 {C : j2_C} (hC : j2_up1 C) {Q : j2_P} {o0 : Nat} {x1 : Int32} {x2 : Int32} {x3 : Int32} {w4 : j2_W} {w5 : j2_W} {w6 : j2_W} {w7 : j2_W} {σ : j2_S}
  (h : T169 C Q 23 [vO 10 o0, vI x1, vI x2, vI (x3 + (nI 1)), w4, w5, w6, w7] [] σ) :
  T169 C Q 53 [vO 10 o0, vI x1, vI x2, vI x3, w4, w5, w6, w7] [] σ := j2_T.go hC [0, 2, 13, 23, 53, 59, 85, 110, 111, 121, 125, 159, 160, 162, 163, 182, 184] 400 h
set_option maxRecDepth 100000 in
theorem b169_59 {C : j2_C} (hC : j2_up1 C) {Q : j2_P} {o0 : Nat} {x1 : Int32} {x2 : Int32} {w3 : j2_W} {w4 : j2_W} {w5 : j2_W} {w6 : j2_W} {w7 : j2_W} {σ : j2_S}
  (h : (vp_in ((nI 20) + x1) 30 ∧ (((σ.2.2 10014 o0 ((nI 20) + x1).toNatClampNeg) ≤ x2 → T169 C Q 184 [vO 10 o0, vI x1, vI x2, w3, w4, w5, w6, w7] [] σ) ∧ (¬ ((σ.2.2 10014 o0 ((nI 20) + x1).toNatClampNeg) ≤ x2) → ((¬ (σ.1 10007 o0) = 0 → T169 C Q 184 [vO 10 o0, vI x1, vI x2, w3, w4, w5, w6, w7] [] σ) ∧ (¬ (¬ (σ.1 10007 o0) = 0) → (vp_in ((nI 20) + x1) 30 ∧ T169 C Q 85 [vO 10 o0, vI x1, vI x2, vI (((nI 160) + (σ.2.2 10013 o0 ((nI 20) + x1).toNatClampNeg)) + x2), vI (nI 1), vI (nI 0), w6, w7] [] σ))))))) :
  T169 C Q 59 [vO 10 o0, vI x1, vI x2, w3, w4, w5, w6, w7] [] σ := j2_T.go hC [0, 2, 13, 23, 53, 59, 85, 110, 111, 121, 125, 159, 160, 162, 163, 182, 184] 400 h
set_option maxRecDepth 100000 in
theorem b169_85 {C : j2_C} (hC : j2_up1 C) {Q : j2_P} {o0 : Nat} {x1 : Int32} {x2 : Int32} {x3 : Int32} {x4 : Int32} {x5 : Int32} {w6 : j2_W} {w7 : j2_W} {σ : j2_S}
  (h : ((x2 ≤ x5 → (vp_in ((nI 20) + x1) 30 ∧ T169 C Q 121 [vO 10 o0, vI x1, vI x2, vI x3, vI x4, vI (σ.2.2 10011 o0 ((nI 20) + x1).toNatClampNeg), w6, w7] [] σ)) ∧ (¬ (x2 ≤ x5) → ((x4 = 0 → T169 C Q 110 [vO 10 o0, vI x1, vI x2, vI x3, vI x4, vI x5, w6, w7] [] σ) ∧ (¬ (x4 = 0) → (vp_in ((nI 20) + x1) 30 ∧ (vp_in (((nI 160) + (σ.2.2 10013 o0 ((nI 20) + x1).toNatClampNeg)) + x5) 240 ∧ (vp_in x3 240 ∧ (((σ.2.2 10020 o0 (((nI 160) + (σ.2.2 10013 o0 ((nI 20) + x1).toNatClampNeg)) + x5).toNatClampNeg) = (σ.2.2 10020 o0 x3.toNatClampNeg) → T169 C Q 110 [vO 10 o0, vI x1, vI x2, vI x3, vI x4, vI x5, w6, w7] [] σ) ∧ (¬ ((σ.2.2 10020 o0 (((nI 160) + (σ.2.2 10013 o0 ((nI 20) + x1).toNatClampNeg)) + x5).toNatClampNeg) = (σ.2.2 10020 o0 x3.toNatClampNeg)) → T169 C Q 111 [vO 10 o0, vI x1, vI x2, vI x3, vI x4, vI x5, w6, w7] [vI (nI 1)] σ)))))))))) :
  T169 C Q 85 [vO 10 o0, vI x1, vI x2, vI x3, vI x4, vI x5, w6, w7] [] σ := j2_T.go hC [0, 2, 13, 23, 53, 59, 85, 110, 111, 121, 125, 159, 160, 162, 163, 182, 184] 400 h
set_option maxRecDepth 100000 in
theorem b169_110 {C : j2_C} (hC : j2_up1 C) {Q : j2_P} {o0 : Nat} {x1 : Int32} {x2 : Int32} {x3 : Int32} {x4 : Int32} {x5 : Int32} {w6 : j2_W} {w7 : j2_W} {σ : j2_S}
  (h : T169 C Q 111 [vO 10 o0, vI x1, vI x2, vI x3, vI x4, vI x5, w6, w7] [vI (nI 0)] σ) :
  T169 C Q 110 [vO 10 o0, vI x1, vI x2, vI x3, vI x4, vI x5, w6, w7] [] σ := j2_T.go hC [0, 2, 13, 23, 53, 59, 85, 110, 111, 121, 125, 159, 160, 162, 163, 182, 184] 400 h
set_option maxRecDepth 100000 in
theorem b169_111 {C : j2_C} (hC : j2_up1 C) {Q : j2_P} {o0 : Nat} {x1 : Int32} {x2 : Int32} {x3 : Int32} {x4 : Int32} {x5 : Int32} {w6 : j2_W} {w7 : j2_W} {xs0 : Int32} {σ : j2_S}
  (h : T169 C Q 85 [vO 10 o0, vI x1, vI x2, vI x3, vI xs0, vI (x5 + (nI 1)), w6, w7] [] σ) :
  T169 C Q 111 [vO 10 o0, vI x1, vI x2, vI x3, vI x4, vI x5, w6, w7] [vI xs0] σ := j2_T.go hC [0, 2, 13, 23, 53, 59, 85, 110, 111, 121, 125, 159, 160, 162, 163, 182, 184] 400 h
set_option maxRecDepth 100000 in
theorem b169_121 {C : j2_C} (hC : j2_up1 C) {Q : j2_P} {o0 : Nat} {x1 : Int32} {x2 : Int32} {x3 : Int32} {x4 : Int32} {x5 : Int32} {w6 : j2_W} {w7 : j2_W} {σ : j2_S}
  (h : ((x5 < 0 → ((¬ x4 = 0 → T169 C Q 182 [vO 10 o0, vI x1, vI x2, vI x3, vI x4, vI x5, w6, w7] [] σ) ∧ (¬ (¬ x4 = 0) → C 158 [vO 10 o0, vI (nI 2), vI x1, vI x2, vI (nI 1)] σ (fun r σ1 => T169 C Q 182 [vO 10 o0, vI x1, vI x2, vI x3, vI x4, vI x5, w6, w7] (r.toList ++ []) σ1)))) ∧ (¬ (x5 < 0) → T169 C Q 125 [vO 10 o0, vI x1, vI x2, vI x3, vI x4, vI x5, vI (nI 0), w7] [] σ))) :
  T169 C Q 121 [vO 10 o0, vI x1, vI x2, vI x3, vI x4, vI x5, w6, w7] [] σ := j2_T.go hC [0, 2, 13, 23, 53, 59, 85, 110, 111, 121, 125, 159, 160, 162, 163, 182, 184] 400 h
set_option maxRecDepth 100000 in
theorem b169_125 {C : j2_C} (hC : j2_up1 C) {Q : j2_P} {o0 : Nat} {x1 : Int32} {x2 : Int32} {x3 : Int32} {x4 : Int32} {x5 : Int32} {x6 : Int32} {w7 : j2_W} {σ : j2_S}
  (h : (vp_in ((nI 20) + x5) 30 ∧ (((σ.2.2 10014 o0 ((nI 20) + x5).toNatClampNeg) ≤ x6 → (vp_in ((nI 20) + x5) 30 ∧ T169 C Q 121 [vO 10 o0, vI x1, vI x2, vI x3, vI x4, vI (σ.2.2 10011 o0 ((nI 20) + x5).toNatClampNeg), vI x6, w7] [] σ)) ∧ (¬ ((σ.2.2 10014 o0 ((nI 20) + x5).toNatClampNeg) ≤ x6) → (vp_in ((nI 20) + x5) 30 ∧ ((x4 = 0 → T169 C Q 162 [vO 10 o0, vI x1, vI x2, vI x3, vI x4, vI x5, vI x6, vI (((nI 160) + (σ.2.2 10013 o0 ((nI 20) + x5).toNatClampNeg)) + x6)] [] σ) ∧ (¬ (x4 = 0) → (vp_in (((nI 160) + (σ.2.2 10013 o0 ((nI 20) + x5).toNatClampNeg)) + x6) 240 ∧ (vp_in x3 240 ∧ ((¬ (σ.2.2 10020 o0 (((nI 160) + (σ.2.2 10013 o0 ((nI 20) + x5).toNatClampNeg)) + x6).toNatClampNeg) = (σ.2.2 10020 o0 x3.toNatClampNeg) → T169 C Q 160 [vO 10 o0, vI x1, vI x2, vI x3, vI x4, vI x5, vI x6, vI (((nI 160) + (σ.2.2 10013 o0 ((nI 20) + x5).toNatClampNeg)) + x6)] [] σ) ∧ (¬ (¬ (σ.2.2 10020 o0 (((nI 160) + (σ.2.2 10013 o0 ((nI 20) + x5).toNatClampNeg)) + x6).toNatClampNeg) = (σ.2.2 10020 o0 x3.toNatClampNeg)) → C 168 [vO 10 o0, vI x3, vI (((nI 160) + (σ.2.2 10013 o0 ((nI 20) + x5).toNatClampNeg)) + x6)] σ (fun r σ1 => T169 C Q 159 [vO 10 o0, vI x1, vI x2, vI x3, vI x4, vI x5, vI x6, vI (((nI 160) + (σ.2.2 10013 o0 ((nI 20) + x5).toNatClampNeg)) + x6)] (r.toList ++ []) σ1)))))))))))) :
  T169 C Q 125 [vO 10 o0, vI x1, vI x2, vI x3, vI x4, vI x5, vI x6, w7] [] σ := j2_T.go hC [0, 2, 13, 23, 53, 59, 85, 110, 111, 121, 125, 159, 160, 162, 163, 182, 184] 400 h
set_option maxRecDepth 100000 in
theorem b169_159 {C : j2_C} (hC : j2_up1 C) {Q : j2_P} {o0 : Nat} {x1 : Int32} {x2 : Int32} {x3 : Int32} {x4 : Int32} {x5 : Int32} {x6 : Int32} {x7 : Int32} {xs0 : Int32} {σ : j2_S}
  (h : ((xs0 = 0 → T169 C Q 162 [vO 10 o0, vI x1, vI x2, vI x3, vI x4, vI x5, vI x6, vI x7] [] σ) ∧ (¬ (xs0 = 0) → T169 C Q 160 [vO 10 o0, vI x1, vI x2, vI x3, vI x4, vI x5, vI x6, vI x7] [] σ))) :
  T169 C Q 159 [vO 10 o0, vI x1, vI x2, vI x3, vI x4, vI x5, vI x6, vI x7] [vI xs0] σ := j2_T.go hC [0, 2, 13, 23, 53, 59, 85, 110, 111, 121, 125, 159, 160, 162, 163, 182, 184] 400 h
set_option maxRecDepth 100000 in
theorem b169_160 {C : j2_C} (hC : j2_up1 C) {Q : j2_P} {o0 : Nat} {x1 : Int32} {x2 : Int32} {x3 : Int32} {x4 : Int32} {x5 : Int32} {x6 : Int32} {x7 : Int32} {σ : j2_S}
  (h : T169 C Q 163 [vO 10 o0, vI x1, vI x2, vI x3, vI x4, vI x5, vI x6, vI x7] [vI (nI 1)] σ) :
  T169 C Q 160 [vO 10 o0, vI x1, vI x2, vI x3, vI x4, vI x5, vI x6, vI x7] [] σ := j2_T.go hC [0, 2, 13, 23, 53, 59, 85, 110, 111, 121, 125, 159, 160, 162, 163, 182, 184] 400 h
set_option maxRecDepth 100000 in
theorem b169_162 {C : j2_C} (hC : j2_up1 C) {Q : j2_P} {o0 : Nat} {x1 : Int32} {x2 : Int32} {x3 : Int32} {x4 : Int32} {x5 : Int32} {x6 : Int32} {x7 : Int32} {σ : j2_S}
  (h : T169 C Q 163 [vO 10 o0, vI x1, vI x2, vI x3, vI x4, vI x5, vI x6, vI x7] [vI (nI 0)] σ) :
  T169 C Q 162 [vO 10 o0, vI x1, vI x2, vI x3, vI x4, vI x5, vI x6, vI x7] [] σ := j2_T.go hC [0, 2, 13, 23, 53, 59, 85, 110, 111, 121, 125, 159, 160, 162, 163, 182, 184] 400 h
set_option maxRecDepth 100000 in
theorem b169_163 {C : j2_C} (hC : j2_up1 C) {Q : j2_P} {o0 : Nat} {x1 : Int32} {x2 : Int32} {x3 : Int32} {x4 : Int32} {x5 : Int32} {x6 : Int32} {x7 : Int32} {xs0 : Int32} {σ : j2_S}
  (h : T169 C Q 125 [vO 10 o0, vI x1, vI x2, vI x3, vI xs0, vI x5, vI (x6 + (nI 1)), vI x7] [] σ) :
  T169 C Q 163 [vO 10 o0, vI x1, vI x2, vI x3, vI x4, vI x5, vI x6, vI x7] [vI xs0] σ := j2_T.go hC [0, 2, 13, 23, 53, 59, 85, 110, 111, 121, 125, 159, 160, 162, 163, 182, 184] 400 h
set_option maxRecDepth 100000 in
theorem b169_182 {C : j2_C} (hC : j2_up1 C) {Q : j2_P} {o0 : Nat} {x1 : Int32} {x2 : Int32} {x3 : Int32} {x4 : Int32} {x5 : Int32} {w6 : j2_W} {w7 : j2_W} {σ : j2_S}
  (h : T169 C Q 59 [vO 10 o0, vI x1, vI (x2 + (nI 1)), vI x3, vI x4, vI x5, w6, w7] [] σ) :
  T169 C Q 182 [vO 10 o0, vI x1, vI x2, vI x3, vI x4, vI x5, w6, w7] [] σ := j2_T.go hC [0, 2, 13, 23, 53, 59, 85, 110, 111, 121, 125, 159, 160, 162, 163, 182, 184] 400 h
set_option maxRecDepth 100000 in
theorem b169_184 {C : j2_C} (hC : j2_up1 C) {Q : j2_P} {o0 : Nat} {x1 : Int32} {x2 : Int32} {w3 : j2_W} {w4 : j2_W} {w5 : j2_W} {w6 : j2_W} {w7 : j2_W} {σ : j2_S}
  (h : T169 C Q 2 [vO 10 o0, vI (x1 + (nI 1)), vI x2, w3, w4, w5, w6, w7] [] σ) :
  T169 C Q 184 [vO 10 o0, vI x1, vI x2, w3, w4, w5, w6, w7] [] σ := j2_T.go hC [0, 2, 13, 23, 53, 59, 85, 110, 111, 121, 125, 159, 160, 162, 163, 182, 184] 400 h
abbrev T170 (C : j2_C) (Q : j2_P) : j2_K := j2_T C jc_X10_covers (some .boolean) Q
set_option maxRecDepth 100000 in
theorem b170_0 {C : j2_C} (hC : j2_up1 C) {Q : j2_P} {o0 : Nat} {x1 : Int32} {x2 : Int32} {x3 : Int32} {σ : j2_S}
  (h : T170 C Q 2 [vO 10 o0, vI x1, vI x2, vI x3, vI x3] [] σ) :
  T170 C Q 0 [vO 10 o0, vI x1, vI x2, vI x3, vM 2] [] σ := j2_T.go hC [0, 2, 17] 400 h
set_option maxRecDepth 100000 in
theorem b170_2 {C : j2_C} (hC : j2_up1 C) {Q : j2_P} {o0 : Nat} {x1 : Int32} {x2 : Int32} {x3 : Int32} {x4 : Int32} {σ : j2_S}
  (h : ((x4 < 0 → T170 C Q 17 [vO 10 o0, vI x1, vI x2, vI x3, vI x4] [] σ) ∧ (¬ (x4 < 0) → ((x4 = x2 → T170 C Q 17 [vO 10 o0, vI x1, vI x2, vI x3, vI x4] [] σ) ∧ (¬ (x4 = x2) → (vp_in (((nI 10) * x1) + x4) 30 ∧ T170 C Q 2 [vO 10 o0, vI x1, vI x2, vI x3, vI (σ.2.2 10011 o0 (((nI 10) * x1) + x4).toNatClampNeg)] [] σ)))))) :
  T170 C Q 2 [vO 10 o0, vI x1, vI x2, vI x3, vI x4] [] σ := j2_T.go hC [0, 2, 17] 400 h
set_option maxRecDepth 100000 in
theorem b170_17 {C : j2_C} (hC : j2_up1 C) {Q : j2_P} {o0 : Nat} {x1 : Int32} {x2 : Int32} {x3 : Int32} {x4 : Int32} {σ : j2_S}
  (h : ((¬ x4 = x2 → (((nI 0) = 0 ∨ (nI 0) = 1) ∧ Q (some (vI (nI 0))) σ)) ∧ (¬ (¬ x4 = x2) → (((nI 1) = 0 ∨ (nI 1) = 1) ∧ Q (some (vI (nI 1))) σ)))) :
  T170 C Q 17 [vO 10 o0, vI x1, vI x2, vI x3, vI x4] [] σ := j2_T.go hC [0, 2, 17] 400 h
abbrev T171 (C : j2_C) (Q : j2_P) : j2_K := j2_T C jc_X10_meet (some .int) Q
set_option maxRecDepth 100000 in
theorem b171_0 {C : j2_C} (hC : j2_up1 C) {Q : j2_P} {o0 : Nat} {x1 : Int32} {x2 : Int32} {x3 : Int32} {σ : j2_S}
  (h : ((¬ x2 = x3 → ((x2 = 0 → (True ∧ Q (some (vI (nI 0))) σ)) ∧ (¬ (x2 = 0) → ((x3 = 0 → (True ∧ Q (some (vI (nI 0))) σ)) ∧ (¬ (x3 = 0) → ((x2 = (nI 1) → (True ∧ Q (some (vI (nI 0))) σ)) ∧ (¬ (x2 = (nI 1)) → ((¬ x3 = (nI 1) → ((¬ x2 = (nI 2) → ((¬ x3 = (nI 2) → ((x2 = (nI 3) → (True ∧ Q (some (vI (nI 3))) σ)) ∧ (¬ (x2 = (nI 3)) → ((¬ x3 = (nI 3) → T171 C Q 39 [vO 10 o0, vI x1, vI x2, vI x3, vI (x2 - (nI 4))] [] σ) ∧ (¬ (¬ x3 = (nI 3)) → (True ∧ Q (some (vI (nI 3))) σ)))))) ∧ (¬ (¬ x3 = (nI 2)) → (True ∧ Q (some (vI x2)) σ)))) ∧ (¬ (¬ x2 = (nI 2)) → (True ∧ Q (some (vI x3)) σ)))) ∧ (¬ (¬ x3 = (nI 1)) → (True ∧ Q (some (vI (nI 0))) σ)))))))))) ∧ (¬ (¬ x2 = x3) → (True ∧ Q (some (vI x2)) σ)))) :
  T171 C Q 0 [vO 10 o0, vI x1, vI x2, vI x3, vM 2] [] σ := j2_T.go hC [0, 39, 48, 59] 400 h
set_option maxRecDepth 100000 in
theorem b171_39 {C : j2_C} (hC : j2_up1 C) {Q : j2_P} {o0 : Nat} {x1 : Int32} {x2 : Int32} {x3 : Int32} {x4 : Int32} {σ : j2_S}
  (h : ((x4 < 0 → T171 C Q 59 [vO 10 o0, vI x1, vI x2, vI x3, vI x4] [] σ) ∧ (¬ (x4 < 0) → C 170 [vO 10 o0, vI x1, vI x4, vI (x3 - (nI 4))] σ (fun r σ1 => T171 C Q 48 [vO 10 o0, vI x1, vI x2, vI x3, vI x4] (r.toList ++ []) σ1)))) :
  T171 C Q 39 [vO 10 o0, vI x1, vI x2, vI x3, vI x4] [] σ := j2_T.go hC [0, 39, 48, 59] 400 h
set_option maxRecDepth 100000 in
theorem b171_48 {C : j2_C} (hC : j2_up1 C) {Q : j2_P} {o0 : Nat} {x1 : Int32} {x2 : Int32} {x3 : Int32} {x4 : Int32} {xs0 : Int32} {σ : j2_S}
  (h : ((¬ xs0 = 0 → T171 C Q 59 [vO 10 o0, vI x1, vI x2, vI x3, vI x4] [] σ) ∧ (¬ (¬ xs0 = 0) → (vp_in (((nI 10) * x1) + x4) 30 ∧ T171 C Q 39 [vO 10 o0, vI x1, vI x2, vI x3, vI (σ.2.2 10011 o0 (((nI 10) * x1) + x4).toNatClampNeg)] [] σ)))) :
  T171 C Q 48 [vO 10 o0, vI x1, vI x2, vI x3, vI x4] [vI xs0] σ := j2_T.go hC [0, 39, 48, 59] 400 h
set_option maxRecDepth 100000 in
theorem b171_59 {C : j2_C} (hC : j2_up1 C) {Q : j2_P} {o0 : Nat} {x1 : Int32} {x2 : Int32} {x3 : Int32} {x4 : Int32} {σ : j2_S}
  (h : ((0 ≤ x4 → (True ∧ Q (some (vI ((nI 4) + x4))) σ)) ∧ (¬ (0 ≤ x4) → (True ∧ Q (some (vI (nI 3))) σ)))) :
  T171 C Q 59 [vO 10 o0, vI x1, vI x2, vI x3, vI x4] [] σ := j2_T.go hC [0, 39, 48, 59] 400 h
abbrev T172 (C : j2_C) (Q : j2_P) : j2_K := j2_T C jc_X10_fits (some .boolean) Q
set_option maxRecDepth 100000 in
theorem b172_0 {C : j2_C} (hC : j2_up1 C) {Q : j2_P} {o0 : Nat} {x1 : Int32} {x2 : Int32} {x3 : Int32} {σ : j2_S}
  (h : ((¬ x3 = (-1 : Int32) → ((¬ x3 = (-2 : Int32) → ((¬ x3 = (nI 1) → ((x2 = (nI 2) → T172 C Q 41 [vO 10 o0, vI x1, vI x2, vI x3] [] σ) ∧ (¬ (x2 = (nI 2)) → ((x2 < (nI 4) → (((nI 0) = 0 ∨ (nI 0) = 1) ∧ Q (some (vI (nI 0))) σ)) ∧ (¬ (x2 < (nI 4)) → C 170 [vO 10 o0, vI x1, vI (x3 - (nI 4)), vI (x2 - (nI 4))] σ (fun r σ1 => T172 C Q 40 [vO 10 o0, vI x1, vI x2, vI x3] (r.toList ++ []) σ1)))))) ∧ (¬ (¬ x3 = (nI 1)) → ((¬ x2 = (nI 1) → (((nI 0) = 0 ∨ (nI 0) = 1) ∧ Q (some (vI (nI 0))) σ)) ∧ (¬ (¬ x2 = (nI 1)) → (((nI 1) = 0 ∨ (nI 1) = 1) ∧ Q (some (vI (nI 1))) σ)))))) ∧ (¬ (¬ x3 = (-2 : Int32)) → ((x2 = (nI 1) → (((nI 0) = 0 ∨ (nI 0) = 1) ∧ Q (some (vI (nI 0))) σ)) ∧ (¬ (x2 = (nI 1)) → (((nI 1) = 0 ∨ (nI 1) = 1) ∧ Q (some (vI (nI 1))) σ)))))) ∧ (¬ (¬ x3 = (-1 : Int32)) → (((nI 1) = 0 ∨ (nI 1) = 1) ∧ Q (some (vI (nI 1))) σ)))) :
  T172 C Q 0 [vO 10 o0, vI x1, vI x2, vI x3] [] σ := j2_T.go hC [0, 40, 41] 400 h
set_option maxRecDepth 100000 in
theorem b172_40 {C : j2_C} (hC : j2_up1 C) {Q : j2_P} {o0 : Nat} {x1 : Int32} {x2 : Int32} {x3 : Int32} {xs0 : Int32} {σ : j2_S}
  (h : ((xs0 = 0 → (((nI 0) = 0 ∨ (nI 0) = 1) ∧ Q (some (vI (nI 0))) σ)) ∧ (¬ (xs0 = 0) → T172 C Q 41 [vO 10 o0, vI x1, vI x2, vI x3] [] σ))) :
  T172 C Q 40 [vO 10 o0, vI x1, vI x2, vI x3] [vI xs0] σ := j2_T.go hC [0, 40, 41] 400 h
set_option maxRecDepth 100000 in
theorem b172_41 {C : j2_C} (hC : j2_up1 C) {Q : j2_P} {o0 : Nat} {x1 : Int32} {x2 : Int32} {x3 : Int32} {σ : j2_S}
  (h : (((nI 1) = 0 ∨ (nI 1) = 1) ∧ Q (some (vI (nI 1))) σ)) :
  T172 C Q 41 [vO 10 o0, vI x1, vI x2, vI x3] [] σ := j2_T.go hC [0, 40, 41] 400 h
abbrev T173 (C : j2_C) (Q : j2_P) : j2_K := j2_T C jc_X10_of (some .int) Q
set_option maxRecDepth 100000 in
theorem b173_0 {C : j2_C} (hC : j2_up1 C) {Q : j2_P} {x0 : Int32} {σ : j2_S}
  (h : ((¬ x0 = 0 → (True ∧ Q (some (vI (((nI 4) + x0) - (nI 1)))) σ)) ∧ (¬ (¬ x0 = 0) → (True ∧ Q (some (vI (nI 1))) σ)))) :
  T173 C Q 0 [vI x0] [] σ := j2_T.go hC [0] 400 h
abbrev T174 (C : j2_C) (Q : j2_P) : j2_K := j2_T C jc_X10_wants none Q
set_option maxRecDepth 100000 in
theorem b174_0 {C : j2_C} (hC : j2_up1 C) {Q : j2_P} {o0 : Nat} {x1 : Int32} {σ : j2_S}
  (h : (vp_in (σ.1 10047 o0) 5 ∧ ((none : Option FieldType) = none ∧ Q none ((j2_up σ.1 10047 o0 ((σ.1 10047 o0) + (nI 1))), σ.2.1, (j2_ast σ.2.2 10048 o0 (σ.1 10047 o0).toNatClampNeg x1))))) :
  T174 C Q 0 [vO 10 o0, vI x1] [] σ := j2_T.go hC [0] 400 h
abbrev T175 (C : j2_C) (Q : j2_P) : j2_K := j2_T C jc_X10_wantAll none Q
set_option maxRecDepth 100000 in
theorem b175_0 {C : j2_C} (hC : j2_up1 C) {Q : j2_P} {o0 : Nat} {x1 : Int32} {x2 : Int32} {x3 : Int32} {σ : j2_S}
  (h : (vp_in x3 28800 ∧ (((σ.2.2 10027 o0 x3.toNatClampNeg) = (nI 3) → T175 C Q 17 [vO 10 o0, vI x1, vI x2, vI x3, vI (σ.2.2 10027 o0 x3.toNatClampNeg), vM 2, vM 2] [] ((j2_up σ.1 10047 o0 (nI 0)), σ.2.1, σ.2.2)) ∧ (¬ ((σ.2.2 10027 o0 x3.toNatClampNeg) = (nI 3)) → (((σ.2.2 10027 o0 x3.toNatClampNeg) = (nI 4) → T175 C Q 17 [vO 10 o0, vI x1, vI x2, vI x3, vI (σ.2.2 10027 o0 x3.toNatClampNeg), vM 2, vM 2] [] ((j2_up σ.1 10047 o0 (nI 0)), σ.2.1, σ.2.2)) ∧ (¬ ((σ.2.2 10027 o0 x3.toNatClampNeg) = (nI 4)) → ((¬ (σ.2.2 10027 o0 x3.toNatClampNeg) = (nI 5) → T175 C Q 20 [vO 10 o0, vI x1, vI x2, vI x3, vI (σ.2.2 10027 o0 x3.toNatClampNeg), vM 2, vM 2] [] ((j2_up σ.1 10047 o0 (nI 0)), σ.2.1, σ.2.2)) ∧ (¬ (¬ (σ.2.2 10027 o0 x3.toNatClampNeg) = (nI 5)) → T175 C Q 17 [vO 10 o0, vI x1, vI x2, vI x3, vI (σ.2.2 10027 o0 x3.toNatClampNeg), vM 2, vM 2] [] ((j2_up σ.1 10047 o0 (nI 0)), σ.2.1, σ.2.2))))))))) :
  T175 C Q 0 [vO 10 o0, vI x1, vI x2, vI x3, vM 2, vM 2, vM 2] [] σ := j2_T.go hC [0, 17, 20, 26, 29, 35, 38, 41, 44, 53, 56, 62, 82, 83, 89, 97, 103, 131, 143, 144, 159, 183, 184] 400 h
set_option maxRecDepth 100000 in
theorem b175_17 {C : j2_C} (hC : j2_up1 C) {Q : j2_P} {o0 : Nat} {x1 : Int32} {x2 : Int32} {x3 : Int32} {x4 : Int32} {σ : j2_S}
  (h : C 174 [vO 10 o0, vI (-1 : Int32)] σ (fun r σ1 => T175 C Q 20 [vO 10 o0, vI x1, vI x2, vI x3, vI x4, vM 2, vM 2] (r.toList ++ []) σ1)) :
  T175 C Q 17 [vO 10 o0, vI x1, vI x2, vI x3, vI x4, vM 2, vM 2] [] σ := j2_T.go hC [0, 17, 20, 26, 29, 35, 38, 41, 44, 53, 56, 62, 82, 83, 89, 97, 103, 131, 143, 144, 159, 183, 184] 400 h
set_option maxRecDepth 100000 in
theorem b175_20 {C : j2_C} (hC : j2_up1 C) {Q : j2_P} {o0 : Nat} {x1 : Int32} {x2 : Int32} {x3 : Int32} {x4 : Int32} {σ : j2_S}
  (h : ((x4 = (nI 12) → T175 C Q 26 [vO 10 o0, vI x1, vI x2, vI x3, vI x4, vM 2, vM 2] [] σ) ∧ (¬ (x4 = (nI 12)) → ((¬ x4 = (nI 23) → T175 C Q 29 [vO 10 o0, vI x1, vI x2, vI x3, vI x4, vM 2, vM 2] [] σ) ∧ (¬ (¬ x4 = (nI 23)) → T175 C Q 26 [vO 10 o0, vI x1, vI x2, vI x3, vI x4, vM 2, vM 2] [] σ))))) :
  T175 C Q 20 [vO 10 o0, vI x1, vI x2, vI x3, vI x4, vM 2, vM 2] [] σ := j2_T.go hC [0, 17, 20, 26, 29, 35, 38, 41, 44, 53, 56, 62, 82, 83, 89, 97, 103, 131, 143, 144, 159, 183, 184] 400 h
set_option maxRecDepth 100000 in
theorem b175_26 {C : j2_C} (hC : j2_up1 C) {Q : j2_P} {o0 : Nat} {x1 : Int32} {x2 : Int32} {x3 : Int32} {x4 : Int32} {σ : j2_S}
  (h : C 174 [vO 10 o0, vI (nI 1)] σ (fun r σ1 => T175 C Q 29 [vO 10 o0, vI x1, vI x2, vI x3, vI x4, vM 2, vM 2] (r.toList ++ []) σ1)) :
  T175 C Q 26 [vO 10 o0, vI x1, vI x2, vI x3, vI x4, vM 2, vM 2] [] σ := j2_T.go hC [0, 17, 20, 26, 29, 35, 38, 41, 44, 53, 56, 62, 82, 83, 89, 97, 103, 131, 143, 144, 159, 183, 184] 400 h
set_option maxRecDepth 100000 in
theorem b175_29 {C : j2_C} (hC : j2_up1 C) {Q : j2_P} {o0 : Nat} {x1 : Int32} {x2 : Int32} {x3 : Int32} {x4 : Int32} {σ : j2_S}
  (h : ((x4 < (nI 6) → T175 C Q 35 [vO 10 o0, vI x1, vI x2, vI x3, vI x4, vM 2, vM 2] [] σ) ∧ (¬ (x4 < (nI 6)) → ((x4 ≤ (nI 10) → T175 C Q 38 [vO 10 o0, vI x1, vI x2, vI x3, vI x4, vM 2, vM 2] [] σ) ∧ (¬ (x4 ≤ (nI 10)) → T175 C Q 35 [vO 10 o0, vI x1, vI x2, vI x3, vI x4, vM 2, vM 2] [] σ))))) :
  T175 C Q 29 [vO 10 o0, vI x1, vI x2, vI x3, vI x4, vM 2, vM 2] [] σ := j2_T.go hC [0, 17, 20, 26, 29, 35, 38, 41, 44, 53, 56, 62, 82, 83, 89, 97, 103, 131, 143, 144, 159, 183, 184] 400 h
set_option maxRecDepth 100000 in
theorem b175_35 {C : j2_C} (hC : j2_up1 C) {Q : j2_P} {o0 : Nat} {x1 : Int32} {x2 : Int32} {x3 : Int32} {x4 : Int32} {σ : j2_S}
  (h : ((¬ x4 = (nI 13) → T175 C Q 44 [vO 10 o0, vI x1, vI x2, vI x3, vI x4, vM 2, vM 2] [] σ) ∧ (¬ (¬ x4 = (nI 13)) → T175 C Q 38 [vO 10 o0, vI x1, vI x2, vI x3, vI x4, vM 2, vM 2] [] σ))) :
  T175 C Q 35 [vO 10 o0, vI x1, vI x2, vI x3, vI x4, vM 2, vM 2] [] σ := j2_T.go hC [0, 17, 20, 26, 29, 35, 38, 41, 44, 53, 56, 62, 82, 83, 89, 97, 103, 131, 143, 144, 159, 183, 184] 400 h
set_option maxRecDepth 100000 in
theorem b175_38 {C : j2_C} (hC : j2_up1 C) {Q : j2_P} {o0 : Nat} {x1 : Int32} {x2 : Int32} {x3 : Int32} {x4 : Int32} {σ : j2_S}
  (h : C 174 [vO 10 o0, vI (nI 1)] σ (fun r σ1 => T175 C Q 41 [vO 10 o0, vI x1, vI x2, vI x3, vI x4, vM 2, vM 2] (r.toList ++ []) σ1)) :
  T175 C Q 38 [vO 10 o0, vI x1, vI x2, vI x3, vI x4, vM 2, vM 2] [] σ := j2_T.go hC [0, 17, 20, 26, 29, 35, 38, 41, 44, 53, 56, 62, 82, 83, 89, 97, 103, 131, 143, 144, 159, 183, 184] 400 h
set_option maxRecDepth 100000 in
theorem b175_41 {C : j2_C} (hC : j2_up1 C) {Q : j2_P} {o0 : Nat} {x1 : Int32} {x2 : Int32} {x3 : Int32} {x4 : Int32} {σ : j2_S}
  (h : C 174 [vO 10 o0, vI (nI 1)] σ (fun r σ1 => T175 C Q 44 [vO 10 o0, vI x1, vI x2, vI x3, vI x4, vM 2, vM 2] (r.toList ++ []) σ1)) :
  T175 C Q 41 [vO 10 o0, vI x1, vI x2, vI x3, vI x4, vM 2, vM 2] [] σ := j2_T.go hC [0, 17, 20, 26, 29, 35, 38, 41, 44, 53, 56, 62, 82, 83, 89, 97, 103, 131, 143, 144, 159, 183, 184] 400 h
set_option maxRecDepth 100000 in
theorem b175_44 {C : j2_C} (hC : j2_up1 C) {Q : j2_P} {o0 : Nat} {x1 : Int32} {x2 : Int32} {x3 : Int32} {x4 : Int32} {σ : j2_S}
  (h : ((x4 = (nI 14) → T175 C Q 53 [vO 10 o0, vI x1, vI x2, vI x3, vI x4, vM 2, vM 2] [] σ) ∧ (¬ (x4 = (nI 14)) → ((x4 = (nI 24) → T175 C Q 53 [vO 10 o0, vI x1, vI x2, vI x3, vI x4, vM 2, vM 2] [] σ) ∧ (¬ (x4 = (nI 24)) → ((¬ x4 = (nI 25) → T175 C Q 56 [vO 10 o0, vI x1, vI x2, vI x3, vI x4, vM 2, vM 2] [] σ) ∧ (¬ (¬ x4 = (nI 25)) → T175 C Q 53 [vO 10 o0, vI x1, vI x2, vI x3, vI x4, vM 2, vM 2] [] σ))))))) :
  T175 C Q 44 [vO 10 o0, vI x1, vI x2, vI x3, vI x4, vM 2, vM 2] [] σ := j2_T.go hC [0, 17, 20, 26, 29, 35, 38, 41, 44, 53, 56, 62, 82, 83, 89, 97, 103, 131, 143, 144, 159, 183, 184] 400 h
set_option maxRecDepth 100000 in
theorem b175_53 {C : j2_C} (hC : j2_up1 C) {Q : j2_P} {o0 : Nat} {x1 : Int32} {x2 : Int32} {x3 : Int32} {x4 : Int32} {σ : j2_S}
  (h : C 174 [vO 10 o0, vI (-2 : Int32)] σ (fun r σ1 => T175 C Q 56 [vO 10 o0, vI x1, vI x2, vI x3, vI x4, vM 2, vM 2] (r.toList ++ []) σ1)) :
  T175 C Q 53 [vO 10 o0, vI x1, vI x2, vI x3, vI x4, vM 2, vM 2] [] σ := j2_T.go hC [0, 17, 20, 26, 29, 35, 38, 41, 44, 53, 56, 62, 82, 83, 89, 97, 103, 131, 143, 144, 159, 183, 184] 400 h
set_option maxRecDepth 100000 in
theorem b175_56 {C : j2_C} (hC : j2_up1 C) {Q : j2_P} {o0 : Nat} {x1 : Int32} {x2 : Int32} {x3 : Int32} {x4 : Int32} {σ : j2_S}
  (h : ((x4 = (nI 17) → T175 C Q 62 [vO 10 o0, vI x1, vI x2, vI x3, vI x4, vM 2, vM 2] [] σ) ∧ (¬ (x4 = (nI 17)) → ((¬ x4 = (nI 19) → T175 C Q 83 [vO 10 o0, vI x1, vI x2, vI x3, vI x4, vM 2, vM 2] [] σ) ∧ (¬ (¬ x4 = (nI 19)) → T175 C Q 62 [vO 10 o0, vI x1, vI x2, vI x3, vI x4, vM 2, vM 2] [] σ))))) :
  T175 C Q 56 [vO 10 o0, vI x1, vI x2, vI x3, vI x4, vM 2, vM 2] [] σ := j2_T.go hC [0, 17, 20, 26, 29, 35, 38, 41, 44, 53, 56, 62, 82, 83, 89, 97, 103, 131, 143, 144, 159, 183, 184] 400 h
set_option maxRecDepth 100000 in
theorem b175_62 {C : j2_C} (hC : j2_up1 C) {Q : j2_P} {o0 : Nat} {x1 : Int32} {x2 : Int32} {x3 : Int32} {x4 : Int32} {σ : j2_S}
  (h : (vp_in x3 28800 ∧ (vp_in x3 28800 ∧ (vp_in ((((nI 60) * x1) + ((nI 6) * (σ.2.2 10028 o0 x3.toNatClampNeg))) + (σ.2.2 10029 o0 x3.toNatClampNeg)) 180 ∧ C 173 [vI (σ.2.2 10016 o0 ((((nI 60) * x1) + ((nI 6) * (σ.2.2 10028 o0 x3.toNatClampNeg))) + (σ.2.2 10029 o0 x3.toNatClampNeg)).toNatClampNeg)] σ (fun r σ1 => T175 C Q 82 [vO 10 o0, vI x1, vI x2, vI x3, vI x4, vM 2, vM 2] (r.toList ++ [vO 10 o0]) σ1))))) :
  T175 C Q 62 [vO 10 o0, vI x1, vI x2, vI x3, vI x4, vM 2, vM 2] [] σ := j2_T.go hC [0, 17, 20, 26, 29, 35, 38, 41, 44, 53, 56, 62, 82, 83, 89, 97, 103, 131, 143, 144, 159, 183, 184] 400 h
set_option maxRecDepth 100000 in
theorem b175_82 {C : j2_C} (hC : j2_up1 C) {Q : j2_P} {o0 : Nat} {x1 : Int32} {x2 : Int32} {x3 : Int32} {x4 : Int32} {xs0 : Int32} {os1 : Nat} {σ : j2_S}
  (h : C 174 [vO 10 os1, vI xs0] σ (fun r σ1 => T175 C Q 83 [vO 10 o0, vI x1, vI x2, vI x3, vI x4, vM 2, vM 2] (r.toList ++ []) σ1)) :
  T175 C Q 82 [vO 10 o0, vI x1, vI x2, vI x3, vI x4, vM 2, vM 2] [vI xs0, vO 10 os1] σ := j2_T.go hC [0, 17, 20, 26, 29, 35, 38, 41, 44, 53, 56, 62, 82, 83, 89, 97, 103, 131, 143, 144, 159, 183, 184] 400 h
set_option maxRecDepth 100000 in
theorem b175_83 {C : j2_C} (hC : j2_up1 C) {Q : j2_P} {o0 : Nat} {x1 : Int32} {x2 : Int32} {x3 : Int32} {x4 : Int32} {σ : j2_S}
  (h : ((x4 = (nI 16) → T175 C Q 89 [vO 10 o0, vI x1, vI x2, vI x3, vI x4, vM 2, vM 2] [] σ) ∧ (¬ (x4 = (nI 16)) → ((¬ x4 = (nI 17) → T175 C Q 97 [vO 10 o0, vI x1, vI x2, vI x3, vI x4, vM 2, vM 2] [] σ) ∧ (¬ (¬ x4 = (nI 17)) → T175 C Q 89 [vO 10 o0, vI x1, vI x2, vI x3, vI x4, vM 2, vM 2] [] σ))))) :
  T175 C Q 83 [vO 10 o0, vI x1, vI x2, vI x3, vI x4, vM 2, vM 2] [] σ := j2_T.go hC [0, 17, 20, 26, 29, 35, 38, 41, 44, 53, 56, 62, 82, 83, 89, 97, 103, 131, 143, 144, 159, 183, 184] 400 h
set_option maxRecDepth 100000 in
theorem b175_89 {C : j2_C} (hC : j2_up1 C) {Q : j2_P} {o0 : Nat} {x1 : Int32} {x2 : Int32} {x3 : Int32} {x4 : Int32} {σ : j2_S}
  (h : (vp_in x3 28800 ∧ C 174 [vO 10 o0, vI ((nI 4) + (σ.2.2 10028 o0 x3.toNatClampNeg))] σ (fun r σ1 => T175 C Q 97 [vO 10 o0, vI x1, vI x2, vI x3, vI x4, vM 2, vM 2] (r.toList ++ []) σ1))) :
  T175 C Q 89 [vO 10 o0, vI x1, vI x2, vI x3, vI x4, vM 2, vM 2] [] σ := j2_T.go hC [0, 17, 20, 26, 29, 35, 38, 41, 44, 53, 56, 62, 82, 83, 89, 97, 103, 131, 143, 144, 159, 183, 184] 400 h
set_option maxRecDepth 100000 in
theorem b175_97 {C : j2_C} (hC : j2_up1 C) {Q : j2_P} {o0 : Nat} {x1 : Int32} {x2 : Int32} {x3 : Int32} {x4 : Int32} {σ : j2_S}
  (h : ((x4 = (nI 20) → T175 C Q 103 [vO 10 o0, vI x1, vI x2, vI x3, vI x4, vM 2, vM 2] [] σ) ∧ (¬ (x4 = (nI 20)) → ((¬ x4 = (nI 21) → T175 C Q 159 [vO 10 o0, vI x1, vI x2, vI x3, vI x4, vM 2, vM 2] [] σ) ∧ (¬ (¬ x4 = (nI 21)) → T175 C Q 103 [vO 10 o0, vI x1, vI x2, vI x3, vI x4, vM 2, vM 2] [] σ))))) :
  T175 C Q 97 [vO 10 o0, vI x1, vI x2, vI x3, vI x4, vM 2, vM 2] [] σ := j2_T.go hC [0, 17, 20, 26, 29, 35, 38, 41, 44, 53, 56, 62, 82, 83, 89, 97, 103, 131, 143, 144, 159, 183, 184] 400 h
set_option maxRecDepth 100000 in
theorem b175_103 {C : j2_C} (hC : j2_up1 C) {Q : j2_P} {o0 : Nat} {x1 : Int32} {x2 : Int32} {x3 : Int32} {x4 : Int32} {σ : j2_S}
  (h : (vp_in x3 28800 ∧ (vp_in (((nI 10) * x1) + (σ.2.2 10028 o0 x3.toNatClampNeg)) 30 ∧ (vp_in x3 28800 ∧ (vp_in ((((nI 80) * x1) + (σ.2.2 10013 o0 (((nI 10) * x1) + (σ.2.2 10028 o0 x3.toNatClampNeg)).toNatClampNeg)) + (σ.2.2 10029 o0 x3.toNatClampNeg)) 240 ∧ T175 C Q 131 [vO 10 o0, vI x1, vI x2, vI x3, vI x4, vI ((((nI 80) * x1) + (σ.2.2 10013 o0 (((nI 10) * x1) + (σ.2.2 10028 o0 x3.toNatClampNeg)).toNatClampNeg)) + (σ.2.2 10029 o0 x3.toNatClampNeg)), vI ((σ.2.2 10023 o0 ((((nI 80) * x1) + (σ.2.2 10013 o0 (((nI 10) * x1) + (σ.2.2 10028 o0 x3.toNatClampNeg)).toNatClampNeg)) + (σ.2.2 10029 o0 x3.toNatClampNeg)).toNatClampNeg) - (nI 1))] [] σ))))) :
  T175 C Q 103 [vO 10 o0, vI x1, vI x2, vI x3, vI x4, vM 2, vM 2] [] σ := j2_T.go hC [0, 17, 20, 26, 29, 35, 38, 41, 44, 53, 56, 62, 82, 83, 89, 97, 103, 131, 143, 144, 159, 183, 184] 400 h
set_option maxRecDepth 100000 in
theorem b175_131 {C : j2_C} (hC : j2_up1 C) {Q : j2_P} {o0 : Nat} {x1 : Int32} {x2 : Int32} {x3 : Int32} {x4 : Int32} {x5 : Int32} {x6 : Int32} {σ : j2_S}
  (h : ((x6 < 0 → (vp_in x5 240 ∧ ((¬ (σ.2.2 10021 o0 x5.toNatClampNeg) = 0 → T175 C Q 159 [vO 10 o0, vI x1, vI x2, vI x3, vI x4, vI x5, vI x6] [] σ) ∧ (¬ (¬ (σ.2.2 10021 o0 x5.toNatClampNeg) = 0) → (vp_in x3 28800 ∧ C 174 [vO 10 o0, vI ((nI 4) + (σ.2.2 10028 o0 x3.toNatClampNeg))] σ (fun r σ1 => T175 C Q 159 [vO 10 o0, vI x1, vI x2, vI x3, vI x4, vI x5, vI x6] (r.toList ++ []) σ1)))))) ∧ (¬ (x6 < 0) → (vp_in (((nI 3) * x5) + x6) 720 ∧ C 173 [vI (σ.2.2 10024 o0 (((nI 3) * x5) + x6).toNatClampNeg)] σ (fun r σ1 => T175 C Q 143 [vO 10 o0, vI x1, vI x2, vI x3, vI x4, vI x5, vI x6] (r.toList ++ [vO 10 o0]) σ1))))) :
  T175 C Q 131 [vO 10 o0, vI x1, vI x2, vI x3, vI x4, vI x5, vI x6] [] σ := j2_T.go hC [0, 17, 20, 26, 29, 35, 38, 41, 44, 53, 56, 62, 82, 83, 89, 97, 103, 131, 143, 144, 159, 183, 184] 400 h
set_option maxRecDepth 100000 in
theorem b175_143 {C : j2_C} (hC : j2_up1 C) {Q : j2_P} {o0 : Nat} {x1 : Int32} {x2 : Int32} {x3 : Int32} {x4 : Int32} {x5 : Int32} {x6 : Int32} {xs0 : Int32} {os1 : Nat} {σ : j2_S}
  (h : C 174 [vO 10 os1, vI xs0] σ (fun r σ1 => T175 C Q 144 [vO 10 o0, vI x1, vI x2, vI x3, vI x4, vI x5, vI x6] (r.toList ++ []) σ1)) :
  T175 C Q 143 [vO 10 o0, vI x1, vI x2, vI x3, vI x4, vI x5, vI x6] [vI xs0, vO 10 os1] σ := j2_T.go hC [0, 17, 20, 26, 29, 35, 38, 41, 44, 53, 56, 62, 82, 83, 89, 97, 103, 131, 143, 144, 159, 183, 184] 400 h
set_option maxRecDepth 100000 in
theorem b175_144 {C : j2_C} (hC : j2_up1 C) {Q : j2_P} {o0 : Nat} {x1 : Int32} {x2 : Int32} {x3 : Int32} {x4 : Int32} {x5 : Int32} {x6 : Int32} {σ : j2_S}
  (h : T175 C Q 131 [vO 10 o0, vI x1, vI x2, vI x3, vI x4, vI x5, vI (x6 + (-1 : Int32))] [] σ) :
  T175 C Q 144 [vO 10 o0, vI x1, vI x2, vI x3, vI x4, vI x5, vI x6] [] σ := j2_T.go hC [0, 17, 20, 26, 29, 35, 38, 41, 44, 53, 56, 62, 82, 83, 89, 97, 103, 131, 143, 144, 159, 183, 184] 400 h
set_option maxRecDepth 100000 in
theorem b175_159 {C : j2_C} (hC : j2_up1 C) {Q : j2_P} {o0 : Nat} {x1 : Int32} {x2 : Int32} {x3 : Int32} {x4 : Int32} {w5 : j2_W} {w6 : j2_W} {σ : j2_S}
  (h : ((¬ x4 = (nI 22) → T175 C Q 184 [vO 10 o0, vI x1, vI x2, vI x3, vI x4, w5, w6] [] σ) ∧ (¬ (¬ x4 = (nI 22)) → (vp_in (((nI 80) * x1) + x2) 240 ∧ (((σ.2.2 10022 o0 (((nI 80) * x1) + x2).toNatClampNeg) ≤ 0 → T175 C Q 184 [vO 10 o0, vI x1, vI x2, vI x3, vI x4, w5, w6] [] σ) ∧ (¬ ((σ.2.2 10022 o0 (((nI 80) * x1) + x2).toNatClampNeg) ≤ 0) → (vp_in (((nI 80) * x1) + x2) 240 ∧ C 173 [vI ((σ.2.2 10022 o0 (((nI 80) * x1) + x2).toNatClampNeg) - (nI 1))] σ (fun r σ1 => T175 C Q 183 [vO 10 o0, vI x1, vI x2, vI x3, vI x4, w5, w6] (r.toList ++ [vO 10 o0]) σ1)))))))) :
  T175 C Q 159 [vO 10 o0, vI x1, vI x2, vI x3, vI x4, w5, w6] [] σ := j2_T.go hC [0, 17, 20, 26, 29, 35, 38, 41, 44, 53, 56, 62, 82, 83, 89, 97, 103, 131, 143, 144, 159, 183, 184] 400 h
set_option maxRecDepth 100000 in
theorem b175_183 {C : j2_C} (hC : j2_up1 C) {Q : j2_P} {o0 : Nat} {x1 : Int32} {x2 : Int32} {x3 : Int32} {x4 : Int32} {w5 : j2_W} {w6 : j2_W} {xs0 : Int32} {os1 : Nat} {σ : j2_S}
  (h : C 174 [vO 10 os1, vI xs0] σ (fun r σ1 => T175 C Q 184 [vO 10 o0, vI x1, vI x2, vI x3, vI x4, w5, w6] (r.toList ++ []) σ1)) :
  T175 C Q 183 [vO 10 o0, vI x1, vI x2, vI x3, vI x4, w5, w6] [vI xs0, vO 10 os1] σ := j2_T.go hC [0, 17, 20, 26, 29, 35, 38, 41, 44, 53, 56, 62, 82, 83, 89, 97, 103, 131, 143, 144, 159, 183, 184] 400 h
set_option maxRecDepth 100000 in
theorem b175_184 {C : j2_C} (hC : j2_up1 C) {Q : j2_P} {o0 : Nat} {x1 : Int32} {x2 : Int32} {x3 : Int32} {x4 : Int32} {w5 : j2_W} {w6 : j2_W} {σ : j2_S}
  (h : ((none : Option FieldType) = none ∧ Q none σ)) :
  T175 C Q 184 [vO 10 o0, vI x1, vI x2, vI x3, vI x4, w5, w6] [] σ := j2_T.go hC [0, 17, 20, 26, 29, 35, 38, 41, 44, 53, 56, 62, 82, 83, 89, 97, 103, 131, 143, 144, 159, 183, 184] 400 h
abbrev T176 (C : j2_C) (Q : j2_P) : j2_K := j2_T C jc_X10_push none Q
set_option maxRecDepth 100000 in
theorem b176_0 {C : j2_C} (hC : j2_up1 C) {Q : j2_P} {o0 : Nat} {x1 : Int32} {σ : j2_S}
  (h : (vp_in (σ.1 10041 o0) 20 ∧ ((none : Option FieldType) = none ∧ Q none ((j2_up σ.1 10041 o0 ((σ.1 10041 o0) + (nI 1))), σ.2.1, (j2_ast σ.2.2 10039 o0 (σ.1 10041 o0).toNatClampNeg x1))))) :
  T176 C Q 0 [vO 10 o0, vI x1] [] σ := j2_T.go hC [0] 400 h
abbrev T177 (C : j2_C) (Q : j2_P) : j2_K := j2_T C jc_X10_give none Q
set_option maxRecDepth 100000 in
theorem b177_0 {C : j2_C} (hC : j2_up1 C) {Q : j2_P} {o0 : Nat} {x1 : Int32} {x2 : Int32} {σ : j2_S}
  (h : (vp_in x2 28800 ∧ (((σ.2.2 10027 o0 x2.toNatClampNeg) = 0 → T177 C Q 16 [vO 10 o0, vI x1, vI x2, vI (σ.2.2 10027 o0 x2.toNatClampNeg), vM 2] [] σ) ∧ (¬ ((σ.2.2 10027 o0 x2.toNatClampNeg) = 0) → (((σ.2.2 10027 o0 x2.toNatClampNeg) < (nI 6) → T177 C Q 13 [vO 10 o0, vI x1, vI x2, vI (σ.2.2 10027 o0 x2.toNatClampNeg), vM 2] [] σ) ∧ (¬ ((σ.2.2 10027 o0 x2.toNatClampNeg) < (nI 6)) → (((σ.2.2 10027 o0 x2.toNatClampNeg) ≤ (nI 10) → T177 C Q 16 [vO 10 o0, vI x1, vI x2, vI (σ.2.2 10027 o0 x2.toNatClampNeg), vM 2] [] σ) ∧ (¬ ((σ.2.2 10027 o0 x2.toNatClampNeg) ≤ (nI 10)) → T177 C Q 13 [vO 10 o0, vI x1, vI x2, vI (σ.2.2 10027 o0 x2.toNatClampNeg), vM 2] [] σ)))))))) :
  T177 C Q 0 [vO 10 o0, vI x1, vI x2, vM 2, vM 2] [] σ := j2_T.go hC [0, 13, 16, 19, 25, 37, 52, 70, 76, 84, 90, 110, 111, 117, 148, 149] 400 h
set_option maxRecDepth 100000 in
theorem b177_13 {C : j2_C} (hC : j2_up1 C) {Q : j2_P} {o0 : Nat} {x1 : Int32} {x2 : Int32} {x3 : Int32} {σ : j2_S}
  (h : ((¬ x3 = (nI 25) → T177 C Q 19 [vO 10 o0, vI x1, vI x2, vI x3, vM 2] [] σ) ∧ (¬ (¬ x3 = (nI 25)) → T177 C Q 16 [vO 10 o0, vI x1, vI x2, vI x3, vM 2] [] σ))) :
  T177 C Q 13 [vO 10 o0, vI x1, vI x2, vI x3, vM 2] [] σ := j2_T.go hC [0, 13, 16, 19, 25, 37, 52, 70, 76, 84, 90, 110, 111, 117, 148, 149] 400 h
set_option maxRecDepth 100000 in
theorem b177_16 {C : j2_C} (hC : j2_up1 C) {Q : j2_P} {o0 : Nat} {x1 : Int32} {x2 : Int32} {x3 : Int32} {σ : j2_S}
  (h : C 176 [vO 10 o0, vI (nI 1)] σ (fun r σ1 => T177 C Q 19 [vO 10 o0, vI x1, vI x2, vI x3, vM 2] (r.toList ++ []) σ1)) :
  T177 C Q 16 [vO 10 o0, vI x1, vI x2, vI x3, vM 2] [] σ := j2_T.go hC [0, 13, 16, 19, 25, 37, 52, 70, 76, 84, 90, 110, 111, 117, 148, 149] 400 h
set_option maxRecDepth 100000 in
theorem b177_19 {C : j2_C} (hC : j2_up1 C) {Q : j2_P} {o0 : Nat} {x1 : Int32} {x2 : Int32} {x3 : Int32} {σ : j2_S}
  (h : ((¬ x3 = (nI 1) → T177 C Q 25 [vO 10 o0, vI x1, vI x2, vI x3, vM 2] [] σ) ∧ (¬ (¬ x3 = (nI 1)) → C 176 [vO 10 o0, vI (nI 2)] σ (fun r σ1 => T177 C Q 25 [vO 10 o0, vI x1, vI x2, vI x3, vM 2] (r.toList ++ []) σ1)))) :
  T177 C Q 19 [vO 10 o0, vI x1, vI x2, vI x3, vM 2] [] σ := j2_T.go hC [0, 13, 16, 19, 25, 37, 52, 70, 76, 84, 90, 110, 111, 117, 148, 149] 400 h
set_option maxRecDepth 100000 in
theorem b177_25 {C : j2_C} (hC : j2_up1 C) {Q : j2_P} {o0 : Nat} {x1 : Int32} {x2 : Int32} {x3 : Int32} {σ : j2_S}
  (h : ((¬ x3 = (nI 2) → T177 C Q 37 [vO 10 o0, vI x1, vI x2, vI x3, vM 2] [] σ) ∧ (¬ (¬ x3 = (nI 2)) → (vp_in x2 28800 ∧ (vp_in (σ.2.2 10028 o0 x2.toNatClampNeg) 20 ∧ C 176 [vO 10 o0, vI (σ.2.2 10040 o0 (σ.2.2 10028 o0 x2.toNatClampNeg).toNatClampNeg)] σ (fun r σ1 => T177 C Q 37 [vO 10 o0, vI x1, vI x2, vI x3, vM 2] (r.toList ++ []) σ1)))))) :
  T177 C Q 25 [vO 10 o0, vI x1, vI x2, vI x3, vM 2] [] σ := j2_T.go hC [0, 13, 16, 19, 25, 37, 52, 70, 76, 84, 90, 110, 111, 117, 148, 149] 400 h
set_option maxRecDepth 100000 in
theorem b177_37 {C : j2_C} (hC : j2_up1 C) {Q : j2_P} {o0 : Nat} {x1 : Int32} {x2 : Int32} {x3 : Int32} {σ : j2_S}
  (h : ((¬ x3 = (nI 3) → T177 C Q 52 [vO 10 o0, vI x1, vI x2, vI x3, vM 2] [] σ) ∧ (¬ (¬ x3 = (nI 3)) → (vp_in x2 28800 ∧ (vp_in (σ.1 10041 o0) 20 ∧ (vp_in (σ.2.2 10028 o0 x2.toNatClampNeg) 20 ∧ T177 C Q 52 [vO 10 o0, vI x1, vI x2, vI x3, vM 2] [] (σ.1, σ.2.1, (j2_ast σ.2.2 10040 o0 (σ.2.2 10028 o0 x2.toNatClampNeg).toNatClampNeg (σ.2.2 10039 o0 (σ.1 10041 o0).toNatClampNeg))))))))) :
  T177 C Q 37 [vO 10 o0, vI x1, vI x2, vI x3, vM 2] [] σ := j2_T.go hC [0, 13, 16, 19, 25, 37, 52, 70, 76, 84, 90, 110, 111, 117, 148, 149] 400 h
set_option maxRecDepth 100000 in
theorem b177_52 {C : j2_C} (hC : j2_up1 C) {Q : j2_P} {o0 : Nat} {x1 : Int32} {x2 : Int32} {x3 : Int32} {σ : j2_S}
  (h : ((¬ x3 = (nI 5) → T177 C Q 70 [vO 10 o0, vI x1, vI x2, vI x3, vM 2] [] σ) ∧ (¬ (¬ x3 = (nI 5)) → (vp_in (((j2_up σ.1 10041 o0 ((σ.1 10041 o0) + (nI 1))) 10041 o0) - (nI 1)) 20 ∧ C 176 [vO 10 o0, vI (σ.2.2 10039 o0 (((j2_up σ.1 10041 o0 ((σ.1 10041 o0) + (nI 1))) 10041 o0) - (nI 1)).toNatClampNeg)] ((j2_up σ.1 10041 o0 ((σ.1 10041 o0) + (nI 1))), σ.2.1, σ.2.2) (fun r σ1 => T177 C Q 70 [vO 10 o0, vI x1, vI x2, vI x3, vM 2] (r.toList ++ []) σ1))))) :
  T177 C Q 52 [vO 10 o0, vI x1, vI x2, vI x3, vM 2] [] σ := j2_T.go hC [0, 13, 16, 19, 25, 37, 52, 70, 76, 84, 90, 110, 111, 117, 148, 149] 400 h
set_option maxRecDepth 100000 in
theorem b177_70 {C : j2_C} (hC : j2_up1 C) {Q : j2_P} {o0 : Nat} {x1 : Int32} {x2 : Int32} {x3 : Int32} {σ : j2_S}
  (h : ((x3 = (nI 15) → T177 C Q 76 [vO 10 o0, vI x1, vI x2, vI x3, vM 2] [] σ) ∧ (¬ (x3 = (nI 15)) → ((¬ x3 = (nI 24) → T177 C Q 84 [vO 10 o0, vI x1, vI x2, vI x3, vM 2] [] σ) ∧ (¬ (¬ x3 = (nI 24)) → T177 C Q 76 [vO 10 o0, vI x1, vI x2, vI x3, vM 2] [] σ))))) :
  T177 C Q 70 [vO 10 o0, vI x1, vI x2, vI x3, vM 2] [] σ := j2_T.go hC [0, 13, 16, 19, 25, 37, 52, 70, 76, 84, 90, 110, 111, 117, 148, 149] 400 h
set_option maxRecDepth 100000 in
theorem b177_76 {C : j2_C} (hC : j2_up1 C) {Q : j2_P} {o0 : Nat} {x1 : Int32} {x2 : Int32} {x3 : Int32} {σ : j2_S}
  (h : (vp_in x2 28800 ∧ C 176 [vO 10 o0, vI ((nI 4) + (σ.2.2 10028 o0 x2.toNatClampNeg))] σ (fun r σ1 => T177 C Q 84 [vO 10 o0, vI x1, vI x2, vI x3, vM 2] (r.toList ++ []) σ1))) :
  T177 C Q 76 [vO 10 o0, vI x1, vI x2, vI x3, vM 2] [] σ := j2_T.go hC [0, 13, 16, 19, 25, 37, 52, 70, 76, 84, 90, 110, 111, 117, 148, 149] 400 h
set_option maxRecDepth 100000 in
theorem b177_84 {C : j2_C} (hC : j2_up1 C) {Q : j2_P} {o0 : Nat} {x1 : Int32} {x2 : Int32} {x3 : Int32} {σ : j2_S}
  (h : ((x3 = (nI 16) → T177 C Q 90 [vO 10 o0, vI x1, vI x2, vI x3, vM 2] [] σ) ∧ (¬ (x3 = (nI 16)) → ((¬ x3 = (nI 18) → T177 C Q 111 [vO 10 o0, vI x1, vI x2, vI x3, vM 2] [] σ) ∧ (¬ (¬ x3 = (nI 18)) → T177 C Q 90 [vO 10 o0, vI x1, vI x2, vI x3, vM 2] [] σ))))) :
  T177 C Q 84 [vO 10 o0, vI x1, vI x2, vI x3, vM 2] [] σ := j2_T.go hC [0, 13, 16, 19, 25, 37, 52, 70, 76, 84, 90, 110, 111, 117, 148, 149] 400 h
set_option maxRecDepth 100000 in
theorem b177_90 {C : j2_C} (hC : j2_up1 C) {Q : j2_P} {o0 : Nat} {x1 : Int32} {x2 : Int32} {x3 : Int32} {σ : j2_S}
  (h : (vp_in x2 28800 ∧ (vp_in x2 28800 ∧ (vp_in ((((nI 60) * x1) + ((nI 6) * (σ.2.2 10028 o0 x2.toNatClampNeg))) + (σ.2.2 10029 o0 x2.toNatClampNeg)) 180 ∧ C 173 [vI (σ.2.2 10016 o0 ((((nI 60) * x1) + ((nI 6) * (σ.2.2 10028 o0 x2.toNatClampNeg))) + (σ.2.2 10029 o0 x2.toNatClampNeg)).toNatClampNeg)] σ (fun r σ1 => T177 C Q 110 [vO 10 o0, vI x1, vI x2, vI x3, vM 2] (r.toList ++ [vO 10 o0]) σ1))))) :
  T177 C Q 90 [vO 10 o0, vI x1, vI x2, vI x3, vM 2] [] σ := j2_T.go hC [0, 13, 16, 19, 25, 37, 52, 70, 76, 84, 90, 110, 111, 117, 148, 149] 400 h
set_option maxRecDepth 100000 in
theorem b177_110 {C : j2_C} (hC : j2_up1 C) {Q : j2_P} {o0 : Nat} {x1 : Int32} {x2 : Int32} {x3 : Int32} {xs0 : Int32} {os1 : Nat} {σ : j2_S}
  (h : C 176 [vO 10 os1, vI xs0] σ (fun r σ1 => T177 C Q 111 [vO 10 o0, vI x1, vI x2, vI x3, vM 2] (r.toList ++ []) σ1)) :
  T177 C Q 110 [vO 10 o0, vI x1, vI x2, vI x3, vM 2] [vI xs0, vO 10 os1] σ := j2_T.go hC [0, 13, 16, 19, 25, 37, 52, 70, 76, 84, 90, 110, 111, 117, 148, 149] 400 h
set_option maxRecDepth 100000 in
theorem b177_111 {C : j2_C} (hC : j2_up1 C) {Q : j2_P} {o0 : Nat} {x1 : Int32} {x2 : Int32} {x3 : Int32} {σ : j2_S}
  (h : ((x3 = (nI 20) → T177 C Q 117 [vO 10 o0, vI x1, vI x2, vI x3, vM 2] [] σ) ∧ (¬ (x3 = (nI 20)) → ((¬ x3 = (nI 21) → T177 C Q 149 [vO 10 o0, vI x1, vI x2, vI x3, vM 2] [] σ) ∧ (¬ (¬ x3 = (nI 21)) → T177 C Q 117 [vO 10 o0, vI x1, vI x2, vI x3, vM 2] [] σ))))) :
  T177 C Q 111 [vO 10 o0, vI x1, vI x2, vI x3, vM 2] [] σ := j2_T.go hC [0, 13, 16, 19, 25, 37, 52, 70, 76, 84, 90, 110, 111, 117, 148, 149] 400 h
set_option maxRecDepth 100000 in
theorem b177_117 {C : j2_C} (hC : j2_up1 C) {Q : j2_P} {o0 : Nat} {x1 : Int32} {x2 : Int32} {x3 : Int32} {σ : j2_S}
  (h : (vp_in x2 28800 ∧ (vp_in (((nI 10) * x1) + (σ.2.2 10028 o0 x2.toNatClampNeg)) 30 ∧ (vp_in x2 28800 ∧ (vp_in ((((nI 80) * x1) + (σ.2.2 10013 o0 (((nI 10) * x1) + (σ.2.2 10028 o0 x2.toNatClampNeg)).toNatClampNeg)) + (σ.2.2 10029 o0 x2.toNatClampNeg)) 240 ∧ (((σ.2.2 10022 o0 ((((nI 80) * x1) + (σ.2.2 10013 o0 (((nI 10) * x1) + (σ.2.2 10028 o0 x2.toNatClampNeg)).toNatClampNeg)) + (σ.2.2 10029 o0 x2.toNatClampNeg)).toNatClampNeg) ≤ 0 → T177 C Q 149 [vO 10 o0, vI x1, vI x2, vI x3, vI (σ.2.2 10022 o0 ((((nI 80) * x1) + (σ.2.2 10013 o0 (((nI 10) * x1) + (σ.2.2 10028 o0 x2.toNatClampNeg)).toNatClampNeg)) + (σ.2.2 10029 o0 x2.toNatClampNeg)).toNatClampNeg)] [] σ) ∧ (¬ ((σ.2.2 10022 o0 ((((nI 80) * x1) + (σ.2.2 10013 o0 (((nI 10) * x1) + (σ.2.2 10028 o0 x2.toNatClampNeg)).toNatClampNeg)) + (σ.2.2 10029 o0 x2.toNatClampNeg)).toNatClampNeg) ≤ 0) → C 173 [vI ((σ.2.2 10022 o0 ((((nI 80) * x1) + (σ.2.2 10013 o0 (((nI 10) * x1) + (σ.2.2 10028 o0 x2.toNatClampNeg)).toNatClampNeg)) + (σ.2.2 10029 o0 x2.toNatClampNeg)).toNatClampNeg) - (nI 1))] σ (fun r σ1 => T177 C Q 148 [vO 10 o0, vI x1, vI x2, vI x3, vI (σ.2.2 10022 o0 ((((nI 80) * x1) + (σ.2.2 10013 o0 (((nI 10) * x1) + (σ.2.2 10028 o0 x2.toNatClampNeg)).toNatClampNeg)) + (σ.2.2 10029 o0 x2.toNatClampNeg)).toNatClampNeg)] (r.toList ++ [vO 10 o0]) σ1)))))))) :
  T177 C Q 117 [vO 10 o0, vI x1, vI x2, vI x3, vM 2] [] σ := j2_T.go hC [0, 13, 16, 19, 25, 37, 52, 70, 76, 84, 90, 110, 111, 117, 148, 149] 400 h
set_option maxRecDepth 100000 in
theorem b177_148 {C : j2_C} (hC : j2_up1 C) {Q : j2_P} {o0 : Nat} {x1 : Int32} {x2 : Int32} {x3 : Int32} {x4 : Int32} {xs0 : Int32} {os1 : Nat} {σ : j2_S}
  (h : C 176 [vO 10 os1, vI xs0] σ (fun r σ1 => T177 C Q 149 [vO 10 o0, vI x1, vI x2, vI x3, vI x4] (r.toList ++ []) σ1)) :
  T177 C Q 148 [vO 10 o0, vI x1, vI x2, vI x3, vI x4] [vI xs0, vO 10 os1] σ := j2_T.go hC [0, 13, 16, 19, 25, 37, 52, 70, 76, 84, 90, 110, 111, 117, 148, 149] 400 h
set_option maxRecDepth 100000 in
theorem b177_149 {C : j2_C} (hC : j2_up1 C) {Q : j2_P} {o0 : Nat} {x1 : Int32} {x2 : Int32} {x3 : Int32} {w4 : j2_W} {σ : j2_S}
  (h : ((none : Option FieldType) = none ∧ Q none σ)) :
  T177 C Q 149 [vO 10 o0, vI x1, vI x2, vI x3, w4] [] σ := j2_T.go hC [0, 13, 16, 19, 25, 37, 52, 70, 76, 84, 90, 110, 111, 117, 148, 149] 400 h
abbrev T178 (C : j2_C) (Q : j2_P) : j2_K := j2_T C jc_X10_arrive none Q
set_option maxRecDepth 100000 in
theorem b178_0 {C : j2_C} (hC : j2_up1 C) {Q : j2_P} {o0 : Nat} {x1 : Int32} {x2 : Int32} {x3 : Int32} {x4 : Int32} {σ : j2_S}
  (h : ((¬ x1 = 0 → T178 C Q 5 [vO 10 o0, vI x1, vI x2, vI x3, vI x4, vM 2, vM 2, vM 2, vM 2, vM 2] [vI (nI 9600)] σ) ∧ (¬ (¬ x1 = 0) → T178 C Q 5 [vO 10 o0, vI x1, vI x2, vI x3, vI x4, vM 2, vM 2, vM 2, vM 2, vM 2] [vI (nI 0)] σ))) :
  T178 C Q 0 [vO 10 o0, vI x1, vI x2, vI x3, vI x4, vM 2, vM 2, vM 2, vM 2, vM 2] [] σ := j2_T.go hC [0, 5, 30, 50, 104, 107, 124, 133, 140, 144, 166, 181, 184, 196, 198, 219, 234, 237] 400 h
set_option maxRecDepth 100000 in
theorem b178_5 {C : j2_C} (hC : j2_up1 C) {Q : j2_P} {o0 : Nat} {x1 : Int32} {x2 : Int32} {x3 : Int32} {x4 : Int32} {xs0 : Int32} {σ : j2_S}
  (h : (vp_in ((xs0 + ((nI 120) * x2)) + x3) 19200 ∧ ((¬ (σ.2.2 10035 o0 ((xs0 + ((nI 120) * x2)) + x3).toNatClampNeg) = 0 → (vp_in (((nI 80) * x1) + x2) 240 ∧ (vp_in (((nI 10) * x1) + (σ.2.2 10019 o0 (((nI 80) * x1) + x2).toNatClampNeg)) 30 ∧ (vp_in ((xs0 + ((nI 120) * x2)) + x3) 19200 ∧ (((σ.2.2 10036 o0 ((xs0 + ((nI 120) * x2)) + x3).toNatClampNeg) = (σ.1 10041 o0) → T178 C Q 107 [vO 10 o0, vI x1, vI x2, vI x3, vI x4, vI ((xs0 + ((nI 120) * x2)) + x3), vI (σ.2.2 10019 o0 (((nI 80) * x1) + x2).toNatClampNeg), vI (x2 - (σ.2.2 10013 o0 (((nI 10) * x1) + (σ.2.2 10019 o0 (((nI 80) * x1) + x2).toNatClampNeg)).toNatClampNeg)), vI (nI 0), vM 2] [] σ) ∧ (¬ ((σ.2.2 10036 o0 ((xs0 + ((nI 120) * x2)) + x3).toNatClampNeg) = (σ.1 10041 o0)) → C 158 [vO 10 o0, vI (nI 6), vI (σ.2.2 10019 o0 (((nI 80) * x1) + x2).toNatClampNeg), vI (x2 - (σ.2.2 10013 o0 (((nI 10) * x1) + (σ.2.2 10019 o0 (((nI 80) * x1) + x2).toNatClampNeg)).toNatClampNeg)), vI x4] σ (fun r σ1 => T178 C Q 104 [vO 10 o0, vI x1, vI x2, vI x3, vI x4, vI ((xs0 + ((nI 120) * x2)) + x3), vI (σ.2.2 10019 o0 (((nI 80) * x1) + x2).toNatClampNeg), vI (x2 - (σ.2.2 10013 o0 (((nI 10) * x1) + (σ.2.2 10019 o0 (((nI 80) * x1) + x2).toNatClampNeg)).toNatClampNeg)), vM 2, vM 2] (r.toList ++ []) σ1))))))) ∧ (¬ (¬ (σ.2.2 10035 o0 ((xs0 + ((nI 120) * x2)) + x3).toNatClampNeg) = 0) → (((nI 1) = 0 ∨ (nI 1) = 1) ∧ vp_in ((xs0 + ((nI 120) * x2)) + x3) 19200 ∧ (vp_in ((xs0 + ((nI 120) * x2)) + x3) 19200 ∧ T178 C Q 30 [vO 10 o0, vI x1, vI x2, vI x3, vI x4, vI ((xs0 + ((nI 120) * x2)) + x3), vI (nI 0), vM 2, vM 2, vM 2] [] (σ.1, σ.2.1, (j2_ast (j2_ast σ.2.2 10035 o0 ((xs0 + ((nI 120) * x2)) + x3).toNatClampNeg (nI 1)) 10036 o0 ((xs0 + ((nI 120) * x2)) + x3).toNatClampNeg (σ.1 10041 o0))))))))) :
  T178 C Q 5 [vO 10 o0, vI x1, vI x2, vI x3, vI x4, vM 2, vM 2, vM 2, vM 2, vM 2] [vI xs0] σ := j2_T.go hC [0, 5, 30, 50, 104, 107, 124, 133, 140, 144, 166, 181, 184, 196, 198, 219, 234, 237] 400 h
set_option maxRecDepth 100000 in
theorem b178_30 {C : j2_C} (hC : j2_up1 C) {Q : j2_P} {o0 : Nat} {x1 : Int32} {x2 : Int32} {x3 : Int32} {x4 : Int32} {x5 : Int32} {x6 : Int32} {σ : j2_S}
  (h : (((σ.1 10041 o0) ≤ x6 → T178 C Q 50 [vO 10 o0, vI x1, vI x2, vI x3, vI x4, vI x5, vI (nI 0), vM 2, vM 2, vM 2] [] σ) ∧ (¬ ((σ.1 10041 o0) ≤ x6) → (vp_in x6 20 ∧ (vp_in (((nI 10) * x5) + x6) 192000 ∧ T178 C Q 30 [vO 10 o0, vI x1, vI x2, vI x3, vI x4, vI x5, vI (x6 + (nI 1)), vM 2, vM 2, vM 2] [] (σ.1, σ.2.1, (j2_ast σ.2.2 10037 o0 (((nI 10) * x5) + x6).toNatClampNeg (σ.2.2 10039 o0 x6.toNatClampNeg)))))))) :
  T178 C Q 30 [vO 10 o0, vI x1, vI x2, vI x3, vI x4, vI x5, vI x6, vM 2, vM 2, vM 2] [] σ := j2_T.go hC [0, 5, 30, 50, 104, 107, 124, 133, 140, 144, 166, 181, 184, 196, 198, 219, 234, 237] 400 h
set_option maxRecDepth 100000 in
theorem b178_50 {C : j2_C} (hC : j2_up1 C) {Q : j2_P} {o0 : Nat} {x1 : Int32} {x2 : Int32} {x3 : Int32} {x4 : Int32} {x5 : Int32} {x6 : Int32} {σ : j2_S}
  (h : (((nI 20) ≤ x6 → (((nI 1) = 0 ∨ (nI 1) = 1) ∧ ((none : Option FieldType) = none ∧ Q none ((j2_up σ.1 10042 o0 (nI 1)), σ.2.1, σ.2.2)))) ∧ (¬ ((nI 20) ≤ x6) → (vp_in x6 20 ∧ (vp_in (((nI 20) * x5) + x6) 384000 ∧ T178 C Q 50 [vO 10 o0, vI x1, vI x2, vI x3, vI x4, vI x5, vI (x6 + (nI 1)), vM 2, vM 2, vM 2] [] (σ.1, σ.2.1, (j2_ast σ.2.2 10038 o0 (((nI 20) * x5) + x6).toNatClampNeg (σ.2.2 10040 o0 x6.toNatClampNeg)))))))) :
  T178 C Q 50 [vO 10 o0, vI x1, vI x2, vI x3, vI x4, vI x5, vI x6, vM 2, vM 2, vM 2] [] σ := j2_T.go hC [0, 5, 30, 50, 104, 107, 124, 133, 140, 144, 166, 181, 184, 196, 198, 219, 234, 237] 400 h
set_option maxRecDepth 100000 in
theorem b178_104 {C : j2_C} (hC : j2_up1 C) {Q : j2_P} {o0 : Nat} {x1 : Int32} {x2 : Int32} {x3 : Int32} {x4 : Int32} {x5 : Int32} {x6 : Int32} {x7 : Int32} {σ : j2_S}
  (h : ((none : Option FieldType) = none ∧ Q none σ)) :
  T178 C Q 104 [vO 10 o0, vI x1, vI x2, vI x3, vI x4, vI x5, vI x6, vI x7, vM 2, vM 2] [] σ := j2_T.go hC [0, 5, 30, 50, 104, 107, 124, 133, 140, 144, 166, 181, 184, 196, 198, 219, 234, 237] 400 h
set_option maxRecDepth 100000 in
theorem b178_107 {C : j2_C} (hC : j2_up1 C) {Q : j2_P} {o0 : Nat} {x1 : Int32} {x2 : Int32} {x3 : Int32} {x4 : Int32} {x5 : Int32} {x6 : Int32} {x7 : Int32} {x8 : Int32} {σ : j2_S}
  (h : (((σ.1 10041 o0) ≤ x8 → T178 C Q 144 [vO 10 o0, vI x1, vI x2, vI x3, vI x4, vI x5, vI x6, vI x7, vI (nI 0), vM 2] [] σ) ∧ (¬ ((σ.1 10041 o0) ≤ x8) → (vp_in (((nI 10) * x5) + x8) 192000 ∧ ((¬ (σ.2.2 10037 o0 (((nI 10) * x5) + x8).toNatClampNeg) = (nI 1) → T178 C Q 124 [vO 10 o0, vI x1, vI x2, vI x3, vI x4, vI x5, vI x6, vI x7, vI x8, vM 2] [vI (nI 0)] σ) ∧ (¬ (¬ (σ.2.2 10037 o0 (((nI 10) * x5) + x8).toNatClampNeg) = (nI 1)) → T178 C Q 124 [vO 10 o0, vI x1, vI x2, vI x3, vI x4, vI x5, vI x6, vI x7, vI x8, vM 2] [vI (nI 1)] σ)))))) :
  T178 C Q 107 [vO 10 o0, vI x1, vI x2, vI x3, vI x4, vI x5, vI x6, vI x7, vI x8, vM 2] [] σ := j2_T.go hC [0, 5, 30, 50, 104, 107, 124, 133, 140, 144, 166, 181, 184, 196, 198, 219, 234, 237] 400 h
set_option maxRecDepth 100000 in
theorem b178_124 {C : j2_C} (hC : j2_up1 C) {Q : j2_P} {o0 : Nat} {x1 : Int32} {x2 : Int32} {x3 : Int32} {x4 : Int32} {x5 : Int32} {x6 : Int32} {x7 : Int32} {x8 : Int32} {xs0 : Int32} {σ : j2_S}
  (h : (vp_in x8 20 ∧ ((¬ (σ.2.2 10039 o0 x8.toNatClampNeg) = (nI 1) → T178 C Q 133 [vO 10 o0, vI x1, vI x2, vI x3, vI x4, vI x5, vI x6, vI x7, vI x8, vM 2] [vI (nI 0), vI xs0] σ) ∧ (¬ (¬ (σ.2.2 10039 o0 x8.toNatClampNeg) = (nI 1)) → T178 C Q 133 [vO 10 o0, vI x1, vI x2, vI x3, vI x4, vI x5, vI x6, vI x7, vI x8, vM 2] [vI (nI 1), vI xs0] σ)))) :
  T178 C Q 124 [vO 10 o0, vI x1, vI x2, vI x3, vI x4, vI x5, vI x6, vI x7, vI x8, vM 2] [vI xs0] σ := j2_T.go hC [0, 5, 30, 50, 104, 107, 124, 133, 140, 144, 166, 181, 184, 196, 198, 219, 234, 237] 400 h
set_option maxRecDepth 100000 in
theorem b178_133 {C : j2_C} (hC : j2_up1 C) {Q : j2_P} {o0 : Nat} {x1 : Int32} {x2 : Int32} {x3 : Int32} {x4 : Int32} {x5 : Int32} {x6 : Int32} {x7 : Int32} {x8 : Int32} {xs0 : Int32} {xs1 : Int32} {σ : j2_S}
  (h : ((xs1 = xs0 → T178 C Q 140 [vO 10 o0, vI x1, vI x2, vI x3, vI x4, vI x5, vI x6, vI x7, vI x8, vM 2] [] σ) ∧ (¬ (xs1 = xs0) → C 158 [vO 10 o0, vI (nI 6), vI x6, vI x7, vI x4] σ (fun r σ1 => T178 C Q 140 [vO 10 o0, vI x1, vI x2, vI x3, vI x4, vI x5, vI x6, vI x7, vI x8, vM 2] (r.toList ++ []) σ1)))) :
  T178 C Q 133 [vO 10 o0, vI x1, vI x2, vI x3, vI x4, vI x5, vI x6, vI x7, vI x8, vM 2] [vI xs0, vI xs1] σ := j2_T.go hC [0, 5, 30, 50, 104, 107, 124, 133, 140, 144, 166, 181, 184, 196, 198, 219, 234, 237] 400 h
set_option maxRecDepth 100000 in
theorem b178_140 {C : j2_C} (hC : j2_up1 C) {Q : j2_P} {o0 : Nat} {x1 : Int32} {x2 : Int32} {x3 : Int32} {x4 : Int32} {x5 : Int32} {x6 : Int32} {x7 : Int32} {x8 : Int32} {σ : j2_S}
  (h : T178 C Q 107 [vO 10 o0, vI x1, vI x2, vI x3, vI x4, vI x5, vI x6, vI x7, vI (x8 + (nI 1)), vM 2] [] σ) :
  T178 C Q 140 [vO 10 o0, vI x1, vI x2, vI x3, vI x4, vI x5, vI x6, vI x7, vI x8, vM 2] [] σ := j2_T.go hC [0, 5, 30, 50, 104, 107, 124, 133, 140, 144, 166, 181, 184, 196, 198, 219, 234, 237] 400 h
set_option maxRecDepth 100000 in
theorem b178_144 {C : j2_C} (hC : j2_up1 C) {Q : j2_P} {o0 : Nat} {x1 : Int32} {x2 : Int32} {x3 : Int32} {x4 : Int32} {x5 : Int32} {x6 : Int32} {x7 : Int32} {x8 : Int32} {w9 : j2_W} {σ : j2_S}
  (h : (((σ.1 10041 o0) ≤ x8 → T178 C Q 196 [vO 10 o0, vI x1, vI x2, vI x3, vI x4, vI x5, vI x6, vI x7, vI x8, w9] [] σ) ∧ (¬ ((σ.1 10041 o0) ≤ x8) → ((¬ (σ.1 10007 o0) = 0 → T178 C Q 196 [vO 10 o0, vI x1, vI x2, vI x3, vI x4, vI x5, vI x6, vI x7, vI x8, w9] [] σ) ∧ (¬ (¬ (σ.1 10007 o0) = 0) → (vp_in (((nI 10) * x5) + x8) 192000 ∧ (vp_in x8 20 ∧ C 171 [vO 10 o0, vI x1, vI (σ.2.2 10037 o0 (((nI 10) * x5) + x8).toNatClampNeg), vI (σ.2.2 10039 o0 x8.toNatClampNeg)] σ (fun r σ1 => T178 C Q 166 [vO 10 o0, vI x1, vI x2, vI x3, vI x4, vI x5, vI x6, vI x7, vI x8, w9] (r.toList ++ []) σ1)))))))) :
  T178 C Q 144 [vO 10 o0, vI x1, vI x2, vI x3, vI x4, vI x5, vI x6, vI x7, vI x8, w9] [] σ := j2_T.go hC [0, 5, 30, 50, 104, 107, 124, 133, 140, 144, 166, 181, 184, 196, 198, 219, 234, 237] 400 h
set_option maxRecDepth 100000 in
theorem b178_166 {C : j2_C} (hC : j2_up1 C) {Q : j2_P} {o0 : Nat} {x1 : Int32} {x2 : Int32} {x3 : Int32} {x4 : Int32} {x5 : Int32} {x6 : Int32} {x7 : Int32} {x8 : Int32} {w9 : j2_W} {xs0 : Int32} {σ : j2_S}
  (h : ((¬ (σ.1 10042 o0) = 0 → T178 C Q 181 [vO 10 o0, vI x1, vI x2, vI x3, vI x4, vI x5, vI x6, vI x7, vI x8, vI xs0] [vO 10 o0] σ) ∧ (¬ (¬ (σ.1 10042 o0) = 0) → (vp_in (((nI 10) * x5) + x8) 192000 ∧ ((xs0 = (σ.2.2 10037 o0 (((nI 10) * x5) + x8).toNatClampNeg) → T178 C Q 184 [vO 10 o0, vI x1, vI x2, vI x3, vI x4, vI x5, vI x6, vI x7, vI x8, vI xs0] [vI (nI 0), vO 10 o0] σ) ∧ (¬ (xs0 = (σ.2.2 10037 o0 (((nI 10) * x5) + x8).toNatClampNeg)) → T178 C Q 181 [vO 10 o0, vI x1, vI x2, vI x3, vI x4, vI x5, vI x6, vI x7, vI x8, vI xs0] [vO 10 o0] σ)))))) :
  T178 C Q 166 [vO 10 o0, vI x1, vI x2, vI x3, vI x4, vI x5, vI x6, vI x7, vI x8, w9] [vI xs0] σ := j2_T.go hC [0, 5, 30, 50, 104, 107, 124, 133, 140, 144, 166, 181, 184, 196, 198, 219, 234, 237] 400 h
set_option maxRecDepth 100000 in
theorem b178_181 {C : j2_C} (hC : j2_up1 C) {Q : j2_P} {o0 : Nat} {x1 : Int32} {x2 : Int32} {x3 : Int32} {x4 : Int32} {x5 : Int32} {x6 : Int32} {x7 : Int32} {x8 : Int32} {x9 : Int32} {os0 : Nat} {σ : j2_S}
  (h : T178 C Q 184 [vO 10 o0, vI x1, vI x2, vI x3, vI x4, vI x5, vI x6, vI x7, vI x8, vI x9] [vI (nI 1), vO 10 os0] σ) :
  T178 C Q 181 [vO 10 o0, vI x1, vI x2, vI x3, vI x4, vI x5, vI x6, vI x7, vI x8, vI x9] [vO 10 os0] σ := j2_T.go hC [0, 5, 30, 50, 104, 107, 124, 133, 140, 144, 166, 181, 184, 196, 198, 219, 234, 237] 400 h
set_option maxRecDepth 100000 in
theorem b178_184 {C : j2_C} (hC : j2_up1 C) {Q : j2_P} {o0 : Nat} {x1 : Int32} {x2 : Int32} {x3 : Int32} {x4 : Int32} {x5 : Int32} {x6 : Int32} {x7 : Int32} {x8 : Int32} {x9 : Int32} {xs0 : Int32} {os1 : Nat} {σ : j2_S}
  (h : ((xs0 = 0 ∨ xs0 = 1) ∧ (vp_in (((nI 10) * x5) + x8) 192000 ∧ T178 C Q 144 [vO 10 o0, vI x1, vI x2, vI x3, vI x4, vI x5, vI x6, vI x7, vI (x8 + (nI 1)), vI x9] [] ((j2_up σ.1 10042 os1 xs0), σ.2.1, (j2_ast σ.2.2 10037 o0 (((nI 10) * x5) + x8).toNatClampNeg x9))))) :
  T178 C Q 184 [vO 10 o0, vI x1, vI x2, vI x3, vI x4, vI x5, vI x6, vI x7, vI x8, vI x9] [vI xs0, vO 10 os1] σ := j2_T.go hC [0, 5, 30, 50, 104, 107, 124, 133, 140, 144, 166, 181, 184, 196, 198, 219, 234, 237] 400 h
set_option maxRecDepth 100000 in
theorem b178_196 {C : j2_C} (hC : j2_up1 C) {Q : j2_P} {o0 : Nat} {x1 : Int32} {x2 : Int32} {x3 : Int32} {x4 : Int32} {x5 : Int32} {x6 : Int32} {x7 : Int32} {x8 : Int32} {w9 : j2_W} {σ : j2_S}
  (h : T178 C Q 198 [vO 10 o0, vI x1, vI x2, vI x3, vI x4, vI x5, vI x6, vI x7, vI (nI 0), w9] [] σ) :
  T178 C Q 196 [vO 10 o0, vI x1, vI x2, vI x3, vI x4, vI x5, vI x6, vI x7, vI x8, w9] [] σ := j2_T.go hC [0, 5, 30, 50, 104, 107, 124, 133, 140, 144, 166, 181, 184, 196, 198, 219, 234, 237] 400 h
set_option maxRecDepth 100000 in
theorem b178_198 {C : j2_C} (hC : j2_up1 C) {Q : j2_P} {o0 : Nat} {x1 : Int32} {x2 : Int32} {x3 : Int32} {x4 : Int32} {x5 : Int32} {x6 : Int32} {x7 : Int32} {x8 : Int32} {w9 : j2_W} {σ : j2_S}
  (h : (((nI 20) ≤ x8 → ((none : Option FieldType) = none ∧ Q none σ)) ∧ (¬ ((nI 20) ≤ x8) → ((¬ (σ.1 10007 o0) = 0 → ((none : Option FieldType) = none ∧ Q none σ)) ∧ (¬ (¬ (σ.1 10007 o0) = 0) → (vp_in (((nI 20) * x5) + x8) 384000 ∧ (vp_in x8 20 ∧ C 171 [vO 10 o0, vI x1, vI (σ.2.2 10038 o0 (((nI 20) * x5) + x8).toNatClampNeg), vI (σ.2.2 10040 o0 x8.toNatClampNeg)] σ (fun r σ1 => T178 C Q 219 [vO 10 o0, vI x1, vI x2, vI x3, vI x4, vI x5, vI x6, vI x7, vI x8, w9] (r.toList ++ []) σ1)))))))) :
  T178 C Q 198 [vO 10 o0, vI x1, vI x2, vI x3, vI x4, vI x5, vI x6, vI x7, vI x8, w9] [] σ := j2_T.go hC [0, 5, 30, 50, 104, 107, 124, 133, 140, 144, 166, 181, 184, 196, 198, 219, 234, 237] 400 h
set_option maxRecDepth 100000 in
theorem b178_219 {C : j2_C} (hC : j2_up1 C) {Q : j2_P} {o0 : Nat} {x1 : Int32} {x2 : Int32} {x3 : Int32} {x4 : Int32} {x5 : Int32} {x6 : Int32} {x7 : Int32} {x8 : Int32} {w9 : j2_W} {xs0 : Int32} {σ : j2_S}
  (h : ((¬ (σ.1 10042 o0) = 0 → T178 C Q 234 [vO 10 o0, vI x1, vI x2, vI x3, vI x4, vI x5, vI x6, vI x7, vI x8, vI xs0] [vO 10 o0] σ) ∧ (¬ (¬ (σ.1 10042 o0) = 0) → (vp_in (((nI 20) * x5) + x8) 384000 ∧ ((xs0 = (σ.2.2 10038 o0 (((nI 20) * x5) + x8).toNatClampNeg) → T178 C Q 237 [vO 10 o0, vI x1, vI x2, vI x3, vI x4, vI x5, vI x6, vI x7, vI x8, vI xs0] [vI (nI 0), vO 10 o0] σ) ∧ (¬ (xs0 = (σ.2.2 10038 o0 (((nI 20) * x5) + x8).toNatClampNeg)) → T178 C Q 234 [vO 10 o0, vI x1, vI x2, vI x3, vI x4, vI x5, vI x6, vI x7, vI x8, vI xs0] [vO 10 o0] σ)))))) :
  T178 C Q 219 [vO 10 o0, vI x1, vI x2, vI x3, vI x4, vI x5, vI x6, vI x7, vI x8, w9] [vI xs0] σ := j2_T.go hC [0, 5, 30, 50, 104, 107, 124, 133, 140, 144, 166, 181, 184, 196, 198, 219, 234, 237] 400 h
set_option maxRecDepth 100000 in
theorem b178_234 {C : j2_C} (hC : j2_up1 C) {Q : j2_P} {o0 : Nat} {x1 : Int32} {x2 : Int32} {x3 : Int32} {x4 : Int32} {x5 : Int32} {x6 : Int32} {x7 : Int32} {x8 : Int32} {x9 : Int32} {os0 : Nat} {σ : j2_S}
  (h : T178 C Q 237 [vO 10 o0, vI x1, vI x2, vI x3, vI x4, vI x5, vI x6, vI x7, vI x8, vI x9] [vI (nI 1), vO 10 os0] σ) :
  T178 C Q 234 [vO 10 o0, vI x1, vI x2, vI x3, vI x4, vI x5, vI x6, vI x7, vI x8, vI x9] [vO 10 os0] σ := j2_T.go hC [0, 5, 30, 50, 104, 107, 124, 133, 140, 144, 166, 181, 184, 196, 198, 219, 234, 237] 400 h
set_option maxRecDepth 100000 in
theorem b178_237 {C : j2_C} (hC : j2_up1 C) {Q : j2_P} {o0 : Nat} {x1 : Int32} {x2 : Int32} {x3 : Int32} {x4 : Int32} {x5 : Int32} {x6 : Int32} {x7 : Int32} {x8 : Int32} {x9 : Int32} {xs0 : Int32} {os1 : Nat} {σ : j2_S}
  (h : ((xs0 = 0 ∨ xs0 = 1) ∧ (vp_in (((nI 20) * x5) + x8) 384000 ∧ T178 C Q 198 [vO 10 o0, vI x1, vI x2, vI x3, vI x4, vI x5, vI x6, vI x7, vI (x8 + (nI 1)), vI x9] [] ((j2_up σ.1 10042 os1 xs0), σ.2.1, (j2_ast σ.2.2 10038 o0 (((nI 20) * x5) + x8).toNatClampNeg x9))))) :
  T178 C Q 237 [vO 10 o0, vI x1, vI x2, vI x3, vI x4, vI x5, vI x6, vI x7, vI x8, vI x9] [vI xs0, vO 10 os1] σ := j2_T.go hC [0, 5, 30, 50, 104, 107, 124, 133, 140, 144, 166, 181, 184, 196, 198, 219, 234, 237] 400 h
abbrev T179 (C : j2_C) (Q : j2_P) : j2_K := j2_T C jc_X10_look none Q
set_option maxRecDepth 100000 in
theorem b179_0 {C : j2_C} (hC : j2_up1 C) {Q : j2_P} {o0 : Nat} {x1 : Int32} {x2 : Int32} {x3 : Int32} {σ : j2_S}
  (h : ((¬ x1 = 0 → T179 C Q 5 [vO 10 o0, vI x1, vI x2, vI x3, vM 2, vM 2, vM 2, vM 2, vM 2, vM 2] [vI (nI 9600)] σ) ∧ (¬ (¬ x1 = 0) → T179 C Q 5 [vO 10 o0, vI x1, vI x2, vI x3, vM 2, vM 2, vM 2, vM 2, vM 2, vM 2] [vI (nI 0)] σ))) :
  T179 C Q 0 [vO 10 o0, vI x1, vI x2, vI x3, vM 2, vM 2, vM 2, vM 2, vM 2, vM 2] [] σ := j2_T.go hC [0, 5, 16, 47, 67, 89, 100, 106, 126, 133, 155, 170, 180, 212, 221, 226, 236] 400 h
set_option maxRecDepth 100000 in
theorem b179_5 {C : j2_C} (hC : j2_up1 C) {Q : j2_P} {o0 : Nat} {x1 : Int32} {x2 : Int32} {x3 : Int32} {xs0 : Int32} {σ : j2_S}
  (h : C 160 [vI x1, vI x2, vI x3] σ (fun r σ1 => T179 C Q 16 [vO 10 o0, vI x1, vI x2, vI x3, vI ((xs0 + ((nI 120) * x2)) + x3), vM 2, vM 2, vM 2, vM 2, vM 2] (r.toList ++ []) σ1)) :
  T179 C Q 5 [vO 10 o0, vI x1, vI x2, vI x3, vM 2, vM 2, vM 2, vM 2, vM 2, vM 2] [vI xs0] σ := j2_T.go hC [0, 5, 16, 47, 67, 89, 100, 106, 126, 133, 155, 170, 180, 212, 221, 226, 236] 400 h
set_option maxRecDepth 100000 in
theorem b179_16 {C : j2_C} (hC : j2_up1 C) {Q : j2_P} {o0 : Nat} {x1 : Int32} {x2 : Int32} {x3 : Int32} {x4 : Int32} {xs0 : Int32} {σ : j2_S}
  (h : (vp_in (((nI 80) * x1) + x2) 240 ∧ (vp_in (((nI 10) * x1) + (σ.2.2 10019 o0 (((nI 80) * x1) + x2).toNatClampNeg)) 30 ∧ (vp_in x4 19200 ∧ T179 C Q 47 [vO 10 o0, vI x1, vI x2, vI x3, vI x4, vI xs0, vI (((nI 80) * x1) + x2), vI (σ.2.2 10019 o0 (((nI 80) * x1) + x2).toNatClampNeg), vI (x2 - (σ.2.2 10013 o0 (((nI 10) * x1) + (σ.2.2 10019 o0 (((nI 80) * x1) + x2).toNatClampNeg)).toNatClampNeg)), vI (nI 0)] [] ((j2_up σ.1 10041 o0 (σ.2.2 10036 o0 x4.toNatClampNeg)), σ.2.1, σ.2.2))))) :
  T179 C Q 16 [vO 10 o0, vI x1, vI x2, vI x3, vI x4, vM 2, vM 2, vM 2, vM 2, vM 2] [vI xs0] σ := j2_T.go hC [0, 5, 16, 47, 67, 89, 100, 106, 126, 133, 155, 170, 180, 212, 221, 226, 236] 400 h
set_option maxRecDepth 100000 in
theorem b179_47 {C : j2_C} (hC : j2_up1 C) {Q : j2_P} {o0 : Nat} {x1 : Int32} {x2 : Int32} {x3 : Int32} {x4 : Int32} {x5 : Int32} {x6 : Int32} {x7 : Int32} {x8 : Int32} {x9 : Int32} {σ : j2_S}
  (h : (((σ.1 10041 o0) ≤ x9 → T179 C Q 67 [vO 10 o0, vI x1, vI x2, vI x3, vI x4, vI x5, vI x6, vI x7, vI x8, vI (nI 0)] [] σ) ∧ (¬ ((σ.1 10041 o0) ≤ x9) → (vp_in (((nI 10) * x4) + x9) 192000 ∧ (vp_in x9 20 ∧ T179 C Q 47 [vO 10 o0, vI x1, vI x2, vI x3, vI x4, vI x5, vI x6, vI x7, vI x8, vI (x9 + (nI 1))] [] (σ.1, σ.2.1, (j2_ast σ.2.2 10039 o0 x9.toNatClampNeg (σ.2.2 10037 o0 (((nI 10) * x4) + x9).toNatClampNeg)))))))) :
  T179 C Q 47 [vO 10 o0, vI x1, vI x2, vI x3, vI x4, vI x5, vI x6, vI x7, vI x8, vI x9] [] σ := j2_T.go hC [0, 5, 16, 47, 67, 89, 100, 106, 126, 133, 155, 170, 180, 212, 221, 226, 236] 400 h
set_option maxRecDepth 100000 in
theorem b179_67 {C : j2_C} (hC : j2_up1 C) {Q : j2_P} {o0 : Nat} {x1 : Int32} {x2 : Int32} {x3 : Int32} {x4 : Int32} {x5 : Int32} {x6 : Int32} {x7 : Int32} {x8 : Int32} {x9 : Int32} {σ : j2_S}
  (h : (((nI 20) ≤ x9 → C 175 [vO 10 o0, vI x1, vI x2, vI x5] σ (fun r σ1 => T179 C Q 89 [vO 10 o0, vI x1, vI x2, vI x3, vI x4, vI x5, vI x6, vI x7, vI x8, vI x9] (r.toList ++ []) σ1)) ∧ (¬ ((nI 20) ≤ x9) → (vp_in (((nI 20) * x4) + x9) 384000 ∧ (vp_in x9 20 ∧ T179 C Q 67 [vO 10 o0, vI x1, vI x2, vI x3, vI x4, vI x5, vI x6, vI x7, vI x8, vI (x9 + (nI 1))] [] (σ.1, σ.2.1, (j2_ast σ.2.2 10040 o0 x9.toNatClampNeg (σ.2.2 10038 o0 (((nI 20) * x4) + x9).toNatClampNeg)))))))) :
  T179 C Q 67 [vO 10 o0, vI x1, vI x2, vI x3, vI x4, vI x5, vI x6, vI x7, vI x8, vI x9] [] σ := j2_T.go hC [0, 5, 16, 47, 67, 89, 100, 106, 126, 133, 155, 170, 180, 212, 221, 226, 236] 400 h
set_option maxRecDepth 100000 in
theorem b179_89 {C : j2_C} (hC : j2_up1 C) {Q : j2_P} {o0 : Nat} {x1 : Int32} {x2 : Int32} {x3 : Int32} {x4 : Int32} {x5 : Int32} {x6 : Int32} {x7 : Int32} {x8 : Int32} {x9 : Int32} {σ : j2_S}
  (h : (((σ.1 10047 o0) ≤ (σ.1 10041 o0) → T179 C Q 100 [vO 10 o0, vI x1, vI x2, vI x3, vI x4, vI x5, vI x6, vI x7, vI x8, vI x9] [] σ) ∧ (¬ ((σ.1 10047 o0) ≤ (σ.1 10041 o0)) → C 158 [vO 10 o0, vI (nI 3), vI x7, vI x8, vI x3] σ (fun r σ1 => T179 C Q 100 [vO 10 o0, vI x1, vI x2, vI x3, vI x4, vI x5, vI x6, vI x7, vI x8, vI x9] (r.toList ++ []) σ1)))) :
  T179 C Q 89 [vO 10 o0, vI x1, vI x2, vI x3, vI x4, vI x5, vI x6, vI x7, vI x8, vI x9] [] σ := j2_T.go hC [0, 5, 16, 47, 67, 89, 100, 106, 126, 133, 155, 170, 180, 212, 221, 226, 236] 400 h
set_option maxRecDepth 100000 in
theorem b179_100 {C : j2_C} (hC : j2_up1 C) {Q : j2_P} {o0 : Nat} {x1 : Int32} {x2 : Int32} {x3 : Int32} {x4 : Int32} {x5 : Int32} {x6 : Int32} {x7 : Int32} {x8 : Int32} {x9 : Int32} {σ : j2_S}
  (h : (((σ.1 10007 o0) = 0 → T179 C Q 106 [vO 10 o0, vI x1, vI x2, vI x3, vI x4, vI x5, vI x6, vI x7, vI x8, vI (nI 0)] [] σ) ∧ (¬ ((σ.1 10007 o0) = 0) → ((none : Option FieldType) = none ∧ Q none σ)))) :
  T179 C Q 100 [vO 10 o0, vI x1, vI x2, vI x3, vI x4, vI x5, vI x6, vI x7, vI x8, vI x9] [] σ := j2_T.go hC [0, 5, 16, 47, 67, 89, 100, 106, 126, 133, 155, 170, 180, 212, 221, 226, 236] 400 h
set_option maxRecDepth 100000 in
theorem b179_106 {C : j2_C} (hC : j2_up1 C) {Q : j2_P} {o0 : Nat} {x1 : Int32} {x2 : Int32} {x3 : Int32} {x4 : Int32} {x5 : Int32} {x6 : Int32} {x7 : Int32} {x8 : Int32} {x9 : Int32} {σ : j2_S}
  (h : (((σ.1 10047 o0) ≤ x9 → (vp_in x5 28800 ∧ ((¬ (σ.2.2 10027 o0 x5.toNatClampNeg) = (nI 2) → T179 C Q 155 [vO 10 o0, vI x1, vI x2, vI x3, vI x4, vI x5, vI x6, vI x7, vI x8, vI x9] [] σ) ∧ (¬ (¬ (σ.2.2 10027 o0 x5.toNatClampNeg) = (nI 2)) → (vp_in x5 28800 ∧ (vp_in (σ.2.2 10028 o0 x5.toNatClampNeg) 20 ∧ ((¬ (σ.2.2 10040 o0 (σ.2.2 10028 o0 x5.toNatClampNeg).toNatClampNeg) = 0 → T179 C Q 155 [vO 10 o0, vI x1, vI x2, vI x3, vI x4, vI x5, vI x6, vI x7, vI x8, vI x9] [] σ) ∧ (¬ (¬ (σ.2.2 10040 o0 (σ.2.2 10028 o0 x5.toNatClampNeg).toNatClampNeg) = 0) → C 158 [vO 10 o0, vI (nI 4), vI x7, vI x8, vI x3] σ (fun r σ1 => T179 C Q 155 [vO 10 o0, vI x1, vI x2, vI x3, vI x4, vI x5, vI x6, vI x7, vI x8, vI x9] (r.toList ++ []) σ1))))))))) ∧ (¬ ((σ.1 10047 o0) ≤ x9) → (vp_in (((σ.1 10041 o0) - (nI 1)) - x9) 20 ∧ (vp_in x9 5 ∧ C 172 [vO 10 o0, vI x1, vI (σ.2.2 10039 o0 (((σ.1 10041 o0) - (nI 1)) - x9).toNatClampNeg), vI (σ.2.2 10048 o0 x9.toNatClampNeg)] σ (fun r σ1 => T179 C Q 126 [vO 10 o0, vI x1, vI x2, vI x3, vI x4, vI x5, vI x6, vI x7, vI x8, vI x9] (r.toList ++ []) σ1)))))) :
  T179 C Q 106 [vO 10 o0, vI x1, vI x2, vI x3, vI x4, vI x5, vI x6, vI x7, vI x8, vI x9] [] σ := j2_T.go hC [0, 5, 16, 47, 67, 89, 100, 106, 126, 133, 155, 170, 180, 212, 221, 226, 236] 400 h
set_option maxRecDepth 100000 in
theorem b179_126 {C : j2_C} (hC : j2_up1 C) {Q : j2_P} {o0 : Nat} {x1 : Int32} {x2 : Int32} {x3 : Int32} {x4 : Int32} {x5 : Int32} {x6 : Int32} {x7 : Int32} {x8 : Int32} {x9 : Int32} {xs0 : Int32} {σ : j2_S}
  (h : ((¬ xs0 = 0 → T179 C Q 133 [vO 10 o0, vI x1, vI x2, vI x3, vI x4, vI x5, vI x6, vI x7, vI x8, vI x9] [] σ) ∧ (¬ (¬ xs0 = 0) → C 158 [vO 10 o0, vI (nI 4), vI x7, vI x8, vI x3] σ (fun r σ1 => T179 C Q 133 [vO 10 o0, vI x1, vI x2, vI x3, vI x4, vI x5, vI x6, vI x7, vI x8, vI x9] (r.toList ++ []) σ1)))) :
  T179 C Q 126 [vO 10 o0, vI x1, vI x2, vI x3, vI x4, vI x5, vI x6, vI x7, vI x8, vI x9] [vI xs0] σ := j2_T.go hC [0, 5, 16, 47, 67, 89, 100, 106, 126, 133, 155, 170, 180, 212, 221, 226, 236] 400 h
set_option maxRecDepth 100000 in
theorem b179_133 {C : j2_C} (hC : j2_up1 C) {Q : j2_P} {o0 : Nat} {x1 : Int32} {x2 : Int32} {x3 : Int32} {x4 : Int32} {x5 : Int32} {x6 : Int32} {x7 : Int32} {x8 : Int32} {x9 : Int32} {σ : j2_S}
  (h : T179 C Q 106 [vO 10 o0, vI x1, vI x2, vI x3, vI x4, vI x5, vI x6, vI x7, vI x8, vI (x9 + (nI 1))] [] σ) :
  T179 C Q 133 [vO 10 o0, vI x1, vI x2, vI x3, vI x4, vI x5, vI x6, vI x7, vI x8, vI x9] [] σ := j2_T.go hC [0, 5, 16, 47, 67, 89, 100, 106, 126, 133, 155, 170, 180, 212, 221, 226, 236] 400 h
set_option maxRecDepth 100000 in
theorem b179_155 {C : j2_C} (hC : j2_up1 C) {Q : j2_P} {o0 : Nat} {x1 : Int32} {x2 : Int32} {x3 : Int32} {x4 : Int32} {x5 : Int32} {x6 : Int32} {x7 : Int32} {x8 : Int32} {x9 : Int32} {σ : j2_S}
  (h : (((σ.1 10007 o0) = 0 → C 177 [vO 10 o0, vI x1, vI x5] ((j2_up σ.1 10041 o0 ((σ.1 10041 o0) - (σ.1 10047 o0))), σ.2.1, σ.2.2) (fun r σ1 => T179 C Q 170 [vO 10 o0, vI x1, vI x2, vI x3, vI x4, vI x5, vI x6, vI x7, vI x8, vI x9] (r.toList ++ []) σ1)) ∧ (¬ ((σ.1 10007 o0) = 0) → ((none : Option FieldType) = none ∧ Q none σ)))) :
  T179 C Q 155 [vO 10 o0, vI x1, vI x2, vI x3, vI x4, vI x5, vI x6, vI x7, vI x8, vI x9] [] σ := j2_T.go hC [0, 5, 16, 47, 67, 89, 100, 106, 126, 133, 155, 170, 180, 212, 221, 226, 236] 400 h
set_option maxRecDepth 100000 in
theorem b179_170 {C : j2_C} (hC : j2_up1 C) {Q : j2_P} {o0 : Nat} {x1 : Int32} {x2 : Int32} {x3 : Int32} {x4 : Int32} {x5 : Int32} {x6 : Int32} {x7 : Int32} {x8 : Int32} {x9 : Int32} {σ : j2_S}
  (h : (((σ.1 10041 o0) ≤ (nI 10) → T179 C Q 180 [vO 10 o0, vI x1, vI x2, vI x3, vI x4, vI x5, vI x6, vI x7, vI x8, vI x9] [] σ) ∧ (¬ ((σ.1 10041 o0) ≤ (nI 10)) → C 158 [vO 10 o0, vI (nI 5), vI x7, vI x8, vI x3] σ (fun r σ1 => T179 C Q 180 [vO 10 o0, vI x1, vI x2, vI x3, vI x4, vI x5, vI x6, vI x7, vI x8, vI x9] (r.toList ++ []) σ1)))) :
  T179 C Q 170 [vO 10 o0, vI x1, vI x2, vI x3, vI x4, vI x5, vI x6, vI x7, vI x8, vI x9] [] σ := j2_T.go hC [0, 5, 16, 47, 67, 89, 100, 106, 126, 133, 155, 170, 180, 212, 221, 226, 236] 400 h
set_option maxRecDepth 100000 in
theorem b179_180 {C : j2_C} (hC : j2_up1 C) {Q : j2_P} {o0 : Nat} {x1 : Int32} {x2 : Int32} {x3 : Int32} {x4 : Int32} {x5 : Int32} {x6 : Int32} {x7 : Int32} {x8 : Int32} {x9 : Int32} {σ : j2_S}
  (h : (((σ.1 10007 o0) = 0 → (vp_in x5 28800 ∧ (((σ.2.2 10027 o0 x5.toNatClampNeg) = (nI 11) → T179 C Q 221 [vO 10 o0, vI x1, vI x2, vI x3, vI x4, vI x5, vI x6, vI x7, vI x8, vI (σ.2.2 10027 o0 x5.toNatClampNeg)] [] σ) ∧ (¬ ((σ.2.2 10027 o0 x5.toNatClampNeg) = (nI 11)) → (((σ.2.2 10027 o0 x5.toNatClampNeg) = (nI 22) → T179 C Q 221 [vO 10 o0, vI x1, vI x2, vI x3, vI x4, vI x5, vI x6, vI x7, vI x8, vI (σ.2.2 10027 o0 x5.toNatClampNeg)] [] σ) ∧ (¬ ((σ.2.2 10027 o0 x5.toNatClampNeg) = (nI 22)) → (((σ.2.2 10027 o0 x5.toNatClampNeg) = (nI 26) → T179 C Q 221 [vO 10 o0, vI x1, vI x2, vI x3, vI x4, vI x5, vI x6, vI x7, vI x8, vI (σ.2.2 10027 o0 x5.toNatClampNeg)] [] σ) ∧ (¬ ((σ.2.2 10027 o0 x5.toNatClampNeg) = (nI 26)) → (vp_in x6 240 ∧ ((¬ (x3 + (nI 1)) = (σ.2.2 10026 o0 x6.toNatClampNeg) → C 178 [vO 10 o0, vI x1, vI x2, vI (x3 + (nI 1)), vI x3] σ (fun r σ1 => T179 C Q 221 [vO 10 o0, vI x1, vI x2, vI x3, vI x4, vI x5, vI x6, vI x7, vI x8, vI (σ.2.2 10027 o0 x5.toNatClampNeg)] (r.toList ++ []) σ1)) ∧ (¬ (¬ (x3 + (nI 1)) = (σ.2.2 10026 o0 x6.toNatClampNeg)) → C 158 [vO 10 o0, vI (nI 7), vI x7, vI x8, vI x3] σ (fun r σ1 => T179 C Q 212 [vO 10 o0, vI x1, vI x2, vI x3, vI x4, vI x5, vI x6, vI x7, vI x8, vI (σ.2.2 10027 o0 x5.toNatClampNeg)] (r.toList ++ []) σ1)))))))))))) ∧ (¬ ((σ.1 10007 o0) = 0) → ((none : Option FieldType) = none ∧ Q none σ)))) :
  T179 C Q 180 [vO 10 o0, vI x1, vI x2, vI x3, vI x4, vI x5, vI x6, vI x7, vI x8, vI x9] [] σ := j2_T.go hC [0, 5, 16, 47, 67, 89, 100, 106, 126, 133, 155, 170, 180, 212, 221, 226, 236] 400 h
set_option maxRecDepth 100000 in
theorem b179_212 {C : j2_C} (hC : j2_up1 C) {Q : j2_P} {o0 : Nat} {x1 : Int32} {x2 : Int32} {x3 : Int32} {x4 : Int32} {x5 : Int32} {x6 : Int32} {x7 : Int32} {x8 : Int32} {x9 : Int32} {σ : j2_S}
  (h : T179 C Q 221 [vO 10 o0, vI x1, vI x2, vI x3, vI x4, vI x5, vI x6, vI x7, vI x8, vI x9] [] σ) :
  T179 C Q 212 [vO 10 o0, vI x1, vI x2, vI x3, vI x4, vI x5, vI x6, vI x7, vI x8, vI x9] [] σ := j2_T.go hC [0, 5, 16, 47, 67, 89, 100, 106, 126, 133, 155, 170, 180, 212, 221, 226, 236] 400 h
set_option maxRecDepth 100000 in
theorem b179_221 {C : j2_C} (hC : j2_up1 C) {Q : j2_P} {o0 : Nat} {x1 : Int32} {x2 : Int32} {x3 : Int32} {x4 : Int32} {x5 : Int32} {x6 : Int32} {x7 : Int32} {x8 : Int32} {x9 : Int32} {σ : j2_S}
  (h : ((¬ (σ.1 10007 o0) = 0 → T179 C Q 236 [vO 10 o0, vI x1, vI x2, vI x3, vI x4, vI x5, vI x6, vI x7, vI x8, vI x9] [] σ) ∧ (¬ (¬ (σ.1 10007 o0) = 0) → C 164 [vI x9] σ (fun r σ1 => T179 C Q 226 [vO 10 o0, vI x1, vI x2, vI x3, vI x4, vI x5, vI x6, vI x7, vI x8, vI x9] (r.toList ++ []) σ1)))) :
  T179 C Q 221 [vO 10 o0, vI x1, vI x2, vI x3, vI x4, vI x5, vI x6, vI x7, vI x8, vI x9] [] σ := j2_T.go hC [0, 5, 16, 47, 67, 89, 100, 106, 126, 133, 155, 170, 180, 212, 221, 226, 236] 400 h
set_option maxRecDepth 100000 in
theorem b179_226 {C : j2_C} (hC : j2_up1 C) {Q : j2_P} {o0 : Nat} {x1 : Int32} {x2 : Int32} {x3 : Int32} {x4 : Int32} {x5 : Int32} {x6 : Int32} {x7 : Int32} {x8 : Int32} {x9 : Int32} {xs0 : Int32} {σ : j2_S}
  (h : ((xs0 = 0 → T179 C Q 236 [vO 10 o0, vI x1, vI x2, vI x3, vI x4, vI x5, vI x6, vI x7, vI x8, vI x9] [] σ) ∧ (¬ (xs0 = 0) → (vp_in x5 28800 ∧ C 178 [vO 10 o0, vI x1, vI x2, vI (σ.2.2 10028 o0 x5.toNatClampNeg), vI x3] σ (fun r σ1 => T179 C Q 236 [vO 10 o0, vI x1, vI x2, vI x3, vI x4, vI x5, vI x6, vI x7, vI x8, vI x9] (r.toList ++ []) σ1))))) :
  T179 C Q 226 [vO 10 o0, vI x1, vI x2, vI x3, vI x4, vI x5, vI x6, vI x7, vI x8, vI x9] [vI xs0] σ := j2_T.go hC [0, 5, 16, 47, 67, 89, 100, 106, 126, 133, 155, 170, 180, 212, 221, 226, 236] 400 h
set_option maxRecDepth 100000 in
theorem b179_236 {C : j2_C} (hC : j2_up1 C) {Q : j2_P} {o0 : Nat} {x1 : Int32} {x2 : Int32} {x3 : Int32} {x4 : Int32} {x5 : Int32} {x6 : Int32} {x7 : Int32} {x8 : Int32} {x9 : Int32} {σ : j2_S}
  (h : ((none : Option FieldType) = none ∧ Q none σ)) :
  T179 C Q 236 [vO 10 o0, vI x1, vI x2, vI x3, vI x4, vI x5, vI x6, vI x7, vI x8, vI x9] [] σ := j2_T.go hC [0, 5, 16, 47, 67, 89, 100, 106, 126, 133, 155, 170, 180, 212, 221, 226, 236] 400 h
abbrev T180 (C : j2_C) (Q : j2_P) : j2_K := j2_T C jc_X10_types none Q
set_option maxRecDepth 100000 in
theorem b180_0 {C : j2_C} (hC : j2_up1 C) {Q : j2_P} {o0 : Nat} {x1 : Int32} {σ : j2_S}
  (h : T180 C Q 2 [vO 10 o0, vI x1, vI (nI 0), vM 2, vM 2, vM 2] [] σ) :
  T180 C Q 0 [vO 10 o0, vI x1, vM 2, vM 2, vM 2, vM 2] [] σ := j2_T.go hC [0, 2, 19, 29, 61, 63, 83, 93, 109, 120, 136, 149, 151, 152] 400 h
set_option maxRecDepth 100000 in
theorem b180_2 {C : j2_C} (hC : j2_up1 C) {Q : j2_P} {o0 : Nat} {x1 : Int32} {x2 : Int32} {w3 : j2_W} {w4 : j2_W} {w5 : j2_W} {σ : j2_S}
  (h : (vp_in x1 3 ∧ (((σ.2.2 10018 o0 x1.toNatClampNeg) ≤ x2 → ((none : Option FieldType) = none ∧ Q none σ)) ∧ (¬ ((σ.2.2 10018 o0 x1.toNatClampNeg) ≤ x2) → ((¬ (σ.1 10007 o0) = 0 → ((none : Option FieldType) = none ∧ Q none σ)) ∧ (¬ (¬ (σ.1 10007 o0) = 0) → T180 C Q 19 [vO 10 o0, vI x1, vI x2, vI (((nI 80) * x1) + x2), vI (nI 0), w5] [] σ)))))) :
  T180 C Q 2 [vO 10 o0, vI x1, vI x2, w3, w4, w5] [] σ := j2_T.go hC [0, 2, 19, 29, 61, 63, 83, 93, 109, 120, 136, 149, 151, 152] 400 h
set_option maxRecDepth 100000 in
theorem b180_19 {C : j2_C} (hC : j2_up1 C) {Q : j2_P} {o0 : Nat} {x1 : Int32} {x2 : Int32} {x3 : Int32} {x4 : Int32} {w5 : j2_W} {σ : j2_S}
  (h : (((nI 120) ≤ x4 → (vp_in x3 240 ∧ ((¬ (σ.2.2 10021 o0 x3.toNatClampNeg) = 0 → T180 C Q 61 [vO 10 o0, vI x1, vI x2, vI x3, vI (nI 0), w5] [] ((j2_up σ.1 10041 o0 (nI 0)), σ.2.1, σ.2.2)) ∧ (¬ (¬ (σ.2.2 10021 o0 x3.toNatClampNeg) = 0) → (vp_in x3 240 ∧ (vp_in (nI 0) 20 ∧ T180 C Q 61 [vO 10 o0, vI x1, vI x2, vI x3, vI (nI 1), w5] [] ((j2_up σ.1 10041 o0 (nI 0)), σ.2.1, (j2_ast σ.2.2 10040 o0 (nI 0).toNatClampNeg ((nI 4) + (σ.2.2 10019 o0 x3.toNatClampNeg)))))))))) ∧ (¬ ((nI 120) ≤ x4) → ((¬ x1 = 0 → T180 C Q 29 [vO 10 o0, vI x1, vI x2, vI x3, vI x4, w5] [vI (nI 9600), vA 10035 o0] σ) ∧ (¬ (¬ x1 = 0) → T180 C Q 29 [vO 10 o0, vI x1, vI x2, vI x3, vI x4, w5] [vI (nI 0), vA 10035 o0] σ))))) :
  T180 C Q 19 [vO 10 o0, vI x1, vI x2, vI x3, vI x4, w5] [] σ := j2_T.go hC [0, 2, 19, 29, 61, 63, 83, 93, 109, 120, 136, 149, 151, 152] 400 h
set_option maxRecDepth 100000 in
theorem b180_29 {C : j2_C} (hC : j2_up1 C) {Q : j2_P} {o0 : Nat} {x1 : Int32} {x2 : Int32} {x3 : Int32} {x4 : Int32} {w5 : j2_W} {xs0 : Int32} {os1 : Nat} {σ : j2_S}
  (h : (((nI 0) = 0 ∨ (nI 0) = 1) ∧ vp_in ((xs0 + ((nI 120) * x2)) + x4) 19200 ∧ T180 C Q 19 [vO 10 o0, vI x1, vI x2, vI x3, vI (x4 + (nI 1)), w5] [] (σ.1, σ.2.1, (j2_ast σ.2.2 10035 os1 ((xs0 + ((nI 120) * x2)) + x4).toNatClampNeg (nI 0))))) :
  T180 C Q 29 [vO 10 o0, vI x1, vI x2, vI x3, vI x4, w5] [vI xs0, vA 10035 os1] σ := j2_T.go hC [0, 2, 19, 29, 61, 63, 83, 93, 109, 120, 136, 149, 151, 152] 400 h
set_option maxRecDepth 100000 in
theorem b180_61 {C : j2_C} (hC : j2_up1 C) {Q : j2_P} {o0 : Nat} {x1 : Int32} {x2 : Int32} {x3 : Int32} {x4 : Int32} {w5 : j2_W} {σ : j2_S}
  (h : T180 C Q 63 [vO 10 o0, vI x1, vI x2, vI x3, vI x4, vI (nI 0)] [] σ) :
  T180 C Q 61 [vO 10 o0, vI x1, vI x2, vI x3, vI x4, w5] [] σ := j2_T.go hC [0, 2, 19, 29, 61, 63, 83, 93, 109, 120, 136, 149, 151, 152] 400 h
set_option maxRecDepth 100000 in
theorem b180_63 {C : j2_C} (hC : j2_up1 C) {Q : j2_P} {o0 : Nat} {x1 : Int32} {x2 : Int32} {x3 : Int32} {x4 : Int32} {x5 : Int32} {σ : j2_S}
  (h : (vp_in x3 240 ∧ (((σ.2.2 10023 o0 x3.toNatClampNeg) ≤ x5 → (vp_in x3 240 ∧ T180 C Q 93 [vO 10 o0, vI x1, vI x2, vI x3, vI x4, vI (x4 + (σ.2.2 10023 o0 x3.toNatClampNeg))] [] σ)) ∧ (¬ ((σ.2.2 10023 o0 x3.toNatClampNeg) ≤ x5) → (vp_in (((nI 3) * x3) + x5) 720 ∧ C 173 [vI (σ.2.2 10024 o0 (((nI 3) * x3) + x5).toNatClampNeg)] σ (fun r σ1 => T180 C Q 83 [vO 10 o0, vI x1, vI x2, vI x3, vI x4, vI x5] (r.toList ++ [vI (x4 + x5), vA 10040 o0]) σ1)))))) :
  T180 C Q 63 [vO 10 o0, vI x1, vI x2, vI x3, vI x4, vI x5] [] σ := j2_T.go hC [0, 2, 19, 29, 61, 63, 83, 93, 109, 120, 136, 149, 151, 152] 400 h
set_option maxRecDepth 100000 in
theorem b180_83 {C : j2_C} (hC : j2_up1 C) {Q : j2_P} {o0 : Nat} {x1 : Int32} {x2 : Int32} {x3 : Int32} {x4 : Int32} {x5 : Int32} {xs0 : Int32} {xs1 : Int32} {os2 : Nat} {σ : j2_S}
  (h : (vp_in xs1 20 ∧ T180 C Q 63 [vO 10 o0, vI x1, vI x2, vI x3, vI x4, vI (x5 + (nI 1))] [] (σ.1, σ.2.1, (j2_ast σ.2.2 10040 os2 xs1.toNatClampNeg xs0)))) :
  T180 C Q 83 [vO 10 o0, vI x1, vI x2, vI x3, vI x4, vI x5] [vI xs0, vI xs1, vA 10040 os2] σ := j2_T.go hC [0, 2, 19, 29, 61, 63, 83, 93, 109, 120, 136, 149, 151, 152] 400 h
set_option maxRecDepth 100000 in
theorem b180_93 {C : j2_C} (hC : j2_up1 C) {Q : j2_P} {o0 : Nat} {x1 : Int32} {x2 : Int32} {x3 : Int32} {x4 : Int32} {x5 : Int32} {σ : j2_S}
  (h : (((nI 20) ≤ x5 → C 178 [vO 10 o0, vI x1, vI x2, vI (nI 0), vI (nI 0)] σ (fun r σ1 => T180 C Q 109 [vO 10 o0, vI x1, vI x2, vI x3, vI x4, vI x5] (r.toList ++ []) σ1)) ∧ (¬ ((nI 20) ≤ x5) → (vp_in x5 20 ∧ T180 C Q 93 [vO 10 o0, vI x1, vI x2, vI x3, vI x4, vI (x5 + (nI 1))] [] (σ.1, σ.2.1, (j2_ast σ.2.2 10040 o0 x5.toNatClampNeg (nI 0))))))) :
  T180 C Q 93 [vO 10 o0, vI x1, vI x2, vI x3, vI x4, vI x5] [] σ := j2_T.go hC [0, 2, 19, 29, 61, 63, 83, 93, 109, 120, 136, 149, 151, 152] 400 h
set_option maxRecDepth 100000 in
theorem b180_109 {C : j2_C} (hC : j2_up1 C) {Q : j2_P} {o0 : Nat} {x1 : Int32} {x2 : Int32} {x3 : Int32} {x4 : Int32} {x5 : Int32} {σ : j2_S}
  (h : (((σ.1 10042 o0) = 0 → T180 C Q 152 [vO 10 o0, vI x1, vI x2, vI x3, vI x4, vI x5] [] σ) ∧ (¬ ((σ.1 10042 o0) = 0) → ((¬ (σ.1 10007 o0) = 0 → T180 C Q 152 [vO 10 o0, vI x1, vI x2, vI x3, vI x4, vI x5] [] σ) ∧ (¬ (¬ (σ.1 10007 o0) = 0) → (((nI 0) = 0 ∨ (nI 0) = 1) ∧ T180 C Q 120 [vO 10 o0, vI x1, vI x2, vI x3, vI x4, vI (nI 0)] [] ((j2_up σ.1 10042 o0 (nI 0)), σ.2.1, σ.2.2))))))) :
  T180 C Q 109 [vO 10 o0, vI x1, vI x2, vI x3, vI x4, vI x5] [] σ := j2_T.go hC [0, 2, 19, 29, 61, 63, 83, 93, 109, 120, 136, 149, 151, 152] 400 h
set_option maxRecDepth 100000 in
theorem b180_120 {C : j2_C} (hC : j2_up1 C) {Q : j2_P} {o0 : Nat} {x1 : Int32} {x2 : Int32} {x3 : Int32} {x4 : Int32} {x5 : Int32} {σ : j2_S}
  (h : (vp_in x3 240 ∧ (((σ.2.2 10026 o0 x3.toNatClampNeg) ≤ x5 → T180 C Q 151 [vO 10 o0, vI x1, vI x2, vI x3, vI x4, vI x5] [] σ) ∧ (¬ ((σ.2.2 10026 o0 x3.toNatClampNeg) ≤ x5) → ((¬ (σ.1 10007 o0) = 0 → T180 C Q 151 [vO 10 o0, vI x1, vI x2, vI x3, vI x4, vI x5] [] σ) ∧ (¬ (¬ (σ.1 10007 o0) = 0) → ((¬ x1 = 0 → T180 C Q 136 [vO 10 o0, vI x1, vI x2, vI x3, vI x4, vI x5] [vI (nI 9600), vA 10035 o0] σ) ∧ (¬ (¬ x1 = 0) → T180 C Q 136 [vO 10 o0, vI x1, vI x2, vI x3, vI x4, vI x5] [vI (nI 0), vA 10035 o0] σ)))))))) :
  T180 C Q 120 [vO 10 o0, vI x1, vI x2, vI x3, vI x4, vI x5] [] σ := j2_T.go hC [0, 2, 19, 29, 61, 63, 83, 93, 109, 120, 136, 149, 151, 152] 400 h
set_option maxRecDepth 100000 in
theorem b180_136 {C : j2_C} (hC : j2_up1 C) {Q : j2_P} {o0 : Nat} {x1 : Int32} {x2 : Int32} {x3 : Int32} {x4 : Int32} {x5 : Int32} {xs0 : Int32} {os1 : Nat} {σ : j2_S}
  (h : (vp_in ((xs0 + ((nI 120) * x2)) + x5) 19200 ∧ (((σ.2.2 10035 os1 ((xs0 + ((nI 120) * x2)) + x5).toNatClampNeg) = 0 → T180 C Q 149 [vO 10 o0, vI x1, vI x2, vI x3, vI x4, vI x5] [] σ) ∧ (¬ ((σ.2.2 10035 os1 ((xs0 + ((nI 120) * x2)) + x5).toNatClampNeg) = 0) → C 179 [vO 10 o0, vI x1, vI x2, vI x5] σ (fun r σ1 => T180 C Q 149 [vO 10 o0, vI x1, vI x2, vI x3, vI x4, vI x5] (r.toList ++ []) σ1))))) :
  T180 C Q 136 [vO 10 o0, vI x1, vI x2, vI x3, vI x4, vI x5] [vI xs0, vA 10035 os1] σ := j2_T.go hC [0, 2, 19, 29, 61, 63, 83, 93, 109, 120, 136, 149, 151, 152] 400 h
set_option maxRecDepth 100000 in
theorem b180_149 {C : j2_C} (hC : j2_up1 C) {Q : j2_P} {o0 : Nat} {x1 : Int32} {x2 : Int32} {x3 : Int32} {x4 : Int32} {x5 : Int32} {σ : j2_S}
  (h : T180 C Q 120 [vO 10 o0, vI x1, vI x2, vI x3, vI x4, vI (x5 + (nI 1))] [] σ) :
  T180 C Q 149 [vO 10 o0, vI x1, vI x2, vI x3, vI x4, vI x5] [] σ := j2_T.go hC [0, 2, 19, 29, 61, 63, 83, 93, 109, 120, 136, 149, 151, 152] 400 h
set_option maxRecDepth 100000 in
theorem b180_151 {C : j2_C} (hC : j2_up1 C) {Q : j2_P} {o0 : Nat} {x1 : Int32} {x2 : Int32} {x3 : Int32} {x4 : Int32} {x5 : Int32} {σ : j2_S}
  (h : T180 C Q 109 [vO 10 o0, vI x1, vI x2, vI x3, vI x4, vI x5] [] σ) :
  T180 C Q 151 [vO 10 o0, vI x1, vI x2, vI x3, vI x4, vI x5] [] σ := j2_T.go hC [0, 2, 19, 29, 61, 63, 83, 93, 109, 120, 136, 149, 151, 152] 400 h
set_option maxRecDepth 100000 in
theorem b180_152 {C : j2_C} (hC : j2_up1 C) {Q : j2_P} {o0 : Nat} {x1 : Int32} {x2 : Int32} {x3 : Int32} {x4 : Int32} {x5 : Int32} {σ : j2_S}
  (h : (((nI 0) = 0 ∨ (nI 0) = 1) ∧ T180 C Q 2 [vO 10 o0, vI x1, vI (x2 + (nI 1)), vI x3, vI x4, vI x5] [] ((j2_up σ.1 10042 o0 (nI 0)), σ.2.1, σ.2.2))) :
  T180 C Q 152 [vO 10 o0, vI x1, vI x2, vI x3, vI x4, vI x5] [] σ := j2_T.go hC [0, 2, 19, 29, 61, 63, 83, 93, 109, 120, 136, 149, 151, 152] 400 h
abbrev T181 (C : j2_C) (Q : j2_P) : j2_K := j2_T C jc_X10_copyMethod none Q
set_option maxRecDepth 100000 in
theorem b181_0 {C : j2_C} (hC : j2_up1 C) {Q : j2_P} {o0 : Nat} {x1 : Int32} {x2 : Int32} {x3 : Int32} {x4 : Int32} {σ : j2_S}
  (h : (vp_in (((nI 80) * x1) + x2) 240 ∧ (vp_in (((nI 80) * x3) + x4) 240 ∧ (vp_in (((nI 80) * x1) + x2) 240 ∧ (vp_in (((nI 80) * x3) + x4) 240 ∧ (vp_in (((nI 80) * x1) + x2) 240 ∧ (vp_in (((nI 80) * x3) + x4) 240 ∧ (vp_in (((nI 80) * x1) + x2) 240 ∧ (vp_in (((nI 80) * x3) + x4) 240 ∧ (vp_in (((nI 80) * x1) + x2) 240 ∧ (vp_in (((nI 80) * x3) + x4) 240 ∧ T181 C Q 54 [vO 10 o0, vI x1, vI x2, vI x3, vI x4, vI (((nI 80) * x1) + x2), vI (((nI 80) * x3) + x4), vI (nI 0)] [] (σ.1, σ.2.1, (j2_ast (j2_ast (j2_ast (j2_ast (j2_ast σ.2.2 10019 o0 (((nI 80) * x3) + x4).toNatClampNeg (σ.2.2 10019 o0 (((nI 80) * x1) + x2).toNatClampNeg)) 10020 o0 (((nI 80) * x3) + x4).toNatClampNeg ((j2_ast σ.2.2 10019 o0 (((nI 80) * x3) + x4).toNatClampNeg (σ.2.2 10019 o0 (((nI 80) * x1) + x2).toNatClampNeg)) 10020 o0 (((nI 80) * x1) + x2).toNatClampNeg)) 10021 o0 (((nI 80) * x3) + x4).toNatClampNeg ((j2_ast (j2_ast σ.2.2 10019 o0 (((nI 80) * x3) + x4).toNatClampNeg (σ.2.2 10019 o0 (((nI 80) * x1) + x2).toNatClampNeg)) 10020 o0 (((nI 80) * x3) + x4).toNatClampNeg ((j2_ast σ.2.2 10019 o0 (((nI 80) * x3) + x4).toNatClampNeg (σ.2.2 10019 o0 (((nI 80) * x1) + x2).toNatClampNeg)) 10020 o0 (((nI 80) * x1) + x2).toNatClampNeg)) 10021 o0 (((nI 80) * x1) + x2).toNatClampNeg)) 10022 o0 (((nI 80) * x3) + x4).toNatClampNeg ((j2_ast (j2_ast (j2_ast σ.2.2 10019 o0 (((nI 80) * x3) + x4).toNatClampNeg (σ.2.2 10019 o0 (((nI 80) * x1) + x2).toNatClampNeg)) 10020 o0 (((nI 80) * x3) + x4).toNatClampNeg ((j2_ast σ.2.2 10019 o0 (((nI 80) * x3) + x4).toNatClampNeg (σ.2.2 10019 o0 (((nI 80) * x1) + x2).toNatClampNeg)) 10020 o0 (((nI 80) * x1) + x2).toNatClampNeg)) 10021 o0 (((nI 80) * x3) + x4).toNatClampNeg ((j2_ast (j2_ast σ.2.2 10019 o0 (((nI 80) * x3) + x4).toNatClampNeg (σ.2.2 10019 o0 (((nI 80) * x1) + x2).toNatClampNeg)) 10020 o0 (((nI 80) * x3) + x4).toNatClampNeg ((j2_ast σ.2.2 10019 o0 (((nI 80) * x3) + x4).toNatClampNeg (σ.2.2 10019 o0 (((nI 80) * x1) + x2).toNatClampNeg)) 10020 o0 (((nI 80) * x1) + x2).toNatClampNeg)) 10021 o0 (((nI 80) * x1) + x2).toNatClampNeg)) 10022 o0 (((nI 80) * x1) + x2).toNatClampNeg)) 10023 o0 (((nI 80) * x3) + x4).toNatClampNeg ((j2_ast (j2_ast (j2_ast (j2_ast σ.2.2 10019 o0 (((nI 80) * x3) + x4).toNatClampNeg (σ.2.2 10019 o0 (((nI 80) * x1) + x2).toNatClampNeg)) 10020 o0 (((nI 80) * x3) + x4).toNatClampNeg ((j2_ast σ.2.2 10019 o0 (((nI 80) * x3) + x4).toNatClampNeg (σ.2.2 10019 o0 (((nI 80) * x1) + x2).toNatClampNeg)) 10020 o0 (((nI 80) * x1) + x2).toNatClampNeg)) 10021 o0 (((nI 80) * x3) + x4).toNatClampNeg ((j2_ast (j2_ast σ.2.2 10019 o0 (((nI 80) * x3) + x4).toNatClampNeg (σ.2.2 10019 o0 (((nI 80) * x1) + x2).toNatClampNeg)) 10020 o0 (((nI 80) * x3) + x4).toNatClampNeg ((j2_ast σ.2.2 10019 o0 (((nI 80) * x3) + x4).toNatClampNeg (σ.2.2 10019 o0 (((nI 80) * x1) + x2).toNatClampNeg)) 10020 o0 (((nI 80) * x1) + x2).toNatClampNeg)) 10021 o0 (((nI 80) * x1) + x2).toNatClampNeg)) 10022 o0 (((nI 80) * x3) + x4).toNatClampNeg ((j2_ast (j2_ast (j2_ast σ.2.2 10019 o0 (((nI 80) * x3) + x4).toNatClampNeg (σ.2.2 10019 o0 (((nI 80) * x1) + x2).toNatClampNeg)) 10020 o0 (((nI 80) * x3) + x4).toNatClampNeg ((j2_ast σ.2.2 10019 o0 (((nI 80) * x3) + x4).toNatClampNeg (σ.2.2 10019 o0 (((nI 80) * x1) + x2).toNatClampNeg)) 10020 o0 (((nI 80) * x1) + x2).toNatClampNeg)) 10021 o0 (((nI 80) * x3) + x4).toNatClampNeg ((j2_ast (j2_ast σ.2.2 10019 o0 (((nI 80) * x3) + x4).toNatClampNeg (σ.2.2 10019 o0 (((nI 80) * x1) + x2).toNatClampNeg)) 10020 o0 (((nI 80) * x3) + x4).toNatClampNeg ((j2_ast σ.2.2 10019 o0 (((nI 80) * x3) + x4).toNatClampNeg (σ.2.2 10019 o0 (((nI 80) * x1) + x2).toNatClampNeg)) 10020 o0 (((nI 80) * x1) + x2).toNatClampNeg)) 10021 o0 (((nI 80) * x1) + x2).toNatClampNeg)) 10022 o0 (((nI 80) * x1) + x2).toNatClampNeg)) 10023 o0 (((nI 80) * x1) + x2).toNatClampNeg)))))))))))))) :
  T181 C Q 0 [vO 10 o0, vI x1, vI x2, vI x3, vI x4, vM 2, vM 2, vM 2] [] σ := j2_T.go hC [0, 54, 93, 104, 108, 109] 400 h
set_option maxRecDepth 100000 in
theorem b181_54 {C : j2_C} (hC : j2_up1 C) {Q : j2_P} {o0 : Nat} {x1 : Int32} {x2 : Int32} {x3 : Int32} {x4 : Int32} {x5 : Int32} {x6 : Int32} {x7 : Int32} {σ : j2_S}
  (h : (((nI 3) ≤ x7 → (vp_in x5 240 ∧ (vp_in x6 240 ∧ (vp_in x5 240 ∧ (vp_in x6 240 ∧ T181 C Q 93 [vO 10 o0, vI x1, vI x2, vI x3, vI x4, vI x5, vI x6, vI (nI 0)] [] (σ.1, σ.2.1, (j2_ast (j2_ast σ.2.2 10025 o0 x6.toNatClampNeg (σ.2.2 10025 o0 x5.toNatClampNeg)) 10026 o0 x6.toNatClampNeg ((j2_ast σ.2.2 10025 o0 x6.toNatClampNeg (σ.2.2 10025 o0 x5.toNatClampNeg)) 10026 o0 x5.toNatClampNeg)))))))) ∧ (¬ ((nI 3) ≤ x7) → (vp_in (((nI 3) * x5) + x7) 720 ∧ (vp_in (((nI 3) * x6) + x7) 720 ∧ T181 C Q 54 [vO 10 o0, vI x1, vI x2, vI x3, vI x4, vI x5, vI x6, vI (x7 + (nI 1))] [] (σ.1, σ.2.1, (j2_ast σ.2.2 10024 o0 (((nI 3) * x6) + x7).toNatClampNeg (σ.2.2 10024 o0 (((nI 3) * x5) + x7).toNatClampNeg)))))))) :
  T181 C Q 54 [vO 10 o0, vI x1, vI x2, vI x3, vI x4, vI x5, vI x6, vI x7] [] σ := j2_T.go hC [0, 54, 93, 104, 108, 109] 400 h
set_option maxRecDepth 100000 in
theorem b181_93 {C : j2_C} (hC : j2_up1 C) {Q : j2_P} {o0 : Nat} {x1 : Int32} {x2 : Int32} {x3 : Int32} {x4 : Int32} {x5 : Int32} {x6 : Int32} {x7 : Int32} {σ : j2_S}
  (h : (vp_in x5 240 ∧ (((σ.2.2 10026 o0 x5.toNatClampNeg) ≤ x7 → ((none : Option FieldType) = none ∧ Q none σ)) ∧ (¬ ((σ.2.2 10026 o0 x5.toNatClampNeg) ≤ x7) → C 160 [vI x1, vI x2, vI x7] σ (fun r σ1 => T181 C Q 104 [vO 10 o0, vI x1, vI x2, vI x3, vI x4, vI x5, vI x6, vI x7] (r.toList ++ [vO 10 o0]) σ1))))) :
  T181 C Q 93 [vO 10 o0, vI x1, vI x2, vI x3, vI x4, vI x5, vI x6, vI x7] [] σ := j2_T.go hC [0, 54, 93, 104, 108, 109] 400 h
set_option maxRecDepth 100000 in
theorem b181_104 {C : j2_C} (hC : j2_up1 C) {Q : j2_P} {o0 : Nat} {x1 : Int32} {x2 : Int32} {x3 : Int32} {x4 : Int32} {x5 : Int32} {x6 : Int32} {x7 : Int32} {xs0 : Int32} {os1 : Nat} {σ : j2_S}
  (h : C 160 [vI x3, vI x4, vI x7] σ (fun r σ1 => T181 C Q 108 [vO 10 o0, vI x1, vI x2, vI x3, vI x4, vI x5, vI x6, vI x7] (r.toList ++ [vI xs0, vO 10 os1]) σ1)) :
  T181 C Q 104 [vO 10 o0, vI x1, vI x2, vI x3, vI x4, vI x5, vI x6, vI x7] [vI xs0, vO 10 os1] σ := j2_T.go hC [0, 54, 93, 104, 108, 109] 400 h
set_option maxRecDepth 100000 in
theorem b181_108 {C : j2_C} (hC : j2_up1 C) {Q : j2_P} {o0 : Nat} {x1 : Int32} {x2 : Int32} {x3 : Int32} {x4 : Int32} {x5 : Int32} {x6 : Int32} {x7 : Int32} {xs0 : Int32} {xs1 : Int32} {os2 : Nat} {σ : j2_S}
  (h : C 182 [vO 10 os2, vI xs1, vI xs0] σ (fun r σ1 => T181 C Q 109 [vO 10 o0, vI x1, vI x2, vI x3, vI x4, vI x5, vI x6, vI x7] (r.toList ++ []) σ1)) :
  T181 C Q 108 [vO 10 o0, vI x1, vI x2, vI x3, vI x4, vI x5, vI x6, vI x7] [vI xs0, vI xs1, vO 10 os2] σ := j2_T.go hC [0, 54, 93, 104, 108, 109] 400 h
set_option maxRecDepth 100000 in
theorem b181_109 {C : j2_C} (hC : j2_up1 C) {Q : j2_P} {o0 : Nat} {x1 : Int32} {x2 : Int32} {x3 : Int32} {x4 : Int32} {x5 : Int32} {x6 : Int32} {x7 : Int32} {σ : j2_S}
  (h : T181 C Q 93 [vO 10 o0, vI x1, vI x2, vI x3, vI x4, vI x5, vI x6, vI (x7 + (nI 1))] [] σ) :
  T181 C Q 109 [vO 10 o0, vI x1, vI x2, vI x3, vI x4, vI x5, vI x6, vI x7] [] σ := j2_T.go hC [0, 54, 93, 104, 108, 109] 400 h
abbrev T182 (C : j2_C) (Q : j2_P) : j2_K := j2_T C jc_X10_copyInstruction none Q
set_option maxRecDepth 100000 in
theorem b182_0 {C : j2_C} (hC : j2_up1 C) {Q : j2_P} {o0 : Nat} {x1 : Int32} {x2 : Int32} {σ : j2_S}
  (h : (vp_in x1 28800 ∧ (vp_in x2 28800 ∧ (vp_in x1 28800 ∧ (vp_in x2 28800 ∧ (vp_in x1 28800 ∧ (vp_in x2 28800 ∧ (vp_in x1 28800 ∧ (vp_in x2 28800 ∧ (vp_in x1 28800 ∧ (vp_in x2 28800 ∧ (vp_in x1 28800 ∧ (vp_in x2 28800 ∧ ((none : Option FieldType) = none ∧ Q none (σ.1, σ.2.1, (j2_ast (j2_ast (j2_ast (j2_ast (j2_ast (j2_ast σ.2.2 10027 o0 x2.toNatClampNeg (σ.2.2 10027 o0 x1.toNatClampNeg)) 10028 o0 x2.toNatClampNeg ((j2_ast σ.2.2 10027 o0 x2.toNatClampNeg (σ.2.2 10027 o0 x1.toNatClampNeg)) 10028 o0 x1.toNatClampNeg)) 10029 o0 x2.toNatClampNeg ((j2_ast (j2_ast σ.2.2 10027 o0 x2.toNatClampNeg (σ.2.2 10027 o0 x1.toNatClampNeg)) 10028 o0 x2.toNatClampNeg ((j2_ast σ.2.2 10027 o0 x2.toNatClampNeg (σ.2.2 10027 o0 x1.toNatClampNeg)) 10028 o0 x1.toNatClampNeg)) 10029 o0 x1.toNatClampNeg)) 10030 o0 x2.toNatClampNeg ((j2_ast (j2_ast (j2_ast σ.2.2 10027 o0 x2.toNatClampNeg (σ.2.2 10027 o0 x1.toNatClampNeg)) 10028 o0 x2.toNatClampNeg ((j2_ast σ.2.2 10027 o0 x2.toNatClampNeg (σ.2.2 10027 o0 x1.toNatClampNeg)) 10028 o0 x1.toNatClampNeg)) 10029 o0 x2.toNatClampNeg ((j2_ast (j2_ast σ.2.2 10027 o0 x2.toNatClampNeg (σ.2.2 10027 o0 x1.toNatClampNeg)) 10028 o0 x2.toNatClampNeg ((j2_ast σ.2.2 10027 o0 x2.toNatClampNeg (σ.2.2 10027 o0 x1.toNatClampNeg)) 10028 o0 x1.toNatClampNeg)) 10029 o0 x1.toNatClampNeg)) 10030 o0 x1.toNatClampNeg)) 10031 o0 x2.toNatClampNeg ((j2_ast (j2_ast (j2_ast (j2_ast σ.2.2 10027 o0 x2.toNatClampNeg (σ.2.2 10027 o0 x1.toNatClampNeg)) 10028 o0 x2.toNatClampNeg ((j2_ast σ.2.2 10027 o0 x2.toNatClampNeg (σ.2.2 10027 o0 x1.toNatClampNeg)) 10028 o0 x1.toNatClampNeg)) 10029 o0 x2.toNatClampNeg ((j2_ast (j2_ast σ.2.2 10027 o0 x2.toNatClampNeg (σ.2.2 10027 o0 x1.toNatClampNeg)) 10028 o0 x2.toNatClampNeg ((j2_ast σ.2.2 10027 o0 x2.toNatClampNeg (σ.2.2 10027 o0 x1.toNatClampNeg)) 10028 o0 x1.toNatClampNeg)) 10029 o0 x1.toNatClampNeg)) 10030 o0 x2.toNatClampNeg ((j2_ast (j2_ast (j2_ast σ.2.2 10027 o0 x2.toNatClampNeg (σ.2.2 10027 o0 x1.toNatClampNeg)) 10028 o0 x2.toNatClampNeg ((j2_ast σ.2.2 10027 o0 x2.toNatClampNeg (σ.2.2 10027 o0 x1.toNatClampNeg)) 10028 o0 x1.toNatClampNeg)) 10029 o0 x2.toNatClampNeg ((j2_ast (j2_ast σ.2.2 10027 o0 x2.toNatClampNeg (σ.2.2 10027 o0 x1.toNatClampNeg)) 10028 o0 x2.toNatClampNeg ((j2_ast σ.2.2 10027 o0 x2.toNatClampNeg (σ.2.2 10027 o0 x1.toNatClampNeg)) 10028 o0 x1.toNatClampNeg)) 10029 o0 x1.toNatClampNeg)) 10030 o0 x1.toNatClampNeg)) 10031 o0 x1.toNatClampNeg)) 10032 o0 x2.toNatClampNeg ((j2_ast (j2_ast (j2_ast (j2_ast (j2_ast σ.2.2 10027 o0 x2.toNatClampNeg (σ.2.2 10027 o0 x1.toNatClampNeg)) 10028 o0 x2.toNatClampNeg ((j2_ast σ.2.2 10027 o0 x2.toNatClampNeg (σ.2.2 10027 o0 x1.toNatClampNeg)) 10028 o0 x1.toNatClampNeg)) 10029 o0 x2.toNatClampNeg ((j2_ast (j2_ast σ.2.2 10027 o0 x2.toNatClampNeg (σ.2.2 10027 o0 x1.toNatClampNeg)) 10028 o0 x2.toNatClampNeg ((j2_ast σ.2.2 10027 o0 x2.toNatClampNeg (σ.2.2 10027 o0 x1.toNatClampNeg)) 10028 o0 x1.toNatClampNeg)) 10029 o0 x1.toNatClampNeg)) 10030 o0 x2.toNatClampNeg ((j2_ast (j2_ast (j2_ast σ.2.2 10027 o0 x2.toNatClampNeg (σ.2.2 10027 o0 x1.toNatClampNeg)) 10028 o0 x2.toNatClampNeg ((j2_ast σ.2.2 10027 o0 x2.toNatClampNeg (σ.2.2 10027 o0 x1.toNatClampNeg)) 10028 o0 x1.toNatClampNeg)) 10029 o0 x2.toNatClampNeg ((j2_ast (j2_ast σ.2.2 10027 o0 x2.toNatClampNeg (σ.2.2 10027 o0 x1.toNatClampNeg)) 10028 o0 x2.toNatClampNeg ((j2_ast σ.2.2 10027 o0 x2.toNatClampNeg (σ.2.2 10027 o0 x1.toNatClampNeg)) 10028 o0 x1.toNatClampNeg)) 10029 o0 x1.toNatClampNeg)) 10030 o0 x1.toNatClampNeg)) 10031 o0 x2.toNatClampNeg ((j2_ast (j2_ast (j2_ast (j2_ast σ.2.2 10027 o0 x2.toNatClampNeg (σ.2.2 10027 o0 x1.toNatClampNeg)) 10028 o0 x2.toNatClampNeg ((j2_ast σ.2.2 10027 o0 x2.toNatClampNeg (σ.2.2 10027 o0 x1.toNatClampNeg)) 10028 o0 x1.toNatClampNeg)) 10029 o0 x2.toNatClampNeg ((j2_ast (j2_ast σ.2.2 10027 o0 x2.toNatClampNeg (σ.2.2 10027 o0 x1.toNatClampNeg)) 10028 o0 x2.toNatClampNeg ((j2_ast σ.2.2 10027 o0 x2.toNatClampNeg (σ.2.2 10027 o0 x1.toNatClampNeg)) 10028 o0 x1.toNatClampNeg)) 10029 o0 x1.toNatClampNeg)) 10030 o0 x2.toNatClampNeg ((j2_ast (j2_ast (j2_ast σ.2.2 10027 o0 x2.toNatClampNeg (σ.2.2 10027 o0 x1.toNatClampNeg)) 10028 o0 x2.toNatClampNeg ((j2_ast σ.2.2 10027 o0 x2.toNatClampNeg (σ.2.2 10027 o0 x1.toNatClampNeg)) 10028 o0 x1.toNatClampNeg)) 10029 o0 x2.toNatClampNeg ((j2_ast (j2_ast σ.2.2 10027 o0 x2.toNatClampNeg (σ.2.2 10027 o0 x1.toNatClampNeg)) 10028 o0 x2.toNatClampNeg ((j2_ast σ.2.2 10027 o0 x2.toNatClampNeg (σ.2.2 10027 o0 x1.toNatClampNeg)) 10028 o0 x1.toNatClampNeg)) 10029 o0 x1.toNatClampNeg)) 10030 o0 x1.toNatClampNeg)) 10031 o0 x1.toNatClampNeg)) 10032 o0 x1.toNatClampNeg))))))))))))))))) :
  T182 C Q 0 [vO 10 o0, vI x1, vI x2] [] σ := j2_T.go hC [0] 400 h
abbrev T183 (C : j2_C) (Q : j2_P) : j2_K := j2_T C jc_X10_copy none Q
set_option maxRecDepth 100000 in
theorem b183_0 {C : j2_C} (hC : j2_up1 C) {Q : j2_P} {o0 : Nat} {x1 : Int32} {x2 : Int32} {σ : j2_S}
  (h : (vp_in x1 3 ∧ (vp_in x2 3 ∧ T183 C Q 10 [vO 10 o0, vI x1, vI x2, vI (nI 0), vM 2] [] (σ.1, σ.2.1, (j2_ast σ.2.2 10009 o0 x2.toNatClampNeg (σ.2.2 10009 o0 x1.toNatClampNeg)))))) :
  T183 C Q 0 [vO 10 o0, vI x1, vI x2, vM 2, vM 2] [] σ := j2_T.go hC [0, 10, 98, 187, 199] 400 h
set_option maxRecDepth 100000 in
theorem b183_10 {C : j2_C} (hC : j2_up1 C) {Q : j2_P} {o0 : Nat} {x1 : Int32} {x2 : Int32} {x3 : Int32} {w4 : j2_W} {σ : j2_S}
  (h : (vp_in x1 3 ∧ (((σ.2.2 10009 o0 x1.toNatClampNeg) ≤ x3 → (vp_in x1 3 ∧ (vp_in x2 3 ∧ T183 C Q 187 [vO 10 o0, vI x1, vI x2, vI (nI 0), w4] [] (σ.1, σ.2.1, (j2_ast σ.2.2 10018 o0 x2.toNatClampNeg (σ.2.2 10018 o0 x1.toNatClampNeg)))))) ∧ (¬ ((σ.2.2 10009 o0 x1.toNatClampNeg) ≤ x3) → (vp_in (((nI 10) * x1) + x3) 30 ∧ (vp_in (((nI 10) * x2) + x3) 30 ∧ (vp_in (((nI 10) * x1) + x3) 30 ∧ (vp_in (((nI 10) * x2) + x3) 30 ∧ (vp_in (((nI 10) * x1) + x3) 30 ∧ (vp_in (((nI 10) * x2) + x3) 30 ∧ (vp_in (((nI 10) * x1) + x3) 30 ∧ (vp_in (((nI 10) * x2) + x3) 30 ∧ (vp_in (((nI 10) * x1) + x3) 30 ∧ (vp_in (((nI 10) * x2) + x3) 30 ∧ T183 C Q 98 [vO 10 o0, vI x1, vI x2, vI x3, vI (nI 0)] [] (σ.1, σ.2.1, (j2_ast (j2_ast (j2_ast (j2_ast (j2_ast σ.2.2 10010 o0 (((nI 10) * x2) + x3).toNatClampNeg (σ.2.2 10010 o0 (((nI 10) * x1) + x3).toNatClampNeg)) 10011 o0 (((nI 10) * x2) + x3).toNatClampNeg ((j2_ast σ.2.2 10010 o0 (((nI 10) * x2) + x3).toNatClampNeg (σ.2.2 10010 o0 (((nI 10) * x1) + x3).toNatClampNeg)) 10011 o0 (((nI 10) * x1) + x3).toNatClampNeg)) 10012 o0 (((nI 10) * x2) + x3).toNatClampNeg ((j2_ast (j2_ast σ.2.2 10010 o0 (((nI 10) * x2) + x3).toNatClampNeg (σ.2.2 10010 o0 (((nI 10) * x1) + x3).toNatClampNeg)) 10011 o0 (((nI 10) * x2) + x3).toNatClampNeg ((j2_ast σ.2.2 10010 o0 (((nI 10) * x2) + x3).toNatClampNeg (σ.2.2 10010 o0 (((nI 10) * x1) + x3).toNatClampNeg)) 10011 o0 (((nI 10) * x1) + x3).toNatClampNeg)) 10012 o0 (((nI 10) * x1) + x3).toNatClampNeg)) 10013 o0 (((nI 10) * x2) + x3).toNatClampNeg ((j2_ast (j2_ast (j2_ast σ.2.2 10010 o0 (((nI 10) * x2) + x3).toNatClampNeg (σ.2.2 10010 o0 (((nI 10) * x1) + x3).toNatClampNeg)) 10011 o0 (((nI 10) * x2) + x3).toNatClampNeg ((j2_ast σ.2.2 10010 o0 (((nI 10) * x2) + x3).toNatClampNeg (σ.2.2 10010 o0 (((nI 10) * x1) + x3).toNatClampNeg)) 10011 o0 (((nI 10) * x1) + x3).toNatClampNeg)) 10012 o0 (((nI 10) * x2) + x3).toNatClampNeg ((j2_ast (j2_ast σ.2.2 10010 o0 (((nI 10) * x2) + x3).toNatClampNeg (σ.2.2 10010 o0 (((nI 10) * x1) + x3).toNatClampNeg)) 10011 o0 (((nI 10) * x2) + x3).toNatClampNeg ((j2_ast σ.2.2 10010 o0 (((nI 10) * x2) + x3).toNatClampNeg (σ.2.2 10010 o0 (((nI 10) * x1) + x3).toNatClampNeg)) 10011 o0 (((nI 10) * x1) + x3).toNatClampNeg)) 10012 o0 (((nI 10) * x1) + x3).toNatClampNeg)) 10013 o0 (((nI 10) * x1) + x3).toNatClampNeg)) 10014 o0 (((nI 10) * x2) + x3).toNatClampNeg ((j2_ast (j2_ast (j2_ast (j2_ast σ.2.2 10010 o0 (((nI 10) * x2) + x3).toNatClampNeg (σ.2.2 10010 o0 (((nI 10) * x1) + x3).toNatClampNeg)) 10011 o0 (((nI 10) * x2) + x3).toNatClampNeg ((j2_ast σ.2.2 10010 o0 (((nI 10) * x2) + x3).toNatClampNeg (σ.2.2 10010 o0 (((nI 10) * x1) + x3).toNatClampNeg)) 10011 o0 (((nI 10) * x1) + x3).toNatClampNeg)) 10012 o0 (((nI 10) * x2) + x3).toNatClampNeg ((j2_ast (j2_ast σ.2.2 10010 o0 (((nI 10) * x2) + x3).toNatClampNeg (σ.2.2 10010 o0 (((nI 10) * x1) + x3).toNatClampNeg)) 10011 o0 (((nI 10) * x2) + x3).toNatClampNeg ((j2_ast σ.2.2 10010 o0 (((nI 10) * x2) + x3).toNatClampNeg (σ.2.2 10010 o0 (((nI 10) * x1) + x3).toNatClampNeg)) 10011 o0 (((nI 10) * x1) + x3).toNatClampNeg)) 10012 o0 (((nI 10) * x1) + x3).toNatClampNeg)) 10013 o0 (((nI 10) * x2) + x3).toNatClampNeg ((j2_ast (j2_ast (j2_ast σ.2.2 10010 o0 (((nI 10) * x2) + x3).toNatClampNeg (σ.2.2 10010 o0 (((nI 10) * x1) + x3).toNatClampNeg)) 10011 o0 (((nI 10) * x2) + x3).toNatClampNeg ((j2_ast σ.2.2 10010 o0 (((nI 10) * x2) + x3).toNatClampNeg (σ.2.2 10010 o0 (((nI 10) * x1) + x3).toNatClampNeg)) 10011 o0 (((nI 10) * x1) + x3).toNatClampNeg)) 10012 o0 (((nI 10) * x2) + x3).toNatClampNeg ((j2_ast (j2_ast σ.2.2 10010 o0 (((nI 10) * x2) + x3).toNatClampNeg (σ.2.2 10010 o0 (((nI 10) * x1) + x3).toNatClampNeg)) 10011 o0 (((nI 10) * x2) + x3).toNatClampNeg ((j2_ast σ.2.2 10010 o0 (((nI 10) * x2) + x3).toNatClampNeg (σ.2.2 10010 o0 (((nI 10) * x1) + x3).toNatClampNeg)) 10011 o0 (((nI 10) * x1) + x3).toNatClampNeg)) 10012 o0 (((nI 10) * x1) + x3).toNatClampNeg)) 10013 o0 (((nI 10) * x1) + x3).toNatClampNeg)) 10014 o0 (((nI 10) * x1) + x3).toNatClampNeg))))))))))))))))) :
  T183 C Q 10 [vO 10 o0, vI x1, vI x2, vI x3, w4] [] σ := j2_T.go hC [0, 10, 98, 187, 199] 400 h
set_option maxRecDepth 100000 in
theorem b183_98 {C : j2_C} (hC : j2_up1 C) {Q : j2_P} {o0 : Nat} {x1 : Int32} {x2 : Int32} {x3 : Int32} {x4 : Int32} {σ : j2_S}
  (h : (((nI 6) ≤ x4 → T183 C Q 10 [vO 10 o0, vI x1, vI x2, vI (x3 + (nI 1)), vI x4] [] σ) ∧ (¬ ((nI 6) ≤ x4) → (vp_in ((((nI 60) * x1) + ((nI 6) * x3)) + x4) 180 ∧ (vp_in ((((nI 60) * x2) + ((nI 6) * x3)) + x4) 180 ∧ (vp_in ((((nI 60) * x1) + ((nI 6) * x3)) + x4) 180 ∧ (vp_in ((((nI 60) * x2) + ((nI 6) * x3)) + x4) 180 ∧ (vp_in ((((nI 60) * x1) + ((nI 6) * x3)) + x4) 180 ∧ (vp_in ((((nI 60) * x2) + ((nI 6) * x3)) + x4) 180 ∧ T183 C Q 98 [vO 10 o0, vI x1, vI x2, vI x3, vI (x4 + (nI 1))] [] (σ.1, σ.2.1, (j2_ast (j2_ast (j2_ast σ.2.2 10015 o0 ((((nI 60) * x2) + ((nI 6) * x3)) + x4).toNatClampNeg (σ.2.2 10015 o0 ((((nI 60) * x1) + ((nI 6) * x3)) + x4).toNatClampNeg)) 10016 o0 ((((nI 60) * x2) + ((nI 6) * x3)) + x4).toNatClampNeg ((j2_ast σ.2.2 10015 o0 ((((nI 60) * x2) + ((nI 6) * x3)) + x4).toNatClampNeg (σ.2.2 10015 o0 ((((nI 60) * x1) + ((nI 6) * x3)) + x4).toNatClampNeg)) 10016 o0 ((((nI 60) * x1) + ((nI 6) * x3)) + x4).toNatClampNeg)) 10017 o0 ((((nI 60) * x2) + ((nI 6) * x3)) + x4).toNatClampNeg ((j2_ast (j2_ast σ.2.2 10015 o0 ((((nI 60) * x2) + ((nI 6) * x3)) + x4).toNatClampNeg (σ.2.2 10015 o0 ((((nI 60) * x1) + ((nI 6) * x3)) + x4).toNatClampNeg)) 10016 o0 ((((nI 60) * x2) + ((nI 6) * x3)) + x4).toNatClampNeg ((j2_ast σ.2.2 10015 o0 ((((nI 60) * x2) + ((nI 6) * x3)) + x4).toNatClampNeg (σ.2.2 10015 o0 ((((nI 60) * x1) + ((nI 6) * x3)) + x4).toNatClampNeg)) 10016 o0 ((((nI 60) * x1) + ((nI 6) * x3)) + x4).toNatClampNeg)) 10017 o0 ((((nI 60) * x1) + ((nI 6) * x3)) + x4).toNatClampNeg)))))))))))) :
  T183 C Q 98 [vO 10 o0, vI x1, vI x2, vI x3, vI x4] [] σ := j2_T.go hC [0, 10, 98, 187, 199] 400 h
set_option maxRecDepth 100000 in
theorem b183_187 {C : j2_C} (hC : j2_up1 C) {Q : j2_P} {o0 : Nat} {x1 : Int32} {x2 : Int32} {x3 : Int32} {w4 : j2_W} {σ : j2_S}
  (h : (vp_in x1 3 ∧ (((σ.2.2 10018 o0 x1.toNatClampNeg) ≤ x3 → (vp_in x1 3 ∧ (vp_in x2 3 ∧ ((none : Option FieldType) = none ∧ Q none (σ.1, σ.2.1, (j2_ast σ.2.2 10034 o0 x2.toNatClampNeg (σ.2.2 10034 o0 x1.toNatClampNeg))))))) ∧ (¬ ((σ.2.2 10018 o0 x1.toNatClampNeg) ≤ x3) → C 181 [vO 10 o0, vI x1, vI x3, vI x2, vI x3] σ (fun r σ1 => T183 C Q 199 [vO 10 o0, vI x1, vI x2, vI x3, w4] (r.toList ++ []) σ1))))) :
  T183 C Q 187 [vO 10 o0, vI x1, vI x2, vI x3, w4] [] σ := j2_T.go hC [0, 10, 98, 187, 199] 400 h
set_option maxRecDepth 100000 in
theorem b183_199 {C : j2_C} (hC : j2_up1 C) {Q : j2_P} {o0 : Nat} {x1 : Int32} {x2 : Int32} {x3 : Int32} {w4 : j2_W} {σ : j2_S}
  (h : T183 C Q 187 [vO 10 o0, vI x1, vI x2, vI (x3 + (nI 1)), w4] [] σ) :
  T183 C Q 199 [vO 10 o0, vI x1, vI x2, vI x3, w4] [] σ := j2_T.go hC [0, 10, 98, 187, 199] 400 h
abbrev T184 (C : j2_C) (Q : j2_P) : j2_K := j2_T C jc_X10_copyState none Q
set_option maxRecDepth 100000 in
theorem b184_0 {C : j2_C} (hC : j2_up1 C) {Q : j2_P} {o0 : Nat} {x1 : Int32} {σ : j2_S}
  (h : (vp_in ((nI 9600) + x1) 19200 ∧ (((σ.2.2 10035 o0 ((nI 9600) + x1).toNatClampNeg) = 0 ∨ (σ.2.2 10035 o0 ((nI 9600) + x1).toNatClampNeg) = 1) ∧ vp_in x1 19200 ∧ (vp_in ((nI 9600) + x1) 19200 ∧ (vp_in x1 19200 ∧ T184 C Q 22 [vO 10 o0, vI x1, vI (nI 0)] [] (σ.1, σ.2.1, (j2_ast (j2_ast σ.2.2 10035 o0 x1.toNatClampNeg (σ.2.2 10035 o0 ((nI 9600) + x1).toNatClampNeg)) 10036 o0 x1.toNatClampNeg ((j2_ast σ.2.2 10035 o0 x1.toNatClampNeg (σ.2.2 10035 o0 ((nI 9600) + x1).toNatClampNeg)) 10036 o0 ((nI 9600) + x1).toNatClampNeg)))))))) :
  T184 C Q 0 [vO 10 o0, vI x1, vM 2] [] σ := j2_T.go hC [0, 22, 47] 400 h
set_option maxRecDepth 100000 in
theorem b184_22 {C : j2_C} (hC : j2_up1 C) {Q : j2_P} {o0 : Nat} {x1 : Int32} {x2 : Int32} {σ : j2_S}
  (h : (((nI 10) ≤ x2 → T184 C Q 47 [vO 10 o0, vI x1, vI (nI 0)] [] σ) ∧ (¬ ((nI 10) ≤ x2) → (vp_in (((nI 96000) + ((nI 10) * x1)) + x2) 192000 ∧ (vp_in (((nI 10) * x1) + x2) 192000 ∧ T184 C Q 22 [vO 10 o0, vI x1, vI (x2 + (nI 1))] [] (σ.1, σ.2.1, (j2_ast σ.2.2 10037 o0 (((nI 10) * x1) + x2).toNatClampNeg (σ.2.2 10037 o0 (((nI 96000) + ((nI 10) * x1)) + x2).toNatClampNeg)))))))) :
  T184 C Q 22 [vO 10 o0, vI x1, vI x2] [] σ := j2_T.go hC [0, 22, 47] 400 h
set_option maxRecDepth 100000 in
theorem b184_47 {C : j2_C} (hC : j2_up1 C) {Q : j2_P} {o0 : Nat} {x1 : Int32} {x2 : Int32} {σ : j2_S}
  (h : (((nI 20) ≤ x2 → ((none : Option FieldType) = none ∧ Q none σ)) ∧ (¬ ((nI 20) ≤ x2) → (vp_in (((nI 192000) + ((nI 20) * x1)) + x2) 384000 ∧ (vp_in (((nI 20) * x1) + x2) 384000 ∧ T184 C Q 47 [vO 10 o0, vI x1, vI (x2 + (nI 1))] [] (σ.1, σ.2.1, (j2_ast σ.2.2 10038 o0 (((nI 20) * x1) + x2).toNatClampNeg (σ.2.2 10038 o0 (((nI 192000) + ((nI 20) * x1)) + x2).toNatClampNeg)))))))) :
  T184 C Q 47 [vO 10 o0, vI x1, vI x2] [] σ := j2_T.go hC [0, 22, 47] 400 h
