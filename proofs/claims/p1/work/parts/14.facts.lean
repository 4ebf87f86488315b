/-! the tables hold -/
theorem jt_in {w : Cond} (p : Nat) (h : tables_1[p]? = some w) (hg : goodWord w = true) : w ∈ jt_tb := List.mem_filter.mpr ⟨List.mem_append_right _ (List.mem_of_getElem? h), hg⟩
theorem jt_in2 {w : Cond} (p : Nat) (h : lw_tbl[p]? = some w) (hg : goodWord w = true) : w ∈ jt_tb := List.mem_filter.mpr ⟨List.mem_of_getElem? h, hg⟩
theorem jt_zip {α β : Type} : ∀ (l : List α) (k : List β), l.length = k.length → ∀ a ∈ l, ∃ b, (a, b) ∈ l.zip k
  | [], _, _, a, h => by cases h
  | x :: l, [], h, a, _ => by cases h
  | x :: l, y :: k, h, a, ha => by
    rcases List.mem_cons.mp ha with rfl | ha
    · exact ⟨y, List.mem_cons_self⟩
    · obtain ⟨b, hb⟩ := jt_zip l k (by simpa using h) a ha
      exact ⟨b, List.mem_cons_of_mem _ hb⟩
def jt_tyok (t : FieldType) : Bool := match t with
  | .int => true
  | .boolean => true
  | .object _ => true
  | .array _ => true
  | _ => false
theorem jt_tyok_ok {t : FieldType} (h : jt_tyok t = true) : t = .int ∨ t = .boolean ∨ (∃ C, t = .object C) ∨ ∃ t', t = .array t' := by
  cases t <;> simp [jt_tyok] at h ⊢
def jt_c_fl (q : Nat × Nat × Nat × Nat) (p : Nat) : Bool := match jt_cl[q.2.2.1]? with
  | some (C, F, N) => decide (N = jt_sz q.2.2.1) && (decide (q.2.2.2 < N) && (decide (tables_1[p]? = some (Cond.fieldLink (jt_R q.1) q.2.1 C (F q.2.2.2).2.1 (F q.2.2.2).2.2.1)) && (decide ((F q.2.2.2).1 = C) && (decide ((F q.2.2.2).2.2.2 = jt_fin q.2.2.1 q.2.2.2) && (decide (C = jt_R q.2.2.1) && jt_tyok (jt_ft q.2.2.1 q.2.2.2))))))
  | none => false
theorem jt_f_fl1 : ((jt_fl.zip jq_fl).take 120).all (fun x => jt_c_fl x.1 x.2) = true := by decide +kernel
theorem jt_f_fl2 : (((jt_fl.zip jq_fl).drop 120).take 120).all (fun x => jt_c_fl x.1 x.2) = true := by decide +kernel
theorem jt_f_fl3 : (((jt_fl.zip jq_fl).drop 120).drop 120).all (fun x => jt_c_fl x.1 x.2) = true := by decide +kernel
theorem jt_f_fl (x : (Nat × Nat × Nat × Nat) × Nat) (h : x ∈ jt_fl.zip jq_fl) : jt_c_fl x.1 x.2 = true := by
  rw [← List.take_append_drop 120 (jt_fl.zip jq_fl)] at h
  rcases List.mem_append.mp h with h | h
  · exact List.all_eq_true.mp jt_f_fl1 x h
  · rw [← List.take_append_drop 120 ((jt_fl.zip jq_fl).drop 120)] at h
    rcases List.mem_append.mp h with h | h
    · exact List.all_eq_true.mp jt_f_fl2 x h
    · exact List.all_eq_true.mp jt_f_fl3 x h
theorem jt_f_ct : (jt_ct.zip jq_ct).all (fun x => decide (tables_1[x.2]? = some (Cond.constant (jt_R x.1.1) x.1.2.1 (Int32.ofInt x.1.2.2)))) = true := by decide +kernel
def jt_c_lk (q : Nat × Nat × Nat) (p : Nat) : Bool := decide (q.2.2 < 250) && (if p = 9999 then decide (Cond.methodLinkNest (jt_R q.1) q.2.1 (jm_nm jU q.2.2) "ShrinkHouse" ∈ jt_nw) else decide (tables_1[p]? = some (Cond.methodLink (jt_R q.1) q.2.1 (jm_nm jU q.2.2))))
theorem jt_f_lk1 : ((jt_lk.zip jq_lk).take 120).all (fun x => jt_c_lk x.1 x.2) = true := by decide +kernel
theorem jt_f_lk2 : ((jt_lk.zip jq_lk).drop 120).all (fun x => jt_c_lk x.1 x.2) = true := by decide +kernel
theorem jt_f_lk (x : (Nat × Nat × Nat) × Nat) (h : x ∈ jt_lk.zip jq_lk) : jt_c_lk x.1 x.2 = true := by
  rw [← List.take_append_drop 120 (jt_lk.zip jq_lk)] at h
  rcases List.mem_append.mp h with h | h
  · exact List.all_eq_true.mp jt_f_lk1 x h
  · exact List.all_eq_true.mp jt_f_lk2 x h
def jt_c_cn (q : Nat × Nat × Nat) (p : Nat × Nat × Nat) : Bool := match jt_cl[q.2.2]? with
  | some (C, _, N) => decide (N = jt_sz q.2.2) && (decide (tables_1[p.1]? = some (Cond.classLink (jt_R q.1) q.2.1 C)) && (decide (tables_1[p.2.1]? = some (Cond.instantiable C N)) && decide (tables_1[p.2.2]? = some (Cond.initialized C))))
  | none => false
theorem jt_f_cn : (jt_cn.zip jq_cn).all (fun x => jt_c_cn x.1 x.2) = true := by decide +kernel
theorem jt_f_gs : ∀ q ∈ jt_gs, Cond.fieldLinkNest (jt_R q.1) q.2 "ShrinkHouse" "TELLS" "[I" "ShrinkHouse" ∈ jt_nw := by decide +kernel
theorem jt_f_mx : (jt_mx.zip jq_mx).all (fun x => decide (tables_1[x.2]? = some (Cond.methodLink (jt_R x.1.1) x.1.2 Lib.Math.max.name))) = true := by decide +kernel
theorem jt_f_cp : (jt_cp.zip jq_cp).all (fun x => decide (tables_1[x.2]? = some (Cond.methodLink (jt_R x.1.1) x.1.2 arraycopyName))) = true := by decide +kernel
theorem jt_f_ob : (jt_ob.zip jq_ob).all (fun x => decide (tables_1[x.2]? = some (Cond.methodLink (jt_R x.1.1) x.1.2 Lib.objectInit))) = true := by decide +kernel
def jt_c_mo (y : Nat) (p : Nat) : Bool := decide (tables_1[p]? = some (Cond.initialized (jm_nm jU y).cls)) && (decide ((jm_nm jU y).cls ≠ "java/lang/invoke/MethodHandle" ∧ (jm_nm jU y).cls ≠ "java/lang/invoke/VarHandle") && (decide ((parseMethodDescriptor (jm_nm jU y).desc).map (fun d => d.parameters.length) = some (jm_ma jG y)) && (decide (jm_ml jG y ≤ 45) && (decide (plainName (jm_nm jU y).cls = true) && (decide (jm_ps jU y 0 = 0) && decide ((jm_nm jU y).cls = jt_R (jt_ow.getD y 0)))))))
theorem jt_f_mo1 : ∀ y, y < 60 → jt_c_mo y (jq_co.getD y (0, 0)).2 = true := by decide +kernel
theorem jt_f_mo2 : ∀ y, y < 60 → jt_c_mo (60 + y) (jq_co.getD (60 + y) (0, 0)).2 = true := by decide +kernel
theorem jt_f_mo3 : ∀ y, y < 60 → jt_c_mo (120 + y) (jq_co.getD (120 + y) (0, 0)).2 = true := by decide +kernel
theorem jt_f_mo4 : ∀ y, y < 70 → jt_c_mo (180 + y) (jq_co.getD (180 + y) (0, 0)).2 = true := by decide +kernel
theorem jt_f_mo (y : Nat) (h : y < 250) : jt_c_mo y (jq_co.getD y (0, 0)).2 = true := by
  by_cases h1 : y < 60
  · exact jt_f_mo1 y h1
  by_cases h2 : y < 120
  · have := jt_f_mo2 (y - 60) (by omega)
    rwa [show 60 + (y - 60) = y by omega] at this
  by_cases h3 : y < 180
  · have := jt_f_mo3 (y - 120) (by omega)
    rwa [show 120 + (y - 120) = y by omega] at this
  · have := jt_f_mo4 (y - 180) (by omega)
    rwa [show 180 + (y - 180) = y by omega] at this
