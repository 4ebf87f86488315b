/-! the small machine's steps, second part: numbers, cells -/
section JMPUT
variable {p : Program} {l : Launch} {e : Env} {R : Room} {s : State} {m : MethodId} {args : Array Value} {below : List Frame} {meth : Method} {c : Code} {H : Heap} {locs : List Loc} {cells slots : Nat} {Q : State → Prop}
variable {cc : ByteArray} {pc : Nat} {ls : Array Slot} {rest : List Value} {D : va_G} {cl : List vw_C} {A : Nat → Prop} {a : Nat} {tys : List (ClassId × FieldType)} {ws : va_W} {H0 : Heap}
/-- as va_put, va_putF, va_iast, with the heap's size -/
theorem jm_Put (hexec : p.tables.exec = Jvm.exec) (hb : c.code = cc) {own C : String} {T : u_T} {N ci index : Nat} {Ts : List Cond} (hts : ∀ w ∈ Ts, w.before args s = true) (hin : ∀ w ∈ u_ws C T N, w ∈ Ts) (ty0 : Nat → FieldType) (hty : ∀ k, k < N → parseFieldDescriptor (T k).2.2.1 = some (ty0 k)) (hnm : ∀ a, a < N → ∀ b, b < N → a ≠ b → (T a).2.1 ≠ (T b).2.1) (hown : s.vm.findClass own = some m.cls) (hK : va_K D cl tys s) (hP : va_P D cl ws H) (hD : va_D A ws) (hS0 : va_S A H0 H locs) (q0 : Nat) {fs : List Value} (he : ws[q0]? = some (a, .inr (ci, fs))) (hc : cl[ci]? = some (C, T, N)) (k : Nat) (hk : k < N) (hlink : (Cond.fieldLink own index C (T k).2.1 (T k).2.2.1).before args s = true) (hT : (T k).1 = C) (hfin : (T k).2.2.2 = false ∨ ((T k).2.2.2 = true ∧ meth.name = "<init>" ∧ C = own)) {ty : FieldType} {v : Value} (hd : parseFieldDescriptor (T k).2.2.1 = some ty) (hn : narrow ty v = v) (hfit : fits ty v = true) (hl : k < fs.length)
    (hdg : decode cc pc = .ok (.putfield index, 3)) (kk : ∀ (H1 : Heap) (locs1 : List Loc), H1.size = H.size → va_P D cl (ws.set q0 (a, .inr (ci, fs.set k v))) H1 → va_D A (ws.set q0 (a, .inr (ci, fs.set k v))) → va_S A H0 H1 locs1 → W p l e R s m args below meth c H1 locs1 cells slots Q (F0 m (pc + 3) ls rest)) : W p l e R s m args below meth c H locs cells slots Q (F0 m pc ls (v :: .ref a :: rest)) := by
  have hap := va_apart (own := own) hts hin ty0 hty hnm hK hc
  obtain ⟨r, h1, cell, q1, q2, q3, q4⟩ := hP q0 _ he
  have hr : r = (C, T, N) := Option.some.inj (h1.symm.trans hc)
  subst hr
  obtain ⟨hS, hfc, kC, hkC, hkind⟩ := hK.1 ci _ hc
  obtain ⟨cf, kf, fi, f, hi, hsl⟩ := hS k hk
  have hi2 := hi
  rw [hT] at hi2
  have hst := (u_facts hfc hkC (u_lays hts hin hk) hi).1
  have hlay := hts _ (hin _ (u_in_lay hk))
  unfold u_lay at hlay
  rcases hfin with hfin | ⟨hfin, hin2, hdecl⟩
  · rw [if_neg (by rw [hfin]; decide)] at hlay
    have h6 := u_store hfc hkC hkind hlay hi hd hn hfit
    refine W.putK hexec hb (f := f) ⟨hown, hlink, ⟨_, _, _, hi2⟩, hst⟩ (by rw [q2]; exact h6) q1 q3 (by rw [hsl]; exact k2_hasslot (q4 k hk)) rfl rfl hdg fun H' e1 e2 e3 => ?_
    rw [hsl] at e1 ⊢
    exact kk H' _ e2 (hP.set hD he ⟨_, hc, t_OB.to (V := updV (vp_V fs) k v) ⟨_, e1, q2, q3, t_set q4 hap hk v⟩ (fun j _ => vp_updV_set hl v j)⟩ e3) (hD.set he) (hS0.put e2 e3 (hD.2 q0 _ he))
  · rw [if_pos hfin] at hlay
    have hcf : m.cls = cf := by
      obtain ⟨_, _, c', _, _, _, -, -, hf', -, -, -, hown2, -⟩ := Cond.laysFinal_spec hlay
      have e1 : c' = cf := by have := hi.symm.trans hf'; simp at this; exact this.1.symm
      rw [hT, hdecl] at hown2
      rw [← e1]; exact Option.some.inj (hown.symm.trans hown2)
    have h6 := u_fits hfc hkC hkind (Or.inr hlay) hi hd hn hfit
    refine W.putFinK hexec hb hown hlink hi2 hst hcf hin2 (by rw [q2]; exact h6) q1 q3 (by rw [hsl]; exact k2_hasslot (q4 k hk)) rfl rfl hdg fun H' e1 e2 e3 => ?_
    rw [hsl] at e1 ⊢
    exact kk H' _ e2 (hP.set hD he ⟨_, hc, t_OB.to (V := updV (vp_V fs) k v) ⟨_, e1, q2, q3, t_set q4 hap hk v⟩ (fun j _ => vp_updV_set hl v j)⟩ e3) (hD.set he) (hS0.put e2 e3 (hD.2 q0 _ he))
theorem jm_Iast (hexec : p.tables.exec = Jvm.exec) (hb : c.code = cc) (hK : va_K D cl tys s) (hP : va_P D cl ws H) (hD : va_D A ws) (hS : va_S A H0 H locs) (q0 t0 : Nat) {cA : ClassId} {n : Nat} {f : Nat → Int32} (ha : ws[q0]? = some (a, .inl (cA, n, .inl f))) (ht : tys[t0]? = some (cA, .int)) {i : Int32} {x : Int32} (hin : vp_in i n) (hdg : decode cc pc = .ok (.iastore, 1))
    (kk : ∀ (H1 : Heap) (locs1 : List Loc), H1.size = H.size → va_P D cl (ws.set q0 (a, .inl (cA, n, .inl (upd f i.toNatClampNeg x)))) H1 → va_D A (ws.set q0 (a, .inl (cA, n, .inl (upd f i.toNatClampNeg x)))) → va_S A H0 H1 locs1 → W p l e R s m args below meth c H1 locs1 cells slots Q (F0 m (pc + 1) ls rest)) : W p l e R s m args below meth c H locs cells slots Q (F0 m pc ls (.int x :: .int i :: .ref a :: rest)) := by
  refine W.iast hexec hb (hP q0 _ ha) ((hK.2 t0 _ ht).1 n (fun j => .int (f j))) (fun q => by cases q) (by show ¬ (i < 0 ∨ (arrV _ _ _).slots.size ≤ _); rw [arrV_size]; exact hin) rfl rfl hdg fun H1 e z oq => ?_
  refine kk H1 _ z (hP.set hD ha ?_ oq) (hD.set ha) (hS.put z oq (hD.2 q0 _ ha))
  show H1[a]? = some (vp_cell _ _)
  rw [e, vp_cell_i, vp_cell_i, arrV_store]
  congr 2
  funext q
  by_cases hq : q = i.toNatClampNeg
  · subst hq
    simp [updV, upd]
  · simp [updV, upd, hq]
end JMPUT
section JMSTEP2
variable {G : jm_G} {U : jm_U} {V : jm_V} {p : Program} {l : Launch} {e : Env} {R : Room} {s : State} {m : MethodId} {args : Array Value} {below : List Frame} {meth : Method} {c : Code} {Q : State → Prop} {y d pc : Nat} {L st : List Value} {σ : jm_S} {b z : Nat}
theorem jm_s_iadd (X : jm_Cx G U V p s m args meth c R y d) {x v : Int32} (h : jm_sm U y pc .iadd 1) (k : jm_WS G U V p l e R s m args below meth c Q y (pc + 1) L (.int (x + v) :: st) σ b z) : jm_WS G U V p l e R s m args below meth c Q y pc L (.int v :: .int x :: st) σ b z := by
  intro H locs ls cells slots h1 h2 h3 h4 h5 h6
  refine lv_iadd X.1 X.2.1 h.1 ?_
  rw [← h.2]
  exact k H locs ls cells slots h1 h2 h3 h4 h5 h6
theorem jm_s_isub (X : jm_Cx G U V p s m args meth c R y d) {x v : Int32} (h : jm_sm U y pc .isub 1) (k : jm_WS G U V p l e R s m args below meth c Q y (pc + 1) L (.int (x - v) :: st) σ b z) : jm_WS G U V p l e R s m args below meth c Q y pc L (.int v :: .int x :: st) σ b z := by
  intro H locs ls cells slots h1 h2 h3 h4 h5 h6
  refine lv_isub X.1 X.2.1 h.1 ?_
  rw [← h.2]
  exact k H locs ls cells slots h1 h2 h3 h4 h5 h6
theorem jm_s_imul (X : jm_Cx G U V p s m args meth c R y d) {x v : Int32} (h : jm_sm U y pc .imul 1) (k : jm_WS G U V p l e R s m args below meth c Q y (pc + 1) L (.int (x * v) :: st) σ b z) : jm_WS G U V p l e R s m args below meth c Q y pc L (.int v :: .int x :: st) σ b z := by
  intro H locs ls cells slots h1 h2 h3 h4 h5 h6
  refine lv_imul X.1 X.2.1 h.1 ?_
  rw [← h.2]
  exact k H locs ls cells slots h1 h2 h3 h4 h5 h6
theorem jm_s_iand (X : jm_Cx G U V p s m args meth c R y d) {x v : Int32} (h : jm_sm U y pc .iand 1) (k : jm_WS G U V p l e R s m args below meth c Q y (pc + 1) L (.int (x &&& v) :: st) σ b z) : jm_WS G U V p l e R s m args below meth c Q y pc L (.int v :: .int x :: st) σ b z := by
  intro H locs ls cells slots h1 h2 h3 h4 h5 h6
  refine lv_iand X.1 X.2.1 h.1 ?_
  rw [← h.2]
  exact k H locs ls cells slots h1 h2 h3 h4 h5 h6
theorem jm_s_ior (X : jm_Cx G U V p s m args meth c R y d) {x v : Int32} (h : jm_sm U y pc .ior 1) (k : jm_WS G U V p l e R s m args below meth c Q y (pc + 1) L (.int (x ||| v) :: st) σ b z) : jm_WS G U V p l e R s m args below meth c Q y pc L (.int v :: .int x :: st) σ b z := by
  intro H locs ls cells slots h1 h2 h3 h4 h5 h6
  refine lv_ior X.1 X.2.1 h.1 ?_
  rw [← h.2]
  exact k H locs ls cells slots h1 h2 h3 h4 h5 h6
theorem jm_s_ishl (X : jm_Cx G U V p s m args meth c R y d) {x v : Int32} (h : jm_sm U y pc .ishl 1) (k : jm_WS G U V p l e R s m args below meth c Q y (pc + 1) L (.int (x <<< (v &&& 31)) :: st) σ b z) : jm_WS G U V p l e R s m args below meth c Q y pc L (.int v :: .int x :: st) σ b z := by
  intro H locs ls cells slots h1 h2 h3 h4 h5 h6
  refine lv_ishl X.1 X.2.1 h.1 ?_
  rw [← h.2]
  exact k H locs ls cells slots h1 h2 h3 h4 h5 h6
theorem jm_s_ishr (X : jm_Cx G U V p s m args meth c R y d) {x v : Int32} (h : jm_sm U y pc .ishr 1) (k : jm_WS G U V p l e R s m args below meth c Q y (pc + 1) L (.int (x >>> (v &&& 31)) :: st) σ b z) : jm_WS G U V p l e R s m args below meth c Q y pc L (.int v :: .int x :: st) σ b z := by
  intro H locs ls cells slots h1 h2 h3 h4 h5 h6
  refine lv_ishr X.1 X.2.1 h.1 ?_
  rw [← h.2]
  exact k H locs ls cells slots h1 h2 h3 h4 h5 h6
theorem jm_s_idiv (X : jm_Cx G U V p s m args meth c R y d) {x v : Int32} (h : jm_sm U y pc .idiv 1) (hne : ¬ v = 0) (k : jm_WS G U V p l e R s m args below meth c Q y (pc + 1) L (.int (x / v) :: st) σ b z) : jm_WS G U V p l e R s m args below meth c Q y pc L (.int v :: .int x :: st) σ b z := by
  intro H locs ls cells slots h1 h2 h3 h4 h5 h6
  refine lv_idiv X.1 X.2.1 h.1 hne ?_
  rw [← h.2]
  exact k H locs ls cells slots h1 h2 h3 h4 h5 h6
theorem jm_s_irem (X : jm_Cx G U V p s m args meth c R y d) {x v : Int32} (h : jm_sm U y pc .irem 1) (hne : ¬ v = 0) (k : jm_WS G U V p l e R s m args below meth c Q y (pc + 1) L (.int (x - x / v * v) :: st) σ b z) : jm_WS G U V p l e R s m args below meth c Q y pc L (.int v :: .int x :: st) σ b z := by
  intro H locs ls cells slots h1 h2 h3 h4 h5 h6
  refine lv_irem X.1 X.2.1 h.1 hne ?_
  rw [← h.2]
  exact k H locs ls cells slots h1 h2 h3 h4 h5 h6
theorem jm_s_i2b (X : jm_Cx G U V p s m args meth c R y d) {x : Int32} (h : jm_sm U y pc .i2b 1) (k : jm_WS G U V p l e R s m args below meth c Q y (pc + 1) L (.int x.toInt8.toInt32 :: st) σ b z) : jm_WS G U V p l e R s m args below meth c Q y pc L (.int x :: st) σ b z := by
  intro H locs ls cells slots h1 h2 h3 h4 h5 h6
  refine lv_i2b X.1 X.2.1 h.1 rfl ?_
  rw [← h.2]
  exact k H locs ls cells slots h1 h2 h3 h4 h5 h6
theorem jm_s_dup (X : jm_Cx G U V p s m args meth c R y d) {v : Value} (h : jm_sm U y pc .dup 1) (hv : v.category = 1) (k : jm_WS G U V p l e R s m args below meth c Q y (pc + 1) L (v :: v :: st) σ b z) : jm_WS G U V p l e R s m args below meth c Q y pc L (v :: st) σ b z := by
  intro H locs ls cells slots h1 h2 h3 h4 h5 h6
  refine lv_dup X.1 X.2.1 h.1 (by rw [jm_cv_cat]; exact hv) ?_
  rw [← h.2]
  exact k H locs ls cells slots h1 h2 h3 h4 h5 h6
theorem jm_s_dup2 (X : jm_Cx G U V p s m args meth c R y d) {v w : Value} (h : jm_sm U y pc .dup2 1) (hv : v.category = 1) (hw : w.category = 1) (k : jm_WS G U V p l e R s m args below meth c Q y (pc + 1) L (v :: w :: v :: w :: st) σ b z) : jm_WS G U V p l e R s m args below meth c Q y pc L (v :: w :: st) σ b z := by
  intro H locs ls cells slots h1 h2 h3 h4 h5 h6
  refine lv_dup2_11 X.1 X.2.1 h.1 (by rw [jm_cv_cat]; exact hv) (by rw [jm_cv_cat]; exact hw) ?_
  rw [← h.2]
  exact k H locs ls cells slots h1 h2 h3 h4 h5 h6
theorem jm_s_pop (X : jm_Cx G U V p s m args meth c R y d) {v : Value} (h : jm_sm U y pc .pop 1) (hv : v.category = 1) (k : jm_WS G U V p l e R s m args below meth c Q y (pc + 1) L st σ b z) : jm_WS G U V p l e R s m args below meth c Q y pc L (v :: st) σ b z := by
  intro H locs ls cells slots h1 h2 h3 h4 h5 h6
  refine lv_pop X.1 X.2.1 h.1 (by rw [jm_cv_cat]; exact hv) ?_
  rw [← h.2]
  exact k H locs ls cells slots h1 h2 h3 h4 h5 h6
/-- a field's word: sort q, place k -/
def jm_fl (G : jm_G) (U : jm_U) (y i q k : Nat) (fin : Bool) : Prop := ∃ (C : String) (T : u_T) (N : Nat), (jm_cl U)[q]? = some (C, T, N) ∧ N = jm_sz G q ∧ k < N ∧ Cond.fieldLink (jm_nm U y).cls i C (T k).2.1 (T k).2.2.1 ∈ jm_tb U ∧ (T k).1 = C ∧ ((T k).2.2.2 = false ∨ fin = true ∨ ((T k).2.2.2 = true ∧ (jm_nm U y).name = "<init>" ∧ C = (jm_nm U y).cls))
/-- what is known of every sort -/
def jm_so (G : jm_G) (U : jm_U) : Prop := ∀ (q : Nat) (C : String) (T : u_T) (N : Nat), (jm_cl U)[q]? = some (C, T, N) → (∀ w ∈ u_ws C T N, w ∈ jm_tb U) ∧ (∀ k, k < N → parseFieldDescriptor (T k).2.2.1 = some (jm_ft G q k)) ∧ (∀ a, a < N → ∀ b, b < N → a ≠ b → (T a).2.1 ≠ (T b).2.1)
theorem jm_s_get (X : jm_Cx G U V p s m args meth c R y d) (hso : jm_so G U) {i q k o : Nat} (h : jm_sm U y pc (.getfield i) 3) (hf : jm_fl G U y i q k true) (ho : σ.2.1[o]? = some (3, q, jm_sz G q)) (kk : jm_WS G U V p l e R s m args below meth c Q y (pc + 1) L (σ.2.2.1 o k :: st) σ b z) : jm_WS G U V p l e R s m args below meth c Q y pc L (.ref o :: st) σ b z := by
  intro H locs ls cells slots h1 h2 h3 h4 h5 h6
  obtain ⟨C, T, N, hc, hN, hk, hw, hT, -⟩ := hf
  obtain ⟨hu, -, -⟩ := hso q C T N hc
  subst hN
  have he := jm_ws_at (cI := V.2.1) (cB := V.2.2.1) (cZ := V.2.2.2.1) (ad := jm_ad V) (rd := jm_rd V) ho
  rw [jm_E_o ho] at he
  refine va_get (D := jm_D V) X.1 X.2.1 X.2.2.2.2.1 hu X.2.2.2.1 X.2.2.2.2.2.2.2.2.1.1 h1.1 o he hc k hk (X.2.2.2.2.1 _ hw) (fun x hx => by rw [hT] at hx; exact hx) (v := jm_v V (σ.2.2.1 o k)) (by simp [hk]) h.1 ?_
  rw [← h.2]
  exact kk H locs ls cells slots h1 h2 h3 h4 h5 h6
theorem jm_narrow {t : FieldType} {v : Value} (ht : t = .int ∨ t = .boolean ∨ (∃ C, t = .object C) ∨ ∃ t', t = .array t') (h : fits t v = true) : narrow t v = v := by
  rcases ht with rfl | rfl | ⟨C, rfl⟩ | ⟨t', rfl⟩
  · cases v <;> first | rfl | simp [fits] at h
  · cases v <;> simp [fits] at h
    rcases h with rfl | rfl <;> rfl
  · cases v <;> first | rfl | simp [fits] at h
  · cases v <;> first | rfl | simp [fits] at h
theorem jm_fits_cv {t : FieldType} {v : Value} (h : fits t v = true) : fits t (jm_cv (jm_ad V) (jm_rd V) v) = true := by
  cases v <;> first | exact h | (cases t <;> first | rfl | exact absurd h (by simp [fits]))
theorem jm_s_put (X : jm_Cx G U V p s m args meth c R y d) (hso : jm_so G U) {i q k o : Nat} {v : Value} (h : jm_sm U y pc (.putfield i) 3) (hf : jm_fl G U y i q k false) (hty0 : jm_ft G q k = .int ∨ jm_ft G q k = .boolean ∨ (∃ C, jm_ft G q k = .object C) ∨ ∃ t', jm_ft G q k = .array t') (ho : σ.2.1[o]? = some (3, q, jm_sz G q)) (hv : fits (jm_ft G q k) v = true) (kk : jm_WS G U V p l e R s m args below meth c Q y (pc + 1) L st (σ.1, σ.2.1, jm_row σ.2.2.1 o (jm_u1 (σ.2.2.1 o) k v), σ.2.2.2) b z) : jm_WS G U V p l e R s m args below meth c Q y pc L (v :: .ref o :: st) σ b z := by
  intro H locs ls cells slots h1 h2 h3 h4 h5 h6
  obtain ⟨C, T, N, hc, hN, hk, hw, hT, hfin⟩ := hf
  obtain ⟨hu, hty, hnm⟩ := hso q C T N hc
  subst hN
  have he := jm_ws_at (cI := V.2.1) (cB := V.2.2.1) (cZ := V.2.2.2.1) (ad := jm_ad V) (rd := jm_rd V) ho
  rw [jm_E_o ho] at he
  refine jm_Put (D := jm_D V) (A := jm_A V) X.1 X.2.1 X.2.2.2.2.1 hu (jm_ft G q) hty hnm X.2.2.2.1 X.2.2.2.2.2.2.2.2.1.1 h1.1 h1.2.1 h2 o he hc k hk (X.2.2.2.2.1 _ hw) hT (by rcases hfin with q | q | ⟨q1, q2, q3⟩; exact Or.inl q; cases q; exact Or.inr ⟨q1, X.2.2.2.2.2.2.2.1.trans q2, q3⟩) (hty k hk) (v := jm_v V v) (jm_narrow hty0 (jm_fits_cv hv)) (jm_fits_cv hv) (by simpa using hk) h.1 (fun H1 locs1 hz hP hD hS => ?_)
  rw [jm_set_o ho hk] at hP hD
  rw [← h.2]
  exact kk H1 locs1 ls cells slots ⟨hP, hD, fun q => hz.trans (h1.2.2 q)⟩ hS h3 h4 h5 h6
theorem jm_s_iald (X : jm_Cx G U V p s m args meth c R y d) {o n : Nat} {i : Int32} (h : jm_sm U y pc .iaload 1) (ho : σ.2.1[o]? = some (0, 0, n)) (hi : vp_in i n) (kk : jm_WS G U V p l e R s m args below meth c Q y (pc + 1) L (.int (σ.2.2.2 o i.toNatClampNeg) :: st) σ b z) : jm_WS G U V p l e R s m args below meth c Q y pc L (.int i :: .ref o :: st) σ b z := by
  intro H locs ls cells slots h1 h2 h3 h4 h5 h6
  have he := jm_ws_at (cI := V.2.1) (cB := V.2.2.1) (cZ := V.2.2.2.1) (ad := jm_ad V) (rd := jm_rd V) ho
  rw [jm_E_i ho] at he
  refine va_iald (D := jm_D V) X.1 X.2.1 X.2.2.2.2.2.2.2.2.1.1 h1.1 o 0 he rfl hi h.1 ?_
  rw [← h.2]
  exact kk H locs ls cells slots h1 h2 h3 h4 h5 h6
theorem jm_s_tald (X : jm_Cx G U V p s m args meth c R y d) {j : Nat} {i : Int32} (h : jm_sm U y pc .iaload 1) (hi : vp_in i (jm_ro G j).1) (kk : jm_WS G U V p l e R s m args below meth c Q y (pc + 1) L (.int ((jm_ro G j).2 i.toNatClampNeg) :: st) σ b z) : jm_WS G U V p l e R s m args below meth c Q y pc L (.int i :: .retAddr j :: st) σ b z := by
  intro H locs ls cells slots h1 h2 h3 h4 h5 h6
  refine va_ti X.1 X.2.1 (X.2.2.2.2.2.2.2.2.1.2.2.1 j) h2 hi rfl h.1 ?_
  rw [← h.2]
  exact kk H locs ls cells slots h1 h2 h3 h4 h5 h6
theorem jm_s_bald (X : jm_Cx G U V p s m args meth c R y d) {o n : Nat} {i : Int32} (h : jm_sm U y pc .baload 1) (ho : σ.2.1[o]? = some (1, 0, n) ∨ σ.2.1[o]? = some (2, 0, n)) (hi : vp_in i n) (kk : jm_WS G U V p l e R s m args below meth c Q y (pc + 1) L (.int (σ.2.2.2 o i.toNatClampNeg) :: st) σ b z) : jm_WS G U V p l e R s m args below meth c Q y pc L (.int i :: .ref o :: st) σ b z := by
  intro H locs ls cells slots h1 h2 h3 h4 h5 h6
  rcases ho with ho | ho
  · have he := jm_ws_at (cI := V.2.1) (cB := V.2.2.1) (cZ := V.2.2.2.1) (ad := jm_ad V) (rd := jm_rd V) ho
    rw [jm_E_b ho] at he
    refine va_bald (D := jm_D V) X.1 X.2.1 X.2.2.2.2.2.2.2.2.1.1 h1.1 o 1 he rfl hi h.1 ?_
    rw [← h.2]
    exact kk H locs ls cells slots h1 h2 h3 h4 h5 h6
  · have he := jm_ws_at (cI := V.2.1) (cB := V.2.2.1) (cZ := V.2.2.2.1) (ad := jm_ad V) (rd := jm_rd V) ho
    rw [jm_E_z ho] at he
    refine va_zald (D := jm_D V) X.1 X.2.1 X.2.2.2.2.2.2.2.2.1.1 h1.1 o 2 he rfl hi h.1 ?_
    rw [← h.2]
    exact kk H locs ls cells slots h1 h2 h3 h4 h5 h6
theorem jm_s_iast (X : jm_Cx G U V p s m args meth c R y d) {o n : Nat} {i x : Int32} (h : jm_sm U y pc .iastore 1) (ho : σ.2.1[o]? = some (0, 0, n)) (hi : vp_in i n) (kk : jm_WS G U V p l e R s m args below meth c Q y (pc + 1) L st (σ.1, σ.2.1, σ.2.2.1, jm_row σ.2.2.2 o (upd (σ.2.2.2 o) i.toNatClampNeg x)) b z) : jm_WS G U V p l e R s m args below meth c Q y pc L (.int x :: .int i :: .ref o :: st) σ b z := by
  intro H locs ls cells slots h1 h2 h3 h4 h5 h6
  have he := jm_ws_at (cI := V.2.1) (cB := V.2.2.1) (cZ := V.2.2.2.1) (ad := jm_ad V) (rd := jm_rd V) ho
  rw [jm_E_i ho] at he
  refine jm_Iast (D := jm_D V) (A := jm_A V) X.1 X.2.1 X.2.2.2.2.2.2.2.2.1.1 h1.1 h1.2.1 h2 o 0 he rfl hi h.1 (fun H1 locs1 hz hP hD hS => ?_)
  rw [jm_set_a ho (by rw [jm_E_i (by exact ho)]; simp only [jm_row_self])] at hP hD
  rw [← h.2]
  exact kk H1 locs1 ls cells slots ⟨hP, hD, fun q => hz.trans (h1.2.2 q)⟩ hS h3 h4 h5 h6
theorem jm_nar_z {x : Int32} (h : x = 0 ∨ x = 1) : vp_nar .boolean x = x := by rcases h with rfl | rfl <;> rfl
theorem jm_s_bast (X : jm_Cx G U V p s m args meth c R y d) {o n : Nat} {i x : Int32} (h : jm_sm U y pc .bastore 1) (ho : (σ.2.1[o]? = some (1, 0, n) ∧ x.toInt8.toInt32 = x) ∨ (σ.2.1[o]? = some (2, 0, n) ∧ (x = 0 ∨ x = 1))) (hi : vp_in i n) (kk : jm_WS G U V p l e R s m args below meth c Q y (pc + 1) L st (false, σ.2.1, σ.2.2.1, jm_row σ.2.2.2 o (upd (σ.2.2.2 o) i.toNatClampNeg x)) b z) : jm_WS G U V p l e R s m args below meth c Q y pc L (.int x :: .int i :: .ref o :: st) σ b z := by
  intro H locs ls cells slots h1 h2 h3 h4 h5 h6
  rcases ho with ⟨ho, hx⟩ | ⟨ho, hx⟩
  · have he := jm_ws_at (cI := V.2.1) (cB := V.2.2.1) (cZ := V.2.2.2.1) (ad := jm_ad V) (rd := jm_rd V) ho
    rw [jm_E_b ho] at he
    refine va_bast (D := jm_D V) (A := jm_A V) X.1 X.2.1 X.2.2.2.2.2.2.2.2.1.1 h1.1 h1.2.1 h2 o 1 he rfl hi h.1 (fun H1 locs1 hP hD hS => ?_)
    rw [vp_nar_byte, hx, jm_set_a ho (by rw [jm_E_b (by exact ho)]; simp only [jm_row_self])] at hP hD
    rw [← h.2]
    exact kk H1 locs1 ls cells slots ⟨hP, hD, fun q => by cases q⟩ hS h3 h4 h5 h6
  · have he := jm_ws_at (cI := V.2.1) (cB := V.2.2.1) (cZ := V.2.2.2.1) (ad := jm_ad V) (rd := jm_rd V) ho
    rw [jm_E_z ho] at he
    refine va_zast (D := jm_D V) (A := jm_A V) X.1 X.2.1 X.2.2.2.2.2.2.2.2.1.1 h1.1 h1.2.1 h2 o 2 he rfl hi h.1 (fun H1 locs1 hP hD hS => ?_)
    rw [jm_nar_z hx, jm_set_a ho (by rw [jm_E_z (by exact ho)]; simp only [jm_row_self])] at hP hD
    rw [← h.2]
    exact kk H1 locs1 ls cells slots ⟨hP, hD, fun q => by cases q⟩ hS h3 h4 h5 h6
theorem jm_s_alen (X : jm_Cx G U V p s m args meth c R y d) {o n : Nat} (h : jm_sm U y pc .arraylength 1) (ho : σ.2.1[o]? = some (0, 0, n) ∨ σ.2.1[o]? = some (1, 0, n)) (kk : jm_WS G U V p l e R s m args below meth c Q y (pc + 1) L (.int (Int32.ofNat n) :: st) σ b z) : jm_WS G U V p l e R s m args below meth c Q y pc L (.ref o :: st) σ b z := by
  intro H locs ls cells slots h1 h2 h3 h4 h5 h6
  rcases ho with ho | ho
  · have he := jm_ws_at (cI := V.2.1) (cB := V.2.2.1) (cZ := V.2.2.2.1) (ad := jm_ad V) (rd := jm_rd V) ho
    rw [jm_E_i ho] at he
    refine va_alen (D := jm_D V) X.1 X.2.1 X.2.2.2.2.2.2.2.2.1.1 h1.1 o 0 he rfl rfl h.1 ?_
    rw [← h.2]
    exact kk H locs ls cells slots h1 h2 h3 h4 h5 h6
  · have he := jm_ws_at (cI := V.2.1) (cB := V.2.2.1) (cZ := V.2.2.2.1) (ad := jm_ad V) (rd := jm_rd V) ho
    rw [jm_E_b ho] at he
    refine va_alen (D := jm_D V) X.1 X.2.1 X.2.2.2.2.2.2.2.2.1.1 h1.1 o 1 he rfl rfl h.1 ?_
    rw [← h.2]
    exact kk H locs ls cells slots h1 h2 h3 h4 h5 h6
theorem jm_s_tlen (X : jm_Cx G U V p s m args meth c R y d) {j : Nat} (h : jm_sm U y pc .arraylength 1) (kk : jm_WS G U V p l e R s m args below meth c Q y (pc + 1) L (.int (Int32.ofNat (jm_ro G j).1) :: st) σ b z) : jm_WS G U V p l e R s m args below meth c Q y pc L (.retAddr j :: st) σ b z := by
  intro H locs ls cells slots h1 h2 h3 h4 h5 h6
  refine va_tlen X.1 X.2.1 (X.2.2.2.2.2.2.2.2.1.2.2.1 j) h2 rfl h.1 ?_
  rw [← h.2]
  exact kk H locs ls cells slots h1 h2 h3 h4 h5 h6
theorem jm_s_gets (X : jm_Cx G U V p s m args meth c R y d) {i : Nat} (h : jm_sm U y pc (.getstatic i) 3) (hw : Cond.fieldLinkNest (jm_nm U y).cls i "ShrinkHouse" "TELLS" "[I" "ShrinkHouse" ∈ jm_nw U) (kk : jm_WS G U V p l e R s m args below meth c Q y (pc + 1) L (.retAddr 0 :: st) σ b z) : jm_WS G U V p l e R s m args below meth c Q y pc L st σ b z := by
  intro H locs ls cells slots h1 h2 h3 h4 h5 h6
  refine va_getsN X.1 X.2.1 X.2.2.2.2.2.2.2.2.1.2.1 h2 X.2.2.2.1 (va_Nw.use rfl (X.2.2.2.2.2.2.2.2.1.2.2.2.2 _ hw)) (fun x hx => hx) h.1 ?_
  rw [← h.2]
  exact kk H locs ls cells slots h1 h2 h3 h4 h5 h6
end JMSTEP2
