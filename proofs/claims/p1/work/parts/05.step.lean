/-! the small machine's steps are the machine's -/
abbrev jm_U : Type := (Nat → MethodName) × (Nat → ByteArray) × (Nat → List Nat) × List vw_C × List Cond × List Cond × Nat
abbrev jm_nm (U : jm_U) : Nat → MethodName := U.1
abbrev jm_bt (U : jm_U) : Nat → ByteArray := U.2.1
abbrev jm_ps (U : jm_U) (y i : Nat) : Nat := (U.2.2.1 y).getD i 0
abbrev jm_cl (U : jm_U) : List vw_C := U.2.2.2.1
abbrev jm_tb (U : jm_U) : List Cond := U.2.2.2.2.1
abbrev jm_nw (U : jm_U) : List Cond := U.2.2.2.2.2.1
abbrev jm_nM (U : jm_U) : Nat := U.2.2.2.2.2.2
abbrev jm_V : Type := va_G × ClassId × ClassId × ClassId × (Nat → Nat) × (Nat → Nat) × (Nat → Prop)
abbrev jm_D (V : jm_V) : va_G := V.1
abbrev jm_ad (V : jm_V) : Nat → Nat := V.2.2.2.2.1
abbrev jm_rd (V : jm_V) : Nat → Nat := V.2.2.2.2.2.1
abbrev jm_A (V : jm_V) : Nat → Prop := V.2.2.2.2.2.2
abbrev jm_v (V : jm_V) (v : Value) : Value := jm_cv (jm_ad V) (jm_rd V) v
abbrev jm_w (V : jm_V) (σ : jm_S) : va_W := jm_ws V.2.1 V.2.2.1 V.2.2.2.1 (jm_ad V) (jm_rd V) σ
abbrev jm_ty (V : jm_V) : List (ClassId × FieldType) := [(V.2.1, .int), (V.2.2.1, .byte), (V.2.2.2.1, .boolean)]
def jm_Rp (U : jm_U) (V : jm_V) (σ : jm_S) (H : Heap) : Prop := va_P (jm_D V) (jm_cl U) (jm_w V σ) H ∧ va_D (jm_A V) (jm_w V σ) ∧ (σ.1 = true → H.size = jm_ad V σ.2.1.length)
/-- what a method's body knows of the machine -/
def jm_Kn (G : jm_G) (U : jm_U) (V : jm_V) (s : State) : Prop := va_K (jm_D V) (jm_cl U) (jm_ty V) s ∧ va_Z "ShrinkHouse" "TELLS" "[I" (.ref (jm_rd V 0)) (jm_A V) s s.heap ∧ (∀ j, va_T .int (jm_rd V j) (jm_ro G j).1 (fun i => .int ((jm_ro G j).2 i)) (jm_A V) s s.heap) ∧ (∀ q, s.heap.size ≤ q → jm_A V q) ∧ (∀ w ∈ jm_nw U, va_Nw w s)
def jm_Cx (G : jm_G) (U : jm_U) (V : jm_V) (p : Program) (s : State) (m : MethodId) (args : Array Value) (meth : Method) (c : Code) (R : Room) (y d : Nat) : Prop :=
  p.tables.exec = Jvm.exec ∧ c.code = jm_bt U y ∧ c.maxLocals = jm_ml G y ∧ s.vm.findClass (jm_nm U y).cls = some m.cls ∧ (∀ w ∈ jm_tb U, w.before args s = true) ∧ meth.sig.returnType = jm_rt G y ∧ meth.locks = false ∧ meth.name = (jm_nm U y).name ∧ jm_Kn G U V s ∧ d + 1 ≤ R.frames ∧ jm_mc G y ≤ R.cells ∧ jm_ms G y ≤ R.slots ∧ 64 * (d + 1) ≤ R.locals
def jm_WS (G : jm_G) (U : jm_U) (V : jm_V) (p : Program) (l : Launch) (e : Env) (R : Room) (s : State) (m : MethodId) (args : Array Value) (below : List Frame) (meth : Method) (c : Code) (Q : State → Prop) (y : Nat) (pc : Nat) (L st : List Value) (σ : jm_S) (b z : Nat) : Prop :=
  ∀ (H : Heap) (locs : List Loc) (ls : Array Slot) (cells slots : Nat), jm_Rp U V σ H → va_S (jm_A V) s.heap H locs → jm_LR (jm_ad V) (jm_rd V) ls L → L.length = jm_ml G y → cells + b ≤ jm_mc G y → slots + z ≤ jm_ms G y → W p l e R s m args below meth c H locs cells slots Q (F0 m (jm_ps U y pc) ls (st.map (jm_v V)))
def jm_sm (U : jm_U) (y i : Nat) (ins : Instr) (n : Nat) : Prop := decode (jm_bt U y) (jm_ps U y i) = .ok (ins, n) ∧ jm_ps U y (i + 1) = jm_ps U y i + n
section JMSTEP
variable {G : jm_G} {U : jm_U} {V : jm_V} {p : Program} {l : Launch} {e : Env} {R : Room} {s : State} {m : MethodId} {args : Array Value} {below : List Frame} {meth : Method} {c : Code} {Q : State → Prop} {y d pc : Nat} {L st : List Value} {σ : jm_S} {b z : Nat}
theorem jm_s_iconst (X : jm_Cx G U V p s m args meth c R y d) {n : Int} (h : jm_sm U y pc (.iconst n) 1) (k : jm_WS G U V p l e R s m args below meth c Q y (pc + 1) L (.int (Int32.ofInt n) :: st) σ b z) : jm_WS G U V p l e R s m args below meth c Q y pc L st σ b z := by
  intro H locs ls cells slots h1 h2 h3 h4 h5 h6
  refine lv_iconst X.1 X.2.1 h.1 rfl ?_
  rw [← h.2]
  exact k H locs ls cells slots h1 h2 h3 h4 h5 h6
theorem jm_s_bipush (X : jm_Cx G U V p s m args meth c R y d) {n : Int} (h : jm_sm U y pc (.bipush n) 2) (hv : (Int8.ofInt n).toInt32 = Int32.ofInt n) (k : jm_WS G U V p l e R s m args below meth c Q y (pc + 1) L (.int (Int32.ofInt n) :: st) σ b z) : jm_WS G U V p l e R s m args below meth c Q y pc L st σ b z := by
  intro H locs ls cells slots h1 h2 h3 h4 h5 h6
  refine lv_bipush X.1 X.2.1 h.1 hv ?_
  rw [← h.2]
  exact k H locs ls cells slots h1 h2 h3 h4 h5 h6
theorem jm_s_sipush (X : jm_Cx G U V p s m args meth c R y d) {n : Int} (h : jm_sm U y pc (.sipush n) 3) (hv : (Int16.ofInt n).toInt32 = Int32.ofInt n) (k : jm_WS G U V p l e R s m args below meth c Q y (pc + 1) L (.int (Int32.ofInt n) :: st) σ b z) : jm_WS G U V p l e R s m args below meth c Q y pc L st σ b z := by
  intro H locs ls cells slots h1 h2 h3 h4 h5 h6
  refine lv_sipush X.1 X.2.1 h.1 hv ?_
  rw [← h.2]
  exact k H locs ls cells slots h1 h2 h3 h4 h5 h6
theorem jm_s_ldc (X : jm_Cx G U V p s m args meth c R y d) {i : Nat} {v : Int32} (h : jm_sm U y pc (.ldc i) 2) (hc : Cond.constant (jm_nm U y).cls i v ∈ jm_tb U) (k : jm_WS G U V p l e R s m args below meth c Q y (pc + 1) L (.int v :: st) σ b z) : jm_WS G U V p l e R s m args below meth c Q y pc L st σ b z := by
  intro H locs ls cells slots h1 h2 h3 h4 h5 h6
  refine lv_ldc X.1 X.2.1 X.2.2.2.1 (X.2.2.2.2.1 _ hc) h.1 ?_
  rw [← h.2]
  exact k H locs ls cells slots h1 h2 h3 h4 h5 h6
theorem jm_s_ldcw (X : jm_Cx G U V p s m args meth c R y d) {i : Nat} {v : Int32} (h : jm_sm U y pc (.ldc_w i) 3) (hc : Cond.constant (jm_nm U y).cls i v ∈ jm_tb U) (k : jm_WS G U V p l e R s m args below meth c Q y (pc + 1) L (.int v :: st) σ b z) : jm_WS G U V p l e R s m args below meth c Q y pc L st σ b z := by
  intro H locs ls cells slots h1 h2 h3 h4 h5 h6
  refine lv_ldcw X.1 X.2.1 X.2.2.2.1 (X.2.2.2.2.1 _ hc) h.1 ?_
  rw [← h.2]
  exact k H locs ls cells slots h1 h2 h3 h4 h5 h6
theorem jm_s_null (X : jm_Cx G U V p s m args meth c R y d) (h : jm_sm U y pc .aconst_null 1) (k : jm_WS G U V p l e R s m args below meth c Q y (pc + 1) L (.null :: st) σ b z) : jm_WS G U V p l e R s m args below meth c Q y pc L st σ b z := by
  intro H locs ls cells slots h1 h2 h3 h4 h5 h6
  refine lv_null X.1 X.2.1 h.1 ?_
  rw [← h.2]
  exact k H locs ls cells slots h1 h2 h3 h4 h5 h6
theorem jm_s_iload (X : jm_Cx G U V p s m args meth c R y d) {i : Nat} {x : Int32} (h : jm_sm U y pc (.iload i) 2 ∨ ∃ f : Fin 4, f.val = i ∧ jm_sm U y pc (.iload_n f) 1) (hl : L[i]? = some (.int x)) (k : jm_WS G U V p l e R s m args below meth c Q y (pc + 1) L (.int x :: st) σ b z) : jm_WS G U V p l e R s m args below meth c Q y pc L st σ b z := by
  intro H locs ls cells slots h1 h2 h3 h4 h5 h6
  have h0 := h3.2.2 i _ hl rfl
  rcases h with h | ⟨f, hf, h⟩
  · refine lv_iload X.1 X.2.1 h.1 h0 ?_
    rw [← h.2]
    exact k H locs ls cells slots h1 h2 h3 h4 h5 h6
  · refine lv_iload_n X.1 X.2.1 h.1 hf h0 ?_
    rw [← h.2]
    exact k H locs ls cells slots h1 h2 h3 h4 h5 h6
theorem jm_s_aload (X : jm_Cx G U V p s m args meth c R y d) {i q : Nat} {w : Value} (h : jm_sm U y pc (.aload i) 2 ∨ ∃ f : Fin 4, f.val = i ∧ jm_sm U y pc (.aload_n f) 1) (hl : L[i]? = some w) (hw : w.category = 1) (hq : jm_v V w = .ref q) (k : jm_WS G U V p l e R s m args below meth c Q y (pc + 1) L (w :: st) σ b z) : jm_WS G U V p l e R s m args below meth c Q y pc L st σ b z := by
  intro H locs ls cells slots h1 h2 h3 h4 h5 h6
  have h0 := h3.2.2 i _ hl hw
  have h0 : ls[i]? = some (.val (.ref q)) := h0.trans (by rw [← hq])
  rcases h with h | ⟨f, hf, h⟩
  · refine lv_aload X.1 X.2.1 h.1 h0 ?_
    rw [← h.2, ← hq]
    exact k H locs ls cells slots h1 h2 h3 h4 h5 h6
  · refine lv_aload_n X.1 X.2.1 h.1 hf h0 ?_
    rw [← h.2, ← hq]
    exact k H locs ls cells slots h1 h2 h3 h4 h5 h6
theorem jm_s_istore (X : jm_Cx G U V p s m args meth c R y d) {i : Nat} {x : Int32} (h : jm_sm U y pc (.istore i) 2 ∨ ∃ f : Fin 4, f.val = i ∧ jm_sm U y pc (.istore_n f) 1) (hi : i < L.length) (k : jm_WS G U V p l e R s m args below meth c Q y (pc + 1) (L.set i (.int x)) st σ b z) : jm_WS G U V p l e R s m args below meth c Q y pc L (.int x :: st) σ b z := by
  intro H locs ls cells slots h1 h2 h3 h4 h5 h6
  rcases h with h | ⟨f, hf, h⟩
  · refine lv_istore (lv' := (i, jm_cv (jm_ad V) (jm_rd V) (.int x)) :: _) X.1 X.2.1 h.1 h3.has hi rfl (fun ls' hl' => ?_)
    rw [← h.2]
    exact k H locs ls' cells slots h1 h2 (jm_LR.store hi hl') (by rw [List.length_set]; exact h4) h5 h6
  · refine lv_istore_n (lv' := (i, jm_cv (jm_ad V) (jm_rd V) (.int x)) :: _) X.1 X.2.1 h.1 hf h3.has hi rfl (fun ls' hl' => ?_)
    rw [← h.2]
    exact k H locs ls' cells slots h1 h2 (jm_LR.store hi hl') (by rw [List.length_set]; exact h4) h5 h6
theorem jm_s_astore (X : jm_Cx G U V p s m args meth c R y d) {i o : Nat} (h : jm_sm U y pc (.astore i) 2 ∨ ∃ f : Fin 4, f.val = i ∧ jm_sm U y pc (.astore_n f) 1) (hi : i < L.length) (k : jm_WS G U V p l e R s m args below meth c Q y (pc + 1) (L.set i (.ref o)) st σ b z) : jm_WS G U V p l e R s m args below meth c Q y pc L (.ref o :: st) σ b z := by
  intro H locs ls cells slots h1 h2 h3 h4 h5 h6
  rcases h with h | ⟨f, hf, h⟩
  · refine lv_astore (lv' := (i, jm_cv (jm_ad V) (jm_rd V) (.ref o)) :: _) X.1 X.2.1 h.1 h3.has hi rfl (fun ls' hl' => ?_)
    rw [← h.2]
    exact k H locs ls' cells slots h1 h2 (jm_LR.store hi hl') (by rw [List.length_set]; exact h4) h5 h6
  · refine lv_astore_n (lv' := (i, jm_cv (jm_ad V) (jm_rd V) (.ref o)) :: _) X.1 X.2.1 h.1 hf h3.has hi rfl (fun ls' hl' => ?_)
    rw [← h.2]
    exact k H locs ls' cells slots h1 h2 (jm_LR.store hi hl') (by rw [List.length_set]; exact h4) h5 h6
theorem jm_s_iinc (X : jm_Cx G U V p s m args meth c R y d) {i : Nat} {n : Int} {x : Int32} (h : jm_sm U y pc (.iinc i n) 3) (hl : L[i]? = some (.int x)) (k : jm_WS G U V p l e R s m args below meth c Q y (pc + 1) (L.set i (.int (x + Int32.ofInt n))) st σ b z) : jm_WS G U V p l e R s m args below meth c Q y pc L st σ b z := by
  intro H locs ls cells slots h1 h2 h3 h4 h5 h6
  have hi : i < L.length := (List.getElem?_eq_some_iff.mp hl).1
  obtain ⟨j, hj⟩ := List.getElem?_of_mem (jm_ll_mem (ad := jm_ad V) (rd := jm_rd V) (q := (i, .int x)) |>.mpr ⟨.int x, hl, rfl, rfl⟩)
  refine lv_iinc (lv' := (i, jm_cv (jm_ad V) (jm_rd V) (.int (x + Int32.ofInt n))) :: _) (k := j) X.1 X.2.1 h.1 h3.has hj rfl hi rfl (fun ls' hl' => ?_)
  rw [← h.2]
  exact k H locs ls' cells slots h1 h2 (jm_LR.store hi hl') (by rw [List.length_set]; exact h4) h5 h6
end JMSTEP
