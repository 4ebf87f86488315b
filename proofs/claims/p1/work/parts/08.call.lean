/-! the small machine's steps, fourth part: answers and calls -/
def jm_Pre (G : jm_G) (U : jm_U) (V : jm_V) (σ : jm_S) (T : State) : Prop := jm_Rp U V σ T.heap ∧ jm_Kn G U V T
def jm_Q (U : jm_U) (V : jm_V) (post : jm_P) : Array Value → State → Outcome → State → Prop := fun _ st oc t => (∃ (r : Option Value) (σ' : jm_S), post r σ' ∧ oc = .returned (r.map (jm_v V)) ∧ jm_Rp U V σ' t.heap) ∧ va_F (jm_A V) st t
def jm_wy (G : jm_G) (U : jm_U) (y : Nat) : List Cond := .code (jm_nm U y) (jm_bt U y) (jm_ml G y) (jm_rt G y) :: jm_tb U
def jm_rm (G : jm_G) (y d : Nat) : Room := { frames := d, cells := jm_mc G y, slots := jm_ms G y, locals := 64 * d }
def jm_Met (l : Launch) (G : jm_G) (U : jm_U) (d y : Nat) (as : List Value) (σ : jm_S) (post : jm_P) : Prop := ∀ V : jm_V, (∀ k, jm_ad V (k + 1) = jm_ad V k + 1) → Met l (jm_nm U y) (jm_wy G U y) (jm_rm G y d) (va_Pc (as.map (jm_v V)) (jm_Pre G U V σ)) (jm_Q U V post) (jm_mc G y) (jm_ms G y) (jm_A V)
/-- what is known of every method, of the tables' words -/
def jm_mo (G : jm_G) (U : jm_U) (y : Nat) : Prop := Cond.code (jm_nm U y) (jm_bt U y) (jm_ml G y) (jm_rt G y) ∈ jm_tb U ∧ Cond.initialized (jm_nm U y).cls ∈ jm_tb U ∧ ((jm_nm U y).cls ≠ "java/lang/invoke/MethodHandle" ∧ (jm_nm U y).cls ≠ "java/lang/invoke/VarHandle" ∧ (parseMethodDescriptor (jm_nm U y).desc).map (fun d => d.parameters.length) = some (jm_ma G y)) ∧ jm_ml G y ≤ 45 ∧ plainName (jm_nm U y).cls = true
def jm_tg (U : jm_U) : Prop := ∀ w ∈ jm_tb U, goodWord w = true
def jm_ng (U : jm_U) : Prop := ∀ w ∈ jm_nw U, (∃ (a : String) (i : Nat) (b n d h : String), w = .fieldLinkNest a i b n d h) ∨ ∃ (a : String) (i : Nat) (x : MethodName) (h : String), w = .methodLinkNest a i x h
/-- a call's link -/
def jm_lk (U : jm_U) (y i y' : Nat) : Prop := Cond.methodLink (jm_nm U y).cls i (jm_nm U y') ∈ jm_tb U ∨ ∃ host : String, Cond.methodLinkNest (jm_nm U y).cls i (jm_nm U y') host ∈ jm_nw U
section JMCALL
variable {G : jm_G} {U : jm_U} {V : jm_V} {p : Program} {l : Launch} {e : Env} {R : Room} {s : State} {m : MethodId} {args : Array Value} {below : List Frame} {meth : Method} {c : Code} {Q : State → Prop} {y d pc : Nat} {L st : List Value} {σ : jm_S} {b z : Nat}
theorem jm_Kn.calling (hng : jm_ng U) {T : State} {g : JFrame} {mk : MethodId} {a : Array Value} (h : jm_Kn G U V T) : jm_Kn G U V (T.calling g mk a) := by
  obtain ⟨h1, h2, h3, h4, h5⟩ := h
  refine ⟨va_K.moved (u := T) (U := T.calling g mk a) (Vm.Alike.refl T.vm) h1, va_Z.moved (u := T) (U := T.calling g mk a) (Vm.Alike.refl T.vm) h2, fun j => va_T.moved (u := T) (U := T.calling g mk a) (Vm.Alike.refl T.vm) (h3 j), h4, fun w hw => ?_⟩
  rcases hng w hw with ⟨a, i, b, n, d, h, rfl⟩ | ⟨a, i, x, h, rfl⟩
  · exact va_Nw.same rfl (u := T) (U := T.calling g mk _) rfl (h5 _ hw)
  · exact va_Nw.same rfl (u := T) (U := T.calling g mk _) rfl (h5 _ hw)
theorem jm_Kn.later (hng : jm_ng U) {T : State} {H : Heap} {locs : List Loc} (h : jm_Kn G U V s) (hS : va_S (jm_A V) s.heap H locs) (hT : T.heap = H) (hW : s.WarmedH T.vm) : jm_Kn G U V T := by
  obtain ⟨h1, h2, h3, h4, h5⟩ := h
  have hk : ∀ a : Nat, a < s.heap.size → ¬ jm_A V a → T.heap[a]? = s.heap[a]? := fun a g1 g2 => by rw [hT]; exact hS.2.1 a g1 g2
  refine ⟨va_K.moved hW.alike h1, (va_Z.kept h2 hk).moved hW.alike, fun j => ((h3 j).kept hk).moved hW.alike, fun q hq => h4 q (Nat.le_trans hS.1 (by rw [← hT]; exact hq)), fun w hw => ?_⟩
  rcases hng w hw with ⟨a, i, b, n, d, h, rfl⟩ | ⟨a, i, x, h, rfl⟩
  · exact va_Nw.warmF hW (h5 _ hw)
  · exact va_Nw.warmM hW (h5 _ hw)
theorem jm_blind (hng : jm_ng U) {av : List Value} {σ : jm_S} : FrameBlind (va_Pc av (jm_Pre G U V σ)) := fun _ _ _ _ h => ⟨h.1, h.2.1, h.2.2.calling hng⟩
theorem jm_s_iret (X : jm_Cx G U V p s m args meth c R y d) {post : jm_P} {v : Int32} (h : decode (jm_bt U y) (jm_ps U y pc) = .ok (.ireturn, 1)) (hf : jm_fr (jm_rt G y) v) (hp : post (some (.int v)) σ) : jm_WS G U V p l e R s m args below meth c (MQ below (jm_Q U V post) args s (jm_mc G y) (jm_ms G y) (jm_A V)) y pc L [.int v] σ b z := by
  intro H locs ls cells slots h1 h2 h3 h4 h5 h6
  refine W.widen (k := jm_mc G y) (n := jm_ms G y) (by omega) (by omega) ?_
  have hr := X.2.2.2.2.2.1
  have hlocks : meth.locks = false := X.2.2.2.2.2.2.1
  have hq : ∀ t : State, t.heap = H → s.WarmedH t.vm → jm_Q U V post args s (.returned (some (.int v))) t := fun t ht hW => ⟨⟨some (.int v), σ, hp, rfl, by rw [ht]; exact h1⟩, h2.F ht⟩
  revert hf hr
  generalize jm_rt G y = rt
  intro hf hr
  match rt, hf, hr with
  | some .int, _, hr => exact W.iret X.1 X.2.1 hr hq h2.2.2 h
  | some .boolean, hf, hr => exact W.zret X.1 X.2.1 hr (by rcases hf with rfl | rfl <;> rfl) hq h2.2.2 h
theorem jm_s_vret (X : jm_Cx G U V p s m args meth c R y d) {post : jm_P} (h : decode (jm_bt U y) (jm_ps U y pc) = .ok (.return_, 1)) (hf : jm_rt G y = none) (hp : post none σ) : jm_WS G U V p l e R s m args below meth c (MQ below (jm_Q U V post) args s (jm_mc G y) (jm_ms G y) (jm_A V)) y pc L [] σ b z := by
  intro H locs ls cells slots h1 h2 h3 h4 h5 h6
  refine W.widen (k := jm_mc G y) (n := jm_ms G y) (by omega) (by omega) ?_
  have hr := X.2.2.2.2.2.1
  rw [hf] at hr
  have hlocks : meth.locks = false := X.2.2.2.2.2.2.1
  exact W.vret X.1 X.2.1 hr (fun t ht hW => ⟨⟨none, σ, hp, rfl, by rw [ht]; exact h1⟩, h2.F ht⟩) h2.2.2 h
theorem jm_sum {rest : List Value} (h : rest.length ≤ 4) : ((rest.map (jm_v V)).map fun v => v.category).sum ≤ 8 := by
  have key : ∀ l : List Value, (l.map fun v => v.category).sum ≤ 2 * l.length := by
    intro l
    induction l with
    | nil => exact Nat.le_refl _
    | cons v l ih =>
      simp only [List.map_cons, List.sum_cons, List.length_cons]
      rcases lv_cat v with h | h <;> omega
  have := key (rest.map (jm_v V))
  rw [List.length_map] at this
  omega
theorem jm_s_max (X : jm_Cx G U V p s m args meth c R y d) {i : Nat} {x v : Int32} (h : jm_sm U y pc (.invokestatic i) 3) (w1 : Cond.methodLink (jm_nm U y).cls i Lib.Math.max.name ∈ jm_tb U) (w2 : Cond.static Lib.Math.max.name ∈ jm_tb U) (w3 : Cond.initialized "java/lang/Math" ∈ jm_tb U) (w4 : Cond.code Lib.Math.max.name Lib.Math.max.code 2 (some .int) ∈ jm_tb U) (hl : st.length ≤ 4) (k : jm_WS G U V p l e R s m args below meth c Q y (pc + 1) L (.int (if x < v then v else x) :: st) σ b z) : jm_WS G U V p l e R s m args below meth c Q y pc L (.int v :: .int x :: st) σ b z := by
  intro H locs ls cells slots h1 h2 h3 h4 h5 h6
  have hts := X.2.2.2.2.1
  have hs := jm_sum (V := V) hl
  refine va_mmax X.1 X.2.1 (X.2.2.1.trans (h4.symm.trans h3.1.symm)) X.2.2.2.1 (hts _ w1) (hts _ w2) (hts _ w3) (hts _ w4) (by have := X.2.2.2.2.2.2.2.2.2.1; omega) (by have := X.2.2.2.2.2.2.2.2.2.2.2.2; omega) (by have := X.2.2.2.2.2.2.2.2.2.2.1; omega) (by have := X.2.2.2.2.2.2.2.2.2.2.2.1; omega) h.1 ?_
  rw [← h.2]
  exact k H locs ls cells slots h1 h2 h3 h4 h5 h6
theorem jm_s_copy (X : jm_Cx G U V p s m args meth c R y d) {i o0 o1 n0 n1 : Nat} {n dp sp : Int32} (h : jm_sm U y pc (.invokestatic i) 3) (w1 : Cond.methodLink (jm_nm U y).cls i arraycopyName ∈ jm_tb U) (w2 : Cond.native arraycopyName ∈ jm_tb U) (w3 : Cond.static arraycopyName ∈ jm_tb U) (w4 : Cond.initialized "java/lang/System" ∈ jm_tb U) (hl : st.length ≤ 4) (h0 : σ.2.1[o0]? = some (0, 0, n0)) (h01 : σ.2.1[o1]? = some (0, 0, n1)) (g1 : ¬ sp < 0) (g2 : ¬ dp < 0) (g3 : ¬ n < 0) (g4 : sp.toNatClampNeg + n.toNatClampNeg ≤ n0) (g5 : dp.toNatClampNeg + n.toNatClampNeg ≤ n1)
    (k : jm_WS G U V p l e R s m args below meth c Q y (pc + 1) L st (false, σ.2.1, σ.2.2.1, jm_row σ.2.2.2 o1 (va_cpy (σ.2.2.2 o0) (σ.2.2.2 o1) sp.toNatClampNeg dp.toNatClampNeg n.toNatClampNeg)) b z) : jm_WS G U V p l e R s m args below meth c Q y pc L (.int n :: .int dp :: .ref o1 :: .int sp :: .ref o0 :: st) σ b z := by
  intro H locs ls cells slots h1 h2 h3 h4 h5 h6
  have hts := X.2.2.2.2.1
  have hs := jm_sum (V := V) hl
  have he0 := jm_ws_at (cI := V.2.1) (cB := V.2.2.1) (cZ := V.2.2.2.1) (ad := jm_ad V) (rd := jm_rd V) h0
  rw [jm_E_i h0] at he0
  have he1 := jm_ws_at (cI := V.2.1) (cB := V.2.2.1) (cZ := V.2.2.2.1) (ad := jm_ad V) (rd := jm_rd V) h01
  rw [jm_E_i h01] at he1
  have hnf : ((st.map (jm_v V)).map fun v => v.category).sum + (nativeFrameWords "java/lang/System" "arraycopy" 5 + 11) ≤ R.locals := by
    have := X.2.2.2.2.2.2.2.2.2.2.2.2
    have : nativeFrameWords "java/lang/System" "arraycopy" 5 = 7 := by decide +kernel
    omega
  refine va_copyi (rest := st.map (jm_v V)) (D := jm_D V) (A := jm_A V) (ty := .int) X.1 X.2.1 (X.2.2.1.trans (h4.symm.trans h3.1.symm)) X.2.2.2.1 (hts _ w1) (hts _ w2) (hts _ w3) (hts _ w4) X.2.2.2.2.2.2.2.2.1.1 h1.1 h1.2.1 h2 o0 o1 0 0 he0 he1 rfl rfl rfl g1 g2 g3 g4 g5 (fun _ _ => rfl) (by have := X.2.2.2.2.2.2.2.2.2.1; omega) hnf h.1 (fun H1 locs1 hP hD hS => ?_)
  rw [jm_set_a h01 (by rw [jm_E_i (by exact h01)]; simp only [jm_row_self])] at hP hD
  rw [← h.2]
  exact k H1 locs1 ls cells slots ⟨hP, hD, fun q => by cases q⟩ hS h3 h4 h5 h6
theorem jm_s_obj (X : jm_Cx G U V p s m args meth c R y d) {i o : Nat} (h : jm_sm U y pc (.invokespecial i) 3) (w1 : Cond.methodLink (jm_nm U y).cls i Lib.objectInit ∈ jm_tb U) (w2 : Cond.instanceMethod Lib.objectInit ∈ jm_tb U) (w3 : Cond.code Lib.objectInit ⟨#[0xb1]⟩ 1 none ∈ jm_tb U) (hl : st.length ≤ 4) (k : jm_WS G U V p l e R s m args below meth c Q y (pc + 1) L st σ b z) : jm_WS G U V p l e R s m args below meth c Q y pc L (.ref o :: st) σ b z := by
  intro H locs ls cells slots h1 h2 h3 h4 h5 h6
  have hts := X.2.2.2.2.1
  have hs := jm_sum (V := V) hl
  refine W.objInit X.1 X.2.1 X.2.2.2.1 (hts _ w1) (hts _ w2) (hts _ w3) (g := F0 m (jm_ps U y pc) ls (.ref (jm_ad V o) :: st.map (jm_v V))) rfl (h3.1.trans (h4.trans X.2.2.1.symm)) rfl h.1 (by have := X.2.2.2.2.2.2.2.2.2.1; omega) (by have := X.2.2.2.2.2.2.2.2.2.2.2.2; show 2 * 0 + _ + 12 ≤ _; omega) ?_
  have := k H locs ls cells slots h1 h2 h3 h4 h5 h6
  rw [h.2] at this
  exact this
end JMCALL
