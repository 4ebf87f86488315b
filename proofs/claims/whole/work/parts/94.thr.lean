/-! the throws of the class's shrink and run -/
def xIA : String := "java/lang/IllegalArgumentException"
def xS : String := "java/lang/IllegalStateException"
def xN : List String := ["java/lang/RuntimeException", "java/lang/Exception"]
def tx_nw : List Cond := [.declares (Bundle.initS "java/lang/RuntimeException"), .declares (Bundle.initS "java/lang/Exception"), .declares (Bundle.initS Bundle.tN), .castable xIA xIA, .castable xS xS]
def tx_st : List (Nat × String) := [(197, "the budget is not 0 to 12"), (204, "no program, or no entry"), (239, "no such program"), (241, "no such entry"), (243, "the steps are not 1 to 20000")]
/-- what a throw wants of the machine -/
def tx_K (A : Nat → Prop) (T : State) : Prop := (∀ w ∈ tx_nw, va_Nw w T) ∧ (∀ q ∈ tx_st, ∃ sa, vk_R RX9 q.1 q.2 sa T) ∧ vx_Zq Bundle.tN "UNASSIGNED_STACK" Bundle.steD A T T.heap ∧ vx_Zq Bundle.tN "SUPPRESSED_SENTINEL" Bundle.listD A T T.heap ∧ va_Nc xS xIA T ∧ va_Nc xIA xS T
theorem tx_nwc {w : Cond} (h : w ∈ tx_nw) : (∃ x, w = .declares x) ∨ ∃ C D, w = .castable C D := by
  simp only [tx_nw, List.mem_cons, List.not_mem_nil, or_false] at h
  rcases h with rfl | rfl | rfl | rfl | rfl
  · exact Or.inl ⟨_, rfl⟩
  · exact Or.inl ⟨_, rfl⟩
  · exact Or.inl ⟨_, rfl⟩
  · exact Or.inr ⟨_, _, rfl⟩
  · exact Or.inr ⟨_, _, rfl⟩
theorem tx_K.calling {A : Nat → Prop} {T : State} {g : JFrame} {mk : MethodId} {a : Array Value} (h : tx_K A T) : tx_K A (T.calling g mk a) := by
  obtain ⟨h1, h2, h3, h4, h5, h6⟩ := h
  refine ⟨fun w hw => ?_, fun q hq => ?_, vx_Zq.moved (u := T) (U := T.calling g mk a) (Vm.Alike.refl T.vm) h3, vx_Zq.moved (u := T) (U := T.calling g mk a) (Vm.Alike.refl T.vm) h4, va_Nc.moved (u := T) (U := T.calling g mk a) (Vm.Alike.refl T.vm) h5, va_Nc.moved (u := T) (U := T.calling g mk a) (Vm.Alike.refl T.vm) h6⟩
  · rcases tx_nwc hw with ⟨x, rfl⟩ | ⟨C, D, rfl⟩
    · exact va_Nw.same rfl (u := T) (U := T.calling g mk _) rfl (h1 _ hw)
    · exact va_Nw.same rfl (u := T) (U := T.calling g mk _) rfl (h1 _ hw)
  · obtain ⟨sa, h⟩ := h2 q hq
    exact ⟨sa, vk_R.same (u := T) (U := T.calling g mk a) rfl h⟩
theorem tx_K.later {A : Nat → Prop} {s T : State} {H : Heap} {locs : List Loc} (h : tx_K A s) (hS : va_S A s.heap H locs) (hT : T.heap = H) (hW : s.WarmedH T.vm) : tx_K A T := by
  obtain ⟨h1, h2, h3, h4, h5, h6⟩ := h
  have hk : ∀ a : Nat, a < s.heap.size → ¬ A a → T.heap[a]? = s.heap[a]? := fun a g1 g2 => by rw [hT]; exact hS.2.1 a g1 g2
  refine ⟨fun w hw => ?_, fun q hq => ?_, (h3.kept hk).moved hW.alike, (h4.kept hk).moved hW.alike, h5.moved hW.alike, h6.moved hW.alike⟩
  · rcases tx_nwc hw with ⟨x, rfl⟩ | ⟨C, D, rfl⟩
    · exact va_Nw.warmD hW (h1 _ hw)
    · exact va_Nw.warmC hW (h1 _ hw)
  · obtain ⟨sa, h⟩ := h2 q hq
    exact ⟨sa, vk_R.warm hW h⟩
theorem tx_K.narrow {A B : Nat → Prop} {T : State} (h : tx_K A T) (hAB : ∀ q, B q → A q) : tx_K B T := ⟨h.1, h.2.1, h.2.2.1.narrow hAB, h.2.2.2.1.narrow hAB, h.2.2.2.2⟩
def tx_rm : Room := { frames := 20, cells := 1, slots := 6, locals := 1280 }
def tx_X (V : jm_V) (σ : jm_S) (E : String) : String → State → State → Prop := vx_X (fun _ : Unit => True) (fun E' _ t => E' = E ∧ jm_Rp jU V σ t.heap) (jm_A V)
def tx_P (V : jm_V) (as : List Value) (σ : jm_S) : Array Value → State → Prop := fun a T => va_Pc (as.map (jm_v V)) (jm_Pre jG jU V σ) a T ∧ tx_K (jm_A V) T
theorem tx_blind {V : jm_V} {as : List Value} {σ : jm_S} : FrameBlind (tx_P V as σ) := fun _ _ _ _ h => ⟨⟨h.1.1, h.1.2.1, h.1.2.2.calling js_ng⟩, h.2.calling⟩
theorem tx_Rp {V : jm_V} {σ : jm_S} {H H1 : Heap} (hal : σ.1 = false) (h : jm_Rp jU V σ H) (hk : ∀ q : Nat, q < H.size → H1[q]? = H[q]?) : jm_Rp jU V σ H1 := ⟨va_P.kept h.1 (fun k x hx => hk _ (vx_lt h.1 hx)), h.2.1, fun q => by rw [hal] at q; cases q⟩
def xqA : List Nat := [13, 733, 742, 745, 748, 750, 734, 735, 34, 35, 736, 741, 746, 981, 723, 982, 725, 983, 727, 737, 739, 729, 977, 978, 980, 729, 968, 969, 970, 971, 715, 971, 972, 973, 974, 717, 974, 975, 976, 977, 719, 1193, 712, 713, 720, 721, 722, 724, 726, 728, 732, 731, 730]
set_option maxRecDepth 100000 in
theorem xzA : (vx_atS RX9 199 xIA xN).length = xqA.length ∧ ((vx_atS RX9 199 xIA xN).zip xqA).all (fun x => decide (tables_1[x.2]? = some x.1)) = true := by decide +kernel
theorem xgA : (vx_atS RX9 199 xIA xN).all (fun w => goodWord w || decide (w ∈ tx_nw)) = true := by decide +kernel
theorem xoA : (Cond.classLink RX9 195 xIA :: Cond.initialized xIA :: vx_atS RX9 199 xIA xN).all vx_ot = true := by decide +kernel
theorem tx_hatA {args : Array Value} {s : State} {A : Nat → Prop} (htb : ∀ w ∈ jt_tb, w.before args s = true) (hK : tx_K A s) : ∀ w ∈ vx_atS RX9 199 xIA xN, w.before args s = true := by
  intro w hw
  have h1 := List.all_eq_true.mp xgA w hw
  simp only [Bool.or_eq_true, decide_eq_true_eq] at h1
  rcases h1 with g | g
  · obtain ⟨p, hp⟩ := jt_zip _ _ xzA.1 w hw
    have h2 := of_decide_eq_true (List.all_eq_true.mp xzA.2 _ hp)
    exact htb w (List.mem_filter.mpr ⟨List.mem_append_right _ (List.mem_of_getElem? h2), g⟩)
  · have := hK.1 w g
    rcases tx_nwc g with ⟨x, rfl⟩ | ⟨C, D, rfl⟩
    · exact va_Nw.use rfl this
    · exact va_Nw.use rfl this
theorem tx_metA {l : Launch} (hl : l.stackTraces = false) {y pc0 P is : Nat} {txt : String} {as : List Value} {σ : jm_S} (hy : y < 250) (hc : (jm_nm jU y).cls = RX9) (hlen : as.length ≤ jm_ml jG y) (hcat : ∀ v ∈ as, v.category = 1) (hm : jm_mc jG y = 0 ∧ jm_ms jG y = 0) (hal : σ.1 = false) (hst : (is, txt) ∈ tx_st) (hP : jm_ps jU y pc0 = P)
    (d0 : decode (jm_bt jU y) P = .ok (.new 195, 3)) (d3 : decode (jm_bt jU y) (P + 3) = .ok (.dup, 1)) (d4 : decode (jm_bt jU y) (P + 4) = .ok (.ldc is, 2)) (d6 : decode (jm_bt jU y) (P + 6) = .ok (.invokespecial 199, 3)) (d9 : decode (jm_bt jU y) (P + 9) = .ok (.athrow, 1))
    (hrun : ∀ X : jm_K, (∀ pc L st σ b z, jm_stp jG (fun _ _ _ _ => False) (jm_co jG y) (jm_rt jG y) X (fun _ _ => False) pc L st σ b z → X pc L st σ b z) → (∀ L : List Value, X pc0 L [] σ 0 0) → X 0 (jm_in0 (jm_ml jG y) as) [] σ 0 0)
    (V : jm_V) (had : ∀ k, jm_ad V (k + 1) = jm_ad V k + 1) (Qc : Array Value → State → Outcome → State → Prop) : vx_Met l (jm_nm jU y) (jm_wy jG jU y) tx_rm (tx_P V as σ) Qc (tx_X V σ xIA) 1 6 (jm_A V) := by
  have hm' := js_mo y hy
  refine vx_ofW (cc := jm_bt jU y) (maxL := jm_ml jG y) (ret := jm_rt jG y) hm'.2.2.2.2 rfl ?_
  intro p e s m args below meth c s₁ B hml htab hv
  obtain ⟨⟨rfl, hRp, hKn⟩, hK⟩ := hv
  have hts := atoms_spec (ws := jm_wy jG jU y) B.pre
  have htb : ∀ w ∈ jt_tb, w.before (as.map (jm_v V)).toArray s = true := fun w hw => hts w (List.mem_cons_of_mem _ hw)
  have X : jm_Cx jG jU V p s m (as.map (jm_v V)).toArray meth c (headSpec (jm_wy jG jU y) tx_rm).room y 19 := ⟨B.exec, B.bytes, hml, findClass_of_methodNamed B.named, htb, B.returns, B.notSynchronized, (name_of_methodNamed B.named B.method).1, hKn, Nat.le_refl _, by rw [hm.1]; exact Nat.zero_le _, by rw [hm.2]; exact Nat.zero_le _, Nat.le_refl _⟩
  have hW := hrun (jm_WS jG jU V p l e (headSpec (jm_wy jG jU y) tx_rm).room s m (as.map (jm_v V)).toArray below meth c (vx_MQ below Qc (tx_X V σ xIA) (as.map (jm_v V)).toArray s 1 6 (jm_A V)) y) (fun pc L st σ b z h => by
      simp only [jm_stp] at h
      split at h
      · rename_i ins hi
        exact jm_one X js_so js_tg js_ng js_mo had (fun y' as' σ' post' hy' h' => h'.elim) (Or.inl (fun _ _ q => q)) (fun _ _ _ _ _ _ q => q) ins (js_ok y hy _ _ hi) h
      · exact h.elim) (fun L H locs ls cells slots h1 h2 h3 h4 h5 h6 => by
    rw [hm.1] at h5
    rw [hm.2] at h6
    rw [hP]
    obtain ⟨sa, hstr⟩ := hK.2.1 _ hst
    refine vx_throwS (own := RX9) (cls := xIA) (text := txt) (names := xN) (ik := 195) (is := is) (ic := 199) (mc := 1) (ms := 6) (sa := sa) (A := jm_A V) X.1 X.2.1 hl (by rw [← hc]; exact X.2.2.2.1) (by decide) (by decide) (htb _ (List.mem_filter.mpr ⟨List.mem_append_right _ (List.mem_of_getElem? (i := 1191) (by decide +kernel)), rfl⟩)) (htb _ (List.mem_filter.mpr ⟨List.mem_append_right _ (List.mem_of_getElem? (i := 16) (by decide +kernel)), rfl⟩)) hstr (tx_hatA htb hK) (List.all_eq_true.mp xoA) hK.2.2.1 hK.2.2.2.1 h2 (h3.1.trans (h4.trans hml.symm)) d0 d3 d4 d6 d9 (fun x hx => (htab x hx).elim) (by show 2 + 3 < 20; omega) (by show 0 + (13 * (2 + 1) + 43) ≤ 1280; omega) (by show cells + 1 ≤ 1; omega) (by show slots + 6 ≤ 6; omega) B.notSynchronized (fun t hA hz hk => ?_) h2.2.2 (by omega) (by omega)
    exact ⟨(), trivial, ⟨rfl, tx_Rp hal h1 hk⟩, Nat.le_trans h2.1 hz, fun q g1 g2 => (hk q (Nat.lt_of_lt_of_le g1 h2.1)).trans (h2.2.1 q g1 g2)⟩)
  have := hW s.heap [] _ 0 0 hRp va_S.rf (jm_LR.entry as hlen hcat) (by simp [jm_in0]; omega) (by omega) (by omega)
  rw [js_h0 y hy] at this
  rw [lg_entry_eq]
  exact this
def xqS : List Nat := [13, 733, 742, 745, 748, 750, 734, 735, 34, 35, 736, 741, 746, 981, 723, 982, 725, 983, 727, 737, 739, 729, 977, 978, 980, 729, 1205, 1206, 1207, 971, 715, 971, 972, 973, 974, 717, 974, 975, 976, 977, 719, 1204, 1195, 1196, 1197, 744, 1198, 1199, 1200, 1201, 732, 731, 1202]
set_option maxRecDepth 100000 in
theorem xzS : (vx_atS RX9 206 xS xN).length = xqS.length ∧ ((vx_atS RX9 206 xS xN).zip xqS).all (fun x => decide (tables_1[x.2]? = some x.1)) = true := by decide +kernel
theorem xgS : (vx_atS RX9 206 xS xN).all (fun w => goodWord w || decide (w ∈ tx_nw)) = true := by decide +kernel
theorem xoS : (Cond.classLink RX9 202 xS :: Cond.initialized xS :: vx_atS RX9 206 xS xN).all vx_ot = true := by decide +kernel
theorem tx_hatS {args : Array Value} {s : State} {A : Nat → Prop} (htb : ∀ w ∈ jt_tb, w.before args s = true) (hK : tx_K A s) : ∀ w ∈ vx_atS RX9 206 xS xN, w.before args s = true := by
  intro w hw
  have h1 := List.all_eq_true.mp xgS w hw
  simp only [Bool.or_eq_true, decide_eq_true_eq] at h1
  rcases h1 with g | g
  · obtain ⟨p, hp⟩ := jt_zip _ _ xzS.1 w hw
    have h2 := of_decide_eq_true (List.all_eq_true.mp xzS.2 _ hp)
    exact htb w (List.mem_filter.mpr ⟨List.mem_append_right _ (List.mem_of_getElem? h2), g⟩)
  · have := hK.1 w g
    rcases tx_nwc g with ⟨x, rfl⟩ | ⟨C, D, rfl⟩
    · exact va_Nw.use rfl this
    · exact va_Nw.use rfl this
theorem tx_metS {l : Launch} (hl : l.stackTraces = false) {y pc0 P is : Nat} {txt : String} {as : List Value} {σ : jm_S} (hy : y < 250) (hc : (jm_nm jU y).cls = RX9) (hlen : as.length ≤ jm_ml jG y) (hcat : ∀ v ∈ as, v.category = 1) (hm : jm_mc jG y = 0 ∧ jm_ms jG y = 0) (hal : σ.1 = false) (hst : (is, txt) ∈ tx_st) (hP : jm_ps jU y pc0 = P)
    (d0 : decode (jm_bt jU y) P = .ok (.new 202, 3)) (d3 : decode (jm_bt jU y) (P + 3) = .ok (.dup, 1)) (d4 : decode (jm_bt jU y) (P + 4) = .ok (.ldc is, 2)) (d6 : decode (jm_bt jU y) (P + 6) = .ok (.invokespecial 206, 3)) (d9 : decode (jm_bt jU y) (P + 9) = .ok (.athrow, 1))
    (hrun : ∀ X : jm_K, (∀ pc L st σ b z, jm_stp jG (fun _ _ _ _ => False) (jm_co jG y) (jm_rt jG y) X (fun _ _ => False) pc L st σ b z → X pc L st σ b z) → (∀ L : List Value, X pc0 L [] σ 0 0) → X 0 (jm_in0 (jm_ml jG y) as) [] σ 0 0)
    (V : jm_V) (had : ∀ k, jm_ad V (k + 1) = jm_ad V k + 1) (Qc : Array Value → State → Outcome → State → Prop) : vx_Met l (jm_nm jU y) (jm_wy jG jU y) tx_rm (tx_P V as σ) Qc (tx_X V σ xS) 1 6 (jm_A V) := by
  have hm' := js_mo y hy
  refine vx_ofW (cc := jm_bt jU y) (maxL := jm_ml jG y) (ret := jm_rt jG y) hm'.2.2.2.2 rfl ?_
  intro p e s m args below meth c s₁ B hml htab hv
  obtain ⟨⟨rfl, hRp, hKn⟩, hK⟩ := hv
  have hts := atoms_spec (ws := jm_wy jG jU y) B.pre
  have htb : ∀ w ∈ jt_tb, w.before (as.map (jm_v V)).toArray s = true := fun w hw => hts w (List.mem_cons_of_mem _ hw)
  have X : jm_Cx jG jU V p s m (as.map (jm_v V)).toArray meth c (headSpec (jm_wy jG jU y) tx_rm).room y 19 := ⟨B.exec, B.bytes, hml, findClass_of_methodNamed B.named, htb, B.returns, B.notSynchronized, (name_of_methodNamed B.named B.method).1, hKn, Nat.le_refl _, by rw [hm.1]; exact Nat.zero_le _, by rw [hm.2]; exact Nat.zero_le _, Nat.le_refl _⟩
  have hW := hrun (jm_WS jG jU V p l e (headSpec (jm_wy jG jU y) tx_rm).room s m (as.map (jm_v V)).toArray below meth c (vx_MQ below Qc (tx_X V σ xS) (as.map (jm_v V)).toArray s 1 6 (jm_A V)) y) (fun pc L st σ b z h => by
      simp only [jm_stp] at h
      split at h
      · rename_i ins hi
        exact jm_one X js_so js_tg js_ng js_mo had (fun y' as' σ' post' hy' h' => h'.elim) (Or.inl (fun _ _ q => q)) (fun _ _ _ _ _ _ q => q) ins (js_ok y hy _ _ hi) h
      · exact h.elim) (fun L H locs ls cells slots h1 h2 h3 h4 h5 h6 => by
    rw [hm.1] at h5
    rw [hm.2] at h6
    rw [hP]
    obtain ⟨sa, hstr⟩ := hK.2.1 _ hst
    refine vx_throwS (own := RX9) (cls := xS) (text := txt) (names := xN) (ik := 202) (is := is) (ic := 206) (mc := 1) (ms := 6) (sa := sa) (A := jm_A V) X.1 X.2.1 hl (by rw [← hc]; exact X.2.2.2.1) (by decide) (by decide) (htb _ (List.mem_filter.mpr ⟨List.mem_append_right _ (List.mem_of_getElem? (i := 1194) (by decide +kernel)), rfl⟩)) (htb _ (List.mem_filter.mpr ⟨List.mem_append_right _ (List.mem_of_getElem? (i := 27) (by decide +kernel)), rfl⟩)) hstr (tx_hatS htb hK) (List.all_eq_true.mp xoS) hK.2.2.1 hK.2.2.2.1 h2 (h3.1.trans (h4.trans hml.symm)) d0 d3 d4 d6 d9 (fun x hx => (htab x hx).elim) (by show 2 + 3 < 20; omega) (by show 0 + (13 * (2 + 1) + 43) ≤ 1280; omega) (by show cells + 1 ≤ 1; omega) (by show slots + 6 ≤ 6; omega) B.notSynchronized (fun t hA hz hk => ?_) h2.2.2 (by omega) (by omega)
    exact ⟨(), trivial, ⟨rfl, tx_Rp hal h1 hk⟩, Nat.le_trans h2.1 hz, fun q g1 g2 => (hk q (Nat.lt_of_lt_of_le g1 h2.1)).trans (h2.2.1 q g1 g2)⟩)
  have := hW s.heap [] _ 0 0 hRp va_S.rf (jm_LR.entry as hlen hcat) (by simp [jm_in0]; omega) (by omega) (by omega)
  rw [js_h0 y hy] at this
  rw [lg_entry_eq]
  exact this
section TXRUN
variable {X : jm_K} {σ : jm_S} {C : Nat → List Value → jm_S → jm_P → Prop} {post : jm_P}
set_option maxRecDepth 100000 in
theorem tx_r5 {a : Int32} (h : a < 0 ∨ ¬ a ≤ 12) (hX : ∀ pc L st σ b z, jm_stp jG C (jm_co jG 140) (jm_rt jG 140) X post pc L st σ b z → X pc L st σ b z) (hE : ∀ L : List Value, X 5 L [] σ 0 0) : X 0 [.ref 0, .int a] [] σ 0 0 := by
  refine hX 0 _ _ _ _ _ ?_
  show X 1 [.ref 0, .int a] [.int a] σ 0 0
  refine hX 1 _ _ _ _ _ ?_
  show (a < 0 → X 5 [.ref 0, .int a] [] σ 0 0) ∧ (¬ a < 0 → X 2 [.ref 0, .int a] [] σ 0 0)
  refine ⟨fun _ => hE _, fun h1 => ?_⟩
  refine hX 2 _ _ _ _ _ ?_
  show X 3 [.ref 0, .int a] [.int a] σ 0 0
  refine hX 3 _ _ _ _ _ ?_
  show X 4 [.ref 0, .int a] [.int 12, .int a] σ 0 0
  refine hX 4 _ _ _ _ _ ?_
  show (a ≤ 12 → X 10 [.ref 0, .int a] [] σ 0 0) ∧ (¬ a ≤ 12 → X 5 [.ref 0, .int a] [] σ 0 0)
  refine ⟨fun h2 => ?_, fun _ => hE _⟩
  rcases h with h | h
  · exact absurd h h1
  · exact absurd h2 h
set_option maxRecDepth 100000 in
theorem tx_r16 {a g n : Int32} (h0 : ¬ a < 0) (h12 : a ≤ 12) (ho : σ.2.1[0]? = some (3, 9, 16)) (hg : σ.2.2.1 0 5 = .int g) (hn : σ.2.2.1 0 9 = .int n) (h : g = 0 ∨ n = 0) (hX : ∀ pc L st σ b z, jm_stp jG C (jm_co jG 140) (jm_rt jG 140) X post pc L st σ b z → X pc L st σ b z) (hE : ∀ L : List Value, X 16 L [] σ 0 0) : X 0 [.ref 0, .int a] [] σ 0 0 := by
  refine hX 0 _ _ _ _ _ ?_
  show X 1 [.ref 0, .int a] [.int a] σ 0 0
  refine hX 1 _ _ _ _ _ ?_
  show (a < 0 → X 5 [.ref 0, .int a] [] σ 0 0) ∧ (¬ a < 0 → X 2 [.ref 0, .int a] [] σ 0 0)
  refine ⟨fun h1 => absurd h1 h0, fun _ => ?_⟩
  refine hX 2 _ _ _ _ _ ?_
  show X 3 [.ref 0, .int a] [.int a] σ 0 0
  refine hX 3 _ _ _ _ _ ?_
  show X 4 [.ref 0, .int a] [.int 12, .int a] σ 0 0
  refine hX 4 _ _ _ _ _ ?_
  show (a ≤ 12 → X 10 [.ref 0, .int a] [] σ 0 0) ∧ (¬ a ≤ 12 → X 5 [.ref 0, .int a] [] σ 0 0)
  refine ⟨fun _ => ?_, fun h1 => absurd h12 h1⟩
  refine hX 10 _ _ _ _ _ ?_
  show X 11 [.ref 0, .int a] [.ref 0] σ 0 0
  refine hX 11 _ _ _ _ _ ?_
  refine ⟨ho, ?_⟩
  show X 12 [.ref 0, .int a] [σ.2.2.1 0 5] σ 0 0
  rw [hg]
  refine hX 12 _ _ _ _ _ ?_
  show (g = 0 → X 16 [.ref 0, .int a] [] σ 0 0) ∧ (¬ g = 0 → X 13 [.ref 0, .int a] [] σ 0 0)
  refine ⟨fun _ => hE _, fun h1 => ?_⟩
  refine hX 13 _ _ _ _ _ ?_
  show X 14 [.ref 0, .int a] [.ref 0] σ 0 0
  refine hX 14 _ _ _ _ _ ?_
  refine ⟨ho, ?_⟩
  show X 15 [.ref 0, .int a] [σ.2.2.1 0 9] σ 0 0
  rw [hn]
  refine hX 15 _ _ _ _ _ ?_
  show (¬ n = 0 → X 21 [.ref 0, .int a] [] σ 0 0) ∧ (¬ ¬ n = 0 → X 16 [.ref 0, .int a] [] σ 0 0)
  refine ⟨fun h2 => ?_, fun _ => hE _⟩
  rcases h with h | h
  · exact absurd h h1
  · exact absurd h h2
/-- run: no such program -/
abbrev tx_L (b e k : Int32) (u : Value) : List Value := [.ref 0, .int b, .int e, .int k, u, u]
set_option maxRecDepth 100000 in
theorem tx_r9 {b e k g h : Int32} {u : Value} (ho : σ.2.1[0]? = some (3, 9, 16)) (hg : σ.2.2.1 0 5 = .int g) (hh : σ.2.2.1 0 6 = .int h) (hb : (b = 0 → g = 0) ∧ (¬ b = 0 → h = 0)) (hX : ∀ pc L st σ b z, jm_stp jG C (jm_co jG 145) (jm_rt jG 145) X post pc L st σ b z → X pc L st σ b z) (hE : ∀ L : List Value, X 9 L [] σ 0 0) : X 0 (tx_L b e k u) [] σ 0 0 := by
  refine hX 0 _ _ _ _ _ ?_
  show X 1 (tx_L b e k u) [.int b] σ 0 0
  refine hX 1 _ _ _ _ _ ?_
  show (b = 0 → X 6 (tx_L b e k u) [] σ 0 0) ∧ (¬ b = 0 → X 2 (tx_L b e k u) [] σ 0 0)
  refine ⟨fun h1 => ?_, fun h1 => ?_⟩
  · refine hX 6 _ _ _ _ _ ?_
    show X 7 (tx_L b e k u) [.ref 0] σ 0 0
    refine hX 7 _ _ _ _ _ ?_
    refine ⟨ho, ?_⟩
    show X 8 (tx_L b e k u) [σ.2.2.1 0 5] σ 0 0
    rw [hg]
    refine hX 8 _ _ _ _ _ ?_
    show (¬ g = 0 → X 14 (tx_L b e k u) [] σ 0 0) ∧ (¬ ¬ g = 0 → X 9 (tx_L b e k u) [] σ 0 0)
    exact ⟨fun h2 => absurd (hb.1 h1) h2, fun _ => hE _⟩
  · refine hX 2 _ _ _ _ _ ?_
    show X 3 (tx_L b e k u) [.ref 0] σ 0 0
    refine hX 3 _ _ _ _ _ ?_
    refine ⟨ho, ?_⟩
    show X 4 (tx_L b e k u) [σ.2.2.1 0 6] σ 0 0
    rw [hh]
    refine hX 4 _ _ _ _ _ ?_
    show (h = 0 → X 9 (tx_L b e k u) [] σ 0 0) ∧ (¬ h = 0 → X 5 (tx_L b e k u) [] σ 0 0)
    exact ⟨fun _ => hE _, fun h2 => absurd (hb.2 h1) h2⟩
set_option maxRecDepth 100000 in
theorem tx_r14 {b e k g h : Int32} {u : Value} (ho : σ.2.1[0]? = some (3, 9, 16)) (hg : σ.2.2.1 0 5 = .int g) (hh : σ.2.2.1 0 6 = .int h) (hb : (b = 0 → ¬ g = 0) ∧ (¬ b = 0 → ¬ h = 0)) (hX : ∀ pc L st σ b z, jm_stp jG C (jm_co jG 145) (jm_rt jG 145) X post pc L st σ b z → X pc L st σ b z) (hE : X 14 (tx_L b e k u) [] σ 0 0) : X 0 (tx_L b e k u) [] σ 0 0 := by
  refine hX 0 _ _ _ _ _ ?_
  show X 1 (tx_L b e k u) [.int b] σ 0 0
  refine hX 1 _ _ _ _ _ ?_
  show (b = 0 → X 6 (tx_L b e k u) [] σ 0 0) ∧ (¬ b = 0 → X 2 (tx_L b e k u) [] σ 0 0)
  refine ⟨fun h1 => ?_, fun h1 => ?_⟩
  · refine hX 6 _ _ _ _ _ ?_
    show X 7 (tx_L b e k u) [.ref 0] σ 0 0
    refine hX 7 _ _ _ _ _ ?_
    refine ⟨ho, ?_⟩
    show X 8 (tx_L b e k u) [σ.2.2.1 0 5] σ 0 0
    rw [hg]
    refine hX 8 _ _ _ _ _ ?_
    show (¬ g = 0 → X 14 (tx_L b e k u) [] σ 0 0) ∧ (¬ ¬ g = 0 → X 9 (tx_L b e k u) [] σ 0 0)
    exact ⟨fun _ => hE, fun h2 => absurd (hb.1 h1) h2⟩
  · refine hX 2 _ _ _ _ _ ?_
    show X 3 (tx_L b e k u) [.ref 0] σ 0 0
    refine hX 3 _ _ _ _ _ ?_
    refine ⟨ho, ?_⟩
    show X 4 (tx_L b e k u) [σ.2.2.1 0 6] σ 0 0
    rw [hh]
    refine hX 4 _ _ _ _ _ ?_
    show (h = 0 → X 9 (tx_L b e k u) [] σ 0 0) ∧ (¬ h = 0 → X 5 (tx_L b e k u) [] σ 0 0)
    refine ⟨fun h2 => absurd h2 (hb.2 h1), fun _ => ?_⟩
    exact hX 5 _ _ _ _ _ hE
set_option maxRecDepth 100000 in
theorem tx_r20 {b e k n : Int32} {u : Value} (ho : σ.2.1[0]? = some (3, 9, 16)) (hn : σ.2.2.1 0 9 = .int n) (he : e < 0 ∨ ¬ e < n) (hX : ∀ pc L st σ b z, jm_stp jG C (jm_co jG 145) (jm_rt jG 145) X post pc L st σ b z → X pc L st σ b z) (hE : ∀ L : List Value, X 20 L [] σ 0 0) : X 14 (tx_L b e k u) [] σ 0 0 := by
  refine hX 14 _ _ _ _ _ ?_
  show X 15 (tx_L b e k u) [.int e] σ 0 0
  refine hX 15 _ _ _ _ _ ?_
  show (e < 0 → X 20 (tx_L b e k u) [] σ 0 0) ∧ (¬ e < 0 → X 16 (tx_L b e k u) [] σ 0 0)
  refine ⟨fun _ => hE _, fun h1 => ?_⟩
  refine hX 16 _ _ _ _ _ ?_
  show X 17 (tx_L b e k u) [.int e] σ 0 0
  refine hX 17 _ _ _ _ _ ?_
  show X 18 (tx_L b e k u) [.ref 0, .int e] σ 0 0
  refine hX 18 _ _ _ _ _ ?_
  refine ⟨ho, ?_⟩
  show X 19 (tx_L b e k u) [σ.2.2.1 0 9, .int e] σ 0 0
  rw [hn]
  refine hX 19 _ _ _ _ _ ?_
  show (e < n → X 25 (tx_L b e k u) [] σ 0 0) ∧ (¬ e < n → X 20 (tx_L b e k u) [] σ 0 0)
  refine ⟨fun h2 => ?_, fun _ => hE _⟩
  rcases he with h | h
  · exact absurd h h1
  · exact absurd h2 h
set_option maxRecDepth 100000 in
theorem tx_r31 {b e k n : Int32} {u : Value} (ho : σ.2.1[0]? = some (3, 9, 16)) (hn : σ.2.2.1 0 9 = .int n) (h0 : ¬ e < 0) (he : e < n) (hk : k < 1 ∨ ¬ k ≤ 20000) (hX : ∀ pc L st σ b z, jm_stp jG C (jm_co jG 145) (jm_rt jG 145) X post pc L st σ b z → X pc L st σ b z) (hE : ∀ L : List Value, X 31 L [] σ 0 0) : X 14 (tx_L b e k u) [] σ 0 0 := by
  refine hX 14 _ _ _ _ _ ?_
  show X 15 (tx_L b e k u) [.int e] σ 0 0
  refine hX 15 _ _ _ _ _ ?_
  show (e < 0 → X 20 (tx_L b e k u) [] σ 0 0) ∧ (¬ e < 0 → X 16 (tx_L b e k u) [] σ 0 0)
  refine ⟨fun h1 => absurd h1 h0, fun h1 => ?_⟩
  refine hX 16 _ _ _ _ _ ?_
  show X 17 (tx_L b e k u) [.int e] σ 0 0
  refine hX 17 _ _ _ _ _ ?_
  show X 18 (tx_L b e k u) [.ref 0, .int e] σ 0 0
  refine hX 18 _ _ _ _ _ ?_
  refine ⟨ho, ?_⟩
  show X 19 (tx_L b e k u) [σ.2.2.1 0 9, .int e] σ 0 0
  rw [hn]
  refine hX 19 _ _ _ _ _ ?_
  show (e < n → X 25 (tx_L b e k u) [] σ 0 0) ∧ (¬ e < n → X 20 (tx_L b e k u) [] σ 0 0)
  refine ⟨fun h2 => ?_, fun h2 => absurd he h2⟩
  refine hX 25 _ _ _ _ _ ?_
  show X 26 (tx_L b e k u) [.int k] σ 0 0
  refine hX 26 _ _ _ _ _ ?_
  show X 27 (tx_L b e k u) [.int 1, .int k] σ 0 0
  refine hX 27 _ _ _ _ _ ?_
  show (k < 1 → X 31 (tx_L b e k u) [] σ 0 0) ∧ (¬ k < 1 → X 28 (tx_L b e k u) [] σ 0 0)
  refine ⟨fun _ => hE _, fun h3 => ?_⟩
  refine hX 28 _ _ _ _ _ ?_
  show X 29 (tx_L b e k u) [.int k] σ 0 0
  refine hX 29 _ _ _ _ _ ?_
  show X 30 (tx_L b e k u) [.int 20000, .int k] σ 0 0
  refine hX 30 _ _ _ _ _ ?_
  show (k ≤ 20000 → X 36 (tx_L b e k u) [] σ 0 0) ∧ (¬ k ≤ 20000 → X 31 (tx_L b e k u) [] σ 0 0)
  refine ⟨fun h4 => ?_, fun _ => hE _⟩
  rcases hk with h | h
  · exact absurd h h3
  · exact absurd h4 h
end TXRUN
set_option maxRecDepth 100000 in
theorem lw_tx {args : Array Value} {s : State} (hts : ∀ w ∈ lw_tbl, w.before args s = true) (hgv : (Jvm.Cond.and given_1 narrow_1).before args s = true) : tx_K (fun q : Nat => s.heap.size ≤ q) s := by
  have hs := flat_of_before _ hgv
  have hA : ∀ a : Nat, a < s.heap.size → ¬ (fun q : Nat => s.heap.size ≤ q) a := fun a h => Nat.not_le.mpr h
  have ht : ∀ (w : Cond) (i : Nat), tables_1[i]? = some w → w.before args s = true := fun w i h => hts w (List.mem_append_right _ (List.mem_of_getElem? h))
  have str : ∀ (k i : Nat) (tx : String), tables_1[i]? = some (.stringRef RX9 k tx) → (Cond.exactly (.string RX9 k) "java/lang/String").before args s = true → ∃ sa, vk_R RX9 k tx sa s := by
    intro k i tx h1 h2
    obtain ⟨a, c, cA, kA, q1, q2⟩ := Cond.exactly_spec (args := args) (first := s) (o := none) (s := s) (idx := []) (t := .string RX9 k) (cls := "java/lang/String") h2
    exact ⟨a, vk_R.of (ht _ i h1) q1⟩
  refine ⟨fun w hw => ?_, fun q hq => ?_, vx_Zqof (ht _ 738 (by decide +kernel)) (ht _ 13 (by decide +kernel)) (hs (.isRef (.static Bundle.tN "UNASSIGNED_STACK" Bundle.steD)) (by decide +kernel)) hA, vx_Zqof (ht _ 740 (by decide +kernel)) (ht _ 13 (by decide +kernel)) (hs (.isRef (.static Bundle.tN "SUPPRESSED_SENTINEL" Bundle.listD)) (by decide +kernel)) hA, va_Nc.of (hs (.not (.castable xS xIA)) (by decide +kernel)), va_Nc.of (hs (.not (.castable xIA xS)) (by decide +kernel))⟩
  · simp only [tx_nw, List.mem_cons, List.not_mem_nil, or_false] at hw
    rcases hw with rfl | rfl | rfl | rfl | rfl
    · exact va_Nw.of rfl (ht _ 715 (by decide +kernel))
    · exact va_Nw.of rfl (ht _ 717 (by decide +kernel))
    · exact va_Nw.of rfl (ht _ 719 (by decide +kernel))
    · exact va_Nw.of rfl (ht _ 713 (by decide +kernel))
    · exact va_Nw.of rfl (ht _ 1196 (by decide +kernel))
  · simp only [tx_st, List.mem_cons, List.not_mem_nil, or_false] at hq
    rcases hq with rfl | rfl | rfl | rfl | rfl
    · exact str _ 1192 _ (by decide +kernel) (hs _ (by decide +kernel))
    · exact str _ 1203 _ (by decide +kernel) (hs _ (by decide +kernel))
    · exact str _ 1451 _ (by decide +kernel) (hs _ (by decide +kernel))
    · exact str _ 1452 _ (by decide +kernel) (hs _ (by decide +kernel))
    · exact str _ 1453 _ (by decide +kernel) (hs _ (by decide +kernel))
