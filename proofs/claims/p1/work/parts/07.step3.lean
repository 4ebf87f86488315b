/-! the small machine's steps, third part: new cells, jumps -/
section JMNEW
variable {p : Program} {l : Launch} {e : Env} {R : Room} {s : State} {m : MethodId} {args : Array Value} {below : List Frame} {meth : Method} {c : Code} {H : Heap} {locs : List Loc} {cells slots : Nat} {Q : State → Prop}
variable {cc : ByteArray} {pc : Nat} {ls : Array Slot} {rest : List Value} {D : va_G} {cl : List vw_C} {A : Nat → Prop} {a : Nat} {tys : List (ClassId × FieldType)} {ws : va_W} {H0 : Heap}
/-- as va_new, va_newa, with the heap's size -/
theorem jm_New {c0 : Code} (hexec : p.tables.exec = Jvm.exec) (hb : c0.code = cc) {own C : String} {T : u_T} {N ci index : Nat} {Ts : List Cond} (hts : ∀ w ∈ Ts, w.before args s = true) (hin : ∀ w ∈ u_ws C T N, w ∈ Ts) (ty : Nat → FieldType) (hty : ∀ k, k < N → parseFieldDescriptor (T k).2.2.1 = some (ty k)) (hown : s.vm.findClass own = some m.cls) (hcl : (Cond.classLink own index C).before args s = true) (hinst : (Cond.instantiable C N).before args s = true) (hini : (Cond.initialized C).before args s = true)
    (hK : va_K D cl tys s) (hP : va_P D cl ws H) (hD : va_D A ws) (hS : va_S A H0 H locs) (hA : ∀ q, H0.size ≤ q → A q) (hc : cl[ci]? = some (C, T, N)) {fs : List Value} (hfs : ∀ j, j < N → defaultValue (ty j) = vp_V fs j) (hcells : cells + 1 ≤ R.cells) (hslots : slots + N ≤ R.slots) (hdg : decode cc pc = .ok (.new index, 3))
    (kk : ∀ (H1 : Heap), H1.size = H.size + 1 → va_P D cl (ws ++ [(H.size, .inr (ci, fs))]) H1 → va_D A (ws ++ [(H.size, .inr (ci, fs))]) → va_S A H0 H1 locs →
      W p l e R s m args below meth c0 H1 locs (cells + 1) (slots + N) Q (F0 m (pc + 3) ls (.ref H.size :: rest))) : W p l e R s m args below meth c0 H locs cells slots Q (F0 m pc ls rest) := by
  have hKn := hK.1 ci _ hc
  refine W.newcK hexec hb hown hcl hinst hini rfl hdg hcells hslots hKn.2.1 rfl fun H1 kC hkC e1 z1 o1 => ?_
  have hk : ∀ (k : Nat) (x : Nat × va_E), ws[k]? = some x → H1[x.1]? = H[x.1]? := fun k x hx => o1 x.1 ((hP k x hx).lt)
  refine kk H1 z1 ((hP.kept hk).app (fun k x hx => ?_)) (hD.push hP rfl (hA _ hS.1)) ⟨Nat.le_trans hS.1 (by omega), fun x h1 h2 => (o1 x (Nat.lt_of_lt_of_le h1 hS.1)).trans (hS.2.1 x h1 h2), hS.2.2⟩
  have hz : k < 1 := (List.getElem?_eq_some_iff.mp hx).1
  rw [show k = 0 by omega] at hx
  cases hx
  exact ⟨_, hc, (u_born ty hts hin hKn hkC e1 hty).to hfs⟩
theorem jm_Newa (hexec : p.tables.exec = Jvm.exec) (hb : c.code = cc) {atype : ArrayType} (harr : (Cond.arrayClass (newarray.typeOf atype)).before args s = true) {ty : FieldType} (hty : newarray.typeOf atype = ty) {t0 : Nat} {cA : ClassId} (hp : ∀ C, ty ≠ .object C) (ht : tys[t0]? = some (cA, ty)) (hK : va_K D cl tys s) (hP : va_P D cl ws H) (hD : va_D A ws) (hS : va_S A H0 H locs) (hA : ∀ q, H0.size ≤ q → A q)
    {n : Int32} {N' : Nat} {a0 : vp_A} (ha : ∀ cA : ClassId, vp_cell cA a0 = arrV cA N' (fun _ => defaultValue ty)) (hn : ¬ n < 0) (hN : n.toNatClampNeg = N') (hbytes : N' * componentBytes ty ≤ 536870912) (hcells : cells + 1 ≤ R.cells) (hslots : slots + N' ≤ R.slots) (hdg : decode cc pc = .ok (.newarray atype, 2))
    (kk : ∀ (H1 : Heap), H1.size = H.size + 1 → va_P D cl (ws ++ [(H.size, .inl (cA, a0))]) H1 → va_D A (ws ++ [(H.size, .inl (cA, a0))]) → va_S A H0 H1 locs →
      W p l e R s m args below meth c H1 locs (cells + 1) (slots + N') Q (F0 m (pc + 2) ls (.ref H.size :: rest))) : W p l e R s m args below meth c H locs cells slots Q (F0 m pc ls (.int n :: rest)) := by
  subst hty
  refine va_newaK hexec hb harr rfl hdg rfl hn hN hbytes hcells hslots rfl fun H1 cA' e1 z1 o1 hAr hNm => ?_
  have hcc : cA' = cA := by
    have h := (hK.2 t0 _ ht).2
    have h' : s.vm.findClass ("[" ++ (newarray.typeOf atype).toString) = some cA := by
      revert h hp
      cases atype <;> exact fun _ h => h
    exact Option.some.inj (hNm.symm.trans h')
  subst hcc
  have hk : ∀ (k : Nat) (x : Nat × va_E), ws[k]? = some x → H1[x.1]? = H[x.1]? := fun k x hx => o1 x.1 ((hP k x hx).lt)
  refine kk H1 z1 ((hP.kept hk).app (fun k x hx => ?_)) (hD.push hP rfl (hA _ hS.1)) ⟨Nat.le_trans hS.1 (by omega), fun x h1 h2 => (o1 x (Nat.lt_of_lt_of_le h1 hS.1)).trans (hS.2.1 x h1 h2), hS.2.2⟩
  have hz : k < 1 := (List.getElem?_eq_some_iff.mp hx).1
  rw [show k = 0 by omega] at hx
  cases hx
  show H1[H.size]? = some (vp_cell _ _)
  rw [ha]
  exact e1
end JMNEW
section JMSTEP3
variable {G : jm_G} {U : jm_U} {V : jm_V} {p : Program} {l : Launch} {e : Env} {R : Room} {s : State} {m : MethodId} {args : Array Value} {below : List Frame} {meth : Method} {c : Code} {Q : State → Prop} {y d pc : Nat} {L st : List Value} {σ : jm_S} {b z : Nat}
theorem jm_s_new (X : jm_Cx G U V p s m args meth c R y d) (hso : jm_so G U) {i q : Nat} (h : jm_sm U y pc (.new i) 3) (hw : ∃ (C : String) (T : u_T) (N : Nat), (jm_cl U)[q]? = some (C, T, N) ∧ N = jm_sz G q ∧ Cond.classLink (jm_nm U y).cls i C ∈ jm_tb U ∧ Cond.instantiable C N ∈ jm_tb U ∧ Cond.initialized C ∈ jm_tb U) (had : ∀ k, jm_ad V (k + 1) = jm_ad V k + 1) (ha : σ.1 = true) (hb1 : 1 ≤ b) (hz1 : jm_sz G q ≤ z)
    (kk : jm_WS G U V p l e R s m args below meth c Q y (pc + 1) L (.ref σ.2.1.length :: st) (σ.1, σ.2.1 ++ [(3, q, jm_sz G q)], jm_row σ.2.2.1 σ.2.1.length (fun k => defaultValue (jm_ft G q k)), σ.2.2.2) (b - 1) (z - jm_sz G q)) : jm_WS G U V p l e R s m args below meth c Q y pc L st σ b z := by
  intro H locs ls cells slots h1 h2 h3 h4 h5 h6
  obtain ⟨C, T, N, hc, hN, w1, w2, w3⟩ := hw
  obtain ⟨hu, hty, hnm⟩ := hso q C T N hc
  subst hN
  have hsz := h1.2.2 ha
  have hdv : ∀ t : FieldType, jm_v V (defaultValue t) = defaultValue t := fun t => by cases t <;> rfl
  refine jm_New (D := jm_D V) (A := jm_A V) (fs := (List.range (jm_sz G q)).map (fun j => jm_v V (defaultValue (jm_ft G q j)))) X.1 X.2.1 X.2.2.2.2.1 hu (jm_ft G q) hty X.2.2.2.1 (X.2.2.2.2.1 _ w1) (X.2.2.2.2.1 _ w2) (X.2.2.2.2.1 _ w3) X.2.2.2.2.2.2.2.2.1.1 h1.1 h1.2.1 h2 X.2.2.2.2.2.2.2.2.1.2.2.2.1 hc (fun j hj => by simp [vp_V, hj, hdv]) (by have := X.2.2.2.2.2.2.2.2.2.2.1; omega) (by have := X.2.2.2.2.2.2.2.2.2.2.2.1; omega) h.1 (fun H1 hz hP hD hS => ?_)
  rw [hsz] at hP hD ⊢
  have e : jm_w V σ ++ [(jm_ad V σ.2.1.length, .inr (q, (List.range (jm_sz G q)).map (fun j => jm_v V (defaultValue (jm_ft G q j)))))] = jm_w V (σ.1, σ.2.1 ++ [(3, q, jm_sz G q)], jm_row σ.2.2.1 σ.2.1.length (fun k => defaultValue (jm_ft G q k)), σ.2.2.2) := jm_push_o
  rw [e] at hP hD
  rw [← h.2]
  exact kk H1 locs ls (cells + 1) (slots + jm_sz G q) ⟨hP, hD, fun _ => by rw [hz, hsz]; simp [had]⟩ hS h3 h4 (by omega) (by omega)
theorem jm_s_newa (X : jm_Cx G U V p s m args meth c R y d) {t : ArrayType} {n : Int32} (h : jm_sm U y pc (.newarray t) 2) (ht : jm_kd t ≤ 2) (hw : Cond.arrayClass (newarray.typeOf t) ∈ jm_tb U) (had : ∀ k, jm_ad V (k + 1) = jm_ad V k + 1) (ha : σ.1 = true) (hb1 : 1 ≤ b) (hz1 : n.toNatClampNeg ≤ z) (hn : ¬ n < 0) (hn2 : n.toNatClampNeg ≤ 1000000)
    (kk : jm_WS G U V p l e R s m args below meth c Q y (pc + 1) L (.ref σ.2.1.length :: st) (σ.1, σ.2.1 ++ [(jm_kd t, 0, n.toNatClampNeg)], σ.2.2.1, jm_row σ.2.2.2 σ.2.1.length (fun _ => 0)) (b - 1) (z - n.toNatClampNeg)) : jm_WS G U V p l e R s m args below meth c Q y pc L (.int n :: st) σ b z := by
  intro H locs ls cells slots h1 h2 h3 h4 h5 h6
  have hsz := h1.2.2 ha
  have hc1 : cells + 1 ≤ R.cells := by have := X.2.2.2.2.2.2.2.2.2.2.1; omega
  have hc2 : slots + n.toNatClampNeg ≤ R.slots := by have := X.2.2.2.2.2.2.2.2.2.2.2.1; omega
  have key : ∀ (t0 : Nat) (cA : ClassId) (ty : FieldType), newarray.typeOf t = ty → (∀ C, ty ≠ .object C) → (jm_ty V)[t0]? = some (cA, ty) → componentBytes ty ≤ 4 → defaultValue ty = .int 0 → jm_E V.2.1 V.2.2.1 V.2.2.2.1 (jm_ad V) (jm_rd V) (σ.1, σ.2.1 ++ [(jm_kd t, 0, n.toNatClampNeg)], σ.2.2.1, jm_row σ.2.2.2 σ.2.1.length (fun _ => 0)) σ.2.1.length = .inl (cA, n.toNatClampNeg, .inl (fun _ => 0)) → W p l e R s m args below meth c H locs cells slots Q (F0 m (jm_ps U y pc) ls ((Value.int n :: st).map (jm_v V))) := by
    intro t0 cA ty e1 e2 e3 e4 e5 e6
    refine jm_Newa (D := jm_D V) (A := jm_A V) (a0 := (n.toNatClampNeg, .inl (fun _ => 0))) X.1 X.2.1 (X.2.2.2.2.1 _ hw) e1 e2 e3 X.2.2.2.2.2.2.2.2.1.1 h1.1 h1.2.1 h2 X.2.2.2.2.2.2.2.2.1.2.2.2.1 (fun c1 => by rw [e5]; rfl) hn rfl (Nat.le_trans (Nat.mul_le_mul hn2 e4) (by decide)) hc1 hc2 h.1 (fun H1 hz hP hD hS => ?_)
    rw [hsz] at hP hD ⊢
    rw [jm_push_a (g := fun _ => 0) e6] at hP hD
    rw [← h.2]
    exact kk H1 locs ls (cells + 1) (slots + n.toNatClampNeg) ⟨hP, hD, fun _ => by rw [hz, hsz]; simp [had]⟩ hS h3 h4 (by omega) (by omega)
  cases t <;> simp only [jm_kd] at ht <;> first | omega | skip
  · exact key 2 _ .boolean rfl (fun C => by simp) rfl (by decide) rfl (by rw [jm_E_z (x := 0) (n := n.toNatClampNeg) (by simp [jm_kd])]; simp only [jm_row_self])
  · exact key 1 _ .byte rfl (fun C => by simp) rfl (by decide) rfl (by rw [jm_E_b (x := 0) (n := n.toNatClampNeg) (by simp [jm_kd])]; simp only [jm_row_self])
  · exact key 0 _ .int rfl (fun C => by simp) rfl (by decide) rfl (by rw [jm_E_i (x := 0) (n := n.toNatClampNeg) (by simp [jm_kd])]; simp only [jm_row_self])
theorem jm_s_goto (X : jm_Cx G U V p s m args meth c R y d) {off : Int} {t : Nat} (h : decode (jm_bt U y) (jm_ps U y pc) = .ok (.goto off, 3)) (ht : (jm_ps U y pc : Int) + off = (jm_ps U y t : Int)) (k : jm_WS G U V p l e R s m args below meth c Q y t L st σ b z) : jm_WS G U V p l e R s m args below meth c Q y pc L st σ b z := by
  intro H locs ls cells slots h1 h2 h3 h4 h5 h6
  exact lv_goto X.1 X.2.1 h ht (k H locs ls cells slots h1 h2 h3 h4 h5 h6)
theorem jm_s_if (X : jm_Cx G U V p s m args meth c R y d) {f : ClassFile.Cond} {x : Int32} {off : Int} {t : Nat} (h : jm_sm U y pc (.ifCond f off) 3) (ht : (jm_ps U y pc : Int) + off = (jm_ps U y t : Int)) (k1 : jm_c1 f x → jm_WS G U V p l e R s m args below meth c Q y t L st σ b z) (k2 : ¬ jm_c1 f x → jm_WS G U V p l e R s m args below meth c Q y (pc + 1) L st σ b z) : jm_WS G U V p l e R s m args below meth c Q y pc L (.int x :: st) σ b z := by
  intro H locs ls cells slots h1 h2 h3 h4 h5 h6
  have q1 := fun q => k1 q H locs ls cells slots h1 h2 h3 h4 h5 h6
  have q2 := fun q => k2 q H locs ls cells slots h1 h2 h3 h4 h5 h6
  rw [h.2] at q2
  cases f
  · exact lv_if_eq X.1 X.2.1 h.1 ht q1 q2
  · exact lv_if_ne X.1 X.2.1 h.1 ht q1 (fun q => q2 (fun g => g q))
  · exact lv_if_lt X.1 X.2.1 h.1 ht q1 q2
  · exact lv_if_ge X.1 X.2.1 h.1 ht q1 q2
  · exact lv_if_gt X.1 X.2.1 h.1 ht q1 q2
  · exact lv_if_le X.1 X.2.1 h.1 ht q1 q2
theorem jm_s_icmp (X : jm_Cx G U V p s m args meth c R y d) {f : ClassFile.Cond} {x v : Int32} {off : Int} {t : Nat} (h : jm_sm U y pc (.if_icmp f off) 3) (ht : (jm_ps U y pc : Int) + off = (jm_ps U y t : Int)) (k1 : jm_c2 f x v → jm_WS G U V p l e R s m args below meth c Q y t L st σ b z) (k2 : ¬ jm_c2 f x v → jm_WS G U V p l e R s m args below meth c Q y (pc + 1) L st σ b z) : jm_WS G U V p l e R s m args below meth c Q y pc L (.int v :: .int x :: st) σ b z := by
  intro H locs ls cells slots h1 h2 h3 h4 h5 h6
  have q1 := fun q => k1 q H locs ls cells slots h1 h2 h3 h4 h5 h6
  have q2 := fun q => k2 q H locs ls cells slots h1 h2 h3 h4 h5 h6
  rw [h.2] at q2
  cases f
  · exact lv_icmp_eq X.1 X.2.1 h.1 ht q1 q2
  · exact lv_icmp_ne X.1 X.2.1 h.1 ht q1 (fun q => q2 (fun g => g q))
  · exact lv_icmp_lt X.1 X.2.1 h.1 ht q1 q2
  · exact lv_icmp_ge X.1 X.2.1 h.1 ht q1 q2
  · exact lv_icmp_gt X.1 X.2.1 h.1 ht q1 q2
  · exact lv_icmp_le X.1 X.2.1 h.1 ht q1 q2
theorem jm_s_tsw (X : jm_Cx G U V p s m args meth c R y d) {dd lo hi : Int} {offs : Array Int} {n : Nat} {x : Int32} {t : Nat} {ts : Array Int} (h : decode (jm_bt U y) (jm_ps U y pc) = .ok (.tableswitch dd lo hi offs, n)) (ht : (jm_ps U y pc : Int) + dd = (jm_ps U y t : Int)) (hs : ∀ k, k < (hi - lo + 1).toNat → ∃ off, offs[k]? = some off ∧ (jm_ps U y pc : Int) + off = (jm_ps U y (ts.getD k 0).toNat : Int)) (k1 : x.toInt < lo ∨ hi < x.toInt → jm_WS G U V p l e R s m args below meth c Q y t L st σ b z) (k2 : ¬ x.toInt < lo → ¬ hi < x.toInt → jm_WS G U V p l e R s m args below meth c Q y (ts.getD (x.toInt - lo).toNat 0).toNat L st σ b z) : jm_WS G U V p l e R s m args below meth c Q y pc L (.int x :: st) σ b z := by
  intro H locs ls cells slots h1 h2 h3 h4 h5 h6
  by_cases g : x.toInt < lo ∨ hi < x.toInt
  · exact lv_tableOut X.1 X.2.1 h g ht (k1 g H locs ls cells slots h1 h2 h3 h4 h5 h6)
  · have g1 : ¬ x.toInt < lo := fun q => g (Or.inl q)
    have g2 : ¬ hi < x.toInt := fun q => g (Or.inr q)
    obtain ⟨off, e1, e2⟩ := hs (x.toInt - lo).toNat (by omega)
    exact lv_tableIn X.1 X.2.1 h g1 g2 e1 e2 (k2 g1 g2 H locs ls cells slots h1 h2 h3 h4 h5 h6)
theorem jm_losw {P : Nat → Nat} {q : Int} (x d d' : Int) : ∀ (r r' : List (Int × Int)), r.map (fun w => (w.1, q + w.2)) = r'.map (fun w => (w.1, (P w.2.toNat : Int))) → q + d = (P d'.toNat : Int) → q + Op.lookupswitch.offset r d x = (P (Op.lookupswitch.offset r' d' x).toNat : Int)
  | [], [], _, h => h
  | [], _ :: _, h, _ => by simp at h
  | _ :: _, [], h, _ => by simp at h
  | (a, o) :: r, (a', o') :: r', h, hd => by
    simp only [List.map_cons, List.cons.injEq, Prod.mk.injEq] at h
    obtain ⟨⟨rfl, h2⟩, h3⟩ := h
    have ih := jm_losw x d d' r r' h3 hd
    simp only [Op.lookupswitch.offset] at ih ⊢
    split
    · simpa [*] using h2
    · simpa [*] using ih
theorem jm_s_lsw (X : jm_Cx G U V p s m args meth c R y d) {dd dd' : Int} {ps ps' : Array (Int × Int)} {n : Nat} {x : Int32} (h : decode (jm_bt U y) (jm_ps U y pc) = .ok (.lookupswitch dd ps, n)) (hs : (ps.toList.zip (ps.toList.drop 1)).all (fun (a, next) => a.1 < next.1) = true) (hp : ps.toList.map (fun w => (w.1, (jm_ps U y pc : Int) + w.2)) = ps'.toList.map (fun w => (w.1, (jm_ps U y w.2.toNat : Int)))) (hd : (jm_ps U y pc : Int) + dd = (jm_ps U y dd'.toNat : Int)) (k : jm_WS G U V p l e R s m args below meth c Q y (Op.lookupswitch.offset ps'.toList dd' x.toInt).toNat L st σ b z) : jm_WS G U V p l e R s m args below meth c Q y pc L (.int x :: st) σ b z := by
  intro H locs ls cells slots h1 h2 h3 h4 h5 h6
  exact lv_lookup X.1 X.2.1 h hs rfl (jm_losw (P := fun i => jm_ps U y i) x.toInt dd dd' _ _ hp hd) (k H locs ls cells slots h1 h2 h3 h4 h5 h6)
end JMSTEP3
