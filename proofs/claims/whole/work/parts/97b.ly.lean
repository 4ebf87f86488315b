/-! the law's helpers shrink and run, where the class answers -/
def ly_P (V : jm_V) (av : List Value) (σ : jm_S) (w : Nat) (cJ : ClassId) : Array Value → State → Prop := fun a T => a = av.toArray ∧ jm_Pre jG jU V σ T ∧ (∃ f : Nat → Int64, T.heap[w]? = some (arrV cJ 1 (fun j => .long (f j)))) ∧ ArrOfT T cJ .long
def ly_Q (V : jm_V) (P2 : jm_P) (w : Nat) (cJ : ClassId) (A0 : Nat → Prop) : Array Value → State → Outcome → State → Prop := va_Qi (fun r (u : Int32 × jm_S) => r = 0 ∧ P2 (some (.int u.1)) u.2) (fun u t => jm_Rp jU V (false, u.2.2) t.heap ∧ ∃ g : Nat → Int64, g 0 = u.1.toInt64 ∧ t.heap[w]? = some (arrV cJ 1 (fun j => .long (g j)))) A0
theorem ly_blind {V : jm_V} {av : List Value} {σ : jm_S} {w : Nat} {cJ : ClassId} : FrameBlind (ly_P V av σ w cJ) := fun _ T g mk h => ⟨h.1, ⟨h.2.1.1, h.2.1.2.calling js_ng⟩, h.2.2.1, arrOfT_moved (u := T) (E := T.calling g mk _) (Vm.Alike.refl T.vm) h.2.2.2⟩
section LY
variable {p : Program} {l : Launch} {e : Env} {R : Room} {s : State} {m : MethodId} {args : Array Value} {below : List Frame} {meth : Method} {c : Code} {H : Heap} {locs : List Loc} {cells slots : Nat} {Q : State → Prop} {cc : ByteArray} {pc : Nat} {ls : Array Slot} {rest : List Value}
theorem ly_lcmp (hexec : p.tables.exec = Jvm.exec) (hb : c.code = cc) {x : Int64} (hdg : decode cc pc = .ok (.lcmp, 1))
    (k : W p l e R s m args below meth c H locs cells slots Q (F0 m (pc + 1) ls (.int 0 :: rest))) : W p l e R s m args below meth c H locs cells slots Q (F0 m pc ls (.long x :: .long x :: rest)) := by
  intro T hT X
  obtain ⟨t, a, b⟩ := k T hT X
  refine ⟨t, ?_, b⟩
  jvm_step X.here [X.here.top, hexec, hb, hdg]
  exact a
/-- the long is written -/
theorem ly_last (hexec : p.tables.exec = Jvm.exec) (hb : c.code = cc) {w : Nat} {cJ : ClassId} {f : Nat → Int64} {x : Int64} (hf : H[w]? = some (arrV cJ 1 (fun j => .long (f j)))) (hA : ArrOfT s cJ .long) {A0 : Nat → Prop} {H0 : Heap} (hS : va_S A0 H0 H locs) (hw : A0 w) (hdg : decode cc pc = .ok (.lastore, 1))
    (k : ∀ (H1 : Heap) (locs1 : List Loc), (∃ g : Nat → Int64, g 0 = x ∧ H1[w]? = some (arrV cJ 1 (fun j => .long (g j)))) → (∀ q : Nat, q ≠ w → H1[q]? = H[q]?) → va_S A0 H0 H1 locs1 → W p l e R s m args below meth c H1 locs1 cells slots Q (F0 m (pc + 1) ls rest)) : W p l e R s m args below meth c H locs cells slots Q (F0 m pc ls (.long x :: .int 0 :: .ref w :: rest)) := by
  refine W.last hexec hb hf (hA 1 (fun j => .long (f j))) (fun q => by cases q) (by show ¬ ((0 : Int32) < 0 ∨ (arrV _ _ _).slots.size ≤ _); rw [arrV_size]; decide) rfl rfl hdg fun H1 e1 z1 o1 => ?_
  refine k H1 _ ⟨vp_updL f (0 : Int32).toNatClampNeg x, ?_, ?_⟩ o1 (hS.put z1 o1 hw)
  · show (if (0 : Nat) = (0 : Int32).toNatClampNeg then x else f 0) = x
    rw [if_pos (by decide)]
  · rw [e1, arrV_store]
    congr 2
    funext q
    by_cases hq : q = (0 : Int32).toNatClampNeg
    · subst hq
      simp [updV, vp_updL]
    · simp only [updV, vp_updL]
      split <;> rfl
/-- it is read -/
theorem ly_lald (hexec : p.tables.exec = Jvm.exec) (hb : c.code = cc) {w : Nat} {cJ : ClassId} {g : Nat → Int64} (hf : H[w]? = some (arrV cJ 1 (fun j => .long (g j)))) (hA : ArrOfT s cJ .long) (hdg : decode cc pc = .ok (.laload, 1))
    (k : W p l e R s m args below meth c H locs cells slots Q (F0 m (pc + 1) ls (.long (g 0) :: rest))) : W p l e R s m args below meth c H locs cells slots Q (F0 m pc ls (.int 0 :: .ref w :: rest)) := by
  refine W.lald (v := .long (g 0)) hexec hb hf (hA 1 (fun j => .long (g j))) (fun q => by cases q) (by show ¬ ((0 : Int32) < 0 ∨ (arrV _ _ _).slots.size ≤ _); rw [arrV_size]; decide) ?_ rfl rfl hdg k
  show (arrV _ _ _).slots[(0 : Int32).toNatClampNeg]? = _
  rw [arrV_read _ _ (by decide)]
  show some (Value.long (g (0 : Int32).toNatClampNeg)) = some (Value.long (g 0))
  rw [show (0 : Int32).toNatClampNeg = 0 by decide]
end LY
section LYM
variable {l : Launch} {V : jm_V} {σ : jm_S} {w : Nat} {a b k : Int32} {P2 : jm_P} {cJ : ClassId} {A0 : Nat → Prop}
set_option maxRecDepth 100000 in
theorem ly_shrink (htc : jm_tc jG 20 140 (.ref 0 :: [.int a]) σ P2) (hPr : ∀ r σ', P2 r σ' → ∃ v, r = some (.int v)) (ho : σ.2.1[0]? = some (3, 9, 16)) (had : ∀ k, jm_ad V (k + 1) = jm_ad V k + 1) (hw : ¬ jm_A V w) (hA : ∀ q, jm_A V q → A0 q) (hwA : A0 w) : vx_Met l yL_shrink lx_w_shrink lx_rm (ly_P V [.ref (jm_ad V 0), .int a, .ref w] σ w cJ) (ly_Q V P2 w cJ A0) (lx_X0 V) 1 6 A0 := by
  refine vx_ofWH (cc := cL_shrink) (maxL := 4) (ret := some .int) (hh := [(0, 9, 12, 13), (0, 9, 15, 15)]) (by decide) rfl ?_
  intro p e s m args below meth c s₁ B hml hv
  obtain ⟨rfl, ⟨hRp, hKn⟩, ⟨f, hf⟩, hAJ⟩ := hv
  have hts := atoms_spec (ws := lx_w_shrink) B.pre
  have htb : ∀ x ∈ jt_tb, x.before ([.ref (jm_ad V 0), .int a, .ref w] : List Value).toArray s = true := fun x hx => hts x (List.mem_cons_of_mem _ hx)
  have hx := B.exec
  have hb := B.bytes
  have hown : s.vm.findClass RL = some m.cls := findClass_of_methodNamed B.named
  have hl := lv_entry ([.ref (jm_ad V 0), .int a, .ref w]) (n := 4) (Nat.le_of_ble_eq_true rfl)
  rw [lg_entry_eq]
  generalize (lg_sl ([.ref (jm_ad V 0), .int a, .ref w]) ++ List.replicate (4 - (lg_sl ([.ref (jm_ad V 0), .int a, .ref w])).length) Slot.unset).toArray = ls at hl ⊢
  have hl : lv_has ls 4 [(0, .ref (jm_ad V 0)), (1, .int a), (2, .ref w)] := hl
  have hlt : w < s.heap.size := (Array.getElem?_eq_some_iff.mp hf).1
  have mc0 : jm_mc jG 140 = 0 := by decide +kernel
  have ms0 : jm_ms jG 140 = 0 := by decide +kernel
  refine lv_aload_n hx hb dL_shrink_0 rfl (lv_at hl 2 rfl) ?_
  refine lv_iconst (v := 0) hx hb dL_shrink_1 (by decide) ?_
  refine lv_aload_n hx hb dL_shrink_2 rfl (lv_at hl 0 rfl) ?_
  refine lv_iload_n hx hb dL_shrink_3 rfl (lv_at hl 1 rfl) ?_
  refine lw_call (V := V) (A0 := A0) (y := 140) (idx := 7) (d := 20) (o := 0) (as := [.int a]) (rest := [.int 0, .ref w]) ⟨hx, hb, hml, hown, htb⟩ hl.1 hKn.1 (fun T hT hW => hKn.later js_ng va_S.rf hT hW) had (by decide) htc hRp va_S.rf hA (by decide) (by decide) (by rw [mc0]; decide) (by rw [ms0]; decide) rfl (jt_in 1187 (by decide +kernel) rfl) (Nat.le_of_ble_eq_true rfl) (Or.inl ⟨by decide +kernel, by rw [show jm_mk jG 140 = 9 by decide +kernel]; exact ho, dL_shrink_4⟩) (fun r σ' H1 locs1 hp hRp1 hS1 hz1 hk1 => ?_)
  obtain ⟨v, rfl⟩ := hPr r σ' hp
  rw [mc0, ms0]
  have hf1 : H1[w]? = some (arrV cJ 1 (fun j => .long (f j))) := by rw [hk1 w hlt hw]; exact hf
  refine lv_i2l (v := v.toInt64) hx hb dL_shrink_7 rfl ?_
  refine ly_last hx hb hf1 hAJ hS1 hwA dL_shrink_8 (fun H2 locs2 hg2 ho2 hS2 => ?_)
  refine lv_goto (tgt := 18) hx hb dL_shrink_9 (by decide) ?_
  refine lv_iconst (v := 0) hx hb dL_shrink_18 (by decide) ?_
  have hRp2 : jm_Rp jU V (false, σ'.2) H2 := ⟨va_P.kept hRp1.1 (fun k q hq => ho2 q.1 (fun h => hw (h ▸ hRp1.2.1.2 k q hq))), hRp1.2.1, fun h => by cases h⟩
  refine W.widen (k := 1) (n := 6) (by decide) (by decide) ?_
  exact vx_ret (W.iret hx hb B.returns (fun t ht hW => ⟨⟨0, (v, σ'), rfl, ⟨rfl, hp⟩, by rw [ht]; exact hRp2, by rw [ht]; exact hg2⟩, hS2.F ht⟩) hS2.2.2 dL_shrink_19)
set_option maxRecDepth 100000 in
theorem ly_run (htc : jm_tc jG 20 145 (.ref 0 :: [.int b, .int a, .int k]) σ P2) (hPr : ∀ r σ', P2 r σ' → ∃ v, r = some (.int v)) (ho : σ.2.1[0]? = some (3, 9, 16)) (had : ∀ k, jm_ad V (k + 1) = jm_ad V k + 1) (hw : ¬ jm_A V w) (hA : ∀ q, jm_A V q → A0 q) (hwA : A0 w) : vx_Met l yL_run lx_w_run lx_rm (ly_P V [.ref (jm_ad V 0), .int b, .int a, .int k, .ref w] σ w cJ) (ly_Q V P2 w cJ A0) (lx_X0 V) 1 6 A0 := by
  refine vx_ofWH (cc := cL_run) (maxL := 6) (ret := some .int) (hh := [(0, 12, 15, 15), (0, 12, 19, 13)]) (by decide) rfl ?_
  intro p e s m args below meth c s₁ B hml hv
  obtain ⟨rfl, ⟨hRp, hKn⟩, ⟨f, hf⟩, hAJ⟩ := hv
  have hts := atoms_spec (ws := lx_w_run) B.pre
  have htb : ∀ x ∈ jt_tb, x.before ([.ref (jm_ad V 0), .int b, .int a, .int k, .ref w] : List Value).toArray s = true := fun x hx => hts x (List.mem_cons_of_mem _ hx)
  have hx := B.exec
  have hb := B.bytes
  have hown : s.vm.findClass RL = some m.cls := findClass_of_methodNamed B.named
  have hl := lv_entry ([.ref (jm_ad V 0), .int b, .int a, .int k, .ref w]) (n := 6) (Nat.le_of_ble_eq_true rfl)
  rw [lg_entry_eq]
  generalize (lg_sl ([.ref (jm_ad V 0), .int b, .int a, .int k, .ref w]) ++ List.replicate (6 - (lg_sl ([.ref (jm_ad V 0), .int b, .int a, .int k, .ref w])).length) Slot.unset).toArray = ls at hl ⊢
  have hl : lv_has ls 6 [(0, .ref (jm_ad V 0)), (1, .int b), (2, .int a), (3, .int k), (4, .ref w)] := hl
  have hlt : w < s.heap.size := (Array.getElem?_eq_some_iff.mp hf).1
  have mc0 : jm_mc jG 145 = 0 := by decide +kernel
  have ms0 : jm_ms jG 145 = 0 := by decide +kernel
  refine lv_aload hx hb dL_run_0 (lv_at hl 4 rfl) ?_
  refine lv_iconst (v := 0) hx hb dL_run_2 (by decide) ?_
  refine lv_aload_n hx hb dL_run_3 rfl (lv_at hl 0 rfl) ?_
  refine lv_iload_n hx hb dL_run_4 rfl (lv_at hl 1 rfl) ?_
  refine lv_iload_n hx hb dL_run_5 rfl (lv_at hl 2 rfl) ?_
  refine lv_iload_n hx hb dL_run_6 rfl (lv_at hl 3 rfl) ?_
  refine lw_call (V := V) (A0 := A0) (y := 145) (idx := 17) (d := 20) (o := 0) (as := [.int b, .int a, .int k]) (rest := [.int 0, .ref w]) ⟨hx, hb, hml, hown, htb⟩ hl.1 hKn.1 (fun T hT hW => hKn.later js_ng va_S.rf hT hW) had (by decide) htc hRp va_S.rf hA (by decide) (by decide) (by rw [mc0]; decide) (by rw [ms0]; decide) rfl (jt_in 1447 (by decide +kernel) rfl) (Nat.le_of_ble_eq_true rfl) (Or.inl ⟨by decide +kernel, by rw [show jm_mk jG 145 = 9 by decide +kernel]; exact ho, dL_run_7⟩) (fun r σ' H1 locs1 hp hRp1 hS1 hz1 hk1 => ?_)
  obtain ⟨v, rfl⟩ := hPr r σ' hp
  rw [mc0, ms0]
  have hf1 : H1[w]? = some (arrV cJ 1 (fun j => .long (f j))) := by rw [hk1 w hlt hw]; exact hf
  refine lv_i2l (v := v.toInt64) hx hb dL_run_10 rfl ?_
  refine ly_last hx hb hf1 hAJ hS1 hwA dL_run_11 (fun H2 locs2 hg2 ho2 hS2 => ?_)
  refine lv_goto (tgt := 23) hx hb dL_run_12 (by decide) ?_
  refine lv_iconst (v := 0) hx hb dL_run_23 (by decide) ?_
  have hRp2 : jm_Rp jU V (false, σ'.2) H2 := ⟨va_P.kept hRp1.1 (fun k q hq => ho2 q.1 (fun h => hw (h ▸ hRp1.2.1.2 k q hq))), hRp1.2.1, fun h => by cases h⟩
  refine W.widen (k := 1) (n := 6) (by decide) (by decide) ?_
  exact vx_ret (W.iret hx hb B.returns (fun t ht hW => ⟨⟨0, (v, σ'), rfl, ⟨rfl, hp⟩, by rw [ht]; exact hRp2, by rw [ht]; exact hg2⟩, hS2.F ht⟩) hS2.2.2 dL_run_24)
end LYM
