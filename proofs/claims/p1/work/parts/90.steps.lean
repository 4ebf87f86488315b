/-! the law's stretches: an argument out of the script, a boolean, a call -/
def lw_C (p : Program) (s : State) (m : MethodId) (meth : Method) (c : Code) (b L : Nat) (xs : Nat → Int32) (D : va_G) (cI cB cZ cJ : ClassId) (tA : Nat) : Prop :=
  lw_At p s m meth c b L xs ∧ va_K D jt_cl [(cI, .int), (cB, .byte), (cZ, .boolean)] s ∧ va_Z "ShrinkHouse" "TELLS" "[I" (.ref tA) (fun q : Nat => s.heap.size ≤ q) s s.heap ∧ va_T .int tA 27 (fun i => .int ((jt_ro 0).2 i)) (fun q : Nat => s.heap.size ≤ q) s s.heap ∧ (ArrOfT s cJ .long ∧ va_RA s cJ .long) ∧ L ≤ 3072
abbrev lw_ll (z b : Nat) (x4 : Int32) : List (Nat × Value) := [(4, .int x4), (3, .ref (z + 193)), (2, .ref (z + 121)), (1, .ref (z + 0)), (0, .ref b)]
section LWSTEP
variable {p : Program} {l : Launch} {e : Env} {s : State} {m : MethodId} {below : List Frame} {meth : Method} {c : Code} {b L : Nat} {xs : Nat → Int32} {D : va_G} {cI cB cZ cJ : ClassId} {tA : Nat} {H : Heap} {locs : List Loc} {cells slots pc i k : Nat} {ls : Array Slot} {rest : List Value} {Q : State → Prop}
theorem lw_arg (C : lw_C p s m meth c b L xs D cI cB cZ cJ tA) (hS : va_S (fun q : Nat => s.heap.size ≤ q) s.heap H locs) (hl : lv_has ls 7 (lw_ll s.heap.size b (nI (6 * i)))) (hi : 6 * i + 6 ≤ L) (hk : k < 6)
    (d0 : decode code pc = .ok (.aload_n 0, 1)) (d1 : decode code (pc + 1) = .ok (.iload 4, 2)) (d2 : decode code (pc + 3) = .ok (.iconst (k : Int), 1)) (d3 : decode code (pc + 4) = .ok (.iadd, 1)) (d4 : decode code (pc + 5) = .ok (.iaload, 1))
    (kk : W p l e room_1 s m #[Value.ref b] below meth c H locs cells slots Q (F0 m (pc + 6) ls (.int (xs (6 * i + k)) :: rest))) : W p l e room_1 s m #[Value.ref b] below meth c H locs cells slots Q (F0 m pc ls rest) := by
  obtain ⟨⟨hx, hb, hr, hml, hown, hts, hX, hbl, hlocks, hgv⟩, hK, hZ, hT, hJ, hL⟩ := C
  refine lv_aload_n hx hb d0 rfl (lv_at hl 4 rfl) ?_
  refine lv_iload hx hb d1 (lv_at hl 0 rfl) ?_
  refine lv_iconst (v := nI k) hx hb d2 ?_ ?_
  · show Int32.ofInt (k : Int) = Int32.ofNat k
    rcases (show k = 0 ∨ k = 1 ∨ k = 2 ∨ k = 3 ∨ k = 4 ∨ k = 5 by omega) with rfl | rfl | rfl | rfl | rfl | rfl <;> rfl
  refine lv_iadd hx hb d3 ?_
  rw [nI_add]
  have hlt : 6 * i + k < L := by omega
  have hc : (nI (6 * i + k)).toNatClampNeg = 6 * i + k := nI_clamp (by omega)
  refine va_sld hx hb hX hbl (A := fun q : Nat => s.heap.size ≤ q) (Nat.not_le.mpr hbl) hS (by unfold vp_in; exact nI_in hlt (by omega)) d4 ?_
  rw [hc]
  exact kk
theorem lw_bool (C : lw_C p s m meth c b L xs D cI cB cZ cJ tA) {v : Int32} (d0 : decode code pc = .ok (.ifCond .eq 7, 3)) (d1 : decode code (pc + 3) = .ok (.iconst 1, 1)) (d2 : decode code (pc + 4) = .ok (.goto 4, 3)) (d3 : decode code (pc + 7) = .ok (.iconst 0, 1))
    (kk : W p l e room_1 s m #[Value.ref b] below meth c H locs cells slots Q (F0 m (pc + 8) ls (.int (if v = 0 then 0 else 1) :: rest))) : W p l e room_1 s m #[Value.ref b] below meth c H locs cells slots Q (F0 m pc ls (.int v :: rest)) := by
  obtain ⟨⟨hx, hb, -⟩, -⟩ := C
  refine lv_if_eq (tgt := pc + 7) hx hb d0 (by omega) (fun h => ?_) (fun h => ?_)
  · rw [if_pos h] at kk
    exact lv_iconst (v := 0) hx hb d3 rfl kk
  · rw [if_neg h] at kk
    refine lv_iconst (v := 1) hx hb d1 rfl ?_
    exact lv_goto (tgt := pc + 8) hx hb d2 (by omega) kk
/-- what the loop holds: level 2, the cells, the long row -/
def lw_Wd (s : State) (D : va_G) (cI cB cZ cJ : ClassId) (tA : Nat) (σ : j2_S) (H : Heap) (locs : List Loc) : Prop := ∃ σ1 : jm_S, j2_R σ σ1 ∧ jm_Rp jU (lw_V1 D cI cB cZ s.heap.size tA) σ1 H ∧ (∃ f : Nat → Int64, H[s.heap.size + 193]? = some (arrV cJ 1 (fun j => .long (f j)))) ∧ s.heap.size + 194 ≤ H.size ∧ va_S (fun q : Nat => s.heap.size ≤ q) s.heap H locs
theorem lw_Kn1 (C : lw_C p s m meth c b L xs D cI cB cZ cJ tA) (hz : s.heap.size + 194 ≤ H.size) (hS : va_S (fun q : Nat => s.heap.size ≤ q) s.heap H locs) (T : State) (hT : T.heap = H) (hW : s.WarmedH T.vm) : jm_Kn jG jU (lw_V1 D cI cB cZ s.heap.size tA) T := by
  obtain ⟨⟨hx, hb, hr, hml, hown, hts, hX, hbl, hlocks, hgv⟩, hK, hZ, hT0, hJ, hL⟩ := C
  have h0 := (lw_Kn hts hK hZ hT0).later js_ng hS hT hW
  exact ⟨h0.1, h0.2.1.narrow (fun _ h => h.1), fun j => (h0.2.2.1 j).narrow (fun _ h => h.1), fun q hq => ⟨h0.2.2.2.1 q hq, by rw [hT] at hq; omega⟩, h0.2.2.2.2⟩
theorem lw_call2 (C : lw_C p s m meth c b L xs D cI cB cZ cJ tA) {σ : j2_S} (hW : lw_Wd s D cI cB cZ cJ tA σ H locs) (hsz : ls.size = 7) {y idx q o : Nat} {as : List j2_W} {vs : List Value} {Q2 : j2_P} (hy : y < 250) (htc : j2_tc 20 y (.inr (.inl (q, o)) :: as) σ Q2) (hok : j2_oks (.inr (.inl (q, o)) :: as)) (hvs : as.map (fun w => jm_v (lw_V1 D cI cB cZ s.heap.size tA) (j2_cv w)) = vs)
    (hmc : jm_mc jG y = 0 ∧ jm_ms jG y = 0 ∧ jt_kn.getD y 9 = 1 ∧ jm_mk jG y = q ∧ as.length = jm_ma jG y) (hc : cells ≤ 247135) (hs : slots ≤ 8360832) (hl : Cond.methodLink R_law idx (jm_nm jU y) ∈ jt_tb) (hr : (rest.map fun v => v.category).sum ≤ 8) (hd : decode code pc = .ok (.invokevirtual idx, 3)) (hQ : ∀ r σ', Q2 r σ' → ∃ v, r = some (vI v))
    (kk : ∀ (v : Int32) (σ' : j2_S) (H1 : Heap) (locs1 : List Loc), Q2 (some (vI v)) σ' → lw_Wd s D cI cB cZ cJ tA σ' H1 locs1 → W p l e room_1 s m #[Value.ref b] below meth c H1 locs1 cells slots Q (F0 m (pc + 3) ls (.int v :: rest))) :
    W p l e room_1 s m #[Value.ref b] below meth c H locs cells slots Q (F0 m pc ls (vs.reverse ++ .ref (s.heap.size + o) :: rest)) := by
  obtain ⟨σ1, hR, hRp, ⟨f, hf⟩, hz, hS⟩ := hW
  have hKn := lw_Kn1 C hz hS
  obtain ⟨⟨hx, hb, hr0, hml, hown, hts, hX, hbl, hlocks, hgv⟩, hK, hZ, hT, hJ, hL⟩ := C
  have htb : ∀ w ∈ jt_tb, w.before #[Value.ref b] s = true := fun w hw => lw_good hts hw
  have ht1 := j2_sim 20 y _ σ Q2 σ1 (fun r σ1' => ∃ v σ', r = some (.int v) ∧ Q2 (some (vI v)) σ' ∧ j2_R σ' σ1') hmc.1 hmc.2.1 htc hok hR (fun r σ' σ1' hq _ hR' => by
    obtain ⟨v, rfl⟩ := hQ r σ' hq
    exact ⟨v, σ', rfl, hq, hR'⟩)
  have ho : (q, o) ∈ lt_ob := (j2_oks_c.mp hok).1
  have hlen : (as.map j2_cv).length = jm_ma jG y := by rw [List.length_map]; exact hmc.2.2.2.2
  have e1 : (as.map j2_cv).map (jm_v (lw_V1 D cI cB cZ s.heap.size tA)) = vs := by rw [← hvs, List.map_map]; rfl
  rw [← e1]
  refine lw_call (V := lw_V1 D cI cB cZ s.heap.size tA) (A0 := fun q : Nat => s.heap.size ≤ q) (y := y) (idx := idx) (d := 20) (o := o) (as := as.map j2_cv) (rest := rest) ⟨hx, hb, hml, hown, htb⟩ hsz hK hKn (fun k => rfl) hy ht1 hRp hS (fun _ h => h.1) (by show 20 + 1 ≤ 2048; omega) (by show 64 + 64 * 20 ≤ 84000; omega) (by rw [hmc.1]; exact hc) (by rw [hmc.2.1]; exact hs) hlen hl hr (Or.inl ⟨hmc.2.2.1, ?_, hd⟩) (fun r σ1' H1 locs1 hp hRp1 hS1 hz1 hk1 => ?_)
  · rw [hmc.2.2.2.1]
    exact hR.1 _ ho
  · obtain ⟨v, σ', rfl, hq, hR'⟩ := hp
    rw [hmc.1, hmc.2.1]
    exact kk v σ' H1 locs1 hq ⟨σ1', hR', hRp1, ⟨f, by rw [hk1 _ (by omega) (fun h => h.2 rfl)]; exact hf⟩, by omega, hS1⟩
end LWSTEP
