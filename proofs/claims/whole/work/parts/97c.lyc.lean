/-! the law's cases of shrink and run, where both answer -/
section LWY
variable {p : Program} {l : Launch} {e : Env} {s : State} {m : MethodId} {below : List Frame} {meth : Method} {c : Code} {b L : Nat} {xs : Nat → Int32} {D : va_G} {cI cB cZ cJ : ClassId} {tA : Nat} {H : Heap} {locs : List Loc} {cells slots i pc : Nat} {ls : Array Slot} {Q : State → Prop} {σ : j2_S} {K : j2_S → Prop} {rest : List Value}
/-- a call that leaves the long row -/
theorem lw_call3 (C : lw_C p s m meth c b L xs D cI cB cZ cJ tA) {σ : j2_S} (hW : lw_Wd s D cI cB cZ cJ tA σ H locs) (hsz : ls.size = 7) {y idx q o : Nat} {as : List j2_W} {vs : List Value} {Q2 : j2_P} (hy : y < 250) (htc : j2_tc 20 y (.inr (.inl (q, o)) :: as) σ Q2) (hok : j2_oks (.inr (.inl (q, o)) :: as)) (hvs : as.map (fun w => jm_v (lw_V1 D cI cB cZ s.heap.size tA) (j2_cv w)) = vs)
    (hmc : jm_mc jG y = 0 ∧ jm_ms jG y = 0 ∧ jt_kn.getD y 9 = 1 ∧ jm_mk jG y = q ∧ as.length = jm_ma jG y) (hc : cells ≤ 228739) (hs : slots ≤ 8409888) (hl : Cond.methodLink R_law idx (jm_nm jU y) ∈ jt_tb) (hr : (rest.map fun v => v.category).sum ≤ 8) (hd : decode code pc = .ok (.invokevirtual idx, 3)) (hQ : ∀ r σ', Q2 r σ' → ∃ v, r = some (vI v))
    (kk : ∀ (v : Int32) (σ' : j2_S) (H1 : Heap) (locs1 : List Loc), Q2 (some (vI v)) σ' → lw_Wd s D cI cB cZ cJ tA σ' H1 locs1 → H1[s.heap.size + 193]? = H[s.heap.size + 193]? → W p l e room_1 s m #[Value.ref b] below meth c H1 locs1 cells slots Q (F0 m (pc + 3) ls (.int v :: rest))) :
    W p l e room_1 s m #[Value.ref b] below meth c H locs cells slots Q (F0 m pc ls (vs.reverse ++ .ref (s.heap.size + o) :: rest)) := by
  obtain ⟨σ1, hR, hRp, ⟨f, hf⟩, hz, hS⟩ := hW
  have hKn := lw_Kn1 C hz hS
  obtain ⟨⟨hx, hb, hr0, hml, hown, hts, hX, hbl, hlocks, hgv⟩, hK, hZ, hT, hJ, hL⟩ := C
  have htb : ∀ w ∈ jt_tb, w.before #[Value.ref b] s = true := fun w hw => lw_good hts hw
  have ht1 := j2_sim 20 y _ σ Q2 σ1 (fun r σ1' => ∃ v σ', r = some (.int v) ∧ Q2 (some (vI v)) σ' ∧ j2_R σ' σ1') hmc.1 hmc.2.1 htc hok hR (fun r σ' σ1' hq _ hR' => by
    obtain ⟨v, rfl⟩ := hQ r σ' hq
    exact ⟨v, σ', rfl, hq, hR'⟩)
  have ho : (q, o) ∈ lt_ob := (j2_oks_c.mp hok).1
  have hlen : (as.map j2_cv).length = jm_ma jG y := by rw [List.length_map]; exact hmc.2.2.2.2
  have e1 : (as.map j2_cv).map (jm_v (lw_V1 D cI cB cZ s.heap.size tA)) = vs := by rw [← hvs, List.map_map]; rfl
  rw [← e1]
  refine lw_call (V := lw_V1 D cI cB cZ s.heap.size tA) (A0 := fun q : Nat => s.heap.size ≤ q) (y := y) (idx := idx) (d := 20) (o := o) (as := as.map j2_cv) (rest := rest) ⟨hx, hb, hml, hown, htb⟩ hsz hK hKn (fun k => rfl) hy ht1 hRp hS (fun _ h => h.1) (by show 20 + 1 ≤ 2048; omega) (by show 64 + 64 * 20 ≤ 84000; omega) (by rw [hmc.1]; exact hc) (by rw [hmc.2.1]; exact hs) hlen hl hr (Or.inl ⟨hmc.2.2.1, ?_, hd⟩) (fun r σ1' H1 locs1 hp hRp1 hS1 hz1 hk1 => ?_)
  · rw [hmc.2.2.2.1]
    exact hR.1 _ ho
  · obtain ⟨v, σ', rfl, hq, hR'⟩ := hp
    rw [hmc.1, hmc.2.1]
    have hsame : H1[s.heap.size + 193]? = H[s.heap.size + 193]? := hk1 _ (by omega) (fun h => h.2 rfl)
    exact kk v σ' H1 locs1 hq ⟨σ1', hR', hRp1, ⟨f, by rw [hsame]; exact hf⟩, by omega, hS1⟩ hsame
/-- from the helper's answer on -/
theorem lw_n_tail (C : lw_C p s m meth c b L xs D cI cB cZ cJ tA) {v : Int32} {g : Nat → Int64} (hg0 : g 0 = v.toInt64) (hg : H[s.heap.size + 193]? = some (arrV cJ 1 (fun j => .long (g j)))) {t1 : Nat} (hl7 : lv_has ls 7 ((6, .int v) :: (5, .int 0) :: lw_ll s.heap.size b (nI (6 * i)))) (d1 : decode code pc = .ok (.iload 5, 2)) (d2 : decode code (pc + 2) = .ok (.if_icmp .eq 5, 3)) (d3 : decode code (pc + 7) = .ok (.iload 5, 2)) (d4 : decode code (pc + 9) = .ok (.ifCond .ne 15, 3)) (d5 : decode code (pc + 12) = .ok (.aload_n 3, 1)) (d6 : decode code (pc + 13) = .ok (.iconst 0, 1)) (d7 : decode code (pc + 14) = .ok (.laload, 1)) (d8 : decode code (pc + 15) = .ok (.iload 6, 2)) (d9 : decode code (pc + 17) = .ok (.i2l, 1)) (d10 : decode code (pc + 18) = .ok (.lcmp, 1)) (d11 : decode code (pc + 19) = .ok (.ifCond .eq 5, 3)) {off : Int} (d12 : decode code (pc + 24) = .ok (.goto off, 3)) (ht : ((pc + 24 : Nat) : Int) + off = (t1 : Int))
    (kk : W p l e room_1 s m #[Value.ref b] below meth c H locs cells slots Q (F0 m t1 ls [])) : W p l e room_1 s m #[Value.ref b] below meth c H locs cells slots Q (F0 m pc ls [.int 0]) := by
  obtain ⟨⟨hx, hb, hr0, hml, hown, hts, hX, hbl, hlocks, hgv⟩, hK, hZ, hT, hJ, hL⟩ := C
  refine lv_iload hx hb d1 (lv_at hl7 1 rfl) ?_
  refine lv_icmp_eq (tgt := pc + 7) hx hb d2 (by omega) (fun _ => ?_) (fun h => absurd rfl h)
  refine lv_iload hx hb d3 (lv_at hl7 1 rfl) ?_
  refine lv_if_ne (tgt := pc + 24) hx hb d4 (by omega) (fun h => absurd rfl h) (fun _ => ?_)
  refine lv_aload_n hx hb d5 rfl (lv_at hl7 3 rfl) ?_
  refine lv_iconst (v := 0) hx hb d6 (by decide) ?_
  refine ly_lald hx hb hg hJ.1 d7 ?_
  refine lv_iload hx hb d8 (lv_at hl7 0 rfl) ?_
  refine lv_i2l (v := v.toInt64) hx hb d9 rfl ?_
  rw [hg0]
  refine ly_lcmp hx hb d10 ?_
  refine lv_if_eq (tgt := pc + 24) hx hb d11 (by omega) (fun _ => ?_) (fun h => absurd rfl h)
  exact lv_goto (tgt := t1) hx hb d12 ht kk
set_option maxHeartbeats 1000000 in
set_option maxRecDepth 100000 in
theorem lw_n_shrink (C : lw_C p s m meth c b L xs D cI cB cZ cJ tA) (hW : lw_Wd s D cI cB cZ cJ tA σ H locs) (hl : lv_has ls 7 (lw_ll s.heap.size b (nI (6 * i)))) (hi6 : 6 * i + 6 ≤ L) (hc : cells + 1 ≤ 228739) (hs : slots + 6 ≤ 8409888) (hst : lw_Sn K 140 226 [vI (xs (6 * i + 1))] σ)
    (kk : ∀ (σ' : j2_S) (H : Heap) (locs : List Loc) (ls : Array Slot), K σ' → lw_Wd s D cI cB cZ cJ tA σ' H locs → lv_has ls 7 (lw_ll s.heap.size b (nI (6 * i))) → W p l e room_1 s m #[Value.ref b] below meth c H locs (cells + 1) (slots + 6) Q (F0 m 885 ls [])) : W p l e room_1 s m #[Value.ref b] below meth c H locs cells slots Q (F0 m 472 ls []) := by
  obtain ⟨⟨hx, hb, hr, hml, hown, hts, hX, hbl, hlocks, hgv⟩, hK, hZ, hT, hAJ, hL⟩ := id C
  obtain ⟨σ0, hR0, hRp0, ⟨f, hf⟩, hz, hS⟩ := hW
  have htb : ∀ w ∈ jt_tb, w.before #[Value.ref b] s = true := fun w hw => lw_good hts hw
  have hR : j2_R σ (false, σ0.2) := lw_al hR0
  have hRp : jm_Rp jU (lw_V1 D cI cB cZ s.heap.size tA) (false, σ0.2) H := ⟨hRp0.1, hRp0.2.1, fun h => by cases h⟩
  have hKn := lw_Kn1 C hz hS
  have ht1 := j2_sim 20 140 _ σ _ (false, σ0.2) (fun r σ1' => ∃ v σ', r = some (.int v) ∧ j2_tc 20 226 (.inr (.inl (10, 121)) :: [vI (xs (6 * i + 1))]) σ' (fun r' σ2 => r' = some (vI v) ∧ j2_tc 20 155 [.inr (.inl (10, 121))] σ2 (fun r'' σ3 => r'' = some (vI 0) ∧ K σ3)) ∧ j2_R σ' σ1') (by decide +kernel) (by decide +kernel) hst (j2_oks_c.mpr ⟨lw_o9, fun w hw => by simp at hw; rcases hw with rfl; trivial⟩) hR (fun r σ' σ1' hq _ hR' => by
    obtain ⟨v, rfl, hq⟩ := hq
    exact ⟨v, σ', rfl, hq, hR'⟩)
  have hM := ly_shrink (l := l) (V := lw_V1 D cI cB cZ s.heap.size tA) (w := s.heap.size + 193) (cJ := cJ) (A0 := fun q : Nat => s.heap.size ≤ q) (a := xs (6 * i + 1)) ht1 (fun r σ' h => by obtain ⟨v, _, hv, _⟩ := h; exact ⟨v, hv⟩) (j2_o9 hR) (fun k => rfl) (fun h => h.2 rfl) (fun _ h => h.1) (Nat.le_add_right _ _)
  refine lv_aload_n hx hb dL_law_472 rfl (lv_at hl 3 rfl) ?_
  refine lw_arg (k := 1) C hS hl hi6 (by omega) dL_law_473 dL_law_474 dL_law_476 dL_law_477 dL_law_478 ?_
  refine lv_aload_n hx hb dL_law_479 rfl (lv_at hl 1 rfl) ?_
  have hrun := vx_runSX (l := l) (e := e) (below := below) (meth := meth) (R := room_1) (H := H) (locs := locs) (cells := cells) (slots := slots) (g := F0 m 480 ls [.ref (s.heap.size + 193), .int (xs (6 * i + 1)), .ref (s.heap.size + 0)]) (As := [.ref (s.heap.size + 0), .int (xs (6 * i + 1)), .ref (s.heap.size + 193)]) (rest := []) ⟨hx, hb, hml, hown, htb⟩ hM (vx_cwSW 3 htb lx_good_shrink rfl rfl rfl ⟨by decide, by decide, by decide +kernel⟩ ⟨by decide, by decide⟩) ⟨ly_blind, fun T hT hW => ⟨rfl, ⟨by rw [hT]; exact hRp, hKn T hT hW⟩, ⟨f, by rw [hT]; exact hf⟩, arrOfT_moved hW.alike hAJ.1⟩⟩ rfl rfl hl.1 rfl (lv_room (by decide)) dL_law_480 ⟨hc, hs⟩
  refine vx_calli hrun hS (fun q _ h => h) (fun q h => h) (fun q _ h => h.1) (fun E' ce q9 u t H1 locs1 _ _ hp => hp.elim) (fun r u t H1 locs1 ht hal hp hB hz1 hk1 hS1 => ?_)
  obtain ⟨rfl, v, σ', hv, hq, hR'⟩ := hp
  rw [ht] at hB
  obtain ⟨hB1, g, hg0, hg⟩ := hB
  have hv' : u.1 = v := by cases hv; rfl
  rw [hv'] at hg0
  have hW1 : lw_Wd s D cI cB cZ cJ tA σ' H1 locs1 := ⟨_, lw_al hR', hB1, ⟨g, hg⟩, by omega, hS1⟩
  refine lv_istore (lv' := (5, .int 0) :: lw_ll s.heap.size b (nI (6 * i))) hx hb dL_law_483 hl (by decide) rfl (fun ls5 hl5 => ?_)
  have hl6 : lv_has ls5 7 (lw_ll s.heap.size b (nI (6 * i))) := lv_sub hl5 [1, 2, 3, 4, 5] rfl
  refine lv_aload_n hx hb dL_law_485 rfl (lv_at hl6 2 rfl) ?_
  refine lw_arg (k := 1) C hS1 hl6 hi6 (by omega) dL_law_486 dL_law_487 dL_law_489 dL_law_490 dL_law_491 ?_
  refine lw_call3 (y := 226) (idx := 68) (q := 10) (o := 121) (as := [vI (xs (6 * i + 1))]) (vs := [.int (xs (6 * i + 1))]) (rest := []) C hW1 hl5.1 (by decide) hq (j2_oks_c.mpr ⟨lw_o10, fun w hw => by simp at hw; rcases hw with rfl; trivial⟩) rfl ⟨by decide +kernel, by decide +kernel, by decide +kernel, by decide +kernel, rfl⟩ hc hs (jt_in 1991 (by decide +kernel) rfl) (by decide) dL_law_492 (fun r σ1 h => ⟨_, h.1⟩) (fun v2 σ1 H2 locs2 hq hW2 hk2 => ?_)
  obtain ⟨hv2, hq⟩ := hq
  have e2 : v2 = v := by cases hv2; rfl
  rw [e2]
  refine lv_istore (lv' := (6, .int v) :: (5, .int 0) :: lw_ll s.heap.size b (nI (6 * i))) hx hb dL_law_495 hl5 (by decide) rfl (fun ls6 hl7 => ?_)
  refine lv_aload_n hx hb dL_law_497 rfl (lv_at hl7 4 rfl) ?_
  refine lw_call3 (y := 155) (idx := 69) (q := 10) (o := 121) (as := []) (vs := []) (rest := []) C hW2 hl7.1 (by decide) hq (j2_oks_c.mpr ⟨lw_o10, fun w hw => by cases hw⟩) rfl ⟨by decide +kernel, by decide +kernel, by decide +kernel, by decide +kernel, rfl⟩ hc hs (jt_in 1846 (by decide +kernel) rfl) (by decide) dL_law_498 (fun r σ h => ⟨_, h.1⟩) (fun v3 σ3 H3 locs3 hq3 hW3 hk3 => ?_)
  obtain ⟨hv3, hK3⟩ := hq3
  cases hv3
  refine lw_n_tail (t1 := 885) (v := v) C hg0 (by rw [hk3, hk2]; exact hg) hl7 dL_law_501 dL_law_503 dL_law_508 dL_law_510 dL_law_513 dL_law_514 dL_law_515 dL_law_516 dL_law_518 dL_law_519 dL_law_520 dL_law_525 (by decide) ?_
  exact kk σ3 H3 locs3 ls6 hK3 hW3 (lv_sub hl7 [2, 3, 4, 5, 6] rfl)
set_option maxHeartbeats 1000000 in
set_option maxRecDepth 100000 in
theorem lw_n_run (C : lw_C p s m meth c b L xs D cI cB cZ cJ tA) (hW : lw_Wd s D cI cB cZ cJ tA σ H locs) (hl : lv_has ls 7 (lw_ll s.heap.size b (nI (6 * i)))) (hi6 : 6 * i + 6 ≤ L) (hc : cells + 1 ≤ 228739) (hs : slots + 6 ≤ 8409888) (hst : lw_Sn K 145 241 [vI (lw_b (xs (6 * i + 1))), vI (xs (6 * i + 2)), vI (xs (6 * i + 3))] σ)
    (kk : ∀ (σ' : j2_S) (H : Heap) (locs : List Loc) (ls : Array Slot), K σ' → lw_Wd s D cI cB cZ cJ tA σ' H locs → lv_has ls 7 (lw_ll s.heap.size b (nI (6 * i))) → W p l e room_1 s m #[Value.ref b] below meth c H locs (cells + 1) (slots + 6) Q (F0 m 885 ls [])) : W p l e room_1 s m #[Value.ref b] below meth c H locs cells slots Q (F0 m 676 ls []) := by
  obtain ⟨⟨hx, hb, hr, hml, hown, hts, hX, hbl, hlocks, hgv⟩, hK, hZ, hT, hAJ, hL⟩ := id C
  obtain ⟨σ0, hR0, hRp0, ⟨f, hf⟩, hz, hS⟩ := hW
  have htb : ∀ w ∈ jt_tb, w.before #[Value.ref b] s = true := fun w hw => lw_good hts hw
  have hR : j2_R σ (false, σ0.2) := lw_al hR0
  have hRp : jm_Rp jU (lw_V1 D cI cB cZ s.heap.size tA) (false, σ0.2) H := ⟨hRp0.1, hRp0.2.1, fun h => by cases h⟩
  have hKn := lw_Kn1 C hz hS
  have ht1 := j2_sim 20 145 _ σ _ (false, σ0.2) (fun r σ1' => ∃ v σ', r = some (.int v) ∧ j2_tc 20 241 (.inr (.inl (10, 121)) :: [vI (lw_b (xs (6 * i + 1))), vI (xs (6 * i + 2)), vI (xs (6 * i + 3))]) σ' (fun r' σ2 => r' = some (vI v) ∧ j2_tc 20 155 [.inr (.inl (10, 121))] σ2 (fun r'' σ3 => r'' = some (vI 0) ∧ K σ3)) ∧ j2_R σ' σ1') (by decide +kernel) (by decide +kernel) hst (j2_oks_c.mpr ⟨lw_o9, fun w hw => by simp at hw; rcases hw with rfl | rfl | rfl <;> trivial⟩) hR (fun r σ' σ1' hq _ hR' => by
    obtain ⟨v, rfl, hq⟩ := hq
    exact ⟨v, σ', rfl, hq, hR'⟩)
  have hM := ly_run (l := l) (V := lw_V1 D cI cB cZ s.heap.size tA) (w := s.heap.size + 193) (cJ := cJ) (A0 := fun q : Nat => s.heap.size ≤ q) (b := lw_b (xs (6 * i + 1))) (a := xs (6 * i + 2)) (k := xs (6 * i + 3)) ht1 (fun r σ' h => by obtain ⟨v, _, hv, _⟩ := h; exact ⟨v, hv⟩) (j2_o9 hR) (fun k => rfl) (fun h => h.2 rfl) (fun _ h => h.1) (Nat.le_add_right _ _)
  refine lv_aload_n hx hb dL_law_676 rfl (lv_at hl 3 rfl) ?_
  refine lw_arg (k := 1) C hS hl hi6 (by omega) dL_law_677 dL_law_678 dL_law_680 dL_law_681 dL_law_682 ?_
  refine lw_bool C dL_law_683 dL_law_686 dL_law_687 dL_law_690 ?_
  refine lw_arg (k := 2) C hS hl hi6 (by omega) dL_law_691 dL_law_692 dL_law_694 dL_law_695 dL_law_696 ?_
  refine lw_arg (k := 3) C hS hl hi6 (by omega) dL_law_697 dL_law_698 dL_law_700 dL_law_701 dL_law_702 ?_
  refine lv_aload_n hx hb dL_law_703 rfl (lv_at hl 1 rfl) ?_
  have hrun := vx_runSX (l := l) (e := e) (below := below) (meth := meth) (R := room_1) (H := H) (locs := locs) (cells := cells) (slots := slots) (g := F0 m 704 ls [.ref (s.heap.size + 193), .int (xs (6 * i + 3)), .int (xs (6 * i + 2)), .int (lw_b (xs (6 * i + 1))), .ref (s.heap.size + 0)]) (As := [.ref (s.heap.size + 0), .int (lw_b (xs (6 * i + 1))), .int (xs (6 * i + 2)), .int (xs (6 * i + 3)), .ref (s.heap.size + 193)]) (rest := []) ⟨hx, hb, hml, hown, htb⟩ hM (vx_cwSW 5 htb lx_good_run rfl rfl rfl ⟨by decide, by decide, by decide +kernel⟩ ⟨by decide, by decide⟩) ⟨ly_blind, fun T hT hW => ⟨rfl, ⟨by rw [hT]; exact hRp, hKn T hT hW⟩, ⟨f, by rw [hT]; exact hf⟩, arrOfT_moved hW.alike hAJ.1⟩⟩ rfl rfl hl.1 rfl (lv_room (by decide)) dL_law_704 ⟨hc, hs⟩
  refine vx_calli hrun hS (fun q _ h => h) (fun q h => h) (fun q _ h => h.1) (fun E' ce q9 u t H1 locs1 _ _ hp => hp.elim) (fun r u t H1 locs1 ht hal hp hB hz1 hk1 hS1 => ?_)
  obtain ⟨rfl, v, σ', hv, hq, hR'⟩ := hp
  rw [ht] at hB
  obtain ⟨hB1, g, hg0, hg⟩ := hB
  have hv' : u.1 = v := by cases hv; rfl
  rw [hv'] at hg0
  have hW1 : lw_Wd s D cI cB cZ cJ tA σ' H1 locs1 := ⟨_, lw_al hR', hB1, ⟨g, hg⟩, by omega, hS1⟩
  refine lv_istore (lv' := (5, .int 0) :: lw_ll s.heap.size b (nI (6 * i))) hx hb dL_law_707 hl (by decide) rfl (fun ls5 hl5 => ?_)
  have hl6 : lv_has ls5 7 (lw_ll s.heap.size b (nI (6 * i))) := lv_sub hl5 [1, 2, 3, 4, 5] rfl
  refine lv_aload_n hx hb dL_law_709 rfl (lv_at hl6 2 rfl) ?_
  refine lw_arg (k := 1) C hS1 hl6 hi6 (by omega) dL_law_710 dL_law_711 dL_law_713 dL_law_714 dL_law_715 ?_
  refine lw_bool C dL_law_716 dL_law_719 dL_law_720 dL_law_723 ?_
  refine lw_arg (k := 2) C hS1 hl6 hi6 (by omega) dL_law_724 dL_law_725 dL_law_727 dL_law_728 dL_law_729 ?_
  refine lw_arg (k := 3) C hS1 hl6 hi6 (by omega) dL_law_730 dL_law_731 dL_law_733 dL_law_734 dL_law_735 ?_
  refine lw_call3 (y := 241) (idx := 91) (q := 10) (o := 121) (as := [vI (lw_b (xs (6 * i + 1))), vI (xs (6 * i + 2)), vI (xs (6 * i + 3))]) (vs := [.int (lw_b (xs (6 * i + 1))), .int (xs (6 * i + 2)), .int (xs (6 * i + 3))]) (rest := []) C hW1 hl5.1 (by decide) hq (j2_oks_c.mpr ⟨lw_o10, fun w hw => by simp at hw; rcases hw with rfl | rfl | rfl <;> trivial⟩) rfl ⟨by decide +kernel, by decide +kernel, by decide +kernel, by decide +kernel, rfl⟩ hc hs (jt_in 2146 (by decide +kernel) rfl) (by decide) dL_law_736 (fun r σ1 h => ⟨_, h.1⟩) (fun v2 σ1 H2 locs2 hq hW2 hk2 => ?_)
  obtain ⟨hv2, hq⟩ := hq
  have e2 : v2 = v := by cases hv2; rfl
  rw [e2]
  refine lv_istore (lv' := (6, .int v) :: (5, .int 0) :: lw_ll s.heap.size b (nI (6 * i))) hx hb dL_law_739 hl5 (by decide) rfl (fun ls6 hl7 => ?_)
  refine lv_aload_n hx hb dL_law_741 rfl (lv_at hl7 4 rfl) ?_
  refine lw_call3 (y := 155) (idx := 69) (q := 10) (o := 121) (as := []) (vs := []) (rest := []) C hW2 hl7.1 (by decide) hq (j2_oks_c.mpr ⟨lw_o10, fun w hw => by cases hw⟩) rfl ⟨by decide +kernel, by decide +kernel, by decide +kernel, by decide +kernel, rfl⟩ hc hs (jt_in 1846 (by decide +kernel) rfl) (by decide) dL_law_742 (fun r σ h => ⟨_, h.1⟩) (fun v3 σ3 H3 locs3 hq3 hW3 hk3 => ?_)
  obtain ⟨hv3, hK3⟩ := hq3
  cases hv3
  refine lw_n_tail (t1 := 885) (v := v) C hg0 (by rw [hk3, hk2]; exact hg) hl7 dL_law_745 dL_law_747 dL_law_752 dL_law_754 dL_law_757 dL_law_758 dL_law_759 dL_law_760 dL_law_762 dL_law_763 dL_law_764 dL_law_769 (by decide) ?_
  exact kk σ3 H3 locs3 ls6 hK3 hW3 (lv_sub hl7 [2, 3, 4, 5, 6] rfl)
end LWY
