/-! the law's cases of shrink and run, where the class throws -/
/-- M's part behind a throw: an answer, then what was thrown -/
def lw_Sx (K : j2_S → Prop) (yM : Nat) (as : List j2_W) (k : Int32) (σ : j2_S) : Prop := j2_tc 20 yM (.inr (.inl (10, 121)) :: as) σ (fun r σ1 => (∃ v, r = some (vI v)) ∧ j2_tc 20 155 [.inr (.inl (10, 121))] σ1 (fun r' σ2 => r' = some (vI k) ∧ K σ2))
theorem lx_good_shrink : GoodIn jt_tb (va_wsS RL 63 yL_shrink lx_w_shrink) := by
  intro w hw
  have h : w ∈ jt_tb := by
    simp only [va_wsS, lx_w_shrink, List.mem_append, List.mem_cons, List.not_mem_nil, or_false] at hw
    rcases hw with (rfl | rfl | rfl) | (rfl | h)
    · exact jt_in 1182 (by decide +kernel) rfl
    · exact jt_in 1183 (by decide +kernel) rfl
    · exact jt_in 0 (by decide +kernel) rfl
    · exact jt_in 1184 (by decide +kernel) rfl
    · exact h
  exact ⟨h, good_of_word (js_tg w h)⟩
theorem lx_good_run : GoodIn jt_tb (va_wsS RL 88 yL_run lx_w_run) := by
  intro w hw
  have h : w ∈ jt_tb := by
    simp only [va_wsS, lx_w_run, List.mem_append, List.mem_cons, List.not_mem_nil, or_false] at hw
    rcases hw with (rfl | rfl | rfl) | (rfl | h)
    · exact jt_in 1444 (by decide +kernel) rfl
    · exact jt_in 1445 (by decide +kernel) rfl
    · exact jt_in 0 (by decide +kernel) rfl
    · exact jt_in 1446 (by decide +kernel) rfl
    · exact h
  exact ⟨h, good_of_word (js_tg w h)⟩
section LWX
variable {p : Program} {l : Launch} {e : Env} {s : State} {m : MethodId} {below : List Frame} {meth : Method} {c : Code} {b L : Nat} {xs : Nat → Int32} {D : va_G} {cI cB cZ cJ : ClassId} {tA : Nat} {H : Heap} {locs : List Loc} {cells slots i : Nat} {ls : Array Slot} {Q : State → Prop} {σ : j2_S} {K : j2_S → Prop} {k : Int32}
set_option maxHeartbeats 1000000 in
set_option maxRecDepth 100000 in
theorem lw_x_shrink (C : lw_C p s m meth c b L xs D cI cB cZ cJ tA) (hTx : tx_K (fun q : Nat => s.heap.size ≤ q) s) (hk0 : ¬ k = 0) (hM : ∀ σ1 : jm_S, j2_R σ σ1 → σ1.1 = false → vx_Met l yL_shrink lx_w_shrink lx_rm (lx_P (lw_V1 D cI cB cZ s.heap.size tA) [.ref (s.heap.size + 0), .int (xs (6 * i + 1)), .ref (s.heap.size + 193)] σ1) (lx_Q (lw_V1 D cI cB cZ s.heap.size tA) σ1 k) (lx_X0 (lw_V1 D cI cB cZ s.heap.size tA)) 1 6 (jm_A (lw_V1 D cI cB cZ s.heap.size tA)))
    (hW : lw_Wd s D cI cB cZ cJ tA σ H locs) (hl : lv_has ls 7 (lw_ll s.heap.size b (nI (6 * i)))) (hi6 : 6 * i + 6 ≤ L) (hc : cells + 1 ≤ 247135) (hs : slots + 6 ≤ 8360832) (hst : lw_Sx K 226 [vI (xs (6 * i + 1))] k σ)
    (kk : ∀ (σ' : j2_S) (H : Heap) (locs : List Loc) (ls : Array Slot), K σ' → lw_Wd s D cI cB cZ cJ tA σ' H locs → lv_has ls 7 (lw_ll s.heap.size b (nI (6 * i))) → W p l e room_1 s m #[Value.ref b] below meth c H locs (cells + 1) (slots + 6) Q (F0 m 885 ls [])) : W p l e room_1 s m #[Value.ref b] below meth c H locs cells slots Q (F0 m 472 ls []) := by
  obtain ⟨⟨hx, hb, hr, hml, hown, hts, hX, hbl, hlocks, hgv⟩, hK, hZ, hT, hAJ, hL⟩ := id C
  obtain ⟨σ0, hR0, hRp0, ⟨f, hf⟩, hz, hS⟩ := hW
  have htb : ∀ w ∈ jt_tb, w.before #[Value.ref b] s = true := fun w hw => lw_good hts hw
  have hR : j2_R σ (false, σ0.2) := lw_al hR0
  have hRp : jm_Rp jU (lw_V1 D cI cB cZ s.heap.size tA) (false, σ0.2) H := ⟨hRp0.1, hRp0.2.1, fun h => by cases h⟩
  have hKn := lw_Kn1 C hz hS
  refine lv_aload_n hx hb dL_law_472 rfl (lv_at hl 3 rfl) ?_
  refine lw_arg (k := 1) C hS hl hi6 (by omega) dL_law_473 dL_law_474 dL_law_476 dL_law_477 dL_law_478 ?_
  refine lv_aload_n hx hb dL_law_479 rfl (lv_at hl 1 rfl) ?_
  have hrun := vx_runSX (l := l) (e := e) (below := below) (meth := meth) (R := room_1) (H := H) (locs := locs) (cells := cells) (slots := slots) (g := F0 m 480 ls [.ref (s.heap.size + 193), .int (xs (6 * i + 1)), .ref (s.heap.size + 0)]) (As := [.ref (s.heap.size + 0), .int (xs (6 * i + 1)), .ref (s.heap.size + 193)]) (rest := []) ⟨hx, hb, hml, hown, htb⟩ (hM _ hR rfl) (vx_cwSW 3 htb lx_good_shrink rfl rfl rfl ⟨by decide, by decide, by decide +kernel⟩ ⟨by decide, by decide⟩) ⟨lx_blind, fun T hT hW => ⟨rfl, ⟨by rw [hT]; exact hRp, hKn T hT hW⟩, (hTx.later hS hT hW).narrow (fun _ h => h.1)⟩⟩ rfl rfl hl.1 rfl (lv_room (by decide)) dL_law_480 ⟨hc, hs⟩
  refine vx_calli hrun hS (fun q _ h => h.1) (fun q h => h.1) (fun q _ h => h.1) (fun E' ce q9 u t H1 locs1 _ _ hp => hp.elim) (fun r u t H1 locs1 ht hal hp hB hz1 hk1 hS1 => ?_)
  subst hp
  rw [ht] at hB
  have hW1 : lw_Wd s D cI cB cZ cJ tA σ H1 locs1 := ⟨_, hR, hB, ⟨f, by rw [hk1 _ (by omega) (fun h => h.2 rfl)]; exact hf⟩, by omega, hS1⟩
  refine lv_istore (lv' := (5, .int r) :: lw_ll s.heap.size b (nI (6 * i))) hx hb dL_law_483 hl (by decide) rfl (fun ls5 hl5 => ?_)
  have hl6 : lv_has ls5 7 (lw_ll s.heap.size b (nI (6 * i))) := lv_sub hl5 [1, 2, 3, 4, 5] rfl
  refine lv_aload_n hx hb dL_law_485 rfl (lv_at hl6 2 rfl) ?_
  refine lw_arg (k := 1) C hS1 hl6 hi6 (by omega) dL_law_486 dL_law_487 dL_law_489 dL_law_490 dL_law_491 ?_
  refine lw_call2 (y := 226) (idx := 68) (q := 10) (o := 121) (as := [vI (xs (6 * i + 1))]) (vs := [.int (xs (6 * i + 1))]) (rest := []) C hW1 hl5.1 (by decide) hst (j2_oks_c.mpr ⟨lw_o10, fun w hw => by simp at hw; rcases hw with rfl <;> trivial⟩) rfl ⟨by decide +kernel, by decide +kernel, by decide +kernel, by decide +kernel, rfl⟩ hc hs (jt_in 1991 (by decide +kernel) rfl) (by decide) dL_law_492 (fun r σ1 h => h.1) (fun v σ1 H2 locs2 hq hW2 => ?_)
  obtain ⟨-, hq⟩ := hq
  refine lv_istore (lv' := (6, .int v) :: (5, .int r) :: lw_ll s.heap.size b (nI (6 * i))) hx hb dL_law_495 hl5 (by decide) rfl (fun ls6 hl7 => ?_)
  refine lv_aload_n hx hb dL_law_497 rfl (lv_at hl7 4 rfl) ?_
  refine lw_call2 (y := 155) (idx := 69) (q := 10) (o := 121) (as := []) (vs := []) (rest := []) C hW2 hl7.1 (by decide) hq (j2_oks_c.mpr ⟨lw_o10, fun w hw => by cases hw⟩) rfl ⟨by decide +kernel, by decide +kernel, by decide +kernel, by decide +kernel, rfl⟩ hc hs (jt_in 1846 (by decide +kernel) rfl) (by decide) dL_law_498 (fun r σ h => ⟨_, h.1⟩) (fun v3 σ3 H3 locs3 hq3 hW3 => ?_)
  obtain ⟨hv3, hK3⟩ := hq3
  cases hv3
  refine lv_iload hx hb dL_law_501 (lv_at hl7 1 rfl) ?_
  refine lv_icmp_eq (tgt := 508) hx hb dL_law_503 (by decide) (fun _ => ?_) (fun h => absurd rfl h)
  refine lv_iload hx hb dL_law_508 (lv_at hl7 1 rfl) ?_
  refine lv_if_ne (tgt := 525) hx hb dL_law_510 (by decide) (fun _ => ?_) (fun h => absurd h hk0)
  refine lv_goto (tgt := 885) hx hb dL_law_525 (by decide) ?_
  exact kk σ3 H3 locs3 ls6 hK3 hW3 (lv_sub hl7 [2, 3, 4, 5, 6] rfl)
set_option maxHeartbeats 1000000 in
set_option maxRecDepth 100000 in
theorem lw_x_run (C : lw_C p s m meth c b L xs D cI cB cZ cJ tA) (hTx : tx_K (fun q : Nat => s.heap.size ≤ q) s) (hk0 : ¬ k = 0) (hM : ∀ σ1 : jm_S, j2_R σ σ1 → σ1.1 = false → vx_Met l yL_run lx_w_run lx_rm (lx_P (lw_V1 D cI cB cZ s.heap.size tA) [.ref (s.heap.size + 0), .int (lw_b (xs (6 * i + 1))), .int (xs (6 * i + 2)), .int (xs (6 * i + 3)), .ref (s.heap.size + 193)] σ1) (lx_Q (lw_V1 D cI cB cZ s.heap.size tA) σ1 k) (lx_X0 (lw_V1 D cI cB cZ s.heap.size tA)) 1 6 (jm_A (lw_V1 D cI cB cZ s.heap.size tA)))
    (hW : lw_Wd s D cI cB cZ cJ tA σ H locs) (hl : lv_has ls 7 (lw_ll s.heap.size b (nI (6 * i)))) (hi6 : 6 * i + 6 ≤ L) (hc : cells + 1 ≤ 247135) (hs : slots + 6 ≤ 8360832) (hst : lw_Sx K 241 [vI (lw_b (xs (6 * i + 1))), vI (xs (6 * i + 2)), vI (xs (6 * i + 3))] k σ)
    (kk : ∀ (σ' : j2_S) (H : Heap) (locs : List Loc) (ls : Array Slot), K σ' → lw_Wd s D cI cB cZ cJ tA σ' H locs → lv_has ls 7 (lw_ll s.heap.size b (nI (6 * i))) → W p l e room_1 s m #[Value.ref b] below meth c H locs (cells + 1) (slots + 6) Q (F0 m 885 ls [])) : W p l e room_1 s m #[Value.ref b] below meth c H locs cells slots Q (F0 m 676 ls []) := by
  obtain ⟨⟨hx, hb, hr, hml, hown, hts, hX, hbl, hlocks, hgv⟩, hK, hZ, hT, hAJ, hL⟩ := id C
  obtain ⟨σ0, hR0, hRp0, ⟨f, hf⟩, hz, hS⟩ := hW
  have htb : ∀ w ∈ jt_tb, w.before #[Value.ref b] s = true := fun w hw => lw_good hts hw
  have hR : j2_R σ (false, σ0.2) := lw_al hR0
  have hRp : jm_Rp jU (lw_V1 D cI cB cZ s.heap.size tA) (false, σ0.2) H := ⟨hRp0.1, hRp0.2.1, fun h => by cases h⟩
  have hKn := lw_Kn1 C hz hS
  refine lv_aload_n hx hb dL_law_676 rfl (lv_at hl 3 rfl) ?_
  refine lw_arg (k := 1) C hS hl hi6 (by omega) dL_law_677 dL_law_678 dL_law_680 dL_law_681 dL_law_682 ?_
  refine lw_bool C dL_law_683 dL_law_686 dL_law_687 dL_law_690 ?_
  refine lw_arg (k := 2) C hS hl hi6 (by omega) dL_law_691 dL_law_692 dL_law_694 dL_law_695 dL_law_696 ?_
  refine lw_arg (k := 3) C hS hl hi6 (by omega) dL_law_697 dL_law_698 dL_law_700 dL_law_701 dL_law_702 ?_
  refine lv_aload_n hx hb dL_law_703 rfl (lv_at hl 1 rfl) ?_
  have hrun := vx_runSX (l := l) (e := e) (below := below) (meth := meth) (R := room_1) (H := H) (locs := locs) (cells := cells) (slots := slots) (g := F0 m 704 ls [.ref (s.heap.size + 193), .int (xs (6 * i + 3)), .int (xs (6 * i + 2)), .int (lw_b (xs (6 * i + 1))), .ref (s.heap.size + 0)]) (As := [.ref (s.heap.size + 0), .int (lw_b (xs (6 * i + 1))), .int (xs (6 * i + 2)), .int (xs (6 * i + 3)), .ref (s.heap.size + 193)]) (rest := []) ⟨hx, hb, hml, hown, htb⟩ (hM _ hR rfl) (vx_cwSW 5 htb lx_good_run rfl rfl rfl ⟨by decide, by decide, by decide +kernel⟩ ⟨by decide, by decide⟩) ⟨lx_blind, fun T hT hW => ⟨rfl, ⟨by rw [hT]; exact hRp, hKn T hT hW⟩, (hTx.later hS hT hW).narrow (fun _ h => h.1)⟩⟩ rfl rfl hl.1 rfl (lv_room (by decide)) dL_law_704 ⟨hc, hs⟩
  refine vx_calli hrun hS (fun q _ h => h.1) (fun q h => h.1) (fun q _ h => h.1) (fun E' ce q9 u t H1 locs1 _ _ hp => hp.elim) (fun r u t H1 locs1 ht hal hp hB hz1 hk1 hS1 => ?_)
  subst hp
  rw [ht] at hB
  have hW1 : lw_Wd s D cI cB cZ cJ tA σ H1 locs1 := ⟨_, hR, hB, ⟨f, by rw [hk1 _ (by omega) (fun h => h.2 rfl)]; exact hf⟩, by omega, hS1⟩
  refine lv_istore (lv' := (5, .int r) :: lw_ll s.heap.size b (nI (6 * i))) hx hb dL_law_707 hl (by decide) rfl (fun ls5 hl5 => ?_)
  have hl6 : lv_has ls5 7 (lw_ll s.heap.size b (nI (6 * i))) := lv_sub hl5 [1, 2, 3, 4, 5] rfl
  refine lv_aload_n hx hb dL_law_709 rfl (lv_at hl6 2 rfl) ?_
  refine lw_arg (k := 1) C hS1 hl6 hi6 (by omega) dL_law_710 dL_law_711 dL_law_713 dL_law_714 dL_law_715 ?_
  refine lw_bool C dL_law_716 dL_law_719 dL_law_720 dL_law_723 ?_
  refine lw_arg (k := 2) C hS1 hl6 hi6 (by omega) dL_law_724 dL_law_725 dL_law_727 dL_law_728 dL_law_729 ?_
  refine lw_arg (k := 3) C hS1 hl6 hi6 (by omega) dL_law_730 dL_law_731 dL_law_733 dL_law_734 dL_law_735 ?_
  refine lw_call2 (y := 241) (idx := 91) (q := 10) (o := 121) (as := [vI (lw_b (xs (6 * i + 1))), vI (xs (6 * i + 2)), vI (xs (6 * i + 3))]) (vs := [.int (lw_b (xs (6 * i + 1))), .int (xs (6 * i + 2)), .int (xs (6 * i + 3))]) (rest := []) C hW1 hl5.1 (by decide) hst (j2_oks_c.mpr ⟨lw_o10, fun w hw => by simp at hw; rcases hw with rfl | rfl | rfl <;> trivial⟩) rfl ⟨by decide +kernel, by decide +kernel, by decide +kernel, by decide +kernel, rfl⟩ hc hs (jt_in 2146 (by decide +kernel) rfl) (by decide) dL_law_736 (fun r σ1 h => h.1) (fun v σ1 H2 locs2 hq hW2 => ?_)
  obtain ⟨-, hq⟩ := hq
  refine lv_istore (lv' := (6, .int v) :: (5, .int r) :: lw_ll s.heap.size b (nI (6 * i))) hx hb dL_law_739 hl5 (by decide) rfl (fun ls6 hl7 => ?_)
  refine lv_aload_n hx hb dL_law_741 rfl (lv_at hl7 4 rfl) ?_
  refine lw_call2 (y := 155) (idx := 69) (q := 10) (o := 121) (as := []) (vs := []) (rest := []) C hW2 hl7.1 (by decide) hq (j2_oks_c.mpr ⟨lw_o10, fun w hw => by cases hw⟩) rfl ⟨by decide +kernel, by decide +kernel, by decide +kernel, by decide +kernel, rfl⟩ hc hs (jt_in 1846 (by decide +kernel) rfl) (by decide) dL_law_742 (fun r σ h => ⟨_, h.1⟩) (fun v3 σ3 H3 locs3 hq3 hW3 => ?_)
  obtain ⟨hv3, hK3⟩ := hq3
  cases hv3
  refine lv_iload hx hb dL_law_745 (lv_at hl7 1 rfl) ?_
  refine lv_icmp_eq (tgt := 752) hx hb dL_law_747 (by decide) (fun _ => ?_) (fun h => absurd rfl h)
  refine lv_iload hx hb dL_law_752 (lv_at hl7 1 rfl) ?_
  refine lv_if_ne (tgt := 769) hx hb dL_law_754 (by decide) (fun _ => ?_) (fun h => absurd h hk0)
  refine lv_goto (tgt := 885) hx hb dL_law_769 (by decide) ?_
  exact kk σ3 H3 locs3 ls6 hK3 hW3 (lv_sub hl7 [2, 3, 4, 5, 6] rfl)
end LWX
