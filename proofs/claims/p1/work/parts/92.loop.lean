/-! the law's loop -/
/-- every call but shrink and run, on both: the same answer; J ahead of it, K behind it -/
def lw_St (J K : j2_S → Prop) : Prop := ∀ (σ : j2_S), J σ → ∀ a1 a2 a3 a4 a5 : Int32, lw_S2 K 128 156 [vI a1, vI a2, vI a3, vI a4, vI a5] σ ∧ lw_S2 K 130 157 [vI a1] σ ∧ lw_S2 K 131 185 [] σ ∧ lw_S2 K 134 186 [vI a1] σ ∧ lw_S2 K 135 188 [vI (lw_b a1), vI a2] σ ∧ lw_S2 K 136 189 [vI (lw_b a1), vI a2, vI a3, vI a4] σ ∧ lw_S2 K 137 190 [vI a1, vI a2, vI a3] σ ∧ lw_S2 K 139 191 [vI a1] σ ∧ lw_S2 K 141 227 [vI a1] σ ∧ lw_S2 K 142 228 [vI a1, vI a2, vI a3] σ ∧ lw_S2 K 143 229 [vI a1] σ ∧ lw_S2 K 144 230 [vI a1, vI a2, vI a3] σ ∧ lw_S2 K 146 242 [vI a1] σ ∧ lw_S2 K 147 243 [vI a1] σ ∧ lw_S2 K 148 244 [vI a1] σ ∧ lw_S2 K 149 245 [vI a1] σ ∧ lw_S2 K 150 246 [] σ ∧ K σ
section LWLOOP
variable {p : Program} {l : Launch} {e : Env} {s : State} {m : MethodId} {below : List Frame} {meth : Method} {c : Code} {b L : Nat} {xs : Nat → Int32} {D : va_G} {cI cB cZ cJ : ClassId} {tA : Nat}
/-- the case of the law at pc, as shrink and run have it: it may make a cell of six slots -/
def lw_Cs (p : Program) (l : Launch) (e : Env) (s : State) (m : MethodId) (below : List Frame) (meth : Method) (c : Code) (b L : Nat) (D : va_G) (cI cB cZ cJ : ClassId) (tA : Nat) (J K : j2_S → Prop) (pc : Nat) : Prop := ∀ (σ : j2_S) (H : Heap) (locs : List Loc) (ls : Array Slot) (cells slots i : Nat), J σ → lw_Wd s D cI cB cZ cJ tA σ H locs → lv_has ls 7 (lw_ll s.heap.size b (nI (6 * i))) → 6 * i + 6 ≤ L → cells + 1 ≤ 247135 → slots + 6 ≤ 8360832 →
  (∀ (σ' : j2_S) (H : Heap) (locs : List Loc) (ls : Array Slot), K σ' → lw_Wd s D cI cB cZ cJ tA σ' H locs → lv_has ls 7 (lw_ll s.heap.size b (nI (6 * i))) → W p l e room_1 s m #[Value.ref b] below meth c H locs (cells + 1) (slots + 6) (lw_Z below #[Value.ref b] s) (F0 m 885 ls [])) → W p l e room_1 s m #[Value.ref b] below meth c H locs cells slots (lw_Z below #[Value.ref b] s) (F0 m pc ls [])
theorem lw_end {L i : Nat} (hL : L ≤ 3072) (hi : 6 * i ≤ L) : (Int32.ofNat L - 6 < nI (6 * i)) ↔ ¬ 6 * i + 6 ≤ L := by
  by_cases h6 : 6 ≤ L
  · have e1 : Int32.ofNat L - 6 = nI (L - 6) := by
      have : Int32.ofNat L = nI (L - 6) + 6 := by
        rw [show (6 : Int32) = nI 6 from rfl, nI_add, show L - 6 + 6 = L by omega]
        rfl
      rw [this, Int32.add_sub_cancel]
    rw [e1, nI_ltI (by omega) (by omega)]
    omega
  · have hi0 : i = 0 := by omega
    subst hi0
    have : ∀ k, k < 6 → (Int32.ofNat k - 6 < nI (6 * 0)) := by decide +kernel
    exact ⟨fun _ => by omega, fun _ => this L (by omega)⟩
set_option maxHeartbeats 2000000 in
set_option maxRecDepth 100000 in
theorem lw_loop (C : lw_C p s m meth c b L xs D cI cB cZ cJ tA) (J : Nat → j2_S → Prop) (hJ : ∀ n, 6 * n + 6 ≤ L → lw_St (J n) (J (n + 1)) ∧ lw_Cs p l e s m below meth c b L D cI cB cZ cJ tA (J n) (J (n + 1)) 472 ∧ lw_Cs p l e s m below meth c b L D cI cB cZ cJ tA (J n) (J (n + 1)) 676) :
    ∀ (r i : Nat), 6 * i ≤ L → L < 6 * i + 6 * r + 6 → ∀ (σ : j2_S) (H : Heap) (locs : List Loc) (ls : Array Slot), J i σ → lw_Wd s D cI cB cZ cJ tA σ H locs → lv_has ls 7 (lw_ll s.heap.size b (nI (6 * i))) → W p l e room_1 s m #[Value.ref b] below meth c H locs (194 + i) (1098978 + 6 * i) (lw_Z below #[Value.ref b] s) (F0 m 23 ls []) := by
  obtain ⟨⟨hx, hb, hr, hml, hown, hts, hX, hbl, hlocks, hgv⟩, hK, hZ, hT, hAJ, hL⟩ := id C
  have hbA : ¬ (fun q : Nat => s.heap.size ≤ q) b := Nat.not_le.mpr hbl
  intro r
  induction r with
  | zero =>
    intro i hi hr0 σ H locs ls hσ hW hl
    obtain ⟨-, -, -, -, -, hS⟩ := id hW
    refine lv_iload hx hb dL_law_23 (lv_at hl 0 rfl) ?_
    refine lv_aload_n hx hb dL_law_25 rfl (lv_at hl 4 rfl) ?_
    refine va_slen hx hb hX hbl hbA hS dL_law_26 ?_
    refine lv_bipush (v := 6) hx hb dL_law_27 rfl ?_
    refine lv_isub hx hb dL_law_29 ?_
    refine lv_icmp_gt (tgt := 891) hx hb dL_law_30 (by decide) (fun _ => ?_) (fun h => absurd ((lw_end hL hi).mpr (by omega)) h)
    refine lv_iconst (v := 1) hx hb dL_law_891 (by decide) ?_
    refine va_forget (fun q hq => hS.2.2 q hq) ?_
    refine W.widen (k := 247135) (n := 8360832) (by omega) (by omega) ?_
    exact lw_ret hx hb hr hlocks dL_law_892
  | succ r ih =>
    intro i hi hr0 σ H locs ls hσ hW hl
    obtain ⟨-, -, -, -, -, hS⟩ := id hW
    refine lv_iload hx hb dL_law_23 (lv_at hl 0 rfl) ?_
    refine lv_aload_n hx hb dL_law_25 rfl (lv_at hl 4 rfl) ?_
    refine va_slen hx hb hX hbl hbA hS dL_law_26 ?_
    refine lv_bipush (v := 6) hx hb dL_law_27 rfl ?_
    refine lv_isub hx hb dL_law_29 ?_
    refine lv_icmp_gt (tgt := 891) hx hb dL_law_30 (by decide) (fun _ => ?_) (fun hge => ?_)
    · refine lv_iconst (v := 1) hx hb dL_law_891 (by decide) ?_
      refine va_forget (fun q hq => hS.2.2 q hq) ?_
      refine W.widen (k := 247135) (n := 8360832) (by omega) (by omega) ?_
      exact lw_ret hx hb hr hlocks dL_law_892
    have hi6 : 6 * i + 6 ≤ L := Nat.le_of_not_lt (fun q => hge ((lw_end hL hi).mpr (by omega)))
    obtain ⟨hst, h8, h13⟩ := hJ i hi6
    have hst := hst σ hσ (xs (6 * i + 1)) (xs (6 * i + 2)) (xs (6 * i + 3)) (xs (6 * i + 4)) (xs (6 * i + 5))
    have next : ∀ (σ' : j2_S) (H : Heap) (locs : List Loc) (ls : Array Slot), J (i + 1) σ' → lw_Wd s D cI cB cZ cJ tA σ' H locs → lv_has ls 7 (lw_ll s.heap.size b (nI (6 * i))) → W p l e room_1 s m #[Value.ref b] below meth c H locs (194 + i + 1) (1098978 + 6 * i + 6) (lw_Z below #[Value.ref b] s) (F0 m 885 ls []) := by
      intro σ' H locs ls hσ' hW' hl'
      refine lv_iinc (v := nI (6 * (i + 1))) (lv' := lw_ll s.heap.size b (nI (6 * (i + 1)))) hx hb dL_law_885 hl' (k := 0) rfl ?_ (by decide) rfl (fun ls hl => ?_)
      · show nI (6 * i) + nI 6 = _
        rw [nI_add]
        rfl
      refine lv_goto (tgt := 23) hx hb dL_law_888 (by decide) ?_
      exact ih (i + 1) (by omega) (by omega) σ' H locs ls hσ' hW' hl
    have next1 : ∀ (σ' : j2_S) (H : Heap) (locs : List Loc), J (i + 1) σ' → lw_Wd s D cI cB cZ cJ tA σ' H locs → W p l e room_1 s m #[Value.ref b] below meth c H locs (194 + i) (1098978 + 6 * i) (lw_Z below #[Value.ref b] s) (F0 m 885 ls []) := fun σ' H locs hσ' hW' => W.widen (by omega) (by omega) (next σ' H locs ls hσ' hW' hl)
    refine lv_aload_n hx hb dL_law_33 rfl (lv_at hl 4 rfl) ?_
    refine lv_iload hx hb dL_law_34 (lv_at hl 0 rfl) ?_
    refine va_sld hx hb hX hbl (A := fun q : Nat => s.heap.size ≤ q) hbA hS (by unfold vp_in; exact nI_in (by omega) (by omega)) dL_law_36 ?_
    refine lv_bipush (v := 31) hx hb dL_law_37 rfl ?_
    refine lv_iand hx hb dL_law_39 ?_
    generalize xs (nI (6 * i)).toNatClampNeg &&& 31 = x
    have hc : 194 + i ≤ 247135 := by omega
    have hs : 1098978 + 6 * i ≤ 8360832 := by omega
    by_cases g : x.toInt < 0 ∨ 18 < x.toInt
    · exact lv_tableOut (tgt := 885) hx hb dL_law_40 g (by decide) (next1 σ H locs (hst.2.2.2.2.2.2.2.2.2.2.2.2.2.2.2.2.2) hW)
    have g1 : ¬ x.toInt < 0 := fun q => g (Or.inl q)
    have g2 : ¬ 18 < x.toInt := fun q => g (Or.inr q)
    have gs : x.toInt = 0 ∨ x.toInt = 1 ∨ x.toInt = 2 ∨ x.toInt = 3 ∨ x.toInt = 4 ∨ x.toInt = 5 ∨ x.toInt = 6 ∨ x.toInt = 7 ∨ x.toInt = 8 ∨ x.toInt = 9 ∨ x.toInt = 10 ∨ x.toInt = 11 ∨ x.toInt = 12 ∨ x.toInt = 13 ∨ x.toInt = 14 ∨ x.toInt = 15 ∨ x.toInt = 16 ∨ x.toInt = 17 ∨ x.toInt = 18 := by omega
    rcases gs with gk | gk | gk | gk | gk | gk | gk | gk | gk | gk | gk | gk | gk | gk | gk | gk | gk | gk | gk
    · exact lv_tableIn (off := 92) (tgt := 132) hx hb dL_law_40 g1 g2 (by rw [gk]; rfl) (by decide) (lw_case0 C hW hl hi6 hc hs hst.1 next1)
    · exact lv_tableIn (off := 165) (tgt := 205) hx hb dL_law_40 g1 g2 (by rw [gk]; rfl) (by decide) (lw_case1 C hW hl hi6 hc hs hst.2.1 next1)
    · exact lv_tableIn (off := 190) (tgt := 230) hx hb dL_law_40 g1 g2 (by rw [gk]; rfl) (by decide) (lw_case2 C hW hl hi6 hc hs hst.2.2.1 next1)
    · exact lv_tableIn (off := 203) (tgt := 243) hx hb dL_law_40 g1 g2 (by rw [gk]; rfl) (by decide) (lw_case3 C hW hl hi6 hc hs hst.2.2.2.1 next1)
    · exact lv_tableIn (off := 228) (tgt := 268) hx hb dL_law_40 g1 g2 (by rw [gk]; rfl) (by decide) (lw_case4 C hW hl hi6 hc hs hst.2.2.2.2.1 next1)
    · exact lv_tableIn (off := 281) (tgt := 321) hx hb dL_law_40 g1 g2 (by rw [gk]; rfl) (by decide) (lw_case5 C hW hl hi6 hc hs hst.2.2.2.2.2.1 next1)
    · exact lv_tableIn (off := 358) (tgt := 398) hx hb dL_law_40 g1 g2 (by rw [gk]; rfl) (by decide) (lw_case6 C hW hl hi6 hc hs hst.2.2.2.2.2.2.1 next1)
    · exact lv_tableIn (off := 407) (tgt := 447) hx hb dL_law_40 g1 g2 (by rw [gk]; rfl) (by decide) (lw_case7 C hW hl hi6 hc hs hst.2.2.2.2.2.2.2.1 next1)
    · exact lv_tableIn (off := 432) (tgt := 472) hx hb dL_law_40 g1 g2 (by rw [gk]; rfl) (by decide) (h8 σ H locs ls _ _ i hσ hW hl hi6 (by omega) (by omega) next)
    · exact lv_tableIn (off := 488) (tgt := 528) hx hb dL_law_40 g1 g2 (by rw [gk]; rfl) (by decide) (lw_case9 C hW hl hi6 hc hs hst.2.2.2.2.2.2.2.2.1 next1)
    · exact lv_tableIn (off := 513) (tgt := 553) hx hb dL_law_40 g1 g2 (by rw [gk]; rfl) (by decide) (lw_case10 C hW hl hi6 hc hs hst.2.2.2.2.2.2.2.2.2.1 next1)
    · exact lv_tableIn (off := 562) (tgt := 602) hx hb dL_law_40 g1 g2 (by rw [gk]; rfl) (by decide) (lw_case11 C hW hl hi6 hc hs hst.2.2.2.2.2.2.2.2.2.2.1 next1)
    · exact lv_tableIn (off := 587) (tgt := 627) hx hb dL_law_40 g1 g2 (by rw [gk]; rfl) (by decide) (lw_case12 C hW hl hi6 hc hs hst.2.2.2.2.2.2.2.2.2.2.2.1 next1)
    · exact lv_tableIn (off := 636) (tgt := 676) hx hb dL_law_40 g1 g2 (by rw [gk]; rfl) (by decide) (h13 σ H locs ls _ _ i hσ hW hl hi6 (by omega) (by omega) next)
    · exact lv_tableIn (off := 732) (tgt := 772) hx hb dL_law_40 g1 g2 (by rw [gk]; rfl) (by decide) (lw_case14 C hW hl hi6 hc hs hst.2.2.2.2.2.2.2.2.2.2.2.2.1 next1)
    · exact lv_tableIn (off := 757) (tgt := 797) hx hb dL_law_40 g1 g2 (by rw [gk]; rfl) (by decide) (lw_case15 C hW hl hi6 hc hs hst.2.2.2.2.2.2.2.2.2.2.2.2.2.1 next1)
    · exact lv_tableIn (off := 782) (tgt := 822) hx hb dL_law_40 g1 g2 (by rw [gk]; rfl) (by decide) (lw_case16 C hW hl hi6 hc hs hst.2.2.2.2.2.2.2.2.2.2.2.2.2.2.1 next1)
    · exact lv_tableIn (off := 807) (tgt := 847) hx hb dL_law_40 g1 g2 (by rw [gk]; rfl) (by decide) (lw_case17 C hW hl hi6 hc hs hst.2.2.2.2.2.2.2.2.2.2.2.2.2.2.2.1 next1)
    · exact lv_tableIn (off := 832) (tgt := 872) hx hb dL_law_40 g1 g2 (by rw [gk]; rfl) (by decide) (lw_case18 C hW hl hi6 hc hs hst.2.2.2.2.2.2.2.2.2.2.2.2.2.2.2.2.1 next1)
end LWLOOP
