/-! the law's cases of shrink and run, all of them -/
section LWCSN
variable {p : Program} {l : Launch} {e : Env} {s : State} {m : MethodId} {below : List Frame} {meth : Method} {c : Code} {b L : Nat} {xs : Nat → Int32} {D : va_G} {cI cB cZ cJ : ClassId} {tA : Nat}
set_option maxRecDepth 100000 in
theorem lw_Cs8n (C : lw_C p s m meth c b L xs D cI cB cZ cJ tA) (hTx : tx_K (fun q : Nat => s.heap.size ≤ q) s) (hl : l.stackTraces = false) {J K : j2_S → Prop} (hH : lw_Hs J K) : lw_Cs p l e s m below meth c b L D cI cB cZ cJ tA J K 472 := by
  intro σ H locs ls cells slots i hJ hW hl7 hi6 hc hs kk
  obtain ⟨h1, h2, h3⟩ := hH σ hJ (xs (6 * i + 1))
  by_cases gA : xs (6 * i + 1) < 0 ∨ ¬ xs (6 * i + 1) ≤ 12
  · refine lw_x_shrink (k := 1) C hTx (by decide) (fun σ1 hR hal => ?_) hW hl7 hi6 hc hs (h1 gA) kk
    exact lx_shrink1 (tx_metA hl (y := 140) (pc0 := 5) (P := 10) (is := 197) (txt := "the budget is not 0 to 12") (as := [.ref 0, .int (xs (6 * i + 1))]) (by decide) rfl (Nat.le_of_ble_eq_true rfl) (fun v hv => by simp at hv; rcases hv with rfl | rfl <;> rfl) ⟨by decide +kernel, by decide +kernel⟩ hal (by decide) (by decide +kernel) (by decide +kernel) (by decide +kernel) (by decide +kernel) (by decide +kernel) (by decide +kernel) (fun X hX hE => tx_r5 gA hX hE) _ (fun k => rfl) _) (j2_o9 hR)
  have g0 : ¬ xs (6 * i + 1) < 0 := fun q => gA (Or.inl q)
  have g12 : xs (6 * i + 1) ≤ 12 := Decidable.byContradiction fun q => gA (Or.inr q)
  by_cases gS : σ.1 9005 0 = 0 ∨ σ.1 9009 0 = 0
  · refine lw_x_shrink (k := 2) C hTx (by decide) (fun σ1 hR hal => ?_) hW hl7 hi6 hc hs (h2 g0 g12 gS) kk
    exact lx_shrink2 (tx_metS hl (y := 140) (pc0 := 16) (P := 34) (is := 204) (txt := "no program, or no entry") (as := [.ref 0, .int (xs (6 * i + 1))]) (by decide) rfl (Nat.le_of_ble_eq_true rfl) (fun v hv => by simp at hv; rcases hv with rfl | rfl <;> rfl) ⟨by decide +kernel, by decide +kernel⟩ hal (by decide) (by decide +kernel) (by decide +kernel) (by decide +kernel) (by decide +kernel) (by decide +kernel) (by decide +kernel) (fun X hX hE => tx_r16 g0 g12 (j2_o9 hR) (j2_v9 hR).1 (j2_v9 hR).2.2 gS hX hE) _ (fun k => rfl) _) (j2_o9 hR)
  · exact lw_n_shrink C hW hl7 hi6 hc hs (h3 g0 g12 (fun q => gS (Or.inl q)) (fun q => gS (Or.inr q))) kk
set_option maxRecDepth 100000 in
theorem lw_Cs13n (C : lw_C p s m meth c b L xs D cI cB cZ cJ tA) (hTx : tx_K (fun q : Nat => s.heap.size ≤ q) s) (hl : l.stackTraces = false) {J K : j2_S → Prop} (hH : lw_Hr J K) : lw_Cs p l e s m below meth c b L D cI cB cZ cJ tA J K 676 := by
  intro σ H locs ls cells slots i hJ hW hl7 hi6 hc hs kk
  have hb01 : lw_b (xs (6 * i + 1)) = 0 ∨ lw_b (xs (6 * i + 1)) = 1 := by unfold lw_b; split <;> simp
  obtain ⟨h1, h2, h3, h4⟩ := hH σ hJ (lw_b (xs (6 * i + 1))) (xs (6 * i + 2)) (xs (6 * i + 3)) hb01
  have hv : ∀ v ∈ ([.ref 0, .int (lw_b (xs (6 * i + 1))), .int (xs (6 * i + 2)), .int (xs (6 * i + 3))] : List Value), v.category = 1 := fun v hv => by simp at hv; rcases hv with rfl | rfl | rfl | rfl <;> rfl
  by_cases gE : (if lw_b (xs (6 * i + 1)) = 0 then σ.1 9005 0 else σ.1 9006 0) = 0
  · refine lw_x_run (k := 1) C hTx (by decide) (fun σ1 hR hal => ?_) hW hl7 hi6 hc hs (h1 gE) kk
    refine lx_run1 (tx_metS hl (y := 145) (pc0 := 9) (P := 21) (is := 239) (txt := "no such program") (as := [.ref 0, .int (lw_b (xs (6 * i + 1))), .int (xs (6 * i + 2)), .int (xs (6 * i + 3))]) (by decide) rfl (Nat.le_of_ble_eq_true rfl) hv ⟨by decide +kernel, by decide +kernel⟩ hal (by decide) (by decide +kernel) (by decide +kernel) (by decide +kernel) (by decide +kernel) (by decide +kernel) (by decide +kernel) (fun X hX hE => tx_r9 (j2_o9 hR) (j2_v9 hR).1 (j2_v9 hR).2.1 ⟨fun q => ?_, fun q => ?_⟩ hX hE) _ (fun k => rfl) _) (j2_o9 hR)
    · rw [if_pos q] at gE; exact gE
    · rw [if_neg q] at gE; exact gE
  have hb : (lw_b (xs (6 * i + 1)) = 0 → ¬ σ.1 9005 0 = 0) ∧ (¬ lw_b (xs (6 * i + 1)) = 0 → ¬ σ.1 9006 0 = 0) := ⟨fun q => by rw [if_pos q] at gE; exact gE, fun q => by rw [if_neg q] at gE; exact gE⟩
  by_cases gA : xs (6 * i + 2) < 0 ∨ ¬ xs (6 * i + 2) < σ.1 9009 0
  · refine lw_x_run (k := 2) C hTx (by decide) (fun σ1 hR hal => ?_) hW hl7 hi6 hc hs (h2 gE gA) kk
    exact lx_run2 (tx_metA hl (y := 145) (pc0 := 20) (P := 43) (is := 241) (txt := "no such entry") (as := [.ref 0, .int (lw_b (xs (6 * i + 1))), .int (xs (6 * i + 2)), .int (xs (6 * i + 3))]) (by decide) rfl (Nat.le_of_ble_eq_true rfl) hv ⟨by decide +kernel, by decide +kernel⟩ hal (by decide) (by decide +kernel) (by decide +kernel) (by decide +kernel) (by decide +kernel) (by decide +kernel) (by decide +kernel) (fun X hX hE => tx_r14 (j2_o9 hR) (j2_v9 hR).1 (j2_v9 hR).2.1 hb hX (tx_r20 (j2_o9 hR) (j2_v9 hR).2.2 gA hX hE)) _ (fun k => rfl) _) (j2_o9 hR)
  have g0 : ¬ xs (6 * i + 2) < 0 := fun q => gA (Or.inl q)
  have gn : xs (6 * i + 2) < σ.1 9009 0 := Decidable.byContradiction fun q => gA (Or.inr q)
  by_cases gK : xs (6 * i + 3) < 1 ∨ ¬ xs (6 * i + 3) ≤ 20000
  · refine lw_x_run (k := 2) C hTx (by decide) (fun σ1 hR hal => ?_) hW hl7 hi6 hc hs (h3 gE g0 gn gK) kk
    exact lx_run2 (tx_metA hl (y := 145) (pc0 := 31) (P := 65) (is := 243) (txt := "the steps are not 1 to 20000") (as := [.ref 0, .int (lw_b (xs (6 * i + 1))), .int (xs (6 * i + 2)), .int (xs (6 * i + 3))]) (by decide) rfl (Nat.le_of_ble_eq_true rfl) hv ⟨by decide +kernel, by decide +kernel⟩ hal (by decide) (by decide +kernel) (by decide +kernel) (by decide +kernel) (by decide +kernel) (by decide +kernel) (by decide +kernel) (fun X hX hE => tx_r14 (j2_o9 hR) (j2_v9 hR).1 (j2_v9 hR).2.1 hb hX (tx_r31 (j2_o9 hR) (j2_v9 hR).2.2 g0 gn gK hX hE)) _ (fun k => rfl) _) (j2_o9 hR)
  · exact lw_n_run C hW hl7 hi6 hc hs (h4 gE g0 gn (fun q => gK (Or.inl q)) (Decidable.byContradiction fun q => gK (Or.inr q))) kk
end LWCSN
