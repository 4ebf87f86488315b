section CST13
variable {σ σ' τ : j3_S} {P : Pg} {T : Int → Fl} {M : Mc} {d : Nat} {Q : j3_P} {k i j x v h' : Int} {s : Int → Int} {o : Nat}
/-- where 38 goes: NULL, or on to 70 with the method that is taken -/
theorem x38 (B : cBd σ o P T M) (hc : tO P M = 20 ∨ tO P M = 21) : (P 3013 (tT P M) = 0 ∧ M.sk (M.dp - 1) (tn T M - caL P (tT P M)) = 0 → Q none (trC σ 1) → j3_tc false (d + 4) 38 [wO 2 109, wI (tO P M), wI (tT P M)] σ Q) ∧ (¬ (P 3013 (tT P M) = 0 ∧ M.sk (M.dp - 1) (tn T M - caL P (tT P M)) = 0) → (∀ w7, T38 (d + 3) Q 70 [wO 2 109, wI (tO P M), wI (tT P M), wI (M.dp - 1), wI (caL P (tT P M)), wI (tn T M - caL P (tT P M)), wI (tU P T M), w7] [] σ) → j3_tc false (d + 4) 38 [wO 2 109, wI (tO P M), wI (tT P M)] σ Q) := by
  obtain ⟨⟨k0, k1, k2, k3, k4⟩, ⟨n0, n1, hh, hsk⟩, -, -⟩ := B.f
  have ht := B.2.2.2.1
  have hg := B.1.1
  have hC := B.2.1.2.2.1
  have hp := B.2.1.2.1
  have hM := hg.1.2.1.2.1
  have no2 := ht.2.1.1.2
  have hoc := ht.2.1.2.1
  have ho := (B.2.2.1.2.2 B.2.2.2.2).2.2
  obtain ⟨⟨t0, t1, t15, t13⟩, ⟨c0, c1, c2⟩, h21, hr, hu⟩ := call_f hg B.1.2 ht hc
  have h15 := (hC.2.2.2 _ t0 t1).1.2.2.2.2.1
  have ac : caL P (tT P M) = P 3015 (tT P M) + rcv P (tT P M) := rfl
  have go : T38 (d + 3) Q 29 [wO 2 109, wI (tO P M), wI (tT P M), wI (M.dp - 1), wI (caL P (tT P M)), wI (tn T M - caL P (tT P M)), wI (tT P M), wM 2] [wI (rcv P (tT P M))] σ → j3_tc false (d + 4) 38 [wO 2 109, wI (tO P M), wI (tT P M)] σ Q := by
    intro hQ
    rw [e38, b38_0, hp, h15, k2, wr_id (z := M.dp - 1 + 1 - 1) (by omega) (by omega), show M.dp - 1 + 1 - 1 = M.dp - 1 by omega, s51 hC hM t0 t1]
    refine ⟨B.2.1.1, by omega, B.2.1.1, ?_⟩
    simp only [Option.toList_some, List.cons_append, List.nil_append]
    rw [b38_14, hp, s51 hC hM t0 t1, hh]
    refine ⟨by omega, B.2.1.1, ?_⟩
    simp only [Option.toList_some, List.cons_append, List.nil_append]
    have e : P 3015 (tT P M) + (if P 3013 (tT P M) = 0 then 1 else 0) = caL P (tT P M) := rfl
    rw [e, wr_id (z := caL P (tT P M)) (by omega) (by omega), wr_id (z := tn T M - caL P (tT P M)) (by omega) (by omega)]
    exact hQ
  by_cases g : P 3013 (tT P M) = 0
  · have r1 : rcv P (tT P M) = 1 := by unfold rcv; rw [if_pos g]
    obtain ⟨q1, q2⟩ := hr g
    have go2 : T38 (d + 3) Q 49 [wO 2 109, wI (tO P M), wI (tT P M), wI (M.dp - 1), wI (caL P (tT P M)), wI (tn T M - caL P (tT P M)), wI (tT P M), wI (M.sk (M.dp - 1) (tn T M - caL P (tT P M)))] [wI (b2i (decide (0 < M.sk (M.dp - 1) (tn T M - caL P (tT P M))) && decide (M.sk (M.dp - 1) (tn T M - caL P (tT P M)) ≤ M.no)))] σ → j3_tc false (d + 4) 38 [wO 2 109, wI (tO P M), wI (tT P M)] σ Q := by
      intro hQ
      refine go ?_
      rw [r1, b38_29, if_pos rfl, if_neg (by omega)]
      simp (disch := omega) only [wr_id]
      rw [hsk _ (by omega) (by omega), b38_45, s34, k4]
      refine ⟨by omega, ?_⟩
      simp only [Option.toList_some, List.cons_append, List.nil_append]
      exact hQ
    refine ⟨fun z hQ => go2 ?_, fun z hQ => go2 ?_⟩
    · rw [z.2, show (decide ((0 : Int) < 0) && decide ((0 : Int) ≤ M.no)) = false from rfl, b38_49, if_pos (show b2i false = 0 from rfl), s25]
      simp only [Option.toList_none, List.nil_append]
      rw [b38_53]
      exact hQ
    · have q3 := q2 (fun e => z ⟨g, e⟩)
      have hb : (decide (0 < M.sk (M.dp - 1) (tn T M - caL P (tT P M))) && decide (M.sk (M.dp - 1) (tn T M - caL P (tT P M)) ≤ M.no)) = true := by simp; omega
      rw [hb, b38_49, if_neg (show ¬ b2i true = 0 by decide)]
      by_cases g2 : tO P M = 21
      · have ho1 := hoc (M.sk (M.dp - 1) (tn T M - caL P (tT P M)) - 1) (by omega) (by omega)
        have ho2 := (ho.1 (M.sk (M.dp - 1) (tn T M - caL P (tT P M)) - 1) (by omega) (by omega)).1
        have hU : tU P T M = fnd P (P 3012 (tT P M)) 10 (M.oc (M.sk (M.dp - 1) (tn T M - caL P (tT P M)) - 1)) := if_pos g2
        rw [hU] at hQ
        rw [if_pos g2, hp, wr_id (by omega) (by omega), ho2, s49 hC hg.1.1 hg.1.2.1 t0 t1 (by omega) ho1.2]
        refine ⟨B.2.1.1, by omega, ?_⟩
        simp only [Option.toList_some, List.cons_append, List.nil_append]
        rw [b38_67, b38_69]
        exact hQ _
      · have hU : tU P T M = tT P M := if_neg g2
        rw [hU] at hQ
        rw [if_neg g2, b38_69]
        exact hQ _
  · have r0 : rcv P (tT P M) = 0 := by unfold rcv; rw [if_neg g]
    refine ⟨fun z => absurd z.1 g, fun z hQ => go ?_⟩
    have g2 : ¬ tO P M = 21 := fun e => g (h21 e)
    have hU : tU P T M = tT P M := if_neg g2
    rw [hU] at hQ
    rw [r0, b38_29, if_neg (by decide)]
    exact hQ _
end CST13
