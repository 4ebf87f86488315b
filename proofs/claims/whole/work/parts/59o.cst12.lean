/-! the class's step: CALL, SEND: how it goes -/
section CST12
variable {σ σ' τ : j3_S} {P : Pg} {T : Int → Fl} {M : Mc} {d : Nat} {Q : j3_P} {k i j x v h' : Int} {s : Int → Int} {o : Nat}
def clC (σ : j3_S) (k q n u : Int) : j3_S := (j3_up σ.1 2007 109 (k + 1 + 1), σ.2.1, j3_ast (j3_ast (j3_ast (j3_ast (j3_acp (j3_ast σ.2.2 2010 109 k q) 2011 109 2011 109 (k * 30 + 20 + q) ((k + 1) * 30) n) 2008 109 (k + 1) u) 2009 109 (k + 1) 0) 2010 109 (k + 1) 0) 2001 109 6 (if σ.2.2 2001 109 6 < k + 1 + 1 then k + 1 + 1 else σ.2.2 2001 109 6))
theorem via38 (B : cBd σ o P T M) (hc : tO P M = 20 ∨ tO P M = 21) (hq : ∀ d (Q : j3_P), Q none τ → j3_tc false (d + 4) 38 [wO 2 109, wI (tO P M), wI (tT P M)] σ Q) : ∀ d (Q : j3_P), Q none τ → j3_tc false (d + 8) 28 [wO 2 109] σ Q := by
  intro d Q hQ
  obtain ⟨⟨hg, hT⟩, ⟨b1, b2, b3, -⟩, h, ht, he⟩ := B
  have hj : isj (tO P M) = false := by rcases hc with g | g <;> (rw [g]; rfl)
  obtain ⟨-, -, -, -, i4, -, i6⟩ := ht.ik hg.1
  have ra := i4 (by omega)
  have rb := i6 (by omega)
  have hma := hg.1.2.1.2.2 _ ra.1 ra.2
  have h80 := hg.1.2.1.2.1
  have hn := hg.1.1.2.1
  have h7 := (b3.2.2.1 _ ra.1 ra.2).1.2.2.2.2
  have t : T28 (d + 7) Q 82 [wO 2 109, wI (M.dp - 1), wI (tm M * 120 + ti M), wI (tO P M), wI (tA P M), wI (tB P M)] [] σ := by
    rw [b28_82, b2, h7, wr_id (by omega) (by omega)]
    refine ⟨b1, by omega, hq (d + 3) _ ?_⟩
    simp only [Option.toList_none, List.nil_append]
    rw [b28_92]
    exact hQ
  refine c28s (d := d + 5) hg.1 b1 b2 b3 (h.2.1 (by rw [he]; decide)) ht ?_
  rw [hj, b28_58, if_pos (show b2i false = 0 from rfl)]
  by_cases g : tO P M = 20
  · rw [if_pos g]; exact t
  · rw [if_neg g, if_pos (by omega)]; exact t
theorem x70 (B : cBd σ o P T M) {u q n : Int} {w7 : j3_W} (u0 : 0 ≤ u) (q0 : 0 ≤ q) (q1 : q + n ≤ 10) (hn0 : 0 ≤ n) (hn4 : n ≤ 4) : (M.dp = 40 → Q none (trC σ 5) → T38 (d + 1) Q 70 [wO 2 109, wI (tO P M), wI (tT P M), wI (M.dp - 1), wI n, wI q, wI u, w7] [] σ) ∧ (¬ M.dp = 40 → Q none (clC σ (M.dp - 1) q n u) → T38 (d + 1) Q 70 [wO 2 109, wI (tO P M), wI (tT P M), wI (M.dp - 1), wI n, wI q, wI u, w7] [] σ) := by
  obtain ⟨⟨k0, k1, k2, k3, k4⟩, -, -, -⟩ := B.f
  refine ⟨fun g hQ => ?_, fun g hQ => ?_⟩
  · rw [b38_70, k2, if_neg (by omega), b38_79, s25]
    simp only [Option.toList_none, List.nil_append]
    rw [b38_82]
    exact hQ
  · rw [b38_70, k2, if_pos (by omega), if_neg (by omega), if_neg (by omega)]
    simp (disch := omega) only [wr_id]
    refine ⟨by omega, by omega, ?_⟩
    rw [e24, b24_0]
    dsimp only
    have e6 : j3_acp (j3_ast σ.2.2 2010 109 (M.dp - 1) q) 2011 109 2011 109 ((M.dp - 1) * 30 + 20 + q) ((M.dp - 1 + 1) * 30) n 2001 109 6 = σ.2.2 2001 109 6 := by
      simp only [j3_acp, j3_ast, up_e (show ((2001 : Nat) == 2011) = false from rfl), up_e (show ((2001 : Nat) == 2010) = false from rfl)]
    rw [k2, wr_id (z := M.dp - 1 + 1 + 1) (by omega) (by omega)]
    simp only [e6]
    refine ⟨by omega, by omega, by omega, by decide, by decide, ?_⟩
    simp only [Option.toList_none, List.nil_append]
    rw [b38_108]
    exact hQ
end CST12
