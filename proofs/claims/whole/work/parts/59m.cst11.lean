section CST11
variable {σ σ' τ : j3_S} {P : Pg} {T : Int → Fl} {M : Mc} {d : Nat} {Q : j3_P} {k i j x v h' : Int} {s : Int → Int} {o : Nat}
theorem via39 (B : cBd σ o P T M) (hop : tO P M = 22) (hq : ∀ d (Q : j3_P), Q none τ → j3_tc false (d + 4) 39 [wO 2 109] σ Q) : ∀ d (Q : j3_P), Q none τ → j3_tc false (d + 8) 28 [wO 2 109] σ Q := by
  intro d Q hQ
  obtain ⟨⟨hg, hT⟩, ⟨b1, b2, b3, -⟩, h, ht, he⟩ := B
  have hj : isj (tO P M) = false := by rw [hop]; rfl
  refine c28s (d := d + 5) hg.1 b1 b2 b3 (h.2.1 (by rw [he]; decide)) ht ?_
  rw [hj, b28_58, if_pos (show b2i false = 0 from rfl), if_neg (by omega), if_neg (by omega), if_pos hop]
  refine hq (d + 3) _ ?_
  simp only [Option.toList_none, List.nil_append]
  rw [b28_98]
  exact hQ
def rtC (σ : j3_S) (k i : Int) : j3_S := (j3_up σ.1 2007 109 (k + 1), σ.2.1, j3_ast σ.2.2 2009 109 k (i + 1))
theorem c_22 (B : cBd σ o P T M) (hop : tO P M = 22) : cSt P T M σ := by
  obtain ⟨⟨k0, k1, k2, k3, k4⟩, ⟨n0, n1, hh, hsk⟩, ⟨hi, i0, i1⟩, m0, m1⟩ := B.f
  have ht := B.2.2.2.1
  have hW := B.1.1.1
  have hd := ht.1
  have hE := B.2.2.1
  have hB := hE.2.1 (by rw [B.2.2.2.2]; decide)
  have hM80 := hW.2.1.2.1
  have h8 : σ.2.2 2008 109 (M.dp - 1) = tm M := (hB.2 _ (by omega) (by omega)).1
  have h14 : σ.2.2 3014 o (tm M) = P 3014 (tm M) := (B.2.1.2.2.1.2.2.2 _ m0 m1).1.2.2.2.1
  have hS : stp P M = if M.dp = 1 then (M.1, M.2.1, 0, M.2.2.2) else if P 3014 (tm M) = 0 then ((M.dp - 1, M.me, i_up M.pc (M.dp - 1 - 1) (M.pc (M.dp - 1 - 1) + 1), M.ht, M.lo, M.sk), M.2) else ((M.dp - 1, (M.gf (M.dp - 1 - 1) (M.ht (M.dp - 1 - 1) + 1) (i_up (M.sk (M.dp - 1 - 1)) (M.ht (M.dp - 1 - 1)) (M.sk (M.dp - 1) (tn T M - 1))) (M.pc (M.dp - 1 - 1) + 1)).2), M.2) := by
    rw [stp_e ht]
    unfold stO
    rw [hop]
    rfl
  have c39 : ∀ d (Q : j3_P), T39 (d + 3) Q 15 [wO 2 109, wM 2, wM 2] [wI (if P 3014 (tm M) = 0 then 0 else 1)] σ → j3_tc false (d + 4) 39 [wO 2 109] σ Q := by
    intro d Q hQ
    rw [e39, b39_0, k2, wr_id (z := M.dp - 1 + 1 - 1) (by omega) (by omega), show M.dp - 1 + 1 - 1 = M.dp - 1 by omega, h8, B.2.1.2.1, h14]
    refine ⟨B.2.1.1, by omega, by omega, ?_⟩
    by_cases g : P 3014 (tm M) = 0
    · rw [if_pos g] at hQ ⊢; exact hQ
    · rw [if_neg g] at hQ ⊢; exact hQ
  have hend : ∀ τ : j3_S, M.dp = 1 → τ.1 = j3_up σ.1 2006 109 0 → (∀ e, ¬ e = 2010 → τ.2.2 e 109 = σ.2.2 e 109) → CR τ P T (stp P M) := by
    intro τ g1 t1 t2
    rw [hS, if_pos g1]
    refine ⟨?_, fun q => absurd rfl q, fun q => absurd (show (0 : Int) = -1 from q) (by decide)⟩
    have := hE.1
    unfold CRa at this ⊢
    rw [t1, t2 2001 (by decide), t2 2002 (by decide)]
    exact ⟨⟨by simp [j3_up], by rw [up_e (show ((2012 : Nat) == 2006) = false from rfl)]; exact this.1.2.1, this.1.2.2⟩, this.2⟩
  by_cases g : P 3014 (tm M) = 0
  · rw [if_pos g] at c39
    have c22 : ∀ d (Q : j3_P), T39 (d + 3) Q 22 [wO 2 109, wI 0, wM 2] [wI 0] σ → j3_tc false (d + 4) 39 [wO 2 109] σ Q := fun d Q hQ => c39 d Q (by rw [b39_15, if_pos rfl]; exact hQ)
    by_cases g1 : M.dp = 1
    · refine ⟨(j3_up σ.1 2006 109 0, σ.2.1, σ.2.2), hend _ g1 rfl (fun _ _ => rfl), fmC.I rfl fmC.rf, via39 B hop (fun d Q hQ => c22 d Q ?_)⟩
      rw [b39_22, k2, if_pos (by omega)]
      exact hQ
    · obtain ⟨w1, w2, w3, w4, w5, w6⟩ := low_f B.1.1 B.1.2 ht (k := M.dp - 1 - 1) (by omega) (by omega)
      have h9 : σ.2.2 2009 109 (M.dp - 1 - 1) = M.pc (M.dp - 1 - 1) := (hB.2 _ (by omega) (by omega)).2
      refine ⟨rtC σ (M.dp - 1 - 1) (M.pc (M.dp - 1 - 1)), ?_, fmC.I rfl (fmC.A rfl fmC.rf), via39 B hop (fun d Q hQ => c22 d Q ?_)⟩
      · refine crT (v := 0) B g1 (by rw [hS, if_neg g1, if_pos g, if_pos g, if_pos g]) (by rw [hS, if_neg g1, if_pos g]) ⟨?_, ?_, ?_⟩ (fun e he => ?_) ?_ (fun k' hk => ?_) (fun z => ?_)
        · simp only [rtC, up_e (show ((2006 : Nat) == 2007) = false from rfl)]; exact k3
        · simp only [rtC, up_r]; omega
        · simp only [rtC, up_e (show ((2012 : Nat) == 2007) = false from rfl)]
        · have : (e == 2009) = false := by
            simp at he
            simp; omega
          simp only [rtC, j3_ast, up_e this]
        · simp only [rtC, j3_ast, up_r]
        · rw [if_neg (fun z => z.2 g)]
          simp only [rtC, j3_ast, up_e (show ((2010 : Nat) == 2009) = false from rfl)]
        · rw [if_neg (fun z => z.2 g)]
          simp only [rtC, j3_ast, up_e (show ((2011 : Nat) == 2009) = false from rfl)]
      · rw [b39_22, k2, if_neg (by omega), if_pos rfl, b39_42, wr_id (z := M.dp - 1 + 1 - 1) (by omega) (by omega)]
        simp only [up_r]
        rw [show M.dp - 1 + 1 - 1 = M.dp - 1 - 1 + 1 by omega, wr_id (z := M.dp - 1 - 1 + 1 - 1) (by omega) (by omega), show M.dp - 1 - 1 + 1 - 1 = M.dp - 1 - 1 by omega, h9, wr_id (by omega) (by omega)]
        exact ⟨by omega, by omega, hQ⟩
  · rw [if_neg g] at c39
    obtain ⟨z1, -⟩ := B.z (wn := 1) (by rw [hop]; show (((if P 3014 (tm M) = 0 then [] else [tyof (P 3014 (tm M) - 1)]) : List Int).length : Int) = 1; rw [if_neg g]; rfl)
    generalize hv : M.sk (M.dp - 1) (tn T M - 1) = v at hS
    have c22 : ∀ d (Q : j3_P), T39 (d + 3) Q 22 [wO 2 109, wI 1, wM 2] [wI v] (poC σ (M.dp - 1) (tn T M)) → j3_tc false (d + 4) 39 [wO 2 109] σ Q := fun d Q hQ => c39 d Q (by
      rw [b39_15, if_neg (by decide)]
      refine cBd.po k2 k0 k1 hh (by omega) n1 ?_
      simp only [Option.toList_some, List.cons_append, List.nil_append]
      rw [hsk _ (by omega) (by omega), hv, b39_20]
      exact hQ)
    by_cases g1 : M.dp = 1
    · refine ⟨(j3_up (poC σ (M.dp - 1) (tn T M)).1 2006 109 0, (poC σ (M.dp - 1) (tn T M)).2.1, (poC σ (M.dp - 1) (tn T M)).2.2), hend _ g1 rfl (fun e he => by simp only [poC, j3_ast, up_e (show (e == 2010) = false by simpa using he)]), fmC.I rfl (fmC.A rfl fmC.rf), via39 B hop (fun d Q hQ => c22 d Q ?_)⟩
      rw [b39_22, show (poC σ (M.dp - 1) (tn T M)).1 2007 109 = M.dp - 1 + 1 from k2, if_pos (by omega)]
      exact hQ
    · obtain ⟨w1, w2, w3, w4, w5, w6⟩ := low_f B.1.1 B.1.2 ht (k := M.dp - 1 - 1) (by omega) (by omega)
      rw [show M.dp - 1 - 1 + 1 = M.dp - 1 by omega] at w6
      have w2 := w2 (by rw [← w6]; exact g)
      have h9 : σ.2.2 2009 109 (M.dp - 1 - 1) = M.pc (M.dp - 1 - 1) := (hB.2 _ (by omega) (by omega)).2
      have h10 : σ.2.2 2010 109 (M.dp - 1 - 1) = M.ht (M.dp - 1 - 1) := ((hE.2.2 B.2.2.2.2).1 _ (by omega) (by omega)).1
      generalize hρ : ((j3_up (poC σ (M.dp - 1) (tn T M)).1 2007 109 (M.dp - 1 - 1 + 1), (poC σ (M.dp - 1) (tn T M)).2.1, (poC σ (M.dp - 1) (tn T M)).2.2) : j3_S) = ρ
      have r1 : ρ.1 = j3_up σ.1 2007 109 (M.dp - 1 - 1 + 1) := by rw [← hρ]; rfl
      have r2 : ∀ e, ¬ e = 2010 → ρ.2.2 e 109 = σ.2.2 e 109 := by
        intro e he
        rw [← hρ]
        simp only [poC, j3_ast, up_e (show (e == 2010) = false by simpa using he)]
      have r3 : ρ.2.2 2010 109 = i_up (σ.2.2 2010 109) (M.dp - 1) (tn T M - 1) := by rw [← hρ]; simp [poC, j3_ast, j3_up]
      have fρ : fmC σ ρ := by rw [← hρ]; exact fmC.I rfl (fmC.A rfl fmC.rf)
      refine ⟨nxC (psC ρ (M.dp - 1 - 1) (M.ht (M.dp - 1 - 1)) v) (M.dp - 1 - 1) (M.pc (M.dp - 1 - 1)), ?_, fmC.A rfl (fmC.A rfl (fmC.A rfl fρ)), via39 B hop (fun d Q hQ => c22 d Q ?_)⟩
      · refine crT (v := v) B g1 (by rw [hS, if_neg g1, if_neg g, if_neg g, if_neg g]; rfl) (by rw [hS, if_neg g1, if_neg g]) ⟨?_, ?_, ?_⟩ (fun e he => ?_) ?_ (fun k' hk => ?_) (fun z => ?_)
        · show ρ.1 2006 109 = -1
          rw [r1, up_e (show ((2006 : Nat) == 2007) = false from rfl)]; exact k3
        · show ρ.1 2007 109 = M.dp - 1
          rw [r1, up_r]; omega
        · show ρ.1 2012 109 = _
          rw [r1, up_e (show ((2012 : Nat) == 2007) = false from rfl)]
        · have : (e == 2009) = false ∧ (e == 2010) = false ∧ (e == 2011) = false := by
            simp at he
            simp; omega
          simp only [nxC, psC, j3_ast, up_e this.1, up_e this.2.1, up_e this.2.2]
          exact r2 e (by simpa using this.2.1)
        · simp only [nxC, psC, j3_ast, up_r, up_e (show ((2009 : Nat) == 2010) = false from rfl), up_e (show ((2009 : Nat) == 2011) = false from rfl)]
          rw [r2 2009 (by decide)]
        · simp only [nxC, psC, j3_ast, up_r, up_e (show ((2010 : Nat) == 2009) = false from rfl), up_e (show ((2010 : Nat) == 2011) = false from rfl)]
          rw [r3]
          simp only [i_up]
          by_cases gk : k' = M.dp - 1 - 1
          · rw [if_pos gk, if_pos ⟨gk, g⟩]
          · rw [if_neg gk, if_neg (by omega), if_neg (fun z => gk z.1)]
        · simp only [nxC, psC, j3_ast, up_r, up_e (show ((2011 : Nat) == 2009) = false from rfl), up_e (show ((2011 : Nat) == 2010) = false from rfl), i_up]
          by_cases gz : z = (M.dp - 1 - 1) * 30 + 20 + M.ht (M.dp - 1 - 1)
          · rw [if_pos gz, if_pos ⟨gz, g⟩]
          · rw [if_neg gz, if_neg (fun y => gz y.1), r2 2011 (by decide)]
      · rw [b39_22, show (poC σ (M.dp - 1) (tn T M)).1 2007 109 = M.dp - 1 + 1 from k2, if_neg (by omega), if_neg (by decide), wr_id (z := M.dp - 1 + 1 - 1) (by omega) (by omega), show M.dp - 1 + 1 - 1 = M.dp - 1 - 1 + 1 by omega, hρ, s26 (σ := ρ) (k := M.dp - 1 - 1) (h := M.ht (M.dp - 1 - 1)) (by rw [r1, up_r]) (by omega) (by omega) (by rw [r3]; simp only [i_up]; rw [if_neg (by omega)]; exact h10) w3 (by omega)]
        simp only [Option.toList_none, List.nil_append]
        rw [b39_42, show (psC ρ (M.dp - 1 - 1) (M.ht (M.dp - 1 - 1)) v).1 2007 109 = M.dp - 1 - 1 + 1 by show ρ.1 2007 109 = _; rw [r1, up_r], wr_id (z := M.dp - 1 - 1 + 1 - 1) (by omega) (by omega), show M.dp - 1 - 1 + 1 - 1 = M.dp - 1 - 1 by omega, show (psC ρ (M.dp - 1 - 1) (M.ht (M.dp - 1 - 1)) v).2.2 2009 109 (M.dp - 1 - 1) = M.pc (M.dp - 1 - 1) by simp only [psC, j3_ast, up_e (show ((2009 : Nat) == 2010) = false from rfl), up_e (show ((2009 : Nat) == 2011) = false from rfl)]; rw [r2 2009 (by decide)]; exact h9, wr_id (by omega) (by omega)]
        exact ⟨by omega, by omega, hQ⟩
end CST11
