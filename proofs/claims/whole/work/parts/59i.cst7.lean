/-! the class's step: fields -/
section CST7
variable {σ σ' τ : j3_S} {P : Pg} {T : Int → Fl} {M : Mc} {d : Nat} {Q : j3_P} {k i j x v h' : Int} {s : Int → Int} {o : Nat}
theorem via37 (B : cBd σ o P T M) (h16 : 16 ≤ tO P M ∧ tO P M ≤ 19) (hτ : τ.2.2 2009 109 (M.dp - 1) = ti M) (hq : ∀ d (Q : j3_P), Q none τ → j3_tc false (d + 4) 37 [wO 2 109, wI (tO P M), wI (tA P M), wI (tB P M)] σ Q) : ∀ d (Q : j3_P), Q none (if τ.1 2006 109 = -1 then nxC τ (M.dp - 1) (ti M) else τ) → j3_tc false (d + 8) 28 [wO 2 109] σ Q := by
  intro d Q hQ
  obtain ⟨⟨k0, k1, k2, k3, -⟩, -, ⟨-, i0, i1⟩, -⟩ := B.f
  obtain ⟨⟨hg, hT⟩, ⟨b1, b2, b3, -⟩, h, ht, he⟩ := B
  have hj : isj (tO P M) = false := by simp [isj]; omega
  refine c28s (d := d + 5) hg.1 b1 b2 b3 (h.2.1 (by rw [he]; decide)) ht ?_
  rw [hj, b28_58, if_pos (show b2i false = 0 from rfl), if_neg (by omega), if_neg (by omega), if_neg (by omega), if_neg (by omega), if_pos (by omega), b28_109, if_neg (by omega), if_neg (by omega)]
  refine hq (d + 3) _ ?_
  simp only [Option.toList_none, List.nil_append]
  rw [b28_120]
  by_cases g : τ.1 2006 109 = -1
  · rw [if_pos g] at hQ
    exact t128 g k0 k1 hτ i0 i1 hQ
  · rw [if_neg g] at hQ
    rw [b28_128, if_neg g]
    exact hQ
theorem c_18 (B : cBd σ o P T M) (hop : tO P M = 18) : cSt P T M σ := by
  obtain ⟨⟨k0, k1, k2, k3, k4⟩, ⟨n0, n1, hh, hsk⟩, ⟨hi, i0, i1⟩, m0, m1⟩ := B.f
  obtain ⟨-, z2⟩ := B.z (wn := 0) (by rw [hop]; rfl)
  have z3 : (gx P (tO P M) (tA P M) (tB P M) (ts T M) (tl T M) (tn T M - 0)).length = 1 := by rw [hop]; rfl
  rw [z3] at z2
  have ht := B.2.2.2.1
  have hW := B.1.1.1
  obtain ⟨-, -, -, -, i4, i5, -⟩ := ht.ik hW
  have ra := i4 (by omega)
  have rb := i5 (by omega)
  have hn := hW.1.2.1
  have h6 := (hW.2.2.1 _ ra.1 ra.2).2.1
  have hgs := (B.2.2.1.2.2 B.2.2.2.2).2.2.2 (tA P M * 6 + tB P M) (by omega) (by omega)
  rw [show tA P M * 6 + tB P M = 6 * tA P M + tB P M by omega] at hgs
  refine ⟨nxC (psC σ (M.dp - 1) (tn T M) (M.gs (6 * tA P M + tB P M))) (M.dp - 1) (ti M), ?_, fmC.A rfl (fmC.A rfl (fmC.A rfl fmC.rf)), ?_⟩
  · have hS : stp P M = M.go (M.dp - 1) (tn T M + 1) (i_up (M.sk (M.dp - 1)) (tn T M) (M.gs (6 * tA P M + tB P M))) (ti M + 1) := by
      rw [stp_e ht]
      unfold stO
      rw [hop]
      rfl
    rw [hS]
    exact crP hW B.1.2 B.2.2.1 ht B.2.2.2.2 (by omega) (by rw [hop]; rfl) (by omega)
  · have := via37 (τ := psC σ (M.dp - 1) (tn T M) (M.gs (6 * tA P M + tB P M))) B (by omega) (by simp only [psC, j3_ast, up_e (show ((2009 : Nat) == 2010) = false from rfl), up_e (show ((2009 : Nat) == 2011) = false from rfl)]; exact hi) (fun d Q hQ => by
      rw [e37, b37_0, if_pos hop]
      simp (disch := omega) only [wr_id]
      rw [show tA P M * 6 + tB P M = 6 * tA P M + tB P M by omega, hgs, s26 k2 k0 k1 hh n0 (by omega)]
      refine ⟨by omega, ?_⟩
      simp only [Option.toList_none, List.nil_append]
      rw [b37_13]
      exact hQ)
    rw [if_pos (show (psC σ (M.dp - 1) (tn T M) (M.gs (6 * tA P M + tB P M))).1 2006 109 = -1 from k3)] at this
    exact this
theorem c_19 (B : cBd σ o P T M) (hop : tO P M = 19) : cSt P T M σ := by
  obtain ⟨⟨k0, k1, k2, k3, k4⟩, ⟨n0, n1, hh, hsk⟩, ⟨hi, i0, i1⟩, m0, m1⟩ := B.f
  obtain ⟨z1, -⟩ := B.z (wn := 1) (by rw [hop]; rfl)
  have ht := B.2.2.2.1
  have hW := B.1.1.1
  obtain ⟨-, -, -, -, i4, i5, -⟩ := ht.ik hW
  have ra := i4 (by omega)
  have rb := i5 (by omega)
  have hn := hW.1.2.1
  have h6 := (hW.2.2.1 _ ra.1 ra.2).2.1
  have ho := (B.2.2.1.2.2 B.2.2.2.2).2.2
  generalize hv : M.sk (M.dp - 1) (tn T M - 1) = v
  generalize hτ : ((σ.1, σ.2.1, j3_ast (poC σ (M.dp - 1) (tn T M)).2.2 2015 109 (6 * tA P M + tB P M) v) : j3_S) = τ
  have t1 : τ.1 = σ.1 := by rw [← hτ]
  have t2 : ∀ e, ¬ e = 2015 → τ.2.2 e 109 = (poC σ (M.dp - 1) (tn T M)).2.2 e 109 := by
    intro e he
    rw [← hτ]
    simp only [j3_ast, up_e (show (e == 2015) = false by simpa using he)]
  have t3 : τ.2.2 2015 109 = i_up (σ.2.2 2015 109) (6 * tA P M + tB P M) v := by rw [← hτ]; simp [poC, j3_ast, j3_up]
  have fτ : fmC σ τ := by rw [← hτ]; exact fmC.A rfl (fmC.A rfl fmC.rf)
  have base : CR (nxC (poC σ (M.dp - 1) (tn T M)) (M.dp - 1) (ti M)) P T (M.go (M.dp - 1) (tn T M - 1) (M.sk (M.dp - 1)) (ti M + 1)) := by
    refine crO B.1.1.1 B.1.2 B.2.2.1 B.2.2.2.1 B.2.2.2.2 (by omega) (Or.inl ⟨rfl, by rw [hop]; rfl⟩) (by omega) rfl (fun e he => ?_) ?_ ?_ (fun k' hk => ?_)
    · simp at he
      rcases he with rfl | rfl | rfl | rfl | rfl | rfl | rfl <;> simp [nxC, poC, j3_ast, j3_up]
    · simp [nxC, poC, j3_ast, j3_up]
    · simp [nxC, poC, j3_ast, j3_up, i_up]
    · simp [nxC, poC, j3_ast, j3_up, i_up, hk]
  have eq : ∀ e, ¬ e = 2015 → (nxC τ (M.dp - 1) (ti M)).2.2 e 109 = (nxC (poC σ (M.dp - 1) (tn T M)) (M.dp - 1) (ti M)).2.2 e 109 := by
    intro e h1
    by_cases g : e = 2009
    · subst g
      simp only [nxC, j3_ast, up_r]
      rw [t2 2009 (by decide)]
    · simp only [nxC, j3_ast, up_e (show (e == 2009) = false by simpa using g)]
      exact t2 e h1
  refine ⟨nxC τ (M.dp - 1) (ti M), ?_, fmC.A rfl fτ, ?_⟩
  · have hS : stp P M = (M.gf (M.dp - 1) (tn T M - 1) (M.sk (M.dp - 1)) (ti M + 1), (M.no, M.oc, M.fd, i_up M.gs (6 * tA P M + tB P M) v), M.2.2) := by
      rw [stp_e ht, ← hv]
      unfold stO
      rw [hop]
      rfl
    rw [hS]
    obtain ⟨⟨⟨a1, a2, a3, a4⟩, a5⟩, b2, b3⟩ := base
    have b2 := b2 (by show ¬ M.en = 0; rw [B.2.2.2.2]; decide)
    obtain ⟨b3, b4, b5⟩ := b3 B.2.2.2.2
    refine ⟨⟨⟨?_, ?_, ?_, ?_⟩, ?_⟩, fun _ => ?_, fun _ => ⟨?_, ?_, ⟨?_, fun z z0 z1 => ?_⟩⟩⟩
    · show τ.1 2006 109 = M.en
      rw [t1]; exact a1
    · show τ.1 2012 109 = M.no
      rw [t1]; exact a2
    · rw [eq 2001 (by decide)]; exact a3
    · rw [eq 2001 (by decide)]; exact a4
    · rw [eq 2001 (by decide), eq 2002 (by decide)]; exact a5
    · unfold CRb at b2 ⊢
      rw [eq 2008 (by decide), eq 2009 (by decide)]
      refine ⟨?_, b2.2⟩
      show τ.1 2007 109 = M.dp
      rw [t1]; exact b2.1
    · unfold CRs at b3 ⊢
      rw [eq 2010 (by decide), eq 2011 (by decide)]
      exact b3
    · unfold CRl at b4 ⊢
      rw [eq 2011 (by decide)]
      exact b4
    · rw [eq 2013 (by decide), eq 2014 (by decide)]
      exact b5.1
    · show _ = i_up M.gs (6 * tA P M + tB P M) v z
      have : (nxC τ (M.dp - 1) (ti M)).2.2 2015 109 = τ.2.2 2015 109 := by simp only [nxC, j3_ast, up_e (show ((2015 : Nat) == 2009) = false from rfl)]
      rw [this, t3]
      simp only [i_up]
      by_cases g : z = 6 * tA P M + tB P M
      · rw [if_pos g, if_pos g]
      · rw [if_neg g, if_neg g]
        exact ho.2 z z0 z1
  · have := via37 (τ := τ) B (by omega) (by rw [t2 2009 (by decide)]; simp only [poC, j3_ast, up_e (show ((2009 : Nat) == 2010) = false from rfl)]; exact hi) (fun d Q hQ => by
      rw [e37, b37_0, if_neg (by omega), if_pos hop]
      refine cBd.po k2 k0 k1 hh (by omega) n1 ?_
      simp only [Option.toList_some, List.cons_append, List.nil_append]
      rw [hsk _ (by omega) (by omega), hv]
      simp (disch := omega) only [wr_id]
      rw [show tA P M * 6 + tB P M = 6 * tA P M + tB P M by omega, b37_26]
      refine ⟨by omega, ?_⟩
      rw [← hτ] at hQ
      exact hQ)
    rw [if_pos (show τ.1 2006 109 = -1 by rw [t1]; exact k3)] at this
    exact this
end CST7
