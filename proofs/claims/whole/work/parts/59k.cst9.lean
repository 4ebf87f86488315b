/-! the class's step: PUT -/
section CST9
variable {σ σ' τ : j3_S} {P : Pg} {T : Int → Fl} {M : Mc} {d : Nat} {Q : j3_P} {k i j x v h' : Int} {s : Int → Int} {o : Nat}
theorem c_17 (B : cBd σ o P T M) (hop : tO P M = 17) : cSt P T M σ := by
  obtain ⟨⟨k0, k1, k2, k3, k4⟩, ⟨n0, n1, hh, hsk⟩, ⟨hi, i0, i1⟩, m0, m1⟩ := B.f
  have ht := B.2.2.2.1
  have hg := B.1.1
  have hW := hg.1
  have hs := hW.1
  have hp := ht.2.1
  obtain ⟨-, -, -, -, i4, i5, -⟩ := ht.ik hW
  have ra := i4 (by omega)
  have rb := i5 (by omega)
  have hn := hs.2.1
  have hf := fld_b hg ra.1 ra.2 rb.1 rb.2
  have hd := (hg.2.1 _ ra.1 ra.2).1
  have h5 := (hW.2.2.1 _ ra.1 ra.2).2.1
  have hwl : wl P (tm M) (tO P M) (tA P M) (tB P M) = [4 + tA P M, tyof (P 3009 (tA P M * 6 + tB P M))] := by rw [hop]; rfl
  obtain ⟨⟨-, t2, -⟩, e1, -, -⟩ := ht.tI B.1.2
  have t2 : stk P (tn T M) (ts T M) := t2
  obtain ⟨z1, z2, -⟩ := exf_z (wn := 2) e1 (by rw [show wl P (tm M) (tO P M) (tA P M) (tB P M) = [4 + tA P M, tyof (P 3009 (tA P M * 6 + tB P M))] from hwl]; rfl)
  have z1 : 2 ≤ tn T M := z1
  have z2 : af P (ts T M) [4 + tA P M, tyof (P 3009 (tA P M * 6 + tB P M))] (tn T M - 2) 2 = true := by rw [hwl] at z2; exact z2
  have v1 := ht.vs (tn T M - 2) (by omega) (by omega)
  have v2 := (vt_ft hs hp.1.1 hp.2.1 v1 (t2 _ (by omega) (by omega)).1 (af_2 z2).1 (Or.inl (by omega))).1 (by omega)
  have v3 := v2.2.1 (by omega)
  have v4 := v2.2.2 (by omega)
  rw [show 4 + tA P M - 4 = tA P M by omega] at v4
  have ho := (B.2.2.1.2.2 B.2.2.2.2).2.2
  generalize hv : M.sk (M.dp - 1) (tn T M - 2) = r at v3 v4
  generalize hw : M.sk (M.dp - 1) (tn T M - 1) = v
  have no2 := hp.1.2
  have hS : stp P M = if r = 0 then M.tp 1 else (M.gf (M.dp - 1) (tn T M - 2) (M.sk (M.dp - 1)) (ti M + 1), (M.no, M.oc, (fun o c f => if o = r - 1 ∧ c = tA P M ∧ f = tB P M then v else M.fd o c f), M.gs), M.2.2) := by
    rw [stp_e ht, ← hv, ← hw]
    unfold stO
    rw [hop]
    rfl
  generalize hρ : poC (poC σ (M.dp - 1) (tn T M)) (M.dp - 1) (tn T M - 1) = ρ
  have r1 : ρ.1 = σ.1 := by rw [← hρ]; rfl
  have rp : ρ.2.1 = σ.2.1 := by rw [← hρ]; rfl
  have r2 : ∀ e o', ¬ e = 2010 → ρ.2.2 e o' = σ.2.2 e o' := by
    intro e o' he
    rw [← hρ]
    have : (e == 2010) = false := by simpa using he
    simp only [poC, j3_ast, up_e this]
  have r3 : ρ.2.2 2010 109 = i_up (i_up (σ.2.2 2010 109) (M.dp - 1) (tn T M - 1)) (M.dp - 1) (tn T M - 1 - 1) := by rw [← hρ]; simp [poC, j3_ast, j3_up]
  have fρ : fmC σ ρ := by rw [← hρ]; exact fmC.A rfl (fmC.A rfl fmC.rf)
  have c37 : ∀ d (Q : j3_P), T37 (d + 3) Q 42 [wO 2 109, wI (tO P M), wI (tA P M), wI (tB P M), wI v, wI r, wM 2] [wI (b2i (decide (0 < r) && decide (r ≤ M.no)))] ρ → j3_tc false (d + 4) 37 [wO 2 109, wI (tO P M), wI (tA P M), wI (tB P M)] σ Q := by
    intro d Q hQ
    rw [e37, b37_0, if_neg (by omega), if_neg (by omega), if_pos hop]
    refine cBd.po k2 k0 k1 hh (by omega) n1 ?_
    simp only [Option.toList_some, List.cons_append, List.nil_append]
    rw [hsk _ (by omega) (by omega), hw, b37_33, b37_35]
    refine cBd.po (σ1 := poC σ (M.dp - 1) (tn T M)) (n := tn T M - 1) k2 k0 k1 (by simp [poC, j3_ast, j3_up, i_up]) (by omega) (by omega) ?_
    simp only [Option.toList_some, List.cons_append, List.nil_append]
    rw [hρ, show (poC σ (M.dp - 1) (tn T M)).2.2 2011 109 = σ.2.2 2011 109 by simp only [poC, j3_ast, up_e (show ((2011 : Nat) == 2010) = false from rfl)], hsk _ (by omega) (by omega), show tn T M - 1 - 1 = tn T M - 2 by omega, hv, b37_38, s34, show ρ.1 2012 109 = M.no by rw [r1]; exact k4]
    simp only [Option.toList_some, List.cons_append, List.nil_append]
    exact hQ
  by_cases g : r = 0
  · refine ⟨trC ρ 1, ?_, fmC.I rfl (fmC.A rfl fρ), ?_⟩
    · rw [hS, if_pos g]
      refine B.2.2.1.tp B.2.2.2.2 1 ⟨by simp [trC, j3_up], by simp [trC, j3_up, r1], by simp [trC, j3_up, r1]⟩ (fun e he => ?_) ⟨by simp [trC, j3_ast, j3_up, i_up], by simp [trC, j3_ast, j3_up, i_up, r2 2001 109 (by decide)], by simp [trC, j3_ast, j3_up, i_up, r2 2001 109 (by decide)]⟩
      have h1 : (e == 2001) = false ∧ ¬ e = 2010 := by
        simp at he
        rcases he with rfl | rfl | rfl <;> exact ⟨rfl, by decide⟩
      simp only [trC, j3_ast, up_e h1.1]
      exact r2 e 109 h1.2
    · have := via37 (τ := trC ρ 1) B (by omega) (by simp only [trC, j3_ast, up_e (show ((2009 : Nat) == 2001) = false from rfl)]; rw [r2 2009 109 (by decide)]; exact hi) (fun d Q hQ => by
        refine c37 d Q ?_
        rw [g, show (decide ((0 : Int) < 0) && decide ((0 : Int) ≤ M.no)) = false from rfl, b37_42, if_pos (show b2i false = 0 from rfl), s25]
        simp only [Option.toList_none, List.nil_append]
        rw [b37_46]
        exact hQ)
      rw [if_neg (show ¬ (trC ρ 1).1 2006 109 = -1 by simp [trC, j3_up])] at this
      exact this
  · have v5 := v4.resolve_left g
    generalize hτ : ((ρ.1, ρ.2.1, j3_ast ρ.2.2 2014 109 ((r - 1) * 60 + P 3004 (tA P M) * 6 + tB P M) v) : j3_S) = τ
    have t1 : τ.1 = σ.1 := by rw [← hτ]; exact r1
    have t2 : ∀ e, ¬ e = 2014 → τ.2.2 e 109 = ρ.2.2 e 109 := by
      intro e he
      rw [← hτ]
      simp only [j3_ast, up_e (show (e == 2014) = false by simpa using he)]
    have t3 : τ.2.2 2014 109 = i_up (σ.2.2 2014 109) ((r - 1) * 60 + P 3004 (tA P M) * 6 + tB P M) v := by
      rw [← hτ]
      simp only [j3_ast, up_r]
      rw [r2 2014 109 (by decide)]
    have fτ : fmC σ τ := by rw [← hτ]; exact fmC.A rfl fρ
    have base : CR (nxC ρ (M.dp - 1) (ti M)) P T (M.go (M.dp - 1) (tn T M - 2) (M.sk (M.dp - 1)) (ti M + 1)) := by
      have u1 : ∀ e, ¬ e = 2009 → (nxC ρ (M.dp - 1) (ti M)).2.2 e 109 = ρ.2.2 e 109 := fun e he => up_e (by simpa using he)
      refine crO B.1.1.1 B.1.2 B.2.2.1 B.2.2.2.1 B.2.2.2.2 (by omega) (Or.inl ⟨rfl, by rw [hop]; rfl⟩) (by omega) r1 (fun e he => ?_) ?_ ?_ (fun k' hk => ?_)
      · simp at he
        rw [u1 e (by omega), r2 e 109 (by omega)]
      · simp only [nxC, j3_ast, up_r]
        rw [r2 2009 109 (by decide)]
      · rw [u1 2010 (by decide), r3]; simp only [i_up, if_true]; omega
      · rw [u1 2010 (by decide), r3]; simp only [i_up, if_neg hk]
    have eq : ∀ e, ¬ e = 2014 → (nxC τ (M.dp - 1) (ti M)).2.2 e 109 = (nxC ρ (M.dp - 1) (ti M)).2.2 e 109 := by
      intro e h1
      by_cases g : e = 2009
      · subst g
        simp only [nxC, j3_ast, up_r]
        rw [t2 2009 (by decide)]
      · simp only [nxC, j3_ast, up_e (show (e == 2009) = false by simpa using g)]
        exact t2 e h1
    refine ⟨nxC τ (M.dp - 1) (ti M), ?_, fmC.A rfl fτ, ?_⟩
    · rw [hS, if_neg g]
      obtain ⟨⟨⟨a1, a2, a3, a4⟩, a5⟩, b2, b3⟩ := base
      have b2 := b2 (by show ¬ M.en = 0; rw [B.2.2.2.2]; decide)
      obtain ⟨b3, b4, b5⟩ := b3 B.2.2.2.2
      refine ⟨⟨⟨?_, ?_, ?_, ?_⟩, ?_⟩, fun _ => ?_, fun _ => ⟨?_, ?_, ⟨fun q q0 q1 => ?_, ?_⟩⟩⟩
      · show τ.1 2006 109 = M.en
        rw [t1, ← r1]; exact a1
      · show τ.1 2012 109 = M.no
        rw [t1, ← r1]; exact a2
      · rw [eq 2001 (by decide)]; exact a3
      · rw [eq 2001 (by decide)]; exact a4
      · rw [eq 2001 (by decide), eq 2002 (by decide)]; exact a5
      · unfold CRb at b2 ⊢
        rw [eq 2008 (by decide), eq 2009 (by decide)]
        refine ⟨?_, b2.2⟩
        show τ.1 2007 109 = M.dp
        rw [t1, ← r1]; exact b2.1
      · unfold CRs at b3 ⊢
        rw [eq 2010 (by decide), eq 2011 (by decide)]
        exact b3
      · unfold CRl at b4 ⊢
        rw [eq 2011 (by decide)]
        exact b4
      · have q1 : q < M.no := q1
        refine ⟨by rw [eq 2013 (by decide)]; exact (b5.1 q q0 q1).1, fun c f hc f0 f1 => ?_⟩
        have hc : cv P c (M.oc q) = true := hc
        show (nxC τ (M.dp - 1) (ti M)).2.2 2014 109 (q * 60 + P 3004 c * 6 + f) = if q = r - 1 ∧ c = tA P M ∧ f = tB P M then v else M.fd q c f
        have e14 : (nxC τ (M.dp - 1) (ti M)).2.2 2014 109 = τ.2.2 2014 109 := by simp only [nxC, j3_ast, up_e (show ((2014 : Nat) == 2009) = false from rfl)]
        have hq := hp.2.1 q q0 q1
        have hcc := cv_le hs _ hq.1 hq.2 hc
        have hfc := fld_b hg hcc.1 (by omega) f0 f1
        have h5c := (hW.2.2.1 c hcc.1 (by omega)).2.1
        rw [e14, t3]
        simp only [i_up]
        by_cases gq : q * 60 + P 3004 c * 6 + f = (r - 1) * 60 + P 3004 (tA P M) * 6 + tB P M
        · have e1 : q = r - 1 := by omega
          have e2 : P 3004 c = P 3004 (tA P M) := by omega
          have e3 : f = tB P M := by omega
          rw [e1] at hc hq
          have e4 := dep_in hg hq.1 hq.2 hc v5.2 e2
          rw [if_pos gq, if_pos ⟨e1, e4, e3⟩]
        · rw [if_neg gq, if_neg (fun z => gq (by rw [z.1, z.2.1, z.2.2]))]
          exact (ho.1 q q0 q1).2 c f hc f0 f1
      · rw [eq 2015 (by decide)]
        exact b5.2
    · have := via37 (τ := τ) B (by omega) (by rw [t2 2009 (by decide), r2 2009 109 (by decide)]; exact hi) (fun d Q hQ => by
        refine c37 d Q ?_
        have : (decide (0 < r) && decide (r ≤ M.no)) = true := by simp; omega
        have e1 : ρ.2.1 1 = o := by rw [rp]; exact B.2.1.2.1
        have e2 : ρ.2.2 3004 o (tA P M) = P 3004 (tA P M) := by rw [r2 3004 o (by decide)]; exact B.2.1.2.2.2 _ ra.1 ra.2
        rw [this, b37_42, if_neg (show ¬ b2i true = 0 by decide), e1, e2, if_pos hop]
        simp (disch := omega) only [wr_id]
        rw [b37_78, hτ]
        exact ⟨B.2.1.1, by omega, by omega, hQ⟩)
      rw [if_pos (show τ.1 2006 109 = -1 by rw [t1]; exact k3)] at this
      exact this
end CST9
