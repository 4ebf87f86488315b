/-! the class's step: NEW -/
section CST6
variable {σ σ' τ : j3_S} {P : Pg} {T : Int → Fl} {M : Mc} {d : Nat} {Q : j3_P} {k i j x v h' : Int} {s : Int → Int} {o : Nat}
/-- the place of a field in its object -/
theorem fld_b (hg : good P) {c f : Int} (c0 : 0 ≤ c) (c1 : c < P 3000 0) (f0 : 0 ≤ f) (f1 : f < P 3005 c) : 0 ≤ P 3004 c * 6 + f ∧ P 3004 c * 6 + f < 60 := by
  have h1 := (hg.2.1 c c0 c1).1
  have h2 := (hg.1.2.2.1 c c0 c1).2.1
  have h3 := hg.1.1.2.1
  omega
def nwC (σ : j3_S) (n a : Int) : j3_S := (j3_up σ.1 2012 109 (n + 1), σ.2.1, j3_up (j3_ast σ.2.2 2013 109 n a) 2014 109 (i_fl ((j3_ast σ.2.2 2013 109 n a) 2014 109) (n * 60) (n * 60 + 60) 0))
theorem c_15 (B : cBd σ o P T M) (hop : tO P M = 15) : cSt P T M σ := by
  obtain ⟨⟨k0, k1, k2, k3, k4⟩, ⟨n0, n1, hh, hsk⟩, ⟨hi, i0, i1⟩, m0, m1⟩ := B.f
  obtain ⟨-, z2⟩ := B.z (wn := 0) (by rw [hop]; rfl)
  have z3 : (gx P (tO P M) (tA P M) (tB P M) (ts T M) (tl T M) (tn T M - 0)).length = 1 := by rw [hop]; rfl
  rw [z3] at z2
  have ht := B.2.2.2.1
  have hg := B.1.1
  have hW := hg.1
  have hs := hW.1
  have hp := ht.2.1
  have ra := (ht.ik hW).2.2.2.2.1 (Or.inl hop)
  have hnj : isj (tO P M) = false := by rw [hop]; rfl
  have hgo : gon (tO P M) = true := by rw [hop]; rfl
  have hS : stp P M = if M.no = 200 then M.tp 6 else (M.gf (M.dp - 1) (tn T M + 1) (i_up (M.sk (M.dp - 1)) (tn T M) (M.no + 1)) (ti M + 1), (M.no + 1, i_up M.oc M.no (tA P M), (fun o => if o = M.no then fun _ _ => 0 else M.fd o), M.gs), M.2.2) := by
    rw [stp_e ht]
    unfold stO
    rw [hop]
    rfl
  by_cases g : M.no = 200
  · refine ⟨trC σ 6, ?_, fmC.I rfl (fmC.A rfl fmC.rf), ?_⟩
    · rw [hS, if_pos g]
      refine B.2.2.1.tp B.2.2.2.2 6 ⟨by simp [trC, j3_up], by simp [trC, j3_up], by simp [trC, j3_up]⟩ (fun e he => ?_) ⟨by simp [trC, j3_ast, j3_up, i_up], by simp [trC, j3_ast, j3_up, i_up], by simp [trC, j3_ast, j3_up, i_up]⟩
      simp at he
      rcases he with rfl | rfl | rfl <;> simp [trC, j3_ast, j3_up]
    · have := via31 (τ := trC σ 6) B hnj (by omega) (by omega) (by omega) (by simp only [trC, j3_ast, up_e (show ((2009 : Nat) == 2001) = false from rfl)]; exact hi) (fun d Q hQ => by
        rw [e31, b31_0, hop]
        show T31 (d + 3) Q 42 _ _ _
        rw [b31_42, e33, b33_0, k4, if_neg (by omega), s25]
        simp only [Option.toList_none, List.nil_append]
        rw [b33_7]
        simp only [Option.toList_none, List.nil_append]
        rw [b31_45, b31_72]
        exact hQ)
      rw [if_neg (show ¬ (trC σ 6).1 2006 109 = -1 by simp [trC, j3_up])] at this
      exact this
  · have nb := hp.1
    generalize hν : nwC σ M.no (tA P M) = ν
    have v1 : ∀ e, ¬ e = 2012 → ν.1 e 109 = σ.1 e 109 := by
      intro e he
      rw [← hν]
      exact up_e (by simpa using he)
    have v2 : ν.1 2012 109 = M.no + 1 := by rw [← hν]; simp [nwC, j3_up]
    have v3 : ∀ e, ¬ e = 2013 → ¬ e = 2014 → ν.2.2 e 109 = σ.2.2 e 109 := by
      intro e h1 h2
      rw [← hν]
      simp only [nwC, j3_ast, up_e (show (e == 2014) = false by simpa using h2), up_e (show (e == 2013) = false by simpa using h1)]
    have v4 : ν.2.2 2013 109 = i_up (σ.2.2 2013 109) M.no (tA P M) := by rw [← hν]; simp [nwC, j3_ast, j3_up]
    have v5 : ν.2.2 2014 109 = i_fl (σ.2.2 2014 109) (M.no * 60) (M.no * 60 + 60) 0 := by rw [← hν]; simp [nwC, j3_ast, j3_up]
    have fν : fmC σ ν := by rw [← hν]; exact fmC.I rfl (fmC.A rfl (fmC.A rfl fmC.rf))
    have base := crP (v := M.no + 1) hW B.1.2 B.2.2.1 ht B.2.2.2.2 (by omega) hgo (show tn T M < 10 by omega)
    have eq : ∀ e, ¬ e = 2013 → ¬ e = 2014 → (nxC (psC ν (M.dp - 1) (tn T M) (M.no + 1)) (M.dp - 1) (ti M)).2.2 e 109 = (nxC (psC σ (M.dp - 1) (tn T M) (M.no + 1)) (M.dp - 1) (ti M)).2.2 e 109 := by
      intro e h1 h2
      by_cases g9 : e = 2009
      · subst g9
        simp only [nxC, psC, j3_ast, up_r, up_e (show ((2009 : Nat) == 2010) = false from rfl), up_e (show ((2009 : Nat) == 2011) = false from rfl)]
        rw [v3 2009 (by decide) (by decide)]
      · by_cases g10 : e = 2010
        · subst g10
          simp only [nxC, psC, j3_ast, up_r, up_e (show ((2010 : Nat) == 2009) = false from rfl), up_e (show ((2010 : Nat) == 2011) = false from rfl)]
          rw [v3 2010 (by decide) (by decide)]
        · by_cases g11 : e = 2011
          · subst g11
            simp only [nxC, psC, j3_ast, up_r, up_e (show ((2011 : Nat) == 2009) = false from rfl), up_e (show ((2011 : Nat) == 2010) = false from rfl)]
            rw [v3 2011 (by decide) (by decide)]
          · simp only [nxC, psC, j3_ast, up_e (show (e == 2009) = false by simpa using g9), up_e (show (e == 2010) = false by simpa using g10), up_e (show (e == 2011) = false by simpa using g11)]
            exact v3 e h1 h2
    have eq2 : ∀ e, ¬ e = 2009 → ¬ e = 2010 → ¬ e = 2011 → (nxC (psC ν (M.dp - 1) (tn T M) (M.no + 1)) (M.dp - 1) (ti M)).2.2 e 109 = ν.2.2 e 109 := by
      intro e g9 g10 g11
      simp only [nxC, psC, j3_ast, up_e (show (e == 2009) = false by simpa using g9), up_e (show (e == 2010) = false by simpa using g10), up_e (show (e == 2011) = false by simpa using g11)]
    refine ⟨nxC (psC ν (M.dp - 1) (tn T M) (M.no + 1)) (M.dp - 1) (ti M), ?_, fmC.A rfl (fmC.A rfl (fmC.A rfl fν)), ?_⟩
    · rw [hS, if_neg g]
      obtain ⟨⟨⟨a1, a2, a3, a4⟩, a5⟩, b2, b3⟩ := base
      have b2 := b2 (by show ¬ M.en = 0; rw [B.2.2.2.2]; decide)
      obtain ⟨b3, b4, b5⟩ := b3 B.2.2.2.2
      refine ⟨⟨⟨?_, ?_, ?_, ?_⟩, ?_⟩, fun _ => ?_, fun _ => ⟨?_, ?_, ⟨fun q q0 q1 => ?_, ?_⟩⟩⟩
      · show ν.1 2006 109 = M.en
        rw [v1 2006 (by decide)]; exact a1
      · exact v2
      · rw [eq 2001 (by decide) (by decide)]; exact a3
      · rw [eq 2001 (by decide) (by decide)]; exact a4
      · rw [eq 2001 (by decide) (by decide), eq 2002 (by decide) (by decide)]; exact a5
      · unfold CRb at b2 ⊢
        rw [eq 2008 (by decide) (by decide), eq 2009 (by decide) (by decide)]
        refine ⟨?_, b2.2⟩
        show ν.1 2007 109 = M.dp
        rw [v1 2007 (by decide)]; exact b2.1
      · unfold CRs at b3 ⊢
        rw [eq 2010 (by decide) (by decide), eq 2011 (by decide) (by decide)]
        exact b3
      · unfold CRl at b4 ⊢
        rw [eq 2011 (by decide) (by decide)]
        exact b4
      · have q1 : q < M.no + 1 := q1
        show (nxC (psC ν (M.dp - 1) (tn T M) (M.no + 1)) (M.dp - 1) (ti M)).2.2 2013 109 q = i_up M.oc M.no (tA P M) q ∧ ∀ c f, cv P c (i_up M.oc M.no (tA P M) q) = true → 0 ≤ f → f < P 3005 c → (nxC (psC ν (M.dp - 1) (tn T M) (M.no + 1)) (M.dp - 1) (ti M)).2.2 2014 109 (q * 60 + P 3004 c * 6 + f) = (if q = M.no then fun _ _ => 0 else M.fd q) c f
        rw [eq2 2013 (by decide) (by decide) (by decide), eq2 2014 (by decide) (by decide) (by decide), v4, v5]
        have ho := (B.2.2.1.2.2 B.2.2.2.2).2.2
        by_cases gq : q = M.no
        · simp only [i_up, if_pos gq, i_fl]
          refine ⟨trivial, fun c f hc f0 f1 => ?_⟩
          have hcc := cv_le hs _ ra.1 ra.2 hc
          have := fld_b hg hcc.1 (by omega) f0 f1
          rw [if_pos (by omega)]
        · simp only [i_up, if_neg gq, i_fl]
          obtain ⟨w1, w2⟩ := ho.1 q q0 (by omega)
          refine ⟨w1, fun c f hc f0 f1 => ?_⟩
          have hq := hp.2.1 q q0 (by omega)
          have hcc := cv_le hs _ hq.1 hq.2 hc
          have := fld_b hg hcc.1 (by omega) f0 f1
          rw [if_neg (by omega)]
          exact w2 c f hc f0 f1
      · have ho := (B.2.2.1.2.2 B.2.2.2.2).2.2.2
        rw [eq2 2015 (by decide) (by decide) (by decide), v3 2015 (by decide) (by decide)]
        exact ho
    · have := via31 (τ := psC ν (M.dp - 1) (tn T M) (M.no + 1)) B hnj (by omega) (by omega) (by omega) (by simp only [psC, j3_ast, up_e (show ((2009 : Nat) == 2010) = false from rfl), up_e (show ((2009 : Nat) == 2011) = false from rfl)]; rw [v3 2009 (by decide) (by decide)]; exact hi) (fun d Q hQ => by
        rw [e31, b31_0, hop]
        show T31 (d + 3) Q 42 _ _ _
        rw [b31_42, e33, b33_0, k4, if_pos (by omega), wr_id (z := M.no * 60) (by omega) (by omega), wr_id (z := M.no * 60 + 60) (by omega) (by omega), s249 (n := 12000) rfl rfl rfl (by omega) (by omega) (by omega) (by omega)]
        refine ⟨by omega, ?_⟩
        simp only [Option.toList_none, List.nil_append]
        rw [b33_27]
        dsimp only
        rw [k4, wr_id (by omega) (by omega)]
        show j3_tc false (d + 2) 26 [wO 2 109, wI (M.no + 1)] (nwC σ M.no (tA P M)) _
        rw [hν, s26 (σ := ν) (k := M.dp - 1) (h := tn T M) (by rw [v1 2007 (by decide)]; exact k2) k0 k1 (by rw [v3 2010 (by decide) (by decide)]; exact hh) n0 (by omega)]
        simp only [Option.toList_none, List.nil_append]
        rw [b33_37]
        simp only [Option.toList_none, List.nil_append]
        rw [b31_45, b31_72]
        exact hQ)
      rw [if_pos (show (psC ν (M.dp - 1) (tn T M) (M.no + 1)).1 2006 109 = -1 by show ν.1 2006 109 = -1; rw [v1 2006 (by decide)]; exact k3)] at this
      exact this
end CST6
