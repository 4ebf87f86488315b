/-! the class's step: GET, PUT -/
section CST8
variable {σ σ' τ : j3_S} {P : Pg} {T : Int → Fl} {M : Mc} {d : Nat} {Q : j3_P} {k i j x v h' : Int} {s : Int → Int} {o : Nat}
theorem dep_cv (hg : good P) {c : Int} : ∀ y, 0 ≤ y → y < P 3000 0 → cv P c y = true → c = y ∨ P 3004 c < P 3004 y := by
  have hs := hg.1.1
  refine cv_ind hs (fun y y0 y1 ih h => ?_)
  by_cases g : y = c
  · exact Or.inl g.symm
  · obtain ⟨p0, p1⟩ := cv_up hs y0 y1 h g
    have hd := (hg.2.1 y y0 y1).1.1
    rw [if_neg (by omega)] at hd
    rcases ih p0 p1 with e | e
    · rw [e]; right; omega
    · right; omega
theorem dep_in (hg : good P) {c c' y : Int} (y0 : 0 ≤ y) (y1 : y < P 3000 0) (h : cv P c y = true) (h' : cv P c' y = true) (e : P 3004 c = P 3004 c') : c = c' := by
  have hs := hg.1.1
  have b := cv_le hs y y0 y1 h
  have b' := cv_le hs y y0 y1 h'
  rcases cv_l hs y y0 y1 h h' with q | q
  · rcases dep_cv hg c b.1 (by omega) q with z | z
    · exact z.symm
    · omega
  · rcases dep_cv hg c' b'.1 (by omega) q with z | z
    · exact z
    · omega
/-- the top is another value -/
theorem crR (B : cBd σ o P T M) (h3 : ¬ tO P M = 3) (hgo : gon (tO P M) = true) (z1 : 1 ≤ tn T M) : CR (nxC (psC (poC σ (M.dp - 1) (tn T M)) (M.dp - 1) (tn T M - 1) v) (M.dp - 1) (ti M)) P T (M.go (M.dp - 1) (tn T M) (i_up (M.sk (M.dp - 1)) (tn T M - 1) v) (ti M + 1)) := by
  obtain ⟨⟨k0, k1, k2, k3, k4⟩, ⟨n0, n1, hh, hsk⟩, ⟨hi, i0, i1⟩, m0, m1⟩ := B.f
  generalize hτ : psC (poC σ (M.dp - 1) (tn T M)) (M.dp - 1) (tn T M - 1) v = τ
  have t1 : τ.1 = σ.1 := by rw [← hτ]; rfl
  have t2 : ∀ e, ¬ e = 2010 → ¬ e = 2011 → τ.2.2 e 109 = σ.2.2 e 109 := by
    intro e h1 h2
    rw [← hτ]
    simp only [psC, poC, j3_ast, up_e (show (e == 2010) = false by simpa using h1), up_e (show (e == 2011) = false by simpa using h2)]
  have t3 : τ.2.2 2010 109 = i_up (i_up (σ.2.2 2010 109) (M.dp - 1) (tn T M - 1)) (M.dp - 1) (tn T M - 1 + 1) := by rw [← hτ]; simp [psC, poC, j3_ast, j3_up]
  have t4 : τ.2.2 2011 109 = i_up (σ.2.2 2011 109) ((M.dp - 1) * 30 + 20 + (tn T M - 1)) v := by rw [← hτ]; simp [psC, poC, j3_ast, j3_up]
  have u1 : ∀ e, ¬ e = 2009 → (nxC τ (M.dp - 1) (ti M)).2.2 e 109 = τ.2.2 e 109 := fun e he => up_e (by simpa using he)
  refine B.2.2.1.g B.1.1.1 B.1.2 B.2.2.2.1 B.2.2.2.2 t1 (fun e he => ?_) ?_ ?_ (fun k' hk => ?_) (fun z hz => ?_) (fun q q0 q1 => ?_) h3 (Or.inl ⟨rfl, hgo⟩)
  · simp at he
    rw [u1 e (by omega)]
    exact t2 e (by omega) (by omega)
  · simp only [nxC, j3_ast, up_r]
    rw [t2 2009 (by decide) (by decide)]
  · rw [u1 2010 (by decide), t3]; simp only [i_up, if_true]; omega
  · rw [u1 2010 (by decide), t3]; simp only [i_up, if_neg hk]
  · rw [u1 2011 (by decide), t4]; simp only [i_up]; rw [if_neg (by omega)]
  · rw [u1 2011 (by decide), t4]
    simp only [i_up]
    by_cases g : q = tn T M - 1
    · rw [if_pos (by omega), if_pos g]
    · rw [if_neg (by omega), if_neg g]
      exact hsk q q0 (by omega)
theorem c_16 (B : cBd σ o P T M) (hop : tO P M = 16) : cSt P T M σ := by
  obtain ⟨⟨k0, k1, k2, k3, k4⟩, ⟨n0, n1, hh, hsk⟩, ⟨hi, i0, i1⟩, m0, m1⟩ := B.f
  have ht := B.2.2.2.1
  have hg := B.1.1
  have hW := hg.1
  have hs := hW.1
  have hp := ht.2.1
  obtain ⟨-, -, -, -, i4, i5, -⟩ := ht.ik hW
  have ra := i4 (by omega)
  have rb := i5 (by omega)
  have hn := hs.2.1
  have hf := fld_b hg ra.1 ra.2 rb.1 rb.2
  have hd := (hg.2.1 _ ra.1 ra.2).1
  have hwl : wl P (tm M) (tO P M) (tA P M) (tB P M) = [4 + tA P M] := by rw [hop]; rfl
  obtain ⟨⟨-, t2, -⟩, e1, -, -⟩ := ht.tI B.1.2
  have t2 : stk P (tn T M) (ts T M) := t2
  obtain ⟨z1, z2, -⟩ := exf_z (wn := 1) e1 (by rw [show wl P (tm M) (tO P M) (tA P M) (tB P M) = [4 + tA P M] from hwl]; rfl)
  have z1 : 1 ≤ tn T M := z1
  have z2 : af P (ts T M) [4 + tA P M] (tn T M - 1) 1 = true := by rw [hwl] at z2; exact z2
  have v1 := ht.vs (tn T M - 1) (by omega) (by omega)
  have v2 := (vt_ft hs hp.1.1 hp.2.1 v1 (t2 _ (by omega) (by omega)).1 (af_1 z2) (Or.inl (by omega))).1 (by omega)
  have v3 := v2.2.1 (by omega)
  have v4 := v2.2.2 (by omega)
  rw [show 4 + tA P M - 4 = tA P M by omega] at v4
  have ho := (B.2.2.1.2.2 B.2.2.2.2).2.2
  generalize hv : M.sk (M.dp - 1) (tn T M - 1) = r at v3 v4
  have no2 := hp.1.2
  have hS : stp P M = if r = 0 then M.tp 1 else M.go (M.dp - 1) (tn T M) (i_up (M.sk (M.dp - 1)) (tn T M - 1) (M.fd (r - 1) (tA P M) (tB P M))) (ti M + 1) := by
    rw [stp_e ht, ← hv]
    unfold stO
    rw [hop]
    rfl
  have c37 : ∀ d (Q : j3_P), T37 (d + 3) Q 42 [wO 2 109, wI (tO P M), wI (tA P M), wI (tB P M), wI 0, wI r, wM 2] [wI (b2i (decide (0 < r) && decide (r ≤ M.no)))] (poC σ (M.dp - 1) (tn T M)) → j3_tc false (d + 4) 37 [wO 2 109, wI (tO P M), wI (tA P M), wI (tB P M)] σ Q := by
    intro d Q hQ
    rw [e37, b37_0, if_neg (by omega), if_neg (by omega), if_neg (by omega), b37_35]
    refine cBd.po k2 k0 k1 hh (by omega) n1 ?_
    simp only [Option.toList_some, List.cons_append, List.nil_append]
    rw [hsk _ (by omega) (by omega), hv, b37_38, s34, show (poC σ (M.dp - 1) (tn T M)).1 2012 109 = M.no from k4]
    simp only [Option.toList_some, List.cons_append, List.nil_append]
    exact hQ
  by_cases g : r = 0
  · refine ⟨trC (poC σ (M.dp - 1) (tn T M)) 1, ?_, fmC.I rfl (fmC.A rfl (fmC.A rfl fmC.rf)), ?_⟩
    · rw [hS, if_pos g]
      refine B.2.2.1.tp B.2.2.2.2 1 ⟨by simp [trC, j3_up], by simp [trC, poC, j3_up], by simp [trC, poC, j3_up]⟩ (fun e he => ?_) ⟨by simp [trC, j3_ast, j3_up, i_up], by simp [trC, poC, j3_ast, j3_up, i_up], by simp [trC, poC, j3_ast, j3_up, i_up]⟩
      simp at he
      rcases he with rfl | rfl | rfl <;> simp [trC, poC, j3_ast, j3_up]
    · have := via37 (τ := trC (poC σ (M.dp - 1) (tn T M)) 1) B (by omega) (by simp only [trC, poC, j3_ast, up_e (show ((2009 : Nat) == 2001) = false from rfl), up_e (show ((2009 : Nat) == 2010) = false from rfl)]; exact hi) (fun d Q hQ => by
        refine c37 d Q ?_
        rw [g, show (decide ((0 : Int) < 0) && decide ((0 : Int) ≤ M.no)) = false from rfl, b37_42, if_pos (show b2i false = 0 from rfl), s25]
        simp only [Option.toList_none, List.nil_append]
        rw [b37_46]
        exact hQ)
      rw [if_neg (show ¬ (trC (poC σ (M.dp - 1) (tn T M)) 1).1 2006 109 = -1 by simp [trC, j3_up])] at this
      exact this
  · have v5 := v4.resolve_left g
    have hfd := (ho.1 (r - 1) (by omega) (by omega)).2 (tA P M) (tB P M) v5.2 rb.1 rb.2
    refine ⟨nxC (psC (poC σ (M.dp - 1) (tn T M)) (M.dp - 1) (tn T M - 1) (M.fd (r - 1) (tA P M) (tB P M))) (M.dp - 1) (ti M), ?_, fmC.A rfl (fmC.A rfl (fmC.A rfl (fmC.A rfl fmC.rf))), ?_⟩
    · rw [hS, if_neg g]
      exact crR B (by omega) (by rw [hop]; rfl) z1
    · have := via37 (τ := psC (poC σ (M.dp - 1) (tn T M)) (M.dp - 1) (tn T M - 1) (M.fd (r - 1) (tA P M) (tB P M))) B (by omega) (by simp only [psC, poC, j3_ast, up_e (show ((2009 : Nat) == 2010) = false from rfl), up_e (show ((2009 : Nat) == 2011) = false from rfl)]; exact hi) (fun d Q hQ => by
        refine c37 d Q ?_
        have : (decide (0 < r) && decide (r ≤ M.no)) = true := by simp; omega
        have e1 : (poC σ (M.dp - 1) (tn T M)).2.1 1 = o := B.2.1.2.1
        have e2 : (poC σ (M.dp - 1) (tn T M)).2.2 3004 o (tA P M) = P 3004 (tA P M) := by simp only [poC, j3_ast, up_e (show ((3004 : Nat) == 2010) = false from rfl)]; exact B.2.1.2.2.2 _ ra.1 ra.2
        have e3 : (poC σ (M.dp - 1) (tn T M)).2.2 2014 109 = σ.2.2 2014 109 := by simp only [poC, j3_ast, up_e (show ((2014 : Nat) == 2010) = false from rfl)]
        rw [this, b37_42, if_neg (show ¬ b2i true = 0 by decide), e1, e2, e3, if_neg (by omega)]
        simp (disch := omega) only [wr_id]
        rw [hfd, s26 (σ := poC σ (M.dp - 1) (tn T M)) (k := M.dp - 1) (h := tn T M - 1) k2 k0 k1 (by simp [poC, j3_ast, j3_up, i_up]) (by omega) (by omega)]
        refine ⟨B.2.1.1, by omega, by omega, ?_⟩
        simp only [Option.toList_none, List.nil_append]
        rw [b37_78]
        exact hQ)
      rw [if_pos (show (psC (poC σ (M.dp - 1) (tn T M)) (M.dp - 1) (tn T M - 1) (M.fd (r - 1) (tA P M) (tB P M))).1 2006 109 = -1 from k3)] at this
      exact this
end CST8
