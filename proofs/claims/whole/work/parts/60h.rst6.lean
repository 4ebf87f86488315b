/-! the reference's step: RETURN; every instruction -/
section RST6
variable {σ σ' τ : j3_S} {P : Pg} {T : Int → Fl} {M : Mc} {d : Nat} {Q : j3_P} {k i j x v h' s : Int} {t : Int → Int}
theorem rrB (B : rBd σ s P T M) (hd : ¬ M.dp = 1) (hM : (stp P M).1 = (M.dp - 1, M.me, i_up M.pc (M.dp - 1 - 1) (M.pc (M.dp - 1 - 1) + 1), (if P 3014 (tm M) = 0 then M.ht else i_up M.ht (M.dp - 1 - 1) (M.ht (M.dp - 1 - 1) + 1)), M.lo, (if P 3014 (tm M) = 0 then M.sk else up2 M.sk (M.dp - 1 - 1) (i_up (M.sk (M.dp - 1 - 1)) (M.ht (M.dp - 1 - 1)) v)))) (hM2 : (stp P M).2 = M.2) (f0 : ∀ e, ¬ e = 10079 → σ'.1 e 121 = σ.1 e 121) (f0' : σ'.1 10079 121 = M.dp - 1) (f1 : ∀ e, e = 10080 ∨ e = 10083 ∨ e = 10086 ∨ e = 10087 ∨ e = 10088 ∨ e = 10090 → σ'.2.2 e 121 = σ.2.2 e 121) (f2 : σ'.2.2 10081 121 = i_up (σ.2.2 10081 121) (M.dp - 1 - 1) (M.pc (M.dp - 1 - 1) + 1)) (f3 : ∀ k', k' < M.dp - 1 → σ'.2.2 10082 121 k' = if k' = M.dp - 1 - 1 ∧ ¬ P 3014 (tm M) = 0 then M.ht (M.dp - 1 - 1) + 1 else σ.2.2 10082 121 k') (f4 : ∀ z, σ'.2.2 10084 121 z = if z = 10 * (M.dp - 1 - 1) + M.ht (M.dp - 1 - 1) ∧ ¬ P 3014 (tm M) = 0 then v else σ.2.2 10084 121 z) : RR σ' P (stp P M) := by
  have hdp := B.2.2.2.1.1
  have hE := B.2.2.1
  have hT := B.2.2.2.1
  have hW := B.1.1.1
  have hB := hE.2.1 (by rw [B.2.2.2.2]; decide)
  obtain ⟨hs, ho⟩ := hE.2.2 B.2.2.2.2
  have h10 := hT.h10 hW B.1.2
  have hN : stp P M = ((M.dp - 1, M.me, i_up M.pc (M.dp - 1 - 1) (M.pc (M.dp - 1 - 1) + 1), (if P 3014 (tm M) = 0 then M.ht else i_up M.ht (M.dp - 1 - 1) (M.ht (M.dp - 1 - 1) + 1)), M.lo, (if P 3014 (tm M) = 0 then M.sk else up2 M.sk (M.dp - 1 - 1) (i_up (M.sk (M.dp - 1 - 1)) (M.ht (M.dp - 1 - 1)) v))), M.2) := Prod.ext hM hM2
  rw [hN]
  refine ⟨?_, fun _ => ⟨f0', fun k' a0 a1 => ?_⟩, fun _ => ⟨fun k' a0 a1 => ⟨?_, fun x x0 x1 => ?_⟩, ?_⟩⟩
  · have := hE.1
    unfold RRa at this ⊢
    rw [f0 10094 (by decide), f0 10085 (by decide), f0 10095 (by decide), f0 10096 (by decide), f0 10089 (by decide), f1 10090 (by simp)]
    exact this
  · have a1 : k' < M.dp - 1 := a1
    rw [f1 10080 (by simp), f2]
    refine ⟨(hB.2 k' a0 (by omega)).1, ?_⟩
    show i_up _ _ _ k' = i_up M.pc (M.dp - 1 - 1) (M.pc (M.dp - 1 - 1) + 1) k'
    simp only [i_up]
    by_cases g : k' = M.dp - 1 - 1
    · rw [if_pos g, if_pos g]
    · rw [if_neg g, if_neg g]
      exact (hB.2 k' a0 (by omega)).2
  · have a1 : k' < M.dp - 1 := a1
    show σ'.2.2 10082 121 k' = (if P 3014 (tm M) = 0 then M.ht else i_up M.ht (M.dp - 1 - 1) (M.ht (M.dp - 1 - 1) + 1)) k' ∧ ∀ q, 0 ≤ q → q < (if P 3014 (tm M) = 0 then M.ht else i_up M.ht (M.dp - 1 - 1) (M.ht (M.dp - 1 - 1) + 1)) k' → σ'.2.2 10084 121 (10 * k' + q) = (if P 3014 (tm M) = 0 then M.sk else up2 M.sk (M.dp - 1 - 1) (i_up (M.sk (M.dp - 1 - 1)) (M.ht (M.dp - 1 - 1)) v)) k' q
    obtain ⟨⟨s1, s2⟩, -⟩ := hs k' a0 (by omega)
    have hk := h10 k' a0 (by omega)
    have hk2 := h10 (M.dp - 1 - 1) (by omega) (by omega)
    rw [f3 k' a1]
    by_cases g : P 3014 (tm M) = 0
    · simp only [if_pos g]
      rw [if_neg (fun z => z.2 g)]
      refine ⟨s1, fun q q0 q1 => ?_⟩
      rw [f4, if_neg (fun z => z.2 g)]
      exact s2 q q0 q1
    · obtain ⟨w1, w2, w3, w4, w5, w6⟩ := low_f B.1.1 B.1.2 hT (k := M.dp - 1 - 1) (by omega) (by omega)
      rw [show M.dp - 1 - 1 + 1 = M.dp - 1 by omega] at w6
      have w2 := w2 (by rw [← w6]; exact g)
      simp only [if_neg g, i_up, up2]
      by_cases gk : k' = M.dp - 1 - 1
      · rw [if_pos ⟨gk, g⟩, if_pos gk, if_pos gk]
        refine ⟨rfl, fun q q0 q1 => ?_⟩
        rw [f4]
        simp only [i_up]
        by_cases gq : q = M.ht (M.dp - 1 - 1)
        · rw [if_pos ⟨by rw [gk, gq], g⟩, if_pos gq]
        · rw [if_neg (fun z => gq (by omega)), if_neg gq, gk]
          rw [gk] at s2
          exact s2 q q0 (by omega)
      · rw [if_neg (fun z => gk z.1), if_neg gk, if_neg gk]
        refine ⟨s1, fun q q0 q1 => ?_⟩
        rw [f4, if_neg (fun z => gk (by omega))]
        exact s2 q q0 q1
  · have a1 : k' < M.dp - 1 := a1
    rw [f1 10083 (by simp)]
    exact (hs k' a0 (by omega)).2 x x0 x1
  · unfold RRo at ho ⊢
    rw [f1 10086 (by simp), f1 10087 (by simp), f1 10088 (by simp)]
    exact ho
theorem via236 (B : rBd σ s P T M) {X : Int} (xo : σ.2.2 10027 121 X = tO P M) (x0 : 0 ≤ X) (x1 : X < 28800) (hop : tO P M = 22) (hq : ∀ d (Q : j3_P), Q none τ → j3_tc true (d + 3) 236 [wO 10 121] σ Q) : ∀ d (Q : j3_P), Q none τ → T237 (d + 3) Q 16 [wO 10 121, wI (M.dp - 1), wM 2, wM 2, wM 2, wM 2] [wI X] σ := by
  intro d Q hQ
  rw [b237_16, xo, if_neg (by omega), if_neg (by omega), if_pos hop]
  refine ⟨by omega, hq d _ ?_⟩
  simp only [Option.toList_none, List.nil_append]
  rw [b237_43]
  exact hQ
theorem r_22 (B : rBd σ s P T M) (hop : tO P M = 22) : rSt P M σ := by
  obtain ⟨⟨k0, k1, k2, k3, k4⟩, ⟨n0, n1, hh, hsk⟩, ⟨hi, i0, i1⟩, m0, m1⟩ := B.f
  have ht := B.2.2.2.1
  have hW := B.1.1.1
  have hd := ht.1
  have hE := B.2.2.1
  have hB := hE.2.1 (by rw [B.2.2.2.2]; decide)
  have hM80 := hW.2.1.2.1
  have h14p := (hW.2.2.2 _ m0 m1).2.2.1.1
  obtain ⟨s0, s2, hs', hR⟩ := B.2.1
  have h8 : σ.2.2 10080 121 (M.dp - 1) = tm M := (hB.2 _ (by omega) (by omega)).1
  have h14 : σ.2.2 10022 121 (80 * s + tm M) = P 3014 (tm M) := (hR.2.2.2 _ m0 m1).1.2.2.2.1
  have hS : stp P M = if M.dp = 1 then (M.1, M.2.1, 0, M.2.2.2) else if P 3014 (tm M) = 0 then ((M.dp - 1, M.me, i_up M.pc (M.dp - 1 - 1) (M.pc (M.dp - 1 - 1) + 1), M.ht, M.lo, M.sk), M.2) else ((M.dp - 1, (M.gf (M.dp - 1 - 1) (M.ht (M.dp - 1 - 1) + 1) (i_up (M.sk (M.dp - 1 - 1)) (M.ht (M.dp - 1 - 1)) (M.sk (M.dp - 1) (tn T M - 1))) (M.pc (M.dp - 1 - 1) + 1)).2), M.2) := by
    rw [stp_e ht]
    unfold stO
    rw [hop]
    rfl
  obtain ⟨X, ⟨x0, x1, -⟩, xo, xa, xb, hX⟩ := B.at0
  have c39 : ∀ d (Q : j3_P), T236 (d + 2) Q 19 [wO 10 121, wM 2, wM 2] [wI (if P 3014 (tm M) = 0 then 0 else 1)] σ → j3_tc true (d + 3) 236 [wO 10 121] σ Q := by
    intro d Q hQ
    rw [e236, b236_0, k2, wr_id (z := M.dp - 1 + 1 - 1) (by omega) (by omega), show M.dp - 1 + 1 - 1 = M.dp - 1 by omega, h8, hs', wr_id (z := 80 * s) (by omega) (by omega), wr_id (z := 80 * s + tm M) (by omega) (by omega), h14]
    refine ⟨by omega, by omega, ?_⟩
    by_cases g : P 3014 (tm M) = 0
    · rw [if_pos g] at hQ
      rw [if_neg (by omega)]; exact hQ
    · rw [if_neg g] at hQ
      rw [if_pos (by omega)]; exact hQ
  have hend : ∀ τ : j3_S, M.dp = 1 → τ.1 = j3_up (j3_up σ.1 10079 121 (M.dp - 1)) 10094 121 0 → (∀ e, ¬ e = 10082 → τ.2.2 e 121 = σ.2.2 e 121) → RR τ P (stp P M) := by
    intro τ g1 t1 t2
    rw [hS, if_pos g1]
    refine ⟨?_, fun q => absurd rfl q, fun q => absurd (show (0 : Int) = -1 from q) (by decide)⟩
    have h := hE.1
    unfold RRa at h ⊢
    have e : ∀ e, ¬ e = 10094 → ¬ e = 10079 → τ.1 e 121 = σ.1 e 121 := by
      intro e h1 h2
      rw [t1, up_e (show (e == 10094) = false by simpa using h1), up_e (show (e == 10079) = false by simpa using h2)]
    rw [e 10085 (by decide) (by decide), e 10095 (by decide) (by decide), e 10096 (by decide) (by decide), e 10089 (by decide) (by decide), t2 10090 (by decide)]
    exact ⟨⟨by rw [t1, up_r], h.1.2⟩, h.2⟩
  by_cases g : P 3014 (tm M) = 0
  · rw [if_pos g] at c39
    have c22 : ∀ d (Q : j3_P), T236 (d + 2) Q 26 [wO 10 121, wI 0, wM 2] [wI 0] σ → j3_tc true (d + 3) 236 [wO 10 121] σ Q := fun d Q hQ => c39 d Q (by rw [b236_19, if_pos rfl]; exact hQ)
    by_cases g1 : M.dp = 1
    · refine ⟨(j3_up (j3_up σ.1 10079 121 (M.dp - 1)) 10094 121 0, σ.2.1, σ.2.2), hend _ g1 rfl (fun _ _ => rfl), frm.I rfl (frm.I rfl frm.rf), fun d Q hQ => hX d Q (via236 B xo x0 x1 hop (fun d Q hQ => c22 d Q ?_) d Q hQ)⟩
      rw [b236_26, k2, wr_id (z := M.dp - 1 + 1 - 1) (by omega) (by omega), show M.dp - 1 + 1 - 1 = M.dp - 1 by omega, if_pos (by omega)]
      exact hQ
    · obtain ⟨w1, w2, w3, w4, w5, w6⟩ := low_f B.1.1 B.1.2 ht (k := M.dp - 1 - 1) (by omega) (by omega)
      have h9 : σ.2.2 10081 121 (M.dp - 1 - 1) = M.pc (M.dp - 1 - 1) := (hB.2 _ (by omega) (by omega)).2
      refine ⟨nxR (j3_up σ.1 10079 121 (M.dp - 1), σ.2.1, σ.2.2) (M.dp - 1 - 1) (M.pc (M.dp - 1 - 1) + 1), ?_, frm.A rfl (frm.I rfl frm.rf), fun d Q hQ => hX d Q (via236 B xo x0 x1 hop (fun d Q hQ => c22 d Q ?_) d Q hQ)⟩
      · refine rrB (v := 0) B g1 (by rw [hS, if_neg g1, if_pos g, if_pos g, if_pos g]) (by rw [hS, if_neg g1, if_pos g]) (fun e he => ?_) ?_ (fun e he => ?_) ?_ (fun k' hk => ?_) (fun z => ?_)
        · simp only [nxR, up_e (show (e == 10079) = false by simpa using he)]
        · simp only [nxR, up_r]
        · have : (e == 10081) = false := by
            simp; omega
          simp only [nxR, j3_ast, up_e this]
        · simp only [nxR, j3_ast, up_r]
        · rw [if_neg (fun z => z.2 g)]
          simp only [nxR, j3_ast, up_e (show ((10082 : Nat) == 10081) = false from rfl)]
        · rw [if_neg (fun z => z.2 g)]
          simp only [nxR, j3_ast, up_e (show ((10084 : Nat) == 10081) = false from rfl)]
      · rw [b236_26, k2, wr_id (z := M.dp - 1 + 1 - 1) (by omega) (by omega), show M.dp - 1 + 1 - 1 = M.dp - 1 by omega, if_neg (by omega), if_pos rfl, b236_45]
        simp only [up_r]
        rw [wr_id (z := M.dp - 1 - 1) (by omega) (by omega), h9, wr_id (by omega) (by omega)]
        exact ⟨by omega, by omega, hQ⟩
  · rw [if_neg g] at c39
    obtain ⟨z1, -⟩ := B.z (wn := 1) (by rw [hop]; show (((if P 3014 (tm M) = 0 then [] else [tyof (P 3014 (tm M) - 1)]) : List Int).length : Int) = 1; rw [if_neg g]; rfl)
    generalize hv : M.sk (M.dp - 1) (tn T M - 1) = v at hS
    have c22 : ∀ d (Q : j3_P), T236 (d + 2) Q 26 [wO 10 121, wI 1, wM 2] [wI v] (poR σ (M.dp - 1) (tn T M)) → j3_tc true (d + 3) 236 [wO 10 121] σ Q := fun d Q hQ => c39 d Q (by
      rw [b236_19, if_neg (by decide)]
      refine B.po z1 ?_
      simp only [Option.toList_some, List.cons_append, List.nil_append]
      rw [hv, b236_24]
      exact hQ)
    by_cases g1 : M.dp = 1
    · refine ⟨(j3_up (j3_up (poR σ (M.dp - 1) (tn T M)).1 10079 121 (M.dp - 1)) 10094 121 0, (poR σ (M.dp - 1) (tn T M)).2.1, (poR σ (M.dp - 1) (tn T M)).2.2), hend _ g1 rfl (fun e he => by simp only [poR, j3_ast, up_e (show (e == 10082) = false by simpa using he)]), frm.I rfl (frm.I rfl (frm.A rfl frm.rf)), fun d Q hQ => hX d Q (via236 B xo x0 x1 hop (fun d Q hQ => c22 d Q ?_) d Q hQ)⟩
      rw [b236_26, show (poR σ (M.dp - 1) (tn T M)).1 10079 121 = M.dp - 1 + 1 from k2, wr_id (z := M.dp - 1 + 1 - 1) (by omega) (by omega), show M.dp - 1 + 1 - 1 = M.dp - 1 by omega, if_pos (by omega)]
      exact hQ
    · obtain ⟨w1, w2, w3, w4, w5, w6⟩ := low_f B.1.1 B.1.2 ht (k := M.dp - 1 - 1) (by omega) (by omega)
      rw [show M.dp - 1 - 1 + 1 = M.dp - 1 by omega] at w6
      have w2 := w2 (by rw [← w6]; exact g)
      have h9 : σ.2.2 10081 121 (M.dp - 1 - 1) = M.pc (M.dp - 1 - 1) := (hB.2 _ (by omega) (by omega)).2
      have h10 : σ.2.2 10082 121 (M.dp - 1 - 1) = M.ht (M.dp - 1 - 1) := ((hE.2.2 B.2.2.2.2).1 _ (by omega) (by omega)).1.1
      generalize hρ : ((j3_up (poR σ (M.dp - 1) (tn T M)).1 10079 121 (M.dp - 1), (poR σ (M.dp - 1) (tn T M)).2.1, (poR σ (M.dp - 1) (tn T M)).2.2) : j3_S) = ρ
      have r1 : ρ.1 = j3_up σ.1 10079 121 (M.dp - 1) := by rw [← hρ]; rfl
      have r2 : ∀ e, ¬ e = 10082 → ρ.2.2 e 121 = σ.2.2 e 121 := by
        intro e he
        rw [← hρ]
        simp only [poR, j3_ast, up_e (show (e == 10082) = false by simpa using he)]
      have r3 : ρ.2.2 10082 121 = i_up (σ.2.2 10082 121) (M.dp - 1) (tn T M - 1) := by rw [← hρ]; simp [poR, j3_ast, j3_up]
      have fρ : frm rmI rmB σ ρ := by rw [← hρ]; exact frm.I rfl (frm.A rfl frm.rf)
      refine ⟨nxR (psR ρ (M.dp - 1 - 1) (M.ht (M.dp - 1 - 1)) v) (M.dp - 1 - 1) (M.pc (M.dp - 1 - 1) + 1), ?_, frm.A rfl (frm.A rfl (frm.A rfl fρ)), fun d Q hQ => hX d Q (via236 B xo x0 x1 hop (fun d Q hQ => c22 d Q ?_) d Q hQ)⟩
      · refine rrB (v := v) B g1 (by rw [hS, if_neg g1, if_neg g, if_neg g, if_neg g]; rfl) (by rw [hS, if_neg g1, if_neg g]) (fun e he => ?_) ?_ (fun e he => ?_) ?_ (fun k' hk => ?_) (fun z => ?_)
        · show ρ.1 e 121 = _
          rw [r1, up_e (show (e == 10079) = false by simpa using he)]
        · show ρ.1 10079 121 = M.dp - 1
          rw [r1, up_r]
        · have : (e == 10081) = false ∧ (e == 10082) = false ∧ (e == 10084) = false := by
            simp; omega
          simp only [nxR, psR, j3_ast, up_e this.1, up_e this.2.1, up_e this.2.2]
          exact r2 e (by simpa using this.2.1)
        · simp only [nxR, psR, j3_ast, up_r, up_e (show ((10081 : Nat) == 10082) = false from rfl), up_e (show ((10081 : Nat) == 10084) = false from rfl)]
          rw [r2 10081 (by decide)]
        · simp only [nxR, psR, j3_ast, up_r, up_e (show ((10082 : Nat) == 10081) = false from rfl), up_e (show ((10082 : Nat) == 10084) = false from rfl)]
          rw [r3]
          simp only [i_up]
          by_cases gk : k' = M.dp - 1 - 1
          · rw [if_pos gk, if_pos ⟨gk, g⟩]
          · rw [if_neg gk, if_neg (by omega), if_neg (fun z => gk z.1)]
        · simp only [nxR, psR, j3_ast, up_r, up_e (show ((10084 : Nat) == 10081) = false from rfl), up_e (show ((10084 : Nat) == 10082) = false from rfl), i_up]
          by_cases gz : z = 10 * (M.dp - 1 - 1) + M.ht (M.dp - 1 - 1)
          · rw [if_pos gz, if_pos ⟨gz, g⟩]
          · rw [if_neg gz, if_neg (fun y => gz y.1), r2 10084 (by decide)]
      · rw [b236_26, show (poR σ (M.dp - 1) (tn T M)).1 10079 121 = M.dp - 1 + 1 from k2, wr_id (z := M.dp - 1 + 1 - 1) (by omega) (by omega), show M.dp - 1 + 1 - 1 = M.dp - 1 by omega, if_neg (by omega), if_neg (by decide), hρ, s233 (σ := ρ) (k := M.dp - 1 - 1) (h := M.ht (M.dp - 1 - 1)) (by rw [r1, up_r]; omega) (by omega) (by omega) (by rw [r3]; simp only [i_up]; rw [if_neg (by omega)]; exact h10) w3 (by omega)]
        simp only [Option.toList_none, List.nil_append]
        rw [b236_45, show (psR ρ (M.dp - 1 - 1) (M.ht (M.dp - 1 - 1)) v).1 10079 121 = M.dp - 1 by show ρ.1 10079 121 = _; rw [r1, up_r], wr_id (z := M.dp - 1 - 1) (by omega) (by omega), show (psR ρ (M.dp - 1 - 1) (M.ht (M.dp - 1 - 1)) v).2.2 10081 121 (M.dp - 1 - 1) = M.pc (M.dp - 1 - 1) by simp only [psR, j3_ast, up_e (show ((10081 : Nat) == 10082) = false from rfl), up_e (show ((10081 : Nat) == 10084) = false from rfl)]; rw [r2 10081 (by decide)]; exact h9, wr_id (by omega) (by omega)]
        exact ⟨by omega, by omega, hQ⟩
theorem r_step (B : rBd σ s P T M) (hou : M.ou < 2147483647) : rSt P M σ := by
  obtain ⟨o0, o1, -⟩ := B.2.2.2.1.ik B.1.1.1
  rcases (by omega : (tO P M = 0 ∨ tO P M = 1 ∨ tO P M = 2) ∨ tO P M = 3 ∨ tO P M = 4 ∨ tO P M = 5 ∨ (6 ≤ tO P M ∧ tO P M ≤ 10) ∨ tO P M = 11 ∨ (tO P M = 12 ∨ tO P M = 14) ∨ tO P M = 13 ∨ tO P M = 15 ∨ tO P M = 16 ∨ tO P M = 17 ∨ tO P M = 18 ∨ tO P M = 19 ∨ (tO P M = 20 ∨ tO P M = 21) ∨ tO P M = 22 ∨ tO P M = 23 ∨ (tO P M = 24 ∨ tO P M = 25) ∨ tO P M = 26) with g | g | g | g | g | g | g | g | g | g | g | g | g | g | g | g | g | g
  · exact r_0 B g
  · exact r_3 B g
  · exact r_4 B g
  · exact r_5 B g
  · exact r_6 B g
  · exact r_11 B g
  · exact r_12 B g
  · exact r_13 B g
  · exact r_15 B g
  · exact r_16 B g
  · exact r_17 B g
  · exact r_18 B g
  · exact r_19 B g
  · exact r_20 B g
  · exact r_22 B g
  · exact r_23 B g hou
  · exact r_24 B g
  · exact r_26 B g
end RST6
