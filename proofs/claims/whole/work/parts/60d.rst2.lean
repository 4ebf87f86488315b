/-! the reference's step: STORE, POP, DUP, numbers, jumps, TRAP -/
section RST2
variable {σ σ' τ : j3_S} {P : Pg} {T : Int → Fl} {M : Mc} {d : Nat} {Q : j3_P} {k i j x v h' s : Int} {t : Int → Int}
theorem rBd.top (B : rBd σ s P T M) (hn : 1 ≤ tn T M) : σ.2.2 10084 121 (10 * (M.dp - 1) + tn T M - 1) = M.sk (M.dp - 1) (tn T M - 1) := by
  obtain ⟨-, ⟨n0, n1, hh, hsk⟩, -⟩ := B.f
  rw [show 10 * (M.dp - 1) + tn T M - 1 = 10 * (M.dp - 1) + (tn T M - 1) by omega]
  exact hsk _ (by omega) (by omega)
theorem rBd.po (B : rBd σ s P T M) (hn : 1 ≤ tn T M) (hQ : Q (some (wI (M.sk (M.dp - 1) (tn T M - 1)))) (poR σ (M.dp - 1) (tn T M))) : j3_tc true (d + 2) 232 [wO 10 121] σ Q := by
  obtain ⟨⟨k0, k1, k2, k3, k4⟩, ⟨n0, n1, hh, hsk⟩, -⟩ := B.f
  rw [s232 k2 k0 k1 hh (by omega) n1, B.top hn]
  exact hQ
theorem r_3 (B : rBd σ s P T M) (hop : tO P M = 3) : rSt P M σ := by
  obtain ⟨⟨k0, k1, k2, k3, k4⟩, ⟨n0, n1, hh, hsk⟩, ⟨hi, i0, i1⟩, m0, m1⟩ := B.f
  obtain ⟨z1, -⟩ := B.z (wn := 1) (by rw [hop]; rfl)
  have ht := B.2.2.2.1
  have hW := B.1.1.1
  have ra := (ht.ik hW).2.2.1 (Or.inr hop)
  have hn20 := (hW.2.2.2 (tm M) m0 m1).2.2.2.2.1.2
  obtain ⟨X, ⟨x0, x1, -⟩, xo, xa, xb, hX⟩ := B.at0
  generalize hτ : nxR (σ.1, σ.2.1, j3_ast (poR σ (M.dp - 1) (tn T M)).2.2 10083 121 (20 * (M.dp - 1) + tA P M) (M.sk (M.dp - 1) (tn T M - 1))) (M.dp - 1) (ti M + 1) = τ
  have u1 : τ.1 = σ.1 := by rw [← hτ]; rfl
  have u2 : ∀ e, ¬ e = 10081 → ¬ e = 10082 → ¬ e = 10083 → τ.2.2 e 121 = σ.2.2 e 121 := by
    intro e h1 h2 h3
    rw [← hτ]
    simp only [nxR, poR, j3_ast, up_e (show (e == 10081) = false by simpa using h1), up_e (show (e == 10082) = false by simpa using h2), up_e (show (e == 10083) = false by simpa using h3)]
  have u3 : τ.2.2 10081 121 = i_up (σ.2.2 10081 121) (M.dp - 1) (ti M + 1) := by rw [← hτ]; simp [nxR, poR, j3_ast, j3_up]
  have u4 : τ.2.2 10082 121 = i_up (σ.2.2 10082 121) (M.dp - 1) (tn T M - 1) := by rw [← hτ]; simp [nxR, poR, j3_ast, j3_up]
  have u5 : τ.2.2 10083 121 = i_up (σ.2.2 10083 121) (20 * (M.dp - 1) + tA P M) (M.sk (M.dp - 1) (tn T M - 1)) := by rw [← hτ]; simp [nxR, poR, j3_ast, j3_up]
  refine ⟨τ, ?_, by rw [← hτ]; exact frm.A rfl (frm.A rfl (frm.A rfl frm.rf)), fun d Q hQ => hX d Q ?_⟩
  · have hS : stp P M = ((M.dp, M.me, i_up M.pc (M.dp - 1) (ti M + 1), i_up M.ht (M.dp - 1) (tn T M - 1), up2 M.lo (M.dp - 1) (i_up (M.lo (M.dp - 1)) (tA P M) (M.sk (M.dp - 1) (tn T M - 1))), up2 M.sk (M.dp - 1) (M.sk (M.dp - 1))), M.2.1, M.2.2) := by
      rw [stp_e ht]
      unfold stO
      rw [if_neg (by omega), if_neg (by omega), if_neg (by omega), if_pos hop]
    rw [hS]
    refine RR.g0 hW B.1.2 B.2.2.1 ht B.2.2.2.2 ?_ (by rw [u1]) (u2 10080 (by decide) (by decide) (by decide)) u3 (by rw [u4]; simp only [i_up, if_true]) (fun k' hk => by rw [u4]; simp only [i_up, if_neg hk]) (fun z _ => by rw [u2 10084 (by decide) (by decide) (by decide)]) (fun q q0 q1 => by rw [u2 10084 (by decide) (by decide) (by decide)]; exact hsk q q0 (by omega)) (fun k' x a0 a1 y0 y1 => ?_) ?_
    · have := B.2.2.1.1
      unfold RRa at this ⊢
      rw [u1, u2 10090 (by decide) (by decide) (by decide)]
      exact this
    · rw [u5]
      have hm : 0 ≤ M.me k' ∧ M.me k' < P 3001 0 := by
        by_cases g : k' = M.dp - 1
        · rw [g]; exact ⟨m0, m1⟩
        · have := (ht.2.2.2 k' a0 (by omega)).2.1.1
          exact ⟨this.1, this.2.1⟩
      have hx20 := (hW.2.2.2 _ hm.1 hm.2).2.2.2.2.1.2
      simp only [i_up, up2]
      by_cases g : k' = M.dp - 1
      · rw [if_pos g]
        simp only [i_up]
        by_cases gx : x = tA P M
        · rw [if_pos (by omega), if_pos gx]
        · rw [if_neg (by omega), if_neg gx, g]
          rw [g] at y1
          exact ((B.2.2.1.2.2 B.2.2.2.2).1 (M.dp - 1) (by omega) (by omega)).2 x y0 y1
      · rw [if_neg (by omega), if_neg g]
        exact ((B.2.2.1.2.2 B.2.2.2.2).1 k' a0 a1).2 x y0 y1
    · have := (B.2.2.1.2.2 B.2.2.2.2).2
      unfold RRo at this ⊢
      rw [u2 10086 (by decide) (by decide) (by decide), u2 10087 (by decide) (by decide) (by decide), u2 10088 (by decide) (by decide) (by decide)]
      exact this
  · rw [b237_16, xo, hi, wr_id (z := ti M + 1) (by omega) (by omega), hop]
    refine ⟨by omega, by omega, ?_⟩
    show T237 (d + 3) Q 78 _ _ _
    rw [b237_78, xa, wr_id (z := 20 * (M.dp - 1)) (by omega) (by omega), wr_id (by omega) (by omega)]
    refine ⟨by omega, B.po z1 ?_⟩
    simp only [Option.toList_some, List.cons_append, List.nil_append]
    rw [b237_90]
    refine ⟨by omega, r185 k0 k1 k3 ?_⟩
    rw [← hτ] at hQ
    exact hQ
theorem r_4 (B : rBd σ s P T M) (hop : tO P M = 4) : rSt P M σ := by
  obtain ⟨⟨k0, k1, k2, k3, k4⟩, ⟨n0, n1, hh, hsk⟩, ⟨hi, i0, i1⟩, m0, m1⟩ := B.f
  obtain ⟨z1, -⟩ := B.z (wn := 1) (by rw [hop]; rfl)
  obtain ⟨X, ⟨x0, x1, -⟩, xo, xa, xb, hX⟩ := B.at0
  refine ⟨nxR (poR σ (M.dp - 1) (tn T M)) (M.dp - 1) (ti M + 1), ?_, frm.A rfl (frm.A rfl frm.rf), fun d Q hQ => hX d Q ?_⟩
  · rw [stp_e B.2.2.2.1]
    unfold stO
    rw [if_neg (by omega), if_neg (by omega), if_neg (by omega), if_neg (by omega), if_pos hop]
    refine rrO B (by omega) rfl (fun e h1 h2 => ?_) ?_ ?_ (fun k' hk => ?_)
    · simp only [nxR, poR, j3_ast, up_e (show (e == 10081) = false by simpa using h1), up_e (show (e == 10082) = false by simpa using h2)]
    · simp [nxR, poR, j3_ast, j3_up]
    · simp [nxR, poR, j3_ast, j3_up, i_up]
    · simp [nxR, poR, j3_ast, j3_up, i_up, hk]
  · rw [b237_16, xo, hi, wr_id (z := ti M + 1) (by omega) (by omega), hop]
    refine ⟨by omega, by omega, ?_⟩
    show T237 (d + 3) Q 92 _ _ _
    rw [b237_92, hh, wr_id (z := tn T M - 1) (by omega) (by omega)]
    exact ⟨by omega, by omega, r185 (τ := poR σ (M.dp - 1) (tn T M)) k0 k1 k3 hQ⟩
theorem r_5 (B : rBd σ s P T M) (hop : tO P M = 5) : rSt P M σ := by
  obtain ⟨⟨k0, k1, k2, k3, k4⟩, ⟨n0, n1, hh, hsk⟩, ⟨hi, i0, i1⟩, m0, m1⟩ := B.f
  obtain ⟨z1, z4⟩ := B.z (wn := 1) (by rw [hop]; rfl)
  have z5 : (gx P (tO P M) (tA P M) (tB P M) (ts T M) (tl T M) (tn T M - 1)).length = 2 := by rw [hop]; rfl
  rw [z5] at z4
  obtain ⟨X, ⟨x0, x1, -⟩, xo, xa, xb, hX⟩ := B.at0
  refine ⟨nxR (psR σ (M.dp - 1) (tn T M) (M.sk (M.dp - 1) (tn T M - 1))) (M.dp - 1) (ti M + 1), ?_, frm.A rfl (frm.A rfl (frm.A rfl frm.rf)), fun d Q hQ => hX d Q ?_⟩
  · rw [stp_e B.2.2.2.1]
    unfold stO
    rw [if_neg (by omega), if_neg (by omega), if_neg (by omega), if_neg (by omega), if_neg (by omega), if_pos hop]
    exact rrP B (by omega)
  · rw [b237_16, xo, hi, wr_id (z := ti M + 1) (by omega) (by omega), hop]
    refine ⟨by omega, by omega, ?_⟩
    show T237 (d + 3) Q 101 _ _ _
    rw [b237_101, s231 k2 k0 k1 hh n0 n1]
    simp only [Option.toList_some, List.cons_append, List.nil_append]
    rw [b237_106, B.top z1, s233 k2 k0 k1 hh n0 (by omega)]
    refine ⟨by omega, ?_⟩
    simp only [Option.toList_none, List.nil_append]
    rw [b237_108]
    exact r185 (τ := psR σ (M.dp - 1) (tn T M) (M.sk (M.dp - 1) (tn T M - 1))) k0 k1 k3 hQ
theorem r_26 (B : rBd σ s P T M) (hop : tO P M = 26) : rSt P M σ := by
  obtain ⟨⟨k0, k1, k2, k3, k4⟩, ⟨n0, n1, hh, hsk⟩, ⟨hi, i0, i1⟩, m0, m1⟩ := B.f
  obtain ⟨X, ⟨x0, x1, -⟩, xo, xa, xb, hX⟩ := B.at0
  refine ⟨trR σ 4, ?_, frm.I rfl (frm.I rfl frm.rf), fun d Q hQ => hX d Q ?_⟩
  · rw [stp_e B.2.2.2.1]
    unfold stO
    rw [hop]
    exact B.2.2.1.tp B.2.2.2.2
  · rw [b237_16, xo, hi, wr_id (z := ti M + 1) (by omega) (by omega), hop]
    refine ⟨by omega, by omega, ?_⟩
    show T237 (d + 3) Q 170 _ _ _
    rw [b237_170, s234]
    simp only [Option.toList_none, List.nil_append]
    rw [b237_173]
    exact r185t (τ := σ) (c := 4) hQ
theorem r_11 (B : rBd σ s P T M) (hop : tO P M = 11) : rSt P M σ := by
  obtain ⟨⟨k0, k1, k2, k3, k4⟩, ⟨n0, n1, hh, hsk⟩, ⟨hi, i0, i1⟩, m0, m1⟩ := B.f
  obtain ⟨X, ⟨x0, x1, -⟩, xo, xa, xb, hX⟩ := B.at0
  refine ⟨nxR σ (M.dp - 1) (tA P M), ?_, frm.A rfl frm.rf, fun d Q hQ => hX d Q ?_⟩
  · have := rrO (σ' := nxR σ (M.dp - 1) (tA P M)) (w := 0) (j := tA P M) B (by omega) rfl (fun e h1 h2 => by simp only [nxR, j3_ast, up_e (show (e == 10081) = false by simpa using h1)]) (by simp [nxR, j3_ast, j3_up]) (by simp only [nxR, j3_ast, up_e (show ((10082 : Nat) == 10081) = false from rfl)]; omega) (fun k' hk => by simp only [nxR, j3_ast, up_e (show ((10082 : Nat) == 10081) = false from rfl)])
    have hS : stp P M = M.go (M.dp - 1) (tn T M) (M.sk (M.dp - 1)) (tA P M) := by
      rw [stp_e B.2.2.2.1]
      unfold stO
      rw [if_neg (by omega), if_neg (by omega), if_neg (by omega), if_neg (by omega), if_neg (by omega), if_neg (by omega), if_neg (by omega), if_pos hop]
    rw [hS]
    rw [show tn T M - 0 = tn T M by omega] at this
    exact this
  · rw [b237_16, xo, hi, wr_id (z := ti M + 1) (by omega) (by omega), hop]
    refine ⟨by omega, by omega, ?_⟩
    show T237 (d + 3) Q 109 _ _ _
    rw [b237_109, xa]
    exact ⟨by omega, r185 k0 k1 k3 hQ⟩
theorem r_12 (B : rBd σ s P T M) (hop : tO P M = 12 ∨ tO P M = 14) : rSt P M σ := by
  obtain ⟨⟨k0, k1, k2, k3, k4⟩, ⟨n0, n1, hh, hsk⟩, ⟨hi, i0, i1⟩, m0, m1⟩ := B.f
  obtain ⟨z1, -⟩ := B.z (wn := 1) (by rcases hop with g | g <;> (rw [g]; rfl))
  obtain ⟨X, ⟨x0, x1, -⟩, xo, xa, xb, hX⟩ := B.at0
  have hS : stp P M = M.go (M.dp - 1) (tn T M - 1) (M.sk (M.dp - 1)) (if M.sk (M.dp - 1) (tn T M - 1) = 0 then tA P M else ti M + 1) := by
    rw [stp_e B.2.2.2.1]
    unfold stO
    rw [if_neg (by omega), if_neg (by omega), if_neg (by omega), if_neg (by omega), if_neg (by omega), if_neg (by omega), if_neg (by omega), if_neg (by omega), if_pos hop]
  generalize hj : (if M.sk (M.dp - 1) (tn T M - 1) = 0 then tA P M else ti M + 1) = j at hS
  refine ⟨nxR (poR σ (M.dp - 1) (tn T M)) (M.dp - 1) j, ?_, frm.A rfl (frm.A rfl frm.rf), fun d Q hQ => hX d Q ?_⟩
  · rw [hS]
    refine rrO B (by omega) rfl (fun e h1 h2 => ?_) ?_ ?_ (fun k' hk => ?_)
    · simp only [nxR, poR, j3_ast, up_e (show (e == 10081) = false by simpa using h1), up_e (show (e == 10082) = false by simpa using h2)]
    · simp [nxR, poR, j3_ast, j3_up]
    · simp [nxR, poR, j3_ast, j3_up, i_up]
    · simp [nxR, poR, j3_ast, j3_up, i_up, hk]
  · have t : ∀ op : Int, T237 (d + 3) Q 115 [wO 10 121, wI (M.dp - 1), wI X, wI op, wI (ti M + 1), wM 2] [] σ := by
      intro op
      rw [b237_115]
      refine B.po z1 ?_
      simp only [Option.toList_some, List.cons_append, List.nil_append]
      rw [b237_117, show (poR σ (M.dp - 1) (tn T M)).2.2 10028 121 X = tA P M by simp only [poR, j3_ast, up_e (show ((10028 : Nat) == 10082) = false from rfl)]; exact xa]
      by_cases g : M.sk (M.dp - 1) (tn T M - 1) = 0
      · rw [if_pos g] at hj ⊢
        rw [b237_124, hj]
        exact ⟨by omega, r185 (τ := poR σ (M.dp - 1) (tn T M)) k0 k1 k3 hQ⟩
      · rw [if_neg g] at hj ⊢
        rw [b237_124, hj]
        exact r185 (τ := poR σ (M.dp - 1) (tn T M)) k0 k1 k3 hQ
    rw [b237_16, xo, hi, wr_id (z := ti M + 1) (by omega) (by omega)]
    rcases hop with g | g
    · rw [g]
      exact ⟨by omega, by omega, t 12⟩
    · rw [g]
      exact ⟨by omega, by omega, t 14⟩
theorem r_13 (B : rBd σ s P T M) (hop : tO P M = 13) : rSt P M σ := by
  obtain ⟨⟨k0, k1, k2, k3, k4⟩, ⟨n0, n1, hh, hsk⟩, ⟨hi, i0, i1⟩, m0, m1⟩ := B.f
  obtain ⟨z1, -⟩ := B.z (wn := 2) (by rw [hop]; rfl)
  obtain ⟨X, ⟨x0, x1, -⟩, xo, xa, xb, hX⟩ := B.at0
  have hS : stp P M = M.go (M.dp - 1) (tn T M - 2) (M.sk (M.dp - 1)) (if M.sk (M.dp - 1) (tn T M - 2) < M.sk (M.dp - 1) (tn T M - 1) then tA P M else ti M + 1) := by
    rw [stp_e B.2.2.2.1]
    unfold stO
    rw [if_neg (by omega), if_neg (by omega), if_neg (by omega), if_neg (by omega), if_neg (by omega), if_neg (by omega), if_neg (by omega), if_neg (by omega), if_neg (by omega), if_pos hop]
  generalize hj : (if M.sk (M.dp - 1) (tn T M - 2) < M.sk (M.dp - 1) (tn T M - 1) then tA P M else ti M + 1) = j at hS
  refine ⟨nxR (poR (poR σ (M.dp - 1) (tn T M)) (M.dp - 1) (tn T M - 1)) (M.dp - 1) j, ?_, frm.A rfl (frm.A rfl (frm.A rfl frm.rf)), fun d Q hQ => hX d Q ?_⟩
  · rw [hS]
    refine rrO B (by omega) rfl (fun e h1 h2 => ?_) ?_ ?_ (fun k' hk => ?_)
    · simp only [nxR, poR, j3_ast, up_e (show (e == 10081) = false by simpa using h1), up_e (show (e == 10082) = false by simpa using h2)]
    · simp [nxR, poR, j3_ast, j3_up]
    · simp [nxR, poR, j3_ast, j3_up, i_up]; omega
    · simp [nxR, poR, j3_ast, j3_up, i_up, hk]
  · rw [b237_16, xo, hi, wr_id (z := ti M + 1) (by omega) (by omega), hop]
    refine ⟨by omega, by omega, ?_⟩
    show T237 (d + 3) Q 126 _ _ _
    rw [b237_126]
    refine B.po (by omega) ?_
    simp only [Option.toList_some, List.cons_append, List.nil_append]
    rw [b237_128, s232 (σ := poR σ (M.dp - 1) (tn T M)) (k := M.dp - 1) (h := tn T M - 1) k2 k0 k1 (by simp [poR, j3_ast, j3_up, i_up]) (by omega) (by omega), show (poR σ (M.dp - 1) (tn T M)).2.2 10084 121 (10 * (M.dp - 1) + (tn T M - 1) - 1) = M.sk (M.dp - 1) (tn T M - 2) by
      simp only [poR, j3_ast, up_e (show ((10084 : Nat) == 10082) = false from rfl)]
      rw [show 10 * (M.dp - 1) + (tn T M - 1) - 1 = 10 * (M.dp - 1) + (tn T M - 2) by omega]
      exact hsk _ (by omega) (by omega)]
    simp only [Option.toList_some, List.cons_append, List.nil_append]
    rw [b237_131, show (poR (poR σ (M.dp - 1) (tn T M)) (M.dp - 1) (tn T M - 1)).2.2 10028 121 X = tA P M by simp only [poR, j3_ast, up_e (show ((10028 : Nat) == 10082) = false from rfl)]; exact xa]
    by_cases g : M.sk (M.dp - 1) (tn T M - 2) < M.sk (M.dp - 1) (tn T M - 1)
    · rw [if_pos g] at hj ⊢
      rw [b237_139, hj]
      exact ⟨by omega, r185 (τ := poR (poR σ (M.dp - 1) (tn T M)) (M.dp - 1) (tn T M - 1)) k0 k1 k3 hQ⟩
    · rw [if_neg g] at hj ⊢
      rw [b237_139, hj]
      exact r185 (τ := poR (poR σ (M.dp - 1) (tn T M)) (M.dp - 1) (tn T M - 1)) k0 k1 k3 hQ
theorem r_6 (B : rBd σ s P T M) (h6 : 6 ≤ tO P M ∧ tO P M ≤ 10) : rSt P M σ := by
  obtain ⟨⟨k0, k1, k2, k3, k4⟩, ⟨n0, n1, hh, hsk⟩, ⟨hi, i0, i1⟩, m0, m1⟩ := B.f
  have hwl : wl P (tm M) (tO P M) (tA P M) (tB P M) = [1, 1] := by
    unfold wl
    rw [if_neg (by omega), if_neg (by omega), if_pos (by omega)]
  obtain ⟨z1, -⟩ := B.z (wn := 2) (by rw [hwl]; rfl)
  obtain ⟨X, ⟨x0, x1, -⟩, xo, xa, xb, hX⟩ := B.at0
  have hS : stp P M = if 9 ≤ tO P M ∧ M.sk (M.dp - 1) (tn T M - 1) = 0 then M.tp 2 else M.go (M.dp - 1) (tn T M - 1) (i_up (M.sk (M.dp - 1)) (tn T M - 2) (ari (tO P M) (M.sk (M.dp - 1) (tn T M - 2)) (M.sk (M.dp - 1) (tn T M - 1)))) (ti M + 1) := by
    rw [stp_e B.2.2.2.1]
    unfold stO
    rw [if_neg (by omega), if_neg (by omega), if_neg (by omega), if_neg (by omega), if_neg (by omega), if_neg (by omega), if_pos (by omega)]
  have t0 : ∀ d (Q : j3_P), T238 (d + 2) (fun r σ1 => T237 (d + 3) Q 180 [wO 10 121, wI (M.dp - 1), wI X, wI (tO P M), wI (ti M + 1), wM 2] (r.toList ++ []) σ1) 4 [wO 10 121, wI (tO P M), wM 2, wM 2] [wI (10 * (M.dp - 1) + tn T M - 1), wA 10084 121] σ → T237 (d + 3) Q 16 [wO 10 121, wI (M.dp - 1), wM 2, wM 2, wM 2, wM 2] [wI X] σ := by
    intro d Q hQ
    have t : T237 (d + 3) Q 174 [wO 10 121, wI (M.dp - 1), wI X, wI (tO P M), wI (ti M + 1), wM 2] [] σ := by
      rw [b237_174, if_neg (by omega), e238, b238_0, s231 k2 k0 k1 hh n0 n1]
      exact hQ
    rw [b237_16, xo, hi, wr_id (z := ti M + 1) (by omega) (by omega)]
    rcases (by omega : tO P M = 6 ∨ tO P M = 7 ∨ tO P M = 8 ∨ tO P M = 9 ∨ tO P M = 10) with g | g | g | g | g <;> rw [g] at t ⊢ <;> exact ⟨by omega, by omega, t⟩
  by_cases g : 9 ≤ tO P M ∧ M.sk (M.dp - 1) (tn T M - 1) = 0
  · refine ⟨trR σ 2, ?_, frm.I rfl (frm.I rfl frm.rf), fun d Q hQ => hX d Q (t0 d Q ?_)⟩
    · rw [hS, if_pos g]
      exact B.2.2.1.tp B.2.2.2.2
    · rw [b238_4, B.top (by omega), if_neg (by omega), if_pos g.2, s234]
      refine ⟨by omega, ?_⟩
      simp only [Option.toList_none, List.nil_append]
      rw [b238_14]
      simp only [Option.toList_none, List.nil_append]
      rw [b237_180]
      exact r185t (τ := σ) (c := 2) hQ
  · generalize hv : ari (tO P M) (M.sk (M.dp - 1) (tn T M - 2)) (M.sk (M.dp - 1) (tn T M - 1)) = v at hS
    generalize hρ : poR (poR σ (M.dp - 1) (tn T M)) (M.dp - 1) (tn T M - 1) = ρ
    have r1 : ρ.1 = σ.1 := by rw [← hρ]; rfl
    have r2 : ∀ e, ¬ e = 10082 → ρ.2.2 e 121 = σ.2.2 e 121 := by
      intro e he
      rw [← hρ]
      simp only [poR, j3_ast, up_e (show (e == 10082) = false by simpa using he)]
    have r3 : ρ.2.2 10082 121 = i_up (i_up (σ.2.2 10082 121) (M.dp - 1) (tn T M - 1)) (M.dp - 1) (tn T M - 1 - 1) := by rw [← hρ]; simp [poR, j3_ast, j3_up]
    have rk : ρ.2.2 10082 121 (M.dp - 1) = tn T M - 2 := by rw [r3]; simp only [i_up, if_true]; omega
    have fρ : frm rmI rmB σ ρ := by rw [← hρ]; exact frm.A rfl (frm.A rfl frm.rf)
    have u0 : ∀ e, ¬ e = 10081 → ¬ e = 10082 → ¬ e = 10084 → (nxR (psR ρ (M.dp - 1) (tn T M - 2) v) (M.dp - 1) (ti M + 1)).2.2 e 121 = σ.2.2 e 121 := by
      intro e h1 h2 h3
      simp only [nxR, psR, j3_ast, up_e (show (e == 10081) = false by simpa using h1), up_e (show (e == 10082) = false by simpa using h2), up_e (show (e == 10084) = false by simpa using h3)]
      exact r2 e h2
    refine ⟨nxR (psR ρ (M.dp - 1) (tn T M - 2) v) (M.dp - 1) (ti M + 1), ?_, frm.A rfl (frm.A rfl (frm.A rfl fρ)), fun d Q hQ => hX d Q (t0 d Q ?_)⟩
    · rw [hS, if_neg g]
      refine B.2.2.1.g B.1.1.1 B.1.2 B.2.2.2.1 B.2.2.2.2 r1 (fun e he => ?_) ?_ ?_ (fun k' hk => ?_) (fun z hz => ?_) (fun q q0 q1 => ?_)
      · simp at he
        exact u0 e (by omega) (by omega) (by omega)
      · simp only [nxR, psR, j3_ast, up_r, up_e (show ((10081 : Nat) == 10082) = false from rfl), up_e (show ((10081 : Nat) == 10084) = false from rfl)]
        rw [r2 10081 (by decide)]
      · simp only [nxR, psR, j3_ast, up_r, up_e (show ((10082 : Nat) == 10081) = false from rfl), up_e (show ((10082 : Nat) == 10084) = false from rfl), i_up, if_true]
        omega
      · simp only [nxR, psR, j3_ast, up_r, up_e (show ((10082 : Nat) == 10081) = false from rfl), up_e (show ((10082 : Nat) == 10084) = false from rfl)]
        rw [r3]
        simp only [i_up, if_neg hk]
      · simp only [nxR, psR, j3_ast, up_r, up_e (show ((10084 : Nat) == 10081) = false from rfl), up_e (show ((10084 : Nat) == 10082) = false from rfl), i_up]
        rw [if_neg (by omega), r2 10084 (by decide)]
      · simp only [nxR, psR, j3_ast, up_r, up_e (show ((10084 : Nat) == 10081) = false from rfl), up_e (show ((10084 : Nat) == 10082) = false from rfl), i_up]
        by_cases gq : q = tn T M - 2
        · rw [if_pos (by omega), if_pos gq]
        · rw [if_neg (by omega), if_neg gq, r2 10084 (by decide)]
          exact hsk q q0 (by omega)
    · have t1 : T238 (d + 2) (fun r σ1 => T237 (d + 3) Q 180 [wO 10 121, wI (M.dp - 1), wI X, wI (tO P M), wI (ti M + 1), wM 2] (r.toList ++ []) σ1) 15 [wO 10 121, wI (tO P M), wI (M.sk (M.dp - 1) (tn T M - 1)), wM 2] [] σ := by
        rw [b238_15, k2, wr_id (z := M.dp - 1 + 1 - 1) (by omega) (by omega), show M.dp - 1 + 1 - 1 = M.dp - 1 by omega, hh, wr_id (z := tn T M - 1) (by omega) (by omega)]
        refine ⟨by omega, by omega, ?_⟩
        show j3_tc true (d + 2) 232 _ (poR σ (M.dp - 1) (tn T M)) _
        rw [s232 (σ := poR σ (M.dp - 1) (tn T M)) (k := M.dp - 1) (h := tn T M - 1) k2 k0 k1 (by simp [poR, j3_ast, j3_up, i_up]) (by omega) (by omega), show (poR σ (M.dp - 1) (tn T M)).2.2 10084 121 (10 * (M.dp - 1) + (tn T M - 1) - 1) = M.sk (M.dp - 1) (tn T M - 2) by
          simp only [poR, j3_ast, up_e (show ((10084 : Nat) == 10082) = false from rfl)]
          rw [show 10 * (M.dp - 1) + (tn T M - 1) - 1 = 10 * (M.dp - 1) + (tn T M - 2) by omega]
          exact hsk _ (by omega) (by omega), hρ]
        simp only [Option.toList_some, List.cons_append, List.nil_append]
        rw [b238_28, s210 h6.1 h6.2 g, hv]
        simp only [Option.toList_some, List.cons_append, List.nil_append]
        rw [b238_34, s233 (σ := ρ) (k := M.dp - 1) (h := tn T M - 2) (by rw [r1]; exact k2) k0 k1 rk (by omega) (by omega)]
        simp only [Option.toList_none, List.nil_append]
        rw [b238_35]
        simp only [Option.toList_none, List.nil_append]
        rw [b237_180]
        exact r185 (τ := psR ρ (M.dp - 1) (tn T M - 2) v) k0 k1 (by show ρ.1 10094 121 = -1; rw [r1]; exact k3) hQ
      rw [b238_4, B.top (by omega)]
      refine ⟨by omega, ?_⟩
      by_cases g9 : tO P M < 9
      · rw [if_pos g9]; exact t1
      · rw [if_neg g9, if_neg (by omega)]; exact t1
end RST2
