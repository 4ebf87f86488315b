/-! the reference's step: OUT, fields, objects -/
section RST3
variable {σ σ' τ : j3_S} {P : Pg} {T : Int → Fl} {M : Mc} {d : Nat} {Q : j3_P} {k i j x v h' s : Int} {t : Int → Int}
theorem r_23 (B : rBd σ s P T M) (hop : tO P M = 23) (hou : M.ou < 2147483647) : rSt P M σ := by
  obtain ⟨⟨k0, k1, k2, k3, k4⟩, ⟨n0, n1, hh, hsk⟩, ⟨hi, i0, i1⟩, m0, m1⟩ := B.f
  obtain ⟨z1, -⟩ := B.z (wn := 1) (by rw [hop]; rfl)
  have ht := B.2.2.2.1
  obtain ⟨⟨a1, a2, a3, a4⟩, a5, a6, a7⟩ := B.2.2.1.1
  obtain ⟨X, ⟨x0, x1, -⟩, xo, xa, xb, hX⟩ := B.at0
  generalize hv : M.sk (M.dp - 1) (tn T M - 1) = v
  generalize hρ : (if M.ou < 100 then j3_ast σ.2.2 10090 121 M.ou v else σ.2.2) = A
  have q2 : ∀ e o, ¬ e = 10090 → A e o = σ.2.2 e o := by
    intro e o he
    rw [← hρ]
    by_cases g : M.ou < 100
    · rw [if_pos g]; simp only [j3_ast, up_e (show (e == 10090) = false by simpa using he)]
    · rw [if_neg g]
  generalize hτ : nxR (j3_up σ.1 10089 121 (M.ou + 1), σ.2.1, j3_ast A 10082 121 (M.dp - 1) (tn T M - 1)) (M.dp - 1) (ti M + 1) = τ
  have u1 : ∀ e, ¬ e = 10089 → τ.1 e 121 = σ.1 e 121 := by
    intro e he
    rw [← hτ]
    simp only [nxR, up_e (show (e == 10089) = false by simpa using he)]
  have u1' : τ.1 10089 121 = M.ou + 1 := by rw [← hτ]; simp only [nxR, up_r]
  have u2 : ∀ e, ¬ e = 10081 → ¬ e = 10082 → ¬ e = 10090 → τ.2.2 e 121 = σ.2.2 e 121 := by
    intro e h1 h2 h3
    rw [← hτ]
    simp only [nxR, j3_ast, up_e (show (e == 10081) = false by simpa using h1), up_e (show (e == 10082) = false by simpa using h2)]
    exact q2 e 121 h3
  have u3 : τ.2.2 10081 121 = i_up (σ.2.2 10081 121) (M.dp - 1) (ti M + 1) := by
    rw [← hτ]
    simp only [nxR, j3_ast, up_r, up_e (show ((10081 : Nat) == 10082) = false from rfl)]
    rw [q2 10081 121 (by decide)]
  have u4 : τ.2.2 10082 121 = i_up (σ.2.2 10082 121) (M.dp - 1) (tn T M - 1) := by
    rw [← hτ]
    simp only [nxR, j3_ast, up_r, up_e (show ((10082 : Nat) == 10081) = false from rfl)]
    rw [q2 10082 121 (by decide)]
  have u5 : τ.2.2 10090 121 = if M.ou < 100 then i_up (σ.2.2 10090 121) M.ou v else σ.2.2 10090 121 := by
    rw [← hτ, ← hρ]
    simp only [nxR, j3_ast, up_e (show ((10090 : Nat) == 10081) = false from rfl), up_e (show ((10090 : Nat) == 10082) = false from rfl)]
    by_cases g : M.ou < 100
    · rw [if_pos g, if_pos g, up_r]
    · rw [if_neg g, if_neg g]
  have fτ : frm rmI rmB σ τ := by
    rw [← hτ]
    refine frm.A rfl (frm.A rfl (frm.I rfl ?_))
    rw [← hρ]
    by_cases g : M.ou < 100
    · rw [if_pos g]; exact frm.A rfl frm.rf
    · rw [if_neg g]; exact frm.rf
  refine ⟨τ, ?_, fτ, fun d Q hQ => hX d Q ?_⟩
  · have hS : stp P M = ((M.dp, M.me, i_up M.pc (M.dp - 1) (ti M + 1), i_up M.ht (M.dp - 1) (tn T M - 1), M.lo, up2 M.sk (M.dp - 1) (M.sk (M.dp - 1))), M.2.1, (M.en, M.tr, M.ou + 1, (if M.ou < 100 then i_up M.ov M.ou v else M.ov), M.mx)) := by
      rw [stp_e ht, ← hv]
      unfold stO
      rw [hop]
      rfl
    rw [hS]
    refine RR.g0 B.1.1.1 B.1.2 B.2.2.1 ht B.2.2.2.2 ⟨⟨?_, ?_, ?_, ?_⟩, u1', ?_, fun q q0 q1 q2 => ?_⟩ (u1 10079 (by decide)) (u2 10080 (by decide) (by decide) (by decide)) u3 (by rw [u4]; simp only [i_up, if_true]) (fun k' hk => by rw [u4]; simp only [i_up, if_neg hk]) (fun z _ => by rw [u2 10084 (by decide) (by decide) (by decide)]) (fun q q0 q1 => by rw [u2 10084 (by decide) (by decide) (by decide)]; exact hsk q q0 (by omega)) (fun k' x b0 b1 => ?_) ?_
    · rw [u1 10094 (by decide)]; exact a1
    · rw [u1 10085 (by decide)]; exact a2
    · rw [u1 10095 (by decide)]; exact a3
    · rw [u1 10096 (by decide)]; exact a4
    · show 0 ≤ M.ou + 1
      omega
    · have q2 : q < M.ou + 1 := q2
      show _ = (if M.ou < 100 then i_up M.ov M.ou v else M.ov) q
      rw [u5]
      by_cases g : M.ou < 100
      · rw [if_pos g, if_pos g]
        simp only [i_up]
        by_cases g2 : q = M.ou
        · rw [if_pos g2, if_pos g2]
        · rw [if_neg g2, if_neg g2]
          exact a7 q q0 q1 (by omega)
      · rw [if_neg g, if_neg g]
        exact a7 q q0 q1 (by omega)
    · rw [u2 10083 (by decide) (by decide) (by decide)]
      exact ((B.2.2.1.2.2 B.2.2.2.2).1 k' b0 b1).2 x
    · have := (B.2.2.1.2.2 B.2.2.2.2).2
      unfold RRo at this ⊢
      rw [u2 10086 (by decide) (by decide) (by decide), u2 10087 (by decide) (by decide) (by decide), u2 10088 (by decide) (by decide) (by decide)]
      exact this
  · have t : T237 (d + 3) Q 155 [wO 10 121, wI (M.dp - 1), wI X, wI 23, wI (ti M + 1), wM 2] [] (σ.1, σ.2.1, A) := by
      rw [b237_155]
      dsimp only
      rw [q2 10082 121 (by decide), hh, a5, wr_id (z := tn T M - 1) (by omega) (by omega), wr_id (z := M.ou + 1) (by omega) (by omega)]
      refine ⟨by omega, by omega, r185 k0 k1 ?_ ?_⟩
      · show j3_up σ.1 10089 121 (M.ou + 1) 10094 121 = -1
        rw [up_e (show ((10094 : Nat) == 10089) = false from rfl)]
        exact k3
      · rw [← hτ] at hQ
        exact hQ
    rw [b237_16, xo, hi, wr_id (z := ti M + 1) (by omega) (by omega), hop]
    refine ⟨by omega, by omega, ?_⟩
    show T237 (d + 3) Q 141 _ _ _
    rw [b237_141, a5]
    by_cases g : M.ou < 100
    · rw [if_pos g] at hρ ⊢
      rw [s231 k2 k0 k1 hh n0 n1]
      simp only [Option.toList_some, List.cons_append, List.nil_append]
      rw [b237_153, B.top z1, hv, hρ]
      exact ⟨by omega, by omega, t⟩
    · rw [if_neg g] at hρ ⊢
      rw [← hρ] at t
      exact t
/-- what method 239 does -/
theorem via239 (B : rBd σ s P T M) {X : Int} (xo : σ.2.2 10027 121 X = tO P M) (x0 : 0 ≤ X) (x1 : X < 28800) (hop : (15 ≤ tO P M ∧ tO P M ≤ 19) ∨ tO P M = 24 ∨ tO P M = 25) (hq : ∀ d (Q : j3_P), Q none τ → j3_tc true (d + 3) 239 [wO 10 121, wI X, wI (tO P M)] σ Q) : ∀ d (Q : j3_P), T237 (d + 3) Q 185 [wO 10 121, wI (M.dp - 1), wI X, wI (tO P M), wI (ti M + 1), wM 2] [] τ → T237 (d + 3) Q 16 [wO 10 121, wI (M.dp - 1), wM 2, wM 2, wM 2, wM 2] [wI X] σ := by
  intro d Q hQ
  obtain ⟨⟨k0, k1, k2, k3, k4⟩, -, ⟨hi, i0, i1⟩, -⟩ := B.f
  have t : T237 (d + 3) Q 174 [wO 10 121, wI (M.dp - 1), wI X, wI (tO P M), wI (ti M + 1), wM 2] [] σ := by
    rw [b237_174, if_pos (by omega)]
    refine hq d _ ?_
    exact hQ
  rw [b237_16, xo, hi, wr_id (z := ti M + 1) (by omega) (by omega)]
  rcases (by omega : tO P M = 15 ∨ tO P M = 16 ∨ tO P M = 17 ∨ tO P M = 18 ∨ tO P M = 19 ∨ tO P M = 24 ∨ tO P M = 25) with g | g | g | g | g | g | g <;> rw [g] at t ⊢ <;> exact ⟨by omega, by omega, t⟩
theorem r_18 (B : rBd σ s P T M) (hop : tO P M = 18) : rSt P M σ := by
  obtain ⟨⟨k0, k1, k2, k3, k4⟩, ⟨n0, n1, hh, hsk⟩, ⟨hi, i0, i1⟩, m0, m1⟩ := B.f
  obtain ⟨-, z2⟩ := B.z (wn := 0) (by rw [hop]; rfl)
  have z3 : (gx P (tO P M) (tA P M) (tB P M) (ts T M) (tl T M) (tn T M - 0)).length = 1 := by rw [hop]; rfl
  rw [z3] at z2
  have ht := B.2.2.2.1
  have hW := B.1.1.1
  obtain ⟨-, -, -, -, i4, i5, -⟩ := ht.ik hW
  have ra := i4 (by omega)
  have rb := i5 (by omega)
  have hn := hW.1.2.1
  have h6 := (hW.2.2.1 _ ra.1 ra.2).2.1
  have hgs := (B.2.2.1.2.2 B.2.2.2.2).2.2 (6 * tA P M + tB P M) (by omega) (by omega)
  obtain ⟨X, ⟨x0, x1, -⟩, xo, xa, xb, hX⟩ := B.at0
  refine ⟨nxR (psR σ (M.dp - 1) (tn T M) (M.gs (6 * tA P M + tB P M))) (M.dp - 1) (ti M + 1), ?_, frm.A rfl (frm.A rfl (frm.A rfl frm.rf)), fun d Q hQ => hX d Q (via239 (τ := psR σ (M.dp - 1) (tn T M) (M.gs (6 * tA P M + tB P M))) B xo x0 x1 (by omega) (fun d Q hQ => ?_) d Q (r185 k0 k1 k3 hQ))⟩
  · have hS : stp P M = M.go (M.dp - 1) (tn T M + 1) (i_up (M.sk (M.dp - 1)) (tn T M) (M.gs (6 * tA P M + tB P M))) (ti M + 1) := by
      rw [stp_e ht]
      unfold stO
      rw [hop]
      rfl
    rw [hS]
    exact rrP B (by omega)
  · rw [e239, b239_0, xa, xb, wr_id (z := 6 * tA P M) (by omega) (by omega), wr_id (z := 6 * tA P M + tB P M) (by omega) (by omega), if_neg (by omega), if_pos hop, b239_18, b239_25, hop]
    refine ⟨by omega, by omega, ?_⟩
    show T239 (d + 2) Q 73 _ _ _
    rw [b239_73, hgs, s233 k2 k0 k1 hh n0 (by omega)]
    refine ⟨by omega, ?_⟩
    simp only [Option.toList_none, List.nil_append]
    rw [b239_79]
    exact hQ
theorem r_19 (B : rBd σ s P T M) (hop : tO P M = 19) : rSt P M σ := by
  obtain ⟨⟨k0, k1, k2, k3, k4⟩, ⟨n0, n1, hh, hsk⟩, ⟨hi, i0, i1⟩, m0, m1⟩ := B.f
  obtain ⟨z1, -⟩ := B.z (wn := 1) (by rw [hop]; rfl)
  have ht := B.2.2.2.1
  have hW := B.1.1.1
  obtain ⟨-, -, -, -, i4, i5, -⟩ := ht.ik hW
  have ra := i4 (by omega)
  have rb := i5 (by omega)
  have hn := hW.1.2.1
  have h6 := (hW.2.2.1 _ ra.1 ra.2).2.1
  have ho := (B.2.2.1.2.2 B.2.2.2.2).2
  obtain ⟨X, ⟨x0, x1, -⟩, xo, xa, xb, hX⟩ := B.at0
  generalize hv : M.sk (M.dp - 1) (tn T M - 1) = v
  generalize hρ : ((σ.1, σ.2.1, j3_ast (poR σ (M.dp - 1) (tn T M)).2.2 10088 121 (6 * tA P M + tB P M) v) : j3_S) = ρ
  generalize hτ : nxR ρ (M.dp - 1) (ti M + 1) = τ
  have u1 : τ.1 = σ.1 := by rw [← hτ, ← hρ]; rfl
  have u2 : ∀ e, ¬ e = 10081 → ¬ e = 10082 → ¬ e = 10088 → τ.2.2 e 121 = σ.2.2 e 121 := by
    intro e h1 h2 h3
    rw [← hτ, ← hρ]
    simp only [nxR, poR, j3_ast, up_e (show (e == 10081) = false by simpa using h1), up_e (show (e == 10082) = false by simpa using h2), up_e (show (e == 10088) = false by simpa using h3)]
  have u3 : τ.2.2 10081 121 = i_up (σ.2.2 10081 121) (M.dp - 1) (ti M + 1) := by rw [← hτ, ← hρ]; simp [nxR, poR, j3_ast, j3_up]
  have u4 : τ.2.2 10082 121 = i_up (σ.2.2 10082 121) (M.dp - 1) (tn T M - 1) := by rw [← hτ, ← hρ]; simp [nxR, poR, j3_ast, j3_up]
  have u5 : τ.2.2 10088 121 = i_up (σ.2.2 10088 121) (6 * tA P M + tB P M) v := by rw [← hτ, ← hρ]; simp [nxR, poR, j3_ast, j3_up]
  refine ⟨τ, ?_, by rw [← hτ, ← hρ]; exact frm.A rfl (frm.A rfl (frm.A rfl frm.rf)), fun d Q hQ => hX d Q (via239 (τ := ρ) B xo x0 x1 (by omega) (fun d Q hQ => ?_) d Q (r185 k0 k1 (by rw [← hρ]; exact k3) (by rw [hτ]; exact hQ)))⟩
  · have hS : stp P M = ((M.dp, M.me, i_up M.pc (M.dp - 1) (ti M + 1), i_up M.ht (M.dp - 1) (tn T M - 1), M.lo, up2 M.sk (M.dp - 1) (M.sk (M.dp - 1))), (M.no, M.oc, M.fd, i_up M.gs (6 * tA P M + tB P M) v), M.2.2) := by
      rw [stp_e ht, ← hv]
      unfold stO
      rw [hop]
      rfl
    rw [hS]
    refine RR.g0 B.1.1.1 B.1.2 B.2.2.1 ht B.2.2.2.2 ?_ (by rw [u1]) (u2 10080 (by decide) (by decide) (by decide)) u3 (by rw [u4]; simp only [i_up, if_true]) (fun k' hk => by rw [u4]; simp only [i_up, if_neg hk]) (fun z _ => by rw [u2 10084 (by decide) (by decide) (by decide)]) (fun q q0 q1 => by rw [u2 10084 (by decide) (by decide) (by decide)]; exact hsk q q0 (by omega)) (fun k' x b0 b1 => ?_) ⟨?_, fun z y0 y1 => ?_⟩
    · have := B.2.2.1.1
      unfold RRa at this ⊢
      rw [u1, u2 10090 (by decide) (by decide) (by decide)]
      exact this
    · rw [u2 10083 (by decide) (by decide) (by decide)]
      exact ((B.2.2.1.2.2 B.2.2.2.2).1 k' b0 b1).2 x
    · rw [u2 10086 (by decide) (by decide) (by decide), u2 10087 (by decide) (by decide) (by decide)]
      exact ho.1
    · rw [u5]
      show i_up _ _ _ z = i_up M.gs (6 * tA P M + tB P M) v z
      simp only [i_up]
      by_cases g : z = 6 * tA P M + tB P M
      · rw [if_pos g, if_pos g]
      · rw [if_neg g, if_neg g]; exact ho.2 z y0 y1
  · rw [e239, b239_0, xa, xb, wr_id (z := 6 * tA P M) (by omega) (by omega), wr_id (z := 6 * tA P M + tB P M) (by omega) (by omega), if_neg (by omega), if_neg (by omega), s231 k2 k0 k1 hh n0 n1]
    refine ⟨by omega, by omega, ?_⟩
    simp only [Option.toList_some, List.cons_append, List.nil_append]
    rw [b239_24, b239_25, hop]
    refine ⟨by omega, ?_⟩
    show T239 (d + 2) Q 80 _ _ _
    rw [b239_80]
    refine B.po z1 ?_
    simp only [Option.toList_some, List.cons_append, List.nil_append]
    rw [b239_85, hv]
    refine ⟨by omega, ?_⟩
    rw [← hρ] at hQ
    exact hQ
/-- the top is another value -/
def toR (σ : j3_S) (k h v : Int) : j3_S := (σ.1, σ.2.1, j3_ast σ.2.2 10084 121 (10 * k + h - 1) v)
theorem rrT (B : rBd σ s P T M) (z1 : 1 ≤ tn T M) : RR (nxR (toR σ (M.dp - 1) (tn T M) v) (M.dp - 1) j) P (M.go (M.dp - 1) (tn T M) (i_up (M.sk (M.dp - 1)) (tn T M - 1) v) j) := by
  obtain ⟨⟨k0, k1, k2, k3, k4⟩, ⟨n0, n1, hh, hsk⟩, ⟨hi, i0, i1⟩, m0, m1⟩ := B.f
  refine B.2.2.1.g B.1.1.1 B.1.2 B.2.2.2.1 B.2.2.2.2 rfl (fun e he => ?_) ?_ ?_ (fun k' hk => ?_) (fun z hz => ?_) (fun q q0 q1 => ?_)
  · simp at he
    rcases he with rfl | rfl | rfl | rfl | rfl | rfl <;> simp [nxR, toR, j3_ast, j3_up]
  · simp [nxR, toR, j3_ast, j3_up]
  · simp only [nxR, toR, j3_ast, up_e (show ((10082 : Nat) == 10081) = false from rfl), up_e (show ((10082 : Nat) == 10084) = false from rfl)]
    exact hh
  · simp only [nxR, toR, j3_ast, up_e (show ((10082 : Nat) == 10081) = false from rfl), up_e (show ((10082 : Nat) == 10084) = false from rfl)]
  · have : ¬ z = 10 * (M.dp - 1) + tn T M - 1 := by omega
    simp only [nxR, toR, j3_ast, up_r, up_e (show ((10084 : Nat) == 10081) = false from rfl), i_up, if_neg this]
  · simp only [nxR, toR, j3_ast, up_r, up_e (show ((10084 : Nat) == 10081) = false from rfl), i_up]
    by_cases g : q = tn T M - 1
    · rw [if_pos (by omega), if_pos g]
    · rw [if_neg (by omega), if_neg g]
      exact hsk q q0 (by omega)
theorem r_16 (B : rBd σ s P T M) (hop : tO P M = 16) : rSt P M σ := by
  obtain ⟨⟨k0, k1, k2, k3, k4⟩, ⟨n0, n1, hh, hsk⟩, ⟨hi, i0, i1⟩, m0, m1⟩ := B.f
  have ht := B.2.2.2.1
  have hg := B.1.1
  have hW := hg.1
  have hs := hW.1
  have hp := ht.2.1
  obtain ⟨-, -, -, -, i4, i5, -⟩ := ht.ik hW
  have ra := i4 (by omega)
  have rb := i5 (by omega)
  have hn := hs.2.1
  have h5 := (hW.2.2.1 _ ra.1 ra.2).2.1
  have hwl : wl P (tm M) (tO P M) (tA P M) (tB P M) = [4 + tA P M] := by rw [hop]; rfl
  obtain ⟨⟨-, t2, -⟩, e1, -, -⟩ := ht.tI B.1.2
  have t2 : stk P (tn T M) (ts T M) := t2
  obtain ⟨z1, z2, -⟩ := exf_z (wn := 1) e1 (by rw [show wl P (tm M) (tO P M) (tA P M) (tB P M) = [4 + tA P M] from hwl]; rfl)
  have z1 : 1 ≤ tn T M := z1
  have z2 : af P (ts T M) [4 + tA P M] (tn T M - 1) 1 = true := by rw [hwl] at z2; exact z2
  have v1 := ht.vs (tn T M - 1) (by omega) (by omega)
  have v2 := (vt_ft hs hp.1.1 hp.2.1 v1 (t2 _ (by omega) (by omega)).1 (af_1 z2) (Or.inl (by omega))).1 (by omega)
  have v3 := v2.2.1 (by omega)
  have v4 := v2.2.2 (by omega)
  rw [show 4 + tA P M - 4 = tA P M by omega] at v4
  have ho := (B.2.2.1.2.2 B.2.2.2.2).2
  have htop := B.top z1
  generalize hv : M.sk (M.dp - 1) (tn T M - 1) = r at v3 v4 htop
  have no2 := hp.1.2
  have hS : stp P M = if r = 0 then M.tp 1 else M.go (M.dp - 1) (tn T M) (i_up (M.sk (M.dp - 1)) (tn T M - 1) (M.fd (r - 1) (tA P M) (tB P M))) (ti M + 1) := by
    rw [stp_e ht, ← hv]
    unfold stO
    rw [hop]
    rfl
  obtain ⟨X, ⟨x0, x1, -⟩, xo, xa, xb, hX⟩ := B.at0
  have c : ∀ d (Q : j3_P), T239 (d + 2) Q 87 [wO 10 121, wI X, wI 16, wI (6 * tA P M + tB P M), wI r, wM 2] [] σ → j3_tc true (d + 3) 239 [wO 10 121, wI X, wI (tO P M)] σ Q := by
    intro d Q hQ
    rw [e239, b239_0, xa, xb, wr_id (z := 6 * tA P M) (by omega) (by omega), wr_id (z := 6 * tA P M + tB P M) (by omega) (by omega), if_neg (by omega), if_neg (by omega), s231 k2 k0 k1 hh n0 n1]
    refine ⟨by omega, by omega, ?_⟩
    simp only [Option.toList_some, List.cons_append, List.nil_append]
    rw [b239_24, b239_25, hop, htop]
    exact ⟨by omega, hQ⟩
  by_cases g : r = 0
  · refine ⟨trR σ 1, ?_, frm.I rfl (frm.I rfl frm.rf), fun d Q hQ => hX d Q (via239 (τ := trR σ 1) B xo x0 x1 (by omega) (fun d Q hQ => c d Q ?_) d Q (r185t hQ))⟩
    · rw [hS, if_pos g]
      exact B.2.2.1.tp B.2.2.2.2
    · rw [b239_87, if_pos g, s234]
      simp only [Option.toList_none, List.nil_append]
      rw [b239_92]
      exact hQ
  · have v5 := v4.resolve_left g
    have hf := (ho.1 (r - 1) (by omega) (by omega)).2 (tA P M) (tB P M) v5.2 rb.1 rb.2
    refine ⟨nxR (toR σ (M.dp - 1) (tn T M) (M.fd (r - 1) (tA P M) (tB P M))) (M.dp - 1) (ti M + 1), ?_, frm.A rfl (frm.A rfl frm.rf), fun d Q hQ => hX d Q (via239 (τ := toR σ (M.dp - 1) (tn T M) (M.fd (r - 1) (tA P M) (tB P M))) B xo x0 x1 (by omega) (fun d Q hQ => c d Q ?_) d Q (r185 k0 k1 k3 hQ))⟩
    · rw [hS, if_neg g]
      exact rrT B z1
    · rw [b239_87, if_neg g, s231 k2 k0 k1 hh n0 n1]
      simp only [Option.toList_some, List.cons_append, List.nil_append]
      rw [b239_97, wr_id (z := r - 1) (by omega) (by omega), wr_id (z := 60 * (r - 1)) (by omega) (by omega), wr_id (by omega) (by omega), show 60 * (r - 1) + (6 * tA P M + tB P M) = 60 * (r - 1) + 6 * tA P M + tB P M by omega, hf]
      exact ⟨by omega, by omega, hQ⟩
theorem r_17 (B : rBd σ s P T M) (hop : tO P M = 17) : rSt P M σ := by
  obtain ⟨⟨k0, k1, k2, k3, k4⟩, ⟨n0, n1, hh, hsk⟩, ⟨hi, i0, i1⟩, m0, m1⟩ := B.f
  have ht := B.2.2.2.1
  have hg := B.1.1
  have hW := hg.1
  have hs := hW.1
  have hp := ht.2.1
  obtain ⟨-, -, -, -, i4, i5, -⟩ := ht.ik hW
  have ra := i4 (by omega)
  have rb := i5 (by omega)
  have hn := hs.2.1
  have h5 := (hW.2.2.1 _ ra.1 ra.2).2.1
  have hwl : wl P (tm M) (tO P M) (tA P M) (tB P M) = [4 + tA P M, tyof (P 3009 (tA P M * 6 + tB P M))] := by rw [hop]; rfl
  obtain ⟨⟨-, t2, -⟩, e1, -, -⟩ := ht.tI B.1.2
  have t2 : stk P (tn T M) (ts T M) := t2
  obtain ⟨z1, z2, -⟩ := exf_z (wn := 2) e1 (by rw [show wl P (tm M) (tO P M) (tA P M) (tB P M) = [4 + tA P M, tyof (P 3009 (tA P M * 6 + tB P M))] from hwl]; rfl)
  have z1 : 2 ≤ tn T M := z1
  have z2 : af P (ts T M) [4 + tA P M, tyof (P 3009 (tA P M * 6 + tB P M))] (tn T M - 2) 2 = true := by rw [hwl] at z2; exact z2
  have v1 := ht.vs (tn T M - 2) (by omega) (by omega)
  have v2 := (vt_ft hs hp.1.1 hp.2.1 v1 (t2 _ (by omega) (by omega)).1 (af_2 z2).1 (Or.inl (by omega))).1 (by omega)
  have v3 := v2.2.1 (by omega)
  have v4 := v2.2.2 (by omega)
  rw [show 4 + tA P M - 4 = tA P M by omega] at v4
  have ho := (B.2.2.1.2.2 B.2.2.2.2).2
  have htop := B.top (by omega)
  have htop2 : σ.2.2 10084 121 (10 * (M.dp - 1) + tn T M - 1 - 1) = M.sk (M.dp - 1) (tn T M - 2) := by
    rw [show 10 * (M.dp - 1) + tn T M - 1 - 1 = 10 * (M.dp - 1) + (tn T M - 2) by omega]
    exact hsk _ (by omega) (by omega)
  generalize hv : M.sk (M.dp - 1) (tn T M - 2) = r at v3 v4 htop2
  generalize hw : M.sk (M.dp - 1) (tn T M - 1) = v at htop
  have no2 := hp.1.2
  have hS : stp P M = if r = 0 then M.tp 1 else ((M.dp, M.me, i_up M.pc (M.dp - 1) (ti M + 1), i_up M.ht (M.dp - 1) (tn T M - 2), M.lo, up2 M.sk (M.dp - 1) (M.sk (M.dp - 1))), (M.no, M.oc, (fun o c f => if o = r - 1 ∧ c = tA P M ∧ f = tB P M then v else M.fd o c f), M.gs), M.2.2) := by
    rw [stp_e ht, ← hv, ← hw]
    unfold stO
    rw [hop]
    rfl
  obtain ⟨X, ⟨x0, x1, -⟩, xo, xa, xb, hX⟩ := B.at0
  have c : ∀ d (Q : j3_P), T239 (d + 2) Q 113 [wO 10 121, wI X, wI 17, wI (6 * tA P M + tB P M), wI v, wM 2] [wI (10 * (M.dp - 1) + tn T M - 1), wA 10084 121] σ → j3_tc true (d + 3) 239 [wO 10 121, wI X, wI (tO P M)] σ Q := by
    intro d Q hQ
    rw [e239, b239_0, xa, xb, wr_id (z := 6 * tA P M) (by omega) (by omega), wr_id (z := 6 * tA P M + tB P M) (by omega) (by omega), if_neg (by omega), if_neg (by omega), s231 k2 k0 k1 hh n0 n1]
    refine ⟨by omega, by omega, ?_⟩
    simp only [Option.toList_some, List.cons_append, List.nil_append]
    rw [b239_24, b239_25, hop, htop]
    refine ⟨by omega, ?_⟩
    show T239 (d + 2) Q 109 _ _ _
    rw [b239_109, s231 k2 k0 k1 hh n0 n1]
    exact hQ
  by_cases g : r = 0
  · refine ⟨trR σ 1, ?_, frm.I rfl (frm.I rfl frm.rf), fun d Q hQ => hX d Q (via239 (τ := trR σ 1) B xo x0 x1 (by omega) (fun d Q hQ => c d Q ?_) d Q (r185t hQ))⟩
    · rw [hS, if_pos g]
      exact B.2.2.1.tp B.2.2.2.2
    · rw [b239_113, wr_id (z := 10 * (M.dp - 1) + tn T M - 1 - 1) (by omega) (by omega), htop2, if_pos g, s234]
      refine ⟨by omega, ?_⟩
      simp only [Option.toList_none, List.nil_append]
      rw [b239_122]
      exact hQ
  · have v5 := v4.resolve_left g
    generalize hρ : ((σ.1, σ.2.1, j3_ast (j3_ast σ.2.2 10087 121 (60 * (r - 1) + (6 * tA P M + tB P M)) v) 10082 121 (M.dp - 1) (tn T M - 2)) : j3_S) = ρ
    generalize hτ : nxR ρ (M.dp - 1) (ti M + 1) = τ
    have u1 : τ.1 = σ.1 := by rw [← hτ, ← hρ]; rfl
    have u2 : ∀ e, ¬ e = 10081 → ¬ e = 10082 → ¬ e = 10087 → τ.2.2 e 121 = σ.2.2 e 121 := by
      intro e h1 h2 h3
      rw [← hτ, ← hρ]
      simp only [nxR, j3_ast, up_e (show (e == 10081) = false by simpa using h1), up_e (show (e == 10082) = false by simpa using h2), up_e (show (e == 10087) = false by simpa using h3)]
    have u3 : τ.2.2 10081 121 = i_up (σ.2.2 10081 121) (M.dp - 1) (ti M + 1) := by rw [← hτ, ← hρ]; simp [nxR, j3_ast, j3_up]
    have u4 : τ.2.2 10082 121 = i_up (σ.2.2 10082 121) (M.dp - 1) (tn T M - 2) := by rw [← hτ, ← hρ]; simp [nxR, j3_ast, j3_up]
    have u5 : τ.2.2 10087 121 = i_up (σ.2.2 10087 121) (60 * (r - 1) + (6 * tA P M + tB P M)) v := by rw [← hτ, ← hρ]; simp [nxR, j3_ast, j3_up]
    refine ⟨τ, ?_, by rw [← hτ, ← hρ]; exact frm.A rfl (frm.A rfl (frm.A rfl frm.rf)), fun d Q hQ => hX d Q (via239 (τ := ρ) B xo x0 x1 (by omega) (fun d Q hQ => c d Q ?_) d Q (r185 k0 k1 (by rw [← hρ]; exact k3) (by rw [hτ]; exact hQ)))⟩
    · rw [hS, if_neg g]
      refine RR.g0 B.1.1.1 B.1.2 B.2.2.1 ht B.2.2.2.2 ?_ (by rw [u1]) (u2 10080 (by decide) (by decide) (by decide)) u3 (by rw [u4]; simp only [i_up, if_true]) (fun k' hk => by rw [u4]; simp only [i_up, if_neg hk]) (fun z _ => by rw [u2 10084 (by decide) (by decide) (by decide)]) (fun q q0 q1 => by rw [u2 10084 (by decide) (by decide) (by decide)]; exact hsk q q0 (by omega)) (fun k' x b0 b1 => ?_) ⟨fun q q0 q1 => ⟨?_, fun c f hc f0 f1 => ?_⟩, ?_⟩
      · have := B.2.2.1.1
        unfold RRa at this ⊢
        rw [u1, u2 10090 (by decide) (by decide) (by decide)]
        exact this
      · rw [u2 10083 (by decide) (by decide) (by decide)]
        exact ((B.2.2.1.2.2 B.2.2.2.2).1 k' b0 b1).2 x
      · rw [u2 10086 (by decide) (by decide) (by decide)]
        exact (ho.1 q q0 q1).1
      · have q1 : q < M.no := q1
        have hc : cv P c (M.oc q) = true := hc
        have hq := hp.2.1 q q0 q1
        have hcc := cv_le hs _ hq.1 hq.2 hc
        have h5c := (hW.2.2.1 c hcc.1 (by omega)).2.1
        show τ.2.2 10087 121 (60 * q + 6 * c + f) = if q = r - 1 ∧ c = tA P M ∧ f = tB P M then v else M.fd q c f
        rw [u5]
        simp only [i_up]
        by_cases gq : 60 * q + 6 * c + f = 60 * (r - 1) + (6 * tA P M + tB P M)
        · rw [if_pos gq, if_pos (by omega)]
        · rw [if_neg gq, if_neg (by omega)]
          exact (ho.1 q q0 q1).2 c f hc f0 f1
      · rw [u2 10088 (by decide) (by decide) (by decide)]
        exact ho.2
    · rw [b239_113, wr_id (z := 10 * (M.dp - 1) + tn T M - 1 - 1) (by omega) (by omega), htop2, if_neg g, wr_id (z := r - 1) (by omega) (by omega), wr_id (z := 60 * (r - 1)) (by omega) (by omega), wr_id (z := 60 * (r - 1) + (6 * tA P M + tB P M)) (by omega) (by omega), k2, wr_id (z := M.dp - 1 + 1 - 1) (by omega) (by omega), show M.dp - 1 + 1 - 1 = M.dp - 1 by omega, hh, wr_id (z := tn T M - 2) (by omega) (by omega), hρ]
      exact ⟨by omega, by omega, by omega, by omega, hQ⟩
theorem r_24 (B : rBd σ s P T M) (hop : tO P M = 24 ∨ tO P M = 25) : rSt P M σ := by
  obtain ⟨⟨k0, k1, k2, k3, k4⟩, ⟨n0, n1, hh, hsk⟩, ⟨hi, i0, i1⟩, m0, m1⟩ := B.f
  have w1 : ((wl P (tm M) (tO P M) (tA P M) (tB P M)).length : Int) = 1 := by rcases hop with g | g <;> (rw [g]; rfl)
  have hwl : wl P (tm M) (tO P M) (tA P M) (tB P M) = [-2] := by rcases hop with g | g <;> (rw [g]; rfl)
  have ht := B.2.2.2.1
  have hW := B.1.1.1
  have hs := hW.1
  have hp := ht.2.1
  obtain ⟨-, -, -, -, i4, -, -⟩ := ht.ik hW
  have ra := i4 (by omega)
  obtain ⟨⟨-, t2, -⟩, e1, -, -⟩ := ht.tI B.1.2
  have t2 : stk P (tn T M) (ts T M) := t2
  obtain ⟨z1, z2, -⟩ := exf_z (wn := 1) e1 w1
  have z1 : 1 ≤ tn T M := z1
  have z2 : af P (ts T M) [-2] (tn T M - 1) 1 = true := by rw [hwl] at z2; exact z2
  have v1 := ht.vs (tn T M - 1) (by omega) (by omega)
  have v2 := (vt_ft hs hp.1.1 hp.2.1 v1 (t2 _ (by omega) (by omega)).1 (af_1 z2) (by omega)).2 rfl
  have v3 := v2.2.1 (by omega)
  have ho := (B.2.2.1.2.2 B.2.2.2.2).2
  have htop := B.top z1
  generalize hv : M.sk (M.dp - 1) (tn T M - 1) = r at v3 htop
  have no2 := hp.1.2
  have hn := hs.2.1
  obtain ⟨s0, s2, hs', hR⟩ := B.2.1
  obtain ⟨X, ⟨x0, x1, -⟩, xo, xa, xb, hX⟩ := B.at0
  have hob : ¬ r = 0 → σ.2.2 10086 121 (r - 1) = M.oc (r - 1) ∧ 0 ≤ M.oc (r - 1) ∧ M.oc (r - 1) < P 3000 0 := fun g => ⟨(ho.1 (r - 1) (by omega) (by omega)).1, hp.2.1 (r - 1) (by omega) (by omega)⟩
  have c35 : ¬ r = 0 → ∀ d (Q : j3_P), j3_tc true (d + 1) 170 [wO 10 121, wI s, wI (tA P M), wI (σ.2.2 10086 121 (r - 1))] σ Q = Q (some (wI (b2i (cov P (tA P M) 10 (M.oc (r - 1)))))) σ := by
    intro g d Q
    obtain ⟨q1, q2, q3⟩ := hob g
    rw [q1]
    exact s170 hR hs s0 s2 ra.1 (by omega) q3
  generalize hto : 6 * tA P M + tB P M = told
  have c : ∀ (p : Nat) d (Q : j3_P), (∀ told, T239 (d + 2) Q (if tO P M = 24 then 146 else 167) [wO 10 121, wI X, wI (tO P M), wI told, wI r, wM 2] [] σ) → j3_tc true (d + 3) 239 [wO 10 121, wI X, wI (tO P M)] σ Q := by
    intro p d Q hQ
    rw [e239, b239_0, xa, xb, if_neg (by omega), if_neg (by omega), s231 k2 k0 k1 hh n0 n1]
    refine ⟨by omega, by omega, ?_⟩
    simp only [Option.toList_some, List.cons_append, List.nil_append]
    rw [b239_24, b239_25, htop]
    refine ⟨by omega, ?_⟩
    rcases hop with g | g
    · rw [g] at hQ ⊢
      exact hQ _
    · rw [g] at hQ ⊢
      exact hQ _
  rcases hop with g | g
  · have hS : stp P M = if ¬ r = 0 ∧ cov P (tA P M) 10 (M.oc (r - 1)) = false then M.tp 3 else M.go (M.dp - 1) (tn T M) (M.sk (M.dp - 1)) (ti M + 1) := by
      rw [stp_e ht]
      unfold stO
      rw [g, ← hv]
      rfl
    by_cases g2 : ¬ r = 0 ∧ cov P (tA P M) 10 (M.oc (r - 1)) = false
    · refine ⟨trR σ 3, ?_, frm.I rfl (frm.I rfl frm.rf), fun d Q hQ => hX d Q (via239 (τ := trR σ 3) B xo x0 x1 (by omega) (fun d Q hQ => c 0 d Q (fun told => ?_)) d Q (r185t hQ))⟩
      · rw [hS, if_pos g2]
        exact B.2.2.1.tp B.2.2.2.2
      · rw [if_pos g, b239_146, if_neg g2.1, xa, hs', wr_id (z := r - 1) (by omega) (by omega), c35 g2.1, g2.2]
        refine ⟨by omega, by omega, ?_⟩
        simp only [Option.toList_some, List.cons_append, List.nil_append]
        rw [b239_162, if_pos (show b2i false = 0 from rfl), s234]
        simp only [Option.toList_none, List.nil_append]
        rw [b239_166]
        exact hQ
    · refine ⟨nxR σ (M.dp - 1) (ti M + 1), ?_, frm.A rfl frm.rf, fun d Q hQ => hX d Q (via239 (τ := σ) B xo x0 x1 (by omega) (fun d Q hQ => c 0 d Q (fun told => ?_)) d Q (r185 k0 k1 k3 hQ))⟩
      · rw [hS, if_neg g2]
        have := rrO (σ' := nxR σ (M.dp - 1) (ti M + 1)) (w := 0) (j := ti M + 1) B (by omega) rfl (fun e h1 h2 => by simp only [nxR, j3_ast, up_e (show (e == 10081) = false by simpa using h1)]) (by simp [nxR, j3_ast, j3_up]) (by simp only [nxR, j3_ast, up_e (show ((10082 : Nat) == 10081) = false from rfl)]; omega) (fun k' hk => by simp only [nxR, j3_ast, up_e (show ((10082 : Nat) == 10081) = false from rfl)])
        rw [show tn T M - 0 = tn T M by omega] at this
        exact this
      · rw [if_pos g, b239_146]
        by_cases gr : r = 0
        · rw [if_pos gr, b239_166]
          exact hQ
        · have gc : cov P (tA P M) 10 (M.oc (r - 1)) = true := by
            cases hc : cov P (tA P M) 10 (M.oc (r - 1))
            · exact absurd ⟨gr, hc⟩ g2
            · rfl
          rw [if_neg gr, xa, hs', wr_id (z := r - 1) (by omega) (by omega), c35 gr, gc]
          refine ⟨by omega, by omega, ?_⟩
          simp only [Option.toList_some, List.cons_append, List.nil_append]
          rw [b239_162, if_neg (show ¬ b2i true = 0 by decide), b239_166]
          exact hQ
  · have hS : stp P M = M.go (M.dp - 1) (tn T M) (i_up (M.sk (M.dp - 1)) (tn T M - 1) (if r = 0 then 0 else b2i (cov P (tA P M) 10 (M.oc (r - 1))))) (ti M + 1) := by
      rw [stp_e ht]
      unfold stO
      rw [g, ← hv]
      rfl
    generalize hw : (if r = 0 then 0 else b2i (cov P (tA P M) 10 (M.oc (r - 1)))) = w at hS
    refine ⟨nxR (toR σ (M.dp - 1) (tn T M) w) (M.dp - 1) (ti M + 1), ?_, frm.A rfl (frm.A rfl frm.rf), fun d Q hQ => hX d Q (via239 (τ := toR σ (M.dp - 1) (tn T M) w) B xo x0 x1 (by omega) (fun d Q hQ => c 0 d Q (fun told => ?_)) d Q (r185 k0 k1 k3 hQ))⟩
    · rw [hS]
      exact rrT B z1
    · rw [if_neg (by omega), b239_167, s231 k2 k0 k1 hh n0 n1]
      simp only [Option.toList_some, List.cons_append, List.nil_append]
      rw [b239_171]
      by_cases gr : r = 0
      · rw [if_pos gr] at hw ⊢
        rw [← hw] at hQ
        exact ⟨by omega, hQ⟩
      · rw [if_neg gr] at hw ⊢
        rw [xa, hs', wr_id (z := r - 1) (by omega) (by omega), c35 gr]
        refine ⟨by omega, by omega, ?_⟩
        simp only [Option.toList_some, List.cons_append, List.nil_append]
        rw [b239_187]
        cases hc : cov P (tA P M) 10 (M.oc (r - 1))
        · rw [hc] at hw
          rw [if_pos (show b2i false = 0 from rfl)]
          rw [← hw] at hQ
          exact ⟨by omega, hQ⟩
        · rw [hc] at hw
          rw [if_neg (show ¬ b2i true = 0 by decide)]
          rw [← hw] at hQ
          exact ⟨by omega, hQ⟩
end RST3
