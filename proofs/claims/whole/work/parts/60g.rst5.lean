/-! the reference's step: CALL, SEND -/
section RST5
variable {σ σ' τ : j3_S} {P : Pg} {T : Int → Fl} {M : Mc} {d : Nat} {Q : j3_P} {k i j x v h' s : Int} {t : Int → Int}
theorem cl_0 {f g : Int → Int} {a m fr : Int} : i_cl f g a m fr 0 = f := by
  funext z
  simp only [i_cl]
  rw [if_neg (by omega)]
def clR (σ : j3_S) (k q n u fr : Int) : j3_S := (j3_up (j3_up σ.1 10079 121 (k + 1 + 1)) 10096 121 (if σ.1 10096 121 < k + 1 + 1 then k + 1 + 1 else σ.1 10096 121), σ.2.1, j3_ast (j3_ast (j3_ast (j3_up (j3_ast σ.2.2 10082 121 k q) 10083 121 (i_cl (σ.2.2 10083 121) (σ.2.2 10084 121) (20 * (k + 1)) n fr 20)) 10080 121 (k + 1) u) 10081 121 (k + 1) 0) 10082 121 (k + 1) 0)
theorem x90 (B : rBd σ s P T M) {y1 y2 y3 n u fr : Int} (hd : ¬ M.dp = 40) (n0 : 0 ≤ n) (n1 : n ≤ tn T M) (f0 : 0 ≤ fr) (f1 : fr + n ≤ 400) (hQ : Q none (clR σ (M.dp - 1) (tn T M - n) n u fr)) : T235 d Q 90 [wO 10 121, wI y1, wI y2, wI y3, wI n, wI fr, wM 2, wM 2] [wI u] σ := by
  obtain ⟨⟨k0, k1, k2, k3, k4⟩, ⟨-, n10, hh, hsk⟩, -, -⟩ := B.f
  have hdp := B.2.2.2.1.1
  rw [b235_90, k2, wr_id (z := M.dp - 1 + 1 - 1) (by omega) (by omega), show M.dp - 1 + 1 - 1 = M.dp - 1 by omega, hh, wr_id (z := tn T M - n) (by omega) (by omega)]
  refine ⟨by omega, by omega, ?_⟩
  have e0 : ((σ.1, σ.2.1, j3_ast σ.2.2 10082 121 (M.dp - 1) (tn T M - n)) : j3_S) = (σ.1, σ.2.1, j3_up (j3_ast σ.2.2 10082 121 (M.dp - 1) (tn T M - n)) 10083 121 (i_cl (σ.2.2 10083 121) ((j3_ast σ.2.2 10082 121 (M.dp - 1) (tn T M - n)) 10084 121) (20 * (M.dp - 1 + 1)) n fr 0)) := by
    rw [cl_0]
    have : σ.2.2 10083 121 = j3_ast σ.2.2 10082 121 (M.dp - 1) (tn T M - n) 10083 121 := by simp only [j3_ast, up_e (show ((10083 : Nat) == 10082) = false from rfl)]
    rw [this, up_id]
  have e4 : j3_ast σ.2.2 10082 121 (M.dp - 1) (tn T M - n) 10084 121 = σ.2.2 10084 121 := by simp only [j3_ast, up_e (show ((10084 : Nat) == 10082) = false from rfl)]
  rw [e0, l235 (I := σ.1) (D := M.dp - 1 + 1) k2 (by omega) (by omega) n0 f0 f1 20 0 (by omega) (by omega), e4, b235_104, if_neg (by omega)]
  dsimp only
  rw [k2, wr_id (z := M.dp - 1 + 1 + 1) (by omega) (by omega)]
  refine ⟨by omega, by omega, by omega, ?_⟩
  unfold clR at hQ
  by_cases g : σ.1 10096 121 < M.dp - 1 + 1 + 1
  · rw [if_pos g] at hQ ⊢
    exact hQ
  · rw [if_neg g] at hQ ⊢
    exact hQ
theorem via235 (B : rBd σ s P T M) {X : Int} (xo : σ.2.2 10027 121 X = tO P M) (x0 : 0 ≤ X) (x1 : X < 28800) (hc : tO P M = 20 ∨ tO P M = 21) (hq : ∀ d (Q : j3_P), Q none τ → j3_tc true (d + 3) 235 [wO 10 121, wI X, wI (if tO P M = 21 then 1 else 0)] σ Q) : ∀ d (Q : j3_P), Q none τ → T237 (d + 3) Q 16 [wO 10 121, wI (M.dp - 1), wM 2, wM 2, wM 2, wM 2] [wI X] σ := by
  intro d Q hQ
  have t : T237 (d + 3) Q 28 [wO 10 121, wI (M.dp - 1), wI X, wI (tO P M), wM 2, wM 2] [] σ := by
    have t36 : T237 (d + 3) Q 36 [wO 10 121, wI (M.dp - 1), wI X, wI (tO P M), wM 2, wM 2] [wI (if tO P M = 21 then 1 else 0), wI X, wO 10 121] σ := by
      rw [b237_36]
      refine hq d _ ?_
      simp only [Option.toList_none, List.nil_append]
      rw [b237_37]
      exact hQ
    rw [b237_28]
    by_cases g : tO P M = 21
    · rw [if_pos g] at t36 ⊢; exact t36
    · rw [if_neg g] at t36 ⊢; exact t36
  rw [b237_16, xo]
  refine ⟨by omega, ?_⟩
  by_cases g : tO P M = 20
  · rw [if_pos g]; exact t
  · rw [if_neg g, if_pos (by omega)]; exact t
/-- a call: to the trap, or to the new frame -/
theorem x235 (B : rBd σ s P T M) {X : Int} (x0 : 0 ≤ X) (x1 : X < 28800) (xa : σ.2.2 10028 121 X = tA P M) (xb : σ.2.2 10029 121 X = tB P M) (hc : tO P M = 20 ∨ tO P M = 21) : (P 3013 (tT P M) = 0 ∧ M.sk (M.dp - 1) (tn T M - caL P (tT P M)) = 0 → ∀ d (Q : j3_P), Q none (trR σ 1) → j3_tc true (d + 3) 235 [wO 10 121, wI X, wI (if tO P M = 21 then 1 else 0)] σ Q) ∧ (¬ (P 3013 (tT P M) = 0 ∧ M.sk (M.dp - 1) (tn T M - caL P (tT P M)) = 0) → (M.dp = 40 → ∀ d (Q : j3_P), Q none (trR σ 5) → j3_tc true (d + 3) 235 [wO 10 121, wI X, wI (if tO P M = 21 then 1 else 0)] σ Q) ∧ (¬ M.dp = 40 → ∀ d (Q : j3_P), Q none (clR σ (M.dp - 1) (tn T M - caL P (tT P M)) (caL P (tT P M)) (tU P T M) (10 * (M.dp - 1) + (tn T M - caL P (tT P M)))) → j3_tc true (d + 3) 235 [wO 10 121, wI X, wI (if tO P M = 21 then 1 else 0)] σ Q)) := by
  obtain ⟨⟨k0, k1, k2, k3, k4⟩, ⟨n0, n1, hh, hsk⟩, -, m0, m1⟩ := B.f
  have ht := B.2.2.2.1
  have hg := B.1.1
  have hW := hg.1
  have hdp := ht.1
  have hp := ht.2.1
  obtain ⟨⟨t0, t1, t15, t13⟩, ⟨c0, c1, c2⟩, h21, hr, hu⟩ := call_f hg B.1.2 ht hc
  obtain ⟨-, -, -, -, i4, -, i6⟩ := ht.ik hW
  have ra := i4 (by omega)
  have rb := i6 (by omega)
  have hn := hW.1.2.1
  have hma := hW.2.1.2.2 _ ra.1 ra.2
  have h80 := hW.2.1.2.1
  obtain ⟨s0, s2, hs', hR⟩ := B.2.1
  have h7 := (hR.2.2.1 _ ra.1 ra.2).1.2.2.2.2
  obtain ⟨⟨-, r20, r21, -, r23, -⟩, -⟩ := hR.2.2.2 _ t0 t1
  have hca : P 3015 (tT P M) + 1 - P 3013 (tT P M) = caL P (tT P M) := by
    unfold caL rcv
    rcases t13 with g | g <;> rw [g]
    · rw [if_pos rfl]; omega
    · rw [if_neg (by omega)]; omega
  have hc1 : P 3013 (tT P M) = 0 → 1 ≤ caL P (tT P M) := by intro g; rw [g] at hca; omega
  have asc : 80 * s + P 3007 (tA P M) + tB P M = 80 * s + tT P M := Int.add_assoc _ _ _
  have start : ∀ d (Q : j3_P), T235 (d + 2) Q 37 [wO 10 121, wI X, wI (if tO P M = 21 then 1 else 0), wI (80 * s + tT P M), wI (caL P (tT P M)), wM 2, wM 2, wM 2] [wI (10 * (M.dp - 1) + tn T M - 1)] σ → j3_tc true (d + 3) 235 [wO 10 121, wI X, wI (if tO P M = 21 then 1 else 0)] σ Q := by
    intro d Q hQ
    rw [e235, b235_0, xa, xb, hs', wr_id (z := 10 * s) (by omega) (by omega), wr_id (z := 10 * s + tA P M) (by omega) (by omega), h7, wr_id (z := 80 * s) (by omega) (by omega), wr_id (z := 80 * s + P 3007 (tA P M)) (by omega) (by omega), wr_id (z := 80 * s + P 3007 (tA P M) + tB P M) (by omega) (by omega), asc, r23, r21, wr_id (z := P 3015 (tT P M) + 1) (by omega) (by omega), hca, wr_id (z := caL P (tT P M)) (by omega) (by omega), s231 k2 k0 k1 hh n0 n1]
    exact ⟨by omega, by omega, by omega, by omega, by omega, hQ⟩
  generalize hfr : 10 * (M.dp - 1) + (tn T M - caL P (tT P M)) = fr
  have efr : 10 * (M.dp - 1) + tn T M - 1 + 1 - caL P (tT P M) = fr := by omega
  have vfr : P 3013 (tT P M) = 0 → σ.2.2 10084 121 fr = M.sk (M.dp - 1) (tn T M - caL P (tT P M)) := by
    intro g
    have := hc1 g
    rw [← hfr]
    exact hsk _ (by omega) (by omega)
  have mid : ∀ d (Q : j3_P), ¬ (P 3013 (tT P M) = 0 ∧ M.sk (M.dp - 1) (tn T M - caL P (tT P M)) = 0) → T235 (d + 2) Q 56 [wO 10 121, wI X, wI (if tO P M = 21 then 1 else 0), wI (80 * s + tT P M), wI (caL P (tT P M)), wI fr, wM 2, wM 2] [] σ → j3_tc true (d + 3) 235 [wO 10 121, wI X, wI (if tO P M = 21 then 1 else 0)] σ Q := by
    intro d Q g hQ
    refine start d Q ?_
    rw [b235_37, wr_id (z := 10 * (M.dp - 1) + tn T M - 1 + 1) (by omega) (by omega), efr, wr_id (z := fr) (by omega) (by omega), r21]
    refine ⟨by omega, ?_⟩
    by_cases g13 : P 3013 (tT P M) = 0
    · rw [if_pos g13, vfr g13, if_neg (fun e => g ⟨g13, e⟩)]
      exact ⟨by have := hc1 g13; omega, hQ⟩
    · rw [if_neg g13]; exact hQ
  refine ⟨fun g d Q hQ => start d Q ?_, fun g => ⟨fun g4 d Q hQ => mid d Q g ?_, fun g4 d Q hQ => mid d Q g ?_⟩⟩
  · have := hc1 g.1
    rw [b235_37, wr_id (z := 10 * (M.dp - 1) + tn T M - 1 + 1) (by omega) (by omega), efr, wr_id (z := fr) (by omega) (by omega), r21, if_pos g.1, vfr g.1, if_pos g.2, s234]
    refine ⟨by omega, by omega, ?_⟩
    simp only [Option.toList_none, List.nil_append]
    rw [b235_55]
    exact hQ
  · rw [b235_56, k2, if_pos (by omega), s234]
    simp only [Option.toList_none, List.nil_append]
    rw [b235_63]
    exact hQ
  · rw [b235_56, k2, if_neg (by omega)]
    unfold tU at hQ
    rcases hc with gc | gc
    · rw [if_neg (show ¬ tO P M = 21 by omega)] at hQ ⊢
      rw [if_pos rfl, hs', wr_id (z := 80 * s) (by omega) (by omega), show 80 * s + tT P M - 80 * s = tT P M by omega, wr_id (z := tT P M) (by omega) (by omega)]
      exact x90 B g4 c0 c2 (by omega) (by omega) hQ
    · rw [if_pos gc] at hQ ⊢
      have g13 := h21 gc
      obtain ⟨q1, q2⟩ := hr g13
      have q3 := q2 (fun e => g ⟨g13, e⟩)
      have := hc1 g13
      generalize hv : M.sk (M.dp - 1) (tn T M - caL P (tT P M)) = r at q1 q3 hQ vfr
      have no2 := hp.1.2
      have hoc := hp.2.1 (r - 1) (by omega) (by omega)
      have ho := ((B.2.2.1.2.2 B.2.2.2.2).2.1 (r - 1) (by omega) (by omega)).1
      rw [if_neg (by omega), vfr g13, wr_id (z := r - 1) (by omega) (by omega), hs', ho, r20, s192 hR hW.1 hW.2.1 s0 s2 (by omega) hoc.2]
      refine ⟨by omega, by omega, by omega, ?_⟩
      simp only [Option.toList_some, List.cons_append, List.nil_append]
      rw [b235_83]
      exact x90 B g4 c0 c2 (by omega) (by omega) hQ
theorem r_20 (B : rBd σ s P T M) (hc : tO P M = 20 ∨ tO P M = 21) : rSt P M σ := by
  obtain ⟨⟨k0, k1, k2, k3, k4⟩, ⟨n0, n1, hh, hsk⟩, -, m0, m1⟩ := B.f
  have ht := B.2.2.2.1
  have hg := B.1.1
  have hW := hg.1
  have hd := ht.1
  have hE := B.2.2.1
  have hB := hE.2.1 (by rw [B.2.2.2.2]; decide)
  obtain ⟨hs, ho⟩ := hE.2.2 B.2.2.2.2
  obtain ⟨⟨t0, t1, t15, t13⟩, ⟨c0, c1, c2⟩, h21, hr, hu⟩ := call_f hg B.1.2 ht hc
  have hS : stp P M = if P 3013 (tT P M) = 0 ∧ M.sk (M.dp - 1) (tn T M - caL P (tT P M)) = 0 then M.tp 1 else if M.dp = 40 then M.tp 5 else ((M.dp + 1, i_up M.me M.dp (tU P T M), i_up M.pc M.dp 0, i_up (i_up M.ht (M.dp - 1) (tn T M - caL P (tT P M))) M.dp 0, up2 M.lo M.dp (fun x => if x < caL P (tT P M) then M.sk (M.dp - 1) (tn T M - caL P (tT P M) + x) else 0), M.sk), M.2.1, M.en, M.tr, M.ou, M.ov, if M.mx < M.dp + 1 then M.dp + 1 else M.mx) := by
    rw [stp_e ht]
    unfold stO
    rw [if_neg (by omega), if_neg (by omega), if_neg (by omega), if_neg (by omega), if_neg (by omega), if_neg (by omega), if_neg (by omega), if_neg (by omega), if_neg (by omega), if_neg (by omega), if_neg (by omega), if_neg (by omega), if_neg (by omega), if_neg (by omega), if_neg (by omega), if_pos (by omega)]
  obtain ⟨X, ⟨x0, x1, -⟩, xo, xa, xb, hX⟩ := B.at0
  obtain ⟨y1, y2⟩ := x235 B x0 x1 xa xb hc
  by_cases g : P 3013 (tT P M) = 0 ∧ M.sk (M.dp - 1) (tn T M - caL P (tT P M)) = 0
  · exact ⟨trR σ 1, by rw [hS, if_pos g]; exact hE.tp B.2.2.2.2, frm.I rfl (frm.I rfl frm.rf), fun d Q hQ => hX d Q (via235 B xo x0 x1 hc (y1 g) d Q hQ)⟩
  obtain ⟨y2, y3⟩ := y2 g
  by_cases g4 : M.dp = 40
  · exact ⟨trR σ 5, by rw [hS, if_neg g, if_pos g4]; exact hE.tp B.2.2.2.2, frm.I rfl (frm.I rfl frm.rf), fun d Q hQ => hX d Q (via235 B xo x0 x1 hc (y2 g4) d Q hQ)⟩
  have y3 := y3 g4
  generalize hτ : clR σ (M.dp - 1) (tn T M - caL P (tT P M)) (caL P (tT P M)) (tU P T M) (10 * (M.dp - 1) + (tn T M - caL P (tT P M))) = τ at y3
  have kk : M.dp - 1 + 1 = M.dp := by omega
  have a0 : τ.1 = j3_up (j3_up σ.1 10079 121 (M.dp + 1)) 10096 121 (if σ.1 10096 121 < M.dp + 1 then M.dp + 1 else σ.1 10096 121) := by rw [← hτ]; simp only [clR, kk]
  have a8 : τ.2.2 10080 121 = i_up (σ.2.2 10080 121) M.dp (tU P T M) := by rw [← hτ]; simp [clR, kk, j3_ast, j3_up]
  have a9 : τ.2.2 10081 121 = i_up (σ.2.2 10081 121) M.dp 0 := by rw [← hτ]; simp [clR, kk, j3_ast, j3_up]
  have a10 : τ.2.2 10082 121 = i_up (i_up (σ.2.2 10082 121) (M.dp - 1) (tn T M - caL P (tT P M))) M.dp 0 := by rw [← hτ]; simp [clR, kk, j3_ast, j3_up]
  have a11 : τ.2.2 10083 121 = i_cl (σ.2.2 10083 121) (σ.2.2 10084 121) (20 * M.dp) (caL P (tT P M)) (10 * (M.dp - 1) + (tn T M - caL P (tT P M))) 20 := by rw [← hτ]; simp [clR, kk, j3_ast, j3_up]
  have ae : ∀ e, e = 10084 ∨ e = 10086 ∨ e = 10087 ∨ e = 10088 ∨ e = 10090 → τ.2.2 e 121 = σ.2.2 e 121 := by
    intro e he
    rw [← hτ]
    rcases he with rfl | rfl | rfl | rfl | rfl <;> simp [clR, j3_ast, j3_up]
  have aI : ∀ e, ¬ e = 10079 → ¬ e = 10096 → τ.1 e 121 = σ.1 e 121 := by
    intro e h1 h2
    rw [a0, up_e (show (e == 10096) = false by simpa using h2), up_e (show (e == 10079) = false by simpa using h1)]
  obtain ⟨u0, u1, l1, l2, l3, l4⟩ := hu g
  refine ⟨τ, ?_, by rw [← hτ]; exact frm.A rfl (frm.A rfl (frm.A rfl (frm.A rfl (frm.A rfl (frm.I rfl (frm.I rfl frm.rf)))))), fun d Q hQ => hX d Q (via235 B xo x0 x1 hc y3 d Q hQ)⟩
  rw [hS, if_neg g, if_neg g4]
  obtain ⟨⟨e1, e2, e3, e4⟩, e5, e6, e7⟩ := hE.1
  have h10 := ht.h10 hW B.1.2
  refine ⟨⟨⟨?_, ?_, ?_, ?_⟩, ?_, e6, ?_⟩, fun _ => ⟨?_, fun k' q0 q1 => ?_⟩, fun _ => ⟨fun k' q0 q1 => ⟨?_, fun x w0 w1 => ?_⟩, ?_⟩⟩
  · rw [aI 10094 (by decide) (by decide)]; exact e1
  · rw [aI 10085 (by decide) (by decide)]; exact e2
  · rw [aI 10095 (by decide) (by decide)]; exact e3
  · rw [a0, up_r, e4]
  · rw [aI 10089 (by decide) (by decide)]; exact e5
  · rw [ae 10090 (by simp)]; exact e7
  · rw [a0, up_e (show ((10079 : Nat) == 10096) = false from rfl), up_r]
  · have q1 : k' < M.dp + 1 := q1
    rw [a8, a9]
    show i_up _ M.dp (tU P T M) k' = i_up M.me M.dp (tU P T M) k' ∧ i_up _ M.dp 0 k' = i_up M.pc M.dp 0 k'
    simp only [i_up]
    by_cases gk : k' = M.dp
    · simp only [if_pos gk]; exact ⟨trivial, trivial⟩
    · simp only [if_neg gk]; exact hB.2 k' q0 (by omega)
  · have q1 : k' < M.dp + 1 := q1
    rw [a10, ae 10084 (by simp)]
    show i_up (i_up _ (M.dp - 1) _) M.dp 0 k' = i_up (i_up M.ht (M.dp - 1) (tn T M - caL P (tT P M))) M.dp 0 k' ∧ ∀ j, 0 ≤ j → j < i_up (i_up M.ht (M.dp - 1) (tn T M - caL P (tT P M))) M.dp 0 k' → σ.2.2 10084 121 (10 * k' + j) = M.sk k' j
    simp only [i_up]
    by_cases gk : k' = M.dp
    · simp only [if_pos gk]
      exact ⟨trivial, fun j j0 j1 => absurd j1 (by omega)⟩
    · simp only [if_neg gk]
      by_cases gk2 : k' = M.dp - 1
      · simp only [if_pos gk2]
        refine ⟨trivial, fun j j0 j1 => ?_⟩
        rw [gk2]
        exact hsk j j0 (by omega)
      · simp only [if_neg gk2]
        exact (hs k' q0 (by omega)).1
  · have q1 : k' < M.dp + 1 := q1
    have w1 : x < P 3017 (i_up M.me M.dp (tU P T M) k') := w1
    show τ.2.2 10083 121 (20 * k' + x) = up2 M.lo M.dp (fun x => if x < caL P (tT P M) then M.sk (M.dp - 1) (tn T M - caL P (tT P M) + x) else 0) k' x
    rw [a11]
    have hm : 0 ≤ i_up M.me M.dp (tU P T M) k' ∧ i_up M.me M.dp (tU P T M) k' < P 3001 0 := by
      simp only [i_up]
      by_cases gk : k' = M.dp
      · rw [if_pos gk]; exact ⟨u0, u1⟩
      · rw [if_neg gk]
        by_cases g2 : k' = M.dp - 1
        · rw [g2]; exact ⟨m0, m1⟩
        · have := (ht.2.2.2 k' q0 (by omega)).2.1.1
          exact ⟨this.1, this.2.1⟩
    have hx20 := (hW.2.2.2 _ hm.1 hm.2).2.2.2.2.1.2
    simp only [i_cl, up2]
    by_cases gk : k' = M.dp
    · subst gk
      rw [if_pos (by omega), if_pos rfl, show 20 * M.dp + x - 20 * M.dp = x by omega]
      by_cases gx : x < caL P (tT P M)
      · rw [if_pos gx, if_pos gx, show 10 * (M.dp - 1) + (tn T M - caL P (tT P M)) + x = 10 * (M.dp - 1) + (tn T M - caL P (tT P M) + x) by omega]
        exact hsk _ (by omega) (by omega)
      · rw [if_neg gx, if_neg gx]
    · rw [if_neg (by omega), if_neg gk]
      simp only [i_up, if_neg gk] at w1
      exact (hs k' q0 (by omega)).2 x w0 w1
  · unfold RRo at ho ⊢
    rw [ae 10086 (by simp), ae 10087 (by simp), ae 10088 (by simp)]
    exact ho
end RST5
