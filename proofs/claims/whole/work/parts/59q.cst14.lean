section CST14
variable {σ σ' τ : j3_S} {P : Pg} {T : Int → Fl} {M : Mc} {d : Nat} {Q : j3_P} {k i j x v h' : Int} {s : Int → Int} {o : Nat}
theorem c_20 (B : cBd σ o P T M) (hc : tO P M = 20 ∨ tO P M = 21) : cSt P T M σ := by
  obtain ⟨⟨k0, k1, k2, k3, k4⟩, ⟨n0, n1, hh, hsk⟩, -, m0, m1⟩ := B.f
  have ht := B.2.2.2.1
  have hg := B.1.1
  have hW := hg.1
  have hd := ht.1
  have hE := B.2.2.1
  have hB := hE.2.1 (by rw [B.2.2.2.2]; decide)
  obtain ⟨hs, hl, ho⟩ := hE.2.2 B.2.2.2.2
  obtain ⟨⟨t0, t1, t15, t13⟩, ⟨c0, c1, c2⟩, h21, hr, hu⟩ := call_f hg B.1.2 ht hc
  have hS : stp P M = if P 3013 (tT P M) = 0 ∧ M.sk (M.dp - 1) (tn T M - caL P (tT P M)) = 0 then M.tp 1 else if M.dp = 40 then M.tp 5 else ((M.dp + 1, i_up M.me M.dp (tU P T M), i_up M.pc M.dp 0, i_up (i_up M.ht (M.dp - 1) (tn T M - caL P (tT P M))) M.dp 0, up2 M.lo M.dp (fun x => if x < caL P (tT P M) then M.sk (M.dp - 1) (tn T M - caL P (tT P M) + x) else 0), M.sk), M.2.1, M.en, M.tr, M.ou, M.ov, if M.mx < M.dp + 1 then M.dp + 1 else M.mx) := by
    rw [stp_e ht]
    unfold stO
    rw [if_neg (by omega), if_neg (by omega), if_neg (by omega), if_neg (by omega), if_neg (by omega), if_neg (by omega), if_neg (by omega), if_neg (by omega), if_neg (by omega), if_neg (by omega), if_neg (by omega), if_neg (by omega), if_neg (by omega), if_neg (by omega), if_neg (by omega), if_pos (by omega)]
  have tr : ∀ c, CR (trC σ c) P T (M.tp c) := by
    intro c
    refine hE.tp B.2.2.2.2 c ⟨by simp [trC, j3_up], by simp [trC, j3_up], by simp [trC, j3_up]⟩ (fun e he => ?_) ⟨by simp [trC, j3_ast, j3_up, i_up], by simp [trC, j3_ast, j3_up, i_up], by simp [trC, j3_ast, j3_up, i_up]⟩
    simp at he
    rcases he with rfl | rfl | rfl <;> simp [trC, j3_ast, j3_up]
  by_cases g : P 3013 (tT P M) = 0 ∧ M.sk (M.dp - 1) (tn T M - caL P (tT P M)) = 0
  · exact ⟨trC σ 1, by rw [hS, if_pos g]; exact tr 1, fmC.I rfl (fmC.A rfl fmC.rf), via38 B hc (fun d Q hQ => (x38 B hc).1 g hQ)⟩
  obtain ⟨u0, u1, l1, l2, l3, l4⟩ := hu g
  by_cases g4 : M.dp = 40
  · exact ⟨trC σ 5, by rw [hS, if_neg g, if_pos g4]; exact tr 5, fmC.I rfl (fmC.A rfl fmC.rf), via38 B hc (fun d Q hQ => (x38 B hc).2 g (fun w7 => (x70 B u0 (by omega) (by omega) c0 c1).1 g4 hQ))⟩
  generalize hτ : clC σ (M.dp - 1) (tn T M - caL P (tT P M)) (caL P (tT P M)) (tU P T M) = τ
  have kk : M.dp - 1 + 1 = M.dp := by omega
  have a0 : τ.1 = j3_up σ.1 2007 109 (M.dp + 1) := by rw [← hτ]; simp only [clC, kk]
  have a8 : τ.2.2 2008 109 = i_up (σ.2.2 2008 109) M.dp (tU P T M) := by rw [← hτ]; simp [clC, kk, j3_acp, j3_ast, j3_up]
  have a9 : τ.2.2 2009 109 = i_up (σ.2.2 2009 109) M.dp 0 := by rw [← hτ]; simp [clC, kk, j3_acp, j3_ast, j3_up]
  have a10 : τ.2.2 2010 109 = i_up (i_up (σ.2.2 2010 109) (M.dp - 1) (tn T M - caL P (tT P M))) M.dp 0 := by rw [← hτ]; simp [clC, kk, j3_acp, j3_ast, j3_up]
  have a11 : τ.2.2 2011 109 = i_cp (σ.2.2 2011 109) (σ.2.2 2011 109) ((M.dp - 1) * 30 + 20 + (tn T M - caL P (tT P M))) (M.dp * 30) (caL P (tT P M)) := by rw [← hτ]; simp [clC, kk, j3_acp, j3_ast, j3_up]
  have a1 : τ.2.2 2001 109 = i_up (σ.2.2 2001 109) 6 (if σ.2.2 2001 109 6 < M.dp + 1 then M.dp + 1 else σ.2.2 2001 109 6) := by rw [← hτ]; simp [clC, kk, j3_acp, j3_ast, j3_up]
  have ae : ∀ e, e = 2002 ∨ e = 2013 ∨ e = 2014 ∨ e = 2015 → τ.2.2 e 109 = σ.2.2 e 109 := by
    intro e he
    rw [← hτ]
    rcases he with rfl | rfl | rfl | rfl <;> simp [clC, j3_acp, j3_ast, j3_up]
  refine ⟨τ, ?_, by rw [← hτ]; exact fmC.I rfl (fmC.A rfl (fmC.A rfl (fmC.A rfl (fmC.A rfl (fmC.A rfl (fmC.A rfl fmC.rf)))))), via38 B hc (fun d Q hQ => (x38 B hc).2 g (fun w7 => (x70 B u0 (by omega) (by omega) c0 c1).2 g4 (by rw [hτ]; exact hQ)))⟩
  rw [hS, if_neg g, if_neg g4]
  obtain ⟨⟨e1, e2, e3, e4⟩, e5, e6, e7⟩ := hE.1
  have h10 := ht.h10 hW B.1.2
  have rcu : rcv P (tU P T M) = rcv P (tT P M) := by unfold rcv; rw [l1]
  obtain ⟨-, TL⟩ := tyC_0 B.1.2 u0 u1
  refine ⟨⟨⟨?_, ?_, ?_, ?_⟩, ?_, e6, ?_⟩, fun _ => ⟨?_, fun k' q0 q1 => ?_⟩, fun _ => ⟨fun k' q0 q1 => ?_, fun k' x q0 q1 x0 x1 hx => ?_, ?_⟩⟩
  · rw [a0, up_e (show ((2006 : Nat) == 2007) = false from rfl)]; exact e1
  · rw [a0, up_e (show ((2012 : Nat) == 2007) = false from rfl)]; exact e2
  · rw [a1]; exact e3
  · rw [a1]
    show (if σ.2.2 2001 109 6 < M.dp + 1 then M.dp + 1 else σ.2.2 2001 109 6) = _
    rw [e4]
  · rw [a1]; exact e5
  · rw [ae 2002 (by simp)]; exact e7
  · rw [a0, up_r]
  · have q1 : k' < M.dp + 1 := q1
    rw [a8, a9]
    show i_up _ M.dp (tU P T M) k' = i_up M.me M.dp (tU P T M) k' ∧ i_up _ M.dp 0 k' = i_up M.pc M.dp 0 k'
    simp only [i_up]
    by_cases gk : k' = M.dp
    · simp only [if_pos gk]; exact ⟨trivial, trivial⟩
    · simp only [if_neg gk]; exact hB.2 k' q0 (by omega)
  · have q1 : k' < M.dp + 1 := q1
    rw [a10, a11]
    show i_up (i_up _ (M.dp - 1) _) M.dp 0 k' = i_up (i_up M.ht (M.dp - 1) (tn T M - caL P (tT P M))) M.dp 0 k' ∧ ∀ j, 0 ≤ j → j < i_up (i_up M.ht (M.dp - 1) (tn T M - caL P (tT P M))) M.dp 0 k' → i_cp _ _ _ _ _ (k' * 30 + 20 + j) = M.sk k' j
    simp only [i_up, i_cp]
    by_cases gk : k' = M.dp
    · simp only [if_pos gk]
      exact ⟨trivial, fun j j0 j1 => absurd j1 (by omega)⟩
    · simp only [if_neg gk]
      have hk := h10 k' q0 (by omega)
      by_cases gk2 : k' = M.dp - 1
      · simp only [if_pos gk2]
        refine ⟨trivial, fun j j0 j1 => ?_⟩
        rw [if_neg (by omega), gk2]
        exact hsk j j0 (by omega)
      · simp only [if_neg gk2]
        obtain ⟨s1, s2⟩ := hs k' q0 (by omega)
        refine ⟨s1, fun j j0 j1 => ?_⟩
        rw [if_neg (by omega)]
        exact s2 j j0 j1
  · have q1 : k' < M.dp + 1 := q1
    have x1 : x < P 3017 (i_up M.me M.dp (tU P T M) k') := x1
    have hx : ¬ (T (i_up M.me M.dp (tU P T M) k')).2.2 (i_up M.pc M.dp 0 k') x = 0 := hx
    show τ.2.2 2011 109 (k' * 30 + x) = up2 M.lo M.dp (fun x => if x < caL P (tT P M) then M.sk (M.dp - 1) (tn T M - caL P (tT P M) + x) else 0) k' x
    rw [a11]
    by_cases gk : k' = M.dp
    · subst gk
      simp only [i_up, if_true] at x1 hx
      simp only [up2, if_true, i_cp]
      have ac : caL P (tT P M) = P 3015 (tT P M) + rcv P (tT P M) := rfl
      have xl : x < caL P (tT P M) := by
        by_cases gx : x < caL P (tT P M)
        · exact gx
        · have := TL x x0 x1
          unfold ini at this
          rw [rcu, l3, if_neg (by omega), if_neg (by omega)] at this
          exact absurd (sbt_n this) hx
      rw [if_pos (by omega), if_pos xl]
      rw [show (M.dp - 1) * 30 + 20 + (tn T M - caL P (tT P M)) + (M.dp * 30 + x - M.dp * 30) = (M.dp - 1) * 30 + 20 + (tn T M - caL P (tT P M) + x) by omega]
      exact hsk _ (by omega) (by omega)
    · simp only [i_up, if_neg gk] at x1 hx
      simp only [up2, if_neg gk, i_cp]
      have hm : 0 ≤ M.me k' ∧ M.me k' < P 3001 0 := by
        by_cases g5 : k' = M.dp - 1
        · rw [g5]; exact ⟨m0, m1⟩
        · have := (ht.2.2.2 k' q0 (by omega)).2.1.1
          exact ⟨this.1, this.2.1⟩
      have hx20 := (hW.2.2.2 _ hm.1 hm.2).2.2.2.2.1.2
      rw [if_neg (by omega)]
      exact hl k' x q0 (by omega) x0 x1 hx
  · unfold CRo at ho ⊢
    rw [ae 2013 (by simp), ae 2014 (by simp), ae 2015 (by simp)]
    exact ho
end CST14
