/-! the class's step: STORE, DUP, OUT -/
section CST3
variable {σ σ' τ : j3_S} {P : Pg} {T : Int → Fl} {M : Mc} {d : Nat} {Q : j3_P} {k i j x v h' : Int} {s : Int → Int} {o : Nat}
theorem CRs.g2 (h : CRs σ M) (f1 : σ'.2.2 2010 109 k = h') (f2 : ∀ k', ¬ k' = k → σ'.2.2 2010 109 k' = σ.2.2 2010 109 k') (f3 : ∀ k' q, 0 ≤ k' → ¬ k' = k → 0 ≤ q → q < 10 → σ'.2.2 2011 109 (k' * 30 + 20 + q) = σ.2.2 2011 109 (k' * 30 + 20 + q)) (hl : ∀ k', 0 ≤ k' → k' < M.dp → M.ht k' ≤ 10) (f4 : ∀ q, 0 ≤ q → q < h' → σ'.2.2 2011 109 (k * 30 + 20 + q) = s q) : CRs σ' (M.go k h' s j) := by
  intro k' a0 a1
  show σ'.2.2 2010 109 k' = i_up M.ht k h' k' ∧ ∀ q, 0 ≤ q → q < i_up M.ht k h' k' → σ'.2.2 2011 109 (k' * 30 + 20 + q) = up2 M.sk k s k' q
  simp only [i_up, up2]
  by_cases g : k' = k
  · rw [if_pos g, if_pos g, g]
    exact ⟨f1, f4⟩
  · rw [if_neg g, if_neg g]
    have := hl k' a0 a1
    obtain ⟨h1, h2⟩ := h k' a0 a1
    refine ⟨(f2 k' g).trans h1, fun q q0 q1 => ?_⟩
    rw [f3 k' q a0 g q0 (by omega)]
    exact h2 q q0 q1
theorem c_3 (B : cBd σ o P T M) (hop : tO P M = 3) : cSt P T M σ := by
  obtain ⟨⟨k0, k1, k2, k3, k4⟩, ⟨n0, n1, hh, hsk⟩, ⟨hi, i0, i1⟩, m0, m1⟩ := B.f
  have w1 : ((wl P (tm M) (tO P M) (tA P M) (tB P M)).length : Int) = 1 := by rw [hop]; rfl
  obtain ⟨z1, -⟩ := B.z w1
  have ht := B.2.2.2.1
  have hW := B.1.1.1
  have hT := B.1.2
  have ra := (ht.ik hW).2.2.1 (Or.inr hop)
  have hn20 := (hW.2.2.2 (tm M) m0 m1).2.2.2.2.1.2
  have hE := B.2.2.1
  obtain ⟨hs, hl, ho⟩ := hE.2.2 B.2.2.2.2
  generalize hτ : ((σ.1, σ.2.1, j3_ast (poC σ (M.dp - 1) (tn T M)).2.2 2011 109 ((M.dp - 1) * 30 + tA P M) (M.sk (M.dp - 1) (tn T M - 1))) : j3_S) = τ
  have t1 : τ.1 = σ.1 := by rw [← hτ]
  have t2 : ∀ e, [2001, 2002, 2008, 2009, 2013, 2014, 2015].elem e = true → τ.2.2 e 109 = σ.2.2 e 109 := by
    intro e he
    rw [← hτ]
    simp at he
    rcases he with rfl | rfl | rfl | rfl | rfl | rfl | rfl <;> simp [poC, j3_ast, j3_up]
  have t3 : τ.2.2 2010 109 = i_up (σ.2.2 2010 109) (M.dp - 1) (tn T M - 1) := by rw [← hτ]; simp [poC, j3_ast, j3_up]
  have t4 : τ.2.2 2011 109 = i_up (σ.2.2 2011 109) ((M.dp - 1) * 30 + tA P M) (M.sk (M.dp - 1) (tn T M - 1)) := by rw [← hτ]; simp [poC, j3_ast, j3_up]
  have fτ : fmC σ τ := by rw [← hτ]; exact fmC.A rfl (fmC.A rfl fmC.rf)
  refine ⟨nxC τ (M.dp - 1) (ti M), ?_, fmC.A rfl fτ, ?_⟩
  · rw [stp_e ht]
    unfold stO
    rw [if_neg (by omega), if_neg (by omega), if_neg (by omega), if_pos hop]
    have u1 : ∀ e, ¬ e = 2009 → (nxC τ (M.dp - 1) (ti M)).2.2 e 109 = τ.2.2 e 109 := fun e he => up_e (by simpa using he)
    refine ⟨?_, fun _ => ?_, fun _ => ⟨?_, fun k' x a0 a1 x0 x1 hx => ?_, ?_⟩⟩
    · have := hE.1
      unfold CRa at this ⊢
      rw [show (nxC τ (M.dp - 1) (ti M)).1 = σ.1 from t1, u1 2001 (by decide), u1 2002 (by decide), t2 2001 rfl, t2 2002 rfl]
      exact this
    · exact ((hE.2.1 (by rw [B.2.2.2.2]; decide)).g (σ' := nxC τ (M.dp - 1) (ti M)) (by rw [show (nxC τ (M.dp - 1) (ti M)).1 = σ.1 from t1]) (by rw [u1 2008 (by decide), t2 2008 rfl]) (by simp only [nxC, j3_ast, up_r]; rw [t2 2009 rfl]) : CRb _ (M.go (M.dp - 1) (tn T M - 1) (M.sk (M.dp - 1)) (ti M + 1)))
    · refine (hs.g2 (σ' := nxC τ (M.dp - 1) (ti M)) ?_ (fun k' hk => ?_) (fun k' q a0 hk q0 q1 => ?_) (fun k' a b => (ht.h10 hW hT k' a b).1) (fun q q0 q1 => ?_) : CRs _ (M.go (M.dp - 1) (tn T M - 1) (M.sk (M.dp - 1)) (ti M + 1)))
      · rw [u1 2010 (by decide), t3]; simp only [i_up, if_true]
      · rw [u1 2010 (by decide), t3]; simp only [i_up, if_neg hk]
      · rw [u1 2011 (by decide), t4]; simp only [i_up]; rw [if_neg (by omega)]
      · rw [u1 2011 (by decide), t4]; simp only [i_up]; rw [if_neg (by omega)]
        exact hsk q q0 (by omega)
    · have x1 : x < P 3017 (M.me k') := x1
      have a1 : k' < M.dp := a1
      have hx : ¬ (T (M.me k')).2.2 (i_up M.pc (M.dp - 1) (ti M + 1) k') x = 0 := hx
      show (nxC τ (M.dp - 1) (ti M)).2.2 2011 109 (k' * 30 + x) = up2 M.lo (M.dp - 1) (i_up (M.lo (M.dp - 1)) (tA P M) (M.sk (M.dp - 1) (tn T M - 1))) k' x
      rw [u1 2011 (by decide), t4]
      simp only [i_up, up2]
      by_cases g : k' = M.dp - 1
      · subst g
        simp only [i_up, if_true] at hx
        have sx := set_nx hT ht (Or.inl ⟨rfl, by rw [hop]; rfl⟩) x x0 x1 hx
        unfold exl at sx
        rw [if_pos hop, w1] at sx
        simp only [i_up] at sx
        rw [if_pos rfl]
        simp only [i_up]
        by_cases gx : x = tA P M
        · rw [if_pos (by omega), if_pos gx]
        · rw [if_neg gx] at sx
          rw [if_neg (by omega), if_neg gx]
          exact hl _ x a0 a1 x0 x1 sx
      · simp only [i_up, if_neg g] at hx
        have hm : 0 ≤ M.me k' ∧ M.me k' < P 3001 0 := by
          have := (ht.2.2.2 k' a0 (by omega)).2.1.1
          exact ⟨this.1, this.2.1⟩
        have hx20 := (hW.2.2.2 _ hm.1 hm.2).2.2.2.2.1.2
        rw [if_neg (by omega), if_neg g]
        exact hl k' x a0 a1 x0 x1 hx
    · unfold CRo at ho ⊢
      rw [u1 2013 (by decide), u1 2014 (by decide), u1 2015 (by decide), t2 2013 rfl, t2 2014 rfl, t2 2015 rfl]
      exact ho
  · have := via31 (τ := τ) B (by rw [hop]; rfl) (by omega) (by omega) (by omega) (by rw [t2 2009 rfl]; exact hi) (fun d Q hQ => by
      rw [e31, b31_0, if_neg (by omega), if_neg (by omega), if_neg (by omega), if_pos hop, b31_19]
      refine cBd.po k2 k0 k1 hh (by omega) n1 ?_
      simp only [Option.toList_some, List.cons_append, List.nil_append]
      rw [hsk _ (by omega) (by omega), b31_26, b31_72, wr_id (by omega) (by omega)]
      refine ⟨by omega, ?_⟩
      rw [← hτ] at hQ
      exact hQ)
    rw [if_pos (show τ.1 2006 109 = -1 by rw [t1]; exact k3)] at this
    exact this
theorem c_5 (B : cBd σ o P T M) (hop : tO P M = 5) : cSt P T M σ := by
  obtain ⟨⟨k0, k1, k2, k3, k4⟩, ⟨n0, n1, hh, hsk⟩, ⟨hi, i0, i1⟩, m0, m1⟩ := B.f
  have w1 : ((wl P (tm M) (tO P M) (tA P M) (tB P M)).length : Int) = 1 := by rw [hop]; rfl
  obtain ⟨z1, z2⟩ := B.z w1
  have z3 : (gx P (tO P M) (tA P M) (tB P M) (ts T M) (tl T M) (tn T M - 1)).length = 2 := by rw [hop]; rfl
  rw [z3] at z2
  generalize hv : M.sk (M.dp - 1) (tn T M - 1) = v
  generalize hτ : psC (psC (poC σ (M.dp - 1) (tn T M)) (M.dp - 1) (tn T M - 1) v) (M.dp - 1) (tn T M) v = τ
  have t1 : τ.1 = σ.1 := by rw [← hτ]; rfl
  have t2 : ∀ e, [2001, 2002, 2008, 2009, 2013, 2014, 2015].elem e = true → τ.2.2 e 109 = σ.2.2 e 109 := by
    intro e he
    rw [← hτ]
    simp at he
    rcases he with rfl | rfl | rfl | rfl | rfl | rfl | rfl <;> simp [psC, poC, j3_ast, j3_up]
  have t3 : τ.2.2 2010 109 = i_up (i_up (i_up (σ.2.2 2010 109) (M.dp - 1) (tn T M - 1)) (M.dp - 1) (tn T M - 1 + 1)) (M.dp - 1) (tn T M + 1) := by rw [← hτ]; simp [psC, poC, j3_ast, j3_up]
  have t4 : τ.2.2 2011 109 = i_up (i_up (σ.2.2 2011 109) ((M.dp - 1) * 30 + 20 + (tn T M - 1)) v) ((M.dp - 1) * 30 + 20 + tn T M) v := by rw [← hτ]; simp [psC, poC, j3_ast, j3_up]
  have fτ : fmC σ τ := by rw [← hτ]; exact fmC.A rfl (fmC.A rfl (fmC.A rfl (fmC.A rfl (fmC.A rfl fmC.rf))))
  refine ⟨nxC τ (M.dp - 1) (ti M), ?_, fmC.A rfl fτ, ?_⟩
  · rw [stp_e B.2.2.2.1]
    unfold stO
    rw [if_neg (by omega), if_neg (by omega), if_neg (by omega), if_neg (by omega), if_neg (by omega), if_pos hop, hv]
    have u1 : ∀ e, ¬ e = 2009 → (nxC τ (M.dp - 1) (ti M)).2.2 e 109 = τ.2.2 e 109 := fun e he => up_e (by simpa using he)
    refine B.2.2.1.g B.1.1.1 B.1.2 B.2.2.2.1 B.2.2.2.2 t1 (fun e he => ?_) ?_ ?_ (fun k' hk => ?_) (fun z hz => ?_) (fun q q0 q1 => ?_) (by omega) (Or.inl ⟨rfl, by rw [hop]; rfl⟩)
    · have : ¬ e = 2009 := by
        rintro rfl
        simp at he
      rw [u1 e this]
      refine t2 e ?_
      simp at he ⊢
      omega
    · simp only [nxC, j3_ast, up_r]
      rw [t2 2009 rfl]
    · rw [u1 2010 (by decide), t3]; simp only [i_up, if_true]
    · rw [u1 2010 (by decide), t3]; simp only [i_up, if_neg hk]
    · rw [u1 2011 (by decide), t4]; simp only [i_up]; rw [if_neg (by omega), if_neg (by omega)]
    · rw [u1 2011 (by decide), t4]
      simp only [i_up]
      by_cases g : q = tn T M
      · rw [if_pos (by omega), if_pos g]
      · rw [if_neg (by omega), if_neg g]
        by_cases g2 : q = tn T M - 1
        · rw [if_pos (by omega), g2, hv]
        · rw [if_neg (by omega)]
          exact hsk q q0 (by omega)
  · have := via31 (τ := τ) B (by rw [hop]; rfl) (by omega) (by omega) (by omega) (by rw [t2 2009 rfl]; exact hi) (fun d Q hQ => by
      rw [e31, b31_0, if_neg (by omega), if_neg (by omega), if_neg (by omega), if_neg (by omega), if_neg (by omega), if_pos hop, b31_32]
      refine cBd.po k2 k0 k1 hh (by omega) n1 ?_
      simp only [Option.toList_some, List.cons_append, List.nil_append]
      rw [hsk _ (by omega) (by omega), hv, b31_34, s26 (σ := poC σ (M.dp - 1) (tn T M)) (k := M.dp - 1) (h := tn T M - 1) k2 k0 k1 (by simp [poC, j3_ast, j3_up, i_up]) (by omega) (by omega)]
      simp only [Option.toList_none, List.nil_append]
      rw [b31_38, s26 (σ := psC (poC σ (M.dp - 1) (tn T M)) (M.dp - 1) (tn T M - 1) v) (k := M.dp - 1) (h := tn T M) k2 k0 k1 (by simp [psC, poC, j3_ast, j3_up, i_up]) (by omega) (by omega)]
      simp only [Option.toList_none, List.nil_append]
      rw [b31_41, b31_72, hτ]
      exact hQ)
    rw [if_pos (show τ.1 2006 109 = -1 by rw [t1]; exact k3)] at this
    exact this
end CST3
