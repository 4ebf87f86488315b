/-! the class's step: RETURN -/
section CST10
variable {σ σ' τ : j3_S} {P : Pg} {T : Int → Fl} {M : Mc} {d : Nat} {Q : j3_P} {k i j x v h' : Int} {s : Int → Int} {o : Nat}
/-- a frame that waits -/
theorem low_f (hg : good P) (hT : typed P T) (h : TyM P T M) (k0 : 0 ≤ k) (k1 : k < M.dp - 1) : (∀ x, 0 ≤ x → x < P 3017 (M.me k) → ¬ (T (M.me k)).2.2 (M.pc k + 1) x = 0 → ¬ (T (M.me k)).2.2 (M.pc k) x = 0) ∧ (¬ P 3014 (clk0 P M k) = 0 → M.ht k + 1 ≤ 10) ∧ 0 ≤ M.ht k ∧ 0 ≤ M.pc k ∧ M.pc k < 120 ∧ P 3014 (M.me (k + 1)) = P 3014 (clk0 P M k) := by
  have hW := hg.1
  obtain ⟨c1, ⟨c2, c3, c4, c5⟩, c6⟩ := h.2.2.2 k k0 k1
  have hb := ((bnd_of hW).2.2.2 _ c2.1 c2.2.1).2.2
  obtain ⟨-, e1, x2, -⟩ := (hT _ c2.1 c2.2.1).2.2 _ c2.2.2.1 c2.2.2.2.1 c2.2.2.2.2
  have ik := (hW.2.2.2 _ c2.1 c2.2.1).2.2.2.2.2.2 _ c2.2.2.1 c2.2.2.2.1
  have h10 := h.h10 hW hT k k0 (by omega)
  obtain ⟨-, -, -, -, i4, -, i6⟩ := ik
  have c1' : P 1 (M.me k * 120 + M.pc k) = 20 ∨ P 1 (M.me k * 120 + M.pc k) = 21 := c1
  have ra := i4 (by omega)
  have rb := i6 (by omega)
  have hma := hW.2.1.2.2 _ ra.1 ra.2
  have ht : clk0 P M k = P 3007 (P 2 (M.me k * 120 + M.pc k)) + P 3 (M.me k * 120 + M.pc k) := rfl
  obtain ⟨-, -, -, ⟨w1, -⟩, -⟩ := hW.2.2.2 (clk0 P M k) (by omega) (by omega)
  have hwl : wl P (M.me k) (P 1 (M.me k * 120 + M.pc k)) (P 2 (M.me k * 120 + M.pc k)) (P 3 (M.me k * 120 + M.pc k)) = cw P (P 2 (M.me k * 120 + M.pc k)) (clk0 P M k) := by
    rw [ht]
    rcases c1' with g | g <;> (rw [g]; rfl)
  have hgx : ∀ q, gx P (P 1 (M.me k * 120 + M.pc k)) (P 2 (M.me k * 120 + M.pc k)) (P 3 (M.me k * 120 + M.pc k)) ((T (M.me k)).2.1 (M.pc k)) ((T (M.me k)).2.2 (M.pc k)) q = if P 3014 (clk0 P M k) = 0 then [] else [tyof (P 3014 (clk0 P M k) - 1)] := by
    intro q
    rw [ht]
    rcases c1' with g | g <;> (rw [g]; rfl)
  have hgo : gon (P 1 (M.me k * 120 + M.pc k)) = true := by rcases c1' with g | g <;> (rw [g]; rfl)
  have z := exf_z (wn := caL P (clk0 P M k)) e1 (by
    show ((wl P (M.me k) (P 1 (M.me k * 120 + M.pc k)) (P 2 (M.me k * 120 + M.pc k)) (P 3 (M.me k * 120 + M.pc k))).length : Int) = _
    rw [hwl]; exact cw_len w1)
  have z4 : (T (M.me k)).1 (M.pc k) - caL P (clk0 P M k) + ((if P 3014 (clk0 P M k) = 0 then [] else [tyof (P 3014 (clk0 P M k) - 1)] : List Int).length : Int) ≤ 10 := by
    rw [← hgx ((T (M.me k)).1 (M.pc k) - caL P (clk0 P M k))]
    exact z.2.2.2
  have y4 := (x2 hgo).2.2.2
  refine ⟨fun x x0 x1 hx hz => hx ?_, fun q => ?_, h10.2, c2.2.2.1, by omega, c6⟩
  · have := y4 x x0 x1
    have el : exl P (M.me k) ((cdP P (M.me k)).2.1 (M.pc k)) ((cdP P (M.me k)).2.2.1 (M.pc k)) ((cdP P (M.me k)).2.2.2 (M.pc k)) ((T (M.me k)).1 (M.pc k)) ((T (M.me k)).2.1 (M.pc k)) ((T (M.me k)).2.2 (M.pc k)) = (T (M.me k)).2.2 (M.pc k) := by
      have hne : ¬ (cdP P (M.me k)).2.1 (M.pc k) = 3 := by show ¬ P 1 (M.me k * 120 + M.pc k) = 3; omega
      unfold exl
      rw [if_neg hne]
    rw [el, hz] at this
    exact sbt_n this
  · rw [if_neg q] at z4
    have : (([tyof (P 3014 (clk0 P M k) - 1)] : List Int).length : Int) = 1 := rfl
    rw [c3]
    omega
/-- the frame goes; σ': what the class has then -/
theorem crT (B : cBd σ o P T M) (hd : ¬ M.dp = 1) (hM : (stp P M).1 = (M.dp - 1, M.me, i_up M.pc (M.dp - 1 - 1) (M.pc (M.dp - 1 - 1) + 1), (if P 3014 (tm M) = 0 then M.ht else i_up M.ht (M.dp - 1 - 1) (M.ht (M.dp - 1 - 1) + 1)), M.lo, (if P 3014 (tm M) = 0 then M.sk else up2 M.sk (M.dp - 1 - 1) (i_up (M.sk (M.dp - 1 - 1)) (M.ht (M.dp - 1 - 1)) v)))) (hM2 : (stp P M).2 = M.2) (f0 : σ'.1 2006 109 = -1 ∧ σ'.1 2007 109 = M.dp - 1 ∧ σ'.1 2012 109 = σ.1 2012 109) (f1 : ∀ e, [2001, 2002, 2008, 2013, 2014, 2015].elem e = true → σ'.2.2 e 109 = σ.2.2 e 109) (f2 : σ'.2.2 2009 109 = i_up (σ.2.2 2009 109) (M.dp - 1 - 1) (M.pc (M.dp - 1 - 1) + 1)) (f3 : ∀ k', k' < M.dp - 1 → σ'.2.2 2010 109 k' = if k' = M.dp - 1 - 1 ∧ ¬ P 3014 (tm M) = 0 then M.ht (M.dp - 1 - 1) + 1 else σ.2.2 2010 109 k') (f4 : ∀ z, σ'.2.2 2011 109 z = if z = (M.dp - 1 - 1) * 30 + 20 + M.ht (M.dp - 1 - 1) ∧ ¬ P 3014 (tm M) = 0 then v else σ.2.2 2011 109 z) : CR σ' P T (stp P M) := by
  have hdp := B.2.2.2.1.1
  have hE := B.2.2.1
  have hT := B.2.2.2.1
  have hW := B.1.1.1
  have hB := hE.2.1 (by rw [B.2.2.2.2]; decide)
  obtain ⟨hs, hl, ho⟩ := hE.2.2 B.2.2.2.2
  obtain ⟨w1, w2, w3, w4, w5, w6⟩ := low_f B.1.1 B.1.2 hT (k := M.dp - 1 - 1) (by omega) (by omega)
  rw [show M.dp - 1 - 1 + 1 = M.dp - 1 by omega] at w6
  have w6 : P 3014 (tm M) = P 3014 (clk0 P M (M.dp - 1 - 1)) := w6
  have h10 := hT.h10 hW B.1.2
  have hN : stp P M = ((M.dp - 1, M.me, i_up M.pc (M.dp - 1 - 1) (M.pc (M.dp - 1 - 1) + 1), (if P 3014 (tm M) = 0 then M.ht else i_up M.ht (M.dp - 1 - 1) (M.ht (M.dp - 1 - 1) + 1)), M.lo, (if P 3014 (tm M) = 0 then M.sk else up2 M.sk (M.dp - 1 - 1) (i_up (M.sk (M.dp - 1 - 1)) (M.ht (M.dp - 1 - 1)) v))), M.2) := Prod.ext hM hM2
  rw [hN]
  refine ⟨?_, fun _ => ⟨f0.2.1, fun k' a0 a1 => ?_⟩, fun _ => ⟨fun k' a0 a1 => ?_, fun k' x a0 a1 x0 x1 hx => ?_, ?_⟩⟩
  · have := hE.1
    unfold CRa at this ⊢
    rw [f0.1, f0.2.2, f1 2001 rfl, f1 2002 rfl]
    exact ⟨⟨B.2.2.2.2.symm, this.1.2⟩, this.2⟩
  · have a1 : k' < M.dp - 1 := a1
    rw [f1 2008 rfl, f2]
    refine ⟨(hB.2 k' a0 (by omega)).1, ?_⟩
    show i_up _ _ _ k' = i_up M.pc (M.dp - 1 - 1) (M.pc (M.dp - 1 - 1) + 1) k'
    simp only [i_up]
    by_cases g : k' = M.dp - 1 - 1
    · rw [if_pos g, if_pos g]
    · rw [if_neg g, if_neg g]
      exact (hB.2 k' a0 (by omega)).2
  · have a1 : k' < M.dp - 1 := a1
    show σ'.2.2 2010 109 k' = (if P 3014 (tm M) = 0 then M.ht else i_up M.ht (M.dp - 1 - 1) (M.ht (M.dp - 1 - 1) + 1)) k' ∧ ∀ q, 0 ≤ q → q < (if P 3014 (tm M) = 0 then M.ht else i_up M.ht (M.dp - 1 - 1) (M.ht (M.dp - 1 - 1) + 1)) k' → σ'.2.2 2011 109 (k' * 30 + 20 + q) = (if P 3014 (tm M) = 0 then M.sk else up2 M.sk (M.dp - 1 - 1) (i_up (M.sk (M.dp - 1 - 1)) (M.ht (M.dp - 1 - 1)) v)) k' q
    obtain ⟨s1, s2⟩ := hs k' a0 (by omega)
    have hk := h10 k' a0 (by omega)
    have hk2 := h10 (M.dp - 1 - 1) (by omega) (by omega)
    rw [f3 k' a1]
    by_cases g : P 3014 (tm M) = 0
    · simp only [if_pos g]
      rw [if_neg (fun z => z.2 g)]
      refine ⟨s1, fun q q0 q1 => ?_⟩
      rw [f4, if_neg (fun z => z.2 g)]
      exact s2 q q0 q1
    · simp only [if_neg g, i_up, up2]
      by_cases gk : k' = M.dp - 1 - 1
      · rw [if_pos ⟨gk, g⟩, if_pos gk, if_pos gk]
        refine ⟨rfl, fun q q0 q1 => ?_⟩
        rw [f4]
        simp only [i_up]
        by_cases gq : q = M.ht (M.dp - 1 - 1)
        · rw [if_pos ⟨by rw [gk, gq], g⟩, if_pos gq]
        · rw [if_neg (fun z => gq (by omega)), if_neg gq, gk]
          rw [gk] at s2
          exact s2 q q0 (by omega)
      · rw [if_neg (fun z => gk z.1), if_neg gk, if_neg gk]
        refine ⟨s1, fun q q0 q1 => ?_⟩
        rw [f4, if_neg (fun z => gk (by omega))]
        exact s2 q q0 q1
  · have a1 : k' < M.dp - 1 := a1
    have x1 : x < P 3017 (M.me k') := x1
    have hx : ¬ (T (M.me k')).2.2 (i_up M.pc (M.dp - 1 - 1) (M.pc (M.dp - 1 - 1) + 1) k') x = 0 := hx
    have hm := (hT.2.2.2 k' a0 (by omega)).2.1.1
    have hx20 := (hW.2.2.2 _ hm.1 hm.2.1).2.2.2.2.1.2
    have hk2 := h10 (M.dp - 1 - 1) (by omega) (by omega)
    rw [f4, if_neg (fun z => by omega)]
    refine hl k' x a0 (by omega) x0 x1 ?_
    by_cases g : k' = M.dp - 1 - 1
    · subst g
      simp only [i_up, if_true] at hx
      exact w1 x x0 x1 hx
    · simp only [i_up, if_neg g] at hx
      exact hx
  · unfold CRo at ho ⊢
    rw [f1 2013 rfl, f1 2014 rfl, f1 2015 rfl]
    exact ho
end CST10
