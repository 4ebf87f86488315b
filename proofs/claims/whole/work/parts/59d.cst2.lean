/-! the class's step: STORE, POP, DUP, OUT, TRAP -/
def cBd (σ : j3_S) (o : Nat) (P : Pg) (T : Int → Fl) (M : Mc) : Prop := (good P ∧ typed P T) ∧ (¬ o = 0 ∧ σ.2.1 1 = o ∧ CP σ o P ∧ ∀ c, 0 ≤ c → c < P 3000 0 → σ.2.2 3004 o c = P 3004 c) ∧ CR σ P T M ∧ TyM P T M ∧ M.en = -1
section CST2
variable {σ τ : j3_S} {P : Pg} {T : Int → Fl} {M : Mc} {d : Nat} {Q : j3_P} {k i j x v h' : Int} {s : Int → Int} {o : Nat}
theorem cBd.f (B : cBd σ o P T M) : (0 ≤ M.dp - 1 ∧ M.dp - 1 < 40 ∧ σ.1 2007 109 = M.dp - 1 + 1 ∧ σ.1 2006 109 = -1 ∧ σ.1 2012 109 = M.no) ∧ (0 ≤ tn T M ∧ tn T M ≤ 10 ∧ σ.2.2 2010 109 (M.dp - 1) = tn T M ∧ ∀ q, 0 ≤ q → q < tn T M → σ.2.2 2011 109 ((M.dp - 1) * 30 + 20 + q) = M.sk (M.dp - 1) q) ∧ (σ.2.2 2009 109 (M.dp - 1) = ti M ∧ 0 ≤ ti M ∧ ti M < 120) ∧ (0 ≤ tm M ∧ tm M < P 3001 0) := by
  obtain ⟨⟨hg, hT⟩, -, h, ht, he⟩ := B
  have hd := ht.1
  have hB := h.2.1 (by rw [he]; decide)
  have hs := (h.2.2 he).1 (M.dp - 1) (by omega) (by omega)
  rw [ht.hh] at hs
  have i1 : ti M < P 0 (tm M) := ht.2.2.1.1.2.2.2.1
  have hl := ((bnd_of hg.1).2.2.2 (tm M) ht.2.2.1.1.1 ht.2.2.1.1.2.1).2.2
  exact ⟨⟨by omega, by omega, by rw [hB.1]; omega, h.1.1.1.trans he, h.1.1.2.1⟩, ⟨ht.2.2.1.1.2.2.2.2, (ht.tI hT).1.1, hs⟩, ⟨(hB.2 _ (by omega) (by omega)).2, ht.2.2.1.1.2.2.1, by omega⟩, ht.2.2.1.1.1, ht.2.2.1.1.2.1⟩
theorem cBd.z {wn : Int} (B : cBd σ o P T M) (hw : ((wl P (tm M) (tO P M) (tA P M) (tB P M)).length : Int) = wn) : wn ≤ tn T M ∧ tn T M - wn + (gx P (tO P M) (tA P M) (tB P M) (ts T M) (tl T M) (tn T M - wn)).length ≤ 10 := by
  obtain ⟨⟨hg, hT⟩, -, h, ht, he⟩ := B
  obtain ⟨-, e1, -, -⟩ := ht.tI hT
  have := exf_z (wn := wn) e1 hw
  exact ⟨this.1, this.2.2.2⟩
theorem via31 (B : cBd σ o P T M) (hj : isj (tO P M) = false) (h2 : ¬ (20 ≤ tO P M ∧ tO P M ≤ 22)) (h6 : ¬ (6 ≤ tO P M ∧ tO P M ≤ 10)) (h16 : ¬ (16 ≤ tO P M ∧ tO P M ≤ 19)) (hτ : τ.2.2 2009 109 (M.dp - 1) = ti M) (hq : ∀ d (Q : j3_P), Q none τ → j3_tc false (d + 4) 31 [wO 2 109, wI (tO P M), wI (tA P M), wI ((M.dp - 1) * 30)] σ Q) : ∀ d (Q : j3_P), Q none (if τ.1 2006 109 = -1 then nxC τ (M.dp - 1) (ti M) else τ) → j3_tc false (d + 8) 28 [wO 2 109] σ Q := by
  intro d Q hQ
  obtain ⟨⟨k0, k1, k2, k3, -⟩, -, ⟨-, i0, i1⟩, -⟩ := B.f
  obtain ⟨⟨hg, hT⟩, ⟨b1, b2, b3, -⟩, h, ht, he⟩ := B
  refine c28s (d := d + 5) hg.1 b1 b2 b3 (h.2.1 (by rw [he]; decide)) ht (to31 hj h2 h6 h16 k0 k1 (hq (d + 3) _ ?_))
  simp only [Option.toList_none, List.nil_append]
  by_cases g : τ.1 2006 109 = -1
  · rw [if_pos g] at hQ
    exact t128 g k0 k1 hτ i0 i1 hQ
  · rw [if_neg g] at hQ
    rw [b28_128, if_neg g]
    exact hQ
theorem cBd.po {σ1 : j3_S} {n : Int} (hd : σ1.1 2007 109 = M.dp - 1 + 1) (k0 : 0 ≤ M.dp - 1) (k1 : M.dp - 1 < 40) (hh : σ1.2.2 2010 109 (M.dp - 1) = n) (n0 : 0 < n) (n1 : n ≤ 10) (hQ : Q (some (wI (σ1.2.2 2011 109 ((M.dp - 1) * 30 + 20 + (n - 1))))) (poC σ1 (M.dp - 1) n)) : j3_tc false (d + 1) 27 [wO 2 109] σ1 Q := by
  rw [s27 hd k0 k1 hh n0 n1]
  exact hQ
theorem CR.tp (h : CR σ P T M) (he : M.en = -1) (c : Int) (f0 : τ.1 2006 109 = 1 ∧ τ.1 2007 109 = σ.1 2007 109 ∧ τ.1 2012 109 = σ.1 2012 109) (f1 : ∀ e, [2002, 2008, 2009].elem e = true → τ.2.2 e 109 = σ.2.2 e 109) (f2 : τ.2.2 2001 109 2 = c ∧ τ.2.2 2001 109 3 = σ.2.2 2001 109 3 ∧ τ.2.2 2001 109 6 = σ.2.2 2001 109 6) : CR τ P T (M.tp c) := by
  obtain ⟨⟨⟨a1, a2, a3, a4⟩, a5⟩, b, -⟩ := h
  have b := b (by rw [he]; decide)
  refine ⟨⟨⟨f0.1, f0.2.2.trans a2, f2.1, f2.2.2.trans a4⟩, ?_⟩, fun _ => ?_, fun q => absurd (show (1 : Int) = -1 from q) (by decide)⟩
  · rw [f2.2.1, f1 2002 rfl]
    exact a5
  · unfold CRb
    rw [f0.2.1, f1 2008 rfl, f1 2009 rfl]
    exact b
theorem c_4 (B : cBd σ o P T M) (hop : tO P M = 4) : cSt P T M σ := by
  obtain ⟨⟨k0, k1, k2, k3, k4⟩, ⟨n0, n1, hh, hsk⟩, ⟨hi, i0, i1⟩, m0, m1⟩ := B.f
  obtain ⟨z1, -⟩ := B.z (wn := 1) (by rw [hop]; rfl)
  refine ⟨nxC (poC σ (M.dp - 1) (tn T M)) (M.dp - 1) (ti M), ?_, fmC.A rfl (fmC.A rfl fmC.rf), ?_⟩
  · rw [stp_e B.2.2.2.1]
    unfold stO
    rw [if_neg (by omega), if_neg (by omega), if_neg (by omega), if_neg (by omega), if_pos hop]
    refine crO B.1.1.1 B.1.2 B.2.2.1 B.2.2.2.1 B.2.2.2.2 (by omega) (Or.inl ⟨rfl, by rw [hop]; rfl⟩) (by omega) rfl (fun e he => ?_) ?_ ?_ (fun k' hk => ?_)
    · simp at he
      rcases he with rfl | rfl | rfl | rfl | rfl | rfl | rfl <;> simp [nxC, poC, j3_ast, j3_up]
    · simp [nxC, poC, j3_ast, j3_up]
    · simp [nxC, poC, j3_ast, j3_up, i_up]
    · simp [nxC, poC, j3_ast, j3_up, i_up, hk]
  · have := via31 (τ := poC σ (M.dp - 1) (tn T M)) B (by rw [hop]; rfl) (by omega) (by omega) (by omega) (by simp only [poC, j3_ast, up_e (show ((2009 : Nat) == 2010) = false from rfl)]; exact hi) (fun d Q hQ => by
      rw [e31, b31_0, if_neg (by omega), if_neg (by omega), if_neg (by omega), if_neg (by omega), if_pos hop, b31_28]
      refine cBd.po k2 k0 k1 hh (by omega) n1 ?_
      simp only [Option.toList_some, List.cons_append, List.nil_append]
      rw [b31_30, b31_72]
      exact hQ)
    rw [if_pos (show (poC σ (M.dp - 1) (tn T M)).1 2006 109 = -1 from k3)] at this
    exact this
theorem c_26 (B : cBd σ o P T M) (hop : tO P M = 26) : cSt P T M σ := by
  obtain ⟨⟨k0, k1, k2, k3, k4⟩, ⟨n0, n1, hh, hsk⟩, ⟨hi, i0, i1⟩, m0, m1⟩ := B.f
  refine ⟨trC σ 4, ?_, fmC.I rfl (fmC.A rfl fmC.rf), ?_⟩
  · rw [stp_e B.2.2.2.1]
    unfold stO
    rw [hop]
    refine B.2.2.1.tp B.2.2.2.2 4 ⟨by simp [trC, j3_up], by simp [trC, j3_up], by simp [trC, j3_up]⟩ (fun e he => ?_) ⟨by simp [trC, j3_ast, j3_up, i_up], by simp [trC, j3_ast, j3_up, i_up], by simp [trC, j3_ast, j3_up, i_up]⟩
    simp at he
    rcases he with rfl | rfl | rfl <;> simp [trC, j3_ast, j3_up]
  · have := via31 (τ := trC σ 4) B (by rw [hop]; rfl) (by omega) (by omega) (by omega) (by simp only [trC, j3_ast, up_e (show ((2009 : Nat) == 2001) = false from rfl)]; exact hi) (fun d Q hQ => by
      rw [e31, b31_0, hop]
      show T31 (d + 3) Q 69 _ _ _
      rw [b31_69, s25]
      simp only [Option.toList_none, List.nil_append]
      rw [b31_72]
      exact hQ)
    rw [if_neg (show ¬ (trC σ 4).1 2006 109 = -1 by simp [trC, j3_up])] at this
    exact this
end CST2
