/-! the class's step, by instructions -/
def nxC (σ : j3_S) (k i : Int) : j3_S := (σ.1, σ.2.1, j3_ast σ.2.2 2009 109 k (i + 1))
def jpC (σ : j3_S) (k j : Int) : j3_S := (σ.1, σ.2.1, j3_ast σ.2.2 2009 109 k j)
section CST
variable {σ σ' : j3_S} {P : Pg} {T : Int → Fl} {M : Mc} {d : Nat} {Q : j3_P} {k i j x v h' : Int} {s : Int → Int} {o : Nat}
theorem t128 {y op a b : Int} (he : σ.1 2006 109 = -1) (k0 : 0 ≤ k) (k1 : k < 40) (hi : σ.2.2 2009 109 k = i) (i0 : 0 ≤ i) (i1 : i < 120) (hQ : Q none (nxC σ k i)) : T28 d Q 128 [wO 2 109, wI k, wI y, wI op, wI a, wI b] [] σ := by
  rw [b28_128, if_pos he, hi, wr_id (by omega) (by omega)]
  exact ⟨by omega, by omega, hQ⟩
theorem to31 {k y op a b : Int} (hj : isj op = false) (h2 : ¬ (20 ≤ op ∧ op ≤ 22)) (h6 : ¬ (6 ≤ op ∧ op ≤ 10)) (h16 : ¬ (16 ≤ op ∧ op ≤ 19)) (k0 : 0 ≤ k) (k1 : k < 40) (h : j3_tc false d 31 [wO 2 109, wI op, wI a, wI (k * 30)] σ (fun r σ1 => T28 d Q 128 [wO 2 109, wI k, wI y, wI op, wI a, wI b] (r.toList ++ []) σ1)) : T28 d Q 58 [wO 2 109, wI k, wI y, wI op, wI a, wI b] [wI (b2i (isj op))] σ := by
  have t : T28 d Q 109 [wO 2 109, wI k, wI y, wI op, wI a, wI b] [] σ := by
    rw [b28_109]
    by_cases g : op < 16
    · rw [if_pos g, b28_121, wr_id (by omega) (by omega)]; exact h
    · rw [if_neg g, if_pos (by omega), b28_121, wr_id (by omega) (by omega)]; exact h
  rw [hj, b28_58, if_pos (show b2i false = 0 from rfl), if_neg (by omega), if_neg (by omega), if_neg (by omega)]
  by_cases g : op < 6
  · rw [if_pos g]; exact t
  · rw [if_neg g, if_pos (by omega)]; exact t
/-- a value comes -/
theorem crP (hW : WFp P) (hT : typed P T) (h : CR σ P T M) (ht : TyM P T M) (he : M.en = -1) (h3 : ¬ tO P M = 3) (hg : gon (tO P M) = true) (hn : tn T M < 10) : CR (nxC (psC σ (M.dp - 1) (tn T M) v) (M.dp - 1) (ti M)) P T (M.go (M.dp - 1) (tn T M + 1) (i_up (M.sk (M.dp - 1)) (tn T M) v) (ti M + 1)) := by
  have hd := ht.1
  have hs := (h.2.2 he).1 (M.dp - 1) (by omega) (by omega)
  rw [ht.hh] at hs
  have n0 : 0 ≤ tn T M := ht.2.2.1.1.2.2.2.2
  refine h.g hW hT ht he rfl (fun e he => ?_) ?_ ?_ (fun k' hk => ?_) (fun z hz => ?_) (fun q q0 q1 => ?_) h3 (Or.inl ⟨rfl, hg⟩)
  · simp at he
    rcases he with rfl | rfl | rfl | rfl | rfl | rfl <;> simp [nxC, psC, j3_ast, j3_up]
  · simp [nxC, psC, j3_ast, j3_up]
  · simp [nxC, psC, j3_ast, j3_up, i_up]
  · simp [nxC, psC, j3_ast, j3_up, i_up, hk]
  · have : ¬ z = (M.dp - 1) * 30 + 20 + tn T M := by omega
    simp only [nxC, psC, j3_ast, up_r, up_e (show ((2011 : Nat) == 2009) = false from rfl), up_e (show ((2011 : Nat) == 2010) = false from rfl), i_up, if_neg this]
  · simp only [nxC, psC, j3_ast, up_r, up_e (show ((2011 : Nat) == 2009) = false from rfl), up_e (show ((2011 : Nat) == 2010) = false from rfl), i_up]
    by_cases g : q = tn T M
    · rw [if_pos (by omega), if_pos g]
    · rw [if_neg (by omega), if_neg g]
      exact hs.2 q q0 (by omega)
/-- w values go -/
theorem crO {w : Int} (hW : WFp P) (hT : typed P T) (h : CR σ P T M) (ht : TyM P T M) (he : M.en = -1) (h3 : ¬ tO P M = 3) (hp : (j = ti M + 1 ∧ gon (tO P M) = true) ∨ (j = tA P M ∧ isj (tO P M) = true)) (w0 : 0 ≤ w) (f0 : σ'.1 = σ.1) (f1 : ∀ e, [2001, 2002, 2008, 2011, 2013, 2014, 2015].elem e = true → σ'.2.2 e 109 = σ.2.2 e 109) (f2 : σ'.2.2 2009 109 = i_up (σ.2.2 2009 109) (M.dp - 1) j) (f3 : σ'.2.2 2010 109 (M.dp - 1) = tn T M - w) (f4 : ∀ k', ¬ k' = M.dp - 1 → σ'.2.2 2010 109 k' = σ.2.2 2010 109 k') : CR σ' P T (M.go (M.dp - 1) (tn T M - w) (M.sk (M.dp - 1)) j) := by
  have hd := ht.1
  have hs := (h.2.2 he).1 (M.dp - 1) (by omega) (by omega)
  rw [ht.hh] at hs
  refine h.g hW hT ht he f0 (fun e he => f1 e ?_) f2 f3 f4 (fun z hz => by rw [f1 2011 rfl]) (fun q q0 q1 => ?_) h3 hp
  · simp at he ⊢
    omega
  · rw [f1 2011 rfl]
    exact hs.2 q q0 (by omega)
/-- what a step of the class is -/
def fmC (σ σ' : j3_S) : Prop := frm cmI cmA σ σ' ∧ σ'.2.2 2001 109 4 = σ.2.2 2001 109 4
theorem fmC.rf : fmC σ σ := ⟨frm.rf, rfl⟩
theorem fmC.tr {σ'' : j3_S} (h : fmC σ σ') (h' : fmC σ' σ'') : fmC σ σ'' := ⟨h.1.tr h'.1, h'.2.trans h.2⟩
theorem fmC.I {e o : Nat} {v : Int} {f : Nat → Nat → Int} {A : Nat → Nat → Int → Int} {p : Nat → Nat} (he : cmI.elem e = true) (h : fmC σ (f, p, A)) : fmC σ (j3_up f e o v, p, A) := ⟨frm.I he h.1, h.2⟩
theorem fmC.A {e : Nat} {v : Int → Int} {f : Nat → Nat → Int} {A : Nat → Nat → Int → Int} {p : Nat → Nat} (he : cmA.elem e = true) (h : fmC σ (f, p, A)) (hv : (e == 2001) = false ∨ v 4 = A 2001 109 4 := by first | exact Or.inl rfl | exact Or.inr rfl) : fmC σ (f, p, j3_up A e 109 v) := by
  refine ⟨frm.A he h.1, ?_⟩
  show j3_up A e 109 v 2001 109 4 = _
  by_cases g : e = 2001
  · subst g
    rw [up_r]
    rcases hv with q | q
    · cases q
    · exact q.trans h.2
  · rw [up_e (show (2001 == e) = false by simp; omega)]
    exact h.2
def cSt (P : Pg) (T : Int → Fl) (M : Mc) (σ : j3_S) : Prop := ∃ σ', CR σ' P T (stp P M) ∧ fmC σ σ' ∧ ∀ d (Q : j3_P), Q none σ' → j3_tc false (d + 8) 28 [wO 2 109] σ Q
theorem stp_e (h : TyM P T M) : stp P M = stO P M (M.dp - 1) (tm M) (ti M) (tO P M) (tA P M) (tB P M) (tn T M) (M.sk (M.dp - 1)) := by
  have : stp P M = stO P M (M.dp - 1) (tm M) (ti M) (tO P M) (tA P M) (tB P M) (M.ht (M.dp - 1)) (M.sk (M.dp - 1)) := rfl
  rw [this, h.hh]
theorem c_0 (hg : good P) (hT : typed P T) (ho : ¬ o = 0) (hp : σ.2.1 1 = o) (hC : CP σ o P) (h : CR σ P T M) (ht : TyM P T M) (he : M.en = -1) (hop : tO P M = 0 ∨ tO P M = 1 ∨ tO P M = 2) : cSt P T M σ := by
  have hW := hg.1
  have hd := ht.1
  obtain ⟨-, e1, -, -⟩ := ht.tI hT
  have e1 : exf P (tm M) (tO P M) (tA P M) (tB P M) (tn T M) (ts T M) (tl T M) = 0 := e1
  have w0 : ((wl P (tm M) (tO P M) (tA P M) (tB P M)).length : Int) = 0 := by rcases hop with g | g | g <;> (rw [g]; rfl)
  obtain ⟨z1, z2, z3, z4⟩ := exf_z e1 w0
  have z5 : (gx P (tO P M) (tA P M) (tB P M) (ts T M) (tl T M) (tn T M - 0)).length = 1 := by rcases hop with g | g | g <;> (rw [g]; rfl)
  rw [z5] at z4
  have n0 : 0 ≤ tn T M := z1
  have hB := h.2.1 (by rw [he]; decide)
  have hs := (h.2.2 he).1 (M.dp - 1) (by omega) (by omega)
  rw [ht.hh] at hs
  have hi : σ.2.2 2009 109 (M.dp - 1) = ti M := (hB.2 _ (by omega) (by omega)).2
  have i0 : 0 ≤ ti M := ht.2.2.1.1.2.2.1
  have i1 : ti M < P 0 (tm M) := ht.2.2.1.1.2.2.2.1
  have hl := ((bnd_of hW).2.2.2 (tm M) ht.2.2.1.1.1 ht.2.2.1.1.2.1).2.2
  have ik := ht.ik hW
  have hgo : gon (tO P M) = true := by rcases hop with g | g | g <;> (rw [g]; rfl)
  have hnj : isj (tO P M) = false := by rcases hop with g | g | g <;> (rw [g]; rfl)
  have hk : σ.1 2007 109 = M.dp - 1 + 1 := by rw [hB.1]; omega
  have key : ∀ v, stp P M = M.go (M.dp - 1) (tn T M + 1) (i_up (M.sk (M.dp - 1)) (tn T M) v) (ti M + 1) → (∀ d (Q : j3_P), Q none (psC σ (M.dp - 1) (tn T M) v) → j3_tc false (d + 4) 31 [wO 2 109, wI (tO P M), wI (tA P M), wI ((M.dp - 1) * 30)] σ Q) → cSt P T M σ := by
    intro v hv hq
    refine ⟨nxC (psC σ (M.dp - 1) (tn T M) v) (M.dp - 1) (ti M), ?_, fmC.A rfl (fmC.A rfl (fmC.A rfl fmC.rf)), fun d Q hQ => ?_⟩
    · rw [hv]
      exact crP hW hT h ht he (by omega) hgo (by omega)
    · refine c28s (d := d + 5) hW ho hp hC hB ht (to31 hnj (by omega) (by omega) (by omega) (by omega) (by omega) (hq (d + 3) _ ?_))
      simp only [Option.toList_none, List.nil_append]
      exact t128 (h.1.1.1.trans he) (by omega) (by omega) (by simp only [psC, j3_ast, up_e (show ((2009 : Nat) == 2010) = false from rfl), up_e (show ((2009 : Nat) == 2011) = false from rfl)]; exact hi) i0 (by omega) hQ
  have pu : ∀ (d : Nat) (Q : j3_P) v, Q none (psC σ (M.dp - 1) (tn T M) v) → j3_tc false (d + 1) 26 [wO 2 109, wI v] σ Q := by
    intro d Q v hQ
    rw [s26 hk (by omega) (by omega) hs.1 n0 (by omega)]
    exact hQ
  rcases hop with g | g | g
  · refine key (tA P M) (by rw [stp_e ht]; unfold stO; rw [if_pos g]) (fun d Q hQ => ?_)
    rw [e31, b31_0, if_pos g, b31_2]
    refine pu _ _ _ ?_
    simp only [Option.toList_none, List.nil_append]
    rw [b31_5, b31_72]
    exact hQ
  · refine key 0 (by rw [stp_e ht]; unfold stO; rw [if_neg (by omega), if_pos g]) (fun d Q hQ => ?_)
    rw [e31, b31_0, if_neg (by omega), if_pos g, b31_6]
    refine pu _ _ _ ?_
    simp only [Option.toList_none, List.nil_append]
    rw [b31_9, b31_72]
    exact hQ
  · have ra := ik.2.2.1 (Or.inl g)
    have hn20 := (hW.2.2.2 (tm M) ht.2.2.1.1.1 ht.2.2.1.1.2.1).2.2.2.2.1.2
    have hlo : σ.2.2 2011 109 ((M.dp - 1) * 30 + tA P M) = M.lo (M.dp - 1) (tA P M) := (h.2.2 he).2.1 (M.dp - 1) (tA P M) (by omega) (by omega) ra.1 ra.2 (z3 g)
    refine key (M.lo (M.dp - 1) (tA P M)) (by rw [stp_e ht]; unfold stO; rw [if_neg (by omega), if_neg (by omega), if_pos g]) (fun d Q hQ => ?_)
    rw [e31, b31_0, if_neg (by omega), if_neg (by omega), if_pos g, b31_10, wr_id (by omega) (by omega), hlo]
    refine ⟨by omega, pu _ _ _ ?_⟩
    simp only [Option.toList_none, List.nil_append]
    rw [b31_18, b31_72]
    exact hQ
end CST
