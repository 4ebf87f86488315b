/-! the class's step: pieces -/
section CGO
variable {σ σ' : j3_S} {P : Pg} {T : Int → Fl} {M : Mc} {d : Nat} {Q : j3_P} {k h' j x : Int} {s : Int → Int} {o : Nat}
theorem sbt_n {u : Int} (h : sbt P 0 u) : u = 0 := by
  rcases h with h | h | ⟨h, -⟩ | ⟨-, h⟩ | ⟨h, -⟩ <;> omega
/-- a local that is set at the next place was set -/
theorem set_nx (hT : typed P T) (h : TyM P T M) (hp : (j = ti M + 1 ∧ gon (tO P M) = true) ∨ (j = tA P M ∧ isj (tO P M) = true)) : ∀ x, 0 ≤ x → x < P 3017 (tm M) → ¬ (T (tm M)).2.2 j x = 0 → ¬ exl P (tm M) (tO P M) (tA P M) (tB P M) (tn T M) (ts T M) (tl T M) x = 0 := by
  intro x x0 x1 hn hz
  obtain ⟨-, -, e2, e3⟩ := h.tI hT
  have : flw P (P 3017 (tm M)) (T (tm M)) j (exn P (tm M) (tO P M) (tA P M) (tB P M) (tn T M) (ts T M) (tl T M)) (exs P (tm M) (tO P M) (tA P M) (tB P M) (tn T M) (ts T M) (tl T M)) (exl P (tm M) (tO P M) (tA P M) (tB P M) (tn T M) (ts T M) (tl T M)) := by
    rcases hp with ⟨rfl, p2⟩ | ⟨rfl, p2⟩
    · exact (e2 p2).2
    · exact e3 p2
  have := this.2.2 x x0 x1
  rw [hz] at this
  exact hn (sbt_n this)
theorem CRb.g (h : CRb σ M) (f1 : σ'.1 2007 109 = σ.1 2007 109) (f2 : σ'.2.2 2008 109 = σ.2.2 2008 109) (f3 : σ'.2.2 2009 109 = i_up (σ.2.2 2009 109) k j) : CRb σ' (M.go k h' s j) := by
  refine ⟨f1.trans h.1, fun k' k0 k1 => ⟨by rw [f2]; exact (h.2 k' k0 k1).1, ?_⟩⟩
  rw [f3]
  show i_up _ k j k' = i_up M.pc k j k'
  simp only [i_up]
  by_cases g : k' = k
  · rw [if_pos g, if_pos g]
  · rw [if_neg g, if_neg g]; exact (h.2 k' k0 k1).2
theorem CRs.g (h : CRs σ M) (k0 : 0 ≤ k) (f1 : σ'.2.2 2010 109 k = h') (f2 : ∀ k', ¬ k' = k → σ'.2.2 2010 109 k' = σ.2.2 2010 109 k') (f3 : ∀ z, z < k * 30 + 20 ∨ k * 30 + 30 ≤ z → σ'.2.2 2011 109 z = σ.2.2 2011 109 z) (hl : ∀ k', 0 ≤ k' → k' < M.dp → M.ht k' ≤ 10) (f4 : ∀ q, 0 ≤ q → q < h' → σ'.2.2 2011 109 (k * 30 + 20 + q) = s q) : CRs σ' (M.go k h' s j) := by
  intro k' a0 a1
  show σ'.2.2 2010 109 k' = i_up M.ht k h' k' ∧ ∀ q, 0 ≤ q → q < i_up M.ht k h' k' → σ'.2.2 2011 109 (k' * 30 + 20 + q) = up2 M.sk k s k' q
  simp only [i_up, up2]
  by_cases g : k' = k
  · rw [if_pos g, if_pos g, g]
    exact ⟨f1, f4⟩
  · rw [if_neg g, if_neg g]
    have := hl k' a0 a1
    obtain ⟨h1, h2⟩ := h k' a0 a1
    refine ⟨(f2 k' g).trans h1, fun q q0 q1 => ?_⟩
    rw [f3 _ (by omega)]
    exact h2 q q0 q1
theorem CRl.g (h : CRl σ P T M) (hW : WFp P) (hT : TyM P T M) (f : ∀ k' x, 0 ≤ k' → k' < M.dp → 0 ≤ x → x < 20 → σ'.2.2 2011 109 (k' * 30 + x) = σ.2.2 2011 109 (k' * 30 + x)) (hs : ∀ x, 0 ≤ x → x < P 3017 (tm M) → ¬ (T (tm M)).2.2 j x = 0 → ¬ tl T M x = 0) : CRl σ' P T (M.go (M.dp - 1) h' s j) := by
  intro k' x k0 k1 x0 x1 hx
  have x1 : x < P 3017 (M.me k') := x1
  have k1 : k' < M.dp := k1
  have hm : 0 ≤ M.me k' ∧ M.me k' < P 3001 0 := by
    by_cases g : k' = M.dp - 1
    · rw [g]; exact ⟨hT.2.2.1.1.1, hT.2.2.1.1.2.1⟩
    · have := (hT.2.2.2 k' k0 (by omega)).2.1.1
      exact ⟨this.1, this.2.1⟩
  have hl := (hW.2.2.2 _ hm.1 hm.2).2.2.2.2.1.2
  rw [f k' x k0 k1 x0 (by omega)]
  refine h k' x k0 k1 x0 x1 ?_
  have hx : ¬ (T (M.me k')).2.2 (i_up M.pc (M.dp - 1) j k') x = 0 := hx
  by_cases g : k' = M.dp - 1
  · subst g
    simp only [i_up, if_true] at hx
    exact hs x x0 x1 hx
  · simp only [i_up, if_neg g] at hx
    exact hx
theorem TyM.h10 (hW : WFp P) (hT : typed P T) (h : TyM P T M) : ∀ k', 0 ≤ k' → k' < M.dp → M.ht k' ≤ 10 ∧ 0 ≤ M.ht k' := by
  intro k' k0 k1
  by_cases g : k' = M.dp - 1
  · subst g
    have h1 : tn T M ≤ 10 := (h.tI hT).1.1
    have h2 : 0 ≤ tn T M := h.2.2.1.1.2.2.2.2
    rw [h.hh]
    exact ⟨h1, h2⟩
  · obtain ⟨c1, ⟨c2, c3, -⟩, -⟩ := h.2.2.2 k' k0 (by omega)
    have t := (hT _ c2.1 c2.2.1).2.2 _ c2.2.2.1 c2.2.2.2.1 c2.2.2.2.2
    obtain ⟨⟨t1, -⟩, e1, -⟩ := t
    have ik := (hW.2.2.2 _ c2.1 c2.2.1).2.2.2.2.2.2 _ c2.2.2.1 c2.2.2.2.1
    have c1' : P 1 (M.me k' * 120 + M.pc k') = 20 ∨ P 1 (M.me k' * 120 + M.pc k') = 21 := c1
    obtain ⟨-, -, -, -, i4, -, i6⟩ := ik
    have ra := i4 (by omega)
    have rb := i6 (by omega)
    have hma := hW.2.1.2.2 _ ra.1 ra.2
    have ht : clk0 P M k' = P 3007 (P 2 (M.me k' * 120 + M.pc k')) + P 3 (M.me k' * 120 + M.pc k') := rfl
    obtain ⟨-, -, -, ⟨w1, -⟩, -⟩ := hW.2.2.2 (clk0 P M k') (by omega) (by omega)
    have rc := rcv_01 (P := P) (m := clk0 P M k')
    have ac : caL P (clk0 P M k') = P 3015 (clk0 P M k') + rcv P (clk0 P M k') := rfl
    have hwl : wl P (M.me k') (P 1 (M.me k' * 120 + M.pc k')) (P 2 (M.me k' * 120 + M.pc k')) (P 3 (M.me k' * 120 + M.pc k')) = cw P (P 2 (M.me k' * 120 + M.pc k')) (clk0 P M k') := by
      rw [ht]
      rcases c1' with g | g <;> (rw [g]; rfl)
    have z := (exf_z (wn := caL P (clk0 P M k')) e1 (by
      show ((wl P (M.me k') (P 1 (M.me k' * 120 + M.pc k')) (P 2 (M.me k' * 120 + M.pc k')) (P 3 (M.me k' * 120 + M.pc k'))).length : Int) = _
      rw [hwl]; exact cw_len w1)).1
    rw [c3]
    omega
/-- only the stack and the place changed -/
theorem CR.g (hW : WFp P) (hT : typed P T) (h : CR σ P T M) (ht : TyM P T M) (he : M.en = -1) (f0 : σ'.1 = σ.1) (f1 : ∀ e, [2001, 2002, 2008, 2013, 2014, 2015].elem e = true → σ'.2.2 e 109 = σ.2.2 e 109) (f2 : σ'.2.2 2009 109 = i_up (σ.2.2 2009 109) (M.dp - 1) j) (f3 : σ'.2.2 2010 109 (M.dp - 1) = h') (f4 : ∀ k', ¬ k' = M.dp - 1 → σ'.2.2 2010 109 k' = σ.2.2 2010 109 k') (f5 : ∀ z, z < (M.dp - 1) * 30 + 20 ∨ (M.dp - 1) * 30 + 30 ≤ z → σ'.2.2 2011 109 z = σ.2.2 2011 109 z) (f6 : ∀ q, 0 ≤ q → q < h' → σ'.2.2 2011 109 ((M.dp - 1) * 30 + 20 + q) = s q) (h3 : ¬ tO P M = 3) (hp : (j = ti M + 1 ∧ gon (tO P M) = true) ∨ (j = tA P M ∧ isj (tO P M) = true)) : CR σ' P T (M.go (M.dp - 1) h' s j) := by
  have hd := ht.1
  obtain ⟨hs, hl, ho⟩ := h.2.2 he
  refine ⟨?_, fun _ => (h.2.1 (by rw [he]; decide)).g (by rw [f0]) (f1 2008 rfl) f2, fun _ => ⟨hs.g (by omega) f3 f4 f5 (fun k' a b => (ht.h10 hW hT k' a b).1) f6, hl.g hW ht (fun k' x k0 k1 x0 x1 => f5 _ (by omega)) (fun x x0 x1 hx => ?_), ?_⟩⟩
  · have := h.1
    unfold CRa at this ⊢
    rw [f0, f1 2001 rfl, f1 2002 rfl]
    exact this
  · have := set_nx hT ht hp x x0 x1 hx
    unfold exl at this
    rw [if_neg h3] at this
    exact this
  · unfold CRo at ho ⊢
    rw [f1 2013 rfl, f1 2014 rfl, f1 2015 rfl]
    exact ho
end CGO
