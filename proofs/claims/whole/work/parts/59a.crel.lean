/-! the class's machine: how it holds the small machine -/
def cmI : List Nat := [2006, 2007, 2012]
def cmA : List Nat := [2001, 2002, 2008, 2009, 2010, 2011, 2013, 2014, 2015]
def CRa (σ : j3_S) (M : Mc) : Prop := (σ.1 2006 109 = M.en ∧ σ.1 2012 109 = M.no ∧ σ.2.2 2001 109 2 = M.tr ∧ σ.2.2 2001 109 6 = M.mx) ∧ σ.2.2 2001 109 3 = M.ou ∧ 0 ≤ M.ou ∧ ∀ i, 0 ≤ i → i < 100 → i < M.ou → σ.2.2 2002 109 i = M.ov i
def CRb (σ : j3_S) (M : Mc) : Prop := σ.1 2007 109 = M.dp ∧ ∀ k, 0 ≤ k → k < M.dp → σ.2.2 2008 109 k = M.me k ∧ σ.2.2 2009 109 k = M.pc k
def CRs (σ : j3_S) (M : Mc) : Prop := ∀ k, 0 ≤ k → k < M.dp → σ.2.2 2010 109 k = M.ht k ∧ ∀ j, 0 ≤ j → j < M.ht k → σ.2.2 2011 109 (k * 30 + 20 + j) = M.sk k j
def CRl (σ : j3_S) (P : Pg) (T : Int → Fl) (M : Mc) : Prop := ∀ k x, 0 ≤ k → k < M.dp → 0 ≤ x → x < P 3017 (M.me k) → ¬ (T (M.me k)).2.2 (M.pc k) x = 0 → σ.2.2 2011 109 (k * 30 + x) = M.lo k x
def CRo (σ : j3_S) (P : Pg) (M : Mc) : Prop := (∀ o, 0 ≤ o → o < M.no → σ.2.2 2013 109 o = M.oc o ∧ ∀ c f, cv P c (M.oc o) = true → 0 ≤ f → f < P 3005 c → σ.2.2 2014 109 (o * 60 + P 3004 c * 6 + f) = M.fd o c f) ∧ ∀ z, 0 ≤ z → z < 60 → σ.2.2 2015 109 z = M.gs z
def CR (σ : j3_S) (P : Pg) (T : Int → Fl) (M : Mc) : Prop := CRa σ M ∧ (¬ M.en = 0 → CRb σ M) ∧ (M.en = -1 → CRs σ M ∧ CRl σ P T M ∧ CRo σ P M)
def psC (σ : j3_S) (k h v : Int) : j3_S := (σ.1, σ.2.1, j3_ast (j3_ast σ.2.2 2011 109 (k * 30 + 20 + h) v) 2010 109 k (h + 1))
def poC (σ : j3_S) (k h : Int) : j3_S := (σ.1, σ.2.1, j3_ast σ.2.2 2010 109 k (h - 1))
def trC (σ : j3_S) (c : Int) : j3_S := (j3_up σ.1 2006 109 1, σ.2.1, j3_ast σ.2.2 2001 109 2 c)
section CREL
variable {σ : j3_S} {P : Pg} {T : Int → Fl} {M : Mc} {d : Nat} {Q : j3_P} {k h v x : Int} {o : Nat}
theorem s25 : j3_tc false (d + 1) 25 [wO 2 109, wI v] σ Q = Q none (trC σ v) := by
  rw [e25, b25_0]
  exact and_iff_right (by omega) |> propext
theorem s26 (hd : σ.1 2007 109 = k + 1) (k0 : 0 ≤ k) (k1 : k < 40) (hh : σ.2.2 2010 109 k = h) (h0 : 0 ≤ h) (h1 : h < 10) : j3_tc false (d + 1) 26 [wO 2 109, wI v] σ Q = Q none (psC σ k h v) := by
  rw [e26, b26_0, hd, wr_id (z := k + 1 - 1) (by omega) (by omega), show k + 1 - 1 = k by omega, if_neg (by omega), hh, if_pos h1]
  simp (disch := omega) only [wr_id]
  simp only [show 0 ≤ k ∧ k < 40 from ⟨k0, k1⟩, show 0 ≤ k * 30 + 20 + h ∧ k * 30 + 20 + h < 1200 by omega, and_self, true_and]
  rfl
theorem s27 (hd : σ.1 2007 109 = k + 1) (k0 : 0 ≤ k) (k1 : k < 40) (hh : σ.2.2 2010 109 k = h) (h0 : 0 < h) (h1 : h ≤ 10) : j3_tc false (d + 1) 27 [wO 2 109] σ Q = Q (some (wI (σ.2.2 2011 109 (k * 30 + 20 + (h - 1))))) (poC σ k h) := by
  rw [e27, b27_0, hd, wr_id (z := k + 1 - 1) (by omega) (by omega), show k + 1 - 1 = k by omega, if_neg (by omega), hh, if_pos h0]
  simp only [i_up, if_true]
  simp (disch := omega) only [wr_id]
  simp only [show 0 ≤ k ∧ k < 40 from ⟨k0, k1⟩, show 0 ≤ k * 30 + 20 + (h - 1) ∧ k * 30 + 20 + (h - 1) < 1200 by omega, and_self, true_and]
  rfl
theorem s34 : j3_tc false (d + 1) 34 [wO 2 109, wI x] σ Q = Q (some (wI (b2i (decide (0 < x) && decide (x ≤ σ.1 2012 109))))) σ := by
  rw [e34, b34_0]
  by_cases g : 0 < x
  · by_cases g2 : σ.1 2012 109 < x
    · simp [g, g2, b2i, show ¬ x ≤ σ.1 2012 109 by omega]
    · simp [g, g2, b2i, show x ≤ σ.1 2012 109 by omega]
  · simp [g, b2i]
theorem s153 {op y : Int} (h : 6 ≤ op) (h1 : op ≤ 10) (hz : ¬ (9 ≤ op ∧ y = 0)) : j3_tc false (d + 1) 153 [wI op, wI x, wI y] σ Q = Q (some (wI (ari op x y))) σ := by
  rw [e153, b153_0]
  unfold ari
  by_cases g : op = 6
  · rw [if_pos g, if_pos g, b153_2]
  rw [if_neg g, if_neg g]
  by_cases g : op = 7
  · rw [if_pos g, if_pos g, b153_6]
  rw [if_neg g, if_neg g]
  by_cases g : op = 8
  · rw [if_pos g, if_pos g, b153_10]
  rw [if_neg g, if_neg g]
  by_cases g : op = 9
  · rw [if_pos g, if_pos g, b153_14, if_neg (by omega)]
    exact and_iff_right (by omega) |> propext
  rw [if_neg g, if_neg g, b153_22, if_neg (by omega)]
  exact and_iff_right (by omega) |> propext
theorem s210 {op y : Int} (h : 6 ≤ op) (h1 : op ≤ 10) (hz : ¬ (9 ≤ op ∧ y = 0)) : j3_tc true (d + 1) 210 [wI op, wI x, wI y] σ Q = Q (some (wI (ari op x y))) σ := by
  rw [e210, b210_0]
  unfold ari
  by_cases g : op = 6
  · rw [if_pos g, if_pos g]
  rw [if_neg g, if_neg g]
  by_cases g : op = 7
  · rw [if_pos g, if_pos g]
  rw [if_neg g, if_neg g]
  by_cases g : op = 8
  · rw [if_pos g, if_pos g]
  rw [if_neg g, if_neg g]
  by_cases g : op = 9
  · rw [if_pos g, if_pos g]
    exact and_iff_right (by omega) |> propext
  rw [if_neg g, if_neg g]
  exact and_iff_right (by omega) |> propext
/-- the beginning of a step -/
theorem c28s (hW : WFp P) (ho : ¬ o = 0) (hp : σ.2.1 1 = o) (hC : CP σ o P) (hB : CRb σ M) (hT : TyM P T M) : T28 (d + 2) Q 58 [wO 2 109, wI (M.dp - 1), wI (tm M * 120 + ti M), wI (tO P M), wI (tA P M), wI (tB P M)] [wI (b2i (isj (tO P M)))] σ → j3_tc false (d + 3) 28 [wO 2 109] σ Q := by
  intro hQ
  obtain ⟨d1, d2⟩ := hT.1
  obtain ⟨m0, m1, i0, i1, -⟩ := hT.2.2.1.1
  obtain ⟨b1, b2⟩ := hB
  obtain ⟨b3, b4⟩ := b2 (M.dp - 1) (by omega) (by omega)
  have m0 : 0 ≤ tm M := m0
  have m1 : tm M < P 3001 0 := m1
  have i0 : 0 ≤ ti M := i0
  have i1 : ti M < P 0 (tm M) := i1
  have b3 : σ.2.2 2008 109 (M.dp - 1) = tm M := b3
  have b4 : σ.2.2 2009 109 (M.dp - 1) = ti M := b4
  have hM := hW.2.1.2.1
  have hl := ((bnd_of hW).2.2.2 (tm M) m0 m1).2.2
  obtain ⟨-, -, c3⟩ := hC.2.2.2 (tm M) m0 m1
  obtain ⟨k1, k2, k3⟩ := c3 (ti M) i0 i1
  rw [e28, b28_0, b1, wr_id (z := M.dp - 1) (by omega) (by omega), if_neg (by omega), hp, b3, b4, s45 hC hM]
  refine ⟨ho, by omega, by omega, ?_⟩
  simp only [Option.toList_some, List.cons_append, List.nil_append]
  have : (decide (0 ≤ tm M) && decide (tm M < P 3001 0) && (decide (0 ≤ ti M) && decide (ti M < P 0 (tm M)))) = true := by simp [m0, m1, i0, i1]
  rw [this, b28_18, if_neg (show ¬ b2i true = 0 by decide), hp, b3, b4, wr_id (z := tm M * 120) (by omega) (by omega), wr_id (z := tm M * 120 + ti M) (by omega) (by omega), k1, k2, k3, s151]
  refine ⟨by omega, by omega, ho, by omega, ho, by omega, ho, by omega, ?_⟩
  exact hQ
end CREL
