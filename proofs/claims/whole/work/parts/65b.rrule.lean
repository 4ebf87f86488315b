/-! the reference's strip: which rule fits -/
def fitB (X : Sx) (r p : Int) : Bool :=
  if r = 2 then decide (X.op p = 11 ∧ X.a p = p + 1)
  else if r = 3 then (isj (X.op p) && decide (¬ leS X p = -1))
  else if r = 4 then decide (X.op p = 0 ∧ (6 ≤ thiS X p ∧ thiS X p ≤ 10) ∧ (thiS X p ≤ 8 ∨ ¬ X.a (p + 1) = 0))
  else if r = 5 then decide (secS X p = 4 ∧ (X.op p = 0 ∨ X.op p = 1 ∨ X.op p = 2 ∨ X.op p = 5))
  else if r = 6 then decide (X.op p = 0 ∧ secS X p = 12)
  else if r = 7 then decide (X.op p = 0 ∧ thiS X p = 13)
  else if r = 8 then decide (X.op p = 1 ∧ secS X p = 14)
  else if r = 9 then decide (X.op p = 0 ∧ ((X.a p = 0 ∧ (secS X p = 6 ∨ secS X p = 7)) ∨ (X.a p = 1 ∧ (secS X p = 8 ∨ secS X p = 9))))
  else if r = 10 then decide (X.op p = 3 ∧ ldS X (X.a p) = false)
  else if r = 11 then decide (X.op p = 2 ∧ secS X p = 3 ∧ X.a p = X.a (p + 1))
  else decide ((X.op p = 12 ∨ X.op p = 14) ∧ X.a p = p + 1)
section RRU
variable {σ σ0 σ' : j3_S} {P : Pg} {m nl x n p B r : Int} {X : Sx} {F : Fl} {W : Int → Int → Int → Prop} {d : Nat} {Q : j3_P}
theorem sec_g (h : 0 ≤ secS X p) : p + 1 < X.n ∧ jtS X (p + 1) = false ∧ secS X p = X.op (p + 1) := by
  unfold secS at h ⊢
  by_cases g : p + 1 < X.n ∧ jtS X (p + 1) = false
  · rw [if_pos g]; exact ⟨g.1, g.2, rfl⟩
  · rw [if_neg g] at h; omega
theorem thi_g (h : 0 ≤ thiS X p) : secS X p = 0 ∧ p + 2 < X.n ∧ jtS X (p + 2) = false ∧ thiS X p = X.op (p + 2) := by
  unfold thiS at h ⊢
  by_cases g : secS X p = 0 ∧ p + 2 < X.n ∧ jtS X (p + 2) = false
  · rw [if_pos g]; exact ⟨g.1, g.2.1, g.2.2, rfl⟩
  · rw [if_neg g] at h; omega
theorem fit_le (hs : snB X p = true) (r2 : 2 ≤ r) (r12 : r ≤ 12) (h : fitB X r p = true) : ¬ ruS X p = 0 ∧ ruS X p ≤ r := by
  have hsf : ¬ snB X p = false := by rw [hs]; decide
  have low : ∀ o : Int, X.op p = o → ¬ o = 11 → isj o = false → ruS X p = if X.op p = 0 then ruI X p else if X.op p = 1 then (if secS X p = 4 then 5 else if secS X p = 14 then 8 else 0) else if X.op p = 2 then (if secS X p = 4 then 5 else if secS X p = 3 ∧ X.a p = X.a (p + 1) then 11 else 0) else if X.op p = 5 then (if secS X p = 4 then 5 else 0) else if X.op p = 3 then (if ldS X (X.a p) = false then 10 else 0) else if X.op p = 12 ∨ X.op p = 14 then (if X.a p = p + 1 then 12 else 0) else 0 := by
    intro o ho h11 hj
    unfold ruS
    rw [if_neg hsf, if_neg (fun z => h11 (by rw [← ho]; exact z.1)), if_neg (fun z => by rw [ho, hj] at z; cases z.1)]
  rcases (by omega : r = 2 ∨ r = 3 ∨ r = 4 ∨ r = 5 ∨ r = 6 ∨ r = 7 ∨ r = 8 ∨ r = 9 ∨ r = 10 ∨ r = 11 ∨ r = 12) with rfl | rfl | rfl | rfl | rfl | rfl | rfl | rfl | rfl | rfl | rfl
  · have h : decide (X.op p = 11 ∧ X.a p = p + 1) = true := h
    simp only [decide_eq_true_eq] at h
    unfold ruS
    rw [if_neg hsf, if_pos h]
    omega
  · have h : (isj (X.op p) && decide (¬ leS X p = -1)) = true := h
    simp only [Bool.and_eq_true, decide_eq_true_eq] at h
    unfold ruS
    rw [if_neg hsf]
    by_cases g : X.op p = 11 ∧ X.a p = p + 1
    · rw [if_pos g]; omega
    · rw [if_neg g, if_pos h]; omega
  · have h : decide (X.op p = 0 ∧ (6 ≤ thiS X p ∧ thiS X p ≤ 10) ∧ (thiS X p ≤ 8 ∨ ¬ X.a (p + 1) = 0)) = true := h
    simp only [decide_eq_true_eq] at h
    rw [low 0 h.1 (by decide) rfl, if_pos h.1]
    unfold ruI
    rw [if_pos h.2]; omega
  · have h : decide (secS X p = 4 ∧ (X.op p = 0 ∨ X.op p = 1 ∨ X.op p = 2 ∨ X.op p = 5)) = true := h
    simp only [decide_eq_true_eq] at h
    obtain ⟨h1, h2⟩ := h
    rcases h2 with g | g | g | g
    · rw [low 0 g (by decide) rfl, if_pos g]
      unfold ruI
      split
      · omega
      · first | omega | (rw [if_pos h1]; omega)
    · rw [low 1 g (by decide) rfl, if_neg (by omega), if_pos g, if_pos h1]; omega
    · rw [low 2 g (by decide) rfl, if_neg (by omega), if_neg (by omega), if_pos g, if_pos h1]; omega
    · rw [low 5 g (by decide) rfl, if_neg (by omega), if_neg (by omega), if_neg (by omega), if_pos g, if_pos h1]; omega
  · have h : decide (X.op p = 0 ∧ secS X p = 12) = true := h
    simp only [decide_eq_true_eq] at h
    rw [low 0 h.1 (by decide) rfl, if_pos h.1]
    unfold ruI
    split
    · omega
    · rw [if_neg (by omega), if_pos h.2]; omega
  · have h : decide (X.op p = 0 ∧ thiS X p = 13) = true := h
    simp only [decide_eq_true_eq] at h
    rw [low 0 h.1 (by decide) rfl, if_pos h.1]
    unfold ruI
    split
    · omega
    · split
      · omega
      · split
        · omega
        · rw [if_pos h.2]; omega
  · have h : decide (X.op p = 1 ∧ secS X p = 14) = true := h
    simp only [decide_eq_true_eq] at h
    rw [low 1 h.1 (by decide) rfl, if_neg (by omega), if_pos h.1, if_neg (by omega), if_pos h.2]; omega
  · have h : decide (X.op p = 0 ∧ ((X.a p = 0 ∧ (secS X p = 6 ∨ secS X p = 7)) ∨ (X.a p = 1 ∧ (secS X p = 8 ∨ secS X p = 9)))) = true := h
    simp only [decide_eq_true_eq] at h
    rw [low 0 h.1 (by decide) rfl, if_pos h.1]
    unfold ruI
    split
    · omega
    · split
      · omega
      · split
        · omega
        · split
          · omega
          · rw [if_pos h.2]; omega
  · have h : decide (X.op p = 3 ∧ ldS X (X.a p) = false) = true := h
    simp only [decide_eq_true_eq] at h
    rw [low 3 h.1 (by decide) rfl, if_neg (by omega), if_neg (by omega), if_neg (by omega), if_neg (by omega), if_pos h.1, if_pos h.2]; omega
  · have h : decide (X.op p = 2 ∧ secS X p = 3 ∧ X.a p = X.a (p + 1)) = true := h
    simp only [decide_eq_true_eq] at h
    rw [low 2 h.1 (by decide) rfl, if_neg (by omega), if_neg (by omega), if_pos h.1, if_neg (by omega), if_pos h.2]; omega
  · have h : decide ((X.op p = 12 ∨ X.op p = 14) ∧ X.a p = p + 1) = true := h
    simp only [decide_eq_true_eq] at h
    unfold ruS
    rw [if_neg hsf, if_neg (by omega)]
    by_cases g : isj (X.op p) = true ∧ ¬ leS X p = -1
    · rw [if_pos g]; omega
    · rw [if_neg g, if_neg (by omega), if_neg (by omega), if_neg (by omega), if_neg (by omega), if_neg (by omega), if_pos h.1, if_pos h.2]; omega
theorem fit_eq (hs : snB X p = true) (hr : ¬ ruS X p = 0) : fitB X (ruS X p) p = true ∧ 2 ≤ ruS X p ∧ ruS X p ≤ 12 := by
  have hsf : ¬ snB X p = false := by rw [hs]; decide
  generalize hR : ruS X p = R at hr ⊢
  unfold ruS at hR
  rw [if_neg hsf] at hR
  by_cases g : X.op p = 11 ∧ X.a p = p + 1
  · rw [if_pos g] at hR
    subst hR
    exact ⟨by show decide _ = true; simp only [decide_eq_true_eq]; exact g, by omega⟩
  rw [if_neg g] at hR
  by_cases g : isj (X.op p) = true ∧ ¬ leS X p = -1
  · rw [if_pos g] at hR
    subst hR
    exact ⟨by show (isj (X.op p) && decide (¬ leS X p = -1)) = true; simp only [Bool.and_eq_true, decide_eq_true_eq]; exact g, by omega⟩
  rw [if_neg g] at hR
  by_cases g0 : X.op p = 0
  · rw [if_pos g0] at hR
    unfold ruI at hR
    by_cases g4 : (6 ≤ thiS X p ∧ thiS X p ≤ 10) ∧ (thiS X p ≤ 8 ∨ ¬ X.a (p + 1) = 0)
    · rw [if_pos g4] at hR
      subst hR
      exact ⟨by show decide (X.op p = 0 ∧ _) = true; simp only [decide_eq_true_eq]; exact ⟨g0, g4⟩, by omega⟩
    rw [if_neg g4] at hR
    by_cases g5 : secS X p = 4
    · rw [if_pos g5] at hR
      subst hR
      exact ⟨by show decide (secS X p = 4 ∧ _) = true; simp only [decide_eq_true_eq]; exact ⟨g5, Or.inl g0⟩, by omega⟩
    rw [if_neg g5] at hR
    by_cases g6 : secS X p = 12
    · rw [if_pos g6] at hR
      subst hR
      exact ⟨by show decide (X.op p = 0 ∧ secS X p = 12) = true; simp only [decide_eq_true_eq]; exact ⟨g0, g6⟩, by omega⟩
    rw [if_neg g6] at hR
    by_cases g7 : thiS X p = 13
    · rw [if_pos g7] at hR
      subst hR
      exact ⟨by show decide (X.op p = 0 ∧ thiS X p = 13) = true; simp only [decide_eq_true_eq]; exact ⟨g0, g7⟩, by omega⟩
    rw [if_neg g7] at hR
    by_cases g9 : (X.a p = 0 ∧ (secS X p = 6 ∨ secS X p = 7)) ∨ (X.a p = 1 ∧ (secS X p = 8 ∨ secS X p = 9))
    · rw [if_pos g9] at hR
      subst hR
      exact ⟨by show decide (X.op p = 0 ∧ _) = true; simp only [decide_eq_true_eq]; exact ⟨g0, g9⟩, by omega⟩
    · rw [if_neg g9] at hR; exact absurd hR.symm hr
  rw [if_neg g0] at hR
  by_cases g1 : X.op p = 1
  · rw [if_pos g1] at hR
    by_cases g5 : secS X p = 4
    · rw [if_pos g5] at hR
      subst hR
      exact ⟨by show decide (secS X p = 4 ∧ _) = true; simp only [decide_eq_true_eq]; exact ⟨g5, Or.inr (Or.inl g1)⟩, by omega⟩
    rw [if_neg g5] at hR
    by_cases g8 : secS X p = 14
    · rw [if_pos g8] at hR
      subst hR
      exact ⟨by show decide (X.op p = 1 ∧ secS X p = 14) = true; simp only [decide_eq_true_eq]; exact ⟨g1, g8⟩, by omega⟩
    · rw [if_neg g8] at hR; exact absurd hR.symm hr
  rw [if_neg g1] at hR
  by_cases g2 : X.op p = 2
  · rw [if_pos g2] at hR
    by_cases g5 : secS X p = 4
    · rw [if_pos g5] at hR
      subst hR
      exact ⟨by show decide (secS X p = 4 ∧ _) = true; simp only [decide_eq_true_eq]; exact ⟨g5, Or.inr (Or.inr (Or.inl g2))⟩, by omega⟩
    rw [if_neg g5] at hR
    by_cases g8 : secS X p = 3 ∧ X.a p = X.a (p + 1)
    · rw [if_pos g8] at hR
      subst hR
      exact ⟨by show decide (X.op p = 2 ∧ _) = true; simp only [decide_eq_true_eq]; exact ⟨g2, g8⟩, by omega⟩
    · rw [if_neg g8] at hR; exact absurd hR.symm hr
  rw [if_neg g2] at hR
  by_cases g5 : X.op p = 5
  · rw [if_pos g5] at hR
    by_cases g8 : secS X p = 4
    · rw [if_pos g8] at hR
      subst hR
      exact ⟨by show decide (secS X p = 4 ∧ _) = true; simp only [decide_eq_true_eq]; exact ⟨g8, Or.inr (Or.inr (Or.inr g5))⟩, by omega⟩
    · rw [if_neg g8] at hR; exact absurd hR.symm hr
  rw [if_neg g5] at hR
  by_cases g3 : X.op p = 3
  · rw [if_pos g3] at hR
    by_cases g8 : ldS X (X.a p) = false
    · rw [if_pos g8] at hR
      subst hR
      exact ⟨by show decide (X.op p = 3 ∧ ldS X (X.a p) = false) = true; simp only [decide_eq_true_eq]; exact ⟨g3, g8⟩, by omega⟩
    · rw [if_neg g8] at hR; exact absurd hR.symm hr
  rw [if_neg g3] at hR
  by_cases g12 : X.op p = 12 ∨ X.op p = 14
  · rw [if_pos g12] at hR
    by_cases g8 : X.a p = p + 1
    · rw [if_pos g8] at hR
      subst hR
      exact ⟨by show decide ((X.op p = 12 ∨ X.op p = 14) ∧ X.a p = p + 1) = true; simp only [decide_eq_true_eq]; exact ⟨g12, g8⟩, by omega⟩
    · rw [if_neg g8] at hR; exact absurd hR.symm hr
  · rw [if_neg g12] at hR; exact absurd hR.symm hr
theorem s204_2 (hX : okX nl X) (hx : xR σ X B) (hv : svR σ X) (p0 : 0 ≤ p) (p1 : p < X.n) : j3_tc true (d + 1) 204 [wO 10 121, wI p, wI 2] σ Q = Q (some (wI (b2i (decide (0 ≤ secS X p ∨ (p + 1 < X.n ∧ jtS X (p + 1) = false)))))) σ := by
  have hn := hX.1
  rw [e204, b204_0, hx.1.2, wr_id (by omega) (by omega)]
  by_cases g : p + 1 < X.n
  · have h2 := hv.2.1 (p + 1) (by omega) g
    rw [if_neg (by omega), b204_10, if_pos (by omega), wr_id (z := p + 1) (by omega) (by omega)]
    cases gj : jtS X (p + 1)
    · rw [if_pos (h2.mpr gj), wr_id (by omega) (by omega), b204_10, if_neg (by omega)]
      simp [g, b2i, show p + 1 < 120 by omega, show 0 ≤ p + 1 by omega]
    · have ns : secS X p = -1 := by unfold secS; rw [gj, if_neg (by simp)]
      rw [if_neg (fun z => by rw [h2.mp z] at gj; cases gj)]
      simp [ns, b2i, show p + 1 < 120 by omega, show 0 ≤ p + 1 by omega]
  · have ns : secS X p = -1 := by unfold secS; rw [if_neg (fun z => g z.1)]
    rw [if_pos (by omega)]
    simp [g, ns, b2i]
theorem s204_3 (hX : okX nl X) (hx : xR σ X B) (hv : svR σ X) (p0 : 0 ≤ p) (p1 : p < X.n) : j3_tc true (d + 1) 204 [wO 10 121, wI p, wI 3] σ Q = Q (some (wI (b2i (decide (p + 2 < X.n ∧ jtS X (p + 1) = false ∧ jtS X (p + 2) = false))))) σ := by
  have hn := hX.1
  rw [e204, b204_0, hx.1.2, wr_id (by omega) (by omega)]
  by_cases g : p + 2 < X.n
  · have h2 := hv.2.1 (p + 1) (by omega) (by omega)
    have h3 := hv.2.1 (p + 2) (by omega) g
    rw [if_neg (by omega), b204_10, if_pos (by omega), wr_id (z := p + 1) (by omega) (by omega)]
    cases gj : jtS X (p + 1)
    · rw [if_pos (h2.mpr gj), wr_id (z := 1 + 1) (by omega) (by omega), b204_10, if_pos (by omega), wr_id (z := p + (1 + 1)) (by omega) (by omega), show p + (1 + 1) = p + 2 by omega]
      cases gk : jtS X (p + 2)
      · rw [if_pos (h3.mpr gk), wr_id (by omega) (by omega), b204_10, if_neg (by omega)]
        simp [g, b2i, show p + 1 < 120 by omega, show 0 ≤ p + 1 by omega, show p + 2 < 120 by omega, show 0 ≤ p + 2 by omega]
      · rw [if_neg (fun z => by rw [h3.mp z] at gk; cases gk)]
        simp [b2i, show p + 1 < 120 by omega, show 0 ≤ p + 1 by omega, show p + 2 < 120 by omega, show 0 ≤ p + 2 by omega]
    · rw [if_neg (fun z => by rw [h2.mp z] at gj; cases gj)]
      simp [b2i, show p + 1 < 120 by omega, show 0 ≤ p + 1 by omega]
  · rw [if_pos (by omega)]
    simp [g, b2i]
theorem s205 {t o : Int} (hX : okX nl X) (B0 : 0 ≤ B) (B1 : B + 120 ≤ 28800) (hx : xR σ X B) (t0 : 0 ≤ t) (t1 : t < X.n) : j3_tc true (d + 1) 205 [wO 10 121, wI t, wI o] σ Q = Q (some (wI (b2i (decide (X.op t = o))))) σ := by
  have hn := hX.1
  rw [e205, b205_0, hx.1.1, wr_id (by omega) (by omega), (hx.2 t t0 t1).1]
  by_cases g : X.op t = o
  · rw [if_pos g]
    simp [g, b2i, show 0 ≤ B + t by omega, show B + t < 28800 by omega]
  · rw [if_neg g]
    simp [g, b2i, show 0 ≤ B + t by omega, show B + t < 28800 by omega]
/-- where JUMPs lead -/
theorem l206 (hX : okX nl X) (hS : SOk P m nl W X F) (B0 : 0 ≤ B) (B1 : B + 120 ≤ 28800) (hx : xR σ X B) {y : Int} : ∀ (k : Nat) (x3 t : Int), x3 + k = X.n → 0 ≤ x3 → 0 ≤ t → t < X.n → 0 ≤ F.1 t → Q (some (wI (if X.op (fwS X k t) = 11 then -1 else fwS X k t))) σ → T206 (d + 1) Q 4 [wO 10 121, wI y, wI t, wI x3] [] σ
  | 0, x3, t, h, h0, t0, t1, t2, hQ => by
    have hn := hX.1
    rw [b206_4, hx.1.2, if_neg (by omega), s205 hX B0 B1 hx t0 t1]
    simp only [Option.toList_some, List.cons_append, List.nil_append]
    have hQ : Q (some (wI (if X.op t = 11 then -1 else t))) σ := hQ
    rw [b206_12]
    by_cases g : X.op t = 11
    · rw [if_pos g] at hQ
      obtain ⟨u1, u2, u3⟩ := hS.tg t0 t1 t2 (by rw [g]; rfl)
      rw [if_neg (by simp [g, b2i]), hx.1.1, wr_id (z := B + t) (by omega) (by omega), (hx.2 t t0 t1).2.1, wr_id (by omega) (by omega), b206_4, hx.1.2, if_pos (by omega)]
      exact ⟨by omega, hQ⟩
    · rw [if_neg g] at hQ
      rw [if_pos (by simp [g, b2i])]
      exact hQ
  | k + 1, x3, t, h, h0, t0, t1, t2, hQ => by
    have hn := hX.1
    rw [b206_4, hx.1.2, if_neg (by omega), s205 hX B0 B1 hx t0 t1]
    simp only [Option.toList_some, List.cons_append, List.nil_append]
    unfold fwS at hQ
    rw [b206_12]
    by_cases g : X.op t = 11
    · rw [if_pos g] at hQ
      obtain ⟨u1, u2, u3⟩ := hS.tg t0 t1 t2 (by rw [g]; rfl)
      rw [if_neg (by simp [g, b2i]), hx.1.1, wr_id (z := B + t) (by omega) (by omega), (hx.2 t t0 t1).2.1, wr_id (by omega) (by omega)]
      exact ⟨by omega, l206 hX hS B0 B1 hx k (x3 + 1) (X.a t) (by omega) (by omega) u1 u2 u3 hQ⟩
    · rw [if_neg g, if_neg g] at hQ
      rw [if_pos (by simp [g, b2i])]
      exact hQ
end RRU
