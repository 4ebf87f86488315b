/-! the reference's strip: a rule is tried -/
section RFT
variable {σ σ0 σ' : j3_S} {P : Pg} {m nl x n p B r : Int} {X : Sx} {F : Fl} {W : Int → Int → Int → Prop} {d : Nat} {Q : j3_P}
theorem s207_1 (hX : okX nl X) (B0 : 0 ≤ B) (B1 : B + 120 ≤ 28800) (hx : xR σ X B) (hv : svR σ X) (p0 : 0 ≤ p) (p1 : p < X.n) (hQ : Q (some (wI (b2i (!snB X p)))) σ) : j3_tc true (d + 2) 207 [wO 10 121, wI 1, wI p] σ Q := by
  have hn := hX.1
  have v := hv.1 p p0 p1
  have t27 : ∀ x3 x4 x5 : Int, T207 (d + 1) Q 27 [wO 10 121, wI 1, wI p, wI x3, wI x4, wI x5] [] σ := by
    intro x3 x4 x5
    rw [b207_27]
    refine ⟨by omega, ?_⟩
    cases g : snB X p
    · rw [g] at hQ
      rw [if_pos (v.mpr g)]
      exact ⟨Or.inr rfl, hQ⟩
    · rw [g] at hQ
      rw [if_neg (fun z => by rw [v.mp z] at g; cases g)]
      exact ⟨Or.inl rfl, hQ⟩
  rw [e207, b207_0, hx.1.1, hx.1.2, wr_id (z := B + p) (by omega) (by omega), wr_id (z := p + 1) (by omega) (by omega)]
  refine ⟨by omega, ?_⟩
  by_cases g : p + 1 < X.n
  · rw [if_pos g, wr_id (by omega) (by omega), b207_24, if_pos rfl]
    exact ⟨by omega, t27 _ _ _⟩
  · rw [if_neg g, b207_24, if_pos rfl]
    exact t27 _ _ _
theorem s207 (hs : WFs P) (hX : okX nl X) (h20 : nl ≤ 20) (hS : SOk P m nl W X F) (B0 : 0 ≤ B) (B1 : B + 120 ≤ 28800) (hx : xR σ X B) (hv : svR σ X) (p0 : 0 ≤ p) (p1 : p < X.n) (hsn : snB X p = true) (r2 : 2 ≤ r) (r12 : r ≤ 12) (hQ : Q (some (wI (b2i (fitB X r p)))) σ) : j3_tc true (d + 3) 207 [wO 10 121, wI r, wI p] σ Q := by
  have hn := hX.1
  have hp := sn_ty hS hsn
  obtain ⟨c1, c2, -⟩ := hx.2 p p0 p1
  obtain ⟨o1, o2, o3⟩ := hX.2 p p0 p1
  -- the next instruction, -1 if there is none
  generalize hnx : (if p + 1 < X.n then X.op (p + 1) else -1) = nx
  have nxs : nx = -1 ∨ (p + 1 < X.n ∧ nx = X.op (p + 1) ∧ 0 ≤ nx) := by
    rw [← hnx]
    by_cases g : p + 1 < X.n
    · rw [if_pos g]; exact Or.inr ⟨g, rfl, ((hX.2 (p + 1) (by omega) g).1).1⟩
    · rw [if_neg g]; exact Or.inl rfl
  have al2 : (0 ≤ secS X p ∨ (p + 1 < X.n ∧ jtS X (p + 1) = false)) ↔ (p + 1 < X.n ∧ jtS X (p + 1) = false) := ⟨fun z => z.elim (fun y => ⟨(sec_g y).1, (sec_g y).2.1⟩) id, Or.inr⟩
  have sec2 : ∀ z, 0 ≤ z → (secS X p = z ↔ ((p + 1 < X.n ∧ jtS X (p + 1) = false) ∧ nx = z)) := by
    intro z hz
    unfold secS
    rw [← hnx]
    by_cases g : p + 1 < X.n ∧ jtS X (p + 1) = false
    · rw [if_pos g, if_pos g.1]; exact ⟨fun y => ⟨g, y⟩, fun y => y.2⟩
    · rw [if_neg g]; exact ⟨fun y => by omega, fun y => absurd y.1 g⟩
  have thi2 : ∀ z, 0 ≤ z → (thiS X p = z ↔ ((p + 2 < X.n ∧ jtS X (p + 1) = false ∧ jtS X (p + 2) = false) ∧ nx = 0 ∧ X.op (p + 2) = z)) := by
    intro z hz
    unfold thiS
    have s0 := sec2 0 (by omega)
    by_cases g : secS X p = 0 ∧ p + 2 < X.n ∧ jtS X (p + 2) = false
    · have := s0.mp g.1
      rw [if_pos g]; exact ⟨fun y => ⟨⟨g.2.1, this.1.2, g.2.2⟩, this.2, y⟩, fun y => y.2.2⟩
    · rw [if_neg g]; exact ⟨fun y => by omega, fun y => absurd ⟨s0.mpr ⟨⟨by omega, y.1.2.1⟩, y.2.1⟩, y.1.1, y.1.2.2⟩ g⟩
  have fin : ∀ b : Bool, fitB X r p = b → ((b2i b = 0 ∨ b2i b = 1) ∧ Q (some (wI (b2i b))) σ) := fun b hb => ⟨b2i_01 b, by rw [← hb]; exact hQ⟩
  have finF : fitB X r p = false → (((0 : Int) = 0 ∨ (0 : Int) = 1) ∧ Q (some (wI 0)) σ) := fun hb => ⟨Or.inl rfl, by rw [hb] at hQ; exact hQ⟩
  have finT : fitB X r p = true → (((1 : Int) = 0 ∨ (1 : Int) = 1) ∧ Q (some (wI 1)) σ) := fun hb => ⟨Or.inr rfl, by rw [hb] at hQ; exact hQ⟩
  have t24 : T207 (d + 2) Q 24 [wO 10 121, wI r, wI p, wI (B + p), wI (X.op p), wM 2] [wI nx] σ := by
    rw [b207_24, if_neg (by omega)]
    by_cases h2 : r = 2
    · subst h2
      have e : fitB X 2 p = decide (X.op p = 11 ∧ X.a p = p + 1) := rfl
      rw [if_pos rfl, b207_36, c2, wr_id (by omega) (by omega)]
      by_cases g1 : X.op p = 11
      · rw [if_pos g1]
        refine ⟨by omega, ?_⟩
        by_cases g2 : X.a p = p + 1
        · rw [if_pos g2]; exact finT (by rw [e]; simp [g1, g2])
        · rw [if_neg g2]; exact finF (by rw [e]; simp [g2])
      · rw [if_neg g1]; exact finF (by rw [e]; simp [g1])
    rw [if_neg h2]
    by_cases h3 : r = 3
    · subst h3
      have e : fitB X 3 p = (isj (X.op p) && decide (¬ leS X p = -1)) := rfl
      rw [if_pos rfl, b207_51, s164]
      simp only [Option.toList_some, List.cons_append, List.nil_append]
      rw [b207_53]
      cases gj : isj (X.op p)
      · rw [if_pos (show b2i false = 0 from rfl)]
        exact finF (by rw [e, gj]; rfl)
      · obtain ⟨u1, u2, u3⟩ := hS.tg p0 p1 hp gj
        rw [if_neg (show ¬ b2i true = 0 by decide), c2, s205 hX B0 B1 hx u1 u2]
        refine ⟨by omega, ?_⟩
        simp only [Option.toList_some, List.cons_append, List.nil_append]
        rw [b207_61]
        by_cases g11 : X.op (X.a p) = 11
        · rw [if_neg (by simp [g11, b2i]), c2, e206, b206_0]
          refine ⟨by omega, l206 hX hS B0 B1 hx X.n.toNat 0 (X.a p) (by omega) (by omega) u1 u2 u3 ?_⟩
          obtain ⟨⟨w1, w2, w3⟩, -⟩ := fw_flw hs hS X.n.toNat (X.a p) u1 u2 u3
          simp only [Option.toList_some, List.cons_append, List.nil_append]
          rw [b207_68]
          by_cases g2 : X.op (fwS X X.n.toNat (X.a p)) = 11
          · rw [if_pos g2, if_pos (by omega)]
            have : leS X p = -1 := by unfold leS; rw [if_neg (fun z => z.2 g2)]
            exact finF (by rw [e, this]; simp)
          · rw [if_neg g2, if_neg (by omega)]
            have : leS X p = fwS X X.n.toNat (X.a p) := by unfold leS; rw [if_pos ⟨g11, g2⟩]
            exact finT (by rw [e, gj, this]; simp; omega)
        · rw [if_pos (by simp [g11, b2i])]
          have : leS X p = -1 := by unfold leS; rw [if_neg (fun z => g11 z.1)]
          exact finF (by rw [e, this]; simp)
    rw [if_neg h3]
    by_cases h4 : r = 4
    · subst h4
      have e : fitB X 4 p = decide (X.op p = 0 ∧ (6 ≤ thiS X p ∧ thiS X p ≤ 10) ∧ (thiS X p ≤ 8 ∨ ¬ X.a (p + 1) = 0)) := rfl
      rw [if_pos rfl, b207_73, s204_3 hX hx hv p0 p1]
      simp only [Option.toList_some, List.cons_append, List.nil_append]
      rw [b207_77]
      have no : ¬ 0 ≤ thiS X p → fitB X 4 p = false := fun z => by rw [e, decide_eq_false_iff_not]; omega
      by_cases ga : p + 2 < X.n ∧ jtS X (p + 1) = false ∧ jtS X (p + 2) = false
      · rw [if_neg (by simp [ga, b2i])]
        by_cases g0 : X.op p = 0
        · rw [if_pos g0]
          by_cases gn : nx = 0
          · have tv := (thi2 (X.op (p + 2)) ((hX.2 (p + 2) (by omega) ga.1).1).1).mpr ⟨ga, gn, rfl⟩
            have d2 := hx.2 (p + 2) (by omega) ga.1
            have d1 := hx.2 (p + 1) (by omega) (by omega)
            rw [if_pos gn, wr_id (z := B + p + 2) (by omega) (by omega), show B + p + 2 = B + (p + 2) by omega, d2.1]
            refine ⟨by omega, ?_⟩
            by_cases g6 : X.op (p + 2) < 6
            · rw [if_pos g6]; exact finF (by rw [e, decide_eq_false_iff_not]; omega)
            rw [if_neg g6]
            refine ⟨by omega, ?_⟩
            by_cases g10 : 10 < X.op (p + 2)
            · rw [if_pos g10]; exact finF (by rw [e, decide_eq_false_iff_not]; omega)
            rw [if_neg g10]
            refine ⟨by omega, ?_⟩
            by_cases g9 : X.op (p + 2) < 9
            · rw [if_pos g9, b207_113]; exact finT (by rw [e, decide_eq_true_eq]; omega)
            rw [if_neg g9, wr_id (z := B + p + 1) (by omega) (by omega), show B + p + 1 = B + (p + 1) by omega, d1.2.1]
            refine ⟨by omega, ?_⟩
            by_cases gz : X.a (p + 1) = 0
            · rw [if_pos gz]; exact finF (by rw [e, decide_eq_false_iff_not]; omega)
            · rw [if_neg gz, b207_113]; exact finT (by rw [e, decide_eq_true_eq]; omega)
          · rw [if_neg gn]
            exact finF (no (fun z => gn ((thi2 _ z).mp rfl).2.1))
        · rw [if_neg g0]
          exact finF (by rw [e, decide_eq_false_iff_not]; exact fun z => g0 z.1)
      · rw [if_pos (by simp [ga, b2i])]
        exact finF (no (fun z => ga ((thi2 _ z).mp rfl).1))
    rw [if_neg h4]
    have two : ∀ (Q' : Option j3_W → j3_S → Prop) (b : Bool), b = decide (p + 1 < X.n ∧ jtS X (p + 1) = false) → Q' (some (wI (b2i b))) σ → j3_tc true (d + 2) 204 [wO 10 121, wI p, wI 2] σ Q' := by
      intro Q' b hb hq
      rw [s204_2 hX hx hv p0 p1]
      have : decide (0 ≤ secS X p ∨ (p + 1 < X.n ∧ jtS X (p + 1) = false)) = b := by rw [hb]; exact decide_eq_decide.mpr al2
      rw [this]; exact hq
    by_cases h5 : r = 5
    · subst h5
      have e : fitB X 5 p = decide (secS X p = 4 ∧ (X.op p = 0 ∨ X.op p = 1 ∨ X.op p = 2 ∨ X.op p = 5)) := rfl
      rw [if_pos rfl, b207_117]
      refine two _ _ rfl ?_
      simp only [Option.toList_some, List.cons_append, List.nil_append]
      rw [b207_121]
      have s4 := sec2 4 (by omega)
      by_cases ga : p + 1 < X.n ∧ jtS X (p + 1) = false
      · rw [if_neg (by simp [ga, b2i])]
        by_cases gn : nx = 4
        · have sv := s4.mpr ⟨ga, gn⟩
          rw [if_pos gn]
          by_cases k0 : X.op p = 0
          · rw [if_pos k0, b207_136]; exact finT (by rw [e, decide_eq_true_eq]; exact ⟨sv, Or.inl k0⟩)
          rw [if_neg k0]
          by_cases k1 : X.op p = 1
          · rw [if_pos k1, b207_136]; exact finT (by rw [e, decide_eq_true_eq]; exact ⟨sv, Or.inr (Or.inl k1)⟩)
          rw [if_neg k1]
          by_cases k2 : X.op p = 2
          · rw [if_pos k2, b207_136]; exact finT (by rw [e, decide_eq_true_eq]; exact ⟨sv, Or.inr (Or.inr (Or.inl k2))⟩)
          rw [if_neg k2]
          by_cases k5 : X.op p = 5
          · rw [if_pos k5, b207_136]; exact finT (by rw [e, decide_eq_true_eq]; exact ⟨sv, Or.inr (Or.inr (Or.inr k5))⟩)
          rw [if_neg k5]
          exact finF (by rw [e, decide_eq_false_iff_not]; omega)
        · rw [if_neg gn]; exact finF (by rw [e, decide_eq_false_iff_not]; exact fun z => gn (s4.mp z.1).2)
      · rw [if_pos (by simp [ga, b2i])]; exact finF (by rw [e, decide_eq_false_iff_not]; exact fun z => ga (s4.mp z.1).1)
    rw [if_neg h5]
    by_cases h6 : r = 6
    · subst h6
      have e : fitB X 6 p = decide (X.op p = 0 ∧ secS X p = 12) := rfl
      rw [if_pos rfl, b207_140]
      refine two _ _ rfl ?_
      simp only [Option.toList_some, List.cons_append, List.nil_append]
      rw [b207_144]
      have s4 := sec2 12 (by omega)
      by_cases ga : p + 1 < X.n ∧ jtS X (p + 1) = false
      · rw [if_neg (by simp [ga, b2i])]
        by_cases k0 : X.op p = 0
        · rw [if_pos k0]
          by_cases gn : nx = 12
          · rw [if_pos gn]; exact finT (by rw [e, decide_eq_true_eq]; exact ⟨k0, s4.mpr ⟨ga, gn⟩⟩)
          · rw [if_neg gn]; exact finF (by rw [e, decide_eq_false_iff_not]; exact fun z => gn (s4.mp z.2).2)
        · rw [if_neg k0]; exact finF (by rw [e, decide_eq_false_iff_not]; exact fun z => k0 z.1)
      · rw [if_pos (by simp [ga, b2i])]; exact finF (by rw [e, decide_eq_false_iff_not]; exact fun z => ga (s4.mp z.2).1)
    rw [if_neg h6]
    by_cases h7 : r = 7
    · subst h7
      have e : fitB X 7 p = decide (X.op p = 0 ∧ thiS X p = 13) := rfl
      rw [if_pos rfl, b207_154, s204_3 hX hx hv p0 p1]
      simp only [Option.toList_some, List.cons_append, List.nil_append]
      rw [b207_158]
      have s4 := thi2 13 (by omega)
      by_cases ga : p + 2 < X.n ∧ jtS X (p + 1) = false ∧ jtS X (p + 2) = false
      · rw [if_neg (by simp [ga, b2i])]
        by_cases k0 : X.op p = 0
        · rw [if_pos k0]
          by_cases gn : nx = 0
          · have d2 := hx.2 (p + 2) (by omega) ga.1
            rw [if_pos gn, wr_id (z := B + p + 2) (by omega) (by omega), show B + p + 2 = B + (p + 2) by omega, d2.1]
            refine ⟨by omega, ?_⟩
            by_cases g13 : X.op (p + 2) = 13
            · rw [if_pos g13]; exact finT (by rw [e, decide_eq_true_eq]; exact ⟨k0, s4.mpr ⟨ga, gn, g13⟩⟩)
            · rw [if_neg g13]; exact finF (by rw [e, decide_eq_false_iff_not]; exact fun z => g13 (s4.mp z.2).2.2)
          · rw [if_neg gn]; exact finF (by rw [e, decide_eq_false_iff_not]; exact fun z => gn (s4.mp z.2).2.1)
        · rw [if_neg k0]; exact finF (by rw [e, decide_eq_false_iff_not]; exact fun z => k0 z.1)
      · rw [if_pos (by simp [ga, b2i])]; exact finF (by rw [e, decide_eq_false_iff_not]; exact fun z => ga (s4.mp z.2).1)
    rw [if_neg h7]
    by_cases h8 : r = 8
    · subst h8
      have e : fitB X 8 p = decide (X.op p = 1 ∧ secS X p = 14) := rfl
      rw [if_pos rfl, b207_175]
      refine two _ _ rfl ?_
      simp only [Option.toList_some, List.cons_append, List.nil_append]
      rw [b207_179]
      have s4 := sec2 14 (by omega)
      by_cases ga : p + 1 < X.n ∧ jtS X (p + 1) = false
      · rw [if_neg (by simp [ga, b2i])]
        by_cases k0 : X.op p = 1
        · rw [if_pos k0]
          by_cases gn : nx = 14
          · rw [if_pos gn]; exact finT (by rw [e, decide_eq_true_eq]; exact ⟨k0, s4.mpr ⟨ga, gn⟩⟩)
          · rw [if_neg gn]; exact finF (by rw [e, decide_eq_false_iff_not]; exact fun z => gn (s4.mp z.2).2)
        · rw [if_neg k0]; exact finF (by rw [e, decide_eq_false_iff_not]; exact fun z => k0 z.1)
      · rw [if_pos (by simp [ga, b2i])]; exact finF (by rw [e, decide_eq_false_iff_not]; exact fun z => ga (s4.mp z.2).1)
    rw [if_neg h8]
    by_cases h9 : r = 9
    · subst h9
      have e : fitB X 9 p = decide (X.op p = 0 ∧ ((X.a p = 0 ∧ (secS X p = 6 ∨ secS X p = 7)) ∨ (X.a p = 1 ∧ (secS X p = 8 ∨ secS X p = 9)))) := rfl
      rw [if_pos rfl, b207_190]
      refine two _ _ rfl ?_
      simp only [Option.toList_some, List.cons_append, List.nil_append]
      rw [b207_194, c2]
      have s6 := sec2 6 (by omega)
      have s7 := sec2 7 (by omega)
      have s8 := sec2 8 (by omega)
      have s9 := sec2 9 (by omega)
      by_cases ga : p + 1 < X.n ∧ jtS X (p + 1) = false
      · rw [if_neg (by simp [ga, b2i])]
        have q6 : secS X p = 6 ↔ nx = 6 := ⟨fun z => (s6.mp z).2, fun z => s6.mpr ⟨ga, z⟩⟩
        have q7 : secS X p = 7 ↔ nx = 7 := ⟨fun z => (s7.mp z).2, fun z => s7.mpr ⟨ga, z⟩⟩
        have q8 : secS X p = 8 ↔ nx = 8 := ⟨fun z => (s8.mp z).2, fun z => s8.mpr ⟨ga, z⟩⟩
        have q9 : secS X p = 9 ↔ nx = 9 := ⟨fun z => (s9.mp z).2, fun z => s9.mpr ⟨ga, z⟩⟩
        have e : fitB X 9 p = decide (X.op p = 0 ∧ ((X.a p = 0 ∧ (nx = 6 ∨ nx = 7)) ∨ (X.a p = 1 ∧ (nx = 8 ∨ nx = 9)))) := by
          rw [e]
          exact decide_eq_decide.mpr (by rw [q6, q7, q8, q9])
        by_cases k0 : X.op p = 0
        · rw [if_pos k0]
          refine ⟨by omega, ?_⟩
          have t208 : ¬ (X.a p = 0 ∧ (nx = 6 ∨ nx = 7)) → T207 (d + 2) Q 208 [wO 10 121, wI 9, wI p, wI (B + p), wI (X.op p), wI nx] [] σ := by
            intro ng
            rw [b207_208, c2]
            refine ⟨by omega, ?_⟩
            by_cases ka : X.a p = 1
            · rw [if_pos ka]
              by_cases n8 : nx = 8
              · rw [if_pos n8, b207_220]; exact finT (by rw [e, decide_eq_true_eq]; exact ⟨k0, Or.inr ⟨ka, Or.inl n8⟩⟩)
              rw [if_neg n8]
              by_cases n9 : nx = 9
              · rw [if_pos n9, b207_220]; exact finT (by rw [e, decide_eq_true_eq]; exact ⟨k0, Or.inr ⟨ka, Or.inr n9⟩⟩)
              · rw [if_neg n9]; exact finF (by rw [e, decide_eq_false_iff_not]; omega)
            · rw [if_neg ka]; exact finF (by rw [e, decide_eq_false_iff_not]; omega)
          by_cases kz : X.a p = 0
          · rw [if_pos kz]
            by_cases n6 : nx = 6
            · rw [if_pos n6, b207_220]; exact finT (by rw [e, decide_eq_true_eq]; exact ⟨k0, Or.inl ⟨kz, Or.inl n6⟩⟩)
            rw [if_neg n6]
            by_cases n7 : nx = 7
            · rw [if_pos n7, b207_220]; exact finT (by rw [e, decide_eq_true_eq]; exact ⟨k0, Or.inl ⟨kz, Or.inr n7⟩⟩)
            · rw [if_neg n7]; exact t208 (by omega)
          · rw [if_neg kz]; exact t208 (fun z => kz z.1)
        · rw [if_neg k0]; exact finF (by rw [e, decide_eq_false_iff_not]; exact fun z => k0 z.1)
      · rw [if_pos (by simp [ga, b2i])]
        refine finF (by rw [e, decide_eq_false_iff_not]; rintro ⟨-, ⟨-, z | z⟩ | ⟨-, z | z⟩⟩; exact ga (s6.mp z).1; exact ga (s7.mp z).1; exact ga (s8.mp z).1; exact ga (s9.mp z).1)
    rw [if_neg h9]
    by_cases h10 : r = 10
    · subst h10
      have e : fitB X 10 p = decide (X.op p = 3 ∧ ldS X (X.a p) = false) := rfl
      rw [if_pos rfl, b207_224, c2]
      by_cases k3 : X.op p = 3
      · have ra := o2 (Or.inr k3)
        have v6 := hv.2.2 (X.a p) ra.1 (by omega)
        rw [if_pos k3]
        refine ⟨by omega, by omega, ?_⟩
        cases gl : ldS X (X.a p)
        · rw [if_pos (v6.mpr gl)]; exact finT (by rw [e, decide_eq_true_eq]; exact ⟨k3, gl⟩)
        · rw [if_neg (fun z => by rw [v6.mp z] at gl; cases gl)]; exact finF (by rw [e, decide_eq_false_iff_not]; exact fun z => by rw [gl] at z; cases z.2)
      · rw [if_neg k3]; exact finF (by rw [e, decide_eq_false_iff_not]; exact fun z => k3 z.1)
    rw [if_neg h10]
    by_cases h11 : r = 11
    · subst h11
      have e : fitB X 11 p = decide (X.op p = 2 ∧ secS X p = 3 ∧ X.a p = X.a (p + 1)) := rfl
      rw [if_pos rfl, b207_239]
      refine two _ _ rfl ?_
      simp only [Option.toList_some, List.cons_append, List.nil_append]
      rw [b207_243, c2]
      have s4 := sec2 3 (by omega)
      by_cases ga : p + 1 < X.n ∧ jtS X (p + 1) = false
      · have d1 := hx.2 (p + 1) (by omega) ga.1
        rw [if_neg (by simp [ga, b2i])]
        by_cases k0 : X.op p = 2
        · rw [if_pos k0]
          by_cases gn : nx = 3
          · rw [if_pos gn, wr_id (z := B + p + 1) (by omega) (by omega), show B + p + 1 = B + (p + 1) by omega, d1.2.1]
            refine ⟨by omega, by omega, ?_⟩
            by_cases gq : X.a p = X.a (p + 1)
            · rw [if_pos gq]; exact finT (by rw [e, decide_eq_true_eq]; exact ⟨k0, s4.mpr ⟨ga, gn⟩, gq⟩)
            · rw [if_neg gq]; exact finF (by rw [e, decide_eq_false_iff_not]; exact fun z => gq z.2.2)
          · rw [if_neg gn]; exact finF (by rw [e, decide_eq_false_iff_not]; exact fun z => gn (s4.mp z.2.1).2)
        · rw [if_neg k0]; exact finF (by rw [e, decide_eq_false_iff_not]; exact fun z => k0 z.1)
      · rw [if_pos (by simp [ga, b2i])]; exact finF (by rw [e, decide_eq_false_iff_not]; exact fun z => ga (s4.mp z.2.1).1)
    rw [if_neg h11, b207_265]
    have e12 : r = 12 := by omega
    subst e12
    have e : fitB X 12 p = decide ((X.op p = 12 ∨ X.op p = 14) ∧ X.a p = p + 1) := rfl
    have t271 : (X.op p = 12 ∨ X.op p = 14) → T207 (d + 2) Q 271 [wO 10 121, wI 12, wI p, wI (B + p), wI (X.op p), wI nx] [] σ := by
      intro ho
      rw [b207_271, c2, wr_id (by omega) (by omega)]
      refine ⟨by omega, ?_⟩
      by_cases gq : X.a p = p + 1
      · rw [if_pos gq]; exact finT (by rw [e, decide_eq_true_eq]; exact ⟨ho, gq⟩)
      · rw [if_neg gq]; exact finF (by rw [e, decide_eq_false_iff_not]; exact fun z => gq z.2)
    by_cases k12 : X.op p = 12
    · rw [if_pos k12]; exact t271 (Or.inl k12)
    rw [if_neg k12]
    by_cases k14 : X.op p = 14
    · rw [if_pos k14]; exact t271 (Or.inr k14)
    · rw [if_neg k14]; exact finF (by rw [e, decide_eq_false_iff_not]; omega)
  rw [e207, b207_0, hx.1.1, hx.1.2, wr_id (z := B + p) (by omega) (by omega), wr_id (z := p + 1) (by omega) (by omega), c1]
  refine ⟨by omega, ?_⟩
  by_cases g : p + 1 < X.n
  · rw [if_pos g] at hnx ⊢
    rw [wr_id (z := B + p + 1) (by omega) (by omega), show B + p + 1 = B + (p + 1) by omega, (hx.2 (p + 1) (by omega) g).1, hnx]
    exact ⟨by omega, t24⟩
  · rw [if_neg g] at hnx ⊢
    rw [hnx]
    exact t24
end RFT
