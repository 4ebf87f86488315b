/-! the class's strip: which rule fits -/
section CRU
variable {σ σ0 σ' : j3_S} {P : Pg} {m nl x n p : Int} {X : Sx} {F : Fl} {W : Int → Int → Int → Prop} {d : Nat} {Q : j3_P}
theorem l116 (hX : okX nl X) (hS : SOk P m nl W X F) (hx : xC σ X) : ∀ (k : Nat) (x3 t : Int), x3 + k = X.n → 0 ≤ x3 → 0 ≤ t → t < X.n → 0 ≤ F.1 t → (∀ x', T116 (d + 1) Q 40 [wO 7 96, wI p, wI (fwS X k t), wI x'] [] σ) → T116 (d + 1) Q 19 [wO 7 96, wI p, wI t, wI x3] [] σ
  | 0, x3, t, h, h0, t0, t1, t2, hQ => by
    rw [b116_19, hx.1, if_neg (by omega)]
    exact hQ x3
  | k + 1, x3, t, h, h0, t0, t1, t2, hQ => by
    have hn := hX.1
    rw [b116_19, hx.1, if_pos (by omega), s112 hx.1]
    simp only [Option.toList_some, List.cons_append, List.nil_append]
    have : (decide (0 ≤ t) && decide (t < X.n)) = true := by simp; omega
    rw [this, b116_26, if_neg (show ¬ b2i true = 0 by decide), (hx.2 t t0 t1).1, (hx.2 t t0 t1).2.1]
    refine ⟨by omega, ?_⟩
    unfold fwS at hQ
    by_cases g : X.op t = 11
    · rw [if_pos g] at hQ ⊢
      obtain ⟨u1, u2, u3⟩ := hS.tg t0 t1 t2 (by rw [g]; rfl)
      rw [wr_id (by omega) (by omega)]
      exact ⟨by omega, l116 hX hS hx k (x3 + 1) (X.a t) (by omega) (by omega) u1 u2 u3 hQ⟩
    · rw [if_neg g] at hQ ⊢
      exact hQ x3
theorem s116 (hs : WFs P) (hX : okX nl X) (hS : SOk P m nl W X F) (hx : xC σ X) (p0 : 0 ≤ p) (p1 : p < X.n) (hp : 0 ≤ F.1 p) (hj : isj (X.op p) = true) (hQ : Q (some (wI (leS X p))) σ) : j3_tc false (d + 2) 116 [wO 7 96, wI p] σ Q := by
  have hn := hX.1
  obtain ⟨u1, u2, u3⟩ := hS.tg p0 p1 hp hj
  rw [e116, b116_0, (hx.2 p p0 p1).2.1, s112 hx.1]
  refine ⟨by omega, ?_⟩
  simp only [Option.toList_some, List.cons_append, List.nil_append]
  have : (decide (0 ≤ X.a p) && decide (X.a p < X.n)) = true := by simp; omega
  rw [this, b116_8, if_neg (show ¬ b2i true = 0 by decide), (hx.2 _ u1 u2).1]
  refine ⟨by omega, ?_⟩
  unfold leS at hQ
  by_cases g : X.op (X.a p) = 11
  · rw [if_pos g]
    obtain ⟨⟨w1, w2, w3⟩, -⟩ := fw_flw hs hS X.n.toNat (X.a p) u1 u2 u3
    refine l116 hX hS hx X.n.toNat 0 (X.a p) (by omega) (by omega) u1 u2 u3 (fun x' => ?_)
    rw [b116_40, s112 hx.1]
    simp only [Option.toList_some, List.cons_append, List.nil_append]
    have : (decide (0 ≤ fwS X X.n.toNat (X.a p)) && decide (fwS X X.n.toNat (X.a p) < X.n)) = true := by simp; omega
    rw [this, b116_43, if_neg (show ¬ b2i true = 0 by decide), (hx.2 _ w1 w2).1]
    refine ⟨by omega, ?_⟩
    by_cases g2 : X.op (fwS X X.n.toNat (X.a p)) = 11
    · rw [if_pos g2]
      rw [if_neg (fun z => z.2 g2)] at hQ
      exact hQ
    · rw [if_neg g2]
      rw [if_pos ⟨g, g2⟩] at hQ
      exact hQ
  · rw [if_neg g]
    rw [if_neg (fun z => g z.1)] at hQ
    exact hQ
theorem s115 (hX : okX nl X) (hx : xC σ X) (hv : svC σ X) (p0 : 0 ≤ p) (p1 : p < X.n) (hQ : Q (some (wI (ruI X p))) σ) : j3_tc false (d + 2) 115 [wO 7 96, wI p, wI (secS X p)] σ Q := by
  have hn := hX.1
  have t23 : T115 (d + 1) Q 23 [wO 7 96, wI p, wI (secS X p), wM 2, wM 2, wM 2] [wI (thiS X p)] σ := by
    have t42 : ¬ ((6 ≤ thiS X p ∧ thiS X p ≤ 10) ∧ (thiS X p ≤ 8 ∨ ¬ X.a (p + 1) = 0)) → T115 (d + 1) Q 42 [wO 7 96, wI p, wI (secS X p), wI (thiS X p), wM 2, wM 2] [] σ := by
      intro g
      unfold ruI at hQ
      rw [if_neg g] at hQ
      rw [b115_42, (hx.2 p p0 p1).2.1]
      by_cases g4 : secS X p = 4
      · rw [if_pos g4] at hQ ⊢; exact hQ
      rw [if_neg g4] at hQ ⊢
      by_cases g12 : secS X p = 12
      · rw [if_pos g12] at hQ ⊢; exact hQ
      rw [if_neg g12] at hQ ⊢
      by_cases g13 : thiS X p = 13
      · rw [if_pos g13] at hQ ⊢; exact hQ
      rw [if_neg g13] at hQ ⊢
      refine ⟨by omega, ?_⟩
      have t71 : ∀ v, (v = 0 ∨ v = 1) → (v = 1 ↔ (X.a p = 0 ∧ (secS X p = 6 ∨ secS X p = 7))) → T115 (d + 1) Q 71 [wO 7 96, wI p, wI (secS X p), wI (thiS X p), wM 2, wM 2] [wI v] σ := by
        intro v hv1 hv2
        rw [b115_71, (hx.2 p p0 p1).2.1]
        refine ⟨by omega, ?_⟩
        have t87 : ∀ u, (u = 0 ∨ u = 1) → (u = 1 ↔ (X.a p = 1 ∧ (secS X p = 8 ∨ secS X p = 9))) → T115 (d + 1) Q 87 [wO 7 96, wI p, wI (secS X p), wI (thiS X p), wI v, wM 2] [wI u] σ := by
          intro u hu1 hu2
          rw [b115_87]
          by_cases gv : v = 0
          · rw [if_pos gv]
            by_cases gu : u = 0
            · rw [if_pos gu]
              have ng : ¬ ((X.a p = 0 ∧ (secS X p = 6 ∨ secS X p = 7)) ∨ (X.a p = 1 ∧ (secS X p = 8 ∨ secS X p = 9))) := by
                rintro (z | z)
                · have := hv2.mpr z; omega
                · have := hu2.mpr z; omega
              rw [if_neg ng] at hQ
              exact hQ
            · rw [if_neg gu, b115_92]
              rw [if_pos (Or.inr (hu2.mp (by omega)))] at hQ
              exact hQ
          · rw [if_neg gv, b115_92]
            rw [if_pos (Or.inl (hv2.mp (by omega)))] at hQ
            exact hQ
        by_cases g1 : X.a p = 1
        · rw [if_pos g1]
          by_cases g8 : secS X p = 8
          · rw [if_pos g8, b115_84]; exact t87 1 (Or.inr rfl) ⟨fun _ => ⟨g1, Or.inl g8⟩, fun _ => rfl⟩
          · rw [if_neg g8]
            by_cases g9 : secS X p = 9
            · rw [if_pos g9, b115_84]; exact t87 1 (Or.inr rfl) ⟨fun _ => ⟨g1, Or.inr g9⟩, fun _ => rfl⟩
            · rw [if_neg g9, b115_86]; exact t87 0 (Or.inl rfl) ⟨fun z => absurd z (by decide), fun z => by omega⟩
        · rw [if_neg g1, b115_86]; exact t87 0 (Or.inl rfl) ⟨fun z => absurd z (by decide), fun z => absurd z.1 g1⟩
      by_cases g0 : X.a p = 0
      · rw [if_pos g0]
        by_cases g6 : secS X p = 6
        · rw [if_pos g6, b115_68]; exact t71 1 (Or.inr rfl) ⟨fun _ => ⟨g0, Or.inl g6⟩, fun _ => rfl⟩
        · rw [if_neg g6]
          by_cases g7 : secS X p = 7
          · rw [if_pos g7, b115_68]; exact t71 1 (Or.inr rfl) ⟨fun _ => ⟨g0, Or.inr g7⟩, fun _ => rfl⟩
          · rw [if_neg g7, b115_70]; exact t71 0 (Or.inl rfl) ⟨fun z => absurd z (by decide), fun z => by omega⟩
      · rw [if_neg g0, b115_70]; exact t71 0 (Or.inl rfl) ⟨fun z => absurd z (by decide), fun z => absurd z.1 g0⟩
    rw [b115_23]
    by_cases g6 : thiS X p < 6
    · rw [if_pos g6]; exact t42 (by omega)
    rw [if_neg g6]
    by_cases g10 : 10 < thiS X p
    · rw [if_pos g10]; exact t42 (by omega)
    rw [if_neg g10]
    by_cases g8 : 8 < thiS X p
    · rw [if_pos g8, wr_id (by omega) (by omega)]
      have h2 : p + 2 < X.n := by
        unfold thiS at g8
        by_cases g : secS X p = 0 ∧ p + 2 < X.n ∧ jtS X (p + 2) = false
        · exact g.2.1
        · rw [if_neg g] at g8; omega
      rw [(hx.2 (p + 1) (by omega) (by omega)).2.1]
      refine ⟨by omega, ?_⟩
      by_cases ga : X.a (p + 1) = 0
      · rw [if_pos ga]; exact t42 (by omega)
      · rw [if_neg ga]
        unfold ruI at hQ
        rw [if_pos (by omega)] at hQ
        exact hQ
    · rw [if_neg g8]
      unfold ruI at hQ
      rw [if_pos (by omega)] at hQ
      exact hQ
  rw [e115, b115_0]
  unfold thiS at t23
  by_cases g : secS X p = 0
  · rw [if_pos g, wr_id (by omega) (by omega), s112 hx.1]
    simp only [Option.toList_some, List.cons_append, List.nil_append]
    rw [b115_7]
    by_cases g2 : p + 2 < X.n
    · have : (decide (0 ≤ p + 2) && decide (p + 2 < X.n)) = true := by simp; omega
      rw [this, if_neg (show ¬ b2i true = 0 by decide), wr_id (by omega) (by omega)]
      refine ⟨by omega, ?_⟩
      have hv2 := hv.2.1 (p + 2) (by omega) g2
      by_cases g3 : jtS X (p + 2) = false
      · rw [if_pos (hv2.mpr g3), (hx.2 (p + 2) (by omega) g2).1]
        rw [if_pos ⟨g, g2, g3⟩] at t23
        exact ⟨by omega, t23⟩
      · rw [if_neg (fun z => g3 (hv2.mp z)), b115_22]
        rw [if_neg (fun z => g3 z.2.2)] at t23
        exact t23
    · have : (decide (0 ≤ p + 2) && decide (p + 2 < X.n)) = false := by simp; omega
      rw [this, if_pos (show b2i false = 0 from rfl), b115_22]
      rw [if_neg (fun z => g2 z.2.1)] at t23
      exact t23
  · rw [if_neg g, b115_22]
    rw [if_neg (fun z => g z.1)] at t23
    exact t23
theorem s114 (hs : WFs P) (hX : okX nl X) (h20 : nl ≤ 20) (hS : SOk P m nl W X F) (hx : xC σ X) (hv : svC σ X) (p0 : 0 ≤ p) (p1 : p < X.n) (hQ : Q (some (wI (ruS X p))) σ) : j3_tc false (d + 3) 114 [wO 7 96, wI p] σ Q := by
  have hn := hX.1
  obtain ⟨c1, c2, -⟩ := hx.2 p p0 p1
  obtain ⟨o1, o2, o3⟩ := hX.2 p p0 p1
  have v7 := hv.1 p p0 p1
  rw [e114, b114_0, c1, c2, wr_id (by omega) (by omega)]
  refine ⟨by omega, ?_⟩
  unfold ruS at hQ
  by_cases g7 : snB X p = false
  · rw [if_pos (v7.mpr g7)]
    rw [if_pos g7] at hQ
    exact hQ
  rw [if_neg (fun z => g7 (v7.mp z))]
  rw [if_neg g7] at hQ
  refine ⟨by omega, ?_⟩
  have hp := sn_ty hS (show snB X p = true by simpa using g7)
  have t35 : (¬ (X.op p = 11 ∧ X.a p = p + 1) → ¬ (isj (X.op p) = true ∧ ¬ leS X p = -1) → T114 (d + 2) Q 35 [wO 7 96, wI p, wI (X.op p), wM 2] [] σ) := by
    intro n1 n2
    rw [if_neg n1, if_neg n2] at hQ
    have t56 : T114 (d + 2) Q 56 [wO 7 96, wI p, wI (X.op p), wM 2] [wI (secS X p)] σ := by
      rw [b114_56]
      by_cases g0 : X.op p = 0
      · rw [if_pos g0] at hQ ⊢
        rw [b114_59]
        refine s115 hX hx hv p0 p1 ?_
        simp only [Option.toList_some, List.cons_append, List.nil_append]
        rw [b114_63]
        exact hQ
      rw [if_neg g0] at hQ ⊢
      by_cases g1 : X.op p = 1
      · rw [if_pos g1] at hQ ⊢
        rw [b114_64]
        by_cases g4 : secS X p = 4
        · rw [if_pos g4] at hQ ⊢; exact hQ
        rw [if_neg g4] at hQ ⊢
        by_cases g14 : secS X p = 14
        · rw [if_pos g14] at hQ ⊢; exact hQ
        · rw [if_neg g14] at hQ ⊢; exact hQ
      rw [if_neg g1] at hQ ⊢
      by_cases g2 : X.op p = 2
      · rw [if_pos g2] at hQ ⊢
        rw [b114_76]
        by_cases g4 : secS X p = 4
        · rw [if_pos g4] at hQ ⊢; exact hQ
        rw [if_neg g4] at hQ ⊢
        by_cases g3 : secS X p = 3
        · have h1 : p + 1 < X.n := by
            unfold secS at g3
            by_cases g : p + 1 < X.n ∧ jtS X (p + 1) = false
            · exact g.1
            · rw [if_neg g] at g3; omega
          rw [if_pos g3, c2, wr_id (by omega) (by omega), (hx.2 (p + 1) (by omega) h1).2.1]
          refine ⟨by omega, by omega, ?_⟩
          by_cases ga : X.a p = X.a (p + 1)
          · rw [if_pos ga]
            rw [if_pos ⟨g3, ga⟩] at hQ
            exact hQ
          · rw [if_neg ga]
            rw [if_neg (fun z => ga z.2)] at hQ
            exact hQ
        · rw [if_neg g3]
          rw [if_neg (fun z => g3 z.1)] at hQ
          exact hQ
      rw [if_neg g2] at hQ ⊢
      by_cases g5 : X.op p = 5
      · rw [if_pos g5] at hQ
        rw [if_neg (by omega), if_neg (by omega), if_pos g5, b114_99]
        by_cases g4 : secS X p = 4
        · rw [if_pos g4] at hQ ⊢; exact hQ
        · rw [if_neg g4] at hQ ⊢; exact hQ
      rw [if_neg g5] at hQ
      by_cases g3 : X.op p = 3
      · rw [if_pos g3] at hQ ⊢
        have ra := o2 (Or.inr g3)
        have v11 := hv.2.2 (X.a p) ra.1 (by omega)
        rw [b114_106, c2]
        refine ⟨by omega, by omega, ?_⟩
        by_cases gl : ldS X (X.a p) = false
        · rw [if_pos (v11.mpr gl)]
          rw [if_pos gl] at hQ
          exact hQ
        · rw [if_neg (fun z => gl (v11.mp z))]
          rw [if_neg gl] at hQ
          exact hQ
      rw [if_neg g3] at hQ ⊢
      by_cases g12 : X.op p = 12 ∨ X.op p = 14
      · rw [if_pos g12] at hQ
        have t118 : ∀ op3 : Int, T114 (d + 2) Q 118 [wO 7 96, wI p, wI op3, wI (secS X p)] [] σ := by
          intro op3
          rw [b114_118, c2, wr_id (by omega) (by omega)]
          refine ⟨by omega, ?_⟩
          by_cases ga : X.a p = p + 1
          · rw [if_pos ga] at hQ ⊢; exact hQ
          · rw [if_neg ga] at hQ ⊢; exact hQ
        rcases g12 with g | g
        · rw [g]; exact t118 12
        · rw [g]; exact t118 14
      · rw [if_neg g12] at hQ
        have t130 : ∀ op3 : Int, T114 (d + 2) Q 130 [wO 7 96, wI p, wI op3, wI (secS X p)] [] σ := by
          intro op3
          rw [b114_130]; exact hQ
        rw [if_neg g5]
        by_cases g4 : X.op p = 4
        · rw [if_pos g4]; exact t130 _
        rw [if_neg g4]
        by_cases h : X.op p = 6
        · rw [if_pos h]; exact t130 _
        rw [if_neg h]
        by_cases h : X.op p = 7
        · rw [if_pos h]; exact t130 _
        rw [if_neg h]
        by_cases h : X.op p = 8
        · rw [if_pos h]; exact t130 _
        rw [if_neg h]
        by_cases h : X.op p = 9
        · rw [if_pos h]; exact t130 _
        rw [if_neg h]
        by_cases h : X.op p = 10
        · rw [if_pos h]; exact t130 _
        rw [if_neg h]
        by_cases h : X.op p = 11
        · rw [if_pos h]; exact t130 _
        rw [if_neg h, if_neg (fun z => g12 (Or.inl z))]
        by_cases h : X.op p = 13
        · rw [if_pos h]; exact t130 _
        rw [if_neg h, if_neg (fun z => g12 (Or.inr z))]
        exact t130 _
    rw [b114_35, wr_id (by omega) (by omega), s112 hx.1]
    simp only [Option.toList_some, List.cons_append, List.nil_append]
    rw [b114_40]
    unfold secS at t56
    by_cases g2 : p + 1 < X.n
    · have : (decide (0 ≤ p + 1) && decide (p + 1 < X.n)) = true := by simp; omega
      rw [this, if_neg (show ¬ b2i true = 0 by decide), wr_id (by omega) (by omega)]
      refine ⟨by omega, ?_⟩
      have hv2 := hv.2.1 (p + 1) (by omega) g2
      by_cases g3 : jtS X (p + 1) = false
      · rw [if_pos (hv2.mpr g3), (hx.2 (p + 1) (by omega) g2).1]
        rw [if_pos ⟨g2, g3⟩] at t56
        exact ⟨by omega, t56⟩
      · rw [if_neg (fun z => g3 (hv2.mp z)), b114_55]
        rw [if_neg (fun z => g3 z.2)] at t56
        exact t56
    · have : (decide (0 ≤ p + 1) && decide (p + 1 < X.n)) = false := by simp; omega
      rw [this, if_pos (show b2i false = 0 from rfl), b114_55]
      rw [if_neg (fun z => g2 z.1)] at t56
      exact t56
  have t25 : ¬ (X.op p = 11 ∧ X.a p = p + 1) → T114 (d + 2) Q 25 [wO 7 96, wI p, wI (X.op p), wM 2] [] σ := by
    intro n1
    rw [if_neg n1] at hQ
    rw [b114_25, s151]
    simp only [Option.toList_some, List.cons_append, List.nil_append]
    rw [b114_27]
    cases gj : isj (X.op p)
    · rw [if_pos (show b2i false = 0 from rfl)]
      exact t35 n1 (fun z => by rw [gj] at z; cases z.1)
    · rw [if_neg (show ¬ b2i true = 0 by decide)]
      refine s116 hs hX hS hx p0 p1 hp gj ?_
      simp only [Option.toList_some, List.cons_append, List.nil_append]
      rw [b114_31]
      by_cases gl : leS X p = -1
      · rw [if_pos gl]
        exact t35 n1 (fun z => z.2 gl)
      · rw [if_neg gl]
        rw [if_pos ⟨gj, gl⟩] at hQ
        exact hQ
  by_cases g11 : X.op p = 11
  · rw [if_pos g11]
    refine ⟨by omega, ?_⟩
    by_cases ga : X.a p = p + 1
    · rw [if_pos ga]
      rw [if_pos ⟨g11, ga⟩] at hQ
      exact hQ
    · rw [if_neg ga]
      exact t25 (fun z => ga z.2)
  · rw [if_neg g11]
    exact t25 (fun z => g11 z.1)
theorem l110 (hs : WFs P) (hX : okX nl X) (h20 : nl ≤ 20) (hS : SOk P m nl W X F) (hx : xC σ X) (hv : svC σ X) : ∀ (k : Nat) (x : Int), x + k = X.n → 0 ≤ x → Q (some (wI (ffS X k x))) σ → T110 (d + 3) Q 2 [wO 7 96, wI x] [] σ
  | 0, x, h, h0, hQ => by
    rw [b110_2, hx.1, if_neg (by omega)]
    exact hQ
  | k + 1, x, h, h0, hQ => by
    have hn := hX.1
    rw [b110_2, hx.1, if_pos (by omega)]
    refine s114 hs hX h20 hS hx hv h0 (by omega) ?_
    simp only [Option.toList_some, List.cons_append, List.nil_append]
    unfold ffS at hQ
    rw [b110_9]
    by_cases g : ruS X x = 0
    · rw [if_pos g, wr_id (by omega) (by omega)]
      rw [if_neg (fun z => z g)] at hQ
      exact l110 hs hX h20 hS hx hv k (x + 1) (by omega) (by omega) hQ
    · rw [if_neg g]
      rw [if_pos g] at hQ
      exact hQ
end CRU
