/-! type, on both sides -/
def tyv (P : Pg) (x y z : Int) : Int := if x < 0 then -1 else if x < P 3001 0 then (if y < 0 then -1 else if y < P 0 x then (if z = 0 then (if (res P x).2.2.1 y < 0 then 0 else 1) else if (res P x).2.2.1 y < 0 then -1 else if z = 1 then (res P x).2.2.1 y else if 10 ≤ z ∧ z - 10 < P 3017 x then (res P x).2.2.2.2 y (z - 10) else if 30 ≤ z ∧ z - 30 < (res P x).2.2.1 y then (res P x).2.2.2.1 y (z - 30) else -1) else -1) else -1
section TYPE
variable {σ σ1 σc σr : j3_S} {P : Pg} {d : Nat} {Q : j3_P} {x y z m v : Int}
theorem ckF.smP {o g : Nat} (h : ckF o σ σ1) (h1 : ¬ g = o) (h2 : ¬ g = o + 17) : smP g σ σ1 := by
  refine ⟨⟨h.2.1 3000 g rfl, h.2.1 3001 g rfl⟩, fun e he => ?_⟩
  by_cases g4 : e = 4
  · subst g4
    exact ⟨h.2.2.2 g h2, h.2.2.2 (g + 17) (by omega)⟩
  · have : [4, 1005, 1006, 1007, 1008, 1009, 1011].elem e = false := by
      simp [pgA] at he
      rcases he with rfl | rfl | rfl | rfl | rfl | rfl | rfl | rfl | rfl | rfl | rfl | rfl | rfl | rfl | rfl | rfl | rfl | rfl | rfl | rfl | rfl <;> first | rfl | exact absurd rfl g4
    exact ⟨h.2.2.1 e g this, h.2.2.1 e (g + 17) this⟩
theorem JJ.cache (h : JJ σc σr) (hP : gpR σc σr P) (hS : ¬ σr.1 10044 121 = 0 → ∃ P', smR σc σr P P') (m0 : 0 ≤ m) (m1 : m < P 3001 0) (hk : ckF (σc.2.1 7) σc σ1) (hF : FC σ1 (P 3017 m) (res P m).2.2) (hA : ∀ j, 0 ≤ j → j < P 0 m → σ1.2.2 4 (σc.2.1 7 + 17) (m * 120 + j) = (res P m).2.2.1 j) (hz : ∀ z, z < m * 120 ∨ m * 120 + P 0 m ≤ z → σ1.2.2 4 (σc.2.1 7 + 17) z = σc.2.2 4 (σc.2.1 7 + 17) z) : JJ (j3_up σ1.1 9013 0 m, σ1.2.1, σ1.2.2) σr ∧ gpR (j3_up σ1.1 9013 0 m, σ1.2.1, σ1.2.2) σr P := by
  have p7 := hk.1 7 (by decide)
  have p8 := hk.1 8 (by decide)
  have p9 := hk.1 9 (by decide)
  have ki : ∀ e o, [1000, 1001, 1003, 1004, 1010, 1012, 1013, 1014, 9013].elem e = false → j3_up σ1.1 9013 0 m e o = σc.1 e o := by
    intro e o he
    simp at he
    rw [up_e (by simp; omega)]
    exact hk.2.1 e o (by simp; omega)
  have ka := hk.2.2.1
  have f3 : frm [1000, 1001, 1003, 1004, 1010, 1012, 1013, 1014, 9013] [4, 1005, 1006, 1007, 1008, 1009, 1011] σc (j3_up σ1.1 9013 0 m, σc.2.1, σ1.2.2) := ⟨rfl, ki, ka⟩
  have fr : frm [] [] σr σr := frm.rf
  have hg : gpR (j3_up σ1.1 9013 0 m, σ1.2.1, σ1.2.2) σr P := by
    obtain ⟨⟨a1, a2, a3, a4, a5⟩, ⟨b1, b2, b3⟩, ⟨c1, c2⟩⟩ := hP
    unfold gpR
    dsimp only
    rw [p7, ki 9009 0 rfl, ki 9007 0 rfl, ka 9008 0 rfl, up_r]
    refine ⟨⟨?_, fun c c0 c1 => by rw [ka 3004 _ rfl]; exact a2 c c0 c1, a3, a4, a5⟩, ⟨fun m' i m0' m1' i0 i1 => ?_, b2, Or.inr ⟨m0, m1, hF⟩⟩, c1, c2⟩
    · have hC := hk.CP a1
      exact hC.fr (li := [9013]) (la := []) (frm.I rfl frm.rf) ⟨rfl, rfl⟩ ⟨fun _ _ => rfl, fun _ _ _ => rfl⟩
    · by_cases gm : m' = m
      · subst gm
        exact hA i i0 i1
      · have := (bnd_of a4.1).2.2.2 m m0 m1
        have := (bnd_of a4.1).2.2.2 m' m0' m1'
        rw [hz _ (by omega)]
        exact b1 m' i m0' m1' i0 i1
  refine ⟨⟨⟨?_, ?_, ?_, ?_, ?_⟩, fun q => ⟨P, hg, fun q2 => ?_⟩⟩, hg⟩
  · exact (h.1.1.fr f3 fr rfl rfl rfl rfl : tpR (j3_up σ1.1 9013 0 m, σc.2.1, σ1.2.2) σr)
  · exact (h.1.2.1.fr f3 fr rfl rfl rfl : fR (j3_up σ1.1 9013 0 m, σc.2.1, σ1.2.2) σr)
  · exact (h.1.2.2.1.fr f3 fr rfl rfl rfl rfl : mR (j3_up σ1.1 9013 0 m, σc.2.1, σ1.2.2) σr)
  · have := h.1.2.2.2.1
    unfold flR at this ⊢
    dsimp only
    rw [ki 9005 0 rfl, ki 9006 0 rfl]
    exact this
  · have := h.1.2.2.2.2
    unfold ptR at this ⊢
    dsimp only
    rw [p7, p8, p9]
    exact this
  · obtain ⟨P', hs⟩ := hS q2
    have hp := h.1.2.2.2.2
    have s1 : smP (σc.2.1 8) σc σ1 := hk.smP (fun e => hp.2.2.2.1 e.symm) (by obtain ⟨h1, h2, -⟩ := hp; omega)
    have s2 : smP (σc.2.1 8) σ1 (j3_up σ1.1 9013 0 m, σ1.2.1, σ1.2.2) := smP.fr (li := [9013]) (la := []) (frm.I rfl frm.rf) ⟨rfl, rfl⟩ rfl
    refine ⟨P', hs.mv p8 (s1.tr s2) (fun e z _ _ _ _ _ => rfl) (ki 8001 90 rfl) (fun e he => ?_) (ka 8000 90 rfl) rfl (fun e he => rfl) ⟨ki 9009 0 rfl, ka 9008 0 rfl⟩⟩
    simp at he
    rcases he with rfl | rfl | rfl | rfl | rfl | rfl <;> exact ka _ 83 rfl
theorem s138 (h : JJ σc σr) (hP : gpR σc σr P) (hS : ¬ σr.1 10044 121 = 0 → ∃ P', smR σc σr P P') (m0 : 0 ≤ m) (m1 : m < P 3001 0) (hQ : ∀ σ', JJ σ' σr → FC σ' (P 3017 m) (res P m).2.2 → Q none σ') : j3_tc false (d + 7) 138 [wO 9 0, wI m] σc Q := by
  rw [e138, b138_0]
  by_cases g : σc.1 9013 0 = m
  · rw [if_pos g]
    refine hQ σc h ?_
    rcases hP.2.1.2.2 with b | ⟨-, -, b⟩
    · omega
    · rw [g] at b; exact b
  · rw [if_neg g]
    have hz := h.1.2.2.2.2.nz.1
    obtain ⟨a1, a2, a3, a4, a5⟩ := hP.1
    refine ⟨hz, s2 hz a1 a4.1 m0 m1 rfl (by omega) (res_e a4.1 m0 m1) ?_⟩
    intro σ' hk _ hr
    obtain ⟨r1, r2, r3⟩ := hr (a5 m m0 m1)
    simp only [Option.toList_some, List.cons_append, List.nil_append]
    rw [b138_10]
    refine hQ _ (h.cache hP hS m0 m1 hk r1 r2 r3).1 ?_
    exact r1
theorem q2_tell2 {yX yM : Nat} {as : List j3_W} (hc : ∀ Q : j3_P, (∀ σ', JJ σ' σr → Q (some (wI v)) σ') → j3_tc false 20 yX (wO 9 0 :: as) σc Q) (hr : ∀ Q : j3_P, Q (some (wI v)) (th0 σr) → j3_tc true 20 yM (wO 10 121 :: as) σr Q) : q2 JJ yX yM as σc σr := hc _ (fun σ' h => ⟨v, rfl, hr _ ⟨rfl, h.th⟩⟩)
theorem h137 (h : JJ σc σr) (zb : z < 2147483648) : q2 JJ 137 190 [wI x, wI y, wI z] σc σr := by
  have hf := h.1.2.2.2.1
  have hz := h.1.2.2.2.2.nz
  by_cases g : σr.1 10043 121 = 0
  · exact n137 (hf.1.1.trans g) g h.th
  obtain ⟨P, hP, hS⟩ := h.2 g
  obtain ⟨a1, a2, a3, a4, a5⟩ := hP.1
  have hM := a4.1.2.1.2.1
  refine q2_tell2 (v := tyv P x y z) (fun Q hQ => ?_) (fun Q hQ => ?_)
  · have hQ0 := hQ σc h
    unfold tyv at hQ hQ0
    rw [e137, b137_0, if_neg (by rw [hf.1.1]; exact g)]
    refine ⟨hz.1, ?_⟩
    rw [s45 a1 hM]
    simp only [Option.toList_some, List.cons_append, List.nil_append]
    rw [b137_8]
    by_cases gr : (0 ≤ x ∧ x < P 3001 0) ∧ 0 ≤ y ∧ y < P 0 x
    · have hb := (bnd_of a4.1).2.2.2 x gr.1.1 gr.1.2
      have : (decide (0 ≤ x) && decide (x < P 3001 0) && (decide (0 ≤ y) && decide (y < P 0 x))) = true := by simp [gr]
      rw [this, if_neg (show ¬ b2i true = 0 by decide)]
      rw [if_neg (show ¬ x < 0 by omega), if_pos gr.1.2, if_neg (show ¬ y < 0 by omega), if_pos gr.2.2] at hQ0
      simp only [if_neg (show ¬ x < 0 by omega), if_pos gr.1.2, if_neg (show ¬ y < 0 by omega), if_pos gr.2.2] at hQ
      simp (disch := omega) only [wr_id]
      rw [hP.2.1.1 x y gr.1.1 gr.1.2 gr.2.1 gr.2.2]
      refine ⟨hz.1, by omega, ?_⟩
      by_cases g0 : z = 0
      · rw [if_pos g0] at hQ0 ⊢
        by_cases gn : (res P x).2.2.1 y < 0
        · rw [if_pos gn] at hQ0 ⊢; exact hQ0
        · rw [if_neg gn] at hQ0 ⊢; exact hQ0
      rw [if_neg g0] at hQ0 ⊢
      simp only [if_neg g0] at hQ
      by_cases gn : (res P x).2.2.1 y < 0
      · rw [if_pos gn] at hQ0 ⊢; exact hQ0
      rw [if_neg gn] at hQ0 ⊢
      simp only [if_neg gn] at hQ
      by_cases g1 : z = 1
      · rw [if_pos g1] at hQ0 ⊢; exact hQ0
      rw [if_neg g1] at hQ0 ⊢
      simp only [if_neg g1] at hQ
      obtain ⟨-, -, -, -, q5, -⟩ := a4.1.2.2.2 x gr.1.1 gr.1.2
      have hok := (res_ty a4.1 gr.1.1 gr.1.2 (a5 x gr.1.1 gr.1.2)).2 y gr.2.1 (by omega) (by omega)
      have t62 : ¬ (10 ≤ z ∧ z - 10 < P 3017 x) → T137 19 Q 62 [wO 9 0, wI x, wI y, wI z, wI ((res P x).2.2.1 y)] [] σc := by
        intro gl
        rw [b137_62]
        rw [if_neg gl] at hQ0
        simp only [if_neg gl] at hQ
        by_cases g3 : z < 30
        · rw [if_neg (by omega)] at hQ0
          rw [if_pos g3]
          exact hQ0
        rw [if_neg g3]
        by_cases g4 : z - 30 < (res P x).2.2.1 y
        · simp only [if_pos (show 30 ≤ z ∧ z - 30 < (res P x).2.2.1 y by omega)] at hQ
          rw [wr_id (by omega) (by omega), if_pos g4]
          refine s138 h hP hS gr.1.1 gr.1.2 (fun σ' hj hF => ?_)
          simp only [Option.toList_none, List.nil_append]
          rw [b137_73, e4, b4_0]
          simp (disch := omega) only [wr_id]
          refine ⟨by omega, ?_⟩
          simp only [Option.toList_some, List.cons_append, List.nil_append]
          rw [b137_80, (hF.2 y gr.2.1 (by omega) (by omega)).1 (z - 30) (by omega) g4]
          exact hQ σ' hj
        · rw [if_neg (by omega)] at hQ0
          rw [wr_id (by omega) (by omega), if_neg g4]
          exact hQ0
      by_cases g10 : z < 10
      · rw [if_pos g10]
        exact t62 (by omega)
      rw [if_neg g10, (a1.2.2.2 x gr.1.1 gr.1.2).1.2.2.2.2.2.1]
      refine ⟨hz.1, by omega, ?_⟩
      by_cases gl : z - 10 < P 3017 x
      · simp only [if_pos (show 10 ≤ z ∧ z - 10 < P 3017 x by omega)] at hQ
        rw [if_pos gl]
        refine s138 h hP hS gr.1.1 gr.1.2 (fun σ' hj hF => ?_)
        simp only [Option.toList_none, List.nil_append]
        rw [b137_54, e3, b3_0]
        simp (disch := omega) only [wr_id]
        refine ⟨by omega, ?_⟩
        simp only [Option.toList_some, List.cons_append, List.nil_append]
        rw [b137_61, (hF.2 y gr.2.1 (by omega) (by omega)).2 (z - 10) (by omega) gl]
        exact hQ σ' hj
      · rw [if_neg gl]
        exact t62 (by omega)
    · have : (decide (0 ≤ x) && decide (x < P 3001 0) && (decide (0 ≤ y) && decide (y < P 0 x))) = false := by
        cases hb : (decide (0 ≤ x) && decide (x < P 3001 0) && (decide (0 ≤ y) && decide (y < P 0 x)))
        · rfl
        · simp at hb; exact absurd hb gr
      rw [this, if_pos (show b2i false = 0 from rfl)]
      by_cases g1 : x < 0
      · rw [if_pos g1] at hQ0; exact hQ0
      rw [if_neg g1] at hQ0
      by_cases g2 : x < P 3001 0
      · rw [if_pos g2] at hQ0
        by_cases g3 : y < 0
        · rw [if_pos g3] at hQ0; exact hQ0
        rw [if_neg g3, if_neg (by omega)] at hQ0
        exact hQ0
      · rw [if_neg g2] at hQ0; exact hQ0
  · unfold tyv at hQ
    have hm := a3.2.1
    rw [e190, b190_0, if_neg g]
    by_cases g1 : x < 0
    · rw [if_pos g1] at hQ ⊢; exact hQ
    rw [if_neg g1] at hQ ⊢
    refine ⟨by decide, ?_⟩
    rw [hm]
    by_cases g2 : x < P 3001 0
    · rw [if_pos g2] at hQ ⊢
      by_cases g3 : y < 0
      · rw [if_pos g3] at hQ ⊢; exact hQ
      rw [if_neg g3] at hQ ⊢
      obtain ⟨-, -, -, -, -, k6, k7⟩ := (a3.2.2.2 x (by omega) g2).1
      simp only [Int.mul_zero, Int.zero_add] at k6 k7
      refine ⟨by omega, ?_⟩
      rw [k7, k6]
      by_cases g4 : y < P 0 x
      · rw [if_pos g4] at hQ ⊢
        have hb := (bnd_of a4.1).2.2.2 x (by omega) g2
        obtain ⟨s1, s2⟩ := hP.2.1.2.1 x (by omega) g2 y (by omega) g4
        obtain ⟨-, q2, -, ⟨q4, -⟩, q5, -⟩ := a4.1.2.2.2 x (by omega) g2
        simp (disch := omega) only [wr_id]
        rw [s1]
        by_cases gn : (res P x).2.2.1 y < 0
        · simp only [if_pos gn] at hQ ⊢
          by_cases g0 : z = 0
          · rw [if_pos g0] at hQ ⊢
            rw [if_pos trivial]
            exact ⟨by omega, hQ⟩
          · rw [if_neg g0] at hQ ⊢
            rw [if_pos trivial]
            exact ⟨by omega, hQ⟩
        obtain ⟨t1, t2, t3⟩ := s2 (by omega)
        have hok := (res_ty a4.1 (by omega) g2 (a5 x (by omega) g2)).2 y (by omega) (by omega) (by omega)
        simp only [if_neg gn] at hQ ⊢
        by_cases g0 : z = 0
        · rw [if_pos g0] at hQ ⊢
          rw [if_neg (by decide)]
          exact ⟨by omega, hQ⟩
        rw [if_neg g0] at hQ ⊢
        rw [if_neg (by decide), t1]
        refine ⟨by omega, ?_⟩
        by_cases g1 : z = 1
        · rw [if_pos g1] at hQ ⊢
          exact ⟨by omega, hQ⟩
        rw [if_neg g1] at hQ ⊢
        have t78 : ¬ (10 ≤ z ∧ z - 10 < P 3017 x) → T190 19 Q 78 [wO 10 121, wI x, wI y, wI z, wI (120 * x + y)] [] (th0 σr) := by
          intro gl
          rw [if_neg gl] at hQ
          rw [b190_78]
          by_cases g3 : z < 30
          · rw [if_neg (by omega)] at hQ
            rw [if_pos g3]
            exact hQ
          rw [if_neg g3]
          refine ⟨by omega, ?_⟩
          rw [show (th0 σr).2.2 10036 121 (120 * x + y) = (res P x).2.2.1 y from t1]
          simp (disch := omega) only [wr_id]
          by_cases g5 : z < 30 + (res P x).2.2.1 y
          · rw [if_pos g5]
            rw [if_pos (by omega)] at hQ
            have := t2 (z - 30) (by omega) (by omega)
            rw [show 10 * (120 * x + y) + (z - 30) = 10 * (120 * x + y) + z - 30 by omega] at this
            rw [show (th0 σr).2.2 10037 121 (10 * (120 * x + y) + z - 30) = _ from this]
            exact ⟨by omega, hQ⟩
          · rw [if_neg g5]
            rw [if_neg (by omega)] at hQ
            exact hQ
        by_cases g10 : z < 10
        · rw [if_pos g10]
          exact t78 (by omega)
        rw [if_neg g10]
        refine ⟨by omega, ?_⟩
        by_cases gl : z < 10 + P 3017 x
        · rw [if_pos gl]
          rw [if_pos (by omega)] at hQ
          have := t3 (z - 10) (by omega) (by omega)
          rw [show 20 * (120 * x + y) + (z - 10) = 20 * (120 * x + y) + z - 10 by omega] at this
          rw [this]
          exact ⟨by omega, hQ⟩
        · rw [if_neg gl]
          exact t78 (by omega)
      · rw [if_neg g4] at hQ ⊢
        exact hQ
    · rw [if_neg g2] at hQ ⊢
      exact hQ
end TYPE
