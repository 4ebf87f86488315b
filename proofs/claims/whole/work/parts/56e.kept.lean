/-! kept and origin, on both sides -/
section KEPT
variable {σ σc σr : j3_S} {P P' : Pg} {d : Nat} {Q : j3_P} {x y z : Int}
theorem h142 (h : JJ σc σr) : q2 JJ 142 228 [wI x, wI y, wI z] σc σr := by
  have hf := h.1.2.2.2.1
  have hz := h.1.2.2.2.2.nz
  by_cases g : σr.1 10044 121 = 0
  · exact n142 (hf.2.1.1.trans g) g h.th
  obtain ⟨P, hP, hS⟩ := h.2 (hf.2.2.1 g)
  obtain ⟨P', ⟨s1, s2, s3, s4, -⟩, ⟨k1, k2, k3⟩, -⟩ := hS g
  obtain ⟨a1, a2, a3, a4, a5⟩ := hP.1
  have hn := a4.1.1.2.1
  have hM := a4.1.2.1.2.1
  have hn' := s4.1.1.2.1
  have hM' := s4.1.2.1.2.1
  have c0 : ∀ Q : j3_P, j3_tc false 20 142 [wO 9 0, wI x, wI y, wI z] σc Q = (¬ σc.2.1 7 = 0 ∧ T142 19 Q 7 [wO 9 0, wI x, wI y, wI z, wM 2] [wI (b2i (decide (0 ≤ y) && decide (y < P 3000 0)))] σc) := by
    intro Q
    rw [e142, b142_0, if_neg (by rw [hf.2.1.1]; exact g), s41 a1]
    simp only [Option.toList_some, List.cons_append, List.nil_append]
  by_cases gy : 0 ≤ y ∧ y < P 3000 0
  · have hb : (decide (0 ≤ y) && decide (y < P 3000 0)) = true := by simp [gy]
    have c1 : ∀ Q : j3_P, (if x = 0 then Q (some (wI (σc.2.2 6000 83 y))) σc else if x = 1 then T142 19 Q 26 [wO 9 0, wI x, wI y, wI z, wM 2] [wI (b2i (decide (0 ≤ z) && decide (z < P 3005 y)))] σc else T142 19 Q 37 [wO 9 0, wI x, wI y, wI z, wM 2] [] σc) → j3_tc false 20 142 [wO 9 0, wI x, wI y, wI z] σc Q := by
      intro Q hQ
      rw [c0, hb, b142_7, if_neg (show ¬ b2i true = 0 by decide), s42 a1 hn, hb]
      refine ⟨hz.1, ?_⟩
      by_cases g0 : x = 0
      · rw [if_pos g0] at hQ ⊢; exact ⟨by omega, hQ⟩
      rw [if_neg g0] at hQ ⊢
      by_cases g1 : x = 1
      · rw [if_pos g1] at hQ ⊢
        exact ⟨hz.1, hQ⟩
      rw [if_neg g1] at hQ ⊢
      exact hQ
    obtain ⟨-, -, r5, r6, r7⟩ := (a3.2.2.1 y gy.1 gy.2).1
    simp only [Int.mul_zero, Int.zero_add] at r5 r6 r7
    have r1 : ∀ Q : j3_P, (if x = 0 then Q (some (wI (σr.2.2 10069 121 y))) (th0 σr) else if x = 1 then (if z < 0 then Q (some (wI (-1))) (th0 σr) else if z < P 3005 y then Q (some (wI (σr.2.2 10070 121 (6 * y + z)))) (th0 σr) else Q (some (wI (-1))) (th0 σr)) else if x = 2 then (if z < 0 then Q (some (wI (-1))) (th0 σr) else if z < P 3006 y then Q (some (wI (σr.2.2 10071 121 (P 3007 y + z)))) (th0 σr) else Q (some (wI (-1))) (th0 σr)) else Q (some (wI (-1))) (th0 σr)) → j3_tc true 20 228 [wO 10 121, wI x, wI y, wI z] σr Q := by
      intro Q hQ
      rw [e228, b228_0, if_neg g, if_neg (by omega), a3.1, if_pos gy.2, r5, r6, r7]
      refine ⟨by decide, ?_⟩
      by_cases g0 : x = 0
      · rw [if_pos g0] at hQ ⊢; exact ⟨by omega, hQ⟩
      rw [if_neg g0] at hQ ⊢
      by_cases g1 : x = 1
      · rw [if_pos g1] at hQ ⊢
        by_cases g2 : z < 0
        · rw [if_pos g2] at hQ ⊢; rw [b228_34]; exact hQ
        rw [if_neg g2] at hQ ⊢
        refine ⟨by omega, ?_⟩
        by_cases g3 : z < P 3005 y
        · have := (a4.1.2.2.1 y gy.1 gy.2).2.1
          rw [if_pos g3] at hQ ⊢
          simp (disch := omega) only [wr_id]
          exact ⟨by omega, hQ⟩
        · rw [if_neg g3] at hQ ⊢; rw [b228_34]; exact hQ
      rw [if_neg g1] at hQ ⊢
      by_cases g1 : x = 2
      · rw [if_pos g1] at hQ ⊢
        by_cases g2 : z < 0
        · rw [if_pos g2] at hQ ⊢; rw [b228_56]; exact hQ
        rw [if_neg g2] at hQ ⊢
        refine ⟨by omega, ?_⟩
        by_cases g3 : z < P 3006 y
        · have := a4.1.2.1.2.2 y gy.1 gy.2
          rw [if_pos g3] at hQ ⊢
          simp (disch := omega) only [wr_id]
          exact ⟨by omega, by omega, hQ⟩
        · rw [if_neg g3] at hQ ⊢; rw [b228_56]; exact hQ
      rw [if_neg g1] at hQ ⊢
      rw [b228_56]
      exact hQ
    by_cases g0 : x = 0
    · refine q2_tell (v := σc.2.2 6000 83 y) (fun Q hQ => c1 Q ?_) (fun Q hQ => r1 Q ?_) h.th
      · rw [if_pos g0]; exact hQ
      · rw [if_pos g0, k1 y gy.1 gy.2]; exact hQ
    simp only [if_neg g0] at c1 r1
    by_cases g1 : x = 1
    · simp only [if_pos g1] at c1 r1
      by_cases gz : 0 ≤ z ∧ z < P 3005 y
      · have hz2 : (decide (0 ≤ z) && decide (z < P 3005 y)) = true := by simp [gz]
        have := (a4.1.2.2.1 y gy.1 gy.2).2.1
        refine q2_tell (v := σc.2.2 6001 83 (y * 6 + z)) (fun Q hQ => c1 Q ?_) (fun Q hQ => r1 Q ?_) h.th
        · rw [hz2, b142_26, if_neg (show ¬ b2i true = 0 by decide)]
          simp (disch := omega) only [wr_id]
          exact ⟨by omega, hQ⟩
        · rw [if_neg (by omega), if_pos gz.2, k2 y z gy.1 gy.2 gz.1 gz.2]; exact hQ
      · have hz2 : (decide (0 ≤ z) && decide (z < P 3005 y)) = false := by simp; omega
        refine q2_tell (v := -1) (fun Q hQ => c1 Q ?_) (fun Q hQ => r1 Q ?_) h.th
        · rw [hz2, b142_26, if_pos (show b2i false = 0 from rfl), b142_37, if_neg (by omega)]
          exact hQ
        · by_cases g2 : z < 0
          · rw [if_pos g2]; exact hQ
          · rw [if_neg g2, if_neg (by omega)]; exact hQ
    simp only [if_neg g1] at c1 r1
    by_cases g2 : x = 2
    · simp only [if_pos g2] at r1
      have c2 : ∀ Q : j3_P, T142 19 Q 45 [wO 9 0, wI x, wI y, wI z, wM 2] [wI (b2i (decide (0 ≤ z) && decide (z < P 3006 y)))] σc → j3_tc false 20 142 [wO 9 0, wI x, wI y, wI z] σc Q := by
        intro Q hQ
        refine c1 Q ?_
        rw [b142_37, if_pos g2, s43 a1 hn, hb]
        exact ⟨hz.1, hQ⟩
      by_cases gz : 0 ≤ z ∧ z < P 3006 y
      · have hz2 : (decide (0 ≤ z) && decide (z < P 3006 y)) = true := by simp [gz]
        have hm := a4.1.2.1.2.2 y gy.1 gy.2
        have c7 := (a1.2.2.1 y gy.1 gy.2).1.2.2.2.2
        rcases k3 (P 3007 y + z) (by omega) (by omega) with ⟨u1, u2⟩ | ⟨u1, u2, u3, u4⟩
        · refine q2_tell (v := -1) (fun Q hQ => c2 Q ?_) (fun Q hQ => r1 Q ?_) h.th
          · rw [hz2, b142_45, if_neg (show ¬ b2i true = 0 by decide), c7, wr_id (by omega) (by omega), if_pos u1]
            exact ⟨hz.1, by omega, by omega, hQ⟩
          · rw [if_neg (by omega), if_pos gz.2, u2]; exact hQ
        · refine q2_tell (v := σr.2.2 10071 121 (P 3007 y + z)) (fun Q hQ => c2 Q ?_) (fun Q hQ => r1 Q ?_) h.th
          · obtain ⟨w1, -⟩ := s4.1.2.2.2 _ u1 u2
            have w2 := s4.1.2.1.2.2 _ w1.1 w1.2.1
            have w3 := (s1.2.2.2 _ u1 u2).1.1
            have w4 := (s1.2.2.1 _ w1.1 w1.2.1).1.2.2.2.2
            rw [hz2, b142_45, if_neg (show ¬ b2i true = 0 by decide), c7, wr_id (z := P 3007 y + z) (by omega) (by omega), if_neg (by omega), w3, w4, wr_id (by omega) (by omega), ← u4]
            exact ⟨hz.1, by omega, by omega, hz.2, hz.2, by omega, by omega, hQ⟩
          · rw [if_neg (by omega), if_pos gz.2]; exact hQ
      · have hz2 : (decide (0 ≤ z) && decide (z < P 3006 y)) = false := by simp; omega
        refine q2_tell (v := -1) (fun Q hQ => c2 Q ?_) (fun Q hQ => r1 Q ?_) h.th
        · rw [hz2, b142_45, if_pos (show b2i false = 0 from rfl)]
          exact hQ
        · by_cases g2 : z < 0
          · rw [if_pos g2]; exact hQ
          · rw [if_neg g2, if_neg (by omega)]; exact hQ
    simp only [if_neg g2] at r1
    refine q2_tell (v := -1) (fun Q hQ => c1 Q ?_) (fun Q hQ => r1 Q hQ) h.th
    rw [b142_37, if_neg g2]
    exact hQ
  · have hb : (decide (0 ≤ y) && decide (y < P 3000 0)) = false := by simp; omega
    refine q2_tell (v := -1) (fun Q hQ => ?_) (fun Q hQ => ?_) h.th
    · rw [c0, hb, b142_7, if_pos (show b2i false = 0 from rfl)]
      exact ⟨hz.1, hQ⟩
    · rw [e228, b228_0, if_neg g]
      by_cases g1 : y < 0
      · rw [if_pos g1]; exact hQ
      · rw [if_neg g1, a3.1, if_neg (by omega)]
        exact ⟨by decide, hQ⟩
theorem h144 (h : JJ σc σr) : q2 JJ 144 230 [wI x, wI y, wI z] σc σr := by
  have hf := h.1.2.2.2.1
  have hz := h.1.2.2.2.2.nz
  by_cases g : σr.1 10044 121 = 0
  · exact n144 (hf.2.1.1.trans g) g h.th
  obtain ⟨P, hP, hS⟩ := h.2 (hf.2.2.1 g)
  obtain ⟨P', ⟨s1, s2, s3, s4, -⟩, -, k3, -⟩ := hS g
  have hn := s4.1.1.2.1
  have hM := s4.1.2.1.2.1
  have c0 : ∀ Q : j3_P, j3_tc false 20 144 [wO 9 0, wI x, wI y, wI z] σc Q = (¬ σc.2.1 8 = 0 ∧ T144 19 Q 8 [wO 9 0, wI x, wI y, wI z, wM 2] [wI (b2i (decide (0 ≤ x) && decide (x < P' 3001 0) && (decide (0 ≤ y) && decide (y < P' 0 x))))] σc) := by
    intro Q
    rw [e144, b144_0, if_neg (by rw [hf.2.1.1]; exact g), s45 s1 hM]
    simp only [Option.toList_some, List.cons_append, List.nil_append]
  by_cases gr : (0 ≤ x ∧ x < P' 3001 0) ∧ 0 ≤ y ∧ y < P' 0 x
  · have hb : (decide (0 ≤ x) && decide (x < P' 3001 0) && (decide (0 ≤ y) && decide (y < P' 0 x))) = true := by simp [gr]
    have hbd := (bnd_of s4.1).2.2.2 x gr.1.1 gr.1.2
    have c1 : ∀ Q : j3_P, Q (some (wI (if z = 0 then σc.2.2 6003 83 (x * 120 + y) else if z = 1 then σc.2.2 6004 83 (x * 120 + y) else -1))) σc → j3_tc false 20 144 [wO 9 0, wI x, wI y, wI z] σc Q := by
      intro Q hQ
      rw [c0, hb, b144_8, if_neg (show ¬ b2i true = 0 by decide)]
      simp (disch := omega) only [wr_id]
      refine ⟨hz.2, ?_⟩
      by_cases g0 : z = 0
      · rw [if_pos g0] at hQ ⊢; exact ⟨by omega, hQ⟩
      rw [if_neg g0] at hQ ⊢
      by_cases g1 : z = 1
      · rw [if_pos g1] at hQ ⊢; exact ⟨by omega, hQ⟩
      rw [if_neg g1] at hQ ⊢
      exact hQ
    obtain ⟨-, -, -, -, -, -, r7⟩ := (s3.2.2.2 x gr.1.1 gr.1.2).1
    have r1 : ∀ Q : j3_P, Q (some (wI (if z < 0 then -1 else if z < σr.2.2 10030 121 (9600 + 120 * x + y) then (if z = 0 then σr.2.2 10031 121 (9600 + 120 * x + y) else σr.2.2 10032 121 (9600 + 120 * x + y)) else -1))) (th0 σr) → j3_tc true 20 230 [wO 10 121, wI x, wI y, wI z] σr Q := by
      intro Q hQ
      rw [e230, b230_0, if_neg g, if_neg (by omega), s3.2.1, if_pos gr.1.2, if_neg (by omega), wr_id (z := 80 + x) (by omega) (by omega), show (80 : Int) + x = 80 * 1 + x by omega, r7, if_pos gr.2.2]
      refine ⟨by decide, by omega, ?_⟩
      rw [s160 (by omega) (by omega) (by omega) (by omega) (by omega) (by omega)]
      simp only [Option.toList_some, List.cons_append, List.nil_append]
      rw [show (9600 : Int) * 1 + 120 * x + y = 9600 + 120 * x + y by omega]
      show T230 19 Q 30 [wO 10 121, wI x, wI y, wI z, wM 2] [wI (9600 + 120 * x + y)] (th0 σr)
      rw [b230_30, b230_39]
      by_cases g1 : z < 0
      · rw [if_pos g1] at hQ ⊢; exact hQ
      rw [if_neg g1] at hQ ⊢
      refine ⟨by omega, ?_⟩
      by_cases g2 : z < σr.2.2 10030 121 (9600 + 120 * x + y)
      · rw [if_pos g2] at hQ
        rw [if_pos (show z < (th0 σr).2.2 10030 121 (9600 + 120 * x + y) from g2)]
        by_cases g0 : z = 0
        · rw [if_pos g0] at hQ ⊢; exact ⟨by omega, hQ⟩
        · rw [if_neg g0] at hQ ⊢; exact ⟨by omega, hQ⟩
      · rw [if_neg g2] at hQ
        rw [if_neg (show ¬ z < (th0 σr).2.2 10030 121 (9600 + 120 * x + y) from g2)]
        exact hQ
    refine q2_tell c1 (fun Q hQ => r1 Q ?_) h.th
    have : (if z < 0 then -1 else if z < σr.2.2 10030 121 (9600 + 120 * x + y) then (if z = 0 then σr.2.2 10031 121 (9600 + 120 * x + y) else σr.2.2 10032 121 (9600 + 120 * x + y)) else -1) = (if z = 0 then σc.2.2 6003 83 (x * 120 + y) else if z = 1 then σc.2.2 6004 83 (x * 120 + y) else -1) := by
      rcases k3 x y gr.1.1 gr.1.2 gr.2.1 gr.2.2 with ⟨u1, u2, u3⟩ | ⟨u1, u2, -, u3⟩ | ⟨u1, u2, -, u3, -⟩
      all_goals
        rw [u1, u2, u3]
        repeat' split
        all_goals omega
    rw [this]
    exact hQ
  · have hb : (decide (0 ≤ x) && decide (x < P' 3001 0) && (decide (0 ≤ y) && decide (y < P' 0 x))) = false := by
      cases hb : (decide (0 ≤ x) && decide (x < P' 3001 0) && (decide (0 ≤ y) && decide (y < P' 0 x)))
      · rfl
      · simp at hb; exact absurd hb gr
    refine q2_tell (v := -1) (fun Q hQ => ?_) (fun Q hQ => ?_) h.th
    · rw [c0, hb, b144_8, if_pos (show b2i false = 0 from rfl)]
      exact ⟨hz.2, hQ⟩
    · rw [e230, b230_0, if_neg g]
      by_cases g1 : x < 0
      · rw [if_pos g1]; exact hQ
      rw [if_neg g1, s3.2.1]
      refine ⟨by decide, ?_⟩
      by_cases g2 : x < P' 3001 0
      · rw [if_pos g2]
        by_cases g3 : y < 0
        · rw [if_pos g3]; exact hQ
        obtain ⟨-, -, -, -, -, -, r7⟩ := (s3.2.2.2 x (by omega) g2).1
        rw [if_neg g3, wr_id (z := 80 + x) (by omega) (by omega), show (80 : Int) + x = 80 * 1 + x by omega, r7, if_neg (by omega)]
        exact ⟨by omega, hQ⟩
      · rw [if_neg g2]; exact hQ
end KEPT
