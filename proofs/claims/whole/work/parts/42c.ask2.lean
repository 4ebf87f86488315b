section ASK2
variable {d : Nat} {Q : j3_P} {σ : j3_S} {P : Pg} {m op a b x : Int}
theorem s9 {la : Int} (hp : ¬ σ.2.1 0 = 0) (hC : CP σ (σ.2.1 0) P) (hW : WFp P) (hop : op = 11 ∨ op = 15 ∨ op = 16 ∨ op = 17 ∨ op = 18 ∨ op = 19 ∨ op = 24 ∨ op = 25 ∨ op = 26) (hi : iok P m op a b) (hw : σ.1 1012 76 = 0) : j3_tc false (d + 2) 9 [wO 1 76, wI op, wI a, wI b] σ Q = Q none (gvS ((wl P m op a b).foldl wS σ) (g1 P op a b la)) := by
  obtain ⟨hs, hm, hF, hM⟩ := id hW
  obtain ⟨i0, i1, i2, i3, i4, i5, i6⟩ := hi
  have hn := hs.2.1
  rw [e9, b9_0]
  rcases hop with rfl | rfl | rfl | rfl | rfl | rfl | rfl | rfl | rfl
  · simp [b9_66, wl, g1, gvS]
  · have ha := i4 (by omega)
    rw [if_pos rfl, b9_2, wr_id (by omega) (by omega), s12]
    simp only [Option.toList_none, List.nil_append]
    rw [b9_7, b9_66]
    simp [wl, g1, gvS]
  · have ha := i4 (by omega)
    have hb := i5 (by omega)
    have hf := hF a ha.1 ha.2
    have hff := hf.2.2 b hb.1 hb.2
    rw [if_neg (by omega), if_pos rfl, b9_8, wr_id (by omega) (by omega), s11 (by omega) (by omega)]
    simp only [Option.toList_none, List.nil_append]
    rw [b9_13, wS_p, s52 (hC.ask wS_f) hn ha.1 ha.2 hb.1 hb.2 (by omega) (by omega) (by omega)]
    simp only [Option.toList_some, List.cons_append, List.nil_append]
    rw [b9_19, s12]
    simp only [Option.toList_none, List.nil_append]
    rw [b9_20, b9_66]
    simp [hp, wl, g1, gvS]
  · have ha := i4 (by omega)
    have hb := i5 (by omega)
    have hf := hF a ha.1 ha.2
    have hff := hf.2.2 b hb.1 hb.2
    rw [if_neg (by omega), if_neg (by omega), if_pos rfl, b9_21, wr_id (by omega) (by omega), s11 (by omega) (by omega)]
    simp only [Option.toList_none, List.nil_append]
    rw [b9_26, wS_p, s52 (hC.ask wS_f) hn ha.1 ha.2 hb.1 hb.2 (by omega) (by omega) (by omega)]
    simp only [Option.toList_some, List.cons_append, List.nil_append]
    rw [b9_32, s11 (by rw [wS_1]; omega) (by rw [wS_1]; omega)]
    simp only [Option.toList_none, List.nil_append]
    rw [b9_33, b9_66]
    simp [hp, wl, g1, gvS]
  · have ha := i4 (by omega)
    have hb := i5 (by omega)
    have hf := hF a ha.1 ha.2
    have hff := hf.2.2 b hb.1 hb.2
    rw [if_neg (by omega), if_neg (by omega), if_neg (by omega), if_pos rfl, b9_34, s52 hC hn ha.1 ha.2 hb.1 hb.2 (by omega) (by omega) (by omega)]
    simp only [Option.toList_some, List.cons_append, List.nil_append]
    rw [b9_40, s12]
    simp only [Option.toList_none, List.nil_append]
    rw [b9_41, b9_66]
    simp [hp, wl, g1, gvS]
  · have ha := i4 (by omega)
    have hb := i5 (by omega)
    have hf := hF a ha.1 ha.2
    have hff := hf.2.2 b hb.1 hb.2
    rw [if_neg (by omega), if_neg (by omega), if_neg (by omega), if_neg (by omega), if_pos rfl, b9_42, s52 hC hn ha.1 ha.2 hb.1 hb.2 (by omega) (by omega) (by omega)]
    simp only [Option.toList_some, List.cons_append, List.nil_append]
    rw [b9_48, s11 (by omega) (by omega)]
    simp only [Option.toList_none, List.nil_append]
    rw [b9_49, b9_66]
    simp [hp, wl, g1, gvS]
  · have ha := i4 (by omega)
    simp only [show ¬ (24 : Int) = 15 by omega, show ¬ (24 : Int) = 16 by omega, show ¬ (24 : Int) = 17 by omega, show ¬ (24 : Int) = 18 by omega, show ¬ (24 : Int) = 19 by omega, show ¬ (24 : Int) = 20 by omega, show ¬ (24 : Int) = 21 by omega, show ¬ (24 : Int) = 22 by omega, show ¬ (24 : Int) = 23 by omega, if_false, if_true]
    rw [b9_50, s11 (by omega) (by omega)]
    simp only [Option.toList_none, List.nil_append]
    rw [b9_53, wr_id (by omega) (by omega), s12]
    simp only [Option.toList_none, List.nil_append]
    rw [b9_58, b9_66]
    simp [wl, g1, gvS]
  · have ha := i4 (by omega)
    simp only [show ¬ (25 : Int) = 15 by omega, show ¬ (25 : Int) = 16 by omega, show ¬ (25 : Int) = 17 by omega, show ¬ (25 : Int) = 18 by omega, show ¬ (25 : Int) = 19 by omega, show ¬ (25 : Int) = 20 by omega, show ¬ (25 : Int) = 21 by omega, show ¬ (25 : Int) = 22 by omega, show ¬ (25 : Int) = 23 by omega, show ¬ (25 : Int) = 24 by omega, if_false, if_true]
    rw [b9_59, s11 (by omega) (by omega)]
    simp only [Option.toList_none, List.nil_append]
    rw [b9_62, s12]
    simp only [Option.toList_none, List.nil_append]
    rw [b9_65, b9_66]
    simp [wl, g1, gvS]
  · simp [b9_66, wl, g1, gvS]
theorem b8z {x1 x2 x3 : Int} : T8 d Q 0 [wO 1 76, wI x1, wI x2, wI x3] [] σ = (if x1 < 6 then T8 d Q 25 [wO 1 76, wI x1, wI x2, wI x3] [] (zS σ) else if 10 < x1 then T8 d Q 25 [wO 1 76, wI x1, wI x2, wI x3] [] (zS σ) else j3_tc false d 11 [wO 1 76, wI 1] (zS σ) (fun r σ1 => T8 d Q 18 [wO 1 76, wI x1, wI x2, wI x3] (r.toList ++ []) σ1)) := b8_0
theorem s8 (hp : ¬ σ.2.1 0 = 0) (hC : CP σ (σ.2.1 0) P) (hW : WFp P) (hmm : σ.1 1003 76 = m) (m0 : 0 ≤ m) (m1 : m < P 3001 0) (hi : iok P m op a b) : j3_tc false (d + 3) 8 [wO 1 76, wI op, wI a, wI b] σ Q = Q none (askS P m op a b σ) := by
  obtain ⟨hs, hm, hF, hM⟩ := id hW
  obtain ⟨i0, i1, i2, i3, i4, i5, i6⟩ := id hi
  have hn := hs.2.1
  have hm2 := hm.2.1
  obtain ⟨q1, q2, q3, q4, q5, q6, q7⟩ := hM m m0 m1
  have hz := zS_1 (σ := σ)
  have hCz := hC.ask zS_f
  rw [e8, b8z]
  by_cases hA : 6 ≤ op ∧ op ≤ 10
  · rw [if_neg (by omega), if_neg (by omega), s11 (by omega) (by omega)]
    simp only [Option.toList_none, List.nil_append]
    rw [b8_18, s11 (by rw [wS_1]; omega) (by rw [wS_1]; omega)]
    simp only [Option.toList_none, List.nil_append]
    rw [b8_21, s12]
    simp only [Option.toList_none, List.nil_append]
    rw [b8_24]
    simp [askS, wl, g1, gvS, hA, show ¬ op = 3 by omega, show ¬ op = 4 by omega, show ¬ op = 5 by omega, show ¬ op = 12 by omega, show ¬ op = 23 by omega, show ¬ op = 0 by omega, show ¬ op = 1 by omega, show ¬ op = 2 by omega]
  have hB : (if op < 6 then T8 (d + 2) Q 25 [wO 1 76, wI op, wI a, wI b] [] (zS σ) else if 10 < op then T8 (d + 2) Q 25 [wO 1 76, wI op, wI a, wI b] [] (zS σ) else j3_tc false (d + 2) 11 [wO 1 76, wI 1] (zS σ) (fun r σ1 => T8 (d + 2) Q 18 [wO 1 76, wI op, wI a, wI b] (r.toList ++ []) σ1)) = T8 (d + 2) Q 25 [wO 1 76, wI op, wI a, wI b] [] (zS σ) := by
    by_cases h6 : op < 6
    · rw [if_pos h6]
    · rw [if_neg h6, if_pos (by omega)]
  rw [hB]
  by_cases hO : op = 11 ∨ op = 15 ∨ op = 16 ∨ op = 17 ∨ op = 18 ∨ op = 19 ∨ op = 24 ∨ op = 25 ∨ op = 26
  · have h87 : T8 (d + 2) Q 25 [wO 1 76, wI op, wI a, wI b] [] (zS σ) = T8 (d + 2) Q 87 [wO 1 76, wI op, wI a, wI b] [] (zS σ) := by
      rw [b8_25]
      rcases hO with rfl | rfl | rfl | rfl | rfl | rfl | rfl | rfl | rfl <;> simp
    rw [h87, b8_87, s9 (σ := zS σ) (m := m) (la := σ.2.2 1009 76 a) hp hCz hW hO hi hz]
    simp only [Option.toList_none, List.nil_append]
    rw [b8_92]
    rfl
  have hr : op = 0 ∨ op = 1 ∨ op = 2 ∨ op = 3 ∨ op = 4 ∨ op = 5 ∨ op = 12 ∨ op = 13 ∨ op = 14 ∨ op = 20 ∨ op = 21 ∨ op = 22 ∨ op = 23 := by omega
  rw [b8_25]
  rcases hr with rfl | rfl | rfl | rfl | rfl | rfl | rfl | rfl | rfl | rfl | rfl | rfl | rfl
  · simp only [if_true]
    rw [b8_27, s12]
    simp only [Option.toList_none, List.nil_append]
    rw [b8_30, b8_92]
    simp [askS, wl, g1, gvS]
  · simp only [show ¬ (1 : Int) = 0 by omega, if_false, if_true]
    rw [b8_31, s12]
    simp only [Option.toList_none, List.nil_append]
    rw [b8_34, b8_92]
    simp [askS, wl, g1, gvS]
  · have ha := i2 (by omega)
    simp only [show ¬ (2 : Int) = 0 by omega, show ¬ (2 : Int) = 1 by omega, if_false, if_true]
    rw [b8_35, s12]
    simp only [Option.toList_none, List.nil_append]
    rw [b8_41, b8_92]
    simp [askS, wl, g1, gvS, zS, ha.1, show a < 20 by omega]
  · simp only [show ¬ (3 : Int) = 0 by omega, show ¬ (3 : Int) = 1 by omega, show ¬ (3 : Int) = 2 by omega, if_false, if_true]
    rw [b8_42, s11 (by omega) (by omega)]
    simp only [Option.toList_none, List.nil_append]
    rw [b8_45, b8_92]
    simp [askS, wl, g1, gvS]
  · simp only [show ¬ (4 : Int) = 0 by omega, show ¬ (4 : Int) = 1 by omega, show ¬ (4 : Int) = 2 by omega, show ¬ (4 : Int) = 3 by omega, if_false, if_true]
    rw [b8_42, s11 (by omega) (by omega)]
    simp only [Option.toList_none, List.nil_append]
    rw [b8_45, b8_92]
    simp [askS, wl, g1, gvS]
  · simp only [show ¬ (5 : Int) = 0 by omega, show ¬ (5 : Int) = 1 by omega, show ¬ (5 : Int) = 2 by omega, show ¬ (5 : Int) = 3 by omega, show ¬ (5 : Int) = 4 by omega, if_false, if_true]
    rw [b8_42, s11 (by omega) (by omega)]
    simp only [Option.toList_none, List.nil_append]
    rw [b8_45, b8_92]
    simp [askS, wl, g1, gvS]
  · simp only [Int.reduceEq, if_false, if_true]
    rw [b8_46, s11 (by omega) (by omega)]
    simp only [Option.toList_none, List.nil_append]
    rw [b8_49, b8_92]
    simp [askS, wl, g1, gvS]
  · simp only [Int.reduceEq, if_false, if_true]
    rw [b8_50, s11 (by omega) (by omega)]
    simp only [Option.toList_none, List.nil_append]
    rw [b8_53, s11 (by rw [wS_1]; omega) (by rw [wS_1]; omega)]
    simp only [Option.toList_none, List.nil_append]
    rw [b8_56, b8_92]
    simp [askS, wl, g1, gvS]
  · simp only [Int.reduceEq, if_false, if_true]
    rw [b8_57, s11 (by omega) (by omega)]
    simp only [Option.toList_none, List.nil_append]
    rw [b8_60, b8_92]
    simp [askS, wl, g1, gvS]
  · have ha := i4 (by omega)
    have hb := i6 (by omega)
    have hcm := hm.2.2 a ha.1 ha.2
    simp only [Int.reduceEq, if_false, if_true]
    rw [b8_76, show (zS σ).2.1 = σ.2.1 from rfl, (hCz.2.2.1 a ha.1 ha.2).1.2.2.2.2, wr_id (by omega) (by omega), s10 (σ := zS σ) hp hCz hW (by omega) (by omega) ha.1 ha.2 hz]
    simp only [Option.toList_none, List.nil_append]
    rw [b8_86, b8_92]
    simp [askS, wl, g1, hp, ha.1, show a < 10 by omega]
  · have ha := i4 (by omega)
    have hb := i6 (by omega)
    have hcm := hm.2.2 a ha.1 ha.2
    simp only [Int.reduceEq, if_false, if_true]
    rw [b8_76, show (zS σ).2.1 = σ.2.1 from rfl, (hCz.2.2.1 a ha.1 ha.2).1.2.2.2.2, wr_id (by omega) (by omega), s10 (σ := zS σ) hp hCz hW (by omega) (by omega) ha.1 ha.2 hz]
    simp only [Option.toList_none, List.nil_append]
    rw [b8_86, b8_92]
    simp [askS, wl, g1, hp, ha.1, show a < 10 by omega]
  · simp only [Int.reduceEq, if_false, if_true]
    have hmz : (zS σ).1 1003 76 = m := by rw [← hmm]; exact zS_f.2.1 1003 76 rfl
    rw [b8_61, hmz, show (zS σ).2.1 = σ.2.1 from rfl, (hCz.2.2.2 m m0 m1).1.2.2.2.1]
    by_cases g : P 3014 m = 0
    · rw [if_pos g, b8_92]
      simp [askS, wl, g1, gvS, g, hp, m0, show m < 80 by omega]
    · rw [if_neg g, s54 hCz hm2 m0 m1 (by omega) (by omega)]
      simp only [Option.toList_some, List.cons_append, List.nil_append]
      rw [b8_74, s11 (by omega) (by omega)]
      simp only [Option.toList_none, List.nil_append]
      rw [b8_75, b8_92]
      simp [askS, wl, g1, gvS, g, hp, m0, show m < 80 by omega]
  · simp only [Int.reduceEq, if_false, if_true]
    rw [b8_46, s11 (by omega) (by omega)]
    simp only [Option.toList_none, List.nil_append]
    rw [b8_49, b8_92]
    simp [askS, wl, g1, gvS]
end ASK2
