/-! the reference's give, wrong -/
def pR (σ : j3_S) (x : Int) : j3_S := (j3_up σ.1 10041 121 (σ.1 10041 121 + 1), σ.2.1, j3_ast σ.2.2 10039 121 (σ.1 10041 121) x)
def giS (σ : j3_S) (G : List Int) (L : Int → Int) : j3_S := (j3_up σ.1 10041 121 (σ.1 10041 121 + G.length), σ.2.1, j3_up (j3_up σ.2.2 10039 121 (psh (σ.2.2 10039 121) (σ.1 10041 121) G)) 10040 121 L)
def wrS (σ : j3_S) (f c k i : Int) : j3_S := if σ.1 10007 121 = 0 then (j3_up σ.1 10007 121 f, σ.2.1, j3_ast (j3_ast (j3_ast σ.2.2 10008 121 0 c) 10008 121 1 k) 10008 121 2 i) else σ
section GIVE
variable {d : Nat} {Q : j3_P} {P : Pg} {σ : j3_S} {s m i op a b x : Int}
theorem up_id' {α : Type} {f : Nat → Nat → α} {e o : Nat} {v : α} (h : f e o = v) : j3_up f e o v = f := by
  rw [← h]
  exact up_id
theorem iu_id {f : Int → Int} {k : Int} : i_up f k (f k) = f := by
  funext z
  simp only [i_up]
  split
  · rename_i h
    rw [h]
  · rfl
theorem gi0 : giS σ [] (σ.2.2 10040 121) = σ := by
  unfold giS
  simp only [psh, List.length_nil]
  rw [up_id' (show σ.1 10041 121 = σ.1 10041 121 + ((0 : Nat) : Int) by omega), up_id, up_id]
theorem gi1 : pR σ x = giS σ [x] (σ.2.2 10040 121) := by
  unfold giS pR
  simp only [psh, List.length_singleton, j3_ast]
  rw [up_id' (f := j3_up σ.2.2 10039 121 _) (e := 10040) (o := 121) (up_e rfl)]
  rfl
theorem s158 {c k f : Int} : j3_tc true (d + 1) 158 [wO 10 121, wI f, wI c, wI k, wI i] σ Q = Q none (wrS σ f c k i) := by
  rw [e158, b158_0]
  unfold wrS
  by_cases g : σ.1 10007 121 = 0
  · rw [if_pos g, if_pos g]
    simp
  · rw [if_neg g, if_neg g]
theorem s176 (h0 : 0 ≤ σ.1 10041 121) (h1 : σ.1 10041 121 < 20) : j3_tc true (d + 1) 176 [wO 10 121, wI x] σ Q = Q none (pR σ x) := by
  rw [e176, b176_0, wr_id (by omega) (by omega)]
  simp only [h0, h1, and_self, true_and]
  rfl
theorem v0 {x1 x2 : Int} (hop : σ.2.2 10027 121 x2 = op) (h : 0 ≤ x2 ∧ x2 < 28800) (hn : ¬ (op = 0 ∨ (6 ≤ op ∧ op ≤ 10) ∨ op = 25)) : T177 d Q 0 [wO 10 121, wI x1, wI x2, wM 2, wM 2] [] σ = T177 d Q 19 [wO 10 121, wI x1, wI x2, wI op, wM 2] [] σ := by
  rw [b177_0, hop, b177_13, if_neg (show ¬ op = 25 by omega), if_neg (show ¬ op = 0 by omega)]
  simp only [h, and_self, true_and]
  by_cases g : op < 6
  · rw [if_pos g]
  · rw [if_neg g, if_pos (by omega)]
theorem v0' {x1 x2 : Int} (hop : σ.2.2 10027 121 x2 = op) (h : 0 ≤ x2 ∧ x2 < 28800) (hn : op = 0 ∨ (6 ≤ op ∧ op ≤ 10) ∨ op = 25) : T177 d Q 0 [wO 10 121, wI x1, wI x2, wM 2, wM 2] [] σ = T177 d Q 16 [wO 10 121, wI x1, wI x2, wI op, wM 2] [] σ := by
  rw [b177_0, hop, b177_13]
  simp only [h, and_self, true_and]
  by_cases g0 : op = 0
  · rw [if_pos g0]
  · rw [if_neg g0, if_neg (by omega)]
    by_cases g : 10 < op
    · rw [if_pos g, if_pos (by omega)]
    · rw [if_neg g]
theorem v19 {x1 x2 : Int} (h : ¬ op = 1) : T177 d Q 19 [wO 10 121, wI x1, wI x2, wI op, wM 2] [] σ = T177 d Q 25 [wO 10 121, wI x1, wI x2, wI op, wM 2] [] σ := by
  rw [b177_19, if_neg h]
theorem v25 {x1 x2 : Int} (h : ¬ op = 2) : T177 d Q 25 [wO 10 121, wI x1, wI x2, wI op, wM 2] [] σ = T177 d Q 37 [wO 10 121, wI x1, wI x2, wI op, wM 2] [] σ := by
  rw [b177_25, if_neg h]
theorem v37 {x1 x2 : Int} (h : ¬ op = 3) : T177 d Q 37 [wO 10 121, wI x1, wI x2, wI op, wM 2] [] σ = T177 d Q 52 [wO 10 121, wI x1, wI x2, wI op, wM 2] [] σ := by
  rw [b177_37, if_neg h]
theorem v52 {x1 x2 : Int} (h : ¬ op = 5) : T177 d Q 52 [wO 10 121, wI x1, wI x2, wI op, wM 2] [] σ = T177 d Q 70 [wO 10 121, wI x1, wI x2, wI op, wM 2] [] σ := by
  rw [b177_52, if_neg h]
theorem v70 {x1 x2 : Int} (h : ¬ (op = 15 ∨ op = 24)) : T177 d Q 70 [wO 10 121, wI x1, wI x2, wI op, wM 2] [] σ = T177 d Q 84 [wO 10 121, wI x1, wI x2, wI op, wM 2] [] σ := by
  rw [b177_70, if_neg (by omega), if_neg (by omega)]
theorem v84 {x1 x2 : Int} (h : ¬ (op = 16 ∨ op = 18)) : T177 d Q 84 [wO 10 121, wI x1, wI x2, wI op, wM 2] [] σ = T177 d Q 111 [wO 10 121, wI x1, wI x2, wI op, wM 2] [] σ := by
  rw [b177_84, if_neg (by omega), if_neg (by omega)]
theorem v111 {x1 x2 : Int} (h : ¬ (op = 20 ∨ op = 21)) : T177 d Q 111 [wO 10 121, wI x1, wI x2, wI op, wM 2] [] σ = Q none σ := by
  rw [b177_111, if_neg (by omega), if_neg (by omega), b177_149]
theorem s177 {x3 : Int} (hR : RP σ s P) (hW : WFp P) (s0 : 0 ≤ s) (s2 : s ≤ 2) (h : 0 ≤ x3 ∧ x3 < 28800) (hop : σ.2.2 10027 121 x3 = op) (ha : σ.2.2 10028 121 x3 = a) (hb : σ.2.2 10029 121 x3 = b) (hi : iok P m op a b) (hl : P 3017 m ≤ 20) (h0 : 0 ≤ σ.1 10041 121) (h1 : σ.1 10041 121 ≤ 10) : j3_tc true (d + 2) 177 [wO 10 121, wI s, wI x3] σ Q = Q none (giS σ (gx P op a b (σ.2.2 10039 121) (σ.2.2 10040 121) (σ.1 10041 121)) (if op = 3 then i_up (σ.2.2 10040 121) a (σ.2.2 10039 121 (σ.1 10041 121)) else σ.2.2 10040 121)) := by
  obtain ⟨hs, hm, hF, hM⟩ := id hW
  obtain ⟨i0, i1, i2, i3, i4, i5, i6⟩ := id hi
  have hn := hs.2.1
  have hm2 := hm.2.1
  rw [e177]
  by_cases h25 : op = 0 ∨ (6 ≤ op ∧ op ≤ 10) ∨ op = 25
  · rw [v0' hop h h25, b177_16, s176 h0 (by omega)]
    simp only [Option.toList_none, List.nil_append]
    rw [v19 (by omega), v25 (by omega), v37 (by omega), v52 (by omega), v70 (by omega), v84 (by omega), v111 (by omega), if_neg (by omega), gi1]
    congr 2
    unfold gx
    rw [if_neg (by omega)]
    unfold g1
    rcases h25 with g | g | g
    · rw [if_pos g]
    · rw [if_neg (by omega), if_neg (by omega), if_neg (by omega), if_pos g]
    · rw [if_neg (by omega), if_neg (by omega), if_neg (by omega), if_neg (by omega), if_neg (by omega), if_neg (by omega), if_neg (by omega), if_pos g]
  rw [v0 hop h h25]
  by_cases hh1 : op = 1
  · rw [b177_19, if_pos hh1, s176 h0 (by omega)]
    simp only [Option.toList_none, List.nil_append]
    rw [v25 (by omega), v37 (by omega), v52 (by omega), v70 (by omega), v84 (by omega), v111 (by omega), if_neg (by omega), gi1]
    simp [gx, g1, hh1]
  rw [v19 hh1]
  by_cases hh2 : op = 2
  · have hA := i2 (Or.inl hh2)
    rw [b177_25, if_pos hh2, ha, s176 h0 (by omega)]
    simp only [Option.toList_none, List.nil_append]
    rw [v37 (by omega), v52 (by omega), v70 (by omega), v84 (by omega), v111 (by omega), if_neg (by omega), gi1]
    simp [gx, g1, hh2, h, hA.1, show a < 20 by omega]
  rw [v25 hh2]
  by_cases hh3 : op = 3
  · have hA := i2 (Or.inr hh3)
    rw [b177_37, if_pos hh3, ha, v52 (by omega), v70 (by omega), v84 (by omega), v111 (by omega), if_pos hh3]
    have c1 : (0 ≤ σ.1 10041 121 ∧ σ.1 10041 121 < 20) = True := by simp; omega
    have c2 : (0 ≤ a ∧ a < 20) = True := by simp; omega
    simp only [h, c1, c2, and_self, true_and]
    congr 1
    unfold giS
    have eg : gx P op a b (σ.2.2 10039 121) (σ.2.2 10040 121) (σ.1 10041 121) = [] := by simp [gx, g1, hh3]
    rw [eg]
    simp only [psh, List.length_nil]
    rw [up_id' (show σ.1 10041 121 = σ.1 10041 121 + ((0 : Nat) : Int) by omega), up_id]
    rfl
  rw [v37 hh3, if_neg hh3]
  by_cases hh5 : op = 5
  · rw [b177_52, if_pos hh5]
    simp (disch := omega) only [wr_id]
    rw [show σ.1 10041 121 + 1 - 1 = σ.1 10041 121 by omega, s176 (by simp only [up_r]; omega) (by simp only [up_r]; omega)]
    simp only [Option.toList_none, List.nil_append]
    rw [v70 (by omega), v84 (by omega), v111 (by omega)]
    have c1 : (0 ≤ σ.1 10041 121 ∧ σ.1 10041 121 < 20) = True := by simp; omega
    simp only [c1, true_and]
    congr 1
    unfold giS pR
    have eg : gx P op a b (σ.2.2 10039 121) (σ.2.2 10040 121) (σ.1 10041 121) = [σ.2.2 10039 121 (σ.1 10041 121), σ.2.2 10039 121 (σ.1 10041 121)] := by simp [gx, hh5]
    rw [eg]
    simp only [psh, List.length_cons, List.length_nil, up_r, up_up, j3_ast, iu_id]
    rw [up_id' (f := j3_up σ.2.2 10039 121 _) (e := 10040) (o := 121) (up_e rfl), show σ.1 10041 121 + 1 + 1 = σ.1 10041 121 + ((0 + 1 + 1 : Nat) : Int) by omega]
  rw [v52 hh5]
  by_cases h15 : op = 15 ∨ op = 24
  · have hA := i4 (by omega)
    have e0 : T177 (d + 1) Q 70 [wO 10 121, wI s, wI x3, wI op, wM 2] [] σ = T177 (d + 1) Q 76 [wO 10 121, wI s, wI x3, wI op, wM 2] [] σ := by
      rw [b177_70]
      rcases h15 with g | g
      · rw [if_pos g]
      · rw [if_neg (by omega), if_pos g]
    rw [e0, b177_76, ha, wr_id (by omega) (by omega), s176 h0 (by omega)]
    simp only [Option.toList_none, List.nil_append]
    rw [v84 (by omega), v111 (by omega), gi1]
    have eg : gx P op a b (σ.2.2 10039 121) (σ.2.2 10040 121) (σ.1 10041 121) = [4 + a] := by
      unfold gx g1
      rw [if_neg hh5, if_neg (by omega), if_neg hh1, if_neg hh2, if_neg (by omega), if_pos h15]
    rw [eg]
    simp only [h, and_self, true_and]
  rw [v70 h15]
  by_cases h16 : op = 16 ∨ op = 18
  · have hA := i4 (by omega)
    have hB := i5 (by omega)
    have hf := hF a hA.1 hA.2
    have hff := hf.2.2 b hB.1 hB.2
    have e0 : T177 (d + 1) Q 84 [wO 10 121, wI s, wI x3, wI op, wM 2] [] σ = T177 (d + 1) Q 90 [wO 10 121, wI s, wI x3, wI op, wM 2] [] σ := by
      rw [b177_84]
      rcases h16 with g | g
      · rw [if_pos g]
      · rw [if_neg (by omega), if_pos g]
    rw [e0, b177_90, ha, hb]
    simp (disch := omega) only [wr_id]
    rw [((hR.2.2.1 a hA.1 hA.2).2 b hB.1 hB.2).2.1, s173 hff.1 (by omega)]
    simp only [Option.toList_some, List.cons_append, List.nil_append]
    rw [b177_110, s176 h0 (by omega)]
    simp only [Option.toList_none, List.nil_append]
    rw [v111 (by omega), gi1]
    have eg : gx P op a b (σ.2.2 10039 121) (σ.2.2 10040 121) (σ.1 10041 121) = [tyof (P 3009 (a * 6 + b))] := by
      unfold gx g1
      rw [if_neg hh5, if_neg (by omega), if_neg hh1, if_neg hh2, if_neg (by omega), if_neg h15, if_pos h16]
    rw [eg]
    have cc : (0 ≤ 60 * s + 6 * a + b ∧ 60 * s + 6 * a + b < 180) = True := by simp; omega
    simp only [h, cc, and_self, true_and]
  rw [v84 h16]
  by_cases h20 : op = 20 ∨ op = 21
  · have hA := i4 (by omega)
    have hB := i6 (by omega)
    have hc := hm.2.2 a hA.1 hA.2
    obtain ⟨-, -, p3, -⟩ := hM (P 3007 a + b) (by omega) (by omega)
    have e0 : T177 (d + 1) Q 111 [wO 10 121, wI s, wI x3, wI op, wM 2] [] σ = T177 (d + 1) Q 117 [wO 10 121, wI s, wI x3, wI op, wM 2] [] σ := by
      rw [b177_111]
      rcases h20 with g | g
      · rw [if_pos g]
      · rw [if_neg (by omega), if_pos g]
    rw [e0, b177_117, ha, hb]
    simp (disch := omega) only [wr_id]
    rw [(hR.2.2.1 a hA.1 hA.2).1.2.2.2.2]
    simp (disch := omega) only [wr_id]
    rw [show 80 * s + P 3007 a + b = 80 * s + (P 3007 a + b) by omega, (hR.2.2.2 (P 3007 a + b) (by omega) (by omega)).1.2.2.2.1]
    have c1 : (0 ≤ 10 * s + a ∧ 10 * s + a < 30) = True := by simp; omega
    have c2 : (0 ≤ 80 * s + (P 3007 a + b) ∧ 80 * s + (P 3007 a + b) < 240) = True := by simp; omega
    simp only [h, c1, c2, and_self, true_and]
    have eg : gx P op a b (σ.2.2 10039 121) (σ.2.2 10040 121) (σ.1 10041 121) = if P 3014 (P 3007 a + b) = 0 then [] else [tyof (P 3014 (P 3007 a + b) - 1)] := by
      unfold gx g1
      rw [if_neg hh5, if_neg (by omega), if_neg hh1, if_neg hh2, if_neg (by omega), if_neg h15, if_neg h16, if_pos h20]
    rw [eg]
    by_cases g : P 3014 (P 3007 a + b) = 0
    · rw [if_pos g, if_neg (by omega), b177_149, gi0]
    · rw [if_neg g, if_pos (by omega), wr_id (by omega) (by omega), s173 (by omega) (by omega)]
      simp only [Option.toList_some, List.cons_append, List.nil_append]
      rw [b177_148, s176 h0 (by omega)]
      simp only [Option.toList_none, List.nil_append]
      rw [b177_149, gi1]
  rw [v111 h20]
  have eg : gx P op a b (σ.2.2 10039 121) (σ.2.2 10040 121) (σ.1 10041 121) = [] := by
    unfold gx g1
    rw [if_neg hh5, if_neg (by omega), if_neg hh1, if_neg hh2, if_neg (by omega), if_neg h15, if_neg h16, if_neg h20, if_neg (by omega)]
  rw [eg, gi0]
end GIVE
