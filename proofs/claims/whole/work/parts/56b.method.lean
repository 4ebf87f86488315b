/-! method, on both sides -/
def mev (P : Pg) (m w : Int) : Int := if w = 0 then P 3012 m else if w = 1 then P 3013 m else if w = 2 then P 3014 m else if w = 3 then P 3015 m else if w = 4 then P 3017 m else if w = 5 then P 0 m else if w = 6 then m else -1
def mew (P : Pg) (x y w : Int) : Int := if x < 0 then -1 else if x < P 3000 0 then (if y < 0 then -1 else if y < P 3006 x then mev P (P 3007 x + y) w else -1) else -1
section METH
variable {σ σc σr : j3_S} {o : Nat} {P : Pg} {d : Nat} {Q : j3_P} {b x y w s v : Int}
theorem s44 (hC : CP σ o P) : j3_tc false (d + 1) 44 [wO 3 o, wI x] σ Q = Q (some (wI (b2i (decide (0 ≤ x) && decide (x < P 3001 0))))) σ := by
  rw [e44, b44_0, hC.2.1]
  by_cases g : x < 0
  · simp [g, b2i, show ¬ 0 ≤ x by omega]
  · by_cases g2 : x < P 3001 0
    · simp [g, g2, b2i, show 0 ≤ x by omega]
    · simp [g, g2, b2i]
theorem s45 (hC : CP σ o P) (hn : P 3001 0 ≤ 80) : j3_tc false (d + 2) 45 [wO 3 o, wI x, wI y] σ Q = Q (some (wI (b2i (decide (0 ≤ x) && decide (x < P 3001 0) && (decide (0 ≤ y) && decide (y < P 0 x)))))) σ := by
  rw [e45, b45_0, s44 hC]
  simp only [Option.toList_some, List.cons_append, List.nil_append]
  rw [b45_3]
  by_cases g : 0 ≤ x ∧ x < P 3001 0
  · have := (hC.2.2.2 x g.1 g.2).1.2.2.2.2.2.2
    rw [this]
    by_cases g2 : y < 0
    · simp [g, g2, b2i, show ¬ 0 ≤ y by omega]
    · by_cases g3 : y < P 0 x
      · simp [g, g2, g3, b2i, show 0 ≤ y by omega, show x < 80 by omega]
      · simp [g, g2, g3, b2i, show x < 80 by omega]
  · have : (decide (0 ≤ x) && decide (x < P 3001 0)) = false := by simp; omega
    simp [this, b2i]
theorem c136t (hC : CP σ o P) (hW : WFp P) (hQ : Q (some (wI (mew P x y w))) σ) : T136 (d + 2) Q 17 [wO 9 0, wI b, wI x, wI y, wI w, wO 3 o, wM 2] [] σ := by
  have hn := hW.1.2.1
  rw [b136_17, s43 hC hn]
  simp only [Option.toList_some, List.cons_append, List.nil_append]
  rw [b136_21]
  unfold mew at hQ
  by_cases g : (0 ≤ x ∧ x < P 3000 0) ∧ 0 ≤ y ∧ y < P 3006 x
  · have hm := hW.2.1.2.2 x g.1.1 g.1.2
    have hm2 := hW.2.1.2.1
    have h7 := (hC.2.2.1 x g.1.1 g.1.2).1.2.2.2.2
    have hh := (hC.2.2.2 (P 3007 x + y) (by omega) (by omega)).1
    rw [if_neg (by omega), if_pos (by omega), if_neg (by omega), if_pos (by omega)] at hQ
    have : (decide (0 ≤ x) && decide (x < P 3000 0) && (decide (0 ≤ y) && decide (y < P 3006 x))) = true := by simp [g]
    rw [this, if_neg (show ¬ b2i true = 0 by decide), h7, wr_id (by omega) (by omega)]
    refine ⟨by omega, ?_⟩
    unfold mev at hQ
    rw [b136_33, b136_38, b136_43, b136_48, b136_53, b136_58, b136_64, b136_66, hh.2.1, hh.2.2.1, hh.2.2.2.1, hh.2.2.2.2.1, hh.2.2.2.2.2.1, hh.2.2.2.2.2.2]
    have a : (0 ≤ P 3007 x + y ∧ P 3007 x + y < 80) := by omega
    simp only [a, and_self, true_and]
    repeat' split
    all_goals simp_all
  · have : (decide (0 ≤ x) && decide (x < P 3000 0) && (decide (0 ≤ y) && decide (y < P 3006 x))) = false := by
      cases hb : (decide (0 ≤ x) && decide (x < P 3000 0) && (decide (0 ≤ y) && decide (y < P 3006 x)))
      · rfl
      · simp at hb; exact absurd hb g
    rw [this, if_pos (show b2i false = 0 from rfl)]
    have : (if x < 0 then -1 else if x < P 3000 0 then (if y < 0 then -1 else if y < P 3006 x then mev P (P 3007 x + y) w else -1) else -1) = (-1 : Int) := by
      split
      · rfl
      split
      · split
        · rfl
        split
        · omega
        · rfl
      · rfl
    rw [this] at hQ
    exact hQ
theorem r189t (s0 : 0 ≤ s) (s2 : s ≤ 1) (hR : RP σ s P) (hW : WFp P) (hQ : Q (some (wI (mew P x y w))) σ) : T189 d Q 12 [wO 10 121, wI b, wI x, wI y, wI w, wI s, wM 2] [wI 1] σ := by
  have hn := hW.1.2.1
  rw [b189_12, if_neg (by decide)]
  unfold mew at hQ
  by_cases g1 : x < 0
  · rw [if_pos g1] at hQ ⊢; exact hQ
  rw [if_neg g1] at hQ ⊢
  refine ⟨by omega, ?_⟩
  rw [hR.1]
  by_cases g2 : x < P 3000 0
  · rw [if_pos g2] at hQ ⊢
    by_cases g3 : y < 0
    · rw [if_pos g3] at hQ ⊢; exact hQ
    rw [if_neg g3] at hQ ⊢
    obtain ⟨-, -, -, h6, h7⟩ := (hR.2.2.1 x (by omega) g2).1
    simp (disch := omega) only [wr_id]
    rw [h6]
    refine ⟨by omega, ?_⟩
    by_cases g4 : y < P 3006 x
    · rw [if_pos g4] at hQ ⊢
      refine ⟨by omega, ?_⟩
      have hm := hW.2.1.2.2 x (by omega) g2
      have hm2 := hW.2.1.2.1
      rw [h7]
      simp (disch := omega) only [wr_id]
      obtain ⟨k1, k2, k3, k4, k5, k6, k7⟩ := (hR.2.2.2 (P 3007 x + y) (by omega) (by omega)).1
      have e : 80 * s + P 3007 x + y = 80 * s + (P 3007 x + y) := by omega
      unfold mev at hQ
      rw [e, b189_52, b189_57, b189_62, b189_67, b189_72, b189_77, b189_82, b189_88, k2, k3, k4, k5, k6, k7]
      simp (disch := omega) only [wr_id]
      have a : (0 ≤ 80 * s + (P 3007 x + y) ∧ 80 * s + (P 3007 x + y) < 240) := by omega
      have e2 : 80 * s + (P 3007 x + y) - 80 * s = P 3007 x + y := by omega
      simp only [a, and_self, true_and, e2]
      repeat' split
      all_goals simp_all
    · rw [if_neg g4] at hQ ⊢
      exact hQ
  · rw [if_neg g2] at hQ ⊢
    exact hQ
theorem h136 (h : JJ σc σr) : q2 JJ 136 189 [wI b, wI x, wI y, wI w] σc σr := by
  have hf := h.1.2.2.2.1
  have hz := h.1.2.2.2.2.nz
  by_cases g : (if b = 0 then σr.1 10043 121 else σr.1 10044 121) = 0
  · exact n136 hz (hf.c.trans g) g h.th
  obtain ⟨P, ⟨hC, hR, hW⟩, -⟩ := h.pick g
  refine q2_tell (v := mew P x y w) (fun Q hQ => ?_) (fun Q hQ => ?_) h.th
  · rw [e136, b136_0]
    have hc : ¬ (if b = 0 then σc.1 9005 0 else σc.1 9006 0) = 0 := by rw [hf.c]; exact g
    have := c136t (d := 17) (b := b) hC hW hQ
    by_cases gb : b = 0
    · simp only [if_pos gb] at hc this ⊢
      rw [b136_7, if_pos gb, if_neg hc]
      exact ⟨hz.1, this⟩
    · simp only [if_neg gb] at hc this ⊢
      rw [b136_7, if_neg gb, if_neg hc]
      exact ⟨hz.2, this⟩
  · rw [e189, b189_0]
    have ho := hf.on g
    have ho' : (if b = 0 then (th0 σr).1 10043 121 else (th0 σr).1 10044 121) = 1 := by rw [th0_r rfl, th0_r rfl]; exact ho
    have : ∀ s, s = (if b = 0 then (0 : Int) else 1) → T189 19 Q 8 [wO 10 121, wI b, wI x, wI y, wI w, wM 2, wM 2] [wI s] (th0 σr) := by
      intro s hs
      rw [← hs] at hR
      have hb : 0 ≤ s ∧ s ≤ 1 := by
        subst hs
        split <;> omega
      rw [b189_8, s187 (Or.inr ho'), ho']
      simp only [Option.toList_some, List.cons_append, List.nil_append]
      exact r189t hb.1 hb.2 (σ := th0 σr) hR hW hQ
    by_cases gb : b = 0
    · rw [if_pos gb]
      exact this 0 (by rw [if_pos gb])
    · rw [if_neg gb]
      exact this 1 (by rw [if_neg gb])
end METH
