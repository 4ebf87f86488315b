/-! types: meet, fits -/
def tyo (P : Pg) (t : Int) : Prop := 0 ≤ t ∧ t < 4 + P 3000 0
def mtu (P : Pg) (y : Int) : Nat → Int → Int
  | 0, _ => 3
  | n + 1, c => if c < 0 then 3 else if cov P c 10 y = true then 4 + c else mtu P y n (P 3003 c)
def mt (P : Pg) (x y : Int) : Int := if x = y then x else if x ≤ 1 ∨ y ≤ 1 then 0 else if x = 2 then y else if y = 2 then x else if x = 3 ∨ y = 3 then 3 else mtu P (y - 4) 10 (x - 4)
def ftt (P : Pg) (x w : Int) : Bool := if w = -1 then true else if w = -2 then !decide (x = 1) else if w = 1 then decide (x = 1) else decide (x = 2) || (decide (4 ≤ x) && cov P (w - 4) 10 (x - 4))
theorem b2i_0 {b : Bool} : (b2i b = 0) ↔ b = false := by cases b <;> simp [b2i]
theorem b2i_01 (b : Bool) : b2i b = 0 ∨ b2i b = 1 := by cases b <;> simp [b2i]
section TY
variable {d : Nat} {Q : j3_P} {σ : j3_S} {P : Pg} {s : Int}
theorem l17 {x y : Int} (hp : ¬ σ.2.1 0 = 0) (hC : CP σ (σ.2.1 0) P) (hs : WFs P) (hy : 4 ≤ y) (hy2 : y < 4 + P 3000 0) : ∀ (n : Nat) (j c : Int), j + n = 10 → 0 ≤ j → -1 ≤ c → c < P 3000 0 → T17 (d + 1) Q 40 [wO 1 76, wI x, wI y, wI c, wI j] [] σ = Q (some (wI (mtu P (y - 4) n c))) σ
  | 0, j, c, hj, h0, h1, h2 => by
    rw [b17_40, if_neg (by omega)]
    simp [mtu]
  | n + 1, j, c, hj, h0, h1, h2 => by
    have hn := hs.2.1
    rw [b17_40, if_pos (by omega)]
    by_cases g : c < 0
    · simp [mtu, g]
    · have hx := hs.2.2 c (by omega) h2
      rw [if_neg g]
      simp (disch := omega) only [wr_id]
      rw [s48 hC hs (by omega) (by omega)]
      simp only [Option.toList_some, List.cons_append, List.nil_append]
      rw [b17_52]
      simp (disch := omega) only [wr_id]
      rw [(hC.2.2.1 c (by omega) h2).1.2.1, l17 hp hC hs hy hy2 n (j + 1) (P 3003 c) (by omega) (by omega) (by omega) (by omega)]
      cases hc : cov P c 10 (y - 4)
      · simp [mtu, g, hc, b2i, hp, show 0 ≤ c by omega, show c < 10 by omega]
      · simp [mtu, g, hc, b2i, hp]
theorem s17 {x y : Int} (hp : ¬ σ.2.1 0 = 0) (hC : CP σ (σ.2.1 0) P) (hs : WFs P) (hx : tyo P x) (hy : tyo P y) : j3_tc false (d + 2) 17 [wO 1 76, wI x, wI y] σ Q = Q (some (wI (mt P x y))) σ := by
  obtain ⟨x0, x1⟩ := hx
  obtain ⟨y0, y1⟩ := hy
  have hn := hs.2.1
  rw [e17, b17_0]
  simp only [b17_19]
  unfold mt
  by_cases g : x = y
  · rw [if_pos g, if_pos g]
  rw [if_neg g, if_neg g]
  by_cases g1 : 1 < x
  · rw [if_pos g1]
    by_cases g2 : 1 < y
    · rw [if_pos g2, if_neg (show ¬ (x ≤ 1 ∨ y ≤ 1) by omega)]
      by_cases g3 : x = 2
      · rw [if_pos g3, if_pos g3, if_pos g3]
      rw [if_neg g3, if_neg g3, if_neg g3]
      by_cases g4 : y = 2
      · rw [if_pos g4, if_pos g4]
      rw [if_neg g4, if_neg g4]
      by_cases g5 : x = 3
      · rw [if_pos g5, if_pos (Or.inl g5)]
      rw [if_neg g5]
      by_cases g6 : y = 3
      · rw [if_pos g6, if_pos (Or.inr g6)]
      rw [if_neg g6, if_neg (by omega)]
      simp (disch := omega) only [wr_id]
      exact l17 hp hC hs (by omega) (by omega) 10 0 (x - 4) rfl (by omega) (by omega) (by omega)
    · rw [if_neg g2, if_pos (by omega)]
  · rw [if_neg g1, if_pos (by omega)]
theorem l171 {x y : Int} (hR : RP σ s P) (hs : WFs P) (s0 : 0 ≤ s) (s2 : s ≤ 2) (hy : 4 ≤ y) (hy2 : y < 4 + P 3000 0) : ∀ (n : Nat) (c : Int), -1 ≤ c → c < P 3000 0 → c < n → T171 (d + 1) Q 39 [wO 10 121, wI s, wI x, wI y, wI c] [] σ = Q (some (wI (mtu P (y - 4) n c))) σ
  | 0, c, h1, h2, h3 => by
    rw [b171_39, if_pos (by omega), b171_59, if_pos (by omega)]
    simp [mtu]
  | n + 1, c, h1, h2, h3 => by
    have hn := hs.2.1
    rw [b171_39]
    by_cases g : c < 0
    · rw [if_pos g, b171_59, if_pos g]
      simp [mtu, g]
    · have hx := hs.2.2 c (by omega) h2
      rw [if_neg g]
      simp (disch := omega) only [wr_id]
      rw [s170 hR hs s0 s2 (by omega) (by omega) (by omega)]
      simp only [Option.toList_some, List.cons_append, List.nil_append]
      rw [b171_48, b171_59, if_neg g]
      simp (disch := omega) only [wr_id]
      rw [(hR.2.2.1 c (by omega) h2).1.2.1, l171 hR hs s0 s2 hy hy2 n (P 3003 c) (by omega) (by omega) (by omega)]
      cases hc : cov P c 10 (y - 4)
      · simp [mtu, g, hc, b2i, show 0 ≤ 10 * s + c by omega, show 10 * s + c < 30 by omega]
      · simp [mtu, g, hc, b2i]
theorem s171 {x y : Int} (hR : RP σ s P) (hs : WFs P) (s0 : 0 ≤ s) (s2 : s ≤ 2) (hx : tyo P x) (hy : tyo P y) : j3_tc true (d + 2) 171 [wO 10 121, wI s, wI x, wI y] σ Q = Q (some (wI (mt P x y))) σ := by
  obtain ⟨x0, x1⟩ := hx
  obtain ⟨y0, y1⟩ := hy
  have hn := hs.2.1
  rw [e171, b171_0]
  unfold mt
  by_cases g : x = y
  · rw [if_pos g, if_pos g]
  rw [if_neg g, if_neg g]
  by_cases g1 : x = 0
  · rw [if_pos g1, if_pos (by omega)]
  rw [if_neg g1]
  by_cases g2 : y = 0
  · rw [if_pos g2, if_pos (by omega)]
  rw [if_neg g2]
  by_cases g3 : x = 1
  · rw [if_pos g3, if_pos (by omega)]
  rw [if_neg g3]
  by_cases g4 : y = 1
  · rw [if_pos g4, if_pos (by omega)]
  rw [if_neg g4, if_neg (show ¬ (x ≤ 1 ∨ y ≤ 1) by omega)]
  by_cases g5 : x = 2
  · rw [if_pos g5, if_pos g5]
  rw [if_neg g5, if_neg g5]
  by_cases g6 : y = 2
  · rw [if_pos g6, if_pos g6]
  rw [if_neg g6, if_neg g6]
  by_cases g7 : x = 3
  · rw [if_pos g7, if_pos (Or.inl g7)]
  rw [if_neg g7]
  by_cases g8 : y = 3
  · rw [if_pos g8, if_pos (Or.inr g8)]
  rw [if_neg g8, if_neg (by omega)]
  simp (disch := omega) only [wr_id]
  exact l171 hR hs s0 s2 (by omega) (by omega) 10 (x - 4) (by omega) (by omega) (by omega)
/-- what may be wanted -/
def wno (P : Pg) (w : Int) : Prop := w = -1 ∨ w = -2 ∨ w = 1 ∨ (4 ≤ w ∧ w < 4 + P 3000 0)
theorem s14 {x w : Int} (hp : ¬ σ.2.1 0 = 0) (hC : CP σ (σ.2.1 0) P) (hs : WFs P) (hx : tyo P x) (hw : wno P w) : j3_tc false (d + 2) 14 [wO 1 76, wI x, wI w] σ Q = Q (some (wI (b2i (ftt P x w)))) σ := by
  obtain ⟨x0, x1⟩ := hx
  have hn := hs.2.1
  rw [e14, b14_0]
  simp only [b14_21, b14_30]
  unfold ftt
  rcases hw with rfl | rfl | rfl | ⟨w0, w1⟩
  · simp [b2i]
  · by_cases g : x = 1
    · simp [g, b2i]
    · simp [g, b2i]
  · by_cases g : x = 1
    · simp [g, b2i]
    · simp [g, b2i]
  · simp only [show ¬ w = -1 by omega, show ¬ w = -2 by omega, show ¬ w = 1 by omega, if_false]
    by_cases g : x < 4
    · rw [if_pos g, if_neg (show ¬ x = w by omega), if_neg (show ¬ w < 4 by omega)]
      by_cases g2 : x = 2
      · simp [g2, b2i]
      · simp [g2, b2i, show ¬ 4 ≤ x by omega]
    · rw [if_neg g]
      simp (disch := omega) only [wr_id]
      rw [s48 hC hs (by omega) (by omega)]
      simp only [Option.toList_some, List.cons_append, List.nil_append]
      rw [b14_43]
      simp [hp, b2i_01, show ¬ x = 2 by omega, show 4 ≤ x by omega]
theorem s172 {x w : Int} (hR : RP σ s P) (hs : WFs P) (s0 : 0 ≤ s) (s2 : s ≤ 2) (hx : tyo P x) (hw : wno P w) : j3_tc true (d + 2) 172 [wO 10 121, wI s, wI x, wI w] σ Q = Q (some (wI (b2i (ftt P x w)))) σ := by
  obtain ⟨x0, x1⟩ := hx
  have hn := hs.2.1
  rw [e172, b172_0]
  simp only [b172_41]
  unfold ftt
  rcases hw with rfl | rfl | rfl | ⟨w0, w1⟩
  · simp [b2i]
  · by_cases g : x = 1
    · simp [g, b2i]
    · simp [g, b2i]
  · by_cases g : x = 1
    · simp [g, b2i]
    · simp [g, b2i]
  · simp only [show ¬ w = -1 by omega, show ¬ w = -2 by omega, show ¬ w = 1 by omega, if_false]
    by_cases g2 : x = 2
    · simp [g2, b2i]
    · rw [if_neg g2]
      by_cases g : x < 4
      · rw [if_pos g]
        simp [g2, b2i, show ¬ 4 ≤ x by omega]
      · rw [if_neg g]
        simp (disch := omega) only [wr_id]
        rw [s170 hR hs s0 s2 (by omega) (by omega) (by omega)]
        simp only [Option.toList_some, List.cons_append, List.nil_append]
        rw [b172_40, b172_41]
        cases hc : cov P (w - 4) 10 (x - 4)
        · simp [hc, b2i, g2]
        · simp [hc, b2i, show 4 ≤ x by omega]
end TY
