/-! one call on both sides, level 3; the calls that only tell -/
def q2 (K : j3_S → j3_S → Prop) (yX yM : Nat) (as : List j3_W) (σc σr : j3_S) : Prop := j3_tc false 20 yX (wO 9 0 :: as) σc (fun r σ1 => ∃ v, r = some (wI v) ∧ j3_tc true 20 yM (wO 10 121 :: as) σr (fun r' σ2 => r' = some (wI v) ∧ K σ1 σ2))
def th0 (σ : j3_S) : j3_S := (j3_up σ.1 10000 121 0, σ.2.1, σ.2.2)
/-- what a run has left: alike -/
def mR (σc σr : j3_S) : Prop := σc.1 2000 109 = σr.1 10077 121 ∧ (¬ σr.1 10077 121 = 0 → (∀ i, 0 ≤ i → i < 8 → σc.2.2 2001 109 i = σr.2.2 10078 121 i) ∧ σr.2.2 10078 121 3 = σr.1 10089 121 ∧ (∀ i, 0 ≤ i → i < 100 → i < σr.1 10089 121 → σc.2.2 2002 109 i = σr.2.2 10090 121 i) ∧ σr.2.2 10078 121 4 ≤ 40 ∧ (∀ i, 0 ≤ i → i < σr.2.2 10078 121 4 → σc.2.2 2003 109 i = σr.2.2 10091 121 i) ∧ σr.2.2 10078 121 7 ≤ 80 ∧ ∀ i, 0 ≤ i → i < σr.2.2 10078 121 7 → σc.2.2 2004 109 i = σr.2.2 10092 121 i)
section GET
variable {K : j3_S → j3_S → Prop} {σc σr : j3_S} {x : Int}
theorem g146 (h : mR σc σr) (hK : K σc (th0 σr)) : q2 K 146 242 [wI x] σc σr := by
  unfold q2
  rw [e146, b146_0]
  simp only [e242, b242_0, b242_11, h.1]
  by_cases h0 : σr.1 10077 121 = 0
  · simp only [if_pos h0]
    exact ⟨_, rfl, rfl, hK⟩
  · obtain ⟨h1, -⟩ := h.2 h0
    simp only [if_neg h0]
    by_cases g : x < 0
    · simp only [if_pos g]
      exact ⟨_, rfl, rfl, hK⟩
    · simp only [if_neg g]
      by_cases g2 : x < 8
      · simp only [if_pos g2, if_neg (show ¬ 7 < x by omega)]
        refine ⟨by omega, _, rfl, by omega, ?_, hK⟩
        rw [h1 x (by omega) g2]
      · simp only [if_neg g2, if_pos (show 7 < x by omega)]
        exact ⟨_, rfl, rfl, hK⟩
theorem g147 (h : mR σc σr) (hK : K σc (th0 σr)) : q2 K 147 243 [wI x] σc σr := by
  unfold q2
  rw [e147, b147_0]
  simp only [e243, b243_0, b243_15, h.1]
  by_cases h0 : σr.1 10077 121 = 0
  · simp only [if_pos h0]
    exact ⟨_, rfl, rfl, hK⟩
  · obtain ⟨h1, h2, h3, -⟩ := h.2 h0
    simp only [if_neg h0, h1 3 (by omega) (by omega), h2]
    by_cases g : x < 0
    · simp only [if_pos g]
      exact ⟨_, rfl, rfl, hK⟩
    · simp only [if_neg g]
      by_cases g2 : x < 100
      · simp only [if_pos g2]
        by_cases g3 : x < σr.1 10089 121
        · simp only [if_pos g3]
          refine ⟨by omega, by omega, _, rfl, by omega, ?_, hK⟩
          rw [h3 x (by omega) g2 g3]
        · simp only [if_neg g3]
          exact ⟨by omega, _, rfl, rfl, hK⟩
      · simp only [if_neg g2]
        refine ⟨_, rfl, ?_⟩
        split
        · exact ⟨rfl, hK⟩
        · exact ⟨rfl, hK⟩
theorem g148 (h : mR σc σr) (hK : K σc (th0 σr)) : q2 K 148 244 [wI x] σc σr := by
  unfold q2
  rw [e148, b148_0]
  simp only [e244, b244_0, b244_14, h.1]
  by_cases h0 : σr.1 10077 121 = 0
  · simp only [if_pos h0]
    exact ⟨_, rfl, rfl, hK⟩
  · obtain ⟨h1, -, -, h4, h5, -⟩ := h.2 h0
    simp only [if_neg h0, h1 4 (by omega) (by omega)]
    by_cases g : x < 0
    · simp only [if_pos g]
      exact ⟨_, rfl, rfl, hK⟩
    · simp only [if_neg g]
      by_cases g3 : x < σr.2.2 10078 121 4
      · simp only [if_pos g3, if_pos (show x < 40 by omega)]
        refine ⟨by omega, by omega, _, rfl, by omega, by omega, ?_, hK⟩
        rw [h5 x (by omega) g3]
      · simp only [if_neg g3]
        exact ⟨by omega, _, rfl, by omega, rfl, hK⟩
theorem g149 (h : mR σc σr) (hK : K σc (th0 σr)) : q2 K 149 245 [wI x] σc σr := by
  unfold q2
  rw [e149, b149_0]
  simp only [e245, b245_0, b245_14, h.1]
  by_cases h0 : σr.1 10077 121 = 0
  · simp only [if_pos h0]
    exact ⟨_, rfl, rfl, hK⟩
  · obtain ⟨h1, -, -, -, -, h4, h5⟩ := h.2 h0
    simp only [if_neg h0, h1 7 (by omega) (by omega)]
    by_cases g : x < 0
    · simp only [if_pos g]
      exact ⟨_, rfl, rfl, hK⟩
    · simp only [if_neg g]
      by_cases g3 : x < σr.2.2 10078 121 7
      · simp only [if_pos g3, if_pos (show x < 80 by omega)]
        refine ⟨by omega, by omega, _, rfl, by omega, by omega, ?_, hK⟩
        rw [h5 x (by omega) g3]
      · simp only [if_neg g3]
        exact ⟨by omega, _, rfl, by omega, rfl, hK⟩
/-- faults -/
def fR (σc σr : j3_S) : Prop := σc.2.2 9010 0 0 = σr.1 10005 121 ∧ (σr.1 10005 121 = 0 → σc.2.2 9010 0 1 = -1 ∧ σc.2.2 9010 0 2 = -1 ∧ σc.2.2 9010 0 3 = -1) ∧ (¬ σr.1 10005 121 = 0 → σc.2.2 9010 0 1 = σr.2.2 10006 121 0 ∧ σc.2.2 9010 0 2 = σr.2.2 10006 121 1 ∧ σc.2.2 9010 0 3 = σr.2.2 10006 121 2)
theorem g134 (h : fR σc σr) (hK : K σc (th0 σr)) : q2 K 134 186 [wI x] σc σr := by
  unfold q2
  rw [e134, b134_0]
  simp only [e186, b186_0, b186_17]
  by_cases g : x < 0
  · simp only [if_pos g, if_neg (show ¬ x = 0 by omega), if_pos (show x < 1 by omega)]
    refine ⟨_, rfl, ?_⟩
    split
    · exact ⟨rfl, hK⟩
    · exact ⟨rfl, hK⟩
  · simp only [if_neg g]
    by_cases g4 : x < 4
    · simp only [if_pos g4]
      refine ⟨by omega, _, rfl, ?_⟩
      have hx : x = 0 ∨ x = 1 ∨ x = 2 ∨ x = 3 := by omega
      by_cases hf : σr.1 10005 121 = 0
      · obtain ⟨a1, a2, a3⟩ := h.2.1 hf
        rcases hx with rfl | rfl | rfl | rfl
        · simp [h.1]
          exact hK
        · simp [hf, a1]
          exact hK
        · simp [hf, a2]
          exact hK
        · simp [hf, a3]
          exact hK
      · obtain ⟨a1, a2, a3⟩ := h.2.2 hf
        rcases hx with rfl | rfl | rfl | rfl
        · simp [h.1]
          exact hK
        · simp (disch := omega) [hf, a1, wr_id]
          exact hK
        · simp (disch := omega) [hf, a2, wr_id]
          exact hK
        · simp (disch := omega) [hf, a3, wr_id]
          exact hK
    · simp only [if_neg g4, if_neg (show ¬ x = 0 by omega), if_neg (show ¬ x < 1 by omega), if_pos (show 3 < x by omega)]
      refine ⟨_, rfl, ?_⟩
      split
      · exact ⟨rfl, hK⟩
      · exact ⟨rfl, hK⟩
/-- made -/
theorem g143 (hs : σc.1 9006 0 = σr.1 10044 121) (h : ¬ σr.1 10044 121 = 0 → ∀ i, 0 ≤ i → i < 23 → σc.2.2 6005 83 i = σr.2.2 10052 121 i) (hK : K σc (th0 σr)) : q2 K 143 229 [wI x] σc σr := by
  unfold q2
  rw [e143, b143_0]
  simp only [e229, b229_0, b229_8, b229_16, b143_5, b143_11, b143_13, b143_14, hs]
  have hu : j3_up σr.1 10000 121 0 10044 121 = σr.1 10044 121 := up_e rfl
  by_cases g1 : x < 0
  · simp [g1, show ¬ 10 < x by omega, show x < 11 by omega]
    exact hK
  · by_cases g2 : 3 < x
    · by_cases g3 : 10 < x
      · by_cases g4 : 22 < x
        · simp [g1, g2, g3, g4, show ¬ x < 11 by omega]
          exact hK
        · simp only [if_neg g1, if_pos g2, if_pos g3, if_neg g4, if_neg (show ¬ x < 11 by omega)]
          by_cases hz : σr.1 10044 121 = 0
          · simp [hu, hz]
            exact hK
          · simp [hu, hz, h hz x (by omega) (by omega), show 0 ≤ x by omega, show x < 23 by omega]
            exact hK
      · simp [g1, g2, g3, show x < 11 by omega]
        exact hK
    · simp only [if_neg g1, if_neg g2]
      by_cases hz : σr.1 10044 121 = 0
      · simp [hu, hz]
        exact hK
      · simp [hu, hz, h hz x (by omega) (by omega), show 0 ≤ x by omega, show x < 23 by omega]
        exact hK
/-- out -/
theorem g141 (hs : σc.1 9006 0 = σr.1 10044 121) (h : ¬ σr.1 10044 121 = 0 → σc.1 8001 90 = σr.1 10076 121 ∧ σc.1 8001 90 ≤ 48943 ∧ ∀ i, 0 ≤ i → i < σc.1 8001 90 → i_an (σc.2.2 8000 90 i) 255 = σr.2.2 10075 121 i) (hK : K σc (th0 σr)) : q2 K 141 227 [wI x] σc σr := by
  unfold q2
  rw [e141, b141_0]
  simp only [e227, b227_0, b227_12, hs]
  by_cases hz : σr.1 10044 121 = 0
  · simp only [if_pos hz]
    exact ⟨_, rfl, rfl, hK⟩
  · obtain ⟨h1, h2, h3⟩ := h hz
    simp only [if_neg hz]
    by_cases g1 : x < 0
    · simp only [if_pos g1]
      exact ⟨_, rfl, rfl, hK⟩
    · simp only [if_neg g1, ← h1]
      by_cases g2 : x < σc.1 8001 90
      · simp only [if_pos g2, if_pos (show x < 48943 by omega)]
        refine ⟨by omega, _, rfl, by omega, ?_, hK⟩
        rw [h3 x (by omega) g2]
      · simp only [if_neg g2]
        exact ⟨_, rfl, rfl, hK⟩
/-- feed and end -/
theorem g128 {x1 x2 x3 x4 x5 : Int} (h : tpR σc σr) (hK0 : K σc (th0 σr)) (hK : ∀ (n : Int) (t u : Int → Int), tpR (j3_up σc.1 9001 0 n, σc.2.1, j3_up σc.2.2 9000 0 t) (j3_up (th0 σr).1 10002 121 n, σr.2.1, j3_up σr.2.2 10001 121 u) → K (j3_up σc.1 9001 0 n, σc.2.1, j3_up σc.2.2 9000 0 t) (j3_up (th0 σr).1 10002 121 n, σr.2.1, j3_up σr.2.2 10001 121 u)) : q2 K 128 156 [wI x1, wI x2, wI x3, wI x4, wI x5] σc σr := by
  obtain ⟨h0, h1, h2, h3⟩ := h
  unfold q2
  rw [s128 h0 h1]
  simp only [s156 (show 0 ≤ σr.1 10002 121 by rw [h2]; exact h0) (show σr.1 10002 121 ≤ 4000 by rw [h2]; exact h1), h2]
  by_cases g : 4000 < σc.1 9001 0 + 20
  · simp only [if_pos g]
    exact ⟨_, rfl, rfl, hK0⟩
  · simp only [if_neg g]
    refine ⟨_, rfl, rfl, hK _ _ _ ⟨?_, ?_, ?_, ?_⟩⟩
    · simp only [up_r]; omega
    · simp only [up_r]; omega
    · simp only [up_r]
    · simp only [up_r]
      exact fun i i0 i1 => row20_R h3 i i0 i1
theorem g130 (h : tpR σc σr) (hK0 : K σc (th0 σr)) (hK : ∀ n : Int, tpR (j3_up σc.1 9001 0 n, σc.2.1, σc.2.2) (j3_up (th0 σr).1 10002 121 n, σr.2.1, σr.2.2) → K (j3_up σc.1 9001 0 n, σc.2.1, σc.2.2) (j3_up (th0 σr).1 10002 121 n, σr.2.1, σr.2.2)) : q2 K 130 157 [wI x] σc σr := by
  obtain ⟨h0, h1, h2, h3⟩ := h
  unfold q2
  rw [e130, b130_0]
  simp only [e157, b157_0, h2]
  by_cases g : x < 0
  · simp only [if_pos g]
    exact ⟨by simp, _, rfl, by simp, rfl, hK0⟩
  · simp only [if_neg g]
    by_cases g1 : σc.1 9001 0 < x
    · simp only [if_pos g1]
      exact ⟨by simp, _, rfl, by simp, rfl, hK0⟩
    · simp only [if_neg g1]
      refine ⟨by simp, _, rfl, by simp, rfl, hK x ⟨?_, ?_, ?_, ?_⟩⟩
      · simp only [up_r]; omega
      · simp only [up_r]; omega
      · simp only [up_r]
      · simp only [up_r]
        exact fun i i0 i1 => h3 i i0 (by omega)
end GET
