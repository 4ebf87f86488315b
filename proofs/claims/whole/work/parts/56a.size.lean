/-! size, on both sides -/
def sg (f : Int → Int) : Nat → Int → Int → Int
  | 0, a, _ => a
  | r + 1, a, x => sg f r (a + f x) (x + 1)
def szv (P : Pg) (v x : Int) : Int := if x = 0 then P 3000 0 else if x = 1 then sg (P 3005) (P 3000 0).toNat 0 0 else if x = 2 then P 3001 0 else if x = 3 then sg (P 0) (P 3001 0).toNat 0 0 else v
section SIZE
variable {K : j3_S → j3_S → Prop} {σ σc σr : j3_S} {o : Nat} {P : Pg} {d : Nat} {Q : j3_P} {b x s v : Int}
theorem q2_tell {yX yM : Nat} {as : List j3_W} (hc : ∀ Q : j3_P, Q (some (wI v)) σc → j3_tc false 20 yX (wO 9 0 :: as) σc Q) (hr : ∀ Q : j3_P, Q (some (wI v)) (th0 σr) → j3_tc true 20 yM (wO 10 121 :: as) σr Q) (hK : K σc (th0 σr)) : q2 K yX yM as σc σr := hc _ ⟨v, rfl, hr _ ⟨rfl, hK⟩⟩
theorem l46 (hC : CP σ o P) (hW : WFp P) : ∀ (r : Nat) (a c : Int), c + r = P 3000 0 → 0 ≤ c → 0 ≤ a → a ≤ 6 * c → T46 d Q 4 [wO 3 o, wI a, wI c] [] σ = Q (some (wI (sg (P 3005) r a c))) σ
  | 0, a, c, hc, c0, a0, a1 => by
    rw [b46_4, hC.1, if_neg (by omega)]
    rfl
  | r + 1, a, c, hc, c0, a0, a1 => by
    have hn := hW.1.2.1
    have h1 := (hC.2.2.1 c c0 (by omega)).1.2.2.1
    have h2 := hW.2.2.1 c c0 (by omega)
    rw [b46_4, hC.1, if_pos (by omega), h1, wr_id (by omega) (by omega), wr_id (by omega) (by omega), l46 hC hW r (a + P 3005 c) (c + 1) (by omega) (by omega) (by omega) (by omega)]
    exact and_iff_right (by omega) |> propext
theorem l47 (hC : CP σ o P) (hW : WFp P) : ∀ (r : Nat) (a c : Int), c + r = P 3001 0 → 0 ≤ c → 0 ≤ a → a ≤ 120 * c → T47 d Q 4 [wO 3 o, wI a, wI c] [] σ = Q (some (wI (sg (P 0) r a c))) σ
  | 0, a, c, hc, c0, a0, a1 => by
    rw [b47_4, hC.2.1, if_neg (by omega)]
    rfl
  | r + 1, a, c, hc, c0, a0, a1 => by
    have hn := hW.2.1.2.1
    have h1 := (hC.2.2.2 c c0 (by omega)).1.2.2.2.2.2.2
    obtain ⟨-, -, -, -, -, h2, -⟩ := hW.2.2.2 c c0 (by omega)
    rw [b47_4, hC.2.1, if_pos (by omega), h1, wr_id (by omega) (by omega), wr_id (by omega) (by omega), l47 hC hW r (a + P 0 c) (c + 1) (by omega) (by omega) (by omega) (by omega)]
    exact and_iff_right (by omega) |> propext
theorem c135t (hC : CP σ o P) (hW : WFp P) (hv : (if b = 0 then σ.1 9007 0 else σ.1 8001 90) = v) (x0 : 0 ≤ x) (x4 : x ≤ 4) (hQ : Q (some (wI (szv P v x))) σ) : T135 (d + 1) Q 25 [wO 9 0, wI b, wI x, wM 2] [wO 3 o] σ := by
  have hn := hW.1
  have hm := hW.2.1
  unfold szv at hQ
  rw [b135_25]
  by_cases g0 : x = 0
  · rw [if_pos g0, b135_28, hC.1]
    rw [if_pos g0] at hQ
    exact hQ
  rw [if_neg g0]
  rw [if_neg g0] at hQ
  by_cases g1 : x = 1
  · rw [if_pos g1, b135_31, e46, b46_0, l46 hC hW (P 3000 0).toNat 0 0 (by have := hn.1; omega) (by omega) (by omega) (by omega)]
    rw [if_pos g1] at hQ
    simp only [Option.toList_some, List.cons_append, List.nil_append]
    rw [b135_33]
    exact hQ
  rw [if_neg g1]
  rw [if_neg g1] at hQ
  by_cases g2 : x = 2
  · rw [if_pos g2, b135_34, hC.2.1]
    rw [if_pos g2] at hQ
    exact hQ
  rw [if_neg g2]
  rw [if_neg g2] at hQ
  by_cases g3 : x = 3
  · rw [if_pos g3, b135_37, e47, b47_0, l47 hC hW (P 3001 0).toNat 0 0 (by have := hm.1; omega) (by omega) (by omega) (by omega)]
    rw [if_pos g3] at hQ
    simp only [Option.toList_some, List.cons_append, List.nil_append]
    rw [b135_39]
    exact hQ
  rw [if_neg g3, b135_40]
  rw [if_neg g3] at hQ
  subst hv
  by_cases gb : b = 0
  · rw [if_pos gb] at hQ ⊢
    exact hQ
  · rw [if_neg gb] at hQ ⊢
    exact hQ
theorem l188a (s0 : 0 ≤ s) (s2 : s ≤ 1) (hR : RP σ s P) (hW : WFp P) : ∀ (r : Nat) (a c : Int), c + r = P 3000 0 → 0 ≤ c → 0 ≤ a → a ≤ 6 * c → T188 d Q 26 [wO 10 121, wI b, wI 1, wI s, wI a, wI c] [] σ = T188 d Q 50 [wO 10 121, wI b, wI 1, wI s, wI (sg (P 3005) r a c), wI 0] [] σ
  | 0, a, c, hc, c0, a0, a1 => by
    rw [b188_26, hR.1, if_neg (by omega), b188_48]
    exact and_iff_right (by omega) |> propext
  | r + 1, a, c, hc, c0, a0, a1 => by
    have hn := hW.1.2.1
    have h1 := (hR.2.2.1 c c0 (by omega)).1.2.2.1
    have h2 := hW.2.2.1 c c0 (by omega)
    rw [b188_26, hR.1, if_pos (by omega), if_pos rfl]
    simp (disch := omega) only [wr_id]
    rw [h1, l188a s0 s2 hR hW r (a + P 3005 c) (c + 1) (by omega) (by omega) (by omega) (by omega)]
    exact (and_iff_right (by omega)).trans (and_iff_right (by omega)) |> propext
theorem l188b (s0 : 0 ≤ s) (s2 : s ≤ 1) (hR : RP σ s P) (hW : WFp P) : ∀ (r : Nat) (a c : Int), c + r = P 3001 0 → 0 ≤ c → 0 ≤ a → a ≤ 120 * c → T188 d Q 50 [wO 10 121, wI b, wI 3, wI s, wI a, wI c] [] σ = Q (some (wI (sg (P 0) r a c))) σ
  | 0, a, c, hc, c0, a0, a1 => by
    rw [b188_50, hR.2.1, if_neg (by omega), b188_72, if_neg (by decide), if_neg (by decide), if_neg (by decide)]
    exact and_iff_right (by omega) |> propext
  | r + 1, a, c, hc, c0, a0, a1 => by
    have hn := hW.2.1.2.1
    have h1 := (hR.2.2.2 c c0 (by omega)).1.2.2.2.2.2.2
    obtain ⟨-, -, -, -, -, h2, -⟩ := hW.2.2.2 c c0 (by omega)
    rw [b188_50, hR.2.1, if_pos (by omega), if_pos rfl]
    simp (disch := omega) only [wr_id]
    rw [h1, l188b s0 s2 hR hW r (a + P 0 c) (c + 1) (by omega) (by omega) (by omega) (by omega)]
    exact (and_iff_right (by omega)).trans (and_iff_right (by omega)) |> propext
theorem r188t (s0 : 0 ≤ s) (s2 : s ≤ 1) (hR : RP σ s P) (hW : WFp P) (x0 : 0 ≤ x) (x4 : x ≤ 4) (hQ : Q (some (wI (szv P (σ.2.2 10034 121 s) x))) σ) : T188 d Q 21 [wO 10 121, wI b, wI x, wM 2, wM 2, wM 2] [wI s] σ := by
  have hn := hW.1
  have hm := hW.2.1
  unfold szv at hQ
  rw [b188_21]
  have sk1 : ¬ x = 1 → T188 d Q 50 [wO 10 121, wI b, wI x, wI s, wI 0, wI 0] [] σ → T188 d Q 26 [wO 10 121, wI b, wI x, wI s, wI 0, wI 0] [] σ := by
    intro g h
    rw [b188_26, hR.1]
    refine ⟨by omega, ?_⟩
    by_cases g' : 0 < P 3000 0
    · rw [if_pos g', if_neg g, b188_48]; exact h
    · rw [if_neg g', b188_48]; exact h
  have sk2 : ∀ a, ¬ x = 3 → T188 d Q 72 [wO 10 121, wI b, wI x, wI s, wI a, wI 0] [] σ → T188 d Q 50 [wO 10 121, wI b, wI x, wI s, wI a, wI 0] [] σ := by
    intro a g h
    rw [b188_50, hR.2.1]
    refine ⟨by omega, ?_⟩
    by_cases g' : 0 < P 3001 0
    · rw [if_pos g', if_neg g]; exact h
    · rw [if_neg g']; exact h
  by_cases g0 : x = 0
  · refine sk1 (by omega) (sk2 _ (by omega) ?_)
    rw [b188_72, if_pos g0, hR.1]
    rw [if_pos g0] at hQ
    exact ⟨by omega, hQ⟩
  rw [if_neg g0] at hQ
  by_cases g1 : x = 1
  · rw [if_pos g1] at hQ
    have := sk2 (sg (P 3005) (P 3000 0).toNat 0 0) (by omega)
    subst g1
    rw [l188a s0 s2 hR hW (P 3000 0).toNat 0 0 (by have := hn.1; omega) (by omega) (by omega) (by omega)]
    refine this ?_
    rw [b188_72, if_neg (by decide), if_neg (by decide), if_neg (by decide)]
    exact hQ
  rw [if_neg g1] at hQ
  by_cases g2 : x = 2
  · refine sk1 (by omega) (sk2 _ (by omega) ?_)
    rw [b188_72, if_neg g0, if_pos g2, hR.2.1]
    rw [if_pos g2] at hQ
    exact ⟨by omega, hQ⟩
  rw [if_neg g2] at hQ
  by_cases g3 : x = 3
  · rw [if_pos g3] at hQ
    refine sk1 (by omega) ?_
    subst g3
    rw [l188b s0 s2 hR hW (P 3001 0).toNat 0 0 (by have := hm.1; omega) (by omega) (by omega) (by omega)]
    exact hQ
  rw [if_neg g3] at hQ
  refine sk1 (by omega) (sk2 _ (by omega) ?_)
  rw [b188_72, if_neg g0, if_neg g2, if_pos (by omega)]
  exact ⟨by omega, hQ⟩
/-- what is asked of a program: the great one or the small one -/
theorem JJ.pick (h : JJ σc σr) (hb : ¬ (if b = 0 then σr.1 10043 121 else σr.1 10044 121) = 0) : ∃ P, (CP σc (if b = 0 then σc.2.1 7 else σc.2.1 8) P ∧ RP σr (if b = 0 then 0 else 1) P ∧ WFp P) ∧ (if b = 0 then σc.1 9007 0 else σc.1 8001 90) = σr.2.2 10034 121 (if b = 0 then 0 else 1) := by
  by_cases g : b = 0
  · simp only [if_pos g] at hb ⊢
    obtain ⟨P, ⟨⟨a1, a2, a3, a4, a5⟩, -, c1⟩, -⟩ := h.2 hb
    exact ⟨P, ⟨a1, a3, a4.1⟩, c1.2⟩
  · simp only [if_neg g] at hb ⊢
    obtain ⟨P, -, hs⟩ := h.2 (h.1.2.2.2.1.2.2.1 hb)
    obtain ⟨P', ⟨a1, a2, a3, a4, a5⟩, -, -, d1, -⟩ := hs hb
    exact ⟨P', ⟨a1, a3, a4.1⟩, d1.2.1.1.trans d1.2.2.symm⟩
theorem ptR.nz (h : ptR σc) : ¬ σc.2.1 7 = 0 ∧ ¬ σc.2.1 8 = 0 := by
  obtain ⟨h1, h2, -⟩ := h
  omega
theorem flR.c (h : flR σc σr) : (if b = 0 then σc.1 9005 0 else σc.1 9006 0) = (if b = 0 then σr.1 10043 121 else σr.1 10044 121) := by rw [h.1.1, h.2.1.1]
theorem flR.on (h : flR σc σr) (g : ¬ (if b = 0 then σr.1 10043 121 else σr.1 10044 121) = 0) : (if b = 0 then σr.1 10043 121 else σr.1 10044 121) = 1 := by
  by_cases gb : b = 0
  · simp only [if_pos gb] at g ⊢
    exact h.1.2.resolve_left g
  · simp only [if_neg gb] at g ⊢
    exact h.2.1.2.resolve_left g
theorem h135 (h : JJ σc σr) : q2 JJ 135 188 [wI b, wI x] σc σr := by
  have hf := h.1.2.2.2.1
  by_cases g : (if b = 0 then σr.1 10043 121 else σr.1 10044 121) = 0
  · exact n135 (hf.c.trans g) g h.th
  obtain ⟨P, ⟨hC, hR, hW⟩, hv⟩ := h.pick g
  have hz := h.1.2.2.2.2.nz
  refine q2_tell (v := if x < 0 then -1 else if 4 < x then -1 else szv P (σr.2.2 10034 121 (if b = 0 then 0 else 1)) x) (fun Q hQ => ?_) (fun Q hQ => ?_) h.th
  · rw [e135, b135_0]
    by_cases g1 : x < 0
    · rw [if_pos g1] at hQ ⊢; exact hQ
    rw [if_neg g1] at hQ ⊢
    by_cases g2 : 4 < x
    · rw [if_pos g2] at hQ ⊢; exact hQ
    rw [if_neg g2] at hQ ⊢
    have hc : ¬ (if b = 0 then σc.1 9005 0 else σc.1 9006 0) = 0 := by rw [hf.c]; exact g
    have := c135t (d := 18) hC hW hv (by omega) (by omega) hQ
    by_cases gb : b = 0
    · simp only [if_pos gb] at hc this ⊢
      rw [if_neg hc, b135_18, if_pos gb]
      exact ⟨hz.1, this⟩
    · simp only [if_neg gb] at hc this ⊢
      rw [if_neg hc, b135_18, if_neg gb]
      exact ⟨hz.2, this⟩
  · rw [e188, b188_0]
    by_cases g1 : x < 0
    · rw [if_pos g1] at hQ ⊢; exact hQ
    rw [if_neg g1] at hQ ⊢
    by_cases g2 : 4 < x
    · rw [if_pos g2] at hQ ⊢; exact hQ
    rw [if_neg g2] at hQ ⊢
    have ho := hf.on g
    show j3_tc true 19 187 [wO 10 121, wI b] (th0 σr) _
    have ho' : (if b = 0 then (th0 σr).1 10043 121 else (th0 σr).1 10044 121) = 1 := by rw [th0_r rfl, th0_r rfl]; exact ho
    rw [s187 (Or.inr ho'), ho']
    simp only [Option.toList_some, List.cons_append, List.nil_append]
    rw [b188_13, if_neg (by decide)]
    have : ∀ s, s = (if b = 0 then (0 : Int) else 1) → T188 19 Q 21 [wO 10 121, wI b, wI x, wM 2, wM 2, wM 2] [wI s] (th0 σr) := by
      intro s hs
      rw [← hs] at hR hQ
      have hb : 0 ≤ s ∧ s ≤ 1 := by
        subst hs
        split <;> omega
      exact r188t hb.1 hb.2 (σ := th0 σr) hR hW (by omega) (by omega) hQ
    by_cases gb : b = 0
    · rw [if_pos gb]
      exact this 0 (by rw [if_pos gb])
    · rw [if_neg gb]
      exact this 1 (by rw [if_neg gb])
end SIZE
