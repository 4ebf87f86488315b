section TOLD2
variable {d : Nat} {Q : j3_P} {σc σr : j3_S} {o : Nat} {P : Pg} {m i : Int}
def Jn (σc : j3_S) (n z : Int) : Prop := (∀ n', 0 ≤ n' → n' < n → σc.2.2 5005 73 n' < z) ∧ ∀ n', n ≤ n' → n' < σc.1 5007 73 → z ≤ σc.2.2 5005 73 n'
theorem fsr_s {n : Int} (h0 : 0 ≤ n) (h1 : n < σc.1 5007 73) : fsr σc o P (σc.1 5007 73 - n).toNat n = if agS σc o P n = true then fsr σc o P (σc.1 5007 73 - (n + 1)).toNat (n + 1) else σc.2.2 5006 73 n := by
  have e : (σc.1 5007 73 - n).toNat = (σc.1 5007 73 - (n + 1)).toNat + 1 := by omega
  rw [e]
  rfl
theorem r13' (hC : CP σc o P) (hR : RP σr 2 P) (hW : WF0 P) (hT : TL σc o σr (P 3001 0) 0) (hb : σr.1 10007 121 = 0) (m0 : 0 ≤ m) (m1 : m < P 3001 0) : ∀ (r : Nat) (i n : Int) (w3 w4 w5 w6 : j3_W), i + r = P 0 m → 0 ≤ i → 0 ≤ n → n ≤ σc.1 5007 73 → Jn σc n (m * 120 + i) →
    (∀ n' x2 w3 w4 w5 w6, 0 ≤ n' → n' ≤ σc.1 5007 73 → Jn σc n' (m * 120 + P 0 m) → fsr σc o P (σc.1 5007 73 - n').toNat n' = fsr σc o P (σc.1 5007 73 - n).toNat n → T167 (d + 1) Q 150 [wO 10 121, wI m, wI x2, w3, w4, w5, w6] [] σr) →
    (¬ fsr σc o P (σc.1 5007 73 - n).toNat n = -1 → Q none (wrS σr 1 (fsr σc o P (σc.1 5007 73 - n).toNat n) (-1) (-1))) → T167 (d + 1) Q 13 [wO 10 121, wI m, wI i, w3, w4, w5, w6] [] σr
  | 0, i, n, w3, w4, w5, w6, hi, i0, n0, n1, hJ, hx, hq => by
    have hm2 := hW.2.1.2.1
    have e26 := (hR.2.2.2 m m0 m1).1.2.2.2.2.2.2
    rw [show (80 : Int) * 2 = 160 by decide] at e26
    rw [b167_13, wr_id (by omega) (by omega), e26, if_neg (by omega)]
    have : i = P 0 m := by omega
    subst this
    exact ⟨by omega, hx n _ _ _ _ _ n0 n1 hJ rfl⟩
  | r + 1, i, n, w3, w4, w5, w6, hi, i0, n0, n1, hJ, hx, hq => by
    have hm2 := hW.2.1.2.1
    obtain ⟨-, -, -, -, -, q6, q7⟩ := hW.2.2.2 m m0 m1
    have hii := q7 i i0 (by omega)
    have e26 := (hR.2.2.2 m m0 m1).1.2.2.2.2.2.2
    rw [show (80 : Int) * 2 = 160 by decide] at e26
    obtain ⟨e1, -, -⟩ := (hR.2.2.2 m m0 m1).2.2 i i0 (by omega)
    rw [show (9600 : Int) * 2 = 19200 by decide] at e1
    obtain ⟨f1, -, -⟩ := (hC.2.2.2 m m0 m1).2.2 i i0 (by omega)
    have f0 := (hC.2.2.2 m m0 m1).1.2.2.2.2.2.2
    rw [b167_13, wr_id (by omega) (by omega), e26, if_pos (by omega), hb, if_pos rfl, s160 (by omega) (by omega) m0 (by omega) i0 (by omega)]
    simp only [Option.toList_some, List.cons_append, List.nil_append]
    rw [b167_28, show (9600 : Int) * 2 = 19200 by decide, e1, s165]
    simp only [Option.toList_some, List.cons_append, List.nil_append]
    refine ⟨by omega, by omega, ?_⟩
    by_cases tw : 16 ≤ P 1 (m * 120 + i) ∧ P 1 (m * 120 + i) ≤ 21
    · have twt : twop (σc.2.2 1 (o + 17) (m * 120 + i)) = true := by rw [f1]; unfold twop; simp; exact tw
      obtain ⟨k, k0, k1, k2⟩ := hT.2.2 m i ⟨m0, i0, by omega, by rw [f0]; omega, Or.inl m1⟩ twt
      have kn : k = n := by
        by_cases g : k < n
        · have := hJ.1 k k0 g
          omega
        · by_cases g2 : n < k
          · have h1 := hT.2.1 n k n0 g2 k1
            have h2 := hJ.2 n (by omega) (by omega)
            omega
          · omega
      subst kn
      have es : agS σc o P k = agB P (P 1 (m * 120 + i)) (P 2 (m * 120 + i)) (P 3 (m * 120 + i)) := by unfold agS; rw [k2]
      have ep : σc.2.2 5006 73 k = σr.2.2 10033 121 (m * 120 + i) ∧ 0 ≤ σc.2.2 5006 73 k := by
        obtain ⟨m', i', -, z1, -, z2, z3⟩ := hT.1 k k0 k1
        rw [k2] at z1
        rw [← z1] at z2
        exact ⟨z2, z3⟩
      have ef := fsr_s (σc := σc) (o := o) (P := P) n0 k1
      refine r44 (n := k) (X := True) hR hW m0 m1 i0 (by omega) tw (fun ha x5 x6 => ?_) (fun ha x5 x6 => ?_)
      · rw [es, ha, if_pos rfl] at ef
        rw [b167_148, wr_id (by omega) (by omega)]
        rw [ef] at hq
        refine r13' hC hR hW hT hb m0 m1 r (i + 1) (k + 1) _ _ _ _ (by omega) (by omega) (by omega) (by omega) ⟨fun n' h0 h1 => ?_, fun n' h0 h1 => ?_⟩ (fun n' x2 w3 w4 w5 w6 h0 h1 h2 h3 => hx n' x2 w3 w4 w5 w6 h0 h1 h2 (h3.trans ef.symm)) hq
        · by_cases g : n' = k
          · subst g
            omega
          · have := hJ.1 n' h0 (by omega)
            omega
        · have := hT.2.1 k n' k0 (by omega) h1
          omega
      · rw [es, ha, if_neg (by decide), ep.1] at ef
        have hb1 : ¬ (wrS σr 1 (σr.2.2 10033 121 (m * 120 + i)) (-1) (-1)).1 10007 121 = 0 := by rw [wrS_1 hb]; decide
        rw [b167_148, b167_13, if_neg hb1, ite_self, b167_150, b167_2, if_neg hb1, ite_self, wr_id (by omega) (by omega)]
        rw [ef] at hq
        exact ⟨by omega, by omega, hq (by rw [← ep.1]; omega)⟩
    · have twf : twop (P 1 (m * 120 + i)) = false := by unfold twop; simp; omega
      rw [b167_36, twf, if_pos (show b2i false = 0 from rfl), b167_148, wr_id (by omega) (by omega)]
      refine r13' hC hR hW hT hb m0 m1 r (i + 1) n _ _ _ _ (by omega) (by omega) n0 n1 ⟨fun n' h0 h1 => ?_, fun n' h0 h1 => ?_⟩ hx hq
      · have := hJ.1 n' h0 h1
        omega
      · have h2 := hJ.2 n' h0 h1
        obtain ⟨m', i', ⟨v1, v2, v3, v4, v5⟩, z1, z2, -⟩ := hT.1 n' (by omega) h1
        by_cases g : σc.2.2 5005 73 n' = m * 120 + i
        · have : m' = m ∧ i' = i := by omega
          rw [this.1, this.2, f1] at z2
          rw [z2] at twf
          cases twf
        · omega
theorem r2' (hC : CP σc o P) (hR : RP σr 2 P) (hW : WF0 P) (hT : TL σc o σr (P 3001 0) 0) (hb : σr.1 10007 121 = 0) : ∀ (r : Nat) (m n : Int) (w2 w3 w4 w5 w6 : j3_W), m + r = P 3001 0 → 0 ≤ m → 0 ≤ n → n ≤ σc.1 5007 73 → Jn σc n (m * 120) →
    (fsr σc o P (σc.1 5007 73 - n).toNat n = -1 → Q none σr) → (¬ fsr σc o P (σc.1 5007 73 - n).toNat n = -1 → Q none (wrS σr 1 (fsr σc o P (σc.1 5007 73 - n).toNat n) (-1) (-1))) → T167 (d + 1) Q 2 [wO 10 121, wI m, w2, w3, w4, w5, w6] [] σr
  | 0, m, n, w2, w3, w4, w5, w6, hm, m0, n0, n1, hJ, h1, h2 => by
    rw [b167_2, hR.2.1, if_neg (by omega)]
    refine ⟨by omega, h1 ?_⟩
    have en : n = σc.1 5007 73 := by
      by_cases g : n < σc.1 5007 73
      · obtain ⟨m', i', ⟨v1, v2, v3, v4, v5⟩, z1, z2, -⟩ := hT.1 n n0 g
        have := hJ.2 n (Int.le_refl _) g
        omega
      · omega
    rw [en, show (σc.1 5007 73 - σc.1 5007 73).toNat = 0 by omega]
    rfl
  | r + 1, m, n, w2, w3, w4, w5, w6, hm, m0, n0, n1, hJ, h1, h2 => by
    have hm2 := hW.2.1.2.1
    obtain ⟨-, -, -, -, -, q6, q7⟩ := hW.2.2.2 m m0 (by omega)
    rw [b167_2, hR.2.1, if_pos (by omega), hb, if_pos rfl]
    refine ⟨by omega, r13' hC hR hW hT hb m0 (by omega) (P 0 m).toNat 0 n _ _ _ _ (by omega) (by omega) n0 n1 (by rw [Int.add_zero]; exact hJ) (fun n' x2 w3 w4 w5 w6 g0 g1 g2 g3 => ?_) h2⟩
    rw [b167_150, wr_id (by omega) (by omega)]
    rw [← g3] at h1 h2
    refine r2' hC hR hW hT hb r (m + 1) n' _ _ _ _ _ (by omega) (by omega) g0 g1 ⟨fun k k0 k1 => ?_, fun k k0 k1 => ?_⟩ h1 h2
    · have := g2.1 k k0 k1
      omega
    · have h3 := g2.2 k k0 k1
      obtain ⟨m', i', ⟨v1, v2, v3, v4, v5⟩, z1, -⟩ := hT.1 k (by omega) k1
      have f0 := (hC.2.2.2 m' v1 (by omega)).1.2.2.2.2.2.2
      rw [f0] at v4
      by_cases g : m' = m
      · subst g
        omega
      · omega
/-- all told numbers are there, if none is found -/
theorem fsr_all (hT : TL σc o σr (P 3001 0) 0) (hC : CP σc o P) (hW : WF0 P) : ∀ (r : Nat) (n : Int), n + r = σc.1 5007 73 → 0 ≤ n → fsr σc o P r n = -1 → ∀ k, n ≤ k → k < σc.1 5007 73 → agS σc o P k = true
  | 0, n, hn, n0, h, k, k0, k1 => absurd k1 (by omega)
  | r + 1, n, hn, n0, h, k, k0, k1 => by
    simp only [fsr] at h
    by_cases g : agS σc o P n = true
    · rw [if_pos g] at h
      by_cases g2 : k = n
      · rw [g2]; exact g
      · exact fsr_all hT hC hW r (n + 1) (by omega) (by omega) h k (by omega) k1
    · rw [if_neg g] at h
      obtain ⟨m', i', -, -, -, -, z3⟩ := hT.1 n n0 (by omega)
      omega
theorem told_ok (hT : TL σc o σr (P 3001 0) 0) (hC : CP σc o P) (hW : WF0 P) (h0 : 0 ≤ σc.1 5007 73) (h : fsr σc o P (σc.1 5007 73).toNat 0 = -1) : WFp P := by
  obtain ⟨hs, hm, hF, hM⟩ := id hW
  have hall := fsr_all hT hC hW (σc.1 5007 73).toNat 0 (by omega) (Int.le_refl _) h
  refine ⟨hs, hm, hF, fun m m0 m1 => ?_⟩
  obtain ⟨q1, q2, q3, q4, q5, q6, q7⟩ := hM m m0 m1
  refine ⟨q1, q2, q3, q4, q5, q6, fun i i0 i1 => ?_⟩
  obtain ⟨⟨a1, a1'⟩, a2, a3, a4, a5⟩ := q7 i i0 i1
  have ag : 16 ≤ P 1 (m * 120 + i) ∧ P 1 (m * 120 + i) ≤ 21 → agB P (P 1 (m * 120 + i)) (P 2 (m * 120 + i)) (P 3 (m * 120 + i)) = true := by
    intro tw
    obtain ⟨f1, -, -⟩ := (hC.2.2.2 m m0 m1).2.2 i i0 i1
    have f0 := (hC.2.2.2 m m0 m1).1.2.2.2.2.2.2
    have twt : twop (σc.2.2 1 (o + 17) (m * 120 + i)) = true := by rw [f1]; unfold twop; simp; exact tw
    obtain ⟨k, k0, k1, k2⟩ := hT.2.2 m i ⟨m0, i0, by omega, by rw [f0]; exact i1, Or.inl m1⟩ twt
    have := hall k k0 k1
    unfold agS at this
    rw [k2] at this
    exact this
  refine ⟨a1, a1', a2, a3, a4, fun tw => ?_, fun tw => ?_⟩
  · have := ag ⟨by omega, by omega⟩
    unfold agB at this
    rw [if_pos tw.2] at this
    simp at this
    exact ⟨a5 ⟨by omega, by omega⟩, this.1⟩
  · have := ag ⟨by omega, by omega⟩
    unfold agB at this
    rw [if_neg (by omega)] at this
    simp at this
    exact ⟨a5 ⟨by omega, by omega⟩, this.1⟩
/-- FIELDS and METHODS told by their OPS: STATIC or not -/
def WFt (P : Pg) : Prop := ∀ m i, 0 ≤ m → m < P 3001 0 → 0 ≤ i → i < P 0 m → (16 ≤ P 1 (m * 120 + i) ∧ P 1 (m * 120 + i) ≤ 19 → P 3010 (P 2 (m * 120 + i) * 6 + P 3 (m * 120 + i)) = if 18 ≤ P 1 (m * 120 + i) then 1 else 0) ∧ (P 1 (m * 120 + i) = 21 → P 3013 (P 3007 (P 2 (m * 120 + i)) + P 3 (m * 120 + i)) = 0)
theorem told_t (hT : TL σc o σr (P 3001 0) 0) (hC : CP σc o P) (hW : WF0 P) (h0 : 0 ≤ σc.1 5007 73) (h : fsr σc o P (σc.1 5007 73).toNat 0 = -1) : WFt P := by
  have hall := fsr_all hT hC hW (σc.1 5007 73).toNat 0 (by omega) (Int.le_refl _) h
  intro m i m0 m1 i0 i1
  obtain ⟨-, -, -, -, -, q6, -⟩ := hW.2.2.2 m m0 m1
  have ag : 16 ≤ P 1 (m * 120 + i) ∧ P 1 (m * 120 + i) ≤ 21 → agB P (P 1 (m * 120 + i)) (P 2 (m * 120 + i)) (P 3 (m * 120 + i)) = true := by
    intro tw
    obtain ⟨f1, -, -⟩ := (hC.2.2.2 m m0 m1).2.2 i i0 i1
    have f0 := (hC.2.2.2 m m0 m1).1.2.2.2.2.2.2
    have twt : twop (σc.2.2 1 (o + 17) (m * 120 + i)) = true := by rw [f1]; unfold twop; simp; exact tw
    obtain ⟨k, k0, k1, k2⟩ := hT.2.2 m i ⟨m0, i0, by omega, by rw [f0]; exact i1, Or.inl m1⟩ twt
    have := hall k k0 k1
    unfold agS at this
    rw [k2] at this
    exact this
  refine ⟨fun tw => ?_, fun tw => ?_⟩
  · have := ag ⟨by omega, by omega⟩
    unfold agB at this
    rw [if_pos tw.2] at this
    simp at this
    exact this.2
  · have := ag ⟨by omega, by omega⟩
    unfold agB at this
    rw [if_neg (by omega)] at this
    simp at this
    rcases this.2 with h | h
    · omega
    · exact h
end TOLD2
