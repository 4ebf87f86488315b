/-! the told numbers: both sides find the same first wrong one -/
def agS (σ : j3_S) (o : Nat) (P : Pg) (n : Int) : Bool := agB P (P 1 (σ.2.2 5005 73 n)) (P 2 (σ.2.2 5005 73 n)) (P 3 (σ.2.2 5005 73 n))
def fsr (σ : j3_S) (o : Nat) (P : Pg) : Nat → Int → Int
  | 0, _ => -1
  | r + 1, n => if agS σ o P n = true then fsr σ o P r (n + 1) else σ.2.2 5006 73 n
section TOLD
variable {d : Nat} {Q : j3_P} {σc σr : j3_S} {o : Nat} {P : Pg} {m i : Int}
theorem l65 (hp : σc.2.1 4 = o) (ho : ¬ o = 0) (hC : CP σc o P) (hW : WF0 P) (hT : TL σc o σr (P 3001 0) 0) (h0 : 0 ≤ σc.1 5007 73) (h4 : σc.1 5007 73 ≤ 4000) : ∀ (r : Nat) (n : Int) (w : j3_W), n + r = σc.1 5007 73 → 0 ≤ n → T65 (d + 3) Q 2 [wO 5 73, wI n, w] [] σc = Q (some (wI (fsr σc o P r n))) σc
  | 0, n, w, hn, n0 => by
    rw [b65_2, if_neg (by omega)]
    rfl
  | r + 1, n, w, hn, n0 => by
    obtain ⟨m', i', ⟨q1, q2, q3, q4, q5⟩, q6, q7, q8, q9⟩ := hT.1 n n0 (by omega)
    have hm' : m' < P 3001 0 := by omega
    have hm2 := hW.2.1.2.1
    rw [(hC.2.2.2 m' q1 hm').1.2.2.2.2.2.2] at q4
    obtain ⟨e1, e2, e3⟩ := (hC.2.2.2 m' q1 hm').2.2 i' q2 q4
    rw [e1] at q7
    have hi := (hW.2.2.2 m' q1 hm').2.2.2.2.2.2 i' q2 q4
    have tw : 16 ≤ P 1 (m' * 120 + i') ∧ P 1 (m' * 120 + i') ≤ 21 := by simpa [twop] using q7
    have hc := hi.2.2.2.1 (by omega)
    have hk := hi.2.2.2.2 tw
    rw [b65_2, if_pos (by omega), hp, q6, e1, e2, e3, s72 hp ho hC hW tw.1 tw.2 hc.1 hc.2 hk]
    simp only [Option.toList_some, List.cons_append, List.nil_append]
    rw [b65_31, wr_id (by omega) (by omega), l65 hp ho hC hW hT h0 h4 r (n + 1) _ (by omega) (by omega)]
    have es : agS σc o P n = agB P (P 1 (m' * 120 + i')) (P 2 (m' * 120 + i')) (P 3 (m' * 120 + i')) := by unfold agS; rw [q6]
    have c1 : (0 ≤ n ∧ n < 4000) = True := by simp; omega
    have c2 : (0 ≤ m' * 120 + i' ∧ m' * 120 + i' < 9600) = True := by simp; omega
    simp only [c1, c2, ho, not_false_eq_true, true_and, fsr, es]
    cases agB P (P 1 (m' * 120 + i')) (P 2 (m' * 120 + i')) (P 3 (m' * 120 + i'))
    · simp [b2i]
    · simp [b2i]
/-- the reference: one instruction that tells two -/
theorem r44 {n : Int} {w5 w6 : j3_W} {X : Prop} (hR : RP σr 2 P) (hW : WF0 P) (m0 : 0 ≤ m) (m1 : m < P 3001 0) (i0 : 0 ≤ i) (i1 : i < P 0 m) (tw : 16 ≤ P 1 (m * 120 + i) ∧ P 1 (m * 120 + i) ≤ 21)
    (hy : agB P (P 1 (m * 120 + i)) (P 2 (m * 120 + i)) (P 3 (m * 120 + i)) = true → ∀ x5 x6, T167 (d + 1) Q 148 [wO 10 121, wI m, wI i, wI (19200 + 120 * m + i), wI (P 1 (m * 120 + i)), wI x5, wI x6] [] σr)
    (hn : agB P (P 1 (m * 120 + i)) (P 2 (m * 120 + i)) (P 3 (m * 120 + i)) = false → ∀ x5 x6, T167 (d + 1) Q 148 [wO 10 121, wI m, wI i, wI (19200 + 120 * m + i), wI (P 1 (m * 120 + i)), wI x5, wI x6] [] (wrS σr 1 (σr.2.2 10033 121 (m * 120 + i)) (-1) (-1))) :
    T167 (d + 1) Q 36 [wO 10 121, wI m, wI i, wI (19200 + 120 * m + i), wI (P 1 (m * 120 + i)), w5, w6] [wI (b2i (twop (P 1 (m * 120 + i))))] σr := by
  obtain ⟨hs, hm, hF, hM⟩ := id hW
  have hn10 := hs.2.1
  have hm2 := hm.2.1
  obtain ⟨-, -, -, -, -, q6, q7⟩ := hM m m0 m1
  have hi := q7 i i0 i1
  obtain ⟨e1, e2, e3⟩ := (hR.2.2.2 m m0 m1).2.2 i i0 i1
  rw [show (9600 : Int) * 2 = 19200 by decide] at e1 e2 e3
  have hc := hi.2.2.2.1 (by omega)
  have hk := hi.2.2.2.2 tw
  generalize P 1 (m * 120 + i) = op at *
  generalize P 2 (m * 120 + i) = c at *
  generalize P 3 (m * 120 + i) = k at *
  have hcm := hm.2.2 c hc.1 hc.2
  have hcf := hF c hc.1 hc.2
  obtain ⟨⟨-, -, d3, d4, d5⟩, d6⟩ := hR.2.2.1 c hc.1 hc.2
  rw [show (10 : Int) * 2 = 20 by decide] at d3 d4 d5
  have t2 : twop op = true := by unfold twop; simp; exact tw
  have hx : 0 ≤ 19200 + 120 * m + i ∧ 19200 + 120 * m + i < 28800 := by omega
  -- the end
  have fin : ∀ b : Bool, b = agB P op c k → ∀ x5, T167 (d + 1) Q 135 [wO 10 121, wI m, wI i, wI (19200 + 120 * m + i), wI op, wI x5, wI (b2i b)] [] σr := by
    intro b hb x5
    rw [b167_135]
    cases b
    · rw [if_pos (show b2i false = 0 from rfl), wr_id (by omega) (by omega), show 19200 + 120 * m + i - 19200 = m * 120 + i by omega, s158]
      simp only [Option.toList_none, List.nil_append]
      exact ⟨by omega, hn hb.symm _ _⟩
    · rw [if_neg (by decide)]
      exact hy hb.symm _ _
  rw [b167_36, t2, if_neg (by decide)]
  by_cases g : op ≤ 19
  · rw [if_neg (by omega), b167_44, if_neg (by decide), e2, e3, wr_id (by omega) (by omega), d3, b167_70]
    refine ⟨hx, hx, by omega, ?_⟩
    have eb : agB P op c k = (decide (k < P 3005 c) && decide (P 3010 (c * 6 + k) = if 18 ≤ op then 1 else 0)) := by unfold agB; rw [if_pos g]
    rw [eb] at fin
    by_cases g2 : k < P 3005 c
    · obtain ⟨-, -, f3⟩ := d6 k hk g2
      rw [show (60 : Int) * 2 = 120 by decide] at f3
      rw [if_pos g2, b167_74, if_neg (by decide), if_neg (by decide), e2, e3]
      simp (disch := omega) only [wr_id]
      rw [f3]
      refine ⟨hx, hx, by omega, ?_⟩
      have t101 : ∀ x : Int, x = (if 18 ≤ op then 1 else 0) → T167 (d + 1) Q 101 [wO 10 121, wI m, wI i, wI (19200 + 120 * m + i), wI op, wI 1, wI 1] [wI x, wI (P 3010 (c * 6 + k))] σr := by
        intro x hx'
        have fin2 := fin (decide (P 3010 (c * 6 + k) = x)) (by rw [hx']; simp [g2]) 1
        rw [b167_101]
        by_cases g3 : P 3010 (c * 6 + k) = x
        · rw [if_pos g3, b167_105, b167_106, if_neg (by decide), if_neg (by omega)]
          simpa [g3, b2i] using fin2
        · rw [if_neg g3, b167_105, b167_106, if_pos rfl]
          simpa [g3, b2i] using fin2
      by_cases g3 : op < 18
      · rw [if_pos g3]
        exact t101 0 (by rw [if_neg (by omega)])
      · rw [if_neg g3]
        exact t101 1 (by rw [if_pos (by omega)])
    · have fin2 := fin false (by simp [g2]) 1
      rw [if_neg g2, b167_74, if_pos rfl, b167_106, if_pos rfl]
      exact fin2
  · rw [if_pos (by omega), b167_44, if_pos rfl, e2, e3, wr_id (by omega) (by omega), d4, b167_70]
    refine ⟨hx, hx, by omega, ?_⟩
    have eb : agB P op c k = (decide (k < P 3006 c) && (decide (op = 20) || decide (P 3013 (P 3007 c + k) = 0))) := by unfold agB; rw [if_neg g]
    rw [eb] at fin
    by_cases g2 : k < P 3006 c
    · rw [if_pos g2, b167_74, if_neg (by decide), if_pos rfl, b167_106, if_neg (by decide)]
      by_cases g3 : op = 21
      · have e7 := (hR.2.2.2 (P 3007 c + k) (by omega) (by omega)).1.2.2.1
        rw [show (80 : Int) * 2 = 160 by decide] at e7
        rw [if_pos g3, e2, e3]
        simp (disch := omega) only [wr_id, d5]
        rw [show 160 + P 3007 c + k = 160 + (P 3007 c + k) by omega, e7]
        refine ⟨hx, by omega, hx, by omega, ?_⟩
        by_cases g4 : P 3013 (P 3007 c + k) = 0
        · rw [if_pos g4, b167_134]
          exact fin true (by simp [g2, g4]) 0
        · rw [if_neg g4, b167_134]
          exact fin false (by simp [g2, g4, g3]) 0
      · rw [if_neg g3]
        exact fin true (by simp [g2, show op = 20 by omega]) 0
    · rw [if_neg g2, b167_74, if_pos rfl, b167_106, if_pos rfl]
      exact fin false (by simp [g2]) 0
end TOLD
