/-! what was read, as a program -/
def PgC (σ : j3_S) (o : Nat) : Pg := fun e i => if e = 3000 then σ.1 3000 o else if e = 3001 then σ.1 3001 o else if e ≤ 4 then σ.2.2 e (o + 17) i else σ.2.2 e o i
/-- a program whose told numbers are not looked at yet -/
def WF0 (P : Pg) : Prop := WFs P ∧ WFm P ∧ (∀ c, 0 ≤ c → c < P 3000 0 → 0 ≤ P 3005 c ∧ P 3005 c ≤ 6 ∧ ∀ f, 0 ≤ f → f < P 3005 c → 0 ≤ P 3009 (c * 6 + f) ∧ P 3009 (c * 6 + f) ≤ P 3000 0 ∧ (P 3010 (c * 6 + f) = 0 ∨ P 3010 (c * 6 + f) = 1)) ∧
  ∀ m, 0 ≤ m → m < P 3001 0 → (0 ≤ P 3011 m ∧ P 3011 m < P 3000 0 ∧ P 3007 (P 3011 m) ≤ m ∧ m < P 3007 (P 3011 m) + P 3006 (P 3011 m)) ∧ (P 3013 m = 0 ∨ P 3013 m = 1) ∧ (0 ≤ P 3014 m ∧ P 3014 m ≤ P 3000 0 + 1) ∧ (0 ≤ P 3015 m ∧ P 3015 m ≤ 3 ∧ ∀ k, 0 ≤ k → k < P 3015 m → 0 ≤ P 3016 (m * 3 + k) ∧ P 3016 (m * 3 + k) ≤ P 3000 0) ∧ (P 3015 m + (1 - P 3013 m) ≤ P 3017 m ∧ P 3017 m ≤ 20) ∧ (1 ≤ P 0 m ∧ P 0 m ≤ 120) ∧ ∀ i, 0 ≤ i → i < P 0 m → iraw (P 3017 m) (P 0 m) (P 3000 0) (P 1 (m * 120 + i)) (P 2 (m * 120 + i)) (P 3 (m * 120 + i))
/-- the depths of classes -/
def WFd (P : Pg) : Prop := ∀ c, 0 ≤ c → c < P 3000 0 → (P 3004 c = (if P 3003 c < 0 then 0 else P 3004 (P 3003 c) + 1) ∧ 0 ≤ P 3004 c ∧ P 3004 c ≤ c) ∧ ∀ k, 0 ≤ k → k < P 3006 c → P 3011 (P 3007 c + k) = c
/-- the methods of classes, one after the other -/
def WFc (P : Pg) : Prop := ∀ c1 c2, 0 ≤ c1 → c1 < c2 → c2 < P 3000 0 → P 3007 c1 + P 3006 c1 ≤ P 3007 c2
section PRG
variable {σc σr : j3_S} {o : Nat} {tb : Int → Int} {sz m c nc M : Int} {st : Ps}
theorem PgC_e {e : Nat} {i : Int} (h : 3002 ≤ e) : PgC σc o e i = σc.2.2 e o i := by
  unfold PgC
  rw [if_neg (by omega), if_neg (by omega), if_neg (by omega)]
theorem PgC_c {e : Nat} {i : Int} (h : e ≤ 4) : PgC σc o e i = σc.2.2 e (o + 17) i := by
  unfold PgC
  rw [if_neg (by omega), if_neg (by omega), if_pos h]
theorem PgC_0 {i : Int} : PgC σc o 3000 i = σc.1 3000 o := rfl
theorem PgC_1 {i : Int} : PgC σc o 3001 i = σc.1 3001 o := rfl
theorem PgC_CP : CP σc o (PgC σc o) := by
  refine ⟨rfl, rfl, fun c _ _ => ⟨⟨rfl, rfl, rfl, rfl, rfl⟩, fun f _ _ => ⟨rfl, rfl, rfl⟩⟩, fun m _ _ => ⟨⟨rfl, rfl, rfl, rfl, rfl, rfl, rfl⟩, fun p _ _ => rfl, fun i _ _ => ⟨rfl, rfl, rfl⟩⟩⟩
theorem PgC_RP (hp : pre σc o σr tb sz nc st) (hM : σc.1 3001 o = M) (hM' : σr.2.2 10018 121 2 = M) (hk : okC σc o σr nc nc M st) (h0 : st.2 = 0) : RP σr 2 (PgC σc o) := by
  obtain ⟨k1, -⟩ := hk.1 h0
  obtain ⟨k2, -⟩ := hk.2 h0
  obtain ⟨-, -, ⟨-, -, v3, v4, -, -⟩, -⟩ := hp
  refine ⟨v4.trans v3.symm, hM'.trans hM.symm, fun c c0 c1 => ?_, fun m m0 m1 => ?_⟩
  · rw [PgC_0, v3] at c1
    obtain ⟨⟨a1, a2, a3, a4, a5⟩, -, ⟨a6, a7, a8⟩, -⟩ := k2 c c0 c1
    refine ⟨⟨a1, a2, a3, a4, a5⟩, fun f f0 f1 => ?_⟩
    obtain ⟨⟨b1, b2, b3⟩, -⟩ := a8 f f0 f1
    exact ⟨b1, b2, b3⟩
  · rw [PgC_1, hM] at m1
    obtain ⟨⟨a1, a2, a3, a4, a5, a6, a7⟩, -, b1, b2⟩ := k1 m m0 m1
    refine ⟨⟨a1, a2, a3, a4, a5, a6, a7⟩, fun p p0 p1 => (b1 p p0 p1).1, fun i i0 i1 => ?_⟩
    obtain ⟨⟨d1, d2, d3⟩, -⟩ := b2 i i0 i1
    exact ⟨d1, d2, d3⟩
theorem PgC_WF (hp : pre σc o σr tb sz nc st) (hM : σc.1 3001 o = M) (hM0 : 0 ≤ M) (hM8 : M ≤ 80) (hk : okC σc o σr nc nc M st) (h0 : st.2 = 0) : WF0 (PgC σc o) ∧ WFd (PgC σc o) ∧ WFc (PgC σc o) := by
  obtain ⟨k1, -⟩ := hk.1 h0
  obtain ⟨k2, k3, k4, k5⟩ := hk.2 h0
  obtain ⟨-, -, ⟨-, -, v3, v4, v5, v6⟩, -⟩ := hp
  have e0 : PgC σc o 3000 0 = nc := v3
  have e1 : PgC σc o 3001 0 = M := hM
  refine ⟨⟨⟨by rw [e0]; exact v5, by rw [e0]; exact v6, fun c c0 c1 => ?_⟩, ⟨by rw [e1]; exact hM0, by rw [e1]; exact hM8, fun c c0 c1 => ?_⟩, fun c c0 c1 => ?_, fun m m0 m1 => ?_⟩, fun c c0 c1 => ?_, fun c1 c2 h0 h1 h2 => k5 c1 c2 h0 h1 (by rw [e0] at h2; exact h2)⟩
  · rw [e0] at c1
    obtain ⟨-, ⟨a2, a3, -⟩, -⟩ := k2 c c0 c1
    exact ⟨a2, a3⟩
  · rw [e0] at c1
    obtain ⟨-, -, -, ⟨a2, a3, a4⟩⟩ := k2 c c0 c1
    exact ⟨a2, a3, a4, by rw [e1]; exact (k3 c c0 c1).1⟩
  · rw [e0] at c1
    obtain ⟨-, -, ⟨a6, a7, a8⟩, -⟩ := k2 c c0 c1
    refine ⟨a6, a7, fun f f0 f1 => ?_⟩
    obtain ⟨-, b2, b3⟩ := a8 f f0 f1
    exact ⟨b2.1, by rw [e0]; exact b2.2, b3⟩
  · rw [e1] at m1
    obtain ⟨-, ⟨a1, a2, a3, a4, a5⟩, b1, b2⟩ := k1 m m0 m1
    have w := k4 m m0 m1
    rw [e0]
    exact ⟨⟨w.1, w.2.1, w.2.2.1, w.2.2.2⟩, a1, a2, ⟨a3.1, a3.2, fun k k0 k1 => (b1 k k0 k1).2⟩, a4, a5, fun i i0 i1 => (b2 i i0 i1).2⟩
  · rw [e0] at c1
    obtain ⟨-, ⟨-, -, a4, a5⟩, -⟩ := k2 c c0 c1
    exact ⟨⟨a4, a5⟩, (k3 c c0 c1).2⟩
/-- whether what is told is there -/
def agB (P : Pg) (op c k : Int) : Bool := if op ≤ 19 then decide (k < P 3005 c) && decide (P 3010 (c * 6 + k) = if 18 ≤ op then 1 else 0) else decide (k < P 3006 c) && (decide (op = 20) || decide (P 3013 (P 3007 c + k) = 0))
theorem s41 {d : Nat} {Q : j3_P} {σ : j3_S} {P : Pg} {c : Int} (hC : CP σ o P) : j3_tc false (d + 1) 41 [wO 3 o, wI c] σ Q = Q (some (wI (b2i (decide (0 ≤ c) && decide (c < P 3000 0))))) σ := by
  rw [e41, b41_0, hC.1]
  by_cases g : c < 0
  · simp [g, b2i, show ¬ 0 ≤ c by omega]
  · by_cases g2 : c < P 3000 0
    · simp [g, g2, b2i, show 0 ≤ c by omega]
    · simp [g, g2, b2i]
theorem s42 {d : Nat} {Q : j3_P} {σ : j3_S} {P : Pg} {c k : Int} (hC : CP σ o P) (hn : P 3000 0 ≤ 10) : j3_tc false (d + 2) 42 [wO 3 o, wI c, wI k] σ Q = Q (some (wI (b2i (decide (0 ≤ c) && decide (c < P 3000 0) && (decide (0 ≤ k) && decide (k < P 3005 c)))))) σ := by
  rw [e42, b42_0, s41 hC]
  simp only [Option.toList_some, List.cons_append, List.nil_append]
  rw [b42_3]
  by_cases g : 0 ≤ c ∧ c < P 3000 0
  · rw [(hC.2.2.1 c g.1 g.2).1.2.2.1]
    by_cases g2 : k < 0
    · simp [g.1, g.2, g2, b2i, show ¬ 0 ≤ k by omega]
    · by_cases g3 : k < P 3005 c
      · simp [g.1, g.2, g2, g3, b2i, show 0 ≤ k by omega, show c < 10 by omega]
      · simp [g.1, g.2, g2, g3, b2i, show c < 10 by omega]
  · have : (decide (0 ≤ c) && decide (c < P 3000 0)) = false := by
      rw [Bool.and_eq_false_iff]
      simp only [decide_eq_false_iff_not]
      omega
    simp [this, b2i]
theorem s43 {d : Nat} {Q : j3_P} {σ : j3_S} {P : Pg} {c k : Int} (hC : CP σ o P) (hn : P 3000 0 ≤ 10) : j3_tc false (d + 2) 43 [wO 3 o, wI c, wI k] σ Q = Q (some (wI (b2i (decide (0 ≤ c) && decide (c < P 3000 0) && (decide (0 ≤ k) && decide (k < P 3006 c)))))) σ := by
  rw [e43, b43_0, s41 hC]
  simp only [Option.toList_some, List.cons_append, List.nil_append]
  rw [b43_3]
  by_cases g : 0 ≤ c ∧ c < P 3000 0
  · rw [(hC.2.2.1 c g.1 g.2).1.2.2.2.1]
    by_cases g2 : k < 0
    · simp [g.1, g.2, g2, b2i, show ¬ 0 ≤ k by omega]
    · by_cases g3 : k < P 3006 c
      · simp [g.1, g.2, g2, g3, b2i, show 0 ≤ k by omega, show c < 10 by omega]
      · simp [g.1, g.2, g2, g3, b2i, show c < 10 by omega]
  · have : (decide (0 ≤ c) && decide (c < P 3000 0)) = false := by
      rw [Bool.and_eq_false_iff]
      simp only [decide_eq_false_iff_not]
      omega
    simp [this, b2i]
theorem s72 {d : Nat} {Q : j3_P} {σ : j3_S} {P : Pg} {op c k : Int} (hp : σ.2.1 4 = o) (ho : ¬ o = 0) (hC : CP σ o P) (hW : WF0 P) (o1 : 16 ≤ op) (o2 : op ≤ 21) (c0 : 0 ≤ c) (c1 : c < P 3000 0) (k0 : 0 ≤ k) : j3_tc false (d + 3) 72 [wO 5 73, wI op, wI c, wI k] σ Q = Q (some (wI (b2i (agB P op c k)))) σ := by
  obtain ⟨hs, hm, hF, hM⟩ := id hW
  have hn := hs.2.1
  have hm2 := hm.2.1
  have hcm := hm.2.2 c c0 c1
  have hcf := hF c c0 c1
  rw [e72, b72_0, tls_v (by omega) (by omega)]
  have h27 : (0 ≤ op ∧ op < 27) = True := by simp; omega
  simp only [h27, true_and, if_neg (show ¬ op = 0 by omega), if_neg (show ¬ (op = 2 ∨ op = 3) by omega), if_neg (show ¬ (11 ≤ op ∧ op ≤ 14) by omega), if_neg (show ¬ (op = 15 ∨ op = 24 ∨ op = 25) by omega)]
  unfold agB
  by_cases g : op ≤ 19
  · simp only [if_pos (show 16 ≤ op ∧ op ≤ 19 by omega), if_true, if_pos g]
    have t14 : ∀ x : Int, x = (if 18 ≤ op then 1 else 0) → T72 (d + 2) Q 14 [wO 5 73, wI op, wI c, wI k, wM 2] [wI x] σ = Q (some (wI (b2i (decide (k < P 3005 c) && decide (P 3010 (c * 6 + k) = if 18 ≤ op then 1 else 0))))) σ := by
      intro x hx
      rw [b72_14, hp, s42 hC hn]
      simp only [Option.toList_some, List.cons_append, List.nil_append, ho, not_false_eq_true, true_and]
      rw [b72_20, hp]
      simp only [c0, c1, k0, decide_true, Bool.true_and, ho, not_false_eq_true, true_and]
      by_cases g3 : k < P 3005 c
      · simp (disch := omega) only [wr_id]
        rw [((hC.2.2.1 c c0 c1).2 k k0 g3).2.2, hx]
        by_cases g4 : P 3010 (c * 6 + k) = if 18 ≤ op then 1 else 0
        · simp [g3, g4, b2i, show 0 ≤ c * 6 + k by omega, show c * 6 + k < 60 by omega]
        · simp [g3, g4, b2i, show 0 ≤ c * 6 + k by omega, show c * 6 + k < 60 by omega]
      · simp [g3, b2i]
    by_cases g2 : op = 18
    · rw [if_pos g2, b72_11]
      exact t14 1 (by rw [if_pos (by omega)])
    · rw [if_neg g2]
      by_cases g3 : op = 19
      · rw [if_pos g3, b72_11]
        exact t14 1 (by rw [if_pos (by omega)])
      · rw [if_neg g3]
        exact t14 0 (by rw [if_neg (by omega)])
  · simp only [if_neg (show ¬ (16 ≤ op ∧ op ≤ 19) by omega), if_pos (show op = 20 ∨ op = 21 by omega), if_neg g, Int.reduceEq, if_false]
    rw [hp, s43 hC hn]
    simp only [Option.toList_some, List.cons_append, List.nil_append, ho, not_false_eq_true, true_and]
    rw [b72_41, hp, b72_57]
    simp only [c0, c1, k0, decide_true, Bool.true_and, ho, not_false_eq_true, true_and]
    by_cases g3 : k < P 3006 c
    · have e7 := (hC.2.2.1 c c0 c1).1.2.2.2.2
      rw [e7]
      simp (disch := omega) only [wr_id]
      rw [(hC.2.2.2 (P 3007 c + k) (by omega) (by omega)).1.2.2.1]
      by_cases g4 : op = 20
      · simp [g3, g4, b2i]
      · by_cases g5 : P 3013 (P 3007 c + k) = 0
        · simp [g3, g4, g5, b2i, show c < 10 by omega, show 0 ≤ P 3007 c + k by omega, show P 3007 c + k < 80 by omega]
        · simp [g3, g4, g5, b2i, show c < 10 by omega, show 0 ≤ P 3007 c + k by omega, show P 3007 c + k < 80 by omega]
    · simp [g3, b2i]
end PRG
