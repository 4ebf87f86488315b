/-! the reference: leaves, room -/
section RLEAF
variable {σ σ' : j3_S} {P : Pg} {T : Int → Fl} {R : Rs} {m i u a b t bud op x l tot h : Int} {d : Nat} {Q : j3_P}
theorem pl_met (hT : TyC P u (P 3017 u) (cdP P u) (T u)) (hp : ∀ j, 0 ≤ j → j < P 0 u - 1 → plnB (P 1 (u * 120 + j)) = true) : ∀ k : Nat, (k : Int) < P 0 u → 0 ≤ (T u).1 k
  | 0, _ => by have := hT.1; show 0 ≤ (T u).1 0; omega
  | k + 1, hk => by
    have := pl_met hT hp k (by omega)
    have t := hT.2.2 k (by omega) (by show (k : Int) < P 0 u; omega) this
    have g := (pln_f (hp k (by omega) (by omega))).1
    have f := (t.2.2.1 g).2.1
    have w := wl_le t.2.1
    rw [← f] at w
    exact w
theorem l197 (hB : gbR σ P T R) (hg : good P) (hT : typed P T) (u0 : 0 ≤ u) (u1 : u < P 3001 0) (hb : ¬ P 3013 u = 0 ∧ 1 ≤ P 0 u ∧ P 0 u ≤ bud ∧ P 1 (u * 120 + (P 0 u - 1)) = 22) : ∀ (n : Nat) (j : Int) (w5 : j3_W), j + n = P 0 u - 1 → 0 ≤ j → (∀ z, 0 ≤ z → z < j → plnB (P 1 (u * 120 + z)) = true) → Q (some (wI (b2i (leafB P T bud u)))) σ → T197 (d + 1) Q 28 [wO 10 121, wI u, wI bud, wI (P 0 u), wI j, w5] [] σ
  | 0, j, w5, hj, j0, hp, hQ => by
    have h80 := hg.1.2.1.2.1
    obtain ⟨-, -, q3, -, -, q6, -⟩ := hg.1.2.2.2 u u0 u1
    obtain ⟨c1, -, c3⟩ := hB.1.2.2.2 u u0 u1
    have e22 := c1.2.2.2.1
    rw [show 80 * 0 + u = u by omega] at e22
    have pl : ∀ z, 0 ≤ z → z < P 0 u - 1 → plnB (P 1 (u * 120 + z)) = true := fun z z0 z1 => hp z z0 (by omega)
    have mt := pl_met (hT u u0 u1) pl (P 0 u - 1).toNat (by omega)
    rw [show (((P 0 u - 1).toNat : Nat) : Int) = P 0 u - 1 by omega] at mt
    have e36 := (hB.2.1 u (P 0 u - 1) u0 u1 (by omega) (by omega)).2 mt
    rw [b197_28]
    simp (disch := omega) only [wr_id]
    rw [if_neg (by omega), e22, show 120 * u + P 0 u - 1 = 120 * u + (P 0 u - 1) by omega, e36]
    refine ⟨by omega, by omega, ?_⟩
    have key : ∀ v : Int, v = (if P 3014 u = 0 then 0 else 1) → T197 (d + 1) Q 78 [wO 10 121, wI u, wI bud, wI (P 0 u), wI j, w5] [wI v, wI ((T u).1 (P 0 u - 1))] σ := by
      intro v hv
      rw [b197_78]
      by_cases g2 : (T u).1 (P 0 u - 1) = v
      · rw [if_pos g2]; refine ⟨by simp, ?_⟩
        have : leafB P T bud u = true := leafB_i.2 ⟨hb.1, hb.2.1, hb.2.2.1, pl, hb.2.2.2, by rw [g2, hv]⟩
        rw [this] at hQ; exact hQ
      · rw [if_neg g2]; refine ⟨by simp, ?_⟩
        rw [leafB_n (fun q => g2 (by rw [hv]; exact q.2.2.2.2.2))] at hQ; exact hQ
    by_cases g : P 3014 u = 0
    · rw [if_neg (by omega)]; exact key 0 (by rw [if_pos g])
    · rw [if_pos (by omega)]; exact key 1 (by rw [if_neg g])
  | n + 1, j, w5, hj, j0, hp, hQ => by
    have h80 := hg.1.2.1.2.1
    obtain ⟨-, -, -, -, -, q6, -⟩ := hg.1.2.2.2 u u0 u1
    have e1 := ((hB.1.2.2.2 u u0 u1).2.2 j j0 (by omega)).1
    rw [show 9600 * 0 + 120 * u + j = 120 * u + j by omega] at e1
    rw [b197_28, wr_id (by omega) (by omega), if_pos (by omega), s160 (by omega) (by omega) u0 (by omega) j0 (by omega), show 9600 * 0 + 120 * u + j = 120 * u + j by omega]
    simp only [Option.toList_some, List.cons_append, List.nil_append]
    rw [b197_39, e1]
    refine ⟨by omega, ?_⟩
    generalize hop : P 1 (u * 120 + j) = op at *
    have nxt : plnB op = true → T197 (d + 1) Q 58 [wO 10 121, wI u, wI bud, wI (P 0 u), wI j, wI op] [] σ := by
      intro g
      rw [b197_58, wr_id (by omega) (by omega)]
      refine l197 hB hg hT u0 u1 hb n (j + 1) _ (by omega) (by omega) (fun z z0 z1 => ?_) hQ
      by_cases gz : z = j
      · rw [gz, hop]; exact g
      · exact hp z z0 (by omega)
    have no : plnB op = false → Q (some (wI 0)) σ := by
      intro g
      rw [leafB_n (fun q => by have := q.2.2.2.1 j j0 (by omega); rw [hop, g] at this; cases this)] at hQ; exact hQ
    have fif : (¬ op ≤ 10) → ¬ (15 ≤ op ∧ op ≤ 19) → T197 (d + 1) Q 50 [wO 10 121, wI u, wI bud, wI (P 0 u), wI j, wI op] [] σ := by
      intro g1 g2
      rw [b197_50]
      by_cases g3 : op < 23
      · rw [if_pos g3]
        refine ⟨by simp, no ?_⟩
        simp only [plnB, Bool.or_eq_false_iff, Bool.and_eq_false_iff, decide_eq_false_iff_not]; omega
      · rw [if_neg g3]
        by_cases g4 : 25 < op
        · rw [if_pos g4]
          refine ⟨by simp, no ?_⟩
          simp only [plnB, Bool.or_eq_false_iff, Bool.and_eq_false_iff, decide_eq_false_iff_not]; omega
        · rw [if_neg g4]
          refine nxt ?_
          simp only [plnB, Bool.or_eq_true, Bool.and_eq_true, decide_eq_true_eq]; omega
    by_cases g1 : op ≤ 10
    · rw [if_neg (by omega)]
      refine nxt ?_
      simp only [plnB, Bool.or_eq_true, Bool.and_eq_true, decide_eq_true_eq]; omega
    · rw [if_pos (by omega)]
      by_cases g2 : op < 15
      · rw [if_pos g2]; exact fif g1 (by omega)
      · rw [if_neg g2]
        by_cases g3 : 19 < op
        · rw [if_pos g3]; exact fif g1 (by omega)
        · rw [if_neg g3]
          refine nxt ?_
          simp only [plnB, Bool.or_eq_true, Bool.and_eq_true, decide_eq_true_eq]; omega
theorem s197 (hB : gbR σ P T R) (hg : good P) (hT : typed P T) (u0 : 0 ≤ u) (u1 : u < P 3001 0) (hQ : Q (some (wI (b2i (leafB P T bud u)))) σ) : j3_tc true (d + 2) 197 [wO 10 121, wI u, wI bud] σ Q := by
  have h80 := hg.1.2.1.2.1
  obtain ⟨-, -, -, -, -, q6, -⟩ := hg.1.2.2.2 u u0 u1
  obtain ⟨c1, -, c3⟩ := hB.1.2.2.2 u u0 u1
  have e21 := c1.2.2.1
  have e26 := c1.2.2.2.2.2.2
  rw [show 80 * 0 + u = u by omega] at e21 e26
  have e1 := (c3 (P 0 u - 1) (by omega) (by omega)).1
  rw [e197, b197_0, e21, e26]
  refine ⟨by omega, by omega, ?_⟩
  by_cases g1 : P 3013 u = 0
  · rw [if_pos g1]; refine ⟨by simp, ?_⟩
    rw [leafB_n (fun q => q.1 g1)] at hQ; exact hQ
  · rw [if_neg g1]
    by_cases g2 : bud < P 0 u
    · rw [if_pos g2]; refine ⟨by simp, ?_⟩
      rw [leafB_n (fun q => by omega)] at hQ; exact hQ
    · rw [if_neg g2, wr_id (by omega) (by omega), s160 (by omega) (by omega) u0 (by omega) (by omega) (by omega)]
      simp only [Option.toList_some, List.cons_append, List.nil_append]
      rw [b197_21, e1]
      refine ⟨by omega, ?_⟩
      by_cases g3 : P 1 (u * 120 + (P 0 u - 1)) = 22
      · rw [if_pos g3]
        exact l197 hB hg hT u0 u1 ⟨g1, by omega, by omega, g3⟩ (P 0 u - 1).toNat 0 _ (by omega) (by omega) (fun z z0 z1 => by omega) hQ
      · rw [if_neg g3]; refine ⟨by simp, ?_⟩
        rw [leafB_n (fun q => g3 q.2.2.2.2.1)] at hQ; exact hQ
theorem l200 (hB : gbR σ P T R) (hg : good P) (hT : typed P T) (u0 : 0 ≤ u) (u1 : u < P 3001 0) (hl : lfT P u (T u)) {x1 x2 x5 : Int} (h5 : -10 ≤ x5 ∧ x5 ≤ 10) : ∀ (n : Nat) (j x6 : Int), j + n = P 0 u → 0 ≤ j → (x6 = 0 ∨ x6 = 1) → (x6 = 1 ↔ ∀ z, 0 ≤ z → z < j → x5 + (T u).1 z ≤ 10) → (∀ x6, (x6 = 0 ∨ x6 = 1) → (x6 = 1 ↔ ∀ z, 0 ≤ z → z < P 0 u → x5 + (T u).1 z ≤ 10) → Q (some (wI x6)) σ) → T200 d Q 48 [wO 10 121, wI x1, wI x2, wI u, wI tot, wI x5, wI x6, wI j] [] σ
  | 0, j, x6, hj, j0, h6, hi, hQ => by
    have h80 := hg.1.2.1.2.1
    have e26 := (hB.1.2.2.2 u u0 u1).1.2.2.2.2.2.2
    rw [show 80 * 0 + u = u by omega] at e26
    rw [b200_48, e26, if_neg (by omega)]
    rw [show j = P 0 u by omega] at hi
    exact ⟨by omega, h6, hQ x6 h6 hi⟩
  | n + 1, j, x6, hj, j0, h6, hi, hQ => by
    have h80 := hg.1.2.1.2.1
    obtain ⟨-, -, -, -, -, q6, -⟩ := hg.1.2.2.2 u u0 u1
    have e26 := (hB.1.2.2.2 u u0 u1).1.2.2.2.2.2.2
    rw [show 80 * 0 + u = u by omega] at e26
    obtain ⟨mt, ty⟩ := lf_ty hl j0 (by omega)
    have h10 := ty.1.1
    have e36 := (hB.2.1 u j u0 u1 j0 (by omega)).2 mt
    rw [b200_48, e26, if_pos (by omega)]
    refine ⟨by omega, ?_⟩
    have nxt : ∀ v, (v = 0 ∨ v = 1) → (v = 1 ↔ ∀ z, 0 ≤ z → z < j + 1 → x5 + (T u).1 z ≤ 10) → T200 d Q 71 [wO 10 121, wI x1, wI x2, wI u, wI tot, wI x5, wI x6, wI j] [wI v] σ := by
      intro v hv hv2
      rw [b200_71, wr_id (by omega) (by omega)]
      exact l200 hB hg hT u0 u1 hl h5 n (j + 1) v (by omega) (by omega) hv hv2 hQ
    by_cases g : x6 = 0
    · rw [if_pos g, b200_70]
      refine nxt 0 (Or.inl rfl) ⟨fun q => absurd q (by decide), fun q => ?_⟩
      have := hi.2 (fun z z0 z1 => q z z0 (by omega))
      omega
    · rw [if_neg g]
      simp (disch := omega) only [wr_id]
      rw [e36]
      refine ⟨by omega, ?_⟩
      have a1 : x6 = 1 := by omega
      by_cases g2 : 10 < x5 + (T u).1 j
      · rw [if_pos g2, b200_70]
        refine nxt 0 (Or.inl rfl) ⟨fun q => absurd q (by decide), fun q => ?_⟩
        have := q j j0 (by omega)
        omega
      · rw [if_neg g2]
        refine nxt 1 (Or.inr rfl) ⟨fun _ z z0 z1 => ?_, fun _ => rfl⟩
        by_cases gz : z = j
        · rw [gz]; omega
        · exact hi.1 a1 z z0 (by omega)
theorem s200 (hB : gbR σ P T R) (hg : good P) (hT : typed P T) (m0 : 0 ≤ m) (m1 : m < P 3001 0) (i0 : 0 ≤ i) (i1 : i < P 0 m) (hmt : 0 ≤ (T m).1 i) (h10 : (T m).1 i ≤ 10) (u0 : 0 ≤ u) (u1 : u < P 3001 0) (hl : lfT P u (T u)) (h25 : σ.2.2 10025 121 (160 + m) = l) (l0 : 0 ≤ l) (l1 : l ≤ 20) (t0 : 0 ≤ tot) (t1 : tot ≤ 120) (hQ : Q (some (wI (b2i (roomB P T m i l tot u)))) σ) : j3_tc true (d + 2) 200 [wO 10 121, wI m, wI i, wI u, wI tot] σ Q := by
  have h80 := hg.1.2.1.2.1
  obtain ⟨-, pst, -, q4, q5, q6, -⟩ := hg.1.2.2.2 u u0 u1
  have q6m := (hg.1.2.2.2 m m0 m1).2.2.2.2.2.1
  obtain ⟨c1, -, c3⟩ := hB.1.2.2.2 u u0 u1
  have e23 := c1.2.2.2.2.1
  have e25 := c1.2.2.2.2.2.1
  have e26 := c1.2.2.2.2.2.2
  rw [show 80 * 0 + u = u by omega] at e23 e25 e26
  have e36 := (hB.2.1 m i m0 m1 i0 i1).2 hmt
  rw [e200, b200_0, wr_id (z := 160 + m) (by omega) (by omega), h25, e23, e25, e26, wr_id (z := 120 * m) (by omega) (by omega), wr_id (z := 120 * m + i) (by omega) (by omega), e36]
  simp (disch := omega) only [wr_id]
  refine ⟨by omega, by omega, ?_⟩
  by_cases g1 : 20 < l + P 3017 u
  · rw [if_pos g1]; refine ⟨by simp, ?_⟩
    rw [roomB_n (fun q => by omega)] at hQ; exact hQ
  · rw [if_neg g1]
    refine ⟨by omega, by omega, ?_⟩
    by_cases g2 : 120 < tot + P 3015 u + P 0 u - 2
    · rw [if_pos g2]; refine ⟨by simp, ?_⟩
      rw [roomB_n (fun q => by omega)] at hQ; exact hQ
    · rw [if_neg g2]
      refine ⟨by omega, by omega, ?_⟩
      refine l200 hB hg hT u0 u1 hl (by omega) (P 0 u).toNat 0 1 (by omega) (by omega) (Or.inr rfl) ⟨fun _ z z0 z1 => by omega, fun _ => rfl⟩ (fun x6 h6 hi => ?_)
      rcases h6 with rfl | rfl
      · rw [roomB_n (fun q => by have := hi.2 q.2.2; omega)] at hQ; exact hQ
      · rw [roomB_i.2 ⟨by omega, by omega, hi.1 rfl⟩] at hQ; exact hQ
end RLEAF
