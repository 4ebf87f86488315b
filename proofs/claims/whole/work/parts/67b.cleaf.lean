/-! gathering in the class: leaves, room -/
section CLEAF
variable {σ σ' : j3_S} {P : Pg} {T : Int → Fl} {R : Rs} {m i u a b t bud op x l tot h : Int} {d o : Nat} {Q : j3_P}
theorem t1p {z : Prop} : (((1 : Int) = 0 ∨ (1 : Int) = 1) ∧ z) = z := by simp
theorem t0p {z : Prop} : (((0 : Int) = 0 ∨ (0 : Int) = 1) ∧ z) = z := by simp
theorem leafB_i : leafB P T bud u = true ↔ ¬ P 3013 u = 0 ∧ 1 ≤ P 0 u ∧ P 0 u ≤ bud ∧ (∀ j, 0 ≤ j → j < P 0 u - 1 → plnB (P 1 (u * 120 + j)) = true) ∧ P 1 (u * 120 + (P 0 u - 1)) = 22 ∧ (T u).1 (P 0 u - 1) = if P 3014 u = 0 then 0 else 1 := by
  unfold leafB
  simp only [Bool.and_eq_true, decide_eq_true_eq, Bool.not_eq_true', decide_eq_false_iff_not]
  constructor
  · rintro ⟨⟨⟨⟨⟨h1, h2⟩, h3⟩, h4⟩, h5⟩, h6⟩
    refine ⟨h1, h2, h3, fun j j0 j1 => ?_, h5, h6⟩
    by_cases g : plnB (P 1 (u * 120 + j)) = true
    · exact g
    · have : anyS (fun j => !plnB (P 1 (u * 120 + j))) (P 0 u - 1).toNat = true := (any_iff _).2 ⟨j, j0, by omega, by simpa using g⟩
      rw [this] at h4; cases h4
  · rintro ⟨h1, h2, h3, h4, h5, h6⟩
    refine ⟨⟨⟨⟨⟨h1, h2⟩, h3⟩, ?_⟩, h5⟩, h6⟩
    by_cases g : anyS (fun j => !plnB (P 1 (u * 120 + j))) (P 0 u - 1).toNat = true
    · obtain ⟨j, j0, j1, j2⟩ := (any_iff _).1 g
      rw [h4 j j0 (by omega)] at j2; cases j2
    · simpa using g
theorem leafB_n (h : ¬ (¬ P 3013 u = 0 ∧ 1 ≤ P 0 u ∧ P 0 u ≤ bud ∧ (∀ j, 0 ≤ j → j < P 0 u - 1 → plnB (P 1 (u * 120 + j)) = true) ∧ P 1 (u * 120 + (P 0 u - 1)) = 22 ∧ (T u).1 (P 0 u - 1) = if P 3014 u = 0 then 0 else 1)) : leafB P T bud u = false := by
  by_cases g : leafB P T bud u = true
  · exact absurd (leafB_i.1 g) h
  · simpa using g
theorem roomB_i : roomB P T m i l tot u = true ↔ l + P 3017 u ≤ 20 ∧ tot + (P 3015 u + P 0 u - 2) ≤ 120 ∧ ∀ j, 0 ≤ j → j < P 0 u → (T m).1 i - P 3015 u + (T u).1 j ≤ 10 := by
  unfold roomB
  simp only [Bool.and_eq_true, decide_eq_true_eq, Bool.not_eq_true']
  constructor
  · rintro ⟨⟨h1, h2⟩, h3⟩
    refine ⟨h1, h2, fun j j0 j1 => ?_⟩
    by_cases g : (T m).1 i - P 3015 u + (T u).1 j ≤ 10
    · exact g
    · have : anyS (fun j => decide (10 < (T m).1 i - P 3015 u + (T u).1 j)) (P 0 u).toNat = true := (any_iff _).2 ⟨j, j0, by omega, decide_eq_true (by omega)⟩
      rw [this] at h3; cases h3
  · rintro ⟨h1, h2, h3⟩
    refine ⟨⟨h1, h2⟩, ?_⟩
    by_cases g : anyS (fun j => decide (10 < (T m).1 i - P 3015 u + (T u).1 j)) (P 0 u).toNat = true
    · obtain ⟨j, j0, j1, j2⟩ := (any_iff _).1 g
      have := h3 j j0 (by omega)
      have := of_decide_eq_true j2
      omega
    · simpa using g
theorem roomB_n (h : ¬ (l + P 3017 u ≤ 20 ∧ tot + (P 3015 u + P 0 u - 2) ≤ 120 ∧ ∀ j, 0 ≤ j → j < P 0 u → (T m).1 i - P 3015 u + (T u).1 j ≤ 10)) : roomB P T m i l tot u = false := by
  by_cases g : roomB P T m i l tot u = true
  · exact absurd (roomB_i.1 g) h
  · simpa using g
theorem l83 (hB : gbC σ o P T R bud) (hg : good P) (u0 : 0 ≤ u) (u1 : u < P 3001 0) (hb : ¬ P 3013 u = 0 ∧ 1 ≤ P 0 u ∧ P 0 u ≤ bud) : ∀ (n : Nat) (j : Int), j + n = P 0 u - 1 → 0 ≤ j → (∀ z, 0 ≤ z → z < j → plnB (P 1 (u * 120 + z)) = true) → Q (some (wI (b2i (leafB P T bud u)))) σ → T83 (d + 1) Q 34 [wO 6 83, wI u, wI (P 0 u), wI (u * 120 + P 0 u - 1), wI (u * 120 + j)] [] σ
  | 0, j, hj, j0, hp, hQ => by
    obtain ⟨⟨h1, h2, -⟩, hC, hH, -⟩ := hB
    have h80 := hg.1.2.1.2.1
    obtain ⟨-, -, -, q4, -, q6, -⟩ := hg.1.2.2.2 u u0 u1
    obtain ⟨c1, -, c3⟩ := hC.2.2.2 u u0 u1
    have e1 := (c3 (P 0 u - 1) (by omega) (by omega)).1
    have e4 := hH u (P 0 u - 1) u0 u1 (by omega) (by omega)
    rw [show u * 120 + (P 0 u - 1) = u * 120 + P 0 u - 1 by omega] at e1 e4
    rw [b83_34, if_neg (by omega), h2, c1.2.2.2.1]
    refine ⟨h1, by omega, ?_⟩
    have key : ∀ v : Int, v = (if P 3014 u = 0 then 0 else 1) → T83 (d + 1) Q 59 [wO 6 83, wI u, wI (P 0 u), wI (u * 120 + P 0 u - 1), wI (u * 120 + j)] [wI v] σ := by
      intro v hv
      rw [b83_59, h2, e1, e4]
      refine ⟨h1, by omega, ?_⟩
      have ee : u * 120 + P 0 u - 1 = u * 120 + (P 0 u - 1) := by omega
      by_cases g1 : P 1 (u * 120 + P 0 u - 1) = 22
      · rw [if_pos g1]
        refine ⟨h1, by omega, ?_⟩
        by_cases g2 : (T u).1 (P 0 u - 1) = v
        · rw [if_pos g2]; refine ⟨by simp, ?_⟩
          have : leafB P T bud u = true := leafB_i.2 ⟨hb.1, hb.2.1, hb.2.2, fun z z0 z1 => hp z z0 (by omega), by rw [← ee]; exact g1, by rw [g2, hv]⟩
          rw [this] at hQ; exact hQ
        · rw [if_neg g2]; refine ⟨by simp, ?_⟩
          rw [leafB_n (fun q => g2 (by rw [hv]; exact q.2.2.2.2.2))] at hQ; exact hQ
      · rw [if_neg g1]; refine ⟨by simp, ?_⟩
        rw [leafB_n (fun q => g1 (by rw [ee]; exact q.2.2.2.2.1))] at hQ; exact hQ
    by_cases g : P 3014 u = 0
    · rw [if_pos g]; exact key 0 (by rw [if_pos g])
    · rw [if_neg g]; exact key 1 (by rw [if_neg g])
  | n + 1, j, hj, j0, hp, hQ => by
    obtain ⟨⟨h1, h2, -⟩, hC, hH, -⟩ := id hB
    have h80 := hg.1.2.1.2.1
    obtain ⟨-, -, -, q4, -, q6, -⟩ := hg.1.2.2.2 u u0 u1
    obtain ⟨c1, -, c3⟩ := hC.2.2.2 u u0 u1
    have e1 := (c3 j (by omega) (by omega)).1
    rw [b83_34, if_pos (by omega), h2, e1, s84]
    refine ⟨h1, by omega, ?_⟩
    simp only [Option.toList_some, List.cons_append, List.nil_append]
    rw [b83_45]
    by_cases g : plnB (P 1 (u * 120 + j)) = true
    · rw [g, if_neg (by decide), wr_id (by omega) (by omega), show u * 120 + j + 1 = u * 120 + (j + 1) by omega]
      refine l83 hB hg u0 u1 hb n (j + 1) (by omega) (by omega) (fun z z0 z1 => ?_) hQ
      by_cases gz : z = j
      · rw [gz]; exact g
      · exact hp z z0 (by omega)
    · have g' : plnB (P 1 (u * 120 + j)) = false := by simpa using g
      rw [g', if_pos (by rfl)]; refine ⟨by simp, ?_⟩
      rw [leafB_n (fun q => g (q.2.2.2.1 j j0 (by omega)))] at hQ; exact hQ
theorem s83 (hB : gbC σ o P T R bud) (hg : good P) (u0 : 0 ≤ u) (u1 : u < P 3001 0) (hQ : Q (some (wI (b2i (leafB P T bud u)))) σ) : j3_tc false (d + 2) 83 [wO 6 83, wI u] σ Q := by
  obtain ⟨⟨h1, h2, -⟩, hC, hH, -, -, h6⟩ := id hB
  have h80 := hg.1.2.1.2.1
  obtain ⟨-, -, -, q4, -, q6, -⟩ := hg.1.2.2.2 u u0 u1
  obtain ⟨c1, -, c3⟩ := hC.2.2.2 u u0 u1
  rw [e83, b83_0, h2, h6, c1.2.2.1, c1.2.2.2.2.2.2]
  refine ⟨h1, by omega, h1, by omega, ?_⟩
  simp (disch := omega) only [wr_id]
  by_cases g1 : P 3013 u = 0
  · rw [if_pos g1]; refine ⟨by simp, ?_⟩
    rw [leafB_n (fun q => q.1 g1)] at hQ; exact hQ
  · rw [if_neg g1, if_neg (by omega)]
    by_cases g2 : bud < P 0 u
    · rw [if_pos g2]; refine ⟨by simp, ?_⟩
      rw [leafB_n (fun q => by omega)] at hQ; exact hQ
    · rw [if_neg g2]
      have := l83 (d := d) hB hg u0 u1 ⟨g1, by omega, by omega⟩ (P 0 u - 1).toNat 0 (by omega) (by omega) (fun z z0 z1 => by omega) hQ
      rw [show u * 120 + 0 = u * 120 by omega] at this
      exact this
theorem l85c (hB : gbC σ o P T R bud) (hg : good P) (hT : typed P T) (u0 : 0 ≤ u) (u1 : u < P 3001 0) : ∀ (n : Nat) (j v : Int), j + n = P 0 u → 0 ≤ j → 0 ≤ v → v ≤ 10 → (∀ z, 0 ≤ z → z < j → (T u).1 z ≤ v) → (v = 0 ∨ ∃ z, 0 ≤ z ∧ z < j ∧ (T u).1 z = v) → (∀ v, 0 ≤ v → v ≤ 10 → (∀ z, 0 ≤ z → z < P 0 u → (T u).1 z ≤ v) → (v = 0 ∨ ∃ z, 0 ≤ z ∧ z < P 0 u ∧ (T u).1 z = v) → Q (some (wI v)) σ) → T85 d Q 8 [wO 6 83, wI u, wI v, wI (u * 120), wI (u * 120 + j)] [] σ
  | 0, j, v, hj, j0, v0, v1, h1, h2, hQ => by
    obtain ⟨⟨h1', h2', -⟩, hC, hH, -⟩ := hB
    have h80 := hg.1.2.1.2.1
    obtain ⟨-, -, -, q4, -, q6, -⟩ := hg.1.2.2.2 u u0 u1
    obtain ⟨c1, -, c3⟩ := hC.2.2.2 u u0 u1
    rw [b85_8, h2', c1.2.2.2.2.2.2, wr_id (by omega) (by omega), if_neg (by omega)]
    have : j = P 0 u := by omega
    subst this
    exact ⟨h1', by omega, hQ v v0 v1 h1 h2⟩
  | n + 1, j, v, hj, j0, v0, v1, h1, h2, hQ => by
    obtain ⟨⟨h1', h2', -⟩, hC, hH, -⟩ := id hB
    have h80 := hg.1.2.1.2.1
    obtain ⟨-, -, -, q4, -, q6, -⟩ := hg.1.2.2.2 u u0 u1
    obtain ⟨c1, -, c3⟩ := hC.2.2.2 u u0 u1
    have e4 := hH u j u0 u1 j0 (by omega)
    have h10 : (T u).1 j ≤ 10 := by
      by_cases g : 0 ≤ (T u).1 j
      · exact ((hT u u0 u1).2.2 j j0 (by show j < P 0 u; omega) g).1.1
      · omega
    rw [b85_8, h2', c1.2.2.2.2.2.2, wr_id (by omega) (by omega), if_pos (by omega), e4, wr_id (z := u * 120 + j + 1) (by omega) (by omega), show u * 120 + j + 1 = u * 120 + (j + 1) by omega]
    refine ⟨h1', by omega, h1', by omega, ?_⟩
    by_cases g : v < (T u).1 j
    · rw [if_pos g]
      refine l85c hB hg hT u0 u1 n (j + 1) _ (by omega) (by omega) (by omega) h10 (fun z z0 z1 => ?_) (Or.inr ⟨j, j0, by omega, rfl⟩) hQ
      by_cases gz : z = j
      · rw [gz]; omega
      · have := h1 z z0 (by omega); omega
    · rw [if_neg g]
      refine l85c hB hg hT u0 u1 n (j + 1) v (by omega) (by omega) v0 v1 (fun z z0 z1 => ?_) ?_ hQ
      · by_cases gz : z = j
        · rw [gz]; omega
        · exact h1 z z0 (by omega)
      · rcases h2 with h2 | ⟨z, z0, z1, z2⟩
        · exact Or.inl h2
        · exact Or.inr ⟨z, z0, by omega, z2⟩
theorem s82 (hB : gbC σ o P T R bud) (hg : good P) (hT : typed P T) (u0 : 0 ≤ u) (u1 : u < P 3001 0) (hh : (T m).1 i = h) (h0 : 0 ≤ h) (h10 : h ≤ 10) (hl : σ.1 7001 96 = l) (l0 : 0 ≤ l) (l1 : l ≤ 20) (t0 : 0 ≤ tot) (t1 : tot ≤ 120) (hQ : Q (some (wI (b2i (leafB P T bud u && roomB P T m i l tot u)))) σ) : j3_tc false (d + 3) 82 [wO 6 83, wI u, wI h, wI tot] σ Q := by
  obtain ⟨⟨h1', h2', -⟩, hC, hH, -⟩ := id hB
  have h80 := hg.1.2.1.2.1
  obtain ⟨-, -, -, q4, q5, q6, -⟩ := hg.1.2.2.2 u u0 u1
  obtain ⟨c1, -, c3⟩ := hC.2.2.2 u u0 u1
  rw [e82, b82_0]
  refine s83 hB hg u0 u1 ?_
  simp only [Option.toList_some, List.cons_append, List.nil_append]
  rw [b82_3, h2', c1.2.2.2.2.1, c1.2.2.2.2.2.1, hl]
  by_cases g : leafB P T bud u = true
  · rw [g] at hQ ⊢
    rw [Bool.true_and] at hQ
    rw [if_neg (by decide)]
    refine ⟨h1', by omega, h1', by omega, ?_⟩
    have pst := (hg.1.2.2.2 u u0 u1).2.1
    simp (disch := omega) only [wr_id]
    by_cases g1 : 20 < l + P 3017 u
    · rw [if_pos g1]; refine ⟨by simp, ?_⟩
      rw [roomB_n (fun q => by omega)] at hQ; exact hQ
    · rw [if_neg g1, s81 hB hg u0 u1]
      simp only [Option.toList_some, List.cons_append, List.nil_append]
      rw [b82_29, wr_id (by omega) (by omega)]
      by_cases g2 : 120 < tot + (P 3015 u + P 0 u - 2)
      · rw [if_pos g2]; refine ⟨by simp, ?_⟩
        rw [roomB_n (fun q => by omega)] at hQ; exact hQ
      · rw [if_neg g2, e85, b85_0]
        simp (disch := omega) only [wr_id]
        have := l85c (d := d + 1) (Q := fun r σ1 => T82 (d + 2) Q 36 [wO 6 83, wI u, wI h, wI tot, wI (h - P 3015 u)] (r.toList ++ [wI (h - P 3015 u)]) σ1) hB hg hT u0 u1 (P 0 u).toNat 0 0 (by omega) (by omega) (by omega) (by omega) (fun z z0 z1 => by omega) (Or.inl rfl) (fun v v0 v1 w1 w2 => ?_)
        · rw [show u * 120 + 0 = u * 120 by omega] at this
          exact this
        · simp only [Option.toList_some, List.cons_append, List.nil_append]
          rw [b82_36, wr_id (by omega) (by omega)]
          by_cases g3 : 10 < h - P 3015 u + v
          · rw [if_pos g3]; refine ⟨by simp, ?_⟩
            rw [roomB_n (fun q => by
              rcases w2 with w2 | ⟨z, z0, z1, z2⟩
              · have z0 := (hT u u0 u1).1
                have := q.2.2 0 (by omega) (by omega)
                rw [hh, z0] at this
                omega
              · have := q.2.2 z z0 z1
                rw [hh, z2] at this
                omega)] at hQ; exact hQ
          · rw [if_neg g3]; refine ⟨by simp, ?_⟩
            rw [roomB_i.2 ⟨by omega, by omega, fun j j0 j1 => by have := w1 j j0 j1; rw [hh]; omega⟩] at hQ; exact hQ
  · have g' : leafB P T bud u = false := by simpa using g
    rw [g'] at hQ ⊢
    rw [if_pos (by rfl)]; refine ⟨by simp, ?_⟩
    exact hQ
end CLEAF
