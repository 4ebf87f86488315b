/-! the class's step: numbers, jumps -/
section CST4
variable {σ σ' τ : j3_S} {P : Pg} {T : Int → Fl} {M : Mc} {d : Nat} {Q : j3_P} {k i j x v h' : Int} {s : Int → Int} {o : Nat}
theorem via30 (B : cBd σ o P T M) (h6 : 6 ≤ tO P M ∧ tO P M ≤ 10) (hτ : τ.2.2 2009 109 (M.dp - 1) = ti M) (hq : ∀ d (Q : j3_P), Q none τ → j3_tc false (d + 4) 30 [wO 2 109, wI (tO P M)] σ Q) : ∀ d (Q : j3_P), Q none (if τ.1 2006 109 = -1 then nxC τ (M.dp - 1) (ti M) else τ) → j3_tc false (d + 8) 28 [wO 2 109] σ Q := by
  intro d Q hQ
  obtain ⟨⟨k0, k1, k2, k3, -⟩, -, ⟨-, i0, i1⟩, -⟩ := B.f
  obtain ⟨⟨hg, hT⟩, ⟨b1, b2, b3, -⟩, h, ht, he⟩ := B
  have hj : isj (tO P M) = false := by simp [isj]; omega
  refine c28s (d := d + 5) hg.1 b1 b2 b3 (h.2.1 (by rw [he]; decide)) ht ?_
  rw [hj, b28_58, if_pos (show b2i false = 0 from rfl), if_neg (by omega), if_neg (by omega), if_neg (by omega), if_neg (by omega), if_neg (by omega)]
  refine hq (d + 3) _ ?_
  simp only [Option.toList_none, List.nil_append]
  rw [b28_108]
  by_cases g : τ.1 2006 109 = -1
  · rw [if_pos g] at hQ
    exact t128 g k0 k1 hτ i0 i1 hQ
  · rw [if_neg g] at hQ
    rw [b28_128, if_neg g]
    exact hQ
theorem via29 {r : Int} (B : cBd σ o P T M) (hj : isj (tO P M) = true) (hτ : τ.2.2 2009 109 (M.dp - 1) = ti M) (hq : ∀ d (Q : j3_P), Q (some (wI r)) τ → j3_tc false (d + 4) 29 [wO 2 109, wI (tO P M)] σ Q) : ∀ d (Q : j3_P), Q none (jpC τ (M.dp - 1) (if r = 0 then ti M + 1 else tA P M)) → j3_tc false (d + 8) 28 [wO 2 109] σ Q := by
  intro d Q hQ
  obtain ⟨⟨k0, k1, k2, k3, -⟩, -, ⟨-, i0, i1⟩, -⟩ := B.f
  obtain ⟨⟨hg, hT⟩, ⟨b1, b2, b3, -⟩, h, ht, he⟩ := B
  refine c28s (d := d + 5) hg.1 b1 b2 b3 (h.2.1 (by rw [he]; decide)) ht ?_
  rw [hj, b28_58, if_neg (show ¬ b2i true = 0 by decide)]
  refine hq (d + 3) _ ?_
  simp only [Option.toList_some, List.cons_append, List.nil_append]
  rw [b28_65]
  by_cases g : r = 0
  · rw [if_pos g] at hQ ⊢
    rw [hτ, wr_id (by omega) (by omega)]
    exact ⟨by omega, by omega, hQ⟩
  · rw [if_neg g] at hQ ⊢
    exact ⟨by omega, hQ⟩
theorem c_6 (B : cBd σ o P T M) (h6 : 6 ≤ tO P M ∧ tO P M ≤ 10) : cSt P T M σ := by
  obtain ⟨⟨k0, k1, k2, k3, k4⟩, ⟨n0, n1, hh, hsk⟩, ⟨hi, i0, i1⟩, m0, m1⟩ := B.f
  have hwl : wl P (tm M) (tO P M) (tA P M) (tB P M) = [1, 1] := by
    unfold wl
    rw [if_neg (by omega), if_neg (by omega), if_pos (by omega)]
  obtain ⟨z1, -⟩ := B.z (wn := 2) (by rw [hwl]; rfl)
  generalize hρ : poC (poC σ (M.dp - 1) (tn T M)) (M.dp - 1) (tn T M - 1) = ρ
  have r1 : ρ.1 = σ.1 := by rw [← hρ]; rfl
  have r2 : ∀ e, ¬ e = 2010 → ρ.2.2 e 109 = σ.2.2 e 109 := by
    intro e he
    rw [← hρ]
    have : (e == 2010) = false := by simpa using he
    simp only [poC, j3_ast, up_e this]
  have r3 : ρ.2.2 2010 109 = i_up (i_up (σ.2.2 2010 109) (M.dp - 1) (tn T M - 1)) (M.dp - 1) (tn T M - 1 - 1) := by rw [← hρ]; simp [poC, j3_ast, j3_up]
  have rk : ρ.2.2 2010 109 (M.dp - 1) = tn T M - 2 := by rw [r3]; simp only [i_up, if_true]; omega
  have fρ : fmC σ ρ := by rw [← hρ]; exact fmC.A rfl (fmC.A rfl fmC.rf)
  have pops : ∀ d (Q : j3_P), T30 (d + 3) Q 5 [wO 2 109, wI (tO P M), wI (M.sk (M.dp - 1) (tn T M - 1)), wM 2] [wI (M.sk (M.dp - 1) (tn T M - 2))] ρ → j3_tc false (d + 4) 30 [wO 2 109, wI (tO P M)] σ Q := by
    intro d Q hQ
    rw [e30, b30_0]
    refine cBd.po k2 k0 k1 hh (by omega) n1 ?_
    simp only [Option.toList_some, List.cons_append, List.nil_append]
    rw [hsk _ (by omega) (by omega), b30_2]
    refine cBd.po (σ1 := poC σ (M.dp - 1) (tn T M)) (n := tn T M - 1) k2 k0 k1 (by simp [poC, j3_ast, j3_up, i_up]) (by omega) (by omega) ?_
    simp only [Option.toList_some, List.cons_append, List.nil_append]
    rw [hρ, show (poC σ (M.dp - 1) (tn T M)).2.2 2011 109 = σ.2.2 2011 109 by simp only [poC, j3_ast, up_e (show ((2011 : Nat) == 2010) = false from rfl)], hsk _ (by omega) (by omega), show tn T M - 1 - 1 = tn T M - 2 by omega]
    exact hQ
  have hS : stp P M = if 9 ≤ tO P M ∧ M.sk (M.dp - 1) (tn T M - 1) = 0 then M.tp 2 else M.go (M.dp - 1) (tn T M - 1) (i_up (M.sk (M.dp - 1)) (tn T M - 2) (ari (tO P M) (M.sk (M.dp - 1) (tn T M - 2)) (M.sk (M.dp - 1) (tn T M - 1)))) (ti M + 1) := by
    rw [stp_e B.2.2.2.1]
    unfold stO
    rw [if_neg (by omega), if_neg (by omega), if_neg (by omega), if_neg (by omega), if_neg (by omega), if_neg (by omega), if_pos (by omega)]
  by_cases g : 9 ≤ tO P M ∧ M.sk (M.dp - 1) (tn T M - 1) = 0
  · refine ⟨trC ρ 2, ?_, fmC.I rfl (fmC.A rfl fρ), ?_⟩
    · rw [hS, if_pos g]
      refine B.2.2.1.tp B.2.2.2.2 2 ⟨by simp [trC, j3_up], by simp [trC, j3_up, r1], by simp [trC, j3_up, r1]⟩ (fun e he => ?_) ⟨by simp [trC, j3_ast, j3_up, i_up], by simp [trC, j3_ast, j3_up, i_up, r2 2001 (by decide)], by simp [trC, j3_ast, j3_up, i_up, r2 2001 (by decide)]⟩
      have h1 : (e == 2001) = false ∧ ¬ e = 2010 := by
        simp at he
        rcases he with rfl | rfl | rfl <;> exact ⟨rfl, by decide⟩
      simp only [trC, j3_ast, up_e h1.1]
      exact r2 e h1.2
    · have := via30 (τ := trC ρ 2) B h6 (by simp only [trC, j3_ast, up_e (show ((2009 : Nat) == 2001) = false from rfl)]; rw [r2 2009 (by decide)]; exact hi) (fun d Q hQ => by
        refine pops d Q ?_
        have t : T30 (d + 3) Q 14 [wO 2 109, wI (tO P M), wI (M.sk (M.dp - 1) (tn T M - 1)), wI (M.sk (M.dp - 1) (tn T M - 2))] [] ρ := by
          rw [b30_14, s25]
          simp only [Option.toList_none, List.nil_append]
          rw [b30_17, b30_24]
          exact hQ
        rw [b30_5, if_pos g.2]
        by_cases g9 : tO P M = 9
        · rw [if_pos g9]; exact t
        · rw [if_neg g9, if_pos (by omega)]; exact t)
      rw [if_neg (show ¬ (trC ρ 2).1 2006 109 = -1 by simp [trC, j3_up])] at this
      exact this
  · generalize hv : ari (tO P M) (M.sk (M.dp - 1) (tn T M - 2)) (M.sk (M.dp - 1) (tn T M - 1)) = v at hS
    have hgo : gon (tO P M) = true := by simp [gon]; omega
    have u0 : ∀ e, ¬ e = 2009 → ¬ e = 2010 → ¬ e = 2011 → (nxC (psC ρ (M.dp - 1) (tn T M - 2) v) (M.dp - 1) (ti M)).2.2 e 109 = σ.2.2 e 109 := by
      intro e h1 h2 h3
      simp only [nxC, psC, j3_ast, up_e (show (e == 2009) = false by simpa using h1), up_e (show (e == 2010) = false by simpa using h2), up_e (show (e == 2011) = false by simpa using h3)]
      exact r2 e h2
    refine ⟨nxC (psC ρ (M.dp - 1) (tn T M - 2) v) (M.dp - 1) (ti M), ?_, fmC.A rfl (fmC.A rfl (fmC.A rfl fρ)), ?_⟩
    · rw [hS, if_neg g]
      refine B.2.2.1.g B.1.1.1 B.1.2 B.2.2.2.1 B.2.2.2.2 r1 (fun e he => ?_) ?_ ?_ (fun k' hk => ?_) (fun z hz => ?_) (fun q q0 q1 => ?_) (by omega) (Or.inl ⟨rfl, hgo⟩)
      · simp at he
        exact u0 e (by omega) (by omega) (by omega)
      · simp only [nxC, psC, j3_ast, up_r, up_e (show ((2009 : Nat) == 2010) = false from rfl), up_e (show ((2009 : Nat) == 2011) = false from rfl)]
        rw [r2 2009 (by decide)]
      · simp only [nxC, psC, j3_ast, up_r, up_e (show ((2010 : Nat) == 2009) = false from rfl), i_up, if_true]
        omega
      · simp only [nxC, psC, j3_ast, up_r, up_e (show ((2010 : Nat) == 2009) = false from rfl), up_e (show ((2010 : Nat) == 2011) = false from rfl)]
        rw [r3]
        simp only [i_up, if_neg hk]
      · simp only [nxC, psC, j3_ast, up_r, up_e (show ((2011 : Nat) == 2009) = false from rfl), up_e (show ((2011 : Nat) == 2010) = false from rfl), i_up]
        rw [if_neg (by omega), r2 2011 (by decide)]
      · simp only [nxC, psC, j3_ast, up_r, up_e (show ((2011 : Nat) == 2009) = false from rfl), up_e (show ((2011 : Nat) == 2010) = false from rfl), i_up]
        by_cases gq : q = tn T M - 2
        · rw [if_pos (by omega), if_pos gq]
        · rw [if_neg (by omega), if_neg gq, r2 2011 (by decide)]
          exact hsk q q0 (by omega)
    · have := via30 (τ := psC ρ (M.dp - 1) (tn T M - 2) v) B h6 (by simp only [psC, j3_ast, up_e (show ((2009 : Nat) == 2010) = false from rfl), up_e (show ((2009 : Nat) == 2011) = false from rfl)]; rw [r2 2009 (by decide)]; exact hi) (fun d Q hQ => by
        refine pops d Q ?_
        have t : T30 (d + 3) Q 18 [wO 2 109, wI (tO P M), wI (M.sk (M.dp - 1) (tn T M - 1)), wI (M.sk (M.dp - 1) (tn T M - 2))] [] ρ := by
          rw [b30_18, s153 h6.1 h6.2 g, hv]
          simp only [Option.toList_some, List.cons_append, List.nil_append]
          rw [b30_23, s26 (k := M.dp - 1) (h := tn T M - 2) (by rw [r1]; exact k2) k0 k1 rk (by omega) (by omega)]
          simp only [Option.toList_none, List.nil_append]
          rw [b30_24]
          exact hQ
        rw [b30_5]
        by_cases gz : M.sk (M.dp - 1) (tn T M - 1) = 0
        · rw [if_pos gz, if_neg (by omega), if_neg (by omega)]; exact t
        · rw [if_neg gz]; exact t)
      rw [if_pos (show (psC ρ (M.dp - 1) (tn T M - 2) v).1 2006 109 = -1 by show ρ.1 2006 109 = -1; rw [r1]; exact k3)] at this
      exact this
/-- jumps -/
theorem crJ {w r : Int} (B : cBd σ o P T M) (hj : isj (tO P M) = true) (h11 : tO P M = 11 → r = 1) (w0 : 0 ≤ w) (f0 : τ.1 = σ.1) (f1 : ∀ e, ¬ e = 2010 → τ.2.2 e 109 = σ.2.2 e 109) (f3 : τ.2.2 2010 109 (M.dp - 1) = tn T M - w) (f4 : ∀ k', ¬ k' = M.dp - 1 → τ.2.2 2010 109 k' = σ.2.2 2010 109 k') (hr : r = 0 ∨ r = 1) : CR (jpC τ (M.dp - 1) (if r = 0 then ti M + 1 else tA P M)) P T (M.go (M.dp - 1) (tn T M - w) (M.sk (M.dp - 1)) (if r = 0 then ti M + 1 else tA P M)) := by
  have hj' := hj
  simp only [isj, Bool.and_eq_true, decide_eq_true_eq] at hj'
  have u1 : ∀ e, ¬ e = 2009 → (jpC τ (M.dp - 1) (if r = 0 then ti M + 1 else tA P M)).2.2 e 109 = τ.2.2 e 109 := fun e he => up_e (by simpa using he)
  refine crO B.1.1.1 B.1.2 B.2.2.1 B.2.2.2.1 B.2.2.2.2 (by omega) ?_ w0 f0 (fun e he => ?_) ?_ ?_ (fun k' hk => ?_)
  · rcases hr with rfl | rfl
    · have : gon (tO P M) = true := by
        have : ¬ tO P M = 11 := fun e => by have := h11 e; omega
        simp [gon]; omega
      exact Or.inl ⟨rfl, this⟩
    · exact Or.inr ⟨rfl, hj⟩
  · simp at he
    rw [u1 e (by omega)]
    exact f1 e (by omega)
  · simp only [jpC, j3_ast, up_r]
    rw [f1 2009 (by decide)]
  · rw [u1 2010 (by decide)]; exact f3
  · rw [u1 2010 (by decide)]; exact f4 k' hk
theorem c_11 (B : cBd σ o P T M) (hop : tO P M = 11) : cSt P T M σ := by
  obtain ⟨⟨k0, k1, k2, k3, k4⟩, ⟨n0, n1, hh, hsk⟩, ⟨hi, i0, i1⟩, m0, m1⟩ := B.f
  have hj : isj (tO P M) = true := by rw [hop]; rfl
  refine ⟨jpC σ (M.dp - 1) (if (1 : Int) = 0 then ti M + 1 else tA P M), ?_, fmC.A rfl fmC.rf, ?_⟩
  · have := crJ (τ := σ) (w := 0) (r := 1) B hj (fun _ => rfl) (by omega) rfl (fun _ _ => rfl) (by omega) (fun _ _ => rfl) (Or.inr rfl)
    have hS : stp P M = M.go (M.dp - 1) (tn T M) (M.sk (M.dp - 1)) (tA P M) := by
      rw [stp_e B.2.2.2.1]
      unfold stO
      rw [if_neg (by omega), if_neg (by omega), if_neg (by omega), if_neg (by omega), if_neg (by omega), if_neg (by omega), if_neg (by omega), if_pos hop]
    rw [hS]
    rw [show tn T M - 0 = tn T M by omega] at this
    exact this
  · exact via29 (r := 1) B hj hi (fun d Q hQ => by
      rw [e29, b29_0, if_pos hop]
      exact ⟨Or.inr rfl, hQ⟩)
theorem c_12 (B : cBd σ o P T M) (hop : tO P M = 12 ∨ tO P M = 14) : cSt P T M σ := by
  obtain ⟨⟨k0, k1, k2, k3, k4⟩, ⟨n0, n1, hh, hsk⟩, ⟨hi, i0, i1⟩, m0, m1⟩ := B.f
  have hj : isj (tO P M) = true := by rcases hop with g | g <;> (rw [g]; rfl)
  obtain ⟨z1, -⟩ := B.z (wn := 1) (by rcases hop with g | g <;> (rw [g]; rfl))
  generalize hr : (if M.sk (M.dp - 1) (tn T M - 1) = 0 then (1 : Int) else 0) = r
  have r01 : r = 0 ∨ r = 1 := by rw [← hr]; split <;> simp
  refine ⟨jpC (poC σ (M.dp - 1) (tn T M)) (M.dp - 1) (if r = 0 then ti M + 1 else tA P M), ?_, fmC.A rfl (fmC.A rfl fmC.rf), ?_⟩
  · have := crJ (τ := poC σ (M.dp - 1) (tn T M)) (w := 1) (r := r) B hj (fun e => by omega) (by omega) rfl (fun e he => by simp only [poC, j3_ast, up_e (show (e == 2010) = false by simpa using he)]) (by simp [poC, j3_ast, j3_up, i_up]) (fun k' hk => by simp [poC, j3_ast, j3_up, i_up, hk]) r01
    have hS : stp P M = M.go (M.dp - 1) (tn T M - 1) (M.sk (M.dp - 1)) (if M.sk (M.dp - 1) (tn T M - 1) = 0 then tA P M else ti M + 1) := by
      rw [stp_e B.2.2.2.1]
      unfold stO
      rw [if_neg (by omega), if_neg (by omega), if_neg (by omega), if_neg (by omega), if_neg (by omega), if_neg (by omega), if_neg (by omega), if_neg (by omega), if_pos hop]
    rw [hS]
    have e : (if r = 0 then ti M + 1 else tA P M) = (if M.sk (M.dp - 1) (tn T M - 1) = 0 then tA P M else ti M + 1) := by
      rw [← hr]
      by_cases g : M.sk (M.dp - 1) (tn T M - 1) = 0
      · rw [if_pos g, if_pos g, if_neg (by decide)]
      · rw [if_neg g, if_neg g, if_pos rfl]
    rw [e] at this ⊢
    exact this
  · exact via29 (τ := poC σ (M.dp - 1) (tn T M)) (r := r) B hj (by simp only [poC, j3_ast, up_e (show ((2009 : Nat) == 2010) = false from rfl)]; exact hi) (fun d Q hQ => by
      rw [e29, b29_0, if_neg (by omega)]
      refine cBd.po k2 k0 k1 hh (by omega) n1 ?_
      simp only [Option.toList_some, List.cons_append, List.nil_append]
      rw [hsk _ (by omega) (by omega), b29_7, if_neg (by omega)]
      by_cases g : M.sk (M.dp - 1) (tn T M - 1) = 0
      · rw [if_pos g] at hr ⊢
        rw [← hr] at hQ
        exact ⟨Or.inr rfl, hQ⟩
      · rw [if_neg g] at hr ⊢
        rw [← hr] at hQ
        exact ⟨Or.inl rfl, hQ⟩)
theorem c_13 (B : cBd σ o P T M) (hop : tO P M = 13) : cSt P T M σ := by
  obtain ⟨⟨k0, k1, k2, k3, k4⟩, ⟨n0, n1, hh, hsk⟩, ⟨hi, i0, i1⟩, m0, m1⟩ := B.f
  have hj : isj (tO P M) = true := by rw [hop]; rfl
  obtain ⟨z1, -⟩ := B.z (wn := 2) (by rw [hop]; rfl)
  generalize hr : (if M.sk (M.dp - 1) (tn T M - 2) < M.sk (M.dp - 1) (tn T M - 1) then (1 : Int) else 0) = r
  have r01 : r = 0 ∨ r = 1 := by rw [← hr]; split <;> simp
  refine ⟨jpC (poC (poC σ (M.dp - 1) (tn T M)) (M.dp - 1) (tn T M - 1)) (M.dp - 1) (if r = 0 then ti M + 1 else tA P M), ?_, fmC.A rfl (fmC.A rfl (fmC.A rfl fmC.rf)), ?_⟩
  · have := crJ (τ := poC (poC σ (M.dp - 1) (tn T M)) (M.dp - 1) (tn T M - 1)) (w := 2) (r := r) B hj (fun e => by omega) (by omega) rfl (fun e he => by simp only [poC, j3_ast, up_e (show (e == 2010) = false by simpa using he)]) (by simp [poC, j3_ast, j3_up, i_up]; omega) (fun k' hk => by simp [poC, j3_ast, j3_up, i_up, hk]) r01
    have hS : stp P M = M.go (M.dp - 1) (tn T M - 2) (M.sk (M.dp - 1)) (if M.sk (M.dp - 1) (tn T M - 2) < M.sk (M.dp - 1) (tn T M - 1) then tA P M else ti M + 1) := by
      rw [stp_e B.2.2.2.1]
      unfold stO
      rw [if_neg (by omega), if_neg (by omega), if_neg (by omega), if_neg (by omega), if_neg (by omega), if_neg (by omega), if_neg (by omega), if_neg (by omega), if_neg (by omega), if_pos hop]
    rw [hS]
    have e : (if r = 0 then ti M + 1 else tA P M) = (if M.sk (M.dp - 1) (tn T M - 2) < M.sk (M.dp - 1) (tn T M - 1) then tA P M else ti M + 1) := by
      rw [← hr]
      by_cases g : M.sk (M.dp - 1) (tn T M - 2) < M.sk (M.dp - 1) (tn T M - 1)
      · rw [if_pos g, if_pos g, if_neg (by decide)]
      · rw [if_neg g, if_neg g, if_pos rfl]
    rw [e] at this ⊢
    exact this
  · exact via29 (τ := poC (poC σ (M.dp - 1) (tn T M)) (M.dp - 1) (tn T M - 1)) (r := r) B hj (by simp only [poC, j3_ast, up_e (show ((2009 : Nat) == 2010) = false from rfl)]; exact hi) (fun d Q hQ => by
      rw [e29, b29_0, if_neg (by omega)]
      refine cBd.po k2 k0 k1 hh (by omega) n1 ?_
      simp only [Option.toList_some, List.cons_append, List.nil_append]
      rw [hsk _ (by omega) (by omega), b29_7, if_pos hop]
      refine cBd.po (σ1 := poC σ (M.dp - 1) (tn T M)) (n := tn T M - 1) k2 k0 k1 (by simp [poC, j3_ast, j3_up, i_up]) (by omega) (by omega) ?_
      simp only [Option.toList_some, List.cons_append, List.nil_append]
      rw [show (poC σ (M.dp - 1) (tn T M)).2.2 2011 109 = σ.2.2 2011 109 by simp only [poC, j3_ast, up_e (show ((2011 : Nat) == 2010) = false from rfl)], hsk _ (by omega) (by omega), show tn T M - 1 - 1 = tn T M - 2 by omega, b29_13]
      by_cases g : M.sk (M.dp - 1) (tn T M - 2) < M.sk (M.dp - 1) (tn T M - 1)
      · rw [if_pos g] at hr ⊢
        rw [← hr] at hQ
        exact ⟨Or.inr rfl, hQ⟩
      · rw [if_neg g] at hr ⊢
        rw [← hr] at hQ
        exact ⟨Or.inl rfl, hQ⟩)
end CST4
