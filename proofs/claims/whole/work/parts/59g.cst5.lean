/-! the class's step: OUT, CAST, IS -/
section CST5
variable {σ σ' τ : j3_S} {P : Pg} {T : Int → Fl} {M : Mc} {d : Nat} {Q : j3_P} {k i j x v h' : Int} {s : Int → Int} {o : Nat}
def ouC (σ : j3_S) (n v : Int) : j3_S := (σ.1, σ.2.1, j3_ast (if n < 100 then j3_ast σ.2.2 2002 109 n v else σ.2.2) 2001 109 3 (n + 1))
theorem s32 {n : Int} (hn : σ.2.2 2001 109 3 = n) (n0 : 0 ≤ n) (n1 : n < 2147483647) : j3_tc false (d + 1) 32 [wO 2 109, wI v] σ Q = Q none (ouC σ n v) := by
  rw [e32, b32_0, hn]
  unfold ouC
  by_cases g : n < 100
  · rw [if_pos g, if_pos g, b32_14]
    have e : (j3_ast σ.2.2 2002 109 n v) 2001 109 3 = n := by simp only [j3_ast, up_e (show ((2001 : Nat) == 2002) = false from rfl)]; exact hn
    dsimp only
    rw [e, wr_id (by omega) (by omega)]
    simp [n0, g]
  · rw [if_neg g, if_neg g, b32_14, hn, wr_id (by omega) (by omega)]
    simp
theorem c_23 (B : cBd σ o P T M) (hop : tO P M = 23) (hou : M.ou < 2147483647) : cSt P T M σ := by
  obtain ⟨⟨k0, k1, k2, k3, k4⟩, ⟨n0, n1, hh, hsk⟩, ⟨hi, i0, i1⟩, m0, m1⟩ := B.f
  obtain ⟨z1, -⟩ := B.z (wn := 1) (by rw [hop]; rfl)
  obtain ⟨⟨a1, a2, a3, a4⟩, a5, a6, a7⟩ := B.2.2.1.1
  generalize hv : M.sk (M.dp - 1) (tn T M - 1) = v
  generalize hτ : ouC (poC σ (M.dp - 1) (tn T M)) M.ou v = τ
  have t1 : τ.1 = σ.1 := by rw [← hτ]; rfl
  have t2 : ∀ e, ¬ e = 2001 → ¬ e = 2002 → τ.2.2 e 109 = (poC σ (M.dp - 1) (tn T M)).2.2 e 109 := by
    intro e h1 h2
    rw [← hτ]
    simp only [ouC, j3_ast, up_e (show (e == 2001) = false by simpa using h1)]
    by_cases g : M.ou < 100
    · rw [if_pos g, up_e (show (e == 2002) = false by simpa using h2)]
    · rw [if_neg g]
  have t3 : τ.2.2 2001 109 = i_up (σ.2.2 2001 109) 3 (M.ou + 1) := by
    rw [← hτ]
    simp only [ouC, j3_ast, up_r]
    by_cases g : M.ou < 100
    · rw [if_pos g, up_e (show ((2001 : Nat) == 2002) = false from rfl)]
      simp [poC, j3_ast, j3_up]
    · rw [if_neg g]
      simp [poC, j3_ast, j3_up]
  have t4 : τ.2.2 2002 109 = if M.ou < 100 then i_up (σ.2.2 2002 109) M.ou v else σ.2.2 2002 109 := by
    rw [← hτ]
    simp only [ouC, j3_ast, up_e (show ((2002 : Nat) == 2001) = false from rfl)]
    by_cases g : M.ou < 100
    · rw [if_pos g, if_pos g, up_r]
      simp [poC, j3_ast, j3_up]
    · rw [if_neg g, if_neg g]
      simp [poC, j3_ast, j3_up]
  have base : CR (nxC (poC σ (M.dp - 1) (tn T M)) (M.dp - 1) (ti M)) P T (M.go (M.dp - 1) (tn T M - 1) (M.sk (M.dp - 1)) (ti M + 1)) := by
    refine crO B.1.1.1 B.1.2 B.2.2.1 B.2.2.2.1 B.2.2.2.2 (by omega) (Or.inl ⟨rfl, by rw [hop]; rfl⟩) (by omega) rfl (fun e he => ?_) ?_ ?_ (fun k' hk => ?_)
    · simp at he
      rcases he with rfl | rfl | rfl | rfl | rfl | rfl | rfl <;> simp [nxC, poC, j3_ast, j3_up]
    · simp [nxC, poC, j3_ast, j3_up]
    · simp [nxC, poC, j3_ast, j3_up, i_up]
    · simp [nxC, poC, j3_ast, j3_up, i_up, hk]
  have fτ : fmC σ τ := by
    refine ⟨⟨by rw [← hτ]; rfl, fun e o' _ => by rw [t1], fun e o' he => ?_⟩, by rw [t3]; rfl⟩
    rw [← hτ]
    have h1 : (e == 2001) = false ∧ (e == 2002) = false ∧ (e == 2010) = false := by
      simp [cmA] at he
      simp; omega
    simp only [ouC, j3_ast, up_e h1.1]
    by_cases g : M.ou < 100
    · rw [if_pos g, up_e h1.2.1]; simp only [poC, j3_ast, up_e h1.2.2]
    · rw [if_neg g]; simp only [poC, j3_ast, up_e h1.2.2]
  have eq : ∀ e, ¬ e = 2001 → ¬ e = 2002 → (nxC τ (M.dp - 1) (ti M)).2.2 e 109 = (nxC (poC σ (M.dp - 1) (tn T M)) (M.dp - 1) (ti M)).2.2 e 109 := by
    intro e h1 h2
    by_cases g : e = 2009
    · subst g
      simp only [nxC, j3_ast, up_r]
      rw [t2 2009 (by decide) (by decide)]
    · simp only [nxC, j3_ast, up_e (show (e == 2009) = false by simpa using g)]
      exact t2 e h1 h2
  refine ⟨nxC τ (M.dp - 1) (ti M), ?_, fmC.A rfl fτ, ?_⟩
  · rw [stp_e B.2.2.2.1]
    unfold stO
    rw [hop]
    obtain ⟨-, b2, b3⟩ := base
    have b2 := b2 (by show ¬ M.en = 0; rw [B.2.2.2.2]; decide)
    obtain ⟨b3, b4, b5⟩ := b3 B.2.2.2.2
    show CR _ P T (M.gf (M.dp - 1) (tn T M - 1) (M.sk (M.dp - 1)) (ti M + 1), M.2.1, M.en, M.tr, M.ou + 1, (if M.ou < 100 then i_up M.ov M.ou (M.sk (M.dp - 1) (tn T M - 1)) else M.ov), M.mx)
    have n1' : ∀ e, ¬ e = 2009 → (nxC τ (M.dp - 1) (ti M)).2.2 e 109 = τ.2.2 e 109 := fun e he => up_e (by simpa using he)
    refine ⟨⟨⟨?_, ?_, ?_, ?_⟩, ?_, ?_, fun q q0 q1 q2 => ?_⟩, fun _ => ?_, fun _ => ⟨?_, ?_, ?_⟩⟩
    · show τ.1 2006 109 = M.en
      rw [t1]; exact a1
    · show τ.1 2012 109 = M.no
      rw [t1]; exact a2
    · rw [n1' 2001 (by decide), t3]
      exact a3
    · rw [n1' 2001 (by decide), t3]
      exact a4
    · rw [n1' 2001 (by decide), t3]
      simp only [i_up, if_true]
    · show 0 ≤ M.ou + 1
      omega
    · have q2 : q < M.ou + 1 := q2
      show _ = (if M.ou < 100 then i_up M.ov M.ou (M.sk (M.dp - 1) (tn T M - 1)) else M.ov) q
      rw [n1' 2002 (by decide), t4, hv]
      by_cases g : M.ou < 100
      · rw [if_pos g, if_pos g]
        simp only [i_up]
        by_cases g2 : q = M.ou
        · rw [if_pos g2, if_pos g2]
        · rw [if_neg g2, if_neg g2]
          exact a7 q q0 q1 (by omega)
      · rw [if_neg g, if_neg g]
        exact a7 q q0 q1 (by omega)
    · unfold CRb at b2 ⊢
      rw [eq 2008 (by decide) (by decide), eq 2009 (by decide) (by decide)]
      refine ⟨?_, b2.2⟩
      show τ.1 2007 109 = M.dp
      rw [t1]
      exact b2.1
    · unfold CRs at b3 ⊢
      rw [eq 2010 (by decide) (by decide), eq 2011 (by decide) (by decide)]
      exact b3
    · unfold CRl at b4 ⊢
      rw [eq 2011 (by decide) (by decide)]
      exact b4
    · unfold CRo at b5 ⊢
      rw [eq 2013 (by decide) (by decide), eq 2014 (by decide) (by decide), eq 2015 (by decide) (by decide)]
      exact b5
  · have := via31 (τ := τ) B (by rw [hop]; rfl) (by omega) (by omega) (by omega) (by rw [t2 2009 (by decide) (by decide)]; simp only [poC, j3_ast, up_e (show ((2009 : Nat) == 2010) = false from rfl)]; exact hi) (fun d Q hQ => by
      rw [e31, b31_0, hop]
      show T31 (d + 3) Q 46 _ _ _
      rw [b31_46]
      refine cBd.po k2 k0 k1 hh (by omega) n1 ?_
      simp only [Option.toList_some, List.cons_append, List.nil_append]
      rw [hsk _ (by omega) (by omega), hv, b31_49, s32 (σ := poC σ (M.dp - 1) (tn T M)) (n := M.ou) (by simp only [poC, j3_ast, up_e (show ((2001 : Nat) == 2010) = false from rfl)]; exact a5) a6 hou, hτ]
      simp only [Option.toList_none, List.nil_append]
      rw [b31_50, b31_72]
      exact hQ)
    rw [if_pos (show τ.1 2006 109 = -1 by rw [t1]; exact k3)] at this
    exact this
/-- whether an object is of a class -/
theorem s35 {a r : Int} (ho : ¬ o = 0) (hp : σ.2.1 1 = o) (hC : CP σ o P) (hs : WFs P) (h1 : 1 ≤ r) (h2 : r ≤ σ.1 2012 109) (h3 : σ.1 2012 109 ≤ 200) {c : Int} (hc : σ.2.2 2013 109 (r - 1) = c) (c0 : 0 ≤ c) (c1 : c < P 3000 0) : j3_tc false (d + 2) 35 [wO 2 109, wI a, wI r] σ Q = Q (some (wI (b2i (cov P a 10 c)))) σ := by
  rw [e35, b35_0, s34]
  have : (decide (0 < r) && decide (r ≤ σ.1 2012 109)) = true := by simp; omega
  simp only [Option.toList_some, List.cons_append, List.nil_append]
  rw [this, b35_3, if_neg (show ¬ b2i true = 0 by decide), hp, wr_id (by omega) (by omega), hc, s48 hC hs (by omega) c1]
  simp only [Option.toList_some, List.cons_append, List.nil_append]
  rw [b35_14]
  cases cov P a 10 c <;> simp [b2i, ho] <;> omega
theorem poC_CP {k n : Int} (hC : CP σ o P) : CP (poC σ k n) o P := hC.fr (li := []) (la := [2010]) (frm.A rfl frm.rf) ⟨rfl, rfl⟩ (la_ok rfl)
theorem c_24 (B : cBd σ o P T M) (hop : tO P M = 24 ∨ tO P M = 25) : cSt P T M σ := by
  obtain ⟨⟨k0, k1, k2, k3, k4⟩, ⟨n0, n1, hh, hsk⟩, ⟨hi, i0, i1⟩, m0, m1⟩ := B.f
  have w1 : ((wl P (tm M) (tO P M) (tA P M) (tB P M)).length : Int) = 1 := by rcases hop with g | g <;> (rw [g]; rfl)
  have hwl : wl P (tm M) (tO P M) (tA P M) (tB P M) = [-2] := by rcases hop with g | g <;> (rw [g]; rfl)
  have hgo : gon (tO P M) = true := by rcases hop with g | g <;> (rw [g]; rfl)
  have hnj : isj (tO P M) = false := by rcases hop with g | g <;> (rw [g]; rfl)
  have ht := B.2.2.2.1
  have hW := B.1.1.1
  have hs := hW.1
  have hp := ht.2.1
  obtain ⟨⟨-, t2, -⟩, e1, -, -⟩ := ht.tI B.1.2
  have t2 : stk P (tn T M) (ts T M) := t2
  obtain ⟨z1, z2, -⟩ := exf_z (wn := 1) e1 w1
  have z1 : 1 ≤ tn T M := z1
  have z2 : af P (ts T M) [-2] (tn T M - 1) 1 = true := by rw [hwl] at z2; exact z2
  have v1 := ht.vs (tn T M - 1) (by omega) (by omega)
  have v2 := (vt_ft hs hp.1.1 hp.2.1 v1 (t2 _ (by omega) (by omega)).1 (af_1 z2) (by omega)).2 rfl
  have v3 := v2.2.1 (by omega)
  have ho := (B.2.2.1.2.2 B.2.2.2.2).2.2
  generalize hv : M.sk (M.dp - 1) (tn T M - 1) = r at v3
  have no2 := hp.1.2
  have hob : ¬ r = 0 → σ.2.2 2013 109 (r - 1) = M.oc (r - 1) ∧ 0 ≤ M.oc (r - 1) ∧ M.oc (r - 1) < P 3000 0 := fun g => ⟨(ho.1 (r - 1) (by omega) (by omega)).1, hp.2.1 (r - 1) (by omega) (by omega)⟩
  have c35 : ¬ r = 0 → ∀ d (Q : j3_P), j3_tc false (d + 2) 35 [wO 2 109, wI (tA P M), wI r] (poC σ (M.dp - 1) (tn T M)) Q = Q (some (wI (b2i (cov P (tA P M) 10 (M.oc (r - 1)))))) (poC σ (M.dp - 1) (tn T M)) := by
    intro g d Q
    obtain ⟨q1, q2, q3⟩ := hob g
    exact s35 (σ := poC σ (M.dp - 1) (tn T M)) (r := r) (c := M.oc (r - 1)) B.2.1.1 B.2.1.2.1 (poC_CP B.2.1.2.2.1) hs (by omega) (by show r ≤ σ.1 2012 109; omega) (by show σ.1 2012 109 ≤ 200; omega) (by simp only [poC, j3_ast, up_e (show ((2013 : Nat) == 2010) = false from rfl)]; exact q1) q2 q3
  -- a value in its place
  have key : ∀ v, stp P M = M.go (M.dp - 1) (tn T M) (i_up (M.sk (M.dp - 1)) (tn T M - 1) v) (ti M + 1) → (∀ d (Q : j3_P), Q none (psC (poC σ (M.dp - 1) (tn T M)) (M.dp - 1) (tn T M - 1) v) → j3_tc false (d + 4) 31 [wO 2 109, wI (tO P M), wI (tA P M), wI ((M.dp - 1) * 30)] σ Q) → cSt P T M σ := by
    intro v hS hq
    generalize hτ : psC (poC σ (M.dp - 1) (tn T M)) (M.dp - 1) (tn T M - 1) v = τ at hq
    have t1 : τ.1 = σ.1 := by rw [← hτ]; rfl
    have t2 : ∀ e, ¬ e = 2010 → ¬ e = 2011 → τ.2.2 e 109 = σ.2.2 e 109 := by
      intro e h1 h2
      rw [← hτ]
      simp only [psC, poC, j3_ast, up_e (show (e == 2010) = false by simpa using h1), up_e (show (e == 2011) = false by simpa using h2)]
    have t3 : τ.2.2 2010 109 = i_up (i_up (σ.2.2 2010 109) (M.dp - 1) (tn T M - 1)) (M.dp - 1) (tn T M - 1 + 1) := by rw [← hτ]; simp [psC, poC, j3_ast, j3_up]
    have t4 : τ.2.2 2011 109 = i_up (σ.2.2 2011 109) ((M.dp - 1) * 30 + 20 + (tn T M - 1)) v := by rw [← hτ]; simp [psC, poC, j3_ast, j3_up]
    have fτ : fmC σ τ := by rw [← hτ]; exact fmC.A rfl (fmC.A rfl (fmC.A rfl fmC.rf))
    refine ⟨nxC τ (M.dp - 1) (ti M), ?_, fmC.A rfl fτ, ?_⟩
    · rw [hS]
      have u1 : ∀ e, ¬ e = 2009 → (nxC τ (M.dp - 1) (ti M)).2.2 e 109 = τ.2.2 e 109 := fun e he => up_e (by simpa using he)
      refine B.2.2.1.g B.1.1.1 B.1.2 B.2.2.2.1 B.2.2.2.2 t1 (fun e he => ?_) ?_ ?_ (fun k' hk => ?_) (fun z hz => ?_) (fun q q0 q1 => ?_) (by omega) (Or.inl ⟨rfl, hgo⟩)
      · simp at he
        rw [u1 e (by omega)]
        exact t2 e (by omega) (by omega)
      · simp only [nxC, j3_ast, up_r]
        rw [t2 2009 (by decide) (by decide)]
      · rw [u1 2010 (by decide), t3]; simp only [i_up, if_true]; omega
      · rw [u1 2010 (by decide), t3]; simp only [i_up, if_neg hk]
      · rw [u1 2011 (by decide), t4]; simp only [i_up]; rw [if_neg (by omega)]
      · rw [u1 2011 (by decide), t4]
        simp only [i_up]
        by_cases g : q = tn T M - 1
        · rw [if_pos (by omega), if_pos g]
        · rw [if_neg (by omega), if_neg g]
          exact hsk q q0 (by omega)
    · have := via31 (τ := τ) B hnj (by omega) (by omega) (by omega) (by rw [t2 2009 (by decide) (by decide)]; exact hi) hq
      rw [if_pos (show τ.1 2006 109 = -1 by rw [t1]; exact k3)] at this
      exact this
  have pus : ∀ (d : Nat) (Q : j3_P) v, Q none (psC (poC σ (M.dp - 1) (tn T M)) (M.dp - 1) (tn T M - 1) v) → j3_tc false (d + 1) 26 [wO 2 109, wI v] (poC σ (M.dp - 1) (tn T M)) Q := by
    intro d Q v hQ
    rw [s26 (σ := poC σ (M.dp - 1) (tn T M)) (k := M.dp - 1) (h := tn T M - 1) k2 k0 k1 (by simp [poC, j3_ast, j3_up, i_up]) (by omega) (by omega)]
    exact hQ
  rcases hop with g | g
  · have hS : stp P M = if ¬ r = 0 ∧ cov P (tA P M) 10 (M.oc (r - 1)) = false then M.tp 3 else M.go (M.dp - 1) (tn T M) (M.sk (M.dp - 1)) (ti M + 1) := by
      rw [stp_e ht]
      unfold stO
      rw [g, ← hv]
      rfl
    have c36 : ∀ d (Q : j3_P), T31 (d + 3) Q 55 [wO 2 109, wI (tO P M), wI (tA P M), wI ((M.dp - 1) * 30), wM 2] [wI r, wI (tA P M), wO 2 109] (poC σ (M.dp - 1) (tn T M)) → j3_tc false (d + 4) 31 [wO 2 109, wI (tO P M), wI (tA P M), wI ((M.dp - 1) * 30)] σ Q := by
      intro d Q hQ
      rw [e31, b31_0, g]
      show T31 (d + 3) Q 51 _ _ _
      rw [b31_51]
      refine cBd.po k2 k0 k1 hh (by omega) n1 ?_
      simp only [Option.toList_some, List.cons_append, List.nil_append]
      rw [hsk _ (by omega) (by omega), hv, ← g]
      exact hQ
    by_cases g2 : ¬ r = 0 ∧ cov P (tA P M) 10 (M.oc (r - 1)) = false
    · refine ⟨trC (poC σ (M.dp - 1) (tn T M)) 3, ?_, fmC.I rfl (fmC.A rfl (fmC.A rfl fmC.rf)), ?_⟩
      · rw [hS, if_pos g2]
        refine B.2.2.1.tp B.2.2.2.2 3 ⟨by simp [trC, j3_up], by simp [trC, poC, j3_up], by simp [trC, poC, j3_up]⟩ (fun e he => ?_) ⟨by simp [trC, j3_ast, j3_up, i_up], by simp [trC, poC, j3_ast, j3_up, i_up], by simp [trC, poC, j3_ast, j3_up, i_up]⟩
        simp at he
        rcases he with rfl | rfl | rfl <;> simp [trC, poC, j3_ast, j3_up]
      · have := via31 (τ := trC (poC σ (M.dp - 1) (tn T M)) 3) B hnj (by omega) (by omega) (by omega) (by simp only [trC, poC, j3_ast, up_e (show ((2009 : Nat) == 2001) = false from rfl), up_e (show ((2009 : Nat) == 2010) = false from rfl)]; exact hi) (fun d Q hQ => by
          refine c36 d Q ?_
          rw [b31_55, e36, b36_0, if_neg g2.1, c35 g2.1, g2.2]
          simp only [Option.toList_some, List.cons_append, List.nil_append]
          rw [b36_6, if_pos (show b2i false = 0 from rfl), s25]
          simp only [Option.toList_none, List.nil_append]
          rw [b36_14]
          simp only [Option.toList_none, List.nil_append]
          rw [b31_56, b31_72]
          exact hQ)
        rw [if_neg (show ¬ (trC (poC σ (M.dp - 1) (tn T M)) 3).1 2006 109 = -1 by simp [trC, j3_up])] at this
        exact this
    · rw [if_neg g2] at hS
      refine key r ?_ (fun d Q hQ => c36 d Q ?_)
      · rw [hS]
        have : i_up (M.sk (M.dp - 1)) (tn T M - 1) r = M.sk (M.dp - 1) := by
          funext q
          simp only [i_up]
          by_cases gq : q = tn T M - 1
          · rw [if_pos gq, gq, hv]
          · rw [if_neg gq]
        rw [this]
      · rw [b31_55, e36, b36_0]
        have t : T36 (d + 2) (fun r_1 σ1 => T31 (d + 3) Q 56 [wO 2 109, wI (tO P M), wI (tA P M), wI ((M.dp - 1) * 30), wM 2] (r_1.toList ++ []) σ1) 7 [wO 2 109, wI (tA P M), wI r] [] (poC σ (M.dp - 1) (tn T M)) := by
          rw [b36_7]
          refine pus _ _ _ ?_
          simp only [Option.toList_none, List.nil_append]
          rw [b36_10, b36_14]
          simp only [Option.toList_none, List.nil_append]
          rw [b31_56, b31_72]
          exact hQ
        by_cases gr : r = 0
        · rw [if_pos gr]; exact t
        · rw [if_neg gr, c35 gr]
          have hcv : cov P (tA P M) 10 (M.oc (r - 1)) = true := by
            cases hb : cov P (tA P M) 10 (M.oc (r - 1))
            · exact absurd ⟨gr, hb⟩ g2
            · rfl
          simp only [Option.toList_some, List.cons_append, List.nil_append]
          rw [hcv, b36_6, if_neg (show ¬ b2i true = 0 by decide)]
          exact t
  · have hS : stp P M = M.go (M.dp - 1) (tn T M) (i_up (M.sk (M.dp - 1)) (tn T M - 1) (if r = 0 then 0 else b2i (cov P (tA P M) 10 (M.oc (r - 1))))) (ti M + 1) := by
      rw [stp_e ht]
      unfold stO
      rw [g, ← hv]
      rfl
    refine key _ hS (fun d Q hQ => ?_)
    rw [e31, b31_0, g]
    show T31 (d + 3) Q 57 _ _ _
    rw [b31_57]
    refine cBd.po k2 k0 k1 hh (by omega) n1 ?_
    simp only [Option.toList_some, List.cons_append, List.nil_append]
    rw [hsk _ (by omega) (by omega), hv, b31_62]
    have t : ∀ v, Q none (psC (poC σ (M.dp - 1) (tn T M)) (M.dp - 1) (tn T M - 1) v) → T31 (d + 3) Q 67 [wO 2 109, wI 25, wI (tA P M), wI ((M.dp - 1) * 30), wM 2] [wI v, wO 2 109] (poC σ (M.dp - 1) (tn T M)) := by
      intro v hv
      rw [b31_67]
      refine pus _ _ _ ?_
      simp only [Option.toList_none, List.nil_append]
      rw [b31_68, b31_72]
      exact hv
    by_cases gr : r = 0
    · rw [if_pos gr] at hQ
      rw [e35, b35_0, s34, gr]
      simp only [Option.toList_some, List.cons_append, List.nil_append]
      rw [show (decide ((0 : Int) < 0) && decide ((0 : Int) ≤ (poC σ (M.dp - 1) (tn T M)).1 2012 109)) = false from rfl, b35_3, if_pos (show b2i false = 0 from rfl)]
      refine ⟨Or.inl rfl, ?_⟩
      simp only [Option.toList_some, List.cons_append, List.nil_append]
      rw [b31_63, if_pos rfl]
      exact t 0 hQ
    · rw [if_neg gr] at hQ
      rw [c35 gr]
      simp only [Option.toList_some, List.cons_append, List.nil_append]
      rw [b31_63]
      cases hb : cov P (tA P M) 10 (M.oc (r - 1))
      · rw [hb] at hQ
        rw [if_pos (show b2i false = 0 from rfl)]
        exact t 0 hQ
      · rw [hb] at hQ
        rw [if_neg (show ¬ b2i true = 0 by decide)]
        exact t 1 hQ
end CST5
