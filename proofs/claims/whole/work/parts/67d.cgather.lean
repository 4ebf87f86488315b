/-! gathering in the class -/
def gaI' : List Nat := [7000, 7001]
def gaA : List Nat := xA ++ [6009, 6005]
section CGATH
variable {σ σ' σ0 : j3_S} {P : Pg} {T : Int → Fl} {R : Rs} {X : Sx} {m i u a b t bud op x l0 cp x3 x5 x9 : Int} {d o : Nat} {Q : j3_P} {c : Int → Int} {st : Int → Int} {S : Ga}
theorem nbS_b : ∀ k : Nat, 0 ≤ nbS P T R.2.1 m k ∧ nbS P T R.2.1 m k ≤ k
  | 0 => by show (0 : Int) ≤ 0 ∧ (0 : Int) ≤ 0; omega
  | k + 1 => by
    have := nbS_b k
    show 0 ≤ nbS P T R.2.1 m k + (if isB P T R.2.1 m k = true then 1 else 0) ∧ nbS P T R.2.1 m k + (if isB P T R.2.1 m k = true then 1 else 0) ≤ ((k + 1 : Nat) : Int)
    split <;> (push_cast; omega)
/-- an instruction that is not put in -/
theorem l80n (hB : gbC σ o P T R bud) (h : grR P T R) (m0 : 0 ≤ m) (m1 : m < P 3001 0) (hm : R.1 m = 1) (i0 : 0 ≤ i) (i1 : i < P 0 m) (hx : xC σ X) (n0 : 0 ≤ X.n) (n1 : X.n < 120) (h9 : x9 = if 0 ≤ (T m).1 i then 1 else 0) (hc : ctC σ c) (c0 : 0 ≤ c 0) (c1 : c 0 < 2147483647) {w10 : j3_W} (hQ : ∀ σ' y6 y7 y8 y10, frm [7000] (xA ++ [6005]) σ σ' → xC σ' (adS X (bO P T R.2.1 m i) (bA P T R.2.1 m i) (bB P T R.2.1 m i) (m * 1000 + i) (-1)) → ctC σ' (addc c (if isB P T R.2.1 m i = true then 1 else 0) 0) → T80 (d + 2) Q 174 [wO 6 83, wI m, wI (m * 120), wI x3, wI i, wI x5, wI y6, wI y7, wI y8, wI x9, wI y10] [] σ') : T80 (d + 2) Q 117 [wO 6 83, wI m, wI (m * 120), wI x3, wI i, wI x5, wI (P 1 (m * 120 + i)), wI (P 2 (m * 120 + i)), wI (P 3 (m * 120 + i)), wI x9, w10] [] σ := by
  obtain ⟨⟨h1', h2', -⟩, hC, hH, -⟩ := id hB
  have hg := h.1.1
  have h80 := hg.1.2.1.2.1
  have hc10 := hg.1.1.2.1
  obtain ⟨-, -, -, -, -, q6, q7⟩ := hg.1.2.2.2 m m0 m1
  have ik := q7 i i0 i1
  -- not bound
  have nb : isB P T R.2.1 m i = false → ∀ w10 : j3_W, T80 (d + 2) Q 134 [wO 6 83, wI m, wI (m * 120), wI x3, wI i, wI x5, wI (P 1 (m * 120 + i)), wI (P 2 (m * 120 + i)), wI (P 3 (m * 120 + i)), wI x9, w10] [wI (-1)] σ := by
    intro gb w10
    have eo : bO P T R.2.1 m i = P 1 (m * 120 + i) := by unfold bO; rw [gb]; rfl
    have ea : bA P T R.2.1 m i = P 2 (m * 120 + i) := by unfold bA; rw [gb]; rfl
    have eb : bB P T R.2.1 m i = P 3 (m * 120 + i) := by unfold bB; rw [gb]; rfl
    rw [b80_134, if_pos (by rfl), b80_162, wr_id (z := m * 1000) (by omega) (by omega), wr_id (by omega) (by omega)]
    refine s107 hx n0 n1 (fun σ1 f1 x1 => ?_)
    simp only [Option.toList_none, List.nil_append]
    rw [← eo, ← ea, ← eb] at x1 ⊢
    refine hQ σ1 _ _ _ _ (f1.wd (sub_el rfl) (sub_el rfl)) x1 ?_
    rw [gb, if_neg (by decide), addc_0]
    intro j j0 j1
    rw [f1.2.2 6005 83 rfl]; exact hc j j0 j1
  rw [b80_117]
  by_cases g : 0 ≤ (T m).1 i
  · rw [if_pos g] at h9
    rw [if_neg (by omega)]
    by_cases g21 : P 1 (m * 120 + i) = 21
    · rw [if_pos g21, h2']
      have ca := ik.2.2.2.2.1 (by omega)
      have cb := ik.2.2.2.2.2.2 (by omega)
      have hm3 := hg.1.2.1.2.2 _ ca.1 ca.2
      rw [(hC.2.2.1 _ ca.1 ca.2).1.2.2.2.2, wr_id (by omega) (by omega)]
      refine ⟨h1', by omega, ?_⟩
      refine s62 hB hg ca.1 ca.2 cb.1 cb.2 ?_
      simp only [Option.toList_some, List.cons_append, List.nil_append]
      rw [b80_132]
      by_cases gb : isB P T R.2.1 m i = true
      · obtain ⟨w, we, wr1, w2, -, -, -, -, -, wa, wb⟩ := isB_of h m0 m1 hm i0 i1 gb
        have eo : bO P T R.2.1 m i = 20 := by unfold bO; rw [if_pos gb]
        have ea : bA P T R.2.1 m i = P 3011 w := by unfold bA; rw [if_pos gb, we]
        have eb : bB P T R.2.1 m i = w - P 3007 (P 3011 w) := by unfold bB; rw [if_pos gb, we]
        have hm4 := hg.1.2.1.2.2 _ wa.1 wa.2
        rw [we, b80_134, if_neg (by omega), h2', (hC.2.2.2 w wr1.1 wr1.2).1.1, (hC.2.2.1 _ wa.1 wa.2).1.2.2.2.2, hc 0 (by omega) (by omega), b80_162]
        simp (disch := omega) only [wr_id]
        refine ⟨h1', by omega, h1', by omega, by omega, by omega, ?_⟩
        have xx : xC (σ.1, σ.2.1, j3_ast σ.2.2 6005 83 0 (c 0 + 1)) X := hx.fr (li := []) (la := [6005]) (frm.A rfl frm.rf) rfl rfl
        refine s107 xx n0 n1 (fun σ1 f1 x1 => ?_)
        simp only [Option.toList_none, List.nil_append]
        rw [eo, ea, eb] at hQ
        refine hQ σ1 _ _ _ _ ((frm.A rfl frm.rf : frm [7000] (xA ++ [6005]) σ (σ.1, σ.2.1, j3_ast σ.2.2 6005 83 0 (c 0 + 1))).tr (f1.wd (sub_el rfl) (sub_el rfl))) x1 ?_
        rw [if_pos gb]
        intro j j0 j1
        rw [f1.2.2 6005 83 rfl, addc_v]
        simp only [j3_ast, up_r]
        by_cases g0 : j = 0
        · rw [g0, iu_r, if_neg (by omega), if_pos rfl]
        · rw [iu_n g0, hc j j0 j1, if_neg g0]
          by_cases g1 : j = 1
          · rw [if_pos g1, g1]; omega
          · rw [if_neg g1]
      · have gb' : isB P T R.2.1 m i = false := by simpa using gb
        have ebd : bdS P R.2.1 (P 2 (m * 120 + i)) (P 3007 (P 2 (m * 120 + i)) + P 3 (m * 120 + i)) = -1 := by
          unfold isB at gb
          simp only [g21, g, decide_true, Bool.true_and, Bool.not_eq_true', decide_eq_false_iff_not, Decidable.not_not] at gb
          exact gb
        rw [ebd]
        exact nb gb' _
    · rw [if_neg g21, b80_133]
      refine nb ?_ _
      unfold isB
      simp [g21]
  · rw [if_neg g] at h9
    rw [if_pos h9, b80_133]
    refine nb ?_ _
    unfold isB
    simp [g]
/-- the loop -/
theorem l80 (hB0 : gbC σ0 o P T R bud) (h : grR P T R) (hpr : prg P) (m0 : 0 ≤ m) (m1 : m < P 3001 0) (hm : R.1 m = 1) (c0 : 0 ≤ c 0 ∧ 0 ≤ c 1) (c1 : c 0 + 120 < 2147483647 ∧ c 1 + 120 < 2147483647) : ∀ (n k : Nat) (w5 w6 w7 w8 w9 w10 : j3_W) (σ : j3_S), (k : Int) + n = P 0 m → frm gaI' gaA σ0 σ → xC σ (gsN P T R.2.1 bud m k).1 → σ.1 7001 96 = (gsN P T R.2.1 bud m k).2.1 → (∀ j, 0 ≤ j → j < (k : Int) → σ.2.2 6009 83 j = (gsN P T R.2.1 bud m k).2.2.2.1 j) → ctC σ (addc c (nbS P T R.2.1 m k) (gsN P T R.2.1 bud m k).2.2.2.2) → (∀ σ', frm gaI' gaA σ0 σ' → xC σ' (gaX P T R.2.1 bud m) → σ'.1 7001 96 = (gaE P T R.2.1 bud m).2.1 → ctC σ' (addc c (nbS P T R.2.1 m (P 0 m).toNat) (gaE P T R.2.1 bud m).2.2.2.2) → Q none σ') → T80 (d + 3) Q 21 [wO 6 83, wI m, wI (m * 120), wI (gsN P T R.2.1 bud m k).2.2.1, wI k, w5, w6, w7, w8, w9, w10] [] σ
  | 0, k, w5, w6, w7, w8, w9, w10, σ, hk, hf, hx, hl, hs, hc, hQ => by
    have hB : gbC σ o P T R bud := hB0.fr hf ⟨rfl, rfl⟩ rfl (la_ok rfl) ⟨rfl, rfl, rfl⟩
    obtain ⟨⟨h1', h2', -⟩, hC, hH, -⟩ := id hB
    have hg := h.1.1
    have h80 := hg.1.2.1.2.1
    obtain ⟨-, -, -, -, -, q6, q7⟩ := hg.1.2.2.2 m m0 m1
    obtain ⟨v, -, vj, -⟩ := ga_all (bud := bud) h m0 m1 hm
    obtain ⟨⟨v1, v2⟩, v3, -⟩ := gs_v (bud := bud) h m0 m1 hm k (by omega)
    have ek : (P 0 m).toNat = k := by omega
    have eE : gaE P T R.2.1 bud m = gsN P T R.2.1 bud m k := by unfold gaE; rw [ek]
    unfold gaX at hQ
    rw [eE] at hQ vj
    rw [ek] at hQ
    rw [b80_21, h2', (hC.2.2.2 m m0 m1).1.2.2.2.2.2.2, if_neg (by omega)]
    refine ⟨h1', by omega, ?_⟩
    refine s108 (n0 := P 0 m) (st := (gsN P T R.2.1 bud m k).2.2.2.1) hx v1 (by omega) (by omega) vj (fun j j0 j1 => hs j j0 (by omega)) (fun σ1 f1 x1 => ?_)
    simp only [Option.toList_none, List.nil_append]
    rw [b80_181]
    refine hQ σ1 (hf.tr (f1.wd (sub_el rfl) (sub_el rfl))) x1 (by rw [f1.2.1 7001 96 rfl]; exact hl) (fun j j0 j1 => ?_)
    rw [f1.2.2 6005 83 rfl]; exact hc j j0 j1
  | n + 1, k, w5, w6, w7, w8, w9, w10, σ, hk, hf, hx, hl, hs, hc, hQ => by
    have hB : gbC σ o P T R bud := hB0.fr hf ⟨rfl, rfl⟩ rfl (la_ok rfl) ⟨rfl, rfl, rfl⟩
    obtain ⟨⟨h1', h2', -⟩, hC, hH, -⟩ := id hB
    have hg := h.1.1
    have h80 := hg.1.2.1.2.1
    have hc10 := hg.1.1.2.1
    obtain ⟨-, pst, -, ⟨pp0, -, -⟩, q5, q6, q7⟩ := hg.1.2.2.2 m m0 m1
    have ik := q7 k (by omega) (by omega)
    obtain ⟨⟨v1, v2⟩, v3, v4, v5, v6, v7⟩ := gs_v (bud := bud) h m0 m1 hm k (by omega)
    have nbk := nbS_b (P := P) (T := T) (R := R) (m := m) k
    obtain ⟨a1, a2, a3⟩ := (hC.2.2.2 m m0 m1).2.2 k (by omega) (by omega)
    have e4 := hH m k m0 m1 (by omega) (by omega)
    have again := fun w5 w6 w7 w8 w9 w10 σ' hf' => l80 hB0 h hpr m0 m1 hm c0 c1 n (k + 1) w5 w6 w7 w8 w9 w10 σ' (by push_cast; omega) hf'
    have eS : gsN P T R.2.1 bud m (k + 1) = gs1 P T R.2.1 bud m k (gsN P T R.2.1 bud m k) := rfl
    have eN : nbS P T R.2.1 m (k + 1) = nbS P T R.2.1 m k + (if isB P T R.2.1 m k = true then 1 else 0) := rfl
    rw [eS, eN] at again
    generalize gsN P T R.2.1 bud m k = S at *
    rw [b80_21, h2', (hC.2.2.2 m m0 m1).1.2.2.2.2.2.2, if_pos (by omega), wr_id (by omega) (by omega), a1, a2, a3, e4, hx.1]
    refine ⟨h1', by omega, by omega, h1', by omega, h1', by omega, h1', by omega, h1', by omega, ?_⟩
    generalize hσ1 : ((σ.1, σ.2.1, j3_ast σ.2.2 6009 83 k S.1.n) : j3_S) = σ1
    have f1 : frm [] [6009] σ σ1 := by rw [← hσ1]; exact frm.A rfl frm.rf
    have F1 : frm gaI' gaA σ0 σ1 := hf.tr (f1.wd (sub_el rfl) (sub_el rfl))
    have hB1 : gbC σ1 o P T R bud := hB.fr f1 ⟨rfl, rfl⟩ rfl (la_ok rfl) ⟨rfl, rfl, rfl⟩
    have x1 : xC σ1 S.1 := hx.fr f1 rfl rfl
    have l1 : σ1.1 7001 96 = S.2.1 := by rw [f1.2.1 7001 96 rfl]; exact hl
    have s1 : ∀ j, 0 ≤ j → j < ((k + 1 : Nat) : Int) → σ1.2.2 6009 83 j = i_up S.2.2.2.1 k S.1.n j := by
      intro j j0 j1
      rw [← hσ1]
      simp only [j3_ast, up_r]
      by_cases gj : j = k
      · rw [gj, iu_r, iu_r]
      · rw [iu_n gj, iu_n gj]; exact hs j j0 (by push_cast at j1; omega)
    have ct1 : ctC σ1 (addc c (nbS P T R.2.1 m k) S.2.2.2.2) := fun j j0 j1 => by rw [f1.2.2 6005 83 rfl]; exact hc j j0 j1
    clear hσ1
    -- no leaf is put in
    have non : putB P T R.2.1 bud m k S = false → ∀ (x9 : Int) (w10 : j3_W), (x9 = if 0 ≤ (T m).1 k then 1 else 0) → T80 (d + 3) Q 117 [wO 6 83, wI m, wI (m * 120), wI S.2.2.1, wI k, wI (m * 120 + k), wI (P 1 (m * 120 + k)), wI (P 2 (m * 120 + k)), wI (P 3 (m * 120 + k)), wI x9, w10] [] σ1 := by
      intro gp x9 w10 h9
      refine l80n (d := d + 1) hB1 h m0 m1 hm (by omega) (by omega) x1 v1 (by omega) h9 ct1 ?_ ?_ (fun σ2 y6 y7 y8 y10 f2 x2 ct2 => ?_)
      · rw [addc_v, if_neg (by omega), if_pos rfl]; omega
      · rw [addc_v, if_neg (by omega), if_pos rfl]; omega
      · have eg : gs1 P T R.2.1 bud m k S = (adS S.1 (bO P T R.2.1 m k) (bA P T R.2.1 m k) (bB P T R.2.1 m k) (m * 1000 + k) (-1), S.2.1, S.2.2.1, i_up S.2.2.2.1 k S.1.n, S.2.2.2.2) := by
          unfold gs1
          rw [if_neg (by rw [gp]; decide)]
        rw [eg] at again
        rw [b80_174, wr_id (by omega) (by omega), show (k : Int) + 1 = ((k + 1 : Nat) : Int) by push_cast; omega]
        refine again _ _ _ _ _ _ σ2 (F1.tr (f2.wd (sub_el rfl) (sub_el rfl))) x2 (by rw [f2.2.1 7001 96 rfl]; exact l1) (fun j j0 j1 => by rw [f2.2.2 6009 83 rfl]; exact s1 j j0 j1) ?_ hQ
        rw [addc_a, show S.2.2.2.2 + 0 = S.2.2.2.2 by omega] at ct2
        exact ct2
    by_cases gm : 0 ≤ (T m).1 k
    · rw [if_neg (by omega), b80_71, if_neg (by decide)]
      by_cases g20 : P 1 (m * 120 + k) = 20
      · rw [if_pos g20, hB1.1.2.1]
        have hC1 := hB1.2.1
        have ca := ik.2.2.2.2.1 (by omega)
        have cb := ik.2.2.2.2.2.2 (by omega)
        have hm3 := hg.1.2.1.2.2 _ ca.1 ca.2
        rw [(hC1.2.2.1 _ ca.1 ca.2).1.2.2.2.2, wr_id (by omega) (by omega), hB1.2.2.1 m k m0 m1 (by omega) (by omega)]
        refine ⟨h1', by omega, h1', by omega, ?_⟩
        have gb : isB P T R.2.1 m k = false := by unfold isB; simp [g20]
        have eo : bO P T R.2.1 m k = P 1 (m * 120 + k) := by unfold bO; rw [gb]; rfl
        have ea : bA P T R.2.1 m k = P 2 (m * 120 + k) := by unfold bA; rw [gb]; rfl
        have eb : bB P T R.2.1 m k = P 3 (m * 120 + k) := by unfold bB; rw [gb]; rfl
        have h10 := ((h.1.2 m m0 m1).2.2 k (by omega) (by show (k : Int) < P 0 m; omega) gm).1.1
        refine s82 (T := T) (m := m) (i := k) hB1 hg h.1.2 (by omega) (by omega) rfl gm h10 l1 (by omega) (by omega) (by omega) (by omega) ?_
        simp only [Option.toList_some, List.cons_append, List.nil_append]
        have ep : putB P T R.2.1 bud m k S = (leafB P T bud (P 3007 (P 2 (m * 120 + k)) + P 3 (m * 120 + k)) && roomB P T m k S.2.1 S.2.2.1 (P 3007 (P 2 (m * 120 + k)) + P 3 (m * 120 + k))) := by
          unfold putB
          rw [eo, ea, eb]
          simp [g20, gm]
        rw [← ep, b80_93]
        by_cases gp : putB P T R.2.1 bud m k S = true
        · obtain ⟨-, -, -, u, u1, u2, ur, uR, lf, ub, r1, r2, r3⟩ := putB_of h m0 m1 hm (by omega) (by omega) gp
          rw [gp, if_neg (by decide), hB1.1.2.1, (hC1.2.2.1 _ ca.1 ca.2).1.2.2.2.2, wr_id (z := P 3007 (P 2 (m * 120 + k)) + P 3 (m * 120 + k)) (by omega) (by omega), u2, wr_id (z := m * 1000) (by omega) (by omega), wr_id (by omega) (by omega)]
          refine ⟨h1', by omega, ?_⟩
          obtain ⟨⟨-, np0, ln1⟩, -⟩ := lf
          refine s86 (d := d + 1) hB1 hg hpr ur.1 ur.2 l1 (by omega) r1 x1 v1 (by omega) ct1 ?_ ?_ (fun σ2 f2 x2 l2 ct2 => ?_)
          · rw [addc_v, if_pos rfl]; omega
          · rw [addc_v, if_pos rfl]; omega
          · simp only [Option.toList_none, List.nil_append]
            have hB2 : gbC σ2 o P T R bud := hB1.fr f2 ⟨rfl, rfl⟩ rfl (la_ok rfl) ⟨rfl, rfl, rfl⟩
            have eg : gs1 P T R.2.1 bud m k S = (puS P u S.2.1 (m * 1000 + k) S.1, S.2.1 + P 3017 u, S.2.2.1 + (P 3015 u + P 0 u - 2), i_up S.2.2.2.1 k S.1.n, S.2.2.2.2 + 1) := by
              unfold gs1
              rw [if_pos gp, u1]
            rw [eg] at again
            have q4 := (hg.1.2.2.2 u ur.1 ur.2).2.2.2.1
            have q6' := (hg.1.2.2.2 u ur.1 ur.2).2.2.2.2.2.1
            rw [b80_110, s81 hB2 hg ur.1 ur.2]
            simp only [Option.toList_some, List.cons_append, List.nil_append]
            rw [b80_114, wr_id (by omega) (by omega), b80_174, wr_id (by omega) (by omega), show (k : Int) + 1 = ((k + 1 : Nat) : Int) by push_cast; omega]
            refine again _ _ _ _ _ _ σ2 (F1.tr (f2.wd (sub_el rfl) (sub_el rfl))) x2 l2 (fun j j0 j1 => by rw [f2.2.2 6009 83 rfl]; exact s1 j j0 j1) ?_ hQ
            rw [addc_a] at ct2
            rw [gb, if_neg (by decide)]
            exact ct2
        · have gp' : putB P T R.2.1 bud m k S = false := by simpa using gp
          rw [gp', if_pos (by rfl)]
          exact non gp' _ _ (by rw [if_pos gm])
      · rw [if_neg g20]
        by_cases gp : putB P T R.2.1 bud m k S = true
        · exact absurd (putB_of h m0 m1 hm (by omega) (by omega) gp).2.1 g20
        · exact non (by simpa using gp) _ _ (by rw [if_pos gm])
    · rw [if_pos (by omega), b80_71, if_pos (by rfl)]
      by_cases gp : putB P T R.2.1 bud m k S = true
      · exact absurd (putB_of h m0 m1 hm (by omega) (by omega) gp).2.2.1 gm
      · exact non (by simpa using gp) _ _ (by rw [if_neg gm])
theorem s80 (hB : gbC σ o P T R bud) (h : grR P T R) (hpr : prg P) (m0 : 0 ≤ m) (m1 : m < P 3001 0) (hm : R.1 m = 1) (hc : ctC σ c) (c0 : 0 ≤ c 0 ∧ 0 ≤ c 1) (c1 : c 0 + 120 < 2147483647 ∧ c 1 + 120 < 2147483647) (hQ : ∀ σ', frm gaI' gaA σ σ' → xC σ' (gaX P T R.2.1 bud m) → σ'.1 7001 96 = (gaE P T R.2.1 bud m).2.1 → ctC σ' (addc c (nbS P T R.2.1 m (P 0 m).toNat) (gaE P T R.2.1 bud m).2.2.2.2) → Q none σ') : j3_tc false (d + 4) 80 [wO 6 83, wI m] σ Q := by
  obtain ⟨⟨h1', h2', -⟩, hC, hH, -⟩ := id hB
  have hg := h.1.1
  have h80 := hg.1.2.1.2.1
  obtain ⟨-, -, -, -, q5, q6, q7⟩ := hg.1.2.2.2 m m0 m1
  rw [e80, b80_0, h2', (hC.2.2.2 m m0 m1).1.2.2.2.2.2.1, e106, b106_0]
  refine ⟨h1', by omega, ?_⟩
  simp only [Option.toList_none, List.nil_append]
  rw [b80_8]
  generalize hσ1 : ((j3_up (j3_up σ.1 7000 96 0) 7001 96 (P 3017 m), σ.2.1, σ.2.2) : j3_S) = σ1
  have f1 : frm gaI' gaA σ σ1 := by rw [← hσ1]; exact frm.I rfl (frm.I rfl frm.rf)
  have hB1 : gbC σ1 o P T R bud := hB.fr f1 ⟨rfl, rfl⟩ rfl (la_ok rfl) ⟨rfl, rfl, rfl⟩
  rw [hB1.1.2.1, (hB1.2.1.2.2.2 m m0 m1).1.2.2.2.2.2.2, wr_id (by omega) (by omega)]
  refine ⟨h1', by omega, ?_⟩
  refine l80 (σ0 := σ) hB h hpr m0 m1 hm c0 c1 (P 0 m).toNat 0 _ _ _ _ _ _ σ1 (by omega) f1 ⟨?_, fun i i0 i1 => ?_⟩ ?_ (fun j j0 j1 => absurd j1 (by omega)) ?_ hQ
  · rw [← hσ1]; show j3_up (j3_up σ.1 7000 96 0) 7001 96 (P 3017 m) 7000 96 = 0; rw [up_e rfl, up_r]
  · have : i < 0 := i1
    omega
  · rw [← hσ1]; show j3_up (j3_up σ.1 7000 96 0) 7001 96 (P 3017 m) 7001 96 = P 3017 m; rw [up_r]
  · show ctC σ1 (addc c 0 0)
    rw [addc_0, ← hσ1]
    exact hc
end CGATH
