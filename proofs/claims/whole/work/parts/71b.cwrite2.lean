/-! the small program's fields and faces, written in the class -/
section CWRITE2
variable {σ σ' σ'' σ0 : j3_S} {P : Pg} {r : Rs} {XX : Int → Sx} {NL : Int → Int} {o o2 d : Nat} {x c m i w k n v cB mB : Int} {Q : j3_P}
theorem spF.mv (h : spF P r XX (PgC σ o2) c i) (he : ∀ e, 3008 ≤ e → e ≤ 3010 → σ'.2.2 e o2 (nC P r XX c * 6 + nF P r XX c i) = σ.2.2 e o2 (nC P r XX c * 6 + nF P r XX c i)) : spF P r XX (PgC σ' o2) c i := by
  unfold spF at h ⊢
  rw [PgC_e (by omega), PgC_e (by omega), PgC_e (by omega)] at h ⊢
  rw [he 3008 (by omega) (by omega), he 3009 (by omega) (by omega), he 3010 (by omega) (by omega)]
  exact h
theorem l99 (hg : good P) (hoo : ¬ o = o2 ∧ ¬ o = o2 + 17 ∧ ¬ o + 17 = o2) (hB0 : kbC σ0 o o2 P r XX NL) (hn0 : nuC σ0 P r XX) (c0 : 0 ≤ c) (c1 : c < P 3000 0) (hc : kC P r XX c) : ∀ (n : Nat) (f : Int) (w5 w6 : j3_W) (σ : j3_S), f + n = P 3005 c → 0 ≤ f → lwF o2 (nC P r XX c) 80 σ0 σ → (∀ e, e < 3008 ∨ 3010 < e → σ.2.2 e o2 = σ0.2.2 e o2) → (∀ f', 0 ≤ f' → f' < f → kFc P r XX c f' → spF P r XX (PgC σ o2) c f') → (∀ σ', lwF o2 (nC P r XX c) 80 σ0 σ' → (∀ e, e < 3008 ∨ 3010 < e → σ'.2.2 e o2 = σ0.2.2 e o2) → (∀ f', 0 ≤ f' → f' < P 3005 c → kFc P r XX c f' → spF P r XX (PgC σ' o2) c f') → Q (some (wI (nB (kFc P r XX c) (P 3005 c)))) σ') → T99 (d + 1) Q 4 [wO 6 83, wI c, wI (nC P r XX c), wI (nB (kFc P r XX c) f), wI f, w5, w6] [] σ
  | 0, f, w5, w6, σ, hf', f0, hf, hr, hs, hQ => by
    have hB := hf.kb hB0 hoo
    have hc10 := hg.1.1.2.1
    rw [b99_4, hB.1.2.1, (hB.2.1.2.2.1 c c0 c1).1.2.2.1, if_neg (by omega)]
    rw [show f = P 3005 c by omega] at hs ⊢
    exact ⟨hB.1.1.1, by omega, hQ σ hf hr hs⟩
  | n + 1, f, w5, w6, σ, hf', f0, hf, hr, hs, hQ => by
    have hB := hf.kb hB0 hoo
    have hn := hf.nu hn0
    have hc10 := hg.1.1.2.1
    have hff := hg.1.2.2.1 c c0 c1
    have tp := hff.2.2 f f0 (by omega)
    have nb := nB_le (q := kFc P r XX c) f0
    have nb0 := nB_p (q := kFc P r XX c) (x := f)
    have ncb := nw_b (n := P 3000 0) c0 c1 hc
    have enc : nC P r XX c = nwN (kC P r XX) c := rfl
    have nl := nB_le (q := kC P r XX) (x := P 3000 0) (by omega)
    rw [b99_4, hB.1.2.1, (hB.2.1.2.2.1 c c0 c1).1.2.2.1, if_pos (by omega)]
    simp (disch := omega) only [wr_id]
    rw [hn.2.1 c f c0 c1 f0 (by omega)]
    refine ⟨hB.1.1.1, by omega, by omega, ?_⟩
    by_cases gk : kFc P r XX c f
    · have enf : nF P r XX c f = nB (kFc P r XX c) f := nw_k gk
      have gk' : kF P r XX (c * 6 + f) := gk
      have kty := (kC_cl.2.2.1 c f c0 c1 f0 (by omega) gk').2
      have p6 := hB.1.2.2
      rw [enf, if_neg (by omega), p6, ((hB.2.1.2.2.1 c c0 c1).2 f f0 (by omega)).2.1]
      simp (disch := omega) only [wr_id]
      refine ⟨by omega, hB.1.1.2, by omega, by omega, hB.1.1.2, hB.1.1.1, by omega, ?_⟩
      generalize hσ1 : ((σ.1, σ.2.1, j3_ast σ.2.2 3008 o2 (nC P r XX c * 6 + nB (kFc P r XX c) f) (nB (kFc P r XX c) f + 1)) : j3_S) = σ1
      have f1 : lwF o2 (nC P r XX c) 80 σ σ1 := by rw [← hσ1]; exact lwF.ast (by omega) (by omega) (by show nC P r XX c * 6 ≤ _; omega)
      have n1 : nuC σ1 P r XX := f1.nu hn
      rw [s100 hg n1 (by omega) kty]
      simp only [Option.toList_some, List.cons_append, List.nil_append]
      have hB1 := f1.kb hB hoo
      rw [b99_54, hB1.1.2.1, hB1.1.2.2, ((hB1.2.1.2.2.1 c c0 c1).2 f f0 (by omega)).2.2, b99_66]
      simp (disch := omega) only [wr_id]
      refine ⟨by omega, hB.1.1.2, hB.1.1.1, by omega, by omega, ?_⟩
      generalize hσ2 : ((σ1.1, σ1.2.1, j3_ast (j3_ast σ1.2.2 3009 o2 (nC P r XX c * 6 + nB (kFc P r XX c) f) (tN P r XX (P 3009 (c * 6 + f)))) 3010 o2 (nC P r XX c * 6 + nB (kFc P r XX c) f) (P 3010 (c * 6 + f))) : j3_S) = σ2
      have f2 : lwF o2 (nC P r XX c) 80 σ1 σ2 := by
        rw [← hσ2]
        exact (lwF.ast (e := 3009) (by omega) (by omega) (by show nC P r XX c * 6 ≤ _; omega)).tr (lwF.ast (σ := (σ1.1, σ1.2.1, j3_ast σ1.2.2 3009 o2 (nC P r XX c * 6 + nB (kFc P r XX c) f) (tN P r XX (P 3009 (c * 6 + f))))) (e := 3010) (cB := nC P r XX c) (mB := 80) (by omega) (by omega) (by show nC P r XX c * 6 ≤ _; omega)) (by omega) (by omega)
      have e8 : σ2.2.2 3008 o2 = i_up (σ.2.2 3008 o2) (nC P r XX c * 6 + nB (kFc P r XX c) f) (nB (kFc P r XX c) f + 1) := by
        rw [← hσ2, ← hσ1]; simp only [j3_ast]; rw [up_e rfl, up_e rfl, up_r]
      have e9 : σ2.2.2 3009 o2 = i_up (σ.2.2 3009 o2) (nC P r XX c * 6 + nB (kFc P r XX c) f) (tN P r XX (P 3009 (c * 6 + f))) := by
        rw [← hσ2, ← hσ1]; simp only [j3_ast]; rw [up_e rfl, up_r, up_e rfl]
      have e10 : σ2.2.2 3010 o2 = i_up (σ.2.2 3010 o2) (nC P r XX c * 6 + nB (kFc P r XX c) f) (P 3010 (c * 6 + f)) := by
        rw [← hσ2, ← hσ1]; simp only [j3_ast]; rw [up_r, up_e rfl, up_e rfl]
      have eo : ∀ e, e < 3008 ∨ 3010 < e → σ2.2.2 e o2 = σ.2.2 e o2 := fun e he => by
        rw [← hσ2, ← hσ1]; simp only [j3_ast]
        rw [up_ne (fun q => by omega), up_ne (fun q => by omega), up_ne (fun q => by omega)]
      rw [← nB_k f0 gk]
      refine l99 hg hoo hB0 hn0 c0 c1 hc n (f + 1) _ _ σ2 (by omega) (by omega) ((hf.tr f1 (by omega) (by omega)).tr f2 (by omega) (by omega)) (fun e he => (eo e he).trans (hr e he)) (fun f' f0' f1' q => ?_) hQ
      by_cases ef : f' = f
      · rw [ef]
        unfold spF
        rw [PgC_e (by omega), PgC_e (by omega), PgC_e (by omega), enf, e8, e9, e10, iu_r, iu_r, iu_r]
        exact ⟨rfl, rfl, rfl⟩
      · refine (hs f' f0' (by omega) q).mv (fun e q0 q1 => ?_)
        have enf' : nF P r XX c f' = nB (kFc P r XX c) f' := nw_k q
        have := nB_lt (q := kFc P r XX c) f0' (show f' < f by omega) q
        have nz : ¬ nC P r XX c * 6 + nF P r XX c f' = nC P r XX c * 6 + nB (kFc P r XX c) f := by omega
        rcases (by omega : e = 3008 ∨ e = 3009 ∨ e = 3010) with rfl | rfl | rfl
        · rw [e8, iu_n nz]
        · rw [e9, iu_n nz]
        · rw [e10, iu_n nz]
    · have enf : nF P r XX c f = -1 := nw_n gk
      rw [enf, if_pos (by rfl), b99_66, wr_id (by omega) (by omega), ← nB_n f0 gk]
      refine l99 hg hoo hB0 hn0 c0 c1 hc n (f + 1) _ _ σ (by omega) (by omega) hf hr (fun f' f0' f1' q => ?_) hQ
      by_cases ef : f' = f
      · rw [ef] at q; exact absurd q gk
      · exact hs f' f0' (by omega) q
/-- a face -/
theorem l101 (hg : good P) (hoo : ¬ o = o2 ∧ ¬ o = o2 + 17 ∧ ¬ o + 17 = o2) (hB0 : kbC σ0 o o2 P r XX NL) (hn0 : nuC σ0 P r XX) (m0 : 0 ≤ m) (m1 : m < P 3001 0) (hm : kM P r XX m) {x2 : Int} : ∀ (n : Nat) (p : Int) (σ : j3_S), p + n = P 3015 m → 0 ≤ p → lwF o2 10 (nM P r XX m) σ0 σ → (∀ e, ¬ e = 3016 → σ.2.2 e o2 = σ0.2.2 e o2) → (∀ p', 0 ≤ p' → p' < p → σ.2.2 3016 o2 (nM P r XX m * 3 + p') = tN P r XX (P 3016 (m * 3 + p'))) → (∀ σ', lwF o2 10 (nM P r XX m) σ0 σ' → (∀ e, ¬ e = 3016 → ¬ e = 3017 → σ'.2.2 e o2 = σ0.2.2 e o2) → (∀ p', 0 ≤ p' → p' < P 3015 m → σ'.2.2 3016 o2 (nM P r XX m * 3 + p') = tN P r XX (P 3016 (m * 3 + p'))) → (σ'.2.2 3017 o2 (nM P r XX m) = if r.1 m = 1 then NL m else P 3015 m + rcv P m) → Q none σ') → T101 (d + 1) Q 58 [wO 6 83, wI m, wI x2, wI (nM P r XX m), wI p] [] σ
  | 0, p, σ, hp, p0, hf, hr, hs, hQ => by
    have hB := hf.kb hB0 hoo
    have h80 := hg.1.2.1.2.1
    have nn := nw_b (n := P 3001 0) m0 m1 hm
    have en : nM P r XX m = nwN (kM P r XX) m := rfl
    have nl := nB_le (q := kM P r XX) (x := P 3001 0) (by omega)
    obtain ⟨-, pst, -, q4, q5, -⟩ := hg.1.2.2.2 m m0 m1
    have fin : ∀ v, (v = if r.1 m = 1 then NL m else P 3015 m + rcv P m) → Q none (σ.1, σ.2.1, j3_ast σ.2.2 3017 o2 (nM P r XX m) v) := by
      intro v hv
      have f1 : lwF o2 10 (nM P r XX m) σ (σ.1, σ.2.1, j3_ast σ.2.2 3017 o2 (nM P r XX m) v) := lwF.ast (by omega) (by omega) (by show nM P r XX m ≤ _; omega)
      refine hQ _ (hf.tr f1 (by omega) (by omega)) (fun e e1 e2 => ?_) (fun p' p0' p1' => ?_) ?_
      · show j3_up σ.2.2 3017 o2 _ e o2 = _
        rw [up_ne (fun q => e2 q.1)]; exact hr e e1
      · show j3_up σ.2.2 3017 o2 (i_up (σ.2.2 3017 o2) (nM P r XX m) v) 3016 o2 (nM P r XX m * 3 + p') = _
        rw [up_e rfl]; exact hs p' p0' (by omega)
      · show j3_up σ.2.2 3017 o2 (i_up (σ.2.2 3017 o2) (nM P r XX m) v) 3017 o2 (nM P r XX m) = _
        rw [up_r, iu_r]; exact hv
    rw [b101_58, hB.1.2.1, hB.1.2.2, (hB.2.1.2.2.2 m m0 m1).1.2.2.2.2.1, if_neg (by omega), hB.2.2.2.1 m m0 (by omega)]
    refine ⟨hB.1.1.1, by omega, hB.1.1.2, by omega, ?_⟩
    by_cases g : r.1 m = 1
    · rw [if_pos g, (hB.2.2.1 m m0 m1 g).2.1]
      exact ⟨by omega, by omega, fin _ (by rw [if_pos g])⟩
    · rw [if_neg g, s51 hB.2.1 h80 m0 m1]
      refine ⟨hB.1.1.1, by omega, hB.1.1.1, ?_⟩
      simp only [Option.toList_some, List.cons_append, List.nil_append]
      have er : (if P 3013 m = 0 then (1 : Int) else 0) = rcv P m := rfl
      have rb : 0 ≤ rcv P m ∧ rcv P m ≤ 1 := by unfold rcv; split <;> omega
      rw [er, b101_112, wr_id (by omega) (by omega)]
      exact ⟨by omega, fin _ (by rw [if_neg g])⟩
  | n + 1, p, σ, hp, p0, hf, hr, hs, hQ => by
    have hB := hf.kb hB0 hoo
    have hn := hf.nu hn0
    have h80 := hg.1.2.1.2.1
    have nn := nw_b (n := P 3001 0) m0 m1 hm
    have en : nM P r XX m = nwN (kM P r XX) m := rfl
    have nl := nB_le (q := kM P r XX) (x := P 3001 0) (by omega)
    have q4 := (hg.1.2.2.2 m m0 m1).2.2.2.1
    have tp := q4.2.2 p p0 (by omega)
    rw [b101_58, hB.1.2.1, hB.1.2.2, (hB.2.1.2.2.2 m m0 m1).1.2.2.2.2.1, if_pos (by omega)]
    simp (disch := omega) only [wr_id]
    rw [(hB.2.1.2.2.2 m m0 m1).2.1 p p0 (by omega), s100 hg hn (by omega) ((kC_cl.2.2.2.1 m m0 m1 hm).2.2 p p0 (by omega))]
    refine ⟨hB.1.1.1, by omega, hB.1.1.2, hB.1.1.1, by omega, ?_⟩
    simp only [Option.toList_some, List.cons_append, List.nil_append]
    rw [b101_84, wr_id (by omega) (by omega)]
    have f1 : lwF o2 10 (nM P r XX m) σ (σ.1, σ.2.1, j3_ast σ.2.2 3016 o2 (nM P r XX m * 3 + p) (tN P r XX (P 3016 (m * 3 + p)))) := lwF.ast (by omega) (by omega) (by show nM P r XX m * 3 ≤ _; omega)
    refine ⟨by omega, l101 hg hoo hB0 hn0 m0 m1 hm n (p + 1) _ (by omega) (by omega) (hf.tr f1 (by omega) (by omega)) (fun e e1 => ?_) (fun p' p0' p1' => ?_) hQ⟩
    · show j3_up σ.2.2 3016 o2 _ e o2 = _
      rw [up_ne (fun q => e1 q.1)]; exact hr e e1
    · show j3_up σ.2.2 3016 o2 (i_up (σ.2.2 3016 o2) (nM P r XX m * 3 + p) (tN P r XX (P 3016 (m * 3 + p)))) 3016 o2 (nM P r XX m * 3 + p') = _
      rw [up_r]
      by_cases e : p' = p
      · rw [e, iu_r]
      · rw [iu_n (by omega)]; exact hs p' p0' (by omega)
theorem s101 (hg : good P) (hoo : ¬ o = o2 ∧ ¬ o = o2 + 17 ∧ ¬ o + 17 = o2) (hB : kbC σ o o2 P r XX NL) (hn : nuC σ P r XX) (hna : ∀ z, 0 ≤ z → z < P 3001 0 → kM P r XX z → σ.2.2 6011 83 z = nam P r XX z) (m0 : 0 ≤ m) (m1 : m < P 3001 0) (hm : kM P r XX m) (hQ : ∀ σ', lwF o2 10 (nM P r XX m) σ σ' → (∀ e, e < 3011 → σ'.2.2 e o2 = σ.2.2 e o2) → spM P r XX NL (PgC σ' o2) m → σ'.2.2 3012 o2 (nM P r XX m) = nam P r XX m → Q none σ') : j3_tc false (d + 2) 101 [wO 6 83, wI m, wI (nC P r XX (P 3011 m))] σ Q := by
  have h80 := hg.1.2.1.2.1
  have hc10 := hg.1.1.2.1
  have nn := nw_b (n := P 3001 0) m0 m1 hm
  have en : nM P r XX m = nwN (kM P r XX) m := rfl
  have nl := nB_le (q := kM P r XX) (x := P 3001 0) (by omega)
  obtain ⟨-, pst, q3, q4, q5, -⟩ := hg.1.2.2.2 m m0 m1
  obtain ⟨c1, -⟩ := hB.2.1.2.2.2 m m0 m1
  have kf := kC_cl.2.2.2.1 m m0 m1 hm
  rw [e101, b101_0, hn.2.2 m m0 m1, hB.1.2.1, hB.1.2.2, hna m m0 m1 hm, c1.2.2.1, c1.2.2.2.1, wr_id (by omega) (by omega)]
  refine ⟨by omega, hB.1.1.2, by omega, hB.1.1.2, by omega, by omega, hB.1.1.2, hB.1.1.1, by omega, by omega, hB.1.1.2, hB.1.1.1, by omega, ?_⟩
  generalize hσ1 : ((σ.1, σ.2.1, j3_ast (j3_ast (j3_ast σ.2.2 3011 o2 (nM P r XX m) (nC P r XX (P 3011 m))) 3012 o2 (nM P r XX m) (nam P r XX m)) 3013 o2 (nM P r XX m) (P 3013 m)) : j3_S) = σ1
  have f1 : lwF o2 10 (nM P r XX m) σ σ1 := by
    rw [← hσ1]
    have a1 : lwF o2 10 (nM P r XX m) σ (σ.1, σ.2.1, j3_ast σ.2.2 3011 o2 (nM P r XX m) (nC P r XX (P 3011 m))) := lwF.ast (by omega) (by omega) (by show nM P r XX m ≤ _; omega)
    have a2 : lwF o2 10 (nM P r XX m) (σ.1, σ.2.1, j3_ast σ.2.2 3011 o2 (nM P r XX m) (nC P r XX (P 3011 m))) (σ.1, σ.2.1, j3_ast (j3_ast σ.2.2 3011 o2 (nM P r XX m) (nC P r XX (P 3011 m))) 3012 o2 (nM P r XX m) (nam P r XX m)) := lwF.ast (σ := (σ.1, σ.2.1, j3_ast σ.2.2 3011 o2 (nM P r XX m) (nC P r XX (P 3011 m)))) (by omega) (by omega) (by show nM P r XX m ≤ _; omega)
    have a3 := lwF.ast (σ := (σ.1, σ.2.1, j3_ast (j3_ast σ.2.2 3011 o2 (nM P r XX m) (nC P r XX (P 3011 m))) 3012 o2 (nM P r XX m) (nam P r XX m))) (o2 := o2) (cB := 10) (mB := nM P r XX m) (e := 3013) (z := nM P r XX m) (v := P 3013 m) (by omega) (by omega) (by show nM P r XX m ≤ _; omega)
    exact (a1.tr a2 (by omega) (by omega)).tr a3 (by omega) (by omega)
  have n1 : nuC σ1 P r XX := f1.nu hn
  have hB1 := f1.kb hB hoo
  rw [s100 hg n1 (by omega) (fun q => by rw [show P 3014 m - 1 - 1 = P 3014 m - 2 by omega]; exact kf.2.1 (by omega))]
  simp only [Option.toList_some, List.cons_append, List.nil_append]
  have tb : 0 ≤ tN P r XX (P 3014 m - 1) + 1 ∧ tN P r XX (P 3014 m - 1) ≤ 11 := by
    unfold tN
    by_cases g : P 3014 m - 1 ≤ 0
    · rw [if_pos g]; omega
    · have kk := kf.2.1 (by omega)
      have nk := nw_b (n := P 3000 0) (x := P 3014 m - 2) (by omega) (by omega) kk
      have ek : nC P r XX (P 3014 m - 1 - 1) = nwN (kC P r XX) (P 3014 m - 2) := by rw [show P 3014 m - 1 - 1 = P 3014 m - 2 by omega]; rfl
      have nl := nB_le (q := kC P r XX) (x := P 3000 0) (by have := hg.1.1.1; omega)
      rw [if_neg g]; omega
  rw [b101_43, hB1.1.2.1, hB1.1.2.2, (hB1.2.1.2.2.2 m m0 m1).1.2.2.2.2.1, wr_id (by omega) (by omega)]
  refine ⟨by omega, hB.1.1.2, hB.1.1.1, by omega, by omega, ?_⟩
  generalize hσ2 : ((σ1.1, σ1.2.1, j3_ast (j3_ast σ1.2.2 3014 o2 (nM P r XX m) (tN P r XX (P 3014 m - 1) + 1)) 3015 o2 (nM P r XX m) (P 3015 m)) : j3_S) = σ2
  have f2 : lwF o2 10 (nM P r XX m) σ1 σ2 := by
    rw [← hσ2]
    have a1 : lwF o2 10 (nM P r XX m) σ1 (σ1.1, σ1.2.1, j3_ast σ1.2.2 3014 o2 (nM P r XX m) (tN P r XX (P 3014 m - 1) + 1)) := lwF.ast (by omega) (by omega) (by show nM P r XX m ≤ _; omega)
    have a2 := lwF.ast (σ := (σ1.1, σ1.2.1, j3_ast σ1.2.2 3014 o2 (nM P r XX m) (tN P r XX (P 3014 m - 1) + 1))) (o2 := o2) (cB := 10) (mB := nM P r XX m) (e := 3015) (z := nM P r XX m) (v := P 3015 m) (by omega) (by omega) (by show nM P r XX m ≤ _; omega)
    exact a1.tr a2 (by omega) (by omega)
  have e11 : σ2.2.2 3011 o2 (nM P r XX m) = nC P r XX (P 3011 m) := by
    rw [← hσ2, ← hσ1]; simp only [j3_ast]; rw [up_e rfl, up_e rfl, up_e rfl, up_e rfl, up_r, iu_r]
  have e12 : σ2.2.2 3012 o2 (nM P r XX m) = nam P r XX m := by
    rw [← hσ2, ← hσ1]; simp only [j3_ast]; rw [up_e rfl, up_e rfl, up_e rfl, up_r, iu_r]
  have e13 : σ2.2.2 3013 o2 (nM P r XX m) = P 3013 m := by
    rw [← hσ2, ← hσ1]; simp only [j3_ast]; rw [up_e rfl, up_e rfl, up_r, iu_r]
  have e14 : σ2.2.2 3014 o2 (nM P r XX m) = tN P r XX (P 3014 m - 1) + 1 := by
    rw [← hσ2]; simp only [j3_ast]; rw [up_e rfl, up_r, iu_r]
  have e15 : σ2.2.2 3015 o2 (nM P r XX m) = P 3015 m := by
    rw [← hσ2]; simp only [j3_ast]; rw [up_r, iu_r]
  have eo : ∀ e, e < 3011 → σ2.2.2 e o2 = σ.2.2 e o2 := fun e he => by
    rw [← hσ2, ← hσ1]; simp only [j3_ast]
    rw [up_ne (fun q => by omega), up_ne (fun q => by omega), up_ne (fun q => by omega), up_ne (fun q => by omega), up_ne (fun q => by omega)]
  refine l101 (σ0 := σ2) hg hoo (f2.kb hB1 hoo) (f2.nu n1) m0 m1 hm (P 3015 m).toNat 0 σ2 (by omega) (by omega) lwF.rf (fun _ _ => rfl) (fun p' p0' p1' => by omega) (fun σ3 f3 r3 t3 t4 => ?_)
  refine hQ σ3 ((f1.tr f2 (by omega) (by omega)).tr f3 (by omega) (by omega)) (fun e he => (r3 e (by omega) (by omega)).trans (eo e he)) ⟨?_, fun p p0 p1 => ?_, ?_⟩ (by rw [r3 3012 (by omega) (by omega)]; exact e12)
  · rw [PgC_e (by omega), PgC_e (by omega), PgC_e (by omega), PgC_e (by omega), r3 3011 (by omega) (by omega), r3 3013 (by omega) (by omega), r3 3014 (by omega) (by omega), r3 3015 (by omega) (by omega)]
    exact ⟨e11, e13, e14, e15⟩
  · rw [PgC_e (by omega)]; exact t3 p p0 p1
  · rw [PgC_e (by omega)]; exact t4
end CWRITE2
