/-! the class's lookAt, whole -/
theorem isj_b {op : Int} (h : isj op = true) : 11 ≤ op ∧ op ≤ 14 := by simpa [isj] using h
theorem rep1 {G : List Int} (h : G.length ≤ 1) : List.replicate G.length (G.headD 0) = G := by
  cases G with
  | nil => rfl
  | cons x G =>
    cases G with
    | nil => rfl
    | cons y G => simp at h
theorem up_x {α : Type} {f : Nat → Nat → α} {e o e' o' : Nat} {w v : α} (h : (e' == e) = false) (g : f e' o' = v) : j3_up f e o w e' o' = v := (up_e h).trans g
section LOOK4
variable {d : Nat} {Q : j3_P} {P : Pg} {σ : j3_S} {F : Fl} {i j n m nl op a b : Int}
/-- behind the pushes -/
theorem l6b {x2 x6 : Int} (hp : ¬ σ.2.1 0 = 0) (hC : CP σ (σ.2.1 0) P) (hW : WFp P) (hm : σ.1 1003 76 = m) (m0 : 0 ≤ m) (m1 : m < P 3001 0) (hnl : P 3017 m = nl) (i0 : 0 ≤ i) (i1 : i < P 0 m) (hn : σ.1 1010 76 = n) (n0 : 0 ≤ n) (n1 : n ≤ 10) (hj : isj op = true → 0 ≤ a ∧ a < P 0 m) (hF : FC σ nl F) (hok : Fok P nl F) (hts : tys P n (σ.2.2 1008 76)) (htl : tys P nl (σ.2.2 1009 76))
    (hQ : ∀ σ', frm [1004] [1005, 1006, 1007] σ σ' → ((ar2 P m nl i op a F n (σ.2.2 1008 76) (σ.2.2 1009 76)).1 = 0 → FC σ' nl (ar2 P m nl i op a F n (σ.2.2 1008 76) (σ.2.2 1009 76)).2.1 ∧ σ'.1 1004 76 = if (ar2 P m nl i op a F n (σ.2.2 1008 76) (σ.2.2 1009 76)).2.2 = true then 1 else σ.1 1004 76) → Q (some (wI (ar2 P m nl i op a F n (σ.2.2 1008 76) (σ.2.2 1009 76)).1)) σ') :
    j3_tc false (d + 4) 152 [wI op] σ (fun r σ1 => T6 (d + 4) Q 74 [wO 1 76, wI i, wI x2, wI op, wI a, wI 0, wI x6] (r.toList ++ []) σ1) := by
  obtain ⟨hs, hmm, -, hM⟩ := id hW
  obtain ⟨q1, q2, q3, q4, q5, q6, q7⟩ := hM m m0 m1
  have hm2 := hmm.2.1
  have l0 : 0 ≤ nl := by have := q4.1; omega
  have l1 : nl ≤ 20 := by omega
  -- the second half, from 94 on
  have half : ∀ (τ : j3_S) (R : Int × Fl × Bool), frm [1004] [1005, 1006, 1007] σ τ → ar1 P m nl i op F n (σ.2.2 1008 76) (σ.2.2 1009 76) = R → (R.1 = 0 → FC τ nl R.2.1 ∧ τ.1 1004 76 = if R.2.2 = true then 1 else σ.1 1004 76) → T6 (d + 4) Q 94 [wO 1 76, wI i, wI x2, wI op, wI a, wI R.1, wI x6] [] τ := by
    intro τ R hfr hR hst
    rw [b6_94]
    by_cases g : R.1 = 0
    · rw [if_pos g, show d + 4 = (d + 3) + 1 from rfl, s151]
      simp only [Option.toList_some, List.cons_append, List.nil_append]
      rw [b6_98]
      by_cases g2 : isj op = true
      · obtain ⟨f1, f2⟩ := hst g
        have ha := hj g2
        have h8 : τ.2.2 1008 76 = σ.2.2 1008 76 := hfr.2.2 1008 76 rfl
        have h9 : τ.2.2 1009 76 = σ.2.2 1009 76 := hfr.2.2 1009 76 rfl
        have hFk : Fok P nl R.2.1 := by
          rw [← hR]
          exact ar1_ok hs hok n1 hts htl (by rw [hR]; exact g)
        have e2 : ar2 P m nl i op a F n (σ.2.2 1008 76) (σ.2.2 1009 76) = (arf R.2.1 a n (σ.2.2 1008 76), arF P nl R.2.1 a n (σ.2.2 1008 76) (σ.2.2 1009 76), R.2.2 || arc P nl R.2.1 a n (σ.2.2 1008 76) (σ.2.2 1009 76)) := by
          unfold ar2
          rw [hR, if_pos ⟨g, g2⟩]
        rw [if_neg (by rw [g2]; decide)]
        refine s15 (P := P) (F := R.2.1) (n := n) (m := m) (nl := nl) (by rw [hfr.1]; exact hp) (by rw [hfr.1]; exact hC.fr hfr ⟨rfl, rfl⟩ (la_ok rfl)) hs hm2 ((hfr.2.1 1003 76 rfl).trans hm) m0 m1 hnl l0 l1 ((hfr.2.1 1010 76 rfl).trans hn) n0 n1 (by omega) (by omega) f1 hFk (by rw [h8]; exact hts) (by rw [h9]; exact htl) (fun σ' hf' hst' => ?_)
        simp only [Option.toList_some, List.cons_append, List.nil_append]
        rw [b6_102]
        rw [h8, h9] at *
        rw [e2] at hQ
        refine hQ σ' (hfr.tr hf') (fun h0 => ?_)
        obtain ⟨k1, k2⟩ := hst' h0
        refine ⟨k1, ?_⟩
        rw [k2, f2]
        cases R.2.2 <;> cases arc P nl R.2.1 a n (σ.2.2 1008 76) (σ.2.2 1009 76) <;> simp
      · have e2 : ar2 P m nl i op a F n (σ.2.2 1008 76) (σ.2.2 1009 76) = R := by
          unfold ar2
          rw [hR, if_neg (fun q => g2 q.2)]
        rw [e2] at hQ
        rw [if_pos (by rw [Bool.not_eq_true] at g2; rw [g2]; rfl)]
        exact hQ τ hfr hst
    · have e2 : ar2 P m nl i op a F n (σ.2.2 1008 76) (σ.2.2 1009 76) = R := by
        unfold ar2
        rw [hR, if_neg (fun q => g q.1)]
      rw [e2] at hQ
      rw [if_neg g]
      exact hQ τ hfr hst
  rw [show d + 4 = (d + 3) + 1 from rfl, s152]
  simp only [Option.toList_some, List.cons_append, List.nil_append]
  rw [b6_74]
  by_cases g : gon op = true
  · rw [if_neg (by rw [g]; decide), hm, (hC.2.2.2 m m0 m1).1.2.2.2.2.2.2]
    simp (disch := omega) only [wr_id]
    refine ⟨hp, ⟨m0, by omega⟩, ?_⟩
    by_cases g2 : i + 1 < P 0 m
    · have e1 : ar1 P m nl i op F n (σ.2.2 1008 76) (σ.2.2 1009 76) = (arf F (i + 1) n (σ.2.2 1008 76), arF P nl F (i + 1) n (σ.2.2 1008 76) (σ.2.2 1009 76), arc P nl F (i + 1) n (σ.2.2 1008 76) (σ.2.2 1009 76)) := by
        unfold ar1
        rw [if_pos g, if_pos g2]
      rw [if_pos g2]
      refine s15 (P := P) (F := F) (n := n) (m := m) (nl := nl) hp hC hs hm2 hm m0 m1 hnl l0 l1 hn n0 n1 (by omega) (by omega) hF hok hts htl (fun σ' hf' hst' => ?_)
      simp only [Option.toList_some, List.cons_append, List.nil_append]
      rw [b6_91, b6_93]
      exact half σ' _ hf' e1 hst'
    · have e1 : ar1 P m nl i op F n (σ.2.2 1008 76) (σ.2.2 1009 76) = (7, F, false) := by
        unfold ar1
        rw [if_pos g, if_neg g2]
      rw [if_neg g2, b6_93]
      exact half σ _ frm.rf e1 (fun h => by simp at h)
  · have e1 : ar1 P m nl i op F n (σ.2.2 1008 76) (σ.2.2 1009 76) = (0, F, false) := by
      unfold ar1
      rw [if_neg g]
    rw [if_pos (by rw [Bool.not_eq_true] at g; rw [g]; rfl)]
    exact half σ _ frm.rf e1 (fun _ => ⟨hF, by simp⟩)
/-- the pushes -/
theorem l6a {x2 x g : Int} : ∀ (r : Nat) (k q : Int) (τ : j3_S), 0 ≤ k → k + r = g → g ≤ 2 → 0 ≤ q → q + r ≤ 10 → τ.1 1014 76 = g → τ.1 1013 76 = x → τ.1 1010 76 = q → T6 d Q 53 [wO 1 76, wI i, wI x2, wI op, wI a, wI 0, wI k] [] τ = j3_tc false d 152 [wI op] (j3_up τ.1 1010 76 (q + r), τ.2.1, j3_up τ.2.2 1008 76 (psh (τ.2.2 1008 76) q (List.replicate r x))) (fun r σ1 => T6 d Q 74 [wO 1 76, wI i, wI x2, wI op, wI a, wI 0, wI g] (r.toList ++ []) σ1)
  | 0, k, q, τ, k0, hk, hg, q0, q1, h1, h2, h3 => by
    have : k = g := by omega
    subst this
    rw [b6_53, h1, if_neg (by omega)]
    have e1 : q + ((0 : Nat) : Int) = τ.1 1010 76 := by omega
    rw [e1, up_id]
    simp only [List.replicate_zero, psh]
    rw [up_id]
  | r + 1, k, q, τ, k0, hk, hg, q0, q1, h1, h2, h3 => by
    rw [b6_53, h1, if_pos (by omega), h3, h2]
    simp (disch := omega) only [wr_id]
    rw [l6a r (k + 1) (q + 1) _ (by omega) (by omega) hg (by omega) (by omega) (by simpa [j3_up] using h1) (by simpa [j3_up] using h2) (by simp [j3_up])]
    simp only [j3_ast, up_r, up_up, List.replicate_succ, psh]
    have c1 : (0 ≤ q ∧ q < 10) = True := by simp; omega
    simp only [c1, true_and]
    rw [show q + 1 + (r : Int) = q + ((r + 1 : Nat) : Int) by omega]
theorem s6 (hp : ¬ σ.2.1 0 = 0) (hC : CP σ (σ.2.1 0) P) (hW : WFp P) (hm : σ.1 1003 76 = m) (m0 : 0 ≤ m) (m1 : m < P 3001 0) (hnl : P 3017 m = nl) (i0 : 0 ≤ i) (i1 : i < P 0 m) (hop : P 1 (m * 120 + i) = op) (ha : P 2 (m * 120 + i) = a) (hb : P 3 (m * 120 + i) = b) (h0 : 0 ≤ F.1 i) (hF : FC σ nl F) (hok : Fok P nl F)
    (hQ : ∀ σ', frm [1004, 1010, 1012, 1013, 1014] [1005, 1006, 1007, 1008, 1009, 1011] σ σ' → ((look P m nl i op a b F).1 = 0 → FC σ' nl (look P m nl i op a b F).2.1 ∧ σ'.1 1004 76 = if (look P m nl i op a b F).2.2 = true then 1 else σ.1 1004 76) → Q (some (wI (look P m nl i op a b F).1)) σ') :
    j3_tc false (d + 5) 6 [wO 1 76, wI i] σ Q := by
  obtain ⟨hs, hmm, hFF, hM⟩ := id hW
  obtain ⟨q1, q2, q3, q4, q5, q6, q7⟩ := hM m m0 m1
  have hi := q7 i i0 i1
  rw [hop, ha, hb] at hi
  have hm2 := hmm.2.1
  have l0 : 0 ≤ nl := by have := q4.1; omega
  have l1 : nl ≤ 20 := by omega
  have i2 : i < 120 := by omega
  obtain ⟨o1, o2, o3⟩ := hok i i0 i2 h0
  obtain ⟨f1, f2⟩ := hF.2 i i0 i2 h0
  obtain ⟨c1, c2, c3⟩ := (hC.2.2.2 m m0 m1).2.2 i i0 i1
  have hj : isj op = true → 0 ≤ a ∧ a < P 0 m := fun h => hi.2.2.2.1 (isj_b h)
  have h2 : op = 2 → 0 ≤ a ∧ a < nl := fun h => by rw [← hnl]; exact hi.2.2.1 (Or.inl h)
  rw [e6, b6_0, hm]
  simp (disch := omega) only [wr_id]
  rw [c1, c2, hop, ha, show d + 4 = (d + 3) + 1 from rfl, s7 (n := F.1 i) (m := m) (nl := nl) hp hm m0 (by omega) ((hC.2.2.2 m m0 m1).1.2.2.2.2.2.1.trans hnl) l0 l1 i0 i2 (hF.1 i i0 i2) h0 o1]
  have cc : (0 ≤ m * 120 + i ∧ m * 120 + i < 9600) = True := by simp; omega
  simp only [cc, hp, not_false_eq_true, true_and, Option.toList_none, List.nil_append]
  -- the state taken
  generalize hσ1 : ((j3_up σ.1 1010 76 (F.1 i), σ.2.1, j3_up (j3_up σ.2.2 1008 76 (i_cp (σ.2.2 1006 76) (σ.2.2 1008 76) (i * 10) 0 (F.1 i))) 1009 76 (i_cp (σ.2.2 1007 76) (σ.2.2 1009 76) (i * 20) 0 nl)) : j3_S) = σ1
  have fr1 : frm [1004, 1010, 1012, 1013, 1014] [1005, 1006, 1007, 1008, 1009, 1011] σ σ1 := by
    rw [← hσ1]
    exact frm.I rfl (frm.A rfl (frm.A rfl frm.rf))
  have s1n : σ1.1 1010 76 = F.1 i := by rw [← hσ1]; simp [j3_up]
  have s14c : σ1.1 1004 76 = σ.1 1004 76 := by rw [← hσ1]; simp [j3_up]
  have s1s : agr (F.1 i) (F.2.1 i) (σ1.2.2 1008 76) := by
    intro k k0 k1
    have ee : σ1.2.2 1008 76 = i_cp (σ.2.2 1006 76) (σ.2.2 1008 76) (i * 10) 0 (F.1 i) := by rw [← hσ1]; simp [j3_up]
    rw [ee]
    simp only [i_cp]
    rw [if_pos (by omega), ← f1 k k0 k1, show k - 0 = k by omega]
  have s1l : agr nl (F.2.2 i) (σ1.2.2 1009 76) := by
    intro k k0 k1
    have ee : σ1.2.2 1009 76 = i_cp (σ.2.2 1007 76) (σ.2.2 1009 76) (i * 20) 0 nl := by rw [← hσ1]; simp [j3_up]
    rw [ee]
    simp only [i_cp]
    rw [if_pos (by omega), ← f2 k k0 k1, show k - 0 = k by omega]
  have s1F : FC σ1 nl F := by
    have e5 : σ1.2.2 1005 76 = σ.2.2 1005 76 := by rw [← hσ1]; simp [j3_up]
    have e6 : σ1.2.2 1006 76 = σ.2.2 1006 76 := by rw [← hσ1]; simp [j3_up]
    have e7 : σ1.2.2 1007 76 = σ.2.2 1007 76 := by rw [← hσ1]; simp [j3_up]
    unfold FC
    rw [e5, e6, e7]
    exact hF
  clear hσ1
  have hp1 : ¬ σ1.2.1 0 = 0 := by rw [fr1.1]; exact hp
  have hC1 : CP σ1 (σ1.2.1 0) P := by rw [fr1.1]; exact hC.fr fr1 ⟨rfl, rfl⟩ (la_ok rfl)
  have hm1 : σ1.1 1003 76 = m := (fr1.2.1 1003 76 rfl).trans hm
  obtain ⟨c1', c2', c3'⟩ := (hC1.2.2.2 m m0 m1).2.2 i i0 i1
  rw [b6_24, c3', hb]
  refine ⟨hp1, by omega, ?_⟩
  rw [show d + 3 + 1 = (d + 1) + 3 from rfl, s8 (m := m) hp1 hC1 hW hm1 m0 m1 hi]
  simp only [Option.toList_none, List.nil_append]
  have fr2 := ask_f (P := P) (m := m) (op := op) (a := a) (b := b) (σ := σ1)
  obtain ⟨w1, w2⟩ := ask_w (P := P) (m := m) (op := op) (a := a) (b := b) (σ := σ1)
  obtain ⟨g1', g2'⟩ := ask_g (P := P) (m := m) (op := op) (a := a) (b := b) (σ := σ1)
  obtain ⟨wl4, wlo⟩ := wl_o hW m0 m1 hi
  have gl := g1_l (P := P) (op := op) (a := a) (b := b) (la := σ1.2.2 1009 76 a)
  generalize hσ2 : askS P m op a b σ1 = σ2 at fr2 w1 w2 g1' g2' ⊢
  clear hσ2
  have hp2 : ¬ σ2.2.1 0 = 0 := by rw [fr2.1]; exact hp1
  have hC2 : CP σ2 (σ2.2.1 0) P := by rw [fr2.1]; exact hC1.fr fr2 ⟨rfl, rfl⟩ (la_ok rfl)
  have e8 : σ2.2.2 1008 76 = σ1.2.2 1008 76 := fr2.2.2 1008 76 rfl
  have e9 : σ2.2.2 1009 76 = σ1.2.2 1009 76 := fr2.2.2 1009 76 rfl
  have s2n : σ2.1 1010 76 = F.1 i := (fr2.2.1 1010 76 rfl).trans s1n
  have s2c : σ2.1 1004 76 = σ.1 1004 76 := (fr2.2.1 1004 76 rfl).trans s14c
  have s2F : FC σ2 nl F := by
    unfold FC
    rw [fr2.2.2 1005 76 rfl, fr2.2.2 1006 76 rfl, fr2.2.2 1007 76 rfl]
    exact s1F
  have frA : frm [1004, 1010, 1012, 1013, 1014] [1005, 1006, 1007, 1008, 1009, 1011] σ σ2 := fr1.tr (fr2.wd (sub_el rfl) (sub_el rfl))
  rw [← e9] at g1' g2' gl s1l
  rw [← e8] at s1s
  have hts : tys P (F.1 i) (σ2.2.2 1008 76) := fun k k0 k1 => by rw [← s1s k k0 k1]; exact o2 k k0 k1
  have htl : tys P nl (σ2.2.2 1009 76) := fun k k0 k1 => by rw [← s1l k k0 k1]; exact o3 k k0 k1
  have ex := exf_c (P := P) (m := m) (b := b) s1s s1l h2
  rw [b6_34, show d + 1 + 3 = (d + 1) + 3 from rfl, s13 (w := wl P m op a b) (n := F.1 i) (g := (g1 P op a b (σ2.2.2 1009 76 a)).length) hp2 hC2 hs w1 wl4 (fun k hk => ⟨w2 k hk, wlo _ (getD_m hk)⟩) s2n h0 o1 hts (fun h => by rcases h with rfl | rfl <;> simp [wl]) g1' (by omega) (by omega)]
  -- the fault
  by_cases gE : exf P m op a b (F.1 i) (F.2.1 i) (F.2.2 i) = 0
  · obtain ⟨z1, z2, z3, z4⟩ := exf0 (ex.symm.trans gE)
    have elk : look P m nl i op a b F = ar2 P m nl i op a F (exn P m op a b (F.1 i) (F.2.1 i) (F.2.2 i)) (exs P m op a b (F.1 i) (F.2.1 i) (F.2.2 i)) (exl P m op a b (F.1 i) (F.2.1 i) (F.2.2 i)) := by
      unfold look
      rw [if_pos gE]
    rw [elk] at hQ
    have en := exn_c (P := P) (m := m) (b := b) z1 s1s s1l h2
    have es := exs_c (P := P) (m := m) (b := b) z1 s1s s1l h2
    have el := exl_c (P := P) (m := m) (op := op) (a := a) (b := b) z1 s1s s1l
    have to := exs_o hW hi hnl.symm z1 hts htl
    have tl := exl_o (P := P) (m := m) (op := op) (a := a) (b := b) z1 hts htl
    rw [en] at es hQ
    have z3' : ¬ (op = 2 ∧ σ2.1 1013 76 = 0) := fun q => z3 ⟨q.1, by
      rw [← q.2, g2', q.1]
      simp [g1]⟩
    -- one end for all
    have fin : ∀ (τ : j3_S) (x g : Int), frm [1004, 1010, 1012, 1013, 1014] [1005, 1006, 1007, 1008, 1009, 1011] σ τ → τ.2.1 = σ2.2.1 → τ.1 1003 76 = m → τ.1 1004 76 = σ.1 1004 76 → FC τ nl F → CP τ (τ.2.1 0) P → τ.1 1010 76 = F.1 i - (wl P m op a b).length → τ.1 1013 76 = x → τ.1 1014 76 = g → 0 ≤ g → g ≤ 2 → gx P op a b (σ2.2.2 1008 76) (σ2.2.2 1009 76) (F.1 i - (wl P m op a b).length) = List.replicate g.toNat x → τ.2.2 1008 76 = σ2.2.2 1008 76 → τ.2.2 1009 76 = exl P m op a b (F.1 i) (σ2.2.2 1008 76) (σ2.2.2 1009 76) → T6 (d + 4) Q 51 [wO 1 76, wI i, wI (m * 120 + i), wI op, wI a, wI 0, wM 2] [] τ := by
      intro τ x g t0 t1 t2 t3 t4 t5 t6 t7 t8 t9 t10 t11 t12 t13
      have hgl : (gx P op a b (σ2.2.2 1008 76) (σ2.2.2 1009 76) (F.1 i - (wl P m op a b).length)).length = g.toNat := by rw [t11, List.length_replicate]
      have e1 : exn P m op a b (F.1 i) (σ2.2.2 1008 76) (σ2.2.2 1009 76) = F.1 i - (wl P m op a b).length + (g.toNat : Int) := by unfold exn; rw [hgl]
      have e2 : exs P m op a b (F.1 i) (σ2.2.2 1008 76) (σ2.2.2 1009 76) = psh (τ.2.2 1008 76) (F.1 i - (wl P m op a b).length) (List.replicate g.toNat x) := by unfold exs; rw [t11, t12]
      rw [b6_51, l6a (x := x) (g := g) g.toNat 0 (F.1 i - (wl P m op a b).length) τ (by omega) (by omega) t10 (by omega) (by omega) t8 t7 t6, ← e1, ← e2]
      have fr3 : frm [1004, 1010, 1012, 1013, 1014] [1005, 1006, 1007, 1008, 1009, 1011] τ ((j3_up τ.1 1010 76 (exn P m op a b (F.1 i) (σ2.2.2 1008 76) (σ2.2.2 1009 76)), τ.2.1, j3_up τ.2.2 1008 76 (exs P m op a b (F.1 i) (σ2.2.2 1008 76) (σ2.2.2 1009 76))) : j3_S) := frm.I rfl (frm.A rfl frm.rf)
      have k8 : j3_up τ.2.2 1008 76 (exs P m op a b (F.1 i) (σ2.2.2 1008 76) (σ2.2.2 1009 76)) 1008 76 = exs P m op a b (F.1 i) (σ2.2.2 1008 76) (σ2.2.2 1009 76) := up_r
      have k9 : j3_up τ.2.2 1008 76 (exs P m op a b (F.1 i) (σ2.2.2 1008 76) (σ2.2.2 1009 76)) 1009 76 = exl P m op a b (F.1 i) (σ2.2.2 1008 76) (σ2.2.2 1009 76) := up_x rfl t13
      obtain ⟨u1, u2⟩ := ar2_c (P := P) (m := m) (i := i) (op := op) (a := a) (F := F) (G := F) Feq.rf es el i0 q6.2 hj
      refine l6b (P := P) (F := F) (n := exn P m op a b (F.1 i) (σ2.2.2 1008 76) (σ2.2.2 1009 76)) (m := m) (nl := nl) (a := a) (by rw [t1]; exact hp2) ?_ hW (by simpa [j3_up] using t2) m0 m1 hnl i0 i1 (by simp [j3_up]) (by omega) z4 hj ?_ hok ?_ ?_ (fun σ' hf' hst' => ?_)
      · exact t5.fr fr3 ⟨rfl, rfl⟩ (la_ok rfl)
      · unfold FC
        simp only [up_e (show ((1005 : Nat) == 1008) = false from rfl), up_e (show ((1006 : Nat) == 1008) = false from rfl), up_e (show ((1007 : Nat) == 1008) = false from rfl)]
        exact t4
      · simp only [k8]
        exact to
      · simp only [k9]
        exact tl
      · simp only [k8, k9] at hst' ⊢
        rw [← u1] at hst' ⊢
        refine hQ σ' (t0.tr (fr3.tr (hf'.wd (sub_el rfl) (sub_el rfl)))) (fun hz => ?_)
        obtain ⟨v1, v2⟩ := u2 hz
        obtain ⟨y1, y2⟩ := hst' hz
        refine ⟨FC_c ?_ y1, ?_⟩
        · refine ⟨fun i => (v1.1 i).symm, fun i i0 i1 hi => ?_⟩
          rw [← v1.1 i] at hi
          have := v1.2 i i0 i1 hi
          rw [← v1.1 i]
          exact ⟨this.1.sy, this.2.sy⟩
        · rw [y2, v2]
          have : j3_up τ.1 1010 76 (exn P m op a b (F.1 i) (σ2.2.2 1008 76) (σ2.2.2 1009 76)) 1004 76 = σ.1 1004 76 := up_x rfl t3
          rw [this]
    rw [if_neg z1, if_neg (by rw [z2]; simp), if_neg z3']
    by_cases g35 : op = 3 ∨ op = 5
    · rw [if_pos g35]
      have hw1 : (wl P m op a b).length = 1 := by rcases g35 with rfl | rfl <;> simp [wl]
      have hg2 : ¬ 10 < F.1 i - (wl P m op a b).length + (if op = 5 then 2 else 0) := by
        have := z4
        unfold exn gx at this
        by_cases g5 : op = 5
        · rw [if_pos g5] at this ⊢
          simp at this
          omega
        · rw [if_neg g5]
          omega
      rw [if_neg hg2]
      simp only [Option.toList_some, List.cons_append, List.nil_append]
      rw [b6_37, if_pos rfl]
      by_cases g3 : op = 3
      · have h3a := hi.2.2.1 (Or.inr g3)
        rw [if_pos g3]
        refine ⟨by omega, fin _ (σ2.2.2 1008 76 (F.1 i - (wl P m op a b).length)) 0 (frA.tr (frm.I rfl (frm.I rfl (frm.I rfl (frm.A rfl frm.rf))))) rfl ?_ ?_ ?_ ?_ ?_ ?_ ?_ (by omega) (by omega) ?_ ?_ ?_⟩
        · simpa [j3_up, qS] using (fr2.2.1 1003 76 rfl).trans hm1
        · simpa [j3_up, qS] using s2c
        · unfold FC
          simp only [j3_ast, up_e (show ((1005 : Nat) == 1009) = false from rfl), up_e (show ((1006 : Nat) == 1009) = false from rfl), up_e (show ((1007 : Nat) == 1009) = false from rfl)]
          exact s2F
        · exact hC2.fr (li := [1004, 1010, 1012, 1013, 1014]) (la := [1005, 1006, 1007, 1008, 1009, 1011]) (frm.I rfl (frm.I rfl (frm.I rfl (frm.A rfl frm.rf)))) ⟨rfl, rfl⟩ (la_ok rfl)
        · simp [j3_up, qS]
        · simp [j3_up, qS]
        · rw [show (if op = 5 then (2 : Int) else 0) = 0 by rw [if_neg (by omega)]]
          simp [j3_up, qS]
        · unfold gx
          rw [if_neg (by omega)]
          subst g3
          simp [g1]
        · simp [j3_ast, j3_up]
        · show j3_ast σ2.2.2 1009 76 a _ 1009 76 = _
          unfold exl
          rw [if_pos g3]
          simp only [j3_ast, up_r]
          congr 1
      · have g5 : op = 5 := by omega
        rw [if_neg g3]
        refine fin _ (σ2.2.2 1008 76 (F.1 i - (wl P m op a b).length)) 2 (frA.tr (frm.I rfl (frm.I rfl (frm.I rfl frm.rf)))) rfl ?_ ?_ s2F ?_ ?_ ?_ ?_ (by omega) (by omega) ?_ rfl ?_
        · simpa [j3_up, qS] using (fr2.2.1 1003 76 rfl).trans hm1
        · simpa [j3_up, qS] using s2c
        · exact hC2.fr (li := [1004, 1010, 1012, 1013, 1014]) (la := [1005, 1006, 1007, 1008, 1009, 1011]) (frm.I rfl (frm.I rfl (frm.I rfl frm.rf))) ⟨rfl, rfl⟩ (la_ok rfl)
        · simp [j3_up, qS]
        · simp [j3_up, qS]
        · rw [show (if op = 5 then (2 : Int) else 0) = 2 by rw [if_pos g5]]
          simp [j3_up, qS]
        · unfold gx
          rw [if_pos g5]
          rfl
        · unfold exl
          rw [if_neg g3]
    · rw [if_neg g35]
      have hgx : gx P op a b (σ2.2.2 1008 76) (σ2.2.2 1009 76) (F.1 i - (wl P m op a b).length) = g1 P op a b (σ2.2.2 1009 76 a) := by
        unfold gx
        rw [if_neg (by omega)]
      have hg2 : ¬ 10 < F.1 i - (wl P m op a b).length + ((g1 P op a b (σ2.2.2 1009 76 a)).length : Int) := by
        have := z4
        unfold exn at this
        rw [hgx] at this
        omega
      rw [if_neg hg2]
      simp only [Option.toList_some, List.cons_append, List.nil_append]
      rw [b6_37, if_pos rfl, if_neg (by omega)]
      refine fin _ ((g1 P op a b (σ2.2.2 1009 76 a)).headD 0) (g1 P op a b (σ2.2.2 1009 76 a)).length (frA.tr qS_f) rfl ?_ ?_ s2F ?_ qS_1 ((qS_e rfl).trans g2') ((qS_e rfl).trans g1') (by omega) (by omega) ?_ rfl ?_
      · exact (qS_e rfl).trans ((fr2.2.1 1003 76 rfl).trans hm1)
      · exact (qS_e rfl).trans s2c
      · exact hC2.fr qS_f ⟨rfl, rfl⟩ (la_ok rfl)
      · rw [hgx, show ((g1 P op a b (σ2.2.2 1009 76 a)).length : Int).toNat = (g1 P op a b (σ2.2.2 1009 76 a)).length by omega]
        exact (rep1 gl).symm
      · unfold exl
        rw [if_neg (by omega)]
        rfl
  · have elk : look P m nl i op a b F = (exf P m op a b (F.1 i) (σ2.2.2 1008 76) (σ2.2.2 1009 76), F, false) := by
      unfold look
      rw [if_neg gE, ex]
    rw [ex] at gE
    rw [elk] at hQ
    have fin : ∀ (τ : j3_S) (v : Int), frm [1004, 1010, 1012, 1013, 1014] [1005, 1006, 1007, 1008, 1009, 1011] σ τ → exf P m op a b (F.1 i) (σ2.2.2 1008 76) (σ2.2.2 1009 76) = v → ¬ v = 0 → T6 (d + 4) Q 37 [wO 1 76, wI i, wI (m * 120 + i), wI op, wI a, wM 2, wM 2] ((some (wI v)).toList ++ []) τ := by
      intro τ v hf hv hv0
      simp only [Option.toList_some, List.cons_append, List.nil_append]
      rw [b6_37, if_neg hv0]
      rw [hv] at hQ
      exact hQ τ hf (fun h => absurd h hv0)
    have exd : exf P m op a b (F.1 i) (σ2.2.2 1008 76) (σ2.2.2 1009 76) = if F.1 i < (wl P m op a b).length then 3 else if af P (σ2.2.2 1008 76) (wl P m op a b) (F.1 i - (wl P m op a b).length) (wl P m op a b).length = false then 4 else if op = 2 ∧ σ2.2.2 1009 76 a = 0 then 4 else if 10 < F.1 i - (wl P m op a b).length + (gx P op a b (σ2.2.2 1008 76) (σ2.2.2 1009 76) (F.1 i - (wl P m op a b).length)).length then 5 else 0 := rfl
    have h2c : (op = 2 ∧ σ2.1 1013 76 = 0) ↔ (op = 2 ∧ σ2.2.2 1009 76 a = 0) := by
      refine ⟨fun q => ⟨q.1, ?_⟩, fun q => ⟨q.1, ?_⟩⟩
      · rw [← q.2, g2', q.1]; simp [g1]
      · rw [g2', ← q.2, q.1]; simp [g1]
    by_cases y1 : F.1 i < (wl P m op a b).length
    · rw [if_pos y1] at exd ⊢
      exact fin _ 3 frA exd (by decide)
    rw [if_neg y1] at exd ⊢
    by_cases y2 : af P (σ2.2.2 1008 76) (wl P m op a b) (F.1 i - (wl P m op a b).length) (wl P m op a b).length = false
    · rw [if_pos y2] at exd ⊢
      exact fin _ 4 (frA.tr qS_f) exd (by decide)
    rw [if_neg y2] at exd ⊢
    by_cases y3 : op = 2 ∧ σ2.2.2 1009 76 a = 0
    · rw [if_pos y3] at exd
      rw [if_pos (h2c.mpr y3)]
      exact fin _ 4 (frA.tr qS_f) exd (by decide)
    rw [if_neg y3] at exd
    rw [if_neg (fun q => y3 (h2c.mp q))]
    by_cases y4 : 10 < F.1 i - (wl P m op a b).length + (gx P op a b (σ2.2.2 1008 76) (σ2.2.2 1009 76) (F.1 i - (wl P m op a b).length)).length
    · rw [if_pos y4] at exd
      by_cases g35 : op = 3 ∨ op = 5
      · rw [if_pos g35]
        have hw1 : (wl P m op a b).length = 1 := by rcases g35 with rfl | rfl <;> simp [wl]
        by_cases g5 : op = 5
        · unfold gx at y4
          rw [if_pos g5] at y4
          rw [if_pos g5, if_pos (by simp at y4; omega)]
          exact fin _ 5 (frA.tr (frm.I rfl (frm.I rfl (frm.I rfl frm.rf)))) exd (by decide)
        · exfalso
          have g3 : op = 3 := by omega
          unfold gx at y4
          rw [if_neg g5, g3] at y4
          simp [g1, wl] at y4
          omega
      · rw [if_neg g35]
        unfold gx at y4
        rw [if_neg (by omega)] at y4
        rw [if_pos y4]
        exact fin _ 5 (frA.tr qS_f) exd (by decide)
    · rw [if_neg y4] at exd
      exact absurd exd gE
end LOOK4
