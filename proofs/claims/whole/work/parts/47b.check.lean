section CHK
variable {d : Nat} {Q : j3_P} {P : Pg} {m nl i : Int} {σ : j3_S} {F : Fl}
theorem c38 (hW : WFp P) (m0 : 0 ≤ m) (m1 : m < P 3001 0) : ∀ (r : Nat) (k : Int) (σ : j3_S), ¬ σ.2.1 0 = 0 → CP σ (σ.2.1 0) P → σ.1 1003 76 = m → 0 ≤ k → k + r = P 3015 m → (∀ z, 0 ≤ z → z < rcv P m + k → σ.2.2 1007 76 z = ini P m z) → (∀ z, rcv P m + k ≤ z → z < 20 → σ.2.2 1007 76 z = 0) →
    (∀ σ', frm [] [1005, 1007] σ σ' → (∀ j, σ'.2.2 1005 76 j = σ.2.2 1005 76 j) → (∀ z, 0 ≤ z → z < 20 → σ'.2.2 1007 76 z = ini P m z) → Q none σ') → T5 (d + 1) Q 38 [wO 1 76, wI (rcv P m), wI k] [] σ
  | 0, k, σ, hp, hC, hm, k0, hk, h1, h2, h => by
    have hm2 := hW.2.1.2.1
    obtain ⟨-, -, -, q4, q5, -⟩ := hW.2.2.2 m m0 m1
    have hr := rcv_01 (P := P) (m := m)
    rw [b5_38, hm, (hC.2.2.2 m m0 m1).1.2.2.2.2.1, if_neg (by omega)]
    refine ⟨hp, by omega, h σ frm.rf (fun _ => rfl) (fun z z0 z1 => ?_)⟩
    by_cases g : z < rcv P m + k
    · exact h1 z z0 g
    · rw [h2 z (by omega) z1]
      unfold ini
      rw [if_neg (by omega), if_neg (by omega)]
  | r + 1, k, σ, hp, hC, hm, k0, hk, h1, h2, h => by
    have hm2 := hW.2.1.2.1
    have hn := hW.1.2.1
    obtain ⟨-, -, -, q4, q5, -⟩ := hW.2.2.2 m m0 m1
    have hr := rcv_01 (P := P) (m := m)
    have hk3 := q4.2.2 k k0 (by omega)
    rw [b5_38, hm, (hC.2.2.2 m m0 m1).1.2.2.2.2.1, if_pos (by omega), s53 hC hm2 m0 m1 k0 (by omega) (by omega) (by omega) (by omega)]
    simp only [Option.toList_some, List.cons_append, List.nil_append]
    rw [b5_57]
    simp (disch := omega) only [wr_id]
    have f1 : frm [] [1005, 1007] σ (σ.1, σ.2.1, j3_ast σ.2.2 1007 76 (rcv P m + k) (tyof (P 3016 (m * 3 + k)))) := frm.A rfl frm.rf
    refine ⟨hp, by omega, hp, by omega, c38 hW m0 m1 r (k + 1) _ hp (hC.fr f1 ⟨rfl, rfl⟩ (la_ok rfl)) hm (by omega) (by omega) (fun z z0 z1 => ?_) (fun z z0 z1 => ?_) (fun σ' hf g1 g2 => h σ' (f1.tr hf) (fun j => ?_) g2)⟩
    · simp only [j3_ast, up_r]
      by_cases g : z = rcv P m + k
      · subst g
        rw [iu_r]
        unfold ini
        rw [if_neg (by omega), if_pos (by omega), show rcv P m + k - rcv P m = k by omega]
      · rw [iu_n g]
        exact h1 z z0 (by omega)
    · simp only [j3_ast, up_r]
      rw [iu_n (by omega)]
      exact h2 z (by omega) z1
    · rw [g1 j]
      simp only [j3_ast, up_e (show ((1005 : Nat) == 1007) = false from rfl)]
theorem s5 (hp : ¬ σ.2.1 0 = 0) (hC : CP σ (σ.2.1 0) P) (hW : WFp P) (hm : σ.1 1003 76 = m) (m0 : 0 ≤ m) (m1 : m < P 3001 0) (hnl : P 3017 m = nl) (hQ : ∀ σ', frm [] [1005, 1007] σ σ' → FC σ' nl (Fi P m) → Q none σ') : j3_tc false (d + 3) 5 [wO 1 76] σ Q := by
  have hm2 := hW.2.1.2.1
  have hn := hW.1.2.1
  obtain ⟨q1, -, -, q4, q5, -⟩ := hW.2.2.2 m m0 m1
  have hr := rcv_01 (P := P) (m := m)
  rw [e5, b5_0, s248 (n := 120) rfl rfl rfl (by omega)]
  simp only [Option.toList_none, List.nil_append]
  rw [b5_4, s249 (n := 2400) rfl rfl rfl (by omega) (by omega) (by omega) (by omega)]
  simp only [Option.toList_none, List.nil_append, up_e (show ((1007 : Nat) == 1005) = false from rfl)]
  rw [b5_10]
  refine ⟨by omega, hp, ?_⟩
  simp only [j3_ast, up_e (show ((1005 : Nat) == 1007) = false from rfl), up_r]
  generalize hσ1 : ((σ.1, σ.2.1, j3_up (j3_up (j3_up σ.2.2 1005 76 (i_fl (σ.2.2 1005 76) 0 120 (-1))) 1007 76 (i_fl (σ.2.2 1007 76) 0 20 0)) 1005 76 (i_up (i_fl (σ.2.2 1005 76) 0 120 (-1)) 0 0)) : j3_S) = σ1
  have f1 : frm [] [1005, 1007] σ σ1 := by rw [← hσ1]; exact frm.A rfl (frm.A rfl (frm.A rfl frm.rf))
  have h5 : ∀ j, 0 ≤ j → j < 120 → σ1.2.2 1005 76 j = (Fi P m).1 j := by
    intro j j0 j1
    rw [← hσ1]
    simp only [up_r, i_up, i_fl, Fi]
    by_cases g : j = 0
    · rw [if_pos g, if_pos g]
    · rw [if_neg g, if_neg g, if_pos (by omega)]
  have h7 : ∀ z, 0 ≤ z → z < 20 → σ1.2.2 1007 76 z = 0 := by
    intro z z0 z1
    rw [← hσ1]
    simp only [up_r, up_e (show ((1007 : Nat) == 1005) = false from rfl), i_fl]
    rw [if_pos (by omega)]
  have hC1 := hC.fr f1 ⟨rfl, rfl⟩ (la_ok rfl)
  have hm1 : σ1.1 1003 76 = m := (f1.2.1 1003 76 rfl).trans hm
  have fin : ∀ σ', frm [] [1005, 1007] σ1 σ' → (∀ j, σ'.2.2 1005 76 j = σ1.2.2 1005 76 j) → (∀ z, 0 ≤ z → z < 20 → σ'.2.2 1007 76 z = ini P m z) → Q none σ' := by
    intro σ' hf g1 g2
    refine hQ σ' (f1.tr hf) ⟨fun j j0 j1 => (g1 j).trans (h5 j j0 j1), fun j j0 j1 hj => ?_⟩
    by_cases g : j = 0
    · subst g
      refine ⟨fun k k0 k1 => ?_, fun x x0 x1 => ?_⟩
      · simp [Fi] at k1
        omega
      · rw [show (0 : Int) * 20 + x = x by omega]
        exact g2 x x0 (by omega)
    · simp [Fi, g] at hj
  rw [hm, s51 hC1 hm2 m0 m1]
  simp only [Option.toList_some, List.cons_append, List.nil_append]
  rw [b5_20]
  by_cases g : P 3013 m = 0
  · have er : rcv P m = 1 := by unfold rcv; rw [if_pos g]
    rw [if_pos g, if_pos rfl, f1.1, hm1, (hC1.2.2.2 m m0 m1).1.1, wr_id (by omega) (by omega)]
    refine ⟨hp, by omega, by omega, ?_⟩
    rw [b5_36]
    have f2 : frm [] [1005, 1007] σ1 (σ1.1, σ.2.1, j3_ast σ1.2.2 1007 76 0 (4 + P 3011 m)) := by
      rw [← f1.1]
      exact frm.A rfl frm.rf
    have := c38 (d := d + 1) (Q := Q) hW m0 m1 (P 3015 m).toNat 0 (σ1.1, σ.2.1, j3_ast σ1.2.2 1007 76 0 (4 + P 3011 m)) hp (hC1.fr f2 ⟨rfl, rfl⟩ (la_ok rfl)) hm1 (by omega) (by omega) (fun z z0 z1 => ?_) (fun z z0 z1 => ?_) (fun σ' hf g1 g2 => fin σ' (f2.tr hf) (fun j => (g1 j).trans (by simp only [j3_ast, up_e (show ((1005 : Nat) == 1007) = false from rfl)])) g2)
    · rw [er] at this
      exact this
    · have : z = 0 := by omega
      subst this
      simp only [j3_ast, up_r, iu_r]
      unfold ini
      rw [if_pos (by omega)]
    · simp only [j3_ast, up_r]
      rw [iu_n (by omega)]
      exact h7 z (by omega) z1
  · have er : rcv P m = 0 := by unfold rcv; rw [if_neg g]
    rw [if_neg g, if_neg (by decide), b5_36]
    have := c38 (d := d + 1) (Q := Q) hW m0 m1 (P 3015 m).toNat 0 σ1 (by rw [f1.1]; exact hp) (by rw [f1.1]; exact hC1) hm1 (by omega) (by omega) (fun z z0 z1 => absurd z1 (by omega)) (fun z z0 z1 => h7 z (by omega) z1) fin
    rw [er] at this
    exact this
/-- the rounds of the class -/
theorem c18 {o1 : Nat} {x2 : Int} (hW : WFp P) (m0 : 0 ≤ m) (m1 : m < P 3001 0) (hnl : P 3017 m = nl) : ∀ (n : Nat) (x4 : Int) (F : Fl) (w5 : j3_W) (σ : j3_S) (R : Int × Int × Fl), itr P m nl n F = some R → ¬ σ.2.1 0 = 0 → CP σ (σ.2.1 0) P → σ.1 1003 76 = m → 0 ≤ x4 → x4 + n ≤ 1000000 → FC σ nl F → Fok P nl F → σ.1 1001 76 = 0 →
    (∀ σ' x3 x4 w5, frm flI flA σ σ' → σ'.1 1001 76 = R.1 → (¬ R.1 = 0 → σ'.1 1000 76 = R.2.1) → (R.1 = 0 → FC σ' nl R.2.2) → T2 (d + 5) Q 67 [wO 1 76, wO 3 o1, wI x2, wI x3, wI x4, w5] [] σ') →
    T2 (d + 5) Q 18 [wO 1 76, wO 3 o1, wI x2, wI 1, wI x4, w5] [] σ
  | 0, x4, F, w5, σ, R, he, _, _, _, _, _, _, _, _, _ => by cases he
  | n + 1, x4, F, w5, σ, R, he, hp, hC, hm, h0, h1, hF, hok, hb, h => by
    obtain ⟨-, -, -, -, -, q6, -⟩ := hW.2.2.2 m m0 m1
    rw [b2_18, if_pos (by omega), if_neg (by decide)]
    refine ⟨Or.inl rfl, ?_⟩
    have f1 : frm flI flA σ (j3_up σ.1 1004 76 0, σ.2.1, σ.2.2) := frm.I rfl frm.rf
    refine c28 hW m0 m1 hnl (P 0 m).toNat 0 F false _ hp (hC.fl f1) ((f1.2.1 1003 76 rfl).trans hm) (by omega) (by omega) hF hok (by simp only [up_r]; rfl) (by simp only [up_e (show ((1001 : Nat) == 1004) = false from rfl)]; exact hb) (fun σ1 x5 fr1 k1 k2 k3 => ?_)
    have hr := rnd_ok hW m0 m1 hnl (P 0 m).toNat 0 F false (by omega) (by omega) hok
    simp only [itr] at he
    generalize rnd P m nl (P 0 m).toNat 0 F false = Z at he k1 k2 k3 hr
    have fA := f1.tr fr1
    rw [b2_55, k1]
    by_cases g : Z.1 = 0
    · rw [if_pos g] at he
      obtain ⟨k4, k5⟩ := k3 g
      by_cases g2 : Z.2.2.2 = true
      · rw [if_pos g2] at he
        rw [k5, g2, if_neg (by decide), if_pos g, b2_64, wr_id (by omega) (by omega)]
        exact c18 hW m0 m1 hnl n (x4 + 1) _ _ σ1 R he (fr_p hp fA) (hC.flp fA) ((fA.2.1 1003 76 rfl).trans hm) (by omega) (by omega) k4 hr (k1.trans g) (fun σ' x3 x4 w5 hf => h σ' x3 x4 w5 (fA.tr hf))
      · rw [if_neg g2] at he
        have he := Option.some.inj he
        subst he
        rw [k5, show Z.2.2.2 = false by simpa using g2, if_pos (show b2i false = 0 from rfl), b2_63, b2_64, wr_id (by omega) (by omega), b2_18]
        have := h σ1 0 (x4 + 1) (wI x5) fA (k1.trans g) (fun q => absurd rfl q) (fun _ => k4)
        split
        · rw [if_pos rfl]
          exact this
        · exact this
    · rw [if_neg g] at he
      have he := Option.some.inj he
      subst he
      have := h σ1 0 (x4 + 1) (wI x5) fA k1 k2 (fun q => absurd q g)
      have t63 : T2 (d + 5) Q 63 [wO 1 76, wO 3 o1, wI x2, wI 1, wI x4, wI x5] [] σ1 := by
        rw [b2_63, b2_64, wr_id (by omega) (by omega), b2_18]
        split
        · rw [if_pos rfl]
          exact this
        · exact this
      rw [if_neg g]
      split
      · exact t63
      · exact t63
/-- what a check may change: the flow's own, heights of that program -/
def ckF (o : Nat) (σ σ' : j3_S) : Prop := (∀ j, ¬ j = 0 → σ'.2.1 j = σ.2.1 j) ∧ (∀ e o, [1000, 1001, 1003, 1004, 1010, 1012, 1013, 1014].elem e = false → σ'.1 e o = σ.1 e o) ∧ (∀ e o, [4, 1005, 1006, 1007, 1008, 1009, 1011].elem e = false → σ'.2.2 e o = σ.2.2 e o) ∧ ∀ o', ¬ o' = o + 17 → σ'.2.2 4 o' = σ.2.2 4 o'
theorem ckF.CP {o o' : Nat} {σ' : j3_S} (h : ckF o σ σ') (hC : CP σ o' P) : CP σ' o' P := by
  have f : frm [1000, 1001, 1003, 1004, 1010, 1012, 1013, 1014] [4, 1005, 1006, 1007, 1008, 1009, 1011] σ (σ'.1, σ.2.1, σ'.2.2) := ⟨rfl, h.2.1, h.2.2.1⟩
  have h2 := hC.fr f ⟨rfl, rfl⟩ ⟨fun e he => by
    rcases (show e = 0 ∨ e = 1 ∨ e = 2 ∨ e = 3 by omega) with rfl | rfl | rfl | rfl <;> rfl, fun e h1 h2 => by
    cases hb : [4, 1005, 1006, 1007, 1008, 1009, 1011].elem e
    · rfl
    · simp at hb
      omega⟩
  exact h2
theorem s2 {o : Nat} {n : Nat} {R : Int × Int × Fl} (ho : ¬ o = 0) (hC : CP σ o P) (hW : WFp P) (m0 : 0 ≤ m) (m1 : m < P 3001 0) (hnl : P 3017 m = nl) (hn : n ≤ 1000000) (hR : itr P m nl n (Fi P m) = some R)
    (hQ : ∀ σ', ckF o σ σ' → (¬ R.1 = 0 → σ'.1 1000 76 = R.2.1) → (R.1 = 0 → FC σ' nl R.2.2 ∧ (∀ j, 0 ≤ j → j < P 0 m → σ'.2.2 4 (o + 17) (m * 120 + j) = R.2.2.1 j) ∧ ∀ z, z < m * 120 ∨ m * 120 + P 0 m ≤ z → σ'.2.2 4 (o + 17) z = σ.2.2 4 (o + 17) z) → Q (some (wI R.1)) σ') :
    j3_tc false (d + 6) 2 [wO 1 76, wO 3 o, wI m] σ Q := by
  have hm2 := hW.2.1.2.1
  obtain ⟨-, -, -, -, -, q6, -⟩ := hW.2.2.2 m m0 m1
  rw [e2, b2_0]
  generalize hσ1 : ((j3_up (j3_up (j3_up σ.1 1003 76 m) 1001 76 0) 1000 76 (-1), j3_upP σ.2.1 0 o, σ.2.2) : j3_S) = σ1
  have p1 : σ1.2.1 0 = o := by rw [← hσ1]; rfl
  have pj : ∀ j, ¬ j = 0 → σ1.2.1 j = σ.2.1 j := by
    intro j hj
    rw [← hσ1]
    have : (j == 0) = false := by simp [hj]
    show (bif j == 0 then o else σ.2.1 j) = _
    rw [this]
    rfl
  have i1 : ∀ e o, [1000, 1001, 1003].elem e = false → σ1.1 e o = σ.1 e o := by
    intro e o' he
    rw [← hσ1]
    exact (frm.I rfl (frm.I rfl (frm.I rfl frm.rf)) : frm [1000, 1001, 1003] [] σ (j3_up (j3_up (j3_up σ.1 1003 76 m) 1001 76 0) 1000 76 (-1), σ.2.1, σ.2.2)).2.1 e o' he
  have a1 : σ1.2.2 = σ.2.2 := by rw [← hσ1]
  have hC1 : CP σ1 o P := by
    have h := hC.fr (frm.I rfl (frm.I rfl (frm.I rfl frm.rf)) : frm [1000, 1001, 1003] [] σ (j3_up (j3_up (j3_up σ.1 1003 76 m) 1001 76 0) 1000 76 (-1), σ.2.1, σ.2.2)) ⟨rfl, rfl⟩ (la_ok (la := []) rfl)
    rw [← hσ1]
    exact h
  have m1' : σ1.1 1003 76 = m := by rw [← hσ1]; simp [j3_up]
  have b1 : σ1.1 1001 76 = 0 := by rw [← hσ1]; simp [j3_up]
  refine s5 (d := d + 2) (m := m) (nl := nl) (by rw [p1]; exact ho) (by rw [p1]; exact hC1) hW m1' m0 m1 hnl (fun σ2 f2 hF2 => ?_)
  simp only [Option.toList_none, List.nil_append]
  rw [b2_14]
  have p2 : σ2.2.1 0 = o := by rw [f2.1]; exact p1
  refine c18 hW m0 m1 hnl n 0 (Fi P m) _ σ2 R hR (by rw [p2]; exact ho) (by rw [p2]; exact hC1.fr f2 ⟨rfl, rfl⟩ (la_ok rfl)) ((f2.2.1 1003 76 rfl).trans m1') (by omega) (by omega) hF2 (Fi_ok hW m0 m1) ((f2.2.1 1001 76 rfl).trans b1) (fun σ3 x3 x4 w5 f3 k1 k2 k3 => ?_)
  have p3 : σ3.2.1 0 = o := by rw [f3.1]; exact p2
  have m3 : σ3.1 1003 76 = m := (f3.2.1 1003 76 rfl).trans ((f2.2.1 1003 76 rfl).trans m1')
  have hC3 : CP σ3 o P := (hC1.fr f2 ⟨rfl, rfl⟩ (la_ok rfl)).fl f3
  have l3 := (hC3.2.2.2 m m0 m1).1.2.2.2.2.2.2
  rw [b2_67, p3, m3, l3, k1, wr_id (by omega) (by omega)]
  refine ⟨ho, ho, by omega, by omega, ?_⟩
  have h4 : σ3.2.2 4 = σ.2.2 4 := by
    funext o'
    rw [f3.2.2 4 o' rfl, f2.2.2 4 o' rfl, a1]
  simp only [j3_acp]
  refine hQ _ ⟨fun j hj => ?_, fun e o' he => ?_, fun e o' he => ?_, fun o' ho' => ?_⟩ k2 (fun h => ⟨⟨fun j j0 j1 => ?_, ?_⟩, fun j j0 j1 => ?_, fun z hz => ?_⟩)
  · show σ3.2.1 j = _
    rw [f3.1, f2.1]
    exact pj j hj
  · show σ3.1 e o' = _
    rw [f3.2.1 e o' (sub_el (l := flI) (l' := [1000, 1001, 1003, 1004, 1010, 1012, 1013, 1014]) rfl e he), f2.2.1 e o' rfl]
    exact i1 e o' (sub_el (l := [1000, 1001, 1003]) (l' := [1000, 1001, 1003, 1004, 1010, 1012, 1013, 1014]) rfl e he)
  · show j3_up σ3.2.2 4 (o + 17) _ e o' = _
    rw [up_e (elem_ne (l := [4, 1005, 1006, 1007, 1008, 1009, 1011]) (e := 4) rfl he), f3.2.2 e o' (sub_el (l := flA) (l' := [4, 1005, 1006, 1007, 1008, 1009, 1011]) rfl e he), f2.2.2 e o' (sub_el (l := [1005, 1007]) (l' := [4, 1005, 1006, 1007, 1008, 1009, 1011]) rfl e he), a1]
  · show j3_up σ3.2.2 4 (o + 17) _ 4 o' = _
    rw [up_o (by simp [ho']), h4]
  · simp only [up_e (show ((1005 : Nat) == 4) = false from rfl)]
    exact (k3 h).1 j j0 j1
  · intro j j0 j1 hj
    have := (k3 h).2 j j0 j1 hj
    refine ⟨fun k k0 k1 => ?_, fun x x0 x1 => ?_⟩
    · simp only [up_e (show ((1006 : Nat) == 4) = false from rfl)]
      exact this.1 k k0 k1
    · simp only [up_e (show ((1007 : Nat) == 4) = false from rfl)]
      exact this.2 x x0 x1
  · show j3_up σ3.2.2 4 (o + 17) _ 4 (o + 17) _ = _
    rw [up_r]
    simp only [i_cp]
    rw [if_pos (by omega), show (0 : Int) + (m * 120 + j - m * 120) = j by omega]
    exact (k3 h).1 j j0 (by omega)
  · show j3_up σ3.2.2 4 (o + 17) _ 4 (o + 17) z = _
    rw [up_r, ← h4]
    simp only [i_cp]
    rw [if_neg (by omega)]
end CHK
