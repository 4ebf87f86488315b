/-! the class's goTo -/
section GOTO
variable {d : Nat} {Q : j3_P} {P : Pg} {σ : j3_S} {F : Fl} {j n m nl : Int}
theorem l15 {x3 : Int} (hn : σ.1 1010 76 = n) (j0 : 0 ≤ j) (j1 : j < 120) (n1 : n ≤ 10) : ∀ (r : Nat) (k : Int), 0 ≤ k → k + r = n → T15 d Q 64 [wO 1 76, wI j, wI (j * 10), wI x3, wI k] [] σ = if eqi (fun z => σ.2.2 1006 76 (j * 10 + z)) (σ.2.2 1008 76) r k = true then T15 d Q 64 [wO 1 76, wI j, wI (j * 10), wI x3, wI n] [] σ else Q (some (wI 6)) σ
  | 0, k, h0, hk => by
    have : k = n := by omega
    subst this
    simp [eqi]
  | r + 1, k, h0, hk => by
    rw [b15_64, hn, if_pos (by omega)]
    simp (disch := omega) only [wr_id, b15_79, b15_88]
    have c1 : (0 ≤ j * 10 + k ∧ j * 10 + k < 1200) = True := by simp; omega
    have c2 : (0 ≤ k ∧ k < 10) = True := by simp; omega
    simp only [c1, c2, true_and, eqi]
    by_cases g1 : σ.2.2 1006 76 (j * 10 + k) = 1
    · by_cases g2 : σ.2.2 1008 76 k = 1
      · simp [g1, g2]
        exact Iff.of_eq (l15 hn j0 j1 n1 r (k + 1) (by omega) (by omega))
      · simp [g1, g2]
    · by_cases g2 : σ.2.2 1008 76 k = 1
      · simp [g1, g2]
      · simp [g1, g2]
        exact Iff.of_eq (l15 hn j0 j1 n1 r (k + 1) (by omega) (by omega))
theorem s15 (hp : ¬ σ.2.1 0 = 0) (hC : CP σ (σ.2.1 0) P) (hs : WFs P) (hm2 : P 3001 0 ≤ 80) (hm : σ.1 1003 76 = m) (m0 : 0 ≤ m) (m1 : m < P 3001 0) (hnl : P 3017 m = nl) (l0 : 0 ≤ nl) (l1 : nl ≤ 20) (hn : σ.1 1010 76 = n) (n0 : 0 ≤ n) (n1 : n ≤ 10) (j0 : 0 ≤ j) (j1 : j < 120) (hF : FC σ nl F) (hok : Fok P nl F) (hts : ∀ k, 0 ≤ k → k < n → tyo P (σ.2.2 1008 76 k)) (htl : ∀ x, 0 ≤ x → x < nl → tyo P (σ.2.2 1009 76 x))
    (hQ : ∀ σ', frm [1004] [1005, 1006, 1007] σ σ' → (arf F j n (σ.2.2 1008 76) = 0 → FC σ' nl (arF P nl F j n (σ.2.2 1008 76) (σ.2.2 1009 76)) ∧ σ'.1 1004 76 = if arc P nl F j n (σ.2.2 1008 76) (σ.2.2 1009 76) = true then 1 else σ.1 1004 76) → Q (some (wI (arf F j n (σ.2.2 1008 76)))) σ') : j3_tc false (d + 4) 15 [wO 1 76, wI j] σ Q := by
  obtain ⟨hF1, hF2⟩ := id hF
  have hl : σ.2.2 3017 (σ.2.1 0) m = nl := by rw [(hC.2.2.2 m m0 m1).1.2.2.2.2.2.1]; exact hnl
  rw [e15, b15_0, if_neg (by omega), if_pos (by omega)]
  simp (disch := omega) only [wr_id, hn, hm, hl]
  rw [hF1 j j0 j1]
  have cj : (0 ≤ j ∧ j < 120) = True := by simp; omega
  have cm : (0 ≤ m ∧ m < 80) = True := by simp; omega
  simp only [cj, cm, true_and]
  by_cases g : F.1 j < 0
  · rw [if_pos g]
    refine ⟨by omega, hp, by omega, by simp, ?_⟩
    have e0 : arf F j n (σ.2.2 1008 76) = 0 := by simp [arf, g]
    have := hQ (j3_up σ.1 1004 76 1, σ.2.1, j3_acp (j3_acp (j3_ast σ.2.2 1005 76 j n) 1008 76 1006 76 0 (j * 10) n) 1009 76 1007 76 0 (j * 20) nl) (frm.I rfl (frm.A rfl (frm.A rfl (frm.A rfl frm.rf)))) (fun _ => ⟨⟨fun i i0 i1 => ?_, fun i i0 i1 hi => ⟨fun k k0 k1 => ?_, fun x x0 x1 => ?_⟩⟩, ?_⟩)
    · rw [e0] at this
      exact this
    · simp only [j3_acp, j3_ast, arF, if_pos g]
      rw [up_e rfl, up_e rfl, up_r]
      simp only [i_up]
      split
      · rfl
      · exact hF1 i i0 i1
    · simp only [j3_acp, j3_ast, arF, if_pos g] at hi k1 ⊢
      rw [up_e rfl, up_r, up_e rfl, up_e rfl]
      simp only [i_cp, up2]
      by_cases h : i = j
      · subst h
        simp only [i_up, if_true] at k1
        rw [if_pos (by omega), if_pos rfl, show 0 + (i * 10 + k - i * 10) = k by omega]
      · simp only [i_up, if_neg h] at hi k1
        have := (hok i i0 i1 hi).1
        rw [if_neg (by omega), if_neg h]
        exact (hF2 i i0 i1 hi).1 k k0 k1
    · simp only [j3_acp, j3_ast, arF, if_pos g] at hi ⊢
      rw [up_r, up_e rfl, up_e rfl, up_e rfl]
      simp only [i_cp, up2]
      by_cases h : i = j
      · subst h
        rw [if_pos (by omega), if_pos rfl, show 0 + (i * 20 + x - i * 20) = x by omega]
      · have hi' : 0 ≤ F.1 i := by simpa [i_up, h] using hi
        rw [if_neg (by omega), if_neg h]
        exact (hF2 i i0 i1 hi').2 x x0 x1
    · simp only [up_r, arc, g, decide_true, Bool.true_or, if_true]
  · rw [if_neg g]
    have hjo := hok j j0 j1 (by omega)
    by_cases g2 : F.1 j = n
    · rw [if_pos g2, l15 hn j0 j1 n1 n.toNat 0 (by omega) (by omega)]
      have ee : eqi (fun z => σ.2.2 1006 76 (j * 10 + z)) (σ.2.2 1008 76) n.toNat 0 = eqi (F.2.1 j) (σ.2.2 1008 76) n.toNat 0 := eqi_c _ _ (fun z z0 z1 => ⟨(hF2 j j0 j1 (by omega)).1 z z0 (by omega), rfl⟩)
      rw [ee]
      by_cases g3 : eqi (F.2.1 j) (σ.2.2 1008 76) n.toNat 0 = true
      · rw [if_pos g3, b15_64, hn, if_neg (by omega)]
        have e0 : arf F j n (σ.2.2 1008 76) = 0 := by simp [arf, g, g2, g3]
        rw [s16 (n1 := 1200) (n3 := 10) hs rfl rfl rfl rfl rfl rfl rfl ⟨rfl, rfl⟩ (by omega) n0 (by omega) n1 (by omega) (by omega) rfl hp hC (fun z z0 z1 => ⟨by rw [(hF2 j j0 j1 (by omega)).1 z z0 (by omega)]; exact hjo.2.1 z z0 (by omega), hts z z0 z1⟩)]
        simp only [Option.toList_none, List.nil_append]
        rw [b15_102]
        simp only [up_e (show ((1003 : Nat) == 1004) = false from rfl), up_e (show ((3017 : Nat) == 1006) = false from rfl), hm, hl, cm, true_and]
        refine ⟨hp, ?_⟩
        have hf1 : frm [1004] [1005, 1006, 1007] σ (j3_up σ.1 1004 76 (if dif P (fun z => σ.2.2 1006 76 (j * 10 + z)) (σ.2.2 1008 76) n.toNat 0 = true then 1 else σ.1 1004 76), σ.2.1, j3_up σ.2.2 1006 76 (mrk P (σ.2.2 1006 76) (σ.2.2 1008 76) (j * 10) 0 n)) := frm.I rfl (frm.A rfl frm.rf)
        rw [s16 (n1 := 2400) (n3 := 20) (σ := (j3_up σ.1 1004 76 (if dif P (fun z => σ.2.2 1006 76 (j * 10 + z)) (σ.2.2 1008 76) n.toNat 0 = true then 1 else σ.1 1004 76), σ.2.1, j3_up σ.2.2 1006 76 (mrk P (σ.2.2 1006 76) (σ.2.2 1008 76) (j * 10) 0 n))) hs rfl rfl rfl rfl rfl rfl rfl ⟨rfl, rfl⟩ (by omega) l0 (by omega) l1 (by omega) (by omega) rfl hp (hC.fr hf1 ⟨rfl, rfl⟩ (la_ok rfl)) (fun z z0 z1 => by
          simp only [up_e (show ((1007 : Nat) == 1006) = false from rfl), up_e (show ((1009 : Nat) == 1006) = false from rfl)]
          exact ⟨by rw [(hF2 j j0 j1 (by omega)).2 z z0 z1]; exact hjo.2.2 z z0 z1, htl z z0 z1⟩)]
        simp only [Option.toList_none, List.nil_append]
        rw [b15_115]
        simp only [up_e (show ((1007 : Nat) == 1006) = false from rfl), up_e (show ((1009 : Nat) == 1006) = false from rfl), up_r, up_up]
        rw [e0] at hQ
        refine hQ _ (frm.I rfl (frm.A rfl (frm.A rfl frm.rf))) (fun _ => ⟨⟨fun i i0 i1 => ?_, fun i i0 i1 hi => ⟨fun k k0 k1 => ?_, fun x x0 x1 => ?_⟩⟩, ?_⟩)
        · simp only [arF, if_neg g]
          rw [up_e rfl, up_e rfl]
          exact hF1 i i0 i1
        · simp only [arF, if_neg g] at hi k1 ⊢
          rw [up_e rfl, up_r]
          have hio := hok i i0 i1 hi
          simp only [mrk, up2, mtr]
          by_cases h : i = j
          · subst h
            rw [if_pos (by omega), if_pos rfl]
            simp only [mtr]
            rw [if_pos (by omega), (hF2 i i0 i1 hi).1 k k0 k1, show i * 10 + k - i * 10 = k by omega]
          · rw [if_neg (by omega), if_neg h]
            exact (hF2 i i0 i1 hi).1 k k0 k1
        · simp only [arF, if_neg g] at hi ⊢
          rw [up_r]
          simp only [mrk, up2, mtr]
          by_cases h : i = j
          · subst h
            rw [if_pos (by omega), if_pos rfl]
            simp only [mtr]
            rw [if_pos (by omega), (hF2 i i0 i1 hi).2 x x0 x1, show i * 20 + x - i * 20 = x by omega]
          · rw [if_neg (by omega), if_neg h]
            exact (hF2 i i0 i1 hi).2 x x0 x1
        · have d1 : dif P (fun z => σ.2.2 1006 76 (j * 10 + z)) (σ.2.2 1008 76) n.toNat 0 = dif P (F.2.1 j) (σ.2.2 1008 76) n.toNat 0 := dif_c _ _ (fun z z0 z1 => ⟨(hF2 j j0 j1 (by omega)).1 z z0 (by omega), rfl⟩)
          have d2 : dif P (fun z => σ.2.2 1007 76 (j * 20 + z)) (σ.2.2 1009 76) nl.toNat 0 = dif P (F.2.2 j) (σ.2.2 1009 76) nl.toNat 0 := dif_c _ _ (fun z z0 z1 => ⟨(hF2 j j0 j1 (by omega)).2 z z0 (by omega), rfl⟩)
          simp only [up_r, d1, d2, arc, g, decide_false, Bool.false_or]
          cases dif P (F.2.1 j) (σ.2.2 1008 76) n.toNat 0 <;> cases dif P (F.2.2 j) (σ.2.2 1009 76) nl.toNat 0 <;> simp
      · rw [if_neg g3]
        have e0 : arf F j n (σ.2.2 1008 76) = 6 := by
          unfold arf
          rw [if_neg g, if_neg (fun q => q g2), if_neg g3]
        rw [e0] at hQ
        exact hQ σ frm.rf (fun h => absurd h (by omega))
    · rw [if_neg g2]
      have e0 : arf F j n (σ.2.2 1008 76) = 6 := by simp [arf, g, g2]
      rw [e0] at hQ
      exact hQ σ frm.rf (fun h => absurd h (by omega))
end GOTO
