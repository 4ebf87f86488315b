/-! the reference's arrive, whole -/
def FR (σ : j3_S) (yb nl : Int) (F : Fl) : Prop := ∀ i, 0 ≤ i → i < 120 → (σ.2.2 10035 121 (yb + i) = if F.1 i < 0 then 0 else 1) ∧ (0 ≤ F.1 i → σ.2.2 10036 121 (yb + i) = F.1 i ∧ (∀ k, 0 ≤ k → k < F.1 i → σ.2.2 10037 121 (10 * (yb + i) + k) = F.2.1 i k) ∧ (∀ x, 0 ≤ x → x < nl → σ.2.2 10038 121 (20 * (yb + i) + x) = F.2.2 i x) ∧ ∀ x, nl ≤ x → x < 20 → σ.2.2 10038 121 (20 * (yb + i) + x) = 0)
def oth (yb : Int) (σ σ' : j3_S) : Prop := (∀ z, z < yb ∨ yb + 120 ≤ z → σ'.2.2 10035 121 z = σ.2.2 10035 121 z ∧ σ'.2.2 10036 121 z = σ.2.2 10036 121 z) ∧ (∀ z, z < 10 * yb ∨ 10 * yb + 1200 ≤ z → σ'.2.2 10037 121 z = σ.2.2 10037 121 z) ∧ ∀ z, z < 20 * yb ∨ 20 * yb + 2400 ≤ z → σ'.2.2 10038 121 z = σ.2.2 10038 121 z
theorem oth.rf {yb : Int} {σ : j3_S} : oth yb σ σ := ⟨fun _ _ => ⟨rfl, rfl⟩, fun _ _ => rfl, fun _ _ => rfl⟩
theorem oth.tr {yb : Int} {σ σ' σ'' : j3_S} (h : oth yb σ σ') (h' : oth yb σ' σ'') : oth yb σ σ'' := ⟨fun z g => ⟨(h'.1 z g).1.trans (h.1 z g).1, (h'.1 z g).2.trans (h.1 z g).2⟩, fun z g => (h'.2.1 z g).trans (h.2.1 z g), fun z g => (h'.2.2 z g).trans (h.2.2 z g)⟩
theorem oth.fr {yb : Int} {σ σ' : j3_S} {li la : List Nat} (h : frm li la σ σ') (h1 : la.elem 10035 = false) (h2 : la.elem 10036 = false) (h3 : la.elem 10037 = false) (h4 : la.elem 10038 = false) : oth yb σ σ' := by
  refine ⟨fun z _ => ⟨?_, ?_⟩, fun z _ => ?_, fun z _ => ?_⟩
  · rw [h.2.2 _ _ h1]
  · rw [h.2.2 _ _ h2]
  · rw [h.2.2 _ _ h3]
  · rw [h.2.2 _ _ h4]
theorem FR.fr {yb nl : Int} {F : Fl} {σ σ' : j3_S} {li la : List Nat} (hF : FR σ yb nl F) (h : frm li la σ σ') (h1 : la.elem 10035 = false) (h2 : la.elem 10036 = false) (h3 : la.elem 10037 = false) (h4 : la.elem 10038 = false) : FR σ' yb nl F := by
  unfold FR
  rw [h.2.2 _ _ h1, h.2.2 _ _ h2, h.2.2 _ _ h3, h.2.2 _ _ h4]
  exact hF
section ARR2
variable {d : Nat} {Q : j3_P} {P : Pg} {s m to fr yb n nl : Int} {σ : j3_S} {F : Fl}
def bdA (P : Pg) (m i : Int) (σ : j3_S) : Prop := σ.2.2 10008 121 0 = P 3011 m ∧ σ.2.2 10008 121 1 = m - P 3007 (P 3011 m) ∧ σ.2.2 10008 121 2 = i
theorem wrS_b {f i : Int} (h : σ.1 10007 121 = 0) : bdA P m i (wrS σ f (P 3011 m) (m - P 3007 (P 3011 m)) i) := by
  unfold wrS bdA
  rw [if_pos h]
  simp [j3_ast, j3_up, i_up]
theorem s178 (hR : RP σ s P) (hW : WFp P) (s0 : 0 ≤ s) (s2 : s ≤ 2) (m0 : 0 ≤ m) (m1 : m < P 3001 0) (hnl : P 3017 m = nl) (hyb : yb = (if s = 0 then 0 else 9600) + 120 * m) (t0 : 0 ≤ to) (t1 : to < 120) (hb : σ.1 10007 121 = 0) (hn : σ.1 10041 121 = n) (n0 : 0 ≤ n) (n1 : n ≤ 10) (hc : σ.1 10042 121 = 0 ∨ σ.1 10042 121 = 1) (hF : FR σ yb nl F) (hok : Fok P nl F) (hts : tys P n (σ.2.2 10039 121)) (htl : tys P nl (σ.2.2 10040 121)) (htz : ∀ x, nl ≤ x → x < 20 → σ.2.2 10040 121 x = 0)
    (hQ : ∀ σ', frm [10007, 10042] [10008, 10035, 10036, 10037, 10038] σ σ' → oth yb σ σ' → σ'.1 10007 121 = arf F to n (σ.2.2 10039 121) → (¬ arf F to n (σ.2.2 10039 121) = 0 → bdA P m fr σ') → (arf F to n (σ.2.2 10039 121) = 0 → FR σ' yb nl (arF P nl F to n (σ.2.2 10039 121) (σ.2.2 10040 121)) ∧ σ'.1 10042 121 = if arc P nl F to n (σ.2.2 10039 121) (σ.2.2 10040 121) = true then 1 else σ.1 10042 121) → Q none σ') :
    j3_tc true (d + 3) 178 [wO 10 121, wI s, wI m, wI to, wI fr] σ Q := by
  obtain ⟨hs, hmm, hFF, hM⟩ := id hW
  obtain ⟨q1, q2, q3, q4, q5, q6, q7⟩ := hM m m0 m1
  have hm2 := hmm.2.1
  have hn10 := hs.2.1
  have l0 : 0 ≤ nl := by have := q4.1; omega
  have l1 : nl ≤ 20 := by omega
  have hcm := hmm.2.2 _ q1.1 q1.2.1
  obtain ⟨⟨r1, -⟩, -⟩ := hR.2.2.2 m m0 m1
  have r2 := (hR.2.2.1 _ q1.1 q1.2.1).1.2.2.2.2
  obtain ⟨f1, f2⟩ := hF to t0 t1
  have go : ∀ x : Int, x = (if s = 0 then 0 else 9600) → T178 (d + 2) Q 5 [wO 10 121, wI s, wI m, wI to, wI fr, wM 2, wM 2, wM 2, wM 2, wM 2] [wI x] σ := by
    intro x hx
    have hy : x + 120 * m + to = yb + to := by rw [hyb, hx]
    have hyl : 0 ≤ yb + to ∧ yb + to < 19200 := by rw [hyb]; split <;> omega
    have hx2 : x = 0 ∨ x = 9600 := by rw [hx]; split <;> simp
    rw [b178_5]
    simp (disch := omega) only [wr_id, hy, r1, r2, hn]
    refine ⟨hyl, ?_⟩
    by_cases g : F.1 to < 0
    · rw [f1, if_pos g, if_pos rfl]
      refine ⟨Or.inr trivial, hyl, hyl, ?_⟩
      rw [a30 (n := n) hyl.1 hyl.2 n0 n1 n.toNat 0 (σ.1, σ.2.1, j3_ast (j3_ast σ.2.2 10035 121 (yb + to) 1) 10036 121 (yb + to) n) hn (by omega) (by omega)]
      simp only [j3_ast, up_e (show ((10036 : Nat) == 10035) = false from rfl), up_e (show ((10037 : Nat) == 10036) = false from rfl), up_e (show ((10037 : Nat) == 10035) = false from rfl), up_e (show ((10039 : Nat) == 10036) = false from rfl), up_e (show ((10039 : Nat) == 10035) = false from rfl), up_e (show ((10038 : Nat) == 10036) = false from rfl), up_e (show ((10038 : Nat) == 10035) = false from rfl), up_e (show ((10040 : Nat) == 10036) = false from rfl), up_e (show ((10040 : Nat) == 10035) = false from rfl)]
      have e0 : arf F to n (σ.2.2 10039 121) = 0 := by simp [arf, g]
      have e1 : arc P nl F to n (σ.2.2 10039 121) (σ.2.2 10040 121) = true := by simp [arc, g]
      rw [e0, e1] at hQ
      refine hQ _ (frm.I rfl (frm.A rfl (frm.A rfl (frm.A rfl (frm.A rfl frm.rf))))) ⟨fun z hz => ?_, fun z hz => ?_, fun z hz => ?_⟩ ?_ (fun h => absurd rfl h) (fun _ => ⟨fun i i0 i1 => ⟨?_, fun hi => ⟨?_, fun k k0 k1 => ?_, fun x x0 x1 => ?_, fun x x0 x1 => ?_⟩⟩, ?_⟩)
      · simp only [up_r, up_e (show ((10035 : Nat) == 10036) = false from rfl), up_e (show ((10035 : Nat) == 10037) = false from rfl), up_e (show ((10035 : Nat) == 10038) = false from rfl), up_e (show ((10036 : Nat) == 10037) = false from rfl), up_e (show ((10036 : Nat) == 10038) = false from rfl)]
        rw [iu_n (by omega), iu_n (by omega)]
        exact ⟨rfl, rfl⟩
      · simp only [up_r, up_e (show ((10037 : Nat) == 10038) = false from rfl), i_cw]
        rw [if_neg (by omega)]
      · simp only [up_r, i_cw]
        rw [if_neg (by omega)]
      · simp only [up_e (show ((10007 : Nat) == 10042) = false from rfl)]
        exact hb
      · simp only [up_r, up_e (show ((10035 : Nat) == 10036) = false from rfl), up_e (show ((10035 : Nat) == 10037) = false from rfl), up_e (show ((10035 : Nat) == 10038) = false from rfl), arF, if_pos g, i_up]
        by_cases h : i = to
        · subst h
          rw [if_pos rfl, if_pos rfl, if_neg (by omega)]
        · rw [if_neg (by omega), if_neg h]
          exact (hF i i0 i1).1
      · simp only [up_r, up_e (show ((10036 : Nat) == 10037) = false from rfl), up_e (show ((10036 : Nat) == 10038) = false from rfl), arF, if_pos g, i_up] at hi ⊢
        by_cases h : i = to
        · subst h
          rw [if_pos rfl, if_pos rfl]
        · rw [if_neg h] at hi
          rw [if_neg (by omega), if_neg h]
          exact ((hF i i0 i1).2 hi).1
      · simp only [up_r, up_e (show ((10037 : Nat) == 10038) = false from rfl), arF, if_pos g, i_up, up2, i_cw] at hi k1 ⊢
        by_cases h : i = to
        · subst h
          rw [if_pos rfl] at k1
          rw [if_pos (by omega), if_pos rfl, show 10 * (yb + i) + k - 10 * (yb + i) = k by omega]
        · rw [if_neg h] at hi k1
          have := (hok i i0 i1 hi).1
          rw [if_neg (by omega), if_neg h]
          exact ((hF i i0 i1).2 hi).2.1 k k0 k1
      · simp only [up_r, arF, if_pos g, i_up, up2, i_cw] at hi ⊢
        by_cases h : i = to
        · subst h
          rw [if_pos (by omega), if_pos rfl, show 20 * (yb + i) + x - 20 * (yb + i) = x by omega]
        · rw [if_neg h] at hi
          rw [if_neg (by omega), if_neg h]
          exact ((hF i i0 i1).2 hi).2.2.1 x x0 x1
      · simp only [up_r, arF, if_pos g, i_up, up2, i_cw] at hi ⊢
        by_cases h : i = to
        · subst h
          rw [if_pos (by omega), show 20 * (yb + i) + x - 20 * (yb + i) = x by omega]
          exact htz x x0 x1
        · rw [if_neg h] at hi
          rw [if_neg (by omega)]
          exact ((hF i i0 i1).2 hi).2.2.2 x x0 x1
      · simp [j3_up]
    · obtain ⟨g1, g2, g3, g4⟩ := f2 (by omega)
      obtain ⟨k1, k2, k3⟩ := hok to t0 t1 (by omega)
      rw [f1, if_neg g, if_neg (by decide), g1]
      refine ⟨by omega, by omega, hyl, ?_⟩
      by_cases gn : F.1 to = n
      · rw [if_pos gn, a107 hb hyl.1 hyl.2 hn n1 n.toNat 0 (by omega) (by omega)]
        have ee : eqi (fun z => σ.2.2 10037 121 (10 * (yb + to) + z)) (σ.2.2 10039 121) n.toNat 0 = eqi (F.2.1 to) (σ.2.2 10039 121) n.toNat 0 := eqi_c _ _ (fun z z0 z1 => ⟨g2 z z0 (by omega), rfl⟩)
        rw [ee]
        by_cases ge : eqi (F.2.1 to) (σ.2.2 10039 121) n.toNat 0 = true
        · have e0 : arf F to n (σ.2.2 10039 121) = 0 := by simp [arf, g, gn, ge]
          rw [e0] at hQ
          rw [if_pos ge]
          refine (a144 (X := True) hs s0 s2 hyl.1 hyl.2 n1 n.toNat 0 (wM 2) σ (by omega) (by omega) hb hn hc hR (fun z z0 z1 => ⟨by rw [g2 z z0 (by omega)]; exact k2 z z0 (by omega), hts z z0 z1⟩) (fun w' => eq_true ?_)).symm ▸ trivial
          rw [b178_196]
          have hf : frm [10042] [10037] σ (j3_up σ.1 10042 121 (if difk P (σ.2.2 10037 121) (σ.2.2 10039 121) (10 * (yb + to)) n.toNat 0 = true then 1 else σ.1 10042 121), σ.2.1, j3_up σ.2.2 10037 121 (mrk P (σ.2.2 10037 121) (σ.2.2 10039 121) (10 * (yb + to)) 0 n)) := frm.I rfl (frm.A rfl frm.rf)
          rw [a198 hs s0 s2 hyl.1 hyl.2 20 0 w' _ (by omega) (by omega) ((hf.2.1 10007 121 rfl).trans hb) (by simp only [up_r]; split; exact Or.inr rfl; exact hc) (hR.fr hf (lr_ok rfl)) (fun z z0 z1 => by
            simp only [up_e (show ((10038 : Nat) == 10037) = false from rfl), up_e (show ((10040 : Nat) == 10037) = false from rfl)]
            have z2 : tyo P 0 := ⟨by omega, by have := hs.1; omega⟩
            by_cases hz : z < nl
            · rw [g3 z z0 hz]
              exact ⟨k3 z z0 hz, htl z z0 hz⟩
            · rw [g4 z (by omega) z1, htz z (by omega) z1]
              exact ⟨z2, z2⟩)]
          simp only [up_r, up_up, up_e (show ((10038 : Nat) == 10037) = false from rfl), up_e (show ((10040 : Nat) == 10037) = false from rfl)]
          refine hQ _ (frm.I rfl (frm.A rfl (frm.A rfl frm.rf))) ⟨fun z hz => ?_, fun z hz => ?_, fun z hz => ?_⟩ ?_ (fun h => absurd rfl h) (fun _ => ⟨fun i i0 i1 => ⟨?_, fun hi => ⟨?_, fun k k0 k1 => ?_, fun x x0 x1 => ?_, fun x x0 x1 => ?_⟩⟩, ?_⟩)
          · dsimp only
            rw [up_e rfl, up_e rfl, up_e rfl, up_e rfl]
            exact ⟨rfl, rfl⟩
          · dsimp only
            rw [up_e rfl, up_r]
            simp only [mrk]
            rw [if_neg (by omega)]
          · dsimp only
            rw [up_r]
            simp only [mrk]
            rw [if_neg (by omega)]
          · dsimp only
            rw [up_e rfl]
            exact hb
          · dsimp only
            rw [up_e rfl, up_e rfl]
            simp only [arF, if_neg g]
            exact (hF i i0 i1).1
          · simp only [arF, if_neg g] at hi ⊢
            try dsimp only
            rw [up_e rfl, up_e rfl]
            exact ((hF i i0 i1).2 hi).1
          · simp only [arF, if_neg g] at hi k1 ⊢
            try dsimp only
            rw [up_e rfl, up_r]
            have := (hok i i0 i1 hi).1
            have hk := ((hF i i0 i1).2 hi).2.1 k k0 k1
            simp only [mrk, up2]
            by_cases h : i = to
            · subst h
              rw [if_pos (by omega), if_pos rfl]
              simp only [mtr]
              rw [if_pos (by omega), hk, show 10 * (yb + i) + k - 10 * (yb + i) = k by omega]
            · rw [if_neg (by omega), if_neg h]
              exact hk
          · simp only [arF, if_neg g] at hi ⊢
            try dsimp only
            rw [up_r]
            have hk := ((hF i i0 i1).2 hi).2.2.1 x x0 x1
            simp only [mrk, up2]
            by_cases h : i = to
            · subst h
              rw [if_pos (by omega), if_pos rfl]
              simp only [mtr]
              rw [if_pos (by omega), hk, show 20 * (yb + i) + x - 20 * (yb + i) = x by omega]
            · rw [if_neg (by omega), if_neg h]
              exact hk
          · simp only [arF, if_neg g] at hi ⊢
            try dsimp only
            rw [up_r]
            have hk := ((hF i i0 i1).2 hi).2.2.2 x x0 x1
            simp only [mrk]
            by_cases h : i = to
            · subst h
              rw [if_pos (by omega), hk, show 20 * (yb + i) + x - 20 * (yb + i) = x by omega, htz x x0 x1]
              exact mt_s
            · rw [if_neg (by omega)]
              exact hk
          · rw [difk_e, difk_e]
            have d1 : dif P (fun z => σ.2.2 10037 121 (10 * (yb + to) + z)) (σ.2.2 10039 121) n.toNat 0 = dif P (F.2.1 to) (σ.2.2 10039 121) n.toNat 0 := dif_c _ _ (fun z z0 z1 => ⟨g2 z z0 (by omega), rfl⟩)
            have d2 : dif P (fun z => σ.2.2 10038 121 (20 * (yb + to) + z)) (σ.2.2 10040 121) 20 0 = dif P (F.2.2 to) (σ.2.2 10040 121) nl.toNat 0 := by
              rw [dif_20 (nl := nl) l0 l1 (fun z z0 z1 => ⟨g4 z z0 z1, htz z z0 z1⟩)]
              exact dif_c _ _ (fun z z0 z1 => ⟨g3 z z0 (by omega), rfl⟩)
            dsimp only
            rw [d1, d2, up_r]
            simp only [arc, g, decide_false, Bool.false_or]
            cases dif P (F.2.1 to) (σ.2.2 10039 121) n.toNat 0 <;> cases dif P (F.2.2 to) (σ.2.2 10040 121) nl.toNat 0 <;> simp
        · have e0 : arf F to n (σ.2.2 10039 121) = 6 := by
            unfold arf
            rw [if_neg g, if_neg (fun q => q gn), if_neg ge]
          rw [e0] at hQ
          rw [if_neg ge]
          have hb6 : (wrS σ 6 (P 3011 m) (m - P 3007 (P 3011 m)) fr).1 10007 121 = 6 := wrS_1 hb
          have hnn : (wrS σ 6 (P 3011 m) (m - P 3007 (P 3011 m)) fr).1 10041 121 = n := (wrS_f.2.1 10041 121 rfl).trans hn
          rw [b178_144, hnn, hb6, if_neg (show ¬ (6 : Int) = 0 by decide), ite_self, b178_196, b178_198, if_pos (by decide), hb6, if_neg (by decide)]
          exact hQ _ (wrS_f.wd (sub_el rfl) (sub_el rfl)) (oth.fr wrS_f rfl rfl rfl rfl) hb6 (fun _ => wrS_b hb) (fun h => absurd h (by decide))
      · have e0 : arf F to n (σ.2.2 10039 121) = 6 := by simp [arf, g, gn]
        rw [e0] at hQ
        rw [if_neg gn, s158]
        simp only [Option.toList_none, List.nil_append]
        rw [b178_104]
        exact hQ _ (wrS_f.wd (sub_el rfl) (sub_el rfl)) (oth.fr wrS_f rfl rfl rfl rfl) (wrS_1 hb) (fun _ => wrS_b hb) (fun h => absurd h (by decide))
  rw [e178, b178_0]
  by_cases gs : s = 0
  · rw [if_pos gs]
    exact go 0 (by rw [if_pos gs])
  · rw [if_neg gs]
    exact go 9600 (by rw [if_neg gs])
end ARR2
