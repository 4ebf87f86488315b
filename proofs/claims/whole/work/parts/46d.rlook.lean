section RLK3
variable {d : Nat} {Q : j3_P} {P : Pg} {s m i yb n nl op a b : Int} {σ : j3_S} {F : Fl}
theorem rev_gd {w : List Int} {k : Nat} (h : k < w.length) : w.reverse.getD (w.length - 1 - k) 0 = w.getD k 0 := by
  rw [List.getD_eq_getElem?_getD, List.getD_eq_getElem?_getD, List.getElem?_reverse (by omega), show w.length - 1 - (w.length - 1 - k) = k by omega]
theorem k155 {y x5 x9 : Int} (hbd : ¬ σ.1 10007 121 = 0) : T179 (d + 3) Q 155 [wO 10 121, wI s, wI m, wI i, wI y, wI x5, wI (80 * s + m), wI (P 3011 m), wI (m - P 3007 (P 3011 m)), wI x9] [] σ = Q none σ := by
  rw [b179_155, if_neg hbd]
theorem s179 (hR : RP σ s P) (hW : WFp P) (s0 : 0 ≤ s) (s2 : s ≤ 2) (m0 : 0 ≤ m) (m1 : m < P 3001 0) (hnl : P 3017 m = nl) (hyb : yb = (if s = 0 then 0 else 9600) + 120 * m) (i0 : 0 ≤ i) (i1 : i < P 0 m) (hop : P 1 (m * 120 + i) = op) (ha : P 2 (m * 120 + i) = a) (hb : P 3 (m * 120 + i) = b) (h0 : 0 ≤ F.1 i) (hbd : σ.1 10007 121 = 0) (hc : σ.1 10042 121 = 0 ∨ σ.1 10042 121 = 1) (hF : FR σ yb nl F) (hok : Fok P nl F)
    (hQ : ∀ σ', frm [10007, 10041, 10042, 10047] [10008, 10035, 10036, 10037, 10038, 10039, 10040, 10048] σ σ' → oth yb σ σ' → σ'.1 10007 121 = (look P m nl i op a b F).1 → (¬ (look P m nl i op a b F).1 = 0 → bdA P m i σ') → ((look P m nl i op a b F).1 = 0 → FR σ' yb nl (look P m nl i op a b F).2.1 ∧ σ'.1 10042 121 = if (look P m nl i op a b F).2.2 = true then 1 else σ.1 10042 121) → Q none σ') :
    j3_tc true (d + 4) 179 [wO 10 121, wI s, wI m, wI i] σ Q := by
  obtain ⟨hs, hmm, hFF, hM⟩ := id hW
  obtain ⟨q1, q2, q3, q4, q5, q6, q7⟩ := hM m m0 m1
  have hi := q7 i i0 i1
  rw [hop, ha, hb] at hi
  have hm2 := hmm.2.1
  have hn10 := hs.2.1
  have l0 : 0 ≤ nl := by have := q4.1; omega
  have l1 : nl ≤ 20 := by omega
  have hcm := hmm.2.2 _ q1.1 q1.2.1
  obtain ⟨⟨r1, -⟩, -, r4⟩ := hR.2.2.2 m m0 m1
  obtain ⟨c1, c2, c3⟩ := r4 i i0 i1
  rw [hop] at c1
  rw [ha] at c2
  rw [hb] at c3
  have r2 := (hR.2.2.1 _ q1.1 q1.2.1).1.2.2.2.2
  obtain ⟨f1, f2⟩ := hF i i0 (by omega)
  obtain ⟨f3, f4, f5, f6⟩ := f2 h0
  obtain ⟨k1, k2, k3⟩ := hok i i0 (by omega) h0
  have hj : isj op = true → 0 ≤ a ∧ a < P 0 m := fun h => hi.2.2.2.1 (isj_b h)
  have h2 : op = 2 → 0 ≤ a ∧ a < nl := fun h => by rw [← hnl]; exact hi.2.2.1 (Or.inl h)
  obtain ⟨wl1, wl2⟩ := wl_o hW m0 m1 hi
  have hx5 : 0 ≤ 9600 * s + 120 * m + i ∧ 9600 * s + 120 * m + i < 28800 := by omega
  have hyl : 0 ≤ yb + i ∧ yb + i < 19200 := by rw [hyb]; split <;> omega
  have go : ∀ x : Int, x = (if s = 0 then 0 else 9600) → T179 (d + 3) Q 5 [wO 10 121, wI s, wI m, wI i, wM 2, wM 2, wM 2, wM 2, wM 2, wM 2] [wI x] σ := by
    intro x hx
    have hy : x + 120 * m + i = yb + i := by rw [hyb, hx]
    have hx2 : x = 0 ∨ x = 9600 := by rw [hx]; split <;> simp
    rw [b179_5, s160 s0 s2 m0 (by omega) i0 (by omega)]
    simp only [Option.toList_some, List.cons_append, List.nil_append]
    simp (disch := omega) only [wr_id, hy]
    rw [b179_16]
    simp (disch := omega) only [wr_id, r1, r2, f3]
    refine ⟨by omega, by omega, hyl, ?_⟩
    refine k47 (n := F.1 i) hyl.1 hyl.2 k1 (F.1 i).toNat 0 _ (by simp only [up_r]) (by omega) (by omega) (fun σ2 fr2 _ g2 => ?_)
    refine k67 hyl.1 hyl.2 20 0 σ2 (by omega) (by omega) (fun σ3 fr3 _ g3 => ?_)
    have fA : frm [10007, 10041, 10042, 10047] [10008, 10035, 10036, 10037, 10038, 10039, 10040, 10048] σ σ3 := (frm.I rfl frm.rf : frm [10007, 10041, 10042, 10047] [10008, 10035, 10036, 10037, 10038, 10039, 10040, 10048] σ _).tr ((fr2.wd (sub_el rfl) (sub_el rfl)).tr (fr3.wd (sub_el rfl) (sub_el rfl)))
    have fA' : frm [10041] [10039, 10040] σ σ3 := (frm.I rfl frm.rf : frm [10041] [10039, 10040] σ _).tr ((fr2.wd (sub_el rfl) (sub_el rfl)).tr (fr3.wd (sub_el rfl) (sub_el rfl)))
    have n3 : σ3.1 10041 121 = F.1 i := by
      rw [fr3.2.1 10041 121 rfl, fr2.2.1 10041 121 rfl]
      simp only [up_r]
    have st3 : agr (F.1 i) (σ3.2.2 10039 121) (F.2.1 i) := by
      intro k k0 k1
      rw [fr3.2.2 10039 121 rfl, g2 k (by omega) k1]
      exact f4 k k0 k1
    have lo3 : ∀ z, 0 ≤ z → z < 20 → σ3.2.2 10040 121 z = σ.2.2 10038 121 (20 * (yb + i) + z) := by
      intro z z0 z1
      rw [g3 z (by omega) z1, fr2.2.2 10038 121 rfl]
    have lc3 : agr nl (σ3.2.2 10040 121) (F.2.2 i) := fun z z0 z1 => (lo3 z z0 (by omega)).trans (f5 z z0 z1)
    have lz3 : ∀ z, nl ≤ z → z < 20 → σ3.2.2 10040 121 z = 0 := fun z z0 z1 => (lo3 z (by omega) z1).trans (f6 z z0 z1)
    have hR3 : RP σ3 s P := hR.fr fA (lr_ok rfl)
    have e27 : σ3.2.2 10027 121 = σ.2.2 10027 121 := fA.2.2 10027 121 rfl
    have e28 : σ3.2.2 10028 121 = σ.2.2 10028 121 := fA.2.2 10028 121 rfl
    have e29 : σ3.2.2 10029 121 = σ.2.2 10029 121 := fA.2.2 10029 121 rfl
    rw [show d + 3 = (d + 1) + 2 from rfl, s175 (m := m) (op := op) (a := a) (b := b) hR3 hW s0 s2 m0 m1 hx5 (by rw [e27]; exact c1) (by rw [e28]; exact c2) (by rw [e29]; exact c3) hi]
    simp only [Option.toList_none, List.nil_append]
    generalize hw : wl P m op a b = w at wl1 wl2
    obtain ⟨fw1, fw2, fw3, fw4⟩ := fwR w.reverse (zR σ3)
    have f34 : frm [10047] [10048] σ3 (w.reverse.foldl wR (zR σ3)) := zR_f.tr fw1
    rw [zR_1] at fw2 fw4
    simp only [List.length_reverse] at fw2 fw4
    generalize hσ4 : w.reverse.foldl wR (zR σ3) = σ4 at fw1 fw2 fw4 f34
    have fB : frm [10007, 10041, 10042, 10047] [10008, 10035, 10036, 10037, 10038, 10039, 10040, 10048] σ σ4 := fA.tr (f34.wd (sub_el rfl) (sub_el rfl))
    have fB' : frm [10041, 10047] [10039, 10040, 10048] σ σ4 := (fA'.wd (sub_el rfl) (sub_el rfl)).tr (f34.wd (sub_el rfl) (sub_el rfl))
    have oB : oth yb σ σ4 := oth.fr fB' rfl rfl rfl rfl
    have n4 : σ4.1 10041 121 = F.1 i := (f34.2.1 10041 121 rfl).trans n3
    have t4 : σ4.1 10047 121 = w.length := by rw [fw2]; omega
    have b4 : σ4.1 10007 121 = 0 := (fB'.2.1 10007 121 rfl).trans hbd
    have st4 : agr (F.1 i) (σ4.2.2 10039 121) (F.2.1 i) := by rw [f34.2.2 10039 121 rfl]; exact st3
    have lc4 : agr nl (σ4.2.2 10040 121) (F.2.2 i) := by rw [f34.2.2 10040 121 rfl]; exact lc3
    have lz4 : ∀ z, nl ≤ z → z < 20 → σ4.2.2 10040 121 z = 0 := by rw [f34.2.2 10040 121 rfl]; exact lz3
    have ts4 : tys P (F.1 i) (σ4.2.2 10039 121) := fun k k0 k1 => by rw [st4 k k0 k1]; exact k2 k k0 k1
    have tl4 : tys P nl (σ4.2.2 10040 121) := fun k k0 k1 => by rw [lc4 k k0 k1]; exact k3 k k0 k1
    have hR4 : RP σ4 s P := hR.fr fB (lr_ok rfl)
    have c41 : σ4.2.2 10027 121 (9600 * s + 120 * m + i) = op := by rw [fB.2.2 10027 121 rfl]; exact c1
    have c42 : σ4.2.2 10028 121 (9600 * s + 120 * m + i) = a := by rw [fB.2.2 10028 121 rfl]; exact c2
    have c43 : σ4.2.2 10029 121 (9600 * s + 120 * m + i) = b := by rw [fB.2.2 10029 121 rfl]; exact c3
    -- the end with a fault
    have bad : ∀ f : Int, ¬ f = 0 → exf P m op a b (F.1 i) (F.2.1 i) (F.2.2 i) = f → ∀ σ', frm [10007, 10041, 10042, 10047] [10008, 10035, 10036, 10037, 10038, 10039, 10040, 10048] σ σ' → oth yb σ σ' → σ'.1 10007 121 = f → bdA P m i σ' → Q none σ' := by
      intro f hf0 hf σ' g1 g2 g3 g4
      have el : look P m nl i op a b F = (f, F, false) := by
        unfold look
        rw [hf, if_neg hf0]
      rw [el] at hQ
      exact hQ σ' g1 g2 g3 (fun _ => g4) (fun h => absurd h hf0)
    have wrF : ∀ {τ : j3_S} {f : Int}, frm [10007, 10041, 10042, 10047] [10008, 10035, 10036, 10037, 10038, 10039, 10040, 10048] τ (wrS τ f (P 3011 m) (m - P 3007 (P 3011 m)) i) := fun {τ f} => (wrS_f (σ := τ) (f := f)).wd (sub_el rfl) (sub_el rfl)
    have wrO : ∀ {τ : j3_S} {f : Int}, oth yb τ (wrS τ f (P 3011 m) (m - P 3007 (P 3011 m)) i) := fun {τ f} => oth.fr (wrS_f (σ := τ) (f := f)) rfl rfl rfl rfl
    have exd : exf P m op a b (F.1 i) (F.2.1 i) (F.2.2 i) = exf P m op a b (F.1 i) (σ4.2.2 10039 121) (σ4.2.2 10040 121) := exf_c st4.sy lc4.sy h2
    generalize hE : exf P m op a b (F.1 i) (F.2.1 i) (F.2.2 i) = E at exd
    unfold exf at exd
    rw [hw] at exd
    rw [b179_89, n4, t4]
    by_cases g1 : F.1 i < w.length
    · rw [if_pos g1] at exd ⊢
      rw [s158]
      simp only [Option.toList_none, List.nil_append]
      rw [b179_100, wrS_1 b4, if_neg (by decide)]
      refine bad 3 (by decide) ?_ _ (fB.tr wrF) (oB.tr wrO) (wrS_1 b4) (wrS_b b4)
      exact hE.trans exd
    rw [if_neg g1] at exd
    rw [if_neg g1, b179_100, b4, if_pos rfl]
    have hwr : ∀ k : Nat, k < w.length → σ4.2.2 10048 121 ((w.length : Int) - 1 - k) = w.getD k 0 ∧ wno P (w.getD k 0) := by
      intro k hk
      refine ⟨?_, wl2 _ (getD_m hk)⟩
      have := fw4 (w.length - 1 - k) (by omega)
      rw [rev_gd hk] at this
      have e : (w.length : Int) - 1 - (k : Int) = 0 + ((w.length - 1 - k : Nat) : Int) := by omega
      rw [e]
      exact this
    have ek := k106 (d := d + 1) (Q := Q) (m := m) (i := i) (y := yb + i) (x5 := 9600 * s + 120 * m + i) (x6 := 80 * s + m) (c := P 3011 m) (pl := m - P 3007 (P 3011 m)) hR4 hs s0 s2 n4 k1 t4 g1 wl1 hwr ts4 b4 w.length true (Nat.le_refl _)
    rw [show (w.length : Int) - (w.length : Int) = 0 by omega] at ek
    simp only [cond_true, Bool.true_and] at ek
    rw [show d + 3 = d + 1 + 2 from rfl, ek]
    cases haf : af P (σ4.2.2 10039 121) w (F.1 i - w.length) w.length
    · -- one does not fit
      rw [haf, if_pos rfl] at exd
      have b4' : ¬ (wrS σ4 4 (P 3011 m) (m - P 3007 (P 3011 m)) i).1 10007 121 = 0 := by rw [wrS_1 b4]; decide
      have fw := (wrS_f (σ := σ4) (f := 4) (c := P 3011 m) (k := m - P 3007 (P 3011 m)) (i := i))
      simp only [cond_false]
      rw [b179_106, fw.2.1 10041 121 rfl, fw.2.1 10047 121 rfl, n4, t4, if_neg (by omega), fw.2.2 10027 121 rfl, fw.2.2 10028 121 rfl, fw.2.2 10040 121 rfl, c41, c42]
      have tl : T179 (d + 3) Q 155 [wO 10 121, wI s, wI m, wI i, wI (yb + i), wI (9600 * s + 120 * m + i), wI (80 * s + m), wI (P 3011 m), wI (m - P 3007 (P 3011 m)), wI w.length] [] (wrS σ4 4 (P 3011 m) (m - P 3007 (P 3011 m)) i) := by
        rw [k155 b4']
        refine bad 4 (by decide) ?_ _ (fB.tr wrF) (oB.tr wrO) (wrS_1 b4) (wrS_b b4)
        exact hE.trans exd
      refine ⟨hx5, ?_⟩
      by_cases o2 : op = 2
      · have := h2 o2
        rw [if_pos o2]
        refine ⟨hx5, by omega, ?_⟩
        split
        · rw [s158]
          simp only [Option.toList_none, List.nil_append]
          rw [wrS_n b4']
          exact tl
        · exact tl
      · rw [if_neg o2]
        exact tl
    · rw [haf, if_neg (by decide)] at exd
      simp only [cond_true]
      rw [b179_106, n4, t4, if_neg (by omega), c41, c42]
      refine ⟨hx5, ?_⟩
      by_cases o2 : op = 2 ∧ σ4.2.2 10040 121 a = 0
      · have := h2 o2.1
        rw [if_pos o2] at exd
        rw [if_pos o2.1, if_pos o2.2, s158]
        simp only [Option.toList_none, List.nil_append]
        refine ⟨hx5, by omega, ?_⟩
        rw [k155 (by rw [wrS_1 b4]; decide)]
        refine bad 4 (by decide) ?_ _ (fB.tr wrF) (oB.tr wrO) (wrS_1 b4) (wrS_b b4)
        exact hE.trans exd
      rw [if_neg o2] at exd
      have tl : T179 (d + 3) Q 155 [wO 10 121, wI s, wI m, wI i, wI (yb + i), wI (9600 * s + 120 * m + i), wI (80 * s + m), wI (P 3011 m), wI (m - P 3007 (P 3011 m)), wI w.length] [] σ4 := by
        rw [b179_155, b4, if_pos rfl, n4, t4, wr_id (by omega) (by omega)]
        have f5 : frm [10041] [10039, 10040] σ4 (j3_up σ4.1 10041 121 (F.1 i - w.length), σ4.2.1, σ4.2.2) := frm.I rfl frm.rf
        rw [show d + 3 = (d + 1) + 2 from rfl, s177 (m := m) (op := op) (a := a) (b := b) (hR4.fr f5 (lr_ok rfl)) hW s0 s2 hx5 c41 c42 c43 hi (by omega) (by simp only [up_r]; omega) (by simp only [up_r]; omega)]
        simp only [Option.toList_none, List.nil_append, up_r]
        have eG : gx P op a b (σ4.2.2 10039 121) (σ4.2.2 10040 121) (F.1 i - w.length) = gx P op a b (F.2.1 i) (F.2.2 i) (F.1 i - w.length) := gx_c st4 lc4 h2 (by rw [← hw]; exact w_q (by rw [hw]; exact g1))
        generalize hσ6 : giS (j3_up σ4.1 10041 121 (F.1 i - w.length), σ4.2.1, σ4.2.2) (gx P op a b (σ4.2.2 10039 121) (σ4.2.2 10040 121) (F.1 i - w.length)) (if op = 3 then i_up (σ4.2.2 10040 121) a (σ4.2.2 10039 121 (F.1 i - w.length)) else σ4.2.2 10040 121) = σ6
        have f6 : frm [10041] [10039, 10040] σ4 σ6 := by rw [← hσ6]; exact f5.tr gi_f
        have n6 : σ6.1 10041 121 = exn P m op a b (F.1 i) (σ4.2.2 10039 121) (σ4.2.2 10040 121) := by
          rw [← hσ6]
          unfold exn giS
          rw [hw]
          simp only [up_r]
        have s6 : σ6.2.2 10039 121 = exs P m op a b (F.1 i) (σ4.2.2 10039 121) (σ4.2.2 10040 121) := by
          rw [← hσ6]
          unfold exs giS
          rw [hw]
          simp only [up_r, up_e (show ((10039 : Nat) == 10040) = false from rfl)]
        have l6 : σ6.2.2 10040 121 = exl P m op a b (F.1 i) (σ4.2.2 10039 121) (σ4.2.2 10040 121) := by
          rw [← hσ6]
          unfold exl giS
          rw [hw]
          simp only [up_r]
        have b6 : σ6.1 10007 121 = 0 := (f6.2.1 10007 121 rfl).trans b4
        have fC : frm [10007, 10041, 10042, 10047] [10008, 10035, 10036, 10037, 10038, 10039, 10040, 10048] σ σ6 := fB.tr (f6.wd (sub_el rfl) (sub_el rfl))
        have oC : oth yb σ σ6 := oB.tr (oth.fr f6 rfl rfl rfl rfl)
        have g1' : ¬ F.1 i < (wl P m op a b).length := by rw [hw]; exact g1
        have en : exn P m op a b (F.1 i) (σ4.2.2 10039 121) (σ4.2.2 10040 121) = exn P m op a b (F.1 i) (F.2.1 i) (F.2.2 i) := exn_c g1' st4 lc4 h2
        rw [b179_170, n6]
        by_cases gt : 10 < exn P m op a b (F.1 i) (σ4.2.2 10039 121) (σ4.2.2 10040 121)
        · have gt' := gt
          unfold exn at gt'
          rw [hw] at gt'
          rw [if_pos gt'] at exd
          rw [if_pos gt, s158]
          simp only [Option.toList_none, List.nil_append]
          rw [b179_180, wrS_1 b6, if_neg (by decide)]
          refine bad 5 (by decide) ?_ _ (fC.tr wrF) (oC.tr wrO) (wrS_1 b6) (wrS_b b6)
          exact hE.trans exd
        · have gt' := gt
          unfold exn at gt'
          rw [hw] at gt'
          rw [if_neg gt'] at exd
          rw [if_neg gt]
          have e0 : exf P m op a b (F.1 i) (F.2.1 i) (F.2.2 i) = 0 := by
            exact hE.trans exd
          have el : look P m nl i op a b F = ar2 P m nl i op a F (exn P m op a b (F.1 i) (F.2.1 i) (F.2.2 i)) (exs P m op a b (F.1 i) (F.2.1 i) (F.2.2 i)) (exl P m op a b (F.1 i) (F.2.1 i) (F.2.2 i)) := by
            unfold look
            rw [if_pos e0]
          rw [el] at hQ
          have hsE := exs_c g1' st4 lc4 h2
          have hlE := exl_c (a := a) (b := b) (P := P) (m := m) (op := op) g1' st4 lc4
          have tsE := exs_o hW hi hnl.symm g1' ts4 tl4
          have tlE := exl_o (a := a) (b := b) (op := op) (m := m) g1' ts4 tl4
          obtain ⟨a1, a2⟩ := ar2_c (P := P) (m := m) (op := op) (i := i) (a := a) (Feq.rf (nl := nl) (F := F)) hsE hlE i0 (by omega) hj
          rw [en] at a1 a2
          have ch6 : σ6.1 10042 121 = σ.1 10042 121 := (f6.2.1 10042 121 rfl).trans (fB'.2.1 10042 121 rfl)
          have n60 : 0 ≤ exn P m op a b (F.1 i) (σ4.2.2 10039 121) (σ4.2.2 10040 121) := by
            unfold exn
            rw [hw]
            omega
          refine k180 (d := d) (n := exn P m op a b (F.1 i) (σ4.2.2 10039 121) (σ4.2.2 10040 121)) (nl := nl) (yb := yb) (F := F) (op := op) (a := a) (hR4.fr f6 (lr_ok rfl)) hW s0 s2 m0 m1 hnl hyb i0 i1 hx5 (by rw [f6.2.2 10027 121 rfl]; exact c41) (by rw [f6.2.2 10028 121 rfl]; exact c42) hj b6 n6 n60 (by omega) (by rw [ch6]; exact hc) ((hF.fr fB' rfl rfl rfl rfl).fr f6 rfl rfl rfl rfl) hok s6 l6 tsE tlE (fun x x0 x1 => ?_) (fun σ' hf ho u1 u2 u3 => ?_)
          · unfold exl
            by_cases o3 : op = 3
            · have := hi.2.2.1 (Or.inr o3)
              rw [if_pos o3, iu_n (by omega)]
              exact lz4 x x0 x1
            · rw [if_neg o3]
              exact lz4 x x0 x1
          · rw [en] at u1 u2 u3
            rw [a1] at u1 u2
            refine hQ σ' (fC.tr (hf.wd (sub_el rfl) (sub_el rfl))) (oC.tr ho) u1 u2 (fun h => ?_)
            obtain ⟨v1, v2⟩ := u3 (a1.trans h)
            obtain ⟨v3, v4⟩ := a2 (a1.trans h)
            rw [ch6, v4] at v2
            exact ⟨FR_c v3 v1, v2⟩
      by_cases o3 : op = 2
      · have := h2 o3
        rw [if_pos o3, if_neg (fun q => o2 ⟨o3, q⟩)]
        exact ⟨hx5, by omega, tl⟩
      · rw [if_neg o3]
        exact tl
  rw [e179, b179_0]
  by_cases gs : s = 0
  · rw [if_pos gs]
    exact go 0 (by rw [if_pos gs])
  · rw [if_neg gs]
    exact go 9600 (by rw [if_neg gs])
end RLK3
