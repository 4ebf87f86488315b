/-! the class: the loop over methods -/
section CLOOP
variable {σ σ' σ'' σ0 : j3_S} {P : Pg} {T : Int → Fl} {R : Rs} {X : Sx} {m i bud l k x4 x5 : Int} {d o o1 o2 o3 : Nat} {Q : j3_P} {c : Int → Int}
theorem mkF.rf : mkF o2 σ σ := ⟨frm.rf, fun _ _ _ _ => rfl⟩
theorem mkF.tr (h : mkF o2 σ σ') (h' : mkF o2 σ' σ'') : mkF o2 σ σ'' := ⟨h.1.tr h'.1, fun e o' he ho => (h'.2 e o' he ho).trans (h.2 e o' he ho)⟩
theorem le4 {la : List Nat} (h : (List.range 5).all (fun e => !la.elem e) = true) : ∀ e, e ≤ 4 → la.elem e = false := by
  intro e he
  have := List.all_eq_true.1 h e (List.mem_range.2 (by omega))
  simpa using this
theorem mkF.of {li la : List Nat} (h : frm li la σ σ') (h1 : li.all (fun e => mkI.elem e) = true) (h2 : la.all (fun e => mkA.elem e) = true) (h3 : (List.range 5).all (fun e => !la.elem e) = true) : mkF o2 σ σ' := ⟨h.wd (sub_el h1) (sub_el h2), fun e o' he _ => h.2.2 e o' (le4 h3 e he)⟩
theorem lyF.mk (h : lyF o2 m σ σ') : mkF o2 σ σ' := ⟨h.1.wd (sub_el rfl) (sub_el rfl), h.2.1⟩
theorem mkF.sm (hf : mkF o2 σ σ') (hoo : ¬ o = o2 ∧ ¬ o = o2 + 17) : smP o σ σ' := by
  refine ⟨⟨hf.1.2.1 3000 _ rfl, hf.1.2.1 3001 _ rfl⟩, fun e he => ?_⟩
  by_cases g : e ≤ 4
  · exact ⟨hf.2 e _ g (by omega), hf.2 e _ g (by omega)⟩
  · have h1 : pgA.all (fun e => decide (e ≤ 4) || !mkA.elem e) = true := rfl
    have h2 := List.all_eq_true.1 h1 e (by simpa using he)
    have h3 : mkA.elem e = false := by simpa [g] using h2
    exact ⟨hf.1.2.2 e _ h3, hf.1.2.2 e _ h3⟩
theorem gbC.mk (h : gbC σ o P T R bud) (hf : mkF o2 σ σ') (hoo : ¬ o = o2 ∧ ¬ o = o2 + 17) : gbC σ' o P T R bud := by
  obtain ⟨⟨a1, a2, a3⟩, a4, a5, a6, a7, a8⟩ := h
  have hne : ¬ o + 17 = o2 + 17 := by omega
  exact ⟨⟨a1, by rw [hf.1.1]; exact a2, by rw [hf.1.1]; exact a3⟩, a4.mv (hf.sm hoo), fun m i m0 m1 i0 i1 => by rw [hf.2 4 _ (by omega) hne]; exact a5 m i m0 m1 i0 i1, fun d t d0 d1 t0 t1 => by rw [hf.1.2.2 4002 _ rfl]; exact a6 d t d0 d1 t0 t1, fun c c0 c1 => by rw [hf.1.2.2 4001 _ rfl]; exact a7 c c0 c1, by rw [hf.1.2.1 6014 _ rfl]; exact a8⟩
theorem lyR.fr {li la : List Nat} (h : lyR σ o2 m X l) (hf : frm li la σ σ') (h2 : lyA.all (fun e => !la.elem e) = true) : lyR σ' o2 m X l := by
  have k : ∀ e, lyA.elem e = true → la.elem e = false := fun e he => by
    have := List.all_eq_true.1 h2 e (by simpa using he)
    simpa using this
  obtain ⟨a1, a2, a3⟩ := h
  refine ⟨by rw [hf.2.2 0 _ (k 0 rfl)]; exact a1, by rw [hf.2.2 6010 _ (k 6010 rfl)]; exact a2, fun i i0 i1 => ?_⟩
  rw [hf.2.2 1 _ (k 1 rfl), hf.2.2 2 _ (k 2 rfl), hf.2.2 3 _ (k 3 rfl), hf.2.2 4 _ (k 4 rfl), hf.2.2 6003 _ (k 6003 rfl), hf.2.2 6004 _ (k 6004 rfl)]
  exact a3 i i0 i1
theorem lyC.fr {li la : List Nat} (h : lyC σ o2 P T R bud k) (hf : frm li la σ σ') (h2 : lyA.all (fun e => !la.elem e) = true) : lyC σ' o2 P T R bud k := by
  intro m m0 m1
  obtain ⟨a1, a2⟩ := h m m0 m1
  have k0 : la.elem 0 = false := by
    have := List.all_eq_true.1 h2 0 (by decide)
    simpa using this
  exact ⟨fun g => (a1 g).fr hf h2, fun g => by rw [hf.2.2 0 _ k0]; exact a2 g⟩
/-- a gathered method, folded -/
theorem fo_ok (h : grR P T R) (m0 : 0 ≤ m) (m1 : m < P 3001 0) (hm : R.1 m = 1) : okX (gaE P T R.2.1 bud m).2.1 (foX P T R.2.1 bud m) ∧ (∃ F, SOk P m (gaE P T R.2.1 bud m).2.1 (WR P R) (foX P T R.2.1 bud m) F ∧ ∀ i, 0 ≤ i → i < (foX P T R.2.1 bud m).n → 0 ≤ F.1 i) := by
  obtain ⟨g1, g2, -, G, g4⟩ := ga_all (bud := bud) h m0 m1 hm
  have hW := h.1.1.1
  have hP : 0 ≤ P 3000 0 := by have := hW.1.1; omega
  obtain ⟨z1, -, -, z4, -⟩ := hW.2.2.2 m m0 m1
  have iniT : ∀ nl, tys P nl (ini P m) := by
    intro nl x x0 x1
    unfold ini
    by_cases g1 : x < rcv P m
    · rw [if_pos g1]; exact ⟨by omega, by omega⟩
    · rw [if_neg g1]
      by_cases g2 : x < rcv P m + P 3015 m
      · rw [if_pos g2]
        have := z4.2.2 (x - rcv P m) (by omega) (by omega)
        unfold tyof tyo
        split <;> omega
      · rw [if_neg g2]; exact ⟨by omega, by omega⟩
  obtain ⟨f1, f2, F, f3⟩ := fd_end (c := fun _ => 0) (W := WR P R) hW.1 (fun op a b a' q w => WR_j q w) (fun op a b q0 q1 => WR_0 q0 q1) (iniT _) 30000 (gaX P T R.2.1 bud m) G (mu_b g1) g1 g4
  exact ⟨f2, F, f3, fd_all f2 f3 f1⟩
theorem iniT (h : grR P T R) (m0 : 0 ≤ m) (m1 : m < P 3001 0) (nl : Int) : tys P nl (ini P m) := by
  have hW := h.1.1.1
  have hP : 0 ≤ P 3000 0 := by have := hW.1.1; omega
  obtain ⟨z1, -, -, z4, -⟩ := hW.2.2.2 m m0 m1
  intro x x0 x1
  unfold ini
  by_cases g1 : x < rcv P m
  · rw [if_pos g1]; exact ⟨by omega, by omega⟩
  · rw [if_neg g1]
    by_cases g2 : x < rcv P m + P 3015 m
    · rw [if_pos g2]
      have := z4.2.2 (x - rcv P m) (by omega) (by omega)
      unfold tyof tyo
      split <;> omega
    · rw [if_neg g2]; exact ⟨by omega, by omega⟩
theorem l79 (h : grR P T R) (hpr : prg P) (hoo : ¬ o = o2 ∧ ¬ o = o2 + 17) (ho2 : ¬ o2 = 0) (hB0 : gbC σ0 o P T R bud) (hp6 : σ0.2.1 6 = o2) (hR0 : ∀ m, 0 ≤ m → m < 80 → σ0.2.2 4000 92 m = R.1 m) : ∀ (n k : Nat) (σ : j3_S), (k : Int) + n = P 3001 0 → mkF o2 σ0 σ → lyC σ o2 P T R bud k → ctC σ (ctS P T R bud k) → (∀ σ', mkF o2 σ0 σ' → lyC σ' o2 P T R bud (P 3001 0) → ctC σ' (ctS P T R bud (P 3001 0).toNat) → T79 (d + 7) Q 25 [wO 6 83, wO 3 o1, wO 3 o3, wA 9008 0, wI x4, wI x5, wI (P 3001 0)] [] σ') → T79 (d + 7) Q 25 [wO 6 83, wO 3 o1, wO 3 o3, wA 9008 0, wI x4, wI x5, wI k] [] σ
  | 0, k, σ, hk, hf, hL, hc, hQ => by
    rw [show (k : Int) = P 3001 0 by omega]
    rw [show (k : Int) = P 3001 0 by omega] at hL
    rw [show k = (P 3001 0).toNat by omega] at hc
    exact hQ σ hf hL hc
  | n + 1, k, σ, hk, hf, hL, hc, hQ => by
    have hg := h.1.1
    have h80 := hg.1.2.1.2.1
    have hB := hB0.mk hf hoo
    have again := fun σ' hf' => l79 h hpr hoo ho2 hB0 hp6 hR0 n (k + 1) σ' (by push_cast; omega) hf'
    have eC : ctS P T R bud (k + 1) = if R.1 k = 1 then fun i => addc (ctS P T R bud k) (nbS P T R.2.1 k (P 0 k).toNat) (gaE P T R.2.1 bud k).2.2.2.2 i + foC P T R.2.1 bud k i else ctS P T R bud k := rfl
    rw [eC] at again
    have hR : σ.2.2 4000 92 k = R.1 k := by rw [hf.1.2.2 4000 92 rfl]; exact hR0 k (by omega) (by omega)
    have p6 : σ.2.1 6 = o2 := by rw [hf.1.1]; exact hp6
    rw [b79_25, hB.1.2.1, hB.2.1.2.1, if_pos (by omega), p6, hR]
    refine ⟨hB.1.1, ho2, by omega, by omega, ?_⟩
    generalize hσ1 : ((σ.1, σ.2.1, j3_ast σ.2.2 0 (o2 + 17) k 0) : j3_S) = σ1
    have l1 : lyF o2 k σ σ1 := by
      rw [← hσ1]
      refine ⟨frm.A rfl frm.rf, fun e o' he ho => ?_, fun z hz => ⟨fun e e0 e1 => ?_, rfl, rfl⟩, fun z hz => ⟨?_, rfl⟩⟩
      · exact up_ne (fun q => ho q.2)
      · show j3_up σ.2.2 0 (o2 + 17) (i_up (σ.2.2 0 (o2 + 17)) k 0) e (o2 + 17) z = _
        rw [up_ne (fun q => by omega)]
      · show j3_up σ.2.2 0 (o2 + 17) (i_up (σ.2.2 0 (o2 + 17)) k 0) 0 (o2 + 17) z = _
        rw [up_r, iu_n hz]
    have z1 : σ1.2.2 0 (o2 + 17) k = 0 := by
      rw [← hσ1]
      show j3_up σ.2.2 0 (o2 + 17) (i_up (σ.2.2 0 (o2 + 17)) k 0) 0 (o2 + 17) k = 0
      rw [up_r, iu_r]
    have c1 : ctC σ1 (ctS P T R bud k) := fun i i0 i1 => by rw [l1.1.2.2 6005 83 rfl]; exact hc i i0 i1
    clear hσ1
    -- what was laid stays
    have stay : ∀ σ2 : j3_S, ((∀ z, z < (k : Int) * 120 ∨ (k : Int) * 120 + 120 ≤ z → (∀ e, 1 ≤ e → e ≤ 4 → σ2.2.2 e (o2 + 17) z = σ1.2.2 e (o2 + 17) z) ∧ σ2.2.2 6003 83 z = σ1.2.2 6003 83 z ∧ σ2.2.2 6004 83 z = σ1.2.2 6004 83 z) ∧ ∀ z, ¬ z = (k : Int) → σ2.2.2 0 (o2 + 17) z = σ1.2.2 0 (o2 + 17) z ∧ σ2.2.2 6010 83 z = σ1.2.2 6010 83 z) → lyC σ2 o2 P T R bud k := by
      intro σ2 h2 m m0 m1
      obtain ⟨a1, a2⟩ := hL m m0 m1
      have mk : ¬ m = (k : Int) := by omega
      have e2 : (∀ z, z < (k : Int) * 120 ∨ (k : Int) * 120 + 120 ≤ z → (∀ e, 1 ≤ e → e ≤ 4 → σ2.2.2 e (o2 + 17) z = σ.2.2 e (o2 + 17) z) ∧ σ2.2.2 6003 83 z = σ.2.2 6003 83 z ∧ σ2.2.2 6004 83 z = σ.2.2 6004 83 z) ∧ ∀ z, ¬ z = (k : Int) → σ2.2.2 0 (o2 + 17) z = σ.2.2 0 (o2 + 17) z ∧ σ2.2.2 6010 83 z = σ.2.2 6010 83 z := by
        refine ⟨fun z hz => ?_, fun z hz => ?_⟩
        · obtain ⟨b1, b2, b3⟩ := l1.2.2.1 z hz
          obtain ⟨d1, d2, d3⟩ := h2.1 z hz
          exact ⟨fun e e0 e1 => (d1 e e0 e1).trans (b1 e e0 e1), d2.trans b2, d3.trans b3⟩
        · obtain ⟨b1, b2⟩ := l1.2.2.2 z hz
          obtain ⟨d1, d2⟩ := h2.2 z hz
          exact ⟨d1.trans b1, d2.trans b2⟩
      refine ⟨fun g => ?_, fun g => by rw [(e2.2 m mk).1]; exact a2 g⟩
      obtain ⟨b1, b2, b3⟩ := a1 g
      refine ⟨by rw [(e2.2 m mk).1]; exact b1, by rw [(e2.2 m mk).2]; exact b2, fun i i0 i1 => ?_⟩
      have n120 := (fo_ok (bud := bud) h m0 (by omega) g).1.1.2
      obtain ⟨q1, q2, q3⟩ := e2.1 (m * 120 + i) (by omega)
      rw [q1 1 (by omega) (by omega), q1 2 (by omega) (by omega), q1 3 (by omega) (by omega), q1 4 (by omega) (by omega), q2, q3]
      exact b3 i i0 i1
    have F1 := hf.tr l1.mk
    by_cases g : R.1 k = 1
    · rw [if_pos g] at again ⊢
      have hB1 := hB0.mk F1 hoo
      obtain ⟨bb, bb2⟩ : (∀ i, 0 ≤ ctS P T R bud k i) ∧ ∀ i, ctS P T R bud k i ≤ 80 * 40000 := ⟨fun i => (ct_b h k (by omega) i).1, fun i => by have := (ct_b (bud := bud) h k (by omega) i).2; omega⟩
      have b0 := bb 0
      have b1 := bb 1
      have b2 := bb2 0
      have b3 := bb2 1
      refine s80 (d := d + 3) hB1 h hpr (by omega) (by omega) g c1 ⟨b0, b1⟩ ⟨by omega, by omega⟩ (fun σ2 f2 x2 l2 c2 => ?_)
      simp only [Option.toList_none, List.nil_append]
      rw [b79_47]
      obtain ⟨g1, g2, -, G, g4⟩ := ga_all (bud := bud) h (m := k) (by omega) (by omega) g
      obtain ⟨-, -, -, -, -, q6, -⟩ := hg.1.2.2.2 k (by omega) (by omega)
      have nb := nbS_b (P := P) (T := T) (R := R) (m := k) (P 0 k).toNat
      obtain ⟨-, -, -, -, v6, v7⟩ := gs_v (bud := bud) h (m := k) (by omega) (by omega) g (P 0 k).toNat (by omega)
      have ee : gsN P T R.2.1 bud k (P 0 k).toNat = gaE P T R.2.1 bud k := rfl
      rw [ee] at v6 v7
      refine s109 (W := WR P R) hg.1.1 (fun op a b a' q w => WR_j q w) (fun op a b q0 q1 => WR_0 q0 q1) (iniT h (m := k) (by omega) (by omega) _) g2.2 g1 g4 x2 (c := addc (ctS P T R bud k) (nbS P T R.2.1 k (P 0 k).toNat) (gaE P T R.2.1 bud k).2.2.2.2) (fun i i0 i1 => ⟨c2 i i0 i1, ?_, ?_⟩) (fun σ3 f3 x3 c3 => ?_)
      · have := bb i
        rw [addc_v]
        split
        · omega
        · split <;> omega
      · have := bb2 i
        rw [addc_v]
        split
        · omega
        · split <;> omega
      · simp only [Option.toList_none, List.nil_append]
        have f23 : mkF o2 σ1 σ3 := (mkF.of f2 rfl rfl rfl).tr (mkF.of f3 rfl rfl rfl)
        have efx : (fdS 30000 (gaX P T R.2.1 bud k) (addc (ctS P T R bud k) (nbS P T R.2.1 k (P 0 k).toNat) (gaE P T R.2.1 bud k).2.2.2.2)).1 = foX P T R.2.1 bud k := (fd_c _ _ _).1
        rw [efx] at x3
        obtain ⟨o1', -⟩ := fo_ok (bud := bud) h (m := k) (by omega) (by omega) g
        rw [b79_52]
        refine s87 (d := d + 4) (o2 := o2) (l := (gaE P T R.2.1 bud k).2.1) (by rw [f23.1.1, l1.1.1, hf.1.1]; exact hp6) ho2 (by omega) (by omega) x3 (by have := o1'.1; omega) o1'.1.2 (by rw [f3.2.1 7001 96 rfl]; exact l2) (fun σ4 l4 y4 => ?_)
        simp only [Option.toList_none, List.nil_append]
        rw [b79_55, wr_id (by omega) (by omega), show (k : Int) + 1 = ((k + 1 : Nat) : Int) by push_cast; omega]
        refine again σ4 (F1.tr (f23.tr l4.mk)) (fun m m0 m1 => ?_) (fun i i0 i1 => ?_) hQ
        · by_cases gm : m = k
          · subst gm
            exact ⟨fun _ => y4, fun g' => by rw [g] at g'; exact absurd g' (by decide)⟩
          · have fb : frm [7000, 7001, 7009] [7002, 7003, 7004, 7005, 7006, 7007, 7008, 7010, 7011, 6005, 6009] σ1 σ3 := (f2.wd (sub_el rfl) (sub_el rfl)).tr (f3.wd (sub_el rfl) (sub_el rfl))
            refine stay σ4 ⟨fun z hz => ?_, fun z hz => ?_⟩ m m0 (by push_cast at m1; omega)
            · obtain ⟨d1, d2, d3⟩ := l4.2.2.1 z hz
              exact ⟨fun e e0 e1 => by rw [d1 e e0 e1, fb.2.2 e _ (le4 rfl e (by omega))], by rw [d2, fb.2.2 6003 _ rfl], by rw [d3, fb.2.2 6004 _ rfl]⟩
            · obtain ⟨d1, d2⟩ := l4.2.2.2 z hz
              exact ⟨by rw [d1, fb.2.2 0 _ rfl], by rw [d2, fb.2.2 6010 _ rfl]⟩
        · rw [l4.1.2.2 6005 83 rfl, c3 i i0 i1, ((fd_c 30000 _ _).2 i).1]
          rfl
    · rw [if_neg g] at again ⊢
      rw [b79_55, wr_id (by omega) (by omega), show (k : Int) + 1 = ((k + 1 : Nat) : Int) by push_cast; omega]
      refine again σ1 F1 (fun m m0 m1 => ?_) c1 hQ
      by_cases gm : m = k
      · subst gm
        exact ⟨fun g' => absurd g' g, fun _ => z1⟩
      · exact stay σ1 ⟨fun z _ => ⟨fun _ _ _ => rfl, rfl, rfl⟩, fun z _ => ⟨rfl, rfl⟩⟩ m m0 (by push_cast at m1; omega)
end CLOOP
