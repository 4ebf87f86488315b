section STEP
variable {P : Pg} {T : Int → Fl} {M : Mc}
theorem af_1 {s : Int → Int} {w q : Int} (h : af P s [w] q 1 = true) : ftt P (s q) w = true := by
  simp only [af, Bool.and_true] at h
  simpa using h
theorem af_2 {s : Int → Int} {w w' q : Int} (h : af P s [w, w'] q 2 = true) : ftt P (s q) w = true ∧ ftt P (s (q + 1)) w' = true := by
  simp only [af, Bool.and_true, Bool.and_eq_true] at h
  exact ⟨by simpa using h.2, by simpa using h.1⟩
theorem tyof_g (w : Int) (h : 0 ≤ w) : tyof w = 1 ∨ 4 ≤ tyof w := by
  unfold tyof
  split
  · exact Or.inl rfl
  · right; omega
/-- what fits a field's type -/
theorem vt_tf {no : Int} {oc : Int → Int} {t v w : Int} (hs : WFs P) (h0 : 0 ≤ no) (hoc : ∀ o, 0 ≤ o → o < no → 0 ≤ oc o ∧ oc o < P 3000 0) (h : vt P no oc t v) (ht : 1 ≤ t) (hw : 0 ≤ w) (hf : ftt P t (tyof w) = true) : vt P no oc (tyof w) v := by
  rcases tyof_g w hw with g | g
  · rw [g]; exact vt_0 (by omega)
  · exact (vt_ft hs h0 hoc h ht hf (Or.inl g)).1 g
theorem ty_stp (hg : good P) (hT : typed P T) (h : TyM P T M) (he : (stp P M).en = -1) (hc : tO P M < 20 ∨ 22 < tO P M) : TyM P T (stp P M) := by
  have hW := hg.1
  have hs := hW.1
  obtain ⟨⟨-, t2, -⟩, e1, -, -⟩ := h.tI hT
  have t2 : stk P (tn T M) (ts T M) := t2
  have e1 : exf P (tm M) (tO P M) (tA P M) (tB P M) (tn T M) (ts T M) (tl T M) = 0 := e1
  have ik := h.ik hW
  have vs := h.vs
  have vl := h.vl
  have hht := h.hh
  have hp := h.2.1
  have hn0 := hp.1.1
  have hoc := hp.2.1
  have hS : stp P M = stO P M (M.dp - 1) (tm M) (ti M) (tO P M) (tA P M) (tB P M) (M.ht (M.dp - 1)) (M.sk (M.dp - 1)) := rfl
  rw [hS, hht] at he ⊢
  have i0 : 0 ≤ ti M := h.2.2.1.1.2.2.1
  clear hS
  obtain ⟨o0, o1, i2, i3, i4, i5, i6⟩ := ik
  have wz := fun wn hw => (exf_z (wn := wn) e1 hw)
  unfold stO at he ⊢
  by_cases g : tO P M = 0
  · rw [if_pos g]
    exact h.g hW hT (wn := 0) (gn := 1) (G := [1]) (by rw [g]; rfl) (by rw [g]; rfl) rfl (by omega) (Or.inl ⟨rfl, by rw [g]; rfl⟩) (by omega) (vt_up (fun q q0 q1 => vs q q0 (by omega)) (vt_0 (by omega)) (by omega))
  rw [if_neg g] at he ⊢
  by_cases g : tO P M = 1
  · rw [if_pos g]
    exact h.g hW hT (wn := 0) (gn := 1) (G := [2]) (by rw [g]; rfl) (by rw [g]; rfl) rfl (by omega) (Or.inl ⟨rfl, by rw [g]; rfl⟩) (by omega) (vt_up (fun q q0 q1 => vs q q0 (by omega)) (vt_z hn0) (by omega))
  rw [if_neg g] at he ⊢
  by_cases g : tO P M = 2
  · rw [if_pos g]
    have := i2 (Or.inl g)
    exact h.g hW hT (wn := 0) (gn := 1) (G := [tl T M (tA P M)]) (by rw [g]; rfl) (by rw [g]; rfl) rfl (by omega) (Or.inl ⟨rfl, by rw [g]; rfl⟩) (by omega) (vt_up (fun q q0 q1 => vs q q0 (by omega)) (vl _ this.1 this.2) (by omega))
  rw [if_neg g] at he ⊢
  by_cases g : tO P M = 3
  · rw [if_pos g]
    have w1 : ((wl P (tm M) (tO P M) (tA P M) (tB P M)).length : Int) = 1 := by rw [g]; rfl
    have w2 : 1 ≤ tn T M := (wz 1 w1).1
    refine h.nx hW hT (wn := 1) (gn := 0) (G := []) w1 (by rw [g]; rfl) rfl rfl rfl (fun k hk => ?_) (Int.le_refl _) (fun _ _ _ => rfl) hp (Or.inl ⟨?_, by rw [g]; rfl⟩) ?_ (fun q q0 q1 => ?_) (fun x x0 x1 => ?_)
    · refine ⟨?_, ?_, ?_, ?_⟩
      · show i_up _ _ _ k = _
        simp only [i_up, if_neg hk]
      · show i_up _ _ _ k = _
        simp only [i_up, if_neg hk]
      · show up2 _ _ _ k = _
        simp only [up2, if_neg hk]
      · show up2 _ _ _ k = _
        simp only [up2, if_neg hk]
    · show i_up _ _ _ (M.dp - 1) = _
      simp only [i_up, if_true]
    · show i_up _ _ _ (M.dp - 1) = _
      simp only [i_up, if_true]
      omega
    · show vt P M.no M.oc (ts T M q) (up2 M.sk (M.dp - 1) (M.sk (M.dp - 1)) (M.dp - 1) q)
      simp only [up2, if_true]
      exact vs q q0 (by omega)
    · show vt P M.no M.oc _ (up2 M.lo (M.dp - 1) (i_up (M.lo (M.dp - 1)) (tA P M) (M.sk (M.dp - 1) (tn T M - 1))) (M.dp - 1) x)
      simp only [up2, if_true]
      unfold exl
      rw [if_pos g, w1]
      simp only [i_up]
      by_cases gx : x = tA P M
      · rw [if_pos gx, if_pos gx]
        exact vs _ (by omega) (by omega)
      · rw [if_neg gx, if_neg gx]
        exact vl x x0 x1
  rw [if_neg g] at he ⊢
  have g3 := g
  by_cases g : tO P M = 4
  · rw [if_pos g]
    have w1 : ((wl P (tm M) (tO P M) (tA P M) (tB P M)).length : Int) = 1 := by rw [g]; rfl
    exact h.g hW hT (wn := 1) (gn := 0) (G := []) w1 (by rw [g]; rfl) rfl g3 (Or.inl ⟨rfl, by rw [g]; rfl⟩) (by omega) (fun q q0 q1 => vs q q0 (by omega))
  rw [if_neg g] at he ⊢
  by_cases g : tO P M = 5
  · rw [if_pos g]
    have w1 : ((wl P (tm M) (tO P M) (tA P M) (tB P M)).length : Int) = 1 := by rw [g]; rfl
    have w2 : 1 ≤ tn T M := (wz 1 w1).1
    refine h.g hW hT (wn := 1) (gn := 2) (G := [ts T M (tn T M - 1), ts T M (tn T M - 1)]) w1 (by rw [g]; rfl) rfl g3 (Or.inl ⟨rfl, by rw [g]; rfl⟩) (by omega) (fun q q0 q1 => ?_)
    show vt P M.no M.oc (i_up (i_up (ts T M) (tn T M - 1) (ts T M (tn T M - 1))) (tn T M - 1 + 1) (ts T M (tn T M - 1)) q) _
    simp only [i_up]
    by_cases q2 : q = tn T M
    · rw [if_pos (by omega), if_pos q2]
      exact vs _ (by omega) (by omega)
    · rw [if_neg (by omega), if_neg q2]
      by_cases q3 : q = tn T M - 1
      · rw [if_pos q3, ← q3]
        exact vs q q0 (by omega)
      · rw [if_neg q3]
        exact vs q q0 (by omega)
  rw [if_neg g] at he ⊢
  by_cases g : tO P M ≤ 10
  · rw [if_pos g] at he ⊢
    by_cases g2 : 9 ≤ tO P M ∧ M.sk (M.dp - 1) (tn T M - 1) = 0
    · rw [if_pos g2] at he
      exact absurd (show (1 : Int) = -1 from he) (by decide)
    · rw [if_neg g2]
      have hwl : wl P (tm M) (tO P M) (tA P M) (tB P M) = [1, 1] := by
        unfold wl
        rw [if_neg (by omega), if_neg (by omega), if_pos (by omega)]
      have hgx : gx P (tO P M) (tA P M) (tB P M) (ts T M) (tl T M) (tn T M - 2) = [1] := by
        unfold gx g1
        rw [if_neg (by omega), if_neg (by omega), if_neg (by omega), if_neg (by omega), if_pos (by omega)]
      have hgo : gon (tO P M) = true := by simp [gon]; omega
      have w2 : 2 ≤ tn T M := (wz 2 (by rw [hwl]; rfl)).1
      exact h.g hW hT (wn := 2) (gn := 1) (G := [1]) (by rw [hwl]; rfl) hgx rfl g3 (Or.inl ⟨rfl, hgo⟩) (by omega) (vt_up (fun q q0 q1 => vs q q0 (by omega)) (vt_0 (by omega)) (by omega))
  rw [if_neg g] at he ⊢
  by_cases g : tO P M = 11
  · rw [if_pos g]
    exact h.g hW hT (wn := 0) (gn := 0) (G := []) (by rw [g]; rfl) (by rw [g]; rfl) rfl g3 (Or.inr ⟨rfl, by rw [g]; rfl⟩) (by omega) (fun q q0 q1 => vs q q0 (by omega))
  rw [if_neg g] at he ⊢
  by_cases g : tO P M = 12 ∨ tO P M = 14
  · rw [if_pos g]
    have w1 : ((wl P (tm M) (tO P M) (tA P M) (tB P M)).length : Int) = 1 := by rcases g with g | g <;> (rw [g]; rfl)
    have w3 : gx P (tO P M) (tA P M) (tB P M) (ts T M) (tl T M) (tn T M - 1) = [] := by rcases g with g | g <;> (rw [g]; rfl)
    refine h.g hW hT (wn := 1) (gn := 0) (G := []) w1 w3 rfl g3 ?_ (by omega) (fun q q0 q1 => vs q q0 (by omega))
    by_cases gz : M.sk (M.dp - 1) (tn T M - 1) = 0
    · rw [if_pos gz]
      exact Or.inr ⟨rfl, by rcases g with g | g <;> (rw [g]; rfl)⟩
    · rw [if_neg gz]
      exact Or.inl ⟨rfl, by rcases g with g | g <;> (rw [g]; rfl)⟩
  rw [if_neg g] at he ⊢
  by_cases g : tO P M = 13
  · rw [if_pos g]
    have w1 : ((wl P (tm M) (tO P M) (tA P M) (tB P M)).length : Int) = 2 := by rw [g]; rfl
    refine h.g hW hT (wn := 2) (gn := 0) (G := []) w1 (by rw [g]; rfl) rfl g3 ?_ (by omega) (fun q q0 q1 => vs q q0 (by omega))
    by_cases gz : M.sk (M.dp - 1) (tn T M - 2) < M.sk (M.dp - 1) (tn T M - 1)
    · rw [if_pos gz]
      exact Or.inr ⟨rfl, by rw [g]; rfl⟩
    · rw [if_neg gz]
      exact Or.inl ⟨rfl, by rw [g]; rfl⟩
  rw [if_neg g] at he ⊢
  have i9 : ∀ c f, 0 ≤ c → c < P 3000 0 → 0 ≤ f → f < P 3005 c → 0 ≤ P 3009 (c * 6 + f) := fun c f c0 c1 f0 f1 => ((hW.2.2.1 c c0 c1).2.2 f f0 f1).1
  have i45 : ∀ c f, 0 ≤ f → P 3005 c ≤ 6 → f < P 3005 c → ∀ c' f', 0 ≤ f' → P 3005 c' ≤ 6 → f' < P 3005 c' → 6 * c + f = 6 * c' + f' → c = c' ∧ f = f' := fun c f f0 f1 f2 c' f' f0' f1' f2' e => by omega
  by_cases g : tO P M = 15
  · rw [if_pos g] at he ⊢
    by_cases g2 : M.no = 200
    · rw [if_pos g2] at he
      exact absurd (show (1 : Int) = -1 from he) (by decide)
    · rw [if_neg g2]
      have ra := i4 (Or.inl g)
      have hno : M.no ≤ M.no + 1 := by omega
      have oo : ∀ o, 0 ≤ o → o < M.no → i_up M.oc M.no (tA P M) o = M.oc o := fun o o0 o1 => by simp only [i_up, if_neg (show ¬ o = M.no by omega)]
      refine h.nx hW hT (wn := 0) (gn := 1) (G := [4 + tA P M]) (by rw [g]; rfl) (by rw [g]; rfl) rfl rfl rfl (fun k hk => go_o k hk) hno oo ⟨⟨?_, ?_⟩, fun o o0 o1 => ?_, fun o c f o0 o1 hc f0 f1 => ?_, fun c f c0 c1 f0 f1 => ?_⟩ (Or.inl ⟨?_, by rw [g]; rfl⟩) ?_ (fun q q0 q1 => ?_) (fun x x0 x1 => ?_)
      · show 0 ≤ M.no + 1
        omega
      · show M.no + 1 ≤ 200
        have := hp.1.2
        omega
      · show 0 ≤ i_up M.oc M.no (tA P M) o ∧ i_up M.oc M.no (tA P M) o < P 3000 0
        have o1 : o < M.no + 1 := o1
        by_cases go : o = M.no
        · simp only [i_up, if_pos go]; exact ra
        · rw [oo o o0 (by omega)]; exact hoc o o0 (by omega)
      · show vt P (M.no + 1) (i_up M.oc M.no (tA P M)) _ ((if o = M.no then fun _ _ => 0 else M.fd o) c f)
        have o1 : o < M.no + 1 := o1
        by_cases go : o = M.no
        · rw [if_pos go]; exact vt_z (by omega)
        · rw [if_neg go]
          have hc : cv P c (i_up M.oc M.no (tA P M) o) = true := hc
          rw [oo o o0 (by omega)] at hc
          exact vt_mo (hp.2.2.1 o c f o0 (by omega) hc f0 f1) hno oo
      · exact vt_mo (hp.2.2.2 c f c0 c1 f0 f1) hno oo
      · show i_up _ _ _ (M.dp - 1) = _
        simp only [i_up, if_true]
      · show i_up _ _ _ (M.dp - 1) = _
        simp only [i_up, if_true]
        omega
      · show vt P (M.no + 1) (i_up M.oc M.no (tA P M)) _ (up2 M.sk (M.dp - 1) (i_up (M.sk (M.dp - 1)) (tn T M) (M.no + 1)) (M.dp - 1) q)
        simp only [up2, if_true]
        refine vt_up (n := tn T M - 0) (fun q q0 q1 => vt_mo (vs q q0 (by omega)) hno oo) ⟨fun e => by omega, fun _ => by omega, fun _ => Or.inr ⟨by omega, ?_⟩⟩ (by omega) q q0 q1
        simp only [i_up, if_pos (show M.no + 1 - 1 = M.no by omega)]
        rw [show 4 + tA P M - 4 = tA P M by omega]
        exact cv_r hs ra.1 ra.2
      · show vt P (M.no + 1) (i_up M.oc M.no (tA P M)) _ (M.lo (M.dp - 1) x)
        unfold exl
        rw [if_neg g3]
        exact vt_mo (vl x x0 x1) hno oo
  rw [if_neg g] at he ⊢
  by_cases g : tO P M = 16
  · rw [if_pos g] at he ⊢
    by_cases g2 : M.sk (M.dp - 1) (tn T M - 1) = 0
    · rw [if_pos g2] at he
      exact absurd (show (1 : Int) = -1 from he) (by decide)
    · rw [if_neg g2]
      have ra := i4 (by omega)
      have rb := i5 (by omega)
      have hwl : wl P (tm M) (tO P M) (tA P M) (tB P M) = [4 + tA P M] := by rw [g]; rfl
      have w1 : ((wl P (tm M) (tO P M) (tA P M) (tB P M)).length : Int) = 1 := by rw [hwl]; rfl
      obtain ⟨w2, w3, -⟩ := wz 1 w1
      rw [hwl] at w3
      have v1 := vs (tn T M - 1) (by omega) (by omega)
      have v2 := (vt_ft hs hn0 hoc v1 (t2 _ (by omega) (by omega)).1 (af_1 w3) (Or.inl (by omega))).1 (by omega)
      have v3 := v2.2.1 (by omega)
      have v4 := (v2.2.2 (by omega)).resolve_left g2
      rw [show 4 + tA P M - 4 = tA P M by omega] at v4
      exact h.g hW hT (wn := 1) (gn := 1) (G := [tyof (P 3009 (tA P M * 6 + tB P M))]) w1 (by rw [g]; rfl) rfl g3 (Or.inl ⟨rfl, by rw [g]; rfl⟩) (by omega) (vt_up (fun q q0 q1 => vs q q0 (by omega)) (hp.2.2.1 _ _ _ (by omega) (by omega) v4.2 rb.1 rb.2) rfl)
  rw [if_neg g] at he ⊢
  by_cases g : tO P M = 17
  · rw [if_pos g] at he ⊢
    by_cases g2 : M.sk (M.dp - 1) (tn T M - 2) = 0
    · rw [if_pos g2] at he
      exact absurd (show (1 : Int) = -1 from he) (by decide)
    · rw [if_neg g2]
      have ra := i4 (by omega)
      have rb := i5 (by omega)
      have hwl : wl P (tm M) (tO P M) (tA P M) (tB P M) = [4 + tA P M, tyof (P 3009 (tA P M * 6 + tB P M))] := by rw [g]; rfl
      have w1 : ((wl P (tm M) (tO P M) (tA P M) (tB P M)).length : Int) = 2 := by rw [hwl]; rfl
      obtain ⟨w2, w3, -⟩ := wz 2 w1
      rw [hwl] at w3
      have v1 := vs (tn T M - 1) (by omega) (by omega)
      have f2 := (af_2 w3).2
      rw [show tn T M - 2 + 1 = tn T M - 1 by omega] at f2
      have v5 := vt_tf hs hn0 hoc v1 (t2 _ (by omega) (by omega)).1 (i9 _ _ ra.1 ra.2 rb.1 rb.2) f2
      refine h.nx hW hT (wn := 2) (gn := 0) (G := []) w1 (by rw [g]; rfl) rfl rfl rfl (fun k hk => go_o k hk) (Int.le_refl _) (fun _ _ _ => rfl) ⟨hp.1, hoc, fun o c f o0 o1 hc f0 f1 => ?_, hp.2.2.2⟩ (Or.inl ⟨?_, by rw [g]; rfl⟩) ?_ (fun q q0 q1 => ?_) (fun x x0 x1 => ?_)
      · show vt P M.no M.oc _ (if o = M.sk (M.dp - 1) (tn T M - 2) - 1 ∧ c = tA P M ∧ f = tB P M then M.sk (M.dp - 1) (tn T M - 1) else M.fd o c f)
        by_cases gf : o = M.sk (M.dp - 1) (tn T M - 2) - 1 ∧ c = tA P M ∧ f = tB P M
        · rw [if_pos gf, gf.2.1, gf.2.2]; exact v5
        · rw [if_neg gf]; exact hp.2.2.1 o c f o0 o1 hc f0 f1
      · show i_up _ _ _ (M.dp - 1) = _
        simp only [i_up, if_true]
      · show i_up _ _ _ (M.dp - 1) = _
        simp only [i_up, if_true]
        omega
      · show vt P M.no M.oc (ts T M q) (up2 M.sk (M.dp - 1) (M.sk (M.dp - 1)) (M.dp - 1) q)
        simp only [up2, if_true]
        exact vs q q0 (by omega)
      · unfold exl
        rw [if_neg g3]
        exact vl x x0 x1
  rw [if_neg g] at he ⊢
  by_cases g : tO P M = 18
  · rw [if_pos g]
    have ra := i4 (by omega)
    have rb := i5 (by omega)
    exact h.g hW hT (wn := 0) (gn := 1) (G := [tyof (P 3009 (tA P M * 6 + tB P M))]) (by rw [g]; rfl) (by rw [g]; rfl) rfl (by omega) (Or.inl ⟨rfl, by rw [g]; rfl⟩) (by omega) (vt_up (fun q q0 q1 => vs q q0 (by omega)) (hp.2.2.2 _ _ ra.1 ra.2 rb.1 rb.2) (by omega))
  rw [if_neg g] at he ⊢
  by_cases g : tO P M = 19
  · rw [if_pos g]
    have ra := i4 (by omega)
    have rb := i5 (by omega)
    have hwl : wl P (tm M) (tO P M) (tA P M) (tB P M) = [tyof (P 3009 (tA P M * 6 + tB P M))] := by rw [g]; rfl
    have w1 : ((wl P (tm M) (tO P M) (tA P M) (tB P M)).length : Int) = 1 := by rw [hwl]; rfl
    obtain ⟨w2, w3, -⟩ := wz 1 w1
    rw [hwl] at w3
    have v1 := vs (tn T M - 1) (by omega) (by omega)
    have v5 := vt_tf hs hn0 hoc v1 (t2 _ (by omega) (by omega)).1 (i9 _ _ ra.1 ra.2 rb.1 rb.2) (af_1 w3)
    refine h.nx hW hT (wn := 1) (gn := 0) (G := []) w1 (by rw [g]; rfl) rfl rfl rfl (fun k hk => go_o k hk) (Int.le_refl _) (fun _ _ _ => rfl) ⟨hp.1, hoc, hp.2.2.1, fun c f c0 c1 f0 f1 => ?_⟩ (Or.inl ⟨?_, by rw [g]; rfl⟩) ?_ (fun q q0 q1 => ?_) (fun x x0 x1 => ?_)
    · show vt P M.no M.oc _ (i_up M.gs (6 * tA P M + tB P M) (M.sk (M.dp - 1) (tn T M - 1)) (6 * c + f))
      simp only [i_up]
      have h5 := (hW.2.2.1 c c0 c1).2.1
      have h6 := (hW.2.2.1 _ ra.1 ra.2).2.1
      by_cases gf : 6 * c + f = 6 * tA P M + tB P M
      · obtain ⟨e1, e2⟩ := i45 c f f0 h5 f1 _ _ rb.1 h6 rb.2 gf
        rw [if_pos gf, e1, e2]; exact v5
      · rw [if_neg gf]; exact hp.2.2.2 c f c0 c1 f0 f1
    · show i_up _ _ _ (M.dp - 1) = _
      simp only [i_up, if_true]
    · show i_up _ _ _ (M.dp - 1) = _
      simp only [i_up, if_true]
      omega
    · show vt P M.no M.oc (ts T M q) (up2 M.sk (M.dp - 1) (M.sk (M.dp - 1)) (M.dp - 1) q)
      simp only [up2, if_true]
      exact vs q q0 (by omega)
    · unfold exl
      rw [if_neg g3]
      exact vl x x0 x1
  rw [if_neg g] at he ⊢
  rw [if_neg (by omega), if_neg (by omega)] at he ⊢
  by_cases g : tO P M = 23
  · rw [if_pos g]
    have w1 : ((wl P (tm M) (tO P M) (tA P M) (tB P M)).length : Int) = 1 := by rw [g]; rfl
    exact (h.g hW hT (h' := tn T M - 1) (j := ti M + 1) (s := M.sk (M.dp - 1)) (wn := 1) (gn := 0) (G := []) w1 (by rw [g]; rfl) rfl g3 (Or.inl ⟨rfl, by rw [g]; rfl⟩) (by omega) (fun q q0 q1 => vs q q0 (by omega)) : TyM P T (M.go (M.dp - 1) (tn T M - 1) (M.sk (M.dp - 1)) (ti M + 1)))
  rw [if_neg g] at he ⊢
  by_cases g : tO P M = 24
  · rw [if_pos g] at he ⊢
    have w1 : ((wl P (tm M) (tO P M) (tA P M) (tB P M)).length : Int) = 1 := by rw [g]; rfl
    have hwl : wl P (tm M) (tO P M) (tA P M) (tB P M) = [-2] := by rw [g]; rfl
    obtain ⟨w2, w3, -⟩ := wz 1 w1
    rw [hwl] at w3
    have v1 := vs (tn T M - 1) (by omega) (by omega)
    have v2 := (vt_ft hs hn0 hoc v1 (t2 _ (by omega) (by omega)).1 (af_1 w3) (by omega)).2 rfl
    have v3 := v2.2.1 (by omega)
    by_cases g2 : ¬ M.sk (M.dp - 1) (tn T M - 1) = 0 ∧ cov P (tA P M) 10 (M.oc (M.sk (M.dp - 1) (tn T M - 1) - 1)) = false
    · rw [if_pos g2] at he
      exact absurd (show (1 : Int) = -1 from he) (by decide)
    · rw [if_neg g2]
      refine h.g hW hT (wn := 1) (gn := 1) (G := [4 + tA P M]) w1 (by rw [g]; rfl) rfl g3 (Or.inl ⟨rfl, by rw [g]; rfl⟩) (by omega) (fun q q0 q1 => ?_)
      show vt P M.no M.oc (i_up (ts T M) (tn T M - 1) (4 + tA P M) q) _
      simp only [i_up]
      by_cases gq : q = tn T M - 1
      · rw [if_pos gq, gq]
        have ra := i4 (by omega)
        refine ⟨fun e => by omega, fun _ => v3, fun _ => ?_⟩
        by_cases gz : M.sk (M.dp - 1) (tn T M - 1) = 0
        · exact Or.inl gz
        · refine Or.inr ⟨by omega, ?_⟩
          rw [show 4 + tA P M - 4 = tA P M by omega]
          cases hb : cv P (tA P M) (M.oc (M.sk (M.dp - 1) (tn T M - 1) - 1))
          · exact absurd ⟨gz, hb⟩ g2
          · rfl
      · rw [if_neg gq]
        exact vs q q0 (by omega)
  rw [if_neg g] at he ⊢
  by_cases g : tO P M = 25
  · rw [if_pos g]
    have w1 : ((wl P (tm M) (tO P M) (tA P M) (tB P M)).length : Int) = 1 := by rw [g]; rfl
    exact h.g hW hT (wn := 1) (gn := 1) (G := [1]) w1 (by rw [g]; rfl) rfl g3 (Or.inl ⟨rfl, by rw [g]; rfl⟩) (by omega) (vt_up (fun q q0 q1 => vs q q0 (by omega)) (vt_0 (by omega)) rfl)
  rw [if_neg g] at he
  exact absurd (show (1 : Int) = -1 from he) (by decide)
end STEP
