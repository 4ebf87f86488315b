/-! what is known at a CALL or SEND -/
section CALLF
variable {P : Pg} {T : Int → Fl} {M : Mc}
abbrev tT (P : Pg) (M : Mc) : Int := P 3007 (tA P M) + tB P M
abbrev tU (P : Pg) (T : Int → Fl) (M : Mc) : Int := if tO P M = 21 then fnd P (P 3012 (tT P M)) 10 (M.oc (M.sk (M.dp - 1) (tn T M - caL P (tT P M)) - 1)) else tT P M
theorem call_f (hg : good P) (hT : typed P T) (h : TyM P T M) (hc : tO P M = 20 ∨ tO P M = 21) : (0 ≤ tT P M ∧ tT P M < P 3001 0 ∧ (0 ≤ P 3015 (tT P M) ∧ P 3015 (tT P M) ≤ 3) ∧ (P 3013 (tT P M) = 0 ∨ P 3013 (tT P M) = 1)) ∧ (0 ≤ caL P (tT P M) ∧ caL P (tT P M) ≤ 4 ∧ caL P (tT P M) ≤ tn T M) ∧ (tO P M = 21 → P 3013 (tT P M) = 0) ∧ (P 3013 (tT P M) = 0 → (0 ≤ M.sk (M.dp - 1) (tn T M - caL P (tT P M)) ∧ M.sk (M.dp - 1) (tn T M - caL P (tT P M)) ≤ M.no) ∧ (¬ M.sk (M.dp - 1) (tn T M - caL P (tT P M)) = 0 → 1 ≤ M.sk (M.dp - 1) (tn T M - caL P (tT P M)) ∧ cv P (tA P M) (M.oc (M.sk (M.dp - 1) (tn T M - caL P (tT P M)) - 1)) = true)) ∧ (¬ (P 3013 (tT P M) = 0 ∧ M.sk (M.dp - 1) (tn T M - caL P (tT P M)) = 0) → 0 ≤ tU P T M ∧ tU P T M < P 3001 0 ∧ lik P (tU P T M) (tT P M)) := by
  have hW := hg.1
  have hs := hW.1
  obtain ⟨⟨-, t2, -⟩, e1, -, -⟩ := h.tI hT
  have t2 : stk P (tn T M) (ts T M) := t2
  have e1 : exf P (tm M) (tO P M) (tA P M) (tB P M) (tn T M) (ts T M) (tl T M) = 0 := e1
  have vs := h.vs
  have hp := h.2.1
  have hn0 := hp.1.1
  have hoc := hp.2.1
  obtain ⟨o0, o1, i2, i3, i4, i5, i6⟩ := h.ik hW
  have ra := i4 (by omega)
  have rb := i6 (by omega)
  have hma := hW.2.1.2.2 _ ra.1 ra.2
  have h21 : tO P M = 21 → P 3013 (tT P M) = 0 := fun g => by
    have h1 := h.2.2.1.1
    exact (hg.2.2.1 _ _ h1.1 h1.2.1 h1.2.2.1 h1.2.2.2.1).2 g
  have own := (hg.2.1 _ ra.1 ra.2).2 _ rb.1 rb.2
  have fc := fun n c => fnd_cv hg ra.1 ra.2 rb.1 rb.2 n c
  have hwl : wl P (tm M) (tO P M) (tA P M) (tB P M) = cw P (tA P M) (tT P M) := by
    rcases hc with g | g <;> (rw [g]; rfl)
  unfold tU
  generalize ht : tT P M = t at *
  have t0 : 0 ≤ t := by rw [← ht]; show 0 ≤ P 3007 (tA P M) + tB P M; omega
  have t1 : t < P 3001 0 := by rw [← ht]; show P 3007 (tA P M) + tB P M < _; omega
  obtain ⟨-, w3013, -, ⟨w1, w1', -⟩, -⟩ := hW.2.2.2 t t0 t1
  have hlen := cw_len (a := tA P M) w1
  obtain ⟨z1, z2, -⟩ := exf_z (wn := caL P t) e1 (by rw [hwl]; exact hlen)
  rw [hwl] at z2
  have rc := rcv_01 (P := P) (m := t)
  have ac : caL P t = P 3015 t + rcv P t := rfl
  have hrc : P 3013 t = 0 → (0 ≤ M.sk (M.dp - 1) (tn T M - caL P t) ∧ M.sk (M.dp - 1) (tn T M - caL P t) ≤ M.no) ∧ (¬ M.sk (M.dp - 1) (tn T M - caL P t) = 0 → 1 ≤ M.sk (M.dp - 1) (tn T M - caL P t) ∧ cv P (tA P M) (M.oc (M.sk (M.dp - 1) (tn T M - caL P t) - 1)) = true) := by
    intro q
    have r1 : rcv P t = 1 := by unfold rcv; rw [if_pos q]
    have f := af_get _ z2 0 (by omega)
    rw [cwg0 q] at f
    have v1 := vs (tn T M - caL P t) (by omega) (by omega)
    have e0 : tn T M - caL P t + ((0 : Nat) : Int) = tn T M - caL P t := by omega
    rw [e0] at f
    have v2 := (vt_ft hs hn0 hoc v1 (t2 _ (by omega) (by omega)).1 f (Or.inl (by omega))).1 (by omega)
    have v3 := v2.2.1 (by omega)
    have v4 := v2.2.2 (by omega)
    rw [show 4 + tA P M - 4 = tA P M by omega] at v4
    exact ⟨v3, fun nz => v4.resolve_left nz⟩
  refine ⟨⟨t0, t1, ⟨w1, w1'⟩, w3013⟩, ⟨by omega, by omega, z1⟩, h21, hrc, fun nt => ?_⟩
  rcases hc with g | g
  · rw [if_neg (by omega)]
    exact ⟨t0, t1, rfl, rfl, rfl, fun _ _ _ => rfl⟩
  · have q := h21 g
    obtain ⟨r1, r2⟩ := hrc q
    have r3 := r2 (fun e => nt ⟨q, e⟩)
    have ho := hoc (M.sk (M.dp - 1) (tn T M - caL P t) - 1) (by omega) (by omega)
    have hn := hs.2.1
    obtain ⟨k, j, ⟨c1, c2, c3, c4, c5⟩, c6, c7⟩ := fc 10 _ (by omega) ho.2 r3.2
    have hk := hW.2.1.2.2 k c2 c3
    rw [if_pos g]
    have e : P 3007 (tA P M) + tB P M = t := ht
    rw [e] at c6 c7
    rw [c6]
    exact ⟨by omega, by omega, c7⟩
end CALLF
