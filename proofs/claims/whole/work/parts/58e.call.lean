/-! CALL, SEND, RETURN keep the types -/
section CALLT
variable {P : Pg} {T : Int → Fl} {M : Mc}
theorem cw_len {a t : Int} (h : 0 ≤ P 3015 t) : ((cw P a t).length : Int) = caL P t := by
  unfold cw caL rcv prl
  rw [List.length_append, List.length_map, List.length_range]
  split
  · simp only [List.length_cons, List.length_nil]; omega
  · simp only [List.length_nil]; omega
theorem af_get {s : Int → Int} {w : List Int} {q : Int} : ∀ (n : Nat), af P s w q n = true → ∀ x : Nat, x < n → ftt P (s (q + x)) (w.getD x 0) = true
  | 0, _, x, hx => absurd hx (by omega)
  | n + 1, h, x, hx => by
    simp only [af, Bool.and_eq_true] at h
    by_cases g : x = n
    · rw [g]; exact h.1
    · exact af_get n h.2 x (by omega)
theorem prl_get {t : Int} {n x : Nat} (h : x < n) : (prl P t n).getD x 0 = tyof (P 3016 (t * 3 + (x : Int))) := by
  unfold prl
  rw [List.getD_eq_getElem?_getD, List.getElem?_map, List.getElem?_range h]
  rfl
theorem cwg0 {a t : Int} (h : P 3013 t = 0) : (cw P a t).getD 0 0 = 4 + a := by
  unfold cw
  rw [if_pos h]
  rfl
theorem cw_get {a t : Int} {x : Nat} (h0 : 0 ≤ P 3015 t) (h1 : rcv P t ≤ x) (h2 : (x : Int) < caL P t) : (cw P a t).getD x 0 = tyof (P 3016 (t * 3 + ((x : Int) - rcv P t))) := by
  unfold cw
  unfold caL rcv at *
  by_cases g : P 3013 t = 0
  · rw [if_pos g] at h1 h2 ⊢
    obtain ⟨y, rfl⟩ : ∃ y, x = y + 1 := ⟨x - 1, by omega⟩
    rw [if_pos g]
    simp only [List.cons_append, List.nil_append, List.getD_cons_succ]
    rw [prl_get (by omega)]
    congr 2
    omega
  · rw [if_neg g] at h1 h2 ⊢
    rw [if_neg g]
    simp only [List.nil_append]
    rw [prl_get (by omega)]
    congr 2
theorem TyM.of {M' : Mc} {k m i : Int} (hk : M'.dp - 1 = k) (hm : M'.me k = m) (hi : M'.pc k = i) (hd : 1 ≤ M'.dp ∧ M'.dp ≤ 40) (hp : hpt P M') (r : 0 ≤ m ∧ m < P 3001 0 ∧ 0 ≤ i ∧ i < P 0 m ∧ 0 ≤ (T m).1 i) (hh : M'.ht k = (T m).1 i) (vs : ∀ j, 0 ≤ j → j < (T m).1 i → vt P M'.no M'.oc ((T m).2.1 i j) (M'.sk k j)) (vl : ∀ x, 0 ≤ x → x < P 3017 m → vt P M'.no M'.oc ((T m).2.2 i x) (M'.lo k x)) (lw : ∀ k', 0 ≤ k' → k' < k → (opk P M' 1 k' = 20 ∨ opk P M' 1 k' = 21) ∧ frt P T M' k' ((T (M'.me k')).1 (M'.pc k') - caL P (clk0 P M' k')) ∧ P 3014 (M'.me (k' + 1)) = P 3014 (clk0 P M' k')) : TyM P T M' := by
  subst hk hm hi
  exact ⟨hd, hp, ⟨r, hh, vs, vl⟩, lw⟩
/-- a frame below -/
theorem lw_of {M' : Mc} {k : Int} (h : (opk P M 1 k = 20 ∨ opk P M 1 k = 21) ∧ frt P T M k ((T (M.me k)).1 (M.pc k) - caL P (clk0 P M k)) ∧ P 3014 (M.me (k + 1)) = P 3014 (clk0 P M k)) (hm : M'.me k = M.me k) (hm' : P 3014 (M'.me (k + 1)) = P 3014 (M.me (k + 1))) (hi : M'.pc k = M.pc k) (hh : M'.ht k = M.ht k) (hs : M'.sk k = M.sk k) (hl : M'.lo k = M.lo k) (hn : M'.no = M.no) (ho : M'.oc = M.oc) : (opk P M' 1 k = 20 ∨ opk P M' 1 k = 21) ∧ frt P T M' k ((T (M'.me k)).1 (M'.pc k) - caL P (clk0 P M' k)) ∧ P 3014 (M'.me (k + 1)) = P 3014 (clk0 P M' k) := by
  unfold clk0 opk frt at *
  rw [hm, hm', hi, hh, hs, hl, hn, ho]
  exact h
theorem tyC_0 {u : Int} (hT : typed P T) (u0 : 0 ≤ u) (u1 : u < P 3001 0) : (T u).1 0 = 0 ∧ sle P (P 3017 u) (ini P u) ((T u).2.2 0) := ⟨(hT u u0 u1).1, (hT u u0 u1).2.1⟩
theorem ty_call (hg : good P) (hT : typed P T) (h : TyM P T M) (he : (stp P M).en = -1) (hc : tO P M = 20 ∨ tO P M = 21) : TyM P T (stp P M) := by
  have hW := hg.1
  have hs := hW.1
  obtain ⟨⟨-, t2, -⟩, e1, -, -⟩ := h.tI hT
  have t2 : stk P (tn T M) (ts T M) := t2
  have e1 : exf P (tm M) (tO P M) (tA P M) (tB P M) (tn T M) (ts T M) (tl T M) = 0 := e1
  have ik := h.ik hW
  have vs := h.vs
  have vl := h.vl
  have hht := h.hh
  have hp := h.2.1
  have hn0 := hp.1.1
  have hoc := hp.2.1
  have hS : stp P M = stO P M (M.dp - 1) (tm M) (ti M) (tO P M) (tA P M) (tB P M) (M.ht (M.dp - 1)) (M.sk (M.dp - 1)) := rfl
  rw [hS, hht] at he ⊢
  clear hS
  obtain ⟨o0, o1, i2, i3, i4, i5, i6⟩ := ik
  have ra := i4 (by omega)
  have rb := i6 (by omega)
  have hma := hW.2.1.2.2 _ ra.1 ra.2
  unfold stO at he ⊢
  rw [if_neg (by omega), if_neg (by omega), if_neg (by omega), if_neg (by omega), if_neg (by omega), if_neg (by omega), if_neg (by omega), if_neg (by omega), if_neg (by omega), if_neg (by omega), if_neg (by omega), if_neg (by omega), if_neg (by omega), if_neg (by omega), if_neg (by omega), if_pos (by omega)] at he ⊢
  generalize ht : P 3007 (tA P M) + tB P M = t at *
  have t0 : 0 ≤ t := by omega
  have t1 : t < P 3001 0 := by omega
  obtain ⟨-, w3013, w3014, ⟨w1, w1', w1''⟩, -⟩ := hW.2.2.2 t t0 t1
  have hwl : wl P (tm M) (tO P M) (tA P M) (tB P M) = cw P (tA P M) t := by
    rw [← ht]
    rcases hc with g | g <;> (rw [g]; rfl)
  have hlen := cw_len (a := tA P M) w1
  obtain ⟨z1, z2, -⟩ := exf_z (wn := caL P t) e1 (by rw [hwl]; exact hlen)
  rw [hwl] at z2
  have rc := rcv_01 (P := P) (m := t)
  have ac : caL P t = P 3015 t + rcv P t := rfl
  have fit : ∀ x : Int, 0 ≤ x → x < caL P t → ftt P (ts T M (tn T M - caL P t + x)) ((cw P (tA P M) t).getD x.toNat 0) = true := by
    intro x x0 x1
    have := af_get _ z2 x.toNat (by omega)
    rw [show ((x.toNat : Nat) : Int) = x by omega] at this
    exact this
  by_cases g1 : P 3013 t = 0 ∧ M.sk (M.dp - 1) (tn T M - caL P t) = 0
  · rw [if_pos g1] at he
    exact absurd (show (1 : Int) = -1 from he) (by decide)
  rw [if_neg g1] at he ⊢
  by_cases g2 : M.dp = 40
  · rw [if_pos g2] at he
    exact absurd (show (1 : Int) = -1 from he) (by decide)
  rw [if_neg g2]
  -- the receiver
  have hrc : P 3013 t = 0 → ¬ M.sk (M.dp - 1) (tn T M - caL P t) = 0 ∧ (1 ≤ M.sk (M.dp - 1) (tn T M - caL P t) ∧ M.sk (M.dp - 1) (tn T M - caL P t) ≤ M.no) ∧ cv P (tA P M) (M.oc (M.sk (M.dp - 1) (tn T M - caL P t) - 1)) = true := by
    intro q
    have r1 : rcv P t = 1 := by unfold rcv; rw [if_pos q]
    have nz : ¬ M.sk (M.dp - 1) (tn T M - caL P t) = 0 := fun e => g1 ⟨q, e⟩
    have f := fit 0 (by omega) (by omega)
    rw [show (0 : Int).toNat = 0 from rfl, cwg0 q, Int.add_zero] at f
    have v1 := vs (tn T M - caL P t) (by omega) (by omega)
    have v2 := (vt_ft hs hn0 hoc v1 (t2 _ (by omega) (by omega)).1 f (Or.inl (by omega))).1 (by omega)
    have v3 := v2.2.1 (by omega)
    have v4 := (v2.2.2 (by omega)).resolve_left nz
    rw [show 4 + tA P M - 4 = tA P M by omega] at v4
    exact ⟨nz, by omega, v4.2⟩
  -- the method that is taken
  obtain ⟨u, hu, u0, u1, hl, hr⟩ : ∃ u, (if tO P M = 21 then fnd P (P 3012 t) 10 (M.oc (M.sk (M.dp - 1) (tn T M - caL P t) - 1)) else t) = u ∧ 0 ≤ u ∧ u < P 3001 0 ∧ lik P u t ∧ (P 3013 t = 0 → cv P (P 3011 u) (M.oc (M.sk (M.dp - 1) (tn T M - caL P t) - 1)) = true) := by
    have own := (hg.2.1 _ ra.1 ra.2).2 _ rb.1 rb.2
    rw [ht] at own
    rcases hc with g | g
    · refine ⟨t, by rw [if_neg (by omega)], t0, t1, ⟨rfl, rfl, rfl, fun _ _ _ => rfl⟩, fun q => ?_⟩
      rw [own]
      exact (hrc q).2.2
    · have q : P 3013 t = 0 := by
        have h1 := h.2.2.1.1
        have := (hg.2.2.1 _ _ h1.1 h1.2.1 h1.2.2.1 h1.2.2.2.1).2 g
        have e : P 3007 (P 2 (tm M * 120 + ti M)) + P 3 (tm M * 120 + ti M) = t := ht
        rw [e] at this
        exact this
      obtain ⟨-, r2, r3⟩ := hrc q
      have ho := hoc (M.sk (M.dp - 1) (tn T M - caL P t) - 1) (by omega) (by omega)
      have hn := hs.2.1
      obtain ⟨k, j, ⟨c1, c2, c3, c4, c5⟩, c6, c7⟩ := fnd_cv hg ra.1 ra.2 rb.1 rb.2 10 _ (by omega) ho.2 r3
      rw [ht] at c6 c7
      have hk := hW.2.1.2.2 k c2 c3
      refine ⟨P 3007 k + j, by rw [if_pos g, c6], by omega, by omega, c7, fun _ => ?_⟩
      rw [(hg.2.1 k c2 c3).2 j c4 c5]
      exact c1
  rw [hu]
  obtain ⟨l1, l2, l3, l4⟩ := hl
  have rcu : rcv P u = rcv P t := by unfold rcv; rw [l1]
  obtain ⟨-, -, -, -, u5, u6, -⟩ := hW.2.2.2 u u0 u1
  obtain ⟨T0, TL⟩ := tyC_0 hT u0 u1
  have hd := h.1
  refine TyM.of (k := M.dp) (m := u) (i := 0) ?_ ?_ ?_ ⟨?_, ?_⟩ hp ⟨u0, u1, by omega, by omega, by omega⟩ ?_ (fun j j0 j1 => absurd j1 (by omega)) (fun x x0 x1 => ?_) (fun k k0 k1 => ?_)
  · show M.dp + 1 - 1 = M.dp
    omega
  · show i_up M.me M.dp u M.dp = u
    simp only [i_up, if_true]
  · show i_up M.pc M.dp 0 M.dp = 0
    simp only [i_up, if_true]
  · show 1 ≤ M.dp + 1
    omega
  · show M.dp + 1 ≤ 40
    omega
  · show i_up _ M.dp 0 M.dp = _
    simp only [i_up, if_true]
    exact T0.symm
  · show vt P M.no M.oc _ (up2 M.lo M.dp (fun x => if x < caL P t then M.sk (M.dp - 1) (tn T M - caL P t + x) else 0) M.dp x)
    simp only [up2, if_true]
    refine vt_sb hs hn0 hoc ?_ (TL x x0 x1)
    unfold ini
    rw [rcu, l3]
    by_cases q1 : x < rcv P t
    · have q2 : P 3013 t = 0 := by
        unfold rcv at q1
        by_cases g : P 3013 t = 0
        · exact g
        · rw [if_neg g] at q1; omega
      obtain ⟨r1, r2, r3⟩ := hrc q2
      rw [if_pos q1, if_pos (by omega), show tn T M - caL P t + x = tn T M - caL P t by omega]
      exact ⟨fun e => by have := (hW.2.2.2 u u0 u1).1; omega, fun _ => by omega, fun _ => Or.inr ⟨r2.1, by rw [show 4 + P 3011 u - 4 = P 3011 u by omega]; exact hr q2⟩⟩
    · rw [if_neg q1]
      by_cases q2 : x < rcv P t + P 3015 t
      · rw [if_pos q2, if_pos (by omega), l4 _ (by omega) (by omega)]
        have f := fit x x0 (by omega)
        rw [cw_get w1 (by omega) (by omega), show ((x.toNat : Nat) : Int) = x by omega] at f
        exact vt_tf hs hn0 hoc (vs _ (by omega) (by omega)) (t2 _ (by omega) (by omega)).1 (w1'' _ (by omega) (by omega)).1 f
      · rw [if_neg q2]
        exact vt_0 (by omega)
  · by_cases gk : k = M.dp - 1
    · subst gk
      have em : i_up M.me M.dp u (M.dp - 1) = tm M := by simp only [i_up, if_neg (show ¬ M.dp - 1 = M.dp by omega)]
      have ep : i_up M.pc M.dp 0 (M.dp - 1) = ti M := by simp only [i_up, if_neg (show ¬ M.dp - 1 = M.dp by omega)]
      have em2 : i_up M.me M.dp u (M.dp - 1 + 1) = u := by simp only [i_up, if_pos (show M.dp - 1 + 1 = M.dp by omega)]
      unfold clk0 opk
      show (P 1 (i_up M.me M.dp u (M.dp - 1) * 120 + i_up M.pc M.dp 0 (M.dp - 1)) = 20 ∨ P 1 (i_up M.me M.dp u (M.dp - 1) * 120 + i_up M.pc M.dp 0 (M.dp - 1)) = 21) ∧ frt P T _ (M.dp - 1) ((T (i_up M.me M.dp u (M.dp - 1))).1 (i_up M.pc M.dp 0 (M.dp - 1)) - caL P (P 3007 (P 2 (i_up M.me M.dp u (M.dp - 1) * 120 + i_up M.pc M.dp 0 (M.dp - 1))) + P 3 (i_up M.me M.dp u (M.dp - 1) * 120 + i_up M.pc M.dp 0 (M.dp - 1)))) ∧ P 3014 (i_up M.me M.dp u (M.dp - 1 + 1)) = P 3014 (P 3007 (P 2 (i_up M.me M.dp u (M.dp - 1) * 120 + i_up M.pc M.dp 0 (M.dp - 1))) + P 3 (i_up M.me M.dp u (M.dp - 1) * 120 + i_up M.pc M.dp 0 (M.dp - 1)))
      rw [em, ep, em2, show P 3007 (P 2 (tm M * 120 + ti M)) + P 3 (tm M * 120 + ti M) = t from ht]
      refine ⟨hc, ?_, l2⟩
      have r := h.2.2.1.1
      unfold frt
      show (0 ≤ i_up M.me M.dp u (M.dp - 1) ∧ i_up M.me M.dp u (M.dp - 1) < P 3001 0 ∧ 0 ≤ i_up M.pc M.dp 0 (M.dp - 1) ∧ i_up M.pc M.dp 0 (M.dp - 1) < P 0 (i_up M.me M.dp u (M.dp - 1)) ∧ 0 ≤ (T (i_up M.me M.dp u (M.dp - 1))).1 (i_up M.pc M.dp 0 (M.dp - 1))) ∧ i_up (i_up M.ht (M.dp - 1) (tn T M - caL P t)) M.dp 0 (M.dp - 1) = tn T M - caL P t ∧ (∀ j, 0 ≤ j → j < tn T M - caL P t → vt P M.no M.oc ((T (i_up M.me M.dp u (M.dp - 1))).2.1 (i_up M.pc M.dp 0 (M.dp - 1)) j) (M.sk (M.dp - 1) j)) ∧ ∀ x, 0 ≤ x → x < P 3017 (i_up M.me M.dp u (M.dp - 1)) → vt P M.no M.oc ((T (i_up M.me M.dp u (M.dp - 1))).2.2 (i_up M.pc M.dp 0 (M.dp - 1)) x) (up2 M.lo M.dp (fun x => if x < caL P t then M.sk (M.dp - 1) (tn T M - caL P t + x) else 0) (M.dp - 1) x)
      rw [em, ep]
      refine ⟨r, ?_, fun j j0 j1 => vs j j0 (by omega), fun x x0 x1 => ?_⟩
      · simp only [i_up, if_neg (show ¬ M.dp - 1 = M.dp by omega), if_true]
      · simp only [up2, if_neg (show ¬ M.dp - 1 = M.dp by omega)]
        exact vl x x0 x1
    · refine lw_of (h.2.2.2 k k0 (by omega)) ?_ ?_ ?_ ?_ rfl ?_ rfl rfl
      · show i_up M.me M.dp u k = _
        simp only [i_up, if_neg (show ¬ k = M.dp by omega)]
      · show P 3014 (i_up M.me M.dp u (k + 1)) = _
        simp only [i_up, if_neg (show ¬ k + 1 = M.dp by omega)]
      · show i_up M.pc M.dp 0 k = _
        simp only [i_up, if_neg (show ¬ k = M.dp by omega)]
      · show i_up (i_up M.ht (M.dp - 1) _) M.dp 0 k = _
        simp only [i_up, if_neg (show ¬ k = M.dp by omega), if_neg gk]
      · show up2 M.lo M.dp _ k = _
        simp only [up2, if_neg (show ¬ k = M.dp by omega)]
theorem ty_ret (hg : good P) (hT : typed P T) (h : TyM P T M) (he : (stp P M).en = -1) (hc : tO P M = 22) : TyM P T (stp P M) := by
  have hW := hg.1
  have hs := hW.1
  obtain ⟨⟨-, t2, -⟩, e1, -, -⟩ := h.tI hT
  have t2 : stk P (tn T M) (ts T M) := t2
  have e1 : exf P (tm M) (tO P M) (tA P M) (tB P M) (tn T M) (ts T M) (tl T M) = 0 := e1
  have vs := h.vs
  have hht := h.hh
  have hp := h.2.1
  have hn0 := hp.1.1
  have hoc := hp.2.1
  have hd := h.1
  have hS : stp P M = stO P M (M.dp - 1) (tm M) (ti M) (tO P M) (tA P M) (tB P M) (M.ht (M.dp - 1)) (M.sk (M.dp - 1)) := rfl
  rw [hS, hht] at he ⊢
  clear hS
  unfold stO at he ⊢
  rw [if_neg (by omega), if_neg (by omega), if_neg (by omega), if_neg (by omega), if_neg (by omega), if_neg (by omega), if_neg (by omega), if_neg (by omega), if_neg (by omega), if_neg (by omega), if_neg (by omega), if_neg (by omega), if_neg (by omega), if_neg (by omega), if_neg (by omega), if_neg (by omega), if_pos hc] at he ⊢
  by_cases g1 : M.dp = 1
  · rw [if_pos g1] at he
    exact absurd (show (0 : Int) = -1 from he) (by decide)
  rw [if_neg g1] at he ⊢
  -- the frame below
  obtain ⟨c1, ⟨c2, c3, c4, c5⟩, c6⟩ := h.2.2.2 (M.dp - 1 - 1) (by omega) (by omega)
  rw [show M.dp - 1 - 1 + 1 = M.dp - 1 by omega] at c6
  have hw2 := (hT _ c2.1 c2.2.1).2.2 _ c2.2.2.1 c2.2.2.2.1 c2.2.2.2.2
  have ik := (hW.2.2.2 _ c2.1 c2.2.1).2.2.2.2.2.2 _ c2.2.2.1 c2.2.2.2.1
  generalize hm : M.me (M.dp - 1 - 1) = m at *
  generalize hi : M.pc (M.dp - 1 - 1) = i at *
  have ho : opk P M 1 (M.dp - 1 - 1) = P 1 (m * 120 + i) := by unfold opk; rw [hm, hi]
  have ht : clk0 P M (M.dp - 1 - 1) = P 3007 (P 2 (m * 120 + i)) + P 3 (m * 120 + i) := by unfold clk0 opk; rw [hm, hi]
  rw [ho] at c1
  rw [ht] at c3 c4 c6
  obtain ⟨-, -, x2, -⟩ := hw2
  obtain ⟨-, -, -, -, i4, -, i6⟩ := ik
  have ra := i4 (by omega)
  have rb := i6 (by omega)
  have hma := hW.2.1.2.2 _ ra.1 ra.2
  generalize hop : P 1 (m * 120 + i) = op at *
  generalize ha : P 2 (m * 120 + i) = a at *
  generalize hb : P 3 (m * 120 + i) = b at *
  generalize htt : P 3007 a + b = t at *
  have t0 : 0 ≤ t := by omega
  have t1 : t < P 3001 0 := by omega
  obtain ⟨-, -, -, ⟨w1, -⟩, -⟩ := hW.2.2.2 t t0 t1
  have hwl : wl P m op a b = cw P a t := by
    rw [← htt]
    rcases c1 with g | g <;> (rw [g]; rfl)
  have hgx : ∀ q, gx P op a b ((T m).2.1 i) ((T m).2.2 i) q = if P 3014 t = 0 then [] else [tyof (P 3014 t - 1)] := by
    intro q
    rw [← htt]
    rcases c1 with g | g <;> (rw [g]; rfl)
  have hgo : gon op = true := by rcases c1 with g | g <;> (rw [g]; rfl)
  have hlen := cw_len (a := a) w1
  have x2 : i + 1 < P 0 m ∧ flw P (P 3017 m) (T m) (i + 1) (exn P m op a b ((T m).1 i) ((T m).2.1 i) ((T m).2.2 i)) (exs P m op a b ((T m).1 i) ((T m).2.1 i) ((T m).2.2 i)) (exl P m op a b ((T m).1 i) ((T m).2.1 i) ((T m).2.2 i)) := by
    have e : gon ((cdP P m).2.1 i) = true := by show gon (P 1 (m * 120 + i)) = true; rw [hop]; exact hgo
    have := x2 e
    have e1 : (cdP P m).2.1 i = op := hop
    have e2 : (cdP P m).2.2.1 i = a := ha
    have e3 : (cdP P m).2.2.2 i = b := hb
    rw [e1, e2, e3] at this
    exact this
  obtain ⟨y1, y2, y3, y4⟩ := x2
  unfold exn at y2
  unfold exn exs at y3
  rw [hwl, hlen, hgx] at y2 y3
  have el : exl P m op a b ((T m).1 i) ((T m).2.1 i) ((T m).2.2 i) = (T m).2.2 i := by unfold exl; rw [if_neg (by omega)]
  rw [el] at y4
  have lwr : ∀ (M' : Mc), M'.me = M.me → M'.lo = M.lo → M'.2.1 = M.2.1 → (∀ k, ¬ k = M.dp - 1 - 1 → M'.pc k = M.pc k ∧ M'.ht k = M.ht k ∧ M'.sk k = M.sk k) → ∀ k', 0 ≤ k' → k' < M.dp - 1 - 1 → (opk P M' 1 k' = 20 ∨ opk P M' 1 k' = 21) ∧ frt P T M' k' ((T (M'.me k')).1 (M'.pc k') - caL P (clk0 P M' k')) ∧ P 3014 (M'.me (k' + 1)) = P 3014 (clk0 P M' k') := by
    intro M' e1 e2 e3 e4 k k0 k1
    obtain ⟨f1, f2, f3⟩ := e4 k (by omega)
    exact lw_of (h.2.2.2 k k0 (by omega)) (by rw [e1]) (by rw [e1]) f1 f2 f3 (by rw [e2]) (by show M'.2.1.1 = _; rw [e3]) (by show M'.2.1.2.1 = _; rw [e3])
  by_cases g2 : P 3014 (tm M) = 0
  · have g3 : P 3014 t = 0 := by rw [← c6]; exact g2
    rw [if_pos g2]
    rw [if_pos g3] at y2 y3
    have y2 : (T m).1 (i + 1) = (T m).1 i - caL P t + 0 := y2
    have hh0 : 0 ≤ (T m).1 i - caL P t := by
      obtain ⟨-, z, -⟩ := (hT m c2.1 c2.2.1).2.2 i c2.2.2.1 c2.2.2.2.1 c2.2.2.2.2
      have e1 : (cdP P m).2.1 i = op := hop
      have e2 : (cdP P m).2.2.1 i = a := ha
      have e3 : (cdP P m).2.2.2 i = b := hb
      rw [e1, e2, e3] at z
      have := (exf_z (wn := caL P t) z (by rw [hwl]; exact hlen)).1
      omega
    refine TyM.of (k := M.dp - 1 - 1) (m := m) (i := i + 1) rfl hm ?_ ⟨?_, ?_⟩ hp ⟨c2.1, c2.2.1, by omega, y1, by omega⟩ ?_ (fun j j0 j1 => ?_) (fun x x0 x1 => ?_) (lwr _ rfl rfl rfl (fun k hk => ⟨?_, rfl, rfl⟩))
    · show i_up M.pc (M.dp - 1 - 1) (i + 1) (M.dp - 1 - 1) = _
      simp only [i_up, if_true]
    · show 1 ≤ M.dp - 1
      omega
    · show M.dp - 1 ≤ 40
      omega
    · show M.ht (M.dp - 1 - 1) = _
      rw [c3]; omega
    · exact vt_sb hs hn0 hoc (c4 j j0 (by omega)) (y3 j j0 (by show j < _ - _ + 0; omega))
    · exact vt_sb hs hn0 hoc (c5 x x0 x1) (y4 x x0 x1)
    · show i_up M.pc (M.dp - 1 - 1) (i + 1) k = _
      simp only [i_up, if_neg hk]
  · have g3 : ¬ P 3014 t = 0 := by rw [← c6]; exact g2
    rw [if_neg g2]
    rw [if_neg g3] at y2 y3
    have y2 : (T m).1 (i + 1) = (T m).1 i - caL P t + 1 := y2
    have hwr : wl P (tm M) (tO P M) (tA P M) (tB P M) = [tyof (P 3014 (tm M) - 1)] := by
      rw [hc]
      show (if P 3014 (tm M) = 0 then [] else [tyof (P 3014 (tm M) - 1)]) = _
      rw [if_neg g2]
    obtain ⟨z1, z2, -⟩ := exf_z (wn := 1) e1 (by rw [hwr]; rfl)
    rw [hwr] at z2
    have hmm := h.2.2.1.1
    obtain ⟨-, -, q3, -⟩ := hW.2.2.2 (tm M) hmm.1 hmm.2.1
    have v1 := vt_tf hs hn0 hoc (vs (tn T M - 1) (by omega) (by omega)) (t2 _ (by omega) (by omega)).1 (by omega) (af_1 z2)
    rw [show P 3014 (tm M) = P 3014 t from c6] at v1
    have hh0 : 0 ≤ (T m).1 i - caL P t := by
      obtain ⟨-, z, -⟩ := (hT m c2.1 c2.2.1).2.2 i c2.2.2.1 c2.2.2.2.1 c2.2.2.2.2
      have e1 : (cdP P m).2.1 i = op := hop
      have e2 : (cdP P m).2.2.1 i = a := ha
      have e3 : (cdP P m).2.2.2 i = b := hb
      rw [e1, e2, e3] at z
      have := (exf_z (wn := caL P t) z (by rw [hwl]; exact hlen)).1
      omega
    refine TyM.of (k := M.dp - 1 - 1) (m := m) (i := i + 1) rfl hm ?_ ⟨?_, ?_⟩ hp ⟨c2.1, c2.2.1, by omega, y1, by omega⟩ ?_ (fun j j0 j1 => ?_) (fun x x0 x1 => ?_) (lwr _ rfl rfl rfl (fun k hk => ⟨?_, ?_, ?_⟩))
    · show i_up M.pc (M.dp - 1 - 1) (i + 1) (M.dp - 1 - 1) = _
      simp only [i_up, if_true]
    · show 1 ≤ M.dp - 1
      omega
    · show M.dp - 1 ≤ 40
      omega
    · show i_up M.ht (M.dp - 1 - 1) _ (M.dp - 1 - 1) = _
      simp only [i_up, if_true]
      rw [c3]; omega
    · show vt P M.no M.oc _ (up2 M.sk (M.dp - 1 - 1) (i_up (M.sk (M.dp - 1 - 1)) (M.ht (M.dp - 1 - 1)) (M.sk (M.dp - 1) (tn T M - 1))) (M.dp - 1 - 1) j)
      simp only [up2, if_true]
      rw [c3]
      have := y3 j j0 (by show j < _ - _ + 1; omega)
      exact vt_sb hs hn0 hoc (vt_up c4 v1 rfl j j0 (by omega)) this
    · exact vt_sb hs hn0 hoc (c5 x x0 x1) (y4 x x0 x1)
    · show i_up M.pc (M.dp - 1 - 1) (i + 1) k = _
      simp only [i_up, if_neg hk]
    · show i_up M.ht (M.dp - 1 - 1) _ k = _
      simp only [i_up, if_neg hk]
    · show up2 M.sk (M.dp - 1 - 1) _ k = _
      simp only [up2, if_neg hk]
theorem ty_step (hg : good P) (hT : typed P T) (h : TyM P T M) (he : (stp P M).en = -1) : TyM P T (stp P M) := by
  by_cases g1 : tO P M = 22
  · exact ty_ret hg hT h he g1
  by_cases g2 : tO P M = 20 ∨ tO P M = 21
  · exact ty_call hg hT h he g2
  · exact ty_stp hg hT h he (by omega)
end CALLT
