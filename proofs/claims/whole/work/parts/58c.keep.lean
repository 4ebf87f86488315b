/-! a step keeps the types -/
abbrev tm (M : Mc) : Int := M.me (M.dp - 1)
abbrev ti (M : Mc) : Int := M.pc (M.dp - 1)
abbrev tn (T : Int → Fl) (M : Mc) : Int := (T (tm M)).1 (ti M)
abbrev ts (T : Int → Fl) (M : Mc) : Int → Int := (T (tm M)).2.1 (ti M)
abbrev tl (T : Int → Fl) (M : Mc) : Int → Int := (T (tm M)).2.2 (ti M)
abbrev tO (P : Pg) (M : Mc) : Int := P 1 (tm M * 120 + ti M)
abbrev tA (P : Pg) (M : Mc) : Int := P 2 (tm M * 120 + ti M)
abbrev tB (P : Pg) (M : Mc) : Int := P 3 (tm M * 120 + ti M)
section KEEP
variable {P : Pg} {T : Int → Fl} {M M' : Mc} {n q t v no : Int} {s l : Int → Int} {oc : Int → Int}
theorem TyM.top (hs : WFs P) (h : TyM P T M) (hdp : M'.dp = M.dp) (hme : M'.me = M.me) (hf : ∀ k, ¬ k = M.dp - 1 → M'.pc k = M.pc k ∧ M'.ht k = M.ht k ∧ M'.sk k = M.sk k ∧ M'.lo k = M.lo k) (hno : M.no ≤ M'.no) (hoc : ∀ o, 0 ≤ o → o < M.no → M'.oc o = M.oc o) (hh : hpt P M') (j0 : 0 ≤ M'.pc (M.dp - 1)) (j1 : M'.pc (M.dp - 1) < P 0 (tm M)) (n0 : 0 ≤ n) (hw : flw P (P 3017 (tm M)) (T (tm M)) (M'.pc (M.dp - 1)) n s l) (ht : M'.ht (M.dp - 1) = n) (vs : ∀ q, 0 ≤ q → q < n → vt P M'.no M'.oc (s q) (M'.sk (M.dp - 1) q)) (vl : ∀ x, 0 ≤ x → x < P 3017 (tm M) → vt P M'.no M'.oc (l x) (M'.lo (M.dp - 1) x)) : TyM P T M' := by
  obtain ⟨h1, h2, ⟨⟨m0, m1, -⟩, -⟩, h4⟩ := h
  have ho := hh.2.1
  have hn := hh.1.1
  unfold TyM
  rw [hdp]
  refine ⟨h1, hh, ?_, fun k k0 k1 => ?_⟩
  · unfold frt
    rw [hme]
    refine ⟨⟨m0, m1, j0, j1, by rw [hw.1]; exact n0⟩, ht.trans hw.1.symm, fun q q0 q1 => ?_, fun x x0 x1 => ?_⟩
    · rw [hw.1] at q1
      exact vt_sb hs hn ho (vs q q0 q1) (hw.2.1 q q0 q1)
    · exact vt_sb hs hn ho (vl x x0 x1) (hw.2.2 x x0 x1)
  · obtain ⟨e1, e2, e3, e4⟩ := hf k (by omega)
    obtain ⟨g1, ⟨g2, g3, g4, g5⟩, g6⟩ := h4 k k0 k1
    unfold clk0 opk at *
    unfold frt
    rw [hme, e1]
    refine ⟨g1, ⟨g2, e2.trans g3, fun j j0 j1 => ?_, fun x x0 x1 => ?_⟩, g6⟩
    · rw [e3]; exact vt_mo (g4 j j0 j1) hno hoc
    · rw [e4]; exact vt_mo (g5 x x0 x1) hno hoc
theorem exf_z {m op a b wn : Int} (h : exf P m op a b n s l = 0) (hw : ((wl P m op a b).length : Int) = wn) : wn ≤ n ∧ af P s (wl P m op a b) (n - wn) (wl P m op a b).length = true ∧ (op = 2 → ¬ l a = 0) ∧ n - wn + (gx P op a b s l (n - wn)).length ≤ 10 := by
  unfold exf at h
  rw [hw] at h
  by_cases g1 : n < wn
  · rw [if_pos g1] at h; omega
  rw [if_neg g1] at h
  by_cases g2 : af P s (wl P m op a b) (n - wn) (wl P m op a b).length = false
  · rw [if_pos g2] at h; omega
  rw [if_neg g2] at h
  by_cases g3 : op = 2 ∧ l a = 0
  · rw [if_pos g3] at h; omega
  rw [if_neg g3] at h
  by_cases g4 : 10 < n - wn + (gx P op a b s l (n - wn)).length
  · rw [if_pos g4] at h; omega
  exact ⟨by omega, by simpa using g2, fun e z => g3 ⟨e, z⟩, by omega⟩
def typed (P : Pg) (T : Int → Fl) : Prop := ∀ m, 0 ≤ m → m < P 3001 0 → TyC P m (P 3017 m) (cdP P m) (T m)
theorem TyM.tI (hT : typed P T) (h : TyM P T M) : TyI P (tm M) (P 3017 (tm M)) (P 0 (tm M)) (tO P M) (tA P M) (tB P M) (ti M) (T (tm M)) := by
  obtain ⟨h1, h2, ⟨⟨m0, m1, i0, i1, r0⟩, -⟩, h4⟩ := h
  exact (hT _ m0 m1).2.2 _ i0 i1 r0
theorem TyM.ik (hW : WFp P) (h : TyM P T M) : iok P (tm M) (tO P M) (tA P M) (tB P M) := by
  obtain ⟨h1, h2, ⟨⟨m0, m1, i0, i1, r0⟩, -⟩, h4⟩ := h
  exact (hW.2.2.2 _ m0 m1).2.2.2.2.2.2 _ i0 i1
theorem TyM.nx (hW : WFp P) (hT : typed P T) (h : TyM P T M) {wn gn : Int} {G : List Int} (hw : ((wl P (tm M) (tO P M) (tA P M) (tB P M)).length : Int) = wn) (hG : gx P (tO P M) (tA P M) (tB P M) (ts T M) (tl T M) (tn T M - wn) = G) (hg : (G.length : Int) = gn) (hdp : M'.dp = M.dp) (hme : M'.me = M.me) (hf : ∀ k, ¬ k = M.dp - 1 → M'.pc k = M.pc k ∧ M'.ht k = M.ht k ∧ M'.sk k = M.sk k ∧ M'.lo k = M.lo k) (hno : M.no ≤ M'.no) (hoc : ∀ o, 0 ≤ o → o < M.no → M'.oc o = M.oc o) (hh : hpt P M') (hp : (M'.pc (M.dp - 1) = ti M + 1 ∧ gon (tO P M) = true) ∨ (M'.pc (M.dp - 1) = tA P M ∧ isj (tO P M) = true)) (ht : M'.ht (M.dp - 1) = tn T M - wn + gn) (vs : ∀ q, 0 ≤ q → q < tn T M - wn + gn → vt P M'.no M'.oc (psh (ts T M) (tn T M - wn) G q) (M'.sk (M.dp - 1) q)) (vl : ∀ x, 0 ≤ x → x < P 3017 (tm M) → vt P M'.no M'.oc (exl P (tm M) (tO P M) (tA P M) (tB P M) (tn T M) (ts T M) (tl T M) x) (M'.lo (M.dp - 1) x)) : TyM P T M' := by
  obtain ⟨-, e1, e2, e3⟩ := h.tI hT
  have ik := h.ik hW
  have i0 : 0 ≤ ti M := h.2.2.1.1.2.2.1
  have ez : wn ≤ tn T M := (exf_z e1 hw).1
  have en : exn P (tm M) (tO P M) (tA P M) (tB P M) (tn T M) (ts T M) (tl T M) = tn T M - wn + gn := by unfold exn; rw [hw, hG, hg]
  have es : exs P (tm M) (tO P M) (tA P M) (tB P M) (tn T M) (ts T M) (tl T M) = psh (ts T M) (tn T M - wn) G := by unfold exs; rw [hw, hG]
  have n0 : 0 ≤ tn T M - wn + gn := by omega
  rw [en, es] at e2 e3
  rcases hp with ⟨p1, p2⟩ | ⟨p1, p2⟩
  · obtain ⟨f1, f2⟩ := e2 p2
    rw [← p1] at f1 f2
    exact h.top hW.1 hdp hme hf hno hoc hh (by rw [p1]; omega) f1 n0 f2 ht vs vl
  · have f2 : flw P (P 3017 (tm M)) (T (tm M)) (M'.pc (M.dp - 1)) (tn T M - wn + gn) (psh (ts T M) (tn T M - wn) G) (exl P (tm M) (tO P M) (tA P M) (tB P M) (tn T M) (ts T M) (tl T M)) := by rw [p1]; exact e3 p2
    simp only [isj, Bool.and_eq_true, decide_eq_true_eq] at p2
    have := ik.2.2.2.1 p2
    exact h.top hW.1 hdp hme hf hno hoc hh (by rw [p1]; exact this.1) (by rw [p1]; exact this.2) n0 f2 ht vs vl
theorem go_o {k h j : Int} : ∀ k', ¬ k' = k → (M.go k h s j).pc k' = M.pc k' ∧ (M.go k h s j).ht k' = M.ht k' ∧ (M.go k h s j).sk k' = M.sk k' ∧ (M.go k h s j).lo k' = M.lo k' := by
  intro k' hk
  refine ⟨?_, ?_, ?_, rfl⟩
  · show i_up M.pc k j k' = _
    simp only [i_up, if_neg hk]
  · show i_up M.ht k h k' = _
    simp only [i_up, if_neg hk]
  · show up2 M.sk k s k' = _
    simp only [up2, if_neg hk]
theorem TyM.vl (h : TyM P T M) : ∀ x, 0 ≤ x → x < P 3017 (tm M) → vt P M.no M.oc (tl T M x) (M.lo (M.dp - 1) x) := h.2.2.1.2.2.2
theorem TyM.vs (h : TyM P T M) : ∀ j, 0 ≤ j → j < tn T M → vt P M.no M.oc (ts T M j) (M.sk (M.dp - 1) j) := h.2.2.1.2.2.1
theorem TyM.hh (h : TyM P T M) : M.ht (M.dp - 1) = tn T M := h.2.2.1.2.1
/-- only the stack and the place change -/
theorem TyM.g (hW : WFp P) (hT : typed P T) (h : TyM P T M) {wn gn h' j : Int} {G : List Int} (hw : ((wl P (tm M) (tO P M) (tA P M) (tB P M)).length : Int) = wn) (hG : gx P (tO P M) (tA P M) (tB P M) (ts T M) (tl T M) (tn T M - wn) = G) (hg : (G.length : Int) = gn) (h3 : ¬ tO P M = 3) (hp : (j = ti M + 1 ∧ gon (tO P M) = true) ∨ (j = tA P M ∧ isj (tO P M) = true)) (ht : h' = tn T M - wn + gn) (vs : ∀ q, 0 ≤ q → q < tn T M - wn + gn → vt P M.no M.oc (psh (ts T M) (tn T M - wn) G q) (s q)) : TyM P T (M.go (M.dp - 1) h' s j) := by
  refine h.nx hW hT hw hG hg rfl rfl go_o (Int.le_refl _) (fun _ _ _ => rfl) h.2.1 ?_ ?_ ?_ (fun x x0 x1 => ?_)
  · simp only [Mc.go, Mc.gf, Mc.pc, i_up, if_true]; exact hp
  · simp only [Mc.go, Mc.gf, Mc.ht, i_up, if_true]; exact ht
  · simp only [Mc.go, Mc.gf, Mc.sk, up2, if_true]; exact vs
  · unfold exl
    rw [if_neg h3]
    exact h.vl x x0 x1
theorem vt_up {t x : Int} {v : Int → Int} {e : Int} (h : ∀ q, 0 ≤ q → q < n → vt P no oc (s q) (v q)) (hx : vt P no oc t x) (he : e = n) : ∀ q, 0 ≤ q → q < n + 1 → vt P no oc (i_up s n t q) (i_up v e x q) := by
  subst he
  intro q q0 q1
  simp only [i_up]
  by_cases g : q = e
  · rw [if_pos g, if_pos g]; exact hx
  · rw [if_neg g, if_neg g]; exact h q q0 (by omega)
end KEEP
