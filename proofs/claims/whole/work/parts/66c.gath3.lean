/-! gathered code: one instruction is laid; a SEND is bound -/
def adF0 (G E : Fl) (q i : Int) : Fl := if 0 ≤ E.1 i then adF G q (E.1 i) (E.2.1 i) (E.2.2 i) else G
/-- an instruction that stands for the old one at i -/
def insE (P : Pg) (m nl : Int) (W : Int → Int → Int → Prop) (E : Fl) (i o a b : Int) : Prop := 0 ≤ E.1 i → ((E.1 i ≤ 10 ∧ stk P (E.1 i) (E.2.1 i) ∧ tys P nl (E.2.2 i)) ∧ exf P m o a b (E.1 i) (E.2.1 i) (E.2.2 i) = 0 ∧ exk P m nl o a b (E.1 i) (E.2.1 i) (E.2.2 i) ∧ W o a b) ∧ (gon o = true → flw P nl E (i + 1) (exn P m o a b (E.1 i) (E.2.1 i) (E.2.2 i)) (exs P m o a b (E.1 i) (E.2.1 i) (E.2.2 i)) (exl P m o a b (E.1 i) (E.2.1 i) (E.2.2 i))) ∧ (isj o = true → flw P nl E a (exn P m o a b (E.1 i) (E.2.1 i) (E.2.2 i)) (exs P m o a b (E.1 i) (E.2.1 i) (E.2.2 i)) (exl P m o a b (E.1 i) (E.2.1 i) (E.2.2 i)))
section GATH3
variable {P : Pg} {m mu nl nl0 n0 i j q o a a' b b' u v B n t t' : Int} {X X' : Sx} {F G G' E : Fl} {W : Int → Int → Int → Prop} {st s s' l l' : Int → Int} {op : Int}
theorem adF_r : (adF G q n s l).1 q = n ∧ (adF G q n s l).2.1 q = s ∧ (adF G q n s l).2.2 q = l := by
  unfold adF up2
  simp only [iu_r, if_true, and_self]
theorem adF_n (h : ¬ j = q) : (adF G q n s l).1 j = G.1 j ∧ (adF G q n s l).2.1 j = G.2.1 j ∧ (adF G q n s l).2.2 j = G.2.2 j := by
  unfold adF up2
  simp only [iu_n h, if_neg h, and_self]
theorem adF0_n (h : ¬ j = q) : (adF0 G E q i).1 j = G.1 j ∧ (adF0 G E q i).2.1 j = G.2.1 j ∧ (adF0 G E q i).2.2 j = G.2.2 j := by
  unfold adF0
  by_cases g : 0 ≤ E.1 i
  · rw [if_pos g]; exact adF_n h
  · rw [if_neg g]; exact ⟨rfl, rfl, rfl⟩
theorem ga_one (h : gaI P m nl n0 W E i X G st) (i0 : 0 ≤ i) (hok : (0 ≤ o ∧ o ≤ 26) ∧ (o = 2 ∨ o = 3 → 0 ≤ a ∧ a < nl) ∧ (isj o = true → 0 ≤ a ∧ a < n0)) (hI : insE P m nl W E i o a b) : gaI P m nl n0 W E (i + 1) (adS X o a b u v) (adF0 G E X.n i) (i_up st i X.n) := by
  have hout := h.1.2.2
  have e1 : ∀ f : Int → Int, ∀ x, i_up f X.n x X.n = x := fun f x => iu_r
  refine h.blk i0 (show X.n ≤ X.n + 1 by omega) (fun q hq => ?_) (fun q hq => ?_) (fun q q0 q1 => ?_) (fun q q0 q1 q2 => ?_) (fun hE => ⟨fun _ => ?_, fun z => ?_⟩)
  · obtain ⟨w1, w2, w3⟩ := adF0_n (G := G) (E := E) (i := i) (show ¬ q = X.n by omega)
    exact ⟨iu_n (by omega), iu_n (by omega), iu_n (by omega), w1, w2, w3⟩
  · have hq' : X.n + 1 ≤ q := hq
    rw [(adF0_n (show ¬ q = X.n by omega)).1]
    exact hout q (by omega)
  · have q1' : q < X.n + 1 := q1
    have e : q = X.n := by omega
    subst e
    show (0 ≤ i_up X.op X.n o X.n ∧ i_up X.op X.n o X.n ≤ 26) ∧ (i_up X.op X.n o X.n = 2 ∨ i_up X.op X.n o X.n = 3 → 0 ≤ i_up X.a X.n a X.n ∧ i_up X.a X.n a X.n < nl) ∧ (isj (i_up X.op X.n o X.n) = true → 0 ≤ i_up X.a X.n a X.n ∧ i_up X.a X.n a X.n < n0)
    rw [e1, e1]; exact hok
  · have q1' : q < X.n + 1 := q1
    have e : q = X.n := by omega
    subst e
    by_cases g : 0 ≤ E.1 i
    · have ea : adF0 G E X.n i = adF G X.n (E.1 i) (E.2.1 i) (E.2.2 i) := by unfold adF0; rw [if_pos g]
      obtain ⟨w1, w2, w3⟩ := adF_r (G := G) (q := X.n) (n := E.1 i) (s := E.2.1 i) (l := E.2.2 i)
      obtain ⟨t1, t2, t3⟩ := hI g
      have c1 : (adS X o a b u v).op X.n = o := e1 _ _
      have c2 : (adS X o a b u v).a X.n = a := e1 _ _
      have c3 : (adS X o a b u v).b X.n = b := e1 _ _
      rw [ea]
      unfold plc eflw
      rw [c1, c2, c3, w1, w2, w3]
      refine ⟨t1, fun gg => ?_, t3⟩
      rw [if_pos (show X.n + 1 = (adS X o a b u v).n from rfl)]
      exact t2 gg
    · have ea : adF0 G E X.n i = G := by unfold adF0; rw [if_neg g]
      rw [ea] at q2
      have := hout X.n (Or.inr (by omega))
      omega
  · have ea : adF0 G E X.n i = adF G X.n (E.1 i) (E.2.1 i) (E.2.2 i) := by unfold adF0; rw [if_pos hE]
    obtain ⟨w1, w2, w3⟩ := adF_r (G := G) (q := X.n) (n := E.1 i) (s := E.2.1 i) (l := E.2.2 i)
    rw [ea]
    unfold flw
    rw [w1, w2, w3]
    exact ⟨rfl, sle.rf, sle.rf⟩
  · have z' : X.n = X.n + 1 := z
    omega
/-- a flow between old places, with more locals -/
theorem flw_ext (hs : ∀ y, 0 ≤ y → y < n → s' y = s y) (hl : ∀ x, 0 ≤ x → x < nl → l' x = if x < nl0 then l x else 0) (h : flw P nl0 F t n s l) : flw P nl (exF nl0 F) t n s' l' := by
  obtain ⟨a1, a2, a3⟩ := h
  refine ⟨a1, fun y y0 y1 => ?_, fun x x0 x1 => ?_⟩
  · rw [hs y y0 y1]; exact a2 y y0 y1
  · rw [hl x x0 x1]
    show sbt P _ (if x < nl0 then F.2.2 t x else 0)
    by_cases g : x < nl0
    · rw [if_pos g, if_pos g]; exact a3 x x0 g
    · rw [if_neg g, if_neg g]; exact sbt.rf
theorem tys_ext (hP : 0 ≤ P 3000 0) (h : tys P nl0 l) : tys P nl (fun x => if x < nl0 then l x else 0) := by
  intro x x0 x1
  show tyo P (if x < nl0 then l x else 0)
  by_cases g : x < nl0
  · rw [if_pos g]; exact h x x0 g
  · rw [if_neg g]; exact ⟨by omega, by omega⟩
/-- the method's own instruction -/
theorem ins_own (hW : WFp P) (hi : iok P m op a b) (hT : TyI P m (P 3017 m) n0 op a b i F) (hw : W op a b) : insE P m nl W (exF (P 3017 m) F) i op a b := by
  intro hE
  obtain ⟨⟨t1, t2, t3⟩, tf, tg, tj⟩ := hT
  obtain ⟨x1, x2, x3, x4⟩ := ex_ext (nl0 := P 3017 m) (hi.2.2.1) tf
  have hP : 0 ≤ P 3000 0 := by have := hW.1.1; omega
  have kstk := exs_stk hW hi rfl tf t2 t3
  obtain ⟨z0, -, -, -⟩ := exf0 tf
  have ktys := exl_o (nl := P 3017 m) z0 t2.ty t3
  refine ⟨⟨⟨t1, t2, tys_ext hP t3⟩, x1, ⟨?_, ?_⟩, hw⟩, fun gg => ?_, fun gj => ?_⟩
  · show stk P (exn P m op a b (F.1 i) (F.2.1 i) (fun x => if x < P 3017 m then F.2.2 i x else 0)) _
    rw [x2]
    intro y y0 y1
    have := x3 y y0 y1
    show 1 ≤ exs P m op a b (F.1 i) (F.2.1 i) (fun x => if x < P 3017 m then F.2.2 i x else 0) y ∧ tyo P (exs P m op a b (F.1 i) (F.2.1 i) (fun x => if x < P 3017 m then F.2.2 i x else 0) y)
    rw [this]; exact kstk y y0 y1
  · intro x x0 xn
    show tyo P (exl P m op a b (F.1 i) (F.2.1 i) (fun x => if x < P 3017 m then F.2.2 i x else 0) x)
    rw [x4 x]
    exact tys_ext (nl := nl) hP ktys x x0 xn
  · show flw P nl (exF (P 3017 m) F) (i + 1) (exn P m op a b (F.1 i) (F.2.1 i) (fun x => if x < P 3017 m then F.2.2 i x else 0)) _ _
    rw [x2]
    exact flw_ext x3 (fun x _ _ => x4 x) (tg gg).2
  · show flw P nl (exF (P 3017 m) F) a (exn P m op a b (F.1 i) (F.2.1 i) (fun x => if x < P 3017 m then F.2.2 i x else 0)) _ _
    rw [x2]
    exact flw_ext x3 (fun x _ _ => x4 x) (tj gj)
theorem af_of {w : List Int} {q : Int} : ∀ k : Nat, (∀ x : Nat, x < k → ftt P (s (q + x)) (w.getD x 0) = true) → af P s w q k = true
  | 0, _ => rfl
  | k + 1, h => by
    simp only [af, Bool.and_eq_true]
    exact ⟨h k (by omega), af_of k (fun x hx => h x (by omega))⟩
theorem ftt_cv (hs : WFs P) (ha : 0 ≤ a) {x : Int} (hx : tyo P x) (a' : Int) (ha' : 0 ≤ a') (hc : cv P a' a = true) (h : ftt P x (4 + a) = true) : ftt P x (4 + a') = true := by
  unfold ftt at h ⊢
  rw [if_neg (by omega), if_neg (by omega), if_neg (by omega)] at h ⊢
  simp only [Bool.or_eq_true, Bool.and_eq_true, decide_eq_true_eq] at h ⊢
  rcases h with h | ⟨h1, h2⟩
  · exact Or.inl h
  · refine Or.inr ⟨h1, ?_⟩
    rw [show 4 + a - 4 = a by omega] at h2
    rw [show 4 + a' - 4 = a' by omega]
    unfold tyo at hx
    exact cv_t hs (x - 4) (by omega) (by omega) h2 hc
/-- a CALL of what may stand for the method told -/
theorem ex_lik (hW : WFp P) (ha : 0 ≤ a) (ha' : 0 ≤ a') (ht0 : 0 ≤ P 3015 (P 3007 a + b)) (hns : P 3013 (P 3007 a + b) = 0) (hl : lik P (P 3007 a' + b') (P 3007 a + b)) (hc : cv P a' a = true) (hs : tys P n s) (h : exf P m 21 a b n s l = 0) : exf P m 20 a' b' n s l = 0 ∧ exn P m 20 a' b' n s l = exn P m 21 a b n s l ∧ exs P m 20 a' b' n s l = exs P m 21 a b n s l ∧ exl P m 20 a' b' n s l = exl P m 21 a b n s l := by
  obtain ⟨l1, l2, l3, l4⟩ := hl
  generalize ht : P 3007 a + b = t at *
  generalize ht' : P 3007 a' + b' = t' at *
  have e1 : wl P m 20 a' b' = cw P a' t' := by rw [← ht']; simp [wl]
  have e2 : wl P m 21 a b = cw P a t := by rw [← ht]; simp [wl]
  have n1 : ((cw P a' t').length : Int) = caL P t' := cw_len (by omega)
  have n2 : ((cw P a t).length : Int) = caL P t := cw_len (by omega)
  have nr : rcv P t' = 1 ∧ rcv P t = 1 := by unfold rcv; rw [l1, hns]; exact ⟨rfl, rfl⟩
  have nn : caL P t' = caL P t := by unfold caL; rw [nr.1, nr.2, l3]
  have ln : (cw P a' t').length = (cw P a t).length := by omega
  have g : ∀ q, gx P 20 a' b' s l q = gx P 21 a b s l q := by
    intro q
    have : ∀ (o x y : Int), o = 20 ∨ o = 21 → gx P o x y s l q = if P 3014 (P 3007 x + y) = 0 then [] else [tyof (P 3014 (P 3007 x + y) - 1)] := by
      intro o x y ho
      rcases ho with rfl | rfl <;> rfl
    rw [this 20 a' b' (Or.inl rfl), this 21 a b (Or.inr rfl), ht, ht', l2]
  obtain ⟨z1, z2, -, z4⟩ := exf0 h
  have en : exn P m 20 a' b' n s l = exn P m 21 a b n s l := by
    unfold exn
    rw [e1, e2, g, ln]
  have es : exs P m 20 a' b' n s l = exs P m 21 a b n s l := by
    unfold exs
    rw [e1, e2, g, ln]
  refine ⟨?_, en, es, rfl⟩
  rw [e2] at z1 z2
  have haf : af P s (cw P a' t') (n - (cw P a' t').length) (cw P a' t').length = true := by
    rw [ln]
    refine af_of _ (fun x hx => ?_)
    have f := af_get _ z2 x hx
    by_cases gx : x = 0
    · subst gx
      rw [cwg0 hns] at f
      rw [cwg0 (by omega)]
      exact ftt_cv hW.1 ha (hs _ (by omega) (by omega)) a' ha' hc f
    · rw [cw_get (by omega) (by omega) (by omega)] at f ⊢
      rw [nr.1]; rw [nr.2] at f
      have := l4 ((x : Int) - 1) (by omega) (by unfold caL at n2; omega)
      rw [this]; exact f
  rw [← en] at z4
  unfold exn at z4
  unfold exf
  rw [e1] at z4 ⊢
  rw [if_neg (by omega), haf, if_neg (by decide), if_neg (by omega), if_neg (by omega)]
theorem ins_bnd (hW : WFp P) (hi : iok P m 21 a b) (hT : TyI P m (P 3017 m) n0 21 a b i F) (ha' : 0 ≤ a') (hns : P 3013 (P 3007 a + b) = 0) (hl : lik P (P 3007 a' + b') (P 3007 a + b)) (hc : cv P a' a = true) (hw : W 20 a' b') : insE P m nl W (exF (P 3017 m) F) i 20 a' b' := by
  intro hE
  obtain ⟨⟨t1, t2, t3⟩, t4⟩ := id hT
  obtain ⟨ca, -, cb⟩ := hi.2.2.2.2
  have hca := ca (by omega)
  have hcb := cb (by omega)
  have hm := hW.2.1.2.2 a hca.1 hca.2
  have ht := (hW.2.2.2 (P 3007 a + b) (by omega) (by omega)).2.2.2.1.1
  obtain ⟨⟨⟨i1, i2, i3⟩, i4, i5, -⟩, i6, -⟩ := ins_own (nl := nl) (W := fun _ _ _ => True) hW hi hT trivial hE
  obtain ⟨y1, y2, y3, y4⟩ := ex_lik (m := m) (b := b) (b' := b') hW hca.1 ha' ht hns hl hc i2.ty i4
  unfold exk at i5 ⊢
  rw [y2, y3, y4]
  exact ⟨⟨⟨i1, i2, i3⟩, y1, i5, hw⟩, fun _ => i6 rfl, fun g => absurd g (by decide)⟩
end GATH3
