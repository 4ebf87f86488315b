/-! the rules keep the typing -/
section KEEP
variable {P : Pg} {m nl n p k j op a b t x r : Int} {s l : Int → Int} {X : Sx} {F : Fl} {W : Int → Int → Int → Prop}
/-- JUMPs one after the other -/
theorem fw_flw (hs : WFs P) (h : SOk P m nl W X F) : ∀ (k : Nat) (t : Int), 0 ≤ t → t < X.n → 0 ≤ F.1 t → (0 ≤ fwS X k t ∧ fwS X k t < X.n ∧ 0 ≤ F.1 (fwS X k t)) ∧ flw P nl F (fwS X k t) (F.1 t) (F.2.1 t) (F.2.2 t)
  | 0, t, t0, t1, t2 => ⟨⟨t0, t1, t2⟩, rfl, fun _ _ _ => sbt.rf, fun _ _ _ => sbt.rf⟩
  | k + 1, t, t0, t1, t2 => by
    unfold fwS
    by_cases g : X.op t = 11
    · rw [if_pos g]
      have hj : isj (X.op t) = true := by rw [g]; rfl
      obtain ⟨u1, u2, u3⟩ := h.tg t0 t1 t2 hj
      obtain ⟨⟨-, ts, tl⟩, -, -, t4⟩ := h.ti t0 t1 t2
      have f1 := t4 hj
      rw [g, ex_11.1, ex_11.2.1, ex_11.2.2] at f1
      obtain ⟨v1, v2⟩ := fw_flw hs h k (X.a t) u1 u2 u3
      exact ⟨v1, f1.tr hs ts.ty tl v2⟩
    · rw [if_neg g]
      exact ⟨⟨t0, t1, t2⟩, rfl, fun _ _ _ => sbt.rf, fun _ _ _ => sbt.rf⟩
theorem le_in (h : ¬ leS X p = -1) : leS X p = fwS X X.n.toNat (X.a p) ∧ X.op (X.a p) = 11 ∧ ¬ X.op (leS X p) = 11 := by
  unfold leS at h ⊢
  by_cases g : X.op (X.a p) = 11 ∧ ¬ X.op (fwS X X.n.toNat (X.a p)) = 11
  · rw [if_pos g]; exact ⟨rfl, g.1, g.2⟩
  · rw [if_neg g] at h; exact absurd rfl h
/-- a JUMP for what is known -/
theorem jp_ok (hs : WFs P) (hJ : ∀ op a b a', isj op = true → W op a b → W op a' b) (hW0 : ∀ op a b, 0 ≤ op → op ≤ 14 → W op a b) (hini : tys P nl (ini P m)) {u v : Int} (hX : okX nl X) (h : SOk P m nl W X F) (p0 : 0 ≤ p) (hp : 0 ≤ F.1 p) (hk : k = 1 ∨ k = 2) (hpk : p + 1 + k ≤ X.n) (hjt : ∀ q, p < q → q ≤ p + k → jtS X q = false) (hlast : isj (X.op (p + k)) = true) (ht : X.a (p + k) = t) (hf : flw P nl F t (F.1 p) (F.2.1 p) (F.2.2 p)) (hgo : gon (X.op p) = true) (hnj : isj (X.op p) = false) (hmid : k = 2 → isj (X.op (p + 1)) = false) : ∃ F', SOk P m nl W (cutS (setS X p 11 t 0 u v) (p + 1) k) F' ∧ okX nl (cutS (setS X p 11 t 0 u v) (p + 1) k) := by
  have p1 : p < X.n := by omega
  have hta := (hX.2 (p + k) (by omega) (by omega)).2.2 hlast
  rw [ht] at hta
  obtain ⟨⟨t10, ts, tl⟩, -⟩ := h.ti p0 p1 hp
  have h1 : SOk P m nl W (setS X p 11 t 0 u v) F := by
    refine set_ok h (fun _ => ⟨⟨⟨t10, ts, tl⟩, ?_, fun q => absurd q (by decide), fun _ => ?_⟩, ⟨?_, ?_⟩, hW0 _ _ _ (by omega) (by omega)⟩)
    · unfold exf
      have w : wl P m 11 t 0 = [] := rfl
      have g : ∀ q, gx P 11 t 0 (F.2.1 p) (F.2.2 p) q = [] := fun _ => rfl
      rw [w, g]
      rw [if_neg (by show ¬ F.1 p < ((0 : Nat) : Int); omega), if_neg (by show ¬ (true = false); decide), if_neg (by omega), if_neg (by show ¬ 10 < F.1 p - ((0 : Nat) : Int) + ((0 : Nat) : Int); omega)]
    · rw [ex_11.1, ex_11.2.1, ex_11.2.2]; exact hf
    · rw [ex_11.1, ex_11.2.1]; exact ts
    · rw [ex_11.2.2]; exact tl
  have hX1 : okX nl (setS X p 11 t 0 u v) := set_okX hX (by omega) (fun g => by omega) (fun _ => hta)
  have tne : ∀ q, p < q → q ≤ p + k → ¬ t = q := fun q q0 q1 => by
    have := jt_f (hjt q q0 q1) (p + k) (by omega) (by omega) hlast
    rw [ht] at this; exact this
  have op1 : ∀ i, ¬ i = p → (setS X p 11 t 0 u v).op i = X.op i ∧ (setS X p 11 t 0 u v).a i = X.a i := fun i hi => ⟨iu_n hi, iu_n hi⟩
  have opp : (setS X p 11 t 0 u v).op p = 11 ∧ (setS X p 11 t 0 u v).a p = t := ⟨iu_r, iu_r⟩
  have h2 : SOk P m nl W (setS X p 11 t 0 u v) (rsF (fun i => !(decide (p < i) && decide (i ≤ p + k))) F) := by
    refine rs_ok h1 (by simp; omega) (fun i i0 i1 i2 hv hg => ?_) (fun i i0 i1 i2 hv hj => ?_)
    · have hv : i ≤ p ∨ p + k < i := by simp at hv; omega
      by_cases gi : i = p
      · rw [gi, opp.1] at hg; exact absurd hg (by decide)
      · simp; omega
    · have hv : i ≤ p ∨ p + k < i := by simp at hv; omega
      have i1 : i < X.n := i1
      by_cases gi : i = p
      · rw [gi, opp.2]
        by_cases q : p < t ∧ t ≤ p + k
        · exact absurd rfl (tne t q.1 q.2)
        · simp; omega
      · rw [(op1 i gi).1] at hj
        rw [(op1 i gi).2]
        by_cases q : p < X.a i ∧ X.a i ≤ p + k
        · exact absurd rfl (jt_f (hjt _ q.1 q.2) i i0 i1 hj)
        · simp; omega
  refine ⟨_, cut_ok hs hJ (by omega) (by omega) hpk (fun i i0 i1 i2 hj => ?_) hini (fun q => ?_) h2, cut_okX hX1 (by omega) (by omega) hpk (by show 1 ≤ X.n - k; omega)⟩
  · have i1 : i < X.n := i1
    by_cases gi : i = p
    · rw [gi, opp.2]
      intro z
      exact tne t (by omega) (by omega) rfl
    · rw [(op1 i gi).1] at hj
      rw [(op1 i gi).2]
      intro z
      exact jt_f (hjt (X.a i) (by omega) (by omega)) i i0 i1 hj rfl
  · have q : 0 ≤ (if (!(decide (p < p + 1) && decide (p + 1 ≤ p + k))) = true then F.1 (p + 1) else -1) := q
    rw [if_neg (by simp; omega)] at q
    omega
theorem g1_la {u v : Int} (h : op = 2 → u = v) : g1 P op a b u = g1 P op a b v := by
  by_cases g : op = 2
  · rw [h g]
  · simp only [g1, if_neg g]
theorem ex_l {y : Int} (h : op = 2 → ¬ a = y) : exf P m op a b n s (i_up l y 0) = exf P m op a b n s l ∧ exn P m op a b n s (i_up l y 0) = exn P m op a b n s l ∧ exs P m op a b n s (i_up l y 0) = exs P m op a b n s l ∧ ∀ x, ¬ x = y → exl P m op a b n s (i_up l y 0) x = exl P m op a b n s l x := by
  have e : op = 2 → i_up l y 0 a = l a := fun q => iu_n (h q)
  have g : ∀ q, gx P op a b s (i_up l y 0) q = gx P op a b s l q := fun q => by
    unfold gx
    rw [g1_la e]
  refine ⟨?_, ?_, ?_, fun x hx => ?_⟩
  · unfold exf
    rw [g]
    by_cases q : op = 2
    · rw [e q]
    · rw [if_neg (show ¬ (op = 2 ∧ i_up l y 0 a = 0) from fun z => q z.1), if_neg (show ¬ (op = 2 ∧ l a = 0) from fun z => q z.1)]
  · unfold exn; rw [g]
  · unfold exs; rw [g]
  · unfold exl
    by_cases q : op = 3
    · rw [if_pos q, if_pos q]
      simp only [i_up]
      by_cases z : x = a
      · rw [if_pos z, if_pos z]
      · rw [if_neg z, if_neg z, if_neg hx]
    · rw [if_neg q, if_neg q]; exact iu_n hx
/-- a local that nobody loads is forgotten -/
def drF (y : Int) (F : Fl) : Fl := (F.1, F.2.1, fun i => i_up (F.2.2 i) y 0)
theorem dr_ok {y : Int} (hs : WFs P) (hl : ∀ i, 0 ≤ i → i < X.n → X.op i = 2 → ¬ X.a i = y) (h : SOk P m nl W X F) : SOk P m nl W X (drF y F) := by
  obtain ⟨⟨⟨c1, c2, c3⟩, c4⟩, c5⟩ := h
  have z0 : tyo P 0 := ⟨Int.le_refl 0, by have := hs.1; omega⟩
  have tyu : ∀ {l : Int → Int}, tys P nl l → tys P nl (i_up l y 0) := fun h i i0 i1 => by
    simp only [i_up]
    split
    · exact z0
    · exact h i i0 i1
  have slu : ∀ {l l' t : Int → Int}, (∀ x, ¬ x = y → l' x = l x) → sle P nl l t → sle P nl l' (i_up t y 0) := fun e h i i0 i1 => by
    simp only [i_up]
    by_cases g : i = y
    · rw [if_pos g]; exact Or.inr (Or.inl rfl)
    · rw [if_neg g, e i g]; exact h i i0 i1
  refine ⟨⟨⟨c1, slu (fun _ _ => rfl) c2, fun i i0 i1 i2 => ?_⟩, c4⟩, fun i i0 i1 i2 => ?_⟩
  · obtain ⟨t1, t2, t3, t4⟩ := c3 i i0 i1 i2
    obtain ⟨x1, x2, x3, x4⟩ := ex_l (P := P) (m := m) (op := X.op i) (a := X.a i) (b := X.b i) (n := F.1 i) (s := F.2.1 i) (l := F.2.2 i) (y := y) (hl i i0 i1)
    have x1' : exf P m ((cdS X).2.1 i) ((cdS X).2.2.1 i) ((cdS X).2.2.2 i) ((drF y F).1 i) ((drF y F).2.1 i) ((drF y F).2.2 i) = exf P m (X.op i) (X.a i) (X.b i) (F.1 i) (F.2.1 i) (F.2.2 i) := x1
    have x2' : exn P m ((cdS X).2.1 i) ((cdS X).2.2.1 i) ((cdS X).2.2.2 i) ((drF y F).1 i) ((drF y F).2.1 i) ((drF y F).2.2 i) = exn P m (X.op i) (X.a i) (X.b i) (F.1 i) (F.2.1 i) (F.2.2 i) := x2
    have x3' : exs P m ((cdS X).2.1 i) ((cdS X).2.2.1 i) ((cdS X).2.2.2 i) ((drF y F).1 i) ((drF y F).2.1 i) ((drF y F).2.2 i) = exs P m (X.op i) (X.a i) (X.b i) (F.1 i) (F.2.1 i) (F.2.2 i) := x3
    have fl : ∀ {t nn : Int} {ss ll : Int → Int}, (∀ x, ¬ x = y → exl P m (X.op i) (X.a i) (X.b i) (F.1 i) (F.2.1 i) (i_up (F.2.2 i) y 0) x = ll x) → flw P nl F t nn ss ll → flw P nl (drF y F) t nn ss (exl P m (X.op i) (X.a i) (X.b i) (F.1 i) (F.2.1 i) (i_up (F.2.2 i) y 0)) := fun e h => ⟨h.1, h.2.1, slu e h.2.2⟩
    refine ⟨⟨t1.1, t1.2.1, tyu t1.2.2⟩, x1'.trans t2, fun q => ⟨(t3 q).1, ?_⟩, fun q => ?_⟩
    · rw [x2', x3']; exact fl x4 (t3 q).2
    · rw [x2', x3']; exact fl x4 (t4 q)
  · obtain ⟨⟨k1, k2⟩, k3⟩ := c5 i i0 i1 i2
    obtain ⟨x1, x2, x3, x4⟩ := ex_l (P := P) (m := m) (op := X.op i) (a := X.a i) (b := X.b i) (n := F.1 i) (s := F.2.1 i) (l := F.2.2 i) (y := y) (hl i i0 i1)
    refine ⟨⟨?_, ?_⟩, k3⟩
    · show stk P (exn P m (X.op i) (X.a i) (X.b i) (F.1 i) (F.2.1 i) (i_up (F.2.2 i) y 0)) (exs P m (X.op i) (X.a i) (X.b i) (F.1 i) (F.2.1 i) (i_up (F.2.2 i) y 0))
      rw [x2, x3]; exact k1
    · show tys P nl (exl P m (X.op i) (X.a i) (X.b i) (F.1 i) (F.2.1 i) (i_up (F.2.2 i) y 0))
      intro x x0 xn
      by_cases gx : x = y
      · subst gx
        unfold exl
        by_cases q : X.op i = 3
        · rw [if_pos q]
          have := k2 x x0 xn
          unfold exl at this
          rw [if_pos q] at this
          simp only [i_up] at this ⊢
          by_cases z : x = X.a i
          · rw [if_pos z] at this ⊢; exact this
          · rw [if_neg z, if_pos trivial]; exact z0
        · rw [if_neg q, iu_r]; exact z0
      · rw [x4 x gx]; exact k2 x x0 xn
/-- every rule keeps the typing -/
theorem ap_ok (hs : WFs P) (hJ : ∀ op a b a', isj op = true → W op a b → W op a' b) (hW0 : ∀ op a b, 0 ≤ op → op ≤ 14 → W op a b) (hini : tys P nl (ini P m)) (hX : okX nl X) (h : SOk P m nl W X F) (p0 : 0 ≤ p) (p1 : p < X.n) (hr : ¬ ruS X p = 0) : ∃ F', SOk P m nl W (apS X (ruS X p) p) F' ∧ okX nl (apS X (ruS X p) p) := by
  rcases ru_c hr with ⟨e, g⟩ | ⟨g, q⟩
  · have h1 := rs_ok (V := snB X) h sn_cl.1 (fun i i0 i1 _ => sn_cl.2.1 i i0 i1) (fun i i0 i1 _ => sn_cl.2.2 i i0 i1)
    have e' : apS X (ruS X p) p = cutS X p 1 := by unfold apS; rw [e, if_pos (Or.inl rfl)]
    rw [e']
    have hp : (rsF (snB X) F).1 p < 0 := by
      show (if snB X p = true then F.1 p else -1) < 0
      rw [if_neg (by rw [g]; decide)]; omega
    have pn : ¬ p = 0 := fun z => by rw [z, sn_cl.1] at g; cases g
    exact ⟨_, cut_ok hs hJ p0 (by omega) (by omega) (fun i _ _ _ _ z => by omega) hini (fun z => by omega) h1, cut_okX hX p0 (by omega) (by omega) (by omega)⟩
  have hp := sn_ty h g
  obtain ⟨⟨t10, ts, tl⟩, tx, t3, t4⟩ := h.ti p0 p1 hp
  have cut2 : ∀ k, (k = 1 ∨ k = 2 ∨ k = 3) → (∀ q, p < q → q < p + k → jtS X q = false) → (p + k < X.n ∧ flw P nl F (p + k) (F.1 p) (F.2.1 p) (F.2.2 p)) → ∃ F', SOk P m nl W (cutS X p k) F' ∧ okX nl (cutS X p k) := by
    intro k hk hjt hsk
    exact ⟨_, cut_ok hs hJ p0 (by omega) (by omega) (fun i i0 i1 _ hj z => jt_f (hjt (X.a i) z.1 z.2) i i0 i1 hj rfl) hini (fun _ => hsk) h, cut_okX hX p0 (by omega) (by omega) (by omega)⟩
  rcases q with ⟨e, q1, q2⟩ | ⟨e, q1, q2⟩ | ⟨e, q1, q2, q3, q4, q5, q6, q7⟩ | ⟨e, q1, q2, q3, q4⟩ | ⟨e, q1, q2, q3, q4⟩ | ⟨e, q1, q2, q3, q4, q5, q6⟩ | ⟨e, q1, q2, q3, q4⟩ | ⟨e, q1, q2, q3, q4⟩ | ⟨e, q1, q2⟩ | ⟨e, q1, q2, q3, q4, q5⟩ | ⟨e, q1, q2⟩
  · have e' : apS X (ruS X p) p = cutS X p 1 := by unfold apS; rw [e, if_pos (Or.inr rfl)]
    rw [e']
    have hj : isj (X.op p) = true := by rw [q1]; rfl
    have f1 := t4 hj
    have tg := h.tg p0 p1 hp hj
    rw [q1, ex_11.1, ex_11.2.1, ex_11.2.2, q2] at f1
    rw [q2] at tg
    exact cut2 1 (Or.inl rfl) (fun q _ _ => by omega) ⟨tg.2.1, f1⟩
  · have e' : apS X (ruS X p) p = setS X p (X.op p) (leS X p) (X.b p) (X.o1 p) (X.o2 p) := by
      unfold apS; rw [e, if_neg (by omega), if_pos rfl]
    rw [e']
    obtain ⟨u1, u2, u3⟩ := h.tg p0 p1 hp q1
    obtain ⟨z1, z2, z3⟩ := le_in q2
    obtain ⟨⟨w1, w2, w3⟩, w4⟩ := fw_flw hs h X.n.toNat (X.a p) u1 u2 u3
    rw [← z1] at w1 w2 w3 w4
    have ex := ex_j (P := P) (m := m) (a := leS X p) (a' := X.a p) (b := X.b p) (b' := X.b p) (n := F.1 p) (s := F.2.1 p) (l := F.2.2 p) q1
    obtain ⟨⟨k1, k2⟩, k3⟩ := h.2 p p0 p1 hp
    refine ⟨F, set_ok h (fun _ => ⟨⟨⟨t10, ts, tl⟩, by rw [ex.1]; exact tx, fun q => by rw [ex.2.1, ex.2.2.1, ex.2.2.2]; exact t3 q, fun q => by rw [ex.2.1, ex.2.2.1, ex.2.2.2]; exact (t4 q).tr hs k1.ty k2 w4⟩, by unfold exk; rw [ex.2.1, ex.2.2.1, ex.2.2.2]; exact ⟨k1, k2⟩, hJ _ _ _ _ q1 k3⟩), set_okX hX (hX.2 p p0 p1).1 (fun g => ?_) (fun _ => by have := hX.1.2; omega)⟩
    rcases g with g | g <;> (rw [g] at q1; exact absurd q1 (by decide))
  · have e' : apS X (ruS X p) p = cutS (setS X p 0 (ari (X.op (p + 2)) (X.a p) (X.a (p + 1))) 0 (X.o1 (p + 2)) (X.o2 (p + 2))) (p + 1) 2 := by
      unfold apS; rw [e, if_neg (by omega), if_neg (by omega), if_pos rfl]
    rw [e']
    generalize ari (X.op (p + 2)) (X.a p) (X.a (p + 1)) = v
    generalize X.o1 (p + 2) = w1
    generalize X.o2 (p + 2) = w2
    have h1 : SOk P m nl W (setS X p 0 v 0 w1 w2) F := by
      refine set_ok h (fun _ => ?_)
      obtain ⟨k1, k3⟩ := h.2 p p0 p1 hp
      rw [q1] at tx t3 k1
      exact ⟨⟨⟨t10, ts, tl⟩, tx, t3, fun q => absurd q (by decide)⟩, k1, hW0 _ _ _ (by omega) (by omega)⟩
    have hX1 : okX nl (setS X p 0 v 0 w1 w2) := set_okX hX (by omega) (fun g => by omega) (fun g => absurd g (by decide))
    have op1 : ∀ i, ¬ i = p → (setS X p 0 v 0 w1 w2).op i = X.op i ∧ (setS X p 0 v 0 w1 w2).a i = X.a i := fun i hi => ⟨iu_n hi, iu_n hi⟩
    have opp : (setS X p 0 v 0 w1 w2).op p = 0 := iu_r
    obtain ⟨n1, n2, -⟩ := h.nx p0 p1 hp (by rw [q1]; rfl)
    have sk := sk_ar (p := p + 1) hs h1 (by omega) (by show p + 1 < X.n; omega) n2 (by rw [(op1 (p + 1) (by omega)).1]; exact q2) (by rw [show p + 1 + 1 = p + 2 by omega, (op1 (p + 2) (by omega)).1]; exact q6)
    refine ⟨_, cut_ok hs hJ (by omega) (by omega) (by show p + 1 + 2 ≤ X.n; have : p + 1 + 2 < X.n := sk.1; omega) (fun i i0 i1 _ hj z => ?_) hini (fun _ => sk) h1, cut_okX hX1 (by omega) (by omega) (by show p + 1 + 2 ≤ X.n; have : p + 1 + 2 < X.n := sk.1; omega) (by show 1 ≤ X.n - 2; omega)⟩
    by_cases gi : i = p
    · rw [gi, opp] at hj; exact absurd hj (by decide)
    · rw [(op1 i gi).1] at hj
      rw [(op1 i gi).2] at z
      exact jt_f q5 i i0 i1 hj (by omega)
  · have e' : apS X (ruS X p) p = cutS X p 2 := by
      unfold apS; rw [e, if_neg (by omega), if_neg (by omega), if_neg (by omega), if_neg (by omega), if_neg (by omega), if_neg (by omega), if_neg (by omega)]
    rw [e']
    exact cut2 2 (Or.inr (Or.inl rfl)) (fun q a b => by rw [show q = p + 1 by omega]; exact q3) (sk_pop hs h p0 p1 hp q1 q4)
  · have sz := sk_z hs h p0 p1 hp (Or.inl q1) (Or.inl q4)
    have e' : apS X (ruS X p) p = if X.a p = 0 then cutS (setS X p 11 (X.a (p + 1)) 0 (X.o1 (p + 1)) (X.o2 (p + 1))) (p + 1) 1 else cutS X p 2 := by
      unfold apS; rw [e, if_neg (by omega), if_neg (by omega), if_neg (by omega), if_pos rfl]
    rw [e']
    by_cases gz : X.a p = 0
    · rw [if_pos gz]
      exact jp_ok hs hJ hW0 hini hX h p0 hp (Or.inl rfl) (by omega) (fun q a b => by rw [show q = p + 1 by omega]; exact q3) (by rw [q4]; rfl) rfl sz.2 (by rw [q1]; rfl) (by rw [q1]; rfl) (fun z => by omega)
    · rw [if_neg gz]
      exact cut2 2 (Or.inr (Or.inl rfl)) (fun q a b => by rw [show q = p + 1 by omega]; exact q3) sz.1
  · have sz := sk_less hs h p0 p1 hp q1 q2 q6
    have e' : apS X (ruS X p) p = if X.a p < X.a (p + 1) then cutS (setS X p 11 (X.a (p + 2)) 0 (X.o1 (p + 2)) (X.o2 (p + 2))) (p + 1) 2 else cutS X p 3 := by
      unfold apS; rw [e, if_neg (by omega), if_neg (by omega), if_neg (by omega), if_neg (by omega), if_pos rfl]
    rw [e']
    have jq : ∀ q, p < q → q ≤ p + 2 → jtS X q = false := fun q a b => by
      rcases (by omega : q = p + 1 ∨ q = p + 2) with rfl | rfl
      · exact q4
      · exact q5
    by_cases gz : X.a p < X.a (p + 1)
    · rw [if_pos gz]
      exact jp_ok hs hJ hW0 hini hX h p0 hp (Or.inr rfl) (by omega) jq (by rw [q6]; rfl) rfl sz.2 (by rw [q1]; rfl) (by rw [q1]; rfl) (fun _ => by rw [q2]; rfl)
    · rw [if_neg gz]
      exact cut2 3 (Or.inr (Or.inr rfl)) (fun q a b => jq q a (by omega)) sz.1
  · have sz := sk_z hs h p0 p1 hp (Or.inr q1) (Or.inr q4)
    have e' : apS X (ruS X p) p = cutS (setS X p 11 (X.a (p + 1)) 0 (X.o1 (p + 1)) (X.o2 (p + 1))) (p + 1) 1 := by
      unfold apS; rw [e, if_neg (by omega), if_neg (by omega), if_neg (by omega), if_neg (by omega), if_neg (by omega), if_pos rfl]
    rw [e']
    exact jp_ok hs hJ hW0 hini hX h p0 hp (Or.inl rfl) (by omega) (fun q a b => by rw [show q = p + 1 by omega]; exact q3) (by rw [q4]; rfl) rfl sz.2 (by rw [q1]; rfl) (by rw [q1]; rfl) (fun z => by omega)
  · have e' : apS X (ruS X p) p = cutS X p 2 := by
      unfold apS; rw [e, if_neg (by omega), if_neg (by omega), if_neg (by omega), if_neg (by omega), if_neg (by omega), if_neg (by omega), if_neg (by omega)]
    rw [e']
    exact cut2 2 (Or.inr (Or.inl rfl)) (fun q a b => by rw [show q = p + 1 by omega]; exact q3) (sk_ar hs h p0 p1 hp q1 q4)
  · have e' : apS X (ruS X p) p = setS X p 4 0 0 (X.o1 p) (X.o2 p) := by
      unfold apS; rw [e, if_neg (by omega), if_neg (by omega), if_neg (by omega), if_neg (by omega), if_neg (by omega), if_neg (by omega), if_pos (Or.inl rfl)]
    rw [e']
    have h1 := dr_ok hs (ld_f q2) h
    obtain ⟨⟨t10', ts', tl'⟩, tx', t3', -⟩ := h1.ti p0 p1 hp
    have wlen : ((wl P m (X.op p) (X.a p) (X.b p)).length : Int) = 1 := by rw [q1]; rfl
    have z1 := (exf_z tx wlen).1
    have n1 := h1.nx p0 p1 hp (by rw [q1]; rfl)
    rw [q1, ex_3.1, ex_3.2.1, ex_3.2.2] at n1
    refine ⟨_, set_ok h1 (fun _ => ⟨⟨⟨t10', ts', tl'⟩, ?_, fun _ => ?_, fun q => absurd q (by decide)⟩, ⟨?_, ?_⟩, hW0 _ _ _ (by omega) (by omega)⟩), set_okX hX (by omega) (fun g => by omega) (fun g => absurd g (by decide))⟩
    · show exf P m 4 0 0 (F.1 p) (F.2.1 p) (i_up (F.2.2 p) (X.a p) 0) = 0
      unfold exf
      have w : wl P m 4 0 0 = [-1] := rfl
      have g : ∀ q, gx P 4 0 0 (F.2.1 p) (i_up (F.2.2 p) (X.a p) 0) q = [] := fun _ => rfl
      have ll : ((([-1] : List Int).length : Nat) : Int) = 1 := rfl
      have af1 : ∀ q, af P (F.2.1 p) [-1] q ([-1] : List Int).length = true := fun q => by simp [af, ftt]
      rw [w, g, ll, if_neg (by omega), if_neg (by rw [af1]; decide), if_neg (by omega), if_neg (by show ¬ 10 < F.1 p - 1 + ((0 : Nat) : Int); omega)]
    · rw [ex_4.1, ex_4.2.1, ex_4.2.2]
      refine ⟨n1.1, n1.2.2.1, n1.2.2.2.1, fun i i0 i1 => ?_⟩
      have := n1.2.2.2.2 i i0 i1
      show sbt P (i_up (F.2.2 p) (X.a p) 0 i) (i_up (F.2.2 (p + 1)) (X.a p) 0 i)
      by_cases gi : i = X.a p
      · rw [gi, iu_r, iu_r]; exact sbt.rf
      · rw [iu_n gi, iu_n gi]
        rw [iu_n gi] at this
        have e2 : (drF (X.a p) F).2.2 p i = F.2.2 p i := iu_n gi
        have e3 : (drF (X.a p) F).2.2 (p + 1) i = F.2.2 (p + 1) i := iu_n gi
        rw [e2, e3] at this
        exact this
    · rw [ex_4.1, ex_4.2.1]
      exact fun i i0 i1 => ts i i0 (by show i < F.1 p; have : i < F.1 p - 1 := i1; omega)
    · rw [ex_4.2.2]; exact tl'
  · have e' : apS X (ruS X p) p = cutS X p 2 := by
      unfold apS; rw [e, if_neg (by omega), if_neg (by omega), if_neg (by omega), if_neg (by omega), if_neg (by omega), if_neg (by omega), if_neg (by omega)]
    rw [e']
    have ra := (hX.2 p p0 p1).2.1 (Or.inl q1)
    exact cut2 2 (Or.inr (Or.inl rfl)) (fun q a b => by rw [show q = p + 1 by omega]; exact q3) (sk_ls hs h p0 p1 hp q1 q4 q5 ra.1 ra.2)
  · have e' : apS X (ruS X p) p = setS X p 4 0 0 (X.o1 p) (X.o2 p) := by
      unfold apS; rw [e, if_neg (by omega), if_neg (by omega), if_neg (by omega), if_neg (by omega), if_neg (by omega), if_neg (by omega), if_pos (Or.inr rfl)]
    rw [e']
    have n1 := h.nx p0 p1 hp (by rcases q1 with g | g <;> (rw [g]; rfl))
    rw [(ex_12 q1).1, (ex_12 q1).2.1, (ex_12 q1).2.2] at n1
    have wlen : ((wl P m (X.op p) (X.a p) (X.b p)).length : Int) = 1 := by rcases q1 with g | g <;> (rw [g]; rfl)
    have z1 := (exf_z tx wlen).1
    refine ⟨F, set_ok h (fun _ => ⟨⟨⟨t10, ts, tl⟩, ?_, fun _ => ?_, fun q => absurd q (by decide)⟩, ⟨?_, ?_⟩, hW0 _ _ _ (by omega) (by omega)⟩), set_okX hX (by omega) (fun g => by omega) (fun g => absurd g (by decide))⟩
    · unfold exf
      have w : wl P m 4 0 0 = [-1] := rfl
      have g : ∀ q, gx P 4 0 0 (F.2.1 p) (F.2.2 p) q = [] := fun _ => rfl
      have ll : ((([-1] : List Int).length : Nat) : Int) = 1 := rfl
      have af1 : ∀ q, af P (F.2.1 p) [-1] q ([-1] : List Int).length = true := fun q => by simp [af, ftt]
      rw [w, g, ll, if_neg (by omega), if_neg (by rw [af1]; decide), if_neg (by omega), if_neg (by show ¬ 10 < F.1 p - 1 + ((0 : Nat) : Int); omega)]
    · rw [ex_4.1, ex_4.2.1, ex_4.2.2]
      exact ⟨n1.1, n1.2.2⟩
    · rw [ex_4.1, ex_4.2.1]
      exact fun i i0 i1 => ts i i0 (by omega)
    · rw [ex_4.2.2]; exact tl
end KEEP
