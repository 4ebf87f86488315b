/-! strips: a code that is changed, and its typing -/
abbrev Sx : Type := Int × (Int → Int) × (Int → Int) × (Int → Int) × (Int → Int) × (Int → Int)
abbrev Sx.n (X : Sx) : Int := X.1
abbrev Sx.op (X : Sx) : Int → Int := X.2.1
abbrev Sx.a (X : Sx) : Int → Int := X.2.2.1
abbrev Sx.b (X : Sx) : Int → Int := X.2.2.2.1
abbrev Sx.o1 (X : Sx) : Int → Int := X.2.2.2.2.1
abbrev Sx.o2 (X : Sx) : Int → Int := X.2.2.2.2.2
def cdS (X : Sx) : Cd := (X.n, X.op, X.a, X.b)
def rtg (p k t : Int) : Int := if p + k ≤ t then t - k else if p < t then p else t
def shf {α : Type} (p k : Int) (f : Int → α) : Int → α := fun i => if i < p then f i else f (i + k)
def cutS (X : Sx) (p k : Int) : Sx := (X.n - k, shf p k X.op, (fun i => if isj (shf p k X.op i) = true then rtg p k (shf p k X.a i) else shf p k X.a i), shf p k X.b, shf p k X.o1, shf p k X.o2)
def setS (X : Sx) (p o a b u v : Int) : Sx := (X.n, i_up X.op p o, i_up X.a p a, i_up X.b p b, i_up X.o1 p u, i_up X.o2 p v)
def shF (p k : Int) (F : Fl) : Fl := (shf p k F.1, shf p k F.2.1, shf p k F.2.2)
def exk (P : Pg) (m nl op a b n : Int) (s l : Int → Int) : Prop := stk P (exn P m op a b n s l) (exs P m op a b n s l) ∧ tys P nl (exl P m op a b n s l)
/-- a strip with a typing; W: what may stand at a typed place -/
def SOk (P : Pg) (m nl : Int) (W : Int → Int → Int → Prop) (X : Sx) (F : Fl) : Prop := (TyC P m nl (cdS X) F ∧ ∀ i, i < 0 ∨ X.n ≤ i → F.1 i < 0) ∧ ∀ i, 0 ≤ i → i < X.n → 0 ≤ F.1 i → exk P m nl (X.op i) (X.a i) (X.b i) (F.1 i) (F.2.1 i) (F.2.2 i) ∧ W (X.op i) (X.a i) (X.b i)
section STRIP
variable {P : Pg} {m nl n p k j op a b a' b' t : Int} {s l s' l' : Int → Int} {X : Sx} {F : Fl} {W : Int → Int → Int → Prop}
theorem sle.tr {u : Int → Int} (hs : WFs P) (ht : tys P n s) (h : sle P n s s') (h' : sle P n s' u) : sle P n s u := fun i i0 i1 => (h i i0 i1).tr hs (ht i i0 i1) (h' i i0 i1)
theorem flw.tr (hs : WFs P) (h1 : tys P n s) (h2 : tys P nl l) (h : flw P nl F j n s l) (h' : flw P nl F t (F.1 j) (F.2.1 j) (F.2.2 j)) : flw P nl F t n s l := by
  obtain ⟨a1, a2, a3⟩ := h
  obtain ⟨b1, b2, b3⟩ := h'
  rw [a1] at b1 b2
  exact ⟨b1, a2.tr hs h1 b2, a3.tr hs h2 b3⟩
/-- jumps don't look at what they tell -/
theorem ex_j (h : isj op = true) : exf P m op a b n s l = exf P m op a' b' n s l ∧ exn P m op a b n s l = exn P m op a' b' n s l ∧ exs P m op a b n s l = exs P m op a' b' n s l ∧ exl P m op a b n s l = exl P m op a' b' n s l := by
  have h1 : 11 ≤ op ∧ op ≤ 14 := by simpa [isj] using h
  rcases (by omega : op = 11 ∨ op = 12 ∨ op = 13 ∨ op = 14) with rfl | rfl | rfl | rfl <;> exact ⟨rfl, rfl, rfl, rfl⟩
theorem wl_le (h : exf P m op a b n s l = 0) : 0 ≤ exn P m op a b n s l := by
  have := (exf_z (wn := ((wl P m op a b).length : Int)) h rfl).1
  unfold exn
  omega
theorem rt_lo (h : t ≤ p) (hk : 1 ≤ k) : rtg p k t = t := by
  unfold rtg
  rw [if_neg (by omega), if_neg (by omega)]
theorem rt_hi (h : p + k ≤ t) : rtg p k t = t - k := by
  unfold rtg
  rw [if_pos h]
theorem shf_lo {α : Type} {f : Int → α} {i : Int} (h : i < p) : shf p k f i = f i := by
  simp only [shf, if_pos h]
theorem shf_hi {α : Type} {f : Int → α} {i : Int} (h : ¬ i < p) : shf p k f i = f (i + k) := by
  simp only [shf, if_neg h]
/-- a flow in the cut code -/
theorem cut_flw (hs : WFs P) (hk : 1 ≤ k) (hn : 0 ≤ n) (h1 : tys P n s) (h2 : tys P nl l) (hsk : 0 ≤ F.1 p → flw P nl F (p + k) (F.1 p) (F.2.1 p) (F.2.2 p)) (ht : ¬ (p < t ∧ t < p + k)) (h : flw P nl F t n s l) : flw P nl (shF p k F) (rtg p k t) n s l := by
  by_cases g : t < p
  · rw [rt_lo (by omega) hk]
    unfold flw shF
    dsimp only
    rw [shf_lo g, shf_lo g, shf_lo g]
    exact h
  · by_cases g2 : t = p
    · subst g2
      have h' := h.tr hs h1 h2 (hsk (by rw [h.1]; exact hn))
      rw [rt_lo (by omega) hk]
      unfold flw shF
      dsimp only
      rw [shf_hi g, shf_hi g, shf_hi g]
      exact h'
    · rw [rt_hi (by omega)]
      unfold flw shF
      dsimp only
      rw [shf_hi (by omega), shf_hi (by omega), shf_hi (by omega), show t - k + k = t by omega]
      exact h
theorem cut_ok (hs : WFs P) (hJ : ∀ op a b a', isj op = true → W op a b → W op a' b) (p0 : 0 ≤ p) (hk : 1 ≤ k) (hpk : p + k ≤ X.n) (hin : ∀ i, 0 ≤ i → i < X.n → 0 ≤ F.1 i → isj (X.op i) = true → ¬ (p < X.a i ∧ X.a i < p + k)) (hini : tys P nl (ini P m)) (hsk : 0 ≤ F.1 p → p + k < X.n ∧ flw P nl F (p + k) (F.1 p) (F.2.1 p) (F.2.2 p)) (h : SOk P m nl W X F) : SOk P m nl W (cutS X p k) (shF p k F) := by
  obtain ⟨⟨⟨c1, c2, c3⟩, c4⟩, c5⟩ := h
  have hsk' : 0 ≤ F.1 p → flw P nl F (p + k) (F.1 p) (F.2.1 p) (F.2.2 p) := fun q => (hsk q).2
  -- the instruction at the new place
  have key : ∀ i, 0 ≤ i → i < X.n - k → 0 ≤ (shF p k F).1 i → ∃ j, 0 ≤ j ∧ j < X.n ∧ (j = if i < p then i else i + k) ∧ (shF p k F).1 i = F.1 j ∧ (shF p k F).2.1 i = F.2.1 j ∧ (shF p k F).2.2 i = F.2.2 j ∧ (cutS X p k).op i = X.op j ∧ (cutS X p k).b i = X.b j ∧ (cutS X p k).a i = (if isj (X.op j) = true then rtg p k (X.a j) else X.a j) ∧ rtg p k (j + 1) = i + 1 := by
    intro i i0 i1 i2
    by_cases g : i < p
    · refine ⟨i, i0, by omega, by rw [if_pos g], shf_lo g, shf_lo g, shf_lo g, shf_lo g, shf_lo g, ?_, rt_lo (by omega) hk⟩
      show (if isj (shf p k X.op i) = true then rtg p k (shf p k X.a i) else shf p k X.a i) = _
      rw [shf_lo g, shf_lo g]
    · refine ⟨i + k, by omega, by omega, by rw [if_neg g], shf_hi g, shf_hi g, shf_hi g, shf_hi g, shf_hi g, ?_, ?_⟩
      · show (if isj (shf p k X.op i) = true then rtg p k (shf p k X.a i) else shf p k X.a i) = _
        rw [shf_hi g, shf_hi g]
      · rw [rt_hi (by omega)]; omega
  refine ⟨⟨⟨?_, ?_, fun i i0 i1 i2 => ?_⟩, fun i hi => ?_⟩, fun i i0 i1 i2 => ?_⟩
  · show shf p k F.1 0 = 0
    by_cases g : (0 : Int) < p
    · rw [shf_lo g]; exact c1
    · have : p = 0 := by omega
      rw [shf_hi g]
      subst this
      have := (hsk' (by omega)).1
      rw [c1] at this
      exact this
  · show sle P nl (ini P m) (shf p k F.2.2 0)
    by_cases g : (0 : Int) < p
    · rw [shf_lo g]; exact c2
    · have : p = 0 := by omega
      rw [shf_hi g]
      subst this
      exact c2.tr hs hini (hsk' (by omega)).2.2
  · obtain ⟨j, j0, j1, je, f1, f2, f3, e1, e2, e3, e4⟩ := key i i0 i1 i2
    have e1' : (cdS (cutS X p k)).2.1 i = X.op j := e1
    have e2' : (cdS (cutS X p k)).2.2.2 i = X.b j := e2
    have e3' : (cdS (cutS X p k)).2.2.1 i = (if isj (X.op j) = true then rtg p k (X.a j) else X.a j) := e3
    obtain ⟨t1, t2, t3, t4⟩ := c3 j j0 j1 (by rw [← f1]; exact i2)
    obtain ⟨⟨k1, k2⟩, -⟩ := c5 j j0 j1 (by rw [← f1]; exact i2)
    have t1 : F.1 j ≤ 10 ∧ stk P (F.1 j) (F.2.1 j) ∧ tys P nl (F.2.2 j) := t1
    have t2 : exf P m (X.op j) (X.a j) (X.b j) (F.1 j) (F.2.1 j) (F.2.2 j) = 0 := t2
    have t3 : gon (X.op j) = true → j + 1 < X.n ∧ flw P nl F (j + 1) (exn P m (X.op j) (X.a j) (X.b j) (F.1 j) (F.2.1 j) (F.2.2 j)) (exs P m (X.op j) (X.a j) (X.b j) (F.1 j) (F.2.1 j) (F.2.2 j)) (exl P m (X.op j) (X.a j) (X.b j) (F.1 j) (F.2.1 j) (F.2.2 j)) := t3
    have t4 : isj (X.op j) = true → flw P nl F (X.a j) (exn P m (X.op j) (X.a j) (X.b j) (F.1 j) (F.2.1 j) (F.2.2 j)) (exs P m (X.op j) (X.a j) (X.b j) (F.1 j) (F.2.1 j) (F.2.2 j)) (exl P m (X.op j) (X.a j) (X.b j) (F.1 j) (F.2.1 j) (F.2.2 j)) := t4
    have n0 := wl_le t2
    -- the ends of the changed instruction are the old ones
    have same : exf P m (X.op j) (if isj (X.op j) = true then rtg p k (X.a j) else X.a j) (X.b j) (F.1 j) (F.2.1 j) (F.2.2 j) = exf P m (X.op j) (X.a j) (X.b j) (F.1 j) (F.2.1 j) (F.2.2 j) ∧ exn P m (X.op j) (if isj (X.op j) = true then rtg p k (X.a j) else X.a j) (X.b j) (F.1 j) (F.2.1 j) (F.2.2 j) = exn P m (X.op j) (X.a j) (X.b j) (F.1 j) (F.2.1 j) (F.2.2 j) ∧ exs P m (X.op j) (if isj (X.op j) = true then rtg p k (X.a j) else X.a j) (X.b j) (F.1 j) (F.2.1 j) (F.2.2 j) = exs P m (X.op j) (X.a j) (X.b j) (F.1 j) (F.2.1 j) (F.2.2 j) ∧ exl P m (X.op j) (if isj (X.op j) = true then rtg p k (X.a j) else X.a j) (X.b j) (F.1 j) (F.2.1 j) (F.2.2 j) = exl P m (X.op j) (X.a j) (X.b j) (F.1 j) (F.2.1 j) (F.2.2 j) := by
      by_cases gj : isj (X.op j) = true
      · rw [if_pos gj]; exact ex_j gj
      · rw [if_neg gj]; exact ⟨rfl, rfl, rfl, rfl⟩
    unfold TyI
    rw [e1', e2', e3', f1, f2, f3, same.1, same.2.1, same.2.2.1, same.2.2.2]
    refine ⟨t1, t2, fun q => ?_, fun q => ?_⟩
    · obtain ⟨u1, u2⟩ := t3 q
      have hno : ¬ (p < j + 1 ∧ j + 1 < p + k) := by
        rw [je]
        by_cases g : i < p
        · rw [if_pos g]; omega
        · rw [if_neg g]; omega
      have u3 := cut_flw hs hk n0 k1.ty k2 hsk' hno u2
      rw [e4] at u3
      refine ⟨?_, u3⟩
      show i + 1 < X.n - k
      rw [je] at u1
      by_cases g : i < p
      · rw [if_pos g] at u1 je
        by_cases g2 : i + 1 = p
        · have : F.1 p = exn P m (X.op j) (X.a j) (X.b j) (F.1 j) (F.2.1 j) (F.2.2 j) := by
            have := u2.1
            rw [je, g2] at this
            rw [je]; exact this
          have := (hsk (by rw [this]; exact n0)).1
          omega
        · omega
      · rw [if_neg g] at u1; omega
    · rw [if_pos q]
      exact cut_flw hs hk n0 k1.ty k2 hsk' (hin j j0 j1 (by rw [← f1]; exact i2) q) (t4 q)
  · show shf p k F.1 i < 0
    have hi : i < 0 ∨ X.n - k ≤ i := hi
    by_cases g : i < p
    · rw [shf_lo g]; exact c4 i (by omega)
    · rw [shf_hi g]; exact c4 (i + k) (by omega)
  · obtain ⟨j, j0, j1, je, f1, f2, f3, e1, e2, e3, e4⟩ := key i i0 i1 i2
    obtain ⟨k1, k2⟩ := c5 j j0 j1 (by rw [← f1]; exact i2)
    unfold exk at k1 ⊢
    rw [e1, e2, e3, f1, f2, f3]
    by_cases gj : isj (X.op j) = true
    · rw [if_pos gj]
      have := ex_j (P := P) (m := m) (a := rtg p k (X.a j)) (a' := X.a j) (b := X.b j) (b' := X.b j) (n := F.1 j) (s := F.2.1 j) (l := F.2.2 j) gj
      rw [this.2.1, this.2.2.1, this.2.2.2]
      exact ⟨k1, hJ _ _ _ _ gj k2⟩
    · rw [if_neg gj]; exact ⟨k1, k2⟩
/-- another instruction at p -/
theorem set_ok {o u v : Int} (h : SOk P m nl W X F) (hp : 0 ≤ F.1 p → TyI P m nl X.n o a b p F ∧ exk P m nl o a b (F.1 p) (F.2.1 p) (F.2.2 p) ∧ W o a b) : SOk P m nl W (setS X p o a b u v) F := by
  obtain ⟨⟨⟨c1, c2, c3⟩, c4⟩, c5⟩ := h
  refine ⟨⟨⟨c1, c2, fun i i0 i1 i2 => ?_⟩, c4⟩, fun i i0 i1 i2 => ?_⟩
  · show TyI P m nl X.n (i_up X.op p o i) (i_up X.a p a i) (i_up X.b p b i) i F
    simp only [i_up]
    by_cases g : i = p
    · rw [if_pos g, if_pos g, if_pos g, g]; exact (hp (by rw [← g]; exact i2)).1
    · rw [if_neg g, if_neg g, if_neg g]; exact c3 i i0 i1 i2
  · show exk P m nl (i_up X.op p o i) (i_up X.a p a i) (i_up X.b p b i) (F.1 i) (F.2.1 i) (F.2.2 i) ∧ W (i_up X.op p o i) (i_up X.a p a i) (i_up X.b p b i)
    simp only [i_up]
    by_cases g : i = p
    · rw [if_pos g, if_pos g, if_pos g, g]; exact (hp (by rw [← g]; exact i2)).2
    · rw [if_neg g, if_neg g, if_neg g]; exact c5 i i0 i1 i2
/-- fewer typed places -/
def rsF (V : Int → Bool) (F : Fl) : Fl := ((fun i => if V i = true then F.1 i else -1), F.2.1, F.2.2)
theorem rs_ok {V : Int → Bool} (h : SOk P m nl W X F) (v0 : V 0 = true) (hg : ∀ i, 0 ≤ i → i < X.n → 0 ≤ F.1 i → V i = true → gon (X.op i) = true → V (i + 1) = true) (hj : ∀ i, 0 ≤ i → i < X.n → 0 ≤ F.1 i → V i = true → isj (X.op i) = true → V (X.a i) = true) : SOk P m nl W X (rsF V F) := by
  obtain ⟨⟨⟨c1, c2, c3⟩, c4⟩, c5⟩ := h
  have on : ∀ i, 0 ≤ (rsF V F).1 i → V i = true ∧ (rsF V F).1 i = F.1 i := by
    intro i hi
    have hi : 0 ≤ (if V i = true then F.1 i else -1) := hi
    by_cases g : V i = true
    · exact ⟨g, if_pos g⟩
    · rw [if_neg g] at hi; omega
  have fl : ∀ {t n : Int} {s l : Int → Int}, V t = true → flw P nl F t n s l → flw P nl (rsF V F) t n s l := by
    intro t n s l hv h
    refine ⟨?_, h.2⟩
    show (if V t = true then F.1 t else -1) = n
    rw [if_pos hv]; exact h.1
  refine ⟨⟨⟨?_, c2, fun i i0 i1 i2 => ?_⟩, fun i hi => ?_⟩, fun i i0 i1 i2 => ?_⟩
  · show (if V 0 = true then F.1 0 else -1) = 0
    rw [if_pos v0]; exact c1
  · obtain ⟨g1, g2⟩ := on i i2
    rw [g2] at i2
    obtain ⟨t1, t2, t3, t4⟩ := c3 i i0 i1 i2
    unfold TyI
    rw [g2]
    exact ⟨t1, t2, fun q => ⟨(t3 q).1, fl (hg i i0 i1 i2 g1 q) (t3 q).2⟩, fun q => fl (hj i i0 i1 i2 g1 q) (t4 q)⟩
  · show (if V i = true then F.1 i else -1) < 0
    by_cases g : V i = true
    · rw [if_pos g]; exact c4 i hi
    · rw [if_neg g]; omega
  · obtain ⟨g1, g2⟩ := on i i2
    rw [g2] at i2 ⊢
    exact c5 i i0 i1 i2
end STRIP
