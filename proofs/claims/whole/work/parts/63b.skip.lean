/-! what single instructions do with types; pieces of code that change nothing -/
section SKIP
variable {P : Pg} {m nl n p k j op a b a' b' t x : Int} {s l s' l' : Int → Int} {X : Sx} {F : Fl} {W : Int → Int → Int → Prop}
theorem ex_0 : exn P m 0 a b n s l = n + 1 ∧ exs P m 0 a b n s l = i_up s n 1 ∧ exl P m 0 a b n s l = l := by
  refine ⟨?_, ?_, rfl⟩
  · show n - ((0 : Nat) : Int) + ((1 : Nat) : Int) = n + 1
    omega
  · show psh s (n - ((0 : Nat) : Int)) [1] = _
    rw [show n - ((0 : Nat) : Int) = n by omega]; rfl
theorem ex_1 : exn P m 1 a b n s l = n + 1 ∧ exs P m 1 a b n s l = i_up s n 2 ∧ exl P m 1 a b n s l = l := by
  refine ⟨?_, ?_, rfl⟩
  · show n - ((0 : Nat) : Int) + ((1 : Nat) : Int) = n + 1
    omega
  · show psh s (n - ((0 : Nat) : Int)) [2] = _
    rw [show n - ((0 : Nat) : Int) = n by omega]; rfl
theorem ex_2 : exn P m 2 a b n s l = n + 1 ∧ exs P m 2 a b n s l = i_up s n (l a) ∧ exl P m 2 a b n s l = l := by
  refine ⟨?_, ?_, rfl⟩
  · show n - ((0 : Nat) : Int) + ((1 : Nat) : Int) = n + 1
    omega
  · show psh s (n - ((0 : Nat) : Int)) [l a] = _
    rw [show n - ((0 : Nat) : Int) = n by omega]; rfl
theorem ex_3 : exn P m 3 a b n s l = n - 1 ∧ exs P m 3 a b n s l = s ∧ exl P m 3 a b n s l = i_up l a (s (n - 1)) := by
  refine ⟨?_, rfl, ?_⟩
  · show n - ((1 : Nat) : Int) + ((0 : Nat) : Int) = n - 1
    omega
  · show i_up l a (s (n - ((1 : Nat) : Int))) = _
    rfl
theorem ex_4 : exn P m 4 a b n s l = n - 1 ∧ exs P m 4 a b n s l = s ∧ exl P m 4 a b n s l = l := by
  refine ⟨?_, rfl, rfl⟩
  show n - ((1 : Nat) : Int) + ((0 : Nat) : Int) = n - 1
  omega
theorem ex_5 : exn P m 5 a b n s l = n + 1 ∧ exs P m 5 a b n s l = i_up (i_up s (n - 1) (s (n - 1))) n (s (n - 1)) ∧ exl P m 5 a b n s l = l := by
  refine ⟨?_, ?_, rfl⟩
  · show n - ((1 : Nat) : Int) + ((2 : Nat) : Int) = n + 1
    omega
  · show i_up (i_up s (n - ((1 : Nat) : Int)) (s (n - ((1 : Nat) : Int)))) (n - ((1 : Nat) : Int) + 1) (s (n - ((1 : Nat) : Int))) = _
    rw [show n - ((1 : Nat) : Int) + 1 = n by omega]
    rfl
theorem ex_6 (h : 6 ≤ op ∧ op ≤ 10) : exn P m op a b n s l = n - 1 ∧ exs P m op a b n s l = i_up s (n - 2) 1 ∧ exl P m op a b n s l = l := by
  have w : wl P m op a b = [1, 1] := by
    unfold wl
    rw [if_neg (by omega), if_neg (by omega), if_pos (by omega)]
  have g : gx P op a b s l (n - 2) = [1] := by
    unfold gx g1
    rw [if_neg (by omega), if_neg (by omega), if_neg (by omega), if_neg (by omega), if_pos h]
  have e : ((wl P m op a b).length : Int) = 2 := by rw [w]; rfl
  unfold exn exs exl
  rw [e, g, if_neg (by omega)]
  refine ⟨?_, rfl, rfl⟩
  show n - 2 + ((1 : Nat) : Int) = n - 1
  omega
theorem ex_11 : exn P m 11 a b n s l = n ∧ exs P m 11 a b n s l = s ∧ exl P m 11 a b n s l = l := by
  refine ⟨?_, rfl, rfl⟩
  show n - ((0 : Nat) : Int) + ((0 : Nat) : Int) = n
  omega
theorem ex_12 (h : op = 12 ∨ op = 14) : exn P m op a b n s l = n - 1 ∧ exs P m op a b n s l = s ∧ exl P m op a b n s l = l := by
  rcases h with rfl | rfl
  · refine ⟨?_, rfl, rfl⟩
    show n - ((1 : Nat) : Int) + ((0 : Nat) : Int) = n - 1
    omega
  · refine ⟨?_, rfl, rfl⟩
    show n - ((1 : Nat) : Int) + ((0 : Nat) : Int) = n - 1
    omega
theorem ex_13 : exn P m 13 a b n s l = n - 2 ∧ exs P m 13 a b n s l = s ∧ exl P m 13 a b n s l = l := by
  refine ⟨?_, rfl, rfl⟩
  show n - ((2 : Nat) : Int) + ((0 : Nat) : Int) = n - 2
  omega
/-- what an instruction at a typed place says -/
theorem SOk.ti (h : SOk P m nl W X F) (p0 : 0 ≤ p) (p1 : p < X.n) (hp : 0 ≤ F.1 p) : TyI P m nl X.n (X.op p) (X.a p) (X.b p) p F := h.1.1.2.2 p p0 p1 hp
theorem SOk.tg (h : SOk P m nl W X F) (p0 : 0 ≤ p) (p1 : p < X.n) (hp : 0 ≤ F.1 p) (hj : isj (X.op p) = true) : 0 ≤ X.a p ∧ X.a p < X.n ∧ 0 ≤ F.1 (X.a p) := by
  obtain ⟨t1, t2, t3, t4⟩ := h.ti p0 p1 hp
  have q := (t4 hj).1
  have n0 := wl_le t2
  have q2 : 0 ≤ F.1 (X.a p) := by rw [q]; exact n0
  by_cases g : X.a p < 0 ∨ X.n ≤ X.a p
  · have := h.1.2 _ g; omega
  · exact ⟨by omega, by omega, q2⟩
/-- the next place -/
theorem SOk.nx (h : SOk P m nl W X F) (p0 : 0 ≤ p) (p1 : p < X.n) (hp : 0 ≤ F.1 p) (hg : gon (X.op p) = true) : p + 1 < X.n ∧ 0 ≤ F.1 (p + 1) ∧ flw P nl F (p + 1) (exn P m (X.op p) (X.a p) (X.b p) (F.1 p) (F.2.1 p) (F.2.2 p)) (exs P m (X.op p) (X.a p) (X.b p) (F.1 p) (F.2.1 p) (F.2.2 p)) (exl P m (X.op p) (X.a p) (X.b p) (F.1 p) (F.2.1 p) (F.2.2 p)) := by
  obtain ⟨t1, t2, t3, t4⟩ := h.ti p0 p1 hp
  obtain ⟨u1, u2⟩ := t3 hg
  have := wl_le t2
  exact ⟨u1, by rw [u2.1]; exact this, u2⟩
theorem sle_up (h : sle P (n + 1) (i_up s n x) s') : sle P n s s' := fun i i0 i1 => by
  have := h i i0 (by omega)
  simp only [i_up] at this
  rw [if_neg (by omega)] at this
  exact this
/-- something comes and is taken away -/
theorem sk_pop (hs : WFs P) (h : SOk P m nl W X F) (p0 : 0 ≤ p) (p1 : p < X.n) (hp : 0 ≤ F.1 p) (ho : X.op p = 0 ∨ X.op p = 1 ∨ X.op p = 2 ∨ X.op p = 5) (h4 : X.op (p + 1) = 4) : p + 2 < X.n ∧ flw P nl F (p + 2) (F.1 p) (F.2.1 p) (F.2.2 p) := by
  obtain ⟨⟨t10, t1s, t1l⟩, -⟩ := h.ti p0 p1 hp
  obtain ⟨a1, a2, a3⟩ := h.nx p0 p1 hp (by rcases ho with g | g | g | g <;> (rw [g]; rfl))
  obtain ⟨b1, b2, b3⟩ := h.nx (p := p + 1) (by omega) a1 a2 (by rw [h4]; rfl)
  rw [h4, ex_4.1, ex_4.2.1, ex_4.2.2, show p + 1 + 1 = p + 2 by omega] at b3
  have up : F.1 (p + 1) = F.1 p + 1 ∧ sle P (F.1 p) (F.2.1 p) (F.2.1 (p + 1)) ∧ sle P nl (F.2.2 p) (F.2.2 (p + 1)) := by
    rcases ho with g | g | g | g
    · rw [g, ex_0.1, ex_0.2.1, ex_0.2.2] at a3
      exact ⟨a3.1, sle_up a3.2.1, a3.2.2⟩
    · rw [g, ex_1.1, ex_1.2.1, ex_1.2.2] at a3
      exact ⟨a3.1, sle_up a3.2.1, a3.2.2⟩
    · rw [g, ex_2.1, ex_2.2.1, ex_2.2.2] at a3
      exact ⟨a3.1, sle_up a3.2.1, a3.2.2⟩
    · rw [g, ex_5.1, ex_5.2.1, ex_5.2.2] at a3
      refine ⟨a3.1, fun i i0 i1 => ?_, a3.2.2⟩
      have := (sle_up a3.2.1) i i0 i1
      simp only [i_up] at this
      by_cases gi : i = F.1 p - 1
      · rw [if_pos gi, ← gi] at this; exact this
      · rw [if_neg gi] at this; exact this
  obtain ⟨u1, u2, u3⟩ := up
  refine ⟨by omega, by rw [b3.1, u1]; omega, ?_, u3.tr hs t1l b3.2.2⟩
  have b4 := b3.2.1
  rw [u1, show F.1 p + 1 - 1 = F.1 p by omega] at b4
  exact u2.tr hs t1s.ty b4
/-- a known value ahead of a jump that takes one -/
theorem sk_z (hs : WFs P) (h : SOk P m nl W X F) (p0 : 0 ≤ p) (p1 : p < X.n) (hp : 0 ≤ F.1 p) (ho : X.op p = 0 ∨ X.op p = 1) (h4 : X.op (p + 1) = 12 ∨ X.op (p + 1) = 14) : (p + 2 < X.n ∧ flw P nl F (p + 2) (F.1 p) (F.2.1 p) (F.2.2 p)) ∧ flw P nl F (X.a (p + 1)) (F.1 p) (F.2.1 p) (F.2.2 p) := by
  obtain ⟨⟨t10, t1s, t1l⟩, -⟩ := h.ti p0 p1 hp
  obtain ⟨a1, a2, a3⟩ := h.nx p0 p1 hp (by rcases ho with g | g <;> (rw [g]; rfl))
  obtain ⟨b1, b2, b3⟩ := h.nx (p := p + 1) (by omega) a1 a2 (by rcases h4 with g | g <;> (rw [g]; rfl))
  have b5 := (h.ti (p := p + 1) (by omega) a1 a2).2.2.2 (by rcases h4 with g | g <;> (rw [g]; rfl))
  rw [(ex_12 h4).1, (ex_12 h4).2.1, (ex_12 h4).2.2] at b3 b5
  rw [show p + 1 + 1 = p + 2 by omega] at b3
  have up : F.1 (p + 1) = F.1 p + 1 ∧ sle P (F.1 p) (F.2.1 p) (F.2.1 (p + 1)) ∧ sle P nl (F.2.2 p) (F.2.2 (p + 1)) := by
    rcases ho with g | g
    · rw [g, ex_0.1, ex_0.2.1, ex_0.2.2] at a3
      exact ⟨a3.1, sle_up a3.2.1, a3.2.2⟩
    · rw [g, ex_1.1, ex_1.2.1, ex_1.2.2] at a3
      exact ⟨a3.1, sle_up a3.2.1, a3.2.2⟩
  obtain ⟨u1, u2, u3⟩ := up
  have fin : ∀ t, flw P nl F t (F.1 (p + 1) - 1) (F.2.1 (p + 1)) (F.2.2 (p + 1)) → flw P nl F t (F.1 p) (F.2.1 p) (F.2.2 p) := by
    intro t ⟨q1, q2, q3⟩
    rw [u1, show F.1 p + 1 - 1 = F.1 p by omega] at q1 q2
    exact ⟨q1, u2.tr hs t1s.ty q2, u3.tr hs t1l q3⟩
  exact ⟨⟨by omega, fin _ b3⟩, fin _ b5⟩
/-- two numbers ahead of LESS -/
theorem sk_less (hs : WFs P) (h : SOk P m nl W X F) (p0 : 0 ≤ p) (p1 : p < X.n) (hp : 0 ≤ F.1 p) (h0 : X.op p = 0) (h1 : X.op (p + 1) = 0) (h2 : X.op (p + 2) = 13) : (p + 3 < X.n ∧ flw P nl F (p + 3) (F.1 p) (F.2.1 p) (F.2.2 p)) ∧ flw P nl F (X.a (p + 2)) (F.1 p) (F.2.1 p) (F.2.2 p) := by
  obtain ⟨⟨t10, t1s, t1l⟩, -⟩ := h.ti p0 p1 hp
  obtain ⟨a1, a2, a3⟩ := h.nx p0 p1 hp (by rw [h0]; rfl)
  obtain ⟨b1, b2, b3⟩ := h.nx (p := p + 1) (by omega) a1 a2 (by rw [h1]; rfl)
  rw [show p + 1 + 1 = p + 2 by omega] at b1 b2 b3
  obtain ⟨c1, c2, c3⟩ := h.nx (p := p + 2) (by omega) b1 b2 (by rw [h2]; rfl)
  have c5 := (h.ti (p := p + 2) (by omega) b1 b2).2.2.2 (by rw [h2]; rfl)
  rw [h0, ex_0.1, ex_0.2.1, ex_0.2.2] at a3
  rw [h1, ex_0.1, ex_0.2.1, ex_0.2.2] at b3
  rw [h2, ex_13.1, ex_13.2.1, ex_13.2.2] at c3 c5
  rw [show p + 2 + 1 = p + 3 by omega] at c3
  obtain ⟨⟨-, s1s, s1l⟩, -⟩ := h.ti (p := p + 1) (by omega) a1 a2
  have u1 : F.1 (p + 2) = F.1 p + 2 := by rw [b3.1, a3.1]; omega
  have u2 : sle P (F.1 p) (F.2.1 p) (F.2.1 (p + 2)) := by
    refine (sle_up a3.2.1).tr hs t1s.ty ?_
    have := sle_up b3.2.1
    intro i i0 i1
    exact this i i0 (by rw [a3.1]; omega)
  have u3 : sle P nl (F.2.2 p) (F.2.2 (p + 2)) := a3.2.2.tr hs t1l b3.2.2
  have fin : ∀ t, flw P nl F t (F.1 (p + 2) - 2) (F.2.1 (p + 2)) (F.2.2 (p + 2)) → flw P nl F t (F.1 p) (F.2.1 p) (F.2.2 p) := by
    intro t ⟨q1, q2, q3⟩
    rw [u1, show F.1 p + 2 - 2 = F.1 p by omega] at q1 q2
    exact ⟨q1, u2.tr hs t1s.ty q2, u3.tr hs t1l q3⟩
  exact ⟨⟨by omega, fin _ c3⟩, fin _ c5⟩
/-- a number and an operation: the number below stays a number -/
theorem sk_ar (hs : WFs P) (h : SOk P m nl W X F) (p0 : 0 ≤ p) (p1 : p < X.n) (hp : 0 ≤ F.1 p) (h0 : X.op p = 0) (h6 : 6 ≤ X.op (p + 1) ∧ X.op (p + 1) ≤ 10) : p + 2 < X.n ∧ flw P nl F (p + 2) (F.1 p) (F.2.1 p) (F.2.2 p) := by
  obtain ⟨⟨t10, t1s, t1l⟩, -⟩ := h.ti p0 p1 hp
  obtain ⟨a1, a2, a3⟩ := h.nx p0 p1 hp (by rw [h0]; rfl)
  obtain ⟨b1, b2, b3⟩ := h.nx (p := p + 1) (by omega) a1 a2 (by simp [gon]; omega)
  have tx := h.ti (p := p + 1) (by omega) a1 a2
  rw [h0, ex_0.1, ex_0.2.1, ex_0.2.2] at a3
  rw [(ex_6 h6).1, (ex_6 h6).2.1, (ex_6 h6).2.2, show p + 1 + 1 = p + 2 by omega] at b3
  have w : wl P m (X.op (p + 1)) (X.a (p + 1)) (X.b (p + 1)) = [1, 1] := by
    unfold wl
    rw [if_neg (by omega), if_neg (by omega), if_pos (by omega)]
  obtain ⟨z1, z2, -⟩ := exf_z (wn := 2) tx.2.1 (by rw [w]; rfl)
  rw [w] at z2
  obtain ⟨f1, -⟩ := af_2 z2
  have u1 : F.1 (p + 1) = F.1 p + 1 := a3.1
  have u2 : sle P (F.1 p) (F.2.1 p) (F.2.1 (p + 1)) := sle_up a3.2.1
  rw [u1, show F.1 p + 1 - 2 = F.1 p - 1 by omega] at f1
  have e1 : F.2.1 (p + 1) (F.1 p - 1) = 1 := by simpa [ftt] using f1
  have e2 : F.2.1 p (F.1 p - 1) = 1 := by
    have := u2 (F.1 p - 1) (by omega) (by omega)
    rw [e1] at this
    have h1 := (t1s (F.1 p - 1) (by omega) (by omega)).1
    rcases this with q | q | q | q | q <;> omega
  refine ⟨by omega, by rw [b3.1, u1]; omega, fun i i0 i1 => ?_, a3.2.2.tr hs t1l b3.2.2⟩
  have b4 := b3.2.1
  rw [u1, show F.1 p + 1 - 1 = F.1 p by omega, show F.1 p + 1 - 2 = F.1 p - 1 by omega] at b4
  have b5 := b4 i i0 i1
  simp only [i_up] at b5
  by_cases g : i = F.1 p - 1
  · rw [if_pos g] at b5
    rw [g, e2, ← g]; exact b5
  · rw [if_neg g] at b5
    exact (u2 i i0 i1).tr hs (t1s i i0 i1).2 b5
/-- a local is loaded and stored -/
theorem sk_ls (hs : WFs P) (h : SOk P m nl W X F) (p0 : 0 ≤ p) (p1 : p < X.n) (hp : 0 ≤ F.1 p) (h0 : X.op p = 2) (h1 : X.op (p + 1) = 3) (ha : X.a p = X.a (p + 1)) (a0 : 0 ≤ X.a p) (a1 : X.a p < nl) : p + 2 < X.n ∧ flw P nl F (p + 2) (F.1 p) (F.2.1 p) (F.2.2 p) := by
  obtain ⟨⟨t10, t1s, t1l⟩, -⟩ := h.ti p0 p1 hp
  obtain ⟨a1', a2, a3⟩ := h.nx p0 p1 hp (by rw [h0]; rfl)
  obtain ⟨b1, b2, b3⟩ := h.nx (p := p + 1) (by omega) a1' a2 (by rw [h1]; rfl)
  rw [h0, ex_2.1, ex_2.2.1, ex_2.2.2] at a3
  rw [h1, ex_3.1, ex_3.2.1, ex_3.2.2, show p + 1 + 1 = p + 2 by omega, ← ha] at b3
  have u1 : F.1 (p + 1) = F.1 p + 1 := a3.1
  have b4 := b3.2.1
  rw [u1, show F.1 p + 1 - 1 = F.1 p by omega] at b4
  refine ⟨by omega, by rw [b3.1, u1]; omega, (sle_up a3.2.1).tr hs t1s.ty b4, fun i i0 i1 => ?_⟩
  have c := b3.2.2 i i0 i1
  simp only [i_up] at c
  by_cases g : i = X.a p
  · rw [if_pos g, u1, show F.1 p + 1 - 1 = F.1 p by omega] at c
    have e := a3.2.1 (F.1 p) hp (by omega)
    simp only [i_up, if_true] at e
    rw [g]
    rw [g] at c
    exact e.tr hs (t1l _ a0 a1) c
  · rw [if_neg g] at c
    exact (a3.2.2 i i0 i1).tr hs (t1l i i0 i1) c
end SKIP
