/-! the rules: which fits, what it does; they keep the typing -/
def anyS (q : Int → Bool) : Nat → Bool
  | 0 => false
  | n + 1 => q n || anyS q n
def jtS (X : Sx) (t : Int) : Bool := anyS (fun i => isj (X.op i) && decide (X.a i = t)) X.n.toNat
def ldS (X : Sx) (x : Int) : Bool := anyS (fun i => decide (X.op i = 2) && decide (X.a i = x)) X.n.toNat
def clV (X : Sx) (V : Int → Bool) : Prop := V 0 = true ∧ (∀ i, 0 ≤ i → i < X.n → V i = true → gon (X.op i) = true → V (i + 1) = true) ∧ ∀ i, 0 ≤ i → i < X.n → V i = true → isj (X.op i) = true → V (X.a i) = true
def snS (X : Sx) (i : Int) : Prop := ∀ V : Int → Bool, clV X V → V i = true
noncomputable def snB (X : Sx) (i : Int) : Bool := @decide (snS X i) (Classical.propDecidable _)
def fwS (X : Sx) : Nat → Int → Int
  | 0, t => t
  | k + 1, t => if X.op t = 11 then fwS X k (X.a t) else t
def leS (X : Sx) (p : Int) : Int := if X.op (X.a p) = 11 ∧ ¬ X.op (fwS X X.n.toNat (X.a p)) = 11 then fwS X X.n.toNat (X.a p) else -1
def secS (X : Sx) (p : Int) : Int := if p + 1 < X.n ∧ jtS X (p + 1) = false then X.op (p + 1) else -1
def thiS (X : Sx) (p : Int) : Int := if secS X p = 0 ∧ p + 2 < X.n ∧ jtS X (p + 2) = false then X.op (p + 2) else -1
def ruI (X : Sx) (p : Int) : Int := if (6 ≤ thiS X p ∧ thiS X p ≤ 10) ∧ (thiS X p ≤ 8 ∨ ¬ X.a (p + 1) = 0) then 4 else if secS X p = 4 then 5 else if secS X p = 12 then 6 else if thiS X p = 13 then 7 else if (X.a p = 0 ∧ (secS X p = 6 ∨ secS X p = 7)) ∨ (X.a p = 1 ∧ (secS X p = 8 ∨ secS X p = 9)) then 9 else 0
noncomputable def ruS (X : Sx) (p : Int) : Int := if snB X p = false then 1 else if X.op p = 11 ∧ X.a p = p + 1 then 2 else if isj (X.op p) = true ∧ ¬ leS X p = -1 then 3 else if X.op p = 0 then ruI X p else if X.op p = 1 then (if secS X p = 4 then 5 else if secS X p = 14 then 8 else 0) else if X.op p = 2 then (if secS X p = 4 then 5 else if secS X p = 3 ∧ X.a p = X.a (p + 1) then 11 else 0) else if X.op p = 5 then (if secS X p = 4 then 5 else 0) else if X.op p = 3 then (if ldS X (X.a p) = false then 10 else 0) else if X.op p = 12 ∨ X.op p = 14 then (if X.a p = p + 1 then 12 else 0) else 0
def apS (X : Sx) (r p : Int) : Sx :=
  if r = 1 ∨ r = 2 then cutS X p 1
  else if r = 3 then setS X p (X.op p) (leS X p) (X.b p) (X.o1 p) (X.o2 p)
  else if r = 4 then cutS (setS X p 0 (ari (X.op (p + 2)) (X.a p) (X.a (p + 1))) 0 (X.o1 (p + 2)) (X.o2 (p + 2))) (p + 1) 2
  else if r = 6 then (if X.a p = 0 then cutS (setS X p 11 (X.a (p + 1)) 0 (X.o1 (p + 1)) (X.o2 (p + 1))) (p + 1) 1 else cutS X p 2)
  else if r = 7 then (if X.a p < X.a (p + 1) then cutS (setS X p 11 (X.a (p + 2)) 0 (X.o1 (p + 2)) (X.o2 (p + 2))) (p + 1) 2 else cutS X p 3)
  else if r = 8 then cutS (setS X p 11 (X.a (p + 1)) 0 (X.o1 (p + 1)) (X.o2 (p + 1))) (p + 1) 1
  else if r = 10 ∨ r = 12 then setS X p 4 0 0 (X.o1 p) (X.o2 p)
  else cutS X p 2
def okX (nl : Int) (X : Sx) : Prop := (1 ≤ X.n ∧ X.n ≤ 120) ∧ ∀ i, 0 ≤ i → i < X.n → (0 ≤ X.op i ∧ X.op i ≤ 26) ∧ (X.op i = 2 ∨ X.op i = 3 → 0 ≤ X.a i ∧ X.a i < nl) ∧ (isj (X.op i) = true → 0 ≤ X.a i ∧ X.a i ≤ X.n ∧ X.a i < 120)
section RULES
variable {P : Pg} {m nl n p k j op a b t x r : Int} {s l : Int → Int} {X : Sx} {F : Fl} {W : Int → Int → Int → Prop}
theorem any_iff {q : Int → Bool} : ∀ n : Nat, anyS q n = true ↔ ∃ i : Int, 0 ≤ i ∧ i < n ∧ q i = true
  | 0 => ⟨fun h => absurd h Bool.false_ne_true, fun ⟨i, h0, h1, _⟩ => absurd h1 (by omega)⟩
  | n + 1 => by
    show (q n || anyS q n) = true ↔ _
    rw [Bool.or_eq_true, any_iff n]
    constructor
    · rintro (h | ⟨i, h0, h1, h2⟩)
      · exact ⟨n, by omega, by omega, h⟩
      · exact ⟨i, h0, by omega, h2⟩
    · rintro ⟨i, h0, h1, h2⟩
      by_cases g : i = n
      · rw [g] at h2; exact Or.inl h2
      · exact Or.inr ⟨i, h0, by omega, h2⟩
theorem jt_f (h : jtS X t = false) : ∀ i, 0 ≤ i → i < X.n → isj (X.op i) = true → ¬ X.a i = t := by
  intro i i0 i1 hj e
  have : jtS X t = true := by
    unfold jtS
    rw [any_iff]
    exact ⟨i, i0, by omega, by rw [hj]; simp [e]⟩
  rw [h] at this
  cases this
theorem ld_f (h : ldS X x = false) : ∀ i, 0 ≤ i → i < X.n → X.op i = 2 → ¬ X.a i = x := by
  intro i i0 i1 hj e
  have : ldS X x = true := by
    unfold ldS
    rw [any_iff]
    exact ⟨i, i0, by omega, by simp [hj, e]⟩
  rw [h] at this
  cases this
theorem snB_i : snB X p = true ↔ snS X p := by
  unfold snB
  exact @decide_eq_true_iff _ (Classical.propDecidable _)
theorem sn_cl : clV X (snB X) := by
  refine ⟨snB_i.mpr (fun V h => h.1), fun i i0 i1 hi hg => snB_i.mpr (fun V h => h.2.1 i i0 i1 (snB_i.mp hi V h) hg), fun i i0 i1 hi hj => snB_i.mpr (fun V h => h.2.2 i i0 i1 (snB_i.mp hi V h) hj)⟩
/-- what is seen is typed -/
theorem sn_ty (h : SOk P m nl W X F) (hs : snB X p = true) : 0 ≤ F.1 p := by
  have := snB_i.mp hs (fun i => decide (0 ≤ F.1 i)) ⟨by simp [h.1.1.1], fun i i0 i1 hi hg => ?_, fun i i0 i1 hi hj => ?_⟩
  · simpa using this
  · have hi : 0 ≤ F.1 i := by simpa using hi
    simpa using (h.nx i0 i1 hi hg).2.1
  · have hi : 0 ≤ F.1 i := by simpa using hi
    simpa using (h.tg i0 i1 hi hj).2.2
theorem sn_in (h : SOk P m nl W X F) (hs : snB X p = true) : 0 ≤ p ∧ p < X.n := by
  have := sn_ty h hs
  by_cases g : p < 0 ∨ X.n ≤ p
  · have := h.1.2 p g; omega
  · omega
/-- which rule, and why -/
theorem ru_c (hr : ¬ ruS X p = 0) : (ruS X p = 1 ∧ snB X p = false) ∨ (snB X p = true ∧ ((ruS X p = 2 ∧ X.op p = 11 ∧ X.a p = p + 1) ∨ (ruS X p = 3 ∧ isj (X.op p) = true ∧ ¬ leS X p = -1) ∨ (ruS X p = 4 ∧ X.op p = 0 ∧ X.op (p + 1) = 0 ∧ p + 2 < X.n ∧ jtS X (p + 1) = false ∧ jtS X (p + 2) = false ∧ (6 ≤ X.op (p + 2) ∧ X.op (p + 2) ≤ 10) ∧ (X.op (p + 2) ≤ 8 ∨ ¬ X.a (p + 1) = 0)) ∨ (ruS X p = 5 ∧ (X.op p = 0 ∨ X.op p = 1 ∨ X.op p = 2 ∨ X.op p = 5) ∧ p + 1 < X.n ∧ jtS X (p + 1) = false ∧ X.op (p + 1) = 4) ∨ (ruS X p = 6 ∧ X.op p = 0 ∧ p + 1 < X.n ∧ jtS X (p + 1) = false ∧ X.op (p + 1) = 12) ∨ (ruS X p = 7 ∧ X.op p = 0 ∧ X.op (p + 1) = 0 ∧ p + 2 < X.n ∧ jtS X (p + 1) = false ∧ jtS X (p + 2) = false ∧ X.op (p + 2) = 13) ∨ (ruS X p = 8 ∧ X.op p = 1 ∧ p + 1 < X.n ∧ jtS X (p + 1) = false ∧ X.op (p + 1) = 14) ∨ (ruS X p = 9 ∧ X.op p = 0 ∧ p + 1 < X.n ∧ jtS X (p + 1) = false ∧ (6 ≤ X.op (p + 1) ∧ X.op (p + 1) ≤ 10)) ∨ (ruS X p = 10 ∧ X.op p = 3 ∧ ldS X (X.a p) = false) ∨ (ruS X p = 11 ∧ X.op p = 2 ∧ p + 1 < X.n ∧ jtS X (p + 1) = false ∧ X.op (p + 1) = 3 ∧ X.a p = X.a (p + 1)) ∨ (ruS X p = 12 ∧ (X.op p = 12 ∨ X.op p = 14) ∧ X.a p = p + 1))) := by
  have hsec : ∀ z, 0 ≤ z → secS X p = z → p + 1 < X.n ∧ jtS X (p + 1) = false ∧ X.op (p + 1) = z := by
    intro z hz h
    unfold secS at h
    by_cases g : p + 1 < X.n ∧ jtS X (p + 1) = false
    · rw [if_pos g] at h; exact ⟨g.1, g.2, h⟩
    · rw [if_neg g] at h; omega
  have hthi : ∀ z, 0 ≤ z → thiS X p = z → X.op (p + 1) = 0 ∧ p + 2 < X.n ∧ jtS X (p + 1) = false ∧ jtS X (p + 2) = false ∧ X.op (p + 2) = z := by
    intro z hz h
    unfold thiS at h
    by_cases g : secS X p = 0 ∧ p + 2 < X.n ∧ jtS X (p + 2) = false
    · rw [if_pos g] at h
      obtain ⟨q1, q2, q3⟩ := hsec 0 (by omega) g.1
      exact ⟨q3, g.2.1, q2, g.2.2, h⟩
    · rw [if_neg g] at h; omega
  generalize hR : ruS X p = R at hr ⊢
  unfold ruS at hR
  by_cases g : snB X p = false
  · rw [if_pos g] at hR
    exact Or.inl ⟨hR.symm, g⟩
  rw [if_neg g] at hR
  refine Or.inr ⟨by simpa using g, ?_⟩
  by_cases g : X.op p = 11 ∧ X.a p = p + 1
  · rw [if_pos g] at hR
    exact Or.inl ⟨hR.symm, g⟩
  rw [if_neg g] at hR
  refine Or.inr ?_
  by_cases g : isj (X.op p) = true ∧ ¬ leS X p = -1
  · rw [if_pos g] at hR
    exact Or.inl ⟨hR.symm, g⟩
  rw [if_neg g] at hR
  refine Or.inr ?_
  by_cases g0 : X.op p = 0
  · rw [if_pos g0] at hR
    unfold ruI at hR
    by_cases g4 : (6 ≤ thiS X p ∧ thiS X p ≤ 10) ∧ (thiS X p ≤ 8 ∨ ¬ X.a (p + 1) = 0)
    · rw [if_pos g4] at hR
      obtain ⟨q1, q2, q3, q4, q5⟩ := hthi _ (by omega) rfl
      exact Or.inl ⟨hR.symm, g0, q1, q2, q3, q4, by omega, by rw [q5]; exact g4.2⟩
    rw [if_neg g4] at hR
    refine Or.inr ?_
    by_cases g5 : secS X p = 4
    · rw [if_pos g5] at hR
      exact Or.inl ⟨hR.symm, Or.inl g0, hsec 4 (by omega) g5⟩
    rw [if_neg g5] at hR
    refine Or.inr ?_
    by_cases g6 : secS X p = 12
    · rw [if_pos g6] at hR
      exact Or.inl ⟨hR.symm, g0, hsec 12 (by omega) g6⟩
    rw [if_neg g6] at hR
    refine Or.inr ?_
    by_cases g7 : thiS X p = 13
    · rw [if_pos g7] at hR
      obtain ⟨q1, q2, q3, q4, q5⟩ := hthi 13 (by omega) g7
      exact Or.inl ⟨hR.symm, g0, q1, q2, q3, q4, q5⟩
    rw [if_neg g7] at hR
    refine Or.inr (Or.inr ?_)
    by_cases g9 : (X.a p = 0 ∧ (secS X p = 6 ∨ secS X p = 7)) ∨ (X.a p = 1 ∧ (secS X p = 8 ∨ secS X p = 9))
    · rw [if_pos g9] at hR
      obtain ⟨q1, q2, q3⟩ := hsec (secS X p) (by omega) rfl
      exact Or.inl ⟨hR.symm, g0, q1, q2, by omega⟩
    · rw [if_neg g9] at hR; exact absurd hR.symm hr
  rw [if_neg g0] at hR
  refine Or.inr ?_
  by_cases g1 : X.op p = 1
  · rw [if_pos g1] at hR
    by_cases g5 : secS X p = 4
    · rw [if_pos g5] at hR
      exact Or.inl ⟨hR.symm, Or.inr (Or.inl g1), hsec 4 (by omega) g5⟩
    rw [if_neg g5] at hR
    refine Or.inr (Or.inr (Or.inr ?_))
    by_cases g8 : secS X p = 14
    · rw [if_pos g8] at hR
      exact Or.inl ⟨hR.symm, g1, hsec 14 (by omega) g8⟩
    · rw [if_neg g8] at hR; exact absurd hR.symm hr
  rw [if_neg g1] at hR
  by_cases g2 : X.op p = 2
  · rw [if_pos g2] at hR
    by_cases g5 : secS X p = 4
    · rw [if_pos g5] at hR
      exact Or.inl ⟨hR.symm, Or.inr (Or.inr (Or.inl g2)), hsec 4 (by omega) g5⟩
    rw [if_neg g5] at hR
    by_cases g8 : secS X p = 3 ∧ X.a p = X.a (p + 1)
    · rw [if_pos g8] at hR
      obtain ⟨q1, q2, q3⟩ := hsec 3 (by omega) g8.1
      exact Or.inr (Or.inr (Or.inr (Or.inr (Or.inr (Or.inr (Or.inl ⟨hR.symm, g2, q1, q2, q3, g8.2⟩))))))
    · rw [if_neg g8] at hR; exact absurd hR.symm hr
  rw [if_neg g2] at hR
  by_cases g5 : X.op p = 5
  · rw [if_pos g5] at hR
    by_cases g8 : secS X p = 4
    · rw [if_pos g8] at hR
      exact Or.inl ⟨hR.symm, Or.inr (Or.inr (Or.inr g5)), hsec 4 (by omega) g8⟩
    · rw [if_neg g8] at hR; exact absurd hR.symm hr
  rw [if_neg g5] at hR
  by_cases g3 : X.op p = 3
  · rw [if_pos g3] at hR
    by_cases g8 : ldS X (X.a p) = false
    · rw [if_pos g8] at hR
      exact Or.inr (Or.inr (Or.inr (Or.inr (Or.inr (Or.inl ⟨hR.symm, g3, g8⟩)))))
    · rw [if_neg g8] at hR; exact absurd hR.symm hr
  rw [if_neg g3] at hR
  by_cases g12 : X.op p = 12 ∨ X.op p = 14
  · rw [if_pos g12] at hR
    by_cases g8 : X.a p = p + 1
    · rw [if_pos g8] at hR
      exact Or.inr (Or.inr (Or.inr (Or.inr (Or.inr (Or.inr (Or.inr ⟨hR.symm, g12, g8⟩))))))
    · rw [if_neg g8] at hR; exact absurd hR.symm hr
  · rw [if_neg g12] at hR; exact absurd hR.symm hr
theorem cut_okX (h : okX nl X) (p0 : 0 ≤ p) (hk : 1 ≤ k) (hpk : p + k ≤ X.n) (hn : 1 ≤ X.n - k) : okX nl (cutS X p k) := by
  refine ⟨⟨hn, by show X.n - k ≤ 120; have := h.1.2; omega⟩, fun i i0 i1 => ?_⟩
  have i1 : i < X.n - k := i1
  have key : ∀ j, 0 ≤ j → j < X.n → (cutS X p k).op i = X.op j → (cutS X p k).a i = (if isj (X.op j) = true then rtg p k (X.a j) else X.a j) → (0 ≤ (cutS X p k).op i ∧ (cutS X p k).op i ≤ 26) ∧ ((cutS X p k).op i = 2 ∨ (cutS X p k).op i = 3 → 0 ≤ (cutS X p k).a i ∧ (cutS X p k).a i < nl) ∧ (isj ((cutS X p k).op i) = true → 0 ≤ (cutS X p k).a i ∧ (cutS X p k).a i ≤ (cutS X p k).n ∧ (cutS X p k).a i < 120) := by
    have h12 := h.1.2
    intro j j0 j1 e1 e2
    obtain ⟨q1, q2, q3⟩ := h.2 j j0 j1
    rw [e1, e2]
    refine ⟨q1, fun g => ?_, fun g => ?_⟩
    · rw [if_neg (by rcases g with g | g <;> (rw [g]; decide))]; exact q2 g
    · rw [if_pos g]
      obtain ⟨z1, z2⟩ := q3 g
      show 0 ≤ rtg p k (X.a j) ∧ rtg p k (X.a j) ≤ X.n - k ∧ rtg p k (X.a j) < 120
      unfold rtg
      split
      · omega
      · split <;> omega
  by_cases g : i < p
  · refine key i i0 (by omega) (shf_lo g) ?_
    show (if isj (shf p k X.op i) = true then rtg p k (shf p k X.a i) else shf p k X.a i) = _
    rw [shf_lo g, shf_lo g]
  · refine key (i + k) (by omega) (by omega) (shf_hi g) ?_
    show (if isj (shf p k X.op i) = true then rtg p k (shf p k X.a i) else shf p k X.a i) = _
    rw [shf_hi g, shf_hi g]
theorem set_okX {o u v : Int} (h : okX nl X) (ho : 0 ≤ o ∧ o ≤ 26) (h2 : o = 2 ∨ o = 3 → 0 ≤ a ∧ a < nl) (hj : isj o = true → 0 ≤ a ∧ a ≤ X.n ∧ a < 120) : okX nl (setS X p o a b u v) := by
  refine ⟨h.1, fun i i0 i1 => ?_⟩
  show (0 ≤ i_up X.op p o i ∧ i_up X.op p o i ≤ 26) ∧ (i_up X.op p o i = 2 ∨ i_up X.op p o i = 3 → 0 ≤ i_up X.a p a i ∧ i_up X.a p a i < nl) ∧ (isj (i_up X.op p o i) = true → 0 ≤ i_up X.a p a i ∧ i_up X.a p a i ≤ X.n ∧ i_up X.a p a i < 120)
  simp only [i_up]
  by_cases g : i = p
  · rw [if_pos g, if_pos g]; exact ⟨ho, h2, hj⟩
  · rw [if_neg g, if_neg g]; exact h.2 i i0 i1
end RULES
