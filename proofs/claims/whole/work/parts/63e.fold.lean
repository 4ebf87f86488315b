/-! the rules one after the other: it ends -/
def cnB (q : Int → Bool) : Nat → Nat
  | 0 => 0
  | n + 1 => cnB q n + (if q n = true then 1 else 0)
def stB (X : Sx) (i : Int) : Bool := decide (X.op i = 3) || (decide (12 ≤ X.op i) && decide (X.op i ≤ 14))
def jjB (X : Sx) (i : Int) : Bool := isj (X.op i) && decide (X.op (X.a i) = 11)
def muX (X : Sx) : Nat := 121 * (X.n.toNat + cnB (stB X) X.n.toNat) + cnB (jjB X) X.n.toNat
noncomputable def ffS (X : Sx) : Nat → Int → Int
  | 0, _ => -1
  | k + 1, i => if ¬ ruS X i = 0 then i else ffS X k (i + 1)
def bmp (c : Int → Int) (r : Int) : Int → Int := i_up (i_up c 2 (c 2 + 1)) (10 + r) (c (10 + r) + 1)
noncomputable def fdS : Nat → Sx → (Int → Int) → Sx × (Int → Int)
  | 0, X, c => (X, c)
  | k + 1, X, c => if ffS X X.n.toNat 0 = -1 then (X, c) else fdS k (apS X (ruS X (ffS X X.n.toNat 0)) (ffS X X.n.toNat 0)) (bmp c (ruS X (ffS X X.n.toNat 0)))
section FOLD
variable {P : Pg} {m nl p k : Int} {X : Sx} {F : Fl} {W : Int → Int → Int → Prop} {q q' : Int → Bool}
theorem cn_le : ∀ n : Nat, cnB q n ≤ n
  | 0 => Nat.le_refl _
  | n + 1 => by
    have := cn_le n
    show cnB q n + (if q n = true then 1 else 0) ≤ n + 1
    split <;> omega
theorem cn_c (h : ∀ i : Int, 0 ≤ i → q i = q' i) : ∀ n : Nat, cnB q n = cnB q' n
  | 0 => rfl
  | n + 1 => by
    show cnB q n + _ = cnB q' n + _
    rw [cn_c h n, h n (by omega)]
theorem cn_m (h : ∀ i : Int, 0 ≤ i → q i = true → q' i = true) : ∀ n : Nat, cnB q n ≤ cnB q' n
  | 0 => Nat.le_refl _
  | n + 1 => by
    have := cn_m h n
    show cnB q n + (if q n = true then 1 else 0) ≤ cnB q' n + (if q' n = true then 1 else 0)
    by_cases g : q n = true
    · rw [if_pos g, if_pos (h n (by omega) g)]; omega
    · rw [if_neg g]; omega
/-- one fewer -/
theorem cn_1 (h : ∀ i : Int, 0 ≤ i → q i = true → q' i = true) {z : Int} (z0 : 0 ≤ z) (hz : q z = false) (hz' : q' z = true) : ∀ n : Nat, z < n → cnB q n < cnB q' n
  | 0, hn => absurd hn (by omega)
  | n + 1, hn => by
    show cnB q n + (if q n = true then 1 else 0) < cnB q' n + (if q' n = true then 1 else 0)
    by_cases g : (n : Int) = z
    · rw [g, hz, hz', if_neg (by decide), if_pos rfl]
      have := cn_m h n
      omega
    · have := cn_1 h z0 hz hz' n (by omega)
      by_cases g2 : q n = true
      · rw [if_pos g2, if_pos (h n (by omega) g2)]; omega
      · rw [if_neg g2]; omega
theorem cn_up : ∀ (n j : Nat), cnB q n ≤ cnB q (n + j)
  | n, 0 => Nat.le_refl _
  | n, j + 1 => by
    have := cn_up n j
    show cnB q n ≤ cnB q (n + j) + _
    omega
theorem cn_sh (p0 : 0 ≤ p) (k : Nat) : ∀ n : Nat, cnB (shf p k q) n ≤ cnB q (n + k)
  | 0 => by
    show 0 ≤ _
    omega
  | n + 1 => by
    show cnB (shf p k q) n + (if shf p k q n = true then 1 else 0) ≤ _
    by_cases g : (n : Int) < p
    · have low : ∀ j : Nat, (j : Int) ≤ p → cnB (shf p k q) j = cnB q j := by
        intro j
        induction j with
        | zero => intro _; rfl
        | succ j ih =>
          intro hj
          show cnB (shf p k q) j + _ = cnB q j + _
          rw [ih (by omega), shf_lo (show (j : Int) < p by omega)]
      have : cnB (shf p k q) (n + 1) = cnB q (n + 1) := low (n + 1) (by omega)
      have t : cnB (shf p k q) n + (if shf p k q n = true then 1 else 0) = cnB q (n + 1) := this
      rw [t]
      exact cn_up (n + 1) k
    · rw [shf_hi g]
      have := cn_sh p0 k n
      have e : cnB q (n + 1 + k) = cnB q (n + k) + (if q ((n + k : Nat) : Int) = true then 1 else 0) := by
        rw [show n + 1 + k = n + k + 1 by omega]; rfl
      rw [e, show ((n + k : Nat) : Int) = (n : Int) + k by omega]
      omega
theorem cut_mu (p0 : 0 ≤ p) (hk : 1 ≤ k) (hpk : p + k ≤ X.n) (h120 : X.n ≤ 120) : muX (cutS X p k) + 1 ≤ 121 * (X.n.toNat + cnB (stB X) X.n.toNat) := by
  have e : stB (cutS X p k) = shf p k (stB X) := by
    funext i
    show (decide (shf p k X.op i = 3) || (decide (12 ≤ shf p k X.op i) && decide (shf p k X.op i ≤ 14))) = _
    by_cases g : i < p
    · rw [shf_lo g, shf_lo g]; rfl
    · rw [shf_hi g, shf_hi g]; rfl
  have h1 : cnB (stB (cutS X p k)) (cutS X p k).n.toNat ≤ cnB (stB X) X.n.toNat := by
    rw [e]
    have := cn_sh (q := stB X) p0 k.toNat (cutS X p k).n.toNat
    have ek : ((k.toNat : Nat) : Int) = k := by omega
    rw [ek] at this
    have en : (cutS X p k).n.toNat + k.toNat = X.n.toNat := by show (X.n - k).toNat + k.toNat = X.n.toNat; omega
    rw [en] at this
    exact this
  have h2 := cn_le (q := jjB (cutS X p k)) (cutS X p k).n.toNat
  have h3 : (cutS X p k).n.toNat + 1 ≤ X.n.toNat := by show (X.n - k).toNat + 1 ≤ X.n.toNat; omega
  unfold muX
  generalize cnB (stB (cutS X p k)) (cutS X p k).n.toNat = c1 at *
  generalize cnB (jjB (cutS X p k)) (cutS X p k).n.toNat = c2 at *
  generalize (cutS X p k).n.toNat = c3 at *
  generalize cnB (stB X) X.n.toNat = c4 at *
  omega
theorem set_st {o a b u v : Int} (h : (o = 0 ∨ o = 11 ∨ o = 4)) : cnB (stB (setS X p o a b u v)) X.n.toNat ≤ cnB (stB X) X.n.toNat := by
  refine cn_m (fun i i0 hi => ?_) _
  have hi : (decide (i_up X.op p o i = 3) || (decide (12 ≤ i_up X.op p o i) && decide (i_up X.op p o i ≤ 14))) = true := hi
  by_cases g : i = p
  · rw [g, iu_r] at hi
    simp at hi
    omega
  · rw [iu_n g] at hi; exact hi
theorem mu_dec (hX : okX nl X) (h : SOk P m nl W X F) (p0 : 0 ≤ p) (p1 : p < X.n) (hr : ¬ ruS X p = 0) : muX (apS X (ruS X p) p) < muX X := by
  have h120 := hX.1.2
  have cut1 : ∀ k, 1 ≤ k → p + k ≤ X.n → muX (cutS X p k) < muX X := by
    intro k hk hpk
    have := cut_mu p0 hk hpk h120
    have e : muX X = 121 * (X.n.toNat + cnB (stB X) X.n.toNat) + cnB (jjB X) X.n.toNat := rfl
    omega
  have cut2 : ∀ k o a b u v, 1 ≤ k → p + 1 + k ≤ X.n → (o = 0 ∨ o = 11 ∨ o = 4) → muX (cutS (setS X p o a b u v) (p + 1) k) < muX X := by
    intro k o a b u v hk hpk ho
    have h1 := cut_mu (X := setS X p o a b u v) (p := p + 1) (by omega) hk hpk h120
    have h2 := set_st (X := X) (p := p) (a := a) (b := b) (u := u) (v := v) ho
    have e : muX X = 121 * (X.n.toNat + cnB (stB X) X.n.toNat) + cnB (jjB X) X.n.toNat := rfl
    have en : (setS X p o a b u v).n = X.n := rfl
    rw [en] at h1
    generalize cnB (stB (setS X p o a b u v)) X.n.toNat = c1 at *
    generalize cnB (stB X) X.n.toNat = c2 at *
    omega
  have pop : (X.op p = 3 ∨ X.op p = 12 ∨ X.op p = 14) → muX (setS X p 4 0 0 (X.o1 p) (X.o2 p)) < muX X := by
    intro ho
    have h1 : cnB (stB (setS X p 4 0 0 (X.o1 p) (X.o2 p))) X.n.toNat < cnB (stB X) X.n.toNat := by
      refine cn_1 (z := p) (fun i i0 hi => ?_) p0 ?_ ?_ _ (by omega)
      · have hi : (decide (i_up X.op p 4 i = 3) || (decide (12 ≤ i_up X.op p 4 i) && decide (i_up X.op p 4 i ≤ 14))) = true := hi
        by_cases g : i = p
        · rw [g, iu_r] at hi; exact absurd hi (by decide)
        · rw [iu_n g] at hi; exact hi
      · show (decide (i_up X.op p 4 p = 3) || (decide (12 ≤ i_up X.op p 4 p) && decide (i_up X.op p 4 p ≤ 14))) = false
        rw [iu_r]; decide
      · unfold stB
        rcases ho with g | g | g <;> (rw [g]; decide)
    have h2 := cn_le (q := jjB (setS X p 4 0 0 (X.o1 p) (X.o2 p))) X.n.toNat
    have e : muX X = 121 * (X.n.toNat + cnB (stB X) X.n.toNat) + cnB (jjB X) X.n.toNat := rfl
    have e' : muX (setS X p 4 0 0 (X.o1 p) (X.o2 p)) = 121 * (X.n.toNat + cnB (stB (setS X p 4 0 0 (X.o1 p) (X.o2 p))) X.n.toNat) + cnB (jjB (setS X p 4 0 0 (X.o1 p) (X.o2 p))) X.n.toNat := rfl
    have h3 : X.n.toNat ≤ 120 := by omega
    generalize cnB (stB (setS X p 4 0 0 (X.o1 p) (X.o2 p))) X.n.toNat = c1 at *
    generalize cnB (jjB (setS X p 4 0 0 (X.o1 p) (X.o2 p))) X.n.toNat = c2 at *
    generalize cnB (stB X) X.n.toNat = c3 at *
    omega
  rcases ru_c hr with ⟨e, g⟩ | ⟨g, q⟩
  · unfold apS
    rw [e, if_pos (Or.inl rfl)]
    exact cut1 1 (by omega) (by omega)
  rcases q with ⟨e, q1, q2⟩ | ⟨e, q1, q2⟩ | ⟨e, q1, q2, q3, q4, q5, q6, q7⟩ | ⟨e, q1, q2, q3, q4⟩ | ⟨e, q1, q2, q3, q4⟩ | ⟨e, q1, q2, q3, q4, q5, q6⟩ | ⟨e, q1, q2, q3, q4⟩ | ⟨e, q1, q2, q3, q4⟩ | ⟨e, q1, q2⟩ | ⟨e, q1, q2, q3, q4, q5⟩ | ⟨e, q1, q2⟩
  · unfold apS; rw [e, if_pos (Or.inr rfl)]
    exact cut1 1 (by omega) (by omega)
  · unfold apS; rw [e, if_neg (by omega), if_pos rfl]
    obtain ⟨z1, z2, z3⟩ := le_in q2
    have e1 : i_up X.op p (X.op p) = X.op := by
      funext i
      simp only [i_up]
      by_cases gi : i = p
      · rw [if_pos gi, gi]
      · rw [if_neg gi]
    have es : stB (setS X p (X.op p) (leS X p) (X.b p) (X.o1 p) (X.o2 p)) = stB X := by
      funext i
      show (decide (i_up X.op p (X.op p) i = 3) || (decide (12 ≤ i_up X.op p (X.op p) i) && decide (i_up X.op p (X.op p) i ≤ 14))) = _
      rw [e1]; rfl
    have ej : ∀ i, jjB (setS X p (X.op p) (leS X p) (X.b p) (X.o1 p) (X.o2 p)) i = (isj (X.op i) && decide (X.op (i_up X.a p (leS X p) i) = 11)) := by
      intro i
      show (isj (i_up X.op p (X.op p) i) && decide (i_up X.op p (X.op p) (i_up X.a p (leS X p) i) = 11)) = _
      rw [e1]
    have hj : cnB (jjB (setS X p (X.op p) (leS X p) (X.b p) (X.o1 p) (X.o2 p))) X.n.toNat < cnB (jjB X) X.n.toNat := by
      refine cn_1 (z := p) (fun i i0 hi => ?_) p0 ?_ ?_ _ (by omega)
      · rw [ej] at hi
        by_cases gi : i = p
        · rw [gi, iu_r, Bool.and_eq_true, decide_eq_true_eq] at hi
          exact absurd hi.2 z3
        · rw [iu_n gi] at hi; exact hi
      · rw [ej, iu_r]
        simp [z3]
      · unfold jjB
        rw [q1, z2]; rfl
    show 121 * (X.n.toNat + cnB (stB (setS X p (X.op p) (leS X p) (X.b p) (X.o1 p) (X.o2 p))) X.n.toNat) + cnB (jjB (setS X p (X.op p) (leS X p) (X.b p) (X.o1 p) (X.o2 p))) X.n.toNat < 121 * (X.n.toNat + cnB (stB X) X.n.toNat) + cnB (jjB X) X.n.toNat
    rw [es]
    omega
  · unfold apS; rw [e, if_neg (by omega), if_neg (by omega), if_pos rfl]
    exact cut2 2 0 _ _ _ _ (by omega) (by omega) (Or.inl rfl)
  · unfold apS; rw [e, if_neg (by omega), if_neg (by omega), if_neg (by omega), if_neg (by omega), if_neg (by omega), if_neg (by omega), if_neg (by omega)]
    exact cut1 2 (by omega) (by omega)
  · unfold apS; rw [e, if_neg (by omega), if_neg (by omega), if_neg (by omega), if_pos rfl]
    by_cases gz : X.a p = 0
    · rw [if_pos gz]; exact cut2 1 11 _ _ _ _ (by omega) (by omega) (Or.inr (Or.inl rfl))
    · rw [if_neg gz]; exact cut1 2 (by omega) (by omega)
  · unfold apS; rw [e, if_neg (by omega), if_neg (by omega), if_neg (by omega), if_neg (by omega), if_pos rfl]
    by_cases gz : X.a p < X.a (p + 1)
    · rw [if_pos gz]; exact cut2 2 11 _ _ _ _ (by omega) (by omega) (Or.inr (Or.inl rfl))
    · rw [if_neg gz]; exact cut1 3 (by omega) (by omega)
  · unfold apS; rw [e, if_neg (by omega), if_neg (by omega), if_neg (by omega), if_neg (by omega), if_neg (by omega), if_pos rfl]
    exact cut2 1 11 _ _ _ _ (by omega) (by omega) (Or.inr (Or.inl rfl))
  · unfold apS; rw [e, if_neg (by omega), if_neg (by omega), if_neg (by omega), if_neg (by omega), if_neg (by omega), if_neg (by omega), if_neg (by omega)]
    exact cut1 2 (by omega) (by omega)
  · unfold apS; rw [e, if_neg (by omega), if_neg (by omega), if_neg (by omega), if_neg (by omega), if_neg (by omega), if_neg (by omega), if_pos (Or.inl rfl)]
    exact pop (Or.inl q1)
  · unfold apS; rw [e, if_neg (by omega), if_neg (by omega), if_neg (by omega), if_neg (by omega), if_neg (by omega), if_neg (by omega), if_neg (by omega)]
    exact cut1 2 (by omega) (by omega)
  · unfold apS; rw [e, if_neg (by omega), if_neg (by omega), if_neg (by omega), if_neg (by omega), if_neg (by omega), if_neg (by omega), if_pos (Or.inr rfl)]
    exact pop (Or.inr q1)
theorem ff_c : ∀ (k : Nat) (i : Int), (ffS X k i = -1 ∧ ∀ j, i ≤ j → j < i + k → ruS X j = 0) ∨ (i ≤ ffS X k i ∧ ffS X k i < i + k ∧ ¬ ruS X (ffS X k i) = 0 ∧ ∀ j, i ≤ j → j < ffS X k i → ruS X j = 0)
  | 0, i => Or.inl ⟨rfl, fun j h h' => absurd h' (by omega)⟩
  | k + 1, i => by
    unfold ffS
    by_cases g : ruS X i = 0
    · rw [if_neg (fun z => z g)]
      rcases ff_c k (i + 1) with ⟨h1, h2⟩ | ⟨h1, h2, h3, h4⟩
      · refine Or.inl ⟨h1, fun j j0 j1 => ?_⟩
        by_cases gj : j = i
        · rw [gj]; exact g
        · exact h2 j (by omega) (by omega)
      · refine Or.inr ⟨by omega, by omega, h3, fun j j0 j1 => ?_⟩
        by_cases gj : j = i
        · rw [gj]; exact g
        · exact h4 j (by omega) j1
    · rw [if_pos g]
      exact Or.inr ⟨by omega, by omega, g, fun j j0 j1 => absurd j1 (by omega)⟩
theorem fd_end (hs : WFs P) (hJ : ∀ op a b a', isj op = true → W op a b → W op a' b) (hW0 : ∀ op a b, 0 ≤ op → op ≤ 14 → W op a b) (hini : tys P nl (ini P m)) : ∀ (k : Nat) (X : Sx) (c : Int → Int) (F : Fl), muX X < k → okX nl X → SOk P m nl W X F → ffS (fdS k X c).1 (fdS k X c).1.n.toNat 0 = -1 ∧ okX nl (fdS k X c).1 ∧ ∃ F', SOk P m nl W (fdS k X c).1 F'
  | 0, X, c, F, h, hX, hF => absurd h (by omega)
  | k + 1, X, c, F, h, hX, hF => by
    unfold fdS
    by_cases g : ffS X X.n.toNat 0 = -1
    · rw [if_pos g]; exact ⟨g, hX, F, hF⟩
    · rw [if_neg g]
      rcases ff_c (X := X) X.n.toNat 0 with ⟨h1, -⟩ | ⟨h1, h2, h3, -⟩
      · exact absurd h1 g
      · have p1 : ffS X X.n.toNat 0 < X.n := by have := hX.1.1; omega
        obtain ⟨F', s1, s2⟩ := ap_ok hs hJ hW0 hini hX hF h1 p1 h3
        have md := mu_dec hX hF h1 p1 h3
        exact fd_end hs hJ hW0 hini k _ _ F' (by omega) s2 s1
/-- when no rule fits all is typed -/
theorem fd_all (hX : okX nl X) (h : SOk P m nl W X F) (he : ffS X X.n.toNat 0 = -1) : ∀ i, 0 ≤ i → i < X.n → 0 ≤ F.1 i := by
  intro i i0 i1
  rcases ff_c (X := X) X.n.toNat 0 with ⟨-, h2⟩ | ⟨h1, -⟩
  · have := h2 i i0 (by omega)
    refine sn_ty h ?_
    cases g : snB X i
    · unfold ruS at this
      rw [if_pos g] at this
      exact absurd this (by decide)
    · rfl
  · rw [he] at h1; omega
theorem mu_b (hX : okX nl X) : muX X < 30000 := by
  have h1 := cn_le (q := stB X) X.n.toNat
  have h2 := cn_le (q := jjB X) X.n.toNat
  have h3 := hX.1.2
  unfold muX
  generalize cnB (stB X) X.n.toNat = c1 at *
  generalize cnB (jjB X) X.n.toNat = c2 at *
  omega
end FOLD
