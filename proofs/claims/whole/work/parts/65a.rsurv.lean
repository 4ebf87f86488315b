/-! the reference's strip: its rows; its survey -/
def oR (σ : j3_S) (z u v : Int) : Prop := σ.2.2 10031 121 z = u ∧ ((v = -1 ∧ σ.2.2 10030 121 z = 1) ∨ (¬ v = -1 ∧ σ.2.2 10030 121 z = 2 ∧ σ.2.2 10032 121 z = v))
def xR (σ : j3_S) (X : Sx) (B : Int) : Prop := (σ.1 10062 121 = B ∧ σ.1 10063 121 = X.n) ∧ ∀ i, 0 ≤ i → i < X.n → σ.2.2 10027 121 (B + i) = X.op i ∧ σ.2.2 10028 121 (B + i) = X.a i ∧ σ.2.2 10029 121 (B + i) = X.b i ∧ oR σ (B + i) (X.o1 i) (X.o2 i)
def svR (σ : j3_S) (X : Sx) : Prop := (∀ i, 0 ≤ i → i < X.n → (σ.2.2 10064 121 i = 0 ↔ snB X i = false)) ∧ (∀ t, 0 ≤ t → t < X.n → (σ.2.2 10065 121 t = 0 ↔ jtS X t = false)) ∧ ∀ x, 0 ≤ x → x < 20 → (σ.2.2 10066 121 x = 0 ↔ ldS X x = false)
section RSV
variable {σ σ0 σ' : j3_S} {P : Pg} {m nl x n B : Int} {X : Sx} {F : Fl} {W : Int → Int → Int → Prop} {d : Nat} {Q : j3_P} {q : Int → Bool}
theorem xR.fr {li la : List Nat} (h : xR σ X B) (hf : frm li la σ σ') (h1 : [10062, 10063].all (fun e => !li.elem e) = true) (h2 : [10027, 10028, 10029, 10030, 10031, 10032].all (fun e => !la.elem e) = true) : xR σ' X B := by
  unfold xR oR
  rw [hf.2.1 10062 121 (all_n h1 rfl), hf.2.1 10063 121 (all_n h1 rfl), hf.2.2 10027 121 (all_n h2 rfl), hf.2.2 10028 121 (all_n h2 rfl), hf.2.2 10029 121 (all_n h2 rfl), hf.2.2 10030 121 (all_n h2 rfl), hf.2.2 10031 121 (all_n h2 rfl), hf.2.2 10032 121 (all_n h2 rfl)]
  exact h
theorem l202a : ∀ (k : Nat) (x : Int) (σ : j3_S), x + k = 120 → 0 ≤ x → frm [] [10064, 10065] σ0 σ → (∀ i, 0 ≤ i → i < x → σ.2.2 10064 121 i = 0 ∧ σ.2.2 10065 121 i = 0) → (∀ σ', frm [] [10064, 10065] σ0 σ' → (∀ i, 0 ≤ i → i < 120 → σ'.2.2 10064 121 i = 0 ∧ σ'.2.2 10065 121 i = 0) → T202 d Q 19 [wO 10 121, wI 0, wM 2] [] σ') → T202 d Q 2 [wO 10 121, wI x, wM 2] [] σ
  | 0, x, σ, hx, x0, hf, hz, hQ => by
    rw [b202_2, if_neg (by omega)]
    exact hQ σ hf (fun i i0 i1 => hz i i0 (by omega))
  | k + 1, x, σ, hx, x0, hf, hz, hQ => by
    rw [b202_2, if_pos (by omega), wr_id (by omega) (by omega)]
    refine ⟨Or.inl rfl, by omega, Or.inl rfl, by omega, l202a k (x + 1) _ (by omega) (by omega) (hf.tr (frm.A rfl (frm.A rfl frm.rf))) (fun i i0 i1 => ?_) hQ⟩
    simp only [j3_ast, up_r, up_e (show ((10064 : Nat) == 10065) = false from rfl), up_e (show ((10065 : Nat) == 10064) = false from rfl)]
    by_cases g : i = x
    · rw [g, iu_r, iu_r]; exact ⟨rfl, rfl⟩
    · rw [iu_n g, iu_n g]; exact hz i i0 (by omega)
theorem l202b : ∀ (k : Nat) (x : Int) (σ : j3_S), x + k = 20 → 0 ≤ x → frm [] [10066] σ0 σ → (∀ i, 0 ≤ i → i < x → σ.2.2 10066 121 i = 0) → (∀ σ', frm [] [10066] σ0 σ' → (∀ i, 0 ≤ i → i < 20 → σ'.2.2 10066 121 i = 0) → T202 d Q 31 [wO 10 121, wI 0, wM 2] [] σ') → T202 d Q 19 [wO 10 121, wI x, wM 2] [] σ
  | 0, x, σ, hx, x0, hf, hz, hQ => by
    rw [b202_19, if_neg (by omega)]
    exact hQ σ hf (fun i i0 i1 => hz i i0 (by omega))
  | k + 1, x, σ, hx, x0, hf, hz, hQ => by
    rw [b202_19, if_pos (by omega), wr_id (by omega) (by omega)]
    refine ⟨Or.inl rfl, by omega, l202b k (x + 1) _ (by omega) (by omega) (hf.tr (frm.A rfl frm.rf)) (fun i i0 i1 => ?_) hQ⟩
    simp only [j3_ast, up_r]
    by_cases g : i = x
    · rw [g, iu_r]
    · rw [iu_n g]; exact hz i i0 (by omega)
theorem any_s (n : Nat) : anyS q (n + 1) = (q n || anyS q n) := rfl
theorem l202c (hX : okX nl X) (h20 : nl ≤ 20) (B0 : 0 ≤ B) (B1 : B + 120 ≤ 28800) : ∀ (k x : Nat) (σ : j3_S), (x : Int) + k = X.n → frm [] [10065, 10066] σ0 σ → xR σ X B → (∀ t, 0 ≤ t → t < X.n → (σ.2.2 10065 121 t = 0 ↔ anyS (fun i => isj (X.op i) && decide (X.a i = t)) x = false)) → (∀ t, 0 ≤ t → t < 20 → (σ.2.2 10066 121 t = 0 ↔ anyS (fun i => decide (X.op i = 2) && decide (X.a i = t)) x = false)) → (∀ σ', frm [] [10065, 10066] σ0 σ' → xR σ' X B → (∀ t, 0 ≤ t → t < X.n → (σ'.2.2 10065 121 t = 0 ↔ jtS X t = false)) → (∀ t, 0 ≤ t → t < 20 → (σ'.2.2 10066 121 t = 0 ↔ ldS X t = false)) → j3_tc true (d + 2) 203 [wO 10 121, wI 0] (j3_up σ'.1 10068 121 0, σ'.2.1, σ'.2.2) (fun r σ1 => T202 (d + 2) Q 83 [wO 10 121, wI X.n, wM 2] (r.toList ++ []) σ1)) → T202 (d + 2) Q 31 [wO 10 121, wI x, wM 2] [] σ
  | 0, x, σ, hx, hf, hc, h10, h11, hQ => by
    have e : X.n.toNat = x := by omega
    rw [b202_31, hc.1.2, if_neg (by omega), show (x : Int) = X.n by omega]
    exact hQ σ hf hc (fun t t0 t1 => by unfold jtS; rw [e]; exact h10 t t0 t1) (fun t t0 t1 => by unfold ldS; rw [e]; exact h11 t t0 t1)
  | k + 1, x, σ, hx, hf, hc, h10, h11, hQ => by
    have hn := hX.1
    obtain ⟨o1, o2, o3⟩ := hX.2 x (by omega) (by omega)
    have go : ∀ σ1, frm [] [10065, 10066] σ0 σ1 → xR σ1 X B → (∀ t, 0 ≤ t → t < X.n → (σ1.2.2 10065 121 t = 0 ↔ anyS (fun i => isj (X.op i) && decide (X.a i = t)) (x + 1) = false)) → (∀ t, 0 ≤ t → t < 20 → (σ1.2.2 10066 121 t = 0 ↔ anyS (fun i => decide (X.op i = 2) && decide (X.a i = t)) (x + 1) = false)) → T202 (d + 2) Q 75 [wO 10 121, wI x, wM 2] [] σ1 := by
      intro σ1 f1 x1 a1 a2
      rw [b202_75, wr_id (by omega) (by omega)]
      exact l202c hX h20 B0 B1 k (x + 1) σ1 (by omega) f1 x1 a1 a2 hQ
    have t55 : ∀ σ1, frm [] [10065, 10066] σ0 σ1 → xR σ1 X B → (∀ t, 0 ≤ t → t < X.n → (σ1.2.2 10065 121 t = 0 ↔ anyS (fun i => isj (X.op i) && decide (X.a i = t)) (x + 1) = false)) → (∀ t, 0 ≤ t → t < 20 → (σ1.2.2 10066 121 t = 0 ↔ anyS (fun i => decide (X.op i = 2) && decide (X.a i = t)) x = false)) → T202 (d + 2) Q 55 [wO 10 121, wI x, wM 2] [] σ1 := by
      intro σ1 f1 x1 a1 a2
      obtain ⟨d1, d2, -⟩ := x1.2 x (by omega) (by omega)
      rw [b202_55, x1.1.1, wr_id (by omega) (by omega), d1, d2]
      refine ⟨by omega, ?_⟩
      by_cases g : X.op x = 2
      · rw [if_pos g]
        have ra := o2 (Or.inl g)
        refine ⟨by omega, Or.inr rfl, by omega, go _ (f1.tr (frm.A rfl frm.rf)) (x1.fr (li := []) (la := [10066]) (frm.A rfl frm.rf) rfl rfl) (fun t t0 t1 => ?_) (fun t t0 t1 => ?_)⟩
        · simp only [j3_ast, up_e (show ((10065 : Nat) == 10066) = false from rfl)]
          exact a1 t t0 t1
        · simp only [j3_ast, up_r]
          rw [any_s, Bool.or_eq_false_iff]
          by_cases gt : t = X.a x
          · rw [gt, iu_r]
            exact ⟨fun z => absurd z (by decide), fun z => by simp [g] at z⟩
          · rw [iu_n gt, a2 t t0 t1]
            exact ⟨fun z => ⟨by simp [g]; exact fun y => gt y.symm, z⟩, fun z => z.2⟩
      · rw [if_neg g]
        refine go σ1 f1 x1 a1 (fun t t0 t1 => ?_)
        rw [any_s, Bool.or_eq_false_iff, a2 t t0 t1]
        exact ⟨fun z => ⟨by simp [g], z⟩, fun z => z.2⟩
    obtain ⟨c1, c2, -⟩ := hc.2 x (by omega) (by omega)
    rw [b202_31, hc.1.2, if_pos (by omega), hc.1.1, wr_id (by omega) (by omega), c1, s164]
    refine ⟨by omega, ?_⟩
    simp only [Option.toList_some, List.cons_append, List.nil_append]
    rw [b202_43]
    cases gj : isj (X.op x)
    · rw [if_pos (show b2i false = 0 from rfl)]
      refine t55 σ hf hc (fun t t0 t1 => ?_) h11
      rw [any_s, Bool.or_eq_false_iff, h10 t t0 t1]
      exact ⟨fun z => ⟨by simp [gj], z⟩, fun z => z.2⟩
    · have ra := o3 gj
      rw [if_neg (show ¬ b2i true = 0 by decide), hc.1.1, wr_id (by omega) (by omega), c2]
      refine ⟨by omega, Or.inr rfl, by omega, t55 _ (hf.tr (frm.A rfl frm.rf)) (hc.fr (li := []) (la := [10065]) (frm.A rfl frm.rf) rfl rfl) (fun t t0 t1 => ?_) (fun t t0 t1 => ?_)⟩
      · simp only [j3_ast, up_r]
        rw [any_s, Bool.or_eq_false_iff]
        by_cases gt : t = X.a x
        · rw [gt, iu_r]
          exact ⟨fun z => absurd z (by decide), fun z => by simp [gj] at z⟩
        · rw [iu_n gt, h10 t t0 t1]
          exact ⟨fun z => ⟨by simp [gj]; exact fun y => gt y.symm, z⟩, fun z => z.2⟩
      · simp only [j3_ast, up_e (show ((10066 : Nat) == 10065) = false from rfl)]
        exact h11 t t0 t1
/-- how many are marked -/
def mkN (σ : j3_S) (X : Sx) : Nat := cnB (fun i => decide (σ.2.2 10064 121 i = 1)) X.n.toNat
/-- the places met; ex: one that is being looked at -/
def dfI (σ0 σ : j3_S) (X : Sx) (ex : Int) : Prop := frm [10068] [10064, 10067] σ0 σ ∧ (∀ i, 0 ≤ i → i < X.n → σ.2.2 10064 121 i = 0 ∨ (σ.2.2 10064 121 i = 1 ∧ snS X i ∧ (i = ex ∨ (∃ j, 0 ≤ j ∧ j < σ.1 10068 121 ∧ σ.2.2 10067 121 j = i) ∨ ((gon (X.op i) = true → σ.2.2 10064 121 (i + 1) = 1) ∧ (isj (X.op i) = true → σ.2.2 10064 121 (X.a i) = 1))))) ∧ (∀ j, 0 ≤ j → j < σ.1 10068 121 → 0 ≤ σ.2.2 10067 121 j ∧ σ.2.2 10067 121 j < X.n ∧ σ.2.2 10064 121 (σ.2.2 10067 121 j) = 1) ∧ 0 ≤ σ.1 10068 121 ∧ σ.1 10068 121 ≤ (mkN σ X : Nat)
theorem s203 {y ex : Int} (hX : okX nl X) (h : dfI σ0 σ X ex) (y0 : 0 ≤ y) (y1 : y < X.n) (hy : snS X y) (hQ : ∀ σ', dfI σ0 σ' X ex → σ'.2.2 10064 121 y = 1 → (∀ i, σ.2.2 10064 121 i = 1 → σ'.2.2 10064 121 i = 1) → 2 * (X.n - (mkN σ' X : Nat)) + σ'.1 10068 121 ≤ 2 * (X.n - (mkN σ X : Nat)) + σ.1 10068 121 → Q none σ') : j3_tc true (d + 1) 203 [wO 10 121, wI y] σ Q := by
  have hm := hX.1
  obtain ⟨h1, h2, h3, h4, h5⟩ := id h
  have lm := cn_le (q := fun i => decide (σ.2.2 10064 121 i = 1)) X.n.toNat
  have lm : mkN σ X ≤ X.n.toNat := lm
  rw [e203, b203_0]
  refine ⟨by omega, ?_⟩
  rcases h2 y y0 y1 with g | ⟨g, -⟩
  · have lt : mkN σ X < X.n.toNat := by
      have := cn_1 (q := fun i => decide (σ.2.2 10064 121 i = 1)) (q' := fun _ => true) (fun _ _ _ => rfl) (z := y) y0 (by simp [g]) rfl X.n.toNat (by omega)
      have l2 := cn_le (q := fun _ => true) X.n.toNat
      show cnB _ _ < _
      omega
    rw [if_pos g, wr_id (by omega) (by omega)]
    refine ⟨Or.inr rfl, by omega, by omega, ?_⟩
    generalize hσ' : ((j3_up σ.1 10068 121 (σ.1 10068 121 + 1), σ.2.1, j3_ast (j3_ast σ.2.2 10064 121 y 1) 10067 121 (σ.1 10068 121) y) : j3_S) = σ1
    have e7 : ∀ i, σ1.2.2 10064 121 i = if i = y then 1 else σ.2.2 10064 121 i := fun i => by
      rw [← hσ']
      simp only [j3_ast, up_e (show ((10064 : Nat) == 10067) = false from rfl), up_r, i_up]
    have e8 : ∀ j, σ1.2.2 10067 121 j = if j = σ.1 10068 121 then y else σ.2.2 10067 121 j := fun j => by
      rw [← hσ']
      simp only [j3_ast, up_e (show ((10067 : Nat) == 10064) = false from rfl), up_r, i_up]
    have e9 : σ1.1 10068 121 = σ.1 10068 121 + 1 := by rw [← hσ']; simp only [up_r]
    have mono : ∀ i, σ.2.2 10064 121 i = 1 → σ1.2.2 10064 121 i = 1 := fun i hi => by
      rw [e7]
      split
      · rfl
      · exact hi
    have c1 : ∀ k : Nat, (k : Int) ≤ y → cnB (fun i => decide (σ1.2.2 10064 121 i = 1)) k = cnB (fun i => decide (σ.2.2 10064 121 i = 1)) k := by
      intro k
      induction k with
      | zero => intro _; rfl
      | succ k ih =>
        intro hk
        show cnB _ k + (if decide (σ1.2.2 10064 121 k = 1) = true then 1 else 0) = cnB _ k + (if decide (σ.2.2 10064 121 k = 1) = true then 1 else 0)
        rw [ih (by omega), e7 k, if_neg (show ¬ (k : Int) = y by omega)]
    have c2 : ∀ k : Nat, y < k → cnB (fun i => decide (σ1.2.2 10064 121 i = 1)) k = cnB (fun i => decide (σ.2.2 10064 121 i = 1)) k + 1 := by
      intro k
      induction k with
      | zero => intro h; omega
      | succ k ih =>
        intro hk
        have s1 : cnB (fun i => decide (σ1.2.2 10064 121 i = 1)) (k + 1) = cnB (fun i => decide (σ1.2.2 10064 121 i = 1)) k + (if decide (σ1.2.2 10064 121 k = 1) = true then 1 else 0) := rfl
        have s2 : cnB (fun i => decide (σ.2.2 10064 121 i = 1)) (k + 1) = cnB (fun i => decide (σ.2.2 10064 121 i = 1)) k + (if decide (σ.2.2 10064 121 k = 1) = true then 1 else 0) := rfl
        rw [s1, s2]
        by_cases gk : (k : Int) = y
        · rw [c1 k (by omega), e7, if_pos gk, gk, g]
          simp
        · rw [ih (by omega), e7, if_neg gk]; omega
    have c3 : mkN σ1 X = mkN σ X + 1 := c2 X.n.toNat (by omega)
    refine hQ σ1 ⟨by rw [← hσ']; exact h1.tr (frm.I rfl (frm.A rfl (frm.A rfl frm.rf))), fun i i0 i1 => ?_, fun j j0 j1 => ?_, by omega, by omega⟩ (by rw [e7, if_pos rfl]) mono (by omega)
    · rw [e7 i]
      by_cases gi : i = y
      · rw [if_pos gi]
        exact Or.inr ⟨rfl, by rw [gi]; exact hy, Or.inr (Or.inl ⟨σ.1 10068 121, by omega, by omega, by rw [e8, if_pos rfl, gi]⟩)⟩
      · rw [if_neg gi]
        rcases h2 i i0 i1 with q | ⟨q1, q2, q3⟩
        · exact Or.inl q
        · refine Or.inr ⟨q1, q2, ?_⟩
          rcases q3 with q | ⟨j, j0, j1, j2⟩ | ⟨w1, w2⟩
          · exact Or.inl q
          · exact Or.inr (Or.inl ⟨j, j0, by omega, by rw [e8, if_neg (by omega)]; exact j2⟩)
          · exact Or.inr (Or.inr ⟨fun z => mono _ (w1 z), fun z => mono _ (w2 z)⟩)
    · rw [e9] at j1
      rw [e8]
      by_cases gj : j = σ.1 10068 121
      · rw [if_pos gj]; exact ⟨y0, y1, by rw [e7, if_pos rfl]⟩
      · rw [if_neg gj]
        obtain ⟨q1, q2, q3⟩ := h3 j j0 (by omega)
        exact ⟨q1, q2, mono _ q3⟩
  · rw [if_neg (by omega)]
    exact hQ σ h g (fun _ q => q) (Int.le_refl _)
theorem l202d (hX : okX nl X) (hS : SOk P m nl W X F) (B0 : 0 ≤ B) (B1 : B + 120 ≤ 28800) (hx0 : xR σ0 X B) : ∀ (k : Nat) (x1 : Int) (w2 : j3_W) (σ : j3_S), 2 * (X.n - (mkN σ X : Nat)) + σ.1 10068 121 ≤ k → dfI σ0 σ X (-1) → σ.2.2 10064 121 0 = 1 → (∀ σ', dfI σ0 σ' X (-1) → σ'.1 10068 121 = 0 → σ'.2.2 10064 121 0 = 1 → Q none σ') → T202 (d + 2) Q 83 [wO 10 121, wI x1, w2] [] σ
  | 0, x1, w2, σ, hk, h, h0, hQ => by
    have lm : mkN σ X ≤ X.n.toNat := cn_le _
    have hn := hX.1
    have := h.2.2.2.1
    rw [b202_83, if_neg (by omega)]
    exact hQ σ h (by omega) h0
  | k + 1, x1, w2, σ, hk, h, h0, hQ => by
    have hn := hX.1
    have w0 := h.2.2.2.1
    by_cases g : 0 < σ.1 10068 121
    · have lm : mkN σ X ≤ X.n.toNat := cn_le _
      have w1 := h.2.2.2.2
      obtain ⟨q1, q2, q3⟩ := h.2.2.1 (σ.1 10068 121 - 1) (by omega) (by omega)
      generalize hi : σ.2.2 10067 121 (σ.1 10068 121 - 1) = i at q1 q2 q3
      have hx : ∀ σ1 y, dfI σ0 σ1 X y → xR σ1 X B := fun σ1 y h1 => hx0.fr h1.1 rfl rfl
      obtain ⟨o1, o2, -⟩ := (hx σ _ h).2 i q1 q2
      have sn : snS X i := by
        rcases h.2.1 i q1 q2 with z | ⟨-, z, -⟩
        · omega
        · exact z
      have ty := sn_ty hS (snB_i.mpr sn)
      have hB := (hx σ _ h).1.1
      generalize hσ1 : ((j3_up σ.1 10068 121 (σ.1 10068 121 - 1), σ.2.1, σ.2.2) : j3_S) = σ1
      have n1 : σ1.1 10068 121 = σ.1 10068 121 - 1 := by rw [← hσ1]; simp only [up_r]
      have A1 : σ1.2.2 = σ.2.2 := by rw [← hσ1]
      have mk1 : mkN σ1 X = mkN σ X := by unfold mkN; rw [A1]
      have d1 : dfI σ0 σ1 X i := by
        refine ⟨by rw [← hσ1]; exact h.1.tr (frm.I rfl frm.rf), fun j j0 j1 => ?_, fun j j0 j1 => ?_, by omega, by rw [mk1]; omega⟩
        · rw [A1]
          rcases h.2.1 j j0 j1 with z | ⟨z1, z2, z3⟩
          · exact Or.inl z
          · refine Or.inr ⟨z1, z2, ?_⟩
            rcases z3 with z | ⟨jj, y0, y1, y2⟩ | z
            · omega
            · by_cases gj : jj = σ.1 10068 121 - 1
              · rw [gj, hi] at y2; exact Or.inl y2.symm
              · exact Or.inr (Or.inl ⟨jj, y0, by omega, y2⟩)
            · exact Or.inr (Or.inr z)
        · rw [A1]; exact h.2.2.1 j j0 (by omega)
      have v1 : σ1.2.2 10064 121 0 = 1 := by rw [A1]; exact h0
      have last : ∀ σ2 op2, dfI σ0 σ2 X i → σ2.2.2 10064 121 0 = 1 → σ2.2.2 10064 121 i = 1 → 2 * (X.n - (mkN σ2 X : Nat)) + σ2.1 10068 121 ≤ k → (gon (X.op i) = true → σ2.2.2 10064 121 (i + 1) = 1) → (isj (X.op i) = true → σ2.2.2 10064 121 (X.a i) = 1) → T202 (d + 2) Q 132 [wO 10 121, wI i, wI op2] [] σ2 := by
        intro σ2 op2 h2 v2 z2 m2 g1 g2
        rw [b202_132]
        refine l202d hX hS B0 B1 hx0 k _ _ σ2 m2 ⟨h2.1, fun j j0 j1 => ?_, h2.2.2.1, h2.2.2.2⟩ v2 hQ
        rcases h2.2.1 j j0 j1 with z | ⟨z1, z3, z4⟩
        · exact Or.inl z
        · refine Or.inr ⟨z1, z3, ?_⟩
          rcases z4 with z | z
          · rw [z]; exact Or.inr (Or.inr ⟨g1, g2⟩)
          · exact Or.inr z
      have mid : ∀ σ2, dfI σ0 σ2 X i → σ2.2.2 10064 121 0 = 1 → σ2.2.2 10064 121 i = 1 → 2 * (X.n - (mkN σ2 X : Nat)) + σ2.1 10068 121 ≤ k → (gon (X.op i) = true → σ2.2.2 10064 121 (i + 1) = 1) → T202 (d + 2) Q 120 [wO 10 121, wI i, wI (X.op i)] [] σ2 := by
        intro σ2 h2 v2 z2 m2 g1
        rw [b202_120, s164]
        simp only [Option.toList_some, List.cons_append, List.nil_append]
        rw [b202_122]
        cases gj : isj (X.op i)
        · rw [if_pos (show b2i false = 0 from rfl)]
          exact last σ2 _ h2 v2 z2 m2 g1 (fun z => by rw [gj] at z; cases z)
        · obtain ⟨t1, t2, t3⟩ := hS.tg q1 q2 ty gj
          rw [if_neg (show ¬ b2i true = 0 by decide), (hx σ2 _ h2).1.1, wr_id (by omega) (by omega), ((hx σ2 _ h2).2 i q1 q2).2.1]
          refine ⟨by omega, s203 hX h2 t1 t2 (fun V hV => hV.2.2 i q1 q2 (sn V hV) gj) (fun σ3 h3 m1 m3 m4 => ?_)⟩
          simp only [Option.toList_none, List.nil_append]
          exact last σ3 _ h3 (m3 _ v2) (m3 _ z2) (by omega) (fun z => m3 _ (g1 z)) (fun _ => m1)
      rw [b202_83, if_pos g, wr_id (z := σ.1 10068 121 - 1) (by omega) (by omega), hi, hB, wr_id (z := B + i) (by omega) (by omega), o1, hσ1]
      refine ⟨by omega, by omega, ?_⟩
      by_cases gg : gon (X.op i) = true
      · have ng : ¬ X.op i = 11 ∧ ¬ X.op i = 22 ∧ ¬ X.op i = 26 := by simp [gon] at gg; omega
        obtain ⟨t1, t2, -⟩ := hS.nx q1 q2 ty gg
        rw [if_neg ng.1, if_neg ng.2.1, if_neg ng.2.2, wr_id (by omega) (by omega)]
        refine s203 hX d1 (by omega) t1 (fun V hV => hV.2.1 i q1 q2 (sn V hV) gg) (fun σ2 h2 m1 m3 m4 => ?_)
        simp only [Option.toList_none, List.nil_append]
        exact mid σ2 h2 (m3 _ v1) (m3 _ (by rw [A1]; exact q3)) (by rw [mk1, n1] at m4; omega) (fun _ => m1)
      · have t := mid σ1 d1 v1 (by rw [A1]; exact q3) (by rw [mk1, n1]; omega) (fun z => absurd z gg)
        have gg' : X.op i = 11 ∨ X.op i = 22 ∨ X.op i = 26 := by simp [gon] at gg; omega
        by_cases g1 : X.op i = 11
        · rw [if_pos g1]; exact t
        rw [if_neg g1]
        by_cases g2 : X.op i = 22
        · rw [if_pos g2]; exact t
        · rw [if_neg g2, if_pos (by omega)]; exact t
    · rw [b202_83, if_neg g]
      exact hQ σ h (by omega) h0
theorem s202 (hX : okX nl X) (h20 : nl ≤ 20) (hS : SOk P m nl W X F) (B0 : 0 ≤ B) (B1 : B + 120 ≤ 28800) (hx : xR σ X B) (hQ : ∀ σ', frm [10068] [10064, 10065, 10066, 10067] σ σ' → svR σ' X → Q none σ') : j3_tc true (d + 3) 202 [wO 10 121] σ Q := by
  have hn := hX.1
  rw [e202, b202_0]
  refine l202a (σ0 := σ) 120 0 σ (by omega) (by omega) frm.rf (fun i i0 i1 => absurd i1 (by omega)) (fun σ1 f1 z1 => ?_)
  refine l202b (σ0 := σ1) 20 0 σ1 (by omega) (by omega) frm.rf (fun i i0 i1 => absurd i1 (by omega)) (fun σ2 f2 z2 => ?_)
  have x2 : xR σ2 X B := (hx.fr f1 rfl rfl).fr f2 rfl rfl
  refine l202c (σ0 := σ2) hX h20 B0 B1 X.n.toNat 0 σ2 (by omega) frm.rf x2 (fun t t0 t1 => ?_) (fun t t0 t1 => ?_) (fun σ3 f3 x3 a10 a11 => ?_)
  · rw [f2.2.2 10065 121 rfl, (z1 t t0 (by omega)).2]
    exact ⟨fun _ => rfl, fun _ => rfl⟩
  · rw [z2 t t0 t1]
    exact ⟨fun _ => rfl, fun _ => rfl⟩
  generalize hσ4 : ((j3_up σ3.1 10068 121 0, σ3.2.1, σ3.2.2) : j3_S) = σ4
  have f4 : frm [10068] [] σ3 σ4 := by rw [← hσ4]; exact frm.I rfl frm.rf
  have n4 : σ4.1 10068 121 = 0 := by rw [← hσ4]; simp only [up_r]
  have x4 : xR σ4 X B := x3.fr f4 rfl rfl
  have s7 : ∀ i, 0 ≤ i → i < X.n → σ4.2.2 10064 121 i = 0 := fun i i0 i1 => by
    rw [f4.2.2 10064 121 rfl, f3.2.2 10064 121 rfl, f2.2.2 10064 121 rfl]; exact (z1 i i0 (by omega)).1
  have b0 : dfI σ4 σ4 X (-1) := ⟨frm.rf, fun i i0 i1 => Or.inl (s7 i i0 i1), fun j j0 j1 => absurd j1 (by omega), by omega, by rw [n4]; omega⟩
  refine s203 hX b0 (by omega) (by omega) (fun V hV => hV.1) (fun σ5 h5 m1 _ m4 => ?_)
  simp only [Option.toList_none, List.nil_append]
  refine l202d hX hS B0 B1 x4 (2 * X.n).toNat _ _ σ5 (by rw [n4] at m4; omega) h5 m1 (fun σ6 h6 e6 v6 => hQ σ6 ?_ ⟨fun i i0 i1 => ?_, fun t t0 t1 => ?_, fun t t0 t1 => ?_⟩)
  · exact (f1.wd (fun _ _ => rfl) (sub_el rfl)).tr ((f2.wd (fun _ _ => rfl) (sub_el rfl)).tr ((f3.wd (fun _ _ => rfl) (sub_el rfl)).tr ((f4.wd (fun _ h => h) (sub_el rfl)).tr (h6.1.wd (fun _ h => h) (sub_el rfl)))))
  · obtain ⟨-, q2, q3, q4, q5⟩ := h6
    have succ : ∀ j, 0 ≤ j → j < X.n → σ6.2.2 10064 121 j = 1 → snS X j ∧ (gon (X.op j) = true → σ6.2.2 10064 121 (j + 1) = 1) ∧ (isj (X.op j) = true → σ6.2.2 10064 121 (X.a j) = 1) := by
      intro j j0 j1 hj
      rcases q2 j j0 j1 with z | ⟨z1, z2, z3⟩
      · omega
      · rcases z3 with z | ⟨jj, w0, w1, -⟩ | z
        · omega
        · omega
        · exact ⟨z2, z⟩
    constructor
    · intro hz
      cases g : snB X i
      · rfl
      · have := snB_i.mp g (fun j => decide (0 ≤ j) && decide (j < X.n) && decide (σ6.2.2 10064 121 j = 1)) ⟨by simp [v6]; omega, fun j j0 j1 hj hg => ?_, fun j j0 j1 hj hg => ?_⟩
        · simp [hz] at this
        · simp at hj
          obtain ⟨z2, z3, z4⟩ := succ j j0 j1 hj.2
          have nx := hS.nx j0 j1 (sn_ty hS (snB_i.mpr z2)) hg
          simp [z3 hg]; omega
        · simp at hj
          obtain ⟨z2, z3, z4⟩ := succ j j0 j1 hj.2
          have tg := hS.tg j0 j1 (sn_ty hS (snB_i.mpr z2)) hg
          simp [z4 hg]; omega
    · intro g
      rcases q2 i i0 i1 with z | ⟨z1, z2, -⟩
      · exact z
      · rw [snB_i.mpr z2] at g; cases g
  · rw [h6.1.2.2 10065 121 rfl, f4.2.2 10065 121 rfl]; exact a10 t t0 t1
  · rw [h6.1.2.2 10066 121 rfl, f4.2.2 10066 121 rfl]; exact a11 t t0 t1
end RSV
