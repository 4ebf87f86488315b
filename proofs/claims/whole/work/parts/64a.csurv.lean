/-! the class's strip: its rows; its survey -/
def xC (σ : j3_S) (X : Sx) : Prop := σ.1 7000 96 = X.n ∧ ∀ i, 0 ≤ i → i < X.n → σ.2.2 7002 96 i = X.op i ∧ σ.2.2 7003 96 i = X.a i ∧ σ.2.2 7004 96 i = X.b i ∧ σ.2.2 7005 96 i = X.o1 i ∧ σ.2.2 7006 96 i = X.o2 i
def svC (σ : j3_S) (X : Sx) : Prop := (∀ i, 0 ≤ i → i < X.n → (σ.2.2 7007 96 i = 0 ↔ snB X i = false)) ∧ (∀ t, 0 ≤ t → t < X.n → (σ.2.2 7010 96 t = 0 ↔ jtS X t = false)) ∧ ∀ x, 0 ≤ x → x < 20 → (σ.2.2 7011 96 x = 0 ↔ ldS X x = false)
section CSV
variable {σ σ0 σ' : j3_S} {P : Pg} {m nl x n : Int} {X : Sx} {F : Fl} {W : Int → Int → Int → Prop} {d : Nat} {Q : j3_P} {q : Int → Bool}
theorem xC.fr {li la : List Nat} (h : xC σ X) (hf : frm li la σ σ') (h1 : li.elem 7000 = false) (h2 : [7002, 7003, 7004, 7005, 7006].all (fun e => !la.elem e) = true) : xC σ' X := by
  unfold xC
  rw [hf.2.1 7000 96 h1, hf.2.2 7002 96 (all_n h2 rfl), hf.2.2 7003 96 (all_n h2 rfl), hf.2.2 7004 96 (all_n h2 rfl), hf.2.2 7005 96 (all_n h2 rfl), hf.2.2 7006 96 (all_n h2 rfl)]
  exact h
theorem cn_any : ∀ n : Nat, cnB q n = 0 ↔ anyS q n = false
  | 0 => ⟨fun _ => rfl, fun _ => rfl⟩
  | n + 1 => by
    show cnB q n + (if q n = true then 1 else 0) = 0 ↔ (q n || anyS q n) = false
    rw [Bool.or_eq_false_iff, ← cn_any n]
    by_cases g : q n = true
    · rw [if_pos g, g]
      exact ⟨fun h => by omega, fun h => by cases h.1⟩
    · rw [if_neg g]
      have : q n = false := by simpa using g
      exact ⟨fun h => ⟨this, by omega⟩, fun h => by omega⟩
theorem s112 (hn : σ.1 7000 96 = n) : j3_tc false (d + 1) 112 [wO 7 96, wI x] σ Q = Q (some (wI (b2i (decide (0 ≤ x) && decide (x < n))))) σ := by
  rw [e112, b112_0, hn]
  by_cases g : x < 0
  · rw [if_pos g]
    simp [b2i, show ¬ 0 ≤ x by omega]
  · rw [if_neg g]
    by_cases g2 : x < n
    · rw [if_pos g2]
      simp [b2i, show 0 ≤ x by omega, g2]
    · rw [if_neg g2]
      simp [b2i, g2]
/-- jumps and loads counted -/
theorem l111a (hX : okX nl X) (h20 : nl ≤ 20) : ∀ (k x : Nat) (σ : j3_S), (x : Int) + k = X.n → frm [] [7010, 7011] σ0 σ → xC σ X → (∀ t, 0 ≤ t → t < X.n → σ.2.2 7010 96 t = (cnB (fun i => isj (X.op i) && decide (X.a i = t)) x : Nat)) → (∀ t, 0 ≤ t → t < 20 → σ.2.2 7011 96 t = (cnB (fun i => decide (X.op i = 2) && decide (X.a i = t)) x : Nat)) → (∀ σ', frm [] [7010, 7011] σ0 σ' → xC σ' X → (∀ t, 0 ≤ t → t < X.n → σ'.2.2 7010 96 t = (cnB (fun i => isj (X.op i) && decide (X.a i = t)) X.n.toNat : Nat)) → (∀ t, 0 ≤ t → t < 20 → σ'.2.2 7011 96 t = (cnB (fun i => decide (X.op i = 2) && decide (X.a i = t)) X.n.toNat : Nat)) → j3_tc false (d + 2) 113 [wO 7 96, wI 0] (j3_up σ'.1 7009 96 0, σ'.2.1, σ'.2.2) (fun r σ1 => T111 (d + 2) Q 67 [wO 7 96, wI X.n, wM 2] (r.toList ++ []) σ1)) → T111 (d + 2) Q 14 [wO 7 96, wI x, wM 2] [] σ
  | 0, x, σ, hx, hf, hc, h10, h11, hQ => by
    have e : X.n.toNat = x := by omega
    rw [b111_14, hc.1, if_neg (by omega), show (x : Int) = X.n by omega]
    rw [e] at hQ
    exact hQ σ hf hc h10 h11
  | k + 1, x, σ, hx, hf, hc, h10, h11, hQ => by
    have hn := hX.1
    obtain ⟨o1, o2, o3⟩ := hX.2 x (by omega) (by omega)
    obtain ⟨c1, c2, -⟩ := hc.2 x (by omega) (by omega)
    have go : ∀ σ1, frm [] [7010, 7011] σ0 σ1 → xC σ1 X → (∀ t, 0 ≤ t → t < X.n → σ1.2.2 7010 96 t = (cnB (fun i => isj (X.op i) && decide (X.a i = t)) (x + 1) : Nat)) → (∀ t, 0 ≤ t → t < 20 → σ1.2.2 7011 96 t = (cnB (fun i => decide (X.op i = 2) && decide (X.a i = t)) (x + 1) : Nat)) → T111 (d + 2) Q 59 [wO 7 96, wI x, wM 2] [] σ1 := by
      intro σ1 f1 x1 a1 a2
      rw [b111_59, wr_id (by omega) (by omega)]
      exact l111a hX h20 k (x + 1) σ1 (by omega) f1 x1 a1 a2 hQ
    have t42 : ∀ σ1, frm [] [7010, 7011] σ0 σ1 → xC σ1 X → (∀ t, 0 ≤ t → t < X.n → σ1.2.2 7010 96 t = (cnB (fun i => isj (X.op i) && decide (X.a i = t)) (x + 1) : Nat)) → (∀ t, 0 ≤ t → t < 20 → σ1.2.2 7011 96 t = (cnB (fun i => decide (X.op i = 2) && decide (X.a i = t)) x : Nat)) → T111 (d + 2) Q 42 [wO 7 96, wI x, wM 2] [] σ1 := by
      intro σ1 f1 x1 a1 a2
      obtain ⟨d1, d2, -⟩ := x1.2 x (by omega) (by omega)
      rw [b111_42, d1, d2]
      refine ⟨by omega, ?_⟩
      have step : ∀ t : Int, (cnB (fun i => decide (X.op i = 2) && decide (X.a i = t)) (x + 1) : Nat) = cnB (fun i => decide (X.op i = 2) && decide (X.a i = t)) x + (if (decide (X.op x = 2) && decide (X.a x = t)) = true then 1 else 0) := fun t => rfl
      by_cases g : X.op x = 2
      · rw [if_pos g]
        have ra := o2 (Or.inl g)
        have l1 := cn_le (q := fun i => decide (X.op i = 2) && decide (X.a i = X.a x)) x
        rw [a2 _ ra.1 (by omega), wr_id (by omega) (by omega)]
        refine ⟨by omega, by omega, by omega, go _ (f1.tr (frm.A rfl frm.rf)) (x1.fr (li := []) (la := [7011]) (frm.A rfl frm.rf) rfl rfl) (fun t t0 t1 => ?_) (fun t t0 t1 => ?_)⟩
        · simp only [j3_ast, up_e (show ((7010 : Nat) == 7011) = false from rfl)]
          exact a1 t t0 t1
        · simp only [j3_ast, up_r, i_up]
          rw [step]
          by_cases gt : t = X.a x
          · rw [if_pos gt, gt, g, if_pos (by simp)]; omega
          · rw [if_neg gt, a2 t t0 t1, if_neg (by simp; intro _; exact fun z => gt z.symm)]; omega
      · rw [if_neg g]
        refine go σ1 f1 x1 a1 (fun t t0 t1 => ?_)
        rw [step, if_neg (by simp [g]), a2 t t0 t1]; omega
    rw [b111_14, hc.1, if_pos (by omega), c1, s151]
    refine ⟨by omega, ?_⟩
    simp only [Option.toList_some, List.cons_append, List.nil_append]
    have step : ∀ t : Int, (cnB (fun i => isj (X.op i) && decide (X.a i = t)) (x + 1) : Nat) = cnB (fun i => isj (X.op i) && decide (X.a i = t)) x + (if (isj (X.op x) && decide (X.a x = t)) = true then 1 else 0) := fun t => rfl
    rw [b111_23]
    cases gj : isj (X.op x)
    · rw [if_pos (show b2i false = 0 from rfl)]
      refine t42 σ hf hc (fun t t0 t1 => ?_) h11
      rw [step, gj, if_neg (by simp), h10 t t0 t1]; omega
    · rw [if_neg (show ¬ b2i true = 0 by decide), c2, s112 hc.1]
      refine ⟨by omega, ?_⟩
      simp only [Option.toList_some, List.cons_append, List.nil_append]
      have ra := o3 gj
      rw [b111_30]
      by_cases gp : X.a x < X.n
      · have : (decide (0 ≤ X.a x) && decide (X.a x < X.n)) = true := by simp; omega
        have l1 := cn_le (q := fun i => isj (X.op i) && decide (X.a i = X.a x)) x
        rw [this, if_neg (show ¬ b2i true = 0 by decide), c2, h10 _ ra.1 gp, wr_id (by omega) (by omega)]
        refine ⟨by omega, by omega, by omega, t42 _ (hf.tr (frm.A rfl frm.rf)) (hc.fr (li := []) (la := [7010]) (frm.A rfl frm.rf) rfl rfl) (fun t t0 t1 => ?_) (fun t t0 t1 => ?_)⟩
        · simp only [j3_ast, up_r, i_up]
          rw [step, gj]
          by_cases gt : t = X.a x
          · rw [if_pos gt, gt, if_pos (by simp)]; omega
          · rw [if_neg gt, h10 t t0 t1, if_neg (by simp; exact fun z => gt z.symm)]; omega
        · simp only [j3_ast, up_e (show ((7011 : Nat) == 7010) = false from rfl)]
          exact h11 t t0 t1
      · have : (decide (0 ≤ X.a x) && decide (X.a x < X.n)) = false := by simp; omega
        rw [this, if_pos (show b2i false = 0 from rfl)]
        refine t42 σ hf hc (fun t t0 t1 => ?_) h11
        rw [step, gj, if_neg (by simp; omega), h10 t t0 t1]; omega
/-- the places met so far; x of them looked at -/
def bfI (σ0 σ : j3_S) (X : Sx) (x : Int) : Prop := frm [7009] [7007, 7008] σ0 σ ∧ (∀ i, 0 ≤ i → i < X.n → σ.2.2 7007 96 i = 0 ∨ (σ.2.2 7007 96 i = 1 ∧ snS X i ∧ ∃ j, 0 ≤ j ∧ j < σ.1 7009 96 ∧ σ.2.2 7008 96 j = i)) ∧ (∀ j, 0 ≤ j → j < σ.1 7009 96 → 0 ≤ σ.2.2 7008 96 j ∧ σ.2.2 7008 96 j < X.n ∧ σ.2.2 7007 96 (σ.2.2 7008 96 j) = 1) ∧ σ.1 7009 96 = (cnB (fun i => decide (σ.2.2 7007 96 i = 1)) X.n.toNat : Nat) ∧ ∀ j, 0 ≤ j → j < x → j < σ.1 7009 96 ∧ (gon (X.op (σ.2.2 7008 96 j)) = true → σ.2.2 7007 96 (σ.2.2 7008 96 j + 1) = 1) ∧ (isj (X.op (σ.2.2 7008 96 j)) = true → σ.2.2 7007 96 (X.a (σ.2.2 7008 96 j)) = 1)
theorem bfI.c (h : bfI σ0 σ X x) (hX : okX nl X) : 0 ≤ σ.1 7009 96 ∧ σ.1 7009 96 ≤ X.n := by
  have := cn_le (q := fun i => decide (σ.2.2 7007 96 i = 1)) X.n.toNat
  have := hX.1
  rw [h.2.2.2.1]
  omega
theorem s113 {y : Int} (hX : okX nl X) (hn : σ.1 7000 96 = X.n) (h : bfI σ0 σ X x) (y0 : 0 ≤ y) (y1 : y < X.n) (hy : snS X y) (hQ : ∀ σ', bfI σ0 σ' X x → σ'.2.2 7007 96 y = 1 → (∀ i, σ.2.2 7007 96 i = 1 → σ'.2.2 7007 96 i = 1) → (∀ j, j < σ.1 7009 96 → σ'.2.2 7008 96 j = σ.2.2 7008 96 j) → σ.1 7009 96 ≤ σ'.1 7009 96 → Q none σ') : j3_tc false (d + 2) 113 [wO 7 96, wI y] σ Q := by
  have hb := h.c hX
  have hm := hX.1
  obtain ⟨h1, h2, h3, h4, h5⟩ := id h
  rw [e113, b113_0, s112 hn]
  simp only [Option.toList_some, List.cons_append, List.nil_append]
  have : (decide (0 ≤ y) && decide (y < X.n)) = true := by simp; omega
  rw [this, b113_3, if_neg (show ¬ b2i true = 0 by decide)]
  refine ⟨by omega, ?_⟩
  rcases h2 y y0 y1 with g | ⟨g, -⟩
  · have lt : σ.1 7009 96 < X.n := by
      have := cn_1 (q := fun i => decide (σ.2.2 7007 96 i = 1)) (q' := fun _ => true) (fun _ _ _ => rfl) (z := y) y0 (by simp [g]) rfl X.n.toNat (by omega)
      have l2 := cn_le (q := fun _ => true) X.n.toNat
      rw [h4]; omega
    rw [if_pos g, wr_id (by omega) (by omega)]
    refine ⟨by omega, by omega, ?_⟩
    generalize hσ' : ((j3_up σ.1 7009 96 (σ.1 7009 96 + 1), σ.2.1, j3_ast (j3_ast σ.2.2 7007 96 y 1) 7008 96 (σ.1 7009 96) y) : j3_S) = σ1
    have e7 : ∀ i, σ1.2.2 7007 96 i = if i = y then 1 else σ.2.2 7007 96 i := fun i => by
      rw [← hσ']
      simp only [j3_ast, up_e (show ((7007 : Nat) == 7008) = false from rfl), up_r, i_up]
    have e8 : ∀ j, σ1.2.2 7008 96 j = if j = σ.1 7009 96 then y else σ.2.2 7008 96 j := fun j => by
      rw [← hσ']
      simp only [j3_ast, up_e (show ((7008 : Nat) == 7007) = false from rfl), up_r, i_up]
    have e9 : σ1.1 7009 96 = σ.1 7009 96 + 1 := by rw [← hσ']; simp only [up_r]
    have mono : ∀ i, σ.2.2 7007 96 i = 1 → σ1.2.2 7007 96 i = 1 := fun i hi => by
      rw [e7]
      split
      · rfl
      · exact hi
    refine hQ σ1 ⟨by rw [← hσ']; exact h1.tr (frm.I rfl (frm.A rfl (frm.A rfl frm.rf))), fun i i0 i1 => ?_, fun j j0 j1 => ?_, ?_, fun j j0 j1 => ?_⟩ (by rw [e7, if_pos rfl]) mono (fun j hj => by rw [e8, if_neg (by omega)]) (by omega)
    · rw [e7]
      by_cases gi : i = y
      · rw [if_pos gi]
        exact Or.inr ⟨rfl, by rw [gi]; exact hy, σ.1 7009 96, by omega, by omega, by rw [e8, if_pos rfl, gi]⟩
      · rw [if_neg gi]
        rcases h2 i i0 i1 with q | ⟨q1, q2, j, j0, j1, j2⟩
        · exact Or.inl q
        · exact Or.inr ⟨q1, q2, j, j0, by omega, by rw [e8, if_neg (by omega)]; exact j2⟩
    · rw [e9] at j1
      rw [e8]
      by_cases gj : j = σ.1 7009 96
      · rw [if_pos gj]; exact ⟨y0, y1, by rw [e7, if_pos rfl]⟩
      · rw [if_neg gj]
        obtain ⟨q1, q2, q3⟩ := h3 j j0 (by omega)
        exact ⟨q1, q2, mono _ q3⟩
    · have c1 : ∀ k : Nat, (k : Int) ≤ y → cnB (fun i => decide (σ1.2.2 7007 96 i = 1)) k = cnB (fun i => decide (σ.2.2 7007 96 i = 1)) k := by
        intro k
        induction k with
        | zero => intro _; rfl
        | succ k ih =>
          intro hk
          show cnB _ k + (if decide (σ1.2.2 7007 96 k = 1) = true then 1 else 0) = cnB _ k + (if decide (σ.2.2 7007 96 k = 1) = true then 1 else 0)
          rw [ih (by omega), e7 k, if_neg (show ¬ (k : Int) = y by omega)]
      have c2 : ∀ k : Nat, y < k → cnB (fun i => decide (σ1.2.2 7007 96 i = 1)) k = cnB (fun i => decide (σ.2.2 7007 96 i = 1)) k + 1 := by
        intro k
        induction k with
        | zero => intro h; omega
        | succ k ih =>
          intro hk
          have s1 : cnB (fun i => decide (σ1.2.2 7007 96 i = 1)) (k + 1) = cnB (fun i => decide (σ1.2.2 7007 96 i = 1)) k + (if decide (σ1.2.2 7007 96 k = 1) = true then 1 else 0) := rfl
          have s2 : cnB (fun i => decide (σ.2.2 7007 96 i = 1)) (k + 1) = cnB (fun i => decide (σ.2.2 7007 96 i = 1)) k + (if decide (σ.2.2 7007 96 k = 1) = true then 1 else 0) := rfl
          rw [s1, s2]
          by_cases gk : (k : Int) = y
          · rw [c1 k (by omega), e7, if_pos gk, gk, g]
            simp
          · rw [ih (by omega), e7, if_neg gk]; omega
      rw [e9, h4, c2 X.n.toNat (by omega)]
      omega
    · obtain ⟨q0, q1, q2⟩ := h5 j j0 j1
      rw [e8, if_neg (by omega)]
      exact ⟨by omega, fun z => mono _ (q1 z), fun z => mono _ (q2 z)⟩
  · rw [if_neg (by omega)]
    exact hQ σ h g (fun _ q => q) (fun _ _ => rfl) (Int.le_refl _)
theorem l111b (hX : okX nl X) (hS : SOk P m nl W X F) (hx0 : xC σ0 X) : ∀ (k x : Nat) (w2 : j3_W) (σ : j3_S), (x : Int) + k = X.n → bfI σ0 σ X x → σ.2.2 7007 96 0 = 1 → (x : Int) ≤ σ.1 7009 96 → (∀ σ' , bfI σ0 σ' X (σ'.1 7009 96) → σ'.2.2 7007 96 0 = 1 → Q none σ') → T111 (d + 2) Q 69 [wO 7 96, wI x, w2] [] σ
  | 0, x, w2, σ, hk, h, h0, hx, hQ => by
    have hb := h.c hX
    have e : σ.1 7009 96 = x := by omega
    rw [b111_69, if_neg (by omega)]
    refine hQ σ ?_ h0
    rw [e]; exact h
  | k + 1, x, w2, σ, hk, h, h0, hx, hQ => by
    have hb := h.c hX
    have hn := hX.1
    by_cases g : (x : Int) < σ.1 7009 96
    · obtain ⟨q1, q2, q3⟩ := h.2.2.1 x (by omega) g
      have hx1 : ∀ σ1 y, bfI σ0 σ1 X y → xC σ1 X := fun σ1 y h1 => hx0.fr h1.1 rfl rfl
      generalize hi : σ.2.2 7008 96 x = i at q1 q2 q3
      have op1 : ∀ σ1 y, bfI σ0 σ1 X y → σ1.2.2 7002 96 i = X.op i ∧ σ1.2.2 7003 96 i = X.a i := fun σ1 y h1 => ⟨((hx1 σ1 y h1).2 i q1 q2).1, ((hx1 σ1 y h1).2 i q1 q2).2.1⟩
      have sn : snS X i := by
        rcases h.2.1 i q1 q2 with z | ⟨-, z, -⟩
        · omega
        · exact z
      have ty := sn_ty hS (snB_i.mpr sn)
      have last : ∀ σ2, bfI σ0 σ2 X x → σ2.2.2 7007 96 0 = 1 → (x : Int) < σ2.1 7009 96 → σ2.2.2 7008 96 x = i → (gon (X.op i) = true → σ2.2.2 7007 96 (i + 1) = 1) → (isj (X.op i) = true → σ2.2.2 7007 96 (X.a i) = 1) → T111 (d + 2) Q 104 [wO 7 96, wI x, wI i] [] σ2 := by
        intro σ2 h2 v2 l2 e2 g1 g2
        rw [b111_104, wr_id (by omega) (by omega)]
        refine l111b hX hS hx0 k (x + 1) _ σ2 (by omega) ⟨h2.1, h2.2.1, h2.2.2.1, h2.2.2.2.1, fun j j0 j1 => ?_⟩ v2 (by omega) hQ
        by_cases gj : j = x
        · rw [gj, e2]; exact ⟨l2, g1, g2⟩
        · exact h2.2.2.2.2 j j0 (by omega)
      have mid : ∀ σ1, bfI σ0 σ1 X x → σ1.2.2 7007 96 0 = 1 → (x : Int) < σ1.1 7009 96 → σ1.2.2 7008 96 x = i → (gon (X.op i) = true → σ1.2.2 7007 96 (i + 1) = 1) → T111 (d + 2) Q 92 [wO 7 96, wI x, wI i] [] σ1 := by
        intro σ1 h1 v1 l1 e1 g1
        rw [b111_92, (op1 σ1 _ h1).1, s151]
        refine ⟨by omega, ?_⟩
        simp only [Option.toList_some, List.cons_append, List.nil_append]
        rw [b111_97, (op1 σ1 _ h1).2]
        cases gj : isj (X.op i)
        · rw [if_pos (show b2i false = 0 from rfl)]
          exact last σ1 h1 v1 l1 e1 g1 (fun z => by rw [gj] at z; cases z)
        · rw [if_neg (show ¬ b2i true = 0 by decide)]
          obtain ⟨t1, t2, t3⟩ := hS.tg q1 q2 ty gj
          refine ⟨by omega, s113 hX (hx1 σ1 _ h1).1 h1 t1 t2 (fun V hV => hV.2.2 i q1 q2 (sn V hV) gj) (fun σ2 h2 m1 m2 m3 m4 => ?_)⟩
          simp only [Option.toList_none, List.nil_append]
          exact last σ2 h2 (m2 _ v1) (by omega) (by rw [m3 x l1]; exact e1) (fun z => m2 _ (g1 z)) (fun _ => m1)
      rw [b111_69, if_pos g, if_pos (by omega), hi, (op1 σ _ h).1, s152]
      refine ⟨by omega, by omega, ?_⟩
      simp only [Option.toList_some, List.cons_append, List.nil_append]
      rw [b111_86]
      cases gg : gon (X.op i)
      · rw [if_pos (show b2i false = 0 from rfl)]
        exact mid σ h h0 g hi (fun z => by rw [gg] at z; cases z)
      · rw [if_neg (show ¬ b2i true = 0 by decide), wr_id (by omega) (by omega)]
        obtain ⟨t1, t2, -⟩ := hS.nx q1 q2 ty gg
        refine s113 hX (hx1 σ _ h).1 h (by omega) t1 (fun V hV => hV.2.1 i q1 q2 (sn V hV) gg) (fun σ2 h2 m1 m2 m3 m4 => ?_)
        simp only [Option.toList_none, List.nil_append]
        exact mid σ2 h2 (m2 _ h0) (by omega) (by rw [m3 x g]; exact hi) (fun _ => m1)
    · rw [b111_69, if_neg g]
      refine hQ σ ?_ h0
      rw [show σ.1 7009 96 = x by omega]
      exact h
theorem s111 (hX : okX nl X) (h20 : nl ≤ 20) (hS : SOk P m nl W X F) (hx : xC σ X) (hQ : ∀ σ', frm [7009] [7007, 7008, 7010, 7011] σ σ' → svC σ' X → Q none σ') : j3_tc false (d + 3) 111 [wO 7 96] σ Q := by
  have hn := hX.1
  rw [e111, b111_0, s248 (n := 120) rfl rfl rfl (by omega)]
  simp only [Option.toList_none, List.nil_append]
  rw [b111_4, s248 (n := 120) rfl rfl rfl (by omega)]
  simp only [Option.toList_none, List.nil_append]
  rw [b111_8, s248 (n := 20) rfl rfl rfl (by omega)]
  simp only [Option.toList_none, List.nil_append]
  rw [b111_12]
  generalize hσ1 : ((σ.1, σ.2.1, j3_up (j3_up (j3_up σ.2.2 7007 96 (i_fl (σ.2.2 7007 96) 0 120 0)) 7010 96 (i_fl (j3_up σ.2.2 7007 96 (i_fl (σ.2.2 7007 96) 0 120 0) 7010 96) 0 120 0)) 7011 96 (i_fl (j3_up (j3_up σ.2.2 7007 96 (i_fl (σ.2.2 7007 96) 0 120 0)) 7010 96 (i_fl (j3_up σ.2.2 7007 96 (i_fl (σ.2.2 7007 96) 0 120 0) 7010 96) 0 120 0) 7011 96) 0 20 0)) : j3_S) = σ1
  have f1 : frm [] [7007, 7010, 7011] σ σ1 := by rw [← hσ1]; exact frm.A rfl (frm.A rfl (frm.A rfl frm.rf))
  have z7 : ∀ i, 0 ≤ i → i < 120 → σ1.2.2 7007 96 i = 0 := fun i i0 i1 => by
    rw [← hσ1]
    simp only [up_e (show ((7007 : Nat) == 7011) = false from rfl), up_e (show ((7007 : Nat) == 7010) = false from rfl), up_r, i_fl]
    rw [if_pos (by omega)]
  have z10 : ∀ i, 0 ≤ i → i < 120 → σ1.2.2 7010 96 i = 0 := fun i i0 i1 => by
    rw [← hσ1]
    simp only [up_e (show ((7010 : Nat) == 7011) = false from rfl), up_r, i_fl]
    rw [if_pos (by omega)]
  have z11 : ∀ i, 0 ≤ i → i < 20 → σ1.2.2 7011 96 i = 0 := fun i i0 i1 => by
    rw [← hσ1]
    simp only [up_r, i_fl]
    rw [if_pos (by omega)]
  have x1 : xC σ1 X := hx.fr f1 rfl rfl
  refine l111a (σ0 := σ1) hX h20 X.n.toNat 0 σ1 (by omega) frm.rf x1 (fun t t0 t1 => z10 t t0 (by omega)) (fun t t0 t1 => z11 t t0 t1) (fun σ2 f2 x2 a10 a11 => ?_)
  generalize hσ3 : ((j3_up σ2.1 7009 96 0, σ2.2.1, σ2.2.2) : j3_S) = σ3
  have f3 : frm [7009] [] σ2 σ3 := by rw [← hσ3]; exact frm.I rfl frm.rf
  have n3 : σ3.1 7009 96 = 0 := by rw [← hσ3]; simp only [up_r]
  have x3 : xC σ3 X := x2.fr f3 rfl rfl
  have s7 : ∀ i, 0 ≤ i → i < X.n → σ3.2.2 7007 96 i = 0 := fun i i0 i1 => by
    rw [f3.2.2 7007 96 rfl, f2.2.2 7007 96 rfl]; exact z7 i i0 (by omega)
  have c0 : ∀ k : Nat, (k : Int) ≤ X.n → cnB (fun i => decide (σ3.2.2 7007 96 i = 1)) k = 0 := by
    intro k
    induction k with
    | zero => intro _; rfl
    | succ k ih =>
      intro hk
      show cnB _ k + (if decide (σ3.2.2 7007 96 k = 1) = true then 1 else 0) = 0
      rw [ih (by omega), s7 k (by omega) (by omega)]
      rfl
  have b0 : bfI σ3 σ3 X 0 := ⟨frm.rf, fun i i0 i1 => Or.inl (s7 i i0 i1), fun j j0 j1 => absurd j1 (by omega), by rw [n3, c0 _ (by omega)]; rfl, fun j j0 j1 => absurd j1 (by omega)⟩
  refine s113 hX x3.1 b0 (by omega) (by omega) (fun V hV => hV.1) (fun σ4 h4 m1 _ _ m4 => ?_)
  simp only [Option.toList_none, List.nil_append]
  rw [b111_67]
  refine l111b hX hS x3 X.n.toNat 0 _ σ4 (by omega) h4 m1 (by have := h4.c hX; omega) (fun σ5 h5 v5 => hQ σ5 ?_ ⟨fun i i0 i1 => ?_, fun t t0 t1 => ?_, fun t t0 t1 => ?_⟩)
  · exact (f1.wd (fun _ _ => rfl) (sub_el rfl)).tr ((f2.wd (fun _ _ => rfl) (sub_el rfl)).tr ((f3.wd (fun _ h => h) (sub_el rfl)).tr (h5.1.wd (fun _ h => h) (sub_el rfl))))
  · have h5' := h5
    obtain ⟨-, q2, q3, q4, q5⟩ := h5
    constructor
    · intro hz
      cases g : snB X i
      · rfl
      · have := snB_i.mp g (fun j => decide (0 ≤ j) && decide (j < X.n) && decide (σ5.2.2 7007 96 j = 1)) ⟨by simp [v5]; omega, fun j j0 j1 hj hg => ?_, fun j j0 j1 hj hg => ?_⟩
        · simp [hz] at this
        · simp at hj
          rcases q2 j j0 j1 with z | ⟨z1, z2, jj, w0, w1, w2⟩
          · omega
          · have ty := sn_ty hS (snB_i.mpr z2)
            have nx := hS.nx j0 j1 ty hg
            have := (q5 jj w0 w1).2.1
            rw [w2] at this
            simp [this hg]; omega
        · simp at hj
          rcases q2 j j0 j1 with z | ⟨z1, z2, jj, w0, w1, w2⟩
          · omega
          · have ty := sn_ty hS (snB_i.mpr z2)
            have tg := hS.tg j0 j1 ty hg
            have := (q5 jj w0 w1).2.2
            rw [w2] at this
            simp [this hg]; omega
    · intro g
      rcases q2 i i0 i1 with z | ⟨z1, z2, -⟩
      · exact z
      · rw [snB_i.mpr z2] at g; cases g
  · rw [h5.1.2.2 7010 96 rfl, f3.2.2 7010 96 rfl, a10 t t0 t1]
    unfold jtS
    rw [← cn_any]
    omega
  · rw [h5.1.2.2 7011 96 rfl, f3.2.2 7011 96 rfl, a11 t t0 t1]
    unfold ldS
    rw [← cn_any]
    omega
end CSV
