/-! gathering in the class: what is bound, what is a leaf, whether there is room -/
def gbC (σ : j3_S) (o : Nat) (P : Pg) (T : Int → Fl) (R : Rs) (bud : Int) : Prop := (¬ o = 0 ∧ σ.2.1 5 = o ∧ σ.2.1 2 = o) ∧ CP σ o P ∧ (∀ m i, 0 ≤ m → m < P 3001 0 → 0 ≤ i → i < P 0 m → σ.2.2 4 (o + 17) (m * 120 + i) = (T m).1 i) ∧ mnC σ P ∧ (∀ c, 0 ≤ c → c < 10 → σ.2.2 4001 92 c = R.2.1 c) ∧ σ.1 6014 83 = bud
def bdV (P : Pg) (a : Int) (S : Int × Bool) : Int := if 0 ≤ S.1 ∧ S.2 = false ∧ cv P (P 3011 S.1) a = true then S.1 else -1
section CBND
variable {σ σ' : j3_S} {P : Pg} {T : Int → Fl} {R : Rs} {L : Int → Int} {m i u a b t bud op x : Int} {d o : Nat} {Q : j3_P}
theorem gbC.fr {li la : List Nat} (h : gbC σ o P T R bud) (hf : frm li la σ σ') (h1 : li.elem 3000 = false ∧ li.elem 3001 = false) (h1' : li.elem 6014 = false) (h2 : (∀ e, e ≤ 3 → la.elem e = false) ∧ ∀ e, 3002 ≤ e → e ≤ 3017 → la.elem e = false) (h3 : la.elem 4 = false ∧ la.elem 4001 = false ∧ la.elem 4002 = false) : gbC σ' o P T R bud := by
  obtain ⟨⟨a1, a2, a3⟩, a4, a5, a6, a7, a8⟩ := h
  refine ⟨⟨a1, by rw [hf.1]; exact a2, by rw [hf.1]; exact a3⟩, a4.fr hf h1 h2, fun m i m0 m1 i0 i1 => by rw [hf.2.2 4 _ h3.1]; exact a5 m i m0 m1 i0 i1, fun d t d0 d1 t0 t1 => by rw [hf.2.2 4002 _ h3.2.2]; exact a6 d t d0 d1 t0 t1, fun c c0 c1 => by rw [hf.2.2 4001 _ h3.2.1]; exact a7 c c0 c1, by rw [hf.2.1 6014 _ h1']; exact a8⟩
theorem bdF_m : ∀ (n : Nat) (x : Int) (S : Int × Bool), S.2 = true → (bdF P L a t n x S).2 = true
  | 0, _, _, h => h
  | n + 1, x, S, h => by
    unfold bdF
    refine bdF_m n (x + 1) _ ?_
    by_cases g : L x = 1 ∧ cv P a x = true
    · rw [if_pos g]; show (S.2 || _) = true; rw [h]; rfl
    · rw [if_neg g]; exact h
theorem l62 (hB : gbC σ o P T R bud) (hg : good P) (a0 : 0 ≤ a) (a1 : a < P 3000 0) (b0 : 0 ≤ b) (b1 : b < P 3006 a) : ∀ (n : Nat) (x3 x2 : Int) (w4 : j3_W), x3 + n = P 3000 0 → 0 ≤ x3 → (x2 = -1 ∨ (0 ≤ x2 ∧ x2 < P 3001 0)) → Q (some (wI (bdV P a (bdF P R.2.1 a (P 3007 a + b) n x3 (x2, false))))) σ → T62 (d + 1) Q 4 [wO 4 92, wI (P 3007 a + b), wI x2, wI x3, w4] [] σ
  | 0, x3, x2, w4, hx, x0, h2, hQ => by
    obtain ⟨⟨h1, -, h3⟩, hC, -, hM, hL, -⟩ := hB
    have hm := hg.1.2.1.2.2 a a0 a1
    have hm80 := hg.1.2.1.2.1
    have how : P 3011 (P 3007 a + b) = a := (hg.2.1 a a0 a1).2 b b0 b1
    rw [b62_4, h3, hC.1, if_neg (show ¬ x3 < P 3000 0 by omega)]
    refine ⟨h1, ?_⟩
    have hQ' : Q (some (wI (if 0 ≤ x2 ∧ false = false ∧ cv P (P 3011 x2) a = true then x2 else -1))) σ := hQ
    by_cases g : x2 = -1
    · rw [if_pos g]
      rw [if_neg (by omega)] at hQ'
      exact hQ'
    · rw [if_neg g]
      have h2' : 0 ≤ x2 ∧ x2 < P 3001 0 := by omega
      refine ⟨h1, h1, by omega, h1, by omega, ?_⟩
      have e1 := (hC.2.2.2 x2 h2'.1 h2'.2).1.1
      have e2 := (hC.2.2.2 (P 3007 a + b) (by omega) (by omega)).1.1
      rw [e1, e2, how, s48 hC hg.1.1 (by omega) a1]
      simp only [Option.toList_some, List.cons_append, List.nil_append]
      rw [b62_55]
      by_cases gc : cv P (P 3011 x2) a = true
      · have gc' : cov P (P 3011 x2) 10 a = true := gc
        rw [gc', if_neg (by decide)]
        rw [if_pos ⟨by omega, rfl, gc⟩] at hQ'
        exact hQ'
      · have gc' : cov P (P 3011 x2) 10 a = false := by simpa using (show ¬ cov P (P 3011 x2) 10 a = true from gc)
        rw [gc', if_pos (by rfl)]
        rw [if_neg (fun q => gc q.2.2)] at hQ'
        exact hQ'
  | n + 1, x3, x2, w4, hx, x0, h2, hQ => by
    obtain ⟨⟨h1, -, h3⟩, hC, -, hM, hL, -⟩ := id hB
    have hm := hg.1.2.1.2.2 a a0 a1
    have hm80 := hg.1.2.1.2.1
    have hc10 := hg.1.1.2.1
    have how : P 3011 (P 3007 a + b) = a := (hg.2.1 a a0 a1).2 b b0 b1
    rw [b62_4, h3, hC.1, if_pos (show x3 < P 3000 0 by omega), wr_id (z := x3 * 80) (by omega) (by omega), wr_id (by omega) (by omega), hM x3 (P 3007 a + b) x0 (by omega) (by omega) (by omega), how, hL x3 x0 (by omega)]
    refine ⟨h1, by omega, by omega, ?_⟩
    have e : bdF P R.2.1 a (P 3007 a + b) (n + 1) x3 (x2, false) = bdF P R.2.1 a (P 3007 a + b) n (x3 + 1) (if R.2.1 x3 = 1 ∧ cv P a x3 = true then (fnd P (P 3012 (P 3007 a + b)) 10 x3, false || (decide (0 ≤ x2) && !decide (x2 = fnd P (P 3012 (P 3007 a + b)) 10 x3))) else (x2, false)) := rfl
    rw [e] at hQ
    by_cases g1 : R.2.1 x3 = 1
    · rw [if_pos g1]
      by_cases g2 : cv P a x3 = true
      · have fr := fnd_r hg a0 a1 b0 b1 (c := x3) (by omega) g2
        rw [if_pos g2, if_neg (by omega)]
        rw [if_pos ⟨g1, g2⟩] at hQ
        generalize fnd P (P 3012 (P 3007 a + b)) 10 x3 = f at *
        by_cases g3 : x2 = -1
        · rw [if_pos g3, b62_35, b62_37, wr_id (by omega) (by omega)]
          have : (false || (decide (0 ≤ x2) && !decide (x2 = f))) = false := by simp [show ¬ 0 ≤ x2 by omega]
          rw [this] at hQ
          exact l62 hB hg a0 a1 b0 b1 n (x3 + 1) f _ (by omega) (by omega) (by omega) hQ
        · rw [if_neg g3]
          by_cases g4 : x2 = f
          · rw [if_pos g4, b62_35, b62_37, wr_id (by omega) (by omega)]
            have : (false || (decide (0 ≤ x2) && !decide (x2 = f))) = false := by simp [g4]
            rw [this] at hQ
            exact l62 hB hg a0 a1 b0 b1 n (x3 + 1) f _ (by omega) (by omega) (by omega) hQ
          · rw [if_neg g4]
            have : (false || (decide (0 ≤ x2) && !decide (x2 = f))) = true := by simp [g4, show 0 ≤ x2 by omega]
            rw [this] at hQ
            unfold bdV at hQ
            rw [if_neg (fun q => by rw [bdF_m n (x3 + 1) (f, true) rfl] at q; cases q.2.1)] at hQ
            exact hQ
      · rw [if_neg g2, if_pos rfl, b62_37, wr_id (by omega) (by omega)]
        rw [if_neg (fun q => g2 q.2)] at hQ
        exact l62 hB hg a0 a1 b0 b1 n (x3 + 1) x2 _ (by omega) (by omega) h2 hQ
    · rw [if_neg g1, b62_37, wr_id (by omega) (by omega)]
      rw [if_neg (fun q => g1 q.1)] at hQ
      exact l62 hB hg a0 a1 b0 b1 n (x3 + 1) x2 _ (by omega) (by omega) h2 hQ
theorem s62 (hB : gbC σ o P T R bud) (hg : good P) (a0 : 0 ≤ a) (a1 : a < P 3000 0) (b0 : 0 ≤ b) (b1 : b < P 3006 a) (hQ : Q (some (wI (bdS P R.2.1 a (P 3007 a + b)))) σ) : j3_tc false (d + 2) 62 [wO 4 92, wI (P 3007 a + b)] σ Q := by
  rw [e62, b62_0]
  have := hg.1.1.1
  exact l62 hB hg a0 a1 b0 b1 _ 0 (-1) _ (by omega) (by omega) (Or.inl rfl) hQ
theorem s81 (hB : gbC σ o P T R bud) (hg : good P) (u0 : 0 ≤ u) (u1 : u < P 3001 0) : j3_tc false (d + 1) 81 [wO 6 83, wI u] σ Q = Q (some (wI (P 3015 u + P 0 u - 2))) σ := by
  obtain ⟨⟨h1, h2, -⟩, hC, -⟩ := hB
  have := hg.1.2.1.2.1
  obtain ⟨-, -, -, q4, -, q6, -⟩ := hg.1.2.2.2 u u0 u1
  obtain ⟨c1, -⟩ := hC.2.2.2 u u0 u1
  rw [e81, b81_0, h2, c1.2.2.2.2.1, c1.2.2.2.2.2.2]
  simp (disch := omega) only [wr_id]
  simp [h1, u0, show u < 80 by omega]
theorem s84 : j3_tc false (d + 1) 84 [wO 6 83, wI x] σ Q = Q (some (wI (b2i (plnB x)))) σ := by
  rw [e84, b84_0]
  have t1 : ∀ z : Prop, (((1 : Int) = 0 ∨ (1 : Int) = 1) ∧ z) = z := fun z => by simp
  have t0 : ∀ z : Prop, (((0 : Int) = 0 ∨ (0 : Int) = 1) ∧ z) = z := fun z => by simp
  by_cases g1 : x ≤ 10
  · rw [if_neg (by omega), b84_15, t1]
    have : plnB x = true := by simp [plnB, g1]
    rw [this]; rfl
  · rw [if_pos (by omega)]
    by_cases g2 : 15 ≤ x ∧ x ≤ 19
    · rw [if_neg (by omega), if_neg (by omega), b84_15, t1]
      have : plnB x = true := by simp [plnB, g2]
      rw [this]; rfl
    · have nine : T84 d Q 9 [wO 6 83, wI x] [] σ = Q (some (wI (b2i (plnB x)))) σ := by
        rw [b84_9]
        by_cases g3 : 23 ≤ x ∧ x ≤ 25
        · rw [if_neg (by omega), if_neg (by omega), b84_15, t1]
          have : plnB x = true := by simp [plnB, g3]
          rw [this]; rfl
        · have : plnB x = false := by
            simp only [plnB, Bool.or_eq_false_iff, Bool.and_eq_false_iff, decide_eq_false_iff_not]; omega
          rw [this]
          by_cases g4 : x < 23
          · rw [if_pos g4, t0]; rfl
          · rw [if_neg g4, if_pos (by omega), t0]; rfl
      by_cases g3 : x < 15
      · rw [if_pos g3]; exact nine
      · rw [if_neg g3, if_pos (by omega)]; exact nine
end CBND
