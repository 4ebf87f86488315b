/-! the class's run: trace, places told back -/
def eV (M : Mc) : Int := if M.en = -1 then 2 else M.en
def tC (M : Mc) : Int := if M.en = 1 then M.dp else 0
def tV (M : Mc) (i : Int) : Int := 1000 * M.me (M.dp - 1 - i) + M.pc (M.dp - 1 - i)
def bkS (w v1 v2 : Int → Int) : Nat → Int × (Int → Int)
  | 0 => (0, fun _ => 0)
  | k + 1 => if w k = 0 then bkS w v1 v2 k else if w k = 1 then ((bkS w v1 v2 k).1 + 1, i_up (bkS w v1 v2 k).2 (bkS w v1 v2 k).1 (v1 k)) else ((bkS w v1 v2 k).1 + 2, i_up (i_up (bkS w v1 v2 k).2 (bkS w v1 v2 k).1 (v1 k)) ((bkS w v1 v2 k).1 + 1) (v2 k))
section CRUN
variable {σ σ' τ : j3_S} {d o : Nat} {Q : j3_P} {k i j v : Int} {w v1 v2 : Int → Int}
theorem bkS_b : ∀ k : Nat, 0 ≤ (bkS w v1 v2 k).1 ∧ (bkS w v1 v2 k).1 ≤ 2 * k
  | 0 => ⟨Int.le_refl 0, Int.le_refl 0⟩
  | k + 1 => by
    have := bkS_b k
    unfold bkS
    split
    · omega
    · split
      · show 0 ≤ (bkS w v1 v2 k).1 + 1 ∧ (bkS w v1 v2 k).1 + 1 ≤ _
        omega
      · show 0 ≤ (bkS w v1 v2 k).1 + 2 ∧ (bkS w v1 v2 k).1 + 2 ≤ _
        omega
theorem dv_1 {a b : Int} (a0 : 0 ≤ a) (a1 : a < 80) (b0 : 0 ≤ b) (b1 : b < 1000) : i_dv (1000 * a + b) 1000 = a := by
  unfold i_dv
  rw [Int32.toInt_div]
  have e1 : (Int32.ofInt (1000 * a + b)).toInt = 1000 * a + b := wr_id (by omega) (by omega)
  have e2 : (Int32.ofInt 1000).toInt = 1000 := wr_id (by omega) (by omega)
  rw [e1, e2, Int.tdiv_eq_ediv_of_nonneg (by omega), show (1000 * a + b) / 1000 = a by omega]
  unfold Int.bmod
  dsimp only
  split <;> omega
theorem rm_1 {a b : Int} (a0 : 0 ≤ a) (a1 : a < 80) (b0 : 0 ≤ b) (b1 : b < 1000) : i_rm (1000 * a + b) 1000 = b := by
  have h := dv_1 a0 a1 b0 b1
  unfold i_dv at h
  unfold i_rm
  rw [Int32.toInt_sub, Int32.toInt_mul, h]
  have e1 : (Int32.ofInt (1000 * a + b)).toInt = 1000 * a + b := wr_id (by omega) (by omega)
  have e2 : (Int32.ofInt 1000).toInt = 1000 := wr_id (by omega) (by omega)
  rw [e1, e2]
  have : (a * 1000).bmod (2 ^ 32) = a * 1000 := by
    unfold Int.bmod
    dsimp only
    split <;> omega
  rw [this, show 1000 * a + b - a * 1000 = b by omega]
  unfold Int.bmod
  dsimp only
  split <;> omega
/-- the trace -/
theorem l21 {D : Int} {me pc : Int → Int} (hD : D ≤ 40) (hb : ∀ k, 0 ≤ k → k < D → 0 ≤ me k ∧ me k < 80 ∧ 0 ≤ pc k ∧ pc k < 120) : ∀ (n : Nat) (x : Int) (w2 : j3_W) (σ : j3_S), x + n = D → 0 ≤ x → σ.1 2007 109 = D → (∀ k, 0 ≤ k → k < D → σ.2.2 2008 109 k = me k ∧ σ.2.2 2009 109 k = pc k) → (∀ σ', frm [] [2003] σ σ' → (∀ i, 0 ≤ i → i < D → σ'.2.2 2003 109 i = if i < x then σ.2.2 2003 109 i else 1000 * me (D - 1 - i) + pc (D - 1 - i)) → Q none σ') → T21 d Q 8 [wO 2 109, wI x, w2] [] σ
  | 0, x, w2, σ, h, x0, hI, hm, hQ => by
    rw [b21_8, hI, if_neg (by omega)]
    refine hQ σ frm.rf (fun i i0 i1 => ?_)
    rw [if_pos (by omega)]
  | n + 1, x, w2, σ, h, x0, hI, hm, hQ => by
    have hb1 := hb (D - 1 - x) (by omega) (by omega)
    obtain ⟨m1, m2⟩ := hm (D - 1 - x) (by omega) (by omega)
    rw [b21_8, hI, if_pos (by omega), wr_id (z := D - 1) (by omega) (by omega), wr_id (z := D - 1 - x) (by omega) (by omega), wr_id (z := x + 1) (by omega) (by omega), m1, m2, wr_id (z := me (D - 1 - x) * 1000) (by omega) (by omega), wr_id (z := me (D - 1 - x) * 1000 + pc (D - 1 - x)) (by omega) (by omega)]
    refine ⟨by omega, by omega, by omega, l21 hD hb n (x + 1) _ _ (by omega) (by omega) hI (fun k k0 k1 => ?_) (fun σ' f E => ?_)⟩
    · simp only [j3_ast, up_e (show ((2008 : Nat) == 2003) = false from rfl), up_e (show ((2009 : Nat) == 2003) = false from rfl)]
      exact hm k k0 k1
    · refine hQ σ' ((frm.A (o := 109) (e := 2003) rfl frm.rf : frm [] [2003] σ (σ.1, σ.2.1, j3_ast σ.2.2 2003 109 x _)).tr f) (fun i i0 i1 => ?_)
      rw [E i i0 i1]
      simp only [j3_ast, up_r, i_up]
      by_cases g : i < x
      · rw [if_pos (by omega), if_neg (by omega), if_pos g]
      · rw [if_neg g]
        by_cases g2 : i = x
        · rw [if_pos (by omega), if_pos g2, g2]; omega
        · rw [if_neg (by omega)]
theorem s23 {n x : Int} (hn : σ.2.2 2001 109 7 = n) (n0 : 0 ≤ n) (n1 : n < 80) : j3_tc false (d + 1) 23 [wO 2 109, wI x] σ Q = if x = -1 then Q none σ else Q none (σ.1, σ.2.1, j3_ast (j3_ast σ.2.2 2004 109 n x) 2001 109 7 (n + 1)) := by
  rw [e23, b23_0, hn]
  by_cases g : x = -1
  · rw [if_pos g, if_pos g]
  · rw [if_neg g, if_neg g, if_pos n1, wr_id (by omega) (by omega)]
    exact propext ((and_iff_right (by omega)).trans ((and_iff_right (by omega)).trans ((and_iff_right (by omega)).trans ((and_iff_right (by omega)).trans (and_iff_right (by omega))))))
/-- what is told back so far -/
def bkC (σ0 σ : j3_S) (S : Int × (Int → Int)) : Prop := frm [] [2001, 2004] σ0 σ ∧ (∀ i, ¬ i = 7 → σ.2.2 2001 109 i = σ0.2.2 2001 109 i) ∧ σ.2.2 2001 109 7 = S.1 ∧ ∀ i, 0 ≤ i → i < S.1 → σ.2.2 2004 109 i = S.2 i
theorem bkC.ap {σ0 : j3_S} {S : Int × (Int → Int)} (h : bkC σ0 σ S) (s0 : 0 ≤ S.1) : bkC σ0 (σ.1, σ.2.1, j3_ast (j3_ast σ.2.2 2004 109 S.1 v) 2001 109 7 (S.1 + 1)) (S.1 + 1, i_up S.2 S.1 v) := by
  obtain ⟨h1, h2, h3, h4⟩ := h
  refine ⟨h1.tr (frm.A rfl (frm.A rfl frm.rf)), fun i hi => ?_, ?_, fun i i0 i1 => ?_⟩
  · simp only [j3_ast, up_r, i_up, if_neg hi, up_e (show ((2001 : Nat) == 2004) = false from rfl)]
    exact h2 i hi
  · simp only [j3_ast, up_r, i_up, if_true]
  · have i1 : i < S.1 + 1 := i1
    simp only [j3_ast, up_r, i_up, up_e (show ((2004 : Nat) == 2001) = false from rfl)]
    by_cases g : i = S.1
    · rw [if_pos g, if_pos g]
    · rw [if_neg g, if_neg g]
      exact h4 i i0 (by omega)
theorem l22 {x1 D : Int} {me pc : Int → Int} {σ0 : j3_S} (hD : D ≤ 40) (h4 : σ0.2.2 2001 109 4 = D) (hb : ∀ k, 0 ≤ k → k < D → 0 ≤ me k ∧ me k < 80 ∧ 0 ≤ pc k ∧ pc k < 120 ∧ σ0.2.2 2003 109 k = 1000 * me k + pc k) (hg : x1 = 0 → ∀ k, 0 ≤ k → k < D → w k = 1 ∧ v1 k = 1000 * me k + pc k) (hs : ¬ x1 = 0 → ∀ k, 0 ≤ k → k < D → (w k = 0 ∧ σ0.2.2 6003 83 (me k * 120 + pc k) = -1 ∧ σ0.2.2 6004 83 (me k * 120 + pc k) = -1) ∨ (w k = 1 ∧ σ0.2.2 6003 83 (me k * 120 + pc k) = v1 k ∧ 0 ≤ v1 k ∧ σ0.2.2 6004 83 (me k * 120 + pc k) = -1) ∨ (w k = 2 ∧ σ0.2.2 6003 83 (me k * 120 + pc k) = v1 k ∧ 0 ≤ v1 k ∧ σ0.2.2 6004 83 (me k * 120 + pc k) = v2 k ∧ 0 ≤ v2 k)) : ∀ (n k : Nat) (w5 : j3_W) (σ : j3_S), (k : Int) + n = D → bkC σ0 σ (bkS w v1 v2 k) → (∀ σ', bkC σ0 σ' (bkS w v1 v2 (k + n)) → Q none σ') → T22 (d + 1) Q 7 [wO 2 109, wI x1, wA 6003 83, wA 6004 83, wI k, w5] [] σ
  | 0, k, w5, σ, hk, hB, hQ => by
    rw [b22_7, hB.2.1 4 (by decide), h4, if_neg (by omega)]
    exact ⟨by omega, hQ σ hB⟩
  | n + 1, k, w5, σ, hk, hB, hQ => by
    have hb1 := hb k (by omega) (by omega)
    have hz := bkS_b (w := w) (v1 := v1) (v2 := v2) k
    have e3 : σ.2.2 2003 109 k = 1000 * me k + pc k := by rw [hB.1.2.2 2003 109 rfl]; exact hb1.2.2.2.2
    have go : ∀ (w5 : j3_W) (σ1 : j3_S), bkC σ0 σ1 (bkS w v1 v2 (k + 1)) → T22 (d + 1) Q 48 [wO 2 109, wI x1, wA 6003 83, wA 6004 83, wI k, w5] [] σ1 := by
      intro w5 σ1 h1
      rw [b22_48, wr_id (by omega) (by omega)]
      exact l22 hD h4 hb hg hs n (k + 1) w5 σ1 (by omega) h1 (fun σ' h => hQ σ' (by rw [show k + (n + 1) = k + 1 + n by omega]; exact h))
    rw [b22_7, hB.2.1 4 (by decide), h4, if_pos (by omega)]
    refine ⟨by omega, ?_⟩
    by_cases g : x1 = 0
    · rw [if_pos g, e3, s23 hB.2.2.1 hz.1 (by omega), if_neg (by omega)]
      refine ⟨by omega, ?_⟩
      obtain ⟨q1, q2⟩ := hg g k (by omega) (by omega)
      simp only [Option.toList_none, List.nil_append]
      rw [b22_21]
      refine go _ _ ?_
      have : bkS w v1 v2 (k + 1) = ((bkS w v1 v2 k).1 + 1, i_up (bkS w v1 v2 k).2 (bkS w v1 v2 k).1 (v1 k)) := by
        show (if w k = 0 then _ else _) = _
        rw [if_neg (by omega), if_pos q1]
      rw [this, q2]
      exact hB.ap hz.1
    · have e6 : ∀ (σ1 : j3_S) S, bkC σ0 σ1 S → σ1.2.2 6003 83 (me k * 120 + pc k) = σ0.2.2 6003 83 (me k * 120 + pc k) ∧ σ1.2.2 6004 83 (me k * 120 + pc k) = σ0.2.2 6004 83 (me k * 120 + pc k) := fun σ1 S h => by rw [h.1.2.2 6003 83 rfl, h.1.2.2 6004 83 rfl]; exact ⟨rfl, rfl⟩
      rw [if_neg g, e3, dv_1 hb1.1 hb1.2.1 hb1.2.2.1 (by omega), rm_1 hb1.1 hb1.2.1 hb1.2.2.1 (by omega), wr_id (z := me k * 120) (by omega) (by omega), wr_id (z := me k * 120 + pc k) (by omega) (by omega), (e6 σ _ hB).1, s23 hB.2.2.1 hz.1 (by omega)]
      refine ⟨by omega, by decide, by omega, by decide, by omega, ?_⟩
      simp only [Option.toList_none, List.nil_append]
      rcases hs g k (by omega) (by omega) with ⟨q1, q2, q3⟩ | ⟨q1, q2, q3, q4⟩ | ⟨q1, q2, q3, q4, q5⟩
      · have : bkS w v1 v2 (k + 1) = bkS w v1 v2 k := by
          show (if w k = 0 then _ else _) = _
          rw [if_pos q1]
        rw [if_pos q2, b22_43, (e6 σ _ hB).2, s23 hB.2.2.1 hz.1 (by omega), if_pos q3]
        refine ⟨by omega, go _ _ ?_⟩
        rw [this]
        exact hB
      · have : bkS w v1 v2 (k + 1) = ((bkS w v1 v2 k).1 + 1, i_up (bkS w v1 v2 k).2 (bkS w v1 v2 k).1 (v1 k)) := by
          show (if w k = 0 then _ else _) = _
          rw [if_neg (by omega), if_pos q1]
        rw [if_neg (by omega), q2]
        have hB' := hB.ap (v := v1 k) hz.1
        rw [b22_43, (e6 _ _ hB').2, s23 hB'.2.2.1 (by show 0 ≤ (bkS w v1 v2 k).1 + 1; omega) (by show (bkS w v1 v2 k).1 + 1 < 80; omega), if_pos q4]
        refine ⟨by omega, go _ _ ?_⟩
        rw [this]
        exact hB'
      · have : bkS w v1 v2 (k + 1) = ((bkS w v1 v2 k).1 + 2, i_up (i_up (bkS w v1 v2 k).2 (bkS w v1 v2 k).1 (v1 k)) ((bkS w v1 v2 k).1 + 1) (v2 k)) := by
          show (if w k = 0 then _ else _) = _
          rw [if_neg (by omega), if_neg (by omega)]
        rw [if_neg (by omega), q2]
        have hB' := hB.ap (v := v1 k) hz.1
        have z' : 0 ≤ ((bkS w v1 v2 k).1 + 1, i_up (bkS w v1 v2 k).2 (bkS w v1 v2 k).1 (v1 k)).1 := by show 0 ≤ (bkS w v1 v2 k).1 + 1; omega
        rw [b22_43, (e6 _ _ hB').2, s23 hB'.2.2.1 z' (by show (bkS w v1 v2 k).1 + 1 < 80; omega), if_neg (by omega), q4]
        refine ⟨by omega, go _ _ ?_⟩
        rw [this, show (bkS w v1 v2 k).1 + 2 = (bkS w v1 v2 k).1 + 1 + 1 by omega]
        exact hB'.ap (v := v2 k) z'
end CRUN
