/-! feed: the reference's side; both -/
theorem i_lo {x : Int} (h : -2147483648 ≤ x) : Int32.minValue.toInt ≤ x := by
  have e : Int32.minValue.toInt = -2147483648 := by decide
  rw [e]
  exact h
theorem i_hi {x : Int} (h : x ≤ 2147483647) : x ≤ Int32.maxValue.toInt := by
  have e : Int32.maxValue.toInt = 2147483647 := by decide
  rw [e]
  exact h
theorem dv_nn {x y : Int} (h0 : 0 ≤ x) (hx : x < 2147483648) (hy : 0 < y) (hy2 : y < 2147483648) : i_dv x y = x / y := by
  unfold i_dv
  rw [← Int32.ofInt_tdiv (i_lo (by omega)) (i_hi (by omega)) (i_lo (by omega)) (i_hi (by omega)), Int.tdiv_eq_ediv_of_nonneg h0]
  refine t_of ⟨?_, ?_⟩
  · have := Int.ediv_nonneg h0 (Int.le_of_lt hy)
    omega
  · have := Int.ediv_le_self y h0
    omega
theorem rm_nn {x y : Int} (h0 : 0 ≤ x) (hx : x < 2147483648) (hy : 0 < y) (hy2 : y < 2147483648) : i_rm x y = x % y := by
  unfold i_rm
  rw [← Int32.ofInt_tdiv (i_lo (by omega)) (i_hi (by omega)) (i_lo (by omega)) (i_hi (by omega)), Int.tdiv_eq_ediv_of_nonneg h0, ← Int32.ofInt_mul, ← Int32.ofInt_sub]
  have e1 : x - x / y * y = x % y := by
    rw [Int.emod_def, Int.mul_comm]
  rw [e1]
  have h1 := Int.emod_nonneg x (Int.ne_of_gt hy)
  have h2 := Int.emod_lt_of_pos x hy
  exact t_of ⟨by omega, by omega⟩
def fr5 (x1 x2 x3 x4 x5 k : Int) : Int := if k < 4 then x1 else if k < 8 then x2 else if k < 12 then x3 else if k < 16 then x4 else x5
def rowR (t : Int → Int) (n : Int) (g : Int → Int) : Nat → Int → Int
  | 0 => t
  | k + 1 => i_up (rowR t n g k) (n + k) (g k)
def fbyte (x1 x2 x3 x4 x5 k : Int) : Int := i_an (i_sr (fr5 x1 x2 x3 x4 x5 k) (24 - 8 * (k % 4))) 255
theorem b156_14 {d : Nat} {Q : j3_P} {σ : j3_S} {x1 x2 x3 x4 x5 x6 : Int} {w7 : j3_W} (h0 : 0 ≤ x6) (h1 : x6 < 20) (ht : 0 ≤ σ.1 10002 121) (ht2 : σ.1 10002 121 < 4000) :
  T156 d Q 13 [wO 10 121, wI x1, wI x2, wI x3, wI x4, wI x5, wI x6, w7] [] σ = T156 d Q 13 [wO 10 121, wI x1, wI x2, wI x3, wI x4, wI x5, wI (x6 + 1), wI (fr5 x1 x2 x3 x4 x5 x6)] [] (j3_up σ.1 10002 121 (σ.1 10002 121 + 1), σ.2.1, j3_up σ.2.2 10001 121 (i_up (σ.2.2 10001 121) (σ.1 10002 121) (fbyte x1 x2 x3 x4 x5 x6))) := by
  rw [b156_13, if_pos h1]
  have key : ∀ z : Int, fr5 x1 x2 x3 x4 x5 x6 = z → T156 d Q 37 [wO 10 121, wI x1, wI x2, wI x3, wI x4, wI x5, wI x6, w7] [wI z] σ = T156 d Q 13 [wO 10 121, wI x1, wI x2, wI x3, wI x4, wI x5, wI (x6 + 1), wI (fr5 x1 x2 x3 x4 x5 x6)] [] (j3_up σ.1 10002 121 (σ.1 10002 121 + 1), σ.2.1, j3_up σ.2.2 10001 121 (i_up (σ.2.2 10001 121) (σ.1 10002 121) (fbyte x1 x2 x3 x4 x5 x6))) := by
    intro z hz
    rw [b156_37]
    simp (disch := omega) only [rm_nn, wr_id, j3_ast, hz, fbyte]
    simp [ht, ht2]
  split
  · exact key _ (by simp [fr5, *])
  · split
    · exact key _ (by simp [fr5, *])
    · split
      · exact key _ (by simp [fr5, *])
      · split
        · exact key _ (by simp [fr5, *])
        · exact key _ (by simp [fr5, *])
theorem l156 {d : Nat} {Q : j3_P} {I : Nat → Nat → Int} {P : Nat → Nat} {A : Nat → Nat → Int → Int} {x1 x2 x3 x4 x5 n : Int} {t : Int → Int} (h0 : 0 ≤ n) (h1 : n + 20 ≤ 4000) : ∀ (j k : Nat) (w : j3_W), k + j = 20 →
    T156 d Q 13 [wO 10 121, wI x1, wI x2, wI x3, wI x4, wI x5, wI k, w] [] (j3_up I 10002 121 (n + k), P, j3_up A 10001 121 (rowR t n (fbyte x1 x2 x3 x4 x5) k)) = Q (some (wI 1)) (j3_up I 10002 121 (n + 20), P, j3_up A 10001 121 (rowR t n (fbyte x1 x2 x3 x4 x5) 20))
  | 0, k, w, h => by
    have : k = 20 := by omega
    subst this
    rw [b156_13, if_neg (by omega)]
    simp
  | j + 1, k, w, h => by
    rw [b156_14 (by omega) (by omega) (by simp only [up_r]; omega) (by simp only [up_r]; omega)]
    simp only [up_r, up_up]
    have := l156 (d := d) (Q := Q) (I := I) (P := P) (A := A) (x1 := x1) (x2 := x2) (x3 := x3) (x4 := x4) (x5 := x5) (t := t) h0 h1 j (k + 1) (wI (fr5 x1 x2 x3 x4 x5 k)) (by omega)
    rw [← this]
    have e1 : n + (k : Int) + 1 = n + ((k + 1 : Nat) : Int) := by omega
    have e2 : (k : Int) + 1 = ((k + 1 : Nat) : Int) := by omega
    rw [e1, e2]
    rfl
/-- the tapes are alike -/
def tpR (σc σr : j3_S) : Prop := 0 ≤ σc.1 9001 0 ∧ σc.1 9001 0 ≤ 4000 ∧ σr.1 10002 121 = σc.1 9001 0 ∧ ∀ i, 0 ≤ i → i < σc.1 9001 0 → σr.2.2 10001 121 i = i_an (σc.2.2 9000 0 i) 255
def row20 (t : Int → Int) (n x1 x2 x3 x4 x5 : Int) : Int → Int := row4 (row4 (row4 (row4 (row4 t n x1) (n + 4) x2) (n + 8) x3) (n + 12) x4) (n + 16) x5
theorem row20_R {t u : Int → Int} {n x1 x2 x3 x4 x5 : Int} (h : ∀ i, 0 ≤ i → i < n → u i = i_an (t i) 255) (i : Int) (h0 : 0 ≤ i) (h1 : i < n + 20) : rowR u n (fbyte x1 x2 x3 x4 x5) 20 i = i_an (row20 t n x1 x2 x3 x4 x5 i) 255 := by
  simp only [rowR, row20, row4, i_up]
  have hc : i < n ∨ i = n ∨ i = n + 1 ∨ i = n + 2 ∨ i = n + 3 ∨ i = n + 4 ∨ i = n + 5 ∨ i = n + 6 ∨ i = n + 7 ∨ i = n + 8 ∨ i = n + 9 ∨ i = n + 10 ∨ i = n + 11 ∨ i = n + 12 ∨ i = n + 13 ∨ i = n + 14 ∨ i = n + 15 ∨ i = n + 16 ∨ i = n + 17 ∨ i = n + 18 ∨ i = n + 19 := by omega
  rcases hc with hc | hc
  · have hn : ∀ k : Int, 0 ≤ k → ¬ i = n + k := fun k hk => by omega
    have e0 : ¬ i = n := by omega
    have e1 : ∀ a b : Int, 0 ≤ a → 0 ≤ b → ¬ i = n + a + b := fun a b ha hb => by omega
    simp (disch := omega) only [hn, e0, e1, if_false]
    exact h i h0 hc
  rcases hc with hc | hc
  · subst hc
    have hne : ∀ k : Int, 0 < k → ¬ i = i + k := fun k hk => by omega
    simp (disch := omega) [hne, fbyte, fr5, an_tb, Int.add_assoc]
  · rcases hc with hc | hc | hc | hc | hc | hc | hc | hc | hc | hc | hc | hc | hc | hc | hc | hc | hc | hc | hc <;> subst hc <;> simp [fbyte, fr5, an_tb, Int.add_assoc]
theorem s128 {d : Nat} {Q : j3_P} {σ : j3_S} {x1 x2 x3 x4 x5 : Int} (h0 : 0 ≤ σ.1 9001 0) (h1 : σ.1 9001 0 ≤ 4000) : j3_tc false (d + 2) 128 [wO 9 0, wI x1, wI x2, wI x3, wI x4, wI x5] σ Q = if 4000 < σ.1 9001 0 + 20 then Q (some (wI 0)) σ else Q (some (wI 1)) (j3_up σ.1 9001 0 (σ.1 9001 0 + 20), σ.2.1, j3_up σ.2.2 9000 0 (row20 (σ.2.2 9000 0) (σ.1 9001 0) x1 x2 x3 x4 x5)) := by
  rw [e128, b128_0]
  simp (disch := omega) only [wr_id]
  by_cases h : 4000 < σ.1 9001 0 + 20
  · rw [if_pos h, if_pos h]
    simp
  · rw [if_neg h, if_neg h]
    rw [s129 (by omega) (by omega)]
    simp only [Option.toList_none, List.nil_append]
    rw [b128_11, s129 (by simp only [up_r]; omega) (by simp only [up_r]; omega)]
    simp only [Option.toList_none, List.nil_append, up_r, up_up]
    rw [b128_14, s129 (by simp only [up_r]; omega) (by simp only [up_r]; omega)]
    simp only [Option.toList_none, List.nil_append, up_r, up_up]
    rw [b128_17, s129 (by simp only [up_r]; omega) (by simp only [up_r]; omega)]
    simp only [Option.toList_none, List.nil_append, up_r, up_up]
    rw [b128_20, s129 (by simp only [up_r]; omega) (by simp only [up_r]; omega)]
    simp only [Option.toList_none, List.nil_append, up_r, up_up]
    rw [b128_23]
    have e1 : σ.1 9001 0 + 4 + 4 = σ.1 9001 0 + 8 := by omega
    have e2 : σ.1 9001 0 + 8 + 4 = σ.1 9001 0 + 12 := by omega
    have e3 : σ.1 9001 0 + 12 + 4 = σ.1 9001 0 + 16 := by omega
    have e4 : σ.1 9001 0 + 16 + 4 = σ.1 9001 0 + 20 := by omega
    simp only [e1, e2, e3, e4, row20]
    simp
theorem s156 {d : Nat} {Q : j3_P} {σ : j3_S} {x1 x2 x3 x4 x5 : Int} (h0 : 0 ≤ σ.1 10002 121) (h1 : σ.1 10002 121 ≤ 4000) : j3_tc true (d + 1) 156 [wO 10 121, wI x1, wI x2, wI x3, wI x4, wI x5] σ Q = if 4000 < σ.1 10002 121 + 20 then Q (some (wI 0)) (j3_up σ.1 10000 121 0, σ.2.1, σ.2.2) else Q (some (wI 1)) (j3_up (j3_up σ.1 10000 121 0) 10002 121 (σ.1 10002 121 + 20), σ.2.1, j3_up σ.2.2 10001 121 (rowR (σ.2.2 10001 121) (σ.1 10002 121) (fbyte x1 x2 x3 x4 x5) 20)) := by
  rw [e156, b156_0]
  simp (disch := omega) only [wr_id]
  by_cases h : 4000 < σ.1 10002 121 + 20
  · rw [if_pos h, if_pos h]
    simp
  · rw [if_neg h, if_neg h]
    have := l156 (d := d) (Q := Q) (I := j3_up σ.1 10000 121 0) (P := σ.2.1) (A := σ.2.2) (x1 := x1) (x2 := x2) (x3 := x3) (x4 := x4) (x5 := x5) (n := σ.1 10002 121) (t := σ.2.2 10001 121) h0 (by omega) 20 0 (wM 2) rfl
    rw [← this]
    congr 1
    refine Prod.ext ?_ (Prod.ext rfl ?_)
    · funext a b
      simp only [j3_up]
      by_cases hab : ((a == 10002) && (b == 121)) = true
      · rw [hab]
        simp only [Bool.and_eq_true, beq_iff_eq] at hab
        obtain ⟨rfl, rfl⟩ := hab
        simp
      · simp only [Bool.not_eq_true] at hab
        rw [hab]
        rfl
    · funext a b
      simp only [j3_up, rowR]
      by_cases hab : ((a == 10001) && (b == 121)) = true
      · rw [hab]
        simp only [Bool.and_eq_true, beq_iff_eq] at hab
        obtain ⟨rfl, rfl⟩ := hab
        rfl
      · simp only [Bool.not_eq_true] at hab
        rw [hab]
        rfl
