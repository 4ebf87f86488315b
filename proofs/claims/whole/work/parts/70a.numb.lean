/-! new numbers, purely -/
noncomputable def dB (p : Prop) : Bool := @decide p (Classical.propDecidable p)
noncomputable def nB (q : Int → Prop) (n : Int) : Int := (cnB (fun i => dB (q i)) n.toNat : Int)
noncomputable def nwN (q : Int → Prop) (x : Int) : Int := bif dB (q x) then nB q x else -1
section NUMB
variable {q : Int → Prop} {x y n k : Int} {p : Prop}
theorem dB_t : dB p = true ↔ p := by
  unfold dB
  exact @decide_eq_true_iff p (Classical.propDecidable p)
theorem dB_f : dB p = false ↔ ¬ p := by
  rw [← Bool.not_eq_true, dB_t]
theorem nw_k (h : q x) : nwN q x = nB q x := by
  unfold nwN
  rw [dB_t.2 h]; rfl
theorem nw_n (h : ¬ q x) : nwN q x = -1 := by
  unfold nwN
  rw [dB_f.2 h]; rfl
theorem nB_0 : nB q 0 = 0 := rfl
theorem nB_s (h : 0 ≤ x) : nB q (x + 1) = nB q x + (bif dB (q x) then 1 else 0) := by
  unfold nB
  obtain ⟨n, rfl⟩ : ∃ n : Nat, x = n := ⟨x.toNat, by omega⟩
  rw [show ((n : Int) + 1).toNat = n + 1 by omega, show ((n : Int)).toNat = n by omega]
  show ((cnB (fun i => dB (q i)) n + (if dB (q (n : Int)) = true then 1 else 0) : Nat) : Int) = _
  by_cases g : dB (q (n : Int)) = true
  · rw [if_pos g, g]; push_cast; rfl
  · rw [if_neg g, Bool.not_eq_true] at *
    simp [g]
theorem nB_k (h0 : 0 ≤ x) (h : q x) : nB q (x + 1) = nB q x + 1 := by
  rw [nB_s h0, dB_t.2 h]; rfl
theorem nB_n (h0 : 0 ≤ x) (h : ¬ q x) : nB q (x + 1) = nB q x := by
  rw [nB_s h0, dB_f.2 h]; show nB q x + 0 = _; omega
theorem nB_p : 0 ≤ nB q x := Int.natCast_nonneg _
theorem nB_le (h : 0 ≤ x) : nB q x ≤ x := by
  unfold nB
  have := cn_le (q := fun i => dB (q i)) x.toNat
  omega
theorem nB_m (h0 : 0 ≤ x) : ∀ k : Nat, nB q x ≤ nB q (x + k)
  | 0 => by rw [show x + ((0 : Nat) : Int) = x by omega]; omega
  | k + 1 => by
    have := nB_m h0 k
    have e := nB_s (q := q) (x := x + k) (by omega)
    rw [show x + ((k + 1 : Nat) : Int) = x + k + 1 by push_cast; omega, e]
    cases dB (q (x + k))
    · show nB q x ≤ nB q (x + k) + 0; omega
    · show nB q x ≤ nB q (x + k) + 1; omega
theorem nB_mo (h0 : 0 ≤ x) (h : x ≤ y) : nB q x ≤ nB q y := by
  have := nB_m (q := q) h0 (y - x).toNat
  rw [show x + (((y - x).toNat : Nat) : Int) = y by omega] at this
  exact this
theorem nB_lt (h0 : 0 ≤ x) (h : x < y) (hq : q x) : nB q x < nB q y := by
  have e := nB_k h0 hq
  have := nB_mo (q := q) (x := x + 1) (y := y) (by omega) (by omega)
  omega
theorem nB_inj (h0 : 0 ≤ x) (h1 : 0 ≤ y) (hx : q x) (hy : q y) (h : nB q x = nB q y) : x = y := by
  rcases (by omega : x < y ∨ x = y ∨ y < x) with g | g | g
  · have := nB_lt h0 g hx; omega
  · exact g
  · have := nB_lt h1 g hy; omega
theorem nB_su : ∀ (n : Nat) (k : Int), 0 ≤ k → k < nB q n → ∃ x, 0 ≤ x ∧ x < (n : Int) ∧ q x ∧ nB q x = k
  | 0, k, k0, k1 => absurd k1 (by rw [show ((0 : Nat) : Int) = 0 from rfl, nB_0]; omega)
  | n + 1, k, k0, k1 => by
    by_cases g : q n
    · rw [show ((n + 1 : Nat) : Int) = (n : Int) + 1 by push_cast; rfl, nB_k (by omega) g] at k1
      by_cases e : k = nB q n
      · exact ⟨n, by omega, by push_cast; omega, g, e.symm⟩
      · obtain ⟨x, x0, x1, x2, x3⟩ := nB_su n k k0 (by omega)
        exact ⟨x, x0, by push_cast; omega, x2, x3⟩
    · rw [show ((n + 1 : Nat) : Int) = (n : Int) + 1 by push_cast; rfl, nB_n (by omega) g] at k1
      obtain ⟨x, x0, x1, x2, x3⟩ := nB_su n k k0 k1
      exact ⟨x, x0, by push_cast; omega, x2, x3⟩
theorem nB_sur (n0 : 0 ≤ n) (k0 : 0 ≤ k) (k1 : k < nB q n) : ∃ x, 0 ≤ x ∧ x < n ∧ q x ∧ nB q x = k := by
  have := nB_su (q := q) n.toNat k k0 (by rw [show ((n.toNat : Nat) : Int) = n by omega]; exact k1)
  rw [show ((n.toNat : Nat) : Int) = n by omega] at this
  exact this
theorem nw_b (x0 : 0 ≤ x) (x1 : x < n) (h : q x) : 0 ≤ nwN q x ∧ nwN q x < nB q n ∧ nwN q x ≤ x := by
  rw [nw_k h]
  exact ⟨nB_p, nB_lt x0 x1 h, nB_le x0⟩
theorem nw_i (h : ¬ nwN q x = -1) : q x := by
  by_cases g : q x
  · exact g
  · exact absurd (nw_n g) h
end NUMB
