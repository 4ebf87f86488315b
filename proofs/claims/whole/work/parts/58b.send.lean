/-! what a SEND takes -/
section SEND
variable {P : Pg} {a b u x nm : Int}
theorem nmd_fd {c j : Int} (hc : 0 ≤ P 3007 c) (h1 : j < P 3006 c) (h2 : P 3012 (P 3007 c + j) = nm) : ∀ (n : Nat) (k : Int), 0 ≤ k → k ≤ j → j < k + n → ¬ nmd P c nm n k = -1
  | 0, k, z, k0, k1 => absurd k1 (by omega)
  | n + 1, k, z, k0, k1 => by
    simp only [nmd]
    rw [if_pos (by omega)]
    by_cases g : P 3012 (P 3007 c + k) = nm
    · rw [if_pos g]; omega
    · rw [if_neg g]
      refine nmd_fd hc h1 h2 n (k + 1) (by omega) ?_ (by omega)
      by_cases gj : j = k
      · subst gj; exact absurd h2 g
      · omega
/-- the method of that name in its own class -/
theorem nmd_own (hg : good P) {c j : Int} (c0 : 0 ≤ c) (c1 : c < P 3000 0) (j0 : 0 ≤ j) (j1 : j < P 3006 c) : nmd P c (P 3012 (P 3007 c + j)) 9 0 = P 3007 c + j := by
  have hm := hg.1.2.1.2.2 c c0 c1
  have hu := (hg.2.2.2.1 c c0 c1).1
  obtain ⟨-, h2⟩ := nmd_ge P (c := c) (nm := P 3012 (P 3007 c + j)) hm.2.2.1 9 0 (by omega)
  obtain ⟨q1, q2, q3⟩ := h2 (nmd_fd hm.2.2.1 j1 rfl 9 0 (by omega) j0 (by omega))
  generalize nmd P c (P 3012 (P 3007 c + j)) 9 0 = y at q1 q2 q3
  rw [show y = P 3007 c + (y - P 3007 c) by omega] at q3
  rcases (by omega : y - P 3007 c < j ∨ y - P 3007 c = j ∨ j < y - P 3007 c) with g | g | g
  · exact absurd q3 (hu _ _ (by omega) g j1)
  · omega
  · exact absurd q3.symm (hu _ _ j0 g (by omega))
theorem acl_cv (hs : WFs P) {m c : Int} : ∀ (n : Nat) (x : Int), x < n → x < P 3000 0 → acl P m n x = false → cv P c x = true → nmd P c (P 3012 m) 9 0 = -1 ∨ shp P m (nmd P c (P 3012 m) 9 0) = true
  | 0, x, x0, _, _, h => by rw [cv_n (by omega)] at h; cases h
  | n + 1, x, x0, x1, ha, h => by
    by_cases gx : x < 0
    · rw [cv_n gx] at h; cases h
    simp only [acl] at ha
    rw [if_neg gx, Bool.or_eq_false_iff] at ha
    rw [cv_s hs (by omega) x1, Bool.or_eq_true, decide_eq_true_eq] at h
    rcases h with rfl | h
    · by_cases g : nmd P x (P 3012 m) 9 0 = -1
      · exact Or.inl g
      · rw [if_neg g] at ha
        right
        simpa using ha.1
    · have := hs.2.2 x (by omega) x1
      exact acl_cv hs n (P 3003 x) (by omega) (by omega) ha.2 h
theorem shr_e {m j : Int} : ∀ (r : Nat) (p : Int), shr P m j r p = true → ∀ q, p ≤ q → q < p + r → P 3016 (m * 3 + q) = P 3016 (j * 3 + q)
  | 0, p, _, q, q0, q1 => absurd q1 (by omega)
  | r + 1, p, h, q, q0, q1 => by
    simp only [shr, Bool.and_eq_true, decide_eq_true_eq] at h
    by_cases g : q = p
    · rw [g]; exact h.1
    · exact shr_e r (p + 1) h.2 q (by omega) (by omega)
/-- u may stand for t -/
def lik (P : Pg) (u t : Int) : Prop := P 3013 u = P 3013 t ∧ P 3014 u = P 3014 t ∧ P 3015 u = P 3015 t ∧ ∀ q, 0 ≤ q → q < P 3015 t → P 3016 (u * 3 + q) = P 3016 (t * 3 + q)
theorem shp_l {m j : Int} (h : shp P m j = true) (h0 : 0 ≤ P 3015 m) : lik P m j := by
  simp only [shp, Bool.and_eq_true, decide_eq_true_eq] at h
  obtain ⟨⟨⟨⟨h1, h2⟩, h3⟩, h4⟩, h5⟩ := h
  exact ⟨by rw [h1, h2], h3, h4, fun q q0 q1 => shr_e _ 0 h5 q q0 (by omega)⟩
theorem fnd_cv (hg : good P) (a0 : 0 ≤ a) (a1 : a < P 3000 0) (b0 : 0 ≤ b) (b1 : b < P 3006 a) : ∀ (n : Nat) (c : Int), c < n → c < P 3000 0 → cv P a c = true → ∃ k j, (cv P k c = true ∧ 0 ≤ k ∧ k < P 3000 0 ∧ 0 ≤ j ∧ j < P 3006 k) ∧ fnd P (P 3012 (P 3007 a + b)) n c = P 3007 k + j ∧ lik P (P 3007 k + j) (P 3007 a + b)
  | 0, c, c0, _, h => by rw [cv_n (by omega)] at h; cases h
  | n + 1, c, c0, c1, h => by
    have hs := hg.1.1
    by_cases gc : c < 0
    · rw [cv_n gc] at h; cases h
    simp only [fnd]
    rw [if_neg gc]
    have hm := hg.1.2.1.2.2 c (by omega) c1
    by_cases ga : c = a
    · subst ga
      rw [nmd_own hg a0 a1 b0 b1, if_neg (by omega)]
      exact ⟨c, b, ⟨cv_r hs a0 a1, a0, a1, b0, b1⟩, rfl, rfl, rfl, rfl, fun _ _ _ => rfl⟩
    · obtain ⟨p0, p1⟩ := cv_up hs (by omega) c1 h ga
      have hc := hs.2.2 c (by omega) c1
      by_cases gn : nmd P c (P 3012 (P 3007 a + b)) 9 0 = -1
      · rw [if_pos gn]
        obtain ⟨k, j, ⟨z1, z2⟩, z3⟩ := fnd_cv hg a0 a1 b0 b1 n (P 3003 c) (by omega) (by omega) p1
        refine ⟨k, j, ⟨?_, z2⟩, z3⟩
        rw [cv_s hs (by omega) c1, z1]
        simp
      · rw [if_neg gn]
        obtain ⟨-, h2⟩ := nmd_ge P (c := c) (nm := P 3012 (P 3007 a + b)) hm.2.2.1 9 0 (by omega)
        obtain ⟨q1, q2, q3⟩ := h2 gn
        generalize nmd P c (P 3012 (P 3007 a + b)) 9 0 = y at q1 q2 q3
        refine ⟨c, y - P 3007 c, ⟨cv_r hs (by omega) c1, by omega, c1, by omega, by omega⟩, by omega, ?_⟩
        have hw := (hg.2.2.2.1 c (by omega) c1).2 (y - P 3007 c) (by omega) (by omega)
        have e : P 3007 c + (y - P 3007 c) = y := by omega
        rw [e] at hw ⊢
        have hn := hs.2.1
        have := acl_cv hs 10 (P 3003 c) (by omega) (by omega) hw p1
        rw [q3, nmd_own hg a0 a1 b0 b1] at this
        have hma := hg.1.2.1.2.2 a a0 a1
        rcases this with h | h
        · omega
        · obtain ⟨-, -, -, w4, -⟩ := hg.1.2.2.2 y (by omega) (by omega)
          exact shp_l h w4.1
end SEND
