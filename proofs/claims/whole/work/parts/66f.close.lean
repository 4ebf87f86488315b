/-! what is reached is closed -/
def closR (P K : Pg) (mt : Int → Int → Bool) (R : Rs) : Prop := ∀ m, 0 ≤ m → m < P 3001 0 → R.1 m = 1 → ∀ i, 0 ≤ i → i < K 0 m → mt m i = true → (K 1 (m * 120 + i) = 15 → R.2.1 (K 2 (m * 120 + i)) = 1) ∧ (K 1 (m * 120 + i) = 20 → R.1 (P 3007 (K 2 (m * 120 + i)) + K 3 (m * 120 + i)) = 1) ∧ (K 1 (m * 120 + i) = 21 → ∀ d, 0 ≤ d → d < P 3000 0 → R.2.1 d = 1 → cv P (K 2 (m * 120 + i)) d = true → R.1 (fnd P (P 3012 (P 3007 (K 2 (m * 120 + i)) + K 3 (m * 120 + i))) 10 d) = 1)
section CLOSE
variable {P K : Pg} {mt : Int → Int → Bool} {S R R' : Rs} {a b m c t op n : Int} {D L : Int → Prop} {E : Int → Int}
theorem fr_z (h : frS R S) (h' : frS S R') (z : R'.2.2 = 0) : S = R := by
  rcases h.2.2.2.2.2 with e | ⟨e, -⟩
  · exact e
  · rcases h'.2.2.2.2.1 with q | q
    · rw [q, e] at z; exact absurd z (by decide)
    · rw [q] at z; exact absurd z (by decide)
theorem mkR_z (h : mkR R m = R) (z : R.2.2 = 0) : ¬ R.1 m = 0 := by
  intro g
  unfold mkR at h
  rw [if_pos g] at h
  have : (1 : Int) = R.2.2 := congrArg (fun S : Rs => S.2.2) h
  omega
theorem mkL_z (h : mkL R c = R) (z : R.2.2 = 0) : ¬ R.2.1 c = 0 := by
  intro g
  unfold mkL at h
  rw [if_pos g] at h
  have : (1 : Int) = R.2.2 := congrArg (fun S : Rs => S.2.2) h
  omega
theorem mkS_q (hg : good P) (a0 : 0 ≤ a) (a1 : a < P 3000 0) (b0 : 0 ≤ b) (b1 : b < P 3006 a) (z : R.2.2 = 0) : ∀ (n : Nat) (d : Int), d + n = P 3000 0 → 0 ≤ d → mkS P a (P 3007 a + b) n d R = R → ∀ x, d ≤ x → x < P 3000 0 → R.2.1 x = 1 → cv P a x = true → ¬ R.1 (fnd P (P 3012 (P 3007 a + b)) 10 x) = 0
  | 0, d, hd, _, _, x, x0, x1, _, _ => absurd x1 (by omega)
  | n + 1, d, hd, d0, h, x, x0, x1, h1, h2 => by
    have h80 := hg.1.2.1.2.1
    unfold mkS at h
    have f1 : frS R (if R.2.1 d = 1 ∧ cv P a d = true then mkR R (fnd P (P 3012 (P 3007 a + b)) 10 d) else R) := by
      by_cases g : R.2.1 d = 1 ∧ cv P a d = true
      · rw [if_pos g]
        have := fnd_r hg a0 a1 b0 b1 (c := d) (by omega) g.2
        exact mkR_f (by omega) (by omega)
      · rw [if_neg g]; exact frS.rf
    have f2 := mkS_f hg a0 a1 b0 b1 n (d + 1) (if R.2.1 d = 1 ∧ cv P a d = true then mkR R (fnd P (P 3012 (P 3007 a + b)) 10 d) else R) (by omega)
    rw [h] at f2
    have e := fr_z f1 f2 z
    rw [e] at h
    by_cases gx : x = d
    · subst gx
      rw [if_pos ⟨h1, h2⟩] at e
      exact mkR_z e z
    · exact mkS_q hg a0 a1 b0 b1 z n (d + 1) (by omega) (by omega) h x (by omega) x1 h1 h2
theorem gI_q (hg : good P) (hK : okK P K mt D L) (m0 : 0 ≤ m) (m1 : m < P 3001 0) (hm : D m) (hI : inS D L R) (z : R.2.2 = 0) : ∀ (n : Nat) (i : Int), i + n = K 0 m → 0 ≤ i → gI P K mt m n i R = R → ∀ x, i ≤ x → x < K 0 m → mt m x = true → stI P (K 1 (m * 120 + x)) (K 2 (m * 120 + x)) (K 3 (m * 120 + x)) R = R
  | 0, i, hi, _, _, x, x0, x1, _ => absurd x1 (by omega)
  | n + 1, i, hi, i0, h, x, x0, x1, hx => by
    have e : (if mt m i = true then stI P (K 1 (m * 120 + i)) (K 2 (m * 120 + i)) (K 3 (m * 120 + i)) R else R) = R := by
      have f1 : frS R (if mt m i = true then stI P (K 1 (m * 120 + i)) (K 2 (m * 120 + i)) (K 3 (m * 120 + i)) R else R) := by
        by_cases g : mt m i = true
        · rw [if_pos g]
          exact stI_f hg ((hK m m0 m1 hm).2 i i0 (by omega) g).1
        · rw [if_neg g]; exact frS.rf
      have n1 : inS D L (if mt m i = true then stI P (K 1 (m * 120 + i)) (K 2 (m * 120 + i)) (K 3 (m * 120 + i)) R else R) := by
        have q := gI_f (K := fun k y => if k = 0 then i + 1 else K k y) (mt := fun m' x => if x = i ∧ m' = m then mt m i else false) (D := D) (L := L) hg (fun m' _ _ hD => ?_) m0 m1 hm 1 i R (by simp) i0 hI
        · have q2 := q.2
          unfold gI gI at q2
          simpa using q2
        · simp only [if_pos, if_neg, show ¬ (1 : Nat) = 0 by decide, show ¬ (2 : Nat) = 0 by decide, show ¬ (3 : Nat) = 0 by decide, if_false, if_true]
          have := (hK m m0 m1 hm).1
          refine ⟨by omega, fun y y0 y1 hy => ?_⟩
          by_cases gy : y = i ∧ m' = m
          · rw [if_pos gy] at hy
            rw [gy.1, gy.2]
            exact (hK m m0 m1 hm).2 i i0 (by omega) hy
          · rw [if_neg gy] at hy; cases hy
      have f2 := (gI_f hg hK m0 m1 hm n (i + 1) _ (by omega) (by omega) n1).1
      have h' := h
      unfold gI at h'
      rw [h'] at f2
      exact fr_z f1 f2 z
    unfold gI at h
    rw [e] at h
    by_cases gx : x = i
    · subst gx
      rw [if_pos hx] at e
      exact e
    · exact gI_q hg hK m0 m1 hm hI z n (i + 1) (by omega) (by omega) h x (by omega) x1 hx
theorem gM_q (hg : good P) (hK : okK P K mt D L) (hI : inS D L R) (z : R.2.2 = 0) : ∀ (n : Nat) (m : Int), m + n = P 3001 0 → 0 ≤ m → gM P K mt n m R = R → ∀ x, m ≤ x → x < P 3001 0 → R.1 x = 1 → gI P K mt x (K 0 x).toNat 0 R = R
  | 0, m, hm, _, _, x, x0, x1, _ => absurd x1 (by omega)
  | n + 1, m, hm, m0, h, x, x0, x1, hx => by
    have e : (if R.1 m = 1 then gI P K mt m (K 0 m).toNat 0 R else R) = R := by
      have fn : frS R (if R.1 m = 1 then gI P K mt m (K 0 m).toNat 0 R else R) ∧ inS D L (if R.1 m = 1 then gI P K mt m (K 0 m).toNat 0 R else R) := by
        by_cases g : R.1 m = 1
        · rw [if_pos g]
          have hD := hI.2.2.2.1 m g
          have := (hK m m0 (by omega) hD).1
          exact gI_f hg hK m0 (by omega) hD (K 0 m).toNat 0 R (by omega) (by omega) hI
        · rw [if_neg g]; exact ⟨frS.rf, hI⟩
      have f2 := (gM_f hg hK n (m + 1) _ (by omega) (by omega) fn.2).1
      have h' := h
      unfold gM at h'
      rw [h'] at f2
      exact fr_z fn.1 f2 z
    unfold gM at h
    rw [e] at h
    by_cases gx : x = m
    · subst gx
      rw [if_pos hx] at e
      exact e
    · exact gM_q hg hK hI z n (m + 1) (by omega) (by omega) h x (by omega) x1 hx
theorem rch_cl (hg : good P) (hK : okK P K mt D L) (hE : ∀ e, 0 ≤ e → e < n → D (E e)) : closR P K mt (rds P K mt 100 (S0f E n)) ∧ inS D L (rds P K mt 100 (S0f E n)) ∧ ∀ e, 0 ≤ e → e < n → (rds P K mt 100 (S0f E n)).1 (E e) = 1 := by
  have z := S0_e hg hK hE
  obtain ⟨r1, r2, r3⟩ := rds_f hg hK 100 (S0f E n) (S0_i hE)
  have r4 := r3 z rfl
  refine ⟨?_, r1, fun e e0 e1 => r2 _ (enF_i n.toNat e e0 (by omega))⟩
  generalize rds P K mt 100 (S0f E n) = R at *
  have h80 := hg.1.2.1.1
  have hR : gM P K mt (P 3001 0).toNat 0 R = R := by
    have : (R.1, R.2.1, (0 : Int)) = R := by rw [← z]
    unfold rd1 at r4
    rw [this] at r4
    exact r4
  intro m m0 m1 hm i i0 i1 hi
  have hD := r1.2.2.2.1 m hm
  have hk := hK m m0 m1 hD
  have e1 := gM_q hg hK r1 z _ 0 (by omega) (by omega) hR m m0 m1 hm
  have e2 := gI_q hg hK m0 m1 hD r1 z _ 0 (by omega) (by omega) e1 i i0 i1 hi
  obtain ⟨k1, -⟩ := hk.2 i i0 i1 hi
  generalize K 1 (m * 120 + i) = op at *
  generalize K 2 (m * 120 + i) = a at *
  generalize K 3 (m * 120 + i) = b at *
  refine ⟨fun g => ?_, fun g => ?_, fun g d d0 d1 d2 d3 => ?_⟩
  · unfold stI at e2
    rw [if_pos g] at e2
    have := mkL_z e2 z
    rcases r1.2.1 a with q | q
    · exact absurd q this
    · exact q
  · unfold stI at e2
    rw [if_neg (by omega), if_pos g] at e2
    have := mkR_z e2 z
    rcases r1.1 (P 3007 a + b) with q | q
    · exact absurd q this
    · exact q
  · unfold stI at e2
    rw [if_neg (by omega), if_neg (by omega), if_pos g] at e2
    obtain ⟨q1, q2⟩ := k1.2 (Or.inr g)
    have hc := hg.1.1.1
    have := mkS_q hg q1.1 q1.2 q2.1 q2.2 z _ 0 (by omega) (by omega) e2 d d0 d1 d2 d3
    rcases r1.1 (fnd P (P 3012 (P 3007 a + b)) 10 d) with q | q
    · exact absurd q this
    · exact q
end CLOSE
