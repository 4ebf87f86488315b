/-! names: the reference -/
def abv (P : Pg) (m x : Int) : Nat → Int → Bool
  | 0, _ => false
  | r + 1, n => (decide (P 3012 (P 3007 x + n) = P 3012 m) && !shp P m (P 3007 x + n)) || abv P m x r (n + 1)
def achr (P : Pg) (m : Int) : Nat → Int → Bool
  | 0, _ => false
  | n + 1, x => if x < 0 then false else abv P m x (P 3006 x).toNat 0 || achr P m n (P 3003 x)
def uq (P : Pg) (x : Int) : Prop := ∀ n n', 0 ≤ n → n < n' → n' < P 3006 x → ¬ P 3012 (P 3007 x + n) = P 3012 (P 3007 x + n')
theorem fst3_n {p : Int → Bool} : ∀ (r : Nat) (k : Int), fst3 p r k = none → ∀ z, k ≤ z → z < k + r → p z = false
  | 0, k, _, z, z0, z1 => absurd z1 (by omega)
  | r + 1, k, h, z, z0, z1 => by
    simp only [fst3] at h
    by_cases g : p k = true
    · rw [if_pos g] at h
      cases h
    · rw [if_neg g] at h
      by_cases g2 : z = k
      · rw [g2]; simpa using g
      · exact fst3_n r (k + 1) h z (by omega) (by omega)
section RNAM
variable {d : Nat} {Q : j3_P} {σ τ : j3_S} {P : Pg} {c k m j x : Int}
theorem mclr_f : ∀ (r : Nat) (j : Int), mclr P c k r j = false → ∀ z, j ≤ z → z < j + r → ¬ P 3012 (P 3007 c + z) = P 3012 (P 3007 c + k)
  | 0, j, _, z, z0, z1 => absurd z1 (by omega)
  | r + 1, j, h, z, z0, z1 => by
    simp only [mclr, Bool.or_eq_false_iff, decide_eq_false_iff_not] at h
    by_cases g : z = j
    · rw [g]; exact h.1
    · exact mclr_f r (j + 1) h.2 z (by omega) (by omega)
theorem uq_of (h : fst3 (mck P c) (P 3006 c).toNat 0 = none) : uq P c := by
  intro n n' n0 n1 n2
  have := fst3_n _ _ h n' (by omega) (by omega)
  unfold mck at this
  rw [Bool.or_eq_false_iff] at this
  exact mclr_f _ _ this.1 n (by omega) (by omega)
theorem abv_f : ∀ (r : Nat) (n : Int), (∀ z, n ≤ z → z < n + r → ¬ P 3012 (P 3007 x + z) = P 3012 m) → abv P m x r n = false
  | 0, _, _ => rfl
  | r + 1, n, h => by
    simp only [abv]
    rw [abv_f r (n + 1) (fun z z0 z1 => h z (by omega) (by omega))]
    simp [h n (by omega) (by omega)]
theorem abv_e (hu : uq P x) (h7 : 0 ≤ P 3007 x) : ∀ (r : Nat) (n : Int) (f : Nat), r < f → n + r = P 3006 x → 0 ≤ n → abv P m x r n = if nmd P x (P 3012 m) f n = -1 then false else !shp P m (nmd P x (P 3012 m) f n)
  | 0, n, f + 1, hf, hn, n0 => by
    simp [abv, nmd, show ¬ n < P 3006 x by omega]
  | r + 1, n, f + 1, hf, hn, n0 => by
    simp only [abv, nmd, if_pos (show n < P 3006 x by omega)]
    by_cases g : P 3012 (P 3007 x + n) = P 3012 m
    · rw [if_pos g, if_neg (by omega), abv_f r (n + 1) (fun z z0 z1 => ?_)]
      · simp [g]
      · rw [← g]
        exact fun q => hu n z n0 (by omega) (by omega) q.symm
    · rw [if_neg g, abv_e hu h7 r (n + 1) f (by omega) (by omega) (by omega)]
      simp [g]
theorem achr_e (hW : WF0 P) : ∀ (n : Nat) (x : Int), x < P 3000 0 → (∀ x', 0 ≤ x' → x' ≤ x → uq P x') → achr P m n x = acl P m n x
  | 0, _, _, _ => rfl
  | n + 1, x, hx, hu => by
    simp only [achr, acl]
    by_cases g : x < 0
    · rw [if_pos g, if_pos g]
    · have h1 := hW.1.2.2 x (by omega) hx
      have h2 := hW.2.1.2.2 x (by omega) hx
      rw [if_neg g, if_neg g, abv_e (hu x (by omega) (Int.le_refl _)) h2.2.2.1 (P 3006 x).toNat 0 9 (by omega) (by omega) (by omega), achr_e hW n (P 3003 x) (by omega) (fun x' a b => hu x' a (by omega))]
theorem l168 (hR : RP σ 2 P) (hW : WF0 P) (m0 : 0 ≤ m) (m1 : m < P 3001 0) (j0 : 0 ≤ j) (j1 : j < P 3001 0) (he : P 3015 m = P 3015 j) : ∀ (r : Nat) (p : Int), p + r = 3 → 0 ≤ p → T168 d Q 34 [wO 10 121, wI (160 + m), wI (160 + j), wI 1, wI p] [] σ = Q (some (wI (b2i (shr P m j (P 3015 m - p).toNat p)))) σ
  | 0, p, hp, p0 => by
    obtain ⟨-, -, -, q4, -⟩ := hW.2.2.2 m m0 m1
    rw [b168_34, if_neg (by omega), show (P 3015 m - p).toNat = 0 by omega]
    simp [shr, b2i]
  | r + 1, p, hp, p0 => by
    have hm2 := hW.2.1.2.1
    obtain ⟨-, -, -, q4, -⟩ := hW.2.2.2 m m0 m1
    have e5 := (hR.2.2.2 m m0 m1).1.2.2.2.2.1
    rw [show (80 : Int) * 2 = 160 by decide] at e5
    have ih := l168 hR hW m0 m1 j0 j1 he r (p + 1) (by omega) (by omega)
    rw [b168_34, if_pos (by omega), if_neg (by decide), e5]
    have c1 : (0 ≤ 160 + m ∧ 160 + m < 240) = True := by simp; omega
    simp only [c1, true_and]
    by_cases g : p < P 3015 m
    · have f1 := (hR.2.2.2 m m0 m1).2.1 p p0 g
      have f2 := (hR.2.2.2 j j0 j1).2.1 p p0 (by omega)
      rw [show (80 : Int) * 2 = 160 by decide] at f1 f2
      rw [if_pos g]
      simp (disch := omega) only [wr_id]
      rw [f1, f2]
      have c2 : (0 ≤ 3 * (160 + m) + p ∧ 3 * (160 + m) + p < 720) = True := by simp; omega
      have c3 : (0 ≤ 3 * (160 + j) + p ∧ 3 * (160 + j) + p < 720) = True := by simp; omega
      simp only [c2, c3, true_and]
      rw [show (P 3015 m - p).toNat = (P 3015 m - (p + 1)).toNat + 1 by omega]
      simp only [shr]
      by_cases g2 : P 3016 (m * 3 + p) = P 3016 (j * 3 + p)
      · rw [if_pos g2, b168_62, b168_65, wr_id (by omega) (by omega), ih]
        simp [g2]
      · rw [if_neg g2, b168_65, b168_34]
        simp [g2, b2i]
    · rw [if_neg g, b168_62, b168_65, wr_id (by omega) (by omega), ih, show (P 3015 m - p).toNat = 0 by omega, show (P 3015 m - (p + 1)).toNat = 0 by omega]
      rfl
theorem s168 (hR : RP σ 2 P) (hW : WF0 P) (m0 : 0 ≤ m) (m1 : m < P 3001 0) (j0 : 0 ≤ j) (j1 : j < P 3001 0) : j3_tc true (d + 1) 168 [wO 10 121, wI (160 + m), wI (160 + j)] σ Q = Q (some (wI (b2i (shp P m j)))) σ := by
  have hm2 := hW.2.1.2.1
  obtain ⟨-, -, -, q4, -⟩ := hW.2.2.2 m m0 m1
  obtain ⟨⟨-, -, a3, a4, a5, -, -⟩, -⟩ := hR.2.2.2 m m0 m1
  obtain ⟨⟨-, -, b3, b4, b5, -, -⟩, -⟩ := hR.2.2.2 j j0 j1
  rw [show (80 : Int) * 2 = 160 by decide] at a3 a4 a5 b3 b4 b5
  have c3 : (0 ≤ 160 + m ∧ 160 + m < 240) = True := by simp; omega
  have c4 : (0 ≤ 160 + j ∧ 160 + j < 240) = True := by simp; omega
  have t30 : T168 d Q 30 [wO 10 121, wI (160 + m), wI (160 + j), wM 2, wM 2] [] σ = Q (some (wI (b2i false))) σ := by
    rw [b168_30, b168_31, b168_34]
    simp [b2i]
  rw [e168, b168_0, a3, a4, a5, b3, b4, b5]
  simp only [c3, c4, true_and, shp, t30]
  by_cases g1 : P 3013 m = 0
  · by_cases g2 : P 3013 j = 0
    · by_cases g3 : P 3014 m = P 3014 j
      · by_cases g4 : P 3015 m = P 3015 j
        · rw [if_pos g1, if_pos g2, if_pos g3, if_pos g4, b168_31, l168 hR hW m0 m1 j0 j1 g4 3 0 (by omega) (by omega), Int.sub_zero]
          simp [g1, g2, g3, g4]
        · simp [g1, g2, g3, g4]
      · simp [g1, g2, g3]
    · simp [g1, g2]
  · simp [g1]
theorem wrS_wrS {f a b e : Int} (hf : ¬ f = 0) : wrS (wrS τ f a b e) f a b e = wrS τ f a b e := by
  by_cases g : τ.1 10007 121 = 0
  · exact wrS_n (by rw [wrS_1 g]; exact hf)
  · rw [wrS_n g, wrS_n g]
/-- the fields -/
theorem l23 {w4 w5 w6 w7 : j3_W} (hW : WF0 P) (c0 : 0 ≤ c) (c1 : c < P 3000 0) (k0 : 0 ≤ k) (k1 : k < P 3005 c) : ∀ (r : Nat) (j : Int) (τ : j3_S), RP τ 2 P → j + r = k → 0 ≤ j → T169 (d + 1) Q 23 [wO 10 121, wI c, wI k, wI j, w4, w5, w6, w7] [] τ = T169 (d + 1) Q 13 [wO 10 121, wI c, wI (k + 1), wI k, w4, w5, w6, w7] [] (if fclr P c k r j = true then wrS τ 2 c k 0 else τ)
  | 0, j, τ, hR, hj, j0 => by
    have hcf := hW.2.2.1 c c0 c1
    have : j = k := by omega
    subst this
    rw [b169_23, if_neg (by omega), wr_id (by omega) (by omega), if_neg (show ¬ fclr P c j 0 j = true by simp [fclr])]
  | r + 1, j, τ, hR, hj, j0 => by
    have hn := hW.1.2.1
    have hcf := hW.2.2.1 c c0 c1
    have f1 := ((hR.2.2.1 c c0 c1).2 k k0 k1).1
    have f2 := ((hR.2.2.1 c c0 c1).2 j j0 (by omega)).1
    rw [show (60 : Int) * 2 = 120 by decide] at f1 f2
    rw [b169_23, if_pos (by omega)]
    simp (disch := omega) only [wr_id]
    rw [f1, f2]
    have x1 : (0 ≤ 120 + 6 * c + k ∧ 120 + 6 * c + k < 180) = True := by simp; omega
    have x2 : (0 ≤ 120 + 6 * c + j ∧ 120 + 6 * c + j < 180) = True := by simp; omega
    simp only [x1, x2, true_and]
    have ef : fclr P c k (r + 1) j = (decide (P 3008 (c * 6 + j) = P 3008 (c * 6 + k)) || fclr P c k r (j + 1)) := rfl
    by_cases g : P 3008 (c * 6 + k) = P 3008 (c * 6 + j)
    · rw [if_pos g, s158]
      simp only [Option.toList_none, List.nil_append]
      rw [b169_53, wr_id (by omega) (by omega), l23 hW c0 c1 k0 k1 r (j + 1) (wrS τ 2 c k 0) (hR.fr wrS_f (lr_ok rfl)) (by omega) (by omega), wrS_wrS (by decide), ite_self, if_pos (by rw [ef]; simp [g])]
    · have ef' : fclr P c k (r + 1) j = fclr P c k r (j + 1) := by rw [ef, decide_eq_false (fun q => g q.symm)]; rfl
      rw [if_neg g, b169_53, wr_id (by omega) (by omega), l23 hW c0 c1 k0 k1 r (j + 1) τ hR (by omega) (by omega), ef']
theorem l13n {w4 w5 w6 w7 : j3_W} (hW : WF0 P) (c0 : 0 ≤ c) (c1 : c < P 3000 0) : ∀ (r : Nat) (k : Int) (w3 : j3_W) (τ : j3_S), RP τ 2 P → k + r = P 3005 c → 0 ≤ k → (∀ w3, T169 (d + 1) Q 59 [wO 10 121, wI c, wI 0, w3, w4, w5, w6, w7] [] (if τ.1 10007 121 = 0 then (match fst3 (fck P c) r k with | some k => wrS τ 2 c k 0 | none => τ) else τ)) → T169 (d + 1) Q 13 [wO 10 121, wI c, wI k, w3, w4, w5, w6, w7] [] τ
  | 0, k, w3, τ, hR, hk, k0, h => by
    have hn := hW.1.2.1
    have e5 := (hR.2.2.1 c c0 c1).1.2.2.1
    rw [show (10 : Int) * 2 = 20 by decide] at e5
    rw [b169_13, wr_id (by omega) (by omega), e5, if_neg (by omega)]
    refine ⟨by omega, ?_⟩
    simp only [fst3, ite_self] at h
    exact h _
  | r + 1, k, w3, τ, hR, hk, k0, h => by
    have hn := hW.1.2.1
    have e5 := (hR.2.2.1 c c0 c1).1.2.2.1
    rw [show (10 : Int) * 2 = 20 by decide] at e5
    rw [b169_13, wr_id (by omega) (by omega), e5, if_pos (by omega), l23 hW c0 c1 k0 (by omega) k.toNat 0 τ hR (by omega) (by omega)]
    refine ⟨by omega, ?_⟩
    by_cases g : τ.1 10007 121 = 0
    · rw [if_pos g] at h
      by_cases g2 : fclr P c k k.toNat 0 = true
      · have ef : fst3 (fck P c) (r + 1) k = some k := by simp only [fst3]; rw [if_pos (show fck P c k = true from g2)]
        rw [ef] at h
        rw [if_pos g2]
        refine l13n hW c0 c1 r (k + 1) _ _ (hR.fr wrS_f (lr_ok rfl)) (by omega) (by omega) ?_
        rw [if_neg (by rw [wrS_1 g]; decide)]
        exact h
      · have ef : fst3 (fck P c) (r + 1) k = fst3 (fck P c) r (k + 1) := by simp only [fst3]; rw [if_neg (show ¬ fck P c k = true from g2)]
        rw [ef] at h
        rw [if_neg g2]
        refine l13n hW c0 c1 r (k + 1) _ τ hR (by omega) (by omega) ?_
        rw [if_pos g]
        exact h
    · rw [if_neg g] at h
      rw [wrS_n g, ite_self]
      refine l13n hW c0 c1 r (k + 1) _ τ hR (by omega) (by omega) ?_
      rw [if_neg g]
      exact h
end RNAM
