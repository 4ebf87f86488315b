/-! the class's findFault -/
def tf (σ : j3_S) (a b c e : Int) : j3_S := (σ.1, σ.2.1, j3_ast (j3_ast (j3_ast (j3_ast σ.2.2 9010 0 0 a) 9010 0 1 b) 9010 0 2 c) 9010 0 3 e)
section FF
variable {d : Nat} {Q : j3_P} {σ σ' σ'' : j3_S} {P : Pg} {p : Nat}
theorem ckF.rf : ckF p σ σ := ⟨fun _ _ => rfl, fun _ _ _ => rfl, fun _ _ _ => rfl, fun _ _ => rfl⟩
theorem ckF.tr (h : ckF p σ σ') (h' : ckF p σ' σ'') : ckF p σ σ'' := ⟨fun j g => (h'.1 j g).trans (h.1 j g), fun e o g => (h'.2.1 e o g).trans (h.2.1 e o g), fun e o g => (h'.2.2.1 e o g).trans (h.2.2.1 e o g), fun o g => (h'.2.2.2 o g).trans (h.2.2.2 o g)⟩
theorem s133 {a b c e : Int} : j3_tc false (d + 1) 133 [wO 9 0, wI a, wI b, wI c, wI e] σ Q = Q (some (wI a)) (tf σ a b c e) := by
  rw [e133, b133_0]
  simp [tf]
theorem tf_r {a b c e : Int} : (tf σ a b c e).2.2 9010 0 0 = a ∧ (tf σ a b c e).2.2 9010 0 1 = b ∧ (tf σ a b c e).2.2 9010 0 2 = c ∧ (tf σ a b c e).2.2 9010 0 3 = e := by
  simp [tf, j3_ast, j3_up, i_up]
theorem k38 {x1 x2 : Int} (hp0 : ¬ p = 0) (hW : WFp P) : ∀ (r : Nat) (m : Int) (w4 : j3_W) (σ : j3_S), m + r = P 3001 0 → 0 ≤ m → σ.2.1 9 = p → CP σ p P → (∀ m' i, 0 ≤ m' → m' < m → 0 ≤ i → i < P 0 m' → σ.2.2 4 (p + 17) (m' * 120 + i) = (res P m').2.2.1 i) →
    ((ffl (res P) r m).1 = 0 → ∀ σ', ckF p σ σ' → (∀ m' i, 0 ≤ m' → m' < P 3001 0 → 0 ≤ i → i < P 0 m' → σ'.2.2 4 (p + 17) (m' * 120 + i) = (res P m').2.2.1 i) → Q (some (wI 0)) (tf σ' 0 (-1) (-1) (-1))) →
    (¬ (ffl (res P) r m).1 = 0 → ∀ σ', ckF p σ σ' → Q (some (wI (ffl (res P) r m).1)) (tf σ' (ffl (res P) r m).1 (P 3011 (ffl (res P) r m).2.1) ((ffl (res P) r m).2.1 - P 3007 (P 3011 (ffl (res P) r m).2.1)) (ffl (res P) r m).2.2)) →
    T132 (d + 6) Q 38 [wO 9 0, wI x1, wI x2, wI m, w4, wM 2] [] σ
  | 0, m, w4, σ, hm, m0, hp, hC, hh, h1, h2 => by
    rw [b132_38, hp, hC.2.1, if_neg (by omega), s133]
    simp only [Option.toList_some, List.cons_append, List.nil_append]
    rw [b132_81]
    exact ⟨hp0, h1 rfl σ ckF.rf (fun m' i a b c e => hh m' i a (by omega) c e)⟩
  | r + 1, m, w4, σ, hm, m0, hp, hC, hh, h1, h2 => by
    have hm2 := hW.2.1.2.1
    have hn := hW.1.2.1
    obtain ⟨q1, -, -, -, -, q6, -⟩ := hW.2.2.2 m m0 (by omega)
    have hcm := hW.2.1.2.2 _ q1.1 q1.2.1
    rw [b132_38, hp, hC.2.1, if_pos (by omega)]
    refine ⟨hp0, hp0, s2 (n := 50000) (R := res P m) hp0 hC hW m0 (by omega) rfl (by decide) (res_e hW m0 (by omega)) (fun σ1 k1 k2 k3 => ?_)⟩
    simp only [Option.toList_some, List.cons_append, List.nil_append]
    have hC1 := k1.CP hC
    have hp1 : σ1.2.1 9 = p := (k1.1 9 (by decide)).trans hp
    rw [b132_49]
    by_cases g : (res P m).1 = 0
    · have ef : ffl (res P) (r + 1) m = ffl (res P) r (m + 1) := by simp only [ffl, if_pos g]
      rw [ef] at h1 h2
      obtain ⟨k4, k5, k6⟩ := k3 g
      rw [if_pos g, wr_id (by omega) (by omega)]
      refine k38 hp0 hW r (m + 1) _ σ1 (by omega) (by omega) hp1 hC1 (fun m' i a b c e => ?_) (fun q σ' hk hh' => h1 q σ' (k1.tr hk) hh') (fun q σ' hk => h2 q σ' (k1.tr hk))
      by_cases gm : m' = m
      · subst gm
        exact k5 i c e
      · obtain ⟨-, -, -, -, -, q6', -⟩ := hW.2.2.2 m' a (by omega)
        rw [k6 _ (by omega)]
        exact hh m' i a (by omega) c e
    · have ef : ffl (res P) (r + 1) m = ((res P m).1, m, (res P m).2.1) := by simp only [ffl, if_neg g]
      rw [ef] at h2
      rw [if_neg g, hp1, (hC1.2.2.2 m m0 (by omega)).1.1, (hC1.2.2.1 _ q1.1 q1.2.1).1.2.2.2.2, wr_id (by omega) (by omega), k2 g, s133]
      simp only [Option.toList_some, List.cons_append, List.nil_append]
      rw [b132_72]
      exact ⟨hp0, by omega, hp0, by omega, h2 g σ1 k1⟩
end FF
