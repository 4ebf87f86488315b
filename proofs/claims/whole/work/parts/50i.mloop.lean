def fiC (o : Nat) : Nat → Nat → Bool := fun e o' => [5002, 5003, 5007].elem e || (e == 3001 && o' == o)
section MLP
variable {σc σr σc' σr' : j3_S} {o : Nat} {tb : Int → Int} {sz m c nc : Int} {st : Ps}
theorem mL {mc M0 x2 : Int} (c0 : 0 ≤ c) (c1 : c < 10) (hM0 : 0 ≤ M0) (hM8 : M0 + mc ≤ 80) : ∀ (r : Nat) (k : Int) (st : Ps) (σc σr : j3_S), k + r = mc → 0 ≤ k → pre σc o σr tb sz nc st → σc.1 3001 o = M0 + k → σr.2.2 10018 121 2 = M0 + k → σc.2.2 3006 o c = mc → σr.2.2 10014 121 (20 + c) = mc → okM σc o σr nc (M0 + k) st → (st.2 = 0 → ∀ m', M0 ≤ m' → m' < M0 + k → σc.2.2 3011 o m' = c) →
    ∃ st' σc' σr' M', (∀ d Q, Q none σc' → ∀ w4, T67 (d + 4) Q 112 [wO 5 73, wI c, wI x2, wI k, w4] [] σc) ∧ (∀ d Q, Q none σr' → ∀ w4, T162 (d + 4) Q 96 [wO 10 121, wI c, wI (20 + c), wI k, w4] [] σr) ∧ pre σc' o σr' tb sz nc st' ∧ frg (fiC o) (faM o) σc σc' ∧ frm [10004, 10007] laM σr σr' ∧ (σc'.1 3001 o = M' ∧ σr'.2.2 10018 121 2 = M' ∧ M0 + k ≤ M' ∧ M' ≤ M0 + mc) ∧ okM σc' o σr' nc M' st' ∧ (st'.2 = 0 → st.2 = 0 ∧ M' = M0 + mc ∧ (∀ m', M0 ≤ m' → m' < M' → σc'.2.2 3011 o m' = c) ∧ ∀ m', m' < M0 + k → σc'.2.2 3011 o m' = σc.2.2 3011 o m') ∧ LO σr σr'
  | 0, k, st, σc, σr, hk, k0, hp, hI, hI', hn, hn', ho, hw => by
    obtain ⟨⟨t1, t2, t3⟩, ⟨u1, u2, u3⟩, ⟨v1, v2, v3, v4, v5, v6⟩, w1⟩ := id hp
    refine ⟨st, σc, σr, M0 + k, fun d Q h w4 => ?_, fun d Q h w4 => ?_, hp, frg.rf, frm.rf, ⟨hI, hI', by omega, by omega⟩, ho, fun q => ⟨q, by omega, hw q, fun _ _ => rfl⟩, LO.rf⟩
    · rw [b67_112, v1, hn, if_neg (by omega)]
      exact ⟨v2, by omega, h⟩
    · rw [b162_96, hn', if_neg (by omega)]
      exact ⟨by omega, h⟩
  | r + 1, k, st, σc, σr, hk, k0, hp, hI, hI', hn, hn', ho, hw => by
    obtain ⟨⟨t1, t2, t3⟩, ⟨u1, u2, u3⟩, ⟨v1, v2, v3, v4, v5, v6⟩, w1⟩ := id hp
    by_cases gf : st.2 = 0
    · obtain ⟨s1, τ, ρ, C1, R1, hp1, fC, fR, ok1, m1, q1, lo1⟩ := rdMeth (c := c) (m := M0 + k) (by omega) (by omega) hp hI' ho
      obtain ⟨⟨t11, t12, t13⟩, ⟨u11, u12, u13⟩, ⟨v11, -, v13, v14, -, -⟩, w11⟩ := id hp1
      have hI1 : τ.1 3001 o = M0 + k := (fC.2.1 3001 o rfl).trans hI
      have f2 : frg (fiC o) (faM o) τ (j3_up τ.1 3001 o (M0 + k + 1), τ.2.1, τ.2.2) := by
        refine frg.I ?_ frg.rf
        simp [fiC]
      have e7 : j3_up τ.1 3001 o (M0 + k + 1) 5007 73 = τ.1 5007 73 := up_e rfl
      have hp2 : pre (j3_up τ.1 3001 o (M0 + k + 1), τ.2.1, τ.2.2) o ρ tb sz nc s1 := ⟨⟨t11.fg f2 rfl rfl, t12, t13⟩, ⟨by simp only [up_e (show ((5002 : Nat) == 3001) = false from rfl)]; exact u11, by simp only [up_e (show ((5003 : Nat) == 3001) = false from rfl)]; exact u12, u13⟩, ⟨v11, v2, by simp only [up_e (show ((3000 : Nat) == 3001) = false from rfl)]; exact v13, v14, v5, v6⟩, by show 0 ≤ j3_up τ.1 3001 o (M0 + k + 1) 5007 73; rw [e7]; exact w11⟩
      have ok2 : okM (j3_up τ.1 3001 o (M0 + k + 1), τ.2.1, τ.2.2) o ρ nc (M0 + (k + 1)) s1 := by
        intro q
        rw [show M0 + (k + 1) = M0 + k + 1 by omega]
        obtain ⟨k1, k2, k3⟩ := ok1 q
        exact ⟨k1, k2.mv e7 rfl rfl rfl rfl (fun _ _ => rfl) (Int.le_refl _), by show j3_up τ.1 3001 o (M0 + k + 1) 5007 73 ≤ _; rw [e7]; exact k3⟩
      obtain ⟨st', σc', σr', M', E1, E2, E3, E4, E5, E6, E7, E8, E9⟩ := mL (x2 := x2) c0 c1 hM0 hM8 r (k + 1) s1 (j3_up τ.1 3001 o (M0 + k + 1), τ.2.1, τ.2.2) ρ (by omega) (by omega) hp2 (by simp only [up_r]; omega) (by rw [m1]; omega) (by show τ.2.2 3006 o c = mc; rw [fC.2.2 3006 o rfl]; exact hn) (by rw [fR.2.2 10014 121 rfl]; exact hn') ok2 (fun q m' h0 h1 => by
        obtain ⟨a1, a2, a3⟩ := q1 q
        show τ.2.2 3011 o m' = c
        by_cases g : m' = M0 + k
        · subst g
          exact a2
        · rw [a3 m' (by omega)]
          exact hw gf m' h0 (by omega))
      have fC' : frg (fiC o) (faM o) σc τ := fC.wd (fun e o' h => by
        simp only [fiC, Bool.or_eq_false_iff] at h
        exact h.1) (fun _ _ h => h)
      refine ⟨st', σc', σr', M', fun d Q h w4 => ?_, fun d Q h w4 => ?_, E3, fC'.tr (f2.tr E4), fR.tr E5, ⟨E6.1, E6.2.1, by omega, E6.2.2.2⟩, E7, fun q => ?_, lo1.tr E9⟩
      · rw [b67_112, v1, hn, if_pos (by omega), u2, if_pos gf, hI]
        refine ⟨v2, by omega, v2, C1 d _ ?_⟩
        simp only [Option.toList_none, List.nil_append]
        rw [b67_128, v11, hI1, wr_id (by omega) (by omega), wr_id (by omega) (by omega)]
        exact ⟨v2, E1 d Q h w4⟩
      · rw [b162_96, hn', if_pos (by omega), u3.2.1, if_pos gf]
        refine ⟨by omega, R1 d _ ?_⟩
        simp only [Option.toList_none, List.nil_append]
        rw [b162_108, wr_id (by omega) (by omega)]
        exact E2 d Q h w4
      · obtain ⟨x1, x2', x3, x4⟩ := E8 q
        obtain ⟨a1, a2, a3⟩ := q1 x1
        refine ⟨a1, x2', x3, fun m' h => ?_⟩
        rw [x4 m' (by omega)]
        exact a3 m' h
    · refine ⟨st, σc, σr, M0 + k, fun d Q h w4 => ?_, fun d Q h w4 => ?_, hp, frg.rf, frm.rf, ⟨hI, hI', by omega, by omega⟩, ho, fun q => absurd q gf, LO.rf⟩
      · rw [b67_112, v1, hn, if_pos (by omega), u2, if_neg gf]
        exact ⟨v2, by omega, h⟩
      · rw [b162_96, hn', if_pos (by omega), u3.2.1, if_neg gf]
        exact ⟨by omega, h⟩
end MLP
