section METH
variable {σc σr σc' σr' : j3_S} {o : Nat} {tb : Int → Int} {sz m c nc : Int} {st : Ps}
theorem TC.A {e o' : Nat} {i x : Int} (h : TC σc tb sz) (he : (9000 == e) = false) : TC (σc.1, σc.2.1, j3_ast σc.2.2 e o' i x) tb sz := ⟨h.1, h.2.1, h.2.2.1, by simp only [j3_ast, up_e he]; exact h.2.2.2⟩
theorem TR.A {e : Nat} {i x : Int} (h : TR σr tb sz) (he : (10001 == e) = false) : TR (σr.1, σr.2.1, j3_ast σr.2.2 e 121 i x) tb sz := ⟨h.1, h.2.1, by simp only [j3_ast, up_e he]; exact h.2.2⟩
def fiP : Nat → Nat → Bool := fun e _ => [5002, 5003].elem e
def faP (o : Nat) : Nat → Nat → Bool := fun e o' => e == 3016 && o' == o
theorem pre_c (hp : pre σc o σr tb sz nc st) : cS σc st = σc := by
  have h3 : st = (σc.1 5002 73, σc.1 5003 73) := Prod.ext hp.2.1.1.symm hp.2.1.2.1.symm
  rw [h3]
  exact cS_id
theorem pL {np : Int} (m0 : 0 ≤ m) (m1 : m < 80) (np3 : np ≤ 3) : ∀ (r : Nat) (k : Int) (st : Ps) (σc σr : j3_S), k + r = np → 0 ≤ k → pre σc o σr tb sz nc st → σc.2.2 3015 o m = np → σr.2.2 10023 121 (160 + m) = np → (st.2 = 0 → ∀ p, 0 ≤ p → p < k → σr.2.2 10024 121 (3 * (160 + m) + p) = σc.2.2 3016 o (m * 3 + p) ∧ 0 ≤ σc.2.2 3016 o (m * 3 + p) ∧ σc.2.2 3016 o (m * 3 + p) ≤ nc) →
    ∃ st' σc' σr', (∀ d Q, T68 (d + 1) Q 48 [wO 5 73, wI c, wI m, wI np] [] σc' → T68 (d + 1) Q 48 [wO 5 73, wI c, wI m, wI k] [] σc) ∧ (∀ d Q, (∀ w, T163 (d + 2) Q 87 [wO 10 121, wI c, wI m, wI (160 + m), wI w] [] σr') → T163 (d + 2) Q 61 [wO 10 121, wI c, wI m, wI (160 + m), wI k] [] σr) ∧ pre σc' o σr' tb sz nc st' ∧ frg fiP (faP o) σc σc' ∧ frm [10004, 10007] [10008, 10024] σr σr' ∧ (st'.2 = 0 → st.2 = 0 ∧ st.1 ≤ st'.1) ∧ (st'.2 = 0 → ∀ p, 0 ≤ p → p < np → σr'.2.2 10024 121 (3 * (160 + m) + p) = σc'.2.2 3016 o (m * 3 + p) ∧ 0 ≤ σc'.2.2 3016 o (m * 3 + p) ∧ σc'.2.2 3016 o (m * 3 + p) ≤ nc) ∧ (∀ z, z < m * 3 → σc'.2.2 3016 o z = σc.2.2 3016 o z) ∧ (∀ z, z < 3 * (160 + m) → σr'.2.2 10024 121 z = σr.2.2 10024 121 z) ∧ (¬ st.2 = 0 → st' = st ∧ σr' = σr) ∧ LO σr σr'
  | 0, k, st, σc, σr, hk, k0, hp, hn, hn', ho => by
    have : k = np := by omega
    subst this
    refine ⟨st, σc, σr, fun d Q h => h, fun d Q h => ?_, hp, frg.rf, frm.rf, fun q => ⟨q, Int.le_refl _⟩, ho, fun _ _ => rfl, fun _ _ => rfl, fun _ => ⟨rfl, rfl⟩, LO.rf⟩
    rw [b163_61, hn', if_neg (by omega)]
    exact ⟨by omega, h _⟩
  | r + 1, k, st, σc, σr, hk, k0, hp, hn, hn', ho => by
    obtain ⟨⟨t1, t2, t3⟩, ⟨u1, u2, u3⟩, ⟨v1, v2, v3, v4, v5, v6⟩, w1⟩ := id hp
    have hb := nxv_b (tb := tb) (sz := sz) (st := st) (lo := 0) (hi := nc) (by omega)
    have hs1 := nxs_o (tb := tb) (lo := 0) (hi := nc) t3
    have hf := nxs_f (tb := tb) (sz := sz) (st := st) (lo := 0) (hi := nc)
    have hC : ∀ d (Q : j3_P), T68 (d + 1) Q 48 [wO 5 73, wI c, wI m, wI (k + 1)] [] (cS (σc.1, σc.2.1, j3_ast σc.2.2 3016 o (m * 3 + k) (nxv tb sz st 0 nc)) (nxs tb sz st 0 nc)) → T68 (d + 1) Q 48 [wO 5 73, wI c, wI m, wI k] [] σc := by
      intro d Q h
      rw [b68_48, v1, hn, if_pos (by omega), v3, s66' t1 u1 u2 t3]
      simp only [Option.toList_some, List.cons_append, List.nil_append]
      rw [b68_69]
      simp (disch := omega) only [wr_id]
      exact ⟨v2, by omega, v2, v2, by omega, h⟩
    have fC : frg fiP (faP o) σc (cS (σc.1, σc.2.1, j3_ast σc.2.2 3016 o (m * 3 + k) (nxv tb sz st 0 nc)) (nxs tb sz st 0 nc)) := by
      refine frg.I rfl (frg.I rfl (frg.A ?_ frg.rf))
      simp [faP]
    by_cases gf : st.2 = 0
    · have hR : ∀ d (Q : j3_P), T163 (d + 2) Q 61 [wO 10 121, wI c, wI m, wI (160 + m), wI (k + 1)] [] (rS (σr.1, σr.2.1, j3_ast σr.2.2 10024 121 (3 * (160 + m) + k) (nxv tb sz st 0 nc)) (nxs tb sz st 0 nc)) → T163 (d + 2) Q 61 [wO 10 121, wI c, wI m, wI (160 + m), wI k] [] σr := by
        intro d Q h
        have e := s159e (d := d) (Q := fun r σ1 => T163 (d + 2) Q 84 [wO 10 121, wI c, wI m, wI (160 + m), wI k] (r.toList ++ [wI (3 * (160 + m) + k), wA 10024 121]) σ1) (lo := 0) (hi := nc) t2 t3
        rw [rS_id u3 t3] at e
        rw [b163_61, hn', if_pos (by omega), u3.2.1, if_pos gf, v4]
        simp (disch := omega) only [wr_id]
        rw [e]
        simp only [Option.toList_some, List.cons_append, List.nil_append]
        rw [b163_84, rS_A (by decide), wr_id (by omega) (by omega)]
        exact ⟨by omega, by omega, by omega, h⟩
      have fR : frm [10004, 10007] [10008, 10024] σr (rS (σr.1, σr.2.1, j3_ast σr.2.2 10024 121 (3 * (160 + m) + k) (nxv tb sz st 0 nc)) (nxs tb sz st 0 nc)) := (frm.A rfl frm.rf : frm [10004, 10007] [10008, 10024] σr _).tr (rS_f.wd (sub_el rfl) (sub_el rfl))
      have loR : LO σr (rS (σr.1, σr.2.1, j3_ast σr.2.2 10024 121 (3 * (160 + m) + k) (nxv tb sz st 0 nc)) (nxs tb sz st 0 nc)) := (LO.A LO.rf (by rw [show loS 10024 = 480 from rfl]; omega)).tr (LO.fr rS_f rfl)
      have a16 : (cS (σc.1, σc.2.1, j3_ast σc.2.2 3016 o (m * 3 + k) (nxv tb sz st 0 nc)) (nxs tb sz st 0 nc)).2.2 3016 o = i_up (σc.2.2 3016 o) (m * 3 + k) (nxv tb sz st 0 nc) := by
        show j3_ast σc.2.2 3016 o (m * 3 + k) (nxv tb sz st 0 nc) 3016 o = _
        unfold j3_ast
        exact up_r
      have a24 : (rS (σr.1, σr.2.1, j3_ast σr.2.2 10024 121 (3 * (160 + m) + k) (nxv tb sz st 0 nc)) (nxs tb sz st 0 nc)).2.2 10024 121 = i_up (σr.2.2 10024 121) (3 * (160 + m) + k) (nxv tb sz st 0 nc) := by
        rw [rS_f.2.2 10024 121 rfl]
        simp only [j3_ast, up_r]
      have rk := rS_ok (σ := (σr.1, σr.2.1, j3_ast σr.2.2 10024 121 (3 * (160 + m) + k) (nxv tb sz st 0 nc))) hs1
      generalize hτ : cS (σc.1, σc.2.1, j3_ast σc.2.2 3016 o (m * 3 + k) (nxv tb sz st 0 nc)) (nxs tb sz st 0 nc) = τ at hC fC a16
      have tau1 : τ.1 5002 73 = (nxs tb sz st 0 nc).1 ∧ τ.1 5003 73 = (nxs tb sz st 0 nc).2 := by rw [← hτ]; exact cS_1
      generalize rS (σr.1, σr.2.1, j3_ast σr.2.2 10024 121 (3 * (160 + m) + k) (nxv tb sz st 0 nc)) (nxs tb sz st 0 nc) = ρ at hR fR a24 rk loR
      clear hτ
      generalize nxv tb sz st 0 nc = x at hb a16 a24
      generalize nxs tb sz st 0 nc = s1 at hs1 hf tau1 rk
      have hp' : pre τ o ρ tb sz nc s1 := ⟨⟨t1.fg fC rfl rfl, t2.fr fR rfl rfl, hs1⟩, ⟨tau1.1, tau1.2, rk⟩, ⟨by rw [fC.1]; exact v1, v2, (fC.2.1 3000 o rfl).trans v3, by rw [fR.2.2 10009 121 rfl]; exact v4, v5, v6⟩, by rw [fC.2.1 5007 73 rfl]; exact w1⟩
      obtain ⟨st', σc', σr', E1, E2, E3, E4, E5, E6, E7, E8, E9, E10, E11⟩ := pL m0 m1 np3 r (k + 1) s1 τ ρ (by omega) (by omega) hp' (by rw [fC.2.2 3015 o rfl]; exact hn) (by rw [fR.2.2 10023 121 rfl]; exact hn') (fun q p p0 p1 => by
        rw [a16, a24]
        by_cases g : p = k
        · subst g
          rw [iu_r, iu_r]
          exact ⟨rfl, hb.1, hb.2⟩
        · rw [iu_n (by omega), iu_n (by omega)]
          exact ho gf p p0 (by omega))
      refine ⟨st', σc', σr', fun d Q h => hC d Q (E1 d Q h), fun d Q h => hR d Q (E2 d Q h), E3, fC.tr E4, fR.tr E5, fun q => ?_, E7, fun z hz => ?_, fun z hz => ?_, fun q => absurd gf q, loR.tr E11⟩
      · have h1 := E6 q
        have h2 := hf h1.1
        exact ⟨h2.1, by omega⟩
      · rw [E8 z hz, a16, iu_n (by omega)]
      · rw [E9 z hz, a24, iu_n (by omega)]
    · -- it has failed: the class goes on alone
      obtain ⟨n1, n2⟩ := nxs_1 (tb := tb) (lo := 0) (hi := nc) gf t3
      rw [n1, n2] at hC fC
      have a16 : (cS (σc.1, σc.2.1, j3_ast σc.2.2 3016 o (m * 3 + k) 0) st).2.2 3016 o = i_up (σc.2.2 3016 o) (m * 3 + k) 0 := by
        show j3_ast σc.2.2 3016 o (m * 3 + k) 0 3016 o = _
        unfold j3_ast
        exact up_r
      have tau1 := cS_1 (σ := (σc.1, σc.2.1, j3_ast σc.2.2 3016 o (m * 3 + k) 0)) (st := st)
      generalize cS (σc.1, σc.2.1, j3_ast σc.2.2 3016 o (m * 3 + k) 0) st = τ at hC fC a16 tau1
      have hp' : pre τ o σr tb sz nc st := ⟨⟨t1.fg fC rfl rfl, t2, t3⟩, ⟨tau1.1, tau1.2, u3⟩, ⟨by rw [fC.1]; exact v1, v2, (fC.2.1 3000 o rfl).trans v3, v4, v5, v6⟩, by rw [fC.2.1 5007 73 rfl]; exact w1⟩
      obtain ⟨st', σc', σr', E1, E2, E3, E4, E5, E6, E7, E8, E9, E10, E11⟩ := pL m0 m1 np3 r (k + 1) st τ σr (by omega) (by omega) hp' (by rw [fC.2.2 3015 o rfl]; exact hn) hn' (fun q => absurd q gf)
      refine ⟨st, σc', σr, fun d Q h => hC d Q (E1 d Q h), fun d Q h => ?_, ?_, fC.tr E4, frm.rf, fun q => absurd q gf, fun q => absurd q gf, fun z hz => ?_, fun _ _ => rfl, fun _ => ⟨rfl, rfl⟩, LO.rf⟩
      · rw [b163_61, hn', if_pos (by omega), u3.2.1, if_neg gf]
        exact ⟨by omega, h _⟩
      · obtain ⟨z1, z2⟩ := E10 gf
        rw [z1, z2] at E3
        exact E3
      · rw [E8 z hz, a16, iu_n (by omega)]
end METH
