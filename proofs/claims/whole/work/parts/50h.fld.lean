/-! the fields, the methods of a class: both readers -/
def faF (o : Nat) : Nat → Nat → Bool := fun e o' => [3008, 3009, 3010].elem e && o' == o
def FRr (σc : j3_S) (o : Nat) (σr : j3_S) (nc c f : Int) : Prop := (σr.2.2 10015 121 (120 + 6 * c + f) = σc.2.2 3008 o (c * 6 + f) ∧ σr.2.2 10016 121 (120 + 6 * c + f) = σc.2.2 3009 o (c * 6 + f) ∧ σr.2.2 10017 121 (120 + 6 * c + f) = σc.2.2 3010 o (c * 6 + f)) ∧ (0 ≤ σc.2.2 3009 o (c * 6 + f) ∧ σc.2.2 3009 o (c * 6 + f) ≤ nc) ∧ (σc.2.2 3010 o (c * 6 + f) = 0 ∨ σc.2.2 3010 o (c * 6 + f) = 1)
section FLD
variable {σc σr σc' σr' : j3_S} {o : Nat} {tb : Int → Int} {sz m c nc : Int} {st : Ps}
theorem fL {nf x2 : Int} (c0 : 0 ≤ c) (c1 : c < 10) (nf6 : nf ≤ 6) : ∀ (r : Nat) (k : Int) (st : Ps) (σc σr : j3_S), k + r = nf → 0 ≤ k → pre σc o σr tb sz nc st → σc.2.2 3005 o c = nf → σr.2.2 10012 121 (20 + c) = nf → (st.2 = 0 → ∀ f, 0 ≤ f → f < k → FRr σc o σr nc c f) →
    ∃ st' σc' σr', (∀ d Q, (∀ w, T67 (d + 1) Q 49 [wO 5 73, wI c, wI x2, wI nf, w] [] σc') → ∀ w4, T67 (d + 1) Q 49 [wO 5 73, wI c, wI x2, wI k, w4] [] σc) ∧ (∀ d Q, (∀ k w, T162 (d + 2) Q 78 [wO 10 121, wI c, wI (20 + c), wI k, w] [] σr') → ∀ w4, T162 (d + 2) Q 32 [wO 10 121, wI c, wI (20 + c), wI k, w4] [] σr) ∧ pre σc' o σr' tb sz nc st' ∧ frg fiP (faF o) σc σc' ∧ frm [10004, 10007] [10008, 10015, 10016, 10017] σr σr' ∧ (st'.2 = 0 → st.2 = 0 ∧ st.1 ≤ st'.1) ∧ (st'.2 = 0 → ∀ f, 0 ≤ f → f < nf → FRr σc' o σr' nc c f) ∧ (∀ e z, z < c * 6 → [3008, 3009, 3010].elem e = true → σc'.2.2 e o z = σc.2.2 e o z) ∧ (∀ e z, z < 120 + 6 * c → [10015, 10016, 10017].elem e = true → σr'.2.2 e 121 z = σr.2.2 e 121 z) ∧ (¬ st.2 = 0 → st' = st ∧ σr' = σr) ∧ LO σr σr'
  | 0, k, st, σc, σr, hk, k0, hp, hn, hn', ho => by
    have : k = nf := by omega
    subst this
    refine ⟨st, σc, σr, fun d Q h => h, fun d Q h w4 => ?_, hp, frg.rf, frm.rf, fun q => ⟨q, Int.le_refl _⟩, ho, fun _ _ _ _ => rfl, fun _ _ _ _ => rfl, fun _ => ⟨rfl, rfl⟩, LO.rf⟩
    rw [b162_32, hn', if_neg (by omega)]
    exact ⟨by omega, h _ _⟩
  | r + 1, k, st, σc, σr, hk, k0, hp, hn, hn', ho => by
    obtain ⟨⟨t1, t2, t3⟩, ⟨u1, u2, u3⟩, ⟨v1, v2, v3, v4, v5, v6⟩, w1⟩ := id hp
    generalize hx1 : nxv tb sz st 1 255 = x1
    generalize hs1 : nxs tb sz st 1 255 = s1
    have p1 : pso sz s1 := by rw [← hs1]; exact nxs_o t3
    generalize hx3 : nxv tb sz s1 0 nc = x3
    generalize hs2 : nxs tb sz s1 0 nc = s2
    have p2 : pso sz s2 := by rw [← hs2]; exact nxs_o p1
    generalize hx4 : nxv tb sz s2 0 1 = x4
    generalize hs3 : nxs tb sz s2 0 1 = s3
    have p3 : pso sz s3 := by rw [← hs3]; exact nxs_o p2
    have bx3 : 0 ≤ x3 ∧ x3 ≤ nc := by rw [← hx3]; exact nxv_b (by omega)
    have bx4 : 0 ≤ x4 ∧ x4 ≤ 1 := by rw [← hx4]; exact nxv_b (by omega)
    have okch : s3.2 = 0 → st.2 = 0 ∧ st.1 ≤ s3.1 := by
      intro q
      have q2 := nxs_f' hs3 q
      have q1 := nxs_f' hs2 q2.1
      have q0 := nxs_f' hs1 q1.1
      exact ⟨q0.1, by omega⟩
    generalize hA : j3_ast (j3_ast (j3_ast σc.2.2 3008 o (c * 6 + k) x1) 3009 o (c * 6 + k) x3) 3010 o (c * 6 + k) x4 = A
    have hC : ∀ d (Q : j3_P), (∀ w, T67 (d + 1) Q 49 [wO 5 73, wI c, wI x2, wI (k + 1), w] [] (cS (σc.1, σc.2.1, A) s3)) → ∀ w4, T67 (d + 1) Q 49 [wO 5 73, wI c, wI x2, wI k, w4] [] σc := by
      intro d Q h w4
      have TA1 := t1.A (e := 3008) (o' := o) (i := c * 6 + k) (x := x1) rfl
      have TA2 := TA1.A (e := 3009) (o' := o) (i := c * 6 + k) (x := x3) rfl
      rw [b67_49, v1, hn, if_pos (by omega), s66' t1 u1 u2 t3, hx1, hs1]
      simp (disch := omega) only [wr_id, Option.toList_some, List.cons_append, List.nil_append]
      rw [b67_70, show (cS σc s1).2.1 4 = o from v1, show (cS σc s1).1 3000 o = nc by rw [cS_e rfl rfl]; exact v3]
      refine ⟨v2, by omega, v2, by omega, v2, v2, ?_⟩
      show j3_tc false (d + 1) 66 _ (cS (σc.1, σc.2.1, j3_ast σc.2.2 3008 o (c * 6 + k) x1) s1) _
      rw [s66 TA1 p1, hx3, hs2]
      simp only [Option.toList_some, List.cons_append, List.nil_append]
      rw [b67_81, show (cS (σc.1, σc.2.1, j3_ast σc.2.2 3008 o (c * 6 + k) x1) s2).2.1 4 = o from v1]
      refine ⟨by omega, v2, ?_⟩
      show j3_tc false (d + 1) 66 _ (cS (σc.1, σc.2.1, j3_ast (j3_ast σc.2.2 3008 o (c * 6 + k) x1) 3009 o (c * 6 + k) x3) s2) _
      rw [s66 TA2 p2, hx4, hs3]
      simp only [Option.toList_some, List.cons_append, List.nil_append]
      rw [b67_90, wr_id (by omega) (by omega)]
      refine ⟨by omega, ?_⟩
      rw [← hA] at h
      exact h _
    have fC : frg fiP (faF o) σc (cS (σc.1, σc.2.1, A) s3) := by
      rw [← hA]
      refine frg.I rfl (frg.I rfl (frg.A ?_ (frg.A ?_ (frg.A ?_ frg.rf)))) <;> simp [faF]
    have a8 : A 3008 o = i_up (σc.2.2 3008 o) (c * 6 + k) x1 := by rw [← hA]; simp only [j3_ast, up_r, up_e (show ((3008 : Nat) == 3009) = false from rfl), up_e (show ((3008 : Nat) == 3010) = false from rfl)]
    have a9 : A 3009 o = i_up (σc.2.2 3009 o) (c * 6 + k) x3 := by rw [← hA]; simp only [j3_ast, up_r, up_e (show ((3009 : Nat) == 3008) = false from rfl), up_e (show ((3009 : Nat) == 3010) = false from rfl)]
    have a10 : A 3010 o = i_up (σc.2.2 3010 o) (c * 6 + k) x4 := by rw [← hA]; simp only [j3_ast, up_r, up_e (show ((3010 : Nat) == 3008) = false from rfl), up_e (show ((3010 : Nat) == 3009) = false from rfl)]
    have ec : (cS (σc.1, σc.2.1, A) s3).2.2 = A := rfl
    have tau := cS_1 (σ := (σc.1, σc.2.1, A)) (st := s3)
    clear hA
    generalize cS (σc.1, σc.2.1, A) s3 = τ at hC fC ec tau
    by_cases gf : st.2 = 0
    · generalize hB : j3_ast (j3_ast (j3_ast σr.2.2 10015 121 (120 + 6 * c + k) x1) 10016 121 (120 + 6 * c + k) x3) 10017 121 (120 + 6 * c + k) x4 = B
      have hR : ∀ d (Q : j3_P), (∀ w, T162 (d + 2) Q 32 [wO 10 121, wI c, wI (20 + c), wI (k + 1), w] [] (rS (σr.1, σr.2.1, B) s3)) → ∀ w4, T162 (d + 2) Q 32 [wO 10 121, wI c, wI (20 + c), wI k, w4] [] σr := by
        intro d Q h w4
        have TA1 := t2.A (e := 10015) (i := 120 + 6 * c + k) (x := x1) rfl
        have TA2 := TA1.A (e := 10016) (i := 120 + 6 * c + k) (x := x3) rfl
        have e0 := s159e (d := d) (Q := fun r σ1 => T162 (d + 2) Q 56 [wO 10 121, wI c, wI (20 + c), wI k, wI (120 + 6 * c + k)] (r.toList ++ [wI (120 + 6 * c + k), wA 10015 121]) σ1) (lo := 1) (hi := 255) t2 t3
        rw [rS_id u3 t3, hx1, hs1] at e0
        rw [b162_32, hn', if_pos (by omega), u3.2.1, if_pos gf]
        simp (disch := omega) only [wr_id]
        rw [e0]
        simp only [Option.toList_some, List.cons_append, List.nil_append]
        rw [b162_56, rS_f.2.2 10009 121 rfl, v4, rS_A (by decide), s159e TA1 p1, hx3, hs2]
        simp only [Option.toList_some, List.cons_append, List.nil_append]
        rw [b162_67, rS_A (by decide), s159e TA2 p2, hx4, hs3]
        simp only [Option.toList_some, List.cons_append, List.nil_append]
        rw [b162_75, rS_A (by decide), wr_id (by omega) (by omega)]
        rw [← hB] at h
        exact ⟨by omega, by omega, by omega, by omega, by omega, h _⟩
      have fR : frm [10004, 10007] [10008, 10015, 10016, 10017] σr (rS (σr.1, σr.2.1, B) s3) := by
        refine frm.tr (σ' := (σr.1, σr.2.1, B)) ?_ (rS_f.wd (sub_el rfl) (sub_el rfl))
        rw [← hB]
        exact frm.A rfl (frm.A rfl (frm.A rfl frm.rf))
      have b15 : B 10015 121 = i_up (σr.2.2 10015 121) (120 + 6 * c + k) x1 := by rw [← hB]; simp only [j3_ast, up_r, up_e (show ((10015 : Nat) == 10016) = false from rfl), up_e (show ((10015 : Nat) == 10017) = false from rfl)]
      have b16 : B 10016 121 = i_up (σr.2.2 10016 121) (120 + 6 * c + k) x3 := by rw [← hB]; simp only [j3_ast, up_r, up_e (show ((10016 : Nat) == 10015) = false from rfl), up_e (show ((10016 : Nat) == 10017) = false from rfl)]
      have b17 : B 10017 121 = i_up (σr.2.2 10017 121) (120 + 6 * c + k) x4 := by rw [← hB]; simp only [j3_ast, up_r, up_e (show ((10017 : Nat) == 10015) = false from rfl), up_e (show ((10017 : Nat) == 10016) = false from rfl)]
      have er : ∀ e, ¬ e = 10008 → (rS (σr.1, σr.2.1, B) s3).2.2 e 121 = B e 121 := fun e he => rS_f.2.2 e 121 (by simpa using he)
      have rok := rS_ok (σ := (σr.1, σr.2.1, B)) p3
      have loR : LO σr (rS (σr.1, σr.2.1, B) s3) := by
        refine LO.tr (σ' := (σr.1, σr.2.1, B)) ?_ (LO.fr rS_f rfl)
        rw [← hB]
        refine LO.A (LO.A (LO.A LO.rf ?_) ?_) ?_ <;> simp only [show loS 10015 = 120 from rfl, show loS 10016 = 120 from rfl, show loS 10017 = 120 from rfl] <;> omega
      clear hB
      generalize rS (σr.1, σr.2.1, B) s3 = ρ at hR fR er rok loR
      have hp' : pre τ o ρ tb sz nc s3 := ⟨⟨t1.fg fC rfl rfl, t2.fr fR rfl rfl, p3⟩, ⟨tau.1, tau.2, rok⟩, ⟨by rw [fC.1]; exact v1, v2, (fC.2.1 3000 o rfl).trans v3, by rw [fR.2.2 10009 121 rfl]; exact v4, v5, v6⟩, by rw [fC.2.1 5007 73 rfl]; exact w1⟩
      obtain ⟨st', σc', σr', E1, E2, E3, E4, E5, E6, E7, E8, E9, E10, E11⟩ := fL (x2 := x2) c0 c1 nf6 r (k + 1) s3 τ ρ (by omega) (by omega) hp' (by rw [fC.2.2 3005 o rfl]; exact hn) (by rw [fR.2.2 10012 121 rfl]; exact hn') (fun q f f0 f1 => by
        unfold FRr
        rw [ec, a8, a9, a10, er _ (by decide), er _ (by decide), er _ (by decide), b15, b16, b17]
        by_cases g : f = k
        · subst g
          simp only [iu_r]
          exact ⟨by simp, bx3, by omega⟩
        · have := ho gf f f0 (by omega)
          unfold FRr at this
          rw [iu_n (show ¬ c * 6 + f = c * 6 + k by omega), iu_n (show ¬ c * 6 + f = c * 6 + k by omega), iu_n (show ¬ c * 6 + f = c * 6 + k by omega), iu_n (show ¬ 120 + 6 * c + f = 120 + 6 * c + k by omega), iu_n (show ¬ 120 + 6 * c + f = 120 + 6 * c + k by omega), iu_n (show ¬ 120 + 6 * c + f = 120 + 6 * c + k by omega)]
          exact this)
      refine ⟨st', σc', σr', fun d Q h => hC d Q (E1 d Q h), fun d Q h => hR d Q (E2 d Q h), E3, fC.tr E4, fR.tr E5, fun q => ?_, E7, fun e z hz he => ?_, fun e z hz he => ?_, fun q => absurd gf q, loR.tr E11⟩
      · have h1 := E6 q
        have h2 := okch h1.1
        exact ⟨h2.1, by omega⟩
      · rw [E8 e z hz he, ec]
        simp at he
        rcases he with rfl | rfl | rfl
        · rw [a8, iu_n (by omega)]
        · rw [a9, iu_n (by omega)]
        · rw [a10, iu_n (by omega)]
      · rw [E9 e z hz he]
        simp at he
        rcases he with rfl | rfl | rfl
        · rw [er _ (by decide), b15, iu_n (by omega)]
        · rw [er _ (by decide), b16, iu_n (by omega)]
        · rw [er _ (by decide), b17, iu_n (by omega)]
    · have n1 := nxs_1 (tb := tb) (lo := 1) (hi := 255) gf t3
      have n2 : s1 = st := hs1.symm.trans n1.1
      subst n2
      have n3 := nxs_1 (tb := tb) (lo := 0) (hi := nc) gf t3
      have n4 : s2 = s1 := hs2.symm.trans n3.1
      subst n4
      have n5 := nxs_1 (tb := tb) (lo := 0) (hi := 1) gf t3
      have n6 : s3 = s2 := hs3.symm.trans n5.1
      subst n6
      have hp' : pre τ o σr tb sz nc s3 := ⟨⟨t1.fg fC rfl rfl, t2, t3⟩, ⟨tau.1, tau.2, u3⟩, ⟨by rw [fC.1]; exact v1, v2, (fC.2.1 3000 o rfl).trans v3, v4, v5, v6⟩, by rw [fC.2.1 5007 73 rfl]; exact w1⟩
      obtain ⟨st', σc', σr', E1, E2, E3, E4, E5, E6, E7, E8, E9, E10, E11⟩ := fL (x2 := x2) c0 c1 nf6 r (k + 1) s3 τ σr (by omega) (by omega) hp' (by rw [fC.2.2 3005 o rfl]; exact hn) hn' (fun q => absurd q gf)
      obtain ⟨z1, z2⟩ := E10 gf
      rw [z1, z2] at E3
      refine ⟨s3, σc', σr, fun d Q h => hC d Q (E1 d Q h), fun d Q h w4 => ?_, E3, fC.tr E4, frm.rf, fun q => absurd q gf, fun q => absurd q gf, fun e z hz he => ?_, fun _ _ _ _ => rfl, fun _ => ⟨rfl, rfl⟩, LO.rf⟩
      · rw [b162_32, hn', if_pos (by omega), u3.2.1, if_neg gf]
        exact ⟨by omega, h _ _⟩
      · rw [E8 e z hz he, ec]
        simp at he
        rcases he with rfl | rfl | rfl
        · rw [a8, iu_n (by omega)]
        · rw [a9, iu_n (by omega)]
        · rw [a10, iu_n (by omega)]
end FLD
