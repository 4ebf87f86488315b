/-! reading all classes on both sides -/
section ALL
variable {σc σr σc' σr' : j3_S} {o : Nat} {tb : Int → Int} {sz m c nc : Int} {st : Ps}
theorem cL : ∀ (r : Nat) (c M : Int) (st : Ps) (σc σr : j3_S), c + r = nc → 0 ≤ c → pre σc o σr tb sz nc st → 0 ≤ M → M ≤ 8 * c → σc.1 3001 o = M → σr.2.2 10018 121 2 = M → okC σc o σr nc c M st →
    ∃ st' σc' σr' M', (∀ d Q, (∀ x, T64 (d + 5) Q 54 [wO 5 73, wA 9000 0, wI sz, wO 3 o, wI x] [] σc') → T64 (d + 5) Q 41 [wO 5 73, wA 9000 0, wI sz, wO 3 o, wI c] [] σc) ∧ (∀ d Q, (∀ x, T161 (d + 5) Q 42 [wO 10 121, wI x] [] σr') → T161 (d + 5) Q 28 [wO 10 121, wI c] [] σr) ∧ pre σc' o σr' tb sz nc st' ∧ frg (fiC o) (faC o) σc σc' ∧ frm [10004, 10007] laC σr σr' ∧ (σc'.1 3001 o = M' ∧ σr'.2.2 10018 121 2 = M' ∧ 0 ≤ M' ∧ M' ≤ 80) ∧ okC σc' o σr' nc nc M' st' ∧ LO σr σr'
  | 0, c, M, st, σc, σr, hc, c0, hp, M0, M8, hI, hI', hk => by
    obtain ⟨⟨t1, t2, t3⟩, ⟨u1, u2, u3⟩, ⟨v1, v2, v3, v4, v5, v6⟩, w1⟩ := id hp
    have e : c = nc := by omega
    subst e
    refine ⟨st, σc, σr, M, fun d Q h => ?_, fun d Q h => ?_, hp, frg.rf, frm.rf, ⟨hI, hI', M0, by omega⟩, hk, LO.rf⟩
    · rw [b64_41, v1, v3, if_neg (by omega)]
      exact ⟨v2, h _⟩
    · rw [b161_28, v4, if_neg (by omega)]
      exact ⟨by omega, h _⟩
  | r + 1, c, M, st, σc, σr, hc, c0, hp, M0, M8, hI, hI', hk => by
    obtain ⟨⟨t1, t2, t3⟩, ⟨u1, u2, u3⟩, ⟨v1, v2, v3, v4, v5, v6⟩, w1⟩ := id hp
    by_cases gf : st.2 = 0
    · obtain ⟨s1, τ, ρ, M1, C1, R1, hp1, fC, fR, ⟨i1, i2, i3, i4⟩, ok1, q1, lo1⟩ := rdClass c0 (by omega) hp M0 M8 hI hI' hk
      obtain ⟨st', σc', σr', M', E1, E2, E3, E4, E5, E6, E7, E8⟩ := cL r (c + 1) M1 s1 τ ρ (by omega) (by omega) hp1 i3 i4 i1 i2 ok1
      refine ⟨st', σc', σr', M', fun d Q h => ?_, fun d Q h => ?_, E3, fC.tr E4, fR.tr E5, E6, E7, lo1.tr E8⟩
      · rw [b64_41, v1, v3, if_pos (by omega), u2, if_pos gf]
        refine ⟨v2, C1 d _ ?_⟩
        simp only [Option.toList_none, List.nil_append]
        rw [b64_52, wr_id (by omega) (by omega)]
        exact E1 d Q h
      · rw [b161_28, v4, if_pos (by omega), u3.2.1, if_pos gf]
        refine ⟨by omega, R1 d _ ?_⟩
        simp only [Option.toList_none, List.nil_append]
        rw [b161_40, wr_id (by omega) (by omega)]
        exact E2 d Q h
    · refine ⟨st, σc, σr, M, fun d Q h => ?_, fun d Q h => ?_, hp, frg.rf, frm.rf, ⟨hI, hI', M0, by omega⟩, ⟨fun q => absurd q gf, fun q => absurd q gf⟩, LO.rf⟩
      · rw [b64_41, v1, v3, if_pos (by omega), u2, if_neg gf]
        exact ⟨v2, h _⟩
      · rw [b161_28, v4, if_pos (by omega), u3.2.1, if_neg gf]
        exact ⟨by omega, h _⟩
/-- what reading may change -/
def fiA (o : Nat) : Nat → Nat → Bool := fun e o' => [5001, 5002, 5003, 5007].elem e || ([3000, 3001].elem e && o' == o)
def laA : List Nat := [10009] ++ laC
theorem rdAll (ho : ¬ o = 0) (h40 : sz ≤ 4000) (hz : 0 ≤ sz) (htc : ∀ i, 0 ≤ i → i < sz → i_an (σc.2.2 9000 0 i) 255 = tb i) (htr : TR σr tb sz) (hb : σr.1 10007 121 = 0) :
    ∃ st' σc' σr' M' nc, (∀ d Q, (∀ x, T64 (d + 5) Q 54 [wO 5 73, wA 9000 0, wI sz, wO 3 o, wI x] [] σc') → j3_tc false (d + 6) 64 [wO 5 73, wA 9000 0, wI sz, wO 3 o] σc Q) ∧ (∀ d Q, (∀ x, T161 (d + 5) Q 42 [wO 10 121, wI x] [] σr') → j3_tc true (d + 6) 161 [wO 10 121] σr Q) ∧ pre σc' o σr' tb sz nc st' ∧ (σc'.2.1 = j3_upP (j3_upP σc.2.1 3 1) 4 o ∧ (∀ e o', fiA o e o' = false → σc'.1 e o' = σc.1 e o') ∧ ∀ e o', faC o e o' = false → σc'.2.2 e o' = σc.2.2 e o') ∧ frm [10004, 10007] laA σr σr' ∧ (σc'.1 3001 o = M' ∧ σr'.2.2 10018 121 2 = M' ∧ 0 ≤ M' ∧ M' ≤ 80) ∧ okC σc' o σr' nc nc M' st' ∧ LO σr σr' := by
  have p0 : pso sz (0, 0) := ⟨by decide, hz, Or.inl rfl⟩
  generalize hs1 : nxs tb sz (0, 0) 83 83 = s1
  have p1 : pso sz s1 := by rw [← hs1]; exact nxs_o p0
  generalize hs2 : nxs tb sz s1 72 72 = s2
  have p2 : pso sz s2 := by rw [← hs2]; exact nxs_o p1
  generalize hx3 : nxv tb sz s2 1 10 = nc
  generalize hs3 : nxs tb sz s2 1 10 = s3
  have p3 : pso sz s3 := by rw [← hs3]; exact nxs_o p2
  have bx3 : 1 ≤ nc ∧ nc ≤ 10 := by rw [← hx3]; exact nxv_b (by omega)
  generalize hσ0 : ((j3_up (j3_up (j3_up (j3_up σc.1 5001 73 sz) 5002 73 0) 5003 73 0) 5007 73 0, j3_upP (j3_upP σc.2.1 3 1) 4 o, σc.2.2) : j3_S) = σ0
  have i0 : σ0.1 5002 73 = 0 ∧ σ0.1 5003 73 = 0 ∧ σ0.1 5007 73 = 0 ∧ σ0.1 5001 73 = sz := by
    rw [← hσ0]
    simp [j3_up]
  have P0 : σ0.2.1 3 = 1 ∧ σ0.2.1 4 = o := by
    rw [← hσ0]
    exact ⟨rfl, rfl⟩
  have A0 : σ0.2.2 = σc.2.2 := by rw [← hσ0]
  have T0 : TC σ0 tb sz := ⟨i0.2.2.2, h40, by rw [P0.1]; decide, by rw [A0]; exact htc⟩
  have F0 : ∀ e o', [5001, 5002, 5003, 5007].elem e = false → σ0.1 e o' = σc.1 e o' := by
    intro e o' he
    rw [← hσ0]
    exact (frm.I rfl (frm.I rfl (frm.I rfl (frm.I rfl frm.rf))) : frm [5001, 5002, 5003, 5007] [] σc (j3_up (j3_up (j3_up (j3_up σc.1 5001 73 sz) 5002 73 0) 5003 73 0) 5007 73 0, σc.2.1, σc.2.2)).2.1 e o' he
  have hC0 : ∀ d (Q : j3_P), T64 (d + 1) Q 41 [wO 5 73, wA 9000 0, wI sz, wO 3 o, wI 0] [] (j3_up (j3_up (cS σ0 s3).1 3000 o nc) 3001 o 0, (cS σ0 s3).2.1, (cS σ0 s3).2.2) → j3_tc false (d + 2) 64 [wO 5 73, wA 9000 0, wI sz, wO 3 o] σc Q := by
    intro d Q h
    rw [e64, b64_0, hσ0, s66' (st := (0, 0)) T0 i0.1 i0.2.1 p0, hs1]
    simp only [Option.toList_some, List.cons_append, List.nil_append]
    rw [b64_22, s66 T0 p1, hs2]
    simp only [Option.toList_some, List.cons_append, List.nil_append]
    rw [b64_27, show (cS σ0 s2).2.1 4 = o from P0.2, s66 T0 p2, hx3, hs3]
    simp only [Option.toList_some, List.cons_append, List.nil_append]
    rw [b64_34, show (cS σ0 s3).2.1 4 = o from P0.2]
    exact ⟨Or.inl trivial, ho, ho, h⟩
  have hR0 : ∀ d (Q : j3_P), T161 (d + 2) Q 28 [wO 10 121, wI 0] [] (rS (σr.1, σr.2.1, j3_ast (j3_ast σr.2.2 10009 121 2 nc) 10018 121 2 0) s3) → j3_tc true (d + 3) 161 [wO 10 121] σr Q := by
    intro d Q h
    have e0 : ((j3_up σr.1 10004 121 0, σr.2.1, σr.2.2) : j3_S) = rS σr (0, 0) := by
      unfold rS
      rw [if_pos rfl]
      refine Prod.ext ?_ rfl
      show j3_up σr.1 10004 121 0 = j3_up (j3_up σr.1 10004 121 0) 10007 121 0
      rw [up_id' (f := j3_up σr.1 10004 121 0) ((up_e rfl).trans hb)]
    rw [e161, b161_0, e0, s159e htr p0, hs1]
    simp only [Option.toList_some, List.cons_append, List.nil_append]
    rw [b161_7, s159e htr p1, hs2]
    simp only [Option.toList_some, List.cons_append, List.nil_append]
    rw [b161_12, s159e htr p2, hx3, hs3]
    simp only [Option.toList_some, List.cons_append, List.nil_append]
    rw [b161_20]
    refine ⟨by omega, by omega, ?_⟩
    have q1 := rS_A (σ := σr) (st := s3) (e := 10009) (i := 2) (x := nc) (by decide)
    have q2 := rS_A (σ := (σr.1, σr.2.1, j3_ast σr.2.2 10009 121 2 nc)) (st := s3) (e := 10018) (i := 2) (x := 0) (by decide)
    rw [← q1] at q2
    rw [← q2] at h
    exact h
  generalize hτ : ((j3_up (j3_up (cS σ0 s3).1 3000 o nc) 3001 o 0, (cS σ0 s3).2.1, (cS σ0 s3).2.2) : j3_S) = τ at hC0
  have t1 : τ.1 5002 73 = s3.1 ∧ τ.1 5003 73 = s3.2 := by
    rw [← hτ]
    simp only [up_e (show ((5002 : Nat) == 3001) = false from rfl), up_e (show ((5002 : Nat) == 3000) = false from rfl), up_e (show ((5003 : Nat) == 3001) = false from rfl), up_e (show ((5003 : Nat) == 3000) = false from rfl)]
    exact cS_1
  have t2 : τ.1 3000 o = nc ∧ τ.1 3001 o = 0 := by
    rw [← hτ]
    simp [j3_up]
  have t3 : τ.2.1 = σ0.2.1 ∧ τ.2.2 = σ0.2.2 := by rw [← hτ]; exact ⟨rfl, rfl⟩
  have t4 : τ.1 5007 73 = 0 ∧ τ.1 5001 73 = sz := by
    rw [← hτ]
    simp only [up_e (show ((5007 : Nat) == 3001) = false from rfl), up_e (show ((5007 : Nat) == 3000) = false from rfl), up_e (show ((5001 : Nat) == 3001) = false from rfl), up_e (show ((5001 : Nat) == 3000) = false from rfl)]
    rw [cS_e rfl rfl, cS_e rfl rfl]
    exact ⟨i0.2.2.1, i0.2.2.2⟩
  have t5 : ∀ e o', fiA o e o' = false → τ.1 e o' = σc.1 e o' := by
    intro e o' he
    simp only [fiA, Bool.or_eq_false_iff, Bool.and_eq_false_iff] at he
    rw [← hτ]
    have n1 : ¬ (e = 3001 ∧ o' = o) := fun q => by
      rw [q.1, q.2] at he
      rcases he.2 with h | h
      · cases h
      · simp at h
    have n2 : ¬ (e = 3000 ∧ o' = o) := fun q => by
      rw [q.1, q.2] at he
      rcases he.2 with h | h
      · cases h
      · simp at h
    show j3_up (j3_up (cS σ0 s3).1 3000 o nc) 3001 o 0 e o' = _
    rw [up_ne n1, up_ne n2]
    rw [cS_e (elem_ne (l := [5001, 5002, 5003, 5007]) rfl he.1) (elem_ne (l := [5001, 5002, 5003, 5007]) rfl he.1)]
    exact F0 e o' he.1
  clear hτ
  generalize hρ : rS (σr.1, σr.2.1, j3_ast (j3_ast σr.2.2 10009 121 2 nc) 10018 121 2 0) s3 = ρ at hR0
  have fρ : frm [10004, 10007] laA σr ρ := by
    rw [← hρ]
    refine frm.tr (σ' := (σr.1, σr.2.1, j3_ast (j3_ast σr.2.2 10009 121 2 nc) 10018 121 2 0)) (frm.A rfl (frm.A rfl frm.rf)) (rS_f.wd (sub_el rfl) (sub_el rfl))
  have loρ : LO σr ρ := by
    rw [← hρ]
    refine LO.tr (σ' := (σr.1, σr.2.1, j3_ast (j3_ast σr.2.2 10009 121 2 nc) 10018 121 2 0)) ?_ (LO.fr rS_f rfl)
    exact LO.A (LO.A LO.rf (by rw [show loS 10009 = 2 from rfl]; omega)) (by rw [show loS 10018 = 2 from rfl]; omega)
  have r1 : ρ.2.2 10009 121 2 = nc ∧ ρ.2.2 10018 121 2 = 0 := by
    rw [← hρ, rS_f.2.2 10009 121 rfl, rS_f.2.2 10018 121 rfl]
    simp only [j3_ast, up_r, up_e (show ((10009 : Nat) == 10018) = false from rfl), iu_r]
    exact ⟨trivial, trivial⟩
  have r2 : rOk ρ s3 := by rw [← hρ]; exact rS_ok p3
  have hp : pre τ o ρ tb sz nc s3 := ⟨⟨⟨t4.2, h40, by rw [t3.1]; exact T0.2.2.1, by rw [t3.2]; exact T0.2.2.2⟩, htr.fr fρ rfl rfl, p3⟩, ⟨t1.1, t1.2, r2⟩, ⟨by rw [t3.1]; exact P0.2, ho, t2.1, r1.1, bx3.1, bx3.2⟩, by rw [t4.1]; decide⟩
  have hk : okC τ o ρ nc 0 0 s3 := by
    refine ⟨fun q => ⟨fun m' h0 h1 => absurd h1 (by omega), ⟨fun n n0 n1 => ?_, fun n n' n0 n1 n2 => ?_, fun m' i' q => ?_⟩, by rw [t4.1]; exact p3.1⟩, fun q => ⟨fun c' h0 h1 => absurd h1 (by omega), fun c' h0 h1 => absurd h1 (by omega), fun m h0 h1 => absurd h1 (by omega), fun c1 c2 h0 h1 h2 => absurd h2 (by omega)⟩⟩
    · rw [t4.1] at n1
      omega
    · rw [t4.1] at n2
      omega
    · unfold vld at q
      omega
  obtain ⟨st', σc', σr', M', E1, E2, E3, E4, E5, E6, E7, E8⟩ := cL (nc := nc) nc.toNat 0 0 s3 τ ρ (by omega) (by omega) hp (by omega) (by omega) t2.2 r1.2 hk
  refine ⟨st', σc', σr', M', nc, fun d Q h => ?_, fun d Q h => ?_, E3, ⟨?_, fun e o' he => ?_, fun e o' he => ?_⟩, fρ.tr (E5.wd (sub_el rfl) (sub_el rfl)), E6, E7, loρ.tr E8⟩
  · rw [show d + 6 = (d + 4) + 2 from rfl]
    exact hC0 (d + 4) Q (E1 d Q h)
  · rw [show d + 6 = (d + 3) + 3 from rfl]
    exact hR0 (d + 3) Q (E2 d Q h)
  · rw [E4.1, t3.1, ← hσ0]
  · rw [E4.2.1 e o' ?_]
    · exact t5 e o' he
    · simp only [fiA, Bool.or_eq_false_iff, Bool.and_eq_false_iff] at he
      simp only [fiC, Bool.or_eq_false_iff, Bool.and_eq_false_iff]
      refine ⟨sub_el (l := [5002, 5003, 5007]) (l' := [5001, 5002, 5003, 5007]) rfl e he.1, ?_⟩
      rcases he.2 with h | h
      · exact Or.inl (elem_ne (l := [3000, 3001]) rfl h)
      · exact Or.inr h
  · rw [E4.2.2 e o' he, t3.2, A0]
end ALL
