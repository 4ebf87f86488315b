section METH2
variable {σc σr σc' σr' : j3_S} {o : Nat} {tb : Int → Int} {sz m c nc : Int} {st : Ps}
theorem nxs_f' {lo hi : Int} {st' : Ps} (h : nxs tb sz st lo hi = st') (h0 : st'.2 = 0) : st.2 = 0 ∧ st'.1 = st.1 + 1 := by
  rw [← h] at h0 ⊢
  exact nxs_f h0
/-- what reading a method may change in the class -/
def faM (o : Nat) : Nat → Nat → Bool := fun e o' => [5005, 5006].elem e || ([3011, 3012, 3013, 3014, 3015, 3016, 3017].elem e && o' == o) || ([0, 1, 2, 3, 4].elem e && o' == o + 17)
def laM : List Nat := [10008, 10018, 10019, 10020, 10021, 10022, 10023, 10024, 10025, 10026, 10027, 10028, 10029, 10033]
def okM (σc : j3_S) (o : Nat) (σr : j3_S) (nc m : Int) (st : Ps) : Prop := st.2 = 0 → (∀ m', 0 ≤ m' → m' < m → MRr σc o σr nc m') ∧ TL σc o σr m 0 ∧ σc.1 5007 73 ≤ st.1
theorem TL.next {len : Int} (h : TL σc o σr m len) (hl : σc.2.2 0 (o + 17) m = len) (m0 : 0 ≤ m) : TL σc o σr (m + 1) 0 := by
  have e : ∀ m' i', vld (σc.2.2 0 (o + 17)) m len m' i' ↔ vld (σc.2.2 0 (o + 17)) (m + 1) 0 m' i' := by
    intro m' i'
    unfold vld
    constructor
    · rintro ⟨a1, a2, a3, a4, a5⟩
      exact ⟨a1, a2, a3, a4, by omega⟩
    · rintro ⟨a1, a2, a3, a4, a5⟩
      refine ⟨a1, a2, a3, a4, ?_⟩
      by_cases g : m' = m
      · subst g
        exact Or.inr ⟨rfl, by omega⟩
      · exact Or.inl (by omega)
  obtain ⟨h1, h2, h3⟩ := h
  refine ⟨fun n n0 n1 => ?_, h2, fun m' i' q => h3 m' i' ((e m' i').mpr q)⟩
  obtain ⟨m', i', q, r⟩ := h1 n n0 n1
  exact ⟨m', i', (e m' i').mp q, r⟩
theorem TL.mv {i : Int} (h : TL σc o σr m i) (h1 : σc'.1 5007 73 = σc.1 5007 73) (h2 : σc'.2.2 5005 73 = σc.2.2 5005 73) (h3 : σc'.2.2 5006 73 = σc.2.2 5006 73) (h4 : σc'.2.2 1 (o + 17) = σc.2.2 1 (o + 17)) (h5 : σr'.2.2 10033 121 = σr.2.2 10033 121) (h6 : ∀ z, z < m → σc'.2.2 0 (o + 17) z = σc.2.2 0 (o + 17) z) (hi : i ≤ 0) : TL σc' o σr' m i := by
  have e : ∀ m' i', vld (σc.2.2 0 (o + 17)) m i m' i' ↔ vld (σc'.2.2 0 (o + 17)) m i m' i' := by
    intro m' i'
    unfold vld
    by_cases g : m' < m
    · rw [h6 m' g]
    · constructor <;> intro q <;> omega
  obtain ⟨a1, a2, a3⟩ := h
  unfold TL
  rw [h1, h2, h3, h4, h5]
  refine ⟨fun n n0 n1 => ?_, a2, fun m' i' q => a3 m' i' ((e m' i').mpr q)⟩
  obtain ⟨m', i', q, r⟩ := a1 n n0 n1
  exact ⟨m', i', (e m' i').mp q, r⟩
theorem MRr.mv2 {m' : Int} (h : MRr σc o σr nc m') (h1 : ∀ e, [3011, 3012, 3013, 3014, 3015, 3017].elem e = true → σc'.2.2 e o m' = σc.2.2 e o m') (h0 : σc'.2.2 0 (o + 17) m' = σc.2.2 0 (o + 17) m') (h16 : ∀ p, 0 ≤ p → p < 3 → σc'.2.2 3016 o (m' * 3 + p) = σc.2.2 3016 o (m' * 3 + p)) (h2 : ∀ e, [10019, 10020, 10021, 10022, 10023, 10025, 10026].elem e = true → σr'.2.2 e 121 (160 + m') = σr.2.2 e 121 (160 + m')) (h24 : ∀ p, 0 ≤ p → p < 3 → σr'.2.2 10024 121 (3 * (160 + m') + p) = σr.2.2 10024 121 (3 * (160 + m') + p)) (h3 : ∀ i, 0 ≤ i → i < 120 → ∀ e, e = 1 ∨ e = 2 ∨ e = 3 → σc'.2.2 e (o + 17) (m' * 120 + i) = σc.2.2 e (o + 17) (m' * 120 + i)) (h4 : ∀ i, 0 ≤ i → i < 120 → ∀ e, e = 10027 ∨ e = 10028 ∨ e = 10029 → σr'.2.2 e 121 (19200 + 120 * m' + i) = σr.2.2 e 121 (19200 + 120 * m' + i)) : MRr σc' o σr' nc m' := by
  unfold MRr at *
  rw [h1 3011 rfl, h1 3012 rfl, h1 3013 rfl, h1 3014 rfl, h1 3015 rfl, h1 3017 rfl, h0, h2 10019 rfl, h2 10020 rfl, h2 10021 rfl, h2 10022 rfl, h2 10023 rfl, h2 10025 rfl, h2 10026 rfl]
  obtain ⟨a1, a2, a3, a4⟩ := h
  have hl := a2.2.2.2.2
  have hq := a2.2.2.1
  refine ⟨a1, a2, fun p p0 p1 => ?_, fun i i0 i1 => (a4 i i0 i1).mv (h3 i i0 (by omega)) (h4 i i0 (by omega))⟩
  rw [h16 p p0 (by omega), h24 p p0 (by omega)]
  exact a3 p p0 p1
theorem rdMeth (m0 : 0 ≤ m) (m1 : m < 80) (hp : pre σc o σr tb sz nc st) (hm : σr.2.2 10018 121 2 = m) (hok : okM σc o σr nc m st) :
    ∃ st' σc' σr', (∀ d Q, Q none σc' → j3_tc false (d + 4) 68 [wO 5 73, wI c, wI m] σc Q) ∧ (∀ d Q, Q none σr' → j3_tc true (d + 4) 163 [wO 10 121, wI c] σr Q) ∧ pre σc' o σr' tb sz nc st' ∧ frg fiI (faM o) σc σc' ∧ frm [10004, 10007] laM σr σr' ∧ okM σc' o σr' nc (m + 1) st' ∧ σr'.2.2 10018 121 2 = m + 1 ∧ (st'.2 = 0 → st.2 = 0 ∧ σc'.2.2 3011 o m = c ∧ ∀ m', m' < m → σc'.2.2 3011 o m' = σc.2.2 3011 o m') ∧ LO σr σr' := by
  obtain ⟨⟨t1, t2, t3⟩, ⟨u1, u2, u3⟩, ⟨v1, v2, v3, v4, v5, v6⟩, w1⟩ := id hp
  -- the head
  generalize hx1 : nxv tb sz st 1 255 = x1
  generalize hs1 : nxs tb sz st 1 255 = s1
  have p1 : pso sz s1 := by rw [← hs1]; exact nxs_o t3
  generalize hx2 : nxv tb sz s1 0 1 = x2
  generalize hs2 : nxs tb sz s1 0 1 = s2
  have p2 : pso sz s2 := by rw [← hs2]; exact nxs_o p1
  generalize hx3 : nxv tb sz s2 0 (nc + 1) = x3
  generalize hs3 : nxs tb sz s2 0 (nc + 1) = s3
  have p3 : pso sz s3 := by rw [← hs3]; exact nxs_o p2
  generalize hx4 : nxv tb sz s3 0 3 = x4
  generalize hs4 : nxs tb sz s3 0 3 = s4
  have p4 : pso sz s4 := by rw [← hs4]; exact nxs_o p3
  have bx2 : 0 ≤ x2 ∧ x2 ≤ 1 := by rw [← hx2]; exact nxv_b (by omega)
  have bx3 : 0 ≤ x3 ∧ x3 ≤ nc + 1 := by rw [← hx3]; exact nxv_b (by omega)
  have bx4 : 0 ≤ x4 ∧ x4 ≤ 3 := by rw [← hx4]; exact nxv_b (by omega)
  have okch : s4.2 = 0 → st.2 = 0 ∧ st.1 ≤ s4.1 := by
    intro q
    have q3 := nxs_f' hs4 q
    have q2 := nxs_f' hs3 q3.1
    have q1 := nxs_f' hs2 q2.1
    have q0 := nxs_f' hs1 q1.1
    exact ⟨q0.1, by omega⟩
  generalize hA4 : j3_ast (j3_ast (j3_ast (j3_ast (j3_ast σc.2.2 3011 o m c) 3012 o m x1) 3013 o m x2) 3014 o m x3) 3015 o m x4 = A4
  generalize hB4 : j3_ast (j3_ast (j3_ast (j3_ast (j3_ast (j3_ast σr.2.2 10018 121 2 (m + 1)) 10019 121 (160 + m) c) 10020 121 (160 + m) x1) 10021 121 (160 + m) x2) 10022 121 (160 + m) x3) 10023 121 (160 + m) x4 = B4
  have hC4 : ∀ d (Q : j3_P), T68 (d + 1) Q 48 [wO 5 73, wI c, wI m, wI 0] [] (cS (σc.1, σc.2.1, A4) s4) → j3_tc false (d + 2) 68 [wO 5 73, wI c, wI m] σc Q := by
    intro d Q h
    have TA0 := t1.A (e := 3011) (o' := o) (i := m) (x := c) rfl
    have TA1 := TA0.A (e := 3012) (o' := o) (i := m) (x := x1) rfl
    have TA2 := TA1.A (e := 3013) (o' := o) (i := m) (x := x2) rfl
    have TA3 := TA2.A (e := 3014) (o' := o) (i := m) (x := x3) rfl
    rw [e68, b68_0, v1, s66' (σ := (σc.1, σc.2.1, j3_ast σc.2.2 3011 o m c)) (st := st) TA0 u1 u2 t3, hx1, hs1]
    simp only [Option.toList_some, List.cons_append, List.nil_append]
    rw [b68_14]
    refine ⟨v2, by omega, v2, by omega, ?_⟩
    rw [show (cS (σc.1, σc.2.1, j3_ast σc.2.2 3011 o m c) s1).2.1 4 = o from v1]
    refine ⟨v2, ?_⟩
    show j3_tc false (d + 1) 66 _ (cS (σc.1, σc.2.1, j3_ast (j3_ast σc.2.2 3011 o m c) 3012 o m x1) s1) _
    rw [s66 TA1 p1, hx2, hs2]
    simp only [Option.toList_some, List.cons_append, List.nil_append]
    rw [b68_23, show (cS (σc.1, σc.2.1, j3_ast (j3_ast σc.2.2 3011 o m c) 3012 o m x1) s2).2.1 4 = o from v1, show (cS (σc.1, σc.2.1, j3_ast (j3_ast σc.2.2 3011 o m c) 3012 o m x1) s2).1 3000 o = nc by rw [cS_e rfl rfl]; exact v3, wr_id (by omega) (by omega)]
    refine ⟨by omega, v2, v2, ?_⟩
    show j3_tc false (d + 1) 66 _ (cS (σc.1, σc.2.1, j3_ast (j3_ast (j3_ast σc.2.2 3011 o m c) 3012 o m x1) 3013 o m x2) s2) _
    rw [s66 TA2 p2, hx3, hs3]
    simp only [Option.toList_some, List.cons_append, List.nil_append]
    rw [b68_36, show (cS (σc.1, σc.2.1, j3_ast (j3_ast (j3_ast σc.2.2 3011 o m c) 3012 o m x1) 3013 o m x2) s3).2.1 4 = o from v1]
    refine ⟨by omega, v2, ?_⟩
    show j3_tc false (d + 1) 66 _ (cS (σc.1, σc.2.1, j3_ast (j3_ast (j3_ast (j3_ast σc.2.2 3011 o m c) 3012 o m x1) 3013 o m x2) 3014 o m x3) s3) _
    rw [s66 TA3 p3, hx4, hs4]
    simp only [Option.toList_some, List.cons_append, List.nil_append]
    rw [b68_45]
    refine ⟨by omega, ?_⟩
    rw [← hA4] at h
    exact h
  have hR4 : ∀ d (Q : j3_P), T163 (d + 2) Q 61 [wO 10 121, wI c, wI m, wI (160 + m), wI 0] [] (rS (σr.1, σr.2.1, B4) s4) → j3_tc true (d + 3) 163 [wO 10 121, wI c] σr Q := by
    intro d Q h
    have TA00 := t2.A (e := 10018) (i := 2) (x := m + 1) rfl
    have TA0 := TA00.A (e := 10019) (i := 160 + m) (x := c) rfl
    have TA1 := TA0.A (e := 10020) (i := 160 + m) (x := x1) rfl
    have TA2 := TA1.A (e := 10021) (i := 160 + m) (x := x2) rfl
    have TA3 := TA2.A (e := 10022) (i := 160 + m) (x := x3) rfl
    have h9 : ∀ (A : Nat → Nat → Int → Int) (s : Ps), A 10009 121 2 = nc → (rS (σr.1, σr.2.1, A) s).2.2 10009 121 2 = nc := by
      intro A s hA
      rw [rS_f.2.2 10009 121 rfl]
      exact hA
    rw [e163, b163_0, hm]
    simp (disch := omega) only [wr_id]
    refine ⟨by omega, by omega, by omega, by omega, ?_⟩
    have e0 : ((σr.1, σr.2.1, j3_ast (j3_ast σr.2.2 10018 121 2 (m + 1)) 10019 121 (160 + m) c) : j3_S) = rS (σr.1, σr.2.1, j3_ast (j3_ast σr.2.2 10018 121 2 (m + 1)) 10019 121 (160 + m) c) st := by
      rw [rS_id (sz := sz) ?_ t3]
      refine rOk.fr (li := []) (la := [10018, 10019]) u3 (frm.A rfl (frm.A rfl frm.rf)) rfl rfl rfl
    rw [e0, s159e TA0 t3, hx1, hs1]
    simp only [Option.toList_some, List.cons_append, List.nil_append]
    rw [b163_29, rS_A (by decide), s159e TA1 p1, hx2, hs2]
    simp only [Option.toList_some, List.cons_append, List.nil_append]
    rw [b163_37, h9 _ _ (by simp only [j3_ast, up_e (show ((10009 : Nat) == 10018) = false from rfl), up_e (show ((10009 : Nat) == 10019) = false from rfl), up_e (show ((10009 : Nat) == 10020) = false from rfl)]; exact v4), rS_A (by decide), wr_id (by omega) (by omega), show 1 + nc = nc + 1 by omega, s159e TA2 p2, hx3, hs3]
    simp only [Option.toList_some, List.cons_append, List.nil_append]
    rw [b163_50, rS_A (by decide), s159e TA3 p3, hx4, hs4]
    simp only [Option.toList_some, List.cons_append, List.nil_append]
    rw [b163_58, rS_A (by decide)]
    rw [← hB4] at h
    exact ⟨by omega, by omega, by omega, by omega, by omega, h⟩
  -- the states behind the head
  have fC4 : frg fiI (faM o) σc (cS (σc.1, σc.2.1, A4) s4) := by
    rw [← hA4]
    refine frg.I rfl (frg.I rfl (frg.A ?_ (frg.A ?_ (frg.A ?_ (frg.A ?_ (frg.A ?_ frg.rf)))))) <;> simp [faM]
  have fR4 : frm [10004, 10007] laM σr (rS (σr.1, σr.2.1, B4) s4) := by
    refine frm.tr (σ' := (σr.1, σr.2.1, B4)) ?_ (rS_f.wd (sub_el rfl) (sub_el rfl))
    rw [← hB4]
    exact frm.A rfl (frm.A rfl (frm.A rfl (frm.A rfl (frm.A rfl (frm.A rfl frm.rf)))))
  have a11 : A4 3011 o = i_up (σc.2.2 3011 o) m c := by rw [← hA4]; simp only [j3_ast, up_r, up_e (show ((3011 : Nat) == 3012) = false from rfl), up_e (show ((3011 : Nat) == 3013) = false from rfl), up_e (show ((3011 : Nat) == 3014) = false from rfl), up_e (show ((3011 : Nat) == 3015) = false from rfl)]
  have a12 : A4 3012 o = i_up (σc.2.2 3012 o) m x1 := by rw [← hA4]; simp only [j3_ast, up_r, up_e (show ((3012 : Nat) == 3011) = false from rfl), up_e (show ((3012 : Nat) == 3013) = false from rfl), up_e (show ((3012 : Nat) == 3014) = false from rfl), up_e (show ((3012 : Nat) == 3015) = false from rfl)]
  have a13 : A4 3013 o = i_up (σc.2.2 3013 o) m x2 := by rw [← hA4]; simp only [j3_ast, up_r, up_e (show ((3013 : Nat) == 3011) = false from rfl), up_e (show ((3013 : Nat) == 3012) = false from rfl), up_e (show ((3013 : Nat) == 3014) = false from rfl), up_e (show ((3013 : Nat) == 3015) = false from rfl)]
  have a14 : A4 3014 o = i_up (σc.2.2 3014 o) m x3 := by rw [← hA4]; simp only [j3_ast, up_r, up_e (show ((3014 : Nat) == 3011) = false from rfl), up_e (show ((3014 : Nat) == 3012) = false from rfl), up_e (show ((3014 : Nat) == 3013) = false from rfl), up_e (show ((3014 : Nat) == 3015) = false from rfl)]
  have a15 : A4 3015 o = i_up (σc.2.2 3015 o) m x4 := by rw [← hA4]; simp only [j3_ast, up_r, up_e (show ((3015 : Nat) == 3011) = false from rfl), up_e (show ((3015 : Nat) == 3012) = false from rfl), up_e (show ((3015 : Nat) == 3013) = false from rfl), up_e (show ((3015 : Nat) == 3014) = false from rfl)]
  have aE : ∀ e o', [3011, 3012, 3013, 3014, 3015].elem e = false → A4 e o' = σc.2.2 e o' := by
    intro e o' he
    rw [← hA4]
    simp only [j3_ast]
    rw [up_e (elem_ne (l := [3011, 3012, 3013, 3014, 3015]) rfl he), up_e (elem_ne (l := [3011, 3012, 3013, 3014, 3015]) rfl he), up_e (elem_ne (l := [3011, 3012, 3013, 3014, 3015]) rfl he), up_e (elem_ne (l := [3011, 3012, 3013, 3014, 3015]) rfl he), up_e (elem_ne (l := [3011, 3012, 3013, 3014, 3015]) rfl he)]
  have b18 : B4 10018 121 2 = m + 1 := by rw [← hB4]; simp only [j3_ast, up_r, up_e (show ((10018 : Nat) == 10019) = false from rfl), up_e (show ((10018 : Nat) == 10020) = false from rfl), up_e (show ((10018 : Nat) == 10021) = false from rfl), up_e (show ((10018 : Nat) == 10022) = false from rfl), up_e (show ((10018 : Nat) == 10023) = false from rfl), iu_r]
  have b19 : B4 10019 121 = i_up (σr.2.2 10019 121) (160 + m) c := by rw [← hB4]; simp only [j3_ast, up_r, up_e (show ((10019 : Nat) == 10018) = false from rfl), up_e (show ((10019 : Nat) == 10020) = false from rfl), up_e (show ((10019 : Nat) == 10021) = false from rfl), up_e (show ((10019 : Nat) == 10022) = false from rfl), up_e (show ((10019 : Nat) == 10023) = false from rfl)]
  have b20 : B4 10020 121 = i_up (σr.2.2 10020 121) (160 + m) x1 := by rw [← hB4]; simp only [j3_ast, up_r, up_e (show ((10020 : Nat) == 10018) = false from rfl), up_e (show ((10020 : Nat) == 10019) = false from rfl), up_e (show ((10020 : Nat) == 10021) = false from rfl), up_e (show ((10020 : Nat) == 10022) = false from rfl), up_e (show ((10020 : Nat) == 10023) = false from rfl)]
  have b21 : B4 10021 121 = i_up (σr.2.2 10021 121) (160 + m) x2 := by rw [← hB4]; simp only [j3_ast, up_r, up_e (show ((10021 : Nat) == 10018) = false from rfl), up_e (show ((10021 : Nat) == 10019) = false from rfl), up_e (show ((10021 : Nat) == 10020) = false from rfl), up_e (show ((10021 : Nat) == 10022) = false from rfl), up_e (show ((10021 : Nat) == 10023) = false from rfl)]
  have b22 : B4 10022 121 = i_up (σr.2.2 10022 121) (160 + m) x3 := by rw [← hB4]; simp only [j3_ast, up_r, up_e (show ((10022 : Nat) == 10018) = false from rfl), up_e (show ((10022 : Nat) == 10019) = false from rfl), up_e (show ((10022 : Nat) == 10020) = false from rfl), up_e (show ((10022 : Nat) == 10021) = false from rfl), up_e (show ((10022 : Nat) == 10023) = false from rfl)]
  have b23 : B4 10023 121 = i_up (σr.2.2 10023 121) (160 + m) x4 := by rw [← hB4]; simp only [j3_ast, up_r, up_e (show ((10023 : Nat) == 10018) = false from rfl), up_e (show ((10023 : Nat) == 10019) = false from rfl), up_e (show ((10023 : Nat) == 10020) = false from rfl), up_e (show ((10023 : Nat) == 10021) = false from rfl), up_e (show ((10023 : Nat) == 10022) = false from rfl)]
  have bE : ∀ e, [10018, 10019, 10020, 10021, 10022, 10023].elem e = false → B4 e 121 = σr.2.2 e 121 := by
    intro e he
    rw [← hB4]
    simp only [j3_ast]
    rw [up_e (elem_ne (l := [10018, 10019, 10020, 10021, 10022, 10023]) rfl he), up_e (elem_ne (l := [10018, 10019, 10020, 10021, 10022, 10023]) rfl he), up_e (elem_ne (l := [10018, 10019, 10020, 10021, 10022, 10023]) rfl he), up_e (elem_ne (l := [10018, 10019, 10020, 10021, 10022, 10023]) rfl he), up_e (elem_ne (l := [10018, 10019, 10020, 10021, 10022, 10023]) rfl he), up_e (elem_ne (l := [10018, 10019, 10020, 10021, 10022, 10023]) rfl he)]
  have lo4 : LO σr (rS (σr.1, σr.2.1, B4) s4) := by
    refine LO.tr (σ' := (σr.1, σr.2.1, B4)) ?_ (LO.fr rS_f rfl)
    rw [← hB4]
    refine LO.A (LO.A (LO.A (LO.A (LO.A (LO.A LO.rf ?_) ?_) ?_) ?_) ?_) ?_ <;> simp only [show loS 10018 = 2 from rfl, show loS 10019 = 160 from rfl, show loS 10020 = 160 from rfl, show loS 10021 = 160 from rfl, show loS 10022 = 160 from rfl, show loS 10023 = 160 from rfl] <;> omega
  clear hA4 hB4
  have ec4 : (cS (σc.1, σc.2.1, A4) s4).2.2 = A4 := rfl
  have er4 : ∀ e, ¬ e = 10008 → (rS (σr.1, σr.2.1, B4) s4).2.2 e 121 = B4 e 121 := fun e he => rS_f.2.2 e 121 (by simpa using he)
  have tau4 := cS_1 (σ := (σc.1, σc.2.1, A4)) (st := s4)
  have e57 : (cS (σc.1, σc.2.1, A4) s4).1 5007 73 = σc.1 5007 73 := cS_e rfl rfl
  have rok4 := rS_ok (σ := (σr.1, σr.2.1, B4)) p4
  generalize cS (σc.1, σc.2.1, A4) s4 = τ4 at hC4 fC4 ec4 tau4 e57
  generalize rS (σr.1, σr.2.1, B4) s4 = ρ4 at hR4 fR4 er4 rok4 lo4
  have hp4 : pre τ4 o ρ4 tb sz nc s4 := ⟨⟨t1.fg fC4 rfl rfl, t2.fr fR4 rfl rfl, p4⟩, ⟨tau4.1, tau4.2, rok4⟩, ⟨by rw [fC4.1]; exact v1, v2, (fC4.2.1 3000 o rfl).trans v3, by rw [fR4.2.2 10009 121 rfl]; exact v4, v5, v6⟩, by rw [e57]; exact w1⟩
  obtain ⟨s5, τ5, ρ5, P1, P2, hp5, fC5, fR5, P6, P7, P8, P9, -, lo5'⟩ := pL (c := c) m0 m1 bx4.2 x4.toNat 0 s4 τ4 ρ4 (by omega) (by omega) hp4 (by rw [ec4, a15]; exact iu_r) (by rw [er4 _ (by decide), b23]; exact iu_r) (fun _ p p0 p1 => absurd p1 (by omega))
  obtain ⟨⟨t51, t52, t53⟩, ⟨u51, u52, u53⟩, ⟨v51, -, v53, v54, -, -⟩, w51⟩ := id hp5
  -- locals and length
  generalize hlo : x4 + (1 - x2) = lo5
  have blo : 0 ≤ lo5 ∧ lo5 ≤ 4 := by omega
  generalize hx5 : nxv tb sz s5 lo5 20 = x5
  generalize hs6 : nxs tb sz s5 lo5 20 = s6
  have p6 : pso sz s6 := by rw [← hs6]; exact nxs_o t53
  generalize hx6 : nxv tb sz s6 1 120 = x6
  generalize hs7 : nxs tb sz s6 1 120 = s7
  have p7 : pso sz s7 := by rw [← hs7]; exact nxs_o p6
  have bx5 : lo5 ≤ x5 ∧ x5 ≤ 20 := by rw [← hx5]; exact nxv_b (by omega)
  have bx6 : 1 ≤ x6 ∧ x6 ≤ 120 := by rw [← hx6]; exact nxv_b (by omega)
  have okc7 : s7.2 = 0 → s4.2 = 0 ∧ s4.1 ≤ s7.1 ∧ s5.2 = 0 := by
    intro q
    have q6 := nxs_f' hs7 q
    have q5 := nxs_f' hs6 q6.1
    have q4 := P6 q5.1
    exact ⟨q4.1, by omega, q5.1⟩
  generalize hA7 : j3_ast (j3_ast τ5.2.2 3017 o m x5) 0 (o + 17) m x6 = A7
  generalize hB7 : j3_ast (j3_ast ρ5.2.2 10025 121 (160 + m) x5) 10026 121 (160 + m) x6 = B7
  have c13 : τ5.2.2 3013 o m = x2 := by rw [fC5.2.2 3013 o rfl, ec4, a13]; exact iu_r
  have c15 : τ5.2.2 3015 o m = x4 := by rw [fC5.2.2 3015 o rfl, ec4, a15]; exact iu_r
  have d21 : ρ5.2.2 10021 121 (160 + m) = x2 := by rw [fR5.2.2 10021 121 rfl, er4 _ (by decide), b21]; exact iu_r
  have d23 : ρ5.2.2 10023 121 (160 + m) = x4 := by rw [fR5.2.2 10023 121 rfl, er4 _ (by decide), b23]; exact iu_r
  have hC7 : ∀ d (Q : j3_P), T68 (d + 1) Q 102 [wO 5 73, wI c, wI m, wI 0] [] (cS (τ5.1, τ5.2.1, A7) s7) → T68 (d + 1) Q 48 [wO 5 73, wI c, wI m, wI x4] [] τ5 := by
    intro d Q h
    have TA6 := t51.A (e := 3017) (o' := o) (i := m) (x := x5) rfl
    rw [b68_48, v51, c15, if_neg (by omega), e51, b51_0, c13]
    have hr : ∀ x : Int, x = 1 - x2 → T68 (d + 1) Q 86 [wO 5 73, wI c, wI m, wI x4] [wI x, wI x4, wO 5 73, wI m, wA 3017 o] τ5 := by
      intro x hx
      rw [b68_86, wr_id (by omega) (by omega), show x4 + x = lo5 by omega, s66' t51 u51 u52 t53, hx5, hs6]
      simp only [Option.toList_some, List.cons_append, List.nil_append]
      rw [b68_89, show (cS τ5 s6).2.1 4 = o from v51]
      refine ⟨by omega, v2, ?_⟩
      show j3_tc false (d + 1) 66 _ (cS (τ5.1, τ5.2.1, j3_ast τ5.2.2 3017 o m x5) s6) _
      rw [s66 TA6 p6, hx6, hs7]
      simp only [Option.toList_some, List.cons_append, List.nil_append]
      rw [b68_99]
      refine ⟨by omega, ?_⟩
      rw [← hA7] at h
      exact h
    refine ⟨v2, by omega, v2, v2, by omega, v2, by omega, ?_⟩
    by_cases g : x2 = 0
    · rw [if_pos g]
      exact hr 1 (by omega)
    · rw [if_neg g]
      exact hr 0 (by omega)
  have hR7 : ∀ d (Q : j3_P) (w : Int), T163 (d + 2) Q 115 [wO 10 121, wI c, wI m, wI (160 + m), wI 0] [] (rS (ρ5.1, ρ5.2.1, B7) s7) → T163 (d + 2) Q 87 [wO 10 121, wI c, wI m, wI (160 + m), wI w] [] ρ5 := by
    intro d Q w h
    have TA6 := t52.A (e := 10025) (i := 160 + m) (x := x5) rfl
    have e0 := s159e (d := d) (Q := fun r σ1 => T163 (d + 2) Q 104 [wO 10 121, wI c, wI m, wI (160 + m), wI w] (r.toList ++ [wI (160 + m), wA 10025 121]) σ1) (lo := lo5) (hi := 20) t52 t53
    rw [rS_id u53 t53, hx5, hs6] at e0
    rw [b163_87, d21, d23]
    simp (disch := omega) only [wr_id]
    rw [show x4 + 1 - x2 = lo5 by omega, e0]
    simp only [Option.toList_some, List.cons_append, List.nil_append]
    rw [b163_104, rS_A (by decide), s159e TA6 p6, hx6, hs7]
    simp only [Option.toList_some, List.cons_append, List.nil_append]
    rw [b163_112, rS_A (by decide)]
    rw [← hB7] at h
    exact ⟨by omega, by omega, by omega, by omega, h⟩
  -- the states behind them
  have fC7 : frg fiI (faM o) τ5 (cS (τ5.1, τ5.2.1, A7) s7) := by
    rw [← hA7]
    refine frg.I rfl (frg.I rfl (frg.A ?_ (frg.A ?_ frg.rf))) <;> simp [faM]
  have fR7 : frm [10004, 10007] laM ρ5 (rS (ρ5.1, ρ5.2.1, B7) s7) := by
    refine frm.tr (σ' := (ρ5.1, ρ5.2.1, B7)) ?_ (rS_f.wd (sub_el rfl) (sub_el rfl))
    rw [← hB7]
    exact frm.A rfl (frm.A rfl frm.rf)
  have a17 : A7 3017 o = i_up (τ5.2.2 3017 o) m x5 := by rw [← hA7]; simp only [j3_ast, up_r, up_e (show ((3017 : Nat) == 0) = false from rfl)]
  have a00 : A7 0 (o + 17) = i_up (τ5.2.2 0 (o + 17)) m x6 := by rw [← hA7]; simp only [j3_ast, up_r, up_e (show ((0 : Nat) == 3017) = false from rfl)]
  have aE7 : ∀ e o', [3017, 0].elem e = false → A7 e o' = τ5.2.2 e o' := by
    intro e o' he
    rw [← hA7]
    simp only [j3_ast]
    rw [up_e (elem_ne (l := [3017, 0]) rfl he), up_e (elem_ne (l := [3017, 0]) rfl he)]
  have b25 : B7 10025 121 = i_up (ρ5.2.2 10025 121) (160 + m) x5 := by rw [← hB7]; simp only [j3_ast, up_r, up_e (show ((10025 : Nat) == 10026) = false from rfl)]
  have b26 : B7 10026 121 = i_up (ρ5.2.2 10026 121) (160 + m) x6 := by rw [← hB7]; simp only [j3_ast, up_r, up_e (show ((10026 : Nat) == 10025) = false from rfl)]
  have bE7 : ∀ e, [10025, 10026].elem e = false → B7 e 121 = ρ5.2.2 e 121 := by
    intro e he
    rw [← hB7]
    simp only [j3_ast]
    rw [up_e (elem_ne (l := [10025, 10026]) rfl he), up_e (elem_ne (l := [10025, 10026]) rfl he)]
  have lo7 : LO ρ5 (rS (ρ5.1, ρ5.2.1, B7) s7) := by
    refine LO.tr (σ' := (ρ5.1, ρ5.2.1, B7)) ?_ (LO.fr rS_f rfl)
    rw [← hB7]
    refine LO.A (LO.A LO.rf ?_) ?_ <;> simp only [show loS 10025 = 160 from rfl, show loS 10026 = 160 from rfl] <;> omega
  clear hA7 hB7
  have ec7 : (cS (τ5.1, τ5.2.1, A7) s7).2.2 = A7 := rfl
  have er7 : ∀ e, ¬ e = 10008 → (rS (ρ5.1, ρ5.2.1, B7) s7).2.2 e 121 = B7 e 121 := fun e he => rS_f.2.2 e 121 (by simpa using he)
  have tau7 := cS_1 (σ := (τ5.1, τ5.2.1, A7)) (st := s7)
  have e577 : (cS (τ5.1, τ5.2.1, A7) s7).1 5007 73 = τ5.1 5007 73 := cS_e rfl rfl
  have rok7 := rS_ok (σ := (ρ5.1, ρ5.2.1, B7)) p7
  generalize cS (τ5.1, τ5.2.1, A7) s7 = τ7 at hC7 fC7 ec7 tau7 e577
  generalize rS (ρ5.1, ρ5.2.1, B7) s7 = ρ7 at hR7 fR7 er7 rok7 lo7
  have hp7 : pre τ7 o ρ7 tb sz nc s7 := ⟨⟨t51.fg fC7 rfl rfl, t52.fr fR7 rfl rfl, p7⟩, ⟨tau7.1, tau7.2, rok7⟩, ⟨by rw [fC7.1]; exact v51, v2, (fC7.2.1 3000 o rfl).trans v53, by rw [fR7.2.2 10009 121 rfl]; exact v54, v5, v6⟩, by rw [e577]; exact w51⟩
  -- rows of the states at the seventh against those at the start
  have g57 : τ7.1 5007 73 = σc.1 5007 73 := e577.trans ((fC5.2.1 5007 73 rfl).trans e57)
  have gA : ∀ e o', [3011, 3012, 3013, 3014, 3015, 3016, 3017, 0].elem e = false → τ7.2.2 e o' = σc.2.2 e o' := by
    intro e o' he
    rw [ec7, aE7 e o' (sub_el (l := [3017, 0]) (l' := [3011, 3012, 3013, 3014, 3015, 3016, 3017, 0]) rfl e he), fC5.2.2 e o' (by have := elem_ne (l := [3011, 3012, 3013, 3014, 3015, 3016, 3017, 0]) (e := 3016) rfl he; simp only [faP, this, Bool.false_and]), ec4, aE e o' (sub_el (l := [3011, 3012, 3013, 3014, 3015]) (l' := [3011, 3012, 3013, 3014, 3015, 3016, 3017, 0]) rfl e he)]
  have gM : ∀ e, [3011, 3012, 3013, 3014, 3015].elem e = true → τ7.2.2 e o = A4 e o := by
    intro e he
    have h1 : [3017, 0].elem e = false ∧ faP o e o = false := by
      simp at he
      rcases he with rfl | rfl | rfl | rfl | rfl <;> exact ⟨rfl, rfl⟩
    rw [ec7, aE7 e o h1.1, fC5.2.2 e o h1.2, ec4]
  have hM : ∀ e, [10019, 10020, 10021, 10022, 10023].elem e = true → ρ7.2.2 e 121 = B4 e 121 := by
    intro e he
    have h1 : ¬ e = 10008 ∧ [10025, 10026].elem e = false ∧ [10008, 10024].elem e = false := by
      simp at he
      rcases he with rfl | rfl | rfl | rfl | rfl <;> exact ⟨by decide, rfl, rfl⟩
    rw [er7 e h1.1, bE7 e h1.2.1, fR5.2.2 e 121 h1.2.2, er4 e h1.1]
  have hE : ∀ e, laM.elem e = false ∨ e = 10027 ∨ e = 10028 ∨ e = 10029 ∨ e = 10033 → ρ7.2.2 e 121 = σr.2.2 e 121 := by
    intro e he
    have h1 : ¬ e = 10008 ∧ [10025, 10026].elem e = false ∧ [10008, 10024].elem e = false ∧ [10018, 10019, 10020, 10021, 10022, 10023].elem e = false := by
      rcases he with he | rfl | rfl | rfl | rfl
      · refine ⟨fun q => ?_, sub_el (l := [10025, 10026]) (l' := laM) rfl e he, sub_el (l := [10008, 10024]) (l' := laM) rfl e he, sub_el (l := [10018, 10019, 10020, 10021, 10022, 10023]) (l' := laM) rfl e he⟩
        rw [q] at he
        cases he
      all_goals exact ⟨by decide, rfl, rfl, rfl⟩
    rw [er7 e h1.1, bE7 e h1.2.1, fR5.2.2 e 121 h1.2.2.1, er4 e h1.1, bE e h1.2.2.2]
  have g16 : ∀ z, z < m * 3 → τ7.2.2 3016 o z = σc.2.2 3016 o z := by
    intro z hz
    rw [ec7, aE7 3016 o rfl, P8 z hz, ec4, aE 3016 o rfl]
  have h24 : ∀ z, z < 3 * (160 + m) → ρ7.2.2 10024 121 z = σr.2.2 10024 121 z := by
    intro z hz
    rw [er7 _ (by decide), bE7 10024 rfl, P9 z hz, er4 _ (by decide), bE 10024 rfl]
  have g17 : τ7.2.2 3017 o = i_up (σc.2.2 3017 o) m x5 := by rw [ec7, a17, fC5.2.2 3017 o rfl, ec4, aE 3017 o rfl]
  have g00 : τ7.2.2 0 (o + 17) = i_up (σc.2.2 0 (o + 17)) m x6 := by rw [ec7, a00, fC5.2.2 0 (o + 17) rfl, ec4, aE 0 (o + 17) rfl]
  have h25 : ρ7.2.2 10025 121 = i_up (σr.2.2 10025 121) (160 + m) x5 := by rw [er7 _ (by decide), b25, fR5.2.2 10025 121 rfl, er4 _ (by decide), bE 10025 rfl]
  have h26 : ρ7.2.2 10026 121 = i_up (σr.2.2 10026 121) (160 + m) x6 := by rw [er7 _ (by decide), b26, fR5.2.2 10026 121 rfl, er4 _ (by decide), bE 10026 rfl]
  have hk7 : okI τ7 o ρ7 x5 x6 nc m 0 s7 := by
    intro q
    have q4 := okc7 q
    have q0 := okch q4.1
    obtain ⟨k1, k2, k3⟩ := hok q0.1
    refine ⟨fun m' h0 h1 => ?_, fun i' h0 h1 => absurd h1 (by omega), ?_, by rw [g57]; omega⟩
    · refine (k1 m' h0 h1).mv2 (fun e he => ?_) ?_ (fun p q0 q1 => g16 _ (by omega)) (fun e he => ?_) (fun p q0 q1 => h24 _ (by omega)) (fun i i0 i1 e he => ?_) (fun i i0 i1 e he => ?_)
      · simp at he
        rcases he with rfl | rfl | rfl | rfl | rfl | rfl
        · rw [gM _ rfl, a11, iu_n (by omega)]
        · rw [gM _ rfl, a12, iu_n (by omega)]
        · rw [gM _ rfl, a13, iu_n (by omega)]
        · rw [gM _ rfl, a14, iu_n (by omega)]
        · rw [gM _ rfl, a15, iu_n (by omega)]
        · rw [g17, iu_n (by omega)]
      · rw [g00, iu_n (by omega)]
      · simp at he
        rcases he with rfl | rfl | rfl | rfl | rfl | rfl | rfl
        · rw [hM _ rfl, b19, iu_n (by omega)]
        · rw [hM _ rfl, b20, iu_n (by omega)]
        · rw [hM _ rfl, b21, iu_n (by omega)]
        · rw [hM _ rfl, b22, iu_n (by omega)]
        · rw [hM _ rfl, b23, iu_n (by omega)]
        · rw [h25, iu_n (by omega)]
        · rw [h26, iu_n (by omega)]
      · rcases he with rfl | rfl | rfl <;> rw [gA _ _ rfl]
      · rcases he with rfl | rfl | rfl <;> rw [hE _ (by simp)]
    · exact k2.mv g57 (gA 5005 73 rfl) (gA 5006 73 rfl) (gA 1 (o + 17) rfl) (hE 10033 (by simp)) (fun z hz => by rw [g00, iu_n (by omega)]) (by omega)
  obtain ⟨s8, σ8, ρ8, E1, E2, hp8, fC8, fR8, E6, E7, lo8⟩ := iL (c := c) m0 m1 ⟨by omega, bx5.2⟩ bx6 x6.toNat 0 s7 τ7 ρ7 (by omega) (by omega) hp7 (by rw [g17]; exact iu_r) (by rw [g00]; exact iu_r) (by rw [h25]; exact iu_r) (by rw [h26]; exact iu_r) hk7
  have W : ∀ e o', faM o e o' = false → faP o e o' = false ∧ faI o e o' = false := by
    intro e o' he
    simp only [faM, Bool.or_eq_false_iff, Bool.and_eq_false_iff] at he
    constructor
    · simp only [faP, Bool.and_eq_false_iff]
      rcases he.1.2 with h | h
      · exact Or.inl (elem_ne (l := [3011, 3012, 3013, 3014, 3015, 3016, 3017]) rfl h)
      · exact Or.inr h
    · simp only [faI, Bool.or_eq_false_iff, Bool.and_eq_false_iff]
      refine ⟨he.1.1, ?_⟩
      rcases he.2 with h | h
      · exact Or.inl (sub_el (l := [1, 2, 3, 4]) (l' := [0, 1, 2, 3, 4]) rfl e h)
      · exact Or.inr h
  have fiW : ∀ e o', fiI e o' = false → fiP e o' = false := fun e o' h => sub_el (l := [5002, 5003]) (l' := [5002, 5003, 5007]) rfl e h
  refine ⟨s8, σ8, ρ8, fun d Q h => ?_, fun d Q h => ?_, hp8, ?_, ?_, ?_, ?_, ?_, lo4.tr (lo5'.tr (lo7.tr lo8))⟩
  · rw [show d + 4 = (d + 2) + 2 from rfl]
    exact hC4 (d + 2) Q (P1 (d + 2) Q (hC7 (d + 2) Q (E1 d Q h)))
  · rw [show d + 4 = (d + 1) + 3 from rfl]
    exact hR4 (d + 1) Q (P2 (d + 1) Q (fun w => hR7 (d + 1) Q w (E2 d Q h)))
  · exact fC4.tr ((fC5.wd fiW (fun e o' h => (W e o' h).1)).tr (fC7.tr (fC8.wd (fun _ _ h => h) (fun e o' h => (W e o' h).2))))
  · exact fR4.tr ((fR5.wd (sub_el rfl) (sub_el rfl)).tr (fR7.tr (fR8.wd (sub_el rfl) (sub_el rfl))))
  · intro q
    obtain ⟨k1, k2, k3, k4⟩ := E6 q
    have q7 := E7 q
    have q4 := okc7 q7
    have q5 := P7 q4.2.2
    have z11 : σ8.2.2 3011 o = i_up (σc.2.2 3011 o) m c := by rw [fC8.2.2 3011 o rfl, gM _ rfl, a11]
    have z12 : σ8.2.2 3012 o = i_up (σc.2.2 3012 o) m x1 := by rw [fC8.2.2 3012 o rfl, gM _ rfl, a12]
    have z13 : σ8.2.2 3013 o = i_up (σc.2.2 3013 o) m x2 := by rw [fC8.2.2 3013 o rfl, gM _ rfl, a13]
    have z14 : σ8.2.2 3014 o = i_up (σc.2.2 3014 o) m x3 := by rw [fC8.2.2 3014 o rfl, gM _ rfl, a14]
    have z15 : σ8.2.2 3015 o = i_up (σc.2.2 3015 o) m x4 := by rw [fC8.2.2 3015 o rfl, gM _ rfl, a15]
    have z17 : σ8.2.2 3017 o = i_up (σc.2.2 3017 o) m x5 := by rw [fC8.2.2 3017 o rfl, g17]
    have z00 : σ8.2.2 0 (o + 17) = i_up (σc.2.2 0 (o + 17)) m x6 := by rw [fC8.2.2 0 (o + 17) rfl, g00]
    refine ⟨fun m' h0 h1 => ?_, TL.next k3 (by rw [z00]; exact iu_r) m0, k4⟩
    by_cases g : m' = m
    · subst g
      unfold MRr
      rw [z11, z12, z13, z14, z15, z17, z00]
      simp only [iu_r]
      refine ⟨⟨?_, ?_, ?_, ?_, ?_, ?_, ?_⟩, ⟨by omega, bx3, bx4, by omega, bx6⟩, fun p p0 p1 => ?_, fun i i0 i1 => k2 i i0 i1⟩
      · rw [fR8.2.2 10019 121 rfl, hM _ rfl, b19]; exact iu_r
      · rw [fR8.2.2 10020 121 rfl, hM _ rfl, b20]; exact iu_r
      · rw [fR8.2.2 10021 121 rfl, hM _ rfl, b21]; exact iu_r
      · rw [fR8.2.2 10022 121 rfl, hM _ rfl, b22]; exact iu_r
      · rw [fR8.2.2 10023 121 rfl, hM _ rfl, b23]; exact iu_r
      · rw [fR8.2.2 10025 121 rfl, h25]; exact iu_r
      · rw [fR8.2.2 10026 121 rfl, h26]; exact iu_r
      · rw [fR8.2.2 10024 121 rfl, fC8.2.2 3016 o rfl, er7 _ (by decide), bE7 10024 rfl, ec7, aE7 3016 o rfl]
        exact q5 p p0 p1
    · exact k1 m' h0 (by omega)
  · rw [fR8.2.2 10018 121 rfl, er7 _ (by decide), bE7 10018 rfl, fR5.2.2 10018 121 rfl, er4 _ (by decide)]
    exact b18
  · intro q
    have q7 := E7 q
    have q4 := okc7 q7
    refine ⟨(okch q4.1).1, ?_, fun m' h => ?_⟩
    · rw [fC8.2.2 3011 o rfl, gM _ rfl, a11]; exact iu_r
    · rw [fC8.2.2 3011 o rfl, gM _ rfl, a11, iu_n (by omega)]
end METH2
