/-! reading a class on both sides -/
def CRr (σc : j3_S) (o : Nat) (σr : j3_S) (nc c : Int) : Prop := (σr.2.2 10010 121 (20 + c) = σc.2.2 3002 o c ∧ σr.2.2 10011 121 (20 + c) = σc.2.2 3003 o c ∧ σr.2.2 10012 121 (20 + c) = σc.2.2 3005 o c ∧ σr.2.2 10014 121 (20 + c) = σc.2.2 3006 o c ∧ σr.2.2 10013 121 (20 + c) = σc.2.2 3007 o c) ∧ (-1 ≤ σc.2.2 3003 o c ∧ σc.2.2 3003 o c < c ∧ σc.2.2 3004 o c = (if σc.2.2 3003 o c < 0 then 0 else σc.2.2 3004 o (σc.2.2 3003 o c) + 1) ∧ 0 ≤ σc.2.2 3004 o c ∧ σc.2.2 3004 o c ≤ c) ∧ (0 ≤ σc.2.2 3005 o c ∧ σc.2.2 3005 o c ≤ 6 ∧ ∀ f, 0 ≤ f → f < σc.2.2 3005 o c → FRr σc o σr nc c f) ∧ (0 ≤ σc.2.2 3006 o c ∧ σc.2.2 3006 o c ≤ 8 ∧ 0 ≤ σc.2.2 3007 o c)
/-- whose methods they are -/
def OWr (σc : j3_S) (o : Nat) (c M : Int) : Prop := (∀ c', 0 ≤ c' → c' < c → σc.2.2 3007 o c' + σc.2.2 3006 o c' ≤ M ∧ ∀ k, 0 ≤ k → k < σc.2.2 3006 o c' → σc.2.2 3011 o (σc.2.2 3007 o c' + k) = c') ∧ (∀ m, 0 ≤ m → m < M → 0 ≤ σc.2.2 3011 o m ∧ σc.2.2 3011 o m < c ∧ σc.2.2 3007 o (σc.2.2 3011 o m) ≤ m ∧ m < σc.2.2 3007 o (σc.2.2 3011 o m) + σc.2.2 3006 o (σc.2.2 3011 o m)) ∧ ∀ c1 c2, 0 ≤ c1 → c1 < c2 → c2 < c → σc.2.2 3007 o c1 + σc.2.2 3006 o c1 ≤ σc.2.2 3007 o c2
def faC (o : Nat) : Nat → Nat → Bool := fun e o' => faM o e o' || ([3002, 3003, 3004, 3005, 3006, 3007, 3008, 3009, 3010].elem e && o' == o)
def laC : List Nat := [10010, 10011, 10012, 10013, 10014, 10015, 10016, 10017] ++ laM
def okC (σc : j3_S) (o : Nat) (σr : j3_S) (nc c M : Int) (st : Ps) : Prop := okM σc o σr nc M st ∧ (st.2 = 0 → (∀ c', 0 ≤ c' → c' < c → CRr σc o σr nc c') ∧ OWr σc o c M)
section CLS
variable {σc σr σc' σr' : j3_S} {o : Nat} {tb : Int → Int} {sz m c nc : Int} {st : Ps}
theorem FRr.mv {f : Int} (h : FRr σc o σr nc c f) (h1 : ∀ e, [3008, 3009, 3010].elem e = true → σc'.2.2 e o (c * 6 + f) = σc.2.2 e o (c * 6 + f)) (h2 : ∀ e, [10015, 10016, 10017].elem e = true → σr'.2.2 e 121 (120 + 6 * c + f) = σr.2.2 e 121 (120 + 6 * c + f)) : FRr σc' o σr' nc c f := by
  unfold FRr
  rw [h1 3008 rfl, h1 3009 rfl, h1 3010 rfl, h2 10015 rfl, h2 10016 rfl, h2 10017 rfl]
  exact h
theorem CRr.mv (c0 : 0 ≤ c) (h : CRr σc o σr nc c) (h1 : ∀ e, [3002, 3003, 3004, 3005, 3006, 3007].elem e = true → ∀ z, 0 ≤ z → z ≤ c → σc'.2.2 e o z = σc.2.2 e o z) (h2 : ∀ e, [10010, 10011, 10012, 10013, 10014].elem e = true → σr'.2.2 e 121 (20 + c) = σr.2.2 e 121 (20 + c)) (h3 : ∀ e, [3008, 3009, 3010].elem e = true → ∀ z, z < (c + 1) * 6 → σc'.2.2 e o z = σc.2.2 e o z) (h4 : ∀ e, [10015, 10016, 10017].elem e = true → ∀ z, z < 120 + 6 * (c + 1) → σr'.2.2 e 121 z = σr.2.2 e 121 z) : CRr σc' o σr' nc c := by
  obtain ⟨a1, ⟨a2, a3, a4, a5⟩, ⟨a6, a7, a8⟩, a9⟩ := h
  unfold CRr
  rw [h1 3002 rfl c c0 (Int.le_refl _), h1 3003 rfl c c0 (Int.le_refl _), h1 3004 rfl c c0 (Int.le_refl _), h1 3005 rfl c c0 (Int.le_refl _), h1 3006 rfl c c0 (Int.le_refl _), h1 3007 rfl c c0 (Int.le_refl _), h2 10010 rfl, h2 10011 rfl, h2 10012 rfl, h2 10013 rfl, h2 10014 rfl]
  refine ⟨a1, ⟨a2, a3, ?_, a5⟩, ⟨a6, a7, fun f f0 f1 => (a8 f f0 f1).mv (fun e he => h3 e he _ (by omega)) (fun e he => h4 e he _ (by omega))⟩, a9⟩
  rw [a4]
  by_cases g : σc.2.2 3003 o c < 0
  · rw [if_pos g, if_pos g]
  · rw [if_neg g, if_neg g, h1 3004 rfl _ (by omega) (by omega)]
theorem rdClass {M : Int} (c0 : 0 ≤ c) (c1 : c < 10) (hp : pre σc o σr tb sz nc st) (M0 : 0 ≤ M) (M8 : M ≤ 8 * c) (hI : σc.1 3001 o = M) (hI' : σr.2.2 10018 121 2 = M) (hok : okC σc o σr nc c M st) :
    ∃ st' σc' σr' M', (∀ d Q, Q none σc' → j3_tc false (d + 5) 67 [wO 5 73, wI c] σc Q) ∧ (∀ d Q, Q none σr' → j3_tc true (d + 5) 162 [wO 10 121, wI c] σr Q) ∧ pre σc' o σr' tb sz nc st' ∧ frg (fiC o) (faC o) σc σc' ∧ frm [10004, 10007] laC σr σr' ∧ (σc'.1 3001 o = M' ∧ σr'.2.2 10018 121 2 = M' ∧ 0 ≤ M' ∧ M' ≤ 8 * (c + 1)) ∧ okC σc' o σr' nc (c + 1) M' st' ∧ (st'.2 = 0 → st.2 = 0) ∧ LO σr σr' := by
  obtain ⟨⟨t1, t2, t3⟩, ⟨u1, u2, u3⟩, ⟨v1, v2, v3, v4, v5, v6⟩, w1⟩ := id hp
  generalize hx1 : nxv tb sz st 1 255 = x1
  generalize hs1 : nxs tb sz st 1 255 = s1
  have p1 : pso sz s1 := by rw [← hs1]; exact nxs_o t3
  generalize hx2 : nxv tb sz s1 0 c = x2
  generalize hs2 : nxs tb sz s1 0 c = s2
  have p2 : pso sz s2 := by rw [← hs2]; exact nxs_o p1
  generalize hx3 : nxv tb sz s2 0 6 = x3
  generalize hs3 : nxs tb sz s2 0 6 = s3
  have p3 : pso sz s3 := by rw [← hs3]; exact nxs_o p2
  have bx2 : 0 ≤ x2 ∧ x2 ≤ c := by rw [← hx2]; exact nxv_b (by omega)
  have bx3 : 0 ≤ x3 ∧ x3 ≤ 6 := by rw [← hx3]; exact nxv_b (by omega)
  have okch : s3.2 = 0 → st.2 = 0 ∧ st.1 ≤ s3.1 := by
    intro q
    have q2 := nxs_f' hs3 q
    have q1 := nxs_f' hs2 q2.1
    have q0 := nxs_f' hs1 q1.1
    exact ⟨q0.1, by omega⟩
  generalize hdp : (if x2 - 1 < 0 then (0 : Int) else wr (σc.2.2 3004 o (x2 - 1) + 1)) = dp
  generalize hA : j3_ast (j3_ast (j3_ast (j3_ast σc.2.2 3002 o c x1) 3003 o c (x2 - 1)) 3004 o c dp) 3005 o c x3 = A
  generalize hB : j3_ast (j3_ast (j3_ast σr.2.2 10010 121 (20 + c) x1) 10011 121 (20 + c) (x2 - 1)) 10012 121 (20 + c) x3 = B
  have hC3 : ∀ d (Q : j3_P), (∀ w, T67 (d + 1) Q 49 [wO 5 73, wI c, wI (x2 - 1), wI 0, w] [] (cS (σc.1, σc.2.1, A) s3)) → j3_tc false (d + 2) 67 [wO 5 73, wI c] σc Q := by
    intro d Q h
    have TA1 := t1.A (e := 3002) (o' := o) (i := c) (x := x1) rfl
    have TA2 := TA1.A (e := 3003) (o' := o) (i := c) (x := x2 - 1) rfl
    have TA3 := TA2.A (e := 3004) (o' := o) (i := c) (x := dp) rfl
    rw [e67, b67_0, v1, s66' t1 u1 u2 t3, hx1, hs1]
    simp only [Option.toList_some, List.cons_append, List.nil_append]
    rw [b67_8]
    refine ⟨v2, by omega, ?_⟩
    show j3_tc false (d + 1) 66 _ (cS (σc.1, σc.2.1, j3_ast σc.2.2 3002 o c x1) s1) _
    rw [s66 TA1 p1, hx2, hs2]
    simp only [Option.toList_some, List.cons_append, List.nil_append]
    rw [b67_13, show (cS (σc.1, σc.2.1, j3_ast σc.2.2 3002 o c x1) s2).2.1 4 = o from v1, wr_id (by omega) (by omega)]
    have t37 : T67 (d + 1) Q 37 [wO 5 73, wI c, wI (x2 - 1), wM 2, wM 2] [wI dp, wI c, wA 3004 o] (cS (σc.1, σc.2.1, j3_ast (j3_ast σc.2.2 3002 o c x1) 3003 o c (x2 - 1)) s2) := by
      rw [b67_37, show (cS (σc.1, σc.2.1, j3_ast (j3_ast σc.2.2 3002 o c x1) 3003 o c (x2 - 1)) s2).2.1 4 = o from v1]
      refine ⟨by omega, v2, ?_⟩
      show j3_tc false (d + 1) 66 _ (cS (σc.1, σc.2.1, j3_ast (j3_ast (j3_ast σc.2.2 3002 o c x1) 3003 o c (x2 - 1)) 3004 o c dp) s2) _
      rw [s66 TA3 p2, hx3, hs3]
      simp only [Option.toList_some, List.cons_append, List.nil_append]
      rw [b67_46]
      refine ⟨by omega, ?_⟩
      rw [← hA] at h
      exact h _
    have e4' : (cS (σc.1, σc.2.1, j3_ast σc.2.2 3002 o c x1) s2).2.2 3004 o (x2 - 1) = σc.2.2 3004 o (x2 - 1) := by
      show (j3_ast σc.2.2 3002 o c x1) 3004 o (x2 - 1) = _
      simp only [j3_ast, up_e (show ((3004 : Nat) == 3002) = false from rfl)]
    have e4 : (j3_ast (cS (σc.1, σc.2.1, j3_ast σc.2.2 3002 o c x1) s2).2.2 3003 o c (x2 - 1)) 3004 o (x2 - 1) = σc.2.2 3004 o (x2 - 1) := by
      simp only [j3_ast, up_e (show ((3004 : Nat) == 3003) = false from rfl)]
      exact e4'
    refine ⟨v2, by omega, v2, ?_⟩
    by_cases g : x2 - 1 < 0
    · rw [if_pos g] at hdp ⊢
      rw [← hdp] at t37
      exact t37
    · rw [if_neg g] at hdp ⊢
      refine ⟨v2, by omega, ?_⟩
      first
        | rw [e4, hdp]; exact t37
        | rw [e4', hdp]; exact t37
  have hR3 : ∀ d (Q : j3_P), (∀ w, T162 (d + 2) Q 32 [wO 10 121, wI c, wI (20 + c), wI 0, w] [] (rS (σr.1, σr.2.1, B) s3)) → j3_tc true (d + 3) 162 [wO 10 121, wI c] σr Q := by
    intro d Q h
    have TA1 := t2.A (e := 10010) (i := 20 + c) (x := x1) rfl
    have TA2 := TA1.A (e := 10011) (i := 20 + c) (x := x2 - 1) rfl
    have e0 := s159e (d := d) (Q := fun r σ1 => T162 (d + 2) Q 11 [wO 10 121, wI c, wI (20 + c), wM 2, wM 2] (r.toList ++ [wI (20 + c), wA 10010 121]) σ1) (lo := 1) (hi := 255) t2 t3
    rw [rS_id u3 t3, hx1, hs1] at e0
    rw [e162, b162_0]
    simp (disch := omega) only [wr_id]
    rw [e0]
    simp only [Option.toList_some, List.cons_append, List.nil_append]
    rw [b162_11, rS_A (by decide), s159e TA1 p1, hx2, hs2]
    simp only [Option.toList_some, List.cons_append, List.nil_append]
    rw [b162_19, rS_A (by decide), wr_id (by omega) (by omega), s159e TA2 p2, hx3, hs3]
    simp only [Option.toList_some, List.cons_append, List.nil_append]
    rw [b162_29, rS_A (by decide)]
    rw [← hB] at h
    exact ⟨by omega, by omega, by omega, h _⟩
  have fC3 : frg (fiC o) (faC o) σc (cS (σc.1, σc.2.1, A) s3) := by
    rw [← hA]
    refine frg.I rfl (frg.I rfl (frg.A ?_ (frg.A ?_ (frg.A ?_ (frg.A ?_ frg.rf))))) <;> simp [faC]
  have fR3 : frm [10004, 10007] laC σr (rS (σr.1, σr.2.1, B) s3) := by
    refine frm.tr (σ' := (σr.1, σr.2.1, B)) ?_ (rS_f.wd (sub_el rfl) (sub_el rfl))
    rw [← hB]
    exact frm.A rfl (frm.A rfl (frm.A rfl frm.rf))
  have a2 : A 3002 o = i_up (σc.2.2 3002 o) c x1 := by rw [← hA]; simp only [j3_ast, up_r, up_e (show ((3002 : Nat) == 3003) = false from rfl), up_e (show ((3002 : Nat) == 3004) = false from rfl), up_e (show ((3002 : Nat) == 3005) = false from rfl)]
  have a3 : A 3003 o = i_up (σc.2.2 3003 o) c (x2 - 1) := by rw [← hA]; simp only [j3_ast, up_r, up_e (show ((3003 : Nat) == 3002) = false from rfl), up_e (show ((3003 : Nat) == 3004) = false from rfl), up_e (show ((3003 : Nat) == 3005) = false from rfl)]
  have a4 : A 3004 o = i_up (σc.2.2 3004 o) c dp := by rw [← hA]; simp only [j3_ast, up_r, up_e (show ((3004 : Nat) == 3002) = false from rfl), up_e (show ((3004 : Nat) == 3003) = false from rfl), up_e (show ((3004 : Nat) == 3005) = false from rfl)]
  have a5 : A 3005 o = i_up (σc.2.2 3005 o) c x3 := by rw [← hA]; simp only [j3_ast, up_r, up_e (show ((3005 : Nat) == 3002) = false from rfl), up_e (show ((3005 : Nat) == 3003) = false from rfl), up_e (show ((3005 : Nat) == 3004) = false from rfl)]
  have aE : ∀ e o', [3002, 3003, 3004, 3005].elem e = false → A e o' = σc.2.2 e o' := by
    intro e o' he
    rw [← hA]
    simp only [j3_ast]
    rw [up_e (elem_ne (l := [3002, 3003, 3004, 3005]) rfl he), up_e (elem_ne (l := [3002, 3003, 3004, 3005]) rfl he), up_e (elem_ne (l := [3002, 3003, 3004, 3005]) rfl he), up_e (elem_ne (l := [3002, 3003, 3004, 3005]) rfl he)]
  have b10 : B 10010 121 = i_up (σr.2.2 10010 121) (20 + c) x1 := by rw [← hB]; simp only [j3_ast, up_r, up_e (show ((10010 : Nat) == 10011) = false from rfl), up_e (show ((10010 : Nat) == 10012) = false from rfl)]
  have b11 : B 10011 121 = i_up (σr.2.2 10011 121) (20 + c) (x2 - 1) := by rw [← hB]; simp only [j3_ast, up_r, up_e (show ((10011 : Nat) == 10010) = false from rfl), up_e (show ((10011 : Nat) == 10012) = false from rfl)]
  have b12 : B 10012 121 = i_up (σr.2.2 10012 121) (20 + c) x3 := by rw [← hB]; simp only [j3_ast, up_r, up_e (show ((10012 : Nat) == 10010) = false from rfl), up_e (show ((10012 : Nat) == 10011) = false from rfl)]
  have bE : ∀ e, [10010, 10011, 10012].elem e = false → B e 121 = σr.2.2 e 121 := by
    intro e he
    rw [← hB]
    simp only [j3_ast]
    rw [up_e (elem_ne (l := [10010, 10011, 10012]) rfl he), up_e (elem_ne (l := [10010, 10011, 10012]) rfl he), up_e (elem_ne (l := [10010, 10011, 10012]) rfl he)]
  have lo3 : LO σr (rS (σr.1, σr.2.1, B) s3) := by
    refine LO.tr (σ' := (σr.1, σr.2.1, B)) ?_ (LO.fr rS_f rfl)
    rw [← hB]
    refine LO.A (LO.A (LO.A LO.rf ?_) ?_) ?_ <;> simp only [show loS 10010 = 20 from rfl, show loS 10011 = 20 from rfl, show loS 10012 = 20 from rfl] <;> omega
  clear hA hB
  have ec3 : (cS (σc.1, σc.2.1, A) s3).2.2 = A := rfl
  have er3 : ∀ e, ¬ e = 10008 → (rS (σr.1, σr.2.1, B) s3).2.2 e 121 = B e 121 := fun e he => rS_f.2.2 e 121 (by simpa using he)
  have tau3 := cS_1 (σ := (σc.1, σc.2.1, A)) (st := s3)
  have e57 : (cS (σc.1, σc.2.1, A) s3).1 5007 73 = σc.1 5007 73 := cS_e rfl rfl
  have e31 : (cS (σc.1, σc.2.1, A) s3).1 3001 o = M := (cS_e rfl rfl).trans hI
  have rok3 := rS_ok (σ := (σr.1, σr.2.1, B)) p3
  generalize cS (σc.1, σc.2.1, A) s3 = τ3 at hC3 fC3 ec3 tau3 e57 e31
  generalize rS (σr.1, σr.2.1, B) s3 = ρ3 at hR3 fR3 er3 rok3 lo3
  have hp3 : pre τ3 o ρ3 tb sz nc s3 := ⟨⟨t1.fg fC3 rfl rfl, t2.fr fR3 rfl rfl, p3⟩, ⟨tau3.1, tau3.2, rok3⟩, ⟨by rw [fC3.1]; exact v1, v2, (fC3.2.1 3000 o rfl).trans v3, by rw [fR3.2.2 10009 121 rfl]; exact v4, v5, v6⟩, by rw [e57]; exact w1⟩
  obtain ⟨s4, τ4, ρ4, P1, P2, hp4, fC4, fR4, P6, P7, P8, P9, -, lo4⟩ := fL (x2 := x2 - 1) c0 c1 bx3.2 x3.toNat 0 s3 τ3 ρ3 (by omega) (by omega) hp3 (by rw [ec3, a5]; exact iu_r) (by rw [er3 _ (by decide), b12]; exact iu_r) (fun _ p p0 p1 => absurd p1 (by omega))
  obtain ⟨⟨t41, t42, t43⟩, ⟨u41, u42, u43⟩, ⟨v41, -, v43, v44, -, -⟩, w41⟩ := id hp4
  generalize hx5 : nxv tb sz s4 0 8 = x5
  generalize hs5 : nxs tb sz s4 0 8 = s5
  have p5 : pso sz s5 := by rw [← hs5]; exact nxs_o t43
  have bx5 : 0 ≤ x5 ∧ x5 ≤ 8 := by rw [← hx5]; exact nxv_b (by omega)
  have okc5 : s5.2 = 0 → s3.2 = 0 ∧ s3.1 ≤ s5.1 ∧ s4.2 = 0 := by
    intro q
    have q4 := nxs_f' hs5 q
    have q3 := P6 q4.1
    exact ⟨q3.1, by omega, q4.1⟩
  have e41 : τ4.1 3001 o = M := (fC4.2.1 3001 o rfl).trans e31
  have d18 : ρ4.2.2 10018 121 2 = M := by rw [fR4.2.2 10018 121 rfl, er3 _ (by decide), bE 10018 rfl]; exact hI'
  have c5 : τ4.2.2 3005 o c = x3 := by rw [fC4.2.2 3005 o rfl, ec3, a5]; exact iu_r
  generalize hA5 : j3_ast (j3_ast τ4.2.2 3007 o c M) 3006 o c x5 = A5
  generalize hB5 : j3_ast (j3_ast ρ4.2.2 10014 121 (20 + c) x5) 10013 121 (20 + c) M = B5
  have hC5 : ∀ d (Q : j3_P), (∀ w, T67 (d + 1) Q 112 [wO 5 73, wI c, wI (x2 - 1), wI 0, w] [] (cS (τ4.1, τ4.2.1, A5) s5)) → ∀ w, T67 (d + 1) Q 49 [wO 5 73, wI c, wI (x2 - 1), wI x3, w] [] τ4 := by
    intro d Q h w
    have TA := t41.A (e := 3007) (o' := o) (i := c) (x := M) rfl
    rw [b67_49, v41, c5, if_neg (by omega), e41, s66' (σ := (τ4.1, τ4.2.1, j3_ast τ4.2.2 3007 o c M)) (st := s4) TA u41 u42 t43, hx5, hs5]
    simp only [Option.toList_some, List.cons_append, List.nil_append]
    rw [b67_109]
    refine ⟨v2, by omega, v2, v2, by omega, v2, by omega, ?_⟩
    rw [← hA5] at h
    exact h _
  have hR5 : ∀ d (Q : j3_P), (∀ w, T162 (d + 2) Q 96 [wO 10 121, wI c, wI (20 + c), wI 0, w] [] (rS (ρ4.1, ρ4.2.1, B5) s5)) → ∀ k w, T162 (d + 2) Q 78 [wO 10 121, wI c, wI (20 + c), wI k, w] [] ρ4 := by
    intro d Q h k w
    have e0 := s159e (d := d) (Q := fun r σ1 => T162 (d + 2) Q 85 [wO 10 121, wI c, wI (20 + c), wI k, w] (r.toList ++ [wI (20 + c), wA 10014 121]) σ1) (lo := 0) (hi := 8) t42 t43
    rw [rS_id u43 t43, hx5, hs5] at e0
    rw [b162_78, e0]
    simp only [Option.toList_some, List.cons_append, List.nil_append]
    have e18 : (rS ρ4 s5).2.2 10018 121 2 = M := by rw [rS_f.2.2 10018 121 rfl]; exact d18
    rw [b162_85]
    have e2 : (((rS ρ4 s5).1, (rS ρ4 s5).2.1, j3_ast (j3_ast (rS ρ4 s5).2.2 10014 121 (20 + c) x5) 10013 121 (20 + c) M) : j3_S) = rS (ρ4.1, ρ4.2.1, B5) s5 := by
      have q1 := rS_A (σ := ρ4) (st := s5) (e := 10014) (i := 20 + c) (x := x5) (by decide)
      have q2 := rS_A (σ := (ρ4.1, ρ4.2.1, j3_ast ρ4.2.2 10014 121 (20 + c) x5)) (st := s5) (e := 10013) (i := 20 + c) (x := M) (by decide)
      rw [← q1] at q2
      rw [← hB5]
      exact q2
    have e3 : j3_ast (rS ρ4 s5).2.2 10014 121 (20 + c) x5 10018 121 2 = M := by
      simp only [j3_ast, up_e (show ((10018 : Nat) == 10014) = false from rfl)]
      exact e18
    first
      | rw [e3, e2]; exact ⟨by omega, by omega, by omega, h _⟩
      | rw [e18, e2]; exact ⟨by omega, by omega, by omega, h _⟩
  have fC5 : frg (fiC o) (faC o) τ4 (cS (τ4.1, τ4.2.1, A5) s5) := by
    rw [← hA5]
    refine frg.I rfl (frg.I rfl (frg.A ?_ (frg.A ?_ frg.rf))) <;> simp [faC]
  have fR5 : frm [10004, 10007] laC ρ4 (rS (ρ4.1, ρ4.2.1, B5) s5) := by
    refine frm.tr (σ' := (ρ4.1, ρ4.2.1, B5)) ?_ (rS_f.wd (sub_el rfl) (sub_el rfl))
    rw [← hB5]
    exact frm.A rfl (frm.A rfl frm.rf)
  have a7 : A5 3007 o = i_up (τ4.2.2 3007 o) c M := by rw [← hA5]; simp only [j3_ast, up_r, up_e (show ((3007 : Nat) == 3006) = false from rfl)]
  have a6 : A5 3006 o = i_up (τ4.2.2 3006 o) c x5 := by rw [← hA5]; simp only [j3_ast, up_r, up_e (show ((3006 : Nat) == 3007) = false from rfl)]
  have aE5 : ∀ e o', [3007, 3006].elem e = false → A5 e o' = τ4.2.2 e o' := by
    intro e o' he
    rw [← hA5]
    simp only [j3_ast]
    rw [up_e (elem_ne (l := [3007, 3006]) rfl he), up_e (elem_ne (l := [3007, 3006]) rfl he)]
  have b14 : B5 10014 121 = i_up (ρ4.2.2 10014 121) (20 + c) x5 := by rw [← hB5]; simp only [j3_ast, up_r, up_e (show ((10014 : Nat) == 10013) = false from rfl)]
  have b13 : B5 10013 121 = i_up (ρ4.2.2 10013 121) (20 + c) M := by rw [← hB5]; simp only [j3_ast, up_r, up_e (show ((10013 : Nat) == 10014) = false from rfl)]
  have bE5 : ∀ e, [10014, 10013].elem e = false → B5 e 121 = ρ4.2.2 e 121 := by
    intro e he
    rw [← hB5]
    simp only [j3_ast]
    rw [up_e (elem_ne (l := [10014, 10013]) rfl he), up_e (elem_ne (l := [10014, 10013]) rfl he)]
  have lo5 : LO ρ4 (rS (ρ4.1, ρ4.2.1, B5) s5) := by
    refine LO.tr (σ' := (ρ4.1, ρ4.2.1, B5)) ?_ (LO.fr rS_f rfl)
    rw [← hB5]
    refine LO.A (LO.A LO.rf ?_) ?_ <;> simp only [show loS 10014 = 20 from rfl, show loS 10013 = 20 from rfl] <;> omega
  clear hA5 hB5
  have ec5 : (cS (τ4.1, τ4.2.1, A5) s5).2.2 = A5 := rfl
  have er5 : ∀ e, ¬ e = 10008 → (rS (ρ4.1, ρ4.2.1, B5) s5).2.2 e 121 = B5 e 121 := fun e he => rS_f.2.2 e 121 (by simpa using he)
  have tau5 := cS_1 (σ := (τ4.1, τ4.2.1, A5)) (st := s5)
  have e575 : (cS (τ4.1, τ4.2.1, A5) s5).1 5007 73 = τ4.1 5007 73 := cS_e rfl rfl
  have e315 : (cS (τ4.1, τ4.2.1, A5) s5).1 3001 o = M := (cS_e rfl rfl).trans e41
  have rok5 := rS_ok (σ := (ρ4.1, ρ4.2.1, B5)) p5
  generalize cS (τ4.1, τ4.2.1, A5) s5 = τ5 at hC5 fC5 ec5 tau5 e575 e315
  generalize rS (ρ4.1, ρ4.2.1, B5) s5 = ρ5 at hR5 fR5 er5 rok5 lo5
  have hp5 : pre τ5 o ρ5 tb sz nc s5 := ⟨⟨t41.fg fC5 rfl rfl, t42.fr fR5 rfl rfl, p5⟩, ⟨tau5.1, tau5.2, rok5⟩, ⟨by rw [fC5.1]; exact v41, v2, (fC5.2.1 3000 o rfl).trans v43, by rw [fR5.2.2 10009 121 rfl]; exact v44, v5, v6⟩, by rw [e575]; exact w41⟩
  have g57 : τ5.1 5007 73 = σc.1 5007 73 := e575.trans ((fC4.2.1 5007 73 rfl).trans e57)
  have gA : ∀ e o', [3002, 3003, 3004, 3005, 3006, 3007, 3008, 3009, 3010].elem e = false → τ5.2.2 e o' = σc.2.2 e o' := by
    intro e o' he
    have h1 := sub_el (l := [3007, 3006]) (l' := [3002, 3003, 3004, 3005, 3006, 3007, 3008, 3009, 3010]) rfl e he
    have h2 := sub_el (l := [3008, 3009, 3010]) (l' := [3002, 3003, 3004, 3005, 3006, 3007, 3008, 3009, 3010]) rfl e he
    have h3 := sub_el (l := [3002, 3003, 3004, 3005]) (l' := [3002, 3003, 3004, 3005, 3006, 3007, 3008, 3009, 3010]) rfl e he
    rw [ec5, aE5 e o' h1, fC4.2.2 e o' (by simp only [faF, h2, Bool.false_and]), ec3, aE e o' h3]
  have hE : ∀ e, 10018 ≤ e → ρ5.2.2 e 121 = σr.2.2 e 121 := by
    intro e he
    have h1 : [10014, 10013].elem e = false := by simp; omega
    have h2 : [10008, 10015, 10016, 10017].elem e = false := by simp; omega
    have h3 : [10010, 10011, 10012].elem e = false := by simp; omega
    rw [er5 e (by omega), bE5 e h1, fR4.2.2 e 121 h2, er3 e (by omega), bE e h3]
  have g2 : ∀ e, [3002, 3003, 3004, 3005].elem e = true → τ5.2.2 e o = A e o := by
    intro e he
    have h1 : [3007, 3006].elem e = false ∧ faF o e o = false := by
      simp at he
      rcases he with rfl | rfl | rfl | rfl <;> exact ⟨rfl, rfl⟩
    rw [ec5, aE5 e o h1.1, fC4.2.2 e o h1.2, ec3]
  have h2 : ∀ e, [10010, 10011, 10012].elem e = true → ρ5.2.2 e 121 = B e 121 := by
    intro e he
    have h1 : ¬ e = 10008 ∧ [10014, 10013].elem e = false ∧ [10008, 10015, 10016, 10017].elem e = false := by
      simp at he
      rcases he with rfl | rfl | rfl <;> exact ⟨by decide, rfl, rfl⟩
    rw [er5 e h1.1, bE5 e h1.2.1, fR4.2.2 e 121 h1.2.2, er3 e h1.1]
  have z6 : τ5.2.2 3006 o = i_up (σc.2.2 3006 o) c x5 := by rw [ec5, a6, fC4.2.2 3006 o rfl, ec3, aE 3006 o rfl]
  have z7 : τ5.2.2 3007 o = i_up (σc.2.2 3007 o) c M := by rw [ec5, a7, fC4.2.2 3007 o rfl, ec3, aE 3007 o rfl]
  have y14 : ρ5.2.2 10014 121 = i_up (σr.2.2 10014 121) (20 + c) x5 := by rw [er5 _ (by decide), b14, fR4.2.2 10014 121 rfl, er3 _ (by decide), bE 10014 rfl]
  have y13 : ρ5.2.2 10013 121 = i_up (σr.2.2 10013 121) (20 + c) M := by rw [er5 _ (by decide), b13, fR4.2.2 10013 121 rfl, er3 _ (by decide), bE 10013 rfl]
  have ok5 : okM τ5 o ρ5 nc (M + 0) s5 := by
    intro q
    have q3 := okc5 q
    have q0 := okch q3.1
    obtain ⟨k1, k2, k3⟩ := hok.1 q0.1
    rw [Int.add_zero]
    refine ⟨fun m' h0 h1 => (k1 m' h0 h1).mv (fun e he => gA e o ?_) (gA 0 (o + 17) rfl) (fun e h3 h4 => hE e (by omega)) (fun i i0 i1 e he => ?_) (fun i i0 i1 e he => ?_), ?_, by rw [g57]; omega⟩
    · simp at he
      rcases he with rfl | rfl | rfl | rfl | rfl | rfl | rfl <;> rfl
    · rcases he with rfl | rfl | rfl <;> rw [gA _ _ rfl]
    · rcases he with rfl | rfl | rfl <;> rw [hE _ (by decide)]
    · exact k2.mv g57 (gA 5005 73 rfl) (gA 5006 73 rfl) (gA 1 (o + 17) rfl) (hE 10033 (by decide)) (fun z hz => by rw [gA 0 (o + 17) rfl]) (Int.le_refl _)
  obtain ⟨s6, σ6, ρ6, M', E1, E2, hp6, fC6, fR6, E6, E7, E8, lo6⟩ := mL (x2 := x2 - 1) (mc := x5) (M0 := M) c0 c1 M0 (by omega) x5.toNat 0 s5 τ5 ρ5 (by omega) (by omega) hp5 (by rw [e315]; omega) (by rw [hE 10018 (by decide)]; omega) (by rw [z6]; exact iu_r) (by rw [y14]; exact iu_r) ok5 (fun _ m' h0 h1 => absurd h1 (by omega))
  have W : ∀ e o', faC o e o' = false → faF o e o' = false ∧ faM o e o' = false := by
    intro e o' he
    simp only [faC, Bool.or_eq_false_iff, Bool.and_eq_false_iff] at he
    refine ⟨?_, he.1⟩
    simp only [faF, Bool.and_eq_false_iff]
    rcases he.2 with h | h
    · exact Or.inl (sub_el (l := [3008, 3009, 3010]) (l' := [3002, 3003, 3004, 3005, 3006, 3007, 3008, 3009, 3010]) rfl e h)
    · exact Or.inr h
  have fiW : ∀ e o', fiC o e o' = false → fiP e o' = false := by
    intro e o' h
    simp only [fiC, Bool.or_eq_false_iff] at h
    exact sub_el (l := [5002, 5003]) (l' := [5002, 5003, 5007]) rfl e h.1
  have fM6 : ∀ e, [3002, 3003, 3004, 3005, 3006, 3007, 3008, 3009, 3010].elem e = true → σ6.2.2 e o = τ5.2.2 e o := by
    intro e he
    refine fC6.2.2 e o ?_
    simp at he
    rcases he with rfl | rfl | rfl | rfl | rfl | rfl | rfl | rfl | rfl <;> rfl
  have fN6 : ∀ e, [10010, 10011, 10012, 10013, 10014, 10015, 10016, 10017].elem e = true → ρ6.2.2 e 121 = ρ5.2.2 e 121 := by
    intro e he
    refine fR6.2.2 e 121 ?_
    simp at he
    rcases he with rfl | rfl | rfl | rfl | rfl | rfl | rfl | rfl <;> rfl
  refine ⟨s6, σ6, ρ6, M', fun d Q h => ?_, fun d Q h => ?_, hp6, ?_, ?_, ⟨E6.1, E6.2.1, by omega, by omega⟩, ⟨E7, fun q => ?_⟩, fun q => ?_, lo3.tr (lo4.tr (lo5.tr lo6))⟩
  · rw [show d + 5 = (d + 3) + 2 from rfl]
    exact hC3 (d + 3) Q (P1 (d + 3) Q (hC5 (d + 3) Q (E1 d Q h)))
  · rw [show d + 5 = (d + 2) + 3 from rfl]
    exact hR3 (d + 2) Q (P2 (d + 2) Q (hR5 (d + 2) Q (E2 d Q h)))
  · exact fC3.tr ((fC4.wd fiW (fun e o' h => (W e o' h).1)).tr (fC5.tr (fC6.wd (fun _ _ h => h) (fun e o' h => (W e o' h).2))))
  · exact fR3.tr ((fR4.wd (sub_el rfl) (sub_el rfl)).tr (fR5.tr (fR6.wd (sub_el rfl) (sub_el rfl))))
  · obtain ⟨r1, r2, r3, r4⟩ := E8 q
    have q3 := okc5 r1
    have q0 := okch q3.1
    obtain ⟨k1, ⟨k2, k3, k5⟩⟩ := hok.2 q0.1
    have kk := P7 q3.2.2
    have f3 : ∀ e, [3008, 3009, 3010].elem e = true → ∀ z, z < c * 6 → σ6.2.2 e o z = σc.2.2 e o z := by
      intro e he z hz
      have h5 : [3002, 3003, 3004, 3005, 3006, 3007, 3008, 3009, 3010].elem e = true ∧ [3007, 3006].elem e = false ∧ [3002, 3003, 3004, 3005].elem e = false := by
        simp at he
        rcases he with rfl | rfl | rfl <;> exact ⟨rfl, rfl, rfl⟩
      rw [fM6 e h5.1, ec5, aE5 e o h5.2.1, P8 e z hz he, ec3, aE e o h5.2.2]
    have f4 : ∀ e, [10015, 10016, 10017].elem e = true → ∀ z, z < 120 + 6 * c → ρ6.2.2 e 121 z = σr.2.2 e 121 z := by
      intro e he z hz
      have h5 : [10010, 10011, 10012, 10013, 10014, 10015, 10016, 10017].elem e = true ∧ ¬ e = 10008 ∧ [10014, 10013].elem e = false ∧ [10010, 10011, 10012].elem e = false := by
        simp at he
        rcases he with rfl | rfl | rfl <;> exact ⟨rfl, by decide, rfl, rfl⟩
      rw [fN6 e h5.1, er5 e h5.2.1, bE5 e h5.2.2.1, P9 e z hz he, er3 e h5.2.1, bE e h5.2.2.2]
    have f1 : ∀ e, [3002, 3003, 3004, 3005, 3006, 3007].elem e = true → ∀ z, ¬ z = c → σ6.2.2 e o z = σc.2.2 e o z := by
      intro e he z hz
      simp at he
      rcases he with rfl | rfl | rfl | rfl | rfl | rfl
      · rw [fM6 _ rfl, g2 _ rfl, a2, iu_n hz]
      · rw [fM6 _ rfl, g2 _ rfl, a3, iu_n hz]
      · rw [fM6 _ rfl, g2 _ rfl, a4, iu_n hz]
      · rw [fM6 _ rfl, g2 _ rfl, a5, iu_n hz]
      · rw [fM6 _ rfl, z6, iu_n hz]
      · rw [fM6 _ rfl, z7, iu_n hz]
    have f2 : ∀ e, [10010, 10011, 10012, 10013, 10014].elem e = true → ∀ z, ¬ z = c → ρ6.2.2 e 121 (20 + z) = σr.2.2 e 121 (20 + z) := by
      intro e he z hz
      simp at he
      rcases he with rfl | rfl | rfl | rfl | rfl
      · rw [fN6 _ rfl, h2 _ rfl, b10, iu_n (by omega)]
      · rw [fN6 _ rfl, h2 _ rfl, b11, iu_n (by omega)]
      · rw [fN6 _ rfl, h2 _ rfl, b12, iu_n (by omega)]
      · rw [fN6 _ rfl, y13, iu_n (by omega)]
      · rw [fN6 _ rfl, y14, iu_n (by omega)]
    have y2 : σ6.2.2 3002 o c = x1 := by rw [fM6 _ rfl, g2 _ rfl, a2]; exact iu_r
    have y3 : σ6.2.2 3003 o c = x2 - 1 := by rw [fM6 _ rfl, g2 _ rfl, a3]; exact iu_r
    have y4 : σ6.2.2 3004 o c = dp := by rw [fM6 _ rfl, g2 _ rfl, a4]; exact iu_r
    have y5 : σ6.2.2 3005 o c = x3 := by rw [fM6 _ rfl, g2 _ rfl, a5]; exact iu_r
    have y6 : σ6.2.2 3006 o c = x5 := by rw [fM6 _ rfl, z6]; exact iu_r
    have y7 : σ6.2.2 3007 o c = M := by rw [fM6 _ rfl, z7]; exact iu_r
    refine ⟨fun c' h0 h1 => ?_, fun c' h0 h1 => ?_, fun m h0 h1 => ?_, fun c1 c2 h0 h1 h2 => ?_⟩
    · by_cases g : c' = c
      · subst g
        unfold CRr
        rw [y2, y3, y4, y5, y6, y7]
        refine ⟨⟨?_, ?_, ?_, ?_, ?_⟩, ⟨by omega, by omega, ?_⟩, ⟨bx3.1, bx3.2, fun f f0 f1' => (kk f f0 f1').mv (fun e he => ?_) (fun e he => ?_)⟩, ⟨bx5.1, bx5.2, M0⟩⟩
        · rw [fN6 _ rfl, h2 _ rfl, b10]; exact iu_r
        · rw [fN6 _ rfl, h2 _ rfl, b11]; exact iu_r
        · rw [fN6 _ rfl, h2 _ rfl, b12]; exact iu_r
        · rw [fN6 _ rfl, y14]; exact iu_r
        · rw [fN6 _ rfl, y13]; exact iu_r
        · rw [← hdp]
          by_cases g : x2 - 1 < 0
          · rw [if_pos g, if_pos g]
            exact ⟨rfl, by omega, by omega⟩
          · have hd := (k1 (x2 - 1) (by omega) (by omega)).2.1.2.2
            rw [if_neg g, if_neg g, wr_id (by omega) (by omega), f1 3004 rfl _ (by omega)]
            exact ⟨rfl, by omega, by omega⟩
        · have h5 : [3002, 3003, 3004, 3005, 3006, 3007, 3008, 3009, 3010].elem e = true ∧ [3007, 3006].elem e = false := by
            simp at he
            rcases he with rfl | rfl | rfl <;> exact ⟨rfl, rfl⟩
          rw [fM6 e h5.1, ec5, aE5 e o h5.2]
        · have h5 : [10010, 10011, 10012, 10013, 10014, 10015, 10016, 10017].elem e = true ∧ ¬ e = 10008 ∧ [10014, 10013].elem e = false := by
            simp at he
            rcases he with rfl | rfl | rfl <;> exact ⟨rfl, by decide, rfl⟩
          rw [fN6 e h5.1, er5 e h5.2.1, bE5 e h5.2.2]
      · exact (k1 c' h0 (by omega)).mv h0 (fun e he z z0 z1 => f1 e he z (by omega)) (fun e he => f2 e he c' g) (fun e he z hz => f3 e he z (by omega)) (fun e he z hz => f4 e he z (by omega))
    · by_cases g : c' = c
      · subst g
        rw [y6, y7]
        exact ⟨by omega, fun k k0 k1 => r3 _ (by omega) (by omega)⟩
      · rw [f1 3007 rfl c' g, f1 3006 rfl c' g]
        obtain ⟨w1, w2⟩ := k2 c' h0 (by omega)
        refine ⟨by omega, fun k k0 k1 => ?_⟩
        have ho := r4 (σc.2.2 3007 o c' + k) (by omega)
        rw [show τ5.2.2 3011 o (σc.2.2 3007 o c' + k) = σc.2.2 3011 o (σc.2.2 3007 o c' + k) by rw [gA 3011 o rfl]] at ho
        rw [ho]
        exact w2 k k0 k1
    · by_cases g : m < M
      · have ho := r4 m (by omega)
        have hg : τ5.2.2 3011 o m = σc.2.2 3011 o m := by rw [gA 3011 o rfl]
        rw [hg] at ho
        rw [ho]
        have := k3 m h0 g
        rw [f1 3007 rfl _ (by omega), f1 3006 rfl _ (by omega)]
        exact ⟨this.1, by omega, this.2.2⟩
      · have ho := r3 m (by omega) h1
        rw [ho, y6, y7]
        omega
    · rw [f1 3007 rfl c1 (by omega), f1 3006 rfl c1 (by omega)]
      by_cases g : c2 = c
      · rw [g, y7]
        exact (k2 c1 h0 (by omega)).1
      · rw [f1 3007 rfl c2 g]
        exact k5 c1 c2 h0 h1 (by omega)
  · exact (okch (okc5 (E8 q).1).1).1
end CLS
