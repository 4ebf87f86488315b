/-! read -/
section READ
variable {σ σ' σc σr : j3_S} {g p : Nat} {P : Pg}
theorem rdC.smP (h : rdC p σ σ') (h1 : ¬ g = p) (h2 : ¬ g = p + 17) (h3 : ¬ g + 17 = p) : smP g σ σ' := by
  refine ⟨⟨h.2.1 3000 g ?_, h.2.1 3001 g ?_⟩, fun e he => ⟨h.2.2 e g ?_, h.2.2 e (g + 17) ?_⟩⟩
  · simp [rdI, h1]
  · simp [rdI, h1]
  · have : [5005, 5006, 1005, 1006, 1007, 1008, 1009, 1011].elem e = false := by
      simp [pgA] at he
      rcases he with rfl | rfl | rfl | rfl | rfl | rfl | rfl | rfl | rfl | rfl | rfl | rfl | rfl | rfl | rfl | rfl | rfl | rfl | rfl | rfl | rfl <;> rfl
    simp only [rdA, this, Bool.false_or]
    simp [h1, h2]
  · have : [5005, 5006, 1005, 1006, 1007, 1008, 1009, 1011].elem e = false := by
      simp [pgA] at he
      rcases he with rfl | rfl | rfl | rfl | rfl | rfl | rfl | rfl | rfl | rfl | rfl | rfl | rfl | rfl | rfl | rfl | rfl | rfl | rfl | rfl | rfl <;> rfl
    simp only [rdA, this, Bool.false_or]
    simp [h1, h3]
theorem smP.tr {σ'' : j3_S} (h : smP g σ σ') (h' : smP g σ' σ'') : smP g σ σ'' := ⟨⟨h'.1.1.trans h.1.1, h'.1.2.trans h.1.2⟩, fun e he => ⟨(h'.2 e he).1.trans (h.2 e he).1, (h'.2 e he).2.trans (h.2 e he).2⟩⟩
theorem smP.fr {li la : List Nat} (h : frm li la σ σ') (h1 : li.elem 3000 = false ∧ li.elem 3001 = false) (h2 : pgA.all (fun e => !la.elem e) = true) : smP g σ σ' := by
  refine ⟨⟨h.2.1 _ _ h1.1, h.2.1 _ _ h1.2⟩, fun e he => ?_⟩
  have : la.elem e = false := by
    have := List.all_eq_true.mp h2 e (by simpa using he)
    simpa using this
  exact ⟨h.2.2 _ _ this, h.2.2 _ _ this⟩
theorem rdR.smS {s : Int} (h : rdR σ σ') (s0 : 0 ≤ s) (s1 : s ≤ 1) : smS s σ σ' := by
  intro e z e0 e1 z0 z1 hn
  by_cases ge : e = 10034
  · subst ge
    rw [show slz 10034 = 1 from rfl] at z0 z1
    exact h.2.2.2 z (by omega)
  · refine h.2.1 e z e0 (by omega) ?_
    have hl : loS e = 2 * slz e := by
      rcases (by omega : e = 10009 ∨ e = 10010 ∨ e = 10011 ∨ e = 10012 ∨ e = 10013 ∨ e = 10014 ∨ e = 10015 ∨ e = 10016 ∨ e = 10017 ∨ e = 10018 ∨ e = 10019 ∨ e = 10020 ∨ e = 10021 ∨ e = 10022 ∨ e = 10023 ∨ e = 10024 ∨ e = 10025 ∨ e = 10026 ∨ e = 10027 ∨ e = 10028 ∨ e = 10029 ∨ e = 10030 ∨ e = 10031 ∨ e = 10032) with rfl | rfl | rfl | rfl | rfl | rfl | rfl | rfl | rfl | rfl | rfl | rfl | rfl | rfl | rfl | rfl | rfl | rfl | rfl | rfl | rfl | rfl | rfl | rfl <;> rfl
    have k0 : 0 ≤ slz e := by
      unfold slz
      repeat' split
      all_goals omega
    have : (s + 1) * slz e ≤ 2 * slz e := Int.mul_le_mul_of_nonneg_right (by omega) k0
    omega
theorem smS.fr {s : Int} {li la : List Nat} (h : frm li la σ σ') (h1 : la.all (fun e => decide (e < 10009) || decide (e = 10033) || decide (10034 < e)) = true) : smS s σ σ' := by
  intro e z e0 e1 _ _ hn
  rw [h.2.2 e 121]
  cases hb : la.elem e
  · rfl
  · have := List.all_eq_true.mp h1 e (by simpa using hb)
    simp only [Bool.or_eq_true, decide_eq_true_eq] at this
    omega
theorem smS.tr {s : Int} {σ'' : j3_S} (h : smS s σ σ') (h' : smS s σ' σ'') : smS s σ σ'' := fun e z a b c d f => (h' e z a b c d f).trans (h e z a b c d f)
theorem tf_f {a b c e : Int} : frm [] [9010] σ (tf σ a b c e) := frm.A rfl (frm.A rfl (frm.A rfl (frm.A rfl frm.rf)))
def ra (σ : j3_S) : j3_S := (j3_up σ.1 10005 121 (σ.1 10007 121), σ.2.1, j3_ast (j3_ast (j3_ast σ.2.2 10006 121 0 (σ.2.2 10008 121 0)) 10006 121 1 (σ.2.2 10008 121 1)) 10006 121 2 (σ.2.2 10008 121 2))
theorem ra_f : frm [10005] [10006] σ (ra σ) := frm.I rfl (frm.A rfl (frm.A rfl (frm.A rfl frm.rf)))
theorem ra_r : (ra σ).1 10005 121 = σ.1 10007 121 ∧ (ra σ).2.2 10006 121 0 = σ.2.2 10008 121 0 ∧ (ra σ).2.2 10006 121 1 = σ.2.2 10008 121 1 ∧ (ra σ).2.2 10006 121 2 = σ.2.2 10008 121 2 := by
  simp [ra, j3_ast, j3_up, i_up]
theorem t34 {d : Nat} {Q : j3_P} : T185 d Q 34 [wO 10 121, wM 2, wM 2] [] σ = (if (ra σ).1 10007 121 = 0 then j3_tc true d 183 [wO 10 121, wI 2, wI 0] (ra σ) (fun r σ1 => T185 d Q 63 [wO 10 121, wI 3, wM 2] (r.toList ++ []) σ1) else Q (some (wI ((ra σ).1 10007 121))) (ra σ)) := by
  rw [b185_34, b185_40, if_pos (by decide), wr_id (by decide) (by decide), show (0 : Int) + 1 = 1 by decide, b185_40, if_pos (by decide), wr_id (by decide) (by decide), show (1 : Int) + 1 = 2 by decide, b185_40, if_pos (by decide), wr_id (by decide) (by decide), show (2 : Int) + 1 = 3 by decide, b185_40, if_neg (by decide)]
  simp only [j3_ast, up_e (show ((10008 : Nat) == 10006) = false from rfl)]
  simp
  rfl
theorem SR_cs {σ0 : j3_S} {m nl : Int} {F : Fl} {len : Int} (h : FR σ0 (9600 + 120 * m) nl F) (hF : Fok P nl F) (l1 : len ≤ 120) (l2 : nl ≤ 20) (hc : ∀ i, 0 ≤ i → i < len → csY σ0 σ (120 * m + i)) : SR σ (120 * m) nl len F := by
  intro i i0 i1
  obtain ⟨a1, a2, a3, a4⟩ := hc i i0 i1
  obtain ⟨b1, b2⟩ := h i i0 (by omega)
  rw [a1, a2, show 9600 + (120 * m + i) = 9600 + 120 * m + i by omega]
  refine ⟨b1, fun hi => ?_⟩
  obtain ⟨b3, b4, b5, b6⟩ := b2 hi
  have := (hF i i0 (by omega) hi).1
  refine ⟨b3, fun k k0 k1 => ?_, fun x x0 x1 => ?_⟩
  · rw [a3 k k0 (by omega), show 96000 + 10 * (120 * m + i) + k = 10 * (9600 + 120 * m + i) + k by omega]
    exact b4 k k0 k1
  · rw [a4 x x0 (by omega), show 192000 + 20 * (120 * m + i) + x = 20 * (9600 + 120 * m + i) + x by omega]
    exact b5 x x0 x1
theorem g131 (h : JJ σc σr) : q2 JJ 131 185 [] σc σr := by
  obtain ⟨⟨⟨t1, t2, t3, t4⟩, hf, hm, ⟨⟨fl1, fl2⟩, ⟨fl3, fl4⟩, fl5, fl6⟩, ⟨pt1, pt2, pt3, pt4, pt5, pt6⟩⟩, hg⟩ := h
  generalize hsz : σc.1 9001 0 = sz at t1 t2 t3 t4
  generalize hp : σc.2.1 9 = p at pt3 pt5 pt6
  have hp0 : ¬ p = 0 := by omega
  generalize hσ1 : ((j3_up (j3_up σc.1 9001 0 0) 9013 0 (-1), σc.2.1, σc.2.2) : j3_S) = σ1
  have fc1 : frm [9001, 9013] [] σc σ1 := by rw [← hσ1]; exact frm.I rfl (frm.I rfl frm.rf)
  have i1 : σ1.1 9001 0 = 0 ∧ σ1.1 9013 0 = -1 := by rw [← hσ1]; simp [j3_up]
  generalize hρ1 : ((j3_up (j3_up (j3_up (j3_up (j3_up σr.1 10000 121 0) 10003 121 sz) 10002 121 0) 10007 121 0) 10042 121 0, σr.2.1, σr.2.2) : j3_S) = ρ1
  have fr1 : frm [10000, 10002, 10003, 10007, 10042] [] σr ρ1 := by rw [← hρ1]; exact frm.I rfl (frm.I rfl (frm.I rfl (frm.I rfl (frm.I rfl frm.rf))))
  have j1 : ρ1.1 10003 121 = sz ∧ ρ1.1 10002 121 = 0 ∧ ρ1.1 10007 121 = 0 ∧ ρ1.1 10042 121 = 0 := by rw [← hρ1]; simp [j3_up]
  obtain ⟨f, a, b, e, τ, ρ, C, R, rc, rr, o1, o2, o3, o4, o5⟩ := rdBoth (σc := σ1) (σr := ρ1) (tb := σr.2.2 10001 121) (sz := sz) (p := p) (by rw [fc1.1]; exact hp) hp0 t2 t1 (fun i i0 i1 => by rw [fc1.2.2 9000 0 rfl]; exact (t4 i i0 i1).symm) ⟨j1.1, t2, fun i _ _ => by rw [fr1.2.2 10001 121 rfl]⟩ j1.2.2.1 j1.2.2.2
  -- both go to their ends
  have CC : ∀ Q : j3_P, T131 19 Q 12 [wO 9 0, wI sz, wM 2, wM 2] [wI f] (tf τ f a b e) → j3_tc false 20 131 [wO 9 0] σc Q := by
    intro Q hq
    rw [e131, b131_0, hsz, hσ1]
    refine C 11 _ ?_
    exact hq
  have RR : ∀ Q : j3_P, T185 19 Q 34 [wO 10 121, wM 2, wM 2] [] ρ → j3_tc true 20 185 [wO 10 121] σr Q := by
    intro Q hq
    rw [e185, b185_0, t3, hρ1]
    exact ⟨Or.inl rfl, R 12 Q hq⟩
  have gne : ∀ g : Nat, (g = 2 ∨ g = 25 ∨ g = 48) → ¬ g = p → ¬ g = p + 17 ∧ ¬ g + 17 = p := by
    intro g h1 h2
    omega
  have rcP : ∀ j, j = 7 ∨ j = 8 ∨ j = 9 → τ.2.1 j = σc.2.1 j := by
    intro j hj
    rw [rc.1 j (by omega) (by omega) (by omega), fc1.1]
  unfold q2
  refine CC _ ?_
  rw [b131_12]
  by_cases gf : f = 0
  · obtain ⟨n1, n2, n3⟩ := o3 gf
    obtain ⟨P, y1, y2, y3, y4, y5, y6, y7, y8⟩ := o4 gf
    have hb := bnd_of y4.1
    have ne7 : (tf τ f a b e).2.1 7 = σc.2.1 7 := rcP 7 (by omega)
    have ne9 : (tf τ f a b e).2.1 9 = p := (rcP 9 (by omega)).trans hp
    rw [if_pos gf, ne7, ne9, e19, b19_0]
    simp only [Option.toList_none, List.nil_append]
    rw [b131_40]
    refine ⟨by omega, hp0, Or.inr trivial, Or.inl trivial, Or.inl trivial, f, rfl, ?_⟩
    refine RR _ ?_
    have b0 : (ra ρ).1 10007 121 = 0 := (ra_f.2.1 10007 121 rfl).trans (o1.trans gf)
    rw [t34, if_pos b0]
    refine s183 (d := 16) (s := 2) (t := 0) (by omega) (by omega) (by omega) (by omega) (by omega) hb (by have := y4.1.1.1; omega) y4.1.2.1.1 (y3.fr ra_f (lr_ok rfl)) (fun ρ2 oS2 R2 B2 => ?_)
    simp only [Option.toList_none, List.nil_append]
    rw [b185_63]
    have fA : frm [10005] ([10006] ++ slA) ρ ρ2 := (ra_f.wd (sub_el rfl) (sub_el rfl)).tr (oS2.1.wd (sub_el rfl) (sub_el rfl))
    have st2 : ∀ e, e = 10035 ∨ e = 10036 ∨ e = 10037 ∨ e = 10038 → ρ2.2.2 e 121 = ρ.2.2 e 121 := by
      intro e he
      rcases he with rfl | rfl | rfl | rfl <;> exact fA.2.2 _ 121 rfl
    have FR2 : ∀ m, 0 ≤ m → m < P 3001 0 → FR ρ2 (9600 + 120 * m) (P 3017 m) (res P m).2.2 := by
      intro m m0 m1
      unfold FR
      rw [st2 10035 (by simp), st2 10036 (by simp), st2 10037 (by simp), st2 10038 (by simp)]
      exact y7 m m0 m1
    refine q65 (σ0 := ρ2) hb (fun m i m0 m1 i0 i1 => ?_) (P 3001 0).toNat 0 _ ρ2 (by have := y4.1.2.1.1; omega) (by omega) R2 frm.rf hiY.rf (fun m' i' a b => absurd b (by omega)) (fun ρ3 R3 f3 c3 => ?_)
    · have := hb.2.2.2 m m0 m1
      rw [show 9600 + (120 * m + i) = 9600 + 120 * m + i by omega, (FR2 m m0 m1 i i0 (by omega)).1]
      split
      · exact Or.inl rfl
      · exact Or.inr rfl
    · refine ⟨by rw [gf], ?_⟩
      have e13 : τ.1 9013 0 = -1 := (rc.2.1 9013 0 rfl).trans i1.2
      have e01 : τ.1 9001 0 = 0 := (rc.2.1 9001 0 rfl).trans i1.1
      have r02 : ρ3.1 10002 121 = 0 := by rw [f3.2.1 10002 121 rfl, fA.2.1 10002 121 rfl, rr.1.2.1 10002 121 rfl]; exact j1.2.1
      have r05 : ρ3.1 10005 121 = 0 := by rw [f3.2.1 10005 121 rfl, oS2.1.2.1 10005 121 rfl, ra_r.1]; exact o1.trans gf
      have r42 : ρ3.1 10042 121 = ρ.1 10042 121 := by rw [f3.2.1 10042 121 rfl, fA.2.1 10042 121 rfl]
      have r34 : ρ3.2.2 10034 121 0 = sz := by
        rw [f3.2.2 10034 121 rfl, B2, ra_f.2.2 10034 121 rfl]
        exact y8
      have tr := tf_r (σ := τ) (a := f) (b := a) (c := b) (e := e)
      generalize hS : ((j3_up (j3_up (j3_up (j3_up (j3_up (tf τ f a b e).1 9005 0 1) 9006 0 0) 9007 0 sz) 9009 0 0) 2000 109 0, j3_upP (j3_upP (tf τ f a b e).2.1 7 p) 9 (σc.2.1 7), (tf τ f a b e).2.2) : j3_S) = S
      have fS : frm [9005, 9006, 9007, 9009, 2000] [9010] τ (S.1, τ.2.1, S.2.2) := by
        rw [← hS]
        exact frm.I rfl (frm.I rfl (frm.I rfl (frm.I rfl (frm.I rfl (tf_f.wd (sub_el rfl) (sub_el rfl))))))
      have sI : S.1 9005 0 = 1 ∧ S.1 9006 0 = 0 ∧ S.1 9007 0 = sz ∧ S.1 9009 0 = 0 ∧ S.1 2000 109 = 0 := by rw [← hS]; simp [j3_up]
      have sP : S.2.1 7 = p ∧ S.2.1 8 = σc.2.1 8 ∧ S.2.1 9 = σc.2.1 7 := by
        rw [← hS]
        exact ⟨rfl, rcP 8 (by omega), rfl⟩
      have sA : S.2.2 = (tf τ f a b e).2.2 := by rw [← hS]
      have s01 : S.1 9001 0 = 0 := (fS.2.1 9001 0 rfl).trans e01
      have s13 : S.1 9013 0 = -1 := (fS.2.1 9013 0 rfl).trans e13
      clear hS
      refine ⟨⟨⟨?_, ?_, ?_, ?_⟩, ⟨?_, ?_, ?_⟩, ⟨?_, ?_⟩, ⟨⟨?_, ?_⟩, ⟨?_, ?_⟩, ?_, ?_⟩, ⟨?_, ?_, ?_, ?_, ?_, ?_⟩⟩, fun _ => ⟨P, ?_, fun q => ?_⟩⟩
      · rw [s01]; omega
      · rw [s01]; omega
      · show j3_up (j3_up (j3_up (j3_up ρ3.1 10043 121 1) 10044 121 0) 10077 121 0) 10045 121 0 10002 121 = _
        rw [up_e rfl, up_e rfl, up_e rfl, up_e rfl, s01, r02]
      · intro i h0 h1
        rw [s01] at h1
        omega
      · rw [sA, tr.1]
        show f = j3_up (j3_up (j3_up (j3_up ρ3.1 10043 121 1) 10044 121 0) 10077 121 0) 10045 121 0 10005 121
        rw [up_e rfl, up_e rfl, up_e rfl, up_e rfl, r05, gf]
      · intro _
        rw [sA, tr.2.1, tr.2.2.1, tr.2.2.2]
        exact ⟨n1, n2, n3⟩
      · intro q
        refine absurd ?_ q
        show j3_up (j3_up (j3_up (j3_up ρ3.1 10043 121 1) 10044 121 0) 10077 121 0) 10045 121 0 10005 121 = 0
        rw [up_e rfl, up_e rfl, up_e rfl, up_e rfl, r05]
      · rw [sI.2.2.2.2]
        show 0 = j3_up (j3_up (j3_up (j3_up ρ3.1 10043 121 1) 10044 121 0) 10077 121 0) 10045 121 0 10077 121
        rw [up_e rfl, up_r]
      · intro q
        refine absurd ?_ q
        show j3_up (j3_up (j3_up (j3_up ρ3.1 10043 121 1) 10044 121 0) 10077 121 0) 10045 121 0 10077 121 = 0
        rw [up_e rfl, up_r]
      · rw [sI.1]
        show 1 = j3_up (j3_up (j3_up (j3_up ρ3.1 10043 121 1) 10044 121 0) 10077 121 0) 10045 121 0 10043 121
        rw [up_e rfl, up_e rfl, up_e rfl, up_r]
      · right
        show j3_up (j3_up (j3_up (j3_up ρ3.1 10043 121 1) 10044 121 0) 10077 121 0) 10045 121 0 10043 121 = 1
        rw [up_e rfl, up_e rfl, up_e rfl, up_r]
      · rw [sI.2.1]
        show 0 = j3_up (j3_up (j3_up (j3_up ρ3.1 10043 121 1) 10044 121 0) 10077 121 0) 10045 121 0 10044 121
        rw [up_e rfl, up_e rfl, up_r]
      · left
        show j3_up (j3_up (j3_up (j3_up ρ3.1 10043 121 1) 10044 121 0) 10077 121 0) 10045 121 0 10044 121 = 0
        rw [up_e rfl, up_e rfl, up_r]
      · intro q
        refine absurd ?_ q
        show j3_up (j3_up (j3_up (j3_up ρ3.1 10043 121 1) 10044 121 0) 10077 121 0) 10045 121 0 10044 121 = 0
        rw [up_e rfl, up_e rfl, up_r]
      · show j3_up (j3_up (j3_up (j3_up ρ3.1 10043 121 1) 10044 121 0) 10077 121 0) 10045 121 0 10042 121 = 0 ∨ j3_up (j3_up (j3_up (j3_up ρ3.1 10043 121 1) 10044 121 0) 10077 121 0) 10045 121 0 10042 121 = 1
        rw [up_e rfl, up_e rfl, up_e rfl, up_e rfl, r42]
        exact o5
      · rw [sP.1]; exact pt3
      · rw [sP.2.1]; exact pt2
      · rw [sP.2.2]; exact pt1
      · rw [sP.1, sP.2.1]; omega
      · rw [sP.1, sP.2.2]; omega
      · rw [sP.2.1, sP.2.2]; omega
      · have y1' : CP (S.1, τ.2.1, S.2.2) p P := y1.fr fS ⟨rfl, rfl⟩ (la_ok rfl)
        unfold gpR
        rw [sP.1]
        refine ⟨⟨y1', fun c c0 c1 => ?_, R3, y4, y5⟩, ⟨fun m i m0 m1 i0 i1 => ?_, fun m m0 m1 => ?_, Or.inl s13⟩, ⟨⟨?_, ?_, ?_, ?_⟩, ?_⟩⟩
        · rw [fS.2.2 3004 p rfl]
          exact y2 c c0 c1
        · rw [fS.2.2 4 (p + 17) rfl]
          exact y6 m i m0 m1 i0 i1
        · obtain ⟨-, -, -, -, q5, q6, -⟩ := y4.1.2.2.2 m m0 m1
          exact SR_cs (P := P) (σ := ρ3) (FR2 m m0 m1) (res_ty y4.1 m0 m1 (y5 m m0 m1)).2 q6.2 (by omega) (fun i i0 i1 => c3 m i m0 m1 i0 i1)
        · rw [sI.2.2.2.1]; omega
        · rw [sI.2.2.2.1]; omega
        · rw [sI.2.2.2.1]
          show j3_up (j3_up (j3_up (j3_up ρ3.1 10043 121 1) 10044 121 0) 10077 121 0) 10045 121 0 10045 121 = 0
          rw [up_r]
        · intro e h0 h1
          rw [sI.2.2.2.1] at h1
          omega
        · rw [sI.2.2.1]
          exact r34.symm
      · refine absurd ?_ q
        show j3_up (j3_up (j3_up (j3_up ρ3.1 10043 121 1) 10044 121 0) 10077 121 0) 10045 121 0 10044 121 = 0
        rw [up_e rfl, up_e rfl, up_r]
  · rw [if_neg gf, b131_40]
    refine ⟨f, rfl, RR _ ?_⟩
    have b0 : (ra ρ).1 10007 121 = f := (ra_f.2.1 10007 121 rfl).trans o1
    rw [t34, b0, if_neg gf]
    refine ⟨rfl, ?_⟩
    have tc := tf_f (σ := τ) (a := f) (b := a) (c := b) (e := e)
    have tr := tf_r (σ := τ) (a := f) (b := a) (c := b) (e := e)
    generalize tf τ f a b e = S at tc tr
    have ci : ∀ e o', rdI p e o' = false → [9001, 9013].elem e = false → S.1 e o' = σc.1 e o' := fun e o' g1 g2 => by
      rw [tc.2.1 e o' rfl, rc.2.1 e o' g1, fc1.2.1 e o' g2]
    have ca : ∀ e o', rdA p e o' = false → [9010].elem e = false → S.2.2 e o' = σc.2.2 e o' := fun e o' g1 g2 => by
      rw [tc.2.2 e o' g2, rc.2.2 e o' g1, fc1.2.2 e o' rfl]
    have sp : ∀ j, j = 7 ∨ j = 8 ∨ j = 9 → S.2.1 j = σc.2.1 j := fun j hj => by rw [tc.1]; exact rcP j hj
    have fr : frm ([10000, 10002, 10003, 10005, 10007, 10042] ++ rdRI) ([10006] ++ rdRA) σr (ra ρ) := (fr1.wd (sub_el rfl) (sub_el rfl)).tr ((rr.1.wd (sub_el rfl) (sub_el rfl)).tr (ra_f.wd (sub_el rfl) (sub_el rfl)))
    have s01 : S.1 9001 0 = 0 := by rw [tc.2.1 9001 0 rfl, rc.2.1 9001 0 rfl]; exact i1.1
    have s13 : S.1 9013 0 = -1 := by rw [tc.2.1 9013 0 rfl, rc.2.1 9013 0 rfl]; exact i1.2
    have r02 : (ra ρ).1 10002 121 = 0 := by rw [ra_f.2.1 10002 121 rfl, rr.1.2.1 10002 121 rfl]; exact j1.2.1
    have r05 : (ra ρ).1 10005 121 = f := ra_r.1.trans o1
    have r42 : (ra ρ).1 10042 121 = ρ.1 10042 121 := ra_f.2.1 10042 121 rfl
    have smg : ∀ g : Nat, (g = 2 ∨ g = 25 ∨ g = 48) → ¬ g = p → smP g σc S := by
      intro g h1 h2
      have := gne g h1 h2
      exact (smP.fr fc1 ⟨rfl, rfl⟩ rfl).tr ((rc.smP h2 this.1 this.2).tr (smP.fr tc ⟨rfl, rfl⟩ rfl))
    have sms : ∀ s : Int, 0 ≤ s → s ≤ 1 → smS s σr (ra ρ) := fun s s0 s1 => (smS.fr fr1 rfl).tr ((rr.smS s0 s1).tr (smS.fr ra_f rfl))
    refine ⟨⟨⟨?_, ?_, ?_, ?_⟩, ⟨?_, ?_, ?_⟩, ?_, ⟨⟨?_, ?_⟩, ⟨?_, ?_⟩, ?_, ?_⟩, ⟨?_, ?_, ?_, ?_, ?_, ?_⟩⟩, fun q => ?_⟩
    · rw [s01]; omega
    · rw [s01]; omega
    · rw [s01, r02]
    · intro i h0 h1
      rw [s01] at h1
      omega
    · rw [tr.1, r05]
    · intro q
      rw [r05] at q
      exact absurd q gf
    · intro _
      obtain ⟨q1, q2, q3⟩ := o2 gf
      rw [tr.2.1, tr.2.2.1, tr.2.2.2, ra_r.2.1, ra_r.2.2.1, ra_r.2.2.2]
      exact ⟨q1.symm, q2.symm, q3.symm⟩
    · unfold mR
      rw [ci 2000 109 rfl rfl, ca 2001 109 rfl rfl, ca 2002 109 rfl rfl, ca 2003 109 rfl rfl, ca 2004 109 rfl rfl, fr.2.1 10077 121 rfl, fr.2.1 10089 121 rfl, fr.2.2 10078 121 rfl, fr.2.2 10090 121 rfl, fr.2.2 10091 121 rfl, fr.2.2 10092 121 rfl]
      exact hm
    · rw [ci 9005 0 rfl rfl, fr.2.1 10043 121 rfl]; exact fl1
    · rw [fr.2.1 10043 121 rfl]; exact fl2
    · rw [ci 9006 0 rfl rfl, fr.2.1 10044 121 rfl]; exact fl3
    · rw [fr.2.1 10044 121 rfl]; exact fl4
    · rw [fr.2.1 10044 121 rfl, fr.2.1 10043 121 rfl]; exact fl5
    · rw [r42]; exact o5
    · rw [sp 7 (by omega)]; exact pt1
    · rw [sp 8 (by omega)]; exact pt2
    · rw [sp 9 (by omega), hp]; exact pt3
    · rw [sp 7 (by omega), sp 8 (by omega)]; exact pt4
    · rw [sp 7 (by omega), sp 9 (by omega), hp]; exact pt5
    · rw [sp 8 (by omega), sp 9 (by omega), hp]; exact pt6
    · rw [fr.2.1 10043 121 rfl] at q
      obtain ⟨P, hgp, hsm⟩ := hg q
      refine ⟨P, hgp.mv (sp 7 (by omega)) (smg _ pt1 pt5) (sms 0 (by omega) (by omega)) (fun z hz => ?_) (fun z hz => ?_) (fun z hz => ?_) (Or.inl s13) ⟨ci 9009 0 rfl rfl, fr.2.1 10045 121 rfl, ca 9008 0 rfl rfl, fr.2.2 10046 121 rfl, ci 9007 0 rfl rfl⟩, fun q2 => ?_⟩
      · rw [ra_f.2.2 10035 121 rfl, ra_f.2.2 10036 121 rfl, (rr.2.2.1.1 z hz).1, (rr.2.2.1.1 z hz).2, fr1.2.2 10035 121 rfl, fr1.2.2 10036 121 rfl]
        exact ⟨rfl, rfl⟩
      · rw [ra_f.2.2 10037 121 rfl, rr.2.2.1.2.1 z hz, fr1.2.2 10037 121 rfl]
      · rw [ra_f.2.2 10038 121 rfl, rr.2.2.1.2.2 z hz, fr1.2.2 10038 121 rfl]
      · rw [fr.2.1 10044 121 rfl] at q2
        obtain ⟨P', hs⟩ := hsm q2
        refine ⟨P', hs.mv (sp 8 (by omega)) (smg _ pt2 pt6) (sms 1 (by omega) (by omega)) (ci 8001 90 rfl rfl) (fun e he => ?_) (ca 8000 90 rfl rfl) (fr.2.1 10076 121 rfl) (fun e he => ?_) ⟨ci 9009 0 rfl rfl, ca 9008 0 rfl rfl⟩⟩
        · simp at he
          rcases he with rfl | rfl | rfl | rfl | rfl | rfl <;> exact ca _ 83 rfl rfl
        · simp [rmA] at he
          rcases he with rfl | rfl | rfl | rfl | rfl <;> exact fr.2.2 _ 121 rfl
end READ
