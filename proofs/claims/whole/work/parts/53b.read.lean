/-! reading on both sides, up to the fault -/
def rdI (p : Nat) : Nat → Nat → Bool := fun e o' => [5001, 5002, 5003, 5007, 5008, 5009, 5010, 1000, 1001, 1003, 1004, 1010, 1012, 1013, 1014].elem e || ([3000, 3001].elem e && o' == p)
def rdA (p : Nat) : Nat → Nat → Bool := fun e o' => [5005, 5006, 1005, 1006, 1007, 1008, 1009, 1011].elem e || (pgA.elem e && (o' == p || o' == p + 17))
def rdC (p : Nat) (σ σ' : j3_S) : Prop := (∀ j, ¬ j = 0 → ¬ j = 3 → ¬ j = 4 → σ'.2.1 j = σ.2.1 j) ∧ (∀ e o', rdI p e o' = false → σ'.1 e o' = σ.1 e o') ∧ ∀ e o', rdA p e o' = false → σ'.2.2 e o' = σ.2.2 e o'
def rdRI : List Nat := [10004, 10007, 10041, 10042, 10047]
def rdRA : List Nat := [10008, 10009, 10010, 10011, 10012, 10013, 10014, 10015, 10016, 10017, 10018, 10019, 10020, 10021, 10022, 10023, 10024, 10025, 10026, 10027, 10028, 10029, 10033, 10034, 10035, 10036, 10037, 10038, 10039, 10040, 10048]
def rdR (σ σ' : j3_S) : Prop := frm rdRI rdRA σ σ' ∧ LO σ σ' ∧ loY σ σ' ∧ ∀ z, z < 2 → σ'.2.2 10034 121 z = σ.2.2 10034 121 z
/-- a program as both sides have it, good in all ways; p: the class's cell, s: the reference's slot -/
def good (P : Pg) : Prop := WFp P ∧ WFd P ∧ WFt P ∧ WFn P ∧ WFc P
section RDB
variable {σ σ' σ'' : j3_S} {p : Nat} {P : Pg}
theorem rdC.tr (h : rdC p σ σ') (h' : rdC p σ' σ'') : rdC p σ σ'' := ⟨fun j a b c => (h'.1 j a b c).trans (h.1 j a b c), fun e o g => (h'.2.1 e o g).trans (h.2.1 e o g), fun e o g => (h'.2.2 e o g).trans (h.2.2 e o g)⟩
theorem rdR.tr (h : rdR σ σ') (h' : rdR σ' σ'') : rdR σ σ'' := ⟨h.1.tr h'.1, h.2.1.tr h'.2.1, ⟨fun z g => ⟨(h'.2.2.1.1 z g).1.trans (h.2.2.1.1 z g).1, (h'.2.2.1.1 z g).2.trans (h.2.2.1.1 z g).2⟩, fun z g => (h'.2.2.1.2.1 z g).trans (h.2.2.1.2.1 z g), fun z g => (h'.2.2.1.2.2 z g).trans (h.2.2.1.2.2 z g)⟩, fun z g => (h'.2.2.2 z g).trans (h.2.2.2 z g)⟩
theorem rdR.fr {li la : List Nat} (h : frm li la σ σ') (h1 : li.all (fun e => rdRI.elem e) = true) (h2 : la.all (fun e => rdRA.elem e) = true) (h3 : la.all (fun e => decide (e < 10009) || decide (10032 < e)) = true) (h4 : la.elem 10034 = false ∧ la.elem 10035 = false ∧ la.elem 10036 = false ∧ la.elem 10037 = false ∧ la.elem 10038 = false) : rdR σ σ' := by
  refine ⟨h.wd (sub_el h1) (sub_el h2), LO.fr h h3, ⟨fun z _ => ⟨?_, ?_⟩, fun z _ => ?_, fun z _ => ?_⟩, fun z _ => ?_⟩
  · rw [h.2.2 _ _ h4.2.1]
  · rw [h.2.2 _ _ h4.2.2.1]
  · rw [h.2.2 _ _ h4.2.2.2.1]
  · rw [h.2.2 _ _ h4.2.2.2.2]
  · rw [h.2.2 _ _ h4.1]
theorem ckF.rd (h : ckF p σ σ') : rdC p σ σ' := by
  refine ⟨fun j a _ _ => h.1 j a, fun e o' g => ?_, fun e o' g => ?_⟩
  · simp only [rdI, Bool.or_eq_false_iff] at g
    exact h.2.1 e o' (sub_el (l := [1000, 1001, 1003, 1004, 1010, 1012, 1013, 1014]) rfl e g.1)
  · simp only [rdA, Bool.or_eq_false_iff, Bool.and_eq_false_iff] at g
    by_cases ge : e = 4
    · subst ge
      refine h.2.2.2 o' (fun q => ?_)
      subst q
      rcases g.2 with k | k
      · cases k
      · simp at k
    · refine h.2.2.1 e o' ?_
      have h1 := sub_el (l := [1005, 1006, 1007, 1008, 1009, 1011]) (l' := [5005, 5006, 1005, 1006, 1007, 1008, 1009, 1011]) rfl e g.1
      simp at h1 ⊢
      exact ⟨ge, h1⟩
theorem faC_rd {e o' : Nat} (h : rdA p e o' = false) : faC p e o' = false := by
  simp only [rdA, Bool.or_eq_false_iff, Bool.and_eq_false_iff] at h
  obtain ⟨h1, h2⟩ := h
  have h3 := sub_el (l := [5005, 5006]) (l' := [5005, 5006, 1005, 1006, 1007, 1008, 1009, 1011]) rfl e h1
  simp only [faC, faM, Bool.or_eq_false_iff, Bool.and_eq_false_iff]
  rcases h2 with k | k
  · exact ⟨⟨⟨h3, Or.inl (sub_el (l := [3011, 3012, 3013, 3014, 3015, 3016, 3017]) (l' := pgA) rfl e k)⟩, Or.inl (sub_el (l := [0, 1, 2, 3, 4]) (l' := pgA) rfl e k)⟩, Or.inl (sub_el (l := [3002, 3003, 3004, 3005, 3006, 3007, 3008, 3009, 3010]) (l' := pgA) rfl e k)⟩
  · exact ⟨⟨⟨h3, Or.inr k.1⟩, Or.inr k.2⟩, Or.inr k.1⟩
theorem clS_rd {c k s : Int} : rdC p σ (clS σ c k s) := by
  refine ⟨fun _ _ _ _ => rfl, fun e o' g => ?_, fun _ _ _ => rfl⟩
  simp only [rdI, Bool.or_eq_false_iff] at g
  exact (frm.I rfl (frm.I rfl (frm.I rfl frm.rf)) : frm [5008, 5009, 5010] [] σ (clS σ c k s)).2.1 e o' (sub_el (l := [5008, 5009, 5010]) rfl e g.1)
theorem s167 {d : Nat} {Q : j3_P} {σc σr : j3_S} {o : Nat} (hC : CP σc o P) (hR : RP σr 2 P) (hW : WF0 P) (hT : TL σc o σr (P 3001 0) 0) (hb : σr.1 10007 121 = 0) (h0 : 0 ≤ σc.1 5007 73) (h1 : fsr σc o P (σc.1 5007 73).toNat 0 = -1 → Q none σr) (h2 : ¬ fsr σc o P (σc.1 5007 73).toNat 0 = -1 → Q none (wrS σr 1 (fsr σc o P (σc.1 5007 73).toNat 0) (-1) (-1))) : j3_tc true (d + 2) 167 [wO 10 121] σr Q := by
  rw [e167, b167_0]
  have := hW.2.1.1
  refine r2' hC hR hW hT hb (P 3001 0).toNat 0 0 _ _ _ _ _ (by omega) (by omega) (by omega) h0 ⟨fun n' a b => absurd b (by omega), fun n' a b => ?_⟩ (by rw [Int.sub_zero]; exact h1) (by rw [Int.sub_zero]; exact h2)
  obtain ⟨m', i', ⟨v1, v2, -⟩, z1, -⟩ := hT.1 n' a b
  omega
end RDB
section RDB2
variable {σc σr : j3_S} {p : Nat} {sz : Int} {tb : Int → Int}
/-- what comes of a container that is read -/
def rdOut (σc : j3_S) (p : Nat) (σr : j3_S) (sz f a b e : Int) : Prop := σr.1 10007 121 = f ∧ (¬ f = 0 → σr.2.2 10008 121 0 = a ∧ σr.2.2 10008 121 1 = b ∧ σr.2.2 10008 121 2 = e) ∧ (f = 0 → a = -1 ∧ b = -1 ∧ e = -1) ∧ (f = 0 → ∃ P, CP σc p P ∧ (∀ c, 0 ≤ c → c < P 3000 0 → σc.2.2 3004 p c = P 3004 c) ∧ RP σr 2 P ∧ good P ∧ (∀ m, 0 ≤ m → m < P 3001 0 → (res P m).1 = 0) ∧ (∀ m i, 0 ≤ m → m < P 3001 0 → 0 ≤ i → i < P 0 m → σc.2.2 4 (p + 17) (m * 120 + i) = (res P m).2.2.1 i) ∧ (∀ m, 0 ≤ m → m < P 3001 0 → FR σr (9600 + 120 * m) (P 3017 m) (res P m).2.2) ∧ σr.2.2 10034 121 2 = sz) ∧ (σr.1 10042 121 = 0 ∨ σr.1 10042 121 = 1)
theorem rdBoth (hp : σc.2.1 9 = p) (hp0 : ¬ p = 0) (h40 : sz ≤ 4000) (hz : 0 ≤ sz) (htc : ∀ i, 0 ≤ i → i < sz → i_an (σc.2.2 9000 0 i) 255 = tb i) (htr : TR σr tb sz) (hb : σr.1 10007 121 = 0) (hch : σr.1 10042 121 = 0) :
    ∃ f a b e σc' σr', (∀ d Q, Q (some (wI f)) (tf σc' f a b e) → j3_tc false (d + 8) 132 [wO 9 0, wI sz] σc Q) ∧ (∀ d Q, T185 (d + 7) Q 34 [wO 10 121, wM 2, wM 2] [] σr' → j3_tc true (d + 7) 161 [wO 10 121] σr (fun r σ1 => T185 (d + 7) Q 18 [wO 10 121, wM 2, wM 2] (r.toList ++ []) σ1)) ∧ rdC p σc σc' ∧ rdR σr σr' ∧ rdOut σc' p σr' sz f a b e := by
  obtain ⟨st, σ2, ρ2, M, nc, C, R, hpr, ⟨fP, fI, fA⟩, fR, ⟨hM, hM', hM0, hM8⟩, hk, lo⟩ := rdAll (o := p) hp0 h40 hz htc htr hb
  obtain ⟨⟨t1, t2, t3⟩, ⟨u1, u2, u3⟩, ⟨v1, v2, v3, v4, v5, v6⟩, w1⟩ := id hpr
  have p9 : σ2.2.1 9 = p := by rw [fP]; exact hp
  have rc2 : rdC p σc σ2 := by
    refine ⟨fun j a b c => ?_, fun e o' g => ?_, fun e o' g => fA e o' (faC_rd g)⟩
    · rw [fP]
      have h3 : (j == 3) = false := by simp [b]
      have h4 : (j == 4) = false := by simp [c]
      simp only [j3_upP, h3, h4, cond_false]
    · refine fI e o' ?_
      simp only [rdI, Bool.or_eq_false_iff] at g
      simp only [fiA, Bool.or_eq_false_iff]
      exact ⟨sub_el (l := [5001, 5002, 5003, 5007]) rfl e g.1, g.2⟩
  have rr2 : rdR σr ρ2 := by
    refine ⟨fR.wd (sub_el rfl) (sub_el rfl), lo, ⟨fun z _ => ⟨?_, ?_⟩, fun z _ => ?_, fun z _ => ?_⟩, fun z _ => ?_⟩
    · rw [fR.2.2 10035 121 rfl]
    · rw [fR.2.2 10036 121 rfl]
    · rw [fR.2.2 10037 121 rfl]
    · rw [fR.2.2 10038 121 rfl]
    · rw [fR.2.2 10034 121 rfl]
  have ch2 : ρ2.1 10042 121 = 0 := (fR.2.1 10042 121 rfl).trans hch
  have s3 : ρ2.1 10003 121 = sz := t2.1
  have c1 : σ2.1 5001 73 = sz := t1.1
  have f10 : ∀ τ : j3_S, rdR τ (τ.1, τ.2.1, j3_ast τ.2.2 10034 121 2 (τ.1 10003 121)) := by
    intro τ
    have f : frm rdRI rdRA τ (τ.1, τ.2.1, j3_ast τ.2.2 10034 121 2 (τ.1 10003 121)) := frm.A rfl frm.rf
    refine ⟨f, LO.fr (li := []) (la := [10034]) (frm.A rfl frm.rf) rfl, ⟨fun z _ => ⟨?_, ?_⟩, fun z _ => ?_, fun z _ => ?_⟩, fun z hz => ?_⟩
    · simp only [j3_ast, up_e (show ((10035 : Nat) == 10034) = false from rfl)]
    · simp only [j3_ast, up_e (show ((10036 : Nat) == 10034) = false from rfl)]
    · simp only [j3_ast, up_e (show ((10037 : Nat) == 10034) = false from rfl)]
    · simp only [j3_ast, up_e (show ((10038 : Nat) == 10034) = false from rfl)]
    · simp only [j3_ast, up_r]
      exact iu_n (by omega)
  -- a byte that can't be there
  have one : ∀ (w : Int) (ρ : j3_S), ¬ w = -1 → (∀ d Q, Q (some (wI w)) σ2 → j3_tc false (d + 6) 64 [wO 5 73, wA 9000 0, wI sz, wO 3 p] σc Q) → (∀ d Q, (∀ x, T161 (d + 5) Q 57 [wO 10 121, wI x] [] ρ) → j3_tc true (d + 6) 161 [wO 10 121] σr Q) → rdR σr ρ → ρ.1 10007 121 = 1 → ρ.1 10003 121 = sz → ρ.1 10042 121 = 0 → ρ.2.2 10008 121 0 = w ∧ ρ.2.2 10008 121 1 = -1 ∧ ρ.2.2 10008 121 2 = -1 → ∃ f a b e σc' σr', (∀ d Q, Q (some (wI f)) (tf σc' f a b e) → j3_tc false (d + 8) 132 [wO 9 0, wI sz] σc Q) ∧ (∀ d Q, T185 (d + 7) Q 34 [wO 10 121, wM 2, wM 2] [] σr' → j3_tc true (d + 7) 161 [wO 10 121] σr (fun r σ1 => T185 (d + 7) Q 18 [wO 10 121, wM 2, wM 2] (r.toList ++ []) σ1)) ∧ rdC p σc σc' ∧ rdR σr σr' ∧ rdOut σc' p σr' sz f a b e := by
    intro w ρ hw hC hR hr hb1 hs1 hc1 hat
    refine ⟨1, w, -1, -1, σ2, (ρ.1, ρ.2.1, j3_ast ρ.2.2 10034 121 2 (ρ.1 10003 121)), fun d Q h => ?_, fun d Q h => ?_, rc2, hr.tr (f10 ρ), hb1, fun _ => ?_, fun q => absurd q (by decide), fun q => absurd q (by decide), Or.inl hc1⟩
    · rw [e132, b132_0, hp]
      refine ⟨hp0, hC (d + 1) _ ?_⟩
      simp only [Option.toList_some, List.cons_append, List.nil_append]
      rw [b132_8, if_neg hw, s133]
      simp only [Option.toList_some, List.cons_append, List.nil_append]
      rw [b132_18]
      exact h
    · refine hR (d + 1) _ (fun x => ?_)
      rw [b161_57]
      simp only [Option.toList_none, List.nil_append]
      refine ⟨by omega, ?_⟩
      have nb : ¬ ρ.1 10007 121 = 0 := by rw [hb1]; decide
      rw [b185_18]
      simp only []
      rw [if_neg nb, b185_23]
      simp only []
      rw [if_neg nb, b185_28]
      simp only []
      rw [if_neg nb]
      exact h
    · simp only [j3_ast, up_e (show ((10008 : Nat) == 10034) = false from rfl)]
      exact hat
  by_cases gf : st.2 = 0
  · by_cases ge : st.1 < sz
    · refine one st.1 (wrS ρ2 1 st.1 (-1) (-1)) (by have := t3.1; omega) (fun d Q h => C d Q (fun x => ?_)) (fun d Q h => R d Q (fun x => ?_)) (rr2.tr (rdR.fr wrS_f rfl rfl rfl ⟨rfl, rfl, rfl, rfl, rfl⟩)) (wrS_1 (u3.2.1.trans gf)) ((wrS_f.2.1 10003 121 rfl).trans s3) ((wrS_f.2.1 10042 121 rfl).trans ch2) ?_
      · rw [b64_54, u2, if_pos gf, u1, c1, if_pos ge, b64_62, b64_67, u1]
        exact h
      · rw [b161_42, u3.2.1, if_pos gf, u3.1, s3, if_pos ge, s158]
        simp only [Option.toList_none, List.nil_append]
        exact h x
      · unfold wrS
        rw [if_pos (u3.2.1.trans gf)]
        simp [j3_ast, j3_up, i_up]
    · -- all bytes are read
      obtain ⟨hW0, hWd, hWc⟩ := PgC_WF hpr hM hM0 hM8 hk gf
      have hRP := PgC_RP hpr hM hM' hk gf
      obtain ⟨-, hTL, hT4⟩ := hk.1 gf
      have hCP := PgC_CP (σc := σ2) (o := p)
      have hdp : ∀ c, 0 ≤ c → c < PgC σ2 p 3000 0 → σ2.2.2 3004 p c = PgC σ2 p 3004 c := fun c _ _ => (PgC_e (by decide)).symm
      have eM : PgC σ2 p 3001 0 = M := hM
      generalize PgC σ2 p = P at hW0 hWd hWc hRP hCP hdp eM
      rw [← eM] at hTL
      have hb2 : ρ2.1 10007 121 = 0 := u3.2.1.trans gf
      generalize hρ3 : ((ρ2.1, ρ2.2.1, j3_ast ρ2.2.2 10034 121 2 (ρ2.1 10003 121)) : j3_S) = ρ3
      have f3 : frm [] [10034] ρ2 ρ3 := by rw [← hρ3]; exact frm.A rfl frm.rf
      have rr3 : rdR σr ρ3 := by rw [← hρ3]; exact rr2.tr (f10 ρ2)
      have b3 : ρ3.1 10007 121 = 0 := (f3.2.1 10007 121 rfl).trans hb2
      have c3 : ρ3.1 10042 121 = 0 := (f3.2.1 10042 121 rfl).trans ch2
      have z3 : ρ3.2.2 10034 121 2 = sz := by
        rw [← hρ3]
        simp only [j3_ast, up_r, iu_r]
        exact s3
      have R3 : RP ρ3 2 P := hRP.fr f3 (lr_ok rfl)
      have T3 : TL σ2 p ρ3 (P 3001 0) 0 := hTL.mv rfl rfl rfl rfl (by rw [f3.2.2 10033 121 rfl]) (fun _ _ => rfl) (Int.le_refl _)
      have C65 : ∀ d (Q : j3_P), Q (some (wI (fsr σ2 p P (σ2.1 5007 73).toNat 0))) σ2 → j3_tc false (d + 6) 64 [wO 5 73, wA 9000 0, wI sz, wO 3 p] σc Q := by
        intro d Q h
        refine C d Q (fun x => ?_)
        rw [b64_54, u2, if_pos gf, u1, c1, if_neg ge, e65, b65_0, l65 (d := d + 1) v1 v2 hCP hW0 T3 w1 (by have := t3.2.1; omega) (σ2.1 5007 73).toNat 0 _ (by omega) (by omega)]
        simp only [Option.toList_some, List.cons_append, List.nil_append]
        rw [b64_67]
        exact h
      have R57 : ∀ d (Q : j3_P), Q none ρ3 → j3_tc true (d + 6) 161 [wO 10 121] σr Q := by
        intro d Q h
        refine R d Q (fun x => ?_)
        rw [b161_42, hb2, if_pos rfl, u3.1, s3, if_neg ge, b161_57, hρ3]
        exact ⟨by omega, h⟩
      by_cases gs : fsr σ2 p P (σ2.1 5007 73).toNat 0 = -1
      · have hWp := told_ok T3 hCP hW0 w1 gs
        have hWt := told_t T3 hCP hW0 w1 gs
        -- reached: clashes
        have RK : ∀ d (Q : j3_P), T185 (d + 7) Q 23 [wO 10 121, wM 2, wM 2] [] ρ3 → j3_tc true (d + 7) 161 [wO 10 121] σr (fun r σ1 => T185 (d + 7) Q 18 [wO 10 121, wM 2, wM 2] (r.toList ++ []) σ1) := by
          intro d Q h
          refine R57 (d + 1) _ ?_
          simp only [Option.toList_none, List.nil_append]
          rw [b185_18, b3, if_pos rfl]
          refine s167 (d := d + 5) hCP R3 hW0 T3 b3 w1 (fun _ => ?_) (fun q => absurd gs q)
          exact h
        have CK : ∀ d (Q : j3_P), (match clk P (P 3000 0).toNat 0 with
            | some (c, k, s) => Q (some (wI 2)) (tf (clS σ2 c k s) 2 c k s)
            | none => ∀ x2, T132 (d + 7) Q 38 [wO 9 0, wI sz, wI x2, wI 0, wM 2, wM 2] [] σ2) → j3_tc false (d + 8) 132 [wO 9 0, wI sz] σc Q := by
          intro d Q h
          rw [e132, b132_0, hp]
          refine ⟨hp0, C65 (d + 1) _ ?_⟩
          simp only [Option.toList_some, List.cons_append, List.nil_append]
          rw [gs, b132_8, if_pos rfl, s73 (d := d + 4) v1 v2 hCP hW0]
          cases hc : clk P (P 3000 0).toNat 0 with
          | none =>
            rw [hc] at h
            simp only [Option.toList_some, List.cons_append, List.nil_append]
            rw [b132_22, if_pos rfl]
            exact h _
          | some x =>
            obtain ⟨c, k, s⟩ := x
            rw [hc] at h
            simp only [Option.toList_some, List.cons_append, List.nil_append]
            have i1 : (clS σ2 c k s).1 5008 73 = c ∧ (clS σ2 c k s).1 5009 73 = k ∧ (clS σ2 c k s).1 5010 73 = s := by simp [clS, j3_up]
            rw [b132_22, if_neg (by decide), i1.1, i1.2.1, i1.2.2, s133]
            simp only [Option.toList_some, List.cons_append, List.nil_append]
            rw [b132_35]
            exact h
        cases hc : clk P (P 3000 0).toNat 0 with
        | some x =>
          obtain ⟨c, k, s⟩ := x
          rw [hc] at CK
          have nb : ¬ (wrS ρ3 2 c k s).1 10007 121 = 0 := by rw [wrS_1 b3]; decide
          refine ⟨2, c, k, s, clS σ2 c k s, wrS ρ3 2 c k s, CK, fun d Q h => RK d Q ?_, rc2.tr clS_rd, rr3.tr (rdR.fr wrS_f rfl rfl rfl ⟨rfl, rfl, rfl, rfl, rfl⟩), wrS_1 b3, fun _ => ?_, fun q => absurd q (by decide), fun q => absurd q (by decide), Or.inl ((wrS_f.2.1 10042 121 rfl).trans c3)⟩
          · rw [b185_23, b3, if_pos rfl]
            refine s169 (d := d + 5) R3 hW0 b3 ?_
            rw [hc]
            simp only [Option.toList_none, List.nil_append]
            rw [b185_28, if_neg nb]
            exact h
          · unfold wrS
            rw [if_pos b3]
            simp [j3_ast, j3_up, i_up]
        | none =>
          rw [hc] at CK
          have hWn := clk_ok hW0 hc
          have RT : ∀ d (Q : j3_P), T185 (d + 7) Q 28 [wO 10 121, wM 2, wM 2] [] ρ3 → j3_tc true (d + 7) 161 [wO 10 121] σr (fun r σ1 => T185 (d + 7) Q 18 [wO 10 121, wM 2, wM 2] (r.toList ++ []) σ1) := by
            intro d Q h
            refine RK d Q ?_
            rw [b185_23, b3, if_pos rfl]
            refine s169 (d := d + 5) R3 hW0 b3 ?_
            rw [hc]
            exact h
          have hm0 := hWp.2.1.1
          -- the types
          obtain ⟨ρ4, ⟨g1, g2, g3, g4, g5, g6⟩, R4⟩ := outc (k := true) (n := 5) (r := none) (M := fun σ' => frm tyI tyA ρ3 σ' ∧ σ'.1 10007 121 = (ffl (res P) (P 3001 0).toNat 0).1 ∧ (¬ (ffl (res P) (P 3001 0).toNat 0).1 = 0 → bdA P (ffl (res P) (P 3001 0).toNat 0).2.1 (ffl (res P) (P 3001 0).toNat 0).2.2 σ') ∧ ((ffl (res P) (P 3001 0).toNat 0).1 = 0 → ∀ m', 0 ≤ m' → m' < P 3001 0 → FR σ' (9600 + 120 * m') (P 3017 m') (res P m').2.2) ∧ (σ'.1 10042 121 = 0 ∨ σ'.1 10042 121 = 1) ∧ loY ρ3 σ') (s180 (d := 0) (n := 50000) (R := res P) (s := 2) hWp (by omega) (by omega) (fun m a b => res_e hWp a b) R3 b3 (Or.inl c3) (fun σ' z1 z2 z3 z4 z5 z6 => ⟨rfl, z1, z2, z3, fun q m' a b => (z4 q m' a b).1, z5, z6 (by decide)⟩))
          have rr4 : rdR ρ3 ρ4 := by
            refine ⟨g1.wd (sub_el rfl) (sub_el rfl), LO.fr g1 rfl, g6, fun z _ => ?_⟩
            rw [g1.2.2 10034 121 rfl]
          have RF : ∀ d (Q : j3_P), T185 (d + 7) Q 34 [wO 10 121, wM 2, wM 2] [] ρ4 → j3_tc true (d + 7) 161 [wO 10 121] σr (fun r σ1 => T185 (d + 7) Q 18 [wO 10 121, wM 2, wM 2] (r.toList ++ []) σ1) := by
            intro d Q h
            refine RT d Q ?_
            rw [b185_28, b3, if_pos rfl]
            exact R4 (d + 2) _ h
          by_cases gq : (ffl (res P) (P 3001 0).toNat 0).1 = 0
          · obtain ⟨τ, ⟨k1, k2⟩, C4⟩ : ∃ τ, (ckF p σ2 τ ∧ (∀ m' i, 0 ≤ m' → m' < P 3001 0 → 0 ≤ i → i < P 0 m' → τ.2.2 4 (p + 17) (m' * 120 + i) = (res P m').2.2.1 i)) ∧ ∀ d (Q : j3_P), Q (some (wI 0)) (tf τ 0 (-1) (-1) (-1)) → j3_tc false (d + 8) 132 [wO 9 0, wI sz] σc Q := by
              have h0 : j3_tc false 8 132 [wO 9 0, wI sz] σc (fun r σ' => r = some (wI 0) ∧ ∃ τ, σ' = tf τ 0 (-1) (-1) (-1) ∧ ckF p σ2 τ ∧ (∀ m' i, 0 ≤ m' → m' < P 3001 0 → 0 ≤ i → i < P 0 m' → τ.2.2 4 (p + 17) (m' * 120 + i) = (res P m').2.2.1 i)) := CK 0 _ (fun x2 => k38 (d := 1) hp0 hWp (P 3001 0).toNat 0 _ σ2 (by omega) (by omega) p9 hCP (fun m' i a b => absurd b (by omega)) (fun _ τ y1 y2 => ⟨rfl, τ, rfl, y1, y2⟩) (fun q => absurd gq q))
              obtain ⟨σ', ⟨τ, y0, y1, y2⟩, y3⟩ := outc h0
              subst y0
              exact ⟨τ, ⟨y1, y2⟩, y3⟩
            refine ⟨0, -1, -1, -1, τ, ρ4, C4, RF, rc2.tr k1.rd, rr3.tr rr4, g2.trans gq, fun q => absurd rfl q, fun _ => ⟨rfl, rfl, rfl⟩, fun _ => ⟨P, k1.CP hCP, fun c a b => ?_, R3.fr g1 (lr_ok rfl), ⟨hWp, hWd, hWt, hWn, hWc⟩, fun m a b => ?_, k2, g4 gq, ?_⟩, g5⟩
            · rw [k1.2.2.1 3004 p rfl]
              exact hdp c a b
            · have key : ∀ (r : Nat) (m' : Int), m' + r = P 3001 0 → (ffl (res P) r m').1 = 0 → ∀ k, m' ≤ k → k < P 3001 0 → (res P k).1 = 0 := by
                intro r
                induction r with
                | zero => intro m' h1 _ k k0 k1; exact absurd k1 (by omega)
                | succ r ih =>
                  intro m' h1 h2 k k0 k1
                  simp only [ffl] at h2
                  by_cases gg : (res P m').1 = 0
                  · rw [if_pos gg] at h2
                    by_cases gk : k = m'
                    · rw [gk]; exact gg
                    · exact ih (m' + 1) (by omega) h2 k (by omega) k1
                  · rw [if_neg gg] at h2
                    exact absurd h2 gg
              exact key (P 3001 0).toNat 0 (by omega) gq m a b
            · rw [g1.2.2 10034 121 rfl]
              exact z3
          · obtain ⟨τ, k1, C4⟩ : ∃ τ, ckF p σ2 τ ∧ ∀ d (Q : j3_P), Q (some (wI (ffl (res P) (P 3001 0).toNat 0).1)) (tf τ (ffl (res P) (P 3001 0).toNat 0).1 (P 3011 (ffl (res P) (P 3001 0).toNat 0).2.1) ((ffl (res P) (P 3001 0).toNat 0).2.1 - P 3007 (P 3011 (ffl (res P) (P 3001 0).toNat 0).2.1)) (ffl (res P) (P 3001 0).toNat 0).2.2) → j3_tc false (d + 8) 132 [wO 9 0, wI sz] σc Q := by
              have h0 : j3_tc false 8 132 [wO 9 0, wI sz] σc (fun r σ' => r = some (wI (ffl (res P) (P 3001 0).toNat 0).1) ∧ ∃ τ, σ' = tf τ (ffl (res P) (P 3001 0).toNat 0).1 (P 3011 (ffl (res P) (P 3001 0).toNat 0).2.1) ((ffl (res P) (P 3001 0).toNat 0).2.1 - P 3007 (P 3011 (ffl (res P) (P 3001 0).toNat 0).2.1)) (ffl (res P) (P 3001 0).toNat 0).2.2 ∧ ckF p σ2 τ) := CK 0 _ (fun x2 => k38 (d := 1) hp0 hWp (P 3001 0).toNat 0 _ σ2 (by omega) (by omega) p9 hCP (fun m' i a b => absurd b (by omega)) (fun q => absurd q gq) (fun _ τ y1 => ⟨rfl, τ, rfl, y1⟩))
              obtain ⟨σ', ⟨τ, y0, y1⟩, y3⟩ := outc h0
              subst y0
              exact ⟨τ, y1, y3⟩
            exact ⟨_, _, _, _, τ, ρ4, C4, RF, rc2.tr k1.rd, rr3.tr rr4, g2, fun _ => g3 gq, fun q => absurd q gq, fun q => absurd q gq, g5⟩
      · have nb : ¬ (wrS ρ3 1 (fsr σ2 p P (σ2.1 5007 73).toNat 0) (-1) (-1)).1 10007 121 = 0 := by rw [wrS_1 b3]; decide
        refine ⟨1, fsr σ2 p P (σ2.1 5007 73).toNat 0, -1, -1, σ2, wrS ρ3 1 (fsr σ2 p P (σ2.1 5007 73).toNat 0) (-1) (-1), fun d Q h => ?_, fun d Q h => ?_, rc2, rr3.tr (rdR.fr wrS_f rfl rfl rfl ⟨rfl, rfl, rfl, rfl, rfl⟩), wrS_1 b3, fun _ => ?_, fun q => absurd q (by decide), fun q => absurd q (by decide), Or.inl ((wrS_f.2.1 10042 121 rfl).trans c3)⟩
        · rw [e132, b132_0, hp]
          refine ⟨hp0, C65 (d + 1) _ ?_⟩
          simp only [Option.toList_some, List.cons_append, List.nil_append]
          rw [b132_8, if_neg gs, s133]
          simp only [Option.toList_some, List.cons_append, List.nil_append]
          rw [b132_18]
          exact h
        · refine R57 (d + 1) _ ?_
          simp only [Option.toList_none, List.nil_append]
          rw [b185_18, b3, if_pos rfl]
          refine s167 (d := d + 5) hCP R3 hW0 T3 b3 w1 (fun q => absurd q gs) (fun _ => ?_)
          simp only [Option.toList_none, List.nil_append]
          rw [b185_23, if_neg nb, b185_28, if_neg nb]
          exact h
        · unfold wrS
          rw [if_pos b3]
          simp [j3_ast, j3_up, i_up]
  · refine one st.1 ρ2 (by have := t3.1; omega) (fun d Q h => C d Q (fun x => ?_)) (fun d Q h => R d Q (fun x => ?_)) rr2 (by rw [u3.2.1]; have := t3.2.2; omega) s3 ch2 (u3.2.2 gf)
    · rw [b64_54, u2, if_neg gf, b64_62, b64_67, u1]
      exact h
    · rw [b161_42, u3.2.1, if_neg gf]
      exact h x
end RDB2
