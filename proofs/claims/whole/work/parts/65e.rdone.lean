/-! the reference's strip: join, a rule is done -/
section RDN
variable {σ σ0 σ' : j3_S} {P : Pg} {m nl x n p k q B r o v : Int} {X Y : Sx} {F : Fl} {W : Int → Int → Int → Prop} {d : Nat} {Q : j3_P}
theorem xR.c (h : xR σ X B) (hn : Y.n = X.n) (he : ∀ i, 0 ≤ i → i < X.n → X.op i = Y.op i ∧ X.a i = Y.a i ∧ X.b i = Y.b i ∧ X.o1 i = Y.o1 i ∧ X.o2 i = Y.o2 i) : xR σ Y B := by
  refine ⟨by rw [hn]; exact h.1, fun i i0 i1 => ?_⟩
  rw [hn] at i1
  obtain ⟨q1, q2, q3, q4⟩ := h.2 i i0 i1
  obtain ⟨e1, e2, e3, e4, e5⟩ := he i i0 i1
  rw [← e1, ← e2, ← e3, ← e4, ← e5]
  exact ⟨q1, q2, q3, q4⟩
theorem rt_eq {t : Int} (h : ¬ (p < t ∧ t ≤ p + k)) (k1 : 1 ≤ k) : rtg p k t = rtg (p + 1) k t := by
  by_cases g : t ≤ p
  · rw [rt_lo g k1, rt_lo (by omega) k1]
  · rw [rt_hi (by omega), rt_hi (by omega)]
theorem jn_eq (p0 : 0 ≤ p) (k1 : 1 ≤ k) (hpk : p + k < X.n) (hjt : ∀ t, p < t → t ≤ p + k → jtS X t = false) (hv : isj o = true → ¬ (p < v ∧ v ≤ p + k)) {u w : Int} : ∀ i, 0 ≤ i → i < X.n - k → (cutS (setS X (p + k) o v 0 u w) p k).op i = (cutS (setS X p o v 0 u w) (p + 1) k).op i ∧ (cutS (setS X (p + k) o v 0 u w) p k).a i = (cutS (setS X p o v 0 u w) (p + 1) k).a i ∧ (cutS (setS X (p + k) o v 0 u w) p k).b i = (cutS (setS X p o v 0 u w) (p + 1) k).b i ∧ (cutS (setS X (p + k) o v 0 u w) p k).o1 i = (cutS (setS X p o v 0 u w) (p + 1) k).o1 i ∧ (cutS (setS X (p + k) o v 0 u w) p k).o2 i = (cutS (setS X p o v 0 u w) (p + 1) k).o2 i := by
  intro i i0 i1
  have row : ∀ (f : Int → Int) (c : Int), shf p k (i_up f (p + k) c) i = shf (p + 1) k (i_up f p c) i := by
    intro f c
    by_cases g : i < p
    · rw [shf_lo g, shf_lo (show i < p + 1 by omega), iu_n (by omega), iu_n (by omega)]
    · by_cases g2 : i = p
      · rw [shf_hi g, shf_lo (show i < p + 1 by omega), g2, iu_r, iu_r]
      · rw [shf_hi g, shf_hi (show ¬ i < p + 1 by omega), iu_n (by omega), iu_n (by omega)]
  have hop : shf p k (i_up X.op (p + k) o) i = shf (p + 1) k (i_up X.op p o) i := row X.op o
  have ha : shf p k (i_up X.a (p + k) v) i = shf (p + 1) k (i_up X.a p v) i := row X.a v
  refine ⟨hop, ?_, row X.b 0, row X.o1 u, row X.o2 w⟩
  show (if isj (shf p k (i_up X.op (p + k) o) i) = true then rtg p k (shf p k (i_up X.a (p + k) v) i) else shf p k (i_up X.a (p + k) v) i) = (if isj (shf (p + 1) k (i_up X.op p o) i) = true then rtg (p + 1) k (shf (p + 1) k (i_up X.a p v) i) else shf (p + 1) k (i_up X.a p v) i)
  rw [hop, ha]
  by_cases gj : isj (shf (p + 1) k (i_up X.op p o) i) = true
  · rw [if_pos gj, if_pos gj]
    refine rt_eq ?_ k1
    by_cases g : i < p + 1
    · rw [shf_lo g] at gj ⊢
      by_cases gi : i = p
      · rw [gi, iu_r] at gj ⊢; exact hv gj
      · rw [iu_n gi] at gj ⊢
        exact fun z => jt_f (hjt _ z.1 z.2) i i0 (by omega) gj rfl
    · rw [shf_hi g] at gj ⊢
      rw [iu_n (by omega)] at gj ⊢
      exact fun z => jt_f (hjt _ z.1 z.2) (i + k) (by omega) (by omega) gj rfl
  · rw [if_neg gj, if_neg gj]
theorem s209 (hX : okX nl X) (B0 : 0 ≤ B) (B1 : B + 120 ≤ 28800) (hx : xR σ X B) (p0 : 0 ≤ p) (k0 : 0 ≤ k) (hpk : p + k < X.n) (ho : 0 ≤ o ∧ o ≤ 26 ∧ ¬ o = 2 ∧ ¬ o = 3) (hvb : isj o = true → 0 ≤ v ∧ v ≤ X.n ∧ v < 120) (hjt : ∀ t, p < t → t ≤ p + k → jtS X t = false) (hv : isj o = true → ¬ (p < v ∧ v ≤ p + k)) (hQ : ∀ σ', stF [10063] [] B σ σ' → xR σ' (if k = 0 then setS X p o v 0 (X.o1 p) (X.o2 p) else cutS (setS X p o v 0 (X.o1 (p + k)) (X.o2 (p + k))) (p + 1) k) B → Q none σ') : j3_tc true (d + 3) 209 [wO 10 121, wI p, wI (k + 1), wI o, wI v] σ Q := by
  have hn := hX.1
  rw [e209, b209_0, hx.1.1, wr_id (z := B + p) (by omega) (by omega), wr_id (z := B + p + (k + 1)) (by omega) (by omega), wr_id (z := B + p + (k + 1) - 1) (by omega) (by omega), show B + p + (k + 1) - 1 = B + (p + k) by omega]
  refine ⟨by omega, by omega, by omega, ?_⟩
  generalize hσ1 : ((σ.1, σ.2.1, j3_ast (j3_ast (j3_ast σ.2.2 10027 121 (B + (p + k)) o) 10028 121 (B + (p + k)) v) 10029 121 (B + (p + k)) 0) : j3_S) = σ1
  have f1 : stF [10063] [] B σ σ1 := by
    rw [← hσ1]
    exact st1 rfl (by omega) (by omega) (st1 rfl (by omega) (by omega) (st1 rfl (by omega) (by omega) stF.rf))
  have x1 : xR σ1 (setS X (p + k) o v 0 (X.o1 (p + k)) (X.o2 (p + k))) B := by
    refine ⟨by rw [← hσ1]; exact hx.1, fun i i0 i1 => ?_⟩
    have i1 : i < X.n := i1
    obtain ⟨z1, z2, z3, z4⟩ := hx.2 i i0 i1
    have e27 : σ1.2.2 10027 121 = i_up (σ.2.2 10027 121) (B + (p + k)) o := by rw [← hσ1]; simp [j3_ast, j3_up]
    have e28 : σ1.2.2 10028 121 = i_up (σ.2.2 10028 121) (B + (p + k)) v := by rw [← hσ1]; simp [j3_ast, j3_up]
    have e29 : σ1.2.2 10029 121 = i_up (σ.2.2 10029 121) (B + (p + k)) 0 := by rw [← hσ1]; simp [j3_ast, j3_up]
    have eo : oR σ1 = oR σ := by
      funext z u w
      unfold oR
      rw [← hσ1]
      simp [j3_ast, j3_up]
    rw [e27, e28, e29, eo]
    show i_up _ _ o (B + i) = i_up X.op (p + k) o i ∧ i_up _ _ v (B + i) = i_up X.a (p + k) v i ∧ i_up _ _ 0 (B + i) = i_up X.b (p + k) 0 i ∧ oR σ (B + i) (i_up X.o1 (p + k) (X.o1 (p + k)) i) (i_up X.o2 (p + k) (X.o2 (p + k)) i)
    by_cases g : i = p + k
    · rw [g] at z4 ⊢
      simp only [iu_r]
      exact ⟨trivial, trivial, trivial, z4⟩
    · rw [iu_n (show ¬ B + i = B + (p + k) by omega), iu_n (show ¬ B + i = B + (p + k) by omega), iu_n (show ¬ B + i = B + (p + k) by omega), iu_n g, iu_n g, iu_n g, iu_n g, iu_n g]
      exact ⟨z1, z2, z3, z4⟩
  have hX1 : okX nl (setS X (p + k) o v 0 (X.o1 (p + k)) (X.o2 (p + k))) := set_okX hX ⟨ho.1, ho.2.1⟩ (fun z => by omega) hvb
  by_cases g : k = 0
  · rw [if_pos g] at hQ
    rw [if_neg (by omega), b209_33]
    refine hQ σ1 f1 ?_
    rw [show p + k = p by omega] at x1
    exact x1
  · rw [if_neg g] at hQ
    rw [if_pos (by omega), wr_id (by omega) (by omega), show k + 1 - 1 = k by omega]
    refine s208 hX1 B0 B1 x1 p0 (by omega) (by show p + k ≤ X.n; omega) (fun σ2 f2 x2 => ?_)
    simp only [Option.toList_none, List.nil_append]
    rw [b209_33]
    exact hQ σ2 (f1.tr f2) (x2.c rfl (jn_eq p0 (by omega) hpk hjt hv))
theorem s211 (hs : WFs P) (hX : okX nl X) (hS : SOk P m nl W X F) (B0 : 0 ≤ B) (B1 : B + 120 ≤ 28800) (hx : xR σ X B) (p0 : 0 ≤ p) (p1 : p < X.n) (hr : ¬ ruS X p = 0) (hQ : ∀ σ', stF [10063] [] B σ σ' → xR σ' (apS X (ruS X p) p) B → Q none σ') : j3_tc true (d + 4) 211 [wO 10 121, wI (ruS X p), wI p] σ Q := by
  have hn := hX.1
  have c2 := fun i i0 i1 => (hx.2 i i0 i1).2.1
  have c1 := fun i i0 i1 => (hx.2 i i0 i1).1
  have cut : ∀ (k : Int) (Q' : j3_P), 1 ≤ k → p + k ≤ X.n → (∀ σ', stF [10063] [] B σ σ' → xR σ' (cutS X p k) B → Q' none σ') → j3_tc true (d + 3) 208 [wO 10 121, wI p, wI k] σ Q' := fun k Q' k1 hk hq => s208 hX B0 B1 hx p0 k1 hk hq
  have pop : ∀ rr : Int, (∀ σ', stF [10063] [] B σ σ' → xR σ' (setS X p 4 0 0 (X.o1 p) (X.o2 p)) B → Q none σ') → T211 (d + 3) Q 113 [wO 10 121, wI rr, wI p, wI (B + p)] [] σ := by
    intro rr hq
    rw [b211_113]
    have := s209 (d := d) (Q := fun r σ1 => T211 (d + 3) Q 119 [wO 10 121, wI rr, wI p, wI (B + p)] (r.toList ++ []) σ1) (o := 4) (v := 0) (k := 0) hX B0 B1 hx p0 (by omega) (by omega) (by omega) (fun z => absurd z (by decide)) (fun t t0 t1 => by omega) (fun z => absurd z (by decide)) (fun σ1 f1 x1 => by
      simp only [Option.toList_none, List.nil_append]
      rw [b211_119]
      exact hq σ1 f1 x1)
    exact this
  have cut46 : ∀ rr : Int, p + 2 ≤ X.n → (∀ σ', stF [10063] [] B σ σ' → xR σ' (cutS X p 2) B → Q none σ') → T211 (d + 3) Q 46 [wO 10 121, wI rr, wI p, wI (B + p)] [] σ := by
    intro rr hk hq
    rw [b211_46]
    refine cut 2 _ (by omega) hk (fun σ1 f1 x1 => ?_)
    simp only [Option.toList_none, List.nil_append]
    rw [b211_50, b211_119]
    exact hq σ1 f1 x1
  rw [e211, b211_0, hx.1.1, wr_id (by omega) (by omega)]
  rcases ru_c hr with ⟨e, g⟩ | ⟨g, q⟩
  · rw [e] at hQ ⊢
    rw [if_pos rfl, b211_7]
    refine cut 1 _ (by omega) (by omega) (fun σ1 f1 x1 => ?_)
    simp only [Option.toList_none, List.nil_append]
    rw [b211_11, b211_119]
    refine hQ σ1 f1 ?_
    unfold apS
    rw [if_pos (Or.inl rfl)]
    exact x1
  have hp := sn_ty hS g
  rcases q with ⟨e, q1, q2⟩ | ⟨e, q1, q2⟩ | ⟨e, q1, q2, q3, q4, q5, q6, q7⟩ | ⟨e, q1, q2, q3, q4⟩ | ⟨e, q1, q2, q3, q4⟩ | ⟨e, q1, q2, q3, q4, q5, q6⟩ | ⟨e, q1, q2, q3, q4⟩ | ⟨e, q1, q2, q3, q4⟩ | ⟨e, q1, q2⟩ | ⟨e, q1, q2, q3, q4, q5⟩ | ⟨e, q1, q2⟩
  · rw [e] at hQ ⊢
    show T211 (d + 3) Q 7 _ _ _
    rw [b211_7]
    refine cut 1 _ (by omega) (by omega) (fun σ1 f1 x1 => ?_)
    simp only [Option.toList_none, List.nil_append]
    rw [b211_11, b211_119]
    refine hQ σ1 f1 ?_
    unfold apS
    rw [if_pos (Or.inr rfl)]
    exact x1
  · rw [e] at hQ ⊢
    show T211 (d + 3) Q 12 _ _ _
    obtain ⟨u1, u2, u3⟩ := hS.tg p0 p1 hp q1
    obtain ⟨z1, z2, z3⟩ := le_in q2
    rw [b211_12, c2 p p0 p1, e206, b206_0]
    refine ⟨by omega, l206 hX hS B0 B1 hx X.n.toNat 0 (X.a p) (by omega) (by omega) u1 u2 u3 ?_⟩
    rw [← z1, if_neg z3]
    simp only [Option.toList_some, List.cons_append, List.nil_append]
    rw [b211_21, b211_119]
    refine ⟨by omega, hQ _ (st1 rfl (by omega) (by omega) stF.rf) ?_⟩
    unfold apS
    rw [if_neg (by omega), if_pos rfl]
    refine ⟨hx.1, fun i i0 i1 => ?_⟩
    have i1 : i < X.n := i1
    obtain ⟨w1, w2, w3, w4⟩ := hx.2 i i0 i1
    unfold oR at w4 ⊢
    simp only [j3_ast, up_r, up_e (show ((10027 : Nat) == 10028) = false from rfl), up_e (show ((10029 : Nat) == 10028) = false from rfl), up_e (show ((10030 : Nat) == 10028) = false from rfl), up_e (show ((10031 : Nat) == 10028) = false from rfl), up_e (show ((10032 : Nat) == 10028) = false from rfl)]
    show σ.2.2 10027 121 (B + i) = i_up X.op p (X.op p) i ∧ i_up _ (B + p) (leS X p) (B + i) = i_up X.a p (leS X p) i ∧ σ.2.2 10029 121 (B + i) = i_up X.b p (X.b p) i ∧ _
    have same : ∀ f : Int → Int, i_up f p (f p) i = f i := fun f => by
      by_cases gi : i = p
      · rw [gi, iu_r]
      · rw [iu_n gi]
    refine ⟨by rw [same]; exact w1, ?_, by rw [same]; exact w3, ?_⟩
    · by_cases gi : i = p
      · rw [gi, iu_r, iu_r]
      · rw [iu_n gi, iu_n (show ¬ B + i = B + p by omega)]; exact w2
    · have e4 : (setS X p (X.op p) (leS X p) (X.b p) (X.o1 p) (X.o2 p)).o1 i = X.o1 i := same X.o1
      have e5 : (setS X p (X.op p) (leS X p) (X.b p) (X.o1 p) (X.o2 p)).o2 i = X.o2 i := same X.o2
      rw [e4, e5]; exact w4
  · rw [e] at hQ ⊢
    show T211 (d + 3) Q 23 _ _ _
    rw [b211_23, wr_id (z := B + p + 2) (by omega) (by omega), wr_id (z := B + p + 1) (by omega) (by omega), show B + p + 2 = B + (p + 2) by omega, show B + p + 1 = B + (p + 1) by omega, c1 (p + 2) (by omega) q3, c2 p p0 p1, c2 (p + 1) (by omega) (by omega), s210 q6.1 q6.2 (by omega)]
    refine ⟨by omega, by omega, by omega, ?_⟩
    simp only [Option.toList_some, List.cons_append, List.nil_append]
    rw [b211_44]
    have := s209 (d := d) (Q := fun r σ1 => T211 (d + 3) Q 45 [wO 10 121, wI 4, wI p, wI (B + p)] (r.toList ++ []) σ1) (o := 0) (v := ari (X.op (p + 2)) (X.a p) (X.a (p + 1))) (k := 2) hX B0 B1 hx p0 (by omega) (by omega) (by omega) (fun z => absurd z (by decide)) (fun t t0 t1 => by rcases (by omega : t = p + 1 ∨ t = p + 2) with rfl | rfl; exact q4; exact q5) (fun z => absurd z (by decide)) (fun σ1 f1 x1 => by
      simp only [Option.toList_none, List.nil_append]
      rw [b211_45, b211_119]
      refine hQ σ1 f1 ?_
      unfold apS
      rw [if_neg (by omega), if_neg (by omega), if_pos rfl]
      rw [if_neg (by omega)] at x1
      exact x1)
    exact this
  · rw [e] at hQ ⊢
    exact cut46 5 (by omega) (fun σ1 f1 x1 => hQ σ1 f1 (by unfold apS; rw [if_neg (by omega), if_neg (by omega), if_neg (by omega), if_neg (by omega), if_neg (by omega), if_neg (by omega), if_neg (by omega)]; exact x1))
  · rw [e] at hQ ⊢
    show T211 (d + 3) Q 51 _ _ _
    have tb := (hX.2 (p + 1) (by omega) q2).2.2 (by rw [q4]; rfl)
    rw [b211_51, c2 p p0 p1]
    refine ⟨by omega, ?_⟩
    unfold apS at hQ
    rw [if_neg (by omega), if_neg (by omega), if_neg (by omega), if_pos rfl] at hQ
    by_cases gz : X.a p = 0
    · rw [if_pos gz] at hQ ⊢
      rw [wr_id (z := B + p + 1) (by omega) (by omega), show B + p + 1 = B + (p + 1) by omega, c2 (p + 1) (by omega) q2]
      refine ⟨by omega, ?_⟩
      have := s209 (d := d) (Q := fun r σ1 => T211 (d + 3) Q 67 [wO 10 121, wI 6, wI p, wI (B + p)] (r.toList ++ []) σ1) (o := 11) (v := X.a (p + 1)) (k := 1) hX B0 B1 hx p0 (by omega) (by omega) (by omega) (fun _ => tb) (fun t t0 t1 => by rw [show t = p + 1 by omega]; exact q3) (fun _ z => jt_f (X := X) (t := X.a (p + 1)) (by rw [show X.a (p + 1) = p + 1 by omega]; exact q3) (p + 1) (by omega) q2 (by rw [q4]; rfl) rfl) (fun σ1 f1 x1 => by
        simp only [Option.toList_none, List.nil_append]
        rw [b211_67, b211_119]
        rw [if_neg (by omega)] at x1
        exact hQ σ1 f1 x1)
      exact this
    · rw [if_neg gz] at hQ ⊢
      refine cut 2 _ (by omega) (by omega) (fun σ1 f1 x1 => ?_)
      simp only [Option.toList_none, List.nil_append]
      rw [b211_72, b211_119]
      exact hQ σ1 f1 x1
  · rw [e] at hQ ⊢
    show T211 (d + 3) Q 73 _ _ _
    have tb := (hX.2 (p + 2) (by omega) q3).2.2 (by rw [q6]; rfl)
    have jq : ∀ t, p < t → t ≤ p + 2 → jtS X t = false := fun t t0 t1 => by
      rcases (by omega : t = p + 1 ∨ t = p + 2) with rfl | rfl
      · exact q4
      · exact q5
    rw [b211_73, c2 p p0 p1, wr_id (z := B + p + 1) (by omega) (by omega), show B + p + 1 = B + (p + 1) by omega, c2 (p + 1) (by omega) (by omega)]
    refine ⟨by omega, by omega, ?_⟩
    unfold apS at hQ
    rw [if_neg (by omega), if_neg (by omega), if_neg (by omega), if_neg (by omega), if_pos rfl] at hQ
    by_cases gz : X.a p < X.a (p + 1)
    · rw [if_pos gz] at hQ ⊢
      rw [wr_id (z := B + p + 2) (by omega) (by omega), show B + p + 2 = B + (p + 2) by omega, c2 (p + 2) (by omega) q3]
      refine ⟨by omega, ?_⟩
      have := s209 (d := d) (Q := fun r σ1 => T211 (d + 3) Q 95 [wO 10 121, wI 7, wI p, wI (B + p)] (r.toList ++ []) σ1) (o := 11) (v := X.a (p + 2)) (k := 2) hX B0 B1 hx p0 (by omega) (by omega) (by omega) (fun _ => tb) jq (fun _ z => jt_f (jq _ z.1 z.2) (p + 2) (by omega) q3 (by rw [q6]; rfl) rfl) (fun σ1 f1 x1 => by
        simp only [Option.toList_none, List.nil_append]
        rw [b211_95, b211_119]
        rw [if_neg (by omega)] at x1
        exact hQ σ1 f1 x1)
      exact this
    · rw [if_neg gz] at hQ ⊢
      refine cut 3 _ (by omega) (by omega) (fun σ1 f1 x1 => ?_)
      simp only [Option.toList_none, List.nil_append]
      rw [b211_100, b211_119]
      exact hQ σ1 f1 x1
  · rw [e] at hQ ⊢
    show T211 (d + 3) Q 101 _ _ _
    have tb := (hX.2 (p + 1) (by omega) q2).2.2 (by rw [q4]; rfl)
    rw [b211_101, wr_id (z := B + p + 1) (by omega) (by omega), show B + p + 1 = B + (p + 1) by omega, c2 (p + 1) (by omega) q2]
    refine ⟨by omega, ?_⟩
    unfold apS at hQ
    rw [if_neg (by omega), if_neg (by omega), if_neg (by omega), if_neg (by omega), if_neg (by omega), if_pos rfl] at hQ
    have := s209 (d := d) (Q := fun r σ1 => T211 (d + 3) Q 112 [wO 10 121, wI 8, wI p, wI (B + p)] (r.toList ++ []) σ1) (o := 11) (v := X.a (p + 1)) (k := 1) hX B0 B1 hx p0 (by omega) (by omega) (by omega) (fun _ => tb) (fun t t0 t1 => by rw [show t = p + 1 by omega]; exact q3) (fun _ z => jt_f (X := X) (t := X.a (p + 1)) (by rw [show X.a (p + 1) = p + 1 by omega]; exact q3) (p + 1) (by omega) q2 (by rw [q4]; rfl) rfl) (fun σ1 f1 x1 => by
      simp only [Option.toList_none, List.nil_append]
      rw [b211_112, b211_119]
      rw [if_neg (by omega)] at x1
      exact hQ σ1 f1 x1)
    exact this
  · rw [e] at hQ ⊢
    exact cut46 9 (by omega) (fun σ1 f1 x1 => hQ σ1 f1 (by unfold apS; rw [if_neg (by omega), if_neg (by omega), if_neg (by omega), if_neg (by omega), if_neg (by omega), if_neg (by omega), if_neg (by omega)]; exact x1))
  · rw [e] at hQ ⊢
    exact pop 10 (fun σ1 f1 x1 => hQ σ1 f1 (by unfold apS; rw [if_neg (by omega), if_neg (by omega), if_neg (by omega), if_neg (by omega), if_neg (by omega), if_neg (by omega), if_pos (Or.inl rfl)]; exact x1))
  · rw [e] at hQ ⊢
    exact cut46 11 (by omega) (fun σ1 f1 x1 => hQ σ1 f1 (by unfold apS; rw [if_neg (by omega), if_neg (by omega), if_neg (by omega), if_neg (by omega), if_neg (by omega), if_neg (by omega), if_neg (by omega)]; exact x1))
  · rw [e] at hQ ⊢
    exact pop 12 (fun σ1 f1 x1 => hQ σ1 f1 (by unfold apS; rw [if_neg (by omega), if_neg (by omega), if_neg (by omega), if_neg (by omega), if_neg (by omega), if_neg (by omega), if_pos (Or.inr rfl)]; exact x1))
end RDN
