/-! again, on both sides -/
section AGAIN
variable {σ σ' σ'' σc σr : j3_S} {o : Nat} {P P' : Pg} {d : Nat} {Q : j3_P} {n : Int}
theorem l150a {o1 : Nat} {σ0 : j3_S} (n6 : n ≤ 6) (hn : σ0.1 9009 0 = n) (hb : ∀ i, 0 ≤ i → i < n → 0 ≤ σ0.2.2 9008 0 i ∧ σ0.2.2 9008 0 i < 80) : ∀ (r : Nat) (x : Int) (σ : j3_S), x + r = n → 0 ≤ x → frm [] [9008] σ0 σ → (∀ i, 0 ≤ i → i < n → σ.2.2 9008 0 i = if i < x then σ0.2.2 6002 83 (σ0.2.2 9008 0 i) else σ0.2.2 9008 0 i) →
    (∀ σ', frm [] [9008] σ0 σ' → (∀ i, 0 ≤ i → i < n → σ'.2.2 9008 0 i = σ0.2.2 6002 83 (σ0.2.2 9008 0 i)) → T150 (d + 1) Q 52 [wO 9 0, wO 3 o1, wI 0] [] (j3_up (j3_up σ'.1 2000 109 0) 9013 0 (-1), σ'.2.1, σ'.2.2)) → T150 (d + 1) Q 26 [wO 9 0, wO 3 o1, wI x] [] σ
  | 0, x, σ, hx, x0, hf, hr, h => by
    rw [b150_26, hf.2.1 9009 0 rfl, hn, if_neg (by omega), e19, b19_0]
    simp only [Option.toList_none, List.nil_append]
    refine ⟨Or.inl trivial, ?_⟩
    rw [b150_47]
    exact h σ hf (fun i i0 i1 => by rw [hr i i0 i1, if_pos (by omega)])
  | r + 1, x, σ, hx, x0, hf, hr, h => by
    have hx2 := hr x x0 (by omega)
    rw [if_neg (by omega)] at hx2
    have := hb x x0 (by omega)
    rw [b150_26, hf.2.1 9009 0 rfl, hn, if_pos (by omega), hf.2.2 6002 83 rfl, hx2, wr_id (by omega) (by omega)]
    refine ⟨by omega, by omega, by omega, l150a n6 hn hb r (x + 1) _ (by omega) (by omega) (frm.A rfl hf) (fun i i0 i1 => ?_) h⟩
    simp only [j3_ast, up_r, i_up]
    by_cases g : i = x
    · subst g
      rw [if_pos rfl, if_pos (by omega)]
    · rw [if_neg g, hr i i0 i1]
      by_cases g2 : i < x
      · rw [if_pos g2, if_pos (by omega)]
      · rw [if_neg g2, if_neg (by omega)]
theorem l150b {o1 : Nat} (ho : ¬ o = 0) (hW : WFp P) (hz : ∀ m, 0 ≤ m → m < P 3001 0 → (res P m).1 = 0) : ∀ (r : Nat) (m : Int) (σ : j3_S), m + r = P 3001 0 → 0 ≤ m → σ.2.1 7 = o → CP σ o P → (∀ m' i, 0 ≤ m' → m' < m → 0 ≤ i → i < P 0 m' → σ.2.2 4 (o + 17) (m' * 120 + i) = (res P m').2.2.1 i) →
    (∀ σ', ckF o σ σ' → CP σ' o P → (∀ m' i, 0 ≤ m' → m' < P 3001 0 → 0 ≤ i → i < P 0 m' → σ'.2.2 4 (o + 17) (m' * 120 + i) = (res P m').2.2.1 i) → Q (some (wI 1)) σ') → T150 (d + 6) Q 52 [wO 9 0, wO 3 o1, wI m] [] σ
  | 0, m, σ, hm, m0, hp, hC, h4, h => by
    rw [b150_52, hp, hC.2.1, if_neg (by omega)]
    exact ⟨ho, Or.inr rfl, h σ ckF.rf hC (fun m' i a b => h4 m' i a (by omega))⟩
  | r + 1, m, σ, hm, m0, hp, hC, h4, h => by
    rw [b150_52, hp, hC.2.1, if_pos (by omega)]
    refine ⟨ho, ho, s2 ho hC hW m0 (by omega) rfl (by omega) (res_e hW m0 (by omega)) (fun σ1 hk _ hr => ?_)⟩
    obtain ⟨-, r2, r3⟩ := hr (hz m m0 (by omega))
    have hM := hW.2.1.2.1
    simp only [Option.toList_some, List.cons_append, List.nil_append]
    rw [b150_63, wr_id (by omega) (by omega)]
    refine l150b ho hW hz r (m + 1) σ1 (by omega) (by omega) ((hk.1 7 (by decide)).trans hp) (hk.CP hC) (fun m' i a b c e => ?_) (fun σ' k' C' A' => h σ' (hk.tr k') C' A')
    by_cases g : m' = m
    · subst g
      exact r2 i c e
    · have := (bnd_of hW).2.2.2 m m0 (by omega)
      have := (bnd_of hW).2.2.2 m' a (by omega)
      rw [r3 _ (by omega)]
      exact h4 m' i a (by omega) c e
theorem l246a {σ0 : j3_S} {w : Int → Int} (n6 : n ≤ 6) (hn : σ0.1 10045 121 = n) (hb : ∀ i, 0 ≤ i → i < n → ∀ (d : Nat) (Q : j3_P) (σ : j3_S), frm [] [10046] σ0 σ → Q (some (wI (w i))) σ → j3_tc true (d + 1) 220 [wO 10 121, wI (σ0.2.2 10046 121 i)] σ Q) : ∀ (r : Nat) (x : Int) (σ : j3_S), x + r = n → 0 ≤ x → frm [] [10046] σ0 σ → (∀ i, 0 ≤ i → i < n → σ.2.2 10046 121 i = if i < x then w i else σ0.2.2 10046 121 i) →
    (∀ σ' x', frm [] [10046] σ0 σ' → (∀ i, 0 ≤ i → i < n → σ'.2.2 10046 121 i = w i) → j3_tc true (d + 1) 183 [wO 10 121, wI 1, wI 0] σ' (fun r σ1 => T246 (d + 1) Q 30 [wO 10 121, wI x'] (r.toList ++ []) σ1)) → T246 (d + 1) Q 10 [wO 10 121, wI x] [] σ
  | 0, x, σ, hx, x0, hf, hr, h => by
    rw [b246_10, hf.2.1 10045 121 rfl, hn, if_neg (by omega)]
    exact h σ x hf (fun i i0 i1 => by rw [hr i i0 i1, if_pos (by omega)])
  | r + 1, x, σ, hx, x0, hf, hr, h => by
    have hx2 := hr x x0 (by omega)
    rw [if_neg (by omega)] at hx2
    rw [b246_10, hf.2.1 10045 121 rfl, hn, if_pos (by omega), hx2]
    refine ⟨by omega, hb x x0 (by omega) d _ σ hf ?_⟩
    simp only [Option.toList_some, List.cons_append, List.nil_append]
    rw [b246_23, wr_id (by omega) (by omega)]
    refine ⟨by omega, l246a n6 hn hb r (x + 1) _ (by omega) (by omega) (frm.A rfl hf) (fun i i0 i1 => ?_) h⟩
    simp only [j3_ast, up_r, i_up]
    by_cases g : i = x
    · subst g
      rw [if_pos rfl, if_pos (by omega)]
    · rw [if_neg g, hr i i0 i1]
      by_cases g2 : i < x
      · rw [if_pos g2, if_pos (by omega)]
      · rw [if_neg g2, if_neg (by omega)]
/-- the new number of a method that stays -/
theorem s220 {e : Int} (hR : RP σ 0 P) (hR' : RP σ 1 P') (hW : WFp P) (hW' : WFp P') (e0 : 0 ≤ e) (e1 : e < P 3001 0) (k1 : ∀ c, 0 ≤ c → c < P 3000 0 → σ.2.2 10069 121 c = σc.2.2 6000 83 c) (u1 : 0 ≤ σc.2.2 6002 83 e) (u2 : σc.2.2 6002 83 e < P' 3001 0) (u3 : P' 3011 (σc.2.2 6002 83 e) = σc.2.2 6000 83 (P 3011 e)) (u4 : σ.2.2 10071 121 e = σc.2.2 6002 83 e - P' 3007 (P' 3011 (σc.2.2 6002 83 e))) (hQ : Q (some (wI (σc.2.2 6002 83 e))) σ) : j3_tc true (d + 1) 220 [wO 10 121, wI e] σ Q := by
  have hM := hW.2.1.2.1
  have hn := hW.1.2.1
  have hM' := hW'.2.1.2.1
  have hn' := hW'.1.2.1
  obtain ⟨w1, -⟩ := hW.2.2.2 e e0 e1
  obtain ⟨w2, -⟩ := hW'.2.2.2 _ u1 u2
  have r1 := (hR.2.2.2 e e0 e1).1.1
  simp only [Int.mul_zero, Int.zero_add] at r1
  have r2 := (hR'.2.2.1 _ w2.1 w2.2.1).1.2.2.2.2
  have k := k1 (P 3011 e) w1.1 w1.2.1
  rw [← u3] at k
  rw [e220, b220_0, r1, k, wr_id (z := 10 + P' 3011 (σc.2.2 6002 83 e)) (by omega) (by omega), show 10 + P' 3011 (σc.2.2 6002 83 e) = 10 * 1 + P' 3011 (σc.2.2 6002 83 e) by omega, r2, u4, show P' 3007 (P' 3011 (σc.2.2 6002 83 e)) + (σc.2.2 6002 83 e - P' 3007 (P' 3011 (σc.2.2 6002 83 e))) = σc.2.2 6002 83 e by omega, wr_id (by omega) (by omega)]
  exact ⟨by omega, by omega, by omega, by omega, hQ⟩
theorem ffl_z {R : Int → Int × Int × Fl} {n : Int} (hz : ∀ m, 0 ≤ m → m < n → (R m).1 = 0) : ∀ (r : Nat) (m : Int), m + r = n → 0 ≤ m → (ffl R r m).1 = 0
  | 0, _, _, _ => rfl
  | r + 1, m, hm, m0 => by
    simp only [ffl]
    rw [if_pos (hz m m0 (by omega))]
    exact ffl_z hz r (m + 1) (by omega) (by omega)
theorem h150 (h : JJ σc σr) : q2 JJ 150 246 [] σc σr := by
  have hf := h.1.2.2.2.1
  have hpt := h.1.2.2.2.2
  have hz := hpt.nz
  by_cases g : σr.1 10044 121 = 0
  · exact n150 (hf.2.1.1.trans g) g h.th
  obtain ⟨P, hP, hS⟩ := h.2 (hf.2.2.1 g)
  obtain ⟨P', ⟨s1, s2, s3, s4, s5⟩, ⟨k1, k2, k3⟩, -, ⟨-, d1, d2⟩, e1⟩ := hS g
  obtain ⟨a1, a2, a3, a4, a5⟩ := hP.1
  obtain ⟨n0, n1, n2, n3⟩ := hP.2.2.1
  have hM := a4.1.2.1.2.1
  have hM' := s4.1.2.1.2.1
  have hrz : ∀ m, 0 ≤ m → m < P' 3001 0 → (res P' m).1 = 0 := fun m m0 m1 => by
    obtain ⟨S, hT⟩ := s5 m m0 m1
    exact (res_le s4.1 m0 m1 hT).1
  have ent : ∀ e, 0 ≤ e → e < σc.1 9009 0 → 0 ≤ σc.2.2 6002 83 (σc.2.2 9008 0 e) ∧ σc.2.2 6002 83 (σc.2.2 9008 0 e) < P' 3001 0 ∧ P' 3011 (σc.2.2 6002 83 (σc.2.2 9008 0 e)) = σc.2.2 6000 83 (P 3011 (σc.2.2 9008 0 e)) ∧ σr.2.2 10071 121 (σc.2.2 9008 0 e) = σc.2.2 6002 83 (σc.2.2 9008 0 e) - P' 3007 (P' 3011 (σc.2.2 6002 83 (σc.2.2 9008 0 e))) := by
    intro e e0 e9
    obtain ⟨-, q1, q2, -⟩ := n3 e e0 e9
    rcases k3 _ q1 q2 with ⟨q, -⟩ | q
    · exact absurd q (e1 e e0 e9).1
    · exact q
  unfold q2
  rw [e150, b150_0, if_neg (by rw [hf.2.1.1]; exact g)]
  refine ⟨hz.1, hz.2, Or.inl rfl, ?_⟩
  generalize ho7 : σc.2.1 7 = o7 at *
  generalize ho8 : σc.2.1 8 = o8 at *
  generalize hσ1 : ((j3_up (j3_up σc.1 9006 0 0) 9007 0 (σc.1 8001 90), j3_upP (j3_upP σc.2.1 7 o8) 8 o7, σc.2.2) : j3_S) = σ1
  have fc1 : frm [9006, 9007] [] σc (σ1.1, σc.2.1, σ1.2.2) := by rw [← hσ1]; exact frm.I rfl (frm.I rfl frm.rf)
  have i1 : σ1.1 9006 0 = 0 ∧ σ1.1 9007 0 = σc.1 8001 90 := by rw [← hσ1]; simp [j3_up]
  have p1 : σ1.2.1 7 = o8 ∧ σ1.2.1 8 = o7 ∧ σ1.2.1 9 = σc.2.1 9 := by rw [← hσ1]; exact ⟨rfl, rfl, rfl⟩
  have c9 : σ1.1 9009 0 = σc.1 9009 0 := fc1.2.1 9009 0 rfl
  have c8 : σ1.2.2 9008 0 = σc.2.2 9008 0 := fc1.2.2 9008 0 rfl
  have c6 : σ1.2.2 6002 83 = σc.2.2 6002 83 := fc1.2.2 6002 83 rfl
  refine l150a (d := 18) (n := σc.1 9009 0) (σ0 := σ1) n1 c9 (fun i i0 i1 => ?_) (σc.1 9009 0).toNat 0 σ1 (by omega) (by omega) frm.rf (fun i i0 _ => by rw [if_neg (by omega)]) (fun σ2 f2 E2 => ?_)
  · rw [c8]
    obtain ⟨-, q1, q2, -⟩ := n3 i i0 i1
    omega
  have f3 : frm [2000, 9013] [9008] σ1 (j3_up (j3_up σ2.1 2000 109 0) 9013 0 (-1), σ2.2.1, σ2.2.2) := frm.I rfl (frm.I rfl (f2.wd (sub_el rfl) (fun _ h => h)))
  have i3 : j3_up (j3_up σ2.1 2000 109 0) 9013 0 (-1) 2000 109 = 0 ∧ j3_up (j3_up σ2.1 2000 109 0) 9013 0 (-1) 9013 0 = -1 := by simp [j3_up]
  generalize hσ3 : ((j3_up (j3_up σ2.1 2000 109 0) 9013 0 (-1), σ2.2.1, σ2.2.2) : j3_S) = σ3 at f3
  have i3' : σ3.1 2000 109 = 0 ∧ σ3.1 9013 0 = -1 := by rw [← hσ3]; exact i3
  have E3 : ∀ i, 0 ≤ i → i < σc.1 9009 0 → σ3.2.2 9008 0 i = σc.2.2 6002 83 (σc.2.2 9008 0 i) := by
    intro i i0 i1
    have := E2 i i0 i1
    rw [← hσ3]
    rw [c6, c8] at this
    exact this
  have hC1 : CP σ1 o8 P' := (s1.fr fc1 ⟨rfl, rfl⟩ (la_ok rfl) : CP (σ1.1, σc.2.1, σ1.2.2) o8 P')
  have hC3 : CP σ3 o8 P' := hC1.fr f3 ⟨rfl, rfl⟩ (la_ok rfl)
  refine l150b (d := 13) (o := o8) hz.2 s4.1 hrz (P' 3001 0).toNat 0 σ3 (by have := s4.1.2.1.1; omega) (by omega) (by rw [f3.1]; exact p1.1) hC3 (fun m' i a b => absurd b (by omega)) (fun τ k4 C4 A4 => ⟨1, rfl, ?_⟩)
  have p4 : τ.2.1 7 = o8 ∧ τ.2.1 8 = o7 ∧ τ.2.1 9 = σc.2.1 9 := by
    rw [k4.1 7 (by decide), k4.1 8 (by decide), k4.1 9 (by decide), f3.1]
    exact p1
  have ci : ∀ e o', ([1000, 1001, 1003, 1004, 1010, 1012, 1013, 1014] ++ [2000, 9013, 9006, 9007]).elem e = false → τ.1 e o' = σc.1 e o' := by
    intro e o' he
    rw [k4.2.1 e o' (sub_el rfl e he), f3.2.1 e o' (sub_el rfl e he)]
    exact fc1.2.1 e o' (sub_el rfl e he)
  have ca : ∀ e o', [4, 1005, 1006, 1007, 1008, 1009, 1011, 9008].elem e = false → τ.2.2 e o' = σc.2.2 e o' := by
    intro e o' he
    rw [k4.2.2.1 e o' (sub_el rfl e he), f3.2.2 e o' (sub_el rfl e he)]
    exact fc1.2.2 e o' rfl
  have E4 : ∀ i, 0 ≤ i → i < σc.1 9009 0 → τ.2.2 9008 0 i = σc.2.2 6002 83 (σc.2.2 9008 0 i) := fun i i0 i1 => by rw [k4.2.2.1 9008 0 rfl]; exact E3 i i0 i1
  have t6 : τ.1 9006 0 = 0 := by rw [k4.2.1 9006 0 rfl, f3.2.1 9006 0 rfl]; exact i1.1
  have t7 : τ.1 9007 0 = σc.1 8001 90 := by rw [k4.2.1 9007 0 rfl, f3.2.1 9007 0 rfl]; exact i1.2
  have t2 : τ.1 2000 109 = 0 := by rw [k4.2.1 2000 109 rfl]; exact i3'.1
  have t13 : τ.1 9013 0 = -1 := by rw [k4.2.1 9013 0 rfl]; exact i3'.2
  -- the reference
  rw [e246, b246_0, if_neg g]
  show T246 19 _ 10 [wO 10 121, wI 0] [] (th0 σr)
  refine l246a (d := 18) (n := σc.1 9009 0) (σ0 := th0 σr) (w := fun i => σc.2.2 6002 83 (σc.2.2 9008 0 i)) n1 ((th0_r rfl).trans n2) (fun i i0 i1 d Q σ hf hQ => ?_) (σc.1 9009 0).toNat 0 _ (by omega) (by omega) frm.rf (fun i i0 _ => by rw [if_neg (by omega)]) (fun ρ1 x' g1 F1 => ?_)
  · have fr0 : frm [10000] [10046] σr σ := (th0_f.wd (fun _ h => h) (fun _ _ => rfl)).tr (hf.wd (fun _ _ => rfl) (fun _ h => h))
    obtain ⟨q0, q1, q2, -⟩ := n3 i i0 i1
    obtain ⟨u1, u2, u3, u4⟩ := ent i i0 i1
    show j3_tc true (d + 1) 220 [wO 10 121, wI (σr.2.2 10046 121 i)] σ Q
    rw [q0]
    exact s220 (σc := σc) (a3.fr fr0 (lr_ok rfl)) (s3.fr fr0 (lr_ok rfl)) a4.1 s4.1 q1 q2 (fun c c0 c1 => by rw [fr0.2.2 10069 121 rfl]; exact k1 c c0 c1) u1 u2 u3 (by rw [fr0.2.2 10071 121 rfl]; exact u4) hQ
  have gr1 : frm [10000] [10046] σr ρ1 := (th0_f.wd (fun _ h => h) (fun _ _ => rfl)).tr (g1.wd (fun _ _ => rfl) (fun _ h => h))
  refine s183 (d := 16) (s := 1) (t := 0) (by omega) (by omega) (by omega) (by omega) (by omega) (bnd_of s4.1) (by have := s4.1.1.1; omega) s4.1.2.1.1 (s3.fr gr1 (lr_ok rfl)) (fun ρ2 oS2 R2 B2 => ?_)
  simp only [Option.toList_none, List.nil_append]
  rw [b246_30]
  have g2 : frm ([10007] : List Nat) [] ρ2 (j3_up ρ2.1 10007 121 0, ρ2.2.1, ρ2.2.2) := frm.I rfl frm.rf
  refine s180 (d := 14) (n := 50000) (R := res P') (s := 0) s4.1 (by omega) (by omega) (fun m m0 m1 => res_e s4.1 m0 m1) (R2.fr g2 (lr_ok rfl)) (by dsimp only; exact up_r) ?_ (fun ρ3 f4 _ _ y4 y5 _ => ?_)
  · show j3_up ρ2.1 10007 121 0 10042 121 = 0 ∨ j3_up ρ2.1 10007 121 0 10042 121 = 1
    rw [up_e rfl, oS2.1.2.1 10042 121 rfl, gr1.2.1 10042 121 rfl]
    exact hf.2.2.2
  have y4 := y4 (ffl_z (n := P' 3001 0) hrz _ _ (by have := s4.1.2.1.1; omega) (by omega))
  simp only [Option.toList_none, List.nil_append]
  rw [b246_36]
  refine ⟨Or.inl rfl, Or.inl rfl, Or.inr rfl, rfl, ?_⟩
  have fr : frm ([10000, 10007] ++ tyI) ([10046] ++ slA ++ tyA) σr ρ3 := (gr1.wd (sub_el rfl) (sub_el rfl)).tr ((oS2.1.wd (sub_el rfl) (sub_el rfl)).tr ((g2.wd (sub_el rfl) (sub_el rfl)).tr (f4.wd (sub_el rfl) (sub_el rfl))))
  generalize hρ : ((j3_up (j3_up ρ3.1 10044 121 0) 10077 121 0, ρ3.2.1, ρ3.2.2) : j3_S) = ρ
  have f5 : frm [10044, 10077] [] ρ3 ρ := by rw [← hρ]; exact frm.I rfl (frm.I rfl frm.rf)
  have j5 : ρ.1 10044 121 = 0 ∧ ρ.1 10077 121 = 0 := by rw [← hρ]; simp [j3_up]
  have ri : ∀ e, ([10000, 10007, 10044, 10077] ++ tyI).elem e = false → ρ.1 e 121 = σr.1 e 121 := by
    intro e he
    rw [f5.2.1 e 121 (sub_el rfl e he)]
    exact fr.2.1 e 121 (sub_el rfl e he)
  have ra : ∀ e, ([10046] ++ slA ++ tyA).elem e = false → ρ.2.2 e 121 = σr.2.2 e 121 := by
    intro e he
    rw [f5.2.2 e 121 rfl]
    exact fr.2.2 e 121 he
  have F5 : ∀ i, 0 ≤ i → i < σc.1 9009 0 → ρ.2.2 10046 121 i = σc.2.2 6002 83 (σc.2.2 9008 0 i) := fun i i0 i1 => by
    rw [f5.2.2 10046 121 rfl, f4.2.2 10046 121 rfl, g2.2.2 10046 121 rfl, oS2.1.2.2 10046 121 rfl]
    exact F1 i i0 i1
  have R5 : RP ρ 0 P' := ((R2.fr g2 (lr_ok rfl)).fr f4 (lr_ok rfl)).fr f5 (lr_ok rfl)
  have B5 : ρ.2.2 10034 121 0 = σr.1 10076 121 := by
    rw [f5.2.2 10034 121 rfl, f4.2.2 10034 121 rfl, g2.2.2 10034 121 rfl, B2, gr1.2.2 10034 121 rfl]
    exact d2
  clear hρ hσ1 hσ3
  refine ⟨⟨?_, ?_, ?_, ⟨⟨?_, ?_⟩, ⟨?_, ?_⟩, ?_, ?_⟩, ?_⟩, fun q => ⟨P', ?_, fun q2 => absurd j5.1 q2⟩⟩
  · have := h.1.1
    unfold tpR at this ⊢
    rw [ci 9001 0 rfl, ca 9000 0 rfl, ri 10002 rfl, ra 10001 rfl]
    exact this
  · have := h.1.2.1
    unfold fR at this ⊢
    rw [ca 9010 0 rfl, ri 10005 rfl, ra 10006 rfl]
    exact this
  · exact ⟨t2.trans j5.2.symm, fun q => absurd j5.2 q⟩
  · rw [ci 9005 0 rfl, ri 10043 rfl]; exact hf.1.1
  · rw [ri 10043 rfl]; exact hf.1.2
  · rw [t6, j5.1]
  · exact Or.inl j5.1
  · intro q; exact absurd j5.1 q
  · rw [f5.2.1 10042 121 rfl]; exact y5
  · obtain ⟨q1, q2, q3, q4, q5, q6⟩ := hpt
    unfold ptR
    rw [p4.1, p4.2.1, p4.2.2]
    rw [ho7] at q1 q4 q5
    rw [ho8] at q2 q4 q6
    exact ⟨q2, q1, q3, fun e => q4 e.symm, q6, q5⟩
  · unfold gpR
    rw [p4.1]
    refine ⟨⟨C4, fun c c0 c1 => by rw [ca 3004 o8 rfl]; exact s2 c c0 c1, R5, s4, hrz⟩, ⟨A4, fun m m0 m1 i i0 i1 => ?_, Or.inl t13⟩, ⟨⟨?_, ?_, ?_, fun e e0 e9 => ?_⟩, ?_⟩⟩
    · have hb := (bnd_of s4.1).2.2.2 m m0 m1
      obtain ⟨w1, w2⟩ := (y4 m m0 m1).1 i i0 (by omega)
      rw [f5.2.2 10035 121 rfl, f5.2.2 10036 121 rfl, f5.2.2 10037 121 rfl, f5.2.2 10038 121 rfl]
      rw [if_pos rfl] at w1 w2
      simp only [Int.zero_add] at w1 w2
      exact ⟨w1, fun q => ⟨(w2 q).1, (w2 q).2.1, (w2 q).2.2.1⟩⟩
    · rw [ci 9009 0 rfl]; exact n0
    · rw [ci 9009 0 rfl]; exact n1
    · rw [ci 9009 0 rfl, ri 10045 rfl]; exact n2
    · rw [ci 9009 0 rfl] at e9
      obtain ⟨u1, u2, -⟩ := ent e e0 e9
      rw [E4 e e0 e9, F5 e e0 e9]
      exact ⟨rfl, u1, u2, (e1 e e0 e9).2.1, (e1 e e0 e9).2.2⟩
    · rw [t7, B5]
      exact d1.1
end AGAIN
