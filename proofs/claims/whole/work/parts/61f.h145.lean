/-! the call run -/
/-- the invariant, and nothing was thrown -/
def JJ0 (σc σr : j3_S) : Prop := JJ σc σr ∧ σr.1 10000 121 = 0
section H145
variable {σc σr : j3_S} {R : Pg} {T : Int → Fl} {o : Nat} {b e n m s : Int}
theorem core145 (h : JJ σc σr) (hb : ¬ (if b = 0 then σr.1 10043 121 else σr.1 10044 121) = 0) (e0 : 0 ≤ e) (e1 : e < σr.1 10045 121) (e6 : σr.1 10045 121 ≤ 6) (e9 : σc.1 9009 0 = σr.1 10045 121) (n1 : 1 ≤ n) (n2 : n ≤ 20000) (hg : good R) (hT : typed R T) (ho : ¬ o = 0) (hob : (if b = 0 then σc.2.1 7 else σc.2.1 8) = o) (hC : CP σc o R) (h4 : ∀ c, 0 ≤ c → c < R 3000 0 → σc.2.2 3004 o c = R 3004 c) (hR : RP σr s R) (hs : s = if b = 0 then 0 else 1) (m0 : 0 ≤ m) (m1 : m < R 3001 0) (h13 : R 3013 m = 1) (h15 : R 3015 m = 0) (hmc : (if b = 0 then σc.2.2 9008 0 e else σc.2.2 6002 83 (σc.2.2 9008 0 e)) = m) (h98 : 0 ≤ σc.2.2 9008 0 e ∧ σc.2.2 9008 0 e < 80) (hm : b = 0 → m = σr.2.2 10046 121 e) (hm' : ¬ b = 0 → ∀ (Q : j3_P), Q (some (wI m)) (bgI σr s, σr.2.1, bgA σr) → j3_tc true 19 220 [wO 10 121, wI (σr.2.2 10046 121 e)] (bgI σr s, σr.2.1, bgA σr) Q)
    (hor : ¬ b = 0 → ∀ m i, 0 ≤ m → m < R 3001 0 → 0 ≤ i → i < R 0 m → (σr.2.2 10030 121 (9600 + 120 * m + i) = 0 ∧ σc.2.2 6003 83 (m * 120 + i) = -1 ∧ σc.2.2 6004 83 (m * 120 + i) = -1) ∨ (σr.2.2 10030 121 (9600 + 120 * m + i) = 1 ∧ σc.2.2 6003 83 (m * 120 + i) = σr.2.2 10031 121 (9600 + 120 * m + i) ∧ 0 ≤ σc.2.2 6003 83 (m * 120 + i) ∧ σc.2.2 6004 83 (m * 120 + i) = -1) ∨ (σr.2.2 10030 121 (9600 + 120 * m + i) = 2 ∧ σc.2.2 6003 83 (m * 120 + i) = σr.2.2 10031 121 (9600 + 120 * m + i) ∧ 0 ≤ σc.2.2 6003 83 (m * 120 + i) ∧ σc.2.2 6004 83 (m * 120 + i) = σr.2.2 10032 121 (9600 + 120 * m + i) ∧ 0 ≤ σc.2.2 6004 83 (m * 120 + i))) : q2 JJ0 145 241 [wI b, wI e, wI n] σc σr := by
  have hf := h.1.2.2.2.1
  have hi0 := M0_i hg hT m0 m1 h13 h15
  have hi := rn_i hg hT n.toNat _ hi0
  have hcn : (rnM R n.toNat (M0 m)).en = -1 → rnC R n.toNat (M0 m) 0 = n := fun q => by rw [rn_c _ _ _ q]; omega
  -- the reference's loop
  have hp0 : (bgI σr s) 10093 121 = s ∧ RP (bgI σr s, σr.2.1, bgB σr m) s R := ⟨by simp [bgI, j3_up], hR.fr (bg_f (m := m)) (fun e a0 a1 => by simp [rrA, rmB]; omega)⟩
  obtain ⟨σ1r, R1, f1r, q1r⟩ := l241 (y1 := b) (y2 := e) (y3 := n) (s := s) hg hT (by rw [hs]; split <;> omega) (by rw [hs]; split <;> omega) n2 n.toNat (M0 m) (bgI σr s, σr.2.1, bgB σr m) 0 (by omega) (by omega) hi0 (Int.le_refl 0) hp0 (bg_rr hg.1 m0 m1)
  generalize hM : rnM R n.toNat (M0 m) = M at *
  generalize hcc : rnC R n.toNat (M0 m) 0 = c at *
  generalize hw : (fun k => if b = 0 then 1 else σr.2.2 10030 121 (9600 + 120 * M.me (M.dp - 1 - k) + M.pc (M.dp - 1 - k)) : Int → Int) = w
  generalize hv1 : (fun k => if b = 0 then tV M k else σr.2.2 10031 121 (9600 + 120 * M.me (M.dp - 1 - k) + M.pc (M.dp - 1 - k)) : Int → Int) = v1
  generalize hv2 : (fun k => σr.2.2 10032 121 (9600 + 120 * M.me (M.dp - 1 - k) + M.pc (M.dp - 1 - k)) : Int → Int) = v2
  have tc1 : ∀ k, k < tC M → 0 ≤ k → M.en = 1 ∧ tC M = M.dp := by
    intro k k1 k0
    unfold tC at k1 ⊢
    by_cases g : M.en = 1
    · rw [if_pos g]; exact ⟨g, rfl⟩
    · rw [if_neg g] at k1; omega
  have tc40 : tC M ≤ 40 ∧ 0 ≤ tC M := by
    unfold tC
    by_cases g : M.en = 1
    · rw [if_pos g]; have := hi.2.1 g; exact ⟨this.2.1, by have := this.1; omega⟩
    · rw [if_neg g]; omega
  have h80 := hg.1.2.1.2.1
  have frb : ∀ k, 0 ≤ k → k < tC M → (0 ≤ M.me (M.dp - 1 - k) ∧ M.me (M.dp - 1 - k) < R 3001 0 ∧ 0 ≤ M.pc (M.dp - 1 - k) ∧ M.pc (M.dp - 1 - k) < R 0 (M.me (M.dp - 1 - k))) ∧ M.me (M.dp - 1 - k) < 80 ∧ M.pc (M.dp - 1 - k) < 120 := by
    intro k k0 k1
    obtain ⟨g, gd⟩ := tc1 k k1 k0
    obtain ⟨d1, d2, d3⟩ := hi.2.1 g
    have := d3 (M.dp - 1 - k) (by omega) (by omega)
    have hl := ((bnd_of hg.1).2.2.2 _ this.1 this.2.1).2.2
    exact ⟨this, by omega, by omega⟩
  -- the reference's whole call
  have ref : ∀ Q : j3_P, (∀ σ', frm rrI rrA σr σ' → σ'.1 10000 121 = 0 → σ'.1 10077 121 = 1 → σ'.1 10089 121 = M.ou → rT σ' M c (bkS w v1 v2 (tC M).toNat).1 → (∀ i, 0 ≤ i → i < 100 → i < M.ou → σ'.2.2 10090 121 i = M.ov i) → (∀ i, 0 ≤ i → i < tC M → σ'.2.2 10091 121 i = tV M i) → (∀ i, 0 ≤ i → i < (bkS w v1 v2 (tC M).toNat).1 → σ'.2.2 10092 121 i = (bkS w v1 v2 (tC M).toNat).2 i) → Q (some (wI (eV M))) σ') → j3_tc true 20 241 [wO 10 121, wI b, wI e, wI n] σr Q := by
    intro Q hQ
    refine s241a (d := 18) (m := m) (s := s) hf.1.2 hf.2.1.2 hb e0 e1 e6 n1 n2 hs hm hm' (q1r 15 Q ?_)
    have fb := (bg_f (σ := σr) (s := s) (m := m))
    have f1w : frm rrI rrA (bgI σr s, σr.2.1, bgB σr m) σ1r := f1r.wd (sub_el rfl) (sub_el rfl)
    have e30 : ∀ e', e' = 10030 ∨ e' = 10031 ∨ e' = 10032 → σ1r.2.2 e' 121 = σr.2.2 e' 121 := by
      intro e' he
      have : rrA.elem e' = false := by rcases he with rfl | rfl | rfl <;> rfl
      rw [f1w.2.2 e' 121 this, fb.2.2 e' 121 this]
    refine s241b (d := 17) (s := s) (w := w) (v1 := v1) (v2 := v2) hg R1 hi (fun q => hcn q) (by rw [hs]; split <;> simp) (by rw [f1r.2.1 10093 121 rfl]; exact hp0.1) (fun i i0 i1 => ?_) (fun z k k0 k1 => ?_) (fun z g k k0 k1 => ?_) (fun σ' f3 r1 r2 r3 => ?_)
    · rw [f1r.2.2 10078 121 rfl]
      have : bgB σr m 10078 121 = i_fl (σr.2.2 10078 121) 0 8 0 := by simp [bgB, bgA, j3_ast, j3_up]
      show bgB σr m 10078 121 i = 0
      rw [this]
      simp only [i_fl]
      rw [if_pos (by omega)]
    · have gb : b = 0 := by
        by_cases g : b = 0
        · exact g
        · rw [if_neg g] at hs; omega
      rw [← hw, ← hv1]
      dsimp only
      rw [if_pos gb, if_pos gb]
      exact ⟨rfl, rfl⟩
    · have gb : ¬ b = 0 := by
        intro g
        rw [if_pos g] at hs; omega
      have gd : tC M = M.dp := by unfold tC; rw [if_pos g]
      obtain ⟨⟨d1, d2, d3, d4⟩, -⟩ := frb k k0 (by omega)
      rw [e30 10030 (by simp), e30 10031 (by simp), e30 10032 (by simp), ← hw, ← hv1, ← hv2]
      dsimp only
      rw [if_neg gb, if_neg gb]
      refine ⟨rfl, ?_⟩
      rcases hor gb _ _ d1 d2 d3 d4 with q | q | q
      · exact Or.inl q.1
      · exact Or.inr (Or.inl ⟨q.1, rfl⟩)
      · exact Or.inr (Or.inr ⟨q.1, rfl, rfl⟩)
    · have fa : frm rrI rrA σr σ' := (fb.tr f1w).tr (f3.wd (sub_el rfl) (sub_el rfl))
      refine hQ σ' fa ?_ ?_ ?_ r1 (fun i i0 i1 i2 => ?_) r2 r3
      · rw [f3.2.1 10000 121 rfl, f1r.2.1 10000 121 rfl]
        simp [bgI, j3_up]
      · rw [f3.2.1 10077 121 rfl, f1r.2.1 10077 121 rfl]
        simp [bgI, j3_up]
      · rw [f3.2.1 10089 121 rfl]; exact R1.1.2.1
      · rw [f3.2.2 10090 121 rfl]; exact R1.1.2.2.2 i i0 i1 i2
  -- the class
  unfold q2
  have t14 : ∀ Q : j3_P, T145 19 Q 14 [wO 9 0, wI b, wI e, wI n, wM 2, wM 2] [] σc → j3_tc false 20 145 [wO 9 0, wI b, wI e, wI n] σc Q := by
    intro Q hQ
    rw [e145, b145_0]
    by_cases g : b = 0
    · rw [if_pos g] at hb ⊢
      rw [if_neg (by rw [hf.1.1]; exact hb)]
      exact hQ
    · rw [if_neg g] at hb ⊢
      rw [if_neg (by rw [hf.2.1.1]; exact hb)]
      exact hQ
  refine t14 _ ?_
  have t61 : ∀ Q : j3_P, T145 19 Q 61 [wO 9 0, wI b, wI e, wI n, wI m, wM 2] [wO 3 o, wO 2 109] σc → T145 19 Q 14 [wO 9 0, wI b, wI e, wI n, wM 2, wM 2] [] σc := by
    intro Q hQ
    rw [b145_14, if_neg (by omega), if_pos (by omega), if_neg (by omega), if_neg (by omega)]
    have t51 : T145 19 Q 51 [wO 9 0, wI b, wI e, wI n, wM 2, wM 2] [wI m] σc := by
      rw [b145_51]
      by_cases g : b = 0
      · rw [if_pos g] at hob ⊢
        rw [hob]
        exact ⟨ho, hQ⟩
      · rw [if_neg g] at hob ⊢
        rw [hob]
        exact ⟨ho, hQ⟩
    by_cases g : b = 0
    · rw [if_pos g] at hmc ⊢
      rw [hmc]
      exact ⟨by omega, t51⟩
    · rw [if_neg g] at hmc ⊢
      rw [hmc]
      exact ⟨by omega, h98, t51⟩
  refine t61 _ ?_
  rw [b145_61]
  refine s20 (d := 10) hg hT ho hC h4 m0 m1 h13 h15 n1 n2 (fun σ1 hE => ?_)
  rw [hM, hcc] at hE
  rw [hM]
  obtain ⟨⟨p1, fI, fA⟩, i2000, ⟨r0, r1, r2, r3, r4, r5, r6⟩, r02, r03⟩ := hE
  simp only [Option.toList_some, List.cons_append, List.nil_append]
  rw [b145_64, e22, b22_0]
  refine ⟨by omega, ?_⟩
  generalize hσ2 : ((σ1.1, σ1.2.1, j3_ast σ1.2.2 2001 109 7 0) : j3_S) = σ2
  have g1 : ∀ i, ¬ i = 7 → σ2.2.2 2001 109 i = σ1.2.2 2001 109 i := by
    intro i hi
    rw [← hσ2]
    simp only [j3_ast, up_r, i_up, if_neg hi]
  have g7 : σ2.2.2 2001 109 7 = 0 := by rw [← hσ2]; simp [j3_ast, j3_up, i_up]
  have gA : ∀ e' o', ¬ e' = 2001 → σ2.2.2 e' o' = σ1.2.2 e' o' := by
    intro e' o' he
    rw [← hσ2]
    simp only [j3_ast, up_e (show (e' == 2001) = false by simpa using he)]
  have gI : σ2.1 = σ1.1 ∧ σ2.2.1 = σ1.2.1 := by rw [← hσ2]; exact ⟨rfl, rfl⟩
  refine l22 (d := 17) (D := tC M) (me := fun k => M.me (M.dp - 1 - k)) (pc := fun k => M.pc (M.dp - 1 - k)) (w := w) (v1 := v1) (v2 := v2) (σ0 := σ2) tc40.1 (by rw [g1 4 (by decide)]; exact r4) (fun k k0 k1 => ?_) (fun z k k0 k1 => ?_) (fun z k k0 k1 => ?_) (tC M).toNat 0 _ σ2 (by have := tc40.2; omega) ⟨frm.rf, fun _ _ => rfl, g7, fun i i0 i1 => absurd (show i < 0 from i1) (by omega)⟩ (fun σ3 hb3 => ?_)
  · obtain ⟨⟨d1, d2, d3, d4⟩, d5, d6⟩ := frb k k0 k1
    refine ⟨d1, d5, d3, d6, ?_⟩
    rw [gA 2003 109 (by decide)]
    exact r03 k k0 k1
  · rw [← hw, ← hv1]
    dsimp only
    rw [if_pos z, if_pos z]
    exact ⟨rfl, rfl⟩
  · obtain ⟨⟨d1, d2, d3, d4⟩, d5, d6⟩ := frb k k0 k1
    rw [gA 6003 83 (by decide), gA 6004 83 (by decide), fA 6003 83 rfl, fA 6004 83 rfl, ← hw, ← hv1, ← hv2]
    dsimp only
    rw [if_neg z, if_neg z]
    rcases hor z _ _ d1 d2 d3 d4 with q | q | q
    · exact Or.inl q
    · exact Or.inr (Or.inl ⟨q.1, q.2.1, by rw [← q.2.1]; exact q.2.2.1, q.2.2.2⟩)
    · exact Or.inr (Or.inr ⟨q.1, q.2.1, by rw [← q.2.1]; exact q.2.2.1, q.2.2.2.1, by rw [← q.2.2.2.1]; exact q.2.2.2.2⟩)
  · rw [show 0 + (tC M).toNat = (tC M).toNat by omega] at hb3
    obtain ⟨b1, b2, b3, b4⟩ := hb3
    simp only [Option.toList_none, List.nil_append]
    rw [b145_75]
    refine ⟨eV M, rfl, ref _ (fun σ' fr i00 i77 i89 rt r90 r91 r92 => ⟨rfl, ?_, i00⟩)⟩
    have zb := bkS_b (w := w) (v1 := v1) (v2 := v2) (tC M).toNat
    have hJ := h.pt (p := σ3.2.1) (by rw [b1.1, gI.2, p1]; rfl) (by rw [b1.1, gI.2, p1]; rfl) (by rw [b1.1, gI.2, p1]; rfl)
    have fc : frm crI (2004 :: crA) (σc.1, σ3.2.1, σc.2.2) σ3 := by
      refine ⟨rfl, fun e' o' he => ?_, fun e' o' he => ?_⟩
      · rw [b1.2.1 e' o' rfl, gI.1]
        exact fI e' o' he
      · have h1 : ¬ e' = 2004 ∧ ¬ e' = 2001 ∧ crA.elem e' = false := by
          simp [crA, cmA] at he ⊢; omega
        rw [b1.2.2 e' o' (by simp; omega), gA e' o' h1.2.1]
        exact fA e' o' h1.2.2
    refine hJ.ch fc fr rfl rfl rfl rfl (hJ.1.1.fr fc fr rfl rfl rfl rfl) (hJ.1.2.1.fr fc fr rfl rfl rfl) ⟨?_, fun _ => ⟨fun i i0 i1 => ?_, ?_, fun i i0 i1 i2 => ?_, ?_, fun i i0 i1 => ?_, ?_, fun i i0 i1 => ?_⟩⟩
    · rw [b1.2.1 2000 109 rfl, gI.1, i2000, i77]
    · obtain ⟨⟨t0, t1, t2, t3⟩, t4, t5, t6, t7⟩ := rt
      rcases (by omega : i = 0 ∨ i = 1 ∨ i = 2 ∨ i = 3 ∨ i = 4 ∨ i = 5 ∨ i = 6 ∨ i = 7) with rfl | rfl | rfl | rfl | rfl | rfl | rfl | rfl
      · rw [b2 0 (by decide), g1 0 (by decide), r0, t0]
      · rw [b2 1 (by decide), g1 1 (by decide), r1, t1]
      · rw [b2 2 (by decide), g1 2 (by decide), r2, t2]
      · rw [b2 3 (by decide), g1 3 (by decide), r3, t3]
      · rw [b2 4 (by decide), g1 4 (by decide), r4, t4]
      · rw [b2 5 (by decide), g1 5 (by decide), r5, t5]
      · rw [b2 6 (by decide), g1 6 (by decide), r6, t6]
      · rw [b3, t7]
    · rw [rt.1.2.2.2, i89]
    · rw [i89] at i2
      rw [b1.2.2 2002 109 rfl, gA 2002 109 (by decide), r02 i i0 i1 i2, r90 i i0 i1 i2]
    · rw [rt.2.1]; exact tc40.1
    · rw [rt.2.1] at i1
      rw [b1.2.2 2003 109 rfl, gA 2003 109 (by decide), r03 i i0 i1, r91 i i0 i1]
    · rw [rt.2.2.2.2]; omega
    · rw [rt.2.2.2.2] at i1
      rw [b4 i i0 i1, r92 i i0 i1]
theorem h145 (h : JJ σc σr) (hb : ¬ (if b = 0 then σr.1 10043 121 else σr.1 10044 121) = 0) (e0 : 0 ≤ e) (e1 : e < σr.1 10045 121) (n1 : 1 ≤ n) (n2 : n ≤ 20000) : q2 JJ0 145 241 [wI b, wI e, wI n] σc σr := by
  have hf := h.1.2.2.2.1
  have hz := h.1.2.2.2.2.nz
  by_cases g : b = 0
  · obtain ⟨P, ⟨⟨a1, a2, a3, a4, a5⟩, -, ⟨c0, c1, c2, c3⟩, -⟩, -⟩ := h.2 (by rw [if_pos g] at hb; exact hb)
    obtain ⟨d1, d2, d3, d4, d5⟩ := c3 e e0 (by omega)
    have h80 := a4.1.2.1.2.1
    refine core145 (R := P) (T := fun m => (res P m).2.2) (o := σc.2.1 7) (m := σc.2.2 9008 0 e) (s := 0) h hb e0 e1 (by omega) c2.symm n1 n2 a4 (fun m m0 m1 => (res_ty a4.1 m0 m1 (a5 m m0 m1)).1) hz.1 (by rw [if_pos g]) a1 a2 a3 (by rw [if_pos g]) d2 d3 d4 d5 (by rw [if_pos g]) ⟨d2, by omega⟩ (fun _ => d1.symm) (fun z => absurd g z) (fun z => absurd g z)
  · rw [if_neg g] at hb
    obtain ⟨P, ⟨⟨a1, a2, a3, a4, a5⟩, -, ⟨c0, c1, c2, c3⟩, -⟩, hS⟩ := h.2 (hf.2.2.1 hb)
    obtain ⟨P', ⟨s1, s2, s3, s4, s5⟩, ⟨k1, k2, k3⟩, ko, -, ke⟩ := hS hb
    obtain ⟨d1, d2, d3, d4, d5⟩ := c3 e e0 (by omega)
    have h80 := a4.1.2.1.2.1
    obtain ⟨u1, u2, u3⟩ := ke e e0 (by omega)
    obtain ⟨v1, v2, v3, v4⟩ := (k3 _ d2 d3).resolve_left (fun q => u1 q.1)
    have hS : ∃ T : Int → Fl, typed P' T := by
      have : ∀ m, ∃ S, (0 ≤ m → m < P' 3001 0 → TyC P' m (P' 3017 m) (cdP P' m) S) := by
        intro m
        by_cases q : 0 ≤ m ∧ m < P' 3001 0
        · obtain ⟨S, hS⟩ := s5 m q.1 q.2
          exact ⟨S, fun _ _ => hS⟩
        · exact ⟨((fun _ => 0), (fun _ _ => 0), (fun _ _ => 0)), fun q0 q1 => absurd ⟨q0, q1⟩ q⟩
      obtain ⟨T, hT⟩ := Classical.axiomOfChoice this
      exact ⟨T, hT⟩
    obtain ⟨T, hT⟩ := hS
    refine core145 (R := P') (T := T) (o := σc.2.1 8) (m := σc.2.2 6002 83 (σc.2.2 9008 0 e)) (s := 1) h (by rw [if_neg g]; exact hb) e0 e1 (by omega) c2.symm n1 n2 s4 hT hz.2 (by rw [if_neg g]) s1 s2 s3 (by rw [if_neg g]) v1 v2 u2 u3 (by rw [if_neg g]) ⟨d2, by omega⟩ (fun z => absurd z g) (fun _ Q hQ => ?_) (fun _ => ko)
    have fb := bg_f1 (σ := σr) (s := 1)
    have no : ∀ e', 10009 ≤ e' → e' ≤ 10029 → rrA.elem e' = false := fun e' a0 a1 => by simp [rrA, rmB]; omega
    rw [d1]
    refine s220 (d := 18) (σc := σc) (a3.fr fb no) (s3.fr fb no) a4.1 s4.1 d2 d3 (fun c c0 c1 => ?_) v1 v2 v3 ?_ hQ
    · rw [fb.2.2 10069 121 rfl]; exact k1 c c0 c1
    · rw [fb.2.2 10071 121 rfl]; exact v4
end H145
