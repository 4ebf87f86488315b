/-! the call shrink -/
section H140
variable {σc σr σ1 σ2 : j3_S} {P A : Pg} {T : Int → Fl} {R r : Rs} {XX : Int → Sx} {NL E : Int → Int} {x c m i k n v t b : Int}
theorem sm140 {o2 : Nat} (hS : SH P T E n b R r XX NL) (hg : good P) (hT : typed P T) (n1 : 1 ≤ n) (hE : ∀ e, 0 ≤ e → e < n → 0 ≤ E e ∧ E e < P 3001 0 ∧ P 3013 (E e) = 1 ∧ P 3015 (E e) = 0) (hp8 : σ1.2.1 8 = o2) (h9 : σ1.1 9009 0 = n ∧ ∀ e, 0 ≤ e → e < n → σ1.2.2 9008 0 e = E e) (cC : CP σ1 o2 A) (c4 : ∀ c, σ1.2.2 3004 o2 c = A 3004 c) (sp : SPg P r XX NL A) (d4 : ∀ c, 0 ≤ c → c < P 3000 0 → kC P r XX c → A 3004 (nC P r XX c) = P 3004 c) (nu : nuC σ1 P r XX) (oc : ∀ m, 0 ≤ m → m < P 3001 0 → kM P r XX m → orC σ1 P r XX m) (cc : ∀ i, 0 ≤ i → i < 23 → σ1.2.2 6005 83 i = ctS P T R b (P 3001 0).toNat i + (if i = 3 then shl P r XX (P 3001 0) else 0)) (wc : σ1.1 8001 90 = ((outL A).length : Int) ∧ ∀ i : Nat, i < (outL A).length → σ1.2.2 8000 90 i = i_tb ((outL A).getD i 0)) (rR : RP σ2 1 A) (t69 : ∀ c, 0 ≤ c → c < P 3000 0 → σ2.2.2 10069 121 c = nC P r XX c) (tnb : nbR σ2 P r XX (P 3000 0) (P 3001 0)) (tor : ∀ m, 0 ≤ m → m < P 3001 0 → kM P r XX m → orR P r XX σ2 m) (rc : ∀ i, 0 ≤ i → i < 23 → σ2.2.2 10052 121 i = ctS P T R b (P 3001 0).toNat i + (if i = 3 then shl P r XX (P 3001 0) else 0)) (wr : σ2.1 10076 121 = ((outL A).length : Int) ∧ (∀ i : Nat, i < (outL A).length → σ2.2.2 10075 121 i = i_an ((outL A).getD i 0) 255) ∧ σ2.2.2 10034 121 1 = ((outL A).length : Int)) : smR σ1 σ2 P A := by
  obtain ⟨⟨hgr, hx1, hx2⟩, hre, hsub, hoo⟩ := hS.fa hg hT
  have h1 := hS.k1 hg hT n1 (fun e e0 e1 => ⟨(hE e e0 e1).1, (hE e e0 e1).2.1⟩)
  have gd := sp.gd hg hx2 h1 d4
  have hl := outL_l gd.1 gd.2.2.2.2
  refine ⟨⟨by rw [hp8]; exact cC, fun c _ _ => by rw [hp8]; exact c4 c, rR, gd, fun t t0 t1 => sp.ty hg hx2 h1 t0 t1⟩, ⟨fun c c0 c1 => by rw [t69 c c0 c1, nu.1 c c0 c1], fun c f c0 c1 f0 f1 => ?_, fun m m0 m1 => ?_⟩, fun t i t0 t1 i0 i1 => ?_, ⟨fun i i0 i1 => by rw [cc i i0 i1, rc i i0 i1], ⟨by rw [wc.1, wr.1], by rw [wc.1]; omega, by rw [wc.1]; omega, fun i i0 i1 => ?_⟩, by rw [wr.2.2, wr.1]⟩, fun e e0 e1 => ?_⟩
  · rw [nu.2.1 c f c0 c1 f0 f1, show 6 * c + f = c * 6 + f by omega, tnb.1 c f c0 c1 f0 f1]
  · have ow := (hg.1.2.2.2 m m0 m1).1
    rw [nu.2.2 m m0 m1, tnb.2 m m0 m1, nu.1 _ ow.1 ow.2.1]
    by_cases g : kM P r XX m
    · right
      have nb := nM_b hg m0 m1 g
      obtain ⟨kc, o1, -, -⟩ := sp.ow hg m0 m1 g
      rw [sp.1.2, o1, (sp.2.1 _ ow.1 ow.2.1 kc).1.2.2.2]
      refine ⟨nb.1, nb.2.1, rfl, ?_⟩
      unfold nO; rw [dB_t.2 g]; rfl
    · left
      refine ⟨nw_n g, ?_⟩
      unfold nO; rw [dB_f.2 g]; rfl
  · obtain ⟨m, m0, m1, hm, rfl⟩ := sp.sm hg t0 t1
    rw [(sp.cd m0 m1 hm).1] at i1
    obtain ⟨u1, u2⟩ := oc m m0 m1 hm i i0 i1
    obtain ⟨v1, v2⟩ := tor m m0 m1 hm i i0 i1
    rw [u1, u2]
    by_cases g : r.1 m = 1
    · simp only [if_pos g]
      obtain ⟨w1, w2⟩ := v1 g
      obtain ⟨k1, k2⟩ := hoo m m0 m1 i
      right
      rcases w2 with ⟨z1, z2⟩ | ⟨z1, z2, z3⟩
      · left
        exact ⟨z2, w1.symm, k1, z1⟩
      · right
        exact ⟨z2, w1.symm, k1, z3.symm, k2.resolve_left z1⟩
    · simp only [if_neg g]
      left
      exact ⟨v2 g, trivial, trivial⟩
  · rw [wc.1] at i1
    have a1 := wc.2 i.toNat (by omega)
    have a2 := wr.2.1 i.toNat (by omega)
    rw [show ((i.toNat : Nat) : Int) = i by omega] at a1 a2
    rw [a1, a2, an_tb]
  · rw [h9.1] at e1
    obtain ⟨q0, q1, q2, q3⟩ := hE e e0 e1
    have km : kM P r XX (E e) := Or.inl (hre e e0 e1).2
    have nb := nM_b hg q0 q1 km
    obtain ⟨⟨b1, b2, b3, b4⟩, -⟩ := (sp.2.2 _ q0 q1 km).1
    rw [h9.2 e e0 e1, nu.2.2 _ q0 q1, b2, b4]
    exact ⟨by omega, q2, q3⟩
theorem h140 (h : JJ σc σr) (hok : okS σc) (b0 : 0 ≤ b) (b1 : b ≤ 12) (hp : ¬ σr.1 10043 121 = 0) (hen : ¬ σr.1 10045 121 = 0) : q2 JJ0 140 226 [wI b] σc σr := by
  have hz := h.1.2.2.2.2.nz
  obtain ⟨htp, hfR, hmR, hfl, hpt⟩ := h.1
  obtain ⟨P, hgp, -⟩ := h.2 hp
  obtain ⟨⟨a1, a2, a3, a4, a5⟩, ⟨g1, g2, g3⟩, ⟨c0, c1, c2, c3⟩, c4⟩ := id hgp
  have hT : typed P (fun m => (res P m).2.2) := fun m m0 m1 => (res_ty a4.1 m0 m1 (a5 m m0 m1)).1
  have hpr : prg P := fun m i m0 m1 i0 i1 => by
    rw [← ((a1.2.2.2 m m0 m1).2.2 i i0 i1).2.1]; exact hok.2.2 _ _ _
  generalize ho : σc.2.1 7 = o at *
  generalize ho2 : σc.2.1 8 = o2 at *
  have hb := bnd_of a4.1
  obtain ⟨p7, p8, p9, q1, q2, q3⟩ := id hpt
  rw [ho] at p7 q1
  rw [ho2] at p8 q1
  have hoo : ¬ o = o2 ∧ ¬ o = o2 + 17 ∧ ¬ o + 17 = o2 := by omega
  have hS : SH P (fun m => (res P m).2.2) (fun e => σc.2.2 9008 0 e) (σc.1 9009 0) b _ _ _ _ := ⟨rfl, rfl, rfl, rfl⟩
  have n1 : 1 ≤ σc.1 9009 0 := by omega
  have hE : ∀ e, 0 ≤ e → e < σc.1 9009 0 → 0 ≤ σc.2.2 9008 0 e ∧ σc.2.2 9008 0 e < P 3001 0 ∧ P 3013 (σc.2.2 9008 0 e) = 1 ∧ P 3015 (σc.2.2 9008 0 e) = 0 := fun e e0 e1 => (c3 e e0 e1).2
  show j3_tc false 20 140 [wO 9 0, wI b] σc _
  rw [e140, b140_0, if_neg (by omega), if_neg (by omega), hfl.1.1, if_neg hp, if_neg (by omega), ho, ho2]
  refine ⟨by omega, by omega, ?_⟩
  refine c79 (d := 11) hS a4 hT hpr ⟨by omega, by omega⟩ hoo (by omega) (by omega) a1 a2 (fun m i m0 m1 i0 i1 => g1 m i m0 m1 i0 i1) n1 c1 (fun e e0 e1 => ⟨rfl, (hE e e0 e1).1, (hE e e0 e1).2.1⟩) (fun σ1 A s1 cp1 d1 sp1 d1' n1' or1 ct1 w1 => ?_)
  simp only [Option.toList_none, List.nil_append]
  have h1 := hS.k1 a4 hT n1 (fun e e0 e1 => ⟨(hE e e0 e1).1, (hE e e0 e1).2.1⟩)
  have gd := sp1.gd a4 (hS.fa a4 hT).1.2.2 h1 d1'
  rw [b140_33, w1.1]
  refine ⟨by simp, ((outL A).length : Int), rfl, ?_⟩
  refine r226 (d := 13) (σ := σr) hS a4 hT hpr a3 (fun m i m0 m1 i0 i1 => ?_) n1 c1 c2 (fun e e0 e1 => ⟨(c3 e e0 e1).1, (hE e e0 e1).1, (hE e e0 e1).2.1⟩) b0 b1 hp sp1 gd (fun σ2 s2 r2 t69 tnb tor rc wr => ⟨rfl, ?_⟩)
  · obtain ⟨u1, u2⟩ := g2 m m0 m1 i i0 i1
    exact ⟨u1, fun q => (u2 q).1⟩
  -- both sides agree again
  generalize hτ1 : ((j3_up σ1.1 9006 0 1, σ1.2.1, σ1.2.2) : j3_S) = τ1
  generalize hτ2 : ((j3_up σ2.1 10044 121 1, σ2.2.1, σ2.2.2) : j3_S) = τ2
  have I1 : ∀ e o', ¬ e = 9006 → τ1.1 e o' = σ1.1 e o' := fun e o' q => by rw [← hτ1]; dsimp only; rw [up_ne (fun z => q z.1)]
  have I2 : ∀ e o', ¬ e = 10044 → τ2.1 e o' = σ2.1 e o' := fun e o' q => by rw [← hτ2]; dsimp only; rw [up_ne (fun z => q z.1)]
  have A1 : τ1.2.2 = σ1.2.2 := by rw [← hτ1]
  have A2 : τ2.2.2 = σ2.2.2 := by rw [← hτ2]
  have P1 : τ1.2.1 = σ1.2.1 := by rw [← hτ1]
  have e96 : τ1.1 9006 0 = 1 := by rw [← hτ1]; dsimp only; rw [up_r]
  have e44 : τ2.1 10044 121 = 1 := by rw [← hτ2]; dsimp only; rw [up_r]
  have k1 : ∀ e o', kpE o2 e o' → (¬ e = 9006 → τ1.1 e o' = σc.1 e o') ∧ τ1.2.2 e o' = σc.2.2 e o' := fun e o' q => ⟨fun z => by rw [I1 e o' z]; exact (s1.2 e o' q).1, by rw [A1]; exact (s1.2 e o' q).2⟩
  have p1 : ∀ j, ¬ j = 2 → ¬ j = 5 → ¬ j = 6 → τ1.2.1 j = σc.2.1 j := fun j x y z => by rw [P1]; exact s1.1 j x y z
  have ki : ∀ e, rsI.elem e = false → ¬ e = 10044 → ¬ e = 10000 → τ2.1 e 121 = σr.1 e 121 := fun e q q' q'' => by
    rw [I2 e _ q', s2.1.2.1 e 121 q]
    exact up_ne (fun z => q'' z.1)
  have e00 : τ2.1 10000 121 = 0 := by
    rw [I2 10000 _ (by omega), s2.1.2.1 10000 121 rfl]
    show j3_up σr.1 10000 121 0 10000 121 = 0
    rw [up_r]
  have ka : ∀ e, rsA.elem e = false → τ2.2.2 e 121 = σr.2.2 e 121 := fun e q => by rw [A2]; exact s2.1.2.2 e 121 q
  have c9 : ∀ e, 9000 ≤ e → kpE o2 e 0 := fun e q => by unfold kpE; omega
  have smo : smP o σc τ1 := by
    refine ⟨⟨(k1 3000 o (by unfold kpE; omega)).1 (by omega), (k1 3001 o (by unfold kpE; omega)).1 (by omega)⟩, fun e he => ?_⟩
    have : e < 1000 ∨ (3000 ≤ e ∧ e < 4000) := by simp [pgA] at he; omega
    exact ⟨(k1 e o (by unfold kpE; omega)).2, (k1 e (o + 17) (by unfold kpE; omega)).2⟩
  have smr : smS 0 σr τ2 := fun e z e0 e1 z0 z1 ne => by rw [A2]; exact s2.ss e z e0 e1 z0 z1 ne
  refine ⟨⟨⟨?_, ?_, ?_, ?_, ?_⟩, fun _ => ⟨P, ?_, fun _ => ⟨A, ?_⟩⟩⟩, e00⟩
  · unfold tpR
    rw [(k1 9001 0 (c9 _ (by omega))).1 (by omega), (k1 9000 0 (c9 _ (by omega))).2, ki 10002 rfl (by omega) (by omega), ka 10001 rfl]
    exact htp
  · unfold fR
    rw [(k1 9010 0 (c9 _ (by omega))).2, ki 10005 rfl (by omega) (by omega), ka 10006 rfl]
    exact hfR
  · unfold mR
    have kk : ∀ e, 2000 ≤ e → e < 3000 → kpE o2 e 109 := fun e x y => by unfold kpE; omega
    rw [(k1 2000 109 (kk _ (by omega) (by omega))).1 (by omega), (k1 2001 109 (kk _ (by omega) (by omega))).2, (k1 2002 109 (kk _ (by omega) (by omega))).2, (k1 2003 109 (kk _ (by omega) (by omega))).2, (k1 2004 109 (kk _ (by omega) (by omega))).2, ki 10077 rfl (by omega) (by omega), ki 10089 rfl (by omega) (by omega), ka 10078 rfl, ka 10090 rfl, ka 10091 rfl, ka 10092 rfl]
    exact hmR
  · unfold flR
    rw [(k1 9005 0 (c9 _ (by omega))).1 (by omega), ki 10043 rfl (by omega) (by omega), e96, e44, ki 10042 rfl (by omega) (by omega)]
    exact ⟨hfl.1, ⟨rfl, Or.inr rfl⟩, fun _ => hp, hfl.2.2.2⟩
  · unfold ptR
    rw [p1 7 (by omega) (by omega) (by omega), p1 8 (by omega) (by omega) (by omega), p1 9 (by omega) (by omega) (by omega)]
    exact hpt
  · refine hgp.mv (p1 7 (by omega) (by omega) (by omega)) (by rw [ho]; exact smo) smr (fun z _ => by rw [ka 10035 rfl, ka 10036 rfl]; exact ⟨rfl, rfl⟩) (fun z _ => by rw [ka 10037 rfl]) (fun z _ => by rw [ka 10038 rfl]) (Or.inr ⟨(k1 9013 0 (c9 _ (by omega))).1 (by omega), fun e he => ?_⟩) ⟨(k1 9009 0 (c9 _ (by omega))).1 (by omega), ki 10045 rfl (by omega) (by omega), (k1 9008 0 (c9 _ (by omega))).2, ka 10046 rfl, (k1 9007 0 (c9 _ (by omega))).1 (by omega)⟩
    simp at he
    exact (k1 e 76 (by unfold kpE; omega)).2
  · refine sm140 (o2 := o2) hS a4 hT n1 hE (by rw [p1 8 (by omega) (by omega) (by omega)]; exact ho2) ⟨(k1 9009 0 (c9 _ (by omega))).1 (by omega), fun e _ _ => by rw [(k1 9008 0 (c9 _ (by omega))).2]⟩ (cp1.mv ⟨⟨I1 _ _ (by omega), I1 _ _ (by omega)⟩, fun e _ => ⟨by rw [A1], by rw [A1]⟩⟩) (fun c => by rw [A1]; exact d1 c) sp1 d1' (by unfold nuC; rw [A1]; exact n1') (fun m m0 m1 hm => by unfold orC; rw [A1]; exact or1 m m0 m1 hm) (fun i i0 i1 => by rw [A1]; exact ct1 i i0 i1) ⟨by rw [I1 _ _ (by omega)]; exact w1.1, fun i hi => by rw [A1]; exact w1.2 i hi⟩ (r2.fr (li := [10044]) (la := []) ⟨by rw [← hτ2], fun e o' q => I2 e o' (by simpa using q), fun e o' _ => by rw [A2]⟩ (fun e _ _ => rfl)) (fun c c0 c1 => by rw [A2]; exact t69 c c0 c1) (by unfold nbR; rw [A2]; exact tnb) (fun m m0 m1 hm => ?_) (fun i i0 i1 => by rw [A2]; exact rc i i0 i1) ⟨by rw [I2 _ _ (by omega)]; exact wr.1, fun i hi => by rw [A2]; exact wr.2.1 i hi, by rw [A2]; exact wr.2.2⟩
    have := tor m m0 m1 hm
    unfold orR oR at this ⊢
    rw [A2]; exact this
end H140
