/-! the classes of the second slot in the reference -/
noncomputable def nO (P : Pg) (r : Rs) (XX : Int → Sx) (m : Int) : Int := bif dB (kM P r XX m) then nM P r XX m - nB (kM P r XX) (P 3007 (P 3011 m)) else -1
/-- as far as the class c is written -/
def wrR (σ : j3_S) (P : Pg) (r : Rs) (XX : Int → Sx) (NL : Int → Int) (c mm : Int) : Prop := (∀ c', 0 ≤ c' → c' < c → kC P r XX c' → spC P r XX (PgR σ) c' ∧ ∀ f, 0 ≤ f → f < P 3005 c' → kFc P r XX c' f → spF P r XX (PgR σ) c' f) ∧ ∀ m, 0 ≤ m → m < mm → kM P r XX m → spM P r XX NL (PgR σ) m ∧ spK0 P r XX σ m
def nbR (σ : j3_S) (P : Pg) (r : Rs) (XX : Int → Sx) (c mm : Int) : Prop := (∀ c' f, 0 ≤ c' → c' < c → 0 ≤ f → f < P 3005 c' → σ.2.2 10070 121 (c' * 6 + f) = nF P r XX c' f) ∧ ∀ m, 0 ≤ m → m < mm → σ.2.2 10071 121 m = nO P r XX m
section RCLASS
variable {σ σ' σ'' σ0 : j3_S} {P : Pg} {r : Rs} {XX : Int → Sx} {NL : Int → Int} {d : Nat} {x c m i w k n v cB mB cB' mB' : Int} {Q : j3_P}
theorem spM.mvR (h : spM P r XX NL (PgR σ) m) (p3 : P 3015 m ≤ 3) (n0 : 0 ≤ nM P r XX m) (hf : nuF cB mB σ σ') (hlt : nM P r XX m < mB) : spM P r XX NL (PgR σ') m := by
  obtain ⟨⟨a1, a2, a3, a4⟩, a5, a6⟩ := h
  have k : ∀ e z, 10019 ≤ e → e ≤ 10026 → ¬ e = 10024 → z < 80 + mB → σ'.2.2 e 121 z = σ.2.2 e 121 z := fun e z e0 e1 e2 hz => hf.2 e z (by omega) (by omega) (Or.inl (by unfold lbd; rw [if_neg (by omega), if_neg (by omega), if_neg (by omega), if_neg e2, if_pos e1]; exact hz))
  refine ⟨⟨?_, ?_, ?_, ?_⟩, fun p p0 p1 => ?_, ?_⟩
  · rw [← a1]; exact k 10019 _ (by omega) (by omega) (by omega) (by omega)
  · rw [← a2]; exact k 10021 _ (by omega) (by omega) (by omega) (by omega)
  · rw [← a3]; exact k 10022 _ (by omega) (by omega) (by omega) (by omega)
  · rw [← a4]; exact k 10023 _ (by omega) (by omega) (by omega) (by omega)
  · rw [← a5 p p0 p1]
    exact hf.2 10024 _ (by omega) (by omega) (Or.inl (by show _ < 240 + 3 * mB; omega))
  · rw [← a6]; exact k 10025 _ (by omega) (by omega) (by omega) (by omega)
theorem spK0.mvR (h : spK0 P r XX σ m) (hl : lnK r XX m ≤ 120) (hf : nuF cB mB σ σ') (hlt : nM P r XX m < mB) : spK0 P r XX σ' m := by
  obtain ⟨a1, a2⟩ := h
  have k : ∀ e z, 10027 ≤ e → e ≤ 10032 → z < 9600 + 120 * mB → σ'.2.2 e 121 z = σ.2.2 e 121 z := fun e z e0 e1 hz => hf.2 e z (by omega) (by omega) (Or.inl (by unfold lbd; rw [if_neg (by omega), if_neg (by omega), if_neg (by omega), if_neg (by omega), if_neg (by omega)]; exact hz))
  refine ⟨by rw [hf.2 10026 _ (by omega) (by omega) (Or.inl (by show _ < 80 + mB; omega))]; exact a1, fun i i0 i1 => ?_⟩
  have := a2 i i0 i1
  unfold rwR oR at this ⊢
  rw [k 10027 _ (by omega) (by omega) (by omega), k 10028 _ (by omega) (by omega) (by omega), k 10029 _ (by omega) (by omega) (by omega), k 10030 _ (by omega) (by omega) (by omega), k 10031 _ (by omega) (by omega) (by omega), k 10032 _ (by omega) (by omega) (by omega)]
  exact this
theorem spC.mvR (h : spC P r XX (PgR σ) c) (hf : nuF cB mB σ σ') (hlt : nC P r XX c < cB) : spC P r XX (PgR σ') c := by
  have k : ∀ e z, 10010 ≤ e → e ≤ 10014 → z < 10 + cB → σ'.2.2 e 121 z = σ.2.2 e 121 z := fun e z e0 e1 hz => hf.2 e z (by omega) (by omega) (Or.inl (by unfold lbd; rw [if_neg (by omega), if_pos (by omega)]; exact hz))
  obtain ⟨⟨a1, a2⟩, a3, a4, a5⟩ := h
  refine ⟨⟨?_, ?_⟩, ?_, ?_, ?_⟩
  · rw [← a1]; exact k 10010 _ (by omega) (by omega) (by omega)
  · rw [← a2]; exact k 10011 _ (by omega) (by omega) (by omega)
  · rw [← a3]; exact k 10012 _ (by omega) (by omega) (by omega)
  · rw [← a4]; exact k 10014 _ (by omega) (by omega) (by omega)
  · rw [← a5]; exact k 10013 _ (by omega) (by omega) (by omega)
theorem spF.mvR (h : spF P r XX (PgR σ) c i) (hf : nuF cB mB σ σ') (hlt : nC P r XX c < cB) (hi : nF P r XX c i ≤ 5) : spF P r XX (PgR σ') c i := by
  have k : ∀ e z, 10015 ≤ e → e ≤ 10017 → z < 60 + 6 * cB → σ'.2.2 e 121 z = σ.2.2 e 121 z := fun e z e0 e1 hz => hf.2 e z (by omega) (by omega) (Or.inl (by unfold lbd; rw [if_neg (by omega), if_neg (by omega), if_pos (by omega)]; exact hz))
  obtain ⟨a1, a2, a3⟩ := h
  refine ⟨?_, ?_, ?_⟩
  · rw [← a1]; exact k 10015 _ (by omega) (by omega) (by omega)
  · rw [← a2]; exact k 10016 _ (by omega) (by omega) (by omega)
  · rw [← a3]; exact k 10017 _ (by omega) (by omega) (by omega)
theorem wrR.keep (hg : good P) (hxx : xxR P r XX NL) (h : wrR σ P r XX NL c x) (hc : c ≤ P 3000 0) (hx : x ≤ P 3001 0) (hf : nuF cB mB σ σ') (h1 : nB (kC P r XX) c ≤ cB) (h2 : nB (kM P r XX) x ≤ mB) : wrR σ' P r XX NL c x := by
  refine ⟨fun c' c0 c1 hk => ?_, fun m m0 m1 hk => ?_⟩
  · obtain ⟨a1, a2⟩ := h.1 c' c0 c1 hk
    have nb := nw_b (n := c) c0 c1 hk
    have en : nC P r XX c' = nwN (kC P r XX) c' := rfl
    refine ⟨a1.mvR hf (by omega), fun f f0 f1 q => (a2 f f0 f1 q).mvR hf (by omega) ?_⟩
    have hff := hg.1.2.2.1 c' c0 (by omega)
    have nf := nw_b (n := P 3005 c') f0 f1 q
    have enf : nF P r XX c' f = nwN (kFc P r XX c') f := rfl
    omega
  · obtain ⟨a1, a2⟩ := h.2 m m0 m1 hk
    have nb := nw_b (n := x) m0 m1 hk
    have en : nM P r XX m = nwN (kM P r XX) m := rfl
    have p3 := (hg.1.2.2.2 m m0 (by omega)).2.2.2.1.2.1
    exact ⟨a1.mvR p3 (by omega) hf (by omega), a2.mvR (lnK_b hxx m0 (by omega)).2 hf (by omega)⟩
theorem exG.nu (h : exG 10072 121 1 0 P r XX σ) (hf : frm [] nuA σ σ') : exG 10072 121 1 0 P r XX σ' := by
  unfold exG at h ⊢
  rw [hf.2.2 (10072 + 0) _ rfl, hf.2.2 (10072 + 1) _ rfl, hf.2.2 (10072 + 2) _ rfl]
  exact h
theorem l217a (hg : good P) (hxx : xxR P r XX NL) (hB0 : kbR σ0 P r XX NL) (hx0 : exG 10072 121 1 0 P r XX σ0) : ∀ (n : Nat) (c : Int) (σ : j3_S), c + n = P 3000 0 → 0 ≤ c → nuF 0 0 σ0 σ → frm [] [10009, 10018, 10069] σ0 σ → (σ.2.2 10018 121 1 = 0) → σ.2.2 10009 121 1 = nB (kC P r XX) c → (∀ c', 0 ≤ c' → c' < c → σ.2.2 10069 121 c' = nC P r XX c') → (∀ σ', nuF 0 0 σ0 σ' → frm [] [10009, 10018, 10069] σ0 σ' → (σ'.2.2 10018 121 1 = 0) → σ'.2.2 10009 121 1 = nB (kC P r XX) (P 3000 0) → (∀ c', 0 ≤ c' → c' < P 3000 0 → σ'.2.2 10069 121 c' = nC P r XX c') → T217 d Q 52 [wO 10 121, wI 0, wM 2, wM 2, wM 2, wM 2, wM 2] [] σ') → T217 d Q 12 [wO 10 121, wI c, wM 2, wM 2, wM 2, wM 2, wM 2] [] σ
  | 0, c, σ, hc, c0, hf, hf2, h18, h9, h69, hQ => by
    have hB := hf.kb hg (by omega) (by omega) hB0 hxx
    have h0 := hB.1.1
    rw [b217_12, h0, if_neg (by omega)]
    rw [show c = P 3000 0 by omega] at h9 h69
    exact ⟨by omega, hQ σ hf hf2 h18 h9 h69⟩
  | n + 1, c, σ, hc, c0, hf, hf2, h18, h9, h69, hQ => by
    have hB := hf.kb hg (by omega) (by omega) hB0 hxx
    have hx := hx0.nu hf.1
    have hc10 := hg.1.1.2.1
    have h0 := hB.1.1
    have nb := nB_le (q := kC P r XX) c0
    have nb0 := nB_p (q := kC P r XX) (x := c)
    rw [b217_12, h0, if_pos (by omega)]
    refine ⟨by omega, by omega, ?_⟩
    have fin : ∀ (v y : Int), v = nC P r XX c → nB (kC P r XX) c + y = nB (kC P r XX) (c + 1) → (y = 0 ∨ y = 1) → T217 d Q 46 [wO 10 121, wI c, wM 2, wM 2, wM 2, wM 2, wM 2] [wI y, wI (nB (kC P r XX) c), wI 1, wA 10009 121] (σ.1, σ.2.1, j3_ast σ.2.2 10069 121 c v) := by
      intro v y hv hy hy2
      rw [b217_46, wr_id (by omega) (by omega), wr_id (by omega) (by omega), hy]
      refine ⟨by omega, ?_⟩
      generalize hσ1 : (((σ.1, σ.2.1, j3_ast σ.2.2 10069 121 c v) : j3_S).1, ((σ.1, σ.2.1, j3_ast σ.2.2 10069 121 c v) : j3_S).2.1, j3_ast ((σ.1, σ.2.1, j3_ast σ.2.2 10069 121 c v) : j3_S).2.2 10009 121 1 (nB (kC P r XX) (c + 1))) = σ1
      have f1 : nuF 0 0 σ σ1 := by
        rw [← hσ1]
        have b1 : nuF 0 0 σ (σ.1, σ.2.1, j3_ast σ.2.2 10069 121 c v) := nuF.ast rfl (Or.inl (by omega))
        have b2 := nuF.ast (σ := (σ.1, σ.2.1, j3_ast σ.2.2 10069 121 c v)) (cB := 0) (mB := 0) (e := 10009) (z := 1) (v := nB (kC P r XX) (c + 1)) rfl (Or.inr ⟨by show (1 : Int) ≤ 1; omega, by show (1 : Int) < 2 * 1; omega⟩)
        exact b1.tr b2 (by omega) (by omega)
      have F1 : frm [] [10009, 10018, 10069] σ σ1 := by rw [← hσ1]; exact frm.A rfl (frm.A rfl frm.rf)
      have a69 : σ1.2.2 10069 121 = i_up (σ.2.2 10069 121) c v := by
        rw [← hσ1]; simp only [j3_ast]; rw [up_e rfl, up_r]
      have a9 : σ1.2.2 10009 121 1 = nB (kC P r XX) (c + 1) := by
        rw [← hσ1]; simp only [j3_ast]; rw [up_r, iu_r]
      have a18 : σ1.2.2 10018 121 = σ.2.2 10018 121 := by
        rw [← hσ1]; simp only [j3_ast]; rw [up_e rfl, up_e rfl]
      refine l217a hg hxx hB0 hx0 n (c + 1) σ1 (by omega) (by omega) (hf.tr f1 (by omega) (by omega)) (hf2.tr F1) (by rw [a18]; exact h18) a9 (fun c' c0' c1' => ?_) hQ
      rw [a69]
      by_cases e : c' = c
      · rw [e, iu_r, hv]
      · rw [iu_n e]; exact h69 c' c0' (by omega)
    rcases hx.1 c c0 (by omega) with ⟨g1, g2⟩ | ⟨g1, g2⟩
    · have g2' : σ.2.2 10072 121 c = 1 := g2
      rw [g2', if_neg (by omega), b217_32, g2', if_neg (by omega), h9]
      exact ⟨by omega, by omega, by omega, by omega, fin _ 1 (nw_k g1).symm (nB_k c0 g1).symm (Or.inr rfl)⟩
    · have g2' : σ.2.2 10072 121 c = 0 := g2
      rw [g2', if_pos rfl, b217_32, g2', if_pos rfl, h9]
      exact ⟨by omega, by omega, by omega, fin _ 0 (nw_n g1).symm (by rw [nB_n c0 g1]; omega) (Or.inl rfl)⟩
/-- the fields of a class -/
theorem l217f (hg : good P) (hxx : xxR P r XX NL) (hB0 : kbR σ0 P r XX NL) (hx0 : exG 10072 121 1 0 P r XX σ0) (h69 : ∀ c, 0 ≤ c → c < P 3000 0 → σ0.2.2 10069 121 c = nC P r XX c) (c0 : 0 ≤ c) (c1 : c < P 3000 0) {x2 x4 : Int} : ∀ (n : Nat) (f : Int) (w6 : j3_W) (σ : j3_S), f + n = P 3005 c → 0 ≤ f → nuF (nB (kC P r XX) c) 80 σ0 σ → frm [] [10015, 10016, 10017, 10070] σ0 σ → (∀ z, z < c * 6 ∨ c * 6 + 6 ≤ z → σ.2.2 10070 121 z = σ0.2.2 10070 121 z) → (∀ f', 0 ≤ f' → f' < f → σ.2.2 10070 121 (c * 6 + f') = nF P r XX c f' ∧ (kFc P r XX c f' → spF P r XX (PgR σ) c f')) → (∀ σ' w6, nuF (nB (kC P r XX) c) 80 σ0 σ' → frm [] [10015, 10016, 10017, 10070] σ0 σ' → (∀ z, z < c * 6 ∨ c * 6 + 6 ≤ z → σ'.2.2 10070 121 z = σ0.2.2 10070 121 z) → (∀ f', 0 ≤ f' → f' < P 3005 c → σ'.2.2 10070 121 (c * 6 + f') = nF P r XX c f' ∧ (kFc P r XX c f' → spF P r XX (PgR σ') c f')) → T217 (d + 1) Q 156 [wO 10 121, wI c, wI x2, wI (nB (kFc P r XX c) (P 3005 c)), wI x4, wI 0, w6] [] σ') → T217 (d + 1) Q 71 [wO 10 121, wI c, wI x2, wI (nB (kFc P r XX c) f), wI x4, wI f, w6] [] σ
  | 0, f, w6, σ, hf', f0, hf, hf2, hz, hs, hQ => by
    have hB := hf.kb hg nB_p (by omega) hB0 hxx
    have hc10 := hg.1.1.2.1
    rw [b217_71, (RP0_c hB.1 c0 c1).1.2.2.1, if_neg (by omega)]
    rw [show f = P 3005 c by omega] at hs ⊢
    exact ⟨by omega, hQ σ w6 hf hf2 hz hs⟩
  | n + 1, f, w6, σ, hf', f0, hf, hf2, hz, hs, hQ => by
    have hB := hf.kb hg nB_p (by omega) hB0 hxx
    have hx := hx0.nu hf.1
    have hc10 := hg.1.1.2.1
    have hff := hg.1.2.2.1 c c0 c1
    have tp := hff.2.2 f f0 (by omega)
    have nb := nB_le (q := kFc P r XX c) f0
    have nb0 := nB_p (q := kFc P r XX c) (x := f)
    obtain ⟨r1, r2⟩ := RP0_c hB.1 c0 c1
    obtain ⟨-, r16, r17⟩ := r2 f f0 (by omega)
    rw [b217_71, r1.2.2.1, if_pos (by omega)]
    simp (disch := omega) only [wr_id]
    refine ⟨by omega, by omega, ?_⟩
    rcases hx.2.1 c f c0 c1 f0 (by omega) with ⟨g1, g2⟩ | ⟨g1, g2⟩
    · have g2' : σ.2.2 10073 121 (6 * c + f) = 1 := by rw [show 6 * c + f = c * 6 + f by omega]; exact g2
      have gk : kFc P r XX c f := g1
      have kc := kC_cl.2.2.1 c f c0 c1 f0 (by omega) g1
      have enf : nF P r XX c f = nB (kFc P r XX c) f := nw_k gk
      have ncb := nw_b (n := P 3000 0) c0 c1 kc.1
      have enc : nC P r XX c = nwN (kC P r XX) c := rfl
      have enB : nC P r XX c = nB (kC P r XX) c := nw_k kc.1
      have nlc := nB_le (q := kC P r XX) (x := P 3000 0) (by omega)
      rw [g2', if_neg (by omega), b217_96]
      simp (disch := omega) only [wr_id]
      rw [g2', if_neg (by omega), hf2.2.2 10069 _ rfl, h69 c c0 c1]
      simp (disch := omega) only [wr_id]
      rw [r16]
      refine ⟨by omega, by omega, by omega, by omega, by omega, ?_⟩
      generalize hσ1 : ((σ.1, σ.2.1, j3_ast (j3_ast σ.2.2 10070 121 (6 * c + f) (nB (kFc P r XX c) f)) 10015 121 (60 + 6 * nC P r XX c + nB (kFc P r XX c) f) (nB (kFc P r XX c) f + 1)) : j3_S) = σ1
      have f1 : nuF (nB (kC P r XX) c) 80 σ σ1 := by
        rw [← hσ1]
        have b1 : nuF (nB (kC P r XX) c) 80 σ (σ.1, σ.2.1, j3_ast σ.2.2 10070 121 (6 * c + f) (nB (kFc P r XX c) f)) := nuF.ast rfl (Or.inl (by omega))
        have b2 := nuF.ast (σ := (σ.1, σ.2.1, j3_ast σ.2.2 10070 121 (6 * c + f) (nB (kFc P r XX c) f))) (cB := nB (kC P r XX) c) (mB := 80) (e := 10015) (z := 60 + 6 * nC P r XX c + nB (kFc P r XX c) f) (v := nB (kFc P r XX c) f + 1) rfl (Or.inr ⟨by show 60 + 6 * nB (kC P r XX) c ≤ _; omega, by show _ < 2 * 60; omega⟩)
        exact b1.tr b2 (by omega) (by omega)
      have F1 : frm [] [10015, 10016, 10017, 10070] σ σ1 := by rw [← hσ1]; exact frm.A rfl (frm.A rfl frm.rf)
      have a70 : σ1.2.2 10070 121 = i_up (σ.2.2 10070 121) (6 * c + f) (nB (kFc P r XX c) f) := by
        rw [← hσ1]; simp only [j3_ast]; rw [up_e rfl, up_r]
      have a15 : σ1.2.2 10015 121 = i_up (σ.2.2 10015 121) (60 + 6 * nC P r XX c + nB (kFc P r XX c) f) (nB (kFc P r XX c) f + 1) := by
        rw [← hσ1]; simp only [j3_ast]; rw [up_r, up_e rfl]
      have a16 : σ1.2.2 10016 121 = σ.2.2 10016 121 := by
        rw [← hσ1]; simp only [j3_ast]; rw [up_e rfl, up_e rfl]
      have a17 : σ1.2.2 10017 121 = σ.2.2 10017 121 := by
        rw [← hσ1]; simp only [j3_ast]; rw [up_e rfl, up_e rfl]
      rw [s216 hg (fun c c0 c1 => by rw [F1.2.2 10069 _ rfl, hf2.2.2 10069 _ rfl]; exact h69 c c0 c1) tp.1 tp.2.1 kc.2]
      simp only [Option.toList_some, List.cons_append, List.nil_append]
      rw [b217_138]
      simp (disch := omega) only [wr_id]
      rw [a17, r17, b217_152, wr_id (by omega) (by omega)]
      refine ⟨by omega, by omega, by omega, ?_⟩
      generalize hσ2 : ((σ1.1, σ1.2.1, j3_ast (j3_ast σ1.2.2 10016 121 (60 + 6 * nC P r XX c + nB (kFc P r XX c) f) (tN P r XX (P 3009 (c * 6 + f)))) 10017 121 (60 + 6 * nC P r XX c + nB (kFc P r XX c) f) (P 3010 (c * 6 + f))) : j3_S) = σ2
      have f2 : nuF (nB (kC P r XX) c) 80 σ1 σ2 := by
        rw [← hσ2]
        have b1 : nuF (nB (kC P r XX) c) 80 σ1 (σ1.1, σ1.2.1, j3_ast σ1.2.2 10016 121 (60 + 6 * nC P r XX c + nB (kFc P r XX c) f) (tN P r XX (P 3009 (c * 6 + f)))) := nuF.ast rfl (Or.inr ⟨by show 60 + 6 * nB (kC P r XX) c ≤ _; omega, by show _ < 2 * 60; omega⟩)
        have b2 := nuF.ast (σ := (σ1.1, σ1.2.1, j3_ast σ1.2.2 10016 121 (60 + 6 * nC P r XX c + nB (kFc P r XX c) f) (tN P r XX (P 3009 (c * 6 + f))))) (cB := nB (kC P r XX) c) (mB := 80) (e := 10017) (z := 60 + 6 * nC P r XX c + nB (kFc P r XX c) f) (v := P 3010 (c * 6 + f)) rfl (Or.inr ⟨by show 60 + 6 * nB (kC P r XX) c ≤ _; omega, by show _ < 2 * 60; omega⟩)
        exact b1.tr b2 (by omega) (by omega)
      have F2 : frm [] [10015, 10016, 10017, 10070] σ1 σ2 := by rw [← hσ2]; exact frm.A rfl (frm.A rfl frm.rf)
      have c70 : σ2.2.2 10070 121 = i_up (σ.2.2 10070 121) (6 * c + f) (nB (kFc P r XX c) f) := by
        rw [← a70, ← hσ2]; simp only [j3_ast]; rw [up_e rfl, up_e rfl]
      have c15 : σ2.2.2 10015 121 = i_up (σ.2.2 10015 121) (60 + 6 * nC P r XX c + nB (kFc P r XX c) f) (nB (kFc P r XX c) f + 1) := by
        rw [← a15, ← hσ2]; simp only [j3_ast]; rw [up_e rfl, up_e rfl]
      have c16 : σ2.2.2 10016 121 = i_up (σ.2.2 10016 121) (60 + 6 * nC P r XX c + nB (kFc P r XX c) f) (tN P r XX (P 3009 (c * 6 + f))) := by
        rw [← a16, ← hσ2]; simp only [j3_ast]; rw [up_e rfl, up_r]
      have c17 : σ2.2.2 10017 121 = i_up (σ.2.2 10017 121) (60 + 6 * nC P r XX c + nB (kFc P r XX c) f) (P 3010 (c * 6 + f)) := by
        rw [← a17, ← hσ2]; simp only [j3_ast]; rw [up_r, up_e rfl]
      rw [← nB_k f0 gk]
      refine l217f hg hxx hB0 hx0 h69 c0 c1 n (f + 1) _ σ2 (by omega) (by omega) ((hf.tr f1 (by omega) (by omega)).tr f2 (by omega) (by omega)) ((hf2.tr F1).tr F2) (fun z q => by rw [c70, iu_n (by omega)]; exact hz z q) (fun f' f0' f1' => ?_) hQ
      by_cases e : f' = f
      · rw [e]
        refine ⟨by rw [c70, show c * 6 + f = 6 * c + f by omega, iu_r, enf], fun _ => ⟨?_, ?_, ?_⟩⟩
        · show σ2.2.2 10015 121 (60 + (nC P r XX c * 6 + nF P r XX c f)) = _
          rw [enf, c15, show 60 + (nC P r XX c * 6 + nB (kFc P r XX c) f) = 60 + 6 * nC P r XX c + nB (kFc P r XX c) f by omega, iu_r]
        · show σ2.2.2 10016 121 (60 + (nC P r XX c * 6 + nF P r XX c f)) = _
          rw [enf, c16, show 60 + (nC P r XX c * 6 + nB (kFc P r XX c) f) = 60 + 6 * nC P r XX c + nB (kFc P r XX c) f by omega, iu_r]
        · show σ2.2.2 10017 121 (60 + (nC P r XX c * 6 + nF P r XX c f)) = _
          rw [enf, c17, show 60 + (nC P r XX c * 6 + nB (kFc P r XX c) f) = 60 + 6 * nC P r XX c + nB (kFc P r XX c) f by omega, iu_r]
      · obtain ⟨s1, s2⟩ := hs f' f0' (by omega)
        refine ⟨by rw [c70, iu_n (by omega)]; exact s1, fun q => ?_⟩
        have enf' : nF P r XX c f' = nB (kFc P r XX c) f' := nw_k q
        have := nB_lt (q := kFc P r XX c) f0' (show f' < f by omega) q
        have nz : ¬ 60 + (nC P r XX c * 6 + nF P r XX c f') = 60 + 6 * nC P r XX c + nB (kFc P r XX c) f := by omega
        obtain ⟨u1, u2, u3⟩ := s2 q
        refine ⟨?_, ?_, ?_⟩
        · show σ2.2.2 10015 121 (60 + (nC P r XX c * 6 + nF P r XX c f')) = _
          rw [c15, iu_n nz]; exact u1
        · show σ2.2.2 10016 121 (60 + (nC P r XX c * 6 + nF P r XX c f')) = _
          rw [c16, iu_n nz]; exact u2
        · show σ2.2.2 10017 121 (60 + (nC P r XX c * 6 + nF P r XX c f')) = _
          rw [c17, iu_n nz]; exact u3
    · have g2' : σ.2.2 10073 121 (6 * c + f) = 0 := by rw [show 6 * c + f = c * 6 + f by omega]; exact g2
      have gk : ¬ kFc P r XX c f := g1
      have enf : nF P r XX c f = -1 := nw_n gk
      rw [g2', if_pos rfl, b217_96]
      simp (disch := omega) only [wr_id]
      rw [g2', if_pos rfl, b217_152, wr_id (by omega) (by omega), ← nB_n f0 gk]
      refine ⟨by omega, by omega, ?_⟩
      generalize hσ1 : ((σ.1, σ.2.1, j3_ast σ.2.2 10070 121 (6 * c + f) (-1)) : j3_S) = σ1
      have f1 : nuF (nB (kC P r XX) c) 80 σ σ1 := by rw [← hσ1]; exact nuF.ast rfl (Or.inl (by omega))
      have F1 : frm [] [10070] σ σ1 := by rw [← hσ1]; exact frm.A rfl frm.rf
      have a70 : σ1.2.2 10070 121 = i_up (σ.2.2 10070 121) (6 * c + f) (-1) := by
        rw [← hσ1]; simp only [j3_ast]; rw [up_r]
      refine l217f hg hxx hB0 hx0 h69 c0 c1 n (f + 1) _ σ1 (by omega) (by omega) (hf.tr f1 (by omega) (by omega)) (hf2.tr (F1.wd (fun _ h => h) (sub_el rfl))) (fun z q => by rw [a70, iu_n (by omega)]; exact hz z q) (fun f' f0' f1' => ?_) hQ
      by_cases e : f' = f
      · rw [e]
        exact ⟨by rw [a70, show c * 6 + f = 6 * c + f by omega, iu_r, enf], fun q => absurd q gk⟩
      · obtain ⟨s1, s2⟩ := hs f' f0' (by omega)
        refine ⟨by rw [a70, iu_n (by omega)]; exact s1, fun q => ?_⟩
        obtain ⟨u1, u2, u3⟩ := s2 q
        refine ⟨?_, ?_, ?_⟩
        · show σ1.2.2 10015 121 (60 + (nC P r XX c * 6 + nF P r XX c f')) = _
          rw [F1.2.2 10015 _ rfl]; exact u1
        · show σ1.2.2 10016 121 (60 + (nC P r XX c * 6 + nF P r XX c f')) = _
          rw [F1.2.2 10016 _ rfl]; exact u2
        · show σ1.2.2 10017 121 (60 + (nC P r XX c * 6 + nF P r XX c f')) = _
          rw [F1.2.2 10017 _ rfl]; exact u3
end RCLASS
