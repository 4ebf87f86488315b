/-! what is kept, in the reference: the whole -/
section RKEEP2
variable {σ σ' σ'' σ0 : j3_S} {P : Pg} {r : Rs} {XX : Int → Sx} {NL : Int → Int} {d : Nat} {x c m i w : Int} {Q : j3_P}
theorem l215c (hg : good P) (hxx : xxR P r XX NL) (hB0 : kbR σ0 P r XX NL) : ∀ (n : Nat) (k : Int) (w2 w3 w4 : j3_W) (σ : j3_S), k + n = P 3001 0 → 0 ≤ k → rk P r XX σ0 σ → (∀ m, 0 ≤ m → m < k → r.1 m = 1 → tdG 10072 121 1 P XX σ m (XX m).n) → (∀ σ' w2 w3 w4, rk P r XX σ0 σ' → grG 10072 121 1 σ σ' → (∀ m, 0 ≤ m → m < P 3001 0 → r.1 m = 1 → tdG 10072 121 1 P XX σ' m (XX m).n) → T215 (d + 2) Q 148 [wO 10 121, wI 0, w2, w3, w4] [] σ') → T215 (d + 2) Q 59 [wO 10 121, wI k, w2, w3, w4] [] σ
  | 0, k, w2, w3, w4, σ, hk, k0, h, ht, hQ => by
    have hB := hB0.mk h.1
    rw [b215_59, hB.1.2.1, if_neg (by omega)]
    rw [show k = P 3001 0 by omega] at ht
    exact ⟨by omega, hQ σ w2 w3 w4 h grG.rf ht⟩
  | n + 1, k, w2, w3, w4, σ, hk, k0, h, ht, hQ => by
    have hB := hB0.mk h.1
    have h80 := hg.1.2.1.2.1
    rw [b215_59, hB.1.2.1, if_pos (by omega)]
    refine ⟨by omega, ?_⟩
    by_cases g : r.1 k = 0
    · rw [b215_67, hB.2.2.1 k k0 (by omega), if_pos g, b215_144, wr_id (by omega) (by omega)]
      refine ⟨by omega, ?_⟩
      refine l215c hg hxx hB0 n (k + 1) _ _ _ σ (by omega) (by omega) h (fun m m0 m1 q => ?_) hQ
      by_cases e : m = k
      · subst e; omega
      · exact ht m m0 (by omega) q
    · have g1 : r.1 k = 1 := by
        rcases hxx.1.1 k with q | q
        · exact absurd q g
        · exact q
      have ok := (hxx.2 k k0 (by omega) g1).1.1
      refine l215b (d := d) hg hxx hB0 k0 (by omega) g1 (XX k).n.toNat 0 _ _ σ (by omega) (by omega) h (fun i i0 i1 => by omega) (fun σ1 w2 w3 w4 r1 g1' t1 => ?_)
      rw [b215_144, wr_id (by omega) (by omega)]
      refine l215c hg hxx hB0 n (k + 1) _ _ _ σ1 (by omega) (by omega) r1 (fun m m0 m1 q => ?_) (fun σ2 w2 w3 w4 r2 g2 t2 => hQ σ2 w2 w3 w4 r2 (g1'.tr g2) t2)
      by_cases e : m = k
      · subst e; exact t1
      · exact (ht m m0 (by omega) q).gr (r := r) (fun j j0 j1 => xx_W hxx m0 (by omega) q j0 j1) hg.1 g1'
/-- the fields of the class c -/
def fiG (P : Pg) (σ : j3_S) (c n : Int) : Prop := ∀ f, 0 ≤ f → f < n → σ.2.2 (10072 + 1) 121 (c * 6 + f) = 1 → σ.2.2 (10072 + 0) 121 c = 1 ∧ (0 < P 3009 (c * 6 + f) → σ.2.2 (10072 + 0) 121 (P 3009 (c * 6 + f) - 1) = 1)
theorem fiG.gr {n : Int} (hW : WFp P) (c0 : 0 ≤ c) (c1 : c < P 3000 0) (hn : n ≤ P 3005 c) (h : fiG P σ c n) (hf : frm [] [10072] σ σ') (hg : grG 10072 121 1 σ σ') : fiG P σ' c n := by
  have hc := hW.1.2.1
  have hff := hW.2.2.1 c c0 c1
  intro f f0 f1 q
  have e1 : σ'.2.2 (10072 + 1) 121 = σ.2.2 (10072 + 1) 121 := hf.2.2 10073 121 rfl
  rw [e1] at q
  obtain ⟨a1, a2⟩ := h f f0 f1 q
  have := hff.2.2 f f0 (by omega)
  exact ⟨hg 0 (by omega) c c0 (by show c < 10; omega) a1, fun z => hg 0 (by omega) _ (by omega) (by show P 3009 (c * 6 + f) - 1 < 10; omega) (a2 z)⟩
theorem l215d (hg : good P) (hB0 : kbR σ0 P r XX NL) (c0 : 0 ≤ c) (c1 : c < P 3000 0) : ∀ (n : Nat) (f : Int) (w3 w4 : j3_W) (σ : j3_S), f + n = P 3005 c → 0 ≤ f → rk P r XX σ0 σ → fiG P σ c f → (∀ σ' w2 w3 w4, rk P r XX σ0 σ' → frm [] [10072] σ σ' → grG 10072 121 1 σ σ' → fiG P σ' c (P 3005 c) → T215 (d + 2) Q 148 [wO 10 121, wI (c + 1), w2, w3, w4] [] σ') → T215 (d + 2) Q 156 [wO 10 121, wI c, wI f, w3, w4] [] σ
  | 0, f, w3, w4, σ, hf', f0, h, hfi, hQ => by
    have hB := hB0.mk h.1
    have hc10 := hg.1.1.2.1
    have e12 := (hB.1.2.2.1 c c0 c1).1.2.2.1
    rw [show 10 * 0 + c = c by omega] at e12
    rw [b215_156, e12, if_neg (by omega), wr_id (by omega) (by omega)]
    rw [show f = P 3005 c by omega] at hfi ⊢
    exact ⟨by omega, hQ σ _ w3 w4 h frm.rf grG.rf hfi⟩
  | n + 1, f, w3, w4, σ, hf', f0, h, hfi, hQ => by
    have hB := hB0.mk h.1
    have hc10 := hg.1.1.2.1
    have hff := hg.1.2.2.1 c c0 c1
    have tp := hff.2.2 f f0 (by omega)
    have e12 := (hB.1.2.2.1 c c0 c1).1.2.2.1
    rw [show 10 * 0 + c = c by omega] at e12
    rw [b215_156, e12, if_pos (by omega)]
    simp (disch := omega) only [wr_id]
    refine ⟨by omega, by omega, ?_⟩
    rw [show 6 * c + f = c * 6 + f by omega]
    by_cases g : σ.2.2 10073 121 (c * 6 + f) = 0
    · rw [if_pos g, b215_184, wr_id (by omega) (by omega)]
      refine l215d hg hB0 c0 c1 n (f + 1) _ _ σ (by omega) (by omega) h (fun f' f0' f1' q => ?_) hQ
      by_cases e : f' = f
      · rw [e] at q
        have q' : σ.2.2 10073 121 (c * 6 + f) = 1 := q
        omega
      · exact hfi f' f0' (by omega) q
    · have hk : kF P r XX (c * 6 + f) := by
        have := h.2.1 1 (by omega) (c * 6 + f) (by omega) (by show c * 6 + f < 60; omega)
        have q : σ.2.2 (10072 + 1) 121 (c * 6 + f) = 1 := by
          rcases this.1 with q | q
          · exact q
          · exact absurd q g
        exact this.2 q
      obtain ⟨kc1, kc2⟩ := kC_cl.2.2.1 c f c0 c1 f0 (by omega) hk
      rw [if_neg g]
      refine s213 (d := d + 1) hg hB0.1 h c0 c1 kc1 (fun σ1 r1 f1 g1 t1 => ?_)
      simp only [Option.toList_none, List.nil_append]
      have hB1 := hB0.mk r1.1
      have e16 := ((hB1.1.2.2.1 c c0 c1).2 f f0 (by omega)).2.1
      rw [show 60 * 0 + 6 * c + f = 6 * c + f by omega] at e16
      rw [b215_174]
      simp (disch := omega) only [wr_id]
      rw [e16]
      refine ⟨by omega, ?_⟩
      refine s214 (d := d) hg hB0.1 r1 (fun q => ⟨by omega, kc2 q⟩) (fun σ2 r2 f2 g2 t2 => ?_)
      simp only [Option.toList_none, List.nil_append]
      rw [b215_184, wr_id (by omega) (by omega)]
      refine l215d hg hB0 c0 c1 n (f + 1) _ _ σ2 (by omega) (by omega) r2 (fun f' f0' f1' q => ?_) (fun σ3 w2 w3 w4 r3 f3 g3 t3 => hQ σ3 w2 w3 w4 r3 ((f1.tr f2).tr f3) ((g1.tr g2).tr g3) t3)
      by_cases e : f' = f
      · rw [e]; exact ⟨g2 0 (by omega) c c0 (by show c < 10; omega) t1, t2⟩
      · exact (hfi.gr hg.1 c0 c1 (by omega) (f1.tr f2) (g1.tr g2)) f' f0' (by omega) q
theorem l215e (hg : good P) (hB0 : kbR σ0 P r XX NL) : ∀ (n : Nat) (k : Int) (w2 w3 w4 : j3_W) (σ : j3_S), k + n = P 3000 0 → 0 ≤ k → rk P r XX σ0 σ → (∀ c, 0 ≤ c → c < k → fiG P σ c (P 3005 c)) → (∀ σ' w2 w3 w4, rk P r XX σ0 σ' → frm [] [10072] σ σ' → grG 10072 121 1 σ σ' → (∀ c, 0 ≤ c → c < P 3000 0 → fiG P σ' c (P 3005 c)) → T215 (d + 2) Q 190 [wO 10 121, wI 0, w2, w3, w4] [] σ') → T215 (d + 2) Q 148 [wO 10 121, wI k, w2, w3, w4] [] σ
  | 0, k, w2, w3, w4, σ, hk, k0, h, ht, hQ => by
    have hB := hB0.mk h.1
    rw [b215_148, hB.1.1, if_neg (by omega)]
    rw [show k = P 3000 0 by omega] at ht
    exact ⟨by omega, hQ σ w2 w3 w4 h frm.rf grG.rf ht⟩
  | n + 1, k, w2, w3, w4, σ, hk, k0, h, ht, hQ => by
    have hB := hB0.mk h.1
    have hff := hg.1.2.2.1 k k0 (by omega)
    rw [b215_148, hB.1.1, if_pos (by omega)]
    refine ⟨by omega, ?_⟩
    refine l215d (d := d) hg hB0 k0 (by omega) (P 3005 k).toNat 0 _ _ σ (by omega) (by omega) h (fun f f0 f1 => by omega) (fun σ1 w2 w3 w4 r1 f1 g1 t1 => ?_)
    refine l215e hg hB0 n (k + 1) _ _ _ σ1 (by omega) (by omega) r1 (fun c c0 c1 => ?_) (fun σ2 w2 w3 w4 r2 f2 g2 t2 => hQ σ2 w2 w3 w4 r2 (f1.tr f2) (g1.tr g2) t2)
    by_cases e : c = k
    · subst e; exact t1
    · exact (ht c c0 (by omega)).gr hg.1 c0 (by omega) (by omega) f1 g1
theorem l215f (hg : good P) (hB0 : kbR σ0 P r XX NL) (m0 : 0 ≤ m) (m1 : m < P 3001 0) (hm : kM P r XX m) : ∀ (n : Nat) (p : Int) (w3 w4 : j3_W) (σ : j3_S), p + n = P 3015 m → 0 ≤ p → rk P r XX σ0 σ → faG 10072 121 1 P σ m p → (∀ σ' w2 w3 w4, rk P r XX σ0 σ' → frm [] [10072] σ σ' → grG 10072 121 1 σ σ' → faG 10072 121 1 P σ' m (P 3015 m) → T215 (d + 2) Q 236 [wO 10 121, wI m, w2, w3, w4] [] σ') → T215 (d + 2) Q 218 [wO 10 121, wI m, wI p, w3, w4] [] σ
  | 0, p, w3, w4, σ, hp, p0, h, hfa, hQ => by
    have hB := hB0.mk h.1
    have h80 := hg.1.2.1.2.1
    have e23 := (hB.1.2.2.2 m m0 m1).1.2.2.2.2.1
    rw [show 80 * 0 + m = m by omega] at e23
    rw [b215_218, e23, if_neg (by omega)]
    rw [show p = P 3015 m by omega] at hfa
    exact ⟨by omega, hQ σ _ w3 w4 h frm.rf grG.rf hfa⟩
  | n + 1, p, w3, w4, σ, hp, p0, h, hfa, hQ => by
    have hB := hB0.mk h.1
    have h80 := hg.1.2.1.2.1
    have hc10 := hg.1.1.2.1
    have q4 := (hg.1.2.2.2 m m0 m1).2.2.2.1
    have tp := q4.2.2 p p0 (by omega)
    have e23 := (hB.1.2.2.2 m m0 m1).1.2.2.2.2.1
    rw [show 80 * 0 + m = m by omega] at e23
    have e24 := (hB.1.2.2.2 m m0 m1).2.1 p p0 (by omega)
    rw [show 3 * (80 * 0 + m) + p = 3 * m + p by omega] at e24
    rw [b215_218, e23, if_pos (by omega)]
    simp (disch := omega) only [wr_id]
    rw [e24]
    refine ⟨by omega, by omega, ?_⟩
    refine s214 (d := d) hg hB0.1 h (fun g => ⟨by omega, (kC_cl.2.2.2.1 m m0 m1 hm).2.2 p p0 (by omega) g⟩) (fun σ1 r1 f1 g1 t1 => ?_)
    simp only [Option.toList_none, List.nil_append]
    rw [b215_234, wr_id (by omega) (by omega)]
    refine l215f hg hB0 m0 m1 hm n (p + 1) _ _ σ1 (by omega) (by omega) r1 ⟨(hfa.gr hg.1 m0 m1 (by omega) g1).1, fun p' p0' p1' g => ?_⟩ (fun σ2 w2 w3 w4 r2 f2 g2 t2 => hQ σ2 w2 w3 w4 r2 (f1.tr f2) (g1.tr g2) t2)
    by_cases e : p' = p
    · rw [e] at g ⊢; exact t1 g
    · exact (hfa.gr hg.1 m0 m1 (by omega) g1).2 p' p0' (by omega) g
/-- the face of a method that is kept -/
def feG (P : Pg) (σ : j3_S) (m : Int) : Prop := σ.2.2 (10072 + 2) 121 m = 1 → σ.2.2 (10072 + 0) 121 (P 3011 m) = 1 ∧ faG 10072 121 1 P σ m (P 3015 m)
theorem feG.gr (hW : WFp P) (m0 : 0 ≤ m) (m1 : m < P 3001 0) (h : feG P σ m) (hf : frm [] [10072] σ σ') (hg : grG 10072 121 1 σ σ') : feG P σ' m := by
  have hc := hW.1.2.1
  have ow := (hW.2.2.2 m m0 m1).1
  intro q
  have e1 : σ'.2.2 (10072 + 2) 121 = σ.2.2 (10072 + 2) 121 := hf.2.2 10074 121 rfl
  rw [e1] at q
  obtain ⟨a1, a2⟩ := h q
  exact ⟨hg 0 (by omega) _ ow.1 (by show P 3011 m < 10; omega) a1, a2.gr hW m0 m1 (Int.le_refl _) hg⟩
theorem l215g (hg : good P) (hB0 : kbR σ0 P r XX NL) : ∀ (n : Nat) (k : Int) (w2 w3 w4 : j3_W) (σ : j3_S), k + n = P 3001 0 → 0 ≤ k → rk P r XX σ0 σ → (∀ m, 0 ≤ m → m < k → feG P σ m) → (∀ σ', rk P r XX σ0 σ' → frm [] [10072] σ σ' → grG 10072 121 1 σ σ' → (∀ m, 0 ≤ m → m < P 3001 0 → feG P σ' m) → Q none σ') → T215 (d + 2) Q 190 [wO 10 121, wI k, w2, w3, w4] [] σ
  | 0, k, w2, w3, w4, σ, hk, k0, h, ht, hQ => by
    have hB := hB0.mk h.1
    rw [b215_190, hB.1.2.1, if_neg (by omega)]
    rw [show k = P 3001 0 by omega] at ht
    exact ⟨by omega, hQ σ h frm.rf grG.rf ht⟩
  | n + 1, k, w2, w3, w4, σ, hk, k0, h, ht, hQ => by
    have hB := hB0.mk h.1
    have h80 := hg.1.2.1.2.1
    have hc10 := hg.1.1.2.1
    obtain ⟨ow, -, q3, q4, -⟩ := hg.1.2.2.2 k k0 (by omega)
    have e19 := (hB.1.2.2.2 k k0 (by omega)).1.1
    rw [show 80 * 0 + k = k by omega] at e19
    rw [b215_190, hB.1.2.1, if_pos (by omega), e19]
    refine ⟨by omega, by omega, ?_⟩
    by_cases g : σ.2.2 10074 121 k = 0
    · rw [if_pos g, b215_236, wr_id (by omega) (by omega)]
      refine l215g hg hB0 n (k + 1) _ _ _ σ (by omega) (by omega) h (fun m m0 m1 => ?_) hQ
      by_cases e : m = k
      · subst e
        intro q
        have q' : σ.2.2 10074 121 m = 1 := q
        omega
      · exact ht m m0 (by omega)
    · have hk' : kM P r XX k := by
        have := h.2.1 2 (by omega) k k0 (by show k < 80; omega)
        have q : σ.2.2 (10072 + 2) 121 k = 1 := by
          rcases this.1 with q | q
          · exact q
          · exact absurd q g
        exact this.2 q
      have kc := kC_cl.2.2.2.1 k k0 (by omega) hk'
      rw [if_neg g]
      refine ⟨by omega, ?_⟩
      refine s213 (d := d + 1) hg hB0.1 h ow.1 ow.2.1 kc.1 (fun σ1 r1 f1 g1 t1 => ?_)
      simp only [Option.toList_none, List.nil_append]
      have hB1 := hB0.mk r1.1
      have e22 := (hB1.1.2.2.2 k k0 (by omega)).1.2.2.2.1
      rw [show 80 * 0 + k = k by omega] at e22
      rw [b215_208, e22, wr_id (by omega) (by omega)]
      refine ⟨by omega, ?_⟩
      refine s214 (d := d) hg hB0.1 r1 (fun q => ⟨by omega, by rw [show P 3014 k - 1 - 1 = P 3014 k - 2 by omega]; exact kc.2.1 (by omega)⟩) (fun σ2 r2 f2 g2 t2 => ?_)
      simp only [Option.toList_none, List.nil_append]
      rw [b215_216]
      refine l215f (d := d) hg hB0 k0 (by omega) hk' (P 3015 k).toNat 0 _ _ σ2 (by omega) (by omega) r2 ⟨fun q => ?_, fun p p0 p1 => by omega⟩ (fun σ3 w2 w3 w4 r3 f3 g3 t3 => ?_)
      · rw [show P 3014 k - 2 = P 3014 k - 1 - 1 by omega]; exact t2 (by omega)
      · have F := f1.tr (f2.tr f3)
        have G := g1.tr (g2.tr g3)
        rw [b215_236, wr_id (by omega) (by omega)]
        refine l215g hg hB0 n (k + 1) _ _ _ σ3 (by omega) (by omega) r3 (fun m m0 m1 => ?_) (fun σ4 r4 f4 g4 t4 => hQ σ4 r4 (F.tr f4) (G.tr g4) t4)
        by_cases e : m = k
        · subst e
          exact fun _ => ⟨(g2.tr g3) 0 (by omega) _ ow.1 (by show P 3011 m < 10; omega) t1, t3⟩
        · exact (ht m m0 (by omega)).gr hg.1 m0 (by omega) F G
/-- rows are emptied -/
theorem l215i : ∀ (n : Nat) (k : Int) (σ : j3_S), k + n = 10 → 0 ≤ k → frm [] (mkE 10072) σ0 σ → (∀ x, 0 ≤ x → x < k → σ.2.2 10072 121 x = 0) → (∀ σ', frm [] (mkE 10072) σ0 σ' → (∀ x, 0 ≤ x → x < 10 → σ'.2.2 10072 121 x = 0) → T215 d Q 14 [wO 10 121, wI 0, wM 2, wM 2, wM 2] [] σ') → T215 d Q 2 [wO 10 121, wI k, wM 2, wM 2, wM 2] [] σ
  | 0, k, σ, hk, k0, hf, hx, hQ => by
    rw [b215_2, if_neg (by omega)]
    rw [show k = 10 by omega] at hx
    exact hQ σ hf hx
  | n + 1, k, σ, hk, k0, hf, hx, hQ => by
    rw [b215_2, if_pos (by omega), wr_id (by omega) (by omega)]
    refine ⟨by simp, by omega, l215i n (k + 1) _ (by omega) (by omega) (hf.tr (frm.A rfl frm.rf)) (fun x x0 x1 => ?_) hQ⟩
    simp only [j3_ast, up_r]
    by_cases e : x = k
    · rw [e, iu_r]
    · rw [iu_n e]; exact hx x x0 (by omega)
theorem l215j : ∀ (n : Nat) (k : Int) (σ : j3_S), k + n = 60 → 0 ≤ k → frm [] (mkE 10072) σ0 σ → (∀ x, 0 ≤ x → x < 10 → σ.2.2 10072 121 x = 0) → (∀ x, 0 ≤ x → x < k → σ.2.2 10073 121 x = 0) → (∀ σ', frm [] (mkE 10072) σ0 σ' → (∀ x, 0 ≤ x → x < 10 → σ'.2.2 10072 121 x = 0) → (∀ x, 0 ≤ x → x < 60 → σ'.2.2 10073 121 x = 0) → T215 d Q 26 [wO 10 121, wI 0, wM 2, wM 2, wM 2] [] σ') → T215 d Q 14 [wO 10 121, wI k, wM 2, wM 2, wM 2] [] σ
  | 0, k, σ, hk, k0, hf, h0, hx, hQ => by
    rw [b215_14, if_neg (by omega)]
    rw [show k = 60 by omega] at hx
    exact hQ σ hf h0 hx
  | n + 1, k, σ, hk, k0, hf, h0, hx, hQ => by
    rw [b215_14, if_pos (by omega), wr_id (by omega) (by omega)]
    refine ⟨by simp, by omega, l215j n (k + 1) _ (by omega) (by omega) (hf.tr (frm.A rfl frm.rf)) (fun x x0 x1 => ?_) (fun x x0 x1 => ?_) hQ⟩
    · simp only [j3_ast]; rw [up_e rfl]; exact h0 x x0 x1
    · simp only [j3_ast, up_r]
      by_cases e : x = k
      · rw [e, iu_r]
      · rw [iu_n e]; exact hx x x0 (by omega)
theorem l215k (hr : ∀ m, 0 ≤ m → m < 80 → σ0.2.2 10049 121 m = r.1 m) (h01 : ∀ m, r.1 m = 0 ∨ r.1 m = 1) : ∀ (n : Nat) (k : Int) (σ : j3_S), k + n = 80 → 0 ≤ k → frm [] (mkE 10072) σ0 σ → (∀ x, 0 ≤ x → x < 10 → σ.2.2 10072 121 x = 0) → (∀ x, 0 ≤ x → x < 60 → σ.2.2 10073 121 x = 0) → (∀ x, 0 ≤ x → x < k → σ.2.2 10074 121 x = r.1 x) → (∀ σ', frm [] (mkE 10072) σ0 σ' → (∀ x, 0 ≤ x → x < 10 → σ'.2.2 10072 121 x = 0) → (∀ x, 0 ≤ x → x < 60 → σ'.2.2 10073 121 x = 0) → (∀ x, 0 ≤ x → x < 80 → σ'.2.2 10074 121 x = r.1 x) → T215 d Q 41 [wO 10 121, wI 0, wM 2, wM 2, wM 2] [] σ') → T215 d Q 26 [wO 10 121, wI k, wM 2, wM 2, wM 2] [] σ
  | 0, k, σ, hk, k0, hf, h0, h1, hx, hQ => by
    rw [b215_26, if_neg (by omega)]
    rw [show k = 80 by omega] at hx
    exact hQ σ hf h0 h1 hx
  | n + 1, k, σ, hk, k0, hf, h0, h1, hx, hQ => by
    rw [b215_26, if_pos (by omega), wr_id (by omega) (by omega), hf.2.2 10049 121 rfl, hr k k0 (by omega)]
    refine ⟨by omega, h01 k, by omega, l215k hr h01 n (k + 1) _ (by omega) (by omega) (hf.tr (frm.A rfl frm.rf)) (fun x x0 x1 => ?_) (fun x x0 x1 => ?_) (fun x x0 x1 => ?_) hQ⟩
    · simp only [j3_ast]; rw [up_e rfl]; exact h0 x x0 x1
    · simp only [j3_ast]; rw [up_e rfl]; exact h1 x x0 x1
    · simp only [j3_ast, up_r]
      by_cases e : x = k
      · rw [e, iu_r]
      · rw [iu_n e]; exact hx x x0 (by omega)
theorem s215 (hg : good P) (hxx : xxR P r XX NL) (hB : kbR σ P r XX NL) (hQ : ∀ σ', frm [] (mkE 10072) σ σ' → exG 10072 121 1 0 P r XX σ' → Q none σ') : j3_tc true (d + 3) 215 [wO 10 121] σ Q := by
  have hW := hg.1
  have hc10 := hg.1.1.2.1
  have hc1 := hg.1.1.1
  have h80 := hg.1.2.1.2.1
  have hm0 := hg.1.2.1.1
  rw [e215, b215_0]
  refine l215i (σ0 := σ) 10 0 σ (by omega) (by omega) frm.rf (fun x x0 x1 => by omega) (fun σ1 f1 a1 => ?_)
  refine l215j (σ0 := σ) 60 0 σ1 (by omega) (by omega) f1 a1 (fun x x0 x1 => by omega) (fun σ2 f2 a2 b2 => ?_)
  refine l215k (σ0 := σ) (r := r) hB.2.2.1 hxx.1.1 80 0 σ2 (by omega) (by omega) f2 a2 b2 (fun x x0 x1 => by omega) (fun σ3 f3 a3 b3 c3 => ?_)
  have s3 : skG 10072 121 1 0 P r XX σ3 := by
    intro k hk x x0 x1
    rcases (by omega : k = 0 ∨ k = 1 ∨ k = 2) with rfl | rfl | rfl
    · have e : σ3.2.2 (10072 + 0) 121 x = 0 := a3 x x0 x1
      rw [e]; exact ⟨Or.inr rfl, fun q => absurd q (by decide)⟩
    · have e : σ3.2.2 (10072 + 1) 121 x = 0 := b3 x x0 x1
      rw [e]; exact ⟨Or.inr rfl, fun q => absurd q (by decide)⟩
    · have e : σ3.2.2 (10072 + 2) 121 x = r.1 x := c3 x x0 x1
      rw [e]
      refine ⟨?_, fun q => Or.inl q⟩
      rcases hxx.1.1 x with q | q
      · exact Or.inr q
      · exact Or.inl q
  have rk3 : rk P r XX σ σ3 := ⟨f3, s3, fun c c0 c1 q => by
    have e : σ3.2.2 (10072 + 0) 121 c = 0 := a3 c c0 (by omega)
    rw [e] at q; exact absurd q (by decide)⟩
  refine l215a (σ0 := σ) (d := d) hg hB hxx.1.2 (P 3000 0).toNat 0 σ3 (by omega) (by omega) rk3 (fun c c0 c1 => by omega) (fun σ4 r4 g4 f4 t4 => ?_)
  refine l215c (σ0 := σ) (d := d) hg hxx hB (P 3001 0).toNat 0 _ _ _ σ4 (by omega) (by omega) r4 (fun m m0 m1 => by omega) (fun σ5 w2 w3 w4 r5 g5 t5 => ?_)
  refine l215e (σ0 := σ) (d := d) hg hB (P 3000 0).toNat 0 _ _ _ σ5 (by omega) (by omega) r5 (fun c c0 c1 => by omega) (fun σ6 w2 w3 w4 r6 f6 g6 t6 => ?_)
  refine l215g (σ0 := σ) (d := d) hg hB (P 3001 0).toNat 0 _ _ _ σ6 (by omega) (by omega) r6 (fun m m0 m1 => by omega) (fun σ7 r7 f7 g7 t7 => ?_)
  have T5 : ∀ m, 0 ≤ m → m < P 3001 0 → r.1 m = 1 → tdG 10072 121 1 P XX σ7 m (XX m).n := fun m m0 m1 gm => (t5 m m0 m1 gm).gr (r := r) (fun j j0 j1 => xx_W hxx m0 m1 gm j0 j1) hW (g6.tr g7)
  have G47 : grG 10072 121 1 σ4 σ7 := g5.tr (g6.tr g7)
  refine hQ σ7 r7.1 (ex_of hW ⟨fun m m0 m1 gm => ?_, fun m i ic g => ((T5 m ic.1.1 ic.1.2 ic.2.1) i ic.2.2.1 ic.2.2.2).1 g, fun m i ic g1 g2 => ((T5 m ic.1.1 ic.1.2 ic.2.1) i ic.2.2.1 ic.2.2.2).2.1 g1 g2, fun m i ic g => ((T5 m ic.1.1 ic.1.2 ic.2.1) i ic.2.2.1 ic.2.2.2).2.2 g, fun c c0 c1 g => G47 0 (by omega) c c0 (by show c < 10; omega) (t4 c c0 c1 g), fun c f c0 c1 f0 f1 g => (t6 c c0 c1).gr hW c0 c1 (Int.le_refl _) f7 g7 f f0 f1 g, fun m m0 m1 g => ?_, r7.2.2⟩ r7.2.1 (by decide))
  · have e : σ3.2.2 (10072 + 2) 121 m = 1 := by
      have : σ3.2.2 (10072 + 2) 121 m = r.1 m := c3 m m0 (by omega)
      rw [this]; exact gm
    exact (g4.tr G47) 2 (by omega) m m0 (by show m < 80; omega) e
  · obtain ⟨a1, a2⟩ := t7 m m0 m1 g
    exact ⟨a1, a2.1, a2.2⟩
end RKEEP2
