/-! new numbers in the class -/
noncomputable def nC (P : Pg) (r : Rs) (XX : Int → Sx) (c : Int) : Int := nwN (kC P r XX) c
noncomputable def nM (P : Pg) (r : Rs) (XX : Int → Sx) (m : Int) : Int := nwN (kM P r XX) m
def kFc (P : Pg) (r : Rs) (XX : Int → Sx) (c f : Int) : Prop := kF P r XX (c * 6 + f)
noncomputable def nF (P : Pg) (r : Rs) (XX : Int → Sx) (c f : Int) : Int := nwN (kFc P r XX c) f
def nuC (σ : j3_S) (P : Pg) (r : Rs) (XX : Int → Sx) : Prop := (∀ c, 0 ≤ c → c < P 3000 0 → σ.2.2 6000 83 c = nC P r XX c) ∧ (∀ c f, 0 ≤ c → c < P 3000 0 → 0 ≤ f → f < P 3005 c → σ.2.2 6001 83 (c * 6 + f) = nF P r XX c f) ∧ ∀ m, 0 ≤ m → m < P 3001 0 → σ.2.2 6002 83 m = nM P r XX m
/-- numbers below k, marks from there on -/
def nuP (q : Int → Prop) (row : Int → Int) (k n : Int) : Prop := (∀ x, 0 ≤ x → x < k → row x = nwN q x) ∧ ∀ x, k ≤ x → x < n → (q x ∧ row x = 0) ∨ (¬ q x ∧ row x = -1)
section CNUMB
variable {σ σ' σ'' σ0 : j3_S} {P : Pg} {r : Rs} {XX : Int → Sx} {NL : Int → Int} {o o2 d : Nat} {x c m i w k n : Int} {Q : j3_P} {q : Int → Prop} {row : Int → Int}
theorem nuP.kk (h : nuP q row k n) (k0 : 0 ≤ k) (hk : q k) : nuP q (i_up row k (nB q k)) (k + 1) n := by
  refine ⟨fun x x0 x1 => ?_, fun x x0 x1 => ?_⟩
  · by_cases e : x = k
    · rw [e, iu_r, nw_k hk]
    · rw [iu_n e]; exact h.1 x x0 (by omega)
  · rw [iu_n (by omega)]; exact h.2 x (by omega) x1
theorem nuP.nn (h : nuP q row k n) (k1 : k < n) (hk : ¬ q k) : nuP q row (k + 1) n := by
  refine ⟨fun x x0 x1 => ?_, fun x x0 x1 => h.2 x (by omega) x1⟩
  by_cases e : x = k
  · rw [e, nw_n hk]
    rcases h.2 k (by omega) k1 with g | g
    · exact absurd g.1 hk
    · exact g.2
  · exact h.1 x x0 (by omega)
theorem l93f (hg : good P) (hB0 : kbC σ0 o o2 P r XX NL) (c0 : 0 ≤ c) (c1 : c < P 3000 0) {x1 x2 : Int} : ∀ (n : Nat) (f : Int) (σ : j3_S), f + n = P 3005 c → 0 ≤ f → frm [] [6000, 6001] σ0 σ → nuP (kFc P r XX c) (fun f => σ.2.2 6001 83 (c * 6 + f)) f (P 3005 c) → (∀ σ' x4 x5, frm [] [6000, 6001] σ0 σ' → frm [] [6001] σ σ' → (∀ z, z < c * 6 ∨ c * 6 + 6 ≤ z → σ'.2.2 6001 83 z = σ.2.2 6001 83 z) → (∀ f, 0 ≤ f → f < P 3005 c → σ'.2.2 6001 83 (c * 6 + f) = nF P r XX c f) → T93 d Q 6 [wO 6 83, wI x1, wI x2, wI (c + 1), wI x4, wI x5] [] σ') → T93 d Q 28 [wO 6 83, wI x1, wI x2, wI c, wI (nB (kFc P r XX c) f), wI (c * 6 + f)] [] σ
  | 0, f, σ, hf', f0, hf, hp, hQ => by
    have hB : kbC σ o o2 P r XX NL := hB0.fr hf ⟨rfl, rfl⟩ (la_ok rfl) rfl ⟨rfl, rfl⟩
    have hc10 := hg.1.1.2.1
    have hff := hg.1.2.2.1 c c0 c1
    rw [b93_28, hB.1.2.1, (hB.2.1.2.2.1 c c0 c1).1.2.2.1]
    simp (disch := omega) only [wr_id]
    rw [if_neg (by omega)]
    refine ⟨hB.1.1.1, by omega, hQ σ _ _ hf frm.rf (fun _ _ => rfl) (fun f' f0' f1' => hp.1 f' f0' (by omega))⟩
  | n + 1, f, σ, hf', f0, hf, hp, hQ => by
    have hB : kbC σ o o2 P r XX NL := hB0.fr hf ⟨rfl, rfl⟩ (la_ok rfl) rfl ⟨rfl, rfl⟩
    have hc10 := hg.1.1.2.1
    have hff := hg.1.2.2.1 c c0 c1
    have nb := nB_le (q := kFc P r XX c) f0
    have nb0 := nB_p (q := kFc P r XX c) (x := f)
    rw [b93_28, hB.1.2.1, (hB.2.1.2.2.1 c c0 c1).1.2.2.1]
    simp (disch := omega) only [wr_id]
    rw [if_pos (by omega)]
    refine ⟨hB.1.1.1, by omega, by omega, ?_⟩
    rcases hp.2 f (by omega) (by omega) with ⟨g1, g2⟩ | ⟨g1, g2⟩
    · have g2' : σ.2.2 6001 83 (c * 6 + f) = 0 := g2
      rw [if_pos g2', b93_50, wr_id (by omega) (by omega), show c * 6 + f + 1 = c * 6 + (f + 1) by omega, ← nB_k f0 g1]
      refine ⟨by omega, ?_⟩
      have f1 : frm [] [6001] σ (σ.1, σ.2.1, j3_ast σ.2.2 6001 83 (c * 6 + f) (nB (kFc P r XX c) f)) := frm.A rfl frm.rf
      have e : ∀ z, j3_ast σ.2.2 6001 83 (c * 6 + f) (nB (kFc P r XX c) f) 6001 83 z = i_up (σ.2.2 6001 83) (c * 6 + f) (nB (kFc P r XX c) f) z := fun z => by
        unfold j3_ast; rw [up_r]
      refine l93f hg hB0 c0 c1 n (f + 1) _ (by omega) (by omega) (hf.tr (f1.wd (fun _ h => h) (sub_el rfl))) ?_ (fun σ2 x4 x5 F2 f2 k2 t2 => hQ σ2 x4 x5 F2 (f1.tr f2) (fun z hz => ?_) t2)
      · have := hp.kk f0 g1
        refine ⟨fun x x0 x1 => ?_, fun x x0 x1 => ?_⟩
        · show j3_ast σ.2.2 6001 83 (c * 6 + f) (nB (kFc P r XX c) f) 6001 83 (c * 6 + x) = _
          rw [e]
          have t := this.1 x x0 x1
          by_cases ex : x = f
          · rw [ex, iu_r]; rw [ex, iu_r] at t; exact t
          · rw [iu_n (by omega)]; rw [iu_n ex] at t; exact t
        · show (_ ∧ j3_ast σ.2.2 6001 83 (c * 6 + f) (nB (kFc P r XX c) f) 6001 83 (c * 6 + x) = 0) ∨ (_ ∧ j3_ast σ.2.2 6001 83 (c * 6 + f) (nB (kFc P r XX c) f) 6001 83 (c * 6 + x) = -1)
          rw [e, iu_n (by omega)]
          exact hp.2 x (by omega) x1
      · rw [k2 z hz]
        show j3_ast σ.2.2 6001 83 (c * 6 + f) (nB (kFc P r XX c) f) 6001 83 z = _
        rw [e, iu_n (by omega)]
    · have g2' : σ.2.2 6001 83 (c * 6 + f) = -1 := g2
      rw [if_neg (by omega), b93_50, wr_id (by omega) (by omega), show c * 6 + f + 1 = c * 6 + (f + 1) by omega, ← nB_n f0 g1]
      exact l93f hg hB0 c0 c1 n (f + 1) σ (by omega) (by omega) hf (hp.nn (by omega) g1) hQ
theorem l93c (hg : good P) (hB0 : kbC σ0 o o2 P r XX NL) : ∀ (n : Nat) (c : Int) (w4 w5 : j3_W) (σ : j3_S), c + n = P 3000 0 → 0 ≤ c → frm [] [6000, 6001] σ0 σ → nuP (kC P r XX) (σ.2.2 6000 83) c (P 3000 0) → (∀ c', 0 ≤ c' → c' < c → ∀ f, 0 ≤ f → f < P 3005 c' → σ.2.2 6001 83 (c' * 6 + f) = nF P r XX c' f) → (∀ c', c ≤ c' → c' < P 3000 0 → nuP (kFc P r XX c') (fun f => σ.2.2 6001 83 (c' * 6 + f)) 0 (P 3005 c')) → (∀ σ' w4 w5, frm [] [6000, 6001] σ0 σ' → (∀ c, 0 ≤ c → c < P 3000 0 → σ'.2.2 6000 83 c = nC P r XX c) → (∀ c f, 0 ≤ c → c < P 3000 0 → 0 ≤ f → f < P 3005 c → σ'.2.2 6001 83 (c * 6 + f) = nF P r XX c f) → T93 d Q 56 [wO 6 83, wI (nB (kC P r XX) (P 3000 0)), wI 0, wI 0, w4, w5] [] σ') → T93 d Q 6 [wO 6 83, wI (nB (kC P r XX) c), wI 0, wI c, w4, w5] [] σ
  | 0, c, w4, w5, σ, hc, c0, hf, hp, hfd, hfm, hQ => by
    have hB : kbC σ o o2 P r XX NL := hB0.fr hf ⟨rfl, rfl⟩ (la_ok rfl) rfl ⟨rfl, rfl⟩
    rw [b93_6, hB.1.2.1, hB.2.1.1, if_neg (by omega)]
    rw [show c = P 3000 0 by omega] at hp hfd ⊢
    exact ⟨hB.1.1.1, hQ σ w4 w5 hf (fun c c0 c1 => hp.1 c c0 c1) (fun c f c0 c1 f0 f1 => hfd c c0 c1 f f0 f1)⟩
  | n + 1, c, w4, w5, σ, hc, c0, hf, hp, hfd, hfm, hQ => by
    have hB : kbC σ o o2 P r XX NL := hB0.fr hf ⟨rfl, rfl⟩ (la_ok rfl) rfl ⟨rfl, rfl⟩
    have hc10 := hg.1.1.2.1
    have hff := hg.1.2.2.1 c c0 (by omega)
    have nb := nB_le (q := kC P r XX) c0
    have nb0 := nB_p (q := kC P r XX) (x := c)
    rw [b93_6, hB.1.2.1, hB.2.1.1, if_pos (by omega)]
    refine ⟨hB.1.1.1, by omega, ?_⟩
    have go : ∀ σ1, frm [] [6000] σ σ1 → nuP (kC P r XX) (σ1.2.2 6000 83) (c + 1) (P 3000 0) → T93 d Q 22 [wO 6 83, wI (nB (kC P r XX) (c + 1)), wI 0, wI c, w4, w5] [] σ1 := by
      intro σ1 f1 p1
      have e1 : σ1.2.2 6001 83 = σ.2.2 6001 83 := f1.2.2 6001 83 rfl
      have F1 : frm [] [6000, 6001] σ0 σ1 := hf.tr (f1.wd (fun _ h => h) (sub_el rfl))
      rw [b93_22, wr_id (by omega) (by omega)]
      have := l93f (d := d) (Q := Q) (x1 := nB (kC P r XX) (c + 1)) (x2 := 0) (σ0 := σ0) hg hB0 c0 (by omega) (P 3005 c).toNat 0 σ1 (by omega) (by omega) F1 (by rw [e1]; exact hfm c (by omega) (by omega)) (fun σ2 x4 x5 F2 f2 k2 t2 => ?_)
      · rw [show c * 6 + 0 = c * 6 by omega, nB_0] at this
        exact this
      · refine l93c hg hB0 n (c + 1) _ _ σ2 (by omega) (by omega) F2 (by rw [f2.2.2 6000 83 rfl]; exact p1) (fun c' c0' c1' f f0 f1' => ?_) (fun c' c0' c1' => ?_) hQ
        · by_cases e : c' = c
          · rw [e] at f1' ⊢; exact t2 f f0 f1'
          · have hf' := hg.1.2.2.1 c' c0' (by omega)
            rw [k2 _ (by omega), e1]
            exact hfd c' c0' (by omega) f f0 f1'
        · have hf' := hg.1.2.2.1 c' (by omega) c1'
          refine ⟨fun x x0 x1 => by omega, fun x x0 x1 => ?_⟩
          show (_ ∧ σ2.2.2 6001 83 (c' * 6 + x) = 0) ∨ (_ ∧ σ2.2.2 6001 83 (c' * 6 + x) = -1)
          rw [k2 _ (by omega), e1]
          exact (hfm c' (by omega) c1').2 x x0 x1
    rcases hp.2 c (by omega) (by omega) with ⟨g1, g2⟩ | ⟨g1, g2⟩
    · rw [if_pos g2, wr_id (by omega) (by omega), ← nB_k c0 g1]
      refine ⟨by omega, go _ (frm.A rfl frm.rf) ?_⟩
      show nuP (kC P r XX) (j3_ast σ.2.2 6000 83 c (nB (kC P r XX) c) 6000 83) (c + 1) (P 3000 0)
      unfold j3_ast
      rw [up_r]
      exact hp.kk c0 g1
    · rw [if_neg (by omega)]
      have := go σ frm.rf (hp.nn (by omega) g1)
      rw [nB_n c0 g1] at this
      exact this
theorem l93m (hg : good P) (hB0 : kbC σ0 o o2 P r XX NL) {x1 : Int} : ∀ (n : Nat) (m : Int) (w4 w5 : j3_W) (σ : j3_S), m + n = P 3001 0 → 0 ≤ m → frm [] [6000, 6001, 6002] σ0 σ → nuP (kM P r XX) (σ.2.2 6002 83) m (P 3001 0) → (∀ σ', frm [] [6000, 6001, 6002] σ0 σ' → frm [] [6002] σ σ' → (∀ m, 0 ≤ m → m < P 3001 0 → σ'.2.2 6002 83 m = nM P r XX m) → Q none (j3_up (j3_up σ'.1 3000 o2 x1) 3001 o2 (nB (kM P r XX) (P 3001 0)), σ'.2.1, σ'.2.2)) → T93 d Q 56 [wO 6 83, wI x1, wI (nB (kM P r XX) m), wI m, w4, w5] [] σ
  | 0, m, w4, w5, σ, hm, m0, hf, hp, hQ => by
    have hB : kbC σ o o2 P r XX NL := hB0.fr hf ⟨rfl, rfl⟩ (la_ok rfl) rfl ⟨rfl, rfl⟩
    rw [b93_56, hB.1.2.1, hB.2.1.2.1, if_neg (by omega), hB.1.2.2]
    rw [show m = P 3001 0 by omega] at hp ⊢
    exact ⟨hB.1.1.1, hB.1.1.2, hB.1.1.2, hQ σ hf frm.rf (fun m m0 m1 => hp.1 m m0 m1)⟩
  | n + 1, m, w4, w5, σ, hm, m0, hf, hp, hQ => by
    have hB : kbC σ o o2 P r XX NL := hB0.fr hf ⟨rfl, rfl⟩ (la_ok rfl) rfl ⟨rfl, rfl⟩
    have h80 := hg.1.2.1.2.1
    have nb := nB_le (q := kM P r XX) m0
    have nb0 := nB_p (q := kM P r XX) (x := m)
    rw [b93_56, hB.1.2.1, hB.2.1.2.1, if_pos (by omega)]
    refine ⟨hB.1.1.1, by omega, ?_⟩
    rcases hp.2 m (by omega) (by omega) with ⟨g1, g2⟩ | ⟨g1, g2⟩
    · rw [if_pos g2, wr_id (by omega) (by omega), ← nB_k m0 g1, b93_72, wr_id (by omega) (by omega)]
      have f1 : frm [] [6002] σ (σ.1, σ.2.1, j3_ast σ.2.2 6002 83 m (nB (kM P r XX) m)) := frm.A rfl frm.rf
      refine ⟨by omega, l93m hg hB0 n (m + 1) _ _ _ (by omega) (by omega) (hf.tr (f1.wd (fun _ h => h) (sub_el rfl))) ?_ (fun σ2 F2 f2 t2 => hQ σ2 F2 (f1.tr f2) t2)⟩
      show nuP (kM P r XX) (j3_ast σ.2.2 6002 83 m (nB (kM P r XX) m) 6002 83) (m + 1) (P 3001 0)
      unfold j3_ast
      rw [up_r]
      exact hp.kk m0 g1
    · rw [if_neg (by omega), b93_72, wr_id (by omega) (by omega), ← nB_n m0 g1]
      exact l93m hg hB0 n (m + 1) _ _ σ (by omega) (by omega) hf (hp.nn (by omega) g1) hQ
theorem s93 (hg : good P) (hB : kbC σ o o2 P r XX NL) (hx : exG 6000 83 0 (-1) P r XX σ) (hQ : ∀ σ', frm [] [6000, 6001, 6002] σ σ' → nuC σ' P r XX → Q none (j3_up (j3_up σ'.1 3000 o2 (nB (kC P r XX) (P 3000 0))) 3001 o2 (nB (kM P r XX) (P 3001 0)), σ'.2.1, σ'.2.2)) : j3_tc false (d + 1) 93 [wO 6 83] σ Q := by
  have hc1 := hg.1.1.1
  have hm0 := hg.1.2.1.1
  rw [e93, b93_0]
  have := l93c (d := d) (Q := Q) (σ0 := σ) hg hB (P 3000 0).toNat 0 (wM 2) (wM 2) σ (by omega) (by omega) frm.rf ⟨fun x x0 x1 => by omega, fun x x0 x1 => hx.1 x x0 x1⟩ (fun c' c0 c1 => by omega) (fun c' c0 c1 => ⟨fun x x0 x1 => by omega, fun x x0 x1 => hx.2.1 c' x c0 c1 x0 x1⟩) (fun σ1 w4 w5 f1 t1 t2 => ?_)
  · rw [nB_0] at this; exact this
  · have := l93m (d := d) (Q := Q) (x1 := nB (kC P r XX) (P 3000 0)) (σ0 := σ) hg hB (P 3001 0).toNat 0 w4 w5 σ1 (by omega) (by omega) (f1.wd (fun _ h => h) (sub_el rfl)) ⟨fun x x0 x1 => by omega, fun x x0 x1 => by rw [f1.2.2 6002 83 rfl]; exact hx.2.2 x x0 x1⟩ (fun σ2 F2 f2 t3 => hQ σ2 F2 ⟨fun c c0 c1 => by rw [f2.2.2 6000 83 rfl]; exact t1 c c0 c1, fun c f c0 c1 f0 f1 => by rw [f2.2.2 6001 83 rfl]; exact t2 c f c0 c1 f0 f1, t3⟩)
    rw [nB_0] at this; exact this
end CNUMB
