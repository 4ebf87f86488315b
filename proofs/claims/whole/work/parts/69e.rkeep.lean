/-! what is kept, in the reference -/
def kbR (σ : j3_S) (P : Pg) (r : Rs) (XX : Int → Sx) (NL : Int → Int) : Prop := RP σ 0 P ∧ ncR σ P r XX NL ∧ (∀ m, 0 ≤ m → m < 80 → σ.2.2 10049 121 m = r.1 m) ∧ ∀ c, 0 ≤ c → c < 10 → σ.2.2 10050 121 c = r.2.1 c
def clz (P : Pg) (σ : j3_S) : Prop := ∀ c, 0 ≤ c → c < P 3000 0 → σ.2.2 (10072 + 0) 121 c = 1 → 0 ≤ P 3003 c → σ.2.2 (10072 + 0) 121 (P 3003 c) = 1
def rk (P : Pg) (r : Rs) (XX : Int → Sx) (σ0 σ : j3_S) : Prop := frm [] (mkE 10072) σ0 σ ∧ skG 10072 121 1 0 P r XX σ ∧ clz P σ
section RKEEP
variable {σ σ' σ'' σ0 : j3_S} {P : Pg} {r : Rs} {XX : Int → Sx} {NL : Int → Int} {d : Nat} {x c m i w : Int} {Q : j3_P} {li la : List Nat}
theorem gdR.fr {X : Sx} {l : Int} (h : gdR σ m X l) (hf : frm li la σ σ') (h2 : mfA.all (fun e => !la.elem e) = true) : gdR σ' m X l := by
  have k : ∀ e, mfA.elem e = true → σ'.2.2 e 121 = σ.2.2 e 121 := fun e he => by
    have := List.all_eq_true.1 h2 e (by simpa using he)
    exact hf.2.2 e 121 (by simpa using this)
  obtain ⟨a1, a2, a3⟩ := h
  refine ⟨by rw [k 10025 rfl]; exact a1, by rw [k 10026 rfl]; exact a2, fun i i0 i1 => ?_⟩
  have := a3 i i0 i1
  unfold rwR oR at this ⊢
  rw [k 10027 rfl, k 10028 rfl, k 10029 rfl, k 10030 rfl, k 10031 rfl, k 10032 rfl]
  exact this
theorem kbR.fr (h : kbR σ P r XX NL) (hf : frm li la σ σ') (hr : ∀ e, 10009 ≤ e → e ≤ 10032 → la.elem e = false) (h4 : la.elem 10049 = false ∧ la.elem 10050 = false) : kbR σ' P r XX NL := by
  obtain ⟨a1, a2, a3, a4⟩ := h
  refine ⟨a1.fr hf (fun e e0 e1 => hr e e0 (by omega)), fun m m0 m1 g => (a2 m m0 m1 g).fr hf ?_, fun m m0 m1 => by rw [hf.2.2 10049 _ h4.1]; exact a3 m m0 m1, fun c c0 c1 => by rw [hf.2.2 10050 _ h4.2]; exact a4 c c0 c1⟩
  refine List.all_eq_true.2 (fun e he => ?_)
  simp only [mfA, List.mem_cons, List.not_mem_nil, or_false] at he
  rw [hr e (by omega) (by omega)]; rfl
theorem kbR.mk (h : kbR σ P r XX NL) (hf : frm [] (mkE 10072) σ σ') : kbR σ' P r XX NL := h.fr hf (fun e e0 e1 => by simp [mkE]; omega) ⟨rfl, rfl⟩
theorem l213 (hg : good P) (hR0 : RP σ0 0 P) {x1 : Int} : ∀ (n : Nat) (x2 : Int) (σ : j3_S), x2 < n → -1 ≤ x2 → x2 < P 3000 0 → (0 ≤ x2 → kC P r XX x2) → frm [] (mkE 10072) σ0 σ → skG 10072 121 1 0 P r XX σ → (∀ c, 0 ≤ c → c < P 3000 0 → σ.2.2 (10072 + 0) 121 c = 1 → 0 ≤ P 3003 c → σ.2.2 (10072 + 0) 121 (P 3003 c) = 1 ∨ P 3003 c = x2) → (∀ σ', rk P r XX σ0 σ' → frm [] [10072] σ σ' → grG 10072 121 1 σ σ' → (0 ≤ x2 → σ'.2.2 (10072 + 0) 121 x2 = 1) → Q none σ') → T213 d Q 2 [wO 10 121, wI x1, wI x2] [] σ
  | 0, x2, σ, hn, h0, h1, hk, hf, hs, hc, hQ => by
    rw [b213_2, if_pos (by omega)]
    refine hQ σ ⟨hf, hs, fun c c0 c1 q1 q2 => ?_⟩ frm.rf grG.rf (fun q => by omega)
    rcases hc c c0 c1 q1 q2 with q | q
    · exact q
    · omega
  | n + 1, x2, σ, hn, h0, h1, hk, hf, hs, hc, hQ => by
    have hc10 := hg.1.1.2.1
    rw [b213_2]
    by_cases g : x2 < 0
    · rw [if_pos g]
      refine hQ σ ⟨hf, hs, fun c c0 c1 q1 q2 => ?_⟩ frm.rf grG.rf (fun q => by omega)
      rcases hc c c0 c1 q1 q2 with q | q
      · exact q
      · omega
    · have hR : RP σ 0 P := hR0.fr hf (fun e e0 e1 => by simp [mkE]; omega)
      have e11 := (hR.2.2.1 x2 (by omega) h1).1.2.1
      rw [show 10 * 0 + x2 = x2 by omega] at e11
      have hsu := hg.1.1.2.2 x2 (by omega) h1
      rw [if_neg g, e11]
      obtain ⟨m1, m2, m3, m4⟩ := mkG (k := 0) hs (by omega) (show SK P r XX 0 x2 from hk (by omega))
      refine ⟨by simp, by omega, by omega, ?_⟩
      refine l213 hg hR0 n (P 3003 x2) _ (by push_cast at hn; omega) (by omega) (by omega) (fun q => kC_cl.2.2.2.2 x2 (by omega) h1 (hk (by omega)) q) (hf.tr m3) m1 (fun c c0 c1 q1 q2 => ?_) (fun σ2 r2 f2 g2 t2 => hQ σ2 r2 ((frm.A rfl frm.rf : frm [] [10072] σ (σ.1, σ.2.1, j3_ast σ.2.2 (10072 + 0) 121 x2 1)).tr f2) (m2.tr g2) (fun _ => g2 0 (by omega) x2 (by omega) (by show x2 < 10; omega) m4))
      by_cases e : c = x2
      · right; rw [e]
      · left
        have q1' : σ.2.2 (10072 + 0) 121 c = 1 := by
          have : j3_ast σ.2.2 (10072 + 0) 121 x2 1 (10072 + 0) 121 c = 1 := q1
          unfold j3_ast at this
          rw [up_r, iu_n e] at this
          exact this
        have hsc := hg.1.1.2.2 c c0 c1
        rcases hc c c0 c1 q1' q2 with q | q
        · exact m2 0 (by omega) _ q2 (by show P 3003 c < 10; omega) q
        · rw [q]; exact m4
theorem s213 (hg : good P) (hR : RP σ0 0 P) (h : rk P r XX σ0 σ) (h0 : 0 ≤ c) (h1 : c < P 3000 0) (hk : kC P r XX c) (hQ : ∀ σ', rk P r XX σ0 σ' → frm [] [10072] σ σ' → grG 10072 121 1 σ σ' → σ'.2.2 (10072 + 0) 121 c = 1 → Q none σ') : j3_tc true (d + 1) 213 [wO 10 121, wI c] σ Q := by
  have hc10 := hg.1.1.2.1
  rw [e213, b213_0]
  exact l213 (σ0 := σ0) hg hR 11 c σ (by omega) (by omega) h1 (fun _ => hk) h.1 h.2.1 (fun c c0 c1 q1 q2 => Or.inl (h.2.2 c c0 c1 q1 q2)) (fun σ2 r2 f2 g2 t2 => hQ σ2 r2 f2 g2 (t2 h0))
theorem s214 (hg : good P) (hR : RP σ0 0 P) (h : rk P r XX σ0 σ) (h1 : 0 < w → w ≤ P 3000 0 ∧ kC P r XX (w - 1)) (hQ : ∀ σ', rk P r XX σ0 σ' → frm [] [10072] σ σ' → grG 10072 121 1 σ σ' → (0 < w → σ'.2.2 (10072 + 0) 121 (w - 1) = 1) → Q none σ') : j3_tc true (d + 2) 214 [wO 10 121, wI w] σ Q := by
  have hc10 := hg.1.1.2.1
  rw [e214, b214_0]
  by_cases g : 0 < w
  · obtain ⟨w1, w2⟩ := h1 g
    rw [if_pos g, wr_id (by omega) (by omega)]
    refine s213 hg hR h (by omega) (by omega) w2 (fun σ1 r1 f1 g1 t1 => ?_)
    simp only [Option.toList_none, List.nil_append]
    rw [b214_7]
    exact hQ σ1 r1 f1 g1 (fun _ => t1)
  · rw [if_neg g, b214_7]
    exact hQ σ h frm.rf grG.rf (fun q => absurd q g)
/-- live classes -/
theorem l215a (hg : good P) (hB0 : kbR σ0 P r XX NL) (h01 : ∀ c, r.2.1 c = 0 ∨ r.2.1 c = 1) : ∀ (n : Nat) (k : Int) (σ : j3_S), k + n = P 3000 0 → 0 ≤ k → rk P r XX σ0 σ → (∀ c, 0 ≤ c → c < k → r.2.1 c = 1 → σ.2.2 (10072 + 0) 121 c = 1) → (∀ σ', rk P r XX σ0 σ' → grG 10072 121 1 σ σ' → frm [] [10072] σ σ' → (∀ c, 0 ≤ c → c < P 3000 0 → r.2.1 c = 1 → σ'.2.2 (10072 + 0) 121 c = 1) → T215 (d + 2) Q 59 [wO 10 121, wI 0, wM 2, wM 2, wM 2] [] σ') → T215 (d + 2) Q 41 [wO 10 121, wI k, wM 2, wM 2, wM 2] [] σ
  | 0, k, σ, hk, k0, h, ht, hQ => by
    have hB := hB0.mk h.1
    rw [b215_41, hB.1.1, if_neg (by omega)]
    rw [show k = P 3000 0 by omega] at ht
    exact ⟨by omega, hQ σ h grG.rf frm.rf ht⟩
  | n + 1, k, σ, hk, k0, h, ht, hQ => by
    have hB := hB0.mk h.1
    have hc10 := hg.1.1.2.1
    rw [b215_41, hB.1.1, if_pos (by omega), hB.2.2.2 k k0 (by omega)]
    refine ⟨by omega, by omega, ?_⟩
    by_cases g : r.2.1 k = 0
    · rw [if_pos g, b215_55, wr_id (by omega) (by omega)]
      refine l215a hg hB0 h01 n (k + 1) σ (by omega) (by omega) h (fun c c0 c1 q => ?_) hQ
      by_cases e : c = k
      · subst e; omega
      · exact ht c c0 (by omega) q
    · have g1 : r.2.1 k = 1 := by
        rcases h01 k with q | q
        · exact absurd q g
        · exact q
      rw [if_neg g]
      refine s213 (d := d + 1) hg hB0.1 h k0 (by omega) (kC_cl.1 k k0 (by omega) g1) (fun σ1 r1 f1 g1' t1 => ?_)
      simp only [Option.toList_none, List.nil_append]
      rw [b215_55, wr_id (by omega) (by omega)]
      refine l215a hg hB0 h01 n (k + 1) σ1 (by omega) (by omega) r1 (fun c c0 c1 q => ?_) (fun σ2 r2 g2 f2 t2 => hQ σ2 r2 (g1'.tr g2) (f1.tr f2) t2)
      by_cases e : c = k
      · subst e; exact t1
      · exact g1' 0 (by omega) c c0 (by show c < 10; omega) (ht c c0 (by omega) q)
/-- what a method tells -/
theorem l215b (hg : good P) (hxx : xxR P r XX NL) (hB0 : kbR σ0 P r XX NL) (m0 : 0 ≤ m) (m1 : m < P 3001 0) (hm : r.1 m = 1) : ∀ (n : Nat) (i : Int) (w3 w4 : j3_W) (σ : j3_S), i + n = (XX m).n → 0 ≤ i → rk P r XX σ0 σ → tdG 10072 121 1 P XX σ m i → (∀ σ' w2 w3 w4, rk P r XX σ0 σ' → grG 10072 121 1 σ σ' → tdG 10072 121 1 P XX σ' m (XX m).n → T215 (d + 2) Q 144 [wO 10 121, wI m, wI w2, w3, w4] [] σ') → T215 (d + 2) Q 67 [wO 10 121, wI m, wI i, w3, w4] [] σ
  | 0, i, w3, w4, σ, hi, i0, h, htd, hQ => by
    have hB := hB0.mk h.1
    have h80 := hg.1.2.1.2.1
    rw [b215_67, hB.2.2.1 m m0 (by omega), if_neg (by omega), wr_id (by omega) (by omega), (hB.2.1 m m0 m1 hm).2.1, if_neg (by omega)]
    rw [show i = (XX m).n by omega] at htd ⊢
    exact ⟨by omega, by omega, hQ σ _ w3 w4 h grG.rf htd⟩
  | n + 1, i, w3, w4, σ, hi, i0, h, htd, hQ => by
    have hB := hB0.mk h.1
    have h80 := hg.1.2.1.2.1
    have hc10 := hg.1.1.2.1
    have okx := (hxx.2 m m0 m1 hm).1
    have ok := okx.1
    have w := xx_W hxx m0 m1 hm i0 (show i < (XX m).n by omega)
    have ic : inC P r XX m i := ⟨⟨m0, m1⟩, hm, i0, by omega⟩
    obtain ⟨e1, e2, e3, -⟩ := (hB.2.1 m m0 m1 hm).2.2 i i0 (by omega)
    rw [b215_67, hB.2.2.1 m m0 (by omega), if_neg (by omega), wr_id (by omega) (by omega), (hB.2.1 m m0 m1 hm).2.1, if_pos (by omega), s160 (by omega) (by omega) m0 (by omega) i0 (by omega), show 9600 * 2 + 120 * m + i = 19200 + 120 * m + i by omega]
    refine ⟨by omega, by omega, ?_⟩
    simp only [Option.toList_some, List.cons_append, List.nil_append]
    rw [b215_84, e1]
    refine ⟨by omega, ?_⟩
    -- on
    have nx : ∀ σ1, rk P r XX σ0 σ1 → grG 10072 121 1 σ σ1 → tdG 10072 121 1 P XX σ1 m (i + 1) → T215 (d + 2) Q 142 [wO 10 121, wI m, wI i, wI (19200 + 120 * m + i), wI ((XX m).op i)] [] σ1 := by
      intro σ1 r1 g1 t1
      rw [b215_142, wr_id (by omega) (by omega)]
      exact l215b hg hxx hB0 m0 m1 hm n (i + 1) _ _ σ1 (by omega) (by omega) r1 t1 (fun σ2 w2 w3 w4 r2 g2 t2 => hQ σ2 w2 w3 w4 r2 (g1.tr g2) t2)
    have td1 : ∀ σ1, grG 10072 121 1 σ σ1 → ((XX m).op i = 21 → σ1.2.2 (10072 + 2) 121 (P 3007 ((XX m).a i) + (XX m).b i) = 1) ∧ (16 ≤ (XX m).op i → (XX m).op i ≤ 19 → σ1.2.2 (10072 + 1) 121 ((XX m).a i * 6 + (XX m).b i) = 1) ∧ ((XX m).op i = 24 ∨ (XX m).op i = 25 → σ1.2.2 (10072 + 0) 121 ((XX m).a i) = 1) → tdG 10072 121 1 P XX σ1 m (i + 1) := by
      intro σ1 g1 h1 j j0 j1
      by_cases e : j = i
      · subst e; exact h1
      · exact (htd.gr (r := r) (fun j j0 j1 => xx_W hxx m0 m1 hm j0 (by omega)) hg.1 g1) j j0 (by omega)
    generalize hop : (XX m).op i = op at *
    generalize haa : (XX m).a i = aa at *
    generalize hbb : (XX m).b i = bb at *
    have sends : ∀ σ1, rk P r XX σ0 σ1 → grG 10072 121 1 σ σ1 → ((op = 21 → False) → tdG 10072 121 1 P XX σ1 m (i + 1)) → T215 (d + 2) Q 123 [wO 10 121, wI m, wI i, wI (19200 + 120 * m + i), wI op] [] σ1 := by
      intro σ1 r1 g1 t1
      rw [b215_123]
      by_cases g21 : op = 21
      · have hB1 := hB0.mk r1.1
        obtain ⟨-, e2', e3', -⟩ := (hB1.2.1 m m0 m1 hm).2.2 i i0 (by omega)
        rw [haa] at e2'
        rw [hbb] at e3'
        have q1 := w.1 (by omega)
        have q2 := w.2.2.1 (by omega)
        have q3 := hg.1.2.1.2.2 _ q1.1 q1.2
        have e13 := (hB1.1.2.2.1 _ q1.1 q1.2).1.2.2.2.2
        rw [show 10 * 0 + aa = aa by omega] at e13
        rw [if_pos g21, e2', e3', e13, wr_id (by omega) (by omega)]
        obtain ⟨k1, k2, k3, k4⟩ := mkG (k := 2) r1.2.1 (by omega) (show SK P r XX 2 (P 3007 aa + bb) from Or.inr ⟨m, i, ic, by rw [hop]; exact g21, by rw [haa, hbb]⟩)
        refine ⟨by omega, by omega, by omega, by simp, by omega, nx _ ⟨r1.1.tr k3, k1, ?_⟩ (g1.tr k2) (td1 _ (g1.tr k2) ⟨fun _ => k4, fun q1 q2 => by omega, fun q => by omega⟩)⟩
        intro c c0 c1 z1 z2
        have e : ∀ y, j3_ast σ1.2.2 (10072 + 2) 121 (P 3007 aa + bb) 1 (10072 + 0) 121 y = σ1.2.2 (10072 + 0) 121 y := fun y => by
          unfold j3_ast; rw [up_e rfl]
        have z1' : j3_ast σ1.2.2 (10072 + 2) 121 (P 3007 aa + bb) 1 (10072 + 0) 121 c = 1 := z1
        rw [e] at z1'
        show j3_ast σ1.2.2 (10072 + 2) 121 (P 3007 aa + bb) 1 (10072 + 0) 121 (P 3003 c) = 1
        rw [e]; exact r1.2.2 c c0 c1 z1' z2
      · rw [if_neg g21]
        exact nx σ1 r1 g1 (t1 g21)
    have flds : ∀ σ1, rk P r XX σ0 σ1 → grG 10072 121 1 σ σ1 → (¬ (16 ≤ op ∧ op ≤ 19) → (op = 21 → False) → tdG 10072 121 1 P XX σ1 m (i + 1)) → T215 (d + 2) Q 102 [wO 10 121, wI m, wI i, wI (19200 + 120 * m + i), wI op] [] σ1 := by
      intro σ1 r1 g1 t1
      rw [b215_102]
      by_cases ga : op < 16
      · rw [if_pos ga]; exact sends σ1 r1 g1 (fun q => t1 (by omega) q)
      · rw [if_neg ga]
        by_cases gb : 19 < op
        · rw [if_pos gb]; exact sends σ1 r1 g1 (fun q => t1 (by omega) q)
        · rw [if_neg gb]
          have hB1 := hB0.mk r1.1
          obtain ⟨-, e2', e3', -⟩ := (hB1.2.1 m m0 m1 hm).2.2 i i0 (by omega)
          rw [haa] at e2'
          rw [hbb] at e3'
          have q1 := w.1 (by omega)
          have q2 := (w.2.1 (by omega)).1
          have q3 := hg.1.2.2.1 _ q1.1 q1.2
          rw [e2', e3']
          simp (disch := omega) only [wr_id]
          obtain ⟨k1, k2, k3, k4⟩ := mkG (k := 1) r1.2.1 (by omega) (show SK P r XX 1 (aa * 6 + bb) from ⟨m, i, ic, by rw [hop]; omega, by rw [haa, hbb]⟩)
          rw [show 6 * aa + bb = aa * 6 + bb by omega]
          refine ⟨by omega, by omega, by simp, by omega, sends _ ⟨r1.1.tr k3, k1, ?_⟩ (g1.tr k2) (fun _ => td1 _ (g1.tr k2) ⟨fun q => by omega, fun _ _ => k4, fun q => by omega⟩)⟩
          intro c c0 c1 z1 z2
          have e : ∀ y, j3_ast σ1.2.2 (10072 + 1) 121 (aa * 6 + bb) 1 (10072 + 0) 121 y = σ1.2.2 (10072 + 0) 121 y := fun y => by
            unfold j3_ast; rw [up_e rfl]
          have z1' : j3_ast σ1.2.2 (10072 + 1) 121 (aa * 6 + bb) 1 (10072 + 0) 121 c = 1 := z1
          rw [e] at z1'
          show j3_ast σ1.2.2 (10072 + 1) 121 (aa * 6 + bb) 1 (10072 + 0) 121 (P 3003 c) = 1
          rw [e]; exact r1.2.2 c c0 c1 z1' z2
    have cls : (op = 24 ∨ op = 25) → T215 (d + 2) Q 96 [wO 10 121, wI m, wI i, wI (19200 + 120 * m + i), wI op] [] σ := by
      intro g
      have q1 := w.1 (by omega)
      rw [b215_96, e2]
      refine ⟨by omega, ?_⟩
      refine s213 (d := d + 1) hg hB0.1 h q1.1 q1.2 (by rw [← haa]; exact kC_cl.2.1 m i ic (by rw [hop]; exact g)) (fun σ1 r1 f1 g1 t1 => ?_)
      simp only [Option.toList_none, List.nil_append]
      exact flds σ1 r1 g1 (fun _ _ => td1 _ g1 ⟨fun q => by omega, fun q1 q2 => by omega, fun _ => t1⟩)
    by_cases g24 : op = 24
    · rw [if_pos g24]; exact cls (Or.inl g24)
    · rw [if_neg g24]
      by_cases g25 : op = 25
      · rw [if_pos g25]; exact cls (Or.inr g25)
      · rw [if_neg g25]
        exact flds σ h grG.rf (fun qa qb => td1 _ grG.rf ⟨fun q => absurd q qb, fun q1 q2 => absurd ⟨q1, q2⟩ qa, fun q => by omega⟩)
end RKEEP
