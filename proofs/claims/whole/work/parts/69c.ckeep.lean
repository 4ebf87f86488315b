/-! what is kept, in the class -/
def kbC (σ : j3_S) (o o2 : Nat) (P : Pg) (r : Rs) (XX : Int → Sx) (NL : Int → Int) : Prop := ((¬ o = 0 ∧ ¬ o2 = 0) ∧ σ.2.1 5 = o ∧ σ.2.1 6 = o2) ∧ CP σ o P ∧ ncC σ o2 P r XX NL ∧ (∀ m, 0 ≤ m → m < 80 → σ.2.2 4000 92 m = r.1 m) ∧ ∀ c, 0 ≤ c → c < 10 → σ.2.2 4001 92 c = r.2.1 c
/-- what the method m tells is marked -/
def tdG (eb o : Nat) (mv : Int) (P : Pg) (XX : Int → Sx) (σ : j3_S) (m n : Int) : Prop := ∀ i, 0 ≤ i → i < n → ((XX m).op i = 21 → σ.2.2 (eb + 2) o (P 3007 ((XX m).a i) + (XX m).b i) = mv) ∧ (16 ≤ (XX m).op i → (XX m).op i ≤ 19 → σ.2.2 (eb + 1) o ((XX m).a i * 6 + (XX m).b i) = mv) ∧ ((XX m).op i = 24 ∨ (XX m).op i = 25 → σ.2.2 (eb + 0) o ((XX m).a i) = mv)
/-- the face of the method m is marked -/
def faG (eb o : Nat) (mv : Int) (P : Pg) (σ : j3_S) (m n : Int) : Prop := (2 ≤ P 3014 m → σ.2.2 (eb + 0) o (P 3014 m - 2) = mv) ∧ ∀ p, 0 ≤ p → p < n → 0 < P 3016 (m * 3 + p) → σ.2.2 (eb + 0) o (P 3016 (m * 3 + p) - 1) = mv
section CKEEP
variable {σ σ' σ'' σ0 : j3_S} {P : Pg} {r : Rs} {XX : Int → Sx} {NL : Int → Int} {o o2 d : Nat} {x c m i w : Int} {Q : j3_P} {li la : List Nat}
theorem mkE_e : ∀ k, k < 3 → (mkE 6000).elem (6000 + k) = true := by
  intro k hk
  rcases (by omega : k = 0 ∨ k = 1 ∨ k = 2) with rfl | rfl | rfl <;> rfl
theorem kbC.fr (h : kbC σ o o2 P r XX NL) (hf : frm li la σ σ') (h1 : li.elem 3000 = false ∧ li.elem 3001 = false) (h2 : (∀ e, e ≤ 3 → la.elem e = false) ∧ ∀ e, 3002 ≤ e → e ≤ 3017 → la.elem e = false) (h3 : lyA.all (fun e => !la.elem e) = true) (h4 : la.elem 4000 = false ∧ la.elem 4001 = false) : kbC σ' o o2 P r XX NL := by
  obtain ⟨⟨a1, a2, a3⟩, a4, a5, a6, a7⟩ := h
  exact ⟨⟨a1, by rw [hf.1]; exact a2, by rw [hf.1]; exact a3⟩, a4.fr hf h1 h2, fun m m0 m1 g => (a5 m m0 m1 g).fr hf h3, fun m m0 m1 => by rw [hf.2.2 4000 _ h4.1]; exact a6 m m0 m1, fun c c0 c1 => by rw [hf.2.2 4001 _ h4.2]; exact a7 c c0 c1⟩
theorem s92 (hs : skG 6000 83 0 (-1) P r XX σ) (h1 : 0 < w → w ≤ 10 ∧ kC P r XX (w - 1)) (hQ : ∀ σ', frm [] [6000] σ σ' → skG 6000 83 0 (-1) P r XX σ' → grG 6000 83 0 σ σ' → (0 < w → σ'.2.2 (6000 + 0) 83 (w - 1) = 0) → Q none σ') : j3_tc false (d + 1) 92 [wO 6 83, wI w] σ Q := by
  rw [e92, b92_0]
  by_cases g : 0 < w
  · obtain ⟨w1, w2⟩ := h1 g
    rw [if_pos g, wr_id (by omega) (by omega)]
    obtain ⟨m1, m2, m3, m4⟩ := mkG (k := 0) hs (by omega) (show SK P r XX 0 (w - 1) from w2)
    exact ⟨by omega, hQ _ (frm.A rfl frm.rf) m1 m2 (fun _ => m4)⟩
  · rw [if_neg g]
    exact hQ σ frm.rf hs grG.rf (fun q => absurd q g)
theorem faG.gr {eb o : Nat} {mv n : Int} (hW : WFp P) (m0 : 0 ≤ m) (m1 : m < P 3001 0) (hn : n ≤ P 3015 m) (h : faG eb o mv P σ m n) (hg : grG eb o mv σ σ') : faG eb o mv P σ' m n := by
  have hc := hW.1.2.1
  obtain ⟨-, -, q3, q4, -⟩ := hW.2.2.2 m m0 m1
  refine ⟨fun g => hg 0 (by omega) _ (by omega) (by show P 3014 m - 2 < 10; omega) (h.1 g), fun p p0 p1 g => hg 0 (by omega) _ (by omega) ?_ (h.2 p p0 p1 g)⟩
  have := q4.2.2 p p0 (by omega)
  show P 3016 (m * 3 + p) - 1 < 10
  omega
theorem l91 (hW : WFp P) (hB0 : kbC σ0 o o2 P r XX NL) (m0 : 0 ≤ m) (m1 : m < P 3001 0) (hm : kM P r XX m) : ∀ (n : Nat) (p : Int) (σ : j3_S), p + n = P 3015 m → 0 ≤ p → frm [] [6000] σ0 σ → skG 6000 83 0 (-1) P r XX σ → faG 6000 83 0 P σ m p → (∀ σ', frm [] [6000] σ0 σ' → skG 6000 83 0 (-1) P r XX σ' → grG 6000 83 0 σ σ' → faG 6000 83 0 P σ' m (P 3015 m) → Q none σ') → T91 (d + 1) Q 17 [wO 6 83, wI m, wI p] [] σ
  | 0, p, σ, hp, p0, hf, hs, hfa, hQ => by
    have hB : kbC σ o o2 P r XX NL := hB0.fr hf ⟨rfl, rfl⟩ (la_ok rfl) rfl ⟨rfl, rfl⟩
    have h80 := hW.2.1.2.1
    rw [b91_17, hB.1.2.1, (hB.2.1.2.2.2 m m0 m1).1.2.2.2.2.1, if_neg (by omega)]
    rw [show p = P 3015 m by omega] at hfa
    exact ⟨hB.1.1.1, by omega, hQ σ hf hs grG.rf hfa⟩
  | n + 1, p, σ, hp, p0, hf, hs, hfa, hQ => by
    have hB : kbC σ o o2 P r XX NL := hB0.fr hf ⟨rfl, rfl⟩ (la_ok rfl) rfl ⟨rfl, rfl⟩
    have h80 := hW.2.1.2.1
    have hc10 := hW.1.2.1
    have q4 := (hW.2.2.2 m m0 m1).2.2.2.1
    have tp := q4.2.2 p p0 (by omega)
    rw [b91_17, hB.1.2.1, (hB.2.1.2.2.2 m m0 m1).1.2.2.2.2.1, if_pos (by omega)]
    simp (disch := omega) only [wr_id]
    rw [(hB.2.1.2.2.2 m m0 m1).2.1 p p0 (by omega)]
    refine ⟨hB.1.1.1, by omega, hB.1.1.1, by omega, ?_⟩
    refine s92 hs (fun g => ⟨by omega, (kC_cl.2.2.2.1 m m0 m1 hm).2.2 p p0 (by omega) g⟩) (fun σ1 f1 s1 g1 r1 => ?_)
    simp only [Option.toList_none, List.nil_append]
    rw [b91_35, wr_id (by omega) (by omega)]
    refine l91 hW hB0 m0 m1 hm n (p + 1) σ1 (by omega) (by omega) (hf.tr f1) s1 ⟨(hfa.gr hW m0 m1 (by omega) g1).1, fun p' p0' p1' g => ?_⟩ (fun σ2 f2 s2 g2 r2 => hQ σ2 f2 s2 (g1.tr g2) r2)
    by_cases e : p' = p
    · rw [e] at g ⊢; exact r1 g
    · exact (hfa.gr hW m0 m1 (by omega) g1).2 p' p0' (by omega) g
theorem s91 (hW : WFp P) (hB : kbC σ o o2 P r XX NL) (m0 : 0 ≤ m) (m1 : m < P 3001 0) (hm : kM P r XX m) (hs : skG 6000 83 0 (-1) P r XX σ) (hQ : ∀ σ', frm [] [6000] σ σ' → skG 6000 83 0 (-1) P r XX σ' → grG 6000 83 0 σ σ' → faG 6000 83 0 P σ' m (P 3015 m) → Q none σ') : j3_tc false (d + 2) 91 [wO 6 83, wI m] σ Q := by
  have h80 := hW.2.1.2.1
  have hc10 := hW.1.2.1
  obtain ⟨-, -, q3, q4, -⟩ := hW.2.2.2 m m0 m1
  rw [e91, b91_0, hB.1.2.1, (hB.2.1.2.2.2 m m0 m1).1.2.2.2.1]
  refine ⟨hB.1.1.1, by omega, ?_⟩
  by_cases g : P 3014 m = 0
  · rw [if_pos g, b91_15]
    exact l91 (σ0 := σ) hW hB m0 m1 hm (P 3015 m).toNat 0 σ (by omega) (by omega) frm.rf hs ⟨fun q => by omega, fun p p0 p1 => by omega⟩ hQ
  · rw [if_neg g, wr_id (by omega) (by omega)]
    refine ⟨hB.1.1.1, by omega, ?_⟩
    refine s92 hs (fun q => ⟨by omega, by rw [show P 3014 m - 1 - 1 = P 3014 m - 2 by omega]; exact (kC_cl.2.2.2.1 m m0 m1 hm).2.1 (by omega)⟩) (fun σ1 f1 s1 g1 r1 => ?_)
    simp only [Option.toList_none, List.nil_append]
    rw [b91_15]
    refine l91 (σ0 := σ) hW hB m0 m1 hm (P 3015 m).toNat 0 σ1 (by omega) (by omega) f1 s1 ⟨fun q => ?_, fun p p0 p1 => by omega⟩ (fun σ2 f2 s2 g2 r2 => hQ σ2 f2 s2 (g1.tr g2) r2)
    rw [show P 3014 m - 2 = P 3014 m - 1 - 1 by omega]; exact r1 (by omega)
/-- the class c's members are marked -/
def meG (eb o : Nat) (mv : Int) (P : Pg) (r : Rs) (σ : j3_S) (c nf nm : Int) : Prop := (r.2.1 c = 1 → σ.2.2 (eb + 0) o c = mv) ∧ (∀ f, 0 ≤ f → f < nf → σ.2.2 (eb + 1) o (c * 6 + f) = mv → σ.2.2 (eb + 0) o c = mv ∧ (0 < P 3009 (c * 6 + f) → σ.2.2 (eb + 0) o (P 3009 (c * 6 + f) - 1) = mv)) ∧ ∀ k, 0 ≤ k → k < nm → σ.2.2 (eb + 2) o (P 3007 c + k) = mv → σ.2.2 (eb + 0) o c = mv ∧ faG eb o mv P σ (P 3007 c + k) (P 3015 (P 3007 c + k))
theorem meG.gr {eb o : Nat} {mv nf nm : Int} (hW : WFp P) (c0 : 0 ≤ c) (c1 : c < P 3000 0) (hn : nf ≤ P 3005 c) (hn' : nm ≤ P 3006 c) (h : meG eb o mv P r σ c nf nm) (hg : grG eb o mv σ σ') (e1 : σ'.2.2 (eb + 1) o = σ.2.2 (eb + 1) o) (e2 : σ'.2.2 (eb + 2) o = σ.2.2 (eb + 2) o) : meG eb o mv P r σ' c nf nm := by
  have hc := hW.1.2.1
  have hf := hW.2.2.1 c c0 c1
  have hm := hW.2.1.2.2 c c0 c1
  obtain ⟨h1, h2, h3⟩ := h
  refine ⟨fun g => hg 0 (by omega) c c0 (by show c < 10; omega) (h1 g), fun f f0 f1 g => ?_, fun k k0 k1 g => ?_⟩
  · rw [e1] at g
    obtain ⟨a1, a2⟩ := h2 f f0 f1 g
    have := hf.2.2 f f0 (by omega)
    exact ⟨hg 0 (by omega) c c0 (by show c < 10; omega) a1, fun q => hg 0 (by omega) _ (by omega) (by show P 3009 (c * 6 + f) - 1 < 10; omega) (a2 q)⟩
  · rw [e2] at g
    obtain ⟨a1, a2⟩ := h3 k k0 k1 g
    exact ⟨hg 0 (by omega) c c0 (by show c < 10; omega) a1, a2.gr hW (by omega) (by omega) (by omega) hg⟩
theorem l90f (hW : WFp P) (hg' : good P) (hB0 : kbC σ0 o o2 P r XX NL) (c0 : 0 ≤ c) (c1 : c < P 3000 0) : ∀ (n : Nat) (f : Int) (w3 : j3_W) (σ : j3_S), f + n = P 3005 c → 0 ≤ f → frm [] [6000] σ0 σ → skG 6000 83 0 (-1) P r XX σ → meG 6000 83 0 P r σ c f 0 → (∀ σ' w3, frm [] [6000] σ0 σ' → skG 6000 83 0 (-1) P r XX σ' → grG 6000 83 0 σ σ' → meG 6000 83 0 P r σ' c (P 3005 c) 0 → T90 (d + 2) Q 48 [wO 6 83, wI c, wI 0, w3] [] σ') → T90 (d + 2) Q 14 [wO 6 83, wI c, wI f, w3] [] σ
  | 0, f, w3, σ, hf', f0, hf, hs, hme, hQ => by
    have hB : kbC σ o o2 P r XX NL := hB0.fr hf ⟨rfl, rfl⟩ (la_ok rfl) rfl ⟨rfl, rfl⟩
    have hc10 := hW.1.2.1
    rw [b90_14, hB.1.2.1, (hB.2.1.2.2.1 c c0 c1).1.2.2.1, if_neg (by omega)]
    rw [show f = P 3005 c by omega] at hme
    exact ⟨hB.1.1.1, by omega, hQ σ w3 hf hs grG.rf hme⟩
  | n + 1, f, w3, σ, hf', f0, hf, hs, hme, hQ => by
    have hB : kbC σ o o2 P r XX NL := hB0.fr hf ⟨rfl, rfl⟩ (la_ok rfl) rfl ⟨rfl, rfl⟩
    have hc10 := hW.1.2.1
    have hff := hW.2.2.1 c c0 c1
    have tp := hff.2.2 f f0 (by omega)
    have hmm := hW.2.1.2.2 c c0 c1
    rw [b90_14, hB.1.2.1, (hB.2.1.2.2.1 c c0 c1).1.2.2.1, if_pos (by omega)]
    simp (disch := omega) only [wr_id]
    rw [((hB.2.1.2.2.1 c c0 c1).2 f f0 (by omega)).2.1]
    refine ⟨hB.1.1.1, by omega, by omega, ?_⟩
    by_cases g : σ.2.2 6001 83 (c * 6 + f) = 0
    · have hk : kF P r XX (c * 6 + f) := (hs 1 (by omega) (c * 6 + f) (by omega) (by show c * 6 + f < 60; omega)).2 g
      obtain ⟨kc1, kc2⟩ := kC_cl.2.2.1 c f c0 c1 f0 (by omega) hk
      rw [if_pos g]
      refine ⟨by omega, hB.1.1.1, by omega, ?_⟩
      obtain ⟨m1, m2, m3, m4⟩ := mkG (k := 0) hs (by omega) (show SK P r XX 0 c from kc1)
      have fm : frm [] [6000] σ (σ.1, σ.2.1, j3_ast σ.2.2 (6000 + 0) 83 c 0) := frm.A rfl frm.rf
      refine s92 m1 (fun q => ⟨by omega, kc2 q⟩) (fun σ1 f1 s1 g1 r1 => ?_)
      simp only [Option.toList_none, List.nil_append]
      rw [b90_44, wr_id (by omega) (by omega)]
      have F1 := fm.tr f1
      refine l90f hW hg' hB0 c0 c1 n (f + 1) _ σ1 (by omega) (by omega) (hf.tr F1) s1 ?_ (fun σ2 w3 f2 s2 g2 r2 => hQ σ2 w3 f2 s2 ((m2.tr g1).tr g2) r2)
      have hme1 := hme.gr hW c0 c1 (by omega) (by omega) (m2.tr g1) (F1.2.2 6001 83 rfl) (F1.2.2 6002 83 rfl)
      refine ⟨hme1.1, fun f' f0' f1' q => ?_, hme1.2.2⟩
      by_cases e : f' = f
      · rw [e]; exact ⟨g1 0 (by omega) c c0 (by show c < 10; omega) m4, r1⟩
      · exact hme1.2.1 f' f0' (by omega) q
    · rw [if_neg g, b90_44, wr_id (by omega) (by omega)]
      refine l90f hW hg' hB0 c0 c1 n (f + 1) _ σ (by omega) (by omega) hf hs ⟨hme.1, fun f' f0' f1' q => ?_, hme.2.2⟩ hQ
      by_cases e : f' = f
      · rw [e] at q; exact absurd q g
      · exact hme.2.1 f' f0' (by omega) q
theorem l90m (hW : WFp P) (hg' : good P) (hB0 : kbC σ0 o o2 P r XX NL) (c0 : 0 ≤ c) (c1 : c < P 3000 0) : ∀ (n : Nat) (k : Int) (w3 : j3_W) (σ : j3_S), k + n = P 3006 c → 0 ≤ k → frm [] [6000] σ0 σ → skG 6000 83 0 (-1) P r XX σ → meG 6000 83 0 P r σ c (P 3005 c) k → (∀ σ', frm [] [6000] σ0 σ' → skG 6000 83 0 (-1) P r XX σ' → grG 6000 83 0 σ σ' → meG 6000 83 0 P r σ' c (P 3005 c) (P 3006 c) → Q none σ') → T90 (d + 2) Q 48 [wO 6 83, wI c, wI k, w3] [] σ
  | 0, k, w3, σ, hf', f0, hf, hs, hme, hQ => by
    have hB : kbC σ o o2 P r XX NL := hB0.fr hf ⟨rfl, rfl⟩ (la_ok rfl) rfl ⟨rfl, rfl⟩
    have hc10 := hW.1.2.1
    rw [b90_48, hB.1.2.1, (hB.2.1.2.2.1 c c0 c1).1.2.2.2.1, if_neg (by omega)]
    rw [show k = P 3006 c by omega] at hme
    exact ⟨hB.1.1.1, by omega, hQ σ hf hs grG.rf hme⟩
  | n + 1, k, w3, σ, hf', k0, hf, hs, hme, hQ => by
    have hB : kbC σ o o2 P r XX NL := hB0.fr hf ⟨rfl, rfl⟩ (la_ok rfl) rfl ⟨rfl, rfl⟩
    have hc10 := hW.1.2.1
    have h80 := hW.2.1.2.1
    have hmm := hW.2.1.2.2 c c0 c1
    rw [b90_48, hB.1.2.1, (hB.2.1.2.2.1 c c0 c1).1.2.2.2.1, if_pos (by omega), (hB.2.1.2.2.1 c c0 c1).1.2.2.2.2]
    simp (disch := omega) only [wr_id]
    refine ⟨hB.1.1.1, by omega, hB.1.1.1, by omega, by omega, ?_⟩
    by_cases g : σ.2.2 6002 83 (P 3007 c + k) = 0
    · have hk : kM P r XX (P 3007 c + k) := (hs 2 (by omega) (P 3007 c + k) (by omega) (by show P 3007 c + k < 80; omega)).2 g
      have how := (hg'.2.1 c c0 c1).2 k k0 (by omega)
      obtain ⟨kc1, -⟩ := kC_cl.2.2.2.1 _ (by omega) (by omega) hk
      rw [how] at kc1
      rw [if_pos g]
      refine ⟨by omega, ?_⟩
      obtain ⟨m1, m2, m3, m4⟩ := mkG (k := 0) hs (by omega) (show SK P r XX 0 c from kc1)
      have fm : frm [] [6000] σ (σ.1, σ.2.1, j3_ast σ.2.2 (6000 + 0) 83 c 0) := frm.A rfl frm.rf
      have hB1 : kbC (σ.1, σ.2.1, j3_ast σ.2.2 (6000 + 0) 83 c 0) o o2 P r XX NL := hB.fr fm ⟨rfl, rfl⟩ (la_ok rfl) rfl ⟨rfl, rfl⟩
      refine s91 (d := d) hW hB1 (by omega) (by omega) hk m1 (fun σ1 f1 s1 g1 r1 => ?_)
      simp only [Option.toList_none, List.nil_append]
      rw [b90_76, wr_id (by omega) (by omega)]
      have F1 := fm.tr f1
      refine l90m hW hg' hB0 c0 c1 n (k + 1) _ σ1 (by omega) (by omega) (hf.tr F1) s1 ?_ (fun σ2 f2 s2 g2 r2 => hQ σ2 f2 s2 ((m2.tr g1).tr g2) r2)
      have hme1 := hme.gr hW c0 c1 (by omega) (by omega) (m2.tr g1) (F1.2.2 6001 83 rfl) (F1.2.2 6002 83 rfl)
      refine ⟨hme1.1, hme1.2.1, fun k' k0' k1' q => ?_⟩
      by_cases e : k' = k
      · rw [e]; exact ⟨g1 0 (by omega) c c0 (by show c < 10; omega) m4, r1⟩
      · exact hme1.2.2 k' k0' (by omega) q
    · rw [if_neg g, b90_76, wr_id (by omega) (by omega)]
      refine l90m hW hg' hB0 c0 c1 n (k + 1) _ σ (by omega) (by omega) hf hs ⟨hme.1, hme.2.1, fun k' k0' k1' q => ?_⟩ hQ
      by_cases e : k' = k
      · rw [e] at q; exact absurd q g
      · exact hme.2.2 k' k0' (by omega) q
theorem s90 (hg : good P) (hB : kbC σ o o2 P r XX NL) (c0 : 0 ≤ c) (c1 : c < P 3000 0) (hs : skG 6000 83 0 (-1) P r XX σ) (hQ : ∀ σ', frm [] [6000] σ σ' → skG 6000 83 0 (-1) P r XX σ' → grG 6000 83 0 σ σ' → meG 6000 83 0 P r σ' c (P 3005 c) (P 3006 c) → Q none σ') : j3_tc false (d + 3) 90 [wO 6 83, wI c] σ Q := by
  have hW := hg.1
  have hc10 := hW.1.2.1
  have hff := hW.2.2.1 c c0 c1
  have hmm := hW.2.1.2.2 c c0 c1
  rw [e90, b90_0, hB.2.2.2.2 c c0 (by omega)]
  refine ⟨by omega, ?_⟩
  have rest : ∀ σ1, frm [] [6000] σ σ1 → skG 6000 83 0 (-1) P r XX σ1 → grG 6000 83 0 σ σ1 → (r.2.1 c = 1 → σ1.2.2 (6000 + 0) 83 c = 0) → T90 (d + 2) Q 12 [wO 6 83, wI c, wM 2, wM 2] [] σ1 := by
    intro σ1 f1 s1 g1 r1
    have hB1 : kbC σ1 o o2 P r XX NL := hB.fr f1 ⟨rfl, rfl⟩ (la_ok rfl) rfl ⟨rfl, rfl⟩
    rw [b90_12]
    refine l90f (σ0 := σ1) hW hg hB1 c0 c1 (P 3005 c).toNat 0 _ σ1 (by omega) (by omega) frm.rf s1 ⟨r1, fun f f0 f1 => by omega, fun k k0 k1 => by omega⟩ (fun σ2 w3 f2 s2 g2 r2 => ?_)
    refine l90m (σ0 := σ1) hW hg hB1 c0 c1 (P 3006 c).toNat 0 _ σ2 (by omega) (by omega) f2 s2 r2 (fun σ3 f3 s3 g3 r3 => ?_)
    exact hQ σ3 (f1.tr f3) s3 (g1.tr (g2.tr g3)) r3
  by_cases g : r.2.1 c = 1
  · rw [if_pos g]
    obtain ⟨m1, m2, m3, m4⟩ := mkG (k := 0) hs (by omega) (show SK P r XX 0 c from kC_cl.1 c c0 c1 g)
    exact ⟨by omega, rest _ (frm.A rfl frm.rf) m1 m2 (fun _ => m4)⟩
  · rw [if_neg g]
    exact rest σ frm.rf hs grG.rf (fun q => absurd q g)
theorem tdG.gr {eb o : Nat} {mv n : Int} (hx : ∀ i, 0 ≤ i → i < n → WR P r ((XX m).op i) ((XX m).a i) ((XX m).b i)) (hW : WFp P) (h : tdG eb o mv P XX σ m n) (hg : grG eb o mv σ σ') : tdG eb o mv P XX σ' m n := by
  have hc10 := hW.1.2.1
  have h80 := hW.2.1.2.1
  intro i i0 i1
  obtain ⟨a1, a2, a3⟩ := h i i0 i1
  have w := hx i i0 i1
  refine ⟨fun g => ?_, fun g1 g2 => ?_, fun g => ?_⟩
  · have q1 := w.1 (by omega)
    have q2 := w.2.2.1 (by omega)
    have q3 := hW.2.1.2.2 _ q1.1 q1.2
    exact hg 2 (by omega) _ (by omega) (by show P 3007 ((XX m).a i) + (XX m).b i < 80; omega) (a1 g)
  · have q1 := w.1 (by omega)
    have q2 := (w.2.1 (by omega)).1
    have q3 := hW.2.2.1 _ q1.1 q1.2
    exact hg 1 (by omega) _ (by omega) (by show (XX m).a i * 6 + (XX m).b i < 60; omega) (a2 g1 g2)
  · have q1 := w.1 (by omega)
    exact hg 0 (by omega) _ (by omega) (by show (XX m).a i < 10; omega) (a3 g)
theorem l89 (hg : good P) (hxx : xxR P r XX NL) (hB0 : kbC σ0 o o2 P r XX NL) (m0 : 0 ≤ m) (m1 : m < P 3001 0) (hm : r.1 m = 1) : ∀ (n : Nat) (i : Int) (w4 w5 : j3_W) (σ : j3_S), i + n = (XX m).n → 0 ≤ i → frm [] (mkE 6000) σ0 σ → skG 6000 83 0 (-1) P r XX σ → tdG 6000 83 0 P XX σ m i → (∀ σ', frm [] (mkE 6000) σ0 σ' → skG 6000 83 0 (-1) P r XX σ' → grG 6000 83 0 σ σ' → tdG 6000 83 0 P XX σ' m (XX m).n → Q none σ') → T89 d Q 6 [wO 6 83, wI m, wI (m * 120), wI (m * 120 + i), w4, w5] [] σ
  | 0, i, w4, w5, σ, hi, i0, hf, hs, htd, hQ => by
    have hB : kbC σ o o2 P r XX NL := hB0.fr hf ⟨rfl, rfl⟩ (la_ok rfl) rfl ⟨rfl, rfl⟩
    have h80 := hg.1.2.1.2.1
    have ok := (hxx.2 m m0 m1 hm).1.1
    rw [b89_6, hB.1.2.2, (hB.2.2.1 m m0 m1 hm).1, wr_id (by omega) (by omega), if_neg (by omega)]
    rw [show i = (XX m).n by omega] at htd
    exact ⟨hB.1.1.2, by omega, hQ σ hf hs grG.rf htd⟩
  | n + 1, i, w4, w5, σ, hi, i0, hf, hs, htd, hQ => by
    have hB : kbC σ o o2 P r XX NL := hB0.fr hf ⟨rfl, rfl⟩ (la_ok rfl) rfl ⟨rfl, rfl⟩
    have h80 := hg.1.2.1.2.1
    have hc10 := hg.1.1.2.1
    have okx := (hxx.2 m m0 m1 hm).1
    have ok := okx.1
    have w := xx_W hxx m0 m1 hm i0 (show i < (XX m).n by omega)
    have oo := (okx.2 i i0 (by omega)).1
    have ic : inC P r XX m i := ⟨⟨m0, m1⟩, hm, i0, by omega⟩
    obtain ⟨e1, e2, e3, -, -, -⟩ := (hB.2.2.1 m m0 m1 hm).2.2 i i0 (by omega)
    rw [b89_6, hB.1.2.2, (hB.2.2.1 m m0 m1 hm).1, wr_id (z := m * 120 + (XX m).n) (by omega) (by omega), if_pos (by omega), e1, e2, e3]
    refine ⟨hB.1.1.2, by omega, hB.1.1.2, by omega, hB.1.1.2, by omega, ?_⟩
    -- on
    have nx : ∀ σ1 (w4 w5 : Int), frm [] (mkE 6000) σ σ1 → skG 6000 83 0 (-1) P r XX σ1 → grG 6000 83 0 σ σ1 → tdG 6000 83 0 P XX σ1 m (i + 1) → T89 d Q 81 [wO 6 83, wI m, wI (m * 120), wI (m * 120 + i), wI w4, wI w5] [] σ1 := by
      intro σ1 w4 w5 f1 s1 g1 t1
      rw [b89_81, wr_id (by omega) (by omega), show m * 120 + i + 1 = m * 120 + (i + 1) by omega]
      exact l89 hg hxx hB0 m0 m1 hm n (i + 1) _ _ σ1 (by omega) (by omega) (hf.tr f1) s1 t1 (fun σ2 f2 s2 g2 t2 => hQ σ2 f2 s2 (g1.tr g2) t2)
    have td1 : ∀ σ1, grG 6000 83 0 σ σ1 → ((XX m).op i = 21 → σ1.2.2 (6000 + 2) 83 (P 3007 ((XX m).a i) + (XX m).b i) = 0) ∧ (16 ≤ (XX m).op i → (XX m).op i ≤ 19 → σ1.2.2 (6000 + 1) 83 ((XX m).a i * 6 + (XX m).b i) = 0) ∧ ((XX m).op i = 24 ∨ (XX m).op i = 25 → σ1.2.2 (6000 + 0) 83 ((XX m).a i) = 0) → tdG 6000 83 0 P XX σ1 m (i + 1) := by
      intro σ1 g1 h1 j j0 j1
      by_cases e : j = i
      · subst e; exact h1
      · exact (htd.gr (r := r) (fun j j0 j1 => xx_W hxx m0 m1 hm j0 (by omega)) hg.1 g1) j j0 (by omega)
    generalize hop : (XX m).op i = op at *
    generalize haa : (XX m).a i = aa at *
    generalize hbb : (XX m).b i = bb at *
    have cls : (op = 24 ∨ op = 25) → T89 d Q 36 [wO 6 83, wI m, wI (m * 120), wI (m * 120 + i), wI op, wI aa] [] σ := by
      intro g
      have q1 := w.1 (by omega)
      obtain ⟨k1, k2, k3, k4⟩ := mkG (k := 0) hs (by omega) (show SK P r XX 0 aa from by rw [← haa]; exact kC_cl.2.1 m i ic (by rw [hop]; exact g))
      rw [b89_36]
      exact ⟨by omega, nx _ _ _ k3 k1 k2 (td1 _ k2 ⟨fun q => by omega, fun q1 q2 => by omega, fun _ => k4⟩)⟩
    by_cases g24 : op = 24
    · rw [if_pos g24]; exact cls (Or.inl g24)
    · rw [if_neg g24]
      by_cases g25 : op = 25
      · rw [if_pos g25]; exact cls (Or.inr g25)
      · rw [if_neg g25]
        by_cases g21 : op = 21
        · have q1 := w.1 (by omega)
          have q2 := w.2.2.1 (by omega)
          have q3 := hg.1.2.1.2.2 _ q1.1 q1.2
          rw [if_pos g21, hB.1.2.1, (hB.2.1.2.2.1 _ q1.1 q1.2).1.2.2.2.2, wr_id (by omega) (by omega)]
          obtain ⟨k1, k2, k3, k4⟩ := mkG (k := 2) hs (by omega) (show SK P r XX 2 (P 3007 aa + bb) from Or.inr ⟨m, i, ic, by rw [hop]; exact g21, by rw [haa, hbb]⟩)
          exact ⟨hB.1.1.1, by omega, hB.1.1.2, by omega, by omega, nx _ _ _ k3 k1 k2 (td1 _ k2 ⟨fun _ => k4, fun q1 q2 => by omega, fun q => by omega⟩)⟩
        · rw [if_neg g21, tls_v oo.1 oo.2]
          refine ⟨by omega, ?_⟩
          by_cases g5 : 16 ≤ op ∧ op ≤ 19
          · have q1 := w.1 (by omega)
            have q2 := (w.2.1 (by omega)).1
            have q3 := hg.1.2.2.1 _ q1.1 q1.2
            rw [if_neg (by omega : ¬ op = 0), if_neg (by omega : ¬ (op = 2 ∨ op = 3)), if_neg (by omega : ¬ (11 ≤ op ∧ op ≤ 14)), if_neg (by omega : ¬ (op = 15 ∨ op = 24 ∨ op = 25)), if_pos g5, if_pos rfl]
            simp (disch := omega) only [wr_id]
            obtain ⟨k1, k2, k3, k4⟩ := mkG (k := 1) hs (by omega) (show SK P r XX 1 (aa * 6 + bb) from ⟨m, i, ic, by rw [hop]; exact g5, by rw [haa, hbb]⟩)
            exact ⟨hB.1.1.2, by omega, by omega, nx _ _ _ k3 k1 k2 (td1 _ k2 ⟨fun q => absurd q g21, fun _ _ => k4, fun q => by omega⟩)⟩
          · have : ¬ (if op = 0 then (1 : Int) else if op = 2 ∨ op = 3 then 2 else if 11 ≤ op ∧ op ≤ 14 then 3 else if op = 15 ∨ op = 24 ∨ op = 25 then 4 else if 16 ≤ op ∧ op ≤ 19 then 5 else if op = 20 ∨ op = 21 then 6 else 0) = 5 := by
              rw [if_neg g5]
              split
              · omega
              · split
                · omega
                · split
                  · omega
                  · split
                    · omega
                    · split <;> omega
            rw [if_neg this]
            exact nx _ _ _ frm.rf hs grG.rf (td1 _ grG.rf ⟨fun q => absurd q g21, fun q1 q2 => absurd ⟨q1, q2⟩ g5, fun q => by omega⟩)
theorem s89 (hg : good P) (hxx : xxR P r XX NL) (hB : kbC σ o o2 P r XX NL) (m0 : 0 ≤ m) (m1 : m < P 3001 0) (hm : r.1 m = 1) (hs : skG 6000 83 0 (-1) P r XX σ) (hQ : ∀ σ', frm [] (mkE 6000) σ σ' → skG 6000 83 0 (-1) P r XX σ' → grG 6000 83 0 σ σ' → tdG 6000 83 0 P XX σ' m (XX m).n → Q none σ') : j3_tc false (d + 1) 89 [wO 6 83, wI m] σ Q := by
  have h80 := hg.1.2.1.2.1
  have ok := (hxx.2 m m0 m1 hm).1.1
  rw [e89, b89_0, wr_id (by omega) (by omega)]
  have := l89 (σ0 := σ) (d := d) hg hxx hB m0 m1 hm (XX m).n.toNat 0 (wM 2) (wM 2) σ (by omega) (by omega) frm.rf hs (fun i i0 i1 => by omega) hQ
  rw [show m * 120 + 0 = m * 120 by omega] at this
  exact this
end CKEEP
