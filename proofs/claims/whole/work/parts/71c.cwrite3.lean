/-! the small program's classes, written in the class: the whole -/
def wrC (σ : j3_S) (P : Pg) (r : Rs) (XX : Int → Sx) (NL : Int → Int) (o2 : Nat) (c mm : Int) : Prop := (∀ c', 0 ≤ c' → c' < c → kC P r XX c' → spC P r XX (PgC σ o2) c' ∧ σ.2.2 3004 o2 (nC P r XX c') = P 3004 c' ∧ ∀ f, 0 ≤ f → f < P 3005 c' → kFc P r XX c' f → spF P r XX (PgC σ o2) c' f) ∧ ∀ m, 0 ≤ m → m < mm → kM P r XX m → spM P r XX NL (PgC σ o2) m ∧ σ.2.2 3012 o2 (nM P r XX m) = nam P r XX m
section CWRITE3
variable {σ σ' σ'' σ0 : j3_S} {P : Pg} {r : Rs} {XX : Int → Sx} {NL : Int → Int} {o o2 d : Nat} {x c m i w k n v cB mB mm : Int} {Q : j3_P} {q : Int → Prop}
theorem nB_none {a : Int} (a0 : 0 ≤ a) : ∀ k : Nat, (∀ x, a ≤ x → x < a + k → ¬ q x) → nB q (a + k) = nB q a
  | 0, _ => by rw [show a + ((0 : Nat) : Int) = a by omega]
  | k + 1, h => by
    rw [show a + ((k + 1 : Nat) : Int) = a + k + 1 by push_cast; omega, nB_n (by omega) (h _ (by omega) (by push_cast; omega)), nB_none a0 k (fun x x0 x1 => h x x0 (by push_cast; omega))]
theorem spC.mv (h : spC P r XX (PgC σ o2) c) (he : ∀ e, 3002 ≤ e → e ≤ 3007 → σ'.2.2 e o2 (nC P r XX c) = σ.2.2 e o2 (nC P r XX c)) : spC P r XX (PgC σ' o2) c := by
  unfold spC at h ⊢
  rw [PgC_e (by omega), PgC_e (by omega), PgC_e (by omega), PgC_e (by omega), PgC_e (by omega)] at h ⊢
  rw [he 3002 (by omega) (by omega), he 3003 (by omega) (by omega), he 3005 (by omega) (by omega), he 3006 (by omega) (by omega), he 3007 (by omega) (by omega)]
  exact h
theorem spM.mv (h : spM P r XX NL (PgC σ o2) m) (hp3 : P 3015 m ≤ 3) (he : ∀ e z, (3011 ≤ e ∧ e ≤ 3017 ∧ ¬ e = 3016 ∧ z = nM P r XX m) ∨ (e = 3016 ∧ nM P r XX m * 3 ≤ z ∧ z < nM P r XX m * 3 + 3) → σ'.2.2 e o2 z = σ.2.2 e o2 z) : spM P r XX NL (PgC σ' o2) m := by
  obtain ⟨h1, h2, h3⟩ := h
  rw [PgC_e (by omega), PgC_e (by omega), PgC_e (by omega), PgC_e (by omega)] at h1
  rw [PgC_e (by omega)] at h3
  refine ⟨?_, fun p p0 p1 => ?_, ?_⟩
  · rw [PgC_e (by omega), PgC_e (by omega), PgC_e (by omega), PgC_e (by omega), he 3011 _ (by omega), he 3013 _ (by omega), he 3014 _ (by omega), he 3015 _ (by omega)]
    exact h1
  · have := h2 p p0 p1
    rw [PgC_e (by omega)] at this ⊢
    rw [he 3016 _ (by omega)]; exact this
  · rw [PgC_e (by omega), he 3017 _ (by omega)]; exact h3
theorem wrC.keep (hg : good P) (h : wrC σ P r XX NL o2 c mm) (c1 : c ≤ P 3000 0) (mm0 : mm ≤ P 3001 0) (hf : lwF o2 cB mB σ σ') (hc : nB (kC P r XX) c ≤ cB) (hm : nB (kM P r XX) mm ≤ mB) : wrC σ' P r XX NL o2 c mm := by
  refine ⟨fun c' c0' c1' hk => ?_, fun m m0 m1 hk => ?_⟩
  · obtain ⟨a1, a2, a3⟩ := h.1 c' c0' c1' hk
    have lt := nB_lt c0' c1' hk
    have ec : nC P r XX c' = nB (kC P r XX) c' := nw_k hk
    have hz : ∀ e, 3002 ≤ e → e ≤ 3007 → σ'.2.2 e o2 (nC P r XX c') = σ.2.2 e o2 (nC P r XX c') := fun e e0 e1 => hf.2.2 e _ e0 (by omega) (by unfold lwz; rw [if_pos e1]; omega)
    refine ⟨a1.mv hz, by rw [hz 3004 (by omega) (by omega)]; exact a2, fun f f0 f1 hk' => (a3 f f0 f1 hk').mv (fun e e0 e1 => hf.2.2 e _ (by omega) (by omega) ?_)⟩
    have ef : nF P r XX c' f = nB (kFc P r XX c') f := nw_k hk'
    have lf := nB_le (q := kFc P r XX c') f0
    have := hg.1.2.2.1 c' c0' (by omega)
    unfold lwz
    rw [if_neg (by omega), if_pos e1]
    omega
  · obtain ⟨a1, a2⟩ := h.2 m m0 m1 hk
    have lt := nB_lt m0 m1 hk
    have em : nM P r XX m = nB (kM P r XX) m := nw_k hk
    have p3 := (hg.1.2.2.2 m m0 (by omega)).2.2.2.1.2.1
    refine ⟨a1.mv p3 (fun e z he => hf.2.2 e z (by omega) (by omega) ?_), by rw [hf.2.2 3012 _ (by omega) (by omega) (by show _ < mB; omega)]; exact a2⟩
    unfold lwz
    rcases he with ⟨e0, e1, e2, e3⟩ | ⟨e0, e1, e2⟩
    · rw [if_neg (by omega), if_neg (by omega), if_neg e2]; omega
    · rw [if_neg (by omega), if_neg (by omega), if_pos e0]; omega
/-- what stays for the loop -/
def wbC (σ : j3_S) (o o2 : Nat) (P : Pg) (r : Rs) (XX : Int → Sx) (NL : Int → Int) : Prop := kbC σ o o2 P r XX NL ∧ nuC σ P r XX ∧ (∀ z, 0 ≤ z → z < P 3001 0 → kM P r XX z → σ.2.2 6011 83 z = nam P r XX z) ∧ ∀ c, 0 ≤ c → c < P 3000 0 → σ.2.2 3004 o c = P 3004 c
theorem wbC.mv (h : wbC σ o o2 P r XX NL) (hf : lwF o2 cB mB σ σ') (hoo : ¬ o = o2 ∧ ¬ o = o2 + 17 ∧ ¬ o + 17 = o2) : wbC σ' o o2 P r XX NL := ⟨hf.kb h.1 hoo, hf.nu h.2.1, by rw [hf.2.1 6011 83 (by omega)]; exact h.2.2.1, by rw [hf.2.1 3004 o (by omega)]; exact h.2.2.2⟩
theorem l98m (hg : good P) (hoo : ¬ o = o2 ∧ ¬ o = o2 + 17 ∧ ¬ o + 17 = o2) (hB0 : wbC σ0 o o2 P r XX NL) (c0 : 0 ≤ c) (c1 : c < P 3000 0) (hc : kC P r XX c) {x4 : Int} : ∀ (n : Nat) (k : Int) (σ : j3_S), k + n = P 3006 c → 0 ≤ k → lwF o2 10 (nB (kM P r XX) (P 3007 c)) σ0 σ → (∀ e, e < 3011 → σ.2.2 e o2 = σ0.2.2 e o2) → (∀ m, P 3007 c ≤ m → m < P 3007 c + k → kM P r XX m → spM P r XX NL (PgC σ o2) m ∧ σ.2.2 3012 o2 (nM P r XX m) = nam P r XX m) → σ0.2.2 3007 o2 (nC P r XX c) = nB (kM P r XX) (P 3007 c) → (∀ σ' x5, lwF o2 10 (nB (kM P r XX) (P 3007 c)) σ0 σ' → (∀ e, e < 3011 → σ'.2.2 e o2 = σ0.2.2 e o2) → (∀ m, P 3007 c ≤ m → m < P 3007 c + P 3006 c → kM P r XX m → spM P r XX NL (PgC σ' o2) m ∧ σ'.2.2 3012 o2 (nM P r XX m) = nam P r XX m) → T98 (d + 2) Q 116 [wO 6 83, wI (nB (kM P r XX) (P 3007 c + P 3006 c)), wI c, wI (nC P r XX c), wI x4, wI x5] [] (σ'.1, σ'.2.1, j3_ast σ'.2.2 3006 o2 (nC P r XX c) (nB (kM P r XX) (P 3007 c + P 3006 c) - nB (kM P r XX) (P 3007 c)))) → T98 (d + 2) Q 72 [wO 6 83, wI (nB (kM P r XX) (P 3007 c + k)), wI c, wI (nC P r XX c), wI x4, wI k] [] σ
  | 0, k, σ, hk, k0, hf, hr, hs, h7, hQ => by
    have hB := (hB0.mv hf hoo).1
    have hc10 := hg.1.1.2.1
    have h80 := hg.1.2.1.2.1
    have hm3 := hg.1.2.1.2.2 c c0 c1
    have ncb := nw_b (n := P 3000 0) c0 c1 hc
    have enc : nC P r XX c = nwN (kC P r XX) c := rfl
    have nl := nB_le (q := kM P r XX) (x := P 3007 c + P 3006 c) (by omega)
    have n0 := nB_p (q := kM P r XX) (x := P 3007 c)
    have n1 := nB_mo (q := kM P r XX) (x := P 3007 c) (y := P 3007 c + P 3006 c) (by omega) (by omega)
    rw [b98_72, hB.1.2.1, (hB.2.1.2.2.1 c c0 c1).1.2.2.2.1, if_neg (by omega), hB.1.2.2, hr 3007 (by omega), h7]
    rw [show k = P 3006 c by omega] at hs ⊢
    rw [wr_id (by omega) (by omega)]
    exact ⟨hB.1.1.1, by omega, hB.1.1.2, hB.1.1.2, by omega, by omega, hQ σ _ hf hr hs⟩
  | n + 1, k, σ, hk, k0, hf, hr, hs, h7, hQ => by
    have hWB := hB0.mv hf hoo
    obtain ⟨hB, hn, hna, -⟩ := id hWB
    have hc10 := hg.1.1.2.1
    have h80 := hg.1.2.1.2.1
    have hm3 := hg.1.2.1.2.2 c c0 c1
    have nl := nB_le (q := kM P r XX) (x := P 3007 c + k) (by omega)
    have n0 := nB_p (q := kM P r XX) (x := P 3007 c + k)
    have ow := (hg.2.1 c c0 c1).2 k k0 (by omega)
    rw [b98_72, hB.1.2.1, (hB.2.1.2.2.1 c c0 c1).1.2.2.2.1, if_pos (by omega), (hB.2.1.2.2.1 c c0 c1).1.2.2.2.2, wr_id (by omega) (by omega), hn.2.2 (P 3007 c + k) (by omega) (by omega)]
    refine ⟨hB.1.1.1, by omega, hB.1.1.1, by omega, by omega, ?_⟩
    have e1 : P 3007 c + (k + 1) = P 3007 c + k + 1 := by omega
    by_cases gk : kM P r XX (P 3007 c + k)
    · have nn := nw_b (n := P 3001 0) (x := P 3007 c + k) (by omega) (by omega) gk
      have em : nM P r XX (P 3007 c + k) = nB (kM P r XX) (P 3007 c + k) := nw_k gk
      have em' : nM P r XX (P 3007 c + k) = nwN (kM P r XX) (P 3007 c + k) := rfl
      rw [if_neg (by omega)]
      refine ⟨hB.1.1.1, by omega, ?_⟩
      have := s101 (d := d) (Q := fun r_1 σ1 => T98 (d + 2) Q 101 [wO 6 83, wI (nB (kM P r XX) (P 3007 c + k)), wI c, wI (nC P r XX c), wI x4, wI k] (r_1.toList ++ []) σ1) hg hoo hB hn hna (m := P 3007 c + k) (by omega) (by omega) gk (fun σ1 f1 r1 t1 t2 => ?_)
      · rw [ow] at this; exact this
      · simp only [Option.toList_none, List.nil_append]
        rw [b98_101, wr_id (by omega) (by omega), b98_102, wr_id (by omega) (by omega), ← nB_k (by omega) gk, ← e1]
        have mo := nB_mo (q := kM P r XX) (x := P 3007 c) (y := P 3007 c + k) (by omega) (by omega)
        refine l98m hg hoo hB0 c0 c1 hc n (k + 1) σ1 (by omega) (by omega) (hf.tr f1 (by omega) (by omega)) (fun e he => (r1 e he).trans (hr e he)) (fun m m0 m1 q => ?_) h7 hQ
        by_cases e : m = P 3007 c + k
        · rw [e]; exact ⟨t1, t2⟩
        · obtain ⟨a1, a2⟩ := hs m m0 (by omega) q
          have lt := nB_lt (q := kM P r XX) (x := m) (y := P 3007 c + k) (by omega) (by omega) q
          have en : nM P r XX m = nB (kM P r XX) m := nw_k q
          have p3 := (hg.1.2.2.2 m (by omega) (by omega)).2.2.2.1.2.1
          refine ⟨a1.mv p3 (fun e z he => f1.2.2 e z (by omega) (by omega) ?_), by rw [f1.2.2 3012 _ (by omega) (by omega) (by show _ < nM P r XX (P 3007 c + k); omega)]; exact a2⟩
          unfold lwz
          rcases he with ⟨e0, e1, e2, e3⟩ | ⟨e0, e1, e2⟩
          · rw [if_neg (by omega), if_neg (by omega), if_neg e2]; omega
          · rw [if_neg (by omega), if_neg (by omega), if_pos e0]; omega
    · have em : nM P r XX (P 3007 c + k) = -1 := nw_n gk
      rw [em, if_pos (by rfl), b98_102, wr_id (by omega) (by omega), ← nB_n (by omega) gk, ← e1]
      refine l98m hg hoo hB0 c0 c1 hc n (k + 1) σ (by omega) (by omega) hf hr (fun m m0 m1 q => ?_) h7 hQ
      by_cases e : m = P 3007 c + k
      · rw [e] at q; exact absurd q gk
      · exact hs m m0 (by omega) q
theorem l98c (hg : good P) (hoo : ¬ o = o2 ∧ ¬ o = o2 + 17 ∧ ¬ o + 17 = o2) (hB0 : wbC σ0 o o2 P r XX NL) : ∀ (n : Nat) (c : Int) (w3 w4 w5 : j3_W) (σ : j3_S), c + n = P 3000 0 → 0 ≤ c → lwF o2 0 0 σ0 σ → wrC σ P r XX NL o2 c (ptM P c) → (∀ σ', lwF o2 0 0 σ0 σ' → wrC σ' P r XX NL o2 (P 3000 0) (P 3001 0) → Q none σ') → T98 (d + 2) Q 4 [wO 6 83, wI (nB (kM P r XX) (ptM P c)), wI c, w3, w4, w5] [] σ
  | 0, c, w3, w4, w5, σ, hc, c0, hf, hw, hQ => by
    have hB := (hB0.mv hf hoo).1
    rw [b98_4, hB.1.2.1, hB.2.1.1, if_neg (by omega)]
    have e : ptM P c = P 3001 0 := by unfold ptM; rw [if_neg (by omega)]
    rw [show c = P 3000 0 by omega] at hw e
    rw [e] at hw
    exact ⟨hB.1.1.1, hQ σ hf hw⟩
  | n + 1, c, w3, w4, w5, σ, hc', c0, hf, hw, hQ => by
    have hWB := hB0.mv hf hoo
    obtain ⟨hB, hn, hna, hdp⟩ := id hWB
    have hc10 := hg.1.1.2.1
    have h80 := hg.1.2.1.2.1
    have c1 : c < P 3000 0 := by omega
    have hm3 := hg.1.2.1.2.2 c c0 c1
    have hsu := hg.1.1.2.2 c c0 c1
    have ep := ptM_c (P := P) c1
    have es := ptM_s hg c0 c1
    have nl := nB_le (q := kM P r XX) (x := P 3007 c) (by omega)
    have n0 := nB_p (q := kM P r XX) (x := P 3007 c)
    rw [b98_4, hB.1.2.1, hB.2.1.1, if_pos (by omega), hn.1 c c0 c1]
    refine ⟨hB.1.1.1, by omega, ?_⟩
    by_cases gk : kC P r XX c
    · have ncb := nw_b (n := P 3000 0) c0 c1 gk
      have enc : nC P r XX c = nwN (kC P r XX) c := rfl
      have enB : nC P r XX c = nB (kC P r XX) c := nw_k gk
      have nlc := nB_le (q := kC P r XX) (x := P 3000 0) (by omega)
      rw [if_neg (by omega), (hB.2.1.2.2.1 c c0 c1).1.2.1, hB.1.2.2, wr_id (by omega) (by omega)]
      refine ⟨hB.1.1.1, by omega, hB.1.1.2, by omega, hB.1.1.2, ?_⟩
      generalize hσ1 : ((σ.1, σ.2.1, j3_ast σ.2.2 3002 o2 (nC P r XX c) (nC P r XX c + 1)) : j3_S) = σ1
      have f1 : lwF o2 (nC P r XX c) 80 σ σ1 := by rw [← hσ1]; exact lwF.ast (by omega) (by omega) (by show nC P r XX c ≤ _; omega)
      have key : ∀ v, (v = if P 3003 c < 0 then -1 else nC P r XX (P 3003 c)) → T98 (d + 2) Q 44 [wO 6 83, wI (nB (kM P r XX) (ptM P c)), wI c, wI (nC P r XX c), wI (P 3003 c), w5] [wI v, wI (nC P r XX c), wA 3003 o2] σ1 := by
        intro v hv
        have hW1 := hWB.mv f1 hoo
        rw [b98_44, hW1.1.1.2.1, hW1.1.1.2.2, hW1.2.2.2 c c0 c1]
        refine ⟨by omega, hB.1.1.2, hB.1.1.1, by omega, by omega, hB.1.1.2, ?_⟩
        generalize hσ2 : ((σ1.1, σ1.2.1, j3_ast (j3_ast σ1.2.2 3003 o2 (nC P r XX c) v) 3004 o2 (nC P r XX c) (P 3004 c)) : j3_S) = σ2
        have f2 : lwF o2 (nC P r XX c) 80 σ1 σ2 := by
          rw [← hσ2]
          exact (lwF.ast (e := 3003) (by omega) (by omega) (by show nC P r XX c ≤ _; omega)).tr (lwF.ast (σ := (σ1.1, σ1.2.1, j3_ast σ1.2.2 3003 o2 (nC P r XX c) v)) (e := 3004) (cB := nC P r XX c) (mB := 80) (by omega) (by omega) (by show nC P r XX c ≤ _; omega)) (by omega) (by omega)
        have a2 : σ2.2.2 3002 o2 (nC P r XX c) = nC P r XX c + 1 := by
          rw [← hσ2, ← hσ1]; simp only [j3_ast]; rw [up_e rfl, up_e rfl, up_r, iu_r]
        have a3 : σ2.2.2 3003 o2 (nC P r XX c) = v := by
          rw [← hσ2]; simp only [j3_ast]; rw [up_e rfl, up_r, iu_r]
        have a4 : σ2.2.2 3004 o2 (nC P r XX c) = P 3004 c := by
          rw [← hσ2]; simp only [j3_ast]; rw [up_r, iu_r]
        have hW2 := hW1.mv f2 hoo
        rw [e99, b99_0]
        have hff := hg.1.2.2.1 c c0 c1
        have := l99 (d := d) (Q := fun r_1 σ1 => T98 (d + 2) Q 63 [wO 6 83, wI (nB (kM P r XX) (ptM P c)), wI c, wI (nC P r XX c), wI (P 3003 c), w5] (r_1.toList ++ [wI (nC P r XX c), wA 3005 o2]) σ1) (σ0 := σ2) hg hoo hW2.1 hW2.2.1 c0 c1 gk (P 3005 c).toNat 0 (wM 2) (wM 2) σ2 (by omega) (by omega) lwF.rf (fun _ _ => rfl) (fun f' f0 f1 => by omega) (fun σ3 f3 r3 t3 => ?_)
        · rw [nB_0] at this; exact this
        · simp only [Option.toList_some, List.cons_append, List.nil_append]
          have hW3 := hW2.mv f3 hoo
          rw [b98_63, hW3.1.1.2.2]
          refine ⟨by omega, hB.1.1.2, by omega, ?_⟩
          generalize hσ4 : ((σ3.1, σ3.2.1, j3_ast (j3_ast σ3.2.2 3005 o2 (nC P r XX c) (nB (kFc P r XX c) (P 3005 c))) 3007 o2 (nC P r XX c) (nB (kM P r XX) (ptM P c))) : j3_S) = σ4
          have f4 : lwF o2 (nC P r XX c) 80 σ3 σ4 := by
            rw [← hσ4]
            exact (lwF.ast (e := 3005) (by omega) (by omega) (by show nC P r XX c ≤ _; omega)).tr (lwF.ast (σ := (σ3.1, σ3.2.1, j3_ast σ3.2.2 3005 o2 (nC P r XX c) (nB (kFc P r XX c) (P 3005 c)))) (e := 3007) (cB := nC P r XX c) (mB := 80) (by omega) (by omega) (by show nC P r XX c ≤ _; omega)) (by omega) (by omega)
          have b5 : σ4.2.2 3005 o2 (nC P r XX c) = nB (kFc P r XX c) (P 3005 c) := by
            rw [← hσ4]; simp only [j3_ast]; rw [up_e rfl, up_r, iu_r]
          have b7 : σ4.2.2 3007 o2 (nC P r XX c) = nB (kM P r XX) (P 3007 c) := by
            rw [← hσ4, ← ep]; simp only [j3_ast]; rw [up_r, iu_r]
          have bo : ∀ e, ¬ e = 3005 → ¬ e = 3007 → σ4.2.2 e o2 = σ3.2.2 e o2 := fun e e1 e2 => by
            rw [← hσ4]; simp only [j3_ast]; rw [up_ne (fun q => e2 q.1), up_ne (fun q => e1 q.1)]
          have hW4 := hW3.mv f4 hoo
          have F4 : lwF o2 (nC P r XX c) 80 σ σ4 := ((f1.tr f2 (by omega) (by omega)).tr f3 (by omega) (by omega)).tr f4 (by omega) (by omega)
          have := l98m (d := d) (Q := Q) (x4 := P 3003 c) (σ0 := σ4) hg hoo hW4 c0 c1 gk (P 3006 c).toNat 0 σ4 (by omega) (by omega) lwF.rf (fun _ _ => rfl) (fun m m0 m1 => by omega) b7 (fun σ5 x5 f5 r5 t5 => ?_)
          · rw [show P 3007 c + 0 = P 3007 c by omega] at this
            rw [ep]; exact this
          · rw [b98_116, wr_id (by omega) (by omega), ← es]
            generalize hσ6 : ((σ5.1, σ5.2.1, j3_ast σ5.2.2 3006 o2 (nC P r XX c) (nB (kM P r XX) (ptM P (c + 1)) - nB (kM P r XX) (P 3007 c))) : j3_S) = σ6
            have f6 : lwF o2 (nC P r XX c) 80 σ5 σ6 := by rw [← hσ6]; exact lwF.ast (by omega) (by omega) (by show nC P r XX c ≤ _; omega)
            have d6 : σ6.2.2 3006 o2 (nC P r XX c) = nB (kM P r XX) (ptM P (c + 1)) - nB (kM P r XX) (P 3007 c) := by
              rw [← hσ6]; simp only [j3_ast]; rw [up_r, iu_r]
            have do' : ∀ e, ¬ e = 3006 → σ6.2.2 e o2 = σ5.2.2 e o2 := fun e e1 => by
              rw [← hσ6]; simp only [j3_ast]; rw [up_ne (fun q => e1 q.1)]
            have F46 : lwF o2 (nC P r XX c) (nB (kM P r XX) (P 3007 c)) σ4 σ6 := by
              have g5 : lwF o2 (nC P r XX c) (nB (kM P r XX) (P 3007 c)) σ4 σ5 := ⟨f5.1, f5.2.1, fun e z e0 e1 hz => f5.2.2 e z e0 e1 (by have := lwz_m (e := e) (cB := nC P r XX c) (cB' := 10) (mB := nB (kM P r XX) (P 3007 c)) (mB' := nB (kM P r XX) (P 3007 c)) (by omega) (by omega); omega)⟩
              exact g5.tr f6 (by omega) (by omega)
            have F : lwF o2 (nC P r XX c) (nB (kM P r XX) (P 3007 c)) σ σ6 := by
              have g4 : lwF o2 (nC P r XX c) (nB (kM P r XX) (P 3007 c)) σ σ4 := ⟨F4.1, F4.2.1, fun e z e0 e1 hz => F4.2.2 e z e0 e1 (by have := lwz_m (e := e) (cB := nC P r XX c) (cB' := nC P r XX c) (mB := nB (kM P r XX) (P 3007 c)) (mB' := 80) (by omega) (by omega); omega)⟩
              exact g4.tr F46 (by omega) (by omega)
            have F0 : lwF o2 0 0 σ0 σ6 := hf.tr F (by omega) (by omega)
            have hwk := hw.keep hg (by omega) (by rw [ep]; omega) F (by omega) (by rw [ep]; omega)
            refine l98c hg hoo hB0 n (c + 1) _ _ _ σ6 (by omega) (by omega) F0 ⟨fun c' c0' c1' hk' => ?_, fun m m0 m1 hk' => ?_⟩ hQ
            · by_cases e : c' = c
              · rw [e]
                have rr : ∀ e, ¬ e = 3006 → e < 3011 → ¬ e = 3005 → ¬ e = 3007 → σ6.2.2 e o2 = σ3.2.2 e o2 := fun e q1 q2 q3 q4 => by rw [do' e q1, r5 e q2, bo e q3 q4]
                refine ⟨?_, ?_, fun f f0 f1 hkf => ?_⟩
                · unfold spC
                  rw [PgC_e (by omega), PgC_e (by omega), PgC_e (by omega), PgC_e (by omega), PgC_e (by omega), rr 3002 (by omega) (by omega) (by omega) (by omega), r3 3002 (by omega), a2, rr 3003 (by omega) (by omega) (by omega) (by omega), r3 3003 (by omega), a3, hv, do' 3005 (by omega), r5 3005 (by omega), b5, do' 3007 (by omega), r5 3007 (by omega), b7, d6, es]
                  exact ⟨⟨rfl, rfl⟩, rfl, rfl, rfl⟩
                · rw [rr 3004 (by omega) (by omega) (by omega) (by omega), r3 3004 (by omega), a4]
                · refine (t3 f f0 f1 hkf).mv (fun e e0 e1 => ?_)
                  rw [rr e (by omega) (by omega) (by omega) (by omega)]
              · exact hwk.1 c' c0' (by omega) hk'
            · by_cases e : m < ptM P c
              · exact hwk.2 m m0 e hk'
              · rw [es] at m1
                rw [ep] at e
                obtain ⟨a1, a2'⟩ := t5 m (by omega) m1 hk'
                have p3 := (hg.1.2.2.2 m m0 (by omega)).2.2.2.1.2.1
                refine ⟨a1.mv p3 (fun e z he => ?_), by rw [do' 3012 (by omega)]; exact a2'⟩
                rw [do' e (by omega)]
      by_cases g : P 3003 c < 0
      · rw [if_pos g]
        exact key (-1) (by rw [if_pos g])
      · rw [if_neg g, hn.1 (P 3003 c) (by omega) (by omega)]
        exact ⟨by omega, key _ (by rw [if_neg g])⟩
    · have enc : nC P r XX c = -1 := nw_n gk
      have no : ∀ x, P 3007 c ≤ x → x < P 3007 c + P 3006 c → ¬ kM P r XX x := by
        intro x x0 x1 q
        have := (kC_cl.2.2.2.1 x (by omega) (by omega) q).1
        have ow := (hg.2.1 c c0 c1).2 (x - P 3007 c) (by omega) (by omega)
        rw [show P 3007 c + (x - P 3007 c) = x by omega] at ow
        rw [ow] at this
        exact gk this
      have en := nB_none (q := kM P r XX) (a := P 3007 c) (by omega) (P 3006 c).toNat (fun x x0 x1 => no x x0 (by omega))
      rw [show P 3007 c + (((P 3006 c).toNat : Nat) : Int) = P 3007 c + P 3006 c by omega] at en
      rw [enc, if_pos (by rfl), b98_116, wr_id (by omega) (by omega), ep, ← en, ← es]
      refine l98c hg hoo hB0 n (c + 1) _ _ _ σ (by omega) (by omega) hf ⟨fun c' c0' c1' hk' => ?_, fun m m0 m1 hk' => ?_⟩ hQ
      · by_cases e : c' = c
        · rw [e] at hk'; exact absurd hk' gk
        · exact hw.1 c' c0' (by omega) hk'
      · by_cases e : m < ptM P c
        · exact hw.2 m m0 e hk'
        · rw [es] at m1
          rw [ep] at e
          exact absurd hk' (no m (by omega) m1)
theorem s98 (hg : good P) (hoo : ¬ o = o2 ∧ ¬ o = o2 + 17 ∧ ¬ o + 17 = o2) (hB : wbC σ o o2 P r XX NL) (hQ : ∀ σ', lwF o2 0 0 σ σ' → wrC σ' P r XX NL o2 (P 3000 0) (P 3001 0) → Q none σ') : j3_tc false (d + 3) 98 [wO 6 83] σ Q := by
  have hc1 := hg.1.1.1
  rw [e98, b98_0]
  have := l98c (σ0 := σ) (d := d) (Q := Q) hg hoo hB (P 3000 0).toNat 0 (wM 2) (wM 2) (wM 2) σ (by omega) (by omega) lwF.rf ⟨fun c c0 c1 => by omega, fun m m0 m1 => by rw [ptM_0 hg] at m1; omega⟩ hQ
  rw [ptM_0 hg, nB_0] at this
  exact this
end CWRITE3
