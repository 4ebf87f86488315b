/-! gathering in the class: instructions are added, leaves put in, jumps aimed anew -/
def addc (c : Int → Int) (x y : Int) : Int → Int := i_up (i_up c 0 (c 0 + x)) 1 (c 1 + y)
/-- the counts -/
def ctC (σ : j3_S) (c : Int → Int) : Prop := ∀ i, 0 ≤ i → i < 23 → σ.2.2 6005 83 i = c i
/-- numbers that are told are the machine's -/
def prg (P : Pg) : Prop := ∀ m i, 0 ≤ m → m < P 3001 0 → 0 ≤ i → i < P 0 m → rg (P 2 (m * 120 + i))
section CPUT
variable {σ σ' σ0 : j3_S} {P : Pg} {T : Int → Fl} {R : Rs} {X : Sx} {m i u a b t bud op x l0 cp x1 x2 x3 x4 x5 : Int} {d o : Nat} {Q : j3_P} {c : Int → Int} {st : Int → Int}
theorem addc_v (c : Int → Int) (x y i : Int) : addc c x y i = if i = 1 then c 1 + y else if i = 0 then c 0 + x else c i := by
  unfold addc
  simp only [i_up]
theorem addc_0 : addc c 0 0 = c := by
  funext i
  rw [addc_v]
  by_cases g : i = 1
  · rw [if_pos g, g]; omega
  · rw [if_neg g]
    by_cases g : i = 0
    · rw [if_pos g, g]; omega
    · rw [if_neg g]
theorem addc_a (x y z w : Int) : addc (addc c x y) z w = addc c (x + z) (y + w) := by
  funext i
  simp only [addc_v]
  by_cases g : i = 1
  · rw [if_pos g, if_pos g, if_pos (by trivial)]; omega
  · rw [if_neg g, if_neg g]
    by_cases g : i = 0
    · simp [g]; omega
    · rw [if_neg g, if_neg g, if_neg (by omega), if_neg g]
theorem s107 (hx : xC σ X) (n0 : 0 ≤ X.n) (n1 : X.n < 120) (hQ : ∀ σ', frm [7000] xA σ σ' → xC σ' (adS X x1 x2 x3 x4 x5) → Q none σ') : j3_tc false (d + 1) 107 [wO 7 96, wI x1, wI x2, wI x3, wI x4, wI x5] σ Q := by
  rw [e107, b107_0, hx.1, if_pos n1, wr_id (by omega) (by omega)]
  refine ⟨by omega, by omega, by omega, by omega, by omega, hQ _ (frm.I rfl (frm.A rfl (frm.A rfl (frm.A rfl (frm.A rfl (frm.A rfl frm.rf)))))) ⟨?_, fun i i0 i1 => ?_⟩⟩
  · simp only [up_r]; rfl
  · have i1' : i < X.n + 1 := i1
    have e : ∀ (f g : Int → Int) (v : Int), (i < X.n → f i = g i) → i_up f X.n v i = i_up g X.n v i := by
      intro f g v h
      by_cases gi : i = X.n
      · rw [gi, iu_r, iu_r]
      · rw [iu_n gi, iu_n gi]; exact h (by omega)
    simp only [j3_ast]
    refine ⟨?_, ?_, ?_, ?_, ?_⟩
    · rw [up_e rfl, up_e rfl, up_e rfl, up_e rfl, up_r]
      exact e _ _ _ (fun q => (hx.2 i i0 q).1)
    · rw [up_e rfl, up_e rfl, up_e rfl, up_r, up_e rfl]
      exact e _ _ _ (fun q => (hx.2 i i0 q).2.1)
    · rw [up_e rfl, up_e rfl, up_r, up_e rfl, up_e rfl]
      exact e _ _ _ (fun q => (hx.2 i i0 q).2.2.1)
    · rw [up_e rfl, up_r, up_e rfl, up_e rfl, up_e rfl]
      exact e _ _ _ (fun q => (hx.2 i i0 q).2.2.2.1)
    · rw [up_r, up_e rfl, up_e rfl, up_e rfl, up_e rfl]
      exact e _ _ _ (fun q => (hx.2 i i0 q).2.2.2.2)
theorem l86a (l00 : 0 ≤ l0) (l01 : l0 ≤ 20) : ∀ (k : Nat) (σ : j3_S) (X : Sx), k ≤ 3 → 0 ≤ X.n → X.n + k ≤ 120 → frm [7000] xA σ0 σ → xC σ X → (∀ σ', frm [7000] xA σ0 σ' → xC σ' (stoS l0 cp k X) → T86 (d + 1) Q 28 [wO 6 83, wI u, wI cp, wI l0, wI 0, wM 2, wM 2, wM 2] [] σ') → T86 (d + 1) Q 12 [wO 6 83, wI u, wI cp, wI l0, wI ((k : Int) - 1), wM 2, wM 2, wM 2] [] σ
  | 0, σ, X, hk, n0, n1, hf, hx, hQ => by
    rw [b86_12, if_pos (by omega)]
    exact hQ σ hf hx
  | k + 1, σ, X, hk, n0, n1, hf, hx, hQ => by
    rw [b86_12, if_neg (by push_cast; omega), wr_id (by push_cast; omega) (by push_cast; omega)]
    refine s107 hx n0 (by push_cast at n1; omega) (fun σ1 f1 h1 => ?_)
    simp only [Option.toList_none, List.nil_append]
    rw [b86_24, wr_id (by push_cast; omega) (by push_cast; omega), show ((k + 1 : Nat) : Int) - 1 + -1 = (k : Int) - 1 by push_cast; omega]
    rw [show l0 + (((k + 1 : Nat) : Int) - 1) = l0 + k by push_cast; omega] at h1
    exact l86a l00 l01 k σ1 _ (by omega) (by show 0 ≤ X.n + 1; omega) (by show X.n + 1 + k ≤ 120; push_cast at n1; omega) (hf.tr f1) h1 hQ
theorem l86b (hB : gbC σ0 o P T R bud) (hg : good P) (hpr : prg P) (u0 : 0 ≤ u) (u1 : u < P 3001 0) (l00 : 0 ≤ l0) (l01 : l0 + P 3017 u ≤ 20) : ∀ (k : Nat) (j : Int) (w5 w6 w7 : j3_W) (σ : j3_S) (X : Sx), j + k = P 0 u - 1 → 0 ≤ j → 0 ≤ X.n → X.n + k ≤ 120 → frm [7000] xA σ0 σ → xC σ X → (∀ σ' w5 w6 w7, frm [7000] xA σ0 σ' → xC σ' (bodS P u l0 cp k j X) → T86 (d + 1) Q 28 [wO 6 83, wI u, wI cp, wI l0, wI (P 0 u - 1), w5, w6, w7] [] σ') → T86 (d + 1) Q 28 [wO 6 83, wI u, wI cp, wI l0, wI j, w5, w6, w7] [] σ
  | 0, j, w5, w6, w7, σ, X, hj, j0, n0, n1, hf, hx, hQ => by
    rw [show j = P 0 u - 1 by omega]
    exact hQ σ w5 w6 w7 hf hx
  | k + 1, j, w5, w6, w7, σ, X, hj, j0, n0, n1, hf, hx, hQ => by
    have hB' : gbC σ o P T R bud := hB.fr hf ⟨rfl, rfl⟩ rfl (la_ok rfl) ⟨rfl, rfl, rfl⟩
    obtain ⟨⟨h1', h2', -⟩, hC, hH, -⟩ := id hB'
    have h80 := hg.1.2.1.2.1
    obtain ⟨-, -, -, q4, q5, q6, q7⟩ := hg.1.2.2.2 u u0 u1
    obtain ⟨c1, -, c3⟩ := hC.2.2.2 u u0 u1
    obtain ⟨e1, e2, e3⟩ := c3 j j0 (by omega)
    have ik := q7 j j0 (by omega)
    rw [b86_28, h2', c1.2.2.2.2.2.2]
    simp (disch := omega) only [wr_id]
    rw [if_pos (by omega), e1, tls_v ik.1 ik.2.1]
    refine ⟨h1', by omega, h1', by omega, ⟨ik.1, by have := ik.2.1; omega⟩, ?_⟩
    have key : ∀ v : Int, v = (if P 1 (u * 120 + j) = 2 ∨ P 1 (u * 120 + j) = 3 then l0 else 0) → T86 (d + 1) Q 59 [wO 6 83, wI u, wI cp, wI l0, wI j, wI (u * 120 + j), wI (P 1 (u * 120 + j)), w7] [wI v] σ := by
      intro v hv
      rw [b86_59, h2', e2, e3, wr_id (z := u * 1000) (by omega) (by omega), wr_id (z := u * 1000 + j) (by omega) (by omega)]
      have ew : wr (P 2 (u * 120 + j) + v) = P 2 (u * 120 + j) + (if P 1 (u * 120 + j) = 2 ∨ P 1 (u * 120 + j) = 3 then l0 else 0) := by
        rw [hv]
        by_cases g : P 1 (u * 120 + j) = 2 ∨ P 1 (u * 120 + j) = 3
        · have := ik.2.2.1 g
          rw [if_pos g, wr_id (by omega) (by omega)]
        · have := hpr u j u0 u1 j0 (by omega)
          unfold rg at this
          rw [if_neg g, wr_id (by omega) (by omega)]
      rw [ew]
      refine ⟨h1', by omega, h1', by omega, ?_⟩
      refine s107 hx n0 (by push_cast at n1; omega) (fun σ1 f1 h1 => ?_)
      simp only [Option.toList_none, List.nil_append]
      rw [b86_84, wr_id (by omega) (by omega)]
      exact l86b hB hg hpr u0 u1 l00 l01 k (j + 1) _ _ _ σ1 _ (by omega) (by omega) (by show 0 ≤ X.n + 1; omega) (by show X.n + 1 + k ≤ 120; push_cast at n1; omega) (hf.tr f1) h1 hQ
    generalize hop : P 1 (u * 120 + j) = op at *
    by_cases g : op = 2 ∨ op = 3
    · rw [if_neg (by omega : ¬ op = 0), if_pos g, if_pos rfl]
      exact key l0 (by rw [if_pos g])
    · rw [if_neg (fun q => g (by
        by_cases g0 : op = 0
        · rw [if_pos g0] at q; omega
        · rw [if_neg g0, if_neg g] at q
          by_cases g1 : 11 ≤ op ∧ op ≤ 14
          · rw [if_pos g1] at q; omega
          · rw [if_neg g1] at q
            by_cases g2 : op = 15 ∨ op = 24 ∨ op = 25
            · rw [if_pos g2] at q; omega
            · rw [if_neg g2] at q
              by_cases g3 : 16 ≤ op ∧ op ≤ 19
              · rw [if_pos g3] at q; omega
              · rw [if_neg g3] at q
                by_cases g4 : op = 20 ∨ op = 21
                · rw [if_pos g4] at q; omega
                · rw [if_neg g4] at q; omega))]
      exact key 0 (by rw [if_neg g])
theorem s86 (hB : gbC σ o P T R bud) (hg : good P) (hpr : prg P) (u0 : 0 ≤ u) (u1 : u < P 3001 0) (hl : σ.1 7001 96 = l0) (l00 : 0 ≤ l0) (l01 : l0 + P 3017 u ≤ 20) (hx : xC σ X) (n0 : 0 ≤ X.n) (n1 : X.n + P 3015 u + (P 0 u - 1) ≤ 120) (hc : ctC σ c) (c0 : 0 ≤ c 1) (c1 : c 1 < 2147483647) (hQ : ∀ σ', frm [7000, 7001] (xA ++ [6005]) σ σ' → xC σ' (puS P u l0 cp X) → σ'.1 7001 96 = l0 + P 3017 u → ctC σ' (addc c 0 1) → Q none σ') : j3_tc false (d + 2) 86 [wO 6 83, wI u, wI cp] σ Q := by
  obtain ⟨⟨h1', h2', -⟩, hC, hH, -⟩ := id hB
  have h80 := hg.1.2.1.2.1
  obtain ⟨-, pst, -, q4, q5, q6, q7⟩ := hg.1.2.2.2 u u0 u1
  obtain ⟨k1, -, k3⟩ := hC.2.2.2 u u0 u1
  rw [e86, b86_0, h2', k1.2.2.2.2.1, hl, wr_id (by omega) (by omega)]
  refine ⟨h1', by omega, ?_⟩
  have ek : (((P 3015 u).toNat : Nat) : Int) = P 3015 u := by omega
  rw [← ek]
  have en := (sto_c (l0 := l0) (cp := cp) (P 3015 u).toNat X).1
  refine l86a (σ0 := σ) l00 (by omega) (P 3015 u).toNat σ X (by omega) n0 (by omega) frm.rf hx (fun σ1 f1 x1 => ?_)
  refine l86b (σ0 := σ) hB hg hpr u0 u1 l00 l01 (P 0 u - 1).toNat 0 _ _ _ σ1 _ (by omega) (by omega) (by rw [en]; omega) (by rw [en]; omega) f1 x1 (fun σ2 w5 w6 w7 f2 x2 => ?_)
  have hB' : gbC σ2 o P T R bud := hB.fr f2 ⟨rfl, rfl⟩ rfl (la_ok rfl) ⟨rfl, rfl, rfl⟩
  obtain ⟨⟨-, h2'', -⟩, hC', -⟩ := id hB'
  obtain ⟨k1', -⟩ := hC'.2.2.2 u u0 u1
  have e5 : σ2.2.2 6005 83 = σ.2.2 6005 83 := f2.2.2 6005 83 rfl
  have e6 : σ2.1 7001 96 = l0 := by rw [f2.2.1 7001 96 rfl]; exact hl
  rw [b86_28, h2'', k1'.2.2.2.2.2.2, k1'.2.2.2.2.2.1, e5, e6, hc 1 (by omega) (by omega)]
  simp (disch := omega) only [wr_id]
  rw [if_neg (by omega)]
  refine ⟨h1', by omega, h1', by omega, by omega, by omega, ?_⟩
  have f2' : frm [7000, 7001] (xA ++ [6005]) σ σ2 := f2.wd (sub_el rfl) (sub_el rfl)
  refine hQ _ (f2'.tr (frm.I rfl (frm.A rfl frm.rf))) ?_ (by simp only [up_r]) (fun i i0 i1 => ?_)
  · exact x2.fr (li := [7001]) (la := [6005]) (frm.I rfl (frm.A rfl frm.rf)) rfl rfl
  · rw [addc_v]
    simp only [j3_ast, up_r]
    by_cases g : i = 1
    · rw [g, iu_r, if_pos rfl]
    · rw [iu_n g, if_neg g, e5, hc i i0 i1]
      by_cases g0 : i = 0
      · rw [if_pos g0, g0]; omega
      · rw [if_neg g0]
/-- jumps aimed anew -/
def yaC (σ : j3_S) (X : Sx) (st : Int → Int) (x : Int) : Prop := σ.1 7000 96 = X.n ∧ ∀ i, 0 ≤ i → i < X.n → σ.2.2 7002 96 i = X.op i ∧ σ.2.2 7003 96 i = (if i < x then (aiS X st).a i else X.a i) ∧ σ.2.2 7004 96 i = X.b i ∧ σ.2.2 7005 96 i = X.o1 i ∧ σ.2.2 7006 96 i = X.o2 i
theorem l108 {n0 : Int} (n120 : X.n ≤ 120) (hn : n0 ≤ 120) (hj : ∀ i, 0 ≤ i → i < X.n → isj (X.op i) = true → 0 ≤ X.a i ∧ X.a i < n0) (hst : ∀ j, 0 ≤ j → j < n0 → σ0.2.2 6009 83 j = st j) : ∀ (k : Nat) (x : Int) (σ : j3_S), x + k = X.n → 0 ≤ x → frm [] [7003] σ0 σ → yaC σ X st x → (∀ σ', frm [] [7003] σ0 σ' → xC σ' (aiS X st) → Q none σ') → T108 (d + 1) Q 2 [wO 7 96, wA 6009 83, wI x] [] σ
  | 0, x, σ, hx, x0, hf, hy, hQ => by
    rw [b108_2, hy.1, if_neg (by omega)]
    refine hQ σ hf ⟨hy.1, fun i i0 i1 => ?_⟩
    obtain ⟨y1, y2, y3, y4, y5⟩ := hy.2 i i0 i1
    have i1' : i < X.n := i1
    rw [if_pos (by omega)] at y2
    exact ⟨y1, y2, y3, y4, y5⟩
  | k + 1, x, σ, hx, x0, hf, hy, hQ => by
    obtain ⟨y1, y2, y3, y4, y5⟩ := hy.2 x x0 (by omega)
    rw [if_neg (by omega)] at y2
    rw [b108_2, hy.1, if_pos (by omega), y1, s151]
    refine ⟨by omega, ?_⟩
    simp only [Option.toList_some, List.cons_append, List.nil_append]
    rw [b108_11]
    have sp : ∀ i, (aiS X st).a i = if isj (X.op i) = true then st (X.a i) else X.a i := fun _ => rfl
    by_cases g : isj (X.op x) = true
    · obtain ⟨j0, j1⟩ := hj x x0 (by omega) g
      rw [g, if_neg (by decide), y2, hf.2.2 6009 83 rfl, hst _ j0 j1, b108_22, wr_id (by omega) (by omega)]
      refine ⟨by omega, by omega, by omega, ?_⟩
      refine l108 n120 hn hj hst k (x + 1) _ (by omega) (by omega) (hf.tr (frm.A rfl frm.rf)) ⟨hy.1, fun i i0 i1 => ?_⟩ hQ
      obtain ⟨z1, z2, z3, z4, z5⟩ := hy.2 i i0 i1
      simp only [j3_ast]
      rw [up_e rfl, up_r, up_e rfl, up_e rfl, up_e rfl]
      refine ⟨z1, ?_, z3, z4, z5⟩
      by_cases gi : i = x
      · rw [gi, iu_r, if_pos (by omega), sp, if_pos g]
      · rw [iu_n gi, z2]
        by_cases gl : i < x
        · rw [if_pos gl, if_pos (by omega)]
        · rw [if_neg gl, if_neg (by omega)]
    · have g' : isj (X.op x) = false := by simpa using g
      rw [g', if_pos (by rfl), b108_22, wr_id (by omega) (by omega)]
      refine l108 n120 hn hj hst k (x + 1) σ (by omega) (by omega) hf ⟨hy.1, fun i i0 i1 => ?_⟩ hQ
      obtain ⟨z1, z2, z3, z4, z5⟩ := hy.2 i i0 i1
      refine ⟨z1, ?_, z3, z4, z5⟩
      by_cases gi : i = x
      · rw [gi, if_pos (by omega), sp, if_neg g]; exact y2
      · rw [z2]
        by_cases gl : i < x
        · rw [if_pos gl, if_pos (by omega)]
        · rw [if_neg gl, if_neg (by omega)]
theorem s108 {n0 : Int} (hx : xC σ X) (n00 : 0 ≤ X.n) (n120 : X.n ≤ 120) (hn : n0 ≤ 120) (hj : ∀ i, 0 ≤ i → i < X.n → isj (X.op i) = true → 0 ≤ X.a i ∧ X.a i < n0) (hst : ∀ j, 0 ≤ j → j < n0 → σ.2.2 6009 83 j = st j) (hQ : ∀ σ', frm [] [7003] σ σ' → xC σ' (aiS X st) → Q none σ') : j3_tc false (d + 2) 108 [wO 7 96, wA 6009 83] σ Q := by
  rw [e108, b108_0]
  refine l108 (σ0 := σ) n120 hn hj hst X.n.toNat 0 σ (by omega) (by omega) frm.rf ⟨hx.1, fun i i0 i1 => ?_⟩ hQ
  obtain ⟨z1, z2, z3, z4, z5⟩ := hx.2 i i0 i1
  exact ⟨z1, by rw [if_neg (by omega)]; exact z2, z3, z4, z5⟩
end CPUT
