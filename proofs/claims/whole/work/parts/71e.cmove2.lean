/-! the codes come to their new places in the class: all methods -/
/-- how many methods are kept for their faces alone -/
noncomputable def shl (P : Pg) (r : Rs) (XX : Int → Sx) (k : Int) : Int := nB (fun m => kM P r XX m ∧ ¬ r.1 m = 1) k
def mvA (o2 : Nat) (σ σ' : j3_S) : Prop := (σ'.1 = σ.1 ∧ σ'.2.1 = σ.2.1) ∧ ∀ e o', ¬ (o' = o2 + 17 ∧ e ≤ 3) → ¬ (o' = 83 ∧ (e = 6003 ∨ e = 6004 ∨ e = 6005)) → σ'.2.2 e o' = σ.2.2 e o'
def shC (σ σ' : j3_S) (P : Pg) (r : Rs) (XX : Int → Sx) (k : Int) : Prop := (∀ i, ¬ i = 3 → σ'.2.2 6005 83 i = σ.2.2 6005 83 i) ∧ σ'.2.2 6005 83 3 = σ.2.2 6005 83 3 + shl P r XX k
section CMOVE2
variable {σ σ' σ'' σ0 : j3_S} {P : Pg} {r : Rs} {XX : Int → Sx} {NL : Int → Int} {o o2 d : Nat} {x c m i w k n v t l : Int} {Q : j3_P} {X : Sx}
theorem mvA.rf : mvA o2 σ σ := ⟨⟨rfl, rfl⟩, fun _ _ _ _ => rfl⟩
theorem mvA.tr (h : mvA o2 σ σ') (h' : mvA o2 σ' σ'') : mvA o2 σ σ'' := ⟨⟨h'.1.1.trans h.1.1, h'.1.2.trans h.1.2⟩, fun e o' q1 q2 => (h'.2 e o' q1 q2).trans (h.2 e o' q1 q2)⟩
theorem mvT.aa (h : mvT o2 t σ σ') : mvA o2 σ σ' := ⟨h.1, h.2.1⟩
theorem mvA.mv (h : mvA o2 σ σ') (hB : mvC σ o o2 P r XX) (hoo : ¬ o = o2 ∧ ¬ o = o2 + 17 ∧ ¬ o + 17 = o2) (h83 : ¬ o = 83 ∧ ¬ o + 17 = 83) : mvC σ' o o2 P r XX := by
  obtain ⟨⟨a1, a2, a3⟩, a4, a5, a6, a7⟩ := hB
  refine ⟨⟨a1, by rw [h.1.2]; exact a2, by rw [h.1.2]; exact a3⟩, a4.mv ⟨⟨by rw [h.1.1], by rw [h.1.1]⟩, fun e _ => ⟨h.2 e o (by omega) (by omega), h.2 e (o + 17) (by omega) (by omega)⟩⟩, ?_, fun m m0 m1 => by rw [h.2 4000 92 (by omega) (by omega)]; exact a6 m m0 m1, fun a q0 q1 q2 => by rw [h.2 3007 o2 (by omega) (by omega)]; exact a7 a q0 q1 q2⟩
  unfold nuC
  rw [h.2 6000 83 (by omega) (by omega), h.2 6001 83 (by omega) (by omega), h.2 6002 83 (by omega) (by omega)]
  exact a5
theorem lnK_b (hxx : xxR P r XX NL) (m0 : 0 ≤ m) (m1 : m < P 3001 0) : 1 ≤ lnK r XX m ∧ lnK r XX m ≤ 120 := by
  unfold lnK
  by_cases g : r.1 m = 1
  · rw [if_pos g]
    have := (hxx.2 m m0 m1 g).1.1
    omega
  · rw [if_neg g]; omega
theorem nM_ne (m0 : 0 ≤ m) (c0 : 0 ≤ c) (hm : kM P r XX m) (hc : kM P r XX c) (h : ¬ m = c) : ¬ nM P r XX m = nM P r XX c := by
  intro q
  rw [show nM P r XX m = nB (kM P r XX) m from nw_k hm, show nM P r XX c = nB (kM P r XX) c from nw_k hc] at q
  exact h (nB_inj m0 c0 hm hc q)
theorem shl_b (k0 : 0 ≤ k) : 0 ≤ shl P r XX k ∧ shl P r XX k ≤ k := ⟨nB_p, nB_le k0⟩
theorem l102 (hg : good P) (hoo : ¬ o = o2 ∧ ¬ o = o2 + 17 ∧ ¬ o + 17 = o2) (h83 : ¬ o = 83 ∧ ¬ o + 17 = 83) (h4 : ¬ 83 = o2 + 17) (hxx : xxR P r XX NL) (hB0 : mvC σ0 o o2 P r XX) (hc : 0 ≤ σ0.2.2 6005 83 3 ∧ σ0.2.2 6005 83 3 ≤ 1000000000) : ∀ (n : Nat) (k : Int) (σ : j3_S), k + n = P 3001 0 → 0 ≤ k → mvA o2 σ0 σ → shC σ0 σ P r XX k → (∀ m, k ≤ m → m < P 3001 0 → r.1 m = 1 → lyR σ o2 m (XX m) (NL m)) → (∀ m, 0 ≤ m → m < k → kM P r XX m → spK P r XX (PgC σ o2) m ∧ orC σ P r XX m) → (∀ σ', mvA o2 σ0 σ' → shC σ0 σ' P r XX (P 3001 0) → (∀ m, 0 ≤ m → m < P 3001 0 → kM P r XX m → spK P r XX (PgC σ' o2) m ∧ orC σ' P r XX m) → Q none σ') → T102 (d + 1) Q 2 [wO 6 83, wI k] [] σ
  | 0, k, σ, hk, k0, hf, hs, hl, hd, hQ => by
    have hB := hf.mv hB0 hoo h83
    rw [b102_2, hB.1.2.1, hB.2.1.2.1, if_neg (by omega)]
    rw [show k = P 3001 0 by omega] at hs hd
    exact ⟨hB.1.1.1, hQ σ hf hs hd⟩
  | n + 1, k, σ, hk, k0, hf, hs, hl, hd, hQ => by
    have hB := hf.mv hB0 hoo h83
    have h80 := hg.1.2.1.2.1
    have k1 : k < P 3001 0 := by omega
    have sb := shl_b (P := P) (r := r) (XX := XX) k0
    rw [b102_2, hB.1.2.1, hB.2.1.2.1, if_pos k1, hB.2.2.1.2.2 k k0 k1]
    refine ⟨hB.1.1.1, by omega, ?_⟩
    by_cases gk : kM P r XX k
    · have nn := nw_b (n := P 3001 0) k0 k1 gk
      have en : nM P r XX k = nwN (kM P r XX) k := rfl
      have nl := nB_le (q := kM P r XX) (x := P 3001 0) (by omega)
      have nx : ∀ σ', mvT o2 (nM P r XX k) σ σ' → shC σ0 σ' P r XX (k + 1) → spK P r XX (PgC σ' o2) k → orC σ' P r XX k → T102 (d + 1) Q 35 [wO 6 83, wI k] [] σ' := by
        intro σ' f1 s1 t1 t2
        rw [b102_35, wr_id (by omega) (by omega)]
        refine l102 hg hoo h83 h4 hxx hB0 hc n (k + 1) σ' (by omega) (by omega) (hf.tr f1.aa) s1 (fun m m0 m1 q => ?_) (fun m m0 m1 q => ?_) hQ
        · have ok := (hxx.2 m (by omega) m1 q).1.1
          exact (hl m (by omega) m1 q).mv (by omega) f1 (by omega) h4
        · by_cases e : m = k
          · rw [e]; exact ⟨t1, t2⟩
          · have lb := lnK_b hxx m0 (show m < P 3001 0 by omega)
            have ne := nM_ne m0 k0 q gk e
            obtain ⟨q1, q2⟩ := hd m m0 (by omega) q
            exact ⟨q1.mv lb.2 f1 ne, q2.mv lb.2 f1 ne⟩
      rw [en, if_neg (by omega), ← en, hB.2.2.2.1 k k0 (by omega)]
      refine ⟨by omega, ?_⟩
      by_cases gr : r.1 k = 1
      · have ly := hl k (by omega) k1 gr
        have ok := (hxx.2 k k0 k1 gr).1.1
        rw [if_pos gr, e104, b104_0, hB.1.2.2, ly.1]
        refine ⟨by omega, hB.1.1.2, by omega, ?_⟩
        refine l104 (σ0 := σ) hg hoo h83 hxx hB k0 k1 gr (XX k).n.toNat 0 _ _ _ _ _ σ (by omega) (by omega) mvT.rf rfl (fun j j0 j1 => by omega) (fun j j0 j1 => ?_) (fun σ' f1 e5 t1 t2 => ?_)
        · obtain ⟨a1, a2, a3, -, a5, a6⟩ := ly.2.2 j j0 j1
          exact ⟨⟨a1, a2, a3⟩, a5, a6⟩
        · simp only [Option.toList_none, List.nil_append]
          rw [b102_28]
          refine nx σ' f1 ⟨fun i hi => by rw [e5]; exact hs.1 i hi, ?_⟩ t1 t2
          have : shl P r XX (k + 1) = shl P r XX k := nB_n k0 (fun q => q.2 gr)
          rw [e5, hs.2, this]
      · rw [if_neg gr, e103, b103_0, hB.1.2.2]
        simp (disch := omega) only [wr_id]
        refine ⟨by omega, hB.1.1.2, by omega, hB.1.1.2, by omega, hB.1.1.2, by omega, hB.1.1.2, by omega, by omega, by omega, by omega, by omega, ?_⟩
        rw [hs.2, wr_id (by omega) (by omega)]
        simp only [Option.toList_none, List.nil_append]
        generalize hA : j3_ast (j3_ast (j3_ast (j3_ast (j3_ast (j3_ast (j3_ast σ.2.2 0 (o2 + 17) (nM P r XX k) 1) 1 (o2 + 17) (nM P r XX k * 120) 26) 2 (o2 + 17) (nM P r XX k * 120) 0) 3 (o2 + 17) (nM P r XX k * 120) 0) 6003 83 (nM P r XX k * 120) (-1)) 6004 83 (nM P r XX k * 120) (-1)) 6005 83 3 (σ0.2.2 6005 83 3 + shl P r XX k + 1) = A'
        have a0 : A' 0 (o2 + 17) = i_up (σ.2.2 0 (o2 + 17)) (nM P r XX k) 1 := by
          rw [← hA]; simp only [j3_ast]; rw [up_e rfl, up_e rfl, up_e rfl, up_e rfl, up_e rfl, up_e rfl, up_r]
        have a1 : A' 1 (o2 + 17) = i_up (σ.2.2 1 (o2 + 17)) (nM P r XX k * 120) 26 := by
          rw [← hA]; simp only [j3_ast]; rw [up_e rfl, up_e rfl, up_e rfl, up_e rfl, up_e rfl, up_r, up_e rfl]
        have a2 : A' 2 (o2 + 17) = i_up (σ.2.2 2 (o2 + 17)) (nM P r XX k * 120) 0 := by
          rw [← hA]; simp only [j3_ast]; rw [up_e rfl, up_e rfl, up_e rfl, up_e rfl, up_r, up_e rfl, up_e rfl]
        have a3 : A' 3 (o2 + 17) = i_up (σ.2.2 3 (o2 + 17)) (nM P r XX k * 120) 0 := by
          rw [← hA]; simp only [j3_ast]; rw [up_e rfl, up_e rfl, up_e rfl, up_r, up_e rfl, up_e rfl, up_e rfl]
        have a4 : A' 6003 83 = i_up (σ.2.2 6003 83) (nM P r XX k * 120) (-1) := by
          rw [← hA]; simp only [j3_ast]; rw [up_e rfl, up_e rfl, up_r, up_e rfl, up_e rfl, up_e rfl, up_e rfl]
        have a5 : A' 6004 83 = i_up (σ.2.2 6004 83) (nM P r XX k * 120) (-1) := by
          rw [← hA]; simp only [j3_ast]; rw [up_e rfl, up_r, up_e rfl, up_e rfl, up_e rfl, up_e rfl, up_e rfl]
        have a6 : A' 6005 83 = i_up (σ.2.2 6005 83) 3 (σ0.2.2 6005 83 3 + shl P r XX k + 1) := by
          rw [← hA]; simp only [j3_ast]; rw [up_r, up_e rfl, up_e rfl, up_e rfl, up_e rfl, up_e rfl, up_e rfl]
        have ao : ∀ e o', ¬ (o' = o2 + 17 ∧ e ≤ 3) → ¬ (o' = 83 ∧ (e = 6003 ∨ e = 6004 ∨ e = 6005)) → A' e o' = σ.2.2 e o' := by
          intro e o' q1 q2
          rw [← hA]; simp only [j3_ast]
          rw [up_ne (fun q => q2 ⟨q.2, by omega⟩), up_ne (fun q => q2 ⟨q.2, by omega⟩), up_ne (fun q => q2 ⟨q.2, by omega⟩), up_ne (fun q => q1 ⟨q.2, by omega⟩), up_ne (fun q => q1 ⟨q.2, by omega⟩), up_ne (fun q => q1 ⟨q.2, by omega⟩), up_ne (fun q => q1 ⟨q.2, by omega⟩)]
        clear hA
        have f1 : mvT o2 (nM P r XX k) σ (σ.1, σ.2.1, A') := by
          refine ⟨⟨rfl, rfl⟩, fun e o' q1 q2 => ao e o' q1 q2, fun z hz => ⟨fun e e0 e1 => ?_, ?_, ?_⟩, fun z hz => ?_⟩
          · show A' e (o2 + 17) z = _
            rcases (by omega : e = 1 ∨ e = 2 ∨ e = 3) with rfl | rfl | rfl
            · rw [a1, iu_n (by omega)]
            · rw [a2, iu_n (by omega)]
            · rw [a3, iu_n (by omega)]
          · show A' 6003 83 z = _
            rw [a4, iu_n (by omega)]
          · show A' 6004 83 z = _
            rw [a5, iu_n (by omega)]
          · show A' 0 (o2 + 17) z = _
            rw [a0, iu_n hz]
        have el : lnK r XX k = 1 := by unfold lnK; rw [if_neg gr]
        refine nx (σ.1, σ.2.1, A') f1 ⟨fun i hi => ?_, ?_⟩ ⟨?_, fun j j0 j1 => ?_⟩ (fun j j0 j1 => ?_)
        · show A' 6005 83 i = _
          rw [a6, iu_n hi]; exact hs.1 i hi
        · show A' 6005 83 3 = _
          have : shl P r XX (k + 1) = shl P r XX k + 1 := nB_k k0 ⟨gk, gr⟩
          rw [a6, iu_r, this]; omega
        · rw [PgC_c (by omega), el]
          show A' 0 (o2 + 17) _ = _
          rw [a0, iu_r]
        · rw [el] at j1
          rw [show j = 0 by omega, PgC_c (by omega), PgC_c (by omega), PgC_c (by omega), if_neg gr, if_neg gr, if_neg gr, show nM P r XX k * 120 + 0 = nM P r XX k * 120 by omega]
          show A' 1 (o2 + 17) _ = _ ∧ A' 2 (o2 + 17) _ = _ ∧ A' 3 (o2 + 17) _ = _
          rw [a1, a2, a3, iu_r, iu_r, iu_r]
          exact ⟨rfl, rfl, rfl⟩
        · rw [el] at j1
          rw [show j = 0 by omega, if_neg gr, if_neg gr, show nM P r XX k * 120 + 0 = nM P r XX k * 120 by omega]
          show A' 6003 83 _ = _ ∧ A' 6004 83 _ = _
          rw [a4, a5, iu_r, iu_r]
          exact ⟨rfl, rfl⟩
    · have en : nM P r XX k = -1 := nw_n gk
      rw [en, if_pos (by rfl), b102_35, wr_id (by omega) (by omega)]
      have es : shl P r XX (k + 1) = shl P r XX k := nB_n k0 (fun q => gk q.1)
      refine l102 hg hoo h83 h4 hxx hB0 hc n (k + 1) σ (by omega) (by omega) hf ⟨hs.1, by rw [es]; exact hs.2⟩ (fun m m0 m1 q => hl m (by omega) m1 q) (fun m m0 m1 q => ?_) hQ
      by_cases e : m = k
      · rw [e] at q; exact absurd q gk
      · exact hd m m0 (by omega) q
theorem s102 (hg : good P) (hoo : ¬ o = o2 ∧ ¬ o = o2 + 17 ∧ ¬ o + 17 = o2) (h83 : ¬ o = 83 ∧ ¬ o + 17 = 83) (h4 : ¬ 83 = o2 + 17) (hxx : xxR P r XX NL) (hB : mvC σ o o2 P r XX) (hc : 0 ≤ σ.2.2 6005 83 3 ∧ σ.2.2 6005 83 3 ≤ 1000000000) (hN : ncC σ o2 P r XX NL) (hQ : ∀ σ', mvA o2 σ σ' → shC σ σ' P r XX (P 3001 0) → (∀ m, 0 ≤ m → m < P 3001 0 → kM P r XX m → spK P r XX (PgC σ' o2) m ∧ orC σ' P r XX m) → Q none σ') : j3_tc false (d + 2) 102 [wO 6 83] σ Q := by
  have := hg.1.2.1.1
  rw [e102, b102_0]
  exact l102 (σ0 := σ) hg hoo h83 h4 hxx hB hc (P 3001 0).toNat 0 σ (by omega) (by omega) mvA.rf ⟨fun _ _ => rfl, by unfold shl; rw [nB_0]; omega⟩ (fun m m0 m1 q => hN m m0 m1 q) (fun m m0 m1 => by omega) hQ
end CMOVE2
