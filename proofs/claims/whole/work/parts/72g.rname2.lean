/-! new names in the reference -/
def naF (σ σ' : j3_S) : Prop := frm [] [10020] σ σ' ∧ ∀ z, z < 80 ∨ 160 ≤ z → σ'.2.2 10020 121 z = σ.2.2 10020 121 z
section RNAME2
variable {σ σ' σ'' σ0 : j3_S} {P : Pg} {r : Rs} {XX : Int → Sx} {NL : Int → Int} {d : Nat} {x c m i w k n v z t : Int} {Q : j3_P} {T : Int → Int}
theorem naF.rf : naF σ σ := ⟨frm.rf, fun _ _ => rfl⟩
theorem naF.tr (h : naF σ σ') (h' : naF σ' σ'') : naF σ σ'' := ⟨h.1.tr h'.1, fun z hz => (h'.2 z hz).trans (h.2 z hz)⟩
theorem naF.ss (h : naF σ σ') : smS 0 σ σ' := by
  intro e z e0 e1 z0 z1 ne
  by_cases g : e = 10020
  · subst g
    have : z < (0 + 1) * 80 := z1
    exact h.2 z (by omega)
  · rw [h.1.2.2 e _ (by simp; omega)]
theorem naF.na (h : naF σ σ') (hg : good P) (hB : naR σ P r XX NL) : naR σ' P r XX NL := by
  obtain ⟨a1, ⟨a2, a3, a4⟩, a5, a6⟩ := hB
  refine ⟨a1.mv h.ss (bnd_of hg.1), ⟨?_, fun c c0 c1 => by rw [h.1.2.2 10069 _ rfl]; exact a3 c c0 c1, ?_⟩, fun c c0 c1 q => ?_, fun m m0 m1 q => (a6 m m0 m1 q).rw (fun e he => h.1.2.2 e _ (by simp at he; rcases he with rfl | rfl | rfl | rfl | rfl | rfl <;> rfl))⟩
  · unfold exG at a2 ⊢
    rw [h.1.2.2 (10072 + 0) _ rfl, h.1.2.2 (10072 + 1) _ rfl, h.1.2.2 (10072 + 2) _ rfl]
    exact a2
  · unfold nbR at a4 ⊢
    rw [h.1.2.2 10070 _ rfl, h.1.2.2 10071 _ rfl]
    exact a4
  · obtain ⟨⟨b1, b2⟩, b3, b4, b5⟩ := a5 c c0 c1 q
    refine ⟨⟨?_, ?_⟩, ?_, ?_, ?_⟩
    · show σ'.2.2 10010 121 _ = _; rw [h.1.2.2 10010 _ rfl]; exact b1
    · show σ'.2.2 10011 121 _ = _; rw [h.1.2.2 10011 _ rfl]; exact b2
    · show σ'.2.2 10012 121 _ = _; rw [h.1.2.2 10012 _ rfl]; exact b3
    · show σ'.2.2 10014 121 _ = _; rw [h.1.2.2 10014 _ rfl]; exact b4
    · show σ'.2.2 10013 121 _ = _; rw [h.1.2.2 10013 _ rfl]; exact b5
theorem l221k (hg : good P) (hB : naR σ P r XX NL) (m0 : 0 ≤ m) (m1 : m < P 3001 0) (x0 : 0 ≤ x) (x1 : x < P 3000 0) {t : Int} : ∀ (n : Nat) (k : Int), k + n = P 3006 x → 0 ≤ k → (∀ x5, T221 d Q 28 [wO 10 121, wI m, wI t, wI (bif dB (¬ nmd P x (P 3012 m) 9 0 = -1 ∧ kM P r XX (nmd P x (P 3012 m) 9 0)) then nmd P x (P 3012 m) 9 0 else -1), wI (P 3003 x), wI x5] [] σ) → T221 d Q 34 [wO 10 121, wI m, wI t, wI (bif dB (¬ nmd P x (P 3012 m) 9 0 = -1 ∧ kM P r XX (nmd P x (P 3012 m) 9 0) ∧ nmd P x (P 3012 m) 9 0 < P 3007 x + k) then nmd P x (P 3012 m) 9 0 else -1), wI x, wI k] [] σ
  | 0, k, hk, k0, hQ => by
    have hc10 := hg.1.1.2.1
    have hm3 := hg.1.2.1.2.2 x x0 x1
    obtain ⟨r1, -⟩ := RP0_c hB.1 x0 x1
    obtain ⟨-, hd2⟩ := nmd_ge P (c := x) (nm := P 3012 m) hm3.2.2.1 9 0 (by omega)
    rw [b221_34, r1.2.2.2.1, if_neg (by omega), r1.2.1]
    have e : (¬ nmd P x (P 3012 m) 9 0 = -1 ∧ kM P r XX (nmd P x (P 3012 m) 9 0) ∧ nmd P x (P 3012 m) 9 0 < P 3007 x + k) = (¬ nmd P x (P 3012 m) 9 0 = -1 ∧ kM P r XX (nmd P x (P 3012 m) 9 0)) := by
      refine propext ⟨fun q => ⟨q.1, q.2.1⟩, fun q => ⟨q.1, q.2, ?_⟩⟩
      have := hd2 q.1
      omega
    rw [e]
    exact ⟨by omega, by omega, hQ k⟩
  | n + 1, k, hk, k0, hQ => by
    have hc10 := hg.1.1.2.1
    have h80 := hg.1.2.1.2.1
    have hm3 := hg.1.2.1.2.2 x x0 x1
    obtain ⟨r1, -⟩ := RP0_c hB.1 x0 x1
    obtain ⟨-, hd2⟩ := nmd_ge P (c := x) (nm := P 3012 m) hm3.2.2.1 9 0 (by omega)
    have ex := hB.2.1.1.2.2 (P 3007 x + k) (by omega) (by omega)
    have n1 := (RP0_m hB.1 (m := P 3007 x + k) (by omega) (by omega)).1.2.1
    have n2 := (RP0_m hB.1 m0 m1).1.2.1
    have ow := nmd_own hg x0 x1 k0 (show k < P 3006 x by omega)
    rw [b221_34, r1.2.2.2.1, if_pos (by omega), r1.2.2.2.2, wr_id (z := P 3007 x + k) (by omega) (by omega), n1, n2]
    refine ⟨by omega, by omega, by omega, ?_⟩
    -- what x3 is
    have same : ¬ (kM P r XX (P 3007 x + k) ∧ P 3012 (P 3007 x + k) = P 3012 m) → (¬ nmd P x (P 3012 m) 9 0 = -1 ∧ kM P r XX (nmd P x (P 3012 m) 9 0) ∧ nmd P x (P 3012 m) 9 0 < P 3007 x + k) = (¬ nmd P x (P 3012 m) 9 0 = -1 ∧ kM P r XX (nmd P x (P 3012 m) 9 0) ∧ nmd P x (P 3012 m) 9 0 < P 3007 x + (k + 1)) := by
      intro g
      refine propext ⟨fun q => ⟨q.1, q.2.1, by omega⟩, fun q => ⟨q.1, q.2.1, ?_⟩⟩
      by_cases e : nmd P x (P 3012 m) 9 0 = P 3007 x + k
      · have := (hd2 q.1).2.2
        rw [e] at this
        have q2 := q.2.1
        rw [e] at q2
        exact absurd ⟨q2, this⟩ g
      · omega
    have nx : ¬ (kM P r XX (P 3007 x + k) ∧ P 3012 (P 3007 x + k) = P 3012 m) → T221 d Q 71 [wO 10 121, wI m, wI t, wI (bif dB (¬ nmd P x (P 3012 m) 9 0 = -1 ∧ kM P r XX (nmd P x (P 3012 m) 9 0) ∧ nmd P x (P 3012 m) 9 0 < P 3007 x + k) then nmd P x (P 3012 m) 9 0 else -1), wI x, wI k] [] σ := by
      intro g
      rw [b221_71, wr_id (by omega) (by omega), same g]
      exact l221k hg hB m0 m1 x0 x1 n (k + 1) (by omega) (by omega) hQ
    rcases ex with ⟨g1, g2⟩ | ⟨g1, g2⟩
    · have g2' : σ.2.2 10074 121 (P 3007 x + k) = 1 := g2
      rw [g2', if_neg (by omega)]
      refine ⟨by omega, by omega, by omega, ?_⟩
      by_cases gn : P 3012 (P 3007 x + k) = P 3012 m
      · rw [gn] at ow
        rw [if_pos gn, b221_71, wr_id (by omega) (by omega)]
        refine ⟨by omega, ?_⟩
        have := l221k hg hB m0 m1 x0 x1 (t := t) n (k + 1) (by omega) (by omega) hQ
        have e : dB (¬ nmd P x (P 3012 m) 9 0 = -1 ∧ kM P r XX (nmd P x (P 3012 m) 9 0) ∧ nmd P x (P 3012 m) 9 0 < P 3007 x + (k + 1)) = true := dB_t.2 (by rw [ow]; exact ⟨by omega, g1, by omega⟩)
        rw [e] at this
        simp only [cond_true] at this
        rw [ow] at this
        exact this
      · rw [if_neg gn]
        exact nx (fun q => gn q.2)
    · have g2' : σ.2.2 10074 121 (P 3007 x + k) = 0 := g2
      rw [g2', if_pos rfl]
      exact nx (fun q => g1 q.1)
theorem l221s (hg : good P) (hB : naR σ P r XX NL) (m0 : 0 ≤ m) (m1 : m < P 3001 0) {t : Int} : ∀ (n : Nat) (x : Int) (w5 : j3_W), x < n → -1 ≤ x → x < P 3000 0 → (∀ (x4 : Int) w5, T221 d Q 79 [wO 10 121, wI m, wI t, wI (abS P r XX (P 3012 m) n x), wI x4, w5] [] σ) → T221 d Q 28 [wO 10 121, wI m, wI t, wI (-1), wI x, w5] [] σ
  | 0, x, w5, hx, h0, h1, hQ => by
    rw [b221_28, if_pos (by push_cast at hx; omega)]
    exact hQ x w5
  | n + 1, x, w5, hx, h0, h1, hQ => by
    unfold abS at hQ
    by_cases g : x < 0
    · rw [if_pos g] at hQ
      rw [b221_28, if_pos g]
      exact hQ x w5
    · rw [if_neg g] at hQ
      have hm3 := hg.1.2.1.2.2 x (by omega) h1
      have hsu := hg.1.1.2.2 x (by omega) h1
      obtain ⟨-, hd2⟩ := nmd_ge P (c := x) (nm := P 3012 m) hm3.2.2.1 9 0 (by omega)
      rw [b221_28, if_neg g, if_pos (by omega)]
      have := l221k (d := d) (Q := Q) (t := t) hg hB m0 m1 (show 0 ≤ x by omega) h1 (P 3006 x).toNat 0 (by omega) (by omega) (fun x5 => ?_)
      · have e : dB (¬ nmd P x (P 3012 m) 9 0 = -1 ∧ kM P r XX (nmd P x (P 3012 m) 9 0) ∧ nmd P x (P 3012 m) 9 0 < P 3007 x + 0) = false := dB_f.2 (fun q => by have := hd2 q.1; omega)
        rw [e] at this
        exact this
      · by_cases gg : ¬ nmd P x (P 3012 m) 9 0 = -1 ∧ kM P r XX (nmd P x (P 3012 m) 9 0)
        · rw [dB_t.2 gg] at hQ ⊢
          simp only [cond_true] at hQ ⊢
          have := hd2 gg.1
          rw [b221_28]
          by_cases g4 : P 3003 x < 0
          · rw [if_pos g4]; exact hQ _ _
          · rw [if_neg g4, if_neg (by omega)]; exact hQ _ _
        · rw [dB_f.2 gg] at hQ ⊢
          simp only [cond_false] at hQ ⊢
          exact l221s hg hB m0 m1 n (P 3003 x) _ (by push_cast at hx; omega) (by omega) (by omega) hQ
theorem l221 (hg : good P) (hB0 : naR σ0 P r XX NL) : ∀ (n k : Nat) (w2 w3 w4 w5 : j3_W) (σ : j3_S), (k : Int) + n = P 3001 0 → naF σ0 σ → (∀ z, 0 ≤ z → z < (k : Int) → kM P r XX z → σ.2.2 10020 121 (80 + nM P r XX z) = nmT P r XX k z) → (∀ σ', naF σ0 σ' → (∀ z, 0 ≤ z → z < P 3001 0 → kM P r XX z → σ'.2.2 10020 121 (80 + nM P r XX z) = nam P r XX z) → Q none σ') → T221 (d + 1) Q 2 [wO 10 121, wI k, w2, w3, w4, w5] [] σ
  | 0, k, w2, w3, w4, w5, σ, hk, hf, ht, hQ => by
    have hB := hf.na hg hB0
    have h18 := hB.1.2.1
    rw [b221_2, h18, if_neg (by omega)]
    refine ⟨by omega, hQ σ hf (fun z z0 z1 q => ?_)⟩
    rw [ht z z0 (by omega) q, nam_e z1 (k := k) (by omega)]
  | n + 1, k, w2, w3, w4, w5, σ, hk, hf, ht, hQ => by
    have hB := hf.na hg hB0
    have h18 := hB.1.2.1
    have h80 := hg.1.2.1.2.1
    have hc10 := hg.1.1.2.1
    have eT : nmT P r XX (k + 1) = bif dB (kM P r XX k) then i_up (nmT P r XX k) k (nmv P r XX (nmT P r XX k) k) else nmT P r XX k := rfl
    rw [b221_2, h18, if_pos (by omega)]
    refine ⟨by omega, by omega, ?_⟩
    rcases hB.2.1.1.2.2 k (by omega) (by omega) with ⟨gk, g2⟩ | ⟨gk, g2⟩
    · have g2' : σ.2.2 10074 121 (k : Int) = 1 := g2
      have nn := nw_b (n := P 3001 0) (x := (k : Int)) (by omega) (by omega) gk
      have en : nM P r XX k = nwN (kM P r XX) k := rfl
      have nl := nB_le (q := kM P r XX) (x := P 3001 0) (by omega)
      have ow := (hg.1.2.2.2 (k : Int) (by omega) (by omega)).1
      have hsu := hg.1.1.2.2 _ ow.1 ow.2.1
      have r1 := (RP0_m hB.1 (m := (k : Int)) (by omega) (by omega)).1.1
      have r2 := (RP0_c hB.1 ow.1 ow.2.1).1.2.1
      rw [g2', if_neg (by omega), s220n hg hB (by omega) (by omega) gk]
      simp only [Option.toList_some, List.cons_append, List.nil_append]
      rw [b221_17, r1, r2]
      refine ⟨by omega, by omega, ?_⟩
      rw [dB_t.2 gk] at eT
      have fin : ∀ (v x3 x4 : Int) (w5 : j3_W), v = nmv P r XX (nmT P r XX k) k → T221 (d + 1) Q 98 [wO 10 121, wI k, wI (nM P r XX k), wI x3, wI x4, w5] [wI v, wI (80 + nM P r XX k), wA 10020 121] σ := by
        intro v x3 x4 w5 hv
        rw [b221_98, b221_99, wr_id (by omega) (by omega), show (k : Int) + 1 = ((k + 1 : Nat) : Int) by push_cast; omega]
        refine ⟨by omega, l221 hg hB0 n (k + 1) _ _ _ _ _ (by push_cast; omega) (hf.tr ⟨frm.A rfl frm.rf, fun z hz => ?_⟩) (fun z z0 z1 q => ?_) hQ⟩
        · show j3_up σ.2.2 10020 121 (i_up (σ.2.2 10020 121) (80 + nM P r XX k) v) 10020 121 z = _
          rw [up_r, iu_n (by omega)]
        · show j3_up σ.2.2 10020 121 (i_up (σ.2.2 10020 121) (80 + nM P r XX k) v) 10020 121 (80 + nM P r XX z) = _
          rw [up_r, eT]
          show _ = i_up _ _ _ z
          by_cases ez : z = k
          · rw [ez, iu_r, iu_r, hv]
          · have ne := nM_ne (P := P) z0 (show (0 : Int) ≤ k by omega) q gk ez
            rw [iu_n ez, iu_n (by omega)]; exact ht z z0 (by push_cast at z1; omega) q
      have := l221s (d := d + 1) (Q := Q) (t := nM P r XX k) hg hB (show (0 : Int) ≤ k by omega) (by omega) 10 (P 3003 (P 3011 (k : Int))) w5 (by push_cast; omega) (by omega) (by omega) (fun x4 w5 => ?_)
      · exact this
      · have eab : abS P r XX (P 3012 (k : Int)) 10 (P 3003 (P 3011 (k : Int))) = nabv P r XX k := rfl
        rw [eab, b221_79]
        rcases nabv_in (r := r) (XX := XX) hg (m := (k : Int)) (by omega) (by omega) with q | ⟨q1, q2, q3, -⟩
        · rw [q, if_pos (by omega), wr_id (z := 80 + nM P r XX k) (by omega) (by omega)]
          refine s222 (T := nmT P r XX k) hg hB (by omega) (by omega) gk ht ?_
          simp only [Option.toList_some, List.cons_append, List.nil_append]
          exact fin _ _ _ _ (by unfold nmv; rw [if_pos q])
        · have nn' := nw_b (n := P 3001 0) (x := nabv P r XX k) q1.1 (by omega) q3
          have en' : nM P r XX (nabv P r XX k) = nwN (kM P r XX) (nabv P r XX k) := rfl
          rw [if_neg (by omega), wr_id (z := 80 + nM P r XX k) (by omega) (by omega), s220n hg hB q1.1 (by omega) q3]
          simp only [Option.toList_some, List.cons_append, List.nil_append]
          rw [b221_92, wr_id (by omega) (by omega), ht _ q1.1 q1.2 q3]
          exact ⟨by omega, fin _ _ _ _ (by unfold nmv; rw [if_neg (by omega)])⟩
    · have g2' : σ.2.2 10074 121 (k : Int) = 0 := g2
      rw [dB_f.2 gk] at eT
      rw [g2', if_pos rfl, b221_99, wr_id (by omega) (by omega), show (k : Int) + 1 = ((k + 1 : Nat) : Int) by push_cast; omega]
      refine l221 hg hB0 n (k + 1) _ _ _ _ σ (by push_cast; omega) hf (fun z z0 z1 q => ?_) hQ
      rw [eT]
      by_cases ez : z = k
      · rw [ez] at q; exact absurd q gk
      · exact ht z z0 (by push_cast at z1; omega) q
theorem s221 (hg : good P) (hB : naR σ P r XX NL) (hQ : ∀ σ', naF σ σ' → (∀ z, 0 ≤ z → z < P 3001 0 → kM P r XX z → σ'.2.2 10020 121 (80 + nM P r XX z) = nam P r XX z) → Q none σ') : j3_tc true (d + 2) 221 [wO 10 121] σ Q := by
  have := hg.1.2.1.1
  rw [e221, b221_0]
  exact l221 (σ0 := σ) (d := d) hg hB (P 3001 0).toNat 0 _ _ _ _ σ (by omega) naF.rf (fun z z0 z1 => absurd z1 (by omega)) hQ
end RNAME2
