/-! all the second slot, in the reference -/
def mqA : List Nat := [10019, 10021, 10022, 10023, 10024, 10025, 10026, 10027, 10028, 10029, 10030, 10031, 10032, 10052, 10071]
section RNUMB2
variable {σ σ' σ'' σ0 : j3_S} {P : Pg} {r : Rs} {XX : Int → Sx} {NL : Int → Int} {d : Nat} {x c m i w k n v cB mB cB' mB' : Int} {Q : j3_P}
theorem spM.rw (h : spM P r XX NL (PgR σ) m) (hf : ∀ e, [10019, 10021, 10022, 10023, 10024, 10025].elem e = true → σ'.2.2 e 121 = σ.2.2 e 121) : spM P r XX NL (PgR σ') m := by
  obtain ⟨⟨a1, a2, a3, a4⟩, a5, a6⟩ := h
  refine ⟨⟨?_, ?_, ?_, ?_⟩, fun p p0 p1 => ?_, ?_⟩
  · show σ'.2.2 10019 121 _ = _; rw [hf 10019 rfl]; exact a1
  · show σ'.2.2 10021 121 _ = _; rw [hf 10021 rfl]; exact a2
  · show σ'.2.2 10022 121 _ = _; rw [hf 10022 rfl]; exact a3
  · show σ'.2.2 10023 121 _ = _; rw [hf 10023 rfl]; exact a4
  · show σ'.2.2 10024 121 _ = _; rw [hf 10024 rfl]; exact a5 p p0 p1
  · show σ'.2.2 10025 121 _ = _; rw [hf 10025 rfl]; exact a6
theorem spK0.rw (h : spK0 P r XX σ m) (hf : ∀ e, [10026, 10027, 10028, 10029, 10030, 10031, 10032].elem e = true → σ'.2.2 e 121 = σ.2.2 e 121) : spK0 P r XX σ' m := by
  unfold spK0 rwR oR at h ⊢
  rw [hf 10026 rfl, hf 10027 rfl, hf 10028 rfl, hf 10029 rfl, hf 10030 rfl, hf 10031 rfl, hf 10032 rfl]
  exact h
theorem spF.rw (h : spF P r XX (PgR σ) c i) (hf : ∀ e, [10015, 10016, 10017].elem e = true → σ'.2.2 e 121 = σ.2.2 e 121) : spF P r XX (PgR σ') c i := by
  obtain ⟨a1, a2, a3⟩ := h
  refine ⟨?_, ?_, ?_⟩
  · show σ'.2.2 10015 121 _ = _; rw [hf 10015 rfl]; exact a1
  · show σ'.2.2 10016 121 _ = _; rw [hf 10016 rfl]; exact a2
  · show σ'.2.2 10017 121 _ = _; rw [hf 10017 rfl]; exact a3
theorem shR.tr {a b : Int} (h : shR σ σ' a) (h' : shR σ' σ'' b) : shR σ σ'' (a + b) := ⟨fun i hi => (h'.1 i hi).trans (h.1 i hi), by rw [h'.2, h.2]; omega⟩
theorem own_m (hg : good P) (c0 : 0 ≤ c) (c1 : c < P 3000 0) (h0 : P 3007 c ≤ m) (h1 : m < P 3007 c + P 3006 c) : P 3011 m = c := by
  have ow := (hg.2.1 c c0 c1).2 (m - P 3007 c) (by omega) (by omega)
  rw [show P 3007 c + (m - P 3007 c) = m by omega] at ow
  exact ow
theorem l217m (hg : good P) (hxx : xxR P r XX NL) (hB0 : kbR σ0 P r XX NL) (hx0 : exG 10072 121 1 0 P r XX σ0) (h69 : ∀ c, 0 ≤ c → c < P 3000 0 → σ0.2.2 10069 121 c = nC P r XX c) (c0 : 0 ≤ c) (c1 : c < P 3000 0) (h18 : σ0.2.2 10018 121 1 = nB (kM P r XX) (P 3007 c)) (hc3 : 0 ≤ σ0.2.2 10052 121 3 ∧ σ0.2.2 10052 121 3 ≤ 1900000000) {x2 x3 : Int} : ∀ (n : Nat) (k : Int) (w6 : j3_W) (σ : j3_S), k + n = P 3006 c → 0 ≤ k → nuF 10 (nB (kM P r XX) (P 3007 c)) σ0 σ → frm [] mqA σ0 σ → shR σ0 σ (shl P r XX (P 3007 c + k) - shl P r XX (P 3007 c)) → (∀ z, z < P 3007 c → σ.2.2 10071 121 z = σ0.2.2 10071 121 z) → (∀ m, P 3007 c ≤ m → m < P 3007 c + k → σ.2.2 10071 121 m = nO P r XX m ∧ (kM P r XX m → spM P r XX NL (PgR σ) m ∧ spK0 P r XX σ m)) → (∀ σ' w6, nuF 10 (nB (kM P r XX) (P 3007 c)) σ0 σ' → frm [] mqA σ0 σ' → shR σ0 σ' (shl P r XX (P 3007 c + P 3006 c) - shl P r XX (P 3007 c)) → (∀ z, z < P 3007 c → σ'.2.2 10071 121 z = σ0.2.2 10071 121 z) → (∀ m, P 3007 c ≤ m → m < P 3007 c + P 3006 c → σ'.2.2 10071 121 m = nO P r XX m ∧ (kM P r XX m → spM P r XX NL (PgR σ') m ∧ spK0 P r XX σ' m)) → T217 (d + 2) Q 156 [wO 10 121, wI c, wI x2, wI x3, wI (nB (kM P r XX) (P 3007 c + P 3006 c) - nB (kM P r XX) (P 3007 c)), wI (P 3006 c), w6] [] σ') → T217 (d + 2) Q 156 [wO 10 121, wI c, wI x2, wI x3, wI (nB (kM P r XX) (P 3007 c + k) - nB (kM P r XX) (P 3007 c)), wI k, w6] [] σ
  | 0, k, w6, σ, hk, k0, hf, hf2, hsh, hz, hs, hQ => by
    rw [show k = P 3006 c by omega] at hsh hs ⊢
    exact hQ σ w6 hf hf2 hsh hz hs
  | n + 1, k, w6, σ, hk, k0, hf, hf2, hsh, hz, hs, hQ => by
    have hB := hf.kb hg (by omega) nB_p hB0 hxx
    have hx := hx0.nu hf.1
    have hc10 := hg.1.1.2.1
    have h80 := hg.1.2.1.2.1
    have hm3 := hg.1.2.1.2.2 c c0 c1
    have ow := own_m hg c0 c1 (m := P 3007 c + k) (by omega) (by omega)
    have nl := nB_le (q := kM P r XX) (x := P 3007 c + k) (by omega)
    have nl0 := nB_mo (q := kM P r XX) (x := P 3007 c) (y := P 3007 c + k) (by omega) (by omega)
    have n0 := nB_p (q := kM P r XX) (x := P 3007 c)
    have e1 : P 3007 c + (k + 1) = P 3007 c + k + 1 := by omega
    have sb := shl_b (P := P) (r := r) (XX := XX) (k := P 3007 c + k) (by omega)
    have sb0 := shl_b (P := P) (r := r) (XX := XX) (k := P 3007 c) (by omega)
    have sbm : shl P r XX (P 3007 c) ≤ shl P r XX (P 3007 c + k) := nB_mo (by omega) (by omega)
    obtain ⟨r1, -⟩ := RP0_c hB.1 c0 c1
    rw [b217_156, r1.2.2.2.1, if_pos (by omega), r1.2.2.2.2]
    simp (disch := omega) only [wr_id]
    refine ⟨by omega, by omega, by omega, ?_⟩
    rcases hx.2.2 (P 3007 c + k) (by omega) (by omega) with ⟨g1, g2⟩ | ⟨g1, g2⟩
    · have g2' : σ.2.2 10074 121 (P 3007 c + k) = 1 := g2
      have em : nM P r XX (P 3007 c + k) = nB (kM P r XX) (P 3007 c + k) := nw_k g1
      have enO : nO P r XX (P 3007 c + k) = nB (kM P r XX) (P 3007 c + k) - nB (kM P r XX) (P 3007 c) := by
        unfold nO; rw [dB_t.2 g1, ow, em]; rfl
      rw [g2', if_neg (by omega), b217_180, g2', if_neg (by omega)]
      have e18 : σ.2.2 10018 121 1 = nB (kM P r XX) (P 3007 c) := by rw [hf2.2.2 10018 _ rfl]; exact h18
      have e18' : j3_ast σ.2.2 10071 121 (P 3007 c + k) (nB (kM P r XX) (P 3007 c + k) - nB (kM P r XX) (P 3007 c)) 10018 121 1 = nB (kM P r XX) (P 3007 c) := by
        unfold j3_ast; rw [up_e rfl]; exact e18
      first
        | rw [e18', wr_id (by omega) (by omega), show nB (kM P r XX) (P 3007 c) + (nB (kM P r XX) (P 3007 c + k) - nB (kM P r XX) (P 3007 c)) = nM P r XX (P 3007 c + k) by omega]
        | rw [e18, wr_id (by omega) (by omega), show nB (kM P r XX) (P 3007 c) + (nB (kM P r XX) (P 3007 c + k) - nB (kM P r XX) (P 3007 c)) = nM P r XX (P 3007 c + k) by omega]
      refine ⟨by omega, by omega, by omega, ?_⟩
      generalize hσ1 : ((σ.1, σ.2.1, j3_ast σ.2.2 10071 121 (P 3007 c + k) (nB (kM P r XX) (P 3007 c + k) - nB (kM P r XX) (P 3007 c))) : j3_S) = σ1
      have f1 : nuF 10 (nB (kM P r XX) (P 3007 c)) σ σ1 := by rw [← hσ1]; exact nuF.ast rfl (Or.inl (by omega))
      have F1 : frm [] [10071] σ σ1 := by rw [← hσ1]; exact frm.A rfl frm.rf
      have a71 : σ1.2.2 10071 121 = i_up (σ.2.2 10071 121) (P 3007 c + k) (nB (kM P r XX) (P 3007 c + k) - nB (kM P r XX) (P 3007 c)) := by
        rw [← hσ1]; simp only [j3_ast]; rw [up_r]
      refine s218 hg hxx (f1.kb hg (by omega) nB_p hB hxx) (fun c c0 c1 => by rw [F1.2.2 10069 _ rfl, hf2.2.2 10069 _ rfl]; exact h69 c c0 c1) (by omega) (by omega) g1 (by rw [F1.2.2 10052 _ rfl, hsh.2]; omega) (fun σ2 f2 F2 t1 t2 t3 => ?_)
      simp only [Option.toList_none, List.nil_append]
      rw [b217_196, b217_197, wr_id (by omega) (by omega), wr_id (by omega) (by omega), show nB (kM P r XX) (P 3007 c + k) - nB (kM P r XX) (P 3007 c) + 1 = nB (kM P r XX) (P 3007 c + (k + 1)) - nB (kM P r XX) (P 3007 c) by rw [e1, nB_k (by omega) g1]; omega]
      have es : shl P r XX (P 3007 c + (k + 1)) = shl P r XX (P 3007 c + k) + (if r.1 (P 3007 c + k) = 1 then 0 else 1) := by
        rw [e1]
        by_cases g : r.1 (P 3007 c + k) = 1
        · rw [if_pos g]
          have : shl P r XX (P 3007 c + k + 1) = shl P r XX (P 3007 c + k) := nB_n (by omega) (fun q => q.2 g)
          omega
        · rw [if_neg g]
          exact nB_k (by omega) ⟨g1, g⟩
      have F12 : frm [] mqA σ σ2 := (F1.wd (fun _ h => h) (sub_el rfl)).tr (F2.wd (fun _ h => h) (sub_el rfl))
      refine l217m hg hxx hB0 hx0 h69 c0 c1 h18 hc3 n (k + 1) _ σ2 (by omega) (by omega) ((hf.tr f1 (by omega) (by omega)).tr f2 (by omega) (by omega)) (hf2.tr F12) ?_ (fun z q => ?_) (fun m m0 m1 => ?_) hQ
      · have h1 : shR σ σ1 0 := ⟨fun i _ => by rw [F1.2.2 10052 _ rfl], by rw [F1.2.2 10052 _ rfl]; omega⟩
        have := (hsh.tr h1).tr t3
        rw [es]
        rw [show shl P r XX (P 3007 c + k) - shl P r XX (P 3007 c) + 0 + (if r.1 (P 3007 c + k) = 1 then 0 else 1) = shl P r XX (P 3007 c + k) + (if r.1 (P 3007 c + k) = 1 then 0 else 1) - shl P r XX (P 3007 c) by omega] at this
        exact this
      · rw [F2.2.2 10071 _ rfl, a71, iu_n (by omega)]; exact hz z q
      · rw [F2.2.2 10071 _ rfl, a71]
        by_cases e : m = P 3007 c + k
        · rw [e, iu_r, enO]; exact ⟨rfl, fun _ => ⟨t1, t2⟩⟩
        · rw [iu_n e]
          obtain ⟨u1, u2⟩ := hs m m0 (by omega)
          refine ⟨u1, fun q => ?_⟩
          obtain ⟨v1, v2⟩ := u2 q
          have lt : nM P r XX m < nM P r XX (P 3007 c + k) := by
            rw [em, show nM P r XX m = nB (kM P r XX) m from nw_k q]
            exact nB_lt (by omega) (by omega) q
          have m0' : 0 ≤ nM P r XX m := by rw [show nM P r XX m = nB (kM P r XX) m from nw_k q]; exact nB_p
          have p3 := (hg.1.2.2.2 m (by omega) (by omega)).2.2.2.1.2.1
          have w1 : spM P r XX NL (PgR σ1) m := v1.rw (fun e he => F1.2.2 e _ (by simp at he ⊢; omega))
          have w2 : spK0 P r XX σ1 m := v2.rw (fun e he => F1.2.2 e _ (by simp at he ⊢; omega))
          exact ⟨w1.mvR p3 m0' f2 lt, w2.mvR (lnK_b hxx (by omega) (by omega)).2 f2 lt⟩
    · have g2' : σ.2.2 10074 121 (P 3007 c + k) = 0 := g2
      have enO : nO P r XX (P 3007 c + k) = -1 := by unfold nO; rw [dB_f.2 g1]; rfl
      rw [g2', if_pos rfl, b217_180, g2', if_pos rfl, b217_197, wr_id (by omega) (by omega), ← nB_n (by omega) g1, ← e1]
      refine ⟨by omega, by omega, ?_⟩
      generalize hσ1 : ((σ.1, σ.2.1, j3_ast σ.2.2 10071 121 (P 3007 c + k) (-1)) : j3_S) = σ1
      have f1 : nuF 10 (nB (kM P r XX) (P 3007 c)) σ σ1 := by rw [← hσ1]; exact nuF.ast rfl (Or.inl (by omega))
      have F1 : frm [] [10071] σ σ1 := by rw [← hσ1]; exact frm.A rfl frm.rf
      have a71 : σ1.2.2 10071 121 = i_up (σ.2.2 10071 121) (P 3007 c + k) (-1) := by
        rw [← hσ1]; simp only [j3_ast]; rw [up_r]
      have es : shl P r XX (P 3007 c + (k + 1)) = shl P r XX (P 3007 c + k) := by rw [e1]; exact nB_n (by omega) (fun q => g1 q.1)
      refine l217m hg hxx hB0 hx0 h69 c0 c1 h18 hc3 n (k + 1) _ σ1 (by omega) (by omega) (hf.tr f1 (by omega) (by omega)) (hf2.tr (F1.wd (fun _ h => h) (sub_el rfl))) ⟨fun i hi => by rw [F1.2.2 10052 _ rfl]; exact hsh.1 i hi, by rw [F1.2.2 10052 _ rfl, es]; exact hsh.2⟩ (fun z q => by rw [a71, iu_n (by omega)]; exact hz z q) (fun m m0 m1 => ?_) hQ
      rw [a71]
      by_cases e : m = P 3007 c + k
      · rw [e, iu_r, enO]; exact ⟨rfl, fun q => absurd q g1⟩
      · rw [iu_n e]
        obtain ⟨u1, u2⟩ := hs m m0 (by omega)
        refine ⟨u1, fun q => ?_⟩
        obtain ⟨v1, v2⟩ := u2 q
        exact ⟨v1.rw (fun e he => F1.2.2 e _ (by simp at he ⊢; omega)), v2.rw (fun e he => F1.2.2 e _ (by simp at he ⊢; omega))⟩
theorem l217k (hg : good P) (hxx : xxR P r XX NL) (hB0 : kbR σ0 P r XX NL) (hx0 : exG 10072 121 1 0 P r XX σ0) (hc3 : 0 ≤ σ0.2.2 10052 121 3 ∧ σ0.2.2 10052 121 3 ≤ 1800000000) : ∀ (n : Nat) (c : Int) (w2 w3 w4 w5 w6 : j3_W) (σ : j3_S), c + n = P 3000 0 → 0 ≤ c → nuF 0 0 σ0 σ → (∀ c', 0 ≤ c' → c' < P 3000 0 → σ.2.2 10069 121 c' = nC P r XX c') → σ.2.2 10009 121 1 = nB (kC P r XX) (P 3000 0) → σ.2.2 10018 121 1 = nB (kM P r XX) (ptM P c) → shR σ0 σ (shl P r XX (ptM P c)) → nbR σ P r XX c (ptM P c) → wrR σ P r XX NL c (ptM P c) → (∀ σ', nuF 0 0 σ0 σ' → (∀ c', 0 ≤ c' → c' < P 3000 0 → σ'.2.2 10069 121 c' = nC P r XX c') → σ'.2.2 10009 121 1 = nB (kC P r XX) (P 3000 0) → σ'.2.2 10018 121 1 = nB (kM P r XX) (P 3001 0) → shR σ0 σ' (shl P r XX (P 3001 0)) → nbR σ' P r XX (P 3000 0) (P 3001 0) → wrR σ' P r XX NL (P 3000 0) (P 3001 0) → Q none σ') → T217 (d + 2) Q 52 [wO 10 121, wI c, w2, w3, w4, w5, w6] [] σ
  | 0, c, w2, w3, w4, w5, w6, σ, hc, c0, hf, h69, h9, h18, hsh, hn, hw, hQ => by
    have hB := hf.kb hg (by omega) (by omega) hB0 hxx
    have h0 := hB.1.1
    have e : ptM P c = P 3001 0 := by unfold ptM; rw [if_neg (by omega)]
    rw [b217_52, h0, if_neg (by omega)]
    rw [e] at h18 hsh hn hw
    rw [show c = P 3000 0 by omega] at hn hw
    exact ⟨by omega, hQ σ hf h69 h9 h18 hsh hn hw⟩
  | n + 1, c, w2, w3, w4, w5, w6, σ, hc, c0, hf, h69, h9, h18, hsh, hn, hw, hQ => by
    have hB := hf.kb hg (by omega) (by omega) hB0 hxx
    have hx := hx0.nu hf.1
    have hc10 := hg.1.1.2.1
    have h80 := hg.1.2.1.2.1
    have c1 : c < P 3000 0 := by omega
    have hm3 := hg.1.2.1.2.2 c c0 c1
    have hff := hg.1.2.2.1 c c0 c1
    have hsu := hg.1.1.2.2 c c0 c1
    have ep := ptM_c (P := P) c1
    have es := ptM_s hg c0 c1
    have nl := nB_le (q := kM P r XX) (x := P 3007 c) (by omega)
    have n0 := nB_p (q := kM P r XX) (x := P 3007 c)
    have nl2 := nB_le (q := kM P r XX) (x := P 3007 c + P 3006 c) (by omega)
    have nlm := nB_mo (q := kM P r XX) (x := P 3007 c) (y := P 3007 c + P 3006 c) (by omega) (by omega)
    have sb0 := shl_b (P := P) (r := r) (XX := XX) (k := P 3007 c) (by omega)
    have h0 := hB.1.1
    have nc1 : -1 ≤ nC P r XX c ∧ nC P r XX c ≤ 9 := by
      by_cases gk : kC P r XX c
      · have ncb := nw_b (n := P 3000 0) c0 c1 gk
        have enc : nC P r XX c = nwN (kC P r XX) c := rfl
        omega
      · rw [show nC P r XX c = -1 from nw_n gk]; omega
    rw [b217_52, h0, if_pos (by omega), h69 c c0 c1, wr_id (by omega) (by omega)]
    refine ⟨by omega, by omega, ?_⟩
    have := l217f (d := d + 1) (Q := Q) (x2 := 10 + nC P r XX c) (x4 := 0) (σ0 := σ) hg hxx hB hx h69 c0 c1 (P 3005 c).toNat 0 w6 σ (by omega) (by omega) nuF.rf frm.rf (fun _ _ => rfl) (fun f' f0 f1 => by omega) (fun σ1 w6' f1 F1 z1 t1 => ?_)
    · rw [nB_0] at this; exact this
    · have hB1 := f1.kb hg nB_p (by omega) hB hxx
      have hx1 := hx.nu f1.1
      rw [ep] at h18 hsh hn hw
      have := l217m (d := d) (Q := Q) (x2 := 10 + nC P r XX c) (x3 := nB (kFc P r XX c) (P 3005 c)) (σ0 := σ1) hg hxx hB1 hx1 (fun c c0 c1 => by rw [F1.2.2 10069 _ rfl]; exact h69 c c0 c1) c0 c1 (by rw [F1.2.2 10018 _ rfl]; exact h18) (by rw [F1.2.2 10052 _ rfl, hsh.2]; omega) (P 3006 c).toNat 0 w6' σ1 (by omega) (by omega) nuF.rf frm.rf ⟨fun _ _ => rfl, by rw [show P 3007 c + 0 = P 3007 c by omega]; omega⟩ (fun _ _ => rfl) (fun m m0 m1 => by omega) (fun σ2 w6'' f2 F2 s2 z2 t2 => ?_)
      · rw [show P 3007 c + 0 = P 3007 c by omega, show nB (kM P r XX) (P 3007 c) - nB (kM P r XX) (P 3007 c) = 0 by omega] at this
        exact this
      · have hB2 := f2.kb hg (by omega) nB_p hB1 hxx
        have hx2 := hx1.nu f2.1
        obtain ⟨r1, -⟩ := RP0_c hB2.1 c0 c1
        have e18 : σ2.2.2 10018 121 1 = nB (kM P r XX) (P 3007 c) := by rw [F2.2.2 10018 _ rfl, F1.2.2 10018 _ rfl]; exact h18
        have e69 : ∀ c', 0 ≤ c' → c' < P 3000 0 → σ2.2.2 10069 121 c' = nC P r XX c' := fun c' q0 q1 => by rw [F2.2.2 10069 _ rfl, F1.2.2 10069 _ rfl]; exact h69 c' q0 q1
        have e9 : σ2.2.2 10009 121 1 = nB (kC P r XX) (P 3000 0) := by rw [F2.2.2 10009 _ rfl, F1.2.2 10009 _ rfl]; exact h9
        have G2 : nuF (nB (kC P r XX) c) (nB (kM P r XX) (P 3007 c)) σ σ2 := by
          have nlc := nB_le (q := kC P r XX) c0
          exact (f1.wk (Int.le_refl _) (by omega)).tr (f2.wk (by omega) (Int.le_refl _)) (Int.le_refl _) (Int.le_refl _)
        have S2 : shR σ0 σ2 (shl P r XX (ptM P (c + 1))) := by
          have h1 : shR σ σ1 0 := ⟨fun i _ => by rw [F1.2.2 10052 _ rfl], by rw [F1.2.2 10052 _ rfl]; omega⟩
          have := (hsh.tr h1).tr s2
          rw [show shl P r XX (P 3007 c) + 0 + (shl P r XX (P 3007 c + P 3006 c) - shl P r XX (P 3007 c)) = shl P r XX (P 3007 c + P 3006 c) by omega, ← es] at this
          exact this
        have N2 : nbR σ2 P r XX (c + 1) (ptM P (c + 1)) := by
          refine ⟨fun c' f c0' c1' f0 f1' => ?_, fun m m0 m1 => ?_⟩
          · rw [F2.2.2 10070 _ rfl]
            by_cases e : c' = c
            · rw [e] at f1' ⊢; exact (t1 f f0 f1').1
            · have hf' := hg.1.2.2.1 c' c0' (by omega)
              rw [z1 _ (by omega)]; exact hn.1 c' f c0' (by omega) f0 f1'
          · rw [es] at m1
            by_cases e : m < P 3007 c
            · rw [z2 m e, F1.2.2 10071 _ rfl]; exact hn.2 m m0 e
            · exact (t2 m (by omega) m1).1
        have W2 : wrR σ2 P r XX NL c (P 3007 c) := hw.keep hg hxx (by omega) (by omega) G2 (Int.le_refl _) (Int.le_refl _)
        have wf : ∀ f, 0 ≤ f → f < P 3005 c → kFc P r XX c f → spF P r XX (PgR σ2) c f := fun f f0 f1' q => ((t1 f f0 f1').2 q).rw (fun e he => F2.2.2 e _ (by simp at he; rcases he with rfl | rfl | rfl <;> rfl))
        rw [b217_156, r1.2.2.2.1, if_neg (by omega)]
        refine ⟨by omega, by omega, ?_⟩
        rcases hx2.1 c c0 c1 with ⟨gk, g2⟩ | ⟨gk, g2⟩
        · have g2' : σ2.2.2 10072 121 c = 1 := g2
          have ncb := nw_b (n := P 3000 0) c0 c1 gk
          have enc : nC P r XX c = nwN (kC P r XX) c := rfl
          have enB : nC P r XX c = nB (kC P r XX) c := nw_k gk
          have nlc := nB_le (q := kC P r XX) (x := P 3000 0) (by omega)
          rw [g2', if_neg (by omega), r1.2.1, e69 c c0 c1, wr_id (z := nC P r XX c + 1) (by omega) (by omega)]
          refine ⟨by omega, by omega, by omega, ?_⟩
          have key : ∀ v, (v = if P 3003 c < 0 then -1 else nC P r XX (P 3003 c)) → T217 (d + 2) Q 232 [wO 10 121, wI c, wI (10 + nC P r XX c), wI (nB (kFc P r XX c) (P 3005 c)), wI (nB (kM P r XX) (P 3007 c + P 3006 c) - nB (kM P r XX) (P 3007 c)), wI (P 3006 c), w6''] [wI v, wI (10 + nC P r XX c), wA 10011 121] (σ2.1, σ2.2.1, j3_ast σ2.2.2 10010 121 (10 + nC P r XX c) (nC P r XX c + 1)) := by
            intro v hv
            rw [b217_232]
            dsimp only
            have e18a : j3_ast σ2.2.2 10010 121 (10 + nC P r XX c) (nC P r XX c + 1) 10018 121 1 = nB (kM P r XX) (P 3007 c) := by
              unfold j3_ast; rw [up_e rfl]; exact e18
            rw [e18a, wr_id (by omega) (by omega), b217_259, wr_id (by omega) (by omega), show nB (kM P r XX) (P 3007 c) + (nB (kM P r XX) (P 3007 c + P 3006 c) - nB (kM P r XX) (P 3007 c)) = nB (kM P r XX) (ptM P (c + 1)) by rw [es]; omega]
            refine ⟨by omega, by omega, by omega, by omega, by omega, by omega, by omega, ?_⟩
            generalize hA : j3_ast (j3_ast (j3_ast (j3_ast (j3_ast (j3_ast σ2.2.2 10010 121 (10 + nC P r XX c) (nC P r XX c + 1)) 10011 121 (10 + nC P r XX c) v) 10012 121 (10 + nC P r XX c) (nB (kFc P r XX c) (P 3005 c))) 10014 121 (10 + nC P r XX c) (nB (kM P r XX) (P 3007 c + P 3006 c) - nB (kM P r XX) (P 3007 c))) 10013 121 (10 + nC P r XX c) (nB (kM P r XX) (P 3007 c))) 10018 121 1 (nB (kM P r XX) (ptM P (c + 1))) = A'
            have aF : frm [] [10010, 10011, 10012, 10013, 10014, 10018] σ2 (σ2.1, σ2.2.1, A') := by
              rw [← hA]
              exact frm.A rfl (frm.A rfl (frm.A rfl (frm.A rfl (frm.A rfl (frm.A rfl frm.rf)))))
            have a10 : A' 10010 121 = i_up (σ2.2.2 10010 121) (10 + nC P r XX c) (nC P r XX c + 1) := by
              rw [← hA]; simp only [j3_ast]; rw [up_e rfl, up_e rfl, up_e rfl, up_e rfl, up_e rfl, up_r]
            have a11 : A' 10011 121 = i_up (σ2.2.2 10011 121) (10 + nC P r XX c) v := by
              rw [← hA]; simp only [j3_ast]; rw [up_e rfl, up_e rfl, up_e rfl, up_e rfl, up_r, up_e rfl]
            have a12 : A' 10012 121 = i_up (σ2.2.2 10012 121) (10 + nC P r XX c) (nB (kFc P r XX c) (P 3005 c)) := by
              rw [← hA]; simp only [j3_ast]; rw [up_e rfl, up_e rfl, up_e rfl, up_r, up_e rfl, up_e rfl]
            have a14 : A' 10014 121 = i_up (σ2.2.2 10014 121) (10 + nC P r XX c) (nB (kM P r XX) (P 3007 c + P 3006 c) - nB (kM P r XX) (P 3007 c)) := by
              rw [← hA]; simp only [j3_ast]; rw [up_e rfl, up_e rfl, up_r, up_e rfl, up_e rfl, up_e rfl]
            have a13 : A' 10013 121 = i_up (σ2.2.2 10013 121) (10 + nC P r XX c) (nB (kM P r XX) (P 3007 c)) := by
              rw [← hA]; simp only [j3_ast]; rw [up_e rfl, up_r, up_e rfl, up_e rfl, up_e rfl, up_e rfl]
            have a18 : A' 10018 121 = i_up (σ2.2.2 10018 121) 1 (nB (kM P r XX) (ptM P (c + 1))) := by
              rw [← hA]; simp only [j3_ast]; rw [up_r, up_e rfl, up_e rfl, up_e rfl, up_e rfl, up_e rfl]
            clear hA
            have f3 : nuF (nB (kC P r XX) c) 80 σ2 (σ2.1, σ2.2.1, A') := by
              refine ⟨aF.wd (fun _ h => h) (sub_el rfl), fun e z e0 e1 hz => ?_⟩
              show A' e 121 z = _
              by_cases ge : [10010, 10011, 10012, 10013, 10014, 10018].elem e = true
              · simp at ge
                rcases ge with rfl | rfl | rfl | rfl | rfl | rfl
                · have : z < 10 + nB (kC P r XX) c ∨ 2 * 10 ≤ z := hz
                  rw [a10, iu_n (by omega)]
                · have : z < 10 + nB (kC P r XX) c ∨ 2 * 10 ≤ z := hz
                  rw [a11, iu_n (by omega)]
                · have : z < 10 + nB (kC P r XX) c ∨ 2 * 10 ≤ z := hz
                  rw [a12, iu_n (by omega)]
                · have : z < 10 + nB (kC P r XX) c ∨ 2 * 10 ≤ z := hz
                  rw [a13, iu_n (by omega)]
                · have : z < 10 + nB (kC P r XX) c ∨ 2 * 10 ≤ z := hz
                  rw [a14, iu_n (by omega)]
                · have : z < 1 ∨ 2 * 1 ≤ z := hz
                  rw [a18, iu_n (by omega)]
              · rw [show A' e 121 = σ2.2.2 e 121 from aF.2.2 e 121 (by simpa using ge)]
            have W3 := W2.keep hg hxx (by omega) (by omega) f3 (Int.le_refl _) (by omega)
            refine l217k hg hxx hB0 hx0 hc3 n (c + 1) _ _ _ _ _ (σ2.1, σ2.2.1, A') (by omega) (by omega) ((hf.tr G2 nB_p nB_p).tr f3 (by omega) (by omega)) (fun c' q0 q1 => by rw [aF.2.2 10069 _ rfl]; exact e69 c' q0 q1) (by rw [aF.2.2 10009 _ rfl]; exact e9) (by show A' 10018 121 1 = _; rw [a18, iu_r]) ⟨fun i hi => by rw [aF.2.2 10052 _ rfl]; exact S2.1 i hi, by rw [aF.2.2 10052 _ rfl]; exact S2.2⟩ ⟨fun c' f q0 q1 q2 q3 => by rw [aF.2.2 10070 _ rfl]; exact N2.1 c' f q0 q1 q2 q3, fun m q0 q1 => by rw [aF.2.2 10071 _ rfl]; exact N2.2 m q0 q1⟩ ⟨fun c' c0' c1' hk' => ?_, fun m m0 m1 hk' => ?_⟩ hQ
            · by_cases e : c' = c
              · rw [e]
                refine ⟨⟨⟨?_, ?_⟩, ?_, ?_, ?_⟩, fun f f0 f1' q => (wf f f0 f1' q).rw (fun e he => aF.2.2 e _ (by simp at he; rcases he with rfl | rfl | rfl <;> rfl))⟩
                · show A' 10010 121 (10 + nC P r XX c) = _; rw [a10, iu_r]
                · show A' 10011 121 (10 + nC P r XX c) = _; rw [a11, iu_r, hv]
                · show A' 10012 121 (10 + nC P r XX c) = _; rw [a12, iu_r]
                · show A' 10014 121 (10 + nC P r XX c) = _; rw [a14, iu_r]
                · show A' 10013 121 (10 + nC P r XX c) = _; rw [a13, iu_r]
              · exact W3.1 c' c0' (by omega) hk'
            · by_cases e : m < P 3007 c
              · exact W3.2 m m0 e hk'
              · rw [es] at m1
                obtain ⟨v1, v2⟩ := (t2 m (by omega) m1).2 hk'
                exact ⟨v1.rw (fun e he => aF.2.2 e _ (by simp at he; rcases he with rfl | rfl | rfl | rfl | rfl | rfl <;> rfl)), v2.rw (fun e he => aF.2.2 e _ (by simp at he; rcases he with rfl | rfl | rfl | rfl | rfl | rfl | rfl <;> rfl))⟩
          by_cases g : P 3003 c < 0
          · rw [if_pos g]
            exact key (-1) (by rw [if_pos g])
          · rw [if_neg g, e69 (P 3003 c) (by omega) (by omega)]
            exact ⟨by omega, by omega, key _ (by rw [if_neg g])⟩
        · have g2' : σ2.2.2 10072 121 c = 0 := g2
          have no : ∀ x, P 3007 c ≤ x → x < P 3007 c + P 3006 c → ¬ kM P r XX x := by
            intro x x0 x1 q
            have := (kC_cl.2.2.2.1 x (by omega) (by omega) q).1
            rw [own_m hg c0 c1 x0 x1] at this
            exact gk this
          have en := nB_none (q := kM P r XX) (a := P 3007 c) (by omega) (P 3006 c).toNat (fun x x0 x1 => no x x0 (by omega))
          rw [show P 3007 c + (((P 3006 c).toNat : Nat) : Int) = P 3007 c + P 3006 c by omega, ← es] at en
          rw [g2', if_pos rfl, b217_259, wr_id (by omega) (by omega)]
          refine l217k hg hxx hB0 hx0 hc3 n (c + 1) _ _ _ _ _ σ2 (by omega) (by omega) (hf.tr G2 nB_p nB_p) e69 e9 (by rw [en]; exact e18) S2 N2 ⟨fun c' c0' c1' hk' => ?_, fun m m0 m1 hk' => ?_⟩ hQ
          · by_cases e : c' = c
            · rw [e] at hk'; exact absurd hk' gk
            · exact W2.1 c' c0' (by omega) hk'
          · by_cases e : m < P 3007 c
            · exact W2.2 m m0 e hk'
            · rw [es] at m1
              exact absurd hk' (no m (by omega) m1)
theorem s217 (hg : good P) (hxx : xxR P r XX NL) (hB : kbR σ P r XX NL) (hx : exG 10072 121 1 0 P r XX σ) (hc3 : 0 ≤ σ.2.2 10052 121 3 ∧ σ.2.2 10052 121 3 ≤ 1800000000) (hQ : ∀ σ', nuF 0 0 σ σ' → (∀ c', 0 ≤ c' → c' < P 3000 0 → σ'.2.2 10069 121 c' = nC P r XX c') → σ'.2.2 10009 121 1 = nB (kC P r XX) (P 3000 0) → σ'.2.2 10018 121 1 = nB (kM P r XX) (P 3001 0) → shR σ σ' (shl P r XX (P 3001 0)) → nbR σ' P r XX (P 3000 0) (P 3001 0) → wrR σ' P r XX NL (P 3000 0) (P 3001 0) → Q none σ') : j3_tc true (d + 3) 217 [wO 10 121] σ Q := by
  have hc1 := hg.1.1.1
  rw [e217, b217_0]
  refine ⟨by omega, by omega, ?_⟩
  generalize hσ1 : ((σ.1, σ.2.1, j3_ast (j3_ast σ.2.2 10009 121 1 0) 10018 121 1 0) : j3_S) = σ1
  have f1 : nuF 0 0 σ σ1 := by
    rw [← hσ1]
    have b1 : nuF 0 0 σ (σ.1, σ.2.1, j3_ast σ.2.2 10009 121 1 0) := nuF.ast rfl (Or.inr ⟨by show (1 : Int) ≤ 1; omega, by show (1 : Int) < 2 * 1; omega⟩)
    have b2 := nuF.ast (σ := (σ.1, σ.2.1, j3_ast σ.2.2 10009 121 1 0)) (cB := 0) (mB := 0) (e := 10018) (z := 1) (v := 0) rfl (Or.inr ⟨by show (1 : Int) ≤ 1; omega, by show (1 : Int) < 2 * 1; omega⟩)
    exact b1.tr b2 (by omega) (by omega)
  have F1 : frm [] [10009, 10018, 10069] σ σ1 := by rw [← hσ1]; exact frm.A rfl (frm.A rfl frm.rf)
  have a9 : σ1.2.2 10009 121 1 = 0 := by rw [← hσ1]; simp only [j3_ast]; rw [up_e rfl, up_r, iu_r]
  have a18 : σ1.2.2 10018 121 1 = 0 := by rw [← hσ1]; simp only [j3_ast]; rw [up_r, iu_r]
  refine l217a (σ0 := σ) hg hxx hB hx (P 3000 0).toNat 0 σ1 (by omega) (by omega) f1 F1 a18 (by rw [a9, nB_0]) (fun c' q0 q1 => by omega) (fun σ2 f2 F2 b18 b9 b69 => ?_)
  refine l217k (σ0 := σ) hg hxx hB hx hc3 (P 3000 0).toNat 0 _ _ _ _ _ σ2 (by omega) (by omega) f2 b69 b9 (by rw [ptM_0 hg, nB_0]; exact b18) ⟨fun i _ => by rw [F2.2.2 10052 _ rfl], by rw [F2.2.2 10052 _ rfl, ptM_0 hg]; unfold shl; rw [nB_0]; omega⟩ ⟨fun c' f q0 q1 => by omega, fun m q0 q1 => by rw [ptM_0 hg] at q1; omega⟩ ⟨fun c' q0 q1 => by omega, fun m q0 q1 => by rw [ptM_0 hg] at q1; omega⟩ hQ
end RNUMB2
