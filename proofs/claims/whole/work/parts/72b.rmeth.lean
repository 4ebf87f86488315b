/-! a method in the second slot of the reference -/
def mpA : List Nat := [10024, 10025, 10026, 10027, 10028, 10029, 10030, 10031, 10032, 10052]
section RMETH
variable {σ σ' σ'' σ0 : j3_S} {P : Pg} {r : Rs} {XX : Int → Sx} {NL : Int → Int} {d : Nat} {x c m i w k n v cB mB cB' mB' : Int} {Q : j3_P}
theorem RP0_m (hR : RP σ 0 P) (m0 : 0 ≤ m) (m1 : m < P 3001 0) : (σ.2.2 10019 121 m = P 3011 m ∧ σ.2.2 10020 121 m = P 3012 m ∧ σ.2.2 10021 121 m = P 3013 m ∧ σ.2.2 10022 121 m = P 3014 m ∧ σ.2.2 10023 121 m = P 3015 m ∧ σ.2.2 10025 121 m = P 3017 m ∧ σ.2.2 10026 121 m = P 0 m) ∧ ∀ p, 0 ≤ p → p < P 3015 m → σ.2.2 10024 121 (3 * m + p) = P 3016 (m * 3 + p) := by
  obtain ⟨a1, a2, -⟩ := hR.2.2.2 m m0 m1
  rw [show 80 * 0 + m = m by omega] at a1 a2
  exact ⟨a1, a2⟩
theorem RP0_c (hR : RP σ 0 P) (c0 : 0 ≤ c) (c1 : c < P 3000 0) : (σ.2.2 10010 121 c = P 3002 c ∧ σ.2.2 10011 121 c = P 3003 c ∧ σ.2.2 10012 121 c = P 3005 c ∧ σ.2.2 10014 121 c = P 3006 c ∧ σ.2.2 10013 121 c = P 3007 c) ∧ ∀ f, 0 ≤ f → f < P 3005 c → σ.2.2 10015 121 (6 * c + f) = P 3008 (c * 6 + f) ∧ σ.2.2 10016 121 (6 * c + f) = P 3009 (c * 6 + f) ∧ σ.2.2 10017 121 (6 * c + f) = P 3010 (c * 6 + f) := by
  obtain ⟨a1, a2⟩ := hR.2.2.1 c c0 c1
  rw [show 10 * 0 + c = c by omega] at a1
  refine ⟨a1, fun f f0 f1 => ?_⟩
  have := a2 f f0 f1
  rw [show 60 * 0 + 6 * c + f = 6 * c + f by omega] at this
  exact this
/-- the faces of a method, then its code -/
theorem l218p (hg : good P) (hxx : xxR P r XX NL) (hB0 : kbR σ0 P r XX NL) (h69 : ∀ c, 0 ≤ c → c < P 3000 0 → σ0.2.2 10069 121 c = nC P r XX c) (m0 : 0 ≤ m) (m1 : m < P 3001 0) (hm : kM P r XX m) (hc3 : 0 ≤ σ0.2.2 10052 121 3 ∧ σ0.2.2 10052 121 3 ≤ 2000000000) : ∀ (n : Nat) (p : Int) (σ : j3_S), p + n = P 3015 m → 0 ≤ p → nuF 10 (nM P r XX m) σ0 σ → frm [] [10024] σ0 σ → (∀ p', 0 ≤ p' → p' < p → σ.2.2 10024 121 (240 + (nM P r XX m * 3 + p')) = tN P r XX (P 3016 (m * 3 + p'))) → (∀ σ', nuF 10 (nM P r XX m) σ0 σ' → frm [] mpA σ0 σ' → (∀ p', 0 ≤ p' → p' < P 3015 m → σ'.2.2 10024 121 (240 + (nM P r XX m * 3 + p')) = tN P r XX (P 3016 (m * 3 + p'))) → (σ'.2.2 10025 121 (80 + nM P r XX m) = if r.1 m = 1 then NL m else P 3015 m + rcv P m) → spK0 P r XX σ' m → shR σ0 σ' (if r.1 m = 1 then 0 else 1) → Q none σ') → T218 (d + 1) Q 59 [wO 10 121, wI m, wI (nM P r XX m), wI (80 + nM P r XX m), wI p] [] σ
  | 0, p, σ, hp, p0, hf, hf2, hs, hQ => by
    have h80 := hg.1.2.1.2.1
    have nn := nw_b (n := P 3001 0) m0 m1 hm
    have en : nM P r XX m = nwN (kM P r XX) m := rfl
    have nl := nB_le (q := kM P r XX) (x := P 3001 0) (by omega)
    have hB := hf.kb hg (by omega) (by omega) hB0 hxx
    obtain ⟨e1, -⟩ := RP0_m hB.1 m0 m1
    obtain ⟨-, pst, -, q4, q5, -⟩ := hg.1.2.2.2 m m0 m1
    rw [b218_59, e1.2.2.2.2.1, if_neg (by omega), hB.2.2.1 m m0 (by omega)]
    refine ⟨by omega, by omega, ?_⟩
    rcases hxx.1.1 m with g | g
    · have gn : ¬ r.1 m = 1 := by omega
      rw [if_pos g, e1.2.2.1]
      have er : P 3015 m + 1 - P 3013 m = P 3015 m + rcv P m := by unfold rcv; split <;> omega
      have rb : 0 ≤ rcv P m ∧ rcv P m ≤ 1 := by unfold rcv; split <;> omega
      rw [wr_id (z := P 3015 m + 1) (by omega) (by omega), wr_id (by omega) (by omega), er, s160 (by omega) (by omega) (by omega) (by omega) (by omega) (by omega)]
      refine ⟨by omega, by omega, by omega, by omega, ?_⟩
      simp only [Option.toList_some, List.cons_append, List.nil_append]
      rw [b218_155, show 9600 * 1 + 120 * nM P r XX m + 0 = 9600 + 120 * nM P r XX m by omega]
      dsimp only
      have e3 : j3_ast (j3_ast σ.2.2 10025 121 (80 + nM P r XX m) (P 3015 m + rcv P m)) 10026 121 (80 + nM P r XX m) 1 10052 121 3 = σ0.2.2 10052 121 3 := by
        simp only [j3_ast]
        rw [up_e rfl, up_e rfl, hf2.2.2 10052 _ rfl]
      refine ⟨by omega, by omega, by omega, by omega, by omega, by omega, ?_⟩
      rw [e3, wr_id (by omega) (by omega)]
      generalize hA : j3_ast (j3_ast (j3_ast (j3_ast (j3_ast (j3_ast (j3_ast σ.2.2 10025 121 (80 + nM P r XX m) (P 3015 m + rcv P m)) 10026 121 (80 + nM P r XX m) 1) 10027 121 (9600 + 120 * nM P r XX m) 26) 10028 121 (9600 + 120 * nM P r XX m) 0) 10029 121 (9600 + 120 * nM P r XX m) 0) 10030 121 (9600 + 120 * nM P r XX m) 0) 10052 121 3 (σ0.2.2 10052 121 3 + 1) = A'
      have aF : frm [] [10025, 10026, 10027, 10028, 10029, 10030, 10052] σ (σ.1, σ.2.1, A') := by
        rw [← hA]
        exact frm.A rfl (frm.A rfl (frm.A rfl (frm.A rfl (frm.A rfl (frm.A rfl (frm.A rfl frm.rf))))))
      have a25 : A' 10025 121 = i_up (σ.2.2 10025 121) (80 + nM P r XX m) (P 3015 m + rcv P m) := by
        rw [← hA]; simp only [j3_ast]; rw [up_e rfl, up_e rfl, up_e rfl, up_e rfl, up_e rfl, up_e rfl, up_r]
      have a26 : A' 10026 121 = i_up (σ.2.2 10026 121) (80 + nM P r XX m) 1 := by
        rw [← hA]; simp only [j3_ast]; rw [up_e rfl, up_e rfl, up_e rfl, up_e rfl, up_e rfl, up_r, up_e rfl]
      have a27 : A' 10027 121 = i_up (σ.2.2 10027 121) (9600 + 120 * nM P r XX m) 26 := by
        rw [← hA]; simp only [j3_ast]; rw [up_e rfl, up_e rfl, up_e rfl, up_e rfl, up_r, up_e rfl, up_e rfl]
      have a28 : A' 10028 121 = i_up (σ.2.2 10028 121) (9600 + 120 * nM P r XX m) 0 := by
        rw [← hA]; simp only [j3_ast]; rw [up_e rfl, up_e rfl, up_e rfl, up_r, up_e rfl, up_e rfl, up_e rfl]
      have a29 : A' 10029 121 = i_up (σ.2.2 10029 121) (9600 + 120 * nM P r XX m) 0 := by
        rw [← hA]; simp only [j3_ast]; rw [up_e rfl, up_e rfl, up_r, up_e rfl, up_e rfl, up_e rfl, up_e rfl]
      have a30 : A' 10030 121 = i_up (σ.2.2 10030 121) (9600 + 120 * nM P r XX m) 0 := by
        rw [← hA]; simp only [j3_ast]; rw [up_e rfl, up_r, up_e rfl, up_e rfl, up_e rfl, up_e rfl, up_e rfl]
      have a52 : A' 10052 121 = i_up (σ.2.2 10052 121) 3 (σ0.2.2 10052 121 3 + 1) := by
        rw [← hA]; simp only [j3_ast]; rw [up_r, up_e rfl, up_e rfl, up_e rfl, up_e rfl, up_e rfl, up_e rfl]
      clear hA
      have f1 : nuF 10 (nM P r XX m) σ (σ.1, σ.2.1, A') := by
        refine ⟨aF.wd (fun _ h => h) (sub_el rfl), fun e z e0 e1 hz => ?_⟩
        show A' e 121 z = _
        by_cases ge : [10025, 10026, 10027, 10028, 10029, 10030, 10052].elem e = true
        · simp at ge
          rcases ge with rfl | rfl | rfl | rfl | rfl | rfl | rfl
          · have : z < 80 + nM P r XX m ∨ 2 * 80 ≤ z := hz
            rw [a25, iu_n (by omega)]
          · have : z < 80 + nM P r XX m ∨ 2 * 80 ≤ z := hz
            rw [a26, iu_n (by omega)]
          · have : z < 9600 + 120 * nM P r XX m ∨ 2 * 9600 ≤ z := hz
            rw [a27, iu_n (by omega)]
          · have : z < 9600 + 120 * nM P r XX m ∨ 2 * 9600 ≤ z := hz
            rw [a28, iu_n (by omega)]
          · have : z < 9600 + 120 * nM P r XX m ∨ 2 * 9600 ≤ z := hz
            rw [a29, iu_n (by omega)]
          · have : z < 9600 + 120 * nM P r XX m ∨ 2 * 9600 ≤ z := hz
            rw [a30, iu_n (by omega)]
          · omega
        · have := aF.2.2 e 121 (by simpa using ge)
          show A' e 121 z = _
          rw [show A' e 121 = σ.2.2 e 121 from this]
      have el : lnK r XX m = 1 := by unfold lnK; rw [if_neg gn]
      refine hQ (σ.1, σ.2.1, A') (hf.tr f1 (by omega) (by omega)) ((hf2.wd (fun _ h => h) (sub_el rfl)).tr (aF.wd (fun _ h => h) (sub_el rfl))) (fun p' p0' p1' => ?_) ?_ ⟨?_, fun j j0 j1 => ⟨fun q => absurd q gn, fun _ => ?_⟩⟩ ⟨fun i hi => ?_, ?_⟩
      · rw [aF.2.2 10024 121 rfl]; exact hs p' p0' (by omega)
      · show A' 10025 121 _ = _
        rw [a25, iu_r, if_neg gn]
      · show A' 10026 121 _ = _
        rw [a26, iu_r, el]
      · rw [el] at j1
        rw [show 9600 + 120 * nM P r XX m + j = 9600 + 120 * nM P r XX m by omega]
        show A' 10027 121 _ = _ ∧ A' 10028 121 _ = _ ∧ A' 10029 121 _ = _ ∧ A' 10030 121 _ = _
        rw [a27, a28, a29, a30, iu_r, iu_r, iu_r, iu_r]
        exact ⟨rfl, rfl, rfl, rfl⟩
      · show A' 10052 121 i = _
        rw [a52, iu_n hi, hf2.2.2 10052 _ rfl]
      · show A' 10052 121 3 = _
        rw [a52, iu_r, if_neg gn]
    · obtain ⟨g1, g2, -⟩ := hB.2.1 m m0 m1 g
      rw [if_neg (by omega), wr_id (z := 160 + m) (by omega) (by omega), g1, g2]
      refine ⟨by omega, by omega, by omega, by omega, ?_⟩
      generalize hσ1 : ((σ.1, σ.2.1, j3_ast (j3_ast σ.2.2 10025 121 (80 + nM P r XX m) (NL m)) 10026 121 (80 + nM P r XX m) (XX m).n) : j3_S) = σ1
      have f1 : nuF 10 (nM P r XX m) σ σ1 := by
        rw [← hσ1]
        have b1 : nuF 10 (nM P r XX m) σ (σ.1, σ.2.1, j3_ast σ.2.2 10025 121 (80 + nM P r XX m) (NL m)) := nuF.ast rfl (Or.inr ⟨by show 80 + nM P r XX m ≤ _; omega, by show _ < 2 * 80; omega⟩)
        have b2 := nuF.ast (σ := (σ.1, σ.2.1, j3_ast σ.2.2 10025 121 (80 + nM P r XX m) (NL m))) (cB := 10) (mB := nM P r XX m) (e := 10026) (z := 80 + nM P r XX m) (v := (XX m).n) rfl (Or.inr ⟨by show 80 + nM P r XX m ≤ _; omega, by show _ < 2 * 80; omega⟩)
        exact b1.tr b2 (by omega) (by omega)
      have aF : frm [] [10025, 10026] σ σ1 := by rw [← hσ1]; exact frm.A rfl (frm.A rfl frm.rf)
      have a25 : σ1.2.2 10025 121 (80 + nM P r XX m) = NL m := by
        rw [← hσ1]; simp only [j3_ast]; rw [up_e rfl, up_r, iu_r]
      have a26 : σ1.2.2 10026 121 (80 + nM P r XX m) = (XX m).n := by
        rw [← hσ1]; simp only [j3_ast]; rw [up_r, iu_r]
      have el : lnK r XX m = (XX m).n := by unfold lnK; rw [if_pos g]
      have ok := (hxx.2 m m0 m1 g).1.1
      refine l218c (σ0 := σ1) hg hxx (f1.kb hg (by omega) (by omega) hB hxx) m0 m1 g (by omega) (by omega) (XX m).n.toNat 0 σ1 (by omega) (by omega) nuF.rf frm.rf a26 (fun j j0 j1 => by omega) (fun σ2 f2 F2 t2 => ?_)
      refine hQ σ2 ((hf.tr f1 (by omega) (by omega)).tr f2 (by omega) (by omega)) (((hf2.wd (fun _ h => h) (sub_el rfl)).tr (aF.wd (fun _ h => h) (sub_el rfl))).tr (F2.wd (fun _ h => h) (sub_el rfl))) (fun p' p0' p1' => ?_) ?_ ⟨?_, fun j j0 j1 => ⟨fun _ => t2 j j0 (by omega), fun q => absurd g q⟩⟩ ⟨fun i hi => ?_, ?_⟩
      · rw [F2.2.2 10024 121 rfl, aF.2.2 10024 121 rfl]; exact hs p' p0' (by omega)
      · rw [F2.2.2 10025 121 rfl, a25, if_pos g]
      · rw [F2.2.2 10026 121 rfl, a26, el]
      · rw [F2.2.2 10052 121 rfl, aF.2.2 10052 121 rfl, hf2.2.2 10052 121 rfl]
      · rw [F2.2.2 10052 121 rfl, aF.2.2 10052 121 rfl, hf2.2.2 10052 121 rfl, if_pos g]; omega
  | n + 1, p, σ, hp, p0, hf, hf2, hs, hQ => by
    have h80 := hg.1.2.1.2.1
    have nn := nw_b (n := P 3001 0) m0 m1 hm
    have en : nM P r XX m = nwN (kM P r XX) m := rfl
    have nl := nB_le (q := kM P r XX) (x := P 3001 0) (by omega)
    have hB := hf.kb hg (by omega) (by omega) hB0 hxx
    obtain ⟨e1, e2⟩ := RP0_m hB.1 m0 m1
    obtain ⟨-, pst, -, q4, q5, -⟩ := hg.1.2.2.2 m m0 m1
    have tp := q4.2.2 p p0 (by omega)
    rw [b218_59, e1.2.2.2.2.1, if_pos (by omega)]
    simp (disch := omega) only [wr_id]
    rw [e2 p p0 (by omega), s216 hg (fun c c0 c1 => by rw [hf2.2.2 10069 _ rfl]; exact h69 c c0 c1) tp.1 tp.2 ((kC_cl.2.2.2.1 m m0 m1 hm).2.2 p p0 (by omega))]
    refine ⟨by omega, by omega, ?_⟩
    simp only [Option.toList_some, List.cons_append, List.nil_append]
    rw [b218_82, wr_id (by omega) (by omega), show 3 * (80 + nM P r XX m) + p = 240 + (nM P r XX m * 3 + p) by omega]
    have f1 : nuF 10 (nM P r XX m) σ (σ.1, σ.2.1, j3_ast σ.2.2 10024 121 (240 + (nM P r XX m * 3 + p)) (tN P r XX (P 3016 (m * 3 + p)))) := nuF.ast rfl (Or.inr ⟨by show 240 + 3 * nM P r XX m ≤ _; omega, by show _ < 2 * 240; omega⟩)
    refine ⟨by omega, l218p hg hxx hB0 h69 m0 m1 hm hc3 n (p + 1) _ (by omega) (by omega) (hf.tr f1 (by omega) (by omega)) (hf2.tr (frm.A rfl frm.rf)) (fun p' p0' p1' => ?_) hQ⟩
    show j3_up σ.2.2 10024 121 (i_up (σ.2.2 10024 121) (240 + (nM P r XX m * 3 + p)) (tN P r XX (P 3016 (m * 3 + p)))) 10024 121 (240 + (nM P r XX m * 3 + p')) = _
    rw [up_r]
    by_cases e : p' = p
    · rw [e, iu_r]
    · rw [iu_n (by omega)]; exact hs p' p0' (by omega)
theorem s218 (hg : good P) (hxx : xxR P r XX NL) (hB : kbR σ P r XX NL) (h69 : ∀ c, 0 ≤ c → c < P 3000 0 → σ.2.2 10069 121 c = nC P r XX c) (m0 : 0 ≤ m) (m1 : m < P 3001 0) (hm : kM P r XX m) (hc3 : 0 ≤ σ.2.2 10052 121 3 ∧ σ.2.2 10052 121 3 ≤ 2000000000) (hQ : ∀ σ', nuF 10 (nM P r XX m) σ σ' → frm [] mtA σ σ' → spM P r XX NL (PgR σ') m → spK0 P r XX σ' m → shR σ σ' (if r.1 m = 1 then 0 else 1) → Q none σ') : j3_tc true (d + 2) 218 [wO 10 121, wI m, wI (nM P r XX m)] σ Q := by
  have h80 := hg.1.2.1.2.1
  have hc10 := hg.1.1.2.1
  have nn := nw_b (n := P 3001 0) m0 m1 hm
  have en : nM P r XX m = nwN (kM P r XX) m := rfl
  have nl := nB_le (q := kM P r XX) (x := P 3001 0) (by omega)
  obtain ⟨ow, pst, q3, q4, q5, -⟩ := hg.1.2.2.2 m m0 m1
  obtain ⟨e1, -⟩ := RP0_m hB.1 m0 m1
  have kf := kC_cl.2.2.2.1 m m0 m1 hm
  rw [e218, b218_0, e1.1, wr_id (z := 80 + nM P r XX m) (by omega) (by omega), h69 _ ow.1 ow.2.1, e1.2.2.1, e1.2.2.2.1]
  refine ⟨by omega, by omega, by omega, by omega, by omega, by omega, ?_⟩
  have key : ∀ v, v = tN P r XX (P 3014 m - 1) + 1 → T218 (d + 1) Q 48 [wO 10 121, wI m, wI (nM P r XX m), wI (80 + nM P r XX m), wM 2] [wI v, wI (80 + nM P r XX m), wA 10022 121] (σ.1, σ.2.1, j3_ast (j3_ast σ.2.2 10019 121 (80 + nM P r XX m) (nC P r XX (P 3011 m))) 10021 121 (80 + nM P r XX m) (P 3013 m)) := by
    intro v hv
    generalize hσ1 : ((σ.1, σ.2.1, j3_ast (j3_ast σ.2.2 10019 121 (80 + nM P r XX m) (nC P r XX (P 3011 m))) 10021 121 (80 + nM P r XX m) (P 3013 m)) : j3_S) = σ1
    have f1 : nuF 10 (nM P r XX m) σ σ1 := by
      rw [← hσ1]
      have b1 : nuF 10 (nM P r XX m) σ (σ.1, σ.2.1, j3_ast σ.2.2 10019 121 (80 + nM P r XX m) (nC P r XX (P 3011 m))) := nuF.ast rfl (Or.inr ⟨by show 80 + nM P r XX m ≤ _; omega, by show _ < 2 * 80; omega⟩)
      have b2 := nuF.ast (σ := (σ.1, σ.2.1, j3_ast σ.2.2 10019 121 (80 + nM P r XX m) (nC P r XX (P 3011 m)))) (cB := 10) (mB := nM P r XX m) (e := 10021) (z := 80 + nM P r XX m) (v := P 3013 m) rfl (Or.inr ⟨by show 80 + nM P r XX m ≤ _; omega, by show _ < 2 * 80; omega⟩)
      exact b1.tr b2 (by omega) (by omega)
    have F1 : frm [] [10019, 10021] σ σ1 := by rw [← hσ1]; exact frm.A rfl (frm.A rfl frm.rf)
    have a19 : σ1.2.2 10019 121 (80 + nM P r XX m) = nC P r XX (P 3011 m) := by
      rw [← hσ1]; simp only [j3_ast]; rw [up_e rfl, up_r, iu_r]
    have a21 : σ1.2.2 10021 121 (80 + nM P r XX m) = P 3013 m := by
      rw [← hσ1]; simp only [j3_ast]; rw [up_r, iu_r]
    have hB1 := f1.kb hg (by omega) (by omega) hB hxx
    obtain ⟨g1, -⟩ := RP0_m hB1.1 m0 m1
    rw [b218_48]
    rw [g1.2.2.2.2.1]
    refine ⟨by omega, by omega, by omega, ?_⟩
    generalize hσ2 : ((σ1.1, σ1.2.1, j3_ast (j3_ast σ1.2.2 10022 121 (80 + nM P r XX m) v) 10023 121 (80 + nM P r XX m) (P 3015 m)) : j3_S) = σ2
    have f2 : nuF 10 (nM P r XX m) σ1 σ2 := by
      rw [← hσ2]
      have b1 : nuF 10 (nM P r XX m) σ1 (σ1.1, σ1.2.1, j3_ast σ1.2.2 10022 121 (80 + nM P r XX m) v) := nuF.ast rfl (Or.inr ⟨by show 80 + nM P r XX m ≤ _; omega, by show _ < 2 * 80; omega⟩)
      have b2 := nuF.ast (σ := (σ1.1, σ1.2.1, j3_ast σ1.2.2 10022 121 (80 + nM P r XX m) v)) (cB := 10) (mB := nM P r XX m) (e := 10023) (z := 80 + nM P r XX m) (v := P 3015 m) rfl (Or.inr ⟨by show 80 + nM P r XX m ≤ _; omega, by show _ < 2 * 80; omega⟩)
      exact b1.tr b2 (by omega) (by omega)
    have F2 : frm [] [10022, 10023] σ1 σ2 := by rw [← hσ2]; exact frm.A rfl (frm.A rfl frm.rf)
    have a22 : σ2.2.2 10022 121 (80 + nM P r XX m) = v := by
      rw [← hσ2]; simp only [j3_ast]; rw [up_e rfl, up_r, iu_r]
    have a23 : σ2.2.2 10023 121 (80 + nM P r XX m) = P 3015 m := by
      rw [← hσ2]; simp only [j3_ast]; rw [up_r, iu_r]
    have e52 : σ2.2.2 10052 121 = σ.2.2 10052 121 := by rw [F2.2.2 10052 _ rfl, F1.2.2 10052 _ rfl]
    refine l218p (σ0 := σ2) hg hxx (f2.kb hg (by omega) (by omega) hB1 hxx) (fun c c0 c1 => by rw [F2.2.2 10069 _ rfl, F1.2.2 10069 _ rfl]; exact h69 c c0 c1) m0 m1 hm (by rw [e52]; exact hc3) (P 3015 m).toNat 0 σ2 (by omega) (by omega) nuF.rf frm.rf (fun p' p0 p1 => by omega) (fun σ3 f3 F3 t1 t2 t3 t4 => ?_)
    refine hQ σ3 ((f1.tr f2 (by omega) (by omega)).tr f3 (by omega) (by omega)) (((F1.wd (fun _ h => h) (sub_el rfl)).tr (F2.wd (fun _ h => h) (sub_el rfl))).tr (F3.wd (fun _ h => h) (sub_el rfl))) ⟨⟨?_, ?_, ?_, ?_⟩, fun p p0 p1 => t1 p p0 p1, t2⟩ t3 ⟨fun i hi => by rw [t4.1 i hi, e52], by rw [t4.2, e52]⟩
    · show σ3.2.2 10019 121 (80 + nM P r XX m) = _
      rw [F3.2.2 10019 _ rfl, F2.2.2 10019 _ rfl, a19]
    · show σ3.2.2 10021 121 (80 + nM P r XX m) = _
      rw [F3.2.2 10021 _ rfl, F2.2.2 10021 _ rfl, a21]
    · show σ3.2.2 10022 121 (80 + nM P r XX m) = _
      rw [F3.2.2 10022 _ rfl, a22, hv]
    · show σ3.2.2 10023 121 (80 + nM P r XX m) = _
      rw [F3.2.2 10023 _ rfl, a23]
  by_cases g : P 3014 m < 2
  · rw [if_pos g]
    exact ⟨by omega, key _ (by unfold tN; rw [if_pos (by omega)]; omega)⟩
  · have kk := kf.2.1 (by omega)
    have nk := nw_b (n := P 3000 0) (x := P 3014 m - 2) (by omega) (by omega) kk
    have ek : nC P r XX (P 3014 m - 2) = nwN (kC P r XX) (P 3014 m - 2) := rfl
    have nlc := nB_le (q := kC P r XX) (x := P 3000 0) (by omega)
    rw [if_neg g, wr_id (z := P 3014 m - 2) (by omega) (by omega), h69 _ (by omega) (by omega), wr_id (by omega) (by omega)]
    exact ⟨by omega, by omega, key _ (by unfold tN; rw [if_neg (by omega), show P 3014 m - 1 - 1 = P 3014 m - 2 by omega]; omega)⟩
end RMETH
