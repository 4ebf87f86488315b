/-! the reference: copied, bound, put in, folded, method by method -/
section RLOOP2
variable {σ σ' σ'' σ0 : j3_S} {P : Pg} {T : Int → Fl} {R : Rs} {X : Sx} {m m' i bud l : Int} {d : Nat} {Q : j3_P} {c : Int → Int}
theorem l226a (h : grR P T R) (hB0 : gbR σ0 P T R) : ∀ (n k : Nat) (σ : j3_S), (k : Int) + n = P 3001 0 → s2F rlI rlA σ0 σ → (∀ m, 0 ≤ m → m < (k : Int) → R.1 m = 1 → bdR σ P T R.2.1 m) → ctR σ (addc (fun _ => 0) (sB P T R k) 0) → (∀ σ', s2F rlI rlA σ0 σ' → (∀ m, 0 ≤ m → m < P 3001 0 → R.1 m = 1 → bdR σ' P T R.2.1 m) → ctR σ' (addc (fun _ => 0) (sB P T R (P 3001 0).toNat) 0) → T226 (d + 6) Q 65 [wO 10 121, wI bud, wI 0] [] σ') → T226 (d + 6) Q 41 [wO 10 121, wI bud, wI k] [] σ
  | 0, k, σ, hk, hf, hb, hc, hQ => by
    have hg := h.1.1
    have hB : gbR σ P T R := hB0.fr hg.1 hf rfl ⟨rfl, rfl, rfl, rfl⟩
    rw [b226_41, hB.1.2.1, if_neg (by omega)]
    rw [show (k : Int) = P 3001 0 by omega] at hb
    rw [show k = (P 3001 0).toNat by omega] at hc
    exact ⟨by omega, hQ σ hf hb hc⟩
  | n + 1, k, σ, hk, hf, hb, hc, hQ => by
    have hg := h.1.1
    have h80 := hg.1.2.1.2.1
    have hB : gbR σ P T R := hB0.fr hg.1 hf rfl ⟨rfl, rfl, rfl, rfl⟩
    obtain ⟨-, -, -, -, -, q6, q7⟩ := hg.1.2.2.2 k (by omega) (by omega)
    obtain ⟨c1, -, c3⟩ := hB.1.2.2.2 k (by omega) (by omega)
    have e25 := c1.2.2.2.2.2.1
    have e26 := c1.2.2.2.2.2.2
    have sb := sB_b h k (by omega)
    have again := fun σ' hf' => l226a h hB0 n (k + 1) σ' (by push_cast; omega) hf'
    have eB : sB P T R (k + 1) = sB P T R k + (if R.1 k = 1 then nbS P T R.2.1 k (P 0 k).toNat else 0) := rfl
    rw [eB] at again
    rw [b226_41, hB.1.2.1, if_pos (by omega)]
    refine ⟨by omega, ?_⟩
    refine s181 (d := d + 4) (len := P 0 k) (by omega) (by omega) (by omega) (by omega) (by omega) (by omega) (by omega) (by omega) (by omega) e26 (by omega) (by omega) (fun σ1 m1 => ?_)
    simp only [Option.toList_none, List.nil_append]
    have f1 : s2F rlI rlA σ σ1 := m1.s2 (by omega)
    have hB1 : gbR σ1 P T R := hB.fr hg.1 f1 rfl ⟨rfl, rfl, rfl, rfl⟩
    have r25 : σ1.2.2 10025 121 (160 + k) = P 3017 k := by
      rw [m1.2.1 10025 rfl, show (80 : Int) * 2 + k = 160 + k by omega, iu_r]; exact e25
    have r26 : σ1.2.2 10026 121 (160 + k) = P 0 k := by
      rw [m1.2.1 10026 rfl, show (80 : Int) * 2 + k = 160 + k by omega, iu_r]; exact e26
    have bn0 : bnR σ1 P T R.2.1 k 0 := by
      intro j j0 j1
      have key : ∀ e, cinA.elem e = true → σ1.2.2 e 121 (19200 + 120 * k + j) = σ.2.2 e 121 (9600 * 0 + 120 * k + j) := by
        intro e he
        rw [m1.2.2.2 e he]
        unfold i_cp
        rw [if_pos (by omega), show 9600 * 0 + 120 * (k : Int) + (19200 + 120 * k + j - (9600 * 2 + 120 * k)) = 9600 * 0 + 120 * k + j by omega]
      rw [key 10027 rfl, key 10028 rfl, key 10029 rfl, if_neg (by omega), if_neg (by omega), if_neg (by omega)]
      exact c3 j j0 j1
    have keep : ∀ σ2, (∀ m, ¬ m = (k : Int) → sm2 m σ1 σ2) → ∀ m, 0 ≤ m → m < (k : Int) → R.1 m = 1 → bdR σ2 P T R.2.1 m := by
      intro σ2 h2 m m0 mk g
      have w := (hg.1.2.2.2 m m0 (by omega)).2.2.2.2.2.1
      exact ((hb m m0 mk g).keep w.2 (m1.sm2 (by omega) (by omega))).keep w.2 (h2 m (by omega))
    have ct1 : ctR σ1 (addc (fun _ => 0) (sB P T R k) 0) := fun j j0 j1 => by rw [m1.1.2.2 10052 121 rfl]; exact hc j j0 j1
    rw [b226_53, hB1.2.2.1 k (by omega) (by omega)]
    refine ⟨by omega, ?_⟩
    by_cases g : R.1 k = 0
    · rw [if_pos g, b226_61, wr_id (by omega) (by omega), show (k : Int) + 1 = ((k + 1 : Nat) : Int) by push_cast; omega]
      rw [if_neg (by omega), show sB P T R k + 0 = sB P T R k by omega] at again
      refine again σ1 (hf.tr f1) (fun m m0 mk gm => ?_) ct1 hQ
      by_cases e : m = k
      · subst e; rw [g] at gm; exact absurd gm (by decide)
      · exact keep σ1 (fun _ _ => ⟨⟨rfl, rfl⟩, fun _ _ _ _ _ => rfl⟩) m m0 (by push_cast at mk; omega) gm
    · have g1 : R.1 k = 1 := by
        rcases h.2.1.1 k with q | q
        · exact absurd q g
        · exact q
      rw [if_neg g]
      rw [if_pos g1] at again
      refine s196 (d := d + 4) (c := addc (fun _ => 0) (sB P T R k) 0) h hB1 (by omega) (by omega) g1 bn0 ct1 ?_ ?_ (fun σ2 f2 b2 c2 => ?_)
      · rw [addc_v, if_neg (by omega), if_pos rfl]; omega
      · rw [addc_v, if_neg (by omega), if_pos rfl]; omega
      · simp only [Option.toList_none, List.nil_append]
        rw [b226_61, wr_id (by omega) (by omega), show (k : Int) + 1 = ((k + 1 : Nat) : Int) by push_cast; omega]
        have F2 : mF k [] [10052] σ1 σ2 := f2.mF rfl
        rw [addc_a] at c2
        refine again σ2 (hf.tr (f1.tr ((F2.s2 (by omega) rfl).wd rfl rfl))) (fun m m0 mk gm => ?_) c2 hQ
        by_cases e : m = k
        · subst e
          exact ⟨by rw [f2.1.2.2 10025 121 rfl]; exact r25, by rw [f2.1.2.2 10026 121 rfl]; exact r26, b2⟩
        · exact keep σ2 (fun m hm => F2.sm2 hm) m m0 (by push_cast at mk; omega) gm
theorem l226b (h : grR P T R) (hpr : prg P) (hB0 : gbR σ0 P T R) : ∀ (n k : Nat) (σ : j3_S), (k : Int) + n = P 3001 0 → s2F rlI rlA σ0 σ → (∀ m, (k : Int) ≤ m → m < P 3001 0 → R.1 m = 1 → bdR σ P T R.2.1 m) → (∀ m, 0 ≤ m → m < (k : Int) → R.1 m = 1 → gdR σ m (gaX P T R.2.1 bud m) (gaE P T R.2.1 bud m).2.1) → ctR σ (addc (fun _ => 0) (sB P T R (P 3001 0).toNat) (sP P T R bud k)) → (∀ σ', s2F rlI rlA σ0 σ' → (∀ m, 0 ≤ m → m < P 3001 0 → R.1 m = 1 → gdR σ' m (gaX P T R.2.1 bud m) (gaE P T R.2.1 bud m).2.1) → ctR σ' (addc (fun _ => 0) (sB P T R (P 3001 0).toNat) (sP P T R bud (P 3001 0).toNat)) → T226 (d + 6) Q 84 [wO 10 121, wI bud, wI 0] [] σ') → T226 (d + 6) Q 65 [wO 10 121, wI bud, wI k] [] σ
  | 0, k, σ, hk, hf, hb, hgd, hc, hQ => by
    have hg := h.1.1
    have hB : gbR σ P T R := hB0.fr hg.1 hf rfl ⟨rfl, rfl, rfl, rfl⟩
    rw [b226_65, hB.1.2.1, if_neg (by omega)]
    rw [show (k : Int) = P 3001 0 by omega] at hgd
    rw [show sP P T R bud k = sP P T R bud (P 3001 0).toNat by rw [show k = (P 3001 0).toNat by omega]] at hc
    exact ⟨by omega, hQ σ hf hgd hc⟩
  | n + 1, k, σ, hk, hf, hb, hgd, hc, hQ => by
    have hg := h.1.1
    have h80 := hg.1.2.1.2.1
    have hB : gbR σ P T R := hB0.fr hg.1 hf rfl ⟨rfl, rfl, rfl, rfl⟩
    have sp := sP_b (bud := bud) h k (by omega)
    have again := fun σ' hf' => l226b h hpr hB0 n (k + 1) σ' (by push_cast; omega) hf'
    have eP : sP P T R bud (k + 1) = sP P T R bud k + (if R.1 k = 1 then (gaE P T R.2.1 bud k).2.2.2.2 else 0) := rfl
    rw [eP] at again
    rw [b226_65, hB.1.2.1, if_pos (by omega), hB.2.2.1 k (by omega) (by omega)]
    refine ⟨by omega, by omega, ?_⟩
    by_cases g : R.1 k = 0
    · rw [if_pos g, b226_80, wr_id (by omega) (by omega), show (k : Int) + 1 = ((k + 1 : Nat) : Int) by push_cast; omega]
      rw [if_neg (by omega), show sP P T R bud k + 0 = sP P T R bud k by omega] at again
      refine again σ hf (fun m mk m1 gm => hb m (by push_cast at mk; omega) m1 gm) (fun m m0 mk gm => ?_) hc hQ
      by_cases e : m = k
      · subst e; rw [g] at gm; exact absurd gm (by decide)
      · exact hgd m m0 (by push_cast at mk; omega) gm
    · have g1 : R.1 k = 1 := by
        rcases h.2.1.1 k with q | q
        · exact absurd q g
        · exact q
      rw [if_neg g]
      rw [if_pos g1] at again
      obtain ⟨b1, b2, b3⟩ := hb k (by omega) (by omega) g1
      refine s199 (d := d + 2) (c := addc (fun _ => 0) (sB P T R (P 3001 0).toNat) (sP P T R bud k)) h hpr hB (by omega) (by omega) g1 b3 b1 b2 hc ?_ (fun σ2 f2 r2 r25 r26 c2 => ?_)
      · rw [addc_v, if_pos rfl]; omega
      · simp only [Option.toList_none, List.nil_append]
        rw [b226_80, wr_id (by omega) (by omega), show (k : Int) + 1 = ((k + 1 : Nat) : Int) by push_cast; omega]
        rw [addc_a, show sB P T R (P 3001 0).toNat + 0 = sB P T R (P 3001 0).toNat by omega] at c2
        refine again σ2 (hf.tr ((f2.s2 (by omega) rfl).wd rfl rfl)) (fun m mk m1 gm => ?_) (fun m m0 mk gm => ?_) c2 hQ
        · have w := (hg.1.2.2.2 m (by omega) m1).2.2.2.2.2.1
          exact (hb m (by push_cast at mk; omega) m1 gm).keep w.2 (f2.sm2 (by push_cast at mk; omega))
        · by_cases e : m = k
          · subst e
            exact ⟨r25, r26, r2⟩
          · have w := (ga_all (bud := bud) h (m := m) m0 (by omega) gm).1.1
            exact (hgd m m0 (by push_cast at mk; omega) gm).keep w.2 (f2.sm2 e)
theorem l226c (h : grR P T R) (hB0 : gbR σ0 P T R) : ∀ (n k : Nat) (σ : j3_S), (k : Int) + n = P 3001 0 → s2F rlI rlA σ0 σ → (∀ m, (k : Int) ≤ m → m < P 3001 0 → R.1 m = 1 → gdR σ m (gaX P T R.2.1 bud m) (gaE P T R.2.1 bud m).2.1) → (∀ m, 0 ≤ m → m < (k : Int) → R.1 m = 1 → gdR σ m (foX P T R.2.1 bud m) (gaE P T R.2.1 bud m).2.1) → ctR σ (fun i => addc (fun _ => 0) (sB P T R (P 3001 0).toNat) (sP P T R bud (P 3001 0).toNat) i + sFo P T R bud k i) → (∀ σ', s2F rlI rlA σ0 σ' → (∀ m, 0 ≤ m → m < P 3001 0 → R.1 m = 1 → gdR σ' m (foX P T R.2.1 bud m) (gaE P T R.2.1 bud m).2.1) → ctR σ' (ctS P T R bud (P 3001 0).toNat) → j3_tc true (d + 6) 194 [wO 10 121, wI 2] σ' (fun r σ1 => T226 (d + 6) Q 103 [wO 10 121, wI bud, wI (P 3001 0)] (r.toList ++ []) σ1)) → T226 (d + 6) Q 84 [wO 10 121, wI bud, wI k] [] σ
  | 0, k, σ, hk, hf, hb, hgd, hc, hQ => by
    have hg := h.1.1
    have hB : gbR σ P T R := hB0.fr hg.1 hf rfl ⟨rfl, rfl, rfl, rfl⟩
    rw [b226_84, hB.1.2.1, if_neg (by omega)]
    rw [show (k : Int) = P 3001 0 by omega] at hgd ⊢
    refine ⟨by omega, hQ σ hf hgd (fun i i0 i1 => ?_)⟩
    rw [hc i i0 i1, sums i (P 3001 0).toNat, show k = (P 3001 0).toNat by omega]
  | n + 1, k, σ, hk, hf, hb, hgd, hc, hQ => by
    have hg := h.1.1
    have h80 := hg.1.2.1.2.1
    have hB : gbR σ P T R := hB0.fr hg.1 hf rfl ⟨rfl, rfl, rfl, rfl⟩
    have again := fun σ' hf' => l226c h hB0 n (k + 1) σ' (by push_cast; omega) hf'
    have eF : ∀ i, sFo P T R bud (k + 1) i = sFo P T R bud k i + (if R.1 k = 1 then foC P T R.2.1 bud k i else 0) := fun _ => rfl
    rw [b226_84, hB.1.2.1, if_pos (by omega), hB.2.2.1 k (by omega) (by omega)]
    refine ⟨by omega, by omega, ?_⟩
    by_cases g : R.1 k = 0
    · rw [if_pos g, b226_98, wr_id (by omega) (by omega), show (k : Int) + 1 = ((k + 1 : Nat) : Int) by push_cast; omega]
      refine again σ hf (fun m mk m1 gm => hb m (by push_cast at mk; omega) m1 gm) (fun m m0 mk gm => ?_) (fun i i0 i1 => ?_) hQ
      · by_cases e : m = k
        · subst e; rw [g] at gm; exact absurd gm (by decide)
        · exact hgd m m0 (by push_cast at mk; omega) gm
      · rw [hc i i0 i1]
        dsimp only
        rw [eF, if_neg (by omega)]; omega
    · have g1 : R.1 k = 1 := by
        rcases h.2.1.1 k with q | q
        · exact absurd q g
        · exact q
      rw [if_neg g]
      obtain ⟨b1, b2, b3⟩ := hb k (by omega) (by omega) g1
      obtain ⟨g1', g2', -, G, g4'⟩ := ga_all (bud := bud) h (m := k) (by omega) (by omega) g1
      have bb := sB_b h (P 3001 0).toNat (by omega)
      have bp := sP_b (bud := bud) h (P 3001 0).toNat (by omega)
      refine s212 (d := d) (W := WR P R) (m := k) hg.1.1 (fun op a b a' q w => WR_j q w) (fun op a b q0 q1 => WR_0 q0 q1) (iniT h (m := k) (by omega) (by omega) _) g2'.2 g1' g4' (by omega) (by omega) b2 b3 (c := fun i => addc (fun _ => 0) (sB P T R (P 3001 0).toNat) (sP P T R bud (P 3001 0).toNat) i + sFo P T R bud k i) (fun i i0 i1 => ⟨hc i i0 i1, ?_, ?_⟩) (fun σ2 f2 x2 c2 => ?_)
      · have := sFo_b (P := P) (T := T) (R := R) (bud := bud) i k
        rw [addc_v]
        split
        · omega
        · split <;> omega
      · have := sFo_b (P := P) (T := T) (R := R) (bud := bud) i k
        rw [addc_v]
        split
        · omega
        · split <;> omega
      · have efx : (fdS 30000 (gaX P T R.2.1 bud k) (fun i => addc (fun _ => 0) (sB P T R (P 3001 0).toNat) (sP P T R bud (P 3001 0).toNat) i + sFo P T R bud k i)).1 = foX P T R.2.1 bud k := (fd_c _ _ _).1
        rw [efx] at x2 ⊢
        obtain ⟨o1', -⟩ := fo_ok (bud := bud) h (m := k) (by omega) (by omega) g1
        simp only [Option.toList_none, List.nil_append]
        rw [b226_98, wr_id (by omega) (by omega), show (k : Int) + 1 = ((k + 1 : Nat) : Int) by push_cast; omega]
        generalize hσ3 : ((σ2.1, σ2.2.1, j3_ast σ2.2.2 10026 121 (160 + k) (foX P T R.2.1 bud k).n) : j3_S) = σ3
        have F2 : mF k (10062 :: rfI) rfA σ σ2 := f2.mF rfl
        have e26 : σ3.2.2 10026 121 = i_up (σ2.2.2 10026 121) (160 + k) (foX P T R.2.1 bud k).n := by
          rw [← hσ3]
          show j3_up σ2.2.2 10026 121 (i_up (σ2.2.2 10026 121) (160 + k) (foX P T R.2.1 bud k).n) 10026 121 = _
          rw [up_r]
        have eO : ∀ e, ¬ e = 10026 → σ3.2.2 e 121 = σ2.2.2 e 121 := fun e he => by
          rw [← hσ3]
          exact up_ne (fun q => he q.1)
        have F3 : mF k (10062 :: rfI) rfA σ2 σ3 := by
          refine ⟨by rw [← hσ3]; exact frm.A rfl frm.rf, fun e he z hz => ?_, fun z hz => ⟨by rw [eO 10025 (by omega)], by rw [e26, iu_n hz]⟩⟩
          rw [eO e (by rintro rfl; cases he)]
        have F := F2.tr F3
        refine again σ3 (hf.tr ((F.s2 (by omega) rfl).wd rfl rfl)) (fun m mk m1 gm => ?_) (fun m m0 mk gm => ?_) (fun i i0 i1 => ?_) hQ
        · have w := (ga_all (bud := bud) h (m := m) (by omega) m1 gm).1.1
          exact (hb m (by push_cast at mk; omega) m1 gm).keep w.2 (F.sm2 (by push_cast at mk; omega))
        · by_cases e : m = k
          · subst e
            refine ⟨?_, by rw [e26, iu_r], fun i i0 i1 => ?_⟩
            · rw [eO 10025 (by omega), f2.1.2.2 10025 121 rfl]; exact b1
            · have := x2.2 i i0 i1
              unfold rwR oR
              unfold oR at this
              rw [eO 10027 (by omega), eO 10028 (by omega), eO 10029 (by omega), eO 10030 (by omega), eO 10031 (by omega), eO 10032 (by omega)]
              exact this
          · have w := (fo_ok (bud := bud) h (m := m) m0 (by omega) gm).1.1
            exact (hgd m m0 (by push_cast at mk; omega) gm).keep w.2 (F.sm2 e)
        · rw [eO 10052 (by omega), c2 i i0 i1, ((fd_c 30000 _ _).2 i).1]
          dsimp only
          rw [eF, if_pos g1]
          have : foC P T R.2.1 bud k i = (fdS 30000 (gaX P T R.2.1 bud k) (fun _ => 0)).2 i := rfl
          rw [this]
          omega
end RLOOP2
