/-! the reference's look -/
section RLK
variable {d : Nat} {Q : j3_P} {P : Pg} {s m i yb n nl op a b : Int} {σ : j3_S} {F : Fl}
theorem s160 {x y z : Int} (x0 : 0 ≤ x) (x1 : x ≤ 2) (y0 : 0 ≤ y) (y1 : y < 80) (z0 : 0 ≤ z) (z1 : z ≤ 120) : j3_tc true (d + 1) 160 [wI x, wI y, wI z] σ Q = Q (some (wI (9600 * x + 120 * y + z))) σ := by
  rw [e160, b160_0]
  simp (disch := omega) only [wr_id]
theorem s164 {x : Int} : j3_tc true (d + 1) 164 [wI x] σ Q = Q (some (wI (b2i (isj x)))) σ := by
  rw [e164, b164_0]
  by_cases h1 : x < 11
  · simp [h1, isj, b2i, show ¬ 11 ≤ x by omega]
  · by_cases h2 : 14 < x
    · simp [h1, h2, isj, b2i, show ¬ x ≤ 14 by omega]
    · simp [h1, h2, isj, b2i, show 11 ≤ x by omega, show x ≤ 14 by omega]
theorem FR_c {G : Fl} (hF : Feq nl F G) (h : FR σ yb nl F) : FR σ yb nl G := by
  intro j j0 j1
  obtain ⟨h1, h2⟩ := h j j0 j1
  rw [← hF.1 j]
  refine ⟨h1, fun hj => ?_⟩
  obtain ⟨c1, c2, c3, c4⟩ := h2 hj
  obtain ⟨b1, b2⟩ := hF.2 j j0 j1 hj
  exact ⟨c1, fun k k0 k1 => (c2 k k0 k1).trans (b1 k k0 k1), fun k k0 k1 => (c3 k k0 k1).trans (b2 k k0 k1), c4⟩
theorem k67 {y x5 x6 x7 x8 : Int} (y0 : 0 ≤ y) (y1 : y < 19200) : ∀ (r : Nat) (k : Int) (σ : j3_S), 0 ≤ k → k + r = 20 → (∀ σ', frm [] [10040] σ σ' → (∀ z, z < k → σ'.2.2 10040 121 z = σ.2.2 10040 121 z) → (∀ z, k ≤ z → z < 20 → σ'.2.2 10040 121 z = σ.2.2 10038 121 (20 * y + z)) → j3_tc true d 175 [wO 10 121, wI s, wI m, wI x5] σ' (fun r σ1 => T179 d Q 89 [wO 10 121, wI s, wI m, wI i, wI y, wI x5, wI x6, wI x7, wI x8, wI 20] (r.toList ++ []) σ1)) → T179 d Q 67 [wO 10 121, wI s, wI m, wI i, wI y, wI x5, wI x6, wI x7, wI x8, wI k] [] σ
  | 0, k, σ, k0, hk, h => by
    have : k = 20 := by omega
    subst this
    rw [b179_67, if_neg (by omega)]
    exact h σ frm.rf (fun _ _ => rfl) (fun z z0 z1 => absurd z1 (by omega))
  | r + 1, k, σ, k0, hk, h => by
    rw [b179_67, if_pos (by omega)]
    simp (disch := omega) only [wr_id]
    refine ⟨by omega, by omega, k67 y0 y1 r (k + 1) _ (by omega) (by omega) (fun σ' hf h1 h2 => h σ' ((frm.A rfl frm.rf : frm [] [10040] σ _).tr hf) (fun z hz => ?_) (fun z z0 z1 => ?_))⟩
    · rw [h1 z (by omega)]
      simp only [j3_ast, up_r]
      exact iu_n (by omega)
    · by_cases g : z = k
      · subst g
        rw [h1 z (by omega)]
        simp only [j3_ast, up_r, iu_r]
      · rw [h2 z (by omega) z1]
        simp only [j3_ast, up_e (show ((10038 : Nat) == 10040) = false from rfl)]
theorem k47 {y x5 x6 x7 x8 : Int} (y0 : 0 ≤ y) (y1 : y < 19200) (n1 : n ≤ 10) : ∀ (r : Nat) (k : Int) (σ : j3_S), σ.1 10041 121 = n → 0 ≤ k → k + r = n → (∀ σ', frm [] [10039] σ σ' → (∀ z, z < k → σ'.2.2 10039 121 z = σ.2.2 10039 121 z) → (∀ z, k ≤ z → z < n → σ'.2.2 10039 121 z = σ.2.2 10037 121 (10 * y + z)) → T179 d Q 67 [wO 10 121, wI s, wI m, wI i, wI y, wI x5, wI x6, wI x7, wI x8, wI 0] [] σ') → T179 d Q 47 [wO 10 121, wI s, wI m, wI i, wI y, wI x5, wI x6, wI x7, wI x8, wI k] [] σ
  | 0, k, σ, hn, k0, hk, h => by
    have : k = n := by omega
    subst this
    rw [b179_47, hn, if_neg (by omega)]
    exact h σ frm.rf (fun _ _ => rfl) (fun z z0 z1 => absurd z1 (by omega))
  | r + 1, k, σ, hn, k0, hk, h => by
    rw [b179_47, hn, if_pos (by omega)]
    simp (disch := omega) only [wr_id]
    refine ⟨by omega, by omega, k47 y0 y1 n1 r (k + 1) _ hn (by omega) (by omega) (fun σ' hf h1 h2 => h σ' ((frm.A rfl frm.rf : frm [] [10039] σ _).tr hf) (fun z hz => ?_) (fun z z0 z1 => ?_))⟩
    · rw [h1 z (by omega)]
      simp only [j3_ast, up_r]
      exact iu_n (by omega)
    · by_cases g : z = k
      · subst g
        rw [h1 z (by omega)]
        simp only [j3_ast, up_r, iu_r]
      · rw [h2 z (by omega) z1]
        simp only [j3_ast, up_e (show ((10037 : Nat) == 10039) = false from rfl)]
/-- the fits -/
theorem k106 {w : List Int} {y x5 x6 c pl : Int} (hR : RP σ s P) (hs : WFs P) (s0 : 0 ≤ s) (s2 : s ≤ 2) (hn : σ.1 10041 121 = n) (n1 : n ≤ 10) (ht : σ.1 10047 121 = w.length) (hw : ¬ n < w.length) (hw4 : w.length ≤ 4) (hwr : ∀ k : Nat, k < w.length → σ.2.2 10048 121 ((w.length : Int) - 1 - k) = w.getD k 0 ∧ wno P (w.getD k 0)) (hts : tys P n (σ.2.2 10039 121)) (hb : σ.1 10007 121 = 0) : ∀ (r : Nat) (ok : Bool), r ≤ w.length →
    T179 (d + 2) Q 106 [wO 10 121, wI s, wI m, wI i, wI y, wI x5, wI x6, wI c, wI pl, wI ((w.length : Int) - r)] [] (bif ok then σ else wrS σ 4 c pl i) = T179 (d + 2) Q 106 [wO 10 121, wI s, wI m, wI i, wI y, wI x5, wI x6, wI c, wI pl, wI w.length] [] (bif ok && af P (σ.2.2 10039 121) w (n - w.length) r then σ else wrS σ 4 c pl i)
  | 0, ok, _ => by
    have e : (w.length : Int) - ((0 : Nat) : Int) = w.length := by omega
    simp only [af, Bool.and_true, e]
  | r + 1, ok, hr => by
    have hf : ∀ ok : Bool, frm [10007] [10008] σ (bif ok then σ else wrS σ 4 c pl i) := by
      intro ok
      cases ok
      · exact wrS_f
      · exact frm.rf
    have g1 := ((hf ok).2.1 10041 121 rfl).trans hn
    have g2 := ((hf ok).2.1 10047 121 rfl).trans ht
    obtain ⟨w1, w2⟩ := hwr r (by omega)
    rw [b179_106, g1, g2, if_pos (by omega), (hf ok).2.2 10039 121 rfl, (hf ok).2.2 10048 121 rfl]
    simp (disch := omega) only [wr_id]
    rw [show n - 1 - ((w.length : Int) - ((r + 1 : Nat) : Int)) = n - w.length + r by omega, show (w.length : Int) - ((r + 1 : Nat) : Int) = (w.length : Int) - 1 - r by omega, w1, s172 (hR.fr (hf ok) (lr_ok rfl)) hs s0 s2 (hts _ (by omega) (by omega)) w2]
    simp only [Option.toList_some, List.cons_append, List.nil_append]
    have hc : (0 ≤ n - (w.length : Int) + r ∧ n - (w.length : Int) + r < 20) = True := by simp; omega
    have hc2 : (0 ≤ (w.length : Int) - 1 - r ∧ (w.length : Int) - 1 - r < 5) = True := by simp; omega
    simp only [hc, hc2, true_and]
    have ih := k106 (w := w) (y := y) (x5 := x5) (x6 := x6) (c := c) (pl := pl) hR hs s0 s2 hn n1 ht hw hw4 hwr hts hb r
    rw [b179_126]
    have es : af P (σ.2.2 10039 121) w (n - w.length) (r + 1) = (ftt P (σ.2.2 10039 121 (n - w.length + r)) (w.getD r 0) && af P (σ.2.2 10039 121) w (n - w.length) r) := rfl
    rw [es]
    cases hft : ftt P (σ.2.2 10039 121 (n - w.length + r)) (w.getD r 0)
    · have e2 : wrS (bif ok then σ else wrS σ 4 c pl i) 4 c pl i = bif false then σ else wrS σ 4 c pl i := by
        cases ok
        · exact wrS_n (by rw [show (bif false then σ else wrS σ 4 c pl i) = wrS σ 4 c pl i from rfl, wrS_1 hb]; decide)
        · rfl
      simp only [b2i, cond_false, if_true]
      rw [s158]
      simp only [Option.toList_none, List.nil_append]
      rw [b179_133, wr_id (by omega) (by omega), show (w.length : Int) - 1 - r + 1 = (w.length : Int) - r by omega, e2, ih false (by omega)]
      simp
    · simp only [b2i, cond_true, show ¬ (1 : Int) = 0 by decide, if_false]
      rw [b179_133, wr_id (by omega) (by omega), show (w.length : Int) - 1 - r + 1 = (w.length : Int) - r by omega, ih ok (by omega)]
      simp
theorem gi_f {G : List Int} {L : Int → Int} : frm [10041] [10039, 10040] σ (giS σ G L) := frm.I rfl (frm.A rfl (frm.A rfl frm.rf))
end RLK
section RLK2
variable {d : Nat} {Q : j3_P} {P : Pg} {s m i yb n nl op a b : Int} {σ : j3_S} {F : Fl}
/-- what follows an instruction -/
theorem k180 {y x5 x9 : Int} {l : Int → Int} {st : Int → Int} (hR : RP σ s P) (hW : WFp P) (s0 : 0 ≤ s) (s2 : s ≤ 2) (m0 : 0 ≤ m) (m1 : m < P 3001 0) (hnl : P 3017 m = nl) (hyb : yb = (if s = 0 then 0 else 9600) + 120 * m) (i0 : 0 ≤ i) (i1 : i < P 0 m) (hx : 0 ≤ x5 ∧ x5 < 28800) (hop : σ.2.2 10027 121 x5 = op) (ha : σ.2.2 10028 121 x5 = a) (hj : isj op = true → 0 ≤ a ∧ a < P 0 m) (hb : σ.1 10007 121 = 0) (hn : σ.1 10041 121 = n) (n0 : 0 ≤ n) (n1 : n ≤ 10) (hc : σ.1 10042 121 = 0 ∨ σ.1 10042 121 = 1) (hF : FR σ yb nl F) (hok : Fok P nl F) (hst : σ.2.2 10039 121 = st) (hl : σ.2.2 10040 121 = l) (hts : tys P n st) (htl : tys P nl l) (htz : ∀ x, nl ≤ x → x < 20 → l x = 0)
    (hQ : ∀ σ', frm [10007, 10042] [10008, 10035, 10036, 10037, 10038] σ σ' → oth yb σ σ' → σ'.1 10007 121 = (ar2 P m nl i op a F n st l).1 → (¬ (ar2 P m nl i op a F n st l).1 = 0 → bdA P m i σ') → ((ar2 P m nl i op a F n st l).1 = 0 → FR σ' yb nl (ar2 P m nl i op a F n st l).2.1 ∧ σ'.1 10042 121 = if (ar2 P m nl i op a F n st l).2.2 = true then 1 else σ.1 10042 121) → Q none σ') :
    T179 (d + 3) Q 180 [wO 10 121, wI s, wI m, wI i, wI y, wI x5, wI (80 * s + m), wI (P 3011 m), wI (m - P 3007 (P 3011 m)), wI x9] [] σ := by
  obtain ⟨hs, hmm, hFF, hM⟩ := id hW
  obtain ⟨q1, q2, q3, q4, q5, q6, q7⟩ := hM m m0 m1
  have hm2 := hmm.2.1
  -- behind the first arrival
  have fin : ∀ σ', frm [10007, 10042] [10008, 10035, 10036, 10037, 10038] σ σ' → oth yb σ σ' → σ'.1 10007 121 = (ar1 P m nl i op F n st l).1 → (¬ (ar1 P m nl i op F n st l).1 = 0 → bdA P m i σ') → ((ar1 P m nl i op F n st l).1 = 0 → FR σ' yb nl (ar1 P m nl i op F n st l).2.1 ∧ σ'.1 10042 121 = if (ar1 P m nl i op F n st l).2.2 = true then 1 else σ.1 10042 121) → T179 (d + 3) Q 221 [wO 10 121, wI s, wI m, wI i, wI y, wI x5, wI (80 * s + m), wI (P 3011 m), wI (m - P 3007 (P 3011 m)), wI op] [] σ' := by
    intro σ' hf ho h1 h2 h3
    rw [b179_221, h1]
    by_cases g : (ar1 P m nl i op F n st l).1 = 0
    · rw [if_pos g, s164]
      simp only [Option.toList_some, List.cons_append, List.nil_append]
      rw [b179_226]
      by_cases gj : isj op = true
      · rw [if_neg (by rw [gj]; decide), hf.2.2 10028 121 rfl, ha]
        refine ⟨hx, ?_⟩
        obtain ⟨h4, h5⟩ := h3 g
        have e2 : ar2 P m nl i op a F n st l = (arf (ar1 P m nl i op F n st l).2.1 a n st, arF P nl (ar1 P m nl i op F n st l).2.1 a n st l, (ar1 P m nl i op F n st l).2.2 || arc P nl (ar1 P m nl i op F n st l).2.1 a n st l) := by
          unfold ar2
          rw [if_pos ⟨g, gj⟩]
        rw [e2] at hQ
        have hst' : σ'.2.2 10039 121 = st := (hf.2.2 10039 121 rfl).trans hst
        have hl' : σ'.2.2 10040 121 = l := (hf.2.2 10040 121 rfl).trans hl
        refine s178 (d := d) (F := (ar1 P m nl i op F n st l).2.1) (n := n) (nl := nl) (yb := yb) (hR.fr hf (lr_ok rfl)) hW s0 s2 m0 m1 hnl hyb (hj gj).1 (by have := (hj gj).2; omega) (h1.trans g) ((hf.2.1 10041 121 rfl).trans hn) n0 n1 (by rw [h5]; split; exact Or.inr rfl; exact hc) h4 (ar1_ok hs hok n1 hts htl g) (by rw [hst']; exact hts) (by rw [hl']; exact htl) (by rw [hl']; exact htz) (fun σ2 hf2 ho2 k1 k2 k3 => ?_)
        rw [hst', hl'] at k3
        rw [hst'] at k1 k2
        simp only [Option.toList_none, List.nil_append]
        rw [b179_236]
        refine hQ σ2 (hf.tr hf2) (ho.tr ho2) k1 k2 (fun h => ⟨(k3 h).1, ?_⟩)
        rw [(k3 h).2, h5]
        simp only []
        cases (ar1 P m nl i op F n st l).2.2 <;> cases arc P nl (ar1 P m nl i op F n st l).2.1 a n st l <;> simp
      · have e2 : ar2 P m nl i op a F n st l = ar1 P m nl i op F n st l := by
          unfold ar2
          rw [if_neg (fun q => gj q.2)]
        rw [e2] at hQ
        rw [if_pos (by simp at gj; rw [gj]; rfl), b179_236]
        exact hQ σ' hf ho h1 h2 h3
    · have e2 : ar2 P m nl i op a F n st l = ar1 P m nl i op F n st l := by
        unfold ar2
        rw [if_neg (fun q => g q.1)]
      rw [e2] at hQ
      rw [if_neg g, b179_236]
      exact hQ σ' hf ho h1 h2 h3
  rw [b179_180, if_pos hb, hop]
  refine ⟨hx, ?_⟩
  by_cases go : gon op = true
  · have o1 : ¬ op = 11 := fun h => by rw [h] at go; simp [gon] at go
    have o2 : ¬ op = 22 := fun h => by rw [h] at go; simp [gon] at go
    have o3 : ¬ op = 26 := fun h => by rw [h] at go; simp [gon] at go
    rw [if_neg o1, if_neg o2, if_neg o3, (hR.2.2.2 m m0 m1).1.2.2.2.2.2.2, wr_id (by omega) (by omega)]
    refine ⟨by omega, ?_⟩
    by_cases ge : i + 1 = P 0 m
    · have e1 : ar1 P m nl i op F n st l = (7, F, false) := by
        unfold ar1
        rw [if_pos go, if_neg (by omega)]
      rw [e1] at fin
      rw [if_pos ge, s158]
      simp only [Option.toList_none, List.nil_append]
      rw [b179_212]
      exact fin _ (wrS_f.wd (sub_el rfl) (sub_el rfl)) (oth.fr wrS_f rfl rfl rfl rfl) (wrS_1 hb) (fun _ => wrS_b hb) (fun h => absurd h (show ¬ (7 : Int) = 0 by decide))
    · have e1 : ar1 P m nl i op F n st l = (arf F (i + 1) n st, arF P nl F (i + 1) n st l, arc P nl F (i + 1) n st l) := by
        unfold ar1
        rw [if_pos go, if_pos (by omega)]
      rw [e1] at fin
      rw [if_neg ge]
      refine s178 (d := d) (F := F) (n := n) (nl := nl) (yb := yb) hR hW s0 s2 m0 m1 hnl hyb (by omega) (by omega) hb hn n0 n1 hc hF hok (by rw [hst]; exact hts) (by rw [hl]; exact htl) (by rw [hl]; exact htz) (fun σ2 hf2 ho2 k1 k2 k3 => ?_)
      rw [hst, hl] at k3
      rw [hst] at k1 k2
      simp only [Option.toList_none, List.nil_append]
      exact fin σ2 hf2 ho2 k1 k2 k3
  · have e1 : ar1 P m nl i op F n st l = (0, F, false) := by
      unfold ar1
      rw [if_neg go]
    rw [e1] at fin
    have fin' := fin σ frm.rf oth.rf hb (fun h => absurd rfl h) (fun _ => ⟨hF, by simp⟩)
    by_cases o1 : op = 11
    · rw [if_pos o1]
      exact fin'
    · rw [if_neg o1]
      by_cases o2 : op = 22
      · rw [if_pos o2]
        exact fin'
      · rw [if_neg o2]
        by_cases o3 : op = 26
        · rw [if_pos o3]
          exact fin'
        · exact absurd (by simp [gon, o1, o2, o3]) go
end RLK2
