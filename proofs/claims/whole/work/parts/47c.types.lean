/-! the reference's types -/
def ffl (R : Int → Int × Int × Fl) : Nat → Int → Int × Int × Int
  | 0, m => (0, m, 0)
  | r + 1, m => if (R m).1 = 0 then ffl R r (m + 1) else ((R m).1, m, (R m).2.1)
def tyI : List Nat := [10007, 10041, 10042, 10047]
def tyA : List Nat := [10008, 10035, 10036, 10037, 10038, 10039, 10040, 10048]
section TYPES
variable {d : Nat} {Q : j3_P} {P : Pg} {s m nl yb i : Int} {σ : j3_S} {F : Fl}
theorem FR.ot {yb' : Int} {σ' : j3_S} (h : FR σ yb nl F) (hk : Fok P nl F) (l1 : nl ≤ 20) (ho : oth yb' σ σ') (hy : yb + 120 ≤ yb') : FR σ' yb nl F := by
  intro j j0 j1
  obtain ⟨h1, h2⟩ := h j j0 j1
  rw [(ho.1 (yb + j) (by omega)).1, (ho.1 (yb + j) (by omega)).2]
  refine ⟨h1, fun hj => ?_⟩
  obtain ⟨c1, c2, c3, c4⟩ := h2 hj
  have := (hk j j0 j1 hj).1
  refine ⟨c1, fun k k0 k1 => ?_, fun x x0 x1 => ?_, fun x x0 x1 => ?_⟩
  · rw [ho.2.1 _ (by omega)]
    exact c2 k k0 k1
  · rw [ho.2.2 _ (by omega)]
    exact c3 x x0 x1
  · by_cases g : 0 ≤ x
    · rw [ho.2.2 _ (by omega)]
      exact c4 x x0 x1
    · by_cases g2 : 20 * (yb + j) + x < 20 * yb'
      · rw [ho.2.2 _ (by omega)]
        exact c4 x x0 x1
      · omega
theorem r120 {k l : Int} (hW : WFp P) (s0 : 0 ≤ s) (s2 : s ≤ 2) (m0 : 0 ≤ m) (m1 : m < P 3001 0) (hnl : P 3017 m = nl) (hyb : yb = (if s = 0 then 0 else 9600) + 120 * m) (hk : k = 80 * s + m) : ∀ (r : Nat) (i : Int) (F : Fl) (c : Bool) (σ : j3_S), RP σ s P → 0 ≤ i → i + r = P 0 m → FR σ yb nl F → Fok P nl F → σ.1 10042 121 = b2i c → σ.1 10007 121 = 0 →
    (∀ σ' x5, frm tyI tyA σ σ' → oth yb σ σ' → σ'.1 10007 121 = (rnd P m nl r i F c).1 → (¬ (rnd P m nl r i F c).1 = 0 → bdA P m (rnd P m nl r i F c).2.1 σ') → ((rnd P m nl r i F c).1 = 0 → FR σ' yb nl (rnd P m nl r i F c).2.2.1 ∧ σ'.1 10042 121 = b2i (rnd P m nl r i F c).2.2.2) → T180 (d + 4) Q 109 [wO 10 121, wI s, wI m, wI k, wI l, wI x5] [] σ') →
    T180 (d + 4) Q 120 [wO 10 121, wI s, wI m, wI k, wI l, wI i] [] σ
  | 0, i, F, c, σ, hR, i0, hi, hF, hok, hch, hb, h => by
    have hm2 := hW.2.1.2.1
    rw [b180_120, hk, (hR.2.2.2 m m0 m1).1.2.2.2.2.2.2, if_neg (by omega), b180_151, ← hk]
    exact ⟨by omega, h σ i frm.rf oth.rf hb (fun g => absurd rfl g) (fun _ => ⟨hF, hch⟩)⟩
  | r + 1, i, F, c, σ, hR, i0, hi, hF, hok, hch, hb, h => by
    have hm2 := hW.2.1.2.1
    obtain ⟨-, -, -, -, -, q6, -⟩ := hW.2.2.2 m m0 m1
    have hyl : 0 ≤ yb + i ∧ yb + i < 19200 := by rw [hyb]; split <;> omega
    have t136 : ∀ x : Int, x = (if s = 0 then 0 else 9600) → T180 (d + 4) Q 136 [wO 10 121, wI s, wI m, wI k, wI l, wI i] [wI x, wA 10035 121] σ := by
      intro x hx
      have hy : x + 120 * m + i = yb + i := by rw [hyb, hx]
      have hx2 : x = 0 ∨ x = 9600 := by rw [hx]; split <;> simp
      rw [b180_136]
      simp (disch := omega) only [wr_id, hy]
      refine ⟨hyl, ?_⟩
      rw [(hF i i0 (by omega)).1]
      by_cases g : F.1 i < 0
      · rw [if_pos g, if_pos rfl, b180_149, wr_id (by omega) (by omega)]
        have e : rnd P m nl (r + 1) i F c = rnd P m nl r (i + 1) F c := by simp only [rnd, if_pos g]
        rw [e] at h
        exact r120 hW s0 s2 m0 m1 hnl hyb hk r (i + 1) F c σ hR (by omega) (by omega) hF hok hch hb h
      · rw [if_neg g, if_neg (by decide)]
        refine s179 (d := d) (F := F) (nl := nl) (yb := yb) (op := P 1 (m * 120 + i)) (a := P 2 (m * 120 + i)) (b := P 3 (m * 120 + i)) hR hW s0 s2 m0 m1 hnl hyb i0 (by omega) rfl rfl rfl (by omega) hb (by rw [hch]; exact b2i_01 c) hF hok (fun σ1 fr1 o1 k1 k2 k3 => ?_)
        change σ1.1 10007 121 = (lk P m nl i F).1 at k1
        change ¬ (lk P m nl i F).1 = 0 → bdA P m i σ1 at k2
        change (lk P m nl i F).1 = 0 → FR σ1 yb nl (lk P m nl i F).2.1 ∧ σ1.1 10042 121 = if (lk P m nl i F).2.2 = true then 1 else σ.1 10042 121 at k3
        simp only [Option.toList_none, List.nil_append]
        rw [b180_149, wr_id (by omega) (by omega)]
        have hR1 := hR.fr fr1 (lr_ok rfl)
        by_cases g2 : (lk P m nl i F).1 = 0
        · obtain ⟨k4, k5⟩ := k3 g2
          have e : rnd P m nl (r + 1) i F c = rnd P m nl r (i + 1) (lk P m nl i F).2.1 (c || (lk P m nl i F).2.2) := by simp only [rnd, if_neg g, if_pos g2]
          rw [e] at h
          refine r120 hW s0 s2 m0 m1 hnl hyb hk r (i + 1) (lk P m nl i F).2.1 (c || (lk P m nl i F).2.2) σ1 hR1 (by omega) (by omega) k4 (lk_ok hW m0 m1 hnl i0 (by omega) (by omega) hok g2) ?_ (k1.trans g2) (fun σ' x5 hf ho => h σ' x5 (frm.tr fr1 hf) (o1.tr ho))
          rw [k5, hch]
          cases c <;> cases (lk P m nl i F).2.2 <;> rfl
        · have e : rnd P m nl (r + 1) i F c = ((lk P m nl i F).1, i, F, c) := by simp only [rnd, if_neg g, if_neg g2]
          rw [e] at h
          have h109 := h σ1 (i + 1) fr1 o1 k1 (fun _ => k2 g2) (fun q => absurd q g2)
          rw [b180_120, k1, if_neg g2, b180_151, hk, (hR1.2.2.2 m m0 m1).1.2.2.2.2.2.2, ← hk, ite_self]
          exact ⟨by omega, h109⟩
    rw [b180_120, hk, (hR.2.2.2 m m0 m1).1.2.2.2.2.2.2, if_pos (by omega), hb, if_pos rfl, ← hk]
    refine ⟨by omega, ?_⟩
    by_cases gs : s = 0
    · rw [if_pos gs]
      exact t136 0 (by rw [if_pos gs])
    · rw [if_neg gs]
      exact t136 9600 (by rw [if_neg gs])
theorem r109 {k l : Int} (hW : WFp P) (s0 : 0 ≤ s) (s2 : s ≤ 2) (m0 : 0 ≤ m) (m1 : m < P 3001 0) (hnl : P 3017 m = nl) (hyb : yb = (if s = 0 then 0 else 9600) + 120 * m) (hk : k = 80 * s + m) : ∀ (n : Nat) (F : Fl) (x5 : Int) (σ : j3_S) (R : Int × Int × Fl), itr P m nl n F = some R → RP σ s P → FR σ yb nl F → Fok P nl F → σ.1 10042 121 = 1 → σ.1 10007 121 = 0 →
    (∀ σ' x5, frm tyI tyA σ σ' → oth yb σ σ' → σ'.1 10007 121 = R.1 → (¬ R.1 = 0 → bdA P m R.2.1 σ') → (R.1 = 0 → FR σ' yb nl R.2.2 ∧ Fok P nl R.2.2) → T180 (d + 4) Q 152 [wO 10 121, wI s, wI m, wI k, wI l, wI x5] [] σ') →
    T180 (d + 4) Q 109 [wO 10 121, wI s, wI m, wI k, wI l, wI x5] [] σ
  | 0, F, x5, σ, R, he, _, _, _, _, _, _ => by cases he
  | n + 1, F, x5, σ, R, he, hR, hF, hok, hch, hb, h => by
    obtain ⟨-, -, -, -, -, q6, -⟩ := hW.2.2.2 m m0 m1
    rw [b180_109, hch, if_neg (by decide), hb, if_pos rfl]
    refine ⟨Or.inl rfl, ?_⟩
    have f1 : frm tyI tyA σ (j3_up σ.1 10042 121 0, σ.2.1, σ.2.2) := frm.I rfl frm.rf
    refine r120 hW s0 s2 m0 m1 hnl hyb hk (P 0 m).toNat 0 F false _ (hR.fr f1 (lr_ok rfl)) (by omega) (by omega) hF hok (by simp only [up_r]; rfl) (by simp only [up_e (show ((10007 : Nat) == 10042) = false from rfl)]; exact hb) (fun σ1 x5 fr1 o1 k1 k2 k3 => ?_)
    have hr := rnd_ok hW m0 m1 hnl (P 0 m).toNat 0 F false (by omega) (by omega) hok
    simp only [itr] at he
    generalize rnd P m nl (P 0 m).toNat 0 F false = Z at he k1 k2 k3 hr
    have fA := f1.tr fr1
    have oA : oth yb σ σ1 := (oth.rf : oth yb σ _).tr o1
    by_cases g : Z.1 = 0
    · rw [if_pos g] at he
      obtain ⟨k4, k5⟩ := k3 g
      by_cases g2 : Z.2.2.2 = true
      · rw [if_pos g2] at he
        exact r109 hW s0 s2 m0 m1 hnl hyb hk n _ x5 σ1 R he (hR.fr fA (lr_ok rfl)) k4 hr (by rw [k5, g2]; rfl) (k1.trans g) (fun σ' x5 hf ho => h σ' x5 (fA.tr hf) (oA.tr ho))
      · rw [if_neg g2] at he
        have he := Option.some.inj he
        subst he
        rw [b180_109, k5, show Z.2.2.2 = false by simpa using g2, if_pos (show b2i false = 0 from rfl)]
        exact h σ1 x5 fA oA (k1.trans g) (fun q => absurd rfl q) (fun _ => ⟨k4, hr⟩)
    · rw [if_neg g] at he
      have he := Option.some.inj he
      subst he
      rw [b180_109, k1, if_neg g, ite_self]
      exact h σ1 x5 fA oA k1 k2 (fun q => absurd q g)
/-- the first state of a method -/
theorem r93 {k l : Int} (hW : WFp P) (m0 : 0 ≤ m) (m1 : m < P 3001 0) : ∀ (r : Nat) (x : Int) (σ : j3_S), 0 ≤ x → rcv P m + P 3015 m ≤ x → x + r = 20 → (∀ z, 0 ≤ z → z < x → σ.2.2 10040 121 z = ini P m z) → (∀ σ', frm [] [10040] σ σ' → (∀ z, 0 ≤ z → z < 20 → σ'.2.2 10040 121 z = ini P m z) → j3_tc true d 178 [wO 10 121, wI s, wI m, wI 0, wI 0] σ' (fun r σ1 => T180 d Q 109 [wO 10 121, wI s, wI m, wI k, wI l, wI 20] (r.toList ++ []) σ1)) → T180 d Q 93 [wO 10 121, wI s, wI m, wI k, wI l, wI x] [] σ
  | 0, x, σ, x0, xp, hx, h1, h => by
    have : x = 20 := by omega
    subst this
    rw [b180_93, if_neg (by omega)]
    exact h σ frm.rf h1
  | r + 1, x, σ, x0, xp, hx, h1, h => by
    rw [b180_93, if_pos (by omega), wr_id (by omega) (by omega)]
    refine ⟨by omega, r93 hW m0 m1 r (x + 1) _ (by omega) (by omega) (by omega) (fun z z0 z1 => ?_) (fun σ' hf g => h σ' ((frm.A rfl frm.rf : frm [] [10040] σ _).tr hf) g)⟩
    simp only [j3_ast, up_r]
    by_cases g : z = x
    · subst g
      rw [iu_r]
      unfold ini
      rw [if_neg (by have := (hW.2.2.2 m m0 m1).2.2.2.1.1; omega), if_neg (by omega)]
    · rw [iu_n g]
      exact h1 z z0 (by omega)
theorem r63 {k : Int} (hW : WFp P) (s0 : 0 ≤ s) (s2 : s ≤ 2) (m0 : 0 ≤ m) (m1 : m < P 3001 0) (hk : k = 80 * s + m) : ∀ (r : Nat) (x : Int) (σ : j3_S), RP σ s P → 0 ≤ x → x + r = P 3015 m → (∀ z, 0 ≤ z → z < rcv P m + x → σ.2.2 10040 121 z = ini P m z) → (∀ σ', frm [] [10040] σ σ' → (∀ z, 0 ≤ z → z < 20 → σ'.2.2 10040 121 z = ini P m z) → j3_tc true (d + 1) 178 [wO 10 121, wI s, wI m, wI 0, wI 0] σ' (fun r σ1 => T180 (d + 1) Q 109 [wO 10 121, wI s, wI m, wI k, wI (rcv P m), wI 20] (r.toList ++ []) σ1)) → T180 (d + 1) Q 63 [wO 10 121, wI s, wI m, wI k, wI (rcv P m), wI x] [] σ
  | 0, x, σ, hR, x0, hx, h1, h => by
    have hm2 := hW.2.1.2.1
    have hr := rcv_01 (P := P) (m := m)
    obtain ⟨-, q2, -, q4, q5, -⟩ := hW.2.2.2 m m0 m1
    have hq : rcv P m = 1 - P 3013 m := by unfold rcv; split <;> omega
    rw [b180_63, hk, (hR.2.2.2 m m0 m1).1.2.2.2.2.1, if_neg (by omega), wr_id (by omega) (by omega), ← hk]
    exact ⟨by omega, by omega, r93 hW m0 m1 (20 - (rcv P m + P 3015 m)).toNat (rcv P m + P 3015 m) σ (by omega) (by omega) (by omega) (fun z z0 z1 => h1 z z0 (by omega)) h⟩
  | r + 1, x, σ, hR, x0, hx, h1, h => by
    have hm2 := hW.2.1.2.1
    have hn := hW.1.2.1
    have hr := rcv_01 (P := P) (m := m)
    obtain ⟨-, q2, -, q4, q5, -⟩ := hW.2.2.2 m m0 m1
    have hq : rcv P m = 1 - P 3013 m := by unfold rcv; split <;> omega
    have hk3 := q4.2.2 x x0 (by omega)
    have e3 := (hR.2.2.2 m m0 m1).2.1 x x0 (by omega)
    rw [b180_63, hk, (hR.2.2.2 m m0 m1).1.2.2.2.2.1, if_pos (by omega)]
    simp (disch := omega) only [wr_id]
    rw [e3, s173 (by omega) (by omega)]
    simp only [Option.toList_some, List.cons_append, List.nil_append]
    rw [b180_83]
    simp (disch := omega) only [wr_id]
    have f1 : frm [] [10040] σ (σ.1, σ.2.1, j3_ast σ.2.2 10040 121 (rcv P m + x) (tyof (P 3016 (m * 3 + x)))) := frm.A rfl frm.rf
    rw [← hk]
    refine ⟨by omega, by omega, by omega, r63 hW s0 s2 m0 m1 hk r (x + 1) _ (hR.fr f1 (lr_ok rfl)) (by omega) (by omega) (fun z z0 z1 => ?_) (fun σ' hf g => h σ' (f1.tr hf) g)⟩
    simp only [j3_ast, up_r]
    by_cases g : z = rcv P m + x
    · subst g
      rw [iu_r]
      unfold ini
      rw [if_neg (by omega), if_pos (by omega), show rcv P m + x - rcv P m = x by omega]
    · rw [iu_n g]
      exact h1 z z0 (by omega)
/-- nothing is reached yet -/
theorem r19 {k : Int} {w5 : j3_W} (s0 : 0 ≤ s) (s2 : s ≤ 2) (m0 : 0 ≤ m) (m1 : m < 80) (hyb : yb = (if s = 0 then 0 else 9600) + 120 * m) : ∀ (r : Nat) (x : Int) (σ : j3_S), 0 ≤ x → x + r = 120 → (∀ j, 0 ≤ j → j < x → σ.2.2 10035 121 (yb + j) = 0) → (∀ σ', frm [] [10035] σ σ' → oth yb σ σ' → (∀ j, 0 ≤ j → j < 120 → σ'.2.2 10035 121 (yb + j) = 0) → T180 d Q 19 [wO 10 121, wI s, wI m, wI k, wI 120, w5] [] σ') → T180 d Q 19 [wO 10 121, wI s, wI m, wI k, wI x, w5] [] σ
  | 0, x, σ, x0, hx, h1, h => by
    have : x = 120 := by omega
    subst this
    exact h σ frm.rf oth.rf h1
  | r + 1, x, σ, x0, hx, h1, h => by
    have hyl : 0 ≤ yb + x ∧ yb + x < 19200 := by rw [hyb]; split <;> omega
    have t29 : ∀ v : Int, v = (if s = 0 then 0 else 9600) → T180 d Q 29 [wO 10 121, wI s, wI m, wI k, wI x, w5] [wI v, wA 10035 121] σ := by
      intro v hv
      have hy : v + 120 * m + x = yb + x := by rw [hyb, hv]
      have hv2 : v = 0 ∨ v = 9600 := by rw [hv]; split <;> simp
      rw [b180_29]
      simp (disch := omega) only [wr_id, hy]
      have f1 : frm [] [10035] σ (σ.1, σ.2.1, j3_ast σ.2.2 10035 121 (yb + x) 0) := frm.A rfl frm.rf
      have o1 : oth yb σ (σ.1, σ.2.1, j3_ast σ.2.2 10035 121 (yb + x) 0) := by
        refine ⟨fun z hz => ?_, fun z hz => ?_, fun z hz => ?_⟩
        · simp only [j3_ast, up_r, up_e (show ((10036 : Nat) == 10035) = false from rfl)]
          exact ⟨iu_n (by omega), trivial⟩
        · simp only [j3_ast, up_e (show ((10037 : Nat) == 10035) = false from rfl)]
        · simp only [j3_ast, up_e (show ((10038 : Nat) == 10035) = false from rfl)]
      refine ⟨Or.inl trivial, hyl, r19 s0 s2 m0 m1 hyb r (x + 1) _ (by omega) (by omega) (fun j j0 j1 => ?_) (fun σ' hf ho g => h σ' (f1.tr hf) (o1.tr ho) g)⟩
      simp only [j3_ast, up_r]
      by_cases g : j = x
      · subst g
        rw [iu_r]
      · rw [iu_n (by omega)]
        exact h1 j j0 (by omega)
    rw [b180_19, if_pos (by omega)]
    by_cases gs : s = 0
    · rw [if_pos gs]
      exact t29 0 (by rw [if_pos gs])
    · rw [if_neg gs]
      exact t29 9600 (by rw [if_neg gs])
end TYPES
