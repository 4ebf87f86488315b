/-! what the flow comes to is a typing, and the least one -/
def IF (P : Pg) (m nl : Int) (F : Fl) : Prop := F.1 0 = 0 ∧ sle P nl (ini P m) (F.2.2 0) ∧ ∀ i, 0 ≤ i → i < 120 → 0 ≤ F.1 i → stk P (F.1 i) (F.2.1 i)
def Fle (P : Pg) (nl : Int) (F S : Fl) : Prop := ∀ i, 0 ≤ i → i < 120 → 0 ≤ F.1 i → S.1 i = F.1 i ∧ sle P (F.1 i) (F.2.1 i) (S.2.1 i) ∧ sle P nl (F.2.2 i) (S.2.2 i)
section FIX
variable {P : Pg} {nl : Int} {F G S : Fl} {i j n m a op b q : Int} {s l s' l' : Int → Int}
theorem IF_ar (hW : WFp P) (m0 : 0 ≤ m) (m1 : m < P 3001 0) (hok : Fok P nl F) (hI : IF P m nl F) (hst : stk P n s) (hl : tys P nl l) (j0 : 0 ≤ j) (j1 : j < 120) (h : arf F j n s = 0) : IF P m nl (arF P nl F j n s l) := by
  obtain ⟨h1, h2, h3⟩ := hI
  have hs := hW.1
  unfold arF
  by_cases g : F.1 j < 0
  · have jn : ¬ 0 = j := fun q => by rw [← q, h1] at g; omega
    rw [if_pos g]
    refine ⟨by simp only [i_up, if_neg jn]; exact h1, by simp only [up2, if_neg jn]; exact h2, fun k k0 k1 hk => ?_⟩
    simp only [i_up, up2] at hk ⊢
    by_cases e : k = j
    · simp only [if_pos e]
      exact hst
    · simp only [if_neg e] at hk ⊢
      exact h3 k k0 k1 hk
  · rw [if_neg g]
    obtain ⟨e1, e2⟩ := arf_e h (by omega)
    obtain ⟨o1, o2, o3⟩ := hok j j0 j1 (by omega)
    refine ⟨h1, ?_, fun k k0 k1 hk => ?_⟩
    · simp only [up2]
      by_cases e : 0 = j
      · subst e
        simp only [if_true]
        intro x x0 x1
        simp only [mtr]
        rw [if_pos (by omega)]
        exact sbt.tr hs (ini_o hW m0 m1 x0) (h2 x x0 x1) (sbt_mt hs (o3 x x0 x1) (hl x x0 x1)).1
      · simp only [if_neg e]
        exact h2
    · simp only [up2]
      by_cases e : k = j
      · subst e
        simp only [if_true]
        intro x x0 x1
        simp only [mtr]
        have x2 : x < n := by rw [← e1]; exact x1
        rw [if_pos (by omega)]
        exact ⟨mt_1 hs (o2 x x0 x1) (hst x x0 x2).2 (h3 k k0 k1 hk x x0 x1).1 (hst x x0 x2).1 (eqi_t _ _ e2 x (by omega) (by omega)), mt_o hs (o2 x x0 x1) (hst x x0 x2).2⟩
      · simp only [if_neg e]
        exact h3 k k0 k1 hk
/-- a look in three parts -/
theorem lk_cases (hW : WFp P) (m0 : 0 ≤ m) (m1 : m < P 3001 0) (hnl : P 3017 m = nl) (i0 : 0 ≤ i) (i1 : i < P 0 m) (h0 : 0 ≤ F.1 i) (hok : Fok P nl F) (hI : IF P m nl F) {M : Int × Fl × Bool → Prop}
    (hf : ¬ exf P m (P 1 (m * 120 + i)) (P 2 (m * 120 + i)) (P 3 (m * 120 + i)) (F.1 i) (F.2.1 i) (F.2.2 i) = 0 → M (exf P m (P 1 (m * 120 + i)) (P 2 (m * 120 + i)) (P 3 (m * 120 + i)) (F.1 i) (F.2.1 i) (F.2.2 i), F, false))
    (hk : ∀ n s l, exn P m (P 1 (m * 120 + i)) (P 2 (m * 120 + i)) (P 3 (m * 120 + i)) (F.1 i) (F.2.1 i) (F.2.2 i) = n → exs P m (P 1 (m * 120 + i)) (P 2 (m * 120 + i)) (P 3 (m * 120 + i)) (F.1 i) (F.2.1 i) (F.2.2 i) = s → exl P m (P 1 (m * 120 + i)) (P 2 (m * 120 + i)) (P 3 (m * 120 + i)) (F.1 i) (F.2.1 i) (F.2.2 i) = l → exf P m (P 1 (m * 120 + i)) (P 2 (m * 120 + i)) (P 3 (m * 120 + i)) (F.1 i) (F.2.1 i) (F.2.2 i) = 0 → 0 ≤ n → n ≤ 10 → stk P n s → tys P nl l → (isj (P 1 (m * 120 + i)) = true → 0 ≤ P 2 (m * 120 + i) ∧ P 2 (m * 120 + i) < P 0 m) → M (ar2 P m nl i (P 1 (m * 120 + i)) (P 2 (m * 120 + i)) F n s l)) : M (lk P m nl i F) := by
  obtain ⟨hs, hm, -, hM⟩ := id hW
  obtain ⟨-, -, -, -, -, q6, q7⟩ := hM m m0 m1
  have hi := q7 i i0 i1
  obtain ⟨o1, o2, o3⟩ := hok i i0 (by omega) h0
  unfold lk look
  by_cases g : exf P m (P 1 (m * 120 + i)) (P 2 (m * 120 + i)) (P 3 (m * 120 + i)) (F.1 i) (F.2.1 i) (F.2.2 i) = 0
  · rw [if_pos g]
    obtain ⟨e1, -, -, e4⟩ := exf0 g
    refine hk _ _ _ rfl rfl rfl g ?_ e4 (exs_stk hW hi hnl.symm g (hI.2.2 i i0 (by omega) h0) o3) (exl_o e1 o2 o3) (fun q => hi.2.2.2.1 (isj_b q))
    unfold exn
    omega
  · rw [if_neg g]
    exact hf g
theorem IF_lk (hW : WFp P) (m0 : 0 ≤ m) (m1 : m < P 3001 0) (hnl : P 3017 m = nl) (i0 : 0 ≤ i) (i1 : i < P 0 m) (h0 : 0 ≤ F.1 i) (hok : Fok P nl F) (hI : IF P m nl F) : (lk P m nl i F).1 = 0 → IF P m nl (lk P m nl i F).2.1 := by
  obtain ⟨-, -, -, -, -, q6, -⟩ := hW.2.2.2 m m0 m1
  refine lk_cases (M := fun Z => Z.1 = 0 → IF P m nl Z.2.1) hW m0 m1 hnl i0 i1 h0 hok hI (fun _ _ => hI) (fun n s l _ _ _ e n0 n1 hst hl hj => ?_)
  have A1 : (ar1 P m nl i (P 1 (m * 120 + i)) F n s l).1 = 0 → IF P m nl (ar1 P m nl i (P 1 (m * 120 + i)) F n s l).2.1 := by
    unfold ar1
    split
    · split
      · intro q
        exact IF_ar hW m0 m1 hok hI hst hl (by omega) (by omega) q
      · exact fun _ => hI
    · exact fun _ => hI
  intro h
  unfold ar2 at h ⊢
  by_cases gg : (ar1 P m nl i (P 1 (m * 120 + i)) F n s l).1 = 0 ∧ isj (P 1 (m * 120 + i)) = true
  · rw [if_pos gg] at h ⊢
    exact IF_ar hW m0 m1 (ar1_ok hW.1 hok n1 hst.ty hl gg.1) (A1 gg.1) hst hl (hj gg.2).1 (by have := (hj gg.2).2; omega) h
  · rw [if_neg gg] at h ⊢
    exact A1 h
theorem lk_same (hW : WFp P) (m0 : 0 ≤ m) (m1 : m < P 3001 0) (hnl : P 3017 m = nl) (i0 : 0 ≤ i) (i1 : i < P 0 m) (h0 : 0 ≤ F.1 i) (hok : Fok P nl F) (hI : IF P m nl F) : (lk P m nl i F).1 = 0 → (lk P m nl i F).2.2 = false → TyI P m nl (P 0 m) (P 1 (m * 120 + i)) (P 2 (m * 120 + i)) (P 3 (m * 120 + i)) i F ∧ Feq nl F (lk P m nl i F).2.1 := by
  obtain ⟨-, -, -, -, -, q6, -⟩ := hW.2.2.2 m m0 m1
  obtain ⟨o1, o2, o3⟩ := hok i i0 (by omega) h0
  refine lk_cases (M := fun Z => Z.1 = 0 → Z.2.2 = false → TyI P m nl (P 0 m) (P 1 (m * 120 + i)) (P 2 (m * 120 + i)) (P 3 (m * 120 + i)) i F ∧ Feq nl F Z.2.1) hW m0 m1 hnl i0 i1 h0 hok hI (fun g q => absurd q g) (fun n s l en es el e n0 n1 hst hl hj => ?_)
  have A1 : (ar1 P m nl i (P 1 (m * 120 + i)) F n s l).1 = 0 → (ar1 P m nl i (P 1 (m * 120 + i)) F n s l).2.2 = false → (gon (P 1 (m * 120 + i)) = true → i + 1 < P 0 m ∧ flw P nl F (i + 1) n s l) ∧ Feq nl F (ar1 P m nl i (P 1 (m * 120 + i)) F n s l).2.1 := by
    unfold ar1
    by_cases g1 : gon (P 1 (m * 120 + i)) = true
    · rw [if_pos g1]
      by_cases g2 : i + 1 < P 0 m
      · rw [if_pos g2]
        intro q1 q2
        have := arc_f hW.1 hok (by omega) (by omega) hst.ty hl q1 q2
        exact ⟨fun _ => ⟨g2, this.1⟩, this.2⟩
      · rw [if_neg g2]
        intro q1
        exact absurd q1 (show ¬ (7 : Int) = 0 by decide)
    · rw [if_neg g1]
      exact fun _ _ => ⟨fun q => absurd q g1, Feq.rf⟩
  intro h hc
  unfold ar2 at h hc ⊢
  by_cases gg : (ar1 P m nl i (P 1 (m * 120 + i)) F n s l).1 = 0 ∧ isj (P 1 (m * 120 + i)) = true
  · rw [if_pos gg] at h hc ⊢
    simp only [Bool.or_eq_false_iff] at hc
    obtain ⟨c1, c2⟩ := hc
    obtain ⟨B1, B2⟩ := A1 gg.1 c1
    have hja := hj gg.2
    have C := arc_f hW.1 (ar1_ok hW.1 hok n1 hst.ty hl gg.1) hja.1 (by omega) hst.ty hl h c2
    obtain ⟨C1, C2⟩ := C
    have hF2 : Feq nl F (arF P nl (ar1 P m nl i (P 1 (m * 120 + i)) F n s l).2.1 (P 2 (m * 120 + i)) n s l) := by
      refine ⟨fun k => (B2.1 k).trans (C2.1 k), fun k k0 k1 hk => ?_⟩
      have u1 := B2.2 k k0 k1 hk
      have u2 := C2.2 k k0 k1 (by rw [← B2.1 k]; exact hk)
      exact ⟨fun z z0 z1 => (u1.1 z z0 z1).trans (u2.1 z z0 (by rw [← B2.1 k]; exact z1)), fun z z0 z1 => (u1.2 z z0 z1).trans (u2.2 z z0 z1)⟩
    have hjj : flw P nl F (P 2 (m * 120 + i)) n s l := by
      obtain ⟨v1, v2, v3⟩ := C1
      have v0 : F.1 (P 2 (m * 120 + i)) = n := (B2.1 _).trans v1
      have u1 := B2.2 _ hja.1 (by omega) (by rw [v0]; exact n0)
      refine ⟨v0, fun z z0 z1 => ?_, fun z z0 z1 => ?_⟩
      · rw [u1.1 z z0 (by omega)]
        exact v2 z z0 z1
      · rw [u1.2 z z0 z1]
        exact v3 z z0 z1
    refine ⟨⟨⟨o1, hI.2.2 i i0 (by omega) h0, o3⟩, e, ?_, ?_⟩, hF2⟩
    · rw [en, es, el]
      exact B1
    · rw [en, es, el]
      exact fun _ => hjj
  · rw [if_neg gg] at h hc ⊢
    obtain ⟨B1, B2⟩ := A1 h hc
    refine ⟨⟨⟨o1, hI.2.2 i i0 (by omega) h0, o3⟩, e, ?_, ?_⟩, B2⟩
    · rw [en, es, el]
      exact B1
    · exact fun q => absurd ⟨h, q⟩ gg
theorem lk_c (hW : WFp P) (m0 : 0 ≤ m) (m1 : m < P 3001 0) (hnl : P 3017 m = nl) (i0 : 0 ≤ i) (i1 : i < P 0 m) (h0 : 0 ≤ F.1 i) (hF : Feq nl F G) : (lk P m nl i F).1 = (lk P m nl i G).1 ∧ ((lk P m nl i F).1 = 0 → Feq nl (lk P m nl i F).2.1 (lk P m nl i G).2.1 ∧ (lk P m nl i F).2.2 = (lk P m nl i G).2.2) := by
  obtain ⟨-, -, -, -, -, q6, q7⟩ := hW.2.2.2 m m0 m1
  have hi := q7 i i0 i1
  have hj : isj (P 1 (m * 120 + i)) = true → 0 ≤ P 2 (m * 120 + i) ∧ P 2 (m * 120 + i) < P 0 m := fun q => hi.2.2.2.1 (isj_b q)
  have h2 : P 1 (m * 120 + i) = 2 → 0 ≤ P 2 (m * 120 + i) ∧ P 2 (m * 120 + i) < nl := fun h => by rw [← hnl]; exact hi.2.2.1 (Or.inl h)
  obtain ⟨b1, b2⟩ := hF.2 i i0 (by omega) h0
  unfold lk look
  rw [← hF.1 i]
  have ef := exf_c (P := P) (m := m) (b := P 3 (m * 120 + i)) b1 b2 h2
  rw [← ef]
  by_cases g : exf P m (P 1 (m * 120 + i)) (P 2 (m * 120 + i)) (P 3 (m * 120 + i)) (F.1 i) (F.2.1 i) (F.2.2 i) = 0
  · rw [if_pos g, if_pos g]
    have e1 := (exf0 g).1
    rw [← exn_c e1 b1 b2 h2]
    exact ar2_c hF (exs_c e1 b1 b2 h2) (exl_c e1 b1 b2) i0 (by omega) hj
  · rw [if_neg g, if_neg g]
    exact ⟨rfl, fun q => absurd q g⟩
theorem Feq.tr (h : Feq nl F G) (h' : Feq nl G S) : Feq nl F S := by
  refine ⟨fun k => (h.1 k).trans (h'.1 k), fun k k0 k1 hk => ?_⟩
  have u1 := h.2 k k0 k1 hk
  have u2 := h'.2 k k0 k1 (by rw [← h.1 k]; exact hk)
  exact ⟨fun z z0 z1 => (u1.1 z z0 z1).trans (u2.1 z z0 (by rw [← h.1 k]; exact z1)), fun z z0 z1 => (u1.2 z z0 z1).trans (u2.2 z z0 z1)⟩
theorem rnd_if (hW : WFp P) (m0 : 0 ≤ m) (m1 : m < P 3001 0) (hnl : P 3017 m = nl) : ∀ (r : Nat) (i : Int) (F : Fl) (c : Bool), 0 ≤ i → i + r = P 0 m → Fok P nl F → IF P m nl F → IF P m nl (rnd P m nl r i F c).2.2.1
  | 0, i, F, c, i0, hi, h, hI => hI
  | r + 1, i, F, c, i0, hi, h, hI => by
    simp only [rnd]
    split
    · exact rnd_if hW m0 m1 hnl r (i + 1) F c (by omega) (by omega) h hI
    · split
      · rename_i g1 g2
        exact rnd_if hW m0 m1 hnl r (i + 1) _ _ (by omega) (by omega) (lk_ok hW m0 m1 hnl i0 (by omega) (by omega) h g2) (IF_lk hW m0 m1 hnl i0 (by omega) (by omega) h hI g2)
      · exact hI
theorem rnd_same (hW : WFp P) (m0 : 0 ≤ m) (m1 : m < P 3001 0) (hnl : P 3017 m = nl) : ∀ (r : Nat) (i : Int) (F : Fl) (c : Bool), 0 ≤ i → i + r = P 0 m → Fok P nl F → IF P m nl F → (rnd P m nl r i F c).1 = 0 → (rnd P m nl r i F c).2.2.2 = false → c = false ∧ Feq nl F (rnd P m nl r i F c).2.2.1 ∧ ∀ k, i ≤ k → k < P 0 m → 0 ≤ F.1 k → (lk P m nl k F).1 = 0 ∧ (lk P m nl k F).2.2 = false
  | 0, i, F, c, i0, hi, h, hI, _, hc => ⟨hc, Feq.rf, fun k k0 k1 => absurd k1 (by omega)⟩
  | r + 1, i, F, c, i0, hi, h, hI, hb, hc => by
    simp only [rnd] at hb hc ⊢
    by_cases g : F.1 i < 0
    · rw [if_pos g] at hb hc ⊢
      obtain ⟨c1, c2, c3⟩ := rnd_same hW m0 m1 hnl r (i + 1) F c (by omega) (by omega) h hI hb hc
      refine ⟨c1, c2, fun k k0 k1 hk => c3 k ?_ k1 hk⟩
      by_cases e : k = i
      · subst e
        omega
      · omega
    · rw [if_neg g] at hb hc ⊢
      by_cases g2 : (lk P m nl i F).1 = 0
      · rw [if_pos g2] at hb hc ⊢
        obtain ⟨c1, c2, c3⟩ := rnd_same hW m0 m1 hnl r (i + 1) _ _ (by omega) (by omega) (lk_ok hW m0 m1 hnl i0 (by omega) (by omega) h g2) (IF_lk hW m0 m1 hnl i0 (by omega) (by omega) h hI g2) hb hc
        simp only [Bool.or_eq_false_iff] at c1
        have hF := (lk_same hW m0 m1 hnl i0 (by omega) (by omega) h hI g2 c1.2).2
        refine ⟨c1.1, hF.tr c2, fun k k0 k1 hk => ?_⟩
        by_cases e : k = i
        · subst e
          exact ⟨g2, c1.2⟩
        · have u := c3 k (by omega) k1 (by rw [← hF.1 k]; exact hk)
          have v := lk_c hW m0 m1 hnl (by omega) k1 hk hF
          have v1 := v.1.trans u.1
          exact ⟨v1, (v.2 v1).2.trans u.2⟩
      · rw [if_neg g2] at hb
        exact absurd hb g2
theorem itr_ty (hW : WFp P) (m0 : 0 ≤ m) (m1 : m < P 3001 0) (hnl : P 3017 m = nl) : ∀ (n : Nat) (F : Fl) (R : Int × Int × Fl), Fok P nl F → IF P m nl F → itr P m nl n F = some R → R.1 = 0 → TyC P m nl (cdP P m) R.2.2 ∧ Fok P nl R.2.2
  | 0, F, R, _, _, h, _ => by cases h
  | n + 1, F, R, hok, hI, h, h0 => by
    obtain ⟨-, -, -, -, -, q6, -⟩ := hW.2.2.2 m m0 m1
    have hr := rnd_ok hW m0 m1 hnl (P 0 m).toNat 0 F false (by omega) (by omega) hok
    have hi := rnd_if hW m0 m1 hnl (P 0 m).toNat 0 F false (by omega) (by omega) hok hI
    have hs := rnd_same hW m0 m1 hnl (P 0 m).toNat 0 F false (by omega) (by omega) hok hI
    simp only [itr] at h
    generalize rnd P m nl (P 0 m).toNat 0 F false = Z at h hr hi hs
    by_cases g : Z.1 = 0
    · rw [if_pos g] at h
      by_cases g2 : Z.2.2.2 = true
      · rw [if_pos g2] at h
        exact itr_ty hW m0 m1 hnl n _ R hr hi h h0
      · rw [if_neg g2] at h
        have h := Option.some.inj h
        subst h
        obtain ⟨-, c2, c3⟩ := hs g (by simpa using g2)
        refine ⟨⟨hi.1, hi.2.1, fun k k0 k1 hk => ?_⟩, hr⟩
        have hk' : 0 ≤ F.1 k := by rw [c2.1 k]; exact hk
        have u := c3 k k0 k1 hk'
        have v := lk_c hW m0 m1 hnl k0 k1 hk' c2
        have v2 := v.2 u.1
        exact (lk_same hW m0 m1 hnl k0 k1 hk hr hi (v.1.symm.trans u.1) (v2.2.symm.trans u.2)).1
    · rw [if_neg g] at h
      have h := Option.some.inj h
      subst h
      exact absurd h0 g
theorem Fi_if (hW : WFp P) (m0 : 0 ≤ m) (m1 : m < P 3001 0) : IF P m nl (Fi P m) := by
  refine ⟨by simp [Fi], fun x x0 x1 => sbt.rf, fun i i0 i1 hi k k0 k1 => ?_⟩
  by_cases g : i = 0
  · subst g
    simp [Fi] at k1
    omega
  · simp [Fi, g] at hi
theorem res_ty (hW : WFp P) (m0 : 0 ≤ m) (m1 : m < P 3001 0) (h : (res P m).1 = 0) : TyC P m (P 3017 m) (cdP P m) (res P m).2.2 ∧ Fok P (P 3017 m) (res P m).2.2 := itr_ty hW m0 m1 rfl 50000 (Fi P m) (res P m) (Fi_ok hW m0 m1) (Fi_if hW m0 m1) (res_e hW m0 m1) h
/-- below a typing -/
theorem Fle_ar (hs : WFs P) (hok : Fok P nl F) (hst : ∀ i, 0 ≤ i → i < 120 → 0 ≤ F.1 i → stk P (F.1 i) (F.2.1 i)) (hle : Fle P nl F S) (n0 : 0 ≤ n) (h1 : stk P n s) (h2 : tys P nl l) (j0 : 0 ≤ j) (j1 : j < 120) (hf : S.1 j = n ∧ sle P n s (S.2.1 j) ∧ sle P nl l (S.2.2 j)) (hS : ∀ k, 0 ≤ k → k < n → 1 ≤ S.2.1 j k) : arf F j n s = 0 ∧ Fle P nl (arF P nl F j n s l) S := by
  obtain ⟨f1, f2, f3⟩ := hf
  by_cases g : F.1 j < 0
  · refine ⟨by simp [arf, g], ?_⟩
    unfold arF
    rw [if_pos g]
    intro i i0 i1 hi
    simp only [i_up, up2] at hi ⊢
    by_cases e : i = j
    · subst e
      simp only [if_true]
      exact ⟨f1, f2, f3⟩
    · simp only [if_neg e] at hi ⊢
      exact hle i i0 i1 hi
  · obtain ⟨l1, l2, l3⟩ := hle j j0 j1 (by omega)
    obtain ⟨o1, o2, o3⟩ := hok j j0 j1 (by omega)
    have en : F.1 j = n := l1.symm.trans f1
    refine ⟨?_, ?_⟩
    · unfold arf
      rw [if_neg g, if_neg (fun q => q en), if_pos (eqi_i _ _ (fun z z0 z1 => ?_))]
      have u1 := l2 z (by omega) (by omega)
      have u2 := f2 z (by omega) (by omega)
      have u3 := hS z (by omega) (by omega)
      have u4 := (hst j j0 j1 (by omega) z (by omega) (by omega)).1
      have u5 := (h1 z (by omega) (by omega)).1
      unfold sbt at u1 u2
      rw [decide_eq_decide]
      omega
    · unfold arF
      rw [if_neg g]
      intro i i0 i1 hi
      simp only [up2]
      by_cases e : i = j
      · subst e
        simp only [if_true]
        refine ⟨l1, fun z z0 z1 => ?_, fun z z0 z1 => ?_⟩
        · simp only [mtr]
          have z2 : z < n := by rw [← en]; exact z1
          rw [if_pos (by omega)]
          exact (sbt_mt hs (o2 z z0 z1) (h1 z z0 z2).2).2.2 _ (l2 z z0 z1) (f2 z z0 z2)
        · simp only [mtr]
          rw [if_pos (by omega)]
          exact (sbt_mt hs (o3 z z0 z1) (h2 z z0 z1)).2.2 _ (l3 z z0 z1) (f3 z z0 z1)
      · simp only [if_neg e]
        exact hle i i0 i1 hi
theorem lk_le (hW : WFp P) (m0 : 0 ≤ m) (m1 : m < P 3001 0) (hnl : P 3017 m = nl) (i0 : 0 ≤ i) (i1 : i < P 0 m) (h0 : 0 ≤ F.1 i) (hok : Fok P nl F) (hI : IF P m nl F) (hT : TyC P m nl (cdP P m) S) (hle : Fle P nl F S) : (lk P m nl i F).1 = 0 ∧ Fle P nl (lk P m nl i F).2.1 S := by
  obtain ⟨-, -, -, -, -, q6, q7⟩ := hW.2.2.2 m m0 m1
  have hi := q7 i i0 i1
  have h2 : P 1 (m * 120 + i) = 2 → 0 ≤ P 2 (m * 120 + i) ∧ P 2 (m * 120 + i) < nl := fun h => by rw [← hnl]; exact hi.2.2.1 (Or.inl h)
  have h3 : P 1 (m * 120 + i) = 3 → 0 ≤ P 2 (m * 120 + i) ∧ P 2 (m * 120 + i) < nl := fun h => by rw [← hnl]; exact hi.2.2.1 (Or.inr h)
  obtain ⟨l1, l2, l3⟩ := hle i i0 (by omega) h0
  obtain ⟨⟨t1, t2, t3⟩, t4, t5, t6⟩ := hT.2.2 i i0 i1 (by omega)
  obtain ⟨o1, o2, o3⟩ := hok i i0 (by omega) h0
  simp only [cdP] at t4 t5 t6
  rw [l1] at t1 t2 t4 t5 t6
  obtain ⟨E1, E2, E3, E4⟩ := ex_mono hW (wl_o hW m0 m1 hi).2 h2 h3 l2 l3 o2 t2 t4
  -- stacks of the typing
  have hS : ∀ j n s l, flw P nl S j n s l → 0 ≤ j → j < P 0 m → 0 ≤ n → ∀ k, 0 ≤ k → k < n → 1 ≤ S.2.1 j k := by
    intro j n s l hf j0 j1 n0 k k0 k1
    have := (hT.2.2 j j0 j1 (by rw [hf.1]; exact n0)).1.2.1
    rw [hf.1] at this
    exact (this k k0 k1).1
  refine lk_cases (M := fun Z => Z.1 = 0 ∧ Fle P nl Z.2.1 S) hW m0 m1 hnl i0 i1 h0 hok hI (fun g => absurd E1 g) (fun n s l en es el e n0 n1 hst hl hj => ?_)
  rw [← E2, en] at E3 t5 t6
  rw [es] at E3
  rw [el] at E4
  have down : ∀ j, 0 ≤ j → j < P 0 m → flw P nl S j n (exs P m (P 1 (m * 120 + i)) (P 2 (m * 120 + i)) (P 3 (m * 120 + i)) (F.1 i) (S.2.1 i) (S.2.2 i)) (exl P m (P 1 (m * 120 + i)) (P 2 (m * 120 + i)) (P 3 (m * 120 + i)) (F.1 i) (S.2.1 i) (S.2.2 i)) → flw P nl S j n s l := by
    intro j j0 j1 hf
    obtain ⟨v1, v2, v3⟩ := hf
    exact ⟨v1, fun k k0 k1 => sbt.tr hW.1 (hst k k0 k1).2 (E3 k k0 k1) (v2 k k0 k1), fun k k0 k1 => sbt.tr hW.1 (hl k k0 k1) (E4 k k0 k1) (v3 k k0 k1)⟩
  have A1 : (ar1 P m nl i (P 1 (m * 120 + i)) F n s l).1 = 0 ∧ Fle P nl (ar1 P m nl i (P 1 (m * 120 + i)) F n s l).2.1 S ∧ IF P m nl (ar1 P m nl i (P 1 (m * 120 + i)) F n s l).2.1 := by
    unfold ar1
    by_cases g1 : gon (P 1 (m * 120 + i)) = true
    · obtain ⟨w1, w2⟩ := t5 g1
      rw [if_pos g1, if_pos w1]
      have w3 := down (i + 1) (by omega) w1 w2
      have := Fle_ar hW.1 hok hI.2.2 hle n0 hst hl (by omega) (by omega) w3 (hS _ _ _ _ w2 (by omega) w1 n0)
      exact ⟨this.1, this.2, IF_ar hW m0 m1 hok hI hst hl (by omega) (by omega) this.1⟩
    · rw [if_neg g1]
      exact ⟨rfl, hle, hI⟩
  unfold ar2
  by_cases gg : isj (P 1 (m * 120 + i)) = true
  · rw [if_pos ⟨A1.1, gg⟩]
    have w2 := t6 gg
    have hja := hj gg
    have w3 := down _ hja.1 hja.2 w2
    exact Fle_ar hW.1 (ar1_ok hW.1 hok n1 hst.ty hl A1.1) A1.2.2.2.2 A1.2.1 n0 hst hl hja.1 (by omega) w3 (hS _ _ _ _ w2 hja.1 hja.2 n0)
  · rw [if_neg (fun q => gg q.2)]
    exact ⟨A1.1, A1.2.1⟩
theorem rnd_le (hW : WFp P) (m0 : 0 ≤ m) (m1 : m < P 3001 0) (hnl : P 3017 m = nl) (hT : TyC P m nl (cdP P m) S) : ∀ (r : Nat) (i : Int) (F : Fl) (c : Bool), 0 ≤ i → i + r = P 0 m → Fok P nl F → IF P m nl F → Fle P nl F S → (rnd P m nl r i F c).1 = 0 ∧ Fle P nl (rnd P m nl r i F c).2.2.1 S
  | 0, i, F, c, i0, hi, h, hI, hl => ⟨rfl, hl⟩
  | r + 1, i, F, c, i0, hi, h, hI, hl => by
    simp only [rnd]
    by_cases g : F.1 i < 0
    · rw [if_pos g]
      exact rnd_le hW m0 m1 hnl hT r (i + 1) F c (by omega) (by omega) h hI hl
    · rw [if_neg g]
      have B := lk_le hW m0 m1 hnl i0 (by omega) (by omega) h hI hT hl
      rw [if_pos B.1]
      exact rnd_le hW m0 m1 hnl hT r (i + 1) _ _ (by omega) (by omega) (lk_ok hW m0 m1 hnl i0 (by omega) (by omega) h B.1) (IF_lk hW m0 m1 hnl i0 (by omega) (by omega) h hI B.1) B.2
theorem itr_le (hW : WFp P) (m0 : 0 ≤ m) (m1 : m < P 3001 0) (hnl : P 3017 m = nl) (hT : TyC P m nl (cdP P m) S) : ∀ (n : Nat) (F : Fl) (R : Int × Int × Fl), Fok P nl F → IF P m nl F → Fle P nl F S → itr P m nl n F = some R → R.1 = 0 ∧ Fle P nl R.2.2 S
  | 0, F, R, _, _, _, h => by cases h
  | n + 1, F, R, hok, hI, hl, h => by
    obtain ⟨-, -, -, -, -, q6, -⟩ := hW.2.2.2 m m0 m1
    have hr := rnd_ok hW m0 m1 hnl (P 0 m).toNat 0 F false (by omega) (by omega) hok
    have hi := rnd_if hW m0 m1 hnl (P 0 m).toNat 0 F false (by omega) (by omega) hok hI
    have hs := rnd_le hW m0 m1 hnl hT (P 0 m).toNat 0 F false (by omega) (by omega) hok hI hl
    simp only [itr] at h
    generalize rnd P m nl (P 0 m).toNat 0 F false = Z at h hr hi hs
    rw [if_pos hs.1] at h
    by_cases g2 : Z.2.2.2 = true
    · rw [if_pos g2] at h
      exact itr_le hW m0 m1 hnl hT n _ R hr hi hs.2 h
    · rw [if_neg g2] at h
      have h := Option.some.inj h
      subst h
      exact ⟨rfl, hs.2⟩
/-- a code with a typing has no fault -/
theorem res_le (hW : WFp P) (m0 : 0 ≤ m) (m1 : m < P 3001 0) (hT : TyC P m (P 3017 m) (cdP P m) S) : (res P m).1 = 0 ∧ Fle P (P 3017 m) (res P m).2.2 S := by
  refine itr_le hW m0 m1 rfl hT 50000 (Fi P m) (res P m) (Fi_ok hW m0 m1) (Fi_if hW m0 m1) (fun i i0 i1 hi => ?_) (res_e hW m0 m1)
  by_cases g : i = 0
  · subst g
    refine ⟨by simp only [Fi, if_true]; exact hT.1, fun k k0 k1 => ?_, hT.2.1⟩
    simp [Fi] at k1
    omega
  · simp [Fi, g] at hi
end FIX
