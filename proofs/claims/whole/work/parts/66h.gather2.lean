/-! a method's code gathered: it is typed -/
def clF (n : Int) (F : Fl) : Fl := ((fun i => if 0 ≤ i ∧ i < n then F.1 i else -1), F.2.1, F.2.2)
section GATHER2
variable {P : Pg} {T : Int → Fl} {R : Rs} {L : Int → Int} {m i j u a b t bud op l tot nl n : Int} {S : Ga} {F : Fl}
theorem leaf_of (hT : typed P T) (hW : WFp P) (u0 : 0 ≤ u) (u1 : u < P 3001 0) (h : leafB P T bud u = true) : lfT P u (T u) ∧ P 0 u ≤ bud := by
  unfold leafB at h
  simp only [Bool.and_eq_true, decide_eq_true_eq, Bool.not_eq_true', decide_eq_false_iff_not] at h
  obtain ⟨⟨⟨⟨⟨h1, h2⟩, h3⟩, h4⟩, h5⟩, h6⟩ := h
  have hp := (hW.2.2.2 u u0 u1).2.2.2.1.1
  refine ⟨⟨⟨h1, hp, h2⟩, hT u u0 u1, fun j j0 j1 => ?_, h5, h6⟩, h3⟩
  by_cases g : plnB (P 1 (u * 120 + j)) = true
  · exact g
  · have : anyS (fun j => !plnB (P 1 (u * 120 + j))) (P 0 u - 1).toNat = true := (any_iff _).2 ⟨j, j0, by omega, by simpa using g⟩
    rw [this] at h4; cases h4
theorem putB_of (h : grR P T R) (m0 : 0 ≤ m) (m1 : m < P 3001 0) (hm : R.1 m = 1) (i0 : 0 ≤ i) (i1 : i < P 0 m) (hp : putB P T R.2.1 bud m i S = true) : isB P T R.2.1 m i = false ∧ P 1 (m * 120 + i) = 20 ∧ 0 ≤ (T m).1 i ∧ ∃ u, P 3007 (bA P T R.2.1 m i) + bB P T R.2.1 m i = u ∧ P 3007 (P 2 (m * 120 + i)) + P 3 (m * 120 + i) = u ∧ (0 ≤ u ∧ u < P 3001 0) ∧ R.1 u = 1 ∧ lfT P u (T u) ∧ P 0 u ≤ bud ∧ S.2.1 + P 3017 u ≤ 20 ∧ S.2.2.1 + (P 3015 u + P 0 u - 2) ≤ 120 ∧ ∀ j, 0 ≤ j → j < P 0 u → (T m).1 i - P 3015 u + (T u).1 j ≤ 10 := by
  have hW := h.1.1.1
  unfold putB at hp
  simp only [Bool.and_eq_true, decide_eq_true_eq] at hp
  obtain ⟨⟨⟨p1, p2⟩, p3⟩, p4⟩ := hp
  by_cases g : isB P T R.2.1 m i = true
  · exfalso
    obtain ⟨w, e, -, e2, -, -, -, st, -⟩ := isB_of h m0 m1 hm i0 i1 g
    have ea : bA P T R.2.1 m i = P 3011 w := by unfold bA; rw [if_pos g, e]
    have eb : bB P T R.2.1 m i = w - P 3007 (P 3011 w) := by unfold bB; rw [if_pos g, e]
    rw [ea, eb, e2] at p3
    unfold leafB at p3
    simp [st] at p3
  · have eo : bO P T R.2.1 m i = P 1 (m * 120 + i) := by unfold bO; rw [if_neg g]
    have ea : bA P T R.2.1 m i = P 2 (m * 120 + i) := by unfold bA; rw [if_neg g]
    have eb : bB P T R.2.1 m i = P 3 (m * 120 + i) := by unfold bB; rw [if_neg g]
    rw [eo] at p1
    rw [ea, eb] at p3 p4
    have ik := (hW.2.2.2 m m0 m1).2.2.2.2.2.2 i i0 i1
    have ca := ik.2.2.2.2.1 (by omega)
    have cb := ik.2.2.2.2.2.2 (by omega)
    have hm3 := hW.2.1.2.2 _ ca.1 ca.2
    have hw := (WR_own h m0 m1 hm i0 i1 p2).2.2.2.2.1 p1
    generalize hu : P 3007 (P 2 (m * 120 + i)) + P 3 (m * 120 + i) = u at *
    obtain ⟨l1, l2⟩ := leaf_of h.1.2 hW (by omega) (by omega) p3
    unfold roomB at p4
    simp only [Bool.and_eq_true, decide_eq_true_eq, Bool.not_eq_true'] at p4
    refine ⟨by simpa using g, p1, p2, u, by rw [ea, eb]; exact hu, rfl, by omega, hw, l1, l2, p4.1.1, p4.1.2, fun j j0 j1 => ?_⟩
    by_cases gg : (T m).1 i - P 3015 u + (T u).1 j ≤ 10
    · exact gg
    · have : anyS (fun j => decide (10 < (T m).1 i - P 3015 u + (T u).1 j)) (P 0 u).toNat = true := (any_iff _).2 ⟨j, j0, by omega, decide_eq_true (by omega)⟩
      rw [this] at p4; cases p4.2
/-- counts while it is gathered -/
theorem gs_v (h : grR P T R) (m0 : 0 ≤ m) (m1 : m < P 3001 0) (hm : R.1 m = 1) : ∀ k : Nat, (k : Int) ≤ P 0 m → (0 ≤ (gsN P T R.2.1 bud m k).1.n ∧ (gsN P T R.2.1 bud m k).1.n + (P 0 m - k) = (gsN P T R.2.1 bud m k).2.2.1) ∧ (gsN P T R.2.1 bud m k).2.2.1 ≤ 120 ∧ P 3017 m ≤ (gsN P T R.2.1 bud m k).2.1 ∧ (gsN P T R.2.1 bud m k).2.1 ≤ 20 ∧ 0 ≤ (gsN P T R.2.1 bud m k).2.2.2.2 ∧ (gsN P T R.2.1 bud m k).2.2.2.2 ≤ k
  | 0, _ => by
    obtain ⟨-, -, -, -, q5, q6, -⟩ := h.1.1.1.2.2.2 m m0 m1
    refine ⟨⟨?_, ?_⟩, ?_, ?_, ?_, ?_, ?_⟩
    · show (0 : Int) ≤ 0; omega
    · show (0 : Int) + (P 0 m - 0) = P 0 m; omega
    · show P 0 m ≤ 120; omega
    · show P 3017 m ≤ P 3017 m; omega
    · show P 3017 m ≤ 20; omega
    · show (0 : Int) ≤ 0; omega
    · show (0 : Int) ≤ 0; omega
  | k + 1, hk => by
    obtain ⟨⟨a1, a2⟩, a3, a4, a5, a6, a7⟩ := gs_v h m0 m1 hm k (by omega)
    have e : gsN P T R.2.1 bud m (k + 1) = gs1 P T R.2.1 bud m k (gsN P T R.2.1 bud m k) := rfl
    rw [e]
    generalize gsN P T R.2.1 bud m k = S at *
    unfold gs1
    by_cases g : putB P T R.2.1 bud m k S = true
    · rw [if_pos g]
      obtain ⟨-, -, -, u, u1, -, ur, -, lf, -, r1, r2, -⟩ := putB_of h m0 m1 hm (by omega) (by omega) g
      rw [u1]
      have hp := (h.1.1.1.2.2.2 u ur.1 ur.2).2.2.2.2.1
      obtain ⟨⟨-, l1, l2⟩, -⟩ := lf
      have pc := (pu_c (l0 := S.2.1) (cp := m * 1000 + k) (X := S.1) l1 l2).1
      have pst := (h.1.1.1.2.2.2 u ur.1 ur.2).2.1
      dsimp only
      rw [pc]
      refine ⟨⟨by omega, by push_cast; omega⟩, by omega, by omega, by omega, by omega, by push_cast; omega⟩
    · rw [if_neg g]
      dsimp only
      have : (adS S.1 (bO P T R.2.1 m k) (bA P T R.2.1 m k) (bB P T R.2.1 m k) (m * 1000 + k) (-1)).n = S.1.n + 1 := rfl
      rw [this]
      refine ⟨⟨by omega, by push_cast; omega⟩, a3, a4, a5, a6, by push_cast; omega⟩
theorem gs_l (h : grR P T R) (m0 : 0 ≤ m) (m1 : m < P 3001 0) (hm : R.1 m = 1) {k : Nat} (hk : (k : Int) < P 0 m) : (gsN P T R.2.1 bud m k).2.1 ≤ (gsN P T R.2.1 bud m (k + 1)).2.1 := by
  have e : gsN P T R.2.1 bud m (k + 1) = gs1 P T R.2.1 bud m k (gsN P T R.2.1 bud m k) := rfl
  rw [e]
  generalize gsN P T R.2.1 bud m k = S at *
  unfold gs1
  by_cases g : putB P T R.2.1 bud m k S = true
  · rw [if_pos g]
    obtain ⟨-, -, -, u, u1, -, ur, -, lf, -⟩ := putB_of h m0 m1 hm (by omega) (by omega) g
    rw [u1]
    have hp := (h.1.1.1.2.2.2 u ur.1 ur.2).2.2.2.2.1
    have pst := (h.1.1.1.2.2.2 u ur.1 ur.2).2.1
    obtain ⟨⟨-, l1, l2⟩, -⟩ := lf
    dsimp only
    omega
  · rw [if_neg g]; exact Int.le_refl _
theorem ty_cl (n1 : 1 ≤ n) (C : Cd) (hC : C.1 = n) (hj : ∀ i, 0 ≤ i → i < n → isj (C.2.1 i) = true → 0 ≤ C.2.2.1 i ∧ C.2.2.1 i < n) (h : TyC P m nl C F) : TyC P m nl C (clF n F) := by
  obtain ⟨h1, h2, h3⟩ := h
  have e : ∀ x, 0 ≤ x → x < n → (clF n F).1 x = F.1 x := fun x x0 x1 => by
    show (if 0 ≤ x ∧ x < n then F.1 x else -1) = F.1 x
    rw [if_pos ⟨x0, x1⟩]
  refine ⟨by rw [e 0 (by omega) (by omega)]; exact h1, h2, fun i i0 i1 i2 => ?_⟩
  rw [e i i0 (by omega)] at i2
  obtain ⟨t1, t2, t3, t4⟩ := h3 i i0 i1 i2
  unfold TyI
  rw [e i i0 (by omega)]
  refine ⟨t1, t2, fun g => ⟨(t3 g).1, ?_⟩, fun g => ?_⟩
  · unfold flw
    rw [e (i + 1) (by omega) (by have := (t3 g).1; omega)]
    exact (t3 g).2
  · unfold flw
    have := hj i i0 (by omega) g
    rw [e _ this.1 this.2]
    exact t4 g
theorem gs_ty (h : grR P T R) (m0 : 0 ≤ m) (m1 : m < P 3001 0) (hm : R.1 m = 1) (hnl : (gaE P T R.2.1 bud m).2.1 = nl) : ∀ k : Nat, (k : Int) ≤ P 0 m → (gsN P T R.2.1 bud m k).2.1 ≤ nl → ∃ G, gaI P m nl (P 0 m) (WR P R) (exF (P 3017 m) (clF (P 0 m) (T m))) k (gsN P T R.2.1 bud m k).1 G (gsN P T R.2.1 bud m k).2.2.2.1
  | 0, _, _ => by
    refine ⟨((fun _ => -1), (fun _ _ => 0), fun _ _ => 0), ⟨⟨⟨?_, ?_⟩, fun j j0 j1 => absurd j1 (by omega), fun q _ => ?_⟩, fun q q0 q1 => absurd (show q < (0 : Int) from q1) (by omega), fun j q j0 j1 => absurd j1 (by omega), fun j j0 j1 => absurd j1 (by omega)⟩⟩
    · show (0 : Int) ≤ 0; omega
    · rfl
    · show (-1 : Int) < 0; omega
  | k + 1, hk, hl => by
    have lm := gs_l (bud := bud) h m0 m1 hm (k := k) (by omega)
    obtain ⟨G, hG⟩ := gs_ty h m0 m1 hm hnl k (by omega) (by omega)
    obtain ⟨⟨v1, v2⟩, v3, v4, v5, v6, v7⟩ := gs_v (bud := bud) h m0 m1 hm k (by omega)
    have hW := h.1.1.1
    obtain ⟨-, -, -, -, z5, z6, z7⟩ := hW.2.2.2 m m0 m1
    have ik := z7 k (by omega) (by omega)
    have tyF := ty_cl (n := P 0 m) (by omega) (cdP P m) rfl (fun i i0 i1 g => by
      have := (z7 i i0 i1).2.2.2.1
      have g' : 11 ≤ P 1 (m * 120 + i) ∧ P 1 (m * 120 + i) ≤ 14 := by simpa [isj] using (show isj (P 1 (m * 120 + i)) = true from g)
      exact this g') (h.1.2 m m0 m1)
    have ec : (clF (P 0 m) (T m)).1 k = (T m).1 k := by
      show (if 0 ≤ (k : Int) ∧ (k : Int) < P 0 m then (T m).1 k else -1) = _
      rw [if_pos ⟨by omega, by omega⟩]
    have tyI : 0 ≤ (T m).1 k → TyI P m (P 3017 m) (P 0 m) (P 1 (m * 120 + k)) (P 2 (m * 120 + k)) (P 3 (m * 120 + k)) k (clF (P 0 m) (T m)) := fun g => tyF.2.2 k (by omega) (by show (k : Int) < P 0 m; omega) (by rw [ec]; exact g)
    have e : gsN P T R.2.1 bud m (k + 1) = gs1 P T R.2.1 bud m k (gsN P T R.2.1 bud m k) := rfl
    rw [e] at hl ⊢
    generalize gsN P T R.2.1 bud m k = S at *
    unfold gs1 at hl ⊢
    by_cases g : putB P T R.2.1 bud m k S = true
    · rw [if_pos g] at hl ⊢
      obtain ⟨-, o20, met, u, u1, u2, ur, uR, lf, -, r1, r2, r3⟩ := putB_of h m0 m1 hm (by omega) (by omega) g
      rw [u1] at hl ⊢
      dsimp only at hl ⊢
      have ti := tyI met
      rw [o20] at ti
      refine ⟨_, ga_put (Fu := T u) (cp := m * 1000 + k) hW (fun op a b q0 q1 => WR_0 q0 q1) hG (by omega) (by rw [ec]; exact met) ti u2 ur.1 ur.2 lf (fun j j0 j1 => ?_) (fun j j0 j1 => ?_) v4 hl (by have := hW.2.2.2 m m0 m1; omega)⟩
      · exact WR_own h ur.1 ur.2 uR j0 (by omega) (lf_ty lf j0 (by omega)).1
      · rw [ec]; exact r3 j j0 j1
    · rw [if_neg g] at hl ⊢
      dsimp only at hl ⊢
      refine ⟨_, ga_one (u := m * 1000 + k) (v := -1) hG (by omega) ?_ ?_⟩
      · by_cases gb : isB P T R.2.1 m k = true
        · have eo : bO P T R.2.1 m k = 20 := by unfold bO; rw [if_pos gb]
          rw [eo]
          exact ⟨by omega, fun q => by omega, fun q => absurd q (by decide)⟩
        · have eo : bO P T R.2.1 m k = P 1 (m * 120 + k) := by unfold bO; rw [if_neg gb]
          have ea : bA P T R.2.1 m k = P 2 (m * 120 + k) := by unfold bA; rw [if_neg gb]
          rw [eo, ea]
          refine ⟨⟨ik.1, ik.2.1⟩, fun q => ?_, fun q => ?_⟩
          · have := ik.2.2.1 q
            omega
          · have g' : 11 ≤ P 1 (m * 120 + k) ∧ P 1 (m * 120 + k) ≤ 14 := by simpa [isj] using q
            exact ik.2.2.2.1 g'
      · intro hE
        have met : 0 ≤ (T m).1 k := by rw [← ec]; exact hE
        by_cases gb : isB P T R.2.1 m k = true
        · obtain ⟨w, we, wr, w2, ⟨w3, -⟩, wl, wc, ws, wR, wa, wb⟩ := isB_of h m0 m1 hm (by omega) (by omega) gb
          have eo : bO P T R.2.1 m k = 20 := by unfold bO; rw [if_pos gb]
          have ea : bA P T R.2.1 m k = P 3011 w := by unfold bA; rw [if_pos gb, we]
          have eb : bB P T R.2.1 m k = w - P 3007 (P 3011 w) := by unfold bB; rw [if_pos gb, we]
          rw [eo, ea, eb]
          have ti := tyI met
          rw [w3] at ti ik
          have hw := WR_own h m0 m1 hm (i := k) (by omega) (by omega) met
          refine ins_bnd hW ik ti wa.1 (hw.2.2.2.2.2 w3).1 (by rw [w2]; exact wl) wc ?_ hE
          refine ⟨fun _ => wa, fun q => by omega, fun _ => wb, fun q => by omega, fun _ => by rw [w2]; exact wR, fun q => by omega⟩
        · have eo : bO P T R.2.1 m k = P 1 (m * 120 + k) := by unfold bO; rw [if_neg gb]
          have ea : bA P T R.2.1 m k = P 2 (m * 120 + k) := by unfold bA; rw [if_neg gb]
          have eb : bB P T R.2.1 m k = P 3 (m * 120 + k) := by unfold bB; rw [if_neg gb]
          rw [eo, ea, eb]
          exact ins_own hW ik (tyI met) (WR_own h m0 m1 hm (by omega) (by omega) met) hE
/-- the whole of a method, gathered -/
theorem ga_all (h : grR P T R) (m0 : 0 ≤ m) (m1 : m < P 3001 0) (hm : R.1 m = 1) : okX (gaE P T R.2.1 bud m).2.1 (gaX P T R.2.1 bud m) ∧ (P 3017 m ≤ (gaE P T R.2.1 bud m).2.1 ∧ (gaE P T R.2.1 bud m).2.1 ≤ 20) ∧ (∀ i, 0 ≤ i → i < (gaE P T R.2.1 bud m).1.n → isj ((gaE P T R.2.1 bud m).1.op i) = true → 0 ≤ (gaE P T R.2.1 bud m).1.a i ∧ (gaE P T R.2.1 bud m).1.a i < P 0 m) ∧ ∃ G, SOk P m (gaE P T R.2.1 bud m).2.1 (WR P R) (gaX P T R.2.1 bud m) G := by
  have hW := h.1.1.1
  obtain ⟨z1, -, -, z4, z5, z6, z7⟩ := hW.2.2.2 m m0 m1
  have ek : (((P 0 m).toNat : Nat) : Int) = P 0 m := by omega
  have v := gs_v (bud := bud) h m0 m1 hm (P 0 m).toNat (by omega)
  obtain ⟨G, hG⟩ := gs_ty (bud := bud) (nl := (gaE P T R.2.1 bud m).2.1) h m0 m1 hm rfl (P 0 m).toNat (by omega) (Int.le_refl _)
  rw [ek] at v hG
  have e1 : gsN P T R.2.1 bud m (P 0 m).toNat = gaE P T R.2.1 bud m := rfl
  rw [e1] at v hG
  obtain ⟨⟨v1, v2⟩, v3, v4, v5, v6, v7⟩ := v
  have tyF := ty_cl (n := P 0 m) (by omega) (cdP P m) rfl (fun i i0 i1 g => by
    have := (z7 i i0 i1).2.2.2.1
    have g' : 11 ≤ P 1 (m * 120 + i) ∧ P 1 (m * 120 + i) ≤ 14 := by simpa [isj] using (show isj (P 1 (m * 120 + i)) = true from g)
    exact this g') (h.1.2 m m0 m1)
  have hP : 0 ≤ P 3000 0 := by have := hW.1.1; omega
  have iniT : ∀ nl, tys P nl (ini P m) := by
    intro nl x x0 x1
    unfold ini
    by_cases g1 : x < rcv P m
    · rw [if_pos g1]; exact ⟨by omega, by omega⟩
    · rw [if_neg g1]
      by_cases g2 : x < rcv P m + P 3015 m
      · rw [if_pos g2]
        have := z4.2.2 (x - rcv P m) (by omega) (by omega)
        unfold tyof tyo
        split <;> omega
      · rw [if_neg g2]; exact ⟨by omega, by omega⟩
  -- the last one is never put in
  have last : (gaE P T R.2.1 bud m).2.2.2.1 (P 0 m - 1) < (gaE P T R.2.1 bud m).1.n := by
    obtain ⟨k, hk⟩ : ∃ k : Nat, (P 0 m).toNat = k + 1 := ⟨(P 0 m - 1).toNat, by omega⟩
    have kk : (k : Int) = P 0 m - 1 := by omega
    unfold gaE
    rw [hk]
    have e : gsN P T R.2.1 bud m (k + 1) = gs1 P T R.2.1 bud m k (gsN P T R.2.1 bud m k) := rfl
    rw [e]
    generalize gsN P T R.2.1 bud m k = S
    unfold gs1
    by_cases g : putB P T R.2.1 bud m k S = true
    · exfalso
      obtain ⟨-, o20, met, -⟩ := putB_of h m0 m1 hm (by omega) (by omega) g
      have := (h.1.2 m m0 m1).2.2 k (by omega) (by show (k : Int) < P 0 m; omega) met
      have q := (this.2.2.1 (by show gon (P 1 (m * 120 + k)) = true; rw [o20]; rfl)).1
      have q' : (k : Int) + 1 < P 0 m := q
      omega
    · rw [if_neg g]
      show i_up S.2.2.2.1 k S.1.n (P 0 m - 1) < S.1.n + 1
      rw [← kk, iu_r]; omega
  have f := aim_ok (W := WR P R) (X := (gaE P T R.2.1 bud m).1) (st := (gaE P T R.2.1 bud m).2.2.2.1) hW.1 (fun op a b a' q w => WR_j q w) (by omega) (by omega) last (fun i hi => ?_) (fun i i0 i1 hi => ?_) ⟨?_, ?_⟩ (iniT _) hG
  · refine ⟨f.2.1, ⟨v4, v5⟩, fun i i0 i1 g => ?_, G, f.1⟩
    exact (hG.2.1 i i0 i1).2.2 g
  · show (if 0 ≤ i ∧ i < P 0 m then (T m).1 i else -1) < 0
    rw [if_neg (by omega)]; omega
  · have := tyF.2.2 i i0 i1 hi
    exact ⟨this.1.2.1, tys_ext hP this.1.2.2⟩
  · exact tyF.1
  · intro x x0 x1
    show sbt P (ini P m x) (if x < P 3017 m then (T m).2.2 0 x else 0)
    by_cases g : x < P 3017 m
    · rw [if_pos g]; exact tyF.2.1 x x0 g
    · rw [if_neg g]; exact Or.inr (Or.inl rfl)
end GATHER2
