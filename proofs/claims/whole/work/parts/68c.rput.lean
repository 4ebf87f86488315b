/-! the reference: codes are laid, leaves put in -/
def nwA : List Nat := [10053, 10054, 10055, 10056, 10057, 10058, 10059]
def nwR (σ : j3_S) (X : Sx) : Prop := σ.1 10061 121 = X.n ∧ ∀ i, 0 ≤ i → i < X.n → σ.2.2 10053 121 i = X.op i ∧ σ.2.2 10054 121 i = X.a i ∧ σ.2.2 10055 121 i = X.b i ∧ (isj (X.op i) = true → ¬ σ.2.2 10059 121 i = 0) ∧ σ.2.2 10057 121 i = X.o1 i ∧ ((X.o2 i = -1 ∧ σ.2.2 10056 121 i = 1) ∨ (¬ X.o2 i = -1 ∧ σ.2.2 10056 121 i = 2 ∧ σ.2.2 10058 121 i = X.o2 i))
def mfA : List Nat := [10025, 10026, 10027, 10028, 10029, 10030, 10031, 10032]
/-- only the method m of the third slot changes, and what is named -/
def mF (m : Int) (li la : List Nat) (σ σ' : j3_S) : Prop := frm li (la ++ mfA) σ σ' ∧ (∀ e, cd6.elem e = true → ∀ z, z < 19200 + 120 * m ∨ 19200 + 120 * m + 120 ≤ z → σ'.2.2 e 121 z = σ.2.2 e 121 z) ∧ ∀ z, ¬ z = 160 + m → σ'.2.2 10025 121 z = σ.2.2 10025 121 z ∧ σ'.2.2 10026 121 z = σ.2.2 10026 121 z
section RPUT
variable {σ σ' σ'' σ0 : j3_S} {P : Pg} {T : Int → Fl} {R : Rs} {X : Sx} {m i u a b t bud op x l0 cp x1 x2 x3 x4 x5 x6 x7 v : Int} {d : Nat} {Q : j3_P} {c : Int → Int} {st : Int → Int} {li la : List Nat}
theorem mF.rf : mF m li la σ σ := ⟨frm.rf, fun _ _ _ _ => rfl, fun _ _ => ⟨rfl, rfl⟩⟩
theorem mF.tr (h : mF m li la σ σ') (h' : mF m li la σ' σ'') : mF m li la σ σ'' := ⟨h.1.tr h'.1, fun e he z hz => (h'.2.1 e he z hz).trans (h.2.1 e he z hz), fun z hz => ⟨(h'.2.2 z hz).1.trans (h.2.2 z hz).1, (h'.2.2 z hz).2.trans (h.2.2 z hz).2⟩⟩
theorem mF.wd {li' la' : List Nat} (h : mF m li la σ σ') (h1 : li.all (fun e => li'.elem e) = true) (h2 : la.all (fun e => la'.elem e) = true) : mF m li' la' σ σ' := by
  refine ⟨h.1.wd (sub_el h1) (sub_el ?_), h.2⟩
  rw [List.all_append, Bool.and_eq_true]
  refine ⟨List.all_eq_true.2 (fun e he => ?_), List.all_eq_true.2 (fun e he => ?_)⟩
  · have := List.all_eq_true.1 h2 e he
    simp only [List.elem_eq_mem, decide_eq_true_eq, List.mem_append] at this ⊢
    exact Or.inl this
  · simp only [List.elem_eq_mem, decide_eq_true_eq, List.mem_append]
    exact Or.inr he
theorem mF.of (h : frm li la σ σ') (hd : mfA.all (fun e => !la.elem e) = true) : mF m li la σ σ' := by
  have k : ∀ e, mfA.elem e = true → la.elem e = false := fun e he => by
    have := List.all_eq_true.1 hd e (by simpa using he)
    simpa using this
  refine ⟨h.wd (fun _ q => q) (fun e q => ?_), fun e he z _ => ?_, fun z _ => ⟨by rw [h.2.2 10025 121 (k _ rfl)], by rw [h.2.2 10026 121 (k _ rfl)]⟩⟩
  · cases hb : la.elem e
    · rfl
    · have : (la ++ mfA).elem e = true := by
        simp only [List.elem_eq_mem, decide_eq_true_eq, List.mem_append] at hb ⊢
        exact Or.inl hb
      rw [this] at q; cases q
  · rw [h.2.2 e 121 (k e (by
      simp only [cd6, List.elem_eq_mem, decide_eq_true_eq, List.mem_cons, List.not_mem_nil, or_false] at he
      rcases he with rfl | rfl | rfl | rfl | rfl | rfl <;> rfl))]
theorem stF.mF (h : stF li la (19200 + 120 * m) σ σ') (hd : mfA.all (fun e => !la.elem e) = true) : mF m li la σ σ' := by
  have k : ∀ e, mfA.elem e = true → la.elem e = false := fun e he => by
    have := List.all_eq_true.1 hd e (by simpa using he)
    simpa using this
  have k2 : ∀ e, la.elem e = false → cd6.elem e = false → (la ++ cd6).elem e = false := by
    intro e q1 q2
    cases hb : (la ++ cd6).elem e
    · rfl
    · simp only [List.elem_eq_mem, decide_eq_true_eq, List.mem_append, decide_eq_false_iff_not] at hb q1 q2
      rcases hb with hb | hb
      · exact absurd hb q1
      · exact absurd hb q2
  refine ⟨h.1.wd (fun _ q => q) (fun e q => ?_), h.2, fun z _ => ⟨by rw [h.1.2.2 10025 121 (k2 _ (k _ rfl) rfl)], by rw [h.1.2.2 10026 121 (k2 _ (k _ rfl) rfl)]⟩⟩
  cases hb : (la ++ cd6).elem e
  · rfl
  · have : (la ++ mfA).elem e = true := by
      simp only [List.elem_eq_mem, decide_eq_true_eq, List.mem_append] at hb ⊢
      rcases hb with hb | hb
      · exact Or.inl hb
      · right
        simp only [cd6, List.mem_cons, List.not_mem_nil, or_false] at hb
        rcases hb with rfl | rfl | rfl | rfl | rfl | rfl <;> decide
    rw [this] at q; cases q
theorem mF.s2 (h : mF m li la σ σ') (m0 : 0 ≤ m) (hd : s2A.all (fun e => !la.elem e) = true) : s2F li la σ σ' := by
  refine ⟨h.1.wd (fun _ q => q) (fun e q => ?_), fun e he z hz => ?_⟩
  · cases hb : (la ++ mfA).elem e
    · rfl
    · have : (la ++ s2A).elem e = true := by
        simp only [List.elem_eq_mem, decide_eq_true_eq, List.mem_append] at hb ⊢
        rcases hb with hb | hb
        · exact Or.inl hb
        · right
          simp only [mfA, List.mem_cons, List.not_mem_nil, or_false] at hb
          rcases hb with rfl | rfl | rfl | rfl | rfl | rfl | rfl | rfl <;> decide
      rw [this] at q; cases q
  · by_cases g : mfA.elem e = true
    · simp only [mfA, List.elem_eq_mem, decide_eq_true_eq, List.mem_cons, List.not_mem_nil, or_false] at g
      rcases g with rfl | rfl | rfl | rfl | rfl | rfl | rfl | rfl
      · have hz' : z < 2 * 80 := hz
        exact (h.2.2 z (by omega)).1
      · have hz' : z < 2 * 80 := hz
        exact (h.2.2 z (by omega)).2
      all_goals (have hz' : z < 2 * 9600 := hz; exact h.2.1 _ rfl z (by omega))
    · have h1 := List.all_eq_true.1 hd e (by simpa using he)
      rw [h.1.2.2 e 121]
      cases hb : (la ++ mfA).elem e
      · rfl
      · simp only [List.elem_eq_mem, decide_eq_true_eq, List.mem_append] at hb g
        rcases hb with hb | hb
        · simp [hb] at h1
        · exact absurd hb g
theorem s198 (hx : nwR σ X) (n0 : 0 ≤ X.n) (n1 : X.n < 240) (h4 : x4 = 0 ∨ x4 = 1) (hj : isj x1 = true → x4 = 1) (hv : (v = -1 ∧ x5 = 1) ∨ (¬ v = -1 ∧ x5 = 2 ∧ x7 = v)) (hQ : ∀ σ', frm [10061] nwA σ σ' → nwR σ' (adS X x1 x2 x3 x6 v) → Q none σ') : j3_tc true (d + 1) 198 [wO 10 121, wI x1, wI x2, wI x3, wI x4, wI x5, wI x6, wI x7] σ Q := by
  rw [e198, b198_0, hx.1, wr_id (by omega) (by omega)]
  refine ⟨by omega, by omega, by omega, h4, by omega, by omega, by omega, by omega, hQ _ (frm.I rfl (frm.A rfl (frm.A rfl (frm.A rfl (frm.A rfl (frm.A rfl (frm.A rfl (frm.A rfl frm.rf)))))))) ⟨by simp only [up_r]; rfl, fun i i0 i1 => ?_⟩⟩
  have i1' : i < X.n + 1 := i1
  simp only [j3_ast]
  rw [up_e rfl, up_e rfl, up_e rfl, up_e rfl, up_e rfl, up_e rfl, up_r]
  rw [up_e rfl, up_e rfl, up_e rfl, up_e rfl, up_e rfl, up_r, up_e rfl]
  rw [up_e rfl, up_e rfl, up_e rfl, up_e rfl, up_r, up_e rfl, up_e rfl]
  rw [up_e rfl, up_e rfl, up_e rfl, up_r, up_e rfl, up_e rfl, up_e rfl]
  rw [up_e rfl, up_r, up_e rfl, up_e rfl, up_e rfl, up_e rfl, up_e rfl]
  rw [up_e rfl, up_e rfl, up_r, up_e rfl, up_e rfl, up_e rfl, up_e rfl]
  rw [up_r, up_e rfl, up_e rfl, up_e rfl, up_e rfl, up_e rfl, up_e rfl]
  have sp1 : (adS X x1 x2 x3 x6 v).op i = i_up X.op X.n x1 i := rfl
  have sp2 : (adS X x1 x2 x3 x6 v).a i = i_up X.a X.n x2 i := rfl
  have sp3 : (adS X x1 x2 x3 x6 v).b i = i_up X.b X.n x3 i := rfl
  have sp4 : (adS X x1 x2 x3 x6 v).o1 i = i_up X.o1 X.n x6 i := rfl
  have sp5 : (adS X x1 x2 x3 x6 v).o2 i = i_up X.o2 X.n v i := rfl
  rw [sp1, sp2, sp3, sp4, sp5]
  by_cases g : i = X.n
  · subst g
    simp only [iu_r]
    refine ⟨trivial, trivial, trivial, fun q => ?_, trivial, ?_⟩
    · have := hj q; omega
    · exact hv
  · simp only [iu_n g]
    exact hx.2 i i0 (by omega)
theorem l201a (m0 : 0 ≤ m) (m1 : m < 80) (i0 : 0 ≤ i) (i1 : i < 120) (l00 : 0 ≤ l0) (l01 : l0 ≤ 20) : ∀ (k : Nat) (σ : j3_S) (X : Sx), k ≤ 3 → 0 ≤ X.n → X.n + k ≤ 200 → frm [10061] nwA σ0 σ → nwR σ X → (∀ σ', frm [10061] nwA σ0 σ' → nwR σ' (stoS l0 (m * 1000 + i) k X) → T201 (d + 1) Q 35 [wO 10 121, wI m, wI i, wI u, wI l0, wI 0, wM 2, wM 2] [] σ') → T201 (d + 1) Q 14 [wO 10 121, wI m, wI i, wI u, wI l0, wI ((k : Int) - 1), wM 2, wM 2] [] σ
  | 0, σ, X, hk, n0, n1, hf, hx, hQ => by
    rw [b201_14, if_pos (by omega)]
    exact hQ σ hf hx
  | k + 1, σ, X, hk, n0, n1, hf, hx, hQ => by
    rw [b201_14, if_neg (by push_cast; omega), wr_id (z := l0 + (((k + 1 : Nat) : Int) - 1)) (by push_cast; omega) (by push_cast; omega), wr_id (z := 1000 * m) (by omega) (by omega), wr_id (z := 1000 * m + i) (by omega) (by omega)]
    refine s198 (v := -1) hx n0 (by push_cast at n1; omega) (Or.inl rfl) (fun q => absurd q (by decide)) (Or.inl ⟨rfl, rfl⟩) (fun σ1 f1 h1 => ?_)
    simp only [Option.toList_none, List.nil_append]
    rw [b201_31, wr_id (by push_cast; omega) (by push_cast; omega), show ((k + 1 : Nat) : Int) - 1 + -1 = (k : Int) - 1 by push_cast; omega]
    rw [show l0 + (((k + 1 : Nat) : Int) - 1) = l0 + k by push_cast; omega, show 1000 * m + i = m * 1000 + i by omega] at h1
    exact l201a m0 m1 i0 i1 l00 l01 k σ1 _ (by omega) (by show 0 ≤ X.n + 1; omega) (by show X.n + 1 + k ≤ 200; push_cast at n1; omega) (hf.tr f1) h1 hQ
theorem l201b (hB : gbR σ0 P T R) (hg : good P) (hpr : prg P) (hl : ∀ j, 0 ≤ j → j < P 0 u - 1 → plnB (P 1 (u * 120 + j)) = true) (u0 : 0 ≤ u) (u1 : u < P 3001 0) (m0 : 0 ≤ m) (m1 : m < 80) (i0 : 0 ≤ i) (i1 : i < 120) (l00 : 0 ≤ l0) (l01 : l0 + P 3017 u ≤ 20) : ∀ (k : Nat) (j : Int) (w6 w7 : j3_W) (σ : j3_S) (X : Sx), j + k = P 0 u - 1 → 0 ≤ j → 0 ≤ X.n → X.n + k ≤ 200 → frm [10061] nwA σ0 σ → nwR σ X → (∀ σ' w6 w7, frm [10061] nwA σ0 σ' → nwR σ' (bodS P u l0 (m * 1000 + i) k j X) → T201 (d + 1) Q 35 [wO 10 121, wI m, wI i, wI u, wI l0, wI (P 0 u - 1), w6, w7] [] σ') → T201 (d + 1) Q 35 [wO 10 121, wI m, wI i, wI u, wI l0, wI j, w6, w7] [] σ
  | 0, j, w6, w7, σ, X, hj, j0, n0, n1, hf, hx, hQ => by
    rw [show j = P 0 u - 1 by omega]
    exact hQ σ w6 w7 hf hx
  | k + 1, j, w6, w7, σ, X, hj, j0, n0, n1, hf, hx, hQ => by
    have h80 := hg.1.2.1.2.1
    have hB' : gbR σ P T R := hB.fr hg.1 (s2F.of hf rfl) rfl ⟨rfl, rfl, rfl, rfl⟩
    obtain ⟨-, -, -, -, -, q6, q7⟩ := hg.1.2.2.2 u u0 u1
    obtain ⟨c1, -, c3⟩ := hB'.1.2.2.2 u u0 u1
    have e26 := c1.2.2.2.2.2.2
    rw [show 80 * 0 + u = u by omega] at e26
    obtain ⟨e1, e2, e3⟩ := c3 j j0 (by omega)
    have ik := q7 j j0 (by omega)
    have pl := hl j j0 (by omega)
    have hp2 := hpr u j u0 u1 j0 (by omega)
    rw [b201_35, e26, wr_id (z := P 0 u - 1) (by omega) (by omega), if_pos (by omega), s160 (by omega) (by omega) u0 (by omega) j0 (by omega)]
    refine ⟨by omega, ?_⟩
    simp only [Option.toList_some, List.cons_append, List.nil_append]
    have key : ∀ v : Int, (v = 0 ∧ ¬ (P 1 (u * 120 + j) = 2 ∨ P 1 (u * 120 + j) = 3)) ∨ (v = 1 ∧ (P 1 (u * 120 + j) = 2 ∨ P 1 (u * 120 + j) = 3)) → T201 (d + 1) Q 63 [wO 10 121, wI m, wI i, wI u, wI l0, wI j, wI (9600 * 0 + 120 * u + j), w7] [wI v] σ := by
      intro v hv
      have fin : ∀ y v', y = (if P 1 (u * 120 + j) = 2 ∨ P 1 (u * 120 + j) = 3 then l0 else 0) → T201 (d + 1) Q 78 [wO 10 121, wI m, wI i, wI u, wI l0, wI j, wI (9600 * 0 + 120 * u + j), wI v'] [wI y, wI (P 2 (u * 120 + j)), wI (P 1 (u * 120 + j)), wO 10 121] σ := by
        intro y v' hy
        have ew : wr (P 2 (u * 120 + j) + y) = P 2 (u * 120 + j) + (if P 1 (u * 120 + j) = 2 ∨ P 1 (u * 120 + j) = 3 then l0 else 0) := by
          rw [hy]
          by_cases g : P 1 (u * 120 + j) = 2 ∨ P 1 (u * 120 + j) = 3
          · have := ik.2.2.1 g
            rw [if_pos g, wr_id (by omega) (by omega)]
          · unfold rg at hp2
            rw [if_neg g, wr_id (by omega) (by omega)]
        rw [b201_78, e3, ew, wr_id (z := 1000 * u) (by omega) (by omega), wr_id (z := 1000 * u + j) (by omega) (by omega), wr_id (z := 1000 * m) (by omega) (by omega), wr_id (z := 1000 * m + i) (by omega) (by omega)]
        refine ⟨by omega, ?_⟩
        refine s198 (v := m * 1000 + i) hx n0 (by push_cast at n1; omega) (Or.inl rfl) (fun q => by rw [(pln_f pl).2.1] at q; cases q) (Or.inr ⟨by omega, rfl, by omega⟩) (fun σ1 f1 h1 => ?_)
        simp only [Option.toList_none, List.nil_append]
        rw [b201_96, wr_id (by omega) (by omega)]
        rw [show 1000 * u + j = u * 1000 + j by omega] at h1
        exact l201b hB hg hpr hl u0 u1 m0 m1 i0 i1 l00 l01 k (j + 1) _ _ σ1 _ (by omega) (by omega) (by show 0 ≤ X.n + 1; omega) (by show X.n + 1 + k ≤ 200; push_cast at n1; omega) (hf.tr f1) h1 hQ
      rw [b201_63, e1, e2]
      refine ⟨by omega, by omega, ?_⟩
      rcases hv with ⟨rfl, g⟩ | ⟨rfl, g⟩
      · rw [if_pos rfl]
        exact fin 0 _ (by rw [if_neg g])
      · rw [if_neg (by decide)]
        exact fin l0 _ (by rw [if_pos g])
    rw [b201_47, e1]
    refine ⟨by omega, ?_⟩
    by_cases g2 : P 1 (u * 120 + j) = 2
    · rw [if_pos g2, b201_60]; exact key 1 (Or.inr ⟨rfl, Or.inl g2⟩)
    · rw [if_neg g2]
      refine ⟨by omega, ?_⟩
      by_cases g3 : P 1 (u * 120 + j) = 3
      · rw [if_pos g3, b201_60]; exact key 1 (Or.inr ⟨rfl, Or.inr g3⟩)
      · rw [if_neg g3]; exact key 0 (Or.inl ⟨rfl, by omega⟩)
theorem s201 (hB : gbR σ P T R) (hg : good P) (hpr : prg P) (hl : lfT P u (T u)) (u0 : 0 ≤ u) (u1 : u < P 3001 0) (m0 : 0 ≤ m) (m1 : m < 80) (i0 : 0 ≤ i) (i1 : i < 120) (h25 : σ.2.2 10025 121 (160 + m) = l0) (l00 : 0 ≤ l0) (l01 : l0 + P 3017 u ≤ 20) (hx : nwR σ X) (n0 : 0 ≤ X.n) (n1 : X.n + P 3015 u + (P 0 u - 1) ≤ 120) (hQ : ∀ σ', mF m [10061] nwA σ σ' → nwR σ' (puS P u l0 (m * 1000 + i) X) → σ'.2.2 10025 121 (160 + m) = l0 + P 3017 u → σ'.2.2 10026 121 = σ.2.2 10026 121 → (∀ e, cd6.elem e = true → σ'.2.2 e 121 = σ.2.2 e 121) → Q none σ') : j3_tc true (d + 2) 201 [wO 10 121, wI m, wI i, wI u] σ Q := by
  have h80 := hg.1.2.1.2.1
  obtain ⟨-, pst, -, q4, q5, q6, q7⟩ := hg.1.2.2.2 u u0 u1
  obtain ⟨c1, -, c3⟩ := hB.1.2.2.2 u u0 u1
  have e23 := c1.2.2.2.2.1
  rw [show 80 * 0 + u = u by omega] at e23
  rw [e201, b201_0, wr_id (z := 160 + m) (by omega) (by omega), h25, e23, wr_id (by omega) (by omega)]
  refine ⟨by omega, by omega, ?_⟩
  have ek : (((P 3015 u).toNat : Nat) : Int) = P 3015 u := by omega
  rw [← ek]
  have en := (sto_c (l0 := l0) (cp := m * 1000 + i) (P 3015 u).toNat X).1
  refine l201a (σ0 := σ) m0 m1 i0 i1 l00 (by omega) (P 3015 u).toNat σ X (by omega) n0 (by omega) frm.rf hx (fun σ1 f1 x1 => ?_)
  refine l201b (σ0 := σ) hB hg hpr hl.2.2.1 u0 u1 m0 m1 i0 i1 l00 l01 (P 0 u - 1).toNat 0 _ _ σ1 _ (by omega) (by omega) (by rw [en]; omega) (by rw [en]; omega) f1 x1 (fun σ2 w6 w7 f2 x2 => ?_)
  have hB' : gbR σ2 P T R := hB.fr hg.1 (s2F.of f2 rfl) rfl ⟨rfl, rfl, rfl, rfl⟩
  obtain ⟨c1', -⟩ := hB'.1.2.2.2 u u0 u1
  have e25' := c1'.2.2.2.2.2.1
  have e26' := c1'.2.2.2.2.2.2
  rw [show 80 * 0 + u = u by omega] at e25' e26'
  have h25' : σ2.2.2 10025 121 (160 + m) = l0 := by rw [f2.2.2 10025 121 rfl]; exact h25
  rw [b201_35, e26', wr_id (z := P 0 u - 1) (by omega) (by omega), if_neg (by omega), wr_id (z := 160 + m) (by omega) (by omega), h25', e25', wr_id (by omega) (by omega)]
  refine ⟨by omega, by omega, by omega, by omega, ?_⟩
  have f25 : mF m [10061] nwA σ2 (σ2.1, σ2.2.1, j3_ast σ2.2.2 10025 121 (160 + m) (l0 + P 3017 u)) := by
    refine ⟨frm.A rfl frm.rf, fun e he z hz => ?_, fun z hz => ⟨?_, ?_⟩⟩
    · simp only [cd6, List.elem_eq_mem, decide_eq_true_eq, List.mem_cons, List.not_mem_nil, or_false] at he
      show j3_up σ2.2.2 10025 121 _ e 121 z = _
      rcases he with rfl | rfl | rfl | rfl | rfl | rfl <;> rw [up_e rfl]
    · show j3_up σ2.2.2 10025 121 (i_up (σ2.2.2 10025 121) (160 + m) (l0 + P 3017 u)) 10025 121 z = _
      rw [up_r, iu_n hz]
    · show j3_up σ2.2.2 10025 121 (i_up (σ2.2.2 10025 121) (160 + m) (l0 + P 3017 u)) 10026 121 z = _
      rw [up_e rfl]
  refine hQ _ ((mF.of f2 rfl).tr f25) ⟨x2.1, fun j j0 j1 => ?_⟩ ?_ ?_ (fun e he => ?_)
  · have := x2.2 j j0 j1
    simp only [j3_ast]
    rw [up_e rfl, up_e rfl, up_e rfl, up_e rfl, up_e rfl, up_e rfl, up_e rfl]
    exact this
  · show j3_up σ2.2.2 10025 121 (i_up (σ2.2.2 10025 121) (160 + m) (l0 + P 3017 u)) 10025 121 (160 + m) = _
    rw [up_r, iu_r]
  · show j3_up σ2.2.2 10025 121 (i_up (σ2.2.2 10025 121) (160 + m) (l0 + P 3017 u)) 10026 121 = _
    rw [up_e rfl, f2.2.2 10026 121 rfl]
  · simp only [cd6, List.elem_eq_mem, decide_eq_true_eq, List.mem_cons, List.not_mem_nil, or_false] at he
    show j3_up σ2.2.2 10025 121 _ e 121 = _
    rcases he with rfl | rfl | rfl | rfl | rfl | rfl <;> rw [up_e rfl, f2.2.2 _ 121 rfl]
end RPUT
