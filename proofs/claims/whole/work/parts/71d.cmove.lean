/-! the codes come to their new places in the class -/
noncomputable def cA (P : Pg) (r : Rs) (XX : Int → Sx) (op a : Int) : Int := if op = 15 ∨ op = 24 ∨ op = 25 ∨ (16 ≤ op ∧ op ≤ 21) then nC P r XX a else a
noncomputable def cBf (P : Pg) (r : Rs) (XX : Int → Sx) (op a b : Int) : Int := if 16 ≤ op ∧ op ≤ 19 then nF P r XX a b else if op = 20 ∨ op = 21 then nM P r XX (P 3007 a + b) - nB (kM P r XX) (P 3007 a) else b
def lnK (r : Rs) (XX : Int → Sx) (m : Int) : Int := if r.1 m = 1 then (XX m).n else 1
/-- the code of a method that is kept -/
def spK (P : Pg) (r : Rs) (XX : Int → Sx) (A : Pg) (m : Int) : Prop := A 0 (nM P r XX m) = lnK r XX m ∧ ∀ i, 0 ≤ i → i < lnK r XX m → A 1 (nM P r XX m * 120 + i) = (if r.1 m = 1 then (XX m).op i else 26) ∧ A 2 (nM P r XX m * 120 + i) = (if r.1 m = 1 then cA P r XX ((XX m).op i) ((XX m).a i) else 0) ∧ A 3 (nM P r XX m * 120 + i) = if r.1 m = 1 then cBf P r XX ((XX m).op i) ((XX m).a i) ((XX m).b i) else 0
/-- where the instructions come from, in the class -/
def orC (σ : j3_S) (P : Pg) (r : Rs) (XX : Int → Sx) (m : Int) : Prop := ∀ i, 0 ≤ i → i < lnK r XX m → σ.2.2 6003 83 (nM P r XX m * 120 + i) = (if r.1 m = 1 then (XX m).o1 i else -1) ∧ σ.2.2 6004 83 (nM P r XX m * 120 + i) = if r.1 m = 1 then (XX m).o2 i else -1
def mvC (σ : j3_S) (o o2 : Nat) (P : Pg) (r : Rs) (XX : Int → Sx) : Prop := ((¬ o = 0 ∧ ¬ o2 = 0) ∧ σ.2.1 5 = o ∧ σ.2.1 6 = o2) ∧ CP σ o P ∧ nuC σ P r XX ∧ (∀ m, 0 ≤ m → m < 80 → σ.2.2 4000 92 m = r.1 m) ∧ ∀ a, 0 ≤ a → a < P 3000 0 → kC P r XX a → σ.2.2 3007 o2 (nC P r XX a) = nB (kM P r XX) (P 3007 a)
/-- only the method t's code in the small program changes -/
def mvT (o2 : Nat) (t : Int) (σ σ' : j3_S) : Prop := (σ'.1 = σ.1 ∧ σ'.2.1 = σ.2.1) ∧ (∀ e o', ¬ (o' = o2 + 17 ∧ e ≤ 3) → ¬ (o' = 83 ∧ (e = 6003 ∨ e = 6004 ∨ e = 6005)) → σ'.2.2 e o' = σ.2.2 e o') ∧ (∀ z, z < t * 120 ∨ t * 120 + 120 ≤ z → (∀ e, 1 ≤ e → e ≤ 3 → σ'.2.2 e (o2 + 17) z = σ.2.2 e (o2 + 17) z) ∧ σ'.2.2 6003 83 z = σ.2.2 6003 83 z ∧ σ'.2.2 6004 83 z = σ.2.2 6004 83 z) ∧ ∀ z, ¬ z = t → σ'.2.2 0 (o2 + 17) z = σ.2.2 0 (o2 + 17) z
section CMOVE
variable {σ σ' σ'' σ0 : j3_S} {P : Pg} {r : Rs} {XX : Int → Sx} {NL : Int → Int} {o o2 d : Nat} {x c m i w k n v t l : Int} {Q : j3_P} {X : Sx}
theorem mvT.rf : mvT o2 t σ σ := ⟨⟨rfl, rfl⟩, fun _ _ _ _ => rfl, fun _ _ => ⟨fun _ _ _ => rfl, rfl, rfl⟩, fun _ _ => rfl⟩
theorem mvT.tr (h : mvT o2 t σ σ') (h' : mvT o2 t σ' σ'') : mvT o2 t σ σ'' := by
  refine ⟨⟨h'.1.1.trans h.1.1, h'.1.2.trans h.1.2⟩, fun e o' q1 q2 => (h'.2.1 e o' q1 q2).trans (h.2.1 e o' q1 q2), fun z hz => ?_, fun z hz => (h'.2.2.2 z hz).trans (h.2.2.2 z hz)⟩
  obtain ⟨a1, a2, a3⟩ := h.2.2.1 z hz
  obtain ⟨b1, b2, b3⟩ := h'.2.2.1 z hz
  exact ⟨fun e e0 e1 => (b1 e e0 e1).trans (a1 e e0 e1), b2.trans a2, b3.trans a3⟩
theorem mvT.mv (h : mvT o2 t σ σ') (hB : mvC σ o o2 P r XX) (hoo : ¬ o = o2 ∧ ¬ o = o2 + 17 ∧ ¬ o + 17 = o2) (h83 : ¬ o = 83 ∧ ¬ o + 17 = 83) : mvC σ' o o2 P r XX := by
  obtain ⟨⟨a1, a2, a3⟩, a4, a5, a6, a7⟩ := hB
  refine ⟨⟨a1, by rw [h.1.2]; exact a2, by rw [h.1.2]; exact a3⟩, a4.mv ⟨⟨by rw [h.1.1], by rw [h.1.1]⟩, fun e _ => ⟨h.2.1 e o (by omega) (by omega), h.2.1 e (o + 17) (by omega) (by omega)⟩⟩, ?_, fun m m0 m1 => by rw [h.2.1 4000 92 (by omega) (by omega)]; exact a6 m m0 m1, fun a q0 q1 q2 => by rw [h.2.1 3007 o2 (by omega) (by omega)]; exact a7 a q0 q1 q2⟩
  unfold nuC
  rw [h.2.1 6000 83 (by omega) (by omega), h.2.1 6001 83 (by omega) (by omega), h.2.1 6002 83 (by omega) (by omega)]
  exact a5
theorem lyR.mv (h : lyR σ o2 m X l) (hX : X.n ≤ 120) (hf : mvT o2 t σ σ') (ht : ¬ m = t) (h4 : ¬ 83 = o2 + 17) : lyR σ' o2 m X l := by
  obtain ⟨a1, a2, a3⟩ := h
  refine ⟨by rw [hf.2.2.2 m ht]; exact a1, by rw [hf.2.1 6010 83 (by omega) (by omega)]; exact a2, fun i i0 i1 => ?_⟩
  obtain ⟨b1, b2, b3⟩ := hf.2.2.1 (m * 120 + i) (by omega)
  rw [b1 1 (by omega) (by omega), b1 2 (by omega) (by omega), b1 3 (by omega) (by omega), hf.2.1 4 (o2 + 17) (by omega) (by omega), b2, b3]
  exact a3 i i0 i1
theorem spK.mv (h : spK P r XX (PgC σ o2) m) (hl : lnK r XX m ≤ 120) (hf : mvT o2 t σ σ') (ht : ¬ nM P r XX m = t) : spK P r XX (PgC σ' o2) m := by
  obtain ⟨a1, a2⟩ := h
  rw [PgC_c (by omega)] at a1
  refine ⟨by rw [PgC_c (by omega), hf.2.2.2 _ ht]; exact a1, fun i i0 i1 => ?_⟩
  have := a2 i i0 i1
  rw [PgC_c (by omega), PgC_c (by omega), PgC_c (by omega)] at this ⊢
  obtain ⟨b1, -, -⟩ := hf.2.2.1 (nM P r XX m * 120 + i) (by omega)
  rw [b1 1 (by omega) (by omega), b1 2 (by omega) (by omega), b1 3 (by omega) (by omega)]
  exact this
theorem orC.mv (h : orC σ P r XX m) (hl : lnK r XX m ≤ 120) (hf : mvT o2 t σ σ') (ht : ¬ nM P r XX m = t) : orC σ' P r XX m := by
  intro i i0 i1
  obtain ⟨-, b2, b3⟩ := hf.2.2.1 (nM P r XX m * 120 + i) (by omega)
  rw [b2, b3]; exact h i i0 i1
/-- what an instruction tells is kept -/
theorem told (hg : good P) (hxx : xxR P r XX NL) (m0 : 0 ≤ m) (m1 : m < P 3001 0) (hm : r.1 m = 1) (i0 : 0 ≤ i) (i1 : i < (XX m).n) : ((XX m).op i = 15 ∨ (XX m).op i = 24 ∨ (XX m).op i = 25 ∨ (16 ≤ (XX m).op i ∧ (XX m).op i ≤ 21) → kC P r XX ((XX m).a i)) ∧ (16 ≤ (XX m).op i ∧ (XX m).op i ≤ 19 → kFc P r XX ((XX m).a i) ((XX m).b i)) ∧ ((XX m).op i = 20 ∨ (XX m).op i = 21 → kM P r XX (P 3007 ((XX m).a i) + (XX m).b i)) := by
  have w := xx_W hxx m0 m1 hm i0 i1
  have ic : inC P r XX m i := ⟨⟨m0, m1⟩, hm, i0, i1⟩
  have hk : (XX m).op i = 20 ∨ (XX m).op i = 21 → kM P r XX (P 3007 ((XX m).a i) + (XX m).b i) := by
    intro g
    rcases g with g | g
    · exact Or.inl (w.2.2.2.2.1 g)
    · exact Or.inr ⟨m, i, ic, g, rfl⟩
  have hf : 16 ≤ (XX m).op i ∧ (XX m).op i ≤ 19 → kFc P r XX ((XX m).a i) ((XX m).b i) := fun g => ⟨m, i, ic, g, rfl⟩
  refine ⟨fun g => ?_, hf, hk⟩
  have q := w.1 g
  by_cases g1 : (XX m).op i = 15
  · exact kC_cl.1 _ q.1 q.2 (w.2.2.2.1 g1)
  · by_cases g2 : (XX m).op i = 24 ∨ (XX m).op i = 25
    · exact kC_cl.2.1 m i ic g2
    · by_cases g3 : 16 ≤ (XX m).op i ∧ (XX m).op i ≤ 19
      · have q2 := (w.2.1 g3).1
        exact (kC_cl.2.2.1 _ _ q.1 q.2 q2.1 q2.2 (hf g3)).1
      · have q2 := w.2.2.1 (by omega)
        have q3 := hg.1.2.1.2.2 _ q.1 q.2
        have ow := (hg.2.1 _ q.1 q.2).2 _ q2.1 q2.2
        have := (kC_cl.2.2.2.1 _ (by omega) (by omega) (hk (by omega))).1
        rw [ow] at this
        exact this
theorem l104 (hg : good P) (hoo : ¬ o = o2 ∧ ¬ o = o2 + 17 ∧ ¬ o + 17 = o2) (h83 : ¬ o = 83 ∧ ¬ o + 17 = 83) (hxx : xxR P r XX NL) (hB0 : mvC σ0 o o2 P r XX) (m0 : 0 ≤ m) (m1 : m < P 3001 0) (hm : r.1 m = 1) : ∀ (n : Nat) (i : Int) (w5 w6 w7 w8 w9 : j3_W) (σ : j3_S), i + n = (XX m).n → 0 ≤ i → mvT o2 (nM P r XX m) σ0 σ → σ.2.2 6005 83 = σ0.2.2 6005 83 → (∀ j, 0 ≤ j → j < i → (σ.2.2 1 (o2 + 17) (nM P r XX m * 120 + j) = (XX m).op j ∧ σ.2.2 2 (o2 + 17) (nM P r XX m * 120 + j) = cA P r XX ((XX m).op j) ((XX m).a j) ∧ σ.2.2 3 (o2 + 17) (nM P r XX m * 120 + j) = cBf P r XX ((XX m).op j) ((XX m).a j) ((XX m).b j)) ∧ σ.2.2 6003 83 (nM P r XX m * 120 + j) = (XX m).o1 j ∧ σ.2.2 6004 83 (nM P r XX m * 120 + j) = (XX m).o2 j) → (∀ j, i ≤ j → j < (XX m).n → (σ.2.2 1 (o2 + 17) (m * 120 + j) = (XX m).op j ∧ σ.2.2 2 (o2 + 17) (m * 120 + j) = (XX m).a j ∧ σ.2.2 3 (o2 + 17) (m * 120 + j) = (XX m).b j) ∧ σ.2.2 6003 83 (m * 120 + j) = (XX m).o1 j ∧ σ.2.2 6004 83 (m * 120 + j) = (XX m).o2 j) → (∀ σ', mvT o2 (nM P r XX m) σ0 σ' → σ'.2.2 6005 83 = σ0.2.2 6005 83 → spK P r XX (PgC σ' o2) m → orC σ' P r XX m → Q none σ') → T104 d Q 9 [wO 6 83, wI m, wI (nM P r XX m), wI (XX m).n, wI i, w5, w6, w7, w8, w9] [] σ
  | 0, i, w5, w6, w7, w8, w9, σ, hi, i0, hf, h5, hd, ho, hQ => by
    have hB := hf.mv hB0 hoo h83
    have h80 := hg.1.2.1.2.1
    have hk : kM P r XX m := Or.inl hm
    have nn := nw_b (n := P 3001 0) m0 m1 hk
    have en : nM P r XX m = nwN (kM P r XX) m := rfl
    have nl := nB_le (q := kM P r XX) (x := P 3001 0) (by omega)
    have el : lnK r XX m = (XX m).n := by unfold lnK; rw [if_pos hm]
    rw [b104_9, if_neg (by omega), hB.1.2.2]
    refine ⟨hB.1.1.2, by omega, ?_⟩
    have f1 : mvT o2 (nM P r XX m) σ (σ.1, σ.2.1, j3_ast σ.2.2 0 (o2 + 17) (nM P r XX m) (XX m).n) := by
      refine ⟨⟨rfl, rfl⟩, fun e o' q1 q2 => ?_, fun z hz => ⟨fun e e0 e1 => ?_, ?_, ?_⟩, fun z hz => ?_⟩
      · show j3_up σ.2.2 0 (o2 + 17) (i_up (σ.2.2 0 (o2 + 17)) (nM P r XX m) (XX m).n) e o' = _
        exact up_ne (fun q => q1 ⟨q.2, by omega⟩)
      · show j3_up σ.2.2 0 (o2 + 17) (i_up (σ.2.2 0 (o2 + 17)) (nM P r XX m) (XX m).n) e (o2 + 17) z = _
        rw [up_ne (fun q => by omega)]
      · show j3_up σ.2.2 0 (o2 + 17) (i_up (σ.2.2 0 (o2 + 17)) (nM P r XX m) (XX m).n) 6003 83 z = _
        rw [up_e rfl]
      · show j3_up σ.2.2 0 (o2 + 17) (i_up (σ.2.2 0 (o2 + 17)) (nM P r XX m) (XX m).n) 6004 83 z = _
        rw [up_e rfl]
      · show j3_up σ.2.2 0 (o2 + 17) (i_up (σ.2.2 0 (o2 + 17)) (nM P r XX m) (XX m).n) 0 (o2 + 17) z = _
        rw [up_r, iu_n hz]
    refine hQ _ (hf.tr f1) (by show j3_up σ.2.2 0 (o2 + 17) (i_up (σ.2.2 0 (o2 + 17)) (nM P r XX m) (XX m).n) 6005 83 = _; rw [up_e rfl]; exact h5) ⟨?_, fun j j0 j1 => ?_⟩ (fun j j0 j1 => ?_)
    · rw [PgC_c (by omega), el]
      show j3_up σ.2.2 0 (o2 + 17) (i_up (σ.2.2 0 (o2 + 17)) (nM P r XX m) (XX m).n) 0 (o2 + 17) (nM P r XX m) = _
      rw [up_r, iu_r]
    · rw [el] at j1
      obtain ⟨a1, -⟩ := hd j j0 (by omega)
      rw [PgC_c (by omega), PgC_c (by omega), PgC_c (by omega), if_pos hm, if_pos hm, if_pos hm]
      show j3_up σ.2.2 0 (o2 + 17) (i_up (σ.2.2 0 (o2 + 17)) (nM P r XX m) (XX m).n) 1 (o2 + 17) _ = _ ∧ j3_up σ.2.2 0 (o2 + 17) (i_up (σ.2.2 0 (o2 + 17)) (nM P r XX m) (XX m).n) 2 (o2 + 17) _ = _ ∧ j3_up σ.2.2 0 (o2 + 17) (i_up (σ.2.2 0 (o2 + 17)) (nM P r XX m) (XX m).n) 3 (o2 + 17) _ = _
      rw [up_e rfl, up_e rfl, up_e rfl]
      exact a1
    · rw [el] at j1
      obtain ⟨-, a2, a3⟩ := hd j j0 (by omega)
      rw [if_pos hm, if_pos hm]
      show j3_up σ.2.2 0 (o2 + 17) (i_up (σ.2.2 0 (o2 + 17)) (nM P r XX m) (XX m).n) 6003 83 _ = _ ∧ j3_up σ.2.2 0 (o2 + 17) (i_up (σ.2.2 0 (o2 + 17)) (nM P r XX m) (XX m).n) 6004 83 _ = _
      rw [up_e rfl, up_e rfl]
      exact ⟨a2, a3⟩
  | n + 1, i, w5, w6, w7, w8, w9, σ, hi, i0, hf, h5, hd, ho, hQ => by
    have hB := hf.mv hB0 hoo h83
    have h80 := hg.1.2.1.2.1
    have hc10 := hg.1.1.2.1
    have hk : kM P r XX m := Or.inl hm
    have nn := nw_b (n := P 3001 0) m0 m1 hk
    have en : nM P r XX m = nwN (kM P r XX) m := rfl
    have nl := nB_le (q := kM P r XX) (x := P 3001 0) (by omega)
    have okx := (hxx.2 m m0 m1 hm).1
    have ok := okx.1
    have oo := (okx.2 i i0 (by omega)).1
    have w := xx_W hxx m0 m1 hm i0 (show i < (XX m).n by omega)
    obtain ⟨tc, tf, tm⟩ := told hg hxx m0 m1 hm i0 (show i < (XX m).n by omega)
    obtain ⟨⟨o1, o2', o3⟩, o4, o5⟩ := ho i (by omega) (by omega)
    rw [b104_9, if_pos (by omega), hB.1.2.2]
    simp (disch := omega) only [wr_id]
    rw [o1, o2', o3, tls_v oo.1 oo.2]
    refine ⟨hB.1.1.2, by omega, hB.1.1.2, by omega, hB.1.1.2, by omega, by omega, ?_⟩
    -- the instruction is written
    have wrt : ∀ v b' : Int, v = cA P r XX ((XX m).op i) ((XX m).a i) → b' = cBf P r XX ((XX m).op i) ((XX m).a i) ((XX m).b i) → T104 d Q 108 [wO 6 83, wI m, wI (nM P r XX m), wI (XX m).n, wI i, wI (m * 120 + i), wI (nM P r XX m * 120 + i), wI ((XX m).op i), wI ((XX m).a i), wI b'] [wI v, wI (nM P r XX m * 120 + i), wA 2 (o2 + 17)] (σ.1, σ.2.1, j3_ast σ.2.2 1 (o2 + 17) (nM P r XX m * 120 + i) ((XX m).op i)) := by
      intro v b' hv hb'
      rw [b104_108]
      dsimp only
      have e3 : j3_ast σ.2.2 1 (o2 + 17) (nM P r XX m * 120 + i) ((XX m).op i) 6003 83 (m * 120 + i) = (XX m).o1 i := by
        simp only [j3_ast]; rw [up_e rfl]; exact o4
      have e4 : j3_ast σ.2.2 1 (o2 + 17) (nM P r XX m * 120 + i) ((XX m).op i) 6004 83 (m * 120 + i) = (XX m).o2 i := by
        simp only [j3_ast]; rw [up_e rfl]; exact o5
      rw [hB.1.2.2, e3, e4, wr_id (by omega) (by omega)]
      refine ⟨by omega, hB.1.1.2, by omega, by omega, by omega, by omega, by omega, ?_⟩
      generalize hA : j3_ast (j3_ast (j3_ast (j3_ast (j3_ast σ.2.2 1 (o2 + 17) (nM P r XX m * 120 + i) ((XX m).op i)) 2 (o2 + 17) (nM P r XX m * 120 + i) v) 3 (o2 + 17) (nM P r XX m * 120 + i) b') 6003 83 (nM P r XX m * 120 + i) ((XX m).o1 i)) 6004 83 (nM P r XX m * 120 + i) ((XX m).o2 i) = A'
      have a1 : A' 1 (o2 + 17) = i_up (σ.2.2 1 (o2 + 17)) (nM P r XX m * 120 + i) ((XX m).op i) := by
        rw [← hA]; simp only [j3_ast]; rw [up_e rfl, up_e rfl, up_e rfl, up_e rfl, up_r]
      have a2 : A' 2 (o2 + 17) = i_up (σ.2.2 2 (o2 + 17)) (nM P r XX m * 120 + i) v := by
        rw [← hA]; simp only [j3_ast]; rw [up_e rfl, up_e rfl, up_e rfl, up_r, up_e rfl]
      have a3 : A' 3 (o2 + 17) = i_up (σ.2.2 3 (o2 + 17)) (nM P r XX m * 120 + i) b' := by
        rw [← hA]; simp only [j3_ast]; rw [up_e rfl, up_e rfl, up_r, up_e rfl, up_e rfl]
      have a4 : A' 6003 83 = i_up (σ.2.2 6003 83) (nM P r XX m * 120 + i) ((XX m).o1 i) := by
        rw [← hA]; simp only [j3_ast]; rw [up_e rfl, up_r, up_e rfl, up_e rfl, up_e rfl]
      have a5 : A' 6004 83 = i_up (σ.2.2 6004 83) (nM P r XX m * 120 + i) ((XX m).o2 i) := by
        rw [← hA]; simp only [j3_ast]; rw [up_r, up_e rfl, up_e rfl, up_e rfl, up_e rfl]
      have ao : ∀ e o', ¬ (o' = o2 + 17 ∧ 1 ≤ e ∧ e ≤ 3) → ¬ (o' = 83 ∧ (e = 6003 ∨ e = 6004)) → A' e o' = σ.2.2 e o' := by
        intro e o' q1 q2
        rw [← hA]; simp only [j3_ast]
        rw [up_ne (fun q => q2 ⟨q.2, by omega⟩), up_ne (fun q => q2 ⟨q.2, by omega⟩), up_ne (fun q => q1 ⟨q.2, by omega⟩), up_ne (fun q => q1 ⟨q.2, by omega⟩), up_ne (fun q => q1 ⟨q.2, by omega⟩)]
      clear hA
      have f1 : mvT o2 (nM P r XX m) σ (σ.1, σ.2.1, A') := by
        refine ⟨⟨rfl, rfl⟩, fun e o' q1 q2 => ao e o' (by omega) (by omega), fun z hz => ⟨fun e e0 e1 => ?_, ?_, ?_⟩, fun z hz => ?_⟩
        · show A' e (o2 + 17) z = _
          rcases (by omega : e = 1 ∨ e = 2 ∨ e = 3) with rfl | rfl | rfl
          · rw [a1, iu_n (by omega)]
          · rw [a2, iu_n (by omega)]
          · rw [a3, iu_n (by omega)]
        · show A' 6003 83 z = _
          rw [a4, iu_n (by omega)]
        · show A' 6004 83 z = _
          rw [a5, iu_n (by omega)]
        · show A' 0 (o2 + 17) z = _
          rw [ao 0 (o2 + 17) (by omega) (by omega)]
      refine l104 hg hoo h83 hxx hB0 m0 m1 hm n (i + 1) _ _ _ _ _ (σ.1, σ.2.1, A') (by omega) (by omega) (hf.tr f1) (by show A' 6005 83 = _; rw [ao 6005 83 (by omega) (by omega)]; exact h5) (fun j j0 j1 => ?_) (fun j j0 j1 => ?_) hQ
      · show (A' 1 (o2 + 17) _ = _ ∧ A' 2 (o2 + 17) _ = _ ∧ A' 3 (o2 + 17) _ = _) ∧ A' 6003 83 _ = _ ∧ A' 6004 83 _ = _
        rw [a1, a2, a3, a4, a5]
        by_cases e : j = i
        · rw [e]
          simp only [iu_r]
          exact ⟨⟨trivial, hv, hb'⟩, trivial, trivial⟩
        · have ne : ¬ nM P r XX m * 120 + j = nM P r XX m * 120 + i := by omega
          simp only [iu_n ne]
          exact hd j j0 (by omega)
      · show (A' 1 (o2 + 17) _ = _ ∧ A' 2 (o2 + 17) _ = _ ∧ A' 3 (o2 + 17) _ = _) ∧ A' 6003 83 _ = _ ∧ A' 6004 83 _ = _
        rw [a1, a2, a3, a4, a5]
        have ne : ¬ m * 120 + j = nM P r XX m * 120 + i := by omega
        simp only [iu_n ne]
        exact ho j (by omega) j1
    have w85 : ∀ b' : Int, b' = cBf P r XX ((XX m).op i) ((XX m).a i) ((XX m).b i) → T104 d Q 85 [wO 6 83, wI m, wI (nM P r XX m), wI (XX m).n, wI i, wI (m * 120 + i), wI (nM P r XX m * 120 + i), wI ((XX m).op i), wI ((XX m).a i), wI b'] [] σ := by
      intro b' hb'
      rw [b104_85, hB.1.2.2, tls_v oo.1 oo.2]
      refine ⟨hB.1.1.2, by omega, hB.1.1.2, by omega, ?_⟩
      generalize hop : (XX m).op i = op at *
      by_cases g : op = 15 ∨ op = 24 ∨ op = 25 ∨ (16 ≤ op ∧ op ≤ 21)
      · have q := w.1 g
        have : ¬ (if op = 0 then (1 : Int) else if op = 2 ∨ op = 3 then 2 else if 11 ≤ op ∧ op ≤ 14 then 3 else if op = 15 ∨ op = 24 ∨ op = 25 then 4 else if 16 ≤ op ∧ op ≤ 19 then 5 else if op = 20 ∨ op = 21 then 6 else 0) < 4 := by
          rw [if_neg (by omega), if_neg (by omega), if_neg (by omega)]
          split
          · omega
          · split
            · omega
            · rw [if_pos (by omega)]; omega
        rw [if_neg this, hB.2.2.1.1 _ q.1 q.2]
        exact ⟨by omega, wrt _ b' (by unfold cA; rw [if_pos g]) hb'⟩
      · have : (if op = 0 then (1 : Int) else if op = 2 ∨ op = 3 then 2 else if 11 ≤ op ∧ op ≤ 14 then 3 else if op = 15 ∨ op = 24 ∨ op = 25 then 4 else if 16 ≤ op ∧ op ≤ 19 then 5 else if op = 20 ∨ op = 21 then 6 else 0) < 4 := by
          split
          · omega
          · split
            · omega
            · split
              · omega
              · rw [if_neg (by omega), if_neg (by omega), if_neg (by omega)]; omega
        rw [if_pos this]
        exact wrt _ b' (by unfold cA; rw [if_neg g]) hb'
    by_cases g5 : 16 ≤ (XX m).op i ∧ (XX m).op i ≤ 19
    · have q := w.1 (by omega)
      have q2 := (w.2.1 g5).1
      have q3 := hg.1.2.2.1 _ q.1 q.2
      rw [if_neg (by omega : ¬ (XX m).op i = 0), if_neg (by omega : ¬ ((XX m).op i = 2 ∨ (XX m).op i = 3)), if_neg (by omega : ¬ (11 ≤ (XX m).op i ∧ (XX m).op i ≤ 14)), if_neg (by omega : ¬ ((XX m).op i = 15 ∨ (XX m).op i = 24 ∨ (XX m).op i = 25)), if_pos g5, if_pos rfl]
      simp (disch := omega) only [wr_id]
      rw [hB.2.2.1.2.1 _ _ q.1 q.2 q2.1 q2.2]
      exact ⟨by omega, w85 _ (by unfold cBf; rw [if_pos g5])⟩
    · have n5 : ¬ (if (XX m).op i = 0 then (1 : Int) else if (XX m).op i = 2 ∨ (XX m).op i = 3 then 2 else if 11 ≤ (XX m).op i ∧ (XX m).op i ≤ 14 then 3 else if (XX m).op i = 15 ∨ (XX m).op i = 24 ∨ (XX m).op i = 25 then 4 else if 16 ≤ (XX m).op i ∧ (XX m).op i ≤ 19 then 5 else if (XX m).op i = 20 ∨ (XX m).op i = 21 then 6 else 0) = 5 := by
        rw [if_neg g5]
        split
        · omega
        · split
          · omega
          · split
            · omega
            · split
              · omega
              · split <;> omega
      rw [if_neg n5]
      refine ⟨by omega, ?_⟩
      by_cases g6 : (XX m).op i = 20 ∨ (XX m).op i = 21
      · have q := w.1 (by omega)
        have q2 := w.2.2.1 (by omega)
        have q3 := hg.1.2.1.2.2 _ q.1 q.2
        have kc := tc (by omega)
        have km := tm g6
        have ncb := nw_b (n := P 3000 0) q.1 q.2 kc
        have enc : nC P r XX ((XX m).a i) = nwN (kC P r XX) ((XX m).a i) := rfl
        have nlc := nB_le (q := kC P r XX) (x := P 3000 0) (by omega)
        have nmb := nw_b (n := P 3001 0) (x := P 3007 ((XX m).a i) + (XX m).b i) (by omega) (by omega) km
        have enm : nM P r XX (P 3007 ((XX m).a i) + (XX m).b i) = nwN (kM P r XX) (P 3007 ((XX m).a i) + (XX m).b i) := rfl
        have nf := nB_le (q := kM P r XX) (x := P 3007 ((XX m).a i)) (by omega)
        have nf0 := nB_p (q := kM P r XX) (x := P 3007 ((XX m).a i))
        rw [if_neg (by omega : ¬ (XX m).op i = 0), if_neg (by omega : ¬ ((XX m).op i = 2 ∨ (XX m).op i = 3)), if_neg (by omega : ¬ (11 ≤ (XX m).op i ∧ (XX m).op i ≤ 14)), if_neg (by omega : ¬ ((XX m).op i = 15 ∨ (XX m).op i = 24 ∨ (XX m).op i = 25)), if_neg g5, if_pos g6, if_pos rfl, hB.1.2.1, (hB.2.1.2.2.1 _ q.1 q.2).1.2.2.2.2, hB.2.2.1.1 _ q.1 q.2, hB.2.2.2.2 _ q.1 q.2 kc]
        simp (disch := omega) only [wr_id]
        rw [hB.2.2.1.2.2 _ (by omega) (by omega), wr_id (by omega) (by omega)]
        exact ⟨hB.1.1.1, by omega, by omega, hB.1.1.2, by omega, by omega, w85 _ (by unfold cBf; rw [if_neg g5, if_pos g6])⟩
      · have n6 : ¬ (if (XX m).op i = 0 then (1 : Int) else if (XX m).op i = 2 ∨ (XX m).op i = 3 then 2 else if 11 ≤ (XX m).op i ∧ (XX m).op i ≤ 14 then 3 else if (XX m).op i = 15 ∨ (XX m).op i = 24 ∨ (XX m).op i = 25 then 4 else if 16 ≤ (XX m).op i ∧ (XX m).op i ≤ 19 then 5 else if (XX m).op i = 20 ∨ (XX m).op i = 21 then 6 else 0) = 6 := by
          rw [if_neg g5, if_neg g6]
          split
          · omega
          · split
            · omega
            · split
              · omega
              · split <;> omega
        rw [if_neg n6]
        exact w85 _ (by unfold cBf; rw [if_neg g5, if_neg g6])
end CMOVE
