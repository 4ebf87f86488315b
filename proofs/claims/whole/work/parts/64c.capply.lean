/-! the class's strip: a rule is done; the fold -/
def xA : List Nat := [7002, 7003, 7004, 7005, 7006]
section CAP
variable {σ σ0 σ' : j3_S} {P : Pg} {m nl x n p k : Int} {X : Sx} {F : Fl} {W : Int → Int → Int → Prop} {d : Nat} {Q : j3_P}
def ycC (σ : j3_S) (X : Sx) (p k x : Int) : Prop := σ.1 7000 96 = X.n - k ∧ ∀ i, 0 ≤ i → i < X.n - k → σ.2.2 7002 96 i = (cutS X p k).op i ∧ σ.2.2 7003 96 i = (if i < x then (cutS X p k).a i else shf p k X.a i) ∧ σ.2.2 7004 96 i = (cutS X p k).b i ∧ σ.2.2 7005 96 i = (cutS X p k).o1 i ∧ σ.2.2 7006 96 i = (cutS X p k).o2 i
theorem l120 {y3 : Int} (hb : ∀ i, 0 ≤ i → i < X.n → isj (X.op i) = true → 0 ≤ X.a i ∧ X.a i ≤ 120) (p0 : 0 ≤ p) (k1 : 1 ≤ k) (hpk : p + k ≤ X.n) (hn : X.n ≤ 120) : ∀ (j : Nat) (x : Int) (σ : j3_S), x + j = X.n - k → 0 ≤ x → frm [7000] xA σ0 σ → ycC σ X p k x → (∀ σ', frm [7000] xA σ0 σ' → xC σ' (cutS X p k) → Q none σ') → T120 (d + 1) Q 76 [wO 7 96, wI p, wI k, wI y3, wI x] [] σ
  | 0, x, σ, hx, x0, hf, hy, hQ => by
    rw [b120_76, hy.1, if_neg (by omega)]
    refine hQ σ hf ⟨hy.1, fun i i0 i1 => ?_⟩
    have i1 : i < X.n - k := i1
    obtain ⟨q1, q2, q3⟩ := hy.2 i i0 i1
    rw [if_pos (by omega)] at q2
    exact ⟨q1, q2, q3⟩
  | j + 1, x, σ, hx, x0, hf, hy, hQ => by
    obtain ⟨q1, q2, q3⟩ := hy.2 x x0 (by omega)
    rw [if_neg (by omega)] at q2
    have eo : (cutS X p k).op x = shf p k X.op x := rfl
    have ea : (cutS X p k).a x = if isj (shf p k X.op x) = true then rtg p k (shf p k X.a x) else shf p k X.a x := rfl
    rw [eo] at q1
    have go : ∀ σ1, frm [7000] xA σ0 σ1 → ycC σ1 X p k (x + 1) → T120 (d + 1) Q 104 [wO 7 96, wI p, wI k, wI y3, wI x] [] σ1 := by
      intro σ1 f1 y1
      rw [b120_104, wr_id (by omega) (by omega)]
      exact l120 hb p0 k1 hpk hn j (x + 1) σ1 (by omega) (by omega) f1 y1 hQ
    have same : (cutS X p k).a x = shf p k X.a x → ycC σ X p k (x + 1) := by
      intro e
      refine ⟨hy.1, fun i i0 i1 => ?_⟩
      obtain ⟨z1, z2, z3⟩ := hy.2 i i0 i1
      refine ⟨z1, ?_, z3⟩
      by_cases gi : i = x
      · rw [gi, if_pos (by omega), e]
        rw [gi, if_neg (by omega)] at z2
        exact z2
      · rw [z2]
        by_cases gl : i < x
        · rw [if_pos gl, if_pos (by omega)]
        · rw [if_neg gl, if_neg (by omega)]
    rw [b120_76, hy.1, if_pos (by omega), q1, s151]
    refine ⟨by omega, ?_⟩
    simp only [Option.toList_some, List.cons_append, List.nil_append]
    rw [b120_85]
    cases gj : isj (shf p k X.op x)
    · rw [if_pos (show b2i false = 0 from rfl)]
      exact go σ hf (same (by rw [ea, gj]; rfl))
    · rw [if_neg (show ¬ b2i true = 0 by decide), q2]
      refine ⟨by omega, ?_⟩
      rw [gj, if_pos rfl] at ea
      have hba : 0 ≤ shf p k X.a x ∧ shf p k X.a x ≤ 120 := by
        by_cases g : x < p
        · rw [shf_lo g] at gj ⊢; exact hb x x0 (by omega) gj
        · rw [shf_hi g] at gj ⊢; exact hb (x + k) (by omega) (by omega) gj
      generalize hA : shf p k X.a x = A at *
      by_cases gp : p < A
      · rw [if_pos gp, wr_id (by omega) (by omega)]
        refine ⟨by omega, by omega, go _ (hf.tr (frm.A rfl frm.rf)) ⟨hy.1, fun i i0 i1 => ?_⟩⟩
        obtain ⟨z1, z2, z3⟩ := hy.2 i i0 i1
        simp only [j3_ast, up_r, up_e (show ((7002 : Nat) == 7003) = false from rfl), up_e (show ((7004 : Nat) == 7003) = false from rfl), up_e (show ((7005 : Nat) == 7003) = false from rfl), up_e (show ((7006 : Nat) == 7003) = false from rfl)]
        refine ⟨z1, ?_, z3⟩
        by_cases gi : i = x
        · rw [gi, iu_r, if_pos (show x < x + 1 by omega), ea]
          unfold rtg
          by_cases g1 : p + k ≤ A
          · rw [if_pos g1]
            by_cases g2 : p < A - k
            · rw [if_pos g2]
            · rw [if_neg g2]; omega
          · rw [if_neg g1, if_pos gp, if_neg (by omega)]
        · rw [iu_n gi, z2]
          by_cases gl : i < x
          · rw [if_pos gl, if_pos (by omega)]
          · rw [if_neg gl, if_neg (by omega)]
      · rw [if_neg gp]
        exact go σ hf (same (by rw [ea]; exact rt_lo (by omega) k1))
theorem s120 (hx : xC σ X) (hb : ∀ i, 0 ≤ i → i < X.n → isj (X.op i) = true → 0 ≤ X.a i ∧ X.a i ≤ 120) (p0 : 0 ≤ p) (k1 : 1 ≤ k) (hpk : p + k ≤ X.n) (hn : X.n ≤ 120) (hQ : ∀ σ', frm [7000] xA σ σ' → xC σ' (cutS X p k) → Q none σ') : j3_tc false (d + 2) 120 [wO 7 96, wI p, wI k] σ Q := by
  rw [e120, b120_0, hx.1, if_pos (by omega), if_neg (by omega), wr_id (z := p + k) (by omega) (by omega), if_neg (by omega), wr_id (z := X.n - p) (by omega) (by omega), wr_id (z := X.n - p - k) (by omega) (by omega), wr_id (z := X.n - k) (by omega) (by omega)]
  refine ⟨by omega, by omega, by omega, by omega, by omega, ?_⟩
  refine l120 (σ0 := σ) hb p0 k1 hpk hn (X.n - k).toNat 0 _ (by omega) (by omega) (frm.I rfl (frm.A rfl (frm.A rfl (frm.A rfl (frm.A rfl (frm.A rfl frm.rf)))))) ⟨?_, fun i i0 i1 => ?_⟩ hQ
  · simp only [up_r]
  · rw [if_neg (by omega)]
    have row : ∀ (f g : Int → Int), (∀ j, 0 ≤ j → j < X.n → f j = g j) → i_cp f f (p + k) p (X.n - p - k) i = shf p k g i := by
      intro f g h
      simp only [i_cp]
      by_cases gi : i < p
      · rw [if_neg (by omega), shf_lo gi]; exact h i i0 (by omega)
      · rw [if_pos (by omega), shf_hi gi, show p + k + (i - p) = i + k by omega]
        exact h (i + k) (by omega) (by omega)
    simp only [j3_acp, up_r, up_e (show ((7002 : Nat) == 7003) = false from rfl), up_e (show ((7002 : Nat) == 7004) = false from rfl), up_e (show ((7002 : Nat) == 7005) = false from rfl), up_e (show ((7002 : Nat) == 7006) = false from rfl), up_e (show ((7003 : Nat) == 7002) = false from rfl), up_e (show ((7003 : Nat) == 7004) = false from rfl), up_e (show ((7003 : Nat) == 7005) = false from rfl), up_e (show ((7003 : Nat) == 7006) = false from rfl), up_e (show ((7004 : Nat) == 7002) = false from rfl), up_e (show ((7004 : Nat) == 7003) = false from rfl), up_e (show ((7004 : Nat) == 7005) = false from rfl), up_e (show ((7004 : Nat) == 7006) = false from rfl), up_e (show ((7005 : Nat) == 7002) = false from rfl), up_e (show ((7005 : Nat) == 7003) = false from rfl), up_e (show ((7005 : Nat) == 7004) = false from rfl), up_e (show ((7005 : Nat) == 7006) = false from rfl), up_e (show ((7006 : Nat) == 7002) = false from rfl), up_e (show ((7006 : Nat) == 7003) = false from rfl), up_e (show ((7006 : Nat) == 7004) = false from rfl), up_e (show ((7006 : Nat) == 7005) = false from rfl)]
    exact ⟨row _ _ (fun j j0 j1 => (hx.2 j j0 j1).1), row _ _ (fun j j0 j1 => (hx.2 j j0 j1).2.1), row _ _ (fun j j0 j1 => (hx.2 j j0 j1).2.2.1), row _ _ (fun j j0 j1 => (hx.2 j j0 j1).2.2.2.1), row _ _ (fun j j0 j1 => (hx.2 j j0 j1).2.2.2.2)⟩
theorem s119 {o v q : Int} (hx : xC σ X) (hX : okX nl X) (ho : isj o = true → 0 ≤ v ∧ v ≤ 120) (p0 : 0 ≤ p) (p1 : p ≤ q) (q1 : q < X.n) (hQ : ∀ σ', frm [7000] xA σ σ' → xC σ' (if q = p then setS X p o v 0 (X.o1 q) (X.o2 q) else cutS (setS X p o v 0 (X.o1 q) (X.o2 q)) (p + 1) (q - p)) → Q none σ') : j3_tc false (d + 3) 119 [wO 7 96, wI p, wI o, wI v, wI q] σ Q := by
  have hn := hX.1
  obtain ⟨-, -, -, c5, c6⟩ := hx.2 q (by omega) q1
  rw [e119, b119_0, wr_id (z := p + 1) (by omega) (by omega), wr_id (z := q - p) (by omega) (by omega), c5, c6]
  refine ⟨by omega, by omega, by omega, by omega, by omega, by omega, by omega, ?_⟩
  generalize hσ1 : ((σ.1, σ.2.1, j3_ast (j3_ast (j3_ast (j3_ast (j3_ast σ.2.2 7002 96 p o) 7003 96 p v) 7004 96 p 0) 7005 96 p (X.o1 q)) 7006 96 p (X.o2 q)) : j3_S) = σ1
  have f1 : frm [7000] xA σ σ1 := by rw [← hσ1]; exact frm.A rfl (frm.A rfl (frm.A rfl (frm.A rfl (frm.A rfl frm.rf))))
  have x1 : xC σ1 (setS X p o v 0 (X.o1 q) (X.o2 q)) := by
    refine ⟨by rw [← hσ1]; exact hx.1, fun i i0 i1 => ?_⟩
    have i1 : i < X.n := i1
    obtain ⟨z1, z2, z3, z4, z5⟩ := hx.2 i i0 i1
    rw [← hσ1]
    simp only [j3_ast, up_r, up_e (show ((7002 : Nat) == 7003) = false from rfl), up_e (show ((7002 : Nat) == 7004) = false from rfl), up_e (show ((7002 : Nat) == 7005) = false from rfl), up_e (show ((7002 : Nat) == 7006) = false from rfl), up_e (show ((7003 : Nat) == 7002) = false from rfl), up_e (show ((7003 : Nat) == 7004) = false from rfl), up_e (show ((7003 : Nat) == 7005) = false from rfl), up_e (show ((7003 : Nat) == 7006) = false from rfl), up_e (show ((7004 : Nat) == 7002) = false from rfl), up_e (show ((7004 : Nat) == 7003) = false from rfl), up_e (show ((7004 : Nat) == 7005) = false from rfl), up_e (show ((7004 : Nat) == 7006) = false from rfl), up_e (show ((7005 : Nat) == 7002) = false from rfl), up_e (show ((7005 : Nat) == 7003) = false from rfl), up_e (show ((7005 : Nat) == 7004) = false from rfl), up_e (show ((7005 : Nat) == 7006) = false from rfl), up_e (show ((7006 : Nat) == 7002) = false from rfl), up_e (show ((7006 : Nat) == 7003) = false from rfl), up_e (show ((7006 : Nat) == 7004) = false from rfl), up_e (show ((7006 : Nat) == 7005) = false from rfl)]
    show i_up _ p o i = i_up X.op p o i ∧ i_up _ p v i = i_up X.a p v i ∧ i_up _ p 0 i = i_up X.b p 0 i ∧ i_up _ p (X.o1 q) i = i_up X.o1 p (X.o1 q) i ∧ i_up _ p (X.o2 q) i = i_up X.o2 p (X.o2 q) i
    by_cases g : i = p
    · rw [g]
      simp only [iu_r]
      exact ⟨trivial, trivial, trivial, trivial, trivial⟩
    · simp only [iu_n g]
      exact ⟨z1, z2, z3, z4, z5⟩
  by_cases g : q = p
  · rw [if_pos g] at hQ
    rw [e120, b120_0, if_neg (by omega)]
    simp only [Option.toList_none, List.nil_append]
    rw [b119_39]
    exact hQ σ1 f1 x1
  · rw [if_neg g] at hQ
    refine s120 x1 (fun i i0 i1 hj => ?_) (by omega) (by omega) (by show p + 1 + (q - p) ≤ X.n; omega) hn.2 (fun σ2 f2 x2 => ?_)
    · have i1 : i < X.n := i1
      have hj : isj (i_up X.op p o i) = true := hj
      show 0 ≤ i_up X.a p v i ∧ i_up X.a p v i ≤ 120
      by_cases gi : i = p
      · rw [gi, iu_r] at hj
        rw [gi, iu_r]; exact ho hj
      · rw [iu_n gi] at hj ⊢
        have := (hX.2 i i0 i1).2.2 hj
        omega
    · simp only [Option.toList_none, List.nil_append]
      rw [b119_39]
      exact hQ σ2 (f1.tr f2) x2
theorem s117 (hs : WFs P) (hX : okX nl X) (hS : SOk P m nl W X F) (hx : xC σ X) (p0 : 0 ≤ p) (p1 : p < X.n) (hr : ¬ ruS X p = 0) (hQ : ∀ σ', frm [7000] xA σ σ' → xC σ' (apS X (ruS X p) p) → Q none σ') : j3_tc false (d + 5) 117 [wO 7 96, wI (ruS X p), wI p] σ Q := by
  have hn := hX.1
  have hb : ∀ i, 0 ≤ i → i < X.n → isj (X.op i) = true → 0 ≤ X.a i ∧ X.a i ≤ 120 := fun i i0 i1 hj => by
    have := (hX.2 i i0 i1).2.2 hj; omega
  have c2 := fun i i0 i1 => (hx.2 i i0 i1).2.1
  have c1 := fun i i0 i1 => (hx.2 i i0 i1).1
  have cut52 : ∀ r : Int, p + 2 ≤ X.n → (∀ σ', frm [7000] xA σ σ' → xC σ' (cutS X p 2) → Q none σ') → T117 (d + 4) Q 52 [wO 7 96, wI r, wI p] [] σ := by
    intro r hk hq
    rw [b117_52]
    refine s120 hx hb p0 (by omega) hk hn.2 (fun σ1 f1 x1 => ?_)
    simp only [Option.toList_none, List.nil_append]
    rw [b117_56]
    exact hq σ1 f1 x1
  have pop : ∀ r : Int, (∀ σ', frm [7000] xA σ σ' → xC σ' (setS X p 4 0 0 (X.o1 p) (X.o2 p)) → Q none σ') → T117 (d + 4) Q 45 [wO 7 96, wI r, wI p] [] σ := by
    intro r hq
    rw [b117_45]
    refine s119 hx hX (fun z => absurd z (by decide)) p0 (Int.le_refl p) p1 (fun σ1 f1 x1 => ?_)
    simp only [Option.toList_none, List.nil_append]
    rw [b117_51, b117_56]
    rw [if_pos rfl] at x1
    exact hq σ1 f1 x1
  have dec : ∀ (r q : Int) (c : Prop) [Decidable c], (r = 6 ∨ r = 7 ∨ r = 8) → q = (if r = 7 then p + 2 else p + 1) → q < X.n → isj (X.op q) = true → (c ↔ (r = 8 ∨ (r = 7 ∧ X.a p < X.a (p + 1)) ∨ (r = 6 ∧ X.a p = 0))) → (∀ σ', frm [7000] xA σ σ' → xC σ' (if c then cutS (setS X p 11 (X.a q) 0 (X.o1 q) (X.o2 q)) (p + 1) (q - p) else cutS X p (q - p + 1)) → Q none σ') → T117 (d + 4) Q 40 [wO 7 96, wI r, wI p] [] σ := by
    intro r q c _ hrr hq hqn hqj hc hfin
    have fin : ∀ σ1, frm [7000] xA σ σ1 → xC σ1 (if c then cutS (setS X p 11 (X.a q) 0 (X.o1 q) (X.o2 q)) (p + 1) (q - p) else cutS X p (q - p + 1)) → T117 (d + 4) Q 44 [wO 7 96, wI r, wI p] [] σ1 := by
      intro σ1 f1 x1
      rw [b117_44, b117_56]
      exact hfin σ1 f1 x1
    have q0 : q = p + 1 ∨ q = p + 2 := by
      rw [hq]; split <;> simp
    have t37 : ∀ v, (v = 0 ∨ v = 1) → (v = 1 ↔ c) → T118 (d + 3) (fun r_1 σ1 => T117 (d + 4) Q 44 [wO 7 96, wI r, wI p] (r_1.toList ++ []) σ1) 37 [wO 7 96, wI r, wI p, wI q, wM 2] [wI v] σ := by
      intro v hv hvc
      rw [b118_37]
      by_cases gv : v = 0
      · have nc : ¬ c := fun z => by have := hvc.mpr z; omega
        rw [if_pos gv, wr_id (z := q - p) (by omega) (by omega), wr_id (by omega) (by omega)]
        refine s120 hx hb p0 (by omega) (by omega) hn.2 (fun σ1 f1 x1 => ?_)
        simp only [Option.toList_none, List.nil_append]
        rw [b118_58]
        simp only [Option.toList_none, List.nil_append]
        exact fin σ1 f1 (by rw [if_neg nc]; exact x1)
      · have yc : c := hvc.mp (by omega)
        rw [if_neg gv, c2 q (by omega) hqn]
        refine ⟨by omega, s119 hx hX (fun _ => hb q (by omega) hqn hqj) p0 (by omega) hqn (fun σ1 f1 x1 => ?_)⟩
        simp only [Option.toList_none, List.nil_append]
        rw [b118_49, b118_58]
        simp only [Option.toList_none, List.nil_append]
        rw [if_neg (by omega)] at x1
        exact fin σ1 f1 (by rw [if_pos yc]; exact x1)
    rw [b117_40, e118, b118_0]
    have t10 : T118 (d + 3) (fun r_1 σ1 => T117 (d + 4) Q 44 [wO 7 96, wI r, wI p] (r_1.toList ++ []) σ1) 10 [wO 7 96, wI r, wI p, wM 2, wM 2] [wI q] σ := by
      rw [b118_10]
      by_cases g8 : r = 8
      · rw [if_pos g8, b118_34]
        exact t37 1 (Or.inr rfl) ⟨fun _ => hc.mpr (Or.inl g8), fun _ => rfl⟩
      rw [if_neg g8]
      by_cases g7 : r = 7
      · have e2 : q = p + 2 := by rw [hq, if_pos g7]
        rw [if_pos g7, wr_id (by omega) (by omega), c2 p p0 p1, c2 (p + 1) (by omega) (by omega)]
        refine ⟨by omega, by omega, ?_⟩
        by_cases gl : X.a p < X.a (p + 1)
        · rw [if_pos gl, b118_34]
          exact t37 1 (Or.inr rfl) ⟨fun _ => hc.mpr (Or.inr (Or.inl ⟨g7, gl⟩)), fun _ => rfl⟩
        · rw [if_neg gl, b118_36]
          exact t37 0 (Or.inl rfl) ⟨fun z => absurd z (by decide), fun z => by have := hc.mp z; omega⟩
      · rw [if_neg g7, c2 p p0 p1]
        refine ⟨by omega, ?_⟩
        by_cases gl : X.a p = 0
        · rw [if_pos gl, b118_34]
          exact t37 1 (Or.inr rfl) ⟨fun _ => hc.mpr (Or.inr (Or.inr ⟨by omega, gl⟩)), fun _ => rfl⟩
        · rw [if_neg gl, b118_36]
          exact t37 0 (Or.inl rfl) ⟨fun z => absurd z (by decide), fun z => by have := hc.mp z; omega⟩
    by_cases g7 : r = 7
    · rw [if_pos g7] at hq ⊢
      rw [wr_id (by omega) (by omega), ← hq]
      exact t10
    · rw [if_neg g7] at hq ⊢
      rw [wr_id (by omega) (by omega), ← hq]
      exact t10
  rw [e117, b117_0]
  rcases ru_c hr with ⟨e, g⟩ | ⟨g, q⟩
  · rw [e] at hQ ⊢
    rw [if_pos rfl, b117_2]
    refine s120 hx hb p0 (by omega) (by omega) hn.2 (fun σ1 f1 x1 => ?_)
    simp only [Option.toList_none, List.nil_append]
    rw [b117_6, b117_56]
    refine hQ σ1 f1 ?_
    unfold apS
    rw [if_pos (Or.inl rfl)]
    exact x1
  have hp := sn_ty hS g
  rcases q with ⟨e, q1, q2⟩ | ⟨e, q1, q2⟩ | ⟨e, q1, q2, q3, q4, q5, q6, q7⟩ | ⟨e, q1, q2, q3, q4⟩ | ⟨e, q1, q2, q3, q4⟩ | ⟨e, q1, q2, q3, q4, q5, q6⟩ | ⟨e, q1, q2, q3, q4⟩ | ⟨e, q1, q2, q3, q4⟩ | ⟨e, q1, q2⟩ | ⟨e, q1, q2, q3, q4, q5⟩ | ⟨e, q1, q2⟩
  · rw [e] at hQ ⊢
    show T117 (d + 4) Q 2 _ _ _
    rw [b117_2]
    refine s120 hx hb p0 (by omega) (by omega) hn.2 (fun σ1 f1 x1 => ?_)
    simp only [Option.toList_none, List.nil_append]
    rw [b117_6, b117_56]
    refine hQ σ1 f1 ?_
    unfold apS
    rw [if_pos (Or.inr rfl)]
    exact x1
  · rw [e] at hQ ⊢
    show T117 (d + 4) Q 7 _ _ _
    rw [b117_7]
    refine s116 hs hX hS hx p0 p1 hp q1 ?_
    simp only [Option.toList_some, List.cons_append, List.nil_append]
    rw [b117_13, b117_56]
    refine ⟨by omega, hQ _ (frm.A rfl frm.rf) ?_⟩
    unfold apS
    rw [if_neg (by omega), if_pos rfl]
    refine ⟨hx.1, fun i i0 i1 => ?_⟩
    obtain ⟨z1, z2, z3, z4, z5⟩ := hx.2 i i0 i1
    simp only [j3_ast, up_r, up_e (show ((7002 : Nat) == 7003) = false from rfl), up_e (show ((7004 : Nat) == 7003) = false from rfl), up_e (show ((7005 : Nat) == 7003) = false from rfl), up_e (show ((7006 : Nat) == 7003) = false from rfl)]
    show σ.2.2 7002 96 i = i_up X.op p (X.op p) i ∧ i_up _ p (leS X p) i = i_up X.a p (leS X p) i ∧ σ.2.2 7004 96 i = i_up X.b p (X.b p) i ∧ σ.2.2 7005 96 i = i_up X.o1 p (X.o1 p) i ∧ σ.2.2 7006 96 i = i_up X.o2 p (X.o2 p) i
    by_cases gi : i = p
    · rw [gi] at z1 z2 z3 z4 z5 ⊢
      simp only [iu_r]
      exact ⟨z1, trivial, z3, z4, z5⟩
    · simp only [iu_n gi]
      exact ⟨z1, z2, z3, z4, z5⟩
  · rw [e] at hQ ⊢
    show T117 (d + 4) Q 15 _ _ _
    rw [b117_15, wr_id (z := p + 2) (by omega) (by omega), wr_id (z := p + 1) (by omega) (by omega), c1 (p + 2) (by omega) q3, c2 p p0 p1, c2 (p + 1) (by omega) (by omega), s153 q6.1 q6.2 (by omega)]
    refine ⟨by omega, by omega, by omega, ?_⟩
    simp only [Option.toList_some, List.cons_append, List.nil_append]
    rw [b117_35, wr_id (by omega) (by omega)]
    refine s119 hx hX (fun z => absurd z (by decide)) p0 (by omega) q3 (fun σ1 f1 x1 => ?_)
    simp only [Option.toList_none, List.nil_append]
    rw [b117_39, b117_56]
    refine hQ σ1 f1 ?_
    unfold apS
    rw [if_neg (by omega), if_neg (by omega), if_pos rfl]
    rw [if_neg (by omega), show p + 2 - p = 2 by omega] at x1
    exact x1
  · rw [e] at hQ ⊢
    exact cut52 5 (by omega) (fun σ1 f1 x1 => hQ σ1 f1 (by unfold apS; rw [if_neg (by omega), if_neg (by omega), if_neg (by omega), if_neg (by omega), if_neg (by omega), if_neg (by omega), if_neg (by omega)]; exact x1))
  · rw [e] at hQ ⊢
    refine dec 6 (p + 1) (X.a p = 0) (Or.inl rfl) rfl q2 (by rw [q4]; rfl) ⟨fun z => Or.inr (Or.inr ⟨rfl, z⟩), fun z => by omega⟩ (fun σ1 f1 x1 => hQ σ1 f1 ?_)
    unfold apS
    rw [if_neg (by omega), if_neg (by omega), if_neg (by omega), if_pos rfl]
    rw [show p + 1 - p = 1 by omega] at x1
    exact x1
  · rw [e] at hQ ⊢
    refine dec 7 (p + 2) (X.a p < X.a (p + 1)) (Or.inr (Or.inl rfl)) rfl q3 (by rw [q6]; rfl) ⟨fun z => Or.inr (Or.inl ⟨rfl, z⟩), fun z => by omega⟩ (fun σ1 f1 x1 => hQ σ1 f1 ?_)
    unfold apS
    rw [if_neg (by omega), if_neg (by omega), if_neg (by omega), if_neg (by omega), if_pos rfl]
    rw [show p + 2 - p = 2 by omega] at x1
    exact x1
  · rw [e] at hQ ⊢
    refine dec 8 (p + 1) True (Or.inr (Or.inr rfl)) rfl q2 (by rw [q4]; rfl) ⟨fun _ => Or.inl rfl, fun _ => trivial⟩ (fun σ1 f1 x1 => hQ σ1 f1 ?_)
    unfold apS
    rw [if_neg (by omega), if_neg (by omega), if_neg (by omega), if_neg (by omega), if_neg (by omega), if_pos rfl]
    rw [if_pos trivial, show p + 1 - p = 1 by omega] at x1
    exact x1
  · rw [e] at hQ ⊢
    exact cut52 9 (by omega) (fun σ1 f1 x1 => hQ σ1 f1 (by unfold apS; rw [if_neg (by omega), if_neg (by omega), if_neg (by omega), if_neg (by omega), if_neg (by omega), if_neg (by omega), if_neg (by omega)]; exact x1))
  · rw [e] at hQ ⊢
    exact pop 10 (fun σ1 f1 x1 => hQ σ1 f1 (by unfold apS; rw [if_neg (by omega), if_neg (by omega), if_neg (by omega), if_neg (by omega), if_neg (by omega), if_neg (by omega), if_pos (Or.inl rfl)]; exact x1))
  · rw [e] at hQ ⊢
    exact cut52 11 (by omega) (fun σ1 f1 x1 => hQ σ1 f1 (by unfold apS; rw [if_neg (by omega), if_neg (by omega), if_neg (by omega), if_neg (by omega), if_neg (by omega), if_neg (by omega), if_neg (by omega)]; exact x1))
  · rw [e] at hQ ⊢
    exact pop 12 (fun σ1 f1 x1 => hQ σ1 f1 (by unfold apS; rw [if_neg (by omega), if_neg (by omega), if_neg (by omega), if_neg (by omega), if_neg (by omega), if_neg (by omega), if_pos (Or.inr rfl)]; exact x1))
end CAP
