section CRUN2
variable {σ σ' τ : j3_S} {P : Pg} {T : Int → Fl} {d o : Nat} {Q : j3_P} {m n : Int}
def crI : List Nat := [2000, 2006, 2007, 2012]
def crA : List Nat := 2003 :: cmA
/-- what the class has at the run's end -/
def cEnd (σ σ' : j3_S) (o : Nat) (M : Mc) (c : Int) : Prop := (σ'.2.1 = j3_upP σ.2.1 1 o ∧ (∀ e o', crI.elem e = false → σ'.1 e o' = σ.1 e o') ∧ ∀ e o', crA.elem e = false → σ'.2.2 e o' = σ.2.2 e o') ∧ σ'.1 2000 109 = 1 ∧ (σ'.2.2 2001 109 0 = eV M ∧ σ'.2.2 2001 109 1 = c ∧ σ'.2.2 2001 109 2 = M.tr ∧ σ'.2.2 2001 109 3 = M.ou ∧ σ'.2.2 2001 109 4 = tC M ∧ σ'.2.2 2001 109 5 = M.no ∧ σ'.2.2 2001 109 6 = M.mx) ∧ (∀ i, 0 ≤ i → i < 100 → i < M.ou → σ'.2.2 2002 109 i = M.ov i) ∧ ∀ i, 0 ≤ i → i < tC M → σ'.2.2 2003 109 i = tV M i
/-- the class's state where the loop begins -/
def bgC (σ : j3_S) (o : Nat) (m : Int) : j3_S := (j3_up (j3_up (j3_up (j3_up (j3_up σ.1 2000 109 1) 2006 109 (-1)) 2007 109 0) 2012 109 0) 2007 109 1, j3_upP σ.2.1 1 o, j3_ast (j3_ast (j3_ast (j3_ast (j3_up (j3_up σ.2.2 2001 109 (i_fl (σ.2.2 2001 109) 0 8 0)) 2015 109 (i_fl (σ.2.2 2015 109) 0 60 0)) 2008 109 0 m) 2009 109 0 0) 2010 109 0 0) 2001 109 6 1)
theorem bgC_cr (hg : good P) (hT : typed P T) (m0 : 0 ≤ m) (m1 : m < P 3001 0) (h13 : P 3013 m = 1) (h15 : P 3015 m = 0) : CR (bgC σ o m) P T (M0 m) := by
  obtain ⟨-, t1⟩ := tyC_0 hT m0 m1
  have e1 : (bgC σ o m).2.2 2001 109 = i_up (i_fl (σ.2.2 2001 109) 0 8 0) 6 1 := by simp [bgC, j3_ast, j3_up]
  refine ⟨⟨⟨?_, ?_, ?_, ?_⟩, ?_, Int.le_refl 0, fun i i0 i1 i2 => ?_⟩, fun _ => ⟨?_, fun k k0 k1 => ?_⟩, fun _ => ⟨fun k k0 k1 => ?_, fun k x k0 k1 x0 x1 hx => ?_, ⟨fun o o0 o1 => ?_, fun z z0 z1 => ?_⟩⟩⟩
  · simp [bgC, j3_up]; rfl
  · simp [bgC, j3_up]; rfl
  · rw [e1]; rfl
  · rw [e1]; rfl
  · rw [e1]; rfl
  · exact absurd (show i < 0 from i2) (by omega)
  · simp [bgC, j3_up]; rfl
  · have k1 : k < 1 := k1
    have : k = 0 := by omega
    subst this
    simp [bgC, j3_ast, j3_up, i_up]
    exact ⟨rfl, rfl⟩
  · have k1 : k < 1 := k1
    have : k = 0 := by omega
    subst this
    refine ⟨?_, fun j j0 j1 => absurd (show j < 0 from j1) (by omega)⟩
    simp [bgC, j3_ast, j3_up, i_up]
    rfl
  · have x1 : x < P 3017 m := x1
    have hx : ¬ (T m).2.2 0 x = 0 := hx
    have := t1 x x0 x1
    have rc : rcv P m = 0 := by unfold rcv; rw [h13]; rfl
    unfold ini at this
    rw [rc, h15, if_neg (by omega), if_neg (by omega)] at this
    exact absurd (sbt_n this) hx
  · exact absurd (show o < 0 from o1) (by omega)
  · have : (bgC σ o m).2.2 2015 109 = i_fl (σ.2.2 2015 109) 0 60 0 := by simp [bgC, j3_ast, j3_up]
    rw [this]
    simp only [i_fl]
    rw [if_pos (by omega)]
    rfl
theorem s20 (hg : good P) (hT : typed P T) (ho : ¬ o = 0) (hC : CP σ o P) (h4 : ∀ c, 0 ≤ c → c < P 3000 0 → σ.2.2 3004 o c = P 3004 c) (m0 : 0 ≤ m) (m1 : m < P 3001 0) (h13 : P 3013 m = 1) (h15 : P 3015 m = 0) (n1 : 1 ≤ n) (n2 : n ≤ 20000) (hQ : ∀ σ', cEnd σ σ' o (rnM P n.toNat (M0 m)) (rnC P n.toNat (M0 m) 0) → Q (some (wI (eV (rnM P n.toNat (M0 m))))) σ') : j3_tc false (d + 9) 20 [wO 2 109, wO 3 o, wI m, wI n] σ Q := by
  have hi := M0_i hg hT m0 m1 h13 h15
  have hM80 := hg.1.2.1.2.1
  have fb : (∀ e o', crI.elem e = false → (bgC σ o m).1 e o' = σ.1 e o') ∧ ∀ e o', crA.elem e = false → (bgC σ o m).2.2 e o' = σ.2.2 e o' := by
    refine ⟨fun e o' he => ?_, fun e o' he => ?_⟩
    · have : (e == 2000) = false ∧ (e == 2006) = false ∧ (e == 2007) = false ∧ (e == 2012) = false := by
        simp [crI] at he; simp; omega
      simp only [bgC, up_e this.1, up_e this.2.1, up_e this.2.2.1, up_e this.2.2.2]
    · have : (e == 2001) = false ∧ (e == 2015) = false ∧ (e == 2008) = false ∧ (e == 2009) = false ∧ (e == 2010) = false := by
        simp [crA, cmA] at he; simp; omega
      simp only [bgC, j3_ast, up_e this.1, up_e this.2.1, up_e this.2.2.1, up_e this.2.2.2.1, up_e this.2.2.2.2]
  have hp0 : (bgC σ o m).2.1 1 = o ∧ CP (bgC σ o m) o P ∧ ∀ c, 0 ≤ c → c < P 3000 0 → (bgC σ o m).2.2 3004 o c = P 3004 c := by
    refine ⟨rfl, ?_, fun c c0 c1 => by rw [fb.2 3004 o rfl]; exact h4 c c0 c1⟩
    have : CP ((bgC σ o m).1, σ.2.1, (bgC σ o m).2.2) o P := hC.fr (li := crI) (la := crA) ⟨rfl, fb.1, fb.2⟩ ⟨rfl, rfl⟩ (la_ok rfl)
    exact this
  obtain ⟨σ1, r1, f1, q1⟩ := l20 (y2 := m) (y3 := n) hg hT ho n2 n.toNat (M0 m) (bgC σ o m) 0 (by omega) (by omega) hi (Int.le_refl 0) hp0 (bgC_cr hg hT m0 m1 h13 h15)
  have hi1 := rn_i hg hT n.toNat _ hi
  generalize hM : rnM P n.toNat (M0 m) = M at r1 hQ hi1
  generalize hc : rnC P n.toNat (M0 m) 0 = c at q1 hQ
  have b4 : (bgC σ o m).2.2 2001 109 4 = 0 := by
    have e1 : (bgC σ o m).2.2 2001 109 = i_up (i_fl (σ.2.2 2001 109) 0 8 0) 6 1 := by simp [bgC, j3_ast, j3_up]
    rw [e1]; rfl
  obtain ⟨⟨a1, a2, a3, a4⟩, a5, a6, a7⟩ := r1.1
  have i2000 : σ1.1 2000 109 = 1 := by rw [f1.1.2.1 2000 109 rfl]; simp [bgC, j3_up]
  have p1 : σ1.2.1 = j3_upP σ.2.1 1 o := f1.1.1
  have fI : ∀ e o', crI.elem e = false → σ1.1 e o' = σ.1 e o' := fun e o' he => by
    rw [f1.1.2.1 e o' (by simp [crI] at he; simp [cmI]; omega)]; exact fb.1 e o' he
  have fA : ∀ e o', crA.elem e = false → σ1.2.2 e o' = σ.2.2 e o' := fun e o' he => by
    rw [f1.1.2.2 e o' (by simp [crA] at he; simpa using he.2)]; exact fb.2 e o' he
  -- to the loop
  have start : T20 (d + 8) Q 42 [wO 2 109, wO 3 o, wI m, wI n, wI c, wI c] [] σ1 → j3_tc false (d + 9) 20 [wO 2 109, wO 3 o, wI m, wI n] σ Q := by
    intro h
    rw [e20, b20_0, s248 (n := 8) rfl rfl rfl (by omega)]
    refine ⟨Or.inr rfl, ?_⟩
    simp only [Option.toList_none, List.nil_append]
    rw [b20_19, s248 (n := 60) rfl rfl rfl (by omega)]
    simp only [Option.toList_none, List.nil_append]
    rw [b20_23, e24, b24_0]
    simp only [Option.toList_none, List.nil_append]
    simp only [up_e (show ((2007 : Nat) == 2012) = false from rfl), up_r, up_e (show ((2001 : Nat) == 2015) = false from rfl), up_e (show ((2015 : Nat) == 2001) = false from rfl)]
    rw [wr_id (z := 0 + 1) (by omega) (by omega)]
    have e6 : i_fl (σ.2.2 2001 109) 0 8 0 6 = 0 := rfl
    rw [e6, if_pos (by omega)]
    refine ⟨by omega, by omega, by omega, by omega, by omega, ?_⟩
    rw [b20_26]
    exact q1 d Q h
  refine start ?_
  -- the end
  generalize hτ : ((σ1.1, σ1.2.1, j3_ast (j3_ast (j3_ast σ1.2.2 2001 109 0 (eV M)) 2001 109 1 c) 2001 109 5 M.no) : j3_S) = τ
  have t1 : τ.2.2 2001 109 = i_up (i_up (i_up (σ1.2.2 2001 109) 0 (eV M)) 1 c) 5 M.no := by rw [← hτ]; simp [j3_ast, j3_up]
  have tA : ∀ e o', ¬ e = 2001 → τ.2.2 e o' = σ1.2.2 e o' := by
    intro e o' he
    rw [← hτ]
    simp only [j3_ast, up_e (show (e == 2001) = false by simpa using he)]
  have tI : τ.1 = σ1.1 ∧ τ.2.1 = σ1.2.1 := by rw [← hτ]; exact ⟨rfl, rfl⟩
  have m53 : (if M.en = 1 then j3_tc false (d + 8) 21 [wO 2 109] τ (fun r σ1 => T20 (d + 8) Q 71 [wO 2 109, wO 3 o, wI m, wI n, wI c, wI c] (r.toList ++ []) σ1) else T20 (d + 8) Q 71 [wO 2 109, wO 3 o, wI m, wI n, wI c, wI c] [] τ) → T20 (d + 8) Q 42 [wO 2 109, wO 3 o, wI m, wI n, wI c, wI c] [] σ1 := by
    intro h
    have h53 : T20 (d + 8) Q 53 [wO 2 109, wO 3 o, wI m, wI n, wI c, wI c] [wI (eV M), wI 0, wA 2001 109] σ1 := by
      rw [b20_53, a1, a2, hτ]
      exact ⟨by omega, by omega, by omega, h⟩
    rw [b20_42, a1]
    unfold eV at h53
    by_cases g : M.en = -1
    · rw [if_pos g] at h53 ⊢; exact h53
    · rw [if_neg g] at h53 ⊢; exact h53
  refine m53 ?_
  have fin : ∀ ρ : j3_S, frm [] [2003] τ (ρ.1, ρ.2.1, j3_up ρ.2.2 2001 109 (τ.2.2 2001 109)) → ρ.2.2 2001 109 = i_up (τ.2.2 2001 109) 4 (tC M) → (∀ i, 0 ≤ i → i < tC M → ρ.2.2 2003 109 i = tV M i) → T20 (d + 8) Q 71 [wO 2 109, wO 3 o, wI m, wI n, wI c, wI c] [] ρ := by
    intro ρ f e1 e3
    rw [b20_71]
    refine ⟨by omega, ?_⟩
    have e0 : ρ.2.2 2001 109 0 = eV M := by rw [e1, t1]; rfl
    have eA : ∀ e o', ¬ e = 2001 → [2003].elem e = false → ρ.2.2 e o' = σ1.2.2 e o' := by
      intro e o' h1 h2
      have := f.2.2 e o' h2
      simp only [up_e (show (e == 2001) = false by simpa using h1)] at this
      rw [this]; exact tA e o' h1
    have eI : ρ.1 = σ1.1 := by rw [← tI.1]; funext e o'; exact f.2.1 e o' rfl
    rw [e0]
    refine hQ ρ ⟨⟨?_, fun e o' he => by rw [eI]; exact fI e o' he, fun e o' he => ?_⟩, by rw [eI]; exact i2000, ⟨e0, ?_, ?_, ?_, ?_, ?_, ?_⟩, fun i i0 i1 i2 => ?_, e3⟩
    · have := f.1
      rw [show ρ.2.1 = τ.2.1 from this, tI.2, p1]
    · rw [eA e o' (by simp [crA, cmA] at he; omega) (by simp [crA, cmA] at he; simp; omega)]
      exact fA e o' he
    · rw [e1, t1]; rfl
    · rw [e1, t1]; exact a3
    · rw [e1, t1]; exact a5
    · rw [e1]; rfl
    · rw [e1, t1]; rfl
    · rw [e1, t1]; exact a4
    · rw [eA 2002 109 (by decide) rfl]; exact a7 i i0 i1 i2
  by_cases g : M.en = 1
  · rw [if_pos g]
    obtain ⟨d1, d2, d3⟩ := hi1.2.1 g
    have hB := r1.2.1 (by rw [g]; decide)
    have tcd : tC M = M.dp := by unfold tC; rw [if_pos g]
    rw [e21, b21_0]
    refine ⟨by omega, ?_⟩
    refine l21 (D := M.dp) (me := M.me) (pc := M.pc) d2 (fun k k0 k1 => ?_) M.dp.toNat 0 _ _ (by omega) (by omega) ?_ (fun k k0 k1 => ?_) (fun ρ f E => ?_)
    · obtain ⟨c1, c2, c3, c4⟩ := d3 k k0 k1
      have := ((bnd_of hg.1).2.2.2 _ c1 c2).2.2
      omega
    · show τ.1 2007 109 = M.dp
      rw [tI.1]; exact hB.1
    · simp only [j3_ast, up_e (show ((2008 : Nat) == 2001) = false from rfl), up_e (show ((2009 : Nat) == 2001) = false from rfl)]
      rw [tA 2008 109 (by decide), tA 2009 109 (by decide)]
      exact hB.2 k k0 k1
    · simp only [Option.toList_none, List.nil_append]
      have i7 : τ.1 2007 109 = M.dp := by rw [tI.1]; exact hB.1
      have e1 : ρ.2.2 2001 109 = i_up (τ.2.2 2001 109) 4 M.dp := by
        rw [f.2.2 2001 109 rfl]
        simp only [j3_ast, up_r]
        rw [i7]
      refine fin ρ ⟨f.1, fun e o' he => f.2.1 e o' he, fun e o' he => ?_⟩ (by rw [e1, tcd]) (fun i i0 i1 => ?_)
      · by_cases ge : e = 2001
        · subst ge
          by_cases go : o' = 109
          · subst go; simp only [up_r]
          · simp only [up_o (show (o' == 109) = false by simpa using go)]
            rw [f.2.2 2001 o' rfl]
            simp only [j3_ast, up_o (show (o' == 109) = false by simpa using go)]
        · simp only [up_e (show (e == 2001) = false by simpa using ge)]
          rw [f.2.2 e o' he]
          simp only [j3_ast, up_e (show (e == 2001) = false by simpa using ge)]
      · rw [tcd] at i1
        rw [E i i0 i1, if_neg (by omega)]
        rfl
  · rw [if_neg g]
    have tcd : tC M = 0 := by unfold tC; rw [if_neg g]
    have e4 : τ.2.2 2001 109 4 = 0 := by rw [t1]; exact f1.2.trans b4
    refine fin τ ?_ ?_ (fun i i0 i1 => absurd i1 (by rw [tcd]; omega))
    · rw [up_id]; exact frm.rf
    · rw [tcd]
      funext z
      simp only [i_up]
      by_cases gz : z = 4
      · rw [if_pos gz, gz, e4]
      · rw [if_neg gz]
end CRUN2
