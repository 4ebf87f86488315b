/-! entry, on both sides -/
section ENTRY
variable {σ σc σr : j3_S} {P : Pg} {d : Nat} {Q : j3_P} {x : Int}
/-- the place of the entry, from e on -/
def eat (a : Int → Int) (x n : Int) : Nat → Int → Int
  | 0, _ => -1
  | r + 1, e => if a e = x then e else eat a x n r (e + 1)
def enV (a : Int → Int) (x n : Int) (r : Nat) (e : Int) : Int := if eat a x n r e = -1 then (if n < 6 then n else -1) else eat a x n r e
def enC (σ : j3_S) (x : Int) : j3_S := (j3_up (j3_up σ.1 9009 0 (σ.1 9009 0 + 1)) 9006 0 0, σ.2.1, j3_ast σ.2.2 9008 0 (σ.1 9009 0) x)
def enR (σ : j3_S) (x : Int) : j3_S := (j3_up (j3_up σ.1 10045 121 (σ.1 10045 121 + 1)) 10044 121 0, σ.2.1, j3_ast σ.2.2 10046 121 (σ.1 10045 121) x)
theorem l139 (n0 : 0 ≤ σ.1 9009 0) (n6 : σ.1 9009 0 ≤ 6) : ∀ (r : Nat) (e : Int), e + r = σ.1 9009 0 → 0 ≤ e → (∀ v, v = enV (σ.2.2 9008 0) x (σ.1 9009 0) r e → Q (some (wI v)) (if eat (σ.2.2 9008 0) x (σ.1 9009 0) r e = -1 ∧ σ.1 9009 0 < 6 then enC σ x else σ)) → T139 d Q 26 [wO 9 0, wI x, wI e] [] σ
  | 0, e, he, e0, hQ => by
    have hQ := hQ _ rfl
    rw [b139_26, if_neg (by omega)]
    simp only [enV, eat, if_true, true_and] at hQ
    by_cases g : σ.1 9009 0 < 6
    · rw [if_pos g] at hQ ⊢
      rw [if_pos g] at hQ
      refine ⟨by omega, Or.inl rfl, ?_⟩
      rw [wr_id (z := σ.1 9009 0 + 1) (by omega) (by omega), wr_id (by omega) (by omega), show σ.1 9009 0 + 1 - 1 = σ.1 9009 0 by omega]
      exact hQ
    · rw [if_neg g] at hQ ⊢
      rw [if_neg g] at hQ
      exact hQ
  | r + 1, e, he, e0, hQ => by
    rw [b139_26, if_pos (by omega)]
    refine ⟨by omega, ?_⟩
    by_cases g : σ.2.2 9008 0 e = x
    · have hQ := hQ _ rfl
      rw [if_pos g]
      simp only [enV, eat, if_pos g, if_neg (show ¬ e = -1 by omega)] at hQ
      rw [if_neg (fun h => by omega)] at hQ
      exact hQ
    · rw [if_neg g, wr_id (by omega) (by omega)]
      refine l139 n0 n6 r (e + 1) (by omega) (by omega) (fun v hv => ?_)
      have := hQ v (by rw [hv]; simp only [enV, eat, if_neg g])
      simp only [eat, if_neg g] at this
      exact this
theorem l191 (n0 : 0 ≤ σ.1 10045 121) (n6 : σ.1 10045 121 ≤ 6) : ∀ (r : Nat) (e : Int), e + r = σ.1 10045 121 → 0 ≤ e → (∀ v, v = enV (σ.2.2 10046 121) x (σ.1 10045 121) r e → Q (some (wI v)) (if eat (σ.2.2 10046 121) x (σ.1 10045 121) r e = -1 ∧ σ.1 10045 121 < 6 then enR σ x else σ)) → T191 d Q 28 [wO 10 121, wI x, wI e] [] σ
  | 0, e, he, e0, hQ => by
    have hQ := hQ _ rfl
    rw [b191_28, if_neg (by omega)]
    simp only [enV, eat, if_true, true_and] at hQ
    by_cases g : σ.1 10045 121 < 6
    · rw [if_pos g] at hQ
      rw [if_pos g] at hQ
      rw [if_neg (by omega)]
      refine ⟨by omega, Or.inl rfl, ?_⟩
      rw [wr_id (z := σ.1 10045 121 + 1) (by omega) (by omega), wr_id (by omega) (by omega), show σ.1 10045 121 + 1 - 1 = σ.1 10045 121 by omega]
      exact hQ
    · rw [if_neg g] at hQ
      rw [if_neg g] at hQ
      rw [if_pos (by omega)]
      exact hQ
  | r + 1, e, he, e0, hQ => by
    rw [b191_28, if_pos (by omega)]
    refine ⟨by omega, ?_⟩
    by_cases g : σ.2.2 10046 121 e = x
    · have hQ := hQ _ rfl
      rw [if_pos g]
      simp only [enV, eat, if_pos g, if_neg (show ¬ e = -1 by omega)] at hQ
      rw [if_neg (fun h => by omega)] at hQ
      exact hQ
    · rw [if_neg g, wr_id (by omega) (by omega)]
      refine l191 n0 n6 r (e + 1) (by omega) (by omega) (fun v hv => ?_)
      have := hQ v (by rw [hv]; simp only [enV, eat, if_neg g])
      simp only [eat, if_neg g] at this
      exact this
theorem eat_cg {a b : Int → Int} {n : Int} : ∀ (r : Nat) (e : Int), (∀ i, e ≤ i → i < e + r → a i = b i) → eat a x n r e = eat b x n r e
  | 0, _, _ => rfl
  | r + 1, e, h => by
    simp only [eat]
    rw [h e (by omega) (by omega), eat_cg r (e + 1) (fun i i0 i1 => h i (by omega) (by omega))]
theorem JJ.ent (h : JJ σc σr) (hP : gpR σc σr P) (x0 : 0 ≤ x) (x1 : x < P 3001 0) (x2 : P 3013 x = 1) (x3 : P 3015 x = 0) (n6 : σc.1 9009 0 < 6) : JJ (enC σc x) (enR σr x) := by
  obtain ⟨⟨a1, a2, a3, a4, a5⟩, ⟨b1, b2, b3⟩, ⟨n0, n1, n2, n3⟩, hy⟩ := hP
  have fc : frm [9009, 9006] [9008] σc (enC σc x) := frm.I rfl (frm.I rfl (frm.A rfl frm.rf))
  have fr : frm [10045, 10044] [10046] σr (enR σr x) := frm.I rfl (frm.I rfl (frm.A rfl frm.rf))
  have ci := fc.2.1
  have ca := fc.2.2
  have ri := fr.2.1
  have ra := fr.2.2
  have c6 : (enC σc x).1 9006 0 = 0 := by simp [enC, j3_up]
  have r6 : (enR σr x).1 10044 121 = 0 := by simp [enR, j3_up]
  have c9 : (enC σc x).1 9009 0 = σc.1 9009 0 + 1 := by simp [enC, j3_up]
  have r9 : (enR σr x).1 10045 121 = σc.1 9009 0 + 1 := by simp [enR, j3_up, n2]
  have c8 : ∀ e, (enC σc x).2.2 9008 0 e = if e = σc.1 9009 0 then x else σc.2.2 9008 0 e := fun e => by simp [enC, j3_ast, j3_up, i_up]
  have r8 : ∀ e, (enR σr x).2.2 10046 121 e = if e = σc.1 9009 0 then x else σr.2.2 10046 121 e := fun e => by simp [enR, j3_ast, j3_up, i_up, n2]
  have hf := h.1.2.2.2.1
  refine ⟨⟨h.1.1.fr fc fr rfl rfl rfl rfl, h.1.2.1.fr fc fr rfl rfl rfl, h.1.2.2.1.fr fc fr rfl rfl rfl rfl, ⟨⟨?_, ?_⟩, ⟨?_, ?_⟩, ?_, ?_⟩, h.1.2.2.2.2⟩, fun q => ⟨P, ?_, fun q => absurd r6 q⟩⟩
  · rw [ci 9005 0 rfl, ri 10043 121 rfl]; exact hf.1.1
  · rw [ri 10043 121 rfl]; exact hf.1.2
  · rw [c6, r6]
  · exact Or.inl r6
  · intro q; exact absurd r6 q
  · rw [ri 10042 121 rfl]; exact hf.2.2.2
  · unfold gpR
    rw [show (enC σc x).2.1 = σc.2.1 from rfl, c9, r9, ci 9007 0 rfl, ci 9013 0 rfl]
    refine ⟨⟨a1.fr fc ⟨rfl, rfl⟩ ⟨fun e he => ?_, fun e h1 h2 => ?_⟩, fun c c0 c1 => by rw [ca 3004 _ rfl]; exact a2 c c0 c1, a3.mv (smS.fr fr rfl) (bnd_of a4.1), a4, a5⟩, ⟨fun m i m0 m1 i0 i1 => by rw [ca 4 _ rfl]; exact b1 m i m0 m1 i0 i1, fun m m0 m1 => ?_, ?_⟩, ⟨by omega, by omega, rfl, fun e e0 e1 => ?_⟩, ?_⟩
    · simp; omega
    · simp; omega
    · have := b2 m m0 m1
      unfold SR at this ⊢
      rw [ra 10035 121 rfl, ra 10036 121 rfl, ra 10037 121 rfl, ra 10038 121 rfl]
      exact this
    · unfold FC
      rw [ca 1005 76 rfl, ca 1006 76 rfl, ca 1007 76 rfl]
      exact b3
    · rw [c8, r8]
      by_cases ge : e = σc.1 9009 0
      · rw [if_pos ge, if_pos ge]
        exact ⟨rfl, x0, x1, x2, x3⟩
      · rw [if_neg ge, if_neg ge]
        exact n3 e e0 (by omega)
    · rw [ra 10034 121 rfl]; exact hy
theorem h139 (h : JJ σc σr) : q2 JJ 139 191 [wI x] σc σr := by
  have hf := h.1.2.2.2.1
  have hz := h.1.2.2.2.2.nz
  by_cases g : σr.1 10043 121 = 0
  · exact n139 (hf.1.1.trans g) g h.th
  obtain ⟨P, hP, hS⟩ := h.2 g
  obtain ⟨a1, a2, a3, a4, a5⟩ := hP.1
  have hM := a4.1.2.1.2.1
  by_cases gx : 0 ≤ x ∧ x < P 3001 0 ∧ P 3013 x = 1 ∧ P 3015 x = 0
  · obtain ⟨x0, x1, x2, x3⟩ := gx
    obtain ⟨n0, n1, n2, n3⟩ := hP.2.2.1
    unfold q2
    rw [e139, b139_0, if_neg (by rw [hf.1.1]; exact g)]
    refine ⟨hz.1, ?_⟩
    rw [s44 a1]
    simp only [Option.toList_some, List.cons_append, List.nil_append]
    rw [b139_7]
    have : (decide (0 ≤ x) && decide (x < P 3001 0)) = true := by simp [x0, x1]
    obtain ⟨-, -, k3, -, k5, -⟩ := (a1.2.2.2 x x0 x1).1
    rw [this, if_neg (show ¬ b2i true = 0 by decide), k3, k5, if_neg (by omega), if_pos x3]
    refine ⟨hz.1, by omega, hz.1, by omega, ?_⟩
    refine l139 n0 n1 (σc.1 9009 0).toNat 0 (by omega) (by omega) (fun v hv => ⟨v, rfl, ?_⟩)
    rw [e191, b191_0, if_neg g, if_neg (by omega), a3.2.1, if_pos x1]
    obtain ⟨-, -, j3, -, j5, -⟩ := (a3.2.2.2 x x0 x1).1
    simp only [Int.mul_zero, Int.zero_add] at j3 j5
    rw [j3, j5, if_neg (by omega), if_neg (by omega)]
    refine ⟨by decide, by omega, by omega, ?_⟩
    show T191 19 _ 28 [wO 10 121, wI x, wI 0] [] (th0 σr)
    have t2 : (th0 σr).1 10045 121 = σc.1 9009 0 := (th0_r rfl).trans n2
    have hcg : eat ((th0 σr).2.2 10046 121) x ((th0 σr).1 10045 121) (σc.1 9009 0).toNat 0 = eat (σc.2.2 9008 0) x (σc.1 9009 0) (σc.1 9009 0).toNat 0 := by
      rw [t2]
      exact eat_cg _ _ (fun i i0 i1 => (n3 i i0 (by omega)).1)
    refine l191 (by rw [t2]; exact n0) (by rw [t2]; exact n1) (σc.1 9009 0).toNat 0 (by rw [t2]; omega) (by omega) (fun v' hv' => ⟨?_, ?_⟩)
    · rw [hv', hv]
      unfold enV
      rw [hcg, t2]
    · rw [hcg, t2]
      by_cases gn : eat (σc.2.2 9008 0) x (σc.1 9009 0) (σc.1 9009 0).toNat 0 = -1 ∧ σc.1 9009 0 < 6
      · rw [if_pos gn, if_pos gn]
        exact h.th.ent (hP.mv rfl ⟨⟨rfl, rfl⟩, fun _ _ => ⟨rfl, rfl⟩⟩ (fun _ _ _ _ _ _ _ => rfl) (fun _ _ => ⟨rfl, rfl⟩) (fun _ _ => rfl) (fun _ _ => rfl) (Or.inr ⟨rfl, fun _ _ => rfl⟩) ⟨rfl, th0_r rfl, rfl, rfl, rfl⟩) x0 x1 x2 x3 gn.2
      · rw [if_neg gn, if_neg gn]
        exact h.th
  · refine q2_tell (v := -1) (fun Q hQ => ?_) (fun Q hQ => ?_) h.th
    · rw [e139, b139_0, if_neg (by rw [hf.1.1]; exact g)]
      refine ⟨hz.1, ?_⟩
      rw [s44 a1]
      simp only [Option.toList_some, List.cons_append, List.nil_append]
      rw [b139_7]
      by_cases gr : 0 ≤ x ∧ x < P 3001 0
      · have : (decide (0 ≤ x) && decide (x < P 3001 0)) = true := by simp [gr]
        obtain ⟨-, q1, -, q2, -⟩ := a4.1.2.2.2 x gr.1 gr.2
        obtain ⟨-, -, k3, -, k5, -⟩ := (a1.2.2.2 x gr.1 gr.2).1
        rw [this, if_neg (show ¬ b2i true = 0 by decide), k3, k5]
        refine ⟨hz.1, by omega, ?_⟩
        by_cases g3 : P 3013 x = 0
        · rw [if_pos g3]; exact hQ
        rw [if_neg g3, if_neg (by omega)]
        exact ⟨hz.1, by omega, hQ⟩
      · have : (decide (0 ≤ x) && decide (x < P 3001 0)) = false := by simp; omega
        rw [this, if_pos (show b2i false = 0 from rfl)]
        exact hQ
    · rw [e191, b191_0, if_neg g]
      by_cases g1 : x < 0
      · rw [if_pos g1]; exact hQ
      rw [if_neg g1, a3.2.1]
      refine ⟨by decide, ?_⟩
      by_cases g2 : x < P 3001 0
      · obtain ⟨-, q1, -, q2, -⟩ := a4.1.2.2.2 x (by omega) g2
        obtain ⟨-, -, k3, -, k5, -⟩ := (a3.2.2.2 x (by omega) g2).1
        simp only [Int.mul_zero, Int.zero_add] at k3 k5
        rw [if_pos g2, k3, k5]
        refine ⟨by omega, ?_⟩
        by_cases g3 : P 3013 x = 0
        · rw [if_pos g3]; exact hQ
        rw [if_neg g3, if_pos (by omega)]
        exact ⟨by omega, hQ⟩
      · rw [if_neg g2]; exact hQ
end ENTRY
