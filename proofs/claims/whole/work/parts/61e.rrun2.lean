section RRUN2
variable {σ σ' τ : j3_S} {P : Pg} {T : Int → Fl} {d : Nat} {Q : j3_P} {m n s v c y1 y2 : Int} {w v1 v2 : Int → Int} {M : Mc}
def rT (σ : j3_S) (M : Mc) (c b : Int) : Prop := (σ.2.2 10078 121 0 = eV M ∧ σ.2.2 10078 121 1 = c ∧ σ.2.2 10078 121 2 = M.tr ∧ σ.2.2 10078 121 3 = M.ou) ∧ σ.2.2 10078 121 4 = tC M ∧ σ.2.2 10078 121 5 = M.no ∧ σ.2.2 10078 121 6 = M.mx ∧ σ.2.2 10078 121 7 = b
theorem s241b (hg : good P) (hR : RR σ P M) (hi : MI P T M) (hc : M.en = -1 → c = n) (s0 : s = 0 ∨ s = 1) (hs : σ.1 10093 121 = s) (h8 : ∀ i, 0 ≤ i → i < 8 → σ.2.2 10078 121 i = 0) (hg1 : s = 0 → ∀ k, 0 ≤ k → k < M.dp → w k = 1 ∧ v1 k = tV M k) (hw : s = 1 → M.en = 1 → ∀ k, 0 ≤ k → k < M.dp → σ.2.2 10030 121 (9600 + 120 * M.me (M.dp - 1 - k) + M.pc (M.dp - 1 - k)) = w k ∧ (w k = 0 ∨ (w k = 1 ∧ σ.2.2 10031 121 (9600 + 120 * M.me (M.dp - 1 - k) + M.pc (M.dp - 1 - k)) = v1 k) ∨ (w k = 2 ∧ σ.2.2 10031 121 (9600 + 120 * M.me (M.dp - 1 - k) + M.pc (M.dp - 1 - k)) = v1 k ∧ σ.2.2 10032 121 (9600 + 120 * M.me (M.dp - 1 - k) + M.pc (M.dp - 1 - k)) = v2 k))) (hQ : ∀ σ', frm [10094] [10078, 10091, 10092] σ σ' → rT σ' M c (bkS w v1 v2 (tC M).toNat).1 → (∀ i, 0 ≤ i → i < tC M → σ'.2.2 10091 121 i = tV M i) → (∀ i, 0 ≤ i → i < (bkS w v1 v2 (tC M).toNat).1 → σ'.2.2 10092 121 i = (bkS w v1 v2 (tC M).toNat).2 i) → Q (some (wI (eV M))) σ') : T241 (d + 2) Q 124 [wO 10 121, wI y1, wI y2, wI n, wI c] [] σ := by
  obtain ⟨⟨⟨a1, a2, a3, a4⟩, a5, a6, a7⟩, hB, -⟩ := hR
  have fin : ∀ ρ : j3_S, frm [10094] [10078, 10091, 10092] σ ρ → ρ.1 10094 121 = eV M → ρ.2.2 10078 121 4 = tC M → ρ.2.2 10078 121 7 = (bkS w v1 v2 (tC M).toNat).1 → (∀ i, 0 ≤ i → i < tC M → ρ.2.2 10091 121 i = tV M i) → (∀ i, 0 ≤ i → i < (bkS w v1 v2 (tC M).toNat).1 → ρ.2.2 10092 121 i = (bkS w v1 v2 (tC M).toNat).2 i) → T241 (d + 2) Q 144 [wO 10 121, wI y1, wI y2, wI n, wI c] [] ρ := by
    intro ρ f e1 e4 e7 e91 e92
    rw [b241_144, e1, f.2.1 10095 121 rfl, f.2.1 10089 121 rfl, f.2.1 10085 121 rfl, f.2.1 10096 121 rfl, a2, a3, a4, a5]
    refine ⟨by omega, by omega, by omega, by omega, by omega, by omega, hQ _ (f.tr (frm.A rfl (frm.A rfl (frm.A rfl (frm.A rfl (frm.A rfl (frm.A rfl frm.rf))))))) ⟨⟨?_, ?_, ?_, ?_⟩, ?_, ?_, ?_, ?_⟩ (fun i i0 i1 => ?_) (fun i i0 i1 => ?_)⟩
    · simp [j3_ast, j3_up, i_up]
    · simp [j3_ast, j3_up, i_up]
    · simp [j3_ast, j3_up, i_up]
    · simp [j3_ast, j3_up, i_up]
    · simp [j3_ast, j3_up, i_up]; exact e4
    · simp [j3_ast, j3_up, i_up]
    · simp [j3_ast, j3_up, i_up]
    · simp [j3_ast, j3_up, i_up]; exact e7
    · simp only [j3_ast, up_e (show ((10091 : Nat) == 10078) = false from rfl)]
      exact e91 i i0 i1
    · simp only [j3_ast, up_e (show ((10092 : Nat) == 10078) = false from rfl)]
      exact e92 i i0 i1
  rw [b241_124, a1]
  rcases hi.2.2 with g | g | g
  · have tcd : tC M = 0 := by unfold tC; rw [if_neg (by omega)]
    have ev : eV M = 2 := by unfold eV; rw [if_pos g]
    rw [if_pos (by omega), if_pos (hc g), b241_124]
    dsimp only
    have e2 : j3_up σ.1 10094 121 2 10094 121 = 2 := up_r
    rw [if_neg (show ¬ j3_up σ.1 10094 121 2 10094 121 < 0 by rw [e2]; omega), if_neg (show ¬ j3_up σ.1 10094 121 2 10094 121 = 1 by rw [e2]; omega)]
    exact fin _ (frm.I rfl frm.rf) (by rw [ev]; exact e2) (by rw [tcd]; exact h8 4 (by omega) (by omega)) (by rw [tcd]; exact h8 7 (by omega) (by omega)) (fun i i0 i1 => absurd i1 (by rw [tcd]; omega)) (fun i i0 i1 => absurd i1 (by rw [tcd]; show ¬ i < 0; omega))
  · have tcd : tC M = 0 := by unfold tC; rw [if_neg (by omega)]
    have ev : eV M = M.en := by unfold eV; rw [if_neg (by omega)]
    rw [if_neg (by omega), if_neg (by omega)]
    exact fin _ frm.rf (by rw [ev]; exact a1) (by rw [tcd]; exact h8 4 (by omega) (by omega)) (by rw [tcd]; exact h8 7 (by omega) (by omega)) (fun i i0 i1 => absurd i1 (by rw [tcd]; omega)) (fun i i0 i1 => absurd i1 (by rw [tcd]; show ¬ i < 0; omega))
  · have tcd : tC M = M.dp := by unfold tC; rw [if_pos g]
    have ev : eV M = M.en := by unfold eV; rw [if_neg (by omega)]
    obtain ⟨d1, d2, d3⟩ := hi.2.1 g
    have hB := hB (by omega)
    rw [if_neg (by omega), if_pos g, e240, b240_0]
    refine l240 (D := M.dp) (me := fun k => M.me (M.dp - 1 - k)) (pc := fun k => M.pc (M.dp - 1 - k)) (s := s) (w := w) (v1 := v1) (v2 := v2) (σ0 := σ) s0 d2 hB.1 hs (fun k k0 k1 => ?_) (fun z k k0 k1 => hg1 z k k0 k1) (fun z k k0 k1 => hw z g k k0 k1) M.dp.toNat 0 _ _ _ σ (by omega) ⟨frm.rf, fun i i0 i1 => absurd i1 (by omega), fun i i0 i1 => absurd (show i < 0 from i1) (by omega)⟩ (fun ρ hb => ?_)
    · obtain ⟨c1, c2, c3, c4⟩ := d3 (M.dp - 1 - k) (by omega) (by omega)
      have := ((bnd_of hg.1).2.2.2 _ c1 c2).2.2
      have h80 := hg.1.2.1.2.1
      have := hB.2 (M.dp - 1 - k) (by omega) (by omega)
      exact ⟨c1, by omega, c3, by omega, this⟩
    · simp only [Option.toList_none, List.nil_append]
      rw [show 0 + M.dp.toNat = (tC M).toNat by rw [tcd]; omega] at hb ⊢
      obtain ⟨b1, b2, b3⟩ := hb
      have fb : frm [10094] [10078, 10091, 10092] σ ρ := b1.wd (fun _ _ => rfl) (sub_el rfl)
      refine fin _ (fb.tr (frm.A rfl (frm.A rfl frm.rf))) ?_ ?_ ?_ (fun i i0 i1 => ?_) (fun i i0 i1 => ?_)
      · show ρ.1 10094 121 = eV M
        rw [b1.2.1 10094 121 rfl, ev]; exact a1
      · simp [j3_ast, j3_up, i_up]; exact tcd.symm
      · simp [j3_ast, j3_up, i_up]
      · simp only [j3_ast, up_e (show ((10091 : Nat) == 10078) = false from rfl)]
        rw [tcd] at i1
        exact b2 i i0 i1
      · simp only [j3_ast, up_e (show ((10092 : Nat) == 10078) = false from rfl)]
        exact b3 i i0 i1
/-- pointers but 7, 8, 9 don't matter -/
theorem JJ.pt {σc σr : j3_S} {p : Nat → Nat} (h : JJ σc σr) (h7 : p 7 = σc.2.1 7) (h8 : p 8 = σc.2.1 8) (h9 : p 9 = σc.2.1 9) : JJ (σc.1, p, σc.2.2) σr := by
  obtain ⟨⟨q1, q2, q3, q4, q5⟩, q6⟩ := h
  refine ⟨⟨q1, q2, q3, q4, ?_⟩, fun z => ?_⟩
  · unfold ptR at q5 ⊢
    dsimp only
    rw [h7, h8, h9]
    exact q5
  · obtain ⟨P, g, s⟩ := q6 z
    refine ⟨P, ?_, fun y => ?_⟩
    · unfold gpR at g ⊢
      dsimp only
      rw [h7]
      exact g
    · obtain ⟨P', s⟩ := s y
      refine ⟨P', ?_⟩
      unfold smR at s ⊢
      dsimp only
      rw [h8]
      exact s
end RRUN2
