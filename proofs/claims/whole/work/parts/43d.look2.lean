/-! what ask leaves; a look -/
section LOOK2
variable {d : Nat} {Q : j3_P} {P : Pg} {σ : j3_S} {F : Fl} {i j n m nl op a b : Int}
theorem g1_l {la : Int} : (g1 P op a b la).length ≤ 1 := by
  unfold g1
  repeat' split
  all_goals simp
theorem gvS_f {σ : j3_S} {g : List Int} : frm [1012, 1013, 1014] [1011] σ (gvS σ g) := by
  cases g with
  | nil => exact frm.rf
  | cons x g => exact gS_f
theorem ask_f : frm [1012, 1013, 1014] [1011] σ (askS P m op a b σ) := zS_f.tr ((fw _ _).1.tr gvS_f)
theorem ask_w : (askS P m op a b σ).1 1012 76 = (wl P m op a b).length ∧ ∀ k : Nat, k < (wl P m op a b).length → (askS P m op a b σ).2.2 1011 76 k = (wl P m op a b).getD k 0 := by
  obtain ⟨-, h2, -, h4, -, -⟩ := fw (wl P m op a b) (zS σ)
  rw [zS_1] at h2 h4
  have e1 : (askS P m op a b σ).1 1012 76 = ((wl P m op a b).foldl wS (zS σ)).1 1012 76 := by
    unfold askS
    cases g1 P op a b (σ.2.2 1009 76 a) with
    | nil => rfl
    | cons x g => simp [gvS, gS, j3_up]
  have e2 : (askS P m op a b σ).2.2 = ((wl P m op a b).foldl wS (zS σ)).2.2 := by
    unfold askS
    cases g1 P op a b (σ.2.2 1009 76 a) with
    | nil => rfl
    | cons x g => rfl
  refine ⟨by rw [e1, h2]; omega, fun k hk => ?_⟩
  have := h4 k hk
  rw [show (0 : Int) + (k : Int) = (k : Int) by omega] at this
  rw [e2]
  exact this
theorem ask_g : (askS P m op a b σ).1 1014 76 = (g1 P op a b (σ.2.2 1009 76 a)).length ∧ (askS P m op a b σ).1 1013 76 = (g1 P op a b (σ.2.2 1009 76 a)).headD 0 := by
  obtain ⟨-, -, -, -, h5, h6⟩ := fw (wl P m op a b) (zS σ)
  have hl := g1_l (P := P) (op := op) (a := a) (b := b) (la := σ.2.2 1009 76 a)
  unfold askS
  cases hg : g1 P op a b (σ.2.2 1009 76 a) with
  | nil =>
    simp only [gvS, h5, h6]
    simp [zS, j3_up]
  | cons x g =>
    rw [hg] at hl
    have : g = [] := by
      cases g with
      | nil => rfl
      | cons y g => simp at hl
    subst this
    simp [gvS, gS, j3_up]
theorem tyof_o {w : Int} (hs : WFs P) (h0 : 0 ≤ w) (h1 : w ≤ P 3000 0) : tyo P (tyof w) ∧ wno P (tyof w) := by
  have := hs.1
  unfold tyof
  split
  · exact ⟨⟨by omega, by omega⟩, Or.inr (Or.inr (Or.inl rfl))⟩
  · exact ⟨⟨by omega, by omega⟩, Or.inr (Or.inr (Or.inr ⟨by omega, by omega⟩))⟩
theorem cw_o {t : Int} (hW : WFp P) (a0 : 0 ≤ a) (a1 : a < P 3000 0) (t0 : 0 ≤ t) (t1 : t < P 3001 0) : (cw P a t).length ≤ 4 ∧ ∀ x ∈ cw P a t, wno P x := by
  obtain ⟨hs, hm, -, hM⟩ := hW
  obtain ⟨-, -, -, ⟨p0, p1, p2⟩, -⟩ := hM t t0 t1
  refine ⟨?_, fun x hx => ?_⟩
  · simp only [cw, List.length_append, prl, List.length_map, List.length_range]
    split <;> simp <;> omega
  · simp only [cw, List.mem_append] at hx
    rcases hx with hx | hx
    · split at hx
      · rw [List.mem_singleton] at hx
        subst hx
        exact Or.inr (Or.inr (Or.inr ⟨by omega, by omega⟩))
      · cases hx
    · simp only [prl, List.mem_map, List.mem_range] at hx
      obtain ⟨k, hk, rfl⟩ := hx
      have := p2 k (by omega) (by omega)
      exact (tyof_o hs this.1 this.2).2
theorem wl_o (hW : WFp P) (m0 : 0 ≤ m) (m1 : m < P 3001 0) (hi : iok P m op a b) : (wl P m op a b).length ≤ 4 ∧ ∀ x ∈ wl P m op a b, wno P x := by
  obtain ⟨hs, hm, hF, hM⟩ := id hW
  obtain ⟨i0, i1, i2, i3, i4, i5, i6⟩ := hi
  obtain ⟨-, -, hr, -⟩ := hM m m0 m1
  unfold wl
  split
  · exact ⟨by simp, fun x hx => by rw [List.mem_singleton] at hx; exact Or.inl hx⟩
  · split
    · exact ⟨by simp, fun x hx => by rw [List.mem_singleton] at hx; exact Or.inr (Or.inr (Or.inl hx))⟩
    · split
      · exact ⟨by simp, fun x hx => by simp at hx; exact Or.inr (Or.inr (Or.inl hx))⟩
      · split
        · exact ⟨by simp, fun x hx => by rw [List.mem_singleton] at hx; exact Or.inr (Or.inl hx)⟩
        · split
          · rename_i h
            have ha := i4 (by omega)
            exact ⟨by simp, fun x hx => by rw [List.mem_singleton] at hx; exact Or.inr (Or.inr (Or.inr ⟨by omega, by omega⟩))⟩
          · split
            · rename_i h
              have ha := i4 (by omega)
              have hb := i5 (by omega)
              have hf := (hF a ha.1 ha.2).2.2 b hb.1 hb.2
              refine ⟨by simp, fun x hx => ?_⟩
              simp at hx
              rcases hx with hx | hx
              · exact Or.inr (Or.inr (Or.inr ⟨by omega, by omega⟩))
              · rw [hx]
                exact (tyof_o hs hf.1 hf.2.1).2
            · split
              · rename_i h
                have ha := i4 (by omega)
                have hb := i5 (by omega)
                have hf := (hF a ha.1 ha.2).2.2 b hb.1 hb.2
                refine ⟨by simp, fun x hx => ?_⟩
                rw [List.mem_singleton] at hx
                rw [hx]
                exact (tyof_o hs hf.1 hf.2.1).2
              · split
                · rename_i h
                  have ha := i4 (by omega)
                  have hb := i6 (by omega)
                  have hc := hm.2.2 a ha.1 ha.2
                  exact cw_o hW ha.1 ha.2 (by omega) (by omega)
                · split
                  · split
                    · exact ⟨by simp, fun x hx => by cases hx⟩
                    · refine ⟨by simp, fun x hx => ?_⟩
                      rw [List.mem_singleton] at hx
                      rw [hx]
                      exact (tyof_o hs (by omega) (by omega)).2
                  · exact ⟨by simp, fun x hx => by cases hx⟩
theorem getD_m {w : List Int} {k : Nat} (h : k < w.length) : w.getD k 0 ∈ w := by
  rw [List.getD_eq_getElem?_getD, List.getElem?_eq_getElem h]
  exact List.getElem_mem h
end LOOK2
