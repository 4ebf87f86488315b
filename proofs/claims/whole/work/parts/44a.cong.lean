/-! rows that agree where they count -/
def agr (n : Int) (f g : Int → Int) : Prop := ∀ k, 0 ≤ k → k < n → f k = g k
def Feq (nl : Int) (F G : Fl) : Prop := (∀ i, F.1 i = G.1 i) ∧ ∀ i, 0 ≤ i → i < 120 → 0 ≤ F.1 i → agr (F.1 i) (F.2.1 i) (G.2.1 i) ∧ agr nl (F.2.2 i) (G.2.2 i)
def tys (P : Pg) (n : Int) (f : Int → Int) : Prop := ∀ k, 0 ≤ k → k < n → tyo P (f k)
section CONG
variable {P : Pg} {F G : Fl} {i j n m nl op a b q : Int} {s t l l' : Int → Int}
theorem agr.rf : agr n s s := fun _ _ _ => rfl
theorem agr.sy (h : agr n s t) : agr n t s := fun k k0 k1 => (h k k0 k1).symm
theorem Feq.rf : Feq nl F F := ⟨fun _ => rfl, fun _ _ _ _ => ⟨agr.rf, agr.rf⟩⟩
theorem af_c {w : List Int} (h : agr (q + w.length) s t) (q0 : 0 ≤ q) : ∀ k : Nat, k ≤ w.length → af P s w q k = af P t w q k
  | 0, _ => rfl
  | k + 1, hk => by
    simp only [af]
    rw [h (q + (k : Int)) (by omega) (by omega), af_c h q0 k (by omega)]
theorem psh_c : ∀ (G : List Int) (q : Int) {s t : Int → Int}, agr q s t → agr (q + G.length) (psh s q G) (psh t q G)
  | [], q, s, t, h => fun k k0 k1 => h k k0 (by simpa using k1)
  | x :: G, q, s, t, h => by
    have h1 := psh_c G (q + 1) (s := i_up s q x) (t := i_up t q x) (fun k k0 k1 => by
      simp only [i_up]
      split
      · rfl
      · exact h k k0 (by omega))
    intro k k0 k1
    exact h1 k k0 (by simp only [List.length_cons] at k1; omega)
theorem psh_o : ∀ (G : List Int) (q : Int) {s : Int → Int}, (∀ x ∈ G, tyo P x) → tys P q s → tys P (q + G.length) (psh s q G)
  | [], q, s, hG, h => fun k k0 k1 => h k k0 (by simpa using k1)
  | x :: G, q, s, hG, h => by
    have h1 := psh_o G (q + 1) (s := i_up s q x) (fun y hy => hG y (List.mem_cons_of_mem _ hy)) (fun k k0 k1 => by
      simp only [i_up]
      split
      · exact hG x List.mem_cons_self
      · exact h k k0 (by omega))
    intro k k0 k1
    exact h1 k k0 (by simp only [List.length_cons] at k1; omega)
theorem wl3 : wl P m 3 a b = [-1] := by simp [wl]
theorem wl5 : wl P m 5 a b = [-1] := by simp [wl]
theorem gx_c (hs : agr n s t) (hl : agr nl l l') (h2 : op = 2 → 0 ≤ a ∧ a < nl) (h5 : op = 5 → 0 ≤ q ∧ q < n) : gx P op a b s l q = gx P op a b t l' q := by
  unfold gx
  by_cases g : op = 5
  · have := h5 g
    rw [if_pos g, if_pos g, hs q this.1 this.2]
  · rw [if_neg g, if_neg g]
    by_cases g2 : op = 2
    · have := h2 g2
      rw [hl a this.1 this.2]
    · simp [g1, g2]
theorem w_q (h : ¬ n < (wl P m op a b).length) : op = 5 → 0 ≤ n - ((wl P m op a b).length : Int) ∧ n - ((wl P m op a b).length : Int) < n := by
  intro g
  subst g
  rw [wl5] at h ⊢
  simp only [List.length_singleton] at h ⊢
  omega
theorem exf_c (hs : agr n s t) (hl : agr nl l l') (h2 : op = 2 → 0 ≤ a ∧ a < nl) : exf P m op a b n s l = exf P m op a b n t l' := by
  unfold exf
  by_cases g : n < (wl P m op a b).length
  · rw [if_pos g, if_pos g]
  · rw [if_neg g, if_neg g, af_c (s := s) (t := t) (fun k k0 k1 => hs k k0 (by omega)) (by omega) _ (Nat.le_refl _), gx_c hs hl h2 (w_q g)]
    by_cases g2 : op = 2
    · have := h2 g2
      rw [hl a this.1 this.2]
    · simp only [g2, false_and]
theorem exn_c (h0 : ¬ n < (wl P m op a b).length) (hs : agr n s t) (hl : agr nl l l') (h2 : op = 2 → 0 ≤ a ∧ a < nl) : exn P m op a b n s l = exn P m op a b n t l' := by
  unfold exn
  rw [gx_c hs hl h2 (w_q h0)]
theorem exs_c (h0 : ¬ n < (wl P m op a b).length) (hs : agr n s t) (hl : agr nl l l') (h2 : op = 2 → 0 ≤ a ∧ a < nl) : agr (exn P m op a b n s l) (exs P m op a b n s l) (exs P m op a b n t l') := by
  unfold exn exs
  rw [← gx_c hs hl h2 (w_q h0)]
  exact psh_c _ _ (fun k k0 k1 => hs k k0 (by omega))
theorem exl_c (h0 : ¬ n < (wl P m op a b).length) (hs : agr n s t) (hl : agr nl l l') : agr nl (exl P m op a b n s l) (exl P m op a b n t l') := by
  unfold exl
  by_cases g : op = 3
  · subst g
    rw [if_pos rfl, if_pos rfl, wl3] at *
    simp only [List.length_singleton] at h0 ⊢
    intro k k0 k1
    simp only [i_up]
    split
    · exact hs _ (by omega) (by omega)
    · exact hl k k0 k1
  · rw [if_neg g, if_neg g]
    exact hl
theorem exf0 (h : exf P m op a b n s l = 0) : ¬ n < (wl P m op a b).length ∧ af P s (wl P m op a b) (n - (wl P m op a b).length) (wl P m op a b).length = true ∧ ¬ (op = 2 ∧ l a = 0) ∧ exn P m op a b n s l ≤ 10 := by
  unfold exf at h
  by_cases g : n < (wl P m op a b).length
  · rw [if_pos g] at h; omega
  · rw [if_neg g] at h
    refine ⟨g, ?_⟩
    cases ha : af P s (wl P m op a b) (n - (wl P m op a b).length) (wl P m op a b).length
    · rw [ha, if_pos rfl] at h; omega
    · rw [ha, if_neg (by simp)] at h
      refine ⟨rfl, ?_⟩
      by_cases g2 : op = 2 ∧ l a = 0
      · rw [if_pos g2] at h; omega
      · rw [if_neg g2] at h
        refine ⟨g2, ?_⟩
        unfold exn
        by_cases g3 : 10 < n - (wl P m op a b).length + (gx P op a b s l (n - (wl P m op a b).length)).length
        · rw [if_pos g3] at h; omega
        · omega
theorem g1_o {la : Int} (hW : WFp P) (hi : iok P m op a b) (hla : op = 2 → tyo P la) : ∀ x ∈ g1 P op a b la, tyo P x := by
  obtain ⟨hs, hm, hF, hM⟩ := id hW
  obtain ⟨i0, i1, i2, i3, i4, i5, i6⟩ := hi
  have h1 := hs.1
  unfold g1
  intro x hx
  split at hx
  · rw [List.mem_singleton] at hx; rw [hx]; exact ⟨by omega, by omega⟩
  · split at hx
    · rw [List.mem_singleton] at hx; rw [hx]; exact ⟨by omega, by omega⟩
    · split at hx
      · rename_i h; rw [List.mem_singleton] at hx; rw [hx]; exact hla h
      · split at hx
        · rw [List.mem_singleton] at hx; rw [hx]; exact ⟨by omega, by omega⟩
        · split at hx
          · have := i4 (by omega)
            rw [List.mem_singleton] at hx; rw [hx]; exact ⟨by omega, by omega⟩
          · split at hx
            · have ha := i4 (by omega)
              have hb := i5 (by omega)
              have hf := (hF a ha.1 ha.2).2.2 b hb.1 hb.2
              rw [List.mem_singleton] at hx; rw [hx]; exact (tyof_o hs hf.1 hf.2.1).1
            · split at hx
              · have ha := i4 (by omega)
                have hb := i6 (by omega)
                have hc := hm.2.2 a ha.1 ha.2
                have hr := (hM (P 3007 a + b) (by omega) (by omega)).2.2.1
                split at hx
                · cases hx
                · rw [List.mem_singleton] at hx; rw [hx]; exact (tyof_o hs (by omega) (by omega)).1
              · split at hx
                · rw [List.mem_singleton] at hx; rw [hx]; exact ⟨by omega, by omega⟩
                · cases hx
theorem gx_o (hW : WFp P) (hi : iok P m op a b) (hnl : nl = P 3017 m) (h0 : ¬ n < (wl P m op a b).length) (hs : tys P n s) (hl : tys P nl l) : ∀ x ∈ gx P op a b s l (n - (wl P m op a b).length), tyo P x := by
  unfold gx
  by_cases g : op = 5
  · have := w_q h0 g
    rw [if_pos g]
    intro x hx
    simp at hx
    rw [hx]
    exact hs _ this.1 this.2
  · rw [if_neg g]
    exact g1_o hW hi (fun h => hl a (hi.2.2.1 (Or.inl h)).1 (by rw [hnl]; exact (hi.2.2.1 (Or.inl h)).2))
theorem exs_o (hW : WFp P) (hi : iok P m op a b) (hnl : nl = P 3017 m) (h0 : ¬ n < (wl P m op a b).length) (hs : tys P n s) (hl : tys P nl l) : tys P (exn P m op a b n s l) (exs P m op a b n s l) := psh_o _ _ (gx_o hW hi hnl h0 hs hl) (fun k k0 k1 => hs k k0 (by omega))
theorem exl_o (h0 : ¬ n < (wl P m op a b).length) (hs : tys P n s) (hl : tys P nl l) : tys P nl (exl P m op a b n s l) := by
  unfold exl
  by_cases g : op = 3
  · subst g
    rw [if_pos rfl, wl3] at *
    simp only [List.length_singleton] at h0 ⊢
    intro k k0 k1
    simp only [i_up]
    split
    · exact hs _ (by omega) (by omega)
    · exact hl k k0 k1
  · rw [if_neg g]
    exact hl
theorem arf_c (hF : Feq nl F G) (hs : agr n s t) (j0 : 0 ≤ j) (j1 : j < 120) : arf F j n s = arf G j n t := by
  unfold arf
  rw [← hF.1 j]
  by_cases g : F.1 j < 0
  · rw [if_pos g, if_pos g]
  · rw [if_neg g, if_neg g]
    by_cases g2 : ¬ F.1 j = n
    · rw [if_pos g2, if_pos g2]
    · rw [if_neg g2, if_neg g2]
      have hj := (hF.2 j j0 j1 (by omega)).1
      rw [eqi_c (s' := G.2.1 j) (t' := t) n.toNat 0 (fun z z0 z1 => ⟨hj z z0 (by omega), hs z z0 (by omega)⟩)]
theorem arc_c (hF : Feq nl F G) (hs : agr n s t) (hl : agr nl l l') (j0 : 0 ≤ j) (j1 : j < 120) (hn : F.1 j < 0 ∨ F.1 j = n) : arc P nl F j n s l = arc P nl G j n t l' := by
  unfold arc
  rw [← hF.1 j]
  by_cases g : F.1 j < 0
  · simp [g]
  · have hj := hF.2 j j0 j1 (by omega)
    have hn' : F.1 j = n := by omega
    by_cases l0 : nl < 0
    · rw [dif_c (s' := G.2.1 j) (t' := t) n.toNat 0 (fun z z0 z1 => ⟨hj.1 z z0 (by omega), hs z z0 (by omega)⟩), show nl.toNat = 0 by omega]
      rfl
    · rw [dif_c (s' := G.2.1 j) (t' := t) n.toNat 0 (fun z z0 z1 => ⟨hj.1 z z0 (by omega), hs z z0 (by omega)⟩), dif_c (s' := G.2.2 j) (t' := l') nl.toNat 0 (fun z z0 z1 => ⟨hj.2 z z0 (by omega), hl z z0 (by omega)⟩)]
theorem arF_c (hF : Feq nl F G) (hs : agr n s t) (hl : agr nl l l') (hn : F.1 j < 0 ∨ F.1 j = n) : Feq nl (arF P nl F j n s l) (arF P nl G j n t l') := by
  unfold arF
  rw [← hF.1 j]
  by_cases g : F.1 j < 0
  · rw [if_pos g, if_pos g]
    refine ⟨fun i => ?_, fun i i0 i1 hi => ?_⟩
    · simp only [i_up]
      split
      · rfl
      · exact hF.1 i
    · simp only [i_up, up2] at hi ⊢
      by_cases h : i = j
      · simp only [if_pos h]
        exact ⟨hs, hl⟩
      · simp only [if_neg h] at hi ⊢
        exact hF.2 i i0 i1 hi
  · rw [if_neg g, if_neg g]
    refine ⟨hF.1, fun i i0 i1 hi => ?_⟩
    have h1 := hF.2 i i0 i1 hi
    simp only [up2]
    by_cases h : i = j
    · subst h
      simp only [if_true]
      refine ⟨fun k k0 k1 => ?_, fun k k0 k1 => ?_⟩
      · simp only [mtr]
        rw [h1.1 k k0 k1, hs k k0 (by omega)]
      · simp only [mtr]
        rw [h1.2 k k0 k1, hl k k0 k1]
    · simp only [if_neg h]
      exact h1
theorem FC_c {σ : j3_S} (hF : Feq nl F G) (h : FC σ nl F) : FC σ nl G := by
  refine ⟨fun i i0 i1 => (h.1 i i0 i1).trans (hF.1 i), fun i i0 i1 hi => ?_⟩
  rw [← hF.1 i] at hi ⊢
  obtain ⟨a1, a2⟩ := h.2 i i0 i1 hi
  obtain ⟨b1, b2⟩ := hF.2 i i0 i1 hi
  exact ⟨fun k k0 k1 => (a1 k k0 k1).trans (b1 k k0 k1), fun k k0 k1 => (a2 k k0 k1).trans (b2 k k0 k1)⟩
theorem arF_ok (hs : WFs P) (hF : Fok P nl F) (n1 : n ≤ 10) (ht : tys P n s) (hl : tys P nl l) (hn : F.1 j < 0 ∨ F.1 j = n) : Fok P nl (arF P nl F j n s l) := by
  unfold arF
  by_cases g : F.1 j < 0
  · rw [if_pos g]
    intro i i0 i1 hi
    simp only [i_up, up2] at hi ⊢
    by_cases h : i = j
    · simp only [if_pos h]
      exact ⟨n1, ht, hl⟩
    · simp only [if_neg h] at hi ⊢
      exact hF i i0 i1 hi
  · rw [if_neg g]
    intro i i0 i1 hi
    obtain ⟨a1, a2, a3⟩ := hF i i0 i1 hi
    simp only [up2]
    by_cases h : i = j
    · subst h
      simp only [if_true, mtr]
      refine ⟨a1, fun k k0 k1 => ?_, fun k k0 k1 => ?_⟩
      · rw [if_pos (by omega)]
        exact mt_o hs (a2 k k0 k1) (ht k k0 (by omega))
      · rw [if_pos (by omega)]
        exact mt_o hs (a3 k k0 k1) (hl k k0 k1)
    · simp only [if_neg h]
      exact ⟨a1, a2, a3⟩
theorem arf0 (h : arf F j n s = 0) : F.1 j < 0 ∨ F.1 j = n := by
  unfold arf at h
  by_cases g : F.1 j < 0
  · exact Or.inl g
  · rw [if_neg g] at h
    by_cases g2 : F.1 j = n
    · exact Or.inr g2
    · rw [if_pos g2] at h
      omega
end CONG
def ar1 (P : Pg) (m nl i op : Int) (F : Fl) (n : Int) (s l : Int → Int) : Int × Fl × Bool := if gon op = true then (if i + 1 < P 0 m then (arf F (i + 1) n s, arF P nl F (i + 1) n s l, arc P nl F (i + 1) n s l) else (7, F, false)) else (0, F, false)
def ar2 (P : Pg) (m nl i op a : Int) (F : Fl) (n : Int) (s l : Int → Int) : Int × Fl × Bool := if (ar1 P m nl i op F n s l).1 = 0 ∧ isj op = true then (arf (ar1 P m nl i op F n s l).2.1 a n s, arF P nl (ar1 P m nl i op F n s l).2.1 a n s l, (ar1 P m nl i op F n s l).2.2 || arc P nl (ar1 P m nl i op F n s l).2.1 a n s l) else ar1 P m nl i op F n s l
def look (P : Pg) (m nl i op a b : Int) (F : Fl) : Int × Fl × Bool := if exf P m op a b (F.1 i) (F.2.1 i) (F.2.2 i) = 0 then ar2 P m nl i op a F (exn P m op a b (F.1 i) (F.2.1 i) (F.2.2 i)) (exs P m op a b (F.1 i) (F.2.1 i) (F.2.2 i)) (exl P m op a b (F.1 i) (F.2.1 i) (F.2.2 i)) else (exf P m op a b (F.1 i) (F.2.1 i) (F.2.2 i), F, false)
section AR
variable {P : Pg} {F G : Fl} {i j n m nl op a b : Int} {s t l l' : Int → Int}
theorem ar1_c (hF : Feq nl F G) (hs : agr n s t) (hl : agr nl l l') (i0 : 0 ≤ i) (hL : P 0 m ≤ 120) : (ar1 P m nl i op F n s l).1 = (ar1 P m nl i op G n t l').1 ∧ ((ar1 P m nl i op F n s l).1 = 0 → Feq nl (ar1 P m nl i op F n s l).2.1 (ar1 P m nl i op G n t l').2.1 ∧ (ar1 P m nl i op F n s l).2.2 = (ar1 P m nl i op G n t l').2.2) := by
  unfold ar1
  by_cases g : gon op = true
  · simp only [if_pos g]
    by_cases g2 : i + 1 < P 0 m
    · simp only [if_pos g2]
      refine ⟨arf_c hF hs (by omega) (by omega), fun h => ?_⟩
      have hn := arf0 h
      exact ⟨arF_c hF hs hl hn, arc_c hF hs hl (by omega) (by omega) hn⟩
    · simp only [if_neg g2]
      exact ⟨trivial, fun _ => ⟨hF, trivial⟩⟩
  · simp only [if_neg g]
    exact ⟨trivial, fun _ => ⟨hF, trivial⟩⟩
theorem ar2_c (hF : Feq nl F G) (hs : agr n s t) (hl : agr nl l l') (i0 : 0 ≤ i) (hL : P 0 m ≤ 120) (hj : isj op = true → 0 ≤ a ∧ a < P 0 m) : (ar2 P m nl i op a F n s l).1 = (ar2 P m nl i op a G n t l').1 ∧ ((ar2 P m nl i op a F n s l).1 = 0 → Feq nl (ar2 P m nl i op a F n s l).2.1 (ar2 P m nl i op a G n t l').2.1 ∧ (ar2 P m nl i op a F n s l).2.2 = (ar2 P m nl i op a G n t l').2.2) := by
  obtain ⟨h1, h2⟩ := ar1_c (op := op) hF hs hl i0 hL
  unfold ar2
  rw [← h1]
  by_cases g : (ar1 P m nl i op F n s l).1 = 0 ∧ isj op = true
  · simp only [if_pos g]
    obtain ⟨h3, h4⟩ := h2 g.1
    have ha := hj g.2
    refine ⟨arf_c h3 hs (by omega) (by omega), fun h => ?_⟩
    have hn := arf0 h
    rw [h4]
    exact ⟨arF_c h3 hs hl hn, by rw [arc_c h3 hs hl (by omega) (by omega) hn]⟩
  · simp only [if_neg g]
    exact ⟨h1, h2⟩
theorem ar1_ok (hW : WFs P) (hF : Fok P nl F) (n1 : n ≤ 10) (hs : tys P n s) (hl : tys P nl l) (h : (ar1 P m nl i op F n s l).1 = 0) : Fok P nl (ar1 P m nl i op F n s l).2.1 := by
  unfold ar1 at h ⊢
  by_cases g : gon op = true
  · simp only [if_pos g] at h ⊢
    by_cases g2 : i + 1 < P 0 m
    · simp only [if_pos g2] at h ⊢
      exact arF_ok hW hF n1 hs hl (arf0 h)
    · simp only [if_neg g2] at h ⊢
      exact hF
  · simp only [if_neg g] at h ⊢
    exact hF
theorem ar2_ok (hW : WFs P) (hF : Fok P nl F) (n1 : n ≤ 10) (hs : tys P n s) (hl : tys P nl l) (h : (ar2 P m nl i op a F n s l).1 = 0) : Fok P nl (ar2 P m nl i op a F n s l).2.1 := by
  unfold ar2 at h ⊢
  by_cases g : (ar1 P m nl i op F n s l).1 = 0 ∧ isj op = true
  · simp only [if_pos g] at h ⊢
    exact arF_ok hW (ar1_ok hW hF n1 hs hl g.1) n1 hs hl (arf0 h)
  · simp only [if_neg g] at h ⊢
    exact ar1_ok hW hF n1 hs hl h
end AR
