/-! the reference's rules of a method -/
def rfI : List Nat := [10063, 10068]
def rfA : List Nat := [10052, 10064, 10065, 10066, 10067]
section RFD
variable {σ σ0 σ' : j3_S} {P : Pg} {m nl x n p B r mm : Int} {X : Sx} {F : Fl} {W : Int → Int → Int → Prop} {d : Nat} {Q : j3_P}
/-- the rules at one place, from r on -/
theorem l212r (hs : WFs P) (hX : okX nl X) (h20 : nl ≤ 20) (hS : SOk P m nl W X F) (B0 : 0 ≤ B) (B1 : B + 120 ≤ 28800) (hx : xR σ X B) (hv : svR σ X) (p0 : 0 ≤ p) (p1 : p < X.n) (hQ0 : ruS X p = 0 → ∀ x4, T212 (d + 5) Q 69 [wO 10 121, wI mm, wI 0, wI p, wI x4] [] σ) (hQ1 : ¬ ruS X p = 0 → ∀ σ', stF [10063] [] B σ σ' → xR σ' (apS X (ruS X p) p) B → T212 (d + 5) Q 47 [wO 10 121, wI mm, wI 0, wI p, wI (ruS X p)] [] σ') : ∀ (k : Nat) (r : Int), r + k = 13 → 1 ≤ r → (∀ j, 2 ≤ j → j < r → fitB X j p = false) → (1 < r → snB X p = true) → T212 (d + 5) Q 32 [wO 10 121, wI mm, wI 0, wI p, wI r] [] σ
  | 0, r, hk, r1, hf, hsn => by
    have e : ruS X p = 0 := by
      by_cases g : ruS X p = 0
      · exact g
      · obtain ⟨f1, f2, f3⟩ := fit_eq (hsn (by omega)) g
        rw [hf _ f2 (by omega)] at f1
        cases f1
    rw [b212_32, if_pos (by omega)]
    exact hQ0 e _
  | k + 1, r, hk, r1, hf, hsn => by
    have done : fitB X r p = true ∧ 1 < r ∨ (r = 1 ∧ snB X p = false) → ruS X p = r := by
      rintro (⟨h1, h2⟩ | ⟨h1, h2⟩)
      · obtain ⟨f1, f2⟩ := fit_le (hsn h2) (by omega) (by omega) h1
        obtain ⟨g1, g2, g3⟩ := fit_eq (hsn h2) f1
        by_cases ge : ruS X p = r
        · exact ge
        · rw [hf _ g2 (by omega)] at g1
          cases g1
      · unfold ruS
        rw [if_pos h2, h1]
    have go : ∀ b : Bool, (b = true → ruS X p = r) → (b = false → (∀ j, 2 ≤ j → j < r + 1 → fitB X j p = false) ∧ snB X p = true) → T212 (d + 5) Q 41 [wO 10 121, wI mm, wI 0, wI p, wI r] [wI (b2i b)] σ := by
      intro b h1 h2
      rw [b212_41]
      cases b
      · rw [if_pos (show b2i false = 0 from rfl), b212_67, wr_id (by omega) (by omega)]
        obtain ⟨q1, q2⟩ := h2 rfl
        exact l212r hs hX h20 hS B0 B1 hx hv p0 p1 hQ0 hQ1 k (r + 1) (by omega) (by omega) q1 (fun _ => q2)
      · have e := h1 rfl
        rw [if_neg (show ¬ b2i true = 0 by decide)]
        have nz : ¬ ruS X p = 0 := by omega
        have hq := hQ1 nz
        rw [e] at hq
        have := s211 (d := d + 1) (Q := fun r_1 σ1 => T212 (d + 5) Q 47 [wO 10 121, wI mm, wI 0, wI p, wI r] (r_1.toList ++ []) σ1) hs hX hS B0 B1 hx p0 p1 nz (fun σ1 f1 x1 => by
          simp only [Option.toList_none, List.nil_append]
          rw [e] at x1
          exact hq σ1 f1 x1)
        rw [e] at this
        exact this
    rw [b212_32, if_neg (by omega), if_pos rfl]
    by_cases g1 : r = 1
    · rw [g1]
      refine s207_1 hX B0 B1 hx hv p0 p1 ?_
      simp only [Option.toList_some, List.cons_append, List.nil_append]
      rw [g1] at go done
      refine go _ (fun z => done (Or.inr ⟨rfl, by simpa using z⟩)) (fun z => ⟨fun j j0 j1 => by omega, by simpa using z⟩)
    · refine s207 hs hX h20 hS B0 B1 hx hv p0 p1 (hsn (by omega)) (by omega) (by omega) ?_
      simp only [Option.toList_some, List.cons_append, List.nil_append]
      refine go _ (fun z => done (Or.inl ⟨z, by omega⟩)) (fun z => ⟨fun j j0 j1 => ?_, hsn (by omega)⟩)
      by_cases gj : j = r
      · rw [gj]; exact z
      · exact hf j j0 (by omega)
/-- the places, from p on -/
theorem l212p (hs : WFs P) (hX : okX nl X) (h20 : nl ≤ 20) (hS : SOk P m nl W X F) (B0 : 0 ≤ B) (B1 : B + 120 ≤ 28800) (hx : xR σ X B) (hv : svR σ X) (hQ0 : ffS X X.n.toNat 0 = -1 → ∀ x3 w4, T212 (d + 5) Q 16 [wO 10 121, wI mm, wI 0, wI x3, w4] [] σ) (hQ1 : ∀ p, 0 ≤ p → p < X.n → ffS X X.n.toNat 0 = p → ∀ σ', stF [10063] [] B σ σ' → xR σ' (apS X (ruS X p) p) B → T212 (d + 5) Q 47 [wO 10 121, wI mm, wI 0, wI p, wI (ruS X p)] [] σ') : ∀ (k : Nat) (p : Int) (w4 : j3_W), p + k = X.n → 0 ≤ p → ffS X k p = ffS X X.n.toNat 0 → T212 (d + 5) Q 24 [wO 10 121, wI mm, wI 0, wI p, w4] [] σ
  | 0, p, w4, hk, p0, hf => by
    have hf : (-1 : Int) = ffS X X.n.toNat 0 := hf
    rw [b212_24, hx.1.2, if_neg (by omega), b212_71]
    exact hQ0 hf.symm _ _
  | k + 1, p, w4, hk, p0, hf => by
    have hn := hX.1
    rw [b212_24, hx.1.2, if_pos (by omega), if_pos rfl]
    have hf : (if ¬ ruS X p = 0 then p else ffS X k (p + 1)) = ffS X X.n.toNat 0 := hf
    refine l212r hs hX h20 hS B0 B1 hx hv p0 (by omega) (fun e x4 => ?_) (fun e σ1 f1 x1 => ?_) 12 1 (by omega) (by omega) (fun j j0 j1 => by omega) (fun z => by omega)
    · rw [if_neg (fun z => z e)] at hf
      rw [b212_69, wr_id (by omega) (by omega)]
      exact l212p hs hX h20 hS B0 B1 hx hv hQ0 hQ1 k (p + 1) _ (by omega) (by omega) hf
    · rw [if_pos e] at hf
      exact hQ1 p p0 (by omega) hf.symm σ1 f1 x1
theorem l212 (hs : WFs P) (hJ : ∀ op a b a', isj op = true → W op a b → W op a' b) (hW0 : ∀ op a b, 0 ≤ op → op ≤ 14 → W op a b) (hini : tys P nl (ini P m)) (h20 : nl ≤ 20) (B0 : 0 ≤ B) (B1 : B + 120 ≤ 28800) : ∀ (k : Nat) (w3 w4 : j3_W) (σ : j3_S) (X : Sx) (c : Int → Int) (F : Fl), muX X < k → okX nl X → SOk P m nl W X F → stF rfI rfA B σ0 σ → xR σ X B → (∀ i, 0 ≤ i → i < 23 → σ.2.2 10052 121 i = c i ∧ 0 ≤ c i ∧ c i + k < 2147483647) → (∀ σ' w3 w4, stF rfI rfA B σ0 σ' → xR σ' (fdS k X c).1 B → (∀ i, 0 ≤ i → i < 23 → σ'.2.2 10052 121 i = (fdS k X c).2 i) → T212 (d + 5) Q 16 [wO 10 121, wI mm, wI 0, w3, w4] [] σ') → T212 (d + 5) Q 16 [wO 10 121, wI mm, wI 1, w3, w4] [] σ
  | 0, w3, w4, σ, X, c, F, hm, hX, hS, hf, hx, hc, hQ => absurd hm (by omega)
  | k + 1, w3, w4, σ, X, c, F, hm, hX, hS, hf, hx, hc, hQ => by
    have hn := hX.1
    rw [b212_16, if_neg (by decide)]
    refine s202 hX h20 hS B0 B1 hx (fun σ1 f1 v1 => ?_)
    simp only [Option.toList_none, List.nil_append]
    have x1 : xR σ1 X B := hx.fr f1 rfl rfl
    have F1 : stF rfI rfA B σ0 σ1 := hf.tr (stF.of (f1.wd (sub_el rfl) (sub_el rfl)) rfl)
    have c1 : ∀ i, 0 ≤ i → i < 23 → σ1.2.2 10052 121 i = c i := fun i i0 i1 => by rw [f1.2.2 10052 121 rfl]; exact (hc i i0 i1).1
    unfold fdS at hQ
    rw [b212_22]
    refine l212p hs hX h20 hS B0 B1 x1 v1 (fun e x3 w4 => ?_) (fun p p0 p1 e σ2 f2 x2 => ?_) X.n.toNat 0 _ (by omega) (by omega) rfl
    · rw [if_pos e] at hQ
      exact hQ σ1 _ _ F1 x1 c1
    · have g : ¬ ffS X X.n.toNat 0 = -1 := by omega
      rw [if_neg g, e] at hQ
      have hr : ¬ ruS X p = 0 := by
        rcases ff_c (X := X) X.n.toNat 0 with ⟨h1, -⟩ | ⟨-, -, hr, -⟩
        · omega
        · rw [e] at hr; exact hr
      have rb := ru_b hr
      have k2 := hc 2 (by omega) (by omega)
      have kr := hc (10 + ruS X p) (by omega) (by omega)
      have c2' : ∀ i, 0 ≤ i → i < 23 → σ2.2.2 10052 121 i = c i := fun i i0 i1 => by rw [f2.1.2.2 10052 121 rfl]; exact c1 i i0 i1
      have a2 := c2' 2 (by omega) (by omega)
      have ar := c2' (10 + ruS X p) (by omega) (by omega)
      rw [b212_47, wr_id (z := 10 + ruS X p) (by omega) (by omega), iu_n (show ¬ 10 + ruS X p = 2 by omega), a2, ar, wr_id (z := c 2 + 1) (by omega) (by omega), wr_id (z := c (10 + ruS X p) + 1) (by omega) (by omega)]
      refine ⟨by omega, by omega, by omega, by omega, ?_⟩
      generalize hσ3 : ((σ2.1, σ2.2.1, j3_ast (j3_ast σ2.2.2 10052 121 2 (c 2 + 1)) 10052 121 (10 + ruS X p) (c (10 + ruS X p) + 1)) : j3_S) = σ3
      have f3 : frm [] [10052] σ2 σ3 := by rw [← hσ3]; exact frm.A rfl (frm.A rfl frm.rf)
      have x3' : xR σ3 (apS X (ruS X p) p) B := x2.fr f3 rfl rfl
      have c3 : ∀ i, 0 ≤ i → i < 23 → σ3.2.2 10052 121 i = bmp c (ruS X p) i ∧ 0 ≤ bmp c (ruS X p) i ∧ bmp c (ruS X p) i + k < 2147483647 := by
        intro i i0 i1
        have ci := hc i i0 i1
        have e : σ3.2.2 10052 121 i = i_up (i_up (σ2.2.2 10052 121) 2 (c 2 + 1)) (10 + ruS X p) (c (10 + ruS X p) + 1) i := by
          rw [← hσ3]
          simp only [j3_ast, up_r]
        rw [e]
        unfold bmp
        by_cases g1 : i = 10 + ruS X p
        · rw [g1, iu_r, iu_r]; exact ⟨rfl, by omega, by omega⟩
        · rw [iu_n g1, iu_n g1]
          by_cases g2 : i = 2
          · rw [g2, iu_r, iu_r]; exact ⟨rfl, by omega, by omega⟩
          · rw [iu_n g2, iu_n g2]; exact ⟨c2' i i0 i1, by omega, by omega⟩
      obtain ⟨F', s1, s2⟩ := ap_ok hs hJ hW0 hini hX hS p0 p1 hr
      have md := mu_dec hX hS p0 p1 hr
      have FF : stF rfI rfA B σ0 σ3 := F1.tr ((f2.wd rfl rfl).tr (stF.of (f3.wd (fun _ _ => rfl) (sub_el rfl)) rfl))
      have nxt := l212 hs hJ hW0 hini h20 B0 B1 k (wI (p + 1)) (wI (ruS X p + 1)) σ3 _ (bmp c (ruS X p)) F' (by omega) s2 s1 FF x3' c3 hQ
      have n3 := x3'.1.2
      have s2n := s2.1
      have t24 : ∀ x4 : Int, T212 (d + 5) Q 69 [wO 10 121, wI mm, wI 1, wI p, wI x4] [] σ3 := by
        intro x4
        have nx := l212 hs hJ hW0 hini h20 B0 B1 k (wI (p + 1)) (wI x4) σ3 _ (bmp c (ruS X p)) F' (by omega) s2 s1 FF x3' c3 hQ
        rw [b212_69, wr_id (by omega) (by omega), b212_24]
        by_cases gl : p + 1 < σ3.1 10063 121
        · rw [if_pos gl, if_neg (by decide), b212_71]; exact nx
        · rw [if_neg gl, b212_71]; exact nx
      rw [b212_67, wr_id (by omega) (by omega), b212_32]
      by_cases g12 : 12 < ruS X p + 1
      · rw [if_pos g12]; exact t24 _
      · rw [if_neg g12, if_neg (by decide)]; exact t24 _
theorem s212 (hs : WFs P) (hJ : ∀ op a b a', isj op = true → W op a b → W op a' b) (hW0 : ∀ op a b, 0 ≤ op → op ≤ 14 → W op a b) (hini : tys P nl (ini P m)) (h20 : nl ≤ 20) (hX : okX nl X) (hS : SOk P m nl W X F) (m0 : 0 ≤ mm) (m1 : mm < 80) (hl : σ.2.2 10026 121 (160 + mm) = X.n) (hr : ∀ i, 0 ≤ i → i < X.n → rwR σ (19200 + 120 * mm + i) X i (X.a i)) {c : Int → Int} (hc : ∀ i, 0 ≤ i → i < 23 → σ.2.2 10052 121 i = c i ∧ 0 ≤ c i ∧ c i + 30000 < 2147483647) (hQ : ∀ σ', stF (10062 :: rfI) rfA (19200 + 120 * mm) σ σ' → xR σ' (fdS 30000 X c).1 (19200 + 120 * mm) → (∀ i, 0 ≤ i → i < 23 → σ'.2.2 10052 121 i = (fdS 30000 X c).2 i) → Q none (σ'.1, σ'.2.1, j3_ast σ'.2.2 10026 121 (160 + mm) (fdS 30000 X c).1.n)) : j3_tc true (d + 6) 212 [wO 10 121, wI mm] σ Q := by
  have hn := hX.1
  rw [e212, b212_0, s160 (by omega) (by omega) m0 m1 (by omega) (by omega)]
  simp only [Option.toList_some, List.cons_append, List.nil_append]
  rw [b212_5, wr_id (by omega) (by omega), hl, show 9600 * 2 + 120 * mm + 0 = 19200 + 120 * mm by omega]
  refine ⟨by omega, ?_⟩
  generalize hσ1 : ((j3_up (j3_up σ.1 10062 121 (19200 + 120 * mm)) 10063 121 X.n, σ.2.1, σ.2.2) : j3_S) = σ1
  have f1 : frm (10062 :: rfI) [] σ σ1 := by rw [← hσ1]; exact frm.I rfl (frm.I rfl frm.rf)
  have x1 : xR σ1 X (19200 + 120 * mm) := by
    refine ⟨⟨by rw [← hσ1]; simp [j3_up], by rw [← hσ1]; simp [j3_up]⟩, fun i i0 i1 => ?_⟩
    rw [← hσ1]
    exact hr i i0 i1
  refine l212 (σ0 := σ1) hs hJ hW0 hini h20 (by omega) (by omega) 30000 _ _ σ1 X c F (mu_b hX) hX hS stF.rf x1 (fun i i0 i1 => by rw [f1.2.2 10052 121 rfl]; exact hc i i0 i1) (fun σ2 w3 w4 f2 x2 c2 => ?_)
  rw [b212_16, if_pos rfl, wr_id (by omega) (by omega), x2.1.2]
  exact ⟨by omega, hQ σ2 ((stF.of (f1.wd (fun _ h => h) (fun _ _ => rfl)) rfl).tr (f2.wd rfl rfl)) x2 c2⟩
end RFD
