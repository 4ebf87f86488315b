/-! the class's fold -/
def fdI : List Nat := [7000, 7009]
def fdA : List Nat := xA ++ [7007, 7008, 7010, 7011, 6005]
section CFD
variable {σ σ0 σ' : j3_S} {P : Pg} {m nl x n p : Int} {X : Sx} {F : Fl} {W : Int → Int → Int → Prop} {d : Nat} {Q : j3_P}
theorem ru_b (hr : ¬ ruS X p = 0) : 1 ≤ ruS X p ∧ ruS X p ≤ 12 := by
  rcases ru_c hr with ⟨e, -⟩ | ⟨-, q⟩
  · omega
  · rcases q with ⟨e, -⟩ | ⟨e, -⟩ | ⟨e, -⟩ | ⟨e, -⟩ | ⟨e, -⟩ | ⟨e, -⟩ | ⟨e, -⟩ | ⟨e, -⟩ | ⟨e, -⟩ | ⟨e, -⟩ | ⟨e, -⟩ <;> omega
theorem l109 (hs : WFs P) (hJ : ∀ op a b a', isj op = true → W op a b → W op a' b) (hW0 : ∀ op a b, 0 ≤ op → op ≤ 14 → W op a b) (hini : tys P nl (ini P m)) (h20 : nl ≤ 20) : ∀ (k : Nat) (x2 x3 : Int) (w4 : j3_W) (σ : j3_S) (X : Sx) (c : Int → Int) (F : Fl), muX X < k → 0 ≤ x3 → x3 + k + 1 < 1000000 → ¬ x2 = -1 → okX nl X → SOk P m nl W X F → frm fdI fdA σ0 σ → xC σ X → (∀ i, 0 ≤ i → i < 23 → σ.2.2 6005 83 i = c i ∧ 0 ≤ c i ∧ c i + k < 2147483647) → (∀ σ', frm fdI fdA σ0 σ' → xC σ' (fdS k X c).1 → (∀ i, 0 ≤ i → i < 23 → σ'.2.2 6005 83 i = (fdS k X c).2 i) → Q none σ') → T109 (d + 6) Q 4 [wO 7 96, wA 6005 83, wI x2, wI x3, w4] [] σ
  | 0, x2, x3, w4, σ, X, c, F, hm, x0, xm, hx2, hX, hS, hf, hx, hc, hQ => absurd hm (by omega)
  | k + 1, x2, x3, w4, σ, X, c, F, hm, x0, xm, hx2, hX, hS, hf, hx, hc, hQ => by
    have hn := hX.1
    rw [b109_4, if_pos (by omega), if_neg hx2]
    refine s111 hX h20 hS hx (fun σ1 f1 v1 => ?_)
    simp only [Option.toList_none, List.nil_append]
    have x1 : xC σ1 X := hx.fr f1 rfl rfl
    have F1 : frm fdI fdA σ0 σ1 := hf.tr (f1.wd (sub_el rfl) (sub_el rfl))
    rw [b109_12, e110, b110_0]
    refine l110 hs hX h20 hS x1 v1 X.n.toNat 0 (by omega) (by omega) ?_
    simp only [Option.toList_some, List.cons_append, List.nil_append]
    have c1 : ∀ i, 0 ≤ i → i < 23 → σ1.2.2 6005 83 i = c i := fun i i0 i1 => by rw [f1.2.2 6005 83 rfl]; exact (hc i i0 i1).1
    unfold fdS at hQ
    rw [b109_14]
    by_cases g : ffS X X.n.toNat 0 = -1
    · rw [if_pos g] at hQ ⊢
      rw [b109_42, b109_4, wr_id (by omega) (by omega), if_pos (by omega), if_pos g]
      exact hQ σ1 F1 x1 c1
    · rw [if_neg g] at hQ ⊢
      rcases ff_c (X := X) X.n.toNat 0 with ⟨h1, -⟩ | ⟨p0, p1, hr, -⟩
      · exact absurd h1 g
      generalize hp : ffS X X.n.toNat 0 = p at *
      have p1 : p < X.n := by omega
      have rb := ru_b hr
      refine s114 hs hX h20 hS x1 v1 p0 p1 ?_
      simp only [Option.toList_some, List.cons_append, List.nil_append]
      have k2 := hc 2 (by omega) (by omega)
      have kr := hc (10 + ruS X p) (by omega) (by omega)
      have a2 := c1 2 (by omega) (by omega)
      have ar := c1 (10 + ruS X p) (by omega) (by omega)
      rw [b109_21, wr_id (z := 10 + ruS X p) (by omega) (by omega), iu_n (show ¬ 10 + ruS X p = 2 by omega), a2, ar, wr_id (z := c 2 + 1) (by omega) (by omega), wr_id (z := c (10 + ruS X p) + 1) (by omega) (by omega)]
      refine ⟨by omega, by omega, by omega, by omega, ?_⟩
      generalize hσ2 : ((σ1.1, σ1.2.1, j3_ast (j3_ast σ1.2.2 6005 83 2 (c 2 + 1)) 6005 83 (10 + ruS X p) (c (10 + ruS X p) + 1)) : j3_S) = σ2
      have f2 : frm fdI fdA σ1 σ2 := by rw [← hσ2]; exact frm.A rfl (frm.A rfl frm.rf)
      have x2' : xC σ2 X := x1.fr (li := []) (la := [6005]) (by rw [← hσ2]; exact frm.A rfl (frm.A rfl frm.rf)) rfl rfl
      have c2 : ∀ i, 0 ≤ i → i < 23 → σ2.2.2 6005 83 i = bmp c (ruS X p) i ∧ 0 ≤ bmp c (ruS X p) i ∧ bmp c (ruS X p) i + k < 2147483647 := by
        intro i i0 i1
        have ci := hc i i0 i1
        have e : σ2.2.2 6005 83 i = i_up (i_up (σ1.2.2 6005 83) 2 (c 2 + 1)) (10 + ruS X p) (c (10 + ruS X p) + 1) i := by
          rw [← hσ2]
          simp only [j3_ast, up_r]
        rw [e]
        unfold bmp
        by_cases g1 : i = 10 + ruS X p
        · rw [g1, iu_r, iu_r]; exact ⟨rfl, by omega, by omega⟩
        · rw [iu_n g1, iu_n g1]
          by_cases g2 : i = 2
          · rw [g2, iu_r, iu_r]; exact ⟨rfl, by omega, by omega⟩
          · rw [iu_n g2, iu_n g2]; exact ⟨c1 i i0 i1, by omega, by omega⟩
      obtain ⟨F', s1, s2⟩ := ap_ok hs hJ hW0 hini hX hS p0 p1 hr
      have md := mu_dec hX hS p0 p1 hr
      refine s117 hs hX hS x2' p0 p1 hr (fun σ3 f3 x3' => ?_)
      simp only [Option.toList_none, List.nil_append]
      rw [b109_42, wr_id (by omega) (by omega)]
      have f3w : frm fdI fdA σ2 σ3 := f3.wd (sub_el rfl) (sub_el rfl)
      refine l109 hs hJ hW0 hini h20 k p (x3 + 1) _ σ3 _ (bmp c (ruS X p)) F' (by omega) (by omega) (by omega) (by omega) s2 s1 (F1.tr (f2.tr f3w)) x3' (fun i i0 i1 => ?_) hQ
      rw [f3.2.2 6005 83 rfl]
      exact c2 i i0 i1
theorem s109 (hs : WFs P) (hJ : ∀ op a b a', isj op = true → W op a b → W op a' b) (hW0 : ∀ op a b, 0 ≤ op → op ≤ 14 → W op a b) (hini : tys P nl (ini P m)) (h20 : nl ≤ 20) (hX : okX nl X) (hS : SOk P m nl W X F) (hx : xC σ X) {c : Int → Int} (hc : ∀ i, 0 ≤ i → i < 23 → σ.2.2 6005 83 i = c i ∧ 0 ≤ c i ∧ c i + 30000 < 2147483647) (hQ : ∀ σ', frm fdI fdA σ σ' → xC σ' (fdS 30000 X c).1 → (∀ i, 0 ≤ i → i < 23 → σ'.2.2 6005 83 i = (fdS 30000 X c).2 i) → Q none σ') : j3_tc false (d + 7) 109 [wO 7 96, wA 6005 83] σ Q := by
  rw [e109, b109_0]
  exact l109 hs hJ hW0 hini h20 30000 0 0 _ σ X c F (mu_b hX) (by omega) (by omega) (by omega) hX hS frm.rf hx hc hQ
end CFD
