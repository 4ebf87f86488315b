/-! what is kept, in the class: the whole -/
section CKEEP2
variable {σ σ' σ'' σ0 : j3_S} {P : Pg} {r : Rs} {XX : Int → Sx} {NL : Int → Int} {o o2 d : Nat} {x c m i w : Int} {Q : j3_P}
theorem l88a (hg : good P) (hxx : xxR P r XX NL) (hB0 : kbC σ0 o o2 P r XX NL) : ∀ (n : Nat) (k : Int) (σ : j3_S), k + n = P 3001 0 → 0 ≤ k → frm [] (mkE 6000) σ0 σ → skG 6000 83 0 (-1) P r XX σ → (∀ m, 0 ≤ m → m < k → r.1 m = 1 → σ.2.2 (6000 + 2) 83 m = 0 ∧ tdG 6000 83 0 P XX σ m (XX m).n) → (∀ σ', frm [] (mkE 6000) σ0 σ' → skG 6000 83 0 (-1) P r XX σ' → (∀ m, 0 ≤ m → m < P 3001 0 → r.1 m = 1 → σ'.2.2 (6000 + 2) 83 m = 0 ∧ tdG 6000 83 0 P XX σ' m (XX m).n) → T88 (d + 3) Q 38 [wO 6 83, wI 0] [] σ') → T88 (d + 3) Q 14 [wO 6 83, wI k] [] σ
  | 0, k, σ, hk, k0, hf, hs, ht, hQ => by
    have hB : kbC σ o o2 P r XX NL := hB0.fr hf ⟨rfl, rfl⟩ (la_ok rfl) rfl ⟨rfl, rfl⟩
    rw [b88_14, hB.1.2.1, hB.2.1.2.1, if_neg (by omega)]
    rw [show k = P 3001 0 by omega] at ht
    exact ⟨hB.1.1.1, hQ σ hf hs ht⟩
  | n + 1, k, σ, hk, k0, hf, hs, ht, hQ => by
    have hB : kbC σ o o2 P r XX NL := hB0.fr hf ⟨rfl, rfl⟩ (la_ok rfl) rfl ⟨rfl, rfl⟩
    have h80 := hg.1.2.1.2.1
    rw [b88_14, hB.1.2.1, hB.2.1.2.1, if_pos (by omega), hB.2.2.2.1 k k0 (by omega)]
    refine ⟨hB.1.1.1, by omega, ?_⟩
    by_cases g : r.1 k = 1
    · rw [if_pos g]
      refine ⟨by omega, ?_⟩
      obtain ⟨k1, k2, k3, k4⟩ := mkG (k := 2) hs (by omega) (show SK P r XX 2 k from Or.inl g)
      have hB1 : kbC (σ.1, σ.2.1, j3_ast σ.2.2 (6000 + 2) 83 k 0) o o2 P r XX NL := hB.fr k3 ⟨rfl, rfl⟩ (la_ok rfl) rfl ⟨rfl, rfl⟩
      refine s89 (d := d + 2) hg hxx hB1 k0 (by omega) g k1 (fun σ1 f1 s1 g1 t1 => ?_)
      simp only [Option.toList_none, List.nil_append]
      rw [b88_34, wr_id (by omega) (by omega)]
      have gg := k2.tr g1
      refine l88a hg hxx hB0 n (k + 1) σ1 (by omega) (by omega) (hf.tr (k3.tr f1)) s1 (fun m m0 m1 gm => ?_) hQ
      by_cases e : m = k
      · subst e
        exact ⟨g1 2 (by omega) m m0 (by show m < 80; omega) k4, t1⟩
      · obtain ⟨a1, a2⟩ := ht m m0 (by omega) gm
        exact ⟨gg 2 (by omega) m m0 (by show m < 80; omega) a1, a2.gr (r := r) (fun j j0 j1 => xx_W hxx m0 (by omega) gm j0 j1) hg.1 gg⟩
    · rw [if_neg g, b88_34, wr_id (by omega) (by omega)]
      refine l88a hg hxx hB0 n (k + 1) σ (by omega) (by omega) hf hs (fun m m0 m1 gm => ?_) hQ
      by_cases e : m = k
      · subst e; exact absurd gm g
      · exact ht m m0 (by omega) gm
theorem l88b (hg : good P) (hB0 : kbC σ0 o o2 P r XX NL) : ∀ (n : Nat) (k : Int) (σ : j3_S), k + n = P 3000 0 → 0 ≤ k → frm [] [6000] σ0 σ → skG 6000 83 0 (-1) P r XX σ → grG 6000 83 0 σ0 σ → (∀ c, 0 ≤ c → c < k → meG 6000 83 0 P r σ c (P 3005 c) (P 3006 c)) → (∀ σ', frm [] [6000] σ0 σ' → skG 6000 83 0 (-1) P r XX σ' → grG 6000 83 0 σ0 σ' → (∀ c, 0 ≤ c → c < P 3000 0 → meG 6000 83 0 P r σ' c (P 3005 c) (P 3006 c)) → T88 (d + 3) Q 54 [wO 6 83, wI (P 3000 0 - 1)] [] σ') → T88 (d + 3) Q 38 [wO 6 83, wI k] [] σ
  | 0, k, σ, hk, k0, hf, hs, hgr, ht, hQ => by
    have hB : kbC σ o o2 P r XX NL := hB0.fr hf ⟨rfl, rfl⟩ (la_ok rfl) rfl ⟨rfl, rfl⟩
    have hc10 := hg.1.1.2.1
    rw [b88_38, hB.1.2.1, hB.2.1.1, if_neg (by omega), wr_id (by omega) (by omega)]
    rw [show k = P 3000 0 by omega] at ht
    exact ⟨hB.1.1.1, hB.1.1.1, hQ σ hf hs hgr ht⟩
  | n + 1, k, σ, hk, k0, hf, hs, hgr, ht, hQ => by
    have hB : kbC σ o o2 P r XX NL := hB0.fr hf ⟨rfl, rfl⟩ (la_ok rfl) rfl ⟨rfl, rfl⟩
    have hc10 := hg.1.1.2.1
    rw [b88_38, hB.1.2.1, hB.2.1.1, if_pos (by omega)]
    refine ⟨hB.1.1.1, ?_⟩
    refine s90 (d := d) hg hB k0 (by omega) hs (fun σ1 f1 s1 g1 m1 => ?_)
    simp only [Option.toList_none, List.nil_append]
    rw [b88_46, wr_id (by omega) (by omega)]
    refine l88b hg hB0 n (k + 1) σ1 (by omega) (by omega) (hf.tr f1) s1 (hgr.tr g1) (fun c c0 c1 => ?_) hQ
    by_cases e : c = k
    · subst e; exact m1
    · exact (ht c c0 (by omega)).gr hg.1 c0 (by omega) (by omega) (by omega) g1 (f1.2.2 6001 83 rfl) (f1.2.2 6002 83 rfl)
theorem l88c (hg : good P) (hB0 : kbC σ0 o o2 P r XX NL) : ∀ (n : Nat) (k : Int) (σ : j3_S), k + 1 = n → k < P 3000 0 → frm [] [6000] σ0 σ → skG 6000 83 0 (-1) P r XX σ → grG 6000 83 0 σ0 σ → (∀ c, k < c → c < P 3000 0 → σ.2.2 (6000 + 0) 83 c = 0 → 0 ≤ P 3003 c → σ.2.2 (6000 + 0) 83 (P 3003 c) = 0) → (∀ σ', frm [] [6000] σ0 σ' → skG 6000 83 0 (-1) P r XX σ' → grG 6000 83 0 σ0 σ' → (∀ c, 0 ≤ c → c < P 3000 0 → σ'.2.2 (6000 + 0) 83 c = 0 → 0 ≤ P 3003 c → σ'.2.2 (6000 + 0) 83 (P 3003 c) = 0) → Q none σ') → T88 d Q 54 [wO 6 83, wI k] [] σ
  | 0, k, σ, hk, k1, hf, hs, hgr, ht, hQ => by
    rw [b88_54, if_pos (by omega)]
    exact hQ σ hf hs hgr (fun c c0 c1 => ht c (by omega) c1)
  | n + 1, k, σ, hk, k1, hf, hs, hgr, ht, hQ => by
    have hB : kbC σ o o2 P r XX NL := hB0.fr hf ⟨rfl, rfl⟩ (la_ok rfl) rfl ⟨rfl, rfl⟩
    have hc10 := hg.1.1.2.1
    have k0 : 0 ≤ k := by push_cast at hk; omega
    have hsu := hg.1.1.2.2 k k0 k1
    rw [b88_54, if_neg (by omega), hB.1.2.1, (hB.2.1.2.2.1 k k0 k1).1.2.1]
    refine ⟨by omega, ?_⟩
    have nx : ∀ σ1, frm [] [6000] σ σ1 → skG 6000 83 0 (-1) P r XX σ1 → grG 6000 83 0 σ σ1 → (∀ c, k ≤ c → c < P 3000 0 → σ1.2.2 (6000 + 0) 83 c = 0 → 0 ≤ P 3003 c → σ1.2.2 (6000 + 0) 83 (P 3003 c) = 0) → T88 d Q 76 [wO 6 83, wI k] [] σ1 := by
      intro σ1 f1 s1 g1 t1
      rw [b88_76, wr_id (by omega) (by omega)]
      exact l88c hg hB0 n (k + -1) σ1 (by push_cast at hk; omega) (by omega) (hf.tr f1) s1 (hgr.tr g1) (fun c c0 c1 => t1 c (by omega) c1) hQ
    by_cases g : σ.2.2 6000 83 k = 0
    · rw [if_pos g]
      refine ⟨hB.1.1.1, by omega, ?_⟩
      by_cases g2 : P 3003 k < 0
      · rw [if_pos g2]
        refine nx σ frm.rf hs grG.rf (fun c c0 c1 q1 q2 => ?_)
        by_cases e : c = k
        · subst e; omega
        · exact ht c (by omega) c1 q1 q2
      · rw [if_neg g2]
        have hk' : kC P r XX k := (hs 0 (by omega) k k0 (by show k < 10; omega)).2 g
        obtain ⟨m1, m2, m3, m4⟩ := mkG (k := 0) hs (by omega) (show SK P r XX 0 (P 3003 k) from kC_cl.2.2.2.2 k k0 k1 hk' (by omega))
        refine ⟨hB.1.1.1, by omega, by omega, nx _ (frm.A rfl frm.rf) m1 m2 (fun c c0 c1 q1 q2 => ?_)⟩
        by_cases e : c = k
        · subst e; exact m4
        · have q1' : σ.2.2 (6000 + 0) 83 c = 0 := by
            have : j3_ast σ.2.2 (6000 + 0) 83 (P 3003 k) 0 (6000 + 0) 83 c = 0 := q1
            unfold j3_ast at this
            rw [up_r, iu_n (by omega)] at this
            exact this
          have hsc := hg.1.1.2.2 c (by omega) c1
          exact m2 0 (by omega) _ q2 (by show P 3003 c < 10; omega) (ht c (by omega) c1 q1' q2)
    · rw [if_neg g]
      refine nx σ frm.rf hs grG.rf (fun c c0 c1 q1 q2 => ?_)
      by_cases e : c = k
      · subst e; exact absurd q1 g
      · exact ht c (by omega) c1 q1 q2
theorem s88 (hg : good P) (hxx : xxR P r XX NL) (hB : kbC σ o o2 P r XX NL) (hQ : ∀ σ', frm [] (mkE 6000) σ σ' → exG 6000 83 0 (-1) P r XX σ' → Q none σ') : j3_tc false (d + 4) 88 [wO 6 83] σ Q := by
  have hW := hg.1
  have hc10 := hg.1.1.2.1
  have hc1 := hg.1.1.1
  have h80 := hg.1.2.1.2.1
  have hm0 := hg.1.2.1.1
  rw [e88, b88_0, s248 (n := 10) rfl rfl rfl (by omega)]
  simp only [Option.toList_none, List.nil_append]
  rw [b88_4, s248 (n := 60) rfl rfl rfl (by omega)]
  simp only [Option.toList_none, List.nil_append]
  rw [b88_8, s248 (n := 80) rfl rfl rfl (by omega)]
  simp only [Option.toList_none, List.nil_append]
  rw [b88_12]
  generalize hA : j3_up (j3_up (j3_up σ.2.2 6000 83 (i_fl (σ.2.2 6000 83) 0 10 (-1))) 6001 83 (i_fl (j3_up σ.2.2 6000 83 (i_fl (σ.2.2 6000 83) 0 10 (-1)) 6001 83) 0 60 (-1))) 6002 83 (i_fl (j3_up (j3_up σ.2.2 6000 83 (i_fl (σ.2.2 6000 83) 0 10 (-1))) 6001 83 (i_fl (j3_up σ.2.2 6000 83 (i_fl (σ.2.2 6000 83) 0 10 (-1)) 6001 83) 0 60 (-1)) 6002 83) 0 80 (-1)) = A'
  have f1 : frm [] (mkE 6000) σ (σ.1, σ.2.1, A') := by rw [← hA]; exact frm.A rfl (frm.A rfl (frm.A rfl frm.rf))
  have r0 : ∀ x, 0 ≤ x → x < 10 → A' 6000 83 x = -1 := fun x x0 x1 => by
    rw [← hA, up_e rfl, up_e rfl, up_r]; unfold i_fl; rw [if_pos ⟨x0, x1⟩]
  have r1 : ∀ x, 0 ≤ x → x < 60 → A' 6001 83 x = -1 := fun x x0 x1 => by
    rw [← hA, up_e rfl, up_r]; unfold i_fl; rw [if_pos ⟨x0, x1⟩]
  have r2 : ∀ x, 0 ≤ x → x < 80 → A' 6002 83 x = -1 := fun x x0 x1 => by
    rw [← hA, up_r]; unfold i_fl; rw [if_pos ⟨x0, x1⟩]
  clear hA
  have s1 : skG 6000 83 0 (-1) P r XX (σ.1, σ.2.1, A') := by
    intro k hk x x0 x1
    rcases (by omega : k = 0 ∨ k = 1 ∨ k = 2) with rfl | rfl | rfl
    · have e : A' (6000 + 0) 83 x = -1 := r0 x x0 x1
      show (A' (6000 + 0) 83 x = 0 ∨ A' (6000 + 0) 83 x = -1) ∧ (A' (6000 + 0) 83 x = 0 → _)
      rw [e]; exact ⟨Or.inr rfl, fun q => absurd q (by decide)⟩
    · have e : A' (6000 + 1) 83 x = -1 := r1 x x0 x1
      show (A' (6000 + 1) 83 x = 0 ∨ A' (6000 + 1) 83 x = -1) ∧ (A' (6000 + 1) 83 x = 0 → _)
      rw [e]; exact ⟨Or.inr rfl, fun q => absurd q (by decide)⟩
    · have e : A' (6000 + 2) 83 x = -1 := r2 x x0 x1
      show (A' (6000 + 2) 83 x = 0 ∨ A' (6000 + 2) 83 x = -1) ∧ (A' (6000 + 2) 83 x = 0 → _)
      rw [e]; exact ⟨Or.inr rfl, fun q => absurd q (by decide)⟩
  have hB1 : kbC (σ.1, σ.2.1, A') o o2 P r XX NL := hB.fr f1 ⟨rfl, rfl⟩ (la_ok rfl) rfl ⟨rfl, rfl⟩
  refine l88a (σ0 := (σ.1, σ.2.1, A')) hg hxx hB1 (P 3001 0).toNat 0 _ (by omega) (by omega) frm.rf s1 (fun m m0 m1 => by omega) (fun σ2 f2 s2 t2 => ?_)
  have hB2 : kbC σ2 o o2 P r XX NL := hB1.fr f2 ⟨rfl, rfl⟩ (la_ok rfl) rfl ⟨rfl, rfl⟩
  refine l88b (σ0 := σ2) hg hB2 (P 3000 0).toNat 0 σ2 (by omega) (by omega) frm.rf s2 grG.rf (fun c c0 c1 => by omega) (fun σ3 f3 s3 g3 t3 => ?_)
  have hB3 : kbC σ3 o o2 P r XX NL := hB2.fr f3 ⟨rfl, rfl⟩ (la_ok rfl) rfl ⟨rfl, rfl⟩
  refine l88c (σ0 := σ3) hg hB3 (P 3000 0).toNat (P 3000 0 - 1) σ3 (by omega) (by omega) frm.rf s3 grG.rf (fun c c0 c1 => by omega) (fun σ4 f4 s4 g4 t4 => ?_)
  have F34 : frm [] [6000] σ2 σ4 := f3.tr f4
  have G34 : grG 6000 83 0 σ2 σ4 := g3.tr g4
  have T2 : ∀ m, 0 ≤ m → m < P 3001 0 → r.1 m = 1 → σ4.2.2 (6000 + 2) 83 m = 0 ∧ tdG 6000 83 0 P XX σ4 m (XX m).n := fun m m0 m1 gm => by
    obtain ⟨a1, a2⟩ := t2 m m0 m1 gm
    exact ⟨G34 2 (by omega) m m0 (by show m < 80; omega) a1, a2.gr (r := r) (fun j j0 j1 => xx_W hxx m0 m1 gm j0 j1) hW G34⟩
  have T3 : ∀ c, 0 ≤ c → c < P 3000 0 → meG 6000 83 0 P r σ4 c (P 3005 c) (P 3006 c) := fun c c0 c1 => (t3 c c0 c1).gr hW c0 c1 (by omega) (by omega) g4 (f4.2.2 6001 83 rfl) (f4.2.2 6002 83 rfl)
  refine hQ σ4 (f1.tr (f2.tr (F34.wd (fun _ h => h) (sub_el rfl)))) (ex_of hW ⟨fun m m0 m1 gm => (T2 m m0 m1 gm).1, fun m i ic g => ((T2 m ic.1.1 ic.1.2 ic.2.1).2 i ic.2.2.1 ic.2.2.2).1 g, fun m i ic g1 g2 => ((T2 m ic.1.1 ic.1.2 ic.2.1).2 i ic.2.2.1 ic.2.2.2).2.1 g1 g2, fun m i ic g => ((T2 m ic.1.1 ic.1.2 ic.2.1).2 i ic.2.2.1 ic.2.2.2).2.2 g, fun c c0 c1 g => (T3 c c0 c1).1 g, fun c f c0 c1 f0 f1 g => (T3 c c0 c1).2.1 f f0 f1 g, fun m m0 m1 g => ?_, t4⟩ s4 (by decide))
  obtain ⟨o1, o2', o3, o4⟩ := (hW.2.2.2 m m0 m1).1
  have q := (T3 (P 3011 m) o1 o2').2.2 (m - P 3007 (P 3011 m)) (by omega) (by omega)
  rw [show P 3007 (P 3011 m) + (m - P 3007 (P 3011 m)) = m by omega] at q
  obtain ⟨a1, a2⟩ := q g
  exact ⟨a1, a2.1, a2.2⟩
end CKEEP2
