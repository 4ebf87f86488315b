/-! the small program, as both sides have it -/
def SPg (P : Pg) (r : Rs) (XX : Int → Sx) (NL : Int → Int) (A : Pg) : Prop := (A 3000 0 = nB (kC P r XX) (P 3000 0) ∧ A 3001 0 = nB (kM P r XX) (P 3001 0)) ∧ (∀ c, 0 ≤ c → c < P 3000 0 → kC P r XX c → spC P r XX A c ∧ ∀ f, 0 ≤ f → f < P 3005 c → kFc P r XX c f → spF P r XX A c f) ∧ ∀ m, 0 ≤ m → m < P 3001 0 → kM P r XX m → spM P r XX NL A m ∧ A 3012 (nM P r XX m) = nam P r XX m ∧ spK P r XX A m
section SMALL
variable {σ σ' : j3_S} {P A : Pg} {r : Rs} {XX : Int → Sx} {NL : Int → Int} {x c c' m m' i f k n v z t : Int}
theorem SPg.sc (h : SPg P r XX NL A) (hg : good P) (x0 : 0 ≤ x) (x1 : x < A 3000 0) : ∃ c, 0 ≤ c ∧ c < P 3000 0 ∧ kC P r XX c ∧ nC P r XX c = x := by
  have := hg.1.1.1
  rw [h.1.1] at x1
  obtain ⟨c, c0, c1, c2, c3⟩ := nB_sur (n := P 3000 0) (by omega) x0 x1
  exact ⟨c, c0, c1, c2, (nw_k c2).trans c3⟩
theorem SPg.sm (h : SPg P r XX NL A) (hg : good P) (x0 : 0 ≤ x) (x1 : x < A 3001 0) : ∃ m, 0 ≤ m ∧ m < P 3001 0 ∧ kM P r XX m ∧ nM P r XX m = x := by
  have := hg.1.2.1.1
  rw [h.1.2] at x1
  obtain ⟨c, c0, c1, c2, c3⟩ := nB_sur (n := P 3001 0) (by omega) x0 x1
  exact ⟨c, c0, c1, c2, (nw_k c2).trans c3⟩
theorem SPg.sf (h : SPg P r XX NL A) (hg : good P) (c0 : 0 ≤ c) (c1 : c < P 3000 0) (hc : kC P r XX c) (x0 : 0 ≤ x) (x1 : x < A 3005 (nC P r XX c)) : ∃ f, 0 ≤ f ∧ f < P 3005 c ∧ kFc P r XX c f ∧ nF P r XX c f = x := by
  have := hg.1.2.2.1 c c0 c1
  rw [(h.2.1 c c0 c1 hc).1.2.1] at x1
  obtain ⟨f, f0, f1, f2, f3⟩ := nB_sur (q := kFc P r XX c) (n := P 3005 c) (by omega) x0 x1
  exact ⟨f, f0, f1, f2, (nw_k f2).trans f3⟩
/-- what both sides have at a place is one and the same -/
theorem SPg.rp (hg : good P) (h : SPg P r XX NL (PgR σ)) (h' : SPg P r XX NL A) : RP σ 1 A := by
  refine ⟨?_, ?_, fun x x0 x1 => ?_, fun x x0 x1 => ?_⟩
  · rw [h'.1.1]; exact h.1.1
  · rw [h'.1.2]; exact h.1.2
  · obtain ⟨c, c0, c1, hc, rfl⟩ := h'.sc hg x0 x1
    obtain ⟨⟨⟨a1, a2⟩, a3, a4, a5⟩, af⟩ := h.2.1 c c0 c1 hc
    obtain ⟨⟨⟨b1, b2⟩, b3, b4, b5⟩, bf⟩ := h'.2.1 c c0 c1 hc
    rw [show 10 * 1 + nC P r XX c = 10 + nC P r XX c by omega]
    refine ⟨⟨?_, ?_, ?_, ?_, ?_⟩, fun f f0 f1 => ?_⟩
    · rw [b1]; exact a1
    · rw [b2]; exact a2
    · rw [b3]; exact a3
    · rw [b4]; exact a4
    · rw [b5]; exact a5
    · obtain ⟨f', f0', f1', hf, rfl⟩ := h'.sf hg c0 c1 hc f0 f1
      obtain ⟨u1, u2, u3⟩ := af f' f0' f1' hf
      obtain ⟨v1, v2, v3⟩ := bf f' f0' f1' hf
      rw [show 60 * 1 + 6 * nC P r XX c + nF P r XX c f' = 60 + (nC P r XX c * 6 + nF P r XX c f') by omega, v1, v2, v3]
      exact ⟨u1, u2, u3⟩
  · obtain ⟨m, m0, m1, hm, rfl⟩ := h'.sm hg x0 x1
    obtain ⟨⟨⟨a1, a2, a3, a4⟩, a5, a6⟩, a7, a8, a9⟩ := h.2.2 m m0 m1 hm
    obtain ⟨⟨⟨b1, b2, b3, b4⟩, b5, b6⟩, b7, b8, b9⟩ := h'.2.2 m m0 m1 hm
    rw [show 80 * 1 + nM P r XX m = 80 + nM P r XX m by omega]
    refine ⟨⟨?_, ?_, ?_, ?_, ?_, ?_, ?_⟩, fun p p0 p1 => ?_, fun i i0 i1 => ?_⟩
    · rw [b1]; exact a1
    · rw [b7]; exact a7
    · rw [b2]; exact a2
    · rw [b3]; exact a3
    · rw [b4]; exact a4
    · rw [b6]; exact a6
    · rw [b8]; exact a8
    · rw [b4] at p1
      rw [b5 p p0 p1, show 3 * (80 + nM P r XX m) + p = 240 + (nM P r XX m * 3 + p) by omega]
      exact a5 p p0 p1
    · rw [b8] at i1
      obtain ⟨u1, u2, u3⟩ := a9 i i0 i1
      obtain ⟨v1, v2, v3⟩ := b9 i i0 i1
      rw [show 9600 * 1 + 120 * nM P r XX m + i = 9600 + (nM P r XX m * 120 + i) by omega, v1, v2, v3]
      exact ⟨u1, u2, u3⟩
/-! classes of the small program -/
theorem nC_b (hg : good P) (c0 : 0 ≤ c) (c1 : c < P 3000 0) (hc : kC P r XX c) : 0 ≤ nC P r XX c ∧ nC P r XX c < nB (kC P r XX) (P 3000 0) ∧ nC P r XX c ≤ c ∧ nC P r XX c = nB (kC P r XX) c := by
  have := nw_b (n := P 3000 0) c0 c1 hc
  have e : nC P r XX c = nwN (kC P r XX) c := rfl
  exact ⟨by omega, by omega, by omega, nw_k hc⟩
theorem nM_b (hg : good P) (m0 : 0 ≤ m) (m1 : m < P 3001 0) (hm : kM P r XX m) : 0 ≤ nM P r XX m ∧ nM P r XX m < nB (kM P r XX) (P 3001 0) ∧ nM P r XX m ≤ m ∧ nM P r XX m = nB (kM P r XX) m := by
  have := nw_b (n := P 3001 0) m0 m1 hm
  have e : nM P r XX m = nwN (kM P r XX) m := rfl
  exact ⟨by omega, by omega, by omega, nw_k hm⟩
theorem nF_b (hg : good P) (c0 : 0 ≤ c) (c1 : c < P 3000 0) (f0 : 0 ≤ f) (f1 : f < P 3005 c) (hf : kFc P r XX c f) : 0 ≤ nF P r XX c f ∧ nF P r XX c f < nB (kFc P r XX c) (P 3005 c) ∧ nF P r XX c f ≤ f := by
  have := nw_b (n := P 3005 c) f0 f1 hf
  have e : nF P r XX c f = nwN (kFc P r XX c) f := rfl
  exact ⟨by omega, by omega, by omega⟩
theorem nC_i (c0 : 0 ≤ c) (c0' : 0 ≤ c') (hc : kC P r XX c) (hc' : kC P r XX c') (h : nC P r XX c = nC P r XX c') : c = c' := by
  rw [show nC P r XX c = nB (kC P r XX) c from nw_k hc, show nC P r XX c' = nB (kC P r XX) c' from nw_k hc'] at h
  exact nB_inj c0 c0' hc hc' h
theorem nB_ad {q : Int → Prop} (h0 : 0 ≤ x) : ∀ k : Nat, nB q (x + k) ≤ nB q x + k
  | 0 => by rw [show x + ((0 : Nat) : Int) = x by omega]; omega
  | k + 1 => by
    have ih := nB_ad (q := q) h0 k
    rw [show x + ((k + 1 : Nat) : Int) = x + k + 1 by push_cast; omega]
    by_cases g : q (x + k)
    · rw [nB_k (by omega) g]; push_cast; omega
    · rw [nB_n (by omega) g]; push_cast; omega
/-- the classes' chain -/
theorem SPg.ws (h : SPg P r XX NL A) (hg : good P) (h1 : 1 ≤ nB (kC P r XX) (P 3000 0)) : WFs A := by
  have hc1 := hg.1.1.1
  have hc10 := hg.1.1.2.1
  refine ⟨by rw [h.1.1]; exact h1, ?_, fun x x0 x1 => ?_⟩
  · rw [h.1.1]
    have := nB_le (q := kC P r XX) (x := P 3000 0) (by omega)
    omega
  · obtain ⟨c, c0, c1, hc, rfl⟩ := h.sc hg x0 x1
    have hsu := hg.1.1.2.2 c c0 c1
    rw [(h.2.1 c c0 c1 hc).1.1.2]
    have nb := nC_b hg c0 c1 hc
    by_cases g : P 3003 c < 0
    · rw [if_pos g]; omega
    · rw [if_neg g]
      have ks := kC_cl.2.2.2.2 c c0 c1 hc (by omega)
      have nb' := nC_b hg (by omega) (by omega) ks
      have := nB_lt (q := kC P r XX) (x := P 3003 c) (y := c) (by omega) (by omega) ks
      omega
theorem SPg.wm (h : SPg P r XX NL A) (hg : good P) : WFm A := by
  have hm0 := hg.1.2.1.1
  have h80 := hg.1.2.1.2.1
  refine ⟨by rw [h.1.2]; exact nB_p, ?_, fun x x0 x1 => ?_⟩
  · rw [h.1.2]
    have := nB_le (q := kM P r XX) (x := P 3001 0) (by omega)
    omega
  · obtain ⟨c, c0, c1, hc, rfl⟩ := h.sc hg x0 x1
    obtain ⟨-, -, a4, a5⟩ := (h.2.1 c c0 c1 hc).1
    have hm3 := hg.1.2.1.2.2 c c0 c1
    rw [a4, a5, h.1.2]
    have b1 := nB_mo (q := kM P r XX) (x := P 3007 c) (y := P 3007 c + P 3006 c) (by omega) (by omega)
    have b2 := nB_mo (q := kM P r XX) (x := P 3007 c + P 3006 c) (y := P 3001 0) (by omega) (by omega)
    have b3 := nB_ad (q := kM P r XX) (x := P 3007 c) (by omega) (P 3006 c).toNat
    rw [show P 3007 c + (((P 3006 c).toNat : Nat) : Int) = P 3007 c + P 3006 c by omega] at b3
    have b4 := nB_p (q := kM P r XX) (x := P 3007 c)
    omega
theorem SPg.wc (h : SPg P r XX NL A) (hg : good P) : WFc A := by
  intro x1 x2 x10 x12 x21
  obtain ⟨c2, c20, c21, hc2, rfl⟩ := h.sc hg (show 0 ≤ x2 by omega) x21
  have nb2 := nC_b hg c20 c21 hc2
  rw [h.1.1] at x21
  obtain ⟨c1, c10, c11, hc1, rfl⟩ := h.sc hg x10 (show x1 < A 3000 0 by rw [h.1.1]; omega)
  have nb1 := nC_b hg c10 c11 hc1
  have lt : c1 < c2 := by
    by_cases q : c1 < c2
    · exact q
    · have := nB_mo (q := kC P r XX) c20 (show c2 ≤ c1 by omega); omega
  have hm1 := hg.1.2.1.2.2 c1 c10 c11
  have := hg.2.2.2.2 c1 c2 c10 lt c21
  have mo := nB_mo (q := kM P r XX) (x := P 3007 c1 + P 3006 c1) (y := P 3007 c2) (by omega) this
  rw [(h.2.1 c1 c10 c11 hc1).1.2.2.1, (h.2.1 c1 c10 c11 hc1).1.2.2.2, (h.2.1 c2 c20 c21 hc2).1.2.2.2]
  omega
/-- covering is kept -/
theorem SPg.cvr (h : SPg P r XX NL A) (hg : good P) (hs : WFs A) (c0 : 0 ≤ c) (hc : kC P r XX c) : ∀ d, 0 ≤ d → d < P 3000 0 → kC P r XX d → cv A (nC P r XX c) (nC P r XX d) = cv P c d := by
  refine cv_ind hg.1.1 (fun d d0 d1 ih hd => ?_)
  have nb := nC_b hg d0 d1 hd
  have hsu := hg.1.1.2.2 d d0 d1
  rw [cv_s hs nb.1 (by rw [h.1.1]; exact nb.2.1), cv_s hg.1.1 d0 d1, (h.2.1 d d0 d1 hd).1.1.2]
  have e : decide (nC P r XX d = nC P r XX c) = decide (d = c) := by
    by_cases g : d = c
    · rw [g]; simp
    · have : ¬ nC P r XX d = nC P r XX c := fun q => g (nC_i d0 c0 hd hc q)
      simp [g, this]
  rw [e]
  by_cases g : P 3003 d < 0
  · rw [if_pos g, cv_n (by omega), cv_n g]
  · have ks := kC_cl.2.2.2.2 d d0 d1 hd (by omega)
    rw [if_neg g, ih (by omega) ks]
/-- a method's place among its class's -/
theorem SPg.ow (h : SPg P r XX NL A) (hg : good P) (m0 : 0 ≤ m) (m1 : m < P 3001 0) (hm : kM P r XX m) : kC P r XX (P 3011 m) ∧ A 3011 (nM P r XX m) = nC P r XX (P 3011 m) ∧ A 3007 (nC P r XX (P 3011 m)) ≤ nM P r XX m ∧ nM P r XX m < A 3007 (nC P r XX (P 3011 m)) + A 3006 (nC P r XX (P 3011 m)) := by
  have kc := (kC_cl.2.2.2.1 m m0 m1 hm).1
  obtain ⟨o1, o2, o3, o4⟩ := (hg.1.2.2.2 m m0 m1).1
  have nb := nM_b hg m0 m1 hm
  have hm3 := hg.1.2.1.2.2 _ o1 o2
  have b1 := nB_mo (q := kM P r XX) (x := P 3007 (P 3011 m)) (y := m) (by omega) o3
  have b2 := nB_lt (q := kM P r XX) (x := m) (y := P 3007 (P 3011 m) + P 3006 (P 3011 m)) m0 o4 hm
  refine ⟨kc, (h.2.2 m m0 m1 hm).1.1.1, ?_, ?_⟩
  · rw [(h.2.1 _ o1 o2 kc).1.2.2.2]; omega
  · rw [(h.2.1 _ o1 o2 kc).1.2.2.1, (h.2.1 _ o1 o2 kc).1.2.2.2]; omega
/-- the methods of a class, from below -/
theorem SPg.cm (h : SPg P r XX NL A) (hg : good P) (c0 : 0 ≤ c) (c1 : c < P 3000 0) (hc : kC P r XX c) (k0 : 0 ≤ k) (k1 : k < A 3006 (nC P r XX c)) : ∃ m, 0 ≤ m ∧ m < P 3001 0 ∧ kM P r XX m ∧ nM P r XX m = A 3007 (nC P r XX c) + k ∧ P 3011 m = c ∧ P 3007 c ≤ m ∧ m < P 3007 c + P 3006 c := by
  have hm3 := hg.1.2.1.2.2 c c0 c1
  rw [(h.2.1 c c0 c1 hc).1.2.2.1] at k1
  rw [(h.2.1 c c0 c1 hc).1.2.2.2]
  have n0 := nB_p (q := kM P r XX) (x := P 3007 c)
  obtain ⟨z, z0, z1, z2, z3⟩ := nB_sur (q := kM P r XX) (n := P 3007 c + P 3006 c) (k := nB (kM P r XX) (P 3007 c) + k) (by omega) (by omega) (by omega)
  have zl : P 3007 c ≤ z := by
    by_cases q : z < P 3007 c
    · have := nB_lt (q := kM P r XX) z0 q z2; omega
    · omega
  exact ⟨z, z0, by omega, z2, (nw_k z2).trans z3, own_m hg c0 c1 zl z1, zl, z1⟩
theorem SPg.wd (h : SPg P r XX NL A) (hg : good P) (h4 : ∀ c, 0 ≤ c → c < P 3000 0 → kC P r XX c → A 3004 (nC P r XX c) = P 3004 c) : WFd A := by
  intro x x0 x1
  obtain ⟨c, c0, c1, hc, rfl⟩ := h.sc hg x0 x1
  have hd := (hg.2.1 c c0 c1).1
  have hsu := hg.1.1.2.2 c c0 c1
  refine ⟨⟨?_, ?_, ?_⟩, fun k k0 k1 => ?_⟩
  · rw [h4 c c0 c1 hc, (h.2.1 c c0 c1 hc).1.1.2, hd.1]
    by_cases g : P 3003 c < 0
    · rw [if_pos g, if_pos g, if_pos (by omega)]
    · have ks := kC_cl.2.2.2.2 c c0 c1 hc (by omega)
      have nb := nC_b hg (by omega) (by omega) ks
      rw [if_neg g, if_neg g, if_neg (by omega), h4 _ (by omega) (by omega) ks]
  · rw [h4 c c0 c1 hc]; exact hd.2.1
  · rw [h4 c c0 c1 hc]
    have key : ∀ d, 0 ≤ d → d < P 3000 0 → kC P r XX d → P 3004 d ≤ nB (kC P r XX) d := by
      refine cv_ind hg.1.1 (fun d d0 d1 ih hd' => ?_)
      have hd1 := (hg.2.1 d d0 d1).1
      have hsd := hg.1.1.2.2 d d0 d1
      rw [hd1.1]
      by_cases g : P 3003 d < 0
      · rw [if_pos g]; exact nB_p
      · have ks := kC_cl.2.2.2.2 d d0 d1 hd' (by omega)
        have := ih (by omega) ks
        have := nB_lt (q := kC P r XX) (x := P 3003 d) (y := d) (by omega) (by omega) ks
        rw [if_neg g]; omega
    rw [(nC_b hg c0 c1 hc).2.2.2]
    exact key c c0 c1 hc
  · obtain ⟨m, m0, m1, hm, e1, e2, -⟩ := h.cm hg c0 c1 hc k0 k1
    rw [← e1, (h.ow hg m0 m1 hm).2.1, e2]
end SMALL
