section RNAM2
variable {d : Nat} {Q : j3_P} {σ τ : j3_S} {P : Pg} {c k m j x : Int}
theorem b2i_and {a b : Bool} : (if b2i a = 0 then b2i false else b2i b) = b2i (a && b) := by cases a <;> rfl
theorem l85 {w6 w7 : j3_W} (hR : RP σ 2 P) (hW : WF0 P) (c0 : 0 ≤ c) (c1 : c < P 3000 0) (k0 : 0 ≤ k) (k1 : k < P 3006 c) : ∀ (r : Nat) (j : Int) (b : Bool), j + r = k → 0 ≤ j → T169 (d + 1) Q 85 [wO 10 121, wI c, wI k, wI (160 + P 3007 c + k), wI (b2i b), wI j, w6, w7] [] σ = T169 (d + 1) Q 121 [wO 10 121, wI c, wI k, wI (160 + P 3007 c + k), wI (b2i (b && !mclr P c k r j)), wI (P 3003 c), w6, w7] [] σ
  | 0, j, b, hj, j0 => by
    have hn := hW.1.2.1
    have e3 := (hR.2.2.1 c c0 c1).1.2.1
    rw [show (10 : Int) * 2 = 20 by decide] at e3
    rw [b169_85, if_neg (by omega), wr_id (by omega) (by omega), e3]
    simp [mclr, show 0 ≤ 20 + c by omega, show 20 + c < 30 by omega]
  | r + 1, j, b, hj, j0 => by
    have hn := hW.1.2.1
    have hm2 := hW.2.1.2.1
    have hcm := hW.2.1.2.2 c c0 c1
    have e7 := (hR.2.2.1 c c0 c1).1.2.2.2.2
    have n1 := (hR.2.2.2 (P 3007 c + j) (by omega) (by omega)).1.2.1
    have n2 := (hR.2.2.2 (P 3007 c + k) (by omega) (by omega)).1.2.1
    rw [show (10 : Int) * 2 = 20 by decide] at e7
    rw [show (80 : Int) * 2 = 160 by decide] at n1 n2
    have ih := l85 (w6 := w6) (w7 := w7) hR hW c0 c1 k0 k1 r (j + 1)
    rw [b169_85, if_pos (by omega)]
    simp (disch := omega) only [wr_id, e7]
    rw [show 160 + P 3007 c + j = 160 + (P 3007 c + j) by omega, show 160 + P 3007 c + k = 160 + (P 3007 c + k) by omega, n1, n2, ← show 160 + P 3007 c + k = 160 + (P 3007 c + k) by omega]
    have x1 : (0 ≤ 20 + c ∧ 20 + c < 30) = True := by simp; omega
    have x2 : (0 ≤ 160 + (P 3007 c + j) ∧ 160 + (P 3007 c + j) < 240) = True := by simp; omega
    have x3 : (0 ≤ 160 + P 3007 c + k ∧ 160 + P 3007 c + k < 240) = True := by simp; omega
    simp only [x1, x2, x3, true_and]
    have ef : mclr P c k (r + 1) j = (decide (P 3012 (P 3007 c + j) = P 3012 (P 3007 c + k)) || mclr P c k r (j + 1)) := rfl
    have ih0 := ih false (by omega) (by omega)
    have ih1 := ih true (by omega) (by omega)
    cases b
    · rw [if_pos (show b2i false = 0 from rfl), b169_110, b169_111, wr_id (by omega) (by omega), show (0 : Int) = b2i false from rfl, ih0]
      simp
    · rw [if_neg (by decide)]
      by_cases g : P 3012 (P 3007 c + j) = P 3012 (P 3007 c + k)
      · rw [if_pos g, b169_110, b169_111, wr_id (by omega) (by omega), show (0 : Int) = b2i false from rfl, ih0, ef]
        simp [g]
      · rw [if_neg g, b169_111, wr_id (by omega) (by omega)]
        refine Eq.trans ih1 ?_
        rw [ef]
        simp [g]
theorem l125 {x1 x2 : Int} (hR : RP σ 2 P) (hW : WF0 P) (m0 : 0 ≤ m) (m1 : m < P 3001 0) (h0 : 0 ≤ x) (h1 : x < P 3000 0) : ∀ (r : Nat) (n : Int) (b : Bool) (w7 : j3_W), n + r = P 3006 x → 0 ≤ n → (∀ w6 w7, T169 (d + 1) Q 121 [wO 10 121, wI x1, wI x2, wI (160 + m), wI (b2i (b && !abv P m x r n)), wI (P 3003 x), w6, w7] [] σ) → T169 (d + 1) Q 125 [wO 10 121, wI x1, wI x2, wI (160 + m), wI (b2i b), wI x, wI n, w7] [] σ
  | 0, n, b, w7, hn', n0, h => by
    have hn := hW.1.2.1
    have hcm := hW.2.1.2.2 x h0 h1
    obtain ⟨⟨-, e3, -, e6, -⟩, -⟩ := hR.2.2.1 x h0 h1
    rw [show (10 : Int) * 2 = 20 by decide] at e3 e6
    rw [b169_125, wr_id (by omega) (by omega), e6, if_neg (by omega), e3]
    refine ⟨by omega, by omega, ?_⟩
    have := h (wI n) w7
    simp only [abv, Bool.not_false, Bool.and_true] at this
    exact this
  | r + 1, n, b, w7, hn', n0, h => by
    have hn := hW.1.2.1
    have hm2 := hW.2.1.2.1
    have hcm := hW.2.1.2.2 x h0 h1
    obtain ⟨⟨-, e3, -, e6, e7⟩, -⟩ := hR.2.2.1 x h0 h1
    rw [show (10 : Int) * 2 = 20 by decide] at e3 e6 e7
    have n1 := (hR.2.2.2 (P 3007 x + n) (by omega) (by omega)).1.2.1
    have n2 := (hR.2.2.2 m m0 m1).1.2.1
    rw [show (80 : Int) * 2 = 160 by decide] at n1 n2
    have ea : abv P m x (r + 1) n = ((decide (P 3012 (P 3007 x + n) = P 3012 m) && !shp P m (P 3007 x + n)) || abv P m x r (n + 1)) := rfl
    rw [b169_125, wr_id (by omega) (by omega), e6, if_pos (by omega), e7]
    simp (disch := omega) only [wr_id]
    rw [show 160 + P 3007 x + n = 160 + (P 3007 x + n) by omega, n1, n2]
    refine ⟨by omega, by omega, ?_⟩
    have t163 : ∀ b' : Bool, (b' && !abv P m x r (n + 1)) = (b && !abv P m x (r + 1) n) → T169 (d + 1) Q 163 [wO 10 121, wI x1, wI x2, wI (160 + m), wI (b2i b), wI x, wI n, wI (160 + (P 3007 x + n))] [wI (b2i b')] σ := by
      intro b' hb'
      rw [b169_163, wr_id (by omega) (by omega)]
      refine l125 hR hW m0 m1 h0 h1 r (n + 1) b' _ (by omega) (by omega) ?_
      rw [hb']
      exact h
    cases b
    · rw [if_pos (show b2i false = 0 from rfl), b169_162]
      exact t163 false rfl
    · rw [if_neg (by decide)]
      refine ⟨by omega, by omega, ?_⟩
      by_cases g : P 3012 (P 3007 x + n) = P 3012 m
      · rw [if_pos g, s168 hR hW m0 m1 (by omega) (by omega)]
        simp only [Option.toList_some, List.cons_append, List.nil_append]
        rw [b169_159]
        cases hs : shp P m (P 3007 x + n)
        · rw [if_pos (show b2i false = 0 from rfl), b169_162]
          exact t163 false (by rw [ea, hs]; simp [g])
        · rw [if_neg (by decide), b169_160]
          exact t163 true (by rw [ea, hs]; simp [g])
      · rw [if_neg g, b169_160]
        exact t163 true (by rw [ea]; simp [g])
theorem l121 {x1 x2 : Int} (hR : RP σ 2 P) (hW : WF0 P) (m0 : 0 ≤ m) (m1 : m < P 3001 0) : ∀ (n : Nat) (x : Int) (b : Bool) (w6 w7 : j3_W), x < n → -1 ≤ x → x < P 3000 0 → (∀ x w6 w7, x < 0 → T169 (d + 1) Q 121 [wO 10 121, wI x1, wI x2, wI (160 + m), wI (b2i (b && !achr P m n x)), wI x, w6, w7] [] σ → True) → (∀ y w6 w7, y < 0 → T169 (d + 1) Q 121 [wO 10 121, wI x1, wI x2, wI (160 + m), wI (b2i (b && !achr P m n x)), wI y, w6, w7] [] σ) → T169 (d + 1) Q 121 [wO 10 121, wI x1, wI x2, wI (160 + m), wI (b2i b), wI x, w6, w7] [] σ
  | 0, x, b, w6, w7, hx, h0, h1, _, h => by
    have := h x w6 w7 (by omega)
    simp only [achr, Bool.not_false, Bool.and_true] at this
    exact this
  | n + 1, x, b, w6, w7, hx, h0, h1, _, h => by
    simp only [achr] at h
    by_cases g : x < 0
    · rw [if_pos g] at h
      have := h x w6 w7 g
      simp only [Bool.not_false, Bool.and_true] at this
      exact this
    · have hs := hW.1.2.2 x (by omega) h1
      have hcm := hW.2.1.2.2 x (by omega) h1
      rw [if_neg g] at h
      rw [b169_121, if_neg g]
      refine l125 hR hW m0 m1 (by omega) h1 (P 3006 x).toNat 0 b _ (by omega) (by omega) (fun w6 w7 => ?_)
      refine l121 hR hW m0 m1 n (P 3003 x) _ w6 w7 (by omega) (by omega) (by omega) (fun _ _ _ _ _ => trivial) (fun y w6 w7 hy => ?_)
      have := h y w6 w7 hy
      rw [show (b && !(abv P m x (P 3006 x).toNat 0 || achr P m n (P 3003 x))) = (b && !abv P m x (P 3006 x).toNat 0 && !achr P m n (P 3003 x)) by simp [Bool.and_assoc]] at this
      exact this
/-- the methods of a class -/
theorem l59 (hR : RP σ 2 P) (hW : WF0 P) (hb : σ.1 10007 121 = 0) (c0 : 0 ≤ c) (c1 : c < P 3000 0) (hu : ∀ x, 0 ≤ x → x < c → uq P x) : ∀ (r : Nat) (k : Int) (w3 w4 w5 w6 w7 : j3_W), k + r = P 3006 c → 0 ≤ k → (match fst3 (mck P c) r k with
    | some k => Q none (wrS σ 2 c k 1)
    | none => ∀ w2 w3 w4 w5 w6 w7, T169 (d + 1) Q 2 [wO 10 121, wI (c + 1), w2, w3, w4, w5, w6, w7] [] σ) → T169 (d + 1) Q 59 [wO 10 121, wI c, wI k, w3, w4, w5, w6, w7] [] σ
  | 0, k, w3, w4, w5, w6, w7, hk, k0, h => by
    have hn := hW.1.2.1
    have e6 := (hR.2.2.1 c c0 c1).1.2.2.2.1
    rw [show (10 : Int) * 2 = 20 by decide] at e6
    rw [b169_59, wr_id (by omega) (by omega), e6, if_neg (by omega), b169_184, wr_id (by omega) (by omega)]
    exact ⟨by omega, h _ _ _ _ _ _⟩
  | r + 1, k, w3, w4, w5, w6, w7, hk, k0, h => by
    have hn := hW.1.2.1
    have hm2 := hW.2.1.2.1
    have hs := hW.1.2.2 c c0 c1
    have hcm := hW.2.1.2.2 c c0 c1
    obtain ⟨⟨-, -, -, e6, e7⟩, -⟩ := hR.2.2.1 c c0 c1
    rw [show (10 : Int) * 2 = 20 by decide] at e6 e7
    rw [b169_59, wr_id (by omega) (by omega), e6, if_pos (by omega), hb, if_pos rfl, e7]
    simp (disch := omega) only [wr_id]
    refine ⟨by omega, by omega, ?_⟩
    rw [show (1 : Int) = b2i true from rfl, l85 hR hW c0 c1 k0 (by omega) k.toNat 0 true (by omega) (by omega), show 160 + P 3007 c + k = 160 + (P 3007 c + k) by omega]
    refine l121 hR hW (by omega) (by omega) 10 (P 3003 c) _ _ _ (by omega) (by omega) (by omega) (fun _ _ _ _ _ => trivial) (fun y w6 w7 hy => ?_)
    have em : (true && !mclr P c k k.toNat 0 && !achr P (P 3007 c + k) 10 (P 3003 c)) = !mck P c k := by
      unfold mck
      rw [achr_e hW 10 (P 3003 c) (by omega) (fun x' a b => hu x' a (by omega))]
      simp
    rw [em, b169_121, if_pos hy]
    simp only [fst3] at h
    cases hk' : mck P c k
    · rw [hk'] at h
      rw [if_neg (show ¬ b2i (!false) = 0 by decide), b169_182, wr_id (by omega) (by omega)]
      exact l59 hR hW hb c0 c1 hu r (k + 1) _ _ _ _ _ (by omega) (by omega) h
    · rw [hk'] at h
      rw [if_pos (show b2i (!true) = 0 by decide), s158]
      simp only [Option.toList_none, List.nil_append]
      have hb1 : ¬ (wrS σ 2 c k 1).1 10007 121 = 0 := by rw [wrS_1 hb]; decide
      rw [b169_182, b169_59, if_neg hb1, ite_self, b169_184, b169_2, if_neg hb1, ite_self, wr_id (by omega) (by omega)]
      exact ⟨by omega, by omega, h⟩
theorem l2n (hR : RP σ 2 P) (hW : WF0 P) (hb : σ.1 10007 121 = 0) : ∀ (r : Nat) (c : Int) (w2 w3 w4 w5 w6 w7 : j3_W), c + r = P 3000 0 → 0 ≤ c → (∀ x, 0 ≤ x → x < c → uq P x) → (match clk P r c with
    | some (c, k, s) => Q none (wrS σ 2 c k s)
    | none => Q none σ) → T169 (d + 1) Q 2 [wO 10 121, wI c, w2, w3, w4, w5, w6, w7] [] σ
  | 0, c, w2, w3, w4, w5, w6, w7, hc, c0, hu, h => by
    rw [b169_2, hR.1, if_neg (by omega)]
    exact ⟨by omega, h⟩
  | r + 1, c, w2, w3, w4, w5, w6, w7, hc, c0, hu, h => by
    have hn := hW.1.2.1
    have hcf := hW.2.2.1 c c0 (by omega)
    have hcm := hW.2.1.2.2 c c0 (by omega)
    have e6 := (hR.2.2.1 c c0 (by omega)).1.2.2.2.1
    rw [show (10 : Int) * 2 = 20 by decide] at e6
    rw [b169_2, hR.1, if_pos (by omega), hb, if_pos rfl]
    refine ⟨by omega, l13n hW c0 (by omega) (P 3005 c).toNat 0 _ σ hR (by omega) (by omega) (fun w3 => ?_)⟩
    rw [if_pos hb]
    simp only [clk] at h
    cases hf : fst3 (fck P c) (P 3005 c).toNat 0 with
    | some k =>
      rw [hf] at h
      simp only [] at h ⊢
      have hb1 : ¬ (wrS σ 2 c k 0).1 10007 121 = 0 := by rw [wrS_1 hb]; decide
      rw [b169_59, if_neg hb1, ite_self, b169_184, b169_2, if_neg hb1, ite_self, wr_id (by omega) (by omega)]
      exact ⟨by omega, by omega, h⟩
    | none =>
      rw [hf] at h
      simp only [] at h ⊢
      refine l59 hR hW hb c0 (by omega) hu (P 3006 c).toNat 0 _ _ _ _ _ (by omega) (by omega) ?_
      cases hm : fst3 (mck P c) (P 3006 c).toNat 0 with
      | some k =>
        rw [hm] at h
        exact h
      | none =>
        rw [hm] at h
        intro w2 w3 w4 w5 w6 w7
        refine l2n hR hW hb r (c + 1) _ _ _ _ _ _ (by omega) (by omega) (fun x x0 x1 => ?_) h
        by_cases g : x = c
        · rw [g]
          exact uq_of hm
        · exact hu x x0 (by omega)
theorem s169 (hR : RP σ 2 P) (hW : WF0 P) (hb : σ.1 10007 121 = 0) (h : match clk P (P 3000 0).toNat 0 with
    | some (c, k, s) => Q none (wrS σ 2 c k s)
    | none => Q none σ) : j3_tc true (d + 2) 169 [wO 10 121] σ Q := by
  have := hW.1.1
  rw [e169, b169_0]
  exact l2n hR hW hb (P 3000 0).toNat 0 _ _ _ _ _ _ (by omega) (by omega) (fun x x0 x1 => absurd x1 (by omega)) h
/-- no clash: names of a class differ, and what stands above under a name has the same face -/
def WFn (P : Pg) : Prop := ∀ c, 0 ≤ c → c < P 3000 0 → uq P c ∧ ∀ k, 0 ≤ k → k < P 3006 c → acl P (P 3007 c + k) 10 (P 3003 c) = false
theorem clk_n (hW : WF0 P) : ∀ (r : Nat) (c : Int), c + r = P 3000 0 → 0 ≤ c → clk P r c = none → ∀ x, c ≤ x → x < P 3000 0 → uq P x ∧ ∀ k, 0 ≤ k → k < P 3006 x → acl P (P 3007 x + k) 10 (P 3003 x) = false
  | 0, c, hc, c0, _, x, x0, x1 => absurd x1 (by omega)
  | r + 1, c, hc, c0, h, x, x0, x1 => by
    simp only [clk] at h
    cases hf : fst3 (fck P c) (P 3005 c).toNat 0 with
    | some k => rw [hf] at h; cases h
    | none =>
      rw [hf] at h
      simp only [] at h
      cases hm : fst3 (mck P c) (P 3006 c).toNat 0 with
      | some k => rw [hm] at h; cases h
      | none =>
        rw [hm] at h
        by_cases g : x = c
        · subst g
          refine ⟨uq_of hm, fun k k0 k1 => ?_⟩
          have hcm := hW.2.1.2.2 x c0 x1
          have := fst3_n _ _ hm k (by omega) (by omega)
          unfold mck at this
          rw [Bool.or_eq_false_iff] at this
          exact this.2
        · exact clk_n hW r (c + 1) (by omega) (by omega) h x (by omega) x1
theorem clk_ok (hW : WF0 P) (h : clk P (P 3000 0).toNat 0 = none) : WFn P := fun c c0 c1 => by
  have := hW.1.1
  exact clk_n hW (P 3000 0).toNat 0 (by omega) (by omega) h c c0 c1
end RNAM2
