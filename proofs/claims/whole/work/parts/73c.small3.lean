/-! new names tell methods of a chain apart as the old ones do; the small program is good -/
section SMALL3
variable {σ σ' : j3_S} {P A : Pg} {r : Rs} {XX : Int → Sx} {NL : Int → Int} {x c c' m m' i f k n v z t w y : Int}
theorem nam_k (hg : good P) (m0 : 0 ≤ m) (m1 : m < P 3001 0) (hm : kM P r XX m) : nam P r XX m = if nabv P r XX m = -1 then lfre P r XX (nmT P r XX m.toNat) m 80 1 else nam P r XX (nabv P r XX m) := by
  rw [nam_e m1 (k := m.toNat + 1) (by omega)]
  have eT : nmT P r XX (m.toNat + 1) = bif dB (kM P r XX (m.toNat : Int)) then i_up (nmT P r XX m.toNat) (m.toNat : Int) (nmv P r XX (nmT P r XX m.toNat) (m.toNat : Int)) else nmT P r XX m.toNat := rfl
  have em : ((m.toNat : Nat) : Int) = m := by omega
  rw [eT, em, dB_t.2 hm]
  show i_up _ _ _ m = _
  rw [iu_r]
  unfold nmv
  by_cases g : nabv P r XX m = -1
  · rw [if_pos g, if_pos g]
  · rw [if_neg g, if_neg g]
    rcases nabv_in (r := r) (XX := XX) hg m0 m1 with q | ⟨q1, -⟩
    · exact absurd q g
    · rw [nam_e (by omega) (k := m.toNat) (by omega)]
theorem own_le (hg : good P) (m0 : 0 ≤ m) (h : m < m') (m1 : m' < P 3001 0) : P 3011 m ≤ P 3011 m' := by
  obtain ⟨a1, a2, a3, a4⟩ := (hg.1.2.2.2 m m0 (by omega)).1
  obtain ⟨b1, b2, b3, b4⟩ := (hg.1.2.2.2 m' (by omega) m1).1
  by_cases g : P 3011 m ≤ P 3011 m'
  · exact g
  · have := hg.2.2.2.2 (P 3011 m') (P 3011 m) b1 (by omega) a2
    omega
theorem nam_in (hg : good P) : ∀ (n : Nat) (m m' : Int), m < n → 0 ≤ m' → m' < m → m < P 3001 0 → kM P r XX m → kM P r XX m' → cv P (P 3011 m') (P 3011 m) = true → nam P r XX m = nam P r XX m' → P 3012 m = P 3012 m'
  | 0, m, m', hn, h0, h1, h2, hm, hm', hcv, he => by push_cast at hn; omega
  | n + 1, m, m', hn, h0, h1, h2, hm, hm', hcv, he => by
    have h80 := hg.1.2.1.2.1
    have ow := (hg.1.2.2.2 m (by omega) h2).1
    have ow' := (hg.1.2.2.2 m' h0 (by omega)).1
    have ek := nam_k hg (show 0 ≤ m by omega) h2 hm
    by_cases g : nabv P r XX m = -1
    · rw [if_pos g] at ek
      obtain ⟨v, v0, v1, v2⟩ := free80 (P := P) (r := r) (XX := XX) (T := nmT P r XX m.toNat) (m := m) (by omega) (by omega)
      have fr := (lfre_f (P := P) (r := r) (XX := XX) (T := nmT P r XX m.toNat) (m := m) 80 1 ⟨v, v0, by push_cast; omega, v2⟩).1
      rw [← ek] at fr
      refine absurd ⟨m', ⟨h0, h1⟩, hm', ?_, hcv⟩ fr
      rw [he, nam_e (by omega) (k := m.toNat) (by omega)]
    · rw [if_neg g] at ek
      rcases nabv_in (r := r) (XX := XX) hg (show 0 ≤ m by omega) h2 with q | ⟨q1, q2, q3, q4, q5⟩
      · exact absurd q g
      · have owa := (hg.1.2.2.2 (nabv P r XX m) q1.1 (by omega)).1
        have hsu := hg.1.1.2.2 _ ow.1 ow.2.1
        have cva : cv P (P 3011 (nabv P r XX m)) (P 3011 m) = true := by
          rw [cv_s hg.1.1 ow.1 ow.2.1, q4]; simp
        rw [← q2]
        generalize nabv P r XX m = a at *
        rcases (by omega : m' < a ∨ m' = a ∨ a < m') with g1 | g1 | g1
        · refine nam_in hg n a m' (by push_cast at hn; omega) h0 g1 (by omega) q3 hm' ?_ (by rw [← ek]; exact he)
          rcases cv_l hg.1.1 (P 3011 m) ow.1 ow.2.1 cva hcv with u | u
          · exact u
          · have l1 := own_le hg h0 g1 (by omega)
            have l2 := cv_le hg.1.1 (P 3011 m') ow'.1 ow'.2.1 u
            rw [show P 3011 m' = P 3011 a by omega]
            exact cv_r hg.1.1 owa.1 owa.2.1
        · rw [g1]
        · refine (nam_in hg n m' a (by push_cast at hn; omega) q1.1 g1 (by omega) hm' q3 ?_ (by rw [← ek]; exact he.symm)).symm
          rcases cv_l hg.1.1 (P 3011 m) ow.1 ow.2.1 cva hcv with u | u
          · have l1 := own_le hg q1.1 g1 (by omega)
            have l2 := cv_le hg.1.1 (P 3011 a) owa.1 owa.2.1 u
            rw [show P 3011 a = P 3011 m' by omega]
            exact cv_r hg.1.1 ow'.1 ow'.2.1
          · exact u
theorem nam_ch (hg : good P) (m0 : 0 ≤ m) (m0' : 0 ≤ m') (m1 : m < P 3001 0) (m1' : m' < P 3001 0) (hm : kM P r XX m) (hm' : kM P r XX m') (hcv : cv P (P 3011 m') (P 3011 m) = true) (he : nam P r XX m = nam P r XX m') : P 3012 m = P 3012 m' := by
  obtain ⟨a1, a2, a3, a4⟩ := (hg.1.2.2.2 m m0 m1).1
  rcases (by omega : m' < m ∨ m = m' ∨ m < m') with g | g | g
  · exact nam_in hg (m.toNat + 1) m m' (by push_cast; omega) m0' g m1 hm hm' hcv he
  · rw [g]
  · refine (nam_in hg (m'.toNat + 1) m' m (by push_cast; omega) m0 g m1' hm' hm ?_ he.symm).symm
    have l1 := own_le hg m0 g m1'
    have l2 := cv_le hg.1.1 (P 3011 m) a1 a2 hcv
    rw [show P 3011 m' = P 3011 m by omega]
    exact cv_r hg.1.1 a1 a2
theorem shr_of {B : Pg} {t u : Int} : ∀ (n : Nat) (p : Int), (∀ q, p ≤ q → q < p + n → B 3016 (t * 3 + q) = B 3016 (u * 3 + q)) → shr B t u n p = true
  | 0, _, _ => rfl
  | n + 1, p, h => by
    simp only [shr, Bool.and_eq_true, decide_eq_true_eq]
    exact ⟨h p (by omega) (by push_cast; omega), shr_of n (p + 1) (fun q q0 q1 => h q (by omega) (by push_cast; omega))⟩
/-- a face that fits is kept -/
theorem SPg.sh (h : SPg P r XX NL A) (hg : good P) (m0 : 0 ≤ m) (m1 : m < P 3001 0) (hm : kM P r XX m) (m0' : 0 ≤ m') (m1' : m' < P 3001 0) (hm' : kM P r XX m') (hs : shp P m m' = true) : shp A (nM P r XX m) (nM P r XX m') = true := by
  have l := shp_l hs (hg.1.2.2.2 m m0 m1).2.2.2.1.1
  have p4 := (hg.1.2.2.2 m m0 m1).2.2.2.1
  simp only [shp, Bool.and_eq_true, decide_eq_true_eq] at hs ⊢
  obtain ⟨⟨⟨⟨h1, h2⟩, h3⟩, h4⟩, h5⟩ := hs
  obtain ⟨⟨a1, a2, a3, a4⟩, a5, a6⟩ := (h.2.2 m m0 m1 hm).1
  obtain ⟨⟨b1, b2, b3, b4⟩, b5, b6⟩ := (h.2.2 m' m0' m1' hm').1
  refine ⟨⟨⟨⟨by rw [a2]; exact h1, by rw [b2]; exact h2⟩, by rw [a3, b3, h3]⟩, by rw [a4, b4, h4]⟩, ?_⟩
  refine shr_of _ 0 (fun q q0 q1 => ?_)
  rw [a4] at q1
  rw [a5 q q0 (by omega), b5 q q0 (by omega), l.2.2.2 q q0 (by omega)]
theorem SPg.ac (h : SPg P r XX NL A) (hg : good P) (m0 : 0 ≤ m) (m1 : m < P 3001 0) (hm : kM P r XX m) : ∀ (n : Nat) (d : Int), -1 ≤ d → d < P 3000 0 → (0 ≤ d → kC P r XX d ∧ cv P d (P 3003 (P 3011 m)) = true) → acl A (nM P r XX m) n (if d < 0 then -1 else nC P r XX d) = false
  | 0, d, _, _, _ => rfl
  | n + 1, d, d0, d1, hd => by
    have ow := (hg.1.2.2.2 m m0 m1).1
    have hsm := hg.1.1.2.2 _ ow.1 ow.2.1
    unfold acl
    by_cases g : d < 0
    · rw [if_pos g, if_pos (by omega)]
    · obtain ⟨kc, cc⟩ := hd (by omega)
      have nb := nC_b hg (by omega) d1 kc
      have hsu := hg.1.1.2.2 d (by omega) d1
      have hx : 0 ≤ P 3003 (P 3011 m) := by
        by_cases q : P 3003 (P 3011 m) < 0
        · rw [cv_n q] at cc; cases cc
        · omega
      rw [if_neg g, if_neg (by omega), Bool.or_eq_false_iff, (h.2.1 d (by omega) d1 kc).1.1.2, (h.2.2 m m0 m1 hm).2.1]
      refine ⟨?_, h.ac hg m0 m1 hm n (P 3003 d) (by omega) (by omega) (fun q => ⟨kC_cl.2.2.2.2 d (by omega) d1 kc q, cv_t hg.1.1 _ hx (by omega) cc (by rw [cv_s hg.1.1 (by omega) d1, cv_r hg.1.1 q (by omega)]; simp)⟩)⟩
      have w7 := (h.wm hg).2.2 (nC P r XX d) nb.1 (by rw [h.1.1]; exact nb.2.1)
      obtain ⟨-, hd2⟩ := nmd_ge A (c := nC P r XX d) (nm := nam P r XX m) w7.2.2.1 9 0 (by omega)
      by_cases gn : nmd A (nC P r XX d) (nam P r XX m) 9 0 = -1
      · rw [if_pos gn]
      · rw [if_neg gn]
        obtain ⟨q1, q2, q3⟩ := hd2 gn
        generalize nmd A (nC P r XX d) (nam P r XX m) 9 0 = u at *
        obtain ⟨m', m0', m1', hm', e1, e2, e3, e4⟩ := h.cm hg (show 0 ≤ d by omega) d1 kc (k := u - A 3007 (nC P r XX d)) (by omega) (by omega)
        have eu : u = nM P r XX m' := by omega
        rw [eu] at q3 ⊢
        rw [(h.2.2 m' m0' m1' hm').2.1] at q3
        have cvm : cv P (P 3011 m') (P 3011 m) = true := by
          rw [e2, cv_s hg.1.1 ow.1 ow.2.1, cc]; simp
        have en := nam_ch hg m0 m0' m1 m1' hm hm' cvm q3.symm
        have own := nmd_own hg (show 0 ≤ d by omega) d1 (j := m' - P 3007 d) (by omega) (by omega)
        rw [show P 3007 d + (m' - P 3007 d) = m' by omega, ← en] at own
        have hw := (hg.2.2.2.1 _ ow.1 ow.2.1).2 (m - P 3007 (P 3011 m)) (by omega) (by omega)
        rw [show P 3007 (P 3011 m) + (m - P 3007 (P 3011 m)) = m by omega] at hw
        have hc10 := hg.1.1.2.1
        rcases acl_cv hg.1.1 10 (P 3003 (P 3011 m)) (by push_cast; omega) (by omega) hw cc with s | s
        · omega
        · rw [own] at s
          rw [h.sh hg m0 m1 hm m0' m1' hm' s]; rfl
theorem SPg.wn (h : SPg P r XX NL A) (hg : good P) : WFn A := by
  intro x x0 x1
  obtain ⟨c, c0, c1, hc, rfl⟩ := h.sc hg x0 x1
  have hsu := hg.1.1.2.2 c c0 c1
  refine ⟨fun n n' n0 n1 n2 he => ?_, fun k k0 k1 => ?_⟩
  · obtain ⟨m, m0, m1, hm, e1, e2, e3, e4⟩ := h.cm hg c0 c1 hc (k := n) n0 (by omega)
    obtain ⟨m', m0', m1', hm', e1', e2', e3', e4'⟩ := h.cm hg c0 c1 hc (k := n') (by omega) n2
    rw [← e1, ← e1', (h.2.2 m m0 m1 hm).2.1, (h.2.2 m' m0' m1' hm').2.1] at he
    have en := nam_ch hg m0 m0' m1 m1' hm hm' (by rw [e2, e2']; exact cv_r hg.1.1 c0 c1) he
    have ne : ¬ m = m' := fun q => by rw [q] at e1; omega
    have hu := (hg.2.2.2.1 c c0 c1).1
    rcases (by omega : m < m' ∨ m' < m) with g | g
    · have := hu (m - P 3007 c) (m' - P 3007 c) (by omega) (by omega) (by omega)
      rw [show P 3007 c + (m - P 3007 c) = m by omega, show P 3007 c + (m' - P 3007 c) = m' by omega] at this
      exact this en
    · have := hu (m' - P 3007 c) (m - P 3007 c) (by omega) (by omega) (by omega)
      rw [show P 3007 c + (m - P 3007 c) = m by omega, show P 3007 c + (m' - P 3007 c) = m' by omega] at this
      exact this en.symm
  · obtain ⟨m, m0, m1, hm, e1, e2, e3, e4⟩ := h.cm hg c0 c1 hc k0 k1
    rw [← e1, (h.2.1 c c0 c1 hc).1.1.2]
    refine h.ac hg m0 m1 hm 10 (P 3003 c) (by omega) (by omega) (fun q => ⟨kC_cl.2.2.2.2 c c0 c1 hc q, ?_⟩)
    rw [e2]; exact cv_r hg.1.1 q (by omega)
theorem SPg.gd (h : SPg P r XX NL A) (hg : good P) (hxx : xxR P r XX NL) (h1 : 1 ≤ nB (kC P r XX) (P 3000 0)) (h4 : ∀ c, 0 ≤ c → c < P 3000 0 → kC P r XX c → A 3004 (nC P r XX c) = P 3004 c) : good A := ⟨h.wp hg hxx h1, h.wd hg h4, h.wt hg hxx, h.wn hg, h.wc hg⟩
end SMALL3
