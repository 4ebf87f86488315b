/-! the small program stands as it may -/
section SMALL2
variable {σ σ' : j3_S} {P A : Pg} {r : Rs} {XX : Int → Sx} {NL : Int → Int} {x c c' m m' i f k n v z t w : Int}
theorem tN_b (hg : good P) (w0 : 0 ≤ w) (w1 : w ≤ P 3000 0) (hk : 0 < w → kC P r XX (w - 1)) : 0 ≤ tN P r XX w ∧ tN P r XX w ≤ nB (kC P r XX) (P 3000 0) := by
  unfold tN
  by_cases g : w ≤ 0
  · rw [if_pos g]
    have := nB_p (q := kC P r XX) (x := P 3000 0)
    omega
  · rw [if_neg g]
    have := nC_b (r := r) (XX := XX) hg (c := w - 1) (by omega) (by omega) (hk (by omega))
    omega
theorem ex_ge {op a b nn : Int} {s l : Int → Int} (h : exf P m op a b nn s l = 0) : 0 ≤ exn P m op a b nn s l := by
  unfold exf at h
  unfold exn
  by_cases g : nn < (wl P m op a b).length
  · rw [if_pos g] at h; omega
  · omega
/-- jumps stay within -/
theorem xx_j (hxx : xxR P r XX NL) (m0 : 0 ≤ m) (m1 : m < P 3001 0) (hm : r.1 m = 1) (i0 : 0 ≤ i) (i1 : i < (XX m).n) (hj : isj ((XX m).op i) = true) : 0 ≤ (XX m).a i ∧ (XX m).a i < (XX m).n := by
  obtain ⟨-, -, F, h1, h2⟩ := hxx.2 m m0 m1 hm
  have ty := h1.1.1.2.2 i i0 i1 (h2 i i0 i1)
  have f := ty.2.2.2 hj
  have g := ex_ge ty.2.1
  have e : F.1 ((XX m).a i) = exn P m ((XX m).op i) ((XX m).a i) ((XX m).b i) (F.1 i) (F.2.1 i) (F.2.2 i) := f.1
  by_cases q : (XX m).a i < 0 ∨ (XX m).n ≤ (XX m).a i
  · have := h1.1.2 _ q
    have g' : 0 ≤ exn P m ((XX m).op i) ((XX m).a i) ((XX m).b i) (F.1 i) (F.2.1 i) (F.2.2 i) := g
    omega
  · omega
/-- the rows of a kept method's code -/
theorem SPg.cd (h : SPg P r XX NL A) (m0 : 0 ≤ m) (m1 : m < P 3001 0) (hm : kM P r XX m) : A 0 (nM P r XX m) = lnK r XX m ∧ ∀ i, 0 ≤ i → i < lnK r XX m → A 1 (nM P r XX m * 120 + i) = kO r XX m i ∧ A 2 (nM P r XX m * 120 + i) = cA P r XX (kO r XX m i) (kA r XX m i) ∧ A 3 (nM P r XX m * 120 + i) = cBf P r XX (kO r XX m i) (kA r XX m i) (kB r XX m i) := by
  obtain ⟨-, -, a1, a2⟩ := h.2.2 m m0 m1 hm
  refine ⟨a1, fun i i0 i1 => ?_⟩
  obtain ⟨b1, b2, b3⟩ := a2 i i0 i1
  rw [b1, b2, b3]
  unfold kO kA kB
  by_cases g : r.1 m = 1
  · simp only [if_pos g]
    exact ⟨trivial, trivial, trivial⟩
  · simp only [if_neg g]
    unfold cA cBf
    rw [if_neg (by omega), if_neg (by omega), if_neg (by omega)]
    exact ⟨trivial, rfl, rfl⟩
/-- the new numbers that an instruction tells -/
theorem SPg.nt (h : SPg P r XX NL A) (hg : good P) (hxx : xxR P r XX NL) (m0 : 0 ≤ m) (m1 : m < P 3001 0) (i0 : 0 ≤ i) (i1 : i < lnK r XX m) : (kO r XX m i = 15 ∨ kO r XX m i = 24 ∨ kO r XX m i = 25 ∨ (16 ≤ kO r XX m i ∧ kO r XX m i ≤ 21) → cA P r XX (kO r XX m i) (kA r XX m i) = nC P r XX (kA r XX m i) ∧ 0 ≤ nC P r XX (kA r XX m i) ∧ nC P r XX (kA r XX m i) < A 3000 0) ∧ (16 ≤ kO r XX m i ∧ kO r XX m i ≤ 19 → cBf P r XX (kO r XX m i) (kA r XX m i) (kB r XX m i) = nF P r XX (kA r XX m i) (kB r XX m i) ∧ 0 ≤ nF P r XX (kA r XX m i) (kB r XX m i) ∧ nF P r XX (kA r XX m i) (kB r XX m i) < A 3005 (nC P r XX (kA r XX m i)) ∧ spF P r XX A (kA r XX m i) (kB r XX m i)) ∧ (kO r XX m i = 20 ∨ kO r XX m i = 21 → A 3007 (nC P r XX (kA r XX m i)) + cBf P r XX (kO r XX m i) (kA r XX m i) (kB r XX m i) = nM P r XX (P 3007 (kA r XX m i) + kB r XX m i) ∧ 0 ≤ cBf P r XX (kO r XX m i) (kA r XX m i) (kB r XX m i) ∧ cBf P r XX (kO r XX m i) (kA r XX m i) (kB r XX m i) < A 3006 (nC P r XX (kA r XX m i))) := by
  obtain ⟨-, k1, k2, k3⟩ := kOk hg hxx m0 m1 i0 i1
  refine ⟨fun q => ?_, fun q => ?_, fun q => ?_⟩
  · obtain ⟨q0, q1, q2⟩ := k1 q
    have nb := nC_b hg q0 q1 q2
    rw [h.1.1]
    exact ⟨by unfold cA; rw [if_pos q], by omega, by omega⟩
  · obtain ⟨q0, q1, q2⟩ := k1 (by omega)
    obtain ⟨p0, p1, p2⟩ := k2 q
    have nb := nF_b hg q0 q1 p0 p1 p2
    rw [(h.2.1 _ q0 q1 q2).1.2.1]
    exact ⟨by unfold cBf; rw [if_pos q], by omega, by omega, (h.2.1 _ q0 q1 q2).2 _ p0 p1 p2⟩
  · obtain ⟨q0, q1, q2⟩ := k1 (by omega)
    obtain ⟨p0, p1, p2⟩ := k3 q
    have hm3 := hg.1.2.1.2.2 _ q0 q1
    have nb := nM_b hg (m := P 3007 (kA r XX m i) + kB r XX m i) (by omega) (by omega) p2
    have b1 := nB_mo (q := kM P r XX) (x := P 3007 (kA r XX m i)) (y := P 3007 (kA r XX m i) + kB r XX m i) (by omega) (by omega)
    have b2 := nB_lt (q := kM P r XX) (x := P 3007 (kA r XX m i) + kB r XX m i) (y := P 3007 (kA r XX m i) + P 3006 (kA r XX m i)) (by omega) (by omega) p2
    have e : cBf P r XX (kO r XX m i) (kA r XX m i) (kB r XX m i) = nM P r XX (P 3007 (kA r XX m i) + kB r XX m i) - nB (kM P r XX) (P 3007 (kA r XX m i)) := by
      unfold cBf; rw [if_neg (by omega), if_pos q]
    rw [e, (h.2.1 _ q0 q1 q2).1.2.2.1, (h.2.1 _ q0 q1 q2).1.2.2.2]
    exact ⟨by omega, by omega, by omega⟩
theorem SPg.wp (h : SPg P r XX NL A) (hg : good P) (hxx : xxR P r XX NL) (h1 : 1 ≤ nB (kC P r XX) (P 3000 0)) : WFp A := by
  have hc1 := hg.1.1.1
  refine ⟨h.ws hg h1, h.wm hg, fun x x0 x1 => ?_, fun x x0 x1 => ?_⟩
  · obtain ⟨c, c0, c1, hc, rfl⟩ := h.sc hg x0 x1
    have hff := hg.1.2.2.1 c c0 c1
    have n5 := nB_le (q := kFc P r XX c) (x := P 3005 c) (by omega)
    refine ⟨?_, ?_, fun f f0 f1 => ?_⟩
    · rw [(h.2.1 c c0 c1 hc).1.2.1]; exact nB_p
    · rw [(h.2.1 c c0 c1 hc).1.2.1]; omega
    · obtain ⟨f', f0', f1', hf, rfl⟩ := h.sf hg c0 c1 hc f0 f1
      obtain ⟨-, v2, v3⟩ := (h.2.1 c c0 c1 hc).2 f' f0' f1' hf
      have tp := hff.2.2 f' f0' f1'
      have tb := tN_b (r := r) (XX := XX) hg tp.1 tp.2.1 (kC_cl.2.2.1 c f' c0 c1 f0' f1' hf).2
      rw [v2, v3, h.1.1]
      exact ⟨tb.1, tb.2, tp.2.2⟩
  · obtain ⟨m, m0, m1, hm, rfl⟩ := h.sm hg x0 x1
    obtain ⟨⟨⟨b1, b2, b3, b4⟩, b5, b6⟩, -, -⟩ := h.2.2 m m0 m1 hm
    obtain ⟨kc, o1, o2, o3⟩ := h.ow hg m0 m1 hm
    obtain ⟨p1, p2, p3, p4, p5, p6, -⟩ := hg.1.2.2.2 m m0 m1
    have kf := kC_cl.2.2.2.1 m m0 m1 hm
    have nb := nC_b hg p1.1 p1.2.1 kc
    have lb := lnK_b hxx m0 m1
    obtain ⟨c0', c1'⟩ := h.cd m0 m1 hm
    refine ⟨?_, ?_, ?_, ⟨?_, ?_, fun k k0 k1 => ?_⟩, ?_, ?_, fun i i0 i1 => ?_⟩
    · rw [o1, h.1.1]; exact ⟨nb.1, nb.2.1, o2, o3⟩
    · rw [b2]; exact p2
    · rw [b3, h.1.1]
      by_cases g : P 3014 m = 0
      · have e : tN P r XX (P 3014 m - 1) = -1 := by unfold tN; rw [if_pos (by omega)]; omega
        have := nB_p (q := kC P r XX) (x := P 3000 0)
        rw [e]; omega
      · have tb := tN_b (r := r) (XX := XX) hg (w := P 3014 m - 1) (by omega) (by omega) (fun q => by rw [show P 3014 m - 1 - 1 = P 3014 m - 2 by omega]; exact kf.2.1 (by omega))
        omega
    · rw [b4]; exact p4.1
    · rw [b4]; exact p4.2.1
    · rw [b4] at k1
      have tp := p4.2.2 k k0 k1
      rw [b5 k k0 k1, h.1.1]
      exact tN_b hg tp.1 tp.2 (kf.2.2 k k0 k1)
    · rw [b4, b2, b6]
      by_cases g : r.1 m = 1
      · rw [if_pos g]
        have := (hxx.2 m m0 m1 g).2.1
        omega
      · rw [if_neg g]
        unfold rcv
        split <;> omega
    · rw [c0']; exact lb
    · rw [c0'] at i1
      obtain ⟨e1, e2, e3⟩ := c1' i i0 i1
      obtain ⟨ok, k1, k2, k3⟩ := kOk hg hxx m0 m1 i0 i1
      obtain ⟨n1, n2, n3⟩ := h.nt hg hxx m0 m1 i0 i1
      rw [e1, e2, e3]
      refine ⟨ok.1, ok.2, fun q => ?_, fun q => ?_, fun q => ?_, fun q => ?_, fun q => ?_⟩
      · have ea : cA P r XX (kO r XX m i) (kA r XX m i) = kA r XX m i := by unfold cA; rw [if_neg (by omega)]
        rw [ea, b6]
        by_cases g : r.1 m = 1
        · have eo : kO r XX m i = (XX m).op i := by unfold kO; rw [if_pos g]
          have ek : kA r XX m i = (XX m).a i := by unfold kA; rw [if_pos g]
          have el : lnK r XX m = (XX m).n := by unfold lnK; rw [if_pos g]
          rw [if_pos g, ek]
          exact ((hxx.2 m m0 m1 g).1.2 i i0 (by omega)).2.1 (by omega)
        · have eo : kO r XX m i = 26 := by unfold kO; rw [if_neg g]
          omega
      · have ea : cA P r XX (kO r XX m i) (kA r XX m i) = kA r XX m i := by unfold cA; rw [if_neg (by omega)]
        rw [ea, c0']
        by_cases g : r.1 m = 1
        · have eo : kO r XX m i = (XX m).op i := by unfold kO; rw [if_pos g]
          have ek : kA r XX m i = (XX m).a i := by unfold kA; rw [if_pos g]
          have el : lnK r XX m = (XX m).n := by unfold lnK; rw [if_pos g]
          rw [ek, el]
          exact xx_j hxx m0 m1 g i0 (by omega) (by rw [← eo]; unfold isj; simp; omega)
        · have eo : kO r XX m i = 26 := by unfold kO; rw [if_neg g]
          omega
      · rw [(n1 q).1]; exact (n1 q).2
      · rw [(n1 (by omega)).1, (n2 q).1]; exact ⟨(n2 q).2.1, (n2 q).2.2.1⟩
      · rw [(n1 (by omega)).1]; exact (n3 (by omega)).2
theorem SPg.wt (h : SPg P r XX NL A) (hg : good P) (hxx : xxR P r XX NL) : WFt A := by
  intro x i x0 x1 i0 i1
  obtain ⟨m, m0, m1, hm, rfl⟩ := h.sm hg x0 x1
  obtain ⟨c0', c1'⟩ := h.cd m0 m1 hm
  rw [c0'] at i1
  obtain ⟨e1, e2, e3⟩ := c1' i i0 i1
  obtain ⟨ok, k1, k2, k3⟩ := kOk hg hxx m0 m1 i0 i1
  obtain ⟨n1, n2, n3⟩ := h.nt hg hxx m0 m1 i0 i1
  have W : r.1 m = 1 → WR P r (kO r XX m i) (kA r XX m i) (kB r XX m i) := by
    intro g
    have eo : kO r XX m i = (XX m).op i := by unfold kO; rw [if_pos g]
    have ek : kA r XX m i = (XX m).a i := by unfold kA; rw [if_pos g]
    have eb : kB r XX m i = (XX m).b i := by unfold kB; rw [if_pos g]
    have el : lnK r XX m = (XX m).n := by unfold lnK; rw [if_pos g]
    rw [eo, ek, eb]
    exact xx_W hxx m0 m1 g i0 (by omega)
  have gr : ¬ kO r XX m i = 26 → r.1 m = 1 := by
    intro q
    by_cases g : r.1 m = 1
    · exact g
    · exact absurd (by unfold kO; rw [if_neg g]) q
  rw [e1, e2, e3]
  refine ⟨fun q => ?_, fun q => ?_⟩
  · rw [(n1 (by omega)).1, (n2 q).1, (n2 q).2.2.2.2.2]
    exact ((W (gr (by omega))).2.1 q).2
  · obtain ⟨q0, q1, q2⟩ := k1 (by omega)
    obtain ⟨p0, p1, p2⟩ := k3 (by omega)
    have hm3 := hg.1.2.1.2.2 _ q0 q1
    rw [(n1 (by omega)).1, (n3 (by omega)).1, (h.2.2 _ (by omega) (by omega) p2).1.1.2.1]
    exact ((W (gr (by omega))).2.2.2.2.2 q).1
end SMALL2
