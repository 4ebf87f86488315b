/-! new names, purely; in the class -/
noncomputable def abS (P : Pg) (r : Rs) (XX : Int → Sx) (nm : Int) : Nat → Int → Int
  | 0, _ => -1
  | n + 1, x => if x < 0 then -1 else bif dB (¬ nmd P x nm 9 0 = -1 ∧ kM P r XX (nmd P x nm 9 0)) then nmd P x nm 9 0 else abS P r XX nm n (P 3003 x)
noncomputable def nabv (P : Pg) (r : Rs) (XX : Int → Sx) (m : Int) : Int := abS P r XX (P 3012 m) 10 (P 3003 (P 3011 m))
def tkn (P : Pg) (r : Rs) (XX : Int → Sx) (T : Int → Int) (m v : Int) : Prop := ∃ z, (0 ≤ z ∧ z < m) ∧ kM P r XX z ∧ T z = v ∧ cv P (P 3011 z) (P 3011 m) = true
noncomputable def lfre (P : Pg) (r : Rs) (XX : Int → Sx) (T : Int → Int) (m : Int) : Nat → Int → Int
  | 0, v => v
  | n + 1, v => bif dB (tkn P r XX T m v) then lfre P r XX T m n (v + 1) else v
noncomputable def nmv (P : Pg) (r : Rs) (XX : Int → Sx) (T : Int → Int) (m : Int) : Int := if nabv P r XX m = -1 then lfre P r XX T m 80 1 else T (nabv P r XX m)
noncomputable def nmT (P : Pg) (r : Rs) (XX : Int → Sx) : Nat → Int → Int
  | 0 => fun _ => 0
  | k + 1 => bif dB (kM P r XX k) then i_up (nmT P r XX k) k (nmv P r XX (nmT P r XX k) k) else nmT P r XX k
/-- the new name -/
noncomputable def nam (P : Pg) (r : Rs) (XX : Int → Sx) (m : Int) : Int := nmT P r XX (P 3001 0).toNat m
section NAMES
variable {σ σ' σ'' σ0 : j3_S} {P : Pg} {r : Rs} {XX : Int → Sx} {NL : Int → Int} {o o2 d : Nat} {x c m i w k n v : Int} {Q : j3_P} {T : Int → Int}
theorem nmT_lo : ∀ (k j : Nat) (m : Int), m < (j : Int) → nmT P r XX (j + k) m = nmT P r XX j m
  | 0, j, m, h => rfl
  | k + 1, j, m, h => by
    have e : nmT P r XX (j + (k + 1)) = bif dB (kM P r XX ((j + k : Nat) : Int)) then i_up (nmT P r XX (j + k)) ((j + k : Nat) : Int) (nmv P r XX (nmT P r XX (j + k)) ((j + k : Nat) : Int)) else nmT P r XX (j + k) := rfl
    rw [e]
    cases dB (kM P r XX ((j + k : Nat) : Int))
    · exact nmT_lo k j m h
    · show i_up _ _ _ m = _
      rw [iu_n (by push_cast; omega)]
      exact nmT_lo k j m h
theorem nmT_ag {j k : Nat} (h : m < (j : Int)) (h' : m < (k : Int)) : nmT P r XX j m = nmT P r XX k m := by
  by_cases g : j ≤ k
  · have := nmT_lo (P := P) (r := r) (XX := XX) (k - j) j m h
    rw [show j + (k - j) = k by omega] at this
    exact this.symm
  · have := nmT_lo (P := P) (r := r) (XX := XX) (j - k) k m h'
    rw [show k + (j - k) = j by omega] at this
    exact this
theorem nam_e {k : Nat} (m1 : m < P 3001 0) (h : m < (k : Int)) : nam P r XX m = nmT P r XX k m := nmT_ag (by omega) h
theorem abS_in (hg : good P) {nm : Int} : ∀ (n : Nat) (x : Int), x < P 3000 0 → abS P r XX nm n x = -1 ∨ ∃ y, (0 ≤ y ∧ y < P 3000 0 ∧ cv P y x = true) ∧ (P 3007 y ≤ abS P r XX nm n x ∧ abS P r XX nm n x < P 3007 y + P 3006 y) ∧ P 3012 (abS P r XX nm n x) = nm ∧ kM P r XX (abS P r XX nm n x)
  | 0, x, _ => Or.inl rfl
  | n + 1, x, h => by
    unfold abS
    by_cases g : x < 0
    · rw [if_pos g]; exact Or.inl rfl
    · rw [if_neg g]
      have hm := hg.1.2.1.2.2 x (by omega) h
      by_cases gg : ¬ nmd P x nm 9 0 = -1 ∧ kM P r XX (nmd P x nm 9 0)
      · rw [dB_t.2 gg]
        obtain ⟨-, h2⟩ := nmd_ge P (c := x) (nm := nm) hm.2.2.1 9 0 (by omega)
        obtain ⟨q1, q2, q3⟩ := h2 gg.1
        exact Or.inr ⟨x, ⟨by omega, h, cv_r hg.1.1 (by omega) h⟩, ⟨by show _ ≤ nmd P x nm 9 0; omega, q2⟩, q3, gg.2⟩
      · rw [dB_f.2 gg]
        have hsu := hg.1.1.2.2 x (by omega) h
        rcases abS_in hg (nm := nm) n (P 3003 x) (by omega) with q | ⟨y, ⟨y0, y1, y2⟩, q⟩
        · exact Or.inl q
        · refine Or.inr ⟨y, ⟨y0, y1, ?_⟩, q⟩
          rw [cv_s hg.1.1 (by omega) h, y2]; simp
/-- what is found above: a kept method of the old name in a class above -/
theorem nabv_in (hg : good P) (m0 : 0 ≤ m) (m1 : m < P 3001 0) : nabv P r XX m = -1 ∨ ((0 ≤ nabv P r XX m ∧ nabv P r XX m < m) ∧ P 3012 (nabv P r XX m) = P 3012 m ∧ kM P r XX (nabv P r XX m) ∧ (cv P (P 3011 (nabv P r XX m)) (P 3003 (P 3011 m)) = true ∧ 0 ≤ P 3003 (P 3011 m))) := by
  obtain ⟨o1, o2, o3, o4⟩ := (hg.1.2.2.2 m m0 m1).1
  have hsu := hg.1.1.2.2 _ o1 o2
  rcases abS_in (r := r) (XX := XX) hg (nm := P 3012 m) 10 (P 3003 (P 3011 m)) (by omega) with q | ⟨y, ⟨y0, y1, y2⟩, ⟨q1, q2⟩, q3, q4⟩
  · exact Or.inl q
  · have e : abS P r XX (P 3012 m) 10 (P 3003 (P 3011 m)) = nabv P r XX m := rfl
    rw [e] at q1 q2 q3 q4
    have hx : 0 ≤ P 3003 (P 3011 m) := by
      by_cases g : P 3003 (P 3011 m) < 0
      · rw [cv_n g] at y2; cases y2
      · omega
    have hl := cv_le hg.1.1 (P 3003 (P 3011 m)) hx (by omega) y2
    have hc := hg.2.2.2.2 y (P 3011 m) y0 (by omega) o2
    have hw := (hg.2.1 y y0 y1).2 (nabv P r XX m - P 3007 y) (by omega) (by omega)
    rw [show P 3007 y + (nabv P r XX m - P 3007 y) = nabv P r XX m by omega] at hw
    have hm3 := hg.1.2.1.2.2 y y0 y1
    exact Or.inr ⟨⟨by omega, by omega⟩, q3, q4, by rw [hw]; exact y2, hx⟩
theorem lfre_b : ∀ (n : Nat) (v : Int), v ≤ lfre P r XX T m n v ∧ lfre P r XX T m n v ≤ v + n
  | 0, v => by show v ≤ v ∧ v ≤ v + 0; omega
  | n + 1, v => by
    unfold lfre
    have := lfre_b n (v + 1)
    push_cast
    cases dB (tkn P r XX T m v)
    · show v ≤ v ∧ v ≤ v + (n + 1); omega
    · show v ≤ lfre P r XX T m n (v + 1) ∧ lfre P r XX T m n (v + 1) ≤ v + (n + 1); omega
theorem nmT_b (hg : good P) : ∀ (k : Nat), (k : Int) ≤ P 3001 0 → ∀ z, 0 ≤ nmT P r XX k z ∧ nmT P r XX k z ≤ 81
  | 0, _, z => by show (0 : Int) ≤ 0 ∧ (0 : Int) ≤ 81; omega
  | k + 1, hk, z => by
    have ih := nmT_b hg k (by omega)
    unfold nmT
    cases dB (kM P r XX (k : Int))
    · exact ih z
    · show 0 ≤ i_up _ _ _ z ∧ i_up _ _ _ z ≤ 81
      by_cases g : z = k
      · rw [g, iu_r]
        unfold nmv
        split
        · have := lfre_b (P := P) (r := r) (XX := XX) (T := nmT P r XX k) (m := k) 80 1
          omega
        · exact ih _
      · rw [iu_n g]; exact ih z
/-- the class: taken? -/
theorem l97 (hg : good P) (hB : kbC σ o o2 P r XX NL) (hn : nuC σ P r XX) (m0 : 0 ≤ m) (m1 : m < P 3001 0) (hT : ∀ z, 0 ≤ z → z < m → kM P r XX z → σ.2.2 6011 83 z = T z) : ∀ (n : Nat) (x : Int), x + n = m → 0 ≤ x → (∀ z, 0 ≤ z → z < x → ¬ (kM P r XX z ∧ T z = v ∧ cv P (P 3011 z) (P 3011 m) = true)) → Q (some (wI (b2i (dB (tkn P r XX T m v))))) σ → T97 (d + 1) Q 2 [wO 6 83, wI m, wI v, wI x] [] σ
  | 0, x, hx, x0, hz, hQ => by
    rw [b97_2, if_neg (by omega)]
    have : dB (tkn P r XX T m v) = false := dB_f.2 (fun ⟨z, z1, z2, z3⟩ => hz z z1.1 (by omega) ⟨z2, z3⟩)
    rw [this] at hQ
    exact ⟨by simp, hQ⟩
  | n + 1, x, hx, x0, hz, hQ => by
    have h80 := hg.1.2.1.2.1
    obtain ⟨h1, h2, -⟩ := hB.1
    rw [b97_2, if_pos (by omega), hn.2.2 x x0 (by omega)]
    refine ⟨by omega, ?_⟩
    have nx : ¬ (kM P r XX x ∧ T x = v ∧ cv P (P 3011 x) (P 3011 m) = true) → T97 (d + 1) Q 33 [wO 6 83, wI m, wI v, wI x] [] σ := by
      intro g
      rw [b97_33, wr_id (by omega) (by omega)]
      refine l97 hg hB hn m0 m1 hT n (x + 1) (by omega) (by omega) (fun z z0 z1 => ?_) hQ
      by_cases e : z = x
      · rw [e]; exact g
      · exact hz z z0 (by omega)
    by_cases gk : kM P r XX x
    · have nn := nw_b (n := P 3001 0) x0 (by omega) gk
      have e : nM P r XX x = nwN (kM P r XX) x := rfl
      rw [e, if_neg (by omega), hT x x0 (by omega) gk]
      refine ⟨by omega, ?_⟩
      by_cases gv : T x = v
      · rw [if_pos gv, h2, (hB.2.1.2.2.2 x x0 (by omega)).1.1, (hB.2.1.2.2.2 m m0 m1).1.1]
        have ow := (hg.1.2.2.2 m m0 m1).1
        rw [s48 hB.2.1 hg.1.1 (by omega) ow.2.1]
        refine ⟨h1.1, h1.1, by omega, h1.1, by omega, ?_⟩
        simp only [Option.toList_some, List.cons_append, List.nil_append]
        rw [b97_30]
        by_cases gc : cv P (P 3011 x) (P 3011 m) = true
        · have gc' : cov P (P 3011 x) 10 (P 3011 m) = true := gc
          rw [gc', if_neg (by decide)]
          rw [dB_t.2 ⟨x, ⟨x0, by omega⟩, gk, gv, gc⟩] at hQ
          exact ⟨by simp, hQ⟩
        · have gc' : cov P (P 3011 x) 10 (P 3011 m) = false := by simpa using (show ¬ cov P (P 3011 x) 10 (P 3011 m) = true from gc)
          rw [gc', if_pos (by rfl)]
          exact nx (fun q => gc q.2.2)
      · rw [if_neg gv]
        exact nx (fun q => gv q.2.1)
    · have e : nM P r XX x = -1 := nw_n gk
      rw [e, if_pos (by rfl)]
      exact nx (fun q => gk q.1)
theorem l96 (hg : good P) (hB : kbC σ o o2 P r XX NL) (hn : nuC σ P r XX) (m0 : 0 ≤ m) (m1 : m < P 3001 0) (hT : ∀ z, 0 ≤ z → z < m → kM P r XX z → σ.2.2 6011 83 z = T z) : ∀ (n : Nat) (x3 v : Int), x3 + n = 80 → 0 ≤ x3 → 1 ≤ v → v ≤ x3 + 1 → Q (some (wI (lfre P r XX T m n v))) σ → T96 (d + 2) Q 4 [wO 6 83, wI m, wI v, wI x3] [] σ
  | 0, x3, v, hx, x0, v0, v1, hQ => by
    rw [b96_4, if_neg (by omega)]
    exact hQ
  | n + 1, x3, v, hx, x0, v0, v1, hQ => by
    rw [b96_4, if_pos (by omega), e97, b97_0]
    refine l97 (d := d) hg hB hn m0 m1 hT m.toNat 0 (by omega) (by omega) (fun z z0 z1 => by omega) ?_
    simp only [Option.toList_some, List.cons_append, List.nil_append]
    rw [b96_11]
    unfold lfre at hQ
    by_cases g : dB (tkn P r XX T m v) = true
    · rw [g] at hQ ⊢
      rw [if_neg (by decide), wr_id (by omega) (by omega), wr_id (by omega) (by omega)]
      exact l96 hg hB hn m0 m1 hT n (x3 + 1) (v + 1) (by omega) (by omega) (by omega) (by omega) hQ
    · have g' : dB (tkn P r XX T m v) = false := by simpa using g
      rw [g'] at hQ ⊢
      rw [if_pos (by rfl)]
      exact hQ
theorem l95 (hg : good P) (hB : kbC σ o o2 P r XX NL) (hn : nuC σ P r XX) (m0 : 0 ≤ m) (m1 : m < P 3001 0) : ∀ (n : Nat) (x3 x : Int) (w4 : j3_W), x3 + n = 10 → 0 ≤ x3 → -1 ≤ x → x < P 3000 0 → Q (some (wI (abS P r XX (P 3012 m) n x))) σ → T95 (d + 1) Q 12 [wO 6 83, wI m, wI x, wI x3, w4] [] σ
  | 0, x3, x, w4, hx, x0, h0, h1, hQ => by
    rw [b95_12, if_neg (by omega)]
    exact hQ
  | n + 1, x3, x, w4, hx, x0, h0, h1, hQ => by
    obtain ⟨hh1, h2, -⟩ := hB.1
    have h80 := hg.1.2.1.2.1
    have hc10 := hg.1.1.2.1
    rw [b95_12, if_pos (by omega)]
    unfold abS at hQ
    by_cases g : x < 0
    · rw [if_pos g] at hQ ⊢
      exact hQ
    · rw [if_neg g] at hQ ⊢
      have hsu := hg.1.1.2.2 x (by omega) h1
      have hm3 := hg.1.2.1.2.2 x (by omega) h1
      rw [h2, (hB.2.1.2.2.2 m m0 m1).1.2.1, s50 hB.2.1 hg.1.1 hg.1.2.1 (by omega) h1]
      refine ⟨hh1.1, hh1.1, by omega, ?_⟩
      simp only [Option.toList_some, List.cons_append, List.nil_append]
      obtain ⟨-, hd2⟩ := nmd_ge P (c := x) (nm := P 3012 m) hm3.2.2.1 9 0 (by omega)
      rw [b95_26]
      generalize nmd P x (P 3012 m) 9 0 = f at *
      have nx : (¬ (¬ f = -1 ∧ kM P r XX f)) → T95 (d + 1) Q 38 [wO 6 83, wI m, wI x, wI x3, wI f] [] σ := by
        intro gg
        rw [dB_f.2 gg] at hQ
        rw [b95_38, h2, (hB.2.1.2.2.1 x (by omega) h1).1.2.1, wr_id (by omega) (by omega)]
        exact ⟨hh1.1, by omega, l95 hg hB hn m0 m1 n (x3 + 1) (P 3003 x) _ (by omega) (by omega) (by omega) (by omega) hQ⟩
      by_cases gf : f = -1
      · rw [if_pos gf]
        exact nx (fun q => q.1 gf)
      · obtain ⟨q1, q2, -⟩ := hd2 gf
        rw [if_neg gf, hn.2.2 f (by omega) (by omega)]
        refine ⟨by omega, ?_⟩
        by_cases gk : kM P r XX f
        · have nn := nw_b (n := P 3001 0) (x := f) (by omega) (by omega) gk
          have e : nM P r XX f = nwN (kM P r XX) f := rfl
          rw [e, if_neg (by omega)]
          rw [dB_t.2 ⟨gf, gk⟩] at hQ
          exact hQ
        · have e : nM P r XX f = -1 := nw_n gk
          rw [e, if_pos (by rfl)]
          exact nx (fun q => gk q.2)
theorem s95 (hg : good P) (hB : kbC σ o o2 P r XX NL) (hn : nuC σ P r XX) (m0 : 0 ≤ m) (m1 : m < P 3001 0) (hQ : Q (some (wI (nabv P r XX m))) σ) : j3_tc false (d + 2) 95 [wO 6 83, wI m] σ Q := by
  obtain ⟨hh1, h2, -⟩ := hB.1
  have h80 := hg.1.2.1.2.1
  have hc10 := hg.1.1.2.1
  obtain ⟨o1, o2', -⟩ := (hg.1.2.2.2 m m0 m1).1
  have hsu := hg.1.1.2.2 _ o1 o2'
  rw [e95, b95_0, h2, (hB.2.1.2.2.2 m m0 m1).1.1, (hB.2.1.2.2.1 _ o1 o2').1.2.1]
  refine ⟨hh1.1, hh1.1, by omega, by omega, l95 hg hB hn m0 m1 10 0 _ _ (by omega) (by omega) (by omega) (by omega) hQ⟩
theorem l94 (hg : good P) (hB0 : kbC σ0 o o2 P r XX NL) (hn0 : nuC σ0 P r XX) : ∀ (n k : Nat) (w2 : j3_W) (σ : j3_S), (k : Int) + n = P 3001 0 → frm [] [6011] σ0 σ → (∀ z, 0 ≤ z → z < (k : Int) → kM P r XX z → σ.2.2 6011 83 z = nmT P r XX k z) → (∀ σ', frm [] [6011] σ0 σ' → (∀ z, 0 ≤ z → z < P 3001 0 → kM P r XX z → σ'.2.2 6011 83 z = nam P r XX z) → Q none σ') → T94 (d + 3) Q 2 [wO 6 83, wI k, w2] [] σ
  | 0, k, w2, σ, hk, hf, ht, hQ => by
    have hB : kbC σ o o2 P r XX NL := hB0.fr hf ⟨rfl, rfl⟩ (la_ok rfl) rfl ⟨rfl, rfl⟩
    rw [b94_2, hB.1.2.1, hB.2.1.2.1, if_neg (by omega)]
    refine ⟨hB.1.1.1, hQ σ hf (fun z z0 z1 q => ?_)⟩
    rw [ht z z0 (by omega) q, nam_e z1 (k := k) (by omega)]
  | n + 1, k, w2, σ, hk, hf, ht, hQ => by
    have hB : kbC σ o o2 P r XX NL := hB0.fr hf ⟨rfl, rfl⟩ (la_ok rfl) rfl ⟨rfl, rfl⟩
    have h80 := hg.1.2.1.2.1
    have hn : nuC σ P r XX := by
      unfold nuC
      rw [hf.2.2 6000 83 rfl, hf.2.2 6001 83 rfl, hf.2.2 6002 83 rfl]
      exact hn0
    have eT : nmT P r XX (k + 1) = bif dB (kM P r XX k) then i_up (nmT P r XX k) k (nmv P r XX (nmT P r XX k) k) else nmT P r XX k := rfl
    rw [b94_2, hB.1.2.1, hB.2.1.2.1, if_pos (by omega), hn.2.2 k (by omega) (by omega)]
    refine ⟨hB.1.1.1, by omega, ?_⟩
    by_cases gk : kM P r XX k
    · have nn := nw_b (n := P 3001 0) (x := (k : Int)) (by omega) (by omega) gk
      have e : nM P r XX k = nwN (kM P r XX) k := rfl
      rw [e, if_neg (by omega)]
      rw [dB_t.2 gk] at eT
      have fin : ∀ (v x2 : Int), v = nmv P r XX (nmT P r XX k) k → T94 (d + 3) Q 31 [wO 6 83, wI k, wI x2] [wI v, wI k, wA 6011 83] σ := by
        intro v x2 hv
        rw [b94_31, b94_32, wr_id (by omega) (by omega), show (k : Int) + 1 = ((k + 1 : Nat) : Int) by push_cast; omega]
        refine ⟨by omega, l94 hg hB0 hn0 n (k + 1) _ _ (by push_cast; omega) (hf.tr (frm.A rfl frm.rf)) (fun z z0 z1 q => ?_) hQ⟩
        simp only [j3_ast, up_r]
        rw [eT]
        show i_up _ _ _ z = i_up _ _ _ z
        by_cases ez : z = k
        · rw [ez, iu_r, iu_r, hv]
        · rw [iu_n ez, iu_n ez]; exact ht z z0 (by push_cast at z1; omega) q
      refine s95 (d := d + 1) hg hB hn (by omega) (by omega) ?_
      simp only [Option.toList_some, List.cons_append, List.nil_append]
      rw [b94_16]
      by_cases ga : nabv P r XX k = -1
      · rw [if_pos ga, e96, b96_0]
        refine l96 (d := d) (T := nmT P r XX k) hg hB hn (by omega) (by omega) ht 80 0 1 (by omega) (by omega) (by omega) (by omega) ?_
        simp only [Option.toList_some, List.cons_append, List.nil_append]
        rw [b94_26]
        exact fin _ _ (by unfold nmv; rw [if_pos ga])
      · rcases nabv_in (r := r) (XX := XX) hg (m := (k : Int)) (by omega) (by omega) with q | ⟨q1, q2, q3, -⟩
        · exact absurd q ga
        · rw [if_neg ga, ht _ q1.1 q1.2 q3]
          exact ⟨by omega, fin _ _ (by unfold nmv; rw [if_neg ga])⟩
    · have e : nM P r XX k = -1 := nw_n gk
      rw [dB_f.2 gk] at eT
      rw [e, if_pos (by rfl), b94_32, wr_id (by omega) (by omega), show (k : Int) + 1 = ((k + 1 : Nat) : Int) by push_cast; omega]
      refine l94 hg hB0 hn0 n (k + 1) _ σ (by push_cast; omega) hf (fun z z0 z1 q => ?_) hQ
      rw [eT]
      by_cases ez : z = k
      · rw [ez] at q; exact absurd q gk
      · exact ht z z0 (by push_cast at z1; omega) q
theorem s94 (hg : good P) (hB : kbC σ o o2 P r XX NL) (hn : nuC σ P r XX) (hQ : ∀ σ', frm [] [6011] σ σ' → (∀ z, 0 ≤ z → z < P 3001 0 → kM P r XX z → σ'.2.2 6011 83 z = nam P r XX z) → Q none σ') : j3_tc false (d + 4) 94 [wO 6 83] σ Q := by
  have := hg.1.2.1.1
  rw [e94, b94_0]
  exact l94 (σ0 := σ) (d := d) hg hB hn (P 3001 0).toNat 0 _ σ (by omega) frm.rf (fun z z0 z1 => absurd z1 (by omega)) hQ
end NAMES
