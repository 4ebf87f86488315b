/-! new names in the reference: the least that is free -/
section RNAME
variable {σ σ' σ'' σ0 : j3_S} {P : Pg} {r : Rs} {XX : Int → Sx} {NL : Int → Int} {d : Nat} {x c m i w k n v z t : Int} {Q : j3_P} {T : Int → Int}
theorem nB_or {q : Int → Prop} {y : Int} : ∀ n : Nat, nB (fun v => q v ∨ v = y) (n : Int) ≤ nB q (n : Int) + (if y < (n : Int) then 1 else 0)
  | 0 => by rw [show ((0 : Nat) : Int) = 0 from rfl, nB_0, nB_0]; split <;> omega
  | n + 1 => by
    have ih := nB_or (q := q) (y := y) n
    rw [show ((n + 1 : Nat) : Int) = (n : Int) + 1 by push_cast; rfl]
    by_cases g : q n
    · rw [nB_k (by omega) g, nB_k (q := fun v => q v ∨ v = y) (by omega) (Or.inl g)]
      split at ih
      · rw [if_pos (by omega)]; omega
      · split <;> omega
    · by_cases e : (n : Int) = y
      · rw [nB_n (by omega) g, nB_k (q := fun v => q v ∨ v = y) (by omega) (Or.inr e)]
        rw [if_neg (by omega)] at ih
        rw [if_pos (by omega)]; omega
      · rw [nB_n (by omega) g, nB_n (q := fun v => q v ∨ v = y) (by omega) (fun h => h.elim g e)]
        split at ih
        · rw [if_pos (by omega)]; omega
        · split <;> omega
theorem nB_cg {q q' : Int → Prop} (h : ∀ v, q v ↔ q' v) : nB q x = nB q' x := by
  have : q = q' := funext (fun v => propext (h v))
  rw [this]
theorem nB_all {q : Int → Prop} : ∀ n : Nat, (∀ v, 0 ≤ v → v < (n : Int) → q v) → nB q (n : Int) = n
  | 0, _ => nB_0
  | n + 1, h => by
    rw [show ((n + 1 : Nat) : Int) = (n : Int) + 1 by push_cast; rfl, nB_k (by omega) (h n (by omega) (by push_cast; omega)), nB_all n (fun v v0 v1 => h v v0 (by push_cast; omega))]
theorem tk_cnt {K : Int → Prop} {N : Nat} : ∀ k : Nat, nB (fun v => ∃ z, (0 ≤ z ∧ z < (k : Int)) ∧ K z ∧ T z = v + 1) (N : Int) ≤ k
  | 0 => by
    have : ∀ n : Nat, nB (fun v => ∃ z, (0 ≤ z ∧ z < ((0 : Nat) : Int)) ∧ K z ∧ T z = v + 1) (n : Int) = 0 := by
      intro n
      induction n with
      | zero => exact nB_0
      | succ n ih =>
        rw [show ((n + 1 : Nat) : Int) = (n : Int) + 1 by push_cast; rfl, nB_n (by omega) (fun ⟨z, z1, _⟩ => by omega), ih]
    rw [this N]; omega
  | k + 1 => by
    have ih := tk_cnt (K := K) (N := N) k
    have h := nB_or (q := fun v => ∃ z, (0 ≤ z ∧ z < (k : Int)) ∧ K z ∧ T z = v + 1) (y := T k - 1) N
    have mono : nB (fun v => ∃ z, (0 ≤ z ∧ z < ((k + 1 : Nat) : Int)) ∧ K z ∧ T z = v + 1) (N : Int) ≤ nB (fun v => (∃ z, (0 ≤ z ∧ z < (k : Int)) ∧ K z ∧ T z = v + 1) ∨ v = T k - 1) (N : Int) := by
      have key : ∀ n : Nat, nB (fun v => ∃ z, (0 ≤ z ∧ z < ((k + 1 : Nat) : Int)) ∧ K z ∧ T z = v + 1) (n : Int) ≤ nB (fun v => (∃ z, (0 ≤ z ∧ z < (k : Int)) ∧ K z ∧ T z = v + 1) ∨ v = T k - 1) (n : Int) := by
        intro n
        induction n with
        | zero => rw [show ((0 : Nat) : Int) = 0 from rfl, nB_0, nB_0]; omega
        | succ n ih =>
          rw [show ((n + 1 : Nat) : Int) = (n : Int) + 1 by push_cast; rfl]
          by_cases g : ∃ z, (0 ≤ z ∧ z < ((k + 1 : Nat) : Int)) ∧ K z ∧ T z = (n : Int) + 1
          · have g' : (∃ z, (0 ≤ z ∧ z < (k : Int)) ∧ K z ∧ T z = (n : Int) + 1) ∨ (n : Int) = T k - 1 := by
              obtain ⟨z, z1, z2, z3⟩ := g
              by_cases e : z = k
              · right; rw [← e]; omega
              · left; exact ⟨z, ⟨z1.1, by push_cast at z1; omega⟩, z2, z3⟩
            rw [nB_k (q := fun v => ∃ z, (0 ≤ z ∧ z < ((k + 1 : Nat) : Int)) ∧ K z ∧ T z = v + 1) (by omega) g, nB_k (q := fun v => (∃ z, (0 ≤ z ∧ z < (k : Int)) ∧ K z ∧ T z = v + 1) ∨ v = T k - 1) (by omega) g']
            omega
          · rw [nB_n (q := fun v => ∃ z, (0 ≤ z ∧ z < ((k + 1 : Nat) : Int)) ∧ K z ∧ T z = v + 1) (by omega) g]
            have := nB_mo (q := fun v => (∃ z, (0 ≤ z ∧ z < (k : Int)) ∧ K z ∧ T z = v + 1) ∨ v = T k - 1) (x := (n : Int)) (y := (n : Int) + 1) (by omega) (by omega)
            omega
      exact key N
    have h1 : (if T k - 1 < (N : Int) then (1 : Int) else 0) ≤ 1 := by split <;> omega
    refine Int.le_trans mono ?_
    have e : ((k + 1 : Nat) : Int) = (k : Int) + 1 := by push_cast; rfl
    rw [e]
    omega
/-- one of the first 80 numbers is free -/
theorem free80 (m0 : 0 ≤ m) (m1 : m < 80) : ∃ v, 1 ≤ v ∧ v ≤ 80 ∧ ¬ tkn P r XX T m v := by
  by_cases g : ∃ v, 1 ≤ v ∧ v ≤ 80 ∧ ¬ tkn P r XX T m v
  · exact g
  · exfalso
    have all : ∀ v, 0 ≤ v → v < ((80 : Nat) : Int) → ∃ z, (0 ≤ z ∧ z < ((m.toNat : Nat) : Int)) ∧ (kM P r XX z ∧ cv P (P 3011 z) (P 3011 m) = true) ∧ T z = v + 1 := by
      intro v v0 v1
      have : tkn P r XX T m (v + 1) := by
        by_cases h : tkn P r XX T m (v + 1)
        · exact h
        · exact absurd ⟨v + 1, by omega, by push_cast at v1; omega, h⟩ g
      obtain ⟨z, z1, z2, z3, z4⟩ := this
      exact ⟨z, ⟨z1.1, by omega⟩, ⟨z2, z4⟩, z3⟩
    have a := nB_all 80 all
    have b := tk_cnt (T := T) (K := fun z => kM P r XX z ∧ cv P (P 3011 z) (P 3011 m) = true) (N := 80) m.toNat
    rw [a] at b
    push_cast at b
    omega
theorem lfre_f : ∀ (n : Nat) (v : Int), (∃ u, v ≤ u ∧ u < v + n ∧ ¬ tkn P r XX T m u) → ¬ tkn P r XX T m (lfre P r XX T m n v) ∧ ∀ u, v ≤ u → u < lfre P r XX T m n v → tkn P r XX T m u
  | 0, v, ⟨u, u0, u1, _⟩ => by push_cast at u1; omega
  | n + 1, v, ⟨u, u0, u1, u2⟩ => by
    unfold lfre
    by_cases g : tkn P r XX T m v
    · rw [dB_t.2 g]
      have ne : ¬ u = v := fun e => u2 (e ▸ g)
      obtain ⟨a1, a2⟩ := lfre_f n (v + 1) ⟨u, by omega, by push_cast at u1; omega, u2⟩
      refine ⟨a1, fun y y0 y1 => ?_⟩
      by_cases e : y = v
      · rw [e]; exact g
      · exact a2 y (by omega) y1
    · rw [dB_f.2 g]
      exact ⟨g, fun y y0 y1 => by
        have y1' : y < v := y1
        omega⟩
/-- the reference's base for names -/
def naR (σ : j3_S) (P : Pg) (r : Rs) (XX : Int → Sx) (NL : Int → Int) : Prop := RP σ 0 P ∧ (exG 10072 121 1 0 P r XX σ ∧ (∀ c, 0 ≤ c → c < P 3000 0 → σ.2.2 10069 121 c = nC P r XX c) ∧ nbR σ P r XX (P 3000 0) (P 3001 0)) ∧ (∀ c, 0 ≤ c → c < P 3000 0 → kC P r XX c → spC P r XX (PgR σ) c) ∧ ∀ m, 0 ≤ m → m < P 3001 0 → kM P r XX m → spM P r XX NL (PgR σ) m
theorem l222k (hg : good P) (hB : naR σ P r XX NL) (t0 : 0 ≤ t) (t1 : t < 80) (c0 : 0 ≤ c) (c1 : c < P 3000 0) (hk : kC P r XX c) : ∀ (n : Nat) (k x3 : Int) (w6 : j3_W), k + n = nB (kM P r XX) (P 3007 c + P 3006 c) - nB (kM P r XX) (P 3007 c) → 0 ≤ k → (x3 = 0 ∨ x3 = 1) → (∀ x3' x5 w6, (x3' = 0 ∨ x3' = 1) → (x3' = 1 ↔ x3 = 1 ∧ ∀ u, nB (kM P r XX) (P 3007 c) + k ≤ u → u < nB (kM P r XX) (P 3007 c + P 3006 c) → u < t → ¬ σ.2.2 10020 121 (80 + u) = v) → T222 d Q 15 [wO 10 121, wI t, wI v, wI x3', wI (if P 3003 c < 0 then -1 else nC P r XX (P 3003 c)), wI x5, w6] [] σ) → T222 d Q 19 [wO 10 121, wI t, wI v, wI x3, wI (nC P r XX c), wI k, w6] [] σ
  | 0, k, x3, w6, hk', k0, hx3, hQ => by
    have hc10 := hg.1.1.2.1
    have ncb := nw_b (n := P 3000 0) c0 c1 hk
    have enc : nC P r XX c = nwN (kC P r XX) c := rfl
    have nlc := nB_le (q := kC P r XX) (x := P 3000 0) (by omega)
    obtain ⟨⟨s1, s2⟩, s3, s4, s5⟩ := hB.2.2.1 c c0 c1 hk
    have s4' : σ.2.2 10014 121 (10 + nC P r XX c) = nB (kM P r XX) (P 3007 c + P 3006 c) - nB (kM P r XX) (P 3007 c) := s4
    have s2' : σ.2.2 10011 121 (10 + nC P r XX c) = if P 3003 c < 0 then -1 else nC P r XX (P 3003 c) := s2
    rw [b222_19, wr_id (by omega) (by omega), s4', if_neg (by omega), s2']
    refine ⟨by omega, by omega, hQ x3 k w6 hx3 ⟨fun q => ⟨q, fun u u0 u1 => by omega⟩, fun q => q.1⟩⟩
  | n + 1, k, x3, w6, hk', k0, hx3, hQ => by
    have hc10 := hg.1.1.2.1
    have h80 := hg.1.2.1.2.1
    have hm3 := hg.1.2.1.2.2 c c0 c1
    have ncb := nw_b (n := P 3000 0) c0 c1 hk
    have enc : nC P r XX c = nwN (kC P r XX) c := rfl
    have nlc := nB_le (q := kC P r XX) (x := P 3000 0) (by omega)
    have nl := nB_le (q := kM P r XX) (x := P 3007 c + P 3006 c) (by omega)
    have n0 := nB_p (q := kM P r XX) (x := P 3007 c)
    obtain ⟨⟨s1, s2⟩, s3, s4, s5⟩ := hB.2.2.1 c c0 c1 hk
    have s4' : σ.2.2 10014 121 (10 + nC P r XX c) = nB (kM P r XX) (P 3007 c + P 3006 c) - nB (kM P r XX) (P 3007 c) := s4
    have s5' : σ.2.2 10013 121 (10 + nC P r XX c) = nB (kM P r XX) (P 3007 c) := s5
    rw [b222_19, wr_id (z := 10 + nC P r XX c) (by omega) (by omega), s4', if_pos (by omega), s5']
    simp (disch := omega) only [wr_id]
    refine ⟨by omega, by omega, ?_⟩
    have nx : ∀ (y : Int) (x6 : Int), (y = 0 ∨ y = 1) → (y = 1 ↔ x3 = 1 ∧ (nB (kM P r XX) (P 3007 c) + k < t → ¬ σ.2.2 10020 121 (80 + (nB (kM P r XX) (P 3007 c) + k)) = v)) → T222 d Q 52 [wO 10 121, wI t, wI v, wI x3, wI (nC P r XX c), wI k, wI x6] [wI y] σ := by
      intro y x6 hy hy2
      rw [b222_52, wr_id (by omega) (by omega)]
      refine l222k hg hB t0 t1 c0 c1 hk n (k + 1) y _ (by omega) (by omega) hy (fun x3' x5 w6 h1 h2 => hQ x3' x5 w6 h1 ?_)
      rw [h2, hy2]
      constructor
      · rintro ⟨⟨a1, a2⟩, a3⟩
        refine ⟨a1, fun u u0 u1 u2 => ?_⟩
        by_cases e : u = nB (kM P r XX) (P 3007 c) + k
        · rw [e]; exact a2 (by omega)
        · exact a3 u (by omega) u1 u2
      · rintro ⟨a1, a2⟩
        exact ⟨⟨a1, fun q => a2 _ (by omega) (by omega) q⟩, fun u u0 u1 u2 => a2 u (by omega) u1 u2⟩
    by_cases g3 : x3 = 0
    · rw [if_pos g3, b222_51]
      exact nx 0 _ (Or.inl rfl) ⟨fun q => by omega, fun q => by omega⟩
    · rw [if_neg g3]
      by_cases gu : nB (kM P r XX) (P 3007 c) + k < t
      · rw [if_pos gu]
        refine ⟨by omega, ?_⟩
        by_cases gv : σ.2.2 10020 121 (80 + (nB (kM P r XX) (P 3007 c) + k)) = v
        · rw [if_pos gv, b222_51]
          exact nx 0 _ (Or.inl rfl) ⟨fun q => by omega, fun q => absurd gv (q.2 gu)⟩
        · rw [if_neg gv, b222_49]
          exact nx 1 _ (Or.inr rfl) ⟨fun _ => ⟨by omega, fun _ => gv⟩, fun _ => rfl⟩
      · rw [if_neg gu, b222_49]
        exact nx 1 _ (Or.inr rfl) ⟨fun _ => ⟨by omega, fun q => absurd q gu⟩, fun _ => rfl⟩
theorem l222c (hg : good P) (hB : naR σ P r XX NL) (m0 : 0 ≤ m) (m1 : m < P 3001 0) (hm : kM P r XX m) (hT : ∀ z, 0 ≤ z → z < m → kM P r XX z → σ.2.2 10020 121 (80 + nM P r XX z) = T z) : ∀ (n : Nat) (c x3 : Int) (w5 w6 : j3_W), c < n → -1 ≤ c → c < P 3000 0 → (0 ≤ c → kC P r XX c ∧ cv P c (P 3011 m) = true) → (x3 = 0 ∨ x3 = 1) → (x3 = 1 ↔ ∀ z, 0 ≤ z → z < m → kM P r XX z → cv P (P 3011 z) (P 3011 m) = true → ¬ cv P (P 3011 z) c = true → ¬ T z = v) → (∀ (x4 : Int) w5 w6, (tkn P r XX T m v → T222 d Q 69 [wO 10 121, wI (nM P r XX m), wI v, wI 0, wI x4, w5, w6] [wI 1, wI v] σ) ∧ (¬ tkn P r XX T m v → T222 d Q 69 [wO 10 121, wI (nM P r XX m), wI v, wI 1, wI x4, w5, w6] [wI 0, wI v] σ)) → T222 d Q 15 [wO 10 121, wI (nM P r XX m), wI v, wI x3, wI (if c < 0 then -1 else nC P r XX c), w5, w6] [] σ
  | 0, c, x3, w5, w6, hn, h0, h1, hk, hx3, hx, hQ => by
    have g : c < 0 := by push_cast at hn; omega
    rw [b222_15, if_pos g, if_pos (by omega)]
    have e : x3 = 1 ↔ ¬ tkn P r XX T m v := by
      rw [hx]
      constructor
      · rintro a ⟨z, z1, z2, z3, z4⟩
        exact a z z1.1 z1.2 z2 z4 (by rw [cv_n g]; decide) z3
      · intro a z z0 z1 z2 z3 _ z5
        exact a ⟨z, ⟨z0, z1⟩, z2, z5, z3⟩
    by_cases g0 : x3 = 0
    · rw [if_pos g0, g0]
      refine (hQ _ _ _).1 ?_
      by_cases gt : tkn P r XX T m v
      · exact gt
      · have := e.2 gt; omega
    · rw [if_neg g0, show x3 = 1 by omega]
      exact (hQ _ _ _).2 (e.1 (by omega))
  | n + 1, c, x3, w5, w6, hn, h0, h1, hk, hx3, hx, hQ => by
    by_cases g : c < 0
    · exact l222c hg hB m0 m1 hm hT 0 c x3 w5 w6 (by push_cast; omega) h0 h1 hk hx3 hx hQ
    · have h80 := hg.1.2.1.2.1
      have nn := nw_b (n := P 3001 0) m0 m1 hm
      have en : nM P r XX m = nwN (kM P r XX) m := rfl
      have enB : nM P r XX m = nB (kM P r XX) m := nw_k hm
      have nl := nB_le (q := kM P r XX) (x := P 3001 0) (by omega)
      obtain ⟨kc, cc⟩ := hk (by omega)
      have hm3 := hg.1.2.1.2.2 c (by omega) h1
      have hsu := hg.1.1.2.2 c (by omega) h1
      have ncb := nw_b (n := P 3000 0) (x := c) (by omega) h1 kc
      have enc : nC P r XX c = nwN (kC P r XX) c := rfl
      have nmo := nB_mo (q := kM P r XX) (x := P 3007 c) (y := P 3007 c + P 3006 c) (by omega) (by omega)
      rw [b222_15, if_neg g, if_neg (by omega)]
      refine l222k hg hB (by omega) (by omega) (by omega) h1 kc (nB (kM P r XX) (P 3007 c + P 3006 c) - nB (kM P r XX) (P 3007 c)).toNat 0 x3 _ (by omega) (by omega) hx3 (fun x3' x5 w6 h3 h4 => ?_)
      refine l222c hg hB m0 m1 hm hT n (P 3003 c) x3' _ _ (by push_cast at hn; omega) (by omega) (by omega) (fun q => ⟨kC_cl.2.2.2.2 c (by omega) h1 kc q, cv_t hg.1.1 (P 3011 m) (hg.1.2.2.2 m m0 m1).1.1 (hg.1.2.2.2 m m0 m1).1.2.1 cc (by rw [cv_s hg.1.1 (by omega) h1, cv_r hg.1.1 q (by omega)]; simp)⟩) h3 ?_ hQ
      rw [h4, hx]
      constructor
      · rintro ⟨a1, a2⟩ z z0 z1 z2 z3 z4
        have owz := (hg.1.2.2.2 z z0 (by omega)).1
        by_cases gc : cv P (P 3011 z) c = true
        · rw [cv_s hg.1.1 (by omega) h1] at gc
          have ec : c = P 3011 z := by
            rcases Bool.or_eq_true _ _ ▸ gc with q | q
            · simpa using q
            · exact absurd q z4
          have ez : nM P r XX z = nB (kM P r XX) z := nw_k z2
          have b1 := nB_mo (q := kM P r XX) (x := P 3007 c) (y := z) (by omega) (by rw [ec]; omega)
          have b2 := nB_lt (q := kM P r XX) (x := z) (y := P 3007 c + P 3006 c) z0 (by rw [ec]; omega) z2
          have b3 := nB_lt (q := kM P r XX) (x := z) (y := m) z0 z1 z2
          have := a2 (nB (kM P r XX) z) (by omega) b2 (by omega)
          rw [← ez, hT z z0 z1 z2] at this
          exact this
        · exact a1 z z0 z1 z2 z3 gc
      · intro b
        refine ⟨fun z z0 z1 z2 z3 z4 => b z z0 z1 z2 z3 (fun q => z4 ?_), fun u u0 u1 u2 => ?_⟩
        · rw [cv_s hg.1.1 (by omega) h1, q]; simp
        · have n0 := nB_p (q := kM P r XX) (x := P 3007 c)
          obtain ⟨z, z0, z1, z2, z3⟩ := nB_sur (q := kM P r XX) (n := P 3007 c + P 3006 c) (by omega) (show 0 ≤ u by omega) u1
          have zl : P 3007 c ≤ z := by
            by_cases q : z < P 3007 c
            · have := nB_lt (q := kM P r XX) z0 q z2; omega
            · omega
          have zm : z < m := by
            by_cases q : z < m
            · exact q
            · have := nB_mo (q := kM P r XX) m0 (show m ≤ z by omega); omega
          have oz := own_m hg (by omega) h1 zl z1
          have := b z z0 zm z2 (by rw [oz]; exact cc) (fun q => by
            rw [oz] at q
            by_cases g2 : P 3003 c < 0
            · rw [cv_n g2] at q; cases q
            · have := cv_le hg.1.1 (P 3003 c) (by omega) (by omega) q; omega)
          have ez : nM P r XX z = nB (kM P r XX) z := nw_k z2
          rw [← z3, ← ez, hT z z0 zm z2]
          exact this
theorem l222 (hg : good P) (hB : naR σ P r XX NL) (m0 : 0 ≤ m) (m1 : m < P 3001 0) (hm : kM P r XX m) (hT : ∀ z, 0 ≤ z → z < m → kM P r XX z → σ.2.2 10020 121 (80 + nM P r XX z) = T z) : ∀ (n : Nat) (v : Int) (w4 w5 w6 : j3_W), v + n = 81 → 1 ≤ v → (∃ u, v ≤ u ∧ u < v + n ∧ ¬ tkn P r XX T m u) → Q (some (wI (lfre P r XX T m n v))) σ → T222 d Q 4 [wO 10 121, wI (nM P r XX m), wI v, wI 0, w4, w5, w6] [] σ
  | 0, v, w4, w5, w6, hv, v1, ⟨u, u0, u1, _⟩, hQ => by push_cast at u1; omega
  | n + 1, v, w4, w5, w6, hv, v1, ⟨u, u0, u1, u2⟩, hQ => by
    have h80 := hg.1.2.1.2.1
    have nn := nw_b (n := P 3001 0) m0 m1 hm
    have en : nM P r XX m = nwN (kM P r XX) m := rfl
    have nl := nB_le (q := kM P r XX) (x := P 3001 0) (by omega)
    have ow := (hg.1.2.2.2 m m0 m1).1
    have kc := (kC_cl.2.2.2.1 m m0 m1 hm).1
    have e19 : σ.2.2 10019 121 (80 + nM P r XX m) = nC P r XX (P 3011 m) := (hB.2.2.2 m m0 m1 hm).1.1
    rw [b222_4, if_pos rfl, wr_id (z := 80 + nM P r XX m) (by omega) (by omega), e19, show nC P r XX (P 3011 m) = if P 3011 m < 0 then -1 else nC P r XX (P 3011 m) by rw [if_neg (by omega)]]
    refine ⟨by omega, l222c hg hB m0 m1 hm hT (P 3011 m + 1).toNat (P 3011 m) 1 _ _ (by omega) (by omega) ow.2.1 (fun _ => ⟨kc, cv_r hg.1.1 ow.1 ow.2.1⟩) (Or.inr rfl) ⟨fun _ z _ _ _ z3 z4 => absurd z3 z4, fun _ => rfl⟩ (fun x4 w5 w6 => ⟨fun g => ?_, fun g => ?_⟩)⟩
    · rw [b222_69, wr_id (by omega) (by omega)]
      unfold lfre at hQ
      rw [dB_t.2 g] at hQ
      have ne : ¬ u = v := fun e => u2 (e ▸ g)
      exact l222 hg hB m0 m1 hm hT n (v + 1) _ _ _ (by omega) (by omega) ⟨u, by omega, by push_cast at u1; omega, u2⟩ hQ
    · rw [b222_69, wr_id (by omega) (by omega), b222_4, if_neg (by omega), show v + 0 = v by omega]
      unfold lfre at hQ
      rw [dB_f.2 g] at hQ
      exact hQ
theorem s222 (hg : good P) (hB : naR σ P r XX NL) (m0 : 0 ≤ m) (m1 : m < P 3001 0) (hm : kM P r XX m) (hT : ∀ z, 0 ≤ z → z < m → kM P r XX z → σ.2.2 10020 121 (80 + nM P r XX z) = T z) (hQ : Q (some (wI (lfre P r XX T m 80 1))) σ) : j3_tc true (d + 1) 222 [wO 10 121, wI (nM P r XX m)] σ Q := by
  have h80 := hg.1.2.1.2.1
  rw [e222, b222_0]
  obtain ⟨v, v0, v1, v2⟩ := free80 (P := P) (r := r) (XX := XX) (T := T) m0 (show m < 80 by omega)
  exact l222 hg hB m0 m1 hm hT 80 1 _ _ _ (by omega) (by omega) ⟨v, v0, by push_cast; omega, v2⟩ hQ
theorem s220n (hg : good P) (hB : naR σ P r XX NL) (m0 : 0 ≤ m) (m1 : m < P 3001 0) (hm : kM P r XX m) : j3_tc true (d + 1) 220 [wO 10 121, wI m] σ Q = Q (some (wI (nM P r XX m))) σ := by
  have h80 := hg.1.2.1.2.1
  have hc10 := hg.1.1.2.1
  have nn := nw_b (n := P 3001 0) m0 m1 hm
  have en : nM P r XX m = nwN (kM P r XX) m := rfl
  have nl := nB_le (q := kM P r XX) (x := P 3001 0) (by omega)
  have ow := (hg.1.2.2.2 m m0 m1).1
  have kc := (kC_cl.2.2.2.1 m m0 m1 hm).1
  have ncb := nw_b (n := P 3000 0) ow.1 ow.2.1 kc
  have enc : nC P r XX (P 3011 m) = nwN (kC P r XX) (P 3011 m) := rfl
  have nlc := nB_le (q := kC P r XX) (x := P 3000 0) (by omega)
  have r1 := (RP0_m hB.1 m0 m1).1.1
  have s5 : σ.2.2 10013 121 (10 + nC P r XX (P 3011 m)) = nB (kM P r XX) (P 3007 (P 3011 m)) := (hB.2.2.1 _ ow.1 ow.2.1 kc).2.2.2
  have eO : nO P r XX m = nM P r XX m - nB (kM P r XX) (P 3007 (P 3011 m)) := by unfold nO; rw [dB_t.2 hm]; rfl
  rw [e220, b220_0, r1, hB.2.1.2.1 _ ow.1 ow.2.1, wr_id (z := 10 + nC P r XX (P 3011 m)) (by omega) (by omega), s5, hB.2.1.2.2.2 m m0 m1, eO, wr_id (by omega) (by omega), show nB (kM P r XX) (P 3007 (P 3011 m)) + (nM P r XX m - nB (kM P r XX) (P 3007 (P 3011 m))) = nM P r XX m by omega]
  exact propext ⟨fun q => q.2.2.2.2, fun q => ⟨by omega, by omega, by omega, by omega, q⟩⟩
end RNAME
