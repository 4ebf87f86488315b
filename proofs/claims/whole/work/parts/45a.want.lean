/-! the reference's wants -/
def wR (σ : j3_S) (x : Int) : j3_S := (j3_up σ.1 10047 121 (σ.1 10047 121 + 1), σ.2.1, j3_ast σ.2.2 10048 121 (σ.1 10047 121) x)
def zR (σ : j3_S) : j3_S := (j3_up σ.1 10047 121 0, σ.2.1, σ.2.2)
section WANT
variable {d : Nat} {Q : j3_P} {P : Pg} {σ : j3_S} {s m i op a b x : Int}
theorem wR_f : frm [10047] [10048] σ (wR σ x) := frm.I rfl (frm.A rfl frm.rf)
theorem zR_f : frm [10047] [10048] σ (zR σ) := frm.I rfl frm.rf
theorem wR_1 : (wR σ x).1 10047 121 = σ.1 10047 121 + 1 := by simp [wR, j3_up]
theorem zR_1 : (zR σ).1 10047 121 = 0 := by simp [zR, j3_up]
theorem fwR : ∀ (w : List Int) (σ : j3_S), frm [10047] [10048] σ (w.foldl wR σ) ∧ (w.foldl wR σ).1 10047 121 = σ.1 10047 121 + w.length ∧ (∀ z, z < σ.1 10047 121 → (w.foldl wR σ).2.2 10048 121 z = σ.2.2 10048 121 z) ∧ ∀ k : Nat, k < w.length → (w.foldl wR σ).2.2 10048 121 (σ.1 10047 121 + (k : Int)) = w.getD k 0
  | [], σ => ⟨frm.rf, by simp, fun _ _ => rfl, fun k hk => absurd hk (by simp)⟩
  | x :: w, σ => by
    obtain ⟨h1, h2, h3, h4⟩ := fwR w (wR σ x)
    rw [wR_1] at h2 h3 h4
    refine ⟨wR_f.tr h1, ?_, fun z hz => ?_, fun k hk => ?_⟩
    · show (w.foldl wR (wR σ x)).1 10047 121 = _
      rw [h2]
      simp only [List.length_cons]
      omega
    · show (w.foldl wR (wR σ x)).2.2 10048 121 z = _
      rw [h3 z (by omega)]
      simp only [wR, j3_ast, up_r]
      exact iu_n (by omega)
    · show (w.foldl wR (wR σ x)).2.2 10048 121 _ = _
      cases k with
      | zero =>
        rw [h3 _ (by omega)]
        simp only [wR, j3_ast, up_r]
        simp [i_up]
      | succ k =>
        have := h4 k (by simpa using hk)
        rw [show σ.1 10047 121 + ((k + 1 : Nat) : Int) = σ.1 10047 121 + 1 + (k : Int) by omega, this]
        rfl
theorem s174 (h0 : 0 ≤ σ.1 10047 121) (h1 : σ.1 10047 121 < 5) : j3_tc true (d + 1) 174 [wO 10 121, wI x] σ Q = Q none (wR σ x) := by
  rw [e174, b174_0, wr_id (by omega) (by omega)]
  simp only [h0, h1, and_self, true_and]
  rfl
theorem w0 {x1 x2 x3 : Int} (hop : σ.2.2 10027 121 x3 = op) (h : 0 ≤ x3 ∧ x3 < 28800) (h3 : ¬ (op = 3 ∨ op = 4 ∨ op = 5)) : T175 d Q 0 [wO 10 121, wI x1, wI x2, wI x3, wM 2, wM 2, wM 2] [] σ = T175 d Q 20 [wO 10 121, wI x1, wI x2, wI x3, wI op, wM 2, wM 2] [] (zR σ) := by
  rw [b175_0, hop, if_neg (by omega), if_neg (by omega), if_neg (by omega)]
  simp only [h, and_self, true_and]
  rfl
theorem w20 {x1 x2 x3 : Int} (h : ¬ (op = 12 ∨ op = 23)) : T175 d Q 20 [wO 10 121, wI x1, wI x2, wI x3, wI op, wM 2, wM 2] [] σ = T175 d Q 29 [wO 10 121, wI x1, wI x2, wI x3, wI op, wM 2, wM 2] [] σ := by
  rw [b175_20, if_neg (by omega), if_neg (by omega)]
theorem w29 {x1 x2 x3 : Int} (h : ¬ ((6 ≤ op ∧ op ≤ 10) ∨ op = 13)) : T175 d Q 29 [wO 10 121, wI x1, wI x2, wI x3, wI op, wM 2, wM 2] [] σ = T175 d Q 44 [wO 10 121, wI x1, wI x2, wI x3, wI op, wM 2, wM 2] [] σ := by
  rw [b175_29, b175_35, if_neg (show ¬ op = 13 by omega)]
  by_cases g : op < 6
  · rw [if_pos g]
  · rw [if_neg g, if_pos (by omega)]
theorem w44 {x1 x2 x3 : Int} (h : ¬ (op = 14 ∨ op = 24 ∨ op = 25)) : T175 d Q 44 [wO 10 121, wI x1, wI x2, wI x3, wI op, wM 2, wM 2] [] σ = T175 d Q 56 [wO 10 121, wI x1, wI x2, wI x3, wI op, wM 2, wM 2] [] σ := by
  rw [b175_44, if_neg (by omega), if_neg (by omega), if_neg (by omega)]
theorem w56 {x1 x2 x3 : Int} (h : ¬ (op = 17 ∨ op = 19)) : T175 d Q 56 [wO 10 121, wI x1, wI x2, wI x3, wI op, wM 2, wM 2] [] σ = T175 d Q 83 [wO 10 121, wI x1, wI x2, wI x3, wI op, wM 2, wM 2] [] σ := by
  rw [b175_56, if_neg (by omega), if_neg (by omega)]
theorem w83 {x1 x2 x3 : Int} (h : ¬ (op = 16 ∨ op = 17)) : T175 d Q 83 [wO 10 121, wI x1, wI x2, wI x3, wI op, wM 2, wM 2] [] σ = T175 d Q 97 [wO 10 121, wI x1, wI x2, wI x3, wI op, wM 2, wM 2] [] σ := by
  rw [b175_83, if_neg (by omega), if_neg (by omega)]
theorem w97 {x1 x2 x3 : Int} (h : ¬ (op = 20 ∨ op = 21)) : T175 d Q 97 [wO 10 121, wI x1, wI x2, wI x3, wI op, wM 2, wM 2] [] σ = T175 d Q 159 [wO 10 121, wI x1, wI x2, wI x3, wI op, wM 2, wM 2] [] σ := by
  rw [b175_97, if_neg (by omega), if_neg (by omega)]
theorem w159 {x1 x2 x3 : Int} {w5 w6 : j3_W} (h : ¬ op = 22) : T175 d Q 159 [wO 10 121, wI x1, wI x2, wI x3, wI op, w5, w6] [] σ = Q none σ := by
  rw [b175_159, if_neg h, b175_184]
theorem w62 {x2 x3 : Int} (hR : RP σ s P) (hs : WFs P) (s0 : 0 ≤ s) (s2 : s ≤ 2) (h : 0 ≤ x3 ∧ x3 < 28800) (ha : σ.2.2 10028 121 x3 = a) (hb : σ.2.2 10029 121 x3 = b) (a0 : 0 ≤ a) (a1 : a < P 3000 0) (b0 : 0 ≤ b) (b1 : b < P 3005 a) (h5 : P 3005 a ≤ 6) (t0 : 0 ≤ P 3009 (a * 6 + b)) (t1 : P 3009 (a * 6 + b) ≤ 10) (c0 : 0 ≤ σ.1 10047 121) (c1 : σ.1 10047 121 < 5) : T175 (d + 1) Q 62 [wO 10 121, wI s, wI x2, wI x3, wI op, wM 2, wM 2] [] σ = T175 (d + 1) Q 83 [wO 10 121, wI s, wI x2, wI x3, wI op, wM 2, wM 2] [] (wR σ (tyof (P 3009 (a * 6 + b)))) := by
  have hn := hs.2.1
  rw [b175_62, ha, hb]
  simp (disch := omega) only [wr_id]
  rw [((hR.2.2.1 a a0 a1).2 b b0 b1).2.1, s173 t0 t1]
  simp only [Option.toList_some, List.cons_append, List.nil_append]
  rw [b175_82, s174 c0 c1]
  simp only [Option.toList_none, List.nil_append]
  have cc : (0 ≤ 60 * s + 6 * a + b ∧ 60 * s + 6 * a + b < 180) = True := by simp; omega
  simp only [h, cc, and_self, true_and]
theorem w89 {x1 x2 x3 : Int} (h : 0 ≤ x3 ∧ x3 < 28800) (ha : σ.2.2 10028 121 x3 = a) (a0 : 0 ≤ a) (a1 : a < 10) (c0 : 0 ≤ σ.1 10047 121) (c1 : σ.1 10047 121 < 5) : T175 (d + 1) Q 89 [wO 10 121, wI x1, wI x2, wI x3, wI op, wM 2, wM 2] [] σ = T175 (d + 1) Q 97 [wO 10 121, wI x1, wI x2, wI x3, wI op, wM 2, wM 2] [] (wR σ (4 + a)) := by
  rw [b175_89, ha, wr_id (by omega) (by omega), s174 c0 c1]
  simp only [Option.toList_none, List.nil_append]
  simp only [h, and_self, true_and]
theorem RP.fr {σ σ' : j3_S} {s : Int} {P : Pg} {li la : List Nat} (h : RP σ s P) (hf : frm li la σ σ') (h2 : ∀ e, 10009 ≤ e → e ≤ 10029 → la.elem e = false) : RP σ' s P := by
  have q : ∀ e, 10009 ≤ e → e ≤ 10029 → σ'.2.2 e 121 = σ.2.2 e 121 := fun e h3 h4 => hf.2.2 e 121 (h2 e h3 h4)
  unfold RP
  rw [q 10009 (by omega) (by omega), q 10018 (by omega) (by omega), q 10010 (by omega) (by omega), q 10011 (by omega) (by omega), q 10012 (by omega) (by omega), q 10014 (by omega) (by omega), q 10013 (by omega) (by omega), q 10015 (by omega) (by omega), q 10016 (by omega) (by omega), q 10017 (by omega) (by omega), q 10019 (by omega) (by omega), q 10020 (by omega) (by omega), q 10021 (by omega) (by omega), q 10022 (by omega) (by omega), q 10023 (by omega) (by omega), q 10025 (by omega) (by omega), q 10026 (by omega) (by omega), q 10024 (by omega) (by omega), q 10027 (by omega) (by omega), q 10028 (by omega) (by omega), q 10029 (by omega) (by omega)]
  exact h
theorem lr_ok {la : List Nat} (h : la.all (fun e => decide (e < 10009) || decide (10029 < e)) = true) : ∀ e, 10009 ≤ e → e ≤ 10029 → la.elem e = false := by
  intro e h1 h2
  cases hb : la.elem e
  · rfl
  · have := List.all_eq_true.mp h e (by simpa using hb)
    simp at this
    omega
/-- the parameters' loop, downwards -/
theorem w131 {x2 x3 t : Int} (hR : RP σ s P) (hW : WFp P) (s0 : 0 ≤ s) (s2 : s ≤ 2) (h : 0 ≤ x3 ∧ x3 < 28800) (ha : σ.2.2 10028 121 x3 = a) (a0 : 0 ≤ a) (a1 : a < 10) (t0 : 0 ≤ t) (t1 : t < P 3001 0) (hop : ¬ op = 22) : ∀ (k : Nat) (σ' : j3_S), frm [10047] [10048] σ σ' → (k : Int) ≤ P 3015 t → 0 ≤ σ'.1 10047 121 → σ'.1 10047 121 + k ≤ 3 →
    T175 (d + 1) Q 131 [wO 10 121, wI s, wI x2, wI x3, wI op, wI (80 * s + t), wI ((k : Int) - 1)] [] σ' = Q none (((prl P t k).reverse ++ (if P 3013 t = 0 then [4 + a] else [])).foldl wR σ')
  | 0, σ', hf, hk, c0, c1 => by
    have hR' := hR.fr hf (lr_ok rfl)
    obtain ⟨hs, hm, -, hM⟩ := id hW
    have hm2 := hm.2.1
    rw [b175_131, if_pos (by omega), (hR'.2.2.2 t t0 t1).1.2.2.1]
    have cc : (0 ≤ 80 * s + t ∧ 80 * s + t < 240) = True := by simp; omega
    by_cases g : P 3013 t = 0
    · rw [if_pos g, if_pos g, hf.2.2 10028 121 rfl, ha, wr_id (by omega) (by omega), s174 c0 (by omega)]
      simp only [Option.toList_none, List.nil_append]
      rw [w159 hop]
      simp only [h, cc, and_self, true_and]
      simp [prl]
    · rw [if_neg g, if_neg g, w159 hop]
      simp only [cc, true_and]
      simp [prl]
  | k + 1, σ', hf, hk, c0, c1 => by
    have hR' := hR.fr hf (lr_ok rfl)
    obtain ⟨hs, hm, -, hM⟩ := id hW
    obtain ⟨q1, q2, q3, q4, q5, q6, q7⟩ := hM t t0 t1
    have hm2 := hm.2.1
    have hn := hs.2.1
    have hk3 := q4.2.2 k (by omega) (by omega)
    have e1 : ((k + 1 : Nat) : Int) - 1 = (k : Int) := by omega
    rw [e1, b175_131, if_neg (by omega)]
    simp (disch := omega) only [wr_id]
    rw [(hR'.2.2.2 t t0 t1).2.1 k (by omega) (by omega), s173 hk3.1 (by omega)]
    simp only [Option.toList_some, List.cons_append, List.nil_append]
    rw [b175_143, s174 c0 (by omega)]
    simp only [Option.toList_none, List.nil_append]
    rw [b175_144, wr_id (by omega) (by omega), show (k : Int) + -1 = (k : Int) - 1 by omega, w131 hR hW s0 s2 h ha a0 a1 t0 t1 hop k _ (hf.tr wR_f) (by omega) (by rw [wR_1]; omega) (by rw [wR_1]; omega)]
    have cc : (0 ≤ 3 * (80 * s + t) + (k : Int) ∧ 3 * (80 * s + t) + (k : Int) < 720) = True := by simp; omega
    simp only [cc, true_and]
    rw [prl_s]
    simp
theorem s175 {x3 : Int} (hR : RP σ s P) (hW : WFp P) (s0 : 0 ≤ s) (s2 : s ≤ 2) (m0 : 0 ≤ m) (m1 : m < P 3001 0) (h : 0 ≤ x3 ∧ x3 < 28800) (hop : σ.2.2 10027 121 x3 = op) (ha : σ.2.2 10028 121 x3 = a) (hb : σ.2.2 10029 121 x3 = b) (hi : iok P m op a b) : j3_tc true (d + 2) 175 [wO 10 121, wI s, wI m, wI x3] σ Q = Q none ((wl P m op a b).reverse.foldl wR (zR σ)) := by
  obtain ⟨hs, hm, hF, hM⟩ := id hW
  obtain ⟨i0, i1, i2, i3, i4, i5, i6⟩ := id hi
  obtain ⟨-, -, q3, -⟩ := hM m m0 m1
  have hn := hs.2.1
  have hm2 := hm.2.1
  have hz := zR_1 (σ := σ)
  have hRz : RP (zR σ) s P := hR.fr zR_f (lr_ok rfl)
  rw [e175]
  by_cases h3 : op = 3 ∨ op = 4 ∨ op = 5
  · have e0 : T175 (d + 1) Q 0 [wO 10 121, wI s, wI m, wI x3, wM 2, wM 2, wM 2] [] σ = T175 (d + 1) Q 17 [wO 10 121, wI s, wI m, wI x3, wI op, wM 2, wM 2] [] (zR σ) := by
      rw [b175_0, hop]
      simp only [h, and_self, true_and]
      rcases h3 with g | g | g
      · rw [if_pos g]; rfl
      · rw [if_neg (by omega), if_pos g]; rfl
      · rw [if_neg (by omega), if_neg (by omega), if_pos g]; rfl
    rw [e0, b175_17, s174 (by omega) (by omega)]
    simp only [Option.toList_none, List.nil_append]
    rw [w20 (by omega), w29 (by omega), w44 (by omega), w56 (by omega), w83 (by omega), w97 (by omega), w159 (by omega)]
    simp [wl, h3]
  rw [w0 hop h h3]
  by_cases h12 : op = 12 ∨ op = 23
  · have e0 : T175 (d + 1) Q 20 [wO 10 121, wI s, wI m, wI x3, wI op, wM 2, wM 2] [] (zR σ) = T175 (d + 1) Q 26 [wO 10 121, wI s, wI m, wI x3, wI op, wM 2, wM 2] [] (zR σ) := by
      rw [b175_20]
      rcases h12 with g | g
      · rw [if_pos g]
      · rw [if_neg (by omega), if_pos g]
    rw [e0, b175_26, s174 (by omega) (by omega)]
    simp only [Option.toList_none, List.nil_append]
    rw [w29 (by omega), w44 (by omega), w56 (by omega), w83 (by omega), w97 (by omega), w159 (by omega)]
    simp [wl, h3, h12]
  rw [w20 h12]
  by_cases h6 : (6 ≤ op ∧ op ≤ 10) ∨ op = 13
  · have e0 : T175 (d + 1) Q 29 [wO 10 121, wI s, wI m, wI x3, wI op, wM 2, wM 2] [] (zR σ) = T175 (d + 1) Q 38 [wO 10 121, wI s, wI m, wI x3, wI op, wM 2, wM 2] [] (zR σ) := by
      rw [b175_29, b175_35]
      rcases h6 with g | g
      · rw [if_neg (by omega), if_neg (by omega)]
      · rw [if_neg (by omega), if_pos (by omega), if_pos g]
    rw [e0, b175_38, s174 (by omega) (by omega)]
    simp only [Option.toList_none, List.nil_append]
    rw [b175_41, s174 (by rw [wR_1]; omega) (by rw [wR_1]; omega)]
    simp only [Option.toList_none, List.nil_append]
    rw [w44 (by omega), w56 (by omega), w83 (by omega), w97 (by omega), w159 (by omega)]
    simp [wl, h3, h12, h6]
  rw [w29 h6]
  by_cases h14 : op = 14 ∨ op = 24 ∨ op = 25
  · have e0 : T175 (d + 1) Q 44 [wO 10 121, wI s, wI m, wI x3, wI op, wM 2, wM 2] [] (zR σ) = T175 (d + 1) Q 53 [wO 10 121, wI s, wI m, wI x3, wI op, wM 2, wM 2] [] (zR σ) := by
      rw [b175_44]
      rcases h14 with g | g | g
      · rw [if_pos g]
      · rw [if_neg (by omega), if_pos g]
      · rw [if_neg (by omega), if_neg (by omega), if_pos g]
    rw [e0, b175_53, s174 (by omega) (by omega)]
    simp only [Option.toList_none, List.nil_append]
    rw [w56 (by omega), w83 (by omega), w97 (by omega), w159 (by omega)]
    simp [wl, h3, h12, h6, h14]
  rw [w44 h14]
  by_cases h17 : op = 17
  · have ha' := i4 (by omega)
    have hb' := i5 (by omega)
    have hf := hF a ha'.1 ha'.2
    have hff := hf.2.2 b hb'.1 hb'.2
    rw [b175_56, if_pos h17, w62 hRz hs s0 s2 h ha hb ha'.1 ha'.2 hb'.1 hb'.2 hf.2.1 hff.1 (by omega) (by omega) (by omega), b175_83, if_neg (by omega), if_pos h17, w89 (σ := wR (zR σ) (tyof (P 3009 (a * 6 + b)))) (a := a) h (by rw [wR_f.2.2 10028 121 rfl]; exact ha) ha'.1 (by omega) (by rw [wR_1]; omega) (by rw [wR_1]; omega), w97 (by omega), w159 (by omega)]
    simp [wl, h3, h12, h6, h14, h17]
  by_cases h19 : op = 19
  · have ha' := i4 (by omega)
    have hb' := i5 (by omega)
    have hf := hF a ha'.1 ha'.2
    have hff := hf.2.2 b hb'.1 hb'.2
    rw [b175_56, if_neg (by omega), if_pos h19, w62 hRz hs s0 s2 h ha hb ha'.1 ha'.2 hb'.1 hb'.2 hf.2.1 hff.1 (by omega) (by omega) (by omega), w83 (by omega), w97 (by omega), w159 (by omega)]
    simp [wl, h19]
  rw [w56 (by omega)]
  by_cases h16 : op = 16
  · have ha' := i4 (by omega)
    rw [b175_83, if_pos h16, w89 (σ := zR σ) (a := a) h ha ha'.1 (by omega) (by omega) (by omega), w97 (by omega), w159 (by omega)]
    simp [wl, h16]
  rw [w83 (by omega)]
  by_cases h20 : op = 20 ∨ op = 21
  · have ha' := i4 (by omega)
    have hb' := i6 (by omega)
    have hc := hm.2.2 a ha'.1 ha'.2
    obtain ⟨-, -, -, p4, -⟩ := hM (P 3007 a + b) (by omega) (by omega)
    have e0 : T175 (d + 1) Q 97 [wO 10 121, wI s, wI m, wI x3, wI op, wM 2, wM 2] [] (zR σ) = T175 (d + 1) Q 103 [wO 10 121, wI s, wI m, wI x3, wI op, wM 2, wM 2] [] (zR σ) := by
      rw [b175_97]
      rcases h20 with g | g
      · rw [if_pos g]
      · rw [if_neg (by omega), if_pos g]
    have za : (zR σ).2.2 10028 121 x3 = a := ha
    have zb : (zR σ).2.2 10029 121 x3 = b := hb
    rw [e0, b175_103, za, zb]
    simp (disch := omega) only [wr_id]
    rw [(hRz.2.2.1 a ha'.1 ha'.2).1.2.2.2.2]
    simp (disch := omega) only [wr_id]
    rw [show 80 * s + P 3007 a + b = 80 * s + (P 3007 a + b) by omega, (hRz.2.2.2 (P 3007 a + b) (by omega) (by omega)).1.2.2.2.2.1]
    simp (disch := omega) only [wr_id]
    have hk : (((P 3015 (P 3007 a + b)).toNat : Nat) : Int) = P 3015 (P 3007 a + b) := by omega
    have := w131 (d := d) (Q := Q) (x2 := m) (op := op) hRz hW s0 s2 h za ha'.1 (by omega) (show 0 ≤ P 3007 a + b by omega) (by omega) (by omega) (P 3015 (P 3007 a + b)).toNat (zR σ) frm.rf (by omega) (by omega) (by omega)
    rw [hk] at this
    rw [this]
    have c1 : (0 ≤ 10 * s + a ∧ 10 * s + a < 30) = True := by simp; omega
    have c2 : (0 ≤ 80 * s + (P 3007 a + b) ∧ 80 * s + (P 3007 a + b) < 240) = True := by simp; omega
    simp only [h, c1, c2, and_self, true_and]
    have ew : wl P m op a b = cw P a (P 3007 a + b) := by simp [wl, h3, h12, h6, h14, h16, h17, h19, h20]
    rw [ew]
    unfold cw
    rw [List.reverse_append]
    congr 2
    split <;> rfl
  rw [w97 h20]
  by_cases h22 : op = 22
  · rw [b175_159, if_pos h22]
    simp (disch := omega) only [wr_id]
    rw [(hRz.2.2.2 m m0 m1).1.2.2.2.1]
    have cc : (0 ≤ 80 * s + m ∧ 80 * s + m < 240) = True := by simp; omega
    simp only [cc, true_and]
    by_cases g : P 3014 m = 0
    · rw [if_neg (by omega), b175_184]
      simp [wl, h22, g]
    · rw [if_pos (by omega), wr_id (by omega) (by omega), s173 (by omega) (by omega)]
      simp only [Option.toList_some, List.cons_append, List.nil_append]
      rw [b175_183, s174 (by omega) (by omega)]
      simp only [Option.toList_none, List.nil_append]
      rw [b175_184]
      simp [wl, h22, g]
  rw [w159 h22]
  simp [wl, h3, h12, h6, h14, h16, h17, h19, h20, h22]
end WANT
