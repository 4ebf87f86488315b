def CPr (σ : j3_S) (s : Int) (P : Pg) (c : Int) : Prop := (σ.2.2 10010 121 (10 * s + c) = P 3002 c ∧ σ.2.2 10011 121 (10 * s + c) = P 3003 c ∧ σ.2.2 10012 121 (10 * s + c) = P 3005 c ∧ σ.2.2 10014 121 (10 * s + c) = P 3006 c ∧ σ.2.2 10013 121 (10 * s + c) = P 3007 c) ∧ ∀ f, 0 ≤ f → f < P 3005 c → σ.2.2 10015 121 (60 * s + 6 * c + f) = P 3008 (c * 6 + f) ∧ σ.2.2 10016 121 (60 * s + 6 * c + f) = P 3009 (c * 6 + f) ∧ σ.2.2 10017 121 (60 * s + 6 * c + f) = P 3010 (c * 6 + f)
def MPr (σ : j3_S) (s : Int) (P : Pg) (m : Int) : Prop := (σ.2.2 10019 121 (80 * s + m) = P 3011 m ∧ σ.2.2 10020 121 (80 * s + m) = P 3012 m ∧ σ.2.2 10021 121 (80 * s + m) = P 3013 m ∧ σ.2.2 10022 121 (80 * s + m) = P 3014 m ∧ σ.2.2 10023 121 (80 * s + m) = P 3015 m ∧ σ.2.2 10025 121 (80 * s + m) = P 3017 m ∧ σ.2.2 10026 121 (80 * s + m) = P 0 m) ∧ (∀ p, 0 ≤ p → p < P 3015 m → σ.2.2 10024 121 (3 * (80 * s + m) + p) = P 3016 (m * 3 + p)) ∧ ∀ i, 0 ≤ i → i < P 0 m → σ.2.2 10027 121 (9600 * s + 120 * m + i) = P 1 (m * 120 + i) ∧ σ.2.2 10028 121 (9600 * s + 120 * m + i) = P 2 (m * 120 + i) ∧ σ.2.2 10029 121 (9600 * s + 120 * m + i) = P 3 (m * 120 + i)
section CPY2
variable {d : Nat} {Q : j3_P} {P : Pg} {s t m n u c : Int} {σ σ' σ'' : j3_S}
theorem cpM.slo {len : Int} (h : cpM σ s m t n σ') (t0 : 0 ≤ t) (n0 : 0 ≤ n) (n1 : n < 80) (hlen : σ.2.2 10026 121 (80 * s + m) = len) (hl : len ≤ 120) : oS t σ σ' := by
  obtain ⟨h1, h2, h3, h4⟩ := h
  refine ⟨h1.wd (sub_el rfl) (sub_el rfl), fun e z g => ?_⟩
  cases h5 : (hdA ++ [10024] ++ cinA).elem e
  · rw [h1.2.2 e 121 h5]
  · simp [hdA, cinA] at h5
    have hh : (hdA.elem e = true ∧ slz e = 80) ∨ e = 10024 ∨ (cinA.elem e = true ∧ slz e = 9600) := by
      rcases h5 with rfl | rfl | rfl | rfl | rfl | rfl | rfl | rfl | rfl | rfl | rfl | rfl | rfl | rfl
      all_goals first
        | exact Or.inl ⟨rfl, rfl⟩
        | exact Or.inr (Or.inl rfl)
        | exact Or.inr (Or.inr ⟨rfl, rfl⟩)
    rcases hh with ⟨a, b⟩ | a | ⟨a, b⟩
    · rw [b] at g
      rw [h2 e a, iu_n (by omega)]
    · subst a
      rw [show slz 10024 = 240 from rfl] at g
      rw [h3]
      simp only [i_cp]
      rw [if_neg (by omega)]
    · rw [b] at g
      rw [h4 e a, hlen]
      simp only [i_cp]
      rw [if_neg (by omega)]
theorem cpM.M (h : cpM σ s m t n σ') (hM : MPr σ s P m) (hp : P 3015 m ≤ 3) : ∀ P' : Pg, (P' 3011 n = P 3011 m ∧ P' 3012 n = P 3012 m ∧ P' 3013 n = P 3013 m ∧ P' 3014 n = P 3014 m ∧ P' 3015 n = P 3015 m ∧ P' 3017 n = P 3017 m ∧ P' 0 n = P 0 m) → (∀ p, P' 3016 (n * 3 + p) = P 3016 (m * 3 + p)) → (∀ i, P' 1 (n * 120 + i) = P 1 (m * 120 + i) ∧ P' 2 (n * 120 + i) = P 2 (m * 120 + i) ∧ P' 3 (n * 120 + i) = P 3 (m * 120 + i)) → MPr σ' t P' n := by
  intro P' e1 e2 e3
  obtain ⟨h1, h2, h3, h4⟩ := h
  obtain ⟨⟨a1, a2, a3, a4, a5, a6, a7⟩, b1, b2⟩ := hM
  obtain ⟨x1, x2, x3, x4, x5, x6, x7⟩ := e1
  refine ⟨⟨?_, ?_, ?_, ?_, ?_, ?_, ?_⟩, fun p p0 p1 => ?_, fun i i0 i1 => ?_⟩
  · rw [h2 10019 rfl, iu_r, x1]; exact a1
  · rw [h2 10020 rfl, iu_r, x2]; exact a2
  · rw [h2 10021 rfl, iu_r, x3]; exact a3
  · rw [h2 10022 rfl, iu_r, x4]; exact a4
  · rw [h2 10023 rfl, iu_r, x5]; exact a5
  · rw [h2 10025 rfl, iu_r, x6]; exact a6
  · rw [h2 10026 rfl, iu_r, x7]; exact a7
  · rw [x5] at p1
    rw [h3, e2 p]
    simp only [i_cp]
    rw [if_pos (by omega), show 3 * (80 * s + m) + (3 * (80 * t + n) + p - 3 * (80 * t + n)) = 3 * (80 * s + m) + p by omega]
    exact b1 p p0 p1
  · rw [x7] at i1
    obtain ⟨c1, c2, c3⟩ := b2 i i0 i1
    obtain ⟨y1, y2, y3⟩ := e3 i
    rw [h4 10027 rfl, h4 10028 rfl, h4 10029 rfl, a7, y1, y2, y3]
    simp only [i_cp]
    rw [if_pos (by omega), show 9600 * s + 120 * m + (9600 * t + 120 * n + i - (9600 * t + 120 * n)) = 9600 * s + 120 * m + i by omega, if_pos (by omega), if_pos (by omega)]
    exact ⟨c1, c2, c3⟩
theorem MPr.cp {len m' : Int} (h : cpM σ s m t n σ') (hM : MPr σ t P m') (hn : ¬ m' = n) (hp : P 3015 m' ≤ 3) (hq : P 0 m' ≤ 120) (hlen : σ.2.2 10026 121 (80 * s + m) = len) (hl : len ≤ 120) : MPr σ' t P m' := by
  obtain ⟨h1, h2, h3, h4⟩ := h
  obtain ⟨⟨a1, a2, a3, a4, a5, a6, a7⟩, b1, b2⟩ := hM
  refine ⟨⟨?_, ?_, ?_, ?_, ?_, ?_, ?_⟩, fun p p0 p1 => ?_, fun i i0 i1 => ?_⟩
  · rw [h2 10019 rfl, iu_n (by omega)]; exact a1
  · rw [h2 10020 rfl, iu_n (by omega)]; exact a2
  · rw [h2 10021 rfl, iu_n (by omega)]; exact a3
  · rw [h2 10022 rfl, iu_n (by omega)]; exact a4
  · rw [h2 10023 rfl, iu_n (by omega)]; exact a5
  · rw [h2 10025 rfl, iu_n (by omega)]; exact a6
  · rw [h2 10026 rfl, iu_n (by omega)]; exact a7
  · rw [h3]
    simp only [i_cp]
    rw [if_neg (by omega)]
    exact b1 p p0 p1
  · rw [h4 10027 rfl, h4 10028 rfl, h4 10029 rfl, hlen]
    simp only [i_cp]
    rw [if_neg (by omega), if_neg (by omega), if_neg (by omega)]
    exact b2 i i0 i1
/-- bounds of rows that copies need -/
def bnd (P : Pg) : Prop := P 3000 0 ≤ 10 ∧ P 3001 0 ≤ 80 ∧ (∀ c, 0 ≤ c → c < P 3000 0 → P 3005 c ≤ 6) ∧ ∀ m, 0 ≤ m → m < P 3001 0 → P 3015 m ≤ 3 ∧ 0 ≤ P 0 m ∧ P 0 m ≤ 120
theorem RP.slq {P' : Pg} (hP : RP σ u P') (h : oS t σ σ') (hu : ¬ u = t) (u0 : 0 ≤ u) (t0 : 0 ≤ t) (hb : bnd P') : RP σ' u P' := hP.slo h hu u0 t0 hb.1 hb.2.1 hb.2.2.1 (fun m m0 m1 => ⟨(hb.2.2.2 m m0 m1).1, (hb.2.2.2 m m0 m1).2.2⟩)
theorem l187 {w4 : j3_W} (s0 : 0 ≤ s) (s2 : s ≤ 2) (t0 : 0 ≤ t) (t2 : t ≤ 2) (hst : ¬ s = t) (hb : bnd P) : ∀ (r : Nat) (m : Int) (σ : j3_S), m + r = P 3001 0 → 0 ≤ m → RP σ s P → (∀ m', 0 ≤ m' → m' < m → MPr σ t P m') →
    (∀ σ', oS t σ σ' → (∀ e, (hdA ++ [10024] ++ cinA).elem e = false → σ'.2.2 e 121 = σ.2.2 e 121) → (∀ m', 0 ≤ m' → m' < P 3001 0 → MPr σ' t P m') → Q none (σ'.1, σ'.2.1, j3_ast σ'.2.2 10034 121 t (σ'.2.2 10034 121 s))) → T183 (d + 2) Q 187 [wO 10 121, wI s, wI t, wI m, w4] [] σ
  | 0, m, σ, hm, m0, hP, hM, h => by
    rw [b183_187, hP.2.1, if_neg (by omega)]
    exact ⟨by omega, by omega, by omega, h σ oS.rf (fun _ _ => rfl) (fun m' a b => hM m' a (by omega))⟩
  | r + 1, m, σ, hm, m0, hP, hM, h => by
    obtain ⟨b1, b2, b3, b4⟩ := id hb
    have bm := b4 m m0 (by omega)
    have hl := (hP.2.2.2 m m0 (by omega)).1.2.2.2.2.2.2
    rw [b183_187, hP.2.1, if_pos (by omega)]
    refine ⟨by omega, s181 s0 s2 t0 t2 hst m0 (by omega) m0 (by omega) hl bm.2.1 bm.2.2 (fun σ1 h1 => ?_)⟩
    simp only [Option.toList_none, List.nil_append]
    rw [b183_199, wr_id (by omega) (by omega)]
    have o1 := h1.slo t0 m0 (by omega) hl bm.2.2
    refine l187 s0 s2 t0 t2 hst hb r (m + 1) σ1 (by omega) (by omega) (hP.slq o1 hst s0 t0 hb) (fun m' h0 h2 => ?_) (fun σ' ho hr hM' => h σ' (o1.tr ho) (fun e he => (hr e he).trans (h1.1.2.2 e 121 he)) hM')
    by_cases g : m' = m
    · subst g
      exact h1.M (hP.2.2.2 m' m0 (by omega)) bm.1 P ⟨rfl, rfl, rfl, rfl, rfl, rfl, rfl⟩ (fun _ => rfl) (fun _ => ⟨rfl, rfl, rfl⟩)
    · have bm' := b4 m' h0 (by omega)
      exact (hM m' h0 (by omega)).cp h1 g bm'.1 bm'.2.2 hl bm.2.2
theorem l98 (s0 : 0 ≤ s) (s2 : s ≤ 2) (t0 : 0 ≤ t) (t2 : t ≤ 2) (hst : ¬ s = t) (c0 : 0 ≤ c) (c1 : c < 10) : ∀ (r : Nat) (f : Int) (σ : j3_S), f + r = 6 → 0 ≤ f → (∀ σ', oS t σ σ' → frm [] [10015, 10016, 10017] σ σ' → (∀ e, [10015, 10016, 10017].elem e = true → (∀ z, z < 60 * t + 6 * c + f ∨ 60 * t + 6 * c + 6 ≤ z → σ'.2.2 e 121 z = σ.2.2 e 121 z) ∧ ∀ f', f ≤ f' → f' < 6 → σ'.2.2 e 121 (60 * t + 6 * c + f') = σ.2.2 e 121 (60 * s + 6 * c + f')) → T183 d Q 10 [wO 10 121, wI s, wI t, wI (c + 1), wI 6] [] σ') → T183 d Q 98 [wO 10 121, wI s, wI t, wI c, wI f] [] σ
  | 0, f, σ, hf, f0, h => by
    have : f = 6 := by omega
    subst this
    rw [b183_98, if_neg (by omega), wr_id (by omega) (by omega)]
    exact h σ oS.rf frm.rf (fun e he => ⟨fun _ _ => rfl, fun f' a b => absurd b (by omega)⟩)
  | r + 1, f, σ, hf, f0, h => by
    rw [b183_98, if_pos (by omega)]
    simp (disch := omega) only [wr_id]
    refine ⟨by omega, by omega, by omega, by omega, by omega, by omega, ?_⟩
    generalize hσ1 : ((σ.1, σ.2.1, j3_ast (j3_ast (j3_ast σ.2.2 10015 121 (60 * t + 6 * c + f) (σ.2.2 10015 121 (60 * s + 6 * c + f))) 10016 121 (60 * t + 6 * c + f) (σ.2.2 10016 121 (60 * s + 6 * c + f))) 10017 121 (60 * t + 6 * c + f) (σ.2.2 10017 121 (60 * s + 6 * c + f))) : j3_S) = σ1
    have o1 : oS t σ σ1 := by
      rw [← hσ1]
      refine oS.A (oS.A (oS.A oS.rf rfl ?_ ?_) rfl ?_ ?_) rfl ?_ ?_ <;> simp only [show slz 10015 = 60 from rfl, show slz 10016 = 60 from rfl, show slz 10017 = 60 from rfl] <;> omega
    have f1 : frm [] [10015, 10016, 10017] σ σ1 := by
      rw [← hσ1]
      exact frm.A rfl (frm.A rfl (frm.A rfl frm.rf))
    have r1 : ∀ e, [10015, 10016, 10017].elem e = true → σ1.2.2 e 121 = i_up (σ.2.2 e 121) (60 * t + 6 * c + f) (σ.2.2 e 121 (60 * s + 6 * c + f)) := by
      intro e he
      rw [← hσ1]
      simp at he
      rcases he with rfl | rfl | rfl <;> simp only [j3_ast, up_r, up_e (show ((10015 : Nat) == 10016) = false from rfl), up_e (show ((10015 : Nat) == 10017) = false from rfl), up_e (show ((10016 : Nat) == 10015) = false from rfl), up_e (show ((10016 : Nat) == 10017) = false from rfl), up_e (show ((10017 : Nat) == 10015) = false from rfl), up_e (show ((10017 : Nat) == 10016) = false from rfl)]
    refine l98 s0 s2 t0 t2 hst c0 c1 r (f + 1) σ1 (by omega) (by omega) (fun σ' ho hf' hr => h σ' (o1.tr ho) (f1.tr hf') (fun e he => ⟨fun z hz => ?_, fun f' a b => ?_⟩))
    · rw [(hr e he).1 z (by omega), r1 e he, iu_n (by omega)]
    · by_cases g : f' = f
      · subst g
        rw [(hr e he).1 _ (by omega), r1 e he, iu_r]
      · rw [(hr e he).2 f' (by omega) b, r1 e he, iu_n (by omega)]
theorem l10c (s0 : 0 ≤ s) (s2 : s ≤ 2) (t0 : 0 ≤ t) (t2 : t ≤ 2) (hst : ¬ s = t) (hb : bnd P) : ∀ (r : Nat) (c : Int) (w4 : j3_W) (σ : j3_S), c + r = P 3000 0 → 0 ≤ c → RP σ s P → (∀ c', 0 ≤ c' → c' < c → CPr σ t P c') →
    (∀ σ' w4, oS t σ σ' → frm [] [10010, 10011, 10012, 10013, 10014, 10015, 10016, 10017] σ σ' → (∀ c', 0 ≤ c' → c' < P 3000 0 → CPr σ' t P c') → T183 d Q 187 [wO 10 121, wI s, wI t, wI 0, w4] [] (σ'.1, σ'.2.1, j3_ast σ'.2.2 10018 121 t (σ'.2.2 10018 121 s))) → T183 d Q 10 [wO 10 121, wI s, wI t, wI c, w4] [] σ
  | 0, c, w4, σ, hc, c0, hP, hC, h => by
    rw [b183_10, hP.1, if_neg (by omega)]
    exact ⟨by omega, by omega, by omega, h σ _ oS.rf frm.rf (fun c' a b => hC c' a (by omega))⟩
  | r + 1, c, w4, σ, hc, c0, hP, hC, h => by
    obtain ⟨b1, b2, b3, b4⟩ := id hb
    rw [b183_10, hP.1, if_pos (by omega)]
    simp (disch := omega) only [wr_id]
    refine ⟨by omega, by omega, by omega, by omega, by omega, by omega, by omega, by omega, by omega, by omega, by omega, ?_⟩
    generalize hσ1 : ((σ.1, σ.2.1, j3_ast (j3_ast (j3_ast (j3_ast (j3_ast σ.2.2 10010 121 (10 * t + c) (σ.2.2 10010 121 (10 * s + c))) 10011 121 (10 * t + c) (σ.2.2 10011 121 (10 * s + c))) 10012 121 (10 * t + c) (σ.2.2 10012 121 (10 * s + c))) 10013 121 (10 * t + c) (σ.2.2 10013 121 (10 * s + c))) 10014 121 (10 * t + c) (σ.2.2 10014 121 (10 * s + c))) : j3_S) = σ1
    have o1 : oS t σ σ1 := by
      rw [← hσ1]
      refine oS.A (oS.A (oS.A (oS.A (oS.A oS.rf rfl ?_ ?_) rfl ?_ ?_) rfl ?_ ?_) rfl ?_ ?_) rfl ?_ ?_ <;> simp only [show slz 10010 = 10 from rfl, show slz 10011 = 10 from rfl, show slz 10012 = 10 from rfl, show slz 10013 = 10 from rfl, show slz 10014 = 10 from rfl] <;> omega
    have f1 : frm [] [10010, 10011, 10012, 10013, 10014] σ σ1 := by
      rw [← hσ1]
      exact frm.A rfl (frm.A rfl (frm.A rfl (frm.A rfl (frm.A rfl frm.rf))))
    have r1 : ∀ e, [10010, 10011, 10012, 10013, 10014].elem e = true → σ1.2.2 e 121 = i_up (σ.2.2 e 121) (10 * t + c) (σ.2.2 e 121 (10 * s + c)) := by
      intro e he
      rw [← hσ1]
      simp at he
      rcases he with rfl | rfl | rfl | rfl | rfl <;> simp only [j3_ast, up_r, up_e (show ((10010 : Nat) == 10011) = false from rfl), up_e (show ((10010 : Nat) == 10012) = false from rfl), up_e (show ((10010 : Nat) == 10013) = false from rfl), up_e (show ((10010 : Nat) == 10014) = false from rfl), up_e (show ((10011 : Nat) == 10010) = false from rfl), up_e (show ((10011 : Nat) == 10012) = false from rfl), up_e (show ((10011 : Nat) == 10013) = false from rfl), up_e (show ((10011 : Nat) == 10014) = false from rfl), up_e (show ((10012 : Nat) == 10010) = false from rfl), up_e (show ((10012 : Nat) == 10011) = false from rfl), up_e (show ((10012 : Nat) == 10013) = false from rfl), up_e (show ((10012 : Nat) == 10014) = false from rfl), up_e (show ((10013 : Nat) == 10010) = false from rfl), up_e (show ((10013 : Nat) == 10011) = false from rfl), up_e (show ((10013 : Nat) == 10012) = false from rfl), up_e (show ((10013 : Nat) == 10014) = false from rfl), up_e (show ((10014 : Nat) == 10010) = false from rfl), up_e (show ((10014 : Nat) == 10011) = false from rfl), up_e (show ((10014 : Nat) == 10012) = false from rfl), up_e (show ((10014 : Nat) == 10013) = false from rfl)]
    refine l98 s0 s2 t0 t2 hst c0 (by omega) 6 0 σ1 (by omega) (by omega) (fun σ2 o2 f2 r2 => ?_)
    have o12 := o1.tr o2
    refine l10c s0 s2 t0 t2 hst hb r (c + 1) _ σ2 (by omega) (by omega) (hP.slq o12 hst s0 t0 hb) (fun c' h0 h1 => ?_) (fun σ' w4 ho hf hC' => h σ' w4 (o12.tr ho) ((f1.wd (sub_el rfl) (sub_el rfl)).tr ((f2.wd (sub_el rfl) (sub_el rfl)).tr hf)) hC')
    have hf5 : ∀ e, [10010, 10011, 10012, 10013, 10014].elem e = true → ∀ z, ¬ z = 10 * t + c → σ2.2.2 e 121 z = σ.2.2 e 121 z := by
      intro e he z hz
      have : [10015, 10016, 10017].elem e = false := by
        simp at he
        rcases he with rfl | rfl | rfl | rfl | rfl <;> rfl
      rw [f2.2.2 e 121 this, r1 e he, iu_n hz]
    by_cases g : c' = c
    · subst g
      obtain ⟨⟨a1, a2, a3, a4, a5⟩, a6⟩ := hP.2.2.1 c' c0 (by omega)
      refine ⟨⟨?_, ?_, ?_, ?_, ?_⟩, fun f f0 f1' => ?_⟩
      · rw [f2.2.2 10010 121 rfl, r1 10010 rfl, iu_r]; exact a1
      · rw [f2.2.2 10011 121 rfl, r1 10011 rfl, iu_r]; exact a2
      · rw [f2.2.2 10012 121 rfl, r1 10012 rfl, iu_r]; exact a3
      · rw [f2.2.2 10014 121 rfl, r1 10014 rfl, iu_r]; exact a4
      · rw [f2.2.2 10013 121 rfl, r1 10013 rfl, iu_r]; exact a5
      · have h6 := b3 c' c0 (by omega)
        rw [(r2 10015 rfl).2 f (by omega) (by omega), (r2 10016 rfl).2 f (by omega) (by omega), (r2 10017 rfl).2 f (by omega) (by omega), f1.2.2 10015 121 rfl, f1.2.2 10016 121 rfl, f1.2.2 10017 121 rfl]
        exact a6 f f0 f1'
    · obtain ⟨⟨a1, a2, a3, a4, a5⟩, a6⟩ := hC c' h0 (by omega)
      have h6 := b3 c' h0 (by omega)
      refine ⟨⟨?_, ?_, ?_, ?_, ?_⟩, fun f f0 f1' => ?_⟩
      · rw [hf5 10010 rfl _ (by omega)]; exact a1
      · rw [hf5 10011 rfl _ (by omega)]; exact a2
      · rw [hf5 10012 rfl _ (by omega)]; exact a3
      · rw [hf5 10014 rfl _ (by omega)]; exact a4
      · rw [hf5 10013 rfl _ (by omega)]; exact a5
      · rw [(r2 10015 rfl).1 _ (by omega), (r2 10016 rfl).1 _ (by omega), (r2 10017 rfl).1 _ (by omega), f1.2.2 10015 121 rfl, f1.2.2 10016 121 rfl, f1.2.2 10017 121 rfl]
        exact a6 f f0 f1'
theorem s183 (s0 : 0 ≤ s) (s2 : s ≤ 2) (t0 : 0 ≤ t) (t2 : t ≤ 2) (hst : ¬ s = t) (hb : bnd P) (hw : 0 ≤ P 3000 0) (hv : 0 ≤ P 3001 0) (hP : RP σ s P) (hQ : ∀ σ', oS t σ σ' → RP σ' t P → σ'.2.2 10034 121 t = σ.2.2 10034 121 s → Q none σ') : j3_tc true (d + 3) 183 [wO 10 121, wI s, wI t] σ Q := by
  rw [e183, b183_0]
  refine ⟨by omega, by omega, ?_⟩
  have o0 : oS t σ (σ.1, σ.2.1, j3_ast σ.2.2 10009 121 t (σ.2.2 10009 121 s)) := oS.A oS.rf rfl (by rw [show slz 10009 = 1 from rfl]; omega) (by rw [show slz 10009 = 1 from rfl]; omega)
  refine l10c s0 s2 t0 t2 hst hb (P 3000 0).toNat 0 _ _ (by omega) (by omega) (hP.slq o0 hst s0 t0 hb) (fun c' h0 h1 => absurd h1 (by omega)) (fun σ1 w4 o1 f1 hC => ?_)
  have o2 : oS t σ1 (σ1.1, σ1.2.1, j3_ast σ1.2.2 10018 121 t (σ1.2.2 10018 121 s)) := oS.A oS.rf rfl (by rw [show slz 10018 = 1 from rfl]; omega) (by rw [show slz 10018 = 1 from rfl]; omega)
  have o12 := (o0.tr o1).tr o2
  refine l187 s0 s2 t0 t2 hst hb (P 3001 0).toNat 0 _ (by omega) (by omega) (hP.slq o12 hst s0 t0 hb) (fun m' h0 h1 => absurd h1 (by omega)) (fun σ3 o3 r3 hM => ?_)
  have o4 : oS t σ3 (σ3.1, σ3.2.1, j3_ast σ3.2.2 10034 121 t (σ3.2.2 10034 121 s)) := oS.A oS.rf rfl (by rw [show slz 10034 = 1 from rfl]; omega) (by rw [show slz 10034 = 1 from rfl]; omega)
  refine hQ _ ((o12.tr o3).tr o4) ⟨?_, ?_, fun c c0 c1 => ?_, fun m m0 m1 => ?_⟩ ?_
  · simp only [j3_ast, up_e (show ((10009 : Nat) == 10034) = false from rfl)]
    rw [r3 10009 rfl]
    simp only [j3_ast, up_e (show ((10009 : Nat) == 10018) = false from rfl)]
    rw [f1.2.2 10009 121 rfl]
    simp only [j3_ast, up_r, iu_r]
    exact hP.1
  · simp only [j3_ast, up_e (show ((10018 : Nat) == 10034) = false from rfl)]
    rw [r3 10018 rfl]
    simp only [j3_ast, up_r, iu_r]
    rw [f1.2.2 10018 121 rfl]
    simp only [j3_ast, up_e (show ((10018 : Nat) == 10009) = false from rfl)]
    exact hP.2.1
  · have := hC c c0 c1
    unfold CPr at this
    simp only [j3_ast, up_e (show ((10010 : Nat) == 10034) = false from rfl), up_e (show ((10011 : Nat) == 10034) = false from rfl), up_e (show ((10012 : Nat) == 10034) = false from rfl), up_e (show ((10013 : Nat) == 10034) = false from rfl), up_e (show ((10014 : Nat) == 10034) = false from rfl), up_e (show ((10015 : Nat) == 10034) = false from rfl), up_e (show ((10016 : Nat) == 10034) = false from rfl), up_e (show ((10017 : Nat) == 10034) = false from rfl)]
    rw [r3 10010 rfl, r3 10011 rfl, r3 10012 rfl, r3 10013 rfl, r3 10014 rfl, r3 10015 rfl, r3 10016 rfl, r3 10017 rfl]
    simp only [j3_ast, up_e (show ((10010 : Nat) == 10018) = false from rfl), up_e (show ((10011 : Nat) == 10018) = false from rfl), up_e (show ((10012 : Nat) == 10018) = false from rfl), up_e (show ((10013 : Nat) == 10018) = false from rfl), up_e (show ((10014 : Nat) == 10018) = false from rfl), up_e (show ((10015 : Nat) == 10018) = false from rfl), up_e (show ((10016 : Nat) == 10018) = false from rfl), up_e (show ((10017 : Nat) == 10018) = false from rfl)]
    exact this
  · have := hM m m0 m1
    unfold MPr at this
    simp only [j3_ast, up_e (show ((10019 : Nat) == 10034) = false from rfl), up_e (show ((10020 : Nat) == 10034) = false from rfl), up_e (show ((10021 : Nat) == 10034) = false from rfl), up_e (show ((10022 : Nat) == 10034) = false from rfl), up_e (show ((10023 : Nat) == 10034) = false from rfl), up_e (show ((10024 : Nat) == 10034) = false from rfl), up_e (show ((10025 : Nat) == 10034) = false from rfl), up_e (show ((10026 : Nat) == 10034) = false from rfl), up_e (show ((10027 : Nat) == 10034) = false from rfl), up_e (show ((10028 : Nat) == 10034) = false from rfl), up_e (show ((10029 : Nat) == 10034) = false from rfl)]
    exact this
  · simp only [j3_ast, up_r, iu_r]
    rw [r3 10034 rfl]
    simp only [j3_ast, up_e (show ((10034 : Nat) == 10018) = false from rfl)]
    rw [f1.2.2 10034 121 rfl]
    simp only [j3_ast, up_e (show ((10034 : Nat) == 10009) = false from rfl)]
end CPY2
