/-! copies of programs from slot to slot -/
def slz (e : Nat) : Int := if e = 10009 ∨ e = 10018 ∨ e = 10034 then 1 else if e ≤ 10014 then 10 else if e ≤ 10017 then 60 else if e = 10024 then 240 else if e ≤ 10026 then 80 else 9600
def slA : List Nat := [10009, 10010, 10011, 10012, 10013, 10014, 10015, 10016, 10017, 10018, 10019, 10020, 10021, 10022, 10023, 10024, 10025, 10026, 10027, 10028, 10029, 10030, 10031, 10032, 10034]
/-- only the slot t changes -/
def oS (t : Int) (σ σ' : j3_S) : Prop := frm [] slA σ σ' ∧ ∀ e z, (z < t * slz e ∨ (t + 1) * slz e ≤ z) → σ'.2.2 e 121 z = σ.2.2 e 121 z
section CPY
variable {d : Nat} {Q : j3_P} {P : Pg} {s t m n u : Int} {σ σ' σ'' : j3_S}
theorem oS.rf : oS t σ σ := ⟨frm.rf, fun _ _ _ => rfl⟩
theorem oS.tr (h : oS t σ σ') (h' : oS t σ' σ'') : oS t σ σ'' := ⟨h.1.tr h'.1, fun e z g => (h'.2 e z g).trans (h.2 e z g)⟩
theorem oS.A {e : Nat} {i x : Int} {f : Nat → Nat → Int} {A : Nat → Nat → Int → Int} {p : Nat → Nat} (h : oS t σ (f, p, A)) (he : slA.elem e = true) (h1 : t * slz e ≤ i) (h2 : i < (t + 1) * slz e) : oS t σ (f, p, j3_ast A e 121 i x) := by
  refine ⟨frm.A he h.1, fun e' z g => ?_⟩
  have := h.2 e' z g
  simp only [j3_ast]
  by_cases q : e' = e
  · subst q
    rw [up_r, iu_n (by omega)]
    exact this
  · rw [up_e (by simpa using q)]
    exact this
theorem RP.slo {P' : Pg} (hP : RP σ u P') (h : oS t σ σ') (hu : ¬ u = t) (u0 : 0 ≤ u) (t0 : 0 ≤ t) (hn : P' 3000 0 ≤ 10) (hm : P' 3001 0 ≤ 80) (hf : ∀ c, 0 ≤ c → c < P' 3000 0 → P' 3005 c ≤ 6) (hp : ∀ m, 0 ≤ m → m < P' 3001 0 → P' 3015 m ≤ 3 ∧ P' 0 m ≤ 120) : RP σ' u P' := by
  have key : ∀ (e : Nat) (k z : Int), slz e = k → u * k ≤ z → z < (u + 1) * k → σ'.2.2 e 121 z = σ.2.2 e 121 z := by
    intro e k z hk h1 h2
    refine h.2 e z ?_
    rw [hk]
    have k0 : 0 ≤ k := by
      rw [← hk]
      unfold slz
      repeat' split
      all_goals omega
    rcases (show u < t ∨ t < u by omega) with g | g
    · left
      have : (u + 1) * k ≤ t * k := Int.mul_le_mul_of_nonneg_right (by omega) k0
      omega
    · right
      have : (t + 1) * k ≤ u * k := Int.mul_le_mul_of_nonneg_right (by omega) k0
      omega
  obtain ⟨a1, a2, a3, a4⟩ := hP
  refine ⟨by rw [key 10009 1 u rfl (by omega) (by omega)]; exact a1, by rw [key 10018 1 u rfl (by omega) (by omega)]; exact a2, fun c c0 c1 => ?_, fun m m0 m1 => ?_⟩
  · obtain ⟨⟨b1, b2, b3, b4, b5⟩, b6⟩ := a3 c c0 c1
    refine ⟨⟨?_, ?_, ?_, ?_, ?_⟩, fun f f0 f1 => ?_⟩
    · rw [key 10010 10 _ rfl (by omega) (by omega)]; exact b1
    · rw [key 10011 10 _ rfl (by omega) (by omega)]; exact b2
    · rw [key 10012 10 _ rfl (by omega) (by omega)]; exact b3
    · rw [key 10014 10 _ rfl (by omega) (by omega)]; exact b4
    · rw [key 10013 10 _ rfl (by omega) (by omega)]; exact b5
    · have := hf c c0 c1
      rw [key 10015 60 _ rfl (by omega) (by omega), key 10016 60 _ rfl (by omega) (by omega), key 10017 60 _ rfl (by omega) (by omega)]
      exact b6 f f0 f1
  · obtain ⟨⟨b1, b2, b3, b4, b5, b6, b7⟩, b8, b9⟩ := a4 m m0 m1
    have hpm := hp m m0 m1
    refine ⟨⟨?_, ?_, ?_, ?_, ?_, ?_, ?_⟩, fun p p0 p1 => ?_, fun i i0 i1 => ?_⟩
    · rw [key 10019 80 _ rfl (by omega) (by omega)]; exact b1
    · rw [key 10020 80 _ rfl (by omega) (by omega)]; exact b2
    · rw [key 10021 80 _ rfl (by omega) (by omega)]; exact b3
    · rw [key 10022 80 _ rfl (by omega) (by omega)]; exact b4
    · rw [key 10023 80 _ rfl (by omega) (by omega)]; exact b5
    · rw [key 10025 80 _ rfl (by omega) (by omega)]; exact b6
    · rw [key 10026 80 _ rfl (by omega) (by omega)]; exact b7
    · rw [key 10024 240 _ rfl (by omega) (by omega)]; exact b8 p p0 p1
    · rw [key 10027 9600 _ rfl (by omega) (by omega), key 10028 9600 _ rfl (by omega) (by omega), key 10029 9600 _ rfl (by omega) (by omega)]
      exact b9 i i0 i1
theorem cp_s {f : Int → Int} {sp dp k : Int} (k0 : 0 ≤ k) (h : sp + k < dp ∨ dp + k ≤ sp + k) : i_up (i_cp f f sp dp k) (dp + k) (i_cp f f sp dp k (sp + k)) = i_cp f f sp dp (k + 1) := by
  have e : i_cp f f sp dp k (sp + k) = f (sp + k) := by
    simp only [i_cp]
    rw [if_neg (by omega)]
  rw [e]
  funext z
  simp only [i_up, i_cp]
  by_cases g : z = dp + k
  · subst g
    rw [if_pos rfl, if_pos (by omega), show sp + (dp + k - dp) = sp + k by omega]
  · rw [if_neg g]
    by_cases g2 : dp ≤ z ∧ z < dp + k
    · rw [if_pos g2, if_pos (by omega)]
    · rw [if_neg g2, if_neg (by omega)]
theorem cp_0 {f : Int → Int} {sp dp : Int} : i_cp f f sp dp 0 = f := by
  funext z
  simp only [i_cp]
  rw [if_neg (by omega)]
def cinA : List Nat := [10027, 10028, 10029, 10030, 10031, 10032]
def ciS (σ : j3_S) (x y : Int) : j3_S := (σ.1, σ.2.1, j3_ast (j3_ast (j3_ast (j3_ast (j3_ast (j3_ast σ.2.2 10027 121 y (σ.2.2 10027 121 x)) 10028 121 y (σ.2.2 10028 121 x)) 10029 121 y (σ.2.2 10029 121 x)) 10030 121 y (σ.2.2 10030 121 x)) 10031 121 y (σ.2.2 10031 121 x)) 10032 121 y (σ.2.2 10032 121 x))
theorem s182 {x y : Int} (x0 : 0 ≤ x) (x1 : x < 28800) (y0 : 0 ≤ y) (y1 : y < 28800) : j3_tc true (d + 1) 182 [wO 10 121, wI x, wI y] σ Q = Q none (ciS σ x y) := by
  have c1 : (0 ≤ x ∧ x < 28800) = True := by simp; omega
  have c2 : (0 ≤ y ∧ y < 28800) = True := by simp; omega
  rw [e182, b182_0]
  simp only [c1, c2, true_and, j3_ast, up_e (show ((10028 : Nat) == 10027) = false from rfl), up_e (show ((10029 : Nat) == 10027) = false from rfl), up_e (show ((10029 : Nat) == 10028) = false from rfl), up_e (show ((10030 : Nat) == 10027) = false from rfl), up_e (show ((10030 : Nat) == 10028) = false from rfl), up_e (show ((10030 : Nat) == 10029) = false from rfl), up_e (show ((10031 : Nat) == 10027) = false from rfl), up_e (show ((10031 : Nat) == 10028) = false from rfl), up_e (show ((10031 : Nat) == 10029) = false from rfl), up_e (show ((10031 : Nat) == 10030) = false from rfl), up_e (show ((10032 : Nat) == 10027) = false from rfl), up_e (show ((10032 : Nat) == 10028) = false from rfl), up_e (show ((10032 : Nat) == 10029) = false from rfl), up_e (show ((10032 : Nat) == 10030) = false from rfl), up_e (show ((10032 : Nat) == 10031) = false from rfl), ciS]
theorem ciS_f {x y : Int} : frm [] cinA σ (ciS σ x y) := frm.A rfl (frm.A rfl (frm.A rfl (frm.A rfl (frm.A rfl (frm.A rfl frm.rf)))))
theorem ciS_r {x y : Int} {e : Nat} (h : cinA.elem e = true) : (ciS σ x y).2.2 e 121 = i_up (σ.2.2 e 121) y (σ.2.2 e 121 x) := by
  simp [cinA] at h
  rcases h with rfl | rfl | rfl | rfl | rfl | rfl <;> simp only [ciS, j3_ast, up_r, up_e (show ((10027 : Nat) == 10028) = false from rfl), up_e (show ((10027 : Nat) == 10029) = false from rfl), up_e (show ((10027 : Nat) == 10030) = false from rfl), up_e (show ((10027 : Nat) == 10031) = false from rfl), up_e (show ((10027 : Nat) == 10032) = false from rfl), up_e (show ((10028 : Nat) == 10027) = false from rfl), up_e (show ((10028 : Nat) == 10029) = false from rfl), up_e (show ((10028 : Nat) == 10030) = false from rfl), up_e (show ((10028 : Nat) == 10031) = false from rfl), up_e (show ((10028 : Nat) == 10032) = false from rfl), up_e (show ((10029 : Nat) == 10027) = false from rfl), up_e (show ((10029 : Nat) == 10028) = false from rfl), up_e (show ((10029 : Nat) == 10030) = false from rfl), up_e (show ((10029 : Nat) == 10031) = false from rfl), up_e (show ((10029 : Nat) == 10032) = false from rfl), up_e (show ((10030 : Nat) == 10027) = false from rfl), up_e (show ((10030 : Nat) == 10028) = false from rfl), up_e (show ((10030 : Nat) == 10029) = false from rfl), up_e (show ((10030 : Nat) == 10031) = false from rfl), up_e (show ((10030 : Nat) == 10032) = false from rfl), up_e (show ((10031 : Nat) == 10027) = false from rfl), up_e (show ((10031 : Nat) == 10028) = false from rfl), up_e (show ((10031 : Nat) == 10029) = false from rfl), up_e (show ((10031 : Nat) == 10030) = false from rfl), up_e (show ((10031 : Nat) == 10032) = false from rfl), up_e (show ((10032 : Nat) == 10027) = false from rfl), up_e (show ((10032 : Nat) == 10028) = false from rfl), up_e (show ((10032 : Nat) == 10029) = false from rfl), up_e (show ((10032 : Nat) == 10030) = false from rfl), up_e (show ((10032 : Nat) == 10031) = false from rfl)]
/-- a method is copied: its rows -/
def hdA : List Nat := [10019, 10020, 10021, 10022, 10023, 10025, 10026]
def cpM (σ : j3_S) (s m t n : Int) (σ' : j3_S) : Prop := frm [] (hdA ++ [10024] ++ cinA) σ σ' ∧ (∀ e, hdA.elem e = true → σ'.2.2 e 121 = i_up (σ.2.2 e 121) (80 * t + n) (σ.2.2 e 121 (80 * s + m))) ∧ σ'.2.2 10024 121 = i_cp (σ.2.2 10024 121) (σ.2.2 10024 121) (3 * (80 * s + m)) (3 * (80 * t + n)) 3 ∧ ∀ e, cinA.elem e = true → σ'.2.2 e 121 = i_cp (σ.2.2 e 121) (σ.2.2 e 121) (9600 * s + 120 * m) (9600 * t + 120 * n) (σ.2.2 10026 121 (80 * s + m))
theorem l93 {len : Int} (s0 : 0 ≤ s) (s2 : s ≤ 2) (t0 : 0 ≤ t) (t2 : t ≤ 2) (hst : ¬ s = t) (m0 : 0 ≤ m) (m1 : m < 80) (n0 : 0 ≤ n) (n1 : n < 80) (hl : len ≤ 120) : ∀ (r : Nat) (k : Int) (σ σ0 : j3_S), k + r = len → 0 ≤ k → σ.2.2 10026 121 (80 * s + m) = len → frm [] cinA σ0 σ → (∀ e, cinA.elem e = true → σ.2.2 e 121 = i_cp (σ0.2.2 e 121) (σ0.2.2 e 121) (9600 * s + 120 * m) (9600 * t + 120 * n) k) →
    (∀ σ', frm [] cinA σ0 σ' → (∀ e, cinA.elem e = true → σ'.2.2 e 121 = i_cp (σ0.2.2 e 121) (σ0.2.2 e 121) (9600 * s + 120 * m) (9600 * t + 120 * n) len) → Q none σ') → T181 (d + 1) Q 93 [wO 10 121, wI s, wI m, wI t, wI n, wI (80 * s + m), wI (80 * t + n), wI k] [] σ
  | 0, k, σ, σ0, hk, k0, hn, hf, hr, h => by
    have : k = len := by omega
    subst this
    rw [b181_93, hn, if_neg (by omega)]
    exact ⟨by omega, h σ hf hr⟩
  | r + 1, k, σ, σ0, hk, k0, hn, hf, hr, h => by
    rw [b181_93, hn, if_pos (by omega), s160 s0 s2 m0 m1 k0 (by omega)]
    simp only [Option.toList_some, List.cons_append, List.nil_append]
    rw [b181_104, s160 t0 t2 n0 n1 k0 (by omega)]
    simp only [Option.toList_some, List.cons_append, List.nil_append]
    rw [b181_108, s182 (by omega) (by omega) (by omega) (by omega)]
    simp only [Option.toList_none, List.nil_append]
    rw [b181_109, wr_id (by omega) (by omega)]
    refine ⟨by omega, l93 s0 s2 t0 t2 hst m0 m1 n0 n1 hl r (k + 1) _ σ0 (by omega) (by omega) ?_ (hf.tr ciS_f) (fun e he => ?_) h⟩
    · rw [ciS_f.2.2 10026 121 rfl]
      exact hn
    · rw [ciS_r he, hr e he, cp_s k0 (by omega)]
theorem l54 (s0 : 0 ≤ s) (s2 : s ≤ 2) (t0 : 0 ≤ t) (t2 : t ≤ 2) (hst : ¬ s = t) (m0 : 0 ≤ m) (m1 : m < 80) (n0 : 0 ≤ n) (n1 : n < 80) : ∀ (r : Nat) (k : Int) (σ σ0 : j3_S), k + r = 3 → 0 ≤ k → frm [] [10024] σ0 σ → σ.2.2 10024 121 = i_cp (σ0.2.2 10024 121) (σ0.2.2 10024 121) (3 * (80 * s + m)) (3 * (80 * t + n)) k →
    (∀ σ', frm [] [10024] σ0 σ' → σ'.2.2 10024 121 = i_cp (σ0.2.2 10024 121) (σ0.2.2 10024 121) (3 * (80 * s + m)) (3 * (80 * t + n)) 3 → T181 d Q 93 [wO 10 121, wI s, wI m, wI t, wI n, wI (80 * s + m), wI (80 * t + n), wI 0] [] (σ'.1, σ'.2.1, j3_ast (j3_ast σ'.2.2 10025 121 (80 * t + n) (σ'.2.2 10025 121 (80 * s + m))) 10026 121 (80 * t + n) (σ'.2.2 10026 121 (80 * s + m)))) → T181 d Q 54 [wO 10 121, wI s, wI m, wI t, wI n, wI (80 * s + m), wI (80 * t + n), wI k] [] σ
  | 0, k, σ, σ0, hk, k0, hf, hr, h => by
    have : k = 3 := by omega
    subst this
    rw [b181_54, if_neg (by omega)]
    refine ⟨by omega, by omega, by omega, by omega, ?_⟩
    have := h σ hf hr
    simp only [j3_ast, up_e (show ((10026 : Nat) == 10025) = false from rfl)] at this ⊢
    exact this
  | r + 1, k, σ, σ0, hk, k0, hf, hr, h => by
    rw [b181_54, if_pos (by omega)]
    simp (disch := omega) only [wr_id]
    refine ⟨by omega, by omega, l54 s0 s2 t0 t2 hst m0 m1 n0 n1 r (k + 1) _ σ0 (by omega) (by omega) (hf.tr (frm.A rfl frm.rf)) ?_ h⟩
    simp only [j3_ast, up_r]
    rw [hr, cp_s k0 (by omega)]
theorem s181 {len : Int} (s0 : 0 ≤ s) (s2 : s ≤ 2) (t0 : 0 ≤ t) (t2 : t ≤ 2) (hst : ¬ s = t) (m0 : 0 ≤ m) (m1 : m < 80) (n0 : 0 ≤ n) (n1 : n < 80) (hlen : σ.2.2 10026 121 (80 * s + m) = len) (hl0 : 0 ≤ len) (hl : len ≤ 120) (hQ : ∀ σ', cpM σ s m t n σ' → Q none σ') : j3_tc true (d + 2) 181 [wO 10 121, wI s, wI m, wI t, wI n] σ Q := by
  rw [e181, b181_0]
  simp (disch := omega) only [wr_id]
  refine ⟨by omega, by omega, by omega, by omega, by omega, by omega, by omega, by omega, by omega, by omega, ?_⟩
  generalize hσ1 : ((σ.1, σ.2.1, j3_ast (j3_ast (j3_ast (j3_ast (j3_ast σ.2.2 10019 121 (80 * t + n) (σ.2.2 10019 121 (80 * s + m))) 10020 121 (80 * t + n) (σ.2.2 10020 121 (80 * s + m))) 10021 121 (80 * t + n) (σ.2.2 10021 121 (80 * s + m))) 10022 121 (80 * t + n) (σ.2.2 10022 121 (80 * s + m))) 10023 121 (80 * t + n) (σ.2.2 10023 121 (80 * s + m))) : j3_S) = σ1
  have f1 : frm [] [10019, 10020, 10021, 10022, 10023] σ σ1 := by
    rw [← hσ1]
    exact frm.A rfl (frm.A rfl (frm.A rfl (frm.A rfl (frm.A rfl frm.rf))))
  have r1 : ∀ e, [10019, 10020, 10021, 10022, 10023].elem e = true → σ1.2.2 e 121 = i_up (σ.2.2 e 121) (80 * t + n) (σ.2.2 e 121 (80 * s + m)) := by
    intro e he
    rw [← hσ1]
    simp at he
    rcases he with rfl | rfl | rfl | rfl | rfl <;> simp only [j3_ast, up_r, up_e (show ((10019 : Nat) == 10020) = false from rfl), up_e (show ((10019 : Nat) == 10021) = false from rfl), up_e (show ((10019 : Nat) == 10022) = false from rfl), up_e (show ((10019 : Nat) == 10023) = false from rfl), up_e (show ((10020 : Nat) == 10019) = false from rfl), up_e (show ((10020 : Nat) == 10021) = false from rfl), up_e (show ((10020 : Nat) == 10022) = false from rfl), up_e (show ((10020 : Nat) == 10023) = false from rfl), up_e (show ((10021 : Nat) == 10019) = false from rfl), up_e (show ((10021 : Nat) == 10020) = false from rfl), up_e (show ((10021 : Nat) == 10022) = false from rfl), up_e (show ((10021 : Nat) == 10023) = false from rfl), up_e (show ((10022 : Nat) == 10019) = false from rfl), up_e (show ((10022 : Nat) == 10020) = false from rfl), up_e (show ((10022 : Nat) == 10021) = false from rfl), up_e (show ((10022 : Nat) == 10023) = false from rfl), up_e (show ((10023 : Nat) == 10019) = false from rfl), up_e (show ((10023 : Nat) == 10020) = false from rfl), up_e (show ((10023 : Nat) == 10021) = false from rfl), up_e (show ((10023 : Nat) == 10022) = false from rfl)]
  refine l54 s0 s2 t0 t2 hst m0 m1 n0 n1 3 0 σ1 σ1 (by omega) (by omega) frm.rf (by rw [cp_0]) (fun σ2 f2 r2 => ?_)
  generalize hσ3 : ((σ2.1, σ2.2.1, j3_ast (j3_ast σ2.2.2 10025 121 (80 * t + n) (σ2.2.2 10025 121 (80 * s + m))) 10026 121 (80 * t + n) (σ2.2.2 10026 121 (80 * s + m))) : j3_S) = σ3
  have f3 : frm [] [10025, 10026] σ2 σ3 := by
    rw [← hσ3]
    exact frm.A rfl (frm.A rfl frm.rf)
  have e25 : σ3.2.2 10025 121 = i_up (σ2.2.2 10025 121) (80 * t + n) (σ2.2.2 10025 121 (80 * s + m)) := by
    rw [← hσ3]
    simp only [j3_ast, up_r, up_e (show ((10025 : Nat) == 10026) = false from rfl)]
  have e26 : σ3.2.2 10026 121 = i_up (σ2.2.2 10026 121) (80 * t + n) (σ2.2.2 10026 121 (80 * s + m)) := by
    rw [← hσ3]
    simp only [j3_ast, up_r, up_e (show ((10026 : Nat) == 10025) = false from rfl)]
  have h26 : σ2.2.2 10026 121 = σ.2.2 10026 121 := by rw [f2.2.2 10026 121 rfl, f1.2.2 10026 121 rfl]
  have h25 : σ2.2.2 10025 121 = σ.2.2 10025 121 := by rw [f2.2.2 10025 121 rfl, f1.2.2 10025 121 rfl]
  have l3 : σ3.2.2 10026 121 (80 * s + m) = len := by rw [e26, iu_n (by omega), h26]; exact hlen
  refine l93 s0 s2 t0 t2 hst m0 m1 n0 n1 hl len.toNat 0 σ3 σ3 (by omega) (by omega) l3 frm.rf (fun e he => by rw [cp_0]) (fun σ4 f4 r4 => hQ σ4 ⟨?_, fun e he => ?_, ?_, fun e he => ?_⟩)
  · exact (f1.wd (sub_el rfl) (sub_el rfl)).tr ((f2.wd (sub_el rfl) (sub_el rfl)).tr ((f3.wd (sub_el rfl) (sub_el rfl)).tr (f4.wd (sub_el rfl) (sub_el rfl))))
  · simp [hdA] at he
    rcases he with rfl | rfl | rfl | rfl | rfl | rfl | rfl
    · rw [f4.2.2 10019 121 rfl, f3.2.2 10019 121 rfl, f2.2.2 10019 121 rfl, r1 10019 rfl]
    · rw [f4.2.2 10020 121 rfl, f3.2.2 10020 121 rfl, f2.2.2 10020 121 rfl, r1 10020 rfl]
    · rw [f4.2.2 10021 121 rfl, f3.2.2 10021 121 rfl, f2.2.2 10021 121 rfl, r1 10021 rfl]
    · rw [f4.2.2 10022 121 rfl, f3.2.2 10022 121 rfl, f2.2.2 10022 121 rfl, r1 10022 rfl]
    · rw [f4.2.2 10023 121 rfl, f3.2.2 10023 121 rfl, f2.2.2 10023 121 rfl, r1 10023 rfl]
    · rw [f4.2.2 10025 121 rfl, e25, h25]
    · rw [f4.2.2 10026 121 rfl, e26, h26]
  · rw [f4.2.2 10024 121 rfl, f3.2.2 10024 121 rfl, r2, f1.2.2 10024 121 rfl]
  · have hs : [10025, 10026].elem e = false ∧ [10024].elem e = false ∧ [10019, 10020, 10021, 10022, 10023].elem e = false := by
      simp [cinA] at he
      rcases he with rfl | rfl | rfl | rfl | rfl | rfl <;> exact ⟨rfl, rfl, rfl⟩
    rw [r4 e he, f3.2.2 e 121 hs.1, f2.2.2 e 121 hs.2.1, f1.2.2 e 121 hs.2.2, hlen]
end CPY
