/-! reaching, in the reference -/
def chR (σ0 σ : j3_S) (S : Rs) : Prop := frm [10051] [10049, 10050] σ0 σ ∧ (∀ m, 0 ≤ m → m < 80 → σ.2.2 10049 121 m = S.1 m) ∧ (∀ c, 0 ≤ c → c < 10 → σ.2.2 10050 121 c = S.2.1 c) ∧ σ.1 10051 121 = S.2.2
def kdR (σ : j3_S) (s : Int) (P K : Pg) (mt : Int → Int → Bool) (D : Int → Prop) : Prop := ∀ m, 0 ≤ m → m < P 3001 0 → D m → σ.2.2 10026 121 (80 * s + m) = K 0 m ∧ ∀ i, 0 ≤ i → i < K 0 m → (s = 0 → (σ.2.2 10035 121 (120 * m + i) = 0 ↔ mt m i = false)) ∧ (¬ s = 0 → mt m i = true) ∧ σ.2.2 10027 121 (9600 * s + 120 * m + i) = K 1 (m * 120 + i) ∧ σ.2.2 10028 121 (9600 * s + 120 * m + i) = K 2 (m * 120 + i) ∧ σ.2.2 10029 121 (9600 * s + 120 * m + i) = K 3 (m * 120 + i)
def bsR (σ : j3_S) (s : Int) (P K : Pg) (mt : Int → Int → Bool) (D L : Int → Prop) : Prop := (good P ∧ okK P K mt D L) ∧ (s = 0 ∨ s = 2) ∧ RP σ 0 P ∧ kdR σ s P K mt D
section RRC
variable {σ0 σ : j3_S} {P K : Pg} {mt : Int → Int → Bool} {D L : Int → Prop} {S : Rs} {d : Nat} {Q : j3_P} {m c a b n s : Int} {E : Int → Int}
theorem s193 (h : chR σ0 σ S) (hI : inS D L S) (m0 : 0 ≤ m) (m1 : m < 80) (hQ : ∀ σ', chR σ0 σ' (mkR S m) → Q none σ') : j3_tc true (d + 1) 193 [wO 10 121, wI m] σ Q := by
  obtain ⟨h1, h2, h3, h4⟩ := h
  have t12 : ∀ v, (v = 0 ∨ v = 1) → v = (mkR S m).2.2 → T193 d Q 12 [wO 10 121, wI m] [wI v, wO 10 121] σ := by
    intro v hv hv2
    rw [b193_12]
    refine ⟨hv, Or.inr rfl, by omega, hQ _ ⟨h1.tr (frm.I rfl (frm.A rfl frm.rf)), fun k k0 k1 => ?_, fun c c0 c1 => ?_, ?_⟩⟩
    · simp only [j3_ast, up_r, i_up]
      unfold mkR
      by_cases g : S.1 m = 0
      · rw [if_pos g]
        show _ = i_up S.1 m 1 k
        simp only [i_up]
        by_cases gk : k = m
        · rw [if_pos gk, if_pos gk]
        · rw [if_neg gk, if_neg gk]; exact h2 k k0 k1
      · rw [if_neg g]
        by_cases gk : k = m
        · rw [if_pos gk, gk]; exact ((hI.1 m).resolve_left g).symm
        · rw [if_neg gk]; exact h2 k k0 k1
    · simp only [j3_ast, up_e (show ((10050 : Nat) == 10049) = false from rfl)]
      have : (mkR S m).2.1 = S.2.1 := by unfold mkR; split <;> rfl
      rw [this]; exact h3 c c0 c1
    · show j3_up σ.1 10051 121 v 10051 121 = _
      rw [up_r]; exact hv2
  rw [e193, b193_0, h4, h2 m m0 m1]
  rcases hI.2.2.1 with gf | gf
  · rw [if_pos gf]
    refine ⟨by omega, ?_⟩
    by_cases g : S.1 m = 0
    · rw [if_pos g, b193_9]
      exact t12 1 (Or.inr rfl) (by unfold mkR; rw [if_pos g])
    · rw [if_neg g]
      exact t12 0 (Or.inl rfl) (by unfold mkR; rw [if_neg g]; exact gf.symm)
  · rw [if_neg (by omega), b193_9]
    refine t12 1 (Or.inr rfl) ?_
    unfold mkR
    by_cases g : S.1 m = 0
    · rw [if_pos g]
    · rw [if_neg g]; exact gf.symm
/-- the classes of a SEND -/
theorem l195 (B : bsR σ0 s P K mt D L) {X x2 : Int} (X0 : 0 ≤ X) (X1 : X < 28800) (a0 : 0 ≤ a) (a1 : a < P 3000 0) (b0 : 0 ≤ b) (b1 : b < P 3006 a) (ea : σ0.2.2 10028 121 X = a) (eb : σ0.2.2 10029 121 X = b) (hD : ∀ d, 0 ≤ d → d < P 3000 0 → L d → cv P a d = true → D (fnd P (P 3012 (P 3007 a + b)) 10 d)) : ∀ (n : Nat) (x : Int) (σ : j3_S) (S : Rs), x + n = P 3000 0 → 0 ≤ x → inS D L S → chR σ0 σ S → (∀ σ', chR σ0 σ' (mkS P a (P 3007 a + b) n x S) → Q none σ') → T195 (d + 1) Q 55 [wO 10 121, wI X, wI x2, wI x] [] σ
  | 0, x, σ, S, hx, x0, hI, h, hQ => by
    rw [b195_55, h.1.2.2 10009 121 rfl, B.2.2.1.1, if_neg (by omega)]
    exact ⟨by omega, hQ σ h⟩
  | n + 1, x, σ, S, hx, x0, hI, h, hQ => by
    have B' := B
    obtain ⟨⟨hg, -⟩, -, hR, -⟩ := B
    have hn := hg.1.1.2.1
    have h80 := hg.1.2.1.2.1
    have hma := hg.1.2.1.2.2 a a0 a1
    have hR' : RP σ 0 P := hR.fr h.1 (fun e e0 e1 => by simp; omega)
    have e28 : σ.2.2 10028 121 X = a := by rw [h.1.2.2 10028 121 rfl]; exact ea
    have e29 : σ.2.2 10029 121 X = b := by rw [h.1.2.2 10029 121 rfl]; exact eb
    unfold mkS at hQ
    have go : ∀ (σ1 : j3_S), inS D L (if S.2.1 x = 1 ∧ cv P a x = true then mkR S (fnd P (P 3012 (P 3007 a + b)) 10 x) else S) → chR σ0 σ1 (if S.2.1 x = 1 ∧ cv P a x = true then mkR S (fnd P (P 3012 (P 3007 a + b)) 10 x) else S) → T195 (d + 1) Q 96 [wO 10 121, wI X, wI x2, wI x] [] σ1 := by
      intro σ1 hI1 h1
      rw [b195_96, wr_id (z := x + 1) (by omega) (by omega)]
      exact l195 B' X0 X1 a0 a1 b0 b1 ea eb hD n (x + 1) σ1 _ (by omega) (by omega) hI1 h1 hQ
    rw [b195_55, h.1.2.2 10009 121 rfl, hR.1, if_pos (by omega), h.2.2.1 x x0 (by omega)]
    refine ⟨by omega, by omega, ?_⟩
    rcases hI.2.1 x with gl | gl
    · rw [if_pos gl]
      have ng : ¬ (S.2.1 x = 1 ∧ cv P a x = true) := fun z => by rw [gl] at z; exact absurd z.1 (by decide)
      rw [if_neg ng] at go
      exact go σ hI h
    · rw [if_neg (by omega), e28, s170 hR' hg.1.1 (by omega) (by omega) a0 (by omega) (by omega)]
      refine ⟨by omega, ?_⟩
      simp only [Option.toList_some, List.cons_append, List.nil_append]
      rw [b195_74]
      by_cases gc : cv P a x = true
      · have gc' : cov P a 10 x = true := gc
        have fr := fnd_r hg a0 a1 b0 b1 (c := x) (by omega) gc
        have h7 := (hR'.2.2.1 a a0 a1).1.2.2.2.2
        have h12 := (hR'.2.2.2 (P 3007 a + b) (by omega) (by omega)).1.2.1
        simp only [Int.mul_zero, Int.zero_add] at h7 h12
        rw [gc', if_neg (show ¬ b2i true = 0 by decide), e28, e29, h7, wr_id (z := P 3007 a + b) (by omega) (by omega), h12, s192 hR' hg.1.1 hg.1.2.1 (by omega) (by omega) (by omega) (by omega)]
        refine ⟨by omega, by omega, by omega, by omega, ?_⟩
        simp only [Option.toList_some, List.cons_append, List.nil_append]
        have hDf := hD x x0 (by omega) (hI.2.2.2.2 x gl) gc
        rw [if_pos ⟨gl, gc⟩] at go
        rw [b195_95]
        refine s193 h hI (by omega) (by omega) (fun σ' h' => ?_)
        simp only [Option.toList_none, List.nil_append]
        exact go σ' (hI.r hDf) h'
      · have gc' : cov P a 10 x = false := by simpa [cv] using gc
        rw [gc', if_pos (show b2i false = 0 from rfl)]
        rw [if_neg (fun z => gc z.2)] at go
        exact go σ hI h
theorem s195 (B : bsR σ0 s P K mt D L) {X op : Int} (X0 : 0 ≤ X) (X1 : X < 28800) (hok : okRi P op a b) (eo : σ0.2.2 10027 121 X = op) (ea : σ0.2.2 10028 121 X = a) (eb : σ0.2.2 10029 121 X = b) (hD : op = 21 → ∀ d, 0 ≤ d → d < P 3000 0 → L d → cv P a d = true → D (fnd P (P 3012 (P 3007 a + b)) 10 d)) (hI : inS D L S) (h : chR σ0 σ S) (hQ : ∀ σ', chR σ0 σ' (stI P op a b S) → Q none σ') : j3_tc true (d + 2) 195 [wO 10 121, wI X] σ Q := by
  have B' := B
  obtain ⟨⟨hg, -⟩, -, hR, -⟩ := B
  have hn := hg.1.1.2.1
  have h80 := hg.1.2.1.2.1
  have e27 : σ.2.2 10027 121 X = op := by rw [h.1.2.2 10027 121 rfl]; exact eo
  have e28 : σ.2.2 10028 121 X = a := by rw [h.1.2.2 10028 121 rfl]; exact ea
  have e29 : σ.2.2 10029 121 X = b := by rw [h.1.2.2 10029 121 rfl]; exact eb
  rw [e195, b195_0, e27, e28]
  refine ⟨by omega, ?_⟩
  unfold stI at hQ
  by_cases g15 : op = 15
  · rw [if_pos g15] at hQ ⊢
    have ra := hok.1 g15
    have t32 : ∀ σ', chR σ0 σ' (mkL S a) → T195 (d + 1) Q 32 [wO 10 121, wI X, wI op, wM 2] [] σ' := by
      intro σ' h'
      rw [b195_32, if_neg (by omega), b195_49, if_neg (by omega)]
      exact hQ σ' h'
    obtain ⟨h1, h2, h3, h4⟩ := h
    have t23 : ∀ v, (v = 0 ∨ v = 1) → v = (mkL S a).2.2 → T195 (d + 1) Q 23 [wO 10 121, wI X, wI op, wM 2] [wI v, wO 10 121] σ := by
      intro v hv hv2
      rw [b195_23, e28]
      refine ⟨hv, by omega, Or.inr rfl, by omega, t32 _ ⟨h1.tr (frm.I rfl (frm.A rfl frm.rf)), fun k k0 k1 => ?_, fun k k0 k1 => ?_, ?_⟩⟩
      · simp only [j3_ast, up_e (show ((10049 : Nat) == 10050) = false from rfl)]
        have : (mkL S a).1 = S.1 := by unfold mkL; split <;> rfl
        rw [this]; exact h2 k k0 k1
      · simp only [j3_ast, up_r, i_up]
        unfold mkL
        by_cases g : S.2.1 a = 0
        · rw [if_pos g]
          show _ = i_up S.2.1 a 1 k
          simp only [i_up]
          by_cases gk : k = a
          · rw [if_pos gk, if_pos gk]
          · rw [if_neg gk, if_neg gk]; exact h3 k k0 k1
        · rw [if_neg g]
          by_cases gk : k = a
          · rw [if_pos gk, gk]; exact ((hI.2.1 a).resolve_left g).symm
          · rw [if_neg gk]; exact h3 k k0 k1
      · show j3_up σ.1 10051 121 v 10051 121 = _
        rw [up_r]; exact hv2
    rw [h4, h3 a (by omega) (by omega)]
    rcases hI.2.2.1 with gf | gf
    · rw [if_pos gf]
      refine ⟨by omega, by omega, ?_⟩
      by_cases g : S.2.1 a = 0
      · rw [if_pos g, b195_20]
        exact t23 1 (Or.inr rfl) (by unfold mkL; rw [if_pos g])
      · rw [if_neg g]
        exact t23 0 (Or.inl rfl) (by unfold mkL; rw [if_neg g]; exact gf.symm)
    · rw [if_neg (by omega), b195_20]
      refine t23 1 (Or.inr rfl) ?_
      unfold mkL
      by_cases g : S.2.1 a = 0
      · rw [if_pos g]
      · rw [if_neg g]; exact gf.symm
  rw [if_neg g15] at hQ ⊢
  rw [b195_32, e28, e29]
  by_cases g20 : op = 20
  · rw [if_pos g20] at hQ ⊢
    obtain ⟨ra, rb⟩ := hok.2 (Or.inl g20)
    have hma := hg.1.2.1.2.2 a ra.1 ra.2
    have h7 : σ.2.2 10013 121 a = P 3007 a := by
      have := (hR.2.2.1 a ra.1 ra.2).1.2.2.2.2
      simp only [Int.mul_zero, Int.zero_add] at this
      rw [h.1.2.2 10013 121 rfl]; exact this
    rw [h7, wr_id (by omega) (by omega)]
    refine ⟨by omega, by omega, by omega, s193 h hI (by omega) (by omega) (fun σ' h' => ?_)⟩
    simp only [Option.toList_none, List.nil_append]
    rw [b195_49, if_neg (by omega)]
    exact hQ σ' h'
  rw [if_neg g20] at hQ ⊢
  rw [b195_49]
  by_cases g21 : op = 21
  · rw [if_pos g21] at hQ ⊢
    obtain ⟨ra, rb⟩ := hok.2 (Or.inr g21)
    exact l195 B' X0 X1 ra.1 ra.2 rb.1 rb.2 ea eb (hD g21) (P 3000 0).toNat 0 σ S (by have := hg.1.1.1; omega) (by omega) hI h hQ
  · rw [if_neg g21] at hQ ⊢
    exact hQ σ h
/-- the instructions of m -/
theorem l194i (B : bsR σ0 s P K mt D L) (m0 : 0 ≤ m) (m1 : m < P 3001 0) (hDm : D m) : ∀ (n : Nat) (i : Int) (σ : j3_S) (S : Rs), i + n = K 0 m → 0 ≤ i → inS D L S → S.1 m = 1 → chR σ0 σ S → (∀ σ' x3, chR σ0 σ' (gI P K mt m n i S) → T194 (d + 3) Q 93 [wO 10 121, wI s, wI m, wI x3] [] σ') → T194 (d + 3) Q 59 [wO 10 121, wI s, wI m, wI i] [] σ
  | 0, i, σ, S, hi, i0, hI, hr, h, hQ => by
    obtain ⟨⟨hg, hK⟩, hs, -, hk⟩ := B
    have h80 := hg.1.2.1.2.1
    have hk0 := (hk m m0 m1 hDm).1
    rw [b194_59, h.2.1 m m0 (by omega), if_neg (by omega), wr_id (z := 80 * s) (by omega) (by omega), wr_id (z := 80 * s + m) (by omega) (by omega), h.1.2.2 10026 121 rfl, hk0, if_neg (by omega)]
    exact ⟨by omega, by omega, hQ σ _ h⟩
  | n + 1, i, σ, S, hi, i0, hI, hr, h, hQ => by
    have B' := B
    obtain ⟨⟨hg, hK⟩, hs, hR, hk⟩ := B
    have h80 := hg.1.2.1.2.1
    obtain ⟨hk0, hk1⟩ := hk m m0 m1 hDm
    obtain ⟨k0, k4, k1, k2, k3⟩ := hk1 i i0 (by omega)
    obtain ⟨hl, hok⟩ := hK m m0 m1 hDm
    unfold gI at hQ
    have go : ∀ (σ1 : j3_S), inS D L (if mt m i = true then stI P (K 1 (m * 120 + i)) (K 2 (m * 120 + i)) (K 3 (m * 120 + i)) S else S) → (if mt m i = true then stI P (K 1 (m * 120 + i)) (K 2 (m * 120 + i)) (K 3 (m * 120 + i)) S else S).1 m = 1 → chR σ0 σ1 (if mt m i = true then stI P (K 1 (m * 120 + i)) (K 2 (m * 120 + i)) (K 3 (m * 120 + i)) S else S) → T194 (d + 3) Q 91 [wO 10 121, wI s, wI m, wI i] [] σ1 := by
      intro σ1 hI1 hr1 h1
      rw [b194_91, wr_id (z := i + 1) (by omega) (by omega)]
      exact l194i B' m0 m1 hDm n (i + 1) σ1 _ (by omega) (by omega) hI1 hr1 h1 hQ
    have t85 : mt m i = true → T194 (d + 3) Q 85 [wO 10 121, wI s, wI m, wI i] [] σ := by
      intro g
      rw [if_pos g] at go
      obtain ⟨q1, q2, q3, q4⟩ := hok i i0 (by omega) g
      have nI := gI_f hg hK m0 m1 hDm 1 (K 0 m - 1) S (by omega) (by omega) hI
      have n1 : inS D L (stI P (K 1 (m * 120 + i)) (K 2 (m * 120 + i)) (K 3 (m * 120 + i)) S) := by
        unfold stI
        by_cases g : K 1 (m * 120 + i) = 15
        · rw [if_pos g]; exact hI.l (q2 g)
        rw [if_neg g]
        by_cases g : K 1 (m * 120 + i) = 20
        · rw [if_pos g]; exact hI.r (q3 g)
        rw [if_neg g]
        by_cases g : K 1 (m * 120 + i) = 21
        · rw [if_pos g]
          have := hg.1.1.1
          exact inS.s (q4 g) _ 0 S (by omega) (by omega) hI
        · rw [if_neg g]; exact hI
      rw [b194_85, s160 (by omega) (by omega) m0 (by omega) i0 (by omega)]
      simp only [Option.toList_some, List.cons_append, List.nil_append]
      rw [b194_90]
      refine s195 B' (by omega) (by omega) q1 k1 k2 k3 q4 hI h (fun σ' h' => ?_)
      simp only [Option.toList_none, List.nil_append]
      exact go σ' n1 ((stI_f hg q1).1 m hr) h'
    rw [b194_59, h.2.1 m m0 (by omega), if_neg (by omega), wr_id (z := 80 * s) (by omega) (by omega), wr_id (z := 80 * s + m) (by omega) (by omega), h.1.2.2 10026 121 rfl, hk0, if_pos (by omega)]
    refine ⟨by omega, by omega, ?_⟩
    by_cases gs : s = 0
    · rw [if_pos gs, wr_id (z := 120 * m) (by omega) (by omega), wr_id (z := 120 * m + i) (by omega) (by omega), h.1.2.2 10035 121 rfl]
      refine ⟨by omega, ?_⟩
      by_cases g : mt m i = true
      · rw [if_neg (by rw [k0 gs, g]; decide)]
        exact t85 g
      · rw [if_pos ((k0 gs).mpr (by simpa using g))]
        rw [if_neg g] at go
        exact go σ hI hr h
    · rw [if_neg gs]
      exact t85 (k4 gs)
theorem l194m (B : bsR σ0 s P K mt D L) : ∀ (n : Nat) (m : Int) (w3 : j3_W) (σ : j3_S) (S : Rs), m + n = P 3001 0 → 0 ≤ m → inS D L S → chR σ0 σ S → (∀ σ' x w, chR σ0 σ' (gM P K mt n m S) → T194 (d + 3) Q 43 [wO 10 121, wI s, wI x, w] [] σ') → T194 (d + 3) Q 51 [wO 10 121, wI s, wI m, w3] [] σ
  | 0, m, w3, σ, S, hm, m0, hI, h, hQ => by
    rw [b194_51, h.1.2.2 10018 121 rfl, B.2.2.1.2.1, if_neg (by omega)]
    exact ⟨by omega, hQ σ _ _ h⟩
  | n + 1, m, w3, σ, S, hm, m0, hI, h, hQ => by
    have B' := B
    obtain ⟨⟨hg, hK⟩, hs, hR, hk⟩ := B
    have h80 := hg.1.2.1.2.1
    unfold gM at hQ
    rw [b194_51, h.1.2.2 10018 121 rfl, hR.2.1, if_pos (by omega)]
    refine ⟨by omega, ?_⟩
    have go : ∀ (σ1 : j3_S) (x3 : Int), inS D L (if S.1 m = 1 then gI P K mt m (K 0 m).toNat 0 S else S) → chR σ0 σ1 (if S.1 m = 1 then gI P K mt m (K 0 m).toNat 0 S else S) → T194 (d + 3) Q 93 [wO 10 121, wI s, wI m, wI x3] [] σ1 := by
      intro σ1 x3 hI1 h1
      rw [b194_93, wr_id (by omega) (by omega)]
      exact l194m B' n (m + 1) _ σ1 _ (by omega) (by omega) hI1 h1 hQ
    rcases hI.1 m with g | g
    · rw [if_neg (by omega)] at go
      rw [b194_59, h.2.1 m m0 (by omega), if_pos g]
      exact ⟨by omega, go σ _ hI h⟩
    · rw [if_pos g] at go
      have hD := hI.2.2.2.1 m g
      have hl := (hK m m0 (by omega) hD).1
      exact l194i B' m0 (by omega) hD (K 0 m).toNat 0 σ S (by omega) (by omega) hI g h (fun σ' x3 h' => go σ' x3 (gI_f hg hK m0 (by omega) hD (K 0 m).toNat 0 S (by omega) (by omega) hI).2 h')
theorem l194r (B : bsR σ0 s P K mt D L) : ∀ (n : Nat) (x : Int) (w3 : j3_W) (σ : j3_S) (S : Rs), inS D L S → (rds P K mt n S).2.2 = 0 → chR σ0 σ S → (∀ σ', chR σ0 σ' (rds P K mt n S) → Q none σ') → T194 (d + 3) Q 43 [wO 10 121, wI s, wI x, w3] [] σ
  | 0, x, w3, σ, S, hI, he, h, hQ => by
    unfold rds at he hQ
    rw [b194_43, h.2.2.2, if_pos he]
    exact hQ σ h
  | n + 1, x, w3, σ, S, hI, he, h, hQ => by
    unfold rds at he hQ
    rw [b194_43, h.2.2.2]
    by_cases g : S.2.2 = 0
    · rw [if_pos g] at hQ ⊢
      exact hQ σ h
    · rw [if_neg g] at he hQ ⊢
      refine ⟨Or.inl rfl, ?_⟩
      have hg := B.1.1
      have hM := hg.1.2.1.1
      refine l194m B (P 3001 0).toNat 0 _ _ (S.1, S.2.1, 0) (by omega) (by omega) ⟨hI.1, hI.2.1, Or.inl rfl, hI.2.2.2⟩ ⟨h.1.tr (frm.I rfl frm.rf), h.2.1, h.2.2.1, by show j3_up σ.1 10051 121 0 10051 121 = 0; exact up_r⟩ (fun σ' x w h' => ?_)
      exact l194r B n x w σ' _ (rd1_f hg B.1.2 hI).2 he h' hQ
theorem l194a : ∀ (k : Nat) (x : Int) (σ : j3_S), x + k = 80 → 0 ≤ x → frm [] [10049] σ0 σ → (∀ m, 0 ≤ m → m < x → σ.2.2 10049 121 m = 0) → (∀ σ', frm [] [10049] σ0 σ' → (∀ m, 0 ≤ m → m < 80 → σ'.2.2 10049 121 m = 0) → T194 d Q 14 [wO 10 121, wI s, wI 0, wM 2] [] σ') → T194 d Q 2 [wO 10 121, wI s, wI x, wM 2] [] σ
  | 0, x, σ, hx, x0, hf, hm, hQ => by
    rw [b194_2, if_neg (by omega)]
    exact hQ σ hf (fun m m0 m1 => hm m m0 (by omega))
  | k + 1, x, σ, hx, x0, hf, hm, hQ => by
    rw [b194_2, if_pos (by omega), wr_id (by omega) (by omega)]
    refine ⟨Or.inl rfl, by omega, l194a k (x + 1) _ (by omega) (by omega) (hf.tr (frm.A rfl frm.rf)) (fun m m0 m1 => ?_) hQ⟩
    simp only [j3_ast, up_r, i_up]
    by_cases g : m = x
    · rw [if_pos g]
    · rw [if_neg g]; exact hm m m0 (by omega)
theorem l194b : ∀ (k : Nat) (x : Int) (σ : j3_S), x + k = 10 → 0 ≤ x → frm [] [10050] σ0 σ → (∀ m, 0 ≤ m → m < x → σ.2.2 10050 121 m = 0) → (∀ σ', frm [] [10050] σ0 σ' → (∀ m, 0 ≤ m → m < 10 → σ'.2.2 10050 121 m = 0) → T194 d Q 26 [wO 10 121, wI s, wI 0, wM 2] [] σ') → T194 d Q 14 [wO 10 121, wI s, wI x, wM 2] [] σ
  | 0, x, σ, hx, x0, hf, hm, hQ => by
    rw [b194_14, if_neg (by omega)]
    exact hQ σ hf (fun m m0 m1 => hm m m0 (by omega))
  | k + 1, x, σ, hx, x0, hf, hm, hQ => by
    rw [b194_14, if_pos (by omega), wr_id (by omega) (by omega)]
    refine ⟨Or.inl rfl, by omega, l194b k (x + 1) _ (by omega) (by omega) (hf.tr (frm.A rfl frm.rf)) (fun m m0 m1 => ?_) hQ⟩
    simp only [j3_ast, up_r, i_up]
    by_cases g : m = x
    · rw [if_pos g]
    · rw [if_neg g]; exact hm m m0 (by omega)
theorem l194e (n0 : 0 ≤ n) (n6 : n ≤ 6) (hn : σ0.1 10045 121 = n) (hE : ∀ e, 0 ≤ e → e < n → σ0.2.2 10046 121 e = E e ∧ 0 ≤ E e ∧ E e < 80) : ∀ (k x : Nat) (σ : j3_S), (x : Int) + k = n → frm [] [10049] σ0 σ → (∀ m, 0 ≤ m → m < 80 → σ.2.2 10049 121 m = enF E x m) → (∀ σ', frm [] [10049] σ0 σ' → (∀ m, 0 ≤ m → m < 80 → σ'.2.2 10049 121 m = enF E n.toNat m) → T194 d Q 43 [wO 10 121, wI s, wI n, wM 2] [] (j3_up σ'.1 10051 121 1, σ'.2.1, σ'.2.2)) → T194 d Q 26 [wO 10 121, wI s, wI x, wM 2] [] σ
  | 0, x, σ, hx, hf, hm, hQ => by
    rw [b194_26, hf.2.1 10045 121 rfl, hn, if_neg (by omega), show (x : Int) = n by omega]
    refine ⟨Or.inr rfl, hQ σ hf ?_⟩
    rw [show n.toNat = x by omega]
    exact hm
  | k + 1, x, σ, hx, hf, hm, hQ => by
    obtain ⟨e1, e2, e3⟩ := hE x (by omega) (by omega)
    have e9 : σ.2.2 10046 121 x = E x := by rw [hf.2.2 10046 121 rfl]; exact e1
    rw [b194_26, hf.2.1 10045 121 rfl, hn, if_pos (by omega), e9, wr_id (by omega) (by omega)]
    refine ⟨by omega, Or.inr rfl, by omega, ?_⟩
    refine l194e n0 n6 hn hE k (x + 1) _ (by omega) (hf.tr (frm.A rfl frm.rf)) (fun m m0 m1 => ?_) hQ
    simp only [j3_ast, up_r]
    show i_up _ (E x) 1 m = i_up (enF E x) (E x) 1 m
    simp only [i_up]
    by_cases g : m = E x
    · rw [if_pos g, if_pos g]
    · rw [if_neg g, if_neg g]; exact hm m m0 m1
theorem s194 (B : bsR σ s P K mt D L) (n0 : 0 ≤ n) (n6 : n ≤ 6) (hn : σ.1 10045 121 = n) (hE : ∀ e, 0 ≤ e → e < n → σ.2.2 10046 121 e = E e ∧ 0 ≤ E e ∧ E e < P 3001 0 ∧ D (E e)) (hQ : ∀ σ', frm [10051] [10049, 10050] σ σ' → (∀ m, 0 ≤ m → m < 80 → σ'.2.2 10049 121 m = (rds P K mt 100 (S0f E n)).1 m) → (∀ c, 0 ≤ c → c < 10 → σ'.2.2 10050 121 c = (rds P K mt 100 (S0f E n)).2.1 c) → Q none σ') : j3_tc true (d + 4) 194 [wO 10 121, wI s] σ Q := by
  have hg := B.1.1
  have h80 := hg.1.2.1.2.1
  rw [e194, b194_0]
  refine l194a (σ0 := σ) 80 0 σ (by omega) (by omega) frm.rf (fun m m0 m1 => absurd m1 (by omega)) (fun σ1 f1 z1 => ?_)
  refine l194b (σ0 := σ1) 10 0 σ1 (by omega) (by omega) frm.rf (fun m m0 m1 => absurd m1 (by omega)) (fun σ2 f2 z2 => ?_)
  have F2 : frm [10051] [10049, 10050] σ σ2 := (f1.wd (fun _ _ => rfl) (sub_el rfl)).tr (f2.wd (fun _ _ => rfl) (sub_el rfl))
  refine l194e (σ0 := σ2) (E := E) (n := n) n0 n6 (by rw [F2.2.1 10045 121 rfl]; exact hn) (fun e e0 e1 => ?_) n.toNat 0 σ2 (by omega) frm.rf (fun m m0 m1 => by rw [f2.2.2 10049 121 rfl]; exact z1 m m0 m1) (fun σ3 f3 z3 => ?_)
  · rw [F2.2.2 10046 121 rfl]
    obtain ⟨q1, q2, q3, -⟩ := hE e e0 e1
    exact ⟨q1, q2, by omega⟩
  have hEs : ∀ e, 0 ≤ e → e < n → D (E e) := fun e e0 e1 => (hE e e0 e1).2.2.2
  have F3 : frm [10051] [10049, 10050] σ (j3_up σ3.1 10051 121 1, σ3.2.1, σ3.2.2) := F2.tr ((f3.wd (fun _ _ => rfl) (sub_el rfl)).tr (frm.I rfl frm.rf))
  generalize hσ4 : ((j3_up σ3.1 10051 121 1, σ3.2.1, σ3.2.2) : j3_S) = σ4 at F3
  have B4 : bsR σ4 s P K mt D L := by
    refine ⟨B.1, B.2.1, B.2.2.1.fr F3 (fun e e0 e1 => by simp; omega), fun m m0 m1 hD => ?_⟩
    rw [F3.2.2 10026 121 rfl, F3.2.2 10035 121 rfl, F3.2.2 10027 121 rfl, F3.2.2 10028 121 rfl, F3.2.2 10029 121 rfl]
    exact B.2.2.2 m m0 m1 hD
  refine l194r (σ0 := σ4) (S := S0f E n) B4 100 _ _ σ4 (S0_i hEs) (S0_e hg B.1.2 hEs) ⟨frm.rf, fun m m0 m1 => ?_, fun c c0 c1 => ?_, ?_⟩ (fun σ5 h5 => hQ σ5 (F3.tr h5.1) h5.2.1 h5.2.2.1)
  · rw [← hσ4]; exact z3 m m0 m1
  · rw [← hσ4]
    show σ3.2.2 10050 121 c = 0
    rw [f3.2.2 10050 121 rfl]; exact z2 c c0 c1
  · rw [← hσ4]; show j3_up σ3.1 10051 121 1 10051 121 = 1; exact up_r
end RRC
