/-! reaching, in the class -/
def chC (σ0 σ : j3_S) (S : Rs) : Prop := frm [4004] [4000, 4001] σ0 σ ∧ (∀ m, 0 ≤ m → m < 80 → σ.2.2 4000 92 m = S.1 m) ∧ (∀ c, 0 ≤ c → c < 10 → σ.2.2 4001 92 c = S.2.1 c) ∧ σ.1 4004 92 = S.2.2
def mnC (σ : j3_S) (P : Pg) : Prop := ∀ d t, 0 ≤ d → d < P 3000 0 → 0 ≤ t → t < P 3001 0 → σ.2.2 4002 92 (d * 80 + t) = if cv P (P 3011 t) d = true then fnd P (P 3012 t) 10 d else -1
def kdC (σ : j3_S) (oc : Nat) (P K : Pg) (mt : Int → Int → Bool) (D : Int → Prop) : Prop := ∀ m, 0 ≤ m → m < P 3001 0 → D m → σ.2.2 0 oc m = K 0 m ∧ ∀ i, 0 ≤ i → i < K 0 m → (σ.2.2 4 oc (m * 120 + i) < 0 ↔ mt m i = false) ∧ σ.2.2 1 oc (m * 120 + i) = K 1 (m * 120 + i) ∧ σ.2.2 2 oc (m * 120 + i) = K 2 (m * 120 + i) ∧ σ.2.2 3 oc (m * 120 + i) = K 3 (m * 120 + i)
def bsC (σ : j3_S) (o oc : Nat) (P K : Pg) (mt : Int → Int → Bool) (D L : Int → Prop) : Prop := (good P ∧ okK P K mt D L) ∧ (¬ o = 0 ∧ σ.2.1 2 = o ∧ CP σ o P) ∧ mnC σ P ∧ kdC σ oc P K mt D
section CRC
variable {σ0 σ : j3_S} {P K : Pg} {mt : Int → Int → Bool} {D L : Int → Prop} {S : Rs} {d o oc : Nat} {Q : j3_P} {m c a b : Int}
theorem s60r (h : chC σ0 σ S) (m0 : 0 ≤ m) (m1 : m < 80) (hQ : ∀ σ', chC σ0 σ' (mkR S m) → Q none σ') : j3_tc false (d + 1) 60 [wO 4 92, wA 4000 92, wI m] σ Q := by
  obtain ⟨h1, h2, h3, h4⟩ := h
  have e : ((lt_fq 4000 == 0) && j3_g false 4000) = true := rfl
  have en : (lt_fn 4000 : Int) = 80 := rfl
  rw [e60, b60_0, e, cond_true, cond_true, en, h2 m m0 m1]
  unfold mkR at hQ
  by_cases g : S.1 m = 0
  · rw [if_pos g] at hQ ⊢
    refine ⟨by omega, by omega, Or.inr rfl, hQ _ ⟨h1.tr (frm.I rfl (frm.A rfl frm.rf)), fun k k0 k1 => ?_, fun c c0 c1 => ?_, ?_⟩⟩
    · simp only [j3_ast, up_r]
      show i_up _ m 1 k = i_up S.1 m 1 k
      simp only [i_up]
      by_cases gk : k = m
      · rw [if_pos gk, if_pos gk]
      · rw [if_neg gk, if_neg gk]; exact h2 k k0 k1
    · simp only [j3_ast, up_e (show ((4001 : Nat) == 4000) = false from rfl)]
      exact h3 c c0 c1
    · simp only [up_r]
  · rw [if_neg g] at hQ ⊢
    exact ⟨by omega, hQ σ ⟨h1, h2, h3, h4⟩⟩
theorem s60l (h : chC σ0 σ S) (c0 : 0 ≤ c) (c1 : c < 10) (hQ : ∀ σ', chC σ0 σ' (mkL S c) → Q none σ') : j3_tc false (d + 1) 60 [wO 4 92, wA 4001 92, wI c] σ Q := by
  obtain ⟨h1, h2, h3, h4⟩ := h
  have e : ((lt_fq 4001 == 0) && j3_g false 4001) = true := rfl
  have en : (lt_fn 4001 : Int) = 10 := rfl
  rw [e60, b60_0, e, cond_true, cond_true, en, h3 c c0 c1]
  unfold mkL at hQ
  by_cases g : S.2.1 c = 0
  · rw [if_pos g] at hQ ⊢
    refine ⟨by omega, by omega, Or.inr rfl, hQ _ ⟨h1.tr (frm.I rfl (frm.A rfl frm.rf)), fun k k0 k1 => ?_, fun k k0 k1 => ?_, ?_⟩⟩
    · simp only [j3_ast, up_e (show ((4000 : Nat) == 4001) = false from rfl)]
      exact h2 k k0 k1
    · simp only [j3_ast, up_r]
      show i_up _ c 1 k = i_up S.2.1 c 1 k
      simp only [i_up]
      by_cases gk : k = c
      · rw [if_pos gk, if_pos gk]
      · rw [if_neg gk, if_neg gk]; exact h3 k k0 k1
    · simp only [up_r]
  · rw [if_neg g] at hQ ⊢
    exact ⟨by omega, hQ σ ⟨h1, h2, h3, h4⟩⟩
theorem l61 (B : bsC σ0 o oc P K mt D L) (a0 : 0 ≤ a) (a1 : a < P 3000 0) (b0 : 0 ≤ b) (b1 : b < P 3006 a) : ∀ (n : Nat) (x : Int) (w3 : j3_W) (σ : j3_S) (S : Rs), x + n = P 3000 0 → 0 ≤ x → chC σ0 σ S → (∀ σ', chC σ0 σ' (mkS P a (P 3007 a + b) n x S) → Q none σ') → T61 (d + 1) Q 2 [wO 4 92, wI (P 3007 a + b), wI x, w3] [] σ
  | 0, x, w3, σ, S, hx, x0, h, hQ => by
    obtain ⟨-, ⟨ho, hp, hC⟩, -⟩ := B
    rw [b61_2, h.1.1, hp, h.1.2.1 3000 o rfl, hC.1, if_neg (by omega)]
    exact ⟨ho, hQ σ h⟩
  | n + 1, x, w3, σ, S, hx, x0, h, hQ => by
    have B' := B
    obtain ⟨⟨hg, -⟩, ⟨ho, hp, hC⟩, hm, -⟩ := B
    have hn := hg.1.1.2.1
    have h80 := hg.1.2.1.2.1
    have hma := hg.1.2.1.2.2 a a0 a1
    have own := (hg.2.1 a a0 a1).2 b b0 b1
    have e2 : σ.2.2 4002 92 (x * 80 + (P 3007 a + b)) = if cv P a x = true then fnd P (P 3012 (P 3007 a + b)) 10 x else -1 := by
      rw [h.1.2.2 4002 92 rfl, hm x (P 3007 a + b) x0 (by omega) (by omega) (by omega), own]
    rw [b61_2, h.1.1, hp, h.1.2.1 3000 o rfl, hC.1, if_pos (by omega), wr_id (z := x * 80) (by omega) (by omega), wr_id (z := x * 80 + (P 3007 a + b)) (by omega) (by omega), h.2.2.1 x x0 (by omega), e2]
    refine ⟨ho, by omega, by omega, ?_⟩
    unfold mkS at hQ
    have go : ∀ (x3 : Int) (σ1 : j3_S), chC σ0 σ1 (if S.2.1 x = 1 ∧ cv P a x = true then mkR S (fnd P (P 3012 (P 3007 a + b)) 10 x) else S) → T61 (d + 1) Q 30 [wO 4 92, wI (P 3007 a + b), wI x, wI x3] [] σ1 := by
      intro x3 σ1 h1
      rw [b61_30, wr_id (z := x + 1) (by omega) (by omega)]
      exact l61 B' a0 a1 b0 b1 n (x + 1) _ σ1 _ (by omega) (by omega) h1 hQ
    by_cases gl : S.2.1 x = 1
    · rw [if_pos gl]
      by_cases gc : cv P a x = true
      · have fr := fnd_r hg a0 a1 b0 b1 (c := x) (by omega) gc
        rw [if_pos gc, if_neg (by omega)]
        refine s60r h (by omega) (by omega) (fun σ' h' => ?_)
        simp only [Option.toList_none, List.nil_append]
        exact go _ σ' (by rw [if_pos ⟨gl, gc⟩]; exact h')
      · rw [if_neg gc, if_pos rfl]
        exact go _ σ (by rw [if_neg (fun z => gc z.2)]; exact h)
    · rw [if_neg gl]
      exact go _ σ (by rw [if_neg (fun z => gl z.1)]; exact h)
theorem l59c (B : bsC σ0 o oc P K mt D L) (m0 : 0 ≤ m) (m1 : m < P 3001 0) (hD : D m) : ∀ (n : Nat) (i : Int) (w5 : j3_W) (σ : j3_S) (S : Rs), i + n = K 0 m → 0 ≤ i → chC σ0 σ S → (∀ σ', chC σ0 σ' (gI P K mt m n i S) → Q none σ') → T59 (d + 2) Q 6 [wO 4 92, wO 0 oc, wI m, wI (m * 120), wI (m * 120 + i), w5] [] σ
  | 0, i, w5, σ, S, hi, i0, h, hQ => by
    obtain ⟨⟨hg, hK⟩, -, -, hk⟩ := B
    have h80 := hg.1.2.1.2.1
    have hk0 := (hk m m0 m1 hD).1
    have hl := (hK m m0 m1 hD).1
    rw [b59_6, h.1.2.2 0 oc rfl, hk0, wr_id (z := m * 120 + K 0 m) (by omega) (by omega), if_neg (by omega)]
    exact ⟨by omega, hQ σ h⟩
  | n + 1, i, w5, σ, S, hi, i0, h, hQ => by
    have B' := B
    obtain ⟨⟨hg, hK⟩, ⟨ho, hp, hC⟩, -, hk⟩ := B
    have h80 := hg.1.2.1.2.1
    have h10 := hg.1.1.2.1
    obtain ⟨hk0, hk1⟩ := hk m m0 m1 hD
    obtain ⟨k4, k1, k2, k3⟩ := hk1 i i0 (by omega)
    have hl := (hK m m0 m1 hD).1
    have e1 : σ.2.2 1 oc (m * 120 + i) = K 1 (m * 120 + i) := by rw [h.1.2.2 1 oc rfl]; exact k1
    have e2 : σ.2.2 2 oc (m * 120 + i) = K 2 (m * 120 + i) := by rw [h.1.2.2 2 oc rfl]; exact k2
    have e3 : σ.2.2 3 oc (m * 120 + i) = K 3 (m * 120 + i) := by rw [h.1.2.2 3 oc rfl]; exact k3
    have e4 : σ.2.2 4 oc (m * 120 + i) < 0 ↔ mt m i = false := by rw [h.1.2.2 4 oc rfl]; exact k4
    unfold gI at hQ
    have go : ∀ (w5 : j3_W) (σ1 : j3_S), chC σ0 σ1 (if mt m i = true then stI P (K 1 (m * 120 + i)) (K 2 (m * 120 + i)) (K 3 (m * 120 + i)) S else S) → T59 (d + 2) Q 64 [wO 4 92, wO 0 oc, wI m, wI (m * 120), wI (m * 120 + i), w5] [] σ1 := by
      intro w5 σ1 h1
      rw [b59_64, wr_id (z := m * 120 + i + 1) (by omega) (by omega), show m * 120 + i + 1 = m * 120 + (i + 1) by omega]
      exact l59c B' m0 m1 hD n (i + 1) w5 σ1 _ (by omega) (by omega) h1 hQ
    rw [b59_6, h.1.2.2 0 oc rfl, hk0, wr_id (z := m * 120 + K 0 m) (by omega) (by omega), if_pos (by omega), e1, e2]
    refine ⟨by omega, by omega, ?_⟩
    by_cases g : mt m i = true
    · rw [if_neg (by rw [e4, g]; decide)]
      refine ⟨by omega, by omega, ?_⟩
      obtain ⟨⟨q1, q2⟩, -⟩ := (hK m m0 m1 hD).2 i i0 (by omega) g
      rw [if_pos g] at go
      unfold stI at go
      by_cases g15 : K 1 (m * 120 + i) = 15
      · rw [if_pos g15] at go ⊢
        have := q1 g15
        rw [b59_30]
        refine s60l h (by omega) (by omega) (fun σ' h' => ?_)
        simp only [Option.toList_none, List.nil_append]
        rw [b59_35]
        exact go _ σ' h'
      rw [if_neg g15] at go ⊢
      by_cases g20 : K 1 (m * 120 + i) = 20
      · rw [if_pos g20] at go ⊢
        obtain ⟨r1, r2⟩ := q2 (Or.inl g20)
        have hma := hg.1.2.1.2.2 _ r1.1 r1.2
        rw [b59_36, h.1.1, hp, h.1.2.2 3007 o rfl, (hC.2.2.1 _ r1.1 r1.2).1.2.2.2.2, e3, wr_id (by omega) (by omega)]
        refine ⟨ho, by omega, by omega, s60r h (by omega) (by omega) (fun σ' h' => ?_)⟩
        simp only [Option.toList_none, List.nil_append]
        rw [b59_50]
        exact go _ σ' h'
      rw [if_neg g20] at go ⊢
      by_cases g21 : K 1 (m * 120 + i) = 21
      · rw [if_pos g21] at go ⊢
        obtain ⟨r1, r2⟩ := q2 (Or.inr g21)
        have hma := hg.1.2.1.2.2 _ r1.1 r1.2
        rw [b59_51, h.1.1, hp, h.1.2.2 3007 o rfl, (hC.2.2.1 _ r1.1 r1.2).1.2.2.2.2, e3, wr_id (by omega) (by omega)]
        refine ⟨ho, by omega, by omega, ?_⟩
        rw [e61, b61_0]
        refine l61 B' r1.1 r1.2 r2.1 r2.2 (P 3000 0).toNat 0 _ σ S (by have := hg.1.1.1; omega) (by omega) h (fun σ' h' => ?_)
        simp only [Option.toList_none, List.nil_append]
        rw [b59_63]
        exact go _ σ' h'
      · rw [if_neg g21] at go ⊢
        exact go _ σ h
    · have gf : mt m i = false := by simpa using g
      rw [if_pos (e4.mpr gf)]
      exact go _ σ (by rw [if_neg g]; exact h)
theorem l57m (B : bsC σ0 o oc P K mt D L) {y4 y5 : Int} {o1 : Nat} : ∀ (n : Nat) (m : Int) (σ : j3_S) (S : Rs), m + n = P 3001 0 → 0 ≤ m → inS D L S → chC σ0 σ S → (∀ σ', chC σ0 σ' (gM P K mt n m S) → T57 (d + 3) Q 32 [wO 4 92, wO 3 o1, wO 0 oc, wA 9008 0, wI y4, wI (wr (y5 + 1)), wI (P 3001 0)] [] σ') → T57 (d + 3) Q 43 [wO 4 92, wO 3 o1, wO 0 oc, wA 9008 0, wI y4, wI y5, wI m] [] σ
  | 0, m, σ, S, hm, m0, hI, h, hQ => by
    obtain ⟨-, ⟨ho, hp, hC⟩, -⟩ := B
    rw [b57_43, h.1.1, hp, h.1.2.1 3001 o rfl, hC.2.1, if_neg (by omega), show m = P 3001 0 by omega]
    exact ⟨ho, hQ σ h⟩
  | n + 1, m, σ, S, hm, m0, hI, h, hQ => by
    have B' := B
    obtain ⟨⟨hg, hK⟩, ⟨ho, hp, hC⟩, -⟩ := B
    have h80 := hg.1.2.1.2.1
    unfold gM at hQ
    rw [b57_43, h.1.1, hp, h.1.2.1 3001 o rfl, hC.2.1, if_pos (by omega), h.2.1 m m0 (by omega)]
    refine ⟨ho, by omega, ?_⟩
    have go : ∀ (σ1 : j3_S), inS D L (if S.1 m = 1 then gI P K mt m (K 0 m).toNat 0 S else S) → chC σ0 σ1 (if S.1 m = 1 then gI P K mt m (K 0 m).toNat 0 S else S) → T57 (d + 3) Q 58 [wO 4 92, wO 3 o1, wO 0 oc, wA 9008 0, wI y4, wI y5, wI m] [] σ1 := by
      intro σ1 hI1 h1
      rw [b57_58, wr_id (by omega) (by omega)]
      exact l57m B' n (m + 1) σ1 _ (by omega) (by omega) hI1 h1 hQ
    by_cases g : S.1 m = 1
    · have hD := hI.2.2.2.1 m g
      have hl := (hK m m0 (by omega) hD).1
      rw [if_pos g] at go ⊢
      rw [e59, b59_0, wr_id (by omega) (by omega), show wI (m * 120) = wI (m * 120) from rfl]
      have := l59c (d := d) (Q := fun r σ1 => T57 (d + 3) Q 58 [wO 4 92, wO 3 o1, wO 0 oc, wA 9008 0, wI y4, wI y5, wI m] (r.toList ++ []) σ1) B' m0 (by omega) hD (K 0 m).toNat 0 (wM 2) σ S (by omega) (by omega) h (fun σ' h' => by
        simp only [Option.toList_none, List.nil_append]
        exact go σ' (gI_f hg hK m0 (by omega) hD (K 0 m).toNat 0 S (by omega) (by omega) hI).2 h')
      rw [show m * 120 + 0 = m * 120 by omega] at this
      exact this
    · rw [if_neg g] at go ⊢
      exact go σ hI h
theorem l57r (B : bsC σ0 o oc P K mt D L) {y4 : Int} {o1 : Nat} : ∀ (n : Nat) (y5 : Int) (w6 : j3_W) (σ : j3_S) (S : Rs), 0 ≤ y5 → y5 + n < 1000000 → inS D L S → (rds P K mt n S).2.2 = 0 → chC σ0 σ S → (∀ σ', chC σ0 σ' (rds P K mt n S) → Q none σ') → T57 (d + 3) Q 32 [wO 4 92, wO 3 o1, wO 0 oc, wA 9008 0, wI y4, wI y5, w6] [] σ
  | 0, y5, w6, σ, S, y0, hy, hI, he, h, hQ => by
    unfold rds at he hQ
    rw [b57_32, if_pos (by omega), h.2.2.2, if_pos he]
    exact hQ σ h
  | n + 1, y5, w6, σ, S, y0, hy, hI, he, h, hQ => by
    unfold rds at he hQ
    rw [b57_32, if_pos (by omega), h.2.2.2]
    by_cases g : S.2.2 = 0
    · rw [if_pos g] at hQ ⊢
      exact hQ σ h
    · rw [if_neg g] at he hQ ⊢
      refine ⟨Or.inl rfl, ?_⟩
      have hg := B.1.1
      have hM := hg.1.2.1.1
      refine l57m B (P 3001 0).toNat 0 _ (S.1, S.2.1, 0) (by omega) (by omega) ⟨hI.1, hI.2.1, Or.inl rfl, hI.2.2.2⟩ ⟨h.1.tr (frm.I rfl frm.rf), h.2.1, h.2.2.1, by show j3_up σ.1 4004 92 0 4004 92 = 0; exact up_r⟩ (fun σ' h' => ?_)
      rw [wr_id (by omega) (by omega)]
      exact l57r B n (y5 + 1) _ σ' _ (by omega) (by omega) (rd1_f hg B.1.2 hI).2 he h' hQ
/-- what each class takes for a SEND of each method -/
theorem l58 {P : Pg} (hg : good P) (ho : ¬ o = 0) (hp : σ0.2.1 2 = o) (hC : CP σ0 o P) : ∀ (n : Nat) (x1 : Int) (w2 : j3_W) (σ : j3_S), x1 + n = P 3000 0 → 0 ≤ x1 → frm [] [4002] σ0 σ → (∀ d t, 0 ≤ d → d < x1 → 0 ≤ t → t < P 3001 0 → σ.2.2 4002 92 (d * 80 + t) = if cv P (P 3011 t) d = true then fnd P (P 3012 t) 10 d else -1) → (∀ σ', frm [] [4002] σ0 σ' → mnC σ' P → Q none σ') → T58 (d + 2) Q 2 [wO 4 92, wI x1, w2] [] σ
  | 0, x1, w2, σ, hx, x0, hf, hm, hQ => by
    rw [b58_2, hf.1, hp, hf.2.1 3000 o rfl, hC.1, if_neg (by omega)]
    exact ⟨ho, hQ σ hf (fun d t d0 d1 t0 t1 => hm d t d0 (by omega) t0 t1)⟩
  | n + 1, x1, w2, σ, hx, x0, hf, hm, hQ => by
    have hn := hg.1.1.2.1
    have h80 := hg.1.2.1.2.1
    have inner : ∀ (k : Nat) (x2 : Int) (σ : j3_S), x2 + k = P 3001 0 → 0 ≤ x2 → frm [] [4002] σ0 σ → (∀ d t, 0 ≤ d → 0 ≤ t → t < P 3001 0 → (d < x1 ∨ (d = x1 ∧ t < x2)) → σ.2.2 4002 92 (d * 80 + t) = if cv P (P 3011 t) d = true then fnd P (P 3012 t) 10 d else -1) → T58 (d + 2) Q 9 [wO 4 92, wI x1, wI x2] [] σ := by
      intro k
      induction k with
      | zero =>
        intro x2 σ hk k0 hf hm
        rw [b58_9, hf.1, hp, hf.2.1 3001 o rfl, hC.2.1, if_neg (by omega), wr_id (by omega) (by omega)]
        exact ⟨ho, l58 hg ho hp hC n (x1 + 1) _ σ (by omega) (by omega) hf (fun d t d0 d1 t0 t1 => hm d t d0 t0 t1 (by omega)) hQ⟩
      | succ k ih =>
        intro x2 σ hk k0 hf hm
        have hC' : CP σ o P := hC.fr hf ⟨rfl, rfl⟩ (la_ok rfl)
        have hw := (hg.1.2.2.2 x2 k0 (by omega)).1
        have go : ∀ v, v = (if cv P (P 3011 x2) x1 = true then fnd P (P 3012 x2) 10 x1 else -1) → T58 (d + 2) Q 38 [wO 4 92, wI x1, wI x2] [wI v, wI (x1 * 80 + x2), wA 4002 92] σ := by
          intro v hv
          rw [b58_38, wr_id (by omega) (by omega)]
          refine ⟨by omega, ih (x2 + 1) _ (by omega) (by omega) (hf.tr (frm.A rfl frm.rf)) (fun d t d0 t0 t1 hdt => ?_)⟩
          simp only [j3_ast, up_r, i_up]
          by_cases g : d * 80 + t = x1 * 80 + x2
          · have e1 : d = x1 := by omega
            have e2 : t = x2 := by omega
            rw [if_pos g, e1, e2]; exact hv
          · rw [if_neg g]
            exact hm d t d0 t0 t1 (by omega)
        rw [b58_9, hf.1, hp, hf.2.1 3001 o rfl, hC.2.1, if_pos (by omega), (hC'.2.2.2 x2 k0 (by omega)).1.1, s48 hC' hg.1.1 (by omega) (by omega), wr_id (z := x1 * 80) (by omega) (by omega), wr_id (z := x1 * 80 + x2) (by omega) (by omega)]
        refine ⟨ho, ho, ho, by omega, ?_⟩
        simp only [Option.toList_some, List.cons_append, List.nil_append]
        rw [b58_30, hf.1, hp]
        by_cases g : cv P (P 3011 x2) x1 = true
        · have g' : cov P (P 3011 x2) 10 x1 = true := g
          rw [g', if_neg (show ¬ b2i true = 0 by decide), s49 hC' hg.1.1 hg.1.2.1 k0 (by omega) (by omega) (by omega)]
          refine ⟨ho, ?_⟩
          simp only [Option.toList_some, List.cons_append, List.nil_append]
          rw [b58_36]
          exact go _ (by rw [if_pos g])
        · have g' : cov P (P 3011 x2) 10 x1 = false := by simpa [cv] using g
          rw [g', if_pos (show b2i false = 0 from rfl)]
          exact go _ (by rw [if_neg g])
    rw [b58_2, hf.1, hp, hf.2.1 3000 o rfl, hC.1, if_pos (by omega)]
    exact ⟨ho, inner (P 3001 0).toNat 0 σ (by have := hg.1.2.1.1; omega) (by omega) hf (fun d t d0 t0 t1 hdt => hm d t d0 (by omega) t0 t1)⟩
end CRC
