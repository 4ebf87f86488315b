/-! the class writes the container -/
section COUT
variable {σ σ' σ0 : j3_S} {P A : Pg} {o d : Nat} {x t i n k v op a b : Int} {Q : j3_P} {L M : List Int}
theorem WC.cp (h : WC σ0 σ L) (hC : CP σ0 o A) : CP σ o A := hC.fr h.1 ⟨rfl, rfl⟩ ⟨fun e he => by simp; omega, fun e e0 e1 => by simp; omega⟩
theorem l125c (hW : WFp A) (hC0 : CP σ0 o A) (t0 : 0 ≤ t) (t1 : t < A 3001 0) : ∀ (n : Nat) (i : Int) (σ : j3_S) (L : List Int), i + n = A 0 t → 0 ≤ i → WC σ0 σ L → L.length + (codL A t n i).length ≤ 48943 → (∀ σ', WC σ0 σ' (L ++ codL A t n i) → Q none σ') → T125 (d + 2) Q 63 [wO 8 90, wO 3 o, wI t, wI (t * 120), wI (t * 120 + i)] [] σ
  | 0, i, σ, L, hi, i0, h, hl, hQ => by
    have h80 := hW.2.1.2.1
    obtain ⟨-, -, -, -, -, p6, -⟩ := hW.2.2.2 t t0 t1
    have hC := h.cp hC0
    rw [b125_63, (hC.2.2.2 t t0 t1).1.2.2.2.2.2.2, wr_id (by omega) (by omega), if_neg (by omega)]
    exact ⟨by omega, hQ σ (by rw [show codL A t 0 i = [] from rfl, List.append_nil]; exact h)⟩
  | n + 1, i, σ, L, hi, i0, h, hl, hQ => by
    have h80 := hW.2.1.2.1
    obtain ⟨-, -, -, -, -, p6, p7⟩ := hW.2.2.2 t t0 t1
    have hC := h.cp hC0
    obtain ⟨e1, e2, e3⟩ := (hC.2.2.2 t t0 t1).2.2 i i0 (by omega)
    have ok := p7 i i0 (by omega)
    have ec : codL A t (n + 1) i = insL (A 1 (t * 120 + i)) (A 2 (t * 120 + i)) (A 3 (t * 120 + i)) ++ codL A t n (i + 1) := rfl
    rw [ec, List.length_append] at hl
    rw [b125_63, (hC.2.2.2 t t0 t1).1.2.2.2.2.2.2, wr_id (by omega) (by omega), if_pos (by omega), e1, e2, e3]
    refine ⟨by omega, by omega, by omega, by omega, ?_⟩
    refine w126 h ok.1 ok.2.1 (by omega) (fun σ1 h1 => ?_)
    simp only [Option.toList_none, List.nil_append]
    rw [b125_89, wr_id (by omega) (by omega), show t * 120 + i + 1 = t * 120 + (i + 1) by omega]
    refine l125c hW hC0 t0 t1 n (i + 1) σ1 _ (by omega) (by omega) h1 (by rw [List.length_append]; omega) (fun σ2 h2 => hQ σ2 ?_)
    rw [ec, ← List.append_assoc]; exact h2
theorem l125p (hW : WFp A) (hC0 : CP σ0 o A) (t0 : 0 ≤ t) (t1 : t < A 3001 0) : ∀ (n : Nat) (p : Int) (σ : j3_S) (L : List Int), p + n = A 3015 t → 0 ≤ p → WC σ0 σ L → L.length + (parL A t n p).length + 2 + (codL A t (A 0 t).toNat 0).length ≤ 48943 → (∀ σ', WC σ0 σ' (L ++ (parL A t n p ++ (A 3017 t :: A 0 t :: codL A t (A 0 t).toNat 0))) → Q none σ') → T125 (d + 2) Q 26 [wO 8 90, wO 3 o, wI t, wI p, wM 2] [] σ
  | 0, p, σ, L, hp, p0, h, hl, hQ => by
    have h80 := hW.2.1.2.1
    obtain ⟨-, -, -, p4, -, p6, -⟩ := hW.2.2.2 t t0 t1
    have hC := h.cp hC0
    have c := (hC.2.2.2 t t0 t1).1
    rw [show (parL A t 0 p).length = 0 from rfl] at hl
    rw [b125_26, c.2.2.2.2.1, if_neg (by omega), c.2.2.2.2.2.1]
    refine ⟨by omega, by omega, ?_⟩
    refine w123 (d := d + 1) h (by omega) (fun σ1 h1 => ?_)
    have hC1 := h1.cp hC0
    simp only [Option.toList_none, List.nil_append]
    rw [b125_50, (hC1.2.2.2 t t0 t1).1.2.2.2.2.2.2]
    refine ⟨by omega, ?_⟩
    refine w123 (d := d + 1) h1 (by rw [List.length_append]; simp; omega) (fun σ2 h2 => ?_)
    simp only [Option.toList_none, List.nil_append]
    rw [b125_57, wr_id (by omega) (by omega)]
    have := l125c (d := d) (Q := Q) hW hC0 t0 t1 (A 0 t).toNat 0 σ2 (L ++ [A 3017 t] ++ [A 0 t]) (by omega) (by omega) h2 (by simp; omega) (fun σ3 h3 => hQ σ3 ?_)
    · rw [show t * 120 + 0 = t * 120 by omega] at this; exact this
    · rw [show parL A t 0 p = [] from rfl]
      simpa using h3
  | n + 1, p, σ, L, hp, p0, h, hl, hQ => by
    have h80 := hW.2.1.2.1
    obtain ⟨-, -, -, p4, -, p6, -⟩ := hW.2.2.2 t t0 t1
    have hC := h.cp hC0
    have c := (hC.2.2.2 t t0 t1).1
    have ec : parL A t (n + 1) p = A 3016 (t * 3 + p) :: parL A t n (p + 1) := rfl
    rw [ec, List.length_cons] at hl
    rw [b125_26, c.2.2.2.2.1, if_pos (by omega)]
    simp (disch := omega) only [wr_id]
    rw [(hC.2.2.2 t t0 t1).2.1 p p0 (by omega)]
    refine ⟨by omega, by omega, ?_⟩
    refine w123 (d := d + 1) h (by omega) (fun σ1 h1 => ?_)
    simp only [Option.toList_none, List.nil_append]
    rw [b125_42, wr_id (by omega) (by omega)]
    refine l125p hW hC0 t0 t1 n (p + 1) σ1 _ (by omega) (by omega) h1 (by rw [List.length_append]; simp; omega) (fun σ2 h2 => hQ σ2 ?_)
    rw [ec]; simpa using h2
theorem w125 (hW : WFp A) (hC0 : CP σ0 o A) (t0 : 0 ≤ t) (t1 : t < A 3001 0) (h : WC σ0 σ L) (hl : L.length + (metL A t).length ≤ 48943) (hQ : ∀ σ', WC σ0 σ' (L ++ metL A t) → Q none σ') : j3_tc false (d + 3) 125 [wO 8 90, wO 3 o, wI t] σ Q := by
  have h80 := hW.2.1.2.1
  obtain ⟨-, -, -, p4, -, p6, -⟩ := hW.2.2.2 t t0 t1
  have em : metL A t = A 3012 t :: A 3013 t :: A 3014 t :: A 3015 t :: (parL A t (A 3015 t).toNat 0 ++ (A 3017 t :: A 0 t :: codL A t (A 0 t).toNat 0)) := rfl
  rw [em] at hl
  simp only [List.length_cons, List.length_append] at hl
  have hC := h.cp hC0
  rw [e125, b125_0, (hC.2.2.2 t t0 t1).1.2.1]
  refine ⟨by omega, w123 (d := d + 1) h (by omega) (fun σ1 h1 => ?_)⟩
  simp only [Option.toList_none, List.nil_append]
  have hC1 := h1.cp hC0
  rw [b125_6, (hC1.2.2.2 t t0 t1).1.2.2.1]
  refine ⟨by omega, w123 (d := d + 1) h1 (by simp; omega) (fun σ2 h2 => ?_)⟩
  simp only [Option.toList_none, List.nil_append]
  have hC2 := h2.cp hC0
  rw [b125_12, (hC2.2.2.2 t t0 t1).1.2.2.2.1]
  refine ⟨by omega, w123 (d := d + 1) h2 (by simp; omega) (fun σ3 h3 => ?_)⟩
  simp only [Option.toList_none, List.nil_append]
  have hC3 := h3.cp hC0
  rw [b125_18, (hC3.2.2.2 t t0 t1).1.2.2.2.2.1]
  refine ⟨by omega, w123 (d := d + 1) h3 (by simp; omega) (fun σ4 h4 => ?_)⟩
  simp only [Option.toList_none, List.nil_append]
  rw [b125_24]
  refine l125p (d := d) hW hC0 t0 t1 (A 3015 t).toNat 0 σ4 _ (by omega) (by omega) h4 (by simp; omega) (fun σ5 h5 => hQ σ5 ?_)
  rw [em]; simpa using h5
theorem l124m (hW : WFp A) (hC0 : CP σ0 o A) (x0 : 0 ≤ x) (x1 : x < A 3000 0) : ∀ (n : Nat) (k : Int) (σ : j3_S) (L : List Int), k + n = A 3006 x → 0 ≤ k → WC σ0 σ L → L.length + (mtsL A x n k).length ≤ 48943 → (∀ σ', WC σ0 σ' (L ++ mtsL A x n k) → Q none σ') → T124 (d + 3) Q 68 [wO 8 90, wO 3 o, wI x, wI k] [] σ
  | 0, k, σ, L, hk, k0, h, hl, hQ => by
    have h10 := hW.1.2.1
    have hC := h.cp hC0
    rw [b124_68, (hC.2.2.1 x x0 x1).1.2.2.2.1, if_neg (by omega)]
    exact ⟨by omega, hQ σ (by rw [show mtsL A x 0 k = [] from rfl, List.append_nil]; exact h)⟩
  | n + 1, k, σ, L, hk, k0, h, hl, hQ => by
    have h10 := hW.1.2.1
    have h80 := hW.2.1.2.1
    have hm := hW.2.1.2.2 x x0 x1
    have hC := h.cp hC0
    have ec : mtsL A x (n + 1) k = metL A (A 3007 x + k) ++ mtsL A x n (k + 1) := rfl
    rw [ec, List.length_append] at hl
    rw [b124_68, (hC.2.2.1 x x0 x1).1.2.2.2.1, if_pos (by omega), (hC.2.2.1 x x0 x1).1.2.2.2.2, wr_id (by omega) (by omega)]
    refine ⟨by omega, by omega, w125 (d := d) hW hC0 (by omega) (by omega) h (by omega) (fun σ1 h1 => ?_)⟩
    simp only [Option.toList_none, List.nil_append]
    rw [b124_83, wr_id (by omega) (by omega)]
    refine l124m hW hC0 x0 x1 n (k + 1) σ1 _ (by omega) (by omega) h1 (by rw [List.length_append]; omega) (fun σ2 h2 => hQ σ2 ?_)
    rw [ec, ← List.append_assoc]; exact h2
theorem l124f (hW : WFp A) (hC0 : CP σ0 o A) (x0 : 0 ≤ x) (x1 : x < A 3000 0) : ∀ (n : Nat) (f : Int) (σ : j3_S) (L : List Int), f + n = A 3005 x → 0 ≤ f → WC σ0 σ L → L.length + (fldL A x n f).length + 1 + (mtsL A x (A 3006 x).toNat 0).length ≤ 48943 → (∀ σ', WC σ0 σ' (L ++ (fldL A x n f ++ (A 3006 x :: mtsL A x (A 3006 x).toNat 0))) → Q none σ') → T124 (d + 3) Q 22 [wO 8 90, wO 3 o, wI x, wI f] [] σ
  | 0, f, σ, L, hf, f0, h, hl, hQ => by
    have h10 := hW.1.2.1
    have hm := hW.2.1.2.2 x x0 x1
    have hC := h.cp hC0
    rw [show (fldL A x 0 f).length = 0 from rfl] at hl
    rw [b124_22, (hC.2.2.1 x x0 x1).1.2.2.1, if_neg (by omega), (hC.2.2.1 x x0 x1).1.2.2.2.1]
    refine ⟨by omega, by omega, w123 (d := d + 2) h (by omega) (fun σ1 h1 => ?_)⟩
    simp only [Option.toList_none, List.nil_append]
    rw [b124_66]
    refine l124m (d := d) hW hC0 x0 x1 (A 3006 x).toNat 0 σ1 _ (by omega) (by omega) h1 (by simp; omega) (fun σ2 h2 => hQ σ2 ?_)
    rw [show fldL A x 0 f = [] from rfl]; simpa using h2
  | n + 1, f, σ, L, hf, f0, h, hl, hQ => by
    have h10 := hW.1.2.1
    have hff := hW.2.2.1 x x0 x1
    have ec : fldL A x (n + 1) f = A 3008 (x * 6 + f) :: A 3009 (x * 6 + f) :: A 3010 (x * 6 + f) :: fldL A x n (f + 1) := rfl
    rw [ec] at hl
    simp only [List.length_cons] at hl
    have hC := h.cp hC0
    rw [b124_22, (hC.2.2.1 x x0 x1).1.2.2.1, if_pos (by omega)]
    simp (disch := omega) only [wr_id]
    rw [((hC.2.2.1 x x0 x1).2 f f0 (by omega)).1]
    refine ⟨by omega, by omega, w123 (d := d + 2) h (by omega) (fun σ1 h1 => ?_)⟩
    simp only [Option.toList_none, List.nil_append]
    have hC1 := h1.cp hC0
    rw [b124_38]
    simp (disch := omega) only [wr_id]
    rw [((hC1.2.2.1 x x0 x1).2 f f0 (by omega)).2.1]
    refine ⟨by omega, w123 (d := d + 2) h1 (by simp; omega) (fun σ2 h2 => ?_)⟩
    simp only [Option.toList_none, List.nil_append]
    have hC2 := h2.cp hC0
    rw [b124_48]
    simp (disch := omega) only [wr_id]
    rw [((hC2.2.2.1 x x0 x1).2 f f0 (by omega)).2.2]
    refine ⟨by omega, w123 (d := d + 2) h2 (by simp; omega) (fun σ3 h3 => ?_)⟩
    simp only [Option.toList_none, List.nil_append]
    rw [b124_58, wr_id (by omega) (by omega)]
    refine l124f hW hC0 x0 x1 n (f + 1) σ3 _ (by omega) (by omega) h3 (by simp; omega) (fun σ4 h4 => hQ σ4 ?_)
    rw [ec]; simpa using h4
theorem w124 (hW : WFp A) (hC0 : CP σ0 o A) (x0 : 0 ≤ x) (x1 : x < A 3000 0) (h : WC σ0 σ L) (hl : L.length + (clsL A x).length ≤ 48943) (hQ : ∀ σ', WC σ0 σ' (L ++ clsL A x) → Q none σ') : j3_tc false (d + 4) 124 [wO 8 90, wO 3 o, wI x] σ Q := by
  have h10 := hW.1.2.1
  have hsu := hW.1.2.2 x x0 x1
  have hff := hW.2.2.1 x x0 x1
  have em : clsL A x = A 3002 x :: (A 3003 x + 1) :: A 3005 x :: (fldL A x (A 3005 x).toNat 0 ++ (A 3006 x :: mtsL A x (A 3006 x).toNat 0)) := rfl
  rw [em] at hl
  simp only [List.length_cons, List.length_append] at hl
  have hC := h.cp hC0
  rw [e124, b124_0, (hC.2.2.1 x x0 x1).1.1]
  refine ⟨by omega, w123 (d := d + 2) h (by omega) (fun σ1 h1 => ?_)⟩
  simp only [Option.toList_none, List.nil_append]
  have hC1 := h1.cp hC0
  rw [b124_6, (hC1.2.2.1 x x0 x1).1.2.1, wr_id (by omega) (by omega)]
  refine ⟨by omega, w123 (d := d + 2) h1 (by simp; omega) (fun σ2 h2 => ?_)⟩
  simp only [Option.toList_none, List.nil_append]
  have hC2 := h2.cp hC0
  rw [b124_14, (hC2.2.2.1 x x0 x1).1.2.2.1]
  refine ⟨by omega, w123 (d := d + 2) h2 (by simp; omega) (fun σ3 h3 => ?_)⟩
  simp only [Option.toList_none, List.nil_append]
  rw [b124_20]
  refine l124f (d := d) hW hC0 x0 x1 (A 3005 x).toNat 0 σ3 _ (by omega) (by omega) h3 (by simp; omega) (fun σ4 h4 => hQ σ4 ?_)
  rw [em]; simpa using h4
theorem l122 (hW : WFp A) (hC0 : CP σ0 o A) : ∀ (n : Nat) (x : Int) (σ : j3_S) (L : List Int), x + n = A 3000 0 → 0 ≤ x → WC σ0 σ L → L.length + (allL A n x).length ≤ 48943 → (∀ σ', WC σ0 σ' (L ++ allL A n x) → Q none σ') → T122 (d + 4) Q 15 [wO 8 90, wO 3 o, wI x] [] σ
  | 0, x, σ, L, hx, x0, h, hl, hQ => by
    have hC := h.cp hC0
    rw [b122_15, hC.1, if_neg (by omega)]
    exact hQ σ (by rw [show allL A 0 x = [] from rfl, List.append_nil]; exact h)
  | n + 1, x, σ, L, hx, x0, h, hl, hQ => by
    have h10 := hW.1.2.1
    have hC := h.cp hC0
    have ec : allL A (n + 1) x = clsL A x ++ allL A n (x + 1) := rfl
    rw [ec, List.length_append] at hl
    rw [b122_15, hC.1, if_pos (by omega)]
    refine w124 (d := d) hW hC0 x0 (by omega) h (by omega) (fun σ1 h1 => ?_)
    simp only [Option.toList_none, List.nil_append]
    rw [b122_23, wr_id (by omega) (by omega)]
    refine l122 hW hC0 n (x + 1) σ1 _ (by omega) (by omega) h1 (by rw [List.length_append]; omega) (fun σ2 h2 => hQ σ2 ?_)
    rw [ec, ← List.append_assoc]; exact h2
/-- the class's container -/
theorem w122 (hW : WFp A) (hc : WFc A) (hC0 : CP σ o A) (hQ : ∀ σ', WC σ σ' (outL A) → Q none σ') : j3_tc false (d + 5) 122 [wO 8 90, wO 3 o] σ Q := by
  have h10 := hW.1.2.1
  have hA1 := hW.1.1
  have hl := outL_l hW hc
  have eo : outL A = 83 :: 72 :: A 3000 0 :: allL A (A 3000 0).toNat 0 := rfl
  rw [eo] at hl
  simp only [List.length_cons] at hl
  rw [e122, b122_0]
  have h0 : WC σ (j3_up σ.1 8001 90 0, σ.2.1, σ.2.2) [] := ⟨⟨rfl, fun e o he => up_e (by simpa using he), fun e o _ => rfl⟩, by show j3_up σ.1 8001 90 0 8001 90 = _; rw [up_r]; rfl, fun i hi => absurd hi (by simp)⟩
  refine w123 (d := d + 3) h0 (by simp) (fun σ1 h1 => ?_)
  simp only [Option.toList_none, List.nil_append]
  rw [b122_6]
  refine w123 (d := d + 3) h1 (by simp) (fun σ2 h2 => ?_)
  simp only [Option.toList_none, List.nil_append]
  have hC2 := h2.cp hC0
  rw [b122_9, hC2.1]
  refine w123 (d := d + 3) h2 (by simp) (fun σ3 h3 => ?_)
  simp only [Option.toList_none, List.nil_append]
  rw [b122_13]
  refine l122 (d := d) hW hC0 (A 3000 0).toNat 0 σ3 _ (by omega) (by omega) h3 (by simp; omega) (fun σ4 h4 => hQ σ4 ?_)
  rw [eo]; simpa using h4
end COUT
