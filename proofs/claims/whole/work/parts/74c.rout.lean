/-! the reference writes the container -/
def WQ (σ0 σ : j3_S) (L : List Int) : Prop := frm [10076] [10075] σ0 σ ∧ σ.1 10076 121 = L.length ∧ ∀ i : Nat, i < L.length → σ.2.2 10075 121 i = i_an (L.getD i 0) 255
section ROUT
variable {σ σ' σ0 : j3_S} {P A : Pg} {d : Nat} {x t i n k v v' op a b : Int} {Q : j3_P} {L M : List Int}
theorem sr0 : i_sr a 0 = wr a := by
  unfold i_sr wr
  congr 1
  have e : (Int32.ofInt 0 &&& 31 : Int32) = 0 := by decide
  rw [e]
  simp
theorem an_s0 : i_an (i_sr a 0) 255 = i_an a 255 := by
  rw [sr0, an_eq, an_eq]
  have : wr (wr a) = wr a := by
    unfold wr
    rw [Int32.ofInt_toInt]
  rw [this]
theorem w223 (h : WQ σ0 σ L) (hl : L.length < 48943) (hv : i_an v' 255 = i_an v 255) (hQ : ∀ σ', WQ σ0 σ' (L ++ [v]) → Q none σ') : j3_tc true (d + 1) 223 [wO 10 121, wI v'] σ Q := by
  rw [e223, b223_0, h.2.1, wr_id (by omega) (by omega), hv]
  refine ⟨by omega, hQ _ ⟨h.1.tr ⟨rfl, fun e o he => up_e (by simpa using he), fun e o he => up_e (by simpa using he)⟩, ?_, fun i hi => ?_⟩⟩
  · show j3_up σ.1 10076 121 ((L.length : Int) + 1) 10076 121 = _
    rw [up_r, List.length_append]; push_cast; rfl
  · show j3_up σ.2.2 10075 121 (i_up (σ.2.2 10075 121) (L.length : Int) (i_an v 255)) 10075 121 i = _
    rw [up_r]
    by_cases g : i = L.length
    · rw [g, iu_r, gd_hi]
    · have hi' : i < L.length := by rw [List.length_append] at hi; simp at hi; omega
      rw [iu_n (by omega), gd_lo hi']
      exact h.2.2 i hi'
theorem WQ.rp (h : WQ σ0 σ L) (hR : RP σ0 1 A) : RP σ 1 A := hR.fr h.1 (fun e e0 e1 => by simp; omega)
theorem RP1_c (hR : RP σ 1 A) (c0 : 0 ≤ x) (c1 : x < A 3000 0) : (σ.2.2 10010 121 (10 + x) = A 3002 x ∧ σ.2.2 10011 121 (10 + x) = A 3003 x ∧ σ.2.2 10012 121 (10 + x) = A 3005 x ∧ σ.2.2 10014 121 (10 + x) = A 3006 x ∧ σ.2.2 10013 121 (10 + x) = A 3007 x) ∧ ∀ f, 0 ≤ f → f < A 3005 x → σ.2.2 10015 121 (60 + 6 * x + f) = A 3008 (x * 6 + f) ∧ σ.2.2 10016 121 (60 + 6 * x + f) = A 3009 (x * 6 + f) ∧ σ.2.2 10017 121 (60 + 6 * x + f) = A 3010 (x * 6 + f) := hR.2.2.1 x c0 c1
theorem RP1_m (hR : RP σ 1 A) (m0 : 0 ≤ t) (m1 : t < A 3001 0) : (σ.2.2 10019 121 (80 + t) = A 3011 t ∧ σ.2.2 10020 121 (80 + t) = A 3012 t ∧ σ.2.2 10021 121 (80 + t) = A 3013 t ∧ σ.2.2 10022 121 (80 + t) = A 3014 t ∧ σ.2.2 10023 121 (80 + t) = A 3015 t ∧ σ.2.2 10025 121 (80 + t) = A 3017 t ∧ σ.2.2 10026 121 (80 + t) = A 0 t) ∧ (∀ p, 0 ≤ p → p < A 3015 t → σ.2.2 10024 121 (3 * (80 + t) + p) = A 3016 (t * 3 + p)) ∧ ∀ i, 0 ≤ i → i < A 0 t → σ.2.2 10027 121 (9600 + 120 * t + i) = A 1 (t * 120 + i) ∧ σ.2.2 10028 121 (9600 + 120 * t + i) = A 2 (t * 120 + i) ∧ σ.2.2 10029 121 (9600 + 120 * t + i) = A 3 (t * 120 + i) := hR.2.2.2 t m0 m1
/-- an instruction, from behind its code on -/
theorem l225i {x1 x2 x3 z : Int} (h : WQ σ0 σ L) (hR0 : ∀ σ' L', WQ σ0 σ' L' → σ'.2.2 10028 121 z = a ∧ σ'.2.2 10029 121 z = b) (z0 : 0 ≤ z) (z1 : z < 28800) (hl : L.length + (insL op a b).length ≤ 48943 + 1) {w6 : j3_W} (hQ : ∀ σ' w6, (∀ M, L = M ++ [op] → WQ σ0 σ' (M ++ insL op a b)) → T225 (d + 1) Q 133 [wO 10 121, wI x1, wI x2, wI x3, wI z, wI op, w6] [] σ') : T225 (d + 1) Q 81 [wO 10 121, wI x1, wI x2, wI x3, wI z, wI op, w6] [] σ := by
  have fb : ∀ {σ2 : j3_S} {L2 : List Int} {w6 : j3_W}, WQ σ0 σ2 L2 → (16 ≤ op ∧ op ≤ 21 → L2.length < 48943) → (∀ M, L = M ++ [op] → M ++ insL op a b = L2 ++ (if 16 ≤ op ∧ op ≤ 21 then [b] else [])) → T225 (d + 1) Q 124 [wO 10 121, wI x1, wI x2, wI x3, wI z, wI op, w6] [] σ2 := by
    intro σ2 L2 w6 h2 hl2 he
    rw [b225_124, s165]
    simp only [Option.toList_some, List.cons_append, List.nil_append]
    rw [b225_126]
    by_cases g : 16 ≤ op ∧ op ≤ 21
    · have t : twop op = true := by unfold twop; simp [g]
      rw [t, if_neg (by decide), (hR0 σ2 L2 h2).2]
      refine ⟨by omega, w223 h2 (hl2 g) rfl (fun σ3 h3 => ?_)⟩
      simp only [Option.toList_none, List.nil_append]
      refine hQ σ3 _ (fun M hM => ?_)
      rw [he M hM, if_pos g]; exact h3
    · have t : twop op = false := by unfold twop; simp; omega
      rw [t, if_pos (by rfl)]
      refine hQ σ2 _ (fun M hM => ?_)
      rw [he M hM, if_neg g, List.append_nil]; exact h2
  by_cases g0 : op = 0
  · subst g0
    have e : insL 0 a b = [0, i_sr a 24, i_sr a 16, i_sr a 8, a] := by unfold insL; simp
    rw [e] at hl
    simp only [List.length_cons, List.length_nil] at hl
    rw [b225_81, if_pos rfl, b225_85, if_neg (by omega), (hR0 σ L h).1]
    refine ⟨by omega, w223 h (by omega) rfl (fun σ1 h1 => ?_)⟩
    simp only [Option.toList_none, List.nil_append]
    rw [b225_95, wr_id (by omega) (by omega), b225_85, if_neg (by omega), (hR0 σ1 _ h1).1, show (24 : Int) + -8 = 16 by omega]
    refine ⟨by omega, w223 h1 (by simp; omega) rfl (fun σ2 h2 => ?_)⟩
    simp only [Option.toList_none, List.nil_append]
    rw [b225_95, wr_id (by omega) (by omega), b225_85, if_neg (by omega), (hR0 σ2 _ h2).1, show (16 : Int) + -8 = 8 by omega]
    refine ⟨by omega, w223 h2 (by simp; omega) rfl (fun σ3 h3 => ?_)⟩
    simp only [Option.toList_none, List.nil_append]
    rw [b225_95, wr_id (by omega) (by omega), b225_85, if_neg (by omega), (hR0 σ3 _ h3).1, show (8 : Int) + -8 = 0 by omega]
    refine ⟨by omega, w223 (v := a) h3 (by simp; omega) an_s0 (fun σ4 h4 => ?_)⟩
    simp only [Option.toList_none, List.nil_append]
    rw [b225_95, wr_id (by omega) (by omega), b225_85, if_pos (by omega), b225_97, if_neg (by omega), if_neg (by omega), s164]
    simp only [Option.toList_some, List.cons_append, List.nil_append]
    rw [show isj 0 = false from rfl, b225_105, if_pos (by rfl), if_neg (by omega), s165]
    simp only [Option.toList_some, List.cons_append, List.nil_append]
    rw [show twop 0 = false from rfl, b225_111, if_pos (by rfl), if_neg (by omega), if_neg (by omega)]
    refine fb h4 (fun q => by omega) (fun M hM => ?_)
    rw [e, hM]; simp
  · rw [b225_81, if_neg g0, b225_97]
    have ga : (op = 2 ∨ op = 3 ∨ (11 ≤ op ∧ op ≤ 14) ∨ op = 15 ∨ op = 24 ∨ op = 25 ∨ (16 ≤ op ∧ op ≤ 21)) → T225 (d + 1) Q 118 [wO 10 121, wI x1, wI x2, wI x3, wI z, wI op, w6] [] σ := by
      intro gA
      have e : insL op a b = [op, a] ++ (if 16 ≤ op ∧ op ≤ 21 then [b] else []) := by
        unfold insL; rw [if_neg g0, if_pos (Or.inr gA)]; simp
      rw [e] at hl
      simp only [List.length_append, List.length_cons, List.length_nil] at hl
      rw [b225_118, (hR0 σ L h).1]
      refine ⟨by omega, w223 h (by omega) rfl (fun σ1 h1 => ?_)⟩
      simp only [Option.toList_none, List.nil_append]
      refine fb h1 (fun q => ?_) (fun M hM => ?_)
      · rw [if_pos q] at hl; simp at hl ⊢; omega
      · rw [e, hM]; simp
    by_cases c1 : op = 2
    · rw [if_pos c1]; exact ga (Or.inl c1)
    · rw [if_neg c1]
      by_cases c2 : op = 3
      · rw [if_pos c2]; exact ga (Or.inr (Or.inl c2))
      · rw [if_neg c2, s164]
        simp only [Option.toList_some, List.cons_append, List.nil_append]
        rw [b225_105]
        by_cases c3 : 11 ≤ op ∧ op ≤ 14
        · have t : isj op = true := by unfold isj; simp [c3]
          rw [t, if_neg (by decide)]; exact ga (Or.inr (Or.inr (Or.inl c3)))
        · have t : isj op = false := by unfold isj; simp; omega
          rw [t, if_pos (by rfl)]
          by_cases c4 : op = 15
          · rw [if_pos c4]; exact ga (by omega)
          · rw [if_neg c4, s165]
            simp only [Option.toList_some, List.cons_append, List.nil_append]
            rw [b225_111]
            by_cases c5 : 16 ≤ op ∧ op ≤ 21
            · have t : twop op = true := by unfold twop; simp [c5]
              rw [t, if_neg (by decide)]; exact ga (by omega)
            · have t : twop op = false := by unfold twop; simp; omega
              rw [t, if_pos (by rfl)]
              by_cases c6 : op = 24
              · rw [if_pos c6]; exact ga (by omega)
              · rw [if_neg c6]
                by_cases c7 : op = 25
                · rw [if_pos c7]; exact ga (by omega)
                · rw [if_neg c7]
                  refine fb h (fun q => absurd q c5) (fun M hM => ?_)
                  have e : insL op a b = [op] := by
                    unfold insL; rw [if_neg g0, if_neg (by omega), if_neg c5]; simp
                  rw [e, if_neg c5, hM]; simp
theorem l225c (hW : WFp A) (hR0 : RP σ0 1 A) (t0 : 0 ≤ t) (t1 : t < A 3001 0) : ∀ (n : Nat) (i : Int) (w4 w5 w6 : j3_W) (σ : j3_S) (L : List Int), i + n = A 0 t → 0 ≤ i → WQ σ0 σ L → L.length + (codL A t n i).length ≤ 48943 → (∀ σ', WQ σ0 σ' (L ++ codL A t n i) → Q none σ') → T225 (d + 1) Q 62 [wO 10 121, wI t, wI (80 + t), wI i, w4, w5, w6] [] σ
  | 0, i, w4, w5, w6, σ, L, hi, i0, h, hl, hQ => by
    have h80 := hW.2.1.2.1
    have hR := h.rp hR0
    rw [b225_62, (RP1_m hR t0 t1).1.2.2.2.2.2.2, if_neg (by omega)]
    exact ⟨by omega, hQ σ (by rw [show codL A t 0 i = [] from rfl, List.append_nil]; exact h)⟩
  | n + 1, i, w4, w5, w6, σ, L, hi, i0, h, hl, hQ => by
    have h80 := hW.2.1.2.1
    obtain ⟨-, -, -, -, -, p6, p7⟩ := hW.2.2.2 t t0 t1
    have hR := h.rp hR0
    obtain ⟨e1, e2, e3⟩ := (RP1_m hR t0 t1).2.2 i i0 (by omega)
    have ec : codL A t (n + 1) i = insL (A 1 (t * 120 + i)) (A 2 (t * 120 + i)) (A 3 (t * 120 + i)) ++ codL A t n (i + 1) := rfl
    rw [ec, List.length_append] at hl
    have l1 : 1 ≤ (insL (A 1 (t * 120 + i)) (A 2 (t * 120 + i)) (A 3 (t * 120 + i))).length := by unfold insL; simp
    rw [b225_62, (RP1_m hR t0 t1).1.2.2.2.2.2.2, if_pos (by omega), s160 (by omega) (by omega) (by omega) (by omega) (by omega) (by omega)]
    refine ⟨by omega, ?_⟩
    simp only [Option.toList_some, List.cons_append, List.nil_append]
    rw [show 9600 * 1 + 120 * t + i = 9600 + 120 * t + i by omega, b225_72, e1]
    refine ⟨by omega, w223 h (by omega) rfl (fun σ1 h1 => ?_)⟩
    simp only [Option.toList_none, List.nil_append]
    refine l225i (a := A 2 (t * 120 + i)) (b := A 3 (t * 120 + i)) h1 (fun σ' L' h' => ?_) (by omega) (by omega) (by rw [List.length_append]; simp; omega) (fun σ2 w6 h2 => ?_)
    · have := (RP1_m (h'.rp hR0) t0 t1).2.2 i i0 (by omega)
      exact ⟨this.2.1, this.2.2⟩
    · rw [b225_133, wr_id (by omega) (by omega)]
      refine l225c hW hR0 t0 t1 n (i + 1) _ _ _ σ2 _ (by omega) (by omega) (h2 L rfl) (by rw [List.length_append]; omega) (fun σ3 h3 => hQ σ3 ?_)
      rw [ec, ← List.append_assoc]; exact h3
theorem l225p (hW : WFp A) (hR0 : RP σ0 1 A) (t0 : 0 ≤ t) (t1 : t < A 3001 0) : ∀ (n : Nat) (p : Int) (σ : j3_S) (L : List Int), p + n = A 3015 t → 0 ≤ p → WQ σ0 σ L → L.length + (parL A t n p).length + 2 + (codL A t (A 0 t).toNat 0).length ≤ 48943 → (∀ σ', WQ σ0 σ' (L ++ (parL A t n p ++ (A 3017 t :: A 0 t :: codL A t (A 0 t).toNat 0))) → Q none σ') → T225 (d + 1) Q 30 [wO 10 121, wI t, wI (80 + t), wI p, wM 2, wM 2, wM 2] [] σ
  | 0, p, σ, L, hp, p0, h, hl, hQ => by
    have h80 := hW.2.1.2.1
    obtain ⟨-, -, -, p4, -, p6, -⟩ := hW.2.2.2 t t0 t1
    have c := (RP1_m (h.rp hR0) t0 t1).1
    rw [show (parL A t 0 p).length = 0 from rfl] at hl
    rw [b225_30, c.2.2.2.2.1, if_neg (by omega), c.2.2.2.2.2.1]
    refine ⟨by omega, by omega, w223 h (by omega) rfl (fun σ1 h1 => ?_)⟩
    simp only [Option.toList_none, List.nil_append]
    rw [b225_54, (RP1_m (h1.rp hR0) t0 t1).1.2.2.2.2.2.2]
    refine ⟨by omega, w223 h1 (by simp; omega) rfl (fun σ2 h2 => ?_)⟩
    simp only [Option.toList_none, List.nil_append]
    rw [b225_60]
    refine l225c hW hR0 t0 t1 (A 0 t).toNat 0 _ _ _ σ2 (L ++ [A 3017 t] ++ [A 0 t]) (by omega) (by omega) h2 (by simp; omega) (fun σ3 h3 => hQ σ3 ?_)
    rw [show parL A t 0 p = [] from rfl]
    simpa using h3
  | n + 1, p, σ, L, hp, p0, h, hl, hQ => by
    have h80 := hW.2.1.2.1
    obtain ⟨-, -, -, p4, -, p6, -⟩ := hW.2.2.2 t t0 t1
    have c := RP1_m (h.rp hR0) t0 t1
    have ec : parL A t (n + 1) p = A 3016 (t * 3 + p) :: parL A t n (p + 1) := rfl
    rw [ec, List.length_cons] at hl
    rw [b225_30, c.1.2.2.2.2.1, if_pos (by omega)]
    simp (disch := omega) only [wr_id]
    rw [c.2.1 p p0 (by omega)]
    refine ⟨by omega, by omega, w223 h (by omega) rfl (fun σ1 h1 => ?_)⟩
    simp only [Option.toList_none, List.nil_append]
    rw [b225_46, wr_id (by omega) (by omega)]
    refine l225p hW hR0 t0 t1 n (p + 1) σ1 _ (by omega) (by omega) h1 (by rw [List.length_append]; simp; omega) (fun σ2 h2 => hQ σ2 ?_)
    rw [ec]; simpa using h2
theorem w225 (hW : WFp A) (hR0 : RP σ0 1 A) (t0 : 0 ≤ t) (t1 : t < A 3001 0) (h : WQ σ0 σ L) (hl : L.length + (metL A t).length ≤ 48943) (hQ : ∀ σ', WQ σ0 σ' (L ++ metL A t) → Q none σ') : j3_tc true (d + 2) 225 [wO 10 121, wI t] σ Q := by
  have h80 := hW.2.1.2.1
  obtain ⟨-, -, -, p4, -, p6, -⟩ := hW.2.2.2 t t0 t1
  have em : metL A t = A 3012 t :: A 3013 t :: A 3014 t :: A 3015 t :: (parL A t (A 3015 t).toNat 0 ++ (A 3017 t :: A 0 t :: codL A t (A 0 t).toNat 0)) := rfl
  rw [em] at hl
  simp only [List.length_cons, List.length_append] at hl
  rw [e225, b225_0, wr_id (by omega) (by omega), (RP1_m (h.rp hR0) t0 t1).1.2.1]
  refine ⟨by omega, w223 h (by omega) rfl (fun σ1 h1 => ?_)⟩
  simp only [Option.toList_none, List.nil_append]
  rw [b225_10, (RP1_m (h1.rp hR0) t0 t1).1.2.2.1]
  refine ⟨by omega, w223 h1 (by simp; omega) rfl (fun σ2 h2 => ?_)⟩
  simp only [Option.toList_none, List.nil_append]
  rw [b225_16, (RP1_m (h2.rp hR0) t0 t1).1.2.2.2.1]
  refine ⟨by omega, w223 h2 (by simp; omega) rfl (fun σ3 h3 => ?_)⟩
  simp only [Option.toList_none, List.nil_append]
  rw [b225_22, (RP1_m (h3.rp hR0) t0 t1).1.2.2.2.2.1]
  refine ⟨by omega, w223 h3 (by simp; omega) rfl (fun σ4 h4 => ?_)⟩
  simp only [Option.toList_none, List.nil_append]
  rw [b225_28]
  refine l225p (d := d) hW hR0 t0 t1 (A 3015 t).toNat 0 σ4 _ (by omega) (by omega) h4 (by simp; omega) (fun σ5 h5 => hQ σ5 ?_)
  rw [em]; simpa using h5
theorem l224m (hW : WFp A) (hR0 : RP σ0 1 A) (x0 : 0 ≤ x) (x1 : x < A 3000 0) : ∀ (n : Nat) (k : Int) (σ : j3_S) (L : List Int), k + n = A 3006 x → 0 ≤ k → WQ σ0 σ L → L.length + (mtsL A x n k).length ≤ 48943 → (∀ σ' w2, WQ σ0 σ' (L ++ mtsL A x n k) → T224 (d + 2) Q 17 [wO 10 121, wI (x + 1), w2] [] σ') → T224 (d + 2) Q 107 [wO 10 121, wI x, wI k] [] σ
  | 0, k, σ, L, hk, k0, h, hl, hQ => by
    have h10 := hW.1.2.1
    rw [b224_107, wr_id (z := 10 + x) (by omega) (by omega), (RP1_c (h.rp hR0) x0 x1).1.2.2.2.1, if_neg (by omega), wr_id (by omega) (by omega)]
    exact ⟨by omega, hQ σ _ (by rw [show mtsL A x 0 k = [] from rfl, List.append_nil]; exact h)⟩
  | n + 1, k, σ, L, hk, k0, h, hl, hQ => by
    have h10 := hW.1.2.1
    have h80 := hW.2.1.2.1
    have hm := hW.2.1.2.2 x x0 x1
    have ec : mtsL A x (n + 1) k = metL A (A 3007 x + k) ++ mtsL A x n (k + 1) := rfl
    rw [ec, List.length_append] at hl
    rw [b224_107, wr_id (z := 10 + x) (by omega) (by omega), (RP1_c (h.rp hR0) x0 x1).1.2.2.2.1, if_pos (by omega), (RP1_c (h.rp hR0) x0 x1).1.2.2.2.2, wr_id (by omega) (by omega)]
    refine ⟨by omega, by omega, w225 (d := d) hW hR0 (by omega) (by omega) h (by omega) (fun σ1 h1 => ?_)⟩
    simp only [Option.toList_none, List.nil_append]
    rw [b224_125, wr_id (by omega) (by omega)]
    refine l224m hW hR0 x0 x1 n (k + 1) σ1 _ (by omega) (by omega) h1 (by rw [List.length_append]; omega) (fun σ2 w2 h2 => hQ σ2 w2 ?_)
    rw [ec, ← List.append_assoc]; exact h2
theorem l224f (hW : WFp A) (hR0 : RP σ0 1 A) (x0 : 0 ≤ x) (x1 : x < A 3000 0) : ∀ (n : Nat) (f : Int) (σ : j3_S) (L : List Int), f + n = A 3005 x → 0 ≤ f → WQ σ0 σ L → L.length + (fldL A x n f).length + 1 + (mtsL A x (A 3006 x).toNat 0).length ≤ 48943 → (∀ σ' w2, WQ σ0 σ' (L ++ (fldL A x n f ++ (A 3006 x :: mtsL A x (A 3006 x).toNat 0))) → T224 (d + 2) Q 17 [wO 10 121, wI (x + 1), w2] [] σ') → T224 (d + 2) Q 51 [wO 10 121, wI x, wI f] [] σ
  | 0, f, σ, L, hf, f0, h, hl, hQ => by
    have h10 := hW.1.2.1
    have hm := hW.2.1.2.2 x x0 x1
    rw [show (fldL A x 0 f).length = 0 from rfl] at hl
    rw [b224_51, wr_id (z := 10 + x) (by omega) (by omega), (RP1_c (h.rp hR0) x0 x1).1.2.2.1, if_neg (by omega), (RP1_c (h.rp hR0) x0 x1).1.2.2.2.1]
    refine ⟨by omega, by omega, w223 (d := d + 1) h (by omega) rfl (fun σ1 h1 => ?_)⟩
    simp only [Option.toList_none, List.nil_append]
    rw [b224_105]
    refine l224m (d := d) hW hR0 x0 x1 (A 3006 x).toNat 0 σ1 _ (by omega) (by omega) h1 (by simp; omega) (fun σ2 w2 h2 => hQ σ2 w2 ?_)
    rw [show fldL A x 0 f = [] from rfl]; simpa using h2
  | n + 1, f, σ, L, hf, f0, h, hl, hQ => by
    have h10 := hW.1.2.1
    have hff := hW.2.2.1 x x0 x1
    have ec : fldL A x (n + 1) f = A 3008 (x * 6 + f) :: A 3009 (x * 6 + f) :: A 3010 (x * 6 + f) :: fldL A x n (f + 1) := rfl
    rw [ec] at hl
    simp only [List.length_cons] at hl
    rw [b224_51, wr_id (z := 10 + x) (by omega) (by omega), (RP1_c (h.rp hR0) x0 x1).1.2.2.1, if_pos (by omega)]
    simp (disch := omega) only [wr_id]
    rw [((RP1_c (h.rp hR0) x0 x1).2 f f0 (by omega)).1]
    refine ⟨by omega, by omega, w223 (d := d + 1) h (by omega) rfl (fun σ1 h1 => ?_)⟩
    simp only [Option.toList_none, List.nil_append]
    rw [b224_71]
    simp (disch := omega) only [wr_id]
    rw [((RP1_c (h1.rp hR0) x0 x1).2 f f0 (by omega)).2.1]
    refine ⟨by omega, w223 (d := d + 1) h1 (by simp; omega) rfl (fun σ2 h2 => ?_)⟩
    simp only [Option.toList_none, List.nil_append]
    rw [b224_83]
    simp (disch := omega) only [wr_id]
    rw [((RP1_c (h2.rp hR0) x0 x1).2 f f0 (by omega)).2.2]
    refine ⟨by omega, w223 (d := d + 1) h2 (by simp; omega) rfl (fun σ3 h3 => ?_)⟩
    simp only [Option.toList_none, List.nil_append]
    rw [b224_95, wr_id (by omega) (by omega)]
    refine l224f hW hR0 x0 x1 n (f + 1) σ3 _ (by omega) (by omega) h3 (by simp; omega) (fun σ4 w2 h4 => hQ σ4 w2 ?_)
    rw [ec]; simpa using h4
theorem l224 (hW : WFp A) (hR0 : RP σ0 1 A) : ∀ (n : Nat) (x : Int) (w2 : j3_W) (σ : j3_S) (L : List Int), x + n = A 3000 0 → 0 ≤ x → WQ σ0 σ L → L.length + (allL A n x).length ≤ 48943 → (∀ σ', WQ σ0 σ' (L ++ allL A n x) → Q none (σ'.1, σ'.2.1, j3_ast σ'.2.2 10034 121 1 (σ'.1 10076 121))) → T224 (d + 2) Q 17 [wO 10 121, wI x, w2] [] σ
  | 0, x, w2, σ, L, hx, x0, h, hl, hQ => by
    have e0 := (h.rp hR0).1
    rw [b224_17, e0, if_neg (by omega)]
    exact ⟨by omega, by omega, hQ σ (by rw [show allL A 0 x = [] from rfl, List.append_nil]; exact h)⟩
  | n + 1, x, w2, σ, L, hx, x0, h, hl, hQ => by
    have h10 := hW.1.2.1
    have x1 : x < A 3000 0 := by omega
    have hsu := hW.1.2.2 x x0 x1
    have hff := hW.2.2.1 x x0 x1
    have e0 := (h.rp hR0).1
    have ec : allL A (n + 1) x = clsL A x ++ allL A n (x + 1) := rfl
    have em : clsL A x = A 3002 x :: (A 3003 x + 1) :: A 3005 x :: (fldL A x (A 3005 x).toNat 0 ++ (A 3006 x :: mtsL A x (A 3006 x).toNat 0)) := rfl
    rw [ec, em] at hl
    simp only [List.length_cons, List.length_append] at hl
    rw [b224_17, e0, if_pos (by omega), wr_id (z := 10 + x) (by omega) (by omega), (RP1_c (h.rp hR0) x0 x1).1.1]
    refine ⟨by omega, by omega, w223 (d := d + 1) h (by omega) rfl (fun σ1 h1 => ?_)⟩
    simp only [Option.toList_none, List.nil_append]
    rw [b224_31, wr_id (z := 10 + x) (by omega) (by omega), (RP1_c (h1.rp hR0) x0 x1).1.2.1, wr_id (by omega) (by omega)]
    refine ⟨by omega, w223 (d := d + 1) h1 (by simp; omega) rfl (fun σ2 h2 => ?_)⟩
    simp only [Option.toList_none, List.nil_append]
    rw [b224_41, wr_id (z := 10 + x) (by omega) (by omega), (RP1_c (h2.rp hR0) x0 x1).1.2.2.1]
    refine ⟨by omega, w223 (d := d + 1) h2 (by simp; omega) rfl (fun σ3 h3 => ?_)⟩
    simp only [Option.toList_none, List.nil_append]
    rw [b224_49]
    refine l224f (d := d) hW hR0 x0 x1 (A 3005 x).toNat 0 σ3 _ (by omega) (by omega) h3 (by simp; omega) (fun σ4 w2 h4 => ?_)
    have h4' : WQ σ0 σ4 (L ++ clsL A x) := by rw [em]; simpa using h4
    refine l224 hW hR0 n (x + 1) w2 σ4 _ (by omega) (by omega) h4' (by rw [List.length_append, em]; simp only [List.length_cons, List.length_append]; omega) (fun σ5 h5 => hQ σ5 ?_)
    rw [ec, ← List.append_assoc]; exact h5
/-- the reference's container -/
theorem w224 (hW : WFp A) (hc : WFc A) (hR0 : RP σ 1 A) (hQ : ∀ σ', WQ σ σ' (outL A) → Q none (σ'.1, σ'.2.1, j3_ast σ'.2.2 10034 121 1 (σ'.1 10076 121))) : j3_tc true (d + 3) 224 [wO 10 121] σ Q := by
  have h10 := hW.1.2.1
  have hA1 := hW.1.1
  have hl := outL_l hW hc
  have eo : outL A = 83 :: 72 :: A 3000 0 :: allL A (A 3000 0).toNat 0 := rfl
  rw [eo] at hl
  simp only [List.length_cons] at hl
  rw [e224, b224_0]
  have h0 : WQ σ (j3_up σ.1 10076 121 0, σ.2.1, σ.2.2) [] := ⟨⟨rfl, fun e o he => up_e (by simpa using he), fun e o _ => rfl⟩, by show j3_up σ.1 10076 121 0 10076 121 = _; rw [up_r]; rfl, fun i hi => absurd hi (by simp)⟩
  refine w223 (d := d + 1) h0 (by simp) rfl (fun σ1 h1 => ?_)
  simp only [Option.toList_none, List.nil_append]
  rw [b224_6]
  refine w223 (d := d + 1) h1 (by simp) rfl (fun σ2 h2 => ?_)
  simp only [Option.toList_none, List.nil_append]
  have e0 := (h2.rp hR0).1
  rw [b224_9, e0]
  refine ⟨by omega, w223 (d := d + 1) h2 (by simp) rfl (fun σ3 h3 => ?_)⟩
  simp only [Option.toList_none, List.nil_append]
  rw [b224_15]
  refine l224 (d := d) hW hR0 (A 3000 0).toNat 0 _ σ3 _ (by omega) (by omega) h3 (by simp; omega) (fun σ4 h4 => hQ σ4 ?_)
  rw [eo]; simpa using h4
end ROUT
