/-! the states of the instructions, as the reference keeps them -/
def SR (σ : j3_S) (yb nl len : Int) (F : Fl) : Prop := ∀ i, 0 ≤ i → i < len → (σ.2.2 10035 121 (yb + i) = if F.1 i < 0 then 0 else 1) ∧ (0 ≤ F.1 i → σ.2.2 10036 121 (yb + i) = F.1 i ∧ (∀ k, 0 ≤ k → k < F.1 i → σ.2.2 10037 121 (10 * (yb + i) + k) = F.2.1 i k) ∧ ∀ x, 0 ≤ x → x < nl → σ.2.2 10038 121 (20 * (yb + i) + x) = F.2.2 i x)
def csY (σ0 σ : j3_S) (y : Int) : Prop := σ.2.2 10035 121 y = σ0.2.2 10035 121 (9600 + y) ∧ σ.2.2 10036 121 y = σ0.2.2 10036 121 (9600 + y) ∧ (∀ k, 0 ≤ k → k < 10 → σ.2.2 10037 121 (10 * y + k) = σ0.2.2 10037 121 (96000 + 10 * y + k)) ∧ ∀ l, 0 ≤ l → l < 20 → σ.2.2 10038 121 (20 * y + l) = σ0.2.2 10038 121 (192000 + 20 * y + l)
def hiY (σ0 σ : j3_S) : Prop := (∀ z, 9600 ≤ z → σ.2.2 10035 121 z = σ0.2.2 10035 121 z ∧ σ.2.2 10036 121 z = σ0.2.2 10036 121 z) ∧ (∀ z, 96000 ≤ z → σ.2.2 10037 121 z = σ0.2.2 10037 121 z) ∧ ∀ z, 192000 ≤ z → σ.2.2 10038 121 z = σ0.2.2 10038 121 z
def stA : List Nat := [10035, 10036, 10037, 10038]
section STA
variable {d : Nat} {Q : j3_P} {P : Pg} {y m : Int} {σ σ' σ0 : j3_S}
theorem hiY.rf : hiY σ σ := ⟨fun _ _ => ⟨rfl, rfl⟩, fun _ _ => rfl, fun _ _ => rfl⟩
theorem hiY.tr {σ'' : j3_S} (h : hiY σ σ') (h' : hiY σ' σ'') : hiY σ σ'' := ⟨fun z g => ⟨(h'.1 z g).1.trans (h.1 z g).1, (h'.1 z g).2.trans (h.1 z g).2⟩, fun z g => (h'.2.1 z g).trans (h.2.1 z g), fun z g => (h'.2.2 z g).trans (h.2.2 z g)⟩
theorem q47 (y0 : 0 ≤ y) (y1 : y < 9600) : ∀ (r : Nat) (k : Int) (σ : j3_S), k + r = 20 → 0 ≤ k → σ.2.2 10038 121 = i_cp (σ0.2.2 10038 121) (σ0.2.2 10038 121) (192000 + 20 * y) (20 * y) k → (∀ σ', frm [] [10038] σ σ' → σ'.2.2 10038 121 = i_cp (σ0.2.2 10038 121) (σ0.2.2 10038 121) (192000 + 20 * y) (20 * y) 20 → Q none σ') → T184 d Q 47 [wO 10 121, wI y, wI k] [] σ
  | 0, k, σ, hk, k0, hr, h => by
    have : k = 20 := by omega
    subst this
    rw [b184_47, if_neg (by omega)]
    exact h σ frm.rf hr
  | r + 1, k, σ, hk, k0, hr, h => by
    rw [b184_47, if_pos (by omega)]
    simp (disch := omega) only [wr_id]
    refine ⟨by omega, by omega, q47 y0 y1 r (k + 1) _ (by omega) (by omega) ?_ (fun σ' hf hr' => h σ' ((frm.A rfl frm.rf : frm [] [10038] σ _).tr hf) hr')⟩
    simp only [j3_ast, up_r]
    rw [hr, cp_s k0 (by omega)]
theorem q22 (y0 : 0 ≤ y) (y1 : y < 9600) : ∀ (r : Nat) (k : Int) (σ : j3_S), k + r = 10 → 0 ≤ k → σ.2.2 10037 121 = i_cp (σ0.2.2 10037 121) (σ0.2.2 10037 121) (96000 + 10 * y) (10 * y) k → (∀ σ', frm [] [10037] σ σ' → σ'.2.2 10037 121 = i_cp (σ0.2.2 10037 121) (σ0.2.2 10037 121) (96000 + 10 * y) (10 * y) 10 → T184 d Q 47 [wO 10 121, wI y, wI 0] [] σ') → T184 d Q 22 [wO 10 121, wI y, wI k] [] σ
  | 0, k, σ, hk, k0, hr, h => by
    have : k = 10 := by omega
    subst this
    rw [b184_22, if_neg (by omega)]
    exact h σ frm.rf hr
  | r + 1, k, σ, hk, k0, hr, h => by
    rw [b184_22, if_pos (by omega)]
    simp (disch := omega) only [wr_id]
    refine ⟨by omega, by omega, q22 y0 y1 r (k + 1) _ (by omega) (by omega) ?_ (fun σ' hf hr' => h σ' ((frm.A rfl frm.rf : frm [] [10037] σ _).tr hf) hr')⟩
    simp only [j3_ast, up_r]
    rw [hr, cp_s k0 (by omega)]
theorem s184 (y0 : 0 ≤ y) (y1 : y < 9600) (hv : σ.2.2 10035 121 (9600 + y) = 0 ∨ σ.2.2 10035 121 (9600 + y) = 1) (hQ : ∀ σ', frm [] stA σ σ' → hiY σ σ' → csY σ σ' y → (∀ y' σ1, 0 ≤ y' → ¬ y' = y → csY σ1 σ y' → csY σ1 σ' y') → Q none σ') : j3_tc true (d + 1) 184 [wO 10 121, wI y] σ Q := by
  rw [e184, b184_0]
  simp (disch := omega) only [wr_id]
  refine ⟨by omega, hv, by omega, by omega, by omega, ?_⟩
  generalize hσ1 : ((σ.1, σ.2.1, j3_ast (j3_ast σ.2.2 10035 121 y (σ.2.2 10035 121 (9600 + y))) 10036 121 y (σ.2.2 10036 121 (9600 + y))) : j3_S) = σ1
  have f1 : frm [] [10035, 10036] σ σ1 := by rw [← hσ1]; exact frm.A rfl (frm.A rfl frm.rf)
  have r35 : σ1.2.2 10035 121 = i_up (σ.2.2 10035 121) y (σ.2.2 10035 121 (9600 + y)) := by
    rw [← hσ1]
    simp only [j3_ast, up_r, up_e (show ((10035 : Nat) == 10036) = false from rfl)]
  have r36 : σ1.2.2 10036 121 = i_up (σ.2.2 10036 121) y (σ.2.2 10036 121 (9600 + y)) := by
    rw [← hσ1]
    simp only [j3_ast, up_r, up_e (show ((10036 : Nat) == 10035) = false from rfl)]
  clear hσ1
  refine q22 (σ0 := σ1) y0 y1 10 0 σ1 (by omega) (by omega) (by rw [cp_0]) (fun σ2 f2 r2 => ?_)
  refine q47 (σ0 := σ2) y0 y1 20 0 σ2 (by omega) (by omega) (by rw [cp_0]) (fun σ3 f3 r3 => ?_)
  have z35 : σ3.2.2 10035 121 = i_up (σ.2.2 10035 121) y (σ.2.2 10035 121 (9600 + y)) := by rw [f3.2.2 10035 121 rfl, f2.2.2 10035 121 rfl, r35]
  have z36 : σ3.2.2 10036 121 = i_up (σ.2.2 10036 121) y (σ.2.2 10036 121 (9600 + y)) := by rw [f3.2.2 10036 121 rfl, f2.2.2 10036 121 rfl, r36]
  have z37 : σ3.2.2 10037 121 = i_cp (σ.2.2 10037 121) (σ.2.2 10037 121) (96000 + 10 * y) (10 * y) 10 := by rw [f3.2.2 10037 121 rfl, r2, f1.2.2 10037 121 rfl]
  have z38 : σ3.2.2 10038 121 = i_cp (σ.2.2 10038 121) (σ.2.2 10038 121) (192000 + 20 * y) (20 * y) 20 := by rw [r3, f2.2.2 10038 121 rfl, f1.2.2 10038 121 rfl]
  refine hQ σ3 ((f1.wd (sub_el rfl) (sub_el rfl)).tr ((f2.wd (sub_el rfl) (sub_el rfl)).tr (f3.wd (sub_el rfl) (sub_el rfl)))) ⟨fun z hz => ?_, fun z hz => ?_, fun z hz => ?_⟩ ⟨?_, ?_, fun k k0 k1 => ?_, fun k k0 k1 => ?_⟩ (fun y' σ1 h0 hy h => ?_)
  · rw [z35, z36, iu_n (by omega), iu_n (by omega)]
    exact ⟨rfl, rfl⟩
  · rw [z37]
    simp only [i_cp]
    rw [if_neg (by omega)]
  · rw [z38]
    simp only [i_cp]
    rw [if_neg (by omega)]
  · rw [z35, iu_r]
  · rw [z36, iu_r]
  · rw [z37]
    simp only [i_cp]
    rw [if_pos (by omega), show 96000 + 10 * y + (10 * y + k - 10 * y) = 96000 + 10 * y + k by omega]
  · rw [z38]
    simp only [i_cp]
    rw [if_pos (by omega), show 192000 + 20 * y + (20 * y + k - 20 * y) = 192000 + 20 * y + k by omega]
  · obtain ⟨a1, a2, a3, a4⟩ := h
    refine ⟨by rw [z35, iu_n hy]; exact a1, by rw [z36, iu_n hy]; exact a2, fun k k0 k1 => ?_, fun k k0 k1 => ?_⟩
    · rw [z37]
      simp only [i_cp]
      rw [if_neg (by omega)]
      exact a3 k k0 k1
    · rw [z38]
      simp only [i_cp]
      rw [if_neg (by omega)]
      exact a4 k k0 k1
/-- all states come to the program -/
theorem q73 (hbd : bnd P) (m0 : 0 ≤ m) (m1 : m < P 3001 0) (hv : ∀ m i, 0 ≤ m → m < P 3001 0 → 0 ≤ i → i < P 0 m → σ0.2.2 10035 121 (9600 + (120 * m + i)) = 0 ∨ σ0.2.2 10035 121 (9600 + (120 * m + i)) = 1) : ∀ (r : Nat) (i : Int) (σ : j3_S), i + r = P 0 m → 0 ≤ i → RP σ 0 P → frm [] stA σ0 σ → hiY σ0 σ → (∀ m' i', 0 ≤ m' → 0 ≤ i' → (m' < m ∧ i' < P 0 m' ∨ m' = m ∧ i' < i) → csY σ0 σ (120 * m' + i')) →
    (∀ σ' x2, RP σ' 0 P → frm [] stA σ0 σ' → hiY σ0 σ' → (∀ m' i', 0 ≤ m' → m' < m + 1 → 0 ≤ i' → i' < P 0 m' → csY σ0 σ' (120 * m' + i')) → T185 (d + 1) Q 65 [wO 10 121, wI (m + 1), wI x2] [] σ') → T185 (d + 1) Q 73 [wO 10 121, wI m, wI i] [] σ
  | 0, i, σ, hi, i0, hP, hf, hh, hc, h => by
    obtain ⟨b1, b2, b3, b4⟩ := id hbd
    have e26 := (hP.2.2.2 m m0 m1).1.2.2.2.2.2.2
    rw [show (80 : Int) * 0 + m = m by omega] at e26
    rw [b185_73, e26, if_neg (by omega), wr_id (by omega) (by omega)]
    refine ⟨by omega, h σ _ hP hf hh (fun m' i' g0 g1 g2 g3 => hc m' i' g0 g2 ?_)⟩
    by_cases g : m' = m
    · subst g
      exact Or.inr ⟨rfl, by omega⟩
    · exact Or.inl ⟨by omega, g3⟩
  | r + 1, i, σ, hi, i0, hP, hf, hh, hc, h => by
    obtain ⟨b1, b2, b3, b4⟩ := id hbd
    have bm := b4 m m0 m1
    have e26 := (hP.2.2.2 m m0 m1).1.2.2.2.2.2.2
    rw [show (80 : Int) * 0 + m = m by omega] at e26
    rw [b185_73, e26, if_pos (by omega)]
    simp (disch := omega) only [wr_id]
    refine ⟨by omega, s184 (by omega) (by omega) (by rw [(hh.1 _ (by omega)).1]; exact hv m i m0 m1 i0 (by omega)) (fun σ1 f1 h1 c1 o1 => ?_)⟩
    simp only [Option.toList_none, List.nil_append]
    rw [b185_86, wr_id (by omega) (by omega)]
    refine q73 hbd m0 m1 hv r (i + 1) σ1 (by omega) (by omega) (hP.fr f1 (lr_ok rfl)) (hf.tr f1) (hh.tr h1) (fun m' i' g0 g2 g3 => ?_) h
    by_cases g : m' = m ∧ i' = i
    · obtain ⟨rfl, rfl⟩ := g
      obtain ⟨a1, a2, a3, a4⟩ := c1
      refine ⟨?_, ?_, fun k k0 k1 => ?_, fun k k0 k1 => ?_⟩
      · rw [a1, (hh.1 _ (by omega)).1]
      · rw [a2, (hh.1 _ (by omega)).2]
      · rw [a3 k k0 k1, hh.2.1 _ (by omega)]
      · rw [a4 k k0 k1, hh.2.2 _ (by omega)]
    · have bm' := b4 m' g0 (by omega)
      exact o1 (120 * m' + i') σ0 (by omega) (by omega) (hc m' i' g0 g2 (by omega))
theorem q65 (hbd : bnd P) (hv : ∀ m i, 0 ≤ m → m < P 3001 0 → 0 ≤ i → i < P 0 m → σ0.2.2 10035 121 (9600 + (120 * m + i)) = 0 ∨ σ0.2.2 10035 121 (9600 + (120 * m + i)) = 1) : ∀ (r : Nat) (m : Int) (w2 : j3_W) (σ : j3_S), m + r = P 3001 0 → 0 ≤ m → RP σ 0 P → frm [] stA σ0 σ → hiY σ0 σ → (∀ m' i', 0 ≤ m' → m' < m → 0 ≤ i' → i' < P 0 m' → csY σ0 σ (120 * m' + i')) →
    (∀ σ', RP σ' 0 P → frm [] stA σ0 σ' → (∀ m' i', 0 ≤ m' → m' < P 3001 0 → 0 ≤ i' → i' < P 0 m' → csY σ0 σ' (120 * m' + i')) → Q (some (wI 0)) (j3_up (j3_up (j3_up (j3_up σ'.1 10043 121 1) 10044 121 0) 10077 121 0) 10045 121 0, σ'.2.1, σ'.2.2)) → T185 (d + 1) Q 65 [wO 10 121, wI m, w2] [] σ
  | 0, m, w2, σ, hm, m0, hP, hf, hh, hc, h => by
    rw [b185_65, hP.2.1, if_neg (by omega)]
    exact ⟨by omega, Or.inr rfl, Or.inl rfl, Or.inl rfl, h σ hP hf (fun m' i' a b c e => hc m' i' a (by omega) c e)⟩
  | r + 1, m, w2, σ, hm, m0, hP, hf, hh, hc, h => by
    have bm := hbd.2.2.2 m m0 (by omega)
    rw [b185_65, hP.2.1, if_pos (by omega)]
    refine ⟨by omega, q73 hbd m0 (by omega) hv (P 0 m).toNat 0 σ (by omega) (by omega) hP hf hh (fun m' i' g0 g2 g3 => ?_) (fun σ' x2 hP' hf' hh' hc' => q65 hbd hv r (m + 1) _ σ' (by omega) (by omega) hP' hf' hh' hc' h)⟩
    rcases g3 with g3 | g3
    · exact hc m' i' g0 g3.1 g2 g3.2
    · omega
end STA
