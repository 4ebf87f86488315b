/-! the reference: what a SEND is bound to -/
def s2A : List Nat := [10019, 10020, 10021, 10022, 10023, 10024, 10025, 10026, 10027, 10028, 10029, 10030, 10031, 10032]
/-- only the third slot's methods change, and what is named -/
def s2F (li la : List Nat) (σ σ' : j3_S) : Prop := frm li (la ++ s2A) σ σ' ∧ ∀ e, s2A.elem e = true → ∀ z, z < 2 * slz e → σ'.2.2 e 121 z = σ.2.2 e 121 z
def gbR (σ : j3_S) (P : Pg) (T : Int → Fl) (R : Rs) : Prop := RP σ 0 P ∧ (∀ m i, 0 ≤ m → m < P 3001 0 → 0 ≤ i → i < P 0 m → (σ.2.2 10035 121 (120 * m + i) = if (T m).1 i < 0 then 0 else 1) ∧ (0 ≤ (T m).1 i → σ.2.2 10036 121 (120 * m + i) = (T m).1 i)) ∧ (∀ m, 0 ≤ m → m < 80 → σ.2.2 10049 121 m = R.1 m) ∧ ∀ c, 0 ≤ c → c < 10 → σ.2.2 10050 121 c = R.2.1 c
def ctR (σ : j3_S) (c : Int → Int) : Prop := ∀ i, 0 ≤ i → i < 23 → σ.2.2 10052 121 i = c i
/-- the code in the third slot while SENDS are bound -/
def bnR (σ : j3_S) (P : Pg) (T : Int → Fl) (L : Int → Int) (m i : Int) : Prop := ∀ j, 0 ≤ j → j < P 0 m → σ.2.2 10027 121 (19200 + 120 * m + j) = (if j < i then bO P T L m j else P 1 (m * 120 + j)) ∧ σ.2.2 10028 121 (19200 + 120 * m + j) = (if j < i then bA P T L m j else P 2 (m * 120 + j)) ∧ σ.2.2 10029 121 (19200 + 120 * m + j) = (if j < i then bB P T L m j else P 3 (m * 120 + j))
section RBND
variable {σ σ' σ'' σ0 : j3_S} {P : Pg} {T : Int → Fl} {R : Rs} {L : Int → Int} {m i u a b t bud op x B : Int} {d : Nat} {Q : j3_P} {c : Int → Int} {li la : List Nat}
theorem s2F.rf : s2F li la σ σ := ⟨frm.rf, fun _ _ _ _ => rfl⟩
theorem s2F.tr (h : s2F li la σ σ') (h' : s2F li la σ' σ'') : s2F li la σ σ'' := ⟨h.1.tr h'.1, fun e he z hz => (h'.2 e he z hz).trans (h.2 e he z hz)⟩
theorem s2F.wd {li' la' : List Nat} (h : s2F li la σ σ') (h1 : li.all (fun e => li'.elem e) = true) (h2 : la.all (fun e => la'.elem e) = true) : s2F li' la' σ σ' := by
  refine ⟨h.1.wd (sub_el h1) (sub_el ?_), h.2⟩
  rw [List.all_append, Bool.and_eq_true]
  refine ⟨List.all_eq_true.2 (fun e he => ?_), List.all_eq_true.2 (fun e he => ?_)⟩
  · have := List.all_eq_true.1 h2 e he
    simp only [List.elem_eq_mem, decide_eq_true_eq, List.mem_append] at this ⊢
    exact Or.inl this
  · simp only [List.elem_eq_mem, decide_eq_true_eq, List.mem_append]
    exact Or.inr he
theorem s2F.of (h : frm li la σ σ') (hd : s2A.all (fun e => !la.elem e) = true) : s2F li la σ σ' := by
  refine ⟨h.wd (fun _ q => q) (fun e q => ?_), fun e he z _ => ?_⟩
  · cases hb : la.elem e
    · rfl
    · have : (la ++ s2A).elem e = true := by
        simp only [List.elem_eq_mem, decide_eq_true_eq, List.mem_append] at hb ⊢
        exact Or.inl hb
      rw [this] at q; cases q
  · have := List.all_eq_true.1 hd e (by simpa using he)
    rw [h.2.2 e 121 (by simpa using this)]
/-- a change of rows of the third slot -/
theorem s2F.ast {e : Nat} {z v : Int} (he : s2A.elem e = true) (hz : 2 * slz e ≤ z) : s2F li la σ (σ.1, σ.2.1, j3_ast σ.2.2 e 121 z v) := by
  refine ⟨frm.A ?_ frm.rf, fun e' he' z' hz' => ?_⟩
  · simp only [List.elem_eq_mem, decide_eq_true_eq, List.mem_append] at he ⊢
    exact Or.inr he
  · show j3_up σ.2.2 e 121 (i_up (σ.2.2 e 121) z v) e' 121 z' = _
    by_cases g : e' = e
    · subst g
      rw [up_r, iu_n (by omega)]
    · rw [up_ne (fun q => g q.1)]
theorem stF.s2 (h : stF li la B σ σ') (hB : 19200 ≤ B) (hd : s2A.all (fun e => !la.elem e) = true) : s2F li la σ σ' := by
  refine ⟨h.1.wd (fun _ q => q) (fun e q => ?_), fun e he z hz => ?_⟩
  · cases hb : (la ++ cd6).elem e
    · rfl
    · have : (la ++ s2A).elem e = true := by
        simp only [List.elem_eq_mem, decide_eq_true_eq, List.mem_append] at hb ⊢
        rcases hb with hb | hb
        · exact Or.inl hb
        · right
          simp only [cd6, List.mem_cons, List.not_mem_nil, or_false] at hb
          rcases hb with rfl | rfl | rfl | rfl | rfl | rfl <;> decide
      rw [this] at q; cases q
  · by_cases g : cd6.elem e = true
    · refine h.2 e g z (Or.inl ?_)
      simp only [cd6, List.elem_eq_mem, decide_eq_true_eq, List.mem_cons, List.not_mem_nil, or_false] at g
      have : slz e = 9600 := by rcases g with rfl | rfl | rfl | rfl | rfl | rfl <;> rfl
      rw [this] at hz
      omega
    · have h1 := List.all_eq_true.1 hd e (by simpa using he)
      rw [h.1.2.2 e 121]
      cases hb : (la ++ cd6).elem e
      · rfl
      · simp only [List.elem_eq_mem, decide_eq_true_eq, List.mem_append] at hb g
        rcases hb with hb | hb
        · simp [hb] at h1
        · exact absurd hb g
theorem s2F.sm {s : Int} (h : s2F li la σ σ') (hd : (List.range 26).all (fun e => !la.elem (10009 + e) || 10009 + e == 10033) = true) (s0 : s ≤ 1) : smS s σ σ' := by
  intro e z e0 e1 z0 z1 h33
  by_cases g : s2A.elem e = true
  · have hp : 0 ≤ slz e := by unfold slz; split; omega; split; omega; split; omega; split; omega; split <;> omega
    refine h.2 e g z ?_
    have : (s + 1) * slz e ≤ 2 * slz e := Int.mul_le_mul_of_nonneg_right (by omega) hp
    omega
  · have h1 := List.all_eq_true.1 hd (e - 10009) (List.mem_range.2 (by omega))
    rw [show 10009 + (e - 10009) = e by omega] at h1
    have h2 : la.elem e = false := by
      simp only [Bool.or_eq_true, Bool.not_eq_true', beq_iff_eq] at h1
      rcases h1 with h1 | h1
      · exact h1
      · exact absurd h1 h33
    rw [h.1.2.2 e 121]
    cases hb : (la ++ s2A).elem e
    · rfl
    · simp only [List.elem_eq_mem, decide_eq_true_eq, List.mem_append, decide_eq_false_iff_not] at hb g h2
      rcases hb with hb | hb
      · exact absurd hb h2
      · exact absurd hb g
theorem gbR.fr (h : gbR σ P T R) (hW : WFp P) (hf : s2F li la σ σ') (hd : (List.range 26).all (fun e => !la.elem (10009 + e) || 10009 + e == 10033) = true) (h1 : la.elem 10035 = false ∧ la.elem 10036 = false ∧ la.elem 10049 = false ∧ la.elem 10050 = false) : gbR σ' P T R := by
  obtain ⟨a1, a2, a3, a4⟩ := h
  have k : ∀ e, la.elem e = false → s2A.elem e = false → σ'.2.2 e 121 = σ.2.2 e 121 := fun e q1 q2 => hf.1.2.2 e 121 (by
    cases hb : (la ++ s2A).elem e
    · rfl
    · simp only [List.elem_eq_mem, decide_eq_true_eq, List.mem_append, decide_eq_false_iff_not] at hb q1 q2
      rcases hb with hb | hb
      · exact absurd hb q1
      · exact absurd hb q2)
  refine ⟨a1.mv (hf.sm hd (by omega)) (bnd_of hW), fun m i m0 m1 i0 i1 => ?_, fun m m0 m1 => ?_, fun c c0 c1 => ?_⟩
  · rw [k 10035 h1.1 rfl, k 10036 h1.2.1 rfl]; exact a2 m i m0 m1 i0 i1
  · rw [k 10049 h1.2.2.1 rfl]; exact a3 m m0 m1
  · rw [k 10050 h1.2.2.2 rfl]; exact a4 c c0 c1
theorem l196b (hB : gbR σ P T R) (hg : good P) (h01 : ∀ c, R.2.1 c = 0 ∨ R.2.1 c = 1) (a0 : 0 ≤ a) (a1 : a < P 3000 0) (b0 : 0 ≤ b) (b1 : b < P 3006 a) {x1 x2 x3 : Int} (x30 : 0 ≤ x3) (x31 : x3 < 28800) (ha : σ.2.2 10028 121 x3 = a) (hb : σ.2.2 10029 121 x3 = b) : ∀ (n : Nat) (x6 x4 x5 : Int) (w7 : j3_W), x6 + n = P 3000 0 → 0 ≤ x6 → (x4 = -1 ∨ (0 ≤ x4 ∧ x4 < P 3001 0)) → (∀ y4 y5 y6 w7, (bdF P R.2.1 a (P 3007 a + b) n x6 (x4, !decide (x5 = 0))) = (y4, !decide (y5 = 0)) → (y4 = -1 ∨ (0 ≤ y4 ∧ y4 < P 3001 0)) → y6 = P 3000 0 → T196 (d + 1) Q 35 [wO 10 121, wI x1, wI x2, wI x3, wI y4, wI y5, wI y6, w7] [] σ) → T196 (d + 1) Q 35 [wO 10 121, wI x1, wI x2, wI x3, wI x4, wI x5, wI x6, w7] [] σ
  | 0, x6, x4, x5, w7, hx, x0, h4, hQ => hQ x4 x5 x6 w7 rfl h4 (by omega)
  | n + 1, x6, x4, x5, w7, hx, x0, h4, hQ => by
    obtain ⟨hR, -, -, hL⟩ := id hB
    have hm := hg.1.2.1.2.2 a a0 a1
    have hm80 := hg.1.2.1.2.1
    have hc10 := hg.1.1.2.1
    have e : ∀ S, bdF P R.2.1 a (P 3007 a + b) (n + 1) x6 S = bdF P R.2.1 a (P 3007 a + b) n (x6 + 1) (if R.2.1 x6 = 1 ∧ cv P a x6 = true then (fnd P (P 3012 (P 3007 a + b)) 10 x6, S.2 || (decide (0 ≤ S.1) && !decide (S.1 = fnd P (P 3012 (P 3007 a + b)) 10 x6))) else S) := fun _ => rfl
    rw [e] at hQ
    rw [b196_35, hR.1, if_pos (by omega), hL x6 x0 (by omega)]
    refine ⟨by omega, by omega, ?_⟩
    have skip : ¬ (R.2.1 x6 = 1 ∧ cv P a x6 = true) → T196 (d + 1) Q 89 [wO 10 121, wI x1, wI x2, wI x3, wI x4, wI x5, wI x6, w7] [] σ := by
      intro g
      rw [if_neg g] at hQ
      rw [b196_89, wr_id (by omega) (by omega)]
      exact l196b hB hg h01 a0 a1 b0 b1 x30 x31 ha hb n (x6 + 1) x4 x5 w7 (by omega) (by omega) h4 hQ
    by_cases g1 : R.2.1 x6 = 0
    · rw [if_pos g1]
      exact skip (fun q => by rw [g1] at q; exact absurd q.1 (by decide))
    · rw [if_neg g1, ha, s170 hR hg.1.1 (by omega) (by omega) a0 (by omega) (by omega)]
      refine ⟨by omega, ?_⟩
      simp only [Option.toList_some, List.cons_append, List.nil_append]
      rw [b196_54]
      by_cases g2 : cv P a x6 = true
      · have g2' : cov P a 10 x6 = true := g2
        have fr := fnd_r hg a0 a1 b0 b1 (c := x6) (by omega) g2
        have e13 := (hR.2.2.1 a a0 a1).1.2.2.2.2
        have e20 := (hR.2.2.2 (P 3007 a + b) (by omega) (by omega)).1.2.1
        rw [show 10 * 0 + a = a by omega] at e13
        rw [show 80 * 0 + (P 3007 a + b) = P 3007 a + b by omega] at e20
        rw [g2', if_neg (by decide), ha, hb, e13, wr_id (by omega) (by omega), e20, s192 hR hg.1.1 hg.1.2.1 (by omega) (by omega) (by omega) (by omega)]
        refine ⟨by omega, by omega, by omega, by omega, ?_⟩
        simp only [Option.toList_some, List.cons_append, List.nil_append]
        by_cases gl : R.2.1 x6 = 1
        · rw [if_pos ⟨gl, g2⟩] at hQ
          generalize fnd P (P 3012 (P 3007 a + b)) 10 x6 = f at *
          have fin : ∀ v : Int, (!decide (v = 0)) = ((!decide (x5 = 0)) || (decide (0 ≤ x4) && !decide (x4 = f))) → T196 (d + 1) Q 86 [wO 10 121, wI x1, wI x2, wI x3, wI x4, wI x5, wI x6, wI f] [wI v] σ := by
            intro v hv
            rw [← hv] at hQ
            rw [b196_86, b196_89, wr_id (by omega) (by omega)]
            exact l196b hB hg h01 a0 a1 b0 b1 x30 x31 ha hb n (x6 + 1) f v _ (by omega) (by omega) (by omega) hQ
          rw [b196_75]
          by_cases g5 : x5 = 0
          · rw [if_pos g5]
            by_cases g6 : x4 < 0
            · rw [if_pos g6, b196_85]
              exact fin 0 (by simp [g5, show ¬ 0 ≤ x4 by omega])
            · rw [if_neg g6]
              by_cases g7 : x4 = f
              · rw [if_pos g7, b196_85]
                exact fin 0 (by simp [g5, g7])
              · rw [if_neg g7, b196_83]
                exact fin 1 (by simp [g5, g7, show 0 ≤ x4 by omega])
          · rw [if_neg g5, b196_83]
            exact fin 1 (by simp [g5])
        · rcases h01 x6 with q | q
          · exact absurd q g1
          · exact absurd q gl
      · have g2' : cov P a 10 x6 = false := by simpa using (show ¬ cov P a 10 x6 = true from g2)
        rw [g2', if_pos (by rfl)]
        exact skip (fun q => g2 q.2)
/-- one instruction of the loop -/
theorem l196 (h : grR P T R) (hB0 : gbR σ0 P T R) (m0 : 0 ≤ m) (m1 : m < P 3001 0) (hm : R.1 m = 1) (c0 : 0 ≤ c 0) (c1 : c 0 + 120 < 2147483647) : ∀ (n k : Nat) (w3 w4 w5 w6 w7 : j3_W) (σ : j3_S), (k : Int) + n = P 0 m → stF [] [10052] (19200 + 120 * m) σ0 σ → bnR σ P T R.2.1 m k → ctR σ (addc c (nbS P T R.2.1 m k) 0) → (∀ σ', stF [] [10052] (19200 + 120 * m) σ0 σ' → bnR σ' P T R.2.1 m (P 0 m) → ctR σ' (addc c (nbS P T R.2.1 m (P 0 m).toNat) 0) → Q none σ') → T196 (d + 1) Q 2 [wO 10 121, wI m, wI k, w3, w4, w5, w6, w7] [] σ
  | 0, k, w3, w4, w5, w6, w7, σ, hk, hf, hb, hc, hQ => by
    have hg := h.1.1
    have h80 := hg.1.2.1.2.1
    have hB : gbR σ P T R := hB0.fr hg.1 (hf.s2 (by omega) rfl) rfl ⟨rfl, rfl, rfl, rfl⟩
    have e26 := (hB.1.2.2.2 m m0 m1).1.2.2.2.2.2.2
    rw [show 80 * 0 + m = m by omega] at e26
    rw [b196_2, e26, if_neg (by omega)]
    refine ⟨by omega, ?_⟩
    rw [show (k : Int) = P 0 m by omega] at hb
    rw [show k = (P 0 m).toNat by omega] at hc
    exact hQ σ hf hb hc
  | n + 1, k, w3, w4, w5, w6, w7, σ, hk, hf, hb, hc, hQ => by
    have hg := h.1.1
    have h80 := hg.1.2.1.2.1
    have hc10 := hg.1.1.2.1
    have hB : gbR σ P T R := hB0.fr hg.1 (hf.s2 (by omega) rfl) rfl ⟨rfl, rfl, rfl, rfl⟩
    obtain ⟨hR, hH, -, hL⟩ := id hB
    obtain ⟨-, -, -, -, -, q6, q7⟩ := hg.1.2.2.2 m m0 m1
    have ik := q7 k (by omega) (by omega)
    have e26 := (hR.2.2.2 m m0 m1).1.2.2.2.2.2.2
    rw [show 80 * 0 + m = m by omega] at e26
    obtain ⟨b1, b2, b3⟩ := hb k (by omega) (by omega)
    rw [if_neg (by omega)] at b1 b2 b3
    have nbk := nbS_b (P := P) (T := T) (R := R) (m := m) k
    have eN : nbS P T R.2.1 m (k + 1) = nbS P T R.2.1 m k + (if isB P T R.2.1 m k = true then 1 else 0) := rfl
    have again := fun w3 w4 w5 w6 w7 σ' hf' => l196 h hB0 m0 m1 hm c0 c1 n (k + 1) w3 w4 w5 w6 w7 σ' (by push_cast; omega) hf'
    rw [eN] at again
    rw [b196_2, e26, if_pos (by omega), s160 (by omega) (by omega) m0 (by omega) (by omega) (by omega), show 9600 * 2 + 120 * m + (k : Int) = 19200 + 120 * m + k by omega]
    refine ⟨by omega, ?_⟩
    simp only [Option.toList_some, List.cons_append, List.nil_append]
    -- not bound
    have skip : isB P T R.2.1 m k = false → ∀ w4 w5 w6 w7, T196 (d + 1) Q 142 [wO 10 121, wI m, wI k, wI (19200 + 120 * m + k), w4, w5, w6, w7] [] σ := by
      intro gb w4 w5 w6 w7
      have eo : bO P T R.2.1 m k = P 1 (m * 120 + k) := by unfold bO; rw [gb]; rfl
      have ea : bA P T R.2.1 m k = P 2 (m * 120 + k) := by unfold bA; rw [gb]; rfl
      have eb : bB P T R.2.1 m k = P 3 (m * 120 + k) := by unfold bB; rw [gb]; rfl
      rw [b196_142, wr_id (by omega) (by omega), show (k : Int) + 1 = ((k + 1 : Nat) : Int) by push_cast; omega]
      refine again _ _ _ _ _ σ hf (fun j j0 j1 => ?_) ?_ hQ
      · obtain ⟨z1, z2, z3⟩ := hb j j0 j1
        by_cases gj : j = k
        · subst gj
          rw [if_pos (by push_cast; omega), if_pos (by push_cast; omega), if_pos (by push_cast; omega), eo, ea, eb]
          exact ⟨b1, b2, b3⟩
        · rw [z1, z2, z3]
          by_cases gl : j < (k : Int)
          · simp only [if_pos gl, if_pos (show j < ((k + 1 : Nat) : Int) by push_cast; omega), and_self]
          · simp only [if_neg gl, if_neg (show ¬ j < ((k + 1 : Nat) : Int) by push_cast; omega), and_self]
      · rw [gb, if_neg (by decide), show nbS P T R.2.1 m k + 0 = nbS P T R.2.1 m k by omega]
        exact hc
    rw [b196_12, b1]
    refine ⟨by omega, ?_⟩
    by_cases g21 : P 1 (m * 120 + k) = 21
    · rw [if_pos g21]
      simp (disch := omega) only [wr_id]
      rw [(hH m k m0 m1 (by omega) (by omega)).1]
      refine ⟨by omega, ?_⟩
      by_cases gm : (T m).1 k < 0
      · rw [if_pos gm, if_pos rfl]
        refine skip ?_ _ _ _ _
        unfold isB
        simp [show ¬ 0 ≤ (T m).1 k by omega]
      · rw [if_neg gm, if_neg (by decide)]
        have ca := ik.2.2.2.2.1 (by omega)
        have cb := ik.2.2.2.2.2.2 (by omega)
        have hm3 := hg.1.2.1.2.2 _ ca.1 ca.2
        have hcc := hg.1.1.1
        refine l196b hB hg h.2.1.2 ca.1 ca.2 cb.1 cb.2 (by omega) (by omega) b2 b3 (P 3000 0).toNat 0 (-1) 0 _ (by omega) (by omega) (Or.inl rfl) (fun y4 y5 y6 w7 hy h4 h6 => ?_)
        have hy' : bdF P R.2.1 (P 2 (m * 120 + k)) (P 3007 (P 2 (m * 120 + k)) + P 3 (m * 120 + k)) (P 3000 0).toNat 0 (-1, false) = (y4, !decide (y5 = 0)) := hy
        have ebd : bdS P R.2.1 (P 2 (m * 120 + k)) (P 3007 (P 2 (m * 120 + k)) + P 3 (m * 120 + k)) = if 0 ≤ y4 ∧ (!decide (y5 = 0)) = false ∧ cv P (P 3011 y4) (P 2 (m * 120 + k)) = true then y4 else -1 := by
          unfold bdS
          rw [hy']
        have isb : isB P T R.2.1 m k = !decide (bdS P R.2.1 (P 2 (m * 120 + k)) (P 3007 (P 2 (m * 120 + k)) + P 3 (m * 120 + k)) = -1) := by
          unfold isB
          simp [g21, show 0 ≤ (T m).1 k by omega]
        rw [b196_35, hR.1, if_neg (by omega)]
        refine ⟨by omega, ?_⟩
        by_cases g4 : y4 < 0
        · rw [if_pos g4]
          rw [if_neg (by omega)] at ebd
          exact skip (by rw [isb, ebd]; rfl) _ _ _ _
        · rw [if_neg g4]
          by_cases g5 : y5 = 0
          · rw [if_pos g5, b2]
            have r4 : 0 ≤ y4 ∧ y4 < P 3001 0 := by omega
            have e19 := (hR.2.2.2 y4 r4.1 r4.2).1.1
            rw [show 80 * 0 + y4 = y4 by omega] at e19
            obtain ⟨o1, o2, o3, o4⟩ := (hg.1.2.2.2 y4 r4.1 r4.2).1
            have hm4 := hg.1.2.1.2.2 _ o1 o2
            rw [e19, s170 hR hg.1.1 (by omega) (by omega) o1 (by omega) ca.2]
            refine ⟨by omega, by omega, ?_⟩
            simp only [Option.toList_some, List.cons_append, List.nil_append]
            rw [b196_106]
            by_cases gc : cv P (P 3011 y4) (P 2 (m * 120 + k)) = true
            · have gc' : cov P (P 3011 y4) 10 (P 2 (m * 120 + k)) = true := gc
              have e13 := (hR.2.2.1 _ o1 o2).1.2.2.2.2
              rw [show 10 * 0 + P 3011 y4 = P 3011 y4 by omega] at e13
              rw [if_pos ⟨by omega, by simp [g5], gc⟩] at ebd
              have gb : isB P T R.2.1 m k = true := by rw [isb, ebd]; simp; omega
              have eo : bO P T R.2.1 m k = 20 := by unfold bO; rw [if_pos gb]
              have ea : bA P T R.2.1 m k = P 3011 y4 := by unfold bA; rw [if_pos gb, ebd]
              have eb : bB P T R.2.1 m k = y4 - P 3007 (P 3011 y4) := by unfold bB; rw [if_pos gb, ebd]
              have hc0 := hc 0 (by omega) (by omega)
              rw [addc_v, if_neg (by omega), if_pos rfl] at hc0
              rw [gc', if_neg (by decide), e19, e13, hc0]
              simp (disch := omega) only [wr_id]
              refine ⟨by omega, by omega, by omega, by omega, by omega, by omega, by omega, by omega, ?_⟩
              rw [b196_142, wr_id (by omega) (by omega), show (k : Int) + 1 = ((k + 1 : Nat) : Int) by push_cast; omega]
              generalize hσ1 : ((σ.1, σ.2.1, j3_ast (j3_ast (j3_ast (j3_ast σ.2.2 10027 121 (19200 + 120 * m + k) 20) 10028 121 (19200 + 120 * m + k) (P 3011 y4)) 10029 121 (19200 + 120 * m + k) (y4 - P 3007 (P 3011 y4))) 10052 121 0 (c 0 + nbS P T R.2.1 m k + 1)) : j3_S) = σ1
              have r27 : σ1.2.2 10027 121 = i_up (σ.2.2 10027 121) (19200 + 120 * m + k) 20 := by
                rw [← hσ1]; simp only [j3_ast]; rw [up_e rfl, up_e rfl, up_e rfl, up_r]
              have r28 : σ1.2.2 10028 121 = i_up (σ.2.2 10028 121) (19200 + 120 * m + k) (P 3011 y4) := by
                rw [← hσ1]; simp only [j3_ast]; rw [up_e rfl, up_e rfl, up_r, up_e rfl]
              have r29 : σ1.2.2 10029 121 = i_up (σ.2.2 10029 121) (19200 + 120 * m + k) (y4 - P 3007 (P 3011 y4)) := by
                rw [← hσ1]; simp only [j3_ast]; rw [up_e rfl, up_r, up_e rfl, up_e rfl]
              have r52 : σ1.2.2 10052 121 = i_up (σ.2.2 10052 121) 0 (c 0 + nbS P T R.2.1 m k + 1) := by
                rw [← hσ1]; simp only [j3_ast]; rw [up_r, up_e rfl, up_e rfl, up_e rfl]
              have f1 : stF [] [10052] (19200 + 120 * m) σ σ1 := by
                refine ⟨by rw [← hσ1]; exact frm.A rfl (frm.A rfl (frm.A rfl (frm.A rfl frm.rf))), fun e he z hz => ?_⟩
                simp only [cd6, List.elem_eq_mem, decide_eq_true_eq, List.mem_cons, List.not_mem_nil, or_false] at he
                have nz : ¬ z = 19200 + 120 * m + k := by omega
                rcases he with rfl | rfl | rfl | rfl | rfl | rfl
                · rw [r27, iu_n nz]
                · rw [r28, iu_n nz]
                · rw [r29, iu_n nz]
                · rw [← hσ1]; rfl
                · rw [← hσ1]; rfl
                · rw [← hσ1]; rfl
              refine again _ _ _ _ _ σ1 (hf.tr f1) (fun j j0 j1 => ?_) (fun j j0 j1 => ?_) hQ
              · rw [r27, r28, r29]
                obtain ⟨z1, z2, z3⟩ := hb j j0 j1
                by_cases gj : j = k
                · subst gj
                  rw [iu_r, iu_r, iu_r, if_pos (by push_cast; omega), if_pos (by push_cast; omega), if_pos (by push_cast; omega), eo, ea, eb]
                  exact ⟨rfl, rfl, rfl⟩
                · rw [iu_n (by omega), iu_n (by omega), iu_n (by omega), z1, z2, z3]
                  by_cases gl : j < (k : Int)
                  · simp only [if_pos gl, if_pos (show j < ((k + 1 : Nat) : Int) by push_cast; omega), and_self]
                  · simp only [if_neg gl, if_neg (show ¬ j < ((k + 1 : Nat) : Int) by push_cast; omega), and_self]
              · rw [r52, if_pos gb, addc_v]
                by_cases gj : j = 0
                · rw [gj, iu_r, if_neg (by omega), if_pos rfl]; omega
                · have := hc j j0 j1
                  rw [addc_v, if_neg gj] at this
                  rw [iu_n gj, if_neg gj]; exact this
            · have gc' : cov P (P 3011 y4) 10 (P 2 (m * 120 + k)) = false := by simpa using (show ¬ cov P (P 3011 y4) 10 (P 2 (m * 120 + k)) = true from gc)
              rw [if_neg (fun q => gc q.2.2)] at ebd
              rw [gc', if_pos (by rfl)]
              exact skip (by rw [isb, ebd]; rfl) _ _ _ _
          · rw [if_neg g5]
            rw [if_neg (fun q => by simp [g5] at q)] at ebd
            exact skip (by rw [isb, ebd]; rfl) _ _ _ _
    · rw [if_neg g21]
      refine skip ?_ _ _ _ _
      unfold isB
      simp [g21]
theorem s196 (h : grR P T R) (hB : gbR σ P T R) (m0 : 0 ≤ m) (m1 : m < P 3001 0) (hm : R.1 m = 1) (hb : bnR σ P T R.2.1 m 0) (hc : ctR σ c) (c0 : 0 ≤ c 0) (c1 : c 0 + 120 < 2147483647) (hQ : ∀ σ', stF [] [10052] (19200 + 120 * m) σ σ' → bnR σ' P T R.2.1 m (P 0 m) → ctR σ' (addc c (nbS P T R.2.1 m (P 0 m).toNat) 0) → Q none σ') : j3_tc true (d + 2) 196 [wO 10 121, wI m] σ Q := by
  rw [e196, b196_0]
  have q6 := (h.1.1.1.2.2.2 m m0 m1).2.2.2.2.2.1
  refine l196 (σ0 := σ) h hB m0 m1 hm c0 c1 (P 0 m).toNat 0 _ _ _ _ _ σ (by omega) stF.rf hb ?_ hQ
  show ctR σ (addc c 0 0)
  rw [addc_0]; exact hc
end RBND
