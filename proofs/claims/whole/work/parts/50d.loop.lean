/-! the instructions of a method: both readers side by side -/
def iraw (nl len nc op a b : Int) : Prop := (0 ≤ op ∧ op ≤ 26) ∧ (op = 2 ∨ op = 3 → 0 ≤ a ∧ a < nl) ∧ (11 ≤ op ∧ op ≤ 14 → 0 ≤ a ∧ a < len) ∧ (op = 15 ∨ op = 24 ∨ op = 25 ∨ (16 ≤ op ∧ op ≤ 21) → 0 ≤ a ∧ a < nc) ∧ (16 ≤ op ∧ op ≤ 21 → 0 ≤ b)
def IRr (σc : j3_S) (o : Nat) (σr : j3_S) (nl len nc m i : Int) : Prop := (σr.2.2 10027 121 (19200 + 120 * m + i) = σc.2.2 1 (o + 17) (m * 120 + i) ∧ σr.2.2 10028 121 (19200 + 120 * m + i) = σc.2.2 2 (o + 17) (m * 120 + i) ∧ σr.2.2 10029 121 (19200 + 120 * m + i) = σc.2.2 3 (o + 17) (m * 120 + i)) ∧ iraw nl len nc (σc.2.2 1 (o + 17) (m * 120 + i)) (σc.2.2 2 (o + 17) (m * 120 + i)) (σc.2.2 3 (o + 17) (m * 120 + i))
def MRr (σc : j3_S) (o : Nat) (σr : j3_S) (nc m : Int) : Prop := (σr.2.2 10019 121 (160 + m) = σc.2.2 3011 o m ∧ σr.2.2 10020 121 (160 + m) = σc.2.2 3012 o m ∧ σr.2.2 10021 121 (160 + m) = σc.2.2 3013 o m ∧ σr.2.2 10022 121 (160 + m) = σc.2.2 3014 o m ∧ σr.2.2 10023 121 (160 + m) = σc.2.2 3015 o m ∧ σr.2.2 10025 121 (160 + m) = σc.2.2 3017 o m ∧ σr.2.2 10026 121 (160 + m) = σc.2.2 0 (o + 17) m) ∧
  ((σc.2.2 3013 o m = 0 ∨ σc.2.2 3013 o m = 1) ∧ (0 ≤ σc.2.2 3014 o m ∧ σc.2.2 3014 o m ≤ nc + 1) ∧ (0 ≤ σc.2.2 3015 o m ∧ σc.2.2 3015 o m ≤ 3) ∧ (σc.2.2 3015 o m + (1 - σc.2.2 3013 o m) ≤ σc.2.2 3017 o m ∧ σc.2.2 3017 o m ≤ 20) ∧ (1 ≤ σc.2.2 0 (o + 17) m ∧ σc.2.2 0 (o + 17) m ≤ 120)) ∧
  (∀ p, 0 ≤ p → p < σc.2.2 3015 o m → σr.2.2 10024 121 (3 * (160 + m) + p) = σc.2.2 3016 o (m * 3 + p) ∧ 0 ≤ σc.2.2 3016 o (m * 3 + p) ∧ σc.2.2 3016 o (m * 3 + p) ≤ nc) ∧
  ∀ i, 0 ≤ i → i < σc.2.2 0 (o + 17) m → IRr σc o σr (σc.2.2 3017 o m) (σc.2.2 0 (o + 17) m) nc m i
def vld (g : Int → Int) (m i m' i' : Int) : Prop := 0 ≤ m' ∧ 0 ≤ i' ∧ i' < 120 ∧ i' < g m' ∧ (m' < m ∨ (m' = m ∧ i' < i))
def TL (σc : j3_S) (o : Nat) (σr : j3_S) (m i : Int) : Prop := (∀ n, 0 ≤ n → n < σc.1 5007 73 → ∃ m' i', vld (σc.2.2 0 (o + 17)) m i m' i' ∧ σc.2.2 5005 73 n = m' * 120 + i' ∧ twop (σc.2.2 1 (o + 17) (m' * 120 + i')) = true ∧ σc.2.2 5006 73 n = σr.2.2 10033 121 (m' * 120 + i') ∧ 0 ≤ σc.2.2 5006 73 n) ∧ (∀ n n', 0 ≤ n → n < n' → n' < σc.1 5007 73 → σc.2.2 5005 73 n < σc.2.2 5005 73 n') ∧ ∀ m' i', vld (σc.2.2 0 (o + 17)) m i m' i' → twop (σc.2.2 1 (o + 17) (m' * 120 + i')) = true → ∃ n, 0 ≤ n ∧ n < σc.1 5007 73 ∧ σc.2.2 5005 73 n = m' * 120 + i'
section LOOP
variable {σc σr σc' σr' : j3_S} {o : Nat} {tb : Int → Int} {sz m i nl len nc : Int} {st : Ps}
theorem nxv_ok {lo hi : Int} (h : (nxs tb sz st lo hi).2 = 0) : lo ≤ nxv tb sz st lo hi ∧ nxv tb sz st lo hi ≤ hi := by
  unfold nxs at h
  unfold nxv
  split at h
  · rename_i g
    rw [if_pos g]
    exact g.2.2
  · cases h
theorem rdb_o (h : pso sz st) : pso sz (rda tb sz nl len nc st).2 ∧ pso sz (rdb tb sz nl len nc st).2 := by
  have h1 := nxs_o (tb := tb) (lo := 0) (hi := 26) h
  have h2 : pso sz (rda tb sz nl len nc st).2 := by
    unfold rda
    split
    · exact (rdN_o 4 0 _ h1).1
    · split
      · exact nxs_o h1
      · exact h1
  refine ⟨h2, ?_⟩
  unfold rdb
  split
  · exact nxs_o h2
  · exact h2
theorem rdb_ok (h : pso sz st) (hk : (rdb tb sz nl len nc st).2.2 = 0) : st.2 = 0 ∧ st.1 < sz ∧ st.1 + 1 ≤ (rdb tb sz nl len nc st).2.1 ∧ iraw nl len nc (nxv tb sz st 0 26) (rda tb sz nl len nc st).1 (rdb tb sz nl len nc st).1 := by
  have h1 := nxs_o (tb := tb) (lo := 0) (hi := 26) h
  have hv := nxv_b (tb := tb) (sz := sz) (st := st) (lo := 0) (hi := 26) (by omega)
  have B : (rda tb sz nl len nc st).2.2 = 0 ∧ (rda tb sz nl len nc st).2.1 ≤ (rdb tb sz nl len nc st).2.1 ∧ 0 ≤ (rdb tb sz nl len nc st).1 := by
    unfold rdb at hk ⊢
    split
    · rename_i g
      rw [if_pos g] at hk
      have := nxs_f hk
      have := nxv_ok hk
      exact ⟨by omega, by dsimp only; omega, this.1⟩
    · rename_i g
      rw [if_neg g] at hk
      exact ⟨hk, Int.le_refl _, Int.le_refl _⟩
  obtain ⟨b1, b2, b3⟩ := B
  have A : (nxs tb sz st 0 26).2 = 0 ∧ (nxs tb sz st 0 26).1 ≤ (rda tb sz nl len nc st).2.1 ∧ (rda1 (nxv tb sz st 0 26) = true → ¬ nxv tb sz st 0 26 = 0 → 0 ≤ (rda tb sz nl len nc st).1 ∧ (rda tb sz nl len nc st).1 ≤ rdk nl len nc (nxv tb sz st 0 26)) := by
    unfold rda at b1 ⊢
    split
    · rename_i g
      rw [if_pos g] at b1
      have := (rdN_o 4 0 _ h1).2 b1
      exact ⟨this.1, this.2, fun _ q => absurd g q⟩
    · rename_i g
      rw [if_neg g] at b1
      split
      · rename_i g2
        rw [if_pos g2] at b1
        have u1 := nxs_f b1
        have u2 := nxv_ok b1
        exact ⟨u1.1, by dsimp only; omega, fun _ _ => u2⟩
      · rename_i g2
        rw [if_neg g2] at b1
        exact ⟨b1, Int.le_refl _, fun q => absurd q g2⟩
  obtain ⟨a1, a2, a3⟩ := A
  have u := nxs_f a1
  have usz : st.1 < sz := by
    unfold nxs at a1
    split at a1
    · rename_i g
      exact g.2.1
    · cases a1
  refine ⟨u.1, usz, by omega, hv, fun q => ?_, fun q => ?_, fun q => ?_, fun _ => b3⟩
  · have := a3 (by unfold rda1; rcases q with q | q <;> rw [q] <;> rfl) (by omega)
    unfold rdk at this
    rw [if_pos q] at this
    omega
  · have := a3 (by unfold rda1 isj; simp; omega) (by omega)
    unfold rdk at this
    rw [if_neg (by omega), if_pos q] at this
    omega
  · have := a3 (by unfold rda1 twop; simp; omega) (by omega)
    unfold rdk at this
    rw [if_neg (by omega), if_neg (by omega)] at this
    omega
theorem IRr.mv (h : IRr σc o σr nl len nc m i) (h1 : ∀ e, e = 1 ∨ e = 2 ∨ e = 3 → σc'.2.2 e (o + 17) (m * 120 + i) = σc.2.2 e (o + 17) (m * 120 + i)) (h2 : ∀ e, e = 10027 ∨ e = 10028 ∨ e = 10029 → σr'.2.2 e 121 (19200 + 120 * m + i) = σr.2.2 e 121 (19200 + 120 * m + i)) : IRr σc' o σr' nl len nc m i := by
  unfold IRr
  rw [h1 1 (by simp), h1 2 (by simp), h1 3 (by simp), h2 10027 (by simp), h2 10028 (by simp), h2 10029 (by simp)]
  exact h
/-- what is read so far, if nothing failed -/
def okI (σc : j3_S) (o : Nat) (σr : j3_S) (nl len nc m i : Int) (st : Ps) : Prop := st.2 = 0 → (∀ m', 0 ≤ m' → m' < m → MRr σc o σr nc m') ∧ (∀ i', 0 ≤ i' → i' < i → IRr σc o σr nl len nc m i') ∧ TL σc o σr m i ∧ σc.1 5007 73 ≤ st.1
/-- both readers, at the place st -/
def pre (σc : j3_S) (o : Nat) (σr : j3_S) (tb : Int → Int) (sz nc : Int) (st : Ps) : Prop := (TC σc tb sz ∧ TR σr tb sz ∧ pso sz st) ∧ (σc.1 5002 73 = st.1 ∧ σc.1 5003 73 = st.2 ∧ rOk σr st) ∧ (σc.2.1 4 = o ∧ ¬ o = 0 ∧ σc.1 3000 o = nc ∧ σr.2.2 10009 121 2 = nc ∧ 1 ≤ nc ∧ nc ≤ 10) ∧ 0 ≤ σc.1 5007 73
theorem MRr.mv {m' : Int} (h : MRr σc o σr nc m') (h1 : ∀ e, [3011, 3012, 3013, 3014, 3015, 3016, 3017].elem e = true → σc'.2.2 e o = σc.2.2 e o) (h0 : σc'.2.2 0 (o + 17) = σc.2.2 0 (o + 17)) (h2 : ∀ e, 10019 ≤ e → e ≤ 10026 → σr'.2.2 e 121 = σr.2.2 e 121) (h3 : ∀ i, 0 ≤ i → i < 120 → ∀ e, e = 1 ∨ e = 2 ∨ e = 3 → σc'.2.2 e (o + 17) (m' * 120 + i) = σc.2.2 e (o + 17) (m' * 120 + i)) (h4 : ∀ i, 0 ≤ i → i < 120 → ∀ e, e = 10027 ∨ e = 10028 ∨ e = 10029 → σr'.2.2 e 121 (19200 + 120 * m' + i) = σr.2.2 e 121 (19200 + 120 * m' + i)) : MRr σc' o σr' nc m' := by
  unfold MRr at *
  rw [h1 3011 rfl, h1 3012 rfl, h1 3013 rfl, h1 3014 rfl, h1 3015 rfl, h1 3016 rfl, h1 3017 rfl, h0, h2 10019 (by omega) (by omega), h2 10020 (by omega) (by omega), h2 10021 (by omega) (by omega), h2 10022 (by omega) (by omega), h2 10023 (by omega) (by omega), h2 10024 (by omega) (by omega), h2 10025 (by omega) (by omega), h2 10026 (by omega) (by omega)]
  obtain ⟨a1, a2, a3, a4⟩ := h
  have hl := a2.2.2.2.2
  exact ⟨a1, a2, a3, fun i i0 i1 => (a4 i i0 i1).mv (h3 i i0 (by omega)) (h4 i i0 (by omega))⟩
theorem TL.step {v a b pl : Int} {s2 : Ps} (h : TL σc o σr m i) (m0 : 0 ≤ m) (i0 : 0 ≤ i) (i1 : i < 120) (i2 : i < σc.2.2 0 (o + 17) m) (hT : 0 ≤ σc.1 5007 73) (hT4 : σc.1 5007 73 < 4000) (hpl : 0 ≤ pl) (hc : cIns σc o (m * 120 + i) v a b pl s2 σc') (hr : rIns σr (19200 + 120 * m + i) v a b pl s2 σr') : TL σc' o σr' m (i + 1) := by
  obtain ⟨c1, -, -, ⟨c4, -, -, -⟩, -, c6, c7⟩ := hc
  obtain ⟨-, -, -, -, -, w, r6, r7⟩ := hr
  obtain ⟨h1, h2, h3⟩ := h
  have e0 : σc'.2.2 0 (o + 17) = σc.2.2 0 (o + 17) := c1.2.2 0 (o + 17) rfl
  have ex : 19200 + 120 * m + i - 19200 = m * 120 + i := by omega
  rw [ex] at r6
  have vl : ∀ m' i', vld (σc.2.2 0 (o + 17)) m (i + 1) m' i' → vld (σc.2.2 0 (o + 17)) m i m' i' ∨ (m' = m ∧ i' = i) := by
    intro m' i' q
    obtain ⟨q1, q2, q3, q4, q5⟩ := q
    rcases q5 with q5 | ⟨q5, q6⟩
    · exact Or.inl ⟨q1, q2, q3, q4, Or.inl q5⟩
    · by_cases g : i' = i
      · exact Or.inr ⟨q5, g⟩
      · exact Or.inl ⟨q1, q2, q3, q4, Or.inr ⟨q5, by omega⟩⟩
  have lv : ∀ m' i', vld (σc.2.2 0 (o + 17)) m i m' i' → vld (σc.2.2 0 (o + 17)) m (i + 1) m' i' ∧ m' * 120 + i' < m * 120 + i := by
    intro m' i' q
    obtain ⟨q1, q2, q3, q4, q5⟩ := q
    exact ⟨⟨q1, q2, q3, q4, by omega⟩, by omega⟩
  have ov : ∀ m' i', vld (σc.2.2 0 (o + 17)) m i m' i' → σc'.2.2 1 (o + 17) (m' * 120 + i') = σc.2.2 1 (o + 17) (m' * 120 + i') ∧ σr'.2.2 10033 121 (m' * 120 + i') = σr.2.2 10033 121 (m' * 120 + i') := by
    intro m' i' q
    have := (lv m' i' q).2
    rw [c4, r6, iu_n (by omega), iu_n (by omega)]
    exact ⟨rfl, rfl⟩
  have ow : σc'.2.2 1 (o + 17) (m * 120 + i) = v := by rw [c4]; exact iu_r
  by_cases g : twop v = true
  · obtain ⟨d1, d2, d3⟩ := c6 g hT4
    have wp := r7 g
    refine ⟨fun n n0 n1 => ?_, fun n n' n0 n1 n2 => ?_, fun m' i' q ht => ?_⟩
    · rw [d1] at n1
      rw [e0, d2, d3]
      by_cases gn : n = σc.1 5007 73
      · subst gn
        refine ⟨m, i, ⟨m0, i0, i1, i2, Or.inr ⟨rfl, by omega⟩⟩, iu_r, by rw [ow]; exact g, ?_, by rw [iu_r]; exact hpl⟩
        rw [iu_r, r6, iu_r, wp]
      · obtain ⟨m', i', q1, q2, q3, q4, q5⟩ := h1 n n0 (by omega)
        obtain ⟨u1, u2⟩ := ov m' i' q1
        refine ⟨m', i', (lv m' i' q1).1, by rw [iu_n gn]; exact q2, by rw [u1]; exact q3, ?_, by rw [iu_n gn]; exact q5⟩
        rw [iu_n gn, u2]
        exact q4
    · rw [d1] at n2
      rw [d2]
      by_cases gn : n' = σc.1 5007 73
      · subst gn
        rw [iu_r, iu_n (by omega)]
        obtain ⟨m', i', q1, q2, -⟩ := h1 n n0 n1
        rw [q2]
        exact (lv m' i' q1).2
      · rw [iu_n (by omega), iu_n gn]
        exact h2 n n' n0 n1 (by omega)
    · rw [e0] at q
      rw [d1, d2]
      rcases vl m' i' q with q' | ⟨rfl, rfl⟩
      · rw [(ov m' i' q').1] at ht
        obtain ⟨n, n0, n1, n2⟩ := h3 m' i' q' ht
        exact ⟨n, n0, by omega, by rw [iu_n (by omega)]; exact n2⟩
      · exact ⟨_, hT, by omega, iu_r⟩
  · have gf : twop v = false := by simpa using g
    obtain ⟨d1, d2, d3⟩ := c7 gf
    refine ⟨fun n n0 n1 => ?_, fun n n' n0 n1 n2 => ?_, fun m' i' q ht => ?_⟩
    · rw [d1] at n1
      rw [e0, d2, d3]
      obtain ⟨m', i', q1, q2, q3, q4, q5⟩ := h1 n n0 n1
      obtain ⟨u1, u2⟩ := ov m' i' q1
      exact ⟨m', i', (lv m' i' q1).1, q2, by rw [u1]; exact q3, by rw [u2]; exact q4, q5⟩
    · rw [d1] at n2
      rw [d2]
      exact h2 n n' n0 n1 n2
    · rw [e0] at q
      rw [d1, d2]
      rcases vl m' i' q with q' | ⟨rfl, rfl⟩
      · rw [(ov m' i' q').1] at ht
        exact h3 m' i' q' ht
      · rw [ow, gf] at ht
        cases ht
theorem TC.fg {fi fa : Nat → Nat → Bool} (h : TC σc tb sz) (hf : frg fi fa σc σc') (h1 : fi 5001 73 = false) (h2 : fa 9000 0 = false) : TC σc' tb sz := ⟨(hf.2.1 _ _ h1).trans h.1, h.2.1, by rw [hf.1]; exact h.2.2.1, by rw [hf.2.2 _ _ h2]; exact h.2.2.2⟩
theorem TR.fr {li la : List Nat} (h : TR σr tb sz) (hf : frm li la σr σr') (h1 : li.elem 10003 = false) (h2 : la.elem 10001 = false) : TR σr' tb sz := ⟨(hf.2.1 _ _ h1).trans h.1, h.2.1, by rw [hf.2.2 _ _ h2]; exact h.2.2⟩
/-- the slots ahead of the last one stay -/
def loS (e : Nat) : Int := if e = 10009 ∨ e = 10018 then 2 else if e ≤ 10014 then 20 else if e ≤ 10017 then 120 else if e = 10024 then 480 else if e ≤ 10026 then 160 else 19200
def LO (σ σ' : j3_S) : Prop := ∀ e z, 10009 ≤ e → e ≤ 10032 → z < loS e → σ'.2.2 e 121 z = σ.2.2 e 121 z
theorem LO.rf {σ : j3_S} : LO σ σ := fun _ _ _ _ _ => rfl
theorem LO.tr {σ σ' σ'' : j3_S} (h : LO σ σ') (h' : LO σ' σ'') : LO σ σ'' := fun e z a b c => (h' e z a b c).trans (h e z a b c)
theorem LO.A {σ : j3_S} {e : Nat} {i x : Int} {f : Nat → Nat → Int} {A : Nat → Nat → Int → Int} {p : Nat → Nat} (h : LO σ (f, p, A)) (he : loS e ≤ i) : LO σ (f, p, j3_ast A e 121 i x) := by
  intro e' z a b c
  have := h e' z a b c
  simp only [j3_ast]
  by_cases q : e' = e
  · subst q
    rw [up_r, iu_n (by omega)]
    exact this
  · rw [up_e (by simpa using q)]
    exact this
theorem LO.fr {σ σ' : j3_S} {li la : List Nat} (h : frm li la σ σ') (hl : la.all (fun e => decide (e < 10009) || decide (10032 < e)) = true) : LO σ σ' := by
  intro e z a b c
  rw [h.2.2 e 121]
  cases hb : la.elem e
  · rfl
  · have := List.all_eq_true.mp hl e (by simpa using hb)
    simp only [Bool.or_eq_true, decide_eq_true_eq] at this
    omega
theorem rIns.lo {x v a b pl : Int} {s2 : Ps} (h : rIns σr x v a b pl s2 σr') (hx : 19200 ≤ x) : LO σr σr' := by
  obtain ⟨h1, -, h3, h4, h5, -⟩ := h
  intro e z e0 e1 hz
  by_cases g : e = 10027 ∨ e = 10028 ∨ e = 10029
  · rcases g with rfl | rfl | rfl
    · rw [show loS 10027 = 19200 from rfl] at hz
      rw [h3, iu_n (by omega)]
    · rw [show loS 10028 = 19200 from rfl] at hz
      rw [h4, iu_n (by omega)]
    · rw [show loS 10029 = 19200 from rfl] at hz
      rw [h5, iu_n (by omega)]
  · rw [h1.2.2 e 121]
    simp
    omega
theorem iL (m0 : 0 ≤ m) (m1 : m < 80) (n1 : 0 ≤ nl ∧ nl ≤ 20) (n2 : 1 ≤ len ∧ len ≤ 120) {c : Int} : ∀ (r : Nat) (i : Int) (st : Ps) (σc σr : j3_S), i + r = len → 0 ≤ i → pre σc o σr tb sz nc st → σc.2.2 3017 o m = nl → σc.2.2 0 (o + 17) m = len → σr.2.2 10025 121 (160 + m) = nl → σr.2.2 10026 121 (160 + m) = len → okI σc o σr nl len nc m i st →
    ∃ st' σc' σr', (∀ d Q, Q none σc' → T68 (d + 3) Q 102 [wO 5 73, wI c, wI m, wI i] [] σc) ∧ (∀ d Q, Q none σr' → T163 (d + 3) Q 115 [wO 10 121, wI c, wI m, wI (160 + m), wI i] [] σr) ∧ pre σc' o σr' tb sz nc st' ∧ frg fiI (faI o) σc σc' ∧ frm [10004, 10007] [10008, 10027, 10028, 10029, 10033] σr σr' ∧ okI σc' o σr' nl len nc m len st' ∧ (st'.2 = 0 → st.2 = 0) ∧ LO σr σr'
  | 0, i, st, σc, σr, hi, i0, hp, hnl, hlen, hnl', hlen', hk => by
    obtain ⟨⟨t1, t2, t3⟩, ⟨u1, u2, u3⟩, ⟨v1, v2, v3, v4, v5, v6⟩, w1⟩ := id hp
    have : i = len := by omega
    subst this
    refine ⟨st, σc, σr, fun d Q h => ?_, fun d Q h => ?_, hp, frg.rf, frm.rf, hk, id, LO.rf⟩
    · rw [b68_102, v1, hlen, if_neg (by omega)]
      exact ⟨v2, by omega, h⟩
    · rw [b163_115, hlen', if_neg (by omega)]
      exact ⟨by omega, h⟩
  | r + 1, i, st, σc, σr, hi, i0, hp, hnl, hlen, hnl', hlen', hk => by
    obtain ⟨⟨t1, t2, t3⟩, ⟨u1, u2, u3⟩, ⟨v1, v2, v3, v4, v5, v6⟩, w1⟩ := id hp
    by_cases gf : st.2 = 0
    · obtain ⟨k1, k2, k3, k4⟩ := hk gf
      obtain ⟨σ1, hc, C⟩ := outc (k := false) (n := 3) (r := none) (M := cIns σc o (m * 120 + i) (nxv tb sz st 0 26) (rda tb sz nl len nc st).1 (rdb tb sz nl len nc st).1 (rda tb sz nl len nc st).2.1 (rdb tb sz nl len nc st).2) (s69 (d := 0) (m := m) (sp := m * 120 + i) t1 u1 u2 t3 v1 v2 (by omega) (by omega) m0 m1 hnl hlen v3 n1 n2 ⟨v5, v6⟩ w1 (fun σ' h' => ⟨rfl, h'⟩))
      obtain ⟨σ2, hr, R⟩ := outc (k := true) (n := 3) (r := none) (M := rIns σr (19200 + 120 * m + i) (nxv tb sz st 0 26) (rda tb sz nl len nc st).1 (rdb tb sz nl len nc st).1 (rda tb sz nl len nc st).2.1 (rdb tb sz nl len nc st).2) (s166 (d := 0) (kk := 160 + m) (x := 19200 + 120 * m + i) t2 t3 u3 (by omega) (by omega) (by omega) (by omega) hnl' hlen' v4 n1 n2 ⟨v5, v6⟩ (fun σ' h' => ⟨rfl, h'⟩))
      have hpl := (rdb_o (tb := tb) (nl := nl) (len := len) (nc := nc) t3).1.1
      have hps := (rdb_o (tb := tb) (nl := nl) (len := len) (nc := nc) t3).2
      have hok := rdb_ok (tb := tb) (nl := nl) (len := len) (nc := nc) t3
      generalize nxv tb sz st 0 26 = v at hc hr hok
      generalize (rda tb sz nl len nc st).1 = a at hc hr hok
      generalize (rda tb sz nl len nc st).2.1 = pl at hc hr hpl
      generalize (rdb tb sz nl len nc st).1 = b at hc hr hok
      generalize (rdb tb sz nl len nc st).2 = s2 at hc hr hps hok
      obtain ⟨c1, c2, c3, ⟨c4, c5, c6, -⟩, c8, c9, c10⟩ := id hc
      obtain ⟨r1, r2, r3, r4, r5, -⟩ := id hr
      have hp' : pre σ1 o σ2 tb sz nc s2 := ⟨⟨t1.fg c1 rfl rfl, t2.fr r1 rfl rfl, hps⟩, ⟨c2, c3, r2⟩, ⟨by rw [c1.1]; exact v1, v2, (c1.2.1 3000 o rfl).trans v3, by rw [r1.2.2 10009 121 rfl]; exact v4, v5, v6⟩, c8⟩
      have hk' : okI σ1 o σ2 nl len nc m (i + 1) s2 := by
        intro q
        obtain ⟨w2, w3, w4, w5⟩ := hok q
        refine ⟨fun m' h0 h1 => ?_, fun i' h0 h1 => ?_, ?_, ?_⟩
        · refine (k1 m' h0 h1).mv (fun e he => ?_) (c1.2.2 0 (o + 17) rfl) (fun e h2 h3 => ?_) (fun j j0 j1 e he => ?_) (fun j j0 j1 e he => ?_)
          · refine c1.2.2 e o ?_
            simp at he
            rcases he with rfl | rfl | rfl | rfl | rfl | rfl | rfl <;> rfl
          · refine r1.2.2 e 121 ?_
            cases hb : [10008, 10027, 10028, 10029, 10033].elem e
            · rfl
            · simp at hb
              omega
          · rcases he with rfl | rfl | rfl
            · rw [c4, iu_n (by omega)]
            · rw [c5, iu_n (by omega)]
            · rw [c6, iu_n (by omega)]
          · rcases he with rfl | rfl | rfl
            · rw [r3, iu_n (by omega)]
            · rw [r4, iu_n (by omega)]
            · rw [r5, iu_n (by omega)]
        · by_cases g : i' = i
          · subst g
            unfold IRr
            rw [c4, c5, c6, r3, r4, r5]
            simp only [iu_r]
            exact ⟨by simp, w5⟩
          · refine (k2 i' h0 (by omega)).mv (fun e he => ?_) (fun e he => ?_)
            · rcases he with rfl | rfl | rfl
              · rw [c4, iu_n (by omega)]
              · rw [c5, iu_n (by omega)]
              · rw [c6, iu_n (by omega)]
            · rcases he with rfl | rfl | rfl
              · rw [r3, iu_n (by omega)]
              · rw [r4, iu_n (by omega)]
              · rw [r5, iu_n (by omega)]
        · exact k3.step m0 i0 (by omega) (by omega) w1 (by have := t1.2.1; omega) hpl hc hr
        · cases gt : twop v
          · rw [(c10 gt).1]
            omega
          · rw [(c9 gt (by have := t1.2.1; omega)).1]
            omega
      obtain ⟨st', σc', σr', E1, E2, E3, E4, E5, E6, E7, E8⟩ := iL m0 m1 n1 n2 (c := c) r (i + 1) s2 σ1 σ2 (by omega) (by omega) hp' (by rw [c1.2.2 3017 o rfl]; exact hnl) (by rw [c1.2.2 0 (o + 17) rfl]; exact hlen) (by rw [r1.2.2 10025 121 rfl]; exact hnl') (by rw [r1.2.2 10026 121 rfl]; exact hlen') hk'
      refine ⟨st', σc', σr', fun d Q h => ?_, fun d Q h => ?_, E3, c1.tr E4, r1.tr E5, E6, fun q => (hok (E7 q)).1, (rIns.lo hr (by omega)).tr E8⟩
      · rw [b68_102, v1, hlen, if_pos (by omega), u2, if_pos gf]
        simp (disch := omega) only [wr_id]
        refine ⟨v2, by omega, C d _ ?_⟩
        simp only [Option.toList_none, List.nil_append]
        rw [b68_121, wr_id (by omega) (by omega)]
        exact E1 d Q h
      · rw [b163_115, hlen', if_pos (by omega), u3.2.1, if_pos gf, s160 (by omega) (by omega) m0 m1 i0 (by omega)]
        simp only [Option.toList_some, List.cons_append, List.nil_append]
        rw [b163_130, show (9600 : Int) * 2 = 19200 by decide]
        refine ⟨by omega, R d _ ?_⟩
        simp only [Option.toList_none, List.nil_append]
        rw [b163_131, wr_id (by omega) (by omega)]
        exact E2 d Q h
    · refine ⟨st, σc, σr, fun d Q h => ?_, fun d Q h => ?_, hp, frg.rf, frm.rf, fun q => absurd q gf, id, LO.rf⟩
      · rw [b68_102, v1, hlen, if_pos (by omega), u2, if_neg gf]
        exact ⟨v2, by omega, h⟩
      · rw [b163_115, hlen', if_pos (by omega), u3.2.1, if_neg gf]
        exact ⟨by omega, h⟩
end LOOP
