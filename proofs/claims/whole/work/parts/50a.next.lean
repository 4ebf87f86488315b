/-! reading: the next byte on both sides -/
def frg (fi fa : Nat → Nat → Bool) (σ σ' : j3_S) : Prop := σ'.2.1 = σ.2.1 ∧ (∀ e o, fi e o = false → σ'.1 e o = σ.1 e o) ∧ ∀ e o, fa e o = false → σ'.2.2 e o = σ.2.2 e o
section FRG
variable {fi fa : Nat → Nat → Bool} {σ σ' σ'' : j3_S}
theorem frg.rf : frg fi fa σ σ := ⟨rfl, fun _ _ _ => rfl, fun _ _ _ => rfl⟩
theorem frg.tr (h : frg fi fa σ σ') (h' : frg fi fa σ' σ'') : frg fi fa σ σ'' := ⟨h'.1.trans h.1, fun e o g => (h'.2.1 e o g).trans (h.2.1 e o g), fun e o g => (h'.2.2 e o g).trans (h.2.2 e o g)⟩
theorem up_ne {α : Type} {f : Nat → Nat → α} {e o e' o' : Nat} {v : α} (h : ¬ (e' = e ∧ o' = o)) : j3_up f e o v e' o' = f e' o' := by
  unfold j3_up
  have : ((e' == e) && (o' == o)) = false := by
    rw [Bool.and_eq_false_iff]
    by_cases g : e' = e
    · right
      simp only [beq_eq_false_iff_ne]
      exact fun q => h ⟨g, q⟩
    · left
      simpa using g
  rw [this]
  rfl
theorem frg.I {e o : Nat} {v : Int} {f : Nat → Nat → Int} {A : Nat → Nat → Int → Int} {P : Nat → Nat} (he : fi e o = true) (h : frg fi fa σ (f, P, A)) : frg fi fa σ (j3_up f e o v, P, A) := ⟨h.1, fun e' o' g => (up_ne (fun q => by rw [q.1, q.2, he] at g; cases g)).trans (h.2.1 e' o' g), h.2.2⟩
theorem frg.A {e o : Nat} {v : Int → Int} {f : Nat → Nat → Int} {A : Nat → Nat → Int → Int} {P : Nat → Nat} (he : fa e o = true) (h : frg fi fa σ (f, P, A)) : frg fi fa σ (f, P, j3_up A e o v) := ⟨h.1, h.2.1, fun e' o' g => (up_ne (fun q => by rw [q.1, q.2, he] at g; cases g)).trans (h.2.2 e' o' g)⟩
theorem frg.of {li la : List Nat} (h : frm li la σ σ') (h1 : ∀ e o, fi e o = false → li.elem e = false) (h2 : ∀ e o, fa e o = false → la.elem e = false) : frg fi fa σ σ' := ⟨h.1, fun e o g => h.2.1 e o (h1 e o g), fun e o g => h.2.2 e o (h2 e o g)⟩
theorem frg.wd {fi' fa' : Nat → Nat → Bool} (h : frg fi fa σ σ') (h1 : ∀ e o, fi' e o = false → fi e o = false) (h2 : ∀ e o, fa' e o = false → fa e o = false) : frg fi' fa' σ σ' := ⟨h.1, fun e o g => h.2.1 e o (h1 e o g), fun e o g => h.2.2 e o (h2 e o g)⟩
end FRG
/-- the tape as it is read -/
def TC (σ : j3_S) (tb : Int → Int) (sz : Int) : Prop := σ.1 5001 73 = sz ∧ sz ≤ 4000 ∧ ¬ σ.2.1 3 = 0 ∧ ∀ i, 0 ≤ i → i < sz → i_an (σ.2.2 9000 0 i) 255 = tb i
def TR (σ : j3_S) (tb : Int → Int) (sz : Int) : Prop := σ.1 10003 121 = sz ∧ sz ≤ 4000 ∧ ∀ i, 0 ≤ i → i < sz → σ.2.2 10001 121 i = tb i
/-- place and whether it failed -/
abbrev Ps : Type := Int × Int
def nxv (tb : Int → Int) (sz : Int) (st : Ps) (lo hi : Int) : Int := if st.2 = 0 ∧ st.1 < sz ∧ lo ≤ tb st.1 ∧ tb st.1 ≤ hi then tb st.1 else lo
def nxs (tb : Int → Int) (sz : Int) (st : Ps) (lo hi : Int) : Ps := if st.2 = 0 ∧ st.1 < sz ∧ lo ≤ tb st.1 ∧ tb st.1 ≤ hi then (st.1 + 1, 0) else (st.1, 1)
def pso (sz : Int) (st : Ps) : Prop := 0 ≤ st.1 ∧ st.1 ≤ sz ∧ (st.2 = 0 ∨ st.2 = 1)
def cS (σ : j3_S) (st : Ps) : j3_S := (j3_up (j3_up σ.1 5002 73 st.1) 5003 73 st.2, σ.2.1, σ.2.2)
def rS (σ : j3_S) (st : Ps) : j3_S := if st.2 = 0 then (j3_up (j3_up σ.1 10004 121 st.1) 10007 121 0, σ.2.1, σ.2.2) else (j3_up (j3_up σ.1 10004 121 st.1) 10007 121 1, σ.2.1, j3_up σ.2.2 10008 121 (i_up (i_up (i_up (σ.2.2 10008 121) 0 st.1) 1 (-1)) 2 (-1)))
section NX
variable {d : Nat} {Q : j3_P} {σ : j3_S} {tb : Int → Int} {sz lo hi : Int} {st : Ps}
theorem nxv_b (h : lo ≤ hi) : lo ≤ nxv tb sz st lo hi ∧ nxv tb sz st lo hi ≤ hi := by
  unfold nxv
  split <;> omega
theorem nxs_o (h : pso sz st) : pso sz (nxs tb sz st lo hi) := by
  unfold nxs pso at *
  split
  · exact ⟨by dsimp only; omega, by dsimp only; omega, Or.inl rfl⟩
  · exact ⟨h.1, h.2.1, Or.inr rfl⟩
theorem nxs_f (h : (nxs tb sz st lo hi).2 = 0) : st.2 = 0 ∧ (nxs tb sz st lo hi).1 = st.1 + 1 := by
  unfold nxs at *
  split at h
  · rename_i g
    rw [if_pos g]
    exact ⟨g.1, rfl⟩
  · cases h
theorem nxs_1 (h : ¬ st.2 = 0) (h1 : pso sz st) : nxs tb sz st lo hi = st ∧ nxv tb sz st lo hi = lo := by
  unfold nxs nxv
  rw [if_neg (fun q => h q.1), if_neg (fun q => h q.1)]
  refine ⟨Prod.ext rfl ?_, rfl⟩
  have := h1.2.2
  omega
theorem cS_id : cS σ (σ.1 5002 73, σ.1 5003 73) = σ := by
  unfold cS
  rw [up_id, up_id' (by rfl)]
theorem cS_cS {a b : Ps} : cS (cS σ a) b = cS σ b := by
  refine Prod.ext ?_ rfl
  funext e o
  simp only [cS, j3_up]
  cases (e == 5003) && (o == 73) <;> cases (e == 5002) && (o == 73) <;> rfl
theorem s66 (hT : TC σ tb sz) (hs : pso sz st) : j3_tc false (d + 1) 66 [wO 5 73, wI lo, wI hi] (cS σ st) Q = Q (some (wI (nxv tb sz st lo hi))) (cS σ (nxs tb sz st lo hi)) := by
  obtain ⟨t1, t2, t3, t4⟩ := hT
  obtain ⟨p1, p2, p3⟩ := hs
  have r1 : (cS σ st).1 5003 73 = st.2 := by simp [cS, j3_up]
  have r2 : (cS σ st).1 5002 73 = st.1 := by simp [cS, j3_up]
  have r3 : (cS σ st).1 5001 73 = sz := by rw [← t1]; simp [cS, j3_up]
  have bad : (j3_up (cS σ st).1 5003 73 1, (cS σ st).2.1, (cS σ st).2.2) = cS σ (st.1, 1) := by
    refine Prod.ext ?_ rfl
    simp only [cS, up_up]
  rw [e66, b66_0, r1, r2, r3]
  unfold nxv nxs
  by_cases g1 : st.2 = 0
  · rw [if_pos g1]
    by_cases g2 : st.1 < sz
    · have eb := t4 st.1 p1 g2
      have t3' : ¬ (cS σ st).2.1 3 = 0 := t3
      rw [if_pos g2, if_pos (by omega), show (cS σ st).2.2 9000 0 st.1 = σ.2.2 9000 0 st.1 from rfl, eb]
      have hc : (0 ≤ st.1 ∧ st.1 < 4000) = True := by simp; omega
      simp only [t3', hc, not_false_eq_true, true_and]
      by_cases g3 : tb st.1 < lo
      · rw [if_pos g3, b66_33, bad, if_neg (by omega), if_neg (by omega)]
        simp
      · rw [if_neg g3]
        by_cases g4 : hi < tb st.1
        · rw [if_pos g4, b66_33, bad, if_neg (by omega), if_neg (by omega)]
          simp
        · rw [if_neg g4, if_pos (by omega), if_pos (by omega), wr_id (by omega) (by omega)]
          congr 1
          refine Prod.ext ?_ rfl
          funext e o
          simp only [cS, j3_up, g1]
          cases h1 : (e == 5003) && (o == 73) <;> cases h2 : (e == 5002) && (o == 73) <;> simp_all
    · rw [if_neg g2, b66_14, bad, if_neg (by omega), if_neg (by omega)]
      simp
  · rw [if_neg g1, b66_14, bad, if_neg (by omega), if_neg (by omega)]
    simp
/-- the reference's state and the place: agree -/
def rOk (σ : j3_S) (st : Ps) : Prop := σ.1 10004 121 = st.1 ∧ σ.1 10007 121 = st.2 ∧ (¬ st.2 = 0 → σ.2.2 10008 121 0 = st.1 ∧ σ.2.2 10008 121 1 = -1 ∧ σ.2.2 10008 121 2 = -1)
/-- only place and fault change -/
def rFr (σ σ' : j3_S) : Prop := frm [10004, 10007] [10008] σ σ'
theorem s159 (hT : TR σ tb sz) (hs : pso sz st) (hr : rOk σ st) (hQ : ∀ σ', rFr σ σ' → rOk σ' (nxs tb sz st lo hi) → Q (some (wI (nxv tb sz st lo hi))) σ') : j3_tc true (d + 2) 159 [wO 10 121, wI lo, wI hi] σ Q := by
  obtain ⟨t1, t2, t4⟩ := hT
  obtain ⟨p1, p2, p3⟩ := hs
  obtain ⟨q1, q2, q3⟩ := hr
  rw [e159, b159_0, q1, q2, t1]
  unfold nxv nxs at hQ
  have bad : st.2 = 0 → rFr σ (wrS σ 1 st.1 (-1) (-1)) ∧ rOk (wrS σ 1 st.1 (-1) (-1)) (st.1, 1) := by
    intro h0
    have hb : σ.1 10007 121 = 0 := q2.trans h0
    have hf : frm [10007] [10008] σ (wrS σ 1 st.1 (-1) (-1)) := wrS_f
    refine ⟨hf.wd (sub_el rfl) (sub_el rfl), (hf.2.1 10004 121 rfl).trans q1, wrS_1 hb, fun _ => ?_⟩
    unfold wrS
    rw [if_pos hb]
    simp [j3_ast, j3_up, i_up]
  by_cases g1 : st.2 = 0
  · rw [if_pos g1]
    by_cases g2 : st.1 < sz
    · have eb := t4 st.1 p1 g2
      rw [if_pos g2, eb]
      refine ⟨by omega, ?_⟩
      by_cases g3 : tb st.1 < lo
      · rw [if_neg (by omega), if_neg (by omega)] at hQ
        rw [if_pos g3, b159_31, q1, s158]
        simp only [Option.toList_none, List.nil_append]
        rw [b159_38]
        exact hQ _ (bad g1).1 (bad g1).2
      · rw [if_neg g3]
        by_cases g4 : hi < tb st.1
        · rw [if_neg (by omega), if_neg (by omega)] at hQ
          rw [if_pos g4, b159_31, q1, s158]
          simp only [Option.toList_none, List.nil_append]
          rw [b159_38]
          exact hQ _ (bad g1).1 (bad g1).2
        · rw [if_pos (by omega), if_pos (by omega)] at hQ
          rw [if_neg g4, wr_id (by omega) (by omega)]
          refine hQ _ (frm.I rfl frm.rf) ⟨by simp [j3_up], ?_, fun h => absurd rfl h⟩
          simp only [up_e (show ((10007 : Nat) == 10004) = false from rfl)]
          rw [q2, g1]
    · rw [if_neg (by omega), if_neg (by omega)] at hQ
      have es : st.1 = sz := by omega
      rw [if_neg g2, ← es, s158]
      simp only [Option.toList_none, List.nil_append]
      rw [b159_17]
      exact hQ _ (bad g1).1 (bad g1).2
  · rw [if_neg (by omega), if_neg (by omega)] at hQ
    rw [if_neg g1]
    exact hQ σ frm.rf ⟨q1, q2.trans (by dsimp only; omega), fun _ => q3 g1⟩
end NX
