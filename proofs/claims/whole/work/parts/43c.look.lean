/-! the class's lookAt -/
section LOOK
variable {d : Nat} {Q : j3_P} {P : Pg} {σ : j3_S} {F : Fl} {i j n m nl op a b : Int}
theorem s7 (hp : ¬ σ.2.1 0 = 0) (hm : σ.1 1003 76 = m) (m0 : 0 ≤ m) (m1 : m < 80) (hl : σ.2.2 3017 (σ.2.1 0) m = nl) (l0 : 0 ≤ nl) (l1 : nl ≤ 20) (i0 : 0 ≤ i) (i1 : i < 120) (hn : σ.2.2 1005 76 i = n) (n0 : 0 ≤ n) (n1 : n ≤ 10) : j3_tc false (d + 1) 7 [wO 1 76, wI i] σ Q = Q none (j3_up σ.1 1010 76 n, σ.2.1, j3_up (j3_up σ.2.2 1008 76 (i_cp (σ.2.2 1006 76) (σ.2.2 1008 76) (i * 10) 0 n)) 1009 76 (i_cp (σ.2.2 1007 76) (σ.2.2 1009 76) (i * 20) 0 nl)) := by
  rw [e7, b7_0]
  simp (disch := omega) only [wr_id, hn, hm, hl]
  simp only [j3_acp]
  rw [up_e rfl, up_e rfl]
  have c1 : (0 ≤ i ∧ i < 120) = True := by simp; omega
  have c2 : (0 ≤ m ∧ m < 80) = True := by simp; omega
  have c3 : (0 ≤ i * 10 ∧ 0 ≤ (0 : Int) ∧ 0 ≤ n ∧ i * 10 + n ≤ 1200 ∧ 0 + n ≤ 10) = True := by simp; omega
  have c4 : (0 ≤ i * 20 ∧ 0 ≤ (0 : Int) ∧ 0 ≤ nl ∧ i * 20 + nl ≤ 2400 ∧ 0 + nl ≤ 20) = True := by simp; omega
  simp only [c1, c2, c3, c4, true_and, hp, not_false_eq_true]
def qS (σ : j3_S) (q : Int) : j3_S := (j3_up σ.1 1010 76 q, σ.2.1, σ.2.2)
theorem qS_1 {q : Int} : (qS σ q).1 1010 76 = q := by simp [qS, j3_up]
theorem qS_e {q : Int} {e o : Nat} (h : (e == 1010) = false) : (qS σ q).1 e o = σ.1 e o := up_e h
theorem qS_f {q : Int} : frm [1004, 1010, 1012, 1013, 1014] [1005, 1006, 1007, 1008, 1009, 1011] σ (qS σ q) := frm.I rfl frm.rf
theorem l13 {w : List Int} {q : Int} (hp : ¬ σ.2.1 0 = 0) (hC : CP σ (σ.2.1 0) P) (hs : WFs P) (hw4 : w.length ≤ 4) (hwr : ∀ k : Nat, k < w.length → σ.2.2 1011 76 k = w.getD k 0 ∧ wno P (w.getD k 0)) (hn : σ.1 1010 76 = q) (q0 : 0 ≤ q) (q1 : q + w.length ≤ 10) (hts : ∀ k, 0 ≤ k → k < q + w.length → tyo P (σ.2.2 1008 76 k)) : ∀ k : Nat, k ≤ w.length → T13 (d + 2) Q 19 [wO 1 76, wI op, wI ((k : Int) - 1)] [] σ = if af P (σ.2.2 1008 76) w q k = true then T13 (d + 2) Q 19 [wO 1 76, wI op, wI (-1)] [] σ else Q (some (wI 4)) σ
  | 0, _ => by simp [af]
  | k + 1, hk => by
    have e1 : ((k + 1 : Nat) : Int) - 1 = (k : Int) := by omega
    obtain ⟨r1, r2⟩ := hwr k (by omega)
    rw [e1, b13_19, if_neg (by omega), hn]
    simp (disch := omega) only [wr_id]
    rw [r1, s14 hp hC hs (hts _ (by omega) (by omega)) r2]
    simp only [Option.toList_some, List.cons_append, List.nil_append]
    rw [b13_34, wr_id (by omega) (by omega)]
    have c1 : (0 ≤ q + (k : Int) ∧ q + (k : Int) < 10) = True := by simp; omega
    have c2 : (0 ≤ (k : Int) ∧ (k : Int) < 4) = True := by simp; omega
    simp only [c1, c2, true_and, b2i_0]
    have es : af P (σ.2.2 1008 76) w q (k + 1) = (ftt P (σ.2.2 1008 76 (q + (k : Int))) (w.getD k 0) && af P (σ.2.2 1008 76) w q k) := rfl
    rw [show (k : Int) + -1 = (k : Int) - 1 by omega, l13 hp hC hs hw4 hwr hn q0 q1 hts k (by omega)]
    by_cases hf : ftt P (σ.2.2 1008 76 (q + (k : Int))) (w.getD k 0) = false
    · rw [if_pos hf, if_neg (by rw [es, hf]; simp)]
    · by_cases ha : af P (σ.2.2 1008 76) w q k = true
      · rw [if_neg hf, if_pos ha, if_pos (by rw [es, Bool.and_eq_true]; exact ⟨by simpa using hf, ha⟩)]
      · rw [if_neg hf, if_neg ha, if_neg (fun z => ha (by rw [es, Bool.and_eq_true] at z; exact z.2))]
theorem s13 {w : List Int} {g : Int} (hp : ¬ σ.2.1 0 = 0) (hC : CP σ (σ.2.1 0) P) (hs : WFs P) (hw : σ.1 1012 76 = w.length) (hw4 : w.length ≤ 4) (hwr : ∀ k : Nat, k < w.length → σ.2.2 1011 76 k = w.getD k 0 ∧ wno P (w.getD k 0)) (hn : σ.1 1010 76 = n) (n0 : 0 ≤ n) (n1 : n ≤ 10) (hts : ∀ k, 0 ≤ k → k < n → tyo P (σ.2.2 1008 76 k)) (h35 : op = 3 ∨ op = 5 → w.length = 1) (hg : σ.1 1014 76 = g) (g0 : 0 ≤ g) (g1 : g ≤ 1) :
    j3_tc false (d + 3) 13 [wO 1 76, wI op] σ Q = if n < w.length then Q (some (wI 3)) σ else if af P (σ.2.2 1008 76) w (n - w.length) w.length = false then Q (some (wI 4)) (qS σ (n - w.length)) else if op = 2 ∧ σ.1 1013 76 = 0 then Q (some (wI 4)) (qS σ (n - w.length)) else
      if op = 3 ∨ op = 5 then (if 10 < n - w.length + (if op = 5 then 2 else 0) then Q (some (wI 5)) (j3_up (j3_up (qS σ (n - w.length)).1 1013 76 (σ.2.2 1008 76 (n - w.length))) 1014 76 (if op = 5 then 2 else 0), σ.2.1, σ.2.2) else Q (some (wI 0)) (j3_up (j3_up (qS σ (n - w.length)).1 1013 76 (σ.2.2 1008 76 (n - w.length))) 1014 76 (if op = 5 then 2 else 0), σ.2.1, σ.2.2))
      else if 10 < n - w.length + g then Q (some (wI 5)) (qS σ (n - w.length)) else Q (some (wI 0)) (qS σ (n - w.length)) := by
  rw [e13, b13_0, hn, hw]
  by_cases h1 : n < w.length
  · rw [if_pos h1, if_pos h1]
  rw [if_neg h1, if_neg h1]
  simp (disch := omega) only [wr_id]
  show T13 (d + 2) Q 19 [wO 1 76, wI op, wI ((w.length : Int) - 1)] [] (qS σ (n - w.length)) = _
  have hCq := hC.fr (qS_f (q := n - w.length)) ⟨rfl, rfl⟩ (la_ok rfl)
  rw [l13 (σ := qS σ (n - w.length)) (q := n - w.length) hp hCq hs hw4 hwr qS_1 (by omega) (by omega) (fun k k0 k1 => hts k k0 (by omega)) w.length (Nat.le_refl _)]
  have ea : af P ((qS σ (n - w.length)).2.2 1008 76) w (n - w.length) w.length = af P (σ.2.2 1008 76) w (n - w.length) w.length := rfl
  rw [ea]
  cases hb : af P (σ.2.2 1008 76) w (n - w.length) w.length
  · simp
  · simp only [if_true, Bool.true_eq_false, if_false]
    have hg1 : (qS σ (n - w.length)).1 1013 76 = σ.1 1013 76 := qS_e rfl
    have hg2 : (qS σ (n - w.length)).1 1014 76 = g := (qS_e rfl).trans hg
    have hg3 : (qS σ (n - w.length)).1 1010 76 = n - w.length := qS_1
    rw [b13_19, if_pos (by omega), hg1]
    by_cases h2 : op = 2
    · rw [if_pos h2]
      by_cases h3 : σ.1 1013 76 = 0
      · rw [if_pos h3, if_pos ⟨h2, h3⟩]
      · rw [if_neg h3, if_neg (fun q => h3 q.2), if_neg (by omega), b13_47, if_neg (by omega), if_neg (by omega), b13_68, hg2, hg3]
        simp (disch := omega) only [wr_id]
    · rw [if_neg h2, if_neg (fun q => h2 q.1), b13_47]
      by_cases h3 : op = 3
      · have := h35 (Or.inl h3)
        rw [if_pos h3, if_pos (Or.inl h3), b13_53, hg3, if_neg (by omega), b13_67, b13_68]
        simp only [up_r, up_e (show ((1010 : Nat) == 1014) = false from rfl), up_e (show ((1010 : Nat) == 1013) = false from rfl), hg3]
        simp (disch := omega) only [wr_id]
        rw [if_neg (show ¬ op = 5 by omega)]
        have c1 : (0 ≤ n - (w.length : Int) ∧ n - (w.length : Int) < 10) = True := by simp; omega
        simp only [c1, true_and]
        rfl
      · rw [if_neg h3]
        by_cases h5 : op = 5
        · have := h35 (Or.inr h5)
          rw [if_pos h5, if_pos (Or.inr h5), b13_53, hg3, if_pos h5, b13_67, b13_68]
          simp only [up_r, up_e (show ((1010 : Nat) == 1014) = false from rfl), up_e (show ((1010 : Nat) == 1013) = false from rfl), hg3]
          simp (disch := omega) only [wr_id]
          rw [if_pos h5]
          have c1 : (0 ≤ n - (w.length : Int) ∧ n - (w.length : Int) < 10) = True := by simp; omega
          simp only [c1, true_and]
          rfl
        · rw [if_neg h5, if_neg (by omega), b13_68, hg2, hg3]
          simp (disch := omega) only [wr_id]
end LOOK
