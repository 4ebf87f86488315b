/-! reading an instruction on both sides -/
theorem tls_v {o : Int} (h0 : 0 ≤ o) (h1 : o ≤ 26) : i_tls o = if o = 0 then 1 else if o = 2 ∨ o = 3 then 2 else if 11 ≤ o ∧ o ≤ 14 then 3 else if o = 15 ∨ o = 24 ∨ o = 25 then 4 else if 16 ≤ o ∧ o ≤ 19 then 5 else if o = 20 ∨ o = 21 then 6 else 0 := by
  have h : o = 0 ∨ o = 1 ∨ o = 2 ∨ o = 3 ∨ o = 4 ∨ o = 5 ∨ o = 6 ∨ o = 7 ∨ o = 8 ∨ o = 9 ∨ o = 10 ∨ o = 11 ∨ o = 12 ∨ o = 13 ∨ o = 14 ∨ o = 15 ∨ o = 16 ∨ o = 17 ∨ o = 18 ∨ o = 19 ∨ o = 20 ∨ o = 21 ∨ o = 22 ∨ o = 23 ∨ o = 24 ∨ o = 25 ∨ o = 26 := by omega
  rcases h with rfl | rfl | rfl | rfl | rfl | rfl | rfl | rfl | rfl | rfl | rfl | rfl | rfl | rfl | rfl | rfl | rfl | rfl | rfl | rfl | rfl | rfl | rfl | rfl | rfl | rfl | rfl <;> decide
def twop (op : Int) : Bool := decide (16 ≤ op) && decide (op ≤ 21)
def rdN (tb : Int → Int) (sz : Int) : Nat → Int → Ps → Int × Ps
  | 0, x, st => (x, st)
  | k + 1, x, st => rdN tb sz k (i_or (i_sl x 8) (nxv tb sz st 0 255)) (nxs tb sz st 0 255)
section INS
variable {d : Nat} {Q : j3_P} {σ : j3_S} {tb : Int → Int} {sz lo hi : Int} {st : Ps}
theorem TC.cs (h : TC σ tb sz) : TC (cS σ st) tb sz := by
  refine ⟨?_, h.2⟩
  rw [← h.1]
  simp [cS, j3_up]
theorem cS_1 : (cS σ st).1 5002 73 = st.1 ∧ (cS σ st).1 5003 73 = st.2 := by simp [cS, j3_up]
theorem cS_e {e : Nat} (h : (e == 5002) = false) (h' : (e == 5003) = false) {o : Nat} : (cS σ st).1 e o = σ.1 e o := (up_e h').trans (up_e h)
theorem s66' (hT : TC σ tb sz) (h1 : σ.1 5002 73 = st.1) (h2 : σ.1 5003 73 = st.2) (hs : pso sz st) : j3_tc false (d + 1) 66 [wO 5 73, wI lo, wI hi] σ Q = Q (some (wI (nxv tb sz st lo hi))) (cS σ (nxs tb sz st lo hi)) := by
  have := s66 (d := d) (Q := Q) (lo := lo) (hi := hi) hT hs
  have e : cS σ st = σ := by
    have h3 : st = (σ.1 5002 73, σ.1 5003 73) := Prod.ext h1.symm h2.symm
    rw [h3]
    exact cS_id
  rw [e] at this
  exact this
theorem rdN_o : ∀ (k : Nat) (x : Int) (st : Ps), pso sz st → pso sz (rdN tb sz k x st).2 ∧ ((rdN tb sz k x st).2.2 = 0 → st.2 = 0 ∧ st.1 ≤ (rdN tb sz k x st).2.1)
  | 0, x, st, h => ⟨h, fun q => ⟨q, Int.le_refl _⟩⟩
  | k + 1, x, st, h => by
    obtain ⟨h1, h2⟩ := rdN_o k (i_or (i_sl x 8) (nxv tb sz st 0 255)) (nxs tb sz st 0 255) (nxs_o h)
    refine ⟨h1, fun q => ?_⟩
    obtain ⟨h3, h4⟩ := h2 q
    obtain ⟨h5, h6⟩ := nxs_f h3
    exact ⟨h5, by simp only [rdN]; omega⟩
theorem l70 (hT : TC σ tb sz) : ∀ (k : Nat) (x j : Int) (st : Ps), 0 ≤ j → j + k = 4 → pso sz st → T70 (d + 1) Q 4 [wO 5 73, wI x, wI j] [] (cS σ st) = Q (some (wI (rdN tb sz k x st).1)) (cS σ (rdN tb sz k x st).2)
  | 0, x, j, st, j0, hj, hs => by
    rw [b70_4, if_neg (by omega)]
    rfl
  | k + 1, x, j, st, j0, hj, hs => by
    rw [b70_4, if_pos (by omega), s66 hT hs]
    simp only [Option.toList_some, List.cons_append, List.nil_append]
    rw [b70_14, wr_id (by omega) (by omega), l70 hT k _ (j + 1) _ (by omega) (by omega) (nxs_o hs)]
    rfl
theorem s70 (hT : TC σ tb sz) (hs : pso sz st) : j3_tc false (d + 2) 70 [wO 5 73] (cS σ st) Q = Q (some (wI (rdN tb sz 4 0 st).1)) (cS σ (rdN tb sz 4 0 st).2) := by
  rw [e70, b70_0]
  exact l70 hT 4 0 0 st (by omega) rfl hs
/-- what an instruction of the class's reading may change -/
def fiI : Nat → Nat → Bool := fun e _ => [5002, 5003, 5007].elem e
def faI (o : Nat) : Nat → Nat → Bool := fun e o' => [5005, 5006].elem e || ([1, 2, 3, 4].elem e && o' == o + 17)
/-- the class's side of an instruction read -/
def cIns (σ : j3_S) (o : Nat) (sp op a b pl : Int) (st : Ps) (σ' : j3_S) : Prop := frg fiI (faI o) σ σ' ∧ σ'.1 5002 73 = st.1 ∧ σ'.1 5003 73 = st.2 ∧ (σ'.2.2 1 (o + 17) = i_up (σ.2.2 1 (o + 17)) sp op ∧ σ'.2.2 2 (o + 17) = i_up (σ.2.2 2 (o + 17)) sp a ∧ σ'.2.2 3 (o + 17) = i_up (σ.2.2 3 (o + 17)) sp b ∧ σ'.2.2 4 (o + 17) = i_up (σ.2.2 4 (o + 17)) sp (-1)) ∧ 0 ≤ σ'.1 5007 73 ∧ (twop op = true → σ.1 5007 73 < 4000 → σ'.1 5007 73 = σ.1 5007 73 + 1 ∧ σ'.2.2 5005 73 = i_up (σ.2.2 5005 73) (σ.1 5007 73) sp ∧ σ'.2.2 5006 73 = i_up (σ.2.2 5006 73) (σ.1 5007 73) pl) ∧ (twop op = false → σ'.1 5007 73 = σ.1 5007 73 ∧ σ'.2.2 5005 73 = σ.2.2 5005 73 ∧ σ'.2.2 5006 73 = σ.2.2 5006 73)
def rIns (σ : j3_S) (x op a b pl : Int) (st : Ps) (σ' : j3_S) : Prop := frm [10004, 10007] [10008, 10027, 10028, 10029, 10033] σ σ' ∧ rOk σ' st ∧ σ'.2.2 10027 121 = i_up (σ.2.2 10027 121) x op ∧ σ'.2.2 10028 121 = i_up (σ.2.2 10028 121) x a ∧ σ'.2.2 10029 121 = i_up (σ.2.2 10029 121) x b ∧ ∃ w, σ'.2.2 10033 121 = i_up (σ.2.2 10033 121) (x - 19200) w ∧ (twop op = true → w = pl)
/-- the class: behind its bytes -/
theorem c70 {m sp o a b : Int} {co : Nat} (hp : σ.2.1 4 = co) (hp0 : ¬ co = 0) (s0 : 0 ≤ sp) (s1 : sp < 9600) : T69 d Q 70 [wO 5 73, wI m, wI sp, wI o, wI a, wI b] [] σ = Q none (σ.1, σ.2.1, j3_up (j3_up (j3_up (j3_up σ.2.2 1 (co + 17) (i_up (σ.2.2 1 (co + 17)) sp o)) 2 (co + 17) (i_up (σ.2.2 2 (co + 17)) sp a)) 3 (co + 17) (i_up (σ.2.2 3 (co + 17)) sp b)) 4 (co + 17) (i_up (σ.2.2 4 (co + 17)) sp (-1))) := by
  rw [b69_70, hp]
  have hc : (0 ≤ sp ∧ sp < 9600) = True := by simp; omega
  simp only [hc, hp0, not_false_eq_true, true_and, j3_ast]
  simp only [up_e (show ((2 : Nat) == 1) = false from rfl), up_e (show ((3 : Nat) == 2) = false from rfl), up_e (show ((3 : Nat) == 1) = false from rfl), up_e (show ((4 : Nat) == 3) = false from rfl), up_e (show ((4 : Nat) == 2) = false from rfl), up_e (show ((4 : Nat) == 1) = false from rfl)]
theorem c70c {m sp o a b : Int} {co : Nat} (hp : σ.2.1 4 = co) (hp0 : ¬ co = 0) (s0 : 0 ≤ sp) (s1 : sp < 9600) : T69 d Q 70 [wO 5 73, wI m, wI sp, wI o, wI a, wI b] [] (cS σ st) = Q none ((cS σ st).1, (cS σ st).2.1, j3_up (j3_up (j3_up (j3_up (cS σ st).2.2 1 (co + 17) (i_up ((cS σ st).2.2 1 (co + 17)) sp o)) 2 (co + 17) (i_up ((cS σ st).2.2 2 (co + 17)) sp a)) 3 (co + 17) (i_up ((cS σ st).2.2 3 (co + 17)) sp b)) 4 (co + 17) (i_up ((cS σ st).2.2 4 (co + 17)) sp (-1))) := c70 (σ := cS σ st) hp hp0 s0 s1
theorem c70s {sp op a b pl : Int} {co : Nat} {st : Ps} (ht : twop op = false) (h0 : 0 ≤ σ.1 5007 73) : cIns σ co sp op a b pl st ((cS σ st).1, (cS σ st).2.1, j3_up (j3_up (j3_up (j3_up (cS σ st).2.2 1 (co + 17) (i_up ((cS σ st).2.2 1 (co + 17)) sp op)) 2 (co + 17) (i_up ((cS σ st).2.2 2 (co + 17)) sp a)) 3 (co + 17) (i_up ((cS σ st).2.2 3 (co + 17)) sp b)) 4 (co + 17) (i_up ((cS σ st).2.2 4 (co + 17)) sp (-1))) := by
  have hfa : ∀ e : Nat, [1, 2, 3, 4].elem e = true → faI co e (co + 17) = true := by
    intro e he
    simp only [faI, he, Bool.true_and, beq_self_eq_true, Bool.or_true]
  refine ⟨frg.A (hfa _ rfl) (frg.A (hfa _ rfl) (frg.A (hfa _ rfl) (frg.A (hfa _ rfl) (frg.I rfl (frg.I rfl frg.rf))))), (cS_1 (σ := σ) (st := st)).1, (cS_1 (σ := σ) (st := st)).2, ⟨?_, ?_, ?_, ?_⟩, ?_, (fun h => by rw [ht] at h; cases h), fun _ => ⟨?_, ?_, ?_⟩⟩
  · simp only [up_r, up_e (show ((1 : Nat) == 2) = false from rfl), up_e (show ((1 : Nat) == 3) = false from rfl), up_e (show ((1 : Nat) == 4) = false from rfl)]
    rfl
  · simp only [up_r, up_e (show ((2 : Nat) == 3) = false from rfl), up_e (show ((2 : Nat) == 4) = false from rfl)]
    rfl
  · simp only [up_r, up_e (show ((3 : Nat) == 4) = false from rfl)]
    rfl
  · simp only [up_r]
    rfl
  · show 0 ≤ (cS σ st).1 5007 73
    rw [cS_e rfl rfl]
    exact h0
  · show (cS σ st).1 5007 73 = _
    rw [cS_e rfl rfl]
  · simp only [up_e (show ((5005 : Nat) == 1) = false from rfl), up_e (show ((5005 : Nat) == 2) = false from rfl), up_e (show ((5005 : Nat) == 3) = false from rfl), up_e (show ((5005 : Nat) == 4) = false from rfl)]
    rfl
  · simp only [up_e (show ((5006 : Nat) == 1) = false from rfl), up_e (show ((5006 : Nat) == 2) = false from rfl), up_e (show ((5006 : Nat) == 3) = false from rfl), up_e (show ((5006 : Nat) == 4) = false from rfl)]
    rfl
/-- the pure side of an instruction read: OP, what is told, its place, the rest -/
def rdo (tb : Int → Int) (sz : Int) (st : Ps) : Int := nxv tb sz st 0 26
def rdk (nl len nc o : Int) : Int := if o = 2 ∨ o = 3 then nl - 1 else if 11 ≤ o ∧ o ≤ 14 then len - 1 else nc - 1
def rda1 (o : Int) : Bool := decide (o = 2) || decide (o = 3) || isj o || decide (o = 15) || decide (o = 24) || decide (o = 25) || twop o
def rda (tb : Int → Int) (sz nl len nc : Int) (st : Ps) : Int × Ps := if nxv tb sz st 0 26 = 0 then rdN tb sz 4 0 (nxs tb sz st 0 26) else if rda1 (nxv tb sz st 0 26) = true then (nxv tb sz (nxs tb sz st 0 26) 0 (rdk nl len nc (nxv tb sz st 0 26)), nxs tb sz (nxs tb sz st 0 26) 0 (rdk nl len nc (nxv tb sz st 0 26))) else (0, nxs tb sz st 0 26)
def rdb (tb : Int → Int) (sz nl len nc : Int) (st : Ps) : Int × Ps := if twop (nxv tb sz st 0 26) = true then (nxv tb sz (rda tb sz nl len nc st).2 0 255, nxs tb sz (rda tb sz nl len nc st).2 0 255) else (0, (rda tb sz nl len nc st).2)
theorem s69 {m sp nl len nc : Int} {o : Nat} (hT : TC σ tb sz) (h1 : σ.1 5002 73 = st.1) (h2 : σ.1 5003 73 = st.2) (hs : pso sz st) (hp : σ.2.1 4 = o) (hp0 : ¬ o = 0) (s0 : 0 ≤ sp) (s1 : sp < 9600) (m0 : 0 ≤ m) (m1 : m < 80) (hnl : σ.2.2 3017 o m = nl) (hlen : σ.2.2 0 (o + 17) m = len) (hnc : σ.1 3000 o = nc) (n1 : 0 ≤ nl ∧ nl ≤ 20) (n2 : 1 ≤ len ∧ len ≤ 120) (n3 : 1 ≤ nc ∧ nc ≤ 10) (ht0 : 0 ≤ σ.1 5007 73)
    (hQ : ∀ σ', cIns σ o sp (nxv tb sz st 0 26) (rda tb sz nl len nc st).1 (rdb tb sz nl len nc st).1 (rda tb sz nl len nc st).2.1 (rdb tb sz nl len nc st).2 σ' → Q none σ') : j3_tc false (d + 3) 69 [wO 5 73, wI m, wI sp] σ Q := by
  rw [e69, b69_0, s66' hT h1 h2 hs]
  simp only [Option.toList_some, List.cons_append, List.nil_append]
  have hv := nxv_b (tb := tb) (sz := sz) (st := st) (lo := 0) (hi := 26) (by omega)
  have hs1 := nxs_o (tb := tb) (lo := 0) (hi := 26) hs
  unfold rda rdb at hQ
  unfold rda at hQ
  generalize nxv tb sz st 0 26 = v at hv hQ
  generalize nxs tb sz st 0 26 = t1 at hs1 hQ
  have hT1 := hT.cs (st := t1)
  have p1 : (cS σ t1).2.1 4 = o := hp
  rw [b69_4, tls_v hv.1 hv.2]
  refine ⟨by omega, ?_⟩
  by_cases g0 : v = 0
  · have tw : twop v = false := by rw [g0]; rfl
    simp only [if_pos g0, tw, Bool.false_eq_true, if_false] at hQ
    simp only [if_pos g0, if_true]
    rw [b69_13, s70 hT hs1]
    simp only [Option.toList_some, List.cons_append, List.nil_append]
    rw [b69_15, c70c (co := o) hp hp0 s0 s1]
    exact hQ _ (c70s tw ht0)
  simp only [if_neg g0] at hQ ⊢
  by_cases g2 : v = 2 ∨ v = 3
  · have tw : twop v = false := by rcases g2 with h | h <;> rw [h] <;> rfl
    have ra : rda1 v = true := by rcases g2 with h | h <;> rw [h] <;> rfl
    have rk : rdk nl len nc v = nl - 1 := by unfold rdk; rw [if_pos g2]
    simp only [tw, ra, rk, Bool.false_eq_true, if_false, if_true] at hQ
    simp only [if_pos g2, if_true, Int.reduceEq, if_false]
    rw [b69_17, p1, show (cS σ t1).2.2 3017 o m = nl from hnl, wr_id (by omega) (by omega), s66' (st := t1) hT1 cS_1.1 cS_1.2 hs1]
    simp only [Option.toList_some, List.cons_append, List.nil_append]
    rw [b69_27, cS_cS, c70c (co := o) hp hp0 s0 s1]
    exact ⟨hp0, by omega, hQ _ (c70s tw ht0)⟩
  simp only [if_neg g2]
  by_cases g3 : 11 ≤ v ∧ v ≤ 14
  · have tw : twop v = false := by unfold twop; simp; omega
    have ra : rda1 v = true := by unfold rda1 isj; simp; omega
    have rk : rdk nl len nc v = len - 1 := by unfold rdk; rw [if_neg g2, if_pos g3]
    simp only [tw, ra, rk, Bool.false_eq_true, if_false, if_true] at hQ
    simp only [if_pos g3, if_true, Int.reduceEq, if_false]
    rw [b69_29, p1, show (cS σ t1).2.2 0 (o + 17) m = len from hlen, wr_id (by omega) (by omega), s66' (st := t1) hT1 cS_1.1 cS_1.2 hs1]
    simp only [Option.toList_some, List.cons_append, List.nil_append]
    rw [b69_40, cS_cS, c70c (co := o) hp hp0 s0 s1]
    exact ⟨hp0, by omega, hQ _ (c70s tw ht0)⟩
  simp only [if_neg g3]
  have hnc1 : (cS σ t1).1 3000 o = nc := by rw [cS_e rfl rfl]; exact hnc
  by_cases g4 : v = 15 ∨ v = 24 ∨ v = 25
  · have tw : twop v = false := by unfold twop; simp; omega
    have ra : rda1 v = true := by unfold rda1; simp; omega
    have rk : rdk nl len nc v = nc - 1 := by unfold rdk; rw [if_neg g2, if_neg g3]
    simp only [tw, ra, rk, Bool.false_eq_true, if_false, if_true] at hQ
    simp only [if_pos g4, if_true, Int.reduceEq, if_false]
    rw [b69_42, p1, hnc1, wr_id (by omega) (by omega), s66' (st := t1) hT1 cS_1.1 cS_1.2 hs1]
    simp only [Option.toList_some, List.cons_append, List.nil_append]
    rw [b69_50, cS_cS, c70c (co := o) hp hp0 s0 s1]
    exact ⟨hp0, hQ _ (c70s tw ht0)⟩
  simp only [if_neg g4]
  by_cases g5 : 16 ≤ v ∧ v ≤ 21
  · have tw : twop v = true := by unfold twop; simp; omega
    have ra : rda1 v = true := by unfold rda1; rw [tw]; simp
    have rk : rdk nl len nc v = nc - 1 := by unfold rdk; rw [if_neg g2, if_neg g3]
    simp only [tw, ra, rk, if_true] at hQ
    have t52 : T69 (d + 2) Q 52 [wO 5 73, wI m, wI sp, wI v, wI 0, wI 0] [] (cS σ t1) := by
      rw [b69_52, p1, hnc1, wr_id (by omega) (by omega), s66' (st := t1) hT1 cS_1.1 cS_1.2 hs1]
      simp only [Option.toList_some, List.cons_append, List.nil_append]
      have hs2 := nxs_o (tb := tb) (lo := 0) (hi := nc - 1) hs1
      generalize nxs tb sz t1 0 (nc - 1) = t2 at hQ hs2
      refine ⟨hp0, ?_⟩
      rw [b69_60, cS_cS, e71, b71_0]
      have e7 : (cS σ t2).1 5007 73 = σ.1 5007 73 := cS_e rfl rfl
      have hfa : ∀ e : Nat, [1, 2, 3, 4].elem e = true → faI o e (o + 17) = true := by
        intro e he
        simp only [faI, he, Bool.true_and, beq_self_eq_true, Bool.or_true]
      rw [e7, cS_1.1]
      by_cases gt : σ.1 5007 73 < 4000
      · rw [if_pos gt, wr_id (by omega) (by omega)]
        simp only [j3_ast, Option.toList_none, List.nil_append]
        refine ⟨by omega, by omega, ?_⟩
        generalize hτ : ((j3_up (cS σ t2).1 5007 73 (σ.1 5007 73 + 1), (cS σ t2).2.1, j3_up (j3_up (cS σ t2).2.2 5005 73 (i_up ((cS σ t2).2.2 5005 73) (σ.1 5007 73) sp)) 5006 73 (i_up (j3_up (cS σ t2).2.2 5005 73 (i_up ((cS σ t2).2.2 5005 73) (σ.1 5007 73) sp) 5006 73) (σ.1 5007 73) t2.1)) : j3_S) = τ
        have t5 : τ.1 5002 73 = t2.1 ∧ τ.1 5003 73 = t2.2 := by
          rw [← hτ]
          simp [cS, j3_up]
        have fτ : frg fiI (faI o) σ τ := by
          rw [← hτ]
          exact frg.I rfl (frg.A rfl (frg.A rfl (frg.I rfl (frg.I rfl frg.rf))))
        have hTτ : TC τ tb sz := ⟨(fτ.2.1 5001 73 rfl).trans hT.1, hT.2.1, by rw [fτ.1]; exact hT.2.2.1, by rw [fτ.2.2 9000 0 rfl]; exact hT.2.2.2⟩
        have a1 : ∀ e : Nat, (e == 5005) = false → (e == 5006) = false → ∀ o', τ.2.2 e o' = σ.2.2 e o' := by
          intro e h5 h6 o'
          rw [← hτ]
          simp only [up_e h5, up_e h6]
          rfl
        have a5 : τ.2.2 5005 73 = i_up (σ.2.2 5005 73) (σ.1 5007 73) sp := by
          rw [← hτ]
          simp only [up_r, up_e (show ((5005 : Nat) == 5006) = false from rfl)]
          rfl
        have a6 : τ.2.2 5006 73 = i_up (σ.2.2 5006 73) (σ.1 5007 73) t2.1 := by
          rw [← hτ]
          simp only [up_r, up_e (show ((5006 : Nat) == 5005) = false from rfl)]
          rfl
        have a7 : τ.1 5007 73 = σ.1 5007 73 + 1 := by
          rw [← hτ]
          simp only [up_r]
        rw [b69_64, s66' (st := t2) hTτ t5.1 t5.2 hs2]
        simp only [Option.toList_some, List.cons_append, List.nil_append]
        rw [b69_68, c70 (co := o) (by show τ.2.1 4 = o; rw [fτ.1]; exact hp) hp0 s0 s1]
        refine hQ _ ⟨frg.A (hfa _ rfl) (frg.A (hfa _ rfl) (frg.A (hfa _ rfl) (frg.A (hfa _ rfl) (frg.I rfl (frg.I rfl fτ))))), (cS_1 (σ := τ) (st := nxs tb sz t2 0 255)).1, (cS_1 (σ := τ) (st := nxs tb sz t2 0 255)).2, ⟨?_, ?_, ?_, ?_⟩, ?_, (fun _ _ => ⟨?_, ?_, ?_⟩), fun h => by rw [tw] at h; cases h⟩
        · simp only [up_r, up_e (show ((1 : Nat) == 2) = false from rfl), up_e (show ((1 : Nat) == 3) = false from rfl), up_e (show ((1 : Nat) == 4) = false from rfl)]
          rw [show (cS τ (nxs tb sz t2 0 255)).2.2 1 (o + 17) = τ.2.2 1 (o + 17) from rfl, a1 1 rfl rfl]
        · simp only [up_r, up_e (show ((2 : Nat) == 3) = false from rfl), up_e (show ((2 : Nat) == 4) = false from rfl)]
          rw [show (cS τ (nxs tb sz t2 0 255)).2.2 2 (o + 17) = τ.2.2 2 (o + 17) from rfl, a1 2 rfl rfl]
        · simp only [up_r, up_e (show ((3 : Nat) == 4) = false from rfl)]
          rw [show (cS τ (nxs tb sz t2 0 255)).2.2 3 (o + 17) = τ.2.2 3 (o + 17) from rfl, a1 3 rfl rfl]
        · simp only [up_r]
          rw [show (cS τ (nxs tb sz t2 0 255)).2.2 4 (o + 17) = τ.2.2 4 (o + 17) from rfl, a1 4 rfl rfl]
        · show 0 ≤ (cS τ (nxs tb sz t2 0 255)).1 5007 73
          rw [cS_e rfl rfl, a7]
          omega
        · show (cS τ (nxs tb sz t2 0 255)).1 5007 73 = _
          rw [cS_e rfl rfl, a7]
        · simp only [up_e (show ((5005 : Nat) == 1) = false from rfl), up_e (show ((5005 : Nat) == 2) = false from rfl), up_e (show ((5005 : Nat) == 3) = false from rfl), up_e (show ((5005 : Nat) == 4) = false from rfl)]
          exact a5
        · simp only [up_e (show ((5006 : Nat) == 1) = false from rfl), up_e (show ((5006 : Nat) == 2) = false from rfl), up_e (show ((5006 : Nat) == 3) = false from rfl), up_e (show ((5006 : Nat) == 4) = false from rfl)]
          exact a6
      · rw [if_neg gt]
        simp only [Option.toList_none, List.nil_append]
        rw [b69_64, s66' (st := t2) (hT.cs) cS_1.1 cS_1.2 hs2]
        simp only [Option.toList_some, List.cons_append, List.nil_append]
        rw [b69_68, cS_cS, c70c (co := o) hp hp0 s0 s1]
        refine hQ _ ⟨frg.A (hfa _ rfl) (frg.A (hfa _ rfl) (frg.A (hfa _ rfl) (frg.A (hfa _ rfl) (frg.I rfl (frg.I rfl frg.rf))))), (cS_1 (σ := σ) (st := nxs tb sz t2 0 255)).1, (cS_1 (σ := σ) (st := nxs tb sz t2 0 255)).2, ⟨?_, ?_, ?_, ?_⟩, ?_, (fun _ h => absurd h gt), fun h => by rw [tw] at h; cases h⟩
        · simp only [up_r, up_e (show ((1 : Nat) == 2) = false from rfl), up_e (show ((1 : Nat) == 3) = false from rfl), up_e (show ((1 : Nat) == 4) = false from rfl)]
          rfl
        · simp only [up_r, up_e (show ((2 : Nat) == 3) = false from rfl), up_e (show ((2 : Nat) == 4) = false from rfl)]
          rfl
        · simp only [up_r, up_e (show ((3 : Nat) == 4) = false from rfl)]
          rfl
        · simp only [up_r]
          rfl
        · show 0 ≤ (cS σ (nxs tb sz t2 0 255)).1 5007 73
          rw [cS_e rfl rfl]
          exact ht0
    by_cases g6 : 16 ≤ v ∧ v ≤ 19
    · simp only [if_pos g6, if_true, Int.reduceEq, if_false]
      exact t52
    · simp only [if_neg g6, if_pos (show v = 20 ∨ v = 21 by omega), if_true, Int.reduceEq, if_false]
      exact t52
  · have tw : twop v = false := by unfold twop; simp; omega
    have ra : rda1 v = false := by unfold rda1 isj; rw [tw]; simp; omega
    simp only [tw, ra, Bool.false_eq_true, if_false] at hQ
    simp only [if_neg (show ¬ (16 ≤ v ∧ v ≤ 19) by omega), if_neg (show ¬ (v = 20 ∨ v = 21) by omega), Int.reduceEq, if_false]
    rw [c70c (co := o) hp hp0 s0 s1]
    exact hQ _ (c70s tw ht0)
end INS
