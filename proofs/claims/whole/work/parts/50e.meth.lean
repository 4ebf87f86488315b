/-! reading a method on both sides -/
section RS
variable {d : Nat} {Q : j3_P} {σ : j3_S} {tb : Int → Int} {sz lo hi : Int} {st : Ps}
theorem iu_id' {f : Int → Int} {k v : Int} (h : f k = v) : i_up f k v = f := by rw [← h]; exact iu_id
theorem rS_id (h : rOk σ st) (hs : pso sz st) : rS σ st = σ := by
  obtain ⟨h1, h2, h3⟩ := h
  unfold rS
  by_cases g : st.2 = 0
  · rw [if_pos g, ← h1, up_id, up_id' (h2.trans g)]
  · have g1 : st.2 = 1 := by have := hs.2.2; omega
    obtain ⟨q1, q2, q3⟩ := h3 g
    rw [if_neg g, ← h1, up_id, up_id' (h2.trans g1), h1, iu_id' q1, iu_id' q2, iu_id' q3, up_id]
theorem rS_ok (hs : pso sz st) : rOk (rS σ st) st := by
  unfold rS rOk
  by_cases g : st.2 = 0
  · rw [if_pos g]
    refine ⟨by simp [j3_up], by simp [j3_up, g], fun q => absurd g q⟩
  · have g1 : st.2 = 1 := by have := hs.2.2; omega
    rw [if_neg g]
    refine ⟨by simp [j3_up], by simp [j3_up, g1], fun _ => ?_⟩
    simp only [up_r]
    simp [i_up]
theorem rS_f : frm [10004, 10007] [10008] σ (rS σ st) := by
  unfold rS
  split
  · exact frm.I rfl (frm.I rfl frm.rf)
  · exact frm.I rfl (frm.I rfl (frm.A rfl frm.rf))
theorem rS_A {e : Nat} {i x : Int} (h : ¬ e = 10008) : ((rS σ st).1, (rS σ st).2.1, j3_ast (rS σ st).2.2 e 121 i x) = rS (σ.1, σ.2.1, j3_ast σ.2.2 e 121 i x) st := by
  unfold rS
  by_cases g : st.2 = 0
  · simp only [if_pos g]
  · simp only [if_neg g]
    refine Prod.ext rfl (Prod.ext rfl ?_)
    funext a b
    have h1 : (e == 10008) = false := by simpa using h
    have h2 : (10008 == e) = false := by simpa using fun q => h q.symm
    simp only [j3_ast]
    rw [up_e h1, up_e h2]
    by_cases ga : a = 10008
    · subst ga
      rw [up_e h2]
      simp only [j3_up]
      cases (10008 == 10008) && (b == 121)
      · simp [h2]
      · rfl
    · have : (a == 10008) = false := by simpa using ga
      rw [up_e this]
      simp only [j3_up]
      cases (a == e) && (b == 121)
      · simp [this]
      · rfl
theorem rS_rS {a b : Ps} (h : a.2 = 0 ∨ b = a) : rS (rS σ a) b = rS σ b := by
  have key : a.2 = 0 → rS (rS σ a) b = rS σ b := by
    intro g
    have ea : rS σ a = (j3_up (j3_up σ.1 10004 121 a.1) 10007 121 0, σ.2.1, σ.2.2) := by unfold rS; rw [if_pos g]
    rw [ea]
    unfold rS
    have e1 : ∀ v w : Int, j3_up (j3_up (j3_up (j3_up σ.1 10004 121 a.1) 10007 121 0) 10004 121 v) 10007 121 w = j3_up (j3_up σ.1 10004 121 v) 10007 121 w := by
      intro v w
      funext e o
      simp only [j3_up]
      cases (e == 10007) && (o == 121) <;> cases (e == 10004) && (o == 121) <;> rfl
    by_cases gb : b.2 = 0
    · simp only [if_pos gb, e1]
    · simp only [if_neg gb, e1]
  rcases h with h | h
  · exact key h
  · subst h
    by_cases g : b.2 = 0
    · exact key g
    · unfold rS
      simp only [if_neg g]
      refine Prod.ext ?_ (Prod.ext rfl ?_)
      · funext e o
        simp only [j3_up]
        cases (e == 10007) && (o == 121) <;> cases (e == 10004) && (o == 121) <;> rfl
      · simp only [up_r, up_up]
        congr 1
        funext j
        simp only [i_up]
        by_cases j2 : j = 2
        · simp [j2]
        · by_cases j1 : j = 1
          · simp [j1]
          · by_cases j0 : j = 0
            · simp [j0]
            · simp [j2, j1, j0]
theorem nxs_st (hs : pso sz st) : st.2 = 0 ∨ nxs tb sz st lo hi = st := by
  by_cases g : st.2 = 0
  · exact Or.inl g
  · exact Or.inr (nxs_1 g hs).1
theorem s159e (hT : TR σ tb sz) (hs : pso sz st) : j3_tc true (d + 2) 159 [wO 10 121, wI lo, wI hi] (rS σ st) Q = Q (some (wI (nxv tb sz st lo hi))) (rS σ (nxs tb sz st lo hi)) := by
  have hT1 : TR (rS σ st) tb sz := hT.fr rS_f rfl rfl
  rw [← rS_rS (σ := σ) (a := st) (b := nxs tb sz st lo hi) (nxs_st hs)]
  obtain ⟨q1, q2, q3⟩ := rS_ok (σ := σ) hs
  obtain ⟨t1, t2, t4⟩ := hT1
  obtain ⟨p1, p2, p3⟩ := id hs
  generalize hτ : rS σ st = τ at q1 q2 q3 t1 t4
  have idt : rS τ st = τ := by rw [← hτ]; exact rS_rS (Or.inr rfl)
  have bad : st.2 = 0 → wrS τ 1 st.1 (-1) (-1) = rS τ (st.1, 1) := by
    intro g
    unfold wrS rS
    rw [if_pos (q2.trans g), if_neg (show ¬ (st.1, (1 : Int)).2 = 0 by simp)]
    refine Prod.ext ?_ (Prod.ext rfl ?_)
    · rw [up_id' q1]
    · simp only [j3_ast, up_r, up_up]
  rw [e159, b159_0, q1, q2, t1]
  unfold nxv nxs
  by_cases g1 : st.2 = 0
  · rw [if_pos g1]
    by_cases g2 : st.1 < sz
    · have hc : (0 ≤ st.1 ∧ st.1 < 4000) = True := by simp; omega
      rw [if_pos g2, t4 st.1 p1 g2]
      simp only [hc, true_and]
      by_cases g3 : tb st.1 < lo
      · rw [if_pos g3, b159_31, q1, s158]
        simp only [Option.toList_none, List.nil_append]
        rw [b159_38, bad g1, if_neg (by omega), if_neg (by omega)]
      · rw [if_neg g3]
        by_cases g4 : hi < tb st.1
        · rw [if_pos g4, b159_31, q1, s158]
          simp only [Option.toList_none, List.nil_append]
          rw [b159_38, bad g1, if_neg (by omega), if_neg (by omega)]
        · rw [if_neg g4, if_pos (by omega), if_pos (by omega), wr_id (by omega) (by omega)]
          congr 1
          unfold rS
          rw [if_pos (show (st.1 + 1, (0 : Int)).2 = 0 from rfl)]
          refine Prod.ext ?_ rfl
          show j3_up τ.1 10004 121 (st.1 + 1) = j3_up (j3_up τ.1 10004 121 (st.1 + 1)) 10007 121 0
          rw [up_id' (f := j3_up τ.1 10004 121 (st.1 + 1)) ((up_e rfl).trans (q2.trans g1))]
    · have es : st.1 = sz := by omega
      rw [if_neg g2, ← es, s158]
      simp only [Option.toList_none, List.nil_append]
      rw [b159_17, bad g1, if_neg (by omega), if_neg (by omega)]
  · have g0 : st.2 = 1 := by omega
    rw [if_neg g1, if_neg (by omega), if_neg (by omega), show (st.1, (1 : Int)) = st from Prod.ext rfl g0.symm, idt]
end RS
