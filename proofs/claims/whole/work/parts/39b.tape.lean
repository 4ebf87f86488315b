/-! feed and end -/
def row4 (t : Int → Int) (n x : Int) : Int → Int := i_up (i_up (i_up (i_up t n (i_tb (i_sr x 24))) (n + 1) (i_tb (i_sr x 16))) (n + 2) (i_tb (i_sr x 8))) (n + 3) (i_tb (i_sr x 0))
theorem s129 {d : Nat} {Q : j3_P} {σ : j3_S} {x : Int} (h0 : 0 ≤ σ.1 9001 0) (h1 : σ.1 9001 0 + 4 ≤ 4000) : j3_tc false (d + 1) 129 [wO 9 0, wI x] σ Q = Q none (j3_up σ.1 9001 0 (σ.1 9001 0 + 4), σ.2.1, j3_up σ.2.2 9000 0 (row4 (σ.2.2 9000 0) (σ.1 9001 0) x)) := by
  rw [e129, b129_0]
  generalize hn : σ.1 9001 0 = n at h0 h1
  rw [b129_2]
  simp (disch := omega) only [hn, wr_id]
  rw [if_neg (by omega), if_pos (by omega), b129_23, b129_2]
  simp (disch := omega) only [up_r, up_up, j3_ast, wr_id]
  rw [if_neg (by omega), if_pos (by omega), b129_23, b129_2]
  simp (disch := omega) only [up_r, up_up, j3_ast, wr_id]
  rw [if_neg (by omega), if_pos (by omega), b129_23, b129_2]
  simp (disch := omega) only [up_r, up_up, j3_ast, wr_id]
  rw [if_neg (by omega), if_pos (by omega), b129_23, b129_2]
  simp (disch := omega) only [up_r, up_up, j3_ast, wr_id]
  rw [if_pos (by omega)]
  simp only [tb_lo, tb_hi, true_and, and_true, and_self]
  have e1 : n + 1 + 1 = n + 2 := by omega
  have e2 : n + 2 + 1 = n + 3 := by omega
  have e3 : n + 3 + 1 = n + 4 := by omega
  simp only [e1, e2, e3]
  have g0 : (0 ≤ n ∧ n < 4000) = True := by simp; omega
  have g1 : (0 ≤ n + 1 ∧ n + 1 < 4000) = True := by simp; omega
  have g2 : (0 ≤ n + 2 ∧ n + 2 < 4000) = True := by simp; omega
  have g3 : (0 ≤ n + 3 ∧ n + 3 < 4000) = True := by simp; omega
  simp only [g0, g1, g2, g3, true_and]
  rfl
