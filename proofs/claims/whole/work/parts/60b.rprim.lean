section RPRIM
variable {σ : j3_S} {d : Nat} {Q : j3_P} {k h v : Int}
def psR (σ : j3_S) (k h v : Int) : j3_S := (σ.1, σ.2.1, j3_ast (j3_ast σ.2.2 10082 121 k (h + 1)) 10084 121 (10 * k + h) v)
def poR (σ : j3_S) (k h : Int) : j3_S := (σ.1, σ.2.1, j3_ast σ.2.2 10082 121 k (h - 1))
theorem s232 (hd : σ.1 10079 121 = k + 1) (k0 : 0 ≤ k) (k1 : k < 40) (hh : σ.2.2 10082 121 k = h) (h0 : 0 < h) (h1 : h ≤ 10) : j3_tc true (d + 2) 232 [wO 10 121] σ Q = Q (some (wI (σ.2.2 10084 121 (10 * k + h - 1)))) (poR σ k h) := by
  rw [e232, b232_0, s231 hd k0 k1 hh (by omega) h1]
  simp only [Option.toList_some, List.cons_append, List.nil_append]
  rw [b232_4, hd, wr_id (z := k + 1 - 1) (by omega) (by omega), show k + 1 - 1 = k by omega, hh, wr_id (by omega) (by omega)]
  exact ((and_iff_right (by omega)).trans ((and_iff_right (by omega)).trans (and_iff_right (by omega)))) |> propext
theorem s233 (hd : σ.1 10079 121 = k + 1) (k0 : 0 ≤ k) (k1 : k < 40) (hh : σ.2.2 10082 121 k = h) (h0 : 0 ≤ h) (h1 : h < 10) : j3_tc true (d + 2) 233 [wO 10 121, wI v] σ Q = Q none (psR σ k h v) := by
  rw [e233, b233_0, hd, wr_id (z := k + 1 - 1) (by omega) (by omega), show k + 1 - 1 = k by omega, hh, wr_id (z := h + 1) (by omega) (by omega), s231 (σ := (σ.1, σ.2.1, j3_ast σ.2.2 10082 121 k (h + 1))) (k := k) (h := h + 1) hd k0 k1 (by simp [j3_ast, j3_up, i_up]) (by omega) (by omega)]
  simp only [Option.toList_some, List.cons_append, List.nil_append]
  rw [b233_15, show 10 * k + (h + 1) - 1 = 10 * k + h by omega]
  exact ((and_iff_right (by omega)).trans ((and_iff_right (by omega)).trans (and_iff_right (by omega)))) |> propext
end RPRIM
