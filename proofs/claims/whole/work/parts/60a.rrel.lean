/-! the reference's machine: how it holds the small machine -/
def rmI : List Nat := [10079, 10085, 10089, 10094, 10095, 10096]
def rmB : List Nat := [10080, 10081, 10082, 10083, 10084, 10086, 10087, 10088, 10090]
def RRa (σ : j3_S) (M : Mc) : Prop := (σ.1 10094 121 = M.en ∧ σ.1 10085 121 = M.no ∧ σ.1 10095 121 = M.tr ∧ σ.1 10096 121 = M.mx) ∧ σ.1 10089 121 = M.ou ∧ 0 ≤ M.ou ∧ ∀ i, 0 ≤ i → i < 100 → i < M.ou → σ.2.2 10090 121 i = M.ov i
def RRb (σ : j3_S) (M : Mc) : Prop := σ.1 10079 121 = M.dp ∧ ∀ k, 0 ≤ k → k < M.dp → σ.2.2 10080 121 k = M.me k ∧ σ.2.2 10081 121 k = M.pc k
def RRs (σ : j3_S) (P : Pg) (M : Mc) : Prop := ∀ k, 0 ≤ k → k < M.dp → (σ.2.2 10082 121 k = M.ht k ∧ ∀ j, 0 ≤ j → j < M.ht k → σ.2.2 10084 121 (10 * k + j) = M.sk k j) ∧ ∀ x, 0 ≤ x → x < P 3017 (M.me k) → σ.2.2 10083 121 (20 * k + x) = M.lo k x
def RRo (σ : j3_S) (P : Pg) (M : Mc) : Prop := (∀ o, 0 ≤ o → o < M.no → σ.2.2 10086 121 o = M.oc o ∧ ∀ c f, cv P c (M.oc o) = true → 0 ≤ f → f < P 3005 c → σ.2.2 10087 121 (60 * o + 6 * c + f) = M.fd o c f) ∧ ∀ z, 0 ≤ z → z < 60 → σ.2.2 10088 121 z = M.gs z
def RR (σ : j3_S) (P : Pg) (M : Mc) : Prop := RRa σ M ∧ (¬ M.en = 0 → RRb σ M) ∧ (M.en = -1 → RRs σ P M ∧ RRo σ P M)
section RREL
variable {σ : j3_S} {d : Nat} {Q : j3_P} {k h v : Int}
theorem s231 (hd : σ.1 10079 121 = k + 1) (k0 : 0 ≤ k) (k1 : k < 40) (hh : σ.2.2 10082 121 k = h) (h0 : 0 ≤ h) (h1 : h ≤ 10) : j3_tc true (d + 1) 231 [wO 10 121] σ Q = Q (some (wI (10 * k + h - 1))) σ := by
  rw [e231, b231_0, hd, wr_id (z := k + 1 - 1) (by omega) (by omega), show k + 1 - 1 = k by omega, hh]
  simp (disch := omega) only [wr_id]
  exact and_iff_right (by omega) |> propext
theorem s234 : j3_tc true (d + 1) 234 [wO 10 121, wI v] σ Q = Q none (j3_up (j3_up σ.1 10094 121 1) 10095 121 v, σ.2.1, σ.2.2) := by
  rw [e234, b234_0]
end RREL
