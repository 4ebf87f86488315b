/-! reading states of level 3; bytes -/
section S3
variable {α : Type} {f : Nat → Nat → α} {e o e' o' : Nat} {v w : α}
theorem up_r : j3_up f e o v e o = v := by simp [j3_up]
theorem up_e (h : (e' == e) = false) : j3_up f e o v e' o' = f e' o' := by simp [j3_up, h]
theorem up_o (h : (o' == o) = false) : j3_up f e o v e' o' = f e' o' := by simp [j3_up, h]
theorem up_up : j3_up (j3_up f e o v) e o w = j3_up f e o w := by
  funext a b
  simp only [j3_up]
  cases (a == e) && (b == o) <;> rfl
end S3
theorem iu_r {f : Int → Int} {i x : Int} : i_up f i x i = x := by simp [i_up]
theorem iu_n {f : Int → Int} {i x j : Int} (h : ¬ j = i) : i_up f i x j = f j := by simp [i_up, h]
theorem tb_eq (z : Int) : i_tb z = Int.bmod (wr z) 256 := by
  unfold i_tb wr
  rw [Int8.toInt_toInt32, Int32.toInt_toInt8]
theorem tb_lo (z : Int) : -128 ≤ i_tb z := by
  rw [tb_eq]
  unfold Int.bmod
  dsimp only
  split <;> omega
theorem tb_hi (z : Int) : i_tb z < 128 := by
  rw [tb_eq]
  unfold Int.bmod
  dsimp only
  split <;> omega
theorem an_eq (z : Int) : i_an z 255 = wr z % 256 := by
  have h : ∀ x : Int32, (x &&& 255).toInt = x.toInt % 256 := by
    intro x
    have h1 : (x &&& 255).toBitVec = x.toBitVec &&& 255#32 := rfl
    have h2 : (x &&& 255).toInt = ((x &&& 255).toBitVec).toInt := rfl
    have h3 : x.toInt = x.toBitVec.toInt := rfl
    rw [h2, h1, h3]
    generalize x.toBitVec = b
    have e1 : (b &&& 255#32).toNat = b.toNat % 256 := by
      rw [BitVec.toNat_and]
      exact Nat.and_two_pow_sub_one_eq_mod b.toNat 8
    have e2 : (b &&& 255#32).toInt = ((b.toNat % 256 : Nat) : Int) := by
      rw [BitVec.toInt_eq_toNat_of_lt (by rw [e1]; omega), e1]
    rw [e2, BitVec.toInt_eq_toNat_cond]
    split <;> omega
  exact h _
theorem an_lo (z : Int) : 0 ≤ i_an z 255 := by rw [an_eq]; omega
theorem an_hi (z : Int) : i_an z 255 < 256 := by rw [an_eq]; omega
theorem an_tb (z : Int) : i_an (i_tb z) 255 = i_an z 255 := by
  have h1 := tb_lo z
  have h2 := tb_hi z
  rw [an_eq, an_eq, wr_id (by omega) (by omega), tb_eq]
  unfold Int.bmod
  dsimp only
  split <;> omega
theorem an_id {z : Int} (h0 : 0 ≤ z) (h1 : z < 256) : i_an z 255 = z := by
  rw [an_eq, wr_id (by omega) (by omega)]
  omega
theorem rg_wr_id {z : Int} (h : rg z) : wr z = z := t_of h
/-- what a call does, as a step: an answer, a state -/
def st3 (k : Bool) (d y : Nat) (as : List j3_W) (σ : j3_S) (r : Option j3_W) (σ' : j3_S) : Prop := ∀ Q : j3_P, Q r σ' → j3_tc k d y as σ Q
