/-! the class: codes gathered, folded and laid, method by method -/
noncomputable def foX (P : Pg) (T : Int → Fl) (L : Int → Int) (bud m : Int) : Sx := (fdS 30000 (gaX P T L bud m) (fun _ => 0)).1
noncomputable def foC (P : Pg) (T : Int → Fl) (L : Int → Int) (bud m : Int) : Int → Int := (fdS 30000 (gaX P T L bud m) (fun _ => 0)).2
noncomputable def ctS (P : Pg) (T : Int → Fl) (R : Rs) (bud : Int) : Nat → Int → Int
  | 0 => fun _ => 0
  | k + 1 => if R.1 k = 1 then fun i => addc (ctS P T R bud k) (nbS P T R.2.1 k (P 0 k).toNat) (gaE P T R.2.1 bud k).2.2.2.2 i + foC P T R.2.1 bud k i else ctS P T R bud k
def lyR (σ : j3_S) (o2 : Nat) (m : Int) (X : Sx) (l : Int) : Prop := σ.2.2 0 (o2 + 17) m = X.n ∧ σ.2.2 6010 83 m = l ∧ ∀ i, 0 ≤ i → i < X.n → σ.2.2 1 (o2 + 17) (m * 120 + i) = X.op i ∧ σ.2.2 2 (o2 + 17) (m * 120 + i) = X.a i ∧ σ.2.2 3 (o2 + 17) (m * 120 + i) = X.b i ∧ σ.2.2 4 (o2 + 17) (m * 120 + i) = 0 ∧ σ.2.2 6003 83 (m * 120 + i) = X.o1 i ∧ σ.2.2 6004 83 (m * 120 + i) = X.o2 i
def lyC (σ : j3_S) (o2 : Nat) (P : Pg) (T : Int → Fl) (R : Rs) (bud k : Int) : Prop := ∀ m, 0 ≤ m → m < k → (R.1 m = 1 → lyR σ o2 m (foX P T R.2.1 bud m) (gaE P T R.2.1 bud m).2.1) ∧ (R.1 m = 0 → σ.2.2 0 (o2 + 17) m = 0)
def lyA : List Nat := [0, 1, 2, 3, 4, 6003, 6004, 6010]
def lyF (o2 : Nat) (m : Int) (σ σ' : j3_S) : Prop := frm [] lyA σ σ' ∧ (∀ e o', e ≤ 4 → ¬ o' = o2 + 17 → σ'.2.2 e o' = σ.2.2 e o') ∧ (∀ z, z < m * 120 ∨ m * 120 + 120 ≤ z → (∀ e, 1 ≤ e → e ≤ 4 → σ'.2.2 e (o2 + 17) z = σ.2.2 e (o2 + 17) z) ∧ σ'.2.2 6003 83 z = σ.2.2 6003 83 z ∧ σ'.2.2 6004 83 z = σ.2.2 6004 83 z) ∧ ∀ z, ¬ z = m → σ'.2.2 0 (o2 + 17) z = σ.2.2 0 (o2 + 17) z ∧ σ'.2.2 6010 83 z = σ.2.2 6010 83 z
def mkI : List Nat := [7000, 7001, 7009]
def mkA : List Nat := [7002, 7003, 7004, 7005, 7006, 7007, 7008, 7010, 7011, 6005, 6009, 0, 1, 2, 3, 4, 6003, 6004, 6010]
def mkF (o2 : Nat) (σ σ' : j3_S) : Prop := frm mkI mkA σ σ' ∧ ∀ e o', e ≤ 4 → ¬ o' = o2 + 17 → σ'.2.2 e o' = σ.2.2 e o'
section CLAY
variable {σ σ' σ'' σ0 : j3_S} {P : Pg} {T : Int → Fl} {R : Rs} {X : Sx} {m i bud l k : Int} {d o o2 : Nat} {Q : j3_P} {c : Int → Int}
theorem bmp_v (c : Int → Int) (r i : Int) : bmp c r i = c i + bmp (fun _ => 0) r i ∧ 0 ≤ bmp (fun _ => 0) r i ∧ bmp (fun _ => 0) r i ≤ 1 := by
  unfold bmp
  simp only [i_up]
  by_cases g : i = 10 + r
  · simp only [if_pos g]; rw [g]; omega
  · simp only [if_neg g]
    by_cases g : i = 2
    · simp only [if_pos g]; rw [g]; omega
    · simp only [if_neg g]; omega
theorem fd_c : ∀ (k : Nat) (X : Sx) (c : Int → Int), (fdS k X c).1 = (fdS k X (fun _ => 0)).1 ∧ ∀ i, (fdS k X c).2 i = c i + (fdS k X (fun _ => 0)).2 i ∧ 0 ≤ (fdS k X (fun _ => 0)).2 i ∧ (fdS k X (fun _ => 0)).2 i ≤ k
  | 0, X, c => ⟨rfl, fun i => by show c i = c i + 0 ∧ (0 : Int) ≤ 0 ∧ (0 : Int) ≤ 0; omega⟩
  | k + 1, X, c => by
    unfold fdS
    by_cases g : ffS X X.n.toNat 0 = -1
    · rw [if_pos g, if_pos g]
      exact ⟨rfl, fun i => ⟨(Int.add_zero _).symm, Int.le_refl _, Int.natCast_nonneg _⟩⟩
    · rw [if_neg g, if_neg g]
      generalize apS X (ruS X (ffS X X.n.toNat 0)) (ffS X X.n.toNat 0) = Y
      generalize ruS X (ffS X X.n.toNat 0) = r
      obtain ⟨a1, a2⟩ := fd_c k Y (bmp c r)
      obtain ⟨b1, b2⟩ := fd_c k Y (bmp (fun _ => 0) r)
      refine ⟨a1.trans b1.symm, fun i => ?_⟩
      have := a2 i
      have := b2 i
      have := bmp_v c r i
      push_cast
      omega
theorem fd_01 : ∀ (k : Nat) (X : Sx) (i : Int), i = 0 ∨ i = 1 → (fdS k X (fun _ => 0)).2 i = 0
  | 0, _, _, _ => rfl
  | k + 1, X, i, hi => by
    unfold fdS
    by_cases g : ffS X X.n.toNat 0 = -1
    · rw [if_pos g]
    · rw [if_neg g, ((fd_c k _ _).2 i).1, fd_01 k _ i hi]
      rcases ff_c (X := X) X.n.toNat 0 with ⟨h1, -⟩ | ⟨-, -, hr, -⟩
      · exact absurd h1 g
      · have := ru_b hr
        unfold bmp
        simp only [i_up]
        rw [if_neg (by omega), if_neg (by omega)]; rfl
theorem ct_b (h : grR P T R) : ∀ k : Nat, (k : Int) ≤ P 3001 0 → ∀ i, 0 ≤ ctS P T R bud k i ∧ ctS P T R bud k i ≤ k * 40000
  | 0, _, i => by show (0 : Int) ≤ 0 ∧ (0 : Int) ≤ 0 * 40000; omega
  | k + 1, hk, i => by
    have ih := ct_b h k (by omega)
    have i0 := ih i
    have i1 := ih 0
    have i2 := ih 1
    unfold ctS
    by_cases g : R.1 k = 1
    · rw [if_pos g]
      have f := ((fd_c 30000 (gaX P T R.2.1 bud k) (fun _ => 0)).2 i).2
      have nb := nbS_b (P := P) (T := T) (R := R) (m := k) (P 0 k).toNat
      obtain ⟨-, -, -, -, -, q6, -⟩ := h.1.1.1.2.2.2 k (by omega) (by omega)
      obtain ⟨-, -, -, -, v6, v7⟩ := gs_v (bud := bud) h (m := k) (by omega) (by omega) g (P 0 k).toNat (by omega)
      have e : gsN P T R.2.1 bud k (P 0 k).toNat = gaE P T R.2.1 bud k := rfl
      rw [e] at v6 v7
      show 0 ≤ addc (ctS P T R bud k) (nbS P T R.2.1 k (P 0 k).toNat) (gaE P T R.2.1 bud k).2.2.2.2 i + (fdS 30000 (gaX P T R.2.1 bud k) (fun _ => 0)).2 i ∧ addc (ctS P T R bud k) (nbS P T R.2.1 k (P 0 k).toNat) (gaE P T R.2.1 bud k).2.2.2.2 i + (fdS 30000 (gaX P T R.2.1 bud k) (fun _ => 0)).2 i ≤ ((k + 1 : Nat) : Int) * 40000
      rw [addc_v]
      push_cast
      split
      · omega
      · split <;> omega
    · rw [if_neg g]; push_cast; omega
theorem s87 (hp : σ.2.1 6 = o2) (ho : ¬ o2 = 0) (m0 : 0 ≤ m) (m1 : m < 80) (hx : xC σ X) (n0 : 0 ≤ X.n) (n1 : X.n ≤ 120) (hl : σ.1 7001 96 = l) (hQ : ∀ σ', lyF o2 m σ σ' → lyR σ' o2 m X l → Q none σ') : j3_tc false (d + 3) 87 [wO 6 83, wI m] σ Q := by
  rw [e87, b87_0, hp, hx.1]
  simp (disch := omega) only [wr_id]
  refine ⟨ho, by omega, ho, by omega, ho, by omega, by omega, by omega, ho, ?_⟩
  rw [s249 (n := 9600) rfl rfl rfl (by omega) (by omega) (by omega) (by omega)]
  simp only [Option.toList_none, List.nil_append]
  rw [b87_77]
  dsimp only
  rw [hp, hx.1, hl]
  refine ⟨ho, by omega, by omega, ?_⟩
  generalize hA : j3_ast (j3_ast (j3_up (j3_acp (j3_acp (j3_acp (j3_acp (j3_acp σ.2.2 7002 96 1 (o2 + 17) 0 (m * 120) X.n) 7003 96 2 (o2 + 17) 0 (m * 120) X.n) 7004 96 3 (o2 + 17) 0 (m * 120) X.n) 7005 96 6003 83 0 (m * 120) X.n) 7006 96 6004 83 0 (m * 120) X.n) 4 (o2 + 17) (i_fl (j3_acp (j3_acp (j3_acp (j3_acp (j3_acp σ.2.2 7002 96 1 (o2 + 17) 0 (m * 120) X.n) 7003 96 2 (o2 + 17) 0 (m * 120) X.n) 7004 96 3 (o2 + 17) 0 (m * 120) X.n) 7005 96 6003 83 0 (m * 120) X.n) 7006 96 6004 83 0 (m * 120) X.n 4 (o2 + 17)) (m * 120) (m * 120 + X.n) 0)) 0 (o2 + 17) m X.n) 6010 83 m l = A'
  have a0 : A' 0 (o2 + 17) = i_up (σ.2.2 0 (o2 + 17)) m X.n := by
    rw [← hA]
    simp only [j3_ast, j3_acp]
    rw [up_e rfl, up_r, up_e rfl, up_e rfl, up_e rfl, up_e rfl, up_e rfl, up_e rfl]
  have a6 : A' 6010 83 = i_up (σ.2.2 6010 83) m l := by
    rw [← hA]
    simp only [j3_ast, j3_acp]
    rw [up_r, up_e rfl, up_e rfl, up_e rfl, up_e rfl, up_e rfl, up_e rfl, up_e rfl]
  have a1 : A' 1 (o2 + 17) = i_cp (σ.2.2 7002 96) (σ.2.2 1 (o2 + 17)) 0 (m * 120) X.n := by
    rw [← hA]
    simp only [j3_ast, j3_acp]
    rw [up_e rfl, up_e rfl, up_e rfl, up_e rfl, up_e rfl, up_e rfl, up_e rfl, up_r]
  have a2 : A' 2 (o2 + 17) = i_cp (σ.2.2 7003 96) (σ.2.2 2 (o2 + 17)) 0 (m * 120) X.n := by
    rw [← hA]
    simp only [j3_ast, j3_acp]
    rw [up_e rfl, up_e rfl, up_e rfl, up_e rfl, up_e rfl, up_e rfl, up_r, up_e rfl, up_e rfl]
  have a3 : A' 3 (o2 + 17) = i_cp (σ.2.2 7004 96) (σ.2.2 3 (o2 + 17)) 0 (m * 120) X.n := by
    rw [← hA]
    simp only [j3_ast, j3_acp]
    rw [up_e rfl, up_e rfl, up_e rfl, up_e rfl, up_e rfl, up_r, up_e rfl, up_e rfl, up_e rfl, up_e rfl]
  have a4 : A' 4 (o2 + 17) = i_fl (σ.2.2 4 (o2 + 17)) (m * 120) (m * 120 + X.n) 0 := by
    rw [← hA]
    simp only [j3_ast, j3_acp]
    rw [up_e rfl, up_e rfl, up_r, up_e rfl, up_e rfl, up_e rfl, up_e rfl, up_e rfl]
  have a5 : A' 6003 83 = i_cp (σ.2.2 7005 96) (σ.2.2 6003 83) 0 (m * 120) X.n := by
    rw [← hA]
    simp only [j3_ast, j3_acp]
    rw [up_e rfl, up_e rfl, up_e rfl, up_e rfl, up_r, up_e rfl, up_e rfl, up_e rfl, up_e rfl, up_e rfl, up_e rfl]
  have a7 : A' 6004 83 = i_cp (σ.2.2 7006 96) (σ.2.2 6004 83) 0 (m * 120) X.n := by
    rw [← hA]
    simp only [j3_ast, j3_acp]
    rw [up_e rfl, up_e rfl, up_e rfl, up_r, up_e rfl, up_e rfl, up_e rfl, up_e rfl, up_e rfl, up_e rfl, up_e rfl, up_e rfl]
  have fr : frm [] lyA σ (σ.1, σ.2.1, A') := by
    rw [← hA]
    exact frm.A rfl (frm.A rfl (frm.A rfl (frm.A rfl (frm.A rfl (frm.A rfl (frm.A rfl (frm.A rfl frm.rf)))))))
  have no : ∀ e o', e ≤ 4 → ¬ o' = o2 + 17 → A' e o' = σ.2.2 e o' := by
    intro e o' he ho'
    have h6 : ∀ (f : Nat → Nat → Int → Int) (v : Int → Int) (e' o'' : Nat), (o'' = o2 + 17 ∨ 5 ≤ e') → j3_up f e' o'' v e o' = f e o' := by
      intro f v e' o'' hh
      refine up_ne (fun q => ?_)
      rcases hh with hh | hh
      · exact ho' (by rw [q.2, hh])
      · omega
    rw [← hA]
    simp only [j3_ast, j3_acp]
    rw [h6 _ _ _ _ (Or.inr (by omega)), h6 _ _ _ _ (Or.inl rfl), h6 _ _ _ _ (Or.inl rfl), h6 _ _ _ _ (Or.inr (by omega)), h6 _ _ _ _ (Or.inr (by omega)), h6 _ _ _ _ (Or.inl rfl), h6 _ _ _ _ (Or.inl rfl), h6 _ _ _ _ (Or.inl rfl)]
  clear hA
  refine hQ _ ⟨fr, no, fun z hz => ⟨fun e e0 e1 => ?_, ?_, ?_⟩, fun z hz => ⟨?_, ?_⟩⟩ ⟨?_, ?_, fun i i0 i1 => ?_⟩
  · show A' e (o2 + 17) z = _
    have hz' : ¬ (m * 120 ≤ z ∧ z < m * 120 + X.n) := by omega
    rcases (by omega : e = 1 ∨ e = 2 ∨ e = 3 ∨ e = 4) with rfl | rfl | rfl | rfl
    · rw [a1]; unfold i_cp; rw [if_neg hz']
    · rw [a2]; unfold i_cp; rw [if_neg hz']
    · rw [a3]; unfold i_cp; rw [if_neg hz']
    · rw [a4]; unfold i_fl; rw [if_neg hz']
  · show A' 6003 83 z = _
    rw [a5]; unfold i_cp; rw [if_neg (by omega)]
  · show A' 6004 83 z = _
    rw [a7]; unfold i_cp; rw [if_neg (by omega)]
  · show A' 0 (o2 + 17) z = _
    rw [a0, iu_n hz]
  · show A' 6010 83 z = _
    rw [a6, iu_n hz]
  · show A' 0 (o2 + 17) m = _
    rw [a0, iu_r]
  · show A' 6010 83 m = _
    rw [a6, iu_r]
  · obtain ⟨x1, x2, x3, x4, x5⟩ := hx.2 i i0 i1
    have hz : m * 120 ≤ m * 120 + i ∧ m * 120 + i < m * 120 + X.n := by omega
    have ez : 0 + (m * 120 + i - m * 120) = i := by omega
    show A' 1 (o2 + 17) (m * 120 + i) = _ ∧ A' 2 (o2 + 17) (m * 120 + i) = _ ∧ A' 3 (o2 + 17) (m * 120 + i) = _ ∧ A' 4 (o2 + 17) (m * 120 + i) = _ ∧ A' 6003 83 (m * 120 + i) = _ ∧ A' 6004 83 (m * 120 + i) = _
    rw [a1, a2, a3, a4, a5, a7]
    unfold i_cp i_fl
    simp only [if_pos hz, ez]
    exact ⟨x1, x2, x3, trivial, x4, x5⟩
end CLAY
