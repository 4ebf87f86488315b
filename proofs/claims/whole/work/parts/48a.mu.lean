/-! the flow ends -/
def ht (t : Int) : Nat := if t = 0 then 0 else if t = 1 then 1 else if t = 2 then 12 else if t = 3 then 1 else (t - 2).toNat
def sm (f : Int → Nat) : Nat → Nat
  | 0 => 0
  | n + 1 => sm f n + f n
theorem sm_le {f g : Int → Nat} : ∀ n : Nat, (∀ k : Int, 0 ≤ k → k < n → f k ≤ g k) → sm f n ≤ sm g n
  | 0, _ => Nat.le_refl _
  | n + 1, h => Nat.add_le_add (sm_le n (fun k k0 k1 => h k k0 (by omega))) (h n (by omega) (by omega))
theorem sm_lt {f g : Int → Nat} : ∀ (n : Nat) (z : Int), 0 ≤ z → z < n → f z < g z → (∀ k : Int, 0 ≤ k → k < n → f k ≤ g k) → sm f n < sm g n
  | 0, z, z0, z1, _, _ => absurd z1 (by omega)
  | n + 1, z, z0, z1, hz, h => by
    have h1 := h n (by omega) (by omega)
    simp only [sm]
    by_cases g : z = n
    · subst g
      have := sm_le (f := f) (g := g) n (fun k k0 k1 => h k k0 (by omega))
      omega
    · have := sm_lt n z z0 (by omega) hz (fun k k0 k1 => h k k0 (by omega))
      omega
theorem sm_bd {f : Int → Nat} {b : Nat} : ∀ n : Nat, (∀ k : Int, 0 ≤ k → k < n → f k ≤ b) → sm f n ≤ n * b
  | 0, _ => by simp [sm]
  | n + 1, h => by
    have h1 := sm_bd n (fun k k0 k1 => h k k0 (by omega))
    have h2 := h n (by omega) (by omega)
    simp only [sm, Nat.succ_mul]
    omega
theorem sm_c {f g : Int → Nat} : ∀ n : Nat, (∀ k : Int, 0 ≤ k → k < n → f k = g k) → sm f n = sm g n
  | 0, _ => rfl
  | n + 1, h => by
    simp only [sm]
    rw [sm_c n (fun k k0 k1 => h k k0 (by omega)), h n (by omega) (by omega)]
section MU
variable {P : Pg} {nl : Int} {F : Fl} {i j n m a op b : Int} {s l : Int → Int}
theorem ht_le {t : Int} (hs : WFs P) (h : tyo P t) : ht t ≤ 12 := by
  have := hs.2.1
  obtain ⟨h0, h1⟩ := h
  unfold ht
  repeat' split
  all_goals omega
theorem mtu_le {y : Int} (hs : WFs P) : ∀ (k : Nat) (c : Int), c < P 3000 0 → mtu P y k c = 3 ∨ (4 ≤ mtu P y k c ∧ mtu P y k c ≤ 4 + c)
  | 0, c, _ => Or.inl rfl
  | k + 1, c, h => by
    simp only [mtu]
    split
    · exact Or.inl rfl
    · split
      · exact Or.inr ⟨by omega, by omega⟩
      · have h1 := hs.2.2 c (by omega) h
        rcases mtu_le hs k (P 3003 c) (by omega) with q | q
        · exact Or.inl q
        · exact Or.inr ⟨q.1, by omega⟩
theorem ht_mt {x y : Int} (hs : WFs P) (hx : tyo P x) (hy : tyo P y) : ht (mt P x y) ≤ ht x ∧ (¬ mt P x y = x → ht (mt P x y) < ht x) := by
  obtain ⟨x0, x1⟩ := hx
  obtain ⟨y0, y1⟩ := hy
  have hn := hs.2.1
  by_cases e : mt P x y = x
  · rw [e]
    exact ⟨Nat.le_refl _, fun h => absurd rfl h⟩
  have key : ht (mt P x y) < ht x := by
    unfold mt at e ⊢
    by_cases g : x = y
    · rw [if_pos g] at e
      exact absurd rfl e
    rw [if_neg g] at e ⊢
    by_cases g1 : x ≤ 1 ∨ y ≤ 1
    · rw [if_pos g1] at e ⊢
      unfold ht
      repeat' split
      all_goals omega
    rw [if_neg g1] at e ⊢
    by_cases g2 : x = 2
    · rw [if_pos g2] at e ⊢
      subst g2
      unfold ht
      repeat' split
      all_goals omega
    rw [if_neg g2] at e ⊢
    by_cases g3 : y = 2
    · rw [if_pos g3] at e
      exact absurd rfl e
    rw [if_neg g3] at e ⊢
    by_cases g4 : x = 3 ∨ y = 3
    · rw [if_pos g4] at e ⊢
      unfold ht
      repeat' split
      all_goals omega
    rw [if_neg g4] at e ⊢
    have := mtu_le (y := y - 4) hs 10 (x - 4) (by omega)
    generalize mtu P (y - 4) 10 (x - 4) = z at e this ⊢
    unfold ht
    repeat' split
    all_goals omega
  exact ⟨Nat.le_of_lt key, fun _ => key⟩
theorem dif_t {s t : Int → Int} : ∀ (r : Nat) (k : Int), dif P s t r k = true → ∃ z, k ≤ z ∧ z < k + r ∧ ¬ mt P (s z) (t z) = s z
  | 0, k, h => by simp [dif] at h
  | r + 1, k, h => by
    simp only [dif, Bool.or_eq_true] at h
    rcases h with h | h
    · exact ⟨k, by omega, by omega, by simpa using h⟩
    · obtain ⟨z, z0, z1, z2⟩ := dif_t r (k + 1) h
      exact ⟨z, by omega, by omega, z2⟩
def wt (nl : Int) (F : Fl) (i : Int) : Nat := if F.1 i < 0 then 400 else sm (fun k => ht (F.2.1 i k)) (F.1 i).toNat + sm (fun x => ht (F.2.2 i x)) nl.toNat
def mu (nl : Int) (F : Fl) : Nat := sm (wt nl F) 120
theorem wt_bd (hs : WFs P) (hok : Fok P nl F) (l0 : 0 ≤ nl) (l1 : nl ≤ 20) (i0 : 0 ≤ i) (i1 : i < 120) : wt nl F i ≤ 400 := by
  unfold wt
  split
  · omega
  · obtain ⟨o1, o2, o3⟩ := hok i i0 i1 (by omega)
    have h1 := sm_bd (f := fun k => ht (F.2.1 i k)) (b := 12) (F.1 i).toNat (fun k k0 k1 => ht_le hs (o2 k k0 (by omega)))
    have h2 := sm_bd (f := fun k => ht (F.2.2 i k)) (b := 12) nl.toNat (fun k k0 k1 => ht_le hs (o3 k k0 (by omega)))
    have : (F.1 i).toNat ≤ 10 := by omega
    have : nl.toNat ≤ 20 := by omega
    omega
theorem mu_bd (hs : WFs P) (hok : Fok P nl F) (l0 : 0 ≤ nl) (l1 : nl ≤ 20) : mu nl F ≤ 48000 := sm_bd (b := 400) 120 (fun k k0 k1 => wt_bd hs hok l0 l1 k0 (by omega))
theorem mu_ar (hs : WFs P) (hok : Fok P nl F) (l0 : 0 ≤ nl) (l1 : nl ≤ 20) (n0 : 0 ≤ n) (n1 : n ≤ 10) (ht' : tys P n s) (hl : tys P nl l) (j0 : 0 ≤ j) (j1 : j < 120) (hn : F.1 j < 0 ∨ F.1 j = n) : mu nl (arF P nl F j n s l) ≤ mu nl F ∧ (arc P nl F j n s l = true → mu nl (arF P nl F j n s l) < mu nl F) := by
  have oth : ∀ k, ¬ k = j → wt nl (arF P nl F j n s l) k = wt nl F k := by
    intro k hk
    unfold wt arF
    by_cases g : F.1 j < 0
    · simp only [if_pos g, i_up, up2, if_neg hk]
    · simp only [if_neg g, up2, if_neg hk]
  by_cases g : F.1 j < 0
  · have lt : wt nl (arF P nl F j n s l) j < wt nl F j := by
      unfold wt arF
      simp only [if_pos g, i_up, up2, if_true, if_neg (show ¬ n < 0 by omega)]
      have h1 := sm_bd (f := fun k => ht (s k)) (b := 12) n.toNat (fun k k0 k1 => ht_le hs (ht' k k0 (by omega)))
      have h2 := sm_bd (f := fun k => ht (l k)) (b := 12) nl.toNat (fun k k0 k1 => ht_le hs (hl k k0 (by omega)))
      have : n.toNat ≤ 10 := by omega
      have : nl.toNat ≤ 20 := by omega
      omega
    have := sm_lt (f := wt nl (arF P nl F j n s l)) (g := wt nl F) 120 j j0 (by omega) lt (fun k k0 k1 => by
      by_cases hk : k = j
      · subst hk
        exact Nat.le_of_lt lt
      · exact Nat.le_of_eq (oth k hk))
    exact ⟨Nat.le_of_lt this, fun _ => this⟩
  · have hn' : F.1 j = n := by omega
    obtain ⟨o1, o2, o3⟩ := hok j j0 j1 (by omega)
    have ewt : wt nl (arF P nl F j n s l) j = sm (fun k => ht (mtr P (F.2.1 j) s n k)) n.toNat + sm (fun x => ht (mtr P (F.2.2 j) l nl x)) nl.toNat := by
      have ea : arF P nl F j n s l = (F.1, up2 F.2.1 j (mtr P (F.2.1 j) s n), up2 F.2.2 j (mtr P (F.2.2 j) l nl)) := by
        unfold arF
        rw [if_neg g]
      rw [ea]
      unfold wt
      simp only [up2, if_true]
      rw [if_neg g, hn']
    have ewf : wt nl F j = sm (fun k => ht (F.2.1 j k)) n.toNat + sm (fun x => ht (F.2.2 j x)) nl.toNat := by
      unfold wt
      rw [if_neg g, hn']
    have p1 : ∀ k : Int, 0 ≤ k → k < n.toNat → ht (mtr P (F.2.1 j) s n k) ≤ ht (F.2.1 j k) := by
      intro k k0 k1
      simp only [mtr]
      rw [if_pos (by omega)]
      exact (ht_mt hs (o2 k k0 (by omega)) (ht' k k0 (by omega))).1
    have p2 : ∀ k : Int, 0 ≤ k → k < nl.toNat → ht (mtr P (F.2.2 j) l nl k) ≤ ht (F.2.2 j k) := by
      intro k k0 k1
      simp only [mtr]
      rw [if_pos (by omega)]
      exact (ht_mt hs (o3 k k0 (by omega)) (hl k k0 (by omega))).1
    have s1 := sm_le n.toNat p1
    have s2 := sm_le nl.toNat p2
    have le : wt nl (arF P nl F j n s l) j ≤ wt nl F j := by rw [ewt, ewf]; omega
    refine ⟨sm_le 120 (fun k k0 k1 => ?_), fun hc => sm_lt 120 j j0 (by omega) ?_ (fun k k0 k1 => ?_)⟩
    · by_cases hk : k = j
      · subst hk
        exact le
      · exact Nat.le_of_eq (oth k hk)
    · rw [ewt, ewf]
      simp only [arc, Bool.or_eq_true, decide_eq_true_eq] at hc
      rcases hc with (hc | hc) | hc
      · exact absurd hc g
      · obtain ⟨z, z0, z1, z2⟩ := dif_t _ _ hc
        have := sm_lt (f := fun k => ht (mtr P (F.2.1 j) s n k)) (g := fun k => ht (F.2.1 j k)) n.toNat z (by omega) (by omega) (by
          simp only [mtr]
          rw [if_pos (by omega)]
          exact (ht_mt hs (o2 z (by omega) (by omega)) (ht' z (by omega) (by omega))).2 z2) p1
        omega
      · obtain ⟨z, z0, z1, z2⟩ := dif_t _ _ hc
        have := sm_lt (f := fun k => ht (mtr P (F.2.2 j) l nl k)) (g := fun k => ht (F.2.2 j k)) nl.toNat z (by omega) (by omega) (by
          simp only [mtr]
          rw [if_pos (by omega)]
          exact (ht_mt hs (o3 z (by omega) (by omega)) (hl z (by omega) (by omega))).2 z2) p2
        omega
    · by_cases hk : k = j
      · subst hk
        exact le
      · exact Nat.le_of_eq (oth k hk)
theorem mu_lk (hW : WFp P) (m0 : 0 ≤ m) (m1 : m < P 3001 0) (hnl : P 3017 m = nl) (i0 : 0 ≤ i) (i1 : i < P 0 m) (h0 : 0 ≤ F.1 i) (hok : Fok P nl F) (h : (lk P m nl i F).1 = 0) : mu nl (lk P m nl i F).2.1 ≤ mu nl F ∧ ((lk P m nl i F).2.2 = true → mu nl (lk P m nl i F).2.1 < mu nl F) := by
  obtain ⟨hs, hm, -, hM⟩ := id hW
  obtain ⟨-, q2, -, q4, q5, q6, q7⟩ := hM m m0 m1
  have hi := q7 i i0 i1
  obtain ⟨o1, o2, o3⟩ := hok i i0 (by omega) h0
  have l0 : 0 ≤ nl := by have := q4.1; omega
  unfold lk look at h ⊢
  by_cases g : exf P m (P 1 (m * 120 + i)) (P 2 (m * 120 + i)) (P 3 (m * 120 + i)) (F.1 i) (F.2.1 i) (F.2.2 i) = 0
  · rw [if_pos g] at h ⊢
    obtain ⟨e1, -, -, e4⟩ := exf0 g
    have tS := exs_o hW hi hnl.symm e1 o2 o3
    have tL := exl_o (a := P 2 (m * 120 + i)) (b := P 3 (m * 120 + i)) (op := P 1 (m * 120 + i)) (m := m) e1 o2 o3
    have n0 : 0 ≤ exn P m (P 1 (m * 120 + i)) (P 2 (m * 120 + i)) (P 3 (m * 120 + i)) (F.1 i) (F.2.1 i) (F.2.2 i) := by
      unfold exn
      omega
    generalize exn P m (P 1 (m * 120 + i)) (P 2 (m * 120 + i)) (P 3 (m * 120 + i)) (F.1 i) (F.2.1 i) (F.2.2 i) = n at h tS n0 e4 ⊢
    generalize exs P m (P 1 (m * 120 + i)) (P 2 (m * 120 + i)) (P 3 (m * 120 + i)) (F.1 i) (F.2.1 i) (F.2.2 i) = s at h tS ⊢
    generalize exl P m (P 1 (m * 120 + i)) (P 2 (m * 120 + i)) (P 3 (m * 120 + i)) (F.1 i) (F.2.1 i) (F.2.2 i) = l at h tL ⊢
    have hj : isj (P 1 (m * 120 + i)) = true → 0 ≤ P 2 (m * 120 + i) ∧ P 2 (m * 120 + i) < P 0 m := fun q => hi.2.2.2.1 (isj_b q)
    have A1 : (ar1 P m nl i (P 1 (m * 120 + i)) F n s l).1 = 0 → mu nl (ar1 P m nl i (P 1 (m * 120 + i)) F n s l).2.1 ≤ mu nl F ∧ ((ar1 P m nl i (P 1 (m * 120 + i)) F n s l).2.2 = true → mu nl (ar1 P m nl i (P 1 (m * 120 + i)) F n s l).2.1 < mu nl F) := by
      unfold ar1
      split
      · split
        · intro q
          exact mu_ar hs hok l0 (by omega) n0 e4 tS tL (by omega) (by omega) (arf0 q)
        · intro _
          exact ⟨Nat.le_refl _, fun q => by cases q⟩
      · intro _
        exact ⟨Nat.le_refl _, fun q => by cases q⟩
    unfold ar2 at h ⊢
    by_cases gg : (ar1 P m nl i (P 1 (m * 120 + i)) F n s l).1 = 0 ∧ isj (P 1 (m * 120 + i)) = true
    · rw [if_pos gg] at h ⊢
      have B1 := A1 gg.1
      have B2 := mu_ar (j := P 2 (m * 120 + i)) hs (ar1_ok hs hok e4 tS tL gg.1) l0 (by omega) n0 e4 tS tL (hj gg.2).1 (by have := (hj gg.2).2; omega) (arf0 h)
      refine ⟨Nat.le_trans B2.1 B1.1, fun q => ?_⟩
      simp only [Bool.or_eq_true] at q
      rcases q with q | q
      · exact Nat.lt_of_le_of_lt B2.1 (B1.2 q)
      · exact Nat.lt_of_lt_of_le (B2.2 q) B1.1
    · rw [if_neg gg] at h ⊢
      exact A1 h
  · rw [if_neg g] at h ⊢
    exact absurd h g
theorem mu_rnd (hW : WFp P) (m0 : 0 ≤ m) (m1 : m < P 3001 0) (hnl : P 3017 m = nl) : ∀ (r : Nat) (i : Int) (F : Fl) (c : Bool), 0 ≤ i → i + r = P 0 m → Fok P nl F → mu nl (rnd P m nl r i F c).2.2.1 ≤ mu nl F ∧ ((rnd P m nl r i F c).2.2.2 = true → c = true ∨ mu nl (rnd P m nl r i F c).2.2.1 < mu nl F)
  | 0, i, F, c, i0, hi, h => ⟨Nat.le_refl _, fun q => Or.inl q⟩
  | r + 1, i, F, c, i0, hi, h => by
    simp only [rnd]
    split
    · exact mu_rnd hW m0 m1 hnl r (i + 1) F c (by omega) (by omega) h
    · split
      · rename_i g1 g2
        have B1 := mu_lk hW m0 m1 hnl i0 (by omega) (by omega) h g2
        have B2 := mu_rnd hW m0 m1 hnl r (i + 1) (lk P m nl i F).2.1 (c || (lk P m nl i F).2.2) (by omega) (by omega) (lk_ok hW m0 m1 hnl i0 (by omega) (by omega) h g2)
        refine ⟨Nat.le_trans B2.1 B1.1, fun q => ?_⟩
        rcases B2.2 q with q | q
        · simp only [Bool.or_eq_true] at q
          rcases q with q | q
          · exact Or.inl q
          · exact Or.inr (Nat.lt_of_le_of_lt B2.1 (B1.2 q))
        · exact Or.inr (Nat.lt_of_lt_of_le q B1.1)
      · exact ⟨Nat.le_refl _, fun q => Or.inl q⟩
theorem itr_end (hW : WFp P) (m0 : 0 ≤ m) (m1 : m < P 3001 0) (hnl : P 3017 m = nl) (n : Nat) : ∀ (F : Fl), Fok P nl F → mu nl F < n → ∃ R, itr P m nl n F = some R := by
  induction n with
  | zero =>
    intro F _ h
    exact (Nat.not_lt_zero _ h).elim
  | succ n ih =>
    intro F hok h
    obtain ⟨-, -, -, -, -, q6, -⟩ := hW.2.2.2 m m0 m1
    have B := mu_rnd hW m0 m1 hnl (P 0 m).toNat 0 F false (by omega) (by omega) hok
    have hr := rnd_ok hW m0 m1 hnl (P 0 m).toNat 0 F false (by omega) (by omega) hok
    simp only [itr]
    split
    · split
      · rename_i g1 g2
        rcases B.2 g2 with q | q
        · cases q
        · exact ih _ hr (Nat.lt_of_lt_of_le q (Nat.le_of_lt_succ h))
      · exact ⟨_, rfl⟩
    · exact ⟨_, rfl⟩
/-- what the flow of a method comes to -/
def res (P : Pg) (m : Int) : Int × Int × Fl := (itr P m (P 3017 m) 50000 (Fi P m)).getD (0, 0, Fi P m)
theorem res_e (hW : WFp P) (m0 : 0 ≤ m) (m1 : m < P 3001 0) : itr P m (P 3017 m) 50000 (Fi P m) = some (res P m) := by
  obtain ⟨-, q2, -, q4, q5, -⟩ := hW.2.2.2 m m0 m1
  have := mu_bd (nl := P 3017 m) hW.1 (Fi_ok hW m0 m1) (by have := q4.1; omega) (by omega)
  obtain ⟨R, hR⟩ := itr_end hW m0 m1 rfl 50000 (Fi P m) (Fi_ok hW m0 m1) (Nat.lt_of_le_of_lt this (by decide))
  unfold res
  rw [hR]
  rfl
end MU
