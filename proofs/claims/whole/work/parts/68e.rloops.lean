/-! the reference: its loops over methods -/
def sB (P : Pg) (T : Int → Fl) (R : Rs) : Nat → Int
  | 0 => 0
  | k + 1 => sB P T R k + (if R.1 k = 1 then nbS P T R.2.1 k (P 0 k).toNat else 0)
def sP (P : Pg) (T : Int → Fl) (R : Rs) (bud : Int) : Nat → Int
  | 0 => 0
  | k + 1 => sP P T R bud k + (if R.1 k = 1 then (gaE P T R.2.1 bud k).2.2.2.2 else 0)
noncomputable def sFo (P : Pg) (T : Int → Fl) (R : Rs) (bud : Int) : Nat → Int → Int
  | 0 => fun _ => 0
  | k + 1 => fun i => sFo P T R bud k i + (if R.1 k = 1 then foC P T R.2.1 bud k i else 0)
def bdR (σ : j3_S) (P : Pg) (T : Int → Fl) (L : Int → Int) (m : Int) : Prop := σ.2.2 10025 121 (160 + m) = P 3017 m ∧ σ.2.2 10026 121 (160 + m) = P 0 m ∧ bnR σ P T L m (P 0 m)
def gdR (σ : j3_S) (m : Int) (X : Sx) (l : Int) : Prop := σ.2.2 10025 121 (160 + m) = l ∧ σ.2.2 10026 121 (160 + m) = X.n ∧ cbR σ m X X.n
/-- the method m of the third slot is the same -/
def sm2 (m : Int) (σ σ' : j3_S) : Prop := (σ'.2.2 10025 121 (160 + m) = σ.2.2 10025 121 (160 + m) ∧ σ'.2.2 10026 121 (160 + m) = σ.2.2 10026 121 (160 + m)) ∧ ∀ e, cd6.elem e = true → ∀ i, 0 ≤ i → i < 120 → σ'.2.2 e 121 (19200 + 120 * m + i) = σ.2.2 e 121 (19200 + 120 * m + i)
def rlI : List Nat := [10061, 10062, 10063, 10068]
def rlA : List Nat := [10052, 10053, 10054, 10055, 10056, 10057, 10058, 10059, 10060, 10064, 10065, 10066, 10067]
section RLOOPS
variable {σ σ' σ'' σ0 : j3_S} {P : Pg} {T : Int → Fl} {R : Rs} {X : Sx} {m m' i bud n0 l : Int} {d : Nat} {Q : j3_P} {c : Int → Int} {st : Int → Int} {li la : List Nat} {L : Int → Int}
theorem sums : ∀ (i : Int) (k : Nat), ctS P T R bud k i = addc (fun _ => 0) (sB P T R k) (sP P T R bud k) i + sFo P T R bud k i
  | i, 0 => by
    rw [addc_v]
    show (0 : Int) = (if i = 1 then (0 : Int) + 0 else if i = 0 then (0 : Int) + 0 else 0) + 0
    split
    · omega
    · split <;> omega
  | i, k + 1 => by
    have ih := sums i k
    have ih0 := sums 0 k
    have ih1 := sums 1 k
    have e1 : ctS P T R bud (k + 1) = if R.1 k = 1 then fun i => addc (ctS P T R bud k) (nbS P T R.2.1 k (P 0 k).toNat) (gaE P T R.2.1 bud k).2.2.2.2 i + foC P T R.2.1 bud k i else ctS P T R bud k := rfl
    have e2 : sB P T R (k + 1) = sB P T R k + (if R.1 k = 1 then nbS P T R.2.1 k (P 0 k).toNat else 0) := rfl
    have e3 : sP P T R bud (k + 1) = sP P T R bud k + (if R.1 k = 1 then (gaE P T R.2.1 bud k).2.2.2.2 else 0) := rfl
    have e4 : sFo P T R bud (k + 1) i = sFo P T R bud k i + (if R.1 k = 1 then foC P T R.2.1 bud k i else 0) := rfl
    rw [e1, e2, e3, e4]
    by_cases g : R.1 k = 1
    · simp only [if_pos g]
      rw [addc_v] at ih ih0 ih1 ⊢
      rw [addc_v]
      by_cases g1 : i = 1
      · subst g1
        rw [if_pos rfl] at ih1
        rw [if_pos rfl, if_pos rfl]
        omega
      · rw [if_neg g1] at ih
        rw [if_neg g1, if_neg g1]
        by_cases g0 : i = 0
        · subst g0
          rw [if_pos rfl] at ih
          rw [if_pos rfl, if_pos rfl]
          omega
        · rw [if_neg g0] at ih
          rw [if_neg g0, if_neg g0]
          omega
    · simp only [if_neg g]
      rw [show sB P T R k + 0 = sB P T R k by omega, show sP P T R bud k + 0 = sP P T R bud k by omega, ih]
      omega
theorem sB_b (h : grR P T R) : ∀ k : Nat, (k : Int) ≤ P 3001 0 → 0 ≤ sB P T R k ∧ sB P T R k ≤ k * 120
  | 0, _ => by show (0 : Int) ≤ 0 ∧ (0 : Int) ≤ 0 * 120; omega
  | k + 1, hk => by
    have := sB_b h k (by omega)
    have nb := nbS_b (P := P) (T := T) (R := R) (m := k) (P 0 k).toNat
    obtain ⟨-, -, -, -, -, q6, -⟩ := h.1.1.1.2.2.2 k (by omega) (by omega)
    show 0 ≤ sB P T R k + (if R.1 k = 1 then nbS P T R.2.1 k (P 0 k).toNat else 0) ∧ sB P T R k + (if R.1 k = 1 then nbS P T R.2.1 k (P 0 k).toNat else 0) ≤ ((k + 1 : Nat) : Int) * 120
    push_cast
    split <;> omega
theorem sP_b (h : grR P T R) : ∀ k : Nat, (k : Int) ≤ P 3001 0 → 0 ≤ sP P T R bud k ∧ sP P T R bud k ≤ k * 120
  | 0, _ => by show (0 : Int) ≤ 0 ∧ (0 : Int) ≤ 0 * 120; omega
  | k + 1, hk => by
    have := sP_b h k (by omega)
    obtain ⟨-, -, -, -, -, q6, -⟩ := h.1.1.1.2.2.2 k (by omega) (by omega)
    show 0 ≤ sP P T R bud k + (if R.1 k = 1 then (gaE P T R.2.1 bud k).2.2.2.2 else 0) ∧ sP P T R bud k + (if R.1 k = 1 then (gaE P T R.2.1 bud k).2.2.2.2 else 0) ≤ ((k + 1 : Nat) : Int) * 120
    push_cast
    by_cases g : R.1 k = 1
    · rw [if_pos g]
      obtain ⟨-, -, -, -, v6, v7⟩ := gs_v (bud := bud) h (m := k) (by omega) (by omega) g (P 0 k).toNat (by omega)
      have e : gsN P T R.2.1 bud k (P 0 k).toNat = gaE P T R.2.1 bud k := rfl
      rw [e] at v6 v7
      omega
    · rw [if_neg g]; omega
theorem sFo_b (i : Int) : ∀ k : Nat, 0 ≤ sFo P T R bud k i ∧ sFo P T R bud k i ≤ k * 30000
  | 0 => by show (0 : Int) ≤ 0 ∧ (0 : Int) ≤ 0 * 30000; omega
  | k + 1 => by
    have := sFo_b i k
    have f := ((fd_c 30000 (gaX P T R.2.1 bud k) (fun _ => 0)).2 i).2
    have e : foC P T R.2.1 bud k i = (fdS 30000 (gaX P T R.2.1 bud k) (fun _ => 0)).2 i := rfl
    show 0 ≤ sFo P T R bud k i + (if R.1 k = 1 then foC P T R.2.1 bud k i else 0) ∧ sFo P T R bud k i + (if R.1 k = 1 then foC P T R.2.1 bud k i else 0) ≤ ((k + 1 : Nat) : Int) * 30000
    rw [e]
    push_cast
    split <;> omega
theorem mF.sm2 (h : mF m li la σ σ') (g : ¬ m' = m) : sm2 m' σ σ' := by
  refine ⟨⟨(h.2.2 _ (by omega)).1, (h.2.2 _ (by omega)).2⟩, fun e he i i0 i1 => h.2.1 e he _ ?_⟩
  by_cases q : m' < m
  · left; omega
  · right; omega
theorem bdR.keep (h : bdR σ P T L m) (hW : P 0 m ≤ 120) (hs : sm2 m σ σ') : bdR σ' P T L m := by
  obtain ⟨a1, a2, a3⟩ := h
  refine ⟨by rw [hs.1.1]; exact a1, by rw [hs.1.2]; exact a2, fun j j0 j1 => ?_⟩
  rw [hs.2 10027 rfl j j0 (by omega), hs.2 10028 rfl j j0 (by omega), hs.2 10029 rfl j j0 (by omega)]
  exact a3 j j0 j1
theorem gdR.keep (h : gdR σ m X l) (hX : X.n ≤ 120) (hs : sm2 m σ σ') : gdR σ' m X l := by
  obtain ⟨a1, a2, a3⟩ := h
  refine ⟨by rw [hs.1.1]; exact a1, by rw [hs.1.2]; exact a2, fun i i0 i1 => ?_⟩
  have := a3 i i0 i1
  unfold rwR oR at this ⊢
  rw [hs.2 10027 rfl i i0 (by omega), hs.2 10028 rfl i i0 (by omega), hs.2 10029 rfl i i0 (by omega), hs.2 10030 rfl i i0 (by omega), hs.2 10031 rfl i i0 (by omega), hs.2 10032 rfl i i0 (by omega)]
  exact this
/-- a copy into the third slot -/
theorem cpM.s2 (h : cpM σ 0 m 2 m σ') (m0 : 0 ≤ m) : s2F li la σ σ' := by
  obtain ⟨f, h1, h2, h3⟩ := h
  refine ⟨f.wd (fun _ _ => rfl) (fun e q => ?_), fun e he z hz => ?_⟩
  · cases hb : (hdA ++ [10024] ++ cinA).elem e
    · rfl
    · have : (la ++ s2A).elem e = true := by
        simp only [List.elem_eq_mem, decide_eq_true_eq, List.mem_append] at hb ⊢
        right
        have h' : (hdA ++ [10024] ++ cinA).all (fun e => s2A.elem e) = true := rfl
        have := List.all_eq_true.1 h' e (by simpa only [List.mem_append] using hb)
        simpa using this
      rw [this] at q; cases q
  · have h' : s2A.all (fun e => hdA.elem e || e == 10024 || cinA.elem e) = true := rfl
    have hc := List.all_eq_true.1 h' e (by simpa using he)
    by_cases g1 : hdA.elem e = true
    · have sl : slz e = 80 := by
        simp only [hdA, List.elem_eq_mem, decide_eq_true_eq, List.mem_cons, List.not_mem_nil, or_false] at g1
        rcases g1 with rfl | rfl | rfl | rfl | rfl | rfl | rfl <;> rfl
      rw [sl] at hz
      rw [h1 e g1, iu_n (by omega)]
    · by_cases g2 : cinA.elem e = true
      · have sl : slz e = 9600 := by
          simp only [cinA, List.elem_eq_mem, decide_eq_true_eq, List.mem_cons, List.not_mem_nil, or_false] at g2
          rcases g2 with rfl | rfl | rfl | rfl | rfl | rfl <;> rfl
        rw [sl] at hz
        rw [h3 e g2]
        unfold i_cp
        rw [if_neg (by omega)]
      · have g3 : e = 10024 := by
          simp only [Bool.or_eq_true, beq_iff_eq] at hc
          rcases hc with (hc | hc) | hc
          · exact absurd hc g1
          · exact hc
          · exact absurd hc g2
        subst g3
        have hz' : z < 2 * 240 := hz
        rw [h2]
        unfold i_cp
        rw [if_neg (by omega)]
theorem cpM.sm2 (h : cpM σ 0 m 2 m σ') (hl : σ.2.2 10026 121 (80 * 0 + m) ≤ 120) (g : ¬ m' = m) : sm2 m' σ σ' := by
  obtain ⟨f, h1, h2, h3⟩ := h
  refine ⟨⟨by rw [h1 10025 rfl, iu_n (by omega)], by rw [h1 10026 rfl, iu_n (by omega)]⟩, fun e he i i0 i1 => ?_⟩
  have he' : cinA.elem e = true := he
  rw [h3 e he']
  unfold i_cp
  rw [if_neg]
  by_cases q : m' < m <;> omega
end RLOOPS
