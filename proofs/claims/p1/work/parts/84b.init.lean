/-! the state behind both constructors -/
def j2_i0 (e _o : Nat) : Int32 := if ([1000, 1003, 2006, 5008, 5009, 5010, 9013] : List Nat).contains e then -1 else 0
def j2_p0 : List j2_W := [vM 0, vM 0, vM 0, vM 0, vM 0, vM 0, vM 0, vO 3 2, vO 3 25, vO 3 48]
def j2_a0 (e _o i : Nat) : Int32 := if e = 9010 ∧ 1 ≤ i ∧ i ≤ 3 then -1 else 0
def j2_init : j2_S := (j2_i0, j2_p0, j2_a0)
def cx_s0 : cx_S := ([(3, 9, 16)], [], [])
def cx_sX : cx_S := (cx_run 5 127 0 cx_s0).getD ([], [], [])
theorem cx_eX0 : (cx_run 5 127 0 cx_s0).isSome = true := by decide +kernel
theorem cx_get {o : Option cx_S} {d : cx_S} (h : o.isSome = true) : o = some (o.getD d) := by
  cases o
  · cases h
  · rfl
theorem cx_eX : cx_run 5 127 0 cx_s0 = some cx_sX := cx_get cx_eX0
def cx_s1 : cx_S := (cx_sX.1 ++ [(3, 10, 97)], cx_sX.2.1, cx_sX.2.2)
def cx_sM : cx_S := (cx_run 5 154 121 cx_s1).getD ([], [], [])
theorem cx_eM0 : (cx_run 5 154 121 cx_s1).isSome = true := by decide +kernel
theorem cx_eM : cx_run 5 154 121 cx_s1 = some cx_sM := cx_get cx_eM0
theorem cx_lX : cx_sX.1.length = 121 := by decide +kernel
theorem cx_lM : cx_sM.1.length = 193 := by decide +kernel
def cx_ckf (s : cx_S) (e o k : Nat) : Bool := match lt_fk e with
  | 0 => decide (cx_F s o k = .int (j2_i0 e o))
  | 1 => decide (cx_F s o k = .int (j2_i0 e o))
  | 2 => decide (cx_F s o k = j2_cv (j2_p0.getD (lt_pi e) (.inr (.inr (.inr 0)))))
  | 3 => decide (cx_F s o k = .ref (o + lt_fo e)) && decide (s.1[o + lt_fo e]? = some (lt_fq e, 0, lt_fn e))
  | 4 => decide (cx_F s o k = .ref (o + lt_fo e))
  | _ => true
theorem cx_ck1 : ∀ q ∈ lt_ob, cx_sM.1[q.2]? = some (3, q.1, jt_sz q.1) := by decide +kernel
theorem cx_ck2 : ∀ q ∈ lt_ob, ∀ k, k < 97 → cx_ckf cx_sM (q.1 * 1000 + k) q.2 k = true := by decide +kernel
theorem cx_aw : cx_sM.2.2 = [((0 + lt_fo 9010, 3), -1), ((0 + lt_fo 9010, 2), -1), ((0 + lt_fo 9010, 1), -1), ((0 + lt_fo 9010, 0), 0)] := by decide +kernel
theorem cx_pok : ∀ k, k < 10 → j2_ok (j2_p0.getD k (.inr (.inr (.inr 0)))) := by
  have h1 : (3, 2) ∈ lt_ob := by decide
  have h2 : (3, 25) ∈ lt_ob := by decide
  have h3 : (3, 48) ∈ lt_ob := by decide
  intro k hk
  match k, hk with
  | 0, _ => exact trivial
  | 1, _ => exact trivial
  | 2, _ => exact trivial
  | 3, _ => exact trivial
  | 4, _ => exact trivial
  | 5, _ => exact trivial
  | 6, _ => exact trivial
  | 7, _ => exact h1
  | 8, _ => exact h2
  | 9, _ => exact h3
  | n + 10, hk => exact absurd hk (by omega)
theorem cx_9 {e o : Nat} (h : (e / 1000, o) ∈ lt_ob) (he : e = 9010) : o = 0 := by
  subst he
  have : ∀ q ∈ lt_ob, q.1 = 9 → q.2 = 0 := by decide
  exact this _ h rfl
theorem cx_init {σ : jm_S} (h : cx_R cx_sM σ) : j2_R j2_init σ := by
  obtain ⟨-, h2, h3, h4, -, -⟩ := h
  refine ⟨fun q hq => by rw [h2]; exact cx_ck1 q hq, fun e o ho => ?_, rfl⟩
  have hs := cx_ck1 _ ho
  have hF : ∀ k, σ.2.2.1 o k = cx_F cx_sM o k := fun k => h3 o k _ hs rfl
  simp only [j2_fld, hF, h2]
  have key : lt_fk e ≠ 9 → cx_ckf cx_sM e o (e % 1000) = true := fun h9 => by
    have := cx_ck2 _ ho (e % 1000) (lt_k h9)
    simpa only [show e / 1000 * 1000 + e % 1000 = e by omega] using this
  split
  · rename_i hk
    have := key (by rw [hk]; decide)
    simp only [cx_ckf, hk, decide_eq_true_eq] at this
    exact this
  · rename_i hk
    have := key (by rw [hk]; decide)
    simp only [cx_ckf, hk, decide_eq_true_eq] at this
    exact this
  · rename_i hk
    have := key (by rw [hk]; decide)
    simp only [cx_ckf, hk, decide_eq_true_eq] at this
    exact ⟨this, cx_pok _ (j2_pe ho hk).2⟩
  · rename_i hk
    have := key (by rw [hk]; decide)
    simp only [cx_ckf, hk, Bool.and_eq_true, decide_eq_true_eq] at this
    refine ⟨this.1, this.2, ?_⟩
    funext i
    have hq : (lt_fq e : Nat) ≠ 3 := by
      have h5 : ∀ q ∈ lt_ob, ∀ k, k < 97 → lt_fk (q.1 * 1000 + k) = 3 → lt_fq (q.1 * 1000 + k) ≠ 3 := by decide +kernel
      have := h5 _ ho (e % 1000) (lt_k (by rw [hk]; decide))
      simp only [show e / 1000 * 1000 + e % 1000 = e by omega] at this
      exact this hk
    rw [h4 _ i _ this.2 hq]
    simp only [cx_A, cx_aw, j2_init, j2_a0]
    by_cases hid : o + lt_fo e = 0 + lt_fo 9010
    · obtain ⟨rfl, rfl⟩ := lt_inj ho hk (e' := 9010) (o' := 0) (by decide) (by decide) hid
      match i with
      | 0 => rfl
      | 1 => rfl
      | 2 => rfl
      | 3 => rfl
      | n + 4 =>
        have e1 : ∀ j : Nat, j < 4 → ((0 + lt_fo 9010, n + 4) == (0 + lt_fo 9010, j)) = false := fun j hj => by
          rw [beq_eq_false_iff_ne]
          intro w
          have : n + 4 = j := congrArg Prod.snd w
          omega
        simp only [List.lookup_cons, e1 3 (by omega), e1 2 (by omega), e1 1 (by omega), e1 0 (by omega), List.lookup_nil]
        rw [if_neg (by omega)]
    · have e1 : ∀ j : Nat, ((o + lt_fo e, i) == (0 + lt_fo 9010, j)) = false := fun j => by
        rw [beq_eq_false_iff_ne]
        intro w
        exact hid (congrArg Prod.fst w)
      simp only [List.lookup_cons, e1, List.lookup_nil]
      rw [if_neg]
      intro w
      apply hid
      rw [w.1, cx_9 ho w.1]
  · rename_i hk
    have := key (by rw [hk]; decide)
    simp only [cx_ckf, hk, decide_eq_true_eq] at this
    exact this
  · trivial
