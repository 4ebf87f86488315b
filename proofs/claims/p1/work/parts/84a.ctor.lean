/-! the constructors, run by a program over a state of the first order -/
abbrev cx_S : Type := List (Nat × Nat × Nat) × List ((Nat × Nat) × Value) × List ((Nat × Nat) × Int32)
def cx_F (s : cx_S) (o k : Nat) : Value := match s.2.1.lookup (o, k) with
  | some v => v
  | none => match s.1[o]? with
    | some q => if q.1 = 3 then defaultValue (jt_ft q.2.1 k) else .null
    | none => .null
def cx_A (s : cx_S) (o i : Nat) : Int32 := match s.2.2.lookup (o, i) with
  | some v => v
  | none => 0
def cx_R (s : cx_S) (σ : jm_S) : Prop := σ.1 = true ∧ σ.2.1 = s.1 ∧ (∀ o k q, s.1[o]? = some q → q.1 = 3 → σ.2.2.1 o k = cx_F s o k) ∧ (∀ o i q, s.1[o]? = some q → q.1 ≠ 3 → σ.2.2.2 o i = cx_A s o i) ∧ (∀ q ∈ s.2.1, q.1.1 < s.1.length) ∧ (∀ q ∈ s.2.2, q.1.1 < s.1.length)
def cx_code (call : Nat → Nat → cx_S → Option cx_S) (o : Nat) : List Instr → List Value → cx_S → Nat → Nat → Option cx_S
  | [], _, _, _, _ => none
  | i :: is, st, s, b, z => match i with
    | .return_ => match st with
      | [] => some s
      | _ => none
    | .aload 0 => cx_code call o is (.ref o :: st) s b z
    | .iconst n => cx_code call o is (.int (Int32.ofInt n) :: st) s b z
    | .aconst_null => cx_code call o is (.null :: st) s b z
    | .invokedynamic 2 => match st with
      | .ref _ :: st => if st.length ≤ 4 then cx_code call o is st s b z else none
      | _ => none
    | .dup => match st with
      | v :: st => if v.category = 1 then cx_code call o is (v :: v :: st) s b z else none
      | _ => none
    | .newarray t => match st with
      | .int n :: st => if 1 ≤ b ∧ n.toNatClampNeg ≤ z ∧ ¬ n < 0 ∧ n.toNatClampNeg ≤ 1000000 ∧ jm_kd t ≤ 2 then cx_code call o is (.ref s.1.length :: st) (s.1 ++ [(jm_kd t, 0, n.toNatClampNeg)], s.2.1, s.2.2) (b - 1) (z - n.toNatClampNeg) else none
      | _ => none
    | .new c => if 1 ≤ b ∧ jt_sz c ≤ z then cx_code call o is (.ref s.1.length :: st) (s.1 ++ [(3, c, jt_sz c)], s.2.1, s.2.2) (b - 1) (z - jt_sz c) else none
    | .putfield e => match st with
      | v :: .ref p :: st => if s.1[p]? = some (3, e / 1000, jt_sz (e / 1000)) ∧ fits (jt_ft (e / 1000) (e % 1000)) v = true then cx_code call o is st (s.1, ((p, e % 1000), v) :: s.2.1, s.2.2) b z else none
      | _ => none
    | .iastore => match st with
      | .int x :: .int i :: .ref p :: st => if s.1[p]? = some (0, 0, jm_n s.1 p) ∧ ¬ i < 0 ∧ i.toNatClampNeg < jm_n s.1 p then cx_code call o is st (s.1, s.2.1, ((p, i.toNatClampNeg), x) :: s.2.2) b z else none
      | _ => none
    | .invokespecial y => match st with
      | .ref p :: st => if st.length ≤ 4 ∧ jm_ma jG y = 0 ∧ jm_mc jG y ≤ b ∧ jm_ms jG y ≤ z then (match call y p s with
        | some s1 => cx_code call o is st s1 (b - jm_mc jG y) (z - jm_ms jG y)
        | none => none) else none
      | _ => none
    | _ => none
def cx_run : Nat → Nat → Nat → cx_S → Option cx_S
  | 0, _, _, _ => none
  | d + 1, y, o, s => if jm_ml jG y = 1 ∧ jm_rt jG y = none then cx_code (cx_run d) o (jm_co jG y) [] s (jm_mc jG y) (jm_ms jG y) else none
section CXSIM
theorem cx_lk {β : Type} {l : List ((Nat × Nat) × β)} {n o k : Nat} (h : ∀ q ∈ l, q.1.1 < n) (ho : n ≤ o) : l.lookup (o, k) = none := by
  rw [List.lookup_eq_none_iff]
  intro q hq
  have := h q hq
  simp only [bne_iff_ne, ne_eq]
  intro e
  rw [← e] at this
  exact absurd this (by omega)
theorem cx_R.push {s : cx_S} {σ : jm_S} (h : cx_R s σ) {q : Nat × Nat × Nat} {F : Nat → Nat → Value} {A : Nat → Nat → Int32} (hF : ∀ o, o < s.1.length → F o = σ.2.2.1 o) (hA : ∀ o, o < s.1.length → A o = σ.2.2.2 o) (hF2 : q.1 = 3 → ∀ k, F s.1.length k = defaultValue (jt_ft q.2.1 k)) (hA2 : q.1 ≠ 3 → ∀ i, A s.1.length i = 0) : cx_R (s.1 ++ [q], s.2.1, s.2.2) (σ.1, σ.2.1 ++ [q], F, A) := by
  obtain ⟨h1, h2, h3, h4, h5, h6⟩ := h
  have hl : (s.1 ++ [q]).length = s.1.length + 1 := by simp
  refine ⟨h1, by rw [h2], fun o k w hw hk => ?_, fun o i w hw hk => ?_, fun w hw => by have := h5 w hw; rw [hl]; omega, fun w hw => by have := h6 w hw; rw [hl]; omega⟩
  · show F o k = _
    by_cases ho : o < s.1.length
    · rw [List.getElem?_append_left ho] at hw
      rw [hF o ho, h3 o k w hw hk]
      simp only [cx_F, List.getElem?_append_left ho]
    · have he : o = s.1.length := by
        have := (List.getElem?_eq_some_iff.mp hw).1
        simp at this
        omega
      subst he
      simp only [List.getElem?_concat_length, Option.some.injEq] at hw
      subst hw
      rw [hF2 hk]
      simp only [cx_F, cx_lk h5 (Nat.le_refl _), List.getElem?_concat_length, hk, if_true]
  · show A o i = _
    by_cases ho : o < s.1.length
    · rw [List.getElem?_append_left ho] at hw
      rw [hA o ho, h4 o i w hw hk]
      rfl
    · have he : o = s.1.length := by
        have := (List.getElem?_eq_some_iff.mp hw).1
        simp at this
        omega
      subst he
      simp only [List.getElem?_concat_length, Option.some.injEq] at hw
      subst hw
      rw [hA2 hk]
      simp only [cx_A, cx_lk h6 (Nat.le_refl _)]
theorem cx_R.put {s : cx_S} {σ : jm_S} (h : cx_R s σ) {p k : Nat} {v : Value} {q : Nat × Nat × Nat} (hp : s.1[p]? = some q) : cx_R (s.1, ((p, k), v) :: s.2.1, s.2.2) (σ.1, σ.2.1, jm_row σ.2.2.1 p (jm_u1 (σ.2.2.1 p) k v), σ.2.2.2) := by
  obtain ⟨h1, h2, h3, h4, h5, h6⟩ := h
  refine ⟨h1, h2, fun o j w hw hk => ?_, h4, fun w hw => ?_, h6⟩
  · show jm_row _ _ _ o j = _
    by_cases ho : o = p
    · subst ho
      rw [jm_row_self]
      by_cases hj : j = k
      · subst hj
        simp [jm_u1, cx_F, List.lookup_cons]
      · have hb : ((o, j) == (o, k)) = false := by simpa using hj
        simp only [jm_u1, if_neg hj, h3 o j w hw hk, cx_F, List.lookup_cons, hb]
    · have hb : ((o, j) == (p, k)) = false := by simp [ho]
      rw [jm_row_ne _ _ ho, h3 o j w hw hk]
      simp only [cx_F, List.lookup_cons, hb]
  · rcases List.mem_cons.mp hw with rfl | hw
    · exact (List.getElem?_eq_some_iff.mp hp).1
    · exact h5 w hw
theorem cx_R.ast {s : cx_S} {σ : jm_S} (h : cx_R s σ) {p k : Nat} {v : Int32} {q : Nat × Nat × Nat} (hp : s.1[p]? = some q) : cx_R (s.1, s.2.1, ((p, k), v) :: s.2.2) (σ.1, σ.2.1, σ.2.2.1, jm_row σ.2.2.2 p (upd (σ.2.2.2 p) k v)) := by
  obtain ⟨h1, h2, h3, h4, h5, h6⟩ := h
  refine ⟨h1, h2, h3, fun o j w hw hk => ?_, h5, fun w hw => ?_⟩
  · show jm_row _ _ _ o j = _
    by_cases ho : o = p
    · subst ho
      rw [jm_row_self]
      by_cases hj : j = k
      · subst hj
        simp [upd, cx_A, List.lookup_cons]
      · have hb : ((o, j) == (o, k)) = false := by simpa using hj
        simp only [upd, if_neg hj, h4 o j w hw hk, cx_A, List.lookup_cons, hb]
    · have hb : ((o, j) == (p, k)) = false := by simp [ho]
      rw [jm_row_ne _ _ ho, h4 o j w hw hk]
      simp only [cx_A, List.lookup_cons, hb]
  · rcases List.mem_cons.mp hw with rfl | hw
    · exact (List.getElem?_eq_some_iff.mp hp).1
    · exact h6 w hw
theorem cx_codeT {d y o : Nat} {s' : cx_S} {P : jm_P} (hrt : jm_rt jG y = none) (ih : ∀ y o s s', cx_run d y o s = some s' → ∀ σ, cx_R s σ → ∀ P : jm_P, (∀ σ', cx_R s' σ' → P none σ') → jm_tc jG d y [.ref o] σ P) (hP : ∀ σ', cx_R s' σ' → P none σ') : ∀ (is : List Instr) (pc : Nat) (st : List Value) (s : cx_S) (b z : Nat), (jm_co jG y).drop pc = is → cx_code (cx_run d) o is st s b z = some s' → ∀ σ, cx_R s σ → jm_T jG (jm_tc jG d) (jm_co jG y) (jm_rt jG y) P pc [.ref o] st σ b z := by
  intro is
  induction is with
  | nil => intro pc st s b z _ h; cases h
  | cons i is IH =>
    intro pc st s b z hd h σ hσ
    have hi : (jm_co jG y)[pc]? = some i := by
      have := congrArg (fun l => l[0]?) hd
      simpa using this
    have hn : (jm_co jG y).drop (pc + 1) = is := by
      have := congrArg List.tail hd
      simpa using this
    refine jm_T.step (jm_tc_up d) ?_
    simp only [jm_stp, hi]
    cases i <;> simp only [cx_code] at h <;> first | (cases h; done) | skip
    case return_ =>
      cases st with
      | nil => cases h; exact ⟨hrt, hP _ hσ⟩
      | cons v st => cases h
    case aload k =>
      match k, h with
      | 0, h => exact IH _ _ _ _ _ hn h σ hσ
      | k + 1, h => cases h
    case iconst n => exact IH _ _ _ _ _ hn h σ hσ
    case aconst_null => exact IH _ _ _ _ _ hn h σ hσ
    case invokedynamic k =>
      match k, h with
      | 0, h => cases h
      | 1, h => cases h
      | 2, h =>
        simp only at h
        split at h
        · split at h
          · rename_i hl
            exact ⟨hl, IH _ _ _ _ _ hn h σ hσ⟩
          · cases h
        · cases h
      | k + 3, h => cases h
    case dup =>
      split at h
      · split at h
        · rename_i hc
          exact ⟨hc, IH _ _ _ _ _ hn h σ hσ⟩
        · cases h
      · cases h
    case newarray t =>
      split at h
      · rename_i n st
        split at h
        · rename_i hc
          have hl : σ.2.1.length = s.1.length := by rw [hσ.2.1]
          refine ⟨hσ.1, hc.1, hc.2.1, hc.2.2.1, hc.2.2.2.1, hc.2.2.2.2, ?_⟩
          rw [hl]
          refine IH _ _ _ _ _ hn h _ (cx_R.push hσ (fun o ho => rfl) (fun o ho => jm_row_ne _ _ (by omega)) (fun hk => ?_) (fun hk i => by rw [jm_row_self]))
          have : jm_kd t = 3 := hk
          omega
        · cases h
      · cases h
    case new c =>
      split at h
      · rename_i hc
        have hl : σ.2.1.length = s.1.length := by rw [hσ.2.1]
        refine ⟨hσ.1, hc.1, hc.2, ?_⟩
        rw [hl]
        exact IH _ _ _ _ _ hn h _ (cx_R.push hσ (fun o ho => jm_row_ne _ _ (by omega)) (fun o ho => rfl) (fun hk k => by rw [jm_row_self]; rfl) (fun hk => absurd rfl hk))
      · cases h
    case putfield e =>
      split at h
      · split at h
        · rename_i hc
          exact ⟨by rw [hσ.2.1]; exact hc.1, hc.2, IH _ _ _ _ _ hn h _ (hσ.put hc.1)⟩
        · cases h
      · cases h
    case iastore =>
      split at h
      · split at h
        · rename_i hc
          refine ⟨by rw [hσ.2.1]; exact hc.1, by rw [hσ.2.1]; exact fun g => g.elim hc.2.1 (fun g => absurd hc.2.2 (by omega)), IH _ _ _ _ _ hn h _ (hσ.ast hc.1)⟩
        · cases h
      · cases h
    case invokespecial y' =>
      split at h
      · rename_i p st
        split at h
        · rename_i hc
          split at h
          · rename_i s1 hs1
            have e0 : jm_pop (jm_ma jG y') (Value.ref p :: st) = ([], .ref p :: st) := by rw [hc.2.1]; rfl
            simp only [jm_ins, e0]
            refine ⟨hc.1, by rw [hc.2.1]; exact Nat.zero_le _, hc.2.2.1, hc.2.2.2, ?_⟩
            exact ih _ _ _ _ hs1 σ hσ _ (fun σ' hσ' => IH _ _ _ _ _ hn h _ hσ')
          · cases h
        · cases h
      · cases h
theorem cx_sim : ∀ (d y o : Nat) (s s' : cx_S), cx_run d y o s = some s' → ∀ σ, cx_R s σ → ∀ P : jm_P, (∀ σ', cx_R s' σ' → P none σ') → jm_tc jG d y [.ref o] σ P := by
  intro d
  induction d with
  | zero => intro y o s s' h; cases h
  | succ d ih =>
    intro y o s s' h σ hσ P hP
    simp only [cx_run] at h
    split at h
    · rename_i hc
      refine ⟨by rw [hc.1]; exact Nat.le_refl _, fun v hv => by rw [List.mem_singleton.mp hv]; rfl, ?_⟩
      have e0 : jm_in0 (jm_ml jG y) [Value.ref o] = [.ref o] := by rw [hc.1]; rfl
      rw [e0]
      exact cx_codeT hc.2 ih hP _ 0 _ _ _ _ rfl h σ hσ
    · cases h
end CXSIM
