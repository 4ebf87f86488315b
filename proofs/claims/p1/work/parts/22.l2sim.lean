/-! level 2 runs on the small machine -/
def j2_cv (w : j2_W) : Value := match w with
  | .inl v => .int v
  | .inr (.inl q) => .ref q.2
  | .inr (.inr (.inl q)) => .ref (q.2 + lt_fo q.1)
  | .inr (.inr (.inr 0)) => .null
  | .inr (.inr (.inr 1)) => .retAddr 0
  | .inr (.inr (.inr _)) => .long 0
def j2_ok (w : j2_W) : Prop := match w with
  | .inl _ => True
  | .inr (.inl q) => q ∈ lt_ob
  | .inr (.inr (.inl q)) => (q.1 / 1000, q.2) ∈ lt_ob ∧ lt_fk q.1 = 3
  | _ => True
def j2_oks (l : List j2_W) : Prop := ∀ w ∈ l, j2_ok w
theorem j2_oks_c {w : j2_W} {l : List j2_W} : j2_oks (w :: l) ↔ j2_ok w ∧ j2_oks l := List.forall_mem_cons
def j2_fld (σ : j2_S) (σ1 : jm_S) (e o : Nat) : Prop := match lt_fk e with
  | 0 => σ1.2.2.1 o (e % 1000) = .int (σ.1 e o)
  | 1 => σ1.2.2.1 o (e % 1000) = .int (σ.1 e o)
  | 2 => σ1.2.2.1 o (e % 1000) = j2_cv (σ.2.1.getD (lt_pi e) (.inr (.inr (.inr 0)))) ∧ j2_ok (σ.2.1.getD (lt_pi e) (.inr (.inr (.inr 0))))
  | 3 => σ1.2.2.1 o (e % 1000) = .ref (o + lt_fo e) ∧ σ1.2.1[o + lt_fo e]? = some (lt_fq e, 0, lt_fn e) ∧ σ1.2.2.2 (o + lt_fo e) = σ.2.2 e o
  | 4 => σ1.2.2.1 o (e % 1000) = .ref (o + lt_fo e)
  | _ => True
def j2_R (σ : j2_S) (σ1 : jm_S) : Prop := (∀ q ∈ lt_ob, σ1.2.1[q.2]? = some (3, q.1, jt_sz q.1)) ∧ (∀ e o, (e / 1000, o) ∈ lt_ob → j2_fld σ σ1 e o) ∧ σ.2.1.length = 10
section J2SIM
variable {σ : j2_S} {σ1 : jm_S}
theorem j2_R.arr {e o : Nat} (h : j2_R σ σ1) (ho : j2_ok (.inr (.inr (.inl (e, o))))) : σ1.2.1[o + lt_fo e]? = some (lt_fq e, 0, lt_fn e) ∧ σ1.2.2.2 (o + lt_fo e) = σ.2.2 e o := by
  have := h.2.1 e o ho.1
  simp only [j2_fld, ho.2] at this
  exact this.2
theorem j2_R.n {e o : Nat} (h : j2_R σ σ1) (ho : j2_ok (.inr (.inr (.inl (e, o))))) : jm_n σ1.2.1 (o + lt_fo e) = lt_fn e := by
  simp [jm_n, (h.arr ho).1]
/-- a write to an array -/
theorem j2_R.ast {e o : Nat} {g : Nat → Int32} {al : Bool} (h : j2_R σ σ1) (ho : j2_ok (.inr (.inr (.inl (e, o))))) : j2_R (σ.1, σ.2.1, j2_up σ.2.2 e o g) (al, σ1.2.1, σ1.2.2.1, jm_row σ1.2.2.2 (o + lt_fo e) g) := by
  refine ⟨h.1, fun e' o' h' => ?_, h.2.2⟩
  have q := h.2.1 e' o' h'
  simp only [j2_fld] at q ⊢
  split
  all_goals (rename_i hk; simp only [hk] at q)
  · exact q
  · exact q
  · exact q
  · refine ⟨q.1, q.2.1, ?_⟩
    by_cases hi : o' + lt_fo e' = o + lt_fo e
    · obtain ⟨rfl, rfl⟩ := lt_inj h' hk ho.1 ho.2 hi
      simp [jm_row, j2_up]
    · rw [jm_row_ne _ _ hi]
      have hne : ¬ (e' = e ∧ o' = o) := fun w => hi (by rw [w.1, w.2])
      simp only [j2_up, if_neg hne]
      exact q.2.2
  · exact q
  · trivial
theorem j2_same {e e' o : Nat} (h : (e / 1000, o) ∈ lt_ob) (h' : (e' / 1000, o) ∈ lt_ob) (hs : ∀ q ∈ lt_ob, σ1.2.1[q.2]? = some (3, q.1, jt_sz q.1)) (hk : e' % 1000 = e % 1000) : e' = e := by
  have a := hs _ h
  have a' := hs _ h'
  simp only at a a'
  rw [a] at a'
  simp only [Option.some.injEq, Prod.mk.injEq] at a'
  omega
/-- a write to a number -/
theorem j2_R.put {e o : Nat} {v : Int32} (h : j2_R σ σ1) (ho : (e / 1000, o) ∈ lt_ob) (hk : lt_fk e = 0 ∨ lt_fk e = 1) : j2_R (j2_up σ.1 e o v, σ.2.1, σ.2.2) (σ1.1, σ1.2.1, jm_row σ1.2.2.1 o (jm_u1 (σ1.2.2.1 o) (e % 1000) (.int v)), σ1.2.2.2) := by
  refine ⟨h.1, fun e' o' h' => ?_, h.2.2⟩
  have q := h.2.1 e' o' h'
  by_cases hs : o' = o ∧ e' % 1000 = e % 1000
  · obtain ⟨rfl, hm⟩ := hs
    have := j2_same ho h' h.1 hm
    subst this
    rcases hk with hk | hk <;> simp [j2_fld, hk, jm_row, jm_u1, j2_up]
  · have hne : ¬ (e' = e ∧ o' = o) := fun w => hs ⟨w.2, by rw [w.1]⟩
    have hF : jm_row σ1.2.2.1 o (jm_u1 (σ1.2.2.1 o) (e % 1000) (.int v)) o' (e' % 1000) = σ1.2.2.1 o' (e' % 1000) := by
      by_cases ho' : o' = o
      · subst ho'
        rw [jm_row_self]
        simp only [jm_u1]
        rw [if_neg (fun w => hs ⟨rfl, w⟩)]
      · rw [jm_row_ne _ _ ho']
    simp only [j2_fld, hF, j2_up, if_neg hne] at q ⊢
    exact q
theorem j2_pe {e o : Nat} (h : (e / 1000, o) ∈ lt_ob) (hk : lt_fk e = 2) : lt_pv (lt_pi e) = (e, o) ∧ lt_pi e < 10 := by
  have := lt_p1 _ h (e % 1000) (lt_k (by rw [hk]; decide))
  simp only [show e / 1000 * 1000 + e % 1000 = e by omega] at this
  exact this hk
/-- a write to a reference -/
theorem j2_R.ptr {e o : Nat} {w : j2_W} (h : j2_R σ σ1) (ho : (e / 1000, o) ∈ lt_ob) (hk : lt_fk e = 2) (hw : j2_ok w) : j2_R (σ.1, σ.2.1.set (lt_pi e) w, σ.2.2) (σ1.1, σ1.2.1, jm_row σ1.2.2.1 o (jm_u1 (σ1.2.2.1 o) (e % 1000) (j2_cv w)), σ1.2.2.2) := by
  refine ⟨h.1, fun e' o' h' => ?_, by rw [List.length_set]; exact h.2.2⟩
  have q := h.2.1 e' o' h'
  have hp := j2_pe ho hk
  by_cases hs : o' = o ∧ e' % 1000 = e % 1000
  · obtain ⟨rfl, hm⟩ := hs
    have := j2_same ho h' h.1 hm
    subst this
    have hg : (σ.2.1.set (lt_pi e') w).getD (lt_pi e') (.inr (.inr (.inr 0))) = w := by
      rw [List.getD_eq_getElem?_getD, List.getElem?_set_self (by rw [h.2.2]; exact hp.2)]
      rfl
    simp only [j2_fld, hk, jm_row, jm_u1, if_true, hg]
    exact ⟨trivial, hw⟩
  · have hF : jm_row σ1.2.2.1 o (jm_u1 (σ1.2.2.1 o) (e % 1000) (j2_cv w)) o' (e' % 1000) = σ1.2.2.1 o' (e' % 1000) := by
      by_cases ho' : o' = o
      · subst ho'
        rw [jm_row_self]
        simp only [jm_u1]
        rw [if_neg (fun w => hs ⟨rfl, w⟩)]
      · rw [jm_row_ne _ _ ho']
    simp only [j2_fld, hF] at q ⊢
    split
    all_goals (rename_i hk'; simp only [hk'] at q)
    · exact q
    · exact q
    · have hp' := j2_pe h' hk'
      have hne : lt_pi e ≠ lt_pi e' := fun w => by
        have := hp.1.symm.trans ((congrArg lt_pv w).trans hp'.1)
        simp only [Prod.mk.injEq] at this
        exact hs ⟨this.2.symm, by rw [this.1]⟩
      rw [List.getD_eq_getElem?_getD, List.getElem?_set_ne hne, ← List.getD_eq_getElem?_getD]
      exact q
    · exact q
    · exact q
    · trivial
theorem j2_oks_set {L : List j2_W} {i : Nat} {w : j2_W} (h : j2_oks L) (hw : j2_ok w) : j2_oks (L.set i w) := by
  intro x hx
  rcases List.mem_or_eq_of_mem_set hx with h1 | h1
  · exact h x h1
  · rw [h1]; exact hw
theorem j2_oks_at {L : List j2_W} {i : Nat} {w : j2_W} (h : j2_oks L) (hi : L[i]? = some w) : j2_ok w := h w (List.mem_of_getElem? hi)
theorem j2_ftO {e o : Nat} (ho : (e / 1000, o) ∈ lt_ob) (h9 : lt_fk e ≠ 9) : (lt_fk e = 0 → jt_ft (e / 1000) (e % 1000) = .int) ∧ (lt_fk e = 1 → jt_ft (e / 1000) (e % 1000) = .boolean) ∧ (lt_fk e = 2 → (fits (jt_ft (e / 1000) (e % 1000)) .null = true ∧ fits (jt_ft (e / 1000) (e % 1000)) (.ref 0) = true)) := by
  have := lt_ft _ ho (e % 1000) (lt_k h9)
  simpa only [show e / 1000 * 1000 + e % 1000 = e by omega] using this
theorem j2_fitr {t : FieldType} {a : Nat} (h : fits t (.ref 0) = true) : fits t (.ref a) = true := by
  cases t <;> first | rfl | exact absurd h (by decide)

set_option maxHeartbeats 4000000 in
theorem j2_one {C1 : Nat → List Value → jm_S → jm_P → Prop} {C2 : j2_C} {rt : Option FieldType} {K1 : jm_K} {K2 : j2_K} {Rt1 : jm_P} {Rt2 : j2_P} {pc : Nat} {L st : List j2_W}
    (hC : ∀ y as (σ : j2_S) (Q : j2_P) (σ1 : jm_S) (P : jm_P), jm_mc jG y = 0 → jm_ms jG y = 0 → C2 y as σ Q → j2_oks as → j2_R σ σ1 → (∀ r (σ' : j2_S) (σ1' : jm_S), Q r σ' → (∀ w, r = some w → j2_ok w) → j2_R σ' σ1' → P (r.map j2_cv) σ1') → C1 y (as.map j2_cv) σ1 P)
    (hK : ∀ pc L st (σ : j2_S) (σ1 : jm_S), K2 pc L st σ → j2_oks L → j2_oks st → j2_R σ σ1 → K1 pc (L.map j2_cv) (st.map j2_cv) σ1 0 0)
    (hR : ∀ r (σ : j2_S) (σ1 : jm_S), Rt2 r σ → (∀ w, r = some w → j2_ok w) → j2_R σ σ1 → Rt1 (r.map j2_cv) σ1)
    (ins : Instr) (h : j2_ins C2 rt K2 Rt2 ins pc L st σ) (hL : j2_oks L) (hs : j2_oks st) (hσ : j2_R σ σ1) : jm_ins jG C1 rt K1 Rt1 ins pc (L.map j2_cv) (st.map j2_cv) σ1 0 0 := by
  cases ins <;> first | exact h.elim | skip
  case iconst n => exact hK _ _ _ _ _ h hL (j2_oks_c.mpr ⟨trivial, hs⟩) hσ
  case aconst_null => exact hK _ _ _ _ _ h hL (j2_oks_c.mpr ⟨trivial, hs⟩) hσ
  case getstatic n =>
    simp only [j2_ins] at h
    split at h
    · rename_i hn
      subst hn
      exact hK _ _ _ _ _ h hL (j2_oks_c.mpr ⟨trivial, hs⟩) hσ
    · exact h.elim
  case iload i =>
    simp only [j2_ins] at h
    split at h
    · rename_i v hv
      simp only [jm_ins, List.getElem?_map, hv, Option.map_some, j2_cv]
      exact hK _ _ _ _ _ h hL (j2_oks_c.mpr ⟨trivial, hs⟩) hσ
    · exact h.elim
  case aload i =>
    simp only [j2_ins] at h
    split at h
    · rename_i v hv
      simp only [jm_ins, List.getElem?_map, hv, Option.map_some, j2_cv]
      exact hK _ _ _ _ _ h hL (j2_oks_c.mpr ⟨j2_oks_at hL hv, hs⟩) hσ
    · rename_i v hv
      simp only [jm_ins, List.getElem?_map, hv, Option.map_some, j2_cv]
      exact hK _ _ _ _ _ h hL (j2_oks_c.mpr ⟨j2_oks_at hL hv, hs⟩) hσ
    · exact h.elim
  case istore i =>
    simp only [j2_ins] at h
    split at h
    · split at h
      · rename_i hi
        rw [j2_oks_c] at hs
        refine ⟨by rw [List.length_map]; exact hi, ?_⟩
        have := hK _ _ _ _ _ h (j2_oks_set hL trivial) hs.2 hσ
        rw [List.map_set] at this
        exact this
      · exact h.elim
    · exact h.elim
  case astore i =>
    simp only [j2_ins] at h
    split at h
    · split at h
      · rename_i hi
        rw [j2_oks_c] at hs
        refine ⟨by rw [List.length_map]; exact hi, ?_⟩
        have := hK _ _ _ _ _ h (j2_oks_set hL hs.1) hs.2 hσ
        rw [List.map_set] at this
        exact this
      · exact h.elim
    · exact h.elim
  case iinc i n =>
    simp only [j2_ins] at h
    split at h
    · rename_i v hv
      simp only [jm_ins, List.getElem?_map, hv, Option.map_some, j2_cv]
      have := hK _ _ _ _ _ h (j2_oks_set hL trivial) hs hσ
      rw [List.map_set] at this
      exact this
    · exact h.elim
  case iadd =>
    simp only [j2_ins] at h
    split at h
    · simp only [j2_oks_c] at hs
      exact hK _ _ _ _ _ h hL (j2_oks_c.mpr ⟨trivial, hs.2.2⟩) hσ
    · exact h.elim
  case isub =>
    simp only [j2_ins] at h
    split at h
    · simp only [j2_oks_c] at hs
      exact hK _ _ _ _ _ h hL (j2_oks_c.mpr ⟨trivial, hs.2.2⟩) hσ
    · exact h.elim
  case imul =>
    simp only [j2_ins] at h
    split at h
    · simp only [j2_oks_c] at hs
      exact hK _ _ _ _ _ h hL (j2_oks_c.mpr ⟨trivial, hs.2.2⟩) hσ
    · exact h.elim
  case iand =>
    simp only [j2_ins] at h
    split at h
    · simp only [j2_oks_c] at hs
      exact hK _ _ _ _ _ h hL (j2_oks_c.mpr ⟨trivial, hs.2.2⟩) hσ
    · exact h.elim
  case ior =>
    simp only [j2_ins] at h
    split at h
    · simp only [j2_oks_c] at hs
      exact hK _ _ _ _ _ h hL (j2_oks_c.mpr ⟨trivial, hs.2.2⟩) hσ
    · exact h.elim
  case ishl =>
    simp only [j2_ins] at h
    split at h
    · simp only [j2_oks_c] at hs
      exact hK _ _ _ _ _ h hL (j2_oks_c.mpr ⟨trivial, hs.2.2⟩) hσ
    · exact h.elim
  case ishr =>
    simp only [j2_ins] at h
    split at h
    · simp only [j2_oks_c] at hs
      exact hK _ _ _ _ _ h hL (j2_oks_c.mpr ⟨trivial, hs.2.2⟩) hσ
    · exact h.elim
  case idiv =>
    simp only [j2_ins] at h
    split at h
    · simp only [j2_oks_c] at hs
      exact ⟨h.1, hK _ _ _ _ _ h.2 hL (j2_oks_c.mpr ⟨trivial, hs.2.2⟩) hσ⟩
    · exact h.elim
  case irem =>
    simp only [j2_ins] at h
    split at h
    · simp only [j2_oks_c] at hs
      exact ⟨h.1, hK _ _ _ _ _ h.2 hL (j2_oks_c.mpr ⟨trivial, hs.2.2⟩) hσ⟩
    · exact h.elim
  case i2b =>
    simp only [j2_ins] at h
    split at h
    · simp only [j2_oks_c] at hs
      exact hK _ _ _ _ _ h hL (j2_oks_c.mpr ⟨trivial, hs.2⟩) hσ
    · exact h.elim
  case dup =>
    simp only [j2_ins] at h
    split at h
    · simp only [j2_oks_c] at hs
      exact ⟨rfl, hK _ _ _ _ _ h hL (j2_oks_c.mpr ⟨trivial, j2_oks_c.mpr ⟨trivial, hs.2⟩⟩) hσ⟩
    · simp only [j2_oks_c] at hs
      exact ⟨rfl, hK _ _ _ _ _ h hL (j2_oks_c.mpr ⟨hs.1, j2_oks_c.mpr ⟨hs.1, hs.2⟩⟩) hσ⟩
    · exact h.elim
  case dup2 =>
    simp only [j2_ins] at h
    split at h
    · simp only [j2_oks_c] at hs
      exact ⟨rfl, rfl, hK _ _ _ _ _ h hL (by simp only [j2_oks_c]; exact ⟨trivial, hs.2.1, trivial, hs.2.1, hs.2.2⟩) hσ⟩
    · exact h.elim
  case pop =>
    simp only [j2_ins] at h
    split at h
    · simp only [j2_oks_c] at hs
      exact ⟨rfl, hK _ _ _ _ _ h hL hs.2 hσ⟩
    · exact h.elim
  case getfield e =>
    simp only [j2_ins] at h
    split at h
    · rename_i q o st
      split at h
      · rename_i hq
        subst hq
        simp only [j2_oks_c] at hs
        have ho : (e / 1000, o) ∈ lt_ob := hs.1
        have hf := hσ.2.1 e o ho
        simp only [j2_fld] at hf
        refine ⟨hσ.1 _ ho, ?_⟩
        show K1 _ _ (σ1.2.2.1 o (e % 1000) :: _) _ _ _
        split at h
        all_goals first | exact h.elim | (rename_i hk; simp only [hk] at hf)
        · rw [hf]
          exact hK _ _ _ _ _ h hL (j2_oks_c.mpr ⟨trivial, hs.2⟩) hσ
        · rw [hf]
          exact hK _ _ _ _ _ h hL (j2_oks_c.mpr ⟨trivial, hs.2⟩) hσ
        · rw [hf.1]
          exact hK _ _ _ _ _ h hL (j2_oks_c.mpr ⟨hf.2, hs.2⟩) hσ
        · rw [hf.1]
          exact hK _ _ _ _ _ h hL (j2_oks_c.mpr ⟨⟨ho, hk⟩, hs.2⟩) hσ
        · rw [hf]
          have h4 := lt_4 _ ho (e % 1000) (lt_k (by rw [hk]; decide))
          simp only [show e / 1000 * 1000 + e % 1000 = e by omega] at h4
          exact hK _ _ _ _ _ h hL (j2_oks_c.mpr ⟨h4 hk, hs.2⟩) hσ
      · exact h.elim
    · exact h.elim
  case putfield e =>
    simp only [j2_ins] at h
    split at h
    · rename_i v q o st
      split at h
      · rename_i hq
        subst hq
        simp only [j2_oks_c] at hs
        have ho : (e / 1000, o) ∈ lt_ob := hs.2.1
        refine ⟨hσ.1 _ ho, ?_⟩
        split at h
        · rename_i hk
          refine ⟨?_, hK _ _ _ _ _ h hL hs.2.2 (hσ.put ho (Or.inl hk))⟩
          show fits (jt_ft _ _) _ = true
          rw [(j2_ftO ho (by rw [hk]; decide)).1 hk]
          rfl
        · rename_i hk
          refine ⟨?_, hK _ _ _ _ _ h.2 hL hs.2.2 (hσ.put ho (Or.inr hk))⟩
          show fits (jt_ft _ _) _ = true
          rw [(j2_ftO ho (by rw [hk]; decide)).2.1 hk]
          rcases h.1 with rfl | rfl <;> rfl
        · exact h.elim
      · exact h.elim
    · rename_i w q o st
      split at h
      · rename_i hq
        subst hq
        simp only [j2_oks_c] at hs
        have ho : (e / 1000, o) ∈ lt_ob := hs.2.1
        refine ⟨hσ.1 _ ho, ?_⟩
        split at h
        · rename_i hk
          exact ⟨j2_fitr ((j2_ftO ho (by rw [hk]; decide)).2.2 hk).2, hK _ _ _ _ _ h hL hs.2.2 (hσ.ptr ho hk hs.1)⟩
        · exact h.elim
      · exact h.elim
    · rename_i w q o st
      split at h
      · rename_i hq
        subst hq
        simp only [j2_oks_c] at hs
        have ho : (e / 1000, o) ∈ lt_ob := hs.2.1
        refine ⟨hσ.1 _ ho, ?_⟩
        split at h
        · rename_i hk
          exact ⟨j2_fitr ((j2_ftO ho (by rw [hk]; decide)).2.2 hk).2, hK _ _ _ _ _ h hL hs.2.2 (hσ.ptr ho hk hs.1)⟩
        · exact h.elim
      · exact h.elim
    · exact h.elim
  case iaload =>
    simp only [j2_ins] at h
    split at h
    · rename_i i e o st
      split at h
      · rename_i hq
        simp only [j2_oks_c] at hs
        have ha := hσ.arr hs.2.1
        refine ⟨by rw [hσ.n hs.2.1]; have g := ha.1; rw [hq] at g; exact g, by rw [hσ.n hs.2.1]; exact h.1, ?_⟩
        rw [ha.2]
        exact hK _ _ _ _ _ h.2 hL (j2_oks_c.mpr ⟨trivial, hs.2.2⟩) hσ
      · exact h.elim
    · simp only [j2_oks_c] at hs
      exact ⟨h.1, hK _ _ _ _ _ h.2 hL (j2_oks_c.mpr ⟨trivial, hs.2.2⟩) hσ⟩
    · exact h.elim
  case iastore =>
    simp only [j2_ins] at h
    split at h
    · rename_i x i e o st
      split at h
      · rename_i hq
        simp only [j2_oks_c] at hs
        have ha := hσ.arr hs.2.2.1
        refine ⟨by rw [hσ.n hs.2.2.1]; have g := ha.1; rw [hq] at g; exact g, by rw [hσ.n hs.2.2.1]; exact h.1, ?_⟩
        rw [ha.2]
        exact hK _ _ _ _ _ h.2 hL hs.2.2.2 (hσ.ast hs.2.2.1)
      · exact h.elim
    · exact h.elim
  case baload =>
    simp only [j2_ins] at h
    split at h
    · rename_i i e o st
      split at h
      · rename_i hq
        simp only [j2_oks_c] at hs
        have ha := hσ.arr hs.2.1
        refine ⟨by rw [hσ.n hs.2.1]; rcases hq with hq | hq <;> rw [hq] at ha; exact Or.inl ha.1; exact Or.inr ha.1, by rw [hσ.n hs.2.1]; exact h.1, ?_⟩
        rw [ha.2]
        exact hK _ _ _ _ _ h.2 hL (j2_oks_c.mpr ⟨trivial, hs.2.2⟩) hσ
      · exact h.elim
    · exact h.elim
  case bastore =>
    simp only [j2_ins] at h
    split at h
    · rename_i x i e o st
      simp only [j2_oks_c] at hs
      have ha := hσ.arr hs.2.2.1
      split at h
      · rename_i hq
        refine ⟨Or.inl ⟨by rw [hσ.n hs.2.2.1]; have g := ha.1; rw [hq] at g; exact g, h.1⟩, by rw [hσ.n hs.2.2.1]; exact h.2.1, ?_⟩
        rw [ha.2]
        exact hK _ _ _ _ _ h.2.2 hL hs.2.2.2 (hσ.ast hs.2.2.1)
      · split at h
        · rename_i hq
          refine ⟨Or.inr ⟨by rw [hσ.n hs.2.2.1]; have g := ha.1; rw [hq] at g; exact g, h.1⟩, by rw [hσ.n hs.2.2.1]; exact h.2.1, ?_⟩
          rw [ha.2]
          exact hK _ _ _ _ _ h.2.2 hL hs.2.2.2 (hσ.ast hs.2.2.1)
        · exact h.elim
    · exact h.elim
  case arraylength =>
    simp only [j2_ins] at h
    split at h
    · rename_i e o st
      split at h
      · rename_i hq
        simp only [j2_oks_c] at hs
        have ha := hσ.arr hs.1
        refine ⟨by rw [hσ.n hs.1]; rcases hq with hq | hq <;> rw [hq] at ha; exact Or.inl ha.1; exact Or.inr ha.1, ?_⟩
        rw [hσ.n hs.1]
        exact hK _ _ _ _ _ h hL (j2_oks_c.mpr ⟨trivial, hs.2⟩) hσ
      · exact h.elim
    · exact h.elim
  case goto t => exact hK _ _ _ _ _ h hL hs hσ
  case ifCond c t =>
    simp only [j2_ins] at h
    split at h
    · simp only [j2_oks_c] at hs
      exact ⟨fun q => hK _ _ _ _ _ (h.1 q) hL hs.2 hσ, fun q => hK _ _ _ _ _ (h.2 q) hL hs.2 hσ⟩
    · exact h.elim
  case if_icmp c t =>
    simp only [j2_ins] at h
    split at h
    · simp only [j2_oks_c] at hs
      exact ⟨fun q => hK _ _ _ _ _ (h.1 q) hL hs.2.2 hσ, fun q => hK _ _ _ _ _ (h.2 q) hL hs.2.2 hσ⟩
    · exact h.elim
  case tableswitch d lo hi ts =>
    simp only [j2_ins] at h
    split at h
    · simp only [j2_oks_c] at hs
      exact ⟨fun q => hK _ _ _ _ _ (h.1 q) hL hs.2 hσ, fun q q2 => hK _ _ _ _ _ (h.2 q q2) hL hs.2 hσ⟩
    · exact h.elim
  case lookupswitch d ps =>
    simp only [j2_ins] at h
    split at h
    · simp only [j2_oks_c] at hs
      exact hK _ _ _ _ _ h hL hs.2 hσ
    · exact h.elim
  case ireturn =>
    simp only [j2_ins] at h
    split at h
    · exact ⟨h.1, hR _ _ _ h.2 (fun w hw => by cases hw; trivial) hσ⟩
    · exact h.elim
  case return_ =>
    simp only [j2_ins] at h
    split at h
    · exact ⟨h.1, hR _ _ _ h.2 (fun w hw => by cases hw) hσ⟩
    · exact h.elim
  case invokestatic y =>
    simp only [j2_ins] at h
    split at h
    · rename_i hc
      have hs1 : j2_oks (st.take (jm_ma jG y)).reverse := fun w hw => hs w (List.mem_of_mem_take (List.mem_reverse.mp hw))
      have hs2 : j2_oks (st.drop (jm_ma jG y)) := fun w hw => hs w (List.mem_of_mem_drop hw)
      have e1 : (jm_pop (jm_ma jG y) (st.map j2_cv)).1 = (st.take (jm_ma jG y)).reverse.map j2_cv := by simp [jm_pop, List.map_take, List.map_reverse]
      have e2 : (jm_pop (jm_ma jG y) (st.map j2_cv)).2 = (st.drop (jm_ma jG y)).map j2_cv := by simp [jm_pop, List.map_drop]
      simp only [jm_ins]
      rw [e1, e2]
      refine ⟨by rw [List.length_map]; exact hc.2.2.1, by rw [List.length_map]; exact hc.2.2.2, by rw [hc.1]; exact Nat.le_refl _, by rw [hc.2.1]; exact Nat.le_refl _, ?_⟩
      refine hC _ _ _ _ _ _ hc.1 hc.2.1 h hs1 hσ (fun r σ' σ1' hq hr hσ' => ?_)
      have := hK _ _ _ _ _ hq hL (fun w hw => by
        rcases List.mem_append.mp hw with g | g
        · exact hr w (by cases r <;> simp_all)
        · exact hs2 w g) hσ'
      have e3 : (r.toList ++ st.drop (jm_ma jG y)).map j2_cv = (r.map j2_cv).toList ++ (st.drop (jm_ma jG y)).map j2_cv := by cases r <;> simp
      rw [e3] at this
      rw [hc.1, hc.2.1]
      exact this
    · exact h.elim
  case invokevirtual y =>
    simp only [j2_ins] at h
    split at h
    · rename_i q o rest hd
      split at h
      · rename_i hc
        have hs1 : j2_oks (st.take (jm_ma jG y)).reverse := fun w hw => hs w (List.mem_of_mem_take (List.mem_reverse.mp hw))
        have hs2 : j2_oks (st.drop (jm_ma jG y)) := fun w hw => hs w (List.mem_of_mem_drop hw)
        rw [hd, j2_oks_c] at hs2
        have e1 : (jm_pop (jm_ma jG y) (st.map j2_cv)).1 = (st.take (jm_ma jG y)).reverse.map j2_cv := by simp [jm_pop, List.map_take, List.map_reverse]
        have e2 : (jm_pop (jm_ma jG y) (st.map j2_cv)).2 = .ref o :: rest.map j2_cv := by simp [jm_pop, ← List.map_drop, hd, j2_cv]
        simp only [jm_ins]
        rw [e1, e2]
        have ho : (jm_mk jG y, o) ∈ lt_ob := by rw [← hc.1]; exact hs2.1
        refine ⟨by rw [List.length_map]; exact hc.2.2.2.1, by rw [List.length_map]; exact hc.2.2.2.2, hσ.1 _ ho, by rw [hc.2.1]; exact Nat.le_refl _, by rw [hc.2.2.1]; exact Nat.le_refl _, ?_⟩
        refine hC _ _ _ _ _ _ hc.2.1 hc.2.2.1 h (j2_oks_c.mpr ⟨hs2.1, hs1⟩) hσ (fun r σ' σ1' hq hr hσ' => ?_)
        have := hK _ _ _ _ _ hq hL (fun w hw => by
          rcases List.mem_append.mp hw with g | g
          · exact hr w (by cases r <;> simp_all)
          · exact hs2.2 w g) hσ'
        have e3 : (r.toList ++ rest).map j2_cv = (r.map j2_cv).toList ++ rest.map j2_cv := by cases r <;> simp
        rw [e3] at this
        rw [hc.2.1, hc.2.2.1]
        exact this
      · exact h.elim
    · exact h.elim
  case invokedynamic n =>
    match n, h with
    | 0, h =>
      simp only [j2_ins] at h
      split at h
      · split at h
        · rename_i hc
          simp only [j2_oks_c] at hs
          exact ⟨by rw [List.length_map]; exact hc, hK _ _ _ _ _ h hL (j2_oks_c.mpr ⟨trivial, hs.2.2⟩) hσ⟩
        · exact h.elim
      · exact h.elim
    | 1, h =>
      simp only [j2_ins] at h
      split at h
      · rename_i n dp e1 o1 sp e0 o0 rest
        split at h
        · rename_i hc
          simp only [j2_oks_c] at hs
          obtain ⟨-, -, s1, -, s0, sr⟩ := hs
          have a1 := hσ.arr s1
          have a0 := hσ.arr s0
          obtain ⟨g1, g2, g3, g4, g5, g6⟩ := h
          refine ⟨by rw [List.length_map]; exact hc.1, by rw [hσ.n s0]; have g := a0.1; rw [hc.2.1] at g; exact g, by rw [hσ.n s1]; have g := a1.1; rw [hc.2.2] at g; exact g, g1, g2, g3, by rw [hσ.n s0]; exact g4, by rw [hσ.n s1]; exact g5, ?_⟩
          rw [a1.2, a0.2]
          exact hK _ _ _ _ _ g6 hL sr (hσ.ast s1)
        · exact h.elim
      · exact h.elim
    | n + 2, h => exact h.elim
/-- LEVEL 2 RUNS ON THE SMALL MACHINE -/
theorem j2_sim : ∀ (d y : Nat) (as : List j2_W) (σ : j2_S) (Q : j2_P) (σ1 : jm_S) (P : jm_P), jm_mc jG y = 0 → jm_ms jG y = 0 → j2_tc d y as σ Q → j2_oks as → j2_R σ σ1 → (∀ r (σ' : j2_S) (σ1' : jm_S), Q r σ' → (∀ w, r = some w → j2_ok w) → j2_R σ' σ1' → P (r.map j2_cv) σ1') → jm_tc jG d y (as.map j2_cv) σ1 P := by
  intro d
  induction d with
  | zero => intro y as σ Q σ1 P _ _ h; exact h.elim
  | succ d ih =>
    intro y as σ Q σ1 P hc0 hs0 h hok hσ hP
    obtain ⟨⟨hlen, hnm⟩, hT⟩ := h
    refine ⟨by rw [List.length_map]; exact hlen, fun v hv => ?_, fun X hX => ?_⟩
    · obtain ⟨w, hw, rfl⟩ := List.mem_map.mp hv
      have := List.all_eq_true.mp hnm w hw
      rcases w with w | w | w | w
      · rfl
      · rfl
      · rfl
      · cases this
    · have e0 : jm_in0 (jm_ml jG y) (as.map j2_cv) = (j2_in0 (jm_ml jG y) as).map j2_cv := by
        simp only [jm_in0, j2_in0, List.map_append, List.map_replicate, List.length_map]
        rfl
      rw [e0, hc0, hs0]
      refine hT (fun pc L st σ => j2_oks L → j2_oks st → ∀ σ1, j2_R σ σ1 → X pc (L.map j2_cv) (st.map j2_cv) σ1 0 0) (fun pc L st σ h => ?_) ?_ (fun w hw => by cases hw) σ1 hσ
      · intro hL hs σ1 hσ
        refine hX _ _ _ _ _ _ ?_
        simp only [j2_stp] at h
        simp only [jm_stp]
        split at h
        · rename_i ins hi
          rw [hi]
          exact j2_one (fun y as σ Q σ1 P a b c d e f => ih y as σ Q σ1 P a b c d e f) (fun _ _ _ _ _ q a b c => q a b _ c) (fun _ _ _ q a b => hP _ _ _ q a b) ins h hL hs hσ
        · exact h.elim
      · intro w hw
        rcases List.mem_append.mp hw with g | g
        · exact hok w g
        · rw [List.mem_replicate] at g
          rw [g.2]
          trivial
end J2SIM
