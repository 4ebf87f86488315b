/-! the small machine without a count of steps: the least set of states that is closed under its steps -/
section JMTM
variable {G : jm_G} {U : jm_U} {C : Nat → List Value → jm_S → jm_P → Prop} {rt : Option FieldType} {K K' : jm_K} {Rt Rt' : jm_P} {pc : Nat} {L st : List Value} {σ : jm_S} {b z : Nat} {code : List Instr}
def jm_up1 (C : Nat → List Value → jm_S → jm_P → Prop) : Prop := ∀ (y : Nat) (as : List Value) (σ : jm_S) (P P' : jm_P), (∀ r σ, P r σ → P' r σ) → C y as σ P → C y as σ P'
set_option maxHeartbeats 2000000 in
theorem jm_mono (hC : jm_up1 C) (hK : ∀ pc L st σ b z, K pc L st σ b z → K' pc L st σ b z) (hR : ∀ r σ, Rt r σ → Rt' r σ) (ins : Instr) (h : jm_ins G C rt K Rt ins pc L st σ b z) : jm_ins G C rt K' Rt' ins pc L st σ b z := by
  revert h
  cases ins
  case invokedynamic n =>
    match n with
    | 0 =>
      simp only [jm_ins]
      split <;> intro h <;> first | exact h.elim | exact ⟨h.1, hK _ _ _ _ _ _ h.2⟩
    | 1 =>
      simp only [jm_ins]
      split <;> intro h
      · obtain ⟨g0, g1, g2, g3, g4, g5, g6, g7, g8⟩ := h
        exact ⟨g0, g1, g2, g3, g4, g5, g6, g7, hK _ _ _ _ _ _ g8⟩
      · exact h.elim
    | 2 =>
      simp only [jm_ins]
      split <;> intro h <;> first | exact h.elim | exact ⟨h.1, hK _ _ _ _ _ _ h.2⟩
    | n + 3 => intro h; exact h.elim
  case ireturn =>
    simp only [jm_ins]
    split <;> intro h <;> first | exact h.elim | exact ⟨h.1, hR _ _ h.2⟩
  case return_ =>
    simp only [jm_ins]
    split <;> intro h <;> first | exact h.elim | exact ⟨h.1, hR _ _ h.2⟩
  case invokestatic y =>
    simp only [jm_ins]
    intro h
    obtain ⟨g0, g1, g2, g3, g4⟩ := h
    exact ⟨g0, g1, g2, g3, hC _ _ _ _ _ (fun r σ1 q => hK _ _ _ _ _ _ q) g4⟩
  case invokespecial y =>
    simp only [jm_ins]
    split <;> intro h
    · obtain ⟨g0, g1, g2, g3, g4⟩ := h
      exact ⟨g0, g1, g2, g3, hC _ _ _ _ _ (fun r σ1 q => hK _ _ _ _ _ _ q) g4⟩
    · exact h.elim
  case invokevirtual y =>
    simp only [jm_ins]
    split <;> intro h
    · obtain ⟨g0, g1, g2, g3, g4, g5⟩ := h
      exact ⟨g0, g1, g2, g3, g4, hC _ _ _ _ _ (fun r σ1 q => hK _ _ _ _ _ _ q) g5⟩
    · exact h.elim
  all_goals simp only [jm_ins]
  all_goals first
    | (intro h; exact h.elim)
    | (intro h; exact hK _ _ _ _ _ _ h)
    | (intro h; exact ⟨h.1, h.2.1, h.2.2.1, hK _ _ _ _ _ _ h.2.2.2⟩)
    | (split <;> intro h <;> first
        | exact h.elim
        | exact hK _ _ _ _ _ _ h
        | exact ⟨fun q => hK _ _ _ _ _ _ (h.1 q), fun q => hK _ _ _ _ _ _ (h.2 q)⟩
        | exact ⟨fun q => hK _ _ _ _ _ _ (h.1 q), fun q q2 => hK _ _ _ _ _ _ (h.2 q q2)⟩
        | exact ⟨h.1, hK _ _ _ _ _ _ h.2⟩
        | exact ⟨h.1, h.2.1, hK _ _ _ _ _ _ h.2.2⟩
        | exact ⟨h.1, h.2.1, h.2.2.1, h.2.2.2.1, h.2.2.2.2.1, h.2.2.2.2.2.1, hK _ _ _ _ _ _ h.2.2.2.2.2.2⟩)
theorem jm_monoS (hC : jm_up1 C) (hK : ∀ pc L st σ b z, K pc L st σ b z → K' pc L st σ b z) (hR : ∀ r σ, Rt r σ → Rt' r σ) (h : jm_stp G C code rt K Rt pc L st σ b z) : jm_stp G C code rt K' Rt' pc L st σ b z := by
  revert h
  simp only [jm_stp]
  split
  · exact jm_mono hC hK hR _
  · exact fun h => h
def jm_T (G : jm_G) (C : Nat → List Value → jm_S → jm_P → Prop) (code : List Instr) (rt : Option FieldType) (Q : jm_P) : jm_K := fun pc L st σ b z => ∀ X : jm_K, (∀ pc L st σ b z, jm_stp G C code rt X Q pc L st σ b z → X pc L st σ b z) → X pc L st σ b z
theorem jm_T.step {Q : jm_P} (hC : jm_up1 C) (h : jm_stp G C code rt (jm_T G C code rt Q) Q pc L st σ b z) : jm_T G C code rt Q pc L st σ b z := fun X hX => hX _ _ _ _ _ _ (jm_monoS hC (fun _ _ _ _ _ _ q => q X hX) (fun _ _ q => q) h)
theorem jm_T.mono {Q Q' : jm_P} (hC : jm_up1 C) (hQ : ∀ r σ, Q r σ → Q' r σ) (h : jm_T G C code rt Q pc L st σ b z) : jm_T G C code rt Q' pc L st σ b z := fun X hX => h X (fun _ _ _ _ _ _ q => hX _ _ _ _ _ _ (jm_monoS hC (fun _ _ _ _ _ _ q => q) hQ q))
def jm_tc (G : jm_G) : Nat → Nat → List Value → jm_S → jm_P → Prop
  | 0 => fun _ _ _ _ => False
  | d + 1 => fun y as σ Q => as.length ≤ jm_ml G y ∧ (∀ v ∈ as, v.category = 1) ∧ jm_T G (jm_tc G d) (jm_co G y) (jm_rt G y) Q 0 (jm_in0 (jm_ml G y) as) [] σ (jm_mc G y) (jm_ms G y)
theorem jm_tc_up : ∀ d, jm_up1 (jm_tc G d)
  | 0 => fun _ _ _ _ _ _ h => h
  | d + 1 => fun _ _ _ _ _ hP h => ⟨h.1, h.2.1, h.2.2.mono (jm_tc_up d) hP⟩
/-- the machine does what the small machine comes to -/
theorem jm_sim2 {l : Launch} (hso : jm_so G U) (htg : jm_tg U) (hng : jm_ng U) (hmo : ∀ y', y' < jm_nM U → jm_mo G U y') (hok : ∀ y, y < jm_nM U → ∀ (i : Nat) (ins : Instr), (jm_co G y)[i]? = some ins → jm_ok G U y i ins) (h0 : ∀ y, y < jm_nM U → jm_ps U y 0 = 0) : ∀ (d y : Nat) (as : List Value) (σ : jm_S) (post : jm_P), y < jm_nM U → jm_tc G d y as σ post → jm_Met l G U d y as σ post := by
  intro d
  induction d with
  | zero => intro y as σ post hy h; exact h.elim
  | succ d ih =>
    intro y as σ post hy h V had
    obtain ⟨hlen, hcat, hn⟩ := h
    have hm := hmo y hy
    refine Met.ofW (cc := jm_bt U y) (maxL := jm_ml G y) (ret := jm_rt G y) hm.2.2.2.2 rfl ?_
    intro p e s m args below meth c s₁ B hml hv
    obtain ⟨rfl, hRp, hKn⟩ := hv
    have hts := atoms_spec (ws := jm_wy G U y) B.pre
    have X : jm_Cx G U V p s m (as.map (jm_v V)).toArray meth c (headSpec (jm_wy G U y) (jm_rm G y (d + 1))).room y d := ⟨B.exec, B.bytes, hml, findClass_of_methodNamed B.named, fun w hw => hts w (List.mem_cons_of_mem _ hw), B.returns, B.notSynchronized, (name_of_methodNamed B.named B.method).1, hKn, Nat.le_refl _, Nat.le_refl _, Nat.le_refl _, Nat.le_refl _⟩
    have hW := hn (jm_WS G U V p l e (headSpec (jm_wy G U y) (jm_rm G y (d + 1))).room s m (as.map (jm_v V)).toArray below meth c (MQ below (jm_Q U V post) (as.map (jm_v V)).toArray s (jm_mc G y) (jm_ms G y) (jm_A V)) y) (fun pc L st σ b z h => by
      simp only [jm_stp] at h
      split at h
      · rename_i ins hi
        exact jm_one X hso htg hng hmo had (fun y' as' σ' post' hy' h' => ih y' as' σ' post' hy' h') (Or.inr rfl) (fun _ _ _ _ _ _ q => q) ins (hok y hy _ _ hi) h
      · exact h.elim)
    have := hW s.heap [] _ 0 0 hRp va_S.rf (jm_LR.entry as hlen hcat) (by simp [jm_in0]; omega) (by omega) (by omega)
    rw [h0 y hy] at this
    rw [lg_entry_eq]
    exact this
end JMTM
