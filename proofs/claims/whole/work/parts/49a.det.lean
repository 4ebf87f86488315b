/-! a run has one outcome -/
section DET
variable {k : Bool} {C : j3_C} {rt : Option FieldType} {K : j3_K} {R : j3_P} {pc : Nat} {L st : List j3_W} {σ : j3_S} {code : List Instr}
/-- one step goes to one place, or ends -/
def one (F : j3_K → j3_P → Prop) (K : j3_K) (R : j3_P) : Prop := (∃ pc' L' st' σ', K pc' L' st' σ' ∧ ∀ (K' : j3_K) (R' : j3_P), K' pc' L' st' σ' → F K' R') ∨ ∃ r σ', R r σ' ∧ ∀ (K' : j3_K) (R' : j3_P), R' r σ' → F K' R'
theorem one_k {pc' : Nat} {L' st' : List j3_W} {σ' : j3_S} : K pc' L' st' σ' → one (fun K _ => K pc' L' st' σ') K R := fun h => Or.inl ⟨_, _, _, _, h, fun _ _ q => q⟩
theorem one_r {r : Option j3_W} {σ' : j3_S} : R r σ' → one (fun _ R => R r σ') K R := fun h => Or.inr ⟨_, _, h, fun _ _ q => q⟩
theorem one_f {F : j3_K → j3_P → Prop} : False → one F K R := False.elim
theorem one_i {F G : j3_K → j3_P → Prop} (h : one F K R) (hg : ∀ K R, F K R → G K R) : one G K R := by
  rcases h with ⟨a, b, c, d, h1, h2⟩ | ⟨a, b, h1, h2⟩
  · exact Or.inl ⟨a, b, c, d, h1, fun K' R' q => hg _ _ (h2 K' R' q)⟩
  · exact Or.inr ⟨a, b, h1, fun K' R' q => hg _ _ (h2 K' R' q)⟩
theorem one_b {b : Bool} {F : j3_K → j3_P → Prop} (h : F K R → one F K R) : (bif b then F K R else False) → one (fun K R => bif b then F K R else False) K R := by
  cases b
  · exact False.elim
  · exact h
theorem one_b2 {b : Bool} {F : j3_K → j3_P → Prop} (h : F K R → one F K R) : (bif b then False else F K R) → one (fun K R => bif b then False else F K R) K R := by
  cases b
  · exact h
  · exact False.elim
theorem one_b3 {b c : Bool} {F G : j3_K → j3_P → Prop} (h : F K R → one F K R) (h' : G K R → one G K R) : (bif b then F K R else bif c then G K R else False) → one (fun K R => bif b then F K R else bif c then G K R else False) K R := by
  cases b
  · exact one_b h'
  · exact h
theorem one_a {p : Prop} {F : j3_K → j3_P → Prop} (h : F K R → one F K R) : p ∧ F K R → one (fun K R => p ∧ F K R) K R := fun q => one_i (h q.2) (fun _ _ z => ⟨q.1, z⟩)
theorem one_if {p : Prop} [Decidable p] {F G : j3_K → j3_P → Prop} (h : F K R → one F K R) (h' : G K R → one G K R) : (if p then F K R else G K R) → one (fun K R => if p then F K R else G K R) K R := by
  intro q
  by_cases g : p
  · rw [if_pos g] at q
    exact one_i (h q) (fun _ _ z => by rw [if_pos g]; exact z)
  · rw [if_neg g] at q
    exact one_i (h' q) (fun _ _ z => by rw [if_neg g]; exact z)
theorem one_sw1 {x d : Int} : ∀ (ts : List Int) (lo : Int), j3_sw1 (fun t => K t L st σ) x d lo ts → one (fun K _ => j3_sw1 (fun t => K t L st σ) x d lo ts) K R
  | [], _ => one_k
  | t :: ts, lo => by
    simp only [j3_sw1]
    refine fun h0 => one_if ?_ ?_ h0
    · exact one_k
    · exact one_sw1 ts _
theorem one_sw2 {x d : Int} : ∀ (ts : List (Int × Int)), j3_sw2 (fun t => K t L st σ) x d ts → one (fun K _ => j3_sw2 (fun t => K t L st σ) x d ts) K R
  | [] => one_k
  | (a, o) :: ts => by
    simp only [j3_sw2]
    refine fun h0 => one_if ?_ ?_ h0
    · exact one_k
    · exact one_sw2 ts
def det (C : j3_C) : Prop := ∀ (y : Nat) (as : List j3_W) (σ : j3_S) (P : j3_P), C y as σ P → ∃ r σ', P r σ' ∧ ∀ P' : j3_P, P' r σ' → C y as σ P'
theorem one_c (hC : det C) {y : Nat} {as : List j3_W} {f : Option j3_W → List j3_W} {pc' : Nat} : C y as σ (fun r σ1 => K pc' L (f r) σ1) → one (fun K _ => C y as σ (fun r σ1 => K pc' L (f r) σ1)) K R := by
  intro h
  obtain ⟨r, σ', h1, h2⟩ := hC _ _ _ _ h
  exact Or.inl ⟨_, _, _, _, h1, fun K' _ q => h2 _ q⟩
set_option maxHeartbeats 4000000 in
theorem j3_insD (hC : det C) (ins : Instr) (h : j3_ins k C rt K R ins pc L st σ) : one (fun K R => j3_ins k C rt K R ins pc L st σ) K R := by
  revert h
  cases ins
  case invokedynamic n =>
    match n with
    | 0 =>
      simp only [j3_ins]
      split
      · refine fun h0 => one_b ?_ h0
        exact one_k
      · exact one_f
    | 1 =>
      simp only [j3_ins]
      split
      · refine fun h0 => one_b ?_ h0
        refine fun h0 => one_a ?_ h0
        exact one_k
      · exact one_f
    | n + 2 => exact one_f
  case ireturn =>
    simp only [j3_ins]
    split
    · split
      · exact one_r
      · refine fun h0 => one_a ?_ h0
        exact one_r
      · exact one_f
    · exact one_f
  case return_ =>
    simp only [j3_ins]
    split
    · split
      · exact one_r
      · exact one_f
    · exact one_f
  case invokestatic y =>
    simp only [j3_ins]
    refine fun h0 => one_if ?_ ?_ h0
    · exact one_c (f := fun r => r.toList ++ List.drop (jm_ma jG y) st) hC
    · exact one_f
  case invokevirtual y =>
    simp only [j3_ins]
    split
    · rename_i q o rest _
      refine fun h0 => one_if ?_ ?_ h0
      · exact one_c (f := fun r => r.toList ++ rest) hC
      · exact one_f
    · exact one_f
  case getfield e =>
    simp only [j3_ins]
    split
    · refine fun h0 => one_b ?_ h0
      split
      · exact one_k
      · exact one_k
      · refine fun h0 => one_b2 ?_ h0
        refine fun h0 => one_a ?_ h0
        exact one_k
      · exact one_k
      · exact one_k
      · exact one_f
    · exact one_f
  case putfield e =>
    simp only [j3_ins]
    split
    · refine fun h0 => one_b ?_ h0
      split
      · exact one_k
      · refine fun h0 => one_a ?_ h0
        exact one_k
      · exact one_f
    · refine fun h0 => one_b ?_ h0
      split
      · refine fun h0 => one_b2 ?_ h0
        exact one_k
      · exact one_f
    · refine fun h0 => one_b ?_ h0
      split
      · refine fun h0 => one_b ?_ h0
        exact one_k
      · exact one_f
    · exact one_f
  case bastore =>
    simp only [j3_ins]
    split
    · refine fun h0 => one_b3 ?_ ?_ h0
      · refine fun h0 => one_a ?_ h0
        refine fun h0 => one_a ?_ h0
        exact one_k
      · refine fun h0 => one_a ?_ h0
        refine fun h0 => one_a ?_ h0
        exact one_k
    · exact one_f
  case tableswitch d lo hi ts =>
    simp only [j3_ins]
    split
    · refine fun h0 => one_b ?_ h0
      exact one_sw1 _ _
    · exact one_f
  case lookupswitch d ps =>
    simp only [j3_ins]
    split
    · exact one_sw2 _
    · exact one_f
  case ifCond c t =>
    simp only [j3_ins]
    split
    · cases c <;> simp only [] <;> refine fun h0 => one_if ?_ ?_ h0 <;> exact one_k
    · exact one_f
  case if_icmp c t =>
    simp only [j3_ins]
    split
    · cases c <;> simp only [] <;> refine fun h0 => one_if ?_ ?_ h0 <;> exact one_k
    · exact one_f
  all_goals simp only [j3_ins]
  all_goals first
    | exact one_k
    | (refine fun h0 => one_b ?_ h0; exact one_k)
    | exact one_f
    | (split <;> first
        | exact one_k
        | (refine fun h0 => one_b ?_ h0; exact one_k)
        | (refine fun h0 => one_b ?_ h0; refine fun h0 => one_a ?_ h0; exact one_k)
        | (refine fun h0 => one_a ?_ h0; exact one_k)
        | exact one_f)
theorem j3_detT {Q : j3_P} (hC : det C) (hm : j3_up1 C) (h : j3_T k C code rt Q pc L st σ) : ∃ r σ', Q r σ' ∧ ∀ Q' : j3_P, Q' r σ' → j3_T k C code rt Q' pc L st σ := by
  refine h (fun pc L st σ => ∃ r σ', Q r σ' ∧ ∀ Q' : j3_P, Q' r σ' → j3_T k C code rt Q' pc L st σ) (fun pc L st σ hs => ?_)
  have key : one (fun K R => j3_stp k C code rt K R pc L st σ) (fun pc L st σ => ∃ r σ', Q r σ' ∧ ∀ Q' : j3_P, Q' r σ' → j3_T k C code rt Q' pc L st σ) Q := by
    revert hs
    simp only [j3_stp]
    split
    · exact j3_insD hC _
    · exact one_f
  rcases key with ⟨a, b, c, e, ⟨r, σ', h1, h2⟩, h3⟩ | ⟨r, σ', h1, h2⟩
  · exact ⟨r, σ', h1, fun Q' q => j3_T.step hm (h3 _ _ (h2 Q' q))⟩
  · exact ⟨r, σ', h1, fun Q' q => j3_T.step hm (h2 _ _ q)⟩
theorem j3_det : ∀ d, det (j3_tc k d)
  | 0 => fun _ _ _ _ h => h.elim
  | d + 1 => fun _ _ _ _ h => by
    obtain ⟨r, σ', h1, h2⟩ := j3_detT (j3_det d) (j3_tc_up d) h.2
    exact ⟨r, σ', h1, fun P' q => ⟨h.1, h2 P' q⟩⟩
theorem j3_lift {n : Nat} {y : Nat} {as : List j3_W} {P : j3_P} : ∀ d, j3_tc k n y as σ P → j3_tc k (d + n) y as σ P
  | 0, h => by rw [Nat.zero_add]; exact h
  | d + 1, h => by
    have := j3_tc_deep (d + n) _ _ _ _ _ (fun _ _ q => q) (j3_lift d h)
    rw [show d + 1 + n = d + n + 1 by omega]
    exact this
/-- the outcome of a call, out of what is said of it -/
theorem outc {n : Nat} {y : Nat} {as : List j3_W} {r : Option j3_W} {M : j3_S → Prop} (h : j3_tc k n y as σ (fun r' σ' => r' = r ∧ M σ')) : ∃ σ', M σ' ∧ ∀ d (Q : j3_P), Q r σ' → j3_tc k (d + n) y as σ Q := by
  obtain ⟨r', σ', ⟨h1, h2⟩, h3⟩ := j3_det n _ _ _ _ h
  subst h1
  exact ⟨σ', h2, fun d Q q => j3_lift d (h3 Q q)⟩
end DET
