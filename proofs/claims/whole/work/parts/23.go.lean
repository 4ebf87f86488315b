/-! a stretch of a code at once: up to the places in 'stops' -/
section J2GO
variable {C : j2_C} {rt : Option FieldType} {Q : j2_P} {code : List Instr}
def j2_go (C : j2_C) (code : List Instr) (rt : Option FieldType) (Q : j2_P) (stops : List Nat) (K : j2_K) : Nat → j2_K
  | 0 => K
  | n + 1 => fun pc L st σ => bif stops.elem pc then K pc L st σ else j2_stp C code rt (j2_go C code rt Q stops K n) Q pc L st σ
theorem j2_go_T (hC : j2_up1 C) (stops : List Nat) : ∀ (n pc : Nat) (L st : List j2_W) (σ : j2_S), j2_go C code rt Q stops (j2_T C code rt Q) n pc L st σ → j2_T C code rt Q pc L st σ
  | 0, _, _, _, _, h => h
  | n + 1, pc, L, st, σ, h => by
    simp only [j2_go] at h
    revert h
    cases stops.elem pc
    · exact fun h => j2_T.step hC (j2_monoS hC (fun _ _ _ _ q => j2_go_T hC stops n _ _ _ _ q) (fun _ _ q => q) h)
    · exact id
theorem j2_T.go (hC : j2_up1 C) (stops : List Nat) (n : Nat) {pc : Nat} {L st : List j2_W} {σ : j2_S} (h : j2_stp C code rt (j2_go C code rt Q stops (j2_T C code rt Q) n) Q pc L st σ) : j2_T C code rt Q pc L st σ := j2_T.step hC (j2_monoS hC (fun _ _ _ _ q => j2_go_T hC stops n _ _ _ _ q) (fun _ _ q => q) h)
end J2GO
