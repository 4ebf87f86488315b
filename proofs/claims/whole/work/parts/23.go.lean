/-! a stretch of a code at once: up to the places in 'stops' -/
section J2GO
variable {C : j2_C} {rt : Option FieldType} {Q : j2_P} {code : List Instr}
def j2_go (C : j2_C) (code : List Instr) (rt : Option FieldType) (Q : j2_P) (stops : List Nat) (K : j2_K) : Nat → j2_K
  | 0 => K
  | n + 1 => fun pc L st σ => bif stops.elem pc then K pc L st σ else j2_stp C code rt (j2_go C code rt Q stops K n) Q pc L st σ
theorem j2_go_T (hC : j2_up1 C) (stops : List Nat) : ∀ (n pc : Nat) (L st : List j2_W) (σ : j2_S), j2_go C code rt Q stops (j2_T C code rt Q) n pc L st σ → j2_T C code rt Q pc L st σ
  | 0, _, _, _, _, h => h
  | n + 1, pc, L, st, σ, h => by
    simp only [j2_go] at h
    revert h
    cases stops.elem pc
    · exact fun h => j2_T.step hC (j2_monoS hC (fun _ _ _ _ q => j2_go_T hC stops n _ _ _ _ q) (fun _ _ q => q) h)
    · exact id
theorem j2_T.go (hC : j2_up1 C) (stops : List Nat) (n : Nat) {pc : Nat} {L st : List j2_W} {σ : j2_S} (h : j2_stp C code rt (j2_go C code rt Q stops (j2_T C code rt Q) n) Q pc L st σ) : j2_T C code rt Q pc L st σ := j2_T.step hC (j2_monoS hC (fun _ _ _ _ q => j2_go_T hC stops n _ _ _ _ q) (fun _ _ q => q) h)
theorem j2_T.tsw (hC : j2_up1 C) {pc : Nat} {L st : List j2_W} {σ : j2_S} {x : Int32} {d lo hi : Int} {ts : Array Int} (hc : code[pc]? = some (.tableswitch d lo hi ts)) (h1 : (x.toInt < lo ∨ hi < x.toInt) → j2_T C code rt Q d.toNat L st σ) (h2 : ¬ x.toInt < lo → ¬ hi < x.toInt → j2_T C code rt Q (ts.getD (x.toInt - lo).toNat 0).toNat L st σ) : j2_T C code rt Q pc L (.inl x :: st) σ := by
  refine j2_T.step hC ?_
  simp only [j2_stp, hc, j2_ins]
  exact ⟨h1, h2⟩
theorem j2_T.lsw (hC : j2_up1 C) {pc : Nat} {L st : List j2_W} {σ : j2_S} {x : Int32} {d : Int} {ps : Array (Int × Int)} (hc : code[pc]? = some (.lookupswitch d ps)) (h : j2_T C code rt Q (Op.lookupswitch.offset ps.toList d x.toInt).toNat L st σ) : j2_T C code rt Q pc L (.inl x :: st) σ := by
  refine j2_T.step hC ?_
  simp only [j2_stp, hc, j2_ins]
  exact h
end J2GO
