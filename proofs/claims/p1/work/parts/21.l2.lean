/-! LEVEL 2: the same codes over typed values: a number; an object (sort, cell); an array (field, object); 0 null, 1 the table, 2 unset. A state: numbers by field and object, the references (by lt_pi of the field), arrays by field and object. -/
abbrev j2_W : Type := Int32 ⊕ (Nat × Nat) ⊕ (Nat × Nat) ⊕ Nat
abbrev vI (v : Int32) : j2_W := .inl v
abbrev vO (q o : Nat) : j2_W := .inr (.inl (q, o))
abbrev vA (e o : Nat) : j2_W := .inr (.inr (.inl (e, o)))
abbrev vM (k : Nat) : j2_W := .inr (.inr (.inr k))
abbrev j2_S : Type := (Nat → Nat → Int32) × List j2_W × (Nat → Nat → Nat → Int32)
abbrev j2_K : Type := Nat → List j2_W → List j2_W → j2_S → Prop
abbrev j2_P : Type := Option j2_W → j2_S → Prop
abbrev j2_C : Type := Nat → List j2_W → j2_S → j2_P → Prop
def j2_up {α : Type} (f : Nat → Nat → α) (e o : Nat) (v : α) : Nat → Nat → α := fun e' o' => if e' = e ∧ o' = o then v else f e' o'
def j2_ast (A : Nat → Nat → Nat → Int32) (e o i : Nat) (x : Int32) : Nat → Nat → Nat → Int32 := j2_up A e o (upd (A e o) i x)
def j2_acp (A : Nat → Nat → Nat → Int32) (e0 o0 e1 o1 sp dp n : Nat) : Nat → Nat → Nat → Int32 := j2_up A e1 o1 (va_cpy (A e0 o0) (A e1 o1) sp dp n)
def j2_ins (C : j2_C) (rt : Option FieldType) (K : j2_K) (Rt : j2_P) (i : Instr) (pc : Nat) (L st : List j2_W) (σ : j2_S) : Prop :=
  match i with
  | .iconst n => K (pc + 1) L (.inl (Int32.ofInt n) :: st) σ
  | .aconst_null => K (pc + 1) L (.inr (.inr (.inr 0)) :: st) σ
  | .iload i => match L[i]? with
    | some (.inl v) => K (pc + 1) L (.inl v :: st) σ
    | _ => False
  | .aload i => match L[i]? with
    | some (.inr (.inl q)) => K (pc + 1) L (.inr (.inl q) :: st) σ
    | some (.inr (.inr (.inl q))) => K (pc + 1) L (.inr (.inr (.inl q)) :: st) σ
    | _ => False
  | .istore i => match st with
    | .inl v :: st => if i < L.length then K (pc + 1) (L.set i (.inl v)) st σ else False
    | _ => False
  | .astore i => match st with
    | .inr (.inl q) :: st => if i < L.length then K (pc + 1) (L.set i (.inr (.inl q))) st σ else False
    | _ => False
  | .iinc i n => match L[i]? with
    | some (.inl v) => K (pc + 1) (L.set i (.inl (v + Int32.ofInt n))) st σ
    | _ => False
  | .iadd => match st with
    | .inl y :: .inl x :: st => K (pc + 1) L (.inl (x + y) :: st) σ
    | _ => False
  | .isub => match st with
    | .inl y :: .inl x :: st => K (pc + 1) L (.inl (x - y) :: st) σ
    | _ => False
  | .imul => match st with
    | .inl y :: .inl x :: st => K (pc + 1) L (.inl (x * y) :: st) σ
    | _ => False
  | .iand => match st with
    | .inl y :: .inl x :: st => K (pc + 1) L (.inl (x &&& y) :: st) σ
    | _ => False
  | .ior => match st with
    | .inl y :: .inl x :: st => K (pc + 1) L (.inl (x ||| y) :: st) σ
    | _ => False
  | .idiv => match st with
    | .inl y :: .inl x :: st => ¬ y = 0 ∧ K (pc + 1) L (.inl (x / y) :: st) σ
    | _ => False
  | .irem => match st with
    | .inl y :: .inl x :: st => ¬ y = 0 ∧ K (pc + 1) L (.inl (x - x / y * y) :: st) σ
    | _ => False
  | .ishl => match st with
    | .inl y :: .inl x :: st => K (pc + 1) L (.inl (x <<< (y &&& 31)) :: st) σ
    | _ => False
  | .ishr => match st with
    | .inl y :: .inl x :: st => K (pc + 1) L (.inl (x >>> (y &&& 31)) :: st) σ
    | _ => False
  | .i2b => match st with
    | .inl x :: st => K (pc + 1) L (.inl x.toInt8.toInt32 :: st) σ
    | _ => False
  | .dup => match st with
    | .inl v :: st => K (pc + 1) L (.inl v :: .inl v :: st) σ
    | .inr (.inl q) :: st => K (pc + 1) L (.inr (.inl q) :: .inr (.inl q) :: st) σ
    | _ => False
  | .dup2 => match st with
    | .inl v :: .inr (.inr (.inl q)) :: st => K (pc + 1) L (.inl v :: .inr (.inr (.inl q)) :: .inl v :: .inr (.inr (.inl q)) :: st) σ
    | _ => False
  | .pop => match st with
    | .inl _ :: st => K (pc + 1) L st σ
    | _ => False
  | .getfield e => match st with
    | .inr (.inl (q, o)) :: st => if q = e / 1000 then (match lt_fk e with
      | 0 => K (pc + 1) L (.inl (σ.1 e o) :: st) σ
      | 1 => K (pc + 1) L (.inl (σ.1 e o) :: st) σ
      | 2 => K (pc + 1) L (σ.2.1.getD (lt_pi e) (.inr (.inr (.inr 0))) :: st) σ
      | 3 => K (pc + 1) L (.inr (.inr (.inl (e, o))) :: st) σ
      | 4 => K (pc + 1) L (.inr (.inl (lt_fq e, o + lt_fo e)) :: st) σ
      | _ => False) else False
    | _ => False
  | .putfield e => match st with
    | .inl v :: .inr (.inl (q, o)) :: st => if q = e / 1000 then (match lt_fk e with
      | 0 => K (pc + 1) L st (j2_up σ.1 e o v, σ.2.1, σ.2.2)
      | 1 => (v = 0 ∨ v = 1) ∧ K (pc + 1) L st (j2_up σ.1 e o v, σ.2.1, σ.2.2)
      | _ => False) else False
    | .inr (.inl w) :: .inr (.inl (q, o)) :: st => if q = e / 1000 then (match lt_fk e with
      | 2 => K (pc + 1) L st (σ.1, σ.2.1.set (lt_pi e) (.inr (.inl w)), σ.2.2)
      | _ => False) else False
    | .inr (.inr (.inl w)) :: .inr (.inl (q, o)) :: st => if q = e / 1000 then (match lt_fk e with
      | 2 => K (pc + 1) L st (σ.1, σ.2.1.set (lt_pi e) (.inr (.inr (.inl w))), σ.2.2)
      | _ => False) else False
    | _ => False
  | .iaload => match st with
    | .inl i :: .inr (.inr (.inl (e, o))) :: st => if lt_fq e = 0 then vp_in i (lt_fn e) ∧ K (pc + 1) L (.inl (σ.2.2 e o i.toNatClampNeg) :: st) σ else False
    | .inl i :: .inr (.inr (.inr 1)) :: st => vp_in i 27 ∧ K (pc + 1) L (.inl ((jt_ro 0).2 i.toNatClampNeg) :: st) σ
    | _ => False
  | .iastore => match st with
    | .inl x :: .inl i :: .inr (.inr (.inl (e, o))) :: st => if lt_fq e = 0 then vp_in i (lt_fn e) ∧ K (pc + 1) L st (σ.1, σ.2.1, j2_ast σ.2.2 e o i.toNatClampNeg x) else False
    | _ => False
  | .baload => match st with
    | .inl i :: .inr (.inr (.inl (e, o))) :: st => if lt_fq e = 1 ∨ lt_fq e = 2 then vp_in i (lt_fn e) ∧ K (pc + 1) L (.inl (σ.2.2 e o i.toNatClampNeg) :: st) σ else False
    | _ => False
  | .bastore => match st with
    | .inl x :: .inl i :: .inr (.inr (.inl (e, o))) :: st => if lt_fq e = 1 then x.toInt8.toInt32 = x ∧ vp_in i (lt_fn e) ∧ K (pc + 1) L st (σ.1, σ.2.1, j2_ast σ.2.2 e o i.toNatClampNeg x) else
      if lt_fq e = 2 then (x = 0 ∨ x = 1) ∧ vp_in i (lt_fn e) ∧ K (pc + 1) L st (σ.1, σ.2.1, j2_ast σ.2.2 e o i.toNatClampNeg x) else False
    | _ => False
  | .arraylength => match st with
    | .inr (.inr (.inl (e, o))) :: st => if lt_fq e = 0 ∨ lt_fq e = 1 then K (pc + 1) L (.inl (Int32.ofNat (lt_fn e)) :: st) σ else False
    | _ => False
  | .getstatic j => if j = 0 then K (pc + 1) L (.inr (.inr (.inr 1)) :: st) σ else False
  | .goto t => K t.toNat L st σ
  | .ifCond c t => match st with
    | .inl x :: st => (jm_c1 c x → K t.toNat L st σ) ∧ (¬ jm_c1 c x → K (pc + 1) L st σ)
    | _ => False
  | .if_icmp c t => match st with
    | .inl y :: .inl x :: st => (jm_c2 c x y → K t.toNat L st σ) ∧ (¬ jm_c2 c x y → K (pc + 1) L st σ)
    | _ => False
  | .tableswitch d lo hi ts => match st with
    | .inl x :: st => ((x.toInt < lo ∨ hi < x.toInt) → K d.toNat L st σ) ∧ (¬ x.toInt < lo → ¬ hi < x.toInt → K (ts.getD (x.toInt - lo).toNat 0).toNat L st σ)
    | _ => False
  | .lookupswitch d ps => match st with
    | .inl x :: st => K (Op.lookupswitch.offset ps.toList d x.toInt).toNat L st σ
    | _ => False
  | .ireturn => match st with
    | [.inl v] => jm_fr rt v ∧ Rt (some (.inl v)) σ
    | _ => False
  | .return_ => match st with
    | [] => rt = none ∧ Rt none σ
    | _ => False
  | .invokevirtual y => match st.drop (jm_ma jG y) with
    | .inr (.inl (q, o)) :: rest => if q = jm_mk jG y ∧ jm_mc jG y = 0 ∧ jm_ms jG y = 0 ∧ rest.length ≤ 4 ∧ jm_ma jG y ≤ st.length then C y (.inr (.inl (q, o)) :: (st.take (jm_ma jG y)).reverse) σ (fun r σ1 => K (pc + 1) L (r.toList ++ rest) σ1) else False
    | _ => False
  | .invokestatic y => if jm_mc jG y = 0 ∧ jm_ms jG y = 0 ∧ (st.drop (jm_ma jG y)).length ≤ 4 ∧ jm_ma jG y ≤ st.length then C y (st.take (jm_ma jG y)).reverse σ (fun r σ1 => K (pc + 1) L (r.toList ++ st.drop (jm_ma jG y)) σ1) else False
  | .invokedynamic 0 => match st with
    | .inl y :: .inl x :: rest => if rest.length ≤ 4 then K (pc + 1) L (.inl (if x < y then y else x) :: rest) σ else False
    | _ => False
  | .invokedynamic 1 => match st with
    | .inl n :: .inl dp :: .inr (.inr (.inl (e1, o1))) :: .inl sp :: .inr (.inr (.inl (e0, o0))) :: rest => if rest.length ≤ 4 ∧ lt_fq e0 = 0 ∧ lt_fq e1 = 0 then ¬ sp < 0 ∧ ¬ dp < 0 ∧ ¬ n < 0 ∧ sp.toNatClampNeg + n.toNatClampNeg ≤ lt_fn e0 ∧ dp.toNatClampNeg + n.toNatClampNeg ≤ lt_fn e1 ∧
      K (pc + 1) L rest (σ.1, σ.2.1, j2_acp σ.2.2 e0 o0 e1 o1 sp.toNatClampNeg dp.toNatClampNeg n.toNatClampNeg) else False
    | _ => False
  | _ => False
def j2_stp (C : j2_C) (code : List Instr) (rt : Option FieldType) (K : j2_K) (Rt : j2_P) (pc : Nat) (L st : List j2_W) (σ : j2_S) : Prop := match code[pc]? with
  | some i => j2_ins C rt K Rt i pc L st σ
  | none => False
def j2_T (C : j2_C) (code : List Instr) (rt : Option FieldType) (Q : j2_P) : j2_K := fun pc L st σ => ∀ X : j2_K, (∀ pc L st σ, j2_stp C code rt X Q pc L st σ → X pc L st σ) → X pc L st σ
def j2_in0 (n : Nat) (as : List j2_W) : List j2_W := as ++ List.replicate (n - as.length) (.inr (.inr (.inr 2)))
def j2_nm (w : j2_W) : Bool := match w with
  | .inr (.inr (.inr _)) => false
  | _ => true
def j2_tc : Nat → j2_C
  | 0 => fun _ _ _ _ => False
  | d + 1 => fun y as σ Q => (as.length ≤ jm_ml jG y ∧ as.all j2_nm = true) ∧ j2_T (j2_tc d) (jm_co jG y) (jm_rt jG y) Q 0 (j2_in0 (jm_ml jG y) as) [] σ
def j2_up1 (C : j2_C) : Prop := ∀ (y : Nat) (as : List j2_W) (σ : j2_S) (P P' : j2_P), (∀ r σ, P r σ → P' r σ) → C y as σ P → C y as σ P'
section J2MONO
variable {C : j2_C} {rt : Option FieldType} {K K' : j2_K} {Rt Rt' : j2_P} {pc : Nat} {L st : List j2_W} {σ : j2_S} {code : List Instr}
set_option maxHeartbeats 4000000 in
theorem j2_mono (hC : j2_up1 C) (hK : ∀ pc L st σ, K pc L st σ → K' pc L st σ) (hR : ∀ r σ, Rt r σ → Rt' r σ) (ins : Instr) (h : j2_ins C rt K Rt ins pc L st σ) : j2_ins C rt K' Rt' ins pc L st σ := by
  revert h
  cases ins
  case invokedynamic n =>
    match n with
    | 0 =>
      simp only [j2_ins]
      split
      · split
        · exact hK _ _ _ _
        · exact id
      · exact id
    | 1 =>
      simp only [j2_ins]
      split
      · split
        · exact fun ⟨g1, g2, g3, g4, g5, g6⟩ => ⟨g1, g2, g3, g4, g5, hK _ _ _ _ g6⟩
        · exact id
      · exact id
    | n + 2 => exact id
  case ireturn =>
    simp only [j2_ins]
    split <;> first | exact fun h => ⟨h.1, hR _ _ h.2⟩ | exact id
  case return_ =>
    simp only [j2_ins]
    split <;> first | exact fun h => ⟨h.1, hR _ _ h.2⟩ | exact id
  case invokestatic y =>
    simp only [j2_ins]
    split
    · exact hC _ _ _ _ _ (fun r σ1 q => hK _ _ _ _ q)
    · exact id
  case invokevirtual y =>
    simp only [j2_ins]
    split
    · split
      · exact hC _ _ _ _ _ (fun r σ1 q => hK _ _ _ _ q)
      · exact id
    · exact id
  case getfield e =>
    simp only [j2_ins]
    split
    · split
      · split <;> first | exact hK _ _ _ _ | exact id
      · exact id
    · exact id
  case putfield e =>
    simp only [j2_ins]
    split
    · split
      · split <;> first | exact hK _ _ _ _ | exact id | exact fun h => ⟨h.1, hK _ _ _ _ h.2⟩
      · exact id
    · split
      · split <;> first | exact hK _ _ _ _ | exact id
      · exact id
    · split
      · split <;> first | exact hK _ _ _ _ | exact id
      · exact id
    · exact id
  case bastore =>
    simp only [j2_ins]
    split
    · split
      · exact fun h => ⟨h.1, h.2.1, hK _ _ _ _ h.2.2⟩
      · split
        · exact fun h => ⟨h.1, h.2.1, hK _ _ _ _ h.2.2⟩
        · exact id
    · exact id
  all_goals simp only [j2_ins]
  all_goals first
    | exact hK _ _ _ _
    | exact id
    | (split <;> first
        | exact hK _ _ _ _
        | exact fun h => ⟨fun q => hK _ _ _ _ (h.1 q), fun q => hK _ _ _ _ (h.2 q)⟩
        | exact fun h => ⟨fun q => hK _ _ _ _ (h.1 q), fun q q2 => hK _ _ _ _ (h.2 q q2)⟩
        | exact fun h => ⟨h.1, hK _ _ _ _ h.2⟩
        | exact id
        | (split <;> first | exact hK _ _ _ _ | exact fun h => ⟨h.1, hK _ _ _ _ h.2⟩ | exact id))
theorem j2_monoS (hC : j2_up1 C) (hK : ∀ pc L st σ, K pc L st σ → K' pc L st σ) (hR : ∀ r σ, Rt r σ → Rt' r σ) (h : j2_stp C code rt K Rt pc L st σ) : j2_stp C code rt K' Rt' pc L st σ := by
  revert h
  simp only [j2_stp]
  split
  · exact j2_mono hC hK hR _
  · exact id
theorem j2_T.step {Q : j2_P} (hC : j2_up1 C) (h : j2_stp C code rt (j2_T C code rt Q) Q pc L st σ) : j2_T C code rt Q pc L st σ := fun X hX => hX _ _ _ _ (j2_monoS hC (fun _ _ _ _ q => q X hX) (fun _ _ q => q) h)
theorem j2_T.mono {Q Q' : j2_P} (hC : j2_up1 C) (hQ : ∀ r σ, Q r σ → Q' r σ) (h : j2_T C code rt Q pc L st σ) : j2_T C code rt Q' pc L st σ := fun X hX => h X (fun _ _ _ _ q => hX _ _ _ _ (j2_monoS hC (fun _ _ _ _ q => q) hQ q))
theorem j2_tc_up : ∀ d, j2_up1 (j2_tc d)
  | 0 => fun _ _ _ _ _ _ h => h
  | d + 1 => fun _ _ _ _ _ hP h => ⟨h.1, h.2.mono (j2_tc_up d) hP⟩
end J2MONO
