/-! LEVEL 3: the same codes over whole numbers. Two states: the class's (k = false) and the reference's (k = true); a run touches its own alone. Numbers by field and object, references (the cell of a program, 0 null; the Reader's tape 1), rows by field and object. Conditions are 'if's, so a stretch of a code is an EQUATION. -/
abbrev j3_W : Type := Int ⊕ (Nat × Nat) ⊕ (Nat × Nat) ⊕ Nat
abbrev wI (v : Int) : j3_W := .inl v
abbrev wO (q o : Nat) : j3_W := .inr (.inl (q, o))
abbrev wA (e o : Nat) : j3_W := .inr (.inr (.inl (e, o)))
abbrev wM (k : Nat) : j3_W := .inr (.inr (.inr k))
abbrev j3_S : Type := (Nat → Nat → Int) × (Nat → Nat) × (Nat → Nat → Int → Int)
abbrev j3_K : Type := Nat → List j3_W → List j3_W → j3_S → Prop
abbrev j3_P : Type := Option j3_W → j3_S → Prop
abbrev j3_C : Type := Nat → List j3_W → j3_S → j3_P → Prop
def wr (z : Int) : Int := (Int32.ofInt z).toInt
def i_an (x y : Int) : Int := (Int32.ofInt x &&& Int32.ofInt y).toInt
def i_or (x y : Int) : Int := (Int32.ofInt x ||| Int32.ofInt y).toInt
def i_sl (x y : Int) : Int := (Int32.ofInt x <<< (Int32.ofInt y &&& 31)).toInt
def i_sr (x y : Int) : Int := (Int32.ofInt x >>> (Int32.ofInt y &&& 31)).toInt
def i_dv (x y : Int) : Int := (Int32.ofInt x / Int32.ofInt y).toInt
def i_rm (x y : Int) : Int := (Int32.ofInt x - Int32.ofInt x / Int32.ofInt y * Int32.ofInt y).toInt
def i_tb (x : Int) : Int := (Int32.ofInt x).toInt8.toInt32.toInt
def i_tls (i : Int) : Int := ((jt_ro 0).2 i.toNat).toInt
def i_up (f : Int → Int) (i x : Int) : Int → Int := fun j => if j = i then x else f j
def i_cp (f g : Int → Int) (sp dp n : Int) : Int → Int := fun j => if dp ≤ j ∧ j < dp + n then f (sp + (j - dp)) else g j
def j3_up {α : Type} (f : Nat → Nat → α) (e o : Nat) (v : α) : Nat → Nat → α := fun e' o' => bif (e' == e) && (o' == o) then v else f e' o'
def j3_upP (P : Nat → Nat) (i w : Nat) : Nat → Nat := fun j => bif j == i then w else P j
def j3_ast (A : Nat → Nat → Int → Int) (e o : Nat) (i x : Int) : Nat → Nat → Int → Int := j3_up A e o (i_up (A e o) i x)
def j3_acp (A : Nat → Nat → Int → Int) (e0 o0 e1 o1 : Nat) (sp dp n : Int) : Nat → Nat → Int → Int := j3_up A e1 o1 (i_cp (A e0 o0) (A e1 o1) sp dp n)
def j3_rgb (n : Int) : Bool := decide (-2147483648 ≤ n) && decide (n < 2147483648)
def j3_g (k : Bool) (e : Nat) : Bool := (e / 1000 == 10) == k
def j3_sw1 (K : Nat → Prop) (x : Int) (d : Int) : Int → List Int → Prop
  | _, [] => K d.toNat
  | lo, t :: ts => if x = lo then K t.toNat else j3_sw1 K x d (lo + 1) ts
def j3_sw2 (K : Nat → Prop) (x : Int) (d : Int) : List (Int × Int) → Prop
  | [] => K d.toNat
  | (a, o) :: r => if x = a then K o.toNat else j3_sw2 K x d r
def j3_ins (k : Bool) (C : j3_C) (rt : Option FieldType) (K : j3_K) (Rt : j3_P) (i : Instr) (pc : Nat) (L st : List j3_W) (σ : j3_S) : Prop :=
  match i with
  | .iconst n => bif j3_rgb n then K (pc + 1) L (.inl n :: st) σ else False
  | .aconst_null => K (pc + 1) L (.inr (.inr (.inr 0)) :: st) σ
  | .iload i => match L[i]? with
    | some (.inl v) => K (pc + 1) L (.inl v :: st) σ
    | _ => False
  | .aload i => match L[i]? with
    | some (.inr (.inl q)) => K (pc + 1) L (.inr (.inl q) :: st) σ
    | some (.inr (.inr (.inl q))) => K (pc + 1) L (.inr (.inr (.inl q)) :: st) σ
    | _ => False
  | .istore i => match st with
    | .inl v :: st => bif i.blt L.length then K (pc + 1) (L.set i (.inl v)) st σ else False
    | _ => False
  | .astore i => match st with
    | .inr (.inl q) :: st => bif i.blt L.length then K (pc + 1) (L.set i (.inr (.inl q))) st σ else False
    | _ => False
  | .iinc i n => match L[i]? with
    | some (.inl v) => K (pc + 1) (L.set i (.inl (wr (v + n)))) st σ
    | _ => False
  | .iadd => match st with
    | .inl y :: .inl x :: st => K (pc + 1) L (.inl (wr (x + y)) :: st) σ
    | _ => False
  | .isub => match st with
    | .inl y :: .inl x :: st => K (pc + 1) L (.inl (wr (x - y)) :: st) σ
    | _ => False
  | .imul => match st with
    | .inl y :: .inl x :: st => K (pc + 1) L (.inl (wr (x * y)) :: st) σ
    | _ => False
  | .iand => match st with
    | .inl y :: .inl x :: st => K (pc + 1) L (.inl (i_an x y) :: st) σ
    | _ => False
  | .ior => match st with
    | .inl y :: .inl x :: st => K (pc + 1) L (.inl (i_or x y) :: st) σ
    | _ => False
  | .idiv => match st with
    | .inl y :: .inl x :: st => ¬ y = 0 ∧ K (pc + 1) L (.inl (i_dv x y) :: st) σ
    | _ => False
  | .irem => match st with
    | .inl y :: .inl x :: st => ¬ y = 0 ∧ K (pc + 1) L (.inl (i_rm x y) :: st) σ
    | _ => False
  | .ishl => match st with
    | .inl y :: .inl x :: st => K (pc + 1) L (.inl (i_sl x y) :: st) σ
    | _ => False
  | .ishr => match st with
    | .inl y :: .inl x :: st => K (pc + 1) L (.inl (i_sr x y) :: st) σ
    | _ => False
  | .i2b => match st with
    | .inl x :: st => K (pc + 1) L (.inl (i_tb x) :: st) σ
    | _ => False
  | .dup => match st with
    | .inl v :: st => K (pc + 1) L (.inl v :: .inl v :: st) σ
    | .inr (.inl q) :: st => K (pc + 1) L (.inr (.inl q) :: .inr (.inl q) :: st) σ
    | _ => False
  | .dup2 => match st with
    | .inl v :: .inr (.inr (.inl q)) :: st => K (pc + 1) L (.inl v :: .inr (.inr (.inl q)) :: .inl v :: .inr (.inr (.inl q)) :: st) σ
    | _ => False
  | .pop => match st with
    | .inl _ :: st => K (pc + 1) L st σ
    | _ => False
  | .getfield e => match st with
    | .inr (.inl (q, o)) :: st => bif (q == e / 1000) && j3_g k e then (match lt_fk e with
      | 0 => K (pc + 1) L (.inl (σ.1 e o) :: st) σ
      | 1 => K (pc + 1) L (.inl (σ.1 e o) :: st) σ
      | 2 => bif k then False else ¬ σ.2.1 (lt_pi e) = 0 ∧ K (pc + 1) L ((bif lt_pi e == 3 then wA 9000 0 else wO 3 (σ.2.1 (lt_pi e))) :: st) σ
      | 3 => K (pc + 1) L (.inr (.inr (.inl (e, o))) :: st) σ
      | 4 => K (pc + 1) L (.inr (.inl (lt_fq e, o + lt_fo e)) :: st) σ
      | _ => False) else False
    | _ => False
  | .putfield e => match st with
    | .inl v :: .inr (.inl (q, o)) :: st => bif (q == e / 1000) && j3_g k e then (match lt_fk e with
      | 0 => K (pc + 1) L st (j3_up σ.1 e o v, σ.2.1, σ.2.2)
      | 1 => (v = 0 ∨ v = 1) ∧ K (pc + 1) L st (j3_up σ.1 e o v, σ.2.1, σ.2.2)
      | _ => False) else False
    | .inr (.inl (q', w)) :: .inr (.inl (q, o)) :: st => bif (q == e / 1000) && j3_g k e then (match lt_fk e with
      | 2 => bif k || !(q' == 3) || lt_pi e == 3 then False else K (pc + 1) L st (σ.1, j3_upP σ.2.1 (lt_pi e) w, σ.2.2)
      | _ => False) else False
    | .inr (.inr (.inl (e', w))) :: .inr (.inl (q, o)) :: st => bif (q == e / 1000) && j3_g k e then (match lt_fk e with
      | 2 => bif !k && e' == 9000 && w == 0 && lt_pi e == 3 then K (pc + 1) L st (σ.1, j3_upP σ.2.1 3 1, σ.2.2) else False
      | _ => False) else False
    | _ => False
  | .iaload => match st with
    | .inl i :: .inr (.inr (.inl (e, o))) :: st => bif (lt_fq e == 0) && j3_g k e then (0 ≤ i ∧ i < (lt_fn e : Int)) ∧ K (pc + 1) L (.inl (σ.2.2 e o i) :: st) σ else False
    | .inl i :: .inr (.inr (.inr 1)) :: st => (0 ≤ i ∧ i < 27) ∧ K (pc + 1) L (.inl (i_tls i) :: st) σ
    | _ => False
  | .iastore => match st with
    | .inl x :: .inl i :: .inr (.inr (.inl (e, o))) :: st => bif (lt_fq e == 0) && j3_g k e then (0 ≤ i ∧ i < (lt_fn e : Int)) ∧ K (pc + 1) L st (σ.1, σ.2.1, j3_ast σ.2.2 e o i x) else False
    | _ => False
  | .baload => match st with
    | .inl i :: .inr (.inr (.inl (e, o))) :: st => bif (lt_fq e == 1 || lt_fq e == 2) && j3_g k e then (0 ≤ i ∧ i < (lt_fn e : Int)) ∧ K (pc + 1) L (.inl (σ.2.2 e o i) :: st) σ else False
    | _ => False
  | .bastore => match st with
    | .inl x :: .inl i :: .inr (.inr (.inl (e, o))) :: st => bif (lt_fq e == 1) && j3_g k e then (-128 ≤ x ∧ x < 128) ∧ (0 ≤ i ∧ i < (lt_fn e : Int)) ∧ K (pc + 1) L st (σ.1, σ.2.1, j3_ast σ.2.2 e o i x) else
      bif (lt_fq e == 2) && j3_g k e then (x = 0 ∨ x = 1) ∧ (0 ≤ i ∧ i < (lt_fn e : Int)) ∧ K (pc + 1) L st (σ.1, σ.2.1, j3_ast σ.2.2 e o i x) else False
    | _ => False
  | .arraylength => match st with
    | .inr (.inr (.inl (e, o))) :: st => bif (lt_fq e == 0 || lt_fq e == 1) && (lt_fn e).blt 2147483648 then K (pc + 1) L (.inl (lt_fn e : Int) :: st) σ else False
    | _ => False
  | .getstatic j => bif j == 0 then K (pc + 1) L (.inr (.inr (.inr 1)) :: st) σ else False
  | .goto t => K t.toNat L st σ
  | .ifCond c t => match st with
    | .inl x :: st => match c with
      | .eq => if x = 0 then K t.toNat L st σ else K (pc + 1) L st σ
      | .ne => if x = 0 then K (pc + 1) L st σ else K t.toNat L st σ
      | .lt => if x < 0 then K t.toNat L st σ else K (pc + 1) L st σ
      | .ge => if x < 0 then K (pc + 1) L st σ else K t.toNat L st σ
      | .gt => if 0 < x then K t.toNat L st σ else K (pc + 1) L st σ
      | .le => if 0 < x then K (pc + 1) L st σ else K t.toNat L st σ
    | _ => False
  | .if_icmp c t => match st with
    | .inl y :: .inl x :: st => match c with
      | .eq => if x = y then K t.toNat L st σ else K (pc + 1) L st σ
      | .ne => if x = y then K (pc + 1) L st σ else K t.toNat L st σ
      | .lt => if x < y then K t.toNat L st σ else K (pc + 1) L st σ
      | .ge => if x < y then K (pc + 1) L st σ else K t.toNat L st σ
      | .gt => if y < x then K t.toNat L st σ else K (pc + 1) L st σ
      | .le => if y < x then K (pc + 1) L st σ else K t.toNat L st σ
    | _ => False
  | .tableswitch d lo hi ts => match st with
    | .inl x :: st => bif (hi + 1 == lo + (ts.toList.length : Int)) then j3_sw1 (fun t => K t L st σ) x d lo ts.toList else False
    | _ => False
  | .lookupswitch d ps => match st with
    | .inl x :: st => j3_sw2 (fun t => K t L st σ) x d ps.toList
    | _ => False
  | .ireturn => match st with
    | [.inl v] => match rt with
      | some .int => Rt (some (.inl v)) σ
      | some .boolean => (v = 0 ∨ v = 1) ∧ Rt (some (.inl v)) σ
      | _ => False
    | _ => False
  | .return_ => match st with
    | [] => match rt with
      | none => Rt none σ
      | _ => False
    | _ => False
  | .invokevirtual y => match st.drop (jm_ma jG y) with
    | .inr (.inl (q, o)) :: rest => if q = jm_mk jG y ∧ jm_mc jG y = 0 ∧ jm_ms jG y = 0 ∧ rest.length ≤ 4 ∧ jm_ma jG y ≤ st.length then C y (.inr (.inl (q, o)) :: (st.take (jm_ma jG y)).reverse) σ (fun r σ1 => K (pc + 1) L (r.toList ++ rest) σ1) else False
    | _ => False
  | .invokestatic y => if jm_mc jG y = 0 ∧ jm_ms jG y = 0 ∧ (st.drop (jm_ma jG y)).length ≤ 4 ∧ jm_ma jG y ≤ st.length then C y (st.take (jm_ma jG y)).reverse σ (fun r σ1 => K (pc + 1) L (r.toList ++ st.drop (jm_ma jG y)) σ1) else False
  | .invokedynamic 0 => match st with
    | .inl y :: .inl x :: rest => bif Nat.ble rest.length 4 then K (pc + 1) L (.inl (if x < y then y else x) :: rest) σ else False
    | _ => False
  | .invokedynamic 1 => match st with
    | .inl n :: .inl dp :: .inr (.inr (.inl (e1, o1))) :: .inl sp :: .inr (.inr (.inl (e0, o0))) :: rest => bif Nat.ble rest.length 4 && lt_fq e0 == 0 && lt_fq e1 == 0 && j3_g k e0 && j3_g k e1 then (0 ≤ sp ∧ 0 ≤ dp ∧ 0 ≤ n ∧ sp + n ≤ (lt_fn e0 : Int) ∧ dp + n ≤ (lt_fn e1 : Int)) ∧
      K (pc + 1) L rest (σ.1, σ.2.1, j3_acp σ.2.2 e0 o0 e1 o1 sp dp n) else False
    | _ => False
  | _ => False
def j3_stp (k : Bool) (C : j3_C) (code : List Instr) (rt : Option FieldType) (K : j3_K) (Rt : j3_P) (pc : Nat) (L st : List j3_W) (σ : j3_S) : Prop := match code[pc]? with
  | some i => j3_ins k C rt K Rt i pc L st σ
  | none => False
def j3_T (k : Bool) (C : j3_C) (code : List Instr) (rt : Option FieldType) (Q : j3_P) : j3_K := fun pc L st σ => ∀ X : j3_K, (∀ pc L st σ, j3_stp k C code rt X Q pc L st σ → X pc L st σ) → X pc L st σ
def j3_in0 (n : Nat) (as : List j3_W) : List j3_W := as ++ List.replicate (n - as.length) (.inr (.inr (.inr 2)))
def j3_nm (w : j3_W) : Bool := match w with
  | .inr (.inr (.inr _)) => false
  | _ => true
def j3_tc (k : Bool) : Nat → j3_C
  | 0 => fun _ _ _ _ => False
  | d + 1 => fun y as σ Q => (as.length ≤ jm_ml jG y ∧ as.all j3_nm = true) ∧ j3_T k (j3_tc k d) (jm_co jG y) (jm_rt jG y) Q 0 (j3_in0 (jm_ml jG y) as) [] σ
def j3_up2 (C C' : j3_C) : Prop := ∀ (y : Nat) (as : List j3_W) (σ : j3_S) (P P' : j3_P), (∀ r σ, P r σ → P' r σ) → C y as σ P → C' y as σ P'
abbrev j3_up1 (C : j3_C) : Prop := j3_up2 C C
section J3MONO
variable {k : Bool} {C C' : j3_C} {rt : Option FieldType} {K K' : j3_K} {Rt Rt' : j3_P} {pc : Nat} {L st : List j3_W} {σ : j3_S} {code : List Instr}
theorem j3_sw1_mono {F G : Nat → Prop} (h : ∀ t, F t → G t) {x d : Int} : ∀ (ts : List Int) (lo : Int), j3_sw1 F x d lo ts → j3_sw1 G x d lo ts
  | [], _ => h _
  | t :: ts, lo => by
    simp only [j3_sw1]
    split
    · exact h _
    · exact j3_sw1_mono h ts _
theorem j3_sw2_mono {F G : Nat → Prop} (h : ∀ t, F t → G t) {x d : Int} : ∀ (ts : List (Int × Int)), j3_sw2 F x d ts → j3_sw2 G x d ts
  | [] => h _
  | (a, o) :: ts => by
    simp only [j3_sw2]
    split
    · exact h _
    · exact j3_sw2_mono h ts
theorem j3_bif {b : Bool} {P Q : Prop} (h : P → Q) : (bif b then P else False) → (bif b then Q else False) := by
  cases b
  · exact id
  · exact h
theorem j3_bif2 {b : Bool} {P Q : Prop} (h : P → Q) : (bif b then False else P) → (bif b then False else Q) := by
  cases b
  · exact h
  · exact id
theorem j3_bif3 {b c : Bool} {P Q P' Q' : Prop} (h : P → Q) (h' : P' → Q') : (bif b then P else bif c then P' else False) → (bif b then Q else bif c then Q' else False) := by
  cases b
  · exact j3_bif h'
  · exact h
set_option maxHeartbeats 4000000 in
theorem j3_mono (hC : j3_up2 C C') (hK : ∀ pc L st σ, K pc L st σ → K' pc L st σ) (hR : ∀ r σ, Rt r σ → Rt' r σ) (ins : Instr) (h : j3_ins k C rt K Rt ins pc L st σ) : j3_ins k C' rt K' Rt' ins pc L st σ := by
  revert h
  cases ins
  case invokedynamic n =>
    match n with
    | 0 =>
      simp only [j3_ins]
      split
      · exact j3_bif (hK _ _ _ _)
      · exact id
    | 1 =>
      simp only [j3_ins]
      split
      · exact j3_bif (fun h => ⟨h.1, hK _ _ _ _ h.2⟩)
      · exact id
    | n + 2 => exact id
  case ireturn =>
    simp only [j3_ins]
    split
    · split
      · exact hR _ _
      · exact fun h => ⟨h.1, hR _ _ h.2⟩
      · exact id
    · exact id
  case return_ =>
    simp only [j3_ins]
    split
    · split
      · exact hR _ _
      · exact id
    · exact id
  case invokestatic y =>
    simp only [j3_ins]
    split
    · exact hC _ _ _ _ _ (fun r σ1 q => hK _ _ _ _ q)
    · exact id
  case invokevirtual y =>
    simp only [j3_ins]
    split
    · split
      · exact hC _ _ _ _ _ (fun r σ1 q => hK _ _ _ _ q)
      · exact id
    · exact id
  case getfield e =>
    simp only [j3_ins]
    split
    · refine j3_bif ?_
      split
      · exact hK _ _ _ _
      · exact hK _ _ _ _
      · exact j3_bif2 (fun h => ⟨h.1, hK _ _ _ _ h.2⟩)
      · exact hK _ _ _ _
      · exact hK _ _ _ _
      · exact id
    · exact id
  case putfield e =>
    simp only [j3_ins]
    split
    · refine j3_bif ?_
      split
      · exact hK _ _ _ _
      · exact fun h => ⟨h.1, hK _ _ _ _ h.2⟩
      · exact id
    · refine j3_bif ?_
      split
      · exact j3_bif2 (hK _ _ _ _)
      · exact id
    · refine j3_bif ?_
      split
      · exact j3_bif (hK _ _ _ _)
      · exact id
    · exact id
  case bastore =>
    simp only [j3_ins]
    split
    · exact j3_bif3 (fun h => ⟨h.1, h.2.1, hK _ _ _ _ h.2.2⟩) (fun h => ⟨h.1, h.2.1, hK _ _ _ _ h.2.2⟩)
    · exact id
  case tableswitch d lo hi ts =>
    simp only [j3_ins]
    split
    · exact j3_bif (j3_sw1_mono (fun t => hK _ _ _ _) _ _)
    · exact id
  case lookupswitch d ps =>
    simp only [j3_ins]
    split
    · exact j3_sw2_mono (fun t => hK _ _ _ _) _
    · exact id
  case ifCond c t =>
    simp only [j3_ins]
    split
    · cases c <;> simp only [] <;> split <;> exact hK _ _ _ _
    · exact id
  case if_icmp c t =>
    simp only [j3_ins]
    split
    · cases c <;> simp only [] <;> split <;> exact hK _ _ _ _
    · exact id
  all_goals simp only [j3_ins]
  all_goals first
    | exact hK _ _ _ _
    | exact j3_bif (hK _ _ _ _)
    | exact id
    | (split <;> first
        | exact hK _ _ _ _
        | exact j3_bif (hK _ _ _ _)
        | exact j3_bif (fun h => ⟨h.1, hK _ _ _ _ h.2⟩)
        | exact fun h => ⟨h.1, hK _ _ _ _ h.2⟩
        | exact id)
theorem j3_monoS (hC : j3_up2 C C') (hK : ∀ pc L st σ, K pc L st σ → K' pc L st σ) (hR : ∀ r σ, Rt r σ → Rt' r σ) (h : j3_stp k C code rt K Rt pc L st σ) : j3_stp k C' code rt K' Rt' pc L st σ := by
  revert h
  simp only [j3_stp]
  split
  · exact j3_mono hC hK hR _
  · exact id
theorem j3_T.step {Q : j3_P} (hC : j3_up1 C) (h : j3_stp k C code rt (j3_T k C code rt Q) Q pc L st σ) : j3_T k C code rt Q pc L st σ := fun X hX => hX _ _ _ _ (j3_monoS hC (fun _ _ _ _ q => q X hX) (fun _ _ q => q) h)
theorem j3_T.stepE {Q : j3_P} (hC : j3_up1 C) : j3_T k C code rt Q pc L st σ = j3_stp k C code rt (j3_T k C code rt Q) Q pc L st σ :=
  propext ⟨fun h => h (fun pc L st σ => j3_stp k C code rt (j3_T k C code rt Q) Q pc L st σ) (fun _ _ _ _ q => j3_monoS hC (fun _ _ _ _ q => j3_T.step hC q) (fun _ _ q => q) q), j3_T.step hC⟩
theorem j3_T.mono {Q Q' : j3_P} (hC : j3_up2 C C') (hQ : ∀ r σ, Q r σ → Q' r σ) (h : j3_T k C code rt Q pc L st σ) : j3_T k C' code rt Q' pc L st σ := fun X hX => h X (fun _ _ _ _ q => hX _ _ _ _ (j3_monoS hC (fun _ _ _ _ q => q) hQ q))
theorem j3_tc_up : ∀ d, j3_up1 (j3_tc k d)
  | 0 => fun _ _ _ _ _ _ h => h
  | d + 1 => fun _ _ _ _ _ hP h => ⟨h.1, h.2.mono (j3_tc_up d) hP⟩
/-- deeper is as good -/
theorem j3_tc_deep : ∀ d, j3_up2 (j3_tc k d) (j3_tc k (d + 1))
  | 0 => fun _ _ _ _ _ _ h => h.elim
  | d + 1 => fun _ _ _ _ _ hP h => ⟨h.1, h.2.mono (j3_tc_deep d) hP⟩
end J3MONO
section J3GO
variable {k : Bool} {rt : Option FieldType} {Q : j3_P} {code : List Instr}
def j3_go (k : Bool) (C : j3_C) (code : List Instr) (rt : Option FieldType) (Q : j3_P) (stops : List Nat) (K : j3_K) : Nat → j3_K
  | 0 => K
  | n + 1 => fun pc L st σ => bif stops.elem pc then K pc L st σ else j3_stp k C code rt (j3_go k C code rt Q stops K n) Q pc L st σ
theorem j3_goE (d : Nat) (stops : List Nat) : ∀ n, j3_go k (j3_tc k d) code rt Q stops (j3_T k (j3_tc k d) code rt Q) n = j3_T k (j3_tc k d) code rt Q
  | 0 => rfl
  | n + 1 => by
    funext pc L st σ
    simp only [j3_go, j3_goE d stops n]
    cases stops.elem pc
    · exact (j3_T.stepE (j3_tc_up d)).symm
    · rfl
theorem j3_T.go (d : Nat) (stops : List Nat) (n : Nat) {pc : Nat} {L st : List j3_W} {σ : j3_S} : j3_T k (j3_tc k d) code rt Q pc L st σ = j3_stp k (j3_tc k d) code rt (j3_go k (j3_tc k d) code rt Q stops (j3_T k (j3_tc k d) code rt Q) n) Q pc L st σ := by
  rw [j3_goE]
  exact j3_T.stepE (j3_tc_up d)
theorem j3_entry {d y : Nat} {as : List j3_W} {σ : j3_S} (h : (as.length ≤ jm_ml jG y ∧ as.all j3_nm = true)) : j3_tc k (d + 1) y as σ Q = j3_T k (j3_tc k d) (jm_co jG y) (jm_rt jG y) Q 0 (j3_in0 (jm_ml jG y) as) [] σ := propext ⟨And.right, fun q => ⟨h, q⟩⟩
end J3GO
