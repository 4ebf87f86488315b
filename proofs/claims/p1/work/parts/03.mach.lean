/-! THE SMALL MACHINE. Its values are the machine's own, but a reference is the number of a cell (.ref k), or of a table that nobody writes (.retAddr j). Its cells have a shape (kind, sort, size): kind 0, 1, 2 an array of ints, bytes, booleans; kind 3 an object. A code is a list of instructions; jumps tell places in that list. -/
abbrev jm_S : Type := Bool × List (Nat × Nat × Nat) × (Nat → Nat → Value) × (Nat → Nat → Int32)
def jm_u1 {α : Type} (f : Nat → α) (k : Nat) (v : α) : Nat → α := fun j => if j = k then v else f j
def jm_row {α : Type} (f : Nat → Nat → α) (o : Nat) (g : Nat → α) : Nat → Nat → α := fun a => if a = o then g else f a
def jm_n (sh : List (Nat × Nat × Nat)) (o : Nat) : Nat := match sh[o]? with
  | some q => q.2.2
  | none => 0
def jm_pop (n : Nat) (st : List Value) : List Value × List Value := ((st.take n).reverse, st.drop n)
def jm_cv (ad rd : Nat → Nat) (v : Value) : Value := match v with
  | .ref k => .ref (ad k)
  | .retAddr j => .ref (rd j)
  | w => w
def jm_kd (t : ArrayType) : Nat := match t with
  | .int => 0
  | .byte => 1
  | .boolean => 2
  | _ => 9
def jm_c1 (c : ClassFile.Cond) (x : Int32) : Prop := match c with
  | .eq => x = 0
  | .ne => ¬ x = 0
  | .lt => x < 0
  | .ge => 0 ≤ x
  | .gt => 0 < x
  | .le => x ≤ 0
def jm_c2 (c : ClassFile.Cond) (x y : Int32) : Prop := match c with
  | .eq => x = y
  | .ne => ¬ x = y
  | .lt => x < y
  | .ge => y ≤ x
  | .gt => y < x
  | .le => x ≤ y
/-- what a method may answer -/
def jm_fr (rt : Option FieldType) (v : Int32) : Prop := match rt with
  | some .int => True
  | some .boolean => v = 0 ∨ v = 1
  | _ => False
abbrev jm_K : Type := Nat → List Value → List Value → jm_S → Nat → Nat → Prop
abbrev jm_P : Type := Option Value → jm_S → Prop
/-- the system: tables that nobody writes, sorts' sizes, fields' types; of a method: how many arguments, its sort, cells, slots, code, answer's type, locals -/
abbrev jm_G : Type := (Nat → Nat × (Nat → Int32)) × (Nat → Nat) × (Nat → Nat → FieldType) × (Nat → Nat × Nat × Nat × Nat) × (Nat → List Instr) × (Nat → Option FieldType) × (Nat → Nat)
def jm_ro (G : jm_G) : Nat → Nat × (Nat → Int32) := G.1
def jm_sz (G : jm_G) : Nat → Nat := G.2.1
def jm_ft (G : jm_G) : Nat → Nat → FieldType := G.2.2.1
def jm_ma (G : jm_G) (y : Nat) : Nat := (G.2.2.2.1 y).1
def jm_mk (G : jm_G) (y : Nat) : Nat := (G.2.2.2.1 y).2.1
def jm_mc (G : jm_G) (y : Nat) : Nat := (G.2.2.2.1 y).2.2.1
def jm_ms (G : jm_G) (y : Nat) : Nat := (G.2.2.2.1 y).2.2.2
def jm_co (G : jm_G) : Nat → List Instr := G.2.2.2.2.1
def jm_rt (G : jm_G) : Nat → Option FieldType := G.2.2.2.2.2.1
def jm_ml (G : jm_G) : Nat → Nat := G.2.2.2.2.2.2
/-- one instruction: K of what comes, or Rt of the answer -/
def jm_ins (G : jm_G) (C : Nat → List Value → jm_S → jm_P → Prop) (rt : Option FieldType) (K : jm_K) (Rt : jm_P) (i : Instr) (pc : Nat) (L st : List Value) (σ : jm_S) (b z : Nat) : Prop :=
  match i with
  | .iconst n => K (pc + 1) L (.int (Int32.ofInt n) :: st) σ b z
  | .aconst_null => K (pc + 1) L (.null :: st) σ b z
  | .iload i => match L[i]? with
    | some (.int v) => K (pc + 1) L (.int v :: st) σ b z
    | _ => False
  | .aload i => match L[i]? with
    | some (.ref o) => K (pc + 1) L (.ref o :: st) σ b z
    | some (.retAddr o) => K (pc + 1) L (.retAddr o :: st) σ b z
    | _ => False
  | .istore i => match st with
    | .int v :: st => i < L.length ∧ K (pc + 1) (L.set i (.int v)) st σ b z
    | _ => False
  | .astore i => match st with
    | .ref o :: st => i < L.length ∧ K (pc + 1) (L.set i (.ref o)) st σ b z
    | _ => False
  | .iinc i n => match L[i]? with
    | some (.int v) => K (pc + 1) (L.set i (.int (v + Int32.ofInt n))) st σ b z
    | _ => False
  | .iadd => match st with
    | .int y :: .int x :: st => K (pc + 1) L (.int (x + y) :: st) σ b z
    | _ => False
  | .isub => match st with
    | .int y :: .int x :: st => K (pc + 1) L (.int (x - y) :: st) σ b z
    | _ => False
  | .imul => match st with
    | .int y :: .int x :: st => K (pc + 1) L (.int (x * y) :: st) σ b z
    | _ => False
  | .iand => match st with
    | .int y :: .int x :: st => K (pc + 1) L (.int (x &&& y) :: st) σ b z
    | _ => False
  | .ior => match st with
    | .int y :: .int x :: st => K (pc + 1) L (.int (x ||| y) :: st) σ b z
    | _ => False
  | .idiv => match st with
    | .int y :: .int x :: st => ¬ y = 0 ∧ K (pc + 1) L (.int (x / y) :: st) σ b z
    | _ => False
  | .irem => match st with
    | .int y :: .int x :: st => ¬ y = 0 ∧ K (pc + 1) L (.int (x - x / y * y) :: st) σ b z
    | _ => False
  | .ishl => match st with
    | .int y :: .int x :: st => K (pc + 1) L (.int (x <<< (y &&& 31)) :: st) σ b z
    | _ => False
  | .ishr => match st with
    | .int y :: .int x :: st => K (pc + 1) L (.int (x >>> (y &&& 31)) :: st) σ b z
    | _ => False
  | .i2b => match st with
    | .int x :: st => K (pc + 1) L (.int x.toInt8.toInt32 :: st) σ b z
    | _ => False
  | .dup => match st with
    | v :: st => v.category = 1 ∧ K (pc + 1) L (v :: v :: st) σ b z
    | _ => False
  | .dup2 => match st with
    | v :: w :: st => v.category = 1 ∧ w.category = 1 ∧ K (pc + 1) L (v :: w :: v :: w :: st) σ b z
    | _ => False
  | .pop => match st with
    | v :: st => v.category = 1 ∧ K (pc + 1) L st σ b z
    | _ => False
  | .getfield e => match st with
    | .ref o :: st => σ.2.1[o]? = some (3, e / 1000, jm_sz G (e / 1000)) ∧ K (pc + 1) L (σ.2.2.1 o (e % 1000) :: st) σ b z
    | _ => False
  | .putfield e => match st with
    | v :: .ref o :: st => σ.2.1[o]? = some (3, e / 1000, jm_sz G (e / 1000)) ∧ fits (jm_ft G (e / 1000) (e % 1000)) v = true ∧ K (pc + 1) L st (σ.1, σ.2.1, jm_row σ.2.2.1 o (jm_u1 (σ.2.2.1 o) (e % 1000) v), σ.2.2.2) b z
    | _ => False
  | .putstatic e => match st with
    | v :: .ref o :: st => σ.2.1[o]? = some (3, e / 1000, jm_sz G (e / 1000)) ∧ fits (jm_ft G (e / 1000) (e % 1000)) v = true ∧ K (pc + 1) L st (σ.1, σ.2.1, jm_row σ.2.2.1 o (jm_u1 (σ.2.2.1 o) (e % 1000) v), σ.2.2.2) b z
    | _ => False
  | .iaload => match st with
    | .int i :: .ref o :: st => σ.2.1[o]? = some (0, 0, jm_n σ.2.1 o) ∧ vp_in i (jm_n σ.2.1 o) ∧ K (pc + 1) L (.int (σ.2.2.2 o i.toNatClampNeg) :: st) σ b z
    | .int i :: .retAddr j :: st => vp_in i (jm_ro G j).1 ∧ K (pc + 1) L (.int ((jm_ro G j).2 i.toNatClampNeg) :: st) σ b z
    | _ => False
  | .iastore => match st with
    | .int x :: .int i :: .ref o :: st => σ.2.1[o]? = some (0, 0, jm_n σ.2.1 o) ∧ vp_in i (jm_n σ.2.1 o) ∧ K (pc + 1) L st (σ.1, σ.2.1, σ.2.2.1, jm_row σ.2.2.2 o (upd (σ.2.2.2 o) i.toNatClampNeg x)) b z
    | _ => False
  | .baload => match st with
    | .int i :: .ref o :: st => (σ.2.1[o]? = some (1, 0, jm_n σ.2.1 o) ∨ σ.2.1[o]? = some (2, 0, jm_n σ.2.1 o)) ∧ vp_in i (jm_n σ.2.1 o) ∧ K (pc + 1) L (.int (σ.2.2.2 o i.toNatClampNeg) :: st) σ b z
    | _ => False
  | .bastore => match st with
    | .int x :: .int i :: .ref o :: st => ((σ.2.1[o]? = some (1, 0, jm_n σ.2.1 o) ∧ x.toInt8.toInt32 = x) ∨ (σ.2.1[o]? = some (2, 0, jm_n σ.2.1 o) ∧ (x = 0 ∨ x = 1))) ∧ vp_in i (jm_n σ.2.1 o) ∧ K (pc + 1) L st (false, σ.2.1, σ.2.2.1, jm_row σ.2.2.2 o (upd (σ.2.2.2 o) i.toNatClampNeg x)) b z
    | _ => False
  | .arraylength => match st with
    | .ref o :: st => (σ.2.1[o]? = some (0, 0, jm_n σ.2.1 o) ∨ σ.2.1[o]? = some (1, 0, jm_n σ.2.1 o)) ∧ K (pc + 1) L (.int (Int32.ofNat (jm_n σ.2.1 o)) :: st) σ b z
    | .retAddr j :: st => K (pc + 1) L (.int (Int32.ofNat (jm_ro G j).1) :: st) σ b z
    | _ => False
  | .getstatic j => K (pc + 1) L (.retAddr j :: st) σ b z
  | .new c => σ.1 = true ∧ 1 ≤ b ∧ jm_sz G c ≤ z ∧ K (pc + 1) L (.ref σ.2.1.length :: st) (σ.1, σ.2.1 ++ [(3, c, jm_sz G c)], jm_row σ.2.2.1 σ.2.1.length (fun k => defaultValue (jm_ft G c k)), σ.2.2.2) (b - 1) (z - jm_sz G c)
  | .newarray t => match st with
    | .int n :: st => σ.1 = true ∧ 1 ≤ b ∧ n.toNatClampNeg ≤ z ∧ ¬ n < 0 ∧ n.toNatClampNeg ≤ 1000000 ∧ jm_kd t ≤ 2 ∧ K (pc + 1) L (.ref σ.2.1.length :: st) (σ.1, σ.2.1 ++ [(jm_kd t, 0, n.toNatClampNeg)], σ.2.2.1, jm_row σ.2.2.2 σ.2.1.length (fun _ => 0)) (b - 1) (z - n.toNatClampNeg)
    | _ => False
  | .goto t => K t.toNat L st σ b z
  | .ifCond c t => match st with
    | .int x :: st => (jm_c1 c x → K t.toNat L st σ b z) ∧ (¬ jm_c1 c x → K (pc + 1) L st σ b z)
    | _ => False
  | .if_icmp c t => match st with
    | .int y :: .int x :: st => (jm_c2 c x y → K t.toNat L st σ b z) ∧ (¬ jm_c2 c x y → K (pc + 1) L st σ b z)
    | _ => False
  | .tableswitch d lo hi ts => match st with
    | .int x :: st => ((x.toInt < lo ∨ hi < x.toInt) → K d.toNat L st σ b z) ∧ (¬ x.toInt < lo → ¬ hi < x.toInt → K (ts.getD (x.toInt - lo).toNat 0).toNat L st σ b z)
    | _ => False
  | .lookupswitch d ps => match st with
    | .int x :: st => K (Op.lookupswitch.offset ps.toList d x.toInt).toNat L st σ b z
    | _ => False
  | .ireturn => match st with
    | [.int v] => jm_fr rt v ∧ Rt (some (.int v)) σ
    | _ => False
  | .return_ => match st with
    | [] => rt = none ∧ Rt none σ
    | _ => False
  | .invokevirtual y => match (jm_pop (jm_ma G y) st).2 with
    | .ref o :: rest => rest.length ≤ 4 ∧ jm_ma G y ≤ st.length ∧ σ.2.1[o]? = some (3, jm_mk G y, jm_sz G (jm_mk G y)) ∧ jm_mc G y ≤ b ∧ jm_ms G y ≤ z ∧ C y (.ref o :: (jm_pop (jm_ma G y) st).1) σ (fun r σ1 => K (pc + 1) L (r.toList ++ rest) σ1 (b - jm_mc G y) (z - jm_ms G y))
    | _ => False
  | .invokespecial y => match (jm_pop (jm_ma G y) st).2 with
    | .ref o :: rest => rest.length ≤ 4 ∧ jm_ma G y ≤ st.length ∧ jm_mc G y ≤ b ∧ jm_ms G y ≤ z ∧ C y (.ref o :: (jm_pop (jm_ma G y) st).1) σ (fun r σ1 => K (pc + 1) L (r.toList ++ rest) σ1 (b - jm_mc G y) (z - jm_ms G y))
    | _ => False
  | .invokestatic y => (jm_pop (jm_ma G y) st).2.length ≤ 4 ∧ jm_ma G y ≤ st.length ∧ jm_mc G y ≤ b ∧ jm_ms G y ≤ z ∧ C y (jm_pop (jm_ma G y) st).1 σ (fun r σ1 => K (pc + 1) L (r.toList ++ (jm_pop (jm_ma G y) st).2) σ1 (b - jm_mc G y) (z - jm_ms G y))
  | .invokedynamic 0 => match st with
    | .int y :: .int x :: rest => rest.length ≤ 4 ∧ K (pc + 1) L (.int (if x < y then y else x) :: rest) σ b z
    | _ => False
  | .invokedynamic 1 => match st with
    | .int n :: .int dp :: .ref o1 :: .int sp :: .ref o0 :: rest => rest.length ≤ 4 ∧ σ.2.1[o0]? = some (0, 0, jm_n σ.2.1 o0) ∧ σ.2.1[o1]? = some (0, 0, jm_n σ.2.1 o1) ∧ ¬ sp < 0 ∧ ¬ dp < 0 ∧ ¬ n < 0 ∧ sp.toNatClampNeg + n.toNatClampNeg ≤ jm_n σ.2.1 o0 ∧ dp.toNatClampNeg + n.toNatClampNeg ≤ jm_n σ.2.1 o1 ∧
      K (pc + 1) L rest (false, σ.2.1, σ.2.2.1, jm_row σ.2.2.2 o1 (va_cpy (σ.2.2.2 o0) (σ.2.2.2 o1) sp.toNatClampNeg dp.toNatClampNeg n.toNatClampNeg)) b z
    | _ => False
  | .invokedynamic 2 => match st with
    | .ref _ :: rest => rest.length ≤ 4 ∧ K (pc + 1) L rest σ b z
    | _ => False
  | _ => False
def jm_stp (G : jm_G) (C : Nat → List Value → jm_S → jm_P → Prop) (code : List Instr) (rt : Option FieldType) (K : jm_K) (Rt : jm_P) (pc : Nat) (L st : List Value) (σ : jm_S) (b z : Nat) : Prop := match code[pc]? with
  | some i => jm_ins G C rt K Rt i pc L st σ b z
  | none => False
def jm_ev (G : jm_G) (C : Nat → List Value → jm_S → jm_P → Prop) (code : List Instr) (rt : Option FieldType) (Rt : jm_P) : Nat → jm_K
  | 0 => fun _ _ _ _ _ _ => False
  | n + 1 => jm_stp G C code rt (jm_ev G C code rt Rt n) Rt
def jm_in0 (n : Nat) (as : List Value) : List Value := as ++ List.replicate (n - as.length) (.long 0)
def jm_call (G : jm_G) : Nat → Nat → List Value → jm_S → jm_P → Prop
  | 0 => fun _ _ _ _ => False
  | d + 1 => fun y as σ Q => as.length ≤ jm_ml G y ∧ (∀ v ∈ as, v.category = 1) ∧ ∃ n, jm_ev G (jm_call G d) (jm_co G y) (jm_rt G y) Q n 0 (jm_in0 (jm_ml G y) as) [] σ (jm_mc G y) (jm_ms G y)
