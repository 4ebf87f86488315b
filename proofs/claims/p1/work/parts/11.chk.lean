/-! a program that holds a printed code against the machine's bytes -/
def jm_nxt (P : List Nat) (i n : Nat) : Bool := P.getD (i + 1) 0 == P.getD i 0 + n
def jm_tgt (P : List Nat) (i : Nat) (off t : Int) : Bool := (P.getD i 0 : Int) + off == (P.getD t.toNat 0 : Int)
/-- the links' tables: fields (own, word, sort, place), constants, methods, new, static, max, copy, Object's; which fields are final; which methods are static, virtual, made by new -/
abbrev jm_X : Type := List (Nat × Nat × Nat × Nat) × List (Nat × Nat × Int) × List (Nat × Nat × Nat) × List (Nat × Nat × Nat) × List (Nat × Nat) × List (Nat × Nat) × List (Nat × Nat) × List (Nat × Nat) × (Nat → Nat → Bool) × (Nat → Nat)
def jm_ckr (T : jm_X) (o : Nat) (ini : Bool) (P : List Nat) (i : Nat) (r : Instr) (n : Nat) (ins : Instr) : Bool := match ins with
  | .nop => true
  | .iconst k => match r with
    | .iconst k' => k' == k && n == 1 && jm_nxt P i 1
    | .bipush k' => k' == k && n == 2 && jm_nxt P i 2 && (Int8.ofInt k).toInt32 == Int32.ofInt k
    | .sipush k' => k' == k && n == 3 && jm_nxt P i 3 && (Int16.ofInt k).toInt32 == Int32.ofInt k
    | .ldc j => n == 2 && jm_nxt P i 2 && T.2.1.contains (o, j, k)
    | .ldc_w j => n == 3 && jm_nxt P i 3 && T.2.1.contains (o, j, k)
    | _ => false
  | .iload k => match r with
    | .iload k' => k' == k && n == 2 && jm_nxt P i 2
    | .iload_n f => f.val == k && n == 1 && jm_nxt P i 1
    | _ => false
  | .aload k => match r with
    | .aload k' => k' == k && n == 2 && jm_nxt P i 2
    | .aload_n f => f.val == k && n == 1 && jm_nxt P i 1
    | _ => false
  | .istore k => match r with
    | .istore k' => k' == k && n == 2 && jm_nxt P i 2
    | .istore_n f => f.val == k && n == 1 && jm_nxt P i 1
    | _ => false
  | .astore k => match r with
    | .astore k' => k' == k && n == 2 && jm_nxt P i 2
    | .astore_n f => f.val == k && n == 1 && jm_nxt P i 1
    | _ => false
  | .iinc k m => match r with
    | .iinc k' m' => k' == k && m' == m && n == 3 && jm_nxt P i 3
    | _ => false
  | .getfield e => match r with
    | .getfield j => n == 3 && jm_nxt P i 3 && T.1.contains (o, j, e / 1000, e % 1000)
    | _ => false
  | .putfield e => match r with
    | .putfield j => n == 3 && jm_nxt P i 3 && T.1.contains (o, j, e / 1000, e % 1000) && (!(T.2.2.2.2.2.2.2.2.1 (e / 1000) (e % 1000)) || (ini && o == e / 1000))
    | _ => false
  | .getstatic k => match r with
    | .getstatic j => k == 0 && n == 3 && jm_nxt P i 3 && T.2.2.2.2.1.contains (o, j)
    | _ => false
  | .new q => match r with
    | .new j => n == 3 && jm_nxt P i 3 && T.2.2.2.1.contains (o, j, q)
    | _ => false
  | .newarray t => match r with
    | .newarray t' => decide (t' = t) && n == 2 && jm_nxt P i 2
    | _ => false
  | .goto t => match r with
    | .goto off => n == 3 && jm_tgt P i off t
    | _ => false
  | .ifCond f t => match r with
    | .ifCond f' off => decide (f' = f) && n == 3 && jm_nxt P i 3 && jm_tgt P i off t
    | _ => false
  | .if_icmp f t => match r with
    | .if_icmp f' off => decide (f' = f) && n == 3 && jm_nxt P i 3 && jm_tgt P i off t
    | _ => false
  | .tableswitch t lo hi ts => match r with
    | .tableswitch dd lo' hi' offs => lo' == lo && hi' == hi && jm_tgt P i dd t && (List.range (hi - lo + 1).toNat).all (fun k => match offs[k]? with
      | some off => jm_tgt P i off (ts.getD k 0)
      | none => false)
    | _ => false
  | .lookupswitch t ps => match r with
    | .lookupswitch dd offs => (offs.toList.zip (offs.toList.drop 1)).all (fun (a, next) => a.1 < next.1) && (offs.toList.map (fun w => (w.1, (P.getD i 0 : Int) + w.2)) == ps.toList.map (fun w => (w.1, (P.getD w.2.toNat 0 : Int)))) && jm_tgt P i dd t
    | _ => false
  | .ireturn => decide (r = .ireturn) && n == 1
  | .return_ => decide (r = .return_) && n == 1
  | .invokestatic y => match r with
    | .invokestatic j => n == 3 && jm_nxt P i 3 && T.2.2.1.contains (o, j, y) && T.2.2.2.2.2.2.2.2.2 y == 0
    | _ => false
  | .invokevirtual y => match r with
    | .invokevirtual j => n == 3 && jm_nxt P i 3 && T.2.2.1.contains (o, j, y) && T.2.2.2.2.2.2.2.2.2 y == 1
    | _ => false
  | .invokespecial y => match r with
    | .invokespecial j => n == 3 && jm_nxt P i 3 && T.2.2.1.contains (o, j, y) && T.2.2.2.2.2.2.2.2.2 y == 2
    | _ => false
  | .invokedynamic 0 => match r with
    | .invokestatic j => n == 3 && jm_nxt P i 3 && T.2.2.2.2.2.1.contains (o, j)
    | _ => false
  | .invokedynamic 1 => match r with
    | .invokestatic j => n == 3 && jm_nxt P i 3 && T.2.2.2.2.2.2.1.contains (o, j)
    | _ => false
  | .invokedynamic 2 => match r with
    | .invokespecial j => n == 3 && jm_nxt P i 3 && T.2.2.2.2.2.2.2.1.contains (o, j)
    | _ => false
  | .invokedynamic _ => false
  | .putstatic _ => false
  | w => decide (r = w) && n == 1 && jm_nxt P i 1
def jm_ckb (T : jm_X) (o : Nat) (ini : Bool) (B : ByteArray) (P : List Nat) (i : Nat) (ins : Instr) : Bool := match ins with
  | .nop => true
  | _ => match decode B (P.getD i 0) with
    | .ok (r, n) => jm_ckr T o ini P i r n ins
    | .error _ => false
/-- what the tables must say -/
def jm_Xo (G : jm_G) (U : jm_U) (T : jm_X) (R : Nat → String) : Prop :=
  (∀ q ∈ T.1, ∃ (C : String) (F : u_T) (N : Nat), (jm_cl U)[q.2.2.1]? = some (C, F, N) ∧ N = jm_sz G q.2.2.1 ∧ q.2.2.2 < N ∧ Cond.fieldLink (R q.1) q.2.1 C (F q.2.2.2).2.1 (F q.2.2.2).2.2.1 ∈ jm_tb U ∧ (F q.2.2.2).1 = C ∧ (F q.2.2.2).2.2.2 = T.2.2.2.2.2.2.2.2.1 q.2.2.1 q.2.2.2 ∧ C = R q.2.2.1 ∧ (jm_ft G q.2.2.1 q.2.2.2 = .int ∨ jm_ft G q.2.2.1 q.2.2.2 = .boolean ∨ (∃ C, jm_ft G q.2.2.1 q.2.2.2 = .object C) ∨ ∃ t', jm_ft G q.2.2.1 q.2.2.2 = .array t')) ∧
  (∀ q ∈ T.2.1, Cond.constant (R q.1) q.2.1 (Int32.ofInt q.2.2) ∈ jm_tb U) ∧
  (∀ q ∈ T.2.2.1, q.2.2 < jm_nM U ∧ (Cond.methodLink (R q.1) q.2.1 (jm_nm U q.2.2) ∈ jm_tb U ∨ ∃ host : String, Cond.methodLinkNest (R q.1) q.2.1 (jm_nm U q.2.2) host ∈ jm_nw U)) ∧
  (∀ q ∈ T.2.2.2.1, ∃ (C : String) (F : u_T) (N : Nat), (jm_cl U)[q.2.2]? = some (C, F, N) ∧ N = jm_sz G q.2.2 ∧ Cond.classLink (R q.1) q.2.1 C ∈ jm_tb U ∧ Cond.instantiable C N ∈ jm_tb U ∧ Cond.initialized C ∈ jm_tb U) ∧
  (∀ q ∈ T.2.2.2.2.1, Cond.fieldLinkNest (R q.1) q.2 "ShrinkHouse" "TELLS" "[I" "ShrinkHouse" ∈ jm_nw U) ∧
  (∀ q ∈ T.2.2.2.2.2.1, Cond.methodLink (R q.1) q.2 Lib.Math.max.name ∈ jm_tb U ∧ Cond.static Lib.Math.max.name ∈ jm_tb U ∧ Cond.initialized "java/lang/Math" ∈ jm_tb U ∧ Cond.code Lib.Math.max.name Lib.Math.max.code 2 (some .int) ∈ jm_tb U) ∧
  (∀ q ∈ T.2.2.2.2.2.2.1, Cond.methodLink (R q.1) q.2 arraycopyName ∈ jm_tb U ∧ Cond.native arraycopyName ∈ jm_tb U ∧ Cond.static arraycopyName ∈ jm_tb U ∧ Cond.initialized "java/lang/System" ∈ jm_tb U) ∧
  (∀ q ∈ T.2.2.2.2.2.2.2.1, Cond.methodLink (R q.1) q.2 Lib.objectInit ∈ jm_tb U ∧ Cond.instanceMethod Lib.objectInit ∈ jm_tb U ∧ Cond.code Lib.objectInit ⟨#[0xb1]⟩ 1 none ∈ jm_tb U) ∧
  (∀ t : ArrayType, jm_kd t ≤ 2 → Cond.arrayClass (newarray.typeOf t) ∈ jm_tb U) ∧
  (∀ y, y < jm_nM U → (T.2.2.2.2.2.2.2.2.2 y = 0 → Cond.static (jm_nm U y) ∈ jm_tb U) ∧ (T.2.2.2.2.2.2.2.2.2 y = 1 → Cond.instanceMethod (jm_nm U y) ∈ jm_tb U ∧ Cond.selects (jm_nm U y).cls (jm_nm U y) (jm_nm U y) ∈ jm_tb U ∧ ∃ F : u_T, (jm_cl U)[jm_mk G y]? = some ((jm_nm U y).cls, F, jm_sz G (jm_mk G y))) ∧ (T.2.2.2.2.2.2.2.2.2 y = 2 → Cond.instanceMethod (jm_nm U y) ∈ jm_tb U ∧ (jm_nm U y).name = "<init>" ∧ jm_rt G y = none))
section JMCHK
variable {G : jm_G} {U : jm_U} {T : jm_X} {R : Nat → String} {y o i : Nat} {ini : Bool}
theorem jm_nxt_ok {r : Instr} {n : Nat} (hd : decode (jm_bt U y) (jm_ps U y i) = .ok (r, n)) (h : jm_nxt (U.2.2.1 y) i n = true) : jm_sm U y i r n := ⟨hd, by simpa [jm_nxt] using h⟩
theorem jm_tgt_ok {off t : Int} (h : jm_tgt (U.2.2.1 y) i off t = true) : (jm_ps U y i : Int) + off = (jm_ps U y t.toNat : Int) := by simpa [jm_tgt] using h
set_option maxHeartbeats 4000000 in
theorem jm_ck_ok (hX : jm_Xo G U T R) (ho : (jm_nm U y).cls = R o) (hini : ini = true → (jm_nm U y).name = "<init>") {ins : Instr} (hna : ∀ t, ins = .newarray t → jm_kd t ≤ 2) (h : jm_ckb T o ini (jm_bt U y) (U.2.2.1 y) i ins = true) : jm_ok G U y i ins := by
  obtain ⟨x1, x2, x3, x4, x5, x6, x7, x8, x9, x10⟩ := hX
  by_cases hnop : ins = .nop
  · subst hnop; trivial
  have h' : ∃ r n, decode (jm_bt U y) (jm_ps U y i) = .ok (r, n) ∧ jm_ckr T o ini (U.2.2.1 y) i r n ins = true := by
    have : (match decode (jm_bt U y) (jm_ps U y i) with
      | .ok (r, n) => jm_ckr T o ini (U.2.2.1 y) i r n ins
      | .error _ => false) = true := by
      cases ins <;> first | exact absurd rfl hnop | exact h
    revert this
    cases decode (jm_bt U y) (jm_ps U y i) with
    | error e => intro q; cases q
    | ok q => intro g; exact ⟨q.1, q.2, rfl, g⟩
  obtain ⟨r, n, hd, hc⟩ := h'
  cases ins
  case nop => trivial
  case iconst k =>
    cases r <;> simp only [jm_ckr, Bool.and_eq_true, beq_iff_eq, Bool.false_eq_true, List.contains_iff_mem, decide_eq_true_eq] at hc
    case bipush k' =>
      obtain ⟨⟨⟨rfl, rfl⟩, q⟩, g⟩ := hc
      exact Or.inr (Or.inl ⟨jm_nxt_ok hd q, g⟩)
    case iconst k' =>
      obtain ⟨⟨rfl, rfl⟩, q⟩ := hc
      exact Or.inl (jm_nxt_ok hd q)
    case ldc j =>
      obtain ⟨⟨rfl, q⟩, g⟩ := hc
      exact Or.inr (Or.inr (Or.inr ⟨j, Or.inl (jm_nxt_ok hd q), by rw [ho]; exact x2 _ g⟩))
    case ldc_w j =>
      obtain ⟨⟨rfl, q⟩, g⟩ := hc
      exact Or.inr (Or.inr (Or.inr ⟨j, Or.inr (jm_nxt_ok hd q), by rw [ho]; exact x2 _ g⟩))
    case sipush k' =>
      obtain ⟨⟨⟨rfl, rfl⟩, q⟩, g⟩ := hc
      exact Or.inr (Or.inr (Or.inl ⟨jm_nxt_ok hd q, g⟩))
  case iload k =>
    cases r <;> simp only [jm_ckr, Bool.and_eq_true, beq_iff_eq, Bool.false_eq_true, List.contains_iff_mem, decide_eq_true_eq] at hc
    case iload k' =>
      obtain ⟨⟨rfl, rfl⟩, q⟩ := hc
      exact Or.inl (jm_nxt_ok hd q)
    case iload_n f =>
      obtain ⟨⟨g, rfl⟩, q⟩ := hc
      exact Or.inr ⟨f, g, jm_nxt_ok hd q⟩
  case aload k =>
    cases r <;> simp only [jm_ckr, Bool.and_eq_true, beq_iff_eq, Bool.false_eq_true, List.contains_iff_mem, decide_eq_true_eq] at hc
    case aload k' =>
      obtain ⟨⟨rfl, rfl⟩, q⟩ := hc
      exact Or.inl (jm_nxt_ok hd q)
    case aload_n f =>
      obtain ⟨⟨g, rfl⟩, q⟩ := hc
      exact Or.inr ⟨f, g, jm_nxt_ok hd q⟩
  case istore k =>
    cases r <;> simp only [jm_ckr, Bool.and_eq_true, beq_iff_eq, Bool.false_eq_true, List.contains_iff_mem, decide_eq_true_eq] at hc
    case istore k' =>
      obtain ⟨⟨rfl, rfl⟩, q⟩ := hc
      exact Or.inl (jm_nxt_ok hd q)
    case istore_n f =>
      obtain ⟨⟨g, rfl⟩, q⟩ := hc
      exact Or.inr ⟨f, g, jm_nxt_ok hd q⟩
  case astore k =>
    cases r <;> simp only [jm_ckr, Bool.and_eq_true, beq_iff_eq, Bool.false_eq_true, List.contains_iff_mem, decide_eq_true_eq] at hc
    case astore k' =>
      obtain ⟨⟨rfl, rfl⟩, q⟩ := hc
      exact Or.inl (jm_nxt_ok hd q)
    case astore_n f =>
      obtain ⟨⟨g, rfl⟩, q⟩ := hc
      exact Or.inr ⟨f, g, jm_nxt_ok hd q⟩
  case iinc k w =>
    cases r <;> simp only [jm_ckr, Bool.and_eq_true, beq_iff_eq, Bool.false_eq_true, List.contains_iff_mem, decide_eq_true_eq] at hc
    case iinc k' w' =>
      obtain ⟨⟨⟨rfl, rfl⟩, rfl⟩, q⟩ := hc
      exact jm_nxt_ok hd q
  case getfield e =>
    cases r <;> simp only [jm_ckr, Bool.and_eq_true, beq_iff_eq, Bool.false_eq_true, List.contains_iff_mem, decide_eq_true_eq] at hc
    case getfield j =>
      obtain ⟨⟨rfl, q⟩, g⟩ := hc
      obtain ⟨C, F, N, a1, a2, a3, a4, a5, a6, a7, a8⟩ := x1 _ g
      exact ⟨j, jm_nxt_ok hd q, C, F, N, a1, a2, a3, by rw [ho]; exact a4, a5, Or.inr (Or.inl rfl)⟩
  case putfield e =>
    cases r <;> simp only [jm_ckr, Bool.and_eq_true, beq_iff_eq, Bool.false_eq_true, List.contains_iff_mem, decide_eq_true_eq] at hc
    case putfield j =>
      obtain ⟨⟨⟨rfl, q⟩, g⟩, g2⟩ := hc
      obtain ⟨C, F, N, a1, a2, a3, a4, a5, a6, a7, a8⟩ := x1 _ g
      refine ⟨j, jm_nxt_ok hd q, ⟨C, F, N, a1, a2, a3, by rw [ho]; exact a4, a5, ?_⟩, a8⟩
      simp only [Bool.or_eq_true, Bool.not_eq_true', Bool.and_eq_true, beq_iff_eq] at g2
      rcases g2 with g2 | ⟨g2, g3⟩
      · exact Or.inl (a6.trans g2)
      · by_cases hf : (F (e % 1000)).2.2.2 = false
        · exact Or.inl hf
        · exact Or.inr (Or.inr ⟨by simpa using hf, hini g2, by rw [ho, g3]; exact a7⟩)
  case getstatic k =>
    cases r <;> simp only [jm_ckr, Bool.and_eq_true, beq_iff_eq, Bool.false_eq_true, List.contains_iff_mem, decide_eq_true_eq] at hc
    case getstatic j =>
      obtain ⟨⟨⟨rfl, rfl⟩, q⟩, g⟩ := hc
      exact ⟨rfl, j, jm_nxt_ok hd q, by rw [ho]; exact x5 _ g⟩
  case new k =>
    cases r <;> simp only [jm_ckr, Bool.and_eq_true, beq_iff_eq, Bool.false_eq_true, List.contains_iff_mem, decide_eq_true_eq] at hc
    case new j =>
      obtain ⟨⟨rfl, q⟩, g⟩ := hc
      obtain ⟨C, F, N, a1, a2, a3, a4, a5⟩ := x4 _ g
      exact ⟨j, jm_nxt_ok hd q, C, F, N, a1, a2, by rw [ho]; exact a3, a4, a5⟩
  case newarray w =>
    cases r <;> simp only [jm_ckr, Bool.and_eq_true, beq_iff_eq, Bool.false_eq_true, List.contains_iff_mem, decide_eq_true_eq] at hc
    case newarray w' =>
      obtain ⟨⟨rfl, rfl⟩, q⟩ := hc
      exact ⟨jm_nxt_ok hd q, x9 _ (hna _ rfl)⟩
  case goto w =>
    cases r <;> simp only [jm_ckr, Bool.and_eq_true, beq_iff_eq, Bool.false_eq_true, List.contains_iff_mem, decide_eq_true_eq] at hc
    case goto off =>
      obtain ⟨rfl, q⟩ := hc
      exact ⟨off, hd, jm_tgt_ok q⟩
  case ifCond f w =>
    cases r <;> simp only [jm_ckr, Bool.and_eq_true, beq_iff_eq, Bool.false_eq_true, List.contains_iff_mem, decide_eq_true_eq] at hc
    case ifCond f' off =>
      obtain ⟨⟨⟨rfl, rfl⟩, q⟩, g⟩ := hc
      exact ⟨off, jm_nxt_ok hd q, jm_tgt_ok g⟩
  case if_icmp f w =>
    cases r <;> simp only [jm_ckr, Bool.and_eq_true, beq_iff_eq, Bool.false_eq_true, List.contains_iff_mem, decide_eq_true_eq] at hc
    case if_icmp f' off =>
      obtain ⟨⟨⟨rfl, rfl⟩, q⟩, g⟩ := hc
      exact ⟨off, jm_nxt_ok hd q, jm_tgt_ok g⟩
  case tableswitch w lo hi ts =>
    cases r <;> simp only [jm_ckr, Bool.and_eq_true, beq_iff_eq, Bool.false_eq_true, List.contains_iff_mem, decide_eq_true_eq] at hc
    case tableswitch dd lo' hi' offs =>
      obtain ⟨⟨⟨rfl, rfl⟩, q⟩, g⟩ := hc
      refine ⟨dd, offs, n, hd, jm_tgt_ok q, fun k hk => ?_⟩
      have := List.all_eq_true.mp g k (List.mem_range.mpr hk)
      split at this
      · rename_i off hoff
        exact ⟨off, hoff, jm_tgt_ok this⟩
      · cases this
  case lookupswitch w ps =>
    cases r <;> simp only [jm_ckr, Bool.and_eq_true, beq_iff_eq, Bool.false_eq_true, List.contains_iff_mem, decide_eq_true_eq] at hc
    case lookupswitch dd offs =>
      obtain ⟨⟨q, g⟩, g2⟩ := hc
      exact ⟨dd, offs, n, hd, q, g, jm_tgt_ok g2⟩
  case ireturn =>
    simp only [jm_ckr, Bool.and_eq_true, beq_iff_eq, Bool.false_eq_true, List.contains_iff_mem, decide_eq_true_eq] at hc
    obtain ⟨rfl, rfl⟩ := hc
    exact hd
  case return_ =>
    simp only [jm_ckr, Bool.and_eq_true, beq_iff_eq, Bool.false_eq_true, List.contains_iff_mem, decide_eq_true_eq] at hc
    obtain ⟨rfl, rfl⟩ := hc
    exact hd
  case invokestatic y' =>
    cases r <;> simp only [jm_ckr, Bool.and_eq_true, beq_iff_eq, Bool.false_eq_true, List.contains_iff_mem, decide_eq_true_eq] at hc
    case invokestatic j =>
      obtain ⟨⟨⟨rfl, q⟩, g⟩, g2⟩ := hc
      have a := x3 _ g
      exact ⟨a.1, j, jm_nxt_ok hd q, by unfold jm_lk; rw [ho]; exact a.2, (x10 _ a.1).1 g2⟩
  case invokevirtual y' =>
    cases r <;> simp only [jm_ckr, Bool.and_eq_true, beq_iff_eq, Bool.false_eq_true, List.contains_iff_mem, decide_eq_true_eq] at hc
    case invokevirtual j =>
      obtain ⟨⟨⟨rfl, q⟩, g⟩, g2⟩ := hc
      have a := x3 _ g
      exact ⟨a.1, j, jm_nxt_ok hd q, by unfold jm_lk; rw [ho]; exact a.2, (x10 _ a.1).2.1 g2⟩
  case invokespecial y' =>
    cases r <;> simp only [jm_ckr, Bool.and_eq_true, beq_iff_eq, Bool.false_eq_true, List.contains_iff_mem, decide_eq_true_eq] at hc
    case invokespecial j =>
      obtain ⟨⟨⟨rfl, q⟩, g⟩, g2⟩ := hc
      have a := x3 _ g
      exact ⟨a.1, j, jm_nxt_ok hd q, by unfold jm_lk; rw [ho]; exact a.2, (x10 _ a.1).2.2 g2⟩
  case invokedynamic k =>
    match k, hc with
    | 0, hc =>
      cases r <;> simp only [jm_ckr, Bool.and_eq_true, beq_iff_eq, Bool.false_eq_true, List.contains_iff_mem, decide_eq_true_eq] at hc
      case invokestatic j =>
        obtain ⟨⟨rfl, q⟩, g⟩ := hc
        exact ⟨_, jm_nxt_ok hd q, by rw [ho]; exact x6 _ g⟩
    | 1, hc =>
      cases r <;> simp only [jm_ckr, Bool.and_eq_true, beq_iff_eq, Bool.false_eq_true, List.contains_iff_mem, decide_eq_true_eq] at hc
      case invokestatic j =>
        obtain ⟨⟨rfl, q⟩, g⟩ := hc
        exact ⟨_, jm_nxt_ok hd q, by rw [ho]; exact x7 _ g⟩
    | 2, hc =>
      cases r <;> simp only [jm_ckr, Bool.and_eq_true, beq_iff_eq, Bool.false_eq_true, List.contains_iff_mem, decide_eq_true_eq] at hc
      case invokespecial j =>
        obtain ⟨⟨rfl, q⟩, g⟩ := hc
        exact ⟨_, jm_nxt_ok hd q, by rw [ho]; exact x8 _ g⟩
    | k + 3, hc => simp [jm_ckr] at hc
  case putstatic k => simp [jm_ckr] at hc
  all_goals
    simp only [jm_ckr, Bool.and_eq_true, beq_iff_eq, Bool.false_eq_true, List.contains_iff_mem, decide_eq_true_eq] at hc
    obtain ⟨⟨rfl, rfl⟩, q⟩ := hc
    exact jm_nxt_ok hd q
end JMCHK
