/-! what the printed code says runs on the machine -/
/-- place i of method y: the small machine's instruction is the machine's -/
def jm_ok (G : jm_G) (U : jm_U) (y i : Nat) (ins : Instr) : Prop := match ins with
  | .iconst n => jm_sm U y i (.iconst n) 1 ∨ (jm_sm U y i (.bipush n) 2 ∧ (Int8.ofInt n).toInt32 = Int32.ofInt n) ∨ (jm_sm U y i (.sipush n) 3 ∧ (Int16.ofInt n).toInt32 = Int32.ofInt n) ∨ ∃ j, (jm_sm U y i (.ldc j) 2 ∨ jm_sm U y i (.ldc_w j) 3) ∧ Cond.constant (jm_nm U y).cls j (Int32.ofInt n) ∈ jm_tb U
  | .iload k => jm_sm U y i (.iload k) 2 ∨ ∃ f : Fin 4, f.val = k ∧ jm_sm U y i (.iload_n f) 1
  | .aload k => jm_sm U y i (.aload k) 2 ∨ ∃ f : Fin 4, f.val = k ∧ jm_sm U y i (.aload_n f) 1
  | .istore k => jm_sm U y i (.istore k) 2 ∨ ∃ f : Fin 4, f.val = k ∧ jm_sm U y i (.istore_n f) 1
  | .astore k => jm_sm U y i (.astore k) 2 ∨ ∃ f : Fin 4, f.val = k ∧ jm_sm U y i (.astore_n f) 1
  | .iinc k n => jm_sm U y i (.iinc k n) 3
  | .getfield e => ∃ j, jm_sm U y i (.getfield j) 3 ∧ jm_fl G U y j (e / 1000) (e % 1000) true
  | .putfield e => ∃ j, jm_sm U y i (.putfield j) 3 ∧ jm_fl G U y j (e / 1000) (e % 1000) false ∧ (jm_ft G (e / 1000) (e % 1000) = .int ∨ jm_ft G (e / 1000) (e % 1000) = .boolean ∨ (∃ C, jm_ft G (e / 1000) (e % 1000) = .object C) ∨ ∃ t', jm_ft G (e / 1000) (e % 1000) = .array t')
  | .getstatic j => j = 0 ∧ ∃ j, jm_sm U y i (.getstatic j) 3 ∧ Cond.fieldLinkNest (jm_nm U y).cls j "ShrinkHouse" "TELLS" "[I" "ShrinkHouse" ∈ jm_nw U
  | .new q => ∃ j, jm_sm U y i (.new j) 3 ∧ ∃ (C : String) (T : u_T) (N : Nat), (jm_cl U)[q]? = some (C, T, N) ∧ N = jm_sz G q ∧ Cond.classLink (jm_nm U y).cls j C ∈ jm_tb U ∧ Cond.instantiable C N ∈ jm_tb U ∧ Cond.initialized C ∈ jm_tb U
  | .newarray t => jm_sm U y i (.newarray t) 2 ∧ Cond.arrayClass (newarray.typeOf t) ∈ jm_tb U
  | .goto t => ∃ off, decode (jm_bt U y) (jm_ps U y i) = .ok (.goto off, 3) ∧ (jm_ps U y i : Int) + off = (jm_ps U y t.toNat : Int)
  | .ifCond f t => ∃ off, jm_sm U y i (.ifCond f off) 3 ∧ (jm_ps U y i : Int) + off = (jm_ps U y t.toNat : Int)
  | .if_icmp f t => ∃ off, jm_sm U y i (.if_icmp f off) 3 ∧ (jm_ps U y i : Int) + off = (jm_ps U y t.toNat : Int)
  | .tableswitch t lo hi ts => ∃ dd offs n, decode (jm_bt U y) (jm_ps U y i) = .ok (.tableswitch dd lo hi offs, n) ∧ (jm_ps U y i : Int) + dd = (jm_ps U y t.toNat : Int) ∧ ∀ k, k < (hi - lo + 1).toNat → ∃ off, offs[k]? = some off ∧ (jm_ps U y i : Int) + off = (jm_ps U y (ts.getD k 0).toNat : Int)
  | .ireturn => decode (jm_bt U y) (jm_ps U y i) = .ok (.ireturn, 1)
  | .return_ => decode (jm_bt U y) (jm_ps U y i) = .ok (.return_, 1)
  | .invokestatic y' => y' < jm_nM U ∧ ∃ j, jm_sm U y i (.invokestatic j) 3 ∧ jm_lk U y j y' ∧ Cond.static (jm_nm U y') ∈ jm_tb U
  | .invokevirtual y' => y' < jm_nM U ∧ ∃ j, jm_sm U y i (.invokevirtual j) 3 ∧ jm_lk U y j y' ∧ Cond.instanceMethod (jm_nm U y') ∈ jm_tb U ∧ Cond.selects (jm_nm U y').cls (jm_nm U y') (jm_nm U y') ∈ jm_tb U ∧ ∃ T : u_T, (jm_cl U)[jm_mk G y']? = some ((jm_nm U y').cls, T, jm_sz G (jm_mk G y'))
  | .invokespecial y' => y' < jm_nM U ∧ ∃ j, jm_sm U y i (.invokespecial j) 3 ∧ jm_lk U y j y' ∧ Cond.instanceMethod (jm_nm U y') ∈ jm_tb U ∧ (jm_nm U y').name = "<init>" ∧ jm_rt G y' = none
  | .invokedynamic 0 => ∃ j, jm_sm U y i (.invokestatic j) 3 ∧ Cond.methodLink (jm_nm U y).cls j Lib.Math.max.name ∈ jm_tb U ∧ Cond.static Lib.Math.max.name ∈ jm_tb U ∧ Cond.initialized "java/lang/Math" ∈ jm_tb U ∧ Cond.code Lib.Math.max.name Lib.Math.max.code 2 (some .int) ∈ jm_tb U
  | .invokedynamic 1 => ∃ j, jm_sm U y i (.invokestatic j) 3 ∧ Cond.methodLink (jm_nm U y).cls j arraycopyName ∈ jm_tb U ∧ Cond.native arraycopyName ∈ jm_tb U ∧ Cond.static arraycopyName ∈ jm_tb U ∧ Cond.initialized "java/lang/System" ∈ jm_tb U
  | .invokedynamic 2 => ∃ j, jm_sm U y i (.invokespecial j) 3 ∧ Cond.methodLink (jm_nm U y).cls j Lib.objectInit ∈ jm_tb U ∧ Cond.instanceMethod Lib.objectInit ∈ jm_tb U ∧ Cond.code Lib.objectInit ⟨#[0xb1]⟩ 1 none ∈ jm_tb U
  | .lookupswitch t ps => ∃ dd offs n, decode (jm_bt U y) (jm_ps U y i) = .ok (.lookupswitch dd offs, n) ∧ (offs.toList.zip (offs.toList.drop 1)).all (fun (a, next) => a.1 < next.1) = true ∧ offs.toList.map (fun w => (w.1, (jm_ps U y i : Int) + w.2)) = ps.toList.map (fun w => (w.1, (jm_ps U y w.2.toNat : Int))) ∧ (jm_ps U y i : Int) + dd = (jm_ps U y t.toNat : Int)
  | .nop => True
  | .putstatic _ => False
  | w => jm_sm U y i w 1
section JMSIM
variable {G : jm_G} {U : jm_U} {V : jm_V} {p : Program} {l : Launch} {e : Env} {R : Room} {s : State} {m : MethodId} {args : Array Value} {below : List Frame} {meth : Method} {c : Code} {Q : State → Prop} {y d pc : Nat} {L st : List Value} {σ : jm_S} {b z : Nat}
set_option maxHeartbeats 2000000 in
theorem jm_one (X : jm_Cx G U V p s m args meth c R y d) (hso : jm_so G U) (htg : jm_tg U) (hng : jm_ng U) (hmo : ∀ y', y' < jm_nM U → jm_mo G U y') (had : ∀ k, jm_ad V (k + 1) = jm_ad V k + 1) {C : Nat → List Value → jm_S → jm_P → Prop} (hC : ∀ y' as σ post, y' < jm_nM U → C y' as σ post → jm_Met l G U d y' as σ post) {K : jm_K} {post : jm_P} {Q : State → Prop} (hQ : (∀ r σ, ¬ post r σ) ∨ Q = (MQ below (jm_Q U V post) args s (jm_mc G y) (jm_ms G y) (jm_A V))) (hK : ∀ pc L st σ b z, K pc L st σ b z → jm_WS G U V p l e R s m args below meth c Q y pc L st σ b z)
    (ins : Instr) (hok : jm_ok G U y pc ins) (h : jm_ins G C (jm_rt G y) K post ins pc L st σ b z) : jm_WS G U V p l e R s m args below meth c Q y pc L st σ b z := by
  cases ins <;> first | exact h.elim | skip
  case iconst n =>
    rcases hok with q | ⟨q, g⟩ | ⟨q, g⟩ | ⟨j, q | q, g⟩
    · exact jm_s_iconst X q (hK _ _ _ _ _ _ h)
    · exact jm_s_bipush X q g (hK _ _ _ _ _ _ h)
    · exact jm_s_sipush X q g (hK _ _ _ _ _ _ h)
    · exact jm_s_ldc X q g (hK _ _ _ _ _ _ h)
    · exact jm_s_ldcw X q g (hK _ _ _ _ _ _ h)
  case aconst_null => exact jm_s_null X hok (hK _ _ _ _ _ _ h)
  case iload k =>
    simp only [jm_ins] at h
    split at h
    · rename_i v hv
      exact jm_s_iload X hok hv (hK _ _ _ _ _ _ h)
    · exact h.elim
  case aload k =>
    simp only [jm_ins] at h
    split at h
    · rename_i v hv
      exact jm_s_aload X hok hv rfl rfl (hK _ _ _ _ _ _ h)
    · rename_i v hv
      exact jm_s_aload X hok hv rfl rfl (hK _ _ _ _ _ _ h)
    · exact h.elim
  case istore k =>
    simp only [jm_ins] at h
    split at h
    · exact jm_s_istore X hok h.1 (hK _ _ _ _ _ _ h.2)
    · exact h.elim
  case astore k =>
    simp only [jm_ins] at h
    split at h
    · exact jm_s_astore X hok h.1 (hK _ _ _ _ _ _ h.2)
    · exact h.elim
  case iinc k n =>
    simp only [jm_ins] at h
    split at h
    · rename_i v hv
      exact jm_s_iinc X hok hv (hK _ _ _ _ _ _ h)
    · exact h.elim
  case iadd =>
    simp only [jm_ins] at h
    split at h
    · exact jm_s_iadd X hok (hK _ _ _ _ _ _ h)
    · exact h.elim
  case isub =>
    simp only [jm_ins] at h
    split at h
    · exact jm_s_isub X hok (hK _ _ _ _ _ _ h)
    · exact h.elim
  case imul =>
    simp only [jm_ins] at h
    split at h
    · exact jm_s_imul X hok (hK _ _ _ _ _ _ h)
    · exact h.elim
  case iand =>
    simp only [jm_ins] at h
    split at h
    · exact jm_s_iand X hok (hK _ _ _ _ _ _ h)
    · exact h.elim
  case ior =>
    simp only [jm_ins] at h
    split at h
    · exact jm_s_ior X hok (hK _ _ _ _ _ _ h)
    · exact h.elim
  case idiv =>
    simp only [jm_ins] at h
    split at h
    · exact jm_s_idiv X hok h.1 (hK _ _ _ _ _ _ h.2)
    · exact h.elim
  case irem =>
    simp only [jm_ins] at h
    split at h
    · exact jm_s_irem X hok h.1 (hK _ _ _ _ _ _ h.2)
    · exact h.elim
  case ishl =>
    simp only [jm_ins] at h
    split at h
    · exact jm_s_ishl X hok (hK _ _ _ _ _ _ h)
    · exact h.elim
  case ishr =>
    simp only [jm_ins] at h
    split at h
    · exact jm_s_ishr X hok (hK _ _ _ _ _ _ h)
    · exact h.elim
  case i2b =>
    simp only [jm_ins] at h
    split at h
    · exact jm_s_i2b X hok (hK _ _ _ _ _ _ h)
    · exact h.elim
  case dup =>
    simp only [jm_ins] at h
    split at h
    · exact jm_s_dup X hok h.1 (hK _ _ _ _ _ _ h.2)
    · exact h.elim
  case dup2 =>
    simp only [jm_ins] at h
    split at h
    · exact jm_s_dup2 X hok h.1 h.2.1 (hK _ _ _ _ _ _ h.2.2)
    · exact h.elim
  case pop =>
    simp only [jm_ins] at h
    split at h
    · exact jm_s_pop X hok h.1 (hK _ _ _ _ _ _ h.2)
    · exact h.elim
  case getfield e =>
    simp only [jm_ins] at h
    obtain ⟨j, q, g⟩ := hok
    split at h
    · exact jm_s_get X hso q g h.1 (hK _ _ _ _ _ _ h.2)
    · exact h.elim
  case putfield e =>
    simp only [jm_ins] at h
    obtain ⟨j, q, g, g2⟩ := hok
    split at h
    · exact jm_s_put X hso q g g2 h.1 h.2.1 (hK _ _ _ _ _ _ h.2.2)
    · exact h.elim
  case putstatic e => exact hok.elim
  case iaload =>
    simp only [jm_ins] at h
    split at h
    · exact jm_s_iald X hok h.1 h.2.1 (hK _ _ _ _ _ _ h.2.2)
    · exact jm_s_tald X hok h.1 (hK _ _ _ _ _ _ h.2)
    · exact h.elim
  case iastore =>
    simp only [jm_ins] at h
    split at h
    · exact jm_s_iast X hok h.1 h.2.1 (hK _ _ _ _ _ _ h.2.2)
    · exact h.elim
  case baload =>
    simp only [jm_ins] at h
    split at h
    · exact jm_s_bald X hok h.1 h.2.1 (hK _ _ _ _ _ _ h.2.2)
    · exact h.elim
  case bastore =>
    simp only [jm_ins] at h
    split at h
    · exact jm_s_bast X hok h.1 h.2.1 (hK _ _ _ _ _ _ h.2.2)
    · exact h.elim
  case arraylength =>
    simp only [jm_ins] at h
    split at h
    · exact jm_s_alen X hok h.1 (hK _ _ _ _ _ _ h.2)
    · exact jm_s_tlen X hok (hK _ _ _ _ _ _ h)
    · exact h.elim
  case getstatic j =>
    obtain ⟨rfl, j, q, g⟩ := hok
    exact jm_s_gets X q g (hK _ _ _ _ _ _ h)
  case new q =>
    obtain ⟨j, q, g⟩ := hok
    exact jm_s_new X hso q g had h.1 h.2.1 h.2.2.1 (hK _ _ _ _ _ _ h.2.2.2)
  case newarray t =>
    simp only [jm_ins] at h
    split at h
    · exact jm_s_newa X hok.1 h.2.2.2.2.2.1 hok.2 had h.1 h.2.1 h.2.2.1 h.2.2.2.1 h.2.2.2.2.1 (hK _ _ _ _ _ _ h.2.2.2.2.2.2)
    · exact h.elim
  case goto t =>
    obtain ⟨off, q, g⟩ := hok
    exact jm_s_goto X q g (hK _ _ _ _ _ _ h)
  case ifCond f t =>
    simp only [jm_ins] at h
    obtain ⟨off, q, g⟩ := hok
    split at h
    · exact jm_s_if X q g (fun r => hK _ _ _ _ _ _ (h.1 r)) (fun r => hK _ _ _ _ _ _ (h.2 r))
    · exact h.elim
  case if_icmp f t =>
    simp only [jm_ins] at h
    obtain ⟨off, q, g⟩ := hok
    split at h
    · exact jm_s_icmp X q g (fun r => hK _ _ _ _ _ _ (h.1 r)) (fun r => hK _ _ _ _ _ _ (h.2 r))
    · exact h.elim
  case tableswitch t lo hi ts =>
    simp only [jm_ins] at h
    obtain ⟨dd, offs, n, q, g, g2⟩ := hok
    split at h
    · exact jm_s_tsw X q g g2 (fun r => hK _ _ _ _ _ _ (h.1 r)) (fun r r2 => hK _ _ _ _ _ _ (h.2 r r2))
    · exact h.elim
  case lookupswitch t ps =>
    simp only [jm_ins] at h
    obtain ⟨dd, offs, n, q, g, g2, g3⟩ := hok
    split at h
    · exact jm_s_lsw X q g g2 g3 (hK _ _ _ _ _ _ h)
    · exact h.elim
  case ireturn =>
    simp only [jm_ins] at h
    split at h
    · rcases hQ with g | rfl
      · exact absurd h.2 (g _ _)
      · exact jm_s_iret X hok h.1 h.2
    · exact h.elim
  case return_ =>
    simp only [jm_ins] at h
    split at h
    · rcases hQ with g | rfl
      · exact absurd h.2 (g _ _)
      · exact jm_s_vret X hok h.1 h.2
    · exact h.elim
  case invokestatic y' =>
    obtain ⟨hy, j, q, g, g2⟩ := hok
    simp only [jm_ins] at h
    obtain ⟨h1, h2, h3, h4, h5⟩ := h
    refine jm_s_call (kind := 0) X htg hng had (hmo _ hy) (hC _ _ _ _ hy h5) g h1 h3 h4 (Or.inl ⟨rfl, q, g2, by simp [jm_pop]; omega, by simp [jm_pop]⟩) (fun r σ1 hp => hK _ _ _ _ _ _ hp)
  case invokevirtual y' =>
    obtain ⟨hy, j, q, g, g2, g3, T, g4⟩ := hok
    simp only [jm_ins] at h
    split at h
    · rename_i o rest hr
      obtain ⟨h1, h2, h3, h4, h5, h6⟩ := h
      refine jm_s_call (kind := 1) X htg hng had (hmo _ hy) (hC _ _ _ _ hy h6) g h1 h4 h5 (Or.inr (Or.inl ⟨rfl, q, g2, g3, o, _, T, rfl, by simp [jm_pop]; omega, ?_, g4, h3⟩)) (fun r σ1 hp => hK _ _ _ _ _ _ hp)
      rw [← hr]; simp [jm_pop]
    · exact h.elim
  case invokespecial y' =>
    obtain ⟨hy, j, q, g, g2, g3, g4⟩ := hok
    simp only [jm_ins] at h
    split at h
    · rename_i o rest hr
      obtain ⟨h1, h2, h4, h5, h6⟩ := h
      refine jm_s_call (kind := 2) X htg hng had (hmo _ hy) (hC _ _ _ _ hy h6) g h1 h4 h5 (Or.inr (Or.inr ⟨rfl, q, g2, g3, g4, o, _, rfl, by simp [jm_pop]; omega, ?_⟩)) (fun r σ1 hp => hK _ _ _ _ _ _ hp)
      rw [← hr]; simp [jm_pop]
    · exact h.elim
  case invokedynamic n =>
    match n, hok, h with
    | 0, hok, h =>
      obtain ⟨j, q, w1, w2, w3, w4⟩ := hok
      simp only [jm_ins] at h
      split at h
      · exact jm_s_max X q w1 w2 w3 w4 h.1 (hK _ _ _ _ _ _ h.2)
      · exact h.elim
    | 1, hok, h =>
      obtain ⟨j, q, w1, w2, w3, w4⟩ := hok
      simp only [jm_ins] at h
      split at h
      · obtain ⟨g0, g1, g2, g3, g4, g5, g6, g7, g8⟩ := h
        exact jm_s_copy X q w1 w2 w3 w4 g0 g1 g2 g3 g4 g5 g6 g7 (hK _ _ _ _ _ _ g8)
      · exact h.elim
    | 2, hok, h =>
      obtain ⟨j, q, w1, w2, w3⟩ := hok
      simp only [jm_ins] at h
      split at h
      · exact jm_s_obj X q w1 w2 w3 h.1 (hK _ _ _ _ _ _ h.2)
      · exact h.elim
    | n + 3, hok, h => exact h.elim
theorem jm_evW (X : jm_Cx G U V p s m args meth c R y d) (hso : jm_so G U) (htg : jm_tg U) (hng : jm_ng U) (hmo : ∀ y', y' < jm_nM U → jm_mo G U y') (had : ∀ k, jm_ad V (k + 1) = jm_ad V k + 1) {C : Nat → List Value → jm_S → jm_P → Prop} (hC : ∀ y' as σ post, y' < jm_nM U → C y' as σ post → jm_Met l G U d y' as σ post) (hok : ∀ (i : Nat) (ins : Instr), (jm_co G y)[i]? = some ins → jm_ok G U y i ins) {post : jm_P} : ∀ (n pc : Nat) (L st : List Value) (σ : jm_S) (b z : Nat), jm_ev G C (jm_co G y) (jm_rt G y) post n pc L st σ b z → jm_WS G U V p l e R s m args below meth c (MQ below (jm_Q U V post) args s (jm_mc G y) (jm_ms G y) (jm_A V)) y pc L st σ b z := by
  intro n
  induction n with
  | zero => intro pc L st σ b z h; exact h.elim
  | succ n ih =>
    intro pc L st σ b z h
    simp only [jm_ev, jm_stp] at h
    split at h
    · rename_i ins hi
      exact jm_one X hso htg hng hmo had hC (Or.inr rfl) ih ins (hok _ _ hi) h
    · exact h.elim
/-- THE SMALL MACHINE IS THE MACHINE: what it comes to, the method does -/
theorem jm_sim (hso : jm_so G U) (htg : jm_tg U) (hng : jm_ng U) (hmo : ∀ y', y' < jm_nM U → jm_mo G U y') (hok : ∀ y, y < jm_nM U → ∀ (i : Nat) (ins : Instr), (jm_co G y)[i]? = some ins → jm_ok G U y i ins) (h0 : ∀ y, y < jm_nM U → jm_ps U y 0 = 0) : ∀ (d y : Nat) (as : List Value) (σ : jm_S) (post : jm_P), y < jm_nM U → jm_call G d y as σ post → jm_Met l G U d y as σ post := by
  intro d
  induction d with
  | zero => intro y as σ post hy h; exact h.elim
  | succ d ih =>
    intro y as σ post hy h V had
    obtain ⟨hlen, hcat, n, hn⟩ := h
    have hm := hmo y hy
    refine Met.ofW (cc := jm_bt U y) (maxL := jm_ml G y) (ret := jm_rt G y) hm.2.2.2.2 rfl ?_
    intro p e s m args below meth c s₁ B hml hv
    obtain ⟨rfl, hRp, hKn⟩ := hv
    have hts := atoms_spec (ws := jm_wy G U y) B.pre
    have X : jm_Cx G U V p s m (as.map (jm_v V)).toArray meth c (headSpec (jm_wy G U y) (jm_rm G y (d + 1))).room y d := ⟨B.exec, B.bytes, hml, findClass_of_methodNamed B.named, fun w hw => hts w (List.mem_cons_of_mem _ hw), B.returns, B.notSynchronized, (name_of_methodNamed B.named B.method).1, hKn, Nat.le_refl _, Nat.le_refl _, Nat.le_refl _, Nat.le_refl _⟩
    have hW := jm_evW (below := below) (e := e) X hso htg hng hmo had (fun y' as' σ' post' hy' h' => ih y' as' σ' post' hy' h') (hok y hy) n 0 _ _ _ _ _ hn
    have := hW s.heap [] _ 0 0 hRp va_S.rf (jm_LR.entry as hlen hcat) (by simp [jm_in0]; omega) (by omega) (by omega)
    rw [h0 y hy] at this
    rw [lg_entry_eq]
    exact this
end JMSIM
