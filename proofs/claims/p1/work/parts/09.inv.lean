/-! the small machine's steps, fifth part: calls of methods -/
section JMINV
variable {G : jm_G} {U : jm_U} {V : jm_V} {p : Program} {l : Launch} {e : Env} {R : Room} {s : State} {m : MethodId} {args : Array Value} {below : List Frame} {meth : Method} {c : Code} {Q : State → Prop} {y d pc : Nat} {L st : List Value} {σ : jm_S} {b z : Nat}
theorem jm_callW {H : Heap} {locs : List Loc} {cells slots mc ms pc0 : Nat} {ls : Array Slot} {st0 rest : List Value} {post : jm_P} {a : Array Value} (hr : va_Run p l e R s m args below meth c H locs cells slots mc ms (F0 m pc0 ls st0) rest (jm_Q U V post a) (jm_A V)) (hS : va_S (jm_A V) s.heap H locs)
    (kk : ∀ (r : Option Value) (σ' : jm_S) (H1 : Heap) (locs1 : List Loc), post r σ' → jm_Rp U V σ' H1 → va_S (jm_A V) s.heap H1 locs1 → W p l e R s m args below meth c H1 locs1 (cells + mc) (slots + ms) Q (F0 m (pc0 + 3) ls ((r.map (jm_v V)).toList ++ rest))) : W p l e R s m args below meth c H locs cells slots Q (F0 m pc0 ls st0) := by
  intro T hT X
  obtain ⟨v, st₀, t, T', L, h0, X', hL, e1, e2, ⟨⟨r, σ', hp, hv, hR⟩, hz, hk⟩, st⟩ := hr T hT X
  cases hv
  rw [h0] at hz hk
  rw [← e1] at hR hz hk
  obtain ⟨t2, a1, b1⟩ := kk r σ' T'.heap (locs ++ L) hp hR ⟨Nat.le_trans hS.1 hz, fun q g1 g2 => (hk q (Nat.lt_of_lt_of_le g1 hS.1) g2).trans (hS.2.1 q g1 g2), fun q hq => by
      rcases List.mem_append.mp hq with h | h
      · exact hS.2.2 q h
      · exact hL q h⟩ T' rfl X'
  exact ⟨t2, st t2 a1, b1⟩
theorem jm_good (htg : jm_tg U) {y' : Nat} (hm : jm_mo G U y') : GoodIn (jm_tb U) (jm_wy G U y') := by
  intro w hw
  have h : w ∈ jm_tb U := by
    rcases List.mem_cons.mp hw with rfl | h
    · exact hm.1
    · exact h
  exact ⟨h, good_of_word (htg w h)⟩
theorem jm_pay {htb : ∀ w ∈ jm_tb U, w.before args s = true} (hw : Cond) (h : hw ∈ jm_tb U) : hw.before args s = true := htb _ h
theorem jm_s_call (X : jm_Cx G U V p s m args meth c R y d) (htg : jm_tg U) (hng : jm_ng U) (had : ∀ k, jm_ad V (k + 1) = jm_ad V k + 1) {kind i y' : Nat} {as rest : List Value} {post : jm_P} (hm : jm_mo G U y') (hM : jm_Met l G U d y' as σ post) (hl : jm_lk U y i y') (hrest : rest.length ≤ 4) (hb1 : jm_mc G y' ≤ b) (hz1 : jm_ms G y' ≤ z)
    (hk : (kind = 0 ∧ jm_sm U y pc (.invokestatic i) 3 ∧ Cond.static (jm_nm U y') ∈ jm_tb U ∧ as.length = jm_ma G y' ∧ st = as.reverse ++ rest) ∨
      (kind = 1 ∧ jm_sm U y pc (.invokevirtual i) 3 ∧ Cond.instanceMethod (jm_nm U y') ∈ jm_tb U ∧ Cond.selects (jm_nm U y').cls (jm_nm U y') (jm_nm U y') ∈ jm_tb U ∧ ∃ (o : Nat) (as' : List Value) (T : u_T), as = .ref o :: as' ∧ as'.length = jm_ma G y' ∧ st = as'.reverse ++ .ref o :: rest ∧ (jm_cl U)[jm_mk G y']? = some ((jm_nm U y').cls, T, jm_sz G (jm_mk G y')) ∧ σ.2.1[o]? = some (3, jm_mk G y', jm_sz G (jm_mk G y'))) ∨
      (kind = 2 ∧ jm_sm U y pc (.invokespecial i) 3 ∧ Cond.instanceMethod (jm_nm U y') ∈ jm_tb U ∧ (jm_nm U y').name = "<init>" ∧ jm_rt G y' = none ∧ ∃ (o : Nat) (as' : List Value), as = .ref o :: as' ∧ as'.length = jm_ma G y' ∧ st = as'.reverse ++ .ref o :: rest))
    (k : ∀ (r : Option Value) (σ1 : jm_S), post r σ1 → jm_WS G U V p l e R s m args below meth c Q y (pc + 1) L (r.toList ++ rest) σ1 (b - jm_mc G y') (z - jm_ms G y')) : jm_WS G U V p l e R s m args below meth c Q y pc L st σ b z := by
  intro H locs ls cells slots h1 h2 h3 h4 h5 h6
  have hts := X.2.2.2.2.1
  have hKn := X.2.2.2.2.2.2.2.2.1
  have hs := jm_sum (V := V) hrest
  have hsz : ls.size = jm_ml G y := h3.1.trans h4
  have hroom : 2 * (F0 m (jm_ps U y pc) ls (st.map (jm_v V))).monitorRoom + ((rest.map (jm_v V)).map fun v => v.category).sum ≤ 8 := lv_room hs
  have hR : (jm_rm G y' d).frames + 1 ≤ R.frames ∧ 8 + (jm_ml G y' + 11) + (jm_rm G y' d).locals ≤ R.locals := by
    have := hm.2.2.2.1
    have hx1 := X.2.2.2.2.2.2.2.2.2.1
    have hx2 := X.2.2.2.2.2.2.2.2.2.2.2.2
    exact ⟨hx1, by show 8 + (jm_ml G y' + 11) + 64 * d ≤ _; omega⟩
  have hf : cells + jm_mc G y' ≤ R.cells ∧ slots + jm_ms G y' ≤ R.slots := by
    have g1 := X.2.2.2.2.2.2.2.2.2.2.1
    have g2 := X.2.2.2.2.2.2.2.2.2.2.2.1
    omega
  have hfix : CallFix p m c (jm_bt U y) (jm_ml G y) s args (jm_tb U) (jm_nm U y).cls := ⟨X.1, X.2.1, X.2.2.1, X.2.2.2.1, hts⟩
  have hG := jm_good htg hm
  have hini : (Cond.initialized (jm_nm U y').cls).before args s = true := hts _ hm.2.1
  have hMV := hM V had
  have hpre : ∀ T : State, T.heap = H → s.WarmedH T.vm → va_Pc (as.map (jm_v V)) (jm_Pre G U V σ) (as.map (jm_v V)).toArray T := fun T hT hW => ⟨rfl, by rw [hT]; exact h1, hKn.later hng h2 hT hW⟩
  have fin : ∀ (st0 : List Value) (a : Array Value), st.map (jm_v V) = st0 → jm_sm U y pc (match kind with | 0 => .invokestatic i | 1 => .invokevirtual i | _ => .invokespecial i) 3 → va_Run p l e R s m args below meth c H locs cells slots (jm_mc G y') (jm_ms G y') (F0 m (jm_ps U y pc) ls st0) (rest.map (jm_v V)) (jm_Q U V post a) (jm_A V) → W p l e R s m args below meth c H locs cells slots Q (F0 m (jm_ps U y pc) ls (st.map (jm_v V))) := by
    intro st0 a e hsm hrun
    rw [e]
    refine jm_callW hrun h2 (fun r σ' H1 locs1 hp hRp hS1 => ?_)
    have := k r σ' hp H1 locs1 ls (cells + jm_mc G y') (slots + jm_ms G y') hRp hS1 h3 h4 (by omega) (by omega)
    rw [hsm.2] at this
    have e2 : (r.toList ++ rest).map (jm_v V) = (r.map (jm_v V)).toList ++ rest.map (jm_v V) := by cases r <;> simp
    rw [e2] at this
    exact this
  rcases hk with ⟨hk0, hsm, w1, hlen, hst⟩ | ⟨hk0, hsm, w1, w2, o, as', T, ha, hlen, hst, hcl, ho⟩ | ⟨hk0, hsm, w1, w2, w3, o, as', ha, hlen, hst⟩
  · subst hk0
    have e : st.map (jm_v V) = (as.map (jm_v V)).reverse ++ rest.map (jm_v V) := by rw [hst]; simp
    refine fin _ (as.map (jm_v V)).toArray e hsm ?_
    rw [e] at hroom
    have hlen' : (as.map (jm_v V)).length = jm_ma G y' := by rw [List.length_map]; exact hlen
    rcases hl with hl | ⟨host, hl⟩
    · exact va_runS hfix hMV ⟨callB_of _ hts hG rfl rfl rfl hini (hts _ hl) hm.2.2.1 hR, hts _ w1⟩ ⟨jm_blind hng, hpre⟩ rfl hlen' hsz rfl hroom hsm.1 hf
    · exact va_runSN hfix hMV ⟨va_cnB _ hts hG rfl rfl rfl (hKn.2.2.2.2 _ hl) hini hm.2.2.1 hR, hts _ w1, trivial⟩ ⟨jm_blind hng, hpre⟩ rfl hlen' hsz rfl hroom hsm.1 hf
  · subst hk0
    subst ha
    have e : st.map (jm_v V) = (as'.map (jm_v V)).reverse ++ .ref (jm_ad V o) :: rest.map (jm_v V) := by rw [hst]; simp [jm_v, jm_cv]
    refine fin _ (Value.ref (jm_ad V o) :: as'.map (jm_v V)).toArray e hsm ?_
    rw [e] at hroom
    have hlen' : (as'.map (jm_v V)).length = jm_ma G y' := by rw [List.length_map]; exact hlen
    have he := jm_ws_at (cI := V.2.1) (cB := V.2.2.1) (cZ := V.2.2.2.1) (ad := jm_ad V) (rd := jm_rd V) ho
    rw [jm_E_o ho] at he
    have hrecv := va_recv (D := jm_D V) hKn.1 h1.1 hcl he
    have hd2 := hm.2.2.1
    rcases hl with hl | ⟨host, hl⟩
    · exact va_runV hfix hMV ⟨callB_of _ hts hG rfl rfl rfl hini (hts _ hl) hm.2.2.1 hR, hts _ w1, hts _ w2⟩ ⟨jm_blind hng, hrecv, hpre⟩ rfl hlen' hsz rfl hroom hsm.1 hf
    · exact va_runVN hfix hMV ⟨va_cnB _ hts hG rfl rfl rfl (hKn.2.2.2.2 _ hl) hini hm.2.2.1 hR, hts _ w1, hts _ w2⟩ ⟨jm_blind hng, hrecv, hpre⟩ rfl hlen' hsz rfl hroom hsm.1 hf
  · subst hk0
    subst ha
    have e : st.map (jm_v V) = (as'.map (jm_v V)).reverse ++ .ref (jm_ad V o) :: rest.map (jm_v V) := by rw [hst]; simp [jm_v, jm_cv]
    refine fin _ (Value.ref (jm_ad V o) :: as'.map (jm_v V)).toArray e hsm ?_
    rw [e] at hroom
    have hlen' : (as'.map (jm_v V)).length = jm_ma G y' := by rw [List.length_map]; exact hlen
    have hw0 : jm_wy G U y' = Cond.code (jm_nm U y') (jm_bt U y') (jm_ml G y') none :: jm_tb U := by rw [jm_wy, w3]
    rcases hl with hl | ⟨host, hl⟩
    · exact va_runI hfix hMV ⟨callB_of _ hts hG hw0 rfl rfl hini (hts _ hl) hm.2.2.1 hR, w2, hts _ w1⟩ ⟨jm_blind hng, hpre⟩ rfl hlen' hsz rfl hroom hsm.1 hf
    · exact va_runIN hfix hMV ⟨va_cnB _ hts hG hw0 rfl rfl (hKn.2.2.2.2 _ hl) hini hm.2.2.1 hR, w2, hts _ w1⟩ ⟨jm_blind hng, hpre⟩ rfl hlen' hsz rfl hroom hsm.1 hf
end JMINV
