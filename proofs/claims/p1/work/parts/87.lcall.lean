/-! a call out of the law -/
section LWCALL
variable {p : Program} {l : Launch} {e : Env} {R : Room} {s : State} {m : MethodId} {args : Array Value} {below : List Frame} {meth : Method} {c : Code} {Q : State → Prop} {H : Heap} {locs : List Loc} {cells slots pc : Nat} {ls : Array Slot} {V : jm_V} {A0 : Nat → Prop}
theorem lw_call {nL : Nat} {own : String} {cc : ByteArray} (hfix : CallFix p m c cc nL s args jt_tb own) (hsz : ls.size = nL) (hK : va_K (jm_D V) jt_cl (jm_ty V) s) (hKn : ∀ T : State, T.heap = H → s.WarmedH T.vm → jm_Kn jG jU V T) (had : ∀ k, jm_ad V (k + 1) = jm_ad V k + 1)
    {y idx d o : Nat} {as : List Value} {rest : List Value} {σ : jm_S} {P : jm_P} (hy : y < 250) (htc : jm_tc jG d y (.ref o :: as) σ P) (hRp : jm_Rp jU V σ H) (hS : va_S A0 s.heap H locs) (hA : ∀ q, jm_A V q → A0 q)
    (hfr : d + 1 ≤ R.frames) (hlo : 64 + 64 * d ≤ R.locals) (hcc : cells + jm_mc jG y ≤ R.cells) (hcs : slots + jm_ms jG y ≤ R.slots) (hlen : as.length = jm_ma jG y)
    (hl : Cond.methodLink own idx (jm_nm jU y) ∈ jt_tb) (hr : (rest.map fun v => v.category).sum ≤ 8)
    (hk : (jt_kn.getD y 9 = 1 ∧ σ.2.1[o]? = some (3, jm_mk jG y, jt_sz (jm_mk jG y)) ∧ decode cc pc = .ok (.invokevirtual idx, 3)) ∨ (jt_kn.getD y 9 = 2 ∧ decode cc pc = .ok (.invokespecial idx, 3)))
    (kk : ∀ (r : Option Value) (σ' : jm_S) (H1 : Heap) (locs1 : List Loc), P r σ' → jm_Rp jU V σ' H1 → va_S A0 s.heap H1 locs1 → H.size ≤ H1.size → (∀ q : Nat, q < H.size → ¬ jm_A V q → H1[q]? = H[q]?) → W p l e R s m args below meth c H1 locs1 (cells + jm_mc jG y) (slots + jm_ms jG y) Q (F0 m (pc + 3) ls ((r.map (jm_v V)).toList ++ rest))) :
    W p l e R s m args below meth c H locs cells slots Q (F0 m pc ls ((as.map (jm_v V)).reverse ++ .ref (jm_ad V o) :: rest)) := by
  have hM := js_sim l d y _ σ P hy htc V had
  have hmo := js_mo y hy
  have hts := hfix.2.2.2.2
  have hG := jm_good js_tg hmo
  have hini : (Cond.initialized (jm_nm jU y).cls).before args s = true := hts _ hmo.2.1
  have hml := hmo.2.2.2.1
  have hR : (jm_rm jG y d).frames + 1 ≤ R.frames ∧ 8 + (jm_ml jG y + 11) + (jm_rm jG y d).locals ≤ R.locals := ⟨hfr, by show 8 + (jm_ml jG y + 11) + 64 * d ≤ _; omega⟩
  have hpre : ∀ T : State, T.heap = H → s.WarmedH T.vm → va_Pc ((Value.ref o :: as).map (jm_v V)) (jm_Pre jG jU V σ) ((Value.ref o :: as).map (jm_v V)).toArray T := fun T hT hW => ⟨rfl, by rw [hT]; exact hRp, hKn T hT hW⟩
  have hlen' : (as.map (jm_v V)).length = jm_ma jG y := by rw [List.length_map]; exact hlen
  have hCB := callB_of (R := R) (rm := jm_rm jG y d) _ hts hG rfl rfl rfl hini (hts _ hl) hmo.2.2.1 hR
  have hroom : 2 * (F0 m pc ls ((as.map (jm_v V)).reverse ++ .ref (jm_ad V o) :: rest)).monitorRoom + (rest.map fun v => v.category).sum ≤ 8 := lv_room hr
  have fin : va_Run p l e R s m args below meth c H locs cells slots (jm_mc jG y) (jm_ms jG y) (F0 m pc ls ((as.map (jm_v V)).reverse ++ .ref (jm_ad V o) :: rest)) rest (jm_Q jU V P (Value.ref (jm_ad V o) :: as.map (jm_v V)).toArray) (jm_A V) → W p l e R s m args below meth c H locs cells slots Q (F0 m pc ls ((as.map (jm_v V)).reverse ++ .ref (jm_ad V o) :: rest)) := by
    intro hrun T hT X
    obtain ⟨v, st₀, t, T', L, h0, X', hL, e1, e2, ⟨⟨r, σ', hp, hv, hR'⟩, hz, hk'⟩, st⟩ := hrun T hT X
    cases hv
    rw [h0] at hz hk'
    rw [← e1] at hR' hz hk'
    obtain ⟨t2, a1, b1⟩ := kk r σ' T'.heap (locs ++ L) hp hR' ⟨Nat.le_trans hS.1 hz, fun q g1 g2 => (hk' q (Nat.lt_of_lt_of_le g1 hS.1) (fun w => g2 (hA q w))).trans (hS.2.1 q g1 g2), fun q hq => by
      rcases List.mem_append.mp hq with h | h
      · exact hS.2.2 q h
      · exact hA _ (hL q h)⟩ hz hk' T' rfl X'
    exact ⟨t2, st t2 a1, b1⟩
  have hX := js_Xo.2.2.2.2.2.2.2.2.2 y hy
  rcases hk with ⟨hk, ho, hd⟩ | ⟨hk, hd⟩
  · obtain ⟨w1, w2, F, hF⟩ := hX.2.1 hk
    have he := jm_ws_at (cI := V.2.1) (cB := V.2.2.1) (cZ := V.2.2.2.1) (ad := jm_ad V) (rd := jm_rd V) ho
    rw [jm_E_o ho] at he
    have hrecv := va_recv (D := jm_D V) hK hRp.1 hF he
    exact fin (va_runV hfix hM ⟨hCB, hts _ w1, hts _ w2⟩ ⟨jm_blind js_ng, hrecv, hpre⟩ rfl hlen' hsz rfl hroom hd ⟨hcc, hcs⟩)
  · obtain ⟨w1, w2, w3⟩ := hX.2.2 hk
    have hw0 : jm_wy jG jU y = Cond.code (jm_nm jU y) (jm_bt jU y) (jm_ml jG y) none :: jm_tb jU := by rw [jm_wy, w3]
    have hCB2 := callB_of (R := R) (rm := jm_rm jG y d) _ hts hG hw0 rfl rfl hini (hts _ hl) hmo.2.2.1 hR
    exact fin (va_runI hfix hM ⟨hCB2, w2, hts _ w1⟩ ⟨jm_blind js_ng, hpre⟩ rfl hlen' hsz rfl hroom hd ⟨hcc, hcs⟩)
end LWCALL
