/-! the law's static helpers shrink and run -/
theorem dL_shrink_0 : decode cL_shrink 0 = .ok (.aload_n 2, 1) := by decide +kernel
theorem dL_shrink_1 : decode cL_shrink 1 = .ok (.iconst 0, 1) := by decide +kernel
theorem dL_shrink_2 : decode cL_shrink 2 = .ok (.aload_n 0, 1) := by decide +kernel
theorem dL_shrink_3 : decode cL_shrink 3 = .ok (.iload_n 1, 1) := by decide +kernel
theorem dL_shrink_4 : decode cL_shrink 4 = .ok (.invokevirtual 7, 3) := by decide +kernel
theorem dL_shrink_7 : decode cL_shrink 7 = .ok (.i2l, 1) := by decide +kernel
theorem dL_shrink_8 : decode cL_shrink 8 = .ok (.lastore, 1) := by decide +kernel
theorem dL_shrink_9 : decode cL_shrink 9 = .ok (.goto 9, 3) := by decide +kernel
theorem dL_shrink_12 : decode cL_shrink 12 = .ok (.astore_n 3, 1) := by decide +kernel
theorem dL_shrink_13 : decode cL_shrink 13 = .ok (.iconst 1, 1) := by decide +kernel
theorem dL_shrink_14 : decode cL_shrink 14 = .ok (.ireturn, 1) := by decide +kernel
theorem dL_shrink_15 : decode cL_shrink 15 = .ok (.astore_n 3, 1) := by decide +kernel
theorem dL_shrink_16 : decode cL_shrink 16 = .ok (.iconst 2, 1) := by decide +kernel
theorem dL_shrink_17 : decode cL_shrink 17 = .ok (.ireturn, 1) := by decide +kernel
theorem dL_shrink_18 : decode cL_shrink 18 = .ok (.iconst 0, 1) := by decide +kernel
theorem dL_shrink_19 : decode cL_shrink 19 = .ok (.ireturn, 1) := by decide +kernel
theorem dL_run_0 : decode cL_run 0 = .ok (.aload 4, 2) := by decide +kernel
theorem dL_run_2 : decode cL_run 2 = .ok (.iconst 0, 1) := by decide +kernel
theorem dL_run_3 : decode cL_run 3 = .ok (.aload_n 0, 1) := by decide +kernel
theorem dL_run_4 : decode cL_run 4 = .ok (.iload_n 1, 1) := by decide +kernel
theorem dL_run_5 : decode cL_run 5 = .ok (.iload_n 2, 1) := by decide +kernel
theorem dL_run_6 : decode cL_run 6 = .ok (.iload_n 3, 1) := by decide +kernel
theorem dL_run_7 : decode cL_run 7 = .ok (.invokevirtual 17, 3) := by decide +kernel
theorem dL_run_10 : decode cL_run 10 = .ok (.i2l, 1) := by decide +kernel
theorem dL_run_11 : decode cL_run 11 = .ok (.lastore, 1) := by decide +kernel
theorem dL_run_12 : decode cL_run 12 = .ok (.goto 11, 3) := by decide +kernel
theorem dL_run_15 : decode cL_run 15 = .ok (.astore 5, 2) := by decide +kernel
theorem dL_run_17 : decode cL_run 17 = .ok (.iconst 1, 1) := by decide +kernel
theorem dL_run_18 : decode cL_run 18 = .ok (.ireturn, 1) := by decide +kernel
theorem dL_run_19 : decode cL_run 19 = .ok (.astore 5, 2) := by decide +kernel
theorem dL_run_21 : decode cL_run 21 = .ok (.iconst 2, 1) := by decide +kernel
theorem dL_run_22 : decode cL_run 22 = .ok (.ireturn, 1) := by decide +kernel
theorem dL_run_23 : decode cL_run 23 = .ok (.iconst 0, 1) := by decide +kernel
theorem dL_run_24 : decode cL_run 24 = .ok (.ireturn, 1) := by decide +kernel
def lx_rm : Room := { frames := 21, cells := 1, slots := 6, locals := 2000 }
def lx_Q0 (V : jm_V) : Array Value → State → Outcome → State → Prop := va_Qi (fun _ (_ : Unit) => False) (fun _ _ => True) (jm_A V)
def lx_Q (V : jm_V) (σ : jm_S) (k : Int32) : Array Value → State → Outcome → State → Prop := va_Qi (fun r (_ : Unit) => r = k) (fun _ t => jm_Rp jU V σ t.heap) (jm_A V)
def lx_X0 (V : jm_V) : String → State → State → Prop := vx_X (fun _ : Unit => False) (fun _ _ _ => True) (jm_A V)
def lx_P (V : jm_V) (av : List Value) (σ : jm_S) : Array Value → State → Prop := fun a T => a = av.toArray ∧ jm_Pre jG jU V σ T ∧ tx_K (jm_A V) T
theorem lx_blind {V : jm_V} {av : List Value} {σ : jm_S} : FrameBlind (lx_P V av σ) := fun _ _ _ _ h => ⟨h.1, ⟨h.2.1.1, h.2.1.2.calling js_ng⟩, h.2.2.calling⟩
section LX
variable {p : Program} {l : Launch} {e : Env} {R : Room} {s : State} {m : MethodId} {args : Array Value} {below : List Frame} {meth : Method} {c : Code} {Q : State → Prop} {pc : Nat} {ls : Array Slot} {V : jm_V}
/-- a call of a method of the class that throws E -/
theorem lx_callX {nL : Nat} {own : String} {cc : ByteArray} (hfix : CallFix p m c cc nL s args jt_tb own) (hsz : ls.size = nL) (hKn : jm_Kn jG jU V s) (hTx : tx_K (jm_A V) s) {y idx : Nat} {as rest : List Value} {σ : jm_S} {E : String} (hy : y < 250) (hM : vx_Met l (jm_nm jU y) (jm_wy jG jU y) tx_rm (tx_P V (.ref 0 :: as) σ) (lx_Q0 V) (tx_X V σ E) 1 6 (jm_A V)) (hRp : jm_Rp jU V σ s.heap)
    (hfr : 21 ≤ R.frames) (hlo : 8 + 56 + 1280 ≤ R.locals) (hcc : 1 ≤ R.cells) (hcs : 6 ≤ R.slots) (hlen : as.length = jm_ma jG y) (hl : Cond.methodLink own idx (jm_nm jU y) ∈ jt_tb) (hr : (rest.map fun v => v.category).sum ≤ 8) (hk : jt_kn.getD y 9 = 1) (ho : σ.2.1[0]? = some (3, jm_mk jG y, jt_sz (jm_mk jG y))) (hd : decode cc pc = .ok (.invokevirtual idx, 3))
    (kx : ∀ (ce : Cell) (q9 : Addr) (H1 : Heap) (locs1 : List Loc), jm_Rp jU V σ H1 → va_S (jm_A V) s.heap H1 locs1 → H1[q9]? = some ce → ce.vm = .none → s.vm.findClass E = some ce.cls → vx_W p l e R s m args below meth c H1 locs1 1 6 Q (F0 m pc ls rest) q9) :
    W p l e R s m args below meth c s.heap [] 0 0 Q (F0 m pc ls ((as.map (jm_v V)).reverse ++ .ref (jm_ad V 0) :: rest)) := by
  have hmo := js_mo y hy
  have hts := hfix.2.2.2.2
  have hG := jm_good js_tg hmo
  have hini : (Cond.initialized (jm_nm jU y).cls).before args s = true := hts _ hmo.2.1
  have hml := hmo.2.2.2.1
  have hR : tx_rm.frames + 1 ≤ R.frames ∧ 8 + (jm_ml jG y + 11) + tx_rm.locals ≤ R.locals := ⟨hfr, by show 8 + (jm_ml jG y + 11) + 1280 ≤ _; omega⟩
  have hCB := callB_of (R := R) (rm := tx_rm) _ hts hG rfl rfl rfl hini (hts _ hl) hmo.2.2.1 hR
  have hpre : ∀ T : State, T.heap = s.heap → s.WarmedH T.vm → tx_P V (.ref 0 :: as) σ ((Value.ref 0 :: as).map (jm_v V)).toArray T := fun T hT hW => ⟨⟨rfl, by rw [hT]; exact hRp, hKn.later js_ng va_S.rf hT hW⟩, hTx.later va_S.rf hT hW⟩
  have hlen' : (as.map (jm_v V)).length = jm_ma jG y := by rw [List.length_map]; exact hlen
  have hroom : 2 * (F0 m pc ls ((as.map (jm_v V)).reverse ++ .ref (jm_ad V 0) :: rest)).monitorRoom + (rest.map fun v => v.category).sum ≤ 8 := lv_room hr
  obtain ⟨w1, w2, F, hF⟩ := (js_Xo.2.2.2.2.2.2.2.2.2 y hy).2.1 hk
  have he := jm_ws_at (cI := V.2.1) (cB := V.2.2.1) (cZ := V.2.2.2.1) (ad := jm_ad V) (rd := jm_rd V) ho
  rw [jm_E_o ho] at he
  have hrecv := va_recv (D := jm_D V) hKn.1 hRp.1 hF he
  have hrun := vx_runV (l := l) (e := e) (below := below) (meth := meth) (R := R) (H := s.heap) (locs := []) (cells := 0) (slots := 0) (g := F0 m pc ls ((as.map (jm_v V)).reverse ++ .ref (jm_ad V 0) :: rest)) hfix hM ⟨hCB, hts _ w1, hts _ w2⟩ ⟨tx_blind, hrecv, hpre⟩ rfl hlen' hsz rfl hroom hd ⟨by omega, by omega⟩
  exact vx_calli hrun va_S.rf (fun q _ h => h) (fun q h => h) (fun q _ h => h) (fun E' ce q9 u t H1 locs1 ht hal _ hB hz hk hS1 hce hcv hcl => by
    obtain ⟨rfl, hRp1⟩ := hB
    rw [ht] at hRp1
    exact vx_widen (by omega) (by omega) (kx ce q9 H1 locs1 hRp1 hS1 hce hcv hcl)) (fun r u t H1 locs1 _ _ hp => hp.elim)
end LX
def lx_w_shrink : List Cond := Cond.codeWith yL_shrink cL_shrink 4 (some .int) [(0, 9, 12, 13), (0, 9, 15, 15)] :: jt_tb
set_option maxRecDepth 100000 in
/-- the law's shrink where the class throws xIA: 1 -/
theorem lx_shrink1 {l : Launch} {V : jm_V} {σ : jm_S} {w : Nat} {a : Int32} (hM : vx_Met l (jm_nm jU 140) (jm_wy jG jU 140) tx_rm (tx_P V (.ref 0 :: [.int a]) σ) (lx_Q0 V) (tx_X V σ xIA) 1 6 (jm_A V)) (ho : σ.2.1[0]? = some (3, 9, 16)) : vx_Met l yL_shrink lx_w_shrink lx_rm (lx_P V [.ref (jm_ad V 0), .int a, .ref w] σ) (lx_Q V σ 1) (lx_X0 V) 1 6 (jm_A V) := by
  refine vx_ofWH (cc := cL_shrink) (maxL := 4) (ret := some .int) (hh := [(0, 9, 12, 13), (0, 9, 15, 15)]) (by decide) rfl ?_
  intro p e s m args below meth c s₁ B hml hv
  obtain ⟨rfl, ⟨hRp, hKn⟩, hK⟩ := hv
  have hts := atoms_spec (ws := lx_w_shrink) B.pre
  have htb : ∀ x ∈ jt_tb, x.before ([.ref (jm_ad V 0), .int a, .ref w] : List Value).toArray s = true := fun x hx => hts x (List.mem_cons_of_mem _ hx)
  have htab := vx_table (x := yL_shrink) B (hts _ List.mem_cons_self)
  have hx := B.exec
  have hb := B.bytes
  have hown : s.vm.findClass RL = some m.cls := findClass_of_methodNamed B.named
  have hl := lv_entry ([.ref (jm_ad V 0), .int a, .ref w]) (n := 4) (Nat.le_of_ble_eq_true rfl)
  rw [lg_entry_eq]
  generalize (lg_sl ([.ref (jm_ad V 0), .int a, .ref w]) ++ List.replicate (4 - (lg_sl ([.ref (jm_ad V 0), .int a, .ref w])).length) Slot.unset).toArray = ls at hl ⊢
  have hl : lv_has ls 4 [(0, .ref (jm_ad V 0)), (1, .int a), (2, .ref w)] := hl
  refine lv_aload_n hx hb dL_shrink_0 rfl (lv_at hl 2 rfl) ?_
  refine lv_iconst (v := 0) hx hb dL_shrink_1 (by decide) ?_
  refine lv_aload_n hx hb dL_shrink_2 rfl (lv_at hl 0 rfl) ?_
  refine lv_iload_n hx hb dL_shrink_3 rfl (lv_at hl 1 rfl) ?_
  refine lx_callX (y := 140) (idx := 7) (as := [.int a]) (rest := [.int 0, .ref w]) (σ := σ) (E := xIA) ⟨hx, hb, hml, hown, htb⟩ hl.1 hKn hK (by decide) hM hRp (by decide) (by decide) (by decide) (by decide) rfl (jt_in 1187 (by decide +kernel) rfl) (Nat.le_of_ble_eq_true rfl) (by decide +kernel) (by rw [show jm_mk jG 140 = 9 by decide +kernel]; exact ho) dL_shrink_4 (fun ce q9 H1 locs1 hRp1 hS1 hce hcv hcl => ?_)
  refine vx_catch (own := RL) (name := xIA) (E := xIA) hown [] ⟨0, 9, 12, 13⟩ [(⟨0, 9, 15, 15⟩ : ExceptionTableEntry)] htab (fun z hz => by cases hz) (by decide) (by decide) (htb _ (jt_in 1185 (by decide +kernel) rfl)) (va_Nw.use rfl (hK.1 _ (by decide))) hce hcv hcl ?_
  refine lv_astore_n (lv' := (3, .ref q9) :: [(0, .ref (jm_ad V 0)), (1, .int a), (2, .ref w)]) hx hb dL_shrink_12 rfl hl (by decide) rfl (fun ls hl => ?_)
  refine lv_iconst (v := 1) hx hb dL_shrink_13 (by decide) ?_
  refine vx_ret (W.iret hx hb B.returns (fun t ht hW => ⟨⟨1, (), rfl, rfl, by show jm_Rp jU V σ t.heap; rw [ht]; exact hRp1⟩, hS1.F ht⟩) hS1.2.2 dL_shrink_14)
set_option maxRecDepth 100000 in
/-- the law's shrink where the class throws xS: 2 -/
theorem lx_shrink2 {l : Launch} {V : jm_V} {σ : jm_S} {w : Nat} {a : Int32} (hM : vx_Met l (jm_nm jU 140) (jm_wy jG jU 140) tx_rm (tx_P V (.ref 0 :: [.int a]) σ) (lx_Q0 V) (tx_X V σ xS) 1 6 (jm_A V)) (ho : σ.2.1[0]? = some (3, 9, 16)) : vx_Met l yL_shrink lx_w_shrink lx_rm (lx_P V [.ref (jm_ad V 0), .int a, .ref w] σ) (lx_Q V σ 2) (lx_X0 V) 1 6 (jm_A V) := by
  refine vx_ofWH (cc := cL_shrink) (maxL := 4) (ret := some .int) (hh := [(0, 9, 12, 13), (0, 9, 15, 15)]) (by decide) rfl ?_
  intro p e s m args below meth c s₁ B hml hv
  obtain ⟨rfl, ⟨hRp, hKn⟩, hK⟩ := hv
  have hts := atoms_spec (ws := lx_w_shrink) B.pre
  have htb : ∀ x ∈ jt_tb, x.before ([.ref (jm_ad V 0), .int a, .ref w] : List Value).toArray s = true := fun x hx => hts x (List.mem_cons_of_mem _ hx)
  have htab := vx_table (x := yL_shrink) B (hts _ List.mem_cons_self)
  have hx := B.exec
  have hb := B.bytes
  have hown : s.vm.findClass RL = some m.cls := findClass_of_methodNamed B.named
  have hl := lv_entry ([.ref (jm_ad V 0), .int a, .ref w]) (n := 4) (Nat.le_of_ble_eq_true rfl)
  rw [lg_entry_eq]
  generalize (lg_sl ([.ref (jm_ad V 0), .int a, .ref w]) ++ List.replicate (4 - (lg_sl ([.ref (jm_ad V 0), .int a, .ref w])).length) Slot.unset).toArray = ls at hl ⊢
  have hl : lv_has ls 4 [(0, .ref (jm_ad V 0)), (1, .int a), (2, .ref w)] := hl
  refine lv_aload_n hx hb dL_shrink_0 rfl (lv_at hl 2 rfl) ?_
  refine lv_iconst (v := 0) hx hb dL_shrink_1 (by decide) ?_
  refine lv_aload_n hx hb dL_shrink_2 rfl (lv_at hl 0 rfl) ?_
  refine lv_iload_n hx hb dL_shrink_3 rfl (lv_at hl 1 rfl) ?_
  refine lx_callX (y := 140) (idx := 7) (as := [.int a]) (rest := [.int 0, .ref w]) (σ := σ) (E := xS) ⟨hx, hb, hml, hown, htb⟩ hl.1 hKn hK (by decide) hM hRp (by decide) (by decide) (by decide) (by decide) rfl (jt_in 1187 (by decide +kernel) rfl) (Nat.le_of_ble_eq_true rfl) (by decide +kernel) (by rw [show jm_mk jG 140 = 9 by decide +kernel]; exact ho) dL_shrink_4 (fun ce q9 H1 locs1 hRp1 hS1 hce hcv hcl => ?_)
  refine vx_catch (own := RL) (name := xS) (E := xS) hown [(⟨0, 9, 12, 13⟩ : ExceptionTableEntry)] ⟨0, 9, 15, 15⟩ [] htab (fun z hz => by
      rw [List.mem_singleton] at hz
      subst hz
      exact Or.inr ⟨by decide, xIA, htb _ (jt_in 1185 (by decide +kernel) rfl), hK.2.2.2.2.1⟩) (by decide) (by decide) (htb _ (jt_in 1186 (by decide +kernel) rfl)) (va_Nw.use rfl (hK.1 _ (by decide))) hce hcv hcl ?_
  refine lv_astore_n (lv' := (3, .ref q9) :: [(0, .ref (jm_ad V 0)), (1, .int a), (2, .ref w)]) hx hb dL_shrink_15 rfl hl (by decide) rfl (fun ls hl => ?_)
  refine lv_iconst (v := 2) hx hb dL_shrink_16 (by decide) ?_
  refine vx_ret (W.iret hx hb B.returns (fun t ht hW => ⟨⟨2, (), rfl, rfl, by show jm_Rp jU V σ t.heap; rw [ht]; exact hRp1⟩, hS1.F ht⟩) hS1.2.2 dL_shrink_17)
def lx_w_run : List Cond := Cond.codeWith yL_run cL_run 6 (some .int) [(0, 12, 15, 15), (0, 12, 19, 13)] :: jt_tb
set_option maxRecDepth 100000 in
/-- the law's run where the class throws xS: 1 -/
theorem lx_run1 {l : Launch} {V : jm_V} {σ : jm_S} {w : Nat} {b a k : Int32} (hM : vx_Met l (jm_nm jU 145) (jm_wy jG jU 145) tx_rm (tx_P V (.ref 0 :: [.int b, .int a, .int k]) σ) (lx_Q0 V) (tx_X V σ xS) 1 6 (jm_A V)) (ho : σ.2.1[0]? = some (3, 9, 16)) : vx_Met l yL_run lx_w_run lx_rm (lx_P V [.ref (jm_ad V 0), .int b, .int a, .int k, .ref w] σ) (lx_Q V σ 1) (lx_X0 V) 1 6 (jm_A V) := by
  refine vx_ofWH (cc := cL_run) (maxL := 6) (ret := some .int) (hh := [(0, 12, 15, 15), (0, 12, 19, 13)]) (by decide) rfl ?_
  intro p e s m args below meth c s₁ B hml hv
  obtain ⟨rfl, ⟨hRp, hKn⟩, hK⟩ := hv
  have hts := atoms_spec (ws := lx_w_run) B.pre
  have htb : ∀ x ∈ jt_tb, x.before ([.ref (jm_ad V 0), .int b, .int a, .int k, .ref w] : List Value).toArray s = true := fun x hx => hts x (List.mem_cons_of_mem _ hx)
  have htab := vx_table (x := yL_run) B (hts _ List.mem_cons_self)
  have hx := B.exec
  have hb := B.bytes
  have hown : s.vm.findClass RL = some m.cls := findClass_of_methodNamed B.named
  have hl := lv_entry ([.ref (jm_ad V 0), .int b, .int a, .int k, .ref w]) (n := 6) (Nat.le_of_ble_eq_true rfl)
  rw [lg_entry_eq]
  generalize (lg_sl ([.ref (jm_ad V 0), .int b, .int a, .int k, .ref w]) ++ List.replicate (6 - (lg_sl ([.ref (jm_ad V 0), .int b, .int a, .int k, .ref w])).length) Slot.unset).toArray = ls at hl ⊢
  have hl : lv_has ls 6 [(0, .ref (jm_ad V 0)), (1, .int b), (2, .int a), (3, .int k), (4, .ref w)] := hl
  refine lv_aload hx hb dL_run_0 (lv_at hl 4 rfl) ?_
  refine lv_iconst (v := 0) hx hb dL_run_2 (by decide) ?_
  refine lv_aload_n hx hb dL_run_3 rfl (lv_at hl 0 rfl) ?_
  refine lv_iload_n hx hb dL_run_4 rfl (lv_at hl 1 rfl) ?_
  refine lv_iload_n hx hb dL_run_5 rfl (lv_at hl 2 rfl) ?_
  refine lv_iload_n hx hb dL_run_6 rfl (lv_at hl 3 rfl) ?_
  refine lx_callX (y := 145) (idx := 17) (as := [.int b, .int a, .int k]) (rest := [.int 0, .ref w]) (σ := σ) (E := xS) ⟨hx, hb, hml, hown, htb⟩ hl.1 hKn hK (by decide) hM hRp (by decide) (by decide) (by decide) (by decide) rfl (jt_in 1447 (by decide +kernel) rfl) (Nat.le_of_ble_eq_true rfl) (by decide +kernel) (by rw [show jm_mk jG 145 = 9 by decide +kernel]; exact ho) dL_run_7 (fun ce q9 H1 locs1 hRp1 hS1 hce hcv hcl => ?_)
  refine vx_catch (own := RL) (name := xS) (E := xS) hown [] ⟨0, 12, 15, 15⟩ [(⟨0, 12, 19, 13⟩ : ExceptionTableEntry)] htab (fun z hz => by cases hz) (by decide) (by decide) (htb _ (jt_in 1186 (by decide +kernel) rfl)) (va_Nw.use rfl (hK.1 _ (by decide))) hce hcv hcl ?_
  refine lv_astore (lv' := (5, .ref q9) :: [(0, .ref (jm_ad V 0)), (1, .int b), (2, .int a), (3, .int k), (4, .ref w)]) hx hb dL_run_15 hl (by decide) rfl (fun ls hl => ?_)
  refine lv_iconst (v := 1) hx hb dL_run_17 (by decide) ?_
  refine vx_ret (W.iret hx hb B.returns (fun t ht hW => ⟨⟨1, (), rfl, rfl, by show jm_Rp jU V σ t.heap; rw [ht]; exact hRp1⟩, hS1.F ht⟩) hS1.2.2 dL_run_18)
set_option maxRecDepth 100000 in
/-- the law's run where the class throws xIA: 2 -/
theorem lx_run2 {l : Launch} {V : jm_V} {σ : jm_S} {w : Nat} {b a k : Int32} (hM : vx_Met l (jm_nm jU 145) (jm_wy jG jU 145) tx_rm (tx_P V (.ref 0 :: [.int b, .int a, .int k]) σ) (lx_Q0 V) (tx_X V σ xIA) 1 6 (jm_A V)) (ho : σ.2.1[0]? = some (3, 9, 16)) : vx_Met l yL_run lx_w_run lx_rm (lx_P V [.ref (jm_ad V 0), .int b, .int a, .int k, .ref w] σ) (lx_Q V σ 2) (lx_X0 V) 1 6 (jm_A V) := by
  refine vx_ofWH (cc := cL_run) (maxL := 6) (ret := some .int) (hh := [(0, 12, 15, 15), (0, 12, 19, 13)]) (by decide) rfl ?_
  intro p e s m args below meth c s₁ B hml hv
  obtain ⟨rfl, ⟨hRp, hKn⟩, hK⟩ := hv
  have hts := atoms_spec (ws := lx_w_run) B.pre
  have htb : ∀ x ∈ jt_tb, x.before ([.ref (jm_ad V 0), .int b, .int a, .int k, .ref w] : List Value).toArray s = true := fun x hx => hts x (List.mem_cons_of_mem _ hx)
  have htab := vx_table (x := yL_run) B (hts _ List.mem_cons_self)
  have hx := B.exec
  have hb := B.bytes
  have hown : s.vm.findClass RL = some m.cls := findClass_of_methodNamed B.named
  have hl := lv_entry ([.ref (jm_ad V 0), .int b, .int a, .int k, .ref w]) (n := 6) (Nat.le_of_ble_eq_true rfl)
  rw [lg_entry_eq]
  generalize (lg_sl ([.ref (jm_ad V 0), .int b, .int a, .int k, .ref w]) ++ List.replicate (6 - (lg_sl ([.ref (jm_ad V 0), .int b, .int a, .int k, .ref w])).length) Slot.unset).toArray = ls at hl ⊢
  have hl : lv_has ls 6 [(0, .ref (jm_ad V 0)), (1, .int b), (2, .int a), (3, .int k), (4, .ref w)] := hl
  refine lv_aload hx hb dL_run_0 (lv_at hl 4 rfl) ?_
  refine lv_iconst (v := 0) hx hb dL_run_2 (by decide) ?_
  refine lv_aload_n hx hb dL_run_3 rfl (lv_at hl 0 rfl) ?_
  refine lv_iload_n hx hb dL_run_4 rfl (lv_at hl 1 rfl) ?_
  refine lv_iload_n hx hb dL_run_5 rfl (lv_at hl 2 rfl) ?_
  refine lv_iload_n hx hb dL_run_6 rfl (lv_at hl 3 rfl) ?_
  refine lx_callX (y := 145) (idx := 17) (as := [.int b, .int a, .int k]) (rest := [.int 0, .ref w]) (σ := σ) (E := xIA) ⟨hx, hb, hml, hown, htb⟩ hl.1 hKn hK (by decide) hM hRp (by decide) (by decide) (by decide) (by decide) rfl (jt_in 1447 (by decide +kernel) rfl) (Nat.le_of_ble_eq_true rfl) (by decide +kernel) (by rw [show jm_mk jG 145 = 9 by decide +kernel]; exact ho) dL_run_7 (fun ce q9 H1 locs1 hRp1 hS1 hce hcv hcl => ?_)
  refine vx_catch (own := RL) (name := xIA) (E := xIA) hown [(⟨0, 12, 15, 15⟩ : ExceptionTableEntry)] ⟨0, 12, 19, 13⟩ [] htab (fun z hz => by
      rw [List.mem_singleton] at hz
      subst hz
      exact Or.inr ⟨by decide, xS, htb _ (jt_in 1186 (by decide +kernel) rfl), hK.2.2.2.2.2⟩) (by decide) (by decide) (htb _ (jt_in 1185 (by decide +kernel) rfl)) (va_Nw.use rfl (hK.1 _ (by decide))) hce hcv hcl ?_
  refine lv_astore (lv' := (5, .ref q9) :: [(0, .ref (jm_ad V 0)), (1, .int b), (2, .int a), (3, .int k), (4, .ref w)]) hx hb dL_run_19 hl (by decide) rfl (fun ls hl => ?_)
  refine lv_iconst (v := 2) hx hb dL_run_21 (by decide) ?_
  refine vx_ret (W.iret hx hb B.returns (fun t ht hW => ⟨⟨2, (), rfl, rfl, by show jm_Rp jU V σ t.heap; rw [ht]; exact hRp1⟩, hS1.F ht⟩) hS1.2.2 dL_run_22)
