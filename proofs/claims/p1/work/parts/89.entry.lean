/-! the law, from its entry to its loop -/
def lw_V (D : va_G) (cI cB cZ : ClassId) (z tA : Nat) : jm_V := (D, cI, cB, cZ, fun k => z + k, fun _ => tA, fun q => z ≤ q)
def lw_V1 (D : va_G) (cI cB cZ : ClassId) (z tA : Nat) : jm_V := (D, cI, cB, cZ, fun k => z + k, fun _ => tA, fun q => z ≤ q ∧ q ≠ z + 193)
theorem lw_nwz : jt_nw.length = jq_nw.length ∧ (jt_nw.zip jq_nw).all (fun x => decide (tables_1[x.2]? = some x.1)) = true := by decide +kernel
theorem lw_nw {args : Array Value} {s : State} (hts : ∀ w ∈ lw_tbl, w.before args s = true) : ∀ w ∈ jt_nw, va_Nw w s := by
  intro w hw
  obtain ⟨p, hp⟩ := jt_zip _ _ lw_nwz.1 w hw
  have h1 := of_decide_eq_true (List.all_eq_true.mp lw_nwz.2 _ hp)
  have h2 : w ∈ lw_tbl := List.mem_append_right _ (List.mem_of_getElem? h1)
  rcases js_ng w hw with ⟨a, i, b, n, d, h, rfl⟩ | ⟨a, i, x, h, rfl⟩
  · exact va_Nw.of rfl (hts _ h2)
  · exact va_Nw.of rfl (hts _ h2)
theorem lw_Kn {args : Array Value} {s : State} {D : va_G} {cI cB cZ : ClassId} {tA : Nat} (hts : ∀ w ∈ lw_tbl, w.before args s = true) (hK : va_K D jt_cl [(cI, .int), (cB, .byte), (cZ, .boolean)] s) (hZ : va_Z "ShrinkHouse" "TELLS" "[I" (.ref tA) (fun q : Nat => s.heap.size ≤ q) s s.heap) (hT : va_T .int tA 27 (fun i => .int ((jt_ro 0).2 i)) (fun q : Nat => s.heap.size ≤ q) s s.heap) : jm_Kn jG jU (lw_V D cI cB cZ s.heap.size tA) s := ⟨hK, hZ, fun _ => hT, fun _ h => h, lw_nw hts⟩
theorem lw_cx0 {F : Nat → Nat → Value} {A : Nat → Nat → Int32} (hF : ∀ k, F 0 k = defaultValue (jt_ft 9 k)) : cx_R cx_s0 (true, [(3, 9, 16)], F, A) := by
  refine ⟨rfl, rfl, fun o k q hq _ => ?_, fun o i q hq h3 => ?_, fun q h => (by cases h), fun q h => (by cases h)⟩
  · match o, hq with
    | 0, hq =>
      show F 0 k = _
      rw [hF]
      rfl
    | o + 1, hq => cases hq
  · match o, hq with
    | 0, hq =>
      cases hq
      exact absurd rfl h3
    | o + 1, hq => cases hq
theorem lw_al {σ : j2_S} {σ1 : jm_S} {al : Bool} (h : j2_R σ σ1) : j2_R σ (al, σ1.2) := ⟨h.1, h.2.1, h.2.2⟩
theorem lw_alw {V : jm_V} {σ1 : jm_S} {al : Bool} : jm_w V (al, σ1.2) = jm_w V σ1 := rfl
theorem lw_w1 {D : va_G} {cI cB cZ : ClassId} {z tA : Nat} {σ1 : jm_S} : jm_w (lw_V1 D cI cB cZ z tA) σ1 = jm_w (lw_V D cI cB cZ z tA) σ1 := rfl
theorem lw_toV1 {D : va_G} {cI cB cZ : ClassId} {z tA : Nat} {σ1 : jm_S} {H H4 : Heap} (hRp : jm_Rp jU (lw_V D cI cB cZ z tA) σ1 H) (hl : σ1.2.1.length = 193) (hk : ∀ q : Nat, q < z + 193 → H4[q]? = H[q]?) : jm_Rp jU (lw_V1 D cI cB cZ z tA) (false, σ1.2) H4 := by
  have hws : ∀ (k : Nat) (x : Nat × va_E), (jm_w (lw_V D cI cB cZ z tA) σ1)[k]? = some x → ∃ j, j < 193 ∧ x.1 = z + j := by
    intro k x hx
    have hm := List.mem_of_getElem? hx
    simp only [jm_w, jm_ws, List.mem_map, List.mem_range] at hm
    obtain ⟨j, hj, rfl⟩ := hm
    exact ⟨j, by omega, rfl⟩
  refine ⟨?_, ?_, fun h => (by cases h)⟩
  · rw [lw_alw, lw_w1]
    exact va_P.kept hRp.1 (fun k x hx => hk _ (by obtain ⟨j, hj, h⟩ := hws k x hx; omega))
  · rw [lw_alw, lw_w1]
    exact ⟨hRp.2.1.1, fun k x hx => ⟨hRp.2.1.2 k x hx, by obtain ⟨j, hj, h⟩ := hws k x hx; omega⟩⟩
theorem lw_cx1 {σX : jm_S} (h : cx_R cx_sX σX) : cx_R cx_s1 (σX.1, σX.2.1 ++ [(3, 10, 97)], jm_row σX.2.2.1 121 (fun k => defaultValue (jt_ft 10 k)), σX.2.2.2) := by
  have hl := cx_lX
  unfold cx_s1
  generalize cx_sX = s at h hl ⊢
  exact cx_R.push (q := (3, 10, 97)) h (fun o ho => jm_row_ne _ _ (by omega)) (fun o ho => rfl) (fun _ k => by rw [hl, jm_row_self]) (fun h => absurd rfl h)
set_option maxHeartbeats 800000 in
set_option maxRecDepth 100000 in
theorem lw_entry {p : Program} {e : Env} {s : State} {m : MethodId} {below : List Frame} {meth : Method} {c : Code} (l : Launch) {b L : Nat} {xs : Nat → Int32} (C0 : lw_At p s m meth c b L xs) {D : va_G} {cI cB cZ : ClassId} {tA : Nat} (hK : va_K D jt_cl [(cI, .int), (cB, .byte), (cZ, .boolean)] s) (hZ : va_Z "ShrinkHouse" "TELLS" "[I" (.ref tA) (fun q : Nat => s.heap.size ≤ q) s s.heap) (hT : va_T .int tA 27 (fun i => .int ((jt_ro 0).2 i)) (fun q : Nat => s.heap.size ≤ q) s s.heap)
    (hloop : ∀ (σ1 : jm_S) (H : Heap) (locs : List Loc) (ls : Array Slot) (cJ : ClassId), j2_R j2_init σ1 → jm_Rp jU (lw_V1 D cI cB cZ s.heap.size tA) σ1 H → (ArrOfT s cJ .long ∧ va_RA s cJ .long) → H[s.heap.size + 193]? = some (arrV cJ 1 (fun _ => .long 0)) → s.heap.size + 194 ≤ H.size → va_S (fun q : Nat => s.heap.size ≤ q) s.heap H locs → lv_has ls 7 [(4, .int 0), (3, .ref (s.heap.size + 193)), (2, .ref (s.heap.size + 121)), (1, .ref (s.heap.size + 0)), (0, .ref b)] → W p l e room_1 s m #[Value.ref b] below meth c H locs 194 1098978 (lw_Z below #[Value.ref b] s) (F0 m 23 ls [])) :
    W p l e room_1 s m #[Value.ref b] below meth c s.heap [] 0 0 (lw_Z below #[Value.ref b] s) (entryFrame m ([Value.ref b] : List Value).toArray 7) := by
  obtain ⟨hx, hb, hr, hml, hown, hts, hX, hbl, hlocks, hgv⟩ := id C0
  have htb : ∀ w ∈ jt_tb, w.before #[Value.ref b] s = true := fun w hw => lw_good hts hw
  have hfix : CallFix p m c code 7 s #[Value.ref b] jt_tb R_law := ⟨hx, hb, hml, hown, htb⟩
  have hKn0 := lw_Kn hts hK hZ hT
  have hl := lv_entry ([.ref b]) (n := 7) (Nat.le_of_ble_eq_true rfl)
  rw [lg_entry_eq]
  generalize (lg_sl ([.ref b]) ++ List.replicate (7 - (lg_sl ([.ref b])).length) Slot.unset).toArray = ls at hl ⊢
  have hl : lv_has ls 7 [(0, .ref b)] := hl
  have hS : va_S (fun q : Nat => s.heap.size ≤ q) s.heap s.heap [] := va_S.rf
  have had : ∀ k, jm_ad (lw_V D cI cB cZ s.heap.size tA) (k + 1) = jm_ad (lw_V D cI cB cZ s.heap.size tA) k + 1 := fun k => rfl
  have hdv : ∀ t : FieldType, jm_v (lw_V D cI cB cZ s.heap.size tA) (defaultValue t) = defaultValue t := fun t => by cases t <;> rfl
  have hlater : ∀ (H : Heap) (locs : List Loc), va_S (fun q : Nat => s.heap.size ≤ q) s.heap H locs → ∀ T : State, T.heap = H → s.WarmedH T.vm → jm_Kn jG jU (lw_V D cI cB cZ s.heap.size tA) T := fun H locs hS T hT hW => hKn0.later js_ng hS hT hW
  have hP0 : va_P D jt_cl (jm_w (lw_V D cI cB cZ s.heap.size tA) (true, [], (fun _ _ => .null), fun _ _ => 0)) s.heap := fun k q h => by simp [jm_ws] at h
  have hD0 : va_D (fun q : Nat => s.heap.size ≤ q) (jm_w (lw_V D cI cB cZ s.heap.size tA) (true, [], (fun _ _ => .null), fun _ _ => 0)) := ⟨fun i j p q h => by simp [jm_ws] at h, fun k q h => by simp [jm_ws] at h⟩
  refine jm_New (ci := 9) (C := RX9) (T := TX9) (N := 16) (fs := (List.range 16).map (fun j => jm_v (lw_V D cI cB cZ s.heap.size tA) (defaultValue (jt_ft 9 j)))) hx hb htb js_w9 (jt_ft 9) tyX9_ok hown (hts (.classLink R_law 8 RX9) (by decide +kernel)) (hts (.instantiable RX9 16) (by decide +kernel)) (hts (.initialized RX9) (by decide +kernel)) hK hP0 hD0 hS (fun _ h => h) rfl (fun j hj => by simp [vp_V, hj, hdv]) (Nat.le_of_ble_eq_true rfl) (Nat.le_of_ble_eq_true rfl) dL_law_0 (fun H hz hP hD hS => ?_)
  have e1 : jm_w (lw_V D cI cB cZ s.heap.size tA) (true, [], (fun _ _ => .null), fun _ _ => 0) ++ [(s.heap.size + 0, .inr (9, (List.range 16).map (fun j => jm_v (lw_V D cI cB cZ s.heap.size tA) (defaultValue (jt_ft 9 j)))))] = jm_w (lw_V D cI cB cZ s.heap.size tA) (true, [] ++ [(3, 9, 16)], jm_row (fun _ _ => .null) 0 (fun k => defaultValue (jt_ft 9 k)), fun _ _ => 0) := jm_push_o (σ := (true, [], (fun _ _ => .null), fun _ _ => 0))
  have hP : va_P D jt_cl _ H := e1 ▸ hP
  have hD : va_D (fun q : Nat => s.heap.size ≤ q) _ := e1 ▸ hD
  refine lv_dup hx hb dL_law_3 rfl ?_
  refine lw_call (V := lw_V D cI cB cZ s.heap.size tA) (y := 127) (idx := 21) (d := 5) (o := 0) (as := []) (rest := [.ref (s.heap.size + 0)]) (P := fun r σ' => r = none ∧ cx_R cx_sX σ') hfix hl.1 hK (hlater _ _ hS) had (by decide) (cx_sim 5 127 0 cx_s0 cx_sX cx_eX _ (lw_cx0 (fun k => by rw [jm_row_self])) _ (fun σ' h => ⟨rfl, h⟩)) ⟨hP, hD, fun _ => hz⟩ hS (fun _ h => h) (Nat.le_of_ble_eq_true rfl) (Nat.le_of_ble_eq_true rfl) (Nat.le_of_ble_eq_true rfl) (Nat.le_of_ble_eq_true rfl) rfl (List.mem_filter.mpr ⟨by decide +kernel, rfl⟩) (Nat.le_of_ble_eq_true rfl) (Or.inr ⟨by decide +kernel, dL_law_4⟩) (fun r σX H locs hp hRp hS hz1 hk1 => ?_)
  obtain ⟨rfl, hX1⟩ := hp
  have hzX : H.size = s.heap.size + 121 := by
    have := hRp.2.2 hX1.1
    rw [hX1.2.1, cx_lX] at this
    exact this
  refine W.widen (k := 121) (n := 218522) (Nat.le_of_ble_eq_true rfl) (Nat.le_of_ble_eq_true rfl) ?_
  refine lv_astore_n (lv' := [(1, .ref (s.heap.size + 0)), (0, .ref b)]) hx hb dL_law_7 rfl hl (by decide) rfl (fun ls hl => ?_)
  refine jm_New (ci := 10) (C := RX10) (T := TX10) (N := 97) (fs := (List.range 97).map (fun j => jm_v (lw_V D cI cB cZ s.heap.size tA) (defaultValue (jt_ft 10 j)))) hx hb htb js_w10 (jt_ft 10) tyX10_ok hown (hts (.classLink R_law 22 RX10) (by decide +kernel)) (hts (.instantiable RX10 97) (by decide +kernel)) (hts (.initialized RX10) (by decide +kernel)) hK hRp.1 hRp.2.1 hS (fun _ h => h) rfl (fun j hj => by simp [vp_V, hj, hdv]) (Nat.le_of_ble_eq_true rfl) (Nat.le_of_ble_eq_true rfl) dL_law_8 (fun H2 hz2 hP2 hD2 hS2 => ?_)
  have hlX : σX.2.1.length = 121 := by rw [hX1.2.1]; exact cx_lX
  have e2 : jm_w (lw_V D cI cB cZ s.heap.size tA) σX ++ [(s.heap.size + 121, .inr (10, (List.range 97).map (fun j => jm_v (lw_V D cI cB cZ s.heap.size tA) (defaultValue (jt_ft 10 j)))))] = jm_w (lw_V D cI cB cZ s.heap.size tA) (σX.1, σX.2.1 ++ [(3, 10, 97)], jm_row σX.2.2.1 121 (fun k => defaultValue (jt_ft 10 k)), σX.2.2.2) := by
    have := jm_push_o (cI := cI) (cB := cB) (cZ := cZ) (ad := fun k => s.heap.size + k) (rd := fun _ => tA) (σ := σX) (c := 10) (n := 97) (g := fun k => defaultValue (jt_ft 10 k))
    rw [hlX] at this
    exact this
  rw [hzX, e2] at hP2 hD2
  rw [hzX] at hz2 ⊢
  have hz2b : H2.size = s.heap.size + (σX.2.1 ++ [(3, 10, 97)]).length := by rw [hz2, List.length_append, hlX]; rfl
  refine W.widen (k := 122) (n := 218619) (Nat.le_of_ble_eq_true rfl) (Nat.le_of_ble_eq_true rfl) ?_
  refine lv_dup hx hb dL_law_11 rfl ?_
  refine lw_call (V := lw_V D cI cB cZ s.heap.size tA) (y := 154) (idx := 24) (d := 5) (o := 121) (as := []) (rest := [.ref (s.heap.size + 121)]) (P := fun r σ' => r = none ∧ cx_R cx_sM σ') hfix hl.1 hK (hlater _ _ hS2) had (by decide) (cx_sim 5 154 121 cx_s1 cx_sM cx_eM _ (lw_cx1 hX1) _ (fun σ' h => ⟨rfl, h⟩)) ⟨hP2, hD2, fun _ => hz2b⟩ hS2 (fun _ h => h) (Nat.le_of_ble_eq_true rfl) (Nat.le_of_ble_eq_true rfl) (Nat.le_of_ble_eq_true rfl) (Nat.le_of_ble_eq_true rfl) rfl (List.mem_filter.mpr ⟨by decide +kernel, rfl⟩) (Nat.le_of_ble_eq_true rfl) (Or.inr ⟨by decide +kernel, dL_law_12⟩) (fun r σM H3 locs3 hp hRp3 hS3 hz3 hk3 => ?_)
  obtain ⟨rfl, hM1⟩ := hp
  have hlM : σM.2.1.length = 193 := by rw [hM1.2.1]; exact cx_lM
  have hzM : H3.size = s.heap.size + 193 := by
    have := hRp3.2.2 hM1.1
    rw [hlM] at this
    exact this
  refine W.widen (k := 193) (n := 1098977) (Nat.le_of_ble_eq_true rfl) (Nat.le_of_ble_eq_true rfl) ?_
  refine lv_astore_n (lv' := [(2, .ref (s.heap.size + 121)), (1, .ref (s.heap.size + 0)), (0, .ref b)]) hx hb dL_law_15 rfl hl (by decide) rfl (fun ls hl => ?_)
  refine lv_iconst (v := 1) hx hb dL_law_16 (by decide) ?_
  have hlong : (Cond.arrayClass (newarray.typeOf .long)).before #[Value.ref b] s = true := hts (.arrayClass .long) (by decide +kernel)
  refine va_newaK (atype := .long) (N := 1) (n := 1) (rest := []) (g := F0 m 17 ls [.int 1]) hx hb hlong rfl dL_law_17 rfl (by decide +kernel) (by decide +kernel) (by decide +kernel) (by show 193 + 1 ≤ 247135; omega) (by show 1098977 + 1 ≤ 8360832; omega) hzM (fun H4 cJ h41 h42 h43 hAr hNm => ?_)
  show W p l e room_1 s m #[Value.ref b] below meth c H4 locs3 (193 + 1) (1098977 + 1) (lw_Z below #[Value.ref b] s) (F0 m 19 ls [.ref (s.heap.size + 193)])
  refine W.widen (k := 194) (n := 1098978) (Nat.le_refl _) (Nat.le_refl _) ?_
  refine lv_astore_n (lv' := [(3, .ref (s.heap.size + 193)), (2, .ref (s.heap.size + 121)), (1, .ref (s.heap.size + 0)), (0, .ref b)]) hx hb dL_law_19 rfl hl (by decide) rfl (fun ls hl => ?_)
  refine lv_iconst (v := 0) hx hb dL_law_20 (by decide) ?_
  refine lv_istore (lv' := [(4, .int 0), (3, .ref (s.heap.size + 193)), (2, .ref (s.heap.size + 121)), (1, .ref (s.heap.size + 0)), (0, .ref b)]) hx hb dL_law_21 hl (by decide) rfl (fun ls hl => ?_)
  have hS4 : va_S (fun q : Nat => s.heap.size ≤ q) s.heap H4 locs3 := ⟨by omega, fun q g1 g2 => (h43 q (by omega)).trans (hS3.2.1 q g1 g2), hS3.2.2⟩
  exact hloop (false, σM.2) H4 locs3 ls cJ (lw_al (cx_init hM1)) (lw_toV1 hRp3 hlM (fun q hq => h43 q hq)) ⟨hAr, hNm⟩ h41 (by omega) hS4 hl
