/-! the cases of the law's switch -/
/-- one call on both: the same answer, and what comes behind -/
def lw_S2 (J : j2_S → Prop) (yX yM : Nat) (as : List j2_W) (σ : j2_S) : Prop := j2_tc 20 yX (.inr (.inl (9, 0)) :: as) σ (fun r σ1 => ∃ v, r = some (vI v) ∧ j2_tc 20 yM (.inr (.inl (10, 121)) :: as) σ1 (fun r' σ2 => r' = some (vI v) ∧ J σ2))
def lw_b (v : Int32) : Int32 := if v = 0 then 0 else 1
theorem lw_o9 : (9, 0) ∈ lt_ob := by decide
theorem lw_o10 : (10, 121) ∈ lt_ob := by decide
section LWCASES
variable {p : Program} {l : Launch} {e : Env} {s : State} {m : MethodId} {below : List Frame} {meth : Method} {c : Code} {b L : Nat} {xs : Nat → Int32} {D : va_G} {cI cB cZ cJ : ClassId} {tA : Nat} {H : Heap} {locs : List Loc} {cells slots i : Nat} {ls : Array Slot} {Q : State → Prop} {σ : j2_S} {J : j2_S → Prop}
set_option maxRecDepth 100000 in
theorem lw_case0 (C : lw_C p s m meth c b L xs D cI cB cZ cJ tA) (hW : lw_Wd s D cI cB cZ cJ tA σ H locs) (hl : lv_has ls 7 (lw_ll s.heap.size b (nI (6 * i)))) (hi : 6 * i + 6 ≤ L) (hc : cells ≤ 247135) (hs : slots ≤ 8360832) (hstep : lw_S2 J 128 156 [vI (xs (6 * i + 1)), vI (xs (6 * i + 2)), vI (xs (6 * i + 3)), vI (xs (6 * i + 4)), vI (xs (6 * i + 5))] σ)
    (kk : ∀ (σ' : j2_S) (H : Heap) (locs : List Loc), J σ' → lw_Wd s D cI cB cZ cJ tA σ' H locs → W p l e room_1 s m #[Value.ref b] below meth c H locs cells slots Q (F0 m 885 ls [])) : W p l e room_1 s m #[Value.ref b] below meth c H locs cells slots Q (F0 m 132 ls []) := by
  obtain ⟨⟨hx, hb, -⟩, -⟩ := id C
  obtain ⟨-, -, -, -, -, hS⟩ := id hW
  refine lv_aload_n hx hb dL_law_132 rfl (lv_at hl 3 rfl) ?_
  refine lw_arg (k := 1) C hS hl hi (by omega) dL_law_133 dL_law_134 dL_law_136 dL_law_137 dL_law_138 ?_
  refine lw_arg (k := 2) C hS hl hi (by omega) dL_law_139 dL_law_140 dL_law_142 dL_law_143 dL_law_144 ?_
  refine lw_arg (k := 3) C hS hl hi (by omega) dL_law_145 dL_law_146 dL_law_148 dL_law_149 dL_law_150 ?_
  refine lw_arg (k := 4) C hS hl hi (by omega) dL_law_151 dL_law_152 dL_law_154 dL_law_155 dL_law_156 ?_
  refine lw_arg (k := 5) C hS hl hi (by omega) dL_law_157 dL_law_158 dL_law_160 dL_law_161 dL_law_162 ?_
  refine lw_call2 (y := 128) (idx := 25) (q := 9) (o := 0) (as := [vI (xs (6 * i + 1)), vI (xs (6 * i + 2)), vI (xs (6 * i + 3)), vI (xs (6 * i + 4)), vI (xs (6 * i + 5))]) (vs := [.int (xs (6 * i + 1)), .int (xs (6 * i + 2)), .int (xs (6 * i + 3)), .int (xs (6 * i + 4)), .int (xs (6 * i + 5))]) (rest := []) C hW hl.1 (by decide) hstep (j2_oks_c.mpr ⟨lw_o9, fun w hw => by simp at hw; rcases hw with rfl | rfl | rfl | rfl | rfl <;> trivial⟩) rfl ⟨by decide +kernel, by decide +kernel, by decide +kernel, by decide +kernel, rfl⟩ hc hs (jt_in 588 (by decide +kernel) rfl) (by decide) dL_law_163 (fun r σ1 h => ⟨h.choose, h.choose_spec.1⟩) (fun v σ1 H locs hq hW => ?_)
  obtain ⟨v1, hv1, hM⟩ := hq
  cases hv1
  obtain ⟨-, -, -, -, -, hS⟩ := id hW
  refine lv_aload_n hx hb dL_law_166 rfl (lv_at hl 2 rfl) ?_
  refine lw_arg (k := 1) C hS hl hi (by omega) dL_law_167 dL_law_168 dL_law_170 dL_law_171 dL_law_172 ?_
  refine lw_arg (k := 2) C hS hl hi (by omega) dL_law_173 dL_law_174 dL_law_176 dL_law_177 dL_law_178 ?_
  refine lw_arg (k := 3) C hS hl hi (by omega) dL_law_179 dL_law_180 dL_law_182 dL_law_183 dL_law_184 ?_
  refine lw_arg (k := 4) C hS hl hi (by omega) dL_law_185 dL_law_186 dL_law_188 dL_law_189 dL_law_190 ?_
  refine lw_arg (k := 5) C hS hl hi (by omega) dL_law_191 dL_law_192 dL_law_194 dL_law_195 dL_law_196 ?_
  refine lw_call2 (y := 156) (idx := 29) (q := 10) (o := 121) (as := [vI (xs (6 * i + 1)), vI (xs (6 * i + 2)), vI (xs (6 * i + 3)), vI (xs (6 * i + 4)), vI (xs (6 * i + 5))]) (vs := [.int (xs (6 * i + 1)), .int (xs (6 * i + 2)), .int (xs (6 * i + 3)), .int (xs (6 * i + 4)), .int (xs (6 * i + 5))]) (rest := [.int v]) C hW hl.1 (by decide) hM (j2_oks_c.mpr ⟨lw_o10, fun w hw => by simp at hw; rcases hw with rfl | rfl | rfl | rfl | rfl <;> trivial⟩) rfl ⟨by decide +kernel, by decide +kernel, by decide +kernel, by decide +kernel, rfl⟩ hc hs (jt_in 1850 (by decide +kernel) rfl) (by show 1 ≤ 8; omega) dL_law_197 (fun r σ2 h => ⟨_, h.1⟩) (fun v2 σ2 H locs hq hW => ?_)
  obtain ⟨hv2, hJ⟩ := hq
  cases hv2
  exact lv_icmp_eq (tgt := 885) hx hb dL_law_200 (by decide) (fun _ => kk _ _ _ hJ hW) (fun h => absurd rfl h)
set_option maxRecDepth 100000 in
theorem lw_case1 (C : lw_C p s m meth c b L xs D cI cB cZ cJ tA) (hW : lw_Wd s D cI cB cZ cJ tA σ H locs) (hl : lv_has ls 7 (lw_ll s.heap.size b (nI (6 * i)))) (hi : 6 * i + 6 ≤ L) (hc : cells ≤ 247135) (hs : slots ≤ 8360832) (hstep : lw_S2 J 130 157 [vI (xs (6 * i + 1))] σ)
    (kk : ∀ (σ' : j2_S) (H : Heap) (locs : List Loc), J σ' → lw_Wd s D cI cB cZ cJ tA σ' H locs → W p l e room_1 s m #[Value.ref b] below meth c H locs cells slots Q (F0 m 885 ls [])) : W p l e room_1 s m #[Value.ref b] below meth c H locs cells slots Q (F0 m 205 ls []) := by
  obtain ⟨⟨hx, hb, -⟩, -⟩ := id C
  obtain ⟨-, -, -, -, -, hS⟩ := id hW
  refine lv_aload_n hx hb dL_law_205 rfl (lv_at hl 3 rfl) ?_
  refine lw_arg (k := 1) C hS hl hi (by omega) dL_law_206 dL_law_207 dL_law_209 dL_law_210 dL_law_211 ?_
  refine lw_call2 (y := 130) (idx := 30) (q := 9) (o := 0) (as := [vI (xs (6 * i + 1))]) (vs := [.int (xs (6 * i + 1))]) (rest := []) C hW hl.1 (by decide) hstep (j2_oks_c.mpr ⟨lw_o9, fun w hw => by rw [List.mem_singleton.mp hw]; trivial⟩) rfl ⟨by decide +kernel, by decide +kernel, by decide +kernel, by decide +kernel, rfl⟩ hc hs (jt_in 596 (by decide +kernel) rfl) (by decide) dL_law_212 (fun r σ1 h => ⟨h.choose, h.choose_spec.1⟩) (fun v σ1 H locs hq hW => ?_)
  obtain ⟨v1, hv1, hM⟩ := hq
  cases hv1
  obtain ⟨-, -, -, -, -, hS⟩ := id hW
  refine lv_aload_n hx hb dL_law_215 rfl (lv_at hl 2 rfl) ?_
  refine lw_arg (k := 1) C hS hl hi (by omega) dL_law_216 dL_law_217 dL_law_219 dL_law_220 dL_law_221 ?_
  refine lw_call2 (y := 157) (idx := 34) (q := 10) (o := 121) (as := [vI (xs (6 * i + 1))]) (vs := [.int (xs (6 * i + 1))]) (rest := [.int v]) C hW hl.1 (by decide) hM (j2_oks_c.mpr ⟨lw_o10, fun w hw => by rw [List.mem_singleton.mp hw]; trivial⟩) rfl ⟨by decide +kernel, by decide +kernel, by decide +kernel, by decide +kernel, rfl⟩ hc hs (jt_in 1854 (by decide +kernel) rfl) (by show 1 ≤ 8; omega) dL_law_222 (fun r σ2 h => ⟨_, h.1⟩) (fun v2 σ2 H locs hq hW => ?_)
  obtain ⟨hv2, hJ⟩ := hq
  cases hv2
  exact lv_icmp_eq (tgt := 885) hx hb dL_law_225 (by decide) (fun _ => kk _ _ _ hJ hW) (fun h => absurd rfl h)
set_option maxRecDepth 100000 in
theorem lw_case2 (C : lw_C p s m meth c b L xs D cI cB cZ cJ tA) (hW : lw_Wd s D cI cB cZ cJ tA σ H locs) (hl : lv_has ls 7 (lw_ll s.heap.size b (nI (6 * i)))) (hi : 6 * i + 6 ≤ L) (hc : cells ≤ 247135) (hs : slots ≤ 8360832) (hstep : lw_S2 J 131 185 [] σ)
    (kk : ∀ (σ' : j2_S) (H : Heap) (locs : List Loc), J σ' → lw_Wd s D cI cB cZ cJ tA σ' H locs → W p l e room_1 s m #[Value.ref b] below meth c H locs cells slots Q (F0 m 885 ls [])) : W p l e room_1 s m #[Value.ref b] below meth c H locs cells slots Q (F0 m 230 ls []) := by
  obtain ⟨⟨hx, hb, -⟩, -⟩ := id C
  obtain ⟨-, -, -, -, -, hS⟩ := id hW
  refine lv_aload_n hx hb dL_law_230 rfl (lv_at hl 3 rfl) ?_
  refine lw_call2 (y := 131) (idx := 35) (q := 9) (o := 0) (as := []) (vs := []) (rest := []) C hW hl.1 (by decide) hstep (j2_oks_c.mpr ⟨lw_o9, fun w hw => by cases hw⟩) rfl ⟨by decide +kernel, by decide +kernel, by decide +kernel, by decide +kernel, rfl⟩ hc hs (jt_in 600 (by decide +kernel) rfl) (by decide) dL_law_231 (fun r σ1 h => ⟨h.choose, h.choose_spec.1⟩) (fun v σ1 H locs hq hW => ?_)
  obtain ⟨v1, hv1, hM⟩ := hq
  cases hv1
  obtain ⟨-, -, -, -, -, hS⟩ := id hW
  refine lv_aload_n hx hb dL_law_234 rfl (lv_at hl 2 rfl) ?_
  refine lw_call2 (y := 185) (idx := 39) (q := 10) (o := 121) (as := []) (vs := []) (rest := [.int v]) C hW hl.1 (by decide) hM (j2_oks_c.mpr ⟨lw_o10, fun w hw => by cases hw⟩) rfl ⟨by decide +kernel, by decide +kernel, by decide +kernel, by decide +kernel, rfl⟩ hc hs (jt_in 1858 (by decide +kernel) rfl) (by show 1 ≤ 8; omega) dL_law_235 (fun r σ2 h => ⟨_, h.1⟩) (fun v2 σ2 H locs hq hW => ?_)
  obtain ⟨hv2, hJ⟩ := hq
  cases hv2
  exact lv_icmp_eq (tgt := 885) hx hb dL_law_238 (by decide) (fun _ => kk _ _ _ hJ hW) (fun h => absurd rfl h)
set_option maxRecDepth 100000 in
theorem lw_case3 (C : lw_C p s m meth c b L xs D cI cB cZ cJ tA) (hW : lw_Wd s D cI cB cZ cJ tA σ H locs) (hl : lv_has ls 7 (lw_ll s.heap.size b (nI (6 * i)))) (hi : 6 * i + 6 ≤ L) (hc : cells ≤ 247135) (hs : slots ≤ 8360832) (hstep : lw_S2 J 134 186 [vI (xs (6 * i + 1))] σ)
    (kk : ∀ (σ' : j2_S) (H : Heap) (locs : List Loc), J σ' → lw_Wd s D cI cB cZ cJ tA σ' H locs → W p l e room_1 s m #[Value.ref b] below meth c H locs cells slots Q (F0 m 885 ls [])) : W p l e room_1 s m #[Value.ref b] below meth c H locs cells slots Q (F0 m 243 ls []) := by
  obtain ⟨⟨hx, hb, -⟩, -⟩ := id C
  obtain ⟨-, -, -, -, -, hS⟩ := id hW
  refine lv_aload_n hx hb dL_law_243 rfl (lv_at hl 3 rfl) ?_
  refine lw_arg (k := 1) C hS hl hi (by omega) dL_law_244 dL_law_245 dL_law_247 dL_law_248 dL_law_249 ?_
  refine lw_call2 (y := 134) (idx := 40) (q := 9) (o := 0) (as := [vI (xs (6 * i + 1))]) (vs := [.int (xs (6 * i + 1))]) (rest := []) C hW hl.1 (by decide) hstep (j2_oks_c.mpr ⟨lw_o9, fun w hw => by rw [List.mem_singleton.mp hw]; trivial⟩) rfl ⟨by decide +kernel, by decide +kernel, by decide +kernel, by decide +kernel, rfl⟩ hc hs (jt_in 1093 (by decide +kernel) rfl) (by decide) dL_law_250 (fun r σ1 h => ⟨h.choose, h.choose_spec.1⟩) (fun v σ1 H locs hq hW => ?_)
  obtain ⟨v1, hv1, hM⟩ := hq
  cases hv1
  obtain ⟨-, -, -, -, -, hS⟩ := id hW
  refine lv_aload_n hx hb dL_law_253 rfl (lv_at hl 2 rfl) ?_
  refine lw_arg (k := 1) C hS hl hi (by omega) dL_law_254 dL_law_255 dL_law_257 dL_law_258 dL_law_259 ?_
  refine lw_call2 (y := 186) (idx := 43) (q := 10) (o := 121) (as := [vI (xs (6 * i + 1))]) (vs := [.int (xs (6 * i + 1))]) (rest := [.int v]) C hW hl.1 (by decide) hM (j2_oks_c.mpr ⟨lw_o10, fun w hw => by rw [List.mem_singleton.mp hw]; trivial⟩) rfl ⟨by decide +kernel, by decide +kernel, by decide +kernel, by decide +kernel, rfl⟩ hc hs (jt_in 1967 (by decide +kernel) rfl) (by show 1 ≤ 8; omega) dL_law_260 (fun r σ2 h => ⟨_, h.1⟩) (fun v2 σ2 H locs hq hW => ?_)
  obtain ⟨hv2, hJ⟩ := hq
  cases hv2
  exact lv_icmp_eq (tgt := 885) hx hb dL_law_263 (by decide) (fun _ => kk _ _ _ hJ hW) (fun h => absurd rfl h)
set_option maxRecDepth 100000 in
theorem lw_case4 (C : lw_C p s m meth c b L xs D cI cB cZ cJ tA) (hW : lw_Wd s D cI cB cZ cJ tA σ H locs) (hl : lv_has ls 7 (lw_ll s.heap.size b (nI (6 * i)))) (hi : 6 * i + 6 ≤ L) (hc : cells ≤ 247135) (hs : slots ≤ 8360832) (hstep : lw_S2 J 135 188 [vI (lw_b (xs (6 * i + 1))), vI (xs (6 * i + 2))] σ)
    (kk : ∀ (σ' : j2_S) (H : Heap) (locs : List Loc), J σ' → lw_Wd s D cI cB cZ cJ tA σ' H locs → W p l e room_1 s m #[Value.ref b] below meth c H locs cells slots Q (F0 m 885 ls [])) : W p l e room_1 s m #[Value.ref b] below meth c H locs cells slots Q (F0 m 268 ls []) := by
  obtain ⟨⟨hx, hb, -⟩, -⟩ := id C
  obtain ⟨-, -, -, -, -, hS⟩ := id hW
  refine lv_aload_n hx hb dL_law_268 rfl (lv_at hl 3 rfl) ?_
  refine lw_arg (k := 1) C hS hl hi (by omega) dL_law_269 dL_law_270 dL_law_272 dL_law_273 dL_law_274 ?_
  refine lw_bool C dL_law_275 dL_law_278 dL_law_279 dL_law_282 ?_
  refine lw_arg (k := 2) C hS hl hi (by omega) dL_law_283 dL_law_284 dL_law_286 dL_law_287 dL_law_288 ?_
  refine lw_call2 (y := 135) (idx := 44) (q := 9) (o := 0) (as := [vI (lw_b (xs (6 * i + 1))), vI (xs (6 * i + 2))]) (vs := [.int (lw_b (xs (6 * i + 1))), .int (xs (6 * i + 2))]) (rest := []) C hW hl.1 (by decide) hstep (j2_oks_c.mpr ⟨lw_o9, fun w hw => by simp at hw; rcases hw with rfl | rfl <;> trivial⟩) rfl ⟨by decide +kernel, by decide +kernel, by decide +kernel, by decide +kernel, rfl⟩ hc hs (jt_in 1097 (by decide +kernel) rfl) (by decide) dL_law_289 (fun r σ1 h => ⟨h.choose, h.choose_spec.1⟩) (fun v σ1 H locs hq hW => ?_)
  obtain ⟨v1, hv1, hM⟩ := hq
  cases hv1
  obtain ⟨-, -, -, -, -, hS⟩ := id hW
  refine lv_aload_n hx hb dL_law_292 rfl (lv_at hl 2 rfl) ?_
  refine lw_arg (k := 1) C hS hl hi (by omega) dL_law_293 dL_law_294 dL_law_296 dL_law_297 dL_law_298 ?_
  refine lw_bool C dL_law_299 dL_law_302 dL_law_303 dL_law_306 ?_
  refine lw_arg (k := 2) C hS hl hi (by omega) dL_law_307 dL_law_308 dL_law_310 dL_law_311 dL_law_312 ?_
  refine lw_call2 (y := 188) (idx := 48) (q := 10) (o := 121) (as := [vI (lw_b (xs (6 * i + 1))), vI (xs (6 * i + 2))]) (vs := [.int (lw_b (xs (6 * i + 1))), .int (xs (6 * i + 2))]) (rest := [.int v]) C hW hl.1 (by decide) hM (j2_oks_c.mpr ⟨lw_o10, fun w hw => by simp at hw; rcases hw with rfl | rfl <;> trivial⟩) rfl ⟨by decide +kernel, by decide +kernel, by decide +kernel, by decide +kernel, rfl⟩ hc hs (jt_in 1971 (by decide +kernel) rfl) (by show 1 ≤ 8; omega) dL_law_313 (fun r σ2 h => ⟨_, h.1⟩) (fun v2 σ2 H locs hq hW => ?_)
  obtain ⟨hv2, hJ⟩ := hq
  cases hv2
  exact lv_icmp_eq (tgt := 885) hx hb dL_law_316 (by decide) (fun _ => kk _ _ _ hJ hW) (fun h => absurd rfl h)
set_option maxRecDepth 100000 in
theorem lw_case5 (C : lw_C p s m meth c b L xs D cI cB cZ cJ tA) (hW : lw_Wd s D cI cB cZ cJ tA σ H locs) (hl : lv_has ls 7 (lw_ll s.heap.size b (nI (6 * i)))) (hi : 6 * i + 6 ≤ L) (hc : cells ≤ 247135) (hs : slots ≤ 8360832) (hstep : lw_S2 J 136 189 [vI (lw_b (xs (6 * i + 1))), vI (xs (6 * i + 2)), vI (xs (6 * i + 3)), vI (xs (6 * i + 4))] σ)
    (kk : ∀ (σ' : j2_S) (H : Heap) (locs : List Loc), J σ' → lw_Wd s D cI cB cZ cJ tA σ' H locs → W p l e room_1 s m #[Value.ref b] below meth c H locs cells slots Q (F0 m 885 ls [])) : W p l e room_1 s m #[Value.ref b] below meth c H locs cells slots Q (F0 m 321 ls []) := by
  obtain ⟨⟨hx, hb, -⟩, -⟩ := id C
  obtain ⟨-, -, -, -, -, hS⟩ := id hW
  refine lv_aload_n hx hb dL_law_321 rfl (lv_at hl 3 rfl) ?_
  refine lw_arg (k := 1) C hS hl hi (by omega) dL_law_322 dL_law_323 dL_law_325 dL_law_326 dL_law_327 ?_
  refine lw_bool C dL_law_328 dL_law_331 dL_law_332 dL_law_335 ?_
  refine lw_arg (k := 2) C hS hl hi (by omega) dL_law_336 dL_law_337 dL_law_339 dL_law_340 dL_law_341 ?_
  refine lw_arg (k := 3) C hS hl hi (by omega) dL_law_342 dL_law_343 dL_law_345 dL_law_346 dL_law_347 ?_
  refine lw_arg (k := 4) C hS hl hi (by omega) dL_law_348 dL_law_349 dL_law_351 dL_law_352 dL_law_353 ?_
  refine lw_call2 (y := 136) (idx := 49) (q := 9) (o := 0) (as := [vI (lw_b (xs (6 * i + 1))), vI (xs (6 * i + 2)), vI (xs (6 * i + 3)), vI (xs (6 * i + 4))]) (vs := [.int (lw_b (xs (6 * i + 1))), .int (xs (6 * i + 2)), .int (xs (6 * i + 3)), .int (xs (6 * i + 4))]) (rest := []) C hW hl.1 (by decide) hstep (j2_oks_c.mpr ⟨lw_o9, fun w hw => by simp at hw; rcases hw with rfl | rfl | rfl | rfl <;> trivial⟩) rfl ⟨by decide +kernel, by decide +kernel, by decide +kernel, by decide +kernel, rfl⟩ hc hs (jt_in 1109 (by decide +kernel) rfl) (by decide) dL_law_354 (fun r σ1 h => ⟨h.choose, h.choose_spec.1⟩) (fun v σ1 H locs hq hW => ?_)
  obtain ⟨v1, hv1, hM⟩ := hq
  cases hv1
  obtain ⟨-, -, -, -, -, hS⟩ := id hW
  refine lv_aload_n hx hb dL_law_357 rfl (lv_at hl 2 rfl) ?_
  refine lw_arg (k := 1) C hS hl hi (by omega) dL_law_358 dL_law_359 dL_law_361 dL_law_362 dL_law_363 ?_
  refine lw_bool C dL_law_364 dL_law_367 dL_law_368 dL_law_371 ?_
  refine lw_arg (k := 2) C hS hl hi (by omega) dL_law_372 dL_law_373 dL_law_375 dL_law_376 dL_law_377 ?_
  refine lw_arg (k := 3) C hS hl hi (by omega) dL_law_378 dL_law_379 dL_law_381 dL_law_382 dL_law_383 ?_
  refine lw_arg (k := 4) C hS hl hi (by omega) dL_law_384 dL_law_385 dL_law_387 dL_law_388 dL_law_389 ?_
  refine lw_call2 (y := 189) (idx := 53) (q := 10) (o := 121) (as := [vI (lw_b (xs (6 * i + 1))), vI (xs (6 * i + 2)), vI (xs (6 * i + 3)), vI (xs (6 * i + 4))]) (vs := [.int (lw_b (xs (6 * i + 1))), .int (xs (6 * i + 2)), .int (xs (6 * i + 3)), .int (xs (6 * i + 4))]) (rest := [.int v]) C hW hl.1 (by decide) hM (j2_oks_c.mpr ⟨lw_o10, fun w hw => by simp at hw; rcases hw with rfl | rfl | rfl | rfl <;> trivial⟩) rfl ⟨by decide +kernel, by decide +kernel, by decide +kernel, by decide +kernel, rfl⟩ hc hs (jt_in 1979 (by decide +kernel) rfl) (by show 1 ≤ 8; omega) dL_law_390 (fun r σ2 h => ⟨_, h.1⟩) (fun v2 σ2 H locs hq hW => ?_)
  obtain ⟨hv2, hJ⟩ := hq
  cases hv2
  exact lv_icmp_eq (tgt := 885) hx hb dL_law_393 (by decide) (fun _ => kk _ _ _ hJ hW) (fun h => absurd rfl h)
set_option maxRecDepth 100000 in
theorem lw_case6 (C : lw_C p s m meth c b L xs D cI cB cZ cJ tA) (hW : lw_Wd s D cI cB cZ cJ tA σ H locs) (hl : lv_has ls 7 (lw_ll s.heap.size b (nI (6 * i)))) (hi : 6 * i + 6 ≤ L) (hc : cells ≤ 247135) (hs : slots ≤ 8360832) (hstep : lw_S2 J 137 190 [vI (xs (6 * i + 1)), vI (xs (6 * i + 2)), vI (xs (6 * i + 3))] σ)
    (kk : ∀ (σ' : j2_S) (H : Heap) (locs : List Loc), J σ' → lw_Wd s D cI cB cZ cJ tA σ' H locs → W p l e room_1 s m #[Value.ref b] below meth c H locs cells slots Q (F0 m 885 ls [])) : W p l e room_1 s m #[Value.ref b] below meth c H locs cells slots Q (F0 m 398 ls []) := by
  obtain ⟨⟨hx, hb, -⟩, -⟩ := id C
  obtain ⟨-, -, -, -, -, hS⟩ := id hW
  refine lv_aload_n hx hb dL_law_398 rfl (lv_at hl 3 rfl) ?_
  refine lw_arg (k := 1) C hS hl hi (by omega) dL_law_399 dL_law_400 dL_law_402 dL_law_403 dL_law_404 ?_
  refine lw_arg (k := 2) C hS hl hi (by omega) dL_law_405 dL_law_406 dL_law_408 dL_law_409 dL_law_410 ?_
  refine lw_arg (k := 3) C hS hl hi (by omega) dL_law_411 dL_law_412 dL_law_414 dL_law_415 dL_law_416 ?_
  refine lw_call2 (y := 137) (idx := 54) (q := 9) (o := 0) (as := [vI (xs (6 * i + 1)), vI (xs (6 * i + 2)), vI (xs (6 * i + 3))]) (vs := [.int (xs (6 * i + 1)), .int (xs (6 * i + 2)), .int (xs (6 * i + 3))]) (rest := []) C hW hl.1 (by decide) hstep (j2_oks_c.mpr ⟨lw_o9, fun w hw => by simp at hw; rcases hw with rfl | rfl | rfl <;> trivial⟩) rfl ⟨by decide +kernel, by decide +kernel, by decide +kernel, by decide +kernel, rfl⟩ hc hs (jt_in 1114 (by decide +kernel) rfl) (by decide) dL_law_417 (fun r σ1 h => ⟨h.choose, h.choose_spec.1⟩) (fun v σ1 H locs hq hW => ?_)
  obtain ⟨v1, hv1, hM⟩ := hq
  cases hv1
  obtain ⟨-, -, -, -, -, hS⟩ := id hW
  refine lv_aload_n hx hb dL_law_420 rfl (lv_at hl 2 rfl) ?_
  refine lw_arg (k := 1) C hS hl hi (by omega) dL_law_421 dL_law_422 dL_law_424 dL_law_425 dL_law_426 ?_
  refine lw_arg (k := 2) C hS hl hi (by omega) dL_law_427 dL_law_428 dL_law_430 dL_law_431 dL_law_432 ?_
  refine lw_arg (k := 3) C hS hl hi (by omega) dL_law_433 dL_law_434 dL_law_436 dL_law_437 dL_law_438 ?_
  refine lw_call2 (y := 190) (idx := 58) (q := 10) (o := 121) (as := [vI (xs (6 * i + 1)), vI (xs (6 * i + 2)), vI (xs (6 * i + 3))]) (vs := [.int (xs (6 * i + 1)), .int (xs (6 * i + 2)), .int (xs (6 * i + 3))]) (rest := [.int v]) C hW hl.1 (by decide) hM (j2_oks_c.mpr ⟨lw_o10, fun w hw => by simp at hw; rcases hw with rfl | rfl | rfl <;> trivial⟩) rfl ⟨by decide +kernel, by decide +kernel, by decide +kernel, by decide +kernel, rfl⟩ hc hs (jt_in 1983 (by decide +kernel) rfl) (by show 1 ≤ 8; omega) dL_law_439 (fun r σ2 h => ⟨_, h.1⟩) (fun v2 σ2 H locs hq hW => ?_)
  obtain ⟨hv2, hJ⟩ := hq
  cases hv2
  exact lv_icmp_eq (tgt := 885) hx hb dL_law_442 (by decide) (fun _ => kk _ _ _ hJ hW) (fun h => absurd rfl h)
set_option maxRecDepth 100000 in
theorem lw_case7 (C : lw_C p s m meth c b L xs D cI cB cZ cJ tA) (hW : lw_Wd s D cI cB cZ cJ tA σ H locs) (hl : lv_has ls 7 (lw_ll s.heap.size b (nI (6 * i)))) (hi : 6 * i + 6 ≤ L) (hc : cells ≤ 247135) (hs : slots ≤ 8360832) (hstep : lw_S2 J 139 191 [vI (xs (6 * i + 1))] σ)
    (kk : ∀ (σ' : j2_S) (H : Heap) (locs : List Loc), J σ' → lw_Wd s D cI cB cZ cJ tA σ' H locs → W p l e room_1 s m #[Value.ref b] below meth c H locs cells slots Q (F0 m 885 ls [])) : W p l e room_1 s m #[Value.ref b] below meth c H locs cells slots Q (F0 m 447 ls []) := by
  obtain ⟨⟨hx, hb, -⟩, -⟩ := id C
  obtain ⟨-, -, -, -, -, hS⟩ := id hW
  refine lv_aload_n hx hb dL_law_447 rfl (lv_at hl 3 rfl) ?_
  refine lw_arg (k := 1) C hS hl hi (by omega) dL_law_448 dL_law_449 dL_law_451 dL_law_452 dL_law_453 ?_
  refine lw_call2 (y := 139) (idx := 59) (q := 9) (o := 0) (as := [vI (xs (6 * i + 1))]) (vs := [.int (xs (6 * i + 1))]) (rest := []) C hW hl.1 (by decide) hstep (j2_oks_c.mpr ⟨lw_o9, fun w hw => by rw [List.mem_singleton.mp hw]; trivial⟩) rfl ⟨by decide +kernel, by decide +kernel, by decide +kernel, by decide +kernel, rfl⟩ hc hs (jt_in 1138 (by decide +kernel) rfl) (by decide) dL_law_454 (fun r σ1 h => ⟨h.choose, h.choose_spec.1⟩) (fun v σ1 H locs hq hW => ?_)
  obtain ⟨v1, hv1, hM⟩ := hq
  cases hv1
  obtain ⟨-, -, -, -, -, hS⟩ := id hW
  refine lv_aload_n hx hb dL_law_457 rfl (lv_at hl 2 rfl) ?_
  refine lw_arg (k := 1) C hS hl hi (by omega) dL_law_458 dL_law_459 dL_law_461 dL_law_462 dL_law_463 ?_
  refine lw_call2 (y := 191) (idx := 62) (q := 10) (o := 121) (as := [vI (xs (6 * i + 1))]) (vs := [.int (xs (6 * i + 1))]) (rest := [.int v]) C hW hl.1 (by decide) hM (j2_oks_c.mpr ⟨lw_o10, fun w hw => by rw [List.mem_singleton.mp hw]; trivial⟩) rfl ⟨by decide +kernel, by decide +kernel, by decide +kernel, by decide +kernel, rfl⟩ hc hs (jt_in 1987 (by decide +kernel) rfl) (by show 1 ≤ 8; omega) dL_law_464 (fun r σ2 h => ⟨_, h.1⟩) (fun v2 σ2 H locs hq hW => ?_)
  obtain ⟨hv2, hJ⟩ := hq
  cases hv2
  exact lv_icmp_eq (tgt := 885) hx hb dL_law_467 (by decide) (fun _ => kk _ _ _ hJ hW) (fun h => absurd rfl h)
set_option maxRecDepth 100000 in
theorem lw_case9 (C : lw_C p s m meth c b L xs D cI cB cZ cJ tA) (hW : lw_Wd s D cI cB cZ cJ tA σ H locs) (hl : lv_has ls 7 (lw_ll s.heap.size b (nI (6 * i)))) (hi : 6 * i + 6 ≤ L) (hc : cells ≤ 247135) (hs : slots ≤ 8360832) (hstep : lw_S2 J 141 227 [vI (xs (6 * i + 1))] σ)
    (kk : ∀ (σ' : j2_S) (H : Heap) (locs : List Loc), J σ' → lw_Wd s D cI cB cZ cJ tA σ' H locs → W p l e room_1 s m #[Value.ref b] below meth c H locs cells slots Q (F0 m 885 ls [])) : W p l e room_1 s m #[Value.ref b] below meth c H locs cells slots Q (F0 m 528 ls []) := by
  obtain ⟨⟨hx, hb, -⟩, -⟩ := id C
  obtain ⟨-, -, -, -, -, hS⟩ := id hW
  refine lv_aload_n hx hb dL_law_528 rfl (lv_at hl 3 rfl) ?_
  refine lw_arg (k := 1) C hS hl hi (by omega) dL_law_529 dL_law_530 dL_law_532 dL_law_533 dL_law_534 ?_
  refine lw_call2 (y := 141) (idx := 72) (q := 9) (o := 0) (as := [vI (xs (6 * i + 1))]) (vs := [.int (xs (6 * i + 1))]) (rest := []) C hW hl.1 (by decide) hstep (j2_oks_c.mpr ⟨lw_o9, fun w hw => by rw [List.mem_singleton.mp hw]; trivial⟩) rfl ⟨by decide +kernel, by decide +kernel, by decide +kernel, by decide +kernel, rfl⟩ hc hs (jt_in 1143 (by decide +kernel) rfl) (by decide) dL_law_535 (fun r σ1 h => ⟨h.choose, h.choose_spec.1⟩) (fun v σ1 H locs hq hW => ?_)
  obtain ⟨v1, hv1, hM⟩ := hq
  cases hv1
  obtain ⟨-, -, -, -, -, hS⟩ := id hW
  refine lv_aload_n hx hb dL_law_538 rfl (lv_at hl 2 rfl) ?_
  refine lw_arg (k := 1) C hS hl hi (by omega) dL_law_539 dL_law_540 dL_law_542 dL_law_543 dL_law_544 ?_
  refine lw_call2 (y := 227) (idx := 75) (q := 10) (o := 121) (as := [vI (xs (6 * i + 1))]) (vs := [.int (xs (6 * i + 1))]) (rest := [.int v]) C hW hl.1 (by decide) hM (j2_oks_c.mpr ⟨lw_o10, fun w hw => by rw [List.mem_singleton.mp hw]; trivial⟩) rfl ⟨by decide +kernel, by decide +kernel, by decide +kernel, by decide +kernel, rfl⟩ hc hs (jt_in 2130 (by decide +kernel) rfl) (by show 1 ≤ 8; omega) dL_law_545 (fun r σ2 h => ⟨_, h.1⟩) (fun v2 σ2 H locs hq hW => ?_)
  obtain ⟨hv2, hJ⟩ := hq
  cases hv2
  exact lv_icmp_eq (tgt := 885) hx hb dL_law_548 (by decide) (fun _ => kk _ _ _ hJ hW) (fun h => absurd rfl h)
set_option maxRecDepth 100000 in
theorem lw_case10 (C : lw_C p s m meth c b L xs D cI cB cZ cJ tA) (hW : lw_Wd s D cI cB cZ cJ tA σ H locs) (hl : lv_has ls 7 (lw_ll s.heap.size b (nI (6 * i)))) (hi : 6 * i + 6 ≤ L) (hc : cells ≤ 247135) (hs : slots ≤ 8360832) (hstep : lw_S2 J 142 228 [vI (xs (6 * i + 1)), vI (xs (6 * i + 2)), vI (xs (6 * i + 3))] σ)
    (kk : ∀ (σ' : j2_S) (H : Heap) (locs : List Loc), J σ' → lw_Wd s D cI cB cZ cJ tA σ' H locs → W p l e room_1 s m #[Value.ref b] below meth c H locs cells slots Q (F0 m 885 ls [])) : W p l e room_1 s m #[Value.ref b] below meth c H locs cells slots Q (F0 m 553 ls []) := by
  obtain ⟨⟨hx, hb, -⟩, -⟩ := id C
  obtain ⟨-, -, -, -, -, hS⟩ := id hW
  refine lv_aload_n hx hb dL_law_553 rfl (lv_at hl 3 rfl) ?_
  refine lw_arg (k := 1) C hS hl hi (by omega) dL_law_554 dL_law_555 dL_law_557 dL_law_558 dL_law_559 ?_
  refine lw_arg (k := 2) C hS hl hi (by omega) dL_law_560 dL_law_561 dL_law_563 dL_law_564 dL_law_565 ?_
  refine lw_arg (k := 3) C hS hl hi (by omega) dL_law_566 dL_law_567 dL_law_569 dL_law_570 dL_law_571 ?_
  refine lw_call2 (y := 142) (idx := 76) (q := 9) (o := 0) (as := [vI (xs (6 * i + 1)), vI (xs (6 * i + 2)), vI (xs (6 * i + 3))]) (vs := [.int (xs (6 * i + 1)), .int (xs (6 * i + 2)), .int (xs (6 * i + 3))]) (rest := []) C hW hl.1 (by decide) hstep (j2_oks_c.mpr ⟨lw_o9, fun w hw => by simp at hw; rcases hw with rfl | rfl | rfl <;> trivial⟩) rfl ⟨by decide +kernel, by decide +kernel, by decide +kernel, by decide +kernel, rfl⟩ hc hs (jt_in 1148 (by decide +kernel) rfl) (by decide) dL_law_572 (fun r σ1 h => ⟨h.choose, h.choose_spec.1⟩) (fun v σ1 H locs hq hW => ?_)
  obtain ⟨v1, hv1, hM⟩ := hq
  cases hv1
  obtain ⟨-, -, -, -, -, hS⟩ := id hW
  refine lv_aload_n hx hb dL_law_575 rfl (lv_at hl 2 rfl) ?_
  refine lw_arg (k := 1) C hS hl hi (by omega) dL_law_576 dL_law_577 dL_law_579 dL_law_580 dL_law_581 ?_
  refine lw_arg (k := 2) C hS hl hi (by omega) dL_law_582 dL_law_583 dL_law_585 dL_law_586 dL_law_587 ?_
  refine lw_arg (k := 3) C hS hl hi (by omega) dL_law_588 dL_law_589 dL_law_591 dL_law_592 dL_law_593 ?_
  refine lw_call2 (y := 228) (idx := 79) (q := 10) (o := 121) (as := [vI (xs (6 * i + 1)), vI (xs (6 * i + 2)), vI (xs (6 * i + 3))]) (vs := [.int (xs (6 * i + 1)), .int (xs (6 * i + 2)), .int (xs (6 * i + 3))]) (rest := [.int v]) C hW hl.1 (by decide) hM (j2_oks_c.mpr ⟨lw_o10, fun w hw => by simp at hw; rcases hw with rfl | rfl | rfl <;> trivial⟩) rfl ⟨by decide +kernel, by decide +kernel, by decide +kernel, by decide +kernel, rfl⟩ hc hs (jt_in 2134 (by decide +kernel) rfl) (by show 1 ≤ 8; omega) dL_law_594 (fun r σ2 h => ⟨_, h.1⟩) (fun v2 σ2 H locs hq hW => ?_)
  obtain ⟨hv2, hJ⟩ := hq
  cases hv2
  exact lv_icmp_eq (tgt := 885) hx hb dL_law_597 (by decide) (fun _ => kk _ _ _ hJ hW) (fun h => absurd rfl h)
set_option maxRecDepth 100000 in
theorem lw_case11 (C : lw_C p s m meth c b L xs D cI cB cZ cJ tA) (hW : lw_Wd s D cI cB cZ cJ tA σ H locs) (hl : lv_has ls 7 (lw_ll s.heap.size b (nI (6 * i)))) (hi : 6 * i + 6 ≤ L) (hc : cells ≤ 247135) (hs : slots ≤ 8360832) (hstep : lw_S2 J 143 229 [vI (xs (6 * i + 1))] σ)
    (kk : ∀ (σ' : j2_S) (H : Heap) (locs : List Loc), J σ' → lw_Wd s D cI cB cZ cJ tA σ' H locs → W p l e room_1 s m #[Value.ref b] below meth c H locs cells slots Q (F0 m 885 ls [])) : W p l e room_1 s m #[Value.ref b] below meth c H locs cells slots Q (F0 m 602 ls []) := by
  obtain ⟨⟨hx, hb, -⟩, -⟩ := id C
  obtain ⟨-, -, -, -, -, hS⟩ := id hW
  refine lv_aload_n hx hb dL_law_602 rfl (lv_at hl 3 rfl) ?_
  refine lw_arg (k := 1) C hS hl hi (by omega) dL_law_603 dL_law_604 dL_law_606 dL_law_607 dL_law_608 ?_
  refine lw_call2 (y := 143) (idx := 80) (q := 9) (o := 0) (as := [vI (xs (6 * i + 1))]) (vs := [.int (xs (6 * i + 1))]) (rest := []) C hW hl.1 (by decide) hstep (j2_oks_c.mpr ⟨lw_o9, fun w hw => by rw [List.mem_singleton.mp hw]; trivial⟩) rfl ⟨by decide +kernel, by decide +kernel, by decide +kernel, by decide +kernel, rfl⟩ hc hs (jt_in 1154 (by decide +kernel) rfl) (by decide) dL_law_609 (fun r σ1 h => ⟨h.choose, h.choose_spec.1⟩) (fun v σ1 H locs hq hW => ?_)
  obtain ⟨v1, hv1, hM⟩ := hq
  cases hv1
  obtain ⟨-, -, -, -, -, hS⟩ := id hW
  refine lv_aload_n hx hb dL_law_612 rfl (lv_at hl 2 rfl) ?_
  refine lw_arg (k := 1) C hS hl hi (by omega) dL_law_613 dL_law_614 dL_law_616 dL_law_617 dL_law_618 ?_
  refine lw_call2 (y := 229) (idx := 83) (q := 10) (o := 121) (as := [vI (xs (6 * i + 1))]) (vs := [.int (xs (6 * i + 1))]) (rest := [.int v]) C hW hl.1 (by decide) hM (j2_oks_c.mpr ⟨lw_o10, fun w hw => by rw [List.mem_singleton.mp hw]; trivial⟩) rfl ⟨by decide +kernel, by decide +kernel, by decide +kernel, by decide +kernel, rfl⟩ hc hs (jt_in 2138 (by decide +kernel) rfl) (by show 1 ≤ 8; omega) dL_law_619 (fun r σ2 h => ⟨_, h.1⟩) (fun v2 σ2 H locs hq hW => ?_)
  obtain ⟨hv2, hJ⟩ := hq
  cases hv2
  exact lv_icmp_eq (tgt := 885) hx hb dL_law_622 (by decide) (fun _ => kk _ _ _ hJ hW) (fun h => absurd rfl h)
set_option maxRecDepth 100000 in
theorem lw_case12 (C : lw_C p s m meth c b L xs D cI cB cZ cJ tA) (hW : lw_Wd s D cI cB cZ cJ tA σ H locs) (hl : lv_has ls 7 (lw_ll s.heap.size b (nI (6 * i)))) (hi : 6 * i + 6 ≤ L) (hc : cells ≤ 247135) (hs : slots ≤ 8360832) (hstep : lw_S2 J 144 230 [vI (xs (6 * i + 1)), vI (xs (6 * i + 2)), vI (xs (6 * i + 3))] σ)
    (kk : ∀ (σ' : j2_S) (H : Heap) (locs : List Loc), J σ' → lw_Wd s D cI cB cZ cJ tA σ' H locs → W p l e room_1 s m #[Value.ref b] below meth c H locs cells slots Q (F0 m 885 ls [])) : W p l e room_1 s m #[Value.ref b] below meth c H locs cells slots Q (F0 m 627 ls []) := by
  obtain ⟨⟨hx, hb, -⟩, -⟩ := id C
  obtain ⟨-, -, -, -, -, hS⟩ := id hW
  refine lv_aload_n hx hb dL_law_627 rfl (lv_at hl 3 rfl) ?_
  refine lw_arg (k := 1) C hS hl hi (by omega) dL_law_628 dL_law_629 dL_law_631 dL_law_632 dL_law_633 ?_
  refine lw_arg (k := 2) C hS hl hi (by omega) dL_law_634 dL_law_635 dL_law_637 dL_law_638 dL_law_639 ?_
  refine lw_arg (k := 3) C hS hl hi (by omega) dL_law_640 dL_law_641 dL_law_643 dL_law_644 dL_law_645 ?_
  refine lw_call2 (y := 144) (idx := 84) (q := 9) (o := 0) (as := [vI (xs (6 * i + 1)), vI (xs (6 * i + 2)), vI (xs (6 * i + 3))]) (vs := [.int (xs (6 * i + 1)), .int (xs (6 * i + 2)), .int (xs (6 * i + 3))]) (rest := []) C hW hl.1 (by decide) hstep (j2_oks_c.mpr ⟨lw_o9, fun w hw => by simp at hw; rcases hw with rfl | rfl | rfl <;> trivial⟩) rfl ⟨by decide +kernel, by decide +kernel, by decide +kernel, by decide +kernel, rfl⟩ hc hs (jt_in 1158 (by decide +kernel) rfl) (by decide) dL_law_646 (fun r σ1 h => ⟨h.choose, h.choose_spec.1⟩) (fun v σ1 H locs hq hW => ?_)
  obtain ⟨v1, hv1, hM⟩ := hq
  cases hv1
  obtain ⟨-, -, -, -, -, hS⟩ := id hW
  refine lv_aload_n hx hb dL_law_649 rfl (lv_at hl 2 rfl) ?_
  refine lw_arg (k := 1) C hS hl hi (by omega) dL_law_650 dL_law_651 dL_law_653 dL_law_654 dL_law_655 ?_
  refine lw_arg (k := 2) C hS hl hi (by omega) dL_law_656 dL_law_657 dL_law_659 dL_law_660 dL_law_661 ?_
  refine lw_arg (k := 3) C hS hl hi (by omega) dL_law_662 dL_law_663 dL_law_665 dL_law_666 dL_law_667 ?_
  refine lw_call2 (y := 230) (idx := 87) (q := 10) (o := 121) (as := [vI (xs (6 * i + 1)), vI (xs (6 * i + 2)), vI (xs (6 * i + 3))]) (vs := [.int (xs (6 * i + 1)), .int (xs (6 * i + 2)), .int (xs (6 * i + 3))]) (rest := [.int v]) C hW hl.1 (by decide) hM (j2_oks_c.mpr ⟨lw_o10, fun w hw => by simp at hw; rcases hw with rfl | rfl | rfl <;> trivial⟩) rfl ⟨by decide +kernel, by decide +kernel, by decide +kernel, by decide +kernel, rfl⟩ hc hs (jt_in 2142 (by decide +kernel) rfl) (by show 1 ≤ 8; omega) dL_law_668 (fun r σ2 h => ⟨_, h.1⟩) (fun v2 σ2 H locs hq hW => ?_)
  obtain ⟨hv2, hJ⟩ := hq
  cases hv2
  exact lv_icmp_eq (tgt := 885) hx hb dL_law_671 (by decide) (fun _ => kk _ _ _ hJ hW) (fun h => absurd rfl h)
set_option maxRecDepth 100000 in
theorem lw_case14 (C : lw_C p s m meth c b L xs D cI cB cZ cJ tA) (hW : lw_Wd s D cI cB cZ cJ tA σ H locs) (hl : lv_has ls 7 (lw_ll s.heap.size b (nI (6 * i)))) (hi : 6 * i + 6 ≤ L) (hc : cells ≤ 247135) (hs : slots ≤ 8360832) (hstep : lw_S2 J 146 242 [vI (xs (6 * i + 1))] σ)
    (kk : ∀ (σ' : j2_S) (H : Heap) (locs : List Loc), J σ' → lw_Wd s D cI cB cZ cJ tA σ' H locs → W p l e room_1 s m #[Value.ref b] below meth c H locs cells slots Q (F0 m 885 ls [])) : W p l e room_1 s m #[Value.ref b] below meth c H locs cells slots Q (F0 m 772 ls []) := by
  obtain ⟨⟨hx, hb, -⟩, -⟩ := id C
  obtain ⟨-, -, -, -, -, hS⟩ := id hW
  refine lv_aload_n hx hb dL_law_772 rfl (lv_at hl 3 rfl) ?_
  refine lw_arg (k := 1) C hS hl hi (by omega) dL_law_773 dL_law_774 dL_law_776 dL_law_777 dL_law_778 ?_
  refine lw_call2 (y := 146) (idx := 92) (q := 9) (o := 0) (as := [vI (xs (6 * i + 1))]) (vs := [.int (xs (6 * i + 1))]) (rest := []) C hW hl.1 (by decide) hstep (j2_oks_c.mpr ⟨lw_o9, fun w hw => by rw [List.mem_singleton.mp hw]; trivial⟩) rfl ⟨by decide +kernel, by decide +kernel, by decide +kernel, by decide +kernel, rfl⟩ hc hs (jt_in 1162 (by decide +kernel) rfl) (by decide) dL_law_779 (fun r σ1 h => ⟨h.choose, h.choose_spec.1⟩) (fun v σ1 H locs hq hW => ?_)
  obtain ⟨v1, hv1, hM⟩ := hq
  cases hv1
  obtain ⟨-, -, -, -, -, hS⟩ := id hW
  refine lv_aload_n hx hb dL_law_782 rfl (lv_at hl 2 rfl) ?_
  refine lw_arg (k := 1) C hS hl hi (by omega) dL_law_783 dL_law_784 dL_law_786 dL_law_787 dL_law_788 ?_
  refine lw_call2 (y := 242) (idx := 95) (q := 10) (o := 121) (as := [vI (xs (6 * i + 1))]) (vs := [.int (xs (6 * i + 1))]) (rest := [.int v]) C hW hl.1 (by decide) hM (j2_oks_c.mpr ⟨lw_o10, fun w hw => by rw [List.mem_singleton.mp hw]; trivial⟩) rfl ⟨by decide +kernel, by decide +kernel, by decide +kernel, by decide +kernel, rfl⟩ hc hs (jt_in 2190 (by decide +kernel) rfl) (by show 1 ≤ 8; omega) dL_law_789 (fun r σ2 h => ⟨_, h.1⟩) (fun v2 σ2 H locs hq hW => ?_)
  obtain ⟨hv2, hJ⟩ := hq
  cases hv2
  exact lv_icmp_eq (tgt := 885) hx hb dL_law_792 (by decide) (fun _ => kk _ _ _ hJ hW) (fun h => absurd rfl h)
set_option maxRecDepth 100000 in
theorem lw_case15 (C : lw_C p s m meth c b L xs D cI cB cZ cJ tA) (hW : lw_Wd s D cI cB cZ cJ tA σ H locs) (hl : lv_has ls 7 (lw_ll s.heap.size b (nI (6 * i)))) (hi : 6 * i + 6 ≤ L) (hc : cells ≤ 247135) (hs : slots ≤ 8360832) (hstep : lw_S2 J 147 243 [vI (xs (6 * i + 1))] σ)
    (kk : ∀ (σ' : j2_S) (H : Heap) (locs : List Loc), J σ' → lw_Wd s D cI cB cZ cJ tA σ' H locs → W p l e room_1 s m #[Value.ref b] below meth c H locs cells slots Q (F0 m 885 ls [])) : W p l e room_1 s m #[Value.ref b] below meth c H locs cells slots Q (F0 m 797 ls []) := by
  obtain ⟨⟨hx, hb, -⟩, -⟩ := id C
  obtain ⟨-, -, -, -, -, hS⟩ := id hW
  refine lv_aload_n hx hb dL_law_797 rfl (lv_at hl 3 rfl) ?_
  refine lw_arg (k := 1) C hS hl hi (by omega) dL_law_798 dL_law_799 dL_law_801 dL_law_802 dL_law_803 ?_
  refine lw_call2 (y := 147) (idx := 96) (q := 9) (o := 0) (as := [vI (xs (6 * i + 1))]) (vs := [.int (xs (6 * i + 1))]) (rest := []) C hW hl.1 (by decide) hstep (j2_oks_c.mpr ⟨lw_o9, fun w hw => by rw [List.mem_singleton.mp hw]; trivial⟩) rfl ⟨by decide +kernel, by decide +kernel, by decide +kernel, by decide +kernel, rfl⟩ hc hs (jt_in 1166 (by decide +kernel) rfl) (by decide) dL_law_804 (fun r σ1 h => ⟨h.choose, h.choose_spec.1⟩) (fun v σ1 H locs hq hW => ?_)
  obtain ⟨v1, hv1, hM⟩ := hq
  cases hv1
  obtain ⟨-, -, -, -, -, hS⟩ := id hW
  refine lv_aload_n hx hb dL_law_807 rfl (lv_at hl 2 rfl) ?_
  refine lw_arg (k := 1) C hS hl hi (by omega) dL_law_808 dL_law_809 dL_law_811 dL_law_812 dL_law_813 ?_
  refine lw_call2 (y := 243) (idx := 99) (q := 10) (o := 121) (as := [vI (xs (6 * i + 1))]) (vs := [.int (xs (6 * i + 1))]) (rest := [.int v]) C hW hl.1 (by decide) hM (j2_oks_c.mpr ⟨lw_o10, fun w hw => by rw [List.mem_singleton.mp hw]; trivial⟩) rfl ⟨by decide +kernel, by decide +kernel, by decide +kernel, by decide +kernel, rfl⟩ hc hs (jt_in 2194 (by decide +kernel) rfl) (by show 1 ≤ 8; omega) dL_law_814 (fun r σ2 h => ⟨_, h.1⟩) (fun v2 σ2 H locs hq hW => ?_)
  obtain ⟨hv2, hJ⟩ := hq
  cases hv2
  exact lv_icmp_eq (tgt := 885) hx hb dL_law_817 (by decide) (fun _ => kk _ _ _ hJ hW) (fun h => absurd rfl h)
set_option maxRecDepth 100000 in
theorem lw_case16 (C : lw_C p s m meth c b L xs D cI cB cZ cJ tA) (hW : lw_Wd s D cI cB cZ cJ tA σ H locs) (hl : lv_has ls 7 (lw_ll s.heap.size b (nI (6 * i)))) (hi : 6 * i + 6 ≤ L) (hc : cells ≤ 247135) (hs : slots ≤ 8360832) (hstep : lw_S2 J 148 244 [vI (xs (6 * i + 1))] σ)
    (kk : ∀ (σ' : j2_S) (H : Heap) (locs : List Loc), J σ' → lw_Wd s D cI cB cZ cJ tA σ' H locs → W p l e room_1 s m #[Value.ref b] below meth c H locs cells slots Q (F0 m 885 ls [])) : W p l e room_1 s m #[Value.ref b] below meth c H locs cells slots Q (F0 m 822 ls []) := by
  obtain ⟨⟨hx, hb, -⟩, -⟩ := id C
  obtain ⟨-, -, -, -, -, hS⟩ := id hW
  refine lv_aload_n hx hb dL_law_822 rfl (lv_at hl 3 rfl) ?_
  refine lw_arg (k := 1) C hS hl hi (by omega) dL_law_823 dL_law_824 dL_law_826 dL_law_827 dL_law_828 ?_
  refine lw_call2 (y := 148) (idx := 100) (q := 9) (o := 0) (as := [vI (xs (6 * i + 1))]) (vs := [.int (xs (6 * i + 1))]) (rest := []) C hW hl.1 (by decide) hstep (j2_oks_c.mpr ⟨lw_o9, fun w hw => by rw [List.mem_singleton.mp hw]; trivial⟩) rfl ⟨by decide +kernel, by decide +kernel, by decide +kernel, by decide +kernel, rfl⟩ hc hs (jt_in 1170 (by decide +kernel) rfl) (by decide) dL_law_829 (fun r σ1 h => ⟨h.choose, h.choose_spec.1⟩) (fun v σ1 H locs hq hW => ?_)
  obtain ⟨v1, hv1, hM⟩ := hq
  cases hv1
  obtain ⟨-, -, -, -, -, hS⟩ := id hW
  refine lv_aload_n hx hb dL_law_832 rfl (lv_at hl 2 rfl) ?_
  refine lw_arg (k := 1) C hS hl hi (by omega) dL_law_833 dL_law_834 dL_law_836 dL_law_837 dL_law_838 ?_
  refine lw_call2 (y := 244) (idx := 103) (q := 10) (o := 121) (as := [vI (xs (6 * i + 1))]) (vs := [.int (xs (6 * i + 1))]) (rest := [.int v]) C hW hl.1 (by decide) hM (j2_oks_c.mpr ⟨lw_o10, fun w hw => by rw [List.mem_singleton.mp hw]; trivial⟩) rfl ⟨by decide +kernel, by decide +kernel, by decide +kernel, by decide +kernel, rfl⟩ hc hs (jt_in 2198 (by decide +kernel) rfl) (by show 1 ≤ 8; omega) dL_law_839 (fun r σ2 h => ⟨_, h.1⟩) (fun v2 σ2 H locs hq hW => ?_)
  obtain ⟨hv2, hJ⟩ := hq
  cases hv2
  exact lv_icmp_eq (tgt := 885) hx hb dL_law_842 (by decide) (fun _ => kk _ _ _ hJ hW) (fun h => absurd rfl h)
set_option maxRecDepth 100000 in
theorem lw_case17 (C : lw_C p s m meth c b L xs D cI cB cZ cJ tA) (hW : lw_Wd s D cI cB cZ cJ tA σ H locs) (hl : lv_has ls 7 (lw_ll s.heap.size b (nI (6 * i)))) (hi : 6 * i + 6 ≤ L) (hc : cells ≤ 247135) (hs : slots ≤ 8360832) (hstep : lw_S2 J 149 245 [vI (xs (6 * i + 1))] σ)
    (kk : ∀ (σ' : j2_S) (H : Heap) (locs : List Loc), J σ' → lw_Wd s D cI cB cZ cJ tA σ' H locs → W p l e room_1 s m #[Value.ref b] below meth c H locs cells slots Q (F0 m 885 ls [])) : W p l e room_1 s m #[Value.ref b] below meth c H locs cells slots Q (F0 m 847 ls []) := by
  obtain ⟨⟨hx, hb, -⟩, -⟩ := id C
  obtain ⟨-, -, -, -, -, hS⟩ := id hW
  refine lv_aload_n hx hb dL_law_847 rfl (lv_at hl 3 rfl) ?_
  refine lw_arg (k := 1) C hS hl hi (by omega) dL_law_848 dL_law_849 dL_law_851 dL_law_852 dL_law_853 ?_
  refine lw_call2 (y := 149) (idx := 104) (q := 9) (o := 0) (as := [vI (xs (6 * i + 1))]) (vs := [.int (xs (6 * i + 1))]) (rest := []) C hW hl.1 (by decide) hstep (j2_oks_c.mpr ⟨lw_o9, fun w hw => by rw [List.mem_singleton.mp hw]; trivial⟩) rfl ⟨by decide +kernel, by decide +kernel, by decide +kernel, by decide +kernel, rfl⟩ hc hs (jt_in 1174 (by decide +kernel) rfl) (by decide) dL_law_854 (fun r σ1 h => ⟨h.choose, h.choose_spec.1⟩) (fun v σ1 H locs hq hW => ?_)
  obtain ⟨v1, hv1, hM⟩ := hq
  cases hv1
  obtain ⟨-, -, -, -, -, hS⟩ := id hW
  refine lv_aload_n hx hb dL_law_857 rfl (lv_at hl 2 rfl) ?_
  refine lw_arg (k := 1) C hS hl hi (by omega) dL_law_858 dL_law_859 dL_law_861 dL_law_862 dL_law_863 ?_
  refine lw_call2 (y := 245) (idx := 107) (q := 10) (o := 121) (as := [vI (xs (6 * i + 1))]) (vs := [.int (xs (6 * i + 1))]) (rest := [.int v]) C hW hl.1 (by decide) hM (j2_oks_c.mpr ⟨lw_o10, fun w hw => by rw [List.mem_singleton.mp hw]; trivial⟩) rfl ⟨by decide +kernel, by decide +kernel, by decide +kernel, by decide +kernel, rfl⟩ hc hs (jt_in 2202 (by decide +kernel) rfl) (by show 1 ≤ 8; omega) dL_law_864 (fun r σ2 h => ⟨_, h.1⟩) (fun v2 σ2 H locs hq hW => ?_)
  obtain ⟨hv2, hJ⟩ := hq
  cases hv2
  exact lv_icmp_eq (tgt := 885) hx hb dL_law_867 (by decide) (fun _ => kk _ _ _ hJ hW) (fun h => absurd rfl h)
set_option maxRecDepth 100000 in
theorem lw_case18 (C : lw_C p s m meth c b L xs D cI cB cZ cJ tA) (hW : lw_Wd s D cI cB cZ cJ tA σ H locs) (hl : lv_has ls 7 (lw_ll s.heap.size b (nI (6 * i)))) (hi : 6 * i + 6 ≤ L) (hc : cells ≤ 247135) (hs : slots ≤ 8360832) (hstep : lw_S2 J 150 246 [] σ)
    (kk : ∀ (σ' : j2_S) (H : Heap) (locs : List Loc), J σ' → lw_Wd s D cI cB cZ cJ tA σ' H locs → W p l e room_1 s m #[Value.ref b] below meth c H locs cells slots Q (F0 m 885 ls [])) : W p l e room_1 s m #[Value.ref b] below meth c H locs cells slots Q (F0 m 872 ls []) := by
  obtain ⟨⟨hx, hb, -⟩, -⟩ := id C
  obtain ⟨-, -, -, -, -, hS⟩ := id hW
  refine lv_aload_n hx hb dL_law_872 rfl (lv_at hl 3 rfl) ?_
  refine lw_call2 (y := 150) (idx := 108) (q := 9) (o := 0) (as := []) (vs := []) (rest := []) C hW hl.1 (by decide) hstep (j2_oks_c.mpr ⟨lw_o9, fun w hw => by cases hw⟩) rfl ⟨by decide +kernel, by decide +kernel, by decide +kernel, by decide +kernel, rfl⟩ hc hs (jt_in 1178 (by decide +kernel) rfl) (by decide) dL_law_873 (fun r σ1 h => ⟨h.choose, h.choose_spec.1⟩) (fun v σ1 H locs hq hW => ?_)
  obtain ⟨v1, hv1, hM⟩ := hq
  cases hv1
  obtain ⟨-, -, -, -, -, hS⟩ := id hW
  refine lv_aload_n hx hb dL_law_876 rfl (lv_at hl 2 rfl) ?_
  refine lw_call2 (y := 246) (idx := 112) (q := 10) (o := 121) (as := []) (vs := []) (rest := [.int v]) C hW hl.1 (by decide) hM (j2_oks_c.mpr ⟨lw_o10, fun w hw => by cases hw⟩) rfl ⟨by decide +kernel, by decide +kernel, by decide +kernel, by decide +kernel, rfl⟩ hc hs (jt_in 2206 (by decide +kernel) rfl) (by show 1 ≤ 8; omega) dL_law_877 (fun r σ2 h => ⟨_, h.1⟩) (fun v2 σ2 H locs hq hW => ?_)
  obtain ⟨hv2, hJ⟩ := hq
  cases hv2
  exact lv_icmp_eq (tgt := 885) hx hb dL_law_880 (by decide) (fun _ => kk _ _ _ hJ hW) (fun h => absurd rfl h)
end LWCASES
