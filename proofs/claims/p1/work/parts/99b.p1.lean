/-! the first call on a fresh object -/
theorem tp0 : tpR c0 r0 := ⟨by decide, by decide, rfl, fun i h0 h1 => by
  have : c0.1 9001 0 = 0 := rfl
  omega⟩
theorem mR0 : mR c0 r0 := ⟨rfl, fun h => absurd rfl h⟩
theorem fR0 : fR c0 r0 := ⟨rfl, fun _ => ⟨rfl, rfl, rfl⟩, fun h => absurd rfl h⟩
abbrev KT : j3_S → j3_S → Prop := fun _ _ => True
theorem ast_r {A : Nat → Nat → Int → Int} {e o : Nat} {i x : Int} : j3_ast A e o i x e o = i_up (A e o) i x := up_r
theorem ast_e {A : Nat → Nat → Int → Int} {e o e' o' : Nat} {i x : Int} (h : (e' == e) = false) : j3_ast A e o i x e' o' = A e' o' := up_e h
theorem upP_r {P : Nat → Nat} {i w : Nat} : j3_upP P i w i = w := by simp [j3_upP]
theorem upP_e {P : Nat → Nat} {i w j : Nat} (h : (j == i) = false) : j3_upP P i w j = P j := by simp [j3_upP, h]
theorem r0_I {e o : Nat} : r0.1 e o = 0 := rfl
theorem r0_A {e o : Nat} {i : Int} : r0.2.2 e o i = 0 := rfl
theorem c0_1 : c0.1 9001 0 = 0 := rfl
theorem c0_9 : c0.2.1 9 = 48 := rfl
set_option maxHeartbeats 2000000 in
theorem p_readM (d : Nat) (Q : j3_P) (hQ : ∀ σ, Q (some (wI 1)) σ) : j3_tc true (d + 4) 185 [wO 10 121] r0 Q := by
  simp [e185, b185_0, e161, b161_0, e159, b159_0, b159_17, e158, b158_0, b161_7, b161_12, b161_20, b161_28, b161_42, b161_57, b185_18, b185_23, b185_28, b185_34, b185_40, up_r, up_e, ast_r, ast_e, iu_r, r0_I, r0_A, wr_id, hQ]
set_option maxHeartbeats 2000000 in
theorem p_readX (d : Nat) (Q : j3_P) (hQ : ∀ σ, Q (some (wI 1)) σ) : j3_tc false (d + 4) 131 [wO 9 0] c0 Q := by
  simp [e131, b131_0, b131_12, b131_40, e132, b132_0, b132_8, b132_18, e64, b64_0, b64_22, b64_27, b64_34, b64_41, b64_54, b64_62, b64_67, e66, b66_0, b66_14, e133, b133_0, up_r, up_e, upP_r, upP_e, c0_1, c0_9, wr_id, hQ]
theorem p_read : q2 KT 131 185 [] c0 r0 := p_readX 16 _ (fun σ => ⟨1, rfl, p_readM 16 _ (fun σ' => ⟨rfl, trivial⟩)⟩)
theorem p_shr {a : Int} (k : Int) (h : (k = 1 ∧ (a < 0 ∨ 12 < a)) ∨ (k = 2 ∧ ¬ a < 0 ∧ ¬ 12 < a)) : q1x KT 226 [wI a] k c0 r0 := by
  unfold q1x
  rcases h with ⟨rfl, h | h⟩ | ⟨rfl, h1, h2⟩
  · rw [e226, b226_0, if_pos h, b226_8]
    refine ⟨⟨_, rfl⟩, ?_⟩
    rw [e155, b155_0]
    simp [j3_up]
  · rw [e226, b226_0]
    by_cases g : a < 0
    · rw [if_pos g, b226_8]
      refine ⟨⟨_, rfl⟩, ?_⟩
      rw [e155, b155_0]
      simp [j3_up]
    · rw [if_neg g, if_pos h, b226_8]
      refine ⟨⟨_, rfl⟩, ?_⟩
      rw [e155, b155_0]
      simp [j3_up]
  · rw [e226, b226_0, if_neg h1, if_neg h2, if_pos (show r0.1 10043 121 = 0 from rfl), b226_19]
    refine ⟨⟨_, rfl⟩, ?_⟩
    rw [e155, b155_0]
    simp [j3_up]
theorem p_run {b a k : Int} : q1x KT 241 [wI b, wI a, wI k] 1 c0 r0 := by
  unfold q1x
  have h0 : ∀ b : Int, (if b = 0 then (j3_up r0.1 10000 121 0, r0.2.1, r0.2.2).1 10043 121 else (j3_up r0.1 10000 121 0, r0.2.1, r0.2.2).1 10044 121) = 0 := by
    intro b
    split <;> simp [j3_up, r0]
  rw [e241, b241_0, s187 (Or.inl (h0 b)), h0 b]
  simp only [Option.toList_some, List.cons_append, List.nil_append]
  rw [b241_6, if_pos rfl, b241_26]
  simp only [up_r]
  rw [if_pos (by omega)]
  refine ⟨⟨_, rfl⟩, ?_⟩
  rw [e155, b155_0]
  simp [j3_up]
theorem p_b (a : Int32) : lw_b a = Int32.ofInt (if a.toInt = 0 then 0 else 1) := by
  unfold lw_b
  have : (a = 0) ↔ a.toInt = 0 := ⟨fun h => by rw [h]; rfl, fun h => Int32.toInt_inj.mp h⟩
  by_cases h : a = 0
  · rw [if_pos h, if_pos (this.mp h)]; rfl
  · rw [if_neg h, if_neg (fun q => h (this.mpr q))]; rfl
theorem p_ok1 (a : Int32) : oks3 [wI a.toInt] := fun w hw => by
  rw [List.mem_singleton] at hw
  rw [hw]
  exact rg_t a
theorem p_okb (b : Int) (hb : rg b) (l : List Int32) : oks3 (wI b :: l.map (fun a => wI a.toInt)) := oks3_c.mpr ⟨hb, fun w hw => by
  obtain ⟨a, -, rfl⟩ := List.mem_map.mp hw
  exact rg_t a⟩
theorem p_okl (l : List Int32) : oks3 (l.map (fun a => wI a.toInt)) := fun w hw => by
  obtain ⟨a, -, rfl⟩ := List.mem_map.mp hw
  exact rg_t a
theorem p_ml (l : List Int32) : (l.map (fun a => wI a.toInt)).map d_w = l.map vI := by
  rw [List.map_map]
  refine List.map_congr_left (fun a _ => ?_)
  exact (v_of a).symm
theorem p_rgb (a : Int32) : rg (if a.toInt = 0 then 0 else 1) := by
  split
  · exact rg0
  · exact ⟨by decide, by decide⟩
theorem p_St {K : j2_S → Prop} (hK : ∀ σ, K σ) : lw_St (fun σ => σ = j2_init) K := by
  intro σ hσ a1 a2 a3 a4 a5
  subst hσ
  have go : ∀ {yX yM : Nat} (l : List Int32), q2 KT yX yM (l.map (fun a => wI a.toInt)) c0 r0 → lw_S2 K yX yM (l.map vI) j2_init := fun l h => by
    rw [init3, ← p_ml]
    exact s2_of (p_okl l) c0_ok r0_ok (fun _ _ _ _ _ => hK _) h
  have gob : ∀ {yX yM : Nat} (l : List Int32), (∀ b : Int, q2 KT yX yM (wI b :: l.map (fun a => wI a.toInt)) c0 r0) → lw_S2 K yX yM (vI (lw_b a1) :: l.map vI) j2_init := fun l h => by
    rw [init3, p_b, ← p_ml]
    exact s2_of (as := wI (if a1.toInt = 0 then 0 else 1) :: l.map (fun a => wI a.toInt)) (p_okb _ (p_rgb a1) l) c0_ok r0_ok (fun _ _ _ _ _ => hK _) (h _)
  have hif : ∀ b : Int, (if b = 0 then c0.1 9005 0 else c0.1 9006 0) = 0 := fun b => by split <;> rfl
  have hir : ∀ b : Int, (if b = 0 then r0.1 10043 121 else r0.1 10044 121) = 0 := fun b => by split <;> rfl
  refine ⟨go [a1, a2, a3, a4, a5] (g128 tp0 trivial (fun _ _ _ _ => trivial)), go [a1] (g130 tp0 trivial (fun _ _ => trivial)), go [] p_read, go [a1] (g134 fR0 trivial), gob [a2] (fun b => n135 (hif b) (hir b) trivial), gob [a2, a3, a4] (fun b => n136 ⟨by decide, by decide⟩ (hif b) (hir b) trivial), go [a1, a2, a3] (n137 rfl rfl trivial), go [a1] (n139 rfl rfl trivial), go [a1] (g141 rfl (fun h => absurd rfl h) trivial), go [a1, a2, a3] (n142 rfl rfl trivial), go [a1] (g143 rfl (fun h => absurd rfl h) trivial), go [a1, a2, a3] (n144 rfl rfl trivial), go [a1] (g146 mR0 trivial), go [a1] (g147 mR0 trivial), go [a1] (g148 mR0 trivial), go [a1] (g149 mR0 trivial), go [] (n150 rfl rfl trivial), hK _⟩
theorem t_12 (a : Int32) : (a ≤ 12) ↔ a.toInt ≤ 12 := Int32.le_iff_toInt_le
theorem t_0 (a : Int32) : (a < 0) ↔ a.toInt < 0 := Int32.lt_iff_toInt_lt
theorem p_Hs {K : j2_S → Prop} (hK : ∀ σ, K σ) : lw_Hs (fun σ => σ = j2_init) K := by
  intro σ hσ a
  subst hσ
  have go : ∀ k : Int, q1x KT 226 [wI a.toInt] k c0 r0 → lw_Sx K 226 [vI a] (Int32.ofInt k) j2_init := fun k h => by
    rw [init3, v_of a]
    exact sx_of (as := [wI a.toInt]) (p_ok1 a) c0_ok r0_ok (fun _ _ _ _ _ => hK _) h
  refine ⟨fun h => go 1 (p_shr 1 (Or.inl ⟨rfl, ?_⟩)), fun h1 h2 _ => go 2 (p_shr 2 (Or.inr ⟨rfl, ?_, ?_⟩)), fun _ _ h => absurd rfl h⟩
  · rw [t_0, t_12] at h
    omega
  · rw [t_0] at h1
    exact h1
  · rw [t_12] at h2
    omega
theorem p_Hr {K : j2_S → Prop} (hK : ∀ σ, K σ) : lw_Hr (fun σ => σ = j2_init) K := by
  intro σ hσ b a k hb
  subst hσ
  have h0 : (if b = 0 then j2_init.1 9005 0 else j2_init.1 9006 0) = 0 := by split <;> rfl
  refine ⟨fun _ => ?_, fun h => absurd h0 h, fun h => absurd h0 h, fun h => absurd h0 h⟩
  rw [init3, v_of b, v_of a, v_of k]
  exact sx_of (as := [wI b.toInt, wI a.toInt, wI k.toInt]) (p_okl [b, a, k]) c0_ok r0_ok (fun _ _ _ _ _ => hK _) p_run
