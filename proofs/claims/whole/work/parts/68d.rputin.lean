/-! the reference: a method's code with its leaves put in -/
def piI : List Nat := [10061]
def piA : List Nat := [10052, 10053, 10054, 10055, 10056, 10057, 10058, 10059, 10060]
/-- the code while it is copied back -/
def cbR (σ : j3_S) (m : Int) (X : Sx) (x : Int) : Prop := ∀ i, 0 ≤ i → i < x → rwR σ (19200 + 120 * m + i) X i (X.a i)
section RPIN
variable {σ σ' σ'' σ0 : j3_S} {P : Pg} {T : Int → Fl} {R : Rs} {X : Sx} {m i bud n0 : Int} {d : Nat} {Q : j3_P} {c : Int → Int} {st : Int → Int} {li la : List Nat}
theorem nwR.fr (h : nwR σ X) (hf : frm li la σ σ') (h1 : li.elem 10061 = false) (h2 : nwA.all (fun e => !la.elem e) = true) : nwR σ' X := by
  have k : ∀ e, nwA.elem e = true → σ'.2.2 e 121 = σ.2.2 e 121 := fun e he => by
    have := List.all_eq_true.1 h2 e (by simpa using he)
    exact hf.2.2 e 121 (by simpa using this)
  refine ⟨by rw [hf.2.1 10061 _ h1]; exact h.1, fun i i0 i1 => ?_⟩
  rw [k 10053 rfl, k 10054 rfl, k 10055 rfl, k 10056 rfl, k 10057 rfl, k 10058 rfl, k 10059 rfl]
  exact h.2 i i0 i1
theorem l199b (m0 : 0 ≤ m) (m1 : m < 80) (n120 : X.n ≤ 120) (hn0 : n0 ≤ 120) (hj : ∀ i, 0 ≤ i → i < X.n → isj (X.op i) = true → 0 ≤ X.a i ∧ X.a i < n0) {x2 x3 x4 : Int} : ∀ (k : Nat) (x : Int) (w6 w7 : j3_W) (σ : j3_S), x + k = X.n → 0 ≤ x → mF m piI piA σ0 σ → nwR σ X → (∀ j, 0 ≤ j → j < n0 → σ.2.2 10060 121 j = st j) → cbR σ m (aiS X st) x → σ.2.2 10025 121 = σ0.2.2 10025 121 → σ.2.2 10026 121 = σ0.2.2 10026 121 → σ.2.2 10052 121 = σ0.2.2 10052 121 → (∀ σ', mF m piI piA σ0 σ' → cbR σ' m (aiS X st) X.n → σ'.2.2 10025 121 = σ0.2.2 10025 121 → σ'.2.2 10026 121 (160 + m) = X.n → σ'.2.2 10052 121 = σ0.2.2 10052 121 → Q none σ') → T199 (d + 1) Q 126 [wO 10 121, wI m, wI x2, wI x3, wI x4, wI x, w6, w7] [] σ
  | 0, x, w6, w7, σ, hx, x0, hf, hw, hs, hcb, h25, h26, h52, hQ => by
    rw [b199_126, hw.1, if_neg (by omega), wr_id (by omega) (by omega)]
    refine ⟨by omega, ?_⟩
    have f1 : mF m piI piA σ (σ.1, σ.2.1, j3_ast σ.2.2 10026 121 (160 + m) X.n) := by
      refine ⟨frm.A rfl frm.rf, fun e he z hz => ?_, fun z hz => ⟨?_, ?_⟩⟩
      · simp only [cd6, List.elem_eq_mem, decide_eq_true_eq, List.mem_cons, List.not_mem_nil, or_false] at he
        show j3_up σ.2.2 10026 121 _ e 121 z = _
        rcases he with rfl | rfl | rfl | rfl | rfl | rfl <;> rw [up_e rfl]
      · show j3_up σ.2.2 10026 121 (i_up (σ.2.2 10026 121) (160 + m) X.n) 10025 121 z = _
        rw [up_e rfl]
      · show j3_up σ.2.2 10026 121 (i_up (σ.2.2 10026 121) (160 + m) X.n) 10026 121 z = _
        rw [up_r, iu_n hz]
    refine hQ _ (hf.tr f1) (fun i i0 i1 => ?_) ?_ ?_ ?_
    · have := hcb i i0 (by omega)
      unfold rwR oR at this ⊢
      simp only [j3_ast]
      rw [up_e rfl, up_e rfl, up_e rfl, up_e rfl, up_e rfl, up_e rfl]
      exact this
    · show j3_up σ.2.2 10026 121 (i_up (σ.2.2 10026 121) (160 + m) X.n) 10025 121 = _
      rw [up_e rfl]; exact h25
    · show j3_up σ.2.2 10026 121 (i_up (σ.2.2 10026 121) (160 + m) X.n) 10026 121 (160 + m) = _
      rw [up_r, iu_r]
    · show j3_up σ.2.2 10026 121 (i_up (σ.2.2 10026 121) (160 + m) X.n) 10052 121 = _
      rw [up_e rfl]; exact h52
  | k + 1, x, w6, w7, σ, hx, x0, hf, hw, hs, hcb, h25, h26, h52, hQ => by
    obtain ⟨r1, r2, r3, r4, r5, r6⟩ := hw.2 x x0 (by omega)
    rw [b199_126, hw.1, if_pos (by omega), s160 (by omega) (by omega) m0 m1 x0 (by omega), show 9600 * 2 + 120 * m + x = 19200 + 120 * m + x by omega]
    simp only [Option.toList_some, List.cons_append, List.nil_append]
    have sp : ∀ i, (aiS X st).a i = if isj (X.op i) = true then st (X.a i) else X.a i := fun _ => rfl
    generalize hσ1 : ((σ.1, σ.2.1, j3_ast σ.2.2 10027 121 (19200 + 120 * m + x) (X.op x)) : j3_S) = σ1
    have e1 : ∀ e, ¬ e = 10027 → σ1.2.2 e 121 = σ.2.2 e 121 := fun e he => by
      rw [← hσ1]
      show j3_up σ.2.2 10027 121 _ e 121 = _
      exact up_ne (fun q => he q.1)
    have e27 : σ1.2.2 10027 121 = i_up (σ.2.2 10027 121) (19200 + 120 * m + x) (X.op x) := by
      rw [← hσ1]
      show j3_up σ.2.2 10027 121 (i_up (σ.2.2 10027 121) (19200 + 120 * m + x) (X.op x)) 10027 121 = _
      rw [up_r]
    have eI : σ1.1 = σ.1 ∧ σ1.2.1 = σ.2.1 := by rw [← hσ1]; exact ⟨rfl, rfl⟩
    have key : T199 (d + 1) Q 169 [wO 10 121, wI m, wI x2, wI x3, wI x4, wI x, wI (19200 + 120 * m + x), w7] [wI ((aiS X st).a x), wI (19200 + 120 * m + x), wA 10028 121] σ1 := by
      rw [b199_169, e1 10055 (by omega), e1 10056 (by omega), e1 10057 (by omega), e1 10058 (by omega), wr_id (by omega) (by omega)]
      refine ⟨by omega, by omega, by omega, by omega, by omega, by omega, by omega, by omega, by omega, ?_⟩
      rw [r3, r5]
      generalize hσ2 : ((σ1.1, σ1.2.1, j3_ast (j3_ast (j3_ast (j3_ast (j3_ast σ1.2.2 10028 121 (19200 + 120 * m + x) ((aiS X st).a x)) 10029 121 (19200 + 120 * m + x) (X.b x)) 10030 121 (19200 + 120 * m + x) (σ.2.2 10056 121 x)) 10031 121 (19200 + 120 * m + x) (X.o1 x)) 10032 121 (19200 + 120 * m + x) (σ.2.2 10058 121 x)) : j3_S) = σ2
      have k27 : σ2.2.2 10027 121 = i_up (σ.2.2 10027 121) (19200 + 120 * m + x) (X.op x) := by
        rw [← hσ2]; simp only [j3_ast]; rw [up_e rfl, up_e rfl, up_e rfl, up_e rfl, up_e rfl, e27]
      have k28 : σ2.2.2 10028 121 = i_up (σ.2.2 10028 121) (19200 + 120 * m + x) ((aiS X st).a x) := by
        rw [← hσ2]; simp only [j3_ast]; rw [up_e rfl, up_e rfl, up_e rfl, up_e rfl, up_r, e1 10028 (by omega)]
      have k29 : σ2.2.2 10029 121 = i_up (σ.2.2 10029 121) (19200 + 120 * m + x) (X.b x) := by
        rw [← hσ2]; simp only [j3_ast]; rw [up_e rfl, up_e rfl, up_e rfl, up_r, up_e rfl, e1 10029 (by omega)]
      have k30 : σ2.2.2 10030 121 = i_up (σ.2.2 10030 121) (19200 + 120 * m + x) (σ.2.2 10056 121 x) := by
        rw [← hσ2]; simp only [j3_ast]; rw [up_e rfl, up_e rfl, up_r, up_e rfl, up_e rfl, e1 10030 (by omega)]
      have k31 : σ2.2.2 10031 121 = i_up (σ.2.2 10031 121) (19200 + 120 * m + x) (X.o1 x) := by
        rw [← hσ2]; simp only [j3_ast]; rw [up_e rfl, up_r, up_e rfl, up_e rfl, up_e rfl, e1 10031 (by omega)]
      have k32 : σ2.2.2 10032 121 = i_up (σ.2.2 10032 121) (19200 + 120 * m + x) (σ.2.2 10058 121 x) := by
        rw [← hσ2]; simp only [j3_ast]; rw [up_r, up_e rfl, up_e rfl, up_e rfl, up_e rfl, e1 10032 (by omega)]
      have f2 : frm [] cd6 σ σ2 := by
        rw [← hσ2, ← hσ1]
        exact frm.A rfl (frm.A rfl (frm.A rfl (frm.A rfl (frm.A rfl (frm.A rfl frm.rf)))))
      have F2 : mF m piI piA σ σ2 := by
        refine ⟨f2.wd (sub_el rfl) (sub_el rfl), fun e he z hz => ?_, fun z hz => ⟨by rw [f2.2.2 10025 121 rfl], by rw [f2.2.2 10026 121 rfl]⟩⟩
        have nz : ¬ z = 19200 + 120 * m + x := by omega
        simp only [cd6, List.elem_eq_mem, decide_eq_true_eq, List.mem_cons, List.not_mem_nil, or_false] at he
        rcases he with rfl | rfl | rfl | rfl | rfl | rfl
        · rw [k27, iu_n nz]
        · rw [k28, iu_n nz]
        · rw [k29, iu_n nz]
        · rw [k30, iu_n nz]
        · rw [k31, iu_n nz]
        · rw [k32, iu_n nz]
      refine l199b m0 m1 n120 hn0 hj k (x + 1) _ _ σ2 (by omega) (by omega) (hf.tr F2) (hw.fr f2 rfl rfl) (fun j j0 j1 => by rw [f2.2.2 10060 121 rfl]; exact hs j j0 j1) (fun i i0 i1 => ?_) (by rw [f2.2.2 10025 121 rfl]; exact h25) (by rw [f2.2.2 10026 121 rfl]; exact h26) (by rw [f2.2.2 10052 121 rfl]; exact h52) hQ
      unfold rwR oR
      rw [k27, k28, k29, k30, k31, k32]
      by_cases gi : i = x
      · subst gi
        simp only [iu_r]
        exact ⟨rfl, trivial, rfl, rfl, r6⟩
      · have ni : ¬ 19200 + 120 * m + i = 19200 + 120 * m + x := by omega
        simp only [iu_n ni]
        have := hcb i i0 (by omega)
        unfold rwR oR at this
        exact this
    rw [b199_134, r1]
    refine ⟨by omega, by omega, by omega, ?_⟩
    have e165 : (¬ isj (X.op x) = true) → T199 (d + 1) Q 165 [wO 10 121, wI m, wI x2, wI x3, wI x4, wI x, wI (19200 + 120 * m + x), w7] [wI (19200 + 120 * m + x), wA 10028 121] σ1 := by
      intro g
      rw [b199_165, e1 10054 (by omega), r2]
      rw [sp, if_neg g] at key
      exact ⟨by omega, key⟩
    by_cases g : isj (X.op x) = true
    · have r4' := r4 g
      obtain ⟨j0, j1⟩ := hj x x0 (by omega) g
      rw [if_neg r4', s164, g]
      refine ⟨by omega, ?_⟩
      simp only [Option.toList_some, List.cons_append, List.nil_append]
      rw [hσ1, b199_156, if_neg (by decide), e1 10054 (by omega), r2, e1 10060 (by omega), hs _ j0 j1]
      rw [sp, if_pos g] at key
      exact ⟨by omega, by omega, key⟩
    · by_cases g0 : σ.2.2 10059 121 x = 0
      · rw [if_pos g0, hσ1]; exact e165 g
      · have g' : isj (X.op x) = false := by simpa using g
        rw [if_neg g0, s164, g']
        refine ⟨by omega, ?_⟩
        simp only [Option.toList_some, List.cons_append, List.nil_append]
        rw [hσ1, b199_156, if_pos (by rfl)]
        exact e165 g
theorem l199 (h : grR P T R) (hpr : prg P) (hB0 : gbR σ0 P T R) (m0 : 0 ≤ m) (m1 : m < P 3001 0) (hm : R.1 m = 1) (hb0 : bnR σ0 P T R.2.1 m (P 0 m)) (c1 : 0 ≤ c 1 ∧ c 1 + 120 < 2147483647) : ∀ (n k : Nat) (w6 w7 : j3_W) (σ : j3_S), (k : Int) + n = P 0 m → mF m piI piA σ0 σ → (∀ e, cd6.elem e = true → σ.2.2 e 121 = σ0.2.2 e 121) → nwR σ (gsN P T R.2.1 bud m k).1 → σ.2.2 10025 121 (160 + m) = (gsN P T R.2.1 bud m k).2.1 → (∀ j, 0 ≤ j → j < (k : Int) → σ.2.2 10060 121 j = (gsN P T R.2.1 bud m k).2.2.2.1 j) → ctR σ (addc c 0 (gsN P T R.2.1 bud m k).2.2.2.2) → (∀ σ', mF m piI piA σ0 σ' → cbR σ' m (gaX P T R.2.1 bud m) (gaX P T R.2.1 bud m).n → σ'.2.2 10025 121 (160 + m) = (gaE P T R.2.1 bud m).2.1 → σ'.2.2 10026 121 (160 + m) = (gaX P T R.2.1 bud m).n → ctR σ' (addc c 0 (gaE P T R.2.1 bud m).2.2.2.2) → Q none σ') → T199 (d + 3) Q 14 [wO 10 121, wI m, wI bud, wI (P 0 m), wI (gsN P T R.2.1 bud m k).2.2.1, wI k, w6, w7] [] σ
  | 0, k, w6, w7, σ, hk, hf, hcd, hx, hl, hs, hc, hQ => by
    have hg := h.1.1
    have h80 := hg.1.2.1.2.1
    obtain ⟨-, -, -, -, -, q6, q7⟩ := hg.1.2.2.2 m m0 m1
    obtain ⟨v, -, vj, -⟩ := ga_all (bud := bud) h m0 m1 hm
    obtain ⟨⟨v1, v2⟩, v3, -⟩ := gs_v (bud := bud) h m0 m1 hm k (by omega)
    have ek : (P 0 m).toNat = k := by omega
    have eE : gaE P T R.2.1 bud m = gsN P T R.2.1 bud m k := by unfold gaE; rw [ek]
    unfold gaX at hQ
    rw [eE] at hQ vj
    rw [b199_14, if_neg (by omega)]
    refine l199b (σ0 := σ) (n0 := P 0 m) (X := (gsN P T R.2.1 bud m k).1) (st := (gsN P T R.2.1 bud m k).2.2.2.1) m0 (by omega) (by omega) (by omega) vj (gsN P T R.2.1 bud m k).1.n.toNat 0 _ _ σ (by omega) (by omega) mF.rf hx (fun j j0 j1 => hs j j0 (by omega)) (fun i i0 i1 => by omega) rfl rfl rfl (fun σ1 f1 r1 r2 r3 r4 => ?_)
    exact hQ σ1 (hf.tr f1) r1 (by rw [r2]; exact hl) r3 (fun j j0 j1 => by rw [r4]; exact hc j j0 j1)
  | n + 1, k, w6, w7, σ, hk, hf, hcd, hx, hl, hs, hc, hQ => by
    have hg := h.1.1
    have h80 := hg.1.2.1.2.1
    have hc10 := hg.1.1.2.1
    have hB : gbR σ P T R := hB0.fr hg.1 (hf.s2 m0 rfl) rfl ⟨rfl, rfl, rfl, rfl⟩
    obtain ⟨hR, hH, -, -⟩ := id hB
    obtain ⟨-, pst, -, ⟨pp0, -, -⟩, q5, q6, q7⟩ := hg.1.2.2.2 m m0 m1
    obtain ⟨⟨v1, v2⟩, v3, v4, v5, v6, v7⟩ := gs_v (bud := bud) h m0 m1 hm k (by omega)
    obtain ⟨b1, b2, b3⟩ := hb0 k (by omega) (by omega)
    rw [if_pos (by omega)] at b1 b2 b3
    have a1 : σ.2.2 10027 121 (19200 + 120 * m + k) = bO P T R.2.1 m k := by rw [hcd 10027 rfl]; exact b1
    have a2 : σ.2.2 10028 121 (19200 + 120 * m + k) = bA P T R.2.1 m k := by rw [hcd 10028 rfl]; exact b2
    have a3 : σ.2.2 10029 121 (19200 + 120 * m + k) = bB P T R.2.1 m k := by rw [hcd 10029 rfl]; exact b3
    have again := fun w6 w7 σ' hf' => l199 h hpr hB0 m0 m1 hm hb0 c1 n (k + 1) w6 w7 σ' (by push_cast; omega) hf'
    have eS : gsN P T R.2.1 bud m (k + 1) = gs1 P T R.2.1 bud m k (gsN P T R.2.1 bud m k) := rfl
    rw [eS] at again
    generalize gsN P T R.2.1 bud m k = S at *
    rw [b199_14, if_pos (by omega), s160 (by omega) (by omega) m0 (by omega) (by omega) (by omega), show 9600 * 2 + 120 * m + (k : Int) = 19200 + 120 * m + k by omega]
    simp only [Option.toList_some, List.cons_append, List.nil_append]
    rw [b199_21, a1, a2, a3, hx.1]
    refine ⟨by omega, by omega, ?_⟩
    generalize hσ1 : ((σ.1, σ.2.1, j3_ast σ.2.2 10060 121 k S.1.n) : j3_S) = σ1
    have f1 : frm [] [10060] σ σ1 := by rw [← hσ1]; exact frm.A rfl frm.rf
    have F1 : mF m piI piA σ0 σ1 := hf.tr ((mF.of f1 rfl).wd rfl rfl)
    have hB1 : gbR σ1 P T R := hB.fr hg.1 (s2F.of f1 rfl) rfl ⟨rfl, rfl, rfl, rfl⟩
    have x1 : nwR σ1 S.1 := hx.fr f1 rfl rfl
    have l1 : σ1.2.2 10025 121 (160 + m) = S.2.1 := by rw [f1.2.2 10025 121 rfl]; exact hl
    have s1 : ∀ j, 0 ≤ j → j < ((k + 1 : Nat) : Int) → σ1.2.2 10060 121 j = i_up S.2.2.2.1 k S.1.n j := by
      intro j j0 j1
      rw [← hσ1]
      simp only [j3_ast, up_r]
      by_cases gj : j = k
      · rw [gj, iu_r, iu_r]
      · rw [iu_n gj, iu_n gj]; exact hs j j0 (by push_cast at j1; omega)
    have ct1 : ctR σ1 (addc c 0 S.2.2.2.2) := fun j j0 j1 => by rw [f1.2.2 10052 121 rfl]; exact hc j j0 j1
    have cd1 : ∀ e, cd6.elem e = true → σ1.2.2 e 121 = σ0.2.2 e 121 := fun e he => by
      rw [← hcd e he]
      simp only [cd6, List.elem_eq_mem, decide_eq_true_eq, List.mem_cons, List.not_mem_nil, or_false] at he
      rcases he with rfl | rfl | rfl | rfl | rfl | rfl <;> exact f1.2.2 _ 121 rfl
    -- no leaf is put in
    have non : putB P T R.2.1 bud m k S = false → ∀ w7 : Int, T199 (d + 3) Q 100 [wO 10 121, wI m, wI bud, wI (P 0 m), wI S.2.2.1, wI k, wI (19200 + 120 * m + k), wI w7] [] σ1 := by
      intro gp w7
      have eg : gs1 P T R.2.1 bud m k S = (adS S.1 (bO P T R.2.1 m k) (bA P T R.2.1 m k) (bB P T R.2.1 m k) (m * 1000 + k) (-1), S.2.1, S.2.2.1, i_up S.2.2.2.1 k S.1.n, S.2.2.2.2) := by
        unfold gs1
        rw [if_neg (by rw [gp]; decide)]
      rw [eg] at again
      rw [b199_100, f1.2.2 10027 121 rfl, f1.2.2 10028 121 rfl, f1.2.2 10029 121 rfl, a1, a2, a3, wr_id (z := 1000 * m) (by omega) (by omega), wr_id (z := 1000 * m + k) (by omega) (by omega)]
      refine ⟨by omega, by omega, by omega, ?_⟩
      refine s198 (v := -1) x1 v1 (by omega) (Or.inr rfl) (fun _ => rfl) (Or.inl ⟨rfl, rfl⟩) (fun σ2 f2 x2 => ?_)
      simp only [Option.toList_none, List.nil_append]
      rw [b199_122, wr_id (by omega) (by omega), show (k : Int) + 1 = ((k + 1 : Nat) : Int) by push_cast; omega]
      rw [show 1000 * m + (k : Int) = m * 1000 + k by omega] at x2
      refine again _ _ σ2 (F1.tr ((mF.of f2 rfl).wd rfl rfl)) (fun e he => ?_) x2 (by rw [f2.2.2 10025 121 rfl]; exact l1) (fun j j0 j1 => by rw [f2.2.2 10060 121 rfl]; exact s1 j j0 j1) (fun j j0 j1 => by rw [f2.2.2 10052 121 rfl]; exact ct1 j j0 j1) hQ
      rw [← cd1 e he]
      simp only [cd6, List.elem_eq_mem, decide_eq_true_eq, List.mem_cons, List.not_mem_nil, or_false] at he
      rcases he with rfl | rfl | rfl | rfl | rfl | rfl <;> exact f2.2.2 _ 121 rfl
    have n56 : putB P T R.2.1 bud m k S = false → ∀ w7 : j3_W, T199 (d + 3) Q 56 [wO 10 121, wI m, wI bud, wI (P 0 m), wI S.2.2.1, wI k, wI (19200 + 120 * m + k), w7] [] σ1 := by
      intro gp w7
      rw [b199_56, b199_57, if_pos (by decide)]
      exact non gp _
    by_cases g20 : bO P T R.2.1 m k = 20
    · rw [if_pos g20]
      simp (disch := omega) only [wr_id]
      rw [(hH m k m0 m1 (by omega) (by omega)).1]
      refine ⟨by omega, ?_⟩
      by_cases gm : (T m).1 k < 0
      · rw [if_pos gm, if_pos rfl]
        refine n56 ?_ _
        unfold putB
        simp [show ¬ 0 ≤ (T m).1 k by omega]
      · rw [if_neg gm, if_neg (by decide)]
        -- the method called
        have called : ∃ u, P 3007 (bA P T R.2.1 m k) + bB P T R.2.1 m k = u ∧ (0 ≤ bA P T R.2.1 m k ∧ bA P T R.2.1 m k < P 3000 0) ∧ 0 ≤ u ∧ u < P 3001 0 := by
          by_cases gb : isB P T R.2.1 m k = true
          · obtain ⟨w, we, wr1, w2, -, -, -, -, -, wa, wb⟩ := isB_of h m0 m1 hm (by omega) (by omega) gb
            have ea : bA P T R.2.1 m k = P 3011 w := by unfold bA; rw [if_pos gb, we]
            have eb : bB P T R.2.1 m k = w - P 3007 (P 3011 w) := by unfold bB; rw [if_pos gb, we]
            exact ⟨w, by rw [ea, eb]; exact w2, by rw [ea]; exact wa, wr1.1, wr1.2⟩
          · have eo : bO P T R.2.1 m k = P 1 (m * 120 + k) := by unfold bO; rw [if_neg gb]
            have ea : bA P T R.2.1 m k = P 2 (m * 120 + k) := by unfold bA; rw [if_neg gb]
            have eb : bB P T R.2.1 m k = P 3 (m * 120 + k) := by unfold bB; rw [if_neg gb]
            have ik := q7 k (by omega) (by omega)
            have ca := ik.2.2.2.2.1 (by omega)
            have cb := ik.2.2.2.2.2.2 (by omega)
            have hm3 := hg.1.2.1.2.2 _ ca.1 ca.2
            exact ⟨_, rfl, by rw [ea]; exact ca, by rw [ea, eb]; omega, by rw [ea, eb]; omega⟩
        obtain ⟨u, eu, ra, u0, u1⟩ := called
        have e13 := (hR.2.2.1 _ ra.1 ra.2).1.2.2.2.2
        rw [show 10 * 0 + bA P T R.2.1 m k = bA P T R.2.1 m k by omega] at e13
        rw [e13, eu, wr_id (by omega) (by omega)]
        refine ⟨by omega, by omega, by omega, ?_⟩
        rw [b199_57, if_neg (by omega)]
        refine s197 (d := d + 1) (bud := bud) hB1 hg h.1.2 u0 u1 ?_
        simp only [Option.toList_some, List.cons_append, List.nil_append]
        rw [b199_64]
        have ep : putB P T R.2.1 bud m k S = (leafB P T bud u && roomB P T m k S.2.1 S.2.2.1 u) := by
          unfold putB
          rw [eu]
          simp [g20, show 0 ≤ (T m).1 k by omega]
        by_cases gl : leafB P T bud u = true
        · rw [gl, if_neg (by decide)]
          obtain ⟨lf, -⟩ := leaf_of h.1.2 hg.1 u0 u1 gl
          have h10 := ((h.1.2 m m0 m1).2.2 k (by omega) (by show (k : Int) < P 0 m; omega) (by omega)).1.1
          refine s200 (d := d + 1) (T := T) (i := (k : Int)) hB1 hg h.1.2 m0 m1 (by omega) (by omega) (by omega) h10 u0 u1 lf l1 (by omega) (by omega) (by omega) (by omega) ?_
          simp only [Option.toList_some, List.cons_append, List.nil_append]
          rw [gl, Bool.true_and] at ep
          rw [← ep, b199_71]
          by_cases gp : putB P T R.2.1 bud m k S = true
          · obtain ⟨-, -, -, u', u1', u2', ur, uR, lf', ub, r1, r2, r3⟩ := putB_of h m0 m1 hm (by omega) (by omega) gp
            rw [eu] at u1'
            subst u1'
            have c23 := (hB1.1.2.2.2 u u0 u1).1
            have e23 := c23.2.2.2.2.1
            have e26 := c23.2.2.2.2.2.2
            rw [show 80 * 0 + u = u by omega] at e23 e26
            obtain ⟨⟨-, np0, ln1⟩, -⟩ := id lf
            have q4' := (hg.1.2.2.2 u u0 u1).2.2.2.1
            have q6' := (hg.1.2.2.2 u u0 u1).2.2.2.2.2.1
            rw [gp, if_neg (by decide), e23, e26]
            simp (disch := omega) only [wr_id]
            refine ⟨by omega, by omega, ?_⟩
            refine s201 (d := d + 1) hB1 hg hpr lf u0 u1 m0 (by omega) (by omega) (by omega) l1 (by omega) r1 x1 v1 (by omega) (fun σ2 f2 x2 l2 r26 rcd => ?_)
            simp only [Option.toList_none, List.nil_append]
            have ct2 : ctR σ2 (addc c 0 S.2.2.2.2) := fun j j0 j1 => by rw [f2.1.2.2 10052 121 rfl]; exact ct1 j j0 j1
            have c2 := ct2 1 (by omega) (by omega)
            rw [addc_v, if_pos rfl] at c2
            rw [b199_91, c2, wr_id (by omega) (by omega)]
            refine ⟨by omega, by omega, ?_⟩
            generalize hσ3 : ((σ2.1, σ2.2.1, j3_ast σ2.2.2 10052 121 1 (c 1 + S.2.2.2.2 + 1)) : j3_S) = σ3
            have f3 : frm [] [10052] σ2 σ3 := by rw [← hσ3]; exact frm.A rfl frm.rf
            have eg : gs1 P T R.2.1 bud m k S = (puS P u S.2.1 (m * 1000 + k) S.1, S.2.1 + P 3017 u, S.2.2.1 + (P 3015 u + P 0 u - 2), i_up S.2.2.2.1 k S.1.n, S.2.2.2.2 + 1) := by
              unfold gs1
              rw [if_pos gp, eu]
            rw [eg] at again
            rw [b199_122, wr_id (by omega) (by omega), show (k : Int) + 1 = ((k + 1 : Nat) : Int) by push_cast; omega]
            refine again _ _ σ3 (F1.tr ((f2.wd rfl rfl).tr ((mF.of f3 rfl).wd rfl rfl))) (fun e he => ?_) (x2.fr f3 rfl rfl) (by rw [f3.2.2 10025 121 rfl]; exact l2) (fun j j0 j1 => by rw [f3.2.2 10060 121 rfl, f2.1.2.2 10060 121 rfl]; exact s1 j j0 j1) (fun j j0 j1 => ?_) hQ
            · rw [← cd1 e he, ← rcd e he]
              simp only [cd6, List.elem_eq_mem, decide_eq_true_eq, List.mem_cons, List.not_mem_nil, or_false] at he
              rcases he with rfl | rfl | rfl | rfl | rfl | rfl <;> exact f3.2.2 _ 121 rfl
            · rw [← hσ3]
              simp only [j3_ast, up_r]
              rw [addc_v]
              by_cases gj : j = 1
              · rw [gj, iu_r, if_pos rfl]; omega
              · have := ct2 j j0 j1
                rw [addc_v, if_neg gj] at this
                rw [iu_n gj, if_neg gj]; exact this
          · have gp' : putB P T R.2.1 bud m k S = false := by simpa using gp
            rw [gp', if_pos (by rfl)]
            exact non gp' _
        · have gl' : leafB P T bud u = false := by simpa using gl
          rw [gl', if_pos (by rfl)]
          exact non (by rw [ep, gl']; rfl) _
    · rw [if_neg g20]
      refine n56 ?_ _
      unfold putB
      simp [g20]
theorem s199 (h : grR P T R) (hpr : prg P) (hB : gbR σ P T R) (m0 : 0 ≤ m) (m1 : m < P 3001 0) (hm : R.1 m = 1) (hb : bnR σ P T R.2.1 m (P 0 m)) (h25 : σ.2.2 10025 121 (160 + m) = P 3017 m) (h26 : σ.2.2 10026 121 (160 + m) = P 0 m) (hc : ctR σ c) (c1 : 0 ≤ c 1 ∧ c 1 + 120 < 2147483647) (hQ : ∀ σ', mF m piI piA σ σ' → cbR σ' m (gaX P T R.2.1 bud m) (gaX P T R.2.1 bud m).n → σ'.2.2 10025 121 (160 + m) = (gaE P T R.2.1 bud m).2.1 → σ'.2.2 10026 121 (160 + m) = (gaX P T R.2.1 bud m).n → ctR σ' (addc c 0 (gaE P T R.2.1 bud m).2.2.2.2) → Q none σ') : j3_tc true (d + 4) 199 [wO 10 121, wI m, wI bud] σ Q := by
  have h80 := h.1.1.1.2.1.2.1
  have q6 := (h.1.1.1.2.2.2 m m0 m1).2.2.2.2.2.1
  rw [e199, b199_0, wr_id (by omega) (by omega), h26]
  refine ⟨by omega, ?_⟩
  have f1 : frm piI [] σ (j3_up σ.1 10061 121 0, σ.2.1, σ.2.2) := frm.I rfl frm.rf
  refine l199 (σ0 := σ) h hpr hB m0 m1 hm hb c1 (P 0 m).toNat 0 _ _ _ (by omega) ((mF.of f1 rfl).wd rfl rfl) (fun _ _ => rfl) ⟨?_, fun i i0 i1 => ?_⟩ h25 (fun j j0 j1 => absurd j1 (by omega)) ?_ hQ
  · show j3_up σ.1 10061 121 0 10061 121 = 0
    rw [up_r]
  · have : i < 0 := i1
    omega
  · show ctR _ (addc c 0 0)
    rw [addc_0]; exact hc
end RPIN
