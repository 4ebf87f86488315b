/-! new numbers in the reference: a method is copied into the second slot -/
/-- the second slot, as a program -/
def PgR (σ : j3_S) : Pg := fun e z => if e = 3000 then σ.2.2 10009 121 1 else if e = 3001 then σ.2.2 10018 121 1 else if e = 3002 then σ.2.2 10010 121 (10 + z) else if e = 3003 then σ.2.2 10011 121 (10 + z) else if e = 3005 then σ.2.2 10012 121 (10 + z) else if e = 3006 then σ.2.2 10014 121 (10 + z) else if e = 3007 then σ.2.2 10013 121 (10 + z) else if e = 3008 then σ.2.2 10015 121 (60 + z) else if e = 3009 then σ.2.2 10016 121 (60 + z) else if e = 3010 then σ.2.2 10017 121 (60 + z) else if e = 3011 then σ.2.2 10019 121 (80 + z) else if e = 3012 then σ.2.2 10020 121 (80 + z) else if e = 3013 then σ.2.2 10021 121 (80 + z) else if e = 3014 then σ.2.2 10022 121 (80 + z) else if e = 3015 then σ.2.2 10023 121 (80 + z) else if e = 3016 then σ.2.2 10024 121 (240 + z) else if e = 3017 then σ.2.2 10025 121 (80 + z) else if e = 0 then σ.2.2 10026 121 (80 + z) else if e = 1 then σ.2.2 10027 121 (9600 + z) else if e = 2 then σ.2.2 10028 121 (9600 + z) else σ.2.2 10029 121 (9600 + z)
def lbd (e : Nat) (cB mB : Int) : Int := if e = 10009 ∨ e = 10018 then 1 else if e ≤ 10014 then 10 + cB else if e ≤ 10017 then 60 + 6 * cB else if e = 10024 then 240 + 3 * mB else if e ≤ 10026 then 80 + mB else 9600 + 120 * mB
def nuA : List Nat := [10009, 10010, 10011, 10012, 10013, 10014, 10015, 10016, 10017, 10018, 10019, 10021, 10022, 10023, 10024, 10025, 10026, 10027, 10028, 10029, 10030, 10031, 10032, 10052, 10069, 10070, 10071]
/-- only the second slot changes, and there from some place on -/
def nuF (cB mB : Int) (σ σ' : j3_S) : Prop := frm [] nuA σ σ' ∧ ∀ e z, 10009 ≤ e → e ≤ 10032 → z < lbd e cB mB ∨ 2 * slz e ≤ z → σ'.2.2 e 121 z = σ.2.2 e 121 z
def mtA : List Nat := [10019, 10021, 10022, 10023, 10024, 10025, 10026, 10027, 10028, 10029, 10030, 10031, 10032, 10052]
/-- the code of a kept method, not told anew yet -/
def spK0 (P : Pg) (r : Rs) (XX : Int → Sx) (σ : j3_S) (m : Int) : Prop := σ.2.2 10026 121 (80 + nM P r XX m) = lnK r XX m ∧ ∀ i, 0 ≤ i → i < lnK r XX m → (r.1 m = 1 → rwR σ (9600 + 120 * nM P r XX m + i) (XX m) i ((XX m).a i)) ∧ (¬ r.1 m = 1 → σ.2.2 10027 121 (9600 + 120 * nM P r XX m + i) = 26 ∧ σ.2.2 10028 121 (9600 + 120 * nM P r XX m + i) = 0 ∧ σ.2.2 10029 121 (9600 + 120 * nM P r XX m + i) = 0 ∧ σ.2.2 10030 121 (9600 + 120 * nM P r XX m + i) = 0)
def shR (σ σ' : j3_S) (k : Int) : Prop := (∀ i, ¬ i = 3 → σ'.2.2 10052 121 i = σ.2.2 10052 121 i) ∧ σ'.2.2 10052 121 3 = σ.2.2 10052 121 3 + k
section RNUMB
variable {σ σ' σ'' σ0 : j3_S} {P : Pg} {r : Rs} {XX : Int → Sx} {NL : Int → Int} {d : Nat} {x c m i w k n v cB mB cB' mB' : Int} {Q : j3_P}
theorem nuF.rf : nuF cB mB σ σ := ⟨frm.rf, fun _ _ _ _ _ => rfl⟩
theorem lbd_m {e : Nat} (h1 : cB ≤ cB') (h2 : mB ≤ mB') : lbd e cB mB ≤ lbd e cB' mB' := by
  unfold lbd
  split
  · omega
  · split
    · omega
    · split
      · omega
      · split
        · omega
        · split <;> omega
theorem nuF.tr (h : nuF cB mB σ σ') (h' : nuF cB' mB' σ' σ'') (h1 : cB ≤ cB') (h2 : mB ≤ mB') : nuF cB mB σ σ'' := by
  refine ⟨h.1.tr h'.1, fun e z e0 e1 hz => ?_⟩
  have := lbd_m (e := e) h1 h2
  rw [h'.2 e z e0 e1 (by omega), h.2 e z e0 e1 hz]
theorem nuF.wk (h : nuF cB' mB' σ σ') (h1 : cB ≤ cB') (h2 : mB ≤ mB') : nuF cB mB σ σ' := by
  refine ⟨h.1, fun e z e0 e1 hz => h.2 e z e0 e1 ?_⟩
  have := lbd_m (e := e) h1 h2
  omega
theorem nuF.ast {e : Nat} {z v : Int} (he : nuA.elem e = true) (hz : 10032 < e ∨ (lbd e cB mB ≤ z ∧ z < 2 * slz e)) : nuF cB mB σ (σ.1, σ.2.1, j3_ast σ.2.2 e 121 z v) := by
  refine ⟨frm.A he frm.rf, fun e' z' q0 q1 hz' => ?_⟩
  show j3_up σ.2.2 e 121 (i_up (σ.2.2 e 121) z v) e' 121 z' = _
  by_cases g : e' = e
  · subst g
    rw [up_r, iu_n (by omega)]
  · rw [up_ne (fun h => g h.1)]
theorem nuF.ci {z y : Int} (hz : 9600 + 120 * mB ≤ y ∧ y < 19200) : nuF cB mB σ (ciS σ z y) := by
  refine ⟨ciS_f.wd (fun _ h => h) (sub_el rfl), fun e z' q0 q1 hz' => ?_⟩
  by_cases g : cinA.elem e = true
  · rw [ciS_r g]
    refine iu_n (fun q => ?_)
    simp [cinA] at g
    rcases g with rfl | rfl | rfl | rfl | rfl | rfl <;> simp [lbd, slz] at hz' <;> omega
  · rw [(ciS_f (σ := σ) (x := z) (y := y)).2.2 e 121 (by simpa using g)]
theorem nuF.ch (h : nuF cB mB σ σ') (h0 : 0 ≤ cB) (h1 : 0 ≤ mB) : ∀ e z, 10009 ≤ e → e ≤ 10032 → z < slz e ∨ 2 * slz e ≤ z → σ'.2.2 e 121 z = σ.2.2 e 121 z := by
  intro e z e0 e1 hz
  refine h.2 e z e0 e1 ?_
  rcases hz with hz | hz
  · left
    unfold slz at hz
    unfold lbd
    by_cases g : e = 10009 ∨ e = 10018
    · rw [if_pos (by omega)] at hz; rw [if_pos g]; omega
    · rw [if_neg (by omega)] at hz
      rw [if_neg g]
      by_cases g2 : e ≤ 10014
      · rw [if_pos g2] at hz ⊢; omega
      · rw [if_neg g2] at hz ⊢
        by_cases g3 : e ≤ 10017
        · rw [if_pos g3] at hz ⊢; omega
        · rw [if_neg g3] at hz ⊢
          by_cases g4 : e = 10024
          · rw [if_pos g4] at hz ⊢; omega
          · rw [if_neg g4] at hz ⊢
            by_cases g5 : e ≤ 10026
            · rw [if_pos g5] at hz ⊢; omega
            · rw [if_neg g5] at hz ⊢; omega
  · exact Or.inr hz
theorem nuF.kb (h : nuF cB mB σ σ') (hg : good P) (h0 : 0 ≤ cB) (h1 : 0 ≤ mB) (hB : kbR σ P r XX NL) (hxx : xxR P r XX NL) : kbR σ' P r XX NL := by
  have hc := h.ch h0 h1
  obtain ⟨a1, a2, a3, a4⟩ := hB
  refine ⟨a1.mv (fun e z e0 e1 z0 z1 ne => ?_) (bnd_of hg.1), fun m m0 m1 g => ?_, fun m m0 m1 => by rw [h.1.2.2 10049 _ rfl]; exact a3 m m0 m1, fun c c0 c1 => by rw [h.1.2.2 10050 _ rfl]; exact a4 c c0 c1⟩
  · by_cases g : e ≤ 10032
    · exact hc e z e0 g (Or.inl (by omega))
    · have : e = 10034 := by omega
      rw [this, h.1.2.2 10034 _ rfl]
  · obtain ⟨b1, b2, b3⟩ := a2 m m0 m1 g
    have ok := (hxx.2 m m0 m1 g).1.1
    have h80 := hg.1.2.1.2.1
    refine ⟨by rw [hc 10025 _ (by omega) (by omega) (Or.inr (by show 2 * 80 ≤ _; omega))]; exact b1, by rw [hc 10026 _ (by omega) (by omega) (Or.inr (by show 2 * 80 ≤ _; omega))]; exact b2, fun i i0 i1 => ?_⟩
    have := b3 i i0 i1
    unfold rwR oR at this ⊢
    have k : ∀ e, 10027 ≤ e → e ≤ 10032 → σ'.2.2 e 121 (19200 + 120 * m + i) = σ.2.2 e 121 (19200 + 120 * m + i) := by
      intro e e0 e1
      refine hc e _ (by omega) e1 (Or.inr ?_)
      have : slz e = 9600 := by unfold slz; rw [if_neg (by omega), if_neg (by omega), if_neg (by omega), if_neg (by omega), if_neg (by omega)]
      rw [this]; omega
    rw [k 10027 (by omega) (by omega), k 10028 (by omega) (by omega), k 10029 (by omega) (by omega), k 10030 (by omega) (by omega), k 10031 (by omega) (by omega), k 10032 (by omega) (by omega)]
    exact this
theorem s216 (hg : good P) (h69 : ∀ c, 0 ≤ c → c < P 3000 0 → σ.2.2 10069 121 c = nC P r XX c) (w0 : 0 ≤ w) (w1 : w ≤ P 3000 0) (hk : 0 < w → kC P r XX (w - 1)) : j3_tc true (d + 1) 216 [wO 10 121, wI w] σ Q = Q (some (wI (tN P r XX w))) σ := by
  have hc10 := hg.1.1.2.1
  rw [e216, b216_0]
  unfold tN
  by_cases g : w = 0
  · rw [if_pos g, if_pos (by omega), g]
  · have nn := nw_b (n := P 3000 0) (x := w - 1) (by omega) (by omega) (hk (by omega))
    have e : nC P r XX (w - 1) = nwN (kC P r XX) (w - 1) := rfl
    rw [if_neg g, if_neg (by omega), wr_id (z := w - 1) (by omega) (by omega), h69 (w - 1) (by omega) (by omega), e, wr_id (by omega) (by omega), Int.add_comm 1]
    exact propext ⟨fun q => q.2, fun q => ⟨by omega, q⟩⟩
/-- the code -/
theorem l218c (hg : good P) (hxx : xxR P r XX NL) (hB0 : kbR σ0 P r XX NL) (m0 : 0 ≤ m) (m1 : m < P 3001 0) (hm : r.1 m = 1) {t : Int} (t0 : 0 ≤ t) (t1 : t < 80) : ∀ (n : Nat) (i : Int) (σ : j3_S), i + n = (XX m).n → 0 ≤ i → nuF 10 t σ0 σ → frm [] cinA σ0 σ → σ.2.2 10026 121 (80 + t) = (XX m).n → (∀ j, 0 ≤ j → j < i → rwR σ (9600 + 120 * t + j) (XX m) j ((XX m).a j)) → (∀ σ', nuF 10 t σ0 σ' → frm [] cinA σ0 σ' → (∀ j, 0 ≤ j → j < (XX m).n → rwR σ' (9600 + 120 * t + j) (XX m) j ((XX m).a j)) → Q none σ') → T218 (d + 1) Q 112 [wO 10 121, wI m, wI t, wI (80 + t), wI i] [] σ
  | 0, i, σ, hi, i0, hf, hf2, hn, hd, hQ => by
    rw [b218_112, hn, if_neg (by omega)]
    exact ⟨by omega, hQ σ hf hf2 (fun j j0 j1 => hd j j0 (by omega))⟩
  | n + 1, i, σ, hi, i0, hf, hf2, hn, hd, hQ => by
    have hB := hf.kb hg (by omega) t0 hB0 hxx
    have ok := (hxx.2 m m0 m1 hm).1.1
    have h80 := hg.1.2.1.2.1
    have b3 := (hB.2.1 m m0 m1 hm).2.2 i i0 (by omega)
    rw [b218_112, hn, if_pos (by omega), s160 (by omega) (by omega) (by omega) (by omega) (by omega) (by omega)]
    refine ⟨by omega, ?_⟩
    simp only [Option.toList_some, List.cons_append, List.nil_append]
    rw [b218_123, s160 (by omega) (by omega) (by omega) (by omega) (by omega) (by omega)]
    simp only [Option.toList_some, List.cons_append, List.nil_append]
    rw [b218_127, s182 (by omega) (by omega) (by omega) (by omega)]
    simp only [Option.toList_none, List.nil_append]
    rw [b218_128, wr_id (by omega) (by omega), show 9600 * 2 + 120 * m + i = 19200 + 120 * m + i by omega, show 9600 * 1 + 120 * t + i = 9600 + 120 * t + i by omega]
    have f1 : nuF 10 t σ (ciS σ (19200 + 120 * m + i) (9600 + 120 * t + i)) := nuF.ci (by omega)
    refine l218c hg hxx hB0 m0 m1 hm t0 t1 n (i + 1) _ (by omega) (by omega) (hf.tr f1 (by omega) (by omega)) (hf2.tr ciS_f) (by rw [ciS_f.2.2 10026 121 rfl]; exact hn) (fun j j0 j1 => ?_) hQ
    have old : ¬ j = i → rwR σ (9600 + 120 * t + j) (XX m) j ((XX m).a j) := fun q => hd j j0 (by omega)
    unfold rwR oR at b3 old ⊢
    rw [ciS_r rfl, ciS_r rfl, ciS_r rfl, ciS_r rfl, ciS_r rfl, ciS_r rfl]
    by_cases e : j = i
    · rw [e, iu_r, iu_r, iu_r, iu_r, iu_r, iu_r]; exact b3
    · have ne : ¬ 9600 + 120 * t + j = 9600 + 120 * t + i := by omega
      rw [iu_n ne, iu_n ne, iu_n ne, iu_n ne, iu_n ne, iu_n ne]
      exact old e
end RNUMB
