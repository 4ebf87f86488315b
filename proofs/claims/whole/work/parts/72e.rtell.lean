/-! what instructions tell, told anew in the reference -/
def kO (r : Rs) (XX : Int → Sx) (m i : Int) : Int := if r.1 m = 1 then (XX m).op i else 26
def kA (r : Rs) (XX : Int → Sx) (m i : Int) : Int := if r.1 m = 1 then (XX m).a i else 0
def kB (r : Rs) (XX : Int → Sx) (m i : Int) : Int := if r.1 m = 1 then (XX m).b i else 0
/-- the origins of a kept method's instructions, in the reference -/
def orR (P : Pg) (r : Rs) (XX : Int → Sx) (σ : j3_S) (m : Int) : Prop := ∀ i, 0 ≤ i → i < lnK r XX m → (r.1 m = 1 → oR σ (9600 + 120 * nM P r XX m + i) ((XX m).o1 i) ((XX m).o2 i)) ∧ (¬ r.1 m = 1 → σ.2.2 10030 121 (9600 + 120 * nM P r XX m + i) = 0)
section RTELL
variable {σ σ' σ'' σ0 : j3_S} {P : Pg} {r : Rs} {XX : Int → Sx} {NL : Int → Int} {d : Nat} {x c m i w k n v z op a b : Int} {Q : j3_P}
theorem kOk (hg : good P) (hxx : xxR P r XX NL) (m0 : 0 ≤ m) (m1 : m < P 3001 0) (i0 : 0 ≤ i) (i1 : i < lnK r XX m) : (0 ≤ kO r XX m i ∧ kO r XX m i ≤ 26) ∧ (kO r XX m i = 15 ∨ kO r XX m i = 24 ∨ kO r XX m i = 25 ∨ (16 ≤ kO r XX m i ∧ kO r XX m i ≤ 21) → 0 ≤ kA r XX m i ∧ kA r XX m i < P 3000 0 ∧ kC P r XX (kA r XX m i)) ∧ (16 ≤ kO r XX m i ∧ kO r XX m i ≤ 19 → 0 ≤ kB r XX m i ∧ kB r XX m i < P 3005 (kA r XX m i) ∧ kFc P r XX (kA r XX m i) (kB r XX m i)) ∧ (kO r XX m i = 20 ∨ kO r XX m i = 21 → 0 ≤ kB r XX m i ∧ kB r XX m i < P 3006 (kA r XX m i) ∧ kM P r XX (P 3007 (kA r XX m i) + kB r XX m i)) := by
  by_cases g : r.1 m = 1
  · have e1 : kO r XX m i = (XX m).op i := by unfold kO; rw [if_pos g]
    have e2 : kA r XX m i = (XX m).a i := by unfold kA; rw [if_pos g]
    have e3 : kB r XX m i = (XX m).b i := by unfold kB; rw [if_pos g]
    have el : lnK r XX m = (XX m).n := by unfold lnK; rw [if_pos g]
    rw [e1, e2, e3]
    have okx := (hxx.2 m m0 m1 g).1
    have oo := (okx.2 i i0 (by omega)).1
    have w := xx_W hxx m0 m1 g i0 (show i < (XX m).n by omega)
    obtain ⟨tc, tf, tm⟩ := told hg hxx m0 m1 g i0 (show i < (XX m).n by omega)
    exact ⟨oo, fun q => ⟨(w.1 q).1, (w.1 q).2, tc q⟩, fun q => ⟨(w.2.1 q).1.1, (w.2.1 q).1.2, tf q⟩, fun q => ⟨(w.2.2.1 (by omega)).1, (w.2.2.1 (by omega)).2, tm q⟩⟩
  · have e1 : kO r XX m i = 26 := by unfold kO; rw [if_neg g]
    rw [e1]
    exact ⟨by omega, fun q => by omega, fun q => by omega, fun q => by omega⟩
theorem t219 (hg : good P) (hR : RP σ 0 P) (h69 : ∀ c', 0 ≤ c' → c' < P 3000 0 → σ.2.2 10069 121 c' = nC P r XX c') (hn : nbR σ P r XX (P 3000 0) (P 3001 0)) (z0 : 0 ≤ z) (z1 : z < 28800) (hop : σ.2.2 10027 121 z = op) (ha : σ.2.2 10028 121 z = a) (hb : σ.2.2 10029 121 z = b) (h1 : op = 15 ∨ op = 24 ∨ op = 25 ∨ (16 ≤ op ∧ op ≤ 21) → 0 ≤ a ∧ a < P 3000 0) (h2 : 16 ≤ op ∧ op ≤ 19 → 0 ≤ b ∧ b < P 3005 a) (h3 : op = 20 ∨ op = 21 → 0 ≤ b ∧ b < P 3006 a ∧ kM P r XX (P 3007 a + b)) {x1 x2 : Int} {w3 w4 : j3_W} (hQ : ∀ σ', frm [] [10028, 10029] σ σ' → (∀ y, ¬ y = z → σ'.2.2 10028 121 y = σ.2.2 10028 121 y ∧ σ'.2.2 10029 121 y = σ.2.2 10029 121 y) → σ'.2.2 10028 121 z = cA P r XX op a → σ'.2.2 10029 121 z = cBf P r XX op a b → T219 (d + 1) Q 100 [wO 10 121, wI x1, wI x2, wI z, wI op] [] σ') : T219 (d + 1) Q 22 [wO 10 121, wI x1, wI x2, w3, w4] [wI z] σ := by
  have hc10 := hg.1.1.2.1
  have h80 := hg.1.2.1.2.1
  have E : ∀ σ', frm [] [10028, 10029] σ σ' → (∀ y, ¬ y = z → σ'.2.2 10028 121 y = σ.2.2 10028 121 y ∧ σ'.2.2 10029 121 y = σ.2.2 10029 121 y) → σ'.2.2 10028 121 z = a → σ'.2.2 10029 121 z = cBf P r XX op a b → T219 (d + 1) Q 77 [wO 10 121, wI x1, wI x2, wI z, wI op] [] σ' := by
    intro σ' f1 k1 ea eb
    have fin : op = 15 ∨ op = 24 ∨ op = 25 ∨ (16 ≤ op ∧ op ≤ 21) → T219 (d + 1) Q 89 [wO 10 121, wI x1, wI x2, wI z, wI op] [] σ' := by
      intro g
      have q := h1 g
      rw [b219_89, ea, f1.2.2 10069 _ rfl, h69 a q.1 q.2]
      refine ⟨by omega, by omega, by omega, hQ _ (f1.tr (frm.A rfl frm.rf)) (fun y hy => ?_) ?_ ?_⟩
      · show j3_up σ'.2.2 10028 121 (i_up (σ'.2.2 10028 121) z (nC P r XX a)) 10028 121 y = _ ∧ j3_up σ'.2.2 10028 121 (i_up (σ'.2.2 10028 121) z (nC P r XX a)) 10029 121 y = _
        rw [up_r, up_e rfl, iu_n hy]; exact k1 y hy
      · show j3_up σ'.2.2 10028 121 (i_up (σ'.2.2 10028 121) z (nC P r XX a)) 10028 121 z = _
        rw [up_r, iu_r]; unfold cA; rw [if_pos g]
      · show j3_up σ'.2.2 10028 121 (i_up (σ'.2.2 10028 121) z (nC P r XX a)) 10029 121 z = _
        rw [up_e rfl]; exact eb
    rw [b219_77]
    by_cases g15 : op = 15
    · rw [if_pos g15]; exact fin (by omega)
    · rw [if_neg g15, e165, b165_0]
      have c0 : ((0 : Int) = 0 ∨ (0 : Int) = 1) = True := by simp
      have c1 : ((1 : Int) = 0 ∨ (1 : Int) = 1) = True := by simp
      have no : ¬ (16 ≤ op ∧ op ≤ 21) → T219 (d + 1) Q 82 [wO 10 121, wI x1, wI x2, wI z, wI op] [wI 0] σ' := by
        intro g
        rw [b219_82, if_pos rfl]
        by_cases g24 : op = 24
        · rw [if_pos g24]; exact fin (by omega)
        · rw [if_neg g24]
          by_cases g25 : op = 25
          · rw [if_pos g25]; exact fin (by omega)
          · rw [if_neg g25]
            exact hQ σ' f1 k1 (by rw [ea]; unfold cA; rw [if_neg (by omega)]) eb
      by_cases g16 : op < 16
      · rw [if_pos g16, c0]
        exact ⟨trivial, no (by omega)⟩
      · rw [if_neg g16]
        by_cases g21 : 21 < op
        · rw [if_pos g21, c0]
          exact ⟨trivial, no (by omega)⟩
        · rw [if_neg g21, c1]
          refine ⟨trivial, ?_⟩
          simp only [Option.toList_some, List.cons_append, List.nil_append]
          rw [b219_82, if_neg (by omega)]
          exact fin (by omega)
  have F : ∀ σ', frm [] [10028, 10029] σ σ' → (∀ y, ¬ y = z → σ'.2.2 10028 121 y = σ.2.2 10028 121 y ∧ σ'.2.2 10029 121 y = σ.2.2 10029 121 y) → σ'.2.2 10028 121 z = a → (σ'.2.2 10029 121 z = if 16 ≤ op ∧ op ≤ 19 then nF P r XX a b else b) → T219 (d + 1) Q 52 [wO 10 121, wI x1, wI x2, wI z, wI op] [] σ' := by
    intro σ' f1 k1 ea eb
    have go : op = 20 ∨ op = 21 → T219 (d + 1) Q 58 [wO 10 121, wI x1, wI x2, wI z, wI op] [] σ' := by
      intro g
      have q := h1 (by omega)
      have q3 := h3 g
      have hm3 := hg.1.2.1.2.2 a q.1 q.2
      rw [if_neg (by omega)] at eb
      have r1 := (RP0_c hR q.1 q.2).1.2.2.2.2
      have ow := own_m hg q.1 q.2 (m := P 3007 a + b) (by omega) (by omega)
      rw [b219_58, ea, eb, f1.2.2 10013 _ rfl, r1, wr_id (by omega) (by omega), f1.2.2 10071 _ rfl, hn.2 _ (by omega) (by omega)]
      refine ⟨by omega, by omega, by omega, by omega, by omega, E _ (f1.tr (frm.A rfl frm.rf)) (fun y hy => ?_) ?_ ?_⟩
      · show j3_up σ'.2.2 10029 121 (i_up (σ'.2.2 10029 121) z (nO P r XX (P 3007 a + b))) 10028 121 y = _ ∧ j3_up σ'.2.2 10029 121 (i_up (σ'.2.2 10029 121) z (nO P r XX (P 3007 a + b))) 10029 121 y = _
        rw [up_r, up_e rfl, iu_n hy]; exact k1 y hy
      · show j3_up σ'.2.2 10029 121 (i_up (σ'.2.2 10029 121) z (nO P r XX (P 3007 a + b))) 10028 121 z = _
        rw [up_e rfl]; exact ea
      · show j3_up σ'.2.2 10029 121 (i_up (σ'.2.2 10029 121) z (nO P r XX (P 3007 a + b))) 10029 121 z = _
        rw [up_r, iu_r]; unfold cBf nO; rw [if_neg (by omega), if_pos g, dB_t.2 q3.2.2, ow]; rfl
    rw [b219_52]
    by_cases g20 : op = 20
    · rw [if_pos g20]; exact go (Or.inl g20)
    · rw [if_neg g20]
      by_cases g21 : op = 21
      · rw [if_pos g21]; exact go (Or.inr g21)
      · rw [if_neg g21]
        refine E σ' f1 k1 ea ?_
        rw [eb]; unfold cBf
        by_cases g : 16 ≤ op ∧ op ≤ 19
        · rw [if_pos g, if_pos g]
        · rw [if_neg g, if_neg g, if_neg (by omega)]
  rw [b219_22, hop]
  refine ⟨by omega, ?_⟩
  by_cases g16 : op < 16
  · rw [if_pos g16]
    exact F σ frm.rf (fun _ _ => ⟨rfl, rfl⟩) ha (by rw [if_neg (by omega)]; exact hb)
  · rw [if_neg g16]
    by_cases g19 : 19 < op
    · rw [if_pos g19]
      exact F σ frm.rf (fun _ _ => ⟨rfl, rfl⟩) ha (by rw [if_neg (by omega)]; exact hb)
    · have q := h1 (by omega)
      have q2 := h2 (by omega)
      have hff := hg.1.2.2.1 a q.1 q.2
      have e70 := hn.1 a b q.1 q.2 q2.1 q2.2
      rw [if_neg g19, ha, hb]
      simp (disch := omega) only [wr_id]
      rw [show 6 * a + b = a * 6 + b by omega, e70]
      refine ⟨by omega, by omega, by omega, by omega, F _ (frm.A rfl frm.rf) (fun y hy => ?_) ?_ ?_⟩
      · show j3_up σ.2.2 10029 121 (i_up (σ.2.2 10029 121) z (nF P r XX a b)) 10028 121 y = _ ∧ j3_up σ.2.2 10029 121 (i_up (σ.2.2 10029 121) z (nF P r XX a b)) 10029 121 y = _
        rw [up_r, up_e rfl, iu_n hy]; exact ⟨rfl, rfl⟩
      · show j3_up σ.2.2 10029 121 (i_up (σ.2.2 10029 121) z (nF P r XX a b)) 10028 121 z = _
        rw [up_e rfl]; exact ha
      · show j3_up σ.2.2 10029 121 (i_up (σ.2.2 10029 121) z (nF P r XX a b)) 10029 121 z = _
        rw [up_r, iu_r, if_pos (by omega)]
def wk0 (P : Pg) (r : Rs) (XX : Int → Sx) (σ : j3_S) (m i : Int) : Prop := σ.2.2 10028 121 (9600 + 120 * nM P r XX m + i) = kA r XX m i ∧ σ.2.2 10029 121 (9600 + 120 * nM P r XX m + i) = kB r XX m i
def wk1 (P : Pg) (r : Rs) (XX : Int → Sx) (σ : j3_S) (m i : Int) : Prop := σ.2.2 10028 121 (9600 + 120 * nM P r XX m + i) = cA P r XX (kO r XX m i) (kA r XX m i) ∧ σ.2.2 10029 121 (9600 + 120 * nM P r XX m + i) = cBf P r XX (kO r XX m i) (kA r XX m i) (kB r XX m i)
/-- only in the second slot -/
def tlF (σ σ' : j3_S) : Prop := frm [] [10028, 10029] σ σ' ∧ ∀ z, z < 9600 ∨ 19200 ≤ z → σ'.2.2 10028 121 z = σ.2.2 10028 121 z ∧ σ'.2.2 10029 121 z = σ.2.2 10029 121 z
theorem tlF.rf : tlF σ σ := ⟨frm.rf, fun _ _ => ⟨rfl, rfl⟩⟩
theorem tlF.tr (h : tlF σ σ') (h' : tlF σ' σ'') : tlF σ σ'' := ⟨h.1.tr h'.1, fun z hz => ⟨(h'.2 z hz).1.trans (h.2 z hz).1, (h'.2 z hz).2.trans (h.2 z hz).2⟩⟩
theorem tlF.nu (h : tlF σ σ') : nuF 0 0 σ σ' := by
  refine ⟨h.1.wd (fun _ q => q) (sub_el rfl), fun e z e0 e1 hz => ?_⟩
  by_cases g : e = 10028
  · subst g
    exact (h.2 z (show z < 9600 + 120 * 0 ∨ 2 * 9600 ≤ z from hz)).1
  · by_cases g2 : e = 10029
    · subst g2
      exact (h.2 z (show z < 9600 + 120 * 0 ∨ 2 * 9600 ≤ z from hz)).2
    · rw [h.1.2.2 e _ (by simp; omega)]
theorem l219i (hg : good P) (hxx : xxR P r XX NL) (hR0 : RP σ0 0 P) (h69 : ∀ c', 0 ≤ c' → c' < P 3000 0 → σ0.2.2 10069 121 c' = nC P r XX c') (hn : nbR σ0 P r XX (P 3000 0) (P 3001 0)) (m0 : 0 ≤ m) (m1 : m < P 3001 0) (hm : kM P r XX m) (hln : σ0.2.2 10026 121 (80 + nM P r XX m) = lnK r XX m) (hop : ∀ i, 0 ≤ i → i < lnK r XX m → σ0.2.2 10027 121 (9600 + 120 * nM P r XX m + i) = kO r XX m i) : ∀ (n : Nat) (i : Int) (w3 w4 : j3_W) (σ : j3_S), i + n = lnK r XX m → 0 ≤ i → tlF σ0 σ → (∀ z, z < 9600 + 120 * nM P r XX m ∨ 9600 + 120 * nM P r XX m + 120 ≤ z → σ.2.2 10028 121 z = σ0.2.2 10028 121 z ∧ σ.2.2 10029 121 z = σ0.2.2 10029 121 z) → (∀ j, 0 ≤ j → j < i → wk1 P r XX σ m j) → (∀ j, i ≤ j → j < lnK r XX m → wk0 P r XX σ m j) → (∀ σ' x2 w3 w4, tlF σ0 σ' → (∀ z, z < 9600 + 120 * nM P r XX m ∨ 9600 + 120 * nM P r XX m + 120 ≤ z → σ'.2.2 10028 121 z = σ0.2.2 10028 121 z ∧ σ'.2.2 10029 121 z = σ0.2.2 10029 121 z) → (∀ j, 0 ≤ j → j < lnK r XX m → wk1 P r XX σ' m j) → T219 (d + 1) Q 2 [wO 10 121, wI (nM P r XX m + 1), wI x2, w3, w4] [] σ') → T219 (d + 1) Q 10 [wO 10 121, wI (nM P r XX m), wI i, w3, w4] [] σ
  | 0, i, w3, w4, σ, hi, i0, hf, hz, hd, hr, hQ => by
    have h80 := hg.1.2.1.2.1
    have nn := nw_b (n := P 3001 0) m0 m1 hm
    have en : nM P r XX m = nwN (kM P r XX) m := rfl
    rw [b219_10, wr_id (z := 80 + nM P r XX m) (by omega) (by omega), hf.1.2.2 10026 _ rfl, hln, if_neg (by omega), wr_id (by omega) (by omega)]
    exact ⟨by omega, hQ σ i w3 w4 hf hz (fun j j0 j1 => hd j j0 (by omega))⟩
  | n + 1, i, w3, w4, σ, hi, i0, hf, hz, hd, hr, hQ => by
    have h80 := hg.1.2.1.2.1
    have nn := nw_b (n := P 3001 0) m0 m1 hm
    have en : nM P r XX m = nwN (kM P r XX) m := rfl
    have lb := lnK_b hxx m0 m1
    have ok := kOk hg hxx m0 m1 i0 (show i < lnK r XX m by omega)
    rw [b219_10, wr_id (z := 80 + nM P r XX m) (by omega) (by omega), hf.1.2.2 10026 _ rfl, hln, if_pos (by omega), s160 (by omega) (by omega) (by omega) (by omega) (by omega) (by omega)]
    refine ⟨by omega, ?_⟩
    simp only [Option.toList_some, List.cons_append, List.nil_append]
    obtain ⟨ra, rb⟩ := hr i (by omega) (by omega)
    rw [show 9600 * 1 + 120 * nM P r XX m + i = 9600 + 120 * nM P r XX m + i by omega]
    have hR : RP σ 0 P := hR0.mv (fun e z e0 e1 z0 z1 ne => by
      by_cases g : e ≤ 10032
      · exact hf.nu.ch (by omega) (by omega) e z e0 g (Or.inl (by omega))
      · have : e = 10034 := by omega
        rw [this, hf.1.2.2 10034 _ rfl]) (bnd_of hg.1)
    refine t219 hg hR (fun c' q0 q1 => by rw [hf.1.2.2 10069 _ rfl]; exact h69 c' q0 q1) ⟨fun c' f q0 q1 q2 q3 => by rw [hf.1.2.2 10070 _ rfl]; exact hn.1 c' f q0 q1 q2 q3, fun m q0 q1 => by rw [hf.1.2.2 10071 _ rfl]; exact hn.2 m q0 q1⟩ (by omega) (by omega) (by rw [hf.1.2.2 10027 _ rfl]; exact hop i i0 (by omega)) ra rb (fun q => ⟨(ok.2.1 q).1, (ok.2.1 q).2.1⟩) (fun q => ⟨(ok.2.2.1 q).1, (ok.2.2.1 q).2.1⟩) (fun q => ok.2.2.2 q) (fun σ' f1 k1 e1 e2 => ?_)
    rw [b219_100, wr_id (by omega) (by omega)]
    refine l219i hg hxx hR0 h69 hn m0 m1 hm hln hop n (i + 1) _ _ σ' (by omega) (by omega) (hf.tr ⟨f1, fun z hz => k1 z (by omega)⟩) (fun z q => ⟨(k1 z (by omega)).1.trans (hz z q).1, (k1 z (by omega)).2.trans (hz z q).2⟩) (fun j j0 j1 => ?_) (fun j j0 j1 => ?_) hQ
    · by_cases e : j = i
      · rw [e]; exact ⟨e1, e2⟩
      · have := k1 (9600 + 120 * nM P r XX m + j) (by omega)
        have u := hd j j0 (by omega)
        exact ⟨this.1.trans u.1, this.2.trans u.2⟩
    · have := k1 (9600 + 120 * nM P r XX m + j) (by omega)
      have u := hr j (by omega) j1
      exact ⟨this.1.trans u.1, this.2.trans u.2⟩
theorem l219 (hg : good P) (hxx : xxR P r XX NL) (hR0 : RP σ0 0 P) (h69 : ∀ c', 0 ≤ c' → c' < P 3000 0 → σ0.2.2 10069 121 c' = nC P r XX c') (hn : nbR σ0 P r XX (P 3000 0) (P 3001 0)) (h18 : σ0.2.2 10018 121 1 = nB (kM P r XX) (P 3001 0)) (hln : ∀ m, 0 ≤ m → m < P 3001 0 → kM P r XX m → σ0.2.2 10026 121 (80 + nM P r XX m) = lnK r XX m ∧ ∀ i, 0 ≤ i → i < lnK r XX m → σ0.2.2 10027 121 (9600 + 120 * nM P r XX m + i) = kO r XX m i) : ∀ (n : Nat) (t : Int) (w2 w3 w4 : j3_W) (σ : j3_S), t + n = nB (kM P r XX) (P 3001 0) → 0 ≤ t → tlF σ0 σ → (∀ m, 0 ≤ m → m < P 3001 0 → kM P r XX m → ∀ j, 0 ≤ j → j < lnK r XX m → (nM P r XX m < t → wk1 P r XX σ m j) ∧ (t ≤ nM P r XX m → wk0 P r XX σ m j)) → (∀ σ', tlF σ0 σ' → (∀ m, 0 ≤ m → m < P 3001 0 → kM P r XX m → ∀ j, 0 ≤ j → j < lnK r XX m → wk1 P r XX σ' m j) → Q none σ') → T219 (d + 1) Q 2 [wO 10 121, wI t, w2, w3, w4] [] σ
  | 0, t, w2, w3, w4, σ, ht, t0, hf, hd, hQ => by
    rw [b219_2, hf.1.2.2 10018 _ rfl, h18, if_neg (by omega)]
    refine ⟨by omega, hQ σ hf (fun m m0 m1 hm j j0 j1 => (hd m m0 m1 hm j j0 j1).1 ?_)⟩
    have nn := nw_b (n := P 3001 0) m0 m1 hm
    have en : nM P r XX m = nwN (kM P r XX) m := rfl
    omega
  | n + 1, t, w2, w3, w4, σ, ht, t0, hf, hd, hQ => by
    have hm0 := hg.1.2.1.1
    have h80 := hg.1.2.1.2.1
    obtain ⟨m, m0, m1, hm, em⟩ := nB_sur (q := kM P r XX) (n := P 3001 0) hm0 t0 (by omega)
    have en : nM P r XX m = t := (nw_k hm).trans em
    have lb := lnK_b hxx m0 m1
    rw [b219_2, hf.1.2.2 10018 _ rfl, h18, if_pos (by omega), ← en]
    refine ⟨by omega, ?_⟩
    have hR : RP σ 0 P := hR0.mv (fun e z e0 e1 z0 z1 ne => by
      by_cases g : e ≤ 10032
      · exact hf.nu.ch (by omega) (by omega) e z e0 g (Or.inl (by omega))
      · have : e = 10034 := by omega
        rw [this, hf.1.2.2 10034 _ rfl]) (bnd_of hg.1)
    refine l219i (σ0 := σ) hg hxx hR (fun c' q0 q1 => by rw [hf.1.2.2 10069 _ rfl]; exact h69 c' q0 q1) ⟨fun c' f q0 q1 q2 q3 => by rw [hf.1.2.2 10070 _ rfl]; exact hn.1 c' f q0 q1 q2 q3, fun m q0 q1 => by rw [hf.1.2.2 10071 _ rfl]; exact hn.2 m q0 q1⟩ m0 m1 hm (by rw [hf.1.2.2 10026 _ rfl]; exact (hln m m0 m1 hm).1) (fun i i0 i1 => by rw [hf.1.2.2 10027 _ rfl]; exact (hln m m0 m1 hm).2 i i0 i1) (lnK r XX m).toNat 0 _ _ σ (by omega) (by omega) tlF.rf (fun _ _ => ⟨rfl, rfl⟩) (fun j j0 j1 => by omega) (fun j j0 j1 => (hd m m0 m1 hm j j0 j1).2 (by omega)) (fun σ1 x2 w3 w4 f1 k1 t1 => ?_)
    rw [en]
    refine l219 hg hxx hR0 h69 hn h18 hln n (t + 1) _ _ _ σ1 (by omega) (by omega) (hf.tr f1) (fun m' m0' m1' hm' j j0 j1 => ?_) hQ
    have lb' := lnK_b hxx m0' m1'
    by_cases e : m' = m
    · rw [e] at j1 ⊢
      exact ⟨fun _ => t1 j j0 j1, fun q => by omega⟩
    · have ne := nM_ne m0' m0 hm' hm e
      have := k1 (9600 + 120 * nM P r XX m' + j) (by omega)
      obtain ⟨u1, u2⟩ := hd m' m0' m1' hm' j j0 j1
      exact ⟨fun q => ⟨this.1.trans (u1 (by omega)).1, this.2.trans (u1 (by omega)).2⟩, fun q => ⟨this.1.trans (u2 (by omega)).1, this.2.trans (u2 (by omega)).2⟩⟩
theorem s219 (hg : good P) (hxx : xxR P r XX NL) (hR : RP σ 0 P) (h69 : ∀ c', 0 ≤ c' → c' < P 3000 0 → σ.2.2 10069 121 c' = nC P r XX c') (hn : nbR σ P r XX (P 3000 0) (P 3001 0)) (h18 : σ.2.2 10018 121 1 = nB (kM P r XX) (P 3001 0)) (hk : ∀ m, 0 ≤ m → m < P 3001 0 → kM P r XX m → spK0 P r XX σ m) (hQ : ∀ σ', tlF σ σ' → (∀ m, 0 ≤ m → m < P 3001 0 → kM P r XX m → spK P r XX (PgR σ') m ∧ orR P r XX σ' m) → Q none σ') : j3_tc true (d + 2) 219 [wO 10 121] σ Q := by
  have hv : ∀ m, 0 ≤ m → m < P 3001 0 → kM P r XX m → ∀ i, 0 ≤ i → i < lnK r XX m → σ.2.2 10027 121 (9600 + 120 * nM P r XX m + i) = kO r XX m i ∧ wk0 P r XX σ m i := by
    intro m m0 m1 hm i i0 i1
    obtain ⟨-, a2⟩ := hk m m0 m1 hm
    obtain ⟨b1, b2⟩ := a2 i i0 i1
    unfold wk0 kO kA kB
    by_cases g : r.1 m = 1
    · rw [if_pos g, if_pos g, if_pos g]
      obtain ⟨q1, q2, q3, -⟩ := b1 g
      exact ⟨q1, q2, q3⟩
    · rw [if_neg g, if_neg g, if_neg g]
      obtain ⟨q1, q2, q3, -⟩ := b2 g
      exact ⟨q1, q2, q3⟩
  rw [e219, b219_0]
  refine l219 (σ0 := σ) hg hxx hR h69 hn h18 (fun m m0 m1 hm => ⟨(hk m m0 m1 hm).1, fun i i0 i1 => (hv m m0 m1 hm i i0 i1).1⟩) (nB (kM P r XX) (P 3001 0)).toNat 0 _ _ _ σ (by have := nB_p (q := kM P r XX) (x := P 3001 0); omega) (by omega) tlF.rf (fun m m0 m1 hm j j0 j1 => ⟨fun q => ?_, fun _ => (hv m m0 m1 hm j j0 j1).2⟩) (fun σ' f1 t1 => hQ σ' f1 (fun m m0 m1 hm => ?_))
  · have nn := nw_b (n := P 3001 0) m0 m1 hm
    have en : nM P r XX m = nwN (kM P r XX) m := rfl
    omega
  · obtain ⟨a1, a2⟩ := hk m m0 m1 hm
    refine ⟨⟨?_, fun i i0 i1 => ⟨?_, ?_, ?_⟩⟩, fun i i0 i1 => ?_⟩
    · show σ'.2.2 10026 121 (80 + nM P r XX m) = _
      rw [f1.1.2.2 10026 _ rfl]; exact a1
    · show σ'.2.2 10027 121 (9600 + (nM P r XX m * 120 + i)) = _
      rw [f1.1.2.2 10027 _ rfl, show 9600 + (nM P r XX m * 120 + i) = 9600 + 120 * nM P r XX m + i by omega]
      exact (hv m m0 m1 hm i i0 i1).1
    · show σ'.2.2 10028 121 (9600 + (nM P r XX m * 120 + i)) = _
      rw [show 9600 + (nM P r XX m * 120 + i) = 9600 + 120 * nM P r XX m + i by omega, (t1 m m0 m1 hm i i0 i1).1]
      unfold kO kA cA
      by_cases g : r.1 m = 1
      · rw [if_pos g, if_pos g, if_pos g]
      · rw [if_neg g, if_neg g, if_neg g, if_neg (by omega)]
    · show σ'.2.2 10029 121 (9600 + (nM P r XX m * 120 + i)) = _
      rw [show 9600 + (nM P r XX m * 120 + i) = 9600 + 120 * nM P r XX m + i by omega, (t1 m m0 m1 hm i i0 i1).2]
      unfold kO kA kB cBf
      by_cases g : r.1 m = 1
      · rw [if_pos g, if_pos g, if_pos g, if_pos g]
      · rw [if_neg g, if_neg g, if_neg g, if_neg g, if_neg (by omega), if_neg (by omega)]
    · obtain ⟨b1, b2⟩ := a2 i i0 i1
      unfold oR
      rw [f1.1.2.2 10030 _ rfl, f1.1.2.2 10031 _ rfl, f1.1.2.2 10032 _ rfl]
      refine ⟨fun q => ?_, fun q => ?_⟩
      · have := (b1 q).2.2.2
        unfold oR at this
        exact this
      · exact (b2 q).2.2.2
end RTELL
