/-! the reference's arrive -/
theorem dif_app {P : Pg} {s t : Int → Int} {b : Nat} : ∀ (a : Nat) (k : Int), dif P s t (a + b) k = (dif P s t a k || dif P s t b (k + a))
  | 0, k => by
    rw [Nat.zero_add, show k + ((0 : Nat) : Int) = k by omega]
    simp [dif]
  | a + 1, k => by
    rw [show a + 1 + b = (a + b) + 1 by omega]
    simp only [dif]
    rw [dif_app a (k + 1), show k + 1 + (a : Int) = k + ((a + 1 : Nat) : Int) by omega, Bool.or_assoc]
theorem dif_0 {P : Pg} {s t : Int → Int} : ∀ (n : Nat) (k : Int), (∀ z, k ≤ z → z < k + n → mt P (s z) (t z) = s z) → dif P s t n k = false
  | 0, _, _ => rfl
  | n + 1, k, h => by
    simp only [dif]
    rw [dif_0 n (k + 1) (fun z z0 z1 => h z (by omega) (by omega)), h k (by omega) (by omega)]
    simp
theorem mt_s {P : Pg} {x : Int} : mt P x x = x := by simp [mt]
theorem dif_20 {P : Pg} {s t : Int → Int} {nl : Int} (l0 : 0 ≤ nl) (l1 : nl ≤ 20) (h : ∀ z, nl ≤ z → z < 20 → s z = 0 ∧ t z = 0) : dif P s t 20 0 = dif P s t nl.toNat 0 := by
  have e : (20 : Nat) = nl.toNat + (20 - nl.toNat) := by omega
  rw [e, dif_app, dif_0 (20 - nl.toNat) _ (fun z z0 z1 => by
    obtain ⟨h1, h2⟩ := h z (by omega) (by omega)
    rw [h1, h2]
    exact mt_s)]
  simp
/-- a copy from k on -/
def i_cw (S row : Int → Int) (at' k n : Int) : Int → Int := fun z => if at' + k ≤ z ∧ z < at' + n then S (z - at') else row z
theorem cw_up {S row : Int → Int} {a k n : Int} (hk : k < n) : i_cw S (i_up row (a + k) (S k)) a (k + 1) n = i_cw S row a k n := by
  funext z
  simp only [i_cw, i_up]
  by_cases g : z = a + k
  · subst g
    rw [if_neg (by omega), if_pos rfl, if_pos (by omega), show a + k - a = k by omega]
  · simp only [if_neg g]
    by_cases g2 : a + (k + 1) ≤ z ∧ z < a + n
    · rw [if_pos g2, if_pos (by omega)]
    · rw [if_neg g2, if_neg (by omega)]
theorem cw_0 {S row : Int → Int} {a n : Int} : i_cw S row a n n = row := by
  funext z
  simp only [i_cw]
  rw [if_neg (by omega)]
section ARR
variable {d : Nat} {Q : j3_P} {P : Pg} {s m to fr y n nl : Int}
theorem a50 {w7 w8 w9 : j3_W} (y0 : 0 ≤ y) (y1 : y < 19200) : ∀ (r : Nat) (k : Int) (σ : j3_S), 0 ≤ k → k + r = 20 → T178 d Q 50 [wO 10 121, wI s, wI m, wI to, wI fr, wI y, wI k, wM 2, wM 2, wM 2] [] σ = Q none (j3_up σ.1 10042 121 1, σ.2.1, j3_up σ.2.2 10038 121 (i_cw (σ.2.2 10040 121) (σ.2.2 10038 121) (20 * y) k 20))
  | 0, k, σ, h0, hk => by
    have : k = 20 := by omega
    subst this
    rw [b178_50, if_neg (by omega), cw_0, up_id]
    simp
  | r + 1, k, σ, h0, hk => by
    rw [b178_50, if_pos (by omega)]
    simp (disch := omega) only [wr_id]
    rw [a50 (w7 := w7) (w8 := w8) (w9 := w9) y0 y1 r (k + 1) _ (by omega) (by omega)]
    simp only [j3_ast, up_r, up_up, up_e (show ((10040 : Nat) == 10038) = false from rfl), cw_up (show k < 20 by omega)]
    have c1 : (0 ≤ k ∧ k < 20) = True := by simp; omega
    have c2 : (0 ≤ 20 * y + k ∧ 20 * y + k < 384000) = True := by simp; omega
    simp only [c1, c2, true_and]
theorem a30 (y0 : 0 ≤ y) (y1 : y < 19200) (n0 : 0 ≤ n) (n1 : n ≤ 10) : ∀ (r : Nat) (k : Int) (σ : j3_S), σ.1 10041 121 = n → 0 ≤ k → k + r = n → T178 d Q 30 [wO 10 121, wI s, wI m, wI to, wI fr, wI y, wI k, wM 2, wM 2, wM 2] [] σ = Q none (j3_up σ.1 10042 121 1, σ.2.1, j3_up (j3_up σ.2.2 10037 121 (i_cw (σ.2.2 10039 121) (σ.2.2 10037 121) (10 * y) k n)) 10038 121 (i_cw (σ.2.2 10040 121) (σ.2.2 10038 121) (20 * y) 0 20))
  | 0, k, σ, hn, h0, hk => by
    have : k = n := by omega
    subst this
    rw [b178_30, hn, if_neg (by omega), a50 (w7 := wM 2) (w8 := wM 2) (w9 := wM 2) y0 y1 20 0 σ (by omega) (by omega), cw_0, up_id]
  | r + 1, k, σ, hn, h0, hk => by
    rw [b178_30, hn, if_pos (by omega)]
    simp (disch := omega) only [wr_id]
    rw [a30 y0 y1 n0 n1 r (k + 1) (σ.1, σ.2.1, j3_ast σ.2.2 10037 121 (10 * y + k) (σ.2.2 10039 121 k)) hn (by omega) (by omega)]
    simp only [j3_ast, up_r, up_up, up_e (show ((10040 : Nat) == 10037) = false from rfl), up_e (show ((10038 : Nat) == 10037) = false from rfl), up_e (show ((10039 : Nat) == 10037) = false from rfl), cw_up (show k < n by omega)]
    have c1 : (0 ≤ k ∧ k < 20) = True := by simp; omega
    have c2 : (0 ≤ 10 * y + k ∧ 10 * y + k < 192000) = True := by simp; omega
    simp only [c1, c2, true_and]
theorem wrS_n {σ : j3_S} {f c k i : Int} (h : ¬ σ.1 10007 121 = 0) : wrS σ f c k i = σ := by
  unfold wrS
  rw [if_neg h]
theorem wrS_1 {σ : j3_S} {f c k i : Int} (h : σ.1 10007 121 = 0) : (wrS σ f c k i).1 10007 121 = f := by
  unfold wrS
  rw [if_pos h]
  simp [j3_up]
theorem wrS_f {σ : j3_S} {f c k i : Int} : frm [10007] [10008] σ (wrS σ f c k i) := by
  unfold wrS
  split
  · exact frm.I rfl (frm.A rfl (frm.A rfl (frm.A rfl frm.rf)))
  · exact frm.rf
/-- one comparison -/
theorem a107s {c pl k : Int} {σ : j3_S} (y0 : 0 ≤ y) (y1 : y < 19200) (hn : σ.1 10041 121 = n) (k0 : 0 ≤ k) (k1 : k < n) (n1 : n ≤ 10) : T178 (d + 1) Q 107 [wO 10 121, wI s, wI m, wI to, wI fr, wI y, wI c, wI pl, wI k, wM 2] [] σ = T178 (d + 1) Q 107 [wO 10 121, wI s, wI m, wI to, wI fr, wI y, wI c, wI pl, wI (k + 1), wM 2] [] (if decide (σ.2.2 10037 121 (10 * y + k) = 1) = decide (σ.2.2 10039 121 k = 1) then σ else wrS σ 6 c pl fr) := by
  rw [b178_107 (x8 := k), hn, if_pos k1]
  simp (disch := omega) only [wr_id, b178_124, b178_133, b178_140]
  have c1 : (0 ≤ k ∧ k < 20) = True := by simp; omega
  have c2 : (0 ≤ 10 * y + k ∧ 10 * y + k < 192000) = True := by simp; omega
  simp only [c1, c2, true_and]
  by_cases g1 : σ.2.2 10037 121 (10 * y + k) = 1
  · by_cases g2 : σ.2.2 10039 121 k = 1
    · rw [if_pos g1, if_pos g2, if_pos trivial, if_pos (by simp [g1, g2])]
    · rw [if_pos g1, if_neg g2, if_neg (by decide), if_neg (by simp [g1, g2]), s158]
      simp only [Option.toList_none, List.nil_append]
      rw [b178_140]
      simp (disch := omega) only [wr_id]
  · by_cases g2 : σ.2.2 10039 121 k = 1
    · rw [if_neg g1, if_pos g2, if_neg (by decide), if_neg (by simp [g1, g2]), s158]
      simp only [Option.toList_none, List.nil_append]
      rw [b178_140]
      simp (disch := omega) only [wr_id]
    · rw [if_neg g1, if_neg g2, if_pos trivial, if_pos (by simp [g1, g2])]
theorem a107w {c pl : Int} {σ : j3_S} (hb : ¬ σ.1 10007 121 = 0) (y0 : 0 ≤ y) (y1 : y < 19200) (hn : σ.1 10041 121 = n) (n1 : n ≤ 10) : ∀ (r : Nat) (k : Int), 0 ≤ k → k + r = n → T178 (d + 1) Q 107 [wO 10 121, wI s, wI m, wI to, wI fr, wI y, wI c, wI pl, wI k, wM 2] [] σ = T178 (d + 1) Q 144 [wO 10 121, wI s, wI m, wI to, wI fr, wI y, wI c, wI pl, wI 0, wM 2] [] σ
  | 0, k, k0, hk => by
    rw [b178_107, hn, if_neg (by omega)]
  | r + 1, k, k0, hk => by
    rw [a107s y0 y1 hn k0 (by omega) n1, wrS_n hb]
    simp only [ite_self]
    exact a107w hb y0 y1 hn n1 r (k + 1) (by omega) (by omega)
theorem a107 {c pl : Int} {σ : j3_S} (hb : σ.1 10007 121 = 0) (y0 : 0 ≤ y) (y1 : y < 19200) (hn : σ.1 10041 121 = n) (n1 : n ≤ 10) : ∀ (r : Nat) (k : Int), 0 ≤ k → k + r = n → T178 (d + 1) Q 107 [wO 10 121, wI s, wI m, wI to, wI fr, wI y, wI c, wI pl, wI k, wM 2] [] σ = T178 (d + 1) Q 144 [wO 10 121, wI s, wI m, wI to, wI fr, wI y, wI c, wI pl, wI 0, wM 2] [] (if eqi (fun z => σ.2.2 10037 121 (10 * y + z)) (σ.2.2 10039 121) r k = true then σ else wrS σ 6 c pl fr)
  | 0, k, k0, hk => by
    rw [b178_107, hn, if_neg (by omega), if_pos (show eqi _ _ 0 k = true from rfl)]
  | r + 1, k, k0, hk => by
    rw [a107s y0 y1 hn k0 (by omega) n1]
    have es : eqi (fun z => σ.2.2 10037 121 (10 * y + z)) (σ.2.2 10039 121) (r + 1) k = ((decide (σ.2.2 10037 121 (10 * y + k) = 1) == decide (σ.2.2 10039 121 k = 1)) && eqi (fun z => σ.2.2 10037 121 (10 * y + z)) (σ.2.2 10039 121) r (k + 1)) := rfl
    by_cases g : decide (σ.2.2 10037 121 (10 * y + k) = 1) = decide (σ.2.2 10039 121 k = 1)
    · rw [if_pos g, a107 hb y0 y1 hn n1 r (k + 1) (by omega) (by omega)]
      have : eqi (fun z => σ.2.2 10037 121 (10 * y + z)) (σ.2.2 10039 121) (r + 1) k = eqi (fun z => σ.2.2 10037 121 (10 * y + z)) (σ.2.2 10039 121) r (k + 1) := by
        rw [es, g]
        simp
      rw [this]
    · have h6 : ¬ (wrS σ 6 c pl fr).1 10007 121 = 0 := by rw [wrS_1 hb]; decide
      rw [if_neg g, a107w h6 y0 y1 ((wrS_f.2.1 10041 121 rfl).trans hn) n1 r (k + 1) (by omega) (by omega), if_neg (by rw [es]; simp [g])]
/-- the meets -/
theorem a198 {c pl : Int} (hs : WFs P) (s0 : 0 ≤ s) (s2 : s ≤ 2) (y0 : 0 ≤ y) (y1 : y < 19200) : ∀ (j : Nat) (k : Int) (w : j3_W) (σ : j3_S), 0 ≤ k → k + j = 20 → σ.1 10007 121 = 0 → (σ.1 10042 121 = 0 ∨ σ.1 10042 121 = 1) → RP σ s P → (∀ z, k ≤ z → z < 20 → tyo P (σ.2.2 10038 121 (20 * y + z)) ∧ tyo P (σ.2.2 10040 121 z)) → T178 (d + 2) Q 198 [wO 10 121, wI s, wI m, wI to, wI fr, wI y, wI c, wI pl, wI k, w] [] σ = Q none (j3_up σ.1 10042 121 (if difk P (σ.2.2 10038 121) (σ.2.2 10040 121) (20 * y) j k = true then 1 else σ.1 10042 121), σ.2.1, j3_up σ.2.2 10038 121 (mrk P (σ.2.2 10038 121) (σ.2.2 10040 121) (20 * y) k 20))
  | 0, k, w, σ, k0, hk, hb, hc, hR, ht => by
    have : k = 20 := by omega
    subst this
    rw [b178_198, if_neg (by omega), mrk_0, up_id, if_neg (show ¬ difk P (σ.2.2 10038 121) (σ.2.2 10040 121) (20 * y) 0 20 = true by simp [difk]), up_id]
  | j + 1, k, w, σ, k0, hk, hb, hc, hR, ht => by
    obtain ⟨t1, t2⟩ := ht k (by omega) (by omega)
    rw [b178_198, if_pos (by omega), if_pos hb]
    simp (disch := omega) only [wr_id]
    rw [s171 hR hs s0 s2 t1 t2]
    simp only [Option.toList_some, List.cons_append, List.nil_append]
    have c1 : (0 ≤ k ∧ k < 20) = True := by simp; omega
    have c2 : (0 ≤ 20 * y + k ∧ 20 * y + k < 384000) = True := by simp; omega
    have st : T178 (d + 2) Q 219 [wO 10 121, wI s, wI m, wI to, wI fr, wI y, wI c, wI pl, wI k, w] [wI (mt P (σ.2.2 10038 121 (20 * y + k)) (σ.2.2 10040 121 k))] σ = T178 (d + 2) Q 198 [wO 10 121, wI s, wI m, wI to, wI fr, wI y, wI c, wI pl, wI (k + 1), wI (mt P (σ.2.2 10038 121 (20 * y + k)) (σ.2.2 10040 121 k))] [] (j3_up σ.1 10042 121 (if mt P (σ.2.2 10038 121 (20 * y + k)) (σ.2.2 10040 121 k) = σ.2.2 10038 121 (20 * y + k) then σ.1 10042 121 else 1), σ.2.1, j3_ast σ.2.2 10038 121 (20 * y + k) (mt P (σ.2.2 10038 121 (20 * y + k)) (σ.2.2 10040 121 k))) := by
      rw [b178_219]
      simp (disch := omega) only [wr_id, b178_234, b178_237]
      simp only [c2, true_and]
      by_cases g : mt P (σ.2.2 10038 121 (20 * y + k)) (σ.2.2 10040 121 k) = σ.2.2 10038 121 (20 * y + k)
      · simp only [if_pos g]
        rcases hc with h | h
        · rw [if_pos h, h]
          simp
        · rw [if_neg (by omega), h]
          simp
      · simp only [if_neg g]
        rcases hc with h | h
        · rw [if_pos h]
          simp
        · rw [if_neg (by omega)]
          simp
    rw [st]
    have hf : frm [10042] [10038] σ (j3_up σ.1 10042 121 (if mt P (σ.2.2 10038 121 (20 * y + k)) (σ.2.2 10040 121 k) = σ.2.2 10038 121 (20 * y + k) then σ.1 10042 121 else 1), σ.2.1, j3_ast σ.2.2 10038 121 (20 * y + k) (mt P (σ.2.2 10038 121 (20 * y + k)) (σ.2.2 10040 121 k))) := frm.I rfl (frm.A rfl frm.rf)
    rw [a198 hs s0 s2 y0 y1 j (k + 1) _ (j3_up σ.1 10042 121 (if mt P (σ.2.2 10038 121 (20 * y + k)) (σ.2.2 10040 121 k) = σ.2.2 10038 121 (20 * y + k) then σ.1 10042 121 else 1), σ.2.1, j3_ast σ.2.2 10038 121 (20 * y + k) (mt P (σ.2.2 10038 121 (20 * y + k)) (σ.2.2 10040 121 k))) (by omega) (by omega) ((hf.2.1 10007 121 rfl).trans hb) (by simp only [up_r]; split; exact hc; exact Or.inr rfl) (hR.fr hf (lr_ok rfl)) (fun z z0 z1 => by
      obtain ⟨a1, a2⟩ := ht z (by omega) z1
      simp only [j3_ast, up_r, up_e (show ((10040 : Nat) == 10038) = false from rfl)]
      rw [iu_n (by omega)]
      exact ⟨a1, a2⟩)]
    simp only [j3_ast, up_r, up_up, up_e (show ((10040 : Nat) == 10038) = false from rfl), mrk_up (show k < 20 by omega), c1, c2, true_and]
    have ed : difk P (σ.2.2 10038 121) (σ.2.2 10040 121) (20 * y) (j + 1) k = (!decide (mt P (σ.2.2 10038 121 (20 * y + k)) (σ.2.2 10040 121 k) = σ.2.2 10038 121 (20 * y + k)) || difk P (σ.2.2 10038 121) (σ.2.2 10040 121) (20 * y) j (k + 1)) := rfl
    have e2 : difk P (i_up (σ.2.2 10038 121) (20 * y + k) (mt P (σ.2.2 10038 121 (20 * y + k)) (σ.2.2 10040 121 k))) (σ.2.2 10040 121) (20 * y) j (k + 1) = difk P (σ.2.2 10038 121) (σ.2.2 10040 121) (20 * y) j (k + 1) := by
      rw [difk_e, difk_e]
      exact dif_c _ _ (fun z z0 z1 => ⟨iu_n (by omega), rfl⟩)
    rw [e2]
    congr 3
    by_cases g : mt P (σ.2.2 10038 121 (20 * y + k)) (σ.2.2 10040 121 k) = σ.2.2 10038 121 (20 * y + k)
    · have e3 : difk P (σ.2.2 10038 121) (σ.2.2 10040 121) (20 * y) (j + 1) k = difk P (σ.2.2 10038 121) (σ.2.2 10040 121) (20 * y) j (k + 1) := by rw [ed]; simp [g]
      rw [e3, if_pos g]
    · have e3 : difk P (σ.2.2 10038 121) (σ.2.2 10040 121) (20 * y) (j + 1) k = true := by rw [ed]; simp [g]
      rw [e3, if_neg g, if_pos rfl]
      split <;> rfl
theorem a144 {c pl : Int} {X : Prop} (hs : WFs P) (s0 : 0 ≤ s) (s2 : s ≤ 2) (y0 : 0 ≤ y) (y1 : y < 19200) (n1 : n ≤ 10) : ∀ (j : Nat) (k : Int) (w : j3_W) (σ : j3_S), 0 ≤ k → k + j = n → σ.1 10007 121 = 0 → σ.1 10041 121 = n → (σ.1 10042 121 = 0 ∨ σ.1 10042 121 = 1) → RP σ s P → (∀ z, k ≤ z → z < n → tyo P (σ.2.2 10037 121 (10 * y + z)) ∧ tyo P (σ.2.2 10039 121 z)) →
    (∀ w', T178 (d + 2) Q 196 [wO 10 121, wI s, wI m, wI to, wI fr, wI y, wI c, wI pl, wI n, w'] [] (j3_up σ.1 10042 121 (if difk P (σ.2.2 10037 121) (σ.2.2 10039 121) (10 * y) j k = true then 1 else σ.1 10042 121), σ.2.1, j3_up σ.2.2 10037 121 (mrk P (σ.2.2 10037 121) (σ.2.2 10039 121) (10 * y) k n)) = X) → T178 (d + 2) Q 144 [wO 10 121, wI s, wI m, wI to, wI fr, wI y, wI c, wI pl, wI k, w] [] σ = X
  | 0, k, w, σ, k0, hk, hb, hn, hc, hR, ht, hX => by
    have : k = n := by omega
    subst this
    have := hX w
    rw [mrk_0, up_id, if_neg (show ¬ difk P (σ.2.2 10037 121) (σ.2.2 10039 121) (10 * y) 0 k = true by simp [difk]), up_id] at this
    rw [b178_144, hn, if_neg (by omega)]
    exact this
  | j + 1, k, w, σ, k0, hk, hb, hn, hc, hR, ht, hX => by
    obtain ⟨t1, t2⟩ := ht k (by omega) (by omega)
    rw [b178_144, hn, if_pos (by omega), if_pos hb]
    simp (disch := omega) only [wr_id]
    rw [s171 hR hs s0 s2 t1 t2]
    simp only [Option.toList_some, List.cons_append, List.nil_append]
    have c1 : (0 ≤ k ∧ k < 20) = True := by simp; omega
    have c2 : (0 ≤ 10 * y + k ∧ 10 * y + k < 192000) = True := by simp; omega
    have st : T178 (d + 2) Q 166 [wO 10 121, wI s, wI m, wI to, wI fr, wI y, wI c, wI pl, wI k, w] [wI (mt P (σ.2.2 10037 121 (10 * y + k)) (σ.2.2 10039 121 k))] σ = T178 (d + 2) Q 144 [wO 10 121, wI s, wI m, wI to, wI fr, wI y, wI c, wI pl, wI (k + 1), wI (mt P (σ.2.2 10037 121 (10 * y + k)) (σ.2.2 10039 121 k))] [] (j3_up σ.1 10042 121 (if mt P (σ.2.2 10037 121 (10 * y + k)) (σ.2.2 10039 121 k) = σ.2.2 10037 121 (10 * y + k) then σ.1 10042 121 else 1), σ.2.1, j3_ast σ.2.2 10037 121 (10 * y + k) (mt P (σ.2.2 10037 121 (10 * y + k)) (σ.2.2 10039 121 k))) := by
      rw [b178_166]
      simp (disch := omega) only [wr_id, b178_181, b178_184]
      simp only [c2, true_and]
      by_cases g : mt P (σ.2.2 10037 121 (10 * y + k)) (σ.2.2 10039 121 k) = σ.2.2 10037 121 (10 * y + k)
      · simp only [if_pos g]
        rcases hc with h | h
        · rw [if_pos h, h]
          simp
        · rw [if_neg (by omega), h]
          simp
      · simp only [if_neg g]
        rcases hc with h | h
        · rw [if_pos h]
          simp
        · rw [if_neg (by omega)]
          simp
    rw [st]
    have hf : frm [10042] [10037] σ (j3_up σ.1 10042 121 (if mt P (σ.2.2 10037 121 (10 * y + k)) (σ.2.2 10039 121 k) = σ.2.2 10037 121 (10 * y + k) then σ.1 10042 121 else 1), σ.2.1, j3_ast σ.2.2 10037 121 (10 * y + k) (mt P (σ.2.2 10037 121 (10 * y + k)) (σ.2.2 10039 121 k))) := frm.I rfl (frm.A rfl frm.rf)
    simp only [c1, c2, true_and]
    refine a144 hs s0 s2 y0 y1 n1 j (k + 1) _ (j3_up σ.1 10042 121 (if mt P (σ.2.2 10037 121 (10 * y + k)) (σ.2.2 10039 121 k) = σ.2.2 10037 121 (10 * y + k) then σ.1 10042 121 else 1), σ.2.1, j3_ast σ.2.2 10037 121 (10 * y + k) (mt P (σ.2.2 10037 121 (10 * y + k)) (σ.2.2 10039 121 k))) (by omega) (by omega) ((hf.2.1 10007 121 rfl).trans hb) ((hf.2.1 10041 121 rfl).trans hn) (by simp only [up_r]; split; exact hc; exact Or.inr rfl) (hR.fr hf (lr_ok rfl)) (fun z z0 z1 => by
      obtain ⟨a1, a2⟩ := ht z (by omega) z1
      simp only [j3_ast, up_r, up_e (show ((10039 : Nat) == 10037) = false from rfl)]
      rw [iu_n (by omega)]
      exact ⟨a1, a2⟩) (fun w' => ?_)
    rw [← hX w']
    simp only [j3_ast, up_r, up_up, up_e (show ((10039 : Nat) == 10037) = false from rfl), mrk_up (show k < n by omega)]
    have ed : difk P (σ.2.2 10037 121) (σ.2.2 10039 121) (10 * y) (j + 1) k = (!decide (mt P (σ.2.2 10037 121 (10 * y + k)) (σ.2.2 10039 121 k) = σ.2.2 10037 121 (10 * y + k)) || difk P (σ.2.2 10037 121) (σ.2.2 10039 121) (10 * y) j (k + 1)) := rfl
    have e2 : difk P (i_up (σ.2.2 10037 121) (10 * y + k) (mt P (σ.2.2 10037 121 (10 * y + k)) (σ.2.2 10039 121 k))) (σ.2.2 10039 121) (10 * y) j (k + 1) = difk P (σ.2.2 10037 121) (σ.2.2 10039 121) (10 * y) j (k + 1) := by
      rw [difk_e, difk_e]
      exact dif_c _ _ (fun z z0 z1 => ⟨iu_n (by omega), rfl⟩)
    rw [e2]
    congr 3
    by_cases g : mt P (σ.2.2 10037 121 (10 * y + k)) (σ.2.2 10039 121 k) = σ.2.2 10037 121 (10 * y + k)
    · have e3 : difk P (σ.2.2 10037 121) (σ.2.2 10039 121) (10 * y) (j + 1) k = difk P (σ.2.2 10037 121) (σ.2.2 10039 121) (10 * y) j (k + 1) := by rw [ed]; simp [g]
      rw [e3, if_pos g]
    · have e3 : difk P (σ.2.2 10037 121) (σ.2.2 10039 121) (10 * y) (j + 1) k = true := by rw [ed]; simp [g]
      rw [e3, if_neg g, if_pos rfl]
      split <;> rfl
end ARR
