/-! the reference's run: its beginning, trace and places told back, its end -/
section RRUN
variable {σ σ' τ : j3_S} {P : Pg} {T : Int → Fl} {d : Nat} {Q : j3_P} {m n s v y1 y2 y3 : Int} {w v1 v2 : Int → Int}
theorem l241a {I : Nat → Nat → Int} {p : Nat → Nat} {A : Nat → Nat → Int → Int} {f : Int → Int} : ∀ (n : Nat) (x : Int), x + n = 8 → 0 ≤ x → T241 d Q 43 [wO 10 121, wI y1, wI y2, wI y3, wI x] [] (I, p, j3_up A 10078 121 (i_fl f 0 x 0)) = T241 d Q 55 [wO 10 121, wI y1, wI y2, wI y3, wI 0] [] (I, p, j3_up A 10078 121 (i_fl f 0 8 0))
  | 0, x, h, h0 => by
    have : x = 8 := by omega
    rw [this, b241_43, if_neg (by omega)]
  | n + 1, x, h, h0 => by
    rw [b241_43, if_pos (by omega), wr_id (by omega) (by omega)]
    simp only [j3_ast, up_r, up_up]
    rw [fl_s (by omega), l241a n (x + 1) (by omega) (by omega)]
    exact propext (and_iff_right (by omega))
theorem l241b {I : Nat → Nat → Int} {p : Nat → Nat} {A : Nat → Nat → Int → Int} {f : Int → Int} : ∀ (n : Nat) (x : Int), x + n = 60 → 0 ≤ x → T241 d Q 55 [wO 10 121, wI y1, wI y2, wI y3, wI x] [] (I, p, j3_up A 10088 121 (i_fl f 0 x 0)) = T241 d Q 55 [wO 10 121, wI y1, wI y2, wI y3, wI 60] [] (I, p, j3_up A 10088 121 (i_fl f 0 60 0))
  | 0, x, h, h0 => by
    have : x = 60 := by omega
    rw [this]
  | n + 1, x, h, h0 => by
    rw [b241_55, if_pos (by omega), wr_id (by omega) (by omega)]
    simp only [j3_ast, up_r, up_up]
    rw [fl_s (by omega), l241b n (x + 1) (by omega) (by omega)]
    exact propext (and_iff_right (by omega))
theorem l241c {I : Nat → Nat → Int} {p : Nat → Nat} {A : Nat → Nat → Int → Int} {f : Int → Int} : ∀ (n : Nat) (x : Int), x + n = 20 → 0 ≤ x → T241 d Q 112 [wO 10 121, wI y1, wI y2, wI y3, wI x] [] (I, p, j3_up A 10083 121 (i_fl f 0 x 0)) = T241 d Q 124 [wO 10 121, wI y1, wI y2, wI y3, wI 0] [] (I, p, j3_up A 10083 121 (i_fl f 0 20 0))
  | 0, x, h, h0 => by
    have : x = 20 := by omega
    rw [this, b241_112, if_neg (by omega)]
  | n + 1, x, h, h0 => by
    rw [b241_112, if_pos (by omega), wr_id (by omega) (by omega)]
    simp only [j3_ast, up_r, up_up]
    rw [fl_s (by omega), l241c n (x + 1) (by omega) (by omega)]
    exact propext (and_iff_right (by omega))
theorem fl_in {A : Nat → Nat → Int → Int} {e : Nat} {a x : Int} : A = j3_up A e 121 (i_fl (A e 121) a a x) := by rw [fl_0, up_id]
/-- the reference's ints and rows where the loop begins -/
def bgI (σ : j3_S) (s : Int) : Nat → Nat → Int := j3_up (j3_up (j3_up (j3_up (j3_up (j3_up (j3_up (j3_up (j3_up σ.1 10000 121 0) 10093 121 s) 10077 121 1) 10085 121 0) 10089 121 0) 10095 121 0) 10096 121 1) 10094 121 (-1)) 10079 121 1
def bgA (σ : j3_S) : Nat → Nat → Int → Int := j3_up (j3_up σ.2.2 10078 121 (i_fl (σ.2.2 10078 121) 0 8 0)) 10088 121 (i_fl (σ.2.2 10088 121) 0 60 0)
def bgB (σ : j3_S) (m : Int) : Nat → Nat → Int → Int := j3_up (j3_ast (j3_ast (j3_ast (bgA σ) 10080 121 0 m) 10081 121 0 0) 10082 121 0 0) 10083 121 (i_fl (σ.2.2 10083 121) 0 20 0)
def rrI : List Nat := [10000, 10077, 10093] ++ rmI
def rrA : List Nat := [10078, 10091, 10092] ++ rmB
theorem bg_f : frm rrI rrA σ (bgI σ s, σ.2.1, bgB σ m) := frm.A rfl (frm.A rfl (frm.A rfl (frm.A rfl (frm.A rfl (frm.A rfl (frm.I rfl (frm.I rfl (frm.I rfl (frm.I rfl (frm.I rfl (frm.I rfl (frm.I rfl (frm.I rfl (frm.I rfl frm.rf))))))))))))))
theorem bg_f1 : frm rrI rrA σ (bgI σ s, σ.2.1, bgA σ) := frm.A rfl (frm.A rfl (frm.I rfl (frm.I rfl (frm.I rfl (frm.I rfl (frm.I rfl (frm.I rfl (frm.I rfl (frm.I rfl (frm.I rfl frm.rf))))))))))
/-- to the loop; hm: what the entry's method is -/
theorem s241a {b e : Int} (fl : σ.1 10043 121 = 0 ∨ σ.1 10043 121 = 1) (fl' : σ.1 10044 121 = 0 ∨ σ.1 10044 121 = 1) (hb : ¬ (if b = 0 then σ.1 10043 121 else σ.1 10044 121) = 0) (e0 : 0 ≤ e) (e1 : e < σ.1 10045 121) (e6 : σ.1 10045 121 ≤ 6) (n1 : 1 ≤ n) (n2 : n ≤ 20000) (hs : s = if b = 0 then 0 else 1) (hm : b = 0 → m = σ.2.2 10046 121 e) (hm' : ¬ b = 0 → ∀ (Q : j3_P), Q (some (wI m)) (bgI σ s, σ.2.1, bgA σ) → j3_tc true (d + 1) 220 [wO 10 121, wI (σ.2.2 10046 121 e)] (bgI σ s, σ.2.1, bgA σ) Q) (h : T241 (d + 1) Q 124 [wO 10 121, wI b, wI e, wI n, wI 0] [] (bgI σ s, σ.2.1, bgB σ m)) : j3_tc true (d + 2) 241 [wO 10 121, wI b, wI e, wI n] σ Q := by
  have i43 : j3_up σ.1 10000 121 0 10043 121 = σ.1 10043 121 := up_e rfl
  have i44 : j3_up σ.1 10000 121 0 10044 121 = σ.1 10044 121 := up_e rfl
  have i45 : j3_up σ.1 10000 121 0 10045 121 = σ.1 10045 121 := up_e rfl
  have t99 : T241 (d + 1) Q 99 [wO 10 121, wI b, wI e, wI n, wI 60] [wI m, wI 0, wA 10080 121] (bgI σ s, σ.2.1, bgA σ) := by
    rw [b241_99]
    refine ⟨by omega, by omega, by omega, ?_⟩
    rw [fl_in (A := j3_ast (j3_ast (j3_ast (bgA σ) 10080 121 0 m) 10081 121 0 0) 10082 121 0 0) (e := 10083) (a := 0) (x := 0), l241c 20 0 (by omega) (by omega)]
    have : j3_ast (j3_ast (j3_ast (bgA σ) 10080 121 0 m) 10081 121 0 0) 10082 121 0 0 10083 121 = σ.2.2 10083 121 := by simp [bgA, j3_ast, j3_up]
    rw [this]
    exact h
  have a46 : bgA σ 10046 121 = σ.2.2 10046 121 := by simp [bgA, j3_up]
  have t43 : T241 (d + 1) Q 43 [wO 10 121, wI b, wI e, wI n, wI 0] [] (j3_up (j3_up (j3_up σ.1 10000 121 0) 10093 121 s) 10077 121 1, σ.2.1, σ.2.2) := by
    rw [fl_in (A := σ.2.2) (e := 10078) (a := 0) (x := 0), l241a 8 0 (by omega) (by omega), fl_in (A := j3_up σ.2.2 10078 121 (i_fl (σ.2.2 10078 121) 0 8 0)) (e := 10088) (a := 0) (x := 0), l241b 60 0 (by omega) (by omega), up_e (show ((10088 : Nat) == 10078) = false from rfl), b241_55, if_neg (by omega)]
    by_cases g : b = 0
    · rw [if_pos g]
      refine ⟨by omega, ?_⟩
      have := t99
      rw [hm g] at this
      dsimp only
      rw [show j3_up (j3_up σ.2.2 10078 121 (i_fl (σ.2.2 10078 121) 0 8 0)) 10088 121 (i_fl (σ.2.2 10088 121) 0 60 0) 10046 121 = σ.2.2 10046 121 from a46]
      exact this
    · rw [if_neg g]
      refine ⟨by omega, ?_⟩
      dsimp only
      rw [show j3_up (j3_up σ.2.2 10078 121 (i_fl (σ.2.2 10078 121) 0 8 0)) 10088 121 (i_fl (σ.2.2 10088 121) 0 60 0) 10046 121 = σ.2.2 10046 121 from a46]
      refine hm' g _ ?_
      simp only [Option.toList_some, List.cons_append, List.nil_append]
      rw [b241_94]
      exact t99
  have t26 : T241 (d + 1) Q 26 [wO 10 121, wI b, wI e, wI n, wM 2] [] (j3_up σ.1 10000 121 0, σ.2.1, σ.2.2) := by
    rw [b241_26]
    dsimp only
    rw [if_neg (show ¬ 0 < j3_up σ.1 10000 121 0 10000 121 by rw [up_r]; omega)]
    by_cases g : b = 0
    · rw [if_pos g] at hs ⊢
      rw [b241_37]
      rw [hs] at t43
      exact ⟨Or.inr rfl, t43⟩
    · rw [if_neg g] at hs ⊢
      rw [b241_37]
      rw [hs] at t43
      exact ⟨Or.inr rfl, t43⟩
  have t6 : ∀ z, ¬ z = 0 → T241 (d + 1) Q 6 [wO 10 121, wI b, wI e, wI n, wM 2] [wI z] (j3_up σ.1 10000 121 0, σ.2.1, σ.2.2) := by
    intro z hz
    rw [b241_6, if_neg hz, if_neg (by omega)]
    dsimp only
    rw [if_pos (show e < j3_up σ.1 10000 121 0 10045 121 by rw [i45]; exact e1), if_neg (by omega), if_neg (by omega)]
    exact t26
  rw [e241, b241_0, e187, b187_0]
  dsimp only
  by_cases g : b = 0
  · rw [if_pos g] at hb ⊢
    rw [i43]
    exact ⟨fl, t6 _ hb⟩
  · rw [if_neg g] at hb ⊢
    rw [i44]
    exact ⟨fl', t6 _ hb⟩
theorem bg_rr (hW : WFp P) (m0 : 0 ≤ m) (m1 : m < P 3001 0) : RR (bgI σ s, σ.2.1, bgB σ m) P (M0 m) := by
  refine ⟨⟨⟨?_, ?_, ?_, ?_⟩, ?_, Int.le_refl 0, fun i i0 i1 i2 => ?_⟩, fun _ => ⟨?_, fun k k0 k1 => ?_⟩, fun _ => ⟨fun k k0 k1 => ⟨⟨?_, fun j j0 j1 => ?_⟩, fun x x0 x1 => ?_⟩, ⟨fun o o0 o1 => ?_, fun z z0 z1 => ?_⟩⟩⟩
  · simp [bgI, j3_up]; rfl
  · simp [bgI, j3_up]; rfl
  · simp [bgI, j3_up]; rfl
  · simp [bgI, j3_up]; rfl
  · simp [bgI, j3_up]; rfl
  · exact absurd (show i < 0 from i2) (by omega)
  · simp [bgI, j3_up]; rfl
  · have k1 : k < 1 := k1
    have : k = 0 := by omega
    subst this
    simp [bgB, bgA, j3_ast, j3_up, i_up]
    exact ⟨rfl, rfl⟩
  · have k1 : k < 1 := k1
    have : k = 0 := by omega
    subst this
    simp [bgB, bgA, j3_ast, j3_up, i_up]
    rfl
  · exact absurd (show j < 0 from j1) (by omega)
  · have k1 : k < 1 := k1
    have : k = 0 := by omega
    subst this
    have x1 : x < P 3017 m := x1
    have := (hW.2.2.2 m m0 m1).2.2.2.2.1.2
    have e : bgB σ m 10083 121 = i_fl (σ.2.2 10083 121) 0 20 0 := by simp [bgB, j3_up]
    show bgB σ m 10083 121 (20 * 0 + x) = 0
    rw [e]
    simp only [i_fl]
    rw [if_pos (by omega)]
  · exact absurd (show o < 0 from o1) (by omega)
  · have : bgB σ m 10088 121 = i_fl (σ.2.2 10088 121) 0 60 0 := by simp [bgB, bgA, j3_ast, j3_up]
    show bgB σ m 10088 121 z = 0
    rw [this]
    simp only [i_fl]
    rw [if_pos (by omega)]
/-- what is told back so far -/
def bkR (σ0 σ : j3_S) (me pc : Int → Int) (k : Int) (S : Int × (Int → Int)) : Prop := frm [] [10091, 10092] σ0 σ ∧ (∀ i, 0 ≤ i → i < k → σ.2.2 10091 121 i = 1000 * me i + pc i) ∧ ∀ i, 0 ≤ i → i < S.1 → σ.2.2 10092 121 i = S.2 i
theorem bkR.ap {σ0 : j3_S} {S : Int × (Int → Int)} {me pc : Int → Int} {k : Int} (h : bkR σ0 σ me pc k S) (s0 : 0 ≤ S.1) : bkR σ0 (σ.1, σ.2.1, j3_ast σ.2.2 10092 121 S.1 v) me pc k (S.1 + 1, i_up S.2 S.1 v) := by
  obtain ⟨h1, h2, h3⟩ := h
  refine ⟨h1.tr (frm.A rfl frm.rf), fun i i0 i1 => ?_, fun i i0 i1 => ?_⟩
  · simp only [j3_ast, up_e (show ((10091 : Nat) == 10092) = false from rfl)]
    exact h2 i i0 i1
  · have i1 : i < S.1 + 1 := i1
    simp only [j3_ast, up_r, i_up]
    by_cases g : i = S.1
    · rw [if_pos g, if_pos g]
    · rw [if_neg g, if_neg g]
      exact h3 i i0 (by omega)
theorem bkR.tr1 {σ0 : j3_S} {S : Int × (Int → Int)} {me pc : Int → Int} {k : Int} (h : bkR σ0 σ me pc k S) (k0 : 0 ≤ k) : bkR σ0 (σ.1, σ.2.1, j3_ast σ.2.2 10091 121 k (1000 * me k + pc k)) me pc (k + 1) S := by
  obtain ⟨h1, h2, h3⟩ := h
  refine ⟨h1.tr (frm.A rfl frm.rf), fun i i0 i1 => ?_, fun i i0 i1 => ?_⟩
  · simp only [j3_ast, up_r, i_up]
    by_cases g : i = k
    · rw [if_pos g, g]
    · rw [if_neg g]
      exact h2 i i0 (by omega)
  · simp only [j3_ast, up_e (show ((10092 : Nat) == 10091) = false from rfl)]
    exact h3 i i0 i1
theorem l240 {D : Int} {me pc : Int → Int} {σ0 : j3_S} (s0 : s = 0 ∨ s = 1) (hD : D ≤ 40) (hI : σ0.1 10079 121 = D) (hs : σ0.1 10093 121 = s) (hb : ∀ k, 0 ≤ k → k < D → 0 ≤ me k ∧ me k < 80 ∧ 0 ≤ pc k ∧ pc k < 120 ∧ σ0.2.2 10080 121 (D - 1 - k) = me k ∧ σ0.2.2 10081 121 (D - 1 - k) = pc k) (hg : s = 0 → ∀ k, 0 ≤ k → k < D → w k = 1 ∧ v1 k = 1000 * me k + pc k) (hw : s = 1 → ∀ k, 0 ≤ k → k < D → σ0.2.2 10030 121 (9600 + 120 * me k + pc k) = w k ∧ (w k = 0 ∨ (w k = 1 ∧ σ0.2.2 10031 121 (9600 + 120 * me k + pc k) = v1 k) ∨ (w k = 2 ∧ σ0.2.2 10031 121 (9600 + 120 * me k + pc k) = v1 k ∧ σ0.2.2 10032 121 (9600 + 120 * me k + pc k) = v2 k))) : ∀ (n k : Nat) (w3 w4 w5 : j3_W) (σ : j3_S), (k : Int) + n = D → bkR σ0 σ me pc k (bkS w v1 v2 k) → (∀ σ', bkR σ0 σ' me pc D (bkS w v1 v2 (k + n)) → Q none (σ'.1, σ'.2.1, j3_ast (j3_ast σ'.2.2 10078 121 7 (bkS w v1 v2 (k + n)).1) 10078 121 4 D)) → T240 (d + 1) Q 4 [wO 10 121, wI (bkS w v1 v2 k).1, wI k, w3, w4, w5] [] σ
  | 0, k, w3, w4, w5, σ, hk, hB, hQ => by
    have i7 : σ.1 10079 121 = D := by rw [hB.1.2.1 10079 121 rfl]; exact hI
    rw [b240_4, i7, if_neg (by omega)]
    have hk' : (k : Int) = D := by omega
    rw [hk'] at hB
    exact ⟨by omega, by omega, hQ σ hB⟩
  | n + 1, k, w3, w4, w5, σ, hk, hB, hQ => by
    have i7 : σ.1 10079 121 = D := by rw [hB.1.2.1 10079 121 rfl]; exact hI
    have is : ∀ σ1 k' S, bkR σ0 σ1 me pc k' S → σ1.1 10093 121 = s := fun σ1 k' S h => by rw [h.1.2.1 10093 121 rfl]; exact hs
    obtain ⟨c1, c2, c3, c4, c5, c6⟩ := hb k (by omega) (by omega)
    have hz := bkS_b (w := w) (v1 := v1) (v2 := v2) k
    have e80 : σ.2.2 10080 121 (D - 1 - k) = me k := by rw [hB.1.2.2 10080 121 rfl]; exact c5
    have e81 : σ.2.2 10081 121 (D - 1 - k) = pc k := by rw [hB.1.2.2 10081 121 rfl]; exact c6
    have go : ∀ (w3 w4 w5 : j3_W) (x3 x4 : Int) (σ1 : j3_S) (z : Int), bkR σ0 σ1 me pc (k + 1) (bkS w v1 v2 (k + 1)) → (bkS w v1 v2 (k + 1)).1 = z → T240 (d + 1) Q 81 [wO 10 121, wI z, wI k, wI x3, wI x4, w5] [] σ1 := by
      intro w3 w4 w5 x3 x4 σ1 z h1 hz1
      rw [b240_81, wr_id (by omega) (by omega), ← hz1]
      exact l240 s0 hD hI hs hb hg hw n (k + 1) _ _ w5 σ1 (by omega) h1 (fun σ' h => by
        have := hQ σ' (by rw [show k + (n + 1) = k + 1 + n by omega]; exact h)
        rw [show k + (n + 1) = k + 1 + n by omega] at this
        exact this)
    rw [b240_4, i7, if_pos (by omega), wr_id (z := D - 1) (by omega) (by omega), wr_id (z := D - 1 - k) (by omega) (by omega), e80, e81, is σ _ _ hB, s160 (by omega) (by omega) c1 c2 c3 (by omega)]
    refine ⟨by omega, by omega, ?_⟩
    simp only [Option.toList_some, List.cons_append, List.nil_append]
    rw [b240_26, e80, e81, is σ _ _ hB, wr_id (z := 1000 * me k) (by omega) (by omega), wr_id (z := 1000 * me k + pc k) (by omega) (by omega)]
    refine ⟨by omega, by omega, by omega, ?_⟩
    have hB1 := hB.tr1 (by omega)
    rcases s0 with g | g
    · rw [if_pos g, wr_id (z := (bkS w v1 v2 k).1 + 1) (by omega) (by omega)]
      obtain ⟨q1, q2⟩ := hg g k (by omega) (by omega)
      have e : bkS w v1 v2 (k + 1) = ((bkS w v1 v2 k).1 + 1, i_up (bkS w v1 v2 k).2 (bkS w v1 v2 k).1 (v1 k)) := by
        show (if w k = 0 then _ else _) = _
        rw [if_neg (by omega), if_pos q1]
      refine ⟨by omega, by omega, go w3 w4 _ _ _ _ _ ?_ (by rw [e])⟩
      rw [e, q2]
      have := hB1.ap (v := 1000 * me k + pc k) hz.1
      simp only [i_up, if_true]
      exact this
    · rw [if_neg (by omega)]
      obtain ⟨q0, q1⟩ := hw g k (by omega) (by omega)
      have x4 : 9600 * s + 120 * me k + pc k = 9600 + 120 * me k + pc k := by rw [g]; omega
      rw [x4]
      have e30 : ∀ σ1 k' S, bkR σ0 σ1 me pc k' S → σ1.2.2 10030 121 (9600 + 120 * me k + pc k) = w k := fun σ1 k' S h => by rw [h.1.2.2 10030 121 rfl]; exact q0
      have e31 : ∀ σ1 k' S, bkR σ0 σ1 me pc k' S → σ1.2.2 10031 121 (9600 + 120 * me k + pc k) = σ0.2.2 10031 121 (9600 + 120 * me k + pc k) := fun σ1 k' S h => by rw [h.1.2.2 10031 121 rfl]
      have e32 : ∀ σ1 k' S, bkR σ0 σ1 me pc k' S → σ1.2.2 10032 121 (9600 + 120 * me k + pc k) = σ0.2.2 10032 121 (9600 + 120 * me k + pc k) := fun σ1 k' S h => by rw [h.1.2.2 10032 121 rfl]
      rcases q1 with q1 | ⟨q1, q2⟩ | ⟨q1, q2, q3⟩
      · have e : bkS w v1 v2 (k + 1) = bkS w v1 v2 k := by
          show (if w k = 0 then _ else _) = _
          rw [if_pos q1]
        rw [b240_57, e30 _ _ _ hB1, if_neg (by omega)]
        refine ⟨by omega, go w3 w4 _ _ _ _ _ ?_ (by rw [e])⟩
        rw [e]; exact hB1
      · have e : bkS w v1 v2 (k + 1) = ((bkS w v1 v2 k).1 + 1, i_up (bkS w v1 v2 k).2 (bkS w v1 v2 k).1 (v1 k)) := by
          show (if w k = 0 then _ else _) = _
          rw [if_neg (by omega), if_pos q1]
        have hB2 := hB1.ap (v := v1 k) hz.1
        rw [b240_57, e30 _ _ _ hB1, if_pos (by omega), if_pos rfl, e31 _ _ _ hB1, q2, b240_77, wr_id (z := (bkS w v1 v2 k).1 + 1) (by omega) (by omega), wr_id (z := 0 + 1) (by omega) (by omega), b240_57, e30 _ _ _ hB2, if_neg (by omega)]
        refine ⟨by omega, by omega, by omega, by omega, go w3 w4 _ _ _ _ _ ?_ (by rw [e])⟩
        rw [e]; exact hB2
      · have e : bkS w v1 v2 (k + 1) = ((bkS w v1 v2 k).1 + 2, i_up (i_up (bkS w v1 v2 k).2 (bkS w v1 v2 k).1 (v1 k)) ((bkS w v1 v2 k).1 + 1) (v2 k)) := by
          show (if w k = 0 then _ else _) = _
          rw [if_neg (by omega), if_neg (by omega)]
        have hB2 := hB1.ap (v := v1 k) hz.1
        have z' : 0 ≤ ((bkS w v1 v2 k).1 + 1, i_up (bkS w v1 v2 k).2 (bkS w v1 v2 k).1 (v1 k)).1 := by show 0 ≤ (bkS w v1 v2 k).1 + 1; omega
        have hB3 := hB2.ap (v := v2 k) z'
        rw [b240_57, e30 _ _ _ hB1, if_pos (by omega), if_pos rfl, e31 _ _ _ hB1, q2, b240_77, wr_id (z := (bkS w v1 v2 k).1 + 1) (by omega) (by omega), wr_id (z := 0 + 1) (by omega) (by omega), b240_57, e30 _ _ _ hB2, if_pos (by omega), if_neg (by omega), e32 _ _ _ hB2, q3, b240_77, wr_id (z := (bkS w v1 v2 k).1 + 1 + 1) (by omega) (by omega), wr_id (z := 0 + 1 + 1) (by omega) (by omega), b240_57, e30 _ _ _ hB3, if_neg (by omega)]
        refine ⟨by omega, by omega, by omega, by omega, by omega, by omega, by omega, go w3 w4 _ _ _ _ _ ?_ (by rw [e]; show (bkS w v1 v2 k).1 + 2 = _; omega)⟩
        rw [e, show (bkS w v1 v2 k).1 + 2 = (bkS w v1 v2 k).1 + 1 + 1 by omega]
        exact hB3
end RRUN
