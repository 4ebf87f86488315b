/-! frames; fills; small methods -/
def frm (li la : List Nat) (σ σ' : j3_S) : Prop := σ'.2.1 = σ.2.1 ∧ (∀ e o, li.elem e = false → σ'.1 e o = σ.1 e o) ∧ ∀ e o, la.elem e = false → σ'.2.2 e o = σ.2.2 e o
section FRM
variable {li la : List Nat} {σ σ' σ'' : j3_S}
theorem frm.rf : frm li la σ σ := ⟨rfl, fun _ _ _ => rfl, fun _ _ _ => rfl⟩
theorem frm.tr (h : frm li la σ σ') (h' : frm li la σ' σ'') : frm li la σ σ'' := ⟨h'.1.trans h.1, fun e o g => (h'.2.1 e o g).trans (h.2.1 e o g), fun e o g => (h'.2.2 e o g).trans (h.2.2 e o g)⟩
theorem elem_ne {l : List Nat} {e e' : Nat} (h : l.elem e = true) (h' : l.elem e' = false) : (e' == e) = false := by
  rw [beq_eq_false_iff_ne]
  intro q
  rw [q, h] at h'
  cases h'
theorem frm.I {e o : Nat} {v : Int} {f : Nat → Nat → Int} {A : Nat → Nat → Int → Int} {P : Nat → Nat} (he : li.elem e = true) (h : frm li la σ (f, P, A)) : frm li la σ (j3_up f e o v, P, A) := ⟨h.1, fun e' o' g => (up_e (elem_ne he g)).trans (h.2.1 e' o' g), h.2.2⟩
theorem frm.A {e o : Nat} {v : Int → Int} {f : Nat → Nat → Int} {A : Nat → Nat → Int → Int} {P : Nat → Nat} (he : la.elem e = true) (h : frm li la σ (f, P, A)) : frm li la σ (f, P, j3_up A e o v) := ⟨h.1, h.2.1, fun e' o' g => (up_e (elem_ne he g)).trans (h.2.2 e' o' g)⟩
theorem frm.wd {li' la' : List Nat} (h : frm li la σ σ') (h1 : ∀ e, li'.elem e = false → li.elem e = false) (h2 : ∀ e, la'.elem e = false → la.elem e = false) : frm li' la' σ σ' := ⟨h.1, fun e o g => h.2.1 e o (h1 e g), fun e o g => h.2.2 e o (h2 e g)⟩
theorem sub_el {l l' : List Nat} (h : l.all (fun e => l'.elem e) = true) : ∀ e, l'.elem e = false → l.elem e = false := by
  intro e he
  cases hb : l.elem e
  · rfl
  · have := List.all_eq_true.mp h e (by simpa using hb)
    rw [he] at this
    cases this
end FRM
def i_fl (f : Int → Int) (a b x : Int) : Int → Int := fun j => if a ≤ j ∧ j < b then x else f j
theorem fl_s {f : Int → Int} {a b x : Int} (h : a ≤ b) : i_up (i_fl f a b x) b x = i_fl f a (b + 1) x := by
  funext j
  simp only [i_up, i_fl]
  by_cases g : j = b
  · rw [if_pos g, if_pos (by omega)]
  · rw [if_neg g]
    by_cases g2 : a ≤ j ∧ j < b
    · rw [if_pos g2, if_pos (by omega)]
    · rw [if_neg g2, if_neg (by omega)]
theorem fl_0 {f : Int → Int} {a x : Int} : i_fl f a a x = f := by
  funext j
  simp only [i_fl]
  rw [if_neg (by omega)]
theorem up_id {α : Type} {f : Nat → Nat → α} {e o : Nat} : j3_up f e o (f e o) = f := by
  funext a b
  simp only [j3_up]
  by_cases h : ((a == e) && (b == o)) = true
  · rw [h]
    simp only [Bool.and_eq_true, beq_iff_eq] at h
    obtain ⟨rfl, rfl⟩ := h
    rfl
  · simp only [Bool.not_eq_true] at h
    rw [h]
    rfl
section FILL
variable {d : Nat} {Q : j3_P} {σ : j3_S} {e o : Nat} {x : Int}
theorem l248 {n : Int} {I : Nat → Nat → Int} {P : Nat → Nat} {A : Nat → Nat → Int → Int} {f : Int → Int} (h1 : lt_fq e = 0) (h2 : j3_g false e = true) (h3 : (lt_fn e : Int) = n) (hn : n < 2147483648) : ∀ (j : Nat) (k : Int), 0 ≤ k → k + j = n → T248 d Q 5 [wA e o, wI x, wI k, wI n] [] (I, P, j3_up A e o (i_fl f 0 k x)) = Q none (I, P, j3_up A e o (i_fl f 0 n x))
  | 0, k, h0, hk => by
    have : k = n := by omega
    subst this
    rw [b248_5, if_neg (by omega)]
  | j + 1, k, h0, hk => by
    rw [b248_5, if_pos (by omega)]
    simp (disch := omega) only [wr_id, j3_ast, up_r, up_up, h1, h2, h3, fl_s h0]
    rw [l248 h1 h2 h3 hn j (k + 1) (by omega) (by omega)]
    simp [h0, show k < n by omega]
theorem s248 {n : Int} (h1 : lt_fq e = 0) (h2 : j3_g false e = true) (h3 : (lt_fn e : Int) = n) (hn : n < 2147483648) : j3_tc false (d + 1) 248 [wA e o, wI x] σ Q = Q none (σ.1, σ.2.1, j3_up σ.2.2 e o (i_fl (σ.2.2 e o) 0 n x)) := by
  rw [e248, b248_0]
  have hb : (lt_fn e).blt 2147483648 = true := by rw [Nat.blt_eq]; omega
  simp only [h1, hb, h3]
  have := l248 (d := d) (Q := Q) (o := o) (x := x) (I := σ.1) (P := σ.2.1) (A := σ.2.2) (f := σ.2.2 e o) h1 h2 h3 hn n.toNat 0 (by omega) (by omega)
  rw [fl_0, up_id] at this
  exact this
theorem l249 {n a b : Int} {I : Nat → Nat → Int} {P : Nat → Nat} {A : Nat → Nat → Int → Int} {f : Int → Int} (h1 : lt_fq e = 0) (h2 : j3_g false e = true) (h3 : (lt_fn e : Int) = n) (hn : n < 2147483648) (ha : 0 ≤ a) (hb : b ≤ n) : ∀ (j : Nat) (k : Int), a ≤ k → k + j = b → T249 d Q 7 [wA e o, wI a, wI b, wI x, wI k] [] (I, P, j3_up A e o (i_fl f a k x)) = Q none (I, P, j3_up A e o (i_fl f a b x))
  | 0, k, h0, hk => by
    have : k = b := by omega
    subst this
    rw [b249_7, if_neg (by omega)]
  | j + 1, k, h0, hk => by
    rw [b249_7, if_pos (by omega)]
    simp (disch := omega) only [wr_id, j3_ast, up_r, up_up, h1, h2, h3, fl_s h0]
    rw [l249 h1 h2 h3 hn ha hb j (k + 1) (by omega) (by omega)]
    simp [show 0 ≤ k by omega, show k < n by omega]
theorem s249 {n a b : Int} (h1 : lt_fq e = 0) (h2 : j3_g false e = true) (h3 : (lt_fn e : Int) = n) (hn : n < 2147483648) (ha : 0 ≤ a) (hab : a ≤ b) (hb : b ≤ n) : j3_tc false (d + 2) 249 [wA e o, wI a, wI b, wI x] σ Q = Q none (σ.1, σ.2.1, j3_up σ.2.2 e o (i_fl (σ.2.2 e o) a b x)) := by
  rw [e249, b249_0]
  have hb' : (lt_fn e).blt 2147483648 = true := by rw [Nat.blt_eq]; omega
  simp only [h1, hb', h3]
  have := l249 (d := d + 1) (Q := Q) (o := o) (x := x) (I := σ.1) (P := σ.2.1) (A := σ.2.2) (f := σ.2.2 e o) h1 h2 h3 hn ha hb (b - a).toNat a (by omega) (by omega)
  rw [fl_0, up_id] at this
  rw [← this]
  show j3_tc false (d + 1) 247 _ _ _ = _
  rw [e247, b247_0, if_neg (by omega), if_neg (by omega), if_neg (by omega)]
  simp only [Option.toList_none, List.nil_append]
  rw [b249_5]
end FILL
/-- of a written type -/
def tyof (w : Int) : Int := if w = 0 then 1 else w + 3
def isj (op : Int) : Bool := decide (11 ≤ op) && decide (op ≤ 14)
def gon (op : Int) : Bool := !(decide (op = 11) || decide (op = 22) || decide (op = 26))
section SM
variable {d : Nat} {Q : j3_P} {σ : j3_S} {o : Nat} {P : Pg} {x : Int}
theorem s151 : j3_tc false (d + 1) 151 [wI x] σ Q = Q (some (wI (b2i (isj x)))) σ := by
  rw [e151, b151_0]
  by_cases h1 : x < 11
  · simp [h1, isj, b2i, show ¬ 11 ≤ x by omega]
  · by_cases h2 : 14 < x
    · simp [h1, h2, isj, b2i, show ¬ x ≤ 14 by omega]
    · simp [h1, h2, isj, b2i, show 11 ≤ x by omega, show x ≤ 14 by omega]
theorem s152 : j3_tc false (d + 1) 152 [wI x] σ Q = Q (some (wI (b2i (gon x)))) σ := by
  rw [e152, b152_0]
  by_cases h1 : x = 11
  · simp [h1, gon, b2i]
  · by_cases h2 : x = 22
    · simp [h2, gon, b2i]
    · by_cases h3 : x = 26
      · simp [h3, gon, b2i]
      · simp [h1, h2, h3, gon, b2i]
theorem s51 {m : Int} (hC : CP σ o P) (hm : P 3001 0 ≤ 80) (h1 : 0 ≤ m) (h2 : m < P 3001 0) : j3_tc false (d + 1) 51 [wO 3 o, wI m] σ Q = Q (some (wI (if P 3013 m = 0 then 1 else 0))) σ := by
  rw [e51, b51_0, (hC.2.2.2 m h1 h2).1.2.2.1]
  by_cases g : P 3013 m = 0
  · simp [g, h1, show m < 80 by omega]
  · simp [g, h1, show m < 80 by omega]
theorem s52 {c f : Int} (hC : CP σ o P) (hn : P 3000 0 ≤ 10) (h1 : 0 ≤ c) (h2 : c < P 3000 0) (h3 : 0 ≤ f) (h4 : f < P 3005 c) (h5 : P 3005 c ≤ 6) (h6 : 0 ≤ P 3009 (c * 6 + f)) (h7 : P 3009 (c * 6 + f) ≤ 10) : j3_tc false (d + 1) 52 [wO 3 o, wI c, wI f] σ Q = Q (some (wI (tyof (P 3009 (c * 6 + f))))) σ := by
  rw [e52, b52_0]
  simp (disch := omega) only [wr_id]
  rw [((hC.2.2.1 c h1 h2).2 f h3 h4).2.1]
  simp (disch := omega) only [wr_id]
  unfold tyof
  by_cases g : P 3009 (c * 6 + f) = 0
  · simp [g, show 0 ≤ c * 6 + f by omega, show c * 6 + f < 60 by omega]
  · simp [g, show 0 ≤ c * 6 + f by omega, show c * 6 + f < 60 by omega, show P 3009 (c * 6 + f) - 1 + 4 = P 3009 (c * 6 + f) + 3 by omega]
theorem s53 {m k : Int} (hC : CP σ o P) (hm : P 3001 0 ≤ 80) (h1 : 0 ≤ m) (h2 : m < P 3001 0) (h3 : 0 ≤ k) (h4 : k < P 3015 m) (h5 : P 3015 m ≤ 3) (h6 : 0 ≤ P 3016 (m * 3 + k)) (h7 : P 3016 (m * 3 + k) ≤ 10) : j3_tc false (d + 1) 53 [wO 3 o, wI m, wI k] σ Q = Q (some (wI (tyof (P 3016 (m * 3 + k))))) σ := by
  rw [e53, b53_0]
  simp (disch := omega) only [wr_id]
  rw [(hC.2.2.2 m h1 h2).2.1 k h3 h4]
  simp (disch := omega) only [wr_id]
  unfold tyof
  by_cases g : P 3016 (m * 3 + k) = 0
  · simp [g, show 0 ≤ m * 3 + k by omega, show m * 3 + k < 240 by omega]
  · simp [g, show 0 ≤ m * 3 + k by omega, show m * 3 + k < 240 by omega, show P 3016 (m * 3 + k) - 1 + 4 = P 3016 (m * 3 + k) + 3 by omega]
theorem s54 {m : Int} (hC : CP σ o P) (hm : P 3001 0 ≤ 80) (h1 : 0 ≤ m) (h2 : m < P 3001 0) (h6 : 1 ≤ P 3014 m) (h7 : P 3014 m ≤ 11) : j3_tc false (d + 1) 54 [wO 3 o, wI m] σ Q = Q (some (wI (tyof (P 3014 m - 1)))) σ := by
  rw [e54, b54_0, (hC.2.2.2 m h1 h2).1.2.2.2.1]
  simp (disch := omega) only [wr_id]
  unfold tyof
  by_cases g : P 3014 m = 1
  · simp [g, h1, show m < 80 by omega]
  · simp [g, h1, show m < 80 by omega, show ¬ P 3014 m - 1 = 0 by omega, show P 3014 m - 2 + 4 = P 3014 m - 1 + 3 by omega]
theorem s173 {w : Int} (h0 : 0 ≤ w) (h1 : w ≤ 10) : j3_tc true (d + 1) 173 [wI w] σ Q = Q (some (wI (tyof w))) σ := by
  rw [e173, b173_0]
  simp (disch := omega) only [wr_id]
  unfold tyof
  by_cases g : w = 0
  · simp [g]
  · simp [g, show 4 + w - 1 = w + 3 by omega]
end SM
