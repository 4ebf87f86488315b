/-! the flow: what an instruction wants and gives; the class's ask -/
def prl (P : Pg) (t : Int) (n : Nat) : List Int := (List.range n).map (fun (k : Nat) => tyof (P 3016 (t * 3 + (k : Int))))
def cw (P : Pg) (a t : Int) : List Int := (if P 3013 t = 0 then [4 + a] else []) ++ prl P t (P 3015 t).toNat
def wl (P : Pg) (m op a b : Int) : List Int :=
  if op = 3 ∨ op = 4 ∨ op = 5 then [-1] else if op = 12 ∨ op = 23 then [1] else if (6 ≤ op ∧ op ≤ 10) ∨ op = 13 then [1, 1] else if op = 14 ∨ op = 24 ∨ op = 25 then [-2] else if op = 16 then [4 + a] else if op = 17 then [4 + a, tyof (P 3009 (a * 6 + b))] else if op = 19 then [tyof (P 3009 (a * 6 + b))] else if op = 20 ∨ op = 21 then cw P a (P 3007 a + b) else if op = 22 then (if P 3014 m = 0 then [] else [tyof (P 3014 m - 1)]) else []
/-- what is given, but by DUP; la: the local that is told -/
def g1 (P : Pg) (op a b la : Int) : List Int :=
  if op = 0 then [1] else if op = 1 then [2] else if op = 2 then [la] else if 6 ≤ op ∧ op ≤ 10 then [1] else if op = 15 ∨ op = 24 then [4 + a] else if op = 16 ∨ op = 18 then [tyof (P 3009 (a * 6 + b))] else if op = 20 ∨ op = 21 then (if P 3014 (P 3007 a + b) = 0 then [] else [tyof (P 3014 (P 3007 a + b) - 1)]) else if op = 25 then [1] else []
/-- an instruction of the method m, as it may stand -/
def iok (P : Pg) (m op a b : Int) : Prop := 0 ≤ op ∧ op ≤ 26 ∧ (op = 2 ∨ op = 3 → 0 ≤ a ∧ a < P 3017 m) ∧ (11 ≤ op ∧ op ≤ 14 → 0 ≤ a ∧ a < P 0 m) ∧ (op = 15 ∨ op = 24 ∨ op = 25 ∨ (16 ≤ op ∧ op ≤ 21) → 0 ≤ a ∧ a < P 3000 0) ∧ (16 ≤ op ∧ op ≤ 19 → 0 ≤ b ∧ b < P 3005 a) ∧ (20 ≤ op ∧ op ≤ 21 → 0 ≤ b ∧ b < P 3006 a)
/-- a program, as it may stand -/
def WFp (P : Pg) : Prop := WFs P ∧ WFm P ∧ (∀ c, 0 ≤ c → c < P 3000 0 → 0 ≤ P 3005 c ∧ P 3005 c ≤ 6 ∧ ∀ f, 0 ≤ f → f < P 3005 c → 0 ≤ P 3009 (c * 6 + f) ∧ P 3009 (c * 6 + f) ≤ P 3000 0 ∧ (P 3010 (c * 6 + f) = 0 ∨ P 3010 (c * 6 + f) = 1)) ∧
  ∀ m, 0 ≤ m → m < P 3001 0 → (0 ≤ P 3011 m ∧ P 3011 m < P 3000 0 ∧ P 3007 (P 3011 m) ≤ m ∧ m < P 3007 (P 3011 m) + P 3006 (P 3011 m)) ∧ (P 3013 m = 0 ∨ P 3013 m = 1) ∧ (0 ≤ P 3014 m ∧ P 3014 m ≤ P 3000 0 + 1) ∧ (0 ≤ P 3015 m ∧ P 3015 m ≤ 3 ∧ ∀ k, 0 ≤ k → k < P 3015 m → 0 ≤ P 3016 (m * 3 + k) ∧ P 3016 (m * 3 + k) ≤ P 3000 0) ∧ (P 3015 m + (1 - P 3013 m) ≤ P 3017 m ∧ P 3017 m ≤ 20) ∧ (1 ≤ P 0 m ∧ P 0 m ≤ 120) ∧ ∀ i, 0 ≤ i → i < P 0 m → iok P m (P 1 (m * 120 + i)) (P 2 (m * 120 + i)) (P 3 (m * 120 + i))
/-- fields of programs -/
def pgI : List Nat := [3000, 3001]
def pgA : List Nat := [3002, 3003, 3004, 3005, 3006, 3007, 3008, 3009, 3010, 3011, 3012, 3013, 3014, 3015, 3016, 3017, 0, 1, 2, 3, 4]
theorem CP.fr {σ σ' : j3_S} {o : Nat} {P : Pg} {li la : List Nat} (h : CP σ o P) (hf : frm li la σ σ') (h1 : li.elem 3000 = false ∧ li.elem 3001 = false) (h2 : (∀ e, e ≤ 3 → la.elem e = false) ∧ ∀ e, 3002 ≤ e → e ≤ 3017 → la.elem e = false) : CP σ' o P := by
  obtain ⟨a1, a2, a3, a4⟩ := h
  obtain ⟨-, f1, f2⟩ := hf
  refine ⟨(f1 _ _ h1.1).trans a1, (f1 _ _ h1.2).trans a2, fun c c0 c1 => ?_, fun m m0 m1 => ?_⟩
  · obtain ⟨⟨b1, b2, b3, b4, b5⟩, b6⟩ := a3 c c0 c1
    rw [f2 3002 o (h2.2 _ (by omega) (by omega)), f2 3003 o (h2.2 _ (by omega) (by omega)), f2 3005 o (h2.2 _ (by omega) (by omega)), f2 3006 o (h2.2 _ (by omega) (by omega)), f2 3007 o (h2.2 _ (by omega) (by omega)), f2 3008 o (h2.2 _ (by omega) (by omega)), f2 3009 o (h2.2 _ (by omega) (by omega)), f2 3010 o (h2.2 _ (by omega) (by omega))]
    exact ⟨⟨b1, b2, b3, b4, b5⟩, b6⟩
  · have := a4 m m0 m1
    rw [f2 3011 o (h2.2 _ (by omega) (by omega)), f2 3012 o (h2.2 _ (by omega) (by omega)), f2 3013 o (h2.2 _ (by omega) (by omega)), f2 3014 o (h2.2 _ (by omega) (by omega)), f2 3015 o (h2.2 _ (by omega) (by omega)), f2 3016 o (h2.2 _ (by omega) (by omega)), f2 3017 o (h2.2 _ (by omega) (by omega)), f2 0 _ (h2.1 _ (by omega)), f2 1 _ (h2.1 _ (by omega)), f2 2 _ (h2.1 _ (by omega)), f2 3 _ (h2.1 _ (by omega))]
    exact this
theorem la_ok {la : List Nat} (h : la.all (fun e => decide (5 ≤ e) && (decide (e < 3002) || decide (3017 < e))) = true) : (∀ e, e ≤ 3 → la.elem e = false) ∧ ∀ e, 3002 ≤ e → e ≤ 3017 → la.elem e = false := by
  refine ⟨fun e he => ?_, fun e h1 h2 => ?_⟩
  · cases hb : la.elem e
    · rfl
    · have := List.all_eq_true.mp h e (by simpa using hb)
      simp only [Bool.and_eq_true, decide_eq_true_eq] at this
      omega
  · cases hb : la.elem e
    · rfl
    · have := List.all_eq_true.mp h e (by simpa using hb)
      simp only [Bool.and_eq_true, Bool.or_eq_true, decide_eq_true_eq] at this
      omega
section ASK
variable {d : Nat} {Q : j3_P} {σ : j3_S} {P : Pg} {m op a b x : Int}
def wS (σ : j3_S) (x : Int) : j3_S := (j3_up σ.1 1012 76 (σ.1 1012 76 + 1), σ.2.1, j3_up σ.2.2 1011 76 (i_up (σ.2.2 1011 76) (σ.1 1012 76) x))
def gS (σ : j3_S) (x : Int) : j3_S := (j3_up (j3_up σ.1 1013 76 x) 1014 76 1, σ.2.1, σ.2.2)
def zS (σ : j3_S) : j3_S := (j3_up (j3_up (j3_up σ.1 1012 76 0) 1014 76 0) 1013 76 0, σ.2.1, σ.2.2)
def gvS (σ : j3_S) (g : List Int) : j3_S := match g with
  | [] => σ
  | x :: _ => gS σ x
def askS (P : Pg) (m op a b : Int) (σ : j3_S) : j3_S := gvS ((wl P m op a b).foldl wS (zS σ)) (g1 P op a b (σ.2.2 1009 76 a))
theorem s11 (h0 : 0 ≤ σ.1 1012 76) (h1 : σ.1 1012 76 < 4) : j3_tc false (d + 1) 11 [wO 1 76, wI x] σ Q = Q none (wS σ x) := by
  rw [e11, b11_0, if_pos h1]
  simp (disch := omega) only [wr_id, j3_ast]
  simp [h0, h1, wS]
theorem s12 : j3_tc false (d + 1) 12 [wO 1 76, wI x] σ Q = Q none (gS σ x) := by
  rw [e12, b12_0]
  rfl
theorem wS_1 : (wS σ x).1 1012 76 = σ.1 1012 76 + 1 := by simp [wS, j3_up]
theorem wS_p : (wS σ x).2.1 = σ.2.1 := rfl
theorem zS_1 : (zS σ).1 1012 76 = 0 := by simp [zS, j3_up]
theorem wS_f : frm [1012, 1013, 1014] [1011] σ (wS σ x) := frm.I rfl (frm.A rfl frm.rf)
theorem gS_f : frm [1012, 1013, 1014] [1011] σ (gS σ x) := frm.I rfl (frm.I rfl frm.rf)
theorem zS_f : frm [1012, 1013, 1014] [1011] σ (zS σ) := frm.I rfl (frm.I rfl (frm.I rfl frm.rf))
theorem CP.ask {o : Nat} {σ' : j3_S} (h : CP σ o P) (hf : frm [1012, 1013, 1014] [1011] σ σ') : CP σ' o P := h.fr hf ⟨rfl, rfl⟩ (la_ok rfl)
theorem fw : ∀ (w : List Int) (σ : j3_S), frm [1012, 1013, 1014] [1011] σ (w.foldl wS σ) ∧ (w.foldl wS σ).1 1012 76 = σ.1 1012 76 + w.length ∧ (∀ k, k < σ.1 1012 76 → (w.foldl wS σ).2.2 1011 76 k = σ.2.2 1011 76 k) ∧ (∀ k : Nat, k < w.length → (w.foldl wS σ).2.2 1011 76 (σ.1 1012 76 + k) = w.getD k 0) ∧ (w.foldl wS σ).1 1013 76 = σ.1 1013 76 ∧ (w.foldl wS σ).1 1014 76 = σ.1 1014 76
  | [], σ => by
    refine ⟨frm.rf, by simp, fun _ _ => rfl, fun k hk => ?_, rfl, rfl⟩
    simp at hk
  | x :: w, σ => by
    obtain ⟨h1, h2, h3, h4, h5, h6⟩ := fw w (wS σ x)
    simp only [List.foldl_cons]
    rw [wS_1] at h2 h3 h4
    refine ⟨wS_f.tr h1, by rw [h2]; simp; omega, fun k hk => ?_, fun k hk => ?_, ?_, ?_⟩
    · rw [h3 k (by omega)]
      show j3_up σ.2.2 1011 76 (i_up (σ.2.2 1011 76) (σ.1 1012 76) x) 1011 76 k = _
      rw [up_r, iu_n (by omega)]
    · match k with
      | 0 =>
        have e0 : σ.1 1012 76 + ((0 : Nat) : Int) = σ.1 1012 76 := by omega
        rw [e0, h3 _ (by omega)]
        show j3_up σ.2.2 1011 76 (i_up (σ.2.2 1011 76) (σ.1 1012 76) x) 1011 76 (σ.1 1012 76) = _
        rw [up_r, iu_r]
        rfl
      | k + 1 =>
        have := h4 k (by simpa using hk)
        rw [show σ.1 1012 76 + ((k + 1 : Nat) : Int) = σ.1 1012 76 + 1 + (k : Int) by omega, this]
        rfl
    · rw [h5]; simp [wS, j3_up]
    · rw [h6]; simp [wS, j3_up]
theorem prl_s {t : Int} {n : Nat} : prl P t (n + 1) = prl P t n ++ [tyof (P 3016 (t * 3 + (n : Int)))] := by simp [prl, List.range_succ]
/-- the parameters' loop -/
theorem l10 {c t : Int} (hp : ¬ σ.2.1 0 = 0) (hC : CP σ (σ.2.1 0) P) (hW : WFp P) (t0 : 0 ≤ t) (t1 : t < P 3001 0) (hw : σ.1 1012 76 = if P 3013 t = 0 then 1 else 0) : ∀ (j k : Nat), (k : Int) + j = P 3015 t →
    T10 (d + 1) Q 13 [wO 1 76, wI c, wI t, wI k] [] ((prl P t k).foldl wS σ) = Q none (gvS ((prl P t (P 3015 t).toNat).foldl wS σ) (if P 3014 t = 0 then [] else [tyof (P 3014 t - 1)]))
  | 0, k, hk => by
    obtain ⟨hs, hm, -, hM⟩ := id hW
    obtain ⟨q1, q2, q3, q4, q5, q6, q7⟩ := hM t t0 t1
    have hn := hs.2.1
    have hm2 := hm.2.1
    have hf := (fw (prl P t k) σ).1
    have hC1 := hC.ask hf
    have e0 : (P 3015 t).toNat = k := by omega
    rw [e0, b10_13, hf.1, (hC1.2.2.2 t t0 t1).1.2.2.2.2.1, (hC1.2.2.2 t t0 t1).1.2.2.2.1, if_neg (by omega)]
    by_cases g : P 3014 t = 0
    · rw [if_pos g, if_pos g, b10_41]
      simp [hp, t0, show t < 80 by omega, gvS]
    · rw [if_neg g, if_neg g, s54 hC1 hm2 t0 t1 (by omega) (by omega)]
      simp only [Option.toList_some, List.cons_append, List.nil_append]
      rw [b10_40, s12]
      simp only [Option.toList_none, List.nil_append]
      rw [b10_41]
      simp [hp, t0, show t < 80 by omega, gvS]
  | j + 1, k, hk => by
    obtain ⟨hs, hm, -, hM⟩ := id hW
    obtain ⟨q1, q2, q3, q4, q5, q6, q7⟩ := hM t t0 t1
    have hn := hs.2.1
    have hm2 := hm.2.1
    have hf := (fw (prl P t k) σ)
    have hC1 := hC.ask hf.1
    have hk3 := q4.2.2 k (by omega) (by omega)
    rw [b10_13, hf.1.1, (hC1.2.2.2 t t0 t1).1.2.2.2.2.1, if_pos (by omega), s53 hC1 hm2 t0 t1 (by omega) (by omega) (by omega) (by omega) (by omega)]
    simp only [Option.toList_some, List.cons_append, List.nil_append]
    have hl : (prl P t k).length = k := by simp [prl]
    have hwk : ((prl P t k).foldl wS σ).1 1012 76 = (if P 3013 t = 0 then 1 else 0) + (k : Int) := by rw [hf.2.1, hw, hl]
    rw [b10_26, s11 (by rw [hwk]; split <;> omega) (by rw [hwk]; split <;> omega)]
    simp only [Option.toList_none, List.nil_append]
    rw [b10_27, wr_id (by omega) (by omega)]
    have e1 : wS ((prl P t k).foldl wS σ) (tyof (P 3016 (t * 3 + (k : Int)))) = (prl P t (k + 1)).foldl wS σ := by rw [prl_s, List.foldl_append]; rfl
    rw [e1, show (k : Int) + 1 = ((k + 1 : Nat) : Int) by omega, l10 hp hC hW t0 t1 hw j (k + 1) (by omega)]
    simp [hp, t0, show t < 80 by omega]
theorem s10 {c t : Int} (hp : ¬ σ.2.1 0 = 0) (hC : CP σ (σ.2.1 0) P) (hW : WFp P) (t0 : 0 ≤ t) (t1 : t < P 3001 0) (c0 : 0 ≤ c) (c1 : c < P 3000 0) (hw : σ.1 1012 76 = 0) : j3_tc false (d + 2) 10 [wO 1 76, wI c, wI t] σ Q = Q none (gvS ((cw P c t).foldl wS σ) (if P 3014 t = 0 then [] else [tyof (P 3014 t - 1)])) := by
  obtain ⟨hs, hm, -, hM⟩ := id hW
  obtain ⟨q1, q2, q3, q4, q5, q6, q7⟩ := hM t t0 t1
  have hn := hs.2.1
  have hm2 := hm.2.1
  rw [e10, b10_0, s51 hC hm2 t0 t1]
  simp only [Option.toList_some, List.cons_append, List.nil_append]
  rw [b10_4]
  by_cases g : P 3013 t = 0
  · rw [if_pos g, if_pos rfl, wr_id (by omega) (by omega), s11 (by omega) (by omega)]
    simp only [Option.toList_none, List.nil_append]
    rw [b10_11]
    have := l10 (d := d) (Q := Q) (σ := wS σ (4 + c)) (c := c) hp (hC.ask wS_f) hW t0 t1 (by rw [wS_1, if_pos g]; omega) (P 3015 t).toNat 0 (by omega)
    simp only [prl, List.range_zero, List.map_nil, List.foldl_nil] at this
    try simp only [Int.ofNat_zero] at this
    rw [show cw P c t = [4 + c] ++ prl P t (P 3015 t).toNat by simp [cw, g], List.foldl_append]
    simp only [prl] at this ⊢
    refine Eq.trans ?_ this
    simp [hp]
  · rw [if_neg g, if_neg (by omega), b10_11]
    have := l10 (d := d) (Q := Q) (σ := σ) (c := c) hp hC hW t0 t1 (by rw [hw, if_neg g]) (P 3015 t).toNat 0 (by omega)
    simp only [prl, List.range_zero, List.map_nil, List.foldl_nil] at this
    try simp only [Int.ofNat_zero] at this
    rw [show cw P c t = prl P t (P 3015 t).toNat by simp [cw, g]]
    simp only [prl] at this ⊢
    refine Eq.trans ?_ this
    simp [hp]
end ASK
