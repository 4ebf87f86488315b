/-! the container of a program, as a list; the class writes it -/
def insL (op a b : Int) : List Int := op :: ((if op = 0 then [i_sr a 24, i_sr a 16, i_sr a 8] else []) ++ ((if op = 0 ∨ op = 2 ∨ op = 3 ∨ (11 ≤ op ∧ op ≤ 14) ∨ op = 15 ∨ op = 24 ∨ op = 25 ∨ (16 ≤ op ∧ op ≤ 21) then [a] else []) ++ (if 16 ≤ op ∧ op ≤ 21 then [b] else [])))
def codL (A : Pg) (t : Int) : Nat → Int → List Int
  | 0, _ => []
  | n + 1, i => insL (A 1 (t * 120 + i)) (A 2 (t * 120 + i)) (A 3 (t * 120 + i)) ++ codL A t n (i + 1)
def parL (A : Pg) (t : Int) : Nat → Int → List Int
  | 0, _ => []
  | n + 1, p => A 3016 (t * 3 + p) :: parL A t n (p + 1)
def metL (A : Pg) (t : Int) : List Int := A 3012 t :: A 3013 t :: A 3014 t :: A 3015 t :: (parL A t (A 3015 t).toNat 0 ++ (A 3017 t :: A 0 t :: codL A t (A 0 t).toNat 0))
def mtsL (A : Pg) (x : Int) : Nat → Int → List Int
  | 0, _ => []
  | n + 1, k => metL A (A 3007 x + k) ++ mtsL A x n (k + 1)
def fldL (A : Pg) (x : Int) : Nat → Int → List Int
  | 0, _ => []
  | n + 1, f => A 3008 (x * 6 + f) :: A 3009 (x * 6 + f) :: A 3010 (x * 6 + f) :: fldL A x n (f + 1)
def clsL (A : Pg) (x : Int) : List Int := A 3002 x :: (A 3003 x + 1) :: A 3005 x :: (fldL A x (A 3005 x).toNat 0 ++ (A 3006 x :: mtsL A x (A 3006 x).toNat 0))
def allL (A : Pg) : Nat → Int → List Int
  | 0, _ => []
  | n + 1, x => clsL A x ++ allL A n (x + 1)
def outL (A : Pg) : List Int := 83 :: 72 :: A 3000 0 :: allL A (A 3000 0).toNat 0
/-- so far written by the class -/
def WC (σ0 σ : j3_S) (L : List Int) : Prop := frm [8001] [8000] σ0 σ ∧ σ.1 8001 90 = L.length ∧ ∀ i : Nat, i < L.length → σ.2.2 8000 90 i = i_tb (L.getD i 0)
section OUT
variable {σ σ' σ0 : j3_S} {P A : Pg} {o d : Nat} {x t i n k v op a b : Int} {Q : j3_P} {L M : List Int}
theorem insL_l : (insL op a b).length ≤ 5 := by
  unfold insL
  by_cases g : op = 0
  · subst g; simp
  · simp only [if_neg g]
    by_cases h1 : op = 0 ∨ op = 2 ∨ op = 3 ∨ (11 ≤ op ∧ op ≤ 14) ∨ op = 15 ∨ op = 24 ∨ op = 25 ∨ (16 ≤ op ∧ op ≤ 21)
    · simp only [if_pos h1]
      by_cases h2 : 16 ≤ op ∧ op ≤ 21
      · simp only [if_pos h2]; simp
      · simp only [if_neg h2]; simp
    · simp only [if_neg h1]
      by_cases h2 : 16 ≤ op ∧ op ≤ 21
      · simp only [if_pos h2]; simp
      · simp only [if_neg h2]; simp
theorem codL_l : ∀ (n : Nat) (i : Int), (codL A t n i).length ≤ 5 * n
  | 0, i => by show 0 ≤ 0; omega
  | n + 1, i => by
    have h1 := insL_l (op := A 1 (t * 120 + i)) (a := A 2 (t * 120 + i)) (b := A 3 (t * 120 + i))
    have h2 := codL_l n (i + 1)
    show (insL _ _ _ ++ codL A t n (i + 1)).length ≤ _
    rw [List.length_append]; omega
theorem parL_l : ∀ (n : Nat) (p : Int), (parL A t n p).length = n
  | 0, p => rfl
  | n + 1, p => by show (parL A t n (p + 1)).length + 1 = _; rw [parL_l n (p + 1)]
theorem fldL_l : ∀ (n : Nat) (p : Int), (fldL A x n p).length = 3 * n
  | 0, p => rfl
  | n + 1, p => by show (fldL A x n (p + 1)).length + 1 + 1 + 1 = _; rw [fldL_l n (p + 1)]; omega
theorem metL_l (hW : WFp A) (t0 : 0 ≤ t) (t1 : t < A 3001 0) : (metL A t).length ≤ 609 := by
  obtain ⟨-, -, -, p4, -, p6, -⟩ := hW.2.2.2 t t0 t1
  have h := codL_l (A := A) (t := t) (A 0 t).toNat 0
  unfold metL
  simp only [List.length_cons, List.length_append, parL_l]
  omega
theorem mtsL_l (hW : WFp A) (x0 : 0 ≤ x) (x1 : x < A 3000 0) : ∀ (n : Nat) (k : Int), 0 ≤ k → k + n ≤ A 3006 x → (mtsL A x n k).length ≤ 609 * n
  | 0, k, _, _ => by show 0 ≤ 0; omega
  | n + 1, k, k0, hk => by
    have hm := hW.2.1.2.2 x x0 x1
    have h1 := metL_l hW (t := A 3007 x + k) (by omega) (by push_cast at hk; omega)
    have h2 := mtsL_l hW x0 x1 n (k + 1) (by omega) (by push_cast at hk; omega)
    show (metL A (A 3007 x + k) ++ mtsL A x n (k + 1)).length ≤ _
    rw [List.length_append]; omega
theorem clsL_l (hW : WFp A) (x0 : 0 ≤ x) (x1 : x < A 3000 0) : ((clsL A x).length : Int) ≤ 22 + 609 * A 3006 x := by
  have hf := hW.2.2.1 x x0 x1
  have hm := hW.2.1.2.2 x x0 x1
  have h := mtsL_l hW x0 x1 (A 3006 x).toNat 0 (by omega) (by omega)
  unfold clsL
  simp only [List.length_cons, List.length_append, fldL_l]
  push_cast
  omega
theorem allL_l (hW : WFp A) (hc : WFc A) : ∀ (n : Nat) (x : Int), x + n = A 3000 0 → 0 ≤ x → ((allL A n x).length : Int) ≤ 22 * n + 609 * (A 3001 0 - ptM A x)
  | 0, x, hx, x0 => by
    have e : ptM A x = A 3001 0 := by unfold ptM; rw [if_neg (by omega)]
    rw [e]; show (0 : Int) ≤ _; omega
  | n + 1, x, hx, x0 => by
    have x1 : x < A 3000 0 := by omega
    have h1 := clsL_l hW x0 x1
    have h2 := allL_l hW hc n (x + 1) (by omega) (by omega)
    have hm := hW.2.1.2.2 x x0 x1
    have ep := ptM_c (P := A) x1
    have es : A 3007 x + A 3006 x ≤ ptM A (x + 1) := by
      unfold ptM
      by_cases g : x + 1 < A 3000 0
      · rw [if_pos g]; exact hc x (x + 1) x0 (by omega) g
      · rw [if_neg g]; exact hm.2.2.2
    show ((clsL A x ++ allL A n (x + 1)).length : Int) ≤ _
    rw [List.length_append, ep]
    push_cast
    omega
theorem outL_l (hW : WFp A) (hc : WFc A) : (outL A).length ≤ 48943 := by
  have hA := hW.1.1
  have h10 := hW.1.2.1
  have h80 := hW.2.1.2.1
  have h := allL_l hW hc (A 3000 0).toNat 0 (by omega) (by omega)
  have hm := hW.2.1.2.2 0 (by omega) (by omega)
  have ep := ptM_c (P := A) (c := 0) (by omega)
  rw [ep] at h
  unfold outL
  simp only [List.length_cons]
  omega
theorem gd_lo {i : Nat} (h : i < L.length) : (L ++ M).getD i 0 = L.getD i 0 := by
  rw [List.getD_eq_getElem?_getD, List.getD_eq_getElem?_getD, List.getElem?_append_left h]
theorem gd_hi : (L ++ [v]).getD L.length 0 = v := by
  rw [List.getD_eq_getElem?_getD, List.getElem?_append_right (Nat.le_refl _), Nat.sub_self]; rfl
theorem w123 (h : WC σ0 σ L) (hl : L.length < 48943) (hQ : ∀ σ', WC σ0 σ' (L ++ [v]) → Q none σ') : j3_tc false (d + 1) 123 [wO 8 90, wI v] σ Q := by
  rw [e123, b123_0, h.2.1, if_pos (by omega), wr_id (by omega) (by omega)]
  refine ⟨⟨tb_lo v, tb_hi v⟩, by omega, hQ _ ⟨h.1.tr ⟨rfl, fun e o he => up_e (by simpa using he), fun e o he => up_e (by simpa using he)⟩, ?_, fun i hi => ?_⟩⟩
  · show j3_up σ.1 8001 90 ((L.length : Int) + 1) 8001 90 = _
    rw [up_r, List.length_append]; push_cast; rfl
  · show j3_up σ.2.2 8000 90 (i_up (σ.2.2 8000 90) (L.length : Int) (i_tb v)) 8000 90 i = _
    rw [up_r]
    by_cases g : i = L.length
    · rw [g, iu_r, gd_hi]
    · have hi' : i < L.length := by rw [List.length_append] at hi; simp at hi; omega
      rw [iu_n (by omega), gd_lo hi']
      exact h.2.2 i hi'
theorem w126 (h : WC σ0 σ L) (o0 : 0 ≤ op) (o1 : op ≤ 26) (hl : L.length + (insL op a b).length ≤ 48943) (hQ : ∀ σ', WC σ0 σ' (L ++ insL op a b) → Q none σ') : j3_tc false (d + 2) 126 [wO 8 90, wI op, wI a, wI b] σ Q := by
  have il := insL_l (op := op) (a := a) (b := b)
  rw [e126, b126_0]
  have l1 : 1 ≤ (insL op a b).length := by unfold insL; simp
  refine w123 h (by omega) (fun σ1 h1 => ?_)
  simp only [Option.toList_none, List.nil_append]
  rw [b126_3, tls_v o0 o1]
  refine ⟨by omega, ?_⟩
  have tl : ∀ {y : Int} {σ2 : j3_S} {L2 : List Int}, WC σ0 σ2 L2 → (y = 5 ∨ y = 6 ↔ 16 ≤ op ∧ op ≤ 21) → (16 ≤ op ∧ op ≤ 21 → L2.length < 48943) → L ++ insL op a b = L2 ++ (if 16 ≤ op ∧ op ≤ 21 then [b] else []) → T126 (d + 1) Q 30 [wO 8 90, wI op, wI a, wI b, wI y] [] σ2 := by
    intro y σ2 L2 h2 hy hl2 he
    have go : 16 ≤ op ∧ op ≤ 21 → T126 (d + 1) Q 36 [wO 8 90, wI op, wI a, wI b, wI y] [] σ2 := by
      intro g
      rw [b126_36]
      refine w123 h2 (hl2 g) (fun σ3 h3 => ?_)
      simp only [Option.toList_none, List.nil_append]
      rw [b126_39]
      rw [if_pos g] at he
      exact hQ σ3 (by rw [he]; exact h3)
    rw [b126_30]
    by_cases g5 : y = 5
    · rw [if_pos g5]; exact go (hy.1 (Or.inl g5))
    · rw [if_neg g5]
      by_cases g6 : y = 6
      · rw [if_pos g6]; exact go (hy.1 (Or.inr g6))
      · rw [if_neg g6, b126_39]
        have n : ¬ (16 ≤ op ∧ op ≤ 21) := fun q => (hy.2 q).elim g5 g6
        rw [if_neg n, List.append_nil] at he
        exact hQ σ2 (by rw [he]; exact h2)
  by_cases g0 : op = 0
  · subst g0
    rw [if_pos rfl, if_pos rfl]
    have e : insL 0 a b = [0, i_sr a 24, i_sr a 16, i_sr a 8, a] := by unfold insL; simp
    rw [e] at hl
    simp only [List.length_cons, List.length_nil] at hl
    refine w123 h1 (by rw [List.length_append]; simp; omega) (fun σ2 h2 => ?_)
    simp only [Option.toList_none, List.nil_append]
    rw [b126_15]
    refine w123 h2 (by simp; omega) (fun σ3 h3 => ?_)
    simp only [Option.toList_none, List.nil_append]
    rw [b126_20]
    refine w123 h3 (by simp; omega) (fun σ4 h4 => ?_)
    simp only [Option.toList_none, List.nil_append]
    rw [b126_25, if_neg (by omega)]
    refine w123 h4 (by simp; omega) (fun σ5 h5 => ?_)
    simp only [Option.toList_none, List.nil_append]
    refine tl h5 ⟨fun q => by omega, fun q => by omega⟩ (fun q => by omega) ?_
    rw [e]; simp
  · rw [if_neg g0]
    by_cases gA : op = 2 ∨ op = 3 ∨ (11 ≤ op ∧ op ≤ 14) ∨ op = 15 ∨ op = 24 ∨ op = 25 ∨ (16 ≤ op ∧ op ≤ 21)
    · have e : insL op a b = [op, a] ++ (if 16 ≤ op ∧ op ≤ 21 then [b] else []) := by
        unfold insL; rw [if_neg g0, if_pos (Or.inr gA)]; simp
      rw [e] at hl
      simp only [List.length_append, List.length_cons, List.length_nil] at hl
      have key : ∀ y : Int, ¬ y = 0 → ¬ y = 1 → (y = 5 ∨ y = 6 ↔ 16 ≤ op ∧ op ≤ 21) → (if y = 1 then j3_tc false (d + 1) 123 [wO 8 90, wI (i_sr a 24)] σ1 (fun r σ1 => T126 (d + 1) Q 15 [wO 8 90, wI op, wI a, wI b, wI y] (r.toList ++ []) σ1) else T126 (d + 1) Q 25 [wO 8 90, wI op, wI a, wI b, wI y] [] σ1) := by
        intro y y0 y1 hy
        rw [if_neg y1, b126_25, if_neg y0]
        refine w123 h1 (by rw [List.length_append]; simp; omega) (fun σ2 h2 => ?_)
        simp only [Option.toList_none, List.nil_append]
        refine tl h2 hy (fun q => ?_) ?_
        · rw [if_pos q] at hl; simp at hl ⊢; omega
        · rw [e]; simp
      by_cases c1 : op = 2 ∨ op = 3
      · rw [if_pos c1]; exact key 2 (by omega) (by omega) ⟨fun q => by omega, fun q => by omega⟩
      · rw [if_neg c1]
        by_cases c2 : 11 ≤ op ∧ op ≤ 14
        · rw [if_pos c2]; exact key 3 (by omega) (by omega) ⟨fun q => by omega, fun q => by omega⟩
        · rw [if_neg c2]
          by_cases c3 : op = 15 ∨ op = 24 ∨ op = 25
          · rw [if_pos c3]; exact key 4 (by omega) (by omega) ⟨fun q => by omega, fun q => by omega⟩
          · rw [if_neg c3]
            by_cases c4 : 16 ≤ op ∧ op ≤ 19
            · rw [if_pos c4]; exact key 5 (by omega) (by omega) ⟨fun _ => by omega, fun _ => Or.inl rfl⟩
            · have c5 : op = 20 ∨ op = 21 := by omega
              rw [if_neg c4, if_pos c5]; exact key 6 (by omega) (by omega) ⟨fun _ => by omega, fun _ => Or.inr rfl⟩
    · have e : insL op a b = [op] := by
        unfold insL; rw [if_neg g0, if_neg (fun q => q.elim g0 gA), if_neg (by omega)]; simp
      have y0 : (if op = 2 ∨ op = 3 then (2 : Int) else if 11 ≤ op ∧ op ≤ 14 then 3 else if op = 15 ∨ op = 24 ∨ op = 25 then 4 else if 16 ≤ op ∧ op ≤ 19 then 5 else if op = 20 ∨ op = 21 then 6 else 0) = 0 := by
        rw [if_neg (by omega), if_neg (by omega), if_neg (by omega), if_neg (by omega), if_neg (by omega)]
      rw [y0, if_neg (by omega), b126_25, if_pos rfl]
      refine tl h1 ⟨fun q => by omega, fun q => by omega⟩ (fun q => by omega) ?_
      rw [e, if_neg (by omega)]; simp
end OUT
