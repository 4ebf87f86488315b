/-! names: both sides find the same first clash -/
def shr (P : Pg) (m j : Int) : Nat → Int → Bool
  | 0, _ => true
  | r + 1, p => decide (P 3016 (m * 3 + p) = P 3016 (j * 3 + p)) && shr P m j r (p + 1)
def shp (P : Pg) (m j : Int) : Bool := decide (P 3013 m = 0) && decide (P 3013 j = 0) && decide (P 3014 m = P 3014 j) && decide (P 3015 m = P 3015 j) && shr P m j (P 3015 m).toNat 0
def fclr (P : Pg) (c k : Int) : Nat → Int → Bool
  | 0, _ => false
  | r + 1, j => decide (P 3008 (c * 6 + j) = P 3008 (c * 6 + k)) || fclr P c k r (j + 1)
def mclr (P : Pg) (c k : Int) : Nat → Int → Bool
  | 0, _ => false
  | r + 1, j => decide (P 3012 (P 3007 c + j) = P 3012 (P 3007 c + k)) || mclr P c k r (j + 1)
def acl (P : Pg) (m : Int) : Nat → Int → Bool
  | 0, _ => false
  | n + 1, x => if x < 0 then false else (if nmd P x (P 3012 m) 9 0 = -1 then false else !shp P m (nmd P x (P 3012 m) 9 0)) || acl P m n (P 3003 x)
def fck (P : Pg) (c k : Int) : Bool := fclr P c k k.toNat 0
def mck (P : Pg) (c k : Int) : Bool := mclr P c k k.toNat 0 || acl P (P 3007 c + k) 10 (P 3003 c)
def fst3 (p : Int → Bool) : Nat → Int → Option Int
  | 0, _ => none
  | r + 1, k => if p k = true then some k else fst3 p r (k + 1)
def clk (P : Pg) : Nat → Int → Option (Int × Int × Int)
  | 0, _ => none
  | r + 1, c => match fst3 (fck P c) (P 3005 c).toNat 0 with
    | some k => some (c, k, 0)
    | none => match fst3 (mck P c) (P 3006 c).toNat 0 with
      | some k => some (c, k, 1)
      | none => clk P r (c + 1)
section NAM
variable {d : Nat} {Q : j3_P} {σ : j3_S} {o : Nat} {P : Pg} {c k m j : Int}
theorem l55 (hC : CP σ o P) (hW : WF0 P) (m0 : 0 ≤ m) (m1 : m < P 3001 0) (j0 : 0 ≤ j) (j1 : j < P 3001 0) (he : P 3015 m = P 3015 j) : ∀ (r : Nat) (p : Int), p + r = P 3015 m → 0 ≤ p → T55 d Q 32 [wO 3 o, wI m, wI j, wI p] [] σ = Q (some (wI (b2i (shr P m j r p)))) σ
  | 0, p, hp, p0 => by
    have hm2 := hW.2.1.2.1
    rw [b55_32, (hC.2.2.2 m m0 m1).1.2.2.2.2.1, if_neg (by omega)]
    simp [shr, b2i, m0, show m < 80 by omega]
  | r + 1, p, hp, p0 => by
    have hm2 := hW.2.1.2.1
    obtain ⟨-, -, -, q4, -⟩ := hW.2.2.2 m m0 m1
    rw [b55_32, (hC.2.2.2 m m0 m1).1.2.2.2.2.1, if_pos (by omega)]
    simp (disch := omega) only [wr_id]
    rw [(hC.2.2.2 m m0 m1).2.1 p p0 (by omega), (hC.2.2.2 j j0 j1).2.1 p p0 (by omega), l55 hC hW m0 m1 j0 j1 he r (p + 1) (by omega) (by omega)]
    have c1 : (0 ≤ m * 3 + p ∧ m * 3 + p < 240) = True := by simp; omega
    have c2 : (0 ≤ j * 3 + p ∧ j * 3 + p < 240) = True := by simp; omega
    have c3 : (0 ≤ m ∧ m < 80) = True := by simp; omega
    simp only [c1, c2, c3, true_and, shr]
    by_cases g : P 3016 (m * 3 + p) = P 3016 (j * 3 + p)
    · simp [g]
    · simp [g, b2i]
theorem s55 (hC : CP σ o P) (hW : WF0 P) (m0 : 0 ≤ m) (m1 : m < P 3001 0) (j0 : 0 ≤ j) (j1 : j < P 3001 0) : j3_tc false (d + 1) 55 [wO 3 o, wI m, wI j] σ Q = Q (some (wI (b2i (shp P m j)))) σ := by
  have hm2 := hW.2.1.2.1
  obtain ⟨-, -, -, q4, -⟩ := hW.2.2.2 m m0 m1
  obtain ⟨⟨-, -, a3, a4, a5, -, -⟩, -⟩ := hC.2.2.2 m m0 m1
  obtain ⟨⟨-, -, b3, b4, b5, -, -⟩, -⟩ := hC.2.2.2 j j0 j1
  have c3 : (0 ≤ m ∧ m < 80) = True := by simp; omega
  have c4 : (0 ≤ j ∧ j < 80) = True := by simp; omega
  rw [e55, b55_0, a3, a4, a5, b3, b4, b5]
  simp only [c3, c4, true_and, shp]
  by_cases g1 : P 3013 m = 0
  · by_cases g2 : P 3013 j = 0
    · by_cases g3 : P 3014 m = P 3014 j
      · by_cases g4 : P 3015 m = P 3015 j
        · rw [if_pos g1, if_pos g2, if_pos g3, if_pos g4, l55 hC hW m0 m1 j0 j1 g4 (P 3015 m).toNat 0 (by omega) (by omega)]
          simp [g1, g2, g3, g4]
        · simp [g1, g2, g3, g4, b2i]
      · simp [g1, g2, g3, b2i]
    · simp [g1, g2, b2i]
  · simp [g1, b2i]
theorem l75 (hp : σ.2.1 4 = o) (ho : ¬ o = 0) (hC : CP σ o P) (hW : WF0 P) (c0 : 0 ≤ c) (c1 : c < P 3000 0) (k0 : 0 ≤ k) (k1 : k < P 3005 c) : ∀ (r : Nat) (j : Int), j + r = k → 0 ≤ j → T75 d Q 6 [wO 5 73, wI c, wI k, wI (c * 6), wI j] [] σ = Q (some (wI (b2i (fclr P c k r j)))) σ
  | 0, j, hj, j0 => by
    rw [b75_6, if_neg (by omega)]
    simp [fclr, b2i]
  | r + 1, j, hj, j0 => by
    have hn := hW.1.2.1
    have hf := hW.2.2.1 c c0 c1
    rw [b75_6, if_pos (by omega), hp]
    simp (disch := omega) only [wr_id]
    rw [((hC.2.2.1 c c0 c1).2 j j0 (by omega)).1, ((hC.2.2.1 c c0 c1).2 k k0 k1).1, l75 hp ho hC hW c0 c1 k0 k1 r (j + 1) (by omega) (by omega)]
    have x1 : (0 ≤ c * 6 + j ∧ c * 6 + j < 60) = True := by simp; omega
    have x2 : (0 ≤ c * 6 + k ∧ c * 6 + k < 60) = True := by simp; omega
    simp only [x1, x2, ho, not_false_eq_true, true_and, fclr]
    by_cases g : P 3008 (c * 6 + j) = P 3008 (c * 6 + k)
    · simp [g, b2i]
    · simp [g]
theorem s75 (hp : σ.2.1 4 = o) (ho : ¬ o = 0) (hC : CP σ o P) (hW : WF0 P) (c0 : 0 ≤ c) (c1 : c < P 3000 0) (k0 : 0 ≤ k) (k1 : k < P 3005 c) : j3_tc false (d + 1) 75 [wO 5 73, wI c, wI k] σ Q = Q (some (wI (b2i (fck P c k)))) σ := by
  have hn := hW.1.2.1
  rw [e75, b75_0, wr_id (by omega) (by omega)]
  exact l75 hp ho hC hW c0 c1 k0 k1 k.toNat 0 (by omega) (by omega)
theorem l76 (hp : σ.2.1 4 = o) (ho : ¬ o = 0) (hC : CP σ o P) (hW : WF0 P) (c0 : 0 ≤ c) (c1 : c < P 3000 0) (k0 : 0 ≤ k) (k1 : k < P 3006 c) : ∀ (r : Nat) (j : Int), j + r = k → 0 ≤ j → T76 d Q 8 [wO 5 73, wI c, wI k, wI (P 3007 c), wI j] [] σ = Q (some (wI (b2i (mclr P c k r j)))) σ
  | 0, j, hj, j0 => by
    rw [b76_8, if_neg (by omega)]
    simp [mclr, b2i]
  | r + 1, j, hj, j0 => by
    have hm2 := hW.2.1.2.1
    have hf := hW.2.1.2.2 c c0 c1
    rw [b76_8, if_pos (by omega), hp]
    simp (disch := omega) only [wr_id]
    rw [(hC.2.2.2 (P 3007 c + j) (by omega) (by omega)).1.2.1, (hC.2.2.2 (P 3007 c + k) (by omega) (by omega)).1.2.1, l76 hp ho hC hW c0 c1 k0 k1 r (j + 1) (by omega) (by omega)]
    have x1 : (0 ≤ P 3007 c + j ∧ P 3007 c + j < 80) = True := by simp; omega
    have x2 : (0 ≤ P 3007 c + k ∧ P 3007 c + k < 80) = True := by simp; omega
    simp only [x1, x2, ho, not_false_eq_true, true_and, mclr]
    by_cases g : P 3012 (P 3007 c + j) = P 3012 (P 3007 c + k)
    · simp [g, b2i]
    · simp [g]
theorem s76 (hp : σ.2.1 4 = o) (ho : ¬ o = 0) (hC : CP σ o P) (hW : WF0 P) (c0 : 0 ≤ c) (c1 : c < P 3000 0) (k0 : 0 ≤ k) (k1 : k < P 3006 c) : j3_tc false (d + 1) 76 [wO 5 73, wI c, wI k] σ Q = Q (some (wI (b2i (mclr P c k k.toNat 0)))) σ := by
  have hn := hW.1.2.1
  rw [e76, b76_0, hp, (hC.2.2.1 c c0 c1).1.2.2.2.2, l76 hp ho hC hW c0 c1 k0 k1 k.toNat 0 (by omega) (by omega)]
  simp [ho, c0, show c < 10 by omega]
theorem l77 (hp : σ.2.1 4 = o) (ho : ¬ o = 0) (hC : CP σ o P) (hW : WF0 P) (m0 : 0 ≤ m) (m1 : m < P 3001 0) {x1 x2 : Int} : ∀ (n : Nat) (j x : Int) (w : j3_W), j + n = 10 → 0 ≤ j → -1 ≤ x → x < P 3000 0 → T77 (d + 1) Q 16 [wO 5 73, wI x1, wI x2, wI m, wI x, wI j, w] [] σ = Q (some (wI (b2i (acl P m n x)))) σ
  | 0, j, x, w, hj, j0, g1, g2 => by
    rw [b77_16, if_neg (by omega)]
    simp [acl, b2i]
  | n + 1, j, x, w, hj, j0, g1, g2 => by
    have hn := hW.1.2.1
    have hm2 := hW.2.1.2.1
    rw [b77_16, if_pos (by omega)]
    by_cases g : x < 0
    · simp [acl, g, b2i]
    · have hx := hW.1.2.2 x (by omega) g2
      have hcm := hW.2.1.2.2 x (by omega) g2
      have c3 : (0 ≤ m ∧ m < 80) = True := by simp; omega
      have c4 : (0 ≤ x ∧ x < 10) = True := by simp; omega
      rw [if_neg g, hp, (hC.2.2.2 m m0 m1).1.2.1, s50 hC hW.1 hW.2.1 (by omega) g2]
      simp only [Option.toList_some, List.cons_append, List.nil_append, ho, not_false_eq_true, true_and, c3]
      have t42 : ∀ v : Int, T77 (d + 1) Q 42 [wO 5 73, wI x1, wI x2, wI m, wI x, wI j, wI v] [] σ = Q (some (wI (b2i (acl P m n (P 3003 x))))) σ := by
        intro v
        rw [b77_42, hp, (hC.2.2.1 x (by omega) g2).1.2.1, wr_id (by omega) (by omega), l77 hp ho hC hW m0 m1 n (j + 1) (P 3003 x) _ (by omega) (by omega) (by omega) (by omega)]
        simp [ho, c4]
      have hg := nmd_ge P (c := x) (nm := P 3012 m) hcm.2.2.1 9 0 (by omega)
      rw [b77_30]
      simp only [acl, if_neg g]
      by_cases q : nmd P x (P 3012 m) 9 0 = -1
      · rw [if_pos q, t42]
        simp [q]
      · obtain ⟨h1, h2, h3⟩ := hg.2 q
        rw [if_neg q, hp, s55 hC hW m0 m1 (by omega) (by omega)]
        simp only [Option.toList_some, List.cons_append, List.nil_append, ho, not_false_eq_true, true_and]
        rw [b77_39, t42, if_neg q]
        cases hsh : shp P m (nmd P x (P 3012 m) 9 0)
        · simp [b2i]
        · simp [b2i]
theorem s77 (hp : σ.2.1 4 = o) (ho : ¬ o = 0) (hC : CP σ o P) (hW : WF0 P) (c0 : 0 ≤ c) (c1 : c < P 3000 0) (k0 : 0 ≤ k) (k1 : k < P 3006 c) : j3_tc false (d + 2) 77 [wO 5 73, wI c, wI k] σ Q = Q (some (wI (b2i (acl P (P 3007 c + k) 10 (P 3003 c))))) σ := by
  have hn := hW.1.2.1
  have hm2 := hW.2.1.2.1
  have hcm := hW.2.1.2.2 c c0 c1
  have hx := hW.1.2.2 c c0 c1
  rw [e77, b77_0, hp, (hC.2.2.1 c c0 c1).1.2.2.2.2, (hC.2.2.1 c c0 c1).1.2.1, wr_id (by omega) (by omega), l77 hp ho hC hW (by omega) (by omega) 10 0 (P 3003 c) _ (by omega) (by omega) (by omega) (by omega)]
  simp [ho, c0, show c < 10 by omega]
def clS (σ : j3_S) (c k s : Int) : j3_S := (j3_up (j3_up (j3_up σ.1 5008 73 c) 5009 73 k) 5010 73 s, σ.2.1, σ.2.2)
theorem l73m (hp : σ.2.1 4 = o) (ho : ¬ o = 0) (hC : CP σ o P) (hW : WF0 P) (c0 : 0 ≤ c) (c1 : c < P 3000 0) : ∀ (r : Nat) (k : Int), k + r = P 3006 c → 0 ≤ k → T73 (d + 2) Q 31 [wO 5 73, wI c, wI k] [] σ = match fst3 (mck P c) r k with
    | some k => Q (some (wI 1)) (clS σ c k 1)
    | none => T73 (d + 2) Q 2 [wO 5 73, wI (c + 1), wI (P 3006 c)] [] σ
  | 0, k, hk, k0 => by
    have hn := hW.1.2.1
    have : k = P 3006 c := by omega
    subst this
    rw [b73_31, hp, (hC.2.2.1 c c0 c1).1.2.2.2.1, if_neg (by omega), wr_id (by omega) (by omega)]
    simp [fst3, ho, c0, show c < 10 by omega]
  | r + 1, k, hk, k0 => by
    have hn := hW.1.2.1
    have hcm := hW.2.1.2.2 c c0 c1
    have cc : (0 ≤ c ∧ c < 10) = True := by simp; omega
    have t48 : T73 (d + 2) Q 48 [wO 5 73, wI c, wI k] [] σ = Q (some (wI 1)) (clS σ c k 1) := by
      rw [b73_48, e74, b74_0]
      simp only [Option.toList_some, List.cons_append, List.nil_append]
      rw [b73_53]
      simp [clS]
    rw [b73_31, hp, (hC.2.2.1 c c0 c1).1.2.2.2.1, if_pos (by omega), s76 hp ho hC hW c0 c1 k0 (by omega)]
    simp only [Option.toList_some, List.cons_append, List.nil_append, ho, not_false_eq_true, true_and, cc]
    rw [b73_42, t48]
    have em : mck P c k = (mclr P c k k.toNat 0 || acl P (P 3007 c + k) 10 (P 3003 c)) := rfl
    simp only [fst3]
    rw [em]
    by_cases h1 : mclr P c k k.toNat 0 = true
    · rw [h1]
      simp [b2i]
    · have h1' : mclr P c k k.toNat 0 = false := by simpa using h1
      rw [h1', if_pos (show b2i false = 0 from rfl), s77 hp ho hC hW c0 c1 k0 (by omega)]
      simp only [Option.toList_some, List.cons_append, List.nil_append]
      rw [b73_47, t48, wr_id (by omega) (by omega), l73m hp ho hC hW c0 c1 r (k + 1) (by omega) (by omega)]
      by_cases h2 : acl P (P 3007 c + k) 10 (P 3003 c) = true
      · rw [h2]
        simp [b2i]
      · have h2' : acl P (P 3007 c + k) 10 (P 3003 c) = false := by simpa using h2
        rw [h2']
        simp [b2i]
theorem l73f (hp : σ.2.1 4 = o) (ho : ¬ o = 0) (hC : CP σ o P) (hW : WF0 P) (c0 : 0 ≤ c) (c1 : c < P 3000 0) : ∀ (r : Nat) (k : Int), k + r = P 3005 c → 0 ≤ k → T73 (d + 2) Q 9 [wO 5 73, wI c, wI k] [] σ = match fst3 (fck P c) r k with
    | some k => Q (some (wI 1)) (clS σ c k 0)
    | none => T73 (d + 2) Q 31 [wO 5 73, wI c, wI 0] [] σ
  | 0, k, hk, k0 => by
    have hn := hW.1.2.1
    rw [b73_9, hp, (hC.2.2.1 c c0 c1).1.2.2.1, if_neg (by omega)]
    simp [fst3, ho, c0, show c < 10 by omega]
  | r + 1, k, hk, k0 => by
    have hn := hW.1.2.1
    have hcf := hW.2.2.1 c c0 c1
    have cc : (0 ≤ c ∧ c < 10) = True := by simp; omega
    rw [b73_9, hp, (hC.2.2.1 c c0 c1).1.2.2.1, if_pos (by omega), s75 hp ho hC hW c0 c1 k0 (by omega)]
    simp only [Option.toList_some, List.cons_append, List.nil_append, ho, not_false_eq_true, true_and, cc]
    rw [b73_20, wr_id (by omega) (by omega), l73f hp ho hC hW c0 c1 r (k + 1) (by omega) (by omega), e74, b74_0]
    simp only [Option.toList_some, List.cons_append, List.nil_append]
    rw [b73_26]
    simp only [fst3]
    cases h1 : fck P c k
    · simp [b2i]
    · simp [b2i, clS]
theorem l73 (hp : σ.2.1 4 = o) (ho : ¬ o = 0) (hC : CP σ o P) (hW : WF0 P) : ∀ (r : Nat) (c : Int) (w : j3_W), c + r = P 3000 0 → 0 ≤ c → T73 (d + 2) Q 2 [wO 5 73, wI c, w] [] σ = match clk P r c with
    | some (c, k, s) => Q (some (wI 1)) (clS σ c k s)
    | none => Q (some (wI 0)) σ
  | 0, c, w, hc, c0 => by
    rw [b73_2, hp, hC.1, if_neg (by omega)]
    simp [clk, ho]
  | r + 1, c, w, hc, c0 => by
    have hcf := hW.2.2.1 c c0 (by omega)
    have hcm := hW.2.1.2.2 c c0 (by omega)
    rw [b73_2, hp, hC.1, if_pos (by omega), l73f hp ho hC hW c0 (by omega) (P 3005 c).toNat 0 (by omega) (by omega), l73m hp ho hC hW c0 (by omega) (P 3006 c).toNat 0 (by omega) (by omega), l73 hp ho hC hW r (c + 1) _ (by omega) (by omega)]
    simp only [clk, ho, not_false_eq_true, true_and]
    cases fst3 (fck P c) (P 3005 c).toNat 0 with
    | some k => rfl
    | none =>
      cases fst3 (mck P c) (P 3006 c).toNat 0 with
      | some k => rfl
      | none => rfl
theorem s73 (hp : σ.2.1 4 = o) (ho : ¬ o = 0) (hC : CP σ o P) (hW : WF0 P) : j3_tc false (d + 3) 73 [wO 5 73] σ Q = match clk P (P 3000 0).toNat 0 with
    | some (c, k, s) => Q (some (wI 1)) (clS σ c k s)
    | none => Q (some (wI 0)) σ := by
  have := hW.1.1
  rw [e73, b73_0]
  exact l73 hp ho hC hW (P 3000 0).toNat 0 _ (by omega) (by omega)
end NAM
