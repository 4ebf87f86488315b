/-! a method's code gathered, purely -/
/-- what a SEND of t told by a may mean: the last one found, whether there are many -/
def bdF (P : Pg) (L : Int → Int) (a t : Int) : Nat → Int → Int × Bool → Int × Bool
  | 0, _, S => S
  | n + 1, d, S => bdF P L a t n (d + 1) (if L d = 1 ∧ cv P a d = true then (fnd P (P 3012 t) 10 d, S.2 || (decide (0 ≤ S.1) && !decide (S.1 = fnd P (P 3012 t) 10 d))) else S)
def bdS (P : Pg) (L : Int → Int) (a t : Int) : Int := if 0 ≤ (bdF P L a t (P 3000 0).toNat 0 (-1, false)).1 ∧ (bdF P L a t (P 3000 0).toNat 0 (-1, false)).2 = false ∧ cv P (P 3011 (bdF P L a t (P 3000 0).toNat 0 (-1, false)).1) a = true then (bdF P L a t (P 3000 0).toNat 0 (-1, false)).1 else -1
/-- the SEND at i is bound -/
def isB (P : Pg) (T : Int → Fl) (L : Int → Int) (m i : Int) : Bool := decide (P 1 (m * 120 + i) = 21) && decide (0 ≤ (T m).1 i) && !decide (bdS P L (P 2 (m * 120 + i)) (P 3007 (P 2 (m * 120 + i)) + P 3 (m * 120 + i)) = -1)
def bO (P : Pg) (T : Int → Fl) (L : Int → Int) (m i : Int) : Int := if isB P T L m i = true then 20 else P 1 (m * 120 + i)
def bA (P : Pg) (T : Int → Fl) (L : Int → Int) (m i : Int) : Int := if isB P T L m i = true then P 3011 (bdS P L (P 2 (m * 120 + i)) (P 3007 (P 2 (m * 120 + i)) + P 3 (m * 120 + i))) else P 2 (m * 120 + i)
def bB (P : Pg) (T : Int → Fl) (L : Int → Int) (m i : Int) : Int := if isB P T L m i = true then bdS P L (P 2 (m * 120 + i)) (P 3007 (P 2 (m * 120 + i)) + P 3 (m * 120 + i)) - P 3007 (P 3011 (bdS P L (P 2 (m * 120 + i)) (P 3007 (P 2 (m * 120 + i)) + P 3 (m * 120 + i)))) else P 3 (m * 120 + i)
def nbS (P : Pg) (T : Int → Fl) (L : Int → Int) (m : Int) : Nat → Int
  | 0 => 0
  | k + 1 => nbS P T L m k + (if isB P T L m k = true then 1 else 0)
def leafB (P : Pg) (T : Int → Fl) (bud u : Int) : Bool := !decide (P 3013 u = 0) && decide (1 ≤ P 0 u) && decide (P 0 u ≤ bud) && !anyS (fun j => !plnB (P 1 (u * 120 + j))) (P 0 u - 1).toNat && decide (P 1 (u * 120 + (P 0 u - 1)) = 22) && decide ((T u).1 (P 0 u - 1) = if P 3014 u = 0 then 0 else 1)
def roomB (P : Pg) (T : Int → Fl) (m i l tot u : Int) : Bool := decide (l + P 3017 u ≤ 20) && decide (tot + (P 3015 u + P 0 u - 2) ≤ 120) && !anyS (fun j => decide (10 < (T m).1 i - P 3015 u + (T u).1 j)) (P 0 u).toNat
/-- what is gathered: the code, how many locals, how long it will be, where old places begin, how many were put in -/
abbrev Ga : Type := Sx × Int × Int × (Int → Int) × Int
def putB (P : Pg) (T : Int → Fl) (L : Int → Int) (bud m i : Int) (S : Ga) : Bool := decide (bO P T L m i = 20) && decide (0 ≤ (T m).1 i) && leafB P T bud (P 3007 (bA P T L m i) + bB P T L m i) && roomB P T m i S.2.1 S.2.2.1 (P 3007 (bA P T L m i) + bB P T L m i)
def gs1 (P : Pg) (T : Int → Fl) (L : Int → Int) (bud m i : Int) (S : Ga) : Ga := if putB P T L bud m i S = true then (puS P (P 3007 (bA P T L m i) + bB P T L m i) S.2.1 (m * 1000 + i) S.1, S.2.1 + P 3017 (P 3007 (bA P T L m i) + bB P T L m i), S.2.2.1 + (P 3015 (P 3007 (bA P T L m i) + bB P T L m i) + P 0 (P 3007 (bA P T L m i) + bB P T L m i) - 2), i_up S.2.2.2.1 i S.1.n, S.2.2.2.2 + 1) else (adS S.1 (bO P T L m i) (bA P T L m i) (bB P T L m i) (m * 1000 + i) (-1), S.2.1, S.2.2.1, i_up S.2.2.2.1 i S.1.n, S.2.2.2.2)
def gsN (P : Pg) (T : Int → Fl) (L : Int → Int) (bud m : Int) : Nat → Ga
  | 0 => ((0, fun _ => 0, fun _ => 0, fun _ => 0, fun _ => 0, fun _ => 0), P 3017 m, P 0 m, fun _ => 0, 0)
  | k + 1 => gs1 P T L bud m k (gsN P T L bud m k)
/-- the whole of it -/
def gaE (P : Pg) (T : Int → Fl) (L : Int → Int) (bud m : Int) : Ga := gsN P T L bud m (P 0 m).toNat
def gaX (P : Pg) (T : Int → Fl) (L : Int → Int) (bud m : Int) : Sx := aiS (gaE P T L bud m).1 (gaE P T L bud m).2.2.2.1
/-- what may stand in the code: told right, and within what is reached -/
def WR (P : Pg) (R : Rs) (op a b : Int) : Prop := (op = 15 ∨ op = 24 ∨ op = 25 ∨ (16 ≤ op ∧ op ≤ 21) → 0 ≤ a ∧ a < P 3000 0) ∧ (16 ≤ op ∧ op ≤ 19 → (0 ≤ b ∧ b < P 3005 a) ∧ P 3010 (a * 6 + b) = if 18 ≤ op then 1 else 0) ∧ (20 ≤ op ∧ op ≤ 21 → 0 ≤ b ∧ b < P 3006 a) ∧ (op = 15 → R.2.1 a = 1) ∧ (op = 20 → R.1 (P 3007 a + b) = 1) ∧ (op = 21 → P 3013 (P 3007 a + b) = 0 ∧ ∀ d, 0 ≤ d → d < P 3000 0 → R.2.1 d = 1 → cv P a d = true → R.1 (fnd P (P 3012 (P 3007 a + b)) 10 d) = 1)
/-- the great program, typed, and what is reached of it -/
def grR (P : Pg) (T : Int → Fl) (R : Rs) : Prop := (good P ∧ typed P T) ∧ ((∀ m, R.1 m = 0 ∨ R.1 m = 1) ∧ ∀ c, R.2.1 c = 0 ∨ R.2.1 c = 1) ∧ closR P P (fun m i => decide (0 ≤ (T m).1 i)) R
section GATHER
variable {P : Pg} {T : Int → Fl} {R : Rs} {L : Int → Int} {m i j u a b t bud op l tot : Int} {S : Ga}
theorem WR_0 (h0 : 0 ≤ op) (h : op ≤ 14) : WR P R op a b := ⟨fun g => by omega, fun g => by omega, fun g => by omega, fun g => by omega, fun g => by omega, fun g => by omega⟩
theorem WR_j {a' : Int} (h : isj op = true) (_ : WR P R op a b) : WR P R op a' b := by
  have : 11 ≤ op ∧ op ≤ 14 := by simpa [isj] using h
  exact WR_0 (by omega) (by omega)
theorem WR_own (h : grR P T R) (m0 : 0 ≤ m) (m1 : m < P 3001 0) (hm : R.1 m = 1) (i0 : 0 ≤ i) (i1 : i < P 0 m) (hi : 0 ≤ (T m).1 i) : WR P R (P 1 (m * 120 + i)) (P 2 (m * 120 + i)) (P 3 (m * 120 + i)) := by
  obtain ⟨⟨hg, -⟩, -, hc⟩ := h
  obtain ⟨c1, c2, c3⟩ := hc m m0 m1 hm i i0 i1 (decide_eq_true hi)
  have ik := (hg.1.2.2.2 m m0 m1).2.2.2.2.2.2 i i0 i1
  obtain ⟨w1, w2⟩ := hg.2.2.1 m i m0 m1 i0 i1
  exact ⟨ik.2.2.2.2.1, fun g => ⟨ik.2.2.2.2.2.1 g, w1 g⟩, ik.2.2.2.2.2.2, c1, c2, fun g => ⟨w2 g, c3 g⟩⟩
/-- what is found is one of the live classes' -/
theorem bdF_in : ∀ (n : Nat) (d : Int) (S : Int × Bool), d + n = P 3000 0 → 0 ≤ d → (S.1 = -1 ∨ ∃ x, 0 ≤ x ∧ x < P 3000 0 ∧ L x = 1 ∧ cv P a x = true ∧ S.1 = fnd P (P 3012 t) 10 x) → ((bdF P L a t n d S).1 = -1 ∨ ∃ x, 0 ≤ x ∧ x < P 3000 0 ∧ L x = 1 ∧ cv P a x = true ∧ (bdF P L a t n d S).1 = fnd P (P 3012 t) 10 x)
  | 0, d, S, _, _, h => h
  | n + 1, d, S, hd, d0, h => by
    unfold bdF
    refine bdF_in n (d + 1) _ (by omega) (by omega) ?_
    by_cases g : L d = 1 ∧ cv P a d = true
    · rw [if_pos g]; exact Or.inr ⟨d, d0, by omega, g.1, g.2, rfl⟩
    · rw [if_neg g]; exact h
theorem bdS_in (hg : good P) (a0 : 0 ≤ a) (a1 : a < P 3000 0) (b0 : 0 ≤ b) (b1 : b < P 3006 a) : bdS P L a (P 3007 a + b) = -1 ∨ ((0 ≤ bdS P L a (P 3007 a + b) ∧ bdS P L a (P 3007 a + b) < P 3001 0) ∧ lik P (bdS P L a (P 3007 a + b)) (P 3007 a + b) ∧ cv P (P 3011 (bdS P L a (P 3007 a + b))) a = true ∧ ∃ x, 0 ≤ x ∧ x < P 3000 0 ∧ L x = 1 ∧ cv P a x = true ∧ bdS P L a (P 3007 a + b) = fnd P (P 3012 (P 3007 a + b)) 10 x) := by
  have hc := hg.1.1.1
  have h := bdF_in (P := P) (L := L) (a := a) (t := P 3007 a + b) (P 3000 0).toNat 0 (-1, false) (by omega) (by omega) (Or.inl rfl)
  unfold bdS
  generalize bdF P L a (P 3007 a + b) (P 3000 0).toNat 0 (-1, false) = S at h
  by_cases g : 0 ≤ S.1 ∧ S.2 = false ∧ cv P (P 3011 S.1) a = true
  · rw [if_pos g]
    rcases h with h | ⟨x, x0, x1, x2, x3, x4⟩
    · omega
    · have r := fnd_r hg a0 a1 b0 b1 (c := x) x1 x3
      rw [← x4] at r
      exact Or.inr ⟨⟨r.1, r.2.1⟩, r.2.2, g.2.2, x, x0, x1, x2, x3, x4⟩
  · rw [if_neg g]; exact Or.inl rfl
/-- a bound SEND: the method called -/
theorem isB_of (h : grR P T R) (m0 : 0 ≤ m) (m1 : m < P 3001 0) (hm : R.1 m = 1) (i0 : 0 ≤ i) (i1 : i < P 0 m) (hb : isB P T R.2.1 m i = true) : ∃ w, bdS P R.2.1 (P 2 (m * 120 + i)) (P 3007 (P 2 (m * 120 + i)) + P 3 (m * 120 + i)) = w ∧ (0 ≤ w ∧ w < P 3001 0) ∧ P 3007 (P 3011 w) + (w - P 3007 (P 3011 w)) = w ∧ (P 1 (m * 120 + i) = 21 ∧ 0 ≤ (T m).1 i) ∧ lik P w (P 3007 (P 2 (m * 120 + i)) + P 3 (m * 120 + i)) ∧ cv P (P 3011 w) (P 2 (m * 120 + i)) = true ∧ P 3013 w = 0 ∧ R.1 w = 1 ∧ (0 ≤ P 3011 w ∧ P 3011 w < P 3000 0) ∧ 0 ≤ w - P 3007 (P 3011 w) ∧ w - P 3007 (P 3011 w) < P 3006 (P 3011 w) := by
  have hW := h.1.1.1
  unfold isB at hb
  simp only [Bool.and_eq_true, decide_eq_true_eq, Bool.not_eq_true', decide_eq_false_iff_not] at hb
  obtain ⟨⟨h1, h2⟩, h3⟩ := hb
  have hw := WR_own h m0 m1 hm i0 i1 h2
  obtain ⟨-, -, -, -, -, w6⟩ := hw
  have ik := (hW.2.2.2 m m0 m1).2.2.2.2.2.2 i i0 i1
  have ca := ik.2.2.2.2.1 (by omega)
  have cb := ik.2.2.2.2.2.2 (by omega)
  obtain ⟨w7, w8⟩ := w6 h1
  rcases bdS_in (L := R.2.1) h.1.1 ca.1 ca.2 cb.1 cb.2 with q | ⟨q1, q2, q3, x, x0, x1, x2, x3, x4⟩
  · exact absurd q h3
  · refine ⟨_, rfl, q1, by omega, ⟨h1, h2⟩, q2, q3, by rw [q2.1]; exact w7, ?_, ?_⟩
    · rw [x4]; exact w8 x x0 x1 x2 x3
    · obtain ⟨z1, z2, z3, z4⟩ := (hW.2.2.2 _ q1.1 q1.2).1
      exact ⟨⟨z1, z2⟩, by omega, by omega⟩
end GATHER
