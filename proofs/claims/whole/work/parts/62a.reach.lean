/-! what entries reach, purely: rows of reached methods, live classes, a flag -/
abbrev Rs : Type := (Int → Int) × (Int → Int) × Int
def mkR (S : Rs) (m : Int) : Rs := if S.1 m = 0 then (i_up S.1 m 1, S.2.1, 1) else S
def mkL (S : Rs) (c : Int) : Rs := if S.2.1 c = 0 then (S.1, i_up S.2.1 c 1, 1) else S
/-- the classes from d on, n of them -/
def mkS (P : Pg) (a t : Int) : Nat → Int → Rs → Rs
  | 0, _, S => S
  | n + 1, d, S => mkS P a t n (d + 1) (if S.2.1 d = 1 ∧ cv P a d = true then mkR S (fnd P (P 3012 t) 10 d) else S)
def stI (P : Pg) (op a b : Int) (S : Rs) : Rs := if op = 15 then mkL S a else if op = 20 then mkR S (P 3007 a + b) else if op = 21 then mkS P a (P 3007 a + b) (P 3000 0).toNat 0 S else S
/-- the instructions of m from i on -/
def gI (P K : Pg) (mt : Int → Int → Bool) (m : Int) : Nat → Int → Rs → Rs
  | 0, _, S => S
  | n + 1, i, S => gI P K mt m n (i + 1) (if mt m i = true then stI P (K 1 (m * 120 + i)) (K 2 (m * 120 + i)) (K 3 (m * 120 + i)) S else S)
def gM (P K : Pg) (mt : Int → Int → Bool) : Nat → Int → Rs → Rs
  | 0, _, S => S
  | n + 1, m, S => gM P K mt n (m + 1) (if S.1 m = 1 then gI P K mt m (K 0 m).toNat 0 S else S)
def rd1 (P K : Pg) (mt : Int → Int → Bool) (S : Rs) : Rs := gM P K mt (P 3001 0).toNat 0 (S.1, S.2.1, 0)
def rds (P K : Pg) (mt : Int → Int → Bool) : Nat → Rs → Rs
  | 0, S => S
  | n + 1, S => if S.2.2 = 0 then S else rds P K mt n (rd1 P K mt S)
/-- how many are 0 -/
def cz (f : Int → Int) : Nat → Nat
  | 0 => 0
  | n + 1 => cz f n + (if f n = 0 then 1 else 0)
def unM (S : Rs) : Nat := cz S.1 80 + cz S.2.1 10
/-- S came from S0 -/
def frS (S0 S : Rs) : Prop := (∀ m, S0.1 m = 1 → S.1 m = 1) ∧ (∀ c, S0.2.1 c = 1 → S.2.1 c = 1) ∧ (∀ m, S.1 m = S0.1 m ∨ S.1 m = 1) ∧ (∀ c, S.2.1 c = S0.2.1 c ∨ S.2.1 c = 1) ∧ (S.2.2 = S0.2.2 ∨ S.2.2 = 1) ∧ (S = S0 ∨ (S.2.2 = 1 ∧ unM S < unM S0))
section RCH
variable {P K : Pg} {mt : Int → Int → Bool} {S S' S0 : Rs} {a b m c t op : Int}
theorem cz_up {f : Int → Int} (h : f a = 0) : ∀ n : Nat, cz (i_up f a 1) n ≤ cz f n ∧ (0 ≤ a → a < n → cz (i_up f a 1) n < cz f n)
  | 0 => ⟨Nat.le_refl _, fun _ h => absurd h (by omega)⟩
  | n + 1 => by
    obtain ⟨h1, h2⟩ := cz_up h n
    have e : cz (i_up f a 1) (n + 1) = cz (i_up f a 1) n + (if i_up f a 1 n = 0 then 1 else 0) := rfl
    have e' : cz f (n + 1) = cz f n + (if f n = 0 then 1 else 0) := rfl
    rw [e, e']
    by_cases g : (n : Int) = a
    · have u1 : i_up f a 1 n = 1 := by rw [g]; exact iu_r
      have u2 : f n = 0 := by rw [g]; exact h
      rw [if_neg (show ¬ i_up f a 1 n = 0 by rw [u1]; decide), if_pos u2]
      exact ⟨by omega, fun _ _ => by omega⟩
    · have u1 : i_up f a 1 n = f n := iu_n g
      simp only [u1]
      refine ⟨by omega, fun q0 q1 => ?_⟩
      have := h2 q0 (by omega)
      omega
theorem frS.rf : frS S S := ⟨fun _ h => h, fun _ h => h, fun _ => Or.inl rfl, fun _ => Or.inl rfl, Or.inl rfl, Or.inl rfl⟩
theorem frS.tr {S2 : Rs} (h : frS S0 S) (h' : frS S S2) : frS S0 S2 := by
  obtain ⟨a1, a2, a3, a4, a5, a6⟩ := h
  obtain ⟨b1, b2, b3, b4, b5, b6⟩ := h'
  refine ⟨fun m q => b1 m (a1 m q), fun c q => b2 c (a2 c q), fun m => ?_, fun c => ?_, ?_, ?_⟩
  · rcases b3 m with e | e
    · rw [e]; exact a3 m
    · exact Or.inr e
  · rcases b4 c with e | e
    · rw [e]; exact a4 c
    · exact Or.inr e
  · rcases b5 with e | e
    · rw [e]; exact a5
    · exact Or.inr e
  · rcases b6 with e | ⟨e1, e2⟩
    · rw [e]; exact a6
    · rcases a6 with q | ⟨q1, q2⟩
      · rw [← q]; exact Or.inr ⟨e1, e2⟩
      · exact Or.inr ⟨e1, by omega⟩
theorem mkR_f (m0 : 0 ≤ m) (m1 : m < 80) : frS S (mkR S m) := by
  unfold mkR
  by_cases g : S.1 m = 0
  · rw [if_pos g]
    refine ⟨fun k q => ?_, fun _ q => q, fun k => ?_, fun _ => Or.inl rfl, Or.inr rfl, Or.inr ⟨rfl, ?_⟩⟩
    · show i_up S.1 m 1 k = 1
      simp only [i_up]
      by_cases e : k = m
      · rw [if_pos e]
      · rw [if_neg e]; exact q
    · show i_up S.1 m 1 k = _ ∨ i_up S.1 m 1 k = 1
      simp only [i_up]
      by_cases e : k = m
      · rw [if_pos e]; exact Or.inr rfl
      · rw [if_neg e]; exact Or.inl rfl
    · show cz (i_up S.1 m 1) 80 + cz S.2.1 10 < cz S.1 80 + cz S.2.1 10
      have := (cz_up g 80).2 m0 (by omega)
      omega
  · rw [if_neg g]; exact frS.rf
theorem mkL_f (c0 : 0 ≤ c) (c1 : c < 10) : frS S (mkL S c) := by
  unfold mkL
  by_cases g : S.2.1 c = 0
  · rw [if_pos g]
    refine ⟨fun _ q => q, fun k q => ?_, fun _ => Or.inl rfl, fun k => ?_, Or.inr rfl, Or.inr ⟨rfl, ?_⟩⟩
    · show i_up S.2.1 c 1 k = 1
      simp only [i_up]
      by_cases e : k = c
      · rw [if_pos e]
      · rw [if_neg e]; exact q
    · show i_up S.2.1 c 1 k = _ ∨ i_up S.2.1 c 1 k = 1
      simp only [i_up]
      by_cases e : k = c
      · rw [if_pos e]; exact Or.inr rfl
      · rw [if_neg e]; exact Or.inl rfl
    · show cz S.1 80 + cz (i_up S.2.1 c 1) 10 < cz S.1 80 + cz S.2.1 10
      have := (cz_up g 10).2 c0 (by omega)
      omega
  · rw [if_neg g]; exact frS.rf
/-- what a SEND finds is a method -/
theorem fnd_r (hg : good P) (a0 : 0 ≤ a) (a1 : a < P 3000 0) (b0 : 0 ≤ b) (b1 : b < P 3006 a) (c1 : c < P 3000 0) (h : cv P a c = true) : 0 ≤ fnd P (P 3012 (P 3007 a + b)) 10 c ∧ fnd P (P 3012 (P 3007 a + b)) 10 c < P 3001 0 ∧ lik P (fnd P (P 3012 (P 3007 a + b)) 10 c) (P 3007 a + b) := by
  have hn := hg.1.1.2.1
  obtain ⟨k, j, ⟨-, k0, k1, j0, j1⟩, e, l⟩ := fnd_cv hg a0 a1 b0 b1 10 c (by omega) c1 h
  have := hg.1.2.1.2.2 k k0 k1
  rw [e]
  exact ⟨by omega, by omega, l⟩
/-- what an instruction tells that reaching looks at -/
def okRi (P : Pg) (op a b : Int) : Prop := (op = 15 → 0 ≤ a ∧ a < P 3000 0) ∧ (op = 20 ∨ op = 21 → (0 ≤ a ∧ a < P 3000 0) ∧ 0 ≤ b ∧ b < P 3006 a)
theorem mkS_f (hg : good P) (a0 : 0 ≤ a) (a1 : a < P 3000 0) (b0 : 0 ≤ b) (b1 : b < P 3006 a) : ∀ (n : Nat) (d : Int) (S : Rs), d + n = P 3000 0 → frS S (mkS P a (P 3007 a + b) n d S)
  | 0, _, _, _ => frS.rf
  | n + 1, d, S, h => by
    have h80 := hg.1.2.1.2.1
    unfold mkS
    refine frS.tr ?_ (mkS_f hg a0 a1 b0 b1 n (d + 1) _ (by omega))
    by_cases g : S.2.1 d = 1 ∧ cv P a d = true
    · rw [if_pos g]
      have := fnd_r hg a0 a1 b0 b1 (c := d) (by omega) g.2
      exact mkR_f (by omega) (by omega)
    · rw [if_neg g]; exact frS.rf
theorem stI_f (hg : good P) (h : okRi P op a b) : frS S (stI P op a b S) := by
  have h80 := hg.1.2.1.2.1
  have h10 := hg.1.1.2.1
  unfold stI
  by_cases g : op = 15
  · rw [if_pos g]
    have := h.1 g
    exact mkL_f (by omega) (by omega)
  rw [if_neg g]
  by_cases g : op = 20
  · rw [if_pos g]
    obtain ⟨q1, q2⟩ := h.2 (Or.inl g)
    have := hg.1.2.1.2.2 a q1.1 q1.2
    exact mkR_f (by omega) (by omega)
  rw [if_neg g]
  by_cases g : op = 21
  · rw [if_pos g]
    obtain ⟨q1, q2⟩ := h.2 (Or.inr g)
    have := hg.1.1.1
    exact mkS_f hg q1.1 q1.2 q2.1 q2.2 _ 0 S (by omega)
  · rw [if_neg g]; exact frS.rf
/-- the code that is gone through: of the methods D, instructions told right, and what they reach is within D and L -/
def okK (P K : Pg) (mt : Int → Int → Bool) (D L : Int → Prop) : Prop := (∀ m, 0 ≤ m → m < P 3001 0 → D m → (0 ≤ K 0 m ∧ K 0 m ≤ 120) ∧ ∀ i, 0 ≤ i → i < K 0 m → mt m i = true → okRi P (K 1 (m * 120 + i)) (K 2 (m * 120 + i)) (K 3 (m * 120 + i)) ∧ (K 1 (m * 120 + i) = 15 → L (K 2 (m * 120 + i))) ∧ (K 1 (m * 120 + i) = 20 → D (P 3007 (K 2 (m * 120 + i)) + K 3 (m * 120 + i))) ∧ (K 1 (m * 120 + i) = 21 → ∀ d, 0 ≤ d → d < P 3000 0 → L d → cv P (K 2 (m * 120 + i)) d = true → D (fnd P (P 3012 (P 3007 (K 2 (m * 120 + i)) + K 3 (m * 120 + i))) 10 d)))
def inS (D L : Int → Prop) (S : Rs) : Prop := (∀ m, S.1 m = 0 ∨ S.1 m = 1) ∧ (∀ c, S.2.1 c = 0 ∨ S.2.1 c = 1) ∧ (S.2.2 = 0 ∨ S.2.2 = 1) ∧ (∀ m, S.1 m = 1 → D m) ∧ ∀ c, S.2.1 c = 1 → L c
variable {D L : Int → Prop}
theorem inS.r (h : inS D L S) (hm : D m) : inS D L (mkR S m) := by
  unfold mkR
  by_cases g : S.1 m = 0
  · rw [if_pos g]
    refine ⟨fun k => ?_, h.2.1, Or.inr rfl, fun k q => ?_, h.2.2.2.2⟩
    · show i_up S.1 m 1 k = 0 ∨ i_up S.1 m 1 k = 1
      simp only [i_up]
      by_cases e : k = m
      · rw [if_pos e]; exact Or.inr rfl
      · rw [if_neg e]; exact h.1 k
    · have q : i_up S.1 m 1 k = 1 := q
      simp only [i_up] at q
      by_cases e : k = m
      · rw [e]; exact hm
      · rw [if_neg e] at q; exact h.2.2.2.1 k q
  · rw [if_neg g]; exact h
theorem inS.l (h : inS D L S) (hc : L c) : inS D L (mkL S c) := by
  unfold mkL
  by_cases g : S.2.1 c = 0
  · rw [if_pos g]
    refine ⟨h.1, fun k => ?_, Or.inr rfl, h.2.2.2.1, fun k q => ?_⟩
    · show i_up S.2.1 c 1 k = 0 ∨ i_up S.2.1 c 1 k = 1
      simp only [i_up]
      by_cases e : k = c
      · rw [if_pos e]; exact Or.inr rfl
      · rw [if_neg e]; exact h.2.1 k
    · have q : i_up S.2.1 c 1 k = 1 := q
      simp only [i_up] at q
      by_cases e : k = c
      · rw [e]; exact hc
      · rw [if_neg e] at q; exact h.2.2.2.2 k q
  · rw [if_neg g]; exact h
theorem inS.s {t : Int} (hD : ∀ d, 0 ≤ d → d < P 3000 0 → L d → cv P a d = true → D (fnd P (P 3012 t) 10 d)) : ∀ (n : Nat) (d : Int) (S : Rs), d + n = P 3000 0 → 0 ≤ d → inS D L S → inS D L (mkS P a t n d S)
  | 0, _, _, _, _, h => h
  | n + 1, d, S, hd, d0, h => by
    unfold mkS
    refine inS.s hD n (d + 1) _ (by omega) (by omega) ?_
    by_cases g : S.2.1 d = 1 ∧ cv P a d = true
    · rw [if_pos g]; exact h.r (hD d d0 (by omega) (h.2.2.2.2 d g.1) g.2)
    · rw [if_neg g]; exact h
theorem gI_f (hg : good P) (hK : okK P K mt D L) (m0 : 0 ≤ m) (m1 : m < P 3001 0) (hm : D m) : ∀ (n : Nat) (i : Int) (S : Rs), i + n = K 0 m → 0 ≤ i → inS D L S → frS S (gI P K mt m n i S) ∧ inS D L (gI P K mt m n i S)
  | 0, _, _, _, _, h => ⟨frS.rf, h⟩
  | n + 1, i, S, hi, i0, h => by
    unfold gI
    by_cases g : mt m i = true
    · rw [if_pos g]
      obtain ⟨k1, k2, k3, k4⟩ := (hK m m0 m1 hm).2 i i0 (by omega) g
      have f1 := stI_f (S := S) hg k1
      have n1 : inS D L (stI P (K 1 (m * 120 + i)) (K 2 (m * 120 + i)) (K 3 (m * 120 + i)) S) := by
        unfold stI
        by_cases g : K 1 (m * 120 + i) = 15
        · rw [if_pos g]; exact h.l (k2 g)
        rw [if_neg g]
        by_cases g : K 1 (m * 120 + i) = 20
        · rw [if_pos g]; exact h.r (k3 g)
        rw [if_neg g]
        by_cases g : K 1 (m * 120 + i) = 21
        · rw [if_pos g]
          have := hg.1.1.1
          exact inS.s (k4 g) _ 0 S (by omega) (by omega) h
        · rw [if_neg g]; exact h
      obtain ⟨f2, n2⟩ := gI_f hg hK m0 m1 hm n (i + 1) _ (by omega) (by omega) n1
      exact ⟨f1.tr f2, n2⟩
    · rw [if_neg g]
      exact gI_f hg hK m0 m1 hm n (i + 1) S (by omega) (by omega) h
theorem gM_f (hg : good P) (hK : okK P K mt D L) : ∀ (n : Nat) (m : Int) (S : Rs), m + n = P 3001 0 → 0 ≤ m → inS D L S → frS S (gM P K mt n m S) ∧ inS D L (gM P K mt n m S)
  | 0, _, _, _, _, h => ⟨frS.rf, h⟩
  | n + 1, m, S, hm, m0, h => by
    unfold gM
    by_cases g : S.1 m = 1
    · rw [if_pos g]
      have hD := h.2.2.2.1 m g
      have := (hK m m0 (by omega) hD).1
      obtain ⟨f1, n1⟩ := gI_f hg hK m0 (by omega) hD (K 0 m).toNat 0 S (by omega) (by omega) h
      obtain ⟨f2, n2⟩ := gM_f hg hK n (m + 1) _ (by omega) (by omega) n1
      exact ⟨f1.tr f2, n2⟩
    · rw [if_neg g]
      exact gM_f hg hK n (m + 1) S (by omega) (by omega) h
theorem rd1_f (hg : good P) (hK : okK P K mt D L) (h : inS D L S) : frS (S.1, S.2.1, 0) (rd1 P K mt S) ∧ inS D L (rd1 P K mt S) := by
  have := hg.1.2.1.1
  exact gM_f hg hK _ 0 _ (by omega) (by omega) ⟨h.1, h.2.1, Or.inl rfl, h.2.2.2⟩
/-- the rounds end -/
theorem rds_e (hg : good P) (hK : okK P K mt D L) : ∀ (n : Nat) (S : Rs), unM S + 1 < n → inS D L S → (rds P K mt n S).2.2 = 0
  | 0, S, h, _ => absurd h (by omega)
  | n + 1, S, h, hI => by
    unfold rds
    by_cases g : S.2.2 = 0
    · rw [if_pos g]; exact g
    · rw [if_neg g]
      obtain ⟨f, n1⟩ := rd1_f hg hK hI
      rcases f.2.2.2.2.2 with e | e
      · cases n with
        | zero => omega
        | succ k =>
          rw [e]
          unfold rds
          rw [if_pos rfl]
      · have : unM (S.1, S.2.1, 0) = unM S := rfl
        exact rds_e hg hK n _ (by omega) n1
theorem rds_f (hg : good P) (hK : okK P K mt D L) : ∀ (n : Nat) (S : Rs), inS D L S → inS D L (rds P K mt n S) ∧ (∀ m, S.1 m = 1 → (rds P K mt n S).1 m = 1) ∧ ((rds P K mt n S).2.2 = 0 → S.2.2 = 1 → rd1 P K mt (rds P K mt n S) = rds P K mt n S)
  | 0, S, h => ⟨h, fun _ q => q, fun q1 q2 => by unfold rds at q1; rw [q1] at q2; exact absurd q2 (by decide)⟩
  | n + 1, S, h => by
    unfold rds
    by_cases g : S.2.2 = 0
    · rw [if_pos g]
      exact ⟨h, fun _ q => q, fun _ q => by rw [g] at q; exact absurd q (by decide)⟩
    · rw [if_neg g]
      obtain ⟨f, n1⟩ := rd1_f hg hK h
      obtain ⟨r1, r2, r3⟩ := rds_f hg hK n _ n1
      refine ⟨r1, fun m q => r2 m (f.1 m q), fun q1 _ => ?_⟩
      rcases n1.2.2.1 with e | e
      · have q : rd1 P K mt S = (S.1, S.2.1, 0) := by
          rcases f.2.2.2.2.2 with z | z
          · exact z
          · rw [e] at z; exact absurd z.1 (by decide)
        have q2 : rds P K mt n (rd1 P K mt S) = rd1 P K mt S := by
          cases n with
          | zero => rfl
          | succ k =>
            unfold rds
            rw [if_pos e]
        rw [q2, q]
        have : rd1 P K mt (S.1, S.2.1, 0) = rd1 P K mt S := rfl
        rw [this, q]
      · exact r3 q1 e
end RCH
