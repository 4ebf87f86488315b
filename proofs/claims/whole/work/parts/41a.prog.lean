/-! programs: what the class and the reference have in their rows, as one thing -/
abbrev Pg : Type := Nat → Int → Int
/-- the class's program at the cell o -/
def CP (σ : j3_S) (o : Nat) (P : Pg) : Prop := σ.1 3000 o = P 3000 0 ∧ σ.1 3001 o = P 3001 0 ∧
  (∀ c, 0 ≤ c → c < P 3000 0 → (σ.2.2 3002 o c = P 3002 c ∧ σ.2.2 3003 o c = P 3003 c ∧ σ.2.2 3005 o c = P 3005 c ∧ σ.2.2 3006 o c = P 3006 c ∧ σ.2.2 3007 o c = P 3007 c) ∧
    ∀ f, 0 ≤ f → f < P 3005 c → σ.2.2 3008 o (c * 6 + f) = P 3008 (c * 6 + f) ∧ σ.2.2 3009 o (c * 6 + f) = P 3009 (c * 6 + f) ∧ σ.2.2 3010 o (c * 6 + f) = P 3010 (c * 6 + f)) ∧
  ∀ m, 0 ≤ m → m < P 3001 0 → (σ.2.2 3011 o m = P 3011 m ∧ σ.2.2 3012 o m = P 3012 m ∧ σ.2.2 3013 o m = P 3013 m ∧ σ.2.2 3014 o m = P 3014 m ∧ σ.2.2 3015 o m = P 3015 m ∧ σ.2.2 3017 o m = P 3017 m ∧ σ.2.2 0 (o + 17) m = P 0 m) ∧
    (∀ p, 0 ≤ p → p < P 3015 m → σ.2.2 3016 o (m * 3 + p) = P 3016 (m * 3 + p)) ∧
    ∀ i, 0 ≤ i → i < P 0 m → σ.2.2 1 (o + 17) (m * 120 + i) = P 1 (m * 120 + i) ∧ σ.2.2 2 (o + 17) (m * 120 + i) = P 2 (m * 120 + i) ∧ σ.2.2 3 (o + 17) (m * 120 + i) = P 3 (m * 120 + i)
/-- the reference's program in the slot s -/
def RP (σ : j3_S) (s : Int) (P : Pg) : Prop := σ.2.2 10009 121 s = P 3000 0 ∧ σ.2.2 10018 121 s = P 3001 0 ∧
  (∀ c, 0 ≤ c → c < P 3000 0 → (σ.2.2 10010 121 (10 * s + c) = P 3002 c ∧ σ.2.2 10011 121 (10 * s + c) = P 3003 c ∧ σ.2.2 10012 121 (10 * s + c) = P 3005 c ∧ σ.2.2 10014 121 (10 * s + c) = P 3006 c ∧ σ.2.2 10013 121 (10 * s + c) = P 3007 c) ∧
    ∀ f, 0 ≤ f → f < P 3005 c → σ.2.2 10015 121 (60 * s + 6 * c + f) = P 3008 (c * 6 + f) ∧ σ.2.2 10016 121 (60 * s + 6 * c + f) = P 3009 (c * 6 + f) ∧ σ.2.2 10017 121 (60 * s + 6 * c + f) = P 3010 (c * 6 + f)) ∧
  ∀ m, 0 ≤ m → m < P 3001 0 → (σ.2.2 10019 121 (80 * s + m) = P 3011 m ∧ σ.2.2 10020 121 (80 * s + m) = P 3012 m ∧ σ.2.2 10021 121 (80 * s + m) = P 3013 m ∧ σ.2.2 10022 121 (80 * s + m) = P 3014 m ∧ σ.2.2 10023 121 (80 * s + m) = P 3015 m ∧ σ.2.2 10025 121 (80 * s + m) = P 3017 m ∧ σ.2.2 10026 121 (80 * s + m) = P 0 m) ∧
    (∀ p, 0 ≤ p → p < P 3015 m → σ.2.2 10024 121 (3 * (80 * s + m) + p) = P 3016 (m * 3 + p)) ∧
    ∀ i, 0 ≤ i → i < P 0 m → σ.2.2 10027 121 (9600 * s + 120 * m + i) = P 1 (m * 120 + i) ∧ σ.2.2 10028 121 (9600 * s + 120 * m + i) = P 2 (m * 120 + i) ∧ σ.2.2 10029 121 (9600 * s + 120 * m + i) = P 3 (m * 120 + i)
/-- the classes' chain -/
def WFs (P : Pg) : Prop := 1 ≤ P 3000 0 ∧ P 3000 0 ≤ 10 ∧ ∀ c, 0 ≤ c → c < P 3000 0 → -1 ≤ P 3003 c ∧ P 3003 c < c
/-- the methods of classes -/
def WFm (P : Pg) : Prop := 0 ≤ P 3001 0 ∧ P 3001 0 ≤ 80 ∧ ∀ c, 0 ≤ c → c < P 3000 0 → 0 ≤ P 3006 c ∧ P 3006 c ≤ 8 ∧ 0 ≤ P 3007 c ∧ P 3007 c + P 3006 c ≤ P 3001 0
def b2i (b : Bool) : Int := bif b then 1 else 0
def cov (P : Pg) (c : Int) : Nat → Int → Bool
  | 0, _ => false
  | n + 1, d => if d < 0 then false else if d = c then true else cov P c n (P 3003 d)
section PROG
variable {d : Nat} {Q : j3_P} {σ : j3_S} {o : Nat} {P : Pg} {s : Int}
theorem l48 {c b : Int} (hC : CP σ o P) (hs : WFs P) : ∀ (n : Nat) (j x : Int), j + n = 10 → 0 ≤ j → -1 ≤ x → x < P 3000 0 → T48 d Q 4 [wO 3 o, wI c, wI b, wI x, wI j] [] σ = Q (some (wI (b2i (cov P c n x)))) σ
  | 0, j, x, hj, h0, h1, h2 => by
    rw [b48_4, if_neg (by omega)]
    simp [cov, b2i]
  | n + 1, j, x, hj, h0, h1, h2 => by
    rw [b48_4, if_pos (by omega)]
    by_cases g : x < 0
    · simp [cov, b2i, g]
    · by_cases g2 : x = c
      · subst g2
        simp [cov, b2i, g]
      · have hx := hs.2.2 x (by omega) h2
        have hn := hs.2.1
        rw [if_neg g, if_neg g2, (hC.2.2.1 x (by omega) h2).1.2.1, wr_id (by omega) (by omega), l48 hC hs n (j + 1) (P 3003 x) (by omega) (by omega) (by omega) (by omega)]
        simp [cov, g, g2, show 0 ≤ x by omega, show x < 10 by omega]
theorem s48 {c x : Int} (hC : CP σ o P) (hs : WFs P) (h1 : -1 ≤ x) (h2 : x < P 3000 0) : j3_tc false (d + 1) 48 [wO 3 o, wI c, wI x] σ Q = Q (some (wI (b2i (cov P c 10 x)))) σ := by
  rw [e48, b48_0]
  exact l48 hC hs 10 0 x rfl (by omega) h1 h2
theorem l170 {c b : Int} (hR : RP σ s P) (hs : WFs P) (s0 : 0 ≤ s) (s2 : s ≤ 2) (hc : 0 ≤ c) : ∀ (n : Nat) (x : Int), -1 ≤ x → x < P 3000 0 → x < n → T170 d Q 2 [wO 10 121, wI s, wI c, wI b, wI x] [] σ = Q (some (wI (b2i (cov P c n x)))) σ
  | 0, x, h1, h2, h3 => by
    rw [b170_2, if_pos (by omega), b170_17, if_neg (by omega)]
    simp [cov, b2i]
  | n + 1, x, h1, h2, h3 => by
    rw [b170_2]
    by_cases g : x < 0
    · rw [if_pos g, b170_17, if_neg (by omega)]
      simp [cov, b2i, g]
    · rw [if_neg g]
      by_cases g2 : x = c
      · rw [if_pos g2, b170_17, if_pos g2]
        simp [cov, b2i, g2, show ¬ c < 0 by omega]
      · have hx := hs.2.2 x (by omega) h2
        have hn := hs.2.1
        simp (disch := omega) only [wr_id]
        rw [if_neg g2, (hR.2.2.1 x (by omega) h2).1.2.1, l170 hR hs s0 s2 hc n (P 3003 x) (by omega) (by omega) (by omega)]
        simp [cov, g, g2, show 0 ≤ 10 * s + x by omega, show 10 * s + x < 30 by omega]
theorem s170 {c x : Int} (hR : RP σ s P) (hs : WFs P) (s0 : 0 ≤ s) (s2 : s ≤ 2) (hc : 0 ≤ c) (h1 : -1 ≤ x) (h2 : x < P 3000 0) : j3_tc true (d + 1) 170 [wO 10 121, wI s, wI c, wI x] σ Q = Q (some (wI (b2i (cov P c 10 x)))) σ := by
  rw [e170, b170_0]
  have := hs.2.1
  exact l170 hR hs s0 s2 hc 10 x h1 h2 (by omega)
/-- the method of that name in the class c, from k on -/
def nmd (P : Pg) (c nm : Int) : Nat → Int → Int
  | 0, _ => -1
  | n + 1, k => if k < P 3006 c then (if P 3012 (P 3007 c + k) = nm then P 3007 c + k else nmd P c nm n (k + 1)) else -1
theorem nmd_ge (P : Pg) {c nm : Int} (h : 0 ≤ P 3007 c) : ∀ (n : Nat) (k : Int), 0 ≤ k → -1 ≤ nmd P c nm n k ∧ (¬ nmd P c nm n k = -1 → P 3007 c + k ≤ nmd P c nm n k ∧ nmd P c nm n k < P 3007 c + P 3006 c ∧ P 3012 (nmd P c nm n k) = nm)
  | 0, k, h0 => by simp [nmd]
  | n + 1, k, h0 => by
    simp only [nmd]
    split
    · split
      · exact ⟨by omega, fun _ => ⟨by omega, by omega, by assumption⟩⟩
      · obtain ⟨a, b⟩ := nmd_ge P (c := c) (nm := nm) h n (k + 1) (by omega)
        exact ⟨a, fun q => by
          obtain ⟨b1, b2, b3⟩ := b q
          exact ⟨by omega, b2, b3⟩⟩
    · simp
def fnd (P : Pg) (nm : Int) : Nat → Int → Int
  | 0, _ => -1
  | n + 1, c => if c < 0 then -1 else if nmd P c nm 9 0 = -1 then fnd P nm n (P 3003 c) else nmd P c nm 9 0
theorem l50 {c nm : Int} (hC : CP σ o P) (hs : WFs P) (hm : WFm P) (h1 : 0 ≤ c) (h2 : c < P 3000 0) : ∀ (n : Nat) (k : Int), 0 ≤ k → k + n = 9 → T50 d Q 7 [wO 3 o, wI c, wI nm, wI (P 3007 c), wI k] [] σ = Q (some (wI (nmd P c nm n k))) σ
  | 0, k, h0, hk => by
    obtain ⟨m1, m2, m3⟩ := hm
    have := m3 c h1 h2
    have := hs.2.1
    rw [b50_7, (hC.2.2.1 c h1 h2).1.2.2.2.1, if_neg (by omega)]
    simp [nmd, h1, show c < 10 by omega]
  | n + 1, k, h0, hk => by
    obtain ⟨m1, m2, m3⟩ := id hm
    have := m3 c h1 h2
    have := hs.2.1
    rw [b50_7, (hC.2.2.1 c h1 h2).1.2.2.2.1]
    by_cases g : k < P 3006 c
    · rw [if_pos g]
      simp (disch := omega) only [wr_id]
      rw [(hC.2.2.2 (P 3007 c + k) (by omega) (by omega)).1.2.1, l50 hC hs hm h1 h2 n (k + 1) (by omega) (by omega)]
      by_cases g2 : P 3012 (P 3007 c + k) = nm
      · simp [nmd, g, g2, h1, show c < 10 by omega, show 0 ≤ P 3007 c + k by omega, show P 3007 c + k < 80 by omega]
      · simp [nmd, g, g2, h1, show c < 10 by omega, show 0 ≤ P 3007 c + k by omega, show P 3007 c + k < 80 by omega]
    · rw [if_neg g]
      simp [nmd, g, h1, show c < 10 by omega]
theorem s50 {c nm : Int} (hC : CP σ o P) (hs : WFs P) (hm : WFm P) (h1 : 0 ≤ c) (h2 : c < P 3000 0) : j3_tc false (d + 1) 50 [wO 3 o, wI c, wI nm] σ Q = Q (some (wI (nmd P c nm 9 0))) σ := by
  have := hs.2.1
  rw [e50, b50_0, (hC.2.2.1 c h1 h2).1.2.2.2.2, l50 hC hs hm h1 h2 9 0 (by omega) (by omega)]
  simp [h1, show c < 10 by omega]
theorem l49 {c t : Int} (hC : CP σ o P) (hs : WFs P) (hm : WFm P) (h1 : 0 ≤ t) (h2 : t < P 3001 0) : ∀ (n : Nat) (j x : Int) (w : j3_W), j + n = 10 → 0 ≤ j → -1 ≤ x → x < P 3000 0 → T49 (d + 1) Q 4 [wO 3 o, wI c, wI t, wI x, wI j, w] [] σ = Q (some (wI (fnd P (P 3012 t) n x))) σ
  | 0, j, x, w, hj, h0, g1, g2 => by
    rw [b49_4, if_neg (by omega)]
    simp [fnd]
  | n + 1, j, x, w, hj, h0, g1, g2 => by
    obtain ⟨m1, m2, m3⟩ := id hm
    rw [b49_4, if_pos (by omega)]
    by_cases g : x < 0
    · simp [fnd, g]
    · have hx := hs.2.2 x (by omega) g2
      have hn := hs.2.1
      rw [if_neg g, (hC.2.2.2 t h1 h2).1.2.1, s50 hC hs hm (by omega) g2]
      simp only [Option.toList_some, List.cons_append, List.nil_append]
      rw [b49_16, (hC.2.2.1 x (by omega) g2).1.2.1, wr_id (by omega) (by omega), l49 hC hs hm h1 h2 n (j + 1) (P 3003 x) _ (by omega) (by omega) (by omega) (by omega)]
      by_cases q : nmd P x (P 3012 t) 9 0 = -1
      · simp [fnd, g, q, h1, show t < 80 by omega, show 0 ≤ x by omega, show x < 10 by omega]
      · simp [fnd, g, q, h1, show t < 80 by omega]
theorem s49 {c t : Int} (hC : CP σ o P) (hs : WFs P) (hm : WFm P) (h1 : 0 ≤ t) (h2 : t < P 3001 0) (g1 : -1 ≤ c) (g2 : c < P 3000 0) : j3_tc false (d + 2) 49 [wO 3 o, wI c, wI t] σ Q = Q (some (wI (fnd P (P 3012 t) 10 c))) σ := by
  rw [e49, b49_0]
  exact l49 hC hs hm h1 h2 10 0 c _ rfl (by omega) g1 g2
theorem l192a {c nm y : Int} (hR : RP σ s P) (hs : WFs P) (hm : WFm P) (s0 : 0 ≤ s) (s2 : s ≤ 2) (h1 : 0 ≤ y) (h2 : y < P 3000 0) : ∀ (n : Nat) (k : Int), 0 ≤ k → k + n = 9 → T192 d Q 6 [wO 10 121, wI s, wI c, wI nm, wI y, wI k] [] σ = if nmd P y nm n k = -1 then T192 d Q 2 [wO 10 121, wI s, wI c, wI nm, wI (P 3003 y), wI (max k (P 3006 y))] [] σ else Q (some (wI (nmd P y nm n k))) σ
  | 0, k, h0, hk => by
    have hm3 := hm.2.2 y h1 h2
    have hn := hs.2.1
    rw [b192_6]
    simp (disch := omega) only [wr_id]
    obtain ⟨⟨-, a2, -, a4, a5⟩, -⟩ := hR.2.2.1 y h1 h2
    rw [a2, a4, a5, if_neg (by omega)]
    simp [nmd, show 0 ≤ 10 * s + y by omega, show 10 * s + y < 30 by omega, show max k (P 3006 y) = k by omega]
  | n + 1, k, h0, hk => by
    have hm3 := hm.2.2 y h1 h2
    have hm2 := hm.2.1
    have hn := hs.2.1
    rw [b192_6]
    simp (disch := omega) only [wr_id]
    obtain ⟨⟨-, a2, -, a4, a5⟩, -⟩ := hR.2.2.1 y h1 h2
    rw [a2, a4, a5]
    by_cases g : k < P 3006 y
    · rw [if_pos g]
      simp (disch := omega) only [wr_id]
      rw [show 80 * s + P 3007 y + k = 80 * s + (P 3007 y + k) by omega, (hR.2.2.2 (P 3007 y + k) (by omega) (by omega)).1.2.1, l192a hR hs hm s0 s2 h1 h2 n (k + 1) (by omega) (by omega)]
      have hg := nmd_ge P (c := y) (nm := nm) hm3.2.2.1
      by_cases g2 : P 3012 (P 3007 y + k) = nm
      · simp [nmd, g, g2, show 0 ≤ 10 * s + y by omega, show 10 * s + y < 30 by omega, show 0 ≤ 80 * s + (P 3007 y + k) by omega, show 80 * s + (P 3007 y + k) < 240 by omega, show ¬ P 3007 y + k = -1 by omega]
      · simp [nmd, g, g2, show 0 ≤ 10 * s + y by omega, show 10 * s + y < 30 by omega, show 0 ≤ 80 * s + (P 3007 y + k) by omega, show 80 * s + (P 3007 y + k) < 240 by omega, show max (k + 1) (P 3006 y) = max k (P 3006 y) by omega]
    · rw [if_neg g]
      simp [nmd, g, show 0 ≤ 10 * s + y by omega, show 10 * s + y < 30 by omega, show max k (P 3006 y) = k by omega]
theorem l192 {c nm : Int} (hR : RP σ s P) (hs : WFs P) (hm : WFm P) (s0 : 0 ≤ s) (s2 : s ≤ 2) : ∀ (n : Nat) (y : Int) (w : j3_W), -1 ≤ y → y < P 3000 0 → y < n → T192 d Q 2 [wO 10 121, wI s, wI c, wI nm, wI y, w] [] σ = Q (some (wI (fnd P nm n y))) σ
  | 0, y, w, h1, h2, h3 => by
    rw [b192_2, if_pos (by omega)]
    simp [fnd]
  | n + 1, y, w, h1, h2, h3 => by
    rw [b192_2]
    by_cases g : y < 0
    · rw [if_pos g]
      simp [fnd, g]
    · have hx := hs.2.2 y (by omega) h2
      rw [if_neg g, l192a hR hs hm s0 s2 (by omega) h2 9 0 (by omega) (by omega)]
      by_cases q : nmd P y nm 9 0 = -1
      · rw [if_pos q, l192 hR hs hm s0 s2 n (P 3003 y) _ (by omega) (by omega) (by omega)]
        simp [fnd, g, q]
      · rw [if_neg q]
        simp [fnd, g, q]
theorem s192 {c nm : Int} (hR : RP σ s P) (hs : WFs P) (hm : WFm P) (s0 : 0 ≤ s) (s2 : s ≤ 2) (h1 : -1 ≤ c) (h2 : c < P 3000 0) : j3_tc true (d + 1) 192 [wO 10 121, wI s, wI c, wI nm] σ Q = Q (some (wI (fnd P nm 10 c))) σ := by
  have := hs.2.1
  rw [e192, b192_0]
  exact l192 hR hs hm s0 s2 10 c _ h1 h2 (by omega)
end PROG
