/-! covering and subtypes -/
section CV
variable {P : Pg}
theorem cov_f {c : Int} (hs : WFs P) : ∀ (n n' : Nat) (d : Int), d < P 3000 0 → d < n → d < n' → cov P c n d = cov P c n' d
  | 0, 0, d, _, _, _ => rfl
  | 0, n' + 1, d, _, h, _ => by simp [cov, show d < 0 by omega]
  | n + 1, 0, d, _, _, h => by simp [cov, show d < 0 by omega]
  | n + 1, n' + 1, d, h0, h1, h2 => by
    simp only [cov]
    by_cases g : d < 0
    · rw [if_pos g, if_pos g]
    · have := hs.2.2 d (by omega) h0
      rw [if_neg g, if_neg g, cov_f hs n n' (P 3003 d) (by omega) (by omega) (by omega)]
/-- c covers d -/
def cv (P : Pg) (c d : Int) : Bool := cov P c 10 d
theorem cv_n {c d : Int} (h : d < 0) : cv P c d = false := by simp [cv, cov, h]
theorem cv_s {c d : Int} (hs : WFs P) (h0 : 0 ≤ d) (h1 : d < P 3000 0) : cv P c d = (decide (d = c) || cv P c (P 3003 d)) := by
  have hn := hs.2.1
  have := hs.2.2 d h0 h1
  have e : cv P c d = cov P c 11 d := cov_f hs 10 11 d h1 (by omega) (by omega)
  rw [e]
  show (if d < 0 then false else if d = c then true else cov P c 10 (P 3003 d)) = _
  rw [if_neg (by omega)]
  by_cases g : d = c
  · simp [g]
  · rw [if_neg g]
    simp [g, cv]
theorem cv_ind (hs : WFs P) {M : Int → Prop} (h : ∀ d, 0 ≤ d → d < P 3000 0 → (0 ≤ P 3003 d → M (P 3003 d)) → M d) : ∀ d, 0 ≤ d → d < P 3000 0 → M d := by
  have key : ∀ (n : Nat) (d : Int), 0 ≤ d → d < P 3000 0 → d < n → M d := by
    intro n
    induction n with
    | zero => intro d d0 _ d2; exact absurd d2 (by omega)
    | succ n ih =>
      intro d d0 d1 d2
      have := hs.2.2 d d0 d1
      exact h d d0 d1 (fun g => ih _ g (by omega) (by omega))
  intro d d0 d1
  exact key (d + 1).toNat d d0 d1 (by omega)
theorem cv_le (hs : WFs P) {c : Int} : ∀ d, 0 ≤ d → d < P 3000 0 → cv P c d = true → 0 ≤ c ∧ c ≤ d := by
  refine cv_ind hs (fun d d0 d1 ih h => ?_)
  have hd := hs.2.2 d d0 d1
  rw [cv_s hs d0 d1, Bool.or_eq_true, decide_eq_true_eq] at h
  rcases h with h | h
  · omega
  · by_cases g : 0 ≤ P 3003 d
    · have := ih g h
      omega
    · rw [cv_n (by omega)] at h
      cases h
theorem cv_r (hs : WFs P) {c : Int} (h0 : 0 ≤ c) (h1 : c < P 3000 0) : cv P c c = true := by rw [cv_s hs h0 h1]; simp
theorem cv_t (hs : WFs P) {c b : Int} : ∀ a, 0 ≤ a → a < P 3000 0 → cv P b a = true → cv P c b = true → cv P c a = true := by
  refine cv_ind hs (fun a a0 a1 ih h h' => ?_)
  have hd := hs.2.2 a a0 a1
  rw [cv_s hs a0 a1, Bool.or_eq_true, decide_eq_true_eq] at h
  rcases h with h | h
  · rw [h]; exact h'
  · by_cases g : 0 ≤ P 3003 a
    · rw [cv_s hs a0 a1, ih g h h']
      simp
    · rw [cv_n (by omega)] at h
      cases h
/-- covering classes of one class: one covers the other -/
theorem cv_l (hs : WFs P) {c b : Int} : ∀ a, 0 ≤ a → a < P 3000 0 → cv P b a = true → cv P c a = true → cv P c b = true ∨ cv P b c = true := by
  refine cv_ind hs (fun a a0 a1 ih h h' => ?_)
  have hd := hs.2.2 a a0 a1
  have h1 := h
  have h2 := h'
  rw [cv_s hs a0 a1, Bool.or_eq_true, decide_eq_true_eq] at h1 h2
  rcases h1 with h1 | h1
  · rw [← h1]; exact Or.inl h'
  · rcases h2 with h2 | h2
    · rw [← h2]; exact Or.inr h
    · by_cases g : 0 ≤ P 3003 a
      · exact ih g h1 h2
      · rw [cv_n (by omega)] at h1
        cases h1
theorem cv_up (hs : WFs P) {c d : Int} (h0 : 0 ≤ d) (h1 : d < P 3000 0) (h : cv P c d = true) (g : ¬ d = c) : 0 ≤ P 3003 d ∧ cv P c (P 3003 d) = true := by
  rw [cv_s hs h0 h1] at h
  simp [g] at h
  by_cases q : 0 ≤ P 3003 d
  · exact ⟨q, h⟩
  · rw [cv_n (by omega)] at h
    cases h
theorem mtu_p (hs : WFs P) {y : Int} (y0 : 0 ≤ y) (y1 : y < P 3000 0) : ∀ (n : Nat) (c : Int), c < P 3000 0 → c < n → (mtu P y n c = 3 ∧ ∀ z, cv P z y = true → cv P z c = true → False) ∨ (4 ≤ mtu P y n c ∧ cv P (mtu P y n c - 4) y = true ∧ cv P (mtu P y n c - 4) c = true ∧ ∀ z, cv P z y = true → cv P z c = true → cv P z (mtu P y n c - 4) = true)
  | 0, c, h, hn => Or.inl ⟨rfl, fun z _ h2 => by rw [cv_n (by omega)] at h2; cases h2⟩
  | n + 1, c, h, hn => by
    simp only [mtu]
    by_cases g : c < 0
    · rw [if_pos g]
      exact Or.inl ⟨rfl, fun z _ h2 => by rw [cv_n g] at h2; cases h2⟩
    · rw [if_neg g]
      have hc := hs.2.2 c (by omega) h
      by_cases g2 : cov P c 10 y = true
      · rw [if_pos g2, show 4 + c - 4 = c by omega]
        exact Or.inr ⟨by omega, g2, cv_r hs (by omega) h, fun z _ h2 => h2⟩
      · rw [if_neg g2]
        have up : ∀ z, cv P z y = true → cv P z c = true → cv P z (P 3003 c) = true := by
          intro z z1 z2
          refine (cv_up hs (by omega) h z2 (fun q => ?_)).2
          subst q
          exact g2 z1
        rcases mtu_p hs y0 y1 n (P 3003 c) (by omega) (by omega) with q | q
        · exact Or.inl ⟨q.1, fun z z1 z2 => q.2 z z1 (up z z1 z2)⟩
        · refine Or.inr ⟨q.1, q.2.1, ?_, fun z z1 z2 => q.2.2.2 z z1 (up z z1 z2)⟩
          rw [cv_s hs (by omega) h, q.2.2.1]
          simp
/-- t is no wider than u -/
def sbt (P : Pg) (t u : Int) : Prop := u = t ∨ u = 0 ∨ (t = 2 ∧ 2 ≤ u) ∨ (u = 3 ∧ 2 ≤ t) ∨ (4 ≤ t ∧ 4 ≤ u ∧ cv P (u - 4) (t - 4) = true)
theorem sbt.rf {t : Int} : sbt P t t := Or.inl rfl
theorem sbt.tr (hs : WFs P) {t u v : Int} (ht : tyo P t) (h : sbt P t u) (h' : sbt P u v) : sbt P t v := by
  rcases h' with rfl | rfl | ⟨rfl, h'⟩ | ⟨rfl, h'⟩ | ⟨a1, a2, a3⟩
  · exact h
  · exact Or.inr (Or.inl rfl)
  · rcases h with h | h | h | h | h
    · subst h
      exact Or.inr (Or.inr (Or.inl ⟨rfl, h'⟩))
    · omega
    · exact Or.inr (Or.inr (Or.inl ⟨h.1, h'⟩))
    · omega
    · omega
  · rcases h with h | h | h | h | h
    · subst h
      exact Or.inr (Or.inr (Or.inr (Or.inl ⟨rfl, h'⟩)))
    · omega
    · exact Or.inr (Or.inr (Or.inl ⟨h.1, by omega⟩))
    · exact Or.inr (Or.inr (Or.inr (Or.inl ⟨rfl, h.2⟩)))
    · exact Or.inr (Or.inr (Or.inr (Or.inl ⟨rfl, by omega⟩)))
  · rcases h with h | h | h | h | h
    · subst h
      exact Or.inr (Or.inr (Or.inr (Or.inr ⟨a1, a2, a3⟩)))
    · omega
    · exact Or.inr (Or.inr (Or.inl ⟨h.1, by omega⟩))
    · omega
    · exact Or.inr (Or.inr (Or.inr (Or.inr ⟨h.1, a2, cv_t hs _ (by omega) (by have := ht.2; omega) h.2.2 a3⟩)))
theorem sbt_mt (hs : WFs P) {x y : Int} (hx : tyo P x) (hy : tyo P y) : sbt P x (mt P x y) ∧ sbt P y (mt P x y) ∧ ∀ z, sbt P x z → sbt P y z → sbt P (mt P x y) z := by
  obtain ⟨x0, x1⟩ := hx
  obtain ⟨y0, y1⟩ := hy
  have hn := hs.2.1
  unfold mt
  by_cases g : x = y
  · subst g
    rw [if_pos rfl]
    exact ⟨sbt.rf, sbt.rf, fun z h _ => h⟩
  rw [if_neg g]
  by_cases g1 : x ≤ 1 ∨ y ≤ 1
  · rw [if_pos g1]
    refine ⟨Or.inr (Or.inl rfl), Or.inr (Or.inl rfl), fun z h h' => ?_⟩
    unfold sbt at h h' ⊢
    omega
  rw [if_neg g1]
  by_cases g2 : x = 2
  · rw [if_pos g2]
    exact ⟨Or.inr (Or.inr (Or.inl ⟨g2, by omega⟩)), sbt.rf, fun z _ h => h⟩
  rw [if_neg g2]
  by_cases g3 : y = 2
  · rw [if_pos g3]
    exact ⟨sbt.rf, Or.inr (Or.inr (Or.inl ⟨g3, by omega⟩)), fun z h _ => h⟩
  rw [if_neg g3]
  by_cases g4 : x = 3 ∨ y = 3
  · rw [if_pos g4]
    refine ⟨Or.inr (Or.inr (Or.inr (Or.inl ⟨rfl, by omega⟩))), Or.inr (Or.inr (Or.inr (Or.inl ⟨rfl, by omega⟩))), fun z h h' => ?_⟩
    unfold sbt at h h' ⊢
    omega
  rw [if_neg g4]
  rcases mtu_p hs (y := y - 4) (by omega) (by omega) 10 (x - 4) (by omega) (by omega) with q | q
  · rw [q.1]
    refine ⟨Or.inr (Or.inr (Or.inr (Or.inl ⟨rfl, by omega⟩))), Or.inr (Or.inr (Or.inr (Or.inl ⟨rfl, by omega⟩))), fun z h h' => ?_⟩
    have nz : ¬ (4 ≤ z ∧ cv P (z - 4) (y - 4) = true ∧ cv P (z - 4) (x - 4) = true) := fun w => q.2 _ w.2.1 w.2.2
    rcases h with h | h | h | h | h
    · subst h
      rcases h' with h' | h' | h' | h' | h'
      · exact absurd h' g
      · exact Or.inr (Or.inl h')
      · omega
      · omega
      · exact absurd ⟨h'.2.1, h'.2.2, cv_r hs (by omega) (by omega)⟩ nz
    · exact Or.inr (Or.inl h)
    · omega
    · exact Or.inl h.1
    · rcases h' with h' | h' | h' | h' | h'
      · subst h'
        exact absurd ⟨h.2.1, cv_r hs (by omega) (by omega), h.2.2⟩ nz
      · exact Or.inr (Or.inl h')
      · omega
      · omega
      · exact absurd ⟨h'.2.1, h'.2.2, h.2.2⟩ nz
  · generalize mtu P (y - 4) 10 (x - 4) = w at q ⊢
    obtain ⟨w0, w1, w2, w3⟩ := q
    refine ⟨Or.inr (Or.inr (Or.inr (Or.inr ⟨by omega, w0, w2⟩))), Or.inr (Or.inr (Or.inr (Or.inr ⟨by omega, w0, w1⟩))), fun z h h' => ?_⟩
    have fin : 4 ≤ z → cv P (z - 4) (y - 4) = true → cv P (z - 4) (x - 4) = true → sbt P w z := fun z0 z1 z2 => Or.inr (Or.inr (Or.inr (Or.inr ⟨w0, z0, w3 _ z1 z2⟩)))
    rcases h with h | h | h | h | h
    · subst h
      rcases h' with h' | h' | h' | h' | h'
      · exact absurd h' g
      · exact Or.inr (Or.inl h')
      · omega
      · omega
      · exact fin h'.2.1 h'.2.2 (cv_r hs (by omega) (by omega))
    · exact Or.inr (Or.inl h)
    · omega
    · exact Or.inr (Or.inr (Or.inr (Or.inl ⟨h.1, by omega⟩)))
    · rcases h' with h' | h' | h' | h' | h'
      · subst h'
        exact fin h.2.1 (cv_r hs (by omega) (by omega)) h.2.2
      · exact Or.inr (Or.inl h')
      · omega
      · omega
      · exact fin h'.2.1 h'.2.2 h.2.2
theorem sbt_ftt (hs : WFs P) {t u w : Int} (ht : tyo P t) (hu : 1 ≤ u) (hw : wno P w) (h : sbt P t u) (hf : ftt P u w = true) : ftt P t w = true := by
  unfold ftt at hf ⊢
  rcases hw with rfl | rfl | rfl | ⟨w0, w1⟩
  · simp
  · simp only [show ¬ (-2 : Int) = -1 by decide, if_false, if_true] at hf ⊢
    simp at hf ⊢
    unfold sbt at h
    omega
  · simp only [show ¬ (1 : Int) = -1 by decide, show ¬ (1 : Int) = -2 by decide, if_false, if_true] at hf ⊢
    simp at hf ⊢
    unfold sbt at h
    omega
  · simp only [show ¬ w = -1 by omega, show ¬ w = -2 by omega, show ¬ w = 1 by omega, if_false] at hf ⊢
    simp only [Bool.or_eq_true, decide_eq_true_eq, Bool.and_eq_true] at hf ⊢
    have ht2 := ht.2
    rcases h with h | h | h | h | h
    · rw [← h]; exact hf
    · omega
    · exact Or.inl h.1
    · omega
    · rcases hf with hf | hf
      · omega
      · exact Or.inr ⟨h.1, cv_t hs (c := w - 4) (b := u - 4) (t - 4) (by omega) (by omega) h.2.2 hf.2⟩
end CV
