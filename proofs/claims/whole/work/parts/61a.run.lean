/-! the run: the machine that both run to its end; both loops -/
def FrO (P : Pg) (M : Mc) : Prop := 1 ≤ M.dp ∧ M.dp ≤ 40 ∧ ∀ k, 0 ≤ k → k < M.dp → 0 ≤ M.me k ∧ M.me k < P 3001 0 ∧ 0 ≤ M.pc k ∧ M.pc k < P 0 (M.me k)
def MI (P : Pg) (T : Int → Fl) (M : Mc) : Prop := (M.en = -1 → TyM P T M) ∧ (M.en = 1 → FrO P M) ∧ (M.en = -1 ∨ M.en = 0 ∨ M.en = 1)
def rnM (P : Pg) : Nat → Mc → Mc
  | 0, M => M
  | n + 1, M => if M.en = -1 then rnM P n (stp P M) else M
def rnC (P : Pg) : Nat → Mc → Int → Int
  | 0, _, c => c
  | n + 1, M, c => if M.en = -1 then rnC P n (stp P M) (c + 1) else c
section RUN
variable {σ σ' τ : j3_S} {P : Pg} {T : Int → Fl} {M : Mc} {d o : Nat} {Q : j3_P} {k i j v s : Int}
theorem ite_p {p : Prop} [Decidable p] {x y : Mc} {R : Mc → Prop} (h1 : R x) (h2 : R y) : R (if p then x else y) := by
  by_cases g : p
  · rw [if_pos g]; exact h1
  · rw [if_neg g]; exact h2
def enP (M N : Mc) : Prop := N.en = M.en ∨ N.en = 0 ∨ (N.en = 1 ∧ N.1 = M.1)
def ouP (M N : Mc) : Prop := N.ou = M.ou ∨ N.ou = M.ou + 1
theorem stp_en : enP M (stp P M) := by
  unfold stp stO
  repeat' refine ite_p (R := enP M) ?_ ?_
  all_goals first | exact Or.inl rfl | exact Or.inr (Or.inl rfl) | exact Or.inr (Or.inr ⟨rfl, rfl⟩)
theorem stp_ou : ouP M (stp P M) := by
  unfold stp stO
  repeat' refine ite_p (R := ouP M) ?_ ?_
  all_goals first | exact Or.inl rfl | exact Or.inr rfl
theorem TyM.fo (h : TyM P T M) : FrO P M := by
  refine ⟨h.1.1, h.1.2, fun k k0 k1 => ?_⟩
  by_cases g : k = M.dp - 1
  · subst g
    have := h.2.2.1.1
    exact ⟨this.1, this.2.1, this.2.2.1, this.2.2.2.1⟩
  · have := (h.2.2.2 k k0 (by omega)).2.1.1
    exact ⟨this.1, this.2.1, this.2.2.1, this.2.2.2.1⟩
theorem MI.st (hg : good P) (hT : typed P T) (h : MI P T M) (he : M.en = -1) : MI P T (stp P M) := by
  have ht := h.1 he
  refine ⟨fun q => ty_step hg hT ht q, fun q => ?_, ?_⟩
  · rcases stp_en (P := P) (M := M) with e | e | e
    · rw [e, he] at q; exact absurd q (by decide)
    · rw [e] at q; exact absurd q (by decide)
    · have := ht.fo
      unfold FrO at this ⊢
      rw [show (stp P M).dp = M.dp from congrArg (·.1) e.2, show (stp P M).me = M.me from congrArg (·.2.1) e.2, show (stp P M).pc = M.pc from congrArg (·.2.2.1) e.2]
      exact this
  · rcases stp_en (P := P) (M := M) with e | e | e
    · left; rw [e]; exact he
    · right; left; exact e
    · right; right; exact e.1
theorem rn_i (hg : good P) (hT : typed P T) : ∀ (n : Nat) (M : Mc), MI P T M → MI P T (rnM P n M)
  | 0, _, h => h
  | n + 1, M, h => by
    unfold rnM
    by_cases g : M.en = -1
    · rw [if_pos g]; exact rn_i hg hT n _ (h.st hg hT g)
    · rw [if_neg g]; exact h
theorem rn_c : ∀ (n : Nat) (M : Mc) (c : Int), (rnM P n M).en = -1 → rnC P n M c = c + n
  | 0, M, c, _ => by unfold rnC; omega
  | n + 1, M, c, h => by
    unfold rnM at h
    unfold rnC
    by_cases g : M.en = -1
    · rw [if_pos g] at h ⊢
      rw [rn_c n _ (c + 1) h]; omega
    · rw [if_neg g] at h; exact absurd h g
theorem rn_b : ∀ (n : Nat) (M : Mc) (c : Int), c ≤ rnC P n M c ∧ rnC P n M c ≤ c + n
  | 0, M, c => by unfold rnC; omega
  | n + 1, M, c => by
    unfold rnC
    by_cases g : M.en = -1
    · rw [if_pos g]
      have := rn_b n (stp P M) (c + 1)
      omega
    · rw [if_neg g]; omega
theorem l20 (hg : good P) (hT : typed P T) (ho : ¬ o = 0) {y2 y3 : Int} (hy : y3 ≤ 20000) : ∀ (n : Nat) (M : Mc) (σ : j3_S) (x : Int), x + n = y3 → 0 ≤ x → MI P T M → M.ou ≤ x → (σ.2.1 1 = o ∧ CP σ o P ∧ ∀ c, 0 ≤ c → c < P 3000 0 → σ.2.2 3004 o c = P 3004 c) → CR σ P T M → ∃ σ', CR σ' P T (rnM P n M) ∧ fmC σ σ' ∧ ∀ d (Q : j3_P), T20 (d + 8) Q 42 [wO 2 109, wO 3 o, wI y2, wI y3, wI (rnC P n M x), wI (rnC P n M x)] [] σ' → T20 (d + 8) Q 30 [wO 2 109, wO 3 o, wI y2, wI y3, wI x, wI x] [] σ
  | 0, M, σ, x, hx, x0, hM, hu, hp, hC => by
    refine ⟨σ, hC, fmC.rf, fun d Q hQ => ?_⟩
    rw [b20_30, if_neg (by omega)]
    exact hQ
  | n + 1, M, σ, x, hx, x0, hM, hu, hp, hC => by
    unfold rnM rnC
    by_cases g : M.en = -1
    · rw [if_pos g, if_pos g]
      obtain ⟨σ1, c1, f1, q1⟩ := c_step (σ := σ) (o := o) ⟨⟨hg, hT⟩, ⟨ho, hp⟩, hC, hM.1 g, g⟩ (by omega)
      have hp1 : σ1.2.1 1 = o ∧ CP σ1 o P ∧ ∀ c, 0 ≤ c → c < P 3000 0 → σ1.2.2 3004 o c = P 3004 c := ⟨by rw [f1.1.1]; exact hp.1, hp.2.1.fr f1.1 ⟨rfl, rfl⟩ (la_ok rfl), fun c c0 c1 => by rw [f1.1.2.2 3004 o rfl]; exact hp.2.2 c c0 c1⟩
      obtain ⟨σ2, c2, f2, q2⟩ := l20 hg hT ho (y2 := y2) hy n (stp P M) σ1 (x + 1) (by omega) (by omega) (hM.st hg hT g) (by rcases stp_ou (P := P) (M := M) with e | e <;> omega) hp1 c1
      refine ⟨σ2, c2, f1.tr f2, fun d Q hQ => ?_⟩
      rw [b20_30, if_pos (by omega), if_pos (hC.1.1.1.trans g)]
      refine q1 d _ ?_
      simp only [Option.toList_none, List.nil_append]
      rw [b20_40, wr_id (by omega) (by omega)]
      exact q2 d Q hQ
    · rw [if_neg g, if_neg g]
      refine ⟨σ, hC, fmC.rf, fun d Q hQ => ?_⟩
      rw [b20_30, if_pos (by omega), if_neg (by rw [hC.1.1.1]; exact g)]
      exact hQ
theorem l241 (hg : good P) (hT : typed P T) (s0 : 0 ≤ s) (s2 : s ≤ 2) {y1 y2 y3 : Int} (hy : y3 ≤ 20000) : ∀ (n : Nat) (M : Mc) (σ : j3_S) (x : Int), x + n = y3 → 0 ≤ x → MI P T M → M.ou ≤ x → (σ.1 10093 121 = s ∧ RP σ s P) → RR σ P M → ∃ σ', RR σ' P (rnM P n M) ∧ frm rmI rmB σ σ' ∧ ∀ d (Q : j3_P), T241 (d + 4) Q 124 [wO 10 121, wI y1, wI y2, wI y3, wI (rnC P n M x)] [] σ' → T241 (d + 4) Q 124 [wO 10 121, wI y1, wI y2, wI y3, wI x] [] σ
  | 0, M, σ, x, hx, x0, hM, hu, hp, hC => ⟨σ, hC, frm.rf, fun d Q hQ => hQ⟩
  | n + 1, M, σ, x, hx, x0, hM, hu, hp, hC => by
    unfold rnM rnC
    by_cases g : M.en = -1
    · rw [if_pos g, if_pos g]
      obtain ⟨σ1, c1, f1, q1⟩ := r_step (σ := σ) (s := s) ⟨⟨hg, hT⟩, ⟨s0, s2, hp⟩, hC, hM.1 g, g⟩ (by omega)
      have hp1 : σ1.1 10093 121 = s ∧ RP σ1 s P := ⟨by rw [f1.2.1 10093 121 rfl]; exact hp.1, hp.2.fr f1 (fun e e0 e1 => by
        simp [rmB]; omega)⟩
      obtain ⟨σ2, c2, f2, q2⟩ := l241 hg hT s0 s2 (y1 := y1) (y2 := y2) hy n (stp P M) σ1 (x + 1) (by omega) (by omega) (hM.st hg hT g) (by rcases stp_ou (P := P) (M := M) with e | e <;> omega) hp1 c1
      refine ⟨σ2, c2, f1.tr f2, fun d Q hQ => ?_⟩
      rw [b241_124, hC.1.1.1, if_pos (by omega), if_neg (by omega)]
      refine q1 d _ ?_
      simp only [Option.toList_none, List.nil_append]
      rw [b241_137, wr_id (by omega) (by omega)]
      exact q2 d Q hQ
    · rw [if_neg g, if_neg g]
      exact ⟨σ, hC, frm.rf, fun d Q hQ => hQ⟩
/-- the beginning -/
def M0 (m : Int) : Mc := ((1, (fun _ => m), (fun _ => 0), (fun _ => 0), (fun _ _ => 0), (fun _ _ => 0)), (0, (fun _ => 0), (fun _ _ _ => 0), (fun _ => 0)), (-1, 0, 0, (fun _ => 0), 1))
theorem M0_i {m : Int} (hg : good P) (hT : typed P T) (m0 : 0 ≤ m) (m1 : m < P 3001 0) (h13 : P 3013 m = 1) (h15 : P 3015 m = 0) : MI P T (M0 m) := by
  obtain ⟨t0, t1⟩ := tyC_0 hT m0 m1
  have h0 := (hg.1.2.2.2 m m0 m1).2.2.2.2.2.1.1
  refine ⟨fun _ => ⟨⟨Int.le_refl 1, show (1 : Int) ≤ 40 by decide⟩, ⟨⟨Int.le_refl 0, show (0 : Int) ≤ 200 by decide⟩, fun o o0 o1 => ?_, fun o c f o0 o1 => ?_, fun c f _ _ _ _ => vt_z (Int.le_refl 0)⟩, ⟨⟨m0, m1, Int.le_refl 0, ?_, ?_⟩, ?_, fun j j0 j1 => ?_, fun x x0 x1 => ?_⟩, fun k k0 k1 => ?_⟩, fun q => absurd (show (-1 : Int) = 1 from q) (by decide), Or.inl rfl⟩
  · exact absurd (show o < 0 from o1) (by omega)
  · exact absurd (show o < 0 from o1) (by omega)
  · show (0 : Int) < P 0 m
    omega
  · show 0 ≤ (T m).1 0
    omega
  · show (0 : Int) = (T m).1 0
    omega
  · have j1 : j < (T m).1 0 := j1
    omega
  · have x1 : x < P 3017 m := x1
    have := t1 x x0 x1
    have rc : rcv P m = 0 := by unfold rcv; rw [h13]; rfl
    unfold ini at this
    rw [rc, h15, if_neg (by omega), if_neg (by omega)] at this
    show vt P _ _ ((T m).2.2 0 x) _
    rw [sbt_n this]
    exact vt_0 (by decide)
  · exact absurd (show k < 1 - 1 from k1) (by omega)
end RUN
