/-! the reference's step: what is at hand, simple instructions -/
def rBd (σ : j3_S) (s : Int) (P : Pg) (T : Int → Fl) (M : Mc) : Prop := (good P ∧ typed P T) ∧ (0 ≤ s ∧ s ≤ 2 ∧ σ.1 10093 121 = s ∧ RP σ s P) ∧ RR σ P M ∧ TyM P T M ∧ M.en = -1
def rSt (P : Pg) (M : Mc) (σ : j3_S) : Prop := ∃ σ', RR σ' P (stp P M) ∧ frm rmI rmB σ σ' ∧ ∀ d (Q : j3_P), Q none σ' → j3_tc true (d + 4) 237 [wO 10 121] σ Q
def nxR (σ : j3_S) (k j : Int) : j3_S := (σ.1, σ.2.1, j3_ast σ.2.2 10081 121 k j)
def trR (σ : j3_S) (c : Int) : j3_S := (j3_up (j3_up σ.1 10094 121 1) 10095 121 c, σ.2.1, σ.2.2)
section RST1
variable {σ σ' τ : j3_S} {P : Pg} {T : Int → Fl} {M : Mc} {d : Nat} {Q : j3_P} {k i j x v h' s : Int} {t : Int → Int}
theorem rBd.f (B : rBd σ s P T M) : (0 ≤ M.dp - 1 ∧ M.dp - 1 < 40 ∧ σ.1 10079 121 = M.dp - 1 + 1 ∧ σ.1 10094 121 = -1 ∧ σ.1 10085 121 = M.no) ∧ (0 ≤ tn T M ∧ tn T M ≤ 10 ∧ σ.2.2 10082 121 (M.dp - 1) = tn T M ∧ ∀ q, 0 ≤ q → q < tn T M → σ.2.2 10084 121 (10 * (M.dp - 1) + q) = M.sk (M.dp - 1) q) ∧ (σ.2.2 10081 121 (M.dp - 1) = ti M ∧ 0 ≤ ti M ∧ ti M < 120) ∧ (0 ≤ tm M ∧ tm M < P 3001 0) := by
  obtain ⟨⟨hg, hT⟩, -, h, ht, he⟩ := B
  have hd := ht.1
  have hB := h.2.1 (by rw [he]; decide)
  have hs := ((h.2.2 he).1 (M.dp - 1) (by omega) (by omega)).1
  rw [ht.hh] at hs
  have i1 : ti M < P 0 (tm M) := ht.2.2.1.1.2.2.2.1
  have hl := ((bnd_of hg.1).2.2.2 (tm M) ht.2.2.1.1.1 ht.2.2.1.1.2.1).2.2
  exact ⟨⟨by omega, by omega, by rw [hB.1]; omega, h.1.1.1.trans he, h.1.1.2.1⟩, ⟨ht.2.2.1.1.2.2.2.2, (ht.tI hT).1.1, hs⟩, ⟨(hB.2 _ (by omega) (by omega)).2, ht.2.2.1.1.2.2.1, by omega⟩, ht.2.2.1.1.1, ht.2.2.1.1.2.1⟩
theorem rBd.z {wn : Int} (B : rBd σ s P T M) (hw : ((wl P (tm M) (tO P M) (tA P M) (tB P M)).length : Int) = wn) : wn ≤ tn T M ∧ tn T M - wn + (gx P (tO P M) (tA P M) (tB P M) (ts T M) (tl T M) (tn T M - wn)).length ≤ 10 := by
  obtain ⟨⟨hg, hT⟩, -, h, ht, he⟩ := B
  obtain ⟨-, e1, -, -⟩ := ht.tI hT
  have := exf_z (wn := wn) e1 hw
  exact ⟨this.1, this.2.2.2⟩
theorem rBd.at0 (B : rBd σ s P T M) : ∃ X, (0 ≤ X ∧ X < 28800 ∧ X = 9600 * s + 120 * tm M + ti M) ∧ σ.2.2 10027 121 X = tO P M ∧ σ.2.2 10028 121 X = tA P M ∧ σ.2.2 10029 121 X = tB P M ∧ ∀ d (Q : j3_P), T237 (d + 3) Q 16 [wO 10 121, wI (M.dp - 1), wM 2, wM 2, wM 2, wM 2] [wI X] σ → j3_tc true (d + 4) 237 [wO 10 121] σ Q := by
  obtain ⟨⟨k0, k1, k2, -⟩, -, ⟨hi, i0, i1⟩, m0, m1⟩ := B.f
  obtain ⟨⟨hg, hT⟩, ⟨s0, s2, hs, hR⟩, h, ht, he⟩ := B
  have hB := h.2.1 (by rw [he]; decide)
  have hm : σ.2.2 10080 121 (M.dp - 1) = tm M := (hB.2 _ (by omega) (by omega)).1
  have h80 := hg.1.2.1.2.1
  have i1' : ti M < P 0 (tm M) := ht.2.2.1.1.2.2.2.1
  obtain ⟨r1, r2, r3⟩ := (hR.2.2.2 (tm M) m0 m1).2.2 (ti M) i0 i1'
  refine ⟨9600 * s + 120 * tm M + ti M, ⟨by omega, by omega, rfl⟩, r1, r2, r3, fun d Q hQ => ?_⟩
  rw [e237, b237_0, k2, wr_id (z := M.dp - 1 + 1 - 1) (by omega) (by omega), show M.dp - 1 + 1 - 1 = M.dp - 1 by omega, hs, hm, hi, s160 s0 s2 m0 (by omega) i0 (by omega)]
  exact ⟨by omega, by omega, hQ⟩
theorem r185 {x2 x3 : Int} {w5 : j3_W} (k0 : 0 ≤ k) (k1 : k < 40) (he : τ.1 10094 121 = -1) (hQ : Q none (nxR τ k j)) : T237 d Q 185 [wO 10 121, wI k, wI x2, wI x3, wI j, w5] [] τ := by
  rw [b237_185, he, if_pos (by omega)]
  exact ⟨by omega, hQ⟩
theorem r185t {x2 x3 c : Int} {w5 : j3_W} (hQ : Q none (trR τ c)) : T237 d Q 185 [wO 10 121, wI k, wI x2, wI x3, wI j, w5] [] (trR τ c) := by
  rw [b237_185, if_neg (by simp [trR, j3_up])]
  exact hQ
theorem RR.tp {c : Int} (h : RR σ P M) (he : M.en = -1) : RR (trR σ c) P (M.tp c) := by
  obtain ⟨⟨⟨a1, a2, a3, a4⟩, a5⟩, b, -⟩ := h
  have b := b (by rw [he]; decide)
  refine ⟨⟨⟨by simp [trR, j3_up]; rfl, by simp [trR, j3_up]; exact a2, by simp [trR, j3_up]; rfl, by simp [trR, j3_up]; exact a4⟩, by simp [trR, j3_up]; exact a5⟩, fun _ => ?_, fun q => absurd (show (1 : Int) = -1 from q) (by decide)⟩
  unfold RRb
  simp only [trR, up_e (show ((10079 : Nat) == 10095) = false from rfl), up_e (show ((10079 : Nat) == 10094) = false from rfl)]
  exact b
/-- a step on the frame: everything told -/
theorem RR.g0 {lo : Int → Int → Int} {H : Mh} {U : Mt} (hW : WFp P) (hT : typed P T) (h : RR σ P M) (ht : TyM P T M) (he : M.en = -1) (fa : RRa σ' ((M.dp, M.me, i_up M.pc (M.dp - 1) j, i_up M.ht (M.dp - 1) h', lo, up2 M.sk (M.dp - 1) t), H, U)) (f0 : σ'.1 10079 121 = σ.1 10079 121) (f1 : σ'.2.2 10080 121 = σ.2.2 10080 121) (f2 : σ'.2.2 10081 121 = i_up (σ.2.2 10081 121) (M.dp - 1) j) (f3 : σ'.2.2 10082 121 (M.dp - 1) = h') (f4 : ∀ k', ¬ k' = M.dp - 1 → σ'.2.2 10082 121 k' = σ.2.2 10082 121 k') (f5 : ∀ z, z < 10 * (M.dp - 1) ∨ 10 * (M.dp - 1) + 10 ≤ z → σ'.2.2 10084 121 z = σ.2.2 10084 121 z) (f6 : ∀ q, 0 ≤ q → q < h' → σ'.2.2 10084 121 (10 * (M.dp - 1) + q) = t q) (fl : ∀ k' x, 0 ≤ k' → k' < M.dp → 0 ≤ x → x < P 3017 (M.me k') → σ'.2.2 10083 121 (20 * k' + x) = lo k' x) (fo : RRo σ' P ((M.dp, M.me, i_up M.pc (M.dp - 1) j, i_up M.ht (M.dp - 1) h', lo, up2 M.sk (M.dp - 1) t), H, U)) : RR σ' P ((M.dp, M.me, i_up M.pc (M.dp - 1) j, i_up M.ht (M.dp - 1) h', lo, up2 M.sk (M.dp - 1) t), H, U) := by
  have hd := ht.1
  have hB := h.2.1 (by rw [he]; decide)
  have hs := (h.2.2 he).1
  refine ⟨fa, fun _ => ⟨f0.trans hB.1, fun k' a0 a1 => ⟨by rw [f1]; exact (hB.2 k' a0 a1).1, ?_⟩⟩, fun _ => ⟨fun k' a0 a1 => ⟨?_, fun x => fl k' x a0 a1⟩, fo⟩⟩
  · rw [f2]
    show i_up _ _ j k' = i_up M.pc (M.dp - 1) j k'
    simp only [i_up]
    by_cases g : k' = M.dp - 1
    · rw [if_pos g, if_pos g]
    · rw [if_neg g, if_neg g]; exact (hB.2 k' a0 a1).2
  · show σ'.2.2 10082 121 k' = i_up M.ht (M.dp - 1) h' k' ∧ ∀ q, 0 ≤ q → q < i_up M.ht (M.dp - 1) h' k' → σ'.2.2 10084 121 (10 * k' + q) = up2 M.sk (M.dp - 1) t k' q
    simp only [i_up, up2]
    have a1 : k' < M.dp := a1
    by_cases g : k' = M.dp - 1
    · rw [if_pos g, if_pos g, g]
      exact ⟨f3, f6⟩
    · rw [if_neg g, if_neg g]
      have := ht.h10 hW hT k' a0 a1
      obtain ⟨⟨h1, h2⟩, -⟩ := hs k' a0 a1
      refine ⟨(f4 k' g).trans h1, fun q q0 q1 => ?_⟩
      rw [f5 _ (by omega)]
      exact h2 q q0 q1
/-- only the stack and the place changed -/
theorem RR.g (hW : WFp P) (hT : typed P T) (h : RR σ P M) (ht : TyM P T M) (he : M.en = -1) (f0 : σ'.1 = σ.1) (f1 : ∀ e, [10080, 10083, 10086, 10087, 10088, 10090].elem e = true → σ'.2.2 e 121 = σ.2.2 e 121) (f2 : σ'.2.2 10081 121 = i_up (σ.2.2 10081 121) (M.dp - 1) j) (f3 : σ'.2.2 10082 121 (M.dp - 1) = h') (f4 : ∀ k', ¬ k' = M.dp - 1 → σ'.2.2 10082 121 k' = σ.2.2 10082 121 k') (f5 : ∀ z, z < 10 * (M.dp - 1) ∨ 10 * (M.dp - 1) + 10 ≤ z → σ'.2.2 10084 121 z = σ.2.2 10084 121 z) (f6 : ∀ q, 0 ≤ q → q < h' → σ'.2.2 10084 121 (10 * (M.dp - 1) + q) = t q) : RR σ' P (M.go (M.dp - 1) h' t j) := by
  refine RR.g0 (lo := M.lo) (H := M.2.1) (U := M.2.2) hW hT h ht he ?_ (by rw [f0]) (f1 10080 rfl) f2 f3 f4 f5 f6 (fun k' x a0 a1 => ?_) ?_
  · have := h.1
    unfold RRa at this ⊢
    rw [f0, f1 10090 rfl]
    exact this
  · rw [f1 10083 rfl]
    exact ((h.2.2 he).1 k' a0 a1).2 x
  · have := (h.2.2 he).2
    unfold RRo at this ⊢
    rw [f1 10086 rfl, f1 10087 rfl, f1 10088 rfl]
    exact this
/-- a value comes -/
theorem rrP (B : rBd σ s P T M) (hn : tn T M < 10) : RR (nxR (psR σ (M.dp - 1) (tn T M) v) (M.dp - 1) j) P (M.go (M.dp - 1) (tn T M + 1) (i_up (M.sk (M.dp - 1)) (tn T M) v) j) := by
  obtain ⟨⟨k0, k1, k2, k3, k4⟩, ⟨n0, n1, hh, hsk⟩, ⟨hi, i0, i1⟩, m0, m1⟩ := B.f
  refine B.2.2.1.g B.1.1.1 B.1.2 B.2.2.2.1 B.2.2.2.2 rfl (fun e he => ?_) ?_ ?_ (fun k' hk => ?_) (fun z hz => ?_) (fun q q0 q1 => ?_)
  · simp at he
    rcases he with rfl | rfl | rfl | rfl | rfl | rfl <;> simp [nxR, psR, j3_ast, j3_up]
  · simp [nxR, psR, j3_ast, j3_up]
  · simp [nxR, psR, j3_ast, j3_up, i_up]
  · simp [nxR, psR, j3_ast, j3_up, i_up, hk]
  · have : ¬ z = 10 * (M.dp - 1) + tn T M := by omega
    simp only [nxR, psR, j3_ast, up_r, up_e (show ((10084 : Nat) == 10081) = false from rfl), up_e (show ((10084 : Nat) == 10082) = false from rfl), i_up, if_neg this]
  · simp only [nxR, psR, j3_ast, up_r, up_e (show ((10084 : Nat) == 10081) = false from rfl), up_e (show ((10084 : Nat) == 10082) = false from rfl), i_up]
    by_cases g : q = tn T M
    · rw [if_pos (by omega), if_pos g]
    · rw [if_neg (by omega), if_neg g]
      exact hsk q q0 (by omega)
/-- w values go -/
theorem rrO {w : Int} (B : rBd σ s P T M) (w0 : 0 ≤ w) (f0 : σ'.1 = σ.1) (f1 : ∀ e, ¬ e = 10081 → ¬ e = 10082 → σ'.2.2 e 121 = σ.2.2 e 121) (f2 : σ'.2.2 10081 121 = i_up (σ.2.2 10081 121) (M.dp - 1) j) (f3 : σ'.2.2 10082 121 (M.dp - 1) = tn T M - w) (f4 : ∀ k', ¬ k' = M.dp - 1 → σ'.2.2 10082 121 k' = σ.2.2 10082 121 k') : RR σ' P (M.go (M.dp - 1) (tn T M - w) (M.sk (M.dp - 1)) j) := by
  obtain ⟨-, ⟨n0, n1, hh, hsk⟩, -⟩ := B.f
  refine B.2.2.1.g B.1.1.1 B.1.2 B.2.2.2.1 B.2.2.2.2 f0 (fun e he => ?_) f2 f3 f4 (fun z hz => by rw [f1 10084 (by decide) (by decide)]) (fun q q0 q1 => ?_)
  · simp at he
    exact f1 e (by omega) (by omega)
  · rw [f1 10084 (by decide) (by decide)]
    exact hsk q q0 (by omega)
theorem r_0 (B : rBd σ s P T M) (hop : tO P M = 0 ∨ tO P M = 1 ∨ tO P M = 2) : rSt P M σ := by
  obtain ⟨⟨k0, k1, k2, k3, k4⟩, ⟨n0, n1, hh, hsk⟩, ⟨hi, i0, i1⟩, m0, m1⟩ := B.f
  have ht := B.2.2.2.1
  have w0 : ((wl P (tm M) (tO P M) (tA P M) (tB P M)).length : Int) = 0 := by rcases hop with g | g | g <;> (rw [g]; rfl)
  obtain ⟨z1, z4⟩ := B.z w0
  have z5 : (gx P (tO P M) (tA P M) (tB P M) (ts T M) (tl T M) (tn T M - 0)).length = 1 := by rcases hop with g | g | g <;> (rw [g]; rfl)
  rw [z5] at z4
  obtain ⟨X, ⟨x0, x1, -⟩, xo, xa, xb, hX⟩ := B.at0
  have key : ∀ v, stp P M = M.go (M.dp - 1) (tn T M + 1) (i_up (M.sk (M.dp - 1)) (tn T M) v) (ti M + 1) → (∀ d (Q : j3_P), T237 (d + 3) Q 185 [wO 10 121, wI (M.dp - 1), wI X, wI (tO P M), wI (ti M + 1), wM 2] [] (psR σ (M.dp - 1) (tn T M) v) → T237 (d + 3) Q 16 [wO 10 121, wI (M.dp - 1), wM 2, wM 2, wM 2, wM 2] [wI X] σ) → rSt P M σ := by
    intro v hv hq
    refine ⟨nxR (psR σ (M.dp - 1) (tn T M) v) (M.dp - 1) (ti M + 1), ?_, frm.A rfl (frm.A rfl (frm.A rfl frm.rf)), fun d Q hQ => hX d Q (hq d Q (r185 k0 k1 k3 hQ))⟩
    rw [hv]
    exact rrP B (by omega)
  have pu : ∀ (d : Nat) (Q : j3_P) v, Q none (psR σ (M.dp - 1) (tn T M) v) → j3_tc true (d + 2) 233 [wO 10 121, wI v] σ Q := by
    intro d Q v hQ
    rw [s233 k2 k0 k1 hh n0 (by omega)]
    exact hQ
  rcases hop with g | g | g
  · refine key (tA P M) (by rw [stp_e ht]; unfold stO; rw [if_pos g]) (fun d Q hQ => ?_)
    rw [b237_16, xo, hi, wr_id (z := ti M + 1) (by omega) (by omega)]
    rw [g] at hQ ⊢
    refine ⟨by omega, ⟨by omega, ?_⟩⟩
    show T237 (d + 3) Q 53 _ _ _
    rw [b237_53, xa]
    refine ⟨by omega, pu _ _ _ ?_⟩
    simp only [Option.toList_none, List.nil_append]
    rw [b237_59]
    exact hQ
  · refine key 0 (by rw [stp_e ht]; unfold stO; rw [if_neg (by omega), if_pos g]) (fun d Q hQ => ?_)
    rw [b237_16, xo, hi, wr_id (z := ti M + 1) (by omega) (by omega)]
    rw [g] at hQ ⊢
    refine ⟨by omega, ⟨by omega, ?_⟩⟩
    show T237 (d + 3) Q 60 _ _ _
    rw [b237_60]
    refine pu _ _ _ ?_
    simp only [Option.toList_none, List.nil_append]
    rw [b237_63]
    exact hQ
  · have ra := (ht.ik B.1.1.1).2.2.1 (Or.inl g)
    have hn20 := (B.1.1.1.2.2.2 (tm M) m0 m1).2.2.2.2.1.2
    have hlo : σ.2.2 10083 121 (20 * (M.dp - 1) + tA P M) = M.lo (M.dp - 1) (tA P M) := ((B.2.2.1.2.2 B.2.2.2.2).1 (M.dp - 1) (by omega) (by omega)).2 _ ra.1 ra.2
    refine key (M.lo (M.dp - 1) (tA P M)) (by rw [stp_e ht]; unfold stO; rw [if_neg (by omega), if_neg (by omega), if_pos g]) (fun d Q hQ => ?_)
    rw [b237_16, xo, hi, wr_id (z := ti M + 1) (by omega) (by omega)]
    rw [g] at hQ ⊢
    refine ⟨by omega, ⟨by omega, ?_⟩⟩
    show T237 (d + 3) Q 64 _ _ _
    rw [b237_64, xa, wr_id (z := 20 * (M.dp - 1)) (by omega) (by omega), wr_id (by omega) (by omega), hlo]
    refine ⟨by omega, by omega, pu _ _ _ ?_⟩
    simp only [Option.toList_none, List.nil_append]
    rw [b237_77]
    exact hQ
end RST1
