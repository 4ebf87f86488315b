/-! the reference's step: NEW, CALL, SEND, RETURN -/
section RST4
variable {σ σ' τ : j3_S} {P : Pg} {T : Int → Fl} {M : Mc} {d : Nat} {Q : j3_P} {k i j x v h' s : Int} {t : Int → Int}
theorem l239 {X op told w no : Int} {I : Nat → Nat → Int} {p : Nat → Nat} {A : Nat → Nat → Int → Int} {f : Int → Int} (hI : I 10085 121 = no) (no0 : 0 ≤ no) (no1 : no < 200) : ∀ (n : Nat) (x : Int), x + n = 60 → 0 ≤ x → T239 d Q 47 [wO 10 121, wI X, wI op, wI told, wI w, wI x] [] (I, p, j3_up A 10087 121 (i_fl f (60 * no) (60 * no + x) 0)) = T239 d Q 47 [wO 10 121, wI X, wI op, wI told, wI w, wI 60] [] (I, p, j3_up A 10087 121 (i_fl f (60 * no) (60 * no + 60) 0))
  | 0, x, h, h0 => by
    have : x = 60 := by omega
    rw [this]
  | n + 1, x, h, h0 => by
    rw [b239_47, if_pos (by omega)]
    dsimp only
    rw [hI, wr_id (z := 60 * no) (by omega) (by omega), wr_id (z := 60 * no + x) (by omega) (by omega), wr_id (z := x + 1) (by omega) (by omega)]
    simp only [j3_ast, up_r, up_up]
    rw [fl_s (by omega), show 60 * no + x + 1 = 60 * no + (x + 1) by omega, l239 hI no0 no1 n (x + 1) (by omega) (by omega)]
    exact propext (and_iff_right (by omega))
theorem r_15 (B : rBd σ s P T M) (hop : tO P M = 15) : rSt P M σ := by
  obtain ⟨⟨k0, k1, k2, k3, k4⟩, ⟨n0, n1, hh, hsk⟩, ⟨hi, i0, i1⟩, m0, m1⟩ := B.f
  obtain ⟨-, z2⟩ := B.z (wn := 0) (by rw [hop]; rfl)
  have z3 : (gx P (tO P M) (tA P M) (tB P M) (ts T M) (tl T M) (tn T M - 0)).length = 1 := by rw [hop]; rfl
  rw [z3] at z2
  have ht := B.2.2.2.1
  have hg := B.1.1
  have hW := hg.1
  have hs := hW.1
  have hp := ht.2.1
  have ra := (ht.ik hW).2.2.2.2.1 (Or.inl hop)
  have hS : stp P M = if M.no = 200 then M.tp 6 else ((M.dp, M.me, i_up M.pc (M.dp - 1) (ti M + 1), i_up M.ht (M.dp - 1) (tn T M + 1), M.lo, up2 M.sk (M.dp - 1) (i_up (M.sk (M.dp - 1)) (tn T M) (M.no + 1))), (M.no + 1, i_up M.oc M.no (tA P M), (fun o => if o = M.no then fun _ _ => 0 else M.fd o), M.gs), M.2.2) := by
    rw [stp_e ht]
    unfold stO
    rw [hop]
    rfl
  obtain ⟨X, ⟨x0, x1, -⟩, xo, xa, xb, hX⟩ := B.at0
  have c : ∀ d (Q : j3_P), (∀ told, T239 (d + 2) Q 28 [wO 10 121, wI X, wI 15, wI told, wI 0, wM 2] [] σ) → j3_tc true (d + 3) 239 [wO 10 121, wI X, wI (tO P M)] σ Q := by
    intro d Q hQ
    rw [e239, b239_0, if_pos hop, b239_18, b239_25, hop]
    exact ⟨by omega, by omega, hQ _⟩
  by_cases g : M.no = 200
  · refine ⟨trR σ 6, ?_, frm.I rfl (frm.I rfl frm.rf), fun d Q hQ => hX d Q (via239 (τ := trR σ 6) B xo x0 x1 (by omega) (fun d Q hQ => c d Q (fun told => ?_)) d Q (r185t hQ))⟩
    · rw [hS, if_pos g]
      exact B.2.2.1.tp B.2.2.2.2
    · rw [b239_28, k4, if_pos g, s234]
      simp only [Option.toList_none, List.nil_append]
      rw [b239_35]
      exact hQ
  · have no1 := hp.1
    generalize hρ : psR (j3_up σ.1 10085 121 (M.no + 1), σ.2.1, j3_up (j3_ast σ.2.2 10086 121 M.no (tA P M)) 10087 121 (i_fl (σ.2.2 10087 121) (60 * M.no) (60 * M.no + 60) 0)) (M.dp - 1) (tn T M) (M.no + 1) = ρ
    generalize hτ : nxR ρ (M.dp - 1) (ti M + 1) = τ
    have u1 : τ.1 = j3_up σ.1 10085 121 (M.no + 1) := by rw [← hτ, ← hρ]; rfl
    have u2 : ∀ e, e = 10080 ∨ e = 10083 ∨ e = 10088 ∨ e = 10090 → τ.2.2 e 121 = σ.2.2 e 121 := by
      intro e he
      rw [← hτ, ← hρ]
      rcases he with rfl | rfl | rfl | rfl <;> simp [nxR, psR, j3_ast, j3_up]
    have u3 : τ.2.2 10081 121 = i_up (σ.2.2 10081 121) (M.dp - 1) (ti M + 1) := by rw [← hτ, ← hρ]; simp [nxR, psR, j3_ast, j3_up]
    have u4 : τ.2.2 10082 121 = i_up (σ.2.2 10082 121) (M.dp - 1) (tn T M + 1) := by rw [← hτ, ← hρ]; simp [nxR, psR, j3_ast, j3_up]
    have u5 : τ.2.2 10084 121 = i_up (σ.2.2 10084 121) (10 * (M.dp - 1) + tn T M) (M.no + 1) := by rw [← hτ, ← hρ]; simp [nxR, psR, j3_ast, j3_up]
    have u6 : τ.2.2 10086 121 = i_up (σ.2.2 10086 121) M.no (tA P M) := by rw [← hτ, ← hρ]; simp [nxR, psR, j3_ast, j3_up]
    have u7 : τ.2.2 10087 121 = i_fl (σ.2.2 10087 121) (60 * M.no) (60 * M.no + 60) 0 := by rw [← hτ, ← hρ]; simp [nxR, psR, j3_ast, j3_up]
    have uI : ∀ e, ¬ e = 10085 → τ.1 e 121 = σ.1 e 121 := by
      intro e he
      rw [u1, up_e (show (e == 10085) = false by simpa using he)]
    have rI : ρ.1 10094 121 = -1 := by
      have : ρ.1 = τ.1 := by rw [← hτ]; rfl
      rw [this, uI 10094 (by decide)]; exact k3
    refine ⟨τ, ?_, by rw [← hτ, ← hρ]; exact frm.A rfl (frm.A rfl (frm.A rfl (frm.A rfl (frm.A rfl (frm.I rfl frm.rf))))), fun d Q hQ => hX d Q (via239 (τ := ρ) B xo x0 x1 (by omega) (fun d Q hQ => c d Q (fun told => ?_)) d Q (r185 k0 k1 rI (by rw [hτ]; exact hQ)))⟩
    · rw [hS, if_neg g]
      obtain ⟨⟨a1, a2, a3, a4⟩, a5⟩ := B.2.2.1.1
      obtain ⟨-, ho⟩ := B.2.2.1.2.2 B.2.2.2.2
      refine RR.g0 hW B.1.2 B.2.2.1 ht B.2.2.2.2 ⟨⟨?_, ?_, ?_, ?_⟩, ?_⟩ (uI 10079 (by decide)) (u2 10080 (by simp)) u3 (by rw [u4]; simp only [i_up, if_true]) (fun k' hk => by rw [u4]; simp only [i_up, if_neg hk]) (fun z hz => ?_) (fun q q0 q1 => ?_) (fun k' x b0 b1 => ?_) ⟨fun q q0 q1 => ?_, ?_⟩
      · rw [uI 10094 (by decide)]; exact a1
      · rw [u1, up_r]
      · rw [uI 10095 (by decide)]; exact a3
      · rw [uI 10096 (by decide)]; exact a4
      · rw [uI 10089 (by decide), u2 10090 (by simp)]; exact a5
      · rw [u5]; simp only [i_up]; rw [if_neg (by omega)]
      · rw [u5]; simp only [i_up]
        by_cases gq : q = tn T M
        · rw [if_pos (by omega), if_pos gq]
        · rw [if_neg (by omega), if_neg gq]; exact hsk q q0 (by omega)
      · rw [u2 10083 (by simp)]
        exact ((B.2.2.1.2.2 B.2.2.2.2).1 k' b0 b1).2 x
      · have q1 : q < M.no + 1 := q1
        rw [u6, u7]
        show i_up _ M.no (tA P M) q = i_up M.oc M.no (tA P M) q ∧ ∀ c f, cv P c (i_up M.oc M.no (tA P M) q) = true → 0 ≤ f → f < P 3005 c → i_fl (σ.2.2 10087 121) (60 * M.no) (60 * M.no + 60) 0 (60 * q + 6 * c + f) = (if q = M.no then fun _ _ => 0 else M.fd q) c f
        simp only [i_up]
        by_cases gq : q = M.no
        · rw [if_pos gq, if_pos gq, if_pos gq]
          refine ⟨rfl, fun c f hc f0 f1 => ?_⟩
          have hcc := cv_le hs _ ra.1 ra.2 hc
          have h5c := (hW.2.2.1 c hcc.1 (by omega)).2.1
          have hn := hs.2.1
          simp only [i_fl]
          rw [if_pos (by omega)]
        · rw [if_neg gq, if_neg gq, if_neg gq]
          obtain ⟨h1, h2⟩ := ho.1 q q0 (by omega)
          refine ⟨h1, fun c f hc f0 f1 => ?_⟩
          have hq := hp.2.1 q q0 (by omega)
          have hcc := cv_le hs _ hq.1 hq.2 hc
          have h5c := (hW.2.2.1 c hcc.1 (by omega)).2.1
          have hn := hs.2.1
          simp only [i_fl]
          rw [if_neg (by omega)]
          exact h2 c f hc f0 f1
      · rw [u2 10088 (by simp)]; exact ho.2
    · rw [b239_28, k4, if_neg g, xa]
      refine ⟨by omega, by omega, ?_⟩
      have e0 : ((σ.1, σ.2.1, j3_ast σ.2.2 10086 121 M.no (tA P M)) : j3_S) = (σ.1, σ.2.1, j3_up (j3_ast σ.2.2 10086 121 M.no (tA P M)) 10087 121 (i_fl (σ.2.2 10087 121) (60 * M.no) (60 * M.no + 0) 0)) := by
        rw [show 60 * M.no + 0 = 60 * M.no by omega, fl_0]
        have : σ.2.2 10087 121 = j3_ast σ.2.2 10086 121 M.no (tA P M) 10087 121 := by simp only [j3_ast, up_e (show ((10087 : Nat) == 10086) = false from rfl)]
        rw [this, up_id]
      rw [e0, l239 (I := σ.1) k4 (by omega) (by omega) 60 0 (by omega) (by omega), b239_47, if_neg (by omega)]
      dsimp only
      rw [k4, wr_id (z := M.no + 1) (by omega) (by omega), s233 (σ := (j3_up σ.1 10085 121 (M.no + 1), σ.2.1, j3_up (j3_ast σ.2.2 10086 121 M.no (tA P M)) 10087 121 (i_fl (σ.2.2 10087 121) (60 * M.no) (60 * M.no + 60) 0))) (k := M.dp - 1) (h := tn T M) (by show j3_up σ.1 10085 121 (M.no + 1) 10079 121 = _; rw [up_e (show ((10079 : Nat) == 10085) = false from rfl)]; exact k2) k0 k1 (by simp only [j3_ast, up_e (show ((10082 : Nat) == 10087) = false from rfl), up_e (show ((10082 : Nat) == 10086) = false from rfl)]; exact hh) n0 (by omega), hρ]
      simp only [Option.toList_none, List.nil_append]
      rw [b239_72]
      exact hQ
/-- a call: the new locals -/
def i_cl (f g : Int → Int) (a m fr n : Int) : Int → Int := fun z => if a ≤ z ∧ z < a + n then (if z - a < m then g (fr + (z - a)) else 0) else f z
theorem cl_s {f g : Int → Int} {a m fr n : Int} (n0 : 0 ≤ n) : i_up (i_cl f g a m fr n) (a + n) (if n < m then g (fr + n) else 0) = i_cl f g a m fr (n + 1) := by
  funext z
  simp only [i_up, i_cl]
  by_cases gz : z = a + n
  · have h : a ≤ z ∧ z < a + (n + 1) := by omega
    rw [if_pos gz, if_pos h, gz, show a + n - a = n by omega]
  · rw [if_neg gz]
    by_cases g2 : a ≤ z ∧ z < a + n
    · have h : a ≤ z ∧ z < a + (n + 1) := by omega
      rw [if_pos g2, if_pos h]
    · have h : ¬ (a ≤ z ∧ z < a + (n + 1)) := by omega
      rw [if_neg g2, if_neg h]
theorem l235 {y1 y2 y3 m fr u D : Int} {I : Nat → Nat → Int} {p : Nat → Nat} {A : Nat → Nat → Int → Int} {f : Int → Int} (hI : I 10079 121 = D) (D0 : 0 ≤ D) (D1 : D < 40) (m0 : 0 ≤ m) (f0 : 0 ≤ fr) (f1 : fr + m ≤ 400) : ∀ (n : Nat) (x : Int), x + n = 20 → 0 ≤ x → T235 d Q 104 [wO 10 121, wI y1, wI y2, wI y3, wI m, wI fr, wI u, wI x] [] (I, p, j3_up A 10083 121 (i_cl f (A 10084 121) (20 * D) m fr x)) = T235 d Q 104 [wO 10 121, wI y1, wI y2, wI y3, wI m, wI fr, wI u, wI 20] [] (I, p, j3_up A 10083 121 (i_cl f (A 10084 121) (20 * D) m fr 20))
  | 0, x, h, h0 => by
    have : x = 20 := by omega
    rw [this]
  | n + 1, x, h, h0 => by
    rw [b235_104, if_pos (by omega)]
    dsimp only
    rw [hI, wr_id (z := 20 * D) (by omega) (by omega), wr_id (z := 20 * D + x) (by omega) (by omega), up_e (show ((10084 : Nat) == 10083) = false from rfl)]
    have k : T235 d Q 104 [wO 10 121, wI y1, wI y2, wI y3, wI m, wI fr, wI u, wI (x + 1)] [] (I, p, j3_up A 10083 121 (i_cl f (A 10084 121) (20 * D) m fr (x + 1))) = T235 d Q 104 [wO 10 121, wI y1, wI y2, wI y3, wI m, wI fr, wI u, wI 20] [] (I, p, j3_up A 10083 121 (i_cl f (A 10084 121) (20 * D) m fr 20)) := l235 hI D0 D1 m0 f0 f1 n (x + 1) (by omega) (by omega)
    rw [← cl_s h0] at k
    by_cases g : x < m
    · rw [if_pos g] at k ⊢
      rw [wr_id (z := fr + x) (by omega) (by omega), b235_126, wr_id (z := x + 1) (by omega) (by omega)]
      simp only [j3_ast, up_r, up_up]
      rw [k]
      exact propext ((and_iff_right (by omega)).trans (and_iff_right (by omega)))
    · rw [if_neg g] at k ⊢
      rw [b235_126, wr_id (z := x + 1) (by omega) (by omega)]
      simp only [j3_ast, up_r, up_up]
      rw [k]
      exact propext (and_iff_right (by omega))
end RST4
