/-! the reference's reading of an instruction -/
theorem iu_iu {f : Int → Int} {i x y : Int} : i_up (i_up f i x) i y = i_up f i y := by
  funext j
  simp only [i_up]
  by_cases h : j = i
  · rw [if_pos h, if_pos h]
  · rw [if_neg h, if_neg h, if_neg h]
def RX (σ0 : j3_S) (x v a b : Int) (st : Ps) (σ : j3_S) : Prop := frm [10004, 10007] [10008, 10027, 10028, 10029] σ0 σ ∧ rOk σ st ∧ σ.2.2 10027 121 = i_up (σ0.2.2 10027 121) x v ∧ σ.2.2 10028 121 = i_up (σ0.2.2 10028 121) x a ∧ σ.2.2 10029 121 = i_up (σ0.2.2 10029 121) x b
section RINS
variable {d : Nat} {Q : j3_P} {σ σ0 σ' : j3_S} {tb : Int → Int} {sz lo hi x v a b : Int} {st st' : Ps}
theorem rOk.A {e : Nat} {f : Int → Int} (h : rOk σ st) (he : (10008 == e) = false) : rOk (σ.1, σ.2.1, j3_up σ.2.2 e 121 f) st := by
  refine ⟨h.1, h.2.1, fun g => ?_⟩
  simp only [up_e he]
  exact h.2.2 g
theorem rOk.fr {li la : List Nat} (h : rOk σ st) (hf : frm li la σ σ') (h1 : li.elem 10004 = false) (h2 : li.elem 10007 = false) (h3 : la.elem 10008 = false) : rOk σ' st := by
  unfold rOk
  rw [hf.2.1 _ _ h1, hf.2.1 _ _ h2, hf.2.2 _ _ h3]
  exact h
theorem RX.nx (h : RX σ0 x v a b st σ) (hf : rFr σ σ') (hr : rOk σ' st') : RX σ0 x v a b st' σ' := by
  refine ⟨h.1.tr (hf.wd (sub_el rfl) (sub_el rfl)), hr, ?_, ?_, ?_⟩
  · rw [hf.2.2 10027 121 rfl]; exact h.2.2.1
  · rw [hf.2.2 10028 121 rfl]; exact h.2.2.2.1
  · rw [hf.2.2 10029 121 rfl]; exact h.2.2.2.2
theorem RX.sa {a' : Int} (h : RX σ0 x v a b st σ) : RX σ0 x v a' b st (σ.1, σ.2.1, j3_ast σ.2.2 10028 121 x a') := by
  refine ⟨h.1.tr (frm.A rfl frm.rf), rOk.A h.2.1 rfl, ?_, ?_, ?_⟩
  · simp only [j3_ast, up_e (show ((10027 : Nat) == 10028) = false from rfl)]; exact h.2.2.1
  · simp only [j3_ast, up_r]; rw [h.2.2.2.1, iu_iu]
  · simp only [j3_ast, up_e (show ((10029 : Nat) == 10028) = false from rfl)]; exact h.2.2.2.2
theorem RX.TR (h : RX σ0 x v a b st σ) (hT : TR σ0 tb sz) : TR σ tb sz := ⟨(h.1.2.1 10003 121 rfl).trans hT.1, hT.2.1, by rw [h.1.2.2 10001 121 rfl]; exact hT.2.2⟩
theorem RX.at (h : RX σ0 x v a b st σ) : σ.2.2 10028 121 x = a := by rw [h.2.2.2.1]; exact iu_r
theorem l24 {kk : Int} {X : Prop} (hT : TR σ0 tb sz) (x0 : 0 ≤ x) (x1 : x < 28800) : ∀ (k : Nat) (a j : Int) (st : Ps) (σ : j3_S), 0 ≤ j → j + k = 4 → pso sz st → RX σ0 x v a b st σ → (∀ σ' w, RX σ0 x v (rdN tb sz k a st).1 b (rdN tb sz k a st).2 σ' → T166 (d + 2) Q 44 [wO 10 121, wI kk, wI x, wI v, w] [] σ') → T166 (d + 2) Q 24 [wO 10 121, wI kk, wI x, wI v, wI j] [] σ
  | 0, a, j, st, σ, j0, hj, hs, hX, h => by
    rw [b166_24, if_neg (by omega)]
    exact h σ _ hX
  | k + 1, a, j, st, σ, j0, hj, hs, hX, h => by
    rw [b166_24, if_pos (by omega), hX.at]
    refine ⟨by omega, s159 (hX.TR hT) hs hX.2.1 (fun σ1 f1 r1 => ?_)⟩
    simp only [Option.toList_some, List.cons_append, List.nil_append]
    rw [b166_40, wr_id (by omega) (by omega)]
    exact ⟨by omega, l24 (X := X) hT x0 x1 k _ (j + 1) _ _ (by omega) (by omega) (nxs_o hs) (hX.nx f1 r1).sa h⟩
theorem s165 : j3_tc true (d + 1) 165 [wI x] σ Q = Q (some (wI (b2i (twop x)))) σ := by
  rw [e165, b165_0]
  by_cases h1 : x < 16
  · simp [h1, twop, b2i, show ¬ 16 ≤ x by omega]
  · by_cases h2 : 21 < x
    · simp [h1, h2, twop, b2i, show ¬ x ≤ 21 by omega]
    · simp [h1, h2, twop, b2i, show 16 ≤ x by omega, show x ≤ 21 by omega]
/-- from the class told on -/
theorem k104 {kk pl : Int} {w : j3_W} (hT : TR σ0 tb sz) (x0 : 19200 ≤ x) (x1 : x < 28800) (hs : pso sz st) (hX : RX σ0 x v a 0 st σ) (hpl : twop v = true → st.1 = pl)
    (hQ : ∀ σ', rIns σ0 x v a (if twop v = true then nxv tb sz st 0 255 else 0) pl (if twop v = true then nxs tb sz st 0 255 else st) σ' → Q none σ') : T166 (d + 2) Q 104 [wO 10 121, wI kk, wI x, wI v, w] [] σ := by
  rw [b166_104, wr_id (by omega) (by omega), s165]
  simp only [Option.toList_some, List.cons_append, List.nil_append]
  refine ⟨by omega, ?_⟩
  rw [b166_114, hX.2.1.1]
  have f1 : frm [10004, 10007] [10008, 10027, 10028, 10029, 10033] σ0 (σ.1, σ.2.1, j3_ast σ.2.2 10033 121 (x - 19200) st.1) := frm.A rfl (hX.1.wd (sub_el rfl) (sub_el rfl))
  have r1 : rOk (σ.1, σ.2.1, j3_ast σ.2.2 10033 121 (x - 19200) st.1) st := rOk.A hX.2.1 rfl
  have e33 : σ.2.2 10033 121 = σ0.2.2 10033 121 := hX.1.2.2 10033 121 rfl
  by_cases g : twop v = true
  · rw [if_pos g, if_pos g] at hQ
    rw [if_neg (by rw [g]; decide)]
    refine s159 (st := st) ⟨hX.TR hT |>.1, hT.2.1, by simp only [j3_ast, up_e (show ((10001 : Nat) == 10033) = false from rfl)]; exact (hX.TR hT).2.2⟩ hs r1 (fun σ2 f2 r2 => ?_)
    simp only [Option.toList_some, List.cons_append, List.nil_append]
    rw [b166_122]
    refine ⟨by omega, hQ _ ⟨frm.A rfl (f1.tr (f2.wd (sub_el rfl) (sub_el rfl))), rOk.A r2 rfl, ?_, ?_, ?_, st.1, ?_, hpl⟩⟩
    · simp only [j3_ast, up_e (show ((10027 : Nat) == 10029) = false from rfl)]
      rw [f2.2.2 10027 121 rfl]
      simp only [j3_ast, up_e (show ((10027 : Nat) == 10033) = false from rfl)]
      exact hX.2.2.1
    · simp only [j3_ast, up_e (show ((10028 : Nat) == 10029) = false from rfl)]
      rw [f2.2.2 10028 121 rfl]
      simp only [j3_ast, up_e (show ((10028 : Nat) == 10033) = false from rfl)]
      exact hX.2.2.2.1
    · simp only [j3_ast, up_r]
      rw [f2.2.2 10029 121 rfl]
      simp only [j3_ast, up_e (show ((10029 : Nat) == 10033) = false from rfl)]
      rw [hX.2.2.2.2, iu_iu]
    · simp only [j3_ast, up_e (show ((10033 : Nat) == 10029) = false from rfl)]
      rw [f2.2.2 10033 121 rfl]
      simp only [j3_ast, up_r, e33]
  · rw [if_neg g, if_neg g] at hQ
    rw [if_pos (by simp at g; rw [g]; rfl)]
    refine hQ _ ⟨f1, r1, ?_, ?_, ?_, st.1, ?_, hpl⟩
    · simp only [j3_ast, up_e (show ((10027 : Nat) == 10033) = false from rfl)]
      exact hX.2.2.1
    · simp only [j3_ast, up_e (show ((10028 : Nat) == 10033) = false from rfl)]
      exact hX.2.2.2.1
    · simp only [j3_ast, up_e (show ((10029 : Nat) == 10033) = false from rfl)]
      exact hX.2.2.2.2
    · simp only [j3_ast, up_r, e33]
theorem s166 {kk nl len nc : Int} (hT : TR σ tb sz) (hs : pso sz st) (hr : rOk σ st) (k0 : 0 ≤ kk) (k1 : kk < 240) (x0 : 19200 ≤ x) (x1 : x < 28800) (hnl : σ.2.2 10025 121 kk = nl) (hlen : σ.2.2 10026 121 kk = len) (hnc : σ.2.2 10009 121 2 = nc) (n1 : 0 ≤ nl ∧ nl ≤ 20) (n2 : 1 ≤ len ∧ len ≤ 120) (n3 : 1 ≤ nc ∧ nc ≤ 10)
    (hQ : ∀ σ', rIns σ x (nxv tb sz st 0 26) (rda tb sz nl len nc st).1 (rdb tb sz nl len nc st).1 (rda tb sz nl len nc st).2.1 (rdb tb sz nl len nc st).2 σ' → Q none σ') : j3_tc true (d + 3) 166 [wO 10 121, wI kk, wI x] σ Q := by
  rw [e166, b166_0]
  refine s159 hT hs hr (fun σ1 f1 r1 => ?_)
  simp only [Option.toList_some, List.cons_append, List.nil_append]
  have hv := nxv_b (tb := tb) (sz := sz) (st := st) (lo := 0) (hi := 26) (by omega)
  have hs1 := nxs_o (tb := tb) (lo := 0) (hi := 26) hs
  have eb : rdb tb sz nl len nc st = (if twop (nxv tb sz st 0 26) = true then nxv tb sz (rda tb sz nl len nc st).2 0 255 else 0, if twop (nxv tb sz st 0 26) = true then nxs tb sz (rda tb sz nl len nc st).2 0 255 else (rda tb sz nl len nc st).2) := by
    unfold rdb
    split <;> rfl
  rw [eb] at hQ
  unfold rda at hQ
  generalize nxv tb sz st 0 26 = v at hv hQ
  generalize nxs tb sz st 0 26 = t1 at hs1 hQ r1
  rw [b166_4]
  refine ⟨by omega, by omega, by omega, ?_⟩
  generalize hτ : ((σ1.1, σ1.2.1, j3_ast (j3_ast (j3_ast σ1.2.2 10027 121 x v) 10028 121 x 0) 10029 121 x 0) : j3_S) = τ
  have hX : RX σ x v 0 0 t1 τ := by
    rw [← hτ]
    refine ⟨frm.A rfl (frm.A rfl (frm.A rfl (f1.wd (sub_el rfl) (sub_el rfl)))), rOk.fr (li := []) (la := [10027, 10028, 10029]) r1 (frm.A rfl (frm.A rfl (frm.A rfl frm.rf))) rfl rfl rfl, ?_, ?_, ?_⟩
    · simp only [j3_ast, up_e (show ((10027 : Nat) == 10029) = false from rfl), up_e (show ((10027 : Nat) == 10028) = false from rfl), up_r]
      rw [f1.2.2 10027 121 rfl]
    · simp only [j3_ast, up_e (show ((10028 : Nat) == 10029) = false from rfl), up_e (show ((10028 : Nat) == 10027) = false from rfl), up_r]
      rw [f1.2.2 10028 121 rfl]
    · simp only [j3_ast, up_e (show ((10029 : Nat) == 10028) = false from rfl), up_e (show ((10029 : Nat) == 10027) = false from rfl), up_r]
      rw [f1.2.2 10029 121 rfl]
  clear hτ
  by_cases g0 : v = 0
  · have tw : twop v = false := by rw [g0]; rfl
    simp only [if_pos g0] at hQ
    rw [if_pos g0]
    refine l24 (X := True) hT (by omega) x1 4 0 0 t1 τ (by omega) rfl hs1 hX (fun σ2 w h2 => ?_)
    have o2 := (rdN_o (tb := tb) 4 0 t1 hs1).1
    rw [b166_44, if_neg (by omega), if_neg (by omega), b166_63, s164]
    simp only [Option.toList_some, List.cons_append, List.nil_append]
    rw [b166_65, if_pos (by rw [g0]; rfl), b166_79, if_neg (by omega), s165]
    simp only [Option.toList_some, List.cons_append, List.nil_append]
    rw [b166_84, if_pos (by rw [tw]; rfl), if_neg (by omega), if_neg (by omega)]
    exact k104 hT x0 x1 o2 h2 (fun q => rfl) hQ
  simp only [if_neg g0] at hQ
  rw [if_neg g0, b166_44]
  by_cases g2 : v = 2 ∨ v = 3
  · have tw : twop v = false := by rcases g2 with h | h <;> rw [h] <;> rfl
    have nj : isj v = false := by rcases g2 with h | h <;> rw [h] <;> rfl
    have ra : rda1 v = true := by rcases g2 with h | h <;> rw [h] <;> rfl
    have rk : rdk nl len nc v = nl - 1 := by unfold rdk; rw [if_pos g2]
    simp only [ra, rk, if_true] at hQ
    have t50 : T166 (d + 2) Q 50 [wO 10 121, wI kk, wI x, wI v, wM 2] [] τ := by
      rw [b166_50, hX.1.2.2 10025 121 rfl, hnl, wr_id (by omega) (by omega)]
      refine ⟨by omega, s159 (hX.TR hT) hs1 hX.2.1 (fun σ2 f2 r2 => ?_)⟩
      simp only [Option.toList_some, List.cons_append, List.nil_append]
      rw [b166_62, b166_63, s164]
      simp only [Option.toList_some, List.cons_append, List.nil_append]
      rw [b166_65, nj, if_pos (show b2i false = 0 from rfl), b166_79, if_neg (by omega), s165]
      simp only [Option.toList_some, List.cons_append, List.nil_append]
      rw [b166_84, tw, if_pos (show b2i false = 0 from rfl), if_neg (by omega), if_neg (by omega)]
      exact ⟨by omega, k104 hT x0 x1 (nxs_o hs1) (hX.nx f2 r2).sa (fun q => rfl) hQ⟩
    rcases g2 with h | h
    · rw [if_pos h]; exact t50
    · rw [if_neg (by omega), if_pos h]; exact t50
  rw [if_neg (fun q => g2 (Or.inl q)), if_neg (fun q => g2 (Or.inr q)), b166_63, s164]
  simp only [Option.toList_some, List.cons_append, List.nil_append]
  rw [b166_65]
  by_cases g3 : 11 ≤ v ∧ v ≤ 14
  · have tw : twop v = false := by unfold twop; simp; omega
    have nj : isj v = true := by unfold isj; simp; omega
    have ra : rda1 v = true := by unfold rda1 isj; simp; omega
    have rk : rdk nl len nc v = len - 1 := by unfold rdk; rw [if_neg g2, if_pos g3]
    simp only [ra, rk, if_true] at hQ
    rw [nj, if_neg (by decide), hX.1.2.2 10026 121 rfl, hlen, wr_id (by omega) (by omega)]
    refine ⟨by omega, s159 (hX.TR hT) hs1 hX.2.1 (fun σ2 f2 r2 => ?_)⟩
    simp only [Option.toList_some, List.cons_append, List.nil_append]
    rw [b166_78, b166_79, if_neg (by omega), s165]
    simp only [Option.toList_some, List.cons_append, List.nil_append]
    rw [b166_84, tw, if_pos (show b2i false = 0 from rfl), if_neg (by omega), if_neg (by omega)]
    exact ⟨by omega, k104 hT x0 x1 (nxs_o hs1) (hX.nx f2 r2).sa (fun q => rfl) hQ⟩
  have nj : isj v = false := by unfold isj; simp; omega
  rw [nj, if_pos (show b2i false = 0 from rfl), b166_79]
  have t91 : rda1 v = true → T166 (d + 2) Q 91 [wO 10 121, wI kk, wI x, wI v, wM 2] [] τ := by
    intro ra
    have rk : rdk nl len nc v = nc - 1 := by unfold rdk; rw [if_neg g2, if_neg g3]
    simp only [ra, rk, if_true] at hQ
    rw [b166_91, hX.1.2.2 10009 121 rfl, hnc, wr_id (by omega) (by omega)]
    refine ⟨by omega, s159 (hX.TR hT) hs1 hX.2.1 (fun σ2 f2 r2 => ?_)⟩
    simp only [Option.toList_some, List.cons_append, List.nil_append]
    rw [b166_103]
    exact ⟨by omega, k104 hT x0 x1 (nxs_o hs1) (hX.nx f2 r2).sa (fun q => rfl) hQ⟩
  by_cases g4 : v = 15
  · rw [if_pos g4]
    exact t91 (by rw [g4]; rfl)
  rw [if_neg g4, s165]
  simp only [Option.toList_some, List.cons_append, List.nil_append]
  rw [b166_84]
  by_cases g5 : twop v = true
  · rw [if_neg (by rw [g5]; decide)]
    exact t91 (by unfold rda1; rw [g5]; simp)
  have tw : twop v = false := by simpa using g5
  rw [tw, if_pos (show b2i false = 0 from rfl)]
  by_cases g6 : v = 24
  · rw [if_pos g6]
    exact t91 (by rw [g6]; rfl)
  rw [if_neg g6]
  by_cases g7 : v = 25
  · rw [if_pos g7]
    exact t91 (by rw [g7]; rfl)
  rw [if_neg g7]
  have ra : rda1 v = false := by
    unfold rda1
    rw [tw, nj]
    simp
    omega
  simp only [ra, Bool.false_eq_true, if_false] at hQ
  exact k104 hT x0 x1 hs1 hX (fun q => rfl) hQ
end RINS
