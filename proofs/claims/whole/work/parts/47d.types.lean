section TYPES2
variable {d : Nat} {Q : j3_P} {P : Pg} {s m nl yb i : Int} {σ : j3_S} {F : Fl}
def loY (σ σ' : j3_S) : Prop := (∀ z, z < 9600 → σ'.2.2 10035 121 z = σ.2.2 10035 121 z ∧ σ'.2.2 10036 121 z = σ.2.2 10036 121 z) ∧ (∀ z, z < 96000 → σ'.2.2 10037 121 z = σ.2.2 10037 121 z) ∧ ∀ z, z < 192000 → σ'.2.2 10038 121 z = σ.2.2 10038 121 z
theorem loY.rf : loY σ σ := ⟨fun _ _ => ⟨rfl, rfl⟩, fun _ _ => rfl, fun _ _ => rfl⟩
theorem loY.ot {σ' σ'' : j3_S} (h : oth yb σ σ') (hy : 9600 ≤ yb) (h' : loY σ' σ'') : loY σ σ'' := ⟨fun z g => ⟨(h'.1 z g).1.trans (h.1 z (by omega)).1, (h'.1 z g).2.trans (h.1 z (by omega)).2⟩, fun z g => (h'.2.1 z g).trans (h.2.1 z (by omega)), fun z g => (h'.2.2 z g).trans (h.2.2 z (by omega))⟩
def Fn : Fl := (fun _ => -1, fun _ _ => 0, fun _ _ => 0)
theorem r2 {n : Nat} {R : Int → Int × Int × Fl} (hW : WFp P) (s0 : 0 ≤ s) (s2 : s ≤ 2) (hR : ∀ m, 0 ≤ m → m < P 3001 0 → itr P m (P 3017 m) n (Fi P m) = some (R m)) : ∀ (r : Nat) (m : Int) (w3 w4 w5 : j3_W) (σ : j3_S), m + r = P 3001 0 → 0 ≤ m → RP σ s P → σ.1 10007 121 = 0 → (σ.1 10042 121 = 0 ∨ σ.1 10042 121 = 1) → (∀ m', 0 ≤ m' → m' < m → FR σ ((if s = 0 then 0 else 9600) + 120 * m') (P 3017 m') (R m').2.2 ∧ Fok P (P 3017 m') (R m').2.2) →
    (∀ σ', frm tyI tyA σ σ' → σ'.1 10007 121 = (ffl R r m).1 → (¬ (ffl R r m).1 = 0 → bdA P (ffl R r m).2.1 (ffl R r m).2.2 σ') → ((ffl R r m).1 = 0 → ∀ m', 0 ≤ m' → m' < P 3001 0 → FR σ' ((if s = 0 then 0 else 9600) + 120 * m') (P 3017 m') (R m').2.2 ∧ Fok P (P 3017 m') (R m').2.2) → (σ'.1 10042 121 = 0 ∨ σ'.1 10042 121 = 1) → (¬ s = 0 → loY σ σ') → Q none σ') →
    T180 (d + 4) Q 2 [wO 10 121, wI s, wI m, w3, w4, w5] [] σ
  | 0, m, w3, w4, w5, σ, hm, m0, hP, hb, hc, hf, h => by
    rw [b180_2, hP.2.1, if_neg (by omega)]
    exact ⟨by omega, h σ frm.rf hb (fun g => absurd rfl g) (fun _ m' h0 h1 => hf m' h0 (by omega)) hc (fun _ => loY.rf)⟩
  | r + 1, m, w3, w4, w5, σ, hm, m0, hP, hb, hc, hf, h => by
    have hm2 := hW.2.1.2.1
    have hn10 := hW.1.2.1
    have m1 : m < P 3001 0 := by omega
    obtain ⟨q1, q2, -, q4, q5, q6, -⟩ := hW.2.2.2 m m0 m1
    have hr01 := rcv_01 (P := P) (m := m)
    have hq : rcv P m = 1 - P 3013 m := by unfold rcv; split <;> omega
    generalize hyb : (if s = 0 then (0 : Int) else 9600) + 120 * m = yb
    generalize hnl : P 3017 m = nl at q5
    rw [b180_2, hP.2.1, if_pos (by omega), hb, if_pos rfl]
    simp (disch := omega) only [wr_id]
    refine ⟨by omega, r19 s0 s2 m0 (by omega) hyb.symm 120 0 σ (by omega) (by omega) (fun j j0 j1 => absurd j1 (by omega)) (fun σ1 f1 o1 z1 => ?_)⟩
    have fA : frm tyI tyA σ σ1 := f1.wd (sub_el rfl) (sub_el rfl)
    have hP1 := hP.fr fA (lr_ok rfl)
    rw [b180_19, if_neg (by omega), (hP1.2.2.2 m m0 m1).1.1, (hP1.2.2.2 m m0 m1).1.2.2.1]
    refine ⟨by omega, ?_⟩
    -- behind the first locals
    have go : ∀ σ2, frm [10041] [10040] σ1 σ2 → σ2.1 10041 121 = 0 → (∀ z, 0 ≤ z → z < rcv P m + 0 → σ2.2.2 10040 121 z = ini P m z) → T180 (d + 4) Q 61 [wO 10 121, wI s, wI m, wI (80 * s + m), wI (rcv P m), w5] [] σ2 := by
      intro σ2 f2 hh z2
      have fB := fA.tr (f2.wd (sub_el rfl) (sub_el rfl) : frm tyI tyA σ1 σ2)
      have oB : oth yb σ σ2 := o1.tr (oth.fr f2 rfl rfl rfl rfl)
      rw [b180_61]
      refine r63 hW s0 s2 m0 m1 rfl (P 3015 m).toNat 0 σ2 (hP.fr fB (lr_ok rfl)) (by omega) (by omega) z2 (fun σ3 f3 z3 => ?_)
      have fC := fB.tr (f3.wd (sub_el rfl) (sub_el rfl) : frm tyI tyA σ2 σ3)
      have oC : oth yb σ σ3 := oB.tr (oth.fr f3 rfl rfl rfl rfl)
      have hP3 := hP.fr fC (lr_ok rfl)
      have b3 : σ3.1 10007 121 = 0 := by rw [f3.2.1 10007 121 rfl, f2.2.1 10007 121 rfl, f1.2.1 10007 121 rfl]; exact hb
      have c3 : σ3.1 10042 121 = 0 ∨ σ3.1 10042 121 = 1 := by rw [f3.2.1 10042 121 rfl, f2.2.1 10042 121 rfl, f1.2.1 10042 121 rfl]; exact hc
      have e0 : ∀ st, arf Fn 0 0 st = 0 := fun st => by simp [arf, Fn]
      have e1 : ∀ st l, arc P nl Fn 0 0 st l = true := fun st l => by simp [arc, Fn]
      refine s178 (d := d + 1) (F := Fn) (n := 0) (nl := nl) (yb := yb) hP3 hW s0 s2 m0 m1 hnl hyb.symm (by omega) (by omega) b3 (by rw [f3.2.1 10041 121 rfl]; exact hh) (by omega) (by omega) c3 (fun j j0 j1 => ⟨?_, fun hj => absurd hj (by simp [Fn])⟩) (fun j j0 j1 hj => absurd hj (by simp [Fn])) (fun k k0 k1 => absurd k1 (by omega)) (fun z z0 z1 => by rw [z3 z z0 (by omega)]; exact ini_o hW m0 m1 z0) (fun z z0 z1 => ?_) (fun σ4 f4 o4 k1 k2 k3 => ?_)
      · rw [f3.2.2 10035 121 rfl, f2.2.2 10035 121 rfl, z1 j j0 j1]
        simp [Fn]
      · rw [z3 z (by omega) z1]
        unfold ini
        rw [if_neg (by omega), if_neg (by omega)]
      · rw [e0] at k1 k3
        obtain ⟨k4, k5⟩ := k3 rfl
        rw [e1, if_pos rfl] at k5
        have eF : Feq nl (arF P nl Fn 0 0 (σ3.2.2 10039 121) (σ3.2.2 10040 121)) (Fi P m) := by
          have ea : arF P nl Fn 0 0 (σ3.2.2 10039 121) (σ3.2.2 10040 121) = (i_up (fun _ => -1) 0 0, up2 (fun _ _ => 0) 0 (σ3.2.2 10039 121), up2 (fun _ _ => 0) 0 (σ3.2.2 10040 121)) := by simp [arF, Fn]
          rw [ea]
          refine ⟨fun j => rfl, fun j j0 j1 hj => ?_⟩
          by_cases g : j = 0
          · subst g
            refine ⟨fun k k0 k1 => ?_, fun z z0 z1 => ?_⟩
            · simp [i_up] at k1
              omega
            · simp only [up2, if_true, Fi]
              exact z3 z z0 (by omega)
          · simp [i_up, g] at hj
        have fD := fC.tr (f4.wd (sub_el rfl) (sub_el rfl) : frm tyI tyA σ3 σ4)
        simp only [Option.toList_none, List.nil_append]
        refine r109 hW s0 s2 m0 m1 hnl hyb.symm rfl n (Fi P m) 20 σ4 (R m) (by rw [← hnl]; exact hR m m0 m1) (hP.fr fD (lr_ok rfl)) (FR_c eF k4) (Fi_ok hW m0 m1) k5 k1 (fun σ5 x5 f5 o5 j1 j2 j3 => ?_)
        have fE := fD.tr f5
        have oE : oth yb σ σ5 := (oC.tr o4).tr o5
        rw [b180_152, wr_id (by omega) (by omega)]
        refine ⟨Or.inl rfl, ?_⟩
        have f6 : frm tyI tyA σ5 (j3_up σ5.1 10042 121 0, σ5.2.1, σ5.2.2) := frm.I rfl frm.rf
        have fG := fE.tr f6
        by_cases g : (R m).1 = 0
        · have ef : ffl R (r + 1) m = ffl R r (m + 1) := by simp only [ffl, if_pos g]
          rw [ef] at h
          refine r2 hW s0 s2 hR r (m + 1) _ _ _ _ (by omega) (by omega) (hP.fr fG (lr_ok rfl)) (by simp only [up_e (show ((10007 : Nat) == 10042) = false from rfl)]; exact j1.trans g) (Or.inl (by simp only [up_r])) (fun m' h0 h1 => ?_) (fun σ' hf' z1 z2 z3 z4 z5 => h σ' (fG.tr hf') z1 z2 z3 z4 (fun hs0 => loY.ot (yb := yb) oE (by rw [← hyb, if_neg hs0]; omega) (z5 hs0)))
          by_cases g2 : m' = m
          · subst g2
            rw [hyb, hnl]
            obtain ⟨j4, j5⟩ := j3 g
            exact ⟨j4, j5⟩
          · obtain ⟨w1, w2⟩ := hf m' h0 (by omega)
            obtain ⟨-, -, -, -, p5, -⟩ := hW.2.2.2 m' h0 (by omega)
            exact ⟨w1.ot w2 (by omega) oE (by omega), w2⟩
        · have ef : ffl R (r + 1) m = ((R m).1, m, (R m).2.1) := by simp only [ffl, if_neg g]
          rw [ef] at h
          have hfin := h _ fG (by simp only [up_e (show ((10007 : Nat) == 10042) = false from rfl)]; exact j1) (fun _ => j2 g) (fun q => absurd q g) (Or.inl (by simp only [up_r])) (fun hs0 => loY.ot (yb := yb) oE (by rw [← hyb, if_neg hs0]; omega) loY.rf)
          rw [b180_2]
          simp only [up_e (show ((10007 : Nat) == 10042) = false from rfl)]
          rw [j1, if_neg g, ite_self]
          exact ⟨by omega, hfin⟩
    by_cases g : P 3013 m = 0
    · have er : rcv P m = 1 := by unfold rcv; rw [if_pos g]
      rw [if_pos g, wr_id (by omega) (by omega)]
      refine ⟨by omega, by omega, ?_⟩
      rw [er] at go
      refine go _ (frm.I rfl (frm.A rfl frm.rf)) (by simp only [up_r]) (fun z z0 z1 => ?_)
      have : z = 0 := by omega
      subst this
      simp only [j3_ast, up_r, iu_r]
      unfold ini
      rw [if_pos (by omega)]
    · have er : rcv P m = 0 := by unfold rcv; rw [if_neg g]
      rw [if_neg g]
      rw [er] at go
      exact go _ (frm.I rfl frm.rf) (by simp only [up_r]) (fun z z0 z1 => absurd z1 (by omega))
theorem s180 {n : Nat} {R : Int → Int × Int × Fl} (hW : WFp P) (s0 : 0 ≤ s) (s2 : s ≤ 2) (hR : ∀ m, 0 ≤ m → m < P 3001 0 → itr P m (P 3017 m) n (Fi P m) = some (R m)) (hP : RP σ s P) (hb : σ.1 10007 121 = 0) (hc : σ.1 10042 121 = 0 ∨ σ.1 10042 121 = 1)
    (h : ∀ σ', frm tyI tyA σ σ' → σ'.1 10007 121 = (ffl R (P 3001 0).toNat 0).1 → (¬ (ffl R (P 3001 0).toNat 0).1 = 0 → bdA P (ffl R (P 3001 0).toNat 0).2.1 (ffl R (P 3001 0).toNat 0).2.2 σ') → ((ffl R (P 3001 0).toNat 0).1 = 0 → ∀ m', 0 ≤ m' → m' < P 3001 0 → FR σ' ((if s = 0 then 0 else 9600) + 120 * m') (P 3017 m') (R m').2.2 ∧ Fok P (P 3017 m') (R m').2.2) → (σ'.1 10042 121 = 0 ∨ σ'.1 10042 121 = 1) → (¬ s = 0 → loY σ σ') → Q none σ') :
    j3_tc true (d + 5) 180 [wO 10 121, wI s] σ Q := by
  have hm0 := hW.2.1.1
  rw [e180, b180_0]
  exact r2 hW s0 s2 hR (P 3001 0).toNat 0 _ _ _ σ (by omega) (by omega) hP hb hc (fun m' h0 h1 => absurd h1 (by omega)) h
end TYPES2
