/-! the flow: rounds, as one thing; the class's check -/
def lk (P : Pg) (m nl i : Int) (F : Fl) : Int × Fl × Bool := look P m nl i (P 1 (m * 120 + i)) (P 2 (m * 120 + i)) (P 3 (m * 120 + i)) F
def rnd (P : Pg) (m nl : Int) : Nat → Int → Fl → Bool → Int × Int × Fl × Bool
  | 0, _, F, c => (0, 0, F, c)
  | r + 1, i, F, c => if F.1 i < 0 then rnd P m nl r (i + 1) F c else if (lk P m nl i F).1 = 0 then rnd P m nl r (i + 1) (lk P m nl i F).2.1 (c || (lk P m nl i F).2.2) else ((lk P m nl i F).1, i, F, c)
def itr (P : Pg) (m nl : Int) : Nat → Fl → Option (Int × Int × Fl)
  | 0, _ => none
  | n + 1, F => if (rnd P m nl (P 0 m).toNat 0 F false).1 = 0 then (if (rnd P m nl (P 0 m).toNat 0 F false).2.2.2 = true then itr P m nl n (rnd P m nl (P 0 m).toNat 0 F false).2.2.1 else some (0, 0, (rnd P m nl (P 0 m).toNat 0 F false).2.2.1)) else some ((rnd P m nl (P 0 m).toNat 0 F false).1, (rnd P m nl (P 0 m).toNat 0 F false).2.1, (rnd P m nl (P 0 m).toNat 0 F false).2.2.1)
def rcv (P : Pg) (m : Int) : Int := if P 3013 m = 0 then 1 else 0
def ini (P : Pg) (m x : Int) : Int := if x < rcv P m then 4 + P 3011 m else if x < rcv P m + P 3015 m then tyof (P 3016 (m * 3 + (x - rcv P m))) else 0
def Fi (P : Pg) (m : Int) : Fl := (fun i => if i = 0 then 0 else -1, fun _ _ => 0, fun _ x => ini P m x)
section RND
variable {d : Nat} {Q : j3_P} {P : Pg} {m nl i : Int} {σ : j3_S} {F : Fl}
theorem rcv_01 : rcv P m = 0 ∨ rcv P m = 1 := by unfold rcv; split <;> simp
theorem ini_o (hW : WFp P) (m0 : 0 ≤ m) (m1 : m < P 3001 0) {x : Int} (x0 : 0 ≤ x) : tyo P (ini P m x) := by
  obtain ⟨hs, hm, -, hM⟩ := hW
  obtain ⟨q1, -, -, q4, -⟩ := hM m m0 m1
  have := hs.1
  have hr := rcv_01 (P := P) (m := m)
  unfold ini
  split
  · exact ⟨by omega, by omega⟩
  · split
    · have := q4.2.2 (x - rcv P m) (by omega) (by omega)
      exact (tyof_o hs this.1 this.2).1
    · exact ⟨by omega, by omega⟩
theorem Fi_ok (hW : WFp P) (m0 : 0 ≤ m) (m1 : m < P 3001 0) : Fok P nl (Fi P m) := by
  intro i i0 i1 hi
  simp only [Fi] at hi ⊢
  by_cases g : i = 0
  · simp only [if_pos g]
    exact ⟨by omega, fun k k0 k1 => absurd k1 (by omega), fun x x0 x1 => ini_o hW m0 m1 x0⟩
  · rw [if_neg g] at hi
    omega
theorem lk_ok (hW : WFp P) (m0 : 0 ≤ m) (m1 : m < P 3001 0) (hnl : P 3017 m = nl) (i0 : 0 ≤ i) (i1 : i < P 0 m) (h0 : 0 ≤ F.1 i) (hok : Fok P nl F) (h : (lk P m nl i F).1 = 0) : Fok P nl (lk P m nl i F).2.1 := by
  obtain ⟨hs, hm, -, hM⟩ := id hW
  obtain ⟨-, -, -, -, -, q6, q7⟩ := hM m m0 m1
  have hi := q7 i i0 i1
  obtain ⟨o1, o2, o3⟩ := hok i i0 (by omega) h0
  unfold lk look at h ⊢
  by_cases g : exf P m (P 1 (m * 120 + i)) (P 2 (m * 120 + i)) (P 3 (m * 120 + i)) (F.1 i) (F.2.1 i) (F.2.2 i) = 0
  · rw [if_pos g] at h ⊢
    obtain ⟨e1, -, -, e4⟩ := exf0 g
    exact ar2_ok hs hok e4 (exs_o hW hi hnl.symm e1 o2 o3) (exl_o e1 o2 o3) h
  · rw [if_neg g] at h ⊢
    exact absurd h g
theorem rnd_ok (hW : WFp P) (m0 : 0 ≤ m) (m1 : m < P 3001 0) (hnl : P 3017 m = nl) : ∀ (r : Nat) (i : Int) (F : Fl) (c : Bool), 0 ≤ i → i + r = P 0 m → Fok P nl F → Fok P nl (rnd P m nl r i F c).2.2.1
  | 0, i, F, c, i0, hi, h => h
  | r + 1, i, F, c, i0, hi, h => by
    simp only [rnd]
    split
    · exact rnd_ok hW m0 m1 hnl r (i + 1) F c (by omega) (by omega) h
    · split
      · rename_i g1 g2
        exact rnd_ok hW m0 m1 hnl r (i + 1) _ _ (by omega) (by omega) (lk_ok hW m0 m1 hnl i0 (by omega) (by omega) h g2)
      · exact h
/-- what the class's flow may change -/
def flI : List Nat := [1000, 1001, 1004, 1010, 1012, 1013, 1014]
def flA : List Nat := [1005, 1006, 1007, 1008, 1009, 1011]
theorem CP.fl {o : Nat} {σ' : j3_S} (h : CP σ o P) (hf : frm flI flA σ σ') : CP σ' o P := h.fr hf ⟨rfl, rfl⟩ (la_ok rfl)
theorem CP.flp {σ' : j3_S} (h : CP σ (σ.2.1 0) P) (hf : frm flI flA σ σ') : CP σ' (σ'.2.1 0) P := by
  rw [hf.1]
  exact h.fl hf
theorem fr_p {li la : List Nat} {σ' : j3_S} (h : ¬ σ.2.1 0 = 0) (hf : frm li la σ σ') : ¬ σ'.2.1 0 = 0 := by
  rw [hf.1]
  exact h
theorem c28 {o1 : Nat} {x2 x3 x4 : Int} (hW : WFp P) (m0 : 0 ≤ m) (m1 : m < P 3001 0) (hnl : P 3017 m = nl) : ∀ (r : Nat) (i : Int) (F : Fl) (c : Bool) (σ : j3_S), ¬ σ.2.1 0 = 0 → CP σ (σ.2.1 0) P → σ.1 1003 76 = m → 0 ≤ i → i + r = P 0 m → FC σ nl F → Fok P nl F → σ.1 1004 76 = b2i c → σ.1 1001 76 = 0 →
    (∀ σ' x5, frm flI flA σ σ' → σ'.1 1001 76 = (rnd P m nl r i F c).1 → (¬ (rnd P m nl r i F c).1 = 0 → σ'.1 1000 76 = (rnd P m nl r i F c).2.1) → ((rnd P m nl r i F c).1 = 0 → FC σ' nl (rnd P m nl r i F c).2.2.1 ∧ σ'.1 1004 76 = b2i (rnd P m nl r i F c).2.2.2) → T2 (d + 5) Q 55 [wO 1 76, wO 3 o1, wI x2, wI x3, wI x4, wI x5] [] σ') →
    T2 (d + 5) Q 28 [wO 1 76, wO 3 o1, wI x2, wI x3, wI x4, wI i] [] σ
  | 0, i, F, c, σ, hp, hC, hm, i0, hi, hF, hok, hch, hb, h => by
    have hm2 := hW.2.1.2.1
    rw [b2_28, hm, (hC.2.2.2 m m0 m1).1.2.2.2.2.2.2, if_neg (by omega)]
    exact ⟨hp, by omega, h σ i frm.rf hb (fun g => absurd rfl g) (fun _ => ⟨hF, hch⟩)⟩
  | r + 1, i, F, c, σ, hp, hC, hm, i0, hi, hF, hok, hch, hb, h => by
    have hm2 := hW.2.1.2.1
    obtain ⟨-, -, -, -, -, q6, -⟩ := hW.2.2.2 m m0 m1
    rw [b2_28, hm, (hC.2.2.2 m m0 m1).1.2.2.2.2.2.2, if_pos (by omega), hb, if_pos rfl, hF.1 i i0 (by omega)]
    refine ⟨hp, by omega, by omega, ?_⟩
    by_cases g : F.1 i < 0
    · rw [if_pos g, b2_53, wr_id (by omega) (by omega)]
      have e : rnd P m nl (r + 1) i F c = rnd P m nl r (i + 1) F c := by simp only [rnd, if_pos g]
      rw [e] at h
      exact c28 hW m0 m1 hnl r (i + 1) F c σ hp hC hm (by omega) (by omega) hF hok hch hb h
    · rw [if_neg g]
      have f1 : frm flI flA σ (j3_up σ.1 1000 76 i, σ.2.1, σ.2.2) := frm.I rfl frm.rf
      refine s6 (F := F) (m := m) (nl := nl) (op := P 1 (m * 120 + i)) (a := P 2 (m * 120 + i)) (b := P 3 (m * 120 + i)) hp (hC.fl f1) hW ((f1.2.1 1003 76 rfl).trans hm) m0 m1 hnl i0 (by omega) rfl rfl rfl (by omega) hF hok (fun σ1 fr1 k1 => ?_)
      change ((lk P m nl i F).1 = 0 → FC σ1 nl (lk P m nl i F).2.1 ∧ σ1.1 1004 76 = if (lk P m nl i F).2.2 = true then 1 else j3_up σ.1 1000 76 i 1004 76) at k1
      change T2 (d + 5) Q 52 [wO 1 76, wO 3 o1, wI x2, wI x3, wI x4, wI i] [wI (lk P m nl i F).1, wO 1 76] σ1
      rw [b2_52]
      have f2 : frm flI flA σ1 (j3_up σ1.1 1001 76 (lk P m nl i F).1, σ1.2.1, σ1.2.2) := frm.I rfl frm.rf
      have fA := (f1.tr (fr1.wd (sub_el rfl) (sub_el rfl))).tr f2
      rw [b2_53, wr_id (by omega) (by omega)]
      by_cases g2 : (lk P m nl i F).1 = 0
      · obtain ⟨k2, k3⟩ := k1 g2
        have e : rnd P m nl (r + 1) i F c = rnd P m nl r (i + 1) (lk P m nl i F).2.1 (c || (lk P m nl i F).2.2) := by simp only [rnd, if_neg g, if_pos g2]
        rw [e] at h
        refine c28 hW m0 m1 hnl r (i + 1) (lk P m nl i F).2.1 (c || (lk P m nl i F).2.2) _ (fr_p hp fA) (hC.flp fA) ((fA.2.1 1003 76 rfl).trans hm) (by omega) (by omega) k2 (lk_ok hW m0 m1 hnl i0 (by omega) (by omega) hok g2) ?_ (by simp only [up_r]; exact g2) (fun σ' x5 hf => h σ' x5 (fA.tr hf))
        simp only [up_e (show ((1004 : Nat) == 1001) = false from rfl)]
        rw [k3, up_e rfl, hch]
        cases c <;> cases (lk P m nl i F).2.2 <;> rfl
      · have e : rnd P m nl (r + 1) i F c = ((lk P m nl i F).1, i, F, c) := by simp only [rnd, if_neg g, if_neg g2]
        rw [e] at h
        have h55 := h _ (i + 1) fA (by simp only [up_r]) (fun _ => by simp only [up_e (show ((1000 : Nat) == 1001) = false from rfl)]; rw [fr1.2.1 1000 76 rfl]; simp only [up_r]) (fun q => absurd q g2)
        rw [b2_28]
        simp only [up_r]
        rw [if_neg g2]
        have hm' := (fA.2.1 1003 76 rfl).trans hm
        have hp1 := fr_p hp fA
        dsimp only at hm' hp1
        refine ⟨hp1, by omega, ?_⟩
        split
        · exact h55
        · exact h55
end RND
