/-! the small program's classes and faces; they are written in the class -/
noncomputable def tN (P : Pg) (r : Rs) (XX : Int → Sx) (w : Int) : Int := if w ≤ 0 then w else nC P r XX (w - 1) + 1
/-- a class that is kept -/
def spC (P : Pg) (r : Rs) (XX : Int → Sx) (A : Pg) (c : Int) : Prop := (A 3002 (nC P r XX c) = nC P r XX c + 1 ∧ A 3003 (nC P r XX c) = (if P 3003 c < 0 then -1 else nC P r XX (P 3003 c))) ∧ A 3005 (nC P r XX c) = nB (kFc P r XX c) (P 3005 c) ∧ A 3006 (nC P r XX c) = nB (kM P r XX) (P 3007 c + P 3006 c) - nB (kM P r XX) (P 3007 c) ∧ A 3007 (nC P r XX c) = nB (kM P r XX) (P 3007 c)
def spF (P : Pg) (r : Rs) (XX : Int → Sx) (A : Pg) (c f : Int) : Prop := A 3008 (nC P r XX c * 6 + nF P r XX c f) = nF P r XX c f + 1 ∧ A 3009 (nC P r XX c * 6 + nF P r XX c f) = tN P r XX (P 3009 (c * 6 + f)) ∧ A 3010 (nC P r XX c * 6 + nF P r XX c f) = P 3010 (c * 6 + f)
/-- the face of a method, but for its name -/
def spM (P : Pg) (r : Rs) (XX : Int → Sx) (NL : Int → Int) (A : Pg) (m : Int) : Prop := (A 3011 (nM P r XX m) = nC P r XX (P 3011 m) ∧ A 3013 (nM P r XX m) = P 3013 m ∧ A 3014 (nM P r XX m) = tN P r XX (P 3014 m - 1) + 1 ∧ A 3015 (nM P r XX m) = P 3015 m) ∧ (∀ p, 0 ≤ p → p < P 3015 m → A 3016 (nM P r XX m * 3 + p) = tN P r XX (P 3016 (m * 3 + p))) ∧ A 3017 (nM P r XX m) = if r.1 m = 1 then NL m else P 3015 m + rcv P m
/-- where a class's methods begin -/
def ptM (P : Pg) (c : Int) : Int := if c < P 3000 0 then P 3007 c else P 3001 0
def lwz (e : Nat) (cB mB : Int) : Int := if e ≤ 3007 then cB else if e ≤ 3010 then cB * 6 else if e = 3016 then mB * 3 else mB
/-- only rows of the program at o2 change, and there from some place on -/
def lwF (o2 : Nat) (cB mB : Int) (σ σ' : j3_S) : Prop := (σ'.1 = σ.1 ∧ σ'.2.1 = σ.2.1) ∧ (∀ e o', ¬ (o' = o2 ∧ 3002 ≤ e ∧ e ≤ 3017) → σ'.2.2 e o' = σ.2.2 e o') ∧ ∀ e z, 3002 ≤ e → e ≤ 3017 → z < lwz e cB mB → σ'.2.2 e o2 z = σ.2.2 e o2 z
section CWRITE
variable {σ σ' σ'' σ0 : j3_S} {P : Pg} {r : Rs} {XX : Int → Sx} {NL : Int → Int} {o o2 d : Nat} {x c m i w k n v cB mB cB' mB' : Int} {Q : j3_P}
theorem ptM_0 (hg : good P) : ptM P 0 = 0 := by
  have hc := hg.1.1.1
  unfold ptM
  rw [if_pos (by omega)]
  have hm := hg.1.2.1.2.2 0 (by omega) (by omega)
  by_cases g : P 3007 0 = 0
  · exact g
  · obtain ⟨o1, o2, o3, o4⟩ := (hg.1.2.2.2 0 (by omega) (by omega)).1
    by_cases e : P 3011 0 = 0
    · rw [e] at o3; omega
    · have := hg.2.2.2.2 0 (P 3011 0) (by omega) (by omega) o2
      omega
theorem ptM_s (hg : good P) (c0 : 0 ≤ c) (c1 : c < P 3000 0) : ptM P (c + 1) = P 3007 c + P 3006 c := by
  have hm := hg.1.2.1.2.2 c c0 c1
  have hle : P 3007 c + P 3006 c ≤ ptM P (c + 1) := by
    unfold ptM
    by_cases g : c + 1 < P 3000 0
    · rw [if_pos g]; exact hg.2.2.2.2 c (c + 1) c0 (by omega) g
    · rw [if_neg g]; exact hm.2.2.2
  have hN : ptM P (c + 1) ≤ P 3001 0 := by
    unfold ptM
    by_cases g : c + 1 < P 3000 0
    · rw [if_pos g]
      have := hg.1.2.1.2.2 (c + 1) (by omega) g
      omega
    · rw [if_neg g]; omega
  by_cases e : ptM P (c + 1) = P 3007 c + P 3006 c
  · exact e
  · -- a method in the gap
    obtain ⟨o1, o2, o3, o4⟩ := (hg.1.2.2.2 (P 3007 c + P 3006 c) (by omega) (by omega)).1
    generalize P 3011 (P 3007 c + P 3006 c) = y at *
    rcases (by omega : y < c ∨ y = c ∨ c < y) with g | g | g
    · have := hg.2.2.2.2 y c o1 g c1
      omega
    · rw [g] at o4; omega
    · exfalso
      unfold ptM at hle e
      rw [if_pos (by omega)] at hle e
      by_cases g2 : y = c + 1
      · rw [g2] at o3; omega
      · have := hg.2.2.2.2 (c + 1) y (by omega) (by omega) o2
        have := hg.1.2.1.2.2 (c + 1) (by omega) (by omega)
        omega
theorem ptM_c (c1 : c < P 3000 0) : ptM P c = P 3007 c := by unfold ptM; rw [if_pos c1]
theorem lwF.rf : lwF o2 cB mB σ σ := ⟨⟨rfl, rfl⟩, fun _ _ _ => rfl, fun _ _ _ _ _ => rfl⟩
theorem lwz_m {e : Nat} (h1 : cB ≤ cB') (h2 : mB ≤ mB') : lwz e cB mB ≤ lwz e cB' mB' := by
  unfold lwz
  split
  · omega
  · split
    · omega
    · split <;> omega
theorem lwF.tr (h : lwF o2 cB mB σ σ') (h' : lwF o2 cB' mB' σ' σ'') (h1 : cB ≤ cB') (h2 : mB ≤ mB') : lwF o2 cB mB σ σ'' := by
  refine ⟨⟨h'.1.1.trans h.1.1, h'.1.2.trans h.1.2⟩, fun e o' q => (h'.2.1 e o' q).trans (h.2.1 e o' q), fun e z e0 e1 hz => ?_⟩
  have := lwz_m (e := e) h1 h2
  rw [h'.2.2 e z e0 e1 (by omega), h.2.2 e z e0 e1 hz]
/-- a row of it is written -/
theorem lwF.ast {e : Nat} {z v : Int} (e0 : 3002 ≤ e) (e1 : e ≤ 3017) (hz : lwz e cB mB ≤ z) : lwF o2 cB mB σ (σ.1, σ.2.1, j3_ast σ.2.2 e o2 z v) := by
  refine ⟨⟨rfl, rfl⟩, fun e' o' q => ?_, fun e' z' q0 q1 hz' => ?_⟩
  · show j3_up σ.2.2 e o2 _ e' o' = _
    exact up_ne (fun h => q ⟨h.2, by omega, by omega⟩)
  · show j3_up σ.2.2 e o2 (i_up (σ.2.2 e o2) z v) e' o2 z' = _
    by_cases g : e' = e
    · subst g
      rw [up_r, iu_n (by omega)]
    · rw [up_ne (fun h => g h.1)]
/-- the other program stays -/
theorem lwF.kb (h : lwF o2 cB mB σ σ') (hB : kbC σ o o2 P r XX NL) (hoo : ¬ o = o2 ∧ ¬ o = o2 + 17 ∧ ¬ o + 17 = o2) : kbC σ' o o2 P r XX NL := by
  have hA : ∀ e o', ¬ o' = o2 ∨ e < 3002 ∨ 3017 < e → σ'.2.2 e o' = σ.2.2 e o' := fun e o' q => h.2.1 e o' (by omega)
  obtain ⟨⟨a1, a2, a3⟩, a4, a5, a6, a7⟩ := hB
  refine ⟨⟨a1, by rw [h.1.2]; exact a2, by rw [h.1.2]; exact a3⟩, a4.mv ⟨⟨by rw [h.1.1], by rw [h.1.1]⟩, fun e _ => ⟨hA e o (Or.inl hoo.1), hA e (o + 17) (Or.inl hoo.2.2)⟩⟩, fun m m0 m1 g => ?_, fun m m0 m1 => by rw [hA 4000 92 (by omega)]; exact a6 m m0 m1, fun c c0 c1 => by rw [hA 4001 92 (by omega)]; exact a7 c c0 c1⟩
  obtain ⟨b1, b2, b3⟩ := a5 m m0 m1 g
  refine ⟨by rw [hA 0 _ (by omega)]; exact b1, by rw [hA 6010 _ (by omega)]; exact b2, fun i i0 i1 => ?_⟩
  rw [hA 1 _ (by omega), hA 2 _ (by omega), hA 3 _ (by omega), hA 4 _ (by omega), hA 6003 _ (by omega), hA 6004 _ (by omega)]
  exact b3 i i0 i1
theorem lwF.nu (h : lwF o2 cB mB σ σ') (hn : nuC σ P r XX) : nuC σ' P r XX := by
  unfold nuC
  rw [h.2.1 6000 83 (by omega), h.2.1 6001 83 (by omega), h.2.1 6002 83 (by omega)]
  exact hn
theorem s100 (hg : good P) (hn : nuC σ P r XX) (w1 : w ≤ P 3000 0) (hk : 0 < w → kC P r XX (w - 1)) : j3_tc false (d + 1) 100 [wO 6 83, wI w] σ Q = Q (some (wI (tN P r XX w))) σ := by
  have hc10 := hg.1.1.2.1
  rw [e100, b100_0]
  unfold tN
  by_cases g : 0 < w
  · have nn := nw_b (n := P 3000 0) (x := w - 1) (by omega) (by omega) (hk g)
    have e : nC P r XX (w - 1) = nwN (kC P r XX) (w - 1) := rfl
    rw [if_pos g, if_neg (by omega), wr_id (z := w - 1) (by omega) (by omega), hn.1 (w - 1) (by omega) (by omega), e, wr_id (by omega) (by omega)]
    exact propext ⟨fun q => q.2, fun q => ⟨by omega, q⟩⟩
  · rw [if_neg g, if_pos (by omega)]
end CWRITE
