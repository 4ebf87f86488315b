/-! level 3 and the law -/
theorem ds_sym (σ τ : j3_S) : d_s false σ τ = d_s true τ σ := by
  refine Prod.ext ?_ (Prod.ext rfl ?_)
  · funext e o
    show Int32.ofInt (bif (e / 1000 == 10) == false then σ.1 e o else τ.1 e o) = Int32.ofInt (bif (e / 1000 == 10) == true then τ.1 e o else σ.1 e o)
    cases e / 1000 == 10 <;> rfl
  · funext e o n
    show Int32.ofInt (bif (e / 1000 == 10) == false then σ.2.2 e o (n : Int) else τ.2.2 e o (n : Int)) = Int32.ofInt (bif (e / 1000 == 10) == true then τ.2.2 e o (n : Int) else σ.2.2 e o (n : Int))
    cases e / 1000 == 10 <;> rfl
theorem s2_of {K : j2_S → Prop} {KK : j3_S → j3_S → Prop} {yX yM : Nat} {as : List j3_W} {σc σr : j3_S} (hok : oks3 as) (hc : okS σc) (hr : okS σr) (hK : ∀ σc σr, okS σc → okS σr → KK σc σr → K (d_s false σc σr)) (h : q2 KK yX yM as σc σr) : lw_S2 K yX yM (as.map d_w) (d_s false σc σr) := by
  refine j3_sim (k := false) (τ := σr) 20 yX (wO 9 0 :: as) σc _ _ h (oks3_c.mpr ⟨lw_o9, hok⟩) hc (fun r σ1 hq hr1 hc1 => ?_)
  obtain ⟨v, rfl, hM⟩ := hq
  refine ⟨Int32.ofInt v, rfl, ?_⟩
  rw [ds_sym]
  refine j3_sim (k := true) (τ := σ1) 20 yM (wO 10 121 :: as) σr _ _ hM (oks3_c.mpr ⟨lw_o10, hok⟩) hr (fun r' σ2 hq2 hr2 hr' => ?_)
  obtain ⟨rfl, hKK⟩ := hq2
  refine ⟨rfl, ?_⟩
  rw [← ds_sym]
  exact hK σ1 σ2 hc1 hr' hKK
/-- M's part behind a throw -/
def q1x (KK : j3_S → j3_S → Prop) (yM : Nat) (as : List j3_W) (k : Int) (σc σr : j3_S) : Prop := j3_tc true 20 yM (wO 10 121 :: as) σr (fun r σ1 => (∃ v, r = some (wI v)) ∧ j3_tc true 20 155 [wO 10 121] σ1 (fun r' σ2 => r' = some (wI k) ∧ KK σc σ2))
theorem sx_of {K : j2_S → Prop} {KK : j3_S → j3_S → Prop} {yM : Nat} {as : List j3_W} {k : Int} {σc σr : j3_S} (hok : oks3 as) (hc : okS σc) (hr : okS σr) (hK : ∀ σc σr, okS σc → okS σr → KK σc σr → K (d_s false σc σr)) (h : q1x KK yM as k σc σr) : lw_Sx K yM (as.map d_w) (Int32.ofInt k) (d_s false σc σr) := by
  unfold lw_Sx
  rw [ds_sym]
  refine j3_sim (k := true) (τ := σc) 20 yM (wO 10 121 :: as) σr _ _ h (oks3_c.mpr ⟨lw_o10, hok⟩) hr (fun r σ1 hq hr1 hc1 => ?_)
  obtain ⟨⟨v, rfl⟩, hM⟩ := hq
  refine ⟨⟨Int32.ofInt v, rfl⟩, ?_⟩
  refine j3_sim (k := true) (τ := σc) 20 155 [wO 10 121] σ1 _ _ hM (oks3_c.mpr ⟨lw_o10, fun w hw => by cases hw⟩) hc1 (fun r' σ2 hq2 hr2 hr' => ?_)
  obtain ⟨rfl, hKK⟩ := hq2
  refine ⟨rfl, ?_⟩
  rw [← ds_sym]
  exact hK σc σ2 hc hr' hKK
/-- the start -/
def c0 : j3_S := (fun e _ => if ([1000, 1003, 2006, 5008, 5009, 5010, 9013] : List Nat).contains e then -1 else 0, fun i => if i = 7 then 2 else if i = 8 then 25 else if i = 9 then 48 else 0, fun e _ i => if e = 9010 ∧ 1 ≤ i ∧ i ≤ 3 then -1 else 0)
def r0 : j3_S := (fun _ _ => 0, fun _ => 0, fun _ _ _ => 0)
theorem init3 : j2_init = d_s false c0 r0 := by
  refine Prod.ext ?_ (Prod.ext rfl ?_)
  · funext e o
    show (if ([1000, 1003, 2006, 5008, 5009, 5010, 9013] : List Nat).contains e then (-1 : Int32) else 0) = Int32.ofInt (bif (e / 1000 == 10) == false then (if ([1000, 1003, 2006, 5008, 5009, 5010, 9013] : List Nat).contains e then -1 else 0) else 0)
    cases h : ([1000, 1003, 2006, 5008, 5009, 5010, 9013] : List Nat).contains e
    · cases (e / 1000 == 10) == false <;> rfl
    · have h2 : e / 1000 ≠ 10 := by
        simp at h
        omega
      have h3 : (e / 1000 == 10) = false := by simp [h2]
      rw [h3]
      rfl
  · funext e o n
    show (if e = 9010 ∧ 1 ≤ n ∧ n ≤ 3 then (-1 : Int32) else 0) = Int32.ofInt (bif (e / 1000 == 10) == false then (if e = 9010 ∧ 1 ≤ (n : Int) ∧ (n : Int) ≤ 3 then -1 else 0) else 0)
    by_cases h : e = 9010 ∧ 1 ≤ n ∧ n ≤ 3
    · rw [if_pos h, if_pos (by omega), h.1]
      rfl
    · rw [if_neg h, if_neg (by omega)]
      cases (e / 1000 == 10) == false <;> rfl
theorem c0_ok : okS c0 := by
  refine ⟨fun e o => ?_, fun i hi => ?_, fun e o i => ?_⟩
  · show rg (if _ then -1 else 0)
    split
    · exact ⟨by decide, by decide⟩
    · exact rg0
  · rcases (show i = 0 ∨ i = 1 ∨ i = 2 ∨ i = 3 ∨ i = 4 ∨ i = 5 ∨ i = 6 ∨ i = 7 ∨ i = 8 ∨ i = 9 by omega) with rfl | rfl | rfl | rfl | rfl | rfl | rfl | rfl | rfl | rfl <;> decide
  · show rg (if _ then -1 else 0)
    split
    · exact ⟨by decide, by decide⟩
    · exact rg0
theorem r0_ok : okS r0 := ⟨fun _ _ => rg0, fun _ _ => Or.inl rfl, fun _ _ _ => rg0⟩
theorem v_of (a : Int32) : vI a = d_w (wI a.toInt) := by
  show _ = Sum.inl (Int32.ofInt a.toInt)
  rw [Int32.ofInt_toInt]
theorem ok_t (a : Int32) : ok3 (wI a.toInt) := rg_t a
