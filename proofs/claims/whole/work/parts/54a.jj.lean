/-! the invariant of both objects -/
/-- nothing of the program at the cell o changes -/
def smP (o : Nat) (σ σ' : j3_S) : Prop := (σ'.1 3000 o = σ.1 3000 o ∧ σ'.1 3001 o = σ.1 3001 o) ∧ ∀ e, pgA.elem e = true → σ'.2.2 e o = σ.2.2 e o ∧ σ'.2.2 e (o + 17) = σ.2.2 e (o + 17)
/-- nothing of the slot s changes -/
def smS (s : Int) (σ σ' : j3_S) : Prop := ∀ e z, 10009 ≤ e → e ≤ 10034 → s * slz e ≤ z → z < (s + 1) * slz e → ¬ e = 10033 → σ'.2.2 e 121 z = σ.2.2 e 121 z
/-- the great program -/
def gpR (σc σr : j3_S) (P : Pg) : Prop := (CP σc (σc.2.1 7) P ∧ (∀ c, 0 ≤ c → c < P 3000 0 → σc.2.2 3004 (σc.2.1 7) c = P 3004 c) ∧ RP σr 0 P ∧ good P ∧ ∀ m, 0 ≤ m → m < P 3001 0 → (res P m).1 = 0) ∧
  ((∀ m i, 0 ≤ m → m < P 3001 0 → 0 ≤ i → i < P 0 m → σc.2.2 4 (σc.2.1 7 + 17) (m * 120 + i) = (res P m).2.2.1 i) ∧ (∀ m, 0 ≤ m → m < P 3001 0 → SR σr (120 * m) (P 3017 m) (P 0 m) (res P m).2.2) ∧ (σc.1 9013 0 = -1 ∨ (0 ≤ σc.1 9013 0 ∧ σc.1 9013 0 < P 3001 0 ∧ FC σc (P 3017 (σc.1 9013 0)) (res P (σc.1 9013 0)).2.2))) ∧
  ((0 ≤ σc.1 9009 0 ∧ σc.1 9009 0 ≤ 6 ∧ σr.1 10045 121 = σc.1 9009 0 ∧ ∀ e, 0 ≤ e → e < σc.1 9009 0 → σr.2.2 10046 121 e = σc.2.2 9008 0 e ∧ 0 ≤ σc.2.2 9008 0 e ∧ σc.2.2 9008 0 e < P 3001 0 ∧ P 3013 (σc.2.2 9008 0 e) = 1 ∧ P 3015 (σc.2.2 9008 0 e) = 0) ∧ σc.1 9007 0 = σr.2.2 10034 121 0)
/-- what belongs to the small program besides its rows -/
def smI : List Nat := [8001]
def smA : List Nat := [6000, 6001, 6002, 6003, 6004, 6005, 8000]
def rmA : List Nat := [10052, 10069, 10070, 10071, 10075]
/-- the small program -/
def smR (σc σr : j3_S) (P P' : Pg) : Prop := (CP σc (σc.2.1 8) P' ∧ (∀ c, 0 ≤ c → c < P' 3000 0 → σc.2.2 3004 (σc.2.1 8) c = P' 3004 c) ∧ RP σr 1 P' ∧ good P' ∧ ∀ m, 0 ≤ m → m < P' 3001 0 → ∃ S, TyC P' m (P' 3017 m) (cdP P' m) S) ∧
  ((∀ c, 0 ≤ c → c < P 3000 0 → σr.2.2 10069 121 c = σc.2.2 6000 83 c) ∧ (∀ c f, 0 ≤ c → c < P 3000 0 → 0 ≤ f → f < P 3005 c → σr.2.2 10070 121 (6 * c + f) = σc.2.2 6001 83 (c * 6 + f)) ∧
    ∀ m, 0 ≤ m → m < P 3001 0 → (σc.2.2 6002 83 m = -1 ∧ σr.2.2 10071 121 m = -1) ∨ (0 ≤ σc.2.2 6002 83 m ∧ σc.2.2 6002 83 m < P' 3001 0 ∧ P' 3011 (σc.2.2 6002 83 m) = σc.2.2 6000 83 (P 3011 m) ∧ σr.2.2 10071 121 m = σc.2.2 6002 83 m - P' 3007 (P' 3011 (σc.2.2 6002 83 m)))) ∧
  (∀ m i, 0 ≤ m → m < P' 3001 0 → 0 ≤ i → i < P' 0 m → (σr.2.2 10030 121 (9600 + 120 * m + i) = 0 ∧ σc.2.2 6003 83 (m * 120 + i) = -1 ∧ σc.2.2 6004 83 (m * 120 + i) = -1) ∨ (σr.2.2 10030 121 (9600 + 120 * m + i) = 1 ∧ σc.2.2 6003 83 (m * 120 + i) = σr.2.2 10031 121 (9600 + 120 * m + i) ∧ 0 ≤ σc.2.2 6003 83 (m * 120 + i) ∧ σc.2.2 6004 83 (m * 120 + i) = -1) ∨ (σr.2.2 10030 121 (9600 + 120 * m + i) = 2 ∧ σc.2.2 6003 83 (m * 120 + i) = σr.2.2 10031 121 (9600 + 120 * m + i) ∧ 0 ≤ σc.2.2 6003 83 (m * 120 + i) ∧ σc.2.2 6004 83 (m * 120 + i) = σr.2.2 10032 121 (9600 + 120 * m + i) ∧ 0 ≤ σc.2.2 6004 83 (m * 120 + i))) ∧
  ((∀ i, 0 ≤ i → i < 23 → σc.2.2 6005 83 i = σr.2.2 10052 121 i) ∧ (σc.1 8001 90 = σr.1 10076 121 ∧ 0 ≤ σc.1 8001 90 ∧ σc.1 8001 90 ≤ 48943 ∧ ∀ i, 0 ≤ i → i < σc.1 8001 90 → i_an (σc.2.2 8000 90 i) 255 = σr.2.2 10075 121 i) ∧ σr.2.2 10034 121 1 = σr.1 10076 121) ∧
  ∀ e, 0 ≤ e → e < σc.1 9009 0 → ¬ σc.2.2 6002 83 (σc.2.2 9008 0 e) = -1 ∧ P' 3013 (σc.2.2 6002 83 (σc.2.2 9008 0 e)) = 1 ∧ P' 3015 (σc.2.2 6002 83 (σc.2.2 9008 0 e)) = 0
def ptR (σ : j3_S) : Prop := (σ.2.1 7 = 2 ∨ σ.2.1 7 = 25 ∨ σ.2.1 7 = 48) ∧ (σ.2.1 8 = 2 ∨ σ.2.1 8 = 25 ∨ σ.2.1 8 = 48) ∧ (σ.2.1 9 = 2 ∨ σ.2.1 9 = 25 ∨ σ.2.1 9 = 48) ∧ ¬ σ.2.1 7 = σ.2.1 8 ∧ ¬ σ.2.1 7 = σ.2.1 9 ∧ ¬ σ.2.1 8 = σ.2.1 9
def flR (σc σr : j3_S) : Prop := (σc.1 9005 0 = σr.1 10043 121 ∧ (σr.1 10043 121 = 0 ∨ σr.1 10043 121 = 1)) ∧ (σc.1 9006 0 = σr.1 10044 121 ∧ (σr.1 10044 121 = 0 ∨ σr.1 10044 121 = 1)) ∧ (¬ σr.1 10044 121 = 0 → ¬ σr.1 10043 121 = 0) ∧ (σr.1 10042 121 = 0 ∨ σr.1 10042 121 = 1)
def JJ (σc σr : j3_S) : Prop := (tpR σc σr ∧ fR σc σr ∧ mR σc σr ∧ flR σc σr ∧ ptR σc) ∧ (¬ σr.1 10043 121 = 0 → ∃ P, gpR σc σr P ∧ (¬ σr.1 10044 121 = 0 → ∃ P', smR σc σr P P'))
section JJS
variable {σ σ' σc σc' σr σr' : j3_S} {o : Nat} {P P' : Pg} {s : Int}
theorem CP.mv (h : CP σ o P) (hs : smP o σ σ') : CP σ' o P := by
  obtain ⟨a1, a2, a3, a4⟩ := h
  obtain ⟨⟨b1, b2⟩, b3⟩ := hs
  refine ⟨b1.trans a1, b2.trans a2, fun c c0 c1 => ?_, fun m m0 m1 => ?_⟩
  · rw [(b3 3002 rfl).1, (b3 3003 rfl).1, (b3 3005 rfl).1, (b3 3006 rfl).1, (b3 3007 rfl).1, (b3 3008 rfl).1, (b3 3009 rfl).1, (b3 3010 rfl).1]
    exact a3 c c0 c1
  · rw [(b3 3011 rfl).1, (b3 3012 rfl).1, (b3 3013 rfl).1, (b3 3014 rfl).1, (b3 3015 rfl).1, (b3 3016 rfl).1, (b3 3017 rfl).1, (b3 0 rfl).2, (b3 1 rfl).2, (b3 2 rfl).2, (b3 3 rfl).2]
    exact a4 m m0 m1
theorem bnd_of (hW : WFp P) : bnd P := ⟨hW.1.2.1, hW.2.1.2.1, fun c c0 c1 => (hW.2.2.1 c c0 c1).2.1, fun m m0 m1 => by
  obtain ⟨-, -, -, q4, -, q6, -⟩ := hW.2.2.2 m m0 m1
  exact ⟨q4.2.1, by omega, q6.2⟩⟩
theorem RP.mv (hP : RP σ s P) (h : smS s σ σ') (hb : bnd P) : RP σ' s P := by
  obtain ⟨hn, hm, hf, hp⟩ := hb
  obtain ⟨a1, a2, a3, a4⟩ := hP
  have key : ∀ (e : Nat) (k z : Int), 10009 ≤ e → e ≤ 10032 → slz e = k → s * k ≤ z → z < (s + 1) * k → σ'.2.2 e 121 z = σ.2.2 e 121 z := by
    intro e k z e0 e1 hk h1 h2
    exact h e z e0 (by omega) (by rw [hk]; exact h1) (by rw [hk]; exact h2) (by omega)
  refine ⟨by rw [key 10009 1 s (by omega) (by omega) rfl (by omega) (by omega)]; exact a1, by rw [key 10018 1 s (by omega) (by omega) rfl (by omega) (by omega)]; exact a2, fun c c0 c1 => ?_, fun m m0 m1 => ?_⟩
  · obtain ⟨⟨b1, b2, b3, b4, b5⟩, b6⟩ := a3 c c0 c1
    refine ⟨⟨?_, ?_, ?_, ?_, ?_⟩, fun f f0 f1 => ?_⟩
    · rw [key 10010 10 _ (by omega) (by omega) rfl (by omega) (by omega)]; exact b1
    · rw [key 10011 10 _ (by omega) (by omega) rfl (by omega) (by omega)]; exact b2
    · rw [key 10012 10 _ (by omega) (by omega) rfl (by omega) (by omega)]; exact b3
    · rw [key 10014 10 _ (by omega) (by omega) rfl (by omega) (by omega)]; exact b4
    · rw [key 10013 10 _ (by omega) (by omega) rfl (by omega) (by omega)]; exact b5
    · have := hf c c0 c1
      rw [key 10015 60 _ (by omega) (by omega) rfl (by omega) (by omega), key 10016 60 _ (by omega) (by omega) rfl (by omega) (by omega), key 10017 60 _ (by omega) (by omega) rfl (by omega) (by omega)]
      exact b6 f f0 f1
  · obtain ⟨⟨b1, b2, b3, b4, b5, b6, b7⟩, b8, b9⟩ := a4 m m0 m1
    have hpm := hp m m0 m1
    refine ⟨⟨?_, ?_, ?_, ?_, ?_, ?_, ?_⟩, fun p p0 p1 => ?_, fun i i0 i1 => ?_⟩
    · rw [key 10019 80 _ (by omega) (by omega) rfl (by omega) (by omega)]; exact b1
    · rw [key 10020 80 _ (by omega) (by omega) rfl (by omega) (by omega)]; exact b2
    · rw [key 10021 80 _ (by omega) (by omega) rfl (by omega) (by omega)]; exact b3
    · rw [key 10022 80 _ (by omega) (by omega) rfl (by omega) (by omega)]; exact b4
    · rw [key 10023 80 _ (by omega) (by omega) rfl (by omega) (by omega)]; exact b5
    · rw [key 10025 80 _ (by omega) (by omega) rfl (by omega) (by omega)]; exact b6
    · rw [key 10026 80 _ (by omega) (by omega) rfl (by omega) (by omega)]; exact b7
    · rw [key 10024 240 _ (by omega) (by omega) rfl (by omega) (by omega)]; exact b8 p p0 p1
    · rw [key 10027 9600 _ (by omega) (by omega) rfl (by omega) (by omega), key 10028 9600 _ (by omega) (by omega) rfl (by omega) (by omega), key 10029 9600 _ (by omega) (by omega) rfl (by omega) (by omega)]
      exact b9 i i0 i1
/-- a change that leaves the great program, its states and entries -/
theorem gpR.mv (h : gpR σc σr P) (hp : σc'.2.1 7 = σc.2.1 7) (h1 : smP (σc.2.1 7) σc σc') (h2 : smS 0 σr σr') (h3 : ∀ z, z < 9600 → σr'.2.2 10035 121 z = σr.2.2 10035 121 z ∧ σr'.2.2 10036 121 z = σr.2.2 10036 121 z) (h4 : ∀ z, z < 96000 → σr'.2.2 10037 121 z = σr.2.2 10037 121 z) (h5 : ∀ z, z < 192000 → σr'.2.2 10038 121 z = σr.2.2 10038 121 z)
    (h6 : σc'.1 9013 0 = -1 ∨ (σc'.1 9013 0 = σc.1 9013 0 ∧ ∀ e, [1005, 1006, 1007].elem e = true → σc'.2.2 e 76 = σc.2.2 e 76)) (h7 : σc'.1 9009 0 = σc.1 9009 0 ∧ σr'.1 10045 121 = σr.1 10045 121 ∧ σc'.2.2 9008 0 = σc.2.2 9008 0 ∧ σr'.2.2 10046 121 = σr.2.2 10046 121 ∧ σc'.1 9007 0 = σc.1 9007 0) : gpR σc' σr' P := by
  obtain ⟨⟨a1, a2, a3, a4, a5⟩, ⟨b1, b2, b3⟩, ⟨c1, c2⟩⟩ := h
  have hb := bnd_of a4.1
  unfold gpR
  rw [hp, h7.1, h7.2.1, h7.2.2.1, h7.2.2.2.1, h7.2.2.2.2]
  refine ⟨⟨a1.mv h1, fun c c0 c1 => by rw [(h1.2 3004 rfl).1]; exact a2 c c0 c1, a3.mv h2 hb, a4, a5⟩, ⟨fun m i m0 m1 i0 i1 => by rw [(h1.2 4 rfl).2]; exact b1 m i m0 m1 i0 i1, fun m m0 m1 i i0 i1 => ?_, ?_⟩, ⟨c1, ?_⟩⟩
  · have bm := hb.2.2.2 m m0 m1
    have hM := hb.2.1
    obtain ⟨d1, d2⟩ := b2 m m0 m1 i i0 i1
    have hok := (res_ty a4.1 m0 m1 (a5 m m0 m1)).2
    obtain ⟨-, -, -, -, q5, -⟩ := a4.1.2.2.2 m m0 m1
    rw [(h3 _ (by omega)).1, (h3 _ (by omega)).2]
    refine ⟨d1, fun hi => ?_⟩
    obtain ⟨d3, d4, d5⟩ := d2 hi
    have := (hok i i0 (by omega) hi).1
    refine ⟨d3, fun k k0 k1 => ?_, fun x x0 x1 => ?_⟩
    · rw [h4 _ (by omega)]
      exact d4 k k0 k1
    · rw [h5 _ (by omega)]
      exact d5 x x0 x1
  · rcases h6 with h6 | ⟨h6, h8⟩
    · exact Or.inl h6
    · rw [h6]
      rcases b3 with b3 | ⟨b3, b4, b5⟩
      · exact Or.inl b3
      · refine Or.inr ⟨b3, b4, ?_⟩
        unfold FC
        rw [h8 1005 rfl, h8 1006 rfl, h8 1007 rfl]
        exact b5
  · rw [h2 10034 0 (by omega) (by omega) (by rw [show slz 10034 = 1 from rfl]; omega) (by rw [show slz 10034 = 1 from rfl]; omega) (by decide)]
    exact c2
theorem smR.mv (h : smR σc σr P P') (hp : σc'.2.1 8 = σc.2.1 8) (h1 : smP (σc.2.1 8) σc σc') (h2 : smS 1 σr σr') (h3 : σc'.1 8001 90 = σc.1 8001 90) (h4 : ∀ e, [6000, 6001, 6002, 6003, 6004, 6005].elem e = true → σc'.2.2 e 83 = σc.2.2 e 83) (h4' : σc'.2.2 8000 90 = σc.2.2 8000 90) (h5 : σr'.1 10076 121 = σr.1 10076 121) (h6 : ∀ e, rmA.elem e = true → σr'.2.2 e 121 = σr.2.2 e 121) (h7 : σc'.1 9009 0 = σc.1 9009 0 ∧ σc'.2.2 9008 0 = σc.2.2 9008 0) : smR σc' σr' P P' := by
  obtain ⟨⟨a1, a2, a3, a4, a5⟩, b1, c1, d1, e1⟩ := h
  have hb := bnd_of a4.1
  unfold smR
  rw [hp, h3, h4 6000 rfl, h4 6001 rfl, h4 6002 rfl, h4 6003 rfl, h4 6004 rfl, h4 6005 rfl, h4', h5, h6 10052 rfl, h6 10069 rfl, h6 10070 rfl, h6 10071 rfl, h6 10075 rfl, h7.1, h7.2]
  refine ⟨⟨a1.mv h1, fun c c0 c1 => by rw [(h1.2 3004 rfl).1]; exact a2 c c0 c1, a3.mv h2 hb, a4, a5⟩, b1, fun m i m0 m1 i0 i1 => ?_, ⟨d1.1, d1.2.1, ?_⟩, e1⟩
  · have bm := hb.2.2.2 m m0 m1
    have hM := hb.2.1
    have k : ∀ e, e = 10030 ∨ e = 10031 ∨ e = 10032 → σr'.2.2 e 121 (9600 + 120 * m + i) = σr.2.2 e 121 (9600 + 120 * m + i) := by
      intro e he
      have hz : slz e = 9600 := by rcases he with rfl | rfl | rfl <;> rfl
      exact h2 e _ (by omega) (by omega) (by rw [hz]; omega) (by rw [hz]; omega) (by omega)
    rw [k 10030 (by simp), k 10031 (by simp), k 10032 (by simp)]
    exact c1 m i m0 m1 i0 i1
  · rw [h2 10034 1 (by omega) (by omega) (by rw [show slz 10034 = 1 from rfl]; omega) (by rw [show slz 10034 = 1 from rfl]; omega) (by decide)]
    exact d1.2.2
end JJS
