/-! the class makes the small program: all of it -/
/-- what the small program is made of -/
def SH (P : Pg) (T : Int → Fl) (E : Int → Int) (n bud : Int) (R r : Rs) (XX : Int → Sx) (NL : Int → Int) : Prop := R = rds P P (fun m i => decide (0 ≤ (T m).1 i)) 100 (S0f E n) ∧ XX = foX P T R.2.1 bud ∧ NL = (fun m => (gaE P T R.2.1 bud m).2.1) ∧ r = rc2 P XX E n
def tru : Int → Prop := fun _ => True
section CSHR2
variable {σ σ' σ'' σ0 : j3_S} {P A : Pg} {T : Int → Fl} {R r : Rs} {XX : Int → Sx} {NL E L : Int → Int} {X : Sx} {o o2 d : Nat} {x c m i w k n v t l p u cp bud a b op l0 : Int} {Q : j3_P}
theorem okK1 (hg : good P) : okK P P (fun m i => decide (0 ≤ (T m).1 i)) tru tru := by
  intro m m0 m1 _
  obtain ⟨-, -, -, -, -, p6, p7⟩ := hg.1.2.2.2 m m0 m1
  refine ⟨by omega, fun i i0 i1 _ => ?_⟩
  obtain ⟨-, -, -, -, k5, -, k7⟩ := p7 i i0 i1
  refine ⟨⟨fun q => k5 (Or.inl q), fun q => ⟨k5 (by omega), k7 (by omega)⟩⟩, fun _ => trivial, fun _ => trivial, fun _ _ _ _ _ _ => trivial⟩
theorem SH.fa (h : SH P T E n bud R r XX NL) (hg : good P) (hT : typed P T) : (grR P T R ∧ xxR P R XX NL ∧ xxR P r XX NL) ∧ (∀ e, 0 ≤ e → e < n → R.1 (E e) = 1 ∧ r.1 (E e) = 1) ∧ (∀ m, r.1 m = 1 → R.1 m = 1) ∧ ∀ m, 0 ≤ m → m < P 3001 0 → okO (XX m) := by
  obtain ⟨h1, h2, h3, h4⟩ := h
  obtain ⟨c1, c2, c3⟩ := rch_cl (E := E) (n := n) (D := tru) (L := tru) hg (okK1 (T := T) hg) (fun _ _ _ => trivial)
  rw [← h1] at c1 c2 c3
  have g1 : grR P T R := ⟨⟨hg, hT⟩, ⟨c2.1, c2.2.1⟩, c1⟩
  have x1 : xxR P R XX NL := by rw [h2, h3]; exact xx_of g1
  obtain ⟨y1, y2, y3, -⟩ := rc2_ok (E := E) (n := n) hg x1 c3
  rw [← h4] at y1 y2 y3
  refine ⟨⟨g1, x1, y1⟩, fun e e0 e1 => ⟨c3 e e0 e1, y2 e e0 e1⟩, y3, fun m m0 m1 => ?_⟩
  obtain ⟨-, -, -, -, -, p6, -⟩ := hg.1.2.2.2 m m0 m1
  rw [h2]
  unfold foX
  refine okO.fd _ _ _ ?_
  unfold gaX gaE
  have := okO.ga (L := R.2.1) (T := T) (bud := bud) m0 (fun i hi S hp => bd_u hg m0 m1 (by omega) hi (by
    unfold putB at hp
    simp only [Bool.and_eq_true, decide_eq_true_eq] at hp
    exact hp.1.1.1)) (P 0 m).toNat (by omega)
  exact fun i => this i
theorem SH.k1 (h : SH P T E n bud R r XX NL) (hg : good P) (hT : typed P T) (n1 : 1 ≤ n) (hE : ∀ e, 0 ≤ e → e < n → 0 ≤ E e ∧ E e < P 3001 0) : 1 ≤ nB (kC P r XX) (P 3000 0) := by
  obtain ⟨-, f2, -⟩ := h.fa hg hT
  have e0 := hE 0 (by omega) (by omega)
  have km : kM P r XX (E 0) := Or.inl (f2 0 (by omega) (by omega)).2
  have kc := (kC_cl.2.2.2.1 _ e0.1 e0.2 km).1
  obtain ⟨o1, o2, -⟩ := (hg.1.2.2.2 _ e0.1 e0.2).1
  have := nB_lt (q := kC P r XX) o1 o2 kc
  have := nB_p (q := kC P r XX) (x := P 3011 (E 0))
  omega
/-- the class, from its numbers on -/
theorem c79b (hg : good P) (hxx : xxR P r XX NL) (h1 : 1 ≤ nB (kC P r XX) (P 3000 0)) (hoo : ¬ o = o2 ∧ ¬ o = o2 + 17 ∧ ¬ o + 17 = o2) (h83 : ¬ o = 83 ∧ ¬ o + 17 = 83) (h4 : ¬ 83 = o2 + 17 ∧ ¬ 83 = o2) (hB : kbC σ o o2 P r XX NL) (h34 : ∀ c, 0 ≤ c → c < P 3000 0 → σ.2.2 3004 o c = P 3004 c) (hc3 : 0 ≤ σ.2.2 6005 83 3 ∧ σ.2.2 6005 83 3 ≤ 1000000000) {o1 o3 : Nat} {x4 x5 x6 : Int} (hQ : ∀ σ' A, shcF o2 σ σ' → CP σ' o2 A → (∀ c, σ'.2.2 3004 o2 c = A 3004 c) → SPg P r XX NL A → (∀ c, 0 ≤ c → c < P 3000 0 → kC P r XX c → A 3004 (nC P r XX c) = P 3004 c) → nuC σ' P r XX → (∀ m, 0 ≤ m → m < P 3001 0 → kM P r XX m → orC σ' P r XX m) → shC σ σ' P r XX (P 3001 0) → (σ'.1 8001 90 = ((outL A).length : Int) ∧ ∀ i : Nat, i < (outL A).length → σ'.2.2 8000 90 i = i_tb ((outL A).getD i 0)) → Q none σ') : T79 (d + 5) Q 67 [wO 6 83, wO 3 o1, wO 3 o3, wA 9008 0, wI x4, wI x5, wI x6] [] σ := by
  rw [b79_67]
  refine s88 (d := d + 1) hg hxx hB (fun σ1 f1 e1 => ?_)
  simp only [Option.toList_none, List.nil_append]
  have hB1 : kbC σ1 o o2 P r XX NL := hB.fr f1 ⟨rfl, rfl⟩ (la_ok rfl) rfl ⟨rfl, rfl⟩
  rw [b79_69]
  refine s93 (d := d + 4) hg hB1 e1 (fun σ2 f2 n2 => ?_)
  simp only [Option.toList_none, List.nil_append]
  have hB2 : kbC σ2 o o2 P r XX NL := hB1.fr f2 ⟨rfl, rfl⟩ (la_ok rfl) rfl ⟨rfl, rfl⟩
  generalize hσ3 : ((j3_up (j3_up σ2.1 3000 o2 (nB (kC P r XX) (P 3000 0))) 3001 o2 (nB (kM P r XX) (P 3001 0)), σ2.2.1, σ2.2.2) : j3_S) = σ3
  have A3 : σ3.2.2 = σ2.2.2 := by rw [← hσ3]
  have P3 : σ3.2.1 = σ2.2.1 := by rw [← hσ3]
  have I3 : ∀ e o', ¬ o' = o2 → σ3.1 e o' = σ2.1 e o' := fun e o' q => by
    rw [← hσ3]; dsimp only; rw [up_ne (fun z => q z.2), up_ne (fun z => q z.2)]
  have I30 : σ3.1 3000 o2 = nB (kC P r XX) (P 3000 0) := by rw [← hσ3]; dsimp only; rw [up_e rfl, up_r]
  have I31 : σ3.1 3001 o2 = nB (kM P r XX) (P 3001 0) := by rw [← hσ3]; dsimp only; rw [up_r]
  have I3' : ∀ e o', ¬ e = 3000 → ¬ e = 3001 → σ3.1 e o' = σ2.1 e o' := fun e o' q q' => by
    rw [← hσ3]; dsimp only; rw [up_ne (fun z => q' z.1), up_ne (fun z => q z.1)]
  have hB3 : kbC σ3 o o2 P r XX NL := by
    obtain ⟨⟨a1, a2, a3⟩, a4, a5, a6, a7⟩ := hB2
    refine ⟨⟨a1, by rw [P3]; exact a2, by rw [P3]; exact a3⟩, a4.mv ⟨⟨I3 3000 o hoo.1, I3 3001 o hoo.1⟩, fun e _ => ⟨by rw [A3], by rw [A3]⟩⟩, ?_, by rw [A3]; exact a6, by rw [A3]; exact a7⟩
    unfold ncC lyR
    rw [A3]; exact a5
  have n3 : nuC σ3 P r XX := by unfold nuC; rw [A3]; exact n2
  have S3 : shcF o2 σ σ3 := by
    refine ((shcF.of f1 rfl rfl).tr (shcF.of f2 rfl rfl)).tr ⟨fun j _ _ _ => by rw [P3], fun e o' k => ⟨?_, by rw [A3]⟩⟩
    by_cases g : e = 3000 ∨ e = 3001
    · exact I3 e o' (by unfold kpE at k; omega)
    · exact I3' e o' (by omega) (by omega)
  rw [b79_71]
  refine s94 (d := d + 1) hg hB3 n3 (fun σ4 f4 t4 => ?_)
  simp only [Option.toList_none, List.nil_append]
  have hB4 : kbC σ4 o o2 P r XX NL := hB3.fr f4 ⟨rfl, rfl⟩ (la_ok rfl) rfl ⟨rfl, rfl⟩
  have n4 : nuC σ4 P r XX := by
    unfold nuC
    rw [f4.2.2 6000 83 rfl, f4.2.2 6001 83 rfl, f4.2.2 6002 83 rfl]
    exact n3
  have S4 : shcF o2 σ σ4 := S3.tr (shcF.of f4 rfl rfl)
  have k4 : ∀ c, 0 ≤ c → c < P 3000 0 → σ4.2.2 3004 o c = P 3004 c := fun c c0 c1 => by
    rw [(S4.2 3004 o (by unfold kpE; omega)).2]; exact h34 c c0 c1
  rw [b79_73]
  refine s98 (d := d + 2) hg hoo ⟨hB4, n4, t4, k4⟩ (fun σ5 f5 w5 => ?_)
  simp only [Option.toList_none, List.nil_append]
  have hB5 := f5.kb hB4 hoo
  have n5 := f5.nu n4
  have c5 : σ5.2.2 6005 83 = σ.2.2 6005 83 := by
    rw [f5.2.1 6005 83 (by omega), f4.2.2 6005 83 rfl, A3, f2.2.2 6005 83 rfl, f1.2.2 6005 83 rfl]
  rw [b79_75]
  refine s102 (d := d + 3) hg hoo h83 h4.1 hxx ⟨hB5.1, hB5.2.1, n5, hB5.2.2.2.1, fun a q0 q1 q2 => ?_⟩ (by rw [c5]; exact hc3) hB5.2.2.1 (fun σ6 f6 s6 t6 => ?_)
  · have := (w5.1 a q0 q1 q2).1.2.2.2
    rw [PgC_e (by omega)] at this
    exact this
  simp only [Option.toList_none, List.nil_append]
  -- the small program stands
  have R6 : ∀ e, 3002 ≤ e → e ≤ 3017 → σ6.2.2 e o2 = σ5.2.2 e o2 := fun e e0 e1 => f6.2 e o2 (by omega) (by omega)
  have sp : SPg P r XX NL (PgC σ6 o2) := by
    refine ⟨⟨?_, ?_⟩, fun c c0 c1 hc => ?_, fun m m0 m1 hm => ?_⟩
    · show σ6.1 3000 o2 = _
      rw [f6.1.1, f5.1.1, f4.2.1 3000 o2 rfl]; exact I30
    · show σ6.1 3001 o2 = _
      rw [f6.1.1, f5.1.1, f4.2.1 3001 o2 rfl]; exact I31
    · obtain ⟨a1, a2, a3⟩ := w5.1 c c0 c1 hc
      exact ⟨a1.mv (fun e e0 e1 => by rw [R6 e (by omega) (by omega)]), fun f f0 f1 hf => (a3 f f0 f1 hf).mv (fun e e0 e1 => by rw [R6 e (by omega) (by omega)])⟩
    · obtain ⟨a1, a2⟩ := w5.2 m m0 m1 hm
      have p3 := (hg.1.2.2.2 m m0 m1).2.2.2.1.2.1
      refine ⟨a1.mv p3 (fun e z he => by rw [R6 e (by omega) (by omega)]), ?_, (t6 m m0 m1 hm).1⟩
      rw [PgC_e (by omega), R6 3012 (by omega) (by omega)]; exact a2
  have hd4 : ∀ c, 0 ≤ c → c < P 3000 0 → kC P r XX c → PgC σ6 o2 3004 (nC P r XX c) = P 3004 c := by
    intro c c0 c1 hc
    rw [PgC_e (by omega), R6 3004 (by omega) (by omega)]
    exact (w5.1 c c0 c1 hc).2.1
  have gd := sp.gd hg hxx h1 hd4
  rw [b79_77]
  have p6 : σ6.2.1 6 = o2 := by rw [f6.1.2]; exact hB5.1.2.2
  rw [p6]
  refine ⟨hB.1.1.2, w122 (d := d) gd.1 gd.2.2.2.2 (PgC_CP (σc := σ6) (o := o2)) (fun σ7 f7 => ?_)⟩
  simp only [Option.toList_none, List.nil_append]
  rw [b79_82]
  have S7 : shcF o2 σ σ7 := (((S4.tr f5.sh).tr f6.sh)).tr (shcF.of f7.1 rfl rfl)
  refine hQ σ7 (PgC σ6 o2) S7 (f7.cp (PgC_CP (σc := σ6) (o := o2))) (fun c => ?_) sp hd4 ?_ (fun m m0 m1 hm => ?_) ?_ f7.2
  · rw [f7.1.2.2 3004 _ rfl]; rfl
  · unfold nuC
    rw [f7.1.2.2 6000 _ rfl, f7.1.2.2 6001 _ rfl, f7.1.2.2 6002 _ rfl, f6.2 6000 83 (by omega) (by omega), f6.2 6001 83 (by omega) (by omega), f6.2 6002 83 (by omega) (by omega)]
    exact n5
  · intro i i0 i1
    rw [f7.1.2.2 6003 _ rfl, f7.1.2.2 6004 _ rfl]
    exact (t6 m m0 m1 hm).2 i i0 i1
  · refine ⟨fun i hi => ?_, ?_⟩
    · rw [f7.1.2.2 6005 _ rfl, s6.1 i hi, c5]
    · rw [f7.1.2.2 6005 _ rfl, s6.2, c5]
end CSHR2
