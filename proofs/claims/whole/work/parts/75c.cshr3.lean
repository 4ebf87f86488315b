/-! the class's shrink, from its begin -/
section CSHR3
variable {σ σ' σ'' σ0 : j3_S} {P A : Pg} {T : Int → Fl} {R r : Rs} {XX : Int → Sx} {NL E L : Int → Int} {X : Sx} {o o2 d : Nat} {x c m i w k n v t l p u cp bud a b op l0 : Int} {Q : j3_P}
theorem c79 (hS : SH P T E n bud R r XX NL) (hg : good P) (hT : typed P T) (hpr : prg P) (ho : ¬ o = 0 ∧ ¬ o2 = 0) (hoo : ¬ o = o2 ∧ ¬ o = o2 + 17 ∧ ¬ o + 17 = o2) (h83 : ¬ o = 83 ∧ ¬ o + 17 = 83) (h4 : ¬ 83 = o2 + 17 ∧ ¬ 83 = o2) (hC : CP σ o P) (h34 : ∀ c, 0 ≤ c → c < P 3000 0 → σ.2.2 3004 o c = P 3004 c) (hr4 : ∀ m i, 0 ≤ m → m < P 3001 0 → 0 ≤ i → i < P 0 m → σ.2.2 4 (o + 17) (m * 120 + i) = (T m).1 i) (n1 : 1 ≤ n) (n6 : n ≤ 6) (hE : ∀ e, 0 ≤ e → e < n → σ.2.2 9008 0 e = E e ∧ 0 ≤ E e ∧ E e < P 3001 0) (hQ : ∀ σ' A, shcF o2 σ σ' → CP σ' o2 A → (∀ c, σ'.2.2 3004 o2 c = A 3004 c) → SPg P r XX NL A → (∀ c, 0 ≤ c → c < P 3000 0 → kC P r XX c → A 3004 (nC P r XX c) = P 3004 c) → nuC σ' P r XX → (∀ m, 0 ≤ m → m < P 3001 0 → kM P r XX m → orC σ' P r XX m) → (∀ i, 0 ≤ i → i < 23 → σ'.2.2 6005 83 i = ctS P T R bud (P 3001 0).toNat i + (if i = 3 then shl P r XX (P 3001 0) else 0)) → (σ'.1 8001 90 = ((outL A).length : Int) ∧ ∀ i : Nat, i < (outL A).length → σ'.2.2 8000 90 i = i_tb ((outL A).getD i 0)) → Q none σ') : j3_tc false (d + 8) 79 [wO 6 83, wO 3 o, wO 3 o2, wA 9008 0, wI n, wI bud] σ Q := by
  have h80 := hg.1.2.1.2.1
  have hm0 := hg.1.2.1.1
  obtain ⟨⟨hgr, hx1, hx2⟩, hre, hsub, -⟩ := hS.fa hg hT
  have h1 := hS.k1 hg hT n1 (fun e e0 e1 => (hE e e0 e1).2)
  rw [e79, b79_0, s248 (n := 23) rfl rfl rfl (by omega)]
  simp only [Option.toList_none, List.nil_append]
  generalize hσ1 : ((j3_up σ.1 6014 83 bud, j3_upP (j3_upP σ.2.1 5 o) 6 o2, j3_up σ.2.2 6005 83 (i_fl (σ.2.2 6005 83) 0 23 0)) : j3_S) = σ1
  have A1 : ∀ e o', ¬ e = 6005 → σ1.2.2 e o' = σ.2.2 e o' := fun e o' q => by rw [← hσ1]; dsimp only; rw [up_ne (fun z => q z.1)]
  have I1 : ∀ e o', ¬ e = 6014 → σ1.1 e o' = σ.1 e o' := fun e o' q => by rw [← hσ1]; dsimp only; rw [up_ne (fun z => q z.1)]
  have I14 : σ1.1 6014 83 = bud := by rw [← hσ1]; dsimp only; rw [up_r]
  have P5 : σ1.2.1 5 = o := by rw [← hσ1]; simp [j3_upP]
  have P6 : σ1.2.1 6 = o2 := by rw [← hσ1]; simp [j3_upP]
  have A5 : ∀ i, 0 ≤ i → i < 23 → σ1.2.2 6005 83 i = 0 := fun i i0 i1 => by
    rw [← hσ1]; dsimp only; rw [up_r]; unfold i_fl; rw [if_pos ⟨i0, i1⟩]
  have S1 : shcF o2 σ σ1 := by
    refine ⟨fun j _ q5 q6 => ?_, fun e o' k => ⟨I1 e o' (by unfold kpE at k; omega), A1 e o' (by unfold kpE at k; omega)⟩⟩
    rw [← hσ1]
    show j3_upP (j3_upP σ.2.1 5 o) 6 o2 j = _
    unfold j3_upP
    have e5 : (j == 5) = false := by simpa using q5
    have e6 : (j == 6) = false := by simpa using q6
    rw [e5, e6]; rfl
  clear hσ1
  have kp : ∀ e, e < 1000 ∨ (3000 ≤ e ∧ e < 4000) → kpE o2 e o ∧ kpE o2 e (o + 17) := fun e q => by unfold kpE; omega
  have smo : ∀ {τ : j3_S}, shcF o2 σ τ → smP o σ τ := fun hs => ⟨⟨(hs.2 3000 o (kp 3000 (by omega)).1).1, (hs.2 3001 o (kp 3001 (by omega)).1).1⟩, fun e he => by
    have : e < 1000 ∨ (3000 ≤ e ∧ e < 4000) := by
      simp [pgA] at he
      omega
    exact ⟨(hs.2 e o (kp e this).1).2, (hs.2 e (o + 17) (kp e this).2).2⟩⟩
  have C1 : CP σ1 o P := hC.mv (smo S1)
  rw [b79_13, P5]
  refine ⟨ho.1, ho.1, ?_⟩
  refine s57 (d := d + 3) (K := P) (mt := fun m i => decide (0 ≤ (T m).1 i)) (D := tru) (L := tru) (E := E) hg (okK1 hg) ho.1 C1 (fun m m0 m1 _ => ?_) (by omega) n6 (fun e e0 e1 => ?_) (fun σ2 f2 => ?_)
  · refine ⟨(C1.2.2.2 m m0 m1).1.2.2.2.2.2.2, fun i i0 i1 => ?_⟩
    obtain ⟨c1, c2, c3⟩ := (C1.2.2.2 m m0 m1).2.2 i i0 i1
    refine ⟨?_, c1, c2, c3⟩
    rw [(S1.2 4 (o + 17) (kp 4 (by omega)).2).2, hr4 m i m0 m1 i0 i1]
    simp
  · obtain ⟨q1, q2, q3⟩ := hE e e0 e1
    exact ⟨by rw [A1 9008 0 (by omega)]; exact q1, q2, q3, trivial⟩
  simp only [Option.toList_none, List.nil_append]
  rw [← hS.1] at f2
  rw [b79_23]
  have S2 : shcF o2 σ σ2 := S1.tr f2.sh
  have C2 : CP σ2 o P := hC.mv (smo S2)
  have p2 : σ2.2.1 5 = o ∧ σ2.2.1 2 = o ∧ σ2.2.1 6 = o2 := by
    rw [f2.1.1]
    refine ⟨?_, ?_, ?_⟩
    · show j3_upP σ1.2.1 2 o 5 = o; rw [← P5]; rfl
    · show j3_upP σ1.2.1 2 o 2 = o; rfl
    · show j3_upP σ1.2.1 2 o 6 = o2; rw [← P6]; rfl
  have B2 : gbC σ2 o P T R bud := ⟨⟨ho.1, p2.1, p2.2.1⟩, C2, fun m i m0 m1 i0 i1 => by rw [(S2.2 4 (o + 17) (kp 4 (by omega)).2).2]; exact hr4 m i m0 m1 i0 i1, f2.2.2.2, f2.2.2.1, by rw [f2.1.2.1 6014 83 rfl]; exact I14⟩
  refine l79 (d := d) hgr hpr ⟨hoo.1, hoo.2.1⟩ ho.2 B2 p2.2.2 f2.2.1 (P 3001 0).toNat 0 σ2 (by omega) mkF.rf (fun m m0 m1 => by omega) (fun i i0 i1 => ?_) (fun σ3 f3 ly3 ct3 => ?_)
  · rw [f2.1.2.2 6005 83 rfl, A5 i i0 i1]; rfl
  have S3 : shcF o2 σ σ3 := S2.tr f3.sh
  have C3 : CP σ3 o P := hC.mv (smo S3)
  have p3 : σ3.2.1 5 = o ∧ σ3.2.1 6 = o2 := by rw [f3.1.1]; exact ⟨p2.1, p2.2.2⟩
  have nc3 : ncC σ3 o2 P R XX NL := fun m m0 m1 hm => by
    rw [hS.2.1, hS.2.2.1]
    exact (ly3 m m0 m1).1 hm
  rw [b79_25, p3.1, C3.2.1, if_neg (by omega), p3.2]
  refine ⟨ho.1, ho.1, ho.2, ?_⟩
  refine r2C (d := d + 3) (E := E) hg hx1 ho.1 C3 nc3 (by omega) n6 (fun e e0 e1 => ?_) (fun σ4 f4 => ?_)
  · obtain ⟨q1, q2, q3⟩ := hE e e0 e1
    exact ⟨by rw [(S3.2 9008 0 (by unfold kpE; omega)).2]; exact q1, q2, q3, (hre e e0 e1).1⟩
  simp only [Option.toList_none, List.nil_append]
  rw [← hS.2.2.2] at f4
  have S4 : shcF o2 σ σ4 := S3.tr f4.sh
  have C4 : CP σ4 o P := hC.mv (smo S4)
  have B4 : kbC σ4 o o2 P r XX NL := by
    refine ⟨⟨ho, ?_, ?_⟩, C4, fun m m0 m1 hm => ?_, f4.2.1, f4.2.2.1⟩
    · rw [f4.1.1]; show j3_upP σ3.2.1 2 o 5 = o; rw [← p3.1]; rfl
    · rw [f4.1.1]; show j3_upP σ3.2.1 2 o 6 = o2; rw [← p3.2]; rfl
    · have := nc3 m m0 m1 (hsub m hm)
      unfold lyR at this ⊢
      rw [f4.1.2.2 0 _ rfl, f4.1.2.2 6010 _ rfl, f4.1.2.2 1 _ rfl, f4.1.2.2 2 _ rfl, f4.1.2.2 3 _ rfl, f4.1.2.2 4 _ rfl, f4.1.2.2 6003 _ rfl, f4.1.2.2 6004 _ rfl]
      exact this
  have ct4 : ∀ i, 0 ≤ i → i < 23 → σ4.2.2 6005 83 i = ctS P T R bud (P 3001 0).toNat i := fun i i0 i1 => by rw [f4.1.2.2 6005 83 rfl]; exact ct3 i i0 i1
  have cb := ct_b (bud := bud) hgr (P 3001 0).toNat (by omega) 3
  refine c79b (d := d + 2) hg hx2 h1 hoo h83 h4 B4 (fun c c0 c1 => by rw [(S4.2 3004 o (kp 3004 (by omega)).1).2]; exact h34 c c0 c1) (by rw [ct4 3 (by omega) (by omega)]; omega) (fun σ5 A s5 cp5 d5 sp5 d5' n5 or5 sh5 w5 => hQ σ5 A (S4.tr s5) cp5 d5 sp5 d5' n5 or5 (fun i i0 i1 => ?_) w5)
  by_cases g : i = 3
  · rw [if_pos g, g, sh5.2, ct4 3 (by omega) (by omega)]
  · rw [if_neg g, sh5.1 i g, ct4 i i0 i1]; omega
end CSHR3
