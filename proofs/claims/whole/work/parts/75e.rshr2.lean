/-! the reference's shrink, from its begin -/
section RSHR2
variable {σ σ' σ'' σ0 : j3_S} {P A : Pg} {T : Int → Fl} {R r : Rs} {XX : Int → Sx} {NL E L : Int → Int} {X : Sx} {d : Nat} {x c m i w k n v t l p u cp bud a b op l0 : Int} {Q : j3_P}
theorem ad00 : addc (fun _ => 0) 0 0 i = 0 := by
  unfold addc
  simp only [i_up]
  split
  · rfl
  · split <;> rfl
theorem r226 (hS : SH P T E n bud R r XX NL) (hg : good P) (hT : typed P T) (hpr : prg P) (hR : RP σ 0 P) (hSR : ∀ m i, 0 ≤ m → m < P 3001 0 → 0 ≤ i → i < P 0 m → (σ.2.2 10035 121 (120 * m + i) = if (T m).1 i < 0 then 0 else 1) ∧ (0 ≤ (T m).1 i → σ.2.2 10036 121 (120 * m + i) = (T m).1 i)) (n1 : 1 ≤ n) (n6 : n ≤ 6) (hn : σ.1 10045 121 = n) (hE : ∀ e, 0 ≤ e → e < n → σ.2.2 10046 121 e = E e ∧ 0 ≤ E e ∧ E e < P 3001 0) (b0 : 0 ≤ bud) (b1 : bud ≤ 12) (hp : ¬ σ.1 10043 121 = 0) (sp : SPg P r XX NL A) (gd : good A) (hQ : ∀ σ', shrF (th0 σ) σ' → RP σ' 1 A → (∀ c, 0 ≤ c → c < P 3000 0 → σ'.2.2 10069 121 c = nC P r XX c) → nbR σ' P r XX (P 3000 0) (P 3001 0) → (∀ m, 0 ≤ m → m < P 3001 0 → kM P r XX m → orR P r XX σ' m) → (∀ i, 0 ≤ i → i < 23 → σ'.2.2 10052 121 i = ctS P T R bud (P 3001 0).toNat i + (if i = 3 then shl P r XX (P 3001 0) else 0)) → (σ'.1 10076 121 = ((outL A).length : Int) ∧ (∀ i : Nat, i < (outL A).length → σ'.2.2 10075 121 i = i_an ((outL A).getD i 0) 255) ∧ σ'.2.2 10034 121 1 = ((outL A).length : Int)) → Q (some (wI ((outL A).length : Int))) (j3_up σ'.1 10044 121 1, σ'.2.1, σ'.2.2)) : j3_tc true (d + 7) 226 [wO 10 121, wI bud] σ Q := by
  have h80 := hg.1.2.1.2.1
  have hm0 := hg.1.2.1.1
  obtain ⟨⟨hgr, hx1, hx2⟩, hre, hsub, -⟩ := hS.fa hg hT
  rw [e226, b226_0, if_neg (by omega), if_neg (by omega), if_neg hp, if_neg (by omega)]
  have F1 : frm [10000] [] σ (th0 σ) := th0_f
  have hR1 : RP (th0 σ) 0 P := hR.fr F1 (fun e _ _ => rfl)
  show T226 (d + 6) Q 26 [wO 10 121, wI bud, wI 0] [] (th0 σ)
  have hn1 : (th0 σ).1 10045 121 = n := hn
  have hA1 : (th0 σ).2.2 = σ.2.2 := rfl
  rw [← hA1] at hSR
  have hE1 : ∀ e, 0 ≤ e → e < n → (th0 σ).2.2 10046 121 e = E e ∧ 0 ≤ E e ∧ E e < P 3001 0 := hE
  clear hE
  generalize th0 σ = σ1 at *
  refine l226z (d := d + 6) hg 23 0 σ1 (by omega) (by omega) (fun j j0 j1 => by omega) (fun σ2 x2 f2 z2 => ?_)
  have S2 : shrF σ1 σ2 := shrF.of f2 rfl rfl rfl
  have R2 := S2.rp hg hR1
  have n2 : σ2.1 10045 121 = n := by rw [S2.1.2.1 10045 _ rfl]; exact hn1
  refine s194 (d := d + 2) (s := 0) (K := P) (mt := fun m i => decide (0 ≤ (T m).1 i)) (D := tru) (L := tru) (E := E) ⟨⟨hg, okK1 hg⟩, Or.inl rfl, R2, fun m m0 m1 _ => ?_⟩ (by omega) n6 n2 (fun e e0 e1 => ?_) (fun σ3 f3 t49 t50 => ?_)
  · obtain ⟨a1, a2, a3⟩ := R2.2.2.2 m m0 m1
    refine ⟨a1.2.2.2.2.2.2, fun i i0 i1 => ⟨fun _ => ?_, fun q => absurd rfl q, a3 i i0 i1⟩⟩
    rw [S2.1.2.2 10035 _ rfl, (hSR m i m0 m1 i0 i1).1]
    by_cases g : (T m).1 i < 0
    · rw [if_pos g]; simp; omega
    · rw [if_neg g]; simp; omega
  · obtain ⟨q1, q2, q3⟩ := hE1 e e0 e1
    exact ⟨by rw [S2.1.2.2 10046 _ rfl]; exact q1, q2, q3, trivial⟩
  simp only [Option.toList_none, List.nil_append]
  rw [← hS.1] at t49 t50
  rw [b226_39]
  have S3 : shrF σ1 σ3 := S2.tr (shrF.of f3 rfl rfl rfl)
  have R3 := S3.rp hg hR1
  have B3 : gbR σ3 P T R := ⟨R3, fun m i m0 m1 i0 i1 => by rw [S3.1.2.2 10035 _ rfl, S3.1.2.2 10036 _ rfl]; exact hSR m i m0 m1 i0 i1, t49, t50⟩
  refine l226a (d := d) (σ0 := σ3) (bud := bud) hgr B3 (P 3001 0).toNat 0 σ3 (by omega) s2F.rf (fun m m0 m1 => by omega) (fun i i0 i1 => ?_) (fun σ4 f4 b4 c4 => ?_)
  · rw [f3.2.2 10052 _ rfl, z2 i i0 i1]
    exact ad00.symm
  refine l226b (d := d) (σ0 := σ3) (bud := bud) hgr hpr B3 (P 3001 0).toNat 0 σ4 (by omega) f4 (fun m m0 m1 hm => b4 m (by omega) m1 hm) (fun m m0 m1 => by omega) c4 (fun σ5 f5 g5 c5 => ?_)
  refine l226c (d := d) (σ0 := σ3) (bud := bud) hgr B3 (P 3001 0).toNat 0 σ5 (by omega) f5 (fun m m0 m1 hm => g5 m (by omega) m1 hm) (fun m m0 m1 => by omega) (fun i i0 i1 => ?_) (fun σ6 f6 g6 c6 => ?_)
  · rw [c5 i i0 i1]
    show _ = _ + (0 : Int)
    omega
  have S6 : shrF σ1 σ6 := S3.tr f6.sh
  have R6 := S6.rp hg hR1
  have nc6 : ncR σ6 P R XX NL := fun m m0 m1 hm => by
    rw [hS.2.1, hS.2.2.1]
    exact g6 m m0 m1 hm
  refine r2R (d := d + 2) (E := E) hg hx1 R6 nc6 (by omega) n6 (by rw [S6.1.2.1 10045 _ rfl]; exact hn1) (fun e e0 e1 => ?_) (fun σ7 f7 u49 u50 => ?_)
  · obtain ⟨q1, q2, q3⟩ := hE1 e e0 e1
    exact ⟨by rw [S6.1.2.2 10046 _ rfl]; exact q1, q2, q3, (hre e e0 e1).1⟩
  simp only [Option.toList_none, List.nil_append]
  rw [← hS.2.2.2] at u49 u50
  have S7 : shrF σ1 σ7 := S6.tr (shrF.of f7 rfl rfl rfl)
  have B7 : kbR σ7 P r XX NL := ⟨S7.rp hg hR1, fun m m0 m1 hm => (nc6 m m0 m1 (hsub m hm)).fr f7 rfl, u49, u50⟩
  have c7 : ∀ i, 0 ≤ i → i < 23 → σ7.2.2 10052 121 i = ctS P T R bud (P 3001 0).toNat i := fun i i0 i1 => by rw [f7.2.2 10052 _ rfl]; exact c6 i i0 i1
  have cb := ct_b (bud := bud) hgr (P 3001 0).toNat (by omega) 3
  refine r226b (d := d + 2) hg hx2 sp gd B7 (by rw [c7 3 (by omega) (by omega)]; omega) (fun σ8 s8 r8 t69 tnb tor tsh tw => hQ σ8 (S7.tr s8) r8 t69 tnb tor (fun i i0 i1 => ?_) tw)
  by_cases g : i = 3
  · rw [if_pos g, g, tsh.2, c7 3 (by omega) (by omega)]
  · rw [if_neg g, tsh.1 i g, c7 i i0 i1]; omega
end RSHR2
