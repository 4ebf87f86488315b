/-! the reference makes the small program -/
def rsI : List Nat := [10051, 10061, 10062, 10063, 10068, 10076]
def rsA : List Nat := [10009, 10010, 10011, 10012, 10013, 10014, 10015, 10016, 10017, 10018, 10019, 10020, 10021, 10022, 10023, 10024, 10025, 10026, 10027, 10028, 10029, 10030, 10031, 10032, 10034, 10049, 10050, 10052, 10053, 10054, 10055, 10056, 10057, 10058, 10059, 10060, 10064, 10065, 10066, 10067, 10069, 10070, 10071, 10072, 10073, 10074, 10075]
/-- what the reference's shrink leaves -/
def shrF (σ σ' : j3_S) : Prop := frm rsI rsA σ σ' ∧ ∀ e z, 10009 ≤ e → e ≤ 10034 → z < slz e → σ'.2.2 e 121 z = σ.2.2 e 121 z
section RSHR
variable {σ σ' σ'' σ0 : j3_S} {P A : Pg} {T : Int → Fl} {R r : Rs} {XX : Int → Sx} {NL E L : Int → Int} {X : Sx} {d : Nat} {x c m i w k n v t l p u cp bud a b op l0 : Int} {Q : j3_P}
theorem shrF.rf : shrF σ σ := ⟨frm.rf, fun _ _ _ _ _ => rfl⟩
theorem shrF.tr (h : shrF σ σ') (h' : shrF σ' σ'') : shrF σ σ'' := ⟨h.1.tr h'.1, fun e z a b c => (h'.2 e z a b c).trans (h.2 e z a b c)⟩
theorem shrF.of {li la : List Nat} (h : frm li la σ σ') (h1 : li.all (fun e => rsI.elem e) = true) (h2 : la.all (fun e => rsA.elem e) = true) (h3 : la.all (fun e => decide (10034 < e)) = true) : shrF σ σ' := by
  refine ⟨h.wd (sub_el h1) (sub_el h2), fun e z e0 e1 _ => ?_⟩
  have : la.elem e = false := by
    cases hb : la.elem e
    · rfl
    · have := List.all_eq_true.mp h3 e (by simpa using hb)
      simp at this
      omega
  rw [h.2.2 e 121 this]
theorem s2F.sh (h : s2F rlI rlA σ σ') : shrF σ σ' := by
  refine ⟨h.1.wd (sub_el rfl) (sub_el rfl), fun e z e0 e1 hz => ?_⟩
  by_cases g : s2A.elem e = true
  · refine h.2 e g z ?_
    have : 0 ≤ slz e := by
      unfold slz
      split
      · omega
      · split
        · omega
        · split
          · omega
          · split
            · omega
            · split <;> omega
    omega
  · have : (rlA ++ s2A).elem e = false := by
      simp only [Bool.not_eq_true] at g
      simp only [List.elem_eq_mem, decide_eq_false_iff_not, List.mem_append, not_or] at g ⊢
      refine ⟨?_, g⟩
      simp [rlA]
      omega
    rw [h.1.2.2 e 121 this]
theorem nuF.sh (h : nuF 0 0 σ σ') : shrF σ σ' := by
  refine ⟨h.1.wd (fun _ q => by simp) (sub_el rfl), fun e z e0 e1 hz => ?_⟩
  by_cases g : e ≤ 10032
  · exact h.ch (by omega) (by omega) e z e0 g (Or.inl hz)
  · rw [h.1.2.2 e _ (by simp [nuA]; omega)]
theorem naF.sh (h : naF σ σ') : shrF σ σ' := by
  refine ⟨h.1.wd (fun _ q => by simp) (sub_el rfl), fun e z e0 e1 hz => ?_⟩
  by_cases g : e = 10020
  · subst g
    exact h.2 z (Or.inl (show z < 80 from hz))
  · rw [h.1.2.2 e _ (by simp; omega)]
theorem shrF.ss (h : shrF σ σ') : smS 0 σ σ' := fun e z e0 e1 _ z1 _ => h.2 e z e0 e1 (by omega)
theorem shrF.rp (h : shrF σ σ') (hg : good P) (hR : RP σ 0 P) : RP σ' 0 P := hR.mv h.ss (bnd_of hg.1)
theorem l226z (hg : good P) : ∀ (n : Nat) (i : Int) (σ : j3_S), i + n = 23 → 0 ≤ i → (∀ j, 0 ≤ j → j < i → σ.2.2 10052 121 j = 0) → (∀ σ' x2, frm [] [10052] σ σ' → (∀ j, 0 ≤ j → j < 23 → σ'.2.2 10052 121 j = 0) → j3_tc true d 194 [wO 10 121, wI 0] σ' (fun r σ1 => T226 d Q 39 [wO 10 121, wI bud, wI x2] (r.toList ++ []) σ1)) → T226 d Q 26 [wO 10 121, wI bud, wI i] [] σ
  | 0, i, σ, hi, i0, hz, hQ => by
    rw [b226_26, if_neg (by omega)]
    exact hQ σ i frm.rf (fun j j0 j1 => hz j j0 (by omega))
  | n + 1, i, σ, hi, i0, hz, hQ => by
    rw [b226_26, if_pos (by omega), wr_id (by omega) (by omega)]
    refine ⟨by omega, l226z hg n (i + 1) _ (by omega) (by omega) (fun j j0 j1 => ?_) (fun σ' x2 f1 t1 => hQ σ' x2 ((frm.A rfl frm.rf : frm [] [10052] σ (σ.1, σ.2.1, j3_ast σ.2.2 10052 121 i 0)).tr f1) t1)⟩
    show j3_up σ.2.2 10052 121 (i_up (σ.2.2 10052 121) i 0) 10052 121 j = 0
    rw [up_r]
    by_cases e : j = i
    · rw [e, iu_r]
    · rw [iu_n e]; exact hz j j0 (by omega)
/-- the reference, from what is kept on -/
theorem r226b (hg : good P) (hxx : xxR P r XX NL) (sp : SPg P r XX NL A) (gd : good A) (hB : kbR σ P r XX NL) (hc3 : 0 ≤ σ.2.2 10052 121 3 ∧ σ.2.2 10052 121 3 ≤ 1000000000) {x1 x2 : Int} (hQ : ∀ σ', shrF σ σ' → RP σ' 1 A → (∀ c, 0 ≤ c → c < P 3000 0 → σ'.2.2 10069 121 c = nC P r XX c) → nbR σ' P r XX (P 3000 0) (P 3001 0) → (∀ m, 0 ≤ m → m < P 3001 0 → kM P r XX m → orR P r XX σ' m) → shR σ σ' (shl P r XX (P 3001 0)) → (σ'.1 10076 121 = ((outL A).length : Int) ∧ (∀ i : Nat, i < (outL A).length → σ'.2.2 10075 121 i = i_an ((outL A).getD i 0) 255) ∧ σ'.2.2 10034 121 1 = ((outL A).length : Int)) → Q (some (wI ((outL A).length : Int))) (j3_up σ'.1 10044 121 1, σ'.2.1, σ'.2.2)) : T226 (d + 4) Q 103 [wO 10 121, wI x1, wI x2] [] σ := by
  rw [b226_103]
  refine s215 (d := d + 1) hg hxx hB (fun σ1 f1 e1 => ?_)
  simp only [Option.toList_none, List.nil_append]
  have hB1 := hB.mk f1
  rw [b226_105]
  refine s217 (d := d + 1) hg hxx hB1 e1 (by rw [f1.2.2 10052 _ rfl]; omega) (fun σ2 f2 t69 t9 t18 tsh tnb tw => ?_)
  simp only [Option.toList_none, List.nil_append]
  have hB2 := f2.kb hg (by omega) (by omega) hB1 hxx
  rw [b226_107]
  refine s219 (d := d + 2) hg hxx hB2.1 t69 tnb t18 (fun m m0 m1 hm => (tw.2 m m0 m1 hm).2) (fun σ3 f3 t3 => ?_)
  simp only [Option.toList_none, List.nil_append]
  have hB3 := f3.nu.kb hg (by omega) (by omega) hB2 hxx
  have N3 : naR σ3 P r XX NL := by
    refine ⟨hB3.1, ⟨?_, fun c c0 c1 => by rw [f3.1.2.2 10069 _ rfl]; exact t69 c c0 c1, ?_⟩, fun c c0 c1 hc => ?_, fun m m0 m1 hm => ?_⟩
    · exact (e1.nu f2.1).nu (f3.1.wd (fun _ q => q) (sub_el rfl))
    · exact ⟨fun c' f q0 q1 q2 q3 => by rw [f3.1.2.2 10070 _ rfl]; exact tnb.1 c' f q0 q1 q2 q3, fun m q0 q1 => by rw [f3.1.2.2 10071 _ rfl]; exact tnb.2 m q0 q1⟩
    · obtain ⟨⟨b1, b2⟩, b3, b4, b5⟩ := (tw.1 c c0 c1 hc).1
      refine ⟨⟨?_, ?_⟩, ?_, ?_, ?_⟩
      · show σ3.2.2 10010 121 _ = _; rw [f3.1.2.2 10010 _ rfl]; exact b1
      · show σ3.2.2 10011 121 _ = _; rw [f3.1.2.2 10011 _ rfl]; exact b2
      · show σ3.2.2 10012 121 _ = _; rw [f3.1.2.2 10012 _ rfl]; exact b3
      · show σ3.2.2 10014 121 _ = _; rw [f3.1.2.2 10014 _ rfl]; exact b4
      · show σ3.2.2 10013 121 _ = _; rw [f3.1.2.2 10013 _ rfl]; exact b5
    · exact (tw.2 m m0 m1 hm).1.rw (fun e he => f3.1.2.2 e _ (by simp at he; rcases he with rfl | rfl | rfl | rfl | rfl | rfl <;> rfl))
  rw [b226_109]
  refine s221 (d := d + 2) hg N3 (fun σ4 f4 t4 => ?_)
  simp only [Option.toList_none, List.nil_append]
  have N4 := f4.na hg N3
  have sp4 : SPg P r XX NL (PgR σ4) := by
    refine ⟨⟨?_, ?_⟩, fun c c0 c1 hc => ⟨N4.2.2.1 c c0 c1 hc, fun f f0 f1 hf => ?_⟩, fun m m0 m1 hm => ⟨N4.2.2.2 m m0 m1 hm, t4 m m0 m1 hm, ?_⟩⟩
    · show σ4.2.2 10009 121 1 = _
      rw [f4.1.2.2 10009 _ rfl, f3.1.2.2 10009 _ rfl]; exact t9
    · show σ4.2.2 10018 121 1 = _
      rw [f4.1.2.2 10018 _ rfl, f3.1.2.2 10018 _ rfl]; exact t18
    · exact ((tw.1 c c0 c1 hc).2 f f0 f1 hf).rw (fun e he => by
        have h1 : [10020].elem e = false := by simp at he ⊢; omega
        have h2 : [10028, 10029].elem e = false := by simp at he ⊢; omega
        rw [f4.1.2.2 e _ h1, f3.1.2.2 e _ h2])
    · obtain ⟨⟨c1, c2⟩, -⟩ := t3 m m0 m1 hm
      refine ⟨?_, fun i i0 i1 => ?_⟩
      · show σ4.2.2 10026 121 _ = _; rw [f4.1.2.2 10026 _ rfl]; exact c1
      · have := c2 i i0 i1
        refine ⟨?_, ?_, ?_⟩
        · show σ4.2.2 10027 121 _ = _; rw [f4.1.2.2 10027 _ rfl]; exact this.1
        · show σ4.2.2 10028 121 _ = _; rw [f4.1.2.2 10028 _ rfl]; exact this.2.1
        · show σ4.2.2 10029 121 _ = _; rw [f4.1.2.2 10029 _ rfl]; exact this.2.2
  have R4 : RP σ4 1 A := sp4.rp hg sp
  rw [b226_111]
  refine w224 (d := d + 1) gd.1 gd.2.2.2.2 R4 (fun σ5 f5 => ?_)
  simp only [Option.toList_none, List.nil_append]
  have hl := outL_l gd.1 gd.2.2.2.2
  rw [b226_113]
  dsimp only
  rw [f5.2.1]
  refine ⟨by simp, ?_⟩
  generalize hσ6 : ((σ5.1, σ5.2.1, j3_ast σ5.2.2 10034 121 1 ((outL A).length : Int)) : j3_S) = σ6
  have F6 : frm [] [10034] σ5 σ6 := by rw [← hσ6]; exact frm.A rfl frm.rf
  have a34 : σ6.2.2 10034 121 = i_up (σ5.2.2 10034 121) 1 ((outL A).length : Int) := by rw [← hσ6]; simp only [j3_ast]; rw [up_r]
  have S5 : shrF σ4 σ5 := shrF.of f5.1 rfl rfl rfl
  have S6 : shrF σ5 σ6 := by
    refine ⟨F6.wd (fun _ q => by simp) (sub_el rfl), fun e z e0 e1 hz => ?_⟩
    by_cases g : e = 10034
    · subst g
      have : z < 1 := hz
      rw [a34, iu_n (by omega)]
    · rw [F6.2.2 e _ (by simpa using g)]
  have S : shrF σ σ6 := (((((shrF.of f1 rfl rfl rfl).tr f2.sh).tr f3.nu.sh).tr f4.sh).tr S5).tr S6
  have k : ∀ e, ¬ e = 10034 → ¬ e = 10075 → σ6.2.2 e 121 = σ4.2.2 e 121 := fun e q q' => by
    rw [F6.2.2 e _ (by simpa using q), f5.1.2.2 e _ (by simpa using q')]
  have := hQ σ6 S (R4.fr (li := [10076]) (la := [10034, 10075]) ⟨by rw [F6.1, f5.1.1], fun e o' h => by rw [F6.2.1 e o' rfl, f5.1.2.1 e o' h], fun e o' h => by
    have h1 : [10034].elem e = false := by simp at h ⊢; omega
    have h2 : [10075].elem e = false := by simp at h ⊢; omega
    rw [F6.2.2 e o' h1, f5.1.2.2 e o' h2]⟩ (fun e e0 e1 => by simp; omega)) (fun c c0 c1 => by rw [k 10069 (by omega) (by omega)]; exact N4.2.1.2.1 c c0 c1) (by unfold nbR; rw [k 10070 (by omega) (by omega), k 10071 (by omega) (by omega)]; exact N4.2.1.2.2) (fun m m0 m1 hm => ?_) ?_ ⟨?_, ?_, ?_⟩
  · rw [← hσ6] at this
    exact this
  · intro i i0 i1
    have := (t3 m m0 m1 hm).2 i i0 i1
    unfold oR at this ⊢
    rw [k 10030 (by omega) (by omega), k 10031 (by omega) (by omega), k 10032 (by omega) (by omega), f4.1.2.2 10030 _ rfl, f4.1.2.2 10031 _ rfl, f4.1.2.2 10032 _ rfl]
    exact this
  · have e52 : σ6.2.2 10052 121 = σ2.2.2 10052 121 := by rw [k 10052 (by omega) (by omega), f4.1.2.2 10052 _ rfl, f3.1.2.2 10052 _ rfl]
    unfold shR at tsh ⊢
    rw [e52]
    rw [f1.2.2 10052 _ rfl] at tsh
    exact tsh
  · rw [← hσ6]; exact f5.2.1
  · intro i hi
    rw [F6.2.2 10075 _ rfl]; exact f5.2.2 i hi
  · rw [a34, iu_r]
end RSHR
