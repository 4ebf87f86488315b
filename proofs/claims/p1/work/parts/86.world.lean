/-! the world at the law's entry -/
theorem lw_good {w : Cond} {args : Array Value} {s : State} (hts : ∀ w ∈ lw_tbl, w.before args s = true) (h : w ∈ jt_tb) : w.before args s = true := hts w (List.mem_filter.mp h).1
def lw_instP : List Nat := [43, 278, 480, 37, 353, 235, 331, 377, 337, 29, 1545]
theorem lw_inst : ∀ k, k < 11 → (match jt_cl[k]? with
  | some q => decide (tables_1[lw_instP.getD k 0]? = some (Cond.instantiable q.1 q.2.2))
  | none => false) = true := by decide +kernel
theorem lw_D {args : Array Value} {s : State} (hts : ∀ w ∈ lw_tbl, w.before args s = true) : ∃ D : va_G, ∀ (k : Nat) (q : vw_C), jt_cl[k]? = some q → u_Kn s q.1 q.2.1 q.2.2 (D.1 k) (D.2 k) := by
  have h : ∀ k : Nat, ∃ x : ClassId × (Nat → Nat), ∀ q : vw_C, jt_cl[k]? = some q → u_Kn s q.1 q.2.1 q.2.2 x.1 x.2 := by
    intro k
    cases hk : jt_cl[k]? with
    | none => exact ⟨(0, fun _ => 0), fun q hq => by cases hq⟩
    | some q =>
      have hk11 : k < 11 := (List.getElem?_eq_some_iff.mp hk).1
      have h1 := lw_inst k hk11
      rw [hk] at h1
      have h2 : Cond.instantiable q.1 q.2.2 ∈ lw_tbl := List.mem_append_right _ (List.mem_of_getElem? (of_decide_eq_true h1))
      obtain ⟨cC, iS, hK⟩ := u_known (C := q.1) (T := q.2.1) (N := q.2.2) (fun w hw => lw_good hts hw) (js_so k q.1 q.2.1 q.2.2 hk).1 (hts _ h2)
      exact ⟨(cC, iS), fun q' hq' => by cases hq'; exact hK⟩
  exact ⟨(fun k => (Classical.choose (h k)).1, fun k => (Classical.choose (h k)).2), fun k q hq => Classical.choose_spec (h k) q hq⟩
theorem lw_arr {args : Array Value} {s : State} {ty : FieldType} (hp : ∀ C, ty ≠ .object C) (h : (Cond.arrayClass ty).before args s = true) : ∃ cA : ClassId, ArrOfT s cA ty ∧ va_RA s cA ty := by
  obtain ⟨cA, kA, comp, h1, h2, h3⟩ := Cond.arrayClass_spec h
  refine ⟨cA, fun n z => ⟨fun k h => (by cases h), kA, h2, comp, h3⟩, ?_⟩
  cases ty <;> first | exact h1 | exact absurd rfl (hp _)
def lw_tm : Term := .static "ShrinkHouse" "TELLS" "[I"
set_option maxRecDepth 100000 in
theorem lw_el {args : Array Value} {s : State} (h : (Jvm.Cond.and given_1 narrow_1).before args s = true) : ∀ j : Nat, j < 27 → (Term.elem lw_tm (.int (Int32.ofNat j))).eval args s none [] s = some (.int ((jt_ro 0).2 j)) := by
  have hs := flat_of_before _ h
  intro j hj
  match j, hj with
  | 0, _ => exact va_eqt (hs (.eq (.elem lw_tm (.int 0)) (.int 1)) (by decide +kernel))
  | 1, _ => exact va_eqt (hs (.eq (.elem lw_tm (.int 1)) (.int 0)) (by decide +kernel))
  | 2, _ => exact va_eqt (hs (.eq (.elem lw_tm (.int 2)) (.int 2)) (by decide +kernel))
  | 3, _ => exact va_eqt (hs (.eq (.elem lw_tm (.int 3)) (.int 2)) (by decide +kernel))
  | 4, _ => exact va_eqt (hs (.eq (.elem lw_tm (.int 4)) (.int 0)) (by decide +kernel))
  | 5, _ => exact va_eqt (hs (.eq (.elem lw_tm (.int 5)) (.int 0)) (by decide +kernel))
  | 6, _ => exact va_eqt (hs (.eq (.elem lw_tm (.int 6)) (.int 0)) (by decide +kernel))
  | 7, _ => exact va_eqt (hs (.eq (.elem lw_tm (.int 7)) (.int 0)) (by decide +kernel))
  | 8, _ => exact va_eqt (hs (.eq (.elem lw_tm (.int 8)) (.int 0)) (by decide +kernel))
  | 9, _ => exact va_eqt (hs (.eq (.elem lw_tm (.int 9)) (.int 0)) (by decide +kernel))
  | 10, _ => exact va_eqt (hs (.eq (.elem lw_tm (.int 10)) (.int 0)) (by decide +kernel))
  | 11, _ => exact va_eqt (hs (.eq (.elem lw_tm (.int 11)) (.int 3)) (by decide +kernel))
  | 12, _ => exact va_eqt (hs (.eq (.elem lw_tm (.int 12)) (.int 3)) (by decide +kernel))
  | 13, _ => exact va_eqt (hs (.eq (.elem lw_tm (.int 13)) (.int 3)) (by decide +kernel))
  | 14, _ => exact va_eqt (hs (.eq (.elem lw_tm (.int 14)) (.int 3)) (by decide +kernel))
  | 15, _ => exact va_eqt (hs (.eq (.elem lw_tm (.int 15)) (.int 4)) (by decide +kernel))
  | 16, _ => exact va_eqt (hs (.eq (.elem lw_tm (.int 16)) (.int 5)) (by decide +kernel))
  | 17, _ => exact va_eqt (hs (.eq (.elem lw_tm (.int 17)) (.int 5)) (by decide +kernel))
  | 18, _ => exact va_eqt (hs (.eq (.elem lw_tm (.int 18)) (.int 5)) (by decide +kernel))
  | 19, _ => exact va_eqt (hs (.eq (.elem lw_tm (.int 19)) (.int 5)) (by decide +kernel))
  | 20, _ => exact va_eqt (hs (.eq (.elem lw_tm (.int 20)) (.int 6)) (by decide +kernel))
  | 21, _ => exact va_eqt (hs (.eq (.elem lw_tm (.int 21)) (.int 6)) (by decide +kernel))
  | 22, _ => exact va_eqt (hs (.eq (.elem lw_tm (.int 22)) (.int 0)) (by decide +kernel))
  | 23, _ => exact va_eqt (hs (.eq (.elem lw_tm (.int 23)) (.int 0)) (by decide +kernel))
  | 24, _ => exact va_eqt (hs (.eq (.elem lw_tm (.int 24)) (.int 4)) (by decide +kernel))
  | 25, _ => exact va_eqt (hs (.eq (.elem lw_tm (.int 25)) (.int 4)) (by decide +kernel))
  | 26, _ => exact va_eqt (hs (.eq (.elem lw_tm (.int 26)) (.int 0)) (by decide +kernel))
  | n + 27, hj => exact absurd hj (by omega)
theorem lw_world {args : Array Value} {s : State} (hts : ∀ w ∈ lw_tbl, w.before args s = true) (hgv : (Jvm.Cond.and given_1 narrow_1).before args s = true) : ∃ (D : va_G) (cI cB cZ : ClassId) (tA : Nat), va_K D jt_cl [(cI, .int), (cB, .byte), (cZ, .boolean)] s ∧ va_Z "ShrinkHouse" "TELLS" "[I" (.ref tA) (fun q : Nat => s.heap.size ≤ q) s s.heap ∧ va_T .int tA 27 (fun i => .int ((jt_ro 0).2 i)) (fun q : Nat => s.heap.size ≤ q) s s.heap := by
  obtain ⟨D, hD⟩ := lw_D hts
  obtain ⟨cI, i1, i2⟩ := lw_arr (ty := .int) (fun C => by simp) (lw_good hts (jt_in 95 (by decide +kernel) rfl))
  obtain ⟨cB, b1, b2⟩ := lw_arr (ty := .byte) (fun C => by simp) (lw_good hts (jt_in 94 (by decide +kernel) rfl))
  obtain ⟨cZ, z1, z2⟩ := lw_arr (ty := .boolean) (fun C => by simp) (lw_good hts (jt_in 1845 (by decide +kernel) rfl))
  have hs := flat_of_before _ hgv
  have hA : ∀ a : Nat, a < s.heap.size → ¬ (fun q : Nat => s.heap.size ≤ q) a := fun a h => Nat.not_le.mpr h
  obtain ⟨tA, ht, hT⟩ := va_Tof (tm := lw_tm) (N := 27) (f := fun i => .int ((jt_ro 0).2 i)) (by decide) (hs (.arrayOf lw_tm .int) (by decide +kernel)) (va_eqt (z := 27) (hs (.eq (.length lw_tm) (.int 27)) (by decide +kernel))) (lw_el hgv) hA
  refine ⟨D, cI, cB, cZ, tA, ⟨hD, fun k q hk => ?_⟩, va_Zof (hts (.laysStatic "ShrinkHouse" "TELLS" "[I") (by decide +kernel)) (hts (.initialized "ShrinkHouse") (by decide +kernel)) ht hA, hT⟩
  match k, hk with
  | 0, hk => cases hk; exact ⟨i1, i2⟩
  | 1, hk => cases hk; exact ⟨b1, b2⟩
  | 2, hk => cases hk; exact ⟨z1, z2⟩
