/-! a leaf is put in -/
def stoS (l0 cp : Int) : Nat → Sx → Sx
  | 0, X => X
  | k + 1, X => stoS l0 cp k (adS X 3 (l0 + k) 0 cp (-1))
def bodS (P : Pg) (u l0 cp : Int) : Nat → Int → Sx → Sx
  | 0, _, X => X
  | n + 1, j, X => bodS P u l0 cp n (j + 1) (adS X (P 1 (u * 120 + j)) (P 2 (u * 120 + j) + (if P 1 (u * 120 + j) = 2 ∨ P 1 (u * 120 + j) = 3 then l0 else 0)) (P 3 (u * 120 + j)) (u * 1000 + j) cp)
def puS (P : Pg) (u l0 cp : Int) (X : Sx) : Sx := bodS P u l0 cp (P 0 u - 1).toNat 0 (stoS l0 cp (P 3015 u).toNat X)
def samX (X X' : Sx) (q : Int) : Prop := X'.op q = X.op q ∧ X'.a q = X.a q ∧ X'.b q = X.b q ∧ X'.o1 q = X.o1 q ∧ X'.o2 q = X.o2 q
def atX (X : Sx) (q o a b u v : Int) : Prop := X.op q = o ∧ X.a q = a ∧ X.b q = b ∧ X.o1 q = u ∧ X.o2 q = v
def plnB (o : Int) : Bool := decide (o ≤ 10) || (decide (15 ≤ o) && decide (o ≤ 19)) || (decide (23 ≤ o) && decide (o ≤ 25))
section LEAF
variable {P : Pg} {m nl nl0 n0 i j q o a b u v B n l0 cp : Int} {X X' : Sx} {F G E Fu : Fl} {W : Int → Int → Int → Prop} {st s l : Int → Int}
theorem samX.rf : samX X X q := ⟨rfl, rfl, rfl, rfl, rfl⟩
theorem samX.tr {X2 : Sx} (h : samX X X' q) (h' : samX X' X2 q) : samX X X2 q := by
  obtain ⟨a1, a2, a3, a4, a5⟩ := h
  obtain ⟨b1, b2, b3, b4, b5⟩ := h'
  exact ⟨b1.trans a1, b2.trans a2, b3.trans a3, b4.trans a4, b5.trans a5⟩
theorem samX.at {w : Int} (h : samX X X' q) (h' : atX X q o a b u w) : atX X' q o a b u w := by
  obtain ⟨a1, a2, a3, a4, a5⟩ := h
  obtain ⟨b1, b2, b3, b4, b5⟩ := h'
  exact ⟨a1.trans b1, a2.trans b2, a3.trans b3, a4.trans b4, a5.trans b5⟩
theorem adS_n (h : q < X.n) : samX X (adS X o a b u v) q := ⟨iu_n (by omega), iu_n (by omega), iu_n (by omega), iu_n (by omega), iu_n (by omega)⟩
theorem adS_r : atX (adS X o a b u v) X.n o a b u v := ⟨iu_r, iu_r, iu_r, iu_r, iu_r⟩
theorem sto_c : ∀ (k : Nat) (X : Sx), (stoS l0 cp k X).n = X.n + k ∧ (∀ q, q < X.n → samX X (stoS l0 cp k X) q) ∧ ∀ r, 0 ≤ r → r < (k : Int) → atX (stoS l0 cp k X) (X.n + r) 3 (l0 + (k - 1 - r)) 0 cp (-1)
  | 0, X => ⟨by show X.n = X.n + 0; omega, fun _ _ => samX.rf, fun r r0 r1 => absurd r1 (by omega)⟩
  | k + 1, X => by
    obtain ⟨h1, h2, h3⟩ := sto_c k (adS X 3 (l0 + k) 0 cp (-1))
    have en : (adS X 3 (l0 + k) 0 cp (-1)).n = X.n + 1 := rfl
    rw [en] at h1 h2 h3
    refine ⟨by show (stoS l0 cp k _).n = _; rw [h1]; push_cast; omega, fun q hq => (adS_n hq).tr (h2 q (by omega)), fun r r0 r1 => ?_⟩
    by_cases g : r = 0
    · subst g
      have e : l0 + (((k + 1 : Nat) : Int) - 1 - 0) = l0 + k := by push_cast; omega
      rw [e, show X.n + 0 = X.n by omega]
      exact (h2 X.n (by omega)).at adS_r
    · have := h3 (r - 1) (by omega) (by push_cast at r1; omega)
      rw [show X.n + 1 + (r - 1) = X.n + r by omega, show l0 + ((k : Int) - 1 - (r - 1)) = l0 + (((k + 1 : Nat) : Int) - 1 - r) by push_cast; omega] at this
      exact this
theorem bod_c : ∀ (k : Nat) (j : Int) (X : Sx), (bodS P u l0 cp k j X).n = X.n + k ∧ (∀ q, q < X.n → samX X (bodS P u l0 cp k j X) q) ∧ ∀ r, 0 ≤ r → r < (k : Int) → atX (bodS P u l0 cp k j X) (X.n + r) (P 1 (u * 120 + (j + r))) (P 2 (u * 120 + (j + r)) + (if P 1 (u * 120 + (j + r)) = 2 ∨ P 1 (u * 120 + (j + r)) = 3 then l0 else 0)) (P 3 (u * 120 + (j + r))) (u * 1000 + (j + r)) cp
  | 0, j, X => ⟨by show X.n = X.n + 0; omega, fun _ _ => samX.rf, fun r r0 r1 => absurd r1 (by omega)⟩
  | k + 1, j, X => by
    unfold bodS
    generalize hY : adS X (P 1 (u * 120 + j)) (P 2 (u * 120 + j) + (if P 1 (u * 120 + j) = 2 ∨ P 1 (u * 120 + j) = 3 then l0 else 0)) (P 3 (u * 120 + j)) (u * 1000 + j) cp = Y
    obtain ⟨h1, h2, h3⟩ := bod_c k (j + 1) Y
    have en : Y.n = X.n + 1 := by rw [← hY]; rfl
    rw [en] at h1 h2 h3
    refine ⟨by rw [h1]; push_cast; omega, fun q hq => (by rw [← hY] at h2 ⊢; exact (adS_n hq).tr (h2 q (by omega))), fun r r0 r1 => ?_⟩
    by_cases g : r = 0
    · subst g
      rw [show X.n + 0 = X.n by omega, show j + 0 = j by omega]
      refine (h2 X.n (by omega)).at ?_
      rw [← hY]; exact adS_r
    · have := h3 (r - 1) (by omega) (by push_cast at r1; omega)
      rw [show X.n + 1 + (r - 1) = X.n + r by omega, show j + 1 + (r - 1) = j + r by omega] at this
      exact this
theorem pu_c (h0 : 0 ≤ P 3015 u) (h1 : 1 ≤ P 0 u) : (puS P u l0 cp X).n = X.n + P 3015 u + (P 0 u - 1) ∧ (∀ q, q < X.n → samX X (puS P u l0 cp X) q) ∧ (∀ r, 0 ≤ r → r < P 3015 u → atX (puS P u l0 cp X) (X.n + r) 3 (l0 + (P 3015 u - 1 - r)) 0 cp (-1)) ∧ ∀ r, 0 ≤ r → r < P 0 u - 1 → atX (puS P u l0 cp X) (X.n + P 3015 u + r) (P 1 (u * 120 + r)) (P 2 (u * 120 + r) + (if P 1 (u * 120 + r) = 2 ∨ P 1 (u * 120 + r) = 3 then l0 else 0)) (P 3 (u * 120 + r)) (u * 1000 + r) cp := by
  obtain ⟨a1, a2, a3⟩ := sto_c (l0 := l0) (cp := cp) (P 3015 u).toNat X
  obtain ⟨b1, b2, b3⟩ := bod_c (P := P) (u := u) (l0 := l0) (cp := cp) (P 0 u - 1).toNat 0 (stoS l0 cp (P 3015 u).toNat X)
  have e1 : (((P 3015 u).toNat : Nat) : Int) = P 3015 u := by omega
  have e2 : (((P 0 u - 1).toNat : Nat) : Int) = P 0 u - 1 := by omega
  rw [e1] at a1 a3
  rw [a1] at b1 b2 b3
  rw [e2] at b1 b3
  refine ⟨b1, fun q hq => (a2 q hq).tr (b2 q (by omega)), fun r r0 r1 => (b2 _ (by omega)).at (a3 r r0 r1), fun r r0 r1 => ?_⟩
  have := b3 r r0 r1
  rw [show 0 + r = r by omega] at this
  exact this
theorem pln_f (h : plnB o = true) : gon o = true ∧ isj o = false ∧ ¬ o = 22 := by
  simp only [plnB, Bool.or_eq_true, Bool.and_eq_true, decide_eq_true_eq] at h
  refine ⟨?_, ?_, by omega⟩
  · simp only [gon, Bool.not_eq_true', Bool.or_eq_false_iff, decide_eq_false_iff_not]; omega
  · simp only [isj, Bool.and_eq_false_iff, decide_eq_false_iff_not]; omega
/-- a leaf's typing: all of it is met -/
def lfT (P : Pg) (u : Int) (Fu : Fl) : Prop := (¬ P 3013 u = 0 ∧ 0 ≤ P 3015 u ∧ 1 ≤ P 0 u) ∧ TyC P u (P 3017 u) (cdP P u) Fu ∧ (∀ j, 0 ≤ j → j < P 0 u - 1 → plnB (P 1 (u * 120 + j)) = true) ∧ P 1 (u * 120 + (P 0 u - 1)) = 22 ∧ Fu.1 (P 0 u - 1) = if P 3014 u = 0 then 0 else 1
theorem lf_met (h : lfT P u Fu) : ∀ (k : Nat), (k : Int) < P 0 u → 0 ≤ Fu.1 k
  | 0, _ => by have := h.2.1.1; show 0 ≤ Fu.1 0; omega
  | k + 1, hk => by
    have := lf_met h k (by omega)
    have t := h.2.1.2.2 k (by omega) (by show (k : Int) < P 0 u; omega) this
    have g := (pln_f (h.2.2.1 k (by omega) (by omega))).1
    have f := (t.2.2.1 g).2.1
    have w := wl_le t.2.1
    rw [← f] at w
    exact w
theorem lf_ty (h : lfT P u Fu) (j0 : 0 ≤ j) (j1 : j < P 0 u) : 0 ≤ Fu.1 j ∧ TyI P u (P 3017 u) (P 0 u) (P 1 (u * 120 + j)) (P 2 (u * 120 + j)) (P 3 (u * 120 + j)) j Fu := by
  have := lf_met h j.toNat (by omega)
  rw [show ((j.toNat : Nat) : Int) = j by omega] at this
  exact ⟨this, h.2.1.2.2 j j0 j1 this⟩
end LEAF
