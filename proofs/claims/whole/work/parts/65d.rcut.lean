/-! the reference's strip: cut, join -/
def cd6 : List Nat := [10027, 10028, 10029, 10030, 10031, 10032]
/-- changes of the slot's own instructions alone -/
def stF (li la : List Nat) (B : Int) (σ σ' : j3_S) : Prop := frm li (la ++ cd6) σ σ' ∧ ∀ e, cd6.elem e = true → ∀ z, z < B ∨ B + 120 ≤ z → σ'.2.2 e 121 z = σ.2.2 e 121 z
/-- a row of the strip -/
def rwR (σ : j3_S) (z : Int) (X : Sx) (i a : Int) : Prop := σ.2.2 10027 121 z = X.op i ∧ σ.2.2 10028 121 z = a ∧ σ.2.2 10029 121 z = X.b i ∧ oR σ z (X.o1 i) (X.o2 i)
section RCT
variable {σ σ0 σ' σ'' : j3_S} {P : Pg} {m nl x n p k B r : Int} {X Y : Sx} {F : Fl} {W : Int → Int → Int → Prop} {d : Nat} {Q : j3_P} {li la : List Nat}
theorem stF.rf : stF li la B σ σ := ⟨frm.rf, fun _ _ _ _ => rfl⟩
theorem stF.tr (h : stF li la B σ σ') (h' : stF li la B σ' σ'') : stF li la B σ σ'' := ⟨h.1.tr h'.1, fun e he z hz => (h'.2 e he z hz).trans (h.2 e he z hz)⟩
theorem stF.wd {li' la' : List Nat} (h : stF li la B σ σ') (h1 : li.all (fun e => li'.elem e) = true) (h2 : la.all (fun e => la'.elem e) = true) : stF li' la' B σ σ' := by
  refine ⟨h.1.wd (sub_el h1) (fun e he => ?_), h.2⟩
  have hn : la'.elem e = false ∧ cd6.elem e = false := by
    simp only [List.elem_eq_mem, List.mem_append, decide_eq_false_iff_not, not_or] at he ⊢
    exact he
  have h3 := sub_el h2 e hn.1
  simp only [List.elem_eq_mem, List.mem_append, decide_eq_false_iff_not, not_or] at h3 hn ⊢
  exact ⟨h3, hn.2⟩
theorem stF.of (h : frm li la σ σ') (hd : cd6.all (fun e => !la.elem e) = true) : stF li la B σ σ' := by
  refine ⟨h.wd (fun _ q => q) (fun e he => ?_), fun e he z _ => by rw [h.2.2 e 121 (all_n hd he)]⟩
  simp only [List.elem_eq_mem, List.mem_append, decide_eq_false_iff_not, not_or] at he ⊢
  exact he.1
theorem st1 {e : Nat} {z v : Int} {I : Nat → Nat → Int} {p : Nat → Nat} {A : Nat → Nat → Int → Int} (he : cd6.elem e = true) (z0 : B ≤ z) (z1 : z < B + 120) (h : stF li la B σ (I, p, A)) : stF li la B σ (I, p, j3_ast A e 121 z v) := by
  have hm : (la ++ cd6).elem e = true := by
    simp only [List.elem_eq_mem, List.mem_append, decide_eq_true_eq] at he ⊢
    exact Or.inr he
  refine ⟨frm.A hm h.1, fun e' he' y hy => ?_⟩
  rw [← h.2 e' he' y hy]
  show j3_ast A e 121 z v e' 121 y = A e' 121 y
  unfold j3_ast
  by_cases g : e' = e
  · subst g
    rw [up_r, iu_n (by omega)]
  · rw [up_e (show (e' == e) = false by simpa using g)]
/-- the part that moves -/
theorem l208a (hX : okX nl X) (B0 : 0 ≤ B) (B1 : B + 120 ≤ 28800) (p0 : 0 ≤ p) (k1 : 1 ≤ k) (hpk : p + k ≤ X.n) : ∀ (j : Nat) (x : Int) (σ : j3_S), x + k + j = X.n → p ≤ x → stF [] [] B σ0 σ → (σ.1 10062 121 = B ∧ σ.1 10063 121 = X.n) → (∀ i, 0 ≤ i → i < X.n → if i < p then rwR σ (B + i) X i (X.a i) else if i < x then rwR σ (B + i) X (i + k) (X.a (i + k)) else rwR σ (B + i) X i (X.a i)) → (∀ σ', stF [] [] B σ0 σ' → (σ'.1 10062 121 = B ∧ σ'.1 10063 121 = X.n) → (∀ i, 0 ≤ i → i < X.n - k → if i < p then rwR σ' (B + i) X i (X.a i) else rwR σ' (B + i) X (i + k) (X.a (i + k))) → T208 (d + 1) Q 30 [wO 10 121, wI p, wI k, wI 0, wM 2] [] (j3_up σ'.1 10063 121 (X.n - k), σ'.2.1, σ'.2.2)) → T208 (d + 1) Q 2 [wO 10 121, wI p, wI k, wI x, wM 2] [] σ
  | 0, x, σ, hx, x0, hf, hI, hr, hQ => by
    have hn := hX.1
    rw [b208_2, hI.2, wr_id (z := x + k) (by omega) (by omega), if_neg (by omega), wr_id (by omega) (by omega)]
    refine hQ σ hf hI (fun i i0 i1 => ?_)
    have := hr i i0 (by omega)
    by_cases g : i < p
    · rw [if_pos g] at this ⊢; exact this
    · rw [if_neg g] at this ⊢
      rw [if_pos (by omega)] at this
      exact this
  | j + 1, x, σ, hx, x0, hf, hI, hr, hQ => by
    have hn := hX.1
    have src : rwR σ (B + (x + k)) X (x + k) (X.a (x + k)) := by
      have := hr (x + k) (by omega) (by omega)
      rw [if_neg (by omega), if_neg (by omega)] at this
      exact this
    rw [b208_2, hI.2, wr_id (z := x + k) (by omega) (by omega), if_pos (by omega), hI.1, wr_id (z := B + x) (by omega) (by omega), wr_id (z := B + x + k) (by omega) (by omega), s182 (by omega) (by omega) (by omega) (by omega)]
    simp only [Option.toList_none, List.nil_append]
    rw [b208_20, wr_id (by omega) (by omega)]
    have cv : ∀ e, cd6.elem e = true → ∀ z, (ciS σ (B + x + k) (B + x)).2.2 e 121 z = if z = B + x then σ.2.2 e 121 (B + (x + k)) else σ.2.2 e 121 z := by
      intro e he z
      rw [show B + x + k = B + (x + k) by omega]
      simp [cd6] at he
      rcases he with rfl | rfl | rfl | rfl | rfl | rfl <;> simp [ciS, j3_ast, j3_up, i_up]
    refine l208a hX B0 B1 p0 k1 hpk j (x + 1) _ (by omega) (by omega) (hf.tr ?_) hI (fun i i0 i1 => ?_) hQ
    · unfold ciS
      exact st1 rfl (by omega) (by omega) (st1 rfl (by omega) (by omega) (st1 rfl (by omega) (by omega) (st1 rfl (by omega) (by omega) (st1 rfl (by omega) (by omega) (st1 rfl (by omega) (by omega) stF.rf)))))
    · have row : ∀ q a, rwR (ciS σ (B + x + k) (B + x)) (B + i) X q a ↔ (if i = x then rwR σ (B + (x + k)) X q a else rwR σ (B + i) X q a) := by
        intro q a
        unfold rwR oR
        rw [cv 10027 rfl, cv 10028 rfl, cv 10029 rfl, cv 10030 rfl, cv 10031 rfl, cv 10032 rfl]
        by_cases gi : i = x
        · rw [if_pos (show B + i = B + x by omega), if_pos (show B + i = B + x by omega), if_pos (show B + i = B + x by omega), if_pos (show B + i = B + x by omega), if_pos (show B + i = B + x by omega), if_pos (show B + i = B + x by omega), if_pos gi]
        · rw [if_neg (show ¬ B + i = B + x by omega), if_neg (show ¬ B + i = B + x by omega), if_neg (show ¬ B + i = B + x by omega), if_neg (show ¬ B + i = B + x by omega), if_neg (show ¬ B + i = B + x by omega), if_neg (show ¬ B + i = B + x by omega), if_neg gi]
      have old := hr i i0 i1
      by_cases g : i < p
      · rw [if_pos g] at old ⊢
        rw [row, if_neg (by omega)]; exact old
      · rw [if_neg g] at old ⊢
        by_cases gx : i = x
        · rw [if_pos (show i < x + 1 by omega), row, if_pos gx, gx]; exact src
        · by_cases gl : i < x
          · rw [if_pos gl] at old
            rw [if_pos (show i < x + 1 by omega), row, if_neg gx]; exact old
          · rw [if_neg gl] at old
            rw [if_neg (show ¬ i < x + 1 by omega), row, if_neg gx]; exact old
/-- jumps told anew -/
theorem l208b (hX : okX nl X) (B0 : 0 ≤ B) (B1 : B + 120 ≤ 28800) (p0 : 0 ≤ p) (k1 : 1 ≤ k) (hpk : p + k ≤ X.n) : ∀ (j : Nat) (x : Int) (w4 : j3_W) (σ : j3_S), x + j = X.n - k → 0 ≤ x → stF [10063] [] B σ0 σ → (σ.1 10062 121 = B ∧ σ.1 10063 121 = X.n - k) → (∀ i, 0 ≤ i → i < X.n - k → rwR σ (B + i) (cutS X p k) i (if i < x then (cutS X p k).a i else shf p k X.a i)) → (∀ σ', stF [10063] [] B σ0 σ' → xR σ' (cutS X p k) B → Q none σ') → T208 (d + 1) Q 30 [wO 10 121, wI p, wI k, wI x, w4] [] σ
  | 0, x, w4, σ, hx, x0, hf, hI, hr, hQ => by
    rw [b208_30, hI.2, if_neg (by omega)]
    refine hQ σ hf ⟨hI, fun i i0 i1 => ?_⟩
    have i1 : i < X.n - k := i1
    have := hr i i0 i1
    rw [if_pos (by omega)] at this
    exact this
  | j + 1, x, w4, σ, hx, x0, hf, hI, hr, hQ => by
    have hn := hX.1
    obtain ⟨q1, q2, q3, q4⟩ := hr x x0 (by omega)
    rw [if_neg (by omega)] at q2
    have eo : (cutS X p k).op x = shf p k X.op x := rfl
    have ea : (cutS X p k).a x = if isj (shf p k X.op x) = true then rtg p k (shf p k X.a x) else shf p k X.a x := rfl
    rw [eo] at q1
    have go : ∀ w σ1, stF [10063] [] B σ0 σ1 → (σ1.1 10062 121 = B ∧ σ1.1 10063 121 = X.n - k) → (∀ i, 0 ≤ i → i < X.n - k → rwR σ1 (B + i) (cutS X p k) i (if i < x + 1 then (cutS X p k).a i else shf p k X.a i)) → T208 (d + 1) Q 74 [wO 10 121, wI p, wI k, wI x, w] [] σ1 := by
      intro w σ1 f1 i1 y1
      rw [b208_74, wr_id (by omega) (by omega)]
      exact l208b hX B0 B1 p0 k1 hpk j (x + 1) _ σ1 (by omega) (by omega) f1 i1 y1 hQ
    rw [b208_30, hI.2, if_pos (by omega), hI.1, wr_id (by omega) (by omega), q1, s164]
    refine ⟨by omega, ?_⟩
    simp only [Option.toList_some, List.cons_append, List.nil_append]
    rw [b208_42]
    cases gj : isj (shf p k X.op x)
    · rw [if_pos (show b2i false = 0 from rfl)]
      refine go _ σ hf hI (fun i i0 i1 => ?_)
      have old := hr i i0 i1
      by_cases gi : i = x
      · subst gi
        rw [if_neg (by omega)] at old
        rw [if_pos (by omega), ea, gj]; exact old
      · by_cases gl : i < x
        · rw [if_pos gl] at old; rw [if_pos (by omega)]; exact old
        · rw [if_neg gl] at old; rw [if_neg (by omega)]; exact old
    · rw [gj, if_pos rfl] at ea
      have hba : 0 ≤ shf p k X.a x ∧ shf p k X.a x ≤ 120 := by
        by_cases g : x < p
        · rw [shf_lo g] at gj ⊢; have := (hX.2 x x0 (by omega)).2.2 gj; omega
        · rw [shf_hi g] at gj ⊢; have := (hX.2 (x + k) (by omega) (by omega)).2.2 gj; omega
      have t73 : ∀ v, v = rtg p k (shf p k X.a x) → T208 (d + 1) Q 73 [wO 10 121, wI p, wI k, wI x, wI (shf p k X.a x)] [wI v, wI (B + x), wA 10028 121] σ := by
        intro v hv
        rw [b208_73]
        refine ⟨by omega, go _ _ (hf.tr (st1 rfl (by omega) (by omega) stF.rf)) hI (fun i i0 i1 => ?_)⟩
        have old := hr i i0 i1
        have e28 : ∀ z, j3_ast σ.2.2 10028 121 (B + x) v 10028 121 z = if z = B + x then v else σ.2.2 10028 121 z := fun z => by
          simp only [j3_ast, up_r, i_up]
        unfold rwR oR at old ⊢
        dsimp only
        rw [e28]
        simp only [j3_ast, up_e (show ((10027 : Nat) == 10028) = false from rfl), up_e (show ((10029 : Nat) == 10028) = false from rfl), up_e (show ((10030 : Nat) == 10028) = false from rfl), up_e (show ((10031 : Nat) == 10028) = false from rfl), up_e (show ((10032 : Nat) == 10028) = false from rfl)]
        refine ⟨old.1, ?_, old.2.2⟩
        by_cases gi : i = x
        · subst gi
          rw [if_pos rfl, if_pos (show i < i + 1 by omega), ea]; exact hv
        · rw [if_neg (show ¬ B + i = B + x by omega)]
          by_cases gl : i < x
          · rw [if_pos gl] at old; rw [if_pos (by omega)]; exact old.2.1
          · rw [if_neg gl] at old; rw [if_neg (by omega)]; exact old.2.1
      rw [if_neg (show ¬ b2i true = 0 by decide), hI.1, wr_id (z := B + x) (by omega) (by omega), q2, wr_id (z := p + k) (by omega) (by omega)]
      refine ⟨by omega, ?_⟩
      by_cases g1 : shf p k X.a x < p + k
      · rw [if_pos g1]
        by_cases g2 : p < shf p k X.a x
        · rw [if_pos g2]
          exact t73 p (by unfold rtg; rw [if_neg (by omega), if_pos g2])
        · rw [if_neg g2]
          exact t73 _ (by unfold rtg; rw [if_neg (by omega), if_neg g2])
      · rw [if_neg g1, wr_id (by omega) (by omega)]
        exact t73 _ (by unfold rtg; rw [if_pos (by omega)])
theorem s208 (hX : okX nl X) (B0 : 0 ≤ B) (B1 : B + 120 ≤ 28800) (hx : xR σ X B) (p0 : 0 ≤ p) (k1 : 1 ≤ k) (hpk : p + k ≤ X.n) (hQ : ∀ σ', stF [10063] [] B σ σ' → xR σ' (cutS X p k) B → Q none σ') : j3_tc true (d + 2) 208 [wO 10 121, wI p, wI k] σ Q := by
  rw [e208, b208_0]
  refine l208a (σ0 := σ) hX B0 B1 p0 k1 hpk (X.n - p - k).toNat p σ (by omega) (Int.le_refl p) stF.rf hx.1 (fun i i0 i1 => ?_) (fun σ1 f1 i1 r1 => ?_)
  · have := hx.2 i i0 i1
    by_cases g : i < p
    · rw [if_pos g]; exact this
    · rw [if_neg g, if_neg g]; exact this
  · refine l208b (σ0 := σ) hX B0 B1 p0 k1 hpk (X.n - k).toNat 0 _ _ (by omega) (by omega) ((f1.wd rfl rfl).tr (stF.of (frm.I rfl frm.rf) rfl)) ⟨?_, ?_⟩ (fun i i0 i1 => ?_) hQ
    · show j3_up σ1.1 10063 121 (X.n - k) 10062 121 = B
      rw [up_e (show ((10062 : Nat) == 10063) = false from rfl)]; exact i1.1
    · show j3_up σ1.1 10063 121 (X.n - k) 10063 121 = X.n - k
      exact up_r
    · have := r1 i i0 i1
      rw [if_neg (by omega)]
      by_cases g : i < p
      · rw [if_pos g] at this
        have e : rwR σ1 (B + i) (cutS X p k) i (shf p k X.a i) = rwR σ1 (B + i) X i (X.a i) := by
          unfold rwR
          rw [shf_lo g, show (cutS X p k).op i = X.op i from shf_lo g, show (cutS X p k).b i = X.b i from shf_lo g, show (cutS X p k).o1 i = X.o1 i from shf_lo g, show (cutS X p k).o2 i = X.o2 i from shf_lo g]
        have := e ▸ this
        exact this
      · rw [if_neg g] at this
        have e : rwR σ1 (B + i) (cutS X p k) i (shf p k X.a i) = rwR σ1 (B + i) X (i + k) (X.a (i + k)) := by
          unfold rwR
          rw [shf_hi g, show (cutS X p k).op i = X.op (i + k) from shf_hi g, show (cutS X p k).b i = X.b (i + k) from shf_hi g, show (cutS X p k).o1 i = X.o1 (i + k) from shf_hi g, show (cutS X p k).o2 i = X.o2 (i + k) from shf_hi g]
        have := e ▸ this
        exact this
end RCT
