/-! how the small machine's cells lie in the heap -/
def jm_E (cI cB cZ : ClassId) (ad rd : Nat → Nat) (σ : jm_S) (k : Nat) : va_E := match σ.2.1[k]? with
  | some (0, _, n) => .inl (cI, n, .inl (σ.2.2.2 k))
  | some (1, _, n) => .inl (cB, n, .inl (σ.2.2.2 k))
  | some (2, _, n) => .inl (cZ, n, .inl (σ.2.2.2 k))
  | some (_, c, n) => .inr (c, (List.range n).map (fun j => jm_cv ad rd (σ.2.2.1 k j)))
  | none => .inr (0, [])
def jm_ws (cI cB cZ : ClassId) (ad rd : Nat → Nat) (σ : jm_S) : va_W := (List.range σ.2.1.length).map fun k => (ad k, jm_E cI cB cZ ad rd σ k)
section JMREP
variable {cI cB cZ : ClassId} {ad rd : Nat → Nat} {σ : jm_S}
theorem jm_ws_at {k : Nat} {q : Nat × Nat × Nat} (h : σ.2.1[k]? = some q) : (jm_ws cI cB cZ ad rd σ)[k]? = some (ad k, jm_E cI cB cZ ad rd σ k) := by
  have hk : k < σ.2.1.length := (List.getElem?_eq_some_iff.mp h).1
  simp [jm_ws, List.getElem?_map, List.getElem?_range hk]
theorem jm_E_i {k n : Nat} {x : Nat} (h : σ.2.1[k]? = some (0, x, n)) : jm_E cI cB cZ ad rd σ k = .inl (cI, n, .inl (σ.2.2.2 k)) := by
  simp [jm_E, h]
theorem jm_E_b {k n : Nat} {x : Nat} (h : σ.2.1[k]? = some (1, x, n)) : jm_E cI cB cZ ad rd σ k = .inl (cB, n, .inl (σ.2.2.2 k)) := by
  simp [jm_E, h]
theorem jm_E_z {k n : Nat} {x : Nat} (h : σ.2.1[k]? = some (2, x, n)) : jm_E cI cB cZ ad rd σ k = .inl (cZ, n, .inl (σ.2.2.2 k)) := by
  simp [jm_E, h]
theorem jm_E_o {k n c : Nat} (h : σ.2.1[k]? = some (3, c, n)) : jm_E cI cB cZ ad rd σ k = .inr (c, (List.range n).map (fun j => jm_cv ad rd (σ.2.2.1 k j))) := by
  simp [jm_E, h]
theorem jm_row_self {α : Type} (f : Nat → Nat → α) (o : Nat) (g : Nat → α) : jm_row f o g o = g := by simp [jm_row]
theorem jm_row_ne {α : Type} (f : Nat → Nat → α) {o a : Nat} (g : Nat → α) (h : a ≠ o) : jm_row f o g a = f a := by simp [jm_row, h]
/-- a world with one cell changed -/
theorem jm_ws_set {o : Nat} {σ' : jm_S} {q : Nat × Nat × Nat} (ho : σ.2.1[o]? = some q) (hs : σ'.2.1 = σ.2.1) (hn : ∀ k, k ≠ o → jm_E cI cB cZ ad rd σ' k = jm_E cI cB cZ ad rd σ k) :
    (jm_ws cI cB cZ ad rd σ).set o (ad o, jm_E cI cB cZ ad rd σ' o) = jm_ws cI cB cZ ad rd σ' := by
  have hk : o < σ.2.1.length := (List.getElem?_eq_some_iff.mp ho).1
  apply List.ext_getElem?
  intro k
  by_cases hko : k = o
  · subst hko
    rw [List.getElem?_set_self (by simp [jm_ws, hk]), jm_ws_at (σ := σ') (q := q) (by rw [hs]; exact ho)]
  · rw [List.getElem?_set_ne (Ne.symm hko)]
    simp only [jm_ws, hs, List.getElem?_map]
    by_cases hl : k < σ.2.1.length
    · rw [List.getElem?_range hl]
      simp [hn k hko]
    · rw [List.getElem?_eq_none (by simp; omega)]
      rfl
theorem jm_set_a {o : Nat} {g : Nat → Int32} {cA : ClassId} {n : Nat} {q : Nat × Nat × Nat} (ho : σ.2.1[o]? = some q) (hE : jm_E cI cB cZ ad rd (σ.1, σ.2.1, σ.2.2.1, jm_row σ.2.2.2 o g) o = .inl (cA, n, .inl g)) :
    (jm_ws cI cB cZ ad rd σ).set o (ad o, .inl (cA, n, .inl g)) = jm_ws cI cB cZ ad rd (σ.1, σ.2.1, σ.2.2.1, jm_row σ.2.2.2 o g) := by
  rw [← hE]
  refine jm_ws_set ho rfl (fun k hk => ?_)
  simp only [jm_E, jm_row_ne _ _ hk]
theorem jm_fs_set (f : Nat → Value) (n k : Nat) (v : Value) (hk : k < n) : ((List.range n).map (fun j => jm_cv ad rd (f j))).set k (jm_cv ad rd v) = (List.range n).map (fun j => jm_cv ad rd (jm_u1 f k v j)) := by
  apply List.ext_getElem?
  intro j
  by_cases hj : j = k
  · subst hj
    rw [List.getElem?_set_self (by simpa using hk), List.getElem?_map, List.getElem?_range hk]
    simp [jm_u1]
  · rw [List.getElem?_set_ne (Ne.symm hj), List.getElem?_map, List.getElem?_map]
    by_cases hl : j < n
    · rw [List.getElem?_range hl]; simp [jm_u1, hj]
    · rw [List.getElem?_eq_none (by simp; omega)]; rfl
theorem jm_set_o {o c n k : Nat} {v : Value} (ho : σ.2.1[o]? = some (3, c, n)) (hk : k < n) :
    (jm_ws cI cB cZ ad rd σ).set o (ad o, .inr (c, ((List.range n).map (fun j => jm_cv ad rd (σ.2.2.1 o j))).set k (jm_cv ad rd v))) = jm_ws cI cB cZ ad rd (σ.1, σ.2.1, jm_row σ.2.2.1 o (jm_u1 (σ.2.2.1 o) k v), σ.2.2.2) := by
  rw [jm_fs_set _ _ _ _ hk]
  have hE : jm_E cI cB cZ ad rd (σ.1, σ.2.1, jm_row σ.2.2.1 o (jm_u1 (σ.2.2.1 o) k v), σ.2.2.2) o = .inr (c, (List.range n).map (fun j => jm_cv ad rd (jm_u1 (σ.2.2.1 o) k v j))) := by
    rw [jm_E_o (by exact ho)]
    simp only [jm_row_self]
  rw [← hE]
  refine jm_ws_set ho rfl (fun k hk => ?_)
  simp only [jm_E, jm_row_ne _ _ hk]
/-- a world with one cell more -/
theorem jm_ws_push {σ' : jm_S} {q : Nat × Nat × Nat} (hs : σ'.2.1 = σ.2.1 ++ [q]) (hn : ∀ k, k < σ.2.1.length → jm_E cI cB cZ ad rd σ' k = jm_E cI cB cZ ad rd σ k) :
    jm_ws cI cB cZ ad rd σ ++ [(ad σ.2.1.length, jm_E cI cB cZ ad rd σ' σ.2.1.length)] = jm_ws cI cB cZ ad rd σ' := by
  have hl : σ'.2.1.length = σ.2.1.length + 1 := by rw [hs]; simp
  simp only [jm_ws, hl, List.range_succ, List.map_append, List.map_cons, List.map_nil]
  congr 1
  apply List.map_congr_left
  intro k hk
  rw [hn k (List.mem_range.mp hk)]
theorem jm_push_a {kd n : Nat} {cA : ClassId} {g : Nat → Int32} (hE : jm_E cI cB cZ ad rd (σ.1, σ.2.1 ++ [(kd, 0, n)], σ.2.2.1, jm_row σ.2.2.2 σ.2.1.length g) σ.2.1.length = .inl (cA, n, .inl g)) :
    jm_ws cI cB cZ ad rd σ ++ [(ad σ.2.1.length, .inl (cA, n, .inl g))] = jm_ws cI cB cZ ad rd (σ.1, σ.2.1 ++ [(kd, 0, n)], σ.2.2.1, jm_row σ.2.2.2 σ.2.1.length g) := by
  rw [← hE]
  refine jm_ws_push rfl (fun k hk => ?_)
  simp only [jm_E, jm_row_ne _ _ (Nat.ne_of_lt hk), List.getElem?_append_left hk]
theorem jm_push_o {c n : Nat} {g : Nat → Value} :
    jm_ws cI cB cZ ad rd σ ++ [(ad σ.2.1.length, .inr (c, (List.range n).map (fun j => jm_cv ad rd (g j))))] = jm_ws cI cB cZ ad rd (σ.1, σ.2.1 ++ [(3, c, n)], jm_row σ.2.2.1 σ.2.1.length g, σ.2.2.2) := by
  have hE : jm_E cI cB cZ ad rd (σ.1, σ.2.1 ++ [(3, c, n)], jm_row σ.2.2.1 σ.2.1.length g, σ.2.2.2) σ.2.1.length = .inr (c, (List.range n).map (fun j => jm_cv ad rd (g j))) := by
    rw [jm_E_o (c := c) (n := n) (by simp)]
    simp only [jm_row_self]
  rw [← hE]
  refine jm_ws_push rfl (fun k hk => ?_)
  simp only [jm_E, jm_row_ne _ _ (Nat.ne_of_lt hk), List.getElem?_append_left hk]
/-- the locals -/
def jm_LR (ad rd : Nat → Nat) (ls : Array Slot) (L : List Value) : Prop := ls.size = L.length ∧ lv_wf ls ∧ ∀ (i : Nat) (v : Value), L[i]? = some v → v.category = 1 → ls[i]? = some (.val (jm_cv ad rd v))
def jm_ll (ad rd : Nat → Nat) (L : List Value) : List (Nat × Value) := (List.range L.length).filterMap fun i => match L[i]? with
  | some v => if v.category = 1 then some (i, jm_cv ad rd v) else none
  | none => none
theorem jm_cv_cat (v : Value) : (jm_cv ad rd v).category = v.category := by cases v <;> rfl
theorem jm_ll_mem {L : List Value} {q : Nat × Value} : q ∈ jm_ll ad rd L ↔ ∃ v, L[q.1]? = some v ∧ v.category = 1 ∧ q.2 = jm_cv ad rd v := by
  simp only [jm_ll, List.mem_filterMap, List.mem_range]
  constructor
  · rintro ⟨i, hi, h⟩
    split at h
    · rename_i v hv
      split at h
      · rename_i hc
        cases h
        exact ⟨v, hv, hc, rfl⟩
      · cases h
    · cases h
  · rintro ⟨v, hv, hc, hq⟩
    refine ⟨q.1, (List.getElem?_eq_some_iff.mp hv).1, ?_⟩
    rw [hv]
    simp only [hc, if_true]
    rw [← hq]
theorem jm_LR.has {ls : Array Slot} {L : List Value} (h : jm_LR ad rd ls L) : lv_has ls L.length (jm_ll ad rd L) := by
  refine ⟨h.1, h.2.1, fun q hq => ?_⟩
  obtain ⟨v, h1, h2, h3⟩ := jm_ll_mem.mp hq
  rw [h3]
  exact h.2.2 _ _ h1 h2
theorem jm_LR.store {ls' : Array Slot} {L : List Value} {i : Nat} {v : Value} (hi : i < L.length) (h' : lv_has ls' L.length ((i, jm_cv ad rd v) :: (jm_ll ad rd L).filter (fun q => !(q.1 == i) && !(q.1 + 1 == i && q.2.category == 2)))) : jm_LR ad rd ls' (L.set i v) := by
  refine ⟨by rw [h'.1, List.length_set], h'.2.1, fun j w hj hw => ?_⟩
  by_cases hji : j = i
  · subst hji
    rw [List.getElem?_set_self hi] at hj
    cases hj
    exact h'.2.2 (j, _) List.mem_cons_self
  · rw [List.getElem?_set_ne (Ne.symm hji)] at hj
    refine h'.2.2 (j, jm_cv ad rd w) (List.mem_cons_of_mem _ (List.mem_filter.mpr ⟨jm_ll_mem.mpr ⟨w, hj, hw, rfl⟩, ?_⟩))
    simp [hji, jm_cv_cat, hw]
theorem jm_LR.entry (as : List Value) {n : Nat} (hn : as.length ≤ n) (hc : ∀ v ∈ as, v.category = 1) : jm_LR ad rd ((lg_sl (as.map (jm_cv ad rd)) ++ List.replicate (n - (lg_sl (as.map (jm_cv ad rd))).length) Slot.unset).toArray) (jm_in0 n as) := by
  have hsl : ∀ l : List Value, (∀ v ∈ l, v.category = 1) → lg_sl (l.map (jm_cv ad rd)) = l.map (fun v => Slot.val (jm_cv ad rd v)) := by
    intro l
    induction l with
    | nil => intro _; rfl
    | cons v l ih =>
      intro h
      have h1 : ¬ (jm_cv ad rd v).category = 2 := by rw [jm_cv_cat, h v List.mem_cons_self]; decide
      have h2 := ih (fun w hw => h w (List.mem_cons_of_mem _ hw))
      simp only [lg_sl] at h2
      simp only [lg_sl, List.map_cons, List.flatMap_cons, if_neg h1, List.cons_append, List.nil_append, h2]
  have hs := hsl as hc
  have hlen : (lg_sl (as.map (jm_cv ad rd))).length = as.length := by rw [hs]; simp
  have he := lv_entry (as.map (jm_cv ad rd)) (n := n) (by rw [hlen]; exact hn)
  refine ⟨by rw [he.1]; simp [jm_in0]; omega, he.2.1, fun i v hi hv => ?_⟩
  by_cases hl : i < as.length
  · rw [jm_in0, List.getElem?_append_left hl] at hi
    rw [hs]
    simp only [List.getElem?_toArray]
    rw [List.getElem?_append_left (by simpa using hl), List.getElem?_map, hi]
    rfl
  · rw [jm_in0, List.getElem?_append_right (by omega)] at hi
    have := List.mem_of_getElem? hi
    rw [List.mem_replicate] at this
    rw [this.2] at hv
    cases hv
end JMREP
