/-! level 3 runs on level 2 -/
def rg (z : Int) : Prop := -2147483648 ≤ z ∧ z < 2147483648
theorem rg_t (x : Int32) : rg x.toInt := ⟨by have := Int32.le_toInt x; simpa using this, by have := Int32.toInt_lt x; simpa using this⟩
theorem t_of {z : Int} (h : rg z) : (Int32.ofInt z).toInt = z := by
  have h1 := h.1
  have h2 := h.2
  exact Int32.toInt_ofInt_of_le (by simpa using h1) (by simpa using h2)
theorem wr_id {z : Int} (h1 : -2147483648 ≤ z) (h2 : z < 2147483648) : wr z = z := t_of ⟨h1, h2⟩
theorem rg_wr (z : Int) : rg (wr z) := rg_t _
theorem of_wr (z : Int) : Int32.ofInt (wr z) = Int32.ofInt z := Int32.ofInt_toInt _
theorem of_eq {x y : Int} (hx : rg x) (hy : rg y) : (Int32.ofInt x = Int32.ofInt y) ↔ x = y := ⟨fun h => by have := congrArg Int32.toInt h; rwa [t_of hx, t_of hy] at this, fun h => by rw [h]⟩
theorem of_lt {x y : Int} (hx : rg x) (hy : rg y) : (Int32.ofInt x < Int32.ofInt y) ↔ x < y := by rw [Int32.lt_iff_toInt_lt, t_of hx, t_of hy]
theorem rg0 : rg 0 := ⟨by decide, by decide⟩
theorem of_0 : (0 : Int32) = Int32.ofInt 0 := rfl
theorem of_1 : (1 : Int32) = Int32.ofInt 1 := rfl
theorem of_eq0 {x : Int} (hx : rg x) : (Int32.ofInt x = 0) ↔ x = 0 := by rw [of_0]; exact of_eq hx rg0
theorem of_eq1 {x : Int} (hx : rg x) : (Int32.ofInt x = 1) ↔ x = 1 := by rw [of_1]; exact of_eq hx ⟨by decide, by decide⟩
theorem of_lt0 {x : Int} (hx : rg x) : (Int32.ofInt x < 0) ↔ x < 0 := by rw [of_0]; exact of_lt hx rg0
theorem of_gt0 {x : Int} (hx : rg x) : (0 < Int32.ofInt x) ↔ 0 < x := by rw [of_0]; exact of_lt rg0 hx
theorem of_le {x y : Int} (hx : rg x) (hy : rg y) : (Int32.ofInt x ≤ Int32.ofInt y) ↔ x ≤ y := by rw [Int32.le_iff_toInt_le, t_of hx, t_of hy]
theorem of_cl {x : Int} (hx : rg x) : (Int32.ofInt x).toNatClampNeg = x.toNat := by
  show (Int32.ofInt x).toInt.toNat = _
  rw [t_of hx]
theorem of_in {i : Int} {n : Nat} (hi : rg i) (h : 0 ≤ i ∧ i < (n : Int)) : vp_in (Int32.ofInt i) n := by
  unfold vp_in
  rw [of_lt0 hi, of_cl hi]
  omega
def d_w (w : j3_W) : j2_W := match w with
  | .inl z => .inl (Int32.ofInt z)
  | .inr q => .inr q
def d_p (i n : Nat) : j2_W := bif n == 0 then .inr (.inr (.inr 0)) else bif i == 3 then .inr (.inr (.inl (9000, 0))) else .inr (.inl (3, n))
def d_P (P : Nat → Nat) : List j2_W := (List.range 10).map (fun i => d_p i (P i))
def j3_pk {α : Type} (k : Bool) (e : Nat) (x y : α) : α := bif j3_g k e then x else y
def d_s (k : Bool) (σ τ : j3_S) : j2_S := (fun e o => Int32.ofInt (j3_pk k e (σ.1 e o) (τ.1 e o)), d_P (bif k then τ.2.1 else σ.2.1), fun e o n => Int32.ofInt (j3_pk k e (σ.2.2 e o (n : Int)) (τ.2.2 e o (n : Int))))
def ok3 (w : j3_W) : Prop := match w with
  | .inl z => rg z
  | .inr (.inl q) => q ∈ lt_ob
  | _ => True
def oks3 (l : List j3_W) : Prop := ∀ w ∈ l, ok3 w
theorem oks3_c {w : j3_W} {l : List j3_W} : oks3 (w :: l) ↔ ok3 w ∧ oks3 l := List.forall_mem_cons
def okP (P : Nat → Nat) : Prop := ∀ i, i < 10 → P i = 0 ∨ i = 3 ∨ (3, P i) ∈ lt_ob
def okS (σ : j3_S) : Prop := (∀ e o, rg (σ.1 e o)) ∧ okP σ.2.1 ∧ ∀ e o i, rg (σ.2.2 e o i)
theorem lt_3 {w : Nat} (h : (3, w) ∈ lt_ob) : (w == 0) = false := by
  have : ∀ p ∈ lt_ob, p.1 = 3 → (p.2 == 0) = false := by decide
  exact this _ h rfl
theorem d_P_get (P : Nat → Nat) {i : Nat} (hi : i < 10) : (d_P P).getD i (.inr (.inr (.inr 0))) = d_p i (P i) := by
  simp [d_P, List.getD_eq_getElem?_getD, hi]
theorem d_P_set (P : Nat → Nat) {i w : Nat} (hi : i < 10) {v : j2_W} (hv : d_p i w = v) : (d_P P).set i v = d_P (j3_upP P i w) := by
  subst hv
  apply List.ext_getElem
  · simp [d_P]
  · intro j h1 h2
    simp only [d_P, List.getElem_set, List.getElem_map, List.getElem_range, j3_upP]
    by_cases h : i = j
    · subst h
      simp
    · rw [if_neg h]
      have : (j == i) = false := by simp [Ne.symm h]
      rw [this]
      rfl
theorem oks3_set {L : List j3_W} {i : Nat} {w : j3_W} (h : oks3 L) (hw : ok3 w) : oks3 (L.set i w) := by
  intro x hx
  rcases List.mem_or_eq_of_mem_set hx with h1 | h1
  · exact h x h1
  · rw [h1]; exact hw
theorem oks3_at {L : List j3_W} {i : Nat} {w : j3_W} (h : oks3 L) (hi : L[i]? = some w) : ok3 w := h w (List.mem_of_getElem? hi)
theorem b_t {b : Bool} {P : Prop} (h : bif b then P else False) : b = true ∧ P := by
  cases b
  · exact h.elim
  · exact ⟨rfl, h⟩
theorem b_f {b : Bool} {P : Prop} (h : bif b then False else P) : b = false ∧ P := by
  cases b
  · exact ⟨rfl, h⟩
  · exact h.elim
section D3
variable {k : Bool} {σ τ : j3_S}
theorem d_I {e : Nat} (hg : j3_g k e = true) (o : Nat) : (d_s k σ τ).1 e o = Int32.ofInt (σ.1 e o) := by
  show Int32.ofInt (bif j3_g k e then σ.1 e o else τ.1 e o) = _
  rw [hg]
  rfl
theorem d_A {e : Nat} (hg : j3_g k e = true) (o n : Nat) : (d_s k σ τ).2.2 e o n = Int32.ofInt (σ.2.2 e o (n : Int)) := by
  show Int32.ofInt (bif j3_g k e then σ.2.2 e o (n : Int) else τ.2.2 e o (n : Int)) = _
  rw [hg]
  rfl
theorem d_Ai {e : Nat} (hg : j3_g k e = true) (o : Nat) {i : Int} (h0 : 0 ≤ i) (hi : rg i) : (d_s k σ τ).2.2 e o (Int32.ofInt i).toNatClampNeg = Int32.ofInt (σ.2.2 e o i) := by
  rw [d_A hg, of_cl hi, Int.toNat_of_nonneg h0]
theorem d_put {e : Nat} (hg : j3_g k e = true) (o : Nat) (v : Int) : (j2_up (d_s k σ τ).1 e o (Int32.ofInt v), (d_s k σ τ).2.1, (d_s k σ τ).2.2) = d_s k (j3_up σ.1 e o v, σ.2.1, σ.2.2) τ := by
  refine Prod.ext ?_ rfl
  funext e' o'
  show (if e' = e ∧ o' = o then Int32.ofInt v else Int32.ofInt (bif j3_g k e' then σ.1 e' o' else τ.1 e' o')) = Int32.ofInt (bif j3_g k e' then (bif (e' == e) && (o' == o) then v else σ.1 e' o') else τ.1 e' o')
  by_cases h : e' = e ∧ o' = o
  · rw [if_pos h, h.1, h.2, hg]
    simp
  · rw [if_neg h]
    have : ((e' == e) && (o' == o)) = false := by
      rw [Bool.eq_false_iff]
      intro q
      simp at q
      exact h q
    rw [this]
    rfl
theorem d_row {e : Nat} (hg : j3_g k e = true) (o : Nat) {g : Nat → Int32} {f : Int → Int} (h : ∀ n : Nat, g n = Int32.ofInt (f n)) : ((d_s k σ τ).1, (d_s k σ τ).2.1, j2_up (d_s k σ τ).2.2 e o g) = d_s k (σ.1, σ.2.1, j3_up σ.2.2 e o f) τ := by
  refine Prod.ext rfl (Prod.ext rfl ?_)
  funext e' o' n
  show (if e' = e ∧ o' = o then g else fun n : Nat => Int32.ofInt (bif j3_g k e' then σ.2.2 e' o' (n : Int) else τ.2.2 e' o' (n : Int))) n = Int32.ofInt (bif j3_g k e' then (bif (e' == e) && (o' == o) then f else σ.2.2 e' o') (n : Int) else τ.2.2 e' o' (n : Int))
  by_cases h' : e' = e ∧ o' = o
  · rw [if_pos h', h'.1, h'.2, hg, h]
    simp
  · rw [if_neg h']
    have : ((e' == e) && (o' == o)) = false := by
      rw [Bool.eq_false_iff]
      intro q
      simp at q
      exact h' q
    rw [this]
    rfl
theorem d_ast {e : Nat} (hg : j3_g k e = true) (o : Nat) {i : Int} (h0 : 0 ≤ i) (hi : rg i) (x : Int) : ((d_s k σ τ).1, (d_s k σ τ).2.1, j2_ast (d_s k σ τ).2.2 e o (Int32.ofInt i).toNatClampNeg (Int32.ofInt x)) = d_s k (σ.1, σ.2.1, j3_ast σ.2.2 e o i x) τ := by
  refine d_row hg o (fun n => ?_)
  show upd _ _ _ n = _
  rw [of_cl hi]
  show (if n = i.toNat then Int32.ofInt x else (d_s k σ τ).2.2 e o n) = Int32.ofInt (if (n : Int) = i then x else σ.2.2 e o (n : Int))
  by_cases h : n = i.toNat
  · rw [if_pos h, if_pos (by omega)]
  · rw [if_neg h, if_neg (by omega), d_A hg]
theorem d_acp {e0 e1 : Nat} (h0 : j3_g k e0 = true) (h1 : j3_g k e1 = true) (o0 o1 : Nat) {sp dp n : Int} (hs : 0 ≤ sp) (hd : 0 ≤ dp) (hn : 0 ≤ n) (rs : rg sp) (rd : rg dp) (rn : rg n) : ((d_s k σ τ).1, (d_s k σ τ).2.1, j2_acp (d_s k σ τ).2.2 e0 o0 e1 o1 (Int32.ofInt sp).toNatClampNeg (Int32.ofInt dp).toNatClampNeg (Int32.ofInt n).toNatClampNeg) = d_s k (σ.1, σ.2.1, j3_acp σ.2.2 e0 o0 e1 o1 sp dp n) τ := by
  refine d_row h1 o1 (fun j => ?_)
  rw [of_cl rs, of_cl rd, of_cl rn]
  show (if dp.toNat ≤ j ∧ j < dp.toNat + n.toNat then (d_s k σ τ).2.2 e0 o0 (sp.toNat + (j - dp.toNat)) else (d_s k σ τ).2.2 e1 o1 j) = Int32.ofInt (if dp ≤ (j : Int) ∧ (j : Int) < dp + n then σ.2.2 e0 o0 (sp + ((j : Int) - dp)) else σ.2.2 e1 o1 (j : Int))
  by_cases h : dp.toNat ≤ j ∧ j < dp.toNat + n.toNat
  · rw [if_pos h, if_pos (by omega), d_A h0]
    have e1 : ((sp.toNat + (j - dp.toNat) : Nat) : Int) = sp + ((j : Int) - dp) := by omega
    rw [e1]
  · rw [if_neg h, if_neg (by omega), d_A h1]
theorem okS_put {e o : Nat} {v : Int} (h : okS σ) (hv : rg v) : okS (j3_up σ.1 e o v, σ.2.1, σ.2.2) := by
  refine ⟨fun e' o' => ?_, h.2.1, h.2.2⟩
  show rg (bif (e' == e) && (o' == o) then v else σ.1 e' o')
  cases (e' == e) && (o' == o)
  · exact h.1 _ _
  · exact hv
theorem okS_row {e o : Nat} {f : Int → Int} (h : okS σ) (hf : ∀ i, rg (f i)) : okS (σ.1, σ.2.1, j3_up σ.2.2 e o f) := by
  refine ⟨h.1, h.2.1, fun e' o' i => ?_⟩
  show rg ((bif (e' == e) && (o' == o) then f else σ.2.2 e' o') i)
  cases (e' == e) && (o' == o)
  · exact h.2.2 _ _ _
  · exact hf _
theorem okS_ast {e o : Nat} {i x : Int} (h : okS σ) (hx : rg x) : okS (σ.1, σ.2.1, j3_ast σ.2.2 e o i x) := okS_row h (fun j => by
  unfold i_up
  split
  · exact hx
  · exact h.2.2 _ _ _)
theorem okS_acp {e0 o0 e1 o1 : Nat} {sp dp n : Int} (h : okS σ) : okS (σ.1, σ.2.1, j3_acp σ.2.2 e0 o0 e1 o1 sp dp n) := okS_row h (fun j => by
  unfold i_cp
  split
  · exact h.2.2 _ _ _
  · exact h.2.2 _ _ _)
theorem okS_ptr {i w : Nat} (h : okS σ) (hw : i = 3 ∨ (3, w) ∈ lt_ob) : okS (σ.1, j3_upP σ.2.1 i w, σ.2.2) := by
  refine ⟨h.1, fun j hj => ?_, h.2.2⟩
  show (bif j == i then w else σ.2.1 j) = 0 ∨ _
  by_cases q : j = i
  · subst q
    rcases hw with hw | hw
    · exact Or.inr (Or.inl hw)
    · refine Or.inr (Or.inr ?_)
      show (3, bif j == j then w else σ.2.1 j) ∈ lt_ob
      rw [beq_self_eq_true]
      exact hw
  · have : (j == i) = false := by simp [q]
    rcases h.2.1 j hj with g | g | g
    · left; rw [this]; exact g
    · exact Or.inr (Or.inl g)
    · refine Or.inr (Or.inr ?_)
      show (3, bif j == i then w else σ.2.1 j) ∈ lt_ob
      rw [this]; exact g
end D3
theorem j3_sw1E {F : Nat → Prop} {x d : Int} : ∀ (ts : List Int) (lo : Int), j3_sw1 F x d lo ts → ((x < lo ∨ lo + (ts.length : Int) ≤ x) → F d.toNat) ∧ (¬ x < lo → x < lo + (ts.length : Int) → F (ts.getD (x - lo).toNat 0).toNat)
  | [], lo, h => ⟨fun _ => h, fun a b => by simp at b; omega⟩
  | t :: ts, lo, h => by
    simp only [j3_sw1] at h
    split at h
    · rename_i hx
      subst hx
      refine ⟨fun q => ?_, fun _ _ => by simpa using h⟩
      simp only [List.length_cons] at q
      omega
    · rename_i hx
      obtain ⟨i1, i2⟩ := j3_sw1E ts (lo + 1) h
      refine ⟨fun q => i1 ?_, fun a b => ?_⟩
      · simp only [List.length_cons] at q
        omega
      · simp only [List.length_cons] at b
        have := i2 (by omega) (by omega)
        have e1 : (x - lo).toNat = (x - (lo + 1)).toNat + 1 := by omega
        rw [e1]
        simpa using this
theorem j3_sw2E {F : Nat → Prop} {x d : Int} : ∀ (ps : List (Int × Int)), j3_sw2 F x d ps → F (Op.lookupswitch.offset ps d x).toNat
  | [], h => h
  | (a, o) :: r, h => by
    simp only [j3_sw2] at h
    rw [Op.lookupswitch.offset_cons]
    split at h
    · rename_i hx
      rw [if_pos hx.symm]
      exact h
    · rename_i hx
      rw [if_neg (fun q => hx q.symm)]
      exact j3_sw2E r h
section J3SIM
variable {k : Bool} {σ τ : j3_S}
set_option maxHeartbeats 4000000 in
theorem j3_one {C2 : j2_C} {C3 : j3_C} {rt : Option FieldType} {K2 : j2_K} {K3 : j3_K} {Rt2 : j2_P} {Rt3 : j3_P} {pc : Nat} {L st : List j3_W}
    (hC : ∀ y as (σ : j3_S) (Q : j3_P) (P : j2_P), C3 y as σ Q → oks3 as → okS σ → (∀ r (σ' : j3_S), Q r σ' → (∀ w, r = some w → ok3 w) → okS σ' → P (r.map d_w) (d_s k σ' τ)) → C2 y (as.map d_w) (d_s k σ τ) P)
    (hK : ∀ pc L st (σ : j3_S), K3 pc L st σ → oks3 L → oks3 st → okS σ → K2 pc (L.map d_w) (st.map d_w) (d_s k σ τ))
    (hR : ∀ r (σ : j3_S), Rt3 r σ → (∀ w, r = some w → ok3 w) → okS σ → Rt2 (r.map d_w) (d_s k σ τ))
    (ins : Instr) (h : j3_ins k C3 rt K3 Rt3 ins pc L st σ) (hL : oks3 L) (hs : oks3 st) (hσ : okS σ) : j2_ins C2 rt K2 Rt2 ins pc (L.map d_w) (st.map d_w) (d_s k σ τ) := by
  cases ins <;> first | exact h.elim | skip
  case iconst n =>
    obtain ⟨hn, h⟩ := b_t h
    simp only [j3_rgb, Bool.and_eq_true, decide_eq_true_eq] at hn
    exact hK _ _ _ _ h hL (oks3_c.mpr ⟨hn, hs⟩) hσ
  case aconst_null => exact hK _ _ _ _ h hL (oks3_c.mpr ⟨trivial, hs⟩) hσ
  case getstatic n =>
    obtain ⟨hn, h⟩ := b_t h
    have hn : n = 0 := by simpa using hn
    subst hn
    exact hK _ _ _ _ h hL (oks3_c.mpr ⟨trivial, hs⟩) hσ
  case iload i =>
    simp only [j3_ins] at h
    split at h
    · rename_i v hv
      simp only [j2_ins, List.getElem?_map, hv, Option.map_some, d_w]
      exact hK _ _ _ _ h hL (oks3_c.mpr ⟨oks3_at hL hv, hs⟩) hσ
    · exact h.elim
  case aload i =>
    simp only [j3_ins] at h
    split at h
    · rename_i v hv
      simp only [j2_ins, List.getElem?_map, hv, Option.map_some, d_w]
      exact hK _ _ _ _ h hL (oks3_c.mpr ⟨oks3_at hL hv, hs⟩) hσ
    · rename_i v hv
      simp only [j2_ins, List.getElem?_map, hv, Option.map_some, d_w]
      exact hK _ _ _ _ h hL (oks3_c.mpr ⟨trivial, hs⟩) hσ
    · exact h.elim
  case istore i =>
    simp only [j3_ins] at h
    split at h
    · obtain ⟨hi, h⟩ := b_t h
      rw [oks3_c] at hs
      have hi : i < L.length := by simpa [Nat.blt_eq] using hi
      have := hK _ _ _ _ h (oks3_set hL hs.1) hs.2 hσ
      rw [List.map_set] at this
      simp only [j2_ins, List.map_cons, d_w, List.length_map]
      rw [if_pos hi]
      exact this
    · exact h.elim
  case astore i =>
    simp only [j3_ins] at h
    split at h
    · obtain ⟨hi, h⟩ := b_t h
      rw [oks3_c] at hs
      have hi : i < L.length := by simpa [Nat.blt_eq] using hi
      have := hK _ _ _ _ h (oks3_set hL hs.1) hs.2 hσ
      rw [List.map_set] at this
      simp only [j2_ins, List.map_cons, d_w, List.length_map]
      rw [if_pos hi]
      exact this
    · exact h.elim
  case iinc i n =>
    simp only [j3_ins] at h
    split at h
    · rename_i v hv
      simp only [j2_ins, List.getElem?_map, hv, Option.map_some, d_w]
      have := hK _ _ _ _ h (oks3_set hL (rg_wr _)) hs hσ
      rw [List.map_set] at this
      simp only [d_w, of_wr, Int32.ofInt_add] at this
      exact this
    · exact h.elim
  case iadd =>
    simp only [j3_ins] at h
    split at h
    · simp only [oks3_c] at hs
      have := hK _ _ _ _ h hL (oks3_c.mpr ⟨rg_wr _, hs.2.2⟩) hσ
      simp only [List.map_cons, d_w, of_wr, Int32.ofInt_add] at this
      exact this
    · exact h.elim
  case isub =>
    simp only [j3_ins] at h
    split at h
    · simp only [oks3_c] at hs
      have := hK _ _ _ _ h hL (oks3_c.mpr ⟨rg_wr _, hs.2.2⟩) hσ
      simp only [List.map_cons, d_w, of_wr, Int32.ofInt_sub] at this
      exact this
    · exact h.elim
  case imul =>
    simp only [j3_ins] at h
    split at h
    · simp only [oks3_c] at hs
      have := hK _ _ _ _ h hL (oks3_c.mpr ⟨rg_wr _, hs.2.2⟩) hσ
      simp only [List.map_cons, d_w, of_wr, Int32.ofInt_mul] at this
      exact this
    · exact h.elim
  case iand =>
    simp only [j3_ins] at h
    split at h
    · simp only [oks3_c] at hs
      have := hK _ _ _ _ h hL (oks3_c.mpr ⟨rg_t _, hs.2.2⟩) hσ
      simp only [List.map_cons, d_w, i_an, Int32.ofInt_toInt] at this
      exact this
    · exact h.elim
  case ior =>
    simp only [j3_ins] at h
    split at h
    · simp only [oks3_c] at hs
      have := hK _ _ _ _ h hL (oks3_c.mpr ⟨rg_t _, hs.2.2⟩) hσ
      simp only [List.map_cons, d_w, i_or, Int32.ofInt_toInt] at this
      exact this
    · exact h.elim
  case ishl =>
    simp only [j3_ins] at h
    split at h
    · simp only [oks3_c] at hs
      have := hK _ _ _ _ h hL (oks3_c.mpr ⟨rg_t _, hs.2.2⟩) hσ
      simp only [List.map_cons, d_w, i_sl, Int32.ofInt_toInt] at this
      exact this
    · exact h.elim
  case ishr =>
    simp only [j3_ins] at h
    split at h
    · simp only [oks3_c] at hs
      have := hK _ _ _ _ h hL (oks3_c.mpr ⟨rg_t _, hs.2.2⟩) hσ
      simp only [List.map_cons, d_w, i_sr, Int32.ofInt_toInt] at this
      exact this
    · exact h.elim
  case idiv =>
    simp only [j3_ins] at h
    split at h
    · simp only [oks3_c] at hs
      have := hK _ _ _ _ h.2 hL (oks3_c.mpr ⟨rg_t _, hs.2.2⟩) hσ
      simp only [List.map_cons, d_w, i_dv, Int32.ofInt_toInt] at this
      exact ⟨fun q => h.1 ((of_eq0 hs.1).mp q), this⟩
    · exact h.elim
  case irem =>
    simp only [j3_ins] at h
    split at h
    · simp only [oks3_c] at hs
      have := hK _ _ _ _ h.2 hL (oks3_c.mpr ⟨rg_t _, hs.2.2⟩) hσ
      simp only [List.map_cons, d_w, i_rm, Int32.ofInt_toInt] at this
      exact ⟨fun q => h.1 ((of_eq0 hs.1).mp q), this⟩
    · exact h.elim
  case i2b =>
    simp only [j3_ins] at h
    split at h
    · simp only [oks3_c] at hs
      have := hK _ _ _ _ h hL (oks3_c.mpr ⟨rg_t _, hs.2⟩) hσ
      simp only [List.map_cons, d_w, i_tb, Int32.ofInt_toInt] at this
      exact this
    · exact h.elim
  case dup =>
    simp only [j3_ins] at h
    split at h
    · simp only [oks3_c] at hs
      exact hK _ _ _ _ h hL (oks3_c.mpr ⟨hs.1, oks3_c.mpr ⟨hs.1, hs.2⟩⟩) hσ
    · simp only [oks3_c] at hs
      exact hK _ _ _ _ h hL (oks3_c.mpr ⟨hs.1, oks3_c.mpr ⟨hs.1, hs.2⟩⟩) hσ
    · exact h.elim
  case dup2 =>
    simp only [j3_ins] at h
    split at h
    · simp only [oks3_c] at hs
      exact hK _ _ _ _ h hL (by simp only [oks3_c]; exact ⟨hs.1, hs.2.1, hs.1, hs.2.1, hs.2.2⟩) hσ
    · exact h.elim
  case pop =>
    simp only [j3_ins] at h
    split at h
    · simp only [oks3_c] at hs
      exact hK _ _ _ _ h hL hs.2 hσ
    · exact h.elim
  case getfield e =>
    simp only [j3_ins] at h
    split at h
    · rename_i q o st
      obtain ⟨hg, h1⟩ := b_t h
      clear h
      rw [Bool.and_eq_true] at hg
      obtain ⟨hq, hg⟩ := hg
      have hq : q = e / 1000 := by simpa using hq
      subst hq
      simp only [oks3_c] at hs
      have ho : (e / 1000, o) ∈ lt_ob := hs.1
      simp only [j2_ins, List.map_cons, d_w, if_true]
      split at h1
      all_goals first | exact h1.elim | (rename_i hk; simp only [hk])
      · rw [d_I hg]
        exact hK _ _ _ _ h1 hL (oks3_c.mpr ⟨hσ.1 _ _, hs.2⟩) hσ
      · rw [d_I hg]
        exact hK _ _ _ _ h1 hL (oks3_c.mpr ⟨hσ.1 _ _, hs.2⟩) hσ
      · obtain ⟨hk0, hp, h2⟩ := b_f h1
        clear h1
        subst hk0
        have hpi := (j2_pe ho hk).2
        have e1 : (d_s false σ τ).2.1.getD (lt_pi e) (.inr (.inr (.inr 0))) = d_w (bif lt_pi e == 3 then wA 9000 0 else wO 3 (σ.2.1 (lt_pi e))) := by
          show (d_P σ.2.1).getD _ _ = _
          rw [d_P_get _ hpi]
          unfold d_p
          have : (σ.2.1 (lt_pi e) == 0) = false := by simp [hp]
          rw [this]
          cases lt_pi e == 3 <;> rfl
        rw [e1]
        refine hK _ _ _ _ h2 hL (oks3_c.mpr ⟨?_, hs.2⟩) hσ
        rcases hσ.2.1 _ hpi with g | g | g
        · exact absurd g hp
        · rw [g]; trivial
        · cases lt_pi e == 3
          · exact g
          · trivial
      · exact hK _ _ _ _ h1 hL (oks3_c.mpr ⟨trivial, hs.2⟩) hσ
      · have h4 := lt_4 _ ho (e % 1000) (lt_k (by rw [hk]; decide))
        simp only [show e / 1000 * 1000 + e % 1000 = e by omega] at h4
        exact hK _ _ _ _ h1 hL (oks3_c.mpr ⟨h4 hk, hs.2⟩) hσ
    · exact h.elim
  case putfield e =>
    simp only [j3_ins] at h
    split at h
    · rename_i v q o st
      obtain ⟨hg, h1⟩ := b_t h
      clear h
      rw [Bool.and_eq_true] at hg
      obtain ⟨hq, hg⟩ := hg
      have hq : q = e / 1000 := by simpa using hq
      subst hq
      simp only [oks3_c] at hs
      simp only [j2_ins, List.map_cons, d_w, if_true]
      split at h1
      all_goals first | exact h1.elim | (rename_i hk; simp only [hk])
      · rw [d_put hg]
        exact hK _ _ _ _ h1 hL hs.2.2 (okS_put hσ hs.1)
      · rw [d_put hg]
        refine ⟨?_, hK _ _ _ _ h1.2 hL hs.2.2 (okS_put hσ hs.1)⟩
        rcases h1.1 with g | g
        · left; rw [g]; rfl
        · right; rw [g]; rfl
    · rename_i q' w q o st
      obtain ⟨hg, h1⟩ := b_t h
      clear h
      rw [Bool.and_eq_true] at hg
      obtain ⟨hq, hg⟩ := hg
      have hq : q = e / 1000 := by simpa using hq
      subst hq
      simp only [oks3_c] at hs
      have ho : (e / 1000, o) ∈ lt_ob := hs.2.1
      simp only [j2_ins, List.map_cons, d_w, if_true]
      split at h1
      all_goals first | exact h1.elim | (rename_i hk; simp only [hk])
      obtain ⟨hb, h2⟩ := b_f h1
      clear h1
      simp only [Bool.or_eq_false_iff, Bool.not_eq_false'] at hb
      obtain ⟨⟨hk0, hq'⟩, h3⟩ := hb
      subst hk0
      have hq' : q' = 3 := by simpa using hq'
      subst hq'
      have hw : (3, w) ∈ lt_ob := hs.1
      have hpi := (j2_pe ho hk).2
      have e1 : ((d_s false σ τ).1, (d_s false σ τ).2.1.set (lt_pi e) (.inr (.inl (3, w))), (d_s false σ τ).2.2) = d_s false (σ.1, j3_upP σ.2.1 (lt_pi e) w, σ.2.2) τ := by
        refine Prod.ext rfl (Prod.ext ?_ rfl)
        exact d_P_set σ.2.1 hpi (by unfold d_p; rw [lt_3 hw, h3]; rfl)
      rw [e1]
      exact hK _ _ _ _ h2 hL hs.2.2 (okS_ptr hσ (Or.inr hw))
    · rename_i e' w q o st
      obtain ⟨hg, h1⟩ := b_t h
      clear h
      rw [Bool.and_eq_true] at hg
      obtain ⟨hq, hg⟩ := hg
      have hq : q = e / 1000 := by simpa using hq
      subst hq
      simp only [oks3_c] at hs
      have ho : (e / 1000, o) ∈ lt_ob := hs.2.1
      simp only [j2_ins, List.map_cons, d_w, if_true]
      split at h1
      all_goals first | exact h1.elim | (rename_i hk; simp only [hk])
      obtain ⟨hb, h2⟩ := b_t h1
      clear h1
      simp only [Bool.and_eq_true, Bool.not_eq_true'] at hb
      obtain ⟨⟨⟨hk0, he'⟩, hw⟩, h3⟩ := hb
      subst hk0
      have he' : e' = 9000 := by simpa using he'
      have hw : w = 0 := by simpa using hw
      have h3' : lt_pi e = 3 := by simpa using h3
      subst he'
      subst hw
      have e1 : ((d_s false σ τ).1, (d_s false σ τ).2.1.set (lt_pi e) (.inr (.inr (.inl (9000, 0)))), (d_s false σ τ).2.2) = d_s false (σ.1, j3_upP σ.2.1 3 1, σ.2.2) τ := by
        refine Prod.ext rfl (Prod.ext ?_ rfl)
        rw [h3']
        exact d_P_set σ.2.1 (by omega) rfl
      rw [e1]
      exact hK _ _ _ _ h2 hL hs.2.2 (okS_ptr hσ (Or.inl rfl))
    · exact h.elim
  case iaload =>
    simp only [j3_ins] at h
    split at h
    · rename_i i e o st
      obtain ⟨hg, hi, h⟩ := b_t h
      rw [Bool.and_eq_true] at hg
      have hq : lt_fq e = 0 := by simpa using hg.1
      simp only [oks3_c] at hs
      simp only [j2_ins, List.map_cons, d_w]
      rw [if_pos hq]
      refine ⟨of_in hs.1 hi, ?_⟩
      rw [d_Ai hg.2 o hi.1 hs.1]
      exact hK _ _ _ _ h hL (oks3_c.mpr ⟨hσ.2.2 _ _ _, hs.2.2⟩) hσ
    · simp only [oks3_c] at hs
      simp only [j2_ins, List.map_cons, d_w]
      refine ⟨of_in hs.1 h.1, ?_⟩
      have := hK _ _ _ _ h.2 hL (oks3_c.mpr ⟨rg_t _, hs.2.2⟩) hσ
      rw [of_cl hs.1]
      simp only [List.map_cons, d_w, i_tls, Int32.ofInt_toInt] at this
      exact this
    · exact h.elim
  case iastore =>
    simp only [j3_ins] at h
    split at h
    · rename_i x i e o st
      obtain ⟨hg, hi, h⟩ := b_t h
      rw [Bool.and_eq_true] at hg
      have hq : lt_fq e = 0 := by simpa using hg.1
      simp only [oks3_c] at hs
      simp only [j2_ins, List.map_cons, d_w]
      rw [if_pos hq]
      refine ⟨of_in hs.2.1 hi, ?_⟩
      rw [d_ast hg.2 o hi.1 hs.2.1]
      exact hK _ _ _ _ h hL hs.2.2.2 (okS_ast hσ hs.1)
    · exact h.elim
  case baload =>
    simp only [j3_ins] at h
    split at h
    · rename_i i e o st
      obtain ⟨hg, hi, h⟩ := b_t h
      rw [Bool.and_eq_true] at hg
      have hq : lt_fq e = 1 ∨ lt_fq e = 2 := by simpa using hg.1
      simp only [oks3_c] at hs
      simp only [j2_ins, List.map_cons, d_w]
      rw [if_pos hq]
      refine ⟨of_in hs.1 hi, ?_⟩
      rw [d_Ai hg.2 o hi.1 hs.1]
      exact hK _ _ _ _ h hL (oks3_c.mpr ⟨hσ.2.2 _ _ _, hs.2.2⟩) hσ
    · exact h.elim
  case bastore =>
    simp only [j3_ins] at h
    split at h
    · rename_i x i e o st
      simp only [oks3_c] at hs
      simp only [j2_ins, List.map_cons, d_w]
      cases hb : ((lt_fq e == 1) && j3_g k e)
      · rw [hb] at h
        obtain ⟨hg, hx, hi, h⟩ := b_t h
        rw [Bool.and_eq_true] at hg
        have hq : lt_fq e = 2 := by simpa using hg.1
        rw [if_neg (by rw [hq]; decide), if_pos hq]
        refine ⟨?_, of_in hs.2.1 hi, ?_⟩
        · rcases hx with g | g
          · left; rw [g]; rfl
          · right; rw [g]; rfl
        · rw [d_ast hg.2 o hi.1 hs.2.1]
          exact hK _ _ _ _ h hL hs.2.2.2 (okS_ast hσ hs.1)
      · rw [hb] at h
        obtain ⟨hx, hi, h⟩ := h
        rw [Bool.and_eq_true] at hb
        have hq : lt_fq e = 1 := by simpa using hb.1
        rw [if_pos hq]
        refine ⟨?_, of_in hs.2.1 hi, ?_⟩
        · apply Int32.toInt_inj.mp
          rw [Int8.toInt_toInt32, Int32.toInt_toInt8, t_of hs.1]
          have e8 : Int.bmod x 256 = x := by
            unfold Int.bmod
            dsimp only
            split <;> omega
          exact e8
        · rw [d_ast hb.2 o hi.1 hs.2.1]
          exact hK _ _ _ _ h hL hs.2.2.2 (okS_ast hσ hs.1)
    · exact h.elim
  case arraylength =>
    simp only [j3_ins] at h
    split at h
    · rename_i e o st
      obtain ⟨hg, h⟩ := b_t h
      rw [Bool.and_eq_true] at hg
      have hq : lt_fq e = 0 ∨ lt_fq e = 1 := by simpa using hg.1
      have hb : lt_fn e < 2147483648 := by simpa [Nat.blt_eq] using hg.2
      simp only [oks3_c] at hs
      simp only [j2_ins, List.map_cons, d_w]
      rw [if_pos hq]
      exact hK _ _ _ _ h hL (oks3_c.mpr ⟨⟨by omega, by omega⟩, hs.2⟩) hσ
    · exact h.elim
  case goto t => exact hK _ _ _ _ h hL hs hσ
  case ifCond c t =>
    simp only [j3_ins] at h
    split at h
    · rename_i x st
      simp only [oks3_c] at hs
      have hx : rg x := hs.1
      have yes : ∀ {P : Prop}, P = True → P := fun q => q ▸ trivial
      cases c
      all_goals simp only [j2_ins, List.map_cons, d_w, jm_c1]
      all_goals simp only [] at h
      · rw [of_eq0 hx]
        split at h
        · exact ⟨fun _ => hK _ _ _ _ h hL hs.2 hσ, fun q => absurd (by assumption) q⟩
        · exact ⟨fun q => absurd q (by assumption), fun _ => hK _ _ _ _ h hL hs.2 hσ⟩
      · rw [of_eq0 hx]
        split at h
        · exact ⟨fun q => absurd (by assumption) q, fun _ => hK _ _ _ _ h hL hs.2 hσ⟩
        · exact ⟨fun _ => hK _ _ _ _ h hL hs.2 hσ, fun q => absurd (by assumption) q⟩
      · rw [of_lt0 hx]
        split at h
        · exact ⟨fun _ => hK _ _ _ _ h hL hs.2 hσ, fun q => absurd (by assumption) q⟩
        · exact ⟨fun q => absurd q (by assumption), fun _ => hK _ _ _ _ h hL hs.2 hσ⟩
      · rw [show (0 ≤ Int32.ofInt x ↔ 0 ≤ x) from of_le rg0 hx]
        split at h
        · exact ⟨fun q => absurd q (by omega), fun _ => hK _ _ _ _ h hL hs.2 hσ⟩
        · exact ⟨fun _ => hK _ _ _ _ h hL hs.2 hσ, fun q => absurd (by omega) q⟩
      · rw [of_gt0 hx]
        split at h
        · exact ⟨fun _ => hK _ _ _ _ h hL hs.2 hσ, fun q => absurd (by assumption) q⟩
        · exact ⟨fun q => absurd q (by assumption), fun _ => hK _ _ _ _ h hL hs.2 hσ⟩
      · rw [show (Int32.ofInt x ≤ 0 ↔ x ≤ 0) from of_le hx rg0]
        split at h
        · exact ⟨fun q => absurd q (by omega), fun _ => hK _ _ _ _ h hL hs.2 hσ⟩
        · exact ⟨fun _ => hK _ _ _ _ h hL hs.2 hσ, fun q => absurd (by omega) q⟩
    · exact h.elim
  case if_icmp c t =>
    simp only [j3_ins] at h
    split at h
    · rename_i y x st
      simp only [oks3_c] at hs
      have hy : rg y := hs.1
      have hx : rg x := hs.2.1
      cases c
      all_goals simp only [j2_ins, List.map_cons, d_w, jm_c2]
      all_goals simp only [] at h
      · rw [of_eq hx hy]
        split at h
        · exact ⟨fun _ => hK _ _ _ _ h hL hs.2.2 hσ, fun q => absurd (by assumption) q⟩
        · exact ⟨fun q => absurd q (by assumption), fun _ => hK _ _ _ _ h hL hs.2.2 hσ⟩
      · rw [of_eq hx hy]
        split at h
        · exact ⟨fun q => absurd (by assumption) q, fun _ => hK _ _ _ _ h hL hs.2.2 hσ⟩
        · exact ⟨fun _ => hK _ _ _ _ h hL hs.2.2 hσ, fun q => absurd (by assumption) q⟩
      · rw [of_lt hx hy]
        split at h
        · exact ⟨fun _ => hK _ _ _ _ h hL hs.2.2 hσ, fun q => absurd (by assumption) q⟩
        · exact ⟨fun q => absurd q (by assumption), fun _ => hK _ _ _ _ h hL hs.2.2 hσ⟩
      · rw [of_le hy hx]
        split at h
        · exact ⟨fun q => absurd q (by omega), fun _ => hK _ _ _ _ h hL hs.2.2 hσ⟩
        · exact ⟨fun _ => hK _ _ _ _ h hL hs.2.2 hσ, fun q => absurd (by omega) q⟩
      · rw [of_lt hy hx]
        split at h
        · exact ⟨fun _ => hK _ _ _ _ h hL hs.2.2 hσ, fun q => absurd (by assumption) q⟩
        · exact ⟨fun q => absurd q (by assumption), fun _ => hK _ _ _ _ h hL hs.2.2 hσ⟩
      · rw [of_le hx hy]
        split at h
        · exact ⟨fun q => absurd q (by omega), fun _ => hK _ _ _ _ h hL hs.2.2 hσ⟩
        · exact ⟨fun _ => hK _ _ _ _ h hL hs.2.2 hσ, fun q => absurd (by omega) q⟩
    · exact h.elim
  case tableswitch d lo hi ts =>
    simp only [j3_ins] at h
    split at h
    · rename_i x st
      obtain ⟨hb, h⟩ := b_t h
      have hb : hi + 1 = lo + (ts.toList.length : Int) := by simpa using hb
      simp only [oks3_c] at hs
      obtain ⟨i1, i2⟩ := j3_sw1E _ _ h
      simp only [j2_ins, List.map_cons, d_w]
      rw [t_of hs.1]
      refine ⟨fun q => hK _ _ _ _ (i1 (by omega)) hL hs.2 hσ, fun q1 q2 => ?_⟩
      have := i2 q1 (by omega)
      have e1 : ts.getD (x - lo).toNat 0 = ts.toList.getD (x - lo).toNat 0 := by simp [Array.getD_eq_getD_getElem?, List.getD_eq_getElem?_getD]
      rw [e1]
      exact hK _ _ _ _ this hL hs.2 hσ
    · exact h.elim
  case lookupswitch d ps =>
    simp only [j3_ins] at h
    split at h
    · rename_i x st
      simp only [oks3_c] at hs
      simp only [j2_ins, List.map_cons, d_w]
      rw [t_of hs.1]
      exact hK _ _ _ _ (j3_sw2E _ h) hL hs.2 hσ
    · exact h.elim
  case ireturn =>
    simp only [j3_ins] at h
    split at h
    · rename_i v
      simp only [oks3_c] at hs
      simp only [j2_ins, List.map_cons, List.map_nil, d_w]
      split at h
      · exact ⟨trivial, hR _ _ h (fun w hw => by cases hw; exact hs.1) hσ⟩
      · refine ⟨?_, hR _ _ h.2 (fun w hw => by cases hw; exact hs.1) hσ⟩
        rcases h.1 with g | g
        · left; rw [g]; rfl
        · right; rw [g]; rfl
      · exact h.elim
    · exact h.elim
  case return_ =>
    simp only [j3_ins] at h
    split at h
    · split at h
      · exact ⟨rfl, hR _ _ h (fun w hw => by cases hw) hσ⟩
      · exact h.elim
    · exact h.elim
  case invokestatic y =>
    simp only [j3_ins] at h
    split at h
    · rename_i hc
      have hs1 : oks3 (st.take (jm_ma jG y)).reverse := fun w hw => hs w (List.mem_of_mem_take (List.mem_reverse.mp hw))
      have hs2 : oks3 (st.drop (jm_ma jG y)) := fun w hw => hs w (List.mem_of_mem_drop hw)
      simp only [j2_ins]
      have e1 : ((st.map d_w).take (jm_ma jG y)).reverse = (st.take (jm_ma jG y)).reverse.map d_w := by simp [List.map_take, List.map_reverse]
      have e2 : (st.map d_w).drop (jm_ma jG y) = (st.drop (jm_ma jG y)).map d_w := by simp [List.map_drop]
      rw [e1, e2, List.length_map, List.length_map, if_pos hc]
      refine hC _ _ _ _ _ h hs1 hσ (fun r σ' hq hr hσ' => ?_)
      have := hK _ _ _ _ hq hL (fun w hw => by
        rcases List.mem_append.mp hw with g | g
        · exact hr w (by cases r <;> simp_all)
        · exact hs2 w g) hσ'
      have e3 : (r.toList ++ st.drop (jm_ma jG y)).map d_w = (r.map d_w).toList ++ (st.drop (jm_ma jG y)).map d_w := by cases r <;> simp
      rw [e3] at this
      exact this
    · exact h.elim
  case invokevirtual y =>
    simp only [j3_ins] at h
    split at h
    · rename_i q o rest hd
      split at h
      · rename_i hc
        have hs1 : oks3 (st.take (jm_ma jG y)).reverse := fun w hw => hs w (List.mem_of_mem_take (List.mem_reverse.mp hw))
        have hs2 : oks3 (st.drop (jm_ma jG y)) := fun w hw => hs w (List.mem_of_mem_drop hw)
        rw [hd, oks3_c] at hs2
        have e1 : ((st.map d_w).take (jm_ma jG y)).reverse = (st.take (jm_ma jG y)).reverse.map d_w := by simp [List.map_take, List.map_reverse]
        have e2 : (st.map d_w).drop (jm_ma jG y) = .inr (.inl (q, o)) :: rest.map d_w := by rw [← List.map_drop, hd]; rfl
        simp only [j2_ins]
        rw [e2]
        simp only []
        rw [e1, List.length_map, List.length_map, if_pos hc]
        refine hC _ (.inr (.inl (q, o)) :: _) _ _ _ h (oks3_c.mpr ⟨hs2.1, hs1⟩) hσ (fun r σ' hq hr hσ' => ?_)
        have := hK _ _ _ _ hq hL (fun w hw => by
          rcases List.mem_append.mp hw with g | g
          · exact hr w (by cases r <;> simp_all)
          · exact hs2.2 w g) hσ'
        have e3 : (r.toList ++ rest).map d_w = (r.map d_w).toList ++ rest.map d_w := by cases r <;> simp
        rw [e3] at this
        exact this
      · exact h.elim
    · exact h.elim
  case invokedynamic n =>
    revert h
    match n with
    | 0 =>
      intro h
      simp only [j3_ins] at h
      split at h
      · rename_i y x rest
        obtain ⟨hb, h⟩ := b_t h
        have hb : rest.length ≤ 4 := by simpa using hb
        simp only [oks3_c] at hs
        simp only [j2_ins, List.map_cons, d_w, List.length_map]
        rw [if_pos hb]
        have := hK _ _ _ _ h hL (oks3_c.mpr ⟨by split; exact hs.1; exact hs.2.1, hs.2.2⟩) hσ
        have e1 : (if Int32.ofInt x < Int32.ofInt y then Int32.ofInt y else Int32.ofInt x) = Int32.ofInt (if x < y then y else x) := by
          by_cases g : x < y
          · rw [if_pos g, if_pos ((of_lt hs.2.1 hs.1).mpr g)]
          · rw [if_neg g, if_neg (fun q => g ((of_lt hs.2.1 hs.1).mp q))]
        rw [e1]
        exact this
      · exact h.elim
    | 1 =>
      intro h
      simp only [j3_ins] at h
      split at h
      · rename_i n dp e1 o1 sp e0 o0 rest
        obtain ⟨hb, ⟨g1, g2, g3, g4, g5⟩, h⟩ := b_t h
        simp only [Bool.and_eq_true] at hb
        obtain ⟨⟨⟨⟨b1, b2⟩, b3⟩, b4⟩, b5⟩ := hb
        have b1 : rest.length ≤ 4 := by simpa using b1
        have b2 : lt_fq e0 = 0 := by simpa using b2
        have b3 : lt_fq e1 = 0 := by simpa using b3
        simp only [oks3_c] at hs
        obtain ⟨sn, sd, -, ss, -, sr⟩ := hs
        simp only [j2_ins, List.map_cons, d_w, List.length_map]
        rw [if_pos ⟨b1, b2, b3⟩]
        have rn : rg n := sn
        have rd : rg dp := sd
        have rs : rg sp := ss
        refine ⟨by rw [of_lt0 rs]; omega, by rw [of_lt0 rd]; omega, by rw [of_lt0 rn]; omega, by rw [of_cl rs, of_cl rn]; omega, by rw [of_cl rd, of_cl rn]; omega, ?_⟩
        rw [d_acp b4 b5 o0 o1 g1 g2 g3 rs rd rn]
        exact hK _ _ _ _ h hL sr (okS_acp hσ)
      · exact h.elim
    | n + 2 => exact fun h => h.elim
/-- LEVEL 3 RUNS ON LEVEL 2 -/
theorem j3_sim : ∀ (d y : Nat) (as : List j3_W) (σ : j3_S) (Q : j3_P) (P : j2_P), j3_tc k d y as σ Q → oks3 as → okS σ → (∀ r (σ' : j3_S), Q r σ' → (∀ w, r = some w → ok3 w) → okS σ' → P (r.map d_w) (d_s k σ' τ)) → j2_tc d y (as.map d_w) (d_s k σ τ) P := by
  intro d
  induction d with
  | zero => intro y as σ Q P h; exact h.elim
  | succ d ih =>
    intro y as σ Q P h hok hσ hP
    obtain ⟨⟨hlen, hnm⟩, hT⟩ := h
    refine ⟨⟨by rw [List.length_map]; exact hlen, ?_⟩, fun X hX => ?_⟩
    · rw [List.all_map]
      refine Eq.trans (congrArg (fun f => List.all as f) ?_) hnm
      funext w
      rcases w with w | w | w | w <;> rfl
    · have e0 : j2_in0 (jm_ml jG y) (as.map d_w) = (j3_in0 (jm_ml jG y) as).map d_w := by
        simp only [j2_in0, j3_in0, List.map_append, List.map_replicate, List.length_map]
        rfl
      rw [e0]
      refine hT (fun pc L st σ => oks3 L → oks3 st → okS σ → X pc (L.map d_w) (st.map d_w) (d_s k σ τ)) (fun pc L st σ h => ?_) ?_ (fun w hw => by cases hw) hσ
      · intro hL hs hσ
        refine hX _ _ _ _ ?_
        simp only [j3_stp] at h
        simp only [j2_stp]
        split at h
        · rename_i ins hi
          rw [hi]
          exact j3_one (fun y as σ Q P a b c f => ih y as σ Q P a b c f) (fun _ _ _ _ q a b c => q a b c) (fun _ _ q a b => hP _ _ q a b) ins h hL hs hσ
        · exact h.elim
      · intro w hw
        rcases List.mem_append.mp hw with g | g
        · exact hok w g
        · rw [List.mem_replicate] at g
          rw [g.2]
          trivial
end J3SIM
