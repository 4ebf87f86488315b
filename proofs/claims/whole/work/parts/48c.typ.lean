/-! typings of a code -/
abbrev Cd : Type := Int × (Int → Int) × (Int → Int) × (Int → Int)
def cdP (P : Pg) (m : Int) : Cd := (P 0 m, fun i => P 1 (m * 120 + i), fun i => P 2 (m * 120 + i), fun i => P 3 (m * 120 + i))
def sle (P : Pg) (n : Int) (s t : Int → Int) : Prop := ∀ k, 0 ≤ k → k < n → sbt P (s k) (t k)
def stk (P : Pg) (n : Int) (s : Int → Int) : Prop := ∀ k, 0 ≤ k → k < n → 1 ≤ s k ∧ tyo P (s k)
def flw (P : Pg) (nl : Int) (F : Fl) (j n : Int) (s l : Int → Int) : Prop := F.1 j = n ∧ sle P n s (F.2.1 j) ∧ sle P nl l (F.2.2 j)
def TyI (P : Pg) (m nl len op a b i : Int) (F : Fl) : Prop := (F.1 i ≤ 10 ∧ stk P (F.1 i) (F.2.1 i) ∧ tys P nl (F.2.2 i)) ∧ exf P m op a b (F.1 i) (F.2.1 i) (F.2.2 i) = 0 ∧ (gon op = true → i + 1 < len ∧ flw P nl F (i + 1) (exn P m op a b (F.1 i) (F.2.1 i) (F.2.2 i)) (exs P m op a b (F.1 i) (F.2.1 i) (F.2.2 i)) (exl P m op a b (F.1 i) (F.2.1 i) (F.2.2 i))) ∧ (isj op = true → flw P nl F a (exn P m op a b (F.1 i) (F.2.1 i) (F.2.2 i)) (exs P m op a b (F.1 i) (F.2.1 i) (F.2.2 i)) (exl P m op a b (F.1 i) (F.2.1 i) (F.2.2 i)))
def TyC (P : Pg) (m nl : Int) (C : Cd) (F : Fl) : Prop := F.1 0 = 0 ∧ sle P nl (ini P m) (F.2.2 0) ∧ ∀ i, 0 ≤ i → i < C.1 → 0 ≤ F.1 i → TyI P m nl C.1 (C.2.1 i) (C.2.2.1 i) (C.2.2.2 i) i F
def gle (P : Pg) : List Int → List Int → Prop
  | [], [] => True
  | x :: g, y :: h => sbt P x y ∧ gle P g h
  | _, _ => False
section TYP
variable {P : Pg} {nl : Int} {F G S : Fl} {i j n m a op b q : Int} {s l s' l' : Int → Int}
theorem sle.rf : sle P n s s := fun _ _ _ => sbt.rf
theorem stk.ty (h : stk P n s) : tys P n s := fun k k0 k1 => (h k k0 k1).2
theorem gle.rf : ∀ g : List Int, gle P g g
  | [] => trivial
  | _ :: g => ⟨sbt.rf, gle.rf g⟩
theorem gle.ln : ∀ {g h : List Int}, gle P g h → g.length = h.length
  | [], [], _ => rfl
  | _ :: g, _ :: h, q => by simp [gle.ln q.2]
  | [], _ :: _, q => q.elim
  | _ :: _, [], q => q.elim
theorem psh_sle : ∀ (G H : List Int) (q : Int) {s t : Int → Int}, gle P G H → sle P q s t → sle P (q + G.length) (psh s q G) (psh t q H)
  | [], [], q, s, t, _, h => fun k k0 k1 => h k k0 (by simpa using k1)
  | x :: G, y :: H, q, s, t, hg, h => by
    have h1 := psh_sle G H (q + 1) (s := i_up s q x) (t := i_up t q y) hg.2 (fun k k0 k1 => by
      simp only [i_up]
      split
      · exact hg.1
      · exact h k k0 (by omega))
    intro k k0 k1
    exact h1 k k0 (by simp only [List.length_cons] at k1; omega)
  | [], _ :: _, _, _, _, q, _ => q.elim
  | _ :: _, [], _, _, _, q, _ => q.elim
theorem psh_stk : ∀ (G : List Int) (q : Int) {s : Int → Int}, (∀ x ∈ G, 1 ≤ x ∧ tyo P x) → stk P q s → stk P (q + G.length) (psh s q G)
  | [], q, s, hG, h => fun k k0 k1 => h k k0 (by simpa using k1)
  | x :: G, q, s, hG, h => by
    have h1 := psh_stk G (q + 1) (s := i_up s q x) (fun y hy => hG y (List.mem_cons_of_mem _ hy)) (fun k k0 k1 => by
      simp only [i_up]
      split
      · exact hG x List.mem_cons_self
      · exact h k k0 (by omega))
    intro k k0 k1
    exact h1 k k0 (by simp only [List.length_cons] at k1; omega)
theorem gx_gle (hs : sle P n s s') (hl : sle P nl l l') (h2 : op = 2 → 0 ≤ a ∧ a < nl) (h5 : op = 5 → 0 ≤ q ∧ q < n) : gle P (gx P op a b s l q) (gx P op a b s' l' q) := by
  unfold gx
  by_cases g : op = 5
  · have := h5 g
    rw [if_pos g, if_pos g]
    exact ⟨hs q this.1 this.2, hs q this.1 this.2, trivial⟩
  · rw [if_neg g, if_neg g]
    by_cases g2 : op = 2
    · have := h2 g2
      subst g2
      exact ⟨hl a this.1 this.2, trivial⟩
    · have e : g1 P op a b (l a) = g1 P op a b (l' a) := by simp [g1, g2]
      rw [e]
      exact gle.rf _
theorem af_sle (hW : WFs P) {w : List Int} (hw : ∀ x ∈ w, wno P x) (q0 : 0 ≤ q) (hs : sle P (q + w.length) s s') (ht : tys P (q + w.length) s) (ht' : stk P (q + w.length) s') : ∀ k : Nat, k ≤ w.length → af P s' w q k = true → af P s w q k = true
  | 0, _, _ => rfl
  | k + 1, hk, h => by
    simp only [af, Bool.and_eq_true] at h ⊢
    exact ⟨sbt_ftt hW (ht _ (by omega) (by omega)) (ht' _ (by omega) (by omega)).1 (hw _ (getD_m (by omega))) (hs _ (by omega) (by omega)) h.1, af_sle hW hw q0 hs ht ht' k (by omega) h.2⟩
/-- an instruction of a code in the context P, m -/
theorem ex_mono (hW : WFp P) (hw : ∀ x ∈ wl P m op a b, wno P x) (h2 : op = 2 → 0 ≤ a ∧ a < nl) (h3 : op = 3 → 0 ≤ a ∧ a < nl) (hs : sle P n s s') (hl : sle P nl l l') (ht : tys P n s) (ht' : stk P n s') (h : exf P m op a b n s' l' = 0) :
    exf P m op a b n s l = 0 ∧ exn P m op a b n s l = exn P m op a b n s' l' ∧ sle P (exn P m op a b n s' l') (exs P m op a b n s l) (exs P m op a b n s' l') ∧ sle P nl (exl P m op a b n s l) (exl P m op a b n s' l') := by
  obtain ⟨e1, e2, e3, e4⟩ := exf0 h
  have hg := gx_gle (b := b) hs hl h2 (w_q e1)
  have en : exn P m op a b n s l = exn P m op a b n s' l' := by
    unfold exn
    rw [hg.ln]
  have ea : af P s (wl P m op a b) (n - (wl P m op a b).length) (wl P m op a b).length = true := af_sle hW.1 hw (by omega) (fun k k0 k1 => hs k k0 (by omega)) (fun k k0 k1 => ht k k0 (by omega)) (fun k k0 k1 => ht' k k0 (by omega)) _ (Nat.le_refl _) e2
  refine ⟨?_, en, ?_, ?_⟩
  · unfold exf
    have x1 : ¬ (op = 2 ∧ l a = 0) := by
      intro q
      have h4 := hl a (h2 q.1).1 (h2 q.1).2
      unfold sbt at h4
      exact e3 ⟨q.1, by omega⟩
    have x2 : ¬ 10 < n - (wl P m op a b).length + (gx P op a b s l (n - (wl P m op a b).length)).length := by
      rw [← en] at e4
      unfold exn at e4
      omega
    rw [if_neg e1, ea, if_neg (by decide), if_neg x1, if_neg x2]
  · rw [← en]
    unfold exn exs
    exact psh_sle _ _ _ hg (fun k k0 k1 => hs k k0 (by omega))
  · unfold exl
    by_cases g : op = 3
    · subst g
      rw [if_pos rfl, if_pos rfl, wl3] at *
      simp only [List.length_singleton] at e1 ⊢
      intro k k0 k1
      simp only [i_up]
      split
      · exact hs _ (by omega) (by omega)
      · exact hl k k0 k1
    · rw [if_neg g, if_neg g]
      exact hl
theorem tyof_1 {w : Int} (h : 0 ≤ w) : 1 ≤ tyof w := by
  unfold tyof
  split <;> omega
theorem g1_1 {la : Int} (hW : WFp P) (hi : iok P m op a b) (hla : op = 2 → 1 ≤ la) : ∀ x ∈ g1 P op a b la, 1 ≤ x := by
  obtain ⟨hs, hm, hF, hM⟩ := id hW
  obtain ⟨i0, i1, i2, i3, i4, i5, i6⟩ := hi
  unfold g1
  intro x hx
  split at hx
  · rw [List.mem_singleton] at hx; omega
  · split at hx
    · rw [List.mem_singleton] at hx; omega
    · split at hx
      · rename_i h; rw [List.mem_singleton] at hx; rw [hx]; exact hla h
      · split at hx
        · rw [List.mem_singleton] at hx; omega
        · split at hx
          · have := i4 (by omega)
            rw [List.mem_singleton] at hx; omega
          · split at hx
            · have ha := i4 (by omega)
              have hb := i5 (by omega)
              have hf := (hF a ha.1 ha.2).2.2 b hb.1 hb.2
              rw [List.mem_singleton] at hx; rw [hx]; exact tyof_1 hf.1
            · split at hx
              · have ha := i4 (by omega)
                have hb := i6 (by omega)
                have hc := hm.2.2 a ha.1 ha.2
                have hr := (hM (P 3007 a + b) (by omega) (by omega)).2.2.1
                split at hx
                · cases hx
                · rw [List.mem_singleton] at hx; rw [hx]; exact tyof_1 (by omega)
              · split at hx
                · rw [List.mem_singleton] at hx; omega
                · cases hx
theorem exs_stk (hW : WFp P) (hi : iok P m op a b) (hnl : nl = P 3017 m) (h : exf P m op a b n s l = 0) (hs : stk P n s) (hl : tys P nl l) : stk P (exn P m op a b n s l) (exs P m op a b n s l) := by
  obtain ⟨e1, e2, e3, e4⟩ := exf0 h
  refine psh_stk _ _ (fun x hx => ⟨?_, gx_o hW hi hnl e1 hs.ty hl x hx⟩) (fun k k0 k1 => hs k k0 (by omega))
  unfold gx at hx
  by_cases g : op = 5
  · have := w_q e1 g
    rw [if_pos g] at hx
    simp at hx
    rw [hx]
    exact (hs _ this.1 this.2).1
  · rw [if_neg g] at hx
    refine g1_1 hW hi (fun h => ?_) x hx
    have h2 := hi.2.2.1 (Or.inl h)
    have := hl a h2.1 (by rw [hnl]; exact h2.2)
    have h3 : ¬ l a = 0 := fun q => e3 ⟨h, q⟩
    have := this.1
    omega
theorem mt_1 (hs : WFs P) {x y : Int} (hx : tyo P x) (hy : tyo P y) (x1 : 1 ≤ x) (y1 : 1 ≤ y) (h : decide (x = 1) = decide (y = 1)) : 1 ≤ mt P x y := by
  have hxy : x = 1 ↔ y = 1 := by simpa using h
  have hx2 := hx.2
  unfold mt
  repeat' split
  all_goals try omega
  have := mtu_le (y := y - 4) hs 10 (x - 4) (by omega)
  omega
theorem eqi_t {s t : Int → Int} : ∀ (r : Nat) (k : Int), eqi s t r k = true → ∀ z, k ≤ z → z < k + r → decide (s z = 1) = decide (t z = 1)
  | 0, k, _, z, z0, z1 => absurd z1 (by omega)
  | r + 1, k, h, z, z0, z1 => by
    simp only [eqi, Bool.and_eq_true] at h
    by_cases g : z = k
    · subst g
      simpa using h.1
    · exact eqi_t r (k + 1) h.2 z (by omega) (by omega)
theorem eqi_i {s t : Int → Int} : ∀ (r : Nat) (k : Int), (∀ z, k ≤ z → z < k + r → decide (s z = 1) = decide (t z = 1)) → eqi s t r k = true
  | 0, _, _ => rfl
  | r + 1, k, h => by
    simp only [eqi, Bool.and_eq_true]
    exact ⟨by rw [h k (by omega) (by omega)]; simp, eqi_i r (k + 1) (fun z z0 z1 => h z (by omega) (by omega))⟩
theorem dif_f {s t : Int → Int} : ∀ (r : Nat) (k : Int), dif P s t r k = false → ∀ z, k ≤ z → z < k + r → mt P (s z) (t z) = s z
  | 0, k, _, z, z0, z1 => absurd z1 (by omega)
  | r + 1, k, h, z, z0, z1 => by
    simp only [dif, Bool.or_eq_false_iff] at h
    by_cases g : z = k
    · subst g
      simpa using h.1
    · exact dif_f r (k + 1) h.2 z (by omega) (by omega)
theorem arf_e (h : arf F j n s = 0) (g : 0 ≤ F.1 j) : F.1 j = n ∧ eqi (F.2.1 j) s n.toNat 0 = true := by
  unfold arf at h
  rw [if_neg (by omega)] at h
  by_cases g1 : F.1 j = n
  · rw [if_neg (fun q => q g1)] at h
    by_cases g2 : eqi (F.2.1 j) s n.toNat 0 = true
    · exact ⟨g1, g2⟩
    · rw [if_neg g2] at h
      omega
  · rw [if_pos g1] at h
    omega
/-- an arrival that changes nothing -/
theorem arc_f (hs : WFs P) (hok : Fok P nl F) (j0 : 0 ≤ j) (j1 : j < 120) (ht : tys P n s) (hl : tys P nl l) (h : arf F j n s = 0) (hc : arc P nl F j n s l = false) : flw P nl F j n s l ∧ Feq nl F (arF P nl F j n s l) := by
  simp only [arc, Bool.or_eq_false_iff, decide_eq_false_iff_not] at hc
  obtain ⟨⟨c1, c2⟩, c3⟩ := hc
  obtain ⟨e1, e2⟩ := arf_e h (by omega)
  obtain ⟨o1, o2, o3⟩ := hok j j0 j1 (by omega)
  have d2 := dif_f _ _ c2
  have d3 := dif_f _ _ c3
  refine ⟨⟨e1, fun k k0 k1 => ?_, fun k k0 k1 => ?_⟩, ?_⟩
  · have := (sbt_mt hs (o2 k k0 (by omega)) (ht k k0 k1)).2.1
    rw [d2 k (by omega) (by omega)] at this
    exact this
  · have := (sbt_mt hs (o3 k k0 k1) (hl k k0 k1)).2.1
    rw [d3 k (by omega) (by omega)] at this
    exact this
  · unfold arF
    rw [if_neg c1]
    refine ⟨fun _ => rfl, fun k k0 k1 hk => ?_⟩
    simp only [up2]
    by_cases g : k = j
    · subst g
      simp only [if_true]
      refine ⟨fun z z0 z1 => ?_, fun z z0 z1 => ?_⟩
      · simp only [mtr]
        rw [if_pos (by omega), d2 z (by omega) (by omega)]
      · simp only [mtr]
        rw [if_pos (by omega), d3 z (by omega) (by omega)]
    · simp only [if_neg g]
      exact ⟨agr.rf, agr.rf⟩
end TYP
