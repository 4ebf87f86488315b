/-! the class makes the small program -/
/-- where instructions come from: places, or nothing -/
def okO (X : Sx) : Prop := ∀ i, 0 ≤ X.o1 i ∧ (X.o2 i = -1 ∨ 0 ≤ X.o2 i)
def kpE (o2 e o' : Nat) : Prop := (1000 ≤ e ∧ e < 3000) ∨ (5000 ≤ e ∧ e < 6000) ∨ 9000 ≤ e ∨ ((e < 1000 ∨ (3000 ≤ e ∧ e < 4000)) ∧ ¬ o' = o2 ∧ ¬ o' = o2 + 17)
/-- what the class's shrink leaves -/
def shcF (o2 : Nat) (σ σ' : j3_S) : Prop := (∀ j, ¬ j = 2 → ¬ j = 5 → ¬ j = 6 → σ'.2.1 j = σ.2.1 j) ∧ ∀ e o', kpE o2 e o' → σ'.1 e o' = σ.1 e o' ∧ σ'.2.2 e o' = σ.2.2 e o'
section CSHR
variable {σ σ' σ'' σ0 : j3_S} {P A : Pg} {T : Int → Fl} {R r : Rs} {XX : Int → Sx} {NL E L : Int → Int} {X : Sx} {o o2 d : Nat} {x c m i w k n v t l p u cp bud a b op l0 : Int} {Q : j3_P}
theorem okO.cut (h : okO X) : okO (cutS X p k) := fun i => by
  show 0 ≤ shf p k X.o1 i ∧ (shf p k X.o2 i = -1 ∨ 0 ≤ shf p k X.o2 i)
  unfold shf
  split
  · exact h i
  · exact h (i + k)
theorem okO.set (h : okO X) (hu : 0 ≤ u) (hv : v = -1 ∨ 0 ≤ v) : okO (setS X p op a b u v) := fun i => by
  show 0 ≤ i_up X.o1 p u i ∧ (i_up X.o2 p v i = -1 ∨ 0 ≤ i_up X.o2 p v i)
  by_cases g : i = p
  · rw [g, iu_r, iu_r]; exact ⟨hu, hv⟩
  · rw [iu_n g, iu_n g]; exact h i
theorem okO.ad (h : okO X) (hu : 0 ≤ u) (hv : v = -1 ∨ 0 ≤ v) : okO (adS X op a b u v) := fun i => by
  show 0 ≤ i_up X.o1 X.n u i ∧ (i_up X.o2 X.n v i = -1 ∨ 0 ≤ i_up X.o2 X.n v i)
  by_cases g : i = X.n
  · rw [g, iu_r, iu_r]; exact ⟨hu, hv⟩
  · rw [iu_n g, iu_n g]; exact h i
theorem okO.ap (h : okO X) : okO (apS X t p) := by
  unfold apS
  split
  · exact h.cut
  split
  · exact h.set (h p).1 (h p).2
  split
  · exact (h.set (h _).1 (h _).2).cut
  split
  · split
    · exact (h.set (h _).1 (h _).2).cut
    · exact h.cut
  split
  · split
    · exact (h.set (h _).1 (h _).2).cut
    · exact h.cut
  split
  · exact (h.set (h _).1 (h _).2).cut
  split
  · exact h.set (h p).1 (h p).2
  · exact h.cut
theorem okO.fd : ∀ (k : Nat) (X : Sx) (c : Int → Int), okO X → okO (fdS k X c).1
  | 0, X, c, h => h
  | k + 1, X, c, h => by
    unfold fdS
    split
    · exact h
    · exact okO.fd k _ _ h.ap
theorem okO.sto (hc : 0 ≤ cp) : ∀ (k : Nat) (X : Sx), okO X → okO (stoS l0 cp k X)
  | 0, X, h => h
  | k + 1, X, h => okO.sto hc k _ (h.ad hc (Or.inl rfl))
theorem okO.bod (hu : 0 ≤ u) (hc : 0 ≤ cp) : ∀ (n : Nat) (j : Int) (X : Sx), 0 ≤ j → okO X → okO (bodS P u l0 cp n j X)
  | 0, j, X, _, h => h
  | n + 1, j, X, hj, h => okO.bod hu hc n (j + 1) _ (by omega) (h.ad (by omega) (Or.inr hc))
theorem bd_u (hg : good P) (m0 : 0 ≤ m) (m1 : m < P 3001 0) (i0 : 0 ≤ i) (i1 : i < P 0 m) (hp : bO P T L m i = 20) : 0 ≤ P 3007 (bA P T L m i) + bB P T L m i := by
  unfold bO at hp
  unfold bA bB
  by_cases g : isB P T L m i = true
  · rw [if_pos g, if_pos g]
    unfold isB at g
    simp only [Bool.and_eq_true, Bool.not_eq_true', decide_eq_false_iff_not] at g
    have : 0 ≤ bdS P L (P 2 (m * 120 + i)) (P 3007 (P 2 (m * 120 + i)) + P 3 (m * 120 + i)) := by
      have ne := g.2
      unfold bdS at ne ⊢
      split
      · rename_i h; exact h.1
      · rename_i h; rw [if_neg h] at ne; exact absurd rfl ne
    omega
  · rw [if_neg g] at hp ⊢
    rw [if_neg g]
    obtain ⟨-, -, -, -, -, -, p7⟩ := hg.1.2.2.2 m m0 m1
    obtain ⟨-, -, -, -, k5, -, k7⟩ := p7 i i0 i1
    have a := k5 (by omega)
    have b := k7 (by omega)
    have := hg.1.2.1.2.2 _ a.1 a.2
    omega
theorem okO.ga (hm : 0 ≤ m) (hu : ∀ i : Nat, (i : Int) < P 0 m → ∀ S, putB P T L bud m i S = true → 0 ≤ P 3007 (bA P T L m i) + bB P T L m i) : ∀ k : Nat, (k : Int) ≤ P 0 m → okO (gsN P T L bud m k).1
  | 0, _ => fun i => by show (0 : Int) ≤ 0 ∧ ((0 : Int) = -1 ∨ (0 : Int) ≤ 0); omega
  | k + 1, hk => by
    have ih := okO.ga hm hu k (by push_cast at hk; omega)
    show okO (gs1 P T L bud m k (gsN P T L bud m k)).1
    unfold gs1
    by_cases g : putB P T L bud m k (gsN P T L bud m k) = true
    · rw [if_pos g]
      have u0 := hu k (by push_cast at hk; omega) _ g
      show okO (puS P _ _ _ _)
      unfold puS
      exact okO.bod u0 (by omega) _ _ _ (by omega) (okO.sto (by omega) _ _ ih)
    · rw [if_neg g]
      exact ih.ad (by omega) (Or.inl rfl)
/-- frames -/
theorem shcF.rf : shcF o2 σ σ := ⟨fun _ _ _ _ => rfl, fun _ _ _ => ⟨rfl, rfl⟩⟩
theorem shcF.tr (h : shcF o2 σ σ') (h' : shcF o2 σ' σ'') : shcF o2 σ σ'' := ⟨fun j a b c => (h'.1 j a b c).trans (h.1 j a b c), fun e o' k => ⟨(h'.2 e o' k).1.trans (h.2 e o' k).1, (h'.2 e o' k).2.trans (h.2 e o' k).2⟩⟩
theorem kp_el {la : List Nat} {e o' : Nat} (h : la.all (fun e => (decide (4000 ≤ e) && decide (e < 5000)) || (decide (6000 ≤ e) && decide (e < 9000))) = true) (hk : kpE o2 e o') : la.elem e = false := by
  cases hb : la.elem e
  · rfl
  · have := List.all_eq_true.mp h e (by simpa using hb)
    simp at this
    unfold kpE at hk
    omega
theorem shcF.of {li la : List Nat} (h : frm li la σ σ') (h1 : li.all (fun e => (decide (4000 ≤ e) && decide (e < 5000)) || (decide (6000 ≤ e) && decide (e < 9000))) = true) (h2 : la.all (fun e => (decide (4000 ≤ e) && decide (e < 5000)) || (decide (6000 ≤ e) && decide (e < 9000))) = true) : shcF o2 σ σ' := ⟨fun j _ _ _ => by rw [h.1], fun e o' k => ⟨h.2.1 e o' (kp_el h1 k), h.2.2 e o' (kp_el h2 k)⟩⟩
theorem edC.sh {S : Rs} (h : edC σ σ' o P S) : shcF o2 σ σ' := by
  refine ⟨fun j a _ _ => ?_, fun e o' k => ⟨h.1.2.1 e o' (kp_el (la := [4004]) rfl k), h.1.2.2 e o' (kp_el (la := [4000, 4001, 4002]) rfl k)⟩⟩
  rw [h.1.1]
  unfold j3_upP
  have e : (j == 2) = false := by simpa using a
  rw [e]; rfl
theorem mkF.sh (h : mkF o2 σ σ') : shcF o2 σ σ' := by
  refine ⟨fun j _ _ _ => by rw [h.1.1], fun e o' k => ⟨h.1.2.1 e o' (kp_el (la := mkI) rfl k), ?_⟩⟩
  by_cases g : e ≤ 4
  · exact h.2 e o' g (by unfold kpE at k; omega)
  · refine h.1.2.2 e o' ?_
    unfold kpE at k
    simp [mkA]
    omega
theorem lwF.sh (h : lwF o2 x c σ σ') : shcF o2 σ σ' := ⟨fun j _ _ _ => by rw [h.1.2], fun e o' k => ⟨by rw [h.1.1], h.2.1 e o' (by unfold kpE at k; omega)⟩⟩
theorem mvA.sh (h : mvA o2 σ σ') : shcF o2 σ σ' := ⟨fun j _ _ _ => by rw [h.1.2], fun e o' k => ⟨by rw [h.1.1], h.2 e o' (by unfold kpE at k; omega) (by unfold kpE at k; omega)⟩⟩
end CSHR
