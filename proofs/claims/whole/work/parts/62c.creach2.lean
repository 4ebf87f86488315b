/-! reaching in the class, from its start; the reference's -/
def enF (E : Int → Int) : Nat → (Int → Int)
  | 0 => fun _ => 0
  | k + 1 => i_up (enF E k) (E k) 1
def S0f (E : Int → Int) (n : Int) : Rs := (enF E n.toNat, fun _ => 0, 1)
section CRC2
variable {σ0 σ : j3_S} {P K : Pg} {mt : Int → Int → Bool} {D L : Int → Prop} {S : Rs} {d o oc : Nat} {Q : j3_P} {m c a b n : Int} {E : Int → Int}
theorem enF_v : ∀ (k : Nat) (m : Int), enF E k m = 0 ∨ (enF E k m = 1 ∧ ∃ e : Int, 0 ≤ e ∧ e < k ∧ E e = m)
  | 0, _ => Or.inl rfl
  | k + 1, m => by
    show i_up (enF E k) (E k) 1 m = 0 ∨ _
    have e : enF E (k + 1) = i_up (enF E k) (E k) 1 := rfl
    rw [e]
    simp only [i_up]
    by_cases g : m = E k
    · rw [if_pos g]; exact Or.inr ⟨rfl, k, by omega, by omega, g.symm⟩
    · rw [if_neg g]
      rcases enF_v k m with q | ⟨q, e, e0, e1, e2⟩
      · exact Or.inl q
      · exact Or.inr ⟨q, e, e0, by omega, e2⟩
theorem enF_i : ∀ (k : Nat) (e : Int), 0 ≤ e → e < k → enF E k (E e) = 1
  | 0, e, h, h' => absurd h' (by omega)
  | k + 1, e, h, h' => by
    show i_up (enF E k) (E k) 1 (E e) = 1
    simp only [i_up]
    by_cases g : E e = E k
    · rw [if_pos g]
    · rw [if_neg g]
      refine enF_i k e h ?_
      by_cases q : e = k
      · rw [q] at g; exact absurd rfl g
      · omega
theorem S0_i (hE : ∀ e, 0 ≤ e → e < n → D (E e)) : inS D L (S0f E n) := by
  refine ⟨fun m => ?_, fun _ => Or.inl rfl, Or.inr rfl, fun m q => ?_, fun c q => absurd (show (0 : Int) = 1 from q) (by decide)⟩
  · rcases enF_v (E := E) n.toNat m with q | q
    · exact Or.inl q
    · exact Or.inr q.1
  · have q : enF E n.toNat m = 1 := q
    rcases enF_v (E := E) n.toNat m with z | ⟨-, e, e0, e1, e2⟩
    · rw [z] at q; exact absurd q (by decide)
    · rw [← e2]; exact hE e e0 (by omega)
theorem cz_le {f : Int → Int} : ∀ n : Nat, cz f n ≤ n
  | 0 => Nat.le_refl _
  | n + 1 => by
    have := cz_le (f := f) n
    show cz f n + (if f n = 0 then 1 else 0) ≤ n + 1
    split <;> omega
theorem S0_e (hg : good P) (hK : okK P K mt D L) (hE : ∀ e, 0 ≤ e → e < n → D (E e)) : (rds P K mt 100 (S0f E n)).2.2 = 0 := by
  refine rds_e hg hK 100 _ ?_ (S0_i hE)
  have h1 := cz_le (f := (S0f E n).1) 80
  have h2 := cz_le (f := (S0f E n).2.1) 10
  show cz (S0f E n).1 80 + cz (S0f E n).2.1 10 + 1 < 100
  omega
theorem l57e {y4 : Int} {o1 : Nat} (n6 : y4 ≤ 6) (hE : ∀ e, 0 ≤ e → e < y4 → σ0.2.2 9008 0 e = E e ∧ 0 ≤ E e ∧ E e < 80) : ∀ (k x : Nat) (σ : j3_S), (x : Int) + k = y4 → frm [] [4000] σ0 σ → (∀ m, 0 ≤ m → m < 80 → σ.2.2 4000 92 m = enF E x m) → (∀ σ', frm [] [4000] σ0 σ' → (∀ m, 0 ≤ m → m < 80 → σ'.2.2 4000 92 m = enF E y4.toNat m) → T57 d Q 32 [wO 4 92, wO 3 o1, wO 0 oc, wA 9008 0, wI y4, wI 0, wM 2] [] (j3_up σ'.1 4004 92 1, σ'.2.1, σ'.2.2)) → T57 d Q 15 [wO 4 92, wO 3 o1, wO 0 oc, wA 9008 0, wI y4, wI x, wM 2] [] σ
  | 0, x, σ, hx, hf, hm, hQ => by
    rw [b57_15, if_neg (by omega)]
    refine ⟨Or.inr rfl, hQ σ hf ?_⟩
    rw [show y4.toNat = x by omega]
    exact hm
  | k + 1, x, σ, hx, hf, hm, hQ => by
    obtain ⟨e1, e2, e3⟩ := hE x (by omega) (by omega)
    have e9 : σ.2.2 9008 0 x = E x := by rw [hf.2.2 9008 0 rfl]; exact e1
    rw [b57_15, if_pos (by omega), e9, wr_id (by omega) (by omega)]
    refine ⟨by omega, by omega, ?_⟩
    refine l57e n6 hE k (x + 1) _ (by omega) (hf.tr (frm.A rfl frm.rf)) (fun m m0 m1 => ?_) hQ
    simp only [j3_ast, up_r]
    show i_up _ (E x) 1 m = i_up (enF E x) (E x) 1 m
    simp only [i_up]
    by_cases g : m = E x
    · rw [if_pos g, if_pos g]
    · rw [if_neg g, if_neg g]; exact hm m m0 m1
/-- what the class has when reaching is done -/
def edC (σ σ' : j3_S) (o : Nat) (P : Pg) (S : Rs) : Prop := (σ'.2.1 = j3_upP σ.2.1 2 o ∧ (∀ e o', [4004].elem e = false → σ'.1 e o' = σ.1 e o') ∧ ∀ e o', [4000, 4001, 4002].elem e = false → σ'.2.2 e o' = σ.2.2 e o') ∧ (∀ m, 0 ≤ m → m < 80 → σ'.2.2 4000 92 m = S.1 m) ∧ (∀ c, 0 ≤ c → c < 10 → σ'.2.2 4001 92 c = S.2.1 c) ∧ mnC σ' P
theorem s57 (hg : good P) (hK : okK P K mt D L) (ho : ¬ o = 0) (hC : CP σ o P) (hk : kdC σ oc P K mt D) (n0 : 0 ≤ n) (n6 : n ≤ 6) (hE : ∀ e, 0 ≤ e → e < n → σ.2.2 9008 0 e = E e ∧ 0 ≤ E e ∧ E e < P 3001 0 ∧ D (E e)) (hQ : ∀ σ', edC σ σ' o P (rds P K mt 100 (S0f E n)) → Q none σ') : j3_tc false (d + 4) 57 [wO 4 92, wO 3 o, wO 0 oc, wA 9008 0, wI n] σ Q := by
  have h80 := hg.1.2.1.2.1
  rw [e57, b57_0, e58, b58_0]
  generalize hσ1 : ((σ.1, j3_upP σ.2.1 2 o, σ.2.2) : j3_S) = σ1
  have p1 : σ1.2.1 = j3_upP σ.2.1 2 o := by rw [← hσ1]
  have i1 : σ1.1 = σ.1 ∧ σ1.2.2 = σ.2.2 := by rw [← hσ1]; exact ⟨rfl, rfl⟩
  have hp1 : σ1.2.1 2 = o := by rw [p1]; rfl
  have hC1 : CP σ1 o P := by rw [← hσ1]; exact hC
  refine l58 (σ0 := σ1) hg ho hp1 hC1 (P 3000 0).toNat 0 _ σ1 (by have := hg.1.1.1; omega) (by omega) frm.rf (fun d t d0 d1 => absurd d1 (by omega)) (fun σ2 f2 m2 => ?_)
  simp only [Option.toList_none, List.nil_append]
  rw [b57_5, s248 (n := 80) rfl rfl rfl (by omega)]
  simp only [Option.toList_none, List.nil_append]
  rw [b57_9, s248 (n := 10) rfl rfl rfl (by omega)]
  simp only [Option.toList_none, List.nil_append]
  rw [b57_13]
  generalize hσ3 : ((σ2.1, σ2.2.1, j3_up (j3_up σ2.2.2 4000 92 (i_fl (σ2.2.2 4000 92) 0 80 0)) 4001 92 (i_fl (j3_up σ2.2.2 4000 92 (i_fl (σ2.2.2 4000 92) 0 80 0) 4001 92) 0 10 0)) : j3_S) = σ3
  have f3 : frm [] [4000, 4001] σ2 σ3 := by rw [← hσ3]; exact frm.A rfl (frm.A rfl frm.rf)
  have z0 : ∀ m, 0 ≤ m → m < 80 → σ3.2.2 4000 92 m = 0 := by
    intro m m0 m1
    rw [← hσ3]
    simp only [up_e (show ((4000 : Nat) == 4001) = false from rfl), up_r, i_fl]
    rw [if_pos (by omega)]
  have z1 : ∀ c, 0 ≤ c → c < 10 → σ3.2.2 4001 92 c = 0 := by
    intro c c0 c1
    rw [← hσ3]
    simp only [up_r, i_fl]
    rw [if_pos (by omega)]
  have A3 : ∀ e o', [4000, 4001, 4002].elem e = false → σ3.2.2 e o' = σ.2.2 e o' := by
    intro e o' he
    rw [f3.2.2 e o' (by simp at he; simp; omega), f2.2.2 e o' (by simp at he; simp; omega), i1.2]
  have I3 : σ3.1 = σ.1 := by
    funext e o'
    rw [f3.2.1 e o' rfl, f2.2.1 e o' rfl, i1.1]
  have P3 : σ3.2.1 = j3_upP σ.2.1 2 o := by rw [f3.1, f2.1, p1]
  refine l57e (E := E) (o1 := o) (σ0 := σ3) (y4 := n) n6 (fun e e0 e1 => ?_) n.toNat 0 σ3 (by omega) frm.rf (fun m m0 m1 => z0 m m0 m1) (fun σ4 f4 m4 => ?_)
  · rw [A3 9008 0 rfl]
    obtain ⟨q1, q2, q3, -⟩ := hE e e0 e1
    exact ⟨q1, q2, by omega⟩
  generalize hσ5 : ((j3_up σ4.1 4004 92 1, σ4.2.1, σ4.2.2) : j3_S) = σ5
  have A5 : ∀ e o', [4000, 4001, 4002].elem e = false → σ5.2.2 e o' = σ.2.2 e o' := by
    intro e o' he
    rw [← hσ5]
    show σ4.2.2 e o' = _
    rw [f4.2.2 e o' (by simp at he; simp; omega)]; exact A3 e o' he
  have I5 : ∀ e o', [4004].elem e = false → σ5.1 e o' = σ.1 e o' := by
    intro e o' he
    rw [← hσ5]
    show j3_up σ4.1 4004 92 1 e o' = _
    rw [up_e (by simpa using he), f4.2.1 e o' rfl, I3]
  have P5 : σ5.2.1 = j3_upP σ.2.1 2 o := by rw [← hσ5]; show σ4.2.1 = _; rw [f4.1]; exact P3
  have hC5 : CP σ5 o P := by
    have : CP (σ5.1, σ.2.1, σ5.2.2) o P := hC.fr (li := [4004]) (la := [4000, 4001, 4002]) ⟨rfl, I5, A5⟩ ⟨rfl, rfl⟩ (la_ok rfl)
    exact this
  have m5 : mnC σ5 P := by
    intro d t d0 d1 t0 t1
    have : σ5.2.2 4002 92 = σ2.2.2 4002 92 := by
      rw [← hσ5]
      show σ4.2.2 4002 92 = _
      rw [f4.2.2 4002 92 rfl, f3.2.2 4002 92 rfl]
    rw [this]
    exact m2 d t d0 d1 t0 t1
  have k5 : kdC σ5 oc P K mt D := by
    intro m m0 m1 hD
    rw [A5 0 oc rfl, A5 1 oc rfl, A5 2 oc rfl, A5 3 oc rfl, A5 4 oc rfl]
    exact hk m m0 m1 hD
  have hEs : ∀ e, 0 ≤ e → e < n → D (E e) := fun e e0 e1 => (hE e e0 e1).2.2.2
  refine l57r (σ0 := σ5) (S := S0f E n) (o := o) (D := D) (L := L) ⟨⟨hg, hK⟩, ⟨ho, by rw [P5]; rfl, hC5⟩, m5, k5⟩ 100 0 _ σ5 (by omega) (by omega) (S0_i hEs) (S0_e hg hK hEs) ⟨frm.rf, fun m m0 m1 => ?_, fun c c0 c1 => ?_, ?_⟩ (fun σ6 h6 => hQ σ6 ⟨⟨h6.1.1.trans P5, fun e o' he => (h6.1.2.1 e o' he).trans (I5 e o' he), fun e o' he => (h6.1.2.2 e o' (by simp at he; simp; omega)).trans (A5 e o' he)⟩, h6.2.1, h6.2.2.1, ?_⟩)
  · rw [← hσ5]; exact m4 m m0 m1
  · have : σ5.2.2 4001 92 = σ3.2.2 4001 92 := by
      rw [← hσ5]
      show σ4.2.2 4001 92 = _
      rw [f4.2.2 4001 92 rfl]
    rw [this]; exact z1 c c0 c1
  · rw [← hσ5]; show j3_up σ4.1 4004 92 1 4004 92 = 1; exact up_r
  · intro d t d0 d1 t0 t1
    rw [h6.1.2.2 4002 92 rfl]
    exact m5 d t d0 d1 t0 t1
end CRC2
