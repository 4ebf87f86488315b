/-! the flow: one instruction, an arrival, a look -/
def af (P : Pg) (s : Int → Int) (w : List Int) (q : Int) : Nat → Bool
  | 0 => true
  | k + 1 => ftt P (s (q + (k : Int))) (w.getD k 0) && af P s w q k
def gx (P : Pg) (op a b : Int) (s l : Int → Int) (q : Int) : List Int := if op = 5 then [s q, s q] else g1 P op a b (l a)
def psh (s : Int → Int) : Int → List Int → Int → Int
  | _, [] => s
  | q, x :: g => psh (i_up s q x) (q + 1) g
def exf (P : Pg) (m op a b n : Int) (s l : Int → Int) : Int := if n < (wl P m op a b).length then 3 else if af P s (wl P m op a b) (n - (wl P m op a b).length) (wl P m op a b).length = false then 4 else if op = 2 ∧ l a = 0 then 4 else if 10 < n - (wl P m op a b).length + (gx P op a b s l (n - (wl P m op a b).length)).length then 5 else 0
def exn (P : Pg) (m op a b n : Int) (s l : Int → Int) : Int := n - (wl P m op a b).length + (gx P op a b s l (n - (wl P m op a b).length)).length
def exs (P : Pg) (m op a b n : Int) (s l : Int → Int) : Int → Int := psh s (n - (wl P m op a b).length) (gx P op a b s l (n - (wl P m op a b).length))
def exl (P : Pg) (m op a b n : Int) (s l : Int → Int) : Int → Int := if op = 3 then i_up l a (s (n - (wl P m op a b).length)) else l
/-- heights, stacks, locals -/
abbrev Fl : Type := (Int → Int) × (Int → Int → Int) × (Int → Int → Int)
def up2 (f : Int → Int → Int) (j : Int) (g : Int → Int) : Int → Int → Int := fun i => if i = j then g else f i
/-- the two rows have INTs at the same places, from k on -/
def eqi (s t : Int → Int) : Nat → Int → Bool
  | 0, _ => true
  | n + 1, k => (decide (s k = 1) == decide (t k = 1)) && eqi s t n (k + 1)
def dif (P : Pg) (s t : Int → Int) : Nat → Int → Bool
  | 0, _ => false
  | n + 1, k => !decide (mt P (s k) (t k) = s k) || dif P s t n (k + 1)
theorem eqi_c {s t s' t' : Int → Int} : ∀ (n : Nat) (k : Int), (∀ z, k ≤ z → z < k + n → s z = s' z ∧ t z = t' z) → eqi s t n k = eqi s' t' n k
  | 0, _, _ => rfl
  | n + 1, k, h => by
    obtain ⟨h1, h2⟩ := h k (by omega) (by omega)
    simp only [eqi, h1, h2]
    rw [eqi_c n (k + 1) (fun z z0 z1 => h z (by omega) (by omega))]
theorem dif_c {P : Pg} {s t s' t' : Int → Int} : ∀ (n : Nat) (k : Int), (∀ z, k ≤ z → z < k + n → s z = s' z ∧ t z = t' z) → dif P s t n k = dif P s' t' n k
  | 0, _, _ => rfl
  | n + 1, k, h => by
    obtain ⟨h1, h2⟩ := h k (by omega) (by omega)
    simp only [dif, h1, h2]
    rw [dif_c n (k + 1) (fun z z0 z1 => h z (by omega) (by omega))]
def mtr (P : Pg) (s t : Int → Int) (n : Int) : Int → Int := fun k => if 0 ≤ k ∧ k < n then mt P (s k) (t k) else s k
def arf (F : Fl) (j n : Int) (s : Int → Int) : Int := if F.1 j < 0 then 0 else if ¬ F.1 j = n then 6 else if eqi (F.2.1 j) s n.toNat 0 = true then 0 else 6
def arF (P : Pg) (nl : Int) (F : Fl) (j n : Int) (s l : Int → Int) : Fl := if F.1 j < 0 then (i_up F.1 j n, up2 F.2.1 j s, up2 F.2.2 j l) else (F.1, up2 F.2.1 j (mtr P (F.2.1 j) s n), up2 F.2.2 j (mtr P (F.2.2 j) l nl))
def arc (P : Pg) (nl : Int) (F : Fl) (j n : Int) (s l : Int → Int) : Bool := decide (F.1 j < 0) || dif P (F.2.1 j) s n.toNat 0 || dif P (F.2.2 j) l nl.toNat 0
/-- the class's rows are F -/
def FC (σ : j3_S) (nl : Int) (F : Fl) : Prop := (∀ i, 0 ≤ i → i < 120 → σ.2.2 1005 76 i = F.1 i) ∧ ∀ i, 0 ≤ i → i < 120 → 0 ≤ F.1 i → (∀ k, 0 ≤ k → k < F.1 i → σ.2.2 1006 76 (i * 10 + k) = F.2.1 i k) ∧ ∀ x, 0 ≤ x → x < nl → σ.2.2 1007 76 (i * 20 + x) = F.2.2 i x
/-- types where they count -/
def Fok (P : Pg) (nl : Int) (F : Fl) : Prop := ∀ i, 0 ≤ i → i < 120 → 0 ≤ F.1 i → F.1 i ≤ 10 ∧ (∀ k, 0 ≤ k → k < F.1 i → tyo P (F.2.1 i k)) ∧ ∀ x, 0 ≤ x → x < nl → tyo P (F.2.2 i x)
theorem mtu_o {P : Pg} (hs : WFs P) {y : Int} : ∀ (n : Nat) (c : Int), c < P 3000 0 → tyo P (mtu P y n c)
  | 0, c, h => by
    have := hs.1
    exact ⟨by simp [mtu], by simp [mtu]; omega⟩
  | n + 1, c, h => by
    have h1 := hs.1
    simp only [mtu]
    split
    · exact ⟨by omega, by omega⟩
    · split
      · exact ⟨by omega, by omega⟩
      · have := hs.2.2 c (by omega) h
        exact mtu_o hs n _ (by omega)
theorem mt_o {P : Pg} (hs : WFs P) {x y : Int} (hx : tyo P x) (hy : tyo P y) : tyo P (mt P x y) := by
  have h1 := hs.1
  unfold mt
  split
  · exact hx
  · split
    · exact ⟨by omega, by omega⟩
    · split
      · exact hy
      · split
        · exact hx
        · split
          · exact ⟨by omega, by omega⟩
          · exact mtu_o hs _ _ (by have := hx.2; omega)
section MEET
variable {d : Nat} {Q : j3_P} {P : Pg}
/-- from k on -/
def difk (P : Pg) (row oth : Int → Int) (fr : Int) : Nat → Int → Bool
  | 0, _ => false
  | n + 1, k => !decide (mt P (row (fr + k)) (oth k) = row (fr + k)) || difk P row oth fr n (k + 1)
def mrk (P : Pg) (row oth : Int → Int) (fr k cnt : Int) : Int → Int := fun z => if fr + k ≤ z ∧ z < fr + cnt then mt P (row z) (oth (z - fr)) else row z
theorem mrk_eq {row oth : Int → Int} {fr k cnt : Int} (h : mt P (row (fr + k)) (oth k) = row (fr + k)) : mrk P row oth fr (k + 1) cnt = mrk P row oth fr k cnt := by
  funext z
  simp only [mrk]
  by_cases g : z = fr + k
  · subst g
    rw [if_neg (by omega)]
    split
    · rw [show fr + k - fr = k by omega, h]
    · rfl
  · by_cases g2 : fr + (k + 1) ≤ z ∧ z < fr + cnt
    · rw [if_pos g2, if_pos (by omega)]
    · rw [if_neg g2, if_neg (by omega)]
theorem mrk_up {row oth : Int → Int} {fr k cnt : Int} (hk : k < cnt) : mrk P (i_up row (fr + k) (mt P (row (fr + k)) (oth k))) oth fr (k + 1) cnt = mrk P row oth fr k cnt := by
  funext z
  simp only [mrk, i_up]
  by_cases g : z = fr + k
  · subst g
    rw [if_neg (by omega), if_pos rfl, if_pos (by omega), show fr + k - fr = k by omega]
  · simp only [if_neg g]
    by_cases g2 : fr + (k + 1) ≤ z ∧ z < fr + cnt
    · rw [if_pos g2, if_pos (by omega)]
    · rw [if_neg g2, if_neg (by omega)]
theorem mrk_0 {row oth : Int → Int} {fr cnt : Int} : mrk P row oth fr cnt cnt = row := by
  funext z
  simp only [mrk]
  rw [if_neg (by omega)]
theorem l16 {e1 e3 : Nat} {n1 n3 fr cnt : Int} (hs : WFs P) (q1 : lt_fq e1 = 0) (q2 : j3_g false e1 = true) (q3 : (lt_fn e1 : Int) = n1) (q4 : lt_fq e3 = 0) (q5 : j3_g false e3 = true) (q6 : (lt_fn e3 : Int) = n3) (q7 : (e3 == e1) = false) (q8 : (e1 == 3003) = false ∧ (3003 == e1) = false) (hfr : 0 ≤ fr) (hc1 : fr + cnt ≤ n1) (hc3 : cnt ≤ n3) (hn1 : n1 < 10000) (hn3 : n3 < 10000) (he1 : ([1006, 1007] : List Nat).elem e1 = true) : ∀ (j : Nat) (k : Int) (w : j3_W) (σ : j3_S), 0 ≤ k → k + j = cnt → ¬ σ.2.1 0 = 0 → CP σ (σ.2.1 0) P → (∀ z, k ≤ z → z < cnt → tyo P (σ.2.2 e1 76 (fr + z)) ∧ tyo P (σ.2.2 e3 76 z)) →
    T16 (d + 2) Q 2 [wO 1 76, wA e1 76, wI fr, wA e3 76, wI cnt, wI k, w] [] σ = Q none (j3_up σ.1 1004 76 (if difk P (σ.2.2 e1 76) (σ.2.2 e3 76) fr j k = true then 1 else σ.1 1004 76), σ.2.1, j3_up σ.2.2 e1 76 (mrk P (σ.2.2 e1 76) (σ.2.2 e3 76) fr k cnt))
  | 0, k, w, σ, h0, hk, hp, hC, ht => by
    have : k = cnt := by omega
    subst this
    rw [b16_2, if_neg (by omega), mrk_0, up_id]
    rw [if_neg (show ¬ difk P (σ.2.2 e1 76) (σ.2.2 e3 76) fr 0 k = true by simp [difk]), up_id]
  | j + 1, k, w, σ, h0, hk, hp, hC, ht => by
    obtain ⟨t1, t2⟩ := ht k (by omega) (by omega)
    rw [b16_2, if_pos (by omega)]
    simp (disch := omega) only [wr_id, q1, q2, q3, q4, q5, q6]
    rw [s17 hp hC hs t1 t2]
    simp only [Option.toList_some, List.cons_append, List.nil_append]
    rw [b16_15]
    simp (disch := omega) only [wr_id, q1, q2, q3]
    have bb : ∀ X : Prop, (bif ((0 : Nat) == 0) && true then X else False) = X := fun X => rfl
    simp only [bb]
    have c1 : (0 ≤ fr + k ∧ fr + k < n1) = True := by simp; omega
    have c3 : (0 ≤ k ∧ k < n3) = True := by simp; omega
    simp only [c1, c3, true_and]
    by_cases g : mt P (σ.2.2 e1 76 (fr + k)) (σ.2.2 e3 76 k) = σ.2.2 e1 76 (fr + k)
    · rw [if_pos g, b16_32, wr_id (by omega) (by omega), l16 hs q1 q2 q3 q4 q5 q6 q7 q8 hfr hc1 hc3 hn1 hn3 he1 j (k + 1) _ σ (by omega) (by omega) hp hC (fun z z0 z1 => ht z (by omega) z1), mrk_eq g]
      simp [difk, g]
    · rw [if_neg g, b16_32, wr_id (by omega) (by omega)]
      have hf : frm [1004] [1006, 1007] σ (j3_up σ.1 1004 76 1, σ.2.1, j3_ast σ.2.2 e1 76 (fr + k) (mt P (σ.2.2 e1 76 (fr + k)) (σ.2.2 e3 76 k))) := frm.I rfl (frm.A he1 frm.rf)
      rw [l16 hs q1 q2 q3 q4 q5 q6 q7 q8 hfr hc1 hc3 hn1 hn3 he1 j (k + 1) _ (j3_up σ.1 1004 76 1, σ.2.1, j3_ast σ.2.2 e1 76 (fr + k) (mt P (σ.2.2 e1 76 (fr + k)) (σ.2.2 e3 76 k))) (by omega) (by omega) hp (hC.fr hf ⟨rfl, rfl⟩ (la_ok rfl)) (fun z z0 z1 => by
        obtain ⟨a1, a2⟩ := ht z (by omega) z1
        simp only [j3_ast, up_r, up_e q7]
        rw [iu_n (by omega)]
        exact ⟨a1, a2⟩)]
      simp only [j3_ast, up_r, up_up, up_e q7, mrk_up (show k < cnt by omega)]
      simp [difk, g]
theorem difk_e {row oth : Int → Int} {fr : Int} : ∀ (n : Nat) (k : Int), difk P row oth fr n k = dif P (fun z => row (fr + z)) oth n k
  | 0, _ => rfl
  | n + 1, k => by simp only [difk, dif, difk_e n (k + 1)]
theorem s16 {e1 e3 : Nat} {n1 n3 fr cnt : Int} {σ : j3_S} (hs : WFs P) (q1 : lt_fq e1 = 0) (q2 : j3_g false e1 = true) (q3 : (lt_fn e1 : Int) = n1) (q4 : lt_fq e3 = 0) (q5 : j3_g false e3 = true) (q6 : (lt_fn e3 : Int) = n3) (q7 : (e3 == e1) = false) (q8 : (e1 == 3003) = false ∧ (3003 == e1) = false) (hfr : 0 ≤ fr) (h0 : 0 ≤ cnt) (hc1 : fr + cnt ≤ n1) (hc3 : cnt ≤ n3) (hn1 : n1 < 10000) (hn3 : n3 < 10000) (he1 : ([1006, 1007] : List Nat).elem e1 = true) (hp : ¬ σ.2.1 0 = 0) (hC : CP σ (σ.2.1 0) P) (ht : ∀ z, 0 ≤ z → z < cnt → tyo P (σ.2.2 e1 76 (fr + z)) ∧ tyo P (σ.2.2 e3 76 z)) :
    j3_tc false (d + 3) 16 [wO 1 76, wA e1 76, wI fr, wA e3 76, wI cnt] σ Q = Q none (j3_up σ.1 1004 76 (if dif P (fun z => σ.2.2 e1 76 (fr + z)) (σ.2.2 e3 76) cnt.toNat 0 = true then 1 else σ.1 1004 76), σ.2.1, j3_up σ.2.2 e1 76 (mrk P (σ.2.2 e1 76) (σ.2.2 e3 76) fr 0 cnt)) := by
  rw [e16, b16_0, l16 hs q1 q2 q3 q4 q5 q6 q7 q8 hfr hc1 hc3 hn1 hn3 he1 cnt.toNat 0 _ σ (by omega) (by omega) hp hC ht, difk_e]
end MEET
