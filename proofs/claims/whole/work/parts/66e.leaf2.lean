/-! a leaf put in is typed -/
def lsS (u0 l0 nl0 np B : Int) (s l : Int → Int) (r : Int) : Int → Int := fun x => if x < nl0 then l x else if l0 + (np - r) ≤ x ∧ x < l0 + np then s (B + (x - l0)) else 0
def lbF (l0 nl0 nlu : Int) (l lu : Int → Int) : Int → Int := fun x => if x < nl0 then l x else if l0 ≤ x ∧ x < l0 + nlu then lu (x - l0) else 0
def sbF (B : Int) (s su : Int → Int) : Int → Int := fun z => if z < B then s z else su (z - B)
def blG (P : Pg) (u l0 nl0 : Int) (F Fu G : Fl) (i x : Int) : Fl :=
  ((fun q => if q < x then G.1 q else if q < x + P 3015 u then F.1 i - (q - x) else if q < x + P 3015 u + (P 0 u - 1) then F.1 i - P 3015 u + Fu.1 (q - x - P 3015 u) else -1),
   (fun q => if q < x then G.2.1 q else if q < x + P 3015 u then F.2.1 i else sbF (F.1 i - P 3015 u) (F.2.1 i) (Fu.2.1 (q - x - P 3015 u))),
   fun q => if q < x then G.2.2 q else if q < x + P 3015 u then lsS u l0 nl0 (P 3015 u) (F.1 i - P 3015 u) (F.2.1 i) (F.2.2 i) (q - x) else lbF l0 nl0 (P 3017 u) (F.2.2 i) (Fu.2.2 (q - x - P 3015 u)))
section LEAF2
variable {P : Pg} {m nl nl0 n0 i j q o a b u v B n l0 cp : Int} {X X' : Sx} {F G E Fu : Fl} {W : Int → Int → Int → Prop} {st s l l' : Int → Int}
theorem ftt_sbt {x w : Int} (h0 : 0 ≤ w) (h : ftt P x (tyof w) = true) : sbt P x (tyof w) := by
  unfold tyof at h ⊢
  by_cases g : w = 0
  · rw [if_pos g] at h ⊢
    have : x = 1 := by simpa [ftt] using h
    rw [this]; exact sbt.rf
  · rw [if_neg g] at h ⊢
    unfold ftt at h
    rw [if_neg (by omega), if_neg (by omega), if_neg (by omega)] at h
    simp only [Bool.or_eq_true, Bool.and_eq_true, decide_eq_true_eq] at h
    rcases h with h | ⟨h1, h2⟩
    · exact Or.inr (Or.inr (Or.inl ⟨h, by omega⟩))
    · exact Or.inr (Or.inr (Or.inr (Or.inr ⟨h1, by omega, h2⟩)))
/-- what a CALL of a static method does -/
theorem cal_s (hst : ¬ P 3013 (P 3007 a + b) = 0) (h0 : 0 ≤ P 3015 (P 3007 a + b)) (hf : exf P m 20 a b n s l = 0) : P 3015 (P 3007 a + b) ≤ n ∧ (∀ k, 0 ≤ k → k < P 3015 (P 3007 a + b) → ftt P (s (n - P 3015 (P 3007 a + b) + k)) (tyof (P 3016 ((P 3007 a + b) * 3 + k))) = true) ∧ exn P m 20 a b n s l = n - P 3015 (P 3007 a + b) + (if P 3014 (P 3007 a + b) = 0 then 0 else 1) ∧ (exs P m 20 a b n s l = if P 3014 (P 3007 a + b) = 0 then s else i_up s (n - P 3015 (P 3007 a + b)) (tyof (P 3014 (P 3007 a + b) - 1))) ∧ exl P m 20 a b n s l = l := by
  have e1 : wl P m 20 a b = cw P a (P 3007 a + b) := by simp [wl]
  have rc : rcv P (P 3007 a + b) = 0 := by unfold rcv; rw [if_neg hst]
  have ln : ((cw P a (P 3007 a + b)).length : Int) = P 3015 (P 3007 a + b) := by rw [cw_len h0]; unfold caL; omega
  have eg : ∀ q, gx P 20 a b s l q = if P 3014 (P 3007 a + b) = 0 then [] else [tyof (P 3014 (P 3007 a + b) - 1)] := fun q => rfl
  obtain ⟨z1, z2, -, -⟩ := exf0 hf
  rw [e1] at z1 z2
  rw [ln] at z2
  refine ⟨by omega, fun k k0 k1 => ?_, ?_, ?_, rfl⟩
  · have := af_get _ z2 k.toNat (by omega)
    rw [cw_get h0 (by omega) (by unfold caL; omega), rc, show ((k.toNat : Nat) : Int) = k by omega, show k - 0 = k by omega] at this
    exact this
  · unfold exn
    rw [e1, ln, eg]
    by_cases g : P 3014 (P 3007 a + b) = 0
    · rw [if_pos g, if_pos g]; simp
    · rw [if_neg g, if_neg g]; simp
  · unfold exs
    rw [e1, ln, eg]
    by_cases g : P 3014 (P 3007 a + b) = 0
    · rw [if_pos g, if_pos g]; rfl
    · rw [if_neg g, if_neg g]; rfl
/-- a leaf's end is the CALL's end -/
theorem lf_out (hs : WFs P) (hst : ¬ P 3013 (P 3007 a + b) = 0) (h0 : 0 ≤ P 3015 (P 3007 a + b)) (hT : TyI P m nl0 n0 20 a b i F) (hr : 0 ≤ P 3014 (P 3007 a + b)) (hs1 : ∀ z, 0 ≤ z → z < F.1 i - P 3015 (P 3007 a + b) → s z = F.2.1 i z) (hs2 : ¬ P 3014 (P 3007 a + b) = 0 → tyo P (s (F.1 i - P 3015 (P 3007 a + b))) ∧ sbt P (s (F.1 i - P 3015 (P 3007 a + b))) (tyof (P 3014 (P 3007 a + b) - 1))) (hl : ∀ x, 0 ≤ x → x < nl0 → l x = F.2.2 i x) : flw P nl (exF nl0 F) (i + 1) (F.1 i - P 3015 (P 3007 a + b) + (if P 3014 (P 3007 a + b) = 0 then 0 else 1)) s l := by
  obtain ⟨-, hf, hg, -⟩ := hT
  obtain ⟨c1, -, c3, c4, c5⟩ := cal_s hst h0 hf
  obtain ⟨f1, f2, f3⟩ := (hg rfl).2
  rw [c3] at f1 f2
  rw [c4] at f2
  rw [c5] at f3
  refine ⟨f1, fun z z0 z1 => ?_, fun x x0 x1 => ?_⟩
  · have := f2 z z0 z1
    by_cases g : P 3014 (P 3007 a + b) = 0
    · rw [if_pos g] at this z1
      rw [hs1 z z0 (by omega)]; exact this
    · rw [if_neg g] at this z1
      by_cases gz : z = F.1 i - P 3015 (P 3007 a + b)
      · rw [gz, iu_r] at this
        obtain ⟨w1, w2⟩ := hs2 g
        rw [gz]
        exact w2.tr hs w1 this
      · rw [iu_n gz] at this
        rw [hs1 z z0 (by omega)]; exact this
  · show sbt P (l x) (if x < nl0 then F.2.2 (i + 1) x else 0)
    by_cases g : x < nl0
    · rw [if_pos g, hl x x0 g]; exact f3 x x0 g
    · rw [if_neg g]; exact Or.inr (Or.inl rfl)
theorem ga_put (hW : WFp P) (hW0 : ∀ op a b, 0 ≤ op → op ≤ 14 → W op a b) (h : gaI P m nl n0 W (exF (P 3017 m) F) i X G st) (i0 : 0 ≤ i) (hE : 0 ≤ F.1 i) (hT : TyI P m (P 3017 m) n0 20 a b i F) (hu : P 3007 a + b = u) (u0 : 0 ≤ u) (u1 : u < P 3001 0) (hL : lfT P u Fu) (hWu : ∀ j, 0 ≤ j → j < P 0 u - 1 → W (P 1 (u * 120 + j)) (P 2 (u * 120 + j)) (P 3 (u * 120 + j))) (hr : ∀ j, 0 ≤ j → j < P 0 u → F.1 i - P 3015 u + Fu.1 j ≤ 10) (hl1 : P 3017 m ≤ l0) (hl2 : l0 + P 3017 u ≤ nl) (l00 : 0 ≤ P 3017 m) : gaI P m nl n0 W (exF (P 3017 m) F) (i + 1) (puS P u l0 cp X) (blG P u l0 (P 3017 m) F Fu G i X.n) (i_up st i X.n) := by
  subst hu
  generalize hu : P 3007 a + b = u at *
  obtain ⟨⟨hst, np0, ln1⟩, hTu, hpl, hret, hdue⟩ := id hL
  obtain ⟨-, pst, pr, pp, pl, pc, pi⟩ := hW.2.2.2 u u0 u1
  have hP : 0 ≤ P 3000 0 := by have := hW.1.1; omega
  obtain ⟨⟨t1, t2, t3⟩, tf, -, -⟩ := id hT
  obtain ⟨c1, c2, -, -, -⟩ := cal_s (by rw [hu]; exact hst) (by rw [hu]; exact np0) tf
  rw [hu] at c1 c2
  obtain ⟨k1, k2, k3, k4⟩ := pu_c (l0 := l0) (cp := cp) (X := X) np0 ln1
  generalize hY : puS P u l0 cp X = Y at *
  generalize hnp : P 3015 u = np at *
  generalize hln : P 0 u = ln at *
  -- the states
  have G1 : ∀ q, q < X.n → (blG P u l0 (P 3017 m) F Fu G i X.n).1 q = G.1 q ∧ (blG P u l0 (P 3017 m) F Fu G i X.n).2.1 q = G.2.1 q ∧ (blG P u l0 (P 3017 m) F Fu G i X.n).2.2 q = G.2.2 q := by
    intro q hq
    unfold blG
    simp only [if_pos hq, and_self]
  have G2 : ∀ r, 0 ≤ r → r < np → (blG P u l0 (P 3017 m) F Fu G i X.n).1 (X.n + r) = F.1 i - r ∧ (blG P u l0 (P 3017 m) F Fu G i X.n).2.1 (X.n + r) = F.2.1 i ∧ (blG P u l0 (P 3017 m) F Fu G i X.n).2.2 (X.n + r) = lsS u l0 (P 3017 m) np (F.1 i - np) (F.2.1 i) (F.2.2 i) r := by
    intro r r0 r1
    unfold blG
    simp only [hnp, hln, if_neg (show ¬ X.n + r < X.n by omega), if_pos (show X.n + r < X.n + np by omega), show X.n + r - X.n = r by omega, and_self]
  have G3 : ∀ r, 0 ≤ r → r < ln - 1 → (blG P u l0 (P 3017 m) F Fu G i X.n).1 (X.n + np + r) = F.1 i - np + Fu.1 r ∧ (blG P u l0 (P 3017 m) F Fu G i X.n).2.1 (X.n + np + r) = sbF (F.1 i - np) (F.2.1 i) (Fu.2.1 r) ∧ (blG P u l0 (P 3017 m) F Fu G i X.n).2.2 (X.n + np + r) = lbF l0 (P 3017 m) (P 3017 u) (F.2.2 i) (Fu.2.2 r) := by
    intro r r0 r1
    unfold blG
    simp only [hnp, hln, if_neg (show ¬ X.n + np + r < X.n by omega), if_neg (show ¬ X.n + np + r < X.n + np by omega), if_pos (show X.n + np + r < X.n + np + (ln - 1) by omega), show X.n + np + r - X.n - np = r by omega, and_self]
  have G4 : ∀ q, Y.n ≤ q → (blG P u l0 (P 3017 m) F Fu G i X.n).1 q < 0 := by
    intro q hq
    unfold blG
    simp only [hnp, hln, if_neg (show ¬ q < X.n by omega), if_neg (show ¬ q < X.n + np by omega), if_neg (show ¬ q < X.n + np + (ln - 1) by omega)]
    omega
  generalize blG P u l0 (P 3017 m) F Fu G i X.n = Z at *
  -- after the stores
  have lsE : ∀ x, 0 ≤ x → x < P 3017 m → lsS u l0 (P 3017 m) np (F.1 i - np) (F.2.1 i) (F.2.2 i) np x = F.2.2 i x := by
    intro x _ hx
    unfold lsS
    rw [if_pos hx]
  have aft0 : ¬ ln = 1 → flw P nl Z (X.n + np) (F.1 i - np) (F.2.1 i) (lsS u l0 (P 3017 m) np (F.1 i - np) (F.2.1 i) (F.2.2 i) np) := by
    intro g
    obtain ⟨w1, w2, w3⟩ := G3 0 (by omega) (by omega)
    rw [show X.n + np + 0 = X.n + np by omega] at w1 w2 w3
    refine ⟨by rw [w1, hTu.1]; omega, fun z z0 z1 => ?_, fun x x0 x1 => ?_⟩
    · rw [w2]
      unfold sbF
      rw [if_pos z1]; exact sbt.rf
    · rw [w3]
      unfold lsS lbF
      by_cases g1 : x < P 3017 m
      · rw [if_pos g1, if_pos g1]; exact sbt.rf
      · rw [if_neg g1, if_neg g1]
        by_cases g2 : l0 ≤ x ∧ x < l0 + P 3017 u
        · rw [if_pos g2]
          have ii := hTu.2.1 (x - l0) (by omega) (by omega)
          unfold ini at ii
          have rc : rcv P u = 0 := by unfold rcv; rw [if_neg hst]
          rw [rc, if_neg (by omega), hnp] at ii
          by_cases g3 : x < l0 + np
          · rw [if_pos (by omega : l0 + (np - np) ≤ x ∧ x < l0 + np)]
            rw [if_pos (by omega)] at ii
            rw [show x - l0 - 0 = x - l0 by omega] at ii
            have c := c2 (x - l0) (by omega) (by omega)
            exact (ftt_sbt (pp.2.2 (x - l0) (by omega) (by omega)).1 c).tr hW.1 (t2 _ (by omega) (by omega)).2 ii
          · rw [if_neg (by omega)]
            rw [if_neg (by omega)] at ii
            exact ii
        · rw [if_neg g2, if_neg (by omega)]; exact sbt.rf
  have aft1 : ln = 1 → flw P nl (exF (P 3017 m) F) (i + 1) (F.1 i - np) (F.2.1 i) (lsS u l0 (P 3017 m) np (F.1 i - np) (F.2.1 i) (F.2.2 i) np) := by
    intro g
    have hd : P 3014 u = 0 := by
      rw [g] at hdue
      have := hTu.1
      rw [show (1 : Int) - 1 = 0 by omega, this] at hdue
      by_cases gg : P 3014 u = 0
      · exact gg
      · rw [if_neg gg] at hdue; omega
    have := lf_out (nl := nl) (s := F.2.1 i) (l := lsS u l0 (P 3017 m) np (F.1 i - np) (F.2.1 i) (F.2.2 i) np) hW.1 (by rw [hu]; exact hst) (by rw [hu, hnp]; exact np0) hT (by rw [hu]; omega) (fun _ _ _ => rfl) (fun g' => absurd (by rw [hu]; exact hd) g') lsE
    rw [hu, hnp, if_pos hd] at this
    rw [show F.1 i - np + 0 = F.1 i - np by omega] at this
    exact this
  have lsT : ∀ r, r ≤ np → tys P nl (lsS u l0 (P 3017 m) np (F.1 i - np) (F.2.1 i) (F.2.2 i) r) := by
    intro r rn x x0 x1
    unfold lsS
    by_cases g1 : x < P 3017 m
    · rw [if_pos g1]; exact t3 x x0 g1
    · rw [if_neg g1]
      by_cases g2 : l0 + (np - r) ≤ x ∧ x < l0 + np
      · rw [if_pos g2]
        exact (t2 _ (by omega) (by omega)).2
      · rw [if_neg g2]; exact ⟨by omega, by omega⟩
  have lsN : ∀ r, 0 ≤ r → r < np → i_up (lsS u l0 (P 3017 m) np (F.1 i - np) (F.2.1 i) (F.2.2 i) r) (l0 + (np - 1 - r)) (F.2.1 i (F.1 i - r - 1)) = lsS u l0 (P 3017 m) np (F.1 i - np) (F.2.1 i) (F.2.2 i) (r + 1) := by
    intro r r0 r1
    funext x
    by_cases gx : x = l0 + (np - 1 - r)
    · rw [gx, iu_r]
      unfold lsS
      rw [if_neg (by omega), if_pos (by omega), show F.1 i - np + (l0 + (np - 1 - r) - l0) = F.1 i - r - 1 by omega]
    · rw [iu_n gx]
      unfold lsS
      by_cases g1 : x < P 3017 m
      · rw [if_pos g1, if_pos g1]
      · rw [if_neg g1, if_neg g1]
        by_cases g2 : l0 + (np - r) ≤ x ∧ x < l0 + np
        · rw [if_pos g2, if_pos (by omega)]
        · rw [if_neg g2, if_neg (by omega)]
  have lbT : ∀ lu : Int → Int, tys P (P 3017 u) lu → tys P nl (lbF l0 (P 3017 m) (P 3017 u) (F.2.2 i) lu) := by
    intro lu hlu x x0 x1
    unfold lbF
    by_cases g1 : x < P 3017 m
    · rw [if_pos g1]; exact t3 x x0 g1
    · rw [if_neg g1]
      by_cases g2 : l0 ≤ x ∧ x < l0 + P 3017 u
      · rw [if_pos g2]; exact hlu _ (by omega) (by omega)
      · rw [if_neg g2]; exact ⟨by omega, by omega⟩
  -- a store
  have sto : ∀ r, 0 ≤ r → r < np → plc P m nl W Y Z (X.n + r) ∧ (if X.n + r + 1 = Y.n then eflw P m nl Y Z (X.n + r) (exF (P 3017 m) F) (i + 1) else eflw P m nl Y Z (X.n + r) Z (X.n + r + 1)) := by
    intro r r0 r1
    obtain ⟨w1, w2, w3⟩ := G2 r r0 r1
    obtain ⟨y1, y2, y3, -, -⟩ := k3 r r0 r1
    obtain ⟨x1, x2, x3⟩ := ex_3 (P := P) (m := m) (a := l0 + (np - 1 - r)) (b := 0) (n := F.1 i - r) (s := F.2.1 i) (l := lsS u l0 (P 3017 m) np (F.1 i - np) (F.2.1 i) (F.2.2 i) r)
    rw [lsN r r0 r1] at x3
    unfold plc eflw exk
    rw [y1, y2, y3, w1, w2, w3, x1, x2, x3]
    have stkr : ∀ n', n' ≤ F.1 i → stk P n' (F.2.1 i) := fun n' hn z z0 z1 => t2 z z0 (by omega)
    refine ⟨⟨⟨by omega, stkr _ (by omega), lsT r (by omega)⟩, ?_, ⟨stkr _ (by omega), lsT (r + 1) (by omega)⟩, hW0 _ _ _ (by omega) (by omega)⟩, ?_⟩
    · unfold exf
      rw [wl3]
      have : af P (F.2.1 i) [-1] (F.1 i - r - (([-1] : List Int).length : Int)) ([-1] : List Int).length = true := by
        simp [af, ftt]
      rw [this, if_neg (by simp only [List.length_cons, List.length_nil]; omega), if_neg (by decide), if_neg (by omega), if_neg]
      show ¬ 10 < F.1 i - r - 1 + (0 : Int)
      omega
    · by_cases g : r + 1 = np
      · rw [show F.1 i - r - 1 = F.1 i - np by omega, g]
        by_cases g2 : ln = 1
        · rw [if_pos (by omega)]
          exact aft1 g2
        · rw [if_neg (by omega), show X.n + r + 1 = X.n + np by omega]
          exact aft0 g2
      · rw [if_neg (by omega)]
        obtain ⟨v1, v2, v3⟩ := G2 (r + 1) (by omega) (by omega)
        rw [show X.n + r + 1 = X.n + (r + 1) by omega]
        unfold flw
        rw [v1, v2, v3]
        exact ⟨by omega, sle.rf, sle.rf⟩
  -- the body
  have bod : ∀ r, 0 ≤ r → r < ln - 1 → plc P m nl W Y Z (X.n + np + r) ∧ (if X.n + np + r + 1 = Y.n then eflw P m nl Y Z (X.n + np + r) (exF (P 3017 m) F) (i + 1) else eflw P m nl Y Z (X.n + np + r) Z (X.n + np + r + 1)) := by
    intro r r0 r1
    obtain ⟨w1, w2, w3⟩ := G3 r r0 r1
    obtain ⟨y1, y2, y3, -, -⟩ := k4 r r0 r1
    obtain ⟨f0, fT⟩ := lf_ty hL r0 (by rw [hln]; omega)
    obtain ⟨fm, fp⟩ := lf_ty (j := r + 1) hL (by omega) (by rw [hln]; omega)
    obtain ⟨⟨f1, f2, f3⟩, ff, fg, -⟩ := fT
    have pl := hpl r r0 r1
    have gn := (pln_f pl).1
    have n22 := (pln_f pl).2.2
    have ik := pi r r0 (by omega)
    have fl := (fg gn).2
    have ws := hWu r r0 r1
    generalize P 1 (u * 120 + r) = op at *
    generalize P 2 (u * 120 + r) = aa at *
    generalize P 3 (u * 120 + r) = bb at *
    have kst := exs_stk hW ik rfl ff f2 f3
    have klo := exl_o (nl := P 3017 u) (exf0 ff).1 f2.ty f3
    obtain ⟨e1, e2, e3⟩ := fl
    have hh := hr (r + 1) (by omega) (by omega)
    rw [e1] at hh
    have hB : ∀ z, 0 ≤ z → z < Fu.1 r → sbF (F.1 i - np) (F.2.1 i) (Fu.2.1 r) (F.1 i - np + z) = Fu.2.1 r z := by
      intro z z0 z1
      unfold sbF
      rw [if_neg (by omega), show F.1 i - np + z - (F.1 i - np) = z by omega]
    obtain ⟨s1, s2, s3, s4, s5⟩ := ex_sh (P := P) (m := m) (mu := u) (op := op) (a := aa) (a' := aa + (if op = 2 ∨ op = 3 then l0 else 0)) (b := bb) (B := F.1 i - np) (s' := sbF (F.1 i - np) (F.2.1 i) (Fu.2.1 r)) (l' := lbF l0 (P 3017 m) (P 3017 u) (F.2.2 i) (Fu.2.2 r)) hB (by omega) (fun e => absurd e n22) (fun e => by rw [if_neg e]; omega) (fun e => by
      have := ik.2.2.1 (Or.inl e)
      rw [if_pos (Or.inl e)]
      unfold lbF
      rw [if_neg (by omega), if_pos (by omega), show aa + l0 - l0 = aa by omega]) ff hh
    have s6 : exl P m op (aa + (if op = 2 ∨ op = 3 then l0 else 0)) bb (F.1 i - np + Fu.1 r) (sbF (F.1 i - np) (F.2.1 i) (Fu.2.1 r)) (lbF l0 (P 3017 m) (P 3017 u) (F.2.2 i) (Fu.2.2 r)) = lbF l0 (P 3017 m) (P 3017 u) (F.2.2 i) (exl P u op aa bb (Fu.1 r) (Fu.2.1 r) (Fu.2.2 r)) := by
      rw [s5]
      by_cases g3 : op = 3
      · have ia := ik.2.2.1 (Or.inr g3)
        subst g3
        rw [if_pos rfl, if_pos (Or.inr rfl), ex_3.2.2]
        funext x
        by_cases gx : x = aa + l0
        · rw [gx, iu_r]
          unfold lbF
          rw [if_neg (by omega), if_pos (by omega), show aa + l0 - l0 = aa by omega, iu_r]
        · rw [iu_n gx]
          unfold lbF
          by_cases g1 : x < P 3017 m
          · rw [if_pos g1, if_pos g1]
          · rw [if_neg g1, if_neg g1]
            by_cases g2 : l0 ≤ x ∧ x < l0 + P 3017 u
            · rw [if_pos g2, if_pos g2, iu_n (by omega)]
            · rw [if_neg g2, if_neg g2]
      · rw [if_neg g3]
        unfold exl
        rw [if_neg g3]
    have kst' : stk P (F.1 i - np + exn P u op aa bb (Fu.1 r) (Fu.2.1 r) (Fu.2.2 r)) (exs P m op (aa + (if op = 2 ∨ op = 3 then l0 else 0)) bb (F.1 i - np + Fu.1 r) (sbF (F.1 i - np) (F.2.1 i) (Fu.2.1 r)) (lbF l0 (P 3017 m) (P 3017 u) (F.2.2 i) (Fu.2.2 r))) := by
      intro z z0 z1
      by_cases gz : z < F.1 i - np
      · rw [s3 z gz]
        unfold sbF
        rw [if_pos gz]
        exact t2 z z0 (by omega)
      · have := s4 (z - (F.1 i - np)) (by omega) (by omega)
        rw [show F.1 i - np + (z - (F.1 i - np)) = z by omega] at this
        rw [this]
        exact kst _ (by omega) (by omega)
    have ow : W op (aa + (if op = 2 ∨ op = 3 then l0 else 0)) bb := by
      by_cases g : op = 2 ∨ op = 3
      · exact hW0 _ _ _ (by omega) (by omega)
      · rw [if_neg g, show aa + 0 = aa by omega]; exact ws
    unfold plc eflw exk
    rw [y1, y2, y3, w1, w2, w3, s2, s6]
    refine ⟨⟨⟨hr r r0 (by omega), ?_, lbT _ f3⟩, s1, ⟨kst', lbT _ klo⟩, ow⟩, ?_⟩
    · intro z z0 z1
      unfold sbF
      by_cases gz : z < F.1 i - np
      · rw [if_pos gz]; exact t2 z z0 (by omega)
      · rw [if_neg gz]; exact f2 _ (by omega) (by omega)
    · by_cases g : r + 1 = ln - 1
      · rw [if_pos (by omega)]
        have := lf_out (nl := nl) (s := exs P m op (aa + (if op = 2 ∨ op = 3 then l0 else 0)) bb (F.1 i - np + Fu.1 r) (sbF (F.1 i - np) (F.2.1 i) (Fu.2.1 r)) (lbF l0 (P 3017 m) (P 3017 u) (F.2.2 i) (Fu.2.2 r))) (l := lbF l0 (P 3017 m) (P 3017 u) (F.2.2 i) (exl P u op aa bb (Fu.1 r) (Fu.2.1 r) (Fu.2.2 r))) hW.1 (by rw [hu]; exact hst) (by rw [hu, hnp]; exact np0) hT (by rw [hu]; omega) (fun z z0 z1 => by
          rw [hu, hnp] at z1
          rw [s3 z z1]
          unfold sbF
          rw [if_pos z1]) (fun gr => by
          rw [hu] at gr ⊢
          rw [hnp]
          rw [if_neg gr] at hdue
          rw [g] at e1 e2 fp
          have e1' := e1.symm.trans hdue
          have s4' := s4 0 (by omega) (by omega)
          rw [show F.1 i - np + 0 = F.1 i - np by omega] at s4'
          have ky := kst 0 (by omega) (by omega)
          rw [s4']
          refine ⟨ky.2, ?_⟩
          have e2' := e2 0 (by omega) (by omega)
          refine e2'.tr hW.1 ky.2 ?_
          obtain ⟨-, pf, -, -⟩ := fp
          rw [hret] at pf
          obtain ⟨-, pa, -, -⟩ := exf0 pf
          have ew : ∀ a b, wl P u 22 a b = [tyof (P 3014 u - 1)] := by
            intro a b
            simp [wl, gr]
          rw [ew, hdue] at pa
          exact ftt_sbt (by omega) (af_1 pa)) (fun x x0 x1 => by unfold lbF; rw [if_pos x1])
        rw [hu, hnp] at this
        rw [g, hdue] at e1
        rw [← e1]; exact this
      · rw [if_neg (by omega)]
        obtain ⟨v1, v2, v3⟩ := G3 (r + 1) (by omega) (by omega)
        rw [show X.n + np + r + 1 = X.n + np + (r + 1) by omega]
        refine ⟨by rw [v1, e1], fun z z0 z1 => ?_, fun x x0 x1 => ?_⟩
        · rw [v2]
          have sp : ∀ f : Int → Int, sbF (F.1 i - np) (F.2.1 i) f z = if z < F.1 i - np then F.2.1 i z else f (z - (F.1 i - np)) := fun _ => rfl
          rw [sp]
          by_cases gz : z < F.1 i - np
          · rw [if_pos gz, s3 z gz, sp, if_pos gz]; exact sbt.rf
          · rw [if_neg gz]
            have := s4 (z - (F.1 i - np)) (by omega) (by omega)
            rw [show F.1 i - np + (z - (F.1 i - np)) = z by omega] at this
            rw [this]
            exact e2 _ (by omega) (by omega)
        · rw [v3]
          unfold lbF
          by_cases g1 : x < P 3017 m
          · rw [if_pos g1, if_pos g1]; exact sbt.rf
          · rw [if_neg g1, if_neg g1]
            by_cases g2 : l0 ≤ x ∧ x < l0 + P 3017 u
            · rw [if_pos g2, if_pos g2]; exact e3 _ (by omega) (by omega)
            · rw [if_neg g2, if_neg g2]; exact sbt.rf
  have spl : ∀ q, X.n ≤ q → q < Y.n → (∃ r, 0 ≤ r ∧ r < np ∧ q = X.n + r) ∨ ∃ r, 0 ≤ r ∧ r < ln - 1 ∧ q = X.n + np + r := by
    intro q q0 q1
    by_cases g : q < X.n + np
    · exact Or.inl ⟨q - X.n, by omega, by omega, by omega⟩
    · exact Or.inr ⟨q - X.n - np, by omega, by omega, by omega⟩
  refine h.blk i0 (by omega) (fun q hq => ?_) G4 (fun q q0 q1 => ?_) (fun q q0 q1 q2 => ?_) (fun hE' => ⟨fun g => ?_, fun g => ?_⟩)
  · obtain ⟨a1, a2, a3, -, -⟩ := k2 q hq
    obtain ⟨b1, b2, b3⟩ := G1 q hq
    exact ⟨a1, a2, a3, b1, b2, b3⟩
  · rcases spl q q0 q1 with ⟨r, r0, r1, rfl⟩ | ⟨r, r0, r1, rfl⟩
    · obtain ⟨y1, y2, y3, -, -⟩ := k3 r r0 r1
      rw [y1, y2]
      exact ⟨by omega, fun _ => by omega, fun g => absurd g (by decide)⟩
    · obtain ⟨y1, y2, y3, -, -⟩ := k4 r r0 r1
      have ik := pi r r0 (by omega)
      have pl := hpl r r0 r1
      rw [y1, y2]
      refine ⟨⟨ik.1, ik.2.1⟩, fun g => ?_, fun g => ?_⟩
      · have := ik.2.2.1 g
        rw [if_pos g]; omega
      · rw [(pln_f pl).2.1] at g; cases g
  · rcases spl q q0 q1 with ⟨r, r0, r1, rfl⟩ | ⟨r, r0, r1, rfl⟩
    · obtain ⟨z1, z2⟩ := sto r r0 r1
      refine ⟨z1, fun _ => z2, fun g => ?_⟩
      rw [(k3 r r0 r1).1] at g
      exact absurd g (by decide)
    · obtain ⟨z1, z2⟩ := bod r r0 r1
      refine ⟨z1, fun _ => z2, fun g => ?_⟩
      rw [(k4 r r0 r1).1, (pln_f (hpl r r0 r1)).2.1] at g
      cases g
  · have ls0 : lsS u l0 (P 3017 m) np (F.1 i - np) (F.2.1 i) (F.2.2 i) 0 = (exF (P 3017 m) F).2.2 i := by
      funext x
      show _ = if x < P 3017 m then F.2.2 i x else 0
      unfold lsS
      by_cases g1 : x < P 3017 m
      · rw [if_pos g1, if_pos g1]
      · rw [if_neg g1, if_neg g1, if_neg (by omega)]
    show flw P nl Z X.n (F.1 i) (F.2.1 i) ((exF (P 3017 m) F).2.2 i)
    by_cases gn : np = 0
    · have := aft0 (by omega)
      rw [gn] at this
      rw [show X.n + 0 = X.n by omega, show F.1 i - 0 = F.1 i by omega] at this
      rw [← ls0, gn, show F.1 i - 0 = F.1 i by omega]; exact this
    · obtain ⟨v1, v2, v3⟩ := G2 0 (by omega) (by omega)
      rw [show X.n + 0 = X.n by omega] at v1 v2 v3
      unfold flw
      rw [v1, v2, v3, ls0]
      exact ⟨by omega, sle.rf, sle.rf⟩
  · have ls0 : lsS u l0 (P 3017 m) np (F.1 i - np) (F.2.1 i) (F.2.2 i) 0 = (exF (P 3017 m) F).2.2 i := by
      funext x
      show _ = if x < P 3017 m then F.2.2 i x else 0
      unfold lsS
      by_cases g1 : x < P 3017 m
      · rw [if_pos g1, if_pos g1]
      · rw [if_neg g1, if_neg g1, if_neg (by omega)]
    have gn : np = 0 := by omega
    show flw P nl (exF (P 3017 m) F) (i + 1) (F.1 i) (F.2.1 i) ((exF (P 3017 m) F).2.2 i)
    have := aft1 (by omega)
    rw [gn] at this
    rw [show F.1 i - 0 = F.1 i by omega] at this
    rw [← ls0, gn, show F.1 i - 0 = F.1 i by omega]; exact this
end LEAF2
