/-! the small program's types: a class that goes stands for the nearest above it that stays -/
noncomputable def knr (P : Pg) (r : Rs) (XX : Int → Sx) : Nat → Int → Int
  | 0, _ => -1
  | n + 1, c => if c < 0 then -1 else bif dB (kC P r XX c) then c else knr P r XX n (P 3003 c)
noncomputable def rho (P : Pg) (r : Rs) (XX : Int → Sx) (t : Int) : Int := if t < 4 then t else if knr P r XX 10 (t - 4) < 0 then 3 else 4 + nC P r XX (knr P r XX 10 (t - 4))
/-- what is wanted of a type -/
def wok (P : Pg) (r : Rs) (XX : Int → Sx) (w : Int) : Prop := w = -1 ∨ w = -2 ∨ w = 1 ∨ (4 ≤ w ∧ w < 4 + P 3000 0 ∧ kC P r XX (w - 4))
section TYPES
variable {P A : Pg} {r : Rs} {XX : Int → Sx} {NL : Int → Int} {x c c' d m m' i f k v z t u w y op a b q nl : Int} {s l : Int → Int} {F : Fl}
theorem kC_up (hg : good P) {d : Int} : ∀ c, 0 ≤ c → c < P 3000 0 → kC P r XX c → cv P d c = true → kC P r XX d := by
  refine cv_ind hg.1.1 (fun c c0 c1 ih hc h => ?_)
  by_cases g : c = d
  · rw [← g]; exact hc
  · obtain ⟨a1, a2⟩ := cv_up hg.1.1 c0 c1 h g
    exact ih a1 (kC_cl.2.2.2.2 c c0 c1 hc a1) a2
theorem knr_s (hg : good P) : ∀ (n : Nat) (c : Int), c < n → 0 ≤ c → c < P 3000 0 → (knr P r XX n c = -1 ∧ ∀ d, cv P d c = true → ¬ kC P r XX d) ∨ (0 ≤ knr P r XX n c ∧ knr P r XX n c < P 3000 0 ∧ kC P r XX (knr P r XX n c) ∧ cv P (knr P r XX n c) c = true ∧ ∀ d, kC P r XX d → cv P d c = true → cv P d (knr P r XX n c) = true)
  | 0, c, h, h0, _ => by push_cast at h; omega
  | n + 1, c, h, h0, h1 => by
    unfold knr
    rw [if_neg (by omega)]
    by_cases g : kC P r XX c
    · rw [dB_t.2 g]
      exact Or.inr ⟨h0, h1, g, cv_r hg.1.1 h0 h1, fun d _ q => q⟩
    · rw [dB_f.2 g]
      simp only [cond_false]
      have hsu := hg.1.1.2.2 c h0 h1
      have up : ∀ d, kC P r XX d → cv P d c = true → 0 ≤ P 3003 c ∧ cv P d (P 3003 c) = true := fun d hd q => cv_up hg.1.1 h0 h1 q (fun e => g (e ▸ hd))
      by_cases g3 : P 3003 c < 0
      · left
        refine ⟨?_, fun d q hd => ?_⟩
        · cases n with
          | zero => rfl
          | succ n => unfold knr; rw [if_pos g3]
        · have := (up d hd q).1; omega
      · rcases knr_s hg n (P 3003 c) (by push_cast at h; omega) (by omega) (by omega) with ⟨a1, a2⟩ | ⟨a1, a2, a3, a4, a5⟩
        · exact Or.inl ⟨a1, fun d q hd => a2 d (up d hd q).2 hd⟩
        · exact Or.inr ⟨a1, a2, a3, by rw [cv_s hg.1.1 h0 h1, a4]; simp, fun d hd q => a5 d hd (up d hd q).2⟩
theorem cv_an (hg : good P) (c0 : 0 ≤ c) (c1 : c < P 3000 0) (d0 : 0 ≤ d) (d1 : d < P 3000 0) (h : cv P c d = true) (h' : cv P d c = true) : c = d := by
  have a := cv_le hg.1.1 d d0 d1 h
  have b := cv_le hg.1.1 c c0 c1 h'
  omega
theorem knr_k (hg : good P) (c0 : 0 ≤ c) (c1 : c < P 3000 0) (hc : kC P r XX c) : knr P r XX 10 c = c := by
  have e : knr P r XX 10 c = if c < 0 then -1 else bif dB (kC P r XX c) then c else knr P r XX 9 (P 3003 c) := rfl
  rw [e, if_neg (by omega), dB_t.2 hc]; rfl
theorem rho_lo (h : t < 4) : rho P r XX t = t := by unfold rho; rw [if_pos h]
theorem rho_k (hg : good P) (c0 : 0 ≤ c) (c1 : c < P 3000 0) (hc : kC P r XX c) : rho P r XX (4 + c) = 4 + nC P r XX c := by
  unfold rho
  rw [if_neg (by omega), show 4 + c - 4 = c by omega, knr_k hg c0 c1 hc, if_neg (by omega)]
theorem SPg.rt (h : SPg P r XX NL A) (hg : good P) (ht : tyo P t) : tyo A (rho P r XX t) ∧ (4 ≤ t → 3 ≤ rho P r XX t) := by
  have hc10 := hg.1.1.2.1
  have hA := nB_p (q := kC P r XX) (x := P 3000 0)
  unfold tyo at ht ⊢
  by_cases g : t < 4
  · rw [rho_lo g, h.1.1]; exact ⟨by omega, fun q => by omega⟩
  · unfold rho
    rw [if_neg g, h.1.1]
    rcases knr_s (r := r) (XX := XX) hg 10 (t - 4) (by push_cast; omega) (by omega) (by omega) with ⟨a1, a2⟩ | ⟨a1, a2, a3, a4, a5⟩
    · rw [a1, if_pos (by omega)]; exact ⟨by omega, fun _ => by omega⟩
    · have nb := nC_b hg a1 a2 a3
      rw [if_neg (by omega)]; exact ⟨by omega, fun _ => by omega⟩
theorem SPg.rs (h : SPg P r XX NL A) (hg : good P) (hA : WFs A) (ht : tyo P t) (hu : sbt P t u) : sbt A (rho P r XX t) (rho P r XX u) := by
  have hc10 := hg.1.1.2.1
  unfold tyo at ht
  rcases hu with rfl | rfl | ⟨rfl, hu⟩ | ⟨rfl, hu⟩ | ⟨h4, hu4, hcv⟩
  · exact sbt.rf
  · rw [rho_lo (t := 0) (by omega)]; exact Or.inr (Or.inl rfl)
  · rw [rho_lo (t := 2) (by omega)]
    refine Or.inr (Or.inr (Or.inl ⟨rfl, ?_⟩))
    unfold rho
    by_cases g : u < 4
    · rw [if_pos g]; exact hu
    · rw [if_neg g]
      by_cases g2 : knr P r XX 10 (u - 4) < 0
      · rw [if_pos g2]; omega
      · rw [if_neg g2]
        have : -1 ≤ nC P r XX (knr P r XX 10 (u - 4)) := by
          by_cases k : kC P r XX (knr P r XX 10 (u - 4))
          · rw [show nC P r XX (knr P r XX 10 (u - 4)) = nB (kC P r XX) (knr P r XX 10 (u - 4)) from nw_k k]
            have := nB_p (q := kC P r XX) (x := knr P r XX 10 (u - 4)); omega
          · rw [show nC P r XX (knr P r XX 10 (u - 4)) = -1 from nw_n k]; omega
        omega
  · rw [rho_lo (t := 3) (by omega)]
    refine Or.inr (Or.inr (Or.inr (Or.inl ⟨rfl, ?_⟩)))
    by_cases g : t < 4
    · rw [rho_lo g]; exact hu
    · have := (h.rt hg ht).2 (by omega); omega
  · have cl := cv_le hg.1.1 (t - 4) (by omega) (by omega) hcv
    rcases knr_s (r := r) (XX := XX) hg 10 (t - 4) (by push_cast; omega) (by omega) (by omega) with ⟨a1, a2⟩ | ⟨a1, a2, a3, a4, a5⟩
    · rcases knr_s (r := r) (XX := XX) hg 10 (u - 4) (by push_cast; omega) (by omega) (by omega) with ⟨b1, b2⟩ | ⟨b1, b2, b3, b4, b5⟩
      · have e1 : rho P r XX t = 3 := by unfold rho; rw [if_neg (by omega), a1, if_pos (by omega)]
        have e2 : rho P r XX u = 3 := by unfold rho; rw [if_neg (by omega), b1, if_pos (by omega)]
        rw [e1, e2]
        exact sbt.rf
      · exact absurd b3 (a2 _ (cv_t hg.1.1 _ (by omega) (by omega) hcv b4))
    · have et : rho P r XX t = 4 + nC P r XX (knr P r XX 10 (t - 4)) := by unfold rho; rw [if_neg (by omega), if_neg (by omega)]
      rcases cv_l hg.1.1 (t - 4) (by omega) (by omega) a4 hcv with g | g
      · -- u's class is above the one that stays
        have ku := kC_up hg _ a1 a2 a3 g
        have eu : rho P r XX u = 4 + nC P r XX (u - 4) := by
          have := rho_k hg (c := u - 4) (by omega) (by omega) ku
          rw [show 4 + (u - 4) = u by omega] at this
          exact this
        have n1 := nC_b hg a1 a2 a3
        have n2 := nC_b hg (c := u - 4) (by omega) (by omega) ku
        rw [et, eu]
        refine Or.inr (Or.inr (Or.inr (Or.inr ⟨by omega, by omega, ?_⟩)))
        rw [show 4 + nC P r XX (u - 4) - 4 = nC P r XX (u - 4) by omega, show 4 + nC P r XX (knr P r XX 10 (t - 4)) - 4 = nC P r XX (knr P r XX 10 (t - 4)) by omega, h.cvr hg hA (by omega) ku _ a1 a2 a3]
        exact g
      · rcases knr_s (r := r) (XX := XX) hg 10 (u - 4) (by push_cast; omega) (by omega) (by omega) with ⟨b1, b2⟩ | ⟨b1, b2, b3, b4, b5⟩
        · exact absurd a3 (b2 _ g)
        · have e := cv_an hg a1 a2 b1 b2 (b5 _ a3 g) (a5 _ b3 (cv_t hg.1.1 _ (by omega) (by omega) hcv b4))
          have eu : rho P r XX u = 4 + nC P r XX (knr P r XX 10 (u - 4)) := by unfold rho; rw [if_neg (by omega), if_neg (by omega)]
          rw [et, eu, e]; exact sbt.rf
theorem SPg.rf (h : SPg P r XX NL A) (hg : good P) (hA : WFs A) (ht : tyo P x) (hw : wok P r XX w) (hf : ftt P x w = true) : ftt A (rho P r XX x) (rho P r XX w) = true := by
  have hc10 := hg.1.1.2.1
  unfold tyo at ht
  have r4 := (h.rt hg ht).2
  rcases hw with rfl | rfl | rfl | ⟨w4, w5, kw⟩
  · rw [rho_lo (t := -1) (by omega)]; unfold ftt; rw [if_pos rfl]
  · rw [rho_lo (t := -2) (by omega)]
    unfold ftt at hf ⊢
    rw [if_neg (by omega), if_pos rfl] at hf ⊢
    have : ¬ x = 1 := by simpa using hf
    have : ¬ rho P r XX x = 1 := by
      by_cases g : x < 4
      · rw [rho_lo g]; exact this
      · have := r4 (by omega); omega
    simpa using this
  · rw [rho_lo (t := 1) (by omega)]
    unfold ftt at hf ⊢
    rw [if_neg (by omega), if_neg (by omega), if_pos rfl] at hf ⊢
    have : x = 1 := by simpa using hf
    rw [this, rho_lo (by omega)]; rfl
  · have ew : rho P r XX w = 4 + nC P r XX (w - 4) := by
      have := rho_k hg (c := w - 4) (by omega) (by omega) kw
      rw [show 4 + (w - 4) = w by omega] at this
      exact this
    have nb := nC_b hg (c := w - 4) (by omega) (by omega) kw
    unfold ftt at hf ⊢
    rw [if_neg (by omega), if_neg (by omega), if_neg (by omega)] at hf
    rw [ew, if_neg (by omega), if_neg (by omega), if_neg (by omega)]
    rw [Bool.or_eq_true, Bool.and_eq_true, decide_eq_true_eq, decide_eq_true_eq] at hf
    rw [Bool.or_eq_true, Bool.and_eq_true, decide_eq_true_eq, decide_eq_true_eq]
    rcases hf with rfl | ⟨x4, hc⟩
    · left; exact rho_lo (by omega)
    · right
      have hc' : cv P (w - 4) (x - 4) = true := hc
      rcases knr_s (r := r) (XX := XX) hg 10 (x - 4) (by push_cast; omega) (by omega) (by omega) with ⟨a1, a2⟩ | ⟨a1, a2, a3, a4, a5⟩
      · exact absurd kw (a2 _ hc')
      · have n1 := nC_b hg a1 a2 a3
        have ex : rho P r XX x = 4 + nC P r XX (knr P r XX 10 (x - 4)) := by unfold rho; rw [if_neg (by omega), if_neg (by omega)]
        rw [ex]
        refine ⟨by omega, ?_⟩
        rw [show 4 + nC P r XX (w - 4) - 4 = nC P r XX (w - 4) by omega, show 4 + nC P r XX (knr P r XX 10 (x - 4)) - 4 = nC P r XX (knr P r XX 10 (x - 4)) by omega]
        have := h.cvr hg hA (c := w - 4) (by omega) kw _ a1 a2 a3
        rw [a5 _ kw hc'] at this
        exact this
/-- types of fields, of what is taken and given back -/
theorem tyof_t (hg : good P) (w0 : 0 ≤ w) (w1 : w ≤ P 3000 0) (hk : 0 < w → kC P r XX (w - 1)) : tyof (tN P r XX w) = rho P r XX (tyof w) ∧ wok P r XX (tyof w) := by
  unfold tyof tN wok
  by_cases g : w = 0
  · rw [g, if_pos rfl, if_pos (by omega), rho_lo (by omega)]
    exact ⟨rfl, Or.inr (Or.inr (Or.inl rfl))⟩
  · have kk := hk (by omega)
    have nb := nC_b hg (c := w - 1) (by omega) (by omega) kk
    have e := rho_k hg (c := w - 1) (by omega) (by omega) kk
    rw [show 4 + (w - 1) = w + 3 by omega] at e
    rw [if_neg g, if_neg (by omega), if_neg (by omega), e]
    refine ⟨by omega, Or.inr (Or.inr (Or.inr ⟨by omega, by omega, ?_⟩))⟩
    rw [show w + 3 - 4 = w - 1 by omega]; exact kk
theorem SPg.pr (h : SPg P r XX NL A) (hg : good P) (m0 : 0 ≤ m) (m1 : m < P 3001 0) (hm : kM P r XX m) {n : Nat} (hn : (n : Int) ≤ P 3015 m) : prl A (nM P r XX m) n = (prl P m n).map (rho P r XX) ∧ ∀ x ∈ prl P m n, wok P r XX x := by
  have p4 := (hg.1.2.2.2 m m0 m1).2.2.2.1
  have kf := (kC_cl.2.2.2.1 m m0 m1 hm).2.2
  have a5 := (h.2.2 m m0 m1 hm).1.2.1
  have e : ∀ k : Nat, k < n → tyof (A 3016 (nM P r XX m * 3 + (k : Int))) = rho P r XX (tyof (P 3016 (m * 3 + (k : Int)))) ∧ wok P r XX (tyof (P 3016 (m * 3 + (k : Int)))) := by
    intro k hk
    have tp := p4.2.2 k (by omega) (by omega)
    rw [a5 k (by omega) (by omega)]
    exact tyof_t hg tp.1 tp.2 (kf k (by omega) (by omega))
  unfold prl
  refine ⟨?_, fun x hx => ?_⟩
  · rw [List.map_map]
    refine List.map_congr_left (fun k hk => ?_)
    exact (e k (List.mem_range.1 hk)).1
  · obtain ⟨k, hk, rfl⟩ := List.mem_map.1 hx
    exact (e k (List.mem_range.1 hk)).2
theorem SPg.rt14 (h : SPg P r XX NL A) (hg : good P) (m0 : 0 ≤ m) (m1 : m < P 3001 0) (hm : kM P r XX m) : (A 3014 (nM P r XX m) = 0 ↔ P 3014 m = 0) ∧ (¬ P 3014 m = 0 → tyof (A 3014 (nM P r XX m) - 1) = rho P r XX (tyof (P 3014 m - 1)) ∧ wok P r XX (tyof (P 3014 m - 1))) := by
  have p3 := (hg.1.2.2.2 m m0 m1).2.2.1
  have kf := (kC_cl.2.2.2.1 m m0 m1 hm).2.1
  have a3 := (h.2.2 m m0 m1 hm).1.1.2.2.1
  rw [a3]
  by_cases g : P 3014 m = 0
  · have e : tN P r XX (P 3014 m - 1) = -1 := by unfold tN; rw [if_pos (by omega)]; omega
    rw [e]
    exact ⟨⟨fun _ => g, fun _ => by omega⟩, fun q => absurd g q⟩
  · have hk : 0 < P 3014 m - 1 → kC P r XX (P 3014 m - 1 - 1) := fun q => by
      rw [show P 3014 m - 1 - 1 = P 3014 m - 2 by omega]; exact kf (by omega)
    have tb := tN_b (r := r) (XX := XX) hg (w := P 3014 m - 1) (by omega) (by omega) hk
    refine ⟨⟨fun q => by omega, fun q => absurd q g⟩, fun _ => ?_⟩
    rw [show tN P r XX (P 3014 m - 1) + 1 - 1 = tN P r XX (P 3014 m - 1) by omega]
    exact tyof_t hg (by omega) (by omega) hk
end TYPES
