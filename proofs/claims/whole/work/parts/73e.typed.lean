/-! the small program is typed -/
/-- what an instruction tells is kept -/
def itk (P : Pg) (r : Rs) (XX : Int → Sx) (op a b : Int) : Prop := (op = 15 ∨ op = 24 ∨ op = 25 ∨ (16 ≤ op ∧ op ≤ 21) → 0 ≤ a ∧ a < P 3000 0 ∧ kC P r XX a) ∧ (16 ≤ op ∧ op ≤ 19 → 0 ≤ b ∧ b < P 3005 a ∧ kFc P r XX a b) ∧ (op = 20 ∨ op = 21 → 0 ≤ b ∧ b < P 3006 a ∧ kM P r XX (P 3007 a + b))
section TYPED
variable {P A : Pg} {r : Rs} {XX : Int → Sx} {NL : Int → Int} {x c c' d m m' i f k v z t u w y op a b q nl n la la' : Int} {s l : Int → Int} {F : Fl}
theorem SPg.a9 (h : SPg P r XX NL A) (hg : good P) (hi : itk P r XX op a b) (ho : 16 ≤ op ∧ op ≤ 19) : tyof (A 3009 (cA P r XX op a * 6 + cBf P r XX op a b)) = rho P r XX (tyof (P 3009 (a * 6 + b))) ∧ wok P r XX (tyof (P 3009 (a * 6 + b))) := by
  obtain ⟨a0, a1, a2⟩ := hi.1 (by omega)
  obtain ⟨b0, b1, b2⟩ := hi.2.1 ho
  have ea : cA P r XX op a = nC P r XX a := by unfold cA; rw [if_pos (by omega)]
  have eb : cBf P r XX op a b = nF P r XX a b := by unfold cBf; rw [if_pos ho]
  obtain ⟨-, v2, -⟩ := (h.2.1 a a0 a1 a2).2 b b0 b1 b2
  have tp := (hg.1.2.2.1 a a0 a1).2.2 b b0 b1
  rw [ea, eb, v2]
  exact tyof_t hg tp.1 tp.2.1 (kC_cl.2.2.1 a b a0 a1 b0 b1 b2).2
theorem SPg.a20 (h : SPg P r XX NL A) (hg : good P) (hi : itk P r XX op a b) (ho : op = 20 ∨ op = 21) : (0 ≤ P 3007 a + b ∧ P 3007 a + b < P 3001 0) ∧ kM P r XX (P 3007 a + b) ∧ A 3007 (cA P r XX op a) + cBf P r XX op a b = nM P r XX (P 3007 a + b) := by
  obtain ⟨a0, a1, a2⟩ := hi.1 (by omega)
  obtain ⟨b0, b1, b2⟩ := hi.2.2 ho
  have hm3 := hg.1.2.1.2.2 a a0 a1
  have ea : cA P r XX op a = nC P r XX a := by unfold cA; rw [if_pos (by omega)]
  have eb : cBf P r XX op a b = nM P r XX (P 3007 a + b) - nB (kM P r XX) (P 3007 a) := by unfold cBf; rw [if_neg (by omega), if_pos ho]
  rw [ea, eb, (h.2.1 a a0 a1 a2).1.2.2.2]
  exact ⟨by omega, b2, by omega⟩
theorem SPg.ra (h : SPg P r XX NL A) (hg : good P) (hi : itk P r XX op a b) (ho : op = 15 ∨ op = 24 ∨ op = 25 ∨ (16 ≤ op ∧ op ≤ 21)) : 4 + cA P r XX op a = rho P r XX (4 + a) ∧ wok P r XX (4 + a) := by
  obtain ⟨a0, a1, a2⟩ := hi.1 ho
  have ea : cA P r XX op a = nC P r XX a := by unfold cA; rw [if_pos ho]
  rw [ea, rho_k hg a0 a1 a2]
  exact ⟨rfl, Or.inr (Or.inr (Or.inr ⟨by omega, by omega, by rw [show 4 + a - 4 = a by omega]; exact a2⟩))⟩
theorem SPg.wlm (h : SPg P r XX NL A) (hg : good P) (m0 : 0 ≤ m) (m1 : m < P 3001 0) (hm : kM P r XX m) (hi : itk P r XX op a b) : wl A (nM P r XX m) op (cA P r XX op a) (cBf P r XX op a b) = (wl P m op a b).map (rho P r XX) ∧ ∀ x ∈ wl P m op a b, wok P r XX x := by
  have w1 : wok P r XX (-1) := Or.inl rfl
  have w2 : wok P r XX (-2) := Or.inr (Or.inl rfl)
  have w3 : wok P r XX 1 := Or.inr (Or.inr (Or.inl rfl))
  have r1 : rho P r XX (-1) = -1 := rho_lo (by omega)
  have r2 : rho P r XX (-2) = -2 := rho_lo (by omega)
  have r3 : rho P r XX 1 = 1 := rho_lo (by omega)
  unfold wl
  by_cases g1 : op = 3 ∨ op = 4 ∨ op = 5
  · rw [if_pos g1, if_pos g1]; simp [r1, w1]
  rw [if_neg g1, if_neg g1]
  by_cases g2 : op = 12 ∨ op = 23
  · rw [if_pos g2, if_pos g2]; simp [r3, w3]
  rw [if_neg g2, if_neg g2]
  by_cases g3 : (6 ≤ op ∧ op ≤ 10) ∨ op = 13
  · rw [if_pos g3, if_pos g3]; simp [r3, w3]
  rw [if_neg g3, if_neg g3]
  by_cases g4 : op = 14 ∨ op = 24 ∨ op = 25
  · rw [if_pos g4, if_pos g4]; simp [r2, w2]
  rw [if_neg g4, if_neg g4]
  by_cases g5 : op = 16
  · rw [if_pos g5, if_pos g5]
    obtain ⟨e1, e2⟩ := h.ra hg hi (by omega)
    rw [e1]; simp [e2]
  rw [if_neg g5, if_neg g5]
  by_cases g6 : op = 17
  · rw [if_pos g6, if_pos g6]
    obtain ⟨e1, e2⟩ := h.ra hg hi (by omega)
    obtain ⟨e3, e4⟩ := h.a9 hg hi (by omega)
    rw [e1, e3]; simp [e2, e4]
  rw [if_neg g6, if_neg g6]
  by_cases g7 : op = 19
  · rw [if_pos g7, if_pos g7]
    obtain ⟨e3, e4⟩ := h.a9 hg hi (by omega)
    rw [e3]; simp [e4]
  rw [if_neg g7, if_neg g7]
  by_cases g8 : op = 20 ∨ op = 21
  · rw [if_pos g8, if_pos g8]
    obtain ⟨e1, e2⟩ := h.ra hg hi (by omega)
    obtain ⟨t0, t1, t2⟩ := h.a20 hg hi g8
    have hsp := (h.2.2 _ t0.1 t0.2 t1).1.1
    have p4 := (hg.1.2.2.2 _ t0.1 t0.2).2.2.2.1
    unfold cw
    rw [t2, hsp.2.1, hsp.2.2.2, e1]
    obtain ⟨p1, p2⟩ := h.pr hg t0.1 t0.2 t1 (n := (P 3015 (P 3007 a + b)).toNat) (by omega)
    rw [p1, List.map_append]
    by_cases gs : P 3013 (P 3007 a + b) = 0
    · rw [if_pos gs, if_pos gs]
      refine ⟨rfl, fun x hx => ?_⟩
      rcases List.mem_append.1 hx with q | q
      · rw [List.mem_singleton.1 q]; exact e2
      · exact p2 x q
    · rw [if_neg gs, if_neg gs]
      refine ⟨rfl, fun x hx => ?_⟩
      rcases List.mem_append.1 hx with q | q
      · cases q
      · exact p2 x q
  rw [if_neg g8, if_neg g8]
  by_cases g9 : op = 22
  · rw [if_pos g9, if_pos g9]
    obtain ⟨e1, e2⟩ := h.rt14 hg m0 m1 hm
    by_cases gr : P 3014 m = 0
    · rw [if_pos gr, if_pos (e1.2 gr)]; simp
    · rw [if_neg gr, if_neg (fun q => gr (e1.1 q)), (e2 gr).1]; simp [(e2 gr).2]
  rw [if_neg g9, if_neg g9]
  simp
theorem SPg.g1m (h : SPg P r XX NL A) (hg : good P) (hi : itk P r XX op a b) (hl : op = 2 → la' = rho P r XX la) : g1 A op (cA P r XX op a) (cBf P r XX op a b) la' = (g1 P op a b la).map (rho P r XX) := by
  have r3 : rho P r XX 1 = 1 := rho_lo (by omega)
  have r4 : rho P r XX 2 = 2 := rho_lo (by omega)
  unfold g1
  by_cases g1 : op = 0
  · rw [if_pos g1, if_pos g1]; simp [r3]
  rw [if_neg g1, if_neg g1]
  by_cases g2 : op = 1
  · rw [if_pos g2, if_pos g2]; simp [r4]
  rw [if_neg g2, if_neg g2]
  by_cases g3 : op = 2
  · rw [if_pos g3, if_pos g3, hl g3]; simp
  rw [if_neg g3, if_neg g3]
  by_cases g4 : 6 ≤ op ∧ op ≤ 10
  · rw [if_pos g4, if_pos g4]; simp [r3]
  rw [if_neg g4, if_neg g4]
  by_cases g5 : op = 15 ∨ op = 24
  · rw [if_pos g5, if_pos g5, (h.ra hg hi (by omega)).1]; simp
  rw [if_neg g5, if_neg g5]
  by_cases g6 : op = 16 ∨ op = 18
  · rw [if_pos g6, if_pos g6, (h.a9 hg hi (by omega)).1]; simp
  rw [if_neg g6, if_neg g6]
  by_cases g7 : op = 20 ∨ op = 21
  · rw [if_pos g7, if_pos g7]
    obtain ⟨t0, t1, t2⟩ := h.a20 hg hi g7
    obtain ⟨e1, e2⟩ := h.rt14 hg t0.1 t0.2 t1
    rw [t2]
    by_cases gr : P 3014 (P 3007 a + b) = 0
    · rw [if_pos gr, if_pos (e1.2 gr)]; simp
    · rw [if_neg gr, if_neg (fun q => gr (e1.1 q)), (e2 gr).1]; simp
  rw [if_neg g7, if_neg g7]
  by_cases g8 : op = 25
  · simp only [if_pos g8]; simp [r3]
  simp only [if_neg g8]; simp
theorem psh_m (ρ : Int → Int) : ∀ (G : List Int) (q : Int) (s : Int → Int), psh (fun z => ρ (s z)) q (G.map ρ) = fun z => ρ (psh s q G z)
  | [], q, s => rfl
  | x :: G, q, s => by
    show psh (i_up (fun z => ρ (s z)) q (ρ x)) (q + 1) (G.map ρ) = fun z => ρ (psh (i_up s q x) (q + 1) G z)
    rw [← psh_m ρ G (q + 1) (i_up s q x)]
    congr 1
    funext z
    simp only [i_up]
    split <;> rfl
/-- an instruction, told anew, does to the renamed types what it did -/
theorem SPg.exm (h : SPg P r XX NL A) (hg : good P) (m0 : 0 ≤ m) (m1 : m < P 3001 0) (hm : kM P r XX m) (hi : itk P r XX op a b) : exn A (nM P r XX m) op (cA P r XX op a) (cBf P r XX op a b) n (fun z => rho P r XX (s z)) (fun z => rho P r XX (l z)) = exn P m op a b n s l ∧ exs A (nM P r XX m) op (cA P r XX op a) (cBf P r XX op a b) n (fun z => rho P r XX (s z)) (fun z => rho P r XX (l z)) = (fun z => rho P r XX (exs P m op a b n s l z)) ∧ exl A (nM P r XX m) op (cA P r XX op a) (cBf P r XX op a b) n (fun z => rho P r XX (s z)) (fun z => rho P r XX (l z)) = (fun z => rho P r XX (exl P m op a b n s l z)) ∧ ∀ q, gx A op (cA P r XX op a) (cBf P r XX op a b) (fun z => rho P r XX (s z)) (fun z => rho P r XX (l z)) q = (gx P op a b s l q).map (rho P r XX) := by
  obtain ⟨w1, -⟩ := h.wlm hg m0 m1 hm hi
  have ea : op = 2 ∨ op = 3 → cA P r XX op a = a := fun q => by unfold cA; rw [if_neg (by omega)]
  have gm : ∀ q, gx A op (cA P r XX op a) (cBf P r XX op a b) (fun z => rho P r XX (s z)) (fun z => rho P r XX (l z)) q = (gx P op a b s l q).map (rho P r XX) := by
    intro q
    unfold gx
    by_cases g : op = 5
    · rw [if_pos g, if_pos g]; simp
    · rw [if_neg g, if_neg g]
      exact h.g1m hg hi (fun q => by rw [ea (Or.inl q)])
  refine ⟨?_, ?_, ?_, gm⟩
  · unfold exn
    rw [gm, w1, List.length_map, List.length_map]
  · unfold exs
    rw [gm, w1, List.length_map, psh_m]
  · unfold exl
    rw [w1, List.length_map]
    by_cases g : op = 3
    · rw [if_pos g, if_pos g, ea (Or.inr g)]
      funext z
      simp only [i_up]
      split <;> rfl
    · rw [if_neg g, if_neg g]
theorem SPg.efm (h : SPg P r XX NL A) (hg : good P) (hA : WFs A) (m0 : 0 ≤ m) (m1 : m < P 3001 0) (hm : kM P r XX m) (hi : itk P r XX op a b) (hs : stk P n s) (hf : exf P m op a b n s l = 0) : exf A (nM P r XX m) op (cA P r XX op a) (cBf P r XX op a b) n (fun z => rho P r XX (s z)) (fun z => rho P r XX (l z)) = 0 := by
  obtain ⟨w1, w2⟩ := h.wlm hg m0 m1 hm hi
  obtain ⟨-, -, -, gm⟩ := h.exm (n := n) (s := s) (l := l) hg m0 m1 hm hi
  have ea : op = 2 ∨ op = 3 → cA P r XX op a = a := fun q => by unfold cA; rw [if_neg (by omega)]
  unfold exf at hf ⊢
  rw [gm, w1, List.length_map, List.length_map]
  by_cases h1 : n < (wl P m op a b).length
  · rw [if_pos h1] at hf; omega
  · rw [if_neg h1] at hf ⊢
    by_cases h2 : af P s (wl P m op a b) (n - (wl P m op a b).length) (wl P m op a b).length = false
    · rw [if_pos h2] at hf; omega
    · rw [if_neg h2] at hf
      have h2' : af P s (wl P m op a b) (n - (wl P m op a b).length) (wl P m op a b).length = true := by simpa using h2
      have h3 : af A (fun z => rho P r XX (s z)) ((wl P m op a b).map (rho P r XX)) (n - (wl P m op a b).length) (wl P m op a b).length = true := by
        refine af_of _ (fun x hx => ?_)
        have a1 := af_get _ h2' x hx
        have e0 : ((wl P m op a b).map (rho P r XX)).getD x 0 = rho P r XX ((wl P m op a b).getD x 0) := by
          rw [List.getD_eq_getElem?_getD, List.getD_eq_getElem?_getD, List.getElem?_map, List.getElem?_eq_getElem hx]; rfl
        rw [e0]
        have hmem : (wl P m op a b).getD x 0 ∈ wl P m op a b := by
          rw [List.getD_eq_getElem?_getD, List.getElem?_eq_getElem hx]; exact List.getElem_mem _
        exact h.rf hg hA (hs _ (by omega) (by omega)).2 (w2 _ hmem) a1
      rw [h3, if_neg (by decide)]
      by_cases h4 : op = 2 ∧ l a = 0
      · rw [if_pos h4] at hf; omega
      · rw [if_neg h4] at hf
        have h5 : ¬ (op = 2 ∧ rho P r XX (l (cA P r XX op a)) = 0) := by
          rintro ⟨q1, q2⟩
          rw [ea (Or.inl q1)] at q2
          refine h4 ⟨q1, ?_⟩
          unfold rho at q2
          by_cases g : l a < 4
          · rw [if_pos g] at q2; exact q2
          · rw [if_neg g] at q2
            by_cases g2 : knr P r XX 10 (l a - 4) < 0
            · rw [if_pos g2] at q2; omega
            · rw [if_neg g2] at q2
              have : -1 ≤ nC P r XX (knr P r XX 10 (l a - 4)) := by
                by_cases k : kC P r XX (knr P r XX 10 (l a - 4))
                · rw [show nC P r XX (knr P r XX 10 (l a - 4)) = nB (kC P r XX) (knr P r XX 10 (l a - 4)) from nw_k k]
                  have := nB_p (q := kC P r XX) (x := knr P r XX 10 (l a - 4)); omega
                · rw [show nC P r XX (knr P r XX 10 (l a - 4)) = -1 from nw_n k]; omega
              omega
        rw [if_neg h5]
        exact hf
theorem SPg.sl (h : SPg P r XX NL A) (hg : good P) (hA : WFs A) {s' : Int → Int} (ht : tys P n s) (hs : sle P n s s') : sle A n (fun z => rho P r XX (s z)) (fun z => rho P r XX (s' z)) := fun k k0 k1 => h.rs hg hA (ht k k0 k1) (hs k k0 k1)
/-- where the types come from at the begin -/
theorem SPg.im (h : SPg P r XX NL A) (hg : good P) (m0 : 0 ≤ m) (m1 : m < P 3001 0) (hm : kM P r XX m) (x0 : 0 ≤ x) : ini A (nM P r XX m) x = rho P r XX (ini P m x) := by
  have ow := (hg.1.2.2.2 m m0 m1).1
  have p4 := (hg.1.2.2.2 m m0 m1).2.2.2.1
  have kc := kC_cl.2.2.2.1 m m0 m1 hm
  obtain ⟨⟨a1, a2, a3, a4⟩, a5, a6⟩ := (h.2.2 m m0 m1 hm).1
  have er : rcv A (nM P r XX m) = rcv P m := by unfold rcv; rw [a2]
  unfold ini
  rw [er, a1, a4]
  by_cases g1 : x < rcv P m
  · rw [if_pos g1, if_pos g1, rho_k hg ow.1 ow.2.1 kc.1]
  · rw [if_neg g1, if_neg g1]
    by_cases g2 : x < rcv P m + P 3015 m
    · have tp := p4.2.2 (x - rcv P m) (by omega) (by omega)
      rw [if_pos g2, if_pos g2, a5 _ (by omega) (by omega)]
      exact (tyof_t hg tp.1 tp.2 (kc.2.2 _ (by omega) (by omega))).1
    · rw [if_neg g2, if_neg g2, rho_lo (by omega)]
theorem SPg.ty (h : SPg P r XX NL A) (hg : good P) (hxx : xxR P r XX NL) (h1 : 1 ≤ nB (kC P r XX) (P 3000 0)) (t0 : 0 ≤ t) (t1 : t < A 3001 0) : ∃ S, TyC A t (A 3017 t) (cdP A t) S := by
  have hWA := h.wp hg hxx h1
  have hA := hWA.1
  obtain ⟨m, m0, m1, hm, rfl⟩ := h.sm hg t0 t1
  obtain ⟨⟨⟨a1, a2, a3, a4⟩, a5, a6⟩, -, -⟩ := h.2.2 m m0 m1 hm
  obtain ⟨c0, c1⟩ := h.cd m0 m1 hm
  by_cases g : r.1 m = 1
  · obtain ⟨okx, nlb, F, ⟨⟨⟨f0, f1, f2⟩, f3⟩, f4⟩, f5⟩ := hxx.2 m m0 m1 g
    have el : lnK r XX m = (XX m).n := by unfold lnK; rw [if_pos g]
    rw [a6, if_pos g]
    refine ⟨(F.1, fun i z => rho P r XX (F.2.1 i z), fun i z => rho P r XX (F.2.2 i z)), f0, fun k k0 k1 => ?_, fun i i0 i1 i2 => ?_⟩
    · rw [h.im hg m0 m1 hm k0]
      exact h.rs hg hA (ini_o hg.1 m0 m1 k0) (f1 k k0 k1)
    · have i1' : i < A 0 (nM P r XX m) := i1
      rw [c0, el] at i1'
      obtain ⟨e1, e2, e3⟩ := c1 i i0 (by omega)
      have eo : kO r XX m i = (XX m).op i := by unfold kO; rw [if_pos g]
      have ek : kA r XX m i = (XX m).a i := by unfold kA; rw [if_pos g]
      have eb : kB r XX m i = (XX m).b i := by unfold kB; rw [if_pos g]
      have hk := (kOk hg hxx m0 m1 i0 (show i < lnK r XX m by omega)).2
      rw [eo, ek, eb] at hk
      rw [eo] at e1
      rw [eo, ek] at e2
      rw [eo, ek, eb] at e3
      have hi : itk P r XX ((XX m).op i) ((XX m).a i) ((XX m).b i) := hk
      obtain ⟨⟨t1', t2, t3⟩, t4, t5, t6⟩ := f2 i i0 i1' i2
      have t1'' : F.1 i ≤ 10 := t1'
      obtain ⟨x1, x2⟩ := (f4 i i0 i1' i2).1
      show TyI A (nM P r XX m) (NL m) (A 0 (nM P r XX m)) (A 1 (nM P r XX m * 120 + i)) (A 2 (nM P r XX m * 120 + i)) (A 3 (nM P r XX m * 120 + i)) i _
      rw [e1, e2, e3, c0, el]
      obtain ⟨m1', m2', m3', -⟩ := h.exm (n := F.1 i) (s := F.2.1 i) (l := F.2.2 i) hg m0 m1 hm hi
      have st : stk P (F.1 i) (F.2.1 i) := t2
      refine ⟨⟨t1'', fun k k0 k1 => ?_, fun k k0 k1 => (h.rt hg (t3 k k0 k1)).1⟩, h.efm hg hA m0 m1 hm hi st t4, fun gq => ?_, fun gq => ?_⟩
      · obtain ⟨u1, u2⟩ := t2 k k0 k1
        have := h.rt hg u2
        refine ⟨?_, this.1⟩
        by_cases q : F.2.1 i k < 4
        · show 1 ≤ rho P r XX (F.2.1 i k)
          rw [rho_lo q]; exact u1
        · have := this.2 (by omega)
          show 1 ≤ rho P r XX (F.2.1 i k)
          omega
      · obtain ⟨v1, v2, v3, v4⟩ := t5 gq
        refine ⟨v1, ?_⟩
        show flw A (NL m) _ (i + 1) (exn A (nM P r XX m) ((XX m).op i) (cA P r XX ((XX m).op i) ((XX m).a i)) (cBf P r XX ((XX m).op i) ((XX m).a i) ((XX m).b i)) (F.1 i) (fun z => rho P r XX (F.2.1 i z)) (fun z => rho P r XX (F.2.2 i z))) (exs A (nM P r XX m) ((XX m).op i) (cA P r XX ((XX m).op i) ((XX m).a i)) (cBf P r XX ((XX m).op i) ((XX m).a i) ((XX m).b i)) (F.1 i) (fun z => rho P r XX (F.2.1 i z)) (fun z => rho P r XX (F.2.2 i z))) (exl A (nM P r XX m) ((XX m).op i) (cA P r XX ((XX m).op i) ((XX m).a i)) (cBf P r XX ((XX m).op i) ((XX m).a i) ((XX m).b i)) (F.1 i) (fun z => rho P r XX (F.2.1 i z)) (fun z => rho P r XX (F.2.2 i z)))
        rw [m1', m2', m3']
        exact ⟨v2, h.sl hg hA x1.ty v3, h.sl hg hA x2 v4⟩
      · have ea : cA P r XX ((XX m).op i) ((XX m).a i) = (XX m).a i := by
          unfold cA; unfold isj at gq; simp at gq; rw [if_neg (by omega)]
        obtain ⟨v2, v3, v4⟩ := t6 gq
        show flw A (NL m) _ (cA P r XX ((XX m).op i) ((XX m).a i)) (exn A (nM P r XX m) ((XX m).op i) (cA P r XX ((XX m).op i) ((XX m).a i)) (cBf P r XX ((XX m).op i) ((XX m).a i) ((XX m).b i)) (F.1 i) (fun z => rho P r XX (F.2.1 i z)) (fun z => rho P r XX (F.2.2 i z))) (exs A (nM P r XX m) ((XX m).op i) (cA P r XX ((XX m).op i) ((XX m).a i)) (cBf P r XX ((XX m).op i) ((XX m).a i) ((XX m).b i)) (F.1 i) (fun z => rho P r XX (F.2.1 i z)) (fun z => rho P r XX (F.2.2 i z))) (exl A (nM P r XX m) ((XX m).op i) (cA P r XX ((XX m).op i) ((XX m).a i)) (cBf P r XX ((XX m).op i) ((XX m).a i) ((XX m).b i)) (F.1 i) (fun z => rho P r XX (F.2.1 i z)) (fun z => rho P r XX (F.2.2 i z)))
        rw [m1', m2', m3', ea]
        exact ⟨v2, h.sl hg hA x1.ty v3, h.sl hg hA x2 v4⟩
  · have el : lnK r XX m = 1 := by unfold lnK; rw [if_neg g]
    have eo : ∀ i, kO r XX m i = 26 := fun i => by unfold kO; rw [if_neg g]
    refine ⟨(fun i => if i = 0 then 0 else -1, fun _ _ => 0, fun _ => ini A (nM P r XX m)), rfl, sle.rf, fun i i0 i1 i2 => ?_⟩
    have i1' : i < A 0 (nM P r XX m) := i1
    rw [c0, el] at i1'
    have ei : i = 0 := by omega
    obtain ⟨e1, -, -⟩ := c1 i i0 (by omega)
    rw [eo] at e1
    show TyI A (nM P r XX m) (A 3017 (nM P r XX m)) (A 0 (nM P r XX m)) (A 1 (nM P r XX m * 120 + i)) (A 2 (nM P r XX m * 120 + i)) (A 3 (nM P r XX m * 120 + i)) i _
    rw [e1, ei]
    refine ⟨⟨by show (0 : Int) ≤ 10; omega, fun k k0 k1 => ?_, fun k k0 k1 => ini_o hWA t0 t1 k0⟩, rfl, fun q => absurd q (by decide), fun q => absurd q (by decide)⟩
    have k1' : k < 0 := k1
    omega
end TYPED
