/-! the invariant through every call of the law -/
section XCALL
variable {σc σr σ' : j3_S} {a b n k B A K v : Int} {d : Nat} {Q : j3_P}
theorem JJ.f0 (h : JJ σc σr) (hf : frm [10000] [] σr σ') : JJ σc σ' := h.ch (lic := []) (lac := []) frm.rf hf rfl rfl rfl rfl (h.1.1.fr (lic := []) (lac := []) frm.rf hf rfl rfl rfl rfl) (h.1.2.1.fr (lic := []) (lac := []) frm.rf hf rfl rfl rfl) (h.1.2.2.1.fr (lic := []) (lac := []) frm.rf hf rfl rfl rfl rfl)
theorem t226x (hk : (k = 1 ∧ (a < 0 ∨ 12 < a)) ∨ (k = 2 ∧ ¬ a < 0 ∧ ¬ 12 < a ∧ (σr.1 10043 121 = 0 ∨ σr.1 10045 121 = 0))) (hQ : ∀ σ', frm [10000] [] σr σ' → σ'.1 10000 121 = k → Q (some (wI 0)) σ') : j3_tc true (d + 1) 226 [wO 10 121, wI a] σr Q := by
  have fin : ∀ k : Int, frm [10000] [] σr (j3_up (j3_up σr.1 10000 121 0) 10000 121 k, σr.2.1, σr.2.2) ∧ (j3_up (j3_up σr.1 10000 121 0) 10000 121 k) 10000 121 = k := fun k => ⟨frm.I rfl (frm.I rfl frm.rf), up_r⟩
  rw [e226, b226_0]
  rcases hk with ⟨rfl, h⟩ | ⟨rfl, h1, h2, h3⟩
  · by_cases g : a < 0
    · rw [if_pos g, b226_8]
      exact hQ _ (fin 1).1 (fin 1).2
    · rw [if_neg g, if_pos (by omega), b226_8]
      exact hQ _ (fin 1).1 (fin 1).2
  · rw [if_neg h1, if_neg h2]
    by_cases g : σr.1 10043 121 = 0
    · rw [if_pos g, b226_19]
      exact hQ _ (fin 2).1 (fin 2).2
    · rw [if_neg g, if_pos (h3.resolve_left g), b226_19]
      exact hQ _ (fin 2).1 (fin 2).2
theorem th0_e {e : Nat} (h : (e == 10000) = false) : (th0 σr).1 e 121 = σr.1 e 121 := by
  show j3_up σr.1 10000 121 0 e 121 = _
  exact up_e h
theorem t241x (hf : flR σc σr) (hk : ((if B = 0 then σr.1 10043 121 else σr.1 10044 121) = 0 ∧ k = 1) ∨ (¬ (if B = 0 then σr.1 10043 121 else σr.1 10044 121) = 0 ∧ k = 2 ∧ (A < 0 ∨ ¬ A < σr.1 10045 121 ∨ K < 1 ∨ 20000 < K))) (hQ : ∀ σ', frm [10000] [] σr σ' → σ'.1 10000 121 = k → Q (some (wI 0)) σ') : j3_tc true (d + 2) 241 [wO 10 121, wI B, wI A, wI K] σr Q := by
  have h01 : (if B = 0 then (th0 σr).1 10043 121 else (th0 σr).1 10044 121) = (if B = 0 then σr.1 10043 121 else σr.1 10044 121) := by
    split
    · exact th0_e rfl
    · exact th0_e rfl
  have hv : (if B = 0 then (th0 σr).1 10043 121 else (th0 σr).1 10044 121) = 0 ∨ (if B = 0 then (th0 σr).1 10043 121 else (th0 σr).1 10044 121) = 1 := by
    rw [h01]
    split
    · exact hf.1.2
    · exact hf.2.1.2
  have f0 : frm [10000] [] σr (th0 σr) := th0_f
  have fin : ∀ k : Int, 0 < k → (∀ σ', frm [10000] [] σr σ' → σ'.1 10000 121 = k → Q (some (wI 0)) σ') → T241 (d + 1) Q 26 [wO 10 121, wI B, wI A, wI K, wM 2] [] (j3_up (th0 σr).1 10000 121 k, (th0 σr).2.1, (th0 σr).2.2) := by
    intro k hk hq
    have e : (j3_up (th0 σr).1 10000 121 k) 10000 121 = k := up_r
    rw [b241_26]
    dsimp only
    rw [if_pos (by rw [e]; exact hk)]
    exact hq _ (f0.tr (frm.I rfl frm.rf)) e
  rw [e241, b241_0]
  show j3_tc true (d + 1) 187 [wO 10 121, wI B] (th0 σr) _
  rw [s187 hv, h01]
  simp only [Option.toList_some, List.cons_append, List.nil_append]
  rw [b241_6]
  rcases hk with ⟨h1, rfl⟩ | ⟨h1, rfl, h2⟩
  · rw [if_pos h1]
    exact fin 1 (by omega) hQ
  · have e45 : (th0 σr).1 10045 121 = σr.1 10045 121 := th0_e rfl
    have t23 : T241 (d + 1) Q 23 [wO 10 121, wI B, wI A, wI K, wM 2] [] (th0 σr) := by
      rw [b241_23]
      exact fin 2 (by omega) hQ
    rw [if_neg h1]
    by_cases g1 : A < 0
    · rw [if_pos g1]; exact t23
    · rw [if_neg g1, e45]
      by_cases g2 : A < σr.1 10045 121
      · rw [if_pos g2]
        by_cases g3 : K < 1
        · rw [if_pos g3]; exact t23
        · rw [if_neg g3, if_pos (by omega)]; exact t23
      · rw [if_neg g2]; exact t23
theorem x226 (h : JJ σc σr) (hk : (k = 1 ∧ (a < 0 ∨ 12 < a)) ∨ (k = 2 ∧ ¬ a < 0 ∧ ¬ 12 < a ∧ (σr.1 10043 121 = 0 ∨ σr.1 10045 121 = 0))) : q1x JJ 226 [wI a] k σc σr := t226x (d := 19) hk (fun σ' f e => ⟨⟨_, rfl⟩, by rw [e155, b155_0, e]; exact ⟨rfl, h.f0 f⟩⟩)
theorem x241 (h : JJ σc σr) (hk : ((if B = 0 then σr.1 10043 121 else σr.1 10044 121) = 0 ∧ k = 1) ∨ (¬ (if B = 0 then σr.1 10043 121 else σr.1 10044 121) = 0 ∧ k = 2 ∧ (A < 0 ∨ ¬ A < σr.1 10045 121 ∨ K < 1 ∨ 20000 < K))) : q1x JJ 241 [wI B, wI A, wI K] k σc σr := t241x (d := 18) h.1.2.2.2.1 hk (fun σ' f e => ⟨⟨_, rfl⟩, by rw [e155, b155_0, e]; exact ⟨rfl, h.f0 f⟩⟩)
end XCALL
/-- the invariant of the law's loop -/
def w_J (σ : j2_S) : Prop := ∃ σc σr : j3_S, σ = d_s false σc σr ∧ okS σc ∧ okS σr ∧ JJ σc σr
theorem w_of {σc σr : j3_S} (hc : okS σc) (hr : okS σr) (h : JJ σc σr) : w_J (d_s false σc σr) := ⟨σc, σr, rfl, hc, hr, h⟩
theorem w_tp0 : tpR c0 r0 := ⟨by decide, by decide, rfl, fun i h0 h1 => by
  have : c0.1 9001 0 = 0 := rfl
  omega⟩
theorem w_JJ0 : JJ c0 r0 := ⟨⟨w_tp0, ⟨rfl, fun _ => ⟨rfl, rfl, rfl⟩, fun h => absurd rfl h⟩, ⟨rfl, fun h => absurd rfl h⟩, ⟨⟨rfl, Or.inl rfl⟩, ⟨rfl, Or.inl rfl⟩, fun h => absurd rfl h, Or.inl rfl⟩, ⟨Or.inl rfl, Or.inr (Or.inl rfl), Or.inr (Or.inr rfl), by decide, by decide, by decide⟩⟩, fun h => absurd rfl h⟩
theorem w_0 : w_J j2_init := by
  rw [init3]
  exact w_of c0_ok r0_ok w_JJ0
theorem sn_of {yX yM : Nat} {as : List j3_W} {σc σr : j3_S} (hok : oks3 as) (hc : okS σc) (hr : okS σr) (h : q2 JJ0 yX yM as σc σr) : lw_Sn w_J yX yM (as.map d_w) (d_s false σc σr) := by
  refine j3_sim (k := false) (τ := σr) 20 yX (wO 9 0 :: as) σc _ _ h (oks3_c.mpr ⟨lw_o9, hok⟩) hc (fun r σ1 hq hr1 hc1 => ?_)
  obtain ⟨v, rfl, hM⟩ := hq
  refine ⟨Int32.ofInt v, rfl, ?_⟩
  rw [ds_sym]
  refine j3_sim (k := true) (τ := σ1) 20 yM (wO 10 121 :: as) σr _ _ hM (oks3_c.mpr ⟨lw_o10, hok⟩) hr (fun r' σ2 hq2 hr2 hr' => ?_)
  obtain ⟨rfl, hJ, h0⟩ := hq2
  refine ⟨rfl, ?_⟩
  have t : j3_tc true 20 155 [wO 10 121] σ2 (fun r'' σ3 => r'' = some (wI 0) ∧ σ3 = σ2) := by
    rw [e155, b155_0, h0]
    exact ⟨rfl, rfl⟩
  refine j3_sim (k := true) (τ := σ1) 20 155 [wO 10 121] σ2 _ _ t (oks3_c.mpr ⟨lw_o10, fun w hw => by cases hw⟩) hr' (fun r'' σ3 hq3 _ hr3 => ?_)
  obtain ⟨rfl, rfl⟩ := hq3
  refine ⟨rfl, ?_⟩
  rw [← ds_sym]
  exact w_of hc1 hr' hJ
theorem w_b (a : Int32) : lw_b a = Int32.ofInt (if a.toInt = 0 then 0 else 1) := by
  unfold lw_b
  have : (a = 0) ↔ a.toInt = 0 := ⟨fun h => by rw [h]; rfl, fun h => Int32.toInt_inj.mp h⟩
  by_cases h : a = 0
  · rw [if_pos h, if_pos (this.mp h)]; rfl
  · rw [if_neg h, if_neg (fun q => h (this.mpr q))]; rfl
theorem w_okl (l : List Int32) : oks3 (l.map (fun a => wI a.toInt)) := fun w hw => by
  obtain ⟨a, -, rfl⟩ := List.mem_map.mp hw
  exact rg_t a
theorem w_okb (b : Int) (hb : rg b) (l : List Int32) : oks3 (wI b :: l.map (fun a => wI a.toInt)) := oks3_c.mpr ⟨hb, w_okl l⟩
theorem w_ml (l : List Int32) : (l.map (fun a => wI a.toInt)).map d_w = l.map vI := by
  rw [List.map_map]
  refine List.map_congr_left (fun a _ => ?_)
  exact (v_of a).symm
theorem w_rgb (a : Int32) : rg (if a.toInt = 0 then 0 else 1) := by
  split
  · exact rg0
  · exact ⟨by decide, by decide⟩
theorem w_St : lw_St w_J w_J := by
  intro σ hσ a1 a2 a3 a4 a5
  obtain ⟨σc, σr, rfl, hc, hr, h⟩ := hσ
  have go : ∀ {yX yM : Nat} (l : List Int32), q2 JJ yX yM (l.map (fun a => wI a.toInt)) σc σr → lw_S2 w_J yX yM (l.map vI) (d_s false σc σr) := fun l hq => by
    rw [← w_ml]
    exact s2_of (w_okl l) hc hr (fun _ _ x y z => w_of x y z) hq
  have gob : ∀ {yX yM : Nat} (l : List Int32), (∀ b : Int, q2 JJ yX yM (wI b :: l.map (fun a => wI a.toInt)) σc σr) → lw_S2 w_J yX yM (vI (lw_b a1) :: l.map vI) (d_s false σc σr) := fun l hq => by
    rw [w_b, ← w_ml]
    exact s2_of (as := wI (if a1.toInt = 0 then 0 else 1) :: l.map (fun a => wI a.toInt)) (w_okb _ (w_rgb a1) l) hc hr (fun _ _ x y z => w_of x y z) (hq _)
  exact ⟨go [a1, a2, a3, a4, a5] (h128 h), go [a1] (h130 h), go [] (g131 h), go [a1] (h134 h), gob [a2] (fun b => h135 h), gob [a2, a3, a4] (fun b => h136 h), go [a1, a2, a3] (h137 h (rg_t a3).2), go [a1] (h139 h), go [a1] (h141 h), go [a1, a2, a3] (h142 h), go [a1] (h143 h), go [a1, a2, a3] (h144 h), go [a1] (h146 h), go [a1] (h147 h), go [a1] (h148 h), go [a1] (h149 h), go [] (h150 h), w_of hc hr h⟩
theorem w_z {z : Int} (h : rg z) : Int32.ofInt z = 0 ↔ z = 0 := ⟨fun q => by
  have := congrArg Int32.toInt q
  rw [t_of h] at this
  exact this, fun q => by rw [q]; rfl⟩
theorem w_12 (a : Int32) : (a ≤ 12) ↔ a.toInt ≤ 12 := Int32.le_iff_toInt_le
theorem w_lt0 (a : Int32) : (a < 0) ↔ a.toInt < 0 := Int32.lt_iff_toInt_lt
theorem w_Hs : lw_Hs w_J w_J := by
  intro σ hσ a
  obtain ⟨σc, σr, rfl, hc, hr, h⟩ := hσ
  have hfl := h.1.2.2.2.1
  have e5 : (d_s false σc σr).1 9005 0 = Int32.ofInt (σc.1 9005 0) := rfl
  have e9 : (d_s false σc σr).1 9009 0 = Int32.ofInt (σc.1 9009 0) := rfl
  have go : ∀ k : Int, q1x JJ 226 [wI a.toInt] k σc σr → lw_Sx w_J 226 [vI a] (Int32.ofInt k) (d_s false σc σr) := fun k hq => by
    rw [v_of a]
    exact sx_of (as := [wI a.toInt]) (w_okl [a]) hc hr (fun _ _ x y z => w_of x y z) hq
  rw [e5, e9, w_z (hc.1 _ _), w_z (hc.1 _ _), w_lt0, w_12]
  refine ⟨fun q => go 1 (x226 h (Or.inl ⟨rfl, by omega⟩)), fun q1 q2 q3 => go 2 (x226 h (Or.inr ⟨rfl, q1, by omega, ?_⟩)), fun q1 q2 q3 q4 => ?_⟩
  · by_cases g : σr.1 10043 121 = 0
    · exact Or.inl g
    · right
      obtain ⟨P, ⟨-, -, ⟨c0, c1, c2, c3⟩, -⟩, -⟩ := h.2 g
      rw [c2]
      exact q3.resolve_left (fun q => g (by rw [← hfl.1.1]; exact q))
  · have hp : ¬ σr.1 10043 121 = 0 := fun q => q3 (by rw [hfl.1.1]; exact q)
    obtain ⟨P, ⟨-, -, ⟨c0, c1, c2, c3⟩, -⟩, -⟩ := h.2 hp
    have := sn_of (as := [wI a.toInt]) (w_okl [a]) hc hr (h140 h hc (b := a.toInt) (by omega) q2 hp (by rw [c2]; exact q4))
    rw [v_of a]
    exact this
theorem w_Hr : lw_Hr w_J w_J := by
  intro σ hσ b a k hb
  obtain ⟨σc, σr, rfl, hc, hr, h⟩ := hσ
  have hfl := h.1.2.2.2.1
  have e5 : (d_s false σc σr).1 9005 0 = Int32.ofInt (σc.1 9005 0) := rfl
  have e6 : (d_s false σc σr).1 9006 0 = Int32.ofInt (σc.1 9006 0) := rfl
  have e9 : (d_s false σc σr).1 9009 0 = Int32.ofInt (σc.1 9009 0) := rfl
  have b0 : (b = 0) ↔ b.toInt = 0 := ⟨fun q => by rw [q]; rfl, fun q => Int32.toInt_inj.mp q⟩
  have ez : (if b = 0 then (d_s false σc σr).1 9005 0 else (d_s false σc σr).1 9006 0) = 0 ↔ (if b.toInt = 0 then σr.1 10043 121 else σr.1 10044 121) = 0 := by
    by_cases g : b = 0
    · rw [if_pos g, if_pos (b0.mp g), e5, w_z (hc.1 _ _), hfl.1.1]
    · rw [if_neg g, if_neg (fun q => g (b0.mpr q)), e6, w_z (hc.1 _ _), hfl.2.1.1]
  have go : ∀ j : Int, q1x JJ 241 [wI b.toInt, wI a.toInt, wI k.toInt] j σc σr → lw_Sx w_J 241 [vI b, vI a, vI k] (Int32.ofInt j) (d_s false σc σr) := fun j hq => by
    rw [v_of b, v_of a, v_of k]
    exact sx_of (as := [wI b.toInt, wI a.toInt, wI k.toInt]) (w_okl [b, a, k]) hc hr (fun _ _ x y z => w_of x y z) hq
  have a0 : (a < 0) ↔ a.toInt < 0 := w_lt0 a
  have k1 : (k < 1) ↔ k.toInt < 1 := Int32.lt_iff_toInt_lt
  have k2 : (k ≤ 20000) ↔ k.toInt ≤ 20000 := Int32.le_iff_toInt_le
  have an : (a < (d_s false σc σr).1 9009 0) ↔ a.toInt < σc.1 9009 0 := by
    rw [e9, Int32.lt_iff_toInt_lt, t_of (hc.1 _ _)]
  have c2 : ¬ (if b.toInt = 0 then σr.1 10043 121 else σr.1 10044 121) = 0 → σr.1 10045 121 = σc.1 9009 0 := by
    intro q
    have hp : ¬ σr.1 10043 121 = 0 := by
      by_cases g : b.toInt = 0
      · rw [if_pos g] at q; exact q
      · rw [if_neg g] at q; exact hfl.2.2.1 q
    obtain ⟨P, ⟨-, -, ⟨c0, c1, c2, c3⟩, -⟩, -⟩ := h.2 hp
    exact c2
  dsimp only
  rw [ez, a0, k1, k2, an]
  refine ⟨fun q => go 1 (x241 h (Or.inl ⟨q, rfl⟩)), fun q q1 => go 2 (x241 h (Or.inr ⟨q, rfl, ?_⟩)), fun q q1 q2 q3 => go 2 (x241 h (Or.inr ⟨q, rfl, ?_⟩)), fun q q1 q2 q3 q4 => ?_⟩
  · rw [c2 q]; omega
  · omega
  · have := sn_of (as := [wI b.toInt, wI a.toInt, wI k.toInt]) (w_okl [b, a, k]) hc hr (h145 h (b := b.toInt) (e := a.toInt) (n := k.toInt) q (by omega) (by rw [c2 q]; exact q2) (by omega) q4)
    rw [v_of b, v_of a, v_of k]
    exact this
