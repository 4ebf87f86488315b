/-! what the new codes reach -/
def KX (XX : Int → Sx) : Pg := fun e z => if e = 0 then (XX z).n else if e = 1 then (XX (z / 120)).op (z % 120) else if e = 2 then (XX (z / 120)).a (z % 120) else (XX (z / 120)).b (z % 120)
/-- codes of the methods reached, with their typings -/
def xxR (P : Pg) (R : Rs) (XX : Int → Sx) (NL : Int → Int) : Prop := ((∀ m, R.1 m = 0 ∨ R.1 m = 1) ∧ ∀ c, R.2.1 c = 0 ∨ R.2.1 c = 1) ∧ ∀ m, 0 ≤ m → m < P 3001 0 → R.1 m = 1 → okX (NL m) (XX m) ∧ (P 3017 m ≤ NL m ∧ NL m ≤ 20) ∧ ∃ F, SOk P m (NL m) (WR P R) (XX m) F ∧ ∀ i, 0 ≤ i → i < (XX m).n → 0 ≤ F.1 i
noncomputable def rc2 (P : Pg) (XX : Int → Sx) (E : Int → Int) (n : Int) : Rs := rds P (KX XX) (fun _ _ => true) 100 (S0f E n)
section REACH2
variable {P : Pg} {R : Rs} {XX : Int → Sx} {NL E : Int → Int} {m i n : Int} {T : Int → Fl} {bud : Int}
theorem KX_0 : KX XX 0 m = (XX m).n := rfl
theorem KX_i (i0 : 0 ≤ i) (i1 : i < 120) : KX XX 1 (m * 120 + i) = (XX m).op i ∧ KX XX 2 (m * 120 + i) = (XX m).a i ∧ KX XX 3 (m * 120 + i) = (XX m).b i := by
  have e1 : (m * 120 + i) / 120 = m := by omega
  have e2 : (m * 120 + i) % 120 = i := by omega
  refine ⟨?_, ?_, ?_⟩
  · show (XX ((m * 120 + i) / 120)).op ((m * 120 + i) % 120) = _
    rw [e1, e2]
  · show (XX ((m * 120 + i) / 120)).a ((m * 120 + i) % 120) = _
    rw [e1, e2]
  · show (XX ((m * 120 + i) / 120)).b ((m * 120 + i) % 120) = _
    rw [e1, e2]
theorem WR_ri {op a b : Int} (h : WR P R op a b) : okRi P op a b := ⟨fun g => h.1 (Or.inl g), fun g => ⟨h.1 (by omega), h.2.2.1 (by omega)⟩⟩
theorem xx_W (h : xxR P R XX NL) (m0 : 0 ≤ m) (m1 : m < P 3001 0) (hm : R.1 m = 1) (i0 : 0 ≤ i) (i1 : i < (XX m).n) : WR P R ((XX m).op i) ((XX m).a i) ((XX m).b i) := by
  obtain ⟨-, -, F, h1, h2⟩ := h.2 m m0 m1 hm
  exact (h1.2 i i0 i1 (h2 i i0 i1)).2
theorem okK2 (h : xxR P R XX NL) : okK P (KX XX) (fun _ _ => true) (fun m => R.1 m = 1) (fun c => R.2.1 c = 1) := by
  intro m m0 m1 hm
  obtain ⟨o, -⟩ := h.2 m m0 m1 hm
  refine ⟨by rw [KX_0]; have := o.1; omega, fun i i0 i1 _ => ?_⟩
  rw [KX_0] at i1
  have := o.1
  obtain ⟨e1, e2, e3⟩ := KX_i (XX := XX) (m := m) i0 (show i < 120 by omega)
  have w := xx_W h m0 m1 hm i0 i1
  rw [e1, e2, e3]
  exact ⟨WR_ri w, w.2.2.2.1, w.2.2.2.2.1, fun g => (w.2.2.2.2.2 g).2⟩
theorem rc2_ok (hg : good P) (h : xxR P R XX NL) (hE : ∀ e, 0 ≤ e → e < n → R.1 (E e) = 1) : xxR P (rc2 P XX E n) XX NL ∧ (∀ e, 0 ≤ e → e < n → (rc2 P XX E n).1 (E e) = 1) ∧ (∀ m, (rc2 P XX E n).1 m = 1 → R.1 m = 1) ∧ ∀ c, (rc2 P XX E n).2.1 c = 1 → R.2.1 c = 1 := by
  obtain ⟨h1, h2, h3⟩ := rch_cl (D := fun m => R.1 m = 1) (L := fun c => R.2.1 c = 1) hg (okK2 h) hE
  have e : rds P (KX XX) (fun _ _ => true) 100 (S0f E n) = rc2 P XX E n := rfl
  rw [e] at h1 h2 h3
  refine ⟨⟨⟨h2.1, h2.2.1⟩, fun m m0 m1 hm => ?_⟩, h3, h2.2.2.2.1, h2.2.2.2.2⟩
  have hR := h2.2.2.2.1 m hm
  obtain ⟨o1, o2, F, s1, s2⟩ := h.2 m m0 m1 hR
  refine ⟨o1, o2, F, ⟨s1.1, fun i i0 i1 i2 => ⟨(s1.2 i i0 i1 i2).1, ?_⟩⟩, s2⟩
  have w := (s1.2 i i0 i1 i2).2
  have := o1.1
  obtain ⟨e1, e2, e3⟩ := KX_i (XX := XX) (m := m) i0 (show i < 120 by omega)
  obtain ⟨c1, c2, c3⟩ := h1 m m0 m1 hm i i0 (by rw [KX_0]; exact i1) rfl
  rw [e1, e2] at c1
  rw [e1, e2, e3] at c2 c3
  exact ⟨w.1, w.2.1, w.2.2.1, c1, c2, fun g => ⟨(w.2.2.2.2.2 g).1, c3 g⟩⟩
theorem xx_of (h : grR P T R) : xxR P R (foX P T R.2.1 bud) (fun m => (gaE P T R.2.1 bud m).2.1) := by
  refine ⟨h.2.1, fun m m0 m1 hm => ?_⟩
  obtain ⟨o1, o2⟩ := fo_ok (bud := bud) h m0 m1 hm
  exact ⟨o1, (ga_all (bud := bud) h m0 m1 hm).2.1, o2⟩
end REACH2
/-- the new codes in the class -/
def ncC (σ : j3_S) (o2 : Nat) (P : Pg) (R : Rs) (XX : Int → Sx) (NL : Int → Int) : Prop := ∀ m, 0 ≤ m → m < P 3001 0 → R.1 m = 1 → lyR σ o2 m (XX m) (NL m)
/-- in the reference -/
def ncR (σ : j3_S) (P : Pg) (R : Rs) (XX : Int → Sx) (NL : Int → Int) : Prop := ∀ m, 0 ≤ m → m < P 3001 0 → R.1 m = 1 → gdR σ m (XX m) (NL m)
section REACH2M
variable {σ σ' : j3_S} {P : Pg} {R : Rs} {XX : Int → Sx} {NL E : Int → Int} {m i n : Int} {d o o2 : Nat} {Q : j3_P}
theorem r2C (hg : good P) (h : xxR P R XX NL) (ho : ¬ o = 0) (hC : CP σ o P) (hk : ncC σ o2 P R XX NL) (n0 : 0 ≤ n) (n6 : n ≤ 6) (hE : ∀ e, 0 ≤ e → e < n → σ.2.2 9008 0 e = E e ∧ 0 ≤ E e ∧ E e < P 3001 0 ∧ R.1 (E e) = 1) (hQ : ∀ σ', edC σ σ' o P (rc2 P XX E n) → Q none σ') : j3_tc false (d + 4) 57 [wO 4 92, wO 3 o, wO 0 (o2 + 17), wA 9008 0, wI n] σ Q := by
  refine s57 (K := KX XX) (mt := fun _ _ => true) (D := fun m => R.1 m = 1) (L := fun c => R.2.1 c = 1) hg (okK2 h) ho hC (fun m m0 m1 hm => ?_) n0 n6 hE hQ
  obtain ⟨a1, -, a3⟩ := hk m m0 m1 hm
  obtain ⟨ok, -⟩ := h.2 m m0 m1 hm
  refine ⟨a1, fun i i0 i1 => ?_⟩
  rw [KX_0] at i1
  have := ok.1
  obtain ⟨e1, e2, e3⟩ := KX_i (XX := XX) (m := m) i0 (show i < 120 by omega)
  obtain ⟨b1, b2, b3, b4, -, -⟩ := a3 i i0 i1
  rw [e1, e2, e3, b4]
  exact ⟨⟨fun q => absurd q (by omega), fun q => by cases q⟩, b1, b2, b3⟩
theorem r2R (hg : good P) (h : xxR P R XX NL) (hR : RP σ 0 P) (hk : ncR σ P R XX NL) (n0 : 0 ≤ n) (n6 : n ≤ 6) (hn : σ.1 10045 121 = n) (hE : ∀ e, 0 ≤ e → e < n → σ.2.2 10046 121 e = E e ∧ 0 ≤ E e ∧ E e < P 3001 0 ∧ R.1 (E e) = 1) (hQ : ∀ σ', frm [10051] [10049, 10050] σ σ' → (∀ m, 0 ≤ m → m < 80 → σ'.2.2 10049 121 m = (rc2 P XX E n).1 m) → (∀ c, 0 ≤ c → c < 10 → σ'.2.2 10050 121 c = (rc2 P XX E n).2.1 c) → Q none σ') : j3_tc true (d + 4) 194 [wO 10 121, wI 2] σ Q := by
  refine s194 (K := KX XX) (mt := fun _ _ => true) (D := fun m => R.1 m = 1) (L := fun c => R.2.1 c = 1) ⟨⟨hg, okK2 h⟩, Or.inr rfl, hR, fun m m0 m1 hm => ?_⟩ n0 n6 hn hE hQ
  obtain ⟨-, a2, a3⟩ := hk m m0 m1 hm
  obtain ⟨ok, -⟩ := h.2 m m0 m1 hm
  refine ⟨a2, fun i i0 i1 => ?_⟩
  rw [KX_0] at i1
  have := ok.1
  obtain ⟨e1, e2, e3⟩ := KX_i (XX := XX) (m := m) i0 (show i < 120 by omega)
  obtain ⟨b1, b2, b3, -⟩ := a3 i i0 i1
  rw [e1, e2, e3]
  exact ⟨fun q => absurd q (by decide), fun _ => rfl, b1, b2, b3⟩
end REACH2M
