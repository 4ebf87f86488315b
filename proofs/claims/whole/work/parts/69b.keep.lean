/-! what is kept, purely; marks in rows -/
/-- an instruction of a method reached -/
def inC (P : Pg) (r : Rs) (XX : Int → Sx) (m i : Int) : Prop := (0 ≤ m ∧ m < P 3001 0) ∧ r.1 m = 1 ∧ 0 ≤ i ∧ i < (XX m).n
def kM (P : Pg) (r : Rs) (XX : Int → Sx) (t : Int) : Prop := r.1 t = 1 ∨ ∃ m i, inC P r XX m i ∧ (XX m).op i = 21 ∧ P 3007 ((XX m).a i) + (XX m).b i = t
def kF (P : Pg) (r : Rs) (XX : Int → Sx) (z : Int) : Prop := ∃ m i, inC P r XX m i ∧ (16 ≤ (XX m).op i ∧ (XX m).op i ≤ 19) ∧ (XX m).a i * 6 + (XX m).b i = z
def cloK (P : Pg) (r : Rs) (XX : Int → Sx) (V : Int → Prop) : Prop := (∀ c, 0 ≤ c → c < P 3000 0 → r.2.1 c = 1 → V c) ∧ (∀ m i, inC P r XX m i → (XX m).op i = 24 ∨ (XX m).op i = 25 → V ((XX m).a i)) ∧ (∀ c f, 0 ≤ c → c < P 3000 0 → 0 ≤ f → f < P 3005 c → kF P r XX (c * 6 + f) → V c ∧ (0 < P 3009 (c * 6 + f) → V (P 3009 (c * 6 + f) - 1))) ∧ (∀ m, 0 ≤ m → m < P 3001 0 → kM P r XX m → V (P 3011 m) ∧ (2 ≤ P 3014 m → V (P 3014 m - 2)) ∧ ∀ p, 0 ≤ p → p < P 3015 m → 0 < P 3016 (m * 3 + p) → V (P 3016 (m * 3 + p) - 1)) ∧ ∀ c, 0 ≤ c → c < P 3000 0 → V c → 0 ≤ P 3003 c → V (P 3003 c)
def kC (P : Pg) (r : Rs) (XX : Int → Sx) (c : Int) : Prop := ∀ V : Int → Prop, cloK P r XX V → V c
def SK (P : Pg) (r : Rs) (XX : Int → Sx) (k : Nat) (x : Int) : Prop := if k = 0 then kC P r XX x else if k = 1 then kF P r XX x else kM P r XX x
def skz (k : Nat) : Int := if k = 0 then 10 else if k = 1 then 60 else 80
/-- marks (mv) only where there should be -/
def skG (eb o : Nat) (mv uv : Int) (P : Pg) (r : Rs) (XX : Int → Sx) (σ : j3_S) : Prop := ∀ k, k < 3 → ∀ x, 0 ≤ x → x < skz k → (σ.2.2 (eb + k) o x = mv ∨ σ.2.2 (eb + k) o x = uv) ∧ (σ.2.2 (eb + k) o x = mv → SK P r XX k x)
def grG (eb o : Nat) (mv : Int) (σ σ' : j3_S) : Prop := ∀ k, k < 3 → ∀ x, 0 ≤ x → x < skz k → σ.2.2 (eb + k) o x = mv → σ'.2.2 (eb + k) o x = mv
def mkE (eb : Nat) : List Nat := [eb, eb + 1, eb + 2]
section KEEP
variable {σ σ' σ'' : j3_S} {P : Pg} {r : Rs} {XX : Int → Sx} {eb o : Nat} {mv uv x c m i : Int} {k : Nat}
theorem kC_cl : cloK P r XX (kC P r XX) := by
  refine ⟨fun c c0 c1 h V hV => hV.1 c c0 c1 h, fun m i h g V hV => hV.2.1 m i h g, fun c f c0 c1 f0 f1 h => ⟨fun V hV => (hV.2.2.1 c f c0 c1 f0 f1 h).1, fun g V hV => (hV.2.2.1 c f c0 c1 f0 f1 h).2 g⟩, fun m m0 m1 h => ⟨fun V hV => (hV.2.2.2.1 m m0 m1 h).1, fun g V hV => (hV.2.2.2.1 m m0 m1 h).2.1 g, fun p p0 p1 g V hV => (hV.2.2.2.1 m m0 m1 h).2.2 p p0 p1 g⟩, fun c c0 c1 h g V hV => hV.2.2.2.2 c c0 c1 (h V hV) g⟩
theorem grG.rf : grG eb o mv σ σ := fun _ _ _ _ _ h => h
theorem grG.tr (h : grG eb o mv σ σ') (h' : grG eb o mv σ' σ'') : grG eb o mv σ σ'' := fun k hk x x0 x1 q => h' k hk x x0 x1 (h k hk x x0 x1 q)
theorem grG.of {li la : List Nat} (h : frm li la σ σ') (hd : ∀ k, k < 3 → la.elem (eb + k) = false) : grG eb o mv σ σ' := fun k hk x _ _ q => by rw [h.2.2 _ _ (hd k hk)]; exact q
theorem skG.of {li la : List Nat} (h : skG eb o mv uv P r XX σ) (hf : frm li la σ σ') (hd : ∀ k, k < 3 → la.elem (eb + k) = false) : skG eb o mv uv P r XX σ' := fun k hk x x0 x1 => by rw [hf.2.2 _ _ (hd k hk)]; exact h k hk x x0 x1
/-- a mark -/
theorem mkG (h : skG eb o mv uv P r XX σ) (hk : k < 3) (hS : SK P r XX k x) : skG eb o mv uv P r XX (σ.1, σ.2.1, j3_ast σ.2.2 (eb + k) o x mv) ∧ grG eb o mv σ (σ.1, σ.2.1, j3_ast σ.2.2 (eb + k) o x mv) ∧ frm [] (mkE eb) σ (σ.1, σ.2.1, j3_ast σ.2.2 (eb + k) o x mv) ∧ j3_ast σ.2.2 (eb + k) o x mv (eb + k) o x = mv := by
  have e : ∀ k' y, j3_ast σ.2.2 (eb + k) o x mv (eb + k') o y = if k' = k ∧ y = x then mv else σ.2.2 (eb + k') o y := by
    intro k' y
    unfold j3_ast
    by_cases g : k' = k
    · subst g
      rw [up_r]
      by_cases gy : y = x
      · rw [gy, iu_r, if_pos ⟨rfl, rfl⟩]
      · rw [iu_n gy, if_neg (fun q => gy q.2)]
    · rw [up_ne (fun q => g (by omega)), if_neg (fun q => g q.1)]
  refine ⟨fun k' hk' y y0 y1 => ?_, fun k' hk' y _ _ q => ?_, frm.A ?_ frm.rf, by rw [e, if_pos ⟨rfl, rfl⟩]⟩
  · show (j3_ast σ.2.2 (eb + k) o x mv (eb + k') o y = mv ∨ j3_ast σ.2.2 (eb + k) o x mv (eb + k') o y = uv) ∧ (j3_ast σ.2.2 (eb + k) o x mv (eb + k') o y = mv → _)
    rw [e]
    by_cases g : k' = k ∧ y = x
    · rw [if_pos g, g.1, g.2]
      exact ⟨Or.inl rfl, fun _ => hS⟩
    · rw [if_neg g]; exact h k' hk' y y0 y1
  · show j3_ast σ.2.2 (eb + k) o x mv (eb + k') o y = mv
    rw [e]
    by_cases g : k' = k ∧ y = x
    · rw [if_pos g]
    · rw [if_neg g]; exact q
  · rcases (by omega : k = 0 ∨ k = 1 ∨ k = 2) with rfl | rfl | rfl <;> simp [mkE]
/-- all that is due is marked -/
def fuG (eb o : Nat) (mv : Int) (P : Pg) (r : Rs) (XX : Int → Sx) (σ : j3_S) : Prop := (∀ m, 0 ≤ m → m < P 3001 0 → r.1 m = 1 → σ.2.2 (eb + 2) o m = mv) ∧ (∀ m i, inC P r XX m i → (XX m).op i = 21 → σ.2.2 (eb + 2) o (P 3007 ((XX m).a i) + (XX m).b i) = mv) ∧ (∀ m i, inC P r XX m i → 16 ≤ (XX m).op i → (XX m).op i ≤ 19 → σ.2.2 (eb + 1) o ((XX m).a i * 6 + (XX m).b i) = mv) ∧ (∀ m i, inC P r XX m i → (XX m).op i = 24 ∨ (XX m).op i = 25 → σ.2.2 (eb + 0) o ((XX m).a i) = mv) ∧ (∀ c, 0 ≤ c → c < P 3000 0 → r.2.1 c = 1 → σ.2.2 (eb + 0) o c = mv) ∧ (∀ c f, 0 ≤ c → c < P 3000 0 → 0 ≤ f → f < P 3005 c → σ.2.2 (eb + 1) o (c * 6 + f) = mv → σ.2.2 (eb + 0) o c = mv ∧ (0 < P 3009 (c * 6 + f) → σ.2.2 (eb + 0) o (P 3009 (c * 6 + f) - 1) = mv)) ∧ (∀ m, 0 ≤ m → m < P 3001 0 → σ.2.2 (eb + 2) o m = mv → σ.2.2 (eb + 0) o (P 3011 m) = mv ∧ (2 ≤ P 3014 m → σ.2.2 (eb + 0) o (P 3014 m - 2) = mv) ∧ ∀ p, 0 ≤ p → p < P 3015 m → 0 < P 3016 (m * 3 + p) → σ.2.2 (eb + 0) o (P 3016 (m * 3 + p) - 1) = mv) ∧ ∀ c, 0 ≤ c → c < P 3000 0 → σ.2.2 (eb + 0) o c = mv → 0 ≤ P 3003 c → σ.2.2 (eb + 0) o (P 3003 c) = mv
theorem fu_M (h : fuG eb o mv P r XX σ) (m0 : 0 ≤ m) (m1 : m < P 3001 0) (hm : kM P r XX m) : σ.2.2 (eb + 2) o m = mv := by
  rcases hm with hm | ⟨m', i, hi, h21, e⟩
  · exact h.1 m m0 m1 hm
  · rw [← e]; exact h.2.1 m' i hi h21
theorem fu_F {z : Int} (h : fuG eb o mv P r XX σ) (hz : kF P r XX z) : σ.2.2 (eb + 1) o z = mv := by
  obtain ⟨m', i, hi, h16, e⟩ := hz
  rw [← e]; exact h.2.2.1 m' i hi h16.1 h16.2
theorem fu_C (h : fuG eb o mv P r XX σ) (hc : kC P r XX c) : σ.2.2 (eb + 0) o c = mv := by
  refine hc (fun c => σ.2.2 (eb + 0) o c = mv) ⟨h.2.2.2.2.1, h.2.2.2.1, fun c f c0 c1 f0 f1 q => h.2.2.2.2.2.1 c f c0 c1 f0 f1 (fu_F h q), fun m m0 m1 q => h.2.2.2.2.2.2.1 m m0 m1 (fu_M h m0 m1 q), h.2.2.2.2.2.2.2⟩
/-- the marks, exactly -/
def exG (eb o : Nat) (mv uv : Int) (P : Pg) (r : Rs) (XX : Int → Sx) (σ : j3_S) : Prop := (∀ c, 0 ≤ c → c < P 3000 0 → (kC P r XX c ∧ σ.2.2 (eb + 0) o c = mv) ∨ (¬ kC P r XX c ∧ σ.2.2 (eb + 0) o c = uv)) ∧ (∀ c f, 0 ≤ c → c < P 3000 0 → 0 ≤ f → f < P 3005 c → (kF P r XX (c * 6 + f) ∧ σ.2.2 (eb + 1) o (c * 6 + f) = mv) ∨ (¬ kF P r XX (c * 6 + f) ∧ σ.2.2 (eb + 1) o (c * 6 + f) = uv)) ∧ ∀ m, 0 ≤ m → m < P 3001 0 → (kM P r XX m ∧ σ.2.2 (eb + 2) o m = mv) ∨ (¬ kM P r XX m ∧ σ.2.2 (eb + 2) o m = uv)
theorem ex_of (hW : WFp P) (h : fuG eb o mv P r XX σ) (hs : skG eb o mv uv P r XX σ) (hne : ¬ mv = uv) : exG eb o mv uv P r XX σ := by
  have hc10 := hW.1.2.1
  have h80 := hW.2.1.2.1
  refine ⟨fun c c0 c1 => ?_, fun c f c0 c1 f0 f1 => ?_, fun m m0 m1 => ?_⟩
  · obtain ⟨q1, q2⟩ := hs 0 (by omega) c c0 (by show c < 10; omega)
    by_cases g : kC P r XX c
    · exact Or.inl ⟨g, fu_C h g⟩
    · right
      refine ⟨g, ?_⟩
      rcases q1 with q1 | q1
      · exact absurd (q2 q1) g
      · exact q1
  · have := hW.2.2.1 c c0 c1
    obtain ⟨q1, q2⟩ := hs 1 (by omega) (c * 6 + f) (by omega) (by show c * 6 + f < 60; omega)
    by_cases g : kF P r XX (c * 6 + f)
    · exact Or.inl ⟨g, fu_F h g⟩
    · right
      refine ⟨g, ?_⟩
      rcases q1 with q1 | q1
      · exact absurd (q2 q1) g
      · exact q1
  · obtain ⟨q1, q2⟩ := hs 2 (by omega) m m0 (by show m < 80; omega)
    by_cases g : kM P r XX m
    · exact Or.inl ⟨g, fu_M h m0 m1 g⟩
    · right
      refine ⟨g, ?_⟩
      rcases q1 with q1 | q1
      · exact absurd (q2 q1) g
      · exact q1
end KEEP
