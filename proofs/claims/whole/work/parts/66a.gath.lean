/-! a method's code gathered: what was bound, what was put in; its typing -/
def adS (X : Sx) (o a b u v : Int) : Sx := (X.n + 1, i_up X.op X.n o, i_up X.a X.n a, i_up X.b X.n b, i_up X.o1 X.n u, i_up X.o2 X.n v)
def adF (G : Fl) (q n : Int) (s l : Int → Int) : Fl := (i_up G.1 q n, up2 G.2.1 q s, up2 G.2.2 q l)
/-- jumps to old places told anew -/
def aiS (X : Sx) (st : Int → Int) : Sx := (X.n, X.op, (fun i => if isj (X.op i) = true then st (X.a i) else X.a i), X.b, X.o1, X.o2)
/-- old states, with more locals -/
def exF (nl0 : Int) (F : Fl) : Fl := (F.1, F.2.1, fun i x => if x < nl0 then F.2.2 i x else 0)
/-- the places where old ones begin -/
def begS (st : Int → Int) (X : Sx) (i j : Int) : Int := if j < i then st j else X.n
def plc (P : Pg) (m nl : Int) (W : Int → Int → Int → Prop) (X : Sx) (G : Fl) (q : Int) : Prop := (G.1 q ≤ 10 ∧ stk P (G.1 q) (G.2.1 q) ∧ tys P nl (G.2.2 q)) ∧ exf P m (X.op q) (X.a q) (X.b q) (G.1 q) (G.2.1 q) (G.2.2 q) = 0 ∧ exk P m nl (X.op q) (X.a q) (X.b q) (G.1 q) (G.2.1 q) (G.2.2 q) ∧ W (X.op q) (X.a q) (X.b q)
/-- an instruction's end flows to a place -/
def eflw (P : Pg) (m nl : Int) (X : Sx) (G : Fl) (q : Int) (E : Fl) (t : Int) : Prop := flw P nl E t (exn P m (X.op q) (X.a q) (X.b q) (G.1 q) (G.2.1 q) (G.2.2 q)) (exs P m (X.op q) (X.a q) (X.b q) (G.1 q) (G.2.1 q) (G.2.2 q)) (exl P m (X.op q) (X.a q) (X.b q) (G.1 q) (G.2.1 q) (G.2.2 q))
/-- the old instructions before i are laid -/
def gaI (P : Pg) (m nl n0 : Int) (W : Int → Int → Int → Prop) (E : Fl) (i : Int) (X : Sx) (G : Fl) (st : Int → Int) : Prop :=
  ((0 ≤ X.n ∧ begS st X i 0 = 0) ∧ (∀ j, 0 ≤ j → j < i → 0 ≤ st j ∧ begS st X i j ≤ begS st X i (j + 1)) ∧ ∀ q, q < 0 ∨ X.n ≤ q → G.1 q < 0) ∧
  (∀ q, 0 ≤ q → q < X.n → (0 ≤ X.op q ∧ X.op q ≤ 26) ∧ (X.op q = 2 ∨ X.op q = 3 → 0 ≤ X.a q ∧ X.a q < nl) ∧ (isj (X.op q) = true → 0 ≤ X.a q ∧ X.a q < n0)) ∧
  (∀ j q, 0 ≤ j → j < i → begS st X i j ≤ q → q < begS st X i (j + 1) → 0 ≤ G.1 q → plc P m nl W X G q ∧ (gon (X.op q) = true → if q + 1 = begS st X i (j + 1) then eflw P m nl X G q E (j + 1) else eflw P m nl X G q G (q + 1)) ∧ (isj (X.op q) = true → eflw P m nl X G q E (X.a q))) ∧
  ∀ j, 0 ≤ j → j < i → 0 ≤ E.1 j → (begS st X i j < begS st X i (j + 1) → flw P nl G (begS st X i j) (E.1 j) (E.2.1 j) (E.2.2 j)) ∧ (begS st X i j = begS st X i (j + 1) → flw P nl E (j + 1) (E.1 j) (E.2.1 j) (E.2.2 j))
section GATH
variable {P : Pg} {m nl nl0 n0 i j q o a b u v : Int} {X : Sx} {F G E : Fl} {W : Int → Int → Int → Prop} {st : Int → Int}
/-- in which old instruction's block a place lies -/
theorem blk_of : ∀ (k : Nat) (f : Int → Int) (q : Int), f 0 ≤ q → q < f k → ∃ j, 0 ≤ j ∧ j < (k : Int) ∧ f j ≤ q ∧ q < f (j + 1)
  | 0, f, q, h0, h1 => absurd h1 (by show ¬ q < f 0; omega)
  | k + 1, f, q, h0, h1 => by
    by_cases g : f k ≤ q
    · exact ⟨k, by omega, by omega, g, h1⟩
    · obtain ⟨j, j0, j1, j2, j3⟩ := blk_of k f q h0 (by omega)
      exact ⟨j, j0, by omega, j2, j3⟩
/-- at the end: the whole is typed -/
theorem aim_ok (hs : WFs P) (hJ : ∀ op a b a', isj op = true → W op a b → W op a' b) (n1 : 1 ≤ n0) (hn : X.n ≤ 120) (hl : st (n0 - 1) < X.n) (hE : ∀ i, i < 0 ∨ n0 ≤ i → E.1 i < 0) (hEt : ∀ i, 0 ≤ i → i < n0 → 0 ≤ E.1 i → stk P (E.1 i) (E.2.1 i) ∧ tys P nl (E.2.2 i)) (hE0 : E.1 0 = 0 ∧ sle P nl (ini P m) (E.2.2 0)) (hini : tys P nl (ini P m)) (h : gaI P m nl n0 W E n0 X G st) : SOk P m nl W (aiS X st) G ∧ okX nl (aiS X st) ∧ ∀ j, 0 ≤ j → j < n0 → 0 ≤ E.1 j → 0 ≤ st j ∧ st j < X.n ∧ G.1 (st j) = E.1 j := by
  obtain ⟨⟨⟨x0, b0⟩, mono, out⟩, ok, typ, bst⟩ := h
  have bg : ∀ j, 0 ≤ j → j < n0 → begS st X n0 j = st j := fun j _ h => by unfold begS; rw [if_pos h]
  have bge : begS st X n0 n0 = X.n := by unfold begS; rw [if_neg (by omega)]
  -- old states flow into the new code
  have up : ∀ (k : Nat) (j : Int), j + k = n0 → 0 ≤ j → 0 ≤ E.1 j → flw P nl G (begS st X n0 j) (E.1 j) (E.2.1 j) (E.2.2 j) := by
    intro k
    induction k with
    | zero => intro j hj _ hEj; have := hE j (by omega); omega
    | succ k ih =>
      intro j hj j0 hEj
      obtain ⟨q1, q2⟩ := bst j j0 (by omega) hEj
      have mj := (mono j j0 (by omega)).2
      by_cases g : begS st X n0 j < begS st X n0 (j + 1)
      · exact q1 g
      · have e : begS st X n0 j = begS st X n0 (j + 1) := by omega
        have f1 := q2 e
        have hE1 : 0 ≤ E.1 (j + 1) := by rw [f1.1]; exact hEj
        have f2 := ih (j + 1) (by omega) (by omega) hE1
        obtain ⟨t1, t2⟩ := hEt j j0 (by omega) hEj
        rw [e]
        obtain ⟨a1, a2, a3⟩ := f1
        obtain ⟨b1, b2, b3⟩ := f2
        rw [a1] at b1 b2
        exact ⟨b1, a2.tr hs t1.ty b2, a3.tr hs t2 b3⟩
  have upt : ∀ j, 0 ≤ E.1 j → 0 ≤ j ∧ j < n0 ∧ flw P nl G (begS st X n0 j) (E.1 j) (E.2.1 j) (E.2.2 j) ∧ 0 ≤ begS st X n0 j ∧ begS st X n0 j < X.n := by
    intro j hEj
    have jr : 0 ≤ j ∧ j < n0 := by
      by_cases g : j < 0 ∨ n0 ≤ j
      · have := hE j g; omega
      · omega
    have f := up (n0 - j).toNat j (by omega) jr.1 hEj
    refine ⟨jr.1, jr.2, f, ?_⟩
    by_cases g : begS st X n0 j < 0 ∨ X.n ≤ begS st X n0 j
    · have := out _ g
      rw [f.1] at this
      omega
    · omega
  -- a flow to an old place is one to its new place
  have into : ∀ {t n : Int} {s l : Int → Int}, 0 ≤ n → stk P n s → tys P nl l → flw P nl E t n s l → flw P nl G (begS st X n0 t) n s l ∧ 0 ≤ begS st X n0 t ∧ begS st X n0 t < X.n ∧ 0 ≤ t ∧ t < n0 := by
    intro t n s l hn hs1 hl1 f
    obtain ⟨j0, j1, f2, r1, r2⟩ := upt t (by rw [f.1]; exact hn)
    obtain ⟨a1, a2, a3⟩ := f
    obtain ⟨c1, c2, c3⟩ := f2
    rw [a1] at c1 c2
    exact ⟨⟨c1, a2.tr hs hs1.ty c2, a3.tr hs hl1 c3⟩, r1, r2, j0, j1⟩
  have e0 := upt 0 (by rw [hE0.1]; omega)
  rw [b0] at e0
  have same : ∀ q, exf P m ((aiS X st).op q) ((aiS X st).a q) ((aiS X st).b q) (G.1 q) (G.2.1 q) (G.2.2 q) = exf P m (X.op q) (X.a q) (X.b q) (G.1 q) (G.2.1 q) (G.2.2 q) ∧ exn P m ((aiS X st).op q) ((aiS X st).a q) ((aiS X st).b q) (G.1 q) (G.2.1 q) (G.2.2 q) = exn P m (X.op q) (X.a q) (X.b q) (G.1 q) (G.2.1 q) (G.2.2 q) ∧ exs P m ((aiS X st).op q) ((aiS X st).a q) ((aiS X st).b q) (G.1 q) (G.2.1 q) (G.2.2 q) = exs P m (X.op q) (X.a q) (X.b q) (G.1 q) (G.2.1 q) (G.2.2 q) ∧ exl P m ((aiS X st).op q) ((aiS X st).a q) ((aiS X st).b q) (G.1 q) (G.2.1 q) (G.2.2 q) = exl P m (X.op q) (X.a q) (X.b q) (G.1 q) (G.2.1 q) (G.2.2 q) := by
    intro q
    by_cases gj : isj (X.op q) = true
    · exact ex_j gj
    · have e : (aiS X st).a q = X.a q := by show (if isj (X.op q) = true then st (X.a q) else X.a q) = _; rw [if_neg gj]
      rw [e]
      exact ⟨rfl, rfl, rfl, rfl⟩
  have key : ∀ q, 0 ≤ q → q < X.n → 0 ≤ G.1 q → plc P m nl W X G q ∧ (gon (X.op q) = true → q + 1 < X.n ∧ eflw P m nl X G q G (q + 1)) ∧ (isj (X.op q) = true → (0 ≤ st (X.a q) ∧ st (X.a q) < X.n) ∧ eflw P m nl X G q G (st (X.a q))) := by
    intro q q0 q1 q2
    obtain ⟨j, j0, j1, j2, j3⟩ := blk_of n0.toNat (begS st X n0) q (by rw [b0]; exact q0) (by rw [show ((n0.toNat : Nat) : Int) = n0 by omega, bge]; exact q1)
    obtain ⟨t1, t2, t3⟩ := typ j q j0 (by omega) j2 j3 q2
    obtain ⟨p1, p2, ⟨p3, p4⟩, p5⟩ := t1
    have n0' := wl_le p2
    refine ⟨⟨p1, p2, ⟨p3, p4⟩, p5⟩, fun gg => ?_, fun gj => ?_⟩
    · have f := t2 gg
      by_cases ge : q + 1 = begS st X n0 (j + 1)
      · rw [if_pos ge] at f
        obtain ⟨f1, f2, f3, -, -⟩ := into n0' p3 p4 f
        rw [← ge] at f1 f2 f3
        exact ⟨f3, f1⟩
      · rw [if_neg ge] at f
        have : begS st X n0 (j + 1) ≤ X.n := by
          by_cases gj : j + 1 < n0
          · have chain : ∀ (k : Nat) (z : Int), z + k = n0 → 0 ≤ z → begS st X n0 z ≤ X.n := by
              intro k
              induction k with
              | zero => intro z hz _; rw [show z = n0 by omega, bge]; omega
              | succ k ih =>
                intro z hz z0
                have := (mono z z0 (by omega)).2
                have := ih (z + 1) (by omega) (by omega)
                omega
            exact chain (n0 - (j + 1)).toNat (j + 1) (by omega) (by omega)
          · rw [show j + 1 = n0 by omega, bge]; omega
        exact ⟨by omega, f⟩
    · have f := t3 gj
      obtain ⟨f1, f2, f3, f4, f5⟩ := into n0' p3 p4 f
      rw [bg _ f4 f5] at f1 f2 f3
      exact ⟨⟨f2, f3⟩, f1⟩
  have stn : ∀ t, 0 ≤ t → t < n0 → 0 ≤ st t ∧ st t < X.n := by
    intro t t0 t1
    have chain : ∀ (k : Nat) (z : Int), z + k = n0 - 1 → 0 ≤ z → begS st X n0 z < X.n := by
      intro k
      induction k with
      | zero => intro z hz _; rw [show z = n0 - 1 by omega, bg _ (by omega) (by omega)]; exact hl
      | succ k ih =>
        intro z hz z0
        have := (mono z z0 (by omega)).2
        have := ih (z + 1) (by omega) (by omega)
        omega
    have := chain (n0 - 1 - t).toNat t (by omega) t0
    rw [bg t t0 t1] at this
    exact ⟨(mono t t0 t1).1, this⟩
  refine ⟨⟨⟨⟨?_, ?_, fun q q0 q1 q2 => ?_⟩, out⟩, fun q q0 q1 q2 => ?_⟩, ⟨⟨?_, hn⟩, fun q q0 q1 => ?_⟩, fun j j0 j1 hj => ?_⟩
  · rw [e0.2.2.1.1]; exact hE0.1
  · exact hE0.2.tr hs hini e0.2.2.1.2.2
  · obtain ⟨⟨p1, p2, -, -⟩, k1, k2⟩ := key q q0 q1 q2
    have s := same q
    have s1 : exf P m ((cdS (aiS X st)).2.1 q) ((cdS (aiS X st)).2.2.1 q) ((cdS (aiS X st)).2.2.2 q) (G.1 q) (G.2.1 q) (G.2.2 q) = _ := s.1
    have s2 : exn P m ((cdS (aiS X st)).2.1 q) ((cdS (aiS X st)).2.2.1 q) ((cdS (aiS X st)).2.2.2 q) (G.1 q) (G.2.1 q) (G.2.2 q) = _ := s.2.1
    have s3 : exs P m ((cdS (aiS X st)).2.1 q) ((cdS (aiS X st)).2.2.1 q) ((cdS (aiS X st)).2.2.2 q) (G.1 q) (G.2.1 q) (G.2.2 q) = _ := s.2.2.1
    have s4 : exl P m ((cdS (aiS X st)).2.1 q) ((cdS (aiS X st)).2.2.1 q) ((cdS (aiS X st)).2.2.2 q) (G.1 q) (G.2.1 q) (G.2.2 q) = _ := s.2.2.2
    unfold TyI
    rw [s1, s2, s3, s4]
    refine ⟨p1, p2, fun z => k1 z, fun z => ?_⟩
    have z' : isj (X.op q) = true := z
    have e : (cdS (aiS X st)).2.2.1 q = st (X.a q) := by show (if isj (X.op q) = true then st (X.a q) else X.a q) = _; rw [if_pos z']
    rw [e]; exact (k2 z').2
  · obtain ⟨⟨p1, p2, p3, p4⟩, -, -⟩ := key q q0 q1 q2
    have s := same q
    unfold exk at p3 ⊢
    rw [s.2.1, s.2.2.1, s.2.2.2]
    refine ⟨p3, ?_⟩
    by_cases gj : isj (X.op q) = true
    · exact hJ _ _ _ _ gj p4
    · have e : (aiS X st).a q = X.a q := by show (if isj (X.op q) = true then st (X.a q) else X.a q) = _; rw [if_neg gj]
      rw [e]; exact p4
  · show 1 ≤ X.n
    have := e0.2.2.2
    omega
  · obtain ⟨q2, q3, q4⟩ := ok q q0 q1
    refine ⟨q2, fun z => ?_, fun z => ?_⟩
    · have z' : X.op q = 2 ∨ X.op q = 3 := z
      have e : (aiS X st).a q = X.a q := by show (if isj (X.op q) = true then st (X.a q) else X.a q) = _; rw [if_neg (by rcases z' with g | g <;> (rw [g]; decide))]
      rw [e]; exact q3 z'
    · have z' : isj (X.op q) = true := z
      have e : (aiS X st).a q = st (X.a q) := by show (if isj (X.op q) = true then st (X.a q) else X.a q) = _; rw [if_pos z']
      rw [e]
      obtain ⟨r1, r2⟩ := q4 z'
      have := stn _ r1 r2
      show 0 ≤ st (X.a q) ∧ st (X.a q) ≤ X.n ∧ st (X.a q) < 120
      omega
  · obtain ⟨-, -, f, r1, r2⟩ := upt j hj
    rw [bg j j0 j1] at f r1 r2
    exact ⟨r1, r2, f.1⟩
end GATH
