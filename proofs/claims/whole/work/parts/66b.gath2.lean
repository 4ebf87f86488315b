/-! gathered code: a block is laid; instructions on a higher stack and other locals -/
section GATH2
variable {P : Pg} {m mu nl nl0 n0 i j q o a a' b u v B n : Int} {X X' : Sx} {F G G' E : Fl} {W : Int → Int → Int → Prop} {st s s' l l' : Int → Int} {op : Int}
theorem gaI.blk (h : gaI P m nl n0 W E i X G st) (i0 : 0 ≤ i) (hk : X.n ≤ X'.n) (ag : ∀ q, q < X.n → X'.op q = X.op q ∧ X'.a q = X.a q ∧ X'.b q = X.b q ∧ G'.1 q = G.1 q ∧ G'.2.1 q = G.2.1 q ∧ G'.2.2 q = G.2.2 q) (out : ∀ q, X'.n ≤ q → G'.1 q < 0) (ok : ∀ q, X.n ≤ q → q < X'.n → (0 ≤ X'.op q ∧ X'.op q ≤ 26) ∧ (X'.op q = 2 ∨ X'.op q = 3 → 0 ≤ X'.a q ∧ X'.a q < nl) ∧ (isj (X'.op q) = true → 0 ≤ X'.a q ∧ X'.a q < n0)) (typ : ∀ q, X.n ≤ q → q < X'.n → 0 ≤ G'.1 q → plc P m nl W X' G' q ∧ (gon (X'.op q) = true → if q + 1 = X'.n then eflw P m nl X' G' q E (i + 1) else eflw P m nl X' G' q G' (q + 1)) ∧ (isj (X'.op q) = true → eflw P m nl X' G' q E (X'.a q))) (ent : 0 ≤ E.1 i → (X.n < X'.n → flw P nl G' X.n (E.1 i) (E.2.1 i) (E.2.2 i)) ∧ (X.n = X'.n → flw P nl E (i + 1) (E.1 i) (E.2.1 i) (E.2.2 i))) : gaI P m nl n0 W E (i + 1) X' G' (i_up st i X.n) := by
  obtain ⟨⟨⟨x0, b0⟩, mono, out0⟩, ok0, typ0, bst0⟩ := h
  have bl : ∀ j, 0 ≤ j → j ≤ i → begS (i_up st i X.n) X' (i + 1) j = begS st X i j := by
    intro j j0 j1
    unfold begS
    rw [if_pos (by omega)]
    by_cases g : j = i
    · rw [g, iu_r, if_neg (by omega)]
    · rw [iu_n g, if_pos (by omega)]
  have bi : begS st X i i = X.n := by unfold begS; rw [if_neg (by omega)]
  have be : begS (i_up st i X.n) X' (i + 1) (i + 1) = X'.n := by unfold begS; rw [if_neg (by omega)]
  have ble : ∀ (k : Nat) (z : Int), z + k = i → 0 ≤ z → begS st X i z ≤ X.n := by
    intro k
    induction k with
    | zero => intro z hz _; rw [show z = i by omega, bi]; omega
    | succ k ih =>
      intro z hz z0
      have := (mono z z0 (by omega)).2
      have := ih (z + 1) (by omega) (by omega)
      omega
  have eo : ∀ q E' t, q < X.n → eflw P m nl X' G' q E' t = eflw P m nl X G q E' t := by
    intro q E' t hq
    obtain ⟨q1, q2, q3, q4, q5, q6⟩ := ag q hq
    unfold eflw
    rw [q1, q2, q3, q4, q5, q6]
  refine ⟨⟨⟨by omega, ?_⟩, fun j j0 j1 => ⟨?_, ?_⟩, fun q hq => ?_⟩, fun q q0 q1 => ?_, fun j q j0 j1 q1 q2 q3 => ?_, fun j j0 j1 hj => ?_⟩
  · rw [bl 0 (by omega) i0]; exact b0
  · by_cases g : j = i
    · rw [g, iu_r]; exact x0
    · rw [iu_n g]; exact (mono j j0 (by omega)).1
  · by_cases g : j = i
    · rw [g, be, bl i i0 (by omega), bi]; exact hk
    · rw [bl j j0 (by omega), bl (j + 1) (by omega) (by omega)]; exact (mono j j0 (by omega)).2
  · by_cases g : q < X.n
    · rw [(ag q g).2.2.2.1]; exact out0 q (by omega)
    · by_cases g2 : X'.n ≤ q
      · exact out q g2
      · omega
  · by_cases g : q < X.n
    · obtain ⟨z1, z2, z3, -⟩ := ag q g
      rw [z1, z2]; exact ok0 q q0 g
    · exact ok q (by omega) q1
  · by_cases g : j = i
    · subst g
      rw [bl j j0 (by omega), bi] at q1
      rw [be] at q2 ⊢
      exact typ q q1 q2 q3
    · rw [bl j j0 (by omega)] at q1
      rw [bl (j + 1) (by omega) (by omega)] at q2 ⊢
      have hb := ble (i - (j + 1)).toNat (j + 1) (by omega) (by omega)
      obtain ⟨z1, z2, z3, z4, z5, z6⟩ := ag q (by omega)
      obtain ⟨t1, t2, t3⟩ := typ0 j q j0 (by omega) q1 q2 (by rw [← z4]; exact q3)
      refine ⟨?_, fun gg => ?_, fun gj => ?_⟩
      · unfold plc at t1 ⊢
        rw [z1, z2, z3, z4, z5, z6]; exact t1
      · rw [z1] at gg
        have := t2 gg
        by_cases ge : q + 1 = begS st X i (j + 1)
        · rw [if_pos ge] at this ⊢
          rw [eo q E (j + 1) (by omega)]; exact this
        · rw [if_neg ge] at this ⊢
          rw [eo q G' (q + 1) (by omega)]
          unfold eflw flw at this ⊢
          obtain ⟨-, -, -, w4, w5, w6⟩ := ag (q + 1) (by omega)
          rw [w4, w5, w6]; exact this
      · rw [z1] at gj
        rw [eo q E _ (by omega), z2]; exact t3 gj
  · by_cases g : j = i
    · subst g
      obtain ⟨e1, e2⟩ := ent hj
      rw [bl j j0 (by omega), bi, be]
      exact ⟨e1, e2⟩
    · obtain ⟨e1, e2⟩ := bst0 j j0 (by omega) hj
      rw [bl j j0 (by omega), bl (j + 1) (by omega) (by omega)]
      refine ⟨fun z => ?_, e2⟩
      have := e1 z
      have hb := ble (i - (j + 1)).toNat (j + 1) (by omega) (by omega)
      unfold flw at this ⊢
      obtain ⟨-, -, -, w4, w5, w6⟩ := ag (begS st X i j) (by omega)
      rw [w4, w5, w6]; exact this
theorem af_sh {w : List Int} {q : Int} (hB : ∀ z, 0 ≤ z → z < n → s' (B + z) = s z) (q0 : 0 ≤ q) : ∀ k : Nat, q + k ≤ n → af P s' w (B + q) k = af P s w q k
  | 0, _ => rfl
  | k + 1, h => by
    show (ftt P (s' (B + q + (k : Int))) (w.getD k 0) && af P s' w (B + q) k) = (ftt P (s (q + (k : Int))) (w.getD k 0) && af P s w q k)
    rw [af_sh hB q0 k (by omega), show B + q + (k : Int) = B + (q + k) by omega, hB (q + k) (by omega) (by omega)]
theorem psh_lo : ∀ (g : List Int) (q z : Int) (f : Int → Int), z < q → psh f q g z = f z
  | [], _, _, _, _ => rfl
  | x :: g, q, z, f, h => by
    show psh (i_up f q x) (q + 1) g z = f z
    rw [psh_lo g (q + 1) z _ (by omega), iu_n (by omega)]
theorem psh_sh : ∀ (g : List Int) (q : Int) (f f' : Int → Int), 0 ≤ q → (∀ z, 0 ≤ z → z < q → f' (B + z) = f z) → ∀ y, 0 ≤ y → y < q + g.length → psh f' (B + q) g (B + y) = psh f q g y
  | [], q, f, f', q0, h, y, y0, y1 => h y y0 (by simpa using y1)
  | x :: g, q, f, f', q0, h, y, y0, y1 => by
    show psh (i_up f' (B + q) x) (B + q + 1) g (B + y) = psh (i_up f q x) (q + 1) g y
    rw [show B + q + 1 = B + (q + 1) by omega]
    refine psh_sh g (q + 1) _ _ (by omega) (fun z z0 z1 => ?_) y y0 (by simp only [List.length_cons] at y1; omega)
    by_cases gz : z = q
    · rw [gz, iu_r, iu_r]
    · rw [iu_n (by omega), iu_n gz]; exact h z z0 (by omega)
/-- the same instruction on a higher stack, with its locals elsewhere -/
theorem ex_sh (hB : ∀ z, 0 ≤ z → z < n → s' (B + z) = s z) (B0 : 0 ≤ B) (hm : op = 22 → m = mu) (ha : ¬ (op = 2 ∨ op = 3) → a' = a) (hl : op = 2 → l' a' = l a) (h : exf P mu op a b n s l = 0) (hh : B + exn P mu op a b n s l ≤ 10) : exf P m op a' b (B + n) s' l' = 0 ∧ exn P m op a' b (B + n) s' l' = B + exn P mu op a b n s l ∧ (∀ z, z < B → exs P m op a' b (B + n) s' l' z = s' z) ∧ (∀ y, 0 ≤ y → y < exn P mu op a b n s l → exs P m op a' b (B + n) s' l' (B + y) = exs P mu op a b n s l y) ∧ (exl P m op a' b (B + n) s' l' = if op = 3 then i_up l' a' (s (n - 1)) else l') := by
  have hw : wl P m op a' b = wl P mu op a b := by
    by_cases g : op = 2 ∨ op = 3
    · rcases g with g | g <;> (rw [g]; rfl)
    · rw [ha g]
      by_cases g2 : op = 22
      · rw [hm g2]
      · simp only [wl, if_neg g2]
  generalize hwl : wl P mu op a b = w at hw
  have z := exf_z (wn := (w.length : Int)) h (by rw [hwl])
  rw [hwl] at z
  obtain ⟨z1, z2, z3, z4⟩ := z
  have hg : gx P op a' b s' l' (B + n - w.length) = gx P op a b s l (n - w.length) := by
    unfold gx
    by_cases g5 : op = 5
    · have : (w.length : Int) = 1 := by rw [← hwl, g5]; rfl
      rw [if_pos g5, if_pos g5, this, show B + n - 1 = B + (n - 1) by omega, hB (n - 1) (by omega) (by omega)]
    · rw [if_neg g5, if_neg g5]
      by_cases g2 : op = 2
      · rw [hl g2, g2]; rfl
      · by_cases g3 : op = 3
        · rw [g3]; rfl
        · rw [ha (by omega)]
          exact g1_la (fun e => absurd e g2)
  have en : exn P mu op a b n s l = n - w.length + (gx P op a b s l (n - w.length)).length := by unfold exn; rw [hwl]
  have en' : exn P m op a' b (B + n) s' l' = B + exn P mu op a b n s l := by
    rw [en]
    unfold exn
    rw [hw, hg]; omega
  refine ⟨?_, en', fun y hy => ?_, fun y y0 y1 => ?_, ?_⟩
  · unfold exf
    rw [hw, hg, if_neg (by omega), show B + n - (w.length : Int) = B + (n - w.length) by omega, af_sh hB (by omega) w.length (by omega), if_neg (by rw [z2]; decide), if_neg (fun e => z3 e.1 (by rw [← hl e.1]; exact e.2)), if_neg (by rw [en] at hh; omega)]
  · unfold exs
    rw [hw, hg]
    exact psh_lo _ _ _ _ (by omega)
  · unfold exs
    rw [hw, hg, hwl, show B + n - (w.length : Int) = B + (n - w.length) by omega]
    exact psh_sh _ _ _ _ (by omega) (fun z z0 z1' => hB z z0 (by omega)) y y0 (by rw [en] at y1; exact y1)
  · unfold exl
    by_cases g3 : op = 3
    · have : (w.length : Int) = 1 := by rw [← hwl, g3]; rfl
      rw [if_pos g3, if_pos g3, hw, this, show B + n - 1 = B + (n - 1) by omega, hB (n - 1) (by omega) (by omega)]
    · rw [if_neg g3, if_neg g3]
/-- an instruction of the method itself -/
theorem ex_ext (ha : op = 2 ∨ op = 3 → 0 ≤ a ∧ a < nl0) (h : exf P m op a b n s l = 0) : exf P m op a b n s (fun x => if x < nl0 then l x else 0) = 0 ∧ exn P m op a b n s (fun x => if x < nl0 then l x else 0) = exn P m op a b n s l ∧ (∀ y, 0 ≤ y → y < exn P m op a b n s l → exs P m op a b n s (fun x => if x < nl0 then l x else 0) y = exs P m op a b n s l y) ∧ ∀ x, exl P m op a b n s (fun x => if x < nl0 then l x else 0) x = if x < nl0 then exl P m op a b n s l x else 0 := by
  obtain ⟨-, -, -, hh⟩ := exf0 h
  have := ex_sh (P := P) (m := m) (mu := m) (a' := a) (B := 0) (s' := s) (l' := fun x => if x < nl0 then l x else 0) (fun z z0 z1 => by rw [show 0 + z = z by omega]) (by omega) (fun _ => rfl) (fun _ => rfl) (fun e => by show (if a < nl0 then l a else 0) = _; rw [if_pos (ha (Or.inl e)).2]) h (by omega)
  rw [show (0 : Int) + n = n by omega] at this
  obtain ⟨q1, q2, q3, q4, q5⟩ := this
  refine ⟨q1, by omega, fun y y0 y1 => ?_, fun x => ?_⟩
  · have := q4 y y0 y1
    rw [show 0 + y = y by omega] at this
    exact this
  · rw [q5]
    by_cases g3 : op = 3
    · have ra := ha (Or.inr g3)
      subst g3
      rw [if_pos rfl, ex_3.2.2]
      by_cases gx : x = a
      · rw [gx, iu_r, iu_r, if_pos ra.2]
      · rw [iu_n gx, iu_n gx]
    · rw [if_neg g3]
      unfold exl
      rw [if_neg g3]
end GATH2
