/-! the small machine that both run: what a step does -/
abbrev Mf : Type := Int × (Int → Int) × (Int → Int) × (Int → Int) × (Int → Int → Int) × (Int → Int → Int)
abbrev Mh : Type := Int × (Int → Int) × (Int → Int → Int → Int) × (Int → Int)
abbrev Mt : Type := Int × Int × Int × (Int → Int) × Int
abbrev Mc : Type := Mf × Mh × Mt
abbrev Mc.dp (M : Mc) : Int := M.1.1
abbrev Mc.me (M : Mc) : Int → Int := M.1.2.1
abbrev Mc.pc (M : Mc) : Int → Int := M.1.2.2.1
abbrev Mc.ht (M : Mc) : Int → Int := M.1.2.2.2.1
abbrev Mc.lo (M : Mc) : Int → Int → Int := M.1.2.2.2.2.1
abbrev Mc.sk (M : Mc) : Int → Int → Int := M.1.2.2.2.2.2
abbrev Mc.no (M : Mc) : Int := M.2.1.1
abbrev Mc.oc (M : Mc) : Int → Int := M.2.1.2.1
abbrev Mc.fd (M : Mc) : Int → Int → Int → Int := M.2.1.2.2.1
abbrev Mc.gs (M : Mc) : Int → Int := M.2.1.2.2.2
abbrev Mc.en (M : Mc) : Int := M.2.2.1
abbrev Mc.tr (M : Mc) : Int := M.2.2.2.1
abbrev Mc.ou (M : Mc) : Int := M.2.2.2.2.1
abbrev Mc.ov (M : Mc) : Int → Int := M.2.2.2.2.2.1
abbrev Mc.mx (M : Mc) : Int := M.2.2.2.2.2.2
/-- on the frame k: height, stack, place -/
def Mc.gf (M : Mc) (k h : Int) (s : Int → Int) (j : Int) : Mf := (M.dp, M.me, i_up M.pc k j, i_up M.ht k h, M.lo, up2 M.sk k s)
def Mc.go (M : Mc) (k h : Int) (s : Int → Int) (j : Int) : Mc := (M.gf k h s j, M.2)
def Mc.tp (M : Mc) (c : Int) : Mc := (M.1, M.2.1, 1, c, M.2.2.2.2)
def ari (op x y : Int) : Int := if op = 6 then wr (x + y) else if op = 7 then wr (x - y) else if op = 8 then wr (x * y) else if op = 9 then i_dv x y else i_rm x y
def caL (P : Pg) (t : Int) : Int := P 3015 t + rcv P t
def stO (P : Pg) (M : Mc) (k m i op a b h : Int) (s : Int → Int) : Mc :=
  if op = 0 then M.go k (h + 1) (i_up s h a) (i + 1)
  else if op = 1 then M.go k (h + 1) (i_up s h 0) (i + 1)
  else if op = 2 then M.go k (h + 1) (i_up s h (M.lo k a)) (i + 1)
  else if op = 3 then ((M.dp, M.me, i_up M.pc k (i + 1), i_up M.ht k (h - 1), up2 M.lo k (i_up (M.lo k) a (s (h - 1))), up2 M.sk k s), M.2)
  else if op = 4 then M.go k (h - 1) s (i + 1)
  else if op = 5 then M.go k (h + 1) (i_up s h (s (h - 1))) (i + 1)
  else if op ≤ 10 then (if 9 ≤ op ∧ s (h - 1) = 0 then M.tp 2 else M.go k (h - 1) (i_up s (h - 2) (ari op (s (h - 2)) (s (h - 1)))) (i + 1))
  else if op = 11 then M.go k h s a
  else if op = 12 ∨ op = 14 then M.go k (h - 1) s (if s (h - 1) = 0 then a else i + 1)
  else if op = 13 then M.go k (h - 2) s (if s (h - 2) < s (h - 1) then a else i + 1)
  else if op = 15 then (if M.no = 200 then M.tp 6 else (M.gf k (h + 1) (i_up s h (M.no + 1)) (i + 1), (M.no + 1, i_up M.oc M.no a, (fun o => if o = M.no then fun _ _ => 0 else M.fd o), M.gs), M.2.2))
  else if op = 16 then (if s (h - 1) = 0 then M.tp 1 else M.go k h (i_up s (h - 1) (M.fd (s (h - 1) - 1) a b)) (i + 1))
  else if op = 17 then (if s (h - 2) = 0 then M.tp 1 else (M.gf k (h - 2) s (i + 1), (M.no, M.oc, (fun o c f => if o = s (h - 2) - 1 ∧ c = a ∧ f = b then s (h - 1) else M.fd o c f), M.gs), M.2.2))
  else if op = 18 then M.go k (h + 1) (i_up s h (M.gs (6 * a + b))) (i + 1)
  else if op = 19 then (M.gf k (h - 1) s (i + 1), (M.no, M.oc, M.fd, i_up M.gs (6 * a + b) (s (h - 1))), M.2.2)
  else if op ≤ 21 then (if P 3013 (P 3007 a + b) = 0 ∧ s (h - caL P (P 3007 a + b)) = 0 then M.tp 1 else if M.dp = 40 then M.tp 5 else
    ((M.dp + 1, i_up M.me M.dp (if op = 21 then fnd P (P 3012 (P 3007 a + b)) 10 (M.oc (s (h - caL P (P 3007 a + b)) - 1)) else P 3007 a + b), i_up M.pc M.dp 0, i_up (i_up M.ht k (h - caL P (P 3007 a + b))) M.dp 0, up2 M.lo M.dp (fun x => if x < caL P (P 3007 a + b) then s (h - caL P (P 3007 a + b) + x) else 0), M.sk), M.2.1, M.en, M.tr, M.ou, M.ov, if M.mx < M.dp + 1 then M.dp + 1 else M.mx))
  else if op = 22 then (if M.dp = 1 then (M.1, M.2.1, 0, M.2.2.2) else if P 3014 m = 0 then ((M.dp - 1, M.me, i_up M.pc (k - 1) (M.pc (k - 1) + 1), M.ht, M.lo, M.sk), M.2) else ((M.dp - 1, (M.gf (k - 1) (M.ht (k - 1) + 1) (i_up (M.sk (k - 1)) (M.ht (k - 1)) (s (h - 1))) (M.pc (k - 1) + 1)).2), M.2))
  else if op = 23 then (M.gf k (h - 1) s (i + 1), M.2.1, M.en, M.tr, M.ou + 1, (if M.ou < 100 then i_up M.ov M.ou (s (h - 1)) else M.ov), M.mx)
  else if op = 24 then (if ¬ s (h - 1) = 0 ∧ cov P a 10 (M.oc (s (h - 1) - 1)) = false then M.tp 3 else M.go k h s (i + 1))
  else if op = 25 then M.go k h (i_up s (h - 1) (if s (h - 1) = 0 then 0 else b2i (cov P a 10 (M.oc (s (h - 1) - 1))))) (i + 1)
  else M.tp 4
def stp (P : Pg) (M : Mc) : Mc := stO P M (M.dp - 1) (M.me (M.dp - 1)) (M.pc (M.dp - 1)) (P 1 (M.me (M.dp - 1) * 120 + M.pc (M.dp - 1))) (P 2 (M.me (M.dp - 1) * 120 + M.pc (M.dp - 1))) (P 3 (M.me (M.dp - 1) * 120 + M.pc (M.dp - 1))) (M.ht (M.dp - 1)) (M.sk (M.dp - 1))
/-- a value of a type -/
def vt (P : Pg) (no : Int) (oc : Int → Int) (t v : Int) : Prop := (t = 2 → v = 0) ∧ (3 ≤ t → 0 ≤ v ∧ v ≤ no) ∧ (4 ≤ t → v = 0 ∨ (1 ≤ v ∧ cv P (t - 4) (oc (v - 1)) = true))
def frt (P : Pg) (T : Int → Fl) (M : Mc) (k h : Int) : Prop := (0 ≤ M.me k ∧ M.me k < P 3001 0 ∧ 0 ≤ M.pc k ∧ M.pc k < P 0 (M.me k) ∧ 0 ≤ (T (M.me k)).1 (M.pc k)) ∧ M.ht k = h ∧ (∀ j, 0 ≤ j → j < h → vt P M.no M.oc ((T (M.me k)).2.1 (M.pc k) j) (M.sk k j)) ∧ ∀ x, 0 ≤ x → x < P 3017 (M.me k) → vt P M.no M.oc ((T (M.me k)).2.2 (M.pc k) x) (M.lo k x)
def hpt (P : Pg) (M : Mc) : Prop := (0 ≤ M.no ∧ M.no ≤ 200) ∧ (∀ o, 0 ≤ o → o < M.no → 0 ≤ M.oc o ∧ M.oc o < P 3000 0) ∧ (∀ o c f, 0 ≤ o → o < M.no → cv P c (M.oc o) = true → 0 ≤ f → f < P 3005 c → vt P M.no M.oc (tyof (P 3009 (c * 6 + f))) (M.fd o c f)) ∧ ∀ c f, 0 ≤ c → c < P 3000 0 → 0 ≤ f → f < P 3005 c → vt P M.no M.oc (tyof (P 3009 (c * 6 + f))) (M.gs (6 * c + f))
def opk (P : Pg) (M : Mc) (e : Nat) (k : Int) : Int := P e (M.me k * 120 + M.pc k)
def clk0 (P : Pg) (M : Mc) (k : Int) : Int := P 3007 (opk P M 2 k) + opk P M 3 k
def TyM (P : Pg) (T : Int → Fl) (M : Mc) : Prop := (1 ≤ M.dp ∧ M.dp ≤ 40) ∧ hpt P M ∧ frt P T M (M.dp - 1) ((T (M.me (M.dp - 1))).1 (M.pc (M.dp - 1))) ∧ ∀ k, 0 ≤ k → k < M.dp - 1 → (opk P M 1 k = 20 ∨ opk P M 1 k = 21) ∧ frt P T M k ((T (M.me k)).1 (M.pc k) - caL P (clk0 P M k)) ∧ P 3014 (M.me (k + 1)) = P 3014 (clk0 P M k)
section MACH
variable {P : Pg} {no : Int} {oc : Int → Int} {t u v w : Int}
theorem vt_0 (ht : t ≤ 1) : vt P no oc t v := ⟨fun h => by omega, fun h => by omega, fun h => by omega⟩
theorem vt_z (h0 : 0 ≤ no) : vt P no oc t 0 := ⟨fun _ => rfl, fun _ => ⟨by omega, h0⟩, fun _ => Or.inl rfl⟩
theorem vt_sb (hs : WFs P) (h0 : 0 ≤ no) (hoc : ∀ o, 0 ≤ o → o < no → 0 ≤ oc o ∧ oc o < P 3000 0) (h : vt P no oc t v) (hb : sbt P t u) : vt P no oc u v := by
  rcases hb with rfl | rfl | ⟨rfl, -⟩ | ⟨rfl, g⟩ | ⟨a1, a2, a3⟩
  · exact h
  · exact vt_0 (by omega)
  · rw [h.1 rfl]; exact vt_z h0
  · refine ⟨fun h => by omega, fun _ => ?_, fun h => by omega⟩
    by_cases g2 : t = 2
    · rw [h.1 g2]; exact ⟨by omega, h0⟩
    · exact h.2.1 (by omega)
  · refine ⟨fun h => by omega, fun _ => h.2.1 (by omega), fun _ => ?_⟩
    have hr := h.2.1 (by omega)
    rcases h.2.2 a1 with h | ⟨h1, h2⟩
    · exact Or.inl h
    · have ho := hoc (v - 1) (by omega) (by omega)
      exact Or.inr ⟨h1, cv_t hs _ ho.1 ho.2 h2 a3⟩
theorem vt_ft (hs : WFs P) (h0 : 0 ≤ no) (hoc : ∀ o, 0 ≤ o → o < no → 0 ≤ oc o ∧ oc o < P 3000 0) (h : vt P no oc t v) (ht : 1 ≤ t) (hf : ftt P t w = true) (hw : 4 ≤ w ∨ w = -2 ∨ w = 1) : (4 ≤ w → vt P no oc w v) ∧ (w = -2 → vt P no oc 3 v) := by
  unfold ftt at hf
  refine ⟨fun g => ?_, fun g => ?_⟩
  · rw [if_neg (by omega), if_neg (by omega), if_neg (by omega), Bool.or_eq_true, Bool.and_eq_true, decide_eq_true_eq, decide_eq_true_eq] at hf
    rcases hf with hf | ⟨f1, f2⟩
    · rw [h.1 hf]; exact vt_z h0
    · exact vt_sb hs h0 hoc h (Or.inr (Or.inr (Or.inr (Or.inr ⟨f1, g, f2⟩))))
  · subst g
    simp at hf
    exact vt_sb hs h0 hoc h (Or.inr (Or.inr (Or.inr (Or.inl ⟨rfl, by omega⟩))))
/-- more objects -/
theorem vt_mo {no' : Int} {oc' : Int → Int} (h : vt P no oc t v) (hn : no ≤ no') (ho : ∀ o, 0 ≤ o → o < no → oc' o = oc o) : vt P no' oc' t v := by
  refine ⟨h.1, fun g => ?_, fun g => ?_⟩
  · have := h.2.1 g
    omega
  · have := h.2.1 (by omega)
    rcases h.2.2 g with h | ⟨h1, h2⟩
    · exact Or.inl h
    · exact Or.inr ⟨h1, by rw [ho _ (by omega) (by omega)]; exact h2⟩
end MACH
