/-! the invariant under small changes; the calls that only tell, feed, end -/
def jcI : List Nat := [9005, 9006, 9007, 9009, 9013, 8001, 3000, 3001]
def jcA : List Nat := [9008, 1005, 1006, 1007, 6000, 6001, 6002, 6003, 6004, 6005, 8000] ++ pgA
def jrI : List Nat := [10043, 10044, 10042, 10045, 10076]
def jrA : List Nat := [10009, 10010, 10011, 10012, 10013, 10014, 10015, 10016, 10017, 10018, 10019, 10020, 10021, 10022, 10023, 10024, 10025, 10026, 10027, 10028, 10029, 10030, 10031, 10032, 10034, 10035, 10036, 10037, 10038, 10046, 10052, 10069, 10070, 10071, 10075]
section CALLS
variable {σc σr σc' σr' : j3_S} {lic lac lir lar : List Nat} {x : Int}
theorem all_n {l l' : List Nat} (h : l.all (fun e => !l'.elem e) = true) {e : Nat} (he : l.elem e = true) : l'.elem e = false := by
  have := List.all_eq_true.mp h e (by simpa using he)
  simpa using this
theorem JJ.ch (h : JJ σc σr) (hc : frm lic lac σc σc') (hr : frm lir lar σr σr') (c1 : jcI.all (fun e => !lic.elem e) = true) (c2 : jcA.all (fun e => !lac.elem e) = true) (r1 : jrI.all (fun e => !lir.elem e) = true) (r2 : jrA.all (fun e => !lar.elem e) = true) (htp : tpR σc' σr') (hf : fR σc' σr') (hm : mR σc' σr') : JJ σc' σr' := by
  obtain ⟨⟨-, -, -, ⟨⟨fl1, fl2⟩, ⟨fl3, fl4⟩, fl5, fl6⟩, hpt⟩, hg⟩ := h
  have ci : ∀ e o, jcI.elem e = true → σc'.1 e o = σc.1 e o := fun e o he => hc.2.1 e o (all_n c1 he)
  have ca : ∀ e o, jcA.elem e = true → σc'.2.2 e o = σc.2.2 e o := fun e o he => hc.2.2 e o (all_n c2 he)
  have ri : ∀ e o, jrI.elem e = true → σr'.1 e o = σr.1 e o := fun e o he => hr.2.1 e o (all_n r1 he)
  have ra : ∀ e o, jrA.elem e = true → σr'.2.2 e o = σr.2.2 e o := fun e o he => hr.2.2 e o (all_n r2 he)
  have sg : ∀ g, smP g σc σc' := fun g => ⟨⟨ci 3000 g rfl, ci 3001 g rfl⟩, fun e he => by
    have : jcA.elem e = true := by
      simp only [jcA, List.elem_eq_mem, List.mem_append, decide_eq_true_eq] at he ⊢
      exact Or.inr he
    exact ⟨ca e g this, ca e (g + 17) this⟩⟩
  have ss : ∀ s, smS s σr σr' := fun s e z e0 e1 _ _ hn => by
    have : jrA.elem e = true := by
      rcases (by omega : e = 10009 ∨ e = 10010 ∨ e = 10011 ∨ e = 10012 ∨ e = 10013 ∨ e = 10014 ∨ e = 10015 ∨ e = 10016 ∨ e = 10017 ∨ e = 10018 ∨ e = 10019 ∨ e = 10020 ∨ e = 10021 ∨ e = 10022 ∨ e = 10023 ∨ e = 10024 ∨ e = 10025 ∨ e = 10026 ∨ e = 10027 ∨ e = 10028 ∨ e = 10029 ∨ e = 10030 ∨ e = 10031 ∨ e = 10032 ∨ e = 10034) with rfl | rfl | rfl | rfl | rfl | rfl | rfl | rfl | rfl | rfl | rfl | rfl | rfl | rfl | rfl | rfl | rfl | rfl | rfl | rfl | rfl | rfl | rfl | rfl | rfl <;> rfl
    rw [ra e 121 this]
  refine ⟨⟨htp, hf, hm, ⟨⟨?_, ?_⟩, ⟨?_, ?_⟩, ?_, ?_⟩, by unfold ptR; rw [hc.1]; exact hpt⟩, fun q => ?_⟩
  · rw [ci 9005 0 rfl, ri 10043 121 rfl]; exact fl1
  · rw [ri 10043 121 rfl]; exact fl2
  · rw [ci 9006 0 rfl, ri 10044 121 rfl]; exact fl3
  · rw [ri 10044 121 rfl]; exact fl4
  · rw [ri 10044 121 rfl, ri 10043 121 rfl]; exact fl5
  · rw [ri 10042 121 rfl]; exact fl6
  · rw [ri 10043 121 rfl] at q
    obtain ⟨P, hgp, hsm⟩ := hg q
    refine ⟨P, hgp.mv (by rw [hc.1]) (sg _) (ss 0) (fun z _ => by rw [ra 10035 121 rfl, ra 10036 121 rfl]; exact ⟨rfl, rfl⟩) (fun z _ => by rw [ra 10037 121 rfl]) (fun z _ => by rw [ra 10038 121 rfl]) (Or.inr ⟨ci 9013 0 rfl, fun e he => ?_⟩) ⟨ci 9009 0 rfl, ri 10045 121 rfl, ca 9008 0 rfl, ra 10046 121 rfl, ci 9007 0 rfl⟩, fun q2 => ?_⟩
    · simp at he
      rcases he with rfl | rfl | rfl <;> exact ca _ 76 rfl
    · rw [ri 10044 121 rfl] at q2
      obtain ⟨P', hs⟩ := hsm q2
      refine ⟨P', hs.mv (by rw [hc.1]) (sg _) (ss 1) (ci 8001 90 rfl) (fun e he => ?_) (ca 8000 90 rfl) (ri 10076 121 rfl) (fun e he => ?_) ⟨ci 9009 0 rfl, ca 9008 0 rfl⟩⟩
      · simp at he
        rcases he with rfl | rfl | rfl | rfl | rfl | rfl <;> exact ca _ 83 rfl
      · simp [rmA] at he
        rcases he with rfl | rfl | rfl | rfl | rfl <;> exact ra _ 121 rfl
theorem th0_f : frm [10000] [] σr (th0 σr) := frm.I rfl frm.rf
theorem tpR.fr (h : tpR σc σr) (hc : frm lic lac σc σc') (hr : frm lir lar σr σr') (c1 : lic.elem 9001 = false) (c2 : lac.elem 9000 = false) (r1 : lir.elem 10002 = false) (r2 : lar.elem 10001 = false) : tpR σc' σr' := by
  unfold tpR
  rw [hc.2.1 _ _ c1, hc.2.2 _ _ c2, hr.2.1 _ _ r1, hr.2.2 _ _ r2]
  exact h
theorem fR.fr (h : fR σc σr) (hc : frm lic lac σc σc') (hr : frm lir lar σr σr') (c2 : lac.elem 9010 = false) (r1 : lir.elem 10005 = false) (r2 : lar.elem 10006 = false) : fR σc' σr' := by
  unfold fR
  rw [hc.2.2 _ _ c2, hr.2.1 _ _ r1, hr.2.2 _ _ r2]
  exact h
theorem mR.fr (h : mR σc σr) (hc : frm lic lac σc σc') (hr : frm lir lar σr σr') (c1 : lic.elem 2000 = false) (c2 : [2001, 2002, 2003, 2004].all (fun e => !lac.elem e) = true) (r1 : [10077, 10089].all (fun e => !lir.elem e) = true) (r2 : [10078, 10090, 10091, 10092].all (fun e => !lar.elem e) = true) : mR σc' σr' := by
  unfold mR
  rw [hc.2.1 _ _ c1, hc.2.2 2001 109 (all_n c2 rfl), hc.2.2 2002 109 (all_n c2 rfl), hc.2.2 2003 109 (all_n c2 rfl), hc.2.2 2004 109 (all_n c2 rfl), hr.2.1 10077 121 (all_n r1 rfl), hr.2.1 10089 121 (all_n r1 rfl), hr.2.2 10078 121 (all_n r2 rfl), hr.2.2 10090 121 (all_n r2 rfl), hr.2.2 10091 121 (all_n r2 rfl), hr.2.2 10092 121 (all_n r2 rfl)]
  exact h
theorem JJ.th (h : JJ σc σr) : JJ σc (th0 σr) := h.ch (lic := []) (lac := []) frm.rf th0_f rfl rfl rfl rfl (h.1.1.fr (lic := []) (lac := []) frm.rf th0_f rfl rfl rfl rfl) (h.1.2.1.fr (lic := []) (lac := []) frm.rf th0_f rfl rfl rfl) (h.1.2.2.1.fr (lic := []) (lac := []) frm.rf th0_f rfl rfl rfl rfl)
theorem h128 {x1 x2 x3 x4 x5 : Int} (h : JJ σc σr) : q2 JJ 128 156 [wI x1, wI x2, wI x3, wI x4, wI x5] σc σr := by
  refine g128 h.1.1 h.th (fun n t u ht => ?_)
  have fc : frm [9001] [9000] σc (j3_up σc.1 9001 0 n, σc.2.1, j3_up σc.2.2 9000 0 t) := frm.I rfl (frm.A rfl frm.rf)
  have fr : frm [10000, 10002] [10001] σr (j3_up (th0 σr).1 10002 121 n, σr.2.1, j3_up σr.2.2 10001 121 u) := frm.I rfl (frm.I rfl (frm.A rfl frm.rf))
  exact h.ch fc fr rfl rfl rfl rfl ht (h.1.2.1.fr fc fr rfl rfl rfl) (h.1.2.2.1.fr fc fr rfl rfl rfl rfl)
theorem h130 (h : JJ σc σr) : q2 JJ 130 157 [wI x] σc σr := by
  refine g130 h.1.1 h.th (fun n ht => ?_)
  have fc : frm [9001] [] σc (j3_up σc.1 9001 0 n, σc.2.1, σc.2.2) := frm.I rfl frm.rf
  have fr : frm [10000, 10002] [] σr (j3_up (th0 σr).1 10002 121 n, σr.2.1, σr.2.2) := frm.I rfl (frm.I rfl frm.rf)
  exact h.ch fc fr rfl rfl rfl rfl ht (h.1.2.1.fr fc fr rfl rfl rfl) (h.1.2.2.1.fr fc fr rfl rfl rfl rfl)
theorem h134 (h : JJ σc σr) : q2 JJ 134 186 [wI x] σc σr := g134 h.1.2.1 h.th
theorem h146 (h : JJ σc σr) : q2 JJ 146 242 [wI x] σc σr := g146 h.1.2.2.1 h.th
theorem h147 (h : JJ σc σr) : q2 JJ 147 243 [wI x] σc σr := g147 h.1.2.2.1 h.th
theorem h148 (h : JJ σc σr) : q2 JJ 148 244 [wI x] σc σr := g148 h.1.2.2.1 h.th
theorem h149 (h : JJ σc σr) : q2 JJ 149 245 [wI x] σc σr := g149 h.1.2.2.1 h.th
theorem h143 (h : JJ σc σr) : q2 JJ 143 229 [wI x] σc σr := by
  refine g143 h.1.2.2.2.1.2.1.1 (fun q => ?_) h.th
  obtain ⟨P, -, hs⟩ := h.2 (h.1.2.2.2.1.2.2.1 q)
  obtain ⟨P', -, -, -, d1, -⟩ := hs q
  exact d1.1
theorem h141 (h : JJ σc σr) : q2 JJ 141 227 [wI x] σc σr := by
  refine g141 h.1.2.2.2.1.2.1.1 (fun q => ?_) h.th
  obtain ⟨P, -, hs⟩ := h.2 (h.1.2.2.2.1.2.2.1 q)
  obtain ⟨P', -, -, -, d1, -⟩ := hs q
  exact ⟨d1.2.1.1, d1.2.1.2.2.1, d1.2.1.2.2.2⟩
end CALLS
