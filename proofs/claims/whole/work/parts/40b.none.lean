/-! the calls where there is no program, or no small one -/
section NONE
variable {K : j3_S → j3_S → Prop} {σc σr : j3_S} {x y z b : Int}
theorem s187 {d : Nat} {Q : j3_P} {σ : j3_S} (h : (if b = 0 then σ.1 10043 121 else σ.1 10044 121) = 0 ∨ (if b = 0 then σ.1 10043 121 else σ.1 10044 121) = 1) : j3_tc true (d + 1) 187 [wO 10 121, wI b] σ Q = Q (some (wI (if b = 0 then σ.1 10043 121 else σ.1 10044 121))) σ := by
  rw [e187, b187_0]
  by_cases g : b = 0
  · simp only [if_pos g] at h ⊢
    simp [h]
  · simp only [if_neg g] at h ⊢
    simp [h]
theorem th0_r {e : Nat} (h : (e == 10000) = false) : (th0 σr).1 e 121 = σr.1 e 121 := up_e h
theorem n135 (hc : (if b = 0 then σc.1 9005 0 else σc.1 9006 0) = 0) (hr : (if b = 0 then σr.1 10043 121 else σr.1 10044 121) = 0) (hK : K σc (th0 σr)) : q2 K 135 188 [wI b, wI x] σc σr := by
  unfold q2
  have hr' : (if b = 0 then (th0 σr).1 10043 121 else (th0 σr).1 10044 121) = 0 := by rw [th0_r rfl, th0_r rfl]; exact hr
  rw [e135, b135_0]
  have hM : ∀ (d : Nat) (Q : j3_P), j3_tc true (d + 2) 188 [wO 10 121, wI b, wI x] σr Q = if x < 0 then Q (some (wI (-1))) (th0 σr) else if 4 < x then Q (some (wI (-1))) (th0 σr) else Q (some (wI 0)) (th0 σr) := by
    intro d Q
    rw [e188, b188_0]
    by_cases g : x < 0
    · rw [if_pos g, if_pos g]; rfl
    · rw [if_neg g, if_neg g]
      by_cases g2 : 4 < x
      · rw [if_pos g2, if_pos g2]; rfl
      · rw [if_neg g2, if_neg g2]
        show j3_tc true (d + 1) 187 [wO 10 121, wI b] (th0 σr) _ = _
        rw [s187 (Or.inl hr'), hr']
        simp only [Option.toList_some, List.cons_append, List.nil_append]
        rw [b188_13, if_pos rfl]
  simp only [hM]
  by_cases g : x < 0
  · simp only [if_pos g]
    exact ⟨_, rfl, rfl, hK⟩
  · simp only [if_neg g]
    by_cases g2 : 4 < x
    · simp only [if_pos g2]
      exact ⟨_, rfl, rfl, hK⟩
    · simp only [if_neg g2]
      by_cases gb : b = 0
      · simp only [if_pos gb] at hc ⊢
        simp only [if_pos hc]
        exact ⟨_, rfl, rfl, hK⟩
      · simp only [if_neg gb] at hc ⊢
        simp only [if_pos hc]
        exact ⟨_, rfl, rfl, hK⟩
theorem n136 {w : Int} (hp : ¬ σc.2.1 7 = 0 ∧ ¬ σc.2.1 8 = 0) (hc : (if b = 0 then σc.1 9005 0 else σc.1 9006 0) = 0) (hr : (if b = 0 then σr.1 10043 121 else σr.1 10044 121) = 0) (hK : K σc (th0 σr)) : q2 K 136 189 [wI b, wI x, wI y, wI w] σc σr := by
  unfold q2
  have hr' : (if b = 0 then (th0 σr).1 10043 121 else (th0 σr).1 10044 121) = 0 := by rw [th0_r rfl, th0_r rfl]; exact hr
  have hM : ∀ (d : Nat) (Q : j3_P), j3_tc true (d + 2) 189 [wO 10 121, wI b, wI x, wI y, wI w] σr Q = Q (some (wI (-1))) (th0 σr) := by
    intro d Q
    have h8 : ∀ s : Int, T189 (d + 1) Q 8 [wO 10 121, wI b, wI x, wI y, wI w, wM 2, wM 2] [wI s] (th0 σr) = Q (some (wI (-1))) (th0 σr) := by
      intro s
      rw [b189_8, s187 (Or.inl hr'), hr']
      simp only [Option.toList_some, List.cons_append, List.nil_append]
      rw [b189_12, if_pos rfl]
    rw [e189, b189_0]
    by_cases g : b = 0
    · rw [if_pos g]; exact h8 0
    · rw [if_neg g]; exact h8 1
  simp only [hM]
  rw [e136, b136_0]
  by_cases gb : b = 0
  · simp only [if_pos gb] at hc ⊢
    rw [b136_7, if_pos gb, if_pos hc]
    exact ⟨hp.1, _, rfl, rfl, hK⟩
  · simp only [if_neg gb] at hc ⊢
    rw [b136_7, if_neg gb, if_pos hc]
    exact ⟨hp.2, _, rfl, rfl, hK⟩
theorem n137 (hc : σc.1 9005 0 = 0) (hr : σr.1 10043 121 = 0) (hK : K σc (th0 σr)) : q2 K 137 190 [wI x, wI y, wI z] σc σr := by
  unfold q2
  rw [e137, b137_0, if_pos hc]
  refine ⟨_, rfl, ?_⟩
  rw [e190, b190_0, if_pos hr]
  exact ⟨rfl, hK⟩
theorem n139 (hc : σc.1 9005 0 = 0) (hr : σr.1 10043 121 = 0) (hK : K σc (th0 σr)) : q2 K 139 191 [wI x] σc σr := by
  unfold q2
  rw [e139, b139_0, if_pos hc]
  refine ⟨_, rfl, ?_⟩
  rw [e191, b191_0, if_pos hr]
  exact ⟨rfl, hK⟩
theorem n142 (hc : σc.1 9006 0 = 0) (hr : σr.1 10044 121 = 0) (hK : K σc (th0 σr)) : q2 K 142 228 [wI x, wI y, wI z] σc σr := by
  unfold q2
  rw [e142, b142_0, if_pos hc]
  refine ⟨_, rfl, ?_⟩
  rw [e228, b228_0, if_pos hr]
  exact ⟨rfl, hK⟩
theorem n144 (hc : σc.1 9006 0 = 0) (hr : σr.1 10044 121 = 0) (hK : K σc (th0 σr)) : q2 K 144 230 [wI x, wI y, wI z] σc σr := by
  unfold q2
  rw [e144, b144_0, if_pos hc]
  refine ⟨_, rfl, ?_⟩
  rw [e230, b230_0, if_pos hr]
  exact ⟨rfl, hK⟩
theorem n150 (hc : σc.1 9006 0 = 0) (hr : σr.1 10044 121 = 0) (hK : K σc (th0 σr)) : q2 K 150 246 [] σc σr := by
  unfold q2
  rw [e150, b150_0, if_pos hc]
  refine ⟨by simp, _, rfl, ?_⟩
  rw [e246, b246_0, if_pos hr]
  exact ⟨by simp, rfl, hK⟩
end NONE
