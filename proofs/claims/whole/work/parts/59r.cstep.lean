/-! the class's step, every instruction -/
theorem c_step {σ : j3_S} {P : Pg} {T : Int → Fl} {M : Mc} {o : Nat} (B : cBd σ o P T M) (hou : M.ou < 2147483647) : cSt P T M σ := by
  obtain ⟨o0, o1, -⟩ := B.2.2.2.1.ik B.1.1.1
  rcases (by omega : (tO P M = 0 ∨ tO P M = 1 ∨ tO P M = 2) ∨ tO P M = 3 ∨ tO P M = 4 ∨ tO P M = 5 ∨ (6 ≤ tO P M ∧ tO P M ≤ 10) ∨ tO P M = 11 ∨ (tO P M = 12 ∨ tO P M = 14) ∨ tO P M = 13 ∨ tO P M = 15 ∨ tO P M = 16 ∨ tO P M = 17 ∨ tO P M = 18 ∨ tO P M = 19 ∨ (tO P M = 20 ∨ tO P M = 21) ∨ tO P M = 22 ∨ tO P M = 23 ∨ (tO P M = 24 ∨ tO P M = 25) ∨ tO P M = 26) with g | g | g | g | g | g | g | g | g | g | g | g | g | g | g | g | g | g
  · exact c_0 B.1.1 B.1.2 B.2.1.1 B.2.1.2.1 B.2.1.2.2.1 B.2.2.1 B.2.2.2.1 B.2.2.2.2 g
  · exact c_3 B g
  · exact c_4 B g
  · exact c_5 B g
  · exact c_6 B g
  · exact c_11 B g
  · exact c_12 B g
  · exact c_13 B g
  · exact c_15 B g
  · exact c_16 B g
  · exact c_17 B g
  · exact c_18 B g
  · exact c_19 B g
  · exact c_20 B g
  · exact c_22 B g
  · exact c_23 B g hou
  · exact c_24 B g
  · exact c_26 B g
