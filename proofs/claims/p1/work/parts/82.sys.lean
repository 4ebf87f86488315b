/-! the system is one that the small machine runs -/
theorem js_zf {l : List Cond} {k : List Nat} (hl : l.length = k.length) (h : (l.zip k).all (fun x => decide (tables_1[x.2]? = some x.1) && goodWord x.1) = true) : ∀ w ∈ l, w ∈ jt_tb := by
  intro w hw
  obtain ⟨p, hp⟩ := jt_zip _ _ hl w hw
  have := List.all_eq_true.mp h _ hp
  simp only [Bool.and_eq_true, decide_eq_true_eq] at this
  exact jt_in _ this.1 this.2
theorem js_w0 : ∀ w ∈ wsX00, w ∈ jt_tb := js_zf (k := [83, 85, 87, 89, 91]) (by decide +kernel) (by decide +kernel)
theorem js_w1 : ∀ w ∈ wsX10, w ∈ jt_tb := js_zf (k := [299, 301, 303, 305, 307, 309, 311, 313, 315, 317, 319, 321, 323, 325, 327]) (by decide +kernel) (by decide +kernel)
theorem js_w2 : ∀ w ∈ wsX20, w ∈ jt_tb := js_zf (k := [506, 508, 510, 512, 514, 516, 518, 520, 522, 524, 526, 528, 530, 532, 534, 536]) (by decide +kernel) (by decide +kernel)
theorem js_w3 : ∀ w ∈ wsX30, w ∈ jt_tb := js_zf (k := [195, 197, 199, 201, 203, 205, 207, 209, 211, 213, 215, 217, 219, 221, 223, 225, 227, 229, 231]) (by decide +kernel) (by decide +kernel)
theorem js_w4 : ∀ w ∈ wsX40, w ∈ jt_tb := js_zf (k := [365, 367, 369, 371, 373]) (by decide +kernel) (by decide +kernel)
theorem js_w5 : ∀ w ∈ wsX50, w ∈ jt_tb := js_zf (k := [254, 256, 258, 260, 262, 264, 266, 268, 270, 272, 274]) (by decide +kernel) (by decide +kernel)
theorem js_w6 : ∀ w ∈ wsX60, w ∈ jt_tb := js_zf (k := [448, 450, 452, 454, 456, 458, 460, 462, 464, 466, 468, 470, 472, 474, 476]) (by decide +kernel) (by decide +kernel)
theorem js_w7 : ∀ w ∈ wsX70, w ∈ jt_tb := js_zf (k := [401, 403, 405, 407, 409, 411, 413, 415, 417, 419, 421, 423]) (by decide +kernel) (by decide +kernel)
theorem js_w8 : ∀ w ∈ wsX80, w ∈ jt_tb := js_zf (k := [347, 349]) (by decide +kernel) (by decide +kernel)
theorem js_w9 : ∀ w ∈ wsX90, w ∈ jt_tb := js_zf (k := [555, 557, 559, 561, 563, 565, 567, 569, 571, 573, 575, 577, 579, 581, 583, 585]) (by decide +kernel) (by decide +kernel)
theorem js_w10 : ∀ w ∈ wsX100, w ∈ jt_tb := js_zf (k := [1650, 1652, 1654, 1656, 1658, 1660, 1662, 1664, 1666, 1668, 1670, 1672, 1674, 1676, 1678, 1680, 1682, 1684, 1686, 1688, 1690, 1692, 1694, 1696, 1698, 1700, 1702, 1704, 1706, 1708, 1710, 1712, 1714, 1716, 1718, 1720, 1722, 1724, 1726, 1728, 1730, 1732, 1734, 1736, 1738, 1740, 1742, 1744, 1746, 1748, 1750, 1752, 1754, 1756, 1758, 1760, 1762, 1764, 1766, 1768, 1770, 1772, 1774, 1776, 1778, 1780, 1782, 1784, 1786, 1788, 1790, 1792, 1794, 1796, 1798, 1800, 1802, 1804, 1806, 1808, 1810, 1812, 1814, 1816, 1818, 1820, 1822, 1824, 1826, 1828, 1830, 1832, 1834, 1836, 1838, 1840, 1842]) (by decide +kernel) (by decide +kernel)
theorem js_so : jm_so jG jU := by
  intro q C T N h
  match q, h with
  | 0, h => cases h; exact ⟨js_w0, tyX0_ok, nmX0⟩
  | 1, h => cases h; exact ⟨js_w1, tyX1_ok, nmX1⟩
  | 2, h => cases h; exact ⟨js_w2, tyX2_ok, nmX2⟩
  | 3, h => cases h; exact ⟨js_w3, tyX3_ok, nmX3⟩
  | 4, h => cases h; exact ⟨js_w4, tyX4_ok, nmX4⟩
  | 5, h => cases h; exact ⟨js_w5, tyX5_ok, nmX5⟩
  | 6, h => cases h; exact ⟨js_w6, tyX6_ok, nmX6⟩
  | 7, h => cases h; exact ⟨js_w7, tyX7_ok, nmX7⟩
  | 8, h => cases h; exact ⟨js_w8, tyX8_ok, nmX8⟩
  | 9, h => cases h; exact ⟨js_w9, tyX9_ok, nmX9⟩
  | 10, h => cases h; exact ⟨js_w10, tyX10_ok, nmX10⟩
  | q + 11, h => cases h
theorem js_tg : jm_tg jU := fun _ h => (List.mem_filter.mp h).2
def js_isN (w : Cond) : Bool := match w with
  | .fieldLinkNest .. => true
  | .methodLinkNest .. => true
  | _ => false
theorem js_ng : jm_ng jU := by
  have h : ∀ w ∈ jt_nw, js_isN w = true := by decide +kernel
  intro w hw
  have := h w hw
  cases w <;> first | exact Or.inl ⟨_, _, _, _, _, _, rfl⟩ | exact Or.inr ⟨_, _, _, _, rfl⟩ | simp [js_isN] at this
theorem js_mo (y : Nat) (h : y < jm_nM jU) : jm_mo jG jU y := by
  have hy : y < 250 := h
  have := jt_f_mo y hy
  simp only [jt_c_mo, Bool.and_eq_true, decide_eq_true_eq] at this
  obtain ⟨a1, a2, a3, a4, a5, a6, a7⟩ := this
  exact ⟨List.mem_filter.mpr ⟨List.mem_append_right _ (jw_all y hy), rfl⟩, jt_in _ a1 rfl, ⟨a2.1, a2.2, a3⟩, a4, a5⟩
theorem js_h0 (y : Nat) (h : y < jm_nM jU) : jm_ps jU y 0 = 0 := by
  have := jt_f_mo y h
  simp only [jt_c_mo, Bool.and_eq_true, decide_eq_true_eq] at this
  exact this.2.2.2.2.2.1
theorem js_ow (y : Nat) (h : y < jm_nM jU) : (jm_nm jU y).cls = jt_R (jt_ow.getD y 0) := by
  have := jt_f_mo y h
  simp only [jt_c_mo, Bool.and_eq_true, decide_eq_true_eq] at this
  exact this.2.2.2.2.2.2
theorem js_len1 : jt_fl.length = jq_fl.length ∧ jt_ct.length = jq_ct.length ∧ jt_lk.length = jq_lk.length ∧ jt_cn.length = jq_cn.length ∧ jt_mx.length = jq_mx.length ∧ jt_cp.length = jq_cp.length ∧ jt_ob.length = jq_ob.length := by decide +kernel
def js_c_kn (y : Nat) (p : Nat × Nat) : Bool := match jt_kn.getD y 9 with
  | 0 => decide (tables_1[p.1]? = some (Cond.static (jm_nm jU y)))
  | 1 => decide (tables_1[p.1]? = some (Cond.instanceMethod (jm_nm jU y))) && (decide (lw_tbl[p.2]? = some (Cond.selects (jm_nm jU y).cls (jm_nm jU y) (jm_nm jU y))) && (match jt_cl[jm_mk jG y]? with
    | some (C, _, N) => decide (C = (jm_nm jU y).cls) && decide (N = jm_sz jG (jm_mk jG y))
    | none => false))
  | 2 => decide (tables_1[p.1]? = some (Cond.instanceMethod (jm_nm jU y))) && (decide ((jm_nm jU y).name = "<init>") && decide (jm_rt jG y = none))
  | _ => false
theorem js_f_kn1 : ∀ y, y < 60 → js_c_kn y (jq_kn.getD y (0, 0)) = true := by decide +kernel
theorem js_f_kn2 : ∀ y, y < 60 → js_c_kn (60 + y) (jq_kn.getD (60 + y) (0, 0)) = true := by decide +kernel
theorem js_f_kn3 : ∀ y, y < 60 → js_c_kn (120 + y) (jq_kn.getD (120 + y) (0, 0)) = true := by decide +kernel
theorem js_f_kn4 : ∀ y, y < 70 → js_c_kn (180 + y) (jq_kn.getD (180 + y) (0, 0)) = true := by decide +kernel
theorem js_f_kn (y : Nat) (h : y < 250) : js_c_kn y (jq_kn.getD y (0, 0)) = true := by
  by_cases h1 : y < 60
  · exact js_f_kn1 y h1
  by_cases h2 : y < 120
  · have := js_f_kn2 (y - 60) (by omega)
    rwa [show 60 + (y - 60) = y by omega] at this
  by_cases h3 : y < 180
  · have := js_f_kn3 (y - 120) (by omega)
    rwa [show 120 + (y - 120) = y by omega] at this
  · have := js_f_kn4 (y - 180) (by omega)
    rwa [show 180 + (y - 180) = y by omega] at this
theorem js_Xo : jm_Xo jG jU jX jt_R := by
  obtain ⟨l1, l2, l3, l4, l5, l6, l7⟩ := js_len1
  refine ⟨fun q hq => ?_, fun q hq => ?_, fun q hq => ?_, fun q hq => ?_, fun q hq => ?_, fun q hq => ?_, fun q hq => ?_, fun q hq => ?_, fun t ht => ?_, fun y hy => ?_⟩
  · obtain ⟨p, hp⟩ := jt_zip _ _ l1 q hq
    have := jt_f_fl _ hp
    simp only [jt_c_fl] at this
    split at this
    · rename_i C F N hc
      simp only [Bool.and_eq_true, decide_eq_true_eq] at this
      obtain ⟨a1, a2, a3, a4, a5, a6, a7⟩ := this
      exact ⟨C, F, N, hc, a1, a2, jt_in _ a3 rfl, a4, a5, a6, jt_tyok_ok a7⟩
    · cases this
  · obtain ⟨p, hp⟩ := jt_zip _ _ l2 q hq
    have := List.all_eq_true.mp jt_f_ct _ hp
    simp only [decide_eq_true_eq] at this
    exact jt_in _ this rfl
  · obtain ⟨p, hp⟩ := jt_zip _ _ l3 q hq
    have := jt_f_lk _ hp
    simp only [jt_c_lk, Bool.and_eq_true, decide_eq_true_eq] at this
    refine ⟨this.1, ?_⟩
    have h2 := this.2
    split at h2
    · exact Or.inr ⟨_, of_decide_eq_true h2⟩
    · exact Or.inl (jt_in _ (of_decide_eq_true h2) rfl)
  · obtain ⟨p, hp⟩ := jt_zip _ _ l4 q hq
    have := List.all_eq_true.mp jt_f_cn _ hp
    simp only [jt_c_cn] at this
    split at this
    · rename_i C F N hc
      simp only [Bool.and_eq_true, decide_eq_true_eq] at this
      exact ⟨C, F, N, hc, this.1, jt_in _ this.2.1 rfl, jt_in _ this.2.2.1 rfl, jt_in _ this.2.2.2 rfl⟩
    · cases this
  · exact jt_f_gs q hq
  · obtain ⟨p, hp⟩ := jt_zip _ _ l5 q hq
    have := List.all_eq_true.mp jt_f_mx _ hp
    simp only [decide_eq_true_eq] at this
    exact ⟨jt_in _ this rfl, jt_in 806 (by decide +kernel) rfl, jt_in 22 (by decide +kernel) rfl, jt_in 807 (by decide +kernel) rfl⟩
  · obtain ⟨p, hp⟩ := jt_zip _ _ l6 q hq
    have := List.all_eq_true.mp jt_f_cp _ hp
    simp only [decide_eq_true_eq] at this
    exact ⟨jt_in _ this rfl, jt_in 828 (by decide +kernel) rfl, jt_in 827 (by decide +kernel) rfl, jt_in 23 (by decide +kernel) rfl⟩
  · obtain ⟨p, hp⟩ := jt_zip _ _ l7 q hq
    have := List.all_eq_true.mp jt_f_ob _ hp
    simp only [decide_eq_true_eq] at this
    exact ⟨jt_in _ this rfl, jt_in 34 (by decide +kernel) rfl, jt_in 35 (by decide +kernel) rfl⟩
  · cases t <;> simp only [jm_kd] at ht <;> first | omega | skip
    · exact jt_in 1845 (by decide +kernel) rfl
    · exact jt_in 94 (by decide +kernel) rfl
    · exact jt_in 95 (by decide +kernel) rfl
  · have h := js_f_kn y hy
    simp only [js_c_kn] at h
    refine ⟨fun hk => ?_, fun hk => ?_, fun hk => ?_⟩
    · have hk : jt_kn.getD y 9 = 0 := hk
      rw [hk] at h
      exact jt_in _ (of_decide_eq_true h) rfl
    · have hk : jt_kn.getD y 9 = 1 := hk
      rw [hk] at h
      simp only [Bool.and_eq_true, decide_eq_true_eq] at h
      refine ⟨jt_in _ h.1 rfl, jt_in2 _ h.2.1 rfl, ?_⟩
      have h3 := h.2.2
      split at h3
      · rename_i C F N hc
        simp only [Bool.and_eq_true, decide_eq_true_eq] at h3
        exact ⟨F, by rw [← h3.1, ← h3.2]; exact hc⟩
      · cases h3
    · have hk : jt_kn.getD y 9 = 2 := hk
      rw [hk] at h
      simp only [Bool.and_eq_true, decide_eq_true_eq] at h
      exact ⟨jt_in _ h.1 rfl, h.2.1, h.2.2⟩
