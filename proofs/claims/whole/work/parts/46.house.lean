/-! house, street -/
section Q46
variable {X : pm_X} {d k : Nat} {g : pm_G} {iv : pm_V} {v : HV} {x y z : Int32}
/-- what house answers -/
def houI (v : HV) (h : Nat) (y : Int32) : Int32 := if y = 0 then nI (vl v h) else if y = 1 then nI (vy v h) else if y = 2 then nI (vH v h) else if y = 3 then (if vC v h = true then 1 else 0) else if y = 4 then vt v h else nI (vwN v h)
theorem t_house_at (hd : 4 ≤ d) (hL : pm_lay g) (hv : SV iv 11 v) (ho : Hok v) {h : Nat} (hh : h < vN v) (hy : ip y 6 = true) : pm_at X d 103 (14, [some (.ref 0), some (.int (nI h)), some (.int y)], [], g, iv) = some (some (.int (houI v h y)), g, iv) := by
  obtain ⟨j, hj, rfl⟩ := ip_ex hy (by omega)
  have e : j = 0 ∨ j = 1 ∨ j = 2 ∨ j = 3 ∨ j = 4 ∨ j = 5 := by omega
  rcases e with rfl | rfl | rfl | rfl | rfl | rfl
  · rw [b103_14_c0 (show nI 0 = 0 from rfl)]
    simp only [b103_52 hL, t_laneOf (show 2 ≤ d by omega) (lay_now hL) hv ho hh, pm_then_i, pm_then_l, pm_then_v, b103_60]
    rfl
  · rw [b103_14_c1 (show nI 1 = 1 from rfl)]
    simp only [b103_61 hL, t_yardOf (show 2 ≤ d by omega) (lay_now hL) hv ho hh, pm_then_i, pm_then_l, pm_then_v, b103_69]
    rfl
  · rw [b103_14_c2 (show nI 2 = 2 from rfl)]
    simp only [b103_70 hL, t_heavyOf (show 2 ≤ d by omega) (lay_now hL) hv ho hh, pm_then_i, pm_then_l, pm_then_v, b103_78]
    rfl
  · rw [b103_14_c3 (show nI 3 = 3 from rfl)]
    simp only [b103_79 hL, t_isChocked (show 2 ≤ d by omega) (lay_now hL) hv ho hh, pm_then_i, pm_then_l, pm_then_v, b103_87, b103_90, b103_94, b103_95]
    have e : houI v h (nI 3) = if vC v h = true then 1 else 0 := rfl
    rw [e]
    by_cases q : vC v h = true <;> simp only [q, bz_0, bz_n, bz_1, pm_zr0, pm_zr1, pm_zrI, if_true, if_false, not_true, not_false_eq_true, Bool.false_eq_true, true_and, and_true, false_and, and_false, z10, z01, zz0, eq_self]
  · rw [b103_14_c4 (show nI 4 = 4 from rfl)]
    simp only [b103_96 hL, t_lentOf (show 2 ≤ d by omega) (lay_now hL) hv ho hh, pm_then_i, pm_then_l, pm_then_v, b103_104]
    rfl
  · rw [b103_14_c5 (show nI 5 = 5 from rfl)]
    simp only [b103_105 hL, t_viewOf (show 4 ≤ d by omega) (lay_now hL) hv ho hh, pm_then_i, pm_then_l, pm_then_v, b103_113]
    rfl
theorem m_house_at (hd : 3 ≤ d) (hL : pm_lay g) (hv : HAr (iv 36) v) (ho : Hok v) {h : Nat} (hh : h < vN v) (hy : ip y 6 = true) : ∃ iv', chg [40, 41] iv iv' ∧ pm_at X d 175 (28, [some (.ref 32), some (.int (nI h)), some (.int y)], [], g, iv) = some (some (.int (houI v h y)), g, iv') := by
  have hN := ho.2.2.1
  obtain ⟨j, hj, rfl⟩ := ip_ex hy (by omega)
  by_cases h5 : j = 5
  · subst h5
    obtain ⟨iv', a1, a2⟩ := m_viewOf (X := X) hd hL hv ho hh
    refine ⟨iv', a2, ?_⟩
    rw [b175_28, if_neg (not_not_intro (show nI 5 = 5 from rfl)), b175_33 hL, a1]
    simp only [pm_then_i, pm_then_l, pm_then_v, b175_38, b175_49]
    rfl
  · refine ⟨iv, chg_rf, ?_⟩
    have e5 : ¬ nI j = 5 := fun e => h5 ((nI_eq (a := j) (b := 5) (by omega) (by omega)).mp e)
    have e1 : (1 : Int32) + nI j = nI (1 + j) := nI_add 1 j
    have hm := m_of (X := X) (iv := iv) (y := nI (1 + j)) (show 1 ≤ d by omega) hL (h := h) (w := 1 + j) (by omega) (by omega) rfl
    have e : j = 0 ∨ j = 1 ∨ j = 2 ∨ j = 3 ∨ j = 4 := by omega
    have hb := hv.2.2.2.2.2 h hh
    rw [b175_28, if_pos e5, b175_41 hL, e1, hm]
    simp only [pm_then_i, pm_then_l, pm_then_v, b175_49]
    rcases e with rfl | rfl | rfl | rfl | rfl
    · rw [hb.2.1]; rfl
    · rw [hb.2.2.1]; rfl
    · rw [hb.2.2.2.1]; rfl
    · rw [hb.2.2.2.2.1]; rfl
    · rw [hb.2.2.2.2.2]; rfl
theorem q_house (hd : 6 ≤ d) (h : RL g iv) : PR X d g iv 103 175 [.ref 0, .int x, .int y] [.ref 32, .int x, .int y] := by
  obtain ⟨d, rfl, hd1⟩ := pm_d1 hd
  obtain ⟨hg, v, co⟩ := h
  have hL := hg.1
  have hv := co.1.1
  have ho := co.1.2.2.1
  have hN := ho.2.2.1
  have co2 := CO_0 co
  have hw := co2.1.2.1
  by_cases q1 : ip x (vN v) = true
  · obtain ⟨h, hh, rfl⟩ := ip_ex q1 (by omega)
    by_cases q2 : ip y 6 = true
    · obtain ⟨iv', a1, a2⟩ := m_house_at (X := X) (y := y) (show 3 ≤ d by omega) hL hw ho hh q2
      refine ⟨houI v h y, iv, iv', ?_, ?_, hg, v, CO_f0 co2 (chg_mo a1 (by decide)) (a1 32 (by decide))⟩
      · simp only [e103, b103_0 hL, t_isHouse (show 1 ≤ d by omega) (lay_now hL) hv ho, q1, pm_then_i, pm_then_l, pm_then_v, bz_0, bz_n, bz_1, pm_zr0, pm_zr1, pm_zrI, if_true, if_false, not_true, not_false_eq_true, Bool.false_eq_true, true_and, and_true, false_and, and_false, z10, z01, zz0, eq_self, b103_8, t_house_at (show 4 ≤ d by omega) hL hv ho hh q2]
      · simp only [e175, b175_0 hL, m_isHouse (show 2 ≤ d by omega) hL hw ho, q1, pm_then_i, pm_then_l, pm_then_v, bz_0, bz_n, bz_1, pm_zr0, pm_zr1, pm_zrI, if_true, if_false, not_true, not_false_eq_true, Bool.false_eq_true, true_and, and_true, false_and, and_false, z10, z01, zz0, eq_self, b175_10, b175_13, m_ip (n := 5) (show 1 ≤ d by omega) toL5, q2, b175_22, a2]
    · have r : y.toInt < 0 ∨ 5 < y.toInt := by
        have q2 : ¬ (0 ≤ y.toInt ∧ y.toInt < 6) := fun e => q2 (decide_eq_true e)
        omega
      refine ⟨-1000001, iv, pm_iw iv 32 0 0, ?_, ?_, hg, v, co2⟩
      · simp only [e103, b103_0 hL, t_isHouse (show 1 ≤ d by omega) (lay_now hL) hv ho, q1, pm_then_i, pm_then_l, pm_then_v, bz_0, bz_n, bz_1, pm_zr0, pm_zr1, pm_zrI, if_true, if_false, not_true, not_false_eq_true, Bool.false_eq_true, true_and, and_true, false_and, and_false, z10, z01, zz0, eq_self, b103_8, b103_14_df r, b103_114]
      · simp only [e175, b175_0 hL, m_isHouse (show 2 ≤ d by omega) hL hw ho, q1, pm_then_i, pm_then_l, pm_then_v, bz_0, bz_n, bz_1, pm_zr0, pm_zr1, pm_zrI, if_true, if_false, not_true, not_false_eq_true, Bool.false_eq_true, true_and, and_true, false_and, and_false, z10, z01, zz0, eq_self, b175_10, b175_13, m_ip (n := 5) (show 1 ≤ d by omega) toL5, q2, b175_22, b175_25]
  · refine ⟨-1000001, iv, pm_iw iv 32 0 0, ?_, ?_, hg, v, co2⟩
    · simp only [e103, b103_0 hL, t_isHouse (show 1 ≤ d by omega) (lay_now hL) hv ho, q1, pm_then_i, pm_then_l, pm_then_v, bz_0, bz_n, bz_1, pm_zr0, pm_zr1, pm_zrI, if_true, if_false, not_true, not_false_eq_true, Bool.false_eq_true, true_and, and_true, false_and, and_false, z10, z01, zz0, eq_self, b103_8, b103_11]
    · simp only [e175, b175_0 hL, m_isHouse (show 2 ≤ d by omega) hL hw ho, q1, pm_then_i, pm_then_l, pm_then_v, bz_0, bz_n, bz_1, pm_zr0, pm_zr1, pm_zrI, if_true, if_false, not_true, not_false_eq_true, Bool.false_eq_true, true_and, and_true, false_and, and_false, z10, z01, zz0, eq_self, b175_10, b175_25]
theorem q_street (hd : 6 ≤ d) (h : RL g iv) : PR X d g iv 109 184 [.ref 0, .int x] [.ref 32, .int x] := by
  obtain ⟨d, rfl, hd1⟩ := pm_d1 hd
  obtain ⟨hg, v, co⟩ := h
  have hL := hg.1
  have hv := co.1.1
  have ho := co.1.2.2.1
  have hs := co.1.2.2.2.1
  have hN := ho.2.2.1
  have co2 := CO_0 co
  have hw := co2.1.2.1
  by_cases q1 : ip x (vN v) = true
  · obtain ⟨h, hh, rfl⟩ := ip_ex q1 (by omega)
    have hb := ho.2.2.2.2.2 h hh
    obtain ⟨iv', a1, a2, a3, a4⟩ := m_layNow (X := X) (show 2 ≤ d by omega) hL hw ho
    have hw' : HAr (iv' 36) v := by rw [a2 36 (by decide)]; exact hw
    have hl := m_street_loop (X := X) (x := nI h) (show 2 ≤ d by omega) hL hw' ho a3 hb.1 (vD v - vy v h) (vy v h) 0 (by omega)
    refine ⟨stI v h, iv, iv', ?_, ?_, hg, v, CO_f0 co2 (chg_mo a2 (by decide)) (a2 32 (by decide))⟩
    · simp only [e109, b109_0 hL, t_isHouse (show 1 ≤ d by omega) (lay_now hL) hv ho, q1, pm_then_i, pm_then_l, pm_then_v, bz_0, bz_n, bz_1, pm_zr0, pm_zr1, pm_zrI, if_true, if_false, not_true, not_false_eq_true, Bool.false_eq_true, true_and, and_true, false_and, and_false, z10, z01, zz0, eq_self, b109_8, b109_11 hL, t_street (show 4 ≤ d by omega) (lay_now hL) hv ho hs hh, b109_19, b109_24]
    · simp only [e184, b184_0 hL, m_isHouse (show 2 ≤ d by omega) hL hw ho, q1, pm_then_i, pm_then_l, pm_then_v, bz_0, bz_n, bz_1, pm_zr0, pm_zr1, pm_zrI, if_true, if_false, not_true, not_false_eq_true, Bool.false_eq_true, true_and, and_true, false_and, and_false, z10, z01, zz0, eq_self, b184_10, b184_16 hL, a1, b184_20 hL, m_ofl (show 1 ≤ d by omega) hL hw' ho hh, b184_26 hL, m_ofy (show 1 ≤ d by omega) hL hw' ho hh, b184_33, hl, stI]
  · refine ⟨-1000001, iv, pm_iw iv 32 0 0, ?_, ?_, hg, v, co2⟩
    · simp only [e109, b109_0 hL, t_isHouse (show 1 ≤ d by omega) (lay_now hL) hv ho, q1, pm_then_i, pm_then_l, pm_then_v, bz_0, bz_n, bz_1, pm_zr0, pm_zr1, pm_zrI, if_true, if_false, not_true, not_false_eq_true, Bool.false_eq_true, true_and, and_true, false_and, and_false, z10, z01, zz0, eq_self, b109_8, b109_22, b109_24]
    · simp only [e184, b184_0 hL, m_isHouse (show 2 ≤ d by omega) hL hw ho, q1, pm_then_i, pm_then_l, pm_then_v, bz_0, bz_n, bz_1, pm_zr0, pm_zr1, pm_zrI, if_true, if_false, not_true, not_false_eq_true, Bool.false_eq_true, true_and, and_true, false_and, and_false, z10, z01, zz0, eq_self, b184_10, b184_13]
end Q46
