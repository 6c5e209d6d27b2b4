/-! ahead, stream, beside -/
section Q41
variable {X : pm_X} {d k : Nat} {g : pm_G} {iv : pm_V} {x y z : Int32} {v : HV}
theorem t_ip {n : Nat} (hd : 1 ≤ d) (hy : y.toInt = n) : pm_c X d 120 [.int x, .int y] g iv = some (some (.int (if ip x (n + 1) = true then 1 else 0)), g, iv) := by
  rw [t_upTo hd, hy]
  have e : (0 ≤ x.toInt ∧ x.toInt ≤ (n : Int)) ↔ ip x (n + 1) = true := by rw [ip, decide_eq_true_eq]; omega
  simp only [e]
theorem m_ip {n : Nat} {b : Int64} (hd : 1 ≤ d) (hy : b.toInt = n) : pm_c X d 130 [.long x.toInt64, .long 0, .long b] g iv = some (some (.int (if ip x (n + 1) = true then 1 else 0)), g, iv) := by
  rw [m_inI hd, hy]
  have e : ((0 : Int64).toInt ≤ x.toInt ∧ x.toInt ≤ (n : Int)) ↔ ip x (n + 1) = true := by rw [ip, decide_eq_true_eq, show (0 : Int64).toInt = 0 from rfl]; omega
  simp only [e]
theorem toL1 : (1 : Int64).toInt = (1 : Nat) := rfl
theorem toL2 : (2 : Int64).toInt = (2 : Nat) := rfl
theorem toL5 : (5 : Int64).toInt = (5 : Nat) := rfl
theorem toL7 : (7 : Int64).toInt = (7 : Nat) := rfl
theorem toL20 : (20 : Int64).toInt = (20 : Nat) := rfl
theorem toL40 : (40 : Int64).toInt = (40 : Nat) := rfl
theorem q_ahead (hd : 8 ≤ d) (h : RL g iv) : PR X d g iv 105 178 [.ref 0, .int x, .int y, .int z] [.ref 32, .int x, .int y, .int z] := by
  obtain ⟨d, rfl, hd1⟩ := pm_d1 hd
  obtain ⟨hg, v, co⟩ := h
  have hL := hg.1
  have hv := co.1.1
  have ho := co.1.2.2.1
  have hs := co.1.2.2.2.1
  have hw9 := co.1.2.2.2.2.1
  have hN := ho.2.2.1
  by_cases q : ip x (vN v) = true ∧ ip y 41 = true ∧ ip z 2 = true
  · obtain ⟨q1, q2, q3⟩ := q
    obtain ⟨h, hh, rfl⟩ := ip_ex q1 (by omega)
    obtain ⟨n, hn, rfl⟩ := ip_ex q2 (by omega)
    obtain ⟨j, hj, rfl⟩ := ip_ex q3 (by omega)
    obtain ⟨iv1, a1, a2, a3⟩ := t_take (X := X) (show 1 ≤ d by omega) hL hv ho
    obtain ⟨iv2, b1, b2, b3⟩ := t_rollTrial (X := X) (n := n) (show 6 ≤ d by omega) hL ho hs (by omega) hw9 a3
    have hc : chg scr iv iv2 := chg_mo (chg_tr a2 b2) (by decide)
    have co1 := CO_0 (CO_f0 co hc (by rw [b2 32 (by decide), a2 32 (by decide)]))
    have hw := co1.1.2.1
    obtain ⟨iv3, c1, c2, c3⟩ := m_layAhead (X := X) (n := n) (show 6 ≤ d by omega) hL hw ho (by omega)
    have hw' : HAr (iv3 36) v := by rw [c2 36 (by decide)]; exact hw
    have hin : vp_in (nI h) 6 := vp_n (by omega) (by decide)
    have ht := Hok_TN (n := n) ho (by omega)
    refine ⟨if nI j = 0 then nI (vl v h) else nI (wnts v (vC v) (vW v) n (vy v) h), iv2, iv3, ?_, ?_, hg, v, CO_f0 co1 (chg_mo c2 (by decide)) (c2 32 (by decide))⟩
    · simp only [e105, b105_0 hL, t_isHouse (show 1 ≤ d by omega) (lay_now hL) hv ho, q1, pm_then_i, pm_then_l, pm_then_v, bz_0, bz_n, bz_1, pm_zr0, pm_zr1, pm_zrI, if_true, if_false, not_true, not_false_eq_true, Bool.false_eq_true, true_and, and_true, false_and, and_false, z10, z01, zz0, eq_self, b105_8, b105_11, t_ip (n := 40) (show 1 ≤ d by omega) toI40, q2, b105_17, b105_20, t_ip (n := 1) (show 1 ≤ d by omega) toI1, q3, b105_25, b105_31 hL, a1, b105_42 hL, b1, b105_47, b105_51 hL, b105_62 hL, t_laneOf (show 2 ≤ d by omega) (lay_trial hL) b3 ht hh, t_yardOf (show 2 ≤ d by omega) (lay_trial hL) b3 ht hh, b105_59, b105_70]
      by_cases e : nI j = 0
      · simp only [e, bz_0, bz_n, bz_1, pm_zr0, pm_zr1, pm_zrI, if_true, if_false, not_true, not_false_eq_true, Bool.false_eq_true, true_and, and_true, false_and, and_false, z10, z01, zz0, eq_self]
        rfl
      · simp only [e, bz_0, bz_n, bz_1, pm_zr0, pm_zr1, pm_zrI, if_true, if_false, not_true, not_false_eq_true, Bool.false_eq_true, true_and, and_true, false_and, and_false, z10, z01, zz0, eq_self]
        rfl
    · simp only [e178, b178_0 hL, m_isHouse (show 2 ≤ d by omega) hL hw ho, q1, pm_then_i, pm_then_l, pm_then_v, bz_0, bz_n, bz_1, pm_zr0, pm_zr1, pm_zrI, if_true, if_false, not_true, not_false_eq_true, Bool.false_eq_true, true_and, and_true, false_and, and_false, z10, z01, zz0, eq_self, b178_10, b178_13, m_ip (n := 40) (show 1 ≤ d by omega) toL40, q2, b178_22, b178_25, m_ip (n := 1) (show 1 ≤ d by omega) toL1, q3, b178_32, b178_38 hL, c1, b178_43, b178_47 hL, m_ofl (show 1 ≤ d by omega) hL hw' ho hh, b178_53, b178_56 hL hin, nI_c (show h < 2147483648 by omega), c3 h hh, b178_62]
      by_cases e : nI j = 0
      · simp only [e, bz_0, bz_n, bz_1, pm_zr0, pm_zr1, pm_zrI, if_true, if_false, not_true, not_false_eq_true, Bool.false_eq_true, true_and, and_true, false_and, and_false, z10, z01, zz0, eq_self]
      · simp only [e, bz_0, bz_n, bz_1, pm_zr0, pm_zr1, pm_zrI, if_true, if_false, not_true, not_false_eq_true, Bool.false_eq_true, true_and, and_true, false_and, and_false, z10, z01, zz0, eq_self]
  · have co2 := CO_0 co
    have hw := co2.1.2.1
    refine ⟨-1000001, iv, pm_iw iv 32 0 0, ?_, ?_, hg, v, co2⟩
    · simp only [e105, b105_0 hL, t_isHouse (show 1 ≤ d by omega) (lay_now hL) hv ho, pm_then_i, pm_then_l, pm_then_v, bz_0, bz_n, bz_1, pm_zr0, pm_zr1, pm_zrI, if_true, if_false, not_true, not_false_eq_true, Bool.false_eq_true, true_and, and_true, false_and, and_false, z10, z01, zz0, eq_self, b105_8, b105_11, t_ip (n := 40) (show 1 ≤ d by omega) toI40, b105_17, b105_20, t_ip (n := 1) (show 1 ≤ d by omega) toI1, b105_25, b105_28]
      by_cases q1 : ip x (vN v) = true <;> by_cases q2 : ip y 41 = true <;> by_cases q3 : ip z 2 = true <;> first | (simp only [q1, q2, q3, bz_0, bz_n, bz_1, pm_zr0, pm_zr1, pm_zrI, if_true, if_false, not_true, not_false_eq_true, Bool.false_eq_true, true_and, and_true, false_and, and_false, z10, z01, zz0, eq_self]; done) | exact absurd ⟨q1, q2, q3⟩ q
    · simp only [e178, b178_0 hL, m_isHouse (show 2 ≤ d by omega) hL hw ho, pm_then_i, pm_then_l, pm_then_v, bz_0, bz_n, bz_1, pm_zr0, pm_zr1, pm_zrI, if_true, if_false, not_true, not_false_eq_true, Bool.false_eq_true, true_and, and_true, false_and, and_false, z10, z01, zz0, eq_self, b178_10, b178_13, m_ip (n := 40) (show 1 ≤ d by omega) toL40, b178_22, b178_25, m_ip (n := 1) (show 1 ≤ d by omega) toL1, b178_32, b178_35]
      by_cases q1 : ip x (vN v) = true <;> by_cases q2 : ip y 41 = true <;> by_cases q3 : ip z 2 = true <;> first | (simp only [q1, q2, q3, bz_0, bz_n, bz_1, pm_zr0, pm_zr1, pm_zrI, if_true, if_false, not_true, not_false_eq_true, Bool.false_eq_true, true_and, and_true, false_and, and_false, z10, z01, zz0, eq_self]; done) | exact absurd ⟨q1, q2, q3⟩ q
theorem t_isPair (hd : 2 ≤ d) (hL : pm_lay g) (hv : SV iv 11 v) (ho : Hok v) : pm_c X d 122 [.ref 0, .int x, .int y] g iv = some (some (.int (if ip x (vN v) = true ∧ ip y (vN v) = true ∧ ¬ x = y then 1 else 0)), g, iv) := by
  obtain ⟨d, rfl, hd1⟩ := pm_d1 hd
  simp only [e122, b122_0 hL, t_isHouse (show 1 ≤ d by omega) (lay_now hL) hv ho, pm_then_i, pm_then_l, pm_then_v, b122_8, b122_11 hL, b122_19, b122_22, b122_27, b122_31, b122_32, bz_0, bz_n, bz_1, pm_zr0, pm_zr1, pm_zrI, if_true, if_false, not_true, not_false_eq_true, Bool.false_eq_true, true_and, and_true, false_and, and_false, z10, z01, zz0, eq_self]
  by_cases hx : ip x (vN v) = true <;> by_cases hy : ip y (vN v) = true <;> by_cases e : x = y <;> simp only [hx, hy, e, bz_0, bz_n, bz_1, pm_zr0, pm_zr1, pm_zrI, if_true, if_false, not_true, not_false_eq_true, Bool.false_eq_true, true_and, and_true, false_and, and_false, z10, z01, zz0, eq_self]
theorem q_beside (hd : 8 ≤ d) (h : RL g iv) : PR X d g iv 107 181 [.ref 0, .int x, .int y, .int z] [.ref 32, .int x, .int y, .int z] := by
  obtain ⟨d, rfl, hd1⟩ := pm_d1 hd
  obtain ⟨hg, v, co⟩ := h
  have hL := hg.1
  have hv := co.1.1
  have ho := co.1.2.2.1
  have hs := co.1.2.2.2.1
  have hw9 := co.1.2.2.2.2.1
  have hN := ho.2.2.1
  by_cases q : (ip x (vN v) = true ∧ ip y (vN v) = true ∧ ¬ x = y) ∧ ip z 41 = true
  · obtain ⟨q1, q3⟩ := q
    obtain ⟨a, ha, rfl⟩ := ip_ex q1.1 (by omega)
    obtain ⟨b, hb, rfl⟩ := ip_ex q1.2.1 (by omega)
    obtain ⟨n, hn, rfl⟩ := ip_ex q3 (by omega)
    obtain ⟨iv1, a1, a2, a3⟩ := t_take (X := X) (show 1 ≤ d by omega) hL hv ho
    obtain ⟨iv2, b1, b2, b3⟩ := t_rollTrial (X := X) (n := n) (show 6 ≤ d by omega) hL ho hs (by omega) hw9 a3
    have hc : chg scr iv iv2 := chg_mo (chg_tr a2 b2) (by decide)
    have co1 := CO_0 (CO_f0 co hc (by rw [b2 32 (by decide), a2 32 (by decide)]))
    have hw := co1.1.2.1
    obtain ⟨iv3, c1, c2, c3⟩ := m_layAhead (X := X) (n := n) (show 6 ≤ d by omega) hL hw ho (by omega)
    have hw' : HAr (iv3 36) v := by rw [c2 36 (by decide)]; exact hw
    have ht := Hok_TN (n := n) ho (by omega)
    have hb1 := t_areBeside (X := X) (a := a) (b := b) (show 3 ≤ d by omega) (lay_trial hL) b3 ht ha hb
    have hb2 := m_areBeside (X := X) (a := a) (b := b) (show 2 ≤ d by omega) hL hw' ho c3 (Pok_wnts _ _ _ (Pok_self ho)) ha hb
    refine ⟨if bes v (wnts v (vC v) (vW v) n (vy v)) a b = true then 1 else 0, iv2, iv3, ?_, ?_, hg, v, CO_f0 co1 (chg_mo c2 (by decide)) (c2 32 (by decide))⟩
    · simp only [e107, b107_0 hL, t_isPair (show 2 ≤ d by omega) hL hv ho, if_pos q1, pm_then_i, pm_then_l, pm_then_v, bz_0, bz_n, bz_1, pm_zr0, pm_zr1, pm_zrI, if_true, if_false, not_true, not_false_eq_true, Bool.false_eq_true, true_and, and_true, false_and, and_false, z10, z01, zz0, eq_self, b107_6, b107_9, t_ip (n := 40) (show 1 ≤ d by omega) toI40, q3, b107_15, b107_21 hL, a1, b107_32 hL, b1, b107_37 hL, hb1, b107_46, b107_49, b107_53, b107_54]
      by_cases e : bes (TN v n) (vy (TN v n)) a b = true
      · have e2 : bes v (wnts v (vC v) (vW v) n (vy v)) a b = true := e
        simp only [e, e2, bz_0, bz_n, bz_1, pm_zr0, pm_zr1, pm_zrI, if_true, if_false, not_true, not_false_eq_true, Bool.false_eq_true, true_and, and_true, false_and, and_false, z10, z01, zz0, eq_self]
      · have e2 : ¬ bes v (wnts v (vC v) (vW v) n (vy v)) a b = true := e
        simp only [e, e2, bz_0, bz_n, bz_1, pm_zr0, pm_zr1, pm_zrI, if_true, if_false, not_true, not_false_eq_true, Bool.false_eq_true, true_and, and_true, false_and, and_false, z10, z01, zz0, eq_self]
    · simp only [e181, b181_0 hL, m_areTwo (show 3 ≤ d by omega) hL hw ho, if_pos q1, pm_then_i, pm_then_l, pm_then_v, bz_0, bz_n, bz_1, pm_zr0, pm_zr1, pm_zrI, if_true, if_false, not_true, not_false_eq_true, Bool.false_eq_true, true_and, and_true, false_and, and_false, z10, z01, zz0, eq_self, b181_11, b181_14, m_ip (n := 40) (show 1 ≤ d by omega) toL40, q3, b181_23, b181_29 hL, c1, b181_34 hL, hb2, b181_40, b181_43, b181_47, b181_48]
      by_cases e : bes v (wnts v (vC v) (vW v) n (vy v)) a b = true
      · simp only [e, bz_0, bz_n, bz_1, pm_zr0, pm_zr1, pm_zrI, if_true, if_false, not_true, not_false_eq_true, Bool.false_eq_true, true_and, and_true, false_and, and_false, z10, z01, zz0, eq_self]
      · simp only [e, bz_0, bz_n, bz_1, pm_zr0, pm_zr1, pm_zrI, if_true, if_false, not_true, not_false_eq_true, Bool.false_eq_true, true_and, and_true, false_and, and_false, z10, z01, zz0, eq_self]
  · have co2 := CO_0 co
    have hw := co2.1.2.1
    refine ⟨-1000001, iv, pm_iw iv 32 0 0, ?_, ?_, hg, v, co2⟩
    · simp only [e107, b107_0 hL, t_isPair (show 2 ≤ d by omega) hL hv ho, pm_then_i, pm_then_l, pm_then_v, b107_6, b107_9, bz_0, bz_n, t_ip (n := 40) (show 1 ≤ d by omega) toI40, b107_15, b107_18]
      by_cases q1 : ip x (vN v) = true ∧ ip y (vN v) = true ∧ ¬ x = y
      · by_cases q2 : ip z 41 = true
        · exact absurd ⟨q1, q2⟩ q
        · rw [if_neg (not_not_intro q1), if_neg (not_not_intro q2)]
      · rw [if_pos q1]
    · simp only [e181, b181_0 hL, m_areTwo (show 3 ≤ d by omega) hL hw ho, pm_then_i, pm_then_l, pm_then_v, b181_11, b181_14, bz_0, bz_n, m_ip (n := 40) (show 1 ≤ d by omega) toL40, b181_23, b181_26]
      by_cases q1 : ip x (vN v) = true ∧ ip y (vN v) = true ∧ ¬ x = y
      · by_cases q2 : ip z 41 = true
        · exact absurd ⟨q1, q2⟩ q
        · rw [if_neg (not_not_intro q1), if_neg (not_not_intro q2)]
      · rw [if_pos q1]
end Q41
