/-! the plain questions -/
theorem i_six (x : Int32) : x = 0 ∨ x = 1 ∨ x = 2 ∨ x = 3 ∨ x = 4 ∨ x = 5 ∨ x.toInt < 0 ∨ 5 < x.toInt := by
  by_cases h0 : x.toInt < 0
  · simp [h0]
  · by_cases h1 : 5 < x.toInt
    · simp [h1]
    · rcases (show x.toInt = 0 ∨ x.toInt = 1 ∨ x.toInt = 2 ∨ x.toInt = 3 ∨ x.toInt = 4 ∨ x.toInt = 5 by omega) with h | h | h | h | h | h
      · exact Or.inl (Int32.toInt_inj.mp h)
      · exact Or.inr (Or.inl (Int32.toInt_inj.mp h))
      · exact Or.inr (Or.inr (Or.inl (Int32.toInt_inj.mp h)))
      · exact Or.inr (Or.inr (Or.inr (Or.inl (Int32.toInt_inj.mp h))))
      · exact Or.inr (Or.inr (Or.inr (Or.inr (Or.inl (Int32.toInt_inj.mp h)))))
      · exact Or.inr (Or.inr (Or.inr (Or.inr (Or.inr (Or.inl (Int32.toInt_inj.mp h))))))
section Q39
variable {X : pm_X} {d : Nat} {g : pm_G} {iv : pm_V} {x y z : Int32} {v : HV}
theorem t_upTo (hd : 1 ≤ d) : pm_c X d 120 [.int x, .int y] g iv = some (some (.int (if 0 ≤ x.toInt ∧ x.toInt ≤ y.toInt then 1 else 0)), g, iv) := by
  obtain ⟨d, rfl, -⟩ := pm_d1 hd
  simp only [e120, b120_0, b120_4, b120_9, b120_13, b120_14, lt_i, toI0, pm_zr0, pm_zr1]
  (repeat' split) <;> first | rfl | (exfalso; omega)
/-- the pairs need one shape: a bounded number -/
theorem m_inI (hd : 1 ≤ d) {a b : Int64} : pm_c X d 130 [.long x.toInt64, .long a, .long b] g iv = some (some (.int (if a.toInt ≤ x.toInt ∧ x.toInt ≤ b.toInt then 1 else 0)), g, iv) := by
  rw [m_in hd, wd_t]
theorem q_status (hd : 1 ≤ d) (h : RL g iv) : PR X d g iv 119 202 [.ref 0] [.ref 32] := by
  obtain ⟨d, rfl, -⟩ := pm_d1 hd
  obtain ⟨hg, v, co⟩ := h
  refine ⟨iv 0 7, iv, pm_iw iv 32 0 0, ?_, ?_, hg, v, CO_0 co⟩
  · simp only [e119, b119_0 hg.1]
  · simp only [e202, b202_0 hg.1]
    rw [iw_s, upd_n (by decide), co.2.2.2.2.2.2.1]
theorem q_fault (hd : 2 ≤ d) (h : RL g iv) : PR X d g iv 97 155 [.ref 0] [.ref 32] := by
  obtain ⟨d, rfl, hd1⟩ := pm_d1 hd
  obtain ⟨d, rfl, -⟩ := pm_d1 hd1
  obtain ⟨hg, v, co⟩ := h
  refine ⟨iv 5 6, iv, pm_iw iv 32 0 0, ?_, ?_, hg, v, CO_0 co⟩
  · simp only [e97, b97_0 hg.1, e68, b68_0 hg.1, pm_then_i, pm_then_l, pm_then_v, b97_7]
  · simp only [e155, b155_0 hg.1]
    rw [iw_s, upd_n (by decide), co.2.2.2.2.2.2.2]
theorem q_kind (hd : 4 ≤ d) (h : RL g iv) : PR X d g iv 114 192 [.ref 0, .int x] [.ref 32, .int x] := by
  obtain ⟨d, rfl, hd1⟩ := pm_d1 hd
  obtain ⟨hg, v, co⟩ := h
  have hv := co.1.1
  have ho := co.1.2.2.1
  have co2 := CO_0 co
  have hw := co2.1.2.1
  have hN := ho.2.2.1
  by_cases q : ip x (vN v) = true
  · obtain ⟨j, hj, rfl⟩ := ip_ex q (by omega)
    refine ⟨nI (vK v j), iv, pm_iw iv 32 0 0, ?_, ?_, hg, v, co2⟩
    · simp only [e114, b114_0 hg.1, t_isHouse (show 1 ≤ d by omega) (lay_now hg.1) hv ho, q, pm_then_i, pm_then_l, pm_then_v, bz_0, bz_n, bz_1, pm_zr0, pm_zr1, pm_zrI, if_true, if_false, not_true, not_false_eq_true, Bool.false_eq_true, true_and, and_true, false_and, and_false, z10, z01, zz0, eq_self, b114_8, b114_19, b114_22, b114_24, b114_11 hg.1, t_kindOf (show 2 ≤ d by omega) (lay_now hg.1) hv ho hj]
    · simp only [e192, b192_0 hg.1, m_isHouse (show 2 ≤ d by omega) hg.1 hw ho, q, pm_then_i, pm_then_l, pm_then_v, bz_0, bz_n, bz_1, pm_zr0, pm_zr1, pm_zrI, if_true, if_false, not_true, not_false_eq_true, Bool.false_eq_true, true_and, and_true, false_and, and_false, z10, z01, zz0, eq_self, b192_10, b192_19, b192_22, b192_24, b192_13 hg.1, m_ofK (show 1 ≤ d by omega) hg.1 hw ho hj]
  · refine ⟨-1000001, iv, pm_iw iv 32 0 0, ?_, ?_, hg, v, co2⟩
    · simp only [e114, b114_0 hg.1, t_isHouse (show 1 ≤ d by omega) (lay_now hg.1) hv ho, q, pm_then_i, pm_then_l, pm_then_v, bz_0, bz_n, bz_1, pm_zr0, pm_zr1, pm_zrI, if_true, if_false, not_true, not_false_eq_true, Bool.false_eq_true, true_and, and_true, false_and, and_false, z10, z01, zz0, eq_self, b114_8, b114_19, b114_22, b114_24]
    · simp only [e192, b192_0 hg.1, m_isHouse (show 2 ≤ d by omega) hg.1 hw ho, q, pm_then_i, pm_then_l, pm_then_v, bz_0, bz_n, bz_1, pm_zr0, pm_zr1, pm_zrI, if_true, if_false, not_true, not_false_eq_true, Bool.false_eq_true, true_and, and_true, false_and, and_false, z10, z01, zz0, eq_self, b192_10, b192_19, b192_22, b192_24]
theorem q_yard (hd : 4 ≤ d) (h : RL g iv) : PR X d g iv 104 176 [.ref 0, .int x, .int y] [.ref 32, .int x, .int y] := by
  obtain ⟨d, rfl, hd1⟩ := pm_d1 hd
  obtain ⟨hg, v, co⟩ := h
  have hv := co.1.1
  have ho := co.1.2.2.1
  have hs := co.1.2.2.2.1
  have co2 := CO_0 co
  have hw := co2.1.2.1
  have hL := ho.1
  have hD := ho.2.1
  have hN := ho.2.2.1
  have e0 : (((pm_iw iv 32 0 0) 36 0) - 1 : Int32).toInt64.toInt = (vL v : Int) - 1 := by rw [wd_t, hw.1, nI_m1 (by omega)]
  have e1 : (((pm_iw iv 32 0 0) 36 1) - 1 : Int32).toInt64.toInt = (vD v : Int) - 1 := by rw [wd_t, hw.2.1, nI_m1 (by omega)]
  have z0 : (0 : Int64).toInt = 0 := rfl
  have p0 : (0 ≤ x.toInt ∧ x.toInt ≤ (vL v : Int) - 1) ↔ ip x (vL v) = true := by rw [ip, decide_eq_true_eq]; omega
  have p1 : (0 ≤ y.toInt ∧ y.toInt ≤ (vD v : Int) - 1) ↔ ip y (vD v) = true := by rw [ip, decide_eq_true_eq]; omega
  by_cases q : ip x (vL v) = true
  · by_cases q1 : ip y (vD v) = true
    · obtain ⟨l, hl, rfl⟩ := ip_ex q (by omega)
      obtain ⟨j, hj, rfl⟩ := ip_ex q1 (by omega)
      obtain ⟨iv', f1, f2, f3, f4⟩ := m_layNow (X := X) (show 2 ≤ d by omega) hg.1 hw ho
      have hw' : HAr (iv' 36) v := by rw [f2 36 (by decide)]; exact hw
      refine ⟨fndI v (nI l) (nI j), iv, iv', ?_, ?_, hg, v, CO_f0 co2 (chg_mo f2 (by decide)) (f2 32 (by decide))⟩
      · simp only [e104, b104_0 hg.1, t_isLane (show 1 ≤ d by omega) (lay_now hg.1) hv ho, q, pm_then_i, pm_then_l, pm_then_v, bz_0, bz_n, bz_1, pm_zr0, pm_zr1, pm_zrI, if_true, if_false, not_true, not_false_eq_true, Bool.false_eq_true, true_and, and_true, false_and, and_false, z10, z01, zz0, eq_self, b104_8, b104_11 hg.1, t_isYard (show 1 ≤ d by omega) (lay_now hg.1) hv ho, q1, b104_19, b104_25 hg.1, t_findAt (show 3 ≤ d by omega) (lay_now hg.1) hv ho, b104_34]
      · simp only [e176, b176_0 hg.1, m_inI (show 1 ≤ d by omega), e0, z0, p0, q, pm_then_i, pm_then_l, pm_then_v, bz_0, bz_n, bz_1, pm_zr0, pm_zr1, pm_zrI, if_true, if_false, not_true, not_false_eq_true, Bool.false_eq_true, true_and, and_true, false_and, and_false, z10, z01, zz0, eq_self, b176_20, b176_23 hg.1, e1, p1, q1, b176_38, b176_44 hg.1, f1, b176_48 hg.1, m_houseAt (show 2 ≤ d by omega) hg.1 hw' ho f3, b176_54]
        by_cases q2 : hAt v l j < vN v
        · have ne : ¬ nI (hAt v l j) = -1000000 := fun e => by
            have e := congrArg Int32.toInt e
            rw [nI_t (by omega)] at e
            exact absurd e (by show ¬ _ = (-1000000 : Int); omega)
          simp only [q2, bz_0, bz_n, bz_1, pm_zr0, pm_zr1, pm_zrI, if_true, if_false, not_true, not_false_eq_true, Bool.false_eq_true, true_and, and_true, false_and, and_false, z10, z01, zz0, eq_self, ne, b176_61, b176_80]
          rw [fndI_house ho hs hl hj (decide_eq_true q2)]
        · simp only [q2, bz_0, bz_n, bz_1, pm_zr0, pm_zr1, pm_zrI, if_true, if_false, not_true, not_false_eq_true, Bool.false_eq_true, true_and, and_true, false_and, and_false, z10, z01, zz0, eq_self, b176_65 hg.1, m_isStone (show 1 ≤ d by omega) hg.1 hw' (show l < 4 by omega) (show j < 32 by omega), pm_then_i, pm_then_l, pm_then_v, b176_71, b176_74, b176_78, b176_80, fndI, q, q1, nI_c (show l < 2147483648 by omega), nI_c (show j < 2147483648 by omega)]
          by_cases q3 : vS v l j = true <;> simp only [q3, bz_0, bz_n, bz_1, pm_zr0, pm_zr1, pm_zrI, if_true, if_false, not_true, not_false_eq_true, Bool.false_eq_true, true_and, and_true, false_and, and_false, z10, z01, zz0, eq_self]
    · refine ⟨-1000001, iv, pm_iw iv 32 0 0, ?_, ?_, hg, v, co2⟩
      · simp only [e104, b104_0 hg.1, t_isLane (show 1 ≤ d by omega) (lay_now hg.1) hv ho, q, pm_then_i, pm_then_l, pm_then_v, bz_0, bz_n, bz_1, pm_zr0, pm_zr1, pm_zrI, if_true, if_false, not_true, not_false_eq_true, Bool.false_eq_true, true_and, and_true, false_and, and_false, z10, z01, zz0, eq_self, b104_8, b104_11 hg.1, t_isYard (show 1 ≤ d by omega) (lay_now hg.1) hv ho, q1, b104_19, b104_22]
      · simp only [e176, b176_0 hg.1, m_inI (show 1 ≤ d by omega), e0, z0, p0, q, pm_then_i, pm_then_l, pm_then_v, bz_0, bz_n, bz_1, pm_zr0, pm_zr1, pm_zrI, if_true, if_false, not_true, not_false_eq_true, Bool.false_eq_true, true_and, and_true, false_and, and_false, z10, z01, zz0, eq_self, b176_20, b176_23 hg.1, e1, p1, q1, b176_38, b176_41]
  · refine ⟨-1000001, iv, pm_iw iv 32 0 0, ?_, ?_, hg, v, co2⟩
    · simp only [e104, b104_0 hg.1, t_isLane (show 1 ≤ d by omega) (lay_now hg.1) hv ho, q, pm_then_i, pm_then_l, pm_then_v, bz_0, bz_n, bz_1, pm_zr0, pm_zr1, pm_zrI, if_true, if_false, not_true, not_false_eq_true, Bool.false_eq_true, true_and, and_true, false_and, and_false, z10, z01, zz0, eq_self, b104_8, b104_22]
    · simp only [e176, b176_0 hg.1, m_inI (show 1 ≤ d by omega), e0, z0, p0, q, pm_then_i, pm_then_l, pm_then_v, bz_0, bz_n, bz_1, pm_zr0, pm_zr1, pm_zrI, if_true, if_false, not_true, not_false_eq_true, Bool.false_eq_true, true_and, and_true, false_and, and_false, z10, z01, zz0, eq_self, b176_20, b176_41]
end Q39
