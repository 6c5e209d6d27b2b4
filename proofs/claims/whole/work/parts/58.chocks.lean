/-! the pair chocks -/
theorem alF_cong {p q : Nat → Bool} : ∀ m k, (∀ j, k ≤ j → j < k + m → p j = q j) → alF p m k = alF q m k
  | 0, _, _ => rfl
  | m + 1, k, h => by rw [alF, alF, h k (by omega) (by omega), alF_cong m (k + 1) (fun j a b => h j (by omega) (by omega))]
section Q58
variable {X : pm_X} {d k : Nat} {g : pm_G} {iv : pm_V} {v u : HV} {x y z : Int32}
theorem q_chocks (hd : 8 ≤ d) (h : RL g iv) : PR X d g iv 101 172 [.ref 0, .int x, .int y, .int z] [.ref 32, .int x, .int y, .int z] := by
  obtain ⟨d, rfl, hd1⟩ := pm_d1 hd
  obtain ⟨hg, v, co⟩ := h
  have hL := hg.1
  have hv := co.1.1
  have ho := co.1.2.2.1
  have hs := co.1.2.2.2.1
  have hkk := co.1.2.2.2.2
  have hN := ho.2.2.1
  have co2 := CO_0 co
  have hw := co2.1.2.1
  obtain ⟨a, o, r, hc, hm, hr⟩ := co.2.2.2.1
  have e1 : z < 1 ↔ z.toInt < 1 := by rw [lt_i, toI1]
  have e6 : z ≤ 6 ↔ z.toInt ≤ 6 := by rw [le_i, toI6]
  have fnd : ∀ w, CO g (pm_iw (pm_iw (pm_iw iv 0 7 w) 32 0 0) 32 1 w) v := fun w => CO_sx co (chg_tr (chg_iw (by decide)) (chg_tr (chg_iw (by decide)) (chg_iw (by decide)))) (fun c p0 p1 => by rw [iw_s, iw_s, upd_n p1, upd_n p0, iw_n (by decide)]) (by rw [iw_n (by decide), iw_n (by decide), iw_s, upd_s, iw_s, upd_s])
  have fc : ∀ w c, c ≠ 0 → c ≠ 32 → pm_iw (pm_iw iv 0 7 w) 32 0 0 c = iv c := fun w c p0 p1 => by rw [iw_n p1, iw_n p0]
  by_cases q0 : 0 < vL v
  · by_cases q : ip x 8 = true ∧ 1 ≤ z.toInt ∧ z.toInt ≤ 6
    · obtain ⟨q1, q2, q3⟩ := q
      have nq2 : ¬ z.toInt < 1 := by omega
      obtain ⟨w, hw8, rfl⟩ := ip_ex q1 (by omega)
      obtain ⟨n, hn, rfl, en⟩ := i_nI (x := z) (by omega)
      have hin : vp_in (nI w) 8 := vp_n hw8 (by decide)
      have cw := nI_c (show w < 2147483648 by omega)
      have z1 : (1 : Int64).toInt = 1 := rfl
      have z6 : (6 : Int64).toInt = 6 := rfl
      -- the class up to the row, the reference up to the row
      have hC : pm_c X (d + 1) 101 [.ref 0, .int (nI w), .int y, .int (nI n)] g iv = pm_at X d 101 (34, [some (.ref 0), some (.int (nI w)), some (.int y), some (.int (nI n)), none, none], [], g, iv) := by
        simp only [e101, b101_0 hL, t_stands (show 1 ≤ d by omega) (lay_now hL) hv ho, q0, pm_then_i, pm_then_l, pm_then_v, bz_0, bz_n, bz_1, pm_zr0, pm_zr1, pm_zrI, if_true, if_false, not_true, not_false_eq_true, Bool.false_eq_true, true_and, and_true, false_and, and_false, z10, z01, zz0, eq_self, b101_7, b101_13, t_isRow (show 2 ≤ d by omega), q1, b101_17, b101_20, e1, nq2, b101_25, e6, q3]
      have hM : ∀ iv1 : pm_V, HAr ((pm_iw iv1 32 0 0) 36) v → pm_c X (d + 1) 172 [.ref 32, .int (nI w), .int y, .int (nI n)] g iv1 = pm_at X d 172 (37, [some (.ref 32), some (.int (nI w)), some (.int y), some (.int (nI n)), none, none], [], g, pm_iw iv1 32 0 0) := fun iv1 hw1 => by
        simp only [e172, b172_0 hL, m_isThere (show 1 ≤ d by omega) hL hw1 ho, q0, pm_then_i, pm_then_l, pm_then_v, bz_0, bz_n, bz_1, pm_zr0, pm_zr1, pm_zrI, if_true, if_false, not_true, not_false_eq_true, Bool.false_eq_true, true_and, and_true, false_and, and_false, z10, z01, zz0, eq_self, b172_9, b172_15, m_isRow (show 2 ≤ d by omega), q1, b172_19, b172_22, m_inI (show 1 ≤ d by omega), z1, z6, q2, q3, b172_31]
      rcases co.2.1.2 w hw8 with ⟨a1, a2⟩ | ⟨a1, l, m, hl, hmm, a2, a3, a4, a5, a6⟩
      · have n0 : ¬ (0 : Int32) ≤ -1 := by decide
        refine ⟨-1000010 - 1, pm_iw iv 0 7 1, _, ?_, ?_, hg, v, fnd 1⟩
        · rw [hC]
          simp only [b101_34 hL, t_missing (show 3 ≤ d by omega) hL hw8, a1, pm_then_i, pm_then_l, pm_then_v, bz_0, bz_n, bz_1, pm_zr0, pm_zr1, pm_zrI, if_true, if_false, not_true, not_false_eq_true, Bool.false_eq_true, true_and, and_true, false_and, and_false, z10, z01, zz0, eq_self, b101_42, b101_45 hL, t_found (show 1 ≤ d by omega) hL, b101_50]
        · rw [hM _ (by rw [iw_n (by decide), iw_n (by decide)]; exact co.1.2.1)]
          simp only [b172_37 hL hin, cw, fc 1 33 (by decide) (by decide), a2, n0, bz_0, bz_n, bz_1, pm_zr0, pm_zr1, pm_zrI, if_true, if_false, not_true, not_false_eq_true, Bool.false_eq_true, true_and, and_true, false_and, and_false, z10, z01, zz0, eq_self, b172_46 hL, m_finding (show 1 ≤ d by omega) hL, pm_then_i, pm_then_l, pm_then_v, b172_51]
      · have hl0 : (0 : Int32) ≤ nI l := by rw [le_i, toI0, nI_t (by omega)]; omega
        by_cases q4 : pcB m y (nI n) = true
        · have q5 := of_decide_eq_true q4
          obtain ⟨i, hi, rfl, ei⟩ := i_nI q5.1
          have hin2 : i + n ≤ m := by omega
          have i0 : ¬ nI i < 0 := nI_pos hi
          have g2 : ∀ iv1 : pm_V, lg_cmp ((nI i).toInt64 + (nI n).toInt64) ((nI m).toInt64) ≤ 0 := fun _ => Int32.not_lt.mp fun e => by
            have e := lgc_gt.mp e
            rw [l_add, wd_t, nI_t hi, nI_t hn, nI_t (by omega)] at e
            omega
          have hC2 : pm_at X d 101 (34, [some (.ref 0), some (.int (nI w)), some (.int (nI i)), some (.int (nI n)), none, none], [], g, iv) = pm_at X d 101 (73, [some (.ref 0), some (.int (nI w)), some (.int (nI i)), some (.int (nI n)), some (.int (nI 0)), none], [], g, iv) := by
            simp only [b101_34 hL, t_missing (show 3 ≤ d by omega) hL hw8, a1, pm_then_i, pm_then_l, pm_then_v, bz_0, bz_n, bz_1, pm_zr0, pm_zr1, pm_zrI, if_true, if_false, not_true, not_false_eq_true, Bool.false_eq_true, true_and, and_true, false_and, and_false, z10, z01, zz0, eq_self, b101_42, b101_51 hL, t_placesB (show 4 ≤ d by omega) hL hw8 a1 a5 hmm, q4, b101_61, b101_70, nI_0]
          have hM2 : ∀ iv1 : pm_V, iv1 33 w = nI l → iv1 34 w = nI m → pm_at X d 172 (37, [some (.ref 32), some (.int (nI w)), some (.int (nI i)), some (.int (nI n)), none, none], [], g, iv1) = pm_at X d 172 (81, [some (.ref 32), some (.int (nI w)), some (.int (nI i)), some (.int (nI n)), some (.int (nI 0)), none], [], g, iv1) := fun iv1 h33 h34 => by
            simp only [b172_37 hL hin, cw, h33, hl0, bz_0, bz_n, bz_1, pm_zr0, pm_zr1, pm_zrI, if_true, if_false, not_true, not_false_eq_true, Bool.false_eq_true, true_and, and_true, false_and, and_false, z10, z01, zz0, eq_self, b172_52, i0, b172_56 hL hin, h34, g2 iv, b172_78, nI_0]
          have hAl : alF (fun j => ip (iv 35 (40 * w + i + j)) (vN v)) n 0 = alF (fun j => ip (iv 2 (40 * w + i + j)) (vN v)) n 0 := alF_cong n 0 (fun j _ hj => by
            show ip (iv 35 (40 * w + i + j)) (vN v) = ip (iv 2 (40 * w + i + j)) (vN v)
            rw [show 40 * w + i + j = 40 * w + (i + j) by omega, a6 (i + j) (by omega)])
          by_cases q6 : alF (fun j => ip (iv 2 (40 * w + i + j)) (vN v)) n 0 = true
          · have hall := alF_y n 0 q6
            let hs' : Nat → Nat := fun j => (iv 2 (40 * w + i + j)).toNatClampNeg
            have hhs : ∀ j, j < n → hs' j < vN v ∧ iv 2 (40 * w + i + j) = nI (hs' j) := fun j hj => by
              obtain ⟨t, ht, et⟩ := ip_ex (hall j (by omega) (by omega)) (by omega)
              have e : hs' j = t := by show (iv 2 (40 * w + i + j)).toNatClampNeg = t; rw [et, nI_c (by omega)]
              rw [e]
              exact ⟨ht, et⟩
            obtain ⟨iv1, o1, x1, x2, x3, x4⟩ := t_chocks_loop (X := X) (show 5 ≤ d by omega) hL ho hs hkk hr (hs := hs') hw8 hmm hin2 n 0 iv o (by omega) hv hc a1 a5 hhs
            have hw1 : HAr ((pm_iw (pm_iw iv1 0 7 0) 32 0 0) 36) v := by rw [iw_n (by decide), iw_n (by decide), x2 36 (by decide)]; exact co.1.2.1
            have f1 : ∀ c, c ≠ 0 → c ≠ 7 → c ≠ 8 → c ≠ 11 → c ≠ 32 → (pm_iw (pm_iw iv1 0 7 0) 32 0 0) c = iv c := fun c p0 p7 p8 p11 p32 => by
              rw [iw_n p32, iw_n p0, x2 c (by simp only [List.mem_cons, List.not_mem_nil, or_false]; omega)]
            have hm1 : MA (pm_iw (pm_iw (pm_iw iv1 0 7 0) 32 0 0) 32 1 0) a r := MA_fr hm (by rw [iw_s, upd_n (by decide), iw_s, upd_n (by decide), iw_n (by decide), x2 32 (by decide)]) (by rw [iw_n (by decide), f1 38 (by decide) (by decide) (by decide) (by decide) (by decide)])
            have hw2 : HAr ((pm_iw (pm_iw (pm_iw iv1 0 7 0) 32 0 0) 32 1 0) 36) v := by rw [iw_n (by decide)]; exact hw1
            obtain ⟨iv2, y1, y2, y3, y4, y5⟩ := m_chocks_loop (X := X) (show 2 ≤ d by omega) hL ho hs hkk hc.1 hr (hs := hs') hw8 hmm hin2 n 0 (pm_iw (pm_iw (pm_iw iv1 0 7 0) 32 0 0) 32 1 0) (by omega) hw2 hm1 (fun j hj => by
              rw [iw_n (by decide), f1 35 (by decide) (by decide) (by decide) (by decide) (by decide), show 40 * w + i + j = 40 * w + (i + j) by omega, ← a6 (i + j) (by omega), show 40 * w + (i + j) = 40 * w + i + j by omega]
              exact hhs j hj)
            obtain ⟨b1, b2, b3, b4, b5⟩ := ckV_ok (hs := hs') ho hs hkk n
            have hc2 : chg [0, 32, 36, 38] iv1 iv2 := chg_tr (chg_iw (by decide)) (chg_tr (chg_iw (by decide)) (chg_tr (chg_iw (by decide)) (chg_mo y2 (by decide))))
            have f32 : ∀ c, c ≠ 0 → c ≠ 1 → c ≠ 8 → iv2 32 c = iv 32 c := fun c p0 p1 p8 => by rw [y3 c p8, iw_s, upd_n p1, iw_s, upd_n p0, iw_n (by decide), x2 32 (by decide)]
            have co3 : CO g iv2 (ckV v hs' n) := by
              refine CO_ac co (chg_tr (chg_mo x2 (by decide)) (chg_mo hc2 (by decide))) f32 ?_ ⟨SV_fr x3 (fun c p1 p2 => hc2 c (by simp only [List.mem_cons, List.not_mem_nil, or_false]; omega)), y4, b1, b2, b3⟩ ⟨ckA a n, o1, ckR v a r hs' n, CA_fr x4 (by rw [hc2 7 (by decide)]) (by rw [hc2 7 (by decide)]) (hc2 8 (by decide)), y5, ckRO ho hs hkk hr n⟩
              rw [y2 0 (by decide), iw_n (by decide), iw_n (by decide), iw_s, upd_s, y3 1 (by decide), iw_s, upd_s]
            refine ⟨ckS v hs' n, pm_iw iv1 0 7 0, iv2, ?_, ?_, hg, _, co3⟩
            · rw [hC, hC2, t_chocks_test (show 5 ≤ d by omega) hL hv ho hw8 a1 a5 hmm hin2 n 0 (by omega), if_pos q6, b101_110]
              rw [nI_0] at x1
              exact x1
            · rw [hM _ hw1, hM2 _ (by rw [f1 33 (by decide) (by decide) (by decide) (by decide) (by decide)]; exact a2) (by rw [f1 34 (by decide) (by decide) (by decide) (by decide) (by decide)]; exact a4), m_chocks_test (show 2 ≤ d by omega) hL hw1 ho hw8 hmm hin2 n 0 (by omega), f1 35 (by decide) (by decide) (by decide) (by decide) (by decide), hAl, if_pos q6, b172_117 hL]
              rw [nI_0] at y1
              exact y1
          · refine ⟨-1000001, iv, pm_iw iv 32 0 0, ?_, ?_, hg, v, co2⟩
            · rw [hC, hC2, t_chocks_test (show 5 ≤ d by omega) hL hv ho hw8 a1 a5 hmm hin2 n 0 (by omega), if_neg q6]
            · rw [hM _ hw, hM2 _ (by rw [iw_n (by decide)]; exact a2) (by rw [iw_n (by decide)]; exact a4), m_chocks_test (show 2 ≤ d by omega) hL hw ho hw8 hmm hin2 n 0 (by omega), iw_n (show 35 ≠ 32 by decide), hAl, if_neg q6]
        · refine ⟨-1000010 - 2, pm_iw iv 0 7 2, _, ?_, ?_, hg, v, fnd 2⟩
          · rw [hC]
            simp only [b101_34 hL, t_missing (show 3 ≤ d by omega) hL hw8, a1, pm_then_i, pm_then_l, pm_then_v, bz_0, bz_n, bz_1, pm_zr0, pm_zr1, pm_zrI, if_true, if_false, not_true, not_false_eq_true, Bool.false_eq_true, true_and, and_true, false_and, and_false, z10, z01, zz0, eq_self, b101_42, b101_51 hL, t_placesB (show 4 ≤ d by omega) hL hw8 a1 a5 hmm, q4, b101_61, b101_64 hL, t_found (show 1 ≤ d by omega) hL, b101_69]
          · have s2 : pm_at X d 172 (72, [some (.ref 32), some (.int (nI w)), some (.int y), some (.int (nI n)), none, none], [], g, pm_iw (pm_iw iv 0 7 2) 32 0 0) = some (some (.int (-1000010 - 2)), g, pm_iw (pm_iw (pm_iw iv 0 7 2) 32 0 0) 32 1 2) := by
              simp only [b172_72 hL, m_finding (show 1 ≤ d by omega) hL, pm_then_i, pm_then_l, pm_then_v, b172_77]
            rw [hM _ (by rw [iw_n (by decide), iw_n (by decide)]; exact co.1.2.1), b172_37 hL hin, cw, fc 2 33 (by decide) (by decide), a2, if_pos hl0, b172_52]
            by_cases w1 : y < 0
            · rw [if_pos w1, s2]
            · have w1' := w1
              rw [lt_i, toI0] at w1'
              have w5 : 0 < lg_cmp (y.toInt64 + (nI n).toInt64) ((nI m).toInt64) := by
                rw [lgc_gt, l_add, wd_t, nI_t (show m < 2147483648 by omega)]
                have : ¬ (y.toInt + (nI n).toInt ≤ m) := fun e => q4 (decide_eq_true (by omega))
                omega
              rw [if_neg w1, b172_56 hL hin, cw, fc 2 34 (by decide) (by decide), a4, if_neg (Int32.not_le.mpr w5), s2]
    · refine ⟨-1000001, iv, pm_iw iv 32 0 0, ?_, ?_, hg, v, co2⟩
      · simp only [e101, b101_0 hL, t_stands (show 1 ≤ d by omega) (lay_now hL) hv ho, q0, pm_then_i, pm_then_l, pm_then_v, bz_0, bz_n, bz_1, pm_zr0, pm_zr1, pm_zrI, if_true, if_false, not_true, not_false_eq_true, Bool.false_eq_true, true_and, and_true, false_and, and_false, z10, z01, zz0, eq_self, b101_7, b101_13, t_isRow (show 2 ≤ d by omega), b101_17, b101_20, e1, b101_25, e6, b101_31]
        by_cases w1 : ip x 8 = true
        · by_cases w2 : z.toInt < 1
          · simp only [w1, w2, bz_0, bz_n, bz_1, pm_zr0, pm_zr1, pm_zrI, if_true, if_false, not_true, not_false_eq_true, Bool.false_eq_true, true_and, and_true, false_and, and_false, z10, z01, zz0, eq_self]
          · by_cases w3 : z.toInt ≤ 6
            · exact absurd ⟨w1, by omega, w3⟩ q
            · simp only [w1, w2, w3, bz_0, bz_n, bz_1, pm_zr0, pm_zr1, pm_zrI, if_true, if_false, not_true, not_false_eq_true, Bool.false_eq_true, true_and, and_true, false_and, and_false, z10, z01, zz0, eq_self]
        · simp only [w1, bz_0, bz_n, bz_1, pm_zr0, pm_zr1, pm_zrI, if_true, if_false, not_true, not_false_eq_true, Bool.false_eq_true, true_and, and_true, false_and, and_false, z10, z01, zz0, eq_self]
      · have z1 : (1 : Int64).toInt = 1 := rfl
        have z6 : (6 : Int64).toInt = 6 := rfl
        simp only [e172, b172_0 hL, m_isThere (show 1 ≤ d by omega) hL hw ho, q0, pm_then_i, pm_then_l, pm_then_v, bz_0, bz_n, bz_1, pm_zr0, pm_zr1, pm_zrI, if_true, if_false, not_true, not_false_eq_true, Bool.false_eq_true, true_and, and_true, false_and, and_false, z10, z01, zz0, eq_self, b172_9, b172_15, m_isRow (show 2 ≤ d by omega), b172_19, b172_22, m_inI (show 1 ≤ d by omega), z1, z6, b172_31, b172_34]
        by_cases w1 : ip x 8 = true
        · by_cases w2 : 1 ≤ z.toInt
          · by_cases w3 : z.toInt ≤ 6
            · exact absurd ⟨w1, w2, w3⟩ q
            · simp only [w1, w2, w3, bz_0, bz_n, bz_1, pm_zr0, pm_zr1, pm_zrI, if_true, if_false, not_true, not_false_eq_true, Bool.false_eq_true, true_and, and_true, false_and, and_false, z10, z01, zz0, eq_self]
          · simp only [w1, w2, bz_0, bz_n, bz_1, pm_zr0, pm_zr1, pm_zrI, if_true, if_false, not_true, not_false_eq_true, Bool.false_eq_true, true_and, and_true, false_and, and_false, z10, z01, zz0, eq_self]
        · simp only [w1, bz_0, bz_n, bz_1, pm_zr0, pm_zr1, pm_zrI, if_true, if_false, not_true, not_false_eq_true, Bool.false_eq_true, true_and, and_true, false_and, and_false, z10, z01, zz0, eq_self]
  · refine ⟨-1000002, iv, pm_iw iv 32 0 0, ?_, ?_, hg, v, co2⟩
    · simp only [e101, b101_0 hL, t_stands (show 1 ≤ d by omega) (lay_now hL) hv ho, q0, pm_then_i, pm_then_l, pm_then_v, bz_0, bz_n, bz_1, pm_zr0, pm_zr1, pm_zrI, if_true, if_false, not_true, not_false_eq_true, Bool.false_eq_true, true_and, and_true, false_and, and_false, z10, z01, zz0, eq_self, b101_7, b101_10]
    · simp only [e172, b172_0 hL, m_isThere (show 1 ≤ d by omega) hL hw ho, q0, pm_then_i, pm_then_l, pm_then_v, bz_0, bz_n, bz_1, pm_zr0, pm_zr1, pm_zrI, if_true, if_false, not_true, not_false_eq_true, Bool.false_eq_true, true_and, and_true, false_and, and_false, z10, z01, zz0, eq_self, b172_9, b172_12]
end Q58
