/-! feed -/
/-- the k-th byte of w -/
def nbk (w : Int64) (k : Nat) : Nat := (w >>> ((8 * nI k).toInt64 &&& 63)).toBitVec.toNat % 256
theorem nbk_lt (w : Int64) (k : Nat) : nbk w k < 256 := Nat.mod_lt _ (by omega)
theorem l255 : ∀ i, i < 32 → (255 : Int64).toBitVec.getLsbD i = decide (i < 8) := by decide +kernel
theorem by_bits (y : Int64) {i : Nat} (hi : i < 32) : bt (nI (y.toBitVec.toNat % 256)) i = (decide (i < 8) && y.toBitVec.getLsbD i) := by
  rw [bt_nI (by omega)]
  show (y.toBitVec.toNat % 2 ^ 8).testBit i = _
  rw [Nat.testBit_mod_two_pow]
  rfl
theorem by_ref (y : Int64) : (y &&& 255).toInt32 = nI (y.toBitVec.toNat % 256) := by
  apply b_ext
  intro i hi
  rw [by_bits y hi]
  unfold bt
  rw [Int64.toBitVec_toInt32, BitVec.getLsbD_signExtend, decide_eq_true hi, Bool.true_and, if_pos (by omega), Int64.toBitVec_and, BitVec.getLsbD_and, l255 i hi, Bool.and_comm]
theorem by_cls (y : Int64) : (vp_nar .byte (y.toInt32.toInt8.toInt32)) &&& 255 = nI (y.toBitVec.toNat % 256) := by
  apply b_ext
  intro i hi
  rw [by_bits y hi, b_and, b_255]
  show (bt (y.toInt32.toInt8.toInt32.toInt8.toInt32) i && decide (i < 8)) = _
  by_cases q : i < 8
  · rw [decide_eq_true q, Bool.and_true, Bool.true_and]
    unfold bt
    rw [Int8.toBitVec_toInt32, BitVec.getLsbD_signExtend, decide_eq_true hi, Bool.true_and, if_pos q, Int32.toBitVec_toInt8, BitVec.getLsbD_signExtend, decide_eq_true q, Bool.true_and, if_pos hi, Int8.toBitVec_toInt32, BitVec.getLsbD_signExtend, decide_eq_true hi, Bool.true_and, if_pos q, Int32.toBitVec_toInt8, BitVec.getLsbD_signExtend, decide_eq_true q, Bool.true_and, if_pos hi, Int64.toBitVec_toInt32, BitVec.getLsbD_signExtend, decide_eq_true hi, Bool.true_and, if_pos (by omega)]
  · rw [decide_eq_false q, Bool.and_false, Bool.false_and]
theorem CO_tp {g : pm_G} {iv iv' : pm_V} {v : HV} (h : CO g iv v) (hc : chg [5, 6, 32, 39] iv iv') (h56 : iv' 5 6 = iv' 32 11) (h32 : ∀ c, c = 1 ∨ c = 8 ∨ c = 25 → iv' 32 c = iv 32 c) (hT : RT iv') : CO g iv' v := by
  obtain ⟨a1, a2, a3, ⟨a, o, r, b1, b2, b3⟩, a5, ⟨i1, i2, i3⟩, a7, a8⟩ := h
  have q : ∀ c, c ∉ [5, 6, 32, 39] → iv' c = iv c := hc
  have hi : ∀ c, 46 ≤ c → iv' c = iv c := fun c p => q c (by simp only [List.mem_cons, List.not_mem_nil, or_false]; omega)
  exact ⟨RV_fr a1 (fun c x y => q c (by simp only [List.mem_cons, List.not_mem_nil, or_false]; omega)) (q 36 (by decide)), RR_fr a2 (by rw [q 1 (by decide)]) (q 2 (by decide)) (q 3 (by decide)) (q 4 (by decide)) (q 33 (by decide)) (q 34 (by decide)) (q 35 (by decide)),
    hT, ⟨a, o, r, CA_fr b1 (by rw [q 7 (by decide)]) (by rw [q 7 (by decide)]) (q 8 (by decide)), MA_fr b2 (h32 8 (by omega)) (q 38 (by decide)), b3⟩, RX_fr a5 (by rw [q 9 (by decide)]) (h32 25 (by omega)) (q 10 (by decide)) (q 45 (by decide)),
    ⟨IM_fr i1 (q 43 (by decide)) (q 44 (by decide)) hi, IM_fr i2 (q 43 (by decide)) (q 44 (by decide)) hi, i3⟩, by rw [q 0 (by decide), h32 1 (by omega)]; exact a7, h56⟩
section Q62
variable {X : pm_X} {d k : Nat} {g : pm_G} {iv : pm_V} {v : HV} {x y z : Int32} {w : Int64}
theorem m1_neg : nI 0 - 1 < 0 := by decide
theorem nI_m (m : Nat) : nI m + (-1) = nI m - 1 := (Int32.sub_eq_add_neg (nI m) 1).symm
theorem t_add_loop (hL : pm_lay g) {n : Int32} : ∀ m t (iv : pm_V), t + m ≤ 400 → iv 5 1 = nI t → ∃ iv', pm_at X d 71 (28, [some (.ref 5), some (.long w), none, some (.int n), some (.int (nI m - 1))], [], g, iv) = some (some (.int 1), g, iv') ∧ chg [5, 6] iv iv' ∧ (∀ c, c ≠ 1 → iv' 5 c = iv 5 c) ∧ iv' 5 1 = nI (t + m) ∧ (∀ i, i < t → iv' 6 i = iv 6 i) ∧ ∀ j, j < m → iv' 6 (t + j) &&& 255 = nI (nbk w (m - 1 - j)) := by
  intro m
  induction m with
  | zero =>
    intro t iv ht h1
    refine ⟨iv, ?_, chg_rf, fun _ _ => rfl, h1, fun _ _ => rfl, fun j hj => absurd hj (Nat.not_lt_zero j)⟩
    rw [b71_28, if_pos m1_neg, b71_67]
  | succ m ih =>
    intro t iv ht h1
    have hin : vp_in (iv 5 1) 400 := by rw [h1]; exact vp_n (by omega) (by decide)
    have n0 : ¬ nI (m + 1) - 1 < 0 := by rw [nI_pred]; exact nI_pos (by omega)
    obtain ⟨iv', a1, a2, a3, a4, a5, a6⟩ := ih (t + 1) (pm_iw (pm_iw iv 6 t (vp_nar .byte ((w >>> ((8 * nI m).toInt64 &&& 63)).toInt32.toInt8.toInt32))) 5 1 (nI (t + 1))) (by omega) (by rw [iw_s, upd_s])
    refine ⟨iv', ?_, chg_tr (chg_tr (chg_iw (by decide)) (chg_iw (by decide))) a2, fun c hc => by rw [a3 c hc, iw_s, upd_n hc, iw_n (by decide)], by rw [a4]; congr 1; omega, fun i hi => by rw [a5 i (by omega), iw_n (by decide), iw_s, upd_n (by omega)], fun j hj => ?_⟩
    · rw [b71_28, if_neg n0, b71_33 hL hin, nI_pred, iw_n (show 5 ≠ 6 by decide), h1, nI_c (by omega), nI_m, nI_1 t, a1]
    · by_cases e : j = 0
      · subst e
        rw [Nat.add_zero, a5 t (by omega), iw_n (by decide), iw_s, upd_s, by_cls, show m + 1 - 1 - 0 = m by omega]
        rfl
      · rw [show t + j = t + 1 + (j - 1) by omega, a6 (j - 1) (by omega), show m - 1 - (j - 1) = m + 1 - 1 - j by omega]
theorem m_feed_loop (hL : pm_lay g) {n : Int32} : ∀ m t (iv : pm_V), t + m ≤ 400 → iv 32 10 = nI t → ∃ iv', pm_at X d 137 (40, [some (.ref 32), some (.long w), none, some (.int n), some (.int (nI m - 1))], [], g, iv) = some (some (.int (nI (t + m))), g, iv') ∧ chg [32, 39] iv iv' ∧ (∀ c, c ≠ 10 → iv' 32 c = iv 32 c) ∧ iv' 32 10 = nI (t + m) ∧ (∀ i, i < t → iv' 39 i = iv 39 i) ∧ ∀ j, j < m → iv' 39 (t + j) = nI (nbk w (m - 1 - j)) := by
  intro m
  induction m with
  | zero =>
    intro t iv ht h1
    refine ⟨iv, ?_, chg_rf, fun _ _ => rfl, h1, fun _ _ => rfl, fun j hj => absurd hj (Nat.not_lt_zero j)⟩
    rw [b137_40, if_pos m1_neg, b137_82 hL, h1]
    rfl
  | succ m ih =>
    intro t iv ht h1
    have hin : vp_in (iv 32 10) 400 := by rw [h1]; exact vp_n (by omega) (by decide)
    have n0 : ¬ nI (m + 1) - 1 < 0 := by rw [nI_pred]; exact nI_pos (by omega)
    obtain ⟨iv', a1, a2, a3, a4, a5, a6⟩ := ih (t + 1) (pm_iw (pm_iw iv 39 t ((w >>> ((8 * nI m).toInt64 &&& 63)) &&& 255).toInt32) 32 10 (nI (t + 1))) (by omega) (by rw [iw_s, upd_s])
    refine ⟨iv', ?_, chg_tr (chg_tr (chg_iw (by decide)) (chg_iw (by decide))) a2, fun c hc => by rw [a3 c hc, iw_s, upd_n hc, iw_n (by decide)], by rw [a4]; congr 1; omega, fun i hi => by rw [a5 i (by omega), iw_n (by decide), iw_s, upd_n (by omega)], fun j hj => ?_⟩
    · rw [b137_40, if_neg n0, b137_45 hL hin, nI_pred, iw_n (show 32 ≠ 39 by decide), h1, nI_c (by omega), nI_m, nI_1 t, a1, show t + 1 + m = t + (m + 1) by omega]
    · by_cases e : j = 0
      · subst e
        rw [Nat.add_zero, a5 t (by omega), iw_n (by decide), iw_s, upd_s, by_ref, show m + 1 - 1 - 0 = m by omega]
        rfl
      · rw [show t + j = t + 1 + (j - 1) by omega, a6 (j - 1) (by omega), show m - 1 - (j - 1) = m + 1 - 1 - j by omega]
theorem q_feed (hd : 5 ≤ d) (h : RL g iv) : PR X d g iv 95 137 [.ref 0, .long w, .int x] [.ref 32, .long w, .int x] := by
  obtain ⟨d, rfl, hd1⟩ := pm_d1 hd
  obtain ⟨d2, rfl, hd3⟩ := pm_d1 (show (d - 1) + 1 ≤ d by omega)
  obtain ⟨hg, v, co⟩ := h
  have hL := hg.1
  have co2 := CO_0 co
  obtain ⟨t, ht, c1, c2, c3⟩ := co.2.2.1
  have e1 : x < 1 ↔ x.toInt < 1 := by rw [lt_i, toI1]
  have e8 : x ≤ 8 ↔ x.toInt ≤ 8 := by rw [le_i, toI8]
  have z1 : (1 : Int64).toInt = 1 := rfl
  have z8 : (8 : Int64).toInt = 8 := rfl
  by_cases q : 1 ≤ x.toInt ∧ x.toInt ≤ 8
  · obtain ⟨q1, q2⟩ := q
    obtain ⟨n, hn, rfl, en⟩ := i_nI (x := x) (by omega)
    have nq1 : ¬ (nI n).toInt < 1 := by omega
    have hn8 : n ≤ 8 := by omega
    have hip : ip (nI n) 9 = true := ip_n (by omega) (by omega)
    have e400 : ∀ t', t' = nI t → (t' + nI n ≤ 400 ↔ t + n ≤ 400) := fun t' et => by
      rw [et, nI_add]
      exact nI_le' (i := t + n) (j := 400) (by omega) (by omega)
    have c2' : (pm_iw iv 32 0 0) 32 10 = nI t := by rw [iw_s, upd_n (by decide), c2]
    by_cases q3 : t + n ≤ 400
    · obtain ⟨iv1, a1, a2, a3, a4, a5, a6⟩ := t_add_loop (X := X) (d := d2) (w := w) (n := nI n) hL n t iv q3 c1
      have h10 : (pm_iw iv1 32 0 0) 32 10 = nI t := by rw [iw_s, upd_n (by decide), a2 32 (by decide), c2]
      obtain ⟨iv2, b1, b2, b3, b4, b5, b6⟩ := m_feed_loop (X := X) (d := d2 + 1) (w := w) (n := nI n) hL n t (pm_iw iv1 32 0 0) q3 h10
      have hc2 : chg [32, 39] iv1 iv2 := chg_tr (chg_iw (by decide)) b2
      have co3 : CO g iv2 v := by
        refine CO_tp co (chg_tr (chg_mo a2 (by decide)) (chg_mo hc2 (by decide))) ?_ (fun c hc => ?_) ⟨t + n, q3, by rw [hc2 5 (by decide), a4], b4, fun i hi => ?_⟩
        · rw [hc2 5 (by decide), a3 6 (by decide), b3 11 (by decide), iw_s, upd_n (by decide), a2 32 (by decide)]
          exact co.2.2.2.2.2.2.2
        · rw [b3 c (by omega), iw_s, upd_n (by omega), a2 32 (by decide)]
        · rcases Nat.lt_or_ge i t with p | p
          · obtain ⟨b, hb, f1, f2⟩ := c3 i p
            refine ⟨b, hb, ?_, ?_⟩
            · rw [b5 i p, iw_n (by decide), a2 39 (by decide), f1]
            · rw [hc2 6 (by decide), a5 i p, f2]
          · refine ⟨nbk w (n - 1 - (i - t)), nbk_lt _ _, ?_, ?_⟩
            · rw [show i = t + (i - t) by omega, b6 (i - t) (by omega), show t + (i - t) - t = i - t by omega]
            · rw [hc2 6 (by decide), show i = t + (i - t) by omega, a6 (i - t) (by omega), show t + (i - t) - t = i - t by omega]
      refine ⟨nI (t + n), iv1, iv2, ?_, ?_, hg, v, co3⟩
      · have hadd : pm_c X (d2 + 1) 71 [.ref 5, .long w, .int (nI n)] g iv = some (some (.int 1), g, iv1) := by
          simp only [e71, b71_0, t_ip (n := 8) (show 1 ≤ d2 by omega) toI8, hip, pm_then_i, pm_then_l, pm_then_v, bz_0, bz_n, bz_1, pm_zr0, pm_zr1, pm_zrI, if_true, if_false, not_true, not_false_eq_true, Bool.false_eq_true, true_and, and_true, false_and, and_false, z10, z01, zz0, eq_self, b71_6, b71_9 hL, e400 _ c1, q3, b71_23, a1]
        simp only [e95, b95_0, e1, nq1, bz_0, bz_n, bz_1, pm_zr0, pm_zr1, pm_zrI, if_true, if_false, not_true, not_false_eq_true, Bool.false_eq_true, true_and, and_true, false_and, and_false, z10, z01, zz0, eq_self, b95_5, e8, q2, b95_14 hL, hadd, pm_then_i, pm_then_l, pm_then_v, b95_23, b95_26 hL, e67, b67_0 hL, a4, b95_33, b95_38]
      · simp only [e137, b137_0 hL, m_inI (show 1 ≤ d2 + 1 by omega), z1, z8, q1, q2, pm_then_i, pm_then_l, pm_then_v, bz_0, bz_n, bz_1, pm_zr0, pm_zr1, pm_zrI, if_true, if_false, not_true, not_false_eq_true, Bool.false_eq_true, true_and, and_true, false_and, and_false, z10, z01, zz0, eq_self, b137_14, b137_20 hL, e400 _ h10, q3, b137_35, b1]
    · refine ⟨-1000003, iv, pm_iw iv 32 0 0, ?_, ?_, hg, v, co2⟩
      · have hadd : pm_c X (d2 + 1) 71 [.ref 5, .long w, .int (nI n)] g iv = some (some (.int 0), g, iv) := by
          simp only [e71, b71_0, t_ip (n := 8) (show 1 ≤ d2 by omega) toI8, hip, pm_then_i, pm_then_l, pm_then_v, bz_0, bz_n, bz_1, pm_zr0, pm_zr1, pm_zrI, if_true, if_false, not_true, not_false_eq_true, Bool.false_eq_true, true_and, and_true, false_and, and_false, z10, z01, zz0, eq_self, b71_6, b71_9 hL, e400 _ c1, q3, b71_21]
        simp only [e95, b95_0, e1, nq1, bz_0, bz_n, bz_1, pm_zr0, pm_zr1, pm_zrI, if_true, if_false, not_true, not_false_eq_true, Bool.false_eq_true, true_and, and_true, false_and, and_false, z10, z01, zz0, eq_self, b95_5, e8, q2, b95_14 hL, hadd, pm_then_i, pm_then_l, pm_then_v, b95_23, b95_36, b95_38]
      · simp only [e137, b137_0 hL, m_inI (show 1 ≤ d2 + 1 by omega), z1, z8, q1, q2, pm_then_i, pm_then_l, pm_then_v, bz_0, bz_n, bz_1, pm_zr0, pm_zr1, pm_zrI, if_true, if_false, not_true, not_false_eq_true, Bool.false_eq_true, true_and, and_true, false_and, and_false, z10, z01, zz0, eq_self, b137_14, b137_20 hL, e400 _ c2', q3, b137_32]
  · refine ⟨-1000001, iv, pm_iw iv 32 0 0, ?_, ?_, hg, v, co2⟩
    · simp only [e95, b95_0, e1, b95_5, e8, b95_11]
      by_cases w2 : x.toInt < 1
      · simp only [w2, bz_0, bz_n, bz_1, pm_zr0, pm_zr1, pm_zrI, if_true, if_false, not_true, not_false_eq_true, Bool.false_eq_true, true_and, and_true, false_and, and_false, z10, z01, zz0, eq_self]
      · by_cases w3 : x.toInt ≤ 8
        · exact absurd ⟨by omega, w3⟩ q
        · simp only [w2, w3, bz_0, bz_n, bz_1, pm_zr0, pm_zr1, pm_zrI, if_true, if_false, not_true, not_false_eq_true, Bool.false_eq_true, true_and, and_true, false_and, and_false, z10, z01, zz0, eq_self]
    · simp only [e137, b137_0 hL, m_inI (show 1 ≤ d2 + 1 by omega), z1, z8, if_neg q, pm_then_i, pm_then_l, pm_then_v, bz_0, bz_n, bz_1, pm_zr0, pm_zr1, pm_zrI, if_true, if_false, not_true, not_false_eq_true, Bool.false_eq_true, true_and, and_true, false_and, and_false, z10, z01, zz0, eq_self, b137_14, b137_17]
end Q62
