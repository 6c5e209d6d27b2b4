/-! set, drop -/
def cutI (l : Nat) (x : Int32) : Int32 := if l = 0 then x.toInt8.toInt32 else if l = 1 then x.toInt16.toInt32 else x
section Q53
variable {X : pm_X} {d k : Nat} {g : pm_G} {iv : pm_V} {v : HV} {x y z : Int32} {r : Nat}
theorem t_cut (hd : 1 ≤ d) {l : Nat} (hl : l < 3) : pm_c X d 24 [.int x, .int (nI l)] g iv = some (some (.int (cutI l x)), g, iv) := by
  obtain ⟨d, rfl, -⟩ := pm_d1 hd
  have e0 : nI l = 0 ↔ l = 0 := nI_eq (a := l) (b := 0) (by omega) (by omega)
  have e1 : nI l = 1 ↔ l = 1 := nI_eq (a := l) (b := 1) (by omega) (by omega)
  simp only [e24, b24_0, b24_4, b24_7, b24_12, b24_17, b24_18, e0, e1, cutI]
  by_cases q0 : l = 0
  · simp only [q0, bz_0, bz_n, bz_1, pm_zr0, pm_zr1, pm_zrI, if_true, if_false, not_true, not_false_eq_true, Bool.false_eq_true, true_and, and_true, false_and, and_false, z10, z01, zz0, eq_self]
  · by_cases q1 : l = 1
    · simp only [eq_false q0, eq_true q1, bz_0, bz_n, bz_1, pm_zr0, pm_zr1, pm_zrI, if_true, if_false, not_true, not_false_eq_true, Bool.false_eq_true, true_and, and_true, false_and, and_false, z10, z01, zz0, eq_self]
    · simp only [q0, q1, bz_0, bz_n, bz_1, pm_zr0, pm_zr1, pm_zrI, if_true, if_false, not_true, not_false_eq_true, Bool.false_eq_true, true_and, and_true, false_and, and_false, z10, z01, zz0, eq_self]
theorem plc_ip {m : Nat} (hm : m ≤ 40) : plc m y 1 ↔ ip y m = true := by
  unfold plc
  rw [ip, decide_eq_true_eq, toI1]
  omega
theorem t_places1 (hd : 4 ≤ d) (hL : pm_lay g) (hr : r < 8) (hp : bt (iv 1 3) r = true) {m : Nat} (h4 : iv 4 r = nI m) (hm : m ≤ 40) : pm_c X d 16 [.ref 1, .int (nI r), .int y, .int 1] g iv = some (some (.int (if ip y m = true then 1 else 0)), g, iv) := by
  have hP := t_places_y (X := X) (d := d) (g := g) (iv := iv) (y := y) (z := 1) (c := decidable_of_iff _ (plc_ip hm).symm) hd hL hr hp h4 hm
  rw [hP]
  by_cases q : ip y m = true
  · rw [if_pos q, @if_pos _ _ ((plc_ip hm).mpr q)]
  · rw [if_neg q, @if_neg _ _ (fun e => q ((plc_ip hm).mp e))]
theorem q_set (hd : 6 ≤ d) (h : RL g iv) : PR X d g iv 92 134 [.ref 0, .int x, .int y, .int z] [.ref 32, .int x, .int y, .int z] := by
  obtain ⟨d, rfl, hd1⟩ := pm_d1 hd
  obtain ⟨hg, v, co⟩ := h
  have hL := hg.1
  have co2 := CO_0 co
  by_cases q1 : ip x 8 = true
  · obtain ⟨r, hr, rfl⟩ := ip_ex q1 (by omega)
    have hin : vp_in (nI r) 8 := vp_n hr (by decide)
    have hc := nI_c (show r < 2147483648 by omega)
    rcases co.2.1.2 r hr with ⟨a1, a2⟩ | ⟨a1, l, n, hl, hn, a2, a3, a4, a5, a6⟩
    · have n0 : ¬ (0 : Int32) ≤ -1 := by decide
      have f33 : (pm_iw (pm_iw (pm_iw iv 0 7 1) 32 0 0) 32 1 0) 33 r = -1 := by rw [iw_n (by decide), iw_n (by decide), iw_n (by decide), a2]
      refine ⟨-1000010 - 1, pm_iw iv 0 7 1, pm_iw (pm_iw (pm_iw (pm_iw iv 0 7 1) 32 0 0) 32 1 0) 32 1 1, ?_, ?_, hg, v, CO_sx co (chg_tr (chg_iw (by decide)) (chg_tr (chg_iw (by decide)) (chg_tr (chg_iw (by decide)) (chg_iw (by decide))))) (fun c p0 p1 => by rw [iw_s, iw_s, iw_s, upd_n p1, upd_n p1, upd_n p0, iw_n (by decide)]) (by rw [iw_n (by decide), iw_n (by decide), iw_n (by decide), iw_s, upd_s, iw_s, upd_s])⟩
      · simp only [e92, b92_0, t_isRow (show 2 ≤ d by omega), q1, pm_then_i, pm_then_l, pm_then_v, bz_0, bz_n, bz_1, pm_zr0, pm_zr1, pm_zrI, if_true, if_false, not_true, not_false_eq_true, Bool.false_eq_true, true_and, and_true, false_and, and_false, z10, z01, zz0, eq_self, b92_4, b92_10 hL, t_missing (show 3 ≤ d by omega) hL hr, a1, b92_18, b92_21 hL, t_found (show 1 ≤ d by omega) hL, b92_26]
      · simp only [e134, b134_0 hL, m_isRow (show 2 ≤ d by omega), q1, pm_then_i, pm_then_l, pm_then_v, bz_0, bz_n, bz_1, pm_zr0, pm_zr1, pm_zrI, if_true, if_false, not_true, not_false_eq_true, Bool.false_eq_true, true_and, and_true, false_and, and_false, z10, z01, zz0, eq_self, b134_9, b134_15 hL hin, hc, f33, n0, b134_29 hL, m_finding (show 1 ≤ d by omega) hL, b134_34]
    · by_cases q2 : ip y n = true
      · obtain ⟨i, hi, rfl⟩ := ip_ex q2 (by omega)
        obtain ⟨p1, p2⟩ := r_mk hr (show i < 40 by omega)
        obtain ⟨p3, p4, p5⟩ := r_mk2 hr (show i < 40 by omega)
        let iv1 := pm_iw (pm_iw iv 2 (40 * r + i) (cutI l z)) 0 7 0
        let iv2 := pm_iw (pm_iw iv1 32 0 0) 32 1 0
        let iv3 := pm_iw iv2 35 (40 * r + i) (cutI l z)
        have g33 : iv2 33 r = nI l := by
          show pm_iw (pm_iw (pm_iw (pm_iw iv 2 (40 * r + i) (cutI l z)) 0 7 0) 32 0 0) 32 1 0 33 r = nI l
          rw [iw_n (by decide), iw_n (by decide), iw_n (by decide), iw_n (by decide), a2]
        have g34 : iv2 34 r = nI n := by
          show pm_iw (pm_iw (pm_iw (pm_iw iv 2 (40 * r + i) (cutI l z)) 0 7 0) 32 0 0) 32 1 0 34 r = nI n
          rw [iw_n (by decide), iw_n (by decide), iw_n (by decide), iw_n (by decide), a4]
        have f : ∀ c, c ≠ 0 → c ≠ 2 → c ≠ 32 → c ≠ 35 → iv3 c = iv c := fun c b0 b2 b3 b5 => by
          show pm_iw (pm_iw (pm_iw (pm_iw (pm_iw iv 2 (40 * r + i) (cutI l z)) 0 7 0) 32 0 0) 32 1 0) 35 (40 * r + i) (cutI l z) c = iv c
          rw [iw_n b5, iw_n b3, iw_n b3, iw_n b0, iw_n b2]
        have f2 : iv3 2 = upd (iv 2) (40 * r + i) (cutI l z) := by
          show pm_iw (pm_iw (pm_iw (pm_iw (pm_iw iv 2 (40 * r + i) (cutI l z)) 0 7 0) 32 0 0) 32 1 0) 35 (40 * r + i) (cutI l z) 2 = _
          rw [iw_n (by decide), iw_n (by decide), iw_n (by decide), iw_n (by decide), iw_s]
        have f35 : iv3 35 = upd (iv 35) (40 * r + i) (cutI l z) := by
          show pm_iw (pm_iw (pm_iw (pm_iw (pm_iw iv 2 (40 * r + i) (cutI l z)) 0 7 0) 32 0 0) 32 1 0) 35 (40 * r + i) (cutI l z) 35 = _
          rw [iw_s, iw_n (by decide), iw_n (by decide), iw_n (by decide), iw_n (by decide)]
        have f32 : iv3 32 = upd (upd (iv 32) 0 0) 1 0 := by
          show pm_iw (pm_iw (pm_iw (pm_iw (pm_iw iv 2 (40 * r + i) (cutI l z)) 0 7 0) 32 0 0) 32 1 0) 35 (40 * r + i) (cutI l z) 32 = _
          rw [iw_n (by decide), iw_s, iw_s, iw_n (by decide), iw_n (by decide)]
        have f0 : iv3 0 7 = 0 := by
          show pm_iw (pm_iw (pm_iw (pm_iw (pm_iw iv 2 (40 * r + i) (cutI l z)) 0 7 0) 32 0 0) 32 1 0) 35 (40 * r + i) (cutI l z) 0 7 = _
          rw [iw_n (by decide), iw_n (by decide), iw_n (by decide), iw_s, upd_s]
        have hrr : RR iv3 := by
          refine RR_upd co.2.1 hr (fun j hj ne => by rw [f 1 (by decide) (by decide) (by decide) (by decide)]) (fun q hq ne => by rw [f 33 (by decide) (by decide) (by decide) (by decide), f 3 (by decide) (by decide) (by decide) (by decide), f 34 (by decide) (by decide) (by decide) (by decide), f 4 (by decide) (by decide) (by decide) (by decide)]; exact ⟨rfl, rfl, rfl, rfl⟩) (fun j hj => by rw [f2, f35, upd_n (by omega), upd_n (by omega)]; exact ⟨rfl, rfl⟩) (Or.inr ⟨?_, l, n, hl, hn, ?_, ?_, ?_, ?_, fun j hj => ?_⟩)
          · rw [f 1 (by decide) (by decide) (by decide) (by decide)]; exact a1
          · rw [f 33 (by decide) (by decide) (by decide) (by decide)]; exact a2
          · rw [f 3 (by decide) (by decide) (by decide) (by decide)]; exact a3
          · rw [f 34 (by decide) (by decide) (by decide) (by decide)]; exact a4
          · rw [f 4 (by decide) (by decide) (by decide) (by decide)]; exact a5
          · rw [f2, f35]
            by_cases e : j = i
            · rw [e, upd_s, upd_s]
            · rw [upd_n (by omega), upd_n (by omega)]; exact a6 j hj
        have hchg : chg rwL iv iv3 := fun c hc => f c (fun e => hc (by rw [e]; decide)) (fun e => hc (by rw [e]; decide)) (fun e => hc (by rw [e]; decide)) (fun e => hc (by rw [e]; decide))
        have e0 : nI l = 0 ↔ l = 0 := nI_eq (a := l) (b := 0) (by omega) (by omega)
        have e1 : nI l = 1 ↔ l = 1 := nI_eq (a := l) (b := 1) (by omega) (by omega)
        refine ⟨cutI l z, iv1, iv3, ?_, ?_, hg, v, CO_rw co hchg (fun c p0 p1 => by rw [f32, upd_n p1, upd_n p0]) hrr (by rw [f0, f32, upd_s])⟩
        · obtain ⟨d2, rfl, hd3⟩ := pm_d1 (show (d - 1) + 1 ≤ d by omega)
          have hput : pm_c X (d2 + 1) 21 [.ref 1, .int (nI r), .int (nI i), .int z] g iv = some (some (.int (cutI l z)), g, pm_iw iv 2 (40 * r + i) (cutI l z)) := by
            simp only [e21, b21_0 hL, t_places1 (show 4 ≤ d2 by omega) hL hr a1 a5 hn, q2, pm_then_i, pm_then_l, pm_then_v, bz_0, bz_n, bz_1, pm_zr0, pm_zr1, pm_zrI, if_true, if_false, not_true, not_false_eq_true, Bool.false_eq_true, true_and, and_true, false_and, and_false, z10, z01, zz0, eq_self, b21_7, b21_13 hL hin, hc, a3, t_cut (show 1 ≤ d2 by omega) hl, b21_23 hL p1, p2]
          simp only [e92, b92_0, t_isRow (show 2 ≤ d2 + 1 by omega), q1, pm_then_i, pm_then_l, pm_then_v, bz_0, bz_n, bz_1, pm_zr0, pm_zr1, pm_zrI, if_true, if_false, not_true, not_false_eq_true, Bool.false_eq_true, true_and, and_true, false_and, and_false, z10, z01, zz0, eq_self, b92_4, b92_10 hL, t_missing (show 3 ≤ d2 + 1 by omega) hL hr, a1, b92_18, b92_27 hL, t_places1 (show 4 ≤ d2 + 1 by omega) hL hr a1 a5 hn, q2, b92_37, b92_46 hL, hput, b92_57 hL, t_answered (show 1 ≤ d2 + 1 by omega) hL, b92_60]
          rfl
        · have hl0 : (0 : Int32) ≤ nI l := by rw [le_i, toI0, nI_t (by omega)]; omega
          have s1 : pm_c X (d + 1) 134 [.ref 32, .int (nI r), .int (nI i), .int z] g iv1 = pm_at X d 134 (59, [some (.ref 32), some (.int (nI r)), some (.int (nI i)), some (.int z)], [], g, iv2) := by
            have em : (nI n - 1 : Int32).toInt64.toInt = (n : Int) - 1 := by rw [wd_t, nI_m1 (by omega)]
            have z0 : (0 : Int64).toInt = 0 := rfl
            have pi : (0 ≤ (nI i).toInt ∧ (nI i).toInt ≤ (n : Int) - 1) := by rw [nI_t (by omega)]; omega
            have gg : (pm_iw (pm_iw iv1 32 0 0) 32 1 0) 33 r = nI l := g33
            have gh : (pm_iw (pm_iw iv1 32 0 0) 32 1 0) 34 r = nI n := g34
            simp only [e134, b134_0 hL, m_isRow (show 2 ≤ d by omega), q1, pm_then_i, pm_then_l, pm_then_v, bz_0, bz_n, bz_1, pm_zr0, pm_zr1, pm_zrI, if_true, if_false, not_true, not_false_eq_true, Bool.false_eq_true, true_and, and_true, false_and, and_false, z10, z01, zz0, eq_self, b134_9, b134_15 hL hin, hc, gg, hl0, b134_35 hL hin, gh, m_inI (show 1 ≤ d by omega), em, z0, pi, b134_50]
            rfl
          have s2 : ∀ w, pm_at X d 134 (99, [some (.ref 32), some (.int (nI r)), some (.int (nI i)), some (.int z)], [.int w, .int (nI (40 * r + i)), .ref 35], g, iv2) = some (some (.int w), g, pm_iw iv2 35 (40 * r + i) w) := fun w => by
            rw [b134_99 hL (by rw [← p5]; exact p3) p3, p4, nI_c (by omega), iw_s, upd_s]
          rw [s1, b134_59 hL hin, hc, g33, p5]
          by_cases w0 : l = 0
          · rw [if_neg (not_not_intro (e0.mpr w0)), b134_78, s2]
            have ec : cutI l z = z.toInt8.toInt32 := by unfold cutI; rw [if_pos w0]
            rw [ec]
            show _ = some (some _, g, pm_iw iv2 35 (40 * r + i) (cutI l z))
            rw [ec]
          · rw [if_pos (fun e => w0 (e0.mp e)), b134_83 hL hin, hc, g33]
            by_cases w1 : l = 1
            · rw [if_neg (not_not_intro (e1.mpr w1)), b134_93, s2]
              have ec : cutI l z = z.toInt16.toInt32 := by unfold cutI; rw [if_neg w0, if_pos w1]
              rw [ec]
              show _ = some (some _, g, pm_iw iv2 35 (40 * r + i) (cutI l z))
              rw [ec]
            · rw [if_pos (fun e => w1 (e1.mp e)), b134_98, s2]
              have ec : cutI l z = z := by unfold cutI; rw [if_neg w0, if_neg w1]
              rw [ec]
              show _ = some (some _, g, pm_iw iv2 35 (40 * r + i) (cutI l z))
              rw [ec]
      · have f33 : (pm_iw (pm_iw (pm_iw iv 0 7 2) 32 0 0) 32 1 0) 33 r = nI l := by rw [iw_n (by decide), iw_n (by decide), iw_n (by decide), a2]
        have f34 : (pm_iw (pm_iw (pm_iw iv 0 7 2) 32 0 0) 32 1 0) 34 r = nI n := by rw [iw_n (by decide), iw_n (by decide), iw_n (by decide), a4]
        have hl0 : (0 : Int32) ≤ nI l := by rw [le_i, toI0, nI_t (by omega)]; omega
        have em : (nI n - 1 : Int32).toInt64.toInt = (n : Int) - 1 := by rw [wd_t, nI_m1 (by omega)]
        have z0 : (0 : Int64).toInt = 0 := rfl
        have pi : ¬ (0 ≤ y.toInt ∧ y.toInt ≤ (n : Int) - 1) := fun e => q2 (decide_eq_true (by omega))
        refine ⟨-1000010 - 2, pm_iw iv 0 7 2, pm_iw (pm_iw (pm_iw (pm_iw iv 0 7 2) 32 0 0) 32 1 0) 32 1 2, ?_, ?_, hg, v, CO_sx co (chg_tr (chg_iw (by decide)) (chg_tr (chg_iw (by decide)) (chg_tr (chg_iw (by decide)) (chg_iw (by decide))))) (fun c p0 p1 => by rw [iw_s, iw_s, iw_s, upd_n p1, upd_n p1, upd_n p0, iw_n (by decide)]) (by rw [iw_n (by decide), iw_n (by decide), iw_n (by decide), iw_s, upd_s, iw_s, upd_s])⟩
        · simp only [e92, b92_0, t_isRow (show 2 ≤ d by omega), q1, pm_then_i, pm_then_l, pm_then_v, bz_0, bz_n, bz_1, pm_zr0, pm_zr1, pm_zrI, if_true, if_false, not_true, not_false_eq_true, Bool.false_eq_true, true_and, and_true, false_and, and_false, z10, z01, zz0, eq_self, b92_4, b92_10 hL, t_missing (show 3 ≤ d by omega) hL hr, a1, b92_18, b92_27 hL, t_places1 (show 4 ≤ d by omega) hL hr a1 a5 hn, q2, b92_37, b92_40 hL, t_found (show 1 ≤ d by omega) hL, b92_45]
        · simp only [e134, b134_0 hL, m_isRow (show 2 ≤ d by omega), q1, pm_then_i, pm_then_l, pm_then_v, bz_0, bz_n, bz_1, pm_zr0, pm_zr1, pm_zrI, if_true, if_false, not_true, not_false_eq_true, Bool.false_eq_true, true_and, and_true, false_and, and_false, z10, z01, zz0, eq_self, b134_9, b134_15 hL hin, hc, f33, hl0, b134_35 hL hin, f34, m_inI (show 1 ≤ d by omega), em, z0, pi, b134_50, b134_53 hL, m_finding (show 1 ≤ d by omega) hL, b134_58]
  · refine ⟨-1000001, iv, pm_iw iv 32 0 0, ?_, ?_, hg, v, co2⟩
    · simp only [e92, b92_0, t_isRow (show 2 ≤ d by omega), q1, pm_then_i, pm_then_l, pm_then_v, bz_0, bz_n, bz_1, pm_zr0, pm_zr1, pm_zrI, if_true, if_false, not_true, not_false_eq_true, Bool.false_eq_true, true_and, and_true, false_and, and_false, z10, z01, zz0, eq_self, b92_4, b92_7]
    · simp only [e134, b134_0 hL, m_isRow (show 2 ≤ d by omega), q1, pm_then_i, pm_then_l, pm_then_v, bz_0, bz_n, bz_1, pm_zr0, pm_zr1, pm_zrI, if_true, if_false, not_true, not_false_eq_true, Bool.false_eq_true, true_and, and_true, false_and, and_false, z10, z01, zz0, eq_self, b134_9, b134_12]
theorem q_drop (hd : 6 ≤ d) (h : RL g iv) : PR X d g iv 94 136 [.ref 0, .int x] [.ref 32, .int x] := by
  obtain ⟨d, rfl, hd1⟩ := pm_d1 hd
  obtain ⟨hg, v, co⟩ := h
  have hL := hg.1
  have co2 := CO_0 co
  by_cases q1 : ip x 8 = true
  · obtain ⟨r, hr, rfl⟩ := ip_ex q1 (by omega)
    have hin : vp_in (nI r) 8 := vp_n hr (by decide)
    have hc := nI_c (show r < 2147483648 by omega)
    rcases co.2.1.2 r hr with ⟨a1, a2⟩ | ⟨a1, l, n, hl, hn, a2, a3, a4, a5, a6⟩
    · have n0 : ¬ (0 : Int32) ≤ -1 := by decide
      have f33 : (pm_iw (pm_iw (pm_iw iv 0 7 1) 32 0 0) 32 1 0) 33 r = -1 := by rw [iw_n (by decide), iw_n (by decide), iw_n (by decide), a2]
      refine ⟨-1000010 - 1, pm_iw iv 0 7 1, pm_iw (pm_iw (pm_iw (pm_iw iv 0 7 1) 32 0 0) 32 1 0) 32 1 1, ?_, ?_, hg, v, CO_sx co (chg_tr (chg_iw (by decide)) (chg_tr (chg_iw (by decide)) (chg_tr (chg_iw (by decide)) (chg_iw (by decide))))) (fun c p0 p1 => by rw [iw_s, iw_s, iw_s, upd_n p1, upd_n p1, upd_n p0, iw_n (by decide)]) (by rw [iw_n (by decide), iw_n (by decide), iw_n (by decide), iw_s, upd_s, iw_s, upd_s])⟩
      · simp only [e94, b94_0, t_isRow (show 2 ≤ d by omega), q1, pm_then_i, pm_then_l, pm_then_v, bz_0, bz_n, bz_1, pm_zr0, pm_zr1, pm_zrI, if_true, if_false, not_true, not_false_eq_true, Bool.false_eq_true, true_and, and_true, false_and, and_false, z10, z01, zz0, eq_self, b94_4, b94_10 hL, t_missing (show 3 ≤ d by omega) hL hr, a1, b94_18, b94_21 hL, t_found (show 1 ≤ d by omega) hL, b94_26]
      · simp only [e136, b136_0 hL, m_isRow (show 2 ≤ d by omega), q1, pm_then_i, pm_then_l, pm_then_v, bz_0, bz_n, bz_1, pm_zr0, pm_zr1, pm_zrI, if_true, if_false, not_true, not_false_eq_true, Bool.false_eq_true, true_and, and_true, false_and, and_false, z10, z01, zz0, eq_self, b136_9, b136_15 hL hin, hc, f33, n0, b136_29 hL, m_finding (show 1 ≤ d by omega) hL, b136_34]
    · let b' := iv 1 3 &&& (((1 : Int32) <<< (nI r &&& 31)) ^^^ (-1))
      let iv1 := pm_iw (pm_iw iv 1 3 b') 0 7 0
      let iv2 := pm_iw (pm_iw iv1 32 0 0) 32 1 0
      let iv3 := pm_iw iv2 33 r (-1)
      have g33 : (pm_iw (pm_iw iv1 32 0 0) 32 1 0) 33 r = nI l := by
        show pm_iw (pm_iw (pm_iw (pm_iw iv 1 3 b') 0 7 0) 32 0 0) 32 1 0 33 r = nI l
        rw [iw_n (by decide), iw_n (by decide), iw_n (by decide), iw_n (by decide), a2]
      have g34 : (pm_iw (pm_iw (pm_iw iv1 32 0 0) 32 1 0) 33 r (-1)) 34 r = nI n := by
        show pm_iw (pm_iw (pm_iw (pm_iw (pm_iw iv 1 3 b') 0 7 0) 32 0 0) 32 1 0) 33 r (-1) 34 r = nI n
        rw [iw_n (by decide), iw_n (by decide), iw_n (by decide), iw_n (by decide), iw_n (by decide), a4]
      have g4 : (pm_iw iv 1 3 b') 4 r = nI n := by rw [iw_n (by decide), a5]
      have f : ∀ c, c ≠ 0 → c ≠ 1 → c ≠ 32 → c ≠ 33 → iv3 c = iv c := fun c b0 b2 b3 b5 => by
        show pm_iw (pm_iw (pm_iw (pm_iw (pm_iw iv 1 3 b') 0 7 0) 32 0 0) 32 1 0) 33 r (-1) c = iv c
        rw [iw_n b5, iw_n b3, iw_n b3, iw_n b0, iw_n b2]
      have f1 : iv3 1 3 = b' := by
        show pm_iw (pm_iw (pm_iw (pm_iw (pm_iw iv 1 3 b') 0 7 0) 32 0 0) 32 1 0) 33 r (-1) 1 3 = b'
        rw [iw_n (by decide), iw_n (by decide), iw_n (by decide), iw_n (by decide), iw_s, upd_s]
      have f33 : iv3 33 = upd (iv 33) r (-1) := by
        show pm_iw (pm_iw (pm_iw (pm_iw (pm_iw iv 1 3 b') 0 7 0) 32 0 0) 32 1 0) 33 r (-1) 33 = _
        rw [iw_s, iw_n (by decide), iw_n (by decide), iw_n (by decide), iw_n (by decide)]
      have f32 : iv3 32 = upd (upd (iv 32) 0 0) 1 0 := by
        show pm_iw (pm_iw (pm_iw (pm_iw (pm_iw iv 1 3 b') 0 7 0) 32 0 0) 32 1 0) 33 r (-1) 32 = _
        rw [iw_n (by decide), iw_s, iw_s, iw_n (by decide), iw_n (by decide)]
      have f0 : iv3 0 7 = 0 := by
        show pm_iw (pm_iw (pm_iw (pm_iw (pm_iw iv 1 3 b') 0 7 0) 32 0 0) 32 1 0) 33 r (-1) 0 7 = _
        rw [iw_n (by decide), iw_n (by decide), iw_n (by decide), iw_s, upd_s]
      have hb : ∀ i, i < 32 → bt b' i = (bt (iv 1 3) i && !decide (i = r)) := fun i hi => by
        show bt (iv 1 3 &&& (((1 : Int32) <<< (nI r &&& 31)) ^^^ (-1))) i = _
        rw [b_and, b_nt _ hi, b_one (by omega) hi]
      have hrr : RR iv3 := by
        refine RR_upd co.2.1 hr (fun j hj ne => by rw [f1, hb j hj, decide_eq_false ne]; simp) (fun q hq ne => by rw [f33, upd_n ne, f 3 (by decide) (by decide) (by decide) (by decide), f 34 (by decide) (by decide) (by decide) (by decide), f 4 (by decide) (by decide) (by decide) (by decide)]; exact ⟨rfl, rfl, rfl, rfl⟩) (fun j hj => by rw [f 2 (by decide) (by decide) (by decide) (by decide), f 35 (by decide) (by decide) (by decide) (by decide)]; exact ⟨rfl, rfl⟩) (Or.inl ⟨by rw [f1, hb r (by omega), decide_eq_true rfl]; simp, by rw [f33, upd_s]⟩)
      have hchg : chg rwL iv iv3 := fun c hc => f c (fun e => hc (by rw [e]; decide)) (fun e => hc (by rw [e]; decide)) (fun e => hc (by rw [e]; decide)) (fun e => hc (by rw [e]; decide))
      have hl0 : (0 : Int32) ≤ nI l := by rw [le_i, toI0, nI_t (by omega)]; omega
      refine ⟨nI n, iv1, iv3, ?_, ?_, hg, v, CO_rw co hchg (fun c p0 p1 => by rw [f32, upd_n p1, upd_n p0]) hrr (by rw [f0, f32, upd_s])⟩
      · obtain ⟨d2, rfl, hd3⟩ := pm_d1 (show (d - 1) + 1 ≤ d by omega)
        have hrem : pm_c X (d2 + 1) 23 [.ref 1, .int (nI r)] g iv = some (some (.int (nI n)), g, pm_iw iv 1 3 b') := by
          simp only [e23, b23_0 hL, t_missing (show 3 ≤ d2 by omega) hL hr, a1, pm_then_i, pm_then_l, pm_then_v, bz_0, bz_n, bz_1, pm_zr0, pm_zr1, pm_zrI, if_true, if_false, not_true, not_false_eq_true, Bool.false_eq_true, true_and, and_true, false_and, and_false, z10, z01, zz0, eq_self, b23_5, b23_11 hL hin, hc]
          rw [← g4]
        simp only [e94, b94_0, t_isRow (show 2 ≤ d2 + 1 by omega), q1, pm_then_i, pm_then_l, pm_then_v, bz_0, bz_n, bz_1, pm_zr0, pm_zr1, pm_zrI, if_true, if_false, not_true, not_false_eq_true, Bool.false_eq_true, true_and, and_true, false_and, and_false, z10, z01, zz0, eq_self, b94_4, b94_10 hL, t_missing (show 3 ≤ d2 + 1 by omega) hL hr, a1, b94_18, b94_27 hL, hrem, b94_36 hL, t_answered (show 1 ≤ d2 + 1 by omega) hL, b94_39]
        rfl
      · simp only [e136, b136_0 hL, m_isRow (show 2 ≤ d by omega), q1, pm_then_i, pm_then_l, pm_then_v, bz_0, bz_n, bz_1, pm_zr0, pm_zr1, pm_zrI, if_true, if_false, not_true, not_false_eq_true, Bool.false_eq_true, true_and, and_true, false_and, and_false, z10, z01, zz0, eq_self, b136_9, b136_15 hL hin, hc, g33, hl0, b136_35 hL hin, g34]
        rfl
  · refine ⟨-1000001, iv, pm_iw iv 32 0 0, ?_, ?_, hg, v, co2⟩
    · simp only [e94, b94_0, t_isRow (show 2 ≤ d by omega), q1, pm_then_i, pm_then_l, pm_then_v, bz_0, bz_n, bz_1, pm_zr0, pm_zr1, pm_zrI, if_true, if_false, not_true, not_false_eq_true, Bool.false_eq_true, true_and, and_true, false_and, and_false, z10, z01, zz0, eq_self, b94_4, b94_7]
    · simp only [e136, b136_0 hL, m_isRow (show 2 ≤ d by omega), q1, pm_then_i, pm_then_l, pm_then_v, bz_0, bz_n, bz_1, pm_zr0, pm_zr1, pm_zrI, if_true, if_false, not_true, not_false_eq_true, Bool.false_eq_true, true_and, and_true, false_and, and_false, z10, z01, zz0, eq_self, b136_9, b136_12]
end Q53
