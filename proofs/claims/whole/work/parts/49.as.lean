/-! the pairs ask, trace, as -/
def pN (k : Nat) : Nat := if k = 2 then 1 else if k = 4 then 3 else if k = 5 then 3 else 0
def isF : Nat → Nat → Nat → Bool
  | 0, _, _ => false
  | m + 1, a, w => decide (a = w) || isF m (pN a) w
def ofB (is of : Nat) : Bool := decide (of = 0) || decide (is = of) || (decide (of = 1) && decide (is = 2)) || (decide (of = 3) && decide (3 < is))
theorem pN_lt {k : Nat} : pN k < 6 := by unfold pN; repeat' split
                                         all_goals omega
theorem pN_X {k : Nat} (h : k < 6) : pm_tX1200 k = nI (pN k) := by
  rcases (show k = 0 ∨ k = 1 ∨ k = 2 ∨ k = 3 ∨ k = 4 ∨ k = 5 by omega) with rfl | rfl | rfl | rfl | rfl | rfl <;> decide
theorem isF_of : ∀ is, is < 6 → ∀ of, of < 6 → isF 6 is of = ofB is of := by decide
section Q49
variable {X : pm_X} {d k : Nat} {g : pm_G} {iv : pm_V} {v : HV} {h : Nat} {x y z : Int32}
theorem t_isSuch_loop (hd : 2 ≤ d) (hg : pm_xg g) {w : Nat} (hw : w < 6) : ∀ m u a, u + m = 6 → a < 6 → pm_at X d 6 (4, [some (.int x), some (.int (nI w)), some (.int (nI a)), some (.int (nI u))], [], g, iv) = some (some (.int (if isF m a w = true then 1 else 0)), g, iv) := by
  intro m
  induction m with
  | zero =>
    intro u a hu ha
    have e : u = 6 := by omega
    subst e
    rw [b6_4 hg, if_pos (show Int32.ofNat 6 ≤ nI 6 from Int32.le_refl _), b6_30, isF, if_neg Bool.false_ne_true]
  | succ m ih =>
    intro u a hu ha
    have h1 : ¬ Int32.ofNat 6 ≤ nI u := nI_ge (show u < 6 by omega) (by omega)
    have e : nI a = nI w ↔ a = w := nI_eq (by omega) (by omega)
    rw [isF]
    by_cases q : a = w
    · subst q
      rw [b6_4 hg, if_neg h1, b6_12, if_neg (not_not_intro rfl), b6_17, decide_eq_true rfl, Bool.true_or, if_pos rfl]
    · rw [b6_4 hg, if_neg h1, b6_12, if_pos (fun p => q (e.mp p)), b6_19, t_parent hd hg ha, pN_X ha]
      simp only [pm_then_i, pm_then_l, pm_then_v, b6_23, nI_1]
      rw [ih (u + 1) (pN a) (by omega) pN_lt, decide_eq_false q, Bool.false_or]
theorem t_isSuch (hd : 3 ≤ d) (hg : pm_xg g) {a w : Nat} (ha : a < 6) (hw : w < 6) : pm_c X d 6 [.int (nI a), .int (nI w)] g iv = some (some (.int (if ofB a w = true then 1 else 0)), g, iv) := by
  obtain ⟨d, rfl, hd1⟩ := pm_d1 hd
  have hl := t_isSuch_loop (X := X) (iv := iv) (x := nI a) hd1 hg hw 6 0 a (by omega) ha
  rw [nI_0] at hl
  rw [e6, b6_0, hl, isF_of a ha w hw]
theorem m_isOf (hd : 1 ≤ d) {a w : Nat} (ha : a < 6) (hw : w < 6) : pm_c X d 191 [.int (nI a), .int (nI w)] g iv = some (some (.int (if ofB a w = true then 1 else 0)), g, iv) := by
  obtain ⟨d, rfl, hd1⟩ := pm_d1 hd
  have e0 : nI w = 0 ↔ w = 0 := nI_eq (a := w) (b := 0) (by omega) (by omega)
  have e1 : nI w = 1 ↔ w = 1 := nI_eq (a := w) (b := 1) (by omega) (by omega)
  have e3 : nI w = 3 ↔ w = 3 := nI_eq (a := w) (b := 3) (by omega) (by omega)
  have e2 : nI a = 2 ↔ a = 2 := nI_eq (a := a) (b := 2) (by omega) (by omega)
  have ew : nI a = nI w ↔ a = w := nI_eq (by omega) (by omega)
  have el : nI a ≤ 3 ↔ a ≤ 3 := by rw [le_i, toI3, nI_t (by omega)]; omega
  rw [e191]
  simp only [b191_0, b191_4, b191_9, b191_14, b191_19, b191_24, b191_29, b191_33, b191_34, e0, e1, e2, e3, ew, el, pm_zr0, pm_zr1, ofB]
  (repeat' split) <;> simp_all <;> omega
theorem q_as (hd : 6 ≤ d) (h : RL g iv) : PR X d g iv 115 193 [.ref 0, .int x, .int y] [.ref 32, .int x, .int y] := by
  obtain ⟨d, rfl, hd1⟩ := pm_d1 hd
  obtain ⟨hg, v, co⟩ := h
  have hL := hg.1
  have hv := co.1.1
  have ho := co.1.2.2.1
  have hN := ho.2.2.1
  have co2 := CO_0 co
  have hw := co2.1.2.1
  by_cases q1 : ip x (vN v) = true
  · obtain ⟨h, hh, rfl⟩ := ip_ex q1 (by omega)
    have hb := ho.2.2.2.2.2 h hh
    by_cases q2 : ip y 6 = true
    · obtain ⟨w, hw6, rfl⟩ := ip_ex q2 (by omega)
      have hf : pm_c X d 123 [.ref 0, .int 3] g iv = some (some (.int (-1000010 - 3)), g, pm_iw iv 0 7 3) := by
        obtain ⟨d, rfl, -⟩ := pm_d1 (show (d - 1) + 1 ≤ d by omega)
        rw [e123, b123_0 hL]
      have ha : pm_c X d 124 [.ref 0, .int (nI h)] g iv = some (some (.int (nI h)), g, pm_iw iv 0 7 0) := by
        obtain ⟨d, rfl, -⟩ := pm_d1 (show (d - 1) + 1 ≤ d by omega)
        rw [e124, b124_0 hL]
      have hc : pm_c X (d + 1) 115 [.ref 0, .int (nI h), .int (nI w)] g iv = if ofB (vK v h) w = true then some (some (.int (nI h)), g, pm_iw iv 0 7 0) else some (some (.int (-1000010 - 3)), g, pm_iw iv 0 7 3) := by
        simp only [e115, b115_0 hL, t_isHouse (show 1 ≤ d by omega) (lay_now hL) hv ho, q1, pm_then_i, pm_then_l, pm_then_v, bz_0, bz_n, bz_1, pm_zr0, pm_zr1, pm_zrI, if_true, if_false, not_true, not_false_eq_true, Bool.false_eq_true, true_and, and_true, false_and, and_false, z10, z01, zz0, eq_self, b115_8, b115_11, t_ip (n := 5) (show 1 ≤ d by omega) toI5, q2, b115_16, b115_22 hL, t_kindOf (show 2 ≤ d by omega) (lay_now hL) hv ho hh, b115_30, t_isSuch (show 3 ≤ d by omega) hg.2.1 hb.2.2.1 hw6, b115_34, b115_37 hL, b115_43 hL, hf, ha, b115_42, b115_48]
        by_cases r : ofB (vK v h) w = true <;> simp only [r, bz_0, bz_n, bz_1, pm_zr0, pm_zr1, pm_zrI, if_true, if_false, not_true, not_false_eq_true, Bool.false_eq_true, true_and, and_true, false_and, and_false, z10, z01, zz0, eq_self]
      by_cases r : ofB (vK v h) w = true
      · have co3 := CO_0 (CO_st (x := 0) co)
        have e : pm_iw (pm_iw (pm_iw iv 0 7 0) 32 1 0) 32 0 0 = pm_iw (pm_iw (pm_iw iv 0 7 0) 32 0 0) 32 1 0 := by
          funext c i
          by_cases p : c = 32
          · subst p
            rw [iw_s, iw_s, iw_s, iw_s]
            by_cases p0 : i = 0
            · rw [p0, upd_s, upd_n (by decide), upd_s]
            · rw [upd_n p0]
              by_cases p1 : i = 1
              · rw [p1, upd_s, upd_s]
              · rw [upd_n p1, upd_n p1, upd_n p0]
          · rw [iw_n p, iw_n p, iw_n p, iw_n p]
        rw [e] at co3
        have hw3 := co3.1.2.1
        have hi : HAr ((pm_iw (pm_iw iv 0 7 0) 32 0 0) 36) v := by rw [iw_n (by decide)] at hw3; exact hw3
        refine ⟨nI h, pm_iw iv 0 7 0, _, ?_, ?_, hg, v, co3⟩
        · rw [hc, if_pos r]
        · simp only [e193, b193_0 hL, m_isHouse (show 2 ≤ d by omega) hL hi ho, q1, pm_then_i, pm_then_l, pm_then_v, bz_0, bz_n, bz_1, pm_zr0, pm_zr1, pm_zrI, if_true, if_false, not_true, not_false_eq_true, Bool.false_eq_true, true_and, and_true, false_and, and_false, z10, z01, zz0, eq_self, b193_10, b193_13, m_ip (n := 5) (show 1 ≤ d by omega) toL5, q2, b193_22, b193_28 hL, m_ofK (show 1 ≤ d by omega) hL hw3 ho hh, b193_39, m_isOf (show 1 ≤ d by omega) hb.2.2.1 hw6, r, b193_43, b193_46, b193_55]
      · have co3 := CO_0 (CO_st (x := 3) co)
        have e : pm_iw (pm_iw (pm_iw iv 0 7 3) 32 1 3) 32 0 0 = pm_iw (pm_iw (pm_iw (pm_iw iv 0 7 3) 32 0 0) 32 1 0) 32 1 3 := by
          funext c i
          by_cases p : c = 32
          · subst p
            rw [iw_s, iw_s, iw_s, iw_s, iw_s]
            by_cases p0 : i = 0
            · rw [p0, upd_s, upd_n (by decide), upd_n (by decide), upd_s]
            · rw [upd_n p0]
              by_cases p1 : i = 1
              · rw [p1, upd_s, upd_s]
              · rw [upd_n p1, upd_n p1, upd_n p1, upd_n p0]
          · rw [iw_n p, iw_n p, iw_n p, iw_n p, iw_n p]
        rw [e] at co3
        have hw3 := co3.1.2.1
        have hi2 : HAr ((pm_iw (pm_iw (pm_iw iv 0 7 3) 32 0 0) 32 1 0) 36) v := by rw [iw_n (by decide)] at hw3; exact hw3
        have hi : HAr ((pm_iw (pm_iw iv 0 7 3) 32 0 0) 36) v := by rw [iw_n (by decide)] at hi2; exact hi2
        have hf2 : pm_c X d 131 [.ref 32, .int 3] g (pm_iw (pm_iw (pm_iw iv 0 7 3) 32 0 0) 32 1 0) = some (some (.int (-1000010 - 3)), g, pm_iw (pm_iw (pm_iw (pm_iw iv 0 7 3) 32 0 0) 32 1 0) 32 1 3) := by
          obtain ⟨d, rfl, -⟩ := pm_d1 (show (d - 1) + 1 ≤ d by omega)
          rw [e131, b131_0 hL]
        refine ⟨-1000010 - 3, pm_iw iv 0 7 3, _, ?_, ?_, hg, v, co3⟩
        · rw [hc, if_neg r]
        · simp only [e193, b193_0 hL, m_isHouse (show 2 ≤ d by omega) hL hi ho, q1, pm_then_i, pm_then_l, pm_then_v, bz_0, bz_n, bz_1, pm_zr0, pm_zr1, pm_zrI, if_true, if_false, not_true, not_false_eq_true, Bool.false_eq_true, true_and, and_true, false_and, and_false, z10, z01, zz0, eq_self, b193_10, b193_13, m_ip (n := 5) (show 1 ≤ d by omega) toL5, q2, b193_22, b193_28 hL, m_ofK (show 1 ≤ d by omega) hL hi2 ho hh, b193_39, m_isOf (show 1 ≤ d by omega) hb.2.2.1 hw6, r, b193_43, b193_50 hL, hf2, b193_55]
    · refine ⟨-1000001, iv, pm_iw iv 32 0 0, ?_, ?_, hg, v, co2⟩
      · simp only [e115, b115_0 hL, t_isHouse (show 1 ≤ d by omega) (lay_now hL) hv ho, q1, pm_then_i, pm_then_l, pm_then_v, bz_0, bz_n, bz_1, pm_zr0, pm_zr1, pm_zrI, if_true, if_false, not_true, not_false_eq_true, Bool.false_eq_true, true_and, and_true, false_and, and_false, z10, z01, zz0, eq_self, b115_8, b115_11, t_ip (n := 5) (show 1 ≤ d by omega) toI5, q2, b115_16, b115_19]
      · simp only [e193, b193_0 hL, m_isHouse (show 2 ≤ d by omega) hL hw ho, q1, pm_then_i, pm_then_l, pm_then_v, bz_0, bz_n, bz_1, pm_zr0, pm_zr1, pm_zrI, if_true, if_false, not_true, not_false_eq_true, Bool.false_eq_true, true_and, and_true, false_and, and_false, z10, z01, zz0, eq_self, b193_10, b193_13, m_ip (n := 5) (show 1 ≤ d by omega) toL5, q2, b193_22, b193_25]
  · refine ⟨-1000001, iv, pm_iw iv 32 0 0, ?_, ?_, hg, v, co2⟩
    · simp only [e115, b115_0 hL, t_isHouse (show 1 ≤ d by omega) (lay_now hL) hv ho, q1, pm_then_i, pm_then_l, pm_then_v, bz_0, bz_n, bz_1, pm_zr0, pm_zr1, pm_zrI, if_true, if_false, not_true, not_false_eq_true, Bool.false_eq_true, true_and, and_true, false_and, and_false, z10, z01, zz0, eq_self, b115_8, b115_19]
    · simp only [e193, b193_0 hL, m_isHouse (show 2 ≤ d by omega) hL hw ho, q1, pm_then_i, pm_then_l, pm_then_v, bz_0, bz_n, bz_1, pm_zr0, pm_zr1, pm_zrI, if_true, if_false, not_true, not_false_eq_true, Bool.false_eq_true, true_and, and_true, false_and, and_false, z10, z01, zz0, eq_self, b193_10, b193_25]
theorem q_ask (hd : 20 ≤ d) (h : RL g iv) : PR X d g iv 116 199 [.ref 0, .int x, .int y] [.ref 32, .int x, .int y] := by
  obtain ⟨d, rfl, hd1⟩ := pm_d1 hd
  obtain ⟨hg, v, co⟩ := h
  have hL := hg.1
  have hv := co.1.1
  have ho := co.1.2.2.1
  have hN := ho.2.2.1
  have co2 := CO_0 co
  have hw := co2.1.2.1
  by_cases q1 : ip x (vN v) = true
  · obtain ⟨h, hh, rfl⟩ := ip_ex q1 (by omega)
    have hb := ho.2.2.2.2.2 h hh
    have hk := co.1.2.2.2.2.2 h hh
    by_cases q2 : ip y 2 = true
    · obtain ⟨w, hw2, rfl⟩ := ip_ex q2 (by omega)
      have ew : nI w = 0 ↔ w = 0 := nI_eq (a := w) (b := 0) (by omega) (by omega)
      have hT0 : TC (pm_iw iv 9 1 0) [] := ⟨by rw [iw_s, upd_s]; rfl, fun i hi => absurd hi (Nat.not_lt_zero i)⟩
      have hv0 : SV (pm_iw iv 9 1 0) 11 v := SV_fr hv (fun c a b => iw_n (by omega))
      -- both sides: the trace and the answer of w
      obtain ⟨L, r, hLl, hG, hM⟩ : ∃ L r, L.length ≤ 8 ∧ GV X g v h L.length (bdF w (vK v h)) L r ∧ ∀ iv, HAr (iv 36) v → TM iv [] → ∃ iv', pm_at X d 199 (if w = 0 then 35 else 43, [some (.ref 32), some (.int (nI h)), some (.int (nI w))], [], g, iv) = some (some (.int r), g, iv') ∧ chM iv iv' ∧ TM iv' L := by
        by_cases q : w = 0
        · subst q
          refine ⟨szT v h, szI v h, szT_len, gSz hL hg.2.1 ho hk hh, fun iv hv hT => ?_⟩
          obtain ⟨iv', a1, a2, a3⟩ := m_size (X := X) (show 5 ≤ d by omega) hL hv ho hk hh hT (by show 0 < 5; omega)
          refine ⟨iv', ?_, a2, a3⟩
          rw [if_pos rfl, b199_35 hL, a1]
          simp only [pm_then_i, pm_then_l, pm_then_v, b199_40, b199_48]
        · have e1 : w = 1 := by omega
          subst e1
          refine ⟨maT v h, maI v h, Nat.le_trans maT_len (by omega), gMa hL hg.2.1 ho hk hh, fun iv hv hT => ?_⟩
          obtain ⟨iv', a1, a2, a3⟩ := m_mark (X := X) (show 4 ≤ d by omega) hL hv ho hk hh hT (by show 0 < 10; omega)
          refine ⟨iv', ?_, a2, a3⟩
          rw [if_neg (by omega), b199_43 hL, a1]
          simp only [pm_then_i, pm_then_l, pm_then_v, b199_48]
      obtain ⟨d2, rfl, hd3⟩ := pm_d1 (show (d - 1) + 1 ≤ d by omega)
      obtain ⟨iv1, a1, a2, a3⟩ := t_askAnew (X := X) (d := d2) (dep := 0) (T := []) hL hg.2.1 ho hk hh hw2 hG (by omega) (by omega) hv0 hT0 (by show 0 + _ ≤ 16; omega)
      have hc1 : chg [9, 10] iv iv1 := chg_tr (chg_iw (by decide)) a2
      have hw1 : HAr ((pm_iw (pm_iw iv1 32 0 0) 32 25 0) 36) v := by
        rw [iw_n (by decide), iw_n (by decide), hc1 36 (by decide)]
        exact co.1.2.1
      have hw0 : HAr ((pm_iw iv1 32 0 0) 36) v := by
        rw [iw_n (by decide), hc1 36 (by decide)]
        exact co.1.2.1
      obtain ⟨iv2, b1, b2, b3⟩ := hM (pm_iw (pm_iw iv1 32 0 0) 32 25 0) hw1 ⟨by rw [iw_s, upd_s]; rfl, fun i hi => absurd hi (Nat.not_lt_zero i)⟩
      have hc2 : chg [32, 45] iv1 iv2 := chg_tr (chg_tr (chg_iw (by decide)) (chg_iw (by decide))) b2.1
      have hx : RX iv2 := RX_T (T := L) (by omega) ⟨by rw [hc2 9 (by decide)]; exact a3.1, fun i hi => by rw [hc2 10 (by decide)]; exact a3.2 i hi⟩ b3
      have co3 : CO g iv2 v := CO_tr co (chg_tr (chg_mo hc1 (by decide)) (chg_mo hc2 (by decide))) (fun c p p0 => by rw [b2.2 c p, iw_s, upd_n p, iw_s, upd_n p0, hc1 32 (by decide)]) hx
      refine ⟨r, iv1, iv2, ?_, ?_, hg, v, co3⟩
      · rw [nI_0] at a1
        simp only [e116, b116_0 hL, t_isHouse (show 1 ≤ d2 + 1 by omega) (lay_now hL) hv ho, q1, pm_then_i, pm_then_l, pm_then_v, bz_0, bz_n, bz_1, pm_zr0, pm_zr1, pm_zrI, if_true, if_false, not_true, not_false_eq_true, Bool.false_eq_true, true_and, and_true, false_and, and_false, z10, z01, zz0, eq_self, b116_8, b116_11, t_ip (n := 1) (show 1 ≤ d2 + 1 by omega) toI1, q2, b116_16, b116_22 hL, e10, b10_0 hL, a1, b10_13, b116_35]
      · simp only [e199, b199_0 hL, m_isHouse (show 2 ≤ d2 + 1 by omega) hL hw0 ho, q1, pm_then_i, pm_then_l, pm_then_v, bz_0, bz_n, bz_1, pm_zr0, pm_zr1, pm_zrI, if_true, if_false, not_true, not_false_eq_true, Bool.false_eq_true, true_and, and_true, false_and, and_false, z10, z01, zz0, eq_self, b199_10, b199_13, m_ip (n := 1) (show 1 ≤ d2 + 1 by omega) toL1, q2, b199_20, b199_26 hL, ew]
        rw [← b1]
        by_cases q : w = 0
        · rw [if_neg (not_not_intro q), if_pos q]
        · rw [if_pos q, if_neg q]
    · refine ⟨-1000001, iv, pm_iw iv 32 0 0, ?_, ?_, hg, v, co2⟩
      · simp only [e116, b116_0 hL, t_isHouse (show 1 ≤ d by omega) (lay_now hL) hv ho, q1, pm_then_i, pm_then_l, pm_then_v, bz_0, bz_n, bz_1, pm_zr0, pm_zr1, pm_zrI, if_true, if_false, not_true, not_false_eq_true, Bool.false_eq_true, true_and, and_true, false_and, and_false, z10, z01, zz0, eq_self, b116_8, b116_11, t_ip (n := 1) (show 1 ≤ d by omega) toI1, q2, b116_16, b116_19]
      · simp only [e199, b199_0 hL, m_isHouse (show 2 ≤ d by omega) hL hw ho, q1, pm_then_i, pm_then_l, pm_then_v, bz_0, bz_n, bz_1, pm_zr0, pm_zr1, pm_zrI, if_true, if_false, not_true, not_false_eq_true, Bool.false_eq_true, true_and, and_true, false_and, and_false, z10, z01, zz0, eq_self, b199_10, b199_13, m_ip (n := 1) (show 1 ≤ d by omega) toL1, q2, b199_20, b199_23]
  · refine ⟨-1000001, iv, pm_iw iv 32 0 0, ?_, ?_, hg, v, co2⟩
    · simp only [e116, b116_0 hL, t_isHouse (show 1 ≤ d by omega) (lay_now hL) hv ho, q1, pm_then_i, pm_then_l, pm_then_v, bz_0, bz_n, bz_1, pm_zr0, pm_zr1, pm_zrI, if_true, if_false, not_true, not_false_eq_true, Bool.false_eq_true, true_and, and_true, false_and, and_false, z10, z01, zz0, eq_self, b116_8, b116_19]
    · simp only [e199, b199_0 hL, m_isHouse (show 2 ≤ d by omega) hL hw ho, q1, pm_then_i, pm_then_l, pm_then_v, bz_0, bz_n, bz_1, pm_zr0, pm_zr1, pm_zrI, if_true, if_false, not_true, not_false_eq_true, Bool.false_eq_true, true_and, and_true, false_and, and_false, z10, z01, zz0, eq_self, b199_10, b199_23]
theorem q_trace (hd : 4 ≤ d) (h : RL g iv) : PR X d g iv 117 200 [.ref 0, .int x] [.ref 32, .int x] := by
  obtain ⟨d, rfl, hd1⟩ := pm_d1 hd
  obtain ⟨d2, rfl, hd2⟩ := pm_d1 (show (d - 1) + 1 ≤ d by omega)
  obtain ⟨hg, v, co⟩ := h
  have hL := hg.1
  have co2 := CO_0 co
  obtain ⟨n, hn, c1, c2, c3⟩ := co.2.2.2.2.1
  have c2' : (pm_iw iv 32 0 0) 32 25 = nI n := by rw [iw_s, upd_n (by decide), c2]
  have e0 : (((pm_iw iv 32 0 0) 32 25) - 1 : Int32).toInt64.toInt = (n : Int) - 1 := by rw [wd_t, c2', nI_m1 (by omega)]
  have z0 : (0 : Int64).toInt = 0 := rfl
  have p0 : (0 ≤ x.toInt ∧ x.toInt ≤ (n : Int) - 1) ↔ ip x n = true := by rw [ip, decide_eq_true_eq]; omega
  by_cases q : ip x n = true
  · obtain ⟨j, hj, rfl⟩ := ip_ex q (by omega)
    have hin : vp_in (nI j) 16 := vp_n (by omega) (by decide)
    refine ⟨iv 10 j, iv, pm_iw iv 32 0 0, ?_, ?_, hg, v, co2⟩
    · have h0 : ¬ nI j < 0 := by rw [lt_i, toI0, nI_t (by omega)]; omega
      have h1 : ¬ nI n ≤ nI j := nI_ge hj (by omega)
      have h2 : ¬ (16 : Int32) ≤ nI j := by rw [le_i, toI16, nI_t (by omega)]; omega
      simp only [e117, b117_0 hL, e9, b9_0, h0, bz_0, bz_n, bz_1, pm_zr0, pm_zr1, pm_zrI, if_true, if_false, not_true, not_false_eq_true, Bool.false_eq_true, true_and, and_true, false_and, and_false, z10, z01, zz0, eq_self, b9_4 hL, c1, h1, b9_12, h2, b9_18 hL hin, nI_c (show j < 2147483648 by omega), b9_29, pm_then_i, pm_then_l, pm_then_v, b117_8]
    · simp only [e200, b200_0 hL, m_inI (show 1 ≤ d2 + 1 by omega), e0, z0, p0, q, pm_then_i, pm_then_l, pm_then_v, bz_0, bz_n, bz_1, pm_zr0, pm_zr1, pm_zrI, if_true, if_false, not_true, not_false_eq_true, Bool.false_eq_true, true_and, and_true, false_and, and_false, z10, z01, zz0, eq_self, b200_18, b200_21 hL hin, nI_c (show j < 2147483648 by omega), b200_32]
      rw [iw_n (by decide), c3 j hj]
  · refine ⟨-1000000, iv, pm_iw iv 32 0 0, ?_, ?_, hg, v, co2⟩
    · have q' : ¬ (0 ≤ x.toInt ∧ x.toInt < n) := fun e => q (decide_eq_true e)
      have r : pm_c X (d2 + 1) 9 [.ref 9, .int x] g iv = some (some (.int (-1000000)), g, iv) := by
        by_cases h0 : x < 0
        · simp only [e9, b9_0, h0, bz_0, bz_n, bz_1, pm_zr0, pm_zr1, pm_zrI, if_true, if_false, not_true, not_false_eq_true, Bool.false_eq_true, true_and, and_true, false_and, and_false, z10, z01, zz0, eq_self, b9_27, b9_29]
        · have h0' : 0 ≤ x.toInt := by rw [lt_i, toI0] at h0; omega
          have h1 : nI n ≤ x := by rw [le_i, nI_t (by omega)]; omega
          simp only [e9, b9_0, h0, bz_0, bz_n, bz_1, pm_zr0, pm_zr1, pm_zrI, if_true, if_false, not_true, not_false_eq_true, Bool.false_eq_true, true_and, and_true, false_and, and_false, z10, z01, zz0, eq_self, b9_4 hL, c1, h1, b9_27, b9_29]
      simp only [e117, b117_0 hL, r, pm_then_i, pm_then_l, pm_then_v, b117_8]
    · simp only [e200, b200_0 hL, m_inI (show 1 ≤ d2 + 1 by omega), e0, z0, p0, q, pm_then_i, pm_then_l, pm_then_v, bz_0, bz_n, bz_1, pm_zr0, pm_zr1, pm_zrI, if_true, if_false, not_true, not_false_eq_true, Bool.false_eq_true, true_and, and_true, false_and, and_false, z10, z01, zz0, eq_self, b200_18, b200_30, b200_32]
end Q49
