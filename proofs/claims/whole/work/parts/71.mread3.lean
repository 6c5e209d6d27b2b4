/-! the reference reads a house, and all -/
section Y3
variable {X : pm_X} {d n : Nat} {g : pm_G} {iv : pm_V} {T : Nat → Nat} {c : ZT} {v : HV} {x1 x2 : Int32} {f : Nat × Nat}
theorem m_rh_B104 (hd : 1 ≤ d) (hL : pm_lay g) (hb : YB T n iv f) : pm_at X d 153 (104, [some (.ref 32), some (.int x1), some (.int x2), none, none, none], [], g, iv) = some (none, g, iv) := by
  rw [b153_104 hL, m_numberB hd hL hb, pm_then_i, b153_117 hL, m_numberB hd hL hb, pm_then_i, b153_125 hL, m_mustEndB hd hL hb, pm_then_v, b153_131 hL, if_pos (YB_n hb), b153_201]
theorem m_rh_B50 (hd : 1 ≤ d) (hL : pm_lay g) (hb : YB T n iv f) : pm_at X d 153 (50, [some (.ref 32), some (.int x1), none, none, none, none], [.int x2], g, iv) = some (none, g, iv) := by
  rw [b153_50 hL, if_pos (YB_n hb), m_rh_B104 hd hL hb]
theorem m_rh_B37 (hd : 1 ≤ d) (hL : pm_lay g) (hb : YB T n iv f) : pm_at X d 153 (37, [some (.ref 32), some (.int x1), none, none, none, none], [], g, iv) = some (none, g, iv) := by
  rw [b153_37 hL, m_numberB hd hL hb, pm_then_i, m_rh_B50 hd hL hb]
theorem m_rh_free {l t : Nat} (hd : 1 ≤ d) (hL : pm_lay g) (hn : n ≤ 400) (ha : YA T n iv c) (hr : ZR iv v t) (hz : Zv v) (hl : l < vL v) :
    (ztkn T v l c = true → ∃ iv', pm_at X d 153 (50, [some (.ref 32), some (.int x1), none, none, none, none], [.int (nI l)], g, iv) = some (none, g, iv') ∧ YF [32] T n iv iv' (2, c.2.1)) ∧ (¬ ztkn T v l c = true → pm_at X d 153 (50, [some (.ref 32), some (.int x1), none, none, none, none], [.int (nI l)], g, iv) = pm_at X d 153 (104, [some (.ref 32), some (.int x1), some (.int (nI l)), none, none, none], [], g, iv)) := by
  have ho := hz.2.2.1
  have hL4 := ho.1
  have hD := ho.2.1
  have hD1 := hz.2.1
  have w : iv 32 14 = 3 ↔ c.1 = 2 := MZ_1 ha.2.1 ha.2.2.1 2 (by omega)
  have eD : iv 37 1 - 1 = nI (vD v - 1) := by rw [hr.1.2.1]; exact pk_sub (a := vD v) (b := 1) hD1
  unfold ztkn
  by_cases q : c.1 = 2
  · have hv := zval_lt ha.2.2.1 q
    have ef : zfig T c = zval T c := if_pos q
    have r1 : pm_at X d 153 (50, [some (.ref 32), some (.int x1), none, none, none, none], [.int (nI l)], g, iv) = pm_at X d 153 (84, [some (.ref 32), some (.int x1), some (.int (nI l)), none, none, none], [.int (if (0 : Int) ≤ (zval T c : Int) ∧ (zval T c : Int) ≤ ((vD v - 1 : Nat) : Int) then 1 else 0)], g, iv) := by
      rw [b153_50 hL, if_neg (not_not_intro ha.2.2.2), b153_58 hL, if_neg (not_not_intro (w.mpr q)), b153_66 hL, m_figs hd hL hn ha.1 ha.2.1 ha.2.2.1, pm_then_i, ef, b153_70 hL, eD, m_inI hd, w64 (show vD v - 1 < 1000 by omega), nI_t (show zval T c < 2147483648 by omega), pm_then_i]
      rfl
    by_cases q2 : zval T c < vD v
    · have r2 : pm_at X d 153 (50, [some (.ref 32), some (.int x1), none, none, none, none], [.int (nI l)], g, iv) = pm_at X d 153 (96, [some (.ref 32), some (.int x1), some (.int (nI l)), none, none, none], [.int (if (vS v l (zval T c) || hsAt v (vy v) l (zval T c)) = true then 1 else 0)], g, iv) := by
        rw [r1, if_pos (show (0 : Int) ≤ (zval T c : Int) ∧ (zval T c : Int) ≤ ((vD v - 1 : Nat) : Int) by omega), b153_84, if_neg (by decide), b153_87 hL, m_figs hd hL hn ha.1 ha.2.1 ha.2.2.1, pm_then_i, ef, b153_93 hL, m_taken hd hL hr ho (by omega) (by omega), pm_then_i]
      rw [decide_eq_true ⟨q, q2⟩, Bool.true_and]
      by_cases q3 : (vS v l (zval T c) || hsAt v (vy v) l (zval T c)) = true
      · refine ⟨fun _ => ?_, fun h => absurd q3 h⟩
        obtain ⟨iv', a1, a2⟩ := m_bad (X := X) (k := 2) hd hL ha (by omega) (by omega)
        rw [show nI 2 = 2 from rfl] at a1
        exact ⟨iv', by rw [r2, if_pos q3, b153_96, if_neg (by decide), b153_99 hL, a1, pm_then_v, m_rh_B104 hd hL a2.2.2], a2⟩
      · refine ⟨fun h => absurd h q3, fun _ => ?_⟩
        rw [r2, if_neg q3, b153_96, if_pos rfl]
    · rw [decide_eq_false (fun u => q2 u.2), Bool.false_and]
      refine ⟨fun h => (by cases h), fun _ => ?_⟩
      rw [r1, if_neg (show ¬ ((0 : Int) ≤ (zval T c : Int) ∧ (zval T c : Int) ≤ ((vD v - 1 : Nat) : Int)) by omega), b153_84, if_pos rfl]
  · rw [decide_eq_false (fun u => q u.1), Bool.false_and]
    refine ⟨fun h => (by cases h), fun _ => ?_⟩
    rw [b153_50 hL, if_neg (not_not_intro ha.2.2.2), b153_58 hL, if_pos (fun u => q (w.mp u))]
theorem m_readHouse6 (hd : 5 ≤ d) (hL : pm_lay g) (hn : n ≤ 400) (hb : ∀ i, i < n → T i < 256) (ha : YA T n iv c) (h6 : iv 37 3 = 6) : ∃ iv', pm_c X d 153 [.ref 32] g iv = some (none, g, iv') ∧ YF [32, 37] T n iv iv' (3, c.2.1) := by
  obtain ⟨d, rfl, hd1⟩ := pm_d1 hd
  obtain ⟨iv2, a1, b2⟩ := m_begins0 (X := X) (s := 3) (k := 0) hd1 hL hn hb ha (by decide) h6
  rw [show nI 3 = 3 from rfl] at a1
  refine ⟨iv2, ?_, YF_mo b2 (by decide)⟩
  have hk := m_kindBy (X := X) (d := d) (g := g) (iv := iv2) (show 1 ≤ d by omega) (show 0 < 2 ^ 63 by decide)
  rw [show lN 0 = 0 from rfl] at hk
  rw [e153, b153_0 hL, a1, pm_then_v, b153_7 hL, m_nameB (by omega) hL hn b2.2.2, pm_then_l, b153_11, hk, pm_then_i, b153_14 hL, if_pos (YB_n b2.2.2), m_rh_B37 (by omega) hL b2.2.2]
theorem m_readHouse {t : Nat} (hd : 5 ≤ d) (hL : pm_lay g) (hn : n ≤ 400) (hb : ∀ i, i < n → T i < 256) (ha : YA T n iv c) (hz : Zv v) (h6 : vN v < 6) (hr : ZR iv v t) :
    (∀ f, zHse T n v c = .inl f → ∃ iv', pm_c X d 153 [.ref 32] g iv = some (none, g, iv') ∧ YF [32, 37] T n iv iv' f) ∧ (∀ e, zHse T n v c = .inr e → ∃ iv', pm_c X d 153 [.ref 32] g iv = some (none, g, iv') ∧ YG [32, 37] T n iv iv' e.2 ∧ ZR iv' e.1 t ∧ Zv e.1 ∧ vN e.1 = vN v + 1) := by
  obtain ⟨d, rfl, hd1⟩ := pm_d1 hd
  have mo : ∀ c, c ∈ [32] → c ∈ [32, 37] := by decide
  have ho := hz.2.2.1
  have hL4 := ho.1
  have hD20 := ho.2.1
  have hL1 := hz.1
  have hD1 := hz.2.1
  have eL : nI (vL v) - 1 = nI (vL v - 1) := pk_sub (a := vL v) (b := 1) hL1
  have eD : nI (vD v) - 1 = nI (vD v - 1) := pk_sub (a := vD v) (b := 1) hD1
  have n6 : ¬ iv 37 3 = 6 := by
    rw [hr.1.2.2.1]
    exact fun u => by have := (nI_eq (a := vN v) (b := 6) (by omega) (by decide)).mp u; omega
  obtain ⟨iv0, a1, a2⟩ := m_begins1 (X := X) (s := 3) hd1 hL hn hb ha (by decide) n6
  rw [show nI 3 = 3 from rfl] at a1
  have hr0 := ZR_fr hr (a2.1 37 (by decide))
  have hk5 := zkd_le (T := T) (c := znx T n c)
  have r0 : pm_c X (d + 1) 153 [.ref 32] g iv = pm_at X d 153 (22, [some (.ref 32), some (.int (if zkd T (znx T n c) = 0 then -1000000 else nI (zkd T (znx T n c)))), none, none, none, none], [], g, iv0) := by
    rw [e153, b153_0 hL, a1, pm_then_v, b153_7 hL, m_name (by omega) hL hn hb a2.2.2.1 a2.2.2.2.1 a2.2.2.2.2.1 a2.2.2.2.2.2, pm_then_l, b153_11, m_kind (by omega) hb a2.2.2.2.2.1, pm_then_i, b153_14 hL, if_neg (not_not_intro a2.2.2.2.2.2)]
  by_cases qk : zkd T (znx T n c) = 0
  · have h0 : zKnd T n (znx T n c) = .inl (1, (znx T n c).2.1) := if_pos qk
    obtain ⟨iv2, b1, b2⟩ := m_must0 (X := X) (show 2 ≤ d by omega) hL a2.2.2
    refine ⟨fun f h => ?_, fun e h => ?_⟩
    · rw [zHse, zbd_l h0] at h; cases h
      exact ⟨iv2, by rw [r0, if_pos qk, b153_22, if_pos rfl, b153_33, b153_34 hL, b1, pm_then_v, m_rh_B37 (by omega) hL b2.2.2], YF_mo (YF_tr a2 b2) mo⟩
    · rw [zHse, zbd_l h0] at h; cases h
  have h0 : zKnd T n (znx T n c) = .inr (zkd T (znx T n c), znx T n (znx T n c)) := if_neg qk
  generalize hkd : zkd T (znx T n c) = kd at h0 qk r0 hk5
  obtain ⟨iv1, k1, k2⟩ := m_must1 (X := X) (show 3 ≤ d by omega) hL hn hb a2.2.2
  have hr1 := ZR_fr hr0 (k2.1 37 (by decide))
  have nn : ¬ nI kd = -1000000 := fun e => by
    have := congrArg Int32.toInt e
    rw [nI_t (by omega)] at this
    have e2 : ((-1000000 : Int32)).toInt = -1000000 := rfl
    omega
  have r1 : pm_c X (d + 1) 153 [.ref 32] g iv = pm_then X d 153 50 [some (.ref 32), some (.int (nI kd)), none, none, none, none] [] (pm_c X d 147 [.ref 32, .int (nI 0), .int (nI (vL v - 1))] g iv1) := by
    rw [r0, if_neg qk, b153_22, if_neg nn, b153_29, b153_34 hL, k1, pm_then_v, b153_37 hL, hr1.1.1, eL]
    rfl
  have w1 := m_number (X := X) (lo := 0) (hi := vL v - 1) (show 4 ≤ d by omega) hL hn hb k2.2.2 (by decide) (by omega)
  cases h1 : zNum T n 0 (vL v - 1) (znx T n (znx T n c)) with
  | inl f1 =>
    obtain ⟨iv2, r, b1, b2⟩ := w1.1 f1 h1
    refine ⟨fun f h => ?_, fun e h => ?_⟩
    · rw [zHse, zbd_r h0, zbd_l h1] at h; cases h
      exact ⟨iv2, by rw [r1, b1, pm_then_i, m_rh_B50 (by omega) hL b2.2.2], YF_mo (YF_tr a2 (YF_tr k2 b2)) mo⟩
    · rw [zHse, zbd_r h0, zbd_l h1] at h; cases h
  | inr l =>
  obtain ⟨iv2, b1, b2⟩ := w1.2 l h1
  obtain ⟨-, -, l1, l2⟩ := zNum_i h1
  have hr2 := ZR_fr hr1 (b2.1 37 (by decide))
  have wf := m_rh_free (X := X) (d := d) (x1 := nI kd) (l := l.1) (show 1 ≤ d by omega) hL hn b2.2.2 hr2 hz (by omega)
  by_cases qf : ztkn T v l.1 l.2 = true
  · have h2 : zFre T v l.1 l.2 = .inl (2, l.2.2.1) := if_pos qf
    obtain ⟨iv3, d1, d2⟩ := wf.1 qf
    refine ⟨fun f h => ?_, fun e h => ?_⟩
    · rw [zHse, zbd_r h0, zbd_r h1, zbd_l h2] at h; cases h
      exact ⟨iv3, by rw [r1, b1, pm_then_i, d1], YF_mo (YF_tr a2 (YF_tr k2 (YF_tr b2 d2))) mo⟩
    · rw [zHse, zbd_r h0, zbd_r h1, zbd_l h2] at h; cases h
  have h2 : zFre T v l.1 l.2 = .inr () := if_neg qf
  have w3 := m_number (X := X) (lo := 0) (hi := vD v - 1) (show 4 ≤ d by omega) hL hn hb b2.2.2 (by decide) (by omega)
  have r3 : pm_c X (d + 1) 153 [.ref 32] g iv = pm_then X d 153 117 [some (.ref 32), some (.int (nI kd)), some (.int (nI l.1)), none, none, none] [] (pm_c X d 147 [.ref 32, .int (nI 0), .int (nI (vD v - 1))] g iv2) := by
    rw [r1, b1, pm_then_i, wf.2 qf, b153_104 hL, hr2.1.2.1, eD]
    rfl
  cases h3 : zNum T n 0 (vD v - 1) l.2 with
  | inl f3 =>
    obtain ⟨iv3, r, d1, d2⟩ := w3.1 f3 h3
    refine ⟨fun f h => ?_, fun e h => ?_⟩
    · rw [zHse, zbd_r h0, zbd_r h1, zbd_r h2, zbd_l h3] at h; cases h
      exact ⟨iv3, by rw [r3, d1, pm_then_i, b153_117 hL, m_numberB (by omega) hL d2.2.2, pm_then_i, b153_125 hL, m_mustEndB (by omega) hL d2.2.2, pm_then_v, b153_131 hL, if_pos (YB_n d2.2.2), b153_201], YF_mo (YF_tr a2 (YF_tr k2 (YF_tr b2 d2))) mo⟩
    · rw [zHse, zbd_r h0, zbd_r h1, zbd_r h2, zbd_l h3] at h; cases h
  | inr y =>
  obtain ⟨iv3, d1, d2⟩ := w3.2 y h3
  obtain ⟨y0, yy, y1, y2⟩ := zNum_i h3
  have hr3 := ZR_fr hr2 (d2.1 37 (by decide))
  have w4 := m_number (X := X) (lo := 1) (hi := 20) (show 4 ≤ d by omega) hL hn hb d2.2.2 (by decide) (by decide)
  have r4 : pm_c X (d + 1) 153 [.ref 32] g iv = pm_then X d 153 125 [some (.ref 32), some (.int (nI kd)), some (.int (nI l.1)), some (.int (nI y.1)), none, none] [] (pm_c X d 147 [.ref 32, .int (nI 1), .int (nI 20)] g iv3) := by
    rw [r3, d1, pm_then_i, b153_117 hL]
    rfl
  cases h4 : zNum T n 1 20 y.2 with
  | inl f4 =>
    obtain ⟨iv4, r, e1, e2⟩ := w4.1 f4 h4
    refine ⟨fun f h => ?_, fun e h => ?_⟩
    · rw [zHse, zbd_r h0, zbd_r h1, zbd_r h2, zbd_r h3, zbd_l h4] at h; cases h
      exact ⟨iv4, by rw [r4, e1, pm_then_i, b153_125 hL, m_mustEndB (by omega) hL e2.2.2, pm_then_v, b153_131 hL, if_pos (YB_n e2.2.2), b153_201], YF_mo (YF_tr a2 (YF_tr k2 (YF_tr b2 (YF_tr d2 e2)))) mo⟩
    · rw [zHse, zbd_r h0, zbd_r h1, zbd_r h2, zbd_r h3, zbd_l h4] at h; cases h
  | inr hv =>
  obtain ⟨iv4, e1, e2⟩ := w4.2 hv h4
  obtain ⟨-, -, v1, v2⟩ := zNum_i h4
  have hr4 := ZR_fr hr3 (e2.1 37 (by decide))
  have hfree : ¬ vS v l.1 y.1 = true ∧ ¬ hsAt v (vy v) l.1 y.1 = true := by
    rw [yy] at y2 ⊢
    have y2 : zval T l.2 ≤ vD v - 1 := y2
    show ¬ vS v l.1 (zval T l.2) = true ∧ ¬ hsAt v (vy v) l.1 (zval T l.2) = true
    refine ⟨fun p => qf ?_, fun p => qf ?_⟩ <;> (unfold ztkn; rw [decide_eq_true ⟨y0, by omega⟩, p]; simp)
  have w5 := m_mustEnd (X := X) (show 4 ≤ d by omega) hL hn hb e2.2.2
  have r5 : pm_c X (d + 1) 153 [.ref 32] g iv = pm_then X d 153 131 [some (.ref 32), some (.int (nI kd)), some (.int (nI l.1)), some (.int (nI y.1)), some (.int (nI hv.1)), none] [] (pm_c X d 149 [.ref 32] g iv4) := by
    rw [r4, e1, pm_then_i, b153_125 hL]
  cases h5 : zSgn T n hv.2 with
  | inl f5 =>
    obtain ⟨iv6, s1, s2⟩ := w5.1 f5 h5
    refine ⟨fun f h => ?_, fun e h => ?_⟩
    · rw [zHse, zbd_r h0, zbd_r h1, zbd_r h2, zbd_r h3, zbd_r h4, zbd_l h5] at h; cases h
      exact ⟨iv6, by rw [r5, s1, pm_then_v, b153_131 hL, if_pos (YB_n s2.2.2), b153_201], YF_mo (YF_tr a2 (YF_tr k2 (YF_tr b2 (YF_tr d2 (YF_tr e2 s2))))) mo⟩
    · rw [zHse, zbd_r h0, zbd_r h1, zbd_r h2, zbd_r h3, zbd_r h4, zbd_l h5] at h; cases h
  | inr e3 =>
  obtain ⟨iv6, s1, s2⟩ := w5.2 e3 h5
  have hr6 := ZR_fr hr4 (s2.1 37 (by decide))
  refine ⟨fun f h => ?_, fun e h => ?_⟩
  · rw [zHse, zbd_r h0, zbd_r h1, zbd_r h2, zbd_r h3, zbd_r h4, zbd_r h5] at h; cases h
  · rw [zHse, zbd_r h0, zbd_r h1, zbd_r h2, zbd_r h3, zbd_r h4, zbd_r h5] at h; cases h
    have G0 : YG [32, 37] T n iv iv6 e3 := YG_mo (YG_tr a2 (YG_tr k2 (YG_tr b2 (YG_tr d2 (YG_tr e2 s2))))) mo
    have eN := hr6.1.2.2.1
    have i0 : 9 + 6 * nI (vN v) = nI (9 + 6 * vN v) := by
      show nI 9 + nI 6 * nI (vN v) = _
      rw [pk_mul, nI_add]
    have j1 : nI (9 + 6 * vN v) + 1 = nI (9 + 6 * vN v + 1) := nI_1 _
    have j2 : nI (9 + 6 * vN v) + 2 = nI (9 + 6 * vN v + 2) := nI_add _ 2
    have j3 : nI (9 + 6 * vN v) + 3 = nI (9 + 6 * vN v + 3) := nI_add _ 3
    generalize hiv' : pm_iw (pm_iw (pm_iw (pm_iw (pm_iw iv6 37 (9 + 6 * vN v) (nI kd)) 37 (9 + 6 * vN v + 1) (nI l.1)) 37 (9 + 6 * vN v + 2) (nI y.1)) 37 (9 + 6 * vN v + 3) (nI hv.1)) 37 3 (nI (vN v + 1)) = iv'
    have ch : chg [37] iv6 iv' := by
      rw [← hiv']
      exact chg_tr (chg_iw (by decide)) (chg_tr (chg_iw (by decide)) (chg_tr (chg_iw (by decide)) (chg_tr (chg_iw (by decide)) (chg_iw (by decide)))))
    have e32 : iv' 32 = iv6 32 := ch 32 (by decide)
    have e37 : iv' 37 = upd (upd (upd (upd (upd (iv6 37) (9 + 6 * vN v) (nI kd)) (9 + 6 * vN v + 1) (nI l.1)) (9 + 6 * vN v + 2) (nI y.1)) (9 + 6 * vN v + 3) (nI hv.1)) 3 (nI (vN v + 1)) := by
      rw [← hiv']
      simp only [iw_s]
    have gq : ∀ j, j ≠ 3 → j ≠ 9 + 6 * vN v → j ≠ 9 + 6 * vN v + 1 → j ≠ 9 + 6 * vN v + 2 → j ≠ 9 + 6 * vN v + 3 → iv' 37 j = iv6 37 j := fun j p1 p2 p3 p4 p5 => by
      rw [e37, upd_n p1, upd_n p5, upd_n p4, upd_n p3, upd_n p2]
    refine ⟨iv', ?_, ⟨chg_tr G0.1 (chg_mo ch (by decide)), fun j hj => by rw [e32]; exact G0.2.1 j hj, ?_⟩, ⟨HAr_aH hr6.1 h6 hz.2.2.2.2.2.1 hz.2.2.2.2.2.2 (hr6.2.2 (vN v) h6) ?_ ?_ ?_ ?_ ?_ gq, ?_, fun h hh => ?_⟩, Zv_aH hz h6 (by omega) (by omega) v2 (by omega) (by omega) hfree.1 hfree.2, rfl⟩
    · rw [r5, s1, pm_then_v, b153_131 hL, if_neg (not_not_intro G0.2.2.2.2.2), b153_138 hL (by rw [eN, i0]; exact vp_n (by omega) (by decide)) (by rw [eN, i0, j1]; exact vp_n (by omega) (by decide)) (by rw [eN, i0, j2]; exact vp_n (by omega) (by decide)) (by rw [eN, i0, j3]; exact vp_n (by omega) (by decide)), b153_201, eN, i0, j1, j2, j3, nI_c (by omega), nI_c (by omega), nI_c (by omega), nI_c (by omega)]
      have h3' : (pm_iw (pm_iw (pm_iw (pm_iw iv6 37 (9 + 6 * vN v) (nI kd)) 37 (9 + 6 * vN v + 1) (nI l.1)) 37 (9 + 6 * vN v + 2) (nI y.1)) 37 (9 + 6 * vN v + 3) (nI hv.1)) 37 3 = nI (vN v) := by
        simp only [iw_s]
        rw [upd_n (by omega), upd_n (by omega), upd_n (by omega), upd_n (by omega), eN]
      rw [h3', nI_1, hiv']
    · obtain ⟨-, -, k1, k2, k3, k4⟩ := G0
      exact ⟨MX_fr k1 (by rw [e32]) (ch 39 (by decide)), by unfold MZ; rw [e32]; exact k2, k3, by rw [e32]; exact k4⟩
    · rw [e37, upd_n (by omega), upd_n (by omega), upd_n (by omega), upd_n (by omega), upd_s]
    · rw [e37, upd_n (by omega), upd_n (by omega), upd_n (by omega), upd_s]
    · rw [e37, upd_n (by omega), upd_n (by omega), upd_s]
    · rw [e37, upd_n (by omega), upd_s]
    · rw [e37, upd_s]
    · rw [gq 2 (by omega) (by omega) (by omega) (by omega) (by omega)]
      exact hr6.2.1
    · rw [gq _ (by omega) (by omega) (by omega) (by omega) (by omega), gq _ (by omega) (by omega) (by omega) (by omega) (by omega)]
      exact hr6.2.2 h hh
end Y3
