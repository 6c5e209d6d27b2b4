/-! a winter, on places (house -> yard), and the reference's winter -/
def np (pl : Nat → Nat) (h y : Nat) : Nat → Nat := fun q => if q = h then y else pl q
theorem np_s {pl : Nat → Nat} {h y : Nat} : np pl h y h = y := if_pos rfl
theorem np_n {pl : Nat → Nat} {h y q : Nat} (e : q ≠ h) : np pl h y q = pl q := if_neg e
/-- a house stands there -/
def hsAt (v : HV) (pl : Nat → Nat) (l y : Nat) : Bool := decide (atF (vl v) pl (vN v) (nI l) (nI y) < vN v)
/-- one yard down, if it is free -/
def rl1 (v : HV) (pl : Nat → Nat) (h : Nat) : Nat → Nat := if pl h + 1 < vD v ∧ ¬ vS v (vl v h) (pl h + 1) = true ∧ ¬ hsAt v pl (vl v h) (pl h + 1) = true then np pl h (pl h + 1) else pl
/-- no other house began in its yard -/
def alo (bg : Nat → Nat) (h : Nat) : Nat → Bool
  | 0 => true
  | q + 1 => alo bg h q && (decide (q = h) || !decide (bg q = bg h))
def may (v : HV) (he : Nat → Bool) (bg : Nat → Nat) (w h : Nat) : Bool := !he h && !(decide (vK v h = 1) && decide (w % 2 = 1)) && !(decide (vK v h = 2) && !alo bg h (vN v))
def rlH (v : HV) (he : Nat → Bool) (bg : Nat → Nat) (w : Nat) (pl : Nat → Nat) (h : Nat) : Nat → Nat := if may v he bg w h = true then (if vK v h = 3 then rl1 v (rl1 v pl h) h else rl1 v pl h) else pl
/-- the houses of a yard, m of them from j on -/
def rlY (v : HV) (he : Nat → Bool) (bg : Nat → Nat) (w y : Nat) : Nat → Nat → (Nat → Nat) → (Nat → Nat)
  | 0, _, pl => pl
  | m + 1, j, pl => rlY v he bg w y m (j + 1) (if bg j = y then rlH v he bg w pl j else pl)
/-- the yards below m, the lowest first -/
def rlD (v : HV) (he : Nat → Bool) (bg : Nat → Nat) (w : Nat) : Nat → (Nat → Nat) → (Nat → Nat)
  | 0, pl => pl
  | y + 1, pl => rlD v he bg w y (rlY v he bg w y (vN v) 0 pl)
def wnt (v : HV) (he : Nat → Bool) (w : Nat) (pl : Nat → Nat) : Nat → Nat := rlD v he pl w (vD v) pl
/-- places are on the slope -/
def Pok (v : HV) (pl : Nat → Nat) : Prop := ∀ h, h < vN v → pl h < vD v
theorem Pok_rl1 {v : HV} {pl : Nat → Nat} (h : Nat) (hp : Pok v pl) : Pok v (rl1 v pl h) := by
  unfold rl1
  split
  · rename_i q
    intro j hj
    by_cases e : j = h
    · rw [e, np_s]; exact q.1
    · rw [np_n e]; exact hp j hj
  · exact hp
theorem Pok_rlH {v : HV} {he : Nat → Bool} {bg : Nat → Nat} {w : Nat} {pl : Nat → Nat} (h : Nat) (hp : Pok v pl) : Pok v (rlH v he bg w pl h) := by
  unfold rlH
  split
  · split
    · exact Pok_rl1 h (Pok_rl1 h hp)
    · exact Pok_rl1 h hp
  · exact hp
theorem Pok_rlY {v : HV} {he : Nat → Bool} {bg : Nat → Nat} {w y : Nat} : ∀ (m j : Nat) (pl : Nat → Nat), Pok v pl → Pok v (rlY v he bg w y m j pl)
  | 0, _, _, hp => hp
  | m + 1, j, pl, hp => by
    rw [rlY]
    apply Pok_rlY m
    split
    · exact Pok_rlH j hp
    · exact hp
theorem Pok_rlD {v : HV} {he : Nat → Bool} {bg : Nat → Nat} {w : Nat} : ∀ (m : Nat) (pl : Nat → Nat), Pok v pl → Pok v (rlD v he bg w m pl)
  | 0, _, hp => hp
  | y + 1, pl, hp => by rw [rlD]; exact Pok_rlD y _ (Pok_rlY _ _ _ hp)
theorem Pok_wnt {v : HV} {he : Nat → Bool} {w : Nat} {pl : Nat → Nat} (hp : Pok v pl) : Pok v (wnt v he w pl) := Pok_rlD _ _ hp
section M2
variable {X : pm_X} {d : Nat} {g : pm_G} {iv : pm_V} {x y : Int32} {v : HV} {pl bg : Nat → Nat} {he : Nat → Bool} {w : Nat}
theorem m_roll (hd : 3 ≤ d) (hL : pm_lay g) (hv : HAr (iv 36) v) (ho : Hok v) (hp : PL iv 40 (vN v) pl) (hk : Pok v pl) {h : Nat} (hh : h < vN v) : ∃ iv', pm_c X d 163 [.ref 32, .int (nI h)] g iv = some (none, g, iv') ∧ chg [40] iv iv' ∧ PL iv' 40 (vN v) (rl1 v pl h) := by
  obtain ⟨d, rfl, hd1⟩ := pm_d1 hd
  have hN := ho.2.2.1
  have hD := ho.2.1
  have hl := (ho.2.2.2.2.2 h hh).1
  have hl4 := ho.1
  have hin : vp_in (nI h) 6 := vp_n (by omega) (by decide)
  have hc := nI_c (show h < 2147483648 by omega)
  have hph := hk h hh
  simp only [e163]
  rw [b163_0 hL hin, hc, hp h hh, hv.2.1, nI_1]
  by_cases q : pl h + 1 < vD v
  · rw [if_neg (nI_ge q (by omega)), b163_19 hL, m_ofl (by omega) hL hv ho hh, pm_then_i, b163_26 hL, m_isStone (by omega) hL hv (by omega) (by omega), pm_then_i, b163_30]
    by_cases s : vS v (vl v h) (pl h + 1) = true
    · rw [if_pos s, if_pos (by decide), b163_56]
      refine ⟨iv, rfl, chg_rf, ?_⟩
      rw [rl1, if_neg (fun a => a.2.1 s)]
      exact hp
    · rw [if_neg s, if_neg (fun a => a rfl), b163_33 hL, m_ofl (by omega) hL hv ho hh, pm_then_i, b163_40 hL, m_houseAt hd1 hL hv ho hp, pm_then_i, b163_44]
      by_cases r : hsAt v pl (vl v h) (pl h + 1) = true
      · have r' : atF (vl v) pl (vN v) (nI (vl v h)) (nI (pl h + 1)) < vN v := of_decide_eq_true r
        have e : ¬ nI (atF (vl v) pl (vN v) (nI (vl v h)) (nI (pl h + 1))) = -1000000 := by
          rw [eq_i, nI_t (by omega), show ((-1000000 : Int32)).toInt = -1000000 from rfl]
          omega
        rw [if_pos r', if_pos e, b163_56]
        refine ⟨iv, rfl, chg_rf, ?_⟩
        rw [rl1, if_neg (fun a => a.2.2 r)]
        exact hp
      · have r' : ¬ atF (vl v) pl (vN v) (nI (vl v h)) (nI (pl h + 1)) < vN v := fun q => r (decide_eq_true q)
        rw [if_neg r', if_neg (fun a => a rfl), b163_49 hL hin, b163_56, hc]
        refine ⟨_, rfl, chg_iw (by decide), ?_⟩
        rw [rl1, if_pos ⟨q, s, r⟩]
        intro j hj
        rw [iw_s]
        by_cases e : j = h
        · rw [e, upd_s, np_s]
        · rw [upd_n e, np_n e]; exact hp j hj
  · rw [if_pos (nI_le (by omega) (by omega)), b163_56]
    refine ⟨iv, rfl, chg_rf, ?_⟩
    rw [rl1, if_neg (fun a => q a.1)]
    exact hp
theorem alo_step {j h : Nat} : alo bg h (j + 1) = (alo bg h j && (decide (j = h) || !decide (bg j = bg h))) := rfl
theorem m_isAlone_loop (hL : pm_lay g) (hv : HAr (iv 36) v) (ho : Hok v) (hb : PL iv 42 (vN v) bg) (hk : Pok v bg) {h : Nat} (hh : h < vN v) : ∀ m j, j + m = vN v → pm_at X d 164 (4, [some (.ref 32), some (.int (nI h)), some (.int (if alo bg h j = true then 1 else 0)), some (.int (nI j))], [], g, iv) = some (some (.int (if alo bg h (vN v) = true then 1 else 0)), g, iv) := by
  have hN := ho.2.2.1
  have hD := ho.2.1
  intro m
  induction m with
  | zero =>
    intro j hj
    have hjn : j = vN v := by omega
    subst hjn
    rw [b164_4 hL, hv.2.2.1, if_pos (Int32.le_refl _), b164_50]
    by_cases q : alo bg h (vN v) = true <;> simp only [q, bz_0, bz_n, bz_1, pm_zr0, pm_zr1, pm_zrI, if_true, if_false, not_true, not_false_eq_true, Bool.false_eq_true, true_and, and_true, false_and, and_false, z10, z01, zz0, eq_self]
  | succ m ih =>
    intro j hj
    have hlt : j < vN v := by omega
    have hin : vp_in (nI j) 6 := vp_n (by omega) (by decide)
    have hin2 : vp_in (nI h) 6 := vp_n (by omega) (by decide)
    have hnx := ih (j + 1) (by omega)
    have hbj := hk j hlt
    have hbh := hk h hh
    rw [b164_4 hL, hv.2.2.1, if_neg (nI_ge hlt (by omega)), b164_14]
    by_cases q : alo bg h j = true
    · rw [if_pos q, if_neg (by decide), b164_18]
      by_cases e : j = h
      · subst e
        have e2 : alo bg j (j + 1) = true := by rw [alo_step, q]; simp
        rw [if_pos e2] at hnx
        rw [if_pos rfl, b164_38, b164_43, nI_1]
        exact hnx
      · rw [if_neg (fun a => e ((nI_eq (by omega) (by omega)).mp a)), b164_23 hL hin hin2, nI_c (by omega), nI_c (by omega), hb j hlt, hb h hh]
        by_cases e3 : bg j = bg h
        · have e2 : ¬ alo bg h (j + 1) = true := by rw [alo_step, q]; simp [e, e3]
          rw [if_neg e2] at hnx
          rw [e3, if_pos rfl, b164_42, b164_43, nI_1]
          exact hnx
        · have e2 : alo bg h (j + 1) = true := by rw [alo_step, q]; simp [e3]
          rw [if_pos e2] at hnx
          rw [if_neg (fun a => e3 ((nI_eq (by omega) (by omega)).mp a)), b164_38, b164_43, nI_1]
          exact hnx
    · have e2 : ¬ alo bg h (j + 1) = true := by rw [alo_step]; simp [q]
      rw [if_neg e2] at hnx
      rw [if_neg q, if_pos rfl, b164_42, b164_43, nI_1]
      exact hnx
theorem m_isAlone (hd : 1 ≤ d) (hL : pm_lay g) (hv : HAr (iv 36) v) (ho : Hok v) (hb : PL iv 42 (vN v) bg) (hk : Pok v bg) {h : Nat} (hh : h < vN v) : pm_c X d 164 [.ref 32, .int (nI h)] g iv = some (some (.int (if alo bg h (vN v) = true then 1 else 0)), g, iv) := by
  obtain ⟨d, rfl, hd1⟩ := pm_d1 hd
  have hl := m_isAlone_loop (X := X) (d := d) hL hv ho hb hk hh (vN v) 0 (by omega)
  rw [nI_0] at hl
  simp only [e164, b164_0]
  exact hl
theorem w_odd (hw : w < 200000) : (nI w - nI w / 2 * 2 = 1) ↔ w % 2 = 1 := by
  have e : nI w - nI w / 2 * 2 = nI (w % 2) := pk_rem (d := 2) (by omega) (by omega) (by omega)
  rw [e]
  have := nI_eq (a := w % 2) (b := 1) (by omega) (by omega)
  exact this
theorem m_goHouse_end {h : Nat} {x : Int32} {z : Int32} (h3 : ¬ z = 0) : pm_at X d 165 (47, [some (.ref 32), some (.int x), some (.int y), some (.int (nI (vK v h)) ), none, none], [.int z], g, iv) = some (none, g, iv) := by
  rw [b165_47, b165_52]
  by_cases e : nI (vK v h) = 3
  · rw [if_neg (not_not_intro e), b165_59, b165_64, if_neg (by decide), b165_67, if_pos h3, b165_83]
  · rw [if_pos e, b165_63, b165_64, if_neg (by decide), b165_67, if_pos h3, b165_83]
theorem m_goHouse_go (hd : 3 ≤ d) (hL : pm_lay g) (hv : HAr (iv 36) v) (ho : Hok v) (hp : PL iv 40 (vN v) pl) (hk : Pok v pl) {h : Nat} (hh : h < vN v) : ∃ iv', pm_at X d 165 (47, [some (.ref 32), some (.int (nI h)), some (.int y), some (.int (nI (vK v h))), none, none], [.int 0], g, iv) = some (none, g, iv') ∧ chg [40] iv iv' ∧ PL iv' 40 (vN v) (if vK v h = 3 then rl1 v (rl1 v pl h) h else rl1 v pl h) := by
  have h6 := (ho.2.2.2.2.2 h hh).2.2.1
  obtain ⟨iv1, c1, g1, p1⟩ := m_roll (X := X) hd hL hv ho hp hk hh
  have hv1 : HAr (iv1 36) v := by rw [g1 36 (by decide)]; exact hv
  obtain ⟨iv2, c2, g2, p2⟩ := m_roll (X := X) hd hL hv1 ho p1 (Pok_rl1 h hk) hh
  rw [b165_47, b165_52]
  have e3 : (nI (vK v h) = 3) ↔ vK v h = 3 := nI_eq (b := 3) (by omega) (by omega)
  by_cases e : vK v h = 3
  · refine ⟨iv2, ?_, chg_tr g1 g2, by rw [if_pos e]; exact p2⟩
    have e' := e3.mpr e
    rw [e', if_neg (fun a => a rfl), b165_59, b165_64, if_neg (by decide), b165_67, if_neg (fun a => a rfl), b165_72 hL, c1, pm_then_v, b165_77, b165_52,
      if_neg (fun a => a rfl), b165_59, b165_64, if_neg (by decide), b165_67, if_neg (fun a => a rfl), b165_72 hL, c2, pm_then_v, b165_77, b165_52,
      if_neg (fun a => a rfl), b165_59, b165_64, if_pos (by decide), b165_83]
  · refine ⟨iv1, ?_, g1, by rw [if_neg e]; exact p1⟩
    have e' := fun a => e (e3.mp a)
    rw [if_pos e', b165_63, b165_64, if_neg (by decide), b165_67, if_neg (fun a => a rfl), b165_72 hL, c1, pm_then_v, b165_77, b165_52,
      if_pos e', b165_63, b165_64, if_pos (by decide), b165_83]
theorem m_goHouse (hd : 4 ≤ d) (hL : pm_lay g) (hv : HAr (iv 36) v) (ho : Hok v) (hp : PL iv 40 (vN v) pl) (hk : Pok v pl) (hb : PL iv 42 (vN v) bg) (hkb : Pok v bg) (hhe : HE iv (vN v) he) (hw : w < 200000) {h : Nat} (hh : h < vN v) : ∃ iv', pm_c X d 165 [.ref 32, .int (nI h), .int (nI w)] g iv = some (none, g, iv') ∧ chg [40] iv iv' ∧ PL iv' 40 (vN v) (rlH v he bg w pl h) := by
  obtain ⟨d, rfl, hd1⟩ := pm_d1 hd
  have hN := ho.2.2.1
  have h6 := (ho.2.2.2.2.2 h hh).2.2.1
  have hin : vp_in (nI h) 6 := vp_n (by omega) (by decide)
  have e1 : (nI (vK v h) = 1) ↔ vK v h = 1 := nI_eq (b := 1) (by omega) (by omega)
  have e2 : (nI (vK v h) = 2) ↔ vK v h = 2 := nI_eq (b := 2) (by omega) (by omega)
  obtain ⟨iv1, c1, g1, p1⟩ := m_goHouse_go (X := X) (y := nI w) hd1 hL hv ho hp hk hh
  have stay : may v he bg w h = false → ∃ iv', pm_at X d 165 (42, [some (.ref 32), some (.int (nI h)), some (.int (nI w)), some (.int (nI (vK v h))), none, none], [], g, iv) = some (none, g, iv') ∧ chg [40] iv iv' ∧ PL iv' 40 (vN v) (rlH v he bg w pl h) := by
    intro hm
    refine ⟨iv, ?_, chg_rf, ?_⟩
    · rw [b165_42]
      exact m_goHouse_end (by decide)
    · rw [rlH, hm, if_neg (by decide)]; exact hp
  have go : may v he bg w h = true → ∃ iv', pm_at X d 165 (46, [some (.ref 32), some (.int (nI h)), some (.int (nI w)), some (.int (nI (vK v h))), none, none], [], g, iv) = some (none, g, iv') ∧ chg [40] iv iv' ∧ PL iv' 40 (vN v) (rlH v he bg w pl h) := by
    intro hm
    refine ⟨iv1, ?_, g1, ?_⟩
    · rw [b165_46]; exact c1
    · rw [rlH, hm, if_pos rfl]; exact p1
  have hr := @hhe h hh
  simp only [e165]
  rw [b165_0 hL, m_ofK (by omega) hL hv ho hh, pm_then_i, b165_6 hL hin, nI_c (by omega), hr]
  by_cases a : he h = true
  · rw [if_pos a, if_pos rfl]
    exact stay (by unfold may; simp [a])
  · rw [if_neg a, if_neg (by decide), b165_17]
    by_cases k1 : vK v h = 1
    · rw [if_neg (not_not_intro (e1.mpr k1)), b165_22]
      by_cases o : w % 2 = 1
      · rw [if_pos ((w_odd hw).mpr o)]
        exact stay (by unfold may; simp [k1, o])
      · rw [if_neg (fun q => o ((w_odd hw).mp q)), b165_29, if_pos (fun q => by have := e2.mp q; omega)]
        exact go (by unfold may; simp [a, k1, o])
    · rw [if_pos (fun q => k1 (e1.mp q)), b165_29]
      by_cases k2 : vK v h = 2
      · rw [if_neg (not_not_intro (e2.mpr k2)), b165_34 hL, m_isAlone (by omega) hL hv ho hb hkb hh, pm_then_i, b165_39]
        by_cases o : alo bg h (vN v) = true
        · rw [if_pos o, if_pos (by decide)]
          exact go (by unfold may; simp [a, k2, o])
        · rw [if_neg o, if_neg (fun q => q rfl)]
          exact stay (by unfold may; simp [k2, o])
      · rw [if_pos (fun q => k2 (e2.mp q))]
        exact go (by unfold may; simp [a, k1, k2])
end M2
