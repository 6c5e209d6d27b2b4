/-! stream -/
/-- the yard of h after j winters -/
abbrev pyN (v : HV) (j h : Nat) : Nat := wnts v (vC v) (vW v) j (vy v) h
def strN (v : HV) (h : Nat) : Nat := fstF (fun j => decide (pyN v j h + 1 = vD v)) 41
def strI (v : HV) (h : Nat) : Int32 := if strN v h < 41 then nI (strN v h) else -1000000
section Q42
variable {X : pm_X} {d k : Nat} {g : pm_G} {iv : pm_V} {x y z : Int32} {v : HV}
theorem t_stream_loop (hd : 5 ≤ d) (hL : pm_lay g) (ho : Hok v) (hs : Dst v (vy v)) (hw : vW v ≤ 9999) {h : Nat} (hh : h < vN v) : ∀ m j (iv : pm_V), SV iv 21 (TN v j) → j + m = 41 → (∀ i, i < j → decide (pyN v i h + 1 = vD v) = false) → ∃ iv', pm_at X d 106 (27, [some (.ref 0), some (.int (nI h)), some (.int (nI j))], [], g, iv) = some (some (.int (strI v h)), g, iv') ∧ chg tri iv iv' := by
  intro m
  induction m with
  | zero =>
    intro j iv hv hj hno
    have e : j = 41 := by omega
    subst e
    refine ⟨iv, ?_, chg_rf⟩
    have e1 : strN v h = 41 := fstF_none hno
    have e2 : (40 : Int32) < nI 41 := by rw [lt_i, toI40, nI_t (by omega)]; omega
    simp only [b106_27, e2, if_true, b106_60, strI, e1, Nat.lt_irrefl, if_false]
  | succ m ih =>
    intro j iv hv hj hno
    have e2 : ¬ (40 : Int32) < nI j := by rw [lt_i, toI40, nI_t (by omega)]; omega
    have ht := Hok_TN (n := j) ho (by omega)
    have hA := t_isAtStream (X := X) (show 2 ≤ d by omega) (lay_trial hL) hv ht (h := h) hh
    by_cases q : pyN v j h + 1 = vD v
    · have q' : vy (TN v j) h + 1 = vD (TN v j) := q
      have e1 : strN v h = j := fstF_eq (by omega) (decide_eq_true q) hno
      refine ⟨iv, ?_, chg_rf⟩
      rw [if_pos q'] at hA
      simp only [b106_27, e2, bz_0, bz_n, bz_1, pm_zr0, pm_zr1, pm_zrI, if_true, if_false, not_true, not_false_eq_true, Bool.false_eq_true, true_and, and_true, false_and, and_false, z10, z01, zz0, eq_self, b106_33 hL, hA, pm_then_i, pm_then_l, pm_then_v, b106_41, b106_44, strI, e1]
      rw [if_pos (by omega)]
    · have q' : ¬ vy (TN v j) h + 1 = vD (TN v j) := q
      obtain ⟨iv1, x', a1, a2, a3⟩ := t_roll1N (X := X) hd (lay_trial hL) ho hs (by omega) hv
      obtain ⟨iv2, b1, b2⟩ := ih (j + 1) iv1 a3 (by omega) (fun i hi => by
        rcases Nat.lt_or_ge i j with p | p
        · exact hno i p
        · have : i = j := by omega
          subst this
          exact decide_eq_false q)
      refine ⟨iv2, ?_, chg_tr (chg_mo a2 (by decide)) b2⟩
      rw [if_neg q'] at hA
      simp only [b106_27, e2, bz_0, bz_n, bz_1, pm_zr0, pm_zr1, pm_zrI, if_true, if_false, not_true, not_false_eq_true, Bool.false_eq_true, true_and, and_true, false_and, and_false, z10, z01, zz0, eq_self, b106_33 hL, hA, pm_then_i, pm_then_l, pm_then_v, b106_41, b106_46 hL, a1, b106_53, nI_1, b1]
theorem m_stream_end (hL : pm_lay g) (hv : HAr (iv 36) v) (ho : Hok v) {h j : Nat} (hh : h < vN v) (hj : j ≤ 40) (hp : PL iv 40 (vN v) (wnts v (vC v) (vW v) j (vy v))) (hno : ∀ i, i < j → decide (pyN v i h + 1 = vD v) = false) (he : j = 40 ∨ pyN v j h + 1 = vD v) : pm_at X d 179 (63, [some (.ref 32), some (.int (nI h)), some (.int (nI j))], [], g, iv) = some (some (.int (strI v h)), g, iv) := by
  have hN := ho.2.2.1
  have hD := ho.2.1
  have hin : vp_in (nI h) 6 := vp_n (by omega) (by decide)
  have hk : pyN v j h < vD v := Pok_wnts (v := v) (he := vC v) j (vW v) (vy v) (Pok_self ho) h hh
  have hs : nI (vD v) - 1 = nI (vD v - 1) := pk_sub (a := vD v) (b := 1) (by omega)
  have e1 : nI (pyN v j h) = nI (vD v - 1) ↔ pyN v j h + 1 = vD v := by rw [nI_eq (by omega) (by omega)]; omega
  simp only [b179_63 hL hin, nI_c (show h < 2147483648 by omega), hp h hh, hv.2.1, hs, e1, b179_80, b179_84, b179_86]
  by_cases q : pyN v j h + 1 = vD v
  · have e1 : strN v h = j := fstF_eq (by omega) (decide_eq_true q) hno
    simp only [q, bz_0, bz_n, bz_1, pm_zr0, pm_zr1, pm_zrI, if_true, if_false, not_true, not_false_eq_true, Bool.false_eq_true, true_and, and_true, false_and, and_false, z10, z01, zz0, eq_self, strI, e1]
    rw [if_pos (by omega)]
  · have e1 : strN v h = 41 := fstF_none (fun i hi => by
      rcases Nat.lt_or_ge i j with p | p
      · exact hno i p
      · have : i = j := by omega
        subst this
        exact decide_eq_false q)
    simp only [q, bz_0, bz_n, bz_1, pm_zr0, pm_zr1, pm_zrI, if_true, if_false, not_true, not_false_eq_true, Bool.false_eq_true, true_and, and_true, false_and, and_false, z10, z01, zz0, eq_self, strI, e1, Nat.lt_irrefl]
theorem m_stream_loop (hd : 5 ≤ d) (hL : pm_lay g) (ho : Hok v) (hw : vW v ≤ 9999) {h : Nat} (hh : h < vN v) : ∀ m j (iv : pm_V), HAr (iv 36) v → PL iv 40 (vN v) (wnts v (vC v) (vW v) j (vy v)) → HE iv (vN v) (vC v) → j + m = 40 → (∀ i, i < j → decide (pyN v i h + 1 = vD v) = false) → ∃ iv', pm_at X d 179 (22, [some (.ref 32), some (.int (nI h)), some (.int (nI j))], [], g, iv) = some (some (.int (strI v h)), g, iv') ∧ chg [40, 42] iv iv' := by
  have hN := ho.2.2.1
  have hD := ho.2.1
  intro m
  induction m with
  | zero =>
    intro j iv hv hp hhe hj hno
    have e : j = 40 := by omega
    subst e
    refine ⟨iv, ?_, chg_rf⟩
    have e2 : (40 : Int32) ≤ nI 40 := by rw [le_i, toI40, nI_t (by omega)]; omega
    simp only [b179_22, e2, if_true, m_stream_end hL hv ho hh (by omega) hp hno (Or.inl rfl)]
  | succ m ih =>
    intro j iv hv hp hhe hj hno
    have e2 : ¬ (40 : Int32) ≤ nI j := by rw [le_i, toI40, nI_t (by omega)]; omega
    have hin : vp_in (nI h) 6 := vp_n (by omega) (by decide)
    have hk := Pok_wnts (v := v) (he := vC v) j (vW v) (vy v) (Pok_self ho)
    have hkh : pyN v j h < vD v := hk h hh
    have hs : nI (vD v) - 1 = nI (vD v - 1) := pk_sub (a := vD v) (b := 1) (by omega)
    have e1 : nI (vD v - 1) ≤ nI (pyN v j h) ↔ pyN v j h + 1 = vD v := by rw [le_i, nI_t (by omega), nI_t (by omega)]; omega
    by_cases q : pyN v j h + 1 = vD v
    · refine ⟨iv, ?_, chg_rf⟩
      simp only [b179_22, e2, bz_0, bz_n, bz_1, pm_zr0, pm_zr1, pm_zrI, if_true, if_false, not_true, not_false_eq_true, Bool.false_eq_true, true_and, and_true, false_and, and_false, z10, z01, zz0, eq_self, b179_28 hL hin, nI_c (show h < 2147483648 by omega), hp h hh, hv.2.1, hs, e1, q, m_stream_end hL hv ho hh (by omega) hp hno (Or.inr q)]
    · obtain ⟨iv1, a1, a2, a3⟩ := m_goWinter (X := X) (w := vW v + j) hd hL hv ho hp hk hhe (by omega)
      rw [← wnts_s] at a3
      obtain ⟨iv2, b1, b2⟩ := ih (j + 1) iv1 (by rw [a2 36 (by decide)]; exact hv) a3 (fun i hi => by rw [a2 41 (by decide)]; exact hhe i hi) (by omega) (fun i hi => by
        rcases Nat.lt_or_ge i j with p | p
        · exact hno i p
        · have : i = j := by omega
          subst this
          exact decide_eq_false q)
      refine ⟨iv2, ?_, chg_tr a2 b2⟩
      simp only [b179_22, e2, bz_0, bz_n, bz_1, pm_zr0, pm_zr1, pm_zrI, if_true, if_false, not_true, not_false_eq_true, Bool.false_eq_true, true_and, and_true, false_and, and_false, z10, z01, zz0, eq_self, b179_28 hL hin, nI_c (show h < 2147483648 by omega), hp h hh, hv.2.1, hs, e1, q, b179_45 hL, hv.2.2.2.1, nI_add, a1, pm_then_i, pm_then_l, pm_then_v, b179_57, nI_1, b1]
theorem q_stream (hd : 8 ≤ d) (h : RL g iv) : PR X d g iv 106 179 [.ref 0, .int x] [.ref 32, .int x] := by
  obtain ⟨d, rfl, hd1⟩ := pm_d1 hd
  obtain ⟨hg, v, co⟩ := h
  have hL := hg.1
  have hv := co.1.1
  have ho := co.1.2.2.1
  have hs := co.1.2.2.2.1
  have hw9 := co.1.2.2.2.2.1
  have hN := ho.2.2.1
  by_cases q1 : ip x (vN v) = true
  · obtain ⟨h, hh, rfl⟩ := ip_ex q1 (by omega)
    obtain ⟨iv1, a1, a2, a3⟩ := t_take (X := X) (show 1 ≤ d by omega) hL hv ho
    obtain ⟨iv2, b1, b2⟩ := t_stream_loop (X := X) (h := h) (show 5 ≤ d by omega) hL ho hs hw9 hh 41 0 iv1 a3 (by omega) (fun i hi => absurd hi (Nat.not_lt_zero i))
    have hc : chg scr iv iv2 := chg_mo (chg_tr a2 b2) (by decide)
    have co1 := CO_0 (CO_f0 co hc (by rw [b2 32 (by decide), a2 32 (by decide)]))
    have hw := co1.1.2.1
    obtain ⟨iv3, c1, c2, c3, c4⟩ := m_layNow (X := X) (show 2 ≤ d by omega) hL hw ho
    have hw' : HAr (iv3 36) v := by rw [c2 36 (by decide)]; exact hw
    obtain ⟨iv4, e1, e2⟩ := m_stream_loop (X := X) (h := h) (show 5 ≤ d by omega) hL ho hw9 hh 40 0 iv3 hw' c3 c4 (by omega) (fun i hi => absurd hi (Nat.not_lt_zero i))
    rw [nI_0] at b1 e1
    refine ⟨strI v h, iv2, iv4, ?_, ?_, hg, v, CO_f0 co1 (chg_mo (chg_tr (chg_mo c2 (M := [40, 41, 42]) (by decide)) (chg_mo e2 (M := [40, 41, 42]) (by decide))) (by decide)) (by rw [e2 32 (by decide), c2 32 (by decide)])⟩
    · simp only [e106, b106_0 hL, t_isHouse (show 1 ≤ d by omega) (lay_now hL) hv ho, q1, pm_then_i, pm_then_l, pm_then_v, bz_0, bz_n, bz_1, pm_zr0, pm_zr1, pm_zrI, if_true, if_false, not_true, not_false_eq_true, Bool.false_eq_true, true_and, and_true, false_and, and_false, z10, z01, zz0, eq_self, b106_8, b106_14 hL, a1, b106_25, b1]
    · simp only [e179, b179_0 hL, m_isHouse (show 2 ≤ d by omega) hL hw ho, q1, pm_then_i, pm_then_l, pm_then_v, bz_0, bz_n, bz_1, pm_zr0, pm_zr1, pm_zrI, if_true, if_false, not_true, not_false_eq_true, Bool.false_eq_true, true_and, and_true, false_and, and_false, z10, z01, zz0, eq_self, b179_10, b179_16 hL, c1, b179_20, e1]
  · have co2 := CO_0 co
    have hw := co2.1.2.1
    refine ⟨-1000001, iv, pm_iw iv 32 0 0, ?_, ?_, hg, v, co2⟩
    · simp only [e106, b106_0 hL, t_isHouse (show 1 ≤ d by omega) (lay_now hL) hv ho, q1, pm_then_i, pm_then_l, pm_then_v, bz_0, bz_n, bz_1, pm_zr0, pm_zr1, pm_zrI, if_true, if_false, not_true, not_false_eq_true, Bool.false_eq_true, true_and, and_true, false_and, and_false, z10, z01, zz0, eq_self, b106_8, b106_11]
    · simp only [e179, b179_0 hL, m_isHouse (show 2 ≤ d by omega) hL hw ho, q1, pm_then_i, pm_then_l, pm_then_v, bz_0, bz_n, bz_1, pm_zr0, pm_zr1, pm_zrI, if_true, if_false, not_true, not_false_eq_true, Bool.false_eq_true, true_and, and_true, false_and, and_false, z10, z01, zz0, eq_self, b179_10, b179_13]
end Q42
