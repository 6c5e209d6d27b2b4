/-! chock, chocks -/
/-- v with h chocked, or not -/
def vCk (v : HV) (h : Nat) (b : Bool) : HV := wC v (fun i => if i = h then b else vC v i)
theorem Hok_vCk {v : HV} {h : Nat} {b : Bool} (ho : Hok v) : Hok (vCk v h b) := ho
theorem Dst_vCk {v : HV} {h : Nat} {b : Bool} (hs : Dst v (vy v)) : Dst (vCk v h b) (vy (vCk v h b)) := hs
theorem Kok_vCk {v : HV} {h : Nat} {b : Bool} (hs : Kok v) : Kok (vCk v h b) := hs
theorem Sta_vCk {v u : HV} {h : Nat} {b : Bool} (hs : Sta u v) : Sta u (vCk v h b) := hs
theorem bi_1 (b : Bool) : ((if b = true then (1 : Int32) else 0) = 1) ↔ b = true := by cases b <;> simp
section Q57
variable {X : pm_X} {d k : Nat} {g : pm_G} {iv : pm_V} {v u : HV} {x y z : Int32} {h : Nat} {b : Bool} {a o : Nat} {r : Nat → HV}
theorem t_chockAct (hd : 4 ≤ d) (hL : pm_lay g) (hv : SV iv 11 v) (ho : Hok v) (hc : CA iv a o r) (hr : RO v a r) (hh : h < vN v) : ∃ iv' o', pm_c X d 125 [.ref 0, .int (nI h), .int (if b = true then 1 else 0)] g iv = some (some (.int (if vC v h = true then 1 else 0)), g, iv') ∧ chg [7, 8, 11] iv iv' ∧ SV iv' 11 (vCk v h b) ∧ CA iv' (kA a) o' (kR a r v) := by
  obtain ⟨d, rfl, hd1⟩ := pm_d1 hd
  obtain ⟨iv1, o', k1, k2, k3⟩ := t_keep (X := X) (show 2 ≤ d by omega) hL hv ho hc hr
  have hv1 : SV iv1 11 v := SV_fr hv (fun c p1 p2 => k2 c (by simp only [List.mem_cons, List.not_mem_nil, or_false]; omega))
  obtain ⟨iv2, p1, p2, p3⟩ := t_putChock (X := X) (show 2 ≤ d by omega) (lay_now hL) hv1 ho hh b
  refine ⟨iv2, o', ?_, chg_tr (chg_mo k2 (by decide)) (chg_mo p2 (by decide)), p3, CA_fr k3 (by rw [p2 7 (by decide)]) (by rw [p2 7 (by decide)]) (p2 8 (by decide))⟩
  have s : ∀ w : Int32, pm_at X d 125 (27, [some (.ref 0), some (.int (nI h)), some (.int (if b = true then 1 else 0)), none], [.int w], g, iv1) = some (some (.int w), g, iv2) := fun w => by
    rw [b125_27 hL]
    by_cases q : b = true
    · rw [if_neg (not_not_intro ((bi_1 b).mpr q)), b125_38, b125_43 hL]
      rw [if_pos q] at p1 ⊢
      rw [p1]
      simp only [pm_then_i, pm_then_l, pm_then_v, b125_46]
    · rw [if_pos (fun e => q ((bi_1 b).mp e)), b125_42, b125_43 hL]
      rw [if_neg q] at p1 ⊢
      rw [p1]
      simp only [pm_then_i, pm_then_l, pm_then_v, b125_46]
  simp only [e125, b125_0 hL, k1, pm_then_i, pm_then_l, pm_then_v, b125_11 hL, t_isChocked (show 2 ≤ d by omega) (lay_now hL) hv1 ho hh, b125_19, b125_22, b125_26]
  by_cases q : vC v h = true
  · simp only [q, bz_0, bz_n, bz_1, pm_zr0, pm_zr1, pm_zrI, if_true, if_false, not_true, not_false_eq_true, Bool.false_eq_true, true_and, and_true, false_and, and_false, z10, z01, zz0, eq_self, s]
  · simp only [q, bz_0, bz_n, bz_1, pm_zr0, pm_zr1, pm_zrI, if_true, if_false, not_true, not_false_eq_true, Bool.false_eq_true, true_and, and_true, false_and, and_false, z10, z01, zz0, eq_self, s]
theorem m_becomes (hd : 2 ≤ d) (hL : pm_lay g) (hv : HAr (iv 36) v) (ho : Hok v) (ha : a ≤ 24) (hm : MA iv a r) (hr : RO v a r) (hh : h < vN v) : ∃ iv', pm_c X d 170 [.ref 32, .int (nI h), .int (if b = true then 1 else 0)] g iv = some (some (.int (if vC v h = true then 1 else 0)), g, iv') ∧ chg [32, 36, 38] iv iv' ∧ (∀ c, c ≠ 8 → iv' 32 c = iv 32 c) ∧ HAr (iv' 36) (vCk v h b) ∧ MA iv' (kA a) (kR a r v) := by
  obtain ⟨d, rfl, hd1⟩ := pm_d1 hd
  have hN := ho.2.2.1
  obtain ⟨iv1, k1, k2, k3, k4⟩ := m_keep (X := X) (show 1 ≤ d by omega) hL hv ho ha hm hr
  have hv1 : HAr (iv1 36) v := by rw [k2 36 (by decide)]; exact hv
  have e9 : 9 + 6 * nI h + 4 = nI (9 + 6 * h + 4) := by
    show nI 9 + nI 6 * nI h + nI 4 = _
    rw [pk_mul, nI_add, nI_add]
  have i9 : vp_in (9 + 6 * nI h + 4) 45 := by rw [e9]; exact vp_n (by omega) (by decide)
  refine ⟨pm_iw iv1 36 (9 + 6 * h + 4) (if b = true then 1 else 0), ?_, chg_tr (chg_mo k2 (by decide)) (chg_iw (by decide)), fun c hc => by rw [iw_n (by decide), k3 c hc], ?_, MA_fr k4 (by rw [iw_n (by decide)]) (by rw [iw_n (by decide)])⟩
  · simp only [e170, b170_0 hL, k1, pm_then_i, pm_then_l, pm_then_v, b170_4 hL, m_ofC (show 1 ≤ d by omega) hL hv1 ho hh, b170_10 hL i9, e9, nI_c (show 9 + 6 * h + 4 < 2147483648 by omega)]
  · rw [iw_s]
    refine ⟨by rw [upd_n (by omega)]; exact hv1.1, by rw [upd_n (by omega)]; exact hv1.2.1, by rw [upd_n (by omega)]; exact hv1.2.2.1, by rw [upd_n (by omega)]; exact hv1.2.2.2.1, fun l hl i hi => by rw [upd_n (by omega)]; exact hv1.2.2.2.2.1 l hl i hi, fun q hq => ?_⟩
    have := hv1.2.2.2.2.2 q hq
    have e1 : vC (vCk v h b) q = if q = h then b else vC v q := rfl
    rw [e1]
    by_cases e : q = h
    · subst e
      rw [upd_n (by omega), upd_n (by omega), upd_n (by omega), upd_n (by omega), upd_s, upd_n (by omega), if_pos rfl]
      exact ⟨this.1, this.2.1, this.2.2.1, this.2.2.2.1, rfl, this.2.2.2.2.2⟩
    · rw [upd_n (by omega), upd_n (by omega), upd_n (by omega), upd_n (by omega), upd_n (by omega), upd_n (by omega), if_neg e]
      exact this
theorem bo_ip {y : Int32} (h : ip y 2 = true) : ∃ b : Bool, y = if b = true then 1 else 0 := by
  obtain ⟨j, hj, rfl⟩ := ip_ex h (by omega)
  rcases (show j = 0 ∨ j = 1 by omega) with rfl | rfl
  · exact ⟨false, rfl⟩
  · exact ⟨true, rfl⟩
theorem q_chock (hd : 6 ≤ d) (h : RL g iv) : PR X d g iv 100 171 [.ref 0, .int x, .int y] [.ref 32, .int x, .int y] := by
  obtain ⟨d, rfl, hd1⟩ := pm_d1 hd
  obtain ⟨hg, v, co⟩ := h
  have hL := hg.1
  have hv := co.1.1
  have ho := co.1.2.2.1
  have hs := co.1.2.2.2.1
  have hkk := co.1.2.2.2.2
  have hN := ho.2.2.1
  have co2 := CO_0 co
  have hw := co2.1.2.1
  obtain ⟨a, o, r, hc, hm, hr⟩ := co.2.2.2.1
  by_cases q1 : ip x (vN v) = true
  · obtain ⟨h, hh, rfl⟩ := ip_ex q1 (by omega)
    by_cases q2 : ip y 2 = true
    · obtain ⟨b, eb⟩ := bo_ip q2
      obtain ⟨iv1, o', k1, k2, k3, k4⟩ := t_chockAct (X := X) (b := b) (show 4 ≤ d by omega) hL hv ho hc hr hh
      have hw1 : HAr ((pm_iw iv1 32 0 0) 36) v := by rw [iw_n (by decide), k2 36 (by decide)]; exact co.1.2.1
      have hm1 : MA (pm_iw iv1 32 0 0) a r := MA_fr hm (by rw [iw_s, upd_n (by decide), k2 32 (by decide)]) (by rw [iw_n (by decide), k2 38 (by decide)])
      obtain ⟨iv2, m1, m2, m3, m4, m5⟩ := m_becomes (X := X) (b := b) (show 2 ≤ d by omega) hL hw1 ho hc.1 hm1 hr hh
      rw [← eb] at k1 m1
      have hc2 : chg [32, 36, 38] iv1 iv2 := chg_tr (chg_iw (by decide)) m2
      have f32 : ∀ c, c ≠ 0 → c ≠ 8 → iv2 32 c = iv 32 c := fun c p0 p8 => by rw [m3 c p8, iw_s, upd_n p0, k2 32 (by decide)]
      have co3 : CO g iv2 (vCk v h b) := by
        refine CO_ac co (chg_tr (chg_mo k2 (by decide)) (chg_mo hc2 (by decide))) (fun c p0 p1 p8 => f32 c p0 p8) ?_ ⟨SV_fr k3 (fun c p1 p2 => hc2 c (by simp only [List.mem_cons, List.not_mem_nil, or_false]; omega)), m4, Hok_vCk ho, Dst_vCk hs, Kok_vCk hkk⟩ ⟨kA a, o', kR a r v, CA_fr k4 (by rw [hc2 7 (by decide)]) (by rw [hc2 7 (by decide)]) (hc2 8 (by decide)), m5, RO_k hr ho hs hkk (fun u hu => hu)⟩
        rw [hc2 0 (by decide), k2 0 (by decide), f32 1 (by decide) (by decide)]
        exact co.2.2.2.2.2.2.1
      refine ⟨if vC v h = true then 1 else 0, iv1, iv2, ?_, ?_, hg, _, co3⟩
      · simp only [e100, b100_0 hL, t_isHouse (show 1 ≤ d by omega) (lay_now hL) hv ho, q1, pm_then_i, pm_then_l, pm_then_v, bz_0, bz_n, bz_1, pm_zr0, pm_zr1, pm_zrI, if_true, if_false, not_true, not_false_eq_true, Bool.false_eq_true, true_and, and_true, false_and, and_false, z10, z01, zz0, eq_self, b100_8, b100_11, t_ip (n := 1) (show 1 ≤ d by omega) toI1, q2, b100_16, b100_22 hL, k1, b100_28]
      · simp only [e171, b171_0 hL, m_isHouse (show 2 ≤ d by omega) hL hw1 ho, q1, pm_then_i, pm_then_l, pm_then_v, bz_0, bz_n, bz_1, pm_zr0, pm_zr1, pm_zrI, if_true, if_false, not_true, not_false_eq_true, Bool.false_eq_true, true_and, and_true, false_and, and_false, z10, z01, zz0, eq_self, b171_10, b171_13, m_ip (n := 1) (show 1 ≤ d by omega) toL1, q2, b171_20, b171_23 hL, m1, b171_29, b171_34]
    · refine ⟨-1000001, iv, pm_iw iv 32 0 0, ?_, ?_, hg, v, co2⟩
      · simp only [e100, b100_0 hL, t_isHouse (show 1 ≤ d by omega) (lay_now hL) hv ho, q1, pm_then_i, pm_then_l, pm_then_v, bz_0, bz_n, bz_1, pm_zr0, pm_zr1, pm_zrI, if_true, if_false, not_true, not_false_eq_true, Bool.false_eq_true, true_and, and_true, false_and, and_false, z10, z01, zz0, eq_self, b100_8, b100_11, t_ip (n := 1) (show 1 ≤ d by omega) toI1, q2, b100_16, b100_19]
      · simp only [e171, b171_0 hL, m_isHouse (show 2 ≤ d by omega) hL hw ho, q1, pm_then_i, pm_then_l, pm_then_v, bz_0, bz_n, bz_1, pm_zr0, pm_zr1, pm_zrI, if_true, if_false, not_true, not_false_eq_true, Bool.false_eq_true, true_and, and_true, false_and, and_false, z10, z01, zz0, eq_self, b171_10, b171_13, m_ip (n := 1) (show 1 ≤ d by omega) toL1, q2, b171_20, b171_32, b171_34]
  · refine ⟨-1000001, iv, pm_iw iv 32 0 0, ?_, ?_, hg, v, co2⟩
    · simp only [e100, b100_0 hL, t_isHouse (show 1 ≤ d by omega) (lay_now hL) hv ho, q1, pm_then_i, pm_then_l, pm_then_v, bz_0, bz_n, bz_1, pm_zr0, pm_zr1, pm_zrI, if_true, if_false, not_true, not_false_eq_true, Bool.false_eq_true, true_and, and_true, false_and, and_false, z10, z01, zz0, eq_self, b100_8, b100_19]
    · simp only [e171, b171_0 hL, m_isHouse (show 2 ≤ d by omega) hL hw ho, q1, pm_then_i, pm_then_l, pm_then_v, bz_0, bz_n, bz_1, pm_zr0, pm_zr1, pm_zrI, if_true, if_false, not_true, not_false_eq_true, Bool.false_eq_true, true_and, and_true, false_and, and_false, z10, z01, zz0, eq_self, b171_10, b171_32, b171_34]
/-- the state after k of the houses hs are chocked: hill, acts, records, sum -/
def ckV (v : HV) (hs : Nat → Nat) : Nat → HV
  | 0 => v
  | k + 1 => vCk (ckV v hs k) (hs k) true
def ckA (a : Nat) : Nat → Nat
  | 0 => a
  | k + 1 => kA (ckA a k)
def ckR (v : HV) (a : Nat) (r : Nat → HV) (hs : Nat → Nat) : Nat → (Nat → HV)
  | 0 => r
  | k + 1 => kR (ckA a k) (ckR v a r hs k) (ckV v hs k)
def ckS (v : HV) (hs : Nat → Nat) : Nat → Int32
  | 0 => 0
  | k + 1 => ckS v hs k + (1 - (if vC (ckV v hs k) (hs k) = true then 1 else 0))
theorem ckV_ok {hs : Nat → Nat} (ho : Hok v) (hd : Dst v (vy v)) (hk : Kok v) : ∀ k, Hok (ckV v hs k) ∧ Dst (ckV v hs k) (vy (ckV v hs k)) ∧ Kok (ckV v hs k) ∧ vN (ckV v hs k) = vN v ∧ ∀ u, Sta u v → Sta u (ckV v hs k)
  | 0 => ⟨ho, hd, hk, rfl, fun _ h => h⟩
  | k + 1 => by
    obtain ⟨a1, a2, a3, a4, a5⟩ := ckV_ok (hs := hs) ho hd hk k
    exact ⟨a1, a2, a3, a4, a5⟩
theorem ckA_le (ha : a ≤ 24) : ∀ k, ckA a k ≤ 24
  | 0 => ha
  | k + 1 => kA_le (ckA_le ha k)
theorem ckRO {hs : Nat → Nat} (ho : Hok v) (hd : Dst v (vy v)) (hk : Kok v) (hr : RO v a r) : ∀ k, RO (ckV v hs k) (ckA a k) (ckR v a r hs k)
  | 0 => hr
  | k + 1 => by
    obtain ⟨a1, a2, a3, a4, a5⟩ := ckV_ok (hs := hs) ho hd hk k
    exact RO_k (ckRO ho hd hk hr k) a1 a2 a3 (fun u hu => hu)
theorem t_chocks_loop (hd : 5 ≤ d) (hL : pm_lay g) (ho : Hok v) (hdd : Dst v (vy v)) (hk : Kok v) (hr : RO v a r) {hs : Nat → Nat} {w i m n : Nat} (hw : w < 8) (hm : m ≤ 40) (hin : i + n ≤ m) : ∀ q k (iv : pm_V) (o : Nat), k + q = n → SV iv 11 (ckV v hs k) → CA iv (ckA a k) o (ckR v a r hs k) → bt (iv 1 3) w = true → iv 4 w = nI m → (∀ j, j < n → hs j < vN v ∧ iv 2 (40 * w + i + j) = nI (hs j)) →
    ∃ iv' o', pm_at X d 101 (116, [some (.ref 0), some (.int (nI w)), some (.int (nI i)), some (.int (nI n)), some (.int (ckS v hs k)), some (.int (nI k))], [], g, iv) = some (some (.int (ckS v hs n)), g, pm_iw iv' 0 7 0) ∧ chg [7, 8, 11] iv iv' ∧ SV iv' 11 (ckV v hs n) ∧ CA iv' (ckA a n) o' (ckR v a r hs n) := by
  intro q
  induction q with
  | zero =>
    intro k iv o hk hv hc h1 h4 hh
    have e : k = n := by omega
    subst e
    refine ⟨iv, o, ?_, chg_rf, hv, hc⟩
    rw [b101_116, if_pos (Int32.le_refl _), b101_152 hL, t_answered (by omega) hL]
    simp only [pm_then_i, pm_then_l, pm_then_v, b101_158]
  | succ q ih =>
    intro k iv o hkn hv hc h1 h4 hh
    have hlt : k < n := by omega
    have hn : ¬ nI n ≤ nI k := nI_ge hlt (by omega)
    obtain ⟨a1, a2, a3, a4, a5⟩ := ckV_ok (hs := hs) ho hdd hk k
    obtain ⟨hk1, hk2⟩ := hh k hlt
    have hI := t_itemAt (X := X) (d := d) (g := g) (iv := iv) (i := i + k) hd hL hw h1 h4 hm (by omega)
    rw [show 40 * w + (i + k) = 40 * w + i + k by omega, hk2] at hI
    obtain ⟨iv1, o1, k1, k2, k3, k4⟩ := t_chockAct (X := X) (b := true) (show 4 ≤ d by omega) hL hv a1 hc (ckRO ho hdd hk hr k) (show hs k < vN (ckV v hs k) by rw [a4]; exact hk1)
    rw [if_pos rfl] at k1
    obtain ⟨iv2, o2, x1, x2, x3⟩ := ih (k + 1) iv1 o1 (by omega) k3 k4 (by rw [k2 1 (by decide)]; exact h1) (by rw [k2 4 (by decide)]; exact h4) (fun j hj => by rw [k2 2 (by decide)]; exact hh j hj)
    refine ⟨iv2, o2, ?_, chg_tr k2 x2, x3⟩
    rw [b101_116, if_neg hn, b101_122 hL, nI_add, hI]
    simp only [pm_then_i, pm_then_l, pm_then_v]
    rw [b101_138 hL, k1]
    simp only [pm_then_i, pm_then_l, pm_then_v]
    rw [b101_142, nI_1]
    exact x1
theorem m_chocks_loop (hd : 2 ≤ d) (hL : pm_lay g) (ho : Hok v) (hdd : Dst v (vy v)) (hk : Kok v) (ha : a ≤ 24) (hr : RO v a r) {hs : Nat → Nat} {w i m n : Nat} (hw : w < 8) (hm : m ≤ 40) (hin : i + n ≤ m) : ∀ q k (iv : pm_V), k + q = n → HAr (iv 36) (ckV v hs k) → MA iv (ckA a k) (ckR v a r hs k) → (∀ j, j < n → hs j < vN v ∧ iv 35 (40 * w + i + j) = nI (hs j)) →
    ∃ iv', pm_at X d 172 (128, [some (.ref 32), some (.int (nI w)), some (.int (nI i)), some (.int (nI n)), some (.int (ckS v hs k)), some (.int (nI k))], [], g, iv) = some (some (.int (ckS v hs n)), g, iv') ∧ chg [32, 36, 38] iv iv' ∧ (∀ c, c ≠ 8 → iv' 32 c = iv 32 c) ∧ HAr (iv' 36) (ckV v hs n) ∧ MA iv' (ckA a n) (ckR v a r hs n) := by
  intro q
  induction q with
  | zero =>
    intro k iv hk hv hc hh
    have e : k = n := by omega
    subst e
    refine ⟨iv, ?_, chg_rf, fun _ _ => rfl, hv, hc⟩
    rw [b172_128, if_pos (Int32.le_refl _), b172_166]
  | succ q ih =>
    intro k iv hkn hv hc hh
    have hlt : k < n := by omega
    have hn : ¬ nI n ≤ nI k := nI_ge hlt (by omega)
    obtain ⟨a1, a2, a3, a4, a5⟩ := ckV_ok (hs := hs) ho hdd hk k
    obtain ⟨hk1, hk2⟩ := hh k hlt
    have e1 : 40 * nI w + nI i + nI k = nI (40 * w + i + k) := by
      show nI 40 * nI w + nI i + nI k = _
      rw [pk_mul, nI_add, nI_add]
    have i1 : vp_in (40 * nI w + nI i + nI k) 320 := by rw [e1]; exact vp_n (by omega) (by decide)
    obtain ⟨iv1, k1, k2, k3, k4, k5⟩ := m_becomes (X := X) (b := true) hd hL hv a1 (ckA_le ha k) hc (ckRO ho hdd hk hr k) (show hs k < vN (ckV v hs k) by rw [a4]; exact hk1)
    rw [if_pos rfl] at k1
    obtain ⟨iv2, x1, x2, x3, x4⟩ := ih (k + 1) iv1 (by omega) k4 k5 (fun j hj => by rw [k2 35 (by decide)]; exact hh j hj)
    refine ⟨iv2, ?_, chg_tr k2 x2, fun c hc => (x3 c hc).trans (k3 c hc), x4⟩
    rw [b172_128, if_neg hn, b172_134 hL i1, e1, nI_c (by omega), hk2, k1]
    simp only [pm_then_i, pm_then_l, pm_then_v]
    rw [b172_156, nI_1]
    exact x1
/-- are all of m, from k on? -/
def alF (p : Nat → Bool) : Nat → Nat → Bool
  | 0, _ => true
  | m + 1, k => p k && alF p m (k + 1)
theorem alF_y {p : Nat → Bool} : ∀ m k, alF p m k = true → ∀ j, k ≤ j → j < k + m → p j = true
  | 0, _, _, j, a, b => by omega
  | m + 1, k, h, j, a, b => by
    rw [alF, Bool.and_eq_true] at h
    by_cases e : j = k
    · rw [e]; exact h.1
    · exact alF_y m (k + 1) h.2 j (by omega) (by omega)
theorem t_chocks_test (hd : 5 ≤ d) (hL : pm_lay g) (hv : SV iv 11 v) (ho : Hok v) {w i m n : Nat} (hw : w < 8) (h1 : bt (iv 1 3) w = true) (h4 : iv 4 w = nI m) (hm : m ≤ 40) (hin : i + n ≤ m) : ∀ q k, k + q = n →
    pm_at X d 101 (73, [some (.ref 0), some (.int (nI w)), some (.int (nI i)), some (.int (nI n)), some (.int (nI k)), none], [], g, iv) = if alF (fun j => ip (iv 2 (40 * w + i + j)) (vN v)) q k = true then pm_at X d 101 (110, [some (.ref 0), some (.int (nI w)), some (.int (nI i)), some (.int (nI n)), some (.int (nI n)), none], [], g, iv) else some (some (.int (-1000001)), g, iv) := by
  intro q
  induction q with
  | zero =>
    intro k hk
    have e : k = n := by omega
    subst e
    rw [b101_73, if_pos (Int32.le_refl _), alF, if_pos rfl]
  | succ q ih =>
    intro k hkn
    have hlt : k < n := by omega
    have hn : ¬ nI n ≤ nI k := nI_ge hlt (by omega)
    have hI := t_itemAt (X := X) (d := d) (g := g) (iv := iv) (i := i + k) hd hL hw h1 h4 hm (by omega)
    rw [show 40 * w + (i + k) = 40 * w + i + k by omega] at hI
    rw [b101_73, if_neg hn, b101_79 hL, nI_add, hI]
    simp only [pm_then_i, pm_then_l, pm_then_v, b101_95 hL, t_isHouse (show 1 ≤ d by omega) (lay_now hL) hv ho, b101_98, b101_101, b101_104, nI_1, alF]
    by_cases p : ip (iv 2 (40 * w + i + k)) (vN v) = true
    · simp only [p, bz_0, bz_n, bz_1, pm_zr0, pm_zr1, pm_zrI, if_true, if_false, not_true, not_false_eq_true, Bool.false_eq_true, true_and, and_true, false_and, and_false, z10, z01, zz0, eq_self, Bool.true_and]
      exact ih (k + 1) (by omega)
    · simp only [p, bz_0, bz_n, bz_1, pm_zr0, pm_zr1, pm_zrI, if_true, if_false, not_true, not_false_eq_true, Bool.false_eq_true, true_and, and_true, false_and, and_false, z10, z01, zz0, eq_self, Bool.false_and]
theorem m_chocks_test (hd : 2 ≤ d) (hL : pm_lay g) (hv : HAr (iv 36) v) (ho : Hok v) {w i m n : Nat} (hw : w < 8) (hm : m ≤ 40) (hin : i + n ≤ m) : ∀ q k, k + q = n →
    pm_at X d 172 (81, [some (.ref 32), some (.int (nI w)), some (.int (nI i)), some (.int (nI n)), some (.int (nI k)), none], [], g, iv) = if alF (fun j => ip (iv 35 (40 * w + i + j)) (vN v)) q k = true then pm_at X d 172 (117, [some (.ref 32), some (.int (nI w)), some (.int (nI i)), some (.int (nI n)), some (.int (nI n)), none], [], g, iv) else some (some (.int (-1000001)), g, iv) := by
  intro q
  induction q with
  | zero =>
    intro k hk
    have e : k = n := by omega
    subst e
    rw [b172_81, if_pos (Int32.le_refl _), alF, if_pos rfl]
  | succ q ih =>
    intro k hkn
    have hlt : k < n := by omega
    have hn : ¬ nI n ≤ nI k := nI_ge hlt (by omega)
    have e1 : 40 * nI w + nI i + nI k = nI (40 * w + i + k) := by
      show nI 40 * nI w + nI i + nI k = _
      rw [pk_mul, nI_add, nI_add]
    have i1 : vp_in (40 * nI w + nI i + nI k) 320 := by rw [e1]; exact vp_n (by omega) (by decide)
    rw [b172_81, if_neg hn, b172_87 hL i1, e1, nI_c (by omega)]
    simp only [m_isHouse hd hL hv ho, pm_then_i, pm_then_l, pm_then_v, b172_105, b172_108, b172_111, nI_1, alF]
    by_cases p : ip (iv 35 (40 * w + i + k)) (vN v) = true
    · simp only [p, bz_0, bz_n, bz_1, pm_zr0, pm_zr1, pm_zrI, if_true, if_false, not_true, not_false_eq_true, Bool.false_eq_true, true_and, and_true, false_and, and_false, z10, z01, zz0, eq_self, Bool.true_and]
      exact ih (k + 1) (by omega)
    · simp only [p, bz_0, bz_n, bz_1, pm_zr0, pm_zr1, pm_zrI, if_true, if_false, not_true, not_false_eq_true, Bool.false_eq_true, true_and, and_true, false_and, and_false, z10, z01, zz0, eq_self, Bool.false_and]
end Q57
