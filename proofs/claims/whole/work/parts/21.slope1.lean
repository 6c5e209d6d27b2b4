/-! Slope: what it answers of itself. A VIEW of a hill: lanes, yards, houses, winter, chocked, stones, kinds, heavy, lane, yard, lent -/
abbrev HV : Type := Nat × Nat × Nat × Nat × (Nat → Bool) × (Nat → Nat → Bool) × (Nat → Nat) × (Nat → Nat) × (Nat → Nat) × (Nat → Nat) × (Nat → Int32)
abbrev vL (v : HV) : Nat := v.1
abbrev vD (v : HV) : Nat := v.2.1
abbrev vN (v : HV) : Nat := v.2.2.1
abbrev vW (v : HV) : Nat := v.2.2.2.1
abbrev vC (v : HV) : Nat → Bool := v.2.2.2.2.1
abbrev vS (v : HV) : Nat → Nat → Bool := v.2.2.2.2.2.1
abbrev vK (v : HV) : Nat → Nat := v.2.2.2.2.2.2.1
abbrev vH (v : HV) : Nat → Nat := v.2.2.2.2.2.2.2.1
abbrev vl (v : HV) : Nat → Nat := v.2.2.2.2.2.2.2.2.1
abbrev vy (v : HV) : Nat → Nat := v.2.2.2.2.2.2.2.2.2.1
abbrev vt (v : HV) : Nat → Int32 := v.2.2.2.2.2.2.2.2.2.2
/-- what any hill keeps to -/
def Hok (v : HV) : Prop := vL v ≤ 4 ∧ vD v ≤ 20 ∧ vN v ≤ 6 ∧ vW v < 100000 ∧ (∀ l y, vS v l y = true → l < vL v ∧ y < vD v) ∧ ∀ h, h < vN v → vl v h < vL v ∧ vy v h < vD v ∧ vK v h < 6 ∧ vH v h ≤ 20
/-- the slope at k shows v -/
def SV (iv : pm_V) (k : Nat) (v : HV) : Prop := iv k 0 = nI (vL v) ∧ iv k 1 = nI (vD v) ∧ iv k 2 = nI (vN v) ∧ iv k 3 = nI (vW v) ∧ (∀ i, i < 32 → bt (iv k 4) i = (decide (i < vN v) && vC v i)) ∧ (∀ l, l < 4 → ∀ i, i < 32 → bt (iv (k + 1) l) i = vS v l i) ∧
  ∀ h, h < vN v → iv (k + 2) h = nI (vK v h) ∧ iv (k + 3) h = nI (vH v h) ∧ iv (k + 4) h = nI (vl v h) ∧ iv (k + 5) h = nI (vy v h) ∧ iv (k + 6) h = vt v h
section S1
variable {X : pm_X} {d k : Nat} {g : pm_G} {iv : pm_V} {x y : Int32} {v : HV}
/-- is x one of the numbers below n? -/
def ip (x : Int32) (n : Nat) : Bool := decide (0 ≤ x.toInt ∧ x.toInt < n)
theorem ip_n {j n : Nat} (h : j < n) (hn : n < 2147483648) : ip (nI j) n = true := decide_eq_true (by rw [nI_t (by omega)]; omega)
theorem ip_ex {n : Nat} (h : ip x n = true) (hn : n < 2147483648) : ∃ j, j < n ∧ x = nI j := by
  have h := of_decide_eq_true h
  obtain ⟨j, hj, rfl, e⟩ := i_nI h.1
  exact ⟨j, by have := h.2; omega, rfl⟩
theorem t_isHouse (hd : 1 ≤ d) (hK : pm_sl g k) (hv : SV iv k v) (ho : Hok v) : pm_c X d 35 [.ref k, .int x] g iv = some (some (.int (if ip x (vN v) = true then 1 else 0)), g, iv) := by
  obtain ⟨d, rfl, -⟩ := pm_d1 hd
  have h6 := ho.2.2.1
  simp only [e35, b35_0, b35_4, b35_12, b35_18, b35_22, b35_23, hK]
  simp only [hv.2.2.1, lt_i, le_i, toI0, toI6, nI_t (show vN v < 2147483648 by omega), pm_zr0, pm_zr1, ip, decide_eq_true_eq]
  (repeat' split) <;> first | rfl | (exfalso; omega)
theorem t_isLane (hd : 1 ≤ d) (hK : pm_sl g k) (hv : SV iv k v) (ho : Hok v) : pm_c X d 33 [.ref k, .int x] g iv = some (some (.int (if ip x (vL v) = true then 1 else 0)), g, iv) := by
  obtain ⟨d, rfl, -⟩ := pm_d1 hd
  have h6 := ho.1
  simp only [e33, b33_0, b33_4, b33_12, b33_17, b33_21, b33_22, hK]
  simp only [hv.1, lt_i, le_i, toI0, toI4, nI_t (show vL v < 2147483648 by omega), pm_zr0, pm_zr1, ip, decide_eq_true_eq]
  (repeat' split) <;> first | rfl | (exfalso; omega)
theorem t_isYard (hd : 1 ≤ d) (hK : pm_sl g k) (hv : SV iv k v) (ho : Hok v) : pm_c X d 34 [.ref k, .int x] g iv = some (some (.int (if ip x (vD v) = true then 1 else 0)), g, iv) := by
  obtain ⟨d, rfl, -⟩ := pm_d1 hd
  have h6 := ho.2.1
  simp only [e34, b34_0, b34_4, b34_12, b34_16, b34_17, hK]
  simp only [hv.2.1, lt_i, le_i, toI0, nI_t (show vD v < 2147483648 by omega), pm_zr0, pm_zr1, ip, decide_eq_true_eq]
  (repeat' split) <;> first | rfl | (exfalso; omega)
theorem t_stands (hd : 1 ≤ d) (hK : pm_sl g k) (hv : SV iv k v) (ho : Hok v) : pm_c X d 26 [.ref k] g iv = some (some (.int (if 0 < vL v then 1 else 0)), g, iv) := by
  obtain ⟨d, rfl, -⟩ := pm_d1 hd
  have h6 := ho.1
  simp only [e26, b26_0, b26_7, b26_11, b26_12, hK]
  simp only [hv.1, lt_i, le_i, toI0, nI_t (show vL v < 2147483648 by omega), pm_zr0, pm_zr1]
  (repeat' split) <;> first | rfl | (exfalso; omega)
theorem t_houseCount (hd : 1 ≤ d) (hK : pm_sl g k) : pm_c X d 29 [.ref k] g iv = some (some (.int (iv k 2)), g, iv) := by
  obtain ⟨d, rfl, -⟩ := pm_d1 hd
  simp only [e29, b29_0, hK]
theorem t_laneCount (hd : 1 ≤ d) (hK : pm_sl g k) : pm_c X d 27 [.ref k] g iv = some (some (.int (iv k 0)), g, iv) := by
  obtain ⟨d, rfl, -⟩ := pm_d1 hd
  simp only [e27, b27_0, hK]
theorem t_yardCount (hd : 1 ≤ d) (hK : pm_sl g k) : pm_c X d 28 [.ref k] g iv = some (some (.int (iv k 1)), g, iv) := by
  obtain ⟨d, rfl, -⟩ := pm_d1 hd
  simp only [e28, b28_0, hK]
theorem t_wintersGone (hd : 1 ≤ d) (hK : pm_sl g k) : pm_c X d 30 [.ref k] g iv = some (some (.int (iv k 3)), g, iv) := by
  obtain ⟨d, rfl, -⟩ := pm_d1 hd
  simp only [e30, b30_0, hK]
theorem t_kindOf (hd : 2 ≤ d) (hK : pm_sl g k) (hv : SV iv k v) (ho : Hok v) {h : Nat} (hh : h < vN v) : pm_c X d 36 [.ref k, .int (nI h)] g iv = some (some (.int (nI (vK v h))), g, iv) := by
  obtain ⟨d, rfl, hd1⟩ := pm_d1 hd
  have h6 := ho.2.2.1
  have hin : vp_in (nI h) 6 := vp_n (by omega) (by decide)
  have h1 : ¬ (1 : Int32) = 0 := by decide
  simp only [e36, b36_0 hK, t_isHouse hd1 hK hv ho, pm_then_i, if_pos (ip_n hh (show vN v < 2147483648 by omega)), b36_5, b36_8, b36_17, b36_18, hK, hin, nI_c (show h < 2147483648 by omega), (hv.2.2.2.2.2.2 h hh).1, h1, if_false]
theorem t_heavyOf (hd : 2 ≤ d) (hK : pm_sl g k) (hv : SV iv k v) (ho : Hok v) {h : Nat} (hh : h < vN v) : pm_c X d 37 [.ref k, .int (nI h)] g iv = some (some (.int (nI (vH v h))), g, iv) := by
  obtain ⟨d, rfl, hd1⟩ := pm_d1 hd
  have h6 := ho.2.2.1
  have hin : vp_in (nI h) 6 := vp_n (by omega) (by decide)
  have h1 : ¬ (1 : Int32) = 0 := by decide
  simp only [e37, b37_0 hK, t_isHouse hd1 hK hv ho, pm_then_i, if_pos (ip_n hh (show vN v < 2147483648 by omega)), b37_5, b37_8, b37_17, b37_18, hK, hin, nI_c (show h < 2147483648 by omega), (hv.2.2.2.2.2.2 h hh).2.1, h1, if_false]
theorem t_laneOf (hd : 2 ≤ d) (hK : pm_sl g k) (hv : SV iv k v) (ho : Hok v) {h : Nat} (hh : h < vN v) : pm_c X d 38 [.ref k, .int (nI h)] g iv = some (some (.int (nI (vl v h))), g, iv) := by
  obtain ⟨d, rfl, hd1⟩ := pm_d1 hd
  have h6 := ho.2.2.1
  have hin : vp_in (nI h) 6 := vp_n (by omega) (by decide)
  have h1 : ¬ (1 : Int32) = 0 := by decide
  simp only [e38, b38_0 hK, t_isHouse hd1 hK hv ho, pm_then_i, if_pos (ip_n hh (show vN v < 2147483648 by omega)), b38_5, b38_8, b38_17, b38_19, hK, hin, nI_c (show h < 2147483648 by omega), (hv.2.2.2.2.2.2 h hh).2.2.1, h1, if_false]
theorem t_yardOf (hd : 2 ≤ d) (hK : pm_sl g k) (hv : SV iv k v) (ho : Hok v) {h : Nat} (hh : h < vN v) : pm_c X d 39 [.ref k, .int (nI h)] g iv = some (some (.int (nI (vy v h))), g, iv) := by
  obtain ⟨d, rfl, hd1⟩ := pm_d1 hd
  have h6 := ho.2.2.1
  have hin : vp_in (nI h) 6 := vp_n (by omega) (by decide)
  have h1 : ¬ (1 : Int32) = 0 := by decide
  simp only [e39, b39_0 hK, t_isHouse hd1 hK hv ho, pm_then_i, if_pos (ip_n hh (show vN v < 2147483648 by omega)), b39_5, b39_8, b39_17, b39_19, hK, hin, nI_c (show h < 2147483648 by omega), (hv.2.2.2.2.2.2 h hh).2.2.2.1, h1, if_false]
theorem t_lentOf (hd : 2 ≤ d) (hK : pm_sl g k) (hv : SV iv k v) (ho : Hok v) {h : Nat} (hh : h < vN v) : pm_c X d 40 [.ref k, .int (nI h)] g iv = some (some (.int (vt v h)), g, iv) := by
  obtain ⟨d, rfl, hd1⟩ := pm_d1 hd
  have h6 := ho.2.2.1
  have hin : vp_in (nI h) 6 := vp_n (by omega) (by decide)
  have h1 : ¬ (1 : Int32) = 0 := by decide
  simp only [e40, b40_0 hK, t_isHouse hd1 hK hv ho, pm_then_i, if_pos (ip_n hh (show vN v < 2147483648 by omega)), b40_5, b40_8, b40_17, b40_18, hK, hin, nI_c (show h < 2147483648 by omega), (hv.2.2.2.2.2.2 h hh).2.2.2.2, h1, if_false]
theorem t_isChocked (hd : 2 ≤ d) (hK : pm_sl g k) (hv : SV iv k v) (ho : Hok v) {h : Nat} (hh : h < vN v) : pm_c X d 41 [.ref k, .int (nI h)] g iv = some (some (.int (if vC v h = true then 1 else 0)), g, iv) := by
  obtain ⟨d, rfl, hd1⟩ := pm_d1 hd
  have h6 := ho.2.2.1
  have h1 : ¬ (1 : Int32) = 0 := by decide
  simp only [e41, b41_0 hK, t_isHouse hd1 hK hv ho, pm_then_i, if_pos (ip_n hh (show vN v < 2147483648 by omega)), b41_5, b41_8, b41_20, b41_24, b41_25, hK, h1, if_false]
  rw [b_tst (show h < 32 by omega), hv.2.2.2.2.1 h (by omega), decide_eq_true hh, Bool.true_and]
  by_cases hc : vC v h = true
  · simp only [hc, bz_0, bz_n, bz_1, pm_zr0, pm_zr1, pm_zrI, if_true, if_false, not_true, not_false_eq_true, Bool.false_eq_true, true_and, and_true, false_and, and_false, z10, z01, zz0, eq_self]
  · simp only [hc, bz_0, bz_n, bz_1, pm_zr0, pm_zr1, pm_zrI, if_true, if_false, not_true, not_false_eq_true, Bool.false_eq_true, true_and, and_true, false_and, and_false, z10, z01, zz0, eq_self]
theorem t_isAtStream (hd : 2 ≤ d) (hK : pm_sl g k) (hv : SV iv k v) (ho : Hok v) {h : Nat} (hh : h < vN v) : pm_c X d 43 [.ref k, .int (nI h)] g iv = some (some (.int (if vy v h + 1 = vD v then 1 else 0)), g, iv) := by
  obtain ⟨d, rfl, hd1⟩ := pm_d1 hd
  have h6 := ho.2.2.1
  have hy := (ho.2.2.2.2.2 h hh).2.1
  have hD := ho.2.1
  have hin : vp_in (nI h) 6 := vp_n (by omega) (by decide)
  have h1 : ¬ (1 : Int32) = 0 := by decide
  have hs : nI (vD v) - 1 = nI (vD v - 1) := pk_sub (a := vD v) (b := 1) (by omega)
  have he : (¬ nI (vy v h) = nI (vD v - 1)) ↔ ¬ vy v h + 1 = vD v := by rw [nI_eq (by omega) (by omega)]; omega
  simp only [e43, b43_0 hK, t_isHouse hd1 hK hv ho, pm_then_i, if_pos (ip_n hh (show vN v < 2147483648 by omega)), b43_5, b43_8, b43_23, b43_27, b43_28, hK, hin, nI_c (show h < 2147483648 by omega), (hv.2.2.2.2.2.2 h hh).2.2.2.1, hv.2.1, hs, he, h1, if_false, pm_zr0, pm_zr1]
  by_cases q : vy v h + 1 = vD v
  · simp only [q, if_true, if_false, not_true]
  · simp only [q, if_true, if_false, not_false_eq_true]
theorem t_areChocked (hd : 1 ≤ d) (hK : pm_sl g k) : pm_c X d 42 [.ref k, .int x] g iv = some (some (.int (if x &&& (iv k 4 ^^^ (-1)) = 0 then 1 else 0)), g, iv) := by
  obtain ⟨d, rfl, hd1⟩ := pm_d1 hd
  simp only [e42, b42_0, b42_11, b42_15, b42_16, hK, pm_zr0, pm_zr1]
  by_cases q : x &&& (iv k 4 ^^^ (-1)) = 0
  · simp only [q, if_true, if_false, not_true]
  · simp only [q, if_true, if_false, not_false_eq_true]
theorem t_isStone (hd : 2 ≤ d) (hK : pm_sl g k) (hv : SV iv k v) (ho : Hok v) : pm_c X d 44 [.ref k, .int x, .int y] g iv = some (some (.int (if ip x (vL v) = true ∧ ip y (vD v) = true ∧ vS v x.toNatClampNeg y.toNatClampNeg = true then 1 else 0)), g, iv) := by
  obtain ⟨d, rfl, hd1⟩ := pm_d1 hd
  have hL := ho.1
  have hD := ho.2.1
  simp only [e44, b44_0 hK, t_isLane hd1 hK hv ho, pm_then_i, b44_5, bz_0, bz_n, bz_1, pm_zr0, pm_zr1, pm_zrI, if_true, if_false, not_true, not_false_eq_true, Bool.false_eq_true, true_and, and_true, false_and, and_false, z10, z01, zz0, eq_self]
  by_cases hx : ip x (vL v) = true
  · obtain ⟨l, hl, rfl⟩ := ip_ex hx (by omega)
    simp only [hx, bz_0, bz_n, bz_1, pm_zr0, pm_zr1, pm_zrI, if_true, if_false, not_true, not_false_eq_true, Bool.false_eq_true, true_and, and_true, false_and, and_false, z10, z01, zz0, eq_self, b44_8, b44_13, b44_16, b44_30, b44_34, b44_35, hK, t_isYard hd1 hK hv ho, pm_then_i]
    by_cases hy : ip y (vD v) = true
    · obtain ⟨j, hj, rfl⟩ := ip_ex hy (by omega)
      have hin : vp_in (nI l) 4 := vp_n (by omega) (by decide)
      simp only [hy, hin, bz_0, bz_n, bz_1, pm_zr0, pm_zr1, pm_zrI, if_true, if_false, not_true, not_false_eq_true, Bool.false_eq_true, true_and, and_true, false_and, and_false, z10, z01, zz0, eq_self, b44_8, b44_13, b44_16, b44_30, b44_34, b44_35, hK, nI_c (show l < 2147483648 by omega), nI_c (show j < 2147483648 by omega), b_tst (show j < 32 by omega), hv.2.2.2.2.2.1 l (by omega) j (by omega)]
      by_cases hs : vS v l j = true <;> simp only [hs, bz_0, bz_n, bz_1, pm_zr0, pm_zr1, pm_zrI, if_true, if_false, not_true, not_false_eq_true, Bool.false_eq_true, true_and, and_true, false_and, and_false, z10, z01, zz0, eq_self]
    · simp only [hy, bz_0, bz_n, bz_1, pm_zr0, pm_zr1, pm_zrI, if_true, if_false, not_true, not_false_eq_true, Bool.false_eq_true, true_and, and_true, false_and, and_false, z10, z01, zz0, eq_self]
  · simp only [hx, bz_0, bz_n, bz_1, pm_zr0, pm_zr1, pm_zrI, if_true, if_false, not_true, not_false_eq_true, Bool.false_eq_true, true_and, and_true, false_and, and_false, z10, z01, zz0, eq_self, b44_8, b44_13, b44_16, b44_30, b44_34, b44_35]
end S1
