/-! the view down a lane -/
theorem fndI_none {v : HV} (ho : Hok v) {l y : Nat} (hl : l < vL v) (hy : y < vD v) : fndI v (nI l) (nI y) = -2 ↔ (¬ vS v l y = true ∧ ¬ hsAt v (vy v) l y = true) := by
  have hL := ho.1
  have hD := ho.2.1
  have hN := ho.2.2.1
  unfold fndI hsAt
  rw [ip_n hl (by omega), ip_n hy (by omega), nI_c (by omega), nI_c (by omega)]
  by_cases hs : vS v l y = true
  · rw [if_pos ⟨rfl, rfl, hs⟩]
    exact ⟨fun h => absurd h (by decide), fun h => absurd hs h.1⟩
  · rw [if_neg (fun q => hs q.2.2)]
    by_cases ha : atF (vl v) (vy v) (vN v) (nI l) (nI y) < vN v
    · rw [if_pos ha]
      refine ⟨fun h => ?_, fun h => absurd (decide_eq_true ha) h.2⟩
      have e : (nI (atF (vl v) (vy v) (vN v) (nI l) (nI y))).toInt = ((-2 : Int32)).toInt := by rw [h]
      rw [nI_t (by omega), toIm2] at e
      omega
    · rw [if_neg ha]
      exact ⟨fun _ => ⟨hs, by rw [decide_eq_true_eq]; exact ha⟩, fun _ => rfl⟩
theorem fndI_stone {v : HV} (ho : Hok v) {l y : Nat} (hl : l < vL v) (hy : y < vD v) : fndI v (nI l) (nI y) = -1 ↔ vS v l y = true := by
  have hL := ho.1
  have hD := ho.2.1
  have hN := ho.2.2.1
  unfold fndI
  rw [ip_n hl (by omega), ip_n hy (by omega), nI_c (by omega), nI_c (by omega)]
  by_cases hs : vS v l y = true
  · rw [if_pos ⟨rfl, rfl, hs⟩]
    exact ⟨fun _ => hs, fun _ => rfl⟩
  · rw [if_neg (fun q => hs q.2.2)]
    refine ⟨fun h => ?_, fun h => absurd h hs⟩
    by_cases ha : atF (vl v) (vy v) (vN v) (nI l) (nI y) < vN v
    · rw [if_pos ha] at h
      have e : (nI (atF (vl v) (vy v) (vN v) (nI l) (nI y))).toInt = ((-1 : Int32)).toInt := by rw [h]
      rw [nI_t (by omega), toIm1] at e
      omega
    · rw [if_neg ha] at h
      exact absurd h (by decide)
/-- how many yards are seen from yard y on -/
def vwF (v : HV) (l : Nat) : Nat → Nat → Nat
  | 0, _ => 0
  | m + 1, y => if ¬ vS v l y = true ∧ ¬ hsAt v (vy v) l y = true then vwF v l m (y + 1) + 1 else 0
def vwN (v : HV) (h : Nat) : Nat := vwF v (vl v h) (vD v - (vy v h + 1)) (vy v h + 1)
section S36
variable {X : pm_X} {d k : Nat} {g : pm_G} {iv : pm_V} {x y : Int32} {v : HV}
theorem t_viewOf_loop (hd : 3 ≤ d) (hK : pm_sl g k) (hv : SV iv k v) (ho : Hok v) {l : Nat} (hl : l < vL v) : ∀ m y s, y + m = vD v → pm_at X d 46 (17, [some (.ref k), some (.int x), some (.int (nI l)), some (.int (nI s)), some (.int (nI y))], [], g, iv) = some (some (.int (nI (s + vwF v l m y))), g, iv) := by
  have hD := ho.2.1
  intro m
  induction m with
  | zero =>
    intro y s hy
    have e : y = vD v := by omega
    subst e
    simp only [b46_17 hK, hv.2.1, Int32.le_refl, if_true, b46_50, vwF, Nat.add_zero]
  | succ m ih =>
    intro y s hy
    have hlt : y < vD v := by omega
    have h1 : ¬ nI (vD v) ≤ nI y := nI_ge hlt (by omega)
    rw [b46_17 hK]
    simp only [hv.2.1, h1, bz_0, bz_n, bz_1, pm_zr0, pm_zr1, pm_zrI, if_true, if_false, not_true, not_false_eq_true, Bool.false_eq_true, true_and, and_true, false_and, and_false, z10, z01, zz0, eq_self, b46_26 hK, t_findAt hd hK hv ho, pm_then_i, pm_then_l, pm_then_v, b46_33, fndI_none ho hl hlt, vwF]
    by_cases q : ¬ vS v l y = true ∧ ¬ hsAt v (vy v) l y = true
    · rw [if_pos q, if_pos q, b46_41, nI_1, nI_1, ih (y + 1) (s + 1) (by omega)]
      rw [show s + 1 + vwF v l m (y + 1) = s + (vwF v l m (y + 1) + 1) from by omega]
    · rw [if_neg q, if_neg q, b46_38, b46_50, Nat.add_zero]
theorem t_viewOf (hd : 4 ≤ d) (hK : pm_sl g k) (hv : SV iv k v) (ho : Hok v) {h : Nat} (hh : h < vN v) : pm_c X d 46 [.ref k, .int (nI h)] g iv = some (some (.int (nI (vwN v h))), g, iv) := by
  obtain ⟨d, rfl, hd1⟩ := pm_d1 hd
  have ha := ho.2.2.2.2.2 h hh
  have hl := t_viewOf_loop (X := X) (x := nI h) hd1 hK hv ho ha.1 (vD v - (vy v h + 1)) (vy v h + 1) 0 (by omega)
  rw [nI_0, Nat.zero_add] at hl
  simp only [e46, b46_0 hK, t_laneOf (show 2 ≤ d by omega) hK hv ho hh, pm_then_i, pm_then_l, pm_then_v, b46_5 hK, t_yardOf (show 2 ≤ d by omega) hK hv ho hh, b46_13, nI_1, hl, vwN]
theorem m_viewOf_loop (hd : 2 ≤ d) (hL : pm_lay g) (hv : HAr (iv 36) v) (ho : Hok v) (hp : PL iv 40 (vN v) (vy v)) {h : Nat} (hh : h < vN v) : ∀ m y s, y + m = vD v → pm_at X d 174 (15, [some (.ref 32), some (.int (nI h)), some (.int (nI s)), some (.int (nI y))], [], g, iv) = some (some (.int (nI (s + vwF v (vl v h) m y))), g, iv) := by
  have hD := ho.2.1
  have hN := ho.2.2.1
  have ha := ho.2.2.2.2.2 h hh
  have hl4 := ho.1
  intro m
  induction m with
  | zero =>
    intro y s hy
    have e : y = vD v := by omega
    subst e
    simp only [b174_15 hL, hv.2.1, Int32.le_refl, if_true, b174_64, vwF, Nat.add_zero]
  | succ m ih =>
    intro y s hy
    have hlt : y < vD v := by omega
    have h1 : ¬ nI (vD v) ≤ nI y := nI_ge hlt (by omega)
    rw [b174_15 hL]
    simp only [hv.2.1, h1, bz_0, bz_n, bz_1, pm_zr0, pm_zr1, pm_zrI, if_true, if_false, not_true, not_false_eq_true, Bool.false_eq_true, true_and, and_true, false_and, and_false, z10, z01, zz0, eq_self, b174_25 hL, m_ofl (show 1 ≤ d by omega) hL hv ho hh, pm_then_i, pm_then_l, pm_then_v, b174_32 hL, m_isStone (show 1 ≤ d by omega) hL hv (show vl v h < 4 by omega) (show y < 32 by omega), b174_36, b174_39 hL, b174_46 hL, m_houseAt hd hL hv ho hp, b174_50, vwF]
    by_cases q1 : vS v (vl v h) y = true
    · simp only [q1, bz_0, bz_n, bz_1, pm_zr0, pm_zr1, pm_zrI, if_true, if_false, not_true, not_false_eq_true, Bool.false_eq_true, true_and, and_true, false_and, and_false, z10, z01, zz0, eq_self, b174_64, Nat.add_zero]
    · by_cases q2 : atF (vl v) (vy v) (vN v) (nI (vl v h)) (nI y) < vN v
      · have q3 : hsAt v (vy v) (vl v h) y = true := decide_eq_true q2
        have ne : ¬ nI (atF (vl v) (vy v) (vN v) (nI (vl v h)) (nI y)) = -1000000 := fun e => by
          have e := congrArg Int32.toInt e
          rw [nI_t (by omega)] at e
          exact absurd e (by show ¬ _ = (-1000000 : Int); omega)
        simp only [q1, q2, q3, ne, bz_0, bz_n, bz_1, pm_zr0, pm_zr1, pm_zrI, if_true, if_false, not_true, not_false_eq_true, Bool.false_eq_true, true_and, and_true, false_and, and_false, z10, z01, zz0, eq_self, b174_64, Nat.add_zero]
      · have q3 : ¬ hsAt v (vy v) (vl v h) y = true := by rw [hsAt, decide_eq_true_eq]; exact q2
        simp only [q1, q2, q3, bz_0, bz_n, bz_1, pm_zr0, pm_zr1, pm_zrI, if_true, if_false, not_true, not_false_eq_true, Bool.false_eq_true, true_and, and_true, false_and, and_false, z10, z01, zz0, eq_self, b174_55, nI_1]
        rw [ih (y + 1) (s + 1) (by omega), show s + 1 + vwF v (vl v h) m (y + 1) = s + (vwF v (vl v h) m (y + 1) + 1) from by omega]
theorem m_viewOf (hd : 3 ≤ d) (hL : pm_lay g) (hv : HAr (iv 36) v) (ho : Hok v) {h : Nat} (hh : h < vN v) : ∃ iv', pm_c X d 174 [.ref 32, .int (nI h)] g iv = some (some (.int (nI (vwN v h))), g, iv') ∧ chg [40, 41] iv iv' := by
  obtain ⟨d, rfl, hd1⟩ := pm_d1 hd
  have ha := ho.2.2.2.2.2 h hh
  obtain ⟨iv', e1, e2, e3, e4⟩ := m_layNow (X := X) hd1 hL hv ho
  have hv' : HAr (iv' 36) v := by rw [e2 36 (by decide)]; exact hv
  have hl := m_viewOf_loop (X := X) hd1 hL hv' ho e3 hh (vD v - (vy v h + 1)) (vy v h + 1) 0 (by omega)
  rw [nI_0, Nat.zero_add] at hl
  refine ⟨iv', ?_, e2⟩
  simp only [e174, b174_0 hL, e1, pm_then_i, pm_then_l, pm_then_v, b174_4 hL, m_ofy (show 1 ≤ d by omega) hL hv' ho hh, b174_12, nI_1, hl, vwN]
end S36
