/-! beside, alone -/
def bes (v : HV) (pl : Nat → Nat) (a b : Nat) : Bool := decide (pl a = pl b) && (decide (vl v a = vl v b + 1) || decide (vl v b = vl v a + 1))
theorem nI_subI {a b : Nat} (ha : a < 1000000) (hb : b < 1000000) : (nI a - nI b).toInt = (a : Int) - b := pk_sub_toInt (by omega) (by omega)
section S10
variable {X : pm_X} {d k : Nat} {g : pm_G} {iv : pm_V} {v : HV}
theorem t_areBeside (hd : 3 ≤ d) (hK : pm_sl g k) (hv : SV iv k v) (ho : Hok v) {a b : Nat} (ha : a < vN v) (hb : b < vN v) : pm_c X d 48 [.ref k, .int (nI a), .int (nI b)] g iv = some (some (.int (if bes v (vy v) a b = true then 1 else 0)), g, iv) := by
  obtain ⟨d, rfl, hd1⟩ := pm_d1 hd
  have hL := ho.1
  have hD := ho.2.1
  have oa := ho.2.2.2.2.2 a ha
  have ob := ho.2.2.2.2.2 b hb
  have ey := nI_eq (a := vy v a) (b := vy v b) (by omega) (by omega)
  have es := nI_subI (a := vl v a) (b := vl v b) (by omega) (by omega)
  have en : (0 - (nI (vl v a) - nI (vl v b))).toInt = (vl v b : Int) - vl v a := by
    rw [show (0 : Int32) - (nI (vl v a) - nI (vl v b)) = nI (vl v b) - nI (vl v a) by rw [Int32.zero_sub, Int32.neg_sub]]
    exact nI_subI (by omega) (by omega)
  simp only [e48]
  rw [b48_0 hK, t_yardOf hd1 hK hv ho ha, pm_then_i, b48_5 hK, t_yardOf hd1 hK hv ho hb, pm_then_i, b48_10]
  by_cases q : vy v a = vy v b
  · rw [if_neg (not_not_intro (ey.mpr q)), b48_13 hK, t_laneOf hd1 hK hv ho ha, pm_then_i, b48_18 hK, t_laneOf hd1 hK hv ho hb, pm_then_i, b48_23]
    have ab : ((if 0 ≤ (nI (vl v a) - nI (vl v b)) then (nI (vl v a) - nI (vl v b)) else 0 - (nI (vl v a) - nI (vl v b))) = 1) ↔ (vl v a = vl v b + 1 ∨ vl v b = vl v a + 1) := by
      by_cases c : (0 : Int32) ≤ nI (vl v a) - nI (vl v b)
      · rw [if_pos c]
        rw [le_i, es, toI0] at c
        rw [eq_i, es, toI1]
        omega
      · rw [if_neg c]
        rw [le_i, es, toI0] at c
        rw [eq_i, en, toI1]
        omega
    by_cases c : vl v a = vl v b + 1 ∨ vl v b = vl v a + 1
    · rw [if_neg (not_not_intro (ab.mpr c)), b48_31, b48_36, pm_zr1, if_pos (by unfold bes; simp [q, c])]
    · rw [if_pos (fun x => c (ab.mp x)), b48_35, b48_36, pm_zr0, if_neg (by unfold bes; simp; omega)]
  · rw [if_pos (fun x => q (ey.mp x)), b48_35, b48_36, pm_zr0, if_neg (by unfold bes; simp [q])]
end S10
