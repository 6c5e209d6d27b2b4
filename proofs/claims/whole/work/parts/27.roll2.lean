/-! the class rolls a house -/
theorem SV_wy {iv iv' : pm_V} {k : Nat} {v : HV} {pl : Nat → Nat} (hv : SV iv k v) (h0 : iv' k = iv k) (h1 : iv' (k + 1) = iv (k + 1)) (h2 : iv' (k + 2) = iv (k + 2)) (h3 : iv' (k + 3) = iv (k + 3)) (h4 : iv' (k + 4) = iv (k + 4)) (h6 : iv' (k + 6) = iv (k + 6)) (hp : ∀ h, h < vN v → iv' (k + 5) h = nI (pl h)) : SV iv' k (wy v pl) := by
  unfold SV
  rw [h0, h1, h2, h3, h4, h6]
  refine ⟨hv.1, hv.2.1, hv.2.2.1, hv.2.2.2.1, hv.2.2.2.2.1, hv.2.2.2.2.2.1, fun h hh => ?_⟩
  have q := hv.2.2.2.2.2.2 h hh
  exact ⟨q.1, q.2.1, q.2.2.1, hp h hh, q.2.2.2.2⟩
section S3
variable {X : pm_X} {d k : Nat} {g : pm_G} {iv : pm_V} {x y x3 x4 x5 : Int32} {v : HV} {z6 : Option Value}
theorem t_step (hd : 1 ≤ d) (hK : pm_sl g k) (hv : SV iv k v) (ho : Hok v) (ht : TK iv k v (vy v)) (hs : Dst v (vy v)) {h : Nat} (hh : h < vN v) : ∃ iv', pm_at X d 65 (52, [some (.ref k), some (.int (nI h)), some (.int (nI (vl v h))), some (.int x3), some (.int x4), some (.int x5), z6], [], g, iv) = pm_at X d 65 (113, [some (.ref k), some (.int (nI h)), some (.int (nI (vl v h))), some (.int x3), some (.int (if rl1 v (vy v) h h = vy v h then x4 else 1)), some (.int x5), some (.int (nI (vy v h)))], [], g, iv') ∧ chg [k + 5, k + 9] iv iv' ∧ SV iv' k (wy v (rl1 v (vy v) h)) ∧ TK iv' k v (rl1 v (vy v) h) := by
  have hN := ho.2.2.1
  have hD := ho.2.1
  have hL := ho.1
  have hl := (ho.2.2.2.2.2 h hh).1
  have hy := (ho.2.2.2.2.2 h hh).2.1
  have hp : Pok v (vy v) := fun q hq => (ho.2.2.2.2.2 q hq).2.1
  have hin : vp_in (nI h) 6 := vp_n (by omega) (by decide)
  have hin2 : vp_in (nI (vl v h)) 4 := vp_n (by omega) (by decide)
  have hc := nI_c (show h < 2147483648 by omega)
  have hc2 := nI_c (show vl v h < 2147483648 by omega)
  have hvy := (hv.2.2.2.2.2.2 h hh).2.2.2.1
  have same : SV iv k (wy v (vy v)) := hv
  have yd := t_isYard (X := X) (x := nI (vy v h + 1)) hd hK hv ho
  have stay : ¬ fr v (vy v) h → rl1 v (vy v) h = vy v := rl1_n
  by_cases q1 : vy v h + 1 < vD v
  · have tk := ht (vl v h) (by omega) (vy v h + 1) (by omega)
    by_cases q : fr v (vy v) h
    · have e1 := rl1_y q
      have b0 : bt (iv (k + 9) (vl v h)) (vy v h + 1) = false := by
        rw [tk]
        have a1 := q.2.1
        have a2 := q.2.2
        simp [a1, a2]
      have ne : ¬ rl1 v (vy v) h h = vy v h := by rw [e1, np_s]; omega
      refine ⟨pm_iw (pm_iw iv (k + 9) (vl v h) (iv (k + 9) (vl v h) ^^^ (3 <<< (nI (vy v h) &&& 31)))) (k + 5) h (nI (vy v h + 1)), ?_, chg_tr (chg_iw (by simp)) (chg_iw (by simp)), ?_, ?_⟩
      rotate_left
      · refine SV_wy hv ?_ ?_ ?_ ?_ ?_ ?_ ?_
        · rw [iw_n (by omega), iw_n (by omega)]
        · rw [iw_n (by omega), iw_n (by omega)]
        · rw [iw_n (by omega), iw_n (by omega)]
        · rw [iw_n (by omega), iw_n (by omega)]
        · rw [iw_n (by omega), iw_n (by omega)]
        · rw [iw_n (by omega), iw_n (by omega)]
        · intro j hj
          rw [iw_s, iw_n (by omega), e1]
          by_cases e : j = h
          · rw [e, upd_s, np_s]
          · rw [upd_n e, np_n e]; exact (hv.2.2.2.2.2.2 j hj).2.2.2.1
      · intro l hl4 i hi
        rw [iw_n (by omega), iw_s, e1, hsAt_np ho hp hh hs q hl4 hi]
        by_cases e : l = vl v h
        · subst e
          rw [upd_s, b_xor, b_two (by omega) hi, ht _ hl4 i hi, if_pos rfl]
          by_cases e2 : i = vy v h
          · subst e2
            have a1 := hs.2 h hh
            have a2 := (hsAt_iff (l := vl v h) (y := vy v h) ho hp (by omega) (by omega)).mpr ⟨h, hh, rfl, rfl⟩
            simp [a1, a2]
          · by_cases e3 : i = vy v h + 1
            · subst e3
              have a1 := q.2.1
              have a2 := q.2.2
              simp [a1, a2]
            · rw [if_neg e2, if_neg e3, decide_eq_false (by omega), Bool.xor_false]
        · rw [upd_n e, if_neg e]
          exact ht l hl4 i hi
      · rw [if_neg ne, b65_52 hK hin, hc, hvy, nI_1, yd, if_pos (ip_n q1 (by omega)), pm_then_i, b65_68, if_neg (by decide), b65_71 hK hin2, hc2, nI_1, b_tst (by omega), b0, if_neg (by decide), b65_87 hK hin2 hin, hc, hc2, nI_1]
    · have b1 : bt (iv (k + 9) (vl v h)) (vy v h + 1) = true := by
        rw [tk]
        by_cases a1 : vS v (vl v h) (vy v h + 1) = true
        · simp [a1]
        · by_cases a2 : hsAt v (vy v) (vl v h) (vy v h + 1) = true
          · simp [a2]
          · exact absurd ⟨q1, a1, a2⟩ q
      have e1 := rl1_n q
      refine ⟨iv, ?_, chg_rf, by rw [e1]; exact same, by rw [e1]; exact ht⟩
      rw [b65_52 hK hin, hc, hvy, nI_1, yd, if_pos (ip_n q1 (by omega)), pm_then_i, b65_68, if_neg (by decide), b65_71 hK hin2, hc2, nI_1, b_tst (by omega), b1, if_pos rfl, if_pos (by decide), e1, if_pos rfl]
  · have q : ¬ fr v (vy v) h := fun a => q1 a.1
    have e1 := rl1_n q
    refine ⟨iv, ?_, chg_rf, by rw [e1]; exact same, by rw [e1]; exact ht⟩
    have nq : ¬ ip (nI (vy v h + 1)) (vD v) = true := fun a => q1 (by have := of_decide_eq_true a; rw [nI_t (by omega)] at this; omega)
    rw [b65_52 hK hin, hc, hvy, nI_1, yd, if_neg nq, pm_then_i, b65_68, if_pos rfl, e1, if_pos rfl]
theorem rl1_le {pl : Nat → Nat} {h : Nat} : pl h ≤ rl1 v pl h h := by
  by_cases q : fr v pl h
  · rw [rl1_y q, np_s]; omega
  · rw [rl1_n q]; exact Nat.le_refl _
/-- where a house that may roll goes -/
def go2 (v : HV) (pl : Nat → Nat) (h : Nat) : Nat → Nat := if vK v h = 3 then rl1 v (rl1 v pl h) h else rl1 v pl h
theorem Dst_go2 {pl : Nat → Nat} {h : Nat} (ho : Hok v) (hp : Pok v pl) (hh : h < vN v) (hd : Dst v pl) : Dst v (go2 v pl h) := by
  unfold go2
  split
  · exact Dst_rl1 ho (Pok_rl1 h hp) hh (Dst_rl1 ho hp hh hd)
  · exact Dst_rl1 ho hp hh hd
theorem t_roll (hd : 3 ≤ d) (hK : pm_sl g k) (hv : SV iv k v) (ho : Hok v) (ht : TK iv k v (vy v)) (hs : Dst v (vy v)) {h : Nat} (hh : h < vN v) : ∃ iv', pm_c X d 65 [.ref k, .int (nI h)] g iv = some (some (.int (if go2 v (vy v) h h = vy v h then 0 else 1)), g, iv') ∧ chg [k + 5, k + 9] iv iv' ∧ SV iv' k (wy v (go2 v (vy v) h)) ∧ TK iv' k v (go2 v (vy v) h) := by
  obtain ⟨d, rfl, hd1⟩ := pm_d1 hd
  have hN := ho.2.2.1
  have h6 := (ho.2.2.2.2.2 h hh).2.2.1
  have hin : vp_in (nI h) 6 := vp_n (by omega) (by decide)
  have hp : Pok v (vy v) := fun q hq => (ho.2.2.2.2.2 q hq).2.1
  have e3 : (nI (vK v h) = 3) ↔ vK v h = 3 := nI_eq (b := 3) (by omega) (by omega)
  have f1 := hv.2.2.2.2.2.2 h hh
  simp only [e65]
  have hl := (ho.2.2.2.2.2 h hh).1
  have hL := ho.1
  rw [b65_0 hK, t_laneOf hd1 hK hv ho hh, pm_then_i, b65_5 hK, t_isHouse (by omega) hK hv ho, if_pos (ip_n hh (by omega)), pm_then_i, b65_11, if_neg (by decide), b65_14 hK, t_isLane (by omega) hK hv ho, if_pos (ip_n hl (by omega)), pm_then_i, b65_19, if_pos (by decide), b65_24 hK hin, nI_c (show h < 2147483648 by omega), f1.1]
  by_cases e : vK v h = 3
  · have eg : go2 v (vy v) h = rl1 v (rl1 v (vy v) h) h := if_pos e
    obtain ⟨iv1, c1, g1, s1, t1⟩ := t_step (X := X) (d := d) (x3 := 2) (x4 := 0) (x5 := 0) (z6 := none) (by omega) hK hv ho ht hs hh
    have ho1 : Hok (wy v (rl1 v (vy v) h)) := Hok_wy ho (Pok_rl1 h hp)
    have hs0 : Dst v (rl1 v (vy v) h) := Dst_rl1 ho hp hh hs
    have hs1 : Dst (wy v (rl1 v (vy v) h)) (vy (wy v (rl1 v (vy v) h))) := hs0
    have t1' : TK iv1 k (wy v (rl1 v (vy v) h)) (vy (wy v (rl1 v (vy v) h))) := t1
    obtain ⟨iv2, c2, g2, s2, t2⟩ := t_step (X := X) (d := d) (x3 := 2) (x4 := if rl1 v (vy v) h h = vy v h then 0 else 1) (x5 := 1) (z6 := some (.int (nI (vy v h)))) (by omega) hK s1 ho1 t1' hs1 hh
    refine ⟨iv2, ?_, chg_tr g1 g2, ?_, ?_⟩
    · rw [if_neg (not_not_intro (e3.mpr e)), b65_34, b65_39, b65_46, if_neg (by decide), c1, b65_113, b65_46, if_neg (by decide), show (0 : Int32) + 1 = 1 from rfl]
      refine Eq.trans c2 ?_
      rw [b65_113, b65_46, if_pos (by decide), b65_119, eg]
      have key : ∀ E : Int32, E = (if rl1 v (rl1 v (vy v) h) h h = vy v h then 0 else 1) → pm_zr E (some (some (.int E), g, iv2)) = some (some (.int (if rl1 v (rl1 v (vy v) h) h h = vy v h then 0 else 1)), g, iv2) := by
        intro E e
        rw [e]
        split
        · rw [pm_zr0]
        · rw [pm_zr1]
      refine key _ ?_
      show (if rl1 v (rl1 v (vy v) h) h h = rl1 v (vy v) h h then (if rl1 v (vy v) h h = vy v h then (0 : Int32) else 1) else 1) = _
      have a1 : vy v h ≤ rl1 v (vy v) h h := rl1_le
      have a2 : rl1 v (vy v) h h ≤ rl1 v (rl1 v (vy v) h) h h := rl1_le
      (repeat' split) <;> first | rfl | (exfalso; omega)
    · rw [eg]; exact s2
    · rw [eg]; exact t2
  · have eg : go2 v (vy v) h = rl1 v (vy v) h := if_neg e
    obtain ⟨iv1, c1, g1, s1, t1⟩ := t_step (X := X) (d := d) (x3 := 1) (x4 := 0) (x5 := 0) (z6 := none) (by omega) hK hv ho ht hs hh
    refine ⟨iv1, ?_, g1, by rw [eg]; exact s1, by rw [eg]; exact t1⟩
    rw [if_pos (fun a => e (e3.mp a)), b65_38, b65_39, b65_46, if_neg (by decide), c1, b65_113, b65_46, if_pos (by decide), b65_119, eg]
    by_cases b1 : rl1 v (vy v) h h = vy v h
    · simp only [if_pos b1, pm_zr0]
    · simp only [if_neg b1, pm_zr1]
/-- the yards as the winter began -/
def BG (iv : pm_V) (k n : Nat) (bg : Nat → Nat) : Prop := ∀ h, h < n → iv (k + 7) h = nI (bg h)
theorem alo_no {bg : Nat → Nat} {h q : Nat} (hne : q ≠ h) (he : bg q = bg h) : ∀ n, q < n → alo bg h n = false
  | 0, hq => absurd hq (Nat.not_lt_zero q)
  | n + 1, hq => by
    rw [alo_step]
    by_cases e : q = n
    · subst e
      simp [hne, he]
    · rw [alo_no hne he n (by omega)]; rfl
theorem t_isHouseN {n : Nat} (hd : 1 ≤ d) (hK : pm_sl g k) (h2 : iv k 2 = nI n) (h6 : n ≤ 6) : pm_c X d 35 [.ref k, .int x] g iv = some (some (.int (if ip x n = true then 1 else 0)), g, iv) := by
  obtain ⟨d, rfl, -⟩ := pm_d1 hd
  simp only [e35, b35_0, b35_4, b35_12, b35_18, b35_22, b35_23, hK]
  simp only [h2, lt_i, le_i, toI0, toI6, nI_t (show n < 2147483648 by omega), pm_zr0, pm_zr1, ip, decide_eq_true_eq]
  (repeat' split) <;> first | rfl | (exfalso; omega)
theorem t_begunOf {bg : Nat → Nat} {n m h : Nat} (hd : 2 ≤ d) (hK : pm_sl g k) (h2 : iv k 2 = nI n) (h6 : n ≤ 6) (hb : BG iv k m bg) (hh : h < n) (hm : h < m) : pm_c X d 62 [.ref k, .int (nI h)] g iv = some (some (.int (nI (bg h))), g, iv) := by
  obtain ⟨d, rfl, hd1⟩ := pm_d1 hd
  have hin : vp_in (nI h) 6 := vp_n (by omega) (by decide)
  rw [e62, b62_0 hK, t_isHouseN hd1 hK h2 h6, if_pos (ip_n hh (by omega)), pm_then_i, b62_5, if_neg (by decide), b62_8 hK hin, b62_19, nI_c (show h < 2147483648 by omega), hb h hm]
theorem t_wasAlone_loop {bg : Nat → Nat} (hd : 2 ≤ d) (hK : pm_sl g k) (hv : SV iv k v) (ho : Hok v) (hb : BG iv k (vN v) bg) (hk : Pok v bg) {h : Nat} (hh : h < vN v) : ∀ m j, j + m = vN v → alo bg h j = true → pm_at X d 64 (2, [some (.ref k), some (.int (nI h)), some (.int (nI j))], [], g, iv) = some (some (.int (if alo bg h (vN v) = true then 1 else 0)), g, iv) := by
  have hN := ho.2.2.1
  have hD := ho.2.1
  intro m
  induction m with
  | zero =>
    intro j hj ha
    have hjn : j = vN v := by omega
    subst hjn
    rw [b64_2 hK, hv.2.2.1, if_pos (Int32.le_refl _), b64_36, if_pos ha]
  | succ m ih =>
    intro j hj ha
    have hlt : j < vN v := by omega
    have hin : vp_in (nI j) 6 := vp_n (by omega) (by decide)
    have hin2 : vp_in (nI h) 6 := vp_n (by omega) (by decide)
    have hbj := hk j hlt
    have hbh := hk h hh
    have hnx := ih (j + 1) (by omega)
    rw [b64_2 hK, hv.2.2.1, if_neg (nI_ge hlt (by omega)), b64_10]
    by_cases e : j = h
    · rw [if_pos (by rw [e]), b64_30, nI_1]
      exact hnx (by rw [alo_step, ha]; simp [e])
    · rw [if_neg (fun a => e ((nI_eq (by omega) (by omega)).mp a)), b64_15 hK, t_begunOf hd hK hv.2.2.1 hN hb hlt hlt, pm_then_i, b64_20 hK, t_begunOf hd hK hv.2.2.1 hN hb hh hh, pm_then_i, b64_25]
      by_cases e3 : bg j = bg h
      · rw [e3, if_neg (fun a => a rfl), b64_28, alo_no e e3 _ hlt, if_neg (by decide)]
      · rw [if_pos (fun a => e3 ((nI_eq (by omega) (by omega)).mp a)), b64_30, nI_1]
        exact hnx (by rw [alo_step, ha]; simp [e3])
theorem t_wasAlone {bg : Nat → Nat} (hd : 3 ≤ d) (hK : pm_sl g k) (hv : SV iv k v) (ho : Hok v) (hb : BG iv k (vN v) bg) (hk : Pok v bg) {h : Nat} (hh : h < vN v) : pm_c X d 64 [.ref k, .int (nI h)] g iv = some (some (.int (if alo bg h (vN v) = true then 1 else 0)), g, iv) := by
  obtain ⟨d, rfl, hd1⟩ := pm_d1 hd
  have hl := t_wasAlone_loop (X := X) (d := d) hd1 hK hv ho hb hk hh (vN v) 0 (by omega) rfl
  rw [nI_0] at hl
  simp only [e64]
  rw [b64_0]
  exact hl
theorem w_even {w : Nat} (hw : w < 200000) : (nI w - nI w / 2 * 2 = 0) ↔ ¬ w % 2 = 1 := by
  have e : nI w - nI w / 2 * 2 = nI (w % 2) := pk_rem (d := 2) (by omega) (by omega) (by omega)
  rw [e]
  have := nI_eq (a := w % 2) (b := 0) (by omega) (by omega)
  rw [nI_0] at this
  rw [this]
  omega
theorem t_mayRoll {bg : Nat → Nat} (hd : 4 ≤ d) (hK : pm_sl g k) (hv : SV iv k v) (ho : Hok v) (hb : BG iv k (vN v) bg) (hk : Pok v bg) {h : Nat} (hh : h < vN v) : pm_c X d 63 [.ref k, .int (nI h)] g iv = some (some (.int (if may v (vC v) bg (vW v) h = true then 1 else 0)), g, iv) := by
  obtain ⟨d, rfl, hd1⟩ := pm_d1 hd
  have hN := ho.2.2.1
  have hW := ho.2.2.2.1
  have h6 := (ho.2.2.2.2.2 h hh).2.2.1
  have hin : vp_in (nI h) 6 := vp_n (by omega) (by decide)
  have f1 := (hv.2.2.2.2.2.2 h hh).1
  have hc := nI_c (show h < 2147483648 by omega)
  have f2 : iv (k + 2) (nI h).toNatClampNeg = nI (vK v h) := by rw [hc]; exact f1
  have e1 : (nI (vK v h) = 1) ↔ vK v h = 1 := nI_eq (b := 1) (by omega) (by omega)
  have e2 : (nI (vK v h) = 2) ↔ vK v h = 2 := nI_eq (b := 2) (by omega) (by omega)
  simp only [e63]
  rw [b63_0 hK, t_isHouse (by omega) hK hv ho, if_pos (ip_n hh (by omega)), pm_then_i, b63_5, if_neg (by decide), b63_8 hK, t_isChocked (by omega) hK hv ho hh, pm_then_i, b63_13]
  by_cases a : vC v h = true
  · rw [if_pos a, if_neg (by decide), b63_16, if_neg (by unfold may; simp [a])]
  · rw [if_neg a, if_pos rfl]
    by_cases k1 : vK v h = 1
    · rw [b63_18_c1 hK hin (by rw [f2]; exact e1.mpr k1), b63_52 hK, hv.2.2.2.1]
      by_cases o : vW v % 2 = 1
      · rw [if_pos (fun q => (w_even (by omega)).mp q o), b63_65, b63_66, pm_zr0, if_neg (by unfold may; simp [k1, o])]
      · rw [if_neg (not_not_intro ((w_even (by omega)).mpr o)), b63_61, b63_66, pm_zr1, if_pos (by unfold may; simp [a, k1, o])]
    · by_cases k2 : vK v h = 2
      · rw [b63_18_c2 hK hin (by rw [f2]; exact e2.mpr k2), b63_67 hK, t_wasAlone (by omega) hK hv ho hb hk hh, pm_then_i, b63_72]
        by_cases o : alo bg h (vN v) = true
        · rw [if_pos o, pm_zr1, if_pos (by unfold may; simp [a, k2, o])]
        · rw [if_neg o, pm_zr0, if_neg (by unfold may; simp [k2, o])]
      · rw [b63_18_df hK hin (by rw [f2]; exact fun q => k1 (e1.mp q)) (by rw [f2]; exact fun q => k2 (e2.mp q)), b63_73, if_pos (by unfold may; simp [a, k1, k2])]
end S3
