/-! the reference: what it asks of itself -/
theorem lgc_lt {x y : Int64} : lg_cmp x y < 0 ↔ x.toInt < y.toInt := by
  unfold lg_cmp
  by_cases h : y < x
  · have h2 := Int64.lt_iff_toInt_lt.mp h
    rw [if_pos h]
    exact ⟨fun q => absurd q (by decide), fun q => by omega⟩
  · have h2 : ¬ y.toInt < x.toInt := fun q => h (Int64.lt_iff_toInt_lt.mpr q)
    rw [if_neg h]
    by_cases e : x = y
    · subst e
      rw [if_pos rfl]
      exact ⟨fun q => absurd q (by decide), fun q => by omega⟩
    · have e2 : ¬ x.toInt = y.toInt := fun q => e (Int64.toInt_inj.mp q)
      rw [if_neg e]
      exact ⟨fun _ => by omega, fun _ => by decide⟩
theorem lgc_gt {x y : Int64} : 0 < lg_cmp x y ↔ y.toInt < x.toInt := by
  unfold lg_cmp
  by_cases h : y < x
  · have h2 := Int64.lt_iff_toInt_lt.mp h
    rw [if_pos h]
    exact ⟨fun _ => h2, fun _ => by decide⟩
  · have h2 : ¬ y.toInt < x.toInt := fun q => h (Int64.lt_iff_toInt_lt.mpr q)
    rw [if_neg h]
    by_cases e : x = y
    · subst e
      rw [if_pos rfl]
      exact ⟨fun q => absurd q (by decide), fun q => by omega⟩
    · rw [if_neg e]
      exact ⟨fun q => absurd q (by decide), fun q => by omega⟩
theorem lgc_eq {x y : Int64} : lg_cmp x y = 0 ↔ x = y := by
  unfold lg_cmp
  by_cases h : y < x
  · have h2 := Int64.lt_iff_toInt_lt.mp h
    rw [if_pos h]
    exact ⟨fun q => absurd q (by decide), fun q => by subst q; omega⟩
  · rw [if_neg h]
    by_cases e : x = y
    · simp [e]
    · rw [if_neg e]
      exact ⟨fun q => absurd q (by decide), fun q => absurd q e⟩
theorem wd_t {x : Int32} : x.toInt64.toInt = x.toInt := by simp
theorem nI_m1 {n : Nat} (h : n < 1000000000) : (nI n - 1).toInt = (n : Int) - 1 := pk_sub_toInt (a := n) (b := 1) (by omega) (by omega)
/-- the array f shows v -/
def HAr (f : Nat → Int32) (v : HV) : Prop := f 0 = nI (vL v) ∧ f 1 = nI (vD v) ∧ f 3 = nI (vN v) ∧ f 4 = nI (vW v) ∧ (∀ l, l < 4 → ∀ i, i < 32 → bt (f (5 + l)) i = vS v l i) ∧
  ∀ h, h < vN v → f (9 + 6 * h) = nI (vK v h) ∧ f (9 + 6 * h + 1) = nI (vl v h) ∧ f (9 + 6 * h + 2) = nI (vy v h) ∧ f (9 + 6 * h + 3) = nI (vH v h) ∧ f (9 + 6 * h + 4) = (if vC v h = true then 1 else 0) ∧ f (9 + 6 * h + 5) = vt v h
/-- but these cells nothing is another -/
def chg (L : List Nat) (iv iv' : pm_V) : Prop := ∀ c, c ∉ L → iv' c = iv c
theorem chg_rf {L : List Nat} {iv : pm_V} : chg L iv iv := fun _ _ => rfl
theorem chg_tr {L : List Nat} {a b c : pm_V} (h : chg L a b) (h2 : chg L b c) : chg L a c := fun k hk => (h2 k hk).trans (h k hk)
theorem chg_iw {L : List Nat} {iv : pm_V} {a i : Nat} {x : Int32} (h : a ∈ L) : chg L iv (pm_iw iv a i x) := fun c hc => iw_n (fun e => hc (e ▸ h))
theorem chg_ir {L : List Nat} {iv : pm_V} {a : Nat} {f : Nat → Int32} (h : a ∈ L) : chg L iv (pm_ir iv a f) := fun c hc => ir_n (fun e => hc (e ▸ h))
theorem chg_mo {L M : List Nat} {a b : pm_V} (h : chg L a b) (hs : ∀ c, c ∈ L → c ∈ M) : chg M a b := fun c hc => h c (fun q => hc (hs c q))
section M1
variable {X : pm_X} {d : Nat} {g : pm_G} {iv : pm_V} {x y : Int32} {v : HV}
theorem m_in (hd : 1 ≤ d) {a b c : Int64} : pm_c X d 130 [.long a, .long b, .long c] g iv = some (some (.int (if b.toInt ≤ a.toInt ∧ a.toInt ≤ c.toInt then 1 else 0)), g, iv) := by
  obtain ⟨d, rfl, hd1⟩ := pm_d1 hd
  simp only [e130, b130_0, b130_6, b130_13, b130_17, b130_18, lgc_lt, lgc_gt, pm_zr0, pm_zr1]
  (repeat' split) <;> first | rfl | (exfalso; omega)
theorem m_isRow (hd : 2 ≤ d) : pm_c X d 132 [.int x] g iv = some (some (.int (if ip x 8 = true then 1 else 0)), g, iv) := by
  obtain ⟨d, rfl, hd1⟩ := pm_d1 hd
  simp only [e132, b132_0, b132_9, m_in hd1, pm_then_i, pm_then_l, pm_then_v, wd_t, pm_zrI, ip, decide_eq_true_eq]
  rw [show (0 : Int64).toInt = 0 from rfl, show (7 : Int64).toInt = 7 from rfl]
  (repeat' split) <;> first | rfl | (exfalso; omega)
theorem m_isThere (hd : 1 ≤ d) (hL : pm_lay g) (hv : HAr (iv 36) v) (ho : Hok v) : pm_c X d 156 [.ref 32] g iv = some (some (.int (if 0 < vL v then 1 else 0)), g, iv) := by
  obtain ⟨d, rfl, hd1⟩ := pm_d1 hd
  have h6 := ho.1
  simp only [e156, b156_0, b156_9, b156_13, b156_14, hL, hv.1, lt_i, le_i, toI0, nI_t (show vL v < 2147483648 by omega), pm_zr0, pm_zr1]
  (repeat' split) <;> first | rfl | (exfalso; omega)
theorem m_isHouse (hd : 2 ≤ d) (hL : pm_lay g) (hv : HAr (iv 36) v) (ho : Hok v) : pm_c X d 157 [.ref 32, .int x] g iv = some (some (.int (if ip x (vN v) = true then 1 else 0)), g, iv) := by
  obtain ⟨d, rfl, hd1⟩ := pm_d1 hd
  have h6 := ho.2.2.1
  simp only [e157, b157_0, b157_15, hL, m_in hd1, pm_then_i, pm_then_l, pm_then_v, wd_t, pm_zrI, hv.2.2.1, nI_m1 (show vN v < 1000000000 by omega), ip, decide_eq_true_eq]
  rw [show (0 : Int64).toInt = 0 from rfl]
  (repeat' split) <;> first | rfl | (exfalso; omega)
theorem of_ix {j w : Nat} : (9 + (6 * nI j)) + nI w = nI (9 + 6 * j + w) := by
  show (nI 9 + nI 6 * nI j) + nI w = _
  rw [pk_mul, nI_add, nI_add]
theorem m_of (hd : 1 ≤ d) (hL : pm_lay g) {h w : Nat} (hh : h < 6) (hw : w < 6) (hy : y = nI w) : pm_c X d 159 [.ref 32, .int (nI h), .int y] g iv = some (some (.int (iv 36 (9 + 6 * h + w))), g, iv) := by
  obtain ⟨d, rfl, hd1⟩ := pm_d1 hd
  subst hy
  have hin : vp_in (nI (9 + 6 * h + w)) 45 := vp_n (by omega) (by decide)
  rw [e159, b159_0 hL (by rw [of_ix]; exact hin), of_ix, nI_c (by omega)]
theorem m_ofK (hd : 1 ≤ d) (hL : pm_lay g) (hv : HAr (iv 36) v) (ho : Hok v) {h : Nat} (hh : h < vN v) : pm_c X d 159 [.ref 32, .int (nI h), .int 0] g iv = some (some (.int (nI (vK v h))), g, iv) := by
  have h6 := ho.2.2.1
  rw [m_of hd hL (by omega) (w := 0) (y := 0) (by omega) rfl, Nat.add_zero, (hv.2.2.2.2.2 h hh).1]
theorem m_ofl (hd : 1 ≤ d) (hL : pm_lay g) (hv : HAr (iv 36) v) (ho : Hok v) {h : Nat} (hh : h < vN v) : pm_c X d 159 [.ref 32, .int (nI h), .int 1] g iv = some (some (.int (nI (vl v h))), g, iv) := by
  have h6 := ho.2.2.1
  rw [m_of hd hL (by omega) (w := 1) (y := 1) (by omega) rfl, (hv.2.2.2.2.2 h hh).2.1]
theorem m_ofy (hd : 1 ≤ d) (hL : pm_lay g) (hv : HAr (iv 36) v) (ho : Hok v) {h : Nat} (hh : h < vN v) : pm_c X d 159 [.ref 32, .int (nI h), .int 2] g iv = some (some (.int (nI (vy v h))), g, iv) := by
  have h6 := ho.2.2.1
  rw [m_of hd hL (by omega) (w := 2) (y := 2) (by omega) rfl, (hv.2.2.2.2.2 h hh).2.2.1]
theorem m_ofH (hd : 1 ≤ d) (hL : pm_lay g) (hv : HAr (iv 36) v) (ho : Hok v) {h : Nat} (hh : h < vN v) : pm_c X d 159 [.ref 32, .int (nI h), .int 3] g iv = some (some (.int (nI (vH v h))), g, iv) := by
  have h6 := ho.2.2.1
  rw [m_of hd hL (by omega) (w := 3) (y := 3) (by omega) rfl, (hv.2.2.2.2.2 h hh).2.2.2.1]
theorem m_ofC (hd : 1 ≤ d) (hL : pm_lay g) (hv : HAr (iv 36) v) (ho : Hok v) {h : Nat} (hh : h < vN v) : pm_c X d 159 [.ref 32, .int (nI h), .int 4] g iv = some (some (.int (if vC v h = true then 1 else 0)), g, iv) := by
  have h6 := ho.2.2.1
  rw [m_of hd hL (by omega) (w := 4) (y := 4) (by omega) rfl, (hv.2.2.2.2.2 h hh).2.2.2.2.1]
theorem m_oft (hd : 1 ≤ d) (hL : pm_lay g) (hv : HAr (iv 36) v) (ho : Hok v) {h : Nat} (hh : h < vN v) : pm_c X d 159 [.ref 32, .int (nI h), .int 5] g iv = some (some (.int (vt v h)), g, iv) := by
  have h6 := ho.2.2.1
  rw [m_of hd hL (by omega) (w := 5) (y := 5) (by omega) rfl, (hv.2.2.2.2.2 h hh).2.2.2.2.2]
theorem m_isStone (hd : 1 ≤ d) (hL : pm_lay g) (hv : HAr (iv 36) v) {l j : Nat} (hl : l < 4) (hj : j < 32) : pm_c X d 160 [.ref 32, .int (nI l), .int (nI j)] g iv = some (some (.int (if vS v l j = true then 1 else 0)), g, iv) := by
  obtain ⟨d, rfl, hd1⟩ := pm_d1 hd
  have e5 : (5 : Int32) + nI l = nI (5 + l) := nI_add 5 l
  have hin : vp_in (nI (5 + l)) 45 := vp_n (by omega) (by decide)
  simp only [e160, b160_0, b160_16, b160_20, b160_21, hL, hin, e5, nI_c (show 5 + l < 2147483648 by omega), b_tst hj, hv.2.2.2.2.1 l hl j hj, bz_0, bz_n, bz_1, pm_zr0, pm_zr1, pm_zrI, if_true, if_false, not_true, not_false_eq_true, Bool.false_eq_true, true_and, and_true, false_and, and_false, z10, z01, zz0, eq_self]
  by_cases hs : vS v l j = true <;> simp only [hs, bz_0, bz_n, bz_1, pm_zr0, pm_zr1, pm_zrI, if_true, if_false, not_true, not_false_eq_true, Bool.false_eq_true, true_and, and_true, false_and, and_false, z10, z01, zz0, eq_self]
theorem m_areTwo (hd : 3 ≤ d) (hL : pm_lay g) (hv : HAr (iv 36) v) (ho : Hok v) : pm_c X d 158 [.ref 32, .int x, .int y] g iv = some (some (.int (if ip x (vN v) = true ∧ ip y (vN v) = true ∧ ¬ x = y then 1 else 0)), g, iv) := by
  obtain ⟨d, rfl, hd1⟩ := pm_d1 hd
  simp only [e158, b158_0, b158_5, b158_8, b158_13, b158_16, b158_21, b158_25, b158_26, hL, m_isHouse hd1 hL hv ho, pm_then_i, pm_then_l, pm_then_v, bz_0, bz_n, bz_1, pm_zr0, pm_zr1, pm_zrI, if_true, if_false, not_true, not_false_eq_true, Bool.false_eq_true, true_and, and_true, false_and, and_false, z10, z01, zz0, eq_self]
  by_cases hx : ip x (vN v) = true <;> by_cases hy : ip y (vN v) = true <;> by_cases e : x = y <;> simp only [hx, hy, e, bz_0, bz_n, bz_1, pm_zr0, pm_zr1, pm_zrI, if_true, if_false, not_true, not_false_eq_true, Bool.false_eq_true, true_and, and_true, false_and, and_false, z10, z01, zz0, eq_self]
/-- the houses' places now, in the array c -/
def PL (iv : pm_V) (c n : Nat) (pl : Nat → Nat) : Prop := ∀ h, h < n → iv c h = nI (pl h)
def HE (iv : pm_V) (n : Nat) (he : Nat → Bool) : Prop := ∀ h, h < n → iv 41 h = if he h = true then 1 else 0
theorem m_layNow_loop (hd : 1 ≤ d) (hL : pm_lay g) (ho : Hok v) : ∀ m j (iv : pm_V), HAr (iv 36) v → j + m = vN v → PL iv 40 j (vy v) → HE iv j (vC v) → ∃ iv', pm_at X d 161 (2, [some (.ref 32), some (.int (nI j))], [], g, iv) = some (none, g, iv') ∧ chg [40, 41] iv iv' ∧ PL iv' 40 (vN v) (vy v) ∧ HE iv' (vN v) (vC v) := by
  have hN := ho.2.2.1
  intro m
  induction m with
  | zero =>
    intro j iv hv hj hp hh
    have hjn : j = vN v := by omega
    subst hjn
    refine ⟨iv, ?_, chg_rf, hp, hh⟩
    simp only [b161_2 hL, hv.2.2.1, Int32.le_refl, if_true, b161_42]
  | succ m ih =>
    intro j iv hv hj hp hh
    have hlt : j < vN v := by omega
    have h1 : ¬ nI (vN v) ≤ nI j := nI_ge hlt (by omega)
    have hin : vp_in (nI j) 6 := vp_n (by omega) (by decide)
    have hc := nI_c (show j < 2147483648 by omega)
    have hv2 : HAr ((pm_iw iv 40 j (nI (vy v j))) 36) v := by rw [iw_n (by decide)]; exact hv
    obtain ⟨iv', e1, e2, e3⟩ := ih (j + 1) (pm_iw (pm_iw iv 40 j (nI (vy v j))) 41 j (if vC v j = true then 1 else 0)) (by rw [iw_n (by decide)]; exact hv2) (by omega)
      (fun h hlt2 => by
        rw [iw_n (by decide), iw_s]
        by_cases e : h = j
        · rw [e, upd_s]
        · rw [upd_n e]; exact hp h (by omega))
      (fun h hlt2 => by
        rw [iw_s]
        by_cases e : h = j
        · rw [e, upd_s]
        · rw [upd_n e, iw_n (by decide)]; exact hh h (by omega))
    refine ⟨iv', ?_, chg_tr (chg_tr (chg_iw (by decide)) (chg_iw (by decide))) e2, e3⟩
    rw [b161_2 hL]
    simp only [hv.2.2.1, h1, bz_0, bz_n, bz_1, pm_zr0, pm_zr1, pm_zrI, if_true, if_false, not_true, not_false_eq_true, Bool.false_eq_true, true_and, and_true, false_and, and_false, z10, z01, zz0, eq_self, b161_12 hL, m_ofy hd hL hv ho hlt, pm_then_i, pm_then_l, pm_then_v, b161_23 hL hin, hc, m_ofC hd hL hv2 ho hlt, b161_35 hL hin, nI_1]
    exact e1
theorem m_layNow (hd : 2 ≤ d) (hL : pm_lay g) (hv : HAr (iv 36) v) (ho : Hok v) : ∃ iv', pm_c X d 161 [.ref 32] g iv = some (none, g, iv') ∧ chg [40, 41] iv iv' ∧ PL iv' 40 (vN v) (vy v) ∧ HE iv' (vN v) (vC v) := by
  obtain ⟨d, rfl, hd1⟩ := pm_d1 hd
  obtain ⟨iv', e1, e2⟩ := m_layNow_loop (X := X) hd1 hL ho (vN v) 0 iv hv (by omega) (fun h hh => absurd hh (Nat.not_lt_zero h)) (fun h hh => absurd hh (Nat.not_lt_zero h))
  refine ⟨iv', ?_, e2⟩
  rw [nI_0] at e1
  simp only [e161, b161_0, e1]
theorem m_houseAt_loop (hd : 1 ≤ d) (hL : pm_lay g) (hv : HAr (iv 36) v) (ho : Hok v) {pl : Nat → Nat} (hp : PL iv 40 (vN v) pl) : ∀ m j, j + m = vN v → (∀ i, i < j → decide (nI (vl v i) = x ∧ nI (pl i) = y) = false) → pm_at X d 162 (2, [some (.ref 32), some (.int x), some (.int y), some (.int (nI j))], [], g, iv) = some (some (.int (if atF (vl v) pl (vN v) x y < vN v then nI (atF (vl v) pl (vN v) x y) else -1000000)), g, iv) := by
  have hN := ho.2.2.1
  intro m
  induction m with
  | zero =>
    intro j hj hno
    have hjn : j = vN v := by omega
    subst hjn
    have : atF (vl v) pl (vN v) x y = vN v := fstF_none hno
    simp only [b162_2 hL, b162_40, hv.2.2.1, Int32.le_refl, if_true, this, Nat.lt_irrefl, if_false]
  | succ m ih =>
    intro j hj hno
    have hlt : j < vN v := by omega
    have h1 : ¬ nI (vN v) ≤ nI j := nI_ge hlt (by omega)
    have hin : vp_in (nI j) 6 := vp_n (by omega) (by decide)
    rw [b162_2 hL]
    simp only [hv.2.2.1, h1, bz_0, bz_n, bz_1, pm_zr0, pm_zr1, pm_zrI, if_true, if_false, not_true, not_false_eq_true, Bool.false_eq_true, true_and, and_true, false_and, and_false, z10, z01, zz0, eq_self, b162_12 hL, m_ofl hd hL hv ho hlt, pm_then_i, pm_then_l, pm_then_v, b162_18, b162_22 hL hin, nI_c (show j < 2147483648 by omega), hp j hlt, b162_32, b162_34]
    have hnx := ih (j + 1) (by omega)
    by_cases hx : nI (vl v j) = x
    · by_cases hy : nI (pl j) = y
      · have e : atF (vl v) pl (vN v) x y = j := fstF_eq hlt (by simp [hx, hy]) hno
        simp only [hy, hx, bz_0, bz_n, bz_1, pm_zr0, pm_zr1, pm_zrI, if_true, if_false, not_true, not_false_eq_true, Bool.false_eq_true, true_and, and_true, false_and, and_false, z10, z01, zz0, eq_self, e, hlt]
      · simp only [hy, hx, bz_0, bz_n, bz_1, pm_zr0, pm_zr1, pm_zrI, if_true, if_false, not_true, not_false_eq_true, Bool.false_eq_true, true_and, and_true, false_and, and_false, z10, z01, zz0, eq_self, nI_1]
        exact hnx (fun i hi => by
          rcases Nat.lt_or_ge i j with a | a
          · exact hno i a
          · have : i = j := by omega
            subst this
            simp [hy])
    · simp only [hx, bz_0, bz_n, bz_1, pm_zr0, pm_zr1, pm_zrI, if_true, if_false, not_true, not_false_eq_true, Bool.false_eq_true, true_and, and_true, false_and, and_false, z10, z01, zz0, eq_self, nI_1]
      exact hnx (fun i hi => by
        rcases Nat.lt_or_ge i j with a | a
        · exact hno i a
        · have : i = j := by omega
          subst this
          simp [hx])
theorem m_houseAt (hd : 2 ≤ d) (hL : pm_lay g) (hv : HAr (iv 36) v) (ho : Hok v) {pl : Nat → Nat} (hp : PL iv 40 (vN v) pl) : pm_c X d 162 [.ref 32, .int x, .int y] g iv = some (some (.int (if atF (vl v) pl (vN v) x y < vN v then nI (atF (vl v) pl (vN v) x y) else -1000000)), g, iv) := by
  obtain ⟨d, rfl, hd1⟩ := pm_d1 hd
  have hl := m_houseAt_loop (X := X) (x := x) (y := y) hd1 hL hv ho hp (vN v) 0 (by omega) (fun i hi => absurd hi (Nat.not_lt_zero i))
  rw [nI_0] at hl
  simp only [e162, b162_0, hl]
end M1
