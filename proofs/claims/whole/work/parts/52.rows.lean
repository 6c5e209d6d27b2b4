/-! the rows: row, set, drop -/
/-- row r on both sides -/
def RW (iv : pm_V) (r : Nat) : Prop := (bt (iv 1 3) r = false ∧ iv 33 r = -1) ∨ (bt (iv 1 3) r = true ∧ ∃ l n, l < 3 ∧ n ≤ 40 ∧ iv 33 r = nI l ∧ iv 3 r = nI l ∧ iv 34 r = nI n ∧ iv 4 r = nI n ∧ ∀ i, i < n → iv 2 (40 * r + i) = iv 35 (40 * r + i))
theorem RR_upd {iv iv' : pm_V} {r : Nat} (h : RR iv) (hr : r < 8) (h1 : ∀ i, i < 32 → i ≠ r → bt (iv' 1 3) i = bt (iv 1 3) i) (h2 : ∀ q, q < 8 → q ≠ r → iv' 33 q = iv 33 q ∧ iv' 3 q = iv 3 q ∧ iv' 34 q = iv 34 q ∧ iv' 4 q = iv 4 q) (h3 : ∀ j, j < 40 * r ∨ 40 * r + 40 ≤ j → iv' 2 j = iv 2 j ∧ iv' 35 j = iv 35 j) (h4 : RW iv' r) : RR iv' := by
  refine ⟨fun i a b => by rw [h1 i b (by omega)]; exact h.1 i a b, fun q hq => ?_⟩
  by_cases e : q = r
  · subst e
    exact h4
  · obtain ⟨e1, e2, e3, e4⟩ := h2 q hq e
    rcases h.2 q hq with ⟨q1, q2⟩ | ⟨q1, l, n, hl, hn, q2, q3, q4, q5, q6⟩
    · exact Or.inl ⟨by rw [h1 q (by omega) e]; exact q1, by rw [e1]; exact q2⟩
    · refine Or.inr ⟨by rw [h1 q (by omega) e]; exact q1, l, n, hl, hn, by rw [e1]; exact q2, by rw [e2]; exact q3, by rw [e3]; exact q4, by rw [e4]; exact q5, fun i hi => ?_⟩
      obtain ⟨f1, f2⟩ := h3 (40 * q + i) (by omega)
      rw [f1, f2]
      exact q6 i hi
def rwL : List Nat := [0, 1, 2, 3, 4, 32, 33, 34, 35]
theorem CO_rw {g : pm_G} {iv iv' : pm_V} {v : HV} (h : CO g iv v) (hc : chg rwL iv iv') (h32 : ∀ c, c ≠ 0 → c ≠ 1 → iv' 32 c = iv 32 c) (hr : RR iv') (hs : iv' 0 7 = iv' 32 1) : CO g iv' v := by
  obtain ⟨a1, a2, a3, ⟨a, o, r, b1, b2, b3⟩, a5, ⟨i1, i2, i3⟩, a7, a8⟩ := h
  have q : ∀ c, c ∉ rwL → iv' c = iv c := hc
  have hi : ∀ c, 46 ≤ c → iv' c = iv c := fun c p => q c (by simp only [rwL, List.mem_cons, List.not_mem_nil, or_false]; omega)
  exact ⟨RV_fr a1 (fun c x y => q c (by simp only [rwL, List.mem_cons, List.not_mem_nil, or_false]; omega)) (q 36 (by decide)), hr,
    RT_fr a3 (by rw [q 5 (by decide)]) (h32 10 (by decide) (by decide)) (q 39 (by decide)) (q 6 (by decide)), ⟨a, o, r, CA_fr b1 (by rw [q 7 (by decide)]) (by rw [q 7 (by decide)]) (q 8 (by decide)), MA_fr b2 (h32 8 (by decide) (by decide)) (q 38 (by decide)), b3⟩, RX_fr a5 (by rw [q 9 (by decide)]) (h32 25 (by decide) (by decide)) (q 10 (by decide)) (q 45 (by decide)),
    ⟨IM_fr i1 (q 43 (by decide)) (q 44 (by decide)) hi, IM_fr i2 (q 43 (by decide)) (q 44 (by decide)) hi, i3⟩, hs, by rw [q 5 (by decide), h32 11 (by decide) (by decide)]; exact a8⟩
/-- only findings are another -/
theorem CO_sx {g : pm_G} {iv iv' : pm_V} {v : HV} (h : CO g iv v) (hc : chg [0, 32] iv iv') (h32 : ∀ c, c ≠ 0 → c ≠ 1 → iv' 32 c = iv 32 c) (hs : iv' 0 7 = iv' 32 1) : CO g iv' v :=
  CO_rw h (chg_mo hc (by decide)) h32 (RR_fr h.2.1 (by rw [hc 1 (by decide)]) (hc 2 (by decide)) (hc 3 (by decide)) (hc 4 (by decide)) (hc 33 (by decide)) (hc 34 (by decide)) (hc 35 (by decide))) hs
section Q52
variable {X : pm_X} {d k : Nat} {g : pm_G} {iv : pm_V} {v : HV} {x y z : Int32} {r : Nat}
theorem t_found (hd : 1 ≤ d) (hL : pm_lay g) : pm_c X d 123 [.ref 0, .int x] g iv = some (some (.int (-1000010 - x)), g, pm_iw iv 0 7 x) := by
  obtain ⟨d, rfl, -⟩ := pm_d1 hd
  rw [e123, b123_0 hL]
theorem t_answered (hd : 1 ≤ d) (hL : pm_lay g) : pm_c X d 124 [.ref 0, .int x] g iv = some (some (.int x), g, pm_iw iv 0 7 0) := by
  obtain ⟨d, rfl, -⟩ := pm_d1 hd
  rw [e124, b124_0 hL]
theorem m_finding (hd : 1 ≤ d) (hL : pm_lay g) : pm_c X d 131 [.ref 32, .int x] g iv = some (some (.int (-1000010 - x)), g, pm_iw iv 32 1 x) := by
  obtain ⟨d, rfl, -⟩ := pm_d1 hd
  rw [e131, b131_0 hL]
theorem t_isRow (hd : 2 ≤ d) : pm_c X d 121 [.int x] g iv = some (some (.int (if ip x 8 = true then 1 else 0)), g, iv) := by
  obtain ⟨d, rfl, -⟩ := pm_d1 hd
  simp only [e121, b121_0, t_ip (n := 7) (show 1 ≤ d by omega) toI7, pm_then_i, pm_then_l, pm_then_v, b121_6]
  rw [zrP]
theorem t_missing (hd : 3 ≤ d) (hL : pm_lay g) (hr : r < 8) : pm_c X d 15 [.ref 1, .int (nI r)] g iv = some (some (.int (if bt (iv 1 3) r = true then 0 else 1)), g, iv) := by
  obtain ⟨d, rfl, hd1⟩ := pm_d1 hd
  have hp : ip (nI r) 8 = true := ip_n hr (by omega)
  simp only [e15, b15_0, t_isRow (show 2 ≤ d by omega), hp, pm_then_i, pm_then_l, pm_then_v, bz_0, bz_n, bz_1, pm_zr0, pm_zr1, pm_zrI, if_true, if_false, not_true, not_false_eq_true, Bool.false_eq_true, true_and, and_true, false_and, and_false, z10, z01, zz0, eq_self, b15_4, b15_7 hL, b_tst (show r < 32 by omega), b15_18, b15_22, b15_23]
  by_cases q : bt (iv 1 3) r = true <;> simp only [q, bz_0, bz_n, bz_1, pm_zr0, pm_zr1, pm_zrI, if_true, if_false, not_true, not_false_eq_true, Bool.false_eq_true, true_and, and_true, false_and, and_false, z10, z01, zz0, eq_self]
theorem sub_nn {m n : Nat} (hm : m < 2147483648) (hn : n < 2147483648) : (nI m - nI n).toInt = (m : Int) - n := by
  rw [Int32.toInt_sub, nI_t hm, nI_t hn]
  exact Int.bmod_eq_of_le (by omega) (by omega)
/-- n places of a row of m from i on -/
def plc (m : Nat) (i n : Int32) : Prop := 0 ≤ i.toInt ∧ 0 ≤ n.toInt ∧ i.toInt + n.toInt ≤ m
theorem t_places_y {m : Nat} {c : Decidable (plc m y z)} (hd : 4 ≤ d) (hL : pm_lay g) (hr : r < 8) (hp : bt (iv 1 3) r = true) (h4 : iv 4 r = nI m) (hm : m ≤ 40) : pm_c X d 16 [.ref 1, .int (nI r), .int y, .int z] g iv = some (some (.int (@ite _ (plc m y z) c 1 0)), g, iv) := by
  obtain ⟨d, rfl, hd1⟩ := pm_d1 hd
  have hin : vp_in (nI r) 8 := vp_n hr (by decide)
  simp only [e16, b16_0 hL, t_missing (show 3 ≤ d by omega) hL hr, hp, if_true, pm_then_i, pm_then_l, pm_then_v, b16_5, zz0, not_true, if_false, b16_8, b16_12, b16_16 hL hin, nI_c (show r < 2147483648 by omega), h4, b16_28, b16_32, b16_33, pm_zr0, pm_zr1, lt_i, toI0]
  by_cases q1 : y.toInt < 0
  · rw [if_pos q1, if_neg (fun e : plc m y z => by have := e.1; omega)]
  · rw [if_neg q1]
    by_cases q2 : z.toInt < 0
    · rw [if_pos q2, if_neg (fun e : plc m y z => by have := e.2.1; omega)]
    · rw [if_neg q2]
      obtain ⟨n, hn, rfl, en⟩ := i_nI (x := z) (by omega)
      have es : (nI m - nI n).toInt = (m : Int) - n := sub_nn (by omega) (by omega)
      rw [es]
      by_cases q3 : (m : Int) - n < y.toInt
      · rw [if_pos q3, if_neg (fun e : plc m y (nI n) => by have := e.2.2; omega)]
      · rw [if_neg q3, if_pos ⟨by omega, by omega, by omega⟩]
theorem r_mk (hr : r < 8) {i : Nat} (hi : i < 40) : vp_in (nI r * 40 + nI i) 320 ∧ (nI r * 40 + nI i).toNatClampNeg = 40 * r + i := by
  have e : nI r * 40 + nI i = nI (40 * r + i) := by
    show nI r * nI 40 + nI i = _
    rw [pk_mul, nI_add, Nat.mul_comm]
  rw [e, nI_c (by omega)]
  exact ⟨vp_n (by omega) (by decide), rfl⟩
theorem r_mk2 (hr : r < 8) {i : Nat} (hi : i < 40) : vp_in (40 * nI r + nI i) 320 ∧ (40 * nI r + nI i).toNatClampNeg = 40 * r + i ∧ 40 * nI r + nI i = nI (40 * r + i) := by
  have e : 40 * nI r + nI i = nI (40 * r + i) := by
    show nI 40 * nI r + nI i = _
    rw [pk_mul, nI_add]
  rw [e, nI_c (by omega)]
  exact ⟨vp_n (by omega) (by decide), rfl, rfl⟩
theorem t_itemAt (hd : 5 ≤ d) (hL : pm_lay g) (hr : r < 8) (hp : bt (iv 1 3) r = true) {m i : Nat} (h4 : iv 4 r = nI m) (hm : m ≤ 40) (hi : i < m) : pm_c X d 18 [.ref 1, .int (nI r), .int (nI i)] g iv = some (some (.int (iv 2 (40 * r + i))), g, iv) := by
  obtain ⟨d, rfl, hd1⟩ := pm_d1 hd
  have ep : plc m (nI i) 1 := ⟨by rw [nI_t (by omega)]; omega, by decide, by rw [nI_t (by omega), toI1]; omega⟩
  obtain ⟨h1, h2⟩ := r_mk hr (show i < 40 by omega)
  haveI : Decidable (plc m (nI i) 1) := isTrue ep
  have hP := t_places_y (X := X) (d := d) (g := g) (iv := iv) (y := nI i) (z := 1) (c := isTrue ep) (by omega) hL hr hp h4 hm
  rw [@if_pos _ (isTrue ep) ep] at hP
  simp only [e18, b18_0 hL, hP, pm_then_i, pm_then_l, pm_then_v, b18_7, z10, if_false, b18_10 hL h1, h2, b18_26]
/-- the class makes a row -/
theorem t_make_loop (hL : pm_lay g) (hr : r < 8) {n : Nat} (hn : n ≤ 40) : ∀ m i (iv : pm_V), i + m = n → ∃ iv', pm_at X d 20 (46, [some (.ref 1), some (.int (nI r)), some (.int y), some (.int (nI n)), some (.int (nI i))], [], g, iv) = some (none, g, iv') ∧ chg [2] iv iv' ∧ ∀ j, iv' 2 j = if 40 * r + i ≤ j ∧ j < 40 * r + n then 0 else iv 2 j := by
  intro m
  induction m with
  | zero =>
    intro i iv hi
    have e : i = n := by omega
    subst e
    refine ⟨iv, ?_, chg_rf, fun j => by rw [if_neg (by omega)]⟩
    rw [b20_46, if_pos (Int32.le_refl _), b20_71]
  | succ m ih =>
    intro i iv hi
    have h1 : ¬ nI n ≤ nI i := nI_ge (by omega) (by omega)
    obtain ⟨p1, p2⟩ := r_mk hr (show i < 40 by omega)
    obtain ⟨iv', a1, a2, a3⟩ := ih (i + 1) (pm_iw iv 2 (40 * r + i) 0) (by omega)
    refine ⟨iv', ?_, chg_tr (chg_iw (by decide)) a2, fun j => ?_⟩
    · rw [b20_46, if_neg h1, b20_52 hL p1, p2, nI_1, a1]
    · rw [a3 j, iw_s]
      by_cases e : j = 40 * r + i
      · rw [e, if_neg (by omega), upd_s, if_pos (by omega)]
      · rw [upd_n e]
        by_cases q : 40 * r + (i + 1) ≤ j ∧ j < 40 * r + n
        · rw [if_pos q, if_pos (by omega)]
        · rw [if_neg q, if_neg (by omega)]
theorem t_make (hd : 3 ≤ d) (hL : pm_lay g) (hr : r < 8) {n : Nat} (hn : n ≤ 40) : ∃ iv', pm_c X d 20 [.ref 1, .int (nI r), .int y, .int (nI n)] g iv = some (none, g, iv') ∧ chg [1, 2, 3, 4] iv iv' ∧ iv' 1 3 = iv 1 3 ||| ((1 : Int32) <<< (nI r &&& 31)) ∧ iv' 3 = upd (iv 3) r y ∧ iv' 4 = upd (iv 4) r (nI n) ∧ ∀ j, iv' 2 j = if 40 * r ≤ j ∧ j < 40 * r + n then 0 else iv 2 j := by
  obtain ⟨d, rfl, hd1⟩ := pm_d1 hd
  have hin : vp_in (nI r) 8 := vp_n hr (by decide)
  have hp : ip (nI r) 8 = true := ip_n hr (by omega)
  have hp2 : ip (nI n) 41 = true := ip_n (by omega) (by omega)
  obtain ⟨iv', a1, a2, a3⟩ := t_make_loop (X := X) (d := d) (y := y) hL hr hn n 0 (pm_iw (pm_iw (pm_iw iv 1 3 (iv 1 3 ||| ((1 : Int32) <<< (nI r &&& 31)))) 3 r y) 4 r (nI n)) (by omega)
  rw [nI_0] at a1
  refine ⟨iv', ?_, chg_tr (chg_tr (chg_tr (chg_iw (by decide)) (chg_iw (by decide))) (chg_iw (by decide))) (chg_mo a2 (by decide)), ?_, ?_, ?_, fun j => ?_⟩
  · simp only [e20, b20_0, t_isRow (show 2 ≤ d by omega), hp, pm_then_i, pm_then_l, pm_then_v, bz_0, bz_n, bz_1, pm_zr0, pm_zr1, pm_zrI, if_true, if_false, not_true, not_false_eq_true, Bool.false_eq_true, true_and, and_true, false_and, and_false, z10, z01, zz0, eq_self, b20_4, b20_7, t_ip (n := 40) (show 1 ≤ d by omega) toI40, hp2, b20_13, b20_17 hL hin, nI_c (show r < 2147483648 by omega), a1]
  · rw [a2 1 (by decide), iw_n (by decide), iw_n (by decide), iw_s, upd_s]
  · rw [a2 3 (by decide), iw_n (by decide), iw_s, iw_n (by decide)]
  · rw [a2 4 (by decide), iw_s, iw_n (by decide), iw_n (by decide)]
  · rw [a3 j, Nat.add_zero, iw_n (by decide), iw_n (by decide), iw_n (by decide)]
/-- the reference makes a row -/
theorem m_row_loop (hL : pm_lay g) (hr : r < 8) {n : Nat} : ∀ m i (iv : pm_V), i + m = 40 → ∃ iv', pm_at X d 133 (65, [some (.ref 32), some (.int (nI r)), some (.int y), some (.int (nI n)), some (.int (nI i))], [], g, iv) = some (some (.int (nI n)), g, iv') ∧ chg [35] iv iv' ∧ ∀ j, iv' 35 j = if 40 * r + i ≤ j ∧ j < 40 * r + 40 then 0 else iv 35 j := by
  intro m
  induction m with
  | zero =>
    intro i iv hi
    have e : i = 40 := by omega
    subst e
    refine ⟨iv, ?_, chg_rf, fun j => by rw [if_neg (by omega)]⟩
    rw [b133_65, if_pos (show (40 : Int32) ≤ nI 40 from Int32.le_refl _), b133_91]
  | succ m ih =>
    intro i iv hi
    have h1 : ¬ (40 : Int32) ≤ nI i := by rw [le_i, toI40, nI_t (by omega)]; omega
    obtain ⟨p1, p2, -⟩ := r_mk2 hr (show i < 40 by omega)
    obtain ⟨iv', a1, a2, a3⟩ := ih (i + 1) (pm_iw iv 35 (40 * r + i) 0) (by omega)
    refine ⟨iv', ?_, chg_tr (chg_iw (by decide)) a2, fun j => ?_⟩
    · rw [b133_65, if_neg h1, b133_72 hL p1, p2, nI_1, a1]
    · rw [a3 j, iw_s]
      by_cases e : j = 40 * r + i
      · rw [e, if_neg (by omega), upd_s, if_pos (by omega)]
      · rw [upd_n e]
        by_cases q : 40 * r + (i + 1) ≤ j ∧ j < 40 * r + 40
        · rw [if_pos q, if_pos (by omega)]
        · rw [if_neg q, if_neg (by omega)]
theorem q_row (hd : 5 ≤ d) (h : RL g iv) : PR X d g iv 91 133 [.ref 0, .int x, .int y, .int z] [.ref 32, .int x, .int y, .int z] := by
  obtain ⟨d, rfl, hd1⟩ := pm_d1 hd
  obtain ⟨hg, v, co⟩ := h
  have hL := hg.1
  have co2 := CO_0 co
  have e40 : z ≤ 40 ↔ z.toInt ≤ 40 := by rw [le_i, toI40]
  have e0 : (0 : Int32) ≤ z ↔ 0 ≤ z.toInt := by rw [le_i, toI0]
  by_cases q : ip x 8 = true ∧ ip y 3 = true ∧ z.toInt ≤ 40
  · obtain ⟨q1, q2, q3⟩ := q
    obtain ⟨r, hr, rfl⟩ := ip_ex q1 (by omega)
    obtain ⟨l, hl, rfl⟩ := ip_ex q2 (by omega)
    have hin : vp_in (nI r) 8 := vp_n hr (by decide)
    by_cases q4 : 0 ≤ z.toInt
    · obtain ⟨n, hn, rfl, en⟩ := i_nI q4
      have hn40 : n ≤ 40 := by omega
      obtain ⟨iv1, a1, a2, a3, a4, a5, a6⟩ := t_make (X := X) (iv := iv) (y := nI l) (show 3 ≤ d by omega) hL hr hn40
      obtain ⟨iv3, c1, c2, c3⟩ := m_row_loop (X := X) (d := d) (y := nI l) (n := n) hL hr 40 0 (pm_iw (pm_iw (pm_iw (pm_iw (pm_iw iv1 0 7 0) 32 0 0) 32 1 0) 33 r (nI l)) 34 r (nI n)) (by omega)
      rw [nI_0] at c1
      have f33 : iv3 33 = upd (iv 33) r (nI l) := by
        rw [c2 33 (by decide), iw_n (by decide), iw_s, iw_n (by decide), iw_n (by decide), iw_n (by decide), a2 33 (by decide)]
      have f34 : iv3 34 = upd (iv 34) r (nI n) := by
        rw [c2 34 (by decide), iw_s, iw_n (by decide), iw_n (by decide), iw_n (by decide), iw_n (by decide), a2 34 (by decide)]
      have f1 : iv3 1 3 = iv 1 3 ||| ((1 : Int32) <<< (nI r &&& 31)) := by
        rw [c2 1 (by decide), iw_n (by decide), iw_n (by decide), iw_n (by decide), iw_n (by decide), iw_n (by decide), a3]
      have f3 : iv3 3 = upd (iv 3) r (nI l) := by
        rw [c2 3 (by decide), iw_n (by decide), iw_n (by decide), iw_n (by decide), iw_n (by decide), iw_n (by decide), a4]
      have f4 : iv3 4 = upd (iv 4) r (nI n) := by
        rw [c2 4 (by decide), iw_n (by decide), iw_n (by decide), iw_n (by decide), iw_n (by decide), iw_n (by decide), a5]
      have f2 : ∀ j, iv3 2 j = if 40 * r ≤ j ∧ j < 40 * r + n then 0 else iv 2 j := fun j => by
        rw [c2 2 (by decide), iw_n (by decide), iw_n (by decide), iw_n (by decide), iw_n (by decide), iw_n (by decide), a6 j]
      have f35 : ∀ j, iv3 35 j = if 40 * r ≤ j ∧ j < 40 * r + 40 then 0 else iv 35 j := fun j => by
        rw [c3 j, Nat.add_zero, iw_n (by decide), iw_n (by decide), iw_n (by decide), iw_n (by decide), iw_n (by decide), a2 35 (by decide)]
      have f32 : iv3 32 = upd (upd (iv 32) 0 0) 1 0 := by
        rw [c2 32 (by decide), iw_n (by decide), iw_n (by decide), iw_s, iw_s, iw_n (by decide), a2 32 (by decide)]
      have f0 : iv3 0 7 = 0 := by
        rw [c2 0 (by decide), iw_n (by decide), iw_n (by decide), iw_n (by decide), iw_n (by decide), iw_s, upd_s]
      have hrr : RR iv3 := by
        refine RR_upd co.2.1 hr (fun i hi ne => ?_) (fun q hq ne => ?_) (fun j hj => ?_) (Or.inr ⟨?_, l, n, hl, hn40, ?_, ?_, ?_, ?_, fun i hi => ?_⟩)
        · rw [f1, b_or, b_one (by omega) hi, decide_eq_false ne, Bool.or_false]
        · rw [f33, f3, f34, f4, upd_n ne, upd_n ne, upd_n ne, upd_n ne]
          exact ⟨rfl, rfl, rfl, rfl⟩
        · rw [f2, f35, if_neg (by omega), if_neg (by omega)]
          exact ⟨rfl, rfl⟩
        · rw [f1, b_or, b_one (by omega) (by omega), decide_eq_true rfl, Bool.or_true]
        · rw [f33, upd_s]
        · rw [f3, upd_s]
        · rw [f34, upd_s]
        · rw [f4, upd_s]
        · rw [f2, f35, if_pos (by omega), if_pos (by omega)]
      refine ⟨nI n, pm_iw iv1 0 7 0, iv3, ?_, ?_, hg, v, CO_rw co (chg_tr (chg_mo a2 (by decide)) (chg_tr (chg_iw (by decide)) (chg_tr (chg_iw (by decide)) (chg_tr (chg_iw (by decide)) (chg_tr (chg_iw (by decide)) (chg_tr (chg_iw (by decide)) (chg_mo c2 (by decide)))))))) (fun c p0 p1 => by rw [f32, upd_n p1, upd_n p0]) hrr (by rw [f0, f32, upd_s])⟩
      · simp only [e91, b91_0, t_isRow (show 2 ≤ d by omega), q1, pm_then_i, pm_then_l, pm_then_v, bz_0, bz_n, bz_1, pm_zr0, pm_zr1, pm_zrI, if_true, if_false, not_true, not_false_eq_true, Bool.false_eq_true, true_and, and_true, false_and, and_false, z10, z01, zz0, eq_self, b91_4, b91_7, t_ip (n := 2) (show 1 ≤ d by omega) toI2, q2, b91_12, b91_15, e40, q3, b91_24, e0, q4, b91_34 hL, a1, b91_44 hL, t_answered (show 1 ≤ d by omega) hL, b91_49]
      · simp only [e133, b133_0 hL, m_isRow (show 2 ≤ d by omega), q1, pm_then_i, pm_then_l, pm_then_v, bz_0, bz_n, bz_1, pm_zr0, pm_zr1, pm_zrI, if_true, if_false, not_true, not_false_eq_true, Bool.false_eq_true, true_and, and_true, false_and, and_false, z10, z01, zz0, eq_self, b133_9, b133_12, m_ip (n := 2) (show 1 ≤ d by omega) toL2, q2, b133_21, b133_24, e40, q3, b133_33 hL, e0, q4, b133_48 hL hin, nI_c (show r < 2147483648 by omega), c1]
    · refine ⟨-1000010 - 4, pm_iw iv 0 7 4, pm_iw (pm_iw (pm_iw (pm_iw iv 0 7 4) 32 0 0) 32 1 0) 32 1 4, ?_, ?_, hg, v, CO_sx co (chg_tr (chg_iw (by decide)) (chg_tr (chg_iw (by decide)) (chg_tr (chg_iw (by decide)) (chg_iw (by decide))))) (fun c p0 p1 => by rw [iw_s, iw_s, iw_s, upd_n p1, upd_n p1, upd_n p0, iw_n (by decide)]) (by rw [iw_n (by decide), iw_n (by decide), iw_n (by decide), iw_s, upd_s, iw_s, upd_s])⟩
      · simp only [e91, b91_0, t_isRow (show 2 ≤ d by omega), q1, pm_then_i, pm_then_l, pm_then_v, bz_0, bz_n, bz_1, pm_zr0, pm_zr1, pm_zrI, if_true, if_false, not_true, not_false_eq_true, Bool.false_eq_true, true_and, and_true, false_and, and_false, z10, z01, zz0, eq_self, b91_4, b91_7, t_ip (n := 2) (show 1 ≤ d by omega) toI2, q2, b91_12, b91_15, e40, q3, b91_24, e0, q4, b91_28 hL, t_found (show 1 ≤ d by omega) hL, b91_33]
      · simp only [e133, b133_0 hL, m_isRow (show 2 ≤ d by omega), q1, pm_then_i, pm_then_l, pm_then_v, bz_0, bz_n, bz_1, pm_zr0, pm_zr1, pm_zrI, if_true, if_false, not_true, not_false_eq_true, Bool.false_eq_true, true_and, and_true, false_and, and_false, z10, z01, zz0, eq_self, b133_9, b133_12, m_ip (n := 2) (show 1 ≤ d by omega) toL2, q2, b133_21, b133_24, e40, q3, b133_33 hL, e0, q4, b133_42 hL, m_finding (show 1 ≤ d by omega) hL, b133_47]
  · refine ⟨-1000001, iv, pm_iw iv 32 0 0, ?_, ?_, hg, v, co2⟩
    · simp only [e91, b91_0, t_isRow (show 2 ≤ d by omega), pm_then_i, pm_then_l, pm_then_v, bz_0, bz_n, bz_1, pm_zr0, pm_zr1, pm_zrI, if_true, if_false, not_true, not_false_eq_true, Bool.false_eq_true, true_and, and_true, false_and, and_false, z10, z01, zz0, eq_self, b91_4, b91_7, t_ip (n := 2) (show 1 ≤ d by omega) toI2, b91_12, b91_15, e40, b91_21]
      by_cases q1 : ip x 8 = true <;> by_cases q2 : ip y 3 = true <;> by_cases q3 : z.toInt ≤ 40 <;> first | (simp only [q1, q2, q3, bz_0, bz_n, bz_1, pm_zr0, pm_zr1, pm_zrI, if_true, if_false, not_true, not_false_eq_true, Bool.false_eq_true, true_and, and_true, false_and, and_false, z10, z01, zz0, eq_self]; done) | exact absurd ⟨q1, q2, q3⟩ q
    · simp only [e133, b133_0 hL, m_isRow (show 2 ≤ d by omega), pm_then_i, pm_then_l, pm_then_v, bz_0, bz_n, bz_1, pm_zr0, pm_zr1, pm_zrI, if_true, if_false, not_true, not_false_eq_true, Bool.false_eq_true, true_and, and_true, false_and, and_false, z10, z01, zz0, eq_self, b133_9, b133_12, m_ip (n := 2) (show 1 ≤ d by omega) toL2, b133_21, b133_24, e40, b133_30]
      by_cases q1 : ip x 8 = true <;> by_cases q2 : ip y 3 = true <;> by_cases q3 : z.toInt ≤ 40 <;> first | (simp only [q1, q2, q3, bz_0, bz_n, bz_1, pm_zr0, pm_zr1, pm_zrI, if_true, if_false, not_true, not_false_eq_true, Bool.false_eq_true, true_and, and_true, false_and, and_false, z10, z01, zz0, eq_self]; done) | exact absurd ⟨q1, q2, q3⟩ q
end Q52
