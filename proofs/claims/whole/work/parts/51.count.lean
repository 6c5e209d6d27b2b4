/-! count -/
theorem cB_split (F : Nat → Bool) (f : Nat → Bool) (b : Nat) : ∀ n, (∀ i, i < n → F (b + i) = f i) → cB F (b + n) = cB F b + cB f n
  | 0, _ => rfl
  | n + 1, h => by
    show cB F (b + n + 1) = _
    rw [cB, cB_split F f b n (fun i hi => h i (by omega)), h n (by omega), cB, Nat.add_assoc]
/-- the stones of v -/
def stF8 (v : HV) (k : Nat) : Bool := vS v (k / 20) (k % 20)
def stC (v : HV) : Nat := cB (stF8 v) 80
theorem stC_eq (v : HV) : stC v = cB (vS v 0) 20 + cB (vS v 1) 20 + cB (vS v 2) 20 + cB (vS v 3) 20 := by
  have h : ∀ l i, i < 20 → stF8 v (20 * l + i) = vS v l i := fun l i hi => by
    unfold stF8
    rw [show (20 * l + i) / 20 = l by omega, show (20 * l + i) % 20 = i by omega]
  have h0 := cB_split (stF8 v) (vS v 0) (20 * 0) 20 (h 0)
  have h1 := cB_split (stF8 v) (vS v 1) (20 * 1) 20 (h 1)
  have h2 := cB_split (stF8 v) (vS v 2) (20 * 2) 20 (h 2)
  have h3 := cB_split (stF8 v) (vS v 3) (20 * 3) 20 (h 3)
  unfold stC
  show cB (stF8 v) (20 * 3 + 20) = _
  rw [h3]
  show cB (stF8 v) (20 * 2 + 20) + _ = _
  rw [h2]
  show cB (stF8 v) (20 * 1 + 20) + _ + _ = _
  rw [h1]
  show cB (stF8 v) (20 * 0 + 20) + _ + _ + _ = _
  rw [h0]
  show 0 + _ + _ + _ + _ = _
  rw [Nat.zero_add]
section Q51
variable {X : pm_X} {d k : Nat} {g : pm_G} {iv : pm_V} {v : HV} {x y : Int32}
theorem pop_st (hv : SV iv k v) (ho : Hok v) {l : Nat} (hl : l < 4) : popI (iv (k + 1) l) = nI (cB (vS v l) 20) := by
  have hD := ho.2.1
  have hz : ∀ i, 20 ≤ i → vS v l i = false := fun i hi => by
    by_cases q : vS v l i = true
    · have := (ho.2.2.2.2.1 l i q).2
      omega
    · exact Bool.eq_false_iff.mpr q
  rw [popI_eq (fun i a b => by rw [hv.2.2.2.2.2.1 l hl i b, hz i (by omega)])]
  have e : cB (bt (iv (k + 1) l)) (20 + 4) = cB (bt (iv (k + 1) l)) 20 := cB_more (fun i a b => by rw [hv.2.2.2.2.2.1 l hl i (by omega), hz i a])
  show nI (cB (bt (iv (k + 1) l)) (20 + 4)) = _
  rw [e, cB_cong (fun i hi => hv.2.2.2.2.2.1 l hl i (by omega))]
theorem t_stoneCount (hd : 2 ≤ d) (hK : pm_sl g k) (hv : SV iv k v) (ho : Hok v) : pm_c X d 32 [.ref k] g iv = some (some (.int (nI (stC v))), g, iv) := by
  obtain ⟨d, rfl, hd1⟩ := pm_d1 hd
  have st : ∀ l a, l < 4 → pm_at X d 32 (4, [some (.ref k), some (.int (nI a)), some (.int (nI l))], [], g, iv) = pm_at X d 32 (4, [some (.ref k), some (.int (nI (a + cB (vS v l) 20))), some (.int (nI (l + 1)))], [], g, iv) := fun l a hl => by
    have h1 : ¬ (4 : Int32) ≤ nI l := by rw [le_i, toI4, nI_t (by omega)]; omega
    have hin : vp_in (nI l) 4 := vp_n hl (by decide)
    simp only [b32_4, h1, if_false, b32_9 hK hin, nI_c (show l < 2147483648 by omega), t_bitCount hd1, pop_st hv ho hl, pm_then_i, pm_then_l, pm_then_v, b32_19, nI_1, nI_add]
  have s0 := st 0 0 (by omega)
  rw [nI_0] at s0
  rw [e32, b32_0, s0, st 1 _ (by omega), st 2 _ (by omega), st 3 _ (by omega), b32_4, if_pos (show (4 : Int32) ≤ nI 4 from Int32.le_refl _), b32_27, stC_eq, Nat.zero_add]
theorem t_chockedCount (hd : 2 ≤ d) (hK : pm_sl g k) (hv : SV iv k v) (ho : Hok v) : pm_c X d 31 [.ref k] g iv = some (some (.int (nI (cB (vC v) (vN v)))), g, iv) := by
  obtain ⟨d, rfl, hd1⟩ := pm_d1 hd
  have hN := ho.2.2.1
  have hb : ∀ i, i < 32 → bt (iv k 4) i = (decide (i < vN v) && vC v i) := hv.2.2.2.2.1
  have e0 : popI (iv k 4) = nI (cB (vC v) (vN v)) := by
    rw [popI_eq (fun i a b => by rw [hb i b, decide_eq_false (by omega), Bool.false_and])]
    have e : cB (bt (iv k 4)) (vN v + (24 - vN v)) = cB (bt (iv k 4)) (vN v) := cB_more (fun i a b => by rw [hb i (by omega), decide_eq_false (by omega), Bool.false_and])
    rw [show 24 = vN v + (24 - vN v) by omega, e, cB_cong (fun i hi => by rw [hb i (by omega), decide_eq_true hi, Bool.true_and])]
  rw [e31, b31_0 hK, t_bitCount hd1, e0]
  simp only [pm_then_i, pm_then_l, pm_then_v, b31_7]
/-- is there a row r? -/
abbrev rwB (iv : pm_V) (r : Nat) : Bool := bt (iv 1 3) r
theorem t_rowsSize (hd : 2 ≤ d) (hL : pm_lay g) (hr : RR iv) : pm_c X d 19 [.ref 1] g iv = some (some (.int (nI (cB (rwB iv) 8))), g, iv) := by
  obtain ⟨d, rfl, hd1⟩ := pm_d1 hd
  have e0 : popI (iv 1 3) = nI (cB (rwB iv) 8) := by
    rw [popI_eq (fun i a b => hr.1 i (by omega) b)]
    have e : cB (rwB iv) (8 + 16) = cB (rwB iv) 8 := cB_more (fun i a b => hr.1 i a (by omega))
    show nI (cB (rwB iv) (8 + 16)) = _
    rw [e]
  rw [e19, b19_0 hL, t_bitCount hd1, e0]
  simp only [pm_then_i, pm_then_l, pm_then_v, b19_7]
theorem m_c0_loop (hL : pm_lay g) (hr : RR iv) : ∀ m r, r + m = 8 → pm_at X d 201 (54, [some (.ref 32), some (.int x), some (.int (nI (cB (rwB iv) r))), some (.int (nI r))], [], g, iv) = some (some (.int (nI (cB (rwB iv) 8))), g, iv) := by
  intro m
  induction m with
  | zero =>
    intro r h
    have e : r = 8 := by omega
    subst e
    rw [b201_54, if_pos (show (8 : Int32) ≤ nI 8 from Int32.le_refl _), b201_83]
  | succ m ih =>
    intro r h
    have h1 : ¬ (8 : Int32) ≤ nI r := by rw [le_i, toI8, nI_t (by omega)]; omega
    have hin : vp_in (nI r) 8 := vp_n (by omega) (by decide)
    rw [← ih (r + 1) (by omega), b201_54, if_neg h1, b201_60 hL hin, nI_c (by omega), cB]
    rcases hr.2 r (by omega) with ⟨q1, q2⟩ | ⟨q1, l, n, hl, hn, q2, q3⟩
    · rw [q2, if_pos (by decide), b201_74, b201_75, nI_1, show rwB iv r = false from q1, if_neg Bool.false_ne_true, Int32.add_zero]
      rfl
    · rw [q2, if_neg (nI_pos (by omega)), b201_70, b201_75, nI_1, show rwB iv r = true from q1, if_pos rfl, nI_1]
theorem m_c2_loop (hL : pm_lay g) (hv : HAr (iv 36) v) : ∀ m r, r + m = 80 → pm_at X d 201 (94, [some (.ref 32), some (.int x), some (.int (nI (cB (stF8 v) r))), some (.int (nI r))], [], g, iv) = some (some (.int (nI (stC v))), g, iv) := by
  intro m
  induction m with
  | zero =>
    intro r h
    have e : r = 80 := by omega
    subst e
    rw [b201_94, if_pos (show (80 : Int32) ≤ nI 80 from Int32.le_refl _), b201_127]
    rfl
  | succ m ih =>
    intro r h
    have h1 : ¬ (80 : Int32) ≤ nI r := by rw [le_i, show (80 : Int32).toInt = 80 from rfl, nI_t (by omega)]; omega
    have e1 : nI r / 20 = nI (r / 20) := pk_div (a := r) (d := 20) (by omega) (by omega) (by omega)
    have e2 : nI r - nI r / 20 * 20 = nI (r % 20) := pk_rem (a := r) (d := 20) (by omega) (by omega) (by omega)
    have e3 : (5 : Int32) + nI (r / 20) = nI (5 + r / 20) := nI_add 5 (r / 20)
    have hin : vp_in (5 + nI r / 20) 45 := by rw [e1, e3]; exact vp_n (by omega) (by decide)
    rw [← ih (r + 1) (by omega), b201_94, if_neg h1, b201_100 hL hin, e2, e1, e3, nI_c (by omega), b_tst (by omega), hv.2.2.2.2.1 (r / 20) (by omega) (r % 20) (by omega), nI_1, cB]
    show pm_at X d 201 (94, [_, _, some (.int (_ + if stF8 v r = true then 1 else 0)), _], [], g, iv) = _
    by_cases q : stF8 v r = true
    · rw [if_pos q, if_pos q, nI_1]
    · rw [if_neg q, if_neg q, Int32.add_zero]
      rfl
theorem m_c5_loop (hd : 1 ≤ d) (hL : pm_lay g) (hv : HAr (iv 36) v) (ho : Hok v) : ∀ m r, r + m = vN v → pm_at X d 201 (143, [some (.ref 32), some (.int x), some (.int (nI (cB (vC v) r))), some (.int (nI r))], [], g, iv) = some (some (.int (nI (cB (vC v) (vN v)))), g, iv) := by
  have hN := ho.2.2.1
  intro m
  induction m with
  | zero =>
    intro r h
    have e : r = vN v := by omega
    subst e
    rw [b201_143 hL, hv.2.2.1, if_pos (Int32.le_refl _), b201_168]
  | succ m ih =>
    intro r h
    have h1 : ¬ nI (vN v) ≤ nI r := nI_ge (by omega) (by omega)
    rw [← ih (r + 1) (by omega), b201_143 hL, hv.2.2.1, if_neg h1, b201_153 hL, m_ofC hd hL hv ho (by omega)]
    simp only [pm_then_i, pm_then_l, pm_then_v, b201_160, nI_1, cB]
    by_cases q : vC v r = true
    · rw [if_pos q, if_pos q, nI_1]
    · rw [if_neg q, if_neg q, Int32.add_zero]
      rfl
theorem q_count (hd : 6 ≤ d) (h : RL g iv) : PR X d g iv 118 201 [.ref 0, .int x] [.ref 32, .int x] := by
  obtain ⟨d, rfl, hd1⟩ := pm_d1 hd
  obtain ⟨hg, v, co⟩ := h
  have hL := hg.1
  have hv := co.1.1
  have ho := co.1.2.2.1
  have hN := ho.2.2.1
  have co2 := CO_0 co
  have hw := co2.1.2.1
  have hr2 := co2.2.1
  by_cases q1 : ip x 7 = true
  · obtain ⟨j, hj, rfl⟩ := ip_ex q1 (by omega)
    have e : j = 0 ∨ j = 1 ∨ j = 2 ∨ j = 3 ∨ j = 4 ∨ j = 5 ∨ j = 6 := by omega
    rcases e with rfl | rfl | rfl | rfl | rfl | rfl | rfl
    · refine ⟨nI (cB (rwB iv) 8), iv, pm_iw iv 32 0 0, ?_, ?_, hg, v, co2⟩
      · rw [e118, b118_0_c0 (show nI 0 = 0 from rfl), b118_44 hL, t_rowsSize (by omega) hL co.2.1]
        simp only [pm_then_i, pm_then_l, pm_then_v, b118_51]
      · have hl := m_c0_loop (X := X) (d := d) (x := nI 0) hL hr2 8 0 (by omega)
        rw [e201, b201_0_c0 hL (show nI 0 = 0 from rfl), b201_52]
        exact hl
    · refine ⟨nI (vN v), iv, pm_iw iv 32 0 0, ?_, ?_, hg, v, co2⟩
      · rw [e118, b118_0_c1 (show nI 1 = 1 from rfl), b118_52 hL, t_houseCount (by omega) (lay_now hL), hv.2.2.1]
        simp only [pm_then_i, pm_then_l, pm_then_v, b118_59]
      · rw [e201, b201_0_c1 hL (show nI 1 = 1 from rfl), b201_85 hL, hw.2.2.1]
    · refine ⟨nI (stC v), iv, pm_iw iv 32 0 0, ?_, ?_, hg, v, co2⟩
      · rw [e118, b118_0_c2 (show nI 2 = 2 from rfl), b118_60 hL, t_stoneCount (by omega) (lay_now hL) hv ho]
        simp only [pm_then_i, pm_then_l, pm_then_v, b118_67]
      · have hl := m_c2_loop (X := X) (d := d) (x := nI 2) hL hw 80 0 (by omega)
        rw [e201, b201_0_c2 hL (show nI 2 = 2 from rfl), b201_92]
        exact hl
    · refine ⟨nI (vW v), iv, pm_iw iv 32 0 0, ?_, ?_, hg, v, co2⟩
      · rw [e118, b118_0_c3 (show nI 3 = 3 from rfl), b118_68 hL, t_wintersGone (by omega) (lay_now hL), hv.2.2.2.1]
        simp only [pm_then_i, pm_then_l, pm_then_v, b118_75]
      · rw [e201, b201_0_c3 hL (show nI 3 = 3 from rfl), b201_129 hL, hw.2.2.2.1]
    · obtain ⟨a, o, r, b1, b2, b3⟩ := co2.2.2.2.1
      obtain ⟨d, rfl, hd2⟩ := pm_d1 (show (d - 1) + 1 ≤ d by omega)
      refine ⟨nI a, iv, pm_iw iv 32 0 0, ?_, ?_, hg, v, co2⟩
      · have e : iv 7 2 = nI a := by have := b1.2.2.2.1; rw [iw_n (by decide)] at this; exact this
        rw [e118, b118_0_c4 (show nI 4 = 4 from rfl), b118_76 hL, e1, b1_0 hL, e]
        simp only [pm_then_i, pm_then_l, pm_then_v, b118_83]
      · rw [e201, b201_0_c4 hL (show nI 4 = 4 from rfl), b201_136 hL, b2.1]
    · refine ⟨nI (cB (vC v) (vN v)), iv, pm_iw iv 32 0 0, ?_, ?_, hg, v, co2⟩
      · rw [e118, b118_0_c5 (show nI 5 = 5 from rfl), b118_84 hL, t_chockedCount (by omega) (lay_now hL) hv ho]
        simp only [pm_then_i, pm_then_l, pm_then_v, b118_91]
      · have hl := m_c5_loop (X := X) (d := d) (x := nI 5) (by omega) hL hw ho (vN v) 0 (by omega)
        rw [e201, b201_0_c5 hL (show nI 5 = 5 from rfl), b201_141]
        exact hl
    · obtain ⟨n, hn, b1, b2, b3⟩ := co2.2.2.1
      obtain ⟨d, rfl, hd2⟩ := pm_d1 (show (d - 1) + 1 ≤ d by omega)
      refine ⟨nI n, iv, pm_iw iv 32 0 0, ?_, ?_, hg, v, co2⟩
      · have e : iv 5 1 = nI n := by rw [iw_n (by decide)] at b1; exact b1
        rw [e118, b118_0_c6 (show nI 6 = 6 from rfl), b118_92 hL, e67, b67_0 hL, e]
        simp only [pm_then_i, pm_then_l, pm_then_v, b118_99]
      · rw [e201, b201_0_c6 hL (show nI 6 = 6 from rfl), b201_170 hL, b2]
  · have r : x.toInt < 0 ∨ 6 < x.toInt := by
      have q2 : ¬ (0 ≤ x.toInt ∧ x.toInt < 7) := fun e => q1 (decide_eq_true e)
      omega
    refine ⟨-1000001, iv, pm_iw iv 32 0 0, ?_, ?_, hg, v, co2⟩
    · rw [e118, b118_0_df r, b118_100]
    · rw [e201, b201_0_df hL r, b201_175]
end Q51
