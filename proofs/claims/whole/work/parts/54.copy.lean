/-! copy -/
/-- n items from S on, laid at D -/
def cpF (f : Nat → Int32) (S D n : Nat) : Nat → Int32 := fun k => if D ≤ k ∧ k < D + n then f (S + (k - D)) else f k
def pcB (m : Nat) (i n : Int32) : Bool := decide (0 ≤ i.toInt ∧ 0 ≤ n.toInt ∧ i.toInt + n.toInt ≤ m)
section Q54
variable {X : pm_X} {d k : Nat} {g : pm_G} {iv : pm_V} {v : HV} {x y z : Int32} {r : Nat}
theorem t_placesB (hd : 4 ≤ d) (hL : pm_lay g) (hr : r < 8) (hp : bt (iv 1 3) r = true) {m : Nat} (h4 : iv 4 r = nI m) (hm : m ≤ 40) : pm_c X d 16 [.ref 1, .int (nI r), .int y, .int z] g iv = some (some (.int (if pcB m y z = true then 1 else 0)), g, iv) := by
  by_cases q : pcB m y z = true
  · have q' : plc m y z := by unfold pcB at q; rw [decide_eq_true_eq] at q; exact q
    have hP := t_places_y (X := X) (d := d) (g := g) (iv := iv) (y := y) (z := z) (c := isTrue q') hd hL hr hp h4 hm
    rw [@if_pos _ (isTrue q') q'] at hP
    rw [hP, if_pos q]
  · have q' : ¬ plc m y z := fun e => q (by unfold pcB; rw [decide_eq_true_eq]; exact e)
    have hP := t_places_y (X := X) (d := d) (g := g) (iv := iv) (y := y) (z := z) (c := isFalse q') hd hL hr hp h4 hm
    rw [@if_neg _ (isFalse q') q'] at hP
    rw [hP, if_neg q]
theorem l_add (x y : Int32) : (x.toInt64 + y.toInt64).toInt = x.toInt + y.toInt := by
  have h1 := x.toInt_lt
  have h2 := x.le_toInt
  have h3 := y.toInt_lt
  have h4 := y.le_toInt
  rw [Int64.toInt_add, wd_t, wd_t]
  exact Int.bmod_eq_of_le (by omega) (by omega)
theorem t_move (hd : 5 ≤ d) (hL : pm_lay g) {a b i j n ma mb : Nat} (ha : a < 8) (hb : b < 8) (pa : bt (iv 1 3) a = true) (pb : bt (iv 1 3) b = true) (h4 : iv 4 a = nI ma) (h5 : iv 4 b = nI mb) (hma : ma ≤ 40) (hmb : mb ≤ 40) (hi : i + n ≤ ma) (hj : j + n ≤ mb) : pm_c X d 22 [.ref 1, .int (nI a), .int (nI i), .int (nI b), .int (nI j), .int (nI n)] g iv = some (none, g, pm_ir iv 2 (cpF (iv 2) (40 * a + i) (40 * b + j) n)) := by
  obtain ⟨d, rfl, hd1⟩ := pm_d1 hd
  have q1 : pcB ma (nI i) (nI n) = true := decide_eq_true (by rw [nI_t (by omega), nI_t (by omega)]; omega)
  have q2 : pcB mb (nI j) (nI n) = true := decide_eq_true (by rw [nI_t (by omega), nI_t (by omega)]; omega)
  have e1 : nI a * 40 + nI i = nI (40 * a + i) := by
    show nI a * nI 40 + nI i = _
    rw [pk_mul, nI_add, Nat.mul_comm]
  have e2 : nI b * 40 + nI j = nI (40 * b + j) := by
    show nI b * nI 40 + nI j = _
    rw [pk_mul, nI_add, Nat.mul_comm]
  have c1 : ¬ ((nI a * 40 + nI i) : Int32) < 0 ∧ ¬ ((nI b * 40 + nI j) : Int32) < 0 ∧ ¬ (nI n : Int32) < 0 ∧ ((nI a * 40 + nI i) : Int32).toNatClampNeg + (nI n : Int32).toNatClampNeg ≤ 320 ∧ ((nI b * 40 + nI j) : Int32).toNatClampNeg + (nI n : Int32).toNatClampNeg ≤ 320 := by
    rw [e1, e2, nI_c (by omega), nI_c (by omega), nI_c (by omega)]
    exact ⟨nI_pos (by omega), nI_pos (by omega), nI_pos (by omega), by omega, by omega⟩
  simp only [e22, b22_0 hL, t_placesB (show 4 ≤ d by omega) hL ha pa h4 hma, q1, pm_then_i, pm_then_l, pm_then_v, bz_0, bz_n, bz_1, pm_zr0, pm_zr1, pm_zrI, if_true, if_false, not_true, not_false_eq_true, Bool.false_eq_true, true_and, and_true, false_and, and_false, z10, z01, zz0, eq_self, b22_8, b22_11 hL, t_placesB (show 4 ≤ d by omega) hL hb pb h5 hmb, q2, b22_20, b22_23 hL c1, b22_49]
  rw [e1, e2, nI_c (by omega), nI_c (by omega), nI_c (by omega)]
  rfl
theorem m_copy_up (hL : pm_lay g) {a b i j n : Nat} (ha : a < 8) (hb : b < 8) (hi : i + n ≤ 40) (hj : j + n ≤ 40) (hu : j ≤ i) {x6 : Int32} (h6 : ¬ x6 = 0) : ∀ m k (iv : pm_V) (f : Nat → Int32) (z8 : Option Value), k + m = n → iv 35 = cpF f (40 * a + i) (40 * b + j) k →
    ∃ iv', pm_at X d 135 (143, [some (.ref 32), some (.int (nI a)), some (.int (nI i)), some (.int (nI b)), some (.int (nI j)), some (.int (nI n)), some (.int x6), some (.int (nI k)), z8], [], g, iv) = some (some (.int (nI n)), g, iv') ∧ chg [35] iv iv' ∧ iv' 35 = cpF f (40 * a + i) (40 * b + j) n := by
  intro m
  induction m with
  | zero =>
    intro k iv f z8 hk hf
    have e : k = n := by omega
    subst e
    refine ⟨iv, ?_, chg_rf, hf⟩
    rw [b135_143, if_pos (Int32.le_refl _), b135_204]
  | succ m ih =>
    intro k iv f z8 hk hf
    have h1 : ¬ nI n ≤ nI k := nI_ge (by omega) (by omega)
    have e1 : 40 * nI a + nI i + nI k = nI (40 * a + i + k) := by
      show nI 40 * nI a + nI i + nI k = _
      rw [pk_mul, nI_add, nI_add]
    have e2 : 40 * nI b + nI j + nI k = nI (40 * b + j + k) := by
      show nI 40 * nI b + nI j + nI k = _
      rw [pk_mul, nI_add, nI_add]
    have i1 : vp_in (40 * nI a + nI i + nI k) 320 := by rw [e1]; exact vp_n (by omega) (by decide)
    have i2 : vp_in (40 * nI b + nI j + nI k) 320 := by rw [e2]; exact vp_n (by omega) (by decide)
    have hst : cpF f (40 * a + i) (40 * b + j) (k + 1) = upd (cpF f (40 * a + i) (40 * b + j) k) (40 * b + j + k) (cpF f (40 * a + i) (40 * b + j) k (40 * a + i + k)) := by
      funext q
      by_cases e : q = 40 * b + j + k
      · subst e
        rw [upd_s]
        unfold cpF
        rw [if_pos (by omega), if_neg (by omega), show 40 * a + i + (40 * b + j + k - (40 * b + j)) = 40 * a + i + k by omega]
      · rw [upd_n e]
        unfold cpF
        by_cases p : 40 * b + j ≤ q ∧ q < 40 * b + j + k
        · rw [if_pos p, if_pos (by omega)]
        · rw [if_neg p, if_neg (by omega)]
    obtain ⟨iv', a1, a2, a3⟩ := ih (k + 1) (pm_iw iv 35 (40 * b + j + k) (iv 35 (40 * a + i + k))) f (some (.int (nI k))) (by omega) (by rw [iw_s, hf, hst])
    refine ⟨iv', ?_, chg_tr (chg_iw (by decide)) a2, a3⟩
    rw [b135_143, if_neg h1, b135_150, if_neg h6, b135_155, b135_167 hL i1 i2, e1, e2, nI_c (by omega), nI_c (by omega), nI_1, a1]
/-- the last k of n items are laid -/
def cpB (f : Nat → Int32) (S D n k : Nat) : Nat → Int32 := fun q => if D + (n - k) ≤ q ∧ q < D + n then f (S + (q - D)) else f q
theorem m_copy_dn (hL : pm_lay g) {a b i j n : Nat} (ha : a < 8) (hb : b < 8) (hi : i + n ≤ 40) (hj : j + n ≤ 40) (hu : i < j) : ∀ m k (iv : pm_V) (f : Nat → Int32) (z8 : Option Value), k + m = n → iv 35 = cpB f (40 * a + i) (40 * b + j) n k →
    ∃ iv', pm_at X d 135 (143, [some (.ref 32), some (.int (nI a)), some (.int (nI i)), some (.int (nI b)), some (.int (nI j)), some (.int (nI n)), some (.int 0), some (.int (nI k)), z8], [], g, iv) = some (some (.int (nI n)), g, iv') ∧ chg [35] iv iv' ∧ iv' 35 = cpF f (40 * a + i) (40 * b + j) n := by
  intro m
  induction m with
  | zero =>
    intro k iv f z8 hk hf
    have e : k = n := by omega
    subst e
    refine ⟨iv, ?_, chg_rf, ?_⟩
    · rw [b135_143, if_pos (Int32.le_refl _), b135_204]
    · rw [hf]
      funext q
      unfold cpB cpF
      rw [Nat.sub_self, Nat.add_zero]
  | succ m ih =>
    intro k iv f z8 hk hf
    have h1 : ¬ nI n ≤ nI k := nI_ge (by omega) (by omega)
    have e0 : nI n - 1 - nI k = nI (n - 1 - k) := by
      rw [show nI n - 1 = nI (n - 1) from pk_sub (a := n) (b := 1) (by omega), show nI (n - 1) - nI k = nI (n - 1 - k) from pk_sub (by omega)]
    have e1 : 40 * nI a + nI i + nI (n - 1 - k) = nI (40 * a + i + (n - 1 - k)) := by
      show nI 40 * nI a + nI i + nI (n - 1 - k) = _
      rw [pk_mul, nI_add, nI_add]
    have e2 : 40 * nI b + nI j + nI (n - 1 - k) = nI (40 * b + j + (n - 1 - k)) := by
      show nI 40 * nI b + nI j + nI (n - 1 - k) = _
      rw [pk_mul, nI_add, nI_add]
    have i1 : vp_in (40 * nI a + nI i + nI (n - 1 - k)) 320 := by rw [e1]; exact vp_n (by omega) (by decide)
    have i2 : vp_in (40 * nI b + nI j + nI (n - 1 - k)) 320 := by rw [e2]; exact vp_n (by omega) (by decide)
    have hst : cpB f (40 * a + i) (40 * b + j) n (k + 1) = upd (cpB f (40 * a + i) (40 * b + j) n k) (40 * b + j + (n - 1 - k)) (cpB f (40 * a + i) (40 * b + j) n k (40 * a + i + (n - 1 - k))) := by
      funext q
      by_cases e : q = 40 * b + j + (n - 1 - k)
      · subst e
        rw [upd_s]
        unfold cpB
        rw [if_pos (by omega), if_neg (by omega), show 40 * a + i + (40 * b + j + (n - 1 - k) - (40 * b + j)) = 40 * a + i + (n - 1 - k) by omega]
      · rw [upd_n e]
        unfold cpB
        by_cases p : 40 * b + j + (n - k) ≤ q ∧ q < 40 * b + j + n
        · rw [if_pos p, if_pos (by omega)]
        · rw [if_neg p, if_neg (by omega)]
    obtain ⟨iv', a1, a2, a3⟩ := ih (k + 1) (pm_iw iv 35 (40 * b + j + (n - 1 - k)) (iv 35 (40 * a + i + (n - 1 - k)))) f (some (.int (nI (n - 1 - k)))) (by omega) (by rw [iw_s, hf, hst])
    refine ⟨iv', ?_, chg_tr (chg_iw (by decide)) a2, a3⟩
    rw [b135_143, if_neg h1, b135_150, if_pos rfl, b135_160, e0, b135_167 hL i1 i2, e1, e2, nI_c (by omega), nI_c (by omega), nI_1, a1]
theorem m_copy_go (hL : pm_lay g) {a b i j n : Nat} (ha : a < 8) (hb : b < 8) (hi : i + n ≤ 40) (hj : j + n ≤ 40) : ∃ iv', pm_at X d 135 (127, [some (.ref 32), some (.int (nI a)), some (.int (nI i)), some (.int (nI b)), some (.int (nI j)), some (.int (nI n)), none, none, none], [], g, iv) = some (some (.int (nI n)), g, iv') ∧ chg [35] iv iv' ∧ iv' 35 = cpF (iv 35) (40 * a + i) (40 * b + j) n := by
  by_cases q : i < j
  · obtain ⟨iv', a1, a2, a3⟩ := m_copy_dn (X := X) (d := d) hL ha hb hi hj q n 0 iv (iv 35) none (by omega) (by funext q; unfold cpB; rw [if_neg (by omega)])
    refine ⟨iv', ?_, a2, a3⟩
    rw [nI_0] at a1
    rw [b135_127, if_pos ((nI_lt' (by omega) (by omega)).mpr q), b135_137, b135_138, a1]
  · obtain ⟨iv', a1, a2, a3⟩ := m_copy_up (X := X) (d := d) (x6 := 1) hL ha hb hi hj (by omega) (by decide) n 0 iv (iv 35) none (by omega) (by funext q; unfold cpF; rw [if_neg (by omega)])
    refine ⟨iv', ?_, a2, a3⟩
    rw [nI_0] at a1
    rw [b135_127, if_neg (fun e => q ((nI_lt' (by omega) (by omega)).mp e)), b135_133, b135_138, a1]
theorem q_copy {a' b' : Int32} (hd : 7 ≤ d) (h : RL g iv) : PR X d g iv 93 135 [.ref 0, .int a', .int x, .int b', .int y, .int z] [.ref 32, .int a', .int x, .int b', .int y, .int z] := by
  obtain ⟨d, rfl, hd1⟩ := pm_d1 hd
  obtain ⟨hg, v, co⟩ := h
  have hL := hg.1
  have co2 := CO_0 co
  -- a finding w is told on both sides
  have fnd : ∀ w, CO g (pm_iw (pm_iw (pm_iw (pm_iw iv 0 7 w) 32 0 0) 32 1 0) 32 1 w) v := fun w => CO_sx co (chg_tr (chg_iw (by decide)) (chg_tr (chg_iw (by decide)) (chg_tr (chg_iw (by decide)) (chg_iw (by decide))))) (fun c p0 p1 => by rw [iw_s, iw_s, iw_s, upd_n p1, upd_n p1, upd_n p0, iw_n (by decide)]) (by rw [iw_n (by decide), iw_n (by decide), iw_n (by decide), iw_s, upd_s, iw_s, upd_s])
  have fc : ∀ w c, c ≠ 0 → c ≠ 32 → pm_iw (pm_iw (pm_iw iv 0 7 w) 32 0 0) 32 1 0 c = iv c := fun w c p0 p1 => by rw [iw_n p1, iw_n p1, iw_n p0]
  by_cases q1 : ip a' 8 = true ∧ ip b' 8 = true
  · obtain ⟨q1, q2⟩ := q1
    obtain ⟨a, ha, rfl⟩ := ip_ex q1 (by omega)
    obtain ⟨b, hb, rfl⟩ := ip_ex q2 (by omega)
    have ina : vp_in (nI a) 8 := vp_n ha (by decide)
    have inb : vp_in (nI b) 8 := vp_n hb (by decide)
    have ca := nI_c (show a < 2147483648 by omega)
    have cb := nI_c (show b < 2147483648 by omega)
    have n0 : ¬ (0 : Int32) ≤ -1 := by decide
    have n1 : (-1 : Int32) < 0 := by decide
    rcases co.2.1.2 a ha with ⟨a1, a2⟩ | ⟨a1, la, ma, hla, hma, a2, a3, a4, a5, a6⟩
    · refine ⟨-1000010 - 1, pm_iw iv 0 7 1, _, ?_, ?_, hg, v, fnd 1⟩
      · simp only [e93, b93_0, t_isRow (show 2 ≤ d by omega), q1, q2, pm_then_i, pm_then_l, pm_then_v, bz_0, bz_n, bz_1, pm_zr0, pm_zr1, pm_zrI, if_true, if_false, not_true, not_false_eq_true, Bool.false_eq_true, true_and, and_true, false_and, and_false, z10, z01, zz0, eq_self, b93_4, b93_7, b93_11, b93_17 hL, t_missing (show 3 ≤ d by omega) hL ha, a1, b93_25, b93_39 hL, t_found (show 1 ≤ d by omega) hL, b93_44]
      · simp only [e135, b135_0 hL, m_isRow (show 2 ≤ d by omega), q1, q2, pm_then_i, pm_then_l, pm_then_v, bz_0, bz_n, bz_1, pm_zr0, pm_zr1, pm_zrI, if_true, if_false, not_true, not_false_eq_true, Bool.false_eq_true, true_and, and_true, false_and, and_false, z10, z01, zz0, eq_self, b135_9, b135_12, b135_16, b135_22 hL ina, ca, fc 1 33 (by decide) (by decide), a2, n1, b135_45 hL, m_finding (show 1 ≤ d by omega) hL, b135_50]
    · have la0 : ¬ nI la < 0 := nI_pos (by omega)
      rcases co.2.1.2 b hb with ⟨b1, b2⟩ | ⟨b1, lb, mb, hlb, hmb, b2, b3, b4, b5, b6⟩
      · refine ⟨-1000010 - 1, pm_iw iv 0 7 1, _, ?_, ?_, hg, v, fnd 1⟩
        · simp only [e93, b93_0, t_isRow (show 2 ≤ d by omega), q1, q2, pm_then_i, pm_then_l, pm_then_v, bz_0, bz_n, bz_1, pm_zr0, pm_zr1, pm_zrI, if_true, if_false, not_true, not_false_eq_true, Bool.false_eq_true, true_and, and_true, false_and, and_false, z10, z01, zz0, eq_self, b93_4, b93_7, b93_11, b93_17 hL, t_missing (show 3 ≤ d by omega) hL ha, a1, b93_25, b93_28 hL, t_missing (show 3 ≤ d by omega) hL hb, b1, b93_36, b93_39 hL, t_found (show 1 ≤ d by omega) hL, b93_44]
        · simp only [e135, b135_0 hL, m_isRow (show 2 ≤ d by omega), q1, q2, pm_then_i, pm_then_l, pm_then_v, bz_0, bz_n, bz_1, pm_zr0, pm_zr1, pm_zrI, if_true, if_false, not_true, not_false_eq_true, Bool.false_eq_true, true_and, and_true, false_and, and_false, z10, z01, zz0, eq_self, b135_9, b135_12, b135_16, b135_22 hL ina, ca, fc 1 33 (by decide) (by decide), a2, la0, b135_36 hL inb, cb, b2, n0, b135_45 hL, m_finding (show 1 ≤ d by omega) hL, b135_50]
      · have lb0 : (0 : Int32) ≤ nI lb := by rw [le_i, toI0, nI_t (by omega)]; omega
        have el : nI la = nI lb ↔ la = lb := nI_eq (by omega) (by omega)
        obtain ⟨d2, rfl, hd3⟩ := pm_d1 (show (d - 1) + 1 ≤ d by omega)
        have hla1 : pm_c X (d2 + 1) 17 [.ref 1, .int (nI a)] g iv = some (some (.int (nI la)), g, iv) := by
          simp only [e17, b17_0 hL, t_missing (show 3 ≤ d2 by omega) hL ha, a1, pm_then_i, pm_then_l, pm_then_v, bz_0, bz_n, bz_1, pm_zr0, pm_zr1, pm_zrI, if_true, if_false, not_true, not_false_eq_true, Bool.false_eq_true, true_and, and_true, false_and, and_false, z10, z01, zz0, eq_self, b17_5, b17_13 hL ina, ca, a3, b17_19]
        have hlb1 : pm_c X (d2 + 1) 17 [.ref 1, .int (nI b)] g iv = some (some (.int (nI lb)), g, iv) := by
          simp only [e17, b17_0 hL, t_missing (show 3 ≤ d2 by omega) hL hb, b1, pm_then_i, pm_then_l, pm_then_v, bz_0, bz_n, bz_1, pm_zr0, pm_zr1, pm_zrI, if_true, if_false, not_true, not_false_eq_true, Bool.false_eq_true, true_and, and_true, false_and, and_false, z10, z01, zz0, eq_self, b17_5, b17_13 hL inb, cb, b3, b17_19]
        by_cases q3 : la = lb
        · by_cases q4 : pcB ma x z = true ∧ pcB mb y z = true
          · have q5 := of_decide_eq_true q4.1
            have q6 := of_decide_eq_true q4.2
            obtain ⟨i, hi, rfl, ei⟩ := i_nI q5.1
            obtain ⟨j, hj, rfl, ej⟩ := i_nI q6.1
            obtain ⟨n, hn, rfl, en⟩ := i_nI q5.2.1
            have h1 : i + n ≤ ma := by omega
            have h2 : j + n ≤ mb := by omega
            have mv := t_move (X := X) (d := d2 + 1) (iv := iv) (by omega) hL ha hb a1 b1 a5 b5 hma hmb h1 h2
            obtain ⟨iv3, c1, c2, c3⟩ := m_copy_go (X := X) (d := d2 + 1) (iv := pm_iw (pm_iw (pm_iw (pm_ir iv 2 (cpF (iv 2) (40 * a + i) (40 * b + j) n)) 0 7 0) 32 0 0) 32 1 0) hL ha hb (show i + n ≤ 40 by omega) (show j + n ≤ 40 by omega)
            have fc2 : ∀ c, c ≠ 0 → c ≠ 2 → c ≠ 32 → pm_iw (pm_iw (pm_iw (pm_ir iv 2 (cpF (iv 2) (40 * a + i) (40 * b + j) n)) 0 7 0) 32 0 0) 32 1 0 c = iv c := fun c p0 p2 p1 => by rw [iw_n p1, iw_n p1, iw_n p0, ir_n p2]
            have f : ∀ c, c ≠ 0 → c ≠ 2 → c ≠ 32 → c ≠ 35 → iv3 c = iv c := fun c p0 p2 p1 p5 => by rw [c2 c (by simp only [List.mem_cons, List.not_mem_nil, or_false]; exact p5), fc2 c p0 p2 p1]
            have f2 : iv3 2 = cpF (iv 2) (40 * a + i) (40 * b + j) n := by rw [c2 2 (by decide), iw_n (by decide), iw_n (by decide), iw_n (by decide), ir_s]
            have f35 : iv3 35 = cpF (iv 35) (40 * a + i) (40 * b + j) n := by rw [c3, fc2 35 (by decide) (by decide) (by decide)]
            have f32 : iv3 32 = upd (upd (iv 32) 0 0) 1 0 := by rw [c2 32 (by decide), iw_s, iw_s, iw_n (by decide), ir_n (by decide)]
            have f0 : iv3 0 7 = 0 := by rw [c2 0 (by decide), iw_n (by decide), iw_n (by decide), iw_s, upd_s]
            have hchg : chg rwL iv iv3 := fun c hc => f c (fun e => hc (by rw [e]; decide)) (fun e => hc (by rw [e]; decide)) (fun e => hc (by rw [e]; decide)) (fun e => hc (by rw [e]; decide))
            have hrr : RR iv3 := by
              refine RR_upd co.2.1 hb (fun j hj ne => by rw [f 1 (by decide) (by decide) (by decide) (by decide)]) (fun q hq ne => by rw [f 33 (by decide) (by decide) (by decide) (by decide), f 3 (by decide) (by decide) (by decide) (by decide), f 34 (by decide) (by decide) (by decide) (by decide), f 4 (by decide) (by decide) (by decide) (by decide)]; exact ⟨rfl, rfl, rfl, rfl⟩) (fun q hq => by rw [f2, f35]; unfold cpF; rw [if_neg (by omega), if_neg (by omega)]; exact ⟨rfl, rfl⟩) (Or.inr ⟨?_, lb, mb, hlb, hmb, ?_, ?_, ?_, ?_, fun q hq => ?_⟩)
              · rw [f 1 (by decide) (by decide) (by decide) (by decide)]; exact b1
              · rw [f 33 (by decide) (by decide) (by decide) (by decide)]; exact b2
              · rw [f 3 (by decide) (by decide) (by decide) (by decide)]; exact b3
              · rw [f 34 (by decide) (by decide) (by decide) (by decide)]; exact b4
              · rw [f 4 (by decide) (by decide) (by decide) (by decide)]; exact b5
              · rw [f2, f35]
                unfold cpF
                by_cases e : 40 * b + j ≤ 40 * b + q ∧ 40 * b + q < 40 * b + j + n
                · rw [if_pos e, if_pos e, show 40 * a + i + (40 * b + q - (40 * b + j)) = 40 * a + (i + (q - j)) by omega]
                  exact a6 _ (by omega)
                · rw [if_neg e, if_neg e]
                  exact b6 q hq
            refine ⟨nI n, pm_iw (pm_ir iv 2 (cpF (iv 2) (40 * a + i) (40 * b + j) n)) 0 7 0, iv3, ?_, ?_, hg, v, CO_rw co hchg (fun c p0 p1 => by rw [f32, upd_n p1, upd_n p0]) hrr (by rw [f0, f32, upd_s])⟩
            · simp only [e93, b93_0, t_isRow (show 2 ≤ d2 + 1 by omega), q1, q2, pm_then_i, pm_then_l, pm_then_v, bz_0, bz_n, bz_1, pm_zr0, pm_zr1, pm_zrI, if_true, if_false, not_true, not_false_eq_true, Bool.false_eq_true, true_and, and_true, false_and, and_false, z10, z01, zz0, eq_self, b93_4, b93_7, b93_11, b93_17 hL, t_missing (show 3 ≤ d2 + 1 by omega) hL ha, a1, b93_25, b93_28 hL, t_missing (show 3 ≤ d2 + 1 by omega) hL hb, b1, b93_36, b93_45 hL, hla1, b93_53 hL, hlb1, b93_61, el, eq_true q3, b93_70 hL, t_placesB (show 4 ≤ d2 + 1 by omega) hL ha a1 a5 hma, q4.1, b93_81, b93_84 hL, t_placesB (show 4 ≤ d2 + 1 by omega) hL hb b1 b5 hmb, q4.2, b93_96, b93_105 hL, mv, b93_119 hL, t_answered (show 1 ≤ d2 + 1 by omega) hL, b93_125]
            · have i0 : ¬ nI i < 0 := nI_pos hi
              have j0 : ¬ nI j < 0 := nI_pos hj
              have n00 : ¬ nI n < 0 := nI_pos hn
              have g1 : ¬ 0 < lg_cmp ((nI i).toInt64 + (nI n).toInt64) ((nI ma).toInt64) := fun e => by
                have e := lgc_gt.mp e
                rw [l_add, wd_t, nI_t hi, nI_t hn, nI_t (by omega)] at e
                omega
              have g2 : lg_cmp ((nI j).toInt64 + (nI n).toInt64) ((nI mb).toInt64) ≤ 0 := Int32.not_lt.mp fun e => by
                have e := lgc_gt.mp e
                rw [l_add, wd_t, nI_t hj, nI_t hn, nI_t (by omega)] at e
                omega
              simp only [e135, b135_0 hL, m_isRow (show 2 ≤ d2 + 1 by omega), q1, q2, pm_then_i, pm_then_l, pm_then_v, bz_0, bz_n, bz_1, pm_zr0, pm_zr1, pm_zrI, if_true, if_false, not_true, not_false_eq_true, Bool.false_eq_true, true_and, and_true, false_and, and_false, z10, z01, zz0, eq_self, b135_9, b135_12, b135_16, b135_22 hL ina, ca, fc2 33 (by decide) (by decide) (by decide), fc2 34 (by decide) (by decide) (by decide), a2, la0, b135_36 hL inb, cb, b2, lb0, b135_51 hL ina inb, el, eq_true q3, b135_72, i0, b135_76, j0, b135_81, n00, b135_86 hL ina, a4, g1, b135_103 hL inb, b4, g2, c1]
          · refine ⟨-1000010 - 2, pm_iw iv 0 7 2, _, ?_, ?_, hg, v, fnd 2⟩
            · simp only [e93, b93_0, t_isRow (show 2 ≤ d2 + 1 by omega), q1, q2, pm_then_i, pm_then_l, pm_then_v, bz_0, bz_n, bz_1, pm_zr0, pm_zr1, pm_zrI, if_true, if_false, not_true, not_false_eq_true, Bool.false_eq_true, true_and, and_true, false_and, and_false, z10, z01, zz0, eq_self, b93_4, b93_7, b93_11, b93_17 hL, t_missing (show 3 ≤ d2 + 1 by omega) hL ha, a1, b93_25, b93_28 hL, t_missing (show 3 ≤ d2 + 1 by omega) hL hb, b1, b93_36, b93_45 hL, hla1, b93_53 hL, hlb1, b93_61, el, eq_true q3, b93_70 hL, t_placesB (show 4 ≤ d2 + 1 by omega) hL ha a1 a5 hma, b93_81, b93_84 hL, t_placesB (show 4 ≤ d2 + 1 by omega) hL hb b1 b5 hmb, b93_96, b93_99 hL, t_found (show 1 ≤ d2 + 1 by omega) hL, b93_104]
              by_cases w1 : pcB ma x z = true <;> by_cases w2 : pcB mb y z = true <;> first | (simp only [w1, w2, bz_0, bz_n, bz_1, pm_zr0, pm_zr1, pm_zrI, if_true, if_false, not_true, not_false_eq_true, Bool.false_eq_true, true_and, and_true, false_and, and_false, z10, z01, zz0, eq_self]; done) | exact absurd ⟨w1, w2⟩ q4
            · have s1 : pm_c X (d2 + 1 + 1) 135 [.ref 32, .int (nI a), .int x, .int (nI b), .int y, .int z] g (pm_iw iv 0 7 2) = pm_at X (d2 + 1) 135 (72, [some (.ref 32), some (.int (nI a)), some (.int x), some (.int (nI b)), some (.int y), some (.int z), none, none, none], [], g, pm_iw (pm_iw (pm_iw iv 0 7 2) 32 0 0) 32 1 0) := by
                simp only [e135, b135_0 hL, m_isRow (show 2 ≤ d2 + 1 by omega), q1, q2, pm_then_i, pm_then_l, pm_then_v, bz_0, bz_n, bz_1, pm_zr0, pm_zr1, pm_zrI, if_true, if_false, not_true, not_false_eq_true, Bool.false_eq_true, true_and, and_true, false_and, and_false, z10, z01, zz0, eq_self, b135_9, b135_12, b135_16, b135_22 hL ina, ca, fc 2 33 (by decide) (by decide), a2, la0, b135_36 hL inb, cb, b2, lb0, b135_51 hL ina inb, el, eq_true q3]
              have s2 : pm_at X (d2 + 1) 135 (121, [some (.ref 32), some (.int (nI a)), some (.int x), some (.int (nI b)), some (.int y), some (.int z), none, none, none], [], g, pm_iw (pm_iw (pm_iw iv 0 7 2) 32 0 0) 32 1 0) = some (some (.int (-1000010 - 2)), g, pm_iw (pm_iw (pm_iw (pm_iw iv 0 7 2) 32 0 0) 32 1 0) 32 1 2) := by
                simp only [b135_121 hL, m_finding (show 1 ≤ d2 + 1 by omega) hL, pm_then_i, pm_then_l, pm_then_v, b135_126]
              rw [s1, b135_72]
              by_cases w1 : x < 0
              · rw [if_pos w1, s2]
              · rw [if_neg w1, b135_76]
                by_cases w2 : y < 0
                · rw [if_pos w2, s2]
                · rw [if_neg w2, b135_81]
                  by_cases w3 : z < 0
                  · rw [if_pos w3, s2]
                  · rw [lt_i, toI0] at w1 w2 w3
                    rw [if_neg (by rw [lt_i, toI0]; exact w3), b135_86 hL ina, ca, fc 2 34 (by decide) (by decide), a4]
                    by_cases w4 : 0 < lg_cmp (x.toInt64 + z.toInt64) ((nI ma).toInt64)
                    · rw [if_pos w4, s2]
                    · rw [if_neg w4, b135_103 hL inb, cb, fc 2 34 (by decide) (by decide), b4]
                      have w4' : ¬ ((ma : Int) < x.toInt + z.toInt) := fun e => w4 (lgc_gt.mpr (by rw [l_add, wd_t, nI_t (by omega)]; exact e))
                      have w5 : 0 < lg_cmp (y.toInt64 + z.toInt64) ((nI mb).toInt64) := by
                        rw [lgc_gt, l_add, wd_t, nI_t (by omega)]
                        have : ¬ (y.toInt + z.toInt ≤ mb) := fun e => q4 ⟨decide_eq_true (by omega), decide_eq_true (by omega)⟩
                        omega
                      rw [if_neg (Int32.not_le.mpr w5), s2]
        · refine ⟨-1000010 - 5, pm_iw iv 0 7 5, _, ?_, ?_, hg, v, fnd 5⟩
          · simp only [e93, b93_0, t_isRow (show 2 ≤ d2 + 1 by omega), q1, q2, pm_then_i, pm_then_l, pm_then_v, bz_0, bz_n, bz_1, pm_zr0, pm_zr1, pm_zrI, if_true, if_false, not_true, not_false_eq_true, Bool.false_eq_true, true_and, and_true, false_and, and_false, z10, z01, zz0, eq_self, b93_4, b93_7, b93_11, b93_17 hL, t_missing (show 3 ≤ d2 + 1 by omega) hL ha, a1, b93_25, b93_28 hL, t_missing (show 3 ≤ d2 + 1 by omega) hL hb, b1, b93_36, b93_45 hL, hla1, b93_53 hL, hlb1, b93_61, el, q3, b93_64 hL, t_found (show 1 ≤ d2 + 1 by omega) hL, b93_69]
          · simp only [e135, b135_0 hL, m_isRow (show 2 ≤ d2 + 1 by omega), q1, q2, pm_then_i, pm_then_l, pm_then_v, bz_0, bz_n, bz_1, pm_zr0, pm_zr1, pm_zrI, if_true, if_false, not_true, not_false_eq_true, Bool.false_eq_true, true_and, and_true, false_and, and_false, z10, z01, zz0, eq_self, b135_9, b135_12, b135_16, b135_22 hL ina, ca, fc 5 33 (by decide) (by decide), a2, la0, b135_36 hL inb, cb, b2, lb0, b135_51 hL ina inb, el, q3, b135_66 hL, m_finding (show 1 ≤ d2 + 1 by omega) hL, b135_71]
  · refine ⟨-1000001, iv, pm_iw iv 32 0 0, ?_, ?_, hg, v, co2⟩
    · simp only [e93, b93_0, t_isRow (show 2 ≤ d by omega), pm_then_i, pm_then_l, pm_then_v, bz_0, bz_n, bz_1, pm_zr0, pm_zr1, pm_zrI, if_true, if_false, not_true, not_false_eq_true, Bool.false_eq_true, true_and, and_true, false_and, and_false, z10, z01, zz0, eq_self, b93_4, b93_7, b93_11, b93_14]
      by_cases w1 : ip a' 8 = true <;> by_cases w2 : ip b' 8 = true <;> first | (simp only [w1, w2, bz_0, bz_n, bz_1, pm_zr0, pm_zr1, pm_zrI, if_true, if_false, not_true, not_false_eq_true, Bool.false_eq_true, true_and, and_true, false_and, and_false, z10, z01, zz0, eq_self]; done) | exact absurd ⟨w1, w2⟩ q1
    · simp only [e135, b135_0 hL, m_isRow (show 2 ≤ d by omega), pm_then_i, pm_then_l, pm_then_v, bz_0, bz_n, bz_1, pm_zr0, pm_zr1, pm_zrI, if_true, if_false, not_true, not_false_eq_true, Bool.false_eq_true, true_and, and_true, false_and, and_false, z10, z01, zz0, eq_self, b135_9, b135_12, b135_16, b135_19]
      by_cases w1 : ip a' 8 = true <;> by_cases w2 : ip b' 8 = true <;> first | (simp only [w1, w2, bz_0, bz_n, bz_1, pm_zr0, pm_zr1, pm_zrI, if_true, if_false, not_true, not_false_eq_true, Bool.false_eq_true, true_and, and_true, false_and, and_false, z10, z01, zz0, eq_self]; done) | exact absurd ⟨w1, w2⟩ q1
end Q54
