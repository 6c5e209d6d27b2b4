/-! meet -/
def mI (p : Nat → Bool) : Nat → Nat → Option Nat
  | 0, _ => none
  | m + 1, x => if p x = true then some x else mI p m (x + 1)
def mO (q : Nat → Option Nat) : Nat → Nat → Option (Nat × Nat)
  | 0, _ => none
  | m + 1, b => if (q b).isSome = true then some (b, (q b).getD 0) else mO q m (b + 1)
def mHi (n both : Nat) : Nat := if n < both then n else both
def mQ (v : HV) (a b n both : Nat) : Option Nat := mI (fun x => mtB v a x b (both - x) n) (mHi n both + 1 - (both - mHi n both)) (both - mHi n both)
def mA (z : Int32) (o : Option (Nat × Nat)) : Int32 := if o.isSome = true then (if z = 0 then nI (o.getD (0, 0)).1 else nI (o.getD (0, 0)).2) else -1000000
theorem mA_some {z : Int32} {p : Nat × Nat} : mA z (some p) = if z = 0 then nI p.1 else nI p.2 := if_pos (show (some p).isSome = true from rfl)
theorem mA_none {z : Int32} : mA z none = -1000000 := if_neg (show ¬ (none : Option (Nat × Nat)).isSome = true from Bool.false_ne_true)
section Q44
variable {X : pm_X} {d k : Nat} {g : pm_G} {iv : pm_V} {v : HV} {a b n : Nat} {x y z : Int32}
theorem t_meet_in (hd : 6 ≤ d) (hL : pm_lay g) (ho : Hok v) (hs : Dst v (vy v)) (hw : vW v ≤ 9999) (ha : a < vN v) (hb : b < vN v) (hn : n ≤ 20) {both : Nat} (hbo : both ≤ 2 * n) : ∀ m x (iv : pm_V), SV iv 11 v → x + m = mHi n both + 1 →
    ∃ iv', chg tri iv iv' ∧ ((mI (fun x => mtB v a x b (both - x) n) m x = none ∧ pm_at X d 108 (56, [some (.ref 0), some (.int (nI a)), some (.int (nI b)), some (.int (nI n)), some (.int z), some (.int (nI both)), some (.int (nI (mHi n both))), some (.int (nI x))], [], g, iv) = pm_at X d 108 (99, [some (.ref 0), some (.int (nI a)), some (.int (nI b)), some (.int (nI n)), some (.int z), some (.int (nI both)), some (.int (nI (mHi n both))), some (.int (nI (mHi n both + 1)))], [], g, iv')) ∨
      ∃ x', mI (fun x => mtB v a x b (both - x) n) m x = some x' ∧ pm_at X d 108 (56, [some (.ref 0), some (.int (nI a)), some (.int (nI b)), some (.int (nI n)), some (.int z), some (.int (nI both)), some (.int (nI (mHi n both))), some (.int (nI x))], [], g, iv) = some (some (.int (if z = 0 then nI both else nI x')), g, iv')) := by
  have hh : mHi n both ≤ n ∧ mHi n both ≤ both := by unfold mHi; split <;> omega
  intro m
  induction m with
  | zero =>
    intro x iv hv hx
    have e : x = mHi n both + 1 := by omega
    subst e
    refine ⟨iv, chg_rf, Or.inl ⟨rfl, ?_⟩⟩
    have h1 : nI (mHi n both) < nI (mHi n both + 1) := (nI_lt' (by omega) (by omega)).mpr (by omega)
    rw [b108_56, if_pos h1]
  | succ m ih =>
    intro x iv hv hx
    have h1 : ¬ nI (mHi n both) < nI x := fun q => by have := (nI_lt' (by omega) (by omega)).mp q; omega
    obtain ⟨iv1, a1, a2⟩ := t_meetsBy (X := X) (a := a) (b := b) (x := x) (y := both - x) (n := n) hd hL hv ho hs hw ha hb (by omega) (by omega) hn
    have e : nI both - nI x = nI (both - x) := pk_sub (by omega)
    rw [mI]
    by_cases p : mtB v a x b (both - x) n = true
    · refine ⟨iv1, a2, Or.inr ⟨x, by rw [if_pos p], ?_⟩⟩
      simp only [b108_56, h1, bz_0, bz_n, bz_1, pm_zr0, pm_zr1, pm_zrI, if_true, if_false, not_true, not_false_eq_true, Bool.false_eq_true, true_and, and_true, false_and, and_false, z10, z01, zz0, eq_self, b108_63 hL, e, a1, p, pm_then_i, pm_then_l, pm_then_v, b108_77, b108_80, b108_85, b108_90, b108_92]
      by_cases hz : z = 0 <;> simp only [hz, bz_0, bz_n, bz_1, pm_zr0, pm_zr1, pm_zrI, if_true, if_false, not_true, not_false_eq_true, Bool.false_eq_true, true_and, and_true, false_and, and_false, z10, z01, zz0, eq_self]
    · obtain ⟨iv2, b1, b2⟩ := ih (x + 1) iv1 (SV_fr hv (fun e p1 p2 => a2 e (by simp only [tri, List.mem_cons, List.not_mem_nil, or_false]; omega))) (by omega)
      have st : pm_at X d 108 (56, [some (.ref 0), some (.int (nI a)), some (.int (nI b)), some (.int (nI n)), some (.int z), some (.int (nI both)), some (.int (nI (mHi n both))), some (.int (nI x))], [], g, iv) = pm_at X d 108 (56, [some (.ref 0), some (.int (nI a)), some (.int (nI b)), some (.int (nI n)), some (.int z), some (.int (nI both)), some (.int (nI (mHi n both))), some (.int (nI (x + 1)))], [], g, iv1) := by
        rw [b108_56, if_neg h1]
        simp only [b108_63 hL, e, a1, p, bz_0, bz_n, bz_1, pm_zr0, pm_zr1, pm_zrI, if_true, if_false, not_true, not_false_eq_true, Bool.false_eq_true, true_and, and_true, false_and, and_false, z10, z01, zz0, eq_self, pm_then_i, pm_then_l, pm_then_v, b108_77, b108_93, nI_1]
      refine ⟨iv2, chg_tr a2 b1, ?_⟩
      rw [if_neg p, st]
      exact b2
theorem mQ_lo {n both : Nat} (h : both ≤ 2 * n) : both - mHi n both + (mHi n both + 1 - (both - mHi n both)) = mHi n both + 1 := by unfold mHi; split <;> omega
theorem nI_min {n both : Nat} (hn : n ≤ 1000) (hb : both ≤ 1000) : (if nI n < nI both then nI n else nI both) = nI (mHi n both) := by
  unfold mHi
  by_cases p : n < both
  · rw [if_pos p, if_pos ((nI_lt' (by omega) (by omega)).mpr p)]
  · rw [if_neg p, if_neg (fun q => p ((nI_lt' (by omega) (by omega)).mp q))]
theorem two_n (n : Nat) : (2 : Int32) * nI n = nI (2 * n) := by
  show nI 2 * nI n = _
  rw [pk_mul]
theorem t_meet_out (hd : 6 ≤ d) (hL : pm_lay g) (ho : Hok v) (hs : Dst v (vy v)) (hw : vW v ≤ 9999) (ha : a < vN v) (hb : b < vN v) (hn : n ≤ 20) : ∀ m both (iv : pm_V) (z6 z7 : Option Value), SV iv 11 v → both + m = 2 * n + 1 →
    ∃ iv', chg tri iv iv' ∧ pm_at X d 108 (33, [some (.ref 0), some (.int (nI a)), some (.int (nI b)), some (.int (nI n)), some (.int z), some (.int (nI both)), z6, z7], [], g, iv) = some (some (.int (mA z (mO (mQ v a b n) m both))), g, iv') := by
  intro m
  induction m with
  | zero =>
    intro both iv z6 z7 hv hx
    have e : both = 2 * n + 1 := by omega
    subst e
    refine ⟨iv, chg_rf, ?_⟩
    have h1 : nI (2 * n) < nI (2 * n + 1) := (nI_lt' (by omega) (by omega)).mpr (by omega)
    rw [b108_33, two_n, if_pos h1, b108_105, mO, mA_none]
  | succ m ih =>
    intro both iv z6 z7 hv hx
    have h1 : ¬ nI (2 * n) < nI both := fun q => by have := (nI_lt' (by omega) (by omega)).mp q; omega
    have hh : mHi n both ≤ n ∧ mHi n both ≤ both := by unfold mHi; split <;> omega
    have e : nI both - nI (mHi n both) = nI (both - mHi n both) := pk_sub (by omega)
    obtain ⟨iv1, a1, a2⟩ := t_meet_in (X := X) (z := z) (a := a) (b := b) (n := n) (both := both) hd hL ho hs hw ha hb hn (by omega) _ _ iv hv (mQ_lo (by omega))
    have st : pm_at X d 108 (33, [some (.ref 0), some (.int (nI a)), some (.int (nI b)), some (.int (nI n)), some (.int z), some (.int (nI both)), z6, z7], [], g, iv) = pm_at X d 108 (56, [some (.ref 0), some (.int (nI a)), some (.int (nI b)), some (.int (nI n)), some (.int z), some (.int (nI both)), some (.int (nI (mHi n both))), some (.int (nI (both - mHi n both)))], [], g, iv) := by
      rw [b108_33, two_n, if_neg h1, b108_41, nI_min (by omega) (by omega), e]
    rw [st]
    rw [mO]
    rcases a2 with ⟨q1, q2⟩ | ⟨x', q1, q2⟩
    · obtain ⟨iv2, b1, b2⟩ := ih (both + 1) iv1 (some (.int (nI (mHi n both)))) (some (.int (nI (mHi n both + 1)))) (SV_fr hv (fun e p1 p2 => a1 e (by simp only [tri, List.mem_cons, List.not_mem_nil, or_false]; omega))) (by omega)
      have e1 : mQ v a b n both = none := q1
      refine ⟨iv2, chg_tr a1 b1, ?_⟩
      rw [q2, b108_99, nI_1, b2, e1, if_neg (show ¬ (none : Option Nat).isSome = true from Bool.false_ne_true)]
    · have e1 : mQ v a b n both = some x' := q1
      refine ⟨iv1, a1, ?_⟩
      rw [q2, e1, if_pos (show (some x').isSome = true from rfl), mA_some]
      rfl
theorem m_meet_in (hd : 6 ≤ d) (hL : pm_lay g) (ho : Hok v) (hw : vW v ≤ 9999) (ha : a < vN v) (hb : b < vN v) (hn : n ≤ 20) {both : Nat} (hbo : both ≤ 2 * n) : ∀ m x (iv : pm_V), HAr (iv 36) v → x + m = mHi n both + 1 →
    ∃ iv', chg [40, 41, 42] iv iv' ∧ ((mI (fun x => mtB v a x b (both - x) n) m x = none ∧ pm_at X d 183 (67, [some (.ref 32), some (.int (nI a)), some (.int (nI b)), some (.int (nI n)), some (.int z), some (.int (nI both)), some (.int (nI x))], [], g, iv) = pm_at X d 183 (116, [some (.ref 32), some (.int (nI a)), some (.int (nI b)), some (.int (nI n)), some (.int z), some (.int (nI both)), some (.int (nI (mHi n both + 1)))], [], g, iv')) ∨
      ∃ x', mI (fun x => mtB v a x b (both - x) n) m x = some x' ∧ pm_at X d 183 (67, [some (.ref 32), some (.int (nI a)), some (.int (nI b)), some (.int (nI n)), some (.int z), some (.int (nI both)), some (.int (nI x))], [], g, iv) = some (some (.int (if z = 0 then nI both else nI x')), g, iv')) := by
  have hh : mHi n both ≤ n ∧ mHi n both ≤ both ∧ (mHi n both = n ∨ mHi n both = both) := by unfold mHi; split <;> omega
  intro m
  induction m with
  | zero =>
    intro x iv hv hx
    have e : x = mHi n both + 1 := by omega
    subst e
    refine ⟨iv, chg_rf, Or.inl ⟨rfl, ?_⟩⟩
    rw [b183_67]
    by_cases p : n < mHi n both + 1
    · rw [if_pos ((nI_lt' (by omega) (by omega)).mpr p)]
    · rw [if_neg (fun q => p ((nI_lt' (by omega) (by omega)).mp q)), b183_73, if_pos ((nI_lt' (by omega) (by omega)).mpr (by omega))]
  | succ m ih =>
    intro x iv hv hx
    have h1 : ¬ nI n < nI x := fun q => by have := (nI_lt' (by omega) (by omega)).mp q; omega
    have h2 : ¬ nI both < nI x := fun q => by have := (nI_lt' (by omega) (by omega)).mp q; omega
    obtain ⟨iv1, a1, a2⟩ := m_meetsBy (X := X) (a := a) (b := b) (x := x) (y := both - x) (n := n) hd hL hv ho hw ha hb (by omega) (by omega) hn
    have e : nI both - nI x = nI (both - x) := pk_sub (by omega)
    rw [mI]
    by_cases p : mtB v a x b (both - x) n = true
    · refine ⟨iv1, a2, Or.inr ⟨x, by rw [if_pos p], ?_⟩⟩
      simp only [b183_67, b183_73, h1, h2, bz_0, bz_n, bz_1, pm_zr0, pm_zr1, pm_zrI, if_true, if_false, not_true, not_false_eq_true, Bool.false_eq_true, true_and, and_true, false_and, and_false, z10, z01, zz0, eq_self, b183_80 hL, e, a1, p, pm_then_i, pm_then_l, pm_then_v, b183_94, b183_97, b183_102, b183_107, b183_109]
      by_cases hz : z = 0 <;> simp only [hz, bz_0, bz_n, bz_1, pm_zr0, pm_zr1, pm_zrI, if_true, if_false, not_true, not_false_eq_true, Bool.false_eq_true, true_and, and_true, false_and, and_false, z10, z01, zz0, eq_self]
    · obtain ⟨iv2, b1, b2⟩ := ih (x + 1) iv1 (by rw [a2 36 (by decide)]; exact hv) (by omega)
      have st : pm_at X d 183 (67, [some (.ref 32), some (.int (nI a)), some (.int (nI b)), some (.int (nI n)), some (.int z), some (.int (nI both)), some (.int (nI x))], [], g, iv) = pm_at X d 183 (67, [some (.ref 32), some (.int (nI a)), some (.int (nI b)), some (.int (nI n)), some (.int z), some (.int (nI both)), some (.int (nI (x + 1)))], [], g, iv1) := by
        rw [b183_67, if_neg h1, b183_73, if_neg h2]
        simp only [b183_80 hL, e, a1, p, bz_0, bz_n, bz_1, pm_zr0, pm_zr1, pm_zrI, if_true, if_false, not_true, not_false_eq_true, Bool.false_eq_true, true_and, and_true, false_and, and_false, z10, z01, zz0, eq_self, pm_then_i, pm_then_l, pm_then_v, b183_94, b183_110, nI_1]
      refine ⟨iv2, chg_tr a2 b1, ?_⟩
      rw [if_neg p, st]
      exact b2
theorem m_meet_out (hd : 6 ≤ d) (hL : pm_lay g) (ho : Hok v) (hw : vW v ≤ 9999) (ha : a < vN v) (hb : b < vN v) (hn : n ≤ 20) : ∀ m both (iv : pm_V) (z6 : Option Value), HAr (iv 36) v → both + m = 2 * n + 1 →
    ∃ iv', chg [40, 41, 42] iv iv' ∧ pm_at X d 183 (43, [some (.ref 32), some (.int (nI a)), some (.int (nI b)), some (.int (nI n)), some (.int z), some (.int (nI both)), z6], [], g, iv) = some (some (.int (mA z (mO (mQ v a b n) m both))), g, iv') := by
  intro m
  induction m with
  | zero =>
    intro both iv z6 hv hx
    have e : both = 2 * n + 1 := by omega
    subst e
    refine ⟨iv, chg_rf, ?_⟩
    have h1 : nI (2 * n) < nI (2 * n + 1) := (nI_lt' (by omega) (by omega)).mpr (by omega)
    rw [b183_43, two_n, if_pos h1, b183_122, mO, mA_none]
  | succ m ih =>
    intro both iv z6 hv hx
    have h1 : ¬ nI (2 * n) < nI both := fun q => by have := (nI_lt' (by omega) (by omega)).mp q; omega
    obtain ⟨iv1, a1, a2⟩ := m_meet_in (X := X) (z := z) (a := a) (b := b) (n := n) (both := both) hd hL ho hw ha hb hn (by omega) _ _ iv hv (mQ_lo (by omega))
    have st : pm_at X d 183 (43, [some (.ref 32), some (.int (nI a)), some (.int (nI b)), some (.int (nI n)), some (.int z), some (.int (nI both)), z6], [], g, iv) = pm_at X d 183 (67, [some (.ref 32), some (.int (nI a)), some (.int (nI b)), some (.int (nI n)), some (.int z), some (.int (nI both)), some (.int (nI (both - mHi n both)))], [], g, iv) := by
      rw [b183_43, two_n, if_neg h1, b183_51]
      by_cases p : both ≤ n
      · have e : both - mHi n both = 0 := by unfold mHi; rw [if_neg (by omega)]; omega
        rw [if_pos ((nI_le' (by omega) (by omega)).mpr p), b183_64, b183_65, e, nI_0]
      · have e : both - mHi n both = both - n := by unfold mHi; rw [if_pos (by omega)]
        rw [if_neg (fun q => p ((nI_le' (by omega) (by omega)).mp q)), b183_57, b183_65, e, show nI both - nI n = nI (both - n) from pk_sub (by omega)]
    rw [st]
    rw [mO]
    rcases a2 with ⟨q1, q2⟩ | ⟨x', q1, q2⟩
    · obtain ⟨iv2, b1, b2⟩ := ih (both + 1) iv1 (some (.int (nI (mHi n both + 1)))) (by rw [a1 36 (by decide)]; exact hv) (by omega)
      have e1 : mQ v a b n both = none := q1
      refine ⟨iv2, chg_tr a1 b1, ?_⟩
      rw [q2, b183_116, nI_1, b2, e1, if_neg (show ¬ (none : Option Nat).isSome = true from Bool.false_ne_true)]
    · have e1 : mQ v a b n both = some x' := q1
      refine ⟨iv1, a1, ?_⟩
      rw [q2, e1, if_pos (show (some x').isSome = true from rfl), mA_some]
      rfl
theorem q_meet {w : Int32} (hd : 8 ≤ d) (h : RL g iv) : PR X d g iv 108 183 [.ref 0, .int x, .int y, .int w, .int z] [.ref 32, .int x, .int y, .int w, .int z] := by
  obtain ⟨d, rfl, hd1⟩ := pm_d1 hd
  obtain ⟨hg, v, co⟩ := h
  have hL := hg.1
  have hv := co.1.1
  have ho := co.1.2.2.1
  have hs := co.1.2.2.2.1
  have hw9 := co.1.2.2.2.2.1
  have hN := ho.2.2.1
  by_cases q : (ip x (vN v) = true ∧ ip y (vN v) = true ∧ ¬ x = y) ∧ ip w 21 = true ∧ ip z 2 = true
  · obtain ⟨q1, q3, q4⟩ := q
    obtain ⟨a, ha, rfl⟩ := ip_ex q1.1 (by omega)
    obtain ⟨b, hb, rfl⟩ := ip_ex q1.2.1 (by omega)
    obtain ⟨n, hn, rfl⟩ := ip_ex q3 (by omega)
    obtain ⟨iv1, a1, a2⟩ := t_meet_out (X := X) (a := a) (b := b) (n := n) (z := z) (show 6 ≤ d by omega) hL ho hs hw9 ha hb (by omega) (2 * n + 1) 0 iv none none hv (by omega)
    have hc : chg scr iv iv1 := chg_mo a1 (by decide)
    have co1 := CO_0 (CO_f0 co hc (by rw [a1 32 (by decide)]))
    have hw := co1.1.2.1
    obtain ⟨iv3, c1, c2⟩ := m_meet_out (X := X) (a := a) (b := b) (n := n) (z := z) (show 6 ≤ d by omega) hL ho hw9 ha hb (by omega) (2 * n + 1) 0 (pm_iw iv1 32 0 0) none hw (by omega)
    rw [nI_0] at a2 c2
    refine ⟨mA z (mO (mQ v a b n) (2 * n + 1) 0), iv1, iv3, ?_, ?_, hg, v, CO_f0 co1 (chg_mo c1 (by decide)) (c1 32 (by decide))⟩
    · simp only [e108, b108_0 hL, t_isPair (show 2 ≤ d by omega) hL hv ho, if_pos q1, pm_then_i, pm_then_l, pm_then_v, bz_0, bz_n, bz_1, pm_zr0, pm_zr1, pm_zrI, if_true, if_false, not_true, not_false_eq_true, Bool.false_eq_true, true_and, and_true, false_and, and_false, z10, z01, zz0, eq_self, b108_6, b108_9, t_ip (n := 20) (show 1 ≤ d by omega) toI20, q3, b108_15, b108_18, t_ip (n := 1) (show 1 ≤ d by omega) toI1, q4, b108_24, b108_30, a2]
    · simp only [e183, b183_0 hL, m_areTwo (show 3 ≤ d by omega) hL hw ho, if_pos q1, pm_then_i, pm_then_l, pm_then_v, bz_0, bz_n, bz_1, pm_zr0, pm_zr1, pm_zrI, if_true, if_false, not_true, not_false_eq_true, Bool.false_eq_true, true_and, and_true, false_and, and_false, z10, z01, zz0, eq_self, b183_11, b183_14, m_ip (n := 20) (show 1 ≤ d by omega) toL20, q3, b183_23, b183_26, m_ip (n := 1) (show 1 ≤ d by omega) toL1, q4, b183_34, b183_40, c2]
  · have co2 := CO_0 co
    have hw := co2.1.2.1
    refine ⟨-1000001, iv, pm_iw iv 32 0 0, ?_, ?_, hg, v, co2⟩
    · simp only [e108, b108_0 hL, t_isPair (show 2 ≤ d by omega) hL hv ho, pm_then_i, pm_then_l, pm_then_v, b108_6, b108_9, bz_0, bz_n, t_ip (n := 20) (show 1 ≤ d by omega) toI20, b108_15, b108_18, t_ip (n := 1) (show 1 ≤ d by omega) toI1, b108_24, b108_27]
      by_cases q1 : ip x (vN v) = true ∧ ip y (vN v) = true ∧ ¬ x = y
      · rw [if_neg (not_not_intro q1)]
        by_cases q2 : ip w 21 = true <;> by_cases q3 : ip z 2 = true <;> first | (simp only [q2, q3, bz_0, bz_n, bz_1, pm_zr0, pm_zr1, pm_zrI, if_true, if_false, not_true, not_false_eq_true, Bool.false_eq_true, true_and, and_true, false_and, and_false, z10, z01, zz0, eq_self]; done) | exact absurd ⟨q1, q2, q3⟩ q
      · rw [if_pos q1]
    · simp only [e183, b183_0 hL, m_areTwo (show 3 ≤ d by omega) hL hw ho, pm_then_i, pm_then_l, pm_then_v, b183_11, b183_14, bz_0, bz_n, m_ip (n := 20) (show 1 ≤ d by omega) toL20, b183_23, b183_26, m_ip (n := 1) (show 1 ≤ d by omega) toL1, b183_34, b183_37]
      by_cases q1 : ip x (vN v) = true ∧ ip y (vN v) = true ∧ ¬ x = y
      · rw [if_neg (not_not_intro q1)]
        by_cases q2 : ip w 21 = true <;> by_cases q3 : ip z 2 = true <;> first | (simp only [q2, q3, bz_0, bz_n, bz_1, pm_zr0, pm_zr1, pm_zrI, if_true, if_false, not_true, not_false_eq_true, Bool.false_eq_true, true_and, and_true, false_and, and_false, z10, z01, zz0, eq_self]; done) | exact absurd ⟨q1, q2, q3⟩ q
      · rw [if_pos q1]
end Q44
