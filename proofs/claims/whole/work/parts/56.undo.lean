/-! undo, winter -/
def actL : List Nat := [0, 7, 8, 11, 12, 13, 14, 15, 16, 17, 18, 19, 20, 21, 22, 23, 24, 25, 26, 27, 28, 29, 30, 32, 36, 38, 40, 41, 42]
theorem CO_ac {g : pm_G} {iv iv' : pm_V} {v v' : HV} (h : CO g iv v) (hc : chg actL iv iv') (h32 : ∀ c, c ≠ 0 → c ≠ 1 → c ≠ 8 → iv' 32 c = iv 32 c) (hs : iv' 0 7 = iv' 32 1) (hv : RV iv' v') (ha : RA iv' v') : CO g iv' v' := by
  obtain ⟨a1, a2, a3, a4, a5, ⟨i1, i2, i3⟩, a7, a8⟩ := h
  have q : ∀ c, c ∉ actL → iv' c = iv c := hc
  have hi : ∀ c, 46 ≤ c → iv' c = iv c := fun c p => q c (by simp only [actL, List.mem_cons, List.not_mem_nil, or_false]; omega)
  exact ⟨hv, RR_fr a2 (by rw [q 1 (by decide)]) (q 2 (by decide)) (q 3 (by decide)) (q 4 (by decide)) (q 33 (by decide)) (q 34 (by decide)) (q 35 (by decide)),
    RT_fr a3 (by rw [q 5 (by decide)]) (h32 10 (by decide) (by decide) (by decide)) (q 39 (by decide)) (q 6 (by decide)), ha, RX_fr a5 (by rw [q 9 (by decide)]) (h32 25 (by decide) (by decide) (by decide)) (q 10 (by decide)) (q 45 (by decide)),
    ⟨IM_fr i1 (q 43 (by decide)) (q 44 (by decide)) hi, IM_fr i2 (q 43 (by decide)) (q 44 (by decide)) hi, i3⟩, hs, by rw [q 5 (by decide), h32 11 (by decide) (by decide) (by decide)]; exact a8⟩
theorem Sta_tr {a b c : HV} (h : Sta a b) (h2 : Sta c b) : Sta a c := ⟨h.1.trans h2.1.symm, h.2.1.trans h2.2.1.symm, h.2.2.1.trans h2.2.2.1.symm, h.2.2.2.1.trans h2.2.2.2.1.symm, h.2.2.2.2.1.trans h2.2.2.2.2.1.symm, h.2.2.2.2.2.trans h2.2.2.2.2.2.symm⟩
section Q56
variable {X : pm_X} {d k : Nat} {g : pm_G} {iv : pm_V} {v u : HV} {x y z : Int32}
theorem t_takeBack {a o : Nat} {r : Nat → HV} (hd : 2 ≤ d) (hL : pm_lay g) (hv : SV iv 11 v) (hc : CA iv (a + 1) o r) (hr : RO v (a + 1) r) : ∃ iv', pm_c X d 4 [.ref 7, .ref 11] g iv = some (some (.int 1), g, iv') ∧ chg [7, 11, 15, 16, 17] iv iv' ∧ CA iv' a o r ∧ SV iv' 11 (r a) := by
  obtain ⟨d, rfl, hd1⟩ := pm_d1 hd
  obtain ⟨c1, c2, c3, c4, c5⟩ := hc
  have n0 : ¬ nI (a + 1) = 0 := fun e => by have := (nI_eq (a := a + 1) (b := 0) (by omega) (by omega)).mp e; omega
  have e0 : nI (a + 1) - 1 = nI a := nI_pred a
  have h71 : (pm_iw iv 7 2 (nI a)) 7 1 = nI o := by rw [iw_s, upd_n (by decide), c3]
  have h72 : (pm_iw iv 7 2 (nI a)) 7 2 = nI a := by rw [iw_s, upd_s]
  have hra := hr a (by omega)
  obtain ⟨iv1, w1, w2, w3⟩ := t_readFrom (X := X) (d := d) (iv := pm_iw iv 7 2 (nI a)) (u := r a) (b := 20 * ((o + a) % 24)) hd1 hL (SV_fr hv (fun c a b => iw_n (by omega))) hra.2.1 hra.1 (by rw [iw_n (by decide)]; exact c5 a (by omega)) (by omega)
  refine ⟨iv1, ?_, chg_tr (chg_iw (by decide)) (chg_mo w2 (by decide)), ⟨by omega, c2, ?_, ?_, fun j hj => ?_⟩, w3⟩
  · rw [e4, b4_0 hL, c4, if_pos n0, b4_9 hL (lay_now hL), c4, e0, h71, h72, rem24 _ _ (by omega), mul20, w1]
    simp only [pm_then_i, pm_then_l, pm_then_v, b4_42]
  · rw [w2 7 (by decide), h71]
  · rw [w2 7 (by decide), h72]
  · rw [w2 8 (by decide), iw_n (by decide)]
    exact c5 j (by omega)
theorem m_undo_loop (hL : pm_lay g) {a : Nat} (ha : a ≤ 23) : ∀ m i (iv : pm_V) (f h : Nat → Int32), i + m = 45 → iv 38 = f → iv 32 8 = nI a → (∀ j, iv 36 j = if j < i then f (45 * a + j) else h j) →
    ∃ iv', pm_at X d 173 (27, [some (.ref 32), some (.int (nI i))], [], g, iv) = some (some (.int (nI a)), g, iv') ∧ chg [36] iv iv' ∧ ∀ j, iv' 36 j = if j < 45 then f (45 * a + j) else h j := by
  intro m
  induction m with
  | zero =>
    intro i iv f h hi h38 h8 hf
    have e : i = 45 := by omega
    subst e
    refine ⟨iv, ?_, chg_rf, hf⟩
    rw [b173_27, if_pos (show (45 : Int32) ≤ nI 45 from Int32.le_refl _), b173_59 hL, h8]
  | succ m ih =>
    intro i iv f h hi h38 h8 hf
    have h1 : ¬ (45 : Int32) ≤ nI i := by rw [le_i, show (45 : Int32).toInt = 45 from rfl, nI_t (by omega)]; omega
    have e1 : 45 * nI a + nI i = nI (45 * a + i) := by
      show nI 45 * nI a + nI i = _
      rw [pk_mul, nI_add]
    obtain ⟨iv', a1, a2, a3⟩ := ih (i + 1) (pm_iw iv 36 i (iv 38 (45 * a + i))) f h (by omega) (by rw [iw_n (by decide)]; exact h38) (by rw [iw_n (by decide)]; exact h8) (fun j => by
      rw [iw_s]
      by_cases e : j = i
      · rw [e, upd_s, if_pos (by omega), h38]
      · rw [upd_n e, hf]
        by_cases p : j < i
        · rw [if_pos p, if_pos (by omega)]
        · rw [if_neg p, if_neg (by omega)])
    refine ⟨iv', ?_, chg_tr (chg_iw (by decide)) a2, a3⟩
    rw [b173_27, if_neg h1, b173_33 hL (by rw [h8, e1]; exact vp_n (by omega) (by decide)) (vp_n (by omega) (by decide)), h8, e1, nI_c (by omega), nI_c (by omega), nI_1, a1]
theorem q_undo (hd : 4 ≤ d) (h : RL g iv) : PR X d g iv 102 173 [.ref 0] [.ref 32] := by
  obtain ⟨d, rfl, hd1⟩ := pm_d1 hd
  obtain ⟨d2, rfl, hd3⟩ := pm_d1 (show (d - 1) + 1 ≤ d by omega)
  obtain ⟨hg, v, co⟩ := h
  have hL := hg.1
  have hv := co.1.1
  have co2 := CO_0 co
  obtain ⟨a, o, r, hc, hm, hr⟩ := co.2.2.2.1
  have h8 : (pm_iw iv 32 0 0) 32 8 = nI a := by rw [iw_s, upd_n (by decide), hm.1]
  by_cases q : a = 0
  · subst q
    refine ⟨-1000002, iv, pm_iw iv 32 0 0, ?_, ?_, hg, v, co2⟩
    · rw [e102, b102_0 hL, e4, b4_0 hL, hc.2.2.2.1, if_neg (not_not_intro (show nI 0 = 0 from rfl)), b4_7]
      simp only [pm_then_i, pm_then_l, pm_then_v, b102_11, if_true, b102_24, b102_26]
    · rw [e173, b173_0 hL, h8, if_neg (not_not_intro (show nI 0 = 0 from rfl)), b173_12]
  · obtain ⟨a, rfl⟩ : ∃ e, a = e + 1 := ⟨a - 1, by omega⟩
    have ha24 := hc.1
    obtain ⟨iv1, w1, w2, w3, w4⟩ := t_takeBack (X := X) (show 2 ≤ d2 + 1 by omega) hL hv hc hr
    have h81 : (pm_iw iv1 32 0 0) 32 8 = nI (a + 1) := by rw [iw_s, upd_n (by decide), w2 32 (by decide), hm.1]
    obtain ⟨iv2, x1, x2, x3⟩ := m_undo_loop (X := X) (d := d2 + 1) hL (a := a) (by omega) 45 0 (pm_iw (pm_iw iv1 32 0 0) 32 8 (nI a)) (iv 38) ((pm_iw (pm_iw iv1 32 0 0) 32 8 (nI a)) 36) (by omega) (by rw [iw_n (by decide), iw_n (by decide), w2 38 (by decide)]) (by rw [iw_s, upd_s]) (fun j => by rw [if_neg (by omega)])
    have hra := hr a (by omega)
    have n0 : ¬ nI (a + 1) = 0 := fun e => by have := (nI_eq (a := a + 1) (b := 0) (by omega) (by omega)).mp e; omega
    have hchg : chg actL iv iv2 := chg_tr (chg_mo w2 (by decide)) (chg_tr (chg_iw (by decide)) (chg_tr (chg_iw (by decide)) (chg_mo x2 (by decide))))
    have f32 : ∀ c, c ≠ 0 → c ≠ 8 → iv2 32 c = iv 32 c := fun c p0 p8 => by rw [x2 32 (by decide), iw_s, upd_n p8, iw_s, upd_n p0, w2 32 (by decide)]
    have hq : chg [32, 36] iv1 iv2 := chg_tr (chg_iw (by decide)) (chg_tr (chg_iw (by decide)) (chg_mo x2 (by decide)))
    have co3 : CO g iv2 (r a) := by
      refine CO_ac co hchg (fun c p0 p1 p8 => f32 c p0 p8) ?_ ⟨SV_fr w4 (fun c p1 p2 => hq c (by simp only [List.mem_cons, List.not_mem_nil, or_false]; omega)), HAr_fr (hm.2 a (by omega)) hra.2.1.2.2.1 (fun j hj => by rw [x3, if_pos hj]), hra.2⟩ ⟨a, o, r, CA_fr w3 (by rw [hq 7 (by decide)]) (by rw [hq 7 (by decide)]) (hq 8 (by decide)), ⟨?_, fun j hj => ?_⟩, fun j hj => ?_⟩
      · rw [hq 0 (by decide), w2 0 (by decide), f32 1 (by decide) (by decide)]
        exact co.2.2.2.2.2.2.1
      · rw [x2 32 (by decide), iw_s, upd_s]
      · rw [hq 38 (by decide), w2 38 (by decide)]
        exact hm.2 j (by omega)
      · have := hr j (by omega)
        exact ⟨Sta_tr this.1 hra.1, this.2⟩
    refine ⟨nI a, iv1, iv2, ?_, ?_, hg, r a, co3⟩
    · rw [e102, b102_0 hL, w1]
      simp only [pm_then_i, pm_then_l, pm_then_v, b102_11, z10, if_false, b102_14 hL, e1, b1_0 hL, w3.2.2.2.1, b102_21, b102_26]
    · rw [nI_0] at x1
      rw [e173, b173_0 hL, h81, if_pos n0, b173_15 hL, h81, show nI (a + 1) - 1 = nI a from nI_pred a, x1]
/-- the reference lays its winter down -/
theorem m_winter_loop (hd : 1 ≤ d) (hL : pm_lay g) (ho : Hok v) {P : Nat → Nat} (hk : Pok v P) : ∀ m j (iv : pm_V) (a : Int32), j + m = vN v → HAr (iv 36) (wy v (fun i => if i < j then P i else vy v i)) → PL iv 40 (vN v) P → RB a j (vy v) P →
    ∃ iv' a', pm_at X d 168 (52, [some (.ref 32), some (.int a), some (.int (nI j))], [], g, iv) = some (some (.int a'), g, pm_iw iv' 36 4 (iv' 36 4 + 1)) ∧ chg [36] iv iv' ∧ HAr (iv' 36) (wy v P) ∧ RB a' (vN v) (vy v) P := by
  have hN := ho.2.2.1
  have hD := ho.2.1
  intro m
  induction m with
  | zero =>
    intro j iv a hj hv hp hb
    have e : j = vN v := by omega
    subst e
    refine ⟨iv, a, ?_, chg_rf, ?_, hb⟩
    · rw [b168_52 hL, show iv 36 3 = nI (vN v) from hv.2.2.1, if_pos (Int32.le_refl _), b168_113 hL]
    · refine ⟨hv.1, hv.2.1, hv.2.2.1, hv.2.2.2.1, hv.2.2.2.2.1, fun h hh => ?_⟩
      have := hv.2.2.2.2.2 h hh
      have e : vy (wy v (fun i => if i < vN v then P i else vy v i)) h = P h := if_pos hh
      rw [e] at this
      exact this
  | succ m ih =>
    intro j iv a hj hv hp hb
    have hlt : j < vN v := by omega
    have h1 : ¬ nI (vN v) ≤ nI j := nI_ge hlt (by omega)
    have hj6 : vp_in (nI j) 6 := vp_n (by omega) (by decide)
    have cj := nI_c (show j < 2147483648 by omega)
    have hyj := (ho.2.2.2.2.2 j hlt).2.1
    have hkj := hk j hlt
    have hok : Hok (wy v (fun i => if i < j then P i else vy v i)) := Hok_wy ho (fun i hi => by
      show (if i < j then P i else vy v i) < vD v
      split
      · exact hk i hi
      · exact (ho.2.2.2.2.2 i hi).2.1)
    have ey := m_ofy (X := X) (d := d) hd hL hv hok (h := j) hlt
    have eyj : vy (wy v (fun i => if i < j then P i else vy v i)) j = vy v j := if_neg (Nat.lt_irrefl j)
    rw [eyj] at ey
    have e9 : 9 + 6 * nI j + 2 = nI (9 + 6 * j + 2) := by
      show nI 9 + nI 6 * nI j + nI 2 = _
      rw [pk_mul, nI_add, nI_add]
    have i9 : vp_in (9 + 6 * nI j + 2) 45 := by rw [e9]; exact vp_n (by omega) (by decide)
    have ep : nI (P j) = nI (vy v j) ↔ P j = vy v j := nI_eq (by omega) (by omega)
    have hv' : HAr ((pm_iw iv 36 (9 + 6 * j + 2) (nI (P j))) 36) (wy v (fun i => if i < j + 1 then P i else vy v i)) := by
      rw [iw_s]
      refine ⟨by rw [upd_n (by omega)]; exact hv.1, by rw [upd_n (by omega)]; exact hv.2.1, by rw [upd_n (by omega)]; exact hv.2.2.1, by rw [upd_n (by omega)]; exact hv.2.2.2.1, fun l hl i hi => by rw [upd_n (by omega)]; exact hv.2.2.2.2.1 l hl i hi, fun h hh => ?_⟩
      have := hv.2.2.2.2.2 h hh
      have e1 : vy (wy v (fun i => if i < j + 1 then P i else vy v i)) h = if h < j + 1 then P h else vy v h := rfl
      have e2 : vy (wy v (fun i => if i < j then P i else vy v i)) h = if h < j then P h else vy v h := rfl
      rw [e2] at this
      rw [e1]
      by_cases e : h = j
      · subst e
        rw [upd_n (by omega), upd_n (by omega), upd_s, upd_n (by omega), upd_n (by omega), upd_n (by omega), if_pos (by omega)]
        exact ⟨this.1, this.2.1, rfl, this.2.2.2⟩
      · rw [upd_n (by omega), upd_n (by omega), upd_n (by omega), upd_n (by omega), upd_n (by omega), upd_n (by omega)]
        by_cases p : h < j
        · rw [if_pos (by omega)]
          rw [if_pos p] at this
          exact this
        · rw [if_neg (by omega)]
          rw [if_neg p] at this
          exact this
    have hb' : RB (a ||| (if P j = vy v j then 0 else (1 : Int32) <<< (nI j &&& 31))) (j + 1) (vy v) P := fun i hi => by
      rw [b_or, hb i hi]
      by_cases p : P j = vy v j
      · rw [if_pos p, b_0, Bool.or_false]
        by_cases e : i = j
        · rw [e, p, decide_eq_true rfl]; simp
        · rw [show decide (i < j + 1) = decide (i < j) by by_cases w : i < j <;> simp [w] <;> omega]
      · rw [if_neg p, b_one (by omega) hi]
        by_cases e : i = j
        · rw [e, decide_eq_true rfl, decide_eq_false p]; simp
        · rw [decide_eq_false e, Bool.or_false, show decide (i < j + 1) = decide (i < j) by by_cases w : i < j <;> simp [w] <;> omega]
    obtain ⟨iv', a', r1, r2, r3, r4⟩ := ih (j + 1) (pm_iw iv 36 (9 + 6 * j + 2) (nI (P j))) _ (by omega) hv' (fun h hh => by rw [iw_n (by decide)]; exact hp h hh) hb'
    refine ⟨iv', a', ?_, chg_tr (chg_iw (by decide)) r2, r3, r4⟩
    rw [← r1, b168_52 hL, show iv 36 3 = nI (vN v) from hv.2.2.1, if_neg h1, b168_62 hL hj6, cj, hp j hlt, ey]
    simp only [pm_then_i, pm_then_l, pm_then_v, b168_75, ep, b168_78, b168_84, b168_85 hL hj6 i9, cj, e9, nI_c (show 9 + 6 * j + 2 < 2147483648 by omega), hp j hlt, nI_1]
    by_cases p : P j = vy v j <;> simp only [p, bz_0, bz_n, bz_1, pm_zr0, pm_zr1, pm_zrI, if_true, if_false, not_true, not_false_eq_true, Bool.false_eq_true, true_and, and_true, false_and, and_false, z10, z01, zz0, eq_self]
theorem q_winter (hd : 8 ≤ d) (h : RL g iv) : PR X d g iv 98 168 [.ref 0] [.ref 32] := by
  obtain ⟨d, rfl, hd1⟩ := pm_d1 hd
  obtain ⟨hg, v, co⟩ := h
  have hL := hg.1
  have hv := co.1.1
  have ho := co.1.2.2.1
  have hs := co.1.2.2.2.1
  have hkk := co.1.2.2.2.2
  have hN := ho.2.2.1
  have co2 := CO_0 co
  have hw := co2.1.2.1
  obtain ⟨a, o, r, hc, hm, hr⟩ := co.2.2.2.1
  by_cases q0 : 0 < vL v
  · by_cases q1 : vW v = 9999
    · have n1 : ¬ nI (vW v) < 9999 := by rw [lt_i, toI9999, nI_t (by omega)]; omega
      have e1 : ¬ ¬ (pm_iw iv 32 0 0) 36 4 = 9999 := by
        rw [iw_n (by decide), co.1.2.1.2.2.2.1, q1]
        exact not_not_intro rfl
      refine ⟨-1000003, iv, pm_iw iv 32 0 0, ?_, ?_, hg, v, co2⟩
      · simp only [e98, b98_0 hL, t_stands (show 1 ≤ d by omega) (lay_now hL) hv ho, q0, pm_then_i, pm_then_l, pm_then_v, bz_0, bz_n, bz_1, pm_zr0, pm_zr1, pm_zrI, if_true, if_false, not_true, not_false_eq_true, Bool.false_eq_true, true_and, and_true, false_and, and_false, z10, z01, zz0, eq_self, b98_7, b98_13 hL, t_wintersGone (show 1 ≤ d by omega) (lay_now hL), hv.2.2.2.1, b98_20, n1, b98_26]
      · simp only [e168, b168_0 hL, m_isThere (show 1 ≤ d by omega) hL hw ho, q0, pm_then_i, pm_then_l, pm_then_v, bz_0, bz_n, bz_1, pm_zr0, pm_zr1, pm_zrI, if_true, if_false, not_true, not_false_eq_true, Bool.false_eq_true, true_and, and_true, false_and, and_false, z10, z01, zz0, eq_self, b168_9, b168_15 hL, if_neg e1, b168_27]
    · have n1 : nI (vW v) < 9999 := by have := hkk.1; rw [lt_i, toI9999, nI_t (by omega)]; omega
      have hW : vW v < 9999 := by have := hkk.1; omega
      obtain ⟨iv1, o', k1, k2, k3⟩ := t_keep (X := X) (show 2 ≤ d by omega) hL hv ho hc hr
      have hv1 : SV iv1 11 v := SV_fr hv (fun c p1 p2 => k2 c (by simp only [List.mem_cons, List.not_mem_nil, or_false]; omega))
      obtain ⟨iv2, x', r1, r2, r3, r4⟩ := t_rollAll (X := X) (show 5 ≤ d by omega) (lay_now hL) hv1 ho hs
      have hc12 : chg actL iv iv2 := chg_tr (chg_mo k2 (by decide)) (chg_mo r2 (by decide))
      -- the reference
      have hw2 : HAr ((pm_iw iv2 32 0 0) 36) v := by rw [iw_n (by decide), r2 36 (by decide), k2 36 (by decide)]; exact co.1.2.1
      have hm2 : MA (pm_iw iv2 32 0 0) a r := MA_fr hm (by rw [iw_s, upd_n (by decide), r2 32 (by decide), k2 32 (by decide)]) (by rw [iw_n (by decide), r2 38 (by decide), k2 38 (by decide)])
      obtain ⟨iv3, m1, m2, m3, m4⟩ := m_keep (X := X) (show 1 ≤ d by omega) hL hw2 ho hc.1 hm2 hr
      have hw3 : HAr (iv3 36) v := by rw [m2 36 (by decide)]; exact hw2
      obtain ⟨iv4, l1, l2, l3, l4⟩ := m_layNow (X := X) (show 2 ≤ d by omega) hL hw3 ho
      have hw4 : HAr (iv4 36) v := by rw [l2 36 (by decide)]; exact hw3
      obtain ⟨iv5, w1, w2, w3⟩ := m_goWinter (X := X) (w := vW v) (show 5 ≤ d by omega) hL hw4 ho l3 (Pok_self ho) l4 (by omega)
      have hw5 : HAr (iv5 36) v := by rw [w2 36 (by decide)]; exact hw4
      have hP : Pok v (wnt v (vC v) (vW v) (vy v)) := Pok_wnt (Pok_self ho)
      have hv5 : HAr (iv5 36) (wy v (fun i => if i < 0 then (wnt v (vC v) (vW v) (vy v)) i else vy v i)) := hw5
      obtain ⟨iv6, a', y1, y2, y3, y4⟩ := m_winter_loop (X := X) (show 1 ≤ d by omega) hL ho hP (vN v) 0 iv5 0 (by omega) hv5 w3 (fun i hi => by rw [b_0, decide_eq_false (by omega), Bool.false_and])
      rw [nI_0] at y1
      have ea : a' = x' := b_ext (fun i hi => by rw [y4 i hi, r4 i hi])
      have e4 : iv6 36 4 + 1 = nI (vW v + 1) := by rw [show iv6 36 4 = nI (vW v) from y3.2.2.2.1, nI_1]
      have hc36 : chg [32, 36, 38, 40, 41, 42] iv2 (pm_iw iv6 36 4 (nI (vW v + 1))) := chg_tr (chg_iw (by decide)) (chg_tr (chg_mo m2 (by decide)) (chg_tr (chg_mo l2 (by decide)) (chg_tr (chg_mo w2 (by decide)) (chg_tr (chg_mo y2 (by decide)) (chg_iw (by decide))))))
      have f32 : ∀ c, c ≠ 0 → c ≠ 8 → (pm_iw iv6 36 4 (nI (vW v + 1))) 32 c = iv 32 c := fun c p0 p8 => by rw [iw_n (by decide), y2 32 (by decide), w2 32 (by decide), l2 32 (by decide), m3 c p8, iw_s, upd_n p0, r2 32 (by decide), k2 32 (by decide)]
      have hv6 : HAr ((pm_iw iv6 36 4 (nI (vW v + 1))) 36) (wW (wy v (wnt v (vC v) (vW v) (vy v))) (vW v + 1)) := by
        rw [iw_s]
        refine ⟨by rw [upd_n (by omega)]; exact y3.1, by rw [upd_n (by omega)]; exact y3.2.1, by rw [upd_n (by omega)]; exact y3.2.2.1, by rw [upd_s]; rfl, fun l hl i hi => by rw [upd_n (by omega)]; exact y3.2.2.2.2.1 l hl i hi, fun h hh => ?_⟩
        rw [upd_n (by omega), upd_n (by omega), upd_n (by omega), upd_n (by omega), upd_n (by omega), upd_n (by omega)]
        exact y3.2.2.2.2.2 h hh
      have co3 : CO g (pm_iw iv6 36 4 (nI (vW v + 1))) (wW (wy v (wnt v (vC v) (vW v) (vy v))) (vW v + 1)) := by
        refine CO_ac co (chg_tr hc12 (chg_mo hc36 (by decide))) (fun c p0 p1 p8 => f32 c p0 p8) ?_ ⟨SV_fr r3 (fun c p1 p2 => hc36 c (by simp only [List.mem_cons, List.not_mem_nil, or_false]; omega)), hv6, ⟨ho.1, ho.2.1, ho.2.2.1, by show vW v + 1 < 100000; omega, ho.2.2.2.2.1, fun h hh => ⟨(ho.2.2.2.2.2 h hh).1, hP h hh, (ho.2.2.2.2.2 h hh).2.2⟩⟩, Dst_wnt ho (Pok_self ho) hs, ⟨by show vW v + 1 ≤ 9999; omega, hkk.2⟩⟩ ⟨kA a, o', kR a r v, CA_fr k3 ?_ ?_ ?_, MA_fr m4 ?_ ?_, RO_k hr ho hs hkk (fun u hu => hu)⟩
        · rw [hc36 0 (by decide), r2 0 (by decide), k2 0 (by decide), f32 1 (by decide) (by decide)]
          exact co.2.2.2.2.2.2.1
        · rw [hc36 7 (by decide), r2 7 (by decide)]
        · rw [hc36 7 (by decide), r2 7 (by decide)]
        · rw [hc36 8 (by decide), r2 8 (by decide)]
        · rw [iw_n (by decide), y2 32 (by decide), w2 32 (by decide), l2 32 (by decide)]
        · rw [iw_n (by decide), y2 38 (by decide), w2 38 (by decide), l2 38 (by decide)]
      have e49 : ¬ (pm_iw iv2 32 0 0) 36 4 = 9999 := by
        rw [hw2.2.2.2.1]
        exact fun e => q1 ((nI_eq (a := vW v) (b := 9999) (by omega) (by omega)).mp e)
      refine ⟨x', iv2, pm_iw iv6 36 4 (nI (vW v + 1)), ?_, ?_, hg, _, co3⟩
      · simp only [e98, b98_0 hL, t_stands (show 1 ≤ d by omega) (lay_now hL) hv ho, q0, pm_then_i, pm_then_l, pm_then_v, bz_0, bz_n, bz_1, pm_zr0, pm_zr1, pm_zrI, if_true, if_false, not_true, not_false_eq_true, Bool.false_eq_true, true_and, and_true, false_and, and_false, z10, z01, zz0, eq_self, b98_7, b98_13 hL, t_wintersGone (show 1 ≤ d by omega) (lay_now hL), hv.2.2.2.1, b98_20, n1, b98_29 hL, k1, b98_40 hL, r1, b98_47]
      · rw [e4] at y1
        simp only [e168, b168_0 hL, m_isThere (show 1 ≤ d by omega) hL hw2 ho, q0, pm_then_i, pm_then_l, pm_then_v, bz_0, bz_n, bz_1, pm_zr0, pm_zr1, pm_zrI, if_true, if_false, not_true, not_false_eq_true, Bool.false_eq_true, true_and, and_true, false_and, and_false, z10, z01, zz0, eq_self, b168_9, b168_15 hL, if_pos e49, b168_30 hL, m1, b168_34 hL, l1, b168_38 hL, hw4.2.2.2.1, w1, b168_48, y1, ea]
  · refine ⟨-1000002, iv, pm_iw iv 32 0 0, ?_, ?_, hg, v, co2⟩
    · simp only [e98, b98_0 hL, t_stands (show 1 ≤ d by omega) (lay_now hL) hv ho, q0, pm_then_i, pm_then_l, pm_then_v, bz_0, bz_n, bz_1, pm_zr0, pm_zr1, pm_zrI, if_true, if_false, not_true, not_false_eq_true, Bool.false_eq_true, true_and, and_true, false_and, and_false, z10, z01, zz0, eq_self, b98_7, b98_10]
    · simp only [e168, b168_0 hL, m_isThere (show 1 ≤ d by omega) hL hw ho, q0, pm_then_i, pm_then_l, pm_then_v, bz_0, bz_n, bz_1, pm_zr0, pm_zr1, pm_zrI, if_true, if_false, not_true, not_false_eq_true, Bool.false_eq_true, true_and, and_true, false_and, and_false, z10, z01, zz0, eq_self, b168_9, b168_12]
end Q56
