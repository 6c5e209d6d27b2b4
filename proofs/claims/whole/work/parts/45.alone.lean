/-! a house alone on its lane -/
def AL (v : HV) (h y w : Nat) : HV := (vL v, vD v, 1, w, (fun _ => false), vS v, (fun _ => vK v h), (fun _ => vH v 0), (fun _ => vl v h), (fun _ => y), fun _ => vt v 0)
def st1 (v : HV) (h y : Nat) : Nat := if y + 1 < vD v ∧ ¬ vS v (vl v h) (y + 1) = true then y + 1 else y
def st (v : HV) (h w y : Nat) : Nat := if vK v h = 1 ∧ w % 2 = 1 then y else if vK v h = 3 then st1 v h (st1 v h y) else st1 v h y
def stN (v : HV) (h w : Nat) : Nat → Nat → Nat
  | 0, y => y
  | n + 1, y => st v h (w + n) (stN v h w n y)
theorem st1_lt {v : HV} {h y : Nat} (hy : y < vD v) : st1 v h y < vD v := by unfold st1; split <;> omega
theorem st_lt {v : HV} {h w y : Nat} (hy : y < vD v) : st v h w y < vD v := by
  unfold st
  split
  · exact hy
  · split
    · exact st1_lt (st1_lt hy)
    · exact st1_lt hy
theorem stN_lt {v : HV} {h w y : Nat} (hy : y < vD v) : ∀ n, stN v h w n y < vD v
  | 0 => hy
  | n + 1 => st_lt (stN_lt hy n)
theorem Hok_AL {v : HV} (ho : Hok v) {h y w : Nat} (hh : h < vN v) (hy : y < vD v) (hw : w < 100000) : Hok (AL v h y w) :=
  ⟨ho.1, ho.2.1, by show 1 ≤ 6; omega, hw, ho.2.2.2.2.1, fun _ _ => ⟨(ho.2.2.2.2.2 h hh).1, hy, (ho.2.2.2.2.2 h hh).2.2.1, (ho.2.2.2.2.2 0 (by omega)).2.2.2⟩⟩
theorem Dst_AL {v : HV} {h y w : Nat} {P : Nat → Nat} (hs : ¬ vS v (vl v h) (P 0) = true) : Dst (AL v h y w) P :=
  ⟨fun a b ha hb ne => by
    have ha : a < 1 := ha
    have hb : b < 1 := hb
    omega, fun a ha => by
    have ha : a < 1 := ha
    have : a = 0 := by omega
    subst this
    exact hs⟩
theorem rl1_AL {v : HV} (ho : Hok v) {h y w : Nat} {P : Nat → Nat} (hh : h < vN v) (hP : P 0 < vD v) : rl1 (AL v h y w) P 0 0 = st1 v h (P 0) := by
  have hD := ho.2.1
  have hL := ho.1
  have a := ho.2.2.2.2.2 h hh
  have hn : ¬ hsAt (AL v h y w) P (vl v h) (P 0 + 1) = true := by
    intro q
    have q : atF (fun _ => vl v h) P 1 (nI (vl v h)) (nI (P 0 + 1)) < 1 := of_decide_eq_true q
    have q2 := of_decide_eq_true (fstF_yes _ _ q)
    have e : atF (fun _ => vl v h) P 1 (nI (vl v h)) (nI (P 0 + 1)) = 0 := by omega
    have q3 : nI (P (atF (fun _ => vl v h) P 1 (nI (vl v h)) (nI (P 0 + 1)))) = nI (P 0 + 1) := q2.2
    rw [e, nI_eq (by omega) (by omega)] at q3
    omega
  unfold rl1 st1
  show (if P 0 + 1 < vD v ∧ ¬ vS v (vl v h) (P 0 + 1) = true ∧ ¬ hsAt (AL v h y w) P (vl v h) (P 0 + 1) = true then np P 0 (P 0 + 1) else P) 0 = _
  by_cases q : P 0 + 1 < vD v ∧ ¬ vS v (vl v h) (P 0 + 1) = true
  · rw [if_pos ⟨q.1, q.2, hn⟩, if_pos q, np_s]
  · rw [if_neg (fun e => q ⟨e.1, e.2.1⟩), if_neg q]
theorem rlD_AL {v : HV} {h y w w' : Nat} {he : Nat → Bool} {bg : Nat → Nat} : ∀ (m : Nat) (P : Nat → Nat), rlD (AL v h y w) he bg w' m P = if bg 0 < m then rlH (AL v h y w) he bg w' P 0 else P
  | 0, P => by rw [if_neg (by omega)]; rfl
  | m + 1, P => by
    have e : rlY (AL v h y w) he bg w' m (vN (AL v h y w)) 0 P = if bg 0 = m then rlH (AL v h y w) he bg w' P 0 else P := rfl
    rw [rlD, rlD_AL m, e]
    by_cases q : bg 0 = m
    · rw [if_pos q, if_neg (by omega), if_pos (by omega)]
    · rw [if_neg q]
      by_cases q2 : bg 0 < m
      · rw [if_pos q2, if_pos (by omega)]
      · rw [if_neg q2, if_neg (by omega)]
theorem wnt_AL {v : HV} (ho : Hok v) {h y w w' : Nat} {P : Nat → Nat} (hh : h < vN v) (hP : P 0 < vD v) : wnt (AL v h y w) (fun _ => false) w' P 0 = st v h w' (P 0) := by
  have e : wnt (AL v h y w) (fun _ => false) w' P = if P 0 < vD v then rlH (AL v h y w) (fun _ => false) P w' P 0 else P := rlD_AL _ _
  have em : may (AL v h y w) (fun _ => false) P w' 0 = !(decide (vK v h = 1) && decide (w' % 2 = 1)) := by
    have ea : alo P 0 (vN (AL v h y w)) = true := by show (true && (decide (0 = 0) || !decide (P 0 = P 0))) = true; simp
    unfold may
    rw [ea]
    show (!false && !(decide (vK v h = 1) && decide (w' % 2 = 1)) && !(decide (vK v h = 2) && !true)) = _
    simp
  rw [e, if_pos hP]
  unfold rlH st
  rw [em]
  by_cases q1 : vK v h = 1 ∧ w' % 2 = 1
  · rw [if_pos q1, if_neg (by simp [q1.1, q1.2])]
  · rw [if_neg q1]
    have q2 : (!(decide (vK v h = 1) && decide (w' % 2 = 1))) = true := by
      by_cases a : vK v h = 1
      · have b : ¬ w' % 2 = 1 := fun b => q1 ⟨a, b⟩
        simp [b]
      · simp [a]
    rw [if_pos q2]
    show (if vK v h = 3 then rl1 (AL v h y w) (rl1 (AL v h y w) P 0) 0 else rl1 (AL v h y w) P 0) 0 = _
    by_cases q3 : vK v h = 3
    · rw [if_pos q3, if_pos q3, rl1_AL ho hh (by rw [rl1_AL ho hh hP]; exact st1_lt hP), rl1_AL ho hh hP]
    · rw [if_neg q3, if_neg q3, rl1_AL ho hh hP]
theorem wnts_AL {v : HV} (ho : Hok v) {h y w w' : Nat} {P : Nat → Nat} (hh : h < vN v) (hP : P 0 < vD v) : ∀ n, wnts (AL v h y w) (fun _ => false) w' n P 0 = stN v h w' n (P 0)
  | 0 => rfl
  | n + 1 => by
    have ih := wnts_AL ho (y := y) (w := w) (w' := w') hh hP n
    rw [wnts_s, wnt_AL ho hh (by rw [ih]; exact stN_lt hP n), ih]
    rfl
section Q45
variable {X : pm_X} {d k : Nat} {g : pm_G} {iv : pm_V} {v : HV} {h y w n : Nat} {x z : Int32}
theorem t_leaveAlone (hd : 2 ≤ d) (hK : pm_sl g k) (hv : SV iv k v) (ho : Hok v) (hh : h < vN v) : ∃ iv', pm_c X d 58 [.ref k, .int (nI h)] g iv = some (none, g, iv') ∧ chg [k, k + 2, k + 4] iv iv' ∧ SV iv' k (AL v h (vy v 0) (vW v)) := by
  obtain ⟨d, rfl, hd1⟩ := pm_d1 hd
  have h6 := ho.2.2.1
  have hin : vp_in (nI h) 6 := vp_n (by omega) (by decide)
  have h1 : ¬ (1 : Int32) = 0 := by decide
  refine ⟨pm_iw (pm_iw (pm_iw (pm_iw iv (k + 2) 0 (iv (k + 2) h)) (k + 4) 0 ((pm_iw iv (k + 2) 0 (iv (k + 2) h)) (k + 4) h)) k 2 1) k 4 0, ?_, chg_tr (chg_tr (chg_tr (chg_iw (by simp)) (chg_iw (by simp))) (chg_iw (by simp))) (chg_iw (by simp)), ?_⟩
  · simp only [e58, b58_0 hK, t_isHouse hd1 hK hv ho, pm_then_i, pm_then_l, pm_then_v, if_pos (ip_n hh (show vN v < 2147483648 by omega)), b58_5, h1, not_false_eq_true, if_true, b58_9 hK hin, nI_c (show h < 2147483648 by omega)]
  · have e0 := (hv.2.2.2.2.2.2 0 (by omega))
    have eh := (hv.2.2.2.2.2.2 h hh)
    refine ⟨?_, ?_, ?_, ?_, ?_, ?_, ?_⟩
    · simp (disch := omega) only [iw_n, iw_s, upd_s, upd_n]
      exact hv.1
    · simp (disch := omega) only [iw_n, iw_s, upd_s, upd_n]
      exact hv.2.1
    · simp (disch := omega) only [iw_n, iw_s, upd_s, upd_n]
      rfl
    · simp (disch := omega) only [iw_n, iw_s, upd_s, upd_n]
      exact hv.2.2.2.1
    · intro i hi
      simp (disch := omega) only [iw_n, iw_s, upd_s, upd_n]
      rw [b_0]
      show false = (decide (i < 1) && false)
      rw [Bool.and_false]
    · intro l hl i hi
      simp (disch := omega) only [iw_n, iw_s, upd_s, upd_n]
      exact hv.2.2.2.2.2.1 l hl i hi
    · intro q hq
      have hq : q < 1 := hq
      have : q = 0 := by omega
      subst this
      simp (disch := omega) only [iw_n, iw_s, upd_s, upd_n]
      exact ⟨eh.1, e0.2.1, eh.2.2.1, e0.2.2.2.1, e0.2.2.2.2⟩
theorem t_beginAlone {P : Nat → Nat} {w0 : Nat} (hd : 1 ≤ d) (hK : pm_sl g k) (hv : SV iv k (TV (AL v h 0 0) (fun _ => false) P w0)) : ∃ iv', pm_c X d 59 [.ref k, .int (nI y), .int (nI w)] g iv = some (none, g, iv') ∧ chg [k, k + 5] iv iv' ∧ SV iv' k (AL v h y w) := by
  obtain ⟨d, rfl, hd1⟩ := pm_d1 hd
  refine ⟨pm_iw (pm_iw iv (k + 5) 0 (nI y)) k 3 (nI w), ?_, chg_tr (chg_iw (by simp)) (chg_iw (by simp)), ?_⟩
  · simp only [e59, b59_0 hK]
  · refine ⟨?_, ?_, ?_, ?_, ?_, ?_, ?_⟩
    · simp (disch := omega) only [iw_n, iw_s, upd_s, upd_n]
      exact hv.1
    · simp (disch := omega) only [iw_n, iw_s, upd_s, upd_n]
      exact hv.2.1
    · simp (disch := omega) only [iw_n, iw_s, upd_s, upd_n]
      exact hv.2.2.1
    · simp (disch := omega) only [iw_n, iw_s, upd_s, upd_n]
      rfl
    · intro i hi
      simp (disch := omega) only [iw_n, iw_s, upd_s, upd_n]
      exact hv.2.2.2.2.1 i hi
    · intro l hl i hi
      simp (disch := omega) only [iw_n, iw_s, upd_s, upd_n]
      exact hv.2.2.2.2.2.1 l hl i hi
    · intro q hq
      have hq : q < 1 := hq
      have : q = 0 := by omega
      subst this
      have e := hv.2.2.2.2.2.2 0 (by show 0 < 1; omega)
      simp (disch := omega) only [iw_n, iw_s, upd_s, upd_n]
      exact ⟨e.1, e.2.1, e.2.2.1, rfl, e.2.2.2.2⟩
/-- the yards from y on at which h may have begun -/
def sdF (v : HV) (h w n : Nat) : Nat → Nat → Int32 → Int32
  | 0, _, a => a
  | m + 1, y, a => sdF v h w n m (y + 1) (if ¬ vS v (vl v h) y = true ∧ stN v h w n y = vy v h then a ||| ((1 : Int32) <<< (nI y &&& 31)) else a)
theorem t_stood_loop (hd : 6 ≤ d) (hL : pm_lay g) (ho : Hok v) (hh : h < vN v) (hw : w ≤ 40) (hn : n ≤ 40) : ∀ m y a (iv : pm_V) (P : Nat → Nat) (w0 : Nat), SV iv 11 v → SV iv 21 (TV (AL v h 0 0) (fun _ => false) P w0) → y + m = vD v →
    ∃ iv', chg tri iv iv' ∧ pm_at X d 110 (57, [some (.ref 0), some (.int (nI h)), some (.int (nI w)), some (.int (nI n)), some (.int a), some (.int (nI y))], [], g, iv) = some (some (.int (sdF v h w n m y a)), g, iv') := by
  have hD := ho.2.1
  have hN := ho.2.2.1
  have hL4 := ho.1
  have hb := ho.2.2.2.2.2 h hh
  intro m
  induction m with
  | zero =>
    intro y a iv P w0 hv ht hy
    have e : y = vD v := by omega
    subst e
    refine ⟨iv, chg_rf, ?_⟩
    have e1 : ¬ ip (nI (vD v)) (vD v) = true := fun q => by
      have q := of_decide_eq_true q
      rw [nI_t (by omega)] at q
      omega
    rw [b110_57]
    by_cases p : (20 : Int32) ≤ nI (vD v)
    · rw [if_pos p, b110_148, sdF]
    · simp only [p, bz_0, bz_n, bz_1, pm_zr0, pm_zr1, pm_zrI, if_true, if_false, not_true, not_false_eq_true, Bool.false_eq_true, true_and, and_true, false_and, and_false, z10, z01, zz0, eq_self, b110_64 hL, t_isYard (show 1 ≤ d by omega) (lay_now hL) hv ho, e1, pm_then_i, pm_then_l, pm_then_v, b110_73, b110_148, sdF]
  | succ m ih =>
    intro y a iv P w0 hv ht hy
    have hlt : y < vD v := by omega
    have p : ¬ (20 : Int32) ≤ nI y := by rw [le_i, toI20, nI_t (by omega)]; omega
    have e1 : ip (nI y) (vD v) = true := ip_n hlt (by omega)
    have e2 : ip (nI (vl v h)) (vL v) = true := ip_n hb.1 (by omega)
    have c1 := nI_c (show y < 2147483648 by omega)
    have c2 := nI_c (show vl v h < 2147483648 by omega)
    rw [sdF]
    by_cases q : vS v (vl v h) y = true
    · obtain ⟨iv2, b1, b2⟩ := ih (y + 1) a iv P w0 hv ht (by omega)
      refine ⟨iv2, b1, ?_⟩
      rw [if_neg (fun e => e.1 q)]
      simp only [b110_57, p, bz_0, bz_n, bz_1, pm_zr0, pm_zr1, pm_zrI, if_true, if_false, not_true, not_false_eq_true, Bool.false_eq_true, true_and, and_true, false_and, and_false, z10, z01, zz0, eq_self, b110_64 hL, t_isYard (show 1 ≤ d by omega) (lay_now hL) hv ho, e1, pm_then_i, pm_then_l, pm_then_v, b110_73, b110_76 hL, t_laneOf (show 2 ≤ d by omega) (lay_now hL) hv ho hh, b110_88 hL, t_isStone (show 2 ≤ d by omega) (lay_now hL) hv ho, e2, c1, c2, q, b110_93, b110_96, b110_142, nI_1, b2]
    · obtain ⟨iv1, f1, f2, f3⟩ := t_beginAlone (X := X) (y := y) (w := w) (show 1 ≤ d by omega) (lay_trial hL) ht
      obtain ⟨iv2, g1, g2, g3⟩ := t_rollTrial (X := X) (n := n) (show 6 ≤ d by omega) hL (Hok_AL ho hh hlt (by omega)) (Dst_AL (y := y) (w := w) (P := fun _ => y) q) (by omega) (show w ≤ 9999 by omega) f3
      have hc : chg tri iv iv2 := chg_tr (chg_mo f2 (by decide)) g2
      have hv2 : SV iv2 11 v := SV_fr hv (fun e p1 p2 => hc e (by simp only [tri, List.mem_cons, List.not_mem_nil, or_false]; omega))
      have hk2 : Hok (TN (AL v h y w) n) := Hok_TN (Hok_AL ho hh hlt (by omega)) (by show w + n < 100000; omega)
      have ey := t_yardOf (X := X) (show 2 ≤ d by omega) (lay_trial hL) g3 hk2 (h := 0) (show 0 < 1 by omega)
      have ew : vy (TN (AL v h y w) n) 0 = stN v h w n y := wnts_AL ho (P := fun _ => y) hh hlt n
      rw [ew] at ey
      obtain ⟨iv3, b1, b2⟩ := ih (y + 1) (if ¬ vS v (vl v h) y = true ∧ stN v h w n y = vy v h then a ||| ((1 : Int32) <<< (nI y &&& 31)) else a) iv2 _ _ hv2 g3 (by omega)
      refine ⟨iv3, chg_tr hc b1, ?_⟩
      have hst := stN_lt (h := h) (w := w) hlt n
      rw [nI_0] at ey
      by_cases r : stN v h w n y = vy v h
      · rw [if_pos ⟨q, r⟩] at b2 ⊢
        simp only [b110_57, p, bz_0, bz_n, bz_1, pm_zr0, pm_zr1, pm_zrI, if_true, if_false, not_true, not_false_eq_true, Bool.false_eq_true, true_and, and_true, false_and, and_false, z10, z01, zz0, eq_self, b110_64 hL, t_isYard (show 1 ≤ d by omega) (lay_now hL) hv ho, e1, pm_then_i, pm_then_l, pm_then_v, b110_73, b110_76 hL, t_laneOf (show 2 ≤ d by omega) (lay_now hL) hv ho hh, b110_88 hL, t_isStone (show 2 ≤ d by omega) (lay_now hL) hv ho, e2, c1, c2, q, b110_93, b110_99 hL, f1, b110_109 hL, g1, b110_114 hL, ey, b110_122 hL, t_yardOf (show 2 ≤ d by omega) (lay_now hL) hv2 ho hh, b110_130, nI_eq (show stN v h w n y < 2147483648 by omega) (show vy v h < 2147483648 by omega), r, b110_133, b110_142, nI_1, b2]
      · rw [if_neg (fun e => r e.2)] at b2 ⊢
        simp only [b110_57, p, bz_0, bz_n, bz_1, pm_zr0, pm_zr1, pm_zrI, if_true, if_false, not_true, not_false_eq_true, Bool.false_eq_true, true_and, and_true, false_and, and_false, z10, z01, zz0, eq_self, b110_64 hL, t_isYard (show 1 ≤ d by omega) (lay_now hL) hv ho, e1, pm_then_i, pm_then_l, pm_then_v, b110_73, b110_76 hL, t_laneOf (show 2 ≤ d by omega) (lay_now hL) hv ho hh, b110_88 hL, t_isStone (show 2 ≤ d by omega) (lay_now hL) hv ho, e2, c1, c2, q, b110_93, b110_99 hL, f1, b110_109 hL, g1, b110_114 hL, ey, b110_122 hL, t_yardOf (show 2 ≤ d by omega) (lay_now hL) hv2 ho hh, b110_130, nI_eq (show stN v h w n y < 2147483648 by omega) (show vy v h < 2147483648 by omega), r, b110_142, nI_1, b2]
/-- one yard alone, on the reference's side -/
theorem m_al_step (hd : 1 ≤ d) (hL : pm_lay g) (hv : HAr (iv 36) v) (ho : Hok v) (hh : h < vN v) {Y q at_ : Nat} {x6 x7 : Int32} {x2 x3 x4 : Int32} (hq : q < Y) (hY : Y < 1000) (hy : at_ < vD v) : pm_at X d 185 (57, [some (.ref 32), some (.int (nI h)), some (.int x2), some (.int x3), some (.int x4), some (.int (nI at_)), some (.int x6), some (.int x7), some (.int (nI Y)), some (.int (nI q))], [], g, iv) = if at_ + 1 < vD v ∧ ¬ vS v (vl v h) (at_ + 1) = true then pm_at X d 185 (57, [some (.ref 32), some (.int (nI h)), some (.int x2), some (.int x3), some (.int x4), some (.int (nI (at_ + 1))), some (.int x6), some (.int x7), some (.int (nI Y)), some (.int (nI (q + 1)))], [], g, iv) else pm_at X d 185 (103, [some (.ref 32), some (.int (nI h)), some (.int x2), some (.int x3), some (.int x4), some (.int (nI at_)), some (.int x6), some (.int x7), some (.int (nI Y)), some (.int (nI q))], [], g, iv) := by
  have hD := ho.2.1
  have hL4 := ho.1
  have hb := ho.2.2.2.2.2 h hh
  have h1 : ¬ nI Y ≤ nI q := nI_ge hq (by omega)
  rw [b185_57, if_neg h1, b185_64 hL, hv.2.1, nI_1]
  by_cases p : at_ + 1 < vD v
  · rw [if_neg (nI_ge p (by omega))]
    simp only [b185_77 hL, m_ofl hd hL hv ho hh, pm_then_i, pm_then_l, pm_then_v, b185_84 hL, nI_1, m_isStone hd hL hv (show vl v h < 4 by omega) (show at_ + 1 < 32 by omega), b185_91, p, true_and, b185_94]
    by_cases r : vS v (vl v h) (at_ + 1) = true <;> simp only [r, bz_0, bz_n, bz_1, pm_zr0, pm_zr1, pm_zrI, if_true, if_false, not_true, not_false_eq_true, Bool.false_eq_true, true_and, and_true, false_and, and_false, z10, z01, zz0, eq_self]
  · rw [if_pos ((nI_le' (by omega) (by omega)).mpr (by omega)), if_neg (fun e => p e.1)]
theorem m_al_end {Y q : Nat} {x1 x2 x3 x4 x5 x6 x7 : Int32} (hq : Y ≤ q) (hY : q < 1000) : pm_at X d 185 (57, [some (.ref 32), some (.int x1), some (.int x2), some (.int x3), some (.int x4), some (.int x5), some (.int x6), some (.int x7), some (.int (nI Y)), some (.int (nI q))], [], g, iv) = pm_at X d 185 (103, [some (.ref 32), some (.int x1), some (.int x2), some (.int x3), some (.int x4), some (.int x5), some (.int x6), some (.int x7), some (.int (nI Y)), some (.int (nI q))], [], g, iv) := by
  rw [b185_57, if_pos ((nI_le' (by omega) (by omega)).mpr hq)]
theorem m_aloneTo_loop (hd : 1 ≤ d) (hL : pm_lay g) (hv : HAr (iv 36) v) (ho : Hok v) (hh : h < vN v) (hw : w ≤ 40) (hn : n ≤ 40) (hy : y < vD v) {x2 : Int32} : ∀ m j (z8 z9 : Option Value), j + m = n → pm_at X d 185 (14, [some (.ref 32), some (.int (nI h)), some (.int x2), some (.int (nI w)), some (.int (nI n)), some (.int (nI (stN v h w j y))), some (.int (nI (vK v h))), some (.int (nI j)), z8, z9], [], g, iv) = some (some (.int (nI (stN v h w n y))), g, iv) := by
  have hD := ho.2.1
  have hb := ho.2.2.2.2.2 h hh
  intro m
  induction m with
  | zero =>
    intro j z8 z9 hj
    have e : j = n := by omega
    subst e
    rw [b185_14, if_pos (Int32.le_refl _), b185_109]
  | succ m ih =>
    intro j z8 z9 hj
    have h1 : ¬ nI n ≤ nI j := nI_ge (by omega) (by omega)
    have hs := stN_lt (h := h) (w := w) hy j
    have hs1 := st1_lt (h := h) hs
    have k3 : nI (vK v h) = 3 ↔ vK v h = 3 := nI_eq (a := vK v h) (b := 3) (by omega) (by omega)
    have k1 : nI (vK v h) = 1 ↔ vK v h = 1 := nI_eq (a := vK v h) (b := 1) (by omega) (by omega)
    have eo := w_odd (w := w + j) (by omega)
    have e2 : stN v h w (j + 1) y = st v h (w + j) (stN v h w j y) := rfl
    rw [b185_14, if_neg h1, b185_21]
    by_cases q3 : vK v h = 3
    · rw [if_neg (not_not_intro (k3.mpr q3)), b185_27, b185_52]
      have e3 : st v h (w + j) (stN v h w j y) = st1 v h (st1 v h (stN v h w j y)) := by
        unfold st
        rw [if_neg (by omega), if_pos q3]
      have s1 := m_al_step (X := X) (x2 := x2) (x3 := nI w) (x4 := nI n) (x6 := nI (vK v h)) (x7 := nI j) (Y := 2) (q := 0) hd hL hv ho hh (by omega) (by omega) hs
      rw [nI_0] at s1
      show pm_at X d 185 (57, [_, _, _, _, _, _, _, _, some (.int (nI 2)), some (.int 0)], [], g, iv) = _
      rw [s1]
      by_cases p : stN v h w j y + 1 < vD v ∧ ¬ vS v (vl v h) (stN v h w j y + 1) = true
      · have f1 : st1 v h (stN v h w j y) = stN v h w j y + 1 := if_pos p
        rw [if_pos p, m_al_step hd hL hv ho hh (by omega) (by omega) p.1]
        by_cases p2 : stN v h w j y + 1 + 1 < vD v ∧ ¬ vS v (vl v h) (stN v h w j y + 1 + 1) = true
        · have f2 : st1 v h (stN v h w j y + 1) = stN v h w j y + 1 + 1 := if_pos p2
          rw [if_pos p2, m_al_end (by omega) (by omega), b185_103, nI_1, ← f2, ← f1, ← e3, ← e2, ih (j + 1) _ _ (by omega)]
        · have f2 : st1 v h (stN v h w j y + 1) = stN v h w j y + 1 := if_neg p2
          rw [if_neg p2, b185_103, nI_1, ← f2, ← f1, ← e3, ← e2, ih (j + 1) _ _ (by omega)]
      · have f1 : st1 v h (stN v h w j y) = stN v h w j y := if_neg p
        have e4 : stN v h w j y = stN v h w (j + 1) y := by rw [e2, e3, f1, f1]
        rw [if_neg p, b185_103, nI_1, e4, ih (j + 1) _ _ (by omega)]
    · rw [if_pos (fun e => q3 (k3.mp e)), b185_31]
      have go : pm_at X d 185 (51, [some (.ref 32), some (.int (nI h)), some (.int x2), some (.int (nI w)), some (.int (nI n)), some (.int (nI (stN v h w j y))), some (.int (nI (vK v h))), some (.int (nI j)), z8, z9], [], g, iv) = pm_at X d 185 (14, [some (.ref 32), some (.int (nI h)), some (.int x2), some (.int (nI w)), some (.int (nI n)), some (.int (nI (st1 v h (stN v h w j y)))), some (.int (nI (vK v h))), some (.int (nI (j + 1))), some (.int (nI 1)), some (.int (nI (if stN v h w j y + 1 < vD v ∧ ¬ vS v (vl v h) (stN v h w j y + 1) = true then 1 else 0)))], [], g, iv) := by
        have s1 := m_al_step (X := X) (x2 := x2) (x3 := nI w) (x4 := nI n) (x6 := nI (vK v h)) (x7 := nI j) (Y := 1) (q := 0) hd hL hv ho hh (by omega) (by omega) hs
        rw [nI_0] at s1
        rw [b185_51, b185_52]
        show pm_at X d 185 (57, [_, _, _, _, _, _, _, _, some (.int (nI 1)), some (.int 0)], [], g, iv) = _
        rw [s1]
        by_cases p : stN v h w j y + 1 < vD v ∧ ¬ vS v (vl v h) (stN v h w j y + 1) = true
        · have f1 : st1 v h (stN v h w j y) = stN v h w j y + 1 := if_pos p
          rw [if_pos p, if_pos p, m_al_end (by omega) (by omega), b185_103, nI_1, f1]
        · have f1 : st1 v h (stN v h w j y) = stN v h w j y := if_neg p
          rw [if_neg p, if_neg p, b185_103, nI_1, f1, nI_0]
      by_cases q1 : vK v h = 1
      · rw [if_neg (not_not_intro (k1.mpr q1)), b185_37, nI_add]
        by_cases q2 : (w + j) % 2 = 1
        · have e3 : st v h (w + j) (stN v h w j y) = stN v h w j y := by
            unfold st
            rw [if_pos ⟨q1, q2⟩]
          rw [if_neg (not_not_intro (eo.mpr q2)), b185_47, b185_52]
          show pm_at X d 185 (57, [_, _, _, _, _, _, _, _, some (.int (nI 0)), some (.int (nI 0))], [], g, iv) = _
          have e4 : stN v h w j y = stN v h w (j + 1) y := by rw [e2, e3]
          rw [m_al_end (by omega) (by omega), b185_103, nI_1, e4, ih (j + 1) _ _ (by omega)]
        · have e3 : st v h (w + j) (stN v h w j y) = st1 v h (stN v h w j y) := by
            unfold st
            rw [if_neg (fun e => q2 e.2), if_neg q3]
          rw [if_pos (fun e => q2 (eo.mp e)), go, ← e3, ← e2, ih (j + 1) _ _ (by omega)]
      · have e3 : st v h (w + j) (stN v h w j y) = st1 v h (stN v h w j y) := by
          unfold st
          rw [if_neg (fun e => q1 e.1), if_neg q3]
        rw [if_pos (fun e => q1 (k1.mp e)), go, ← e3, ← e2, ih (j + 1) _ _ (by omega)]
theorem m_aloneTo (hd : 2 ≤ d) (hL : pm_lay g) (hv : HAr (iv 36) v) (ho : Hok v) (hh : h < vN v) (hw : w ≤ 40) (hn : n ≤ 40) (hy : y < vD v) : pm_c X d 185 [.ref 32, .int (nI h), .int (nI y), .int (nI w), .int (nI n)] g iv = some (some (.int (nI (stN v h w n y))), g, iv) := by
  obtain ⟨d, rfl, hd1⟩ := pm_d1 hd
  have hl := m_aloneTo_loop (X := X) (x2 := nI y) hd1 hL hv ho hh hw hn hy n 0 none none (by omega)
  rw [nI_0] at hl
  simp only [e185, b185_0 hL, m_ofK hd1 hL hv ho hh, pm_then_i, pm_then_l, pm_then_v, b185_9]
  exact hl
theorem m_stood_loop (hd : 2 ≤ d) (hL : pm_lay g) (hv : HAr (iv 36) v) (ho : Hok v) (hh : h < vN v) (hw : w ≤ 40) (hn : n ≤ 40) : ∀ m y a, y + m = vD v →
    pm_at X d 186 (46, [some (.ref 32), some (.int (nI h)), some (.int (nI w)), some (.int (nI n)), some (.int a), some (.int (nI y))], [], g, iv) = some (some (.int (sdF v h w n m y a)), g, iv) := by
  have hD := ho.2.1
  have hL4 := ho.1
  have hb := ho.2.2.2.2.2 h hh
  intro m
  induction m with
  | zero =>
    intro y a hy
    have e : y = vD v := by omega
    subst e
    rw [b186_46 hL, hv.2.1, if_pos (Int32.le_refl _), b186_109, sdF]
  | succ m ih =>
    intro y a hy
    have hlt : y < vD v := by omega
    have h1 : ¬ nI (vD v) ≤ nI y := nI_ge hlt (by omega)
    have hst := stN_lt (h := h) (w := w) hlt n
    rw [sdF, ← ih (y + 1) _ (by omega)]
    simp only [b186_46 hL, hv.2.1, h1, bz_0, bz_n, bz_1, pm_zr0, pm_zr1, pm_zrI, if_true, if_false, not_true, not_false_eq_true, Bool.false_eq_true, true_and, and_true, false_and, and_false, z10, z01, zz0, eq_self, b186_57 hL, m_ofl (show 1 ≤ d by omega) hL hv ho hh, pm_then_i, pm_then_l, pm_then_v, b186_66 hL, m_isStone (show 1 ≤ d by omega) hL hv (show vl v h < 4 by omega) (show y < 32 by omega), b186_71, b186_74 hL, m_aloneTo hd hL hv ho hh hw hn hlt, b186_83 hL, m_ofy (show 1 ≤ d by omega) hL hv ho hh, b186_89, nI_eq (show stN v h w n y < 2147483648 by omega) (show vy v h < 2147483648 by omega), b186_92, b186_99, b186_100, nI_1]
    by_cases q : vS v (vl v h) y = true
    · simp only [q, bz_0, bz_n, bz_1, pm_zr0, pm_zr1, pm_zrI, if_true, if_false, not_true, not_false_eq_true, Bool.false_eq_true, true_and, and_true, false_and, and_false, z10, z01, zz0, eq_self, Int32.or_zero]
    · by_cases r : stN v h w n y = vy v h
      · simp only [q, r, bz_0, bz_n, bz_1, pm_zr0, pm_zr1, pm_zrI, if_true, if_false, not_true, not_false_eq_true, Bool.false_eq_true, true_and, and_true, false_and, and_false, z10, z01, zz0, eq_self]
      · simp only [q, r, bz_0, bz_n, bz_1, pm_zr0, pm_zr1, pm_zrI, if_true, if_false, not_true, not_false_eq_true, Bool.false_eq_true, true_and, and_true, false_and, and_false, z10, z01, zz0, eq_self, Int32.or_zero]
theorem q_stood {y z : Int32} (hd : 8 ≤ d) (h : RL g iv) : PR X d g iv 110 186 [.ref 0, .int x, .int y, .int z] [.ref 32, .int x, .int y, .int z] := by
  obtain ⟨d, rfl, hd1⟩ := pm_d1 hd
  obtain ⟨hg, v, co⟩ := h
  have hL := hg.1
  have hv := co.1.1
  have ho := co.1.2.2.1
  have hN := ho.2.2.1
  by_cases q : ip x (vN v) = true ∧ ip y 41 = true ∧ ip z 41 = true
  · obtain ⟨q1, q2, q3⟩ := q
    obtain ⟨h, hh, rfl⟩ := ip_ex q1 (by omega)
    obtain ⟨w, hw, rfl⟩ := ip_ex q2 (by omega)
    obtain ⟨n, hn, rfl⟩ := ip_ex q3 (by omega)
    obtain ⟨iv1, a1, a2, a3⟩ := t_take (X := X) (show 1 ≤ d by omega) hL hv ho
    obtain ⟨iv2, b1, b2, b3⟩ := t_leaveAlone (X := X) (show 2 ≤ d by omega) (lay_trial hL) a3 ho hh
    have hc : chg tri iv iv2 := chg_tr a2 (chg_mo b2 (by decide))
    have hv2 : SV iv2 11 v := SV_fr hv (fun e p1 p2 => hc e (by simp only [tri, List.mem_cons, List.not_mem_nil, or_false]; omega))
    obtain ⟨iv3, c1, c2⟩ := t_stood_loop (X := X) (h := h) (w := w) (n := n) (show 6 ≤ d by omega) hL ho hh (by omega) (by omega) (vD v) 0 0 iv2 (fun _ => vy v 0) (vW v) hv2 b3 (by omega)
    have hc3 : chg scr iv iv3 := chg_mo (chg_tr hc c1) (by decide)
    have co1 := CO_0 (CO_f0 co hc3 (by rw [c1 32 (by decide), hc 32 (by decide)]))
    have hw' := co1.1.2.1
    have e1 := m_stood_loop (X := X) (show 2 ≤ d by omega) hL hw' ho hh (show w ≤ 40 by omega) (show n ≤ 40 by omega) (vD v) 0 0 (by omega)
    rw [nI_0] at c2 e1
    refine ⟨sdF v h w n (vD v) 0 0, iv3, pm_iw iv3 32 0 0, ?_, ?_, hg, v, co1⟩
    · simp only [e110, b110_0 hL, t_isHouse (show 1 ≤ d by omega) (lay_now hL) hv ho, q1, pm_then_i, pm_then_l, pm_then_v, bz_0, bz_n, bz_1, pm_zr0, pm_zr1, pm_zrI, if_true, if_false, not_true, not_false_eq_true, Bool.false_eq_true, true_and, and_true, false_and, and_false, z10, z01, zz0, eq_self, b110_8, b110_11, t_ip (n := 40) (show 1 ≤ d by omega) toI40, q2, b110_17, b110_20, q3, b110_26, b110_32 hL, a1, b110_43 hL, b1, b110_51, c2]
    · simp only [e186, b186_0 hL, m_isHouse (show 2 ≤ d by omega) hL hw' ho, q1, pm_then_i, pm_then_l, pm_then_v, bz_0, bz_n, bz_1, pm_zr0, pm_zr1, pm_zrI, if_true, if_false, not_true, not_false_eq_true, Bool.false_eq_true, true_and, and_true, false_and, and_false, z10, z01, zz0, eq_self, b186_10, b186_13, m_ip (n := 40) (show 1 ≤ d by omega) toL40, q2, b186_22, b186_25, q3, b186_34, b186_40, e1]
  · have co2 := CO_0 co
    have hw := co2.1.2.1
    refine ⟨-1000001, iv, pm_iw iv 32 0 0, ?_, ?_, hg, v, co2⟩
    · simp only [e110, b110_0 hL, t_isHouse (show 1 ≤ d by omega) (lay_now hL) hv ho, pm_then_i, pm_then_l, pm_then_v, bz_0, bz_n, bz_1, pm_zr0, pm_zr1, pm_zrI, if_true, if_false, not_true, not_false_eq_true, Bool.false_eq_true, true_and, and_true, false_and, and_false, z10, z01, zz0, eq_self, b110_8, b110_11, t_ip (n := 40) (show 1 ≤ d by omega) toI40, b110_17, b110_20, b110_26, b110_29]
      by_cases q1 : ip x (vN v) = true <;> by_cases q2 : ip y 41 = true <;> by_cases q3 : ip z 41 = true <;> first | (simp only [q1, q2, q3, bz_0, bz_n, bz_1, pm_zr0, pm_zr1, pm_zrI, if_true, if_false, not_true, not_false_eq_true, Bool.false_eq_true, true_and, and_true, false_and, and_false, z10, z01, zz0, eq_self]; done) | exact absurd ⟨q1, q2, q3⟩ q
    · simp only [e186, b186_0 hL, m_isHouse (show 2 ≤ d by omega) hL hw ho, pm_then_i, pm_then_l, pm_then_v, bz_0, bz_n, bz_1, pm_zr0, pm_zr1, pm_zrI, if_true, if_false, not_true, not_false_eq_true, Bool.false_eq_true, true_and, and_true, false_and, and_false, z10, z01, zz0, eq_self, b186_10, b186_13, m_ip (n := 40) (show 1 ≤ d by omega) toL40, b186_22, b186_25, b186_34, b186_37]
      by_cases q1 : ip x (vN v) = true <;> by_cases q2 : ip y 41 = true <;> by_cases q3 : ip z 41 = true <;> first | (simp only [q1, q2, q3, bz_0, bz_n, bz_1, pm_zr0, pm_zr1, pm_zrI, if_true, if_false, not_true, not_false_eq_true, Bool.false_eq_true, true_and, and_true, false_and, and_false, z10, z01, zz0, eq_self]; done) | exact absurd ⟨q1, q2, q3⟩ q
end Q45
