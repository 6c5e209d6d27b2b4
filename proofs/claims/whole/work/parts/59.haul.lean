/-! haul -/
/-- h at the top of lane t -/
def vTop (v : HV) (h t : Nat) : HV := (vL v, vD v, vN v, vW v, vC v, vS v, vK v, vH v, (fun i => if i = h then t else vl v i), (fun i => if i = h then 0 else vy v i), vt v)
def wT (v : HV) (l : Nat → Int32) : HV := (vL v, vD v, vN v, vW v, vC v, vS v, vK v, vH v, vl v, vy v, l)
/-- how many others come before q -/
def pos (h q : Nat) : Nat := if h < q then q - 1 else q
/-- what is lent after the haul of h -/
def lnt (v : HV) (h : Nat) (q : Nat) : Int32 := if q = h then vt v q else vt v q + (nI (vH v h / (vN v - 1)) + (if pos h q < vH v h % (vN v - 1) then 1 else 0))
theorem pos_s {h j : Nat} : pos h (j + 1) = if j = h then pos h j else pos h j + 1 := by
  unfold pos
  by_cases e : j = h
  · rw [if_pos e, if_pos (by omega), if_neg (by omega)]
    omega
  · rw [if_neg e]
    by_cases p : h < j
    · rw [if_pos p, if_pos (by omega)]
      omega
    · rw [if_neg p, if_neg (by omega)]
section Q59
variable {X : pm_X} {d k : Nat} {g : pm_G} {iv : pm_V} {v u : HV} {x y z : Int32} {h t : Nat}
theorem SV_t {iv' : pm_V} {l : Nat → Int32} (hv : SV iv k v) (hc : chg [k + 6] iv iv') (hl : ∀ q, q < vN v → iv' (k + 6) q = l q) : SV iv' k (wT v l) := by
  have e : ∀ c, c ≠ k + 6 → iv' c = iv c := fun c hc2 => hc c (by simp only [List.mem_cons, List.not_mem_nil, or_false]; exact hc2)
  refine ⟨by rw [e k (by omega)]; exact hv.1, by rw [e k (by omega)]; exact hv.2.1, by rw [e k (by omega)]; exact hv.2.2.1, by rw [e k (by omega)]; exact hv.2.2.2.1, by rw [e k (by omega)]; exact hv.2.2.2.2.1, by rw [e (k + 1) (by omega)]; exact hv.2.2.2.2.2.1, fun q hq => ?_⟩
  have := hv.2.2.2.2.2.2 q hq
  rw [e (k + 2) (by omega), e (k + 3) (by omega), e (k + 4) (by omega), e (k + 5) (by omega)]
  exact ⟨this.1, this.2.1, this.2.2.1, this.2.2.2.1, hl q hq⟩
theorem SV_t2 {iv' : pm_V} {l f : Nat → Int32} (hv : SV iv k (wT v f)) (hc : chg [k + 6] iv iv') (hl : ∀ q, q < vN v → iv' (k + 6) q = l q) : SV iv' k (wT v l) := SV_t (v := wT v f) hv hc hl
theorem HAr_t {f f' : Nat → Int32} {l l' : Nat → Int32} (hv : HAr f (wT v l)) (h0 : f' 0 = f 0) (h1 : f' 1 = f 1) (h3 : f' 3 = f 3) (h4 : f' 4 = f 4) (h5 : ∀ i, i < 4 → f' (5 + i) = f (5 + i)) (hq : ∀ q, q < vN v → (∀ w, w < 5 → f' (9 + 6 * q + w) = f (9 + 6 * q + w)) ∧ f' (9 + 6 * q + 5) = l' q) : HAr f' (wT v l') := by
  refine ⟨by rw [h0]; exact hv.1, by rw [h1]; exact hv.2.1, by rw [h3]; exact hv.2.2.1, by rw [h4]; exact hv.2.2.2.1, fun i hi j hj => by rw [h5 i hi]; exact hv.2.2.2.2.1 i hi j hj, fun q hq' => ?_⟩
  have := hv.2.2.2.2.2 q hq'
  obtain ⟨a, b⟩ := hq q hq'
  refine ⟨(a 0 (by omega)).trans this.1, (a 1 (by omega)).trans this.2.1, (a 2 (by omega)).trans this.2.2.1, (a 3 (by omega)).trans this.2.2.2.1, (a 4 (by omega)).trans this.2.2.2.2.1, b⟩
theorem t_lend_loop (hK : pm_sl g k) (ho : Hok v) (h2 : 2 ≤ vN v) (hh : h < vN v) : ∀ m j (iv : pm_V), j + m = vN v → SV iv k (wT v (fun q => if q < j then lnt v h q else vt v q)) →
    ∃ iv', pm_at X d 57 (33, [some (.ref k), some (.int (nI h)), some (.int (nI (vN v - 1))), some (.int (nI (vH v h / (vN v - 1)))), some (.int (nI (vH v h % (vN v - 1) - pos h j))), some (.int (nI j))], [], g, iv) = some (none, g, iv') ∧ chg [k + 6] iv iv' ∧ SV iv' k (wT v (lnt v h)) := by
  have hN := ho.2.2.1
  intro m
  induction m with
  | zero =>
    intro j iv hj hv
    have e : j = vN v := by omega
    subst e
    refine ⟨iv, ?_, chg_rf, ?_⟩
    · rw [b57_33 hK, show iv k 2 = nI (vN v) from hv.2.2.1, if_pos (Int32.le_refl _), b57_94]
    · exact SV_t2 hv chg_rf (fun q hq => ((hv.2.2.2.2.2.2 q hq).2.2.2.2).trans (if_pos hq))
  | succ m ih =>
    intro j iv hj hv
    have hlt : j < vN v := by omega
    have h1 : ¬ nI (vN v) ≤ nI j := nI_ge hlt (by omega)
    have n6 : ¬ (6 : Int32) ≤ nI j := by rw [le_i, toI6, nI_t (by omega)]; omega
    have hj6 : vp_in (nI j) 6 := vp_n (by omega) (by decide)
    have cj := nI_c (show j < 2147483648 by omega)
    have ejh : nI j = nI h ↔ j = h := nI_eq (by omega) (by omega)
    have hmo : vH v h % (vN v - 1) < vN v - 1 := Nat.mod_lt _ (by omega)
    have hps := pos_s (h := h) (j := j)
    have hpj : pos h j ≤ j := by unfold pos; split <;> omega
    have ecur : iv (k + 6) j = vt v j := by
      have := (hv.2.2.2.2.2.2 j hlt).2.2.2.2
      rw [this]
      exact if_neg (Nat.lt_irrefl j)
    rw [b57_33 hK, show iv k 2 = nI (vN v) from hv.2.2.1, if_neg h1, b57_42, if_neg n6, b57_49]
    by_cases e : j = h
    · rw [if_pos e] at hps
      obtain ⟨iv', a1, a2, a3⟩ := ih (j + 1) iv (by omega) (SV_t2 hv chg_rf (fun q hq => by
        have := (hv.2.2.2.2.2.2 q hq).2.2.2.2
        rw [this]
        show (if q < j then lnt v h q else vt v q) = (if q < j + 1 then lnt v h q else vt v q)
        by_cases p : q < j
        · rw [if_pos p, if_pos (by omega)]
        · rw [if_neg p]
          by_cases p2 : q = j
          · rw [if_pos (by omega)]
            unfold lnt
            rw [if_pos (by omega)]
          · rw [if_neg (by omega)]))
      refine ⟨iv', ?_, a2, a3⟩
      rw [if_neg (not_not_intro (ejh.mpr e)), b57_55, b57_88, nI_1, ← hps, a1]
    · rw [if_neg e] at hps
      rw [if_pos (fun q => e (ejh.mp q)), b57_58 hK hj6, cj, ecur]
      have lj : lnt v h j = vt v j + (nI (vH v h / (vN v - 1)) + (if pos h j < vH v h % (vN v - 1) then 1 else 0)) := if_neg e
      have nxt : ∀ iv2 : pm_V, chg [k + 6] iv iv2 → iv2 (k + 6) = upd (iv (k + 6)) j (lnt v h j) → SV iv2 k (wT v (fun q => if q < j + 1 then lnt v h q else vt v q)) := fun iv2 hc2 e2 => SV_t2 hv hc2 (fun q hq => by
        have := (hv.2.2.2.2.2.2 q hq).2.2.2.2
        rw [e2]
        by_cases p : q = j
        · rw [p, upd_s, if_pos (by omega)]
        · rw [upd_n p, this]
          show (if q < j then lnt v h q else vt v q) = _
          by_cases p2 : q < j
          · rw [if_pos p2, if_pos (by omega)]
          · rw [if_neg p2, if_neg (by omega)])
      by_cases p : pos h j < vH v h % (vN v - 1)
      · have np : ¬ nI (vH v h % (vN v - 1) - pos h j) ≤ 0 := by rw [le_i, toI0, nI_t (by omega)]; omega
        have c6 : (pm_iw iv (k + 6) j (vt v j + nI (vH v h / (vN v - 1)))) (k + 6) j = vt v j + nI (vH v h / (vN v - 1)) := by rw [iw_s, upd_s]
        have em : nI (vH v h % (vN v - 1) - pos h j) + (-1) = nI (vH v h % (vN v - 1) - pos h (j + 1)) := by
          rw [show nI (vH v h % (vN v - 1) - pos h j) + (-1) = nI (vH v h % (vN v - 1) - pos h j) - 1 from (Int32.sub_eq_add_neg _ 1).symm, hps]
          rw [show vH v h % (vN v - 1) - pos h j = (vH v h % (vN v - 1) - (pos h j + 1)) + 1 by omega]
          exact nI_pred _
        rw [if_pos p] at lj
        obtain ⟨iv', a1, a2, a3⟩ := ih (j + 1) (pm_iw (pm_iw iv (k + 6) j (vt v j + nI (vH v h / (vN v - 1)))) (k + 6) j (vt v j + nI (vH v h / (vN v - 1)) + 1)) (by omega) (nxt _ (chg_tr (chg_iw (by simp)) (chg_iw (by simp))) (by
          rw [iw_s, iw_s, lj]
          funext q
          by_cases p : q = j
          · rw [p, upd_s, upd_s, Int32.add_assoc]
          · rw [upd_n p, upd_n p, upd_n p]))
        refine ⟨iv', ?_, chg_tr (chg_tr (chg_iw (by simp)) (chg_iw (by simp))) a2, a3⟩
        rw [if_neg np, b57_74 hK hj6, cj, c6, b57_88, nI_1, em, a1]
      · have np : nI (vH v h % (vN v - 1) - pos h j) ≤ 0 := by rw [le_i, toI0, nI_t (by omega)]; omega
        have em : vH v h % (vN v - 1) - pos h j = vH v h % (vN v - 1) - pos h (j + 1) := by omega
        rw [if_neg p, Int32.add_zero] at lj
        obtain ⟨iv', a1, a2, a3⟩ := ih (j + 1) (pm_iw iv (k + 6) j (vt v j + nI (vH v h / (vN v - 1)))) (by omega) (nxt _ (chg_iw (by simp)) (by rw [iw_s, lj]))
        refine ⟨iv', ?_, chg_tr (chg_iw (by simp)) a2, a3⟩
        rw [if_pos np, b57_88, nI_1, em, a1]
theorem t_lend (hd : 3 ≤ d) (hK : pm_sl g k) (hv : SV iv k v) (ho : Hok v) (h2 : 2 ≤ vN v) (hh : h < vN v) : ∃ iv', pm_c X d 57 [.ref k, .int (nI h)] g iv = some (none, g, iv') ∧ chg [k + 6] iv iv' ∧ SV iv' k (wT v (lnt v h)) := by
  obtain ⟨d, rfl, hd1⟩ := pm_d1 hd
  have hN := ho.2.2.1
  have hb := ho.2.2.2.2.2 h hh
  obtain ⟨iv', a1, a2, a3⟩ := t_lend_loop (X := X) (d := d) hK ho h2 hh (vN v) 0 iv (by omega) (SV_t hv chg_rf (fun q hq => by rw [if_neg (by omega)]; exact (hv.2.2.2.2.2.2 q hq).2.2.2.2))
  refine ⟨iv', ?_, a2, a3⟩
  have e0 : nI (vN v) - 1 = nI (vN v - 1) := pk_sub (a := vN v) (b := 1) (by omega)
  have e1 : (1 : Int32) ≤ nI (vN v - 1) := by rw [le_i, toI1, nI_t (by omega)]; omega
  have n0 : ¬ nI (vN v - 1) = 0 := fun e => by have := (nI_eq (a := vN v - 1) (b := 0) (by omega) (by omega)).mp e; omega
  have ed : nI (vH v h) / nI (vN v - 1) = nI (vH v h / (vN v - 1)) := pk_div (by omega) (by omega) (by omega)
  have er : nI (vH v h) - nI (vH v h) / nI (vN v - 1) * nI (vN v - 1) = nI (vH v h % (vN v - 1)) := pk_rem (by omega) (by omega) (by omega)
  have p0 : pos h 0 = 0 := by unfold pos; rw [if_neg (by omega)]
  rw [p0, Nat.sub_zero, nI_0] at a1
  rw [e57, b57_0 hK, hv.2.2.1, e0, if_pos e1, b57_13 hK, t_heavyOf (by omega) hK hv ho hh]
  simp only [pm_then_i, pm_then_l, pm_then_v]
  rw [b57_18 hK n0, t_heavyOf (by omega) hK hv ho hh]
  simp only [pm_then_i, pm_then_l, pm_then_v]
  rw [b57_26 n0, er, ed, a1]
theorem SV_top (hv : SV iv k v) (hh : h < 6) : SV (pm_iw (pm_iw iv (k + 4) h (nI t)) (k + 5) h 0) k (vTop v h t) := by
  refine ⟨?_, ?_, ?_, ?_, ?_, ?_, fun q hq => ?_⟩
  · simp (disch := omega) only [iw_n]; exact hv.1
  · simp (disch := omega) only [iw_n]; exact hv.2.1
  · simp (disch := omega) only [iw_n]; exact hv.2.2.1
  · simp (disch := omega) only [iw_n]; exact hv.2.2.2.1
  · simp (disch := omega) only [iw_n]; exact hv.2.2.2.2.1
  · simp (disch := omega) only [iw_n]; exact hv.2.2.2.2.2.1
  · have := hv.2.2.2.2.2.2 q hq
    simp (disch := omega) only [iw_n, iw_s]
    have e1 : vl (vTop v h t) q = if q = h then t else vl v q := rfl
    have e2 : vy (vTop v h t) q = if q = h then 0 else vy v q := rfl
    rw [e1, e2]
    by_cases p : q = h
    · rw [p, upd_s, upd_s, if_pos rfl, if_pos rfl]
      rw [p] at this
      exact ⟨this.1, this.2.1, rfl, rfl, this.2.2.2.2⟩
    · rw [upd_n p, upd_n p, if_neg p, if_neg p]
      exact this
theorem Hok_top (ho : Hok v) (ht : t < vL v) (hD : 0 < vD v) : Hok (vTop v h t) := ⟨ho.1, ho.2.1, ho.2.2.1, ho.2.2.2.1, ho.2.2.2.2.1, fun q hq => by
  have := ho.2.2.2.2.2 q hq
  refine ⟨?_, ?_, this.2.2⟩
  · show (if q = h then t else vl v q) < vL v
    split
    · exact ht
    · exact this.1
  · show (if q = h then 0 else vy v q) < vD v
    split
    · exact hD
    · exact this.2.1⟩
theorem t_bring (hd : 4 ≤ d) (hK : pm_sl g k) (hv : SV iv k v) (ho : Hok v) (h2 : 2 ≤ vN v) (hh : h < vN v) (ht : t < vL v) : ∃ iv', pm_c X d 56 [.ref k, .int (nI h), .int (nI t)] g iv = some (some (.int (nI (vH v h))), g, iv') ∧ chg [k + 4, k + 5, k + 6] iv iv' ∧ SV iv' k (wT (vTop v h t) (lnt v h)) := by
  obtain ⟨d, rfl, hd1⟩ := pm_d1 hd
  have hN := ho.2.2.1
  have hL4 := ho.1
  have hb := ho.2.2.2.2.2 h hh
  have hin : vp_in (nI h) 6 := vp_n (by omega) (by decide)
  have ch := nI_c (show h < 2147483648 by omega)
  have hv1 : SV (pm_iw (pm_iw iv (k + 4) h (nI t)) (k + 5) h 0) k (vTop v h t) := SV_top hv (by omega)
  obtain ⟨iv', a1, a2, a3⟩ := t_lend (X := X) (d := d) (by omega) hK hv1 (Hok_top ho ht (by omega)) h2 hh
  refine ⟨iv', ?_, chg_tr (chg_tr (chg_iw (by simp)) (chg_iw (by simp))) (chg_mo a2 (by simp)), a3⟩
  have p1 : ip (nI h) (vN v) = true := ip_n hh (by omega)
  have p2 : ip (nI t) (vL v) = true := ip_n ht (by omega)
  have e3 : iv' (k + 3) h = nI (vH v h) := (a3.2.2.2.2.2.2 h hh).2.1
  simp only [e56, b56_0 hK, t_isHouse (show 1 ≤ d by omega) hK hv ho, p1, pm_then_i, pm_then_l, pm_then_v, bz_0, bz_n, bz_1, pm_zr0, pm_zr1, pm_zrI, if_true, if_false, not_true, not_false_eq_true, Bool.false_eq_true, true_and, and_true, false_and, and_false, z10, z01, zz0, eq_self, b56_5, b56_8 hK, t_isLane (show 1 ≤ d by omega) hK hv ho, p2, b56_13, b56_18 hK hin, ch, a1, b56_37 hK hin, e3]
theorem le0_p {x4 : Int32} {mo p : Nat} (h : x4.toInt = (mo : Int) - p) (q : p < mo) : ¬ x4 ≤ 0 := by rw [le_i, toI0, h]; omega
theorem le0_n {x4 : Int32} {mo p : Nat} (h : x4.toInt = (mo : Int) - p) (q : ¬ p < mo) : x4 ≤ 0 := by rw [le_i, toI0, h]; omega
/-- the reference's loop -/
theorem m_haul_loop (hd : 1 ≤ d) (hL : pm_lay g) (ho : Hok v) (h2 : 2 ≤ vN v) (hh : h < vN v) {x2 : Int32} : ∀ m j (iv : pm_V) (x4 : Int32), j + m = vN v → HAr (iv 36) (wT v (fun q => if q < j then lnt v h q else vt v q)) → x4.toInt = ((vH v h % (vN v - 1) : Nat) : Int) - pos h j →
    ∃ iv', pm_at X d 169 (127, [some (.ref 32), some (.int (nI h)), some (.int x2), some (.int (nI (vN v - 1))), some (.int x4), some (.int (nI j))], [], g, iv) = some (some (.int (nI (vH v h))), g, iv') ∧ chg [36] iv iv' ∧ HAr (iv' 36) (wT v (lnt v h)) := by
  have hN := ho.2.2.1
  intro m
  induction m with
  | zero =>
    intro j iv x4 hj hv _
    have e : j = vN v := by omega
    subst e
    have hv' : HAr (iv 36) (wT v (lnt v h)) := HAr_t hv rfl rfl rfl rfl (fun _ _ => rfl) (fun q hq => ⟨fun _ _ => rfl, (hv.2.2.2.2.2 q hq).2.2.2.2.2.trans (if_pos hq)⟩)
    have eH : pm_c X d 159 [.ref 32, .int (nI h), .int 3] g iv = some (some (.int (nI (vH v h))), g, iv) := m_ofH (v := wT v (lnt v h)) hd hL hv' ho hh
    refine ⟨iv, ?_, chg_rf, hv'⟩
    rw [b169_127 hL, show iv 36 3 = nI (vN v) from hv.2.2.1, if_pos (Int32.le_refl _), b169_190 hL, eH]
    simp only [pm_then_i, pm_then_l, pm_then_v, b169_196]
  | succ m ih =>
    intro j iv x4 hj hv h4
    have hlt : j < vN v := by omega
    have h1 : ¬ nI (vN v) ≤ nI j := nI_ge hlt (by omega)
    have ejh : nI j = nI h ↔ j = h := nI_eq (by omega) (by omega)
    have hmo : vH v h % (vN v - 1) < vN v - 1 := Nat.mod_lt _ (by omega)
    have hps := pos_s (h := h) (j := j)
    have hpj : pos h j ≤ j := by unfold pos; split <;> omega
    have hb := ho.2.2.2.2.2 h hh
    rw [b169_127 hL, show iv 36 3 = nI (vN v) from hv.2.2.1, if_neg h1, b169_138]
    by_cases e : j = h
    · rw [if_pos e] at hps
      obtain ⟨iv', a1, a2, a3⟩ := ih (j + 1) iv x4 (by omega) (HAr_t hv rfl rfl rfl rfl (fun _ _ => rfl) (fun q hq => ⟨fun _ _ => rfl, by
        refine (hv.2.2.2.2.2 q hq).2.2.2.2.2.trans ?_
        show (if q < j then lnt v h q else vt v q) = (if q < j + 1 then lnt v h q else vt v q)
        by_cases p : q < j
        · rw [if_pos p, if_pos (by omega)]
        · rw [if_neg p]
          by_cases p2 : q = j
          · rw [if_pos (by omega)]
            unfold lnt
            rw [if_pos (by omega)]
          · rw [if_neg (by omega)]⟩)) (by rw [hps]; exact h4)
      refine ⟨iv', ?_, a2, a3⟩
      rw [if_pos (ejh.mpr e), b169_184, nI_1, a1]
    · rw [if_neg e] at hps
      have e9 : 9 + 6 * nI j + 5 = nI (9 + 6 * j + 5) := by
        show nI 9 + nI 6 * nI j + nI 5 = _
        rw [pk_mul, nI_add, nI_add]
      have i9 : vp_in (9 + 6 * nI j + 5) 45 := by rw [e9]; exact vp_n (by omega) (by decide)
      have c9 := nI_c (show 9 + 6 * j + 5 < 2147483648 by omega)
      have n0 : ¬ nI (vN v - 1) = 0 := fun e => by have := (nI_eq (a := vN v - 1) (b := 0) (by omega) (by omega)).mp e; omega
      have ed : nI (vH v h) / nI (vN v - 1) = nI (vH v h / (vN v - 1)) := pk_div (by omega) (by omega) (by omega)
      have ecur : iv 36 (9 + 6 * j + 5) = vt v j := by
        have := (hv.2.2.2.2.2 j hlt).2.2.2.2.2
        rw [this]
        exact if_neg (Nat.lt_irrefl j)
      have eH : pm_c X d 159 [.ref 32, .int (nI h), .int 3] g iv = some (some (.int (nI (vH v h))), g, iv) := m_ofH (v := wT v (fun q => if q < j then lnt v h q else vt v q)) hd hL hv ho hh
      have lj : lnt v h j = vt v j + (nI (vH v h / (vN v - 1)) + (if pos h j < vH v h % (vN v - 1) then 1 else 0)) := if_neg e
      have e4 : (x4 + (-1)).toInt = ((vH v h % (vN v - 1) : Nat) : Int) - pos h (j + 1) := by
        rw [Int32.toInt_add, h4, toIm1, hps, Int.bmod_eq_of_le (by omega) (by omega)]
        omega
      obtain ⟨iv', a1, a2, a3⟩ := ih (j + 1) (pm_iw iv 36 (9 + 6 * j + 5) (lnt v h j)) (x4 + (-1)) (by omega) (by
        rw [iw_s]
        refine HAr_t hv (upd_n (by omega)) (upd_n (by omega)) (upd_n (by omega)) (upd_n (by omega)) (fun i hi => upd_n (by omega)) (fun q hq => ⟨fun w hw => upd_n (by omega), ?_⟩)
        by_cases p : q = j
        · rw [p, upd_s, if_pos (by omega)]
        · rw [upd_n (by omega)]
          refine (hv.2.2.2.2.2 q hq).2.2.2.2.2.trans ?_
          show (if q < j then lnt v h q else vt v q) = (if q < j + 1 then lnt v h q else vt v q)
          by_cases p2 : q < j
          · rw [if_pos p2, if_pos (by omega)]
          · rw [if_neg p2, if_neg (by omega)]) e4
      refine ⟨iv', ?_, chg_tr (chg_iw (by decide)) a2, a3⟩
      rw [if_neg (fun q => e (ejh.mp q)), b169_144 hL i9, e9, c9, ecur, eH]
      simp only [pm_then_i, pm_then_l, pm_then_v]
      rw [b169_166 n0, ed]
      by_cases p : pos h j < vH v h % (vN v - 1)
      · rw [if_neg (le0_p h4 p), b169_173, b169_178 hL (vp_n (by omega) (by decide)), c9, b169_184, nI_1 j]
        rw [if_pos p] at lj
        rw [lj] at a1
        exact a1
      · rw [if_pos (le0_n h4 p), b169_177, b169_178 hL (vp_n (by omega) (by decide)), c9, b169_184, nI_1 j]
        rw [if_neg p] at lj
        rw [lj] at a1
        exact a1
theorem HAr_top {f : Nat → Int32} (hv : HAr f v) (hh : h < 6) : HAr (upd (upd f (9 + 6 * h + 1) (nI t)) (9 + 6 * h + 2) 0) (vTop v h t) := by
  refine ⟨by rw [upd_n (by omega), upd_n (by omega)]; exact hv.1, by rw [upd_n (by omega), upd_n (by omega)]; exact hv.2.1, by rw [upd_n (by omega), upd_n (by omega)]; exact hv.2.2.1, by rw [upd_n (by omega), upd_n (by omega)]; exact hv.2.2.2.1, fun l hl i hi => by rw [upd_n (by omega), upd_n (by omega)]; exact hv.2.2.2.2.1 l hl i hi, fun q hq => ?_⟩
  have := hv.2.2.2.2.2 q hq
  have e1 : vl (vTop v h t) q = if q = h then t else vl v q := rfl
  have e2 : vy (vTop v h t) q = if q = h then 0 else vy v q := rfl
  rw [e1, e2]
  by_cases p : q = h
  · subst p
    rw [if_pos rfl, if_pos rfl, upd_n (show 9 + 6 * q ≠ 9 + 6 * q + 2 by omega), upd_n (show 9 + 6 * q ≠ 9 + 6 * q + 1 by omega), upd_n (show 9 + 6 * q + 1 ≠ 9 + 6 * q + 2 by omega), upd_s, upd_s, upd_n (show 9 + 6 * q + 3 ≠ 9 + 6 * q + 2 by omega), upd_n (show 9 + 6 * q + 3 ≠ 9 + 6 * q + 1 by omega), upd_n (show 9 + 6 * q + 4 ≠ 9 + 6 * q + 2 by omega), upd_n (show 9 + 6 * q + 4 ≠ 9 + 6 * q + 1 by omega), upd_n (show 9 + 6 * q + 5 ≠ 9 + 6 * q + 2 by omega), upd_n (show 9 + 6 * q + 5 ≠ 9 + 6 * q + 1 by omega)]
    exact ⟨this.1, rfl, rfl, this.2.2.2⟩
  · rw [if_neg p, if_neg p]
    have z : ∀ w, w < 6 → upd (upd f (9 + 6 * h + 1) (nI t)) (9 + 6 * h + 2) 0 (9 + 6 * q + w) = f (9 + 6 * q + w) := fun w hw => by rw [upd_n (by omega), upd_n (by omega)]
    rw [show 9 + 6 * q = 9 + 6 * q + 0 from rfl, z 0 (by omega)]
    show f (9 + 6 * q) = _ ∧ upd (upd f (9 + 6 * h + 1) (nI t)) (9 + 6 * h + 2) 0 (9 + 6 * q + 1) = _ ∧ upd (upd f (9 + 6 * h + 1) (nI t)) (9 + 6 * h + 2) 0 (9 + 6 * q + 2) = _ ∧ upd (upd f (9 + 6 * h + 1) (nI t)) (9 + 6 * h + 2) 0 (9 + 6 * q + 3) = _ ∧ upd (upd f (9 + 6 * h + 1) (nI t)) (9 + 6 * h + 2) 0 (9 + 6 * q + 4) = _ ∧ upd (upd f (9 + 6 * h + 1) (nI t)) (9 + 6 * h + 2) 0 (9 + 6 * q + 5) = _
    rw [z 1 (by omega), z 2 (by omega), z 3 (by omega), z 4 (by omega), z 5 (by omega)]
    exact this
theorem Dst_top (ho : Hok v) (hs : Dst v (vy v)) (ht : t < vL v) (hD : 0 < vD v) (h1 : ¬ vS v t 0 = true) (h2 : ¬ hsAt v (vy v) t 0 = true) : Dst (vTop v h t) (vy (vTop v h t)) := by
  have hL4 := ho.1
  have free : ∀ q, q < vN v → ¬ (vl v q = t ∧ vy v q = 0) := fun q hq e => h2 ((hsAt_iff ho (Pok_self ho) (by omega) (by omega)).mpr ⟨q, hq, e.1, e.2⟩)
  refine ⟨fun a b ha hb ne e => ?_, fun a ha => ?_⟩
  · have e : (if a = h then t else vl v a) = (if b = h then t else vl v b) ∧ (if a = h then 0 else vy v a) = (if b = h then 0 else vy v b) := e
    by_cases pa : a = h
    · rw [if_pos pa, if_pos pa, if_neg (fun q => ne (pa.trans q.symm)), if_neg (fun q => ne (pa.trans q.symm))] at e
      exact free b hb ⟨e.1.symm, e.2.symm⟩
    · by_cases pb : b = h
      · rw [if_neg pa, if_neg pa, if_pos pb, if_pos pb] at e
        exact free a ha e
      · rw [if_neg pa, if_neg pa, if_neg pb, if_neg pb] at e
        exact hs.1 a b ha hb ne e
  · show ¬ vS v (if a = h then t else vl v a) (if a = h then 0 else vy v a) = true
    by_cases pa : a = h
    · rw [if_pos pa, if_pos pa]
      exact h1
    · rw [if_neg pa, if_neg pa]
      exact hs.2 a ha
theorem q_haul (hd : 8 ≤ d) (h : RL g iv) : PR X d g iv 99 169 [.ref 0, .int x, .int y] [.ref 32, .int x, .int y] := by
  obtain ⟨d, rfl, hd1⟩ := pm_d1 hd
  obtain ⟨hg, v, co⟩ := h
  have hL := hg.1
  have hv := co.1.1
  have ho := co.1.2.2.1
  have hs := co.1.2.2.2.1
  have hkk := co.1.2.2.2.2
  have hN := ho.2.2.1
  have hL4 := ho.1
  have co2 := CO_0 co
  have hw := co2.1.2.1
  obtain ⟨a, o, r, hc, hm, hr⟩ := co.2.2.2.1
  have em : ∀ iv1 : pm_V, HAr (iv1 36) v → ((iv1 36 0) - 1 : Int32).toInt64.toInt = (vL v : Int) - 1 := fun iv1 hw1 => by rw [wd_t, hw1.1, nI_m1 (by omega)]
  have z0 : (0 : Int64).toInt = 0 := rfl
  have p0 : (0 ≤ y.toInt ∧ y.toInt ≤ (vL v : Int) - 1) ↔ ip y (vL v) = true := by rw [ip, decide_eq_true_eq]; omega
  by_cases q : ip x (vN v) = true ∧ ip y (vL v) = true
  · obtain ⟨q1, q2⟩ := q
    obtain ⟨h, hh, rfl⟩ := ip_ex q1 (by omega)
    obtain ⟨t, ht, rfl⟩ := ip_ex q2 (by omega)
    have hb := ho.2.2.2.2.2 h hh
    have hD : 0 < vD v := by omega
    have ef := fndI_none (v := v) ho ht hD
    rw [nI_0] at ef
    have e2 : (2 : Int32) ≤ nI (vN v) ↔ 2 ≤ vN v := by rw [le_i, toI2, nI_t (by omega)]; omega
    -- the reference, up to its test
    have hMt : ∀ iv1 : pm_V, HAr ((pm_iw iv1 32 0 0) 36) v → ∃ iv2, chg [40, 41] (pm_iw iv1 32 0 0) iv2 ∧ pm_c X (d + 1) 169 [.ref 32, .int (nI h), .int (nI t)] g iv1 = if (¬ vS v t 0 = true ∧ ¬ hsAt v (vy v) t 0 = true) ∧ 2 ≤ vN v then pm_at X d 169 (71, [some (.ref 32), some (.int (nI h)), some (.int (nI t)), none, none, none], [], g, iv2) else some (some (.int (-1000002)), g, iv2) := fun iv1 hw1 => by
      obtain ⟨iv2, l1, l2, l3, l4⟩ := m_layNow (X := X) (show 2 ≤ d by omega) hL hw1 ho
      have hw2 : HAr (iv2 36) v := by rw [l2 36 (by decide)]; exact hw1
      refine ⟨iv2, l2, ?_⟩
      have e3 : nI (vN v) = 1 ↔ vN v = 1 := nI_eq (a := vN v) (b := 1) (by omega) (by omega)
      have hst := m_isStone (X := X) (d := d) (show 1 ≤ d by omega) hL hw2 (show t < 4 by omega) (show 0 < 32 by omega)
      rw [nI_0] at hst
      have hat := m_houseAt (X := X) (d := d) (x := nI t) (y := nI 0) (show 2 ≤ d by omega) hL hw2 ho l3
      rw [nI_0] at hat
      simp only [e169, b169_0 hL, m_isHouse (show 2 ≤ d by omega) hL hw1 ho, q1, pm_then_i, pm_then_l, pm_then_v, bz_0, bz_n, bz_1, pm_zr0, pm_zr1, pm_zrI, if_true, if_false, not_true, not_false_eq_true, Bool.false_eq_true, true_and, and_true, false_and, and_false, z10, z01, zz0, eq_self, b169_10, b169_13 hL, m_inI (show 1 ≤ d by omega), em _ hw1, z0, p0, q2, b169_28, b169_34 hL, l1, b169_38 hL, hst, b169_44, b169_47 hL, hat, b169_53, b169_58 hL, hw2.2.2.1, e3, b169_68]
      by_cases w1 : vS v t 0 = true
      · simp only [w1, bz_0, bz_n, bz_1, pm_zr0, pm_zr1, pm_zrI, if_true, if_false, not_true, not_false_eq_true, Bool.false_eq_true, true_and, and_true, false_and, and_false, z10, z01, zz0, eq_self]
      · by_cases w2 : hsAt v (vy v) t 0 = true
        · have w3 : atF (vl v) (vy v) (vN v) (nI t) 0 < vN v := of_decide_eq_true w2
          have ne : ¬ nI (atF (vl v) (vy v) (vN v) (nI t) 0) = -1000000 := fun e => by
            have e := congrArg Int32.toInt e
            rw [nI_t (by omega)] at e
            exact absurd e (by show ¬ _ = (-1000000 : Int); omega)
          simp only [w1, w2, w3, ne, bz_0, bz_n, bz_1, pm_zr0, pm_zr1, pm_zrI, if_true, if_false, not_true, not_false_eq_true, Bool.false_eq_true, true_and, and_true, false_and, and_false, z10, z01, zz0, eq_self]
        · have w3 : ¬ atF (vl v) (vy v) (vN v) (nI t) 0 < vN v := fun e => w2 (decide_eq_true e)
          by_cases w4 : vN v = 1
          · have w5 : ¬ 2 ≤ vN v := by omega
            simp only [w1, w2, w3, eq_true w4, w5, bz_0, bz_n, bz_1, pm_zr0, pm_zr1, pm_zrI, if_true, if_false, not_true, not_false_eq_true, Bool.false_eq_true, true_and, and_true, false_and, and_false, z10, z01, zz0, eq_self]
          · have w5 : 2 ≤ vN v := by omega
            simp only [w1, w2, w3, w4, w5, bz_0, bz_n, bz_1, pm_zr0, pm_zr1, pm_zrI, if_true, if_false, not_true, not_false_eq_true, Bool.false_eq_true, true_and, and_true, false_and, and_false, z10, z01, zz0, eq_self]
    have hCt : pm_c X (d + 1) 99 [.ref 0, .int (nI h), .int (nI t)] g iv = if (¬ vS v t 0 = true ∧ ¬ hsAt v (vy v) t 0 = true) ∧ 2 ≤ vN v then pm_at X d 99 (53, [some (.ref 0), some (.int (nI h)), some (.int (nI t))], [], g, iv) else some (some (.int (-1000002)), g, iv) := by
      simp only [e99, b99_0 hL, t_isHouse (show 1 ≤ d by omega) (lay_now hL) hv ho, q1, pm_then_i, pm_then_l, pm_then_v, bz_0, bz_n, bz_1, pm_zr0, pm_zr1, pm_zrI, if_true, if_false, not_true, not_false_eq_true, Bool.false_eq_true, true_and, and_true, false_and, and_false, z10, z01, zz0, eq_self, b99_8, b99_11 hL, t_isLane (show 1 ≤ d by omega) (lay_now hL) hv ho, q2, b99_19, b99_25 hL, t_findAt (show 3 ≤ d by omega) (lay_now hL) hv ho, b99_34, ef, b99_39 hL, t_houseCount (show 1 ≤ d by omega) (lay_now hL), hv.2.2.1, b99_46, e2, b99_50]
      by_cases w1 : ¬ vS v t 0 = true ∧ ¬ hsAt v (vy v) t 0 = true
      · rw [if_neg (not_not_intro w1)]
        by_cases w2 : 2 ≤ vN v
        · rw [if_pos w2, if_pos ⟨w1, w2⟩]
        · rw [if_neg w2, if_neg (fun e => w2 e.2)]
      · rw [if_pos w1, if_neg (fun e => w1 e.1)]
    by_cases w : (¬ vS v t 0 = true ∧ ¬ hsAt v (vy v) t 0 = true) ∧ 2 ≤ vN v
    · obtain ⟨iv1, o', k1, k2, k3⟩ := t_keep (X := X) (show 2 ≤ d by omega) hL hv ho hc hr
      have hv1 : SV iv1 11 v := SV_fr hv (fun c p1 p2 => k2 c (by simp only [List.mem_cons, List.not_mem_nil, or_false]; omega))
      obtain ⟨iv2, b1, b2, b3⟩ := t_bring (X := X) (show 4 ≤ d by omega) (lay_now hL) hv1 ho w.2 hh ht
      have hw2 : HAr ((pm_iw iv2 32 0 0) 36) v := by rw [iw_n (by decide), b2 36 (by decide), k2 36 (by decide)]; exact co.1.2.1
      obtain ⟨iv3, l2, l1⟩ := hMt iv2 hw2
      have hw3 : HAr (iv3 36) v := by rw [l2 36 (by decide)]; exact hw2
      have hm3 : MA iv3 a r := MA_fr hm (by rw [l2 32 (by decide), iw_s, upd_n (by decide), b2 32 (by decide), k2 32 (by decide)]) (by rw [l2 38 (by decide), iw_n (by decide), b2 38 (by decide), k2 38 (by decide)])
      obtain ⟨iv4, m1, m2, m3, m4⟩ := m_keep (X := X) (show 1 ≤ d by omega) hL hw3 ho hc.1 hm3 hr
      have hw4 : HAr (iv4 36) v := by rw [m2 36 (by decide)]; exact hw3
      have e91 : 9 + 6 * nI h + 1 = nI (9 + 6 * h + 1) := by
        show nI 9 + nI 6 * nI h + nI 1 = _
        rw [pk_mul, nI_add, nI_add]
      have e92 : 9 + 6 * nI h + 2 = nI (9 + 6 * h + 2) := by
        show nI 9 + nI 6 * nI h + nI 2 = _
        rw [pk_mul, nI_add, nI_add]
      have hw5 : HAr ((pm_iw (pm_iw iv4 36 (9 + 6 * h + 1) (nI t)) 36 (9 + 6 * h + 2) 0) 36) (vTop v h t) := by
        rw [iw_s, iw_s]
        exact HAr_top hw4 (by omega)
      have hot := Hok_top (h := h) ho ht hD
      have e0 : nI (vN v) - 1 = nI (vN v - 1) := pk_sub (a := vN v) (b := 1) (by omega)
      have n0 : ¬ nI (vN v - 1) = 0 := fun e => by have := (nI_eq (a := vN v - 1) (b := 0) (by omega) (by omega)).mp e; omega
      have er : nI (vH v h) - nI (vH v h) / nI (vN v - 1) * nI (vN v - 1) = nI (vH v h % (vN v - 1)) := pk_rem (by omega) (by omega) (by omega)
      have hmo : vH v h % (vN v - 1) < vN v - 1 := Nat.mod_lt _ (by omega)
      obtain ⟨iv6, y1, y2, y3⟩ := m_haul_loop (X := X) (d := d) (v := vTop v h t) (x2 := nI t) (show 1 ≤ d by omega) hL hot w.2 hh (vN v) 0 (pm_iw (pm_iw iv4 36 (9 + 6 * h + 1) (nI t)) 36 (9 + 6 * h + 2) 0) (nI (vH v h % (vN v - 1))) (by show 0 + vN v = vN v; omega) (by
        refine ⟨hw5.1, hw5.2.1, hw5.2.2.1, hw5.2.2.2.1, hw5.2.2.2.2.1, fun q hq => ?_⟩
        have := hw5.2.2.2.2.2 q hq
        have e : vt (wT (vTop v h t) (fun q => if q < 0 then lnt (vTop v h t) h q else vt (vTop v h t) q)) q = vt (vTop v h t) q := by
          show (if q < 0 then lnt (vTop v h t) h q else vt (vTop v h t) q) = _
          rw [if_neg (Nat.not_lt_zero q)]
        rw [e]
        exact this) (by
        rw [nI_t (by omega)]
        show ((vH v h % (vN v - 1) : Nat) : Int) = ((vH v h % (vN v - 1) : Nat) : Int) - pos h 0
        rw [show pos h 0 = 0 from if_neg (Nat.not_lt_zero h)]
        omega)
      rw [nI_0] at y1
      have hc26 : chg [32, 36, 38, 40, 41] iv2 iv6 := chg_tr (chg_iw (by decide)) (chg_tr (chg_mo l2 (by decide)) (chg_tr (chg_mo m2 (by decide)) (chg_tr (chg_iw (by decide)) (chg_tr (chg_iw (by decide)) (chg_mo y2 (by decide))))))
      have f32 : ∀ c, c ≠ 0 → c ≠ 8 → iv6 32 c = iv 32 c := fun c p0 p8 => by rw [y2 32 (by decide), iw_n (by decide), iw_n (by decide), m3 c p8, l2 32 (by decide), iw_s, upd_n p0, b2 32 (by decide), k2 32 (by decide)]
      have co3 : CO g iv6 (wT (vTop v h t) (lnt v h)) := by
        refine CO_ac co (chg_tr (chg_mo k2 (by decide)) (chg_tr (chg_mo b2 (by decide)) (chg_mo hc26 (by decide)))) (fun c p0 p1 p8 => f32 c p0 p8) ?_ ⟨SV_fr b3 (fun c p1 p2 => hc26 c (by simp only [List.mem_cons, List.not_mem_nil, or_false]; omega)), y3, hot, Dst_top ho hs ht hD w.1.1 w.1.2, hkk⟩ ⟨kA a, o', kR a r v, CA_fr k3 ?_ ?_ ?_, MA_fr m4 ?_ ?_, RO_k hr ho hs hkk (fun u hu => hu)⟩
        · rw [hc26 0 (by decide), b2 0 (by decide), k2 0 (by decide), f32 1 (by decide) (by decide)]
          exact co.2.2.2.2.2.2.1
        · rw [hc26 7 (by decide), b2 7 (by decide)]
        · rw [hc26 7 (by decide), b2 7 (by decide)]
        · rw [hc26 8 (by decide), b2 8 (by decide)]
        · rw [y2 32 (by decide), iw_n (by decide), iw_n (by decide)]
        · rw [y2 38 (by decide), iw_n (by decide), iw_n (by decide)]
      refine ⟨nI (vH v h), iv2, iv6, ?_, ?_, hg, _, co3⟩
      · rw [hCt, if_pos w, b99_53 hL, k1]
        simp only [pm_then_i, pm_then_l, pm_then_v, b99_64 hL, b1, b99_73]
      · have e33 : (pm_iw (pm_iw iv4 36 (9 + 6 * h + 1) (nI t)) 36 (9 + 6 * h + 2) 0) 36 3 = nI (vN v) := hw5.2.2.1
        have eH : pm_c X d 159 [.ref 32, .int (nI h), .int 3] g (pm_iw (pm_iw iv4 36 (9 + 6 * h + 1) (nI t)) 36 (9 + 6 * h + 2) 0) = some (some (.int (nI (vH v h))), g, pm_iw (pm_iw iv4 36 (9 + 6 * h + 1) (nI t)) 36 (9 + 6 * h + 2) 0) := m_ofH (by omega) hL hw5 hot hh
        rw [l1, if_pos w, b169_71 hL, m1]
        simp only [pm_then_i, pm_then_l, pm_then_v]
        rw [b169_75 hL (by rw [e91]; exact vp_n (by omega) (by decide)) (by rw [e92]; exact vp_n (by omega) (by decide)), e91, e92, nI_c (by omega), nI_c (by omega), e33, e0, eH]
        simp only [pm_then_i, pm_then_l, pm_then_v]
        rw [b169_120 n0, er]
        exact y1
    · obtain ⟨iv3, l2, l1⟩ := hMt iv hw
      refine ⟨-1000002, iv, iv3, ?_, ?_, hg, v, CO_f0 co2 (chg_mo l2 (by decide)) (l2 32 (by decide))⟩
      · rw [hCt, if_neg w]
      · rw [l1, if_neg w]
  · refine ⟨-1000001, iv, pm_iw iv 32 0 0, ?_, ?_, hg, v, co2⟩
    · simp only [e99, b99_0 hL, t_isHouse (show 1 ≤ d by omega) (lay_now hL) hv ho, pm_then_i, pm_then_l, pm_then_v, bz_0, bz_n, bz_1, pm_zr0, pm_zr1, pm_zrI, if_true, if_false, not_true, not_false_eq_true, Bool.false_eq_true, true_and, and_true, false_and, and_false, z10, z01, zz0, eq_self, b99_8, b99_11 hL, t_isLane (show 1 ≤ d by omega) (lay_now hL) hv ho, b99_19, b99_22]
      by_cases w1 : ip x (vN v) = true <;> by_cases w2 : ip y (vL v) = true <;> first | (simp only [w1, w2, bz_0, bz_n, bz_1, pm_zr0, pm_zr1, pm_zrI, if_true, if_false, not_true, not_false_eq_true, Bool.false_eq_true, true_and, and_true, false_and, and_false, z10, z01, zz0, eq_self]; done) | exact absurd ⟨w1, w2⟩ q
    · simp only [e169, b169_0 hL, m_isHouse (show 2 ≤ d by omega) hL hw ho, pm_then_i, pm_then_l, pm_then_v, bz_0, bz_n, bz_1, pm_zr0, pm_zr1, pm_zrI, if_true, if_false, not_true, not_false_eq_true, Bool.false_eq_true, true_and, and_true, false_and, and_false, z10, z01, zz0, eq_self, b169_10, b169_13 hL, m_inI (show 1 ≤ d by omega), em _ hw, z0, p0, b169_28, b169_31]
      by_cases w1 : ip x (vN v) = true <;> by_cases w2 : ip y (vL v) = true <;> first | (simp only [w1, w2, bz_0, bz_n, bz_1, pm_zr0, pm_zr1, pm_zrI, if_true, if_false, not_true, not_false_eq_true, Bool.false_eq_true, true_and, and_true, false_and, and_false, z10, z01, zz0, eq_self]; done) | exact absurd ⟨w1, w2⟩ q
end Q59
