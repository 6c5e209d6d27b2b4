/-! the class reads houses, and all -/
section Z9
variable {X : pm_X} {d n : Nat} {g : pm_G} {iv : pm_V} {T : Nat → Nat} {c : ZT} {v : HV} {x2 : Int32}
theorem t_rh_free {l : Nat} (hd : 4 ≤ d) (hL : pm_lay g) (ha : ZA T n iv c) (hs : ZS iv 21 v) (hz : Zv v) (hl : l < vL v) :
    (ztkn T v l c = true → ∃ iv', pm_at X d 75 (37, [some (.ref 5), some (.ref 21), some (.int x2), some (.int (nI l)), none, none], [], g, iv) = some (some (.int 0), g, iv') ∧ ZE [5] iv iv' (2, c.2.1)) ∧ (¬ ztkn T v l c = true → pm_at X d 75 (37, [some (.ref 5), some (.ref 21), some (.int x2), some (.int (nI l)), none, none], [], g, iv) = pm_at X d 75 (76, [some (.ref 5), some (.ref 21), some (.int x2), some (.int (nI l)), none, none], [], g, iv)) := by
  have hK := lay_trial hL
  have ho := hz.2.2.1
  have w : iv 5 2 = 2 ↔ c.1 = 2 := CT_1 ha.2.1 ha.2.2 2 (by omega)
  unfold ztkn
  by_cases q : c.1 = 2
  · have hv := zval_lt ha.2.2 q
    have ev : iv 5 5 = nI (zval T c) := ha.2.1.2.2.2 q
    have r1 : pm_at X d 75 (37, [some (.ref 5), some (.ref 21), some (.int x2), some (.int (nI l)), none, none], [], g, iv) = pm_at X d 75 (53, [some (.ref 5), some (.ref 21), some (.int x2), some (.int (nI l)), none, none], [.int (if ip (nI (zval T c)) (vD v) = true then 1 else 0)], g, iv) := by
      rw [b75_37 hL, if_neg (not_not_intro (w.mpr q)), b75_45 hL hK, ev, t_isYard (by omega) hK hs.1 ho, pm_then_i]
    by_cases q2 : zval T c < vD v
    · have hip : ip (nI (zval T c)) (vD v) = true := ip_n q2 (by have := ho.2.1; omega)
      have hf := fndI_none ho hl q2
      have r2 : pm_at X d 75 (37, [some (.ref 5), some (.ref 21), some (.int x2), some (.int (nI l)), none, none], [], g, iv) = pm_at X d 75 (65, [some (.ref 5), some (.ref 21), some (.int x2), some (.int (nI l)), none, none], [.int (fndI v (nI l) (nI (zval T c)))], g, iv) := by
        rw [r1, if_pos hip, b75_53, if_neg (by decide), b75_56 hL hK, ev, t_findAt (by omega) hK hs.1 ho, pm_then_i]
      by_cases q3 : vS v l (zval T c) = true ∨ hsAt v (vy v) l (zval T c) = true
      · have e : (decide (c.1 = 2 ∧ zval T c < vD v) && (vS v l (zval T c) || hsAt v (vy v) l (zval T c))) = true := by
          rw [decide_eq_true ⟨q, q2⟩, Bool.true_and, Bool.or_eq_true_iff]; exact q3
        refine ⟨fun _ => ?_, fun h => absurd e h⟩
        obtain ⟨iv', a1, a2⟩ := t_fail (X := X) (k := 2) (show 1 ≤ d by omega) hL ha.2.1
        rw [show nI 2 = 2 from rfl] at a1
        refine ⟨iv', ?_, a2⟩
        rw [r2, b75_65, if_neg (fun u => by rcases q3 with p | p; exact (hf.mp u).1 p; exact (hf.mp u).2 p), b75_70 hL, a1, pm_then_i, b75_75, pm_zr0]
      · have e : ¬ (decide (c.1 = 2 ∧ zval T c < vD v) && (vS v l (zval T c) || hsAt v (vy v) l (zval T c))) = true := by
          rw [decide_eq_true ⟨q, q2⟩, Bool.true_and, Bool.or_eq_true_iff]; exact q3
        refine ⟨fun h => absurd h e, fun _ => ?_⟩
        rw [r2, b75_65, if_pos (hf.mpr ⟨fun p => q3 (Or.inl p), fun p => q3 (Or.inr p)⟩)]
    · have hip : ¬ ip (nI (zval T c)) (vD v) = true := by
        unfold ip
        rw [decide_eq_true_eq, nI_t (by omega)]
        omega
      rw [decide_eq_false (fun u => q2 u.2), Bool.false_and]
      refine ⟨fun h => (by cases h), fun _ => ?_⟩
      rw [r1, if_neg hip, b75_53, if_pos rfl]
  · rw [decide_eq_false (fun u => q u.1), Bool.false_and]
    refine ⟨fun h => (by cases h), fun _ => ?_⟩
    rw [b75_37 hL, if_pos (fun u => q (w.mp u))]
theorem t_readHouse (hd : 8 ≤ d) (hL : pm_lay g) (hxg : pm_xg g) (hn : n ≤ 400) (hb : ∀ i, i < n → T i < 256) (ha : ZA T n iv c) (hs : ZS iv 21 v) (hz : Zv v) (h6 : vN v < 6) :
    (∀ f, zHse T n v c = .inl f → ∃ iv', pm_c X d 75 [.ref 5, .ref 21] g iv = some (some (.int 0), g, iv') ∧ ZE trL iv iv' f) ∧ (∀ e, zHse T n v c = .inr e → ∃ iv', pm_c X d 75 [.ref 5, .ref 21] g iv = some (some (.int 1), g, iv') ∧ ZG trL T n iv iv' e.2 ∧ ZS iv' 21 e.1 ∧ Zv e.1 ∧ vN e.1 = vN v + 1) := by
  obtain ⟨d, rfl, hd1⟩ := pm_d1 hd
  have hK := lay_trial hL
  have mo : ∀ c, c ∈ [5] → c ∈ trL := by decide
  have ho := hz.2.2.1
  have hL4 := ho.1
  have hD20 := ho.2.1
  have hL1 := hz.1
  have hD1 := hz.2.1
  obtain ⟨iv0, a1, a2⟩ := t_go (X := X) (show 3 ≤ d by omega) hL hn hb ha
  have ha1 := ZG_A a2 ha (by decide)
  have hs1 := c5t (k := 0) a2.1 hs
  have eL : nI (vL v) - 1 = nI (vL v - 1) := pk_sub (a := vL v) (b := 1) hL1
  have eD : nI (vD v) - 1 = nI (vD v - 1) := pk_sub (a := vD v) (b := 1) hD1
  have w0 := t_takeKind (X := X) hd1 hL hxg hn hb ha1
  have r0 : pm_c X (d + 1) 75 [.ref 5, .ref 21] g iv = pm_then X d 75 8 [some (.ref 5), some (.ref 21), none, none, none, none] [] (pm_c X d 79 [.ref 5] g iv0) := by
    rw [e75, b75_0 hL, a1, pm_then_v, b75_4 hL]
  cases h0 : zKnd T n (znx T n c) with
  | inl f0 =>
    obtain ⟨iv2, b1, b2⟩ := w0.1 f0 h0
    refine ⟨fun f h => ?_, fun e h => ?_⟩
    · rw [zHse, zbd_l h0] at h; cases h
      exact ⟨iv2, by rw [r0, b1, pm_then_i, b75_8, if_neg (not_not_intro rfl), b75_14, b75_29, if_neg (not_not_intro rfl), b75_35], ZE_mo (ZE_tr a2 b2) mo⟩
    · rw [zHse, zbd_l h0] at h; cases h
  | inr kd =>
  obtain ⟨iv1, k1, k2, kd1, kd5⟩ := w0.2 kd h0
  have hak := ZG_A k2 ha1 (by decide)
  have hsk := c5t (k := 0) k2.1 hs1
  have w1 := t_takeNumber (X := X) (lo := 0) (hi := vL v - 1) (show 4 ≤ d by omega) hL hn hb hak (by decide) (by omega)
  have r1 : pm_c X (d + 1) 75 [.ref 5, .ref 21] g iv = pm_then X d 75 29 [some (.ref 5), some (.ref 21), some (.int (nI kd.1)), none, none, none] [] (pm_c X d 78 [.ref 5, .int (nI 0), .int (nI (vL v - 1))] g iv1) := by
    rw [r0, k1, pm_then_i, b75_8, if_pos (nI_nm (by omega)), b75_18 hK, t_laneCount (by omega) hK, pm_then_i, b75_24 hL, hsk.1.1, eL]
    rfl
  cases h1 : zNum T n 0 (vL v - 1) kd.2 with
  | inl f1 =>
    obtain ⟨iv2, b1, b2⟩ := w1.1 f1 h1
    refine ⟨fun f h => ?_, fun e h => ?_⟩
    · rw [zHse, zbd_r h0, zbd_l h1] at h; cases h
      exact ⟨iv2, by rw [r1, b1, pm_then_i, b75_29, if_neg (not_not_intro rfl), b75_35], ZE_mo (ZE_tr a2 (ZE_tr k2 b2)) mo⟩
    · rw [zHse, zbd_r h0, zbd_l h1] at h; cases h
  | inr l =>
  obtain ⟨iv2, b1, b2⟩ := w1.2 l h1
  obtain ⟨-, -, l1, l2⟩ := zNum_i h1
  have ha2 := ZG_A b2 hak (by decide)
  have hs2 := c5t (k := 0) b2.1 hsk
  have wf := t_rh_free (X := X) (d := d) (x2 := nI kd.1) (l := l.1) (show 4 ≤ d by omega) hL ha2 hs2 hz (by omega)
  have r2 : pm_c X (d + 1) 75 [.ref 5, .ref 21] g iv = pm_at X d 75 (37, [some (.ref 5), some (.ref 21), some (.int (nI kd.1)), some (.int (nI l.1)), none, none], [], g, iv2) := by
    rw [r1, b1, pm_then_i, b75_29, if_pos (nI_nm (by omega))]
  by_cases qf : ztkn T v l.1 l.2 = true
  · have h2 : zFre T v l.1 l.2 = .inl (2, l.2.2.1) := if_pos qf
    obtain ⟨iv3, d1, d2⟩ := wf.1 qf
    refine ⟨fun f h => ?_, fun e h => ?_⟩
    · rw [zHse, zbd_r h0, zbd_r h1, zbd_l h2] at h; cases h
      exact ⟨iv3, by rw [r2, d1], ZE_mo (ZE_tr a2 (ZE_tr k2 (ZE_tr b2 d2))) mo⟩
    · rw [zHse, zbd_r h0, zbd_r h1, zbd_l h2] at h; cases h
  have h2 : zFre T v l.1 l.2 = .inr () := if_neg qf
  have w3 := t_takeNumber (X := X) (lo := 0) (hi := vD v - 1) (show 4 ≤ d by omega) hL hn hb ha2 (by decide) (by omega)
  have r3 : pm_c X (d + 1) 75 [.ref 5, .ref 21] g iv = pm_then X d 75 87 [some (.ref 5), some (.ref 21), some (.int (nI kd.1)), some (.int (nI l.1)), none, none] [] (pm_c X d 78 [.ref 5, .int (nI 0), .int (nI (vD v - 1))] g iv2) := by
    rw [r2, wf.2 qf, b75_76 hK, t_yardCount (by omega) hK, pm_then_i, b75_82 hL, hs2.1.2.1, eD]
    rfl
  cases h3 : zNum T n 0 (vD v - 1) l.2 with
  | inl f3 =>
    obtain ⟨iv3, d1, d2⟩ := w3.1 f3 h3
    refine ⟨fun f h => ?_, fun e h => ?_⟩
    · rw [zHse, zbd_r h0, zbd_r h1, zbd_r h2, zbd_l h3] at h; cases h
      exact ⟨iv3, by rw [r3, d1, pm_then_i, b75_87, if_neg (not_not_intro rfl), b75_95, b75_106, if_neg (not_not_intro rfl), b75_114], ZE_mo (ZE_tr a2 (ZE_tr k2 (ZE_tr b2 d2))) mo⟩
    · rw [zHse, zbd_r h0, zbd_r h1, zbd_r h2, zbd_l h3] at h; cases h
  | inr y =>
  obtain ⟨iv3, d1, d2⟩ := w3.2 y h3
  obtain ⟨y0, yy, y1, y2⟩ := zNum_i h3
  have ha3 := ZG_A d2 ha2 (by decide)
  have hs3 := c5t (k := 0) d2.1 hs2
  have w4 := t_takeNumber (X := X) (lo := 1) (hi := 20) (show 4 ≤ d by omega) hL hn hb ha3 (by decide) (by decide)
  have r4 : pm_c X (d + 1) 75 [.ref 5, .ref 21] g iv = pm_then X d 75 106 [some (.ref 5), some (.ref 21), some (.int (nI kd.1)), some (.int (nI l.1)), some (.int (nI y.1)), none] [] (pm_c X d 78 [.ref 5, .int (nI 1), .int (nI 20)] g iv3) := by
    rw [r3, d1, pm_then_i, b75_87, if_pos (nI_nm (by omega)), b75_99 hL]
    rfl
  cases h4 : zNum T n 1 20 y.2 with
  | inl f4 =>
    obtain ⟨iv4, e1, e2⟩ := w4.1 f4 h4
    refine ⟨fun f h => ?_, fun e h => ?_⟩
    · rw [zHse, zbd_r h0, zbd_r h1, zbd_r h2, zbd_r h3, zbd_l h4] at h; cases h
      exact ⟨iv4, by rw [r4, e1, pm_then_i, b75_106, if_neg (not_not_intro rfl), b75_114], ZE_mo (ZE_tr a2 (ZE_tr k2 (ZE_tr b2 (ZE_tr d2 e2)))) mo⟩
    · rw [zHse, zbd_r h0, zbd_r h1, zbd_r h2, zbd_r h3, zbd_l h4] at h; cases h
  | inr hv =>
  obtain ⟨iv4, e1, e2⟩ := w4.2 hv h4
  obtain ⟨-, -, v1, v2⟩ := zNum_i h4
  have ha4 := ZG_A e2 ha3 (by decide)
  have hs4 := c5t (k := 0) e2.1 hs3
  have hfree : ¬ vS v l.1 y.1 = true ∧ ¬ hsAt v (vy v) l.1 y.1 = true := by
    rw [yy] at y2 ⊢
    have y2 : zval T l.2 ≤ vD v - 1 := y2
    show ¬ vS v l.1 (zval T l.2) = true ∧ ¬ hsAt v (vy v) l.1 (zval T l.2) = true
    refine ⟨fun p => qf ?_, fun p => qf ?_⟩ <;> (unfold ztkn; rw [decide_eq_true ⟨y0, by omega⟩, p]; simp)
  obtain ⟨iv5, m1, m2, m3⟩ := t_addHouse (X := X) (d := d) (kd := kd.1) (hv := hv.1) (l := l.1) (y := y.1) (by omega) hK hs4 ho h6 hz.2.2.2.2.2.1 hz.2.2.2.2.2.2 (by omega) (by omega)
  have f5 : iv5 5 = iv4 5 := m2 5 (by decide)
  have hG4 : ZG trL T n iv iv5 hv.2 := ⟨chg_tr (chg_mo a2.1 mo) (chg_tr (chg_mo k2.1 mo) (chg_tr (chg_mo b2.1 mo) (chg_tr (chg_mo d2.1 mo) (chg_tr (chg_mo e2.1 mo) (chg_mo m2 (by decide)))))), by rw [f5, e2.2.1, d2.2.1, b2.2.1, k2.2.1, a2.2.1], by rw [f5, e2.2.2.1, d2.2.2.1, b2.2.2.1, k2.2.2.1, a2.2.2.1], by unfold CT; rw [f5]; exact e2.2.2.2.1, e2.2.2.2.2⟩
  have ha5 := ZG_A hG4 ha (by decide)
  have w5 := t_takeSign (X := X) (show 4 ≤ d by omega) hL hn hb ha5
  have r5 : pm_c X (d + 1) 75 [.ref 5, .ref 21] g iv = pm_then X d 75 130 [some (.ref 5), some (.ref 21), some (.int (nI kd.1)), some (.int (nI l.1)), some (.int (nI y.1)), some (.int (nI hv.1))] [] (pm_c X d 77 [.ref 5] g iv5) := by
    rw [r4, e1, pm_then_i, b75_106, if_pos (nI_nm (by omega)), b75_116 hK, m1, pm_then_v, b75_126 hL]
  cases h5 : zSgn T n hv.2 with
  | inl f5 =>
    obtain ⟨iv6, s1, s2⟩ := w5.1 f5 h5
    refine ⟨fun f h => ?_, fun e h => ?_⟩
    · rw [zHse, zbd_r h0, zbd_r h1, zbd_r h2, zbd_r h3, zbd_r h4, zbd_l h5] at h; cases h
      exact ⟨iv6, by rw [r5, s1, pm_then_i, b75_130, pm_zr0], ZE_tr hG4 (ZE_mo s2 mo)⟩
    · rw [zHse, zbd_r h0, zbd_r h1, zbd_r h2, zbd_r h3, zbd_r h4, zbd_l h5] at h; cases h
  | inr c4 =>
    obtain ⟨iv6, s1, s2⟩ := w5.2 c4 h5
    refine ⟨fun f h => ?_, fun e h => ?_⟩
    · rw [zHse, zbd_r h0, zbd_r h1, zbd_r h2, zbd_r h3, zbd_r h4, zbd_r h5] at h; cases h
    · rw [zHse, zbd_r h0, zbd_r h1, zbd_r h2, zbd_r h3, zbd_r h4, zbd_r h5] at h; cases h
      exact ⟨iv6, by rw [r5, s1, pm_then_i, b75_130, pm_zr1], ZG_tr hG4 (ZG_mo s2 mo), c5t (k := 0) s2.1 m3, Zv_aH hz h6 kd1 (by omega) v2 (by omega) (by omega) hfree.1 hfree.2, rfl⟩
theorem ZG_rf {L : List Nat} (ha : ZA T n iv c) : ZG L T n iv iv c := ⟨chg_rf, rfl, rfl, ha.2⟩
theorem t_stL (hd : 5 ≤ d) (hL : pm_lay g) (hxg : pm_xg g) (hn : n ≤ 400) (hb : ∀ i, i < n → T i < 256) : ∀ m told (iv : pm_V) (v : HV) (c : ZT), told + m = 8 → ZA T n iv c → ZS iv 21 v → Zv v → vN v = 0 →
    (∀ f, zStL T n m v c = .inl f → ∃ iv', pm_at X d 72 (21, [some (.ref 5), some (.ref 21), some (.int (nI told))], [], g, iv) = some (some (.int 0), g, iv') ∧ ZE trL iv iv' f) ∧ (∀ e, zStL T n m v c = .inr e → ∃ iv' x, pm_at X d 72 (21, [some (.ref 5), some (.ref 21), some (.int (nI told))], [], g, iv) = pm_at X d 72 (64, [some (.ref 5), some (.ref 21), some (.int x)], [], g, iv') ∧ ZG trL T n iv iv' e.2 ∧ ZS iv' 21 e.1 ∧ Zv e.1 ∧ vN e.1 = 0) := by
  have mo : ∀ c, c ∈ [5] → c ∈ trL := by decide
  have go : ∀ told (iv : pm_V) (c : ZT), told ≤ 8 → ZA T n iv c → pm_at X d 72 (21, [some (.ref 5), some (.ref 21), some (.int (nI told))], [], g, iv) = if zis T 1 c = true then pm_at X d 72 (36, [some (.ref 5), some (.ref 21), some (.int (nI told))], [], g, iv) else pm_at X d 72 (64, [some (.ref 5), some (.ref 21), some (.int (nI told))], [], g, iv) := fun told iv c ht ha => by
    rw [b72_21, if_neg (show ¬ (8 : Int32) < nI told by rw [lt_i, toI8, nI_t (by omega)]; omega), b72_27 hL, show (1001 : Nat) = 1000 + 1 from rfl, t_isW hd hL hxg hn hb ha.1 ha.2.1 ha.2.2 (by decide), pm_then_i, b72_33]
    by_cases q : zis T 1 c = true
    · rw [if_pos q, if_pos q, if_neg (by decide)]
    · rw [if_neg q, if_neg q, if_pos rfl]
  intro m
  induction m with
  | zero =>
    intro told iv v c ht ha hs hz hN
    have e : told = 8 := by omega
    subst e
    have g0 := go 8 iv c (by omega) ha
    rw [zStL]
    by_cases q : zis T 1 c = true
    · rw [if_pos q] at g0 ⊢
      refine ⟨fun f h => ?_, fun e h => (by cases h)⟩
      cases h
      obtain ⟨iv', a1, a2⟩ := t_fail (X := X) (k := 3) (show 1 ≤ d by omega) hL ha.2.1
      rw [show nI 3 = 3 from rfl] at a1
      exact ⟨iv', by rw [g0, b72_36, if_neg (not_not_intro (show nI 8 = 8 from rfl)), b72_42 hL, a1, pm_then_i, b72_47, pm_zr0], ZE_mo a2 mo⟩
    · rw [if_neg q] at g0 ⊢
      refine ⟨fun f h => (by cases h), fun e h => ?_⟩
      cases h
      exact ⟨iv, _, g0, ZG_rf ha, hs, hz, hN⟩
  | succ m ih =>
    intro told iv v c ht ha hs hz hN
    have g0 := go told iv c (by omega) ha
    rw [zStL]
    by_cases q : zis T 1 c = true
    · rw [if_pos q] at g0 ⊢
      have w := t_readStone (X := X) hd hL hn hb ha hs hz hN
      have r1 : pm_at X d 72 (21, [some (.ref 5), some (.ref 21), some (.int (nI told))], [], g, iv) = pm_then X d 72 53 [some (.ref 5), some (.ref 21), some (.int (nI told))] [] (pm_c X d 74 [.ref 5, .ref 21] g iv) := by
        rw [g0, b72_36, if_pos (show ¬ nI told = 8 from fun u => by have := (nI_eq (a := told) (b := 8) (by omega) (by decide)).mp u; omega), b72_48 hL]
      cases h1 : zStn T n v c with
      | inl f1 =>
        obtain ⟨iv1, b1, b2⟩ := w.1 f1 h1
        refine ⟨fun f h => ?_, fun e h => ?_⟩
        · rw [zbd_l rfl] at h; cases h
          exact ⟨iv1, by rw [r1, b1, pm_then_i, b72_53, if_neg (not_not_intro rfl), b72_56], b2⟩
        · rw [zbd_l rfl] at h; cases h
      | inr r =>
        obtain ⟨iv1, b1, b2, b3, b4, b5⟩ := w.2 r h1
        obtain ⟨i1, i2⟩ := ih (told + 1) iv1 r.1 r.2 (by omega) (ZG_A b2 ha (by decide)) b3 b4 b5
        have r2 : pm_at X d 72 (21, [some (.ref 5), some (.ref 21), some (.int (nI told))], [], g, iv) = pm_at X d 72 (21, [some (.ref 5), some (.ref 21), some (.int (nI (told + 1)))], [], g, iv1) := by
          rw [r1, b1, pm_then_i, b72_53, if_pos (by decide), b72_58, nI_1]
        refine ⟨fun f h => ?_, fun e h => ?_⟩
        · rw [zbd_r rfl] at h
          obtain ⟨iv2, c1, c2⟩ := i1 f h
          exact ⟨iv2, by rw [r2, c1], ZE_tr b2 c2⟩
        · rw [zbd_r rfl] at h
          obtain ⟨iv2, x, c1, c2, c3⟩ := i2 e h
          exact ⟨iv2, x, by rw [r2, c1], ZG_tr b2 c2, c3⟩
    · rw [if_neg q] at g0 ⊢
      refine ⟨fun f h => (by cases h), fun e h => ?_⟩
      cases h
      exact ⟨iv, _, g0, ZG_rf ha, hs, hz, hN⟩
theorem t_hsL (hd : 8 ≤ d) (hL : pm_lay g) (hxg : pm_xg g) (hn : n ≤ 400) (hb : ∀ i, i < n → T i < 256) : ∀ m told (iv : pm_V) (v : HV) (c : ZT), told + m = 6 → ZA T n iv c → ZS iv 21 v → Zv v → vN v = told →
    (∀ f, zHsL T n m v c = .inl f → ∃ iv', pm_at X d 72 (66, [some (.ref 5), some (.ref 21), some (.int (nI told))], [], g, iv) = some (some (.int 0), g, iv') ∧ ZE trL iv iv' f) ∧ (∀ e, zHsL T n m v c = .inr e → ∃ iv' x, pm_at X d 72 (66, [some (.ref 5), some (.ref 21), some (.int (nI told))], [], g, iv) = pm_at X d 72 (109, [some (.ref 5), some (.ref 21), some (.int x)], [], g, iv') ∧ ZG trL T n iv iv' e.2 ∧ ZS iv' 21 e.1 ∧ Zv e.1) := by
  have mo : ∀ c, c ∈ [5] → c ∈ trL := by decide
  have go : ∀ told (iv : pm_V) (c : ZT), told ≤ 6 → ZA T n iv c → pm_at X d 72 (66, [some (.ref 5), some (.ref 21), some (.int (nI told))], [], g, iv) = if zis T 2 c = true then pm_at X d 72 (81, [some (.ref 5), some (.ref 21), some (.int (nI told))], [], g, iv) else pm_at X d 72 (109, [some (.ref 5), some (.ref 21), some (.int (nI told))], [], g, iv) := fun told iv c ht ha => by
    rw [b72_66, if_neg (show ¬ (6 : Int32) < nI told by rw [lt_i, toI6, nI_t (by omega)]; omega), b72_72 hL, show (1002 : Nat) = 1000 + 2 from rfl, t_isW (by omega) hL hxg hn hb ha.1 ha.2.1 ha.2.2 (by decide), pm_then_i, b72_78]
    by_cases q : zis T 2 c = true
    · rw [if_pos q, if_pos q, if_neg (by decide)]
    · rw [if_neg q, if_neg q, if_pos rfl]
  intro m
  induction m with
  | zero =>
    intro told iv v c ht ha hs hz hN
    have e : told = 6 := by omega
    subst e
    have g0 := go 6 iv c (by omega) ha
    rw [zHsL]
    by_cases q : zis T 2 c = true
    · rw [if_pos q] at g0 ⊢
      refine ⟨fun f h => ?_, fun e h => (by cases h)⟩
      cases h
      obtain ⟨iv', a1, a2⟩ := t_fail (X := X) (k := 3) (show 1 ≤ d by omega) hL ha.2.1
      rw [show nI 3 = 3 from rfl] at a1
      exact ⟨iv', by rw [g0, b72_81, if_neg (not_not_intro (show nI 6 = 6 from rfl)), b72_87 hL, a1, pm_then_i, b72_92, pm_zr0], ZE_mo a2 mo⟩
    · rw [if_neg q] at g0 ⊢
      refine ⟨fun f h => (by cases h), fun e h => ?_⟩
      cases h
      exact ⟨iv, _, g0, ZG_rf ha, hs, hz⟩
  | succ m ih =>
    intro told iv v c ht ha hs hz hN
    have g0 := go told iv c (by omega) ha
    rw [zHsL]
    by_cases q : zis T 2 c = true
    · rw [if_pos q] at g0 ⊢
      have w := t_readHouse (X := X) hd hL hxg hn hb ha hs hz (by omega)
      have r1 : pm_at X d 72 (66, [some (.ref 5), some (.ref 21), some (.int (nI told))], [], g, iv) = pm_then X d 72 98 [some (.ref 5), some (.ref 21), some (.int (nI told))] [] (pm_c X d 75 [.ref 5, .ref 21] g iv) := by
        rw [g0, b72_81, if_pos (show ¬ nI told = 6 from fun u => by have := (nI_eq (a := told) (b := 6) (by omega) (by decide)).mp u; omega), b72_93 hL]
      cases h1 : zHse T n v c with
      | inl f1 =>
        obtain ⟨iv1, b1, b2⟩ := w.1 f1 h1
        refine ⟨fun f h => ?_, fun e h => ?_⟩
        · rw [zbd_l rfl] at h; cases h
          exact ⟨iv1, by rw [r1, b1, pm_then_i, b72_98, if_neg (not_not_intro rfl), b72_101], b2⟩
        · rw [zbd_l rfl] at h; cases h
      | inr r =>
        obtain ⟨iv1, b1, b2, b3, b4, b5⟩ := w.2 r h1
        obtain ⟨i1, i2⟩ := ih (told + 1) iv1 r.1 r.2 (by omega) (ZG_A b2 ha (by decide)) b3 b4 (by omega)
        have r2 : pm_at X d 72 (66, [some (.ref 5), some (.ref 21), some (.int (nI told))], [], g, iv) = pm_at X d 72 (66, [some (.ref 5), some (.ref 21), some (.int (nI (told + 1)))], [], g, iv1) := by
          rw [r1, b1, pm_then_i, b72_98, if_pos (by decide), b72_103, nI_1]
        refine ⟨fun f h => ?_, fun e h => ?_⟩
        · rw [zbd_r rfl] at h
          obtain ⟨iv2, c1, c2⟩ := i1 f h
          exact ⟨iv2, by rw [r2, c1], ZE_tr b2 c2⟩
        · rw [zbd_r rfl] at h
          obtain ⟨iv2, x, c1, c2, c3⟩ := i2 e h
          exact ⟨iv2, x, by rw [r2, c1], ZG_tr b2 c2, c3⟩
    · rw [if_neg q] at g0 ⊢
      refine ⟨fun f h => (by cases h), fun e h => ?_⟩
      cases h
      exact ⟨iv, _, g0, ZG_rf ha, hs, hz⟩
/-- the class reads all -/
theorem t_readInto (hd : 9 ≤ d) (hL : pm_lay g) (hxg : pm_xg g) (hn : n ≤ 400) (hb : ∀ i, i < n → T i < 256) (hx : ZX T n iv) :
    (∀ f, zAll T n = .inl f → ∃ iv', pm_c X d 72 [.ref 5, .ref 21] g iv = some (some (.int 0), g, iv') ∧ ZE trL iv iv' f) ∧ (∀ e, zAll T n = .inr e → ∃ iv', pm_c X d 72 [.ref 5, .ref 21] g iv = some (some (.int 1), g, iv') ∧ chg trL iv iv' ∧ iv' 5 6 = iv 5 6 ∧ ZS iv' 21 e ∧ Zv e) := by
  obtain ⟨d, rfl, hd1⟩ := pm_d1 hd
  have mo : ∀ c, c ∈ [5] → c ∈ trL := by decide
  obtain ⟨iv0, a1, a2, a3, a4⟩ := t_stp (X := X) (iv := pm_iw iv 5 4 0) (i := 0) (show 3 ≤ d by omega) hL hn hb (ZX_fr hx (by rw [iw_s, upd_n (by decide)]) (iw_n (by decide))) (by rw [iw_s, upd_s]; rfl) (by omega)
  have g0 : ZG [5] T n iv iv0 (ztk T n 0) := ⟨chg_tr (chg_iw (by decide)) a2, by rw [a3 1 (Or.inl rfl), iw_s, upd_n (by decide)], by rw [a3 6 (Or.inr (Or.inl rfl)), iw_s, upd_n (by decide)], a4, Zok_tk (by omega)⟩
  have G0 : ZG trL T n iv iv0 (ztk T n 0) := ZG_mo g0 mo
  have ha0 : ZA T n iv0 (ztk T n 0) := ⟨ZX_fr hx g0.2.1 (g0.1 6 (by decide)), g0.2.2.2⟩
  have w0 := t_readSlope (X := X) (show 7 ≤ d by omega) hL hxg hn hb ha0
  have r0 : pm_c X (d + 1) 72 [.ref 5, .ref 21] g iv = pm_then X d 72 14 [some (.ref 5), some (.ref 21), none] [] (pm_c X d 73 [.ref 5, .ref 21] g iv0) := by
    rw [e72, b72_0 hL, a1, pm_then_v, b72_9 hL]
  cases h0 : zSlp T n (ztk T n 0) with
  | inl f0 =>
    obtain ⟨iv1, b1, b2⟩ := w0.1 f0 h0
    refine ⟨fun f h => ?_, fun e h => ?_⟩
    · rw [zAll, zbd_l h0] at h; cases h
      exact ⟨iv1, by rw [r0, b1, pm_then_i, b72_14, if_neg (not_not_intro rfl), b72_17], ZE_tr G0 b2⟩
    · rw [zAll, zbd_l h0] at h; cases h
  | inr a =>
  obtain ⟨iv1, b1, b2, b3, b4, b5⟩ := w0.2 a h0
  have ha1 := ZG_A b2 ha0 (by decide)
  have w1 := t_stL (X := X) (d := d) (show 5 ≤ d by omega) hL hxg hn hb 8 0 iv1 a.1 a.2 (by omega) ha1 b3 b4 b5
  have r1 : pm_c X (d + 1) 72 [.ref 5, .ref 21] g iv = pm_at X d 72 (21, [some (.ref 5), some (.ref 21), some (.int (nI 0))], [], g, iv1) := by
    rw [r0, b1, pm_then_i, b72_14, if_pos (by decide), b72_19]
    rfl
  cases h1 : zStL T n 8 a.1 a.2 with
  | inl f1 =>
    obtain ⟨iv2, c1, c2⟩ := w1.1 f1 h1
    refine ⟨fun f h => ?_, fun e h => ?_⟩
    · rw [zAll, zbd_r h0, zbd_l h1] at h; cases h
      exact ⟨iv2, by rw [r1, c1], ZE_tr G0 (ZE_tr b2 c2)⟩
    · rw [zAll, zbd_r h0, zbd_l h1] at h; cases h
  | inr b =>
  obtain ⟨iv2, x, c1, c2, c3, c4, c5⟩ := w1.2 b h1
  have ha2 := ZG_A c2 ha1 (by decide)
  have w2 := t_hsL (X := X) (d := d) hd1 hL hxg hn hb 6 0 iv2 b.1 b.2 (by omega) ha2 c3 c4 c5
  have r2 : pm_c X (d + 1) 72 [.ref 5, .ref 21] g iv = pm_at X d 72 (66, [some (.ref 5), some (.ref 21), some (.int (nI 0))], [], g, iv2) := by
    rw [r1, c1, b72_64]
    rfl
  cases h2 : zHsL T n 6 b.1 b.2 with
  | inl f2 =>
    obtain ⟨iv3, d1, d2⟩ := w2.1 f2 h2
    refine ⟨fun f h => ?_, fun e h => ?_⟩
    · rw [zAll, zbd_r h0, zbd_r h1, zbd_l h2] at h; cases h
      exact ⟨iv3, by rw [r2, d1], ZE_tr G0 (ZE_tr b2 (ZE_tr c2 d2))⟩
    · rw [zAll, zbd_r h0, zbd_r h1, zbd_l h2] at h; cases h
  | inr e =>
  obtain ⟨iv3, y, d1, d2, d3, d4⟩ := w2.2 e h2
  have ha3 := ZG_A d2 ha2 (by decide)
  have w : iv3 5 2 = 0 ↔ e.2.1 = 0 := CT_1 ha3.2.1 ha3.2.2 0 (by omega)
  by_cases q : e.2.1 = 0
  · have h3 : zEnd e.1 e.2 = .inr e.1 := if_pos q
    refine ⟨fun f h => ?_, fun e' h => ?_⟩
    · rw [zAll, zbd_r h0, zbd_r h1, zbd_r h2, h3] at h; cases h
    · rw [zAll, zbd_r h0, zbd_r h1, zbd_r h2, h3] at h; cases h
      refine ⟨iv3, by rw [r2, d1, b72_109 hL, if_pos (w.mpr q), b72_124, b72_129, pm_zr1], (ZG_tr G0 (ZG_tr b2 (ZG_tr c2 d2))).1, (ZG_tr G0 (ZG_tr b2 (ZG_tr c2 d2))).2.2.1, d3, d4⟩
  · have h3 : zEnd e.1 e.2 = .inl (1, e.2.2.1) := if_neg q
    refine ⟨fun f h => ?_, fun e' h => ?_⟩
    · rw [zAll, zbd_r h0, zbd_r h1, zbd_r h2, h3] at h; cases h
      obtain ⟨iv4, s1, s2⟩ := t_fail (X := X) (k := 1) (show 1 ≤ d by omega) hL ha3.2.1
      rw [show nI 1 = 1 from rfl] at s1
      exact ⟨iv4, by rw [r2, d1, b72_109 hL, if_neg (fun u => q (w.mp u)), b72_116 hL, s1, pm_then_i, b72_121, if_pos rfl, b72_128, b72_129, pm_zr0], ZE_tr G0 (ZE_tr b2 (ZE_tr c2 (ZE_tr d2 (ZE_mo s2 mo))))⟩
    · rw [zAll, zbd_r h0, zbd_r h1, zbd_r h2, h3] at h; cases h
end Z9
