/-! the class reads a text -/
/-- it failed with f -/
def ZE (L : List Nat) (iv iv' : pm_V) (f : Nat × Nat) : Prop := chg L iv iv' ∧ iv' 5 6 = nI f.1 ∧ iv' 5 7 = nI f.2
/-- it goes on at c -/
def ZG (L : List Nat) (T : Nat → Nat) (n : Nat) (iv iv' : pm_V) (c : ZT) : Prop := chg L iv iv' ∧ iv' 5 1 = iv 5 1 ∧ iv' 5 6 = iv 5 6 ∧ CT T iv' c ∧ Zok T n c
/-- and stands at c -/
def ZA (T : Nat → Nat) (n : Nat) (iv : pm_V) (c : ZT) : Prop := ZX T n iv ∧ CT T iv c ∧ Zok T n c
def trL : List Nat := [5, 21, 22, 23, 24, 25, 26, 27]
theorem ZG_A {L : List Nat} {T : Nat → Nat} {n : Nat} {iv iv' : pm_V} {c e : ZT} (h : ZG L T n iv iv' e) (ha : ZA T n iv c) (h6 : 6 ∉ L) : ZA T n iv' e := ⟨ZX_fr ha.1 h.2.1 (h.1 6 h6), h.2.2.2⟩
theorem ZG_tr {L : List Nat} {T : Nat → Nat} {n : Nat} {a b : pm_V} {iv' : pm_V} {c e : ZT} (h : ZG L T n a b c) (h2 : ZG L T n b iv' e) : ZG L T n a iv' e := ⟨chg_tr h.1 h2.1, h2.2.1.trans h.2.1, h2.2.2.1.trans h.2.2.1, h2.2.2.2⟩
theorem ZE_tr {L : List Nat} {T : Nat → Nat} {n : Nat} {a b : pm_V} {iv' : pm_V} {c : ZT} {f : Nat × Nat} (h : ZG L T n a b c) (h2 : ZE L b iv' f) : ZE L a iv' f := ⟨chg_tr h.1 h2.1, h2.2⟩
theorem ZG_mo {L M : List Nat} {T : Nat → Nat} {n : Nat} {a b : pm_V} {c : ZT} (h : ZG L T n a b c) (hs : ∀ c, c ∈ L → c ∈ M) : ZG M T n a b c := ⟨chg_mo h.1 hs, h.2⟩
theorem ZE_mo {L M : List Nat} {a b : pm_V} {f : Nat × Nat} (h : ZE L a b f) (hs : ∀ c, c ∈ L → c ∈ M) : ZE M a b f := ⟨chg_mo h.1 hs, h.2⟩
section Z8
variable {X : pm_X} {d n : Nat} {g : pm_G} {iv : pm_V} {T : Nat → Nat} {c : ZT} {v : HV}
theorem t_fail {k : Nat} (hd : 1 ≤ d) (hL : pm_lay g) (hc : CT T iv c) : ∃ iv', pm_c X d 81 [.ref 5, .int (nI k)] g iv = some (some (.int 0), g, iv') ∧ ZE [5] iv iv' (k, c.2.1) := by
  obtain ⟨d, rfl, -⟩ := pm_d1 hd
  refine ⟨_, by rw [e81, b81_0 hL], chg_tr (chg_iw (by decide)) (chg_iw (by decide)), ?_, ?_⟩
  · rw [iw_s, upd_n (by decide), iw_s, upd_s]
  · rw [iw_s, upd_s, iw_s, upd_n (by decide), hc.2.1]
theorem t_go (hd : 3 ≤ d) (hL : pm_lay g) (hn : n ≤ 400) (hb : ∀ i, i < n → T i < 256) (ha : ZA T n iv c) : ∃ iv', pm_c X d 83 [.ref 5] g iv = some (none, g, iv') ∧ ZG [5] T n iv iv' (znx T n c) := by
  obtain ⟨iv', a1, a2, a3, a4⟩ := t_stp (X := X) hd hL hn hb ha.1 ha.2.1.2.2.1 ha.2.2.2.2.1
  exact ⟨iv', a1, a2, a3 1 (Or.inl rfl), a3 6 (Or.inr (Or.inl rfl)), a4, Zok_tk ha.2.2.2.2.1⟩
theorem t_takeWord {i : Nat} (hd : 6 ≤ d) (hL : pm_lay g) (hxg : pm_xg g) (hn : n ≤ 400) (hb : ∀ i, i < n → T i < 256) (ha : ZA T n iv c) (hi : i < 8) :
    (∀ f, zWrd T n i c = .inl f → ∃ iv', pm_c X d 76 [.ref 5, .ref (1000 + i)] g iv = some (some (.int 0), g, iv') ∧ ZE [5] iv iv' f) ∧ (∀ e, zWrd T n i c = .inr e → ∃ iv', pm_c X d 76 [.ref 5, .ref (1000 + i)] g iv = some (some (.int 1), g, iv') ∧ ZG [5] T n iv iv' e) := by
  obtain ⟨d, rfl, hd1⟩ := pm_d1 hd
  have w := t_isW (X := X) hd1 hL hxg hn hb ha.1 ha.2.1 ha.2.2 hi
  unfold zWrd
  by_cases q : zis T i c = true
  · rw [if_pos q]
    rw [if_pos q] at w
    refine ⟨fun f h => (by cases h), fun e h => ?_⟩
    cases h
    obtain ⟨iv', a1, a2⟩ := t_go (X := X) (show 3 ≤ d by omega) hL hn hb ha
    exact ⟨iv', by rw [e76, b76_0 hL, w, pm_then_i, b76_5, if_pos (by decide), b76_14 hL, a1, pm_then_v, b76_18], a2⟩
  · rw [if_neg q]
    rw [if_neg q] at w
    refine ⟨fun f h => ?_, fun e h => (by cases h)⟩
    cases h
    obtain ⟨iv', a1, a2⟩ := t_fail (X := X) (k := 1) (show 1 ≤ d by omega) hL ha.2.1
    rw [show nI 1 = 1 from rfl] at a1
    exact ⟨iv', by rw [e76, b76_0 hL, w, pm_then_i, b76_5, if_neg (by decide), b76_8 hL, a1, pm_then_i, b76_13, pm_zr0], a2⟩
theorem CT_1 (hc : CT T iv c) (hz : Zok T n c) (k : Nat) (hk : k ≤ 4) : iv 5 2 = nI k ↔ c.1 = k := by
  rw [hc.1]
  exact nI_eq (by have := hz.1; omega) (by omega)
theorem t_takeSign (hd : 4 ≤ d) (hL : pm_lay g) (hn : n ≤ 400) (hb : ∀ i, i < n → T i < 256) (ha : ZA T n iv c) :
    (∀ f, zSgn T n c = .inl f → ∃ iv', pm_c X d 77 [.ref 5] g iv = some (some (.int 0), g, iv') ∧ ZE [5] iv iv' f) ∧ (∀ e, zSgn T n c = .inr e → ∃ iv', pm_c X d 77 [.ref 5] g iv = some (some (.int 1), g, iv') ∧ ZG [5] T n iv iv' e) := by
  obtain ⟨d, rfl, hd1⟩ := pm_d1 hd
  have w : iv 5 2 = 3 ↔ c.1 = 3 := CT_1 ha.2.1 ha.2.2 3 (by omega)
  unfold zSgn
  by_cases q : c.1 = 3
  · rw [if_pos q]
    refine ⟨fun f h => (by cases h), fun e h => ?_⟩
    cases h
    obtain ⟨iv', a1, a2⟩ := t_go (X := X) (show 3 ≤ d by omega) hL hn hb ha
    exact ⟨iv', by rw [e77, b77_0 hL, if_pos (w.mpr q), b77_14 hL, a1, pm_then_v, b77_18], a2⟩
  · rw [if_neg q]
    refine ⟨fun f h => ?_, fun e h => (by cases h)⟩
    cases h
    obtain ⟨iv', a1, a2⟩ := t_fail (X := X) (k := 1) (show 1 ≤ d by omega) hL ha.2.1
    rw [show nI 1 = 1 from rfl] at a1
    exact ⟨iv', by rw [e77, b77_0 hL, if_neg (fun u => q (w.mp u)), b77_8 hL, a1, pm_then_i, b77_13, pm_zr0], a2⟩
theorem zval_lt (hz : Zok T n c) (h2 : c.1 = 2) : zval T c < 1000 := by
  obtain ⟨z0, z1, z2, z3, z4⟩ := hz
  obtain ⟨q1, q2⟩ := z4 h2
  have h := zdv_lt (T := T) (s := c.2.1) (c.2.2 - c.2.1) q1 (fun j hj => q2 _ (by omega) (by omega))
  exact Nat.lt_of_lt_of_le h (Nat.le_trans (Nat.pow_le_pow_right (by decide) q1) (by decide))
theorem t_takeNumber {lo hi : Nat} (hd : 4 ≤ d) (hL : pm_lay g) (hn : n ≤ 400) (hb : ∀ i, i < n → T i < 256) (ha : ZA T n iv c) (hlo : lo < 1000) (hhi : hi < 1000) :
    (∀ f, zNum T n lo hi c = .inl f → ∃ iv', pm_c X d 78 [.ref 5, .int (nI lo), .int (nI hi)] g iv = some (some (.int (-1)), g, iv') ∧ ZE [5] iv iv' f) ∧ (∀ e, zNum T n lo hi c = .inr e → ∃ iv', pm_c X d 78 [.ref 5, .int (nI lo), .int (nI hi)] g iv = some (some (.int (nI e.1)), g, iv') ∧ ZG [5] T n iv iv' e.2) := by
  obtain ⟨d, rfl, hd1⟩ := pm_d1 hd
  have w : iv 5 2 = 2 ↔ c.1 = 2 := CT_1 ha.2.1 ha.2.2 2 (by omega)
  obtain ⟨iv1, f1, g1⟩ := t_fail (X := X) (k := 1) (show 1 ≤ d by omega) hL ha.2.1
  obtain ⟨iv2, f2, g2⟩ := t_fail (X := X) (k := 2) (show 1 ≤ d by omega) hL ha.2.1
  rw [show nI 1 = 1 from rfl] at f1
  rw [show nI 2 = 2 from rfl] at f2
  unfold zNum
  by_cases q : c.1 = 2
  · have hv := zval_lt ha.2.2 q
    have ev : iv 5 5 = nI (zval T c) := ha.2.1.2.2.2 q
    have bad : pm_at X d 78 (24, [some (.ref 5), some (.int (nI lo)), some (.int (nI hi)), none], [], g, iv) = some (some (.int (-1)), g, iv2) := by
      rw [b78_24 hL, if_neg (not_not_intro (w.mpr q)), b78_33, b78_38 hL, f2, pm_then_i, b78_41]
    rw [if_pos q]
    by_cases q1 : lo ≤ zval T c
    · by_cases q2 : zval T c ≤ hi
      · rw [if_pos ⟨q1, q2⟩]
        refine ⟨fun f h => (by cases h), fun e h => ?_⟩
        cases h
        obtain ⟨iv', a1, a2⟩ := t_go (X := X) (show 3 ≤ d by omega) hL hn hb ha
        exact ⟨iv', by rw [e78, b78_0 hL, if_neg (not_not_intro (w.mpr q)), b78_8 hL, ev, if_neg (by rw [nI_lt' (by omega) (by omega)]; omega), b78_16 hL, ev, if_pos (by rw [nI_le' (by omega) (by omega)]; omega), b78_44 hL, a1, pm_then_v, b78_53, ev], a2⟩
      · rw [if_neg (fun u => q2 u.2)]
        refine ⟨fun f h => ?_, fun e h => (by cases h)⟩
        cases h
        exact ⟨iv2, by rw [e78, b78_0 hL, if_neg (not_not_intro (w.mpr q)), b78_8 hL, ev, if_neg (by rw [nI_lt' (by omega) (by omega)]; omega), b78_16 hL, ev, if_neg (by rw [nI_le' (by omega) (by omega)]; omega), bad], g2⟩
    · rw [if_neg (fun u => q1 u.1)]
      refine ⟨fun f h => ?_, fun e h => (by cases h)⟩
      cases h
      exact ⟨iv2, by rw [e78, b78_0 hL, if_neg (not_not_intro (w.mpr q)), b78_8 hL, ev, if_pos (by rw [nI_lt' (by omega) (by omega)]; omega), bad], g2⟩
  · rw [if_neg q]
    refine ⟨fun f h => ?_, fun e h => (by cases h)⟩
    cases h
    exact ⟨iv1, by rw [e78, b78_0 hL, if_pos (fun u => q (w.mp u)), b78_24 hL, if_pos (fun u => q (w.mp u)), b78_37, b78_38 hL, f1, pm_then_i, b78_41], g1⟩
theorem t_takeKind (hd : 7 ≤ d) (hL : pm_lay g) (hxg : pm_xg g) (hn : n ≤ 400) (hb : ∀ i, i < n → T i < 256) (ha : ZA T n iv c) :
    (∀ f, zKnd T n c = .inl f → ∃ iv', pm_c X d 79 [.ref 5] g iv = some (some (.int (-1)), g, iv') ∧ ZE [5] iv iv' f) ∧ (∀ e, zKnd T n c = .inr e → ∃ iv', pm_c X d 79 [.ref 5] g iv = some (some (.int (nI e.1)), g, iv') ∧ ZG [5] T n iv iv' e.2 ∧ 1 ≤ e.1 ∧ e.1 ≤ 5) := by
  obtain ⟨d, rfl, hd1⟩ := pm_d1 hd
  have w := t_kind (X := X) hd1 hL hxg hn hb ha.1 ha.2.1 ha.2.2
  have h5 := zkd_le (T := T) (c := c)
  unfold zKnd
  by_cases q : zkd T c = 0
  · rw [if_pos q]
    rw [if_pos q] at w
    refine ⟨fun f h => ?_, fun e h => (by cases h)⟩
    cases h
    obtain ⟨iv', a1, a2⟩ := t_fail (X := X) (k := 1) (show 1 ≤ d by omega) hL ha.2.1
    rw [show nI 1 = 1 from rfl] at a1
    exact ⟨iv', by rw [e79, b79_0 hL, w, pm_then_i, b79_4, if_neg (not_not_intro rfl), b79_10 hL, a1, pm_then_i, b79_15, b79_23], a2⟩
  · rw [if_neg q]
    rw [if_neg q] at w
    refine ⟨fun f h => (by cases h), fun e h => ?_⟩
    cases h
    obtain ⟨iv', a1, a2⟩ := t_go (X := X) (show 3 ≤ d by omega) hL hn hb ha
    have nn : ¬ nI (zkd T c) = -1 := fun e => by
      have := congrArg Int32.toInt e
      rw [nI_t (by omega), toIm1] at this
      omega
    exact ⟨iv', by rw [e79, b79_0 hL, w, pm_then_i, b79_4, if_pos nn, b79_19 hL, a1, pm_then_v, b79_23], a2, by show 1 ≤ zkd T c; omega, h5⟩
theorem nI_nm {a : Nat} (h : a < 1000) : ¬ nI a = -1 := fun e => by
  have := congrArg Int32.toInt e
  rw [nI_t (by omega), toIm1] at this
  omega
theorem c5t {iv iv' : pm_V} {k : Nat} (h : chg [5] iv iv') (hz : ZS iv 21 v) : ZS iv' 21 v := ⟨SV_fr hz.1 (fun c a b => h c (by simp only [List.mem_cons, List.not_mem_nil, or_false]; omega)), fun j hj => by rw [h 27 (by decide)]; exact hz.2 j hj⟩
theorem t_readSlope (hd : 7 ≤ d) (hL : pm_lay g) (hxg : pm_xg g) (hn : n ≤ 400) (hb : ∀ i, i < n → T i < 256) (ha : ZA T n iv c) :
    (∀ f, zSlp T n c = .inl f → ∃ iv', pm_c X d 73 [.ref 5, .ref 21] g iv = some (some (.int 0), g, iv') ∧ ZE trL iv iv' f) ∧ (∀ e, zSlp T n c = .inr e → ∃ iv', pm_c X d 73 [.ref 5, .ref 21] g iv = some (some (.int 1), g, iv') ∧ ZG trL T n iv iv' e.2 ∧ ZS iv' 21 e.1 ∧ Zv e.1 ∧ vN e.1 = 0) := by
  obtain ⟨d, rfl, hd1⟩ := pm_d1 hd
  have hK := lay_trial hL
  have mo : ∀ c, c ∈ [5] → c ∈ trL := by decide
  have w0 := t_takeWord (X := X) (i := 0) hd1 hL hxg hn hb ha (by decide)
  cases h0 : zWrd T n 0 c with
  | inl f0 =>
    obtain ⟨iv1, a1, a2⟩ := w0.1 f0 h0
    refine ⟨fun f h => ?_, fun e h => ?_⟩
    · rw [zSlp, zbd_l h0] at h; cases h
      exact ⟨iv1, by rw [e73, b73_0 hL, show (1000 : Nat) = 1000 + 0 from rfl, a1, pm_then_i, b73_6, if_neg (by decide), b73_9], ZE_mo a2 mo⟩
    · rw [zSlp, zbd_l h0] at h; cases h
  | inr c1 =>
    obtain ⟨iv1, a1, a2⟩ := w0.2 c1 h0
    have ha1 := ZG_A a2 ha (by decide)
    have w1 := t_takeNumber (X := X) (lo := 1) (hi := 4) (show 4 ≤ d by omega) hL hn hb ha1 (by decide) (by decide)
    have r1 : pm_c X (d + 1) 73 [.ref 5, .ref 21] g iv = pm_then X d 73 17 [some (.ref 5), some (.ref 21), none, none] [] (pm_c X d 78 [.ref 5, .int 1, .int 4] g iv1) := by
      rw [e73, b73_0 hL, show (1000 : Nat) = 1000 + 0 from rfl, a1, pm_then_i, b73_6, if_pos (by decide), b73_11 hL]
    cases h1 : zNum T n 1 4 c1 with
    | inl f1 =>
      obtain ⟨iv2, b1, b2⟩ := w1.1 f1 h1
      refine ⟨fun f h => ?_, fun e h => ?_⟩
      · rw [zSlp, zbd_r h0, zbd_l h1] at h; cases h
        exact ⟨iv2, by rw [r1, show (1 : Int32) = nI 1 from rfl, show (4 : Int32) = nI 4 from rfl, b1, pm_then_i, b73_17, if_neg (not_not_intro rfl), b73_23, b73_34, if_neg (not_not_intro rfl), b73_40], ZE_mo (ZE_tr a2 b2) mo⟩
      · rw [zSlp, zbd_r h0, zbd_l h1] at h; cases h
    | inr p =>
      obtain ⟨iv2, b1, b2⟩ := w1.2 p h1
      obtain ⟨-, -, p1, p2⟩ := zNum_i h1
      have ha2 := ZG_A b2 ha1 (by decide)
      have w2 := t_takeNumber (X := X) (lo := 4) (hi := 20) (show 4 ≤ d by omega) hL hn hb ha2 (by decide) (by decide)
      have r2 : pm_c X (d + 1) 73 [.ref 5, .ref 21] g iv = pm_then X d 73 34 [some (.ref 5), some (.ref 21), some (.int (nI p.1)), none] [] (pm_c X d 78 [.ref 5, .int 4, .int 20] g iv2) := by
        rw [r1, show pm_c X d 78 [.ref 5, .int 1, .int 4] g iv1 = _ from b1, pm_then_i, b73_17, if_pos (nI_nm (by omega)), b73_27 hL]
      cases h2 : zNum T n 4 20 p.2 with
      | inl f2 =>
        obtain ⟨iv3, d1, d2⟩ := w2.1 f2 h2
        refine ⟨fun f h => ?_, fun e h => ?_⟩
        · rw [zSlp, zbd_r h0, zbd_r h1, zbd_l h2] at h; cases h
          exact ⟨iv3, by rw [r2, show pm_c X d 78 [.ref 5, .int 4, .int 20] g iv2 = _ from d1, pm_then_i, b73_34, if_neg (not_not_intro rfl), b73_40], ZE_mo (ZE_tr a2 (ZE_tr b2 d2)) mo⟩
        · rw [zSlp, zbd_r h0, zbd_r h1, zbd_l h2] at h; cases h
      | inr q =>
        obtain ⟨iv3, d1, d2⟩ := w2.2 q h2
        obtain ⟨-, -, q1, q2⟩ := zNum_i h2
        have ha3 := ZG_A d2 ha2 (by decide)
        obtain ⟨iv4, l1, l2, l3⟩ := t_layOut (X := X) (d := d) (iv := iv3) (L := p.1) (D := q.1) (by omega) hK
        have f5 : iv4 5 = iv3 5 := l2 5 (by decide)
        have hG4 : ZG trL T n iv iv4 q.2 := ⟨chg_tr (chg_mo a2.1 mo) (chg_tr (chg_mo b2.1 mo) (chg_tr (chg_mo d2.1 mo) (chg_mo l2 (by decide)))), by rw [f5, d2.2.1, b2.2.1, a2.2.1], by rw [f5, d2.2.2.1, b2.2.2.1, a2.2.2.1], by unfold CT; rw [f5]; exact d2.2.2.2.1, d2.2.2.2.2⟩
        have ha4 := ZG_A hG4 ha (by decide)
        have w3 := t_takeSign (X := X) (show 4 ≤ d by omega) hL hn hb ha4
        have r3 : pm_c X (d + 1) 73 [.ref 5, .ref 21] g iv = pm_then X d 73 52 [some (.ref 5), some (.ref 21), some (.int (nI p.1)), some (.int (nI q.1))] [] (pm_c X d 77 [.ref 5] g iv4) := by
          rw [r2, show pm_c X d 78 [.ref 5, .int 4, .int 20] g iv2 = _ from d1, pm_then_i, b73_34, if_pos (nI_nm (by omega)), b73_42 hK, l1, pm_then_v, b73_48 hL]
        cases h3 : zSgn T n q.2 with
        | inl f3 =>
          obtain ⟨iv5, s1, s2⟩ := w3.1 f3 h3
          refine ⟨fun f h => ?_, fun e h => ?_⟩
          · rw [zSlp, zbd_r h0, zbd_r h1, zbd_r h2, zbd_l h3] at h; cases h
            exact ⟨iv5, by rw [r3, s1, pm_then_i, b73_52, pm_zr0], ZE_tr hG4 (ZE_mo s2 mo)⟩
          · rw [zSlp, zbd_r h0, zbd_r h1, zbd_r h2, zbd_l h3] at h; cases h
        | inr c4 =>
          obtain ⟨iv5, s1, s2⟩ := w3.2 c4 h3
          refine ⟨fun f h => ?_, fun e h => ?_⟩
          · rw [zSlp, zbd_r h0, zbd_r h1, zbd_r h2, zbd_r h3] at h; cases h
          · rw [zSlp, zbd_r h0, zbd_r h1, zbd_r h2, zbd_r h3] at h; cases h
            exact ⟨iv5, by rw [r3, s1, pm_then_i, b73_52, pm_zr1], ZG_tr hG4 (ZG_mo s2 mo), c5t (k := 0) s2.1 l3, Zv_nw p1 p2 (by omega) q2, rfl⟩
theorem t_readStone (hd : 5 ≤ d) (hL : pm_lay g) (hn : n ≤ 400) (hb : ∀ i, i < n → T i < 256) (ha : ZA T n iv c) (hs : ZS iv 21 v) (hz : Zv v) (hN : vN v = 0) :
    (∀ f, zStn T n v c = .inl f → ∃ iv', pm_c X d 74 [.ref 5, .ref 21] g iv = some (some (.int 0), g, iv') ∧ ZE trL iv iv' f) ∧ (∀ e, zStn T n v c = .inr e → ∃ iv', pm_c X d 74 [.ref 5, .ref 21] g iv = some (some (.int 1), g, iv') ∧ ZG trL T n iv iv' e.2 ∧ ZS iv' 21 e.1 ∧ Zv e.1 ∧ vN e.1 = 0) := by
  obtain ⟨d, rfl, hd1⟩ := pm_d1 hd
  have hK := lay_trial hL
  have mo : ∀ c, c ∈ [5] → c ∈ trL := by decide
  have ho := hz.2.2.1
  have hL4 := ho.1
  have hD20 := ho.2.1
  have hL1 := hz.1
  have hD1 := hz.2.1
  obtain ⟨iv0, a1, a2⟩ := t_go (X := X) (show 3 ≤ d by omega) hL hn hb ha
  have ha1 := ZG_A a2 ha (by decide)
  have hs1 := c5t (k := 0) a2.1 hs
  have eL : nI (vL v) - 1 = nI (vL v - 1) := pk_sub (a := vL v) (b := 1) hL1
  have eD : nI (vD v) - 1 = nI (vD v - 1) := pk_sub (a := vD v) (b := 1) hD1
  have w1 := t_takeNumber (X := X) (lo := 0) (hi := vL v - 1) (show 4 ≤ d by omega) hL hn hb ha1 (by decide) (by omega)
  have r1 : pm_c X (d + 1) 74 [.ref 5, .ref 21] g iv = pm_then X d 74 15 [some (.ref 5), some (.ref 21), none, none] [] (pm_c X d 78 [.ref 5, .int (nI 0), .int (nI (vL v - 1))] g iv0) := by
    rw [e74, b74_0 hL, a1, pm_then_v, b74_4 hK, t_laneCount (by omega) hK, pm_then_i, b74_10 hL, hs1.1.1, eL]
    rfl
  cases h1 : zNum T n 0 (vL v - 1) (znx T n c) with
  | inl f1 =>
    obtain ⟨iv2, b1, b2⟩ := w1.1 f1 h1
    refine ⟨fun f h => ?_, fun e h => ?_⟩
    · rw [zStn, zbd_l h1] at h; cases h
      exact ⟨iv2, by rw [r1, b1, pm_then_i, b74_15, if_neg (not_not_intro rfl), b74_21, b74_36, if_neg (not_not_intro rfl), b74_42], ZE_mo (ZE_tr a2 b2) mo⟩
    · rw [zStn, zbd_l h1] at h; cases h
  | inr p =>
    obtain ⟨iv2, b1, b2⟩ := w1.2 p h1
    obtain ⟨-, -, p1, p2⟩ := zNum_i h1
    have ha2 := ZG_A b2 ha1 (by decide)
    have hs2 := c5t (k := 0) b2.1 hs1
    have w2 := t_takeNumber (X := X) (lo := 0) (hi := vD v - 1) (show 4 ≤ d by omega) hL hn hb ha2 (by decide) (by omega)
    have r2 : pm_c X (d + 1) 74 [.ref 5, .ref 21] g iv = pm_then X d 74 36 [some (.ref 5), some (.ref 21), some (.int (nI p.1)), none] [] (pm_c X d 78 [.ref 5, .int (nI 0), .int (nI (vD v - 1))] g iv2) := by
      rw [r1, b1, pm_then_i, b74_15, if_pos (nI_nm (by omega)), b74_25 hK, t_yardCount (by omega) hK, pm_then_i, b74_31 hL, hs2.1.2.1, eD]
      rfl
    cases h2 : zNum T n 0 (vD v - 1) p.2 with
    | inl f2 =>
      obtain ⟨iv3, d1, d2⟩ := w2.1 f2 h2
      refine ⟨fun f h => ?_, fun e h => ?_⟩
      · rw [zStn, zbd_r h1, zbd_l h2] at h; cases h
        exact ⟨iv3, by rw [r2, d1, pm_then_i, b74_36, if_neg (not_not_intro rfl), b74_42], ZE_mo (ZE_tr a2 (ZE_tr b2 d2)) mo⟩
      · rw [zStn, zbd_r h1, zbd_l h2] at h; cases h
    | inr q =>
      obtain ⟨iv3, d1, d2⟩ := w2.2 q h2
      obtain ⟨-, -, q1, q2⟩ := zNum_i h2
      have ha3 := ZG_A d2 ha2 (by decide)
      have hs3 := c5t (k := 0) d2.1 hs2
      obtain ⟨iv4, l1, l2, l3⟩ := t_addStone (X := X) (d := d) (l := p.1) (y := q.1) (by omega) hK hs3 ho (by omega) (by omega)
      have f5 : iv4 5 = iv3 5 := l2 5 (by decide)
      have hG4 : ZG trL T n iv iv4 q.2 := ⟨chg_tr (chg_mo a2.1 mo) (chg_tr (chg_mo b2.1 mo) (chg_tr (chg_mo d2.1 mo) (chg_mo l2 (by decide)))), by rw [f5, d2.2.1, b2.2.1, a2.2.1], by rw [f5, d2.2.2.1, b2.2.2.1, a2.2.2.1], by unfold CT; rw [f5]; exact d2.2.2.2.1, d2.2.2.2.2⟩
      have ha4 := ZG_A hG4 ha (by decide)
      have w3 := t_takeSign (X := X) (show 4 ≤ d by omega) hL hn hb ha4
      have r3 : pm_c X (d + 1) 74 [.ref 5, .ref 21] g iv = pm_then X d 74 54 [some (.ref 5), some (.ref 21), some (.int (nI p.1)), some (.int (nI q.1))] [] (pm_c X d 77 [.ref 5] g iv4) := by
        rw [r2, d1, pm_then_i, b74_36, if_pos (nI_nm (by omega)), b74_44 hK, l1, pm_then_v, b74_50 hL]
      cases h3 : zSgn T n q.2 with
      | inl f3 =>
        obtain ⟨iv5, s1, s2⟩ := w3.1 f3 h3
        refine ⟨fun f h => ?_, fun e h => ?_⟩
        · rw [zStn, zbd_r h1, zbd_r h2, zbd_l h3] at h; cases h
          exact ⟨iv5, by rw [r3, s1, pm_then_i, b74_54, pm_zr0], ZE_tr hG4 (ZE_mo s2 mo)⟩
        · rw [zStn, zbd_r h1, zbd_r h2, zbd_l h3] at h; cases h
      | inr c4 =>
        obtain ⟨iv5, s1, s2⟩ := w3.2 c4 h3
        refine ⟨fun f h => ?_, fun e h => ?_⟩
        · rw [zStn, zbd_r h1, zbd_r h2, zbd_r h3] at h; cases h
        · rw [zStn, zbd_r h1, zbd_r h2, zbd_r h3] at h; cases h
          exact ⟨iv5, by rw [r3, s1, pm_then_i, b74_54, pm_zr1], ZG_tr hG4 (ZG_mo s2 mo), c5t (k := 0) s2.1 l3, Zv_aS hz hN (by omega) (by omega), hN⟩
end Z8
