/-! acts: kept, taken back -/
theorem cpI {f f' : Nat → Int32} {sp dp n i : Nat} (h : dp ≤ i ∧ i < dp + n) : va_cpy f f' sp dp n i = f (sp + (i - dp)) := if_pos h
theorem cpO {f f' : Nat → Int32} {sp dp n i : Nat} (h : i < dp ∨ dp + n ≤ i) : va_cpy f f' sp dp n i = f' i := if_neg (by omega)
theorem AR_fr {f f' : Nat → Int32} {b : Nat} {u : HV} (h : AR f b u) (hu : vN u ≤ 6) (e : ∀ j, b ≤ j → j < b + 20 → f' j = f j) : AR f' b u := by
  refine ⟨by rw [e b (by omega) (by omega)]; exact h.1, fun i hi => by rw [e (b + 1) (by omega) (by omega)]; exact h.2.1 i hi, fun q hq => ?_⟩
  rw [e (b + 2 + q) (by omega) (by omega), e (b + 8 + q) (by omega) (by omega), e (b + 14 + q) (by omega) (by omega)]
  exact h.2.2 q hq
theorem HAr_fr {f f' : Nat → Int32} {u : HV} (h : HAr f u) (hu : vN u ≤ 6) (e : ∀ j, j < 45 → f' j = f j) : HAr f' u := by
  refine ⟨by rw [e 0 (by omega)]; exact h.1, by rw [e 1 (by omega)]; exact h.2.1, by rw [e 3 (by omega)]; exact h.2.2.1, by rw [e 4 (by omega)]; exact h.2.2.2.1, fun l hl i hi => by rw [e (5 + l) (by omega)]; exact h.2.2.2.2.1 l hl i hi, fun q hq => ?_⟩
  have := h.2.2.2.2.2 q hq
  rw [e (9 + 6 * q) (by omega), e (9 + 6 * q + 1) (by omega), e (9 + 6 * q + 2) (by omega), e (9 + 6 * q + 3) (by omega), e (9 + 6 * q + 4) (by omega), e (9 + 6 * q + 5) (by omega)]
  exact this
section Q55
variable {X : pm_X} {d k : Nat} {g : pm_G} {iv : pm_V} {v u : HV} {x y z : Int32} {b : Nat}
theorem at_b (hb : b ≤ 460) : ¬ nI b < 0 ∧ nI b ≤ (Int32.ofNat 480) - 20 := by
  refine ⟨nI_pos (by omega), ?_⟩
  have e : (Int32.ofNat 480) - 20 = nI 460 := by decide
  rw [e]
  exact nI_le (by omega) (by omega)
theorem t_writeTo (hd : 1 ≤ d) (hL : pm_lay g) (hv : SV iv 11 v) (ho : Hok v) (hb : b ≤ 460) : ∃ iv', pm_c X d 53 [.ref 11, .ref 8, .int (nI b)] g iv = some (none, g, iv') ∧ chg [8] iv iv' ∧ AR (iv' 8) b v ∧ ∀ j, j < b ∨ b + 20 ≤ j → iv' 8 j = iv 8 j := by
  obtain ⟨d, rfl, hd1⟩ := pm_d1 hd
  have hN := ho.2.2.1
  obtain ⟨n0, n1⟩ := at_b hb
  have e1 : nI b + 1 = nI (b + 1) := nI_1 b
  have e2 : nI b + 2 = nI (b + 2) := nI_add b 2
  have e8 : nI b + 2 + 6 = nI (b + 8) := by rw [e2]; exact nI_add (b + 2) 6
  have e14 : nI b + 2 + 12 = nI (b + 14) := by rw [e2]; exact nI_add (b + 2) 12
  have z0 : (0 : Int32).toNatClampNeg = 0 := rfl
  have z6 : (6 : Int32).toNatClampNeg = 6 := rfl
  have nn0 : ¬ (0 : Int32) < 0 := by decide
  have nn6 : ¬ (6 : Int32) < 0 := by decide
  rw [e53, b53_0, if_neg n0, b53_4 hL, if_pos n1, b53_14 hL (lay_now hL) (vp_n (by omega) (by decide)) (by rw [e1]; exact vp_n (by omega) (by decide)) (by rw [e2, nI_c (by omega), z0, z6]; exact ⟨nn0, nI_pos (by omega), nn6, by omega, by omega⟩) (by rw [e8, nI_c (by omega), z0, z6]; exact ⟨nn0, nI_pos (by omega), nn6, by omega, by omega⟩) (by rw [e14, nI_c (by omega), z0, z6]; exact ⟨nn0, nI_pos (by omega), nn6, by omega, by omega⟩)]
  rw [e1, e8, e14, e2, nI_c (by omega), nI_c (by omega), nI_c (by omega), nI_c (by omega), nI_c (by omega)]
  refine ⟨_, rfl, ?_, ?_, ?_⟩
  · intro c hc
    simp only [List.mem_cons, List.not_mem_nil, or_false] at hc
    simp only [ir_n hc, iw_n hc]
  · unfold AR
    simp (disch := omega) only [iw_n, ir_n, iw_s, ir_s, upd_s, upd_n, cpO]
    refine ⟨hv.2.2.2.1, hv.2.2.2.2.1, fun h hh => ?_⟩
    simp (disch := omega) only [cpO, cpI]
    rw [show 0 + (b + 2 + h - (b + 2)) = h by omega, show 0 + (b + 8 + h - (b + 8)) = h by omega, show 0 + (b + 14 + h - (b + 14)) = h by omega]
    have := hv.2.2.2.2.2.2 h hh
    exact ⟨this.2.2.1, this.2.2.2.1, this.2.2.2.2⟩
  · intro j hj
    simp (disch := omega) only [iw_n, ir_n, iw_s, ir_s, upd_s, upd_n, cpO]
theorem t_readFrom (hd : 1 ≤ d) (hL : pm_lay g) (hv : SV iv 11 v) (hu : Hok u) (hs : Sta u v) (ha : AR (iv 8) b u) (hb : b ≤ 460) : ∃ iv', pm_c X d 54 [.ref 11, .ref 8, .int (nI b)] g iv = some (none, g, iv') ∧ chg [11, 15, 16, 17] iv iv' ∧ SV iv' 11 u := by
  obtain ⟨d, rfl, hd1⟩ := pm_d1 hd
  have hN := hu.2.2.1
  obtain ⟨n0, n1⟩ := at_b hb
  obtain ⟨s1, s2, s3, s4, s5, s6⟩ := hs
  have e1 : nI b + 1 = nI (b + 1) := nI_1 b
  have e2 : nI b + 2 = nI (b + 2) := nI_add b 2
  have e8 : nI b + 2 + 6 = nI (b + 8) := by rw [e2]; exact nI_add (b + 2) 6
  have e14 : nI b + 2 + 12 = nI (b + 14) := by rw [e2]; exact nI_add (b + 2) 12
  have z0 : (0 : Int32).toNatClampNeg = 0 := rfl
  have z6 : (6 : Int32).toNatClampNeg = 6 := rfl
  have nn0 : ¬ (0 : Int32) < 0 := by decide
  have nn6 : ¬ (6 : Int32) < 0 := by decide
  rw [e54, b54_0, if_neg n0, b54_4 hL, if_pos n1, b54_14 hL (lay_now hL) (vp_n (by omega) (by decide)) (by rw [e1]; exact vp_n (by omega) (by decide)) (by rw [e2, nI_c (by omega), z0, z6]; exact ⟨nI_pos (by omega), nn0, nn6, by omega, by omega⟩) (by rw [e8, nI_c (by omega), z0, z6]; exact ⟨nI_pos (by omega), nn0, nn6, by omega, by omega⟩) (by rw [e14, nI_c (by omega), z0, z6]; exact ⟨nI_pos (by omega), nn0, nn6, by omega, by omega⟩)]
  rw [e1, e8, e14, e2, nI_c (by omega), nI_c (by omega), nI_c (by omega), nI_c (by omega), nI_c (by omega)]
  refine ⟨_, rfl, ?_, ?_⟩
  · intro c hc
    simp only [List.mem_cons, List.not_mem_nil, or_false, not_or] at hc
    obtain ⟨h0, h1, h2, h3⟩ := hc
    simp only [ir_n h1, ir_n h2, ir_n h3, iw_n h0]
  · unfold SV
    simp (disch := omega) only [iw_n, ir_n, iw_s, ir_s, upd_s, upd_n]
    rw [s1, s2, s3, s4, s5, s6]
    have ha1 := ha.2.1
    have ha2 := ha.2.2
    rw [s3] at ha1 ha2
    have h3 : vN v ≤ 6 := by rw [← s3]; exact hN
    refine ⟨hv.1, hv.2.1, hv.2.2.1, ha.1, ha1, hv.2.2.2.2.2.1, fun h hh => ?_⟩
    have q1 := hv.2.2.2.2.2.2 h hh
    have q2 := ha2 h hh
    rw [cpI (by omega), cpI (by omega), cpI (by omega), show b + 2 + (h - 0) = b + 2 + h by omega, show b + 8 + (h - 0) = b + 8 + h by omega, show b + 14 + (h - 0) = b + 14 + h by omega]
    exact ⟨q1.1, q1.2.1, q2.1, q2.2.1, q2.2.2⟩
/-- the records after an act -/
def kA (a : Nat) : Nat := if a = 24 then 24 else a + 1
def kR (a : Nat) (r : Nat → HV) (v : HV) : Nat → HV := fun j => if a = 24 then (if j < 23 then r (j + 1) else v) else if j < a then r j else v
theorem rem24 (o a : Nat) (h : o + a < 1000) : (nI o + nI a) - (nI o + nI a) / 24 * 24 = nI ((o + a) % 24) := by
  rw [nI_add]
  exact pk_rem (a := o + a) (d := 24) (by omega) (by omega) (by omega)
theorem mul20 (p : Nat) : nI p * 20 = nI (20 * p) := by
  show nI p * nI 20 = _
  rw [pk_mul, Nat.mul_comm]
theorem t_keep {a o : Nat} {r : Nat → HV} (hd : 2 ≤ d) (hL : pm_lay g) (hv : SV iv 11 v) (ho : Hok v) (hc : CA iv a o r) (hr : RO v a r) : ∃ iv' o', pm_c X d 3 [.ref 7, .ref 11] g iv = some (none, g, iv') ∧ chg [7, 8] iv iv' ∧ CA iv' (kA a) o' (kR a r v) := by
  obtain ⟨d, rfl, hd1⟩ := pm_d1 hd
  obtain ⟨c1, c2, c3, c4, c5⟩ := hc
  by_cases q : a = 24
  · subst q
    have e1 : (nI o + 1) - (nI o + 1) / 24 * 24 = nI ((o + 1) % 24) := rem24 o 1 (by omega)
    let iv0 := pm_iw (pm_iw iv 7 1 (nI ((o + 1) % 24))) 7 2 (nI 23)
    have h71 : iv0 7 1 = nI ((o + 1) % 24) := by show pm_iw (pm_iw iv 7 1 _) 7 2 _ 7 1 = _; rw [iw_s, upd_n (by decide), iw_s, upd_s]
    have h72 : iv0 7 2 = nI 23 := by show pm_iw (pm_iw iv 7 1 _) 7 2 _ 7 2 = _; rw [iw_s, upd_s]
    have h8 : iv0 8 = iv 8 := by show pm_iw (pm_iw iv 7 1 _) 7 2 _ 8 = _; rw [iw_n (by decide), iw_n (by decide)]
    have hv0 : SV iv0 11 v := SV_fr hv (fun c a b => by show pm_iw (pm_iw iv 7 1 _) 7 2 _ c = _; rw [iw_n (by omega), iw_n (by omega)])
    obtain ⟨iv1, w1, w2, w3, w4⟩ := t_writeTo (X := X) (d := d) (iv := iv0) (b := 20 * (((o + 1) % 24 + 23) % 24)) hd1 hL hv0 ho (by omega)
    refine ⟨pm_iw iv1 7 2 (nI 24), (o + 1) % 24, ?_, ?_, by unfold kA; rw [if_pos rfl]; omega, by omega, ?_, ?_, fun j hj => ?_⟩
    · have n24 : ¬ ¬ (nI 24 : Int32) = 24 := not_not_intro rfl
      have e7 : (pm_iw iv 7 1 (nI ((o + 1) % 24))) 7 2 - 1 = nI 23 := by rw [iw_s, upd_n (by decide), c4]; rfl
      have e9 : iv1 7 2 + 1 = nI 24 := by rw [w2 7 (by decide), h72]; rfl
      rw [e3, b3_0 hL, c4, if_neg n24, b3_9 hL, c3, e1, e7]
      show pm_at X d 3 (32, _, [], g, iv0) = _
      rw [b3_32 hL (lay_now hL), h71, h72, rem24 _ _ (by omega), mul20, w1]
      simp only [pm_then_i, pm_then_l, pm_then_v, b3_55 hL, e9]
    · exact chg_tr (chg_tr (chg_iw (by decide)) (chg_iw (by decide))) (chg_tr (chg_mo w2 (by decide)) (chg_iw (by decide)))
    · rw [iw_s, upd_n (by decide), w2 7 (by decide), h71]
    · unfold kA
      rw [iw_s, upd_s, if_pos rfl]
    · have hj : j < 24 := hj
      rw [iw_n (by decide)]
      unfold kR
      rw [if_pos rfl]
      by_cases p : j < 23
      · rw [if_pos p, show ((o + 1) % 24 + j) % 24 = (o + (j + 1)) % 24 by omega]
        have hrj := hr (j + 1) (by omega)
        refine AR_fr (c5 (j + 1) (by omega)) hrj.2.1.2.2.1 (fun i hi1 hi2 => ?_)
        rw [w4 i (by omega), h8]
      · rw [if_neg p, show j = 23 by omega]
        exact w3
  · have n24 : ¬ nI a = 24 := fun e => q ((nI_eq (a := a) (b := 24) (by omega) (by omega)).mp e)
    obtain ⟨iv1, w1, w2, w3, w4⟩ := t_writeTo (X := X) (d := d) (iv := iv) (b := 20 * ((o + a) % 24)) hd1 hL hv ho (by omega)
    refine ⟨pm_iw iv1 7 2 (nI (a + 1)), o, ?_, ?_, by unfold kA; rw [if_neg q]; omega, c2, ?_, ?_, fun j hj => ?_⟩
    · have e9 : iv1 7 2 + 1 = nI (a + 1) := by rw [w2 7 (by decide), c4, nI_1]
      rw [e3, b3_0 hL, c4, if_pos n24, b3_32 hL (lay_now hL), c3, c4, rem24 _ _ (by omega), mul20, w1]
      simp only [pm_then_i, pm_then_l, pm_then_v, b3_55 hL, e9]
    · exact chg_tr (chg_mo w2 (by decide)) (chg_iw (by decide))
    · rw [iw_s, upd_n (by decide), w2 7 (by decide), c3]
    · unfold kA
      rw [iw_s, upd_s, if_neg q]
    · unfold kA at hj
      rw [if_neg q] at hj
      rw [iw_n (by decide)]
      unfold kR
      rw [if_neg q]
      by_cases p : j < a
      · rw [if_pos p]
        refine AR_fr (c5 j p) (hr j p).2.1.2.2.1 (fun i hi1 hi2 => ?_)
        rw [w4 i (by omega)]
      · rw [if_neg p, show j = a by omega]
        exact w3
/-- the reference keeps -/
theorem m_keep_sh (hL : pm_lay g) : ∀ m i (iv : pm_V) (f : Nat → Int32), i + m = 1035 → (∀ j, iv 38 j = if j < i then f (j + 45) else f j) →
    ∃ iv', pm_at X d 167 (11, [some (.ref 32), some (.int (nI i))], [], g, iv) = pm_at X d 167 (39, [some (.ref 32), some (.int (nI 1035))], [], g, iv') ∧ chg [38] iv iv' ∧ ∀ j, iv' 38 j = if j < 1035 then f (j + 45) else f j := by
  intro m
  induction m with
  | zero =>
    intro i iv f hi hf
    have e : i = 1035 := by omega
    subst e
    refine ⟨iv, ?_, chg_rf, hf⟩
    rw [b167_11, if_pos (show (1035 : Int32) ≤ nI 1035 from Int32.le_refl _)]
  | succ m ih =>
    intro i iv f hi hf
    have h1 : ¬ (1035 : Int32) ≤ nI i := by rw [le_i, show (1035 : Int32).toInt = 1035 from rfl, nI_t (by omega)]; omega
    have e1 : nI i + 45 = nI (i + 45) := nI_add i 45
    obtain ⟨iv', a1, a2, a3⟩ := ih (i + 1) (pm_iw iv 38 i (iv 38 (i + 45))) f (by omega) (fun j => by
      rw [iw_s]
      by_cases e : j = i
      · rw [e, upd_s, if_pos (by omega), hf, if_neg (by omega)]
      · rw [upd_n e, hf]
        by_cases p : j < i
        · rw [if_pos p, if_pos (by omega)]
        · rw [if_neg p, if_neg (by omega)])
    refine ⟨iv', ?_, chg_tr (chg_iw (by decide)) a2, a3⟩
    rw [b167_11, if_neg h1, b167_18 hL (by rw [e1]; exact vp_n (by omega) (by decide)) (vp_n (by omega) (by decide)), e1, nI_c (by omega), nI_c (by omega), nI_1, a1]
theorem m_keep_wr (hL : pm_lay g) {a : Nat} (ha : a ≤ 23) : ∀ m i (iv : pm_V) (f h : Nat → Int32), i + m = 45 → iv 36 = h → iv 32 8 = nI a → (∀ j, iv 38 j = if 45 * a ≤ j ∧ j < 45 * a + i then h (j - 45 * a) else f j) →
    ∃ iv', pm_at X d 167 (51, [some (.ref 32), some (.int (nI i))], [], g, iv) = some (none, g, pm_iw iv' 32 8 (nI (a + 1))) ∧ chg [38] iv iv' ∧ ∀ j, iv' 38 j = if 45 * a ≤ j ∧ j < 45 * a + 45 then h (j - 45 * a) else f j := by
  intro m
  induction m with
  | zero =>
    intro i iv f h hi h36 h8 hf
    have e : i = 45 := by omega
    subst e
    refine ⟨iv, ?_, chg_rf, hf⟩
    rw [b167_51, if_pos (show (45 : Int32) ≤ nI 45 from Int32.le_refl _), b167_83 hL, h8, nI_1]
  | succ m ih =>
    intro i iv f h hi h36 h8 hf
    have h1 : ¬ (45 : Int32) ≤ nI i := by rw [le_i, show (45 : Int32).toInt = 45 from rfl, nI_t (by omega)]; omega
    have e1 : 45 * nI a + nI i = nI (45 * a + i) := by
      show nI 45 * nI a + nI i = _
      rw [pk_mul, nI_add]
    obtain ⟨iv', a1, a2, a3⟩ := ih (i + 1) (pm_iw iv 38 (45 * a + i) (iv 36 i)) f h (by omega) (by rw [iw_n (by decide)]; exact h36) (by rw [iw_n (by decide)]; exact h8) (fun j => by
      rw [iw_s]
      by_cases e : j = 45 * a + i
      · rw [e, upd_s, if_pos (by omega), h36, show 45 * a + i - 45 * a = i by omega]
      · rw [upd_n e, hf]
        by_cases p : 45 * a ≤ j ∧ j < 45 * a + i
        · rw [if_pos p, if_pos (by omega)]
        · rw [if_neg p, if_neg (by omega)])
    refine ⟨iv', ?_, chg_tr (chg_iw (by decide)) a2, a3⟩
    rw [b167_51, if_neg h1, b167_57 hL (vp_n (by omega) (by decide)) (by rw [h8, e1]; exact vp_n (by omega) (by decide)), h8, e1, nI_c (by omega), nI_c (by omega), nI_1, a1]
theorem m_keep {a : Nat} {r : Nat → HV} (hd : 1 ≤ d) (hL : pm_lay g) (hv : HAr (iv 36) v) (ho : Hok v) (ha : a ≤ 24) (hm : MA iv a r) (hr : RO v a r) : ∃ iv', pm_c X d 167 [.ref 32] g iv = some (none, g, iv') ∧ chg [32, 38] iv iv' ∧ (∀ c, c ≠ 8 → iv' 32 c = iv 32 c) ∧ MA iv' (kA a) (kR a r v) := by
  obtain ⟨d, rfl, hd1⟩ := pm_d1 hd
  obtain ⟨m1, m2⟩ := hm
  have hN := ho.2.2.1
  by_cases q : a = 24
  · subst q
    obtain ⟨iv1, w1, w2, w3⟩ := m_keep_sh (X := X) (d := d) hL 1035 0 iv (iv 38) (by omega) (fun j => by rw [if_neg (by omega)])
    have h23 : (pm_iw iv1 32 8 (nI 23)) 32 8 = nI 23 := by rw [iw_s, upd_s]
    obtain ⟨iv2, x1, x2, x3⟩ := m_keep_wr (X := X) (d := d) hL (a := 23) (by omega) 45 0 (pm_iw iv1 32 8 (nI 23)) (iv1 38) (iv 36) (by omega) (by rw [iw_n (by decide), w2 36 (by decide)]) h23 (fun j => by rw [if_neg (by omega), iw_n (by decide)])
    refine ⟨pm_iw iv2 32 8 (nI 24), ?_, chg_tr (chg_mo w2 (by decide)) (chg_tr (chg_iw (by decide)) (chg_tr (chg_mo x2 (by decide)) (chg_iw (by decide)))), fun c hc => ?_, ?_, fun j hj => ?_⟩
    · rw [nI_0] at w1 x1
      have e : iv1 32 8 - 1 = nI 23 := by rw [w2 32 (by decide), m1]; rfl
      rw [e167, b167_0 hL, m1, if_neg (not_not_intro (show nI 24 = 24 from rfl)), b167_9, w1, b167_39 hL, e, b167_49, x1]
    · rw [iw_s, upd_n hc, x2 32 (by decide), iw_s, upd_n hc, w2 32 (by decide)]
    · unfold kA
      rw [iw_s, upd_s, if_pos rfl]
    · have hj : j < 24 := hj
      rw [iw_n (by decide)]
      unfold kR
      rw [if_pos rfl]
      by_cases p : j < 23
      · rw [if_pos p]
        refine HAr_fr (m2 (j + 1) (by omega)) (hr (j + 1) (by omega)).2.1.2.2.1 (fun i hi => ?_)
        rw [x3, if_neg (by omega), w3, if_pos (by omega), show 45 * j + i + 45 = 45 * (j + 1) + i by omega]
      · rw [if_neg p, show j = 23 by omega]
        refine HAr_fr hv hN (fun i hi => ?_)
        rw [x3, if_pos (by omega), show 45 * 23 + i - 45 * 23 = i by omega]
  · have n24 : ¬ nI a = 24 := fun e => q ((nI_eq (a := a) (b := 24) (by omega) (by omega)).mp e)
    obtain ⟨iv2, x1, x2, x3⟩ := m_keep_wr (X := X) (d := d) hL (a := a) (by omega) 45 0 iv (iv 38) (iv 36) (by omega) rfl m1 (fun j => by rw [if_neg (by omega)])
    refine ⟨pm_iw iv2 32 8 (nI (a + 1)), ?_, chg_tr (chg_mo x2 (by decide)) (chg_iw (by decide)), fun c hc => ?_, ?_, fun j hj => ?_⟩
    · rw [nI_0] at x1
      rw [e167, b167_0 hL, m1, if_pos n24, b167_49, x1]
    · rw [iw_s, upd_n hc, x2 32 (by decide)]
    · unfold kA
      rw [iw_s, upd_s, if_neg q]
    · unfold kA at hj
      rw [if_neg q] at hj
      rw [iw_n (by decide)]
      unfold kR
      rw [if_neg q]
      by_cases p : j < a
      · rw [if_pos p]
        refine HAr_fr (m2 j p) (hr j p).2.1.2.2.1 (fun i hi => ?_)
        rw [x3, if_neg (by omega)]
      · rw [if_neg p, show j = a by omega]
        refine HAr_fr hv hN (fun i hi => ?_)
        rw [x3, if_pos (by omega), show 45 * a + i - 45 * a = i by omega]
theorem Sta_rf (v : HV) : Sta v v := ⟨rfl, rfl, rfl, rfl, rfl, rfl⟩
/-- after an act the records are still of this hill -/
theorem RO_k {a : Nat} {r : Nat → HV} {w : HV} (hr : RO v a r) (ho : Hok v) (hs : Dst v (vy v)) (hk : Kok v) (hw : ∀ u, Sta u v → Sta u w) : RO w (kA a) (kR a r v) := fun j hj => by
  unfold kA at hj
  unfold kR
  have hvv : Sta v w ∧ Hok v ∧ Dst v (vy v) ∧ Kok v := ⟨hw v (Sta_rf v), ho, hs, hk⟩
  by_cases q : a = 24
  · rw [if_pos q] at hj
    rw [if_pos q]
    by_cases p : j < 23
    · rw [if_pos p]
      have := hr (j + 1) (by omega)
      exact ⟨hw _ this.1, this.2⟩
    · rw [if_neg p]
      exact hvv
  · rw [if_neg q] at hj
    rw [if_neg q]
    by_cases p : j < a
    · rw [if_pos p]
      have := hr j p
      exact ⟨hw _ this.1, this.2⟩
    · rw [if_neg p]
      exact hvv
theorem kA_le {a : Nat} (h : a ≤ 24) : kA a ≤ 24 := by unfold kA; split <;> omega
end Q55
