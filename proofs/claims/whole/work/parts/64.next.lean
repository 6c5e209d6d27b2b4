/-! the reference's tape, read in tokens -/
def zmk (q : Nat) : Nat := if q = 4 then 0 else q + 1
/-- the reference's tape holds this text -/
def MX (T : Nat → Nat) (n : Nat) (iv : pm_V) : Prop := iv 32 12 = nI n ∧ ∀ i, i < n → iv 39 i = nI (T i)
/-- and is at this token -/
def MZ (iv : pm_V) (c : ZT) : Prop := iv 32 13 = nI c.2.2 ∧ iv 32 14 = nI (zmk c.1) ∧ iv 32 15 = nI c.2.1 ∧ iv 32 16 = nI c.2.2
theorem MX_fr {T : Nat → Nat} {n : Nat} {iv iv' : pm_V} (h : MX T n iv) (h1 : iv' 32 12 = iv 32 12) (h6 : iv' 39 = iv 39) : MX T n iv' := ⟨by rw [h1]; exact h.1, fun i hi => by rw [h6]; exact h.2 i hi⟩
def zb (T : Nat → Nat) (n i : Nat) : Int32 := if i < n then nI (T i) else -1000000
theorem zb_in {T : Nat → Nat} {n i : Nat} (h : i < n) : zb T n i = nI (T i) := if_pos h
theorem zb_out {T : Nat → Nat} {n i : Nat} (h : ¬ i < n) : zb T n i = -1000000 := if_neg h
section Z3
variable {X : pm_X} {d n i : Nat} {g : pm_G} {iv : pm_V} {T : Nat → Nat} {x : Int32}
theorem m_byteAt (hd : 1 ≤ d) (hL : pm_lay g) (hx : MX T n iv) (hn : n ≤ 400) (hi : i ≤ n) : pm_c X d 138 [.ref 32, .int (nI i)] g iv = some (some (.int (zb T n i)), g, iv) := by
  obtain ⟨d, rfl, -⟩ := pm_d1 hd
  rw [e138, b138_0 hL, hx.1]
  by_cases q : i < n
  · rw [if_neg (nI_ge q (by omega)), b138_8 hL (vp_n (by omega) (by decide)), b138_19, nI_c (by omega), hx.2 i q, zb_in q]
  · rw [if_pos (by rw [nI_le' (by omega) (by omega)]; omega), b138_17, b138_19, zb_out q]
theorem zb_B (hb : ∀ i, i < n → T i < 256) : (zb T n i = 32 ∨ zb T n i = 10) ↔ (i < n ∧ zB (T i) = true) := by
  by_cases q : i < n
  · rw [zb_in q, zB_i (hb i q)]; exact ⟨fun h => ⟨q, h⟩, fun h => h.2⟩
  · rw [zb_out q]; exact ⟨fun h => by rcases h with h | h <;> exact absurd h (by decide), fun h => absurd h.1 q⟩
theorem zb_L (hb : ∀ i, i < n → T i < 256) : (97 ≤ (zb T n i).toInt ∧ (zb T n i).toInt ≤ 122) ↔ (i < n ∧ zL (T i) = true) := by
  by_cases q : i < n
  · rw [zb_in q, zL_i (hb i q)]; exact ⟨fun h => ⟨q, h⟩, fun h => h.2⟩
  · rw [zb_out q]; exact ⟨fun h => absurd h (by decide), fun h => absurd h.1 q⟩
theorem zb_F (hb : ∀ i, i < n → T i < 256) : (48 ≤ (zb T n i).toInt ∧ (zb T n i).toInt ≤ 57) ↔ (i < n ∧ zF (T i) = true) := by
  by_cases q : i < n
  · rw [zb_in q, zF_i (hb i q)]; exact ⟨fun h => ⟨q, h⟩, fun h => h.2⟩
  · rw [zb_out q]; exact ⟨fun h => absurd h (by decide), fun h => absurd h.1 q⟩
theorem m_skip (hd : 1 ≤ d) (hL : pm_lay g) (hn : n ≤ 400) (hb : ∀ i, i < n → T i < 256) : ∀ m i (iv : pm_V), i + m = n → MX T n iv → iv 32 13 = nI i → ∃ iv', pm_at X d 141 (0, [some (.ref 32), none], [], g, iv) = pm_at X d 141 (39, [some (.ref 32), none], [], g, iv') ∧ chg [32] iv iv' ∧ (∀ c, c ≠ 13 → iv' 32 c = iv 32 c) ∧ iv' 32 13 = nI (zru T zB n i) := by
  have stop : ∀ i (iv : pm_V), i ≤ n → MX T n iv → iv 32 13 = nI i → ¬ (i < n ∧ zB (T i) = true) → pm_at X d 141 (0, [some (.ref 32), none], [], g, iv) = pm_at X d 141 (39, [some (.ref 32), none], [], g, iv) := fun i iv hi hx h3 q => by
    rw [← zb_B hb] at q
    rw [b141_0 hL, h3, m_byteAt hd hL hx hn hi, pm_then_i, b141_8, if_neg (fun w => q (Or.inl w)), b141_13 hL, h3, m_byteAt hd hL hx hn hi, pm_then_i, b141_21, if_pos (fun w => q (Or.inr w))]
  intro m
  induction m with
  | zero =>
    intro i iv h hx h3
    exact ⟨iv, stop i iv (by omega) hx h3 (fun q => by omega), chg_rf, fun _ _ => rfl, by rw [zru_n (fun q => by omega), h3]⟩
  | succ m ih =>
    intro i iv h hx h3
    by_cases q : zB (T i) = true
    · obtain ⟨iv', a1, a2, a3, a4⟩ := ih (i + 1) (pm_iw iv 32 13 (nI (i + 1))) (by omega) (MX_fr hx (by rw [iw_s, upd_n (by decide)]) (iw_n (by decide))) (by rw [iw_s, upd_s])
      refine ⟨iv', ?_, chg_tr (chg_iw (by decide)) a2, fun c hc => by rw [a3 c hc, iw_s, upd_n hc], by rw [a4, zru_y (by omega) q]⟩
      have e26 : pm_at X d 141 (26, [some (.ref 32), none], [], g, iv) = pm_at X d 141 (39, [some (.ref 32), none], [], g, iv') := by
        rw [b141_26 hL, h3, nI_1, a1]
      rw [b141_0 hL, h3, m_byteAt hd hL hx hn (by omega), pm_then_i, b141_8]
      rcases (zb_B hb).mpr ⟨show i < n by omega, q⟩ with w | w
      · rw [if_pos w, e26]
      · rw [if_neg (by rw [w]; decide), b141_13 hL, h3, m_byteAt hd hL hx hn (by omega), pm_then_i, b141_21, if_neg (not_not_intro w), e26]
    · exact ⟨iv, stop i iv (by omega) hx h3 (fun w => q w.2), chg_rf, fun _ _ => rfl, by rw [zru_n (fun w => q w.2), h3]⟩
theorem m_let_l (hd : 1 ≤ d) (hL : pm_lay g) (hn : n ≤ 400) (hb : ∀ i, i < n → T i < 256) : ∀ m i (iv : pm_V), i + m = n → MX T n iv → iv 32 13 = nI i → ∃ iv', pm_at X d 141 (77, [some (.ref 32), some (.int x)], [], g, iv) = pm_at X d 141 (104, [some (.ref 32), some (.int x)], [], g, iv') ∧ chg [32] iv iv' ∧ (∀ c, c ≠ 13 → iv' 32 c = iv 32 c) ∧ iv' 32 13 = nI (zru T zL n i) := by
  have go : ∀ i (iv : pm_V), i ≤ n → MX T n iv → iv 32 13 = nI i → pm_at X d 141 (77, [some (.ref 32), some (.int x)], [], g, iv) = pm_at X d 141 (88, [some (.ref 32), some (.int x)], [.int (if i < n ∧ zL (T i) = true then 1 else 0)], g, iv) := fun i iv hi hx h3 => by
    rw [b141_77 hL, h3, m_byteAt hd hL hx hn hi, pm_then_i, b141_85, m_isLe hd, pm_then_i]
    simp only [zb_L hb]
  intro m
  induction m with
  | zero =>
    intro i iv h hx h3
    refine ⟨iv, ?_, chg_rf, fun _ _ => rfl, by rw [zru_n (fun q => by omega), h3]⟩
    rw [go i iv (by omega) hx h3, if_neg (fun q => by omega), b141_88, if_pos rfl]
  | succ m ih =>
    intro i iv h hx h3
    by_cases q : zL (T i) = true
    · obtain ⟨iv', a1, a2, a3, a4⟩ := ih (i + 1) (pm_iw iv 32 13 (nI (i + 1))) (by omega) (MX_fr hx (by rw [iw_s, upd_n (by decide)]) (iw_n (by decide))) (by rw [iw_s, upd_s])
      refine ⟨iv', ?_, chg_tr (chg_iw (by decide)) a2, fun c hc => by rw [a3 c hc, iw_s, upd_n hc], by rw [a4, zru_y (by omega) q]⟩
      rw [go i iv (by omega) hx h3, if_pos ⟨by omega, q⟩, b141_88, if_neg (by decide), b141_91 hL, h3, nI_1, a1]
    · refine ⟨iv, ?_, chg_rf, fun _ _ => rfl, by rw [zru_n (fun w => q w.2), h3]⟩
      rw [go i iv (by omega) hx h3, if_neg (fun w => q w.2), b141_88, if_pos rfl]
theorem m_fig_l (hd : 1 ≤ d) (hL : pm_lay g) (hn : n ≤ 400) (hb : ∀ i, i < n → T i < 256) : ∀ m i (iv : pm_V), i + m = n → MX T n iv → iv 32 13 = nI i → ∃ iv', pm_at X d 141 (119, [some (.ref 32), some (.int x)], [], g, iv) = pm_at X d 141 (146, [some (.ref 32), some (.int x)], [], g, iv') ∧ chg [32] iv iv' ∧ (∀ c, c ≠ 13 → iv' 32 c = iv 32 c) ∧ iv' 32 13 = nI (zru T zF n i) := by
  have go : ∀ i (iv : pm_V), i ≤ n → MX T n iv → iv 32 13 = nI i → pm_at X d 141 (119, [some (.ref 32), some (.int x)], [], g, iv) = pm_at X d 141 (130, [some (.ref 32), some (.int x)], [.int (if i < n ∧ zF (T i) = true then 1 else 0)], g, iv) := fun i iv hi hx h3 => by
    rw [b141_119 hL, h3, m_byteAt hd hL hx hn hi, pm_then_i, b141_127, m_isFi hd, pm_then_i]
    simp only [zb_F hb]
  intro m
  induction m with
  | zero =>
    intro i iv h hx h3
    refine ⟨iv, ?_, chg_rf, fun _ _ => rfl, by rw [zru_n (fun q => by omega), h3]⟩
    rw [go i iv (by omega) hx h3, if_neg (fun q => by omega), b141_130, if_pos rfl]
  | succ m ih =>
    intro i iv h hx h3
    by_cases q : zF (T i) = true
    · obtain ⟨iv', a1, a2, a3, a4⟩ := ih (i + 1) (pm_iw iv 32 13 (nI (i + 1))) (by omega) (MX_fr hx (by rw [iw_s, upd_n (by decide)]) (iw_n (by decide))) (by rw [iw_s, upd_s])
      refine ⟨iv', ?_, chg_tr (chg_iw (by decide)) a2, fun c hc => by rw [a3 c hc, iw_s, upd_n hc], by rw [a4, zru_y (by omega) q]⟩
      rw [go i iv (by omega) hx h3, if_pos ⟨by omega, q⟩, b141_130, if_neg (by decide), b141_133 hL, h3, nI_1, a1]
    · refine ⟨iv, ?_, chg_rf, fun _ _ => rfl, by rw [zru_n (fun w => q w.2), h3]⟩
      rw [go i iv (by omega) hx h3, if_neg (fun w => q w.2), b141_130, if_pos rfl]
/-- the reference goes to the next token -/
theorem m_nxt (hd : 2 ≤ d) (hL : pm_lay g) (hn : n ≤ 400) (hb : ∀ i, i < n → T i < 256) (hx : MX T n iv) (h4 : iv 32 13 = nI i) (hi : i ≤ n) : ∃ iv', pm_c X d 141 [.ref 32] g iv = some (none, g, iv') ∧ chg [32] iv iv' ∧ (∀ c, c ≠ 13 → c ≠ 14 → c ≠ 15 → c ≠ 16 → iv' 32 c = iv 32 c) ∧ MZ iv' (ztk T n i) := by
  obtain ⟨d, rfl, hd1⟩ := pm_d1 hd
  obtain ⟨iv1, a1, a2, a3, a4⟩ := m_skip (X := X) (d := d) (by omega) hL hn hb (n - i) i iv (by omega) hx h4
  have hs : zru T zB n i ≤ n := zru_le hi
  unfold ztk
  generalize zru T zB n i = s at a4 hs
  have f : ∀ c, c ≠ 13 → c ≠ 15 → (pm_iw iv1 32 15 (nI s)) 32 c = iv 32 c := fun c p q => by rw [iw_s, upd_n q, a3 c p]
  have f13 : (pm_iw iv1 32 15 (nI s)) 32 13 = nI s := by rw [iw_s, upd_n (by decide), a4]
  have f15 : (pm_iw iv1 32 15 (nI s)) 32 15 = nI s := by rw [iw_s, upd_s]
  have b1 : chg [32] iv (pm_iw iv1 32 15 (nI s)) := chg_tr a2 (chg_iw (by decide))
  have hx1 : MX T n (pm_iw iv1 32 15 (nI s)) := MX_fr hx (f 12 (by decide) (by decide)) (b1 39 (by decide))
  have run : pm_c X (d + 1) 141 [.ref 32] g iv = pm_at X d 141 (55, [some (.ref 32), none], [.int (zb T n s)], g, pm_iw iv1 32 15 (nI s)) := by
    rw [e141, a1, b141_39 hL, a4, f13, m_byteAt hd1 hL hx1 hn hs, pm_then_i]
  generalize pm_iw iv1 32 15 (nI s) = iv2 at f f13 f15 b1 hx1 run
  clear a1 a2 a3 a4
  by_cases q : n ≤ s
  · refine ⟨pm_iw (pm_iw iv2 32 14 1) 32 16 (nI s), ?_, chg_tr b1 (chg_tr (chg_iw (by decide)) (chg_iw (by decide))), fun c p1 p2 p3 p4 => by rw [iw_s, upd_n p4, iw_s, upd_n p2, f c p1 p3], ?_⟩
    · rw [run, zb_out (by omega), b141_55, if_neg (not_not_intro rfl), b141_62 hL, b141_196 hL, iw_s (iv := iv2), upd_n (show 13 ≠ 14 by decide), f13]
    · rw [if_pos q]
      exact ⟨by rw [iw_s, upd_n (by decide), iw_s, upd_n (by decide), f13], by rw [iw_s, upd_n (by decide), iw_s, upd_s]; rfl, by rw [iw_s, upd_n (by decide), iw_s, upd_n (by decide), f15], by rw [iw_s, upd_s]⟩
  · have hsn : s < n := by omega
    have hT := hb s hsn
    have nn : ¬ nI (T s) = -1000000 := fun e => by
      have := congrArg Int32.toInt e
      rw [nI_t (by omega)] at this
      have e2 : ((-1000000 : Int32)).toInt = -1000000 := rfl
      omega
    have r70 : pm_c X (d + 1) 141 [.ref 32] g iv = pm_at X d 141 (74, [some (.ref 32), some (.int (nI (T s)))], [.int (if zL (T s) = true then 1 else 0)], g, iv2) := by
      rw [run, zb_in hsn, b141_55, if_pos nn, b141_70, m_isLe hd1, pm_then_i]
      simp only [zL_i hT]
    rw [if_neg q]
    by_cases qL : zL (T s) = true
    · rw [if_pos qL]
      obtain ⟨iv3, c1, c2, c3, c4⟩ := m_let_l (X := X) (x := nI (T s)) hd1 hL hn hb (n - s) s iv2 (by omega) hx1 f13
      refine ⟨pm_iw (pm_iw iv3 32 14 2) 32 16 (nI (zru T zL n s)), ?_, chg_tr b1 (chg_tr c2 (chg_tr (chg_iw (by decide)) (chg_iw (by decide)))), fun c p1 p2 p3 p4 => by rw [iw_s, upd_n p4, iw_s, upd_n p2, c3 c p1, f c p1 p3], ?_⟩
      · rw [r70, if_pos qL, b141_74, if_neg (by decide), c1, b141_104 hL, b141_196 hL, iw_s (iv := iv3), upd_n (show 13 ≠ 14 by decide), c4]
      · exact ⟨by rw [iw_s, upd_n (by decide), iw_s, upd_n (by decide), c4], by rw [iw_s, upd_n (by decide), iw_s, upd_s]; rfl, by rw [iw_s, upd_n (by decide), iw_s, upd_n (by decide), c3 15 (by decide), f15], by rw [iw_s, upd_s]⟩
    · rw [if_neg qL]
      have r112 : pm_c X (d + 1) 141 [.ref 32] g iv = pm_at X d 141 (116, [some (.ref 32), some (.int (nI (T s)))], [.int (if zF (T s) = true then 1 else 0)], g, iv2) := by
        rw [r70, if_neg qL, b141_74, if_pos rfl, b141_112, m_isFi hd1, pm_then_i]
        simp only [zF_i hT]
      by_cases qF : zF (T s) = true
      · rw [if_pos qF]
        obtain ⟨iv3, c1, c2, c3, c4⟩ := m_fig_l (X := X) (x := nI (T s)) hd1 hL hn hb (n - s) s iv2 (by omega) hx1 f13
        have he : s ≤ zru T zF n s := zru_ge (by omega)
        have he2 : zru T zF n s ≤ n := zru_le (by omega)
        have le3 : iv3 32 13 - iv3 32 15 ≤ 3 ↔ zru T zF n s - s ≤ 3 := by
          rw [c3 15 (by decide), f15, c4, pk_sub he]
          exact nI_le' (i := zru T zF n s - s) (j := 3) (by omega) (by omega)
        refine ⟨pm_iw (pm_iw iv3 32 14 (nI (zmk (if zru T zF n s - s ≤ 3 then 2 else 4)))) 32 16 (nI (zru T zF n s)), ?_, chg_tr b1 (chg_tr c2 (chg_tr (chg_iw (by decide)) (chg_iw (by decide)))), fun c p1 p2 p3 p4 => by rw [iw_s, upd_n p4, iw_s, upd_n p2, c3 c p1, f c p1 p3], ?_⟩
        · have h13 : ∀ y : Int32, (pm_iw iv3 32 14 y) 32 13 = nI (zru T zF n s) := fun y => by rw [iw_s, upd_n (by decide), c4]
          rw [r112, if_pos qF, b141_116, if_neg (by decide), c1, b141_146 hL]
          by_cases w : zru T zF n s - s ≤ 3
          · rw [if_pos (le3.mpr w), b141_164, b141_165 hL, b141_196 hL, h13, if_pos w]
            rfl
          · rw [if_neg (fun u => w (le3.mp u)), b141_160, b141_165 hL, b141_196 hL, h13, if_neg w]
            rfl
        · exact ⟨by rw [iw_s, upd_n (by decide), iw_s, upd_n (by decide), c4], by rw [iw_s, upd_n (by decide), iw_s, upd_s], by rw [iw_s, upd_n (by decide), iw_s, upd_n (by decide), c3 15 (by decide), f15], by rw [iw_s, upd_s]⟩
      · rw [if_neg qF]
        have e59 : nI (T s) = 59 ↔ T s = 59 := nI_eq (a := T s) (b := 59) (by omega) (by decide)
        have h13 : ∀ y : Int32, (pm_iw (pm_iw iv2 32 13 (nI (s + 1))) 32 14 y) 32 13 = nI (s + 1) := fun y => by rw [iw_s, upd_n (by decide), iw_s, upd_s]
        refine ⟨pm_iw (pm_iw (pm_iw iv2 32 13 (nI (s + 1))) 32 14 (nI (zmk (if T s = 59 then 3 else 4)))) 32 16 (nI (s + 1)), ?_, chg_tr b1 (chg_tr (chg_iw (by decide)) (chg_tr (chg_iw (by decide)) (chg_iw (by decide)))), fun c p1 p2 p3 p4 => by rw [iw_s, upd_n p4, iw_s, upd_n p2, iw_s, upd_n p1, f c p1 p3], ?_⟩
        · rw [r112, if_neg qF, b141_116, if_pos rfl, b141_171 hL, f13, nI_1]
          by_cases w : T s = 59
          · rw [if_neg (not_not_intro (e59.mpr w)), b141_188, b141_193 hL, b141_196 hL, h13, if_pos w]
            rfl
          · rw [if_pos (fun u => w (e59.mp u)), b141_192, b141_193 hL, b141_196 hL, h13, if_neg w]
            rfl
        · exact ⟨by rw [iw_s, upd_n (by decide), h13], by rw [iw_s, upd_n (by decide), iw_s, upd_s], by rw [iw_s, upd_n (by decide), iw_s, upd_n (by decide), iw_s, upd_n (by decide), f15], by rw [iw_s, upd_s]⟩
end Z3
