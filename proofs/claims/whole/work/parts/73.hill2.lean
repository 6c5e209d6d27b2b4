/-! hill: both sides -/
section Y5
variable {X : pm_X} {d n : Nat} {g : pm_G} {iv : pm_V} {T : Nat → Nat} {c : ZT} {v : HV} {x1 x : Int32} {f : Nat × Nat}
/-- the reference took the hill e -/
def HS (iv iv' : pm_V) (e : HV) : Prop := chg [32, 36, 37] iv iv' ∧ (∀ c, c < 8 ∨ 18 < c → iv' 32 c = iv 32 c) ∧ iv' 32 8 = 0 ∧ iv' 32 10 = iv 32 10 ∧ iv' 32 11 = iv 32 11 ∧ HAr (iv' 36) e ∧ Zv e
theorem y32_37 {i : Nat} {z : Int32} : y32 iv (pm_iw iv 37 i z) := fun j _ => by rw [iw_n (by decide)]
theorem ZR_0 {L D : Nat} (h : ∀ j, j < 45 → iv 37 j = 0) : ZR (pm_iw (pm_iw iv 37 0 (nI L)) 37 1 (nI D)) (znw L D) 0 := by
  have q : ∀ j, j ≠ 0 → j ≠ 1 → j < 45 → (pm_iw (pm_iw iv 37 0 (nI L)) 37 1 (nI D)) 37 j = 0 := fun j p0 p1 hj => by rw [iw_s, upd_n p1, iw_s, upd_n p0, h j hj]
  refine ⟨⟨?_, ?_, q 3 (by decide) (by decide) (by decide), q 4 (by decide) (by decide) (by decide), fun l hl i hi => ?_, fun j hj => absurd hj (Nat.not_lt_zero j)⟩, q 2 (by decide) (by decide) (by decide), fun j hj => ⟨q _ (by omega) (by omega) (by omega), q _ (by omega) (by omega) (by omega)⟩⟩
  · rw [iw_s, upd_n (by decide), iw_s, upd_s]; rfl
  · rw [iw_s, upd_s]; rfl
  · rw [q (5 + l) (by omega) (by omega) (by omega), b_0]; rfl
theorem m_hill_r (hd : 6 ≤ d) (hL : pm_lay g) (hn : n ≤ 400) (hb : ∀ i, i < n → T i < 256) (ha : YA T n iv (ztk T n 0)) (h0 : ∀ j, j < 45 → iv 37 j = 0) :
    (∀ f, zAll T n = .inl f → ∃ iv', pm_at X d 154 (30, [some (.ref 32), some (.int x1)], [], g, iv) = some (some (.int (-1000100 - nI f.2)), g, iv') ∧ HF iv iv' f) ∧ (∀ e, zAll T n = .inr e → ∃ iv', pm_at X d 154 (30, [some (.ref 32), some (.int x1)], [], g, iv) = some (some (.int (nI (vN e))), g, iv') ∧ HS iv iv' e) := by
  have mo : ∀ c, c ∈ [32] → c ∈ [32, 37] := by decide
  have k : lg_cmp (lN (znm T (ztk T n 0))) 495740481637 = 0 ↔ zis T 0 (ztk T n 0) = true := by
    rw [lgc_eq, show (495740481637 : Int64) = lN (zK 0) by decide +kernel, pk_lEQ (znm_lt hb ha.2.2.1) (by decide +kernel)]
    exact znm_W hb ha.2.2.1 (by decide)
  have r0 : pm_at X d 154 (30, [some (.ref 32), some (.int x1)], [], g, iv) = pm_at X d 154 (47, [some (.ref 32), some (.int x1)], [.int (if zis T 0 (ztk T n 0) = true then 1 else 0), .ref 32], g, iv) := by
    rw [b154_30 hL, m_name (by omega) hL hn hb ha.1 ha.2.1 ha.2.2.1 ha.2.2.2, pm_then_l, b154_35]
    by_cases q : zis T 0 (ztk T n 0) = true
    · rw [if_neg (not_not_intro (k.mpr q)), b154_42, if_pos q]
    · rw [if_pos (fun u => q (k.mp u)), b154_46, if_neg q]
  have fin : ∀ {f : Nat × Nat} {iv1 : pm_V} {pc : Nat} {st : List Value}, YF [32, 37] T n iv iv1 f → pm_at X d 154 (30, [some (.ref 32), some (.int x1)], [], g, iv) = pm_at X d 154 (pc, [some (.ref 32), some (.int x1)], st, g, iv1) → (∃ iv', pm_at X d 154 (pc, [some (.ref 32), some (.int x1)], st, g, iv1) = some (some (.int (-1000100 - nI f.2)), g, iv') ∧ HF iv1 iv' f) → ∃ iv', pm_at X d 154 (30, [some (.ref 32), some (.int x1)], [], g, iv) = some (some (.int (-1000100 - nI f.2)), g, iv') ∧ HF iv iv' f := fun y e h => by
    obtain ⟨iv', a1, a2⟩ := h
    exact ⟨iv', by rw [e, a1], HF_tr y.1 y.2.1 a2⟩
  by_cases q0 : zis T 0 (ztk T n 0) = true
  · have z0 : zWrd T n 0 (ztk T n 0) = .inr (znx T n (ztk T n 0)) := if_pos q0
    obtain ⟨iv1, a1, a2⟩ := m_must1 (X := X) (show 3 ≤ d by omega) hL hn hb ha
    have r1 : pm_at X d 154 (30, [some (.ref 32), some (.int x1)], [], g, iv) = pm_then X d 154 61 [some (.ref 32), some (.int x1)] [.int 0, .ref 37] (pm_c X d 147 [.ref 32, .int (nI 1), .int (nI 4)] g iv1) := by
      rw [r0, if_pos q0, b154_47 hL, a1, pm_then_v, b154_50 hL]
      rfl
    have w1 := m_number (X := X) (lo := 1) (hi := 4) (show 4 ≤ d by omega) hL hn hb a2.2.2 (by decide) (by decide)
    cases h1 : zNum T n 1 4 (znx T n (ztk T n 0)) with
    | inl f1 =>
      have hs : zSlp T n (ztk T n 0) = .inl f1 := by rw [zSlp, zbd_r z0, zbd_l h1]
      obtain ⟨iv2, r, b1, b2⟩ := w1.1 f1 h1
      refine ⟨fun f h => ?_, fun e h => ?_⟩
      · rw [zAll, zbd_l hs] at h; cases h
        exact fin (YF_mo (YF_tr a2 b2) mo) (by rw [r1, b1, pm_then_i]) (m_f61 (by omega) hL hn b2.2.2)
      · rw [zAll, zbd_l hs] at h; cases h
    | inr l =>
    obtain ⟨iv2, b1, b2⟩ := w1.2 l h1
    obtain ⟨-, -, l1, l2⟩ := zNum_i h1
    have G2 : YG [32, 37] T n iv (pm_iw iv2 37 0 (nI l.1)) l.2 := YG_tr (YG_mo (YG_tr a2 b2) mo) ⟨chg_iw (by decide), y32_37, YA_37 b2.2.2⟩
    have r2 : pm_at X d 154 (30, [some (.ref 32), some (.int x1)], [], g, iv) = pm_then X d 154 74 [some (.ref 32), some (.int x1)] [.int 1, .ref 37] (pm_c X d 147 [.ref 32, .int (nI 4), .int (nI 20)] g (pm_iw iv2 37 0 (nI l.1))) := by
      rw [r1, b1, pm_then_i, b154_61 hL in0_45]
      rfl
    have w2 := m_number (X := X) (lo := 4) (hi := 20) (show 4 ≤ d by omega) hL hn hb G2.2.2 (by decide) (by decide)
    cases h2 : zNum T n 4 20 l.2 with
    | inl f2 =>
      have hs : zSlp T n (ztk T n 0) = .inl f2 := by rw [zSlp, zbd_r z0, zbd_r h1, zbd_l h2]
      obtain ⟨iv3, r, d1, d2⟩ := w2.1 f2 h2
      refine ⟨fun f h => ?_, fun e h => ?_⟩
      · rw [zAll, zbd_l hs] at h; cases h
        exact fin (YF_tr G2 (YF_mo d2 mo)) (by rw [r2, d1, pm_then_i]) (m_f74 (by omega) hL hn d2.2.2)
      · rw [zAll, zbd_l hs] at h; cases h
    | inr D =>
    obtain ⟨iv3, d1, d2⟩ := w2.2 D h2
    obtain ⟨-, -, D1, D2⟩ := zNum_i h2
    have G3 : YG [32, 37] T n iv (pm_iw iv3 37 1 (nI D.1)) D.2 := YG_tr (YG_tr G2 (YG_mo d2 mo)) ⟨chg_iw (by decide), y32_37, YA_37 d2.2.2⟩
    have e37 : iv3 37 = (pm_iw iv2 37 0 (nI l.1)) 37 := d2.1 37 (by decide)
    have hz3 : ZR (pm_iw iv3 37 1 (nI D.1)) (znw l.1 D.1) 0 := by
      refine ZR_fr (ZR_0 (iv := iv2) (L := l.1) (D := D.1) (fun j hj => ?_)) ?_
      · rw [b2.1 37 (by decide), a2.1 37 (by decide)]; exact h0 j hj
      · rw [iw_s, iw_s, e37]
    have hv3 := Zv_nw (L := l.1) (D := D.1) l1 l2 (by omega) D2
    have r3 : pm_at X d 154 (30, [some (.ref 32), some (.int x1)], [], g, iv) = pm_then X d 154 79 [some (.ref 32), some (.int x1)] [] (pm_c X d 149 [.ref 32] g (pm_iw iv3 37 1 (nI D.1))) := by
      rw [r2, d1, pm_then_i, b154_74 hL in1_45]
      rfl
    have w3 := m_mustEnd (X := X) (show 4 ≤ d by omega) hL hn hb G3.2.2
    cases h3 : zSgn T n D.2 with
    | inl f3 =>
      have hs : zSlp T n (ztk T n 0) = .inl f3 := by rw [zSlp, zbd_r z0, zbd_r h1, zbd_r h2, zbd_l h3]
      obtain ⟨iv4, e1, e2⟩ := w3.1 f3 h3
      refine ⟨fun f h => ?_, fun e h => ?_⟩
      · rw [zAll, zbd_l hs] at h; cases h
        exact fin (YF_tr G3 (YF_mo e2 mo)) (by rw [r3, e1, pm_then_v]) (m_f79 (by omega) hL hn e2.2.2)
      · rw [zAll, zbd_l hs] at h; cases h
    | inr c3 =>
    have hs : zSlp T n (ztk T n 0) = .inr (znw l.1 D.1, c3) := by rw [zSlp, zbd_r z0, zbd_r h1, zbd_r h2, zbd_r h3]
    obtain ⟨iv4, e1, e2⟩ := w3.2 c3 h3
    have G4 := YG_tr G3 (YG_mo e2 mo)
    have hz4 := ZR_fr hz3 (e2.1 37 (by decide))
    have r4 : pm_at X d 154 (30, [some (.ref 32), some (.int x1)], [], g, iv) = pm_at X d 154 (79, [some (.ref 32), some (.int x1)], [], g, iv4) := by
      rw [r3, e1, pm_then_v]
    have w4 := m_stL (X := X) (d := d) (x1 := x1) (show 5 ≤ d by omega) hL hn hb 8 0 iv4 (znw l.1 D.1) c3 (by omega) G4.2.2 hz4 hv3 rfl
    cases h4 : zStL T n 8 (znw l.1 D.1) c3 with
    | inl f4 =>
      obtain ⟨iv5, s1, s2⟩ := w4.1 f4 h4
      refine ⟨fun f h => ?_, fun e h => ?_⟩
      · rw [zAll, zbd_r hs, zbd_l h4] at h; cases h
        exact fin (YF_tr G4 s2) (by rw [r4, s1]) (m_f79 (by omega) hL hn s2.2.2)
      · rw [zAll, zbd_r hs, zbd_l h4] at h; cases h
    | inr p =>
    obtain ⟨iv5, t5, s1, s2, s3, s4, s5⟩ := w4.2 p h4
    have G5 := YG_tr G4 s2
    have w5 := m_hsL (X := X) (d := d) (x1 := x1) (t := t5) (show 5 ≤ d by omega) hL hn hb 6 iv5 p.1 p.2 (by omega) G5.2.2 s3 s4
    cases h5 : zHsL T n 6 p.1 p.2 with
    | inl f5 =>
      obtain ⟨iv6, u1, u2⟩ := w5.1 f5 h5
      refine ⟨fun f h => ?_, fun e h => ?_⟩
      · rw [zAll, zbd_r hs, zbd_r h4, zbd_l h5] at h; cases h
        exact fin (YF_tr G5 u2) (by rw [r4, s1, u1]) (m_f97 (by omega) hL hn u2.2.2)
      · rw [zAll, zbd_r hs, zbd_r h4, zbd_l h5] at h; cases h
    | inr q =>
    obtain ⟨iv6, u1, u2, u3, u4⟩ := w5.2 q h5
    have G6 := YG_tr G5 u2
    have r6 : pm_at X d 154 (30, [some (.ref 32), some (.int x1)], [], g, iv) = pm_at X d 154 (122, [some (.ref 32), some (.int x1)], [], g, iv6) := by
      rw [r4, s1, u1, b154_115 hL, if_neg (not_not_intro G6.2.2.2.2.2)]
    have w : iv6 32 14 = 1 ↔ q.2.1 = 0 := MZ_1 G6.2.2.2.1 G6.2.2.2.2.1 0 (by omega)
    by_cases qe : q.2.1 = 0
    · have h6 : zEnd q.1 q.2 = .inr q.1 := if_pos qe
      refine ⟨fun f h => ?_, fun e h => ?_⟩
      · rw [zAll, zbd_r hs, zbd_r h4, zbd_r h5, h6] at h; cases h
      · rw [zAll, zbd_r hs, zbd_r h4, zbd_r h5, h6] at h; cases h
        obtain ⟨iv7, y1, y2, y3⟩ := m_copy_l (X := X) (d := d) (g := g) hL 45 0 (pm_iw iv6 32 8 0) (by omega) (fun j hj => absurd hj (Nat.not_lt_zero j))
        rw [nI_0] at y1
        have e37 : iv7 37 = iv6 37 := by rw [y2 37 (by decide), iw_n (by decide)]
        have e32 : ∀ j, j ≠ 8 → iv7 32 j = iv6 32 j := fun j hj => by rw [y2 32 (by decide), iw_s, upd_n hj]
        have hA : HAr (iv7 36) q.1 := by
          have := u3.1
          rw [← e37] at this
          exact HAr_fr this u4.2.2.1.2.2.1 y3
        refine ⟨iv7, ?_, chg_tr (chg_mo G6.1 (by decide)) (chg_tr (chg_iw (by decide)) (chg_mo y2 (by decide))), fun j hj => by rw [e32 j (by omega)]; exact G6.2.1 j (by omega), by rw [y2 32 (by decide), iw_s, upd_s], by rw [e32 10 (by decide)]; exact G6.2.1 10 (by omega), by rw [e32 11 (by decide)]; exact G6.2.1 11 (by omega), hA, u4⟩
        rw [r6, b154_122 hL, if_pos (w.mpr qe), b154_135 hL, G6.2.2.2.2.2, if_pos (Int32.le_refl _), b154_158 hL, y1, b154_189 hL, hA.2.2.1]
    · have h6 : zEnd q.1 q.2 = .inl (1, q.2.2.1) := if_neg qe
      refine ⟨fun f h => ?_, fun e h => ?_⟩
      · rw [zAll, zbd_r hs, zbd_r h4, zbd_r h5, h6] at h; cases h
        obtain ⟨iv7, y1, y2⟩ := m_bad (X := X) (k := 1) (show 1 ≤ d by omega) hL G6.2.2 (by omega) (by omega)
        rw [show nI 1 = 1 from rfl] at y1
        have h18 : ∀ z, (pm_iw iv7 32 11 z) 32 18 = nI q.2.2.1 := fun z => by rw [iw_s, upd_n (by decide)]; exact y2.2.2.2.2.2.1
        have yy := YF_tr G6 (YF_mo y2 mo)
        refine ⟨pm_iw iv7 32 11 (nI 1), ?_, chg_tr yy.1 (chg_iw (by decide)), fun j hj => by rw [iw_s, upd_n (by omega)]; exact yy.2.1 j (by omega), by rw [iw_s, upd_s]⟩
        rw [r6, b154_122 hL, if_neg (fun u => qe (w.mp u)), b154_130 hL, y1, pm_then_v, b154_135 hL, if_neg (YB_l y2.2.2), b154_142 hL, y2.2.2.2.2.1, h18]
      · rw [zAll, zbd_r hs, zbd_r h4, zbd_r h5, h6] at h; cases h
  · have z0 : zWrd T n 0 (ztk T n 0) = .inl (1, (ztk T n 0).2.1) := if_neg q0
    have hs : zSlp T n (ztk T n 0) = .inl (1, (ztk T n 0).2.1) := by rw [zSlp, zbd_l z0]
    obtain ⟨iv1, a1, a2⟩ := m_must0 (X := X) (show 2 ≤ d by omega) hL ha
    refine ⟨fun f h => ?_, fun e h => ?_⟩
    · rw [zAll, zbd_l hs] at h; cases h
      exact fin (YF_mo a2 mo) (by rw [r0, if_neg q0, b154_47 hL, a1, pm_then_v]) (m_f50 (by omega) hL hn a2.2.2)
    · rw [zAll, zbd_l hs] at h; cases h
theorem m_hill (hd : 7 ≤ d) (hL : pm_lay g) (hn : n ≤ 400) (hb : ∀ i, i < n → T i < 256) (h10 : iv 32 10 = nI n) (h39 : ∀ i, i < n → iv 39 i = nI (T i)) :
    (∀ f, zAll T n = .inl f → ∃ iv', pm_c X d 154 [.ref 32] g iv = some (some (.int (-1000100 - nI f.2)), g, iv') ∧ chg [32, 36, 37] iv iv' ∧ (∀ c, c = 1 ∨ c = 8 ∨ c = 25 → iv' 32 c = iv 32 c) ∧ iv' 32 10 = 0 ∧ iv' 32 11 = nI f.1 ∧ iv' 36 = iv 36) ∧ (∀ e, zAll T n = .inr e → ∃ iv', pm_c X d 154 [.ref 32] g iv = some (some (.int (nI (vN e))), g, iv') ∧ chg [32, 36, 37] iv iv' ∧ (∀ c, c = 1 ∨ c = 25 → iv' 32 c = iv 32 c) ∧ iv' 32 8 = 0 ∧ iv' 32 10 = 0 ∧ iv' 32 11 = iv 32 11 ∧ HAr (iv' 36) e ∧ Zv e) := by
  obtain ⟨d, rfl, hd1⟩ := pm_d1 hd
  generalize hj : pm_iw (pm_iw (pm_iw (pm_iw (pm_iw iv 32 0 0) 32 12 (nI n)) 32 10 0) 32 13 0) 32 17 0 = iv0
  have e0 : iv0 32 = upd (upd (upd (upd (upd (iv 32) 0 0) 12 (nI n)) 10 0) 13 0) 17 0 := by rw [← hj]; simp only [iw_s]
  have ch : chg [32] iv iv0 := by
    rw [← hj]
    exact chg_tr (chg_iw (by decide)) (chg_tr (chg_iw (by decide)) (chg_tr (chg_iw (by decide)) (chg_tr (chg_iw (by decide)) (chg_iw (by decide)))))
  have x12 : iv0 32 12 = nI n := by rw [e0, upd_n (by decide), upd_n (by decide), upd_n (by decide), upd_s]
  have x13 : iv0 32 13 = nI 0 := by rw [e0, upd_n (by decide), upd_s]; rfl
  have x17 : iv0 32 17 = 0 := by rw [e0, upd_s]
  have x10 : iv0 32 10 = 0 := by rw [e0, upd_n (by decide), upd_n (by decide), upd_s]
  have xq : ∀ j, j ≠ 0 → j ≠ 12 → j ≠ 10 → j ≠ 13 → j ≠ 17 → iv0 32 j = iv 32 j := fun j p1 p2 p3 p4 p5 => by rw [e0, upd_n p5, upd_n p4, upd_n p3, upd_n p2, upd_n p1]
  have hx0 : MX T n iv0 := ⟨x12, fun i hi => by rw [ch 39 (by decide)]; exact h39 i hi⟩
  obtain ⟨iv1, a1, a2, a3, a4⟩ := m_nxt (X := X) (d := d - 1) (g := g) (i := 0) (show 2 ≤ d - 1 by omega) hL hn hb hx0 x13 (by omega)
  obtain ⟨iv2, b1, b2, b3⟩ := m_zero_l (X := X) (d := d) (g := g) hL 45 0 iv1 (by omega) (fun j hj => absurd hj (Nat.not_lt_zero j))
  rw [nI_0] at b1
  have f32 : iv2 32 = iv1 32 := b2 32 (by decide)
  have ha : YA T n iv2 (ztk T n 0) := ⟨MX_fr hx0 (by rw [f32, a3 12 (by decide) (by decide) (by decide) (by decide)]) (by rw [b2 39 (by decide), a2 39 (by decide)]), by unfold MZ; rw [f32]; exact a4, Zok_tk (by omega), by rw [f32, a3 17 (by decide) (by decide) (by decide) (by decide), x17]⟩
  have run : pm_c X (d + 1) 154 [.ref 32] g iv = pm_at X d 154 (30, [some (.ref 32), some (.int (nI 45))], [], g, iv2) := by
    have h10' : (pm_iw iv 32 0 0) 32 10 = nI n := by rw [iw_s, upd_n (by decide), h10]
    have ebeg : pm_c X d 142 [.ref 32] g (pm_iw iv 32 0 0) = some (none, g, iv1) := by
      obtain ⟨d, rfl, -⟩ := pm_d1 (show 0 + 1 ≤ d by omega)
      rw [e142, b142_0 hL, h10', hj, show pm_c X d 141 [.ref 32] g iv0 = _ from a1, pm_then_v, b142_27]
    rw [e154, b154_0 hL, ebeg, pm_then_v, b154_9, b1]
  have w := m_hill_r (X := X) (x1 := nI 45) hd1 hL hn hb ha b3
  have c02 : chg [32, 36, 37] iv iv2 := chg_tr (chg_mo ch (by decide)) (chg_tr (chg_mo a2 (by decide)) (chg_mo b2 (by decide)))
  have q02 : ∀ j, j ≠ 0 → j ≠ 10 → (j < 12 ∨ 18 < j) → iv2 32 j = iv 32 j := fun j p0 p1 p2 => by rw [f32, a3 j (by omega) (by omega) (by omega) (by omega), xq j p0 (by omega) p1 (by omega) (by omega)]
  have z10 : iv2 32 10 = 0 := by rw [f32, a3 10 (by decide) (by decide) (by decide) (by decide), x10]
  refine ⟨fun f h => ?_, fun e h => ?_⟩
  · obtain ⟨iv3, c1, c2, c3, c4⟩ := w.1 f h
    refine ⟨iv3, by rw [run, c1], chg_tr c02 (chg_mo c2 (by decide)), fun j hj => ?_, by rw [c3 10 (by omega), z10], c4, by rw [c2 36 (by decide), b2 36 (by decide), a2 36 (by decide), ch 36 (by decide)]⟩
    rw [c3 j (by omega), q02 j (by omega) (by omega) (by omega)]
  · obtain ⟨iv3, c1, c2, c3, c4, c5, c6, c7, c8⟩ := w.2 e h
    refine ⟨iv3, by rw [run, c1], chg_tr c02 c2, fun j hj => ?_, c4, by rw [c5, z10], by rw [c6, q02 11 (by decide) (by decide) (by omega)], c7, c8⟩
    rw [c3 j (by omega), q02 j (by omega) (by omega) (by omega)]
def hilL : List Nat := [5, 7, 11, 12, 13, 14, 15, 16, 17, 21, 22, 23, 24, 25, 26, 27, 32, 36, 37]
theorem CO_hl {iv' : pm_V} {v' : HV} (h : CO g iv v) (hc : chg hilL iv iv') (h32 : ∀ c, c = 1 ∨ c = 25 → iv' 32 c = iv 32 c) (h56 : iv' 5 6 = iv' 32 11) (hT : RT iv') (hv : RV iv' v') (hA : RA iv' v') : CO g iv' v' := by
  obtain ⟨a1, a2, a3, a4, a5, ⟨i1, i2, i3⟩, a7, a8⟩ := h
  have q : ∀ c, c ∉ hilL → iv' c = iv c := hc
  have hi : ∀ c, 46 ≤ c → iv' c = iv c := fun c p => q c (by simp only [hilL, List.mem_cons, List.not_mem_nil, or_false]; omega)
  exact ⟨hv, RR_fr a2 (by rw [q 1 (by decide)]) (q 2 (by decide)) (q 3 (by decide)) (q 4 (by decide)) (q 33 (by decide)) (q 34 (by decide)) (q 35 (by decide)),
    hT, hA, RX_fr a5 (by rw [q 9 (by decide)]) (h32 25 (by omega)) (q 10 (by decide)) (q 45 (by decide)),
    ⟨IM_fr i1 (q 43 (by decide)) (q 44 (by decide)) hi, IM_fr i2 (q 43 (by decide)) (q 44 (by decide)) hi, i3⟩, by rw [q 0 (by decide), h32 1 (by omega)]; exact a7, h56⟩
theorem RT_0 {iv : pm_V} (h1 : iv 5 1 = 0) (h2 : iv 32 10 = 0) : RT iv := ⟨0, by omega, h1, h2, fun i hi => absurd hi (Nat.not_lt_zero i)⟩
theorem q_hill (hd : 10 ≤ d) (h : RL g iv) : PR X d g iv 96 154 [.ref 0] [.ref 32] := by
  obtain ⟨d, rfl, hd1⟩ := pm_d1 hd
  obtain ⟨d2, rfl, hd2⟩ := pm_d1 hd1
  obtain ⟨hg, v, co⟩ := h
  have hL := hg.1
  have hxg := hg.2.1
  obtain ⟨n, hn, t1, t2, t3⟩ := co.2.2.1
  obtain ⟨T, hT⟩ : ∃ T : Nat → Nat, T = fun i => (iv 39 i).toNatClampNeg := ⟨_, rfl⟩
  have hTi : ∀ i, i < n → T i < 256 ∧ iv 39 i = nI (T i) ∧ iv 6 i &&& 255 = nI (T i) := fun i hi => by
    obtain ⟨b, b1, b2, b3⟩ := t3 i hi
    have e : T i = b := by rw [hT]; show (iv 39 i).toNatClampNeg = b; rw [b2, nI_c (by omega)]
    rw [e]
    exact ⟨b1, b2, b3⟩
  have hb : ∀ i, i < n → T i < 256 := fun i hi => (hTi i hi).1
  have hx : ZX T n iv := ⟨t1, fun i hi => (hTi i hi).2.2⟩
  have wc := t_readInto (X := X) (d := d2 + 1) hd1 hL hxg hn hb hx
  have clr : ∀ iv : pm_V, pm_c X (d2 + 1) 70 [.ref 5] g iv = some (none, g, pm_iw iv 5 1 0) := fun iv => by rw [e70, b70_0 hL]
  cases hz : zAll T n with
  | inl f =>
    obtain ⟨iv1, a1, a2, a3, a4⟩ := wc.1 f hz
    generalize hiv1 : pm_iw iv1 5 1 0 = iv1'
    have c1 : chg trL iv iv1' := by rw [← hiv1]; exact chg_tr a2 (chg_iw (by decide))
    have wm := (m_hill (X := X) (d := d2 + 1 + 1) (iv := iv1') (T := T) (n := n) (by omega) hL hn hb (by rw [c1 32 (by decide)]; exact t2) (fun i hi => by rw [c1 39 (by decide)]; exact (hTi i hi).2.1)).1 f hz
    obtain ⟨iv2, b1, b2, b3, b4, b5, b6⟩ := wm
    have f5 : iv2 5 = iv1' 5 := b2 5 (by decide)
    have e51 : iv2 5 1 = 0 := by rw [f5, ← hiv1, iw_s, upd_s]
    have e56 : iv2 5 6 = nI f.1 := by rw [f5, ← hiv1, iw_s, upd_n (by decide), a3]
    have e57 : iv1' 5 7 = nI f.2 := by rw [← hiv1, iw_s, upd_n (by decide), a4]
    have ch : chg hilL iv iv2 := chg_tr (chg_mo c1 (by decide)) (chg_mo b2 (by decide))
    have k32 : ∀ c, c = 1 ∨ c = 8 ∨ c = 25 → iv2 32 c = iv 32 c := fun c hc => by rw [b3 c hc, c1 32 (by decide)]
    have n11 : ∀ c, 11 ≤ c → c ≤ 17 → iv2 c = iv c := fun c p1 p2 => by rw [b2 c (by simp only [List.mem_cons, List.not_mem_nil, or_false]; omega), c1 c (by simp only [trL, List.mem_cons, List.not_mem_nil, or_false]; omega)]
    have e7 : iv2 7 = iv 7 := by rw [b2 7 (by decide), c1 7 (by decide)]
    obtain ⟨a, o, r, r1, r2, r3⟩ := co.2.2.2.1
    refine ⟨-1000100 - nI f.2, iv1', iv2, ?_, b1, hg, v, CO_hl co ch (fun c hc => k32 c (by omega)) (by rw [e56, b5]) (RT_0 e51 b4) (RV_fr co.1 n11 (by rw [b6, c1 36 (by decide)])) ⟨a, o, r, CA_fr r1 (by rw [e7]) (by rw [e7]) (by rw [b2 8 (by decide), c1 8 (by decide)]), MA_fr r2 (k32 8 (by omega)) (by rw [b2 38 (by decide), c1 38 (by decide)]), r3⟩⟩
    rw [e96, b96_0 hL, a1, pm_then_i, b96_11 hL, clr, hiv1, pm_then_v, b96_19, if_neg (not_not_intro rfl), b96_23 hL, e69, b69_0 hL, e57, pm_then_i, b96_32]
  | inr e =>
    obtain ⟨iv1, a1, a2, a3, a4, a5⟩ := wc.2 e hz
    have hS1 : SV (pm_iw iv1 5 1 0) 21 e := SV_fr a4.1 (fun c p1 p2 => iw_n (by omega))
    obtain ⟨iv2, b1, b2, b3⟩ := t_takeFrom (X := X) (d := d2 + 1) (iv := pm_iw iv1 5 1 0) (k := 11) (k2 := 21) (show 1 ≤ d2 + 1 by omega) (lay_now hL) (lay_trial hL) (Or.inl (by omega)) hS1 a5.2.2.1
    generalize hiv3 : pm_iw iv2 7 2 0 = iv3
    have c2 : chg hilL iv iv2 := chg_tr (chg_mo a2 (by decide)) (chg_tr (chg_iw (by decide)) (chg_mo b2 (by decide)))
    have c3 : chg hilL iv iv3 := by rw [← hiv3]; exact chg_tr c2 (chg_iw (by decide))
    have f32 : iv3 32 = iv 32 := by rw [← hiv3, iw_n (by decide), b2 32 (by decide), iw_n (by decide), a2 32 (by decide)]
    have wm := (m_hill (X := X) (d := d2 + 1 + 1) (iv := iv3) (T := T) (n := n) (by omega) hL hn hb (by rw [f32]; exact t2) (fun i hi => by rw [c3 39 (by decide)]; exact (hTi i hi).2.1)).2 e hz
    obtain ⟨iv4, d1, d2', d3, d4, d5, d6, d7, d8⟩ := wm
    have f5 : iv4 5 = (pm_iw iv1 5 1 0) 5 := by rw [d2' 5 (by decide), ← hiv3, iw_n (by decide), b2 5 (by decide)]
    have ch : chg hilL iv iv4 := chg_tr c3 (chg_mo d2' (by decide))
    have n11 : ∀ c, 11 ≤ c → c ≤ 17 → iv4 c = iv2 c := fun c p1 p2 => by rw [d2' c (by simp only [List.mem_cons, List.not_mem_nil, or_false]; omega), ← hiv3, iw_n (by omega)]
    have e7 : iv4 7 = iv3 7 := d2' 7 (by decide)
    obtain ⟨a, o, r, r1, r2, r3⟩ := co.2.2.2.1
    have e71 : iv4 7 1 = nI o := by rw [e7, ← hiv3, iw_s, upd_n (by decide), b2 7 (by decide), iw_n (by decide), a2 7 (by decide)]; exact r1.2.2.1
    have e72 : iv4 7 2 = nI 0 := by rw [e7, ← hiv3, iw_s, upd_s]; rfl
    refine ⟨nI (vN e), iv3, iv4, ?_, d1, hg, e, CO_hl co ch (fun c hc => by rw [d3 c hc, f32]) ?_ (RT_0 (by rw [f5, iw_s, upd_s]) d5) ⟨SV_fr b3 (fun c p1 p2 => n11 c (by omega) (by omega)), d7, d8.2.2.1, d8.2.2.2.1, d8.2.2.2.2.1⟩ ⟨0, o, r, ⟨by omega, r1.2.1, e71, e72, fun j hj => absurd hj (Nat.not_lt_zero j)⟩, ⟨d4, fun j hj => absurd hj (Nat.not_lt_zero j)⟩, fun j hj => absurd hj (Nat.not_lt_zero j)⟩⟩
    · have e11 : iv3 11 = iv2 11 := by rw [← hiv3, iw_n (by decide)]
      rw [e96, b96_0 hL, a1, pm_then_i, b96_11 hL, clr, pm_then_v, b96_19, if_pos (by decide), b96_34 hL, b1, pm_then_v, b96_45 hL, e2, b2_0 hL, hiv3, pm_then_v, b96_52 hL, t_houseCount (by omega) (lay_now hL), pm_then_i, b96_59, e11, b3.2.2.1]
    · rw [f5, iw_s, upd_n (by decide), a3, d6, f32]
      exact co.2.2.2.2.2.2.2
end Y5
