/-! hill -/
section Y4
variable {X : pm_X} {d n : Nat} {g : pm_G} {iv : pm_V} {T : Nat → Nat} {c : ZT} {v : HV} {x1 x : Int32} {f : Nat × Nat}
/-- the reference ended at the fault f -/
def HF (iv iv' : pm_V) (f : Nat × Nat) : Prop := chg [32, 37] iv iv' ∧ (∀ c, c < 11 ∨ 18 < c → iv' 32 c = iv 32 c) ∧ iv' 32 11 = nI f.1
theorem HF_tr {a b iv' : pm_V} (h1 : chg [32, 37] a b) (h2 : y32 a b) (h : HF b iv' f) : HF a iv' f := ⟨chg_tr h1 h.1, fun j hj => (h.2.1 j hj).trans (h2 j (by omega)), h.2.2⟩
theorem YB_37 {i : Nat} {z : Int32} (h : YB T n iv f) : YB T n (pm_iw iv 37 i z) f := by
  obtain ⟨h1, ⟨e, e1, e2⟩, h3⟩ := h
  have q : (pm_iw iv 37 i z) 32 = iv 32 := iw_n (by decide)
  exact ⟨MX_fr h1 (by rw [q]) (iw_n (by decide)), ⟨e, by unfold MZ; rw [q]; exact e1, e2⟩, by rw [q]; exact h3⟩
theorem YA_37 {i : Nat} {z : Int32} (h : YA T n iv c) : YA T n (pm_iw iv 37 i z) c := by
  obtain ⟨h1, h2, h3, h4⟩ := h
  have q : (pm_iw iv 37 i z) 32 = iv 32 := iw_n (by decide)
  exact ⟨MX_fr h1 (by rw [q]) (iw_n (by decide)), by unfold MZ; rw [q]; exact h2, h3, by rw [q]; exact h4⟩
theorem lg_no {K : Int64} (h : ¬ (0 : Int64) = K) : ¬ lg_cmp 0 K = 0 := fun u => h (lgc_eq.mp u)
theorem in0_45 : vp_in (0 : Int32) 45 := vp_n (j := 0) (by decide) (by decide)
theorem in1_45 : vp_in (1 : Int32) 45 := vp_n (j := 1) (by decide) (by decide)
theorem m_f97 (hd : 1 ≤ d) (hL : pm_lay g) (hn : n ≤ 400) (hb : YB T n iv f) : ∃ iv', pm_at X d 154 (97, [some (.ref 32), some (.int x1)], [], g, iv) = some (some (.int (-1000100 - nI f.2)), g, iv') ∧ HF iv iv' f := by
  have h18 : ∀ z, (pm_iw iv 32 11 z) 32 18 = nI f.2 := fun z => by rw [iw_s, upd_n (by decide)]; exact hb.2.2.2.1
  refine ⟨pm_iw iv 32 11 (nI f.1), ?_, chg_iw (by decide), fun j hj => by rw [iw_s, upd_n (by omega)], by rw [iw_s, upd_s]⟩
  rw [b154_97 hL, m_nameB hd hL hn hb, pm_then_l, b154_101, if_pos (lg_no (by decide)), b154_115 hL, if_pos (YB_n hb), b154_135 hL, if_neg (YB_l hb), b154_142 hL, hb.2.2.1, h18]
theorem m_f79 (hd : 1 ≤ d) (hL : pm_lay g) (hn : n ≤ 400) (hb : YB T n iv f) : ∃ iv', pm_at X d 154 (79, [some (.ref 32), some (.int x1)], [], g, iv) = some (some (.int (-1000100 - nI f.2)), g, iv') ∧ HF iv iv' f := by
  obtain ⟨iv', a1, a2⟩ := m_f97 (X := X) (x1 := x1) hd hL hn hb
  refine ⟨iv', ?_, a2⟩
  rw [b154_79 hL, m_nameB hd hL hn hb, pm_then_l, b154_83, if_pos (lg_no (by decide)), a1]
theorem m_f74 (hd : 1 ≤ d) (hL : pm_lay g) (hn : n ≤ 400) (hb : YB T n iv f) : ∃ iv', pm_at X d 154 (74, [some (.ref 32), some (.int x1)], [.int x, .int 1, .ref 37], g, iv) = some (some (.int (-1000100 - nI f.2)), g, iv') ∧ HF iv iv' f := by
  obtain ⟨iv', a1, a2⟩ := m_f79 (X := X) (x1 := x1) hd hL hn (YB_37 (i := 1) (z := x) hb)
  refine ⟨iv', ?_, HF_tr (chg_iw (by decide)) (fun j _ => by rw [iw_n (by decide)]) a2⟩
  rw [b154_74 hL in1_45, show (1 : Int32).toNatClampNeg = 1 from rfl, m_mustEndB hd hL (YB_37 hb), pm_then_v, a1]
theorem m_f61 (hd : 1 ≤ d) (hL : pm_lay g) (hn : n ≤ 400) (hb : YB T n iv f) : ∃ iv', pm_at X d 154 (61, [some (.ref 32), some (.int x1)], [.int x, .int 0, .ref 37], g, iv) = some (some (.int (-1000100 - nI f.2)), g, iv') ∧ HF iv iv' f := by
  obtain ⟨iv', a1, a2⟩ := m_f74 (X := X) (x1 := x1) (x := 0) hd hL hn (YB_37 (i := 0) (z := x) hb)
  refine ⟨iv', ?_, HF_tr (chg_iw (by decide)) (fun j _ => by rw [iw_n (by decide)]) a2⟩
  rw [b154_61 hL in0_45, show (0 : Int32).toNatClampNeg = 0 from rfl, m_numberB hd hL (YB_37 hb), pm_then_i, a1]
theorem m_f50 (hd : 1 ≤ d) (hL : pm_lay g) (hn : n ≤ 400) (hb : YB T n iv f) : ∃ iv', pm_at X d 154 (50, [some (.ref 32), some (.int x1)], [], g, iv) = some (some (.int (-1000100 - nI f.2)), g, iv') ∧ HF iv iv' f := by
  obtain ⟨iv', a1, a2⟩ := m_f61 (X := X) (x1 := x1) (x := 0) hd hL hn hb
  refine ⟨iv', ?_, a2⟩
  rw [b154_50 hL, m_numberB hd hL hb, pm_then_i, a1]
theorem m_stL (hd : 5 ≤ d) (hL : pm_lay g) (hn : n ≤ 400) (hb : ∀ i, i < n → T i < 256) : ∀ m t (iv : pm_V) (v : HV) (c : ZT), t + m = 8 → YA T n iv c → ZR iv v t → Zv v → vN v = 0 →
    (∀ f, zStL T n m v c = .inl f → ∃ iv', pm_at X d 154 (79, [some (.ref 32), some (.int x1)], [], g, iv) = pm_at X d 154 (79, [some (.ref 32), some (.int x1)], [], g, iv') ∧ YF [32, 37] T n iv iv' f) ∧ (∀ e, zStL T n m v c = .inr e → ∃ iv' t', pm_at X d 154 (79, [some (.ref 32), some (.int x1)], [], g, iv) = pm_at X d 154 (97, [some (.ref 32), some (.int x1)], [], g, iv') ∧ YG [32, 37] T n iv iv' e.2 ∧ ZR iv' e.1 t' ∧ Zv e.1 ∧ vN e.1 = 0) := by
  have go : ∀ (iv : pm_V) (c : ZT), YA T n iv c → pm_at X d 154 (79, [some (.ref 32), some (.int x1)], [], g, iv) = if zis T 1 c = true then pm_at X d 154 (90, [some (.ref 32), some (.int x1)], [], g, iv) else pm_at X d 154 (97, [some (.ref 32), some (.int x1)], [], g, iv) := fun iv c ha => by
    have k : lg_cmp (lN (znm T c)) 495874698853 = 0 ↔ zis T 1 c = true := by
      rw [lgc_eq, show (495874698853 : Int64) = lN (zK 1) by decide +kernel, pk_lEQ (znm_lt hb ha.2.2.1) (by decide +kernel)]
      exact znm_W hb ha.2.2.1 (by decide)
    rw [b154_79 hL, m_name (by omega) hL hn hb ha.1 ha.2.1 ha.2.2.1 ha.2.2.2, pm_then_l, b154_83]
    by_cases q : zis T 1 c = true
    · rw [if_neg (not_not_intro (k.mpr q)), if_pos q]
    · rw [if_pos (fun u => q (k.mp u)), if_neg q]
  intro m
  induction m with
  | zero =>
    intro t iv v c ht ha hr hz hN
    have e : t = 8 := by omega
    subst e
    have g0 := go iv c ha
    rw [zStL]
    by_cases q : zis T 1 c = true
    · rw [if_pos q] at g0 ⊢
      refine ⟨fun f h => ?_, fun e h => (by cases h)⟩
      cases h
      obtain ⟨iv', a1, a2⟩ := m_readStone8 (X := X) hd hL hn hb ha hr
      exact ⟨iv', by rw [g0, b154_90 hL, a1, pm_then_v, b154_94], a2⟩
    · rw [if_neg q] at g0 ⊢
      refine ⟨fun f h => (by cases h), fun e h => ?_⟩
      cases h
      exact ⟨iv, _, g0, ⟨chg_rf, y32_rf, ha⟩, hr, hz, hN⟩
  | succ m ih =>
    intro t iv v c ht ha hr hz hN
    have g0 := go iv c ha
    rw [zStL]
    by_cases q : zis T 1 c = true
    · rw [if_pos q] at g0 ⊢
      have w := m_readStone (X := X) hd hL hn hb ha hz hN hr (by omega)
      cases h1 : zStn T n v c with
      | inl f1 =>
        obtain ⟨iv1, b1, b2⟩ := w.1 f1 h1
        refine ⟨fun f h => ?_, fun e h => ?_⟩
        · rw [zbd_l rfl] at h; cases h
          exact ⟨iv1, by rw [g0, b154_90 hL, b1, pm_then_v, b154_94], b2⟩
        · rw [zbd_l rfl] at h; cases h
      | inr r =>
        obtain ⟨iv1, b1, b2, b3, b4, b5⟩ := w.2 r h1
        obtain ⟨i1, i2⟩ := ih (t + 1) iv1 r.1 r.2 (by omega) b2.2.2 b3 b4 b5
        have r2 : pm_at X d 154 (79, [some (.ref 32), some (.int x1)], [], g, iv) = pm_at X d 154 (79, [some (.ref 32), some (.int x1)], [], g, iv1) := by
          rw [g0, b154_90 hL, b1, pm_then_v, b154_94]
        refine ⟨fun f h => ?_, fun e h => ?_⟩
        · rw [zbd_r rfl] at h
          obtain ⟨iv2, c1, c2⟩ := i1 f h
          exact ⟨iv2, by rw [r2, c1], YF_tr b2 c2⟩
        · rw [zbd_r rfl] at h
          obtain ⟨iv2, t', c1, c2, c3⟩ := i2 e h
          exact ⟨iv2, t', by rw [r2, c1], YG_tr b2 c2, c3⟩
    · rw [if_neg q] at g0 ⊢
      refine ⟨fun f h => (by cases h), fun e h => ?_⟩
      cases h
      exact ⟨iv, _, g0, ⟨chg_rf, y32_rf, ha⟩, hr, hz, hN⟩
theorem m_hsL {t : Nat} (hd : 5 ≤ d) (hL : pm_lay g) (hn : n ≤ 400) (hb : ∀ i, i < n → T i < 256) : ∀ m (iv : pm_V) (v : HV) (c : ZT), vN v + m = 6 → YA T n iv c → ZR iv v t → Zv v →
    (∀ f, zHsL T n m v c = .inl f → ∃ iv', pm_at X d 154 (97, [some (.ref 32), some (.int x1)], [], g, iv) = pm_at X d 154 (97, [some (.ref 32), some (.int x1)], [], g, iv') ∧ YF [32, 37] T n iv iv' f) ∧ (∀ e, zHsL T n m v c = .inr e → ∃ iv', pm_at X d 154 (97, [some (.ref 32), some (.int x1)], [], g, iv) = pm_at X d 154 (115, [some (.ref 32), some (.int x1)], [], g, iv') ∧ YG [32, 37] T n iv iv' e.2 ∧ ZR iv' e.1 t ∧ Zv e.1) := by
  have go : ∀ (iv : pm_V) (c : ZT), YA T n iv c → pm_at X d 154 (97, [some (.ref 32), some (.int x1)], [], g, iv) = if zis T 2 c = true then pm_at X d 154 (108, [some (.ref 32), some (.int x1)], [], g, iv) else pm_at X d 154 (115, [some (.ref 32), some (.int x1)], [], g, iv) := fun iv c ha => by
    have k : lg_cmp (lN (znm T c)) 448546567013 = 0 ↔ zis T 2 c = true := by
      rw [lgc_eq, show (448546567013 : Int64) = lN (zK 2) by decide +kernel, pk_lEQ (znm_lt hb ha.2.2.1) (by decide +kernel)]
      exact znm_W hb ha.2.2.1 (by decide)
    rw [b154_97 hL, m_name (by omega) hL hn hb ha.1 ha.2.1 ha.2.2.1 ha.2.2.2, pm_then_l, b154_101]
    by_cases q : zis T 2 c = true
    · rw [if_neg (not_not_intro (k.mpr q)), if_pos q]
    · rw [if_pos (fun u => q (k.mp u)), if_neg q]
  intro m
  induction m with
  | zero =>
    intro iv v c ht ha hr hz
    have g0 := go iv c ha
    rw [zHsL]
    by_cases q : zis T 2 c = true
    · rw [if_pos q] at g0 ⊢
      refine ⟨fun f h => ?_, fun e h => (by cases h)⟩
      cases h
      obtain ⟨iv', a1, a2⟩ := m_readHouse6 (X := X) hd hL hn hb ha (by rw [hr.1.2.2.1, show vN v = 6 by omega]; rfl)
      exact ⟨iv', by rw [g0, b154_108 hL, a1, pm_then_v, b154_112], a2⟩
    · rw [if_neg q] at g0 ⊢
      refine ⟨fun f h => (by cases h), fun e h => ?_⟩
      cases h
      exact ⟨iv, g0, ⟨chg_rf, y32_rf, ha⟩, hr, hz⟩
  | succ m ih =>
    intro iv v c ht ha hr hz
    have g0 := go iv c ha
    rw [zHsL]
    by_cases q : zis T 2 c = true
    · rw [if_pos q] at g0 ⊢
      have w := m_readHouse (X := X) hd hL hn hb ha hz (by omega) hr
      cases h1 : zHse T n v c with
      | inl f1 =>
        obtain ⟨iv1, b1, b2⟩ := w.1 f1 h1
        refine ⟨fun f h => ?_, fun e h => ?_⟩
        · rw [zbd_l rfl] at h; cases h
          exact ⟨iv1, by rw [g0, b154_108 hL, b1, pm_then_v, b154_112], b2⟩
        · rw [zbd_l rfl] at h; cases h
      | inr r =>
        obtain ⟨iv1, b1, b2, b3, b4, b5⟩ := w.2 r h1
        obtain ⟨i1, i2⟩ := ih iv1 r.1 r.2 (by omega) b2.2.2 b3 b4
        have r2 : pm_at X d 154 (97, [some (.ref 32), some (.int x1)], [], g, iv) = pm_at X d 154 (97, [some (.ref 32), some (.int x1)], [], g, iv1) := by
          rw [g0, b154_108 hL, b1, pm_then_v, b154_112]
        refine ⟨fun f h => ?_, fun e h => ?_⟩
        · rw [zbd_r rfl] at h
          obtain ⟨iv2, c1, c2⟩ := i1 f h
          exact ⟨iv2, by rw [r2, c1], YF_tr b2 c2⟩
        · rw [zbd_r rfl] at h
          obtain ⟨iv2, c1, c2, c3⟩ := i2 e h
          exact ⟨iv2, by rw [r2, c1], YG_tr b2 c2, c3⟩
    · rw [if_neg q] at g0 ⊢
      refine ⟨fun f h => (by cases h), fun e h => ?_⟩
      cases h
      exact ⟨iv, g0, ⟨chg_rf, y32_rf, ha⟩, hr, hz⟩
theorem m_zero_l (hL : pm_lay g) : ∀ m i (iv : pm_V), i + m = 45 → (∀ j, j < i → iv 37 j = 0) → ∃ iv', pm_at X d 154 (11, [some (.ref 32), some (.int (nI i))], [], g, iv) = pm_at X d 154 (30, [some (.ref 32), some (.int (nI 45))], [], g, iv') ∧ chg [37] iv iv' ∧ ∀ j, j < 45 → iv' 37 j = 0 := by
  intro m
  induction m with
  | zero =>
    intro i iv h hj
    have e : i = 45 := by omega
    subst e
    exact ⟨iv, by rw [b154_11, if_pos (show (45 : Int32) ≤ nI 45 from Int32.le_refl _)], chg_rf, hj⟩
  | succ m ih =>
    intro i iv h hj
    obtain ⟨iv', a1, a2, a3⟩ := ih (i + 1) (pm_iw iv 37 i 0) (by omega) (fun j hj' => by
      rw [iw_s]
      by_cases e : j = i
      · rw [e, upd_s]
      · rw [upd_n e]; exact hj j (by omega))
    refine ⟨iv', ?_, chg_tr (chg_iw (by decide)) a2, a3⟩
    rw [b154_11, if_neg (show ¬ (45 : Int32) ≤ nI i by rw [le_i, show (45 : Int32).toInt = 45 from rfl, nI_t (by omega)]; omega), b154_17 hL (vp_n (by omega) (by decide)), nI_c (by omega), nI_1, a1]
theorem m_copy_l (hL : pm_lay g) : ∀ m i (iv : pm_V), i + m = 45 → (∀ j, j < i → iv 36 j = iv 37 j) → ∃ iv', pm_at X d 154 (165, [some (.ref 32), some (.int (nI i))], [], g, iv) = pm_at X d 154 (189, [some (.ref 32), some (.int (nI 45))], [], g, iv') ∧ chg [36] iv iv' ∧ ∀ j, j < 45 → iv' 36 j = iv' 37 j := by
  intro m
  induction m with
  | zero =>
    intro i iv h hj
    have e : i = 45 := by omega
    subst e
    exact ⟨iv, by rw [b154_165, if_pos (show (45 : Int32) ≤ nI 45 from Int32.le_refl _)], chg_rf, hj⟩
  | succ m ih =>
    intro i iv h hj
    obtain ⟨iv', a1, a2, a3⟩ := ih (i + 1) (pm_iw iv 36 i (iv 37 i)) (by omega) (fun j hj' => by
      rw [iw_s, iw_n (by decide)]
      by_cases e : j = i
      · rw [e, upd_s]
      · rw [upd_n e]; exact hj j (by omega))
    refine ⟨iv', ?_, chg_tr (chg_iw (by decide)) a2, a3⟩
    rw [b154_165, if_neg (show ¬ (45 : Int32) ≤ nI i by rw [le_i, show (45 : Int32).toInt = 45 from rfl, nI_t (by omega)]; omega), b154_171 hL (vp_n (by omega) (by decide)), nI_c (by omega), nI_1, a1]
end Y4
