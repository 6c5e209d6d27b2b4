/-! the reference's winter as a whole -/
section M3
variable {X : pm_X} {d : Nat} {g : pm_G} {iv : pm_V} {x y : Int32} {v : HV} {pl bg : Nat → Nat} {he : Nat → Bool} {w : Nat}
theorem m_goWinter_c (hL : pm_lay g) (ho : Hok v) : ∀ m j (iv : pm_V), HAr (iv 36) v → PL iv 40 (vN v) pl → j + m = vN v → PL iv 42 j pl → ∃ iv', pm_at X d 166 (2, [some (.ref 32), some (.int x), some (.int (nI j)), none], [], g, iv) = pm_at X d 166 (30, [some (.ref 32), some (.int x), some (.int (nI (vN v))), none], [], g, iv') ∧ chg [42] iv iv' ∧ PL iv' 42 (vN v) pl := by
  have hN := ho.2.2.1
  intro m
  induction m with
  | zero =>
    intro j iv hv hp hj hb
    have hjn : j = vN v := by omega
    subst hjn
    refine ⟨iv, ?_, chg_rf, hb⟩
    rw [b166_2 hL, hv.2.2.1, if_pos (Int32.le_refl _)]
  | succ m ih =>
    intro j iv hv hp hj hb
    have hlt : j < vN v := by omega
    have hin : vp_in (nI j) 6 := vp_n (by omega) (by decide)
    obtain ⟨iv', e1, e2, e3⟩ := ih (j + 1) (pm_iw iv 42 j (nI (pl j))) (by rw [iw_n (by decide)]; exact hv) (fun h hh => by rw [iw_n (by decide)]; exact hp h hh) (by omega)
      (fun h hh => by
        rw [iw_s]
        by_cases e : h = j
        · rw [e, upd_s]
        · rw [upd_n e]; exact hb h (by omega))
    refine ⟨iv', ?_, chg_tr (chg_iw (by decide)) e2, e3⟩
    rw [b166_2 hL, hv.2.2.1, if_neg (nI_ge hlt (by omega)), b166_12 hL hin, nI_c (by omega), hp j hlt, nI_1]
    exact e1
theorem m_goWinter_y (hd : 4 ≤ d) (hL : pm_lay g) (ho : Hok v) (hkb : Pok v bg) (hw : w < 200000) {y : Nat} (hy : y < vD v) : ∀ m j (iv : pm_V) (pl : Nat → Nat), HAr (iv 36) v → PL iv 40 (vN v) pl → Pok v pl → PL iv 42 (vN v) bg → HE iv (vN v) he → j + m = vN v → ∃ iv', pm_at X d 166 (45, [some (.ref 32), some (.int (nI w)), some (.int (nI y)), some (.int (nI j))], [], g, iv) = pm_at X d 166 (77, [some (.ref 32), some (.int (nI w)), some (.int (nI y)), some (.int (nI (vN v)))], [], g, iv') ∧ chg [40] iv iv' ∧ PL iv' 40 (vN v) (rlY v he bg w y m j pl) := by
  have hN := ho.2.2.1
  have hD := ho.2.1
  intro m
  induction m with
  | zero =>
    intro j iv pl hv hp hk hb hh hj
    have hjn : j = vN v := by omega
    subst hjn
    refine ⟨iv, ?_, chg_rf, hp⟩
    rw [b166_45 hL, hv.2.2.1, if_pos (Int32.le_refl _)]
  | succ m ih =>
    intro j iv pl hv hp hk hb hh hj
    have hlt : j < vN v := by omega
    have hin : vp_in (nI j) 6 := vp_n (by omega) (by decide)
    have hbj := hkb j hlt
    rw [b166_45 hL, hv.2.2.1, if_neg (nI_ge hlt (by omega)), b166_55 hL hin, nI_c (by omega), hb j hlt, rlY]
    by_cases e : bg j = y
    · obtain ⟨iv1, c1, g1, p1⟩ := m_goHouse (X := X) hd hL hv ho hp hk hb hkb hh hw hlt
      have o36 : iv1 36 = iv 36 := g1 36 (by decide)
      have o42 : iv1 42 = iv 42 := g1 42 (by decide)
      have o41 : iv1 41 = iv 41 := g1 41 (by decide)
      obtain ⟨iv', e1, e2, e3⟩ := ih (j + 1) iv1 (rlH v he bg w pl j) (by rw [o36]; exact hv) p1 (Pok_rlH j hk) (fun h hh => by rw [o42]; exact hb h hh) (fun h q => by rw [o41]; exact hh h q) (by omega)
      refine ⟨iv', ?_, chg_tr g1 e2, by rw [if_pos e]; exact e3⟩
      rw [e, if_neg (fun a => a rfl), b166_65 hL, c1, pm_then_v, b166_71, nI_1]
      exact e1
    · obtain ⟨iv', e1, e2, e3⟩ := ih (j + 1) iv pl hv hp hk hb hh (by omega)
      refine ⟨iv', ?_, e2, by rw [if_neg e]; exact e3⟩
      rw [if_pos (fun a => e ((nI_eq (by omega) (by omega)).mp a)), b166_71, nI_1]
      exact e1
theorem m_goWinter_d (hd : 4 ≤ d) (hL : pm_lay g) (ho : Hok v) (hkb : Pok v bg) (hw : w < 200000) : ∀ m (iv : pm_V) (pl : Nat → Nat) (z : Option Value), HAr (iv 36) v → PL iv 40 (vN v) pl → Pok v pl → PL iv 42 (vN v) bg → HE iv (vN v) he → m ≤ vD v → ∃ iv', pm_at X d 166 (39, [some (.ref 32), some (.int (nI w)), some (.int (nI m - 1)), z], [], g, iv) = some (none, g, iv') ∧ chg [40] iv iv' ∧ PL iv' 40 (vN v) (rlD v he bg w m pl) := by
  have hN := ho.2.2.1
  have hD := ho.2.1
  intro m
  induction m with
  | zero =>
    intro iv pl z hv hp hk hb hh hm
    refine ⟨iv, ?_, chg_rf, hp⟩
    rw [b166_39, if_pos (by decide), b166_83]
  | succ m ih =>
    intro iv pl z hv hp hk hb hh hm
    obtain ⟨iv1, c1, g1, p1⟩ := m_goWinter_y (X := X) (he := he) hd hL ho hkb hw (y := m) (by omega) (vN v) 0 iv pl hv hp hk hb hh (by omega)
    have o36 : iv1 36 = iv 36 := g1 36 (by decide)
    have o42 : iv1 42 = iv 42 := g1 42 (by decide)
    have o41 : iv1 41 = iv 41 := g1 41 (by decide)
    obtain ⟨iv', e1, e2, e3⟩ := ih iv1 (rlY v he bg w m (vN v) 0 pl) (some (.int (nI (vN v)))) (by rw [o36]; exact hv) p1 (Pok_rlY _ _ _ hk) (fun h hh => by rw [o42]; exact hb h hh) (fun h q => by rw [o41]; exact hh h q) (by omega)
    refine ⟨iv', ?_, chg_tr g1 e2, e3⟩
    rw [nI_0] at c1
    rw [nI_pred, b166_39, if_neg (nI_pos (by omega)), b166_43, c1, b166_77, show nI m + (-1) = nI m - 1 from (Int32.sub_eq_add_neg (nI m) 1).symm]
    exact e1
theorem m_goWinter (hd : 5 ≤ d) (hL : pm_lay g) (hv : HAr (iv 36) v) (ho : Hok v) (hp : PL iv 40 (vN v) pl) (hk : Pok v pl) (hhe : HE iv (vN v) he) (hw : w < 200000) : ∃ iv', pm_c X d 166 [.ref 32, .int (nI w)] g iv = some (none, g, iv') ∧ chg [40, 42] iv iv' ∧ PL iv' 40 (vN v) (wnt v he w pl) := by
  obtain ⟨d, rfl, hd1⟩ := pm_d1 hd
  obtain ⟨iv1, c1, g1, p1⟩ := m_goWinter_c (X := X) (d := d) (x := nI w) hL ho (vN v) 0 iv hv hp (by omega) (fun h hh => absurd hh (Nat.not_lt_zero h))
  have o36 : iv1 36 = iv 36 := g1 36 (by decide)
  have o40 : iv1 40 = iv 40 := g1 40 (by decide)
  have o41 : iv1 41 = iv 41 := g1 41 (by decide)
  have hv1 : HAr (iv1 36) v := by rw [o36]; exact hv
  obtain ⟨iv2, c2, g2, p2⟩ := m_goWinter_d (X := X) (d := d) (he := he) hd1 hL ho hk hw (vD v) iv1 pl none hv1 (fun h hh => by rw [o40]; exact hp h hh) hk p1 (fun h q => by rw [o41]; exact hhe h q) (Nat.le_refl _)
  refine ⟨iv2, ?_, chg_tr (chg_mo g1 (by intro c hc; simp at hc; simp [hc])) (chg_mo g2 (by intro c hc; simp at hc; simp [hc])), p2⟩
  rw [nI_0] at c1
  simp only [e166]
  rw [b166_0, c1, b166_30 hL, hv1.2.1]
  exact c2
/-- n winters from winter w on -/
def wnts (v : HV) (he : Nat → Bool) (w : Nat) : Nat → (Nat → Nat) → (Nat → Nat)
  | 0, pl => pl
  | n + 1, pl => wnts v he (w + 1) n (wnt v he w pl)
theorem wnts_s (v : HV) (he : Nat → Bool) : ∀ (n w : Nat) (pl : Nat → Nat), wnts v he w (n + 1) pl = wnt v he (w + n) (wnts v he w n pl)
  | 0, w, pl => rfl
  | n + 1, w, pl => by
    rw [wnts, wnts_s v he n (w + 1), wnts, show w + 1 + n = w + (n + 1) by omega]
theorem Pok_wnts {v : HV} {he : Nat → Bool} : ∀ (n w : Nat) (pl : Nat → Nat), Pok v pl → Pok v (wnts v he w n pl)
  | 0, _, _, h => h
  | n + 1, w, pl, h => by rw [wnts]; exact Pok_wnts n _ _ (Pok_wnt h)
theorem m_layAhead_loop (hd : 5 ≤ d) (hL : pm_lay g) (ho : Hok v) {n : Nat} (hn : n ≤ 1000) : ∀ m j (iv : pm_V), HAr (iv 36) v → PL iv 40 (vN v) (wnts v he (vW v) j pl) → Pok v pl → HE iv (vN v) he → j + m = n → ∃ iv', pm_at X d 177 (6, [some (.ref 32), some (.int (nI n)), some (.int (nI j))], [], g, iv) = some (none, g, iv') ∧ chg [40, 42] iv iv' ∧ PL iv' 40 (vN v) (wnts v he (vW v) n pl) := by
  have hW := ho.2.2.2.1
  intro m
  induction m with
  | zero =>
    intro j iv hv hp hk hh hj
    have hjn : j = n := by omega
    subst hjn
    refine ⟨iv, ?_, chg_rf, hp⟩
    rw [b177_6, if_pos (Int32.le_refl _), b177_29]
  | succ m ih =>
    intro j iv hv hp hk hh hj
    obtain ⟨iv1, c1, g1, p1⟩ := m_goWinter (X := X) (w := vW v + j) hd hL hv ho hp (Pok_wnts _ _ _ hk) hh (by omega)
    rw [← wnts_s] at p1
    have o36 : iv1 36 = iv 36 := g1 36 (by decide)
    have o41 : iv1 41 = iv 41 := g1 41 (by decide)
    obtain ⟨iv', e1, e2, e3⟩ := ih (j + 1) iv1 (by rw [o36]; exact hv) p1 hk (fun h q => by rw [o41]; exact hh h q) (by omega)
    refine ⟨iv', ?_, chg_tr g1 e2, e3⟩
    rw [b177_6, if_neg (nI_ge (by omega) (by omega)), b177_11 hL, hv.2.2.2.1, nI_add, c1, pm_then_v, b177_23, nI_1]
    exact e1
theorem m_layAhead (hd : 6 ≤ d) (hL : pm_lay g) (hv : HAr (iv 36) v) (ho : Hok v) {n : Nat} (hn : n ≤ 1000) : ∃ iv', pm_c X d 177 [.ref 32, .int (nI n)] g iv = some (none, g, iv') ∧ chg [40, 41, 42] iv iv' ∧ PL iv' 40 (vN v) (wnts v (vC v) (vW v) n (vy v)) := by
  obtain ⟨d, rfl, hd1⟩ := pm_d1 hd
  obtain ⟨iv1, c1, g1, p1, h1⟩ := m_layNow (X := X) (d := d) (by omega) hL hv ho
  have o36 : iv1 36 = iv 36 := g1 36 (by decide)
  have hv1 : HAr (iv1 36) v := by rw [o36]; exact hv
  obtain ⟨iv2, c2, g2, p2⟩ := m_layAhead_loop (X := X) (d := d) (he := vC v) (pl := vy v) hd1 hL ho hn n 0 iv1 hv1 p1 (fun h hh => (ho.2.2.2.2.2 h hh).2.1) h1 (by omega)
  refine ⟨iv2, ?_, chg_tr (chg_mo g1 (by intro c hc; simp at hc; simp; omega)) (chg_mo g2 (by intro c hc; simp at hc; simp; omega)), p2⟩
  rw [nI_0] at c2
  simp only [e177]
  rw [b177_0 hL, c1, pm_then_v, b177_4]
  exact c2
end M3
