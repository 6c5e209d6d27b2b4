/-! the reference reads stones, houses -/
section Y2
variable {X : pm_X} {d n : Nat} {g : pm_G} {iv : pm_V} {T : Nat → Nat} {c : ZT} {v : HV} {x : Int32} {f : Nat × Nat}
theorem m_readStone {t : Nat} (hd : 5 ≤ d) (hL : pm_lay g) (hn : n ≤ 400) (hb : ∀ i, i < n → T i < 256) (ha : YA T n iv c) (hz : Zv v) (hN : vN v = 0) (hr : ZR iv v t) (ht : t < 8) :
    (∀ f, zStn T n v c = .inl f → ∃ iv', pm_c X d 151 [.ref 32] g iv = some (none, g, iv') ∧ YF [32, 37] T n iv iv' f) ∧ (∀ e, zStn T n v c = .inr e → ∃ iv', pm_c X d 151 [.ref 32] g iv = some (none, g, iv') ∧ YG [32, 37] T n iv iv' e.2 ∧ ZR iv' e.1 (t + 1) ∧ Zv e.1 ∧ vN e.1 = 0) := by
  obtain ⟨d, rfl, hd1⟩ := pm_d1 hd
  have mo : ∀ c, c ∈ [32] → c ∈ [32, 37] := by decide
  have ho := hz.2.2.1
  have hL4 := ho.1
  have hD20 := ho.2.1
  have hL1 := hz.1
  have hD1 := hz.2.1
  have eL : nI (vL v) - 1 = nI (vL v - 1) := pk_sub (a := vL v) (b := 1) hL1
  have eD : nI (vD v) - 1 = nI (vD v - 1) := pk_sub (a := vD v) (b := 1) hD1
  have n8 : ¬ iv 37 2 = 8 := by
    rw [hr.2.1]
    exact fun u => by have := (nI_eq (a := t) (b := 8) (by omega) (by decide)).mp u; omega
  obtain ⟨iv0, a1, a2⟩ := m_begins1 (X := X) (s := 2) hd1 hL hn hb ha (by decide) n8
  rw [show nI 2 = 2 from rfl] at a1
  have hr0 := ZR_fr hr (a2.1 37 (by decide))
  have w1 := m_number (X := X) (lo := 0) (hi := vL v - 1) (show 4 ≤ d by omega) hL hn hb a2.2.2 (by decide) (by omega)
  have r1 : pm_c X (d + 1) 151 [.ref 32] g iv = pm_then X d 151 20 [some (.ref 32), none, none] [] (pm_c X d 147 [.ref 32, .int (nI 0), .int (nI (vL v - 1))] g iv0) := by
    rw [e151, b151_0 hL, a1, pm_then_v, b151_7 hL, hr0.1.1, eL]
    rfl
  cases h1 : zNum T n 0 (vL v - 1) (znx T n c) with
  | inl f1 =>
    obtain ⟨iv2, r, b1, b2⟩ := w1.1 f1 h1
    refine ⟨fun f h => ?_, fun e h => ?_⟩
    · rw [zStn, zbd_l h1] at h; cases h
      refine ⟨iv2, ?_, YF_mo (YF_tr a2 b2) mo⟩
      rw [r1, b1, pm_then_i, b151_20 hL, m_numberB (by omega) hL b2.2.2, pm_then_i, b151_34 hL, m_mustEndB (by omega) hL b2.2.2, pm_then_v, b151_39 hL, if_pos (YB_n b2.2.2), b151_70]
    · rw [zStn, zbd_l h1] at h; cases h
  | inr p =>
  obtain ⟨iv2, b1, b2⟩ := w1.2 p h1
  obtain ⟨-, -, p1, p2⟩ := zNum_i h1
  have hr2 := ZR_fr hr0 (b2.1 37 (by decide))
  have w2 := m_number (X := X) (lo := 0) (hi := vD v - 1) (show 4 ≤ d by omega) hL hn hb b2.2.2 (by decide) (by omega)
  have r2 : pm_c X (d + 1) 151 [.ref 32] g iv = pm_then X d 151 34 [some (.ref 32), some (.int (nI p.1)), none] [] (pm_c X d 147 [.ref 32, .int (nI 0), .int (nI (vD v - 1))] g iv2) := by
    rw [r1, b1, pm_then_i, b151_20 hL, hr2.1.2.1, eD]
    rfl
  cases h2 : zNum T n 0 (vD v - 1) p.2 with
  | inl f2 =>
    obtain ⟨iv3, r, d1, d2⟩ := w2.1 f2 h2
    refine ⟨fun f h => ?_, fun e h => ?_⟩
    · rw [zStn, zbd_r h1, zbd_l h2] at h; cases h
      refine ⟨iv3, ?_, YF_mo (YF_tr a2 (YF_tr b2 d2)) mo⟩
      rw [r2, d1, pm_then_i, b151_34 hL, m_mustEndB (by omega) hL d2.2.2, pm_then_v, b151_39 hL, if_pos (YB_n d2.2.2), b151_70]
    · rw [zStn, zbd_r h1, zbd_l h2] at h; cases h
  | inr q =>
  obtain ⟨iv3, d1, d2⟩ := w2.2 q h2
  obtain ⟨-, -, q1, q2⟩ := zNum_i h2
  have hr3 := ZR_fr hr2 (d2.1 37 (by decide))
  have w3 := m_mustEnd (X := X) (show 4 ≤ d by omega) hL hn hb d2.2.2
  have r3 : pm_c X (d + 1) 151 [.ref 32] g iv = pm_then X d 151 39 [some (.ref 32), some (.int (nI p.1)), some (.int (nI q.1))] [] (pm_c X d 149 [.ref 32] g iv3) := by
    rw [r2, d1, pm_then_i, b151_34 hL]
  cases h3 : zSgn T n q.2 with
  | inl f3 =>
    obtain ⟨iv4, s1, s2⟩ := w3.1 f3 h3
    refine ⟨fun f h => ?_, fun e h => ?_⟩
    · rw [zStn, zbd_r h1, zbd_r h2, zbd_l h3] at h; cases h
      exact ⟨iv4, by rw [r3, s1, pm_then_v, b151_39 hL, if_pos (YB_n s2.2.2), b151_70], YF_mo (YF_tr a2 (YF_tr b2 (YF_tr d2 s2))) mo⟩
    · rw [zStn, zbd_r h1, zbd_r h2, zbd_l h3] at h; cases h
  | inr e3 =>
  obtain ⟨iv4, s1, s2⟩ := w3.2 e3 h3
  have hr4 := ZR_fr hr3 (s2.1 37 (by decide))
  refine ⟨fun f h => ?_, fun e h => ?_⟩
  · rw [zStn, zbd_r h1, zbd_r h2, zbd_r h3] at h; cases h
  · rw [zStn, zbd_r h1, zbd_r h2, zbd_r h3] at h; cases h
    have e5 : 5 + nI p.1 = nI (5 + p.1) := nI_add 5 p.1
    have hin : vp_in (5 + nI p.1) 45 := by rw [e5]; exact vp_n (by omega) (by decide)
    have c5 : (5 + nI p.1).toNatClampNeg = 5 + p.1 := by rw [e5]; exact nI_c (by omega)
    have G0 : YG [32, 37] T n iv iv4 e3 := YG_mo (YG_tr a2 (YG_tr b2 (YG_tr d2 s2))) mo
    have e32 : (pm_iw (pm_iw iv4 37 (5 + p.1) (iv4 37 (5 + p.1) ||| (1 <<< (nI q.1 &&& 31)))) 37 2 (nI (t + 1))) 32 = iv4 32 := by rw [iw_n (by decide), iw_n (by decide)]
    have e39 : (pm_iw (pm_iw iv4 37 (5 + p.1) (iv4 37 (5 + p.1) ||| (1 <<< (nI q.1 &&& 31)))) 37 2 (nI (t + 1))) 39 = iv4 39 := by rw [iw_n (by decide), iw_n (by decide)]
    refine ⟨pm_iw (pm_iw iv4 37 (5 + p.1) (iv4 37 (5 + p.1) ||| (1 <<< (nI q.1 &&& 31)))) 37 2 (nI (t + 1)), ?_, ⟨chg_tr G0.1 (chg_tr (chg_iw (by decide)) (chg_iw (by decide))), fun j hj => by rw [e32]; exact G0.2.1 j hj, ?_⟩, ⟨?_, ?_, fun h hh => ?_⟩, Zv_aS hz hN (by omega) (by omega), hN⟩
    · have h2' : (pm_iw iv4 37 (5 + p.1) (iv4 37 (5 + p.1) ||| (1 <<< (nI q.1 &&& 31)))) 37 2 = nI t := by rw [iw_s, upd_n (by omega), hr4.2.1]
      rw [r3, s1, pm_then_v, b151_39 hL, if_neg (not_not_intro G0.2.2.2.2.2), b151_46 hL hin, b151_70, c5, h2', nI_1]
    · obtain ⟨-, -, k1, k2, k3, k4⟩ := G0
      exact ⟨MX_fr k1 (by rw [e32]) e39, by unfold MZ; rw [e32]; exact k2, k3, by rw [e32]; exact k4⟩
    · rw [iw_s, iw_s]
      exact HAr_aS hr4.1 (by omega) (by omega)
    · rw [iw_s, upd_s]
    · rw [iw_s, upd_n (by omega), upd_n (by omega), iw_s, upd_n (by omega), upd_n (by omega)]
      exact hr4.2.2 h hh
theorem m_readStone8 (hd : 5 ≤ d) (hL : pm_lay g) (hn : n ≤ 400) (hb : ∀ i, i < n → T i < 256) (ha : YA T n iv c) (hr : ZR iv v 8) : ∃ iv', pm_c X d 151 [.ref 32] g iv = some (none, g, iv') ∧ YF [32, 37] T n iv iv' (3, c.2.1) := by
  obtain ⟨d, rfl, hd1⟩ := pm_d1 hd
  obtain ⟨iv2, a1, b2⟩ := m_begins0 (X := X) (s := 2) (k := 0) hd1 hL hn hb ha (by decide) (show iv 37 2 = 8 from hr.2.1)
  rw [show nI 2 = 2 from rfl] at a1
  refine ⟨iv2, ?_, YF_mo b2 (by decide)⟩
  rw [e151, b151_0 hL, a1, pm_then_v, b151_7 hL, m_numberB (by omega) hL b2.2.2, pm_then_i, b151_20 hL, m_numberB (by omega) hL b2.2.2, pm_then_i, b151_34 hL, m_mustEndB (by omega) hL b2.2.2, pm_then_v, b151_39 hL, if_pos (YB_n b2.2.2), b151_70]
/-- the reference's isTaken -/
theorem m_taken_l {l y t : Nat} (hL : pm_lay g) (hr : ZR iv v t) (ho : Hok v) (hl : l < 4) (hy : y < 1000) : ∀ m j (b : Bool), j + m = vN v → (b = true ↔ (vS v l y = true ∨ ∃ i, i < j ∧ vl v i = l ∧ vy v i = y)) → pm_at X d 152 (25, [some (.ref 32), some (.int (nI l)), some (.int (nI y)), some (.int (if b = true then 1 else 0)), some (.int (nI j))], [], g, iv) = some (some (.int (if (vS v l y = true ∨ ∃ i, i < vN v ∧ vl v i = l ∧ vy v i = y) then 1 else 0)), g, iv) := by
  have hN := ho.2.2.1
  intro m
  induction m with
  | zero =>
    intro j b hj hb
    have e : j = vN v := by omega
    subst e
    rw [b152_25 hL, hr.1.2.2.1, if_pos (Int32.le_refl _), b152_90, zrB]
    by_cases q : b = true
    · rw [if_pos q, if_pos (hb.mp q)]
    · rw [if_neg q, if_neg (fun u => q (hb.mpr u))]
  | succ m ih =>
    intro j b hj hb
    have hlt : j < vN v := by omega
    obtain ⟨-, e1, e2, -, -, -⟩ := hr.1.2.2.2.2.2 j hlt
    obtain ⟨o1, o2, -, -⟩ := ho.2.2.2.2.2 j hlt
    have hL4 := ho.1
    have hD := ho.2.1
    have i1 : 9 + 6 * nI j + 1 = nI (9 + 6 * j + 1) := of_ix (j := j) (w := 1)
    have i2 : 9 + 6 * nI j + 2 = nI (9 + 6 * j + 2) := of_ix (j := j) (w := 2)
    have v1 : vp_in (9 + 6 * nI j + 1) 45 := by rw [i1]; exact vp_n (by omega) (by decide)
    have v2 : vp_in (9 + 6 * nI j + 2) 45 := by rw [i2]; exact vp_n (by omega) (by decide)
    have c1 : (9 + 6 * nI j + 1).toNatClampNeg = 9 + 6 * j + 1 := by rw [i1]; exact nI_c (by omega)
    have c2 : (9 + 6 * nI j + 2).toNatClampNeg = 9 + 6 * j + 2 := by rw [i2]; exact nI_c (by omega)
    have el : nI (vl v j) = nI l ↔ vl v j = l := nI_eq (by omega) (by omega)
    have ey : nI (vy v j) = nI y ↔ vy v j = y := nI_eq (by omega) (by omega)
    rw [b152_25 hL, hr.1.2.2.1, if_neg (nI_ge hlt (by omega)), b152_36]
    have tr : ∀ b' : Bool, (b' = true ↔ (b = true ∨ (vl v j = l ∧ vy v j = y))) → pm_at X d 152 (83, [some (.ref 32), some (.int (nI l)), some (.int (nI y)), some (.int (if b = true then 1 else 0)), some (.int (nI j))], [.int (if b' = true then 1 else 0)], g, iv) = some (some (.int (if (vS v l y = true ∨ ∃ i, i < vN v ∧ vl v i = l ∧ vy v i = y) then 1 else 0)), g, iv) := fun b' hb' => by
      rw [b152_83, nI_1]
      refine ih (j + 1) b' (by omega) ?_
      rw [hb', hb]
      constructor
      · rintro ((h | ⟨i, h1, h2⟩) | h)
        · exact Or.inl h
        · exact Or.inr ⟨i, by omega, h2⟩
        · exact Or.inr ⟨j, by omega, h⟩
      · rintro (h | ⟨i, h1, h2⟩)
        · exact Or.inl (Or.inl h)
        · by_cases e : i = j
          · rw [e] at h2
            exact Or.inr h2
          · exact Or.inl (Or.inr ⟨i, by omega, h2⟩)
    have t1 := tr true
    have t0 := tr false
    rw [if_pos rfl] at t1
    rw [if_neg (show ¬ false = true by decide)] at t0
    by_cases q : b = true
    · rw [if_pos q]
      rw [if_pos q] at t1
      rw [if_pos (show ¬ (1 : Int32) = 0 by decide), b152_78]
      exact t1 ⟨fun _ => Or.inl q, fun _ => rfl⟩
    · rw [if_neg q]
      rw [if_neg q] at t1 t0
      rw [if_neg (show ¬ ¬ (0 : Int32) = 0 by decide), b152_40 hL v1, c1, e1]
      by_cases ql : vl v j = l
      · rw [if_neg (not_not_intro (el.mpr ql)), b152_59 hL v2, c2, e2]
        by_cases qy : vy v j = y
        · rw [if_neg (not_not_intro (ey.mpr qy)), b152_78]
          exact t1 ⟨fun _ => Or.inr ⟨ql, qy⟩, fun _ => rfl⟩
        · rw [if_pos (fun u => qy (ey.mp u)), b152_82]
          exact t0 ⟨fun u => (by cases u), fun u => by
            rcases u with u | u
            · exact absurd u q
            · exact absurd u.2 qy⟩
      · rw [if_pos (fun u => ql (el.mp u)), b152_82]
        exact t0 ⟨fun u => (by cases u), fun u => by
          rcases u with u | u
          · exact absurd u q
          · exact absurd u.1 ql⟩
theorem m_taken {l y t : Nat} (hd : 1 ≤ d) (hL : pm_lay g) (hr : ZR iv v t) (ho : Hok v) (hl : l < 4) (hy : y < 32) : pm_c X d 152 [.ref 32, .int (nI l), .int (nI y)] g iv = some (some (.int (if (vS v l y || hsAt v (vy v) l y) = true then 1 else 0)), g, iv) := by
  obtain ⟨d, rfl, -⟩ := pm_d1 hd
  have e5 : 5 + nI l = nI (5 + l) := nI_add 5 l
  have hin : vp_in (5 + nI l) 45 := by rw [e5]; exact vp_n (by omega) (by decide)
  have c5 : (5 + nI l).toNatClampNeg = 5 + l := by rw [e5]; exact nI_c (by omega)
  have key := m_taken_l (X := X) (d := d) (l := l) (y := y) hL hr ho hl (by omega) (vN v) 0 (vS v l y) (by omega) ⟨fun h => Or.inl h, fun h => by
    rcases h with h | ⟨i, h1, -⟩
    · exact h
    · omega⟩
  rw [nI_0] at key
  have hP : (vS v l y = true ∨ ∃ i, i < vN v ∧ vl v i = l ∧ vy v i = y) ↔ (vS v l y || hsAt v (vy v) l y) = true := by
    rw [Bool.or_eq_true_iff, hsAt_iff ho (Pok_self ho) (by omega) (by omega)]
  simp only [hP] at key
  rw [e152, b152_0 hL hin, c5, b_tst hy, hr.1.2.2.2.2.1 l hl y hy]
  by_cases q : vS v l y = true
  · rw [if_pos q, if_neg (by decide), b152_16, b152_21]
    rw [if_pos q] at key
    exact key
  · rw [if_neg q, if_pos (by decide), b152_20, b152_21]
    rw [if_neg q] at key
    exact key
end Y2
