/-! restore -/
section Q77
variable {X : pm_X} {d k : Nat} {g : pm_G} {iv : pm_V} {v u : HV} {x : Int32}
theorem m_restore_l (hL : pm_lay g) {j : Nat} (hj : j < 2) : ∀ m i (iv : pm_V) (f : Nat → Int32), i + m = 45 → iv 44 = f → (∀ q, q < i → iv 36 q = f (45 * j + q)) → ∃ iv', pm_at X d 190 (32, [some (.ref 32), some (.int (nI j)), some (.int (nI i))], [], g, iv) = pm_at X d 190 (61, [some (.ref 32), some (.int (nI j)), some (.int (nI 45))], [], g, iv') ∧ chg [36] iv iv' ∧ ∀ q, q < 45 → iv' 36 q = f (45 * j + q) := by
  intro m
  induction m with
  | zero =>
    intro i iv f h hf hq
    have e : i = 45 := by omega
    subst e
    exact ⟨iv, by rw [b190_32, if_pos (show (45 : Int32) ≤ nI 45 from Int32.le_refl _)], chg_rf, hq⟩
  | succ m ih =>
    intro i iv f h hf hq
    have e1 : 45 * nI j + nI i = nI (45 * j + i) := by
      show nI 45 * nI j + nI i = _
      rw [pk_mul, nI_add]
    obtain ⟨iv', a1, a2, a3⟩ := ih (i + 1) (pm_iw iv 36 i (f (45 * j + i))) f (by omega) (by rw [iw_n (by decide)]; exact hf) (fun q hq' => by
      rw [iw_s]
      by_cases e : q = i
      · rw [e, upd_s]
      · rw [upd_n e]; exact hq q (by omega))
    refine ⟨iv', ?_, chg_tr (chg_iw (by decide)) a2, a3⟩
    rw [b190_32, if_neg (show ¬ (45 : Int32) ≤ nI i by rw [le_i, show (45 : Int32).toInt = 45 from rfl, nI_t (by omega)]; omega), b190_38 hL (by rw [e1]; exact vp_n (by omega) (by decide)) (vp_n (by omega) (by decide)), e1, nI_c (by omega), nI_c (by omega), nI_1, hf, a1]
theorem q_restore (hd : 4 ≤ d) (h : RL g iv) : PR X d g iv 113 190 [.ref 0, .int x] [.ref 32, .int x] := by
  obtain ⟨d, rfl, hd1⟩ := pm_d1 hd
  obtain ⟨hg, v, co⟩ := h
  have hL := hg.1
  have hv := co.1.1
  have ho := co.1.2.2.1
  have co2 := CO_0 co
  have z0 : (0 : Int64).toInt = 0 := rfl
  have z1 : (1 : Int64).toInt = 1 := rfl
  by_cases q : ip x 2 = true
  · obtain ⟨j, hj, rfl⟩ := ip_ex q (by decide)
    have cj : (nI j).toNatClampNeg = j := nI_c (by omega)
    have hin : vp_in (nI j) 2 := vp_n hj (by decide)
    have hr : (0 : Int) ≤ (nI j).toInt ∧ (nI j).toInt ≤ 1 := by rw [nI_t (by omega)]; omega
    have r0 : pm_c X (d + 1) 113 [.ref 0, .int (nI j)] g iv = pm_at X d 113 (17, [some (.ref 0), some (.int (nI j)), none], [va_rf (g.2.1 31 j)], g, iv) := by
      rw [e113, b113_0, t_ip (n := 1) (by omega) toI1, if_pos q, pm_then_i, b113_5, if_pos (by decide)]
      refine (at_aload_n dc113_11 rfl).trans ?_
      refine (at_gfR dc113_12 mc113 lf5_47 fo5_6 (ly0 hL) (lr0_6 hL)).trans ?_
      refine (at_iload_n dc113_15 rfl).trans ?_
      refine (at_aald dc113_16 (ly31 hL) hin).trans ?_
      rw [cj]
    have r1 : ∀ iv : pm_V, pm_c X (d + 1) 190 [.ref 32, .int (nI j)] g iv = if ¬ (pm_iw iv 32 0 0) 43 j = 0 then pm_at X d 190 (30, [some (.ref 32), some (.int (nI j)), none], [], g, pm_iw iv 32 0 0) else pm_at X d 190 (27, [some (.ref 32), some (.int (nI j)), none], [], g, pm_iw iv 32 0 0) := fun iv => by
      rw [e190, b190_0 hL, m_inI (by omega), z0, z1, if_pos hr, pm_then_i, b190_12, if_pos (by decide), b190_18 hL hin, cj]
    obtain ⟨i0, i1, i2⟩ := co.2.2.2.2.2.1
    have hIM : IM g iv j := by
      rcases (show j = 0 ∨ j = 1 by omega) with rfl | rfl
      · exact i0
      · exact i1
    rcases hIM with ⟨p1, p2⟩ | ⟨c, u, p1, p2, p3, p4, p5, p6, p7, p8⟩
    · refine ⟨-1000002, iv, pm_iw iv 32 0 0, ?_, ?_, hg, v, co2⟩
      · rw [r0, p1]
        refine (at_astore_nN dc113_17 rfl).trans ?_
        refine (at_aload_nN dc113_18 rfl).trans ?_
        refine (at_nnN dc113_19).trans ?_
        refine (at_ldc dc113_22 mc113 lk5_129).trans ?_
        exact at_iret dc113_24 mr113
      · rw [r1, if_neg (not_not_intro (by rw [iw_n (by decide)]; exact p2)), b190_27]
    · obtain ⟨iv1, t1, t2, t3⟩ := t_takeFrom (X := X) (d := d) (iv := iv) (k := 11) (k2 := c) (by omega) (lay_now hL) p4 (Or.inl (by omega)) p6 p8.1
      generalize hiv2 : pm_iw iv1 7 2 0 = iv2
      have c2 : chg [7, 11, 12, 13, 14, 15, 16, 17] iv iv2 := by rw [← hiv2]; exact chg_tr (chg_mo t2 (by decide)) (chg_iw (by decide))
      have n0 : va_rf (g.2.1 31 j) = .ref c := by rw [p1]; rfl
      obtain ⟨iv3, a1, a2, a3⟩ := m_restore_l (X := X) (d := d) hL hj 45 0 (pm_iw iv2 32 0 0) _ (by omega) rfl (fun q h => absurd h (Nat.not_lt_zero q))
      rw [nI_0] at a1
      generalize hiv4 : pm_iw iv3 32 8 0 = iv4
      have c4 : chg [32, 36] iv2 iv4 := by rw [← hiv4]; exact chg_tr (chg_iw (by decide)) (chg_tr (chg_mo a2 (by decide)) (chg_iw (by decide)))
      have ch : chg hilL iv iv4 := chg_tr (chg_mo c2 (by decide)) (chg_mo c4 (by decide))
      have e32 : ∀ j, j ≠ 0 → j ≠ 8 → iv4 32 j = iv 32 j := fun j h0 h8 => by rw [← hiv4, iw_s, upd_n h8, a2 32 (by decide), iw_s, upd_n h0, c2 32 (by decide)]
      have e8 : iv4 32 8 = 0 := by rw [← hiv4, iw_s, upd_s]
      have n11 : ∀ a, 11 ≤ a → a ≤ 17 → iv4 a = iv1 a := fun a q1 q2 => by rw [c4 a (by simp only [List.mem_cons, List.not_mem_nil, or_false]; omega), ← hiv2, iw_n (by omega)]
      have e7 : iv4 7 = iv2 7 := c4 7 (by decide)
      obtain ⟨a, o, r, s1, s2, s3⟩ := co.2.2.2.1
      have e71 : iv4 7 1 = nI o := by rw [e7, ← hiv2, iw_s, upd_n (by decide), t2 7 (by decide)]; exact s1.2.2.1
      have e72 : iv4 7 2 = nI 0 := by rw [e7, ← hiv2, iw_s, upd_s]; rfl
      have hA : HAr (iv4 36) u := HAr_fr p7 p8.1.2.2.1 (fun i hi => by
        rw [← hiv4, iw_n (by decide), a3 i hi, iw_n (by decide), c2 44 (by decide)])
      refine ⟨1, iv2, iv4, ?_, ?_, hg, u, CO_hl co ch (fun c hc => e32 c (by omega) (by omega)) ?_ ?_ ⟨SV_fr t3 (fun a q1 q2 => n11 a (by omega) (by omega)), hA, p8.1, p8.2.1, p8.2.2.1⟩ ⟨0, o, r, ⟨by omega, s1.2.1, e71, e72, fun j hj => absurd hj (Nat.not_lt_zero j)⟩, ⟨e8, fun j hj => absurd hj (Nat.not_lt_zero j)⟩, fun j hj => absurd hj (Nat.not_lt_zero j)⟩⟩
      · rw [r0, n0]
        refine (at_astore_n dc113_17 rfl).trans ?_
        refine (at_aload_n dc113_18 rfl).trans ?_
        refine (at_nn (t := 25) dc113_19 (by decide)).trans ?_
        refine (at_aload_n dc113_25 rfl).trans ?_
        refine (at_gfR dc113_26 mc113 lf5_40 fo5_4 (ly0 hL) (lr0_4 hL)).trans ?_
        refine (at_aload_n dc113_29 rfl).trans ?_
        refine (at_inv (as := [.ref c]) dc113_30 mc113 lm5_112 rfl rfl (Nat.le_of_ble_eq_true rfl) (Or.inl ⟨ly11 hL, by decide⟩)).trans ?_
        rw [t1, pm_then_v]
        refine (at_aload_n dc113_33 rfl).trans ?_
        refine (at_gfR dc113_34 mc113 lf5_26 fo5_2 (ly0 hL) (lr0_2 hL)).trans ?_
        refine (at_inv (as := []) dc113_37 mc113 lm5_116 rfl rfl (Nat.le_of_ble_eq_true rfl) (Or.inl ⟨ly7 hL, by decide⟩)).trans ?_
        obtain ⟨d, rfl, -⟩ := pm_d1 (show 0 + 1 ≤ d by omega)
        rw [e2, b2_0 hL, hiv2, pm_then_v]
        refine (at_iconst (v := 1) dc113_40 rfl).trans ?_
        exact at_iret dc113_41 mr113
      · rw [r1, if_pos (show ¬ (pm_iw iv2 32 0 0) 43 j = 0 by rw [iw_n (by decide), c2 43 (by decide), p5]; decide), b190_30, a1, b190_61 hL, hiv4]
      · rw [c4 5 (by decide), c2 5 (by decide), e32 11 (by decide) (by decide)]
        exact co.2.2.2.2.2.2.2
      · exact RT_fr co.2.2.1 (by rw [c4 5 (by decide), c2 5 (by decide)]) (e32 10 (by decide) (by decide)) (by rw [c4 39 (by decide), c2 39 (by decide)]) (by rw [c4 6 (by decide), c2 6 (by decide)])
  · have hr : ¬ ((0 : Int) ≤ x.toInt ∧ x.toInt ≤ 1) := fun w => q (decide_eq_true (by omega))
    refine ⟨-1000001, iv, pm_iw iv 32 0 0, ?_, ?_, hg, v, co2⟩
    · rw [e113, b113_0, t_ip (n := 1) (by omega) toI1, if_neg q, pm_then_i, b113_5, if_neg (by decide), b113_8]
    · rw [e190, b190_0 hL, m_inI (by omega), z0, z1, if_neg hr, pm_then_i, b190_12, if_neg (by decide), b190_15]
end Q77
