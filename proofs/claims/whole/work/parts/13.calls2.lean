/-! SOUNDNESS of the small machine: static calls, constructors -/
section CL2
variable {X : pm_X} {cal : pm_C} {qv : Value} {D : va_G} {A : Nat → Prop} {adI : Nat → Nat} {gI : pm_G} {mi : Nat} {p : Program} {l : Launch} {e : Env} {R : Room} {s : State} {m : MethodId} {args : Array Value} {below : List Frame} {meth : Method} {c : Code} {Q : State → Prop} {S' : pm_S} {pc d : Nat} {lo : List (Option Value)} {st : List Value} {g : pm_G} {iv : pm_V}
theorem pm_g_ins {idx : Nat} (hC : pm_Cx X qv D A adI mi p R s m args meth c) (hck : pm_CK cal) (hct : pm_Ct X l cal d) (hR : d + 1 ≤ R.frames ∧ 64 * (d + 1) ≤ R.locals) (hI : pm_Iv (pc, lo, st, g, iv)) (hd : decode (pm_mb mi) pc = .ok (.invokestatic idx, 3)) (h : pm_ins cal mi pc lo st g iv idx = some (.inl S')) (hb : S'.2.2.2.1.2.2.2.1 ≤ gI.2.2.2.1 + R.cells ∧ S'.2.2.2.1.2.2.2.2 ≤ gI.2.2.2.2 + R.slots) (k : pm_Go qv D A adI gI mi p l e R s m args below meth c Q S') : pm_Go qv D A adI gI mi p l e R s m args below meth c Q (pc, lo, st, g, iv) := by
  have hq := (hC.2.2.2.2.2.2.2.1).2.2.2.2.1
  unfold pm_ins at h
  split at h
  · rename_i t n z hl
    obtain ⟨⟨hn, hcs⟩, h⟩ := pm_ifn_inv h
    obtain ⟨rr, hcal, rfl⟩ := pm_bk_inv h
    obtain ⟨ht, hk0, hlk, hpar⟩ := pm_lm_012 (by decide) hl
    have hM := pm_m_ok ht
    have has := pm_take (n := n) hI.2.1
    intro ad ca L H locs cells slots ls hag hpe hls hW hS hc hs
    have hmet := hct t _ g iv rr ht hcal hI.1 has qv D ad ca L H.size hq
    have hle := (hck _ _ _ _ _ _ _ hcal hI.1 has).2.1
    have hc' : cells + gI.2.2.2.1 = g.2.2.2.1 := hc
    have hs' : slots + gI.2.2.2.2 = g.2.2.2.2 := hs
    have hb1 : rr.2.1.2.2.2.1 ≤ gI.2.2.2.1 + R.cells := hb.1
    have hb2 : rr.2.1.2.2.2.2 ≤ gI.2.2.2.2 + R.slots := hb.2
    have hl1 : g.2.2.2.1 ≤ rr.2.1.2.2.2.1 := hle.2.1
    have hl2 : g.2.2.2.2 ≤ rr.2.1.2.2.2.2 := hle.2.2
    have hst : Cond.static (pm_my t) ∈ pm_TB := by have := hM.2.1; rw [hk0] at this; exact this
    have hwS : GoodIn pm_TB (va_wsS (pm_cn (pm_mc mi)) idx (pm_my t) (pm_ws t)) := pm_good (by
      intro w hw
      simp only [va_wsS, List.cons_append, List.nil_append, List.mem_cons] at hw
      rcases hw with rfl | rfl | rfl | hw
      · exact hlk
      · exact hst
      · exact hM.2.2.1
      · exact pm_ws_in hM w hw)
    refine pm_callW hC hck hcal has (pm_drop hI.2.1) hI k hag hpe hls hW hS hc hs (va_runS (As := ((st.take n).reverse).map (pm_cv ad qv)) ⟨hC.1, hC.2.1, hC.2.2.1, hC.2.2.2.1, hC.2.2.2.2.1⟩ hmet (va_cwS n hC.2.2.2.2.1 hwS rfl rfl rfl ⟨hM.2.2.2.2.2.2.1.1, hM.2.2.2.2.2.2.1.2, hpar⟩ (pm_fit hM.2.2.2.2.2.2.2.1 hR)) ⟨pm_blind, fun U hU hWm => ⟨rfl, pm_start hC hag hW hS hU hWm⟩⟩ rfl (by rw [List.length_map, List.length_reverse, List.length_take]; omega) hls.1 ?_ (lv_room (by rw [pm_cs_map hq]; exact hcs)) hd ⟨by omega, by omega⟩)
    show st.map (pm_cv ad qv) = _
    rw [← List.map_reverse, List.reverse_reverse, ← List.map_append, List.take_append_drop]
  · rename_i t n z hl
    obtain ⟨⟨hn, hcs⟩, h⟩ := pm_ifn_inv h
    obtain ⟨rr, hcal, rfl⟩ := pm_bk_inv h
    obtain ⟨ht, hk0, ⟨host, hnest⟩, hpar⟩ := pm_lm_34 (Or.inl rfl) hl
    have hM := pm_m_ok ht
    have has := pm_take (n := n) hI.2.1
    intro ad ca L H locs cells slots ls hag hpe hls hW hS hc hs
    have hmet := hct t _ g iv rr ht hcal hI.1 has qv D ad ca L H.size hq
    have hle := (hck _ _ _ _ _ _ _ hcal hI.1 has).2.1
    have hc' : cells + gI.2.2.2.1 = g.2.2.2.1 := hc
    have hs' : slots + gI.2.2.2.2 = g.2.2.2.2 := hs
    have hb1 : rr.2.1.2.2.2.1 ≤ gI.2.2.2.1 + R.cells := hb.1
    have hb2 : rr.2.1.2.2.2.2 ≤ gI.2.2.2.2 + R.slots := hb.2
    have hl1 : g.2.2.2.1 ≤ rr.2.1.2.2.2.1 := hle.2.1
    have hl2 : g.2.2.2.2 ≤ rr.2.1.2.2.2.2 := hle.2.2
    have hst : Cond.static (pm_my t) ∈ pm_TB := by have := hM.2.1; rw [hk0] at this; exact this
    have hnw := (pm_Env.adC hC hag).2.2.2.2.2.2.1 _ hnest
    refine pm_callW hC hck hcal has (pm_drop hI.2.1) hI k hag hpe hls hW hS hc hs (va_runSN (As := ((st.take n).reverse).map (pm_cv ad qv)) ⟨hC.1, hC.2.1, hC.2.2.1, hC.2.2.2.1, hC.2.2.2.2.1⟩ hmet ⟨va_cnB n hC.2.2.2.2.1 (pm_good (pm_ws_in hM)) rfl rfl rfl hnw (hC.2.2.2.2.1 _ hM.2.2.1) ⟨hM.2.2.2.2.2.2.1.1, hM.2.2.2.2.2.2.1.2, hpar⟩ (pm_fit hM.2.2.2.2.2.2.2.1 hR), hC.2.2.2.2.1 _ hst, trivial⟩ ⟨pm_blind, fun U hU hWm => ⟨rfl, pm_start hC hag hW hS hU hWm⟩⟩ rfl (by rw [List.length_map, List.length_reverse, List.length_take]; omega) hls.1 ?_ (lv_room (by rw [pm_cs_map hq]; exact hcs)) hd ⟨by omega, by omega⟩)
    show st.map (pm_cv ad qv) = _
    rw [← List.map_reverse, List.reverse_reverse, ← List.map_append, List.take_append_drop]
  · rename_i t n' z hl
    split at h
    · rename_i n dp a sp a0 r
      split at h
      · rename_i q0 n0 q1 n1 hk0 hk1
        obtain ⟨⟨hcs, h0, h1, h2, h3, h4, h5, h6⟩, hh⟩ := pm_ifn_inv h
        subst h0
        subst h1
        cases hh
        intro ad ca L H locs cells slots ls hag hpe hls hW hS hc hs
        obtain ⟨j0, hj0, hj02⟩ := hW.at hk0
        obtain ⟨j1, hj1, hj12⟩ := hW.at hk1
        rw [pm_ee_i hk0 (Or.inl rfl)] at hj02
        rw [pm_ee_i hk1 (Or.inl rfl)] at hj12
        have hK2 : va_K D pm_cl [(ca a0, .int), (ca a, .int)] s := by
          refine ⟨hC.2.2.2.2.2.2.1.1, fun k x hx => ?_⟩
          match k, hx with
          | 0, hx => cases hx; exact (hW.2.2.2.2.2 a0 8 n0 hk0 (by decide)).2
          | 1, hx => cases hx; exact (hW.2.2.2.2.2 a 8 n1 hk1 (by decide)).2
          | k + 2, hx => simp at hx
        have hx : (.inl (ca a, n1, .inl (va_cpy (iv a0) (iv a) sp.toNatClampNeg dp.toNatClampNeg n.toNatClampNeg)) : va_E) = pm_ee ad ca g (pm_ir iv a (va_cpy (iv a0) (iv a) sp.toNatClampNeg dp.toNatClampNeg n.toNatClampNeg)) a := by
          rw [pm_ee_i hk1 (Or.inl rfl)]
          simp [pm_ir]
        have ho : ∀ z ∈ L, z ≠ a → pm_ee ad ca g (pm_ir iv a (va_cpy (iv a0) (iv a) sp.toNatClampNeg dp.toNatClampNeg n.toNatClampNeg)) z = pm_ee ad ca g iv z := by
          intro z _ hz
          unfold pm_ee pm_ov
          simp [pm_ir, hz]
        have hcs2 : ((r.map (pm_cv ad qv)).map fun v => v.category).sum ≤ 8 := by rw [pm_cs_map hq]; exact hcs
        exact va_copyi (ty := .int) hC.1 hC.2.1 (by rw [hls.1]; exact hC.2.2.1) hC.2.2.2.1 (hC.2.2.2.2.1 _ (pm_lm_6 hl)) (hC.2.2.2.2.1 _ pm_w_cp1) (hC.2.2.2.2.1 _ pm_w_cp2) (hC.2.2.2.2.1 _ pm_w_cp3) hK2 hW.2.2.2.1 hW.2.2.2.2.1 hS j0 j1 0 1 hj02 hj12 rfl rfl rfl h2 h3 h4 h5 h6 (fun _ _ => rfl) (by omega)
          (by have := hR.2; have e9 : nativeFrameWords "java/lang/System" "arraycopy" 5 ≤ 20 := by decide +kernel
              omega) hd (fun H1 locs1 a1 a2 a3 => k ad ca L H1 locs1 cells slots ls hag hpe hls (hW.upd rfl hj1 hx ho a1 a2) a3 hc hs)
      · cases h
    · cases h
  · rename_i t n' z hl
    split at h
    · rename_i y x r
      obtain ⟨hcs, hh⟩ := pm_ifn_inv h
      cases hh
      intro ad ca L H locs cells slots ls hag hpe hls hW hS hc hs
      have hcs2 : ((r.map (pm_cv ad qv)).map fun v => v.category).sum ≤ 8 := by rw [pm_cs_map hq]; exact hcs
      have hb1 : g.2.2.2.1 ≤ gI.2.2.2.1 + R.cells := hb.1
      have hb2 : g.2.2.2.2 ≤ gI.2.2.2.2 + R.slots := hb.2
      have hc' : cells + gI.2.2.2.1 = g.2.2.2.1 := hc
      have hs' : slots + gI.2.2.2.2 = g.2.2.2.2 := hs
      exact va_mmin hC.1 hC.2.1 (by rw [hls.1]; exact hC.2.2.1) hC.2.2.2.1 (hC.2.2.2.2.1 _ (pm_lm_7 hl)) (hC.2.2.2.2.1 _ pm_w_min) (hC.2.2.2.2.1 _ pm_w_math) (hC.2.2.2.2.1 _ (pm_has_mem pm_minW)) (by omega) (by have := hR.2; omega) (by omega) (by omega) hd (k ad ca L H locs cells slots ls hag hpe hls hW hS hc hs)
    · cases h
  · rename_i t n' z hl
    split at h
    · rename_i x r
      obtain ⟨hcs, hh⟩ := pm_ifn_inv h
      cases hh
      intro ad ca L H locs cells slots ls hag hpe hls hW hS hc hs
      have hcs2 : ((r.map (pm_cv ad qv)).map fun v => v.category).sum ≤ 8 := by rw [pm_cs_map hq]; exact hcs
      have hb1 : g.2.2.2.1 ≤ gI.2.2.2.1 + R.cells := hb.1
      have hb2 : g.2.2.2.2 ≤ gI.2.2.2.2 + R.slots := hb.2
      have hc' : cells + gI.2.2.2.1 = g.2.2.2.1 := hc
      have hs' : slots + gI.2.2.2.2 = g.2.2.2.2 := hs
      exact va_mabs hC.1 hC.2.1 (by rw [hls.1]; exact hC.2.2.1) hC.2.2.2.1 (hC.2.2.2.2.1 _ (pm_lm_8 hl)) (hC.2.2.2.2.1 _ pm_w_abs) (hC.2.2.2.2.1 _ pm_w_math) (hC.2.2.2.2.1 _ (pm_has_mem pm_absW)) (by omega) (by have := hR.2; omega) (by omega) (by omega) hd (k ad ca L H locs cells slots ls hag hpe hls hW hS hc hs)
    · cases h
  · cases h
theorem pm_g_isp {idx : Nat} (hC : pm_Cx X qv D A adI mi p R s m args meth c) (hck : pm_CK cal) (hct : pm_Ct X l cal d) (hR : d + 1 ≤ R.frames ∧ 64 * (d + 1) ≤ R.locals) (hI : pm_Iv (pc, lo, st, g, iv)) (hd : decode (pm_mb mi) pc = .ok (.invokespecial idx, 3)) (h : pm_isp cal mi pc lo st g iv idx = some (.inl S')) (hb : S'.2.2.2.1.2.2.2.1 ≤ gI.2.2.2.1 + R.cells ∧ S'.2.2.2.1.2.2.2.2 ≤ gI.2.2.2.2 + R.slots) (k : pm_Go qv D A adI gI mi p l e R s m args below meth c Q S') : pm_Go qv D A adI gI mi p l e R s m args below meth c Q (pc, lo, st, g, iv) := by
  have hq := (hC.2.2.2.2.2.2.2.1).2.2.2.2.1
  have key : ∀ {t n : Nat} {b : Addr} {r : List Value} {rr : pm_R}, t < pm_mt.length - 1 → pm_mk t = 2 → st.drop n = .ref b :: r → pm_cs r ≤ 8 → cal t (.ref b :: (st.take n).reverse) g iv = some rr → S' = (pc + 3, lo, rr.1.toList ++ r, rr.2.1, rr.2.2) → (parseMethodDescriptor (pm_my t).desc).map (fun d => d.parameters.length) = some n →
      (Cond.methodLink (pm_cn (pm_mc mi)) idx (pm_my t) ∈ pm_TB ∨ ∃ host, (pm_cn (pm_mc mi), idx, pm_my t, host) ∈ pm_nst) → pm_Go qv D A adI gI mi p l e R s m args below meth c Q (pc, lo, st, g, iv) := by
    intro t n b r rr ht hk0 he hcs hcal hS' hpar hlink
    subst hS'
    have hM := pm_m_ok ht
    obtain ⟨hn, hst⟩ := pm_take_drop he
    have hdr := pm_drop (n := n) hI.2.1
    rw [he] at hdr
    have has : ∀ w ∈ Value.ref b :: (st.take n).reverse, pm_okv g w := pm_cns (hdr _ List.mem_cons_self) (pm_take hI.2.1)
    intro ad ca L H locs cells slots ls hag hpe hls hW hS hc hs
    have hmet := hct t _ g iv rr ht hcal hI.1 has qv D ad ca L H.size hq
    have hle := (hck _ _ _ _ _ _ _ hcal hI.1 has).2.1
    have hc' : cells + gI.2.2.2.1 = g.2.2.2.1 := hc
    have hs' : slots + gI.2.2.2.2 = g.2.2.2.2 := hs
    have hb1 : rr.2.1.2.2.2.1 ≤ gI.2.2.2.1 + R.cells := hb.1
    have hb2 : rr.2.1.2.2.2.2 ≤ gI.2.2.2.2 + R.slots := hb.2
    have hl1 : g.2.2.2.1 ≤ rr.2.1.2.2.2.1 := hle.2.1
    have hl2 : g.2.2.2.2 ≤ rr.2.1.2.2.2.2 := hle.2.2
    have hin : Cond.instanceMethod (pm_my t) ∈ pm_TB := by have := hM.2.1; rw [hk0] at this; exact this
    obtain ⟨hini, hret⟩ := hM.2.2.2.2.2.2.2.2 hk0
    have hws : pm_ws t = Cond.code (pm_my t) (pm_mb t) (pm_ml t) none :: pm_TB := by unfold pm_ws; rw [hret]
    have hstk : st.map (pm_cv ad qv) = (((st.take n).reverse).map (pm_cv ad qv)).reverse ++ .ref (ad b) :: r.map (pm_cv ad qv) := by
      conv => lhs; rw [hst]
      simp [pm_cv, List.map_reverse]
    have hPS : PreS s H (va_Pc ((Value.ref b :: (st.take n).reverse).map (pm_cv ad qv)) (pm_Pre X qv D ad ca L g iv H.size)) (.ref (ad b) :: ((st.take n).reverse).map (pm_cv ad qv)) := ⟨pm_blind, fun U hU hWm => ⟨rfl, pm_start hC hag hW hS hU hWm⟩⟩
    rcases hlink with hlk | ⟨host, hnest⟩
    · exact pm_callW hC hck hcal has (pm_tl hdr) hI k hag hpe hls hW hS hc hs (va_runI (As := ((st.take n).reverse).map (pm_cv ad qv)) (b := ad b) ⟨hC.1, hC.2.1, hC.2.2.1, hC.2.2.2.1, hC.2.2.2.2.1⟩ hmet (cwI n hC.2.2.2.2.1 (pm_good (pm_ws_in hM)) hws rfl rfl (hC.2.2.2.2.1 _ hM.2.2.1) (hC.2.2.2.2.1 _ hlk) (hC.2.2.2.2.1 _ hin) hini ⟨hM.2.2.2.2.2.2.1.1, hM.2.2.2.2.2.2.1.2, hpar⟩ (pm_fit hM.2.2.2.2.2.2.2.1 hR)) hPS rfl (by rw [List.length_map, List.length_reverse]; exact hn) hls.1 hstk (lv_room (by rw [pm_cs_map hq]; exact hcs)) hd ⟨by omega, by omega⟩)
    · have hnw := (pm_Env.adC hC hag).2.2.2.2.2.2.1 _ hnest
      exact pm_callW hC hck hcal has (pm_tl hdr) hI k hag hpe hls hW hS hc hs (va_runIN (As := ((st.take n).reverse).map (pm_cv ad qv)) (b := ad b) ⟨hC.1, hC.2.1, hC.2.2.1, hC.2.2.2.1, hC.2.2.2.2.1⟩ hmet ⟨va_cnB n hC.2.2.2.2.1 (pm_good (pm_ws_in hM)) hws rfl rfl hnw (hC.2.2.2.2.1 _ hM.2.2.1) ⟨hM.2.2.2.2.2.2.1.1, hM.2.2.2.2.2.2.1.2, hpar⟩ (pm_fit hM.2.2.2.2.2.2.2.1 hR), hini, hC.2.2.2.2.1 _ hin⟩ hPS rfl (by rw [List.length_map, List.length_reverse]; exact hn) hls.1 hstk (lv_room (by rw [pm_cs_map hq]; exact hcs)) hd ⟨by omega, by omega⟩)
  unfold pm_isp at h
  split at h
  · rename_i t n z hl
    split at h
    · rename_i b r he
      obtain ⟨hcs, h⟩ := pm_ifn_inv h
      obtain ⟨rr, hcal, hS'⟩ := pm_bk_inv h
      obtain ⟨ht, hk0, hlk, hpar⟩ := pm_lm_012 (by decide) hl
      exact key ht hk0 he hcs hcal hS' hpar (Or.inl hlk)
    · cases h
  · rename_i t n z hl
    split at h
    · rename_i b r he
      obtain ⟨hcs, h⟩ := pm_ifn_inv h
      obtain ⟨rr, hcal, hS'⟩ := pm_bk_inv h
      obtain ⟨ht, hk0, hlk, hpar⟩ := pm_lm_34 (Or.inr rfl) hl
      exact key ht hk0 he hcs hcal hS' hpar (Or.inr hlk)
    · cases h
  · rename_i t n z hl
    split at h
    · rename_i b r
      obtain ⟨hcs, hh⟩ := pm_ifn_inv h
      cases hh
      intro ad ca L H locs cells slots ls hag hpe hls hW hS hc hs
      have hcs2 : ((r.map (pm_cv ad qv)).map fun v => v.category).sum ≤ 8 := by rw [pm_cs_map hq]; exact hcs
      refine W.objInit hC.1 hC.2.1 hC.2.2.2.1 (hC.2.2.2.2.1 _ (pm_lm_5 hl)) (hC.2.2.2.2.1 _ pm_w_obj1) (hC.2.2.2.2.1 _ pm_w_obj2) rfl (by rw [hC.2.2.1]; exact hls.1) rfl hd (by omega) ?_ (k ad ca L H locs cells slots ls hag hpe hls hW hS hc hs)
      have := hR.2
      show 2 * (F0 m pc ls _).monitorRoom + _ + 12 ≤ R.locals
      have h0 : (F0 m pc ls ((Value.ref b :: r).map (pm_cv ad qv))).monitorRoom = 0 := rfl
      rw [h0]
      omega
    · cases h
  · cases h
end CL2
