/-! SOUNDNESS of the small machine: new cells -/
section AL
variable {X : pm_X} {cal : pm_C} {qv : Value} {D : va_G} {A : Nat → Prop} {adI : Nat → Nat} {gI : pm_G} {mi : Nat} {p : Program} {l : Launch} {e : Env} {R : Room} {s : State} {m : MethodId} {args : Array Value} {below : List Frame} {meth : Method} {c : Code} {Q : State → Prop} {S' : pm_S} {pc : Nat} {lo : List (Option Value)} {st r : List Value} {g : pm_G} {iv : pm_V}
/-- from a place ahead of a new cell to the place behind it -/
theorem pm_newG {n q z pc' : Nat} (hC : pm_Cx X qv D A adI mi p R s m args meth c) (hI : pm_Iv (pc, lo, st, g, iv)) (hr : ∀ v ∈ r, pm_okv g v) (hn : g.1 g.2.2.1 = none) (hlt : g.2.2.1 < 1000) (k : pm_Go qv D A adI gI mi p l e R s m args below meth c Q (pc', lo, .ref g.2.2.1 :: r, pm_nc g q n z, pm_ir iv g.2.2.1 (fun _ => 0)))
    {ad : Nat → Nat} {ca : Nat → ClassId} {L : List Nat} {H : Heap} {locs : List Loc} {cells slots : Nat} {ls : Array Slot} (hag : ∀ k, gI.1 k ≠ none ∨ 1000 ≤ k → ad k = adI k) (hpe : ∀ k, gI.1 k ≠ none → g.1 k ≠ none) (hls : pm_Ls ad qv ls (pm_ml mi) lo) (hW : pm_Wd D A ad ca L g iv s H) (hc : cells + gI.2.2.2.1 = g.2.2.2.1) (hs : slots + gI.2.2.2.2 = g.2.2.2.2)
    {a : Nat} {cq : ClassId} {x : va_E} {H1 : Heap} (hP : va_P D pm_cl (L.map (pm_e ad ca g iv) ++ [(a, x)]) H1) (hD : va_D A (L.map (pm_e ad ca g iv) ++ [(a, x)])) (hS1 : va_S A s.heap H1 locs) (hx : x = pm_ee (fun k => if k = g.2.2.1 then a else ad k) (fun k => if k = g.2.2.1 then cq else ca k) (pm_nc g q n z) (pm_ir iv g.2.2.1 (fun _ => 0)) g.2.2.1) (hq : 8 ≤ q → q ≤ 11 ∧ ArrOfT s cq (pm_ty q) ∧ va_RA s cq (pm_ty q)) :
    W p l e R s m args below meth c H1 locs (cells + 1) (slots + z) Q (F0 m pc' ls (.ref a :: r.map (pm_cv ad qv))) := by
  have hag2 : ∀ t, pm_okt g t → (fun k => if k = g.2.2.1 then a else ad k) t = ad t := fun t ht => by
    show (if t = g.2.2.1 then a else ad t) = ad t
    rw [if_neg]
    rintro rfl
    rcases ht with h | h
    · exact h hn
    · omega
  have kk := k (fun k => if k = g.2.2.1 then a else ad k) (fun k => if k = g.2.2.1 then cq else ca k) (L ++ [g.2.2.1]) H1 locs (cells + 1) (slots + z) ls (fun j hj => by
      exact (hag2 j (hj.imp (hpe j) id)).trans (hag j hj)) (fun j hj => by
      show (if j = g.2.2.1 then _ else _) ≠ none
      split
      · exact Option.some_ne_none _
      · exact hpe j hj) (pm_Ls_agree hag2 hI.2.2 hls) (pm_newW hW hI.1 hn hlt hP hD hx hq) hS1 (by show _ = g.2.2.2.1 + 1; omega) (by show _ = g.2.2.2.2 + z; omega)
  have e1 : (.ref g.2.2.1 :: r).map (pm_cv (fun k => if k = g.2.2.1 then a else ad k) qv) = .ref a :: r.map (pm_cv ad qv) := by
    rw [List.map_cons, pm_st_agree hag2 hr]
    simp [pm_cv]
  show W p l e R s m args below meth c H1 locs (cells + 1) (slots + z) Q (F0 m pc' ls _)
  rw [← e1]
  exact kk
theorem pm_g_new {idx : Nat} (hC : pm_Cx X qv D A adI mi p R s m args meth c) (hI : pm_Iv (pc, lo, st, g, iv)) (hd : decode (pm_mb mi) pc = .ok (.new idx, 3)) (h : pm_new mi pc lo st g iv idx = some (.inl S')) (hb : S'.2.2.2.1.2.2.2.1 ≤ gI.2.2.2.1 + R.cells ∧ S'.2.2.2.1.2.2.2.2 ≤ gI.2.2.2.2 + R.slots) (k : pm_Go qv D A adI gI mi p l e R s m args below meth c Q S') : pm_Go qv D A adI gI mi p l e R s m args below meth c Q (pc, lo, st, g, iv) := by
  unfold pm_new at h
  split at h
  · rename_i ci z hl
    obtain ⟨⟨hn, hlt⟩, h⟩ := pm_ifn_inv h
    cases h
    intro ad ca L H locs cells slots ls hag hpe hls hW hS hc hs
    obtain ⟨hc7, hw⟩ := pm_lc_w hl
    have hb1 : g.2.2.2.1 + 1 ≤ gI.2.2.2.1 + R.cells := hb.1
    have hb2 : g.2.2.2.2 + pm_nf ci ≤ gI.2.2.2.2 + R.slots := hb.2
    have hc : cells + gI.2.2.2.1 = g.2.2.2.1 := hc
    have hs : slots + gI.2.2.2.2 = g.2.2.2.2 := hs
    refine va_new (ci := ci) (C := pm_cn ci) (T := pm_T ci) (N := pm_nf ci) (fs := (List.range (pm_nf ci)).map fun sl => if pm_rf ci sl = true then Value.null else .int 0) hC.1 hC.2.1 hC.2.2.2.2.1 (pm_c_lay hc7) (pm_tyf ci) (pm_fty ci hc7) hC.2.2.2.1 (hC.2.2.2.2.1 _ hw) (hC.2.2.2.2.1 _ (pm_c_ins hc7)) (hC.2.2.2.2.1 _ (pm_c_ini hc7)) hC.2.2.2.2.2.2.1 hW.2.2.2.1 hW.2.2.2.2.1 hS hC.2.2.2.2.2.2.2.2.1 (pm_cl_at ci hc7) (fun j hj => ?_) (by omega) (by omega) hd (fun a H1 hP hD hS1 => ?_)
    · unfold vp_V
      rw [List.getD_eq_getElem?_getD, pm_map_get hj]
      obtain ⟨q1, q2⟩ := pm_frf ci hc7 j hj
      cases hr : pm_rf ci j with
      | false => rw [q1 hr]; rfl
      | true => rcases q2 hr with ⟨n, hn⟩ | ⟨n, hn⟩ <;> rw [hn] <;> rfl
    · refine pm_newG (a := a) (cq := 0) hC hI hI.2.1 hn hlt k hag hpe hls hW hc hs hP hD hS1 ?_ (fun h8 => by omega)
      rw [pm_ee_o (ci := ci) (n := 0) (by simp [pm_nc]) (by omega)]
      congr 3
      funext sl
      unfold pm_ov
      split
      · simp [pm_nc, va_rf, pm_cv]
      · simp [pm_ir, pm_cv]
  · cases h
theorem pm_g_nwa {t : ArrayType} (hC : pm_Cx X qv D A adI mi p R s m args meth c) (hI : pm_Iv (pc, lo, st, g, iv)) (hd : decode (pm_mb mi) pc = .ok (.newarray t, 2)) (h : pm_nwa pc lo st g iv t = some (.inl S')) (hb : S'.2.2.2.1.2.2.2.1 ≤ gI.2.2.2.1 + R.cells ∧ S'.2.2.2.1.2.2.2.2 ≤ gI.2.2.2.2 + R.slots) (k : pm_Go qv D A adI gI mi p l e R s m args below meth c Q S') : pm_Go qv D A adI gI mi p l e R s m args below meth c Q (pc, lo, st, g, iv) := by
  unfold pm_nwa at h
  split at h
  · rename_i n r
    obtain ⟨⟨hn, hlt, h8, hn0, hnm⟩, h⟩ := pm_ifn_inv h
    cases h
    have hb1 : g.2.2.2.1 + 1 ≤ gI.2.2.2.1 + R.cells := hb.1
    have hb2 : g.2.2.2.2 + n.toNatClampNeg ≤ gI.2.2.2.2 + R.slots := hb.2
    have key : ∀ {ty : FieldType} (hty : newarray.typeOf t = ty) (hT : pm_ty (pm_aq t) = ty) (hq3 : pm_aq t = 8 ∨ pm_aq t = 9 ∨ pm_aq t = 10) (hw : Cond.arrayClass ty ∈ pm_TB) (hdef : defaultValue ty = .int 0) (hcb : componentBytes ty ≤ 8), pm_Go qv D A adI gI mi p l e R s m args below meth c Q (pc, lo, .int n :: r, g, iv) := by
      intro ty hty hT hq3 hw hdef hcb ad ca L H locs cells slots ls hag hpe hls hW hS hc hs
      have hc : cells + gI.2.2.2.1 = g.2.2.2.1 := hc
      have hs : slots + gI.2.2.2.2 = g.2.2.2.2 := hs
      have hmul : n.toNatClampNeg * componentBytes ty ≤ 1000000 * 8 := Nat.mul_le_mul hnm hcb
      refine va_newa (ty := ty) (N' := n.toNatClampNeg) (a0 := (n.toNatClampNeg, .inl (fun _ => 0))) hC.1 hC.2.1 (by rw [hty]; exact hC.2.2.2.2.1 _ hw) hty hC.2.2.2.2.2.2.1 hW.2.2.2.1 hW.2.2.2.2.1 hS hC.2.2.2.2.2.2.2.2.1 (fun cA => by rw [vp_cell_i, hdef]) hn0 rfl (by omega) (by omega) (by omega) hd (fun a cq H1 hK1 hP hD hS1 => ?_)
      refine pm_newG (a := a) (cq := cq) hC hI (pm_tl hI.2.1) hn hlt k hag hpe hls hW hc hs hP hD hS1 ?_ (fun _ => ⟨by omega, ?_⟩)
      · rw [pm_ee_i (q := pm_aq t) (n := n.toNatClampNeg) (by simp [pm_nc]) hq3]
        simp [pm_ir]
      · have := hK1.2 0 (cq, ty) rfl
        rw [hT]
        exact this
    cases t <;> first
      | exact key rfl rfl (Or.inl rfl) pm_w_arI rfl (by decide)
      | exact key rfl rfl (Or.inr (Or.inl rfl)) pm_w_arB rfl (by decide)
      | exact key rfl rfl (Or.inr (Or.inr rfl)) pm_w_arZ rfl (by decide)
      | exact absurd h8 (by decide)
  · cases h
theorem pm_g_ana {idx : Nat} (hC : pm_Cx X qv D A adI mi p R s m args meth c) (hI : pm_Iv (pc, lo, st, g, iv)) (hd : decode (pm_mb mi) pc = .ok (.anewarray idx, 3)) (h : pm_ana mi pc lo st g iv idx = some (.inl S')) (hb : S'.2.2.2.1.2.2.2.1 ≤ gI.2.2.2.1 + R.cells ∧ S'.2.2.2.1.2.2.2.2 ≤ gI.2.2.2.2 + R.slots) (k : pm_Go qv D A adI gI mi p l e R s m args below meth c Q S') : pm_Go qv D A adI gI mi p l e R s m args below meth c Q (pc, lo, st, g, iv) := by
  unfold pm_ana at h
  split at h
  · rename_i n r
    split at h
    · rename_i ci z hl
      obtain ⟨⟨hci, hn, hlt, hn0, hnm⟩, h⟩ := pm_ifn_inv h
      cases h
      intro ad ca L H locs cells slots ls hag hpe hls hW hS hc hs
      obtain ⟨hc7, hw⟩ := pm_lc_w hl
      have hw : Cond.classLink (pm_cn (pm_mc mi)) idx "HillHouses$Slope" ∈ pm_TB := by rw [hci] at hw; exact hw
      have hb1 : g.2.2.2.1 + 1 ≤ gI.2.2.2.1 + R.cells := hb.1
      have hb2 : g.2.2.2.2 + n.toNatClampNeg ≤ gI.2.2.2.2 + R.slots := hb.2
      have hc : cells + gI.2.2.2.1 = g.2.2.2.1 := hc
      have hs : slots + gI.2.2.2.2 = g.2.2.2.2 := hs
      refine va_newq (C := "HillHouses$Slope") (N' := n.toNatClampNeg) hC.1 hC.2.1 hC.2.2.2.1 (hC.2.2.2.2.1 _ hw) hC.2.2.2.2.2.2.2.1.2.2.2.2.2.2.2.2.2 hC.2.2.2.2.2.2.1 hW.2.2.2.1 hW.2.2.2.2.1 hS hC.2.2.2.2.2.2.2.2.1 hn0 rfl (by omega) (by omega) (by omega) hd (fun a cq H1 hK1 hP hD hS1 => ?_)
      refine pm_newG (a := a) (cq := cq) hC hI (pm_tl hI.2.1) hn hlt k hag hpe hls hW hc hs hP hD hS1 ?_ (fun _ => ⟨by omega, ?_⟩)
      · rw [pm_ee_r (n := n.toNatClampNeg) (by simp [pm_nc])]
        simp [pm_nc]
      · exact hK1.2 0 (cq, .object "HillHouses$Slope") rfl
    · cases h
  · cases h
end AL
