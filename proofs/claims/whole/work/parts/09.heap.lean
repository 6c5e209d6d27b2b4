/-! SOUNDNESS of the small machine: instructions that touch cells -/
section HP
variable {X : pm_X} {cal : pm_C} {qv : Value} {D : va_G} {A : Nat → Prop} {adI : Nat → Nat} {gI : pm_G} {mi : Nat} {p : Program} {l : Launch} {e : Env} {R : Room} {s : State} {m : MethodId} {args : Array Value} {below : List Frame} {meth : Method} {c : Code} {Q : State → Prop} {S' : pm_S} {pc : Nat} {lo : List (Option Value)} {st : List Value} {g : pm_G} {iv : pm_V}
theorem pm_Env.adC {ad : Nat → Nat} (hC : pm_Cx X qv D A adI mi p R s m args meth c) (hag : ∀ k, gI.1 k ≠ none ∨ 1000 ≤ k → ad k = adI k) : pm_Env X qv ad A s s.heap := (hC.2.2.2.2.2.2.2.1).ad (fun k hk => hag k (Or.inr hk))
theorem pm_cv_ov {ad : Nat → Nat} {ci a sl : Nat} : pm_cv ad .null (pm_ov g iv ci a sl) = pm_cv ad qv (pm_ov g iv ci a sl) := by
  unfold pm_ov
  split
  · cases g.2.1 a sl <;> rfl
  · rfl
theorem pm_map_get {α : Type} {f : Nat → α} {n k : Nat} (h : k < n) : ((List.range n).map f)[k]? = some (f k) := by
  rw [List.getElem?_map, List.getElem?_range h]
  rfl
theorem pm_map_set {α : Type} {f f' : Nat → α} {n k : Nat} (h : k < n) (ho : ∀ j, j ≠ k → f' j = f j) : ((List.range n).map f).set k (f' k) = (List.range n).map f' := by
  apply List.ext_getElem?
  intro i
  by_cases hik : i = k
  · subst hik
    rw [List.getElem?_set_self (by simpa using h), pm_map_get h]
  · rw [List.getElem?_set_ne (Ne.symm hik), List.getElem?_map, List.getElem?_map]
    cases hi : (List.range n)[i]? with
    | none => rfl
    | some q =>
      have : q = i := by
        have := (List.getElem?_eq_some_iff.mp hi).2
        simpa using this.symm
      subst this
      show some (f q) = some (f' q)
      rw [ho q hik]
theorem pm_ee_o {ad : Nat → Nat} {ca : Nat → ClassId} {a ci n : Nat} (hk : g.1 a = some (ci, n)) (hc : ci < 8) : pm_ee ad ca g iv a = .inr (ci, (List.range (pm_nf ci)).map fun sl => pm_cv ad .null (pm_ov g iv ci a sl)) := by
  unfold pm_ee
  rw [hk]
  show (if ci < 8 then _ else _) = _
  rw [if_pos hc]
theorem pm_ee_i {ad : Nat → Nat} {ca : Nat → ClassId} {a q n : Nat} (hk : g.1 a = some (q, n)) (hc : q = 8 ∨ q = 9 ∨ q = 10) : pm_ee ad ca g iv a = .inl (ca a, n, .inl (iv a)) := by
  unfold pm_ee
  rw [hk]
  show (if q < 8 then _ else if q = 11 then _ else _) = _
  rw [if_neg (by omega), if_neg (by omega)]
theorem pm_ee_r {ad : Nat → Nat} {ca : Nat → ClassId} {a n : Nat} (hk : g.1 a = some (11, n)) : pm_ee ad ca g iv a = .inl (ca a, n, .inr (.inr (.inr (.inr fun i => (g.2.1 a i).map ad)))) := by
  unfold pm_ee
  rw [hk]
  rfl
/-- an array's class -/
theorem pm_Wd.K {ad : Nat → Nat} {ca : Nat → ClassId} {L : List Nat} {H : Heap} (h : pm_Wd D A ad ca L g iv s H) (hK : va_K D pm_cl [] s) {a q n : Nat} (hk : g.1 a = some (q, n)) (hq : 8 ≤ q) : va_K D pm_cl [(ca a, pm_ty q)] s := by
  refine ⟨hK.1, fun k x hx => ?_⟩
  cases k with
  | zero => cases hx; exact (h.2.2.2.2.2 a q n hk hq).2
  | succ k => simp at hx
/-- a cell is written -/
theorem pm_Wd.upd {ad : Nat → Nat} {ca : Nat → ClassId} {L : List Nat} {H H1 : Heap} {g' : pm_G} {iv' : pm_V} (h : pm_Wd D A ad ca L g iv s H) (hg : g'.1 = g.1) {j a : Nat} {x : va_E} (hj : L[j]? = some a) (hx : x = pm_ee ad ca g' iv' a) (ho : ∀ q ∈ L, q ≠ a → pm_ee ad ca g' iv' q = pm_ee ad ca g iv q)
    (hP : va_P D pm_cl ((L.map (pm_e ad ca g iv)).set j (ad a, x)) H1) (hD : va_D A ((L.map (pm_e ad ca g iv)).set j (ad a, x))) : pm_Wd D A ad ca L g' iv' s H1 := by
  subst hx
  rw [pm_set h.2.1 hj ho] at hP hD
  exact ⟨by rw [hg]; exact h.1, h.2.1, h.2.2.1, hP, hD, by rw [hg]; exact h.2.2.2.2.2⟩
theorem pm_g_nn {off : Int} (hC : pm_Cx X qv D A adI mi p R s m args meth c) (hd : decode (pm_mb mi) pc = .ok (.ifnonnull off, 3)) (h : pm_nn pc lo st g iv off = some (.inl S')) (k : pm_Go qv D A adI gI mi p l e R s m args below meth c Q S') : pm_Go qv D A adI gI mi p l e R s m args below meth c Q (pc, lo, st, g, iv) := by
  unfold pm_nn at h
  split at h
  · obtain ⟨t, ht, rfl⟩ := pm_jmp_inv h
    intro ad ca L H locs cells slots ls hag hpe hls hW hS hc hs
    exact lv_ifnonnull hC.1 hC.2.1 hd ht (k ad ca L H locs cells slots ls hag hpe hls hW hS hc hs)
  · cases h
    intro ad ca L H locs cells slots ls hag hpe hls hW hS hc hs
    exact lv_ifnonnullN hC.1 hC.2.1 hd (k ad ca L H locs cells slots ls hag hpe hls hW hS hc hs)
  · cases h
theorem pm_g_tsw {d lw up : Int} {os : Array Int} {len : Nat} (hC : pm_Cx X qv D A adI mi p R s m args meth c) (hd : decode (pm_mb mi) pc = .ok (.tableswitch d lw up os, len)) (h : pm_tsw pc lo st g iv d lw up os = some (.inl S')) (k : pm_Go qv D A adI gI mi p l e R s m args below meth c Q S') : pm_Go qv D A adI gI mi p l e R s m args below meth c Q (pc, lo, st, g, iv) := by
  unfold pm_tsw at h
  split at h
  · split at h
    · rename_i hx
      obtain ⟨t, ht, rfl⟩ := pm_jmp_inv h
      intro ad ca L H locs cells slots ls hag hpe hls hW hS hc hs
      exact lv_tableOut hC.1 hC.2.1 hd hx ht (k ad ca L H locs cells slots ls hag hpe hls hW hS hc hs)
    · rename_i hx
      split at h
      · rename_i o ho
        obtain ⟨t, ht, rfl⟩ := pm_jmp_inv h
        intro ad ca L H locs cells slots ls hag hpe hls hW hS hc hs
        exact lv_tableIn hC.1 hC.2.1 hd (fun q => hx (Or.inl q)) (fun q => hx (Or.inr q)) ho ht (k ad ca L H locs cells slots ls hag hpe hls hW hS hc hs)
      · cases h
  · cases h
theorem pm_g_lsw {d : Int} {ps : Array (Int × Int)} {len : Nat} (hC : pm_Cx X qv D A adI mi p R s m args meth c) (hd : decode (pm_mb mi) pc = .ok (.lookupswitch d ps, len)) (h : pm_lsw pc lo st g iv d ps = some (.inl S')) (k : pm_Go qv D A adI gI mi p l e R s m args below meth c Q S') : pm_Go qv D A adI gI mi p l e R s m args below meth c Q (pc, lo, st, g, iv) := by
  unfold pm_lsw at h
  split at h
  · obtain ⟨hp, h⟩ := pm_ifn_inv h
    obtain ⟨t, ht, rfl⟩ := pm_jmp_inv h
    intro ad ca L H locs cells slots ls hag hpe hls hW hS hc hs
    exact lv_lookup hC.1 hC.2.1 hd hp rfl ht (k ad ca L H locs cells slots ls hag hpe hls hW hS hc hs)
  · cases h
theorem pm_g_kI2 {idx : Nat} (hC : pm_Cx X qv D A adI mi p R s m args meth c) (hd : decode (pm_mb mi) pc = .ok (.ldc idx, 2)) (h : pm_kI mi pc lo st g iv 2 idx = some (.inl S')) (k : pm_Go qv D A adI gI mi p l e R s m args below meth c Q S') : pm_Go qv D A adI gI mi p l e R s m args below meth c Q (pc, lo, st, g, iv) := by
  unfold pm_kI at h
  split at h
  · rename_i v z hl
    cases h
    intro ad ca L H locs cells slots ls hag hpe hls hW hS hc hs
    exact lv_ldc hC.1 hC.2.1 hC.2.2.2.1 (hC.2.2.2.2.1 _ (pm_lk_w hl)) hd (k ad ca L H locs cells slots ls hag hpe hls hW hS hc hs)
  · cases h
theorem pm_g_kI3 {idx : Nat} (hC : pm_Cx X qv D A adI mi p R s m args meth c) (hd : decode (pm_mb mi) pc = .ok (.ldc_w idx, 3)) (h : pm_kI mi pc lo st g iv 3 idx = some (.inl S')) (k : pm_Go qv D A adI gI mi p l e R s m args below meth c Q S') : pm_Go qv D A adI gI mi p l e R s m args below meth c Q (pc, lo, st, g, iv) := by
  unfold pm_kI at h
  split at h
  · rename_i v z hl
    cases h
    intro ad ca L H locs cells slots ls hag hpe hls hW hS hc hs
    exact lv_ldcw hC.1 hC.2.1 hC.2.2.2.1 (hC.2.2.2.2.1 _ (pm_lk_w hl)) hd (k ad ca L H locs cells slots ls hag hpe hls hW hS hc hs)
  · cases h
theorem pm_g_kL {idx : Nat} (hC : pm_Cx X qv D A adI mi p R s m args meth c) (hd : decode (pm_mb mi) pc = .ok (.ldc2_w idx, 3)) (h : pm_kL mi pc lo st g iv idx = some (.inl S')) (k : pm_Go qv D A adI gI mi p l e R s m args below meth c Q S') : pm_Go qv D A adI gI mi p l e R s m args below meth c Q (pc, lo, st, g, iv) := by
  unfold pm_kL at h
  split at h
  · rename_i v z hl
    cases h
    intro ad ca L H locs cells slots ls hag hpe hls hW hS hc hs
    exact lv_ldc2 hC.1 hC.2.1 hC.2.2.2.1 (hC.2.2.2.2.1 _ (pm_ll_w hl)) hd (k ad ca L H locs cells slots ls hag hpe hls hW hS hc hs)
  · cases h
theorem pm_g_kS {idx : Nat} (hC : pm_Cx X qv D A adI mi p R s m args meth c) (hd : decode (pm_mb mi) pc = .ok (.ldc idx, 2)) (h : pm_kS mi pc lo st g iv idx = some (.inl S')) (k : pm_Go qv D A adI gI mi p l e R s m args below meth c Q S') : pm_Go qv D A adI gI mi p l e R s m args below meth c Q (pc, lo, st, g, iv) := by
  unfold pm_kS at h
  split at h
  · rename_i i hl
    cases h
    intro ad ca L H locs cells slots ls hag hpe hls hW hS hc hs
    obtain ⟨h4, t, ht, he⟩ := pm_lt_w hl
    have hZ := (pm_Env.adC hC hag).2.1 i t ht
    have h4 : pm_mc mi = 4 := h4
    have he : t.1 = idx := he
    rw [he] at hZ
    exact va_ldcS (own := "HillHouses$Tape") hC.1 hC.2.1 (by have := hC.2.2.2.1; rw [h4] at this; exact this) hZ hd (k ad ca L H locs cells slots ls hag hpe hls hW hS hc hs)
  · cases h
theorem pm_g_gs {idx : Nat} (hC : pm_Cx X qv D A adI mi p R s m args meth c) (hd : decode (pm_mb mi) pc = .ok (.getstatic idx, 3)) (h : pm_gs mi pc lo st g iv idx = some (.inl S')) (k : pm_Go qv D A adI gI mi p l e R s m args below meth c Q S') : pm_Go qv D A adI gI mi p l e R s m args below meth c Q (pc, lo, st, g, iv) := by
  unfold pm_gs at h
  split at h
  · rename_i j z hl
    cases h
    intro ad ca L H locs cells slots ls hag hpe hls hW hS hc hs
    obtain ⟨hj, hw⟩ := pm_ls_w hl
    have hE := pm_Env.adC hC hag
    have kk := k ad ca L H locs cells slots ls hag hpe hls hW hS hc hs
    have hlk := hC.2.2.2.2.1 _ hw
    rcases (show j = 0 ∨ j = 1 ∨ j = 2 ∨ j = 3 ∨ j = 4 by omega) with rfl | rfl | rfl | rfl | rfl
    · exact va_gets hC.1 hC.2.1 (hE.2.2.1 0 _ rfl).1 hS hC.2.2.2.1 hlk (fun _ q => q) hd kk
    · exact va_gets hC.1 hC.2.1 (hE.2.2.1 1 _ rfl).1 hS hC.2.2.2.1 hlk (fun _ q => q) hd kk
    · exact va_gets hC.1 hC.2.1 (hE.2.2.1 2 _ rfl).1 hS hC.2.2.2.1 hlk (fun _ q => q) hd kk
    · exact va_gets hC.1 hC.2.1 hE.2.2.2.1 hS hC.2.2.2.1 hlk (fun _ q => q) hd kk
    · exact va_gets hC.1 hC.2.1 hE.2.2.2.2.2.1 hS hC.2.2.2.1 hlk (fun _ q => q) hd kk
  · cases h
theorem pm_g_gf {idx : Nat} (hC : pm_Cx X qv D A adI mi p R s m args meth c) (hd : decode (pm_mb mi) pc = .ok (.getfield idx, 3)) (h : pm_gf mi pc lo st g iv idx = some (.inl S')) (k : pm_Go qv D A adI gI mi p l e R s m args below meth c Q S') : pm_Go qv D A adI gI mi p l e R s m args below meth c Q (pc, lo, st, g, iv) := by
  unfold pm_gf at h
  split at h
  · rename_i a r
    split at h
    · rename_i ci sl z hl
      split at h
      · rename_i hci
        subst hci
        obtain ⟨hr, h⟩ := pm_ifn_inv h
        cases h
        intro ad ca L H locs cells slots ls hag hpe hls hW hS hc hs
        have kk := k ad ca L H locs cells slots ls hag hpe hls hW hS hc hs
        have hw := hC.2.2.2.2.1 _ (pm_lf_s hl)
        have hr1 : @LE.le Nat _ 1000 a := hr.1
        have hr2 : @LT.lt Nat _ a 1008 := hr.2
        obtain ⟨i, rfl⟩ := Nat.exists_eq_add_of_le hr1
        have hi8 : i < 8 := by omega
        have hi9 : (1000 + i + 100 : Nat) = 1100 + i := by omega
        have hE := (pm_Env.adC hC hag).1.1 i hi8
        by_cases hsl : sl = 0
        · simp only [hsl, if_true] at hw kk
          have kk : W p l e R s m args below meth c H locs cells slots Q (F0 m (pc + 3) ls (.ref (ad (1100 + i)) :: r.map (pm_cv ad qv))) := by rw [← hi9]; exact kk
          exact vk_getf hC.1 hC.2.1 hE.2.2.1 hS hC.2.2.2.1 hw (fun _ q => q) hd kk
        · simp only [hsl, if_false] at hw kk
          exact vk_getf hC.1 hC.2.1 hE.2.1 hS hC.2.2.2.1 hw (fun _ q => q) hd kk
      · rename_i hci
        obtain ⟨⟨hk, hc7, hsl⟩, h⟩ := pm_ifn_inv h
        cases h
        intro ad ca L H locs cells slots ls hag hpe hls hW hS hc hs
        have kk := k ad ca L H locs cells slots ls hag hpe hls hW hS hc hs
        obtain ⟨j, hj, hj2⟩ := hW.at hk
        rw [pm_ee_o hk (by omega)] at hj2
        refine va_get (ref := (pm_T ci sl).1) hC.1 hC.2.1 hC.2.2.2.2.1 (pm_c_lay hc7) hC.2.2.2.1 hC.2.2.2.2.2.2.1 hW.2.2.2.1 j hj2 (pm_cl_at ci hc7) sl hsl (hC.2.2.2.2.1 _ (pm_lf_w hl hci)) (fun _ q => q) (pm_map_get hsl) hd ?_
        rw [pm_cv_ov (qv := qv)]
        exact kk
    · cases h
  · cases h
theorem pm_g_pf {idx : Nat} (hC : pm_Cx X qv D A adI mi p R s m args meth c) (hd : decode (pm_mb mi) pc = .ok (.putfield idx, 3)) (h : pm_pf mi pc lo st g iv idx = some (.inl S')) (k : pm_Go qv D A adI gI mi p l e R s m args below meth c Q S') : pm_Go qv D A adI gI mi p l e R s m args below meth c Q (pc, lo, st, g, iv) := by
  have key : ∀ {v : Value} {a ci sl z : Nat} {r : List Value} {g' : pm_G} {iv' : pm_V}, st = v :: .ref a :: r → pm_lft.lookup (pm_mc mi, idx) = some (ci, sl, z) → (g.1 a = some (ci, 0) ∧ ci < 7 ∧ sl < pm_nf ci ∧ (pm_ff ci sl = false ∨ (pm_mk mi = 2 ∧ pm_mc mi = ci))) → S' = (pc + 3, lo, r, g', iv') → g'.1 = g.1 → g'.2.2 = g.2.2 →
      (∀ ad : Nat → Nat, narrow (pm_tyf ci sl) (pm_cv ad qv v) = pm_cv ad qv v ∧ fits (pm_tyf ci sl) (pm_cv ad qv v) = true) → (∀ ad : Nat → Nat, pm_cv ad .null (pm_ov g' iv' ci a sl) = pm_cv ad qv v) → (∀ j, j ≠ sl → pm_ov g' iv' ci a j = pm_ov g iv ci a j) → (∀ q, q ≠ a → g'.2.1 q = g.2.1 q ∧ iv' q = iv q) → pm_Go qv D A adI gI mi p l e R s m args below meth c Q (pc, lo, st, g, iv) := by
    intro v a ci sl z r g' iv' e1 hl hc1 e2 e3 e4 hfit hnew hold hoth
    subst e1; subst e2
    obtain ⟨hk, hc7, hsl, hfin⟩ := hc1
    intro ad ca L H locs cells slots ls hag hpe hls hW hS hc hs
    obtain ⟨j, hj, hj2⟩ := hW.at hk
    have hk' : g'.1 a = some (ci, 0) := by rw [e3]; exact hk
    have hci : ¬ ci = 100 := by omega
    rw [pm_ee_o hk (by omega)] at hj2
    have hx : (.inr (ci, ((List.range (pm_nf ci)).map fun sl => pm_cv ad .null (pm_ov g iv ci a sl)).set sl (pm_cv ad qv v)) : va_E) = pm_ee ad ca g' iv' a := by
      rw [pm_ee_o hk' (by omega), ← hnew ad, pm_map_set (f' := fun sl => pm_cv ad .null (pm_ov g' iv' ci a sl)) hsl (fun j hj => by rw [hold j hj])]
    have ho : ∀ q ∈ L, q ≠ a → pm_ee ad ca g' iv' q = pm_ee ad ca g iv q := by
      intro q _ hq
      unfold pm_ee pm_ov
      rw [e3, (hoth q hq).1, (hoth q hq).2]
    have fin : ∀ (H1 : Heap) (locs1 : List Loc), va_P D pm_cl ((L.map (pm_e ad ca g iv)).set j (ad a, .inr (ci, ((List.range (pm_nf ci)).map fun sl => pm_cv ad .null (pm_ov g iv ci a sl)).set sl (pm_cv ad qv v)))) H1 → va_D A ((L.map (pm_e ad ca g iv)).set j (ad a, .inr (ci, ((List.range (pm_nf ci)).map fun sl => pm_cv ad .null (pm_ov g iv ci a sl)).set sl (pm_cv ad qv v)))) → va_S A s.heap H1 locs1 → W p l e R s m args below meth c H1 locs1 cells slots Q (F0 m (pc + 3) ls (r.map (pm_cv ad qv))) := fun H1 locs1 hP1 hD1 hS1 =>
      k ad ca L H1 locs1 cells slots ls hag (fun q hq => by show g'.1 q ≠ none; rw [e3]; exact hpe q hq) hls (hW.upd e3 hj hx ho hP1 hD1) hS1 (by show _ = g'.2.2.2.1; rw [e4]; exact hc) (by show _ = g'.2.2.2.2; rw [e4]; exact hs)
    have hlen : sl < ((List.range (pm_nf ci)).map fun sl => pm_cv ad .null (pm_ov g iv ci a sl)).length := by simpa using hsl
    obtain ⟨hff, hown⟩ := pm_fff ci hc7 sl hsl
    by_cases hf : pm_ff ci sl = false
    · exact va_put (ref := (pm_T ci sl).1) hC.1 hC.2.1 hC.2.2.2.2.1 (pm_c_lay hc7) (pm_tyf ci) (pm_fty ci hc7) (pm_fn ci hc7) hC.2.2.2.1 hC.2.2.2.2.2.2.1 hW.2.2.2.1 hW.2.2.2.2.1 hS j hj2 (pm_cl_at ci hc7) sl hsl (hC.2.2.2.2.1 _ (pm_lf_w hl hci)) (fun _ q => q) (by rw [hff]; exact hf) (pm_fty ci hc7 sl hsl) (hfit ad).1 (hfit ad).2 hlen hd fin
    · obtain ⟨hm2, hmc⟩ := hfin.resolve_left hf
      exact va_putF (ref := (pm_T ci sl).1) hC.1 hC.2.1 hC.2.2.2.2.1 (pm_c_lay hc7) (pm_tyf ci) (pm_fty ci hc7) (pm_fn ci hc7) hC.2.2.2.1 hC.2.2.2.2.2.2.1 hW.2.2.2.1 hW.2.2.2.2.1 hS j hj2 (pm_cl_at ci hc7) sl hsl (hC.2.2.2.2.1 _ (pm_lf_w hl hci)) (fun _ q => q) (by rw [hff]; simpa using hf) (hC.2.2.2.2.2.1 hm2) (by rw [hown, hmc]) (pm_fty ci hc7 sl hsl) (hfit ad).1 (hfit ad).2 hlen hd fin
  unfold pm_pf at h
  split at h
  · rename_i v a r
    split at h
    · rename_i ci sl z hl
      obtain ⟨hc1, h⟩ := pm_ifn_inv h
      have hrf := pm_frf ci hc1.2.1 sl hc1.2.2.1
      split at h
      · rename_i x
        obtain ⟨h2, h⟩ := pm_ifn_inv h
        cases h
        refine key rfl hl hc1 rfl rfl rfl (fun ad => ?_) (fun ad => ?_) (fun j hj => ?_) (fun q hq => ⟨rfl, ?_⟩)
        · rw [hrf.1 h2]
          exact ⟨rfl, rfl⟩
        · unfold pm_ov
          rw [if_neg (by rw [h2]; exact Bool.false_ne_true)]
          simp [pm_iw, upd, pm_cv]
        · unfold pm_ov
          split
          · rfl
          · simp [pm_iw, upd, hj]
        · simp [pm_iw, hq]
      · rename_i t
        obtain ⟨h2, h⟩ := pm_ifn_inv h
        cases h
        refine key rfl hl hc1 rfl rfl rfl (fun ad => ?_) (fun ad => ?_) (fun j hj => ?_) (fun q hq => ⟨?_, rfl⟩)
        · rcases hrf.2 h2 with ⟨n, hn⟩ | ⟨n, hn⟩ <;> rw [hn] <;> exact ⟨rfl, rfl⟩
        · unfold pm_ov
          rw [if_pos h2]
          simp [pm_rw, va_up, va_rf, pm_cv]
        · unfold pm_ov
          split
          · simp [pm_rw, va_up, hj]
          · rfl
        · simp [pm_rw, hq]
      · cases h
    · cases h
  · cases h
end HP
