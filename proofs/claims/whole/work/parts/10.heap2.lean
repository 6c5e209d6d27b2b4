/-! SOUNDNESS of the small machine: arrays, new cells -/
section HP2
variable {X : pm_X} {cal : pm_C} {qv : Value} {D : va_G} {A : Nat → Prop} {adI : Nat → Nat} {gI : pm_G} {mi : Nat} {p : Program} {l : Launch} {e : Env} {R : Room} {s : State} {m : MethodId} {args : Array Value} {below : List Frame} {meth : Method} {c : Code} {Q : State → Prop} {S' : pm_S} {pc : Nat} {lo : List (Option Value)} {st : List Value} {g : pm_G} {iv : pm_V}
/-- an array of numbers is one of the world's, or one that nobody writes -/
theorem pm_ar_cases {a q n : Nat} {f : Nat → Int32} (h : pm_ar X g iv a = some (q, n, f)) : (g.1 a = some (q, n) ∧ 8 ≤ q ∧ f = iv a) ∨ (a = 1300 ∧ q = 8 ∧ n = X.1 ∧ f = X.2) ∨ (∃ (i : Nat) (t : String × List Int32), a = 1200 + i ∧ pm_tb[i]? = some t ∧ q = 8 ∧ n = t.2.length ∧ f = fun j => t.2.getD j 0) ∨ (∃ (i : Nat) (t : List Int32), a = 1100 + i ∧ pm_sb[i]? = some t ∧ q = 9 ∧ n = t.length ∧ f = fun j => t.getD j 0) := by
  unfold pm_ar at h
  split at h
  · rename_i q1 n1 hk
    split at h
    · rename_i h8
      cases h
      exact Or.inl ⟨hk, h8, rfl⟩
    · cases h
  · split at h
    · unfold pm_xa at h
      split at h
      · rename_i ha
        cases h
        exact Or.inr (Or.inl ⟨ha, rfl, rfl, rfl⟩)
      · have last : pm_xs a = some (q, n, f) → ∃ (i : Nat) (t : List Int32), a = 1100 + i ∧ pm_sb[i]? = some t ∧ q = 9 ∧ n = t.length ∧ f = fun j => t.getD j 0 := by
          intro h
          unfold pm_xs at h
          split at h
          · rename_i t ht
            split at h
            · rename_i hle
              cases h
              exact ⟨a - 1100, t, by omega, ht, rfl, rfl, rfl⟩
            · cases h
          · cases h
        split at h
        · rename_i t ht
          split at h
          · rename_i hle
            cases h
            exact Or.inr (Or.inr (Or.inl ⟨a - 1200, t, by omega, ht, rfl, rfl, rfl⟩))
          · exact Or.inr (Or.inr (Or.inr (last h)))
        · exact Or.inr (Or.inr (Or.inr (last h)))
    · cases h
theorem pm_ty8 {q : Nat} (h : q = 8) : pm_ty q = .int := by subst h; rfl
theorem pm_ty9 {q : Nat} (h : q = 9) : pm_ty q = .byte := by subst h; rfl
theorem pm_ty10 {q : Nat} (h : q = 10) : pm_ty q = .boolean := by subst h; rfl
theorem pm_slen {i : Nat} {t : List Int32} (h : pm_sb[i]? = some t) : i < 8 ∧ (pm_sb.map List.length).getD i 0 = t.length ∧ pm_sb.getD i [] = t := by
  have hi := (List.getElem?_eq_some_iff.mp h).1
  refine ⟨hi, ?_, ?_⟩
  · rw [List.getD_eq_getElem?_getD, List.getElem?_map, h]
    rfl
  · rw [List.getD_eq_getElem?_getD, h]
    rfl
theorem pm_g_aln (hC : pm_Cx X qv D A adI mi p R s m args meth c) (hd : decode (pm_mb mi) pc = .ok (.arraylength, 1)) (h : pm_aln X pc lo st g iv = some (.inl S')) (k : pm_Go qv D A adI gI mi p l e R s m args below meth c Q S') : pm_Go qv D A adI gI mi p l e R s m args below meth c Q (pc, lo, st, g, iv) := by
  unfold pm_aln at h
  split at h
  · rename_i a r
    split at h
    · rename_i q n f ha
      obtain ⟨hn, h⟩ := pm_ifn_inv h
      cases h
      intro ad ca L H locs cells slots ls hag hpe hls hW hS hc hs
      have kk := k ad ca L H locs cells slots ls hag hpe hls hW hS hc hs
      have hE := pm_Env.adC hC hag
      rcases pm_ar_cases ha with ⟨hk, h8, -⟩ | ⟨rfl, -, rfl, -⟩ | ⟨i, t, rfl, ht, -, rfl, -⟩ | ⟨i, t, rfl, ht, -, rfl, -⟩
      · obtain ⟨j, hj, hj2⟩ := hW.at hk
        have hKa := hW.K hC.2.2.2.2.2.2.1 hk h8
        by_cases h11 : q = 11
        · subst h11
          rw [pm_ee_r hk] at hj2
          exact va_alen hC.1 hC.2.1 hKa hW.2.2.2.1 j 0 hj2 rfl rfl hd kk
        · have h4 := (hW.2.2.2.2.2 a q n hk h8).1
          rw [pm_ee_i hk (by omega)] at hj2
          exact va_alen hC.1 hC.2.1 hKa hW.2.2.2.1 j 0 hj2 rfl rfl hd kk
      · have hb : ad 1300 < s.heap.size := by
          obtain ⟨scr, h1, -⟩ := hE.2.2.2.2.2.2.2.1
          exact (Array.getElem?_eq_some_iff.mp h1).1
        exact va_slen hC.1 hC.2.1 hE.2.2.2.2.2.2.2.1 hb hE.2.2.2.2.2.2.2.2.1 hS hd kk
      · exact va_tlen hC.1 hC.2.1 (hE.2.2.1 i t ht).2 hS rfl hd kk
      · obtain ⟨hi, hl, -⟩ := pm_slen ht
        have hT := (hE.1.1 i hi).2.2.2
        rw [hl] at hT
        exact va_tlen hC.1 hC.2.1 hT hS rfl hd kk
    · cases h
  · cases h
theorem pm_g_ald {b : Bool} (hC : pm_Cx X qv D A adI mi p R s m args meth c) (hd : decode (pm_mb mi) pc = .ok (if b then .iaload else .baload, 1)) (h : pm_ald X pc lo st g iv b = some (.inl S')) (k : pm_Go qv D A adI gI mi p l e R s m args below meth c Q S') : pm_Go qv D A adI gI mi p l e R s m args below meth c Q (pc, lo, st, g, iv) := by
  unfold pm_ald at h
  split at h
  · rename_i x a r
    split at h
    · rename_i q n f ha
      obtain ⟨⟨hq, hin⟩, h⟩ := pm_ifn_inv h
      cases h
      intro ad ca L H locs cells slots ls hag hpe hls hW hS hc hs
      have kk := k ad ca L H locs cells slots ls hag hpe hls hW hS hc hs
      have hE := pm_Env.adC hC hag
      rcases pm_ar_cases ha with ⟨hk, h8, rfl⟩ | ⟨rfl, rfl, rfl, rfl⟩ | ⟨i, t, rfl, ht, rfl, rfl, rfl⟩ | ⟨i, t, rfl, ht, rfl, rfl, rfl⟩
      · obtain ⟨j, hj, hj2⟩ := hW.at hk
        have hKa := hW.K hC.2.2.2.2.2.2.1 hk h8
        cases b with
        | true =>
          have hq8 : q = 8 := hq
          rw [pm_ee_i hk (Or.inl hq8)] at hj2
          rw [pm_ty8 hq8] at hKa
          exact va_iald hC.1 hC.2.1 hKa hW.2.2.2.1 j 0 hj2 rfl hin hd kk
        | false =>
          rcases (show q = 9 ∨ q = 10 from hq) with hq9 | hq10
          · rw [pm_ee_i hk (Or.inr (Or.inl hq9))] at hj2
            rw [pm_ty9 hq9] at hKa
            exact va_bald hC.1 hC.2.1 hKa hW.2.2.2.1 j 0 hj2 rfl hin hd kk
          · rw [pm_ee_i hk (Or.inr (Or.inr hq10))] at hj2
            rw [pm_ty10 hq10] at hKa
            exact va_zald hC.1 hC.2.1 hKa hW.2.2.2.1 j 0 hj2 rfl hin hd kk
      · cases b with
        | true =>
          have hb : ad 1300 < s.heap.size := by
            obtain ⟨scr, h1, -⟩ := hE.2.2.2.2.2.2.2.1
            exact (Array.getElem?_eq_some_iff.mp h1).1
          exact va_sld hC.1 hC.2.1 hE.2.2.2.2.2.2.2.1 hb hE.2.2.2.2.2.2.2.2.1 hS hin hd kk
        | false => exact absurd (show 8 = 9 ∨ 8 = 10 from hq) (by decide)
      · cases b with
        | true => exact va_ti hC.1 hC.2.1 (hE.2.2.1 i t ht).2 hS hin rfl hd kk
        | false => exact absurd (show 8 = 9 ∨ 8 = 10 from hq) (by decide)
      · cases b with
        | true => exact absurd (show 9 = 8 from hq) (by decide)
        | false =>
          obtain ⟨hi, hl, hb⟩ := pm_slen ht
          have hT := (hE.1.1 i hi).2.2.2
          rw [hl, hb] at hT
          exact va_tb hC.1 hC.2.1 hT hS hin rfl hd kk
    · cases h
  · cases h
theorem pm_g_ast {b : Bool} (hC : pm_Cx X qv D A adI mi p R s m args meth c) (hd : decode (pm_mb mi) pc = .ok (if b then .iastore else .bastore, 1)) (h : pm_ast pc lo st g iv b = some (.inl S')) (k : pm_Go qv D A adI gI mi p l e R s m args below meth c Q S') : pm_Go qv D A adI gI mi p l e R s m args below meth c Q (pc, lo, st, g, iv) := by
  unfold pm_ast at h
  split at h
  · rename_i x i a r
    split at h
    · rename_i q n hk
      obtain ⟨⟨hq, hin⟩, h⟩ := pm_ifn_inv h
      cases h
      intro ad ca L H locs cells slots ls hag hpe hls hW hS hc hs
      have h8 : 8 ≤ q := by cases b <;> simp at hq <;> omega
      have hq3 : q = 8 ∨ q = 9 ∨ q = 10 := by cases b <;> simp at hq <;> omega
      obtain ⟨j, hj, hj2⟩ := hW.at hk
      have hKa := hW.K hC.2.2.2.2.2.2.1 hk h8
      have hx : ∀ y : Int32, (.inl (ca a, n, .inl (upd (iv a) i.toNatClampNeg y)) : va_E) = pm_ee ad ca g (pm_iw iv a i.toNatClampNeg y) a := fun y => by
        rw [pm_ee_i hk hq3]
        simp [pm_iw]
      have ho : ∀ y : Int32, ∀ z ∈ L, z ≠ a → pm_ee ad ca g (pm_iw iv a i.toNatClampNeg y) z = pm_ee ad ca g iv z := by
        intro y z _ hz
        unfold pm_ee pm_ov
        simp [pm_iw, hz]
      rw [pm_ee_i hk hq3] at hj2
      have fin : ∀ (y : Int32) (H1 : Heap) (locs1 : List Loc), (if q = 8 then x else if q = 9 then vp_nar .byte x else vp_nar .boolean x) = y → va_P D pm_cl ((L.map (pm_e ad ca g iv)).set j (ad a, .inl (ca a, n, .inl (upd (iv a) i.toNatClampNeg y)))) H1 → va_D A ((L.map (pm_e ad ca g iv)).set j (ad a, .inl (ca a, n, .inl (upd (iv a) i.toNatClampNeg y)))) → va_S A s.heap H1 locs1 → W p l e R s m args below meth c H1 locs1 cells slots Q (F0 m (pc + 1) ls (r.map (pm_cv ad qv))) := fun y H1 locs1 hy hP1 hD1 hS1 =>
        k ad ca L H1 locs1 cells slots ls hag hpe hls (by rw [hy]; exact hW.upd rfl hj (hx y) (ho y) hP1 hD1) hS1 hc hs
      cases b with
      | true =>
        have hq8 : q = 8 := hq
        rw [pm_ty8 hq8] at hKa
        exact va_iast hC.1 hC.2.1 hKa hW.2.2.2.1 hW.2.2.2.2.1 hS j 0 hj2 rfl hin hd (fun H1 locs1 a1 a2 a3 => fin x H1 locs1 (by rw [if_pos hq8]) a1 a2 a3)
      | false =>
        rcases (show q = 9 ∨ q = 10 from hq) with hq9 | hq10
        · rw [pm_ty9 hq9] at hKa
          exact va_bast hC.1 hC.2.1 hKa hW.2.2.2.1 hW.2.2.2.2.1 hS j 0 hj2 rfl hin hd (fun H1 locs1 a1 a2 a3 => fin _ H1 locs1 (by rw [if_neg (by omega), if_pos hq9]) a1 a2 a3)
        · rw [pm_ty10 hq10] at hKa
          exact va_zast hC.1 hC.2.1 hKa hW.2.2.2.1 hW.2.2.2.2.1 hS j 0 hj2 rfl hin hd (fun H1 locs1 a1 a2 a3 => fin _ H1 locs1 (by rw [if_neg (by omega), if_neg (by omega)]) a1 a2 a3)
    · cases h
  · cases h
theorem pm_cv_rf {ad : Nat → Nat} (x : Option Nat) : pm_cv ad qv (va_rf x) = va_rf (x.map ad) := by cases x <;> rfl
theorem pm_g_aal (hC : pm_Cx X qv D A adI mi p R s m args meth c) (hd : decode (pm_mb mi) pc = .ok (.aaload, 1)) (h : pm_aal pc lo st g iv = some (.inl S')) (k : pm_Go qv D A adI gI mi p l e R s m args below meth c Q S') : pm_Go qv D A adI gI mi p l e R s m args below meth c Q (pc, lo, st, g, iv) := by
  unfold pm_aal at h
  split at h
  · rename_i i a r
    split at h
    · rename_i q n hk
      obtain ⟨⟨hq, hin⟩, h2⟩ := pm_ifn_inv h
      subst hq
      cases h2
      intro ad ca L H locs cells slots ls hag hpe hls hW hS hc hs
      have kk := k ad ca L H locs cells slots ls hag hpe hls hW hS hc hs
      obtain ⟨j, hj, hj2⟩ := hW.at hk
      have hKa := hW.K hC.2.2.2.2.2.2.1 hk (by decide)
      rw [pm_ee_r hk] at hj2
      refine va_aldq (C := "HillHouses$Slope") hC.1 hC.2.1 hKa hW.2.2.2.1 j 0 hj2 rfl hin hd ?_
      rw [← pm_cv_rf (qv := qv)]
      exact kk
    · cases h
  · cases h
theorem pm_g_aas (hC : pm_Cx X qv D A adI mi p R s m args meth c) (hd : decode (pm_mb mi) pc = .ok (.aastore, 1)) (h : pm_aas pc lo st g iv = some (.inl S')) (k : pm_Go qv D A adI gI mi p l e R s m args below meth c Q S') : pm_Go qv D A adI gI mi p l e R s m args below meth c Q (pc, lo, st, g, iv) := by
  unfold pm_aas at h
  split at h
  · rename_i t i a r
    split at h
    · rename_i q n hk
      obtain ⟨⟨hq, ht, hin⟩, h2⟩ := pm_ifn_inv h
      subst hq
      cases h2
      intro ad ca L H locs cells slots ls hag hpe hls hW hS hc hs
      obtain ⟨j, hj, hj2⟩ := hW.at hk
      obtain ⟨jt, hjt, hjt2⟩ := hW.at ht
      have hKa := hW.K hC.2.2.2.2.2.2.1 hk (by decide)
      rw [pm_ee_r hk] at hj2
      rw [pm_ee_o ht (by decide)] at hjt2
      have hk' : ((g.1, pm_rw g.2.1 a i.toNatClampNeg (some t), g.2.2) : pm_G).1 a = some (11, n) := hk
      have hx : (.inl (ca a, n, .inr (.inr (.inr (.inr (va_up (fun i => (g.2.1 a i).map ad) i.toNatClampNeg (some (ad t))))))) : va_E) = pm_ee ad ca (g.1, pm_rw g.2.1 a i.toNatClampNeg (some t), g.2.2) iv a := by
        have hf : va_up (fun i => (g.2.1 a i).map ad) i.toNatClampNeg (some (ad t)) = fun z => (((g.1, pm_rw g.2.1 a i.toNatClampNeg (some t), g.2.2) : pm_G).2.1 a z).map ad := by
          funext z
          by_cases hz : z = i.toNatClampNeg
          · simp [va_up, pm_rw, hz]
          · simp [va_up, pm_rw, hz]
        rw [pm_ee_r hk', hf]
      have ho : ∀ z ∈ L, z ≠ a → pm_ee ad ca (g.1, pm_rw g.2.1 a i.toNatClampNeg (some t), g.2.2) iv z = pm_ee ad ca g iv z := by
        intro z _ hz
        unfold pm_ee pm_ov
        simp [pm_rw, hz]
      exact va_astq (r := ("HillHouses$Slope", pm_T 3, pm_nf 3)) hC.1 hC.2.1 hKa hW.2.2.2.1 hW.2.2.2.2.1 hS j 0 jt 3 hj2 rfl hjt2 rfl hin hd (fun H1 locs1 a1 a2 a3 => k ad ca L H1 locs1 cells slots ls hag hpe hls (hW.upd rfl hj hx ho a1 a2) a3 hc hs)
    · cases h
  · cases h
/-- a new cell in the world -/
theorem pm_cv_agree {ad ad' : Nat → Nat} (h : ∀ t, pm_okt g t → ad' t = ad t) {v : Value} (hv : pm_okv g v) : pm_cv ad' qv v = pm_cv ad qv v := by
  cases v with
  | ref t => show Value.ref (ad' t) = Value.ref (ad t); rw [h t (hv t rfl)]
  | _ => rfl
theorem pm_st_agree {ad ad' : Nat → Nat} (h : ∀ t, pm_okt g t → ad' t = ad t) {r : List Value} (hr : ∀ v ∈ r, pm_okv g v) : r.map (pm_cv ad' qv) = r.map (pm_cv ad qv) := List.map_congr_left fun v hv => pm_cv_agree h (hr v hv)
theorem pm_Ls_agree {ad ad' : Nat → Nat} {ls : Array Slot} {nL : Nat} (h : ∀ t, pm_okt g t → ad' t = ad t) (hl : ∀ v, some v ∈ lo → pm_okv g v) (hls : pm_Ls ad qv ls nL lo) : pm_Ls ad' qv ls nL lo := ⟨hls.1, hls.2.1, hls.2.2.1, fun i v hi => by rw [pm_cv_agree h (hl v (List.mem_of_getElem? hi))]; exact hls.2.2.2 i v hi⟩
/-- the world of the same cells, under other addresses of cells that aren't there -/
theorem pm_ee_agree {ad ad' : Nat → Nat} {ca ca' : Nat → ClassId} {g' : pm_G} {iv' : pm_V} (hg : pm_okg g) (h : ∀ t, pm_okt g t → ad' t = ad t) {k : Nat} (h1 : g'.1 k = g.1 k) (h2 : g'.2.1 k = g.2.1 k) (h3 : iv' k = iv k) (h4 : ca' k = ca k) : pm_ee ad' ca' g' iv' k = pm_ee ad ca g iv k := by
  have hm : ∀ i, (g.2.1 k i).map ad' = (g.2.1 k i).map ad := fun i => by
    cases hi : g.2.1 k i with
    | none => rfl
    | some t => show some (ad' t) = some (ad t); rw [h t (hg k i t hi)]
  unfold pm_ee pm_ov
  rw [h1, h2, h3, h4]
  split
  · split
    · congr 3
      funext sl
      split
      · rw [pm_cv_rf, pm_cv_rf, hm]
      · rfl
    · split
      · simp only [hm]
      · rfl
  · rfl
theorem pm_newW {ad : Nat → Nat} {ca : Nat → ClassId} {L : List Nat} {H H1 : Heap} {q n z a : Nat} {cq : ClassId} {x : va_E} (hW : pm_Wd D A ad ca L g iv s H) (hg : pm_okg g) (hn : g.1 g.2.2.1 = none) (hlt : g.2.2.1 < 1000) (hP : va_P D pm_cl (L.map (pm_e ad ca g iv) ++ [(a, x)]) H1) (hD : va_D A (L.map (pm_e ad ca g iv) ++ [(a, x)]))
    (hx : x = pm_ee (fun k => if k = g.2.2.1 then a else ad k) (fun k => if k = g.2.2.1 then cq else ca k) (pm_nc g q n z) (pm_ir iv g.2.2.1 (fun _ => 0)) g.2.2.1) (hq : 8 ≤ q → q ≤ 11 ∧ ArrOfT s cq (pm_ty q) ∧ va_RA s cq (pm_ty q)) :
    pm_Wd D A (fun k => if k = g.2.2.1 then a else ad k) (fun k => if k = g.2.2.1 then cq else ca k) (L ++ [g.2.2.1]) (pm_nc g q n z) (pm_ir iv g.2.2.1 (fun _ => 0)) s H1 := by
  have hag : ∀ t, pm_okt g t → (fun k => if k = g.2.2.1 then a else ad k) t = ad t := fun t ht => by
    show (if t = g.2.2.1 then a else ad t) = ad t
    rw [if_neg]
    rintro rfl
    rcases ht with h | h
    · exact h hn
    · omega
  have hnL : g.2.2.1 ∉ L := fun h => (hW.1 _).mp h hn
  have hmap : L.map (pm_e (fun k => if k = g.2.2.1 then a else ad k) (fun k => if k = g.2.2.1 then cq else ca k) (pm_nc g q n z) (pm_ir iv g.2.2.1 (fun _ => 0))) = L.map (pm_e ad ca g iv) := by
    refine List.map_congr_left fun k hk => ?_
    have hne : k ≠ g.2.2.1 := fun h => hnL (h ▸ hk)
    unfold pm_e
    rw [pm_ee_agree (g := g) (iv := iv) (ca := ca) hg hag (by simp [pm_nc, hne]) (by simp [pm_nc, hne]) (by simp [pm_ir, hne]) (by simp [hne])]
    simp [hne]
  have hfull : (L ++ [g.2.2.1]).map (pm_e (fun k => if k = g.2.2.1 then a else ad k) (fun k => if k = g.2.2.1 then cq else ca k) (pm_nc g q n z) (pm_ir iv g.2.2.1 (fun _ => 0))) = L.map (pm_e ad ca g iv) ++ [(a, x)] := by
    rw [List.map_append, hmap, hx]
    simp [pm_e]
  refine ⟨fun k => ?_, ?_, fun k hk => ?_, by rw [hfull]; exact hP, by rw [hfull]; exact hD, fun k q' n' hk h8 => ?_⟩
  · by_cases hk : k = g.2.2.1
    · simp [hk, pm_nc]
    · simp [hk, pm_nc, hW.1 k]
  · exact List.nodup_append.mpr ⟨hW.2.1, by simp, fun b hb b' hb' h => by
      rw [List.mem_singleton] at hb'
      subst hb'
      subst h
      exact hnL hb⟩
  · rcases List.mem_append.mp hk with h | h
    · exact hW.2.2.1 k h
    · rw [List.mem_singleton] at h
      omega
  · by_cases hkn : k = g.2.2.1
    · simp only [pm_nc, hkn, if_true] at hk
      cases hk
      simp only [hkn, if_true]
      exact hq h8
    · simp only [pm_nc, hkn, if_false] at hk
      simp only [hkn, if_false]
      exact hW.2.2.2.2.2 k q' n' hk h8
end HP2
