/-! SOUNDNESS of the small machine: calls, and the whole of it -/
def pm_Pre (X : pm_X) (qv : Value) (D : va_G) (ad : Nat → Nat) (ca : Nat → ClassId) (L : List Nat) (g : pm_G) (iv : pm_V) (sz : Nat) : State → Prop := fun U => U.heap.size = sz ∧ pm_Wd D (va_A (L.map (pm_e ad ca g iv)) sz) ad ca L g iv U U.heap ∧ va_K D pm_cl [] U ∧ pm_Env X qv ad (va_A (L.map (pm_e ad ca g iv)) sz) U U.heap
def pm_Q (D : va_G) (A : Nat → Prop) (ad : Nat → Nat) (g : pm_G) (r : pm_R) : Array Value → State → Outcome → State → Prop := fun _ st oc t => ∃ (ad' : Nat → Nat) (ca' : Nat → ClassId) (L' : List Nat), oc = .returned r.1 ∧ (∀ k, g.1 k ≠ none ∨ 1000 ≤ k → ad' k = ad k) ∧ pm_Wd D A ad' ca' L' r.2.1 r.2.2 t t.heap ∧ va_F A st t
/-- the contract of a method at depth d: for each run of it in the small machine -/
def pm_Ct (X : pm_X) (l : Launch) (cal : pm_C) (d : Nat) : Prop := ∀ (t : Nat) (as : List Value) (g : pm_G) (iv : pm_V) (r : pm_R), t < pm_mt.length - 1 → cal t as g iv = some r → pm_okg g → (∀ w ∈ as, pm_okv g w) → ∀ (qv : Value) (D : va_G) (ad : Nat → Nat) (ca : Nat → ClassId) (L : List Nat) (sz : Nat), (qv = .null ∨ ∃ t, qv = .ref t) →
  Met l (pm_my t) (pm_ws t) (pm_rm d (r.2.1.2.2.2.1 - g.2.2.2.1) (r.2.1.2.2.2.2 - g.2.2.2.2)) (va_Pc (as.map (pm_cv ad qv)) (pm_Pre X qv D ad ca L g iv sz)) (pm_Q D (va_A (L.map (pm_e ad ca g iv)) sz) ad g r) (r.2.1.2.2.2.1 - g.2.2.2.1) (r.2.1.2.2.2.2 - g.2.2.2.2) (va_A (L.map (pm_e ad ca g iv)) sz)
theorem pm_blind {X : pm_X} {qv : Value} {D : va_G} {ad : Nat → Nat} {ca : Nat → ClassId} {L : List Nat} {g : pm_G} {iv : pm_V} {sz : Nat} {av : List Value} : FrameBlind (va_Pc av (pm_Pre X qv D ad ca L g iv sz)) := by
  intro a U fr mk h
  obtain ⟨h0, h1, h2, h3, h4⟩ := h
  refine ⟨h0, h1, ⟨h2.1, h2.2.1, h2.2.2.1, h2.2.2.2.1, h2.2.2.2.2.1, fun k q n hk h8 => ?_⟩, va_K.moved (u := U) (U := U.calling fr mk a) (Vm.Alike.refl U.vm) h3, pm_Env.blind a fr mk h4⟩
  obtain ⟨q1, q2, q3⟩ := h2.2.2.2.2.2 k q n hk h8
  exact ⟨q1, arrOfT_moved (u := U) (E := U.calling fr mk a) (Vm.Alike.refl U.vm) q2, va_RA.moved (u := U) (U := U.calling fr mk a) (Vm.Alike.refl U.vm) q3⟩
theorem pm_good {ws : List Cond} (h : ∀ w ∈ ws, w ∈ pm_TB) : GoodIn pm_TB ws := fun w hw => ⟨h w hw, good_of_word (List.mem_filter.mp (h w hw)).2⟩
theorem pm_ws_in {t : Nat} (h : pm_MOK t) : ∀ w ∈ pm_ws t, w ∈ pm_TB := fun w hw => (List.mem_cons.mp hw).elim (fun e => e ▸ h.1) id
section CL
variable {X : pm_X} {cal : pm_C} {qv : Value} {D : va_G} {A : Nat → Prop} {adI : Nat → Nat} {gI : pm_G} {mi : Nat} {p : Program} {l : Launch} {e : Env} {R : Room} {s : State} {m : MethodId} {args : Array Value} {below : List Frame} {meth : Method} {c : Code} {Q : State → Prop} {S' : pm_S} {pc d : Nat} {lo : List (Option Value)} {st : List Value} {g : pm_G} {iv : pm_V}
/-- the start of a callee holds where the caller stands -/
theorem pm_start (hC : pm_Cx X qv D A adI mi p R s m args meth c) {ad : Nat → Nat} {ca : Nat → ClassId} {L : List Nat} {H : Heap} {locs : List Loc} (hag : ∀ k, gI.1 k ≠ none ∨ 1000 ≤ k → ad k = adI k) (hW : pm_Wd D A ad ca L g iv s H) (hS : va_S A s.heap H locs) {U : State} (hU : U.heap = H) (hWm : s.WarmedH U.vm) : pm_Pre X qv D ad ca L g iv H.size U := by
  have hfree : ∀ q, va_A (L.map (pm_e ad ca g iv)) H.size q → A q := by
    intro q h
    rcases h with ⟨k, x, h⟩ | h
    · exact hW.2.2.2.2.1.2 k (q, x) h
    · exact hC.2.2.2.2.2.2.2.2.1 q (Nat.le_trans hS.1 h)
  refine ⟨by rw [hU], ⟨hW.1, hW.2.1, hW.2.2.1, by rw [hU]; exact hW.2.2.2.1, hW.2.2.2.2.1.self, fun k q n hk h8 => ?_⟩, va_K.moved hWm.alike hC.2.2.2.2.2.2.1, (pm_Env.adC hC hag).down hS hU hWm hfree⟩
  obtain ⟨q1, q2, q3⟩ := hW.2.2.2.2.2 k q n hk h8
  exact ⟨q1, arrOfT_moved hWm.alike q2, va_RA.moved hWm.alike q3⟩
/-- behind a call -/
theorem pm_callW (hC : pm_Cx X qv D A adI mi p R s m args meth c) (hck : pm_CK cal) {t : Nat} {as : List Value} {r : pm_R} (hcal : cal t as g iv = some r) (has : ∀ w ∈ as, pm_okv g w) {rest : List Value} (hrest : ∀ w ∈ rest, pm_okv g w) (hI : pm_Iv (pc, lo, st, g, iv)) (k : pm_Go qv D A adI gI mi p l e R s m args below meth c Q (pc + 3, lo, r.1.toList ++ rest, r.2.1, r.2.2))
    {ad : Nat → Nat} {ca : Nat → ClassId} {L : List Nat} {H : Heap} {locs : List Loc} {cells slots : Nat} {ls : Array Slot} (hag : ∀ k, gI.1 k ≠ none ∨ 1000 ≤ k → ad k = adI k) (hpe : ∀ k, gI.1 k ≠ none → g.1 k ≠ none) (hls : pm_Ls ad qv ls (pm_ml mi) lo) (hW : pm_Wd D A ad ca L g iv s H) (hS : va_S A s.heap H locs) (hc : cells + gI.2.2.2.1 = g.2.2.2.1) (hs : slots + gI.2.2.2.2 = g.2.2.2.2) {a : Array Value}
    (hr : va_Run p l e R s m args below meth c H locs cells slots (r.2.1.2.2.2.1 - g.2.2.2.1) (r.2.1.2.2.2.2 - g.2.2.2.2) (F0 m pc ls (st.map (pm_cv ad qv))) (rest.map (pm_cv ad qv)) (pm_Q D (va_A (L.map (pm_e ad ca g iv)) H.size) ad g r a) (va_A (L.map (pm_e ad ca g iv)) H.size)) : W p l e R s m args below meth c H locs cells slots Q (F0 m pc ls (st.map (pm_cv ad qv))) := by
  have hfree : ∀ q, va_A (L.map (pm_e ad ca g iv)) H.size q → A q := by
    intro q h
    rcases h with ⟨k, x, h⟩ | h
    · exact hW.2.2.2.2.1.2 k (q, x) h
    · exact hC.2.2.2.2.2.2.2.2.1 q (Nat.le_trans hS.1 h)
  obtain ⟨v, g', iv'⟩ := r
  obtain ⟨hg', hle, hv⟩ := hck _ _ _ _ _ _ _ hcal hI.1 has
  intro T hT X0
  obtain ⟨v0, st₀, t0, T', L0, h0, X', hL, e1, e2, ⟨ad', ca', L', hvv, hag', hW', hz, hk⟩, stp⟩ := hr T hT X0
  cases hvv
  rw [h0] at hz hk
  have hvm : s.vm.Alike t0.vm := by rw [← e2]; exact X'.warmed.alike
  have hagt : ∀ q, pm_okt g q → ad' q = ad q := fun q hq => hag' q hq
  have kk := k ad' ca' L' T'.heap (locs ++ L0) (cells + (g'.2.2.2.1 - g.2.2.2.1)) (slots + (g'.2.2.2.2 - g.2.2.2.2)) ls (fun j hj => (hag' j (hj.imp (hpe j) id)).trans (hag j hj)) (fun j hj => by show g'.1 j ≠ none; rw [hle.1 j (hpe j hj)]; exact hpe j hj) (pm_Ls_agree hagt hI.2.2 hls)
    ⟨hW'.1, hW'.2.1, hW'.2.2.1, by rw [e1]; exact hW'.2.2.2.1, hW'.2.2.2.2.1.weaken (fun _ q _ h => hfree q.1 h), fun j q n hj h8 => by
      obtain ⟨q1, q2, q3⟩ := hW'.2.2.2.2.2 j q n hj h8
      exact ⟨q1, arrOfT_moved hvm.symm q2, va_RA.moved hvm.symm q3⟩⟩
    ⟨Nat.le_trans hS.1 (by rw [e1]; exact hz), fun q h1 h2 => by rw [e1, hk q (Nat.lt_of_lt_of_le h1 hS.1) (fun z => h2 (hfree q z))]; exact hS.2.1 q h1 h2, fun q hq => by
      rcases List.mem_append.mp hq with h | h
      · exact hS.2.2 q h
      · exact hfree _ (hL q h)⟩
    (by have := hle.2.1; show _ = g'.2.2.2.1; omega) (by have := hle.2.2; show _ = g'.2.2.2.2; omega)
  have est : (v.toList ++ rest).map (pm_cv ad' qv) = v.toList ++ rest.map (pm_cv ad qv) := by
    rw [List.map_append, pm_st_agree hagt hrest]
    congr 1
    cases v with
    | none => rfl
    | some w => rcases hv w rfl with ⟨x, rfl⟩ | ⟨x, rfl⟩ <;> rfl
  have kk2 : W p l e R s m args below meth c T'.heap (locs ++ L0) (cells + (g'.2.2.2.1 - g.2.2.2.1)) (slots + (g'.2.2.2.2 - g.2.2.2.2)) Q (F0 m (pc + 3) ls (v.toList ++ rest.map (pm_cv ad qv))) := by
    rw [← est]
    exact kk
  obtain ⟨t2, a1, b1⟩ := kk2 T' rfl X'
  exact ⟨t2, stp t2 a1, b1⟩
theorem pm_bk_inv {rest : List Value} {q : Option pm_R} (h : pm_bk pc lo rest q = some (.inl S')) : ∃ r : pm_R, q = some r ∧ S' = (pc + 3, lo, r.1.toList ++ rest, r.2.1, r.2.2) := by
  unfold pm_bk at h
  split at h
  · cases h
    exact ⟨_, rfl, rfl⟩
  · cases h
theorem pm_fit {t : Nat} (h : pm_ml t ≤ 40) (hR : d + 1 ≤ R.frames ∧ 64 * (d + 1) ≤ R.locals) {mc ms : Nat} : (pm_rm d mc ms).frames + 1 ≤ R.frames ∧ 8 + (pm_ml t + 11) + (pm_rm d mc ms).locals ≤ R.locals := by
  refine ⟨hR.1, ?_⟩
  show 8 + (pm_ml t + 11) + 64 * d ≤ R.locals
  have := hR.2
  omega
theorem pm_take_drop {st : List Value} {n : Nat} {v : Value} {r : List Value} (h : st.drop n = v :: r) : (st.take n).length = n ∧ st = st.take n ++ v :: r := by
  refine ⟨?_, by rw [← h, List.take_append_drop]⟩
  rw [List.length_take]
  have : 0 < (st.drop n).length := by rw [h]; exact Nat.succ_pos _
  rw [List.length_drop] at this
  omega
theorem pm_g_inv {idx : Nat} (hC : pm_Cx X qv D A adI mi p R s m args meth c) (hck : pm_CK cal) (hct : pm_Ct X l cal d) (hR : d + 1 ≤ R.frames ∧ 64 * (d + 1) ≤ R.locals) (hI : pm_Iv (pc, lo, st, g, iv)) (hd : decode (pm_mb mi) pc = .ok (.invokevirtual idx, 3)) (h : pm_inv cal mi pc lo st g iv idx = some (.inl S')) (hb : S'.2.2.2.1.2.2.2.1 ≤ gI.2.2.2.1 + R.cells ∧ S'.2.2.2.1.2.2.2.2 ≤ gI.2.2.2.2 + R.slots) (k : pm_Go qv D A adI gI mi p l e R s m args below meth c Q S') : pm_Go qv D A adI gI mi p l e R s m args below meth c Q (pc, lo, st, g, iv) := by
  unfold pm_inv at h
  split at h
  · rename_i t n z hl
    split at h
    · rename_i b r he
      obtain ⟨⟨hcs, hrc⟩, h⟩ := pm_ifn_inv h
      obtain ⟨rr, hcal, rfl⟩ := pm_bk_inv h
      obtain ⟨ht, hk0, hlk, hpar⟩ := pm_lm_012 (by decide) hl
      have hM := pm_m_ok ht
      obtain ⟨hn, hst⟩ := pm_take_drop he
      have hdr := pm_drop (n := n) hI.2.1
      rw [he] at hdr
      have has : ∀ w ∈ Value.ref b :: (st.take n).reverse, pm_okv g w := pm_cns (hdr _ List.mem_cons_self) (pm_take hI.2.1)
      intro ad ca L H locs cells slots ls hag hpe hls hW hS hc hs
      have hq := (hC.2.2.2.2.2.2.2.1).2.2.2.2.1
      have hmet := hct t _ g iv rr ht hcal hI.1 has qv D ad ca L H.size hq
      have hle := (hck _ _ _ _ _ _ _ hcal hI.1 has).2.1
      have hc' : cells + gI.2.2.2.1 = g.2.2.2.1 := hc
      have hs' : slots + gI.2.2.2.2 = g.2.2.2.2 := hs
      have hb1 : rr.2.1.2.2.2.1 ≤ gI.2.2.2.1 + R.cells := hb.1
      have hb2 : rr.2.1.2.2.2.2 ≤ gI.2.2.2.2 + R.slots := hb.2
      have hl1 : g.2.2.2.1 ≤ rr.2.1.2.2.2.1 := hle.2.1
      have hl2 : g.2.2.2.2 ≤ rr.2.1.2.2.2.2 := hle.2.2
      have hin : Cond.instanceMethod (pm_my t) ∈ pm_TB := by have := hM.2.1; rw [hk0] at this; exact this
      have hwV : GoodIn pm_TB (wsV (pm_cn (pm_mc mi)) idx (pm_my t).cls (pm_my t) (pm_ws t)) := pm_good (by
        intro w hw
        simp only [wsV, List.cons_append, List.nil_append, List.mem_cons] at hw
        rcases hw with rfl | rfl | rfl | rfl | hw
        · exact hlk
        · exact hin
        · exact hM.2.2.2.1 hk0
        · exact hM.2.2.1
        · exact pm_ws_in hM w hw)
      have hrv : ∃ cellB : Cell, H[ad b]? = some cellB ∧ cellB.vm.isStatics = false ∧ s.vm.findClass (pm_my t).cls = some cellB.cls := by
        rcases hrc with ⟨hg1, h7⟩ | ⟨h10, hb1, hb2⟩
        · obtain ⟨j, hj, hj2⟩ := hW.at hg1
          rw [pm_ee_o hg1 (by omega)] at hj2
          rw [hM.2.2.2.2.1]
          exact va_recv hC.2.2.2.2.2.2.1 hW.2.2.2.1 (pm_cl_at _ h7) hj2
        · have hr1 : @LE.le Nat _ 1000 b := hb1
          have hr2 : @LT.lt Nat _ b 1008 := hb2
          obtain ⟨i, rfl⟩ := Nat.exists_eq_add_of_le hr1
          have hi8 : i < 8 := by omega
          rw [hM.2.2.2.2.1, h10]
          exact vk_recv (adK := fun i => ad (1000 + i)) (i := i) (pm_Env.adC hC hag).1 hi8 hS
      refine pm_callW hC hck hcal has (pm_tl hdr) hI k hag hpe hls hW hS hc hs (va_runV (As := ((st.take n).reverse).map (pm_cv ad qv)) (b := ad b) ⟨hC.1, hC.2.1, hC.2.2.1, hC.2.2.2.1, hC.2.2.2.2.1⟩ hmet (cwV n hC.2.2.2.2.1 hwV rfl rfl rfl ⟨rfl, hM.2.2.2.2.2.2.1.1, hM.2.2.2.2.2.2.1.2, hpar⟩ (pm_fit hM.2.2.2.2.2.2.2.1 hR)) ⟨pm_blind, hrv, fun U hU hWm => ⟨by simp [pm_cv], pm_start hC hag hW hS hU hWm⟩⟩ rfl (by rw [List.length_map, List.length_reverse]; exact hn) hls.1 ?_ (lv_room (by rw [pm_cs_map hq]; exact hcs)) hd ⟨by omega, by omega⟩)
      show st.map (pm_cv ad qv) = _
      conv => lhs; rw [hst]
      simp [pm_cv, List.map_reverse]
    · cases h
  · cases h
end CL
