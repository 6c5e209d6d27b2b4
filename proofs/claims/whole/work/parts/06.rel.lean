/-! what a state of the small machine says of a state of the machine -/
def pm_ws (mi : Nat) : List Cond := Cond.code (pm_my mi) (pm_mb mi) (pm_ml mi) (pm_mr mi) :: pm_TB
def pm_rm (d mc ms : Nat) : Room := { frames := d, cells := mc, slots := ms, locals := 64 * d }
def pm_cv (ad : Nat → Nat) (qv : Value) : Value → Value
  | .ref k => .ref (ad k)
  | .retAddr _ => qv
  | v => v
theorem pm_cv_cat {ad : Nat → Nat} {qv : Value} (hq : qv = .null ∨ ∃ t, qv = .ref t) (v : Value) : (pm_cv ad qv v).category = v.category := by
  cases v with
  | retAddr n => rcases hq with rfl | ⟨t, rfl⟩ <;> rfl
  | _ => rfl
theorem pm_cs_map {ad : Nat → Nat} {qv : Value} (hq : qv = .null ∨ ∃ t, qv = .ref t) (st : List Value) : ((st.map (pm_cv ad qv)).map fun v => v.category).sum = pm_cs st := by
  unfold pm_cs
  rw [List.map_map]
  congr 2
  funext v
  exact pm_cv_cat hq v
def pm_Ls (ad : Nat → Nat) (qv : Value) (ls : Array Slot) (nL : Nat) (lo : List (Option Value)) : Prop := ls.size = nL ∧ lo.length = nL ∧ lv_wf ls ∧ ∀ (i : Nat) (v : Value), lo[i]? = some (some v) → ls[i]? = some (.val (pm_cv ad qv v))
/-- the locals as the kit's list -/
def pm_al (f : Value → Value) (lo : List (Option Value)) : List (Nat × Value) := (List.range lo.length).filterMap fun i => match lo[i]? with
  | some (some v) => some (i, f v)
  | _ => none
theorem pm_al_mem {f : Value → Value} {lo : List (Option Value)} {i : Nat} {w : Value} : (i, w) ∈ pm_al f lo ↔ ∃ v, lo[i]? = some (some v) ∧ w = f v := by
  unfold pm_al
  rw [List.mem_filterMap]
  constructor
  · rintro ⟨j, hj, h⟩
    cases hl : lo[j]? with
    | none => rw [hl] at h; cases h
    | some o =>
      cases o with
      | none => rw [hl] at h; cases h
      | some v =>
        rw [hl] at h
        cases h
        exact ⟨v, hl, rfl⟩
  · rintro ⟨v, hl, rfl⟩
    refine ⟨i, List.mem_range.mpr (List.getElem?_eq_some_iff.mp hl).1, ?_⟩
    rw [hl]
theorem pm_al_has {ad : Nat → Nat} {qv : Value} {ls : Array Slot} {nL : Nat} {lo : List (Option Value)} (h : pm_Ls ad qv ls nL lo) : lv_has ls nL (pm_al (pm_cv ad qv) lo) := by
  refine ⟨h.1, h.2.2.1, fun q hq => ?_⟩
  obtain ⟨i, w⟩ := q
  obtain ⟨v, hv, rfl⟩ := pm_al_mem.mp hq
  exact h.2.2.2 i v hv
theorem pm_al_s1 {ad : Nat → Nat} {qv : Value} (hq : qv = .null ∨ ∃ t, qv = .ref t) {ls : Array Slot} {nL i : Nat} {lo lo' : List (Option Value)} {v : Value} (hlen : lo.length = nL) (h : lv_has ls nL ((i, pm_cv ad qv v) :: (pm_al (pm_cv ad qv) lo).filter (fun q => !(q.1 == i) && !(q.1 + 1 == i && q.2.category == 2)))) (hs : pm_s1 lo i v = some lo') : pm_Ls ad qv ls nL lo' := by
  unfold pm_s1 at hs
  split at hs
  · rename_i hc
    cases hs
    refine ⟨h.1, by rw [List.length_set]; exact hlen, h.2.1, fun j w hj => ?_⟩
    by_cases hji : j = i
    · subst hji
      rw [List.getElem?_set_self hc.1] at hj
      cases hj
      exact h.2.2 (j, _) List.mem_cons_self
    · rw [List.getElem?_set_ne (Ne.symm hji)] at hj
      refine h.2.2 (j, _) (List.mem_cons_of_mem _ (List.mem_filter.mpr ⟨pm_al_mem.mpr ⟨w, hj, rfl⟩, ?_⟩))
      simp only [Bool.and_eq_true, Bool.not_eq_true', Bool.and_eq_false_iff]
      refine ⟨beq_false_of_ne hji, ?_⟩
      by_cases h1 : j + 1 = i
      · refine Or.inr ?_
        rcases hc.2 with h0 | h0
        · omega
        · unfold pm_c2 at h0
          rw [show i - 1 = j by omega, hj] at h0
          have h2 : ¬ w.category = 2 := by simpa using h0
          show ((pm_cv ad qv w).category == 2) = false
          rw [pm_cv_cat hq]
          simpa using h2
      · exact Or.inl (beq_false_of_ne h1)
  · cases hs
theorem pm_al_s2 {ad : Nat → Nat} {qv : Value} (hq : qv = .null ∨ ∃ t, qv = .ref t) {ls : Array Slot} {nL i : Nat} {lo lo' : List (Option Value)} {v : Value} (hlen : lo.length = nL) (h : lv_has ls nL ((i, pm_cv ad qv v) :: (pm_al (pm_cv ad qv) lo).filter (fun q => !(q.1 == i) && (!(q.1 == i + 1) && !(q.1 + 1 == i && q.2.category == 2))))) (hs : pm_s2 lo i v = some lo') : pm_Ls ad qv ls nL lo' := by
  unfold pm_s2 at hs
  split at hs
  · rename_i hc
    cases hs
    refine ⟨h.1, by rw [List.length_set, List.length_set]; exact hlen, h.2.1, fun j w hj => ?_⟩
    by_cases hj1 : j = i + 1
    · subst hj1
      rw [List.getElem?_set_self (by rw [List.length_set]; exact hc.1)] at hj
      cases hj
    · rw [List.getElem?_set_ne (Ne.symm hj1)] at hj
      by_cases hji : j = i
      · subst hji
        rw [List.getElem?_set_self (by omega)] at hj
        cases hj
        exact h.2.2 (j, _) List.mem_cons_self
      · rw [List.getElem?_set_ne (Ne.symm hji)] at hj
        refine h.2.2 (j, _) (List.mem_cons_of_mem _ (List.mem_filter.mpr ⟨pm_al_mem.mpr ⟨w, hj, rfl⟩, ?_⟩))
        simp only [Bool.and_eq_true, Bool.not_eq_true', Bool.and_eq_false_iff]
        refine ⟨beq_false_of_ne hji, beq_false_of_ne hj1, ?_⟩
        by_cases h1 : j + 1 = i
        · refine Or.inr ?_
          rcases hc.2.1 with h0 | h0
          · omega
          · unfold pm_c2 at h0
            rw [show i - 1 = j by omega, hj] at h0
            have h2 : ¬ w.category = 2 := by simpa using h0
            show ((pm_cv ad qv w).category == 2) = false
            rw [pm_cv_cat hq]
            simpa using h2
        · exact Or.inl (beq_false_of_ne h1)
  · cases hs
/-- the locals at a method's entry -/
theorem pm_ea_args (f : Value → Value) (hf : ∀ v, (f v).category = v.category) : ∀ (vs : List Value) (k : Nat) (i : Nat) (v : Value), (pm_ea vs)[i]? = some (some v) → (k + i, f v) ∈ lv_args k (vs.map f)
  | [], k, i, v, h => by simp [pm_ea] at h
  | w :: r, k, i, v, h => by
    rw [pm_ea] at h
    by_cases hc : w.category = 2
    · rw [if_pos hc] at h
      rw [List.map_cons, lv_args]
      simp only [hf, hc]
      match i, h with
      | 0, h => cases h; exact List.mem_cons_self
      | 1, h => simp at h
      | i + 2, h =>
        have := pm_ea_args f hf r (k + 2) i v (by simpa using h)
        rw [show k + (i + 2) = k + 2 + i by omega]
        exact List.mem_cons_of_mem _ (by simpa using this)
    · rw [if_neg hc] at h
      have h1 : w.category = 1 := by cases w <;> first | rfl | exact absurd rfl hc
      rw [List.map_cons, lv_args]
      simp only [hf, h1]
      match i, h with
      | 0, h => cases h; exact List.mem_cons_self
      | i + 1, h =>
        have := pm_ea_args f hf r (k + 1) i v (by simpa using h)
        rw [show k + (i + 1) = k + 1 + i by omega]
        exact List.mem_cons_of_mem _ (by simpa using this)
theorem pm_ea_len (f : Value → Value) (hf : ∀ v, (f v).category = v.category) : ∀ vs : List Value, (lg_sl (vs.map f)).length = (pm_ea vs).length
  | [] => rfl
  | w :: r => by
    have ih := pm_ea_len f hf r
    have e : lg_sl ((w :: r).map f) = (if (f w).category = 2 then [Slot.val (f w), Slot.second] else [Slot.val (f w)]) ++ lg_sl (r.map f) := by simp [lg_sl]
    rw [e, List.length_append, ih, hf, pm_ea]
    by_cases hc : w.category = 2
    · rw [if_pos hc, if_pos hc]; simp; omega
    · rw [if_neg hc, if_neg hc]; simp; omega
theorem pm_entry {ad : Nat → Nat} {qv : Value} (hq : qv = .null ∨ ∃ t, qv = .ref t) (vs : List Value) {n : Nat} (h : (pm_ea vs).length ≤ n) : pm_Ls ad qv ((lg_sl (vs.map (pm_cv ad qv)) ++ List.replicate (n - (lg_sl (vs.map (pm_cv ad qv))).length) Slot.unset).toArray) n (pm_en vs n) := by
  have hl := pm_ea_len (pm_cv ad qv) (pm_cv_cat hq) vs
  have hE := lv_entry (vs.map (pm_cv ad qv)) (n := n) (by rw [hl]; exact h)
  refine ⟨hE.1, by simp [pm_en]; omega, hE.2.1, fun i v hi => ?_⟩
  have hi2 : (pm_ea vs)[i]? = some (some v) := by
    unfold pm_en at hi
    by_cases hlt : i < (pm_ea vs).length
    · rw [List.getElem?_append_left hlt] at hi
      exact hi
    · rw [List.getElem?_append_right (by omega)] at hi
      simp [List.getElem?_replicate] at hi
  have := hE.2.2 (0 + i, _) (pm_ea_args (pm_cv ad qv) (pm_cv_cat hq) vs 0 i v hi2)
  rwa [Nat.zero_add] at this
/-- what a cell holds -/
def pm_ee (ad : Nat → Nat) (ca : Nat → ClassId) (g : pm_G) (iv : pm_V) (k : Nat) : va_E := match g.1 k with
  | some (q, n) => if q < 8 then .inr (q, (List.range (pm_nf q)).map fun sl => pm_cv ad .null (pm_ov g iv q k sl)) else if q = 11 then .inl (ca k, n, .inr (.inr (.inr (.inr fun i => (g.2.1 k i).map ad)))) else .inl (ca k, n, .inl (iv k))
  | none => .inr (0, [])
def pm_e (ad : Nat → Nat) (ca : Nat → ClassId) (g : pm_G) (iv : pm_V) (k : Nat) : Nat × va_E := (ad k, pm_ee ad ca g iv k)
def pm_ty (q : Nat) : FieldType := if q = 8 then .int else if q = 9 then .byte else if q = 10 then .boolean else .object "HillHouses$Slope"
def pm_Wd (D : va_G) (A : Nat → Prop) (ad : Nat → Nat) (ca : Nat → ClassId) (L : List Nat) (g : pm_G) (iv : pm_V) (U : State) (H : Heap) : Prop :=
  (∀ k, k ∈ L ↔ g.1 k ≠ none) ∧ L.Nodup ∧ (∀ k ∈ L, k < 1000) ∧ va_P D pm_cl (L.map (pm_e ad ca g iv)) H ∧ va_D A (L.map (pm_e ad ca g iv)) ∧ ∀ k q n, g.1 k = some (q, n) → 8 ≤ q → q ≤ 11 ∧ ArrOfT U (ca k) (pm_ty q) ∧ va_RA U (ca k) (pm_ty q)
theorem pm_Wd.at {D : va_G} {A : Nat → Prop} {ad : Nat → Nat} {ca : Nat → ClassId} {L : List Nat} {g : pm_G} {iv : pm_V} {U : State} {H : Heap} (h : pm_Wd D A ad ca L g iv U H) {k : Nat} {x : Nat × Nat} (hk : g.1 k = some x) : ∃ j : Nat, L[j]? = some k ∧ (L.map (pm_e ad ca g iv))[j]? = some (ad k, pm_ee ad ca g iv k) := by
  obtain ⟨j, hj⟩ := List.getElem?_of_mem ((h.1 k).mpr (by rw [hk]; exact Option.some_ne_none _))
  exact ⟨j, hj, by rw [List.getElem?_map, hj]; rfl⟩
/-- one cell's word is put anew -/
theorem pm_set {ad : Nat → Nat} {ca : Nat → ClassId} {L : List Nat} {g g' : pm_G} {iv iv' : pm_V} (hn : L.Nodup) {j k : Nat} (hj : L[j]? = some k) (ho : ∀ q ∈ L, q ≠ k → pm_ee ad ca g' iv' q = pm_ee ad ca g iv q) : (L.map (pm_e ad ca g iv)).set j (ad k, pm_ee ad ca g' iv' k) = L.map (pm_e ad ca g' iv') := by
  apply List.ext_getElem?
  intro i
  by_cases hij : i = j
  · subst hij
    rw [List.getElem?_set_self (by rw [List.length_map]; exact (List.getElem?_eq_some_iff.mp hj).1), List.getElem?_map, hj]
    rfl
  · rw [List.getElem?_set_ne (Ne.symm hij), List.getElem?_map, List.getElem?_map]
    cases hi : L[i]? with
    | none => rfl
    | some q =>
      have hq : q ≠ k := by
        intro e
        subst e
        have h1 := (List.getElem?_eq_some_iff.mp hi)
        have h2 := (List.getElem?_eq_some_iff.mp hj)
        exact hij ((List.getElem_inj hn).mp (h1.2.trans h2.2.symm))
      show some (ad q, pm_ee ad ca g iv q) = some (ad q, pm_ee ad ca g' iv' q)
      rw [ho q (List.mem_of_getElem? hi) hq]
/-- what stands fast: strings, tables, the nest's links, the script -/
def pm_Env (X : pm_X) (qv : Value) (ad : Nat → Nat) (A : Nat → Prop) (U : State) (H : Heap) : Prop :=
  vk_S 8 (pm_sb.map List.length) pm_sb (fun i => ad (1000 + i)) (fun i => ad (1100 + i)) A U H ∧ (∀ i t, pm_stx[i]? = some t → vk_R "HillHouses$Tape" t.1 t.2 (ad (1000 + i)) U) ∧
  (∀ j t, pm_tb[j]? = some t → va_Z "HillHouses$Asker" t.1 "[I" (.ref (ad (1200 + j))) A U H ∧ va_T .int (ad (1200 + j)) t.2.length (fun i => .int (t.2.getD i 0)) A U H) ∧
  va_Z "java/lang/String" "COMPACT_STRINGS" "Z" (.int 1) A U H ∧ (qv = .null ∨ ∃ t, qv = .ref t) ∧ va_Z "jdk/internal/util/Preconditions" "SIOOBE_FORMATTER" "Ljava/util/function/BiFunction;" qv A U H ∧
  (∀ e ∈ pm_nst, va_Nw (.methodLinkNest e.1 e.2.1 e.2.2.1 e.2.2.2) U) ∧ va_X (ad 1300) X.1 X.2 U H ∧ ¬ A (ad 1300) ∧ va_AO "HillHouses$Slope" U
theorem pm_Env.ad {X : pm_X} {qv : Value} {ad ad' : Nat → Nat} {A : Nat → Prop} {U : State} {H : Heap} (h : pm_Env X qv ad A U H) (ha : ∀ k, 1000 ≤ k → ad' k = ad k) : pm_Env X qv ad' A U H := by
  have e0 : (fun i => ad' (1000 + i)) = fun i => ad (1000 + i) := funext fun i => ha _ (by omega)
  have e1 : (fun i => ad' (1100 + i)) = fun i => ad (1100 + i) := funext fun i => ha _ (by omega)
  have e2 : ∀ j, ad' (1200 + j) = ad (1200 + j) := fun j => ha _ (by omega)
  have e3 : ∀ j, ad' (1000 + j) = ad (1000 + j) := fun j => ha _ (by omega)
  obtain ⟨h1, h2, h3, h4, h5, h6, h7, h8, h9, h10⟩ := h
  refine ⟨by rw [e0, e1]; exact h1, fun i t ht => by rw [e3]; exact h2 i t ht, fun j t ht => by rw [e2]; exact h3 j t ht, h4, h5, h6, h7, by rw [ha 1300 (by omega)]; exact h8, by rw [ha 1300 (by omega)]; exact h9, h10⟩
/-- at a callee's entry -/
theorem pm_Env.down {X : pm_X} {qv : Value} {ad : Nat → Nat} {A B : Nat → Prop} {s U : State} {H : Heap} {locs : List Loc} (h : pm_Env X qv ad A s s.heap) (hS : va_S A s.heap H locs) (hU : U.heap = H) (hW : s.WarmedH U.vm) (hAB : ∀ q, B q → A q) : pm_Env X qv ad B U U.heap := by
  obtain ⟨h1, h2, h3, h4, h5, h6, h7, h8, h9, h10⟩ := h
  have hk : ∀ a : Nat, a < s.heap.size → ¬ A a → U.heap[a]? = s.heap[a]? := by rw [hU]; exact hS.2.1
  obtain ⟨scr, hs1, hs2⟩ := h8
  exact ⟨((h1.kept hk).narrow hAB).moved hW.alike, fun i t ht => vk_R.warm hW (h2 i t ht), fun j t ht => ⟨(((h3 j t ht).1.kept hk).narrow hAB).moved hW.alike, (((h3 j t ht).2.kept hk).narrow hAB).moved hW.alike⟩,
    ((h4.kept hk).narrow hAB).moved hW.alike, h5, ((h6.kept hk).narrow hAB).moved hW.alike, fun e he => va_Nw.warmM hW (h7 e he), va_X.moved hW.alike ⟨scr, (hk _ (Array.getElem?_eq_some_iff.mp hs1).1 h9).trans hs1, hs2⟩, fun z => h9 (hAB _ z), va_AO.moved hW.alike h10⟩
theorem pm_Env.blind {X : pm_X} {qv : Value} {ad : Nat → Nat} {A : Nat → Prop} {U : State} (a : Array Value) (g : JFrame) (mk : MethodId) (h : pm_Env X qv ad A U U.heap) : pm_Env X qv ad A (U.calling g mk a) (U.calling g mk a).heap := by
  obtain ⟨h1, h2, h3, h4, h5, h6, h7, h8, h9, h10⟩ := h
  exact ⟨vk_S.moved (u := U) (U := U.calling g mk a) (Vm.Alike.refl U.vm) h1, fun i t ht => vk_R.same (u := U) (U := U.calling g mk a) rfl (h2 i t ht), fun j t ht => ⟨va_Z.moved (u := U) (U := U.calling g mk a) (Vm.Alike.refl U.vm) (h3 j t ht).1, va_T.moved (u := U) (U := U.calling g mk a) (Vm.Alike.refl U.vm) (h3 j t ht).2⟩,
    va_Z.moved (u := U) (U := U.calling g mk a) (Vm.Alike.refl U.vm) h4, h5, va_Z.moved (u := U) (U := U.calling g mk a) (Vm.Alike.refl U.vm) h6, fun e he => va_Nw.same rfl rfl (h7 e he), va_X.moved (u := U) (U := U.calling g mk a) (Vm.Alike.refl U.vm) h8, h9, va_AO.moved (u := U) (U := U.calling g mk a) (Vm.Alike.refl U.vm) h10⟩
