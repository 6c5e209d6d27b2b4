/-! what every step keeps: references lead to cells that are there; cells stay -/
def pm_okt (g : pm_G) (t : Nat) : Prop := g.1 t ≠ none ∨ 1000 ≤ t
def pm_okv (g : pm_G) (v : Value) : Prop := ∀ t, v = .ref t → pm_okt g t
def pm_okg (g : pm_G) : Prop := ∀ k sl t, g.2.1 k sl = some t → pm_okt g t
def pm_Iv (S : pm_S) : Prop := pm_okg S.2.2.2.1 ∧ (∀ v ∈ S.2.2.1, pm_okv S.2.2.2.1 v) ∧ ∀ v, some v ∈ S.2.1 → pm_okv S.2.2.2.1 v
def pm_le (g g' : pm_G) : Prop := (∀ k, g.1 k ≠ none → g'.1 k = g.1 k) ∧ g.2.2.2.1 ≤ g'.2.2.2.1 ∧ g.2.2.2.2 ≤ g'.2.2.2.2
theorem pm_le.rf {g : pm_G} : pm_le g g := ⟨fun _ _ => rfl, Nat.le_refl _, Nat.le_refl _⟩
theorem pm_le.tr {a b c : pm_G} (h : pm_le a b) (h2 : pm_le b c) : pm_le a c := ⟨fun k hk => (h2.1 k (by rw [h.1 k hk]; exact hk)).trans (h.1 k hk), Nat.le_trans h.2.1 h2.2.1, Nat.le_trans h.2.2 h2.2.2⟩
theorem pm_le.okt {g g' : pm_G} (h : pm_le g g') {t : Nat} (ht : pm_okt g t) : pm_okt g' t := ht.imp (fun q => by rw [h.1 t q]; exact q) id
theorem pm_le.okv {g g' : pm_G} (h : pm_le g g') {v : Value} (hv : pm_okv g v) : pm_okv g' v := fun t e => h.okt (hv t e)
theorem pm_okI {g : pm_G} {x : Int32} : pm_okv g (.int x) := fun t e => by cases e
theorem pm_okL {g : pm_G} {x : Int64} : pm_okv g (.long x) := fun t e => by cases e
theorem pm_okN {g : pm_G} : pm_okv g .null := fun t e => by cases e
theorem pm_okA {g : pm_G} {x : Nat} : pm_okv g (.retAddr x) := fun t e => by cases e
theorem pm_okR {g : pm_G} {x : Nat} (h : pm_okt g x) : pm_okv g (.ref x) := fun t e => by cases e; exact h
theorem pm_okX {g : pm_G} {x : Nat} (h : 1000 ≤ x) : pm_okv g (.ref x) := pm_okR (Or.inr h)
theorem pm_okF {g : pm_G} (hg : pm_okg g) {k sl : Nat} : pm_okv g (va_rf (g.2.1 k sl)) := by
  intro t e
  cases h : g.2.1 k sl with
  | none => rw [h] at e; cases e
  | some q => rw [h] at e; cases e; exact hg k sl _ h
section INV
variable {X : pm_X} {cal : pm_C} {mi pc pc' : Nat} {lo lo' : List (Option Value)} {st st' r : List Value} {g : pm_G} {iv iv' : pm_V} {S' : pm_S}
/-- g stays -/
theorem pm_iv_go (hI : pm_Iv (pc, lo, st, g, iv)) (hs : ∀ v ∈ st', pm_okv g v) : pm_Iv (pc', lo, st', g, iv') ∧ pm_le g g := ⟨⟨hI.1, hs, hI.2.2⟩, pm_le.rf⟩
theorem pm_iv_lo (hI : pm_Iv (pc, lo, st, g, iv)) (hs : ∀ v ∈ st', pm_okv g v) (hl : ∀ v, some v ∈ lo' → some v ∈ lo ∨ pm_okv g v) : pm_Iv (pc', lo', st', g, iv') ∧ pm_le g g := ⟨⟨hI.1, hs, fun v hv => (hl v hv).elim (hI.2.2 v) id⟩, pm_le.rf⟩
theorem pm_s1_in {i : Nat} {v w : Value} (h : pm_s1 lo i v = some lo') (hw : some w ∈ lo') : some w ∈ lo ∨ w = v := by
  unfold pm_s1 at h
  split at h
  · cases h
    rcases List.mem_or_eq_of_mem_set hw with q | q
    · exact Or.inl q
    · exact Or.inr (Option.some.inj q)
  · cases h
theorem pm_s2_in {i : Nat} {v w : Value} (h : pm_s2 lo i v = some lo') (hw : some w ∈ lo') : some w ∈ lo ∨ w = v := by
  unfold pm_s2 at h
  split at h
  · cases h
    rcases List.mem_or_eq_of_mem_set hw with q | q
    · rcases List.mem_or_eq_of_mem_set q with q | q
      · exact Or.inl q
      · exact Or.inr (Option.some.inj q)
    · cases q
  · cases h
theorem pm_s1_ok {i : Nat} {v : Value} (h : pm_s1 lo i v = some lo') (hv : pm_okv g v) : ∀ w, some w ∈ lo' → some w ∈ lo ∨ pm_okv g w := fun w hw => (pm_s1_in h hw).elim Or.inl (fun e => Or.inr (by rw [e]; exact hv))
theorem pm_s2_ok {i : Nat} {v : Value} (h : pm_s2 lo i v = some lo') (hv : pm_okv g v) : ∀ w, some w ∈ lo' → some w ∈ lo ∨ pm_okv g w := fun w hw => (pm_s2_in h hw).elim Or.inl (fun e => Or.inr (by rw [e]; exact hv))
theorem pm_tl {v : Value} (h : ∀ w ∈ v :: r, pm_okv g w) : ∀ w ∈ r, pm_okv g w := fun w hw => h w (List.mem_cons_of_mem _ hw)
theorem pm_cns {v : Value} (hv : pm_okv g v) (h : ∀ w ∈ r, pm_okv g w) : ∀ w ∈ v :: r, pm_okv g w := fun w hw => (List.mem_cons.mp hw).elim (fun e => e ▸ hv) (h w)
theorem pm_v_psh {n : Nat} {v : Value} (hv : pm_okv g v) (h : pm_psh pc lo st g iv n v = some (.inl S')) (hI : pm_Iv (pc, lo, st, g, iv)) : pm_Iv S' ∧ pm_le g S'.2.2.2.1 := by
  cases h
  exact pm_iv_go hI (pm_cns hv hI.2.1)
theorem pm_v_ldI {n i : Nat} (h : pm_ldI pc lo st g iv n i = some (.inl S')) (hI : pm_Iv (pc, lo, st, g, iv)) : pm_Iv S' ∧ pm_le g S'.2.2.2.1 := by
  obtain ⟨x, hx, rfl⟩ := pm_ldI_inv h
  exact pm_iv_go hI (pm_cns pm_okI hI.2.1)
theorem pm_v_ldL {n i : Nat} (h : pm_ldL pc lo st g iv n i = some (.inl S')) (hI : pm_Iv (pc, lo, st, g, iv)) : pm_Iv S' ∧ pm_le g S'.2.2.2.1 := by
  obtain ⟨x, hx, rfl⟩ := pm_ldL_inv h
  exact pm_iv_go hI (pm_cns pm_okL hI.2.1)
theorem pm_v_ldA {n i : Nat} (h : pm_ldA pc lo st g iv n i = some (.inl S')) (hI : pm_Iv (pc, lo, st, g, iv)) : pm_Iv S' ∧ pm_le g S'.2.2.2.1 := by
  unfold pm_ldA at h
  split at h
  · rename_i x hx
    cases h
    exact pm_iv_go hI (pm_cns (hI.2.2 _ (List.mem_of_getElem? hx)) hI.2.1)
  · cases h
    exact pm_iv_go hI (pm_cns pm_okN hI.2.1)
  · cases h
    exact pm_iv_go hI (pm_cns pm_okA hI.2.1)
  · cases h
theorem pm_v_stI {n i : Nat} (h : pm_stI pc lo st g iv n i = some (.inl S')) (hI : pm_Iv (pc, lo, st, g, iv)) : pm_Iv S' ∧ pm_le g S'.2.2.2.1 := by
  obtain ⟨x, r, lo1, rfl, hl, rfl⟩ := pm_stI_inv h
  exact pm_iv_lo hI (pm_tl hI.2.1) (pm_s1_ok hl (pm_okI))
theorem pm_v_stL {n i : Nat} (h : pm_stL pc lo st g iv n i = some (.inl S')) (hI : pm_Iv (pc, lo, st, g, iv)) : pm_Iv S' ∧ pm_le g S'.2.2.2.1 := by
  obtain ⟨x, r, lo1, rfl, hl, rfl⟩ := pm_stL_inv h
  exact pm_iv_lo hI (pm_tl hI.2.1) (pm_s2_ok hl (pm_okL))
theorem pm_v_stA {n i : Nat} (h : pm_stA pc lo st g iv n i = some (.inl S')) (hI : pm_Iv (pc, lo, st, g, iv)) : pm_Iv S' ∧ pm_le g S'.2.2.2.1 := by
  unfold pm_stA at h
  split at h
  · split at h
    · rename_i hl
      cases h
      exact pm_iv_lo hI (pm_tl hI.2.1) (pm_s1_ok hl (hI.2.1 _ List.mem_cons_self))
    · cases h
  · split at h
    · rename_i hl
      cases h
      exact pm_iv_lo hI (pm_tl hI.2.1) (pm_s1_ok hl (pm_okN))
    · cases h
  · cases h
theorem pm_v_inc {i : Nat} {n : Int} (h : pm_inc pc lo st g iv i n = some (.inl S')) (hI : pm_Iv (pc, lo, st, g, iv)) : pm_Iv S' ∧ pm_le g S'.2.2.2.1 := by
  unfold pm_inc at h
  split at h
  · split at h
    · rename_i hl
      cases h
      exact pm_iv_lo hI hI.2.1 (pm_s1_ok hl (pm_okI))
    · cases h
  · cases h
theorem pm_v_i1 {f : Int32 → Int32} (h : pm_i1 pc lo st g iv f = some (.inl S')) (hI : pm_Iv (pc, lo, st, g, iv)) : pm_Iv S' ∧ pm_le g S'.2.2.2.1 := by
  obtain ⟨x, r, rfl, rfl⟩ := pm_i1_inv h
  exact pm_iv_go hI (pm_cns pm_okI (pm_tl hI.2.1))
theorem pm_v_i2 {f : Int32 → Int32 → Int32} (h : pm_i2 pc lo st g iv f = some (.inl S')) (hI : pm_Iv (pc, lo, st, g, iv)) : pm_Iv S' ∧ pm_le g S'.2.2.2.1 := by
  obtain ⟨x, y, r, rfl, rfl⟩ := pm_i2_inv h
  exact pm_iv_go hI (pm_cns pm_okI (pm_tl (pm_tl hI.2.1)))
theorem pm_v_d2 {f : Int32 → Int32 → Int32} (h : pm_d2 pc lo st g iv f = some (.inl S')) (hI : pm_Iv (pc, lo, st, g, iv)) : pm_Iv S' ∧ pm_le g S'.2.2.2.1 := by
  obtain ⟨x, y, r, rfl, hy, rfl⟩ := pm_d2_inv h
  exact pm_iv_go hI (pm_cns pm_okI (pm_tl (pm_tl hI.2.1)))
theorem pm_v_l2 {f : Int64 → Int64 → Int64} (h : pm_l2 pc lo st g iv f = some (.inl S')) (hI : pm_Iv (pc, lo, st, g, iv)) : pm_Iv S' ∧ pm_le g S'.2.2.2.1 := by
  obtain ⟨x, y, r, rfl, rfl⟩ := pm_l2_inv h
  exact pm_iv_go hI (pm_cns pm_okL (pm_tl (pm_tl hI.2.1)))
theorem pm_v_ls2 {f : Int64 → Int32 → Int64} (h : pm_ls2 pc lo st g iv f = some (.inl S')) (hI : pm_Iv (pc, lo, st, g, iv)) : pm_Iv S' ∧ pm_le g S'.2.2.2.1 := by
  obtain ⟨x, y, r, rfl, rfl⟩ := pm_ls2_inv h
  exact pm_iv_go hI (pm_cns pm_okL (pm_tl (pm_tl hI.2.1)))
theorem pm_v_il {f : Int32 → Int64} (h : pm_il pc lo st g iv f = some (.inl S')) (hI : pm_Iv (pc, lo, st, g, iv)) : pm_Iv S' ∧ pm_le g S'.2.2.2.1 := by
  obtain ⟨x, r, rfl, rfl⟩ := pm_il_inv h
  exact pm_iv_go hI (pm_cns pm_okL (pm_tl hI.2.1))
theorem pm_v_li {f : Int64 → Int32} (h : pm_li pc lo st g iv f = some (.inl S')) (hI : pm_Iv (pc, lo, st, g, iv)) : pm_Iv S' ∧ pm_le g S'.2.2.2.1 := by
  obtain ⟨x, r, rfl, rfl⟩ := pm_li_inv h
  exact pm_iv_go hI (pm_cns pm_okI (pm_tl hI.2.1))
theorem pm_v_lc (h : pm_lc pc lo st g iv = some (.inl S')) (hI : pm_Iv (pc, lo, st, g, iv)) : pm_Iv S' ∧ pm_le g S'.2.2.2.1 := by
  unfold pm_lc at h
  split at h
  · cases h
    exact pm_iv_go hI (pm_cns pm_okI (pm_tl (pm_tl hI.2.1)))
  · cases h
theorem pm_v_dup (h : pm_dup pc lo st g iv = some (.inl S')) (hI : pm_Iv (pc, lo, st, g, iv)) : pm_Iv S' ∧ pm_le g S'.2.2.2.1 := by
  unfold pm_dup at h
  split at h
  · obtain ⟨-, h2⟩ := pm_ifn_inv h
    cases h2
    exact pm_iv_go hI (pm_cns (hI.2.1 _ List.mem_cons_self) hI.2.1)
  · cases h
theorem pm_v_dp2 (h : pm_dp2 pc lo st g iv = some (.inl S')) (hI : pm_Iv (pc, lo, st, g, iv)) : pm_Iv S' ∧ pm_le g S'.2.2.2.1 := by
  unfold pm_dp2 at h
  split at h
  · obtain ⟨-, h2⟩ := pm_ifn_inv h
    cases h2
    exact pm_iv_go hI (pm_cns (hI.2.1 _ List.mem_cons_self) (pm_cns (hI.2.1 _ (List.mem_cons_of_mem _ List.mem_cons_self)) hI.2.1))
  · cases h
theorem pm_v_pop (h : pm_pop pc lo st g iv = some (.inl S')) (hI : pm_Iv (pc, lo, st, g, iv)) : pm_Iv S' ∧ pm_le g S'.2.2.2.1 := by
  unfold pm_pop at h
  split at h
  · obtain ⟨-, h2⟩ := pm_ifn_inv h
    cases h2
    exact pm_iv_go hI (pm_tl hI.2.1)
  · cases h
theorem pm_v_jmp {off : Int} (h : pm_jmp pc lo g iv off r = some (.inl S')) (hI : pm_Iv (pc, lo, st, g, iv)) (hr : ∀ v ∈ r, pm_okv g v) : pm_Iv S' ∧ pm_le g S'.2.2.2.1 := by
  obtain ⟨t, -, rfl⟩ := pm_jmp_inv h
  exact pm_iv_go hI hr
theorem pm_v_br1 {c : Int32 → Bool} {off : Int} (h : pm_br1 pc lo st g iv c off = some (.inl S')) (hI : pm_Iv (pc, lo, st, g, iv)) : pm_Iv S' ∧ pm_le g S'.2.2.2.1 := by
  unfold pm_br1 at h
  split at h
  · obtain ⟨-, h⟩ := pm_ifn_inv h
    split at h <;> (cases h; exact pm_iv_go hI (pm_tl hI.2.1))
  · cases h
theorem pm_v_br2 {c : Int32 → Int32 → Bool} {off : Int} (h : pm_br2 pc lo st g iv c off = some (.inl S')) (hI : pm_Iv (pc, lo, st, g, iv)) : pm_Iv S' ∧ pm_le g S'.2.2.2.1 := by
  unfold pm_br2 at h
  split at h
  · obtain ⟨-, h⟩ := pm_ifn_inv h
    split at h <;> (cases h; exact pm_iv_go hI (pm_tl (pm_tl hI.2.1)))
  · cases h
theorem pm_v_nn {off : Int} (h : pm_nn pc lo st g iv off = some (.inl S')) (hI : pm_Iv (pc, lo, st, g, iv)) : pm_Iv S' ∧ pm_le g S'.2.2.2.1 := by
  unfold pm_nn at h
  split at h
  · exact pm_v_jmp h hI (pm_tl hI.2.1)
  · cases h
    exact pm_iv_go hI (pm_tl hI.2.1)
  · cases h
theorem pm_v_tsw {d l u : Int} {os : Array Int} (h : pm_tsw pc lo st g iv d l u os = some (.inl S')) (hI : pm_Iv (pc, lo, st, g, iv)) : pm_Iv S' ∧ pm_le g S'.2.2.2.1 := by
  unfold pm_tsw at h
  split at h
  · split at h
    · exact pm_v_jmp h hI (pm_tl hI.2.1)
    · split at h
      · exact pm_v_jmp h hI (pm_tl hI.2.1)
      · cases h
  · cases h
theorem pm_v_lsw {d : Int} {ps : Array (Int × Int)} (h : pm_lsw pc lo st g iv d ps = some (.inl S')) (hI : pm_Iv (pc, lo, st, g, iv)) : pm_Iv S' ∧ pm_le g S'.2.2.2.1 := by
  unfold pm_lsw at h
  split at h
  · obtain ⟨-, h⟩ := pm_ifn_inv h
    exact pm_v_jmp h hI (pm_tl hI.2.1)
  · cases h
theorem pm_v_gf {idx : Nat} (h : pm_gf mi pc lo st g iv idx = some (.inl S')) (hI : pm_Iv (pc, lo, st, g, iv)) : pm_Iv S' ∧ pm_le g S'.2.2.2.1 := by
  unfold pm_gf at h
  split at h
  · split at h
    · split at h
      · obtain ⟨h1, h⟩ := pm_ifn_inv h
        cases h
        refine pm_iv_go hI (pm_cns ?_ (pm_tl hI.2.1))
        split
        · exact pm_okX (Nat.le_add_right_of_le h1.1)
        · exact pm_okI
      · obtain ⟨h1, h⟩ := pm_ifn_inv h
        cases h
        refine pm_iv_go hI (pm_cns ?_ (pm_tl hI.2.1))
        unfold pm_ov
        split
        · exact pm_okF hI.1
        · exact pm_okI
    · cases h
  · cases h
theorem pm_okg_rw {a i t : Nat} (hg : pm_okg g) (ht : pm_okt g t) : pm_okg (g.1, pm_rw g.2.1 a i (some t), g.2.2) := by
  intro k sl q hq
  show pm_okt g q
  simp only [pm_rw] at hq
  split at hq
  · simp only [va_up] at hq
    split at hq
    · cases hq; exact ht
    · exact hg a sl q hq
  · exact hg k sl q hq
theorem pm_v_pf {idx : Nat} (h : pm_pf mi pc lo st g iv idx = some (.inl S')) (hI : pm_Iv (pc, lo, st, g, iv)) : pm_Iv S' ∧ pm_le g S'.2.2.2.1 := by
  unfold pm_pf at h
  split at h
  · split at h
    · obtain ⟨h1, h⟩ := pm_ifn_inv h
      split at h
      · obtain ⟨h2, h⟩ := pm_ifn_inv h
        cases h
        exact pm_iv_go hI (pm_tl (pm_tl hI.2.1))
      · obtain ⟨h2, h⟩ := pm_ifn_inv h
        cases h
        exact ⟨⟨pm_okg_rw hI.1 (hI.2.1 _ List.mem_cons_self _ rfl), pm_tl (pm_tl hI.2.1), hI.2.2⟩, ⟨fun _ _ => rfl, Nat.le_refl _, Nat.le_refl _⟩⟩
      · cases h
    · cases h
  · cases h
theorem pm_v_gs {idx : Nat} (h : pm_gs mi pc lo st g iv idx = some (.inl S')) (hI : pm_Iv (pc, lo, st, g, iv)) : pm_Iv S' ∧ pm_le g S'.2.2.2.1 := by
  unfold pm_gs at h
  split at h
  · cases h
    refine pm_iv_go hI (pm_cns ?_ hI.2.1)
    split
    · exact pm_okX (by omega)
    · split
      · exact pm_okI
      · exact pm_okA
  · cases h
theorem pm_v_aln (h : pm_aln X pc lo st g iv = some (.inl S')) (hI : pm_Iv (pc, lo, st, g, iv)) : pm_Iv S' ∧ pm_le g S'.2.2.2.1 := by
  unfold pm_aln at h
  split at h
  · split at h
    · obtain ⟨h1, h⟩ := pm_ifn_inv h
      cases h
      exact pm_iv_go hI (pm_cns pm_okI (pm_tl hI.2.1))
    · cases h
  · cases h
theorem pm_v_ald {b : Bool} (h : pm_ald X pc lo st g iv b = some (.inl S')) (hI : pm_Iv (pc, lo, st, g, iv)) : pm_Iv S' ∧ pm_le g S'.2.2.2.1 := by
  unfold pm_ald at h
  split at h
  · split at h
    · obtain ⟨h1, h⟩ := pm_ifn_inv h
      cases h
      exact pm_iv_go hI (pm_cns pm_okI (pm_tl (pm_tl hI.2.1)))
    · cases h
  · cases h
theorem pm_v_ast {b : Bool} (h : pm_ast pc lo st g iv b = some (.inl S')) (hI : pm_Iv (pc, lo, st, g, iv)) : pm_Iv S' ∧ pm_le g S'.2.2.2.1 := by
  unfold pm_ast at h
  split at h
  · split at h
    · obtain ⟨h1, h⟩ := pm_ifn_inv h
      cases h
      exact pm_iv_go hI (pm_tl (pm_tl (pm_tl hI.2.1)))
    · cases h
  · cases h
theorem pm_v_aal (h : pm_aal pc lo st g iv = some (.inl S')) (hI : pm_Iv (pc, lo, st, g, iv)) : pm_Iv S' ∧ pm_le g S'.2.2.2.1 := by
  unfold pm_aal at h
  split at h
  · split at h
    · obtain ⟨h1, h⟩ := pm_ifn_inv h
      cases h
      exact pm_iv_go hI (pm_cns (pm_okF hI.1) (pm_tl (pm_tl hI.2.1)))
    · cases h
  · cases h
theorem pm_v_aas (h : pm_aas pc lo st g iv = some (.inl S')) (hI : pm_Iv (pc, lo, st, g, iv)) : pm_Iv S' ∧ pm_le g S'.2.2.2.1 := by
  unfold pm_aas at h
  split at h
  · split at h
    · obtain ⟨h1, h⟩ := pm_ifn_inv h
      cases h
      exact ⟨⟨pm_okg_rw hI.1 (hI.2.1 _ List.mem_cons_self _ rfl), pm_tl (pm_tl (pm_tl hI.2.1)), hI.2.2⟩, ⟨fun _ _ => rfl, Nat.le_refl _, Nat.le_refl _⟩⟩
    · cases h
  · cases h
theorem pm_le_nc {q n k : Nat} (hn : g.1 g.2.2.1 = none) : pm_le g (pm_nc g q n k) := by
  refine ⟨fun j hj => ?_, Nat.le_succ _, Nat.le_add_right _ _⟩
  have hne : ¬ j = g.2.2.1 := fun (e : j = g.2.2.1) => hj (by rw [e]; exact hn)
  show (if j = g.2.2.1 then some (q, n) else g.1 j) = g.1 j
  rw [if_neg hne]
theorem pm_iv_nc {q n k : Nat} (hn : g.1 g.2.2.1 = none) (hI : pm_Iv (pc, lo, st, g, iv)) (hr : ∀ v ∈ r, pm_okv g v) : pm_Iv (pc', lo, .ref g.2.2.1 :: r, pm_nc g q n k, iv') ∧ pm_le g (pm_nc g q n k) := by
  have hl := pm_le_nc (q := q) (n := n) (k := k) hn
  refine ⟨⟨fun a sl t ht => ?_, pm_cns (pm_okR (Or.inl ?_)) (fun v hv => hl.okv (hr v hv)), fun v hv => hl.okv (hI.2.2 v hv)⟩, hl⟩
  · simp only [pm_nc] at ht
    split at ht
    · cases ht
    · exact hl.okt (hI.1 a sl t ht)
  · show (if _ = _ then _ else _) ≠ none
    rw [if_pos rfl]
    exact Option.some_ne_none _
theorem pm_v_new {idx : Nat} (h : pm_new mi pc lo st g iv idx = some (.inl S')) (hI : pm_Iv (pc, lo, st, g, iv)) : pm_Iv S' ∧ pm_le g S'.2.2.2.1 := by
  unfold pm_new at h
  split at h
  · obtain ⟨h1, h⟩ := pm_ifn_inv h
    cases h
    exact pm_iv_nc h1.1 hI hI.2.1
  · cases h
theorem pm_v_nwa {t : ArrayType} (h : pm_nwa pc lo st g iv t = some (.inl S')) (hI : pm_Iv (pc, lo, st, g, iv)) : pm_Iv S' ∧ pm_le g S'.2.2.2.1 := by
  unfold pm_nwa at h
  split at h
  · obtain ⟨h1, h⟩ := pm_ifn_inv h
    cases h
    exact pm_iv_nc h1.1 hI (pm_tl hI.2.1)
  · cases h
theorem pm_v_ana {idx : Nat} (h : pm_ana mi pc lo st g iv idx = some (.inl S')) (hI : pm_Iv (pc, lo, st, g, iv)) : pm_Iv S' ∧ pm_le g S'.2.2.2.1 := by
  unfold pm_ana at h
  split at h
  · split at h
    · obtain ⟨h1, h⟩ := pm_ifn_inv h
      cases h
      exact pm_iv_nc h1.2.1 hI (pm_tl hI.2.1)
    · cases h
  · cases h
theorem pm_v_kI {n idx : Nat} (h : pm_kI mi pc lo st g iv n idx = some (.inl S')) (hI : pm_Iv (pc, lo, st, g, iv)) : pm_Iv S' ∧ pm_le g S'.2.2.2.1 := by
  unfold pm_kI at h
  split at h
  · cases h
    exact pm_iv_go hI (pm_cns pm_okI hI.2.1)
  · cases h
theorem pm_v_kL {idx : Nat} (h : pm_kL mi pc lo st g iv idx = some (.inl S')) (hI : pm_Iv (pc, lo, st, g, iv)) : pm_Iv S' ∧ pm_le g S'.2.2.2.1 := by
  unfold pm_kL at h
  split at h
  · cases h
    exact pm_iv_go hI (pm_cns pm_okL hI.2.1)
  · cases h
theorem pm_v_kS {idx : Nat} (h : pm_kS mi pc lo st g iv idx = some (.inl S')) (hI : pm_Iv (pc, lo, st, g, iv)) : pm_Iv S' ∧ pm_le g S'.2.2.2.1 := by
  unfold pm_kS at h
  split at h
  · cases h
    exact pm_iv_go hI (pm_cns (pm_okX (by omega)) hI.2.1)
  · cases h
/-- what a call keeps -/
def pm_CK (cal : pm_C) : Prop := ∀ (t : Nat) (args : List Value) (g : pm_G) (iv : pm_V) (v : Option Value) (g' : pm_G) (iv' : pm_V), cal t args g iv = some (v, g', iv') → pm_okg g → (∀ w ∈ args, pm_okv g w) → pm_okg g' ∧ pm_le g g' ∧ ∀ w, v = some w → (∃ x, w = .int x) ∨ ∃ x, w = .long x
theorem pm_v_bk {t : Nat} {as : List Value} (hc : pm_CK cal) (h : pm_bk pc lo r (cal t as g iv) = some (.inl S')) (hI : pm_Iv (pc, lo, st, g, iv)) (ha : ∀ w ∈ as, pm_okv g w) (hr : ∀ w ∈ r, pm_okv g w) : pm_Iv S' ∧ pm_le g S'.2.2.2.1 := by
  unfold pm_bk at h
  split at h
  · rename_i v g1 iv1 he
    cases h
    obtain ⟨h1, h2, h3⟩ := hc _ _ _ _ _ _ _ he hI.1 ha
    refine ⟨⟨h1, fun w hw => ?_, fun w hw => h2.okv (hI.2.2 w hw)⟩, h2⟩
    rcases List.mem_append.mp hw with q | q
    · cases v with
      | none => cases q
      | some z =>
        simp only [Option.toList, List.mem_singleton] at q
        subst q
        rcases h3 _ rfl with ⟨x, rfl⟩ | ⟨x, rfl⟩
        · exact pm_okI
        · exact pm_okL
    · exact h2.okv (hr w q)
  · cases h
theorem pm_drop {n : Nat} (h : ∀ w ∈ st, pm_okv g w) : ∀ w ∈ st.drop n, pm_okv g w := fun w hw => h w (List.mem_of_mem_drop hw)
theorem pm_take {n : Nat} (h : ∀ w ∈ st, pm_okv g w) : ∀ w ∈ (st.take n).reverse, pm_okv g w := fun w hw => h w (List.mem_of_mem_take (List.mem_reverse.mp hw))
theorem pm_v_inv {idx : Nat} (hc : pm_CK cal) (h : pm_inv cal mi pc lo st g iv idx = some (.inl S')) (hI : pm_Iv (pc, lo, st, g, iv)) : pm_Iv S' ∧ pm_le g S'.2.2.2.1 := by
  unfold pm_inv at h
  split at h
  · rename_i t n p hl
    have hd := pm_drop (n := n) hI.2.1
    split at h
    · rename_i b r he
      obtain ⟨h1, h⟩ := pm_ifn_inv h
      rw [he] at hd
      exact pm_v_bk hc h hI (pm_cns (hd _ List.mem_cons_self) (pm_take hI.2.1)) (pm_tl hd)
    · cases h
  · cases h
theorem pm_v_isp {idx : Nat} (hc : pm_CK cal) (h : pm_isp cal mi pc lo st g iv idx = some (.inl S')) (hI : pm_Iv (pc, lo, st, g, iv)) : pm_Iv S' ∧ pm_le g S'.2.2.2.1 := by
  unfold pm_isp at h
  split at h
  · rename_i t n p hl
    have hd := pm_drop (n := n) hI.2.1
    split at h
    · rename_i b r he
      obtain ⟨h1, h⟩ := pm_ifn_inv h
      rw [he] at hd
      exact pm_v_bk hc h hI (pm_cns (hd _ List.mem_cons_self) (pm_take hI.2.1)) (pm_tl hd)
    · cases h
  · rename_i t n p hl
    have hd := pm_drop (n := n) hI.2.1
    split at h
    · rename_i b r he
      obtain ⟨h1, h⟩ := pm_ifn_inv h
      rw [he] at hd
      exact pm_v_bk hc h hI (pm_cns (hd _ List.mem_cons_self) (pm_take hI.2.1)) (pm_tl hd)
    · cases h
  · split at h
    · obtain ⟨h1, h⟩ := pm_ifn_inv h
      cases h
      exact pm_iv_go hI (pm_tl hI.2.1)
    · cases h
  · cases h
theorem pm_v_ins {idx : Nat} (hc : pm_CK cal) (h : pm_ins cal mi pc lo st g iv idx = some (.inl S')) (hI : pm_Iv (pc, lo, st, g, iv)) : pm_Iv S' ∧ pm_le g S'.2.2.2.1 := by
  unfold pm_ins at h
  split at h
  · obtain ⟨h1, h⟩ := pm_ifn_inv h
    exact pm_v_bk hc h hI (pm_take hI.2.1) (pm_drop hI.2.1)
  · obtain ⟨h1, h⟩ := pm_ifn_inv h
    exact pm_v_bk hc h hI (pm_take hI.2.1) (pm_drop hI.2.1)
  · split at h
    · split at h
      · obtain ⟨h1, h⟩ := pm_ifn_inv h
        cases h
        exact pm_iv_go hI (pm_tl (pm_tl (pm_tl (pm_tl (pm_tl hI.2.1)))))
      · cases h
    · cases h
  · split at h
    · obtain ⟨h1, h⟩ := pm_ifn_inv h
      cases h
      exact pm_iv_go hI (pm_cns pm_okI (pm_tl (pm_tl hI.2.1)))
    · cases h
  · split at h
    · obtain ⟨h1, h⟩ := pm_ifn_inv h
      cases h
      exact pm_iv_go hI (pm_cns pm_okI (pm_tl hI.2.1))
    · cases h
  · cases h
theorem pm_ri_no (h : pm_ri mi st g iv = some (.inl S')) : False := by
  unfold pm_ri at h
  split at h
  · split at h
    · have := (pm_ifn_inv h).2
      cases this
    · cases h
  · cases h
theorem pm_rl_no (h : pm_rl mi st g iv = some (.inl S')) : False := by
  unfold pm_rl at h
  split at h
  · have := (pm_ifn_inv h).2
    cases this
  · cases h
theorem pm_rv_no (h : pm_rv mi st g iv = some (.inl S')) : False := by
  unfold pm_rv at h
  split at h
  · have := (pm_ifn_inv h).2
    cases this
  · cases h
theorem pm_v_i {ins : Instr} (hc : pm_CK cal) (h : pm_i X cal mi pc lo st g iv ins = some (.inl S')) (hI : pm_Iv (pc, lo, st, g, iv)) : pm_Iv S' ∧ pm_le g S'.2.2.2.1 := by
  unfold pm_i at h
  split at h
  any_goals first
    | exact pm_v_psh pm_okI h hI
    | exact pm_v_psh pm_okL h hI
    | exact pm_v_ldI h hI
    | exact pm_v_ldL h hI
    | exact pm_v_ldA h hI
    | exact pm_v_stI h hI
    | exact pm_v_stL h hI
    | exact pm_v_stA h hI
    | exact pm_v_inc h hI
    | exact pm_v_i1 h hI
    | exact pm_v_i2 h hI
    | exact pm_v_d2 h hI
    | exact pm_v_l2 h hI
    | exact pm_v_ls2 h hI
    | exact pm_v_il h hI
    | exact pm_v_li h hI
    | exact pm_v_lc h hI
    | exact pm_v_dup h hI
    | exact pm_v_dp2 h hI
    | exact pm_v_pop h hI
    | exact pm_v_jmp h hI hI.2.1
    | exact pm_v_br1 h hI
    | exact pm_v_br2 h hI
    | exact pm_v_nn h hI
    | exact pm_v_tsw h hI
    | exact pm_v_lsw h hI
    | exact pm_v_gf h hI
    | exact pm_v_pf h hI
    | exact pm_v_gs h hI
    | exact pm_v_aln h hI
    | exact pm_v_ald h hI
    | exact pm_v_ast h hI
    | exact pm_v_aal h hI
    | exact pm_v_aas h hI
    | exact pm_v_new h hI
    | exact pm_v_nwa h hI
    | exact pm_v_ana h hI
    | exact pm_v_kI h hI
    | exact pm_v_kL h hI
    | exact pm_v_inv hc h hI
    | exact pm_v_ins hc h hI
    | exact pm_v_isp hc h hI
    | exact (pm_ri_no h).elim
    | exact (pm_rl_no h).elim
    | exact (pm_rv_no h).elim
    | (cases h; done)
    | (split at h <;> first | exact pm_v_kI h hI | exact pm_v_kS h hI)
theorem pm_v_n {S : pm_S} (hc : pm_CK cal) (h : pm_n X cal mi S = some (.inl S')) (hI : pm_Iv S) : pm_Iv S' ∧ pm_le S.2.2.2.1 S'.2.2.2.1 := by
  unfold pm_n at h
  split at h
  · split at h
    · exact pm_v_i hc h hI
    · cases h
  · cases h
/-- this isn't an end -/
def pm_Lv (x : pm_O) : Prop := ∀ r : pm_R, x ≠ some (.inr r)
theorem pm_r_no : pm_Lv none := fun r h => by cases h
theorem pm_r_go {st : List Value} : pm_Lv (pm_go pc lo st g iv) := fun r h => by cases h
theorem pm_r_if {c : Prop} [Decidable c] {x : pm_O} (h : pm_Lv x) : pm_Lv (pm_ifn c x) := fun r q => h r (pm_ifn_inv q).2
theorem pm_r_jmp {off : Int} : pm_Lv (pm_jmp pc lo g iv off r) := pm_r_if pm_r_go
theorem pm_r_bk {q : Option pm_R} : pm_Lv (pm_bk pc lo r q) := by
  unfold pm_bk
  split
  · exact pm_r_go
  · exact pm_r_no
theorem pm_r_i {ins : Instr} (h1 : ins ≠ .ireturn) (h2 : ins ≠ .lreturn) (h3 : ins ≠ .return_) : pm_Lv (pm_i X cal mi pc lo st g iv ins) := by
  unfold pm_i
  split
  any_goals first
    | exact pm_r_no
    | exact pm_r_jmp
    | exact absurd rfl h1
    | exact absurd rfl h2
    | exact absurd rfl h3
    | exact pm_r_go
    | (unfold pm_ldI; repeat' (first | exact pm_r_go | exact pm_r_no | exact pm_r_jmp | exact pm_r_bk | apply pm_r_if | split))
    | (unfold pm_ldL; repeat' (first | exact pm_r_go | exact pm_r_no | exact pm_r_jmp | exact pm_r_bk | apply pm_r_if | split))
    | (unfold pm_ldA; repeat' (first | exact pm_r_go | exact pm_r_no | exact pm_r_jmp | exact pm_r_bk | apply pm_r_if | split))
    | (unfold pm_stI; repeat' (first | exact pm_r_go | exact pm_r_no | exact pm_r_jmp | exact pm_r_bk | apply pm_r_if | split))
    | (unfold pm_stL; repeat' (first | exact pm_r_go | exact pm_r_no | exact pm_r_jmp | exact pm_r_bk | apply pm_r_if | split))
    | (unfold pm_stA; repeat' (first | exact pm_r_go | exact pm_r_no | exact pm_r_jmp | exact pm_r_bk | apply pm_r_if | split))
    | (unfold pm_inc; repeat' (first | exact pm_r_go | exact pm_r_no | exact pm_r_jmp | exact pm_r_bk | apply pm_r_if | split))
    | (unfold pm_i1; repeat' (first | exact pm_r_go | exact pm_r_no | exact pm_r_jmp | exact pm_r_bk | apply pm_r_if | split))
    | (unfold pm_i2; repeat' (first | exact pm_r_go | exact pm_r_no | exact pm_r_jmp | exact pm_r_bk | apply pm_r_if | split))
    | (unfold pm_d2; repeat' (first | exact pm_r_go | exact pm_r_no | exact pm_r_jmp | exact pm_r_bk | apply pm_r_if | split))
    | (unfold pm_l2; repeat' (first | exact pm_r_go | exact pm_r_no | exact pm_r_jmp | exact pm_r_bk | apply pm_r_if | split))
    | (unfold pm_ls2; repeat' (first | exact pm_r_go | exact pm_r_no | exact pm_r_jmp | exact pm_r_bk | apply pm_r_if | split))
    | (unfold pm_il; repeat' (first | exact pm_r_go | exact pm_r_no | exact pm_r_jmp | exact pm_r_bk | apply pm_r_if | split))
    | (unfold pm_li; repeat' (first | exact pm_r_go | exact pm_r_no | exact pm_r_jmp | exact pm_r_bk | apply pm_r_if | split))
    | (unfold pm_lc; repeat' (first | exact pm_r_go | exact pm_r_no | exact pm_r_jmp | exact pm_r_bk | apply pm_r_if | split))
    | (unfold pm_dup; repeat' (first | exact pm_r_go | exact pm_r_no | exact pm_r_jmp | exact pm_r_bk | apply pm_r_if | split))
    | (unfold pm_dp2; repeat' (first | exact pm_r_go | exact pm_r_no | exact pm_r_jmp | exact pm_r_bk | apply pm_r_if | split))
    | (unfold pm_pop; repeat' (first | exact pm_r_go | exact pm_r_no | exact pm_r_jmp | exact pm_r_bk | apply pm_r_if | split))
    | (unfold pm_br1; repeat' (first | exact pm_r_go | exact pm_r_no | exact pm_r_jmp | exact pm_r_bk | apply pm_r_if | split))
    | (unfold pm_br2; repeat' (first | exact pm_r_go | exact pm_r_no | exact pm_r_jmp | exact pm_r_bk | apply pm_r_if | split))
    | (unfold pm_nn; repeat' (first | exact pm_r_go | exact pm_r_no | exact pm_r_jmp | exact pm_r_bk | apply pm_r_if | split))
    | (unfold pm_tsw; repeat' (first | exact pm_r_go | exact pm_r_no | exact pm_r_jmp | exact pm_r_bk | apply pm_r_if | split))
    | (unfold pm_lsw; repeat' (first | exact pm_r_go | exact pm_r_no | exact pm_r_jmp | exact pm_r_bk | apply pm_r_if | split))
    | (unfold pm_gf; repeat' (first | exact pm_r_go | exact pm_r_no | exact pm_r_jmp | exact pm_r_bk | apply pm_r_if | split))
    | (unfold pm_pf; repeat' (first | exact pm_r_go | exact pm_r_no | exact pm_r_jmp | exact pm_r_bk | apply pm_r_if | split))
    | (unfold pm_gs; repeat' (first | exact pm_r_go | exact pm_r_no | exact pm_r_jmp | exact pm_r_bk | apply pm_r_if | split))
    | (unfold pm_aln; repeat' (first | exact pm_r_go | exact pm_r_no | exact pm_r_jmp | exact pm_r_bk | apply pm_r_if | split))
    | (unfold pm_ald; repeat' (first | exact pm_r_go | exact pm_r_no | exact pm_r_jmp | exact pm_r_bk | apply pm_r_if | split))
    | (unfold pm_ast; repeat' (first | exact pm_r_go | exact pm_r_no | exact pm_r_jmp | exact pm_r_bk | apply pm_r_if | split))
    | (unfold pm_aal; repeat' (first | exact pm_r_go | exact pm_r_no | exact pm_r_jmp | exact pm_r_bk | apply pm_r_if | split))
    | (unfold pm_aas; repeat' (first | exact pm_r_go | exact pm_r_no | exact pm_r_jmp | exact pm_r_bk | apply pm_r_if | split))
    | (unfold pm_new; repeat' (first | exact pm_r_go | exact pm_r_no | exact pm_r_jmp | exact pm_r_bk | apply pm_r_if | split))
    | (unfold pm_nwa; repeat' (first | exact pm_r_go | exact pm_r_no | exact pm_r_jmp | exact pm_r_bk | apply pm_r_if | split))
    | (unfold pm_ana; repeat' (first | exact pm_r_go | exact pm_r_no | exact pm_r_jmp | exact pm_r_bk | apply pm_r_if | split))
    | (unfold pm_kI; repeat' (first | exact pm_r_go | exact pm_r_no | exact pm_r_jmp | exact pm_r_bk | apply pm_r_if | split))
    | (unfold pm_kL; repeat' (first | exact pm_r_go | exact pm_r_no | exact pm_r_jmp | exact pm_r_bk | apply pm_r_if | split))
    | (unfold pm_kS; repeat' (first | exact pm_r_go | exact pm_r_no | exact pm_r_jmp | exact pm_r_bk | apply pm_r_if | split))
    | (unfold pm_inv; repeat' (first | exact pm_r_go | exact pm_r_no | exact pm_r_jmp | exact pm_r_bk | apply pm_r_if | split))
    | (unfold pm_ins; repeat' (first | exact pm_r_go | exact pm_r_no | exact pm_r_jmp | exact pm_r_bk | apply pm_r_if | split))
    | (unfold pm_isp; repeat' (first | exact pm_r_go | exact pm_r_no | exact pm_r_jmp | exact pm_r_bk | apply pm_r_if | split))
  · unfold pm_kS
    split
    · exact pm_r_go
    · exact pm_r_no
/-- how a run ends -/
theorem pm_n_end {S : pm_S} {r : pm_R} (h : pm_n X cal mi S = some (.inr r)) : (∃ x, S.2.2.1 = [.int x] ∧ (∃ ty, pm_mr mi = some ty ∧ narrow ty (.int x) = .int x) ∧ r = (some (.int x), S.2.2.2.1, S.2.2.2.2) ∧ decode (pm_mb mi) S.1 = .ok (.ireturn, 1)) ∨
    (∃ x, S.2.2.1 = [.long x] ∧ pm_mr mi = some .long ∧ r = (some (.long x), S.2.2.2.1, S.2.2.2.2) ∧ decode (pm_mb mi) S.1 = .ok (.lreturn, 1)) ∨ (S.2.2.1 = [] ∧ pm_mr mi = none ∧ r = (none, S.2.2.2.1, S.2.2.2.2) ∧ decode (pm_mb mi) S.1 = .ok (.return_, 1)) := by
  unfold pm_n at h
  split at h
  · rename_i ins len hd
    split at h
    · rename_i hl
      by_cases h1 : ins = .ireturn
      · subst h1
        obtain rfl : 1 = len := by rcases hl with hl | hl <;> cases hl; rfl
        refine Or.inl ?_
        change pm_ri mi S.2.2.1 S.2.2.2.1 S.2.2.2.2 = some (.inr r) at h
        unfold pm_ri at h
        split at h
        · rename_i v hv
          split at h
          · rename_i ty ht
            obtain ⟨q1, q2⟩ := pm_ifn_inv h
            cases q2
            exact ⟨v, hv, ⟨ty, ht, q1⟩, rfl, hd⟩
          · cases h
        · cases h
      · by_cases h2 : ins = .lreturn
        · subst h2
          obtain rfl : 1 = len := by rcases hl with hl | hl <;> cases hl; rfl
          refine Or.inr (Or.inl ?_)
          change pm_rl mi S.2.2.1 S.2.2.2.1 S.2.2.2.2 = some (.inr r) at h
          unfold pm_rl at h
          split at h
          · rename_i v hv
            obtain ⟨q1, q2⟩ := pm_ifn_inv h
            cases q2
            exact ⟨v, hv, q1, rfl, hd⟩
          · cases h
        · by_cases h3 : ins = .return_
          · subst h3
            obtain rfl : 1 = len := by rcases hl with hl | hl <;> cases hl; rfl
            refine Or.inr (Or.inr ?_)
            change pm_rv mi S.2.2.1 S.2.2.2.1 S.2.2.2.2 = some (.inr r) at h
            unfold pm_rv at h
            split at h
            · rename_i hv
              obtain ⟨q1, q2⟩ := pm_ifn_inv h
              cases q2
              exact ⟨hv, q1, rfl, hd⟩
            · cases h
          · exact absurd h (pm_r_i h1 h2 h3 r)
    · cases h
  · cases h
theorem pm_v_x : ∀ {n : Nat} {S : pm_S} {r : pm_R}, pm_CK cal → pm_x X cal mi n S = some r → pm_Iv S → pm_okg r.2.1 ∧ pm_le S.2.2.2.1 r.2.1 ∧ ∀ w, r.1 = some w → (∃ x, w = .int x) ∨ ∃ x, w = .long x := by
  intro n
  induction n with
  | zero => intro S r _ h; cases h
  | succ n ih =>
    intro S r hc h hI
    simp only [pm_x] at h
    split at h
    · cases h
    · rename_i S1 he
      obtain ⟨h1, h2⟩ := pm_v_n hc he hI
      obtain ⟨a, b, c⟩ := ih hc h h1
      exact ⟨a, h2.tr b, c⟩
    · rename_i r1 he
      cases h
      rcases pm_n_end he with ⟨x, h1, -, rfl, -⟩ | ⟨x, h1, -, rfl, -⟩ | ⟨h1, -, rfl, -⟩
      · exact ⟨hI.1, pm_le.rf, fun w hw => by cases hw; exact Or.inl ⟨_, rfl⟩⟩
      · exact ⟨hI.1, pm_le.rf, fun w hw => by cases hw; exact Or.inr ⟨_, rfl⟩⟩
      · exact ⟨hI.1, pm_le.rf, fun w hw => by cases hw⟩
theorem pm_iv_en {args : List Value} {n : Nat} (hg : pm_okg g) (ha : ∀ w ∈ args, pm_okv g w) : pm_Iv (0, pm_en args n, [], g, iv) := by
  have key : ∀ (as : List Value) (v : Value), some v ∈ pm_ea as → v ∈ as := by
    intro as
    induction as with
    | nil => intro v h; cases h
    | cons a t ih =>
      intro v h
      rw [pm_ea] at h
      split at h
      · rcases List.mem_cons.mp h with q | q
        · cases q; exact List.mem_cons_self
        · rcases List.mem_cons.mp q with q | q
          · cases q
          · exact List.mem_cons_of_mem _ (ih v q)
      · rcases List.mem_cons.mp h with q | q
        · cases q; exact List.mem_cons_self
        · exact List.mem_cons_of_mem _ (ih v q)
  refine ⟨hg, (fun v hv => absurd hv List.not_mem_nil), ?_⟩
  intro v hv
  rcases List.mem_append.mp hv with q | q
  · exact ha v (key args v q)
  · exact absurd (List.eq_of_mem_replicate q) (Option.some_ne_none _)
theorem pm_c_ck : ∀ d : Nat, pm_CK (pm_c X d) := by
  intro d
  induction d with
  | zero => intro t args g iv v g' iv' h; cases h
  | succ d ih =>
    intro t args g iv v g' iv' h hg ha
    by_cases hl : (pm_ea args).length ≤ pm_ml t
    · rw [pm_c_at hl] at h
      obtain ⟨n, hn⟩ := pm_at_ex h
      exact pm_v_x ih hn (pm_iv_en hg ha)
    · exact absurd h (by show (if (pm_ea args).length ≤ pm_ml t then _ else none) ≠ _; rw [if_neg hl]; exact fun e => by cases e)
end INV
