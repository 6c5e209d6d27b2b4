/-! the street from a house down -/
theorem pigeon : ∀ (n m : Nat) (f : Nat → Nat), (∀ i, i < m → f i < n) → (∀ i j, i < m → j < m → f i = f j → i = j) → m ≤ n
  | 0, m, f, h, _ => by
    rcases Nat.eq_zero_or_pos m with e | e
    · omega
    · exact absurd (h 0 e) (Nat.not_lt_zero _)
  | n + 1, m, f, h, hi => by
    by_cases q : ∃ i, i < m ∧ f i = n
    · obtain ⟨i, him, hin⟩ := q
      have := pigeon n (m - 1) (fun j => if j < i then f j else f (j + 1)) (fun j hj => by
        show (if j < i then f j else f (j + 1)) < n
        split
        · have h1 := h j (by omega)
          have h2 : f j ≠ n := fun e => by have := hi j i (by omega) him (by rw [e, hin]); omega
          omega
        · have h1 := h (j + 1) (by omega)
          have h2 : f (j + 1) ≠ n := fun e => by have := hi (j + 1) i (by omega) him (by rw [e, hin]); omega
          omega) (fun a b ha hb he => by
        have he : (if a < i then f a else f (a + 1)) = (if b < i then f b else f (b + 1)) := he
        split at he <;> split at he
        · exact hi a b (by omega) (by omega) he
        · have := hi a (b + 1) (by omega) (by omega) he; omega
        · have := hi (a + 1) b (by omega) (by omega) he; omega
        · have := hi (a + 1) (b + 1) (by omega) (by omega) he; omega)
      omega
    · have := pigeon n m f (fun i hm => by
        have h1 := h i hm
        have h2 : f i ≠ n := fun e => q ⟨i, hm, e⟩
        omega) hi
      omega
/-- the house of v that stands there -/
abbrev hAt (v : HV) (l y : Nat) : Nat := atF (vl v) (vy v) (vN v) (nI l) (nI y)
theorem hAt_is {v : HV} (ho : Hok v) (hs : Dst v (vy v)) {h : Nat} (hh : h < vN v) : hAt v (vl v h) (vy v h) = h := by
  have hN := ho.2.2.1
  have hL := ho.1
  have hD := ho.2.1
  refine fstF_eq hh (decide_eq_true ⟨rfl, rfl⟩) (fun i hi => ?_)
  rw [decide_eq_false_iff_not]
  intro q
  have a1 := ho.2.2.2.2.2 i (by omega)
  have a2 := ho.2.2.2.2.2 h hh
  rw [nI_eq (by omega) (by omega), nI_eq (by omega) (by omega)] at q
  exact hs.1 i h (by omega) hh (by omega) q
theorem hAt_sp {v : HV} (ho : Hok v) {l y : Nat} (hl : l < 1000) (hy : y < 1000) (h : hsAt v (vy v) l y = true) : hAt v l y < vN v ∧ vl v (hAt v l y) = l ∧ vy v (hAt v l y) = y := by
  have hlt : hAt v l y < vN v := of_decide_eq_true h
  have hL := ho.1
  have hD := ho.2.1
  have a := ho.2.2.2.2.2 _ hlt
  have : nI (vl v (hAt v l y)) = nI l ∧ nI (vy v (hAt v l y)) = nI y := of_decide_eq_true (fstF_yes _ _ hlt)
  rw [nI_eq (by omega) (by omega), nI_eq (by omega) (by omega)] at this
  exact ⟨hlt, this.1, this.2⟩
theorem hs_no_stone {v : HV} (ho : Hok v) (hs : Dst v (vy v)) {l y : Nat} (hl : l < 1000) (hy : y < 1000) (h : vS v l y = true) : ¬ hsAt v (vy v) l y = true := fun q => by
  have a := hAt_sp ho hl hy q
  have := hs.2 _ a.1
  rw [a.2.1, a.2.2] at this
  exact this h
/-- the street from yard y on: the houses so far, when a stone or the stream ends it -/
def stF (v : HV) (l : Nat) : Nat → Nat → Int32 → Int32
  | 0, _, a => a
  | m + 1, y, a => if hsAt v (vy v) l y = true then stF v l m (y + 1) (a ||| ((1 : Int32) <<< (nI (hAt v l y) &&& 31))) else if vS v l y = true then a else 0
def stI (v : HV) (h : Nat) : Int32 := stF v (vl v h) (vD v - vy v h) (vy v h) 0
section S37
variable {X : pm_X} {d k : Nat} {g : pm_G} {iv : pm_V} {x y : Int32} {v : HV}
theorem fndI_house {v : HV} (ho : Hok v) (hs : Dst v (vy v)) {l y : Nat} (hl : l < vL v) (hy : y < vD v) (h : hsAt v (vy v) l y = true) : fndI v (nI l) (nI y) = nI (hAt v l y) := by
  have hL := ho.1
  have hD := ho.2.1
  have hn : ¬ vS v l y = true := fun q => hs_no_stone ho hs (by omega) (by omega) q h
  unfold fndI
  rw [ip_n hl (by omega), ip_n hy (by omega), nI_c (by omega), nI_c (by omega), if_neg (fun q => hn q.2.2), if_pos (of_decide_eq_true h)]
theorem t_street_loop (hd : 3 ≤ d) (hK : pm_sl g k) (hv : SV iv k v) (ho : Hok v) (hs : Dst v (vy v)) {l y0 : Nat} (hl : l < vL v) (hy0 : y0 < vD v) : ∀ m j h a (f : Nat → Nat) (z5 : Option Value), y0 + j + m = vD v → h < vN v → vl v h = l → vy v h = y0 + j → (∀ i, i ≤ j → f i < vN v ∧ vy v (f i) = y0 + i) → 0 < m →
    pm_at X d 47 (7, [some (.ref k), some (.int x), some (.int a), some (.int (nI h)), some (.int (nI j)), z5], [], g, iv) = some (some (.int (stF v l m (y0 + j) a)), g, iv) := by
  have hD := ho.2.1
  have hN := ho.2.2.1
  have hL4 := ho.1
  intro m
  induction m with
  | zero =>
    intro j h a f z5 hy _ _ _ _ h0
    omega
  | succ m ih =>
    intro j h a f z5 hy hh hhl hhy hf _
    have hjn : j + 1 ≤ vN v := pigeon _ _ f (fun i hi => (hf i (by omega)).1) (fun i i2 hi hi2 e => by
      have h1 := (hf i (by omega)).2
      have h2 := (hf i2 (by omega)).2
      rw [e] at h1
      omega)
    have h1 : ¬ nI (vN v) ≤ nI j := nI_ge (by omega) (by omega)
    have hA : hAt v l (y0 + j) = h := by rw [← hhl, ← hhy]; exact hAt_is ho hs hh
    have hB : hsAt v (vy v) l (y0 + j) = true := decide_eq_true (by show hAt v l (y0 + j) < vN v; omega)
    rw [stF, if_pos hB, hA]
    simp only [b47_7 hK, hv.2.2.1, h1, bz_0, bz_n, bz_1, pm_zr0, pm_zr1, pm_zrI, if_true, if_false, not_true, not_false_eq_true, Bool.false_eq_true, true_and, and_true, false_and, and_false, z10, z01, zz0, eq_self, b47_16 hK, t_laneOf (show 2 ≤ d by omega) hK hv ho hh, pm_then_i, pm_then_l, pm_then_v, b47_28 hK, t_yardOf (show 2 ≤ d by omega) hK hv ho hh, b47_33 hK, t_findAt hd hK hv ho, b47_38 hK, t_isAtStream (show 2 ≤ d by omega) hK hv ho hh, b47_45, hhl, hhy, nI_1]
    generalize a ||| ((1 : Int32) <<< (nI h &&& 31)) = b
    by_cases q : y0 + j + 1 = vD v
    · have e : m = 0 := by omega
      subst e
      simp only [q, bz_0, bz_n, bz_1, pm_zr0, pm_zr1, pm_zrI, if_true, if_false, not_true, not_false_eq_true, Bool.false_eq_true, true_and, and_true, false_and, and_false, z10, z01, zz0, eq_self, b47_54, stF]
    · obtain ⟨m, rfl⟩ : ∃ e, m = e + 1 := ⟨m - 1, by omega⟩
      have hlt : y0 + j + 1 < vD v := by omega
      simp only [q, bz_0, bz_n, bz_1, pm_zr0, pm_zr1, pm_zrI, if_true, if_false, not_true, not_false_eq_true, Bool.false_eq_true, true_and, and_true, false_and, and_false, z10, z01, zz0, eq_self, b47_48, b47_54, b47_56, fndI_stone ho hl hlt, fndI_none ho hl hlt]
      rw [stF]
      by_cases q1 : hsAt v (vy v) l (y0 + j + 1) = true
      · have q2 : ¬ vS v l (y0 + j + 1) = true := fun q => hs_no_stone ho hs (by omega) (by omega) q q1
        obtain ⟨b1, b2, b3⟩ := hAt_sp ho (by omega) (by omega) q1
        simp only [q1, q2, bz_0, bz_n, bz_1, pm_zr0, pm_zr1, pm_zrI, if_true, if_false, not_true, not_false_eq_true, Bool.false_eq_true, true_and, and_true, false_and, and_false, z10, z01, zz0, eq_self, b47_65, nI_1, fndI_house ho hs hl hlt q1]
        have := ih (j + 1) (hAt v l (y0 + j + 1)) b (fun i => if i ≤ j then f i else hAt v l (y0 + j + 1)) (some (.int (nI (hAt v l (y0 + j + 1))))) (by omega) b1 b2 (by omega) (fun i hi => by
          rcases Nat.lt_or_ge j i with p | p
          · rw [if_neg (by omega)]
            exact ⟨b1, by omega⟩
          · rw [if_pos p]
            exact hf i p) (by omega)
        rw [this, stF, show y0 + (j + 1) = y0 + j + 1 from rfl, if_pos q1]
      · by_cases q2 : vS v l (y0 + j + 1) = true
        · simp only [q1, q2, bz_0, bz_n, bz_1, pm_zr0, pm_zr1, pm_zrI, if_true, if_false, not_true, not_false_eq_true, Bool.false_eq_true, true_and, and_true, false_and, and_false, z10, z01, zz0, eq_self]
        · simp only [q1, q2, bz_0, bz_n, bz_1, pm_zr0, pm_zr1, pm_zrI, if_true, if_false, not_true, not_false_eq_true, Bool.false_eq_true, true_and, and_true, false_and, and_false, z10, z01, zz0, eq_self, b47_63]
theorem t_street (hd : 4 ≤ d) (hK : pm_sl g k) (hv : SV iv k v) (ho : Hok v) (hs : Dst v (vy v)) {h : Nat} (hh : h < vN v) : pm_c X d 47 [.ref k, .int (nI h)] g iv = some (some (.int (stI v h)), g, iv) := by
  obtain ⟨d, rfl, hd1⟩ := pm_d1 hd
  have ha := ho.2.2.2.2.2 h hh
  have hl := t_street_loop (X := X) (x := nI h) hd1 hK hv ho hs ha.1 ha.2.1 (vD v - vy v h) 0 h 0 (fun _ => h) none (by omega) hh rfl rfl (fun i hi => ⟨hh, by omega⟩) (by omega)
  rw [nI_0, Nat.add_zero] at hl
  simp only [e47, b47_0, hl, stI]
theorem m_street_loop (hd : 2 ≤ d) (hL : pm_lay g) (hv : HAr (iv 36) v) (ho : Hok v) (hp : PL iv 40 (vN v) (vy v)) {l : Nat} (hl : l < vL v) : ∀ m y a, y + m = vD v → pm_at X d 184 (37, [some (.ref 32), some (.int x), some (.int (nI l)), some (.int (nI y)), some (.int a)], [], g, iv) = some (some (.int (stF v l m y a)), g, iv) := by
  have hD := ho.2.1
  have hN := ho.2.2.1
  have hl4 := ho.1
  intro m
  induction m with
  | zero =>
    intro y a hy
    have e : y = vD v := by omega
    subst e
    simp only [b184_37 hL, hv.2.1, Int32.le_refl, if_true, b184_77 hL, b184_96, b184_102, stF]
  | succ m ih =>
    intro y a hy
    have hlt : y < vD v := by omega
    have h1 : ¬ nI (vD v) ≤ nI y := nI_ge hlt (by omega)
    have h2 : ¬ nI y = nI (vD v) := by rw [nI_eq (by omega) (by omega)]; omega
    rw [b184_37 hL, stF]
    simp only [hv.2.1, h1, bz_0, bz_n, bz_1, pm_zr0, pm_zr1, pm_zrI, if_true, if_false, not_true, not_false_eq_true, Bool.false_eq_true, true_and, and_true, false_and, and_false, z10, z01, zz0, eq_self, b184_47 hL, m_houseAt hd hL hv ho hp, pm_then_i, pm_then_l, pm_then_v, b184_53]
    by_cases q2 : atF (vl v) (vy v) (vN v) (nI l) (nI y) < vN v
    · have q3 : hsAt v (vy v) l y = true := decide_eq_true q2
      have ne : ¬ nI (atF (vl v) (vy v) (vN v) (nI l) (nI y)) = -1000000 := fun e => by
        have e := congrArg Int32.toInt e
        rw [nI_t (by omega)] at e
        exact absurd e (by show ¬ _ = (-1000000 : Int); omega)
      simp only [q2, q3, ne, bz_0, bz_n, bz_1, pm_zr0, pm_zr1, pm_zrI, if_true, if_false, not_true, not_false_eq_true, Bool.false_eq_true, true_and, and_true, false_and, and_false, z10, z01, zz0, eq_self, b184_58 hL, m_houseAt hd hL hv ho hp, pm_then_i, pm_then_l, pm_then_v, b184_67, nI_1]
      rw [ih (y + 1) _ (by omega)]
    · have q3 : ¬ hsAt v (vy v) l y = true := by rw [hsAt, decide_eq_true_eq]; exact q2
      simp only [q2, q3, bz_0, bz_n, bz_1, pm_zr0, pm_zr1, pm_zrI, if_true, if_false, not_true, not_false_eq_true, Bool.false_eq_true, true_and, and_true, false_and, and_false, z10, z01, zz0, eq_self, b184_77 hL, hv.2.1, h2, b184_87 hL, m_isStone (show 1 ≤ d by omega) hL hv (show l < 4 by omega) (show y < 32 by omega), pm_then_i, pm_then_l, pm_then_v, b184_93, b184_96, b184_101, b184_102]
      by_cases q4 : vS v l y = true <;> simp only [q4, bz_0, bz_n, bz_1, pm_zr0, pm_zr1, pm_zrI, if_true, if_false, not_true, not_false_eq_true, Bool.false_eq_true, true_and, and_true, false_and, and_false, z10, z01, zz0, eq_self]
end S37
