/-! the class's winter, a house at a time -/
/-- v with its houses in these yards -/
def wy (v : HV) (pl : Nat → Nat) : HV := (v.1, v.2.1, v.2.2.1, v.2.2.2.1, v.2.2.2.2.1, v.2.2.2.2.2.1, v.2.2.2.2.2.2.1, v.2.2.2.2.2.2.2.1, v.2.2.2.2.2.2.2.2.1, pl, v.2.2.2.2.2.2.2.2.2.2)
theorem Hok_wy {v : HV} {pl : Nat → Nat} (ho : Hok v) (hp : Pok v pl) : Hok (wy v pl) := ⟨ho.1, ho.2.1, ho.2.2.1, ho.2.2.2.1, ho.2.2.2.2.1, fun h hh => ⟨(ho.2.2.2.2.2 h hh).1, hp h hh, (ho.2.2.2.2.2 h hh).2.2⟩⟩
/-- houses stand apart, and on no stone -/
def Dst (v : HV) (pl : Nat → Nat) : Prop := (∀ a b, a < vN v → b < vN v → a ≠ b → ¬ (vl v a = vl v b ∧ pl a = pl b)) ∧ ∀ a, a < vN v → ¬ vS v (vl v a) (pl a) = true
theorem hsAt_iff {v : HV} {pl : Nat → Nat} (ho : Hok v) (hp : Pok v pl) {l y : Nat} (hl : l < 1000) (hy : y < 1000) : hsAt v pl l y = true ↔ ∃ h, h < vN v ∧ vl v h = l ∧ pl h = y := by
  have hL := ho.1
  have hD := ho.2.1
  unfold hsAt atF
  rw [decide_eq_true_eq]
  constructor
  · intro q
    have hy2 := of_decide_eq_true (fstF_yes _ _ q)
    refine ⟨_, q, ?_, ?_⟩
    · exact (nI_eq (by have := (ho.2.2.2.2.2 _ q).1; omega) (by omega)).mp hy2.1
    · exact (nI_eq (by have := hp _ q; omega) (by omega)).mp hy2.2
  · intro ⟨h, h1, h2, h3⟩
    rcases Nat.lt_or_ge (fstF (fun h => decide (nI (vl v h) = nI l ∧ nI (pl h) = nI y)) (vN v)) (vN v) with a | a
    · exact a
    · have := fstF_no (fun h => decide (nI (vl v h) = nI l ∧ nI (pl h) = nI y)) (vN v) h (by omega)
      rw [h2, h3] at this
      simp at this
/-- taken: a stone or a house -/
def TK (iv : pm_V) (k : Nat) (v : HV) (pl : Nat → Nat) : Prop := ∀ l, l < 4 → ∀ i, i < 32 → bt (iv (k + 9) l) i = (vS v l i || hsAt v pl l i)
theorem b_3 : ∀ i, i < 32 → bt 3 i = decide (i < 2) := by decide +kernel
theorem b_two {i j : Nat} (hi : i < 31) (hj : j < 32) : bt ((3 : Int32) <<< (nI i &&& 31)) j = decide (j = i ∨ j = i + 1) := by
  rw [b_shl i (by omega) 3 hj]
  rcases Nat.lt_or_ge j i with h | h
  · have h1 : ¬ i ≤ j := by omega
    have h2 : ¬ (j = i ∨ j = i + 1) := by omega
    simp [h1, h2]
  · rw [b_3 (j - i) (by omega), decide_eq_true h, Bool.true_and]
    by_cases q : j = i ∨ j = i + 1
    · rw [decide_eq_true q, decide_eq_true (by omega)]
    · rw [decide_eq_false q, decide_eq_false (by omega)]
/-- may it go one yard? -/
def fr (v : HV) (pl : Nat → Nat) (h : Nat) : Prop := pl h + 1 < vD v ∧ ¬ vS v (vl v h) (pl h + 1) = true ∧ ¬ hsAt v pl (vl v h) (pl h + 1) = true
theorem rl1_y {v : HV} {pl : Nat → Nat} {h : Nat} (q : fr v pl h) : rl1 v pl h = np pl h (pl h + 1) := if_pos q
theorem rl1_n {v : HV} {pl : Nat → Nat} {h : Nat} (q : ¬ fr v pl h) : rl1 v pl h = pl := if_neg q
theorem Dst_rl1 {v : HV} {pl : Nat → Nat} {h : Nat} (ho : Hok v) (hp : Pok v pl) (hh : h < vN v) (hd : Dst v pl) : Dst v (rl1 v pl h) := by
  have hL := ho.1
  have hD := ho.2.1
  by_cases q : fr v pl h
  · rw [rl1_y q]
    have hl := (ho.2.2.2.2.2 h hh).1
    have no : ∀ b, b < vN v → vl v b = vl v h → ¬ pl b = pl h + 1 := fun b hb e e2 => q.2.2 ((hsAt_iff ho hp (by omega) (by have := q.1; omega)).mpr ⟨b, hb, e, e2⟩)
    refine ⟨fun a b ha hb e c => ?_, fun a ha => ?_⟩
    · by_cases e1 : a = h
      · subst e1
        rw [np_s, np_n (fun x => e x.symm)] at c
        exact no b hb c.1.symm c.2.symm
      · by_cases e2 : b = h
        · subst e2
          rw [np_s, np_n e1] at c
          exact no a ha c.1 c.2
        · rw [np_n e1, np_n e2] at c
          exact hd.1 a b ha hb e c
    · by_cases e1 : a = h
      · subst e1
        rw [np_s]; exact q.2.1
      · rw [np_n e1]; exact hd.2 a ha
  · rw [rl1_n q]; exact hd
theorem hsAt_np {v : HV} {pl : Nat → Nat} {h : Nat} (ho : Hok v) (hp : Pok v pl) (hh : h < vN v) (hd : Dst v pl) (q : fr v pl h) {l i : Nat} (hl : l < 4) (hi : i < 32) : hsAt v (np pl h (pl h + 1)) l i = (if l = vl v h then (if i = pl h then false else if i = pl h + 1 then true else hsAt v pl l i) else hsAt v pl l i) := by
  have hp2 : Pok v (np pl h (pl h + 1)) := by rw [← rl1_y q]; exact Pok_rl1 h hp
  have i1 := hsAt_iff (l := l) (y := i) ho hp (by omega) (by omega)
  have i2 := hsAt_iff (l := l) (y := i) ho hp2 (by omega) (by omega)
  have keep : (l = vl v h → i ≠ pl h ∧ i ≠ pl h + 1) → hsAt v (np pl h (pl h + 1)) l i = hsAt v pl l i := by
    intro hne
    rw [Bool.eq_iff_iff, i1, i2]
    constructor
    · intro ⟨b, h1, h2, h3⟩
      by_cases e : b = h
      · subst e
        rw [np_s] at h3
        exact absurd h3.symm (hne h2.symm).2
      · rw [np_n e] at h3
        exact ⟨b, h1, h2, h3⟩
    · intro ⟨b, h1, h2, h3⟩
      by_cases e : b = h
      · subst e
        exact absurd h3.symm (hne h2.symm).1
      · exact ⟨b, h1, h2, by rw [np_n e]; exact h3⟩
  by_cases a : l = vl v h
  · rw [if_pos a]
    by_cases b : i = pl h
    · rw [if_pos b]
      cases hc : hsAt v (np pl h (pl h + 1)) l i with
      | false => rfl
      | true =>
        obtain ⟨c, h1, h2, h3⟩ := i2.mp hc
        by_cases e : c = h
        · subst e
          rw [np_s] at h3
          omega
        · rw [np_n e] at h3
          exact absurd ⟨by rw [h2, a], by rw [h3, b]⟩ (hd.1 c h h1 hh e)
    · rw [if_neg b]
      by_cases c : i = pl h + 1
      · rw [if_pos c]
        exact i2.mpr ⟨h, hh, a.symm, by rw [np_s, c]⟩
      · rw [if_neg c]
        exact keep (fun _ => ⟨b, c⟩)
  · rw [if_neg a]
    exact keep (fun e => absurd e a)
