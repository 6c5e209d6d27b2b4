/-! Slope: what stands where -/
/-- the first below n of a kind; n: none -/
def fstF (p : Nat → Bool) : Nat → Nat
  | 0 => 0
  | n + 1 => if fstF p n < n then fstF p n else if p n then n else n + 1
theorem fstF_le (p : Nat → Bool) : ∀ n, fstF p n ≤ n
  | 0 => Nat.le_refl 0
  | n + 1 => by
    have ih := fstF_le p n
    rw [fstF]
    split
    · omega
    · split <;> omega
theorem fstF_no (p : Nat → Bool) : ∀ n k, k < fstF p n → p k = false
  | 0, k, h => absurd h (Nat.not_lt_zero k)
  | n + 1, k, h => by
    have ih := fstF_no p n
    have hl := fstF_le p n
    rw [fstF] at h
    split at h
    · exact ih k h
    · rename_i q
      split at h
      · exact ih k (by omega)
      · rename_i q2
        rcases Nat.lt_or_ge k n with a | a
        · exact ih k (by omega)
        · have : k = n := by omega
          subst this
          simpa using q2
theorem fstF_yes (p : Nat → Bool) : ∀ n, fstF p n < n → p (fstF p n) = true
  | 0, h => absurd h (Nat.not_lt_zero _)
  | n + 1, h => by
    have ih := fstF_yes p n
    rw [fstF] at h ⊢
    split at h
    · rename_i q
      rw [if_pos q]
      exact ih q
    · rename_i q
      rw [if_neg q]
      split at h
      · rename_i q2
        rw [if_pos q2]
        exact q2
      · omega
theorem fstF_eq {p : Nat → Bool} {n k : Nat} (hk : k < n) (hp : p k = true) (hn : ∀ i, i < k → p i = false) : fstF p n = k := by
  have h1 := fstF_le p n
  rcases Nat.lt_trichotomy (fstF p n) k with h | h | h
  · have := fstF_yes p n (by omega)
    rw [hn _ h] at this
    cases this
  · exact h
  · have := fstF_no p n k h
    rw [hp] at this
    cases this
theorem fstF_none {p : Nat → Bool} {n : Nat} (hn : ∀ i, i < n → p i = false) : fstF p n = n := by
  have h1 := fstF_le p n
  rcases Nat.lt_or_ge (fstF p n) n with h | h
  · have := fstF_yes p n h
    rw [hn _ h] at this
    cases this
  · omega
theorem fstF_cong {p q : Nat → Bool} : ∀ {n : Nat}, (∀ i, i < n → p i = q i) → fstF p n = fstF q n
  | 0, _ => rfl
  | n + 1, h => by rw [fstF, fstF, fstF_cong (fun i hi => h i (by omega)), h n (by omega)]
/-- the first house in this lane, whose yard is this -/
def atF (ln pl : Nat → Nat) (n : Nat) (x y : Int32) : Nat := fstF (fun h => decide (nI (ln h) = x ∧ nI (pl h) = y)) n
/-- what is there: -1 a stone, a house, -2 nothing -/
def fndI (v : HV) (x y : Int32) : Int32 := if ip x (vL v) = true ∧ ip y (vD v) = true ∧ vS v x.toNatClampNeg y.toNatClampNeg = true then -1 else if atF (vl v) (vy v) (vN v) x y < vN v then nI (atF (vl v) (vy v) (vN v) x y) else -2
section S2
variable {X : pm_X} {d k : Nat} {g : pm_G} {iv : pm_V} {x y : Int32} {v : HV}
theorem t_findAt_loop (hd : 2 ≤ d) (hK : pm_sl g k) (hv : SV iv k v) (ho : Hok v) : ∀ m j, j + m = vN v → (∀ i, i < j → decide (nI (vl v i) = x ∧ nI (vy v i) = y) = false) → pm_at X d 45 (13, [some (.ref k), some (.int x), some (.int y), some (.int (nI j))], [], g, iv) = some (some (.int (if atF (vl v) (vy v) (vN v) x y < vN v then nI (atF (vl v) (vy v) (vN v) x y) else -2)), g, iv) := by
  have hN := ho.2.2.1
  intro m
  induction m with
  | zero =>
    intro j hj hno
    have hjn : j = vN v := by omega
    subst hjn
    have : atF (vl v) (vy v) (vN v) x y = vN v := fstF_none hno
    simp only [b45_0, b45_6, b45_9, b45_11, b45_21, b45_26, b45_30, b45_35, b45_39, b45_41, b45_47, b45_13 hK, hv.2.2.1, Int32.le_refl, if_true, this, Nat.lt_irrefl, if_false]
  | succ m ih =>
    intro j hj hno
    have hlt : j < vN v := by omega
    have h1 : ¬ nI (vN v) ≤ nI j := nI_ge hlt (by omega)
    rw [b45_13 hK]
    simp only [hv.2.2.1, h1, bz_0, bz_n, bz_1, pm_zr0, pm_zr1, pm_zrI, if_true, if_false, not_true, not_false_eq_true, Bool.false_eq_true, true_and, and_true, false_and, and_false, z10, z01, zz0, eq_self, b45_21 hK, t_yardOf hd hK hv ho hlt, pm_then_i, pm_then_l, pm_then_v, b45_26, b45_30 hK, t_laneOf hd hK hv ho hlt, b45_35, b45_39, b45_41]
    have hnx := ih (j + 1) (by omega)
    by_cases hy : nI (vy v j) = y
    · by_cases hx : nI (vl v j) = x
      · have e : atF (vl v) (vy v) (vN v) x y = j := fstF_eq hlt (by simp [hx, hy]) hno
        simp only [hy, hx, bz_0, bz_n, bz_1, pm_zr0, pm_zr1, pm_zrI, if_true, if_false, not_true, not_false_eq_true, Bool.false_eq_true, true_and, and_true, false_and, and_false, z10, z01, zz0, eq_self, e, hlt]
      · simp only [hy, hx, bz_0, bz_n, bz_1, pm_zr0, pm_zr1, pm_zrI, if_true, if_false, not_true, not_false_eq_true, Bool.false_eq_true, true_and, and_true, false_and, and_false, z10, z01, zz0, eq_self, nI_1]
        exact hnx (fun i hi => by
          rcases Nat.lt_or_ge i j with a | a
          · exact hno i a
          · have : i = j := by omega
            subst this
            simp [hx])
    · simp only [hy, bz_0, bz_n, bz_1, pm_zr0, pm_zr1, pm_zrI, if_true, if_false, not_true, not_false_eq_true, Bool.false_eq_true, true_and, and_true, false_and, and_false, z10, z01, zz0, eq_self, nI_1]
      exact hnx (fun i hi => by
        rcases Nat.lt_or_ge i j with a | a
        · exact hno i a
        · have : i = j := by omega
          subst this
          simp [hy])
theorem t_findAt (hd : 3 ≤ d) (hK : pm_sl g k) (hv : SV iv k v) (ho : Hok v) : pm_c X d 45 [.ref k, .int x, .int y] g iv = some (some (.int (fndI v x y)), g, iv) := by
  obtain ⟨d, rfl, hd1⟩ := pm_d1 hd
  have hl := t_findAt_loop (X := X) (x := x) (y := y) hd1 hK hv ho (vN v) 0 (by omega) (fun i hi => absurd hi (Nat.not_lt_zero i))
  rw [nI_0] at hl
  simp only [e45, b45_0 hK, t_isStone hd1 hK hv ho, pm_then_i, pm_then_l, pm_then_v, b45_6, bz_0, bz_n, bz_1, pm_zr0, pm_zr1, pm_zrI, if_true, if_false, not_true, not_false_eq_true, Bool.false_eq_true, true_and, and_true, false_and, and_false, z10, z01, zz0, eq_self, b45_9, b45_11, hl, fndI]
  by_cases hc : ip x (vL v) = true ∧ ip y (vD v) = true ∧ vS v x.toNatClampNeg y.toNatClampNeg = true
  · simp only [if_pos hc, if_neg (not_not_intro hc)]
  · simp only [if_neg hc, if_pos hc]
end S2
