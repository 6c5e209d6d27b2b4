/-! the class lines its houses up: all of them -/
theorem fstF_suc {p : Nat → Bool} {n : Nat} : fstF p (n + 1) < n + 1 ↔ fstF p n < n ∨ p n = true := by
  rw [fstF]
  by_cases a : fstF p n < n
  · rw [if_pos a]; exact ⟨fun _ => Or.inl a, fun _ => by omega⟩
  · rw [if_neg a]
    by_cases b : p n = true
    · rw [if_pos b]; exact ⟨fun _ => Or.inr b, fun _ => by omega⟩
    · rw [if_neg b]
      exact ⟨fun q => by omega, fun q => by rcases q with c | c; exact absurd c a; exact absurd c b⟩
def hsJ (v : HV) (j l i : Nat) : Bool := decide (fstF (fun h => decide (nI (vl v h) = nI l ∧ nI (vy v h) = nI i)) j < j)
theorem hsJ_suc {v : HV} {j l i : Nat} : hsJ v (j + 1) l i = (hsJ v j l i || decide (nI (vl v j) = nI l ∧ nI (vy v j) = nI i)) := by
  unfold hsJ
  rw [Bool.eq_iff_iff, Bool.or_eq_true, decide_eq_true_eq, decide_eq_true_eq, fstF_suc]
section S5
variable {X : pm_X} {d k : Nat} {g : pm_G} {v : HV}
theorem t_lineUp_out (hd : 2 ≤ d) (hK : pm_sl g k) (ho : Hok v) : ∀ m j (iv : pm_V) (T : Nat → Nat) (z2 z3 : Option Value), j + m = vN v → SV iv k v → BG iv k j (vy v) → TUR iv k j T → Srt (vy v) T j → (∀ l, l < 4 → ∀ i, i < 32 → bt (iv (k + 9) l) i = (vS v l i || hsJ v j l i)) →
    ∃ iv' T', pm_at X d 61 (16, [some (.ref k), some (.int (nI j)), z2, z3], [], g, iv) = some (none, g, iv') ∧ chg [k + 7, k + 8, k + 9] iv iv' ∧ BG iv' k (vN v) (vy v) ∧ TUR iv' k (vN v) T' ∧ Srt (vy v) T' (vN v) ∧ TK iv' k v (vy v) := by
  have hN := ho.2.2.1
  have hD := ho.2.1
  have hL := ho.1
  intro m
  induction m with
  | zero =>
    intro j iv T z2 z3 hj hv hb ht hs hk
    have hjn : j = vN v := by omega
    subst hjn
    refine ⟨iv, T, ?_, chg_rf, hb, ht, hs, hk⟩
    rw [b61_16 hK, hv.2.2.1, if_pos (Int32.le_refl _), b61_129]
  | succ m ih =>
    intro j iv T z2 z3 hj hv hb ht hs hk
    have hlt : j < vN v := by omega
    have f := hv.2.2.2.2.2.2 j hlt
    have fo := ho.2.2.2.2.2 j hlt
    have hin : vp_in (nI j) 6 := vp_n (by omega) (by decide)
    have hin2 : vp_in (nI (vl v j)) 4 := vp_n (by omega) (by decide)
    obtain ⟨iv1, hiv1⟩ : ∃ iv1, iv1 = pm_iw (pm_iw iv (k + 7) j (nI (vy v j))) (k + 9) (vl v j) (iv (k + 9) (vl v j) ||| (1 <<< (nI (vy v j) &&& 31))) := ⟨_, rfl⟩
    have c1 : chg [k + 7, k + 9] iv iv1 := by rw [hiv1]; exact chg_tr (chg_iw (by simp)) (chg_iw (by simp))
    have b1 : BG iv1 k (j + 1) (vy v) := by
      intro h hh
      rw [hiv1, iw_n (by omega), iw_s]
      by_cases e : h = j
      · rw [e, upd_s]
      · rw [upd_n e]; exact hb h (by omega)
    have o8 : iv1 (k + 8) = iv (k + 8) := c1 _ (by simp)
    obtain ⟨iv2, q', T', y3, e1, e2, e3, e4, e5⟩ := t_lineUp_in (X := X) (d := d) hd hK hN (j := j) (bg := vy v) (T := T) hlt hs (fun h hh => by have := (ho.2.2.2.2.2 h (by omega)).2.1; omega) j iv1 (Nat.le_refl j) b1 (by rw [hiv1, iw_n (by omega), iw_n (by omega)]; exact hv.2.2.1) (fun t h => by rw [o8]; exact ht t h) (fun t a b => by omega) (fun t a b => by omega)
    have c2 : chg [k + 7, k + 8, k + 9] iv iv2 := chg_tr (chg_mo c1 (by intro c hc; simp at hc; simp; omega)) (chg_mo e2 (by intro c hc; simp at hc; simp; omega))
    have o9 : iv2 (k + 9) = iv1 (k + 9) := e2 _ (by simp)
    have o7 : iv2 (k + 7) = iv1 (k + 7) := e2 _ (by simp)
    have hv2 : SV iv2 k v := SV_wy hv (c2 _ (by simp)) (c2 _ (by simp)) (c2 _ (by simp)) (c2 _ (by simp)) (c2 _ (by simp)) (c2 _ (by simp)) (fun h hh => by rw [c2 _ (by simp)]; exact (hv.2.2.2.2.2.2 h hh).2.2.2.1)
    obtain ⟨iv3, T3, r1, r2, r3⟩ := ih (j + 1) iv2 T' (some (.int (nI (vy v j)))) (some (.int y3)) (by omega) hv2 (fun h hh => by rw [o7]; exact b1 h hh) e3 e5
      (fun l hl i hi => by
        rw [o9, hiv1, iw_s, hsJ_suc]
        by_cases e : l = vl v j
        · subst e
          rw [upd_s, b_or, b_one (by omega) hi, hk _ hl i hi, Bool.or_assoc]
          congr 2
          have q3 := nI_eq (a := vy v j) (b := i) (by omega) (by omega)
          by_cases q2 : i = vy v j
          · simp [q2]
          · have q4 : ¬ nI (vy v j) = nI i := fun q => q2 (q3.mp q).symm
            simp [q2, q4]
        · rw [upd_n e, iw_n (by omega), hk l hl i hi, decide_eq_false (fun q => e ((nI_eq (by omega) (by omega)).mp q.1).symm), Bool.or_false])
    refine ⟨iv3, T3, ?_, chg_tr c2 r2, r3⟩
    have hcj := nI_c (show j < 2147483648 by omega)
    obtain ⟨ivA, hivA⟩ : ∃ ivA, ivA = pm_iw iv (k + 7) j (nI (vy v j)) := ⟨_, rfl⟩
    have oA : ∀ c, c ≠ k + 7 → ivA c = iv c := fun c h => by rw [hivA, iw_n h]
    have hvA : SV ivA k v := SV_wy hv (oA _ (by omega)) (oA _ (by omega)) (oA _ (by omega)) (oA _ (by omega)) (oA _ (by omega)) (oA _ (by omega)) (fun h hh => by rw [oA _ (by omega)]; exact (hv.2.2.2.2.2.2 h hh).2.2.2.1)
    have lA : ivA (k + 4) j = nI (vl v j) := by rw [oA _ (by omega)]; exact f.2.2.1
    have n6 : ¬ (6 : Int32) ≤ nI j := by rw [le_i, toI6, nI_t (by omega)]; omega
    rw [← r1, ← e1, hiv1, b61_16 hK, hv.2.2.1, if_neg (nI_ge hlt (by omega)), b61_24, if_neg n6, b61_30 hK hin, hcj, f.2.2.2.1, ← hivA, lA, t_isLane (by omega) hK hvA ho, if_pos (ip_n fo.1 (by omega)), pm_then_i, b61_54, if_neg (by decide), b61_57 hK hin (by rw [hcj, lA]; exact hin2), b61_74, hcj, lA, nI_c (show vl v j < 2147483648 by omega), oA (k + 9) (by omega)]
end S5
