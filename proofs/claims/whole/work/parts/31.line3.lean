/-! the class lines up: the call -/
section S6
variable {X : pm_X} {d k : Nat} {g : pm_G} {iv : pm_V} {v : HV}
theorem t_lineUp (hd : 3 ≤ d) (hK : pm_sl g k) (hv : SV iv k v) (ho : Hok v) : ∃ iv' T', pm_c X d 61 [.ref k] g iv = some (none, g, iv') ∧ chg [k + 7, k + 8, k + 9] iv iv' ∧ BG iv' k (vN v) (vy v) ∧ TUR iv' k (vN v) T' ∧ Srt (vy v) T' (vN v) ∧ TK iv' k v (vy v) := by
  obtain ⟨d, rfl, hd1⟩ := pm_d1 hd
  have hz : ∀ {P : Nat → Prop} (t : Nat), t < 0 → P t := fun t h => absurd h (Nat.not_lt_zero t)
  have c1 : chg [k + 9] iv (pm_ir iv (k + 9) (va_cpy (iv (k + 1)) (iv (k + 9)) 0 0 4)) := chg_ir (by simp)
  have hv1 : SV (pm_ir iv (k + 9) (va_cpy (iv (k + 1)) (iv (k + 9)) 0 0 4)) k v := SV_wy hv (c1 _ (by simp)) (c1 _ (by simp)) (c1 _ (by simp)) (c1 _ (by simp)) (c1 _ (by simp)) (c1 _ (by simp)) (fun h hh => by rw [c1 _ (by simp)]; exact (hv.2.2.2.2.2.2 h hh).2.2.2.1)
  obtain ⟨iv2, T, e1, e2, e3⟩ := t_lineUp_out (X := X) (d := d) hd1 hK ho (vN v) 0 _ (fun _ => 0) none none (by omega) hv1 (fun t h => absurd h (Nat.not_lt_zero t)) (fun t h => absurd h (Nat.not_lt_zero t)) ⟨fun s t _ h => absurd h (Nat.not_lt_zero t), fun t h => absurd h (Nat.not_lt_zero t), fun t h => absurd h (Nat.not_lt_zero t)⟩
    (fun l hl i hi => by
      rw [ir_s, show hsJ v 0 l i = false from rfl, Bool.or_false, ← hv.2.2.2.2.2.1 l hl i hi]
      unfold va_cpy
      rw [if_pos (by omega)]
      simp)
  refine ⟨iv2, T, ?_, chg_tr (chg_mo c1 (by intro c hc; simp at hc; simp [hc])) e2, e3⟩
  rw [nI_0] at e1
  simp only [e61]
  rw [b61_0 hK]
  exact e1
end S6
