/-! the class's winter: the call -/
def wW (v : HV) (w : Nat) : HV := (v.1, v.2.1, v.2.2.1, w, v.2.2.2.2)
theorem SV_wW {iv : pm_V} {k : Nat} {v : HV} (hv : SV iv k v) : SV (pm_iw iv k 3 (iv k 3 + 1)) k (wW v (vW v + 1)) := by
  have o : ∀ c, c ≠ k → pm_iw iv k 3 (iv k 3 + 1) c = iv c := fun c h => iw_n h
  unfold SV
  rw [o (k + 1) (by omega), o (k + 2) (by omega), o (k + 3) (by omega), o (k + 4) (by omega), o (k + 5) (by omega), o (k + 6) (by omega), iw_s, upd_n (by decide), upd_n (by decide), upd_n (by decide), upd_s, upd_n (by decide)]
  refine ⟨hv.1, hv.2.1, hv.2.2.1, ?_, hv.2.2.2.2⟩
  rw [hv.2.2.2.1, nI_1]
  rfl
section S8
variable {X : pm_X} {d k : Nat} {g : pm_G} {iv : pm_V} {v : HV}
theorem t_rollAll (hd : 5 ≤ d) (hK : pm_sl g k) (hv : SV iv k v) (ho : Hok v) (hs : Dst v (vy v)) : ∃ iv' x', pm_c X d 60 [.ref k] g iv = some (some (.int x'), g, iv') ∧ chg [k, k + 5, k + 7, k + 8, k + 9] iv iv' ∧ SV iv' k (wW (wy v (wnt v (vC v) (vW v) (vy v))) (vW v + 1)) ∧ RB x' (vN v) (vy v) (wnt v (vC v) (vW v) (vy v)) := by
  obtain ⟨d, rfl, hd1⟩ := pm_d1 hd
  have hp : Pok v (vy v) := fun q hq => (ho.2.2.2.2.2 q hq).2.1
  obtain ⟨iv1, T, c1, g1, b1, u1, s1, k1⟩ := t_lineUp (X := X) (d := d) (by omega) hK hv ho
  have hv1 : SV iv1 k (wy v (vy v)) := SV_wy hv (g1 _ (by simp)) (g1 _ (by simp)) (g1 _ (by simp)) (g1 _ (by simp)) (g1 _ (by simp)) (g1 _ (by simp)) (fun h hh => by rw [g1 _ (by simp)]; exact (hv.2.2.2.2.2.2 h hh).2.2.2.1)
  obtain ⟨iv2, pl, x, c2, g2, s2, r2, e2⟩ := t_rollAll_loop (X := X) (d := d) hd1 hK ho hp s1 (vN v) 0 iv1 (vy v) 0 none (by omega) hv1 hp hs k1 b1 u1 (fun _ _ _ => rfl) (fun i hi => by rw [b_0]; simp)
  have e : pl = wnt v (vC v) (vW v) (vy v) := by rw [e2, Srt_oD s1 hp, ← rlD_fold]; rfl
  subst e
  refine ⟨_, x, ?_, chg_tr (chg_tr (chg_mo g1 (by intro c hc; simp at hc; simp; omega)) (chg_mo g2 (by intro c hc; simp at hc; simp; omega))) (chg_iw (by simp)), SV_wW s2, r2⟩
  rw [nI_0] at c2
  simp only [e60]
  rw [b60_0 hK, c1, pm_then_v, b60_4]
  exact c2
end S8
