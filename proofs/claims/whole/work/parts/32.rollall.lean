/-! the class's winter -/
theorem rl1_o {v : HV} {pl : Nat → Nat} {h q : Nat} (e : q ≠ h) : rl1 v pl h q = pl q := by
  unfold rl1
  split
  · exact np_n e
  · rfl
theorem go2_o {v : HV} {pl : Nat → Nat} {h q : Nat} (e : q ≠ h) : go2 v pl h q = pl q := by
  unfold go2
  split
  · rw [rl1_o e, rl1_o e]
  · rw [rl1_o e]
theorem rlH_go2 {v : HV} {he : Nat → Bool} {bg : Nat → Nat} {w h : Nat} {pl : Nat → Nat} : rlH v he bg w pl h = if may v he bg w h = true then go2 v pl h else pl := rfl
/-- which houses stand elsewhere, as bits -/
def RB (x : Int32) (n : Nat) (bg pl : Nat → Nat) : Prop := ∀ i, i < 32 → bt x i = (decide (i < n) && !decide (pl i = bg i))
section S7
variable {X : pm_X} {d k : Nat} {g : pm_G} {v : HV} {bg T : Nat → Nat}
theorem t_rollAll_loop (hd : 4 ≤ d) (hK : pm_sl g k) (ho : Hok v) (hkb : Pok v bg) (hT : Srt bg T (vN v)) : ∀ m t (iv : pm_V) (pl : Nat → Nat) (x1 : Int32) (z3 : Option Value), t + m = vN v → SV iv k (wy v pl) → Pok v pl → Dst v pl → TK iv k v pl → BG iv k (vN v) bg → TUR iv k (vN v) T → (∀ s, t ≤ s → s < vN v → pl (T s) = bg (T s)) → RB x1 (vN v) bg pl →
    ∃ iv' pl' x1', pm_at X d 60 (8, [some (.ref k), some (.int x1), some (.int (nI t)), z3], [], g, iv) = some (some (.int x1'), g, pm_iw iv' k 3 (iv' k 3 + 1)) ∧ chg [k + 5, k + 9] iv iv' ∧ SV iv' k (wy v pl') ∧ RB x1' (vN v) bg pl' ∧ pl' = (tuL T m t).foldl (rlH v (vC v) bg (vW v)) pl := by
  have hN := ho.2.2.1
  intro m
  induction m with
  | zero =>
    intro t iv pl x1 z3 ht hv hp hs hk hb hu hun hr
    have e : t = vN v := by omega
    subst e
    refine ⟨iv, pl, x1, ?_, chg_rf, hv, hr, rfl⟩
    rw [b60_8 hK, show iv k 2 = nI (vN v) from hv.2.2.1, if_pos (Int32.le_refl _), b60_57 hK]
  | succ m ih =>
    intro t iv pl x1 z3 ht hv hp hs hk hb hu hun hr
    have hlt : t < vN v := by omega
    have hin : vp_in (nI t) 6 := vp_n (by omega) (by decide)
    have how : Hok (wy v pl) := Hok_wy ho hp
    have hh : T t < vN v := hT.2.1 t hlt
    have e2 : iv k 2 = nI (vN v) := hv.2.2.1
    have n6 : ¬ (6 : Int32) ≤ nI t := by rw [le_i, toI6, nI_t (by omega)]; omega
    have mr : pm_c X d 63 [.ref k, .int (nI (T t))] g iv = some (some (.int (if may v (vC v) bg (vW v) (T t) = true then 1 else 0)), g, iv) := t_mayRoll hd hK hv how hb hkb hh
    have oth : ∀ s, t + 1 ≤ s → s < vN v → T s ≠ T t := fun s a b e => by have := hT.1 t s (by omega) b; rw [e] at this; exact tlt_irr _ this
    rw [b60_8 hK, e2, if_neg (nI_ge hlt (by omega)), b60_16, if_neg n6, b60_22 hK hin, nI_c (by omega), hu t hlt, mr, pm_then_i, b60_34]
    by_cases q : may v (vC v) bg (vW v) (T t) = true
    · obtain ⟨iv1, c1, g1, s1, t1⟩ := t_roll (X := X) (d := d) (by omega) hK hv how hk hs hh
      have er : rlH v (vC v) bg (vW v) pl (T t) = go2 v pl (T t) := if_pos q
      have c1' : pm_c X d 65 [.ref k, .int (nI (T t))] g iv = some (some (.int (if go2 v pl (T t) (T t) = pl (T t) then 0 else 1)), g, iv1) := c1
      have o7 : iv1 (k + 7) = iv (k + 7) := g1 _ (by simp)
      have o8 : iv1 (k + 8) = iv (k + 8) := g1 _ (by simp)
      have hun2 : ∀ s, t + 1 ≤ s → s < vN v → go2 v pl (T t) (T s) = bg (T s) := fun s a b => by rw [go2_o (oth s a b)]; exact hun s (by omega) b
      have hp2 : Pok v (go2 v pl (T t)) := by
        have := Pok_rlH (v := v) (he := vC v) (bg := bg) (w := vW v) (T t) hp
        rw [er] at this; exact this
      have hpt := hun t (Nat.le_refl t) hlt
      rw [if_pos q, if_neg (by decide), b60_37 hK, c1', pm_then_i, b60_42]
      by_cases r : go2 v pl (T t) (T t) = pl (T t)
      · obtain ⟨iv', pl', x1', r1, r2, r3⟩ := ih (t + 1) iv1 (go2 v pl (T t)) x1 (some (.int (nI (T t)))) (by omega) s1 hp2 (Dst_go2 ho hp hh hs) t1 (fun h a => by rw [o7]; exact hb h a) (fun h a => by rw [o8]; exact hu h a) hun2
          (fun i hi => by
            rw [hr i hi]
            by_cases e : i = T t
            · rw [e, r]
            · rw [go2_o e])
        refine ⟨iv', pl', x1', ?_, chg_tr g1 r2, r3.1, r3.2.1, by rw [r3.2.2, tuL, List.foldl_cons, er]⟩
        rw [if_pos r, if_pos rfl, b60_51, nI_1]
        exact r1
      · obtain ⟨iv', pl', x1', r1, r2, r3⟩ := ih (t + 1) iv1 (go2 v pl (T t)) (x1 ||| (1 <<< (nI (T t) &&& 31))) (some (.int (nI (T t)))) (by omega) s1 hp2 (Dst_go2 ho hp hh hs) t1 (fun h a => by rw [o7]; exact hb h a) (fun h a => by rw [o8]; exact hu h a) hun2
          (fun i hi => by
            rw [b_or, b_one (by omega) hi, hr i hi]
            by_cases e : i = T t
            · subst e
              rw [hpt] at r
              simp [hh, r]
            · rw [go2_o e]; simp [e])
        refine ⟨iv', pl', x1', ?_, chg_tr g1 r2, r3.1, r3.2.1, by rw [r3.2.2, tuL, List.foldl_cons, er]⟩
        rw [if_neg r, if_neg (by decide), b60_45, b60_51, nI_1]
        exact r1
    · have er : rlH v (vC v) bg (vW v) pl (T t) = pl := if_neg q
      obtain ⟨iv', pl', x1', r1, r2, r3⟩ := ih (t + 1) iv pl x1 (some (.int (nI (T t)))) (by omega) hv hp hs hk hb hu (fun s a b => hun s (by omega) b) hr
      refine ⟨iv', pl', x1', ?_, r2, r3.1, r3.2.1, by rw [r3.2.2, tuL, List.foldl_cons, er]⟩
      rw [if_neg q, if_pos rfl, b60_51, nI_1]
      exact r1
end S7
