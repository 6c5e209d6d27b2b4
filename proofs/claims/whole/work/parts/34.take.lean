/-! the class copies a hill, chocks a house -/
section S9
variable {X : pm_X} {d k k2 : Nat} {g : pm_G} {iv : pm_V} {v : HV}
theorem cpy_lt {f f' : Nat → Int32} {n i : Nat} (h : i < n) : va_cpy f f' 0 0 n i = f i := by
  unfold va_cpy
  rw [if_pos (by omega)]
  simp
theorem t_takeFrom (hd : 1 ≤ d) (hK : pm_sl g k) (hK2 : pm_sl g k2) (hne : k + 10 ≤ k2 ∨ k2 + 10 ≤ k) (hv : SV iv k2 v) (ho : Hok v) : ∃ iv', pm_c X d 52 [.ref k, .ref k2] g iv = some (none, g, iv') ∧ chg [k, k + 1, k + 2, k + 3, k + 4, k + 5, k + 6] iv iv' ∧ SV iv' k v := by
  obtain ⟨d, rfl, hd1⟩ := pm_d1 hd
  have hN := ho.2.2.1
  simp only [e52]
  rw [b52_0 hK hK2]
  refine ⟨_, rfl, ?_, ?_⟩
  · intro c hc
    simp only [List.mem_cons, List.not_mem_nil, or_false, not_or] at hc
    obtain ⟨h0, h1, h2, h3, h4, h5, h6⟩ := hc
    simp only [ir_n h0, ir_n h1, ir_n h2, ir_n h3, ir_n h4, ir_n h5, ir_n h6, iw_n h0]
  · unfold SV
    simp (disch := omega) only [iw_n, ir_n, iw_s, ir_s, upd_s, upd_n]
    refine ⟨hv.1, hv.2.1, hv.2.2.1, hv.2.2.2.1, hv.2.2.2.2.1, fun l hl i hi => ?_, fun h hh => ?_⟩
    · rw [cpy_lt hl]; exact hv.2.2.2.2.2.1 l hl i hi
    · rw [cpy_lt (by omega), cpy_lt (by omega), cpy_lt (by omega), cpy_lt (by omega), cpy_lt (by omega)]
      exact hv.2.2.2.2.2.2 h hh
/-- v with house h chocked or not -/
def wC (v : HV) (c : Nat → Bool) : HV := (v.1, v.2.1, v.2.2.1, v.2.2.2.1, c, v.2.2.2.2.2)
theorem t_putChock (hd : 2 ≤ d) (hK : pm_sl g k) (hv : SV iv k v) (ho : Hok v) {h : Nat} (hh : h < vN v) (b : Bool) : ∃ iv', pm_c X d 55 [.ref k, .int (nI h), .int (if b = true then 1 else 0)] g iv = some (none, g, iv') ∧ chg [k] iv iv' ∧ SV iv' k (wC v (fun i => if i = h then b else vC v i)) := by
  obtain ⟨d, rfl, hd1⟩ := pm_d1 hd
  have hN := ho.2.2.1
  have key : ∀ z : Int32, (∀ i, i < 32 → bt z i = (decide (i < vN v) && (if i = h then b else vC v i))) → SV (pm_iw iv k 4 z) k (wC v (fun i => if i = h then b else vC v i)) := by
    intro z hz
    unfold SV
    simp (disch := omega) only [iw_n, iw_s, upd_s, upd_n]
    exact ⟨hv.1, hv.2.1, hv.2.2.1, hv.2.2.2.1, hz, hv.2.2.2.2.2.1, hv.2.2.2.2.2.2⟩
  simp only [e55]
  rw [b55_0 hK, t_isHouse hd1 hK hv ho, if_pos (ip_n hh (by omega)), pm_then_i, b55_5, if_neg (by decide), b55_8]
  cases b with
  | true =>
    refine ⟨pm_iw iv k 4 ((iv k 4) ||| (1 <<< (nI h &&& 31))), ?_, chg_iw (by simp), key _ ?_⟩
    rotate_left
    · intro i hi
      rw [b_or, b_one (by omega) hi, hv.2.2.2.2.1 i hi]
      by_cases e : i = h
      · subst e; simp [hh]
      · simp [e]
    · rw [if_neg (by decide), b55_13 hK, b55_34 hK, b55_37]
  | false =>
    refine ⟨pm_iw iv k 4 ((iv k 4) &&& ((1 <<< (nI h &&& 31)) ^^^ (-1))), ?_, chg_iw (by simp), key _ ?_⟩
    rotate_left
    · intro i hi
      rw [b_and, b_nt _ hi, b_one (by omega) hi, hv.2.2.2.2.1 i hi]
      by_cases e : i = h
      · subst e; simp
      · simp [e]
    · rw [if_pos (by decide), b55_24 hK, b55_34 hK, b55_37]
end S9
