/-! the tape, read in tokens -/
def zrn (T : Nat → Nat) (p : Nat → Bool) (n : Nat) : Nat → Nat → Nat
  | 0, i => i
  | m + 1, i => if i < n ∧ p (T i) = true then zrn T p n m (i + 1) else i
/-- as far as p holds -/
def zru (T : Nat → Nat) (p : Nat → Bool) (n i : Nat) : Nat := zrn T p n (n - i) i
section Z1
variable {T : Nat → Nat} {p : Nat → Bool} {n i : Nat}
theorem zru_y (hi : i < n) (hp : p (T i) = true) : zru T p n i = zru T p n (i + 1) := by
  unfold zru
  rw [show n - i = (n - (i + 1)) + 1 by omega, zrn, if_pos ⟨hi, hp⟩]
theorem zru_n (h : ¬ (i < n ∧ p (T i) = true)) : zru T p n i = i := by
  unfold zru
  cases n - i with
  | zero => rfl
  | succ m => rw [zrn, if_neg h]
theorem zru_all : ∀ m i, i + m = n → i ≤ zru T p n i ∧ zru T p n i ≤ n ∧ (∀ j, i ≤ j → j < zru T p n i → p (T j) = true) ∧ ¬ (zru T p n i < n ∧ p (T (zru T p n i)) = true) := by
  intro m
  induction m with
  | zero =>
    intro i h
    have e : zru T p n i = i := zru_n (fun q => by omega)
    rw [e]
    exact ⟨by omega, by omega, fun j a b => by omega, fun q => by omega⟩
  | succ m ih =>
    intro i h
    by_cases q : p (T i) = true
    · obtain ⟨a, b, c, e⟩ := ih (i + 1) (by omega)
      rw [zru_y (by omega) q]
      refine ⟨by omega, b, fun j x y => ?_, e⟩
      by_cases w : j = i
      · rw [w]; exact q
      · exact c j (by omega) y
    · rw [zru_n (fun w => q w.2)]
      exact ⟨by omega, by omega, fun j a b => by omega, fun w => q w.2⟩
theorem zru_ge (h : i ≤ n) : i ≤ zru T p n i := (zru_all (n - i) i (by omega)).1
theorem zru_le (h : i ≤ n) : zru T p n i ≤ n := (zru_all (n - i) i (by omega)).2.1
theorem zru_in (h : i ≤ n) : ∀ j, i ≤ j → j < zru T p n i → p (T j) = true := (zru_all (n - i) i (by omega)).2.2.1
end Z1
def zB (b : Nat) : Bool := decide (b = 32 ∨ b = 10)
def zL (b : Nat) : Bool := decide (97 ≤ b ∧ b ≤ 122)
def zF (b : Nat) : Bool := decide (48 ≤ b ∧ b ≤ 57)
/-- a token: its sort (0 the end, 1 a name, 2 a number, 3 a sign, 4 another), where it starts and ends -/
abbrev ZT : Type := Nat × Nat × Nat
def ztk (T : Nat → Nat) (n i : Nat) : ZT :=
  if n ≤ zru T zB n i then (0, zru T zB n i, zru T zB n i)
  else if zL (T (zru T zB n i)) = true then (1, zru T zB n i, zru T zL n (zru T zB n i))
  else if zF (T (zru T zB n i)) = true then (if zru T zF n (zru T zB n i) - zru T zB n i ≤ 3 then 2 else 4, zru T zB n i, zru T zF n (zru T zB n i))
  else (if T (zru T zB n i) = 59 then 3 else 4, zru T zB n i, zru T zB n i + 1)
/-- the number that m figures from s on tell -/
def zdv (T : Nat → Nat) (s : Nat) : Nat → Nat
  | 0 => 0
  | m + 1 => zdv T s m * 10 + (T (s + m) - 48)
def zval (T : Nat → Nat) (c : ZT) : Nat := zdv T c.2.1 (c.2.2 - c.2.1)
def znx (T : Nat → Nat) (n : Nat) (c : ZT) : ZT := ztk T n c.2.2
/-- the class's tape holds this text -/
def ZX (T : Nat → Nat) (n : Nat) (iv : pm_V) : Prop := iv 5 1 = nI n ∧ ∀ i, i < n → iv 6 i &&& 255 = nI (T i)
/-- and is at this token -/
def CT (T : Nat → Nat) (iv : pm_V) (c : ZT) : Prop := iv 5 2 = nI c.1 ∧ iv 5 3 = nI c.2.1 ∧ iv 5 4 = nI c.2.2 ∧ (c.1 = 2 → iv 5 5 = nI (zval T c))
theorem ZX_fr {T : Nat → Nat} {n : Nat} {iv iv' : pm_V} (h : ZX T n iv) (h1 : iv' 5 1 = iv 5 1) (h6 : iv' 6 = iv 6) : ZX T n iv' := ⟨by rw [h1]; exact h.1, fun i hi => by rw [h6]; exact h.2 i hi⟩
theorem tI97 : (97 : Int32).toInt = 97 := rfl
theorem tI122 : (122 : Int32).toInt = 122 := rfl
theorem tI48 : (48 : Int32).toInt = 48 := rfl
theorem tI57 : (57 : Int32).toInt = 57 := rfl
section Z2
variable {X : pm_X} {d n i : Nat} {g : pm_G} {iv : pm_V} {T : Nat → Nat} {x : Int32}
theorem t_isBl (hd : 1 ≤ d) : pm_c X d 87 [.int x] g iv = some (some (.int (if x = 32 ∨ x = 10 then 1 else 0)), g, iv) := by
  obtain ⟨d, rfl, -⟩ := pm_d1 hd
  simp only [e87, b87_0, b87_6, b87_12, b87_16, b87_17, pm_zr0, pm_zr1]
  by_cases a : x = 32
  · simp only [a, bz_0, bz_n, bz_1, pm_zr0, pm_zr1, pm_zrI, if_true, if_false, not_true, not_false_eq_true, Bool.false_eq_true, true_and, and_true, false_and, and_false, z10, z01, zz0, eq_self, true_or]
  · by_cases b : x = 10
    · simp only [a, b, bz_0, bz_n, bz_1, pm_zr0, pm_zr1, pm_zrI, if_true, if_false, not_true, not_false_eq_true, Bool.false_eq_true, true_and, and_true, false_and, and_false, z10, z01, zz0, eq_self, or_true]
      split <;> rfl
    · simp only [a, b, bz_0, bz_n, bz_1, pm_zr0, pm_zr1, pm_zrI, if_true, if_false, not_true, not_false_eq_true, Bool.false_eq_true, true_and, and_true, false_and, and_false, z10, z01, zz0, eq_self, or_self]
theorem t_isLe (hd : 1 ≤ d) : pm_c X d 88 [.int x] g iv = some (some (.int (if 97 ≤ x.toInt ∧ x.toInt ≤ 122 then 1 else 0)), g, iv) := by
  obtain ⟨d, rfl, -⟩ := pm_d1 hd
  simp only [e88, b88_0, b88_6, b88_12, b88_16, b88_17, lt_i, tI97, tI122, pm_zr0, pm_zr1]
  (repeat' split) <;> first | rfl | (exfalso; omega)
theorem t_isFi (hd : 1 ≤ d) : pm_c X d 89 [.int x] g iv = some (some (.int (if 48 ≤ x.toInt ∧ x.toInt ≤ 57 then 1 else 0)), g, iv) := by
  obtain ⟨d, rfl, -⟩ := pm_d1 hd
  simp only [e89, b89_0, b89_6, b89_12, b89_16, b89_17, lt_i, tI48, tI57, pm_zr0, pm_zr1]
  (repeat' split) <;> first | rfl | (exfalso; omega)
theorem m_isLe (hd : 1 ≤ d) : pm_c X d 139 [.int x] g iv = some (some (.int (if 97 ≤ x.toInt ∧ x.toInt ≤ 122 then 1 else 0)), g, iv) := by
  obtain ⟨d, rfl, -⟩ := pm_d1 hd
  simp only [e139, b139_0, b139_6, b139_12, b139_16, b139_17, lt_i, tI97, tI122, pm_zr0, pm_zr1]
  (repeat' split) <;> first | rfl | (exfalso; omega)
theorem m_isFi (hd : 1 ≤ d) : pm_c X d 140 [.int x] g iv = some (some (.int (if 48 ≤ x.toInt ∧ x.toInt ≤ 57 then 1 else 0)), g, iv) := by
  obtain ⟨d, rfl, -⟩ := pm_d1 hd
  simp only [e140, b140_0, b140_6, b140_12, b140_16, b140_17, lt_i, tI48, tI57, pm_zr0, pm_zr1]
  (repeat' split) <;> first | rfl | (exfalso; omega)
theorem zL_i {b : Nat} (hb : b < 256) : (97 ≤ (nI b).toInt ∧ (nI b).toInt ≤ 122) ↔ zL b = true := by
  rw [nI_t (by omega), zL, decide_eq_true_eq]; omega
theorem zF_i {b : Nat} (hb : b < 256) : (48 ≤ (nI b).toInt ∧ (nI b).toInt ≤ 57) ↔ zF b = true := by
  rw [nI_t (by omega), zF, decide_eq_true_eq]; omega
theorem zB_i {b : Nat} (hb : b < 256) : (nI b = 32 ∨ nI b = 10) ↔ zB b = true := by
  rw [zB, decide_eq_true_eq, show (32 : Int32) = nI 32 from rfl, show (10 : Int32) = nI 10 from rfl, nI_eq (by omega) (by omega), nI_eq (by omega) (by omega)]
theorem t_byteAt (hd : 1 ≤ d) (hL : pm_lay g) (hx : ZX T n iv) (hn : n ≤ 400) (hi : i < n) : pm_c X d 86 [.ref 5, .int (nI i)] g iv = some (some (.int (nI (T i))), g, iv) := by
  obtain ⟨d, rfl, -⟩ := pm_d1 hd
  rw [e86, b86_0, if_neg (nI_pos (by omega)), b86_4, if_neg (show ¬ (400 : Int32) ≤ nI i by rw [le_i, toI400, nI_t (by omega)]; omega), b86_11 hL (vp_n (by omega) (by decide)), b86_25, nI_c (by omega), hx.2 i hi]
theorem t_skip (hd : 1 ≤ d) (hL : pm_lay g) (hn : n ≤ 400) (hb : ∀ i, i < n → T i < 256) : ∀ m i (iv : pm_V), i + m = n → ZX T n iv → iv 5 3 = nI i → ∃ iv', pm_at X d 83 (8, [some (.ref 5)], [], g, iv) = pm_at X d 83 (46, [some (.ref 5)], [], g, iv') ∧ chg [5] iv iv' ∧ (∀ c, c ≠ 3 → iv' 5 c = iv 5 c) ∧ iv' 5 3 = nI (zru T zB n i) := by
  intro m
  induction m with
  | zero =>
    intro i iv h hx h3
    refine ⟨iv, ?_, chg_rf, fun _ _ => rfl, ?_⟩
    · rw [b83_8 hL, hx.1, h3, if_pos (by rw [nI_le' (by omega) (by omega)]; omega)]
    · rw [zru_n (fun q => by omega), h3]
  | succ m ih =>
    intro i iv h hx h3
    have e1 : ¬ iv 5 1 ≤ iv 5 3 := by rw [hx.1, h3]; exact nI_ge (by omega) (by omega)
    have run : ∀ y, y = pm_at X d 83 (30, [some (.ref 5)], [.int (if zB (T i) = true then 1 else 0)], g, iv) → pm_at X d 83 (8, [some (.ref 5)], [], g, iv) = y := fun y hy => by
      rw [hy, b83_8 hL, if_neg e1, b83_19 hL, h3, t_byteAt hd hL hx hn (by omega), pm_then_i, b83_27, t_isBl hd, pm_then_i]
      simp only [zB_i (hb i (by omega))]
    by_cases q : zB (T i) = true
    · obtain ⟨iv', a1, a2, a3, a4⟩ := ih (i + 1) (pm_iw iv 5 3 (nI (i + 1))) (by omega) (ZX_fr hx (by rw [iw_s, upd_n (by decide)]) (iw_n (by decide))) (by rw [iw_s, upd_s])
      refine ⟨iv', ?_, chg_tr (chg_iw (by decide)) a2, fun c hc => by rw [a3 c hc, iw_s, upd_n hc], by rw [a4, zru_y (by omega) q]⟩
      rw [← a1]
      refine run _ ?_
      rw [if_pos q, b83_30, if_neg (by decide), b83_33 hL, h3, nI_1]
    · refine ⟨iv, ?_, chg_rf, fun _ _ => rfl, by rw [zru_n (fun w => q w.2), h3]⟩
      refine run _ ?_
      rw [if_neg q, b83_30, if_pos rfl]
theorem t_name_l (hd : 1 ≤ d) (hL : pm_lay g) (hn : n ≤ 400) (hb : ∀ i, i < n → T i < 256) : ∀ m i (iv : pm_V), i + m = n → ZX T n iv → iv 5 4 = nI i → ∃ iv', pm_at X d 84 (5, [some (.ref 5)], [], g, iv) = some (none, g, iv') ∧ chg [5] iv iv' ∧ (∀ c, c ≠ 4 → iv' 5 c = iv 5 c) ∧ iv' 5 4 = nI (zru T zL n i) := by
  intro m
  induction m with
  | zero =>
    intro i iv h hx h3
    refine ⟨iv, ?_, chg_rf, fun _ _ => rfl, ?_⟩
    · rw [b84_5 hL, hx.1, h3, if_pos (by rw [nI_le' (by omega) (by omega)]; omega), b84_43]
    · rw [zru_n (fun q => by omega), h3]
  | succ m ih =>
    intro i iv h hx h3
    have e1 : ¬ iv 5 1 ≤ iv 5 4 := by rw [hx.1, h3]; exact nI_ge (by omega) (by omega)
    have run : ∀ y, y = pm_at X d 84 (27, [some (.ref 5)], [.int (if zL (T i) = true then 1 else 0)], g, iv) → pm_at X d 84 (5, [some (.ref 5)], [], g, iv) = y := fun y hy => by
      rw [hy, b84_5 hL, if_neg e1, b84_16 hL, h3, t_byteAt hd hL hx hn (by omega), pm_then_i, b84_24, t_isLe hd, pm_then_i]
      simp only [zL_i (hb i (by omega))]
    by_cases q : zL (T i) = true
    · obtain ⟨iv', a1, a2, a3, a4⟩ := ih (i + 1) (pm_iw iv 5 4 (nI (i + 1))) (by omega) (ZX_fr hx (by rw [iw_s, upd_n (by decide)]) (iw_n (by decide))) (by rw [iw_s, upd_s])
      refine ⟨iv', ?_, chg_tr (chg_iw (by decide)) a2, fun c hc => by rw [a3 c hc, iw_s, upd_n hc], by rw [a4, zru_y (by omega) q]⟩
      rw [← a1]
      refine run _ ?_
      rw [if_pos q, b84_27, if_neg (by decide), b84_30 hL, h3, nI_1]
    · refine ⟨iv, ?_, chg_rf, fun _ _ => rfl, by rw [zru_n (fun w => q w.2), h3]⟩
      refine run _ ?_
      rw [if_neg q, b84_27, if_pos rfl, b84_43]
theorem zdv_lt {s : Nat} : ∀ m, m ≤ 3 → (∀ j, j < m → zF (T (s + j)) = true) → zdv T s m < 10 ^ m := by
  intro m
  induction m with
  | zero => intro _ _; exact Nat.one_pos
  | succ m ih =>
    intro h hf
    have a := ih (by omega) (fun j hj => hf j (by omega))
    have b := hf m (by omega)
    rw [zF, decide_eq_true_eq] at b
    rw [zdv, Nat.pow_succ]
    omega
theorem dig_nI {a b : Nat} (h : 48 ≤ b) : nI a * 10 + nI b - 48 = nI (a * 10 + (b - 48)) := by
  show nI a * nI 10 + nI b - nI 48 = _
  rw [pk_mul, nI_add, pk_sub (by omega)]
  congr 1
  omega
theorem t_num_l (hd : 1 ≤ d) (hL : pm_lay g) (hn : n ≤ 400) (hb : ∀ i, i < n → T i < 256) {s : Nat} : ∀ m i (iv : pm_V), i + m = n → s ≤ i → (∀ j, s ≤ j → j < i → zF (T j) = true) → ZX T n iv → iv 5 3 = nI s → iv 5 4 = nI i → iv 5 5 = nI (zdv T s (min (i - s) 3)) → ∃ iv', pm_at X d 85 (5, [some (.ref 5)], [], g, iv) = pm_at X d 85 (79, [some (.ref 5)], [], g, iv') ∧ chg [5] iv iv' ∧ (∀ c, c ≠ 4 → c ≠ 5 → iv' 5 c = iv 5 c) ∧ iv' 5 4 = nI (zru T zF n i) ∧ iv' 5 5 = nI (zdv T s (min (zru T zF n i - s) 3)) := by
  intro m
  induction m with
  | zero =>
    intro i iv h hs hf hx h3 h4 h5
    have e : zru T zF n i = i := zru_n (fun q => by omega)
    refine ⟨iv, ?_, chg_rf, fun _ _ _ => rfl, by rw [e, h4], by rw [e, h5]⟩
    rw [b85_5 hL, hx.1, h4, if_pos (by rw [nI_le' (by omega) (by omega)]; omega)]
  | succ m ih =>
    intro i iv h hs hf hx h3 h4 h5
    have e1 : ¬ iv 5 1 ≤ iv 5 4 := by rw [hx.1, h4]; exact nI_ge (by omega) (by omega)
    have run : ∀ y, y = pm_at X d 85 (27, [some (.ref 5)], [.int (if zF (T i) = true then 1 else 0)], g, iv) → pm_at X d 85 (5, [some (.ref 5)], [], g, iv) = y := fun y hy => by
      rw [hy, b85_5 hL, if_neg e1, b85_16 hL, h4, t_byteAt hd hL hx hn (by omega), pm_then_i, b85_24, t_isFi hd, pm_then_i]
      simp only [zF_i (hb i (by omega))]
    by_cases q : zF (T i) = true
    · have hf' : ∀ j, s ≤ j → j < i + 1 → zF (T j) = true := fun j a b => by
        by_cases w : j = i
        · rw [w]; exact q
        · exact hf j a (by omega)
      have hq : 48 ≤ T i := by rw [zF, decide_eq_true_eq] at q; exact q.1
      have le3 : (3 : Int32) ≤ iv 5 4 - iv 5 3 ↔ 3 ≤ i - s := by
        rw [h3, h4, pk_sub hs]
        exact nI_le' (i := 3) (j := i - s) (by omega) (by omega)
      by_cases q3 : 3 ≤ i - s
      · obtain ⟨iv', a1, a2, a3, a4, a5⟩ := ih (i + 1) (pm_iw iv 5 4 (nI (i + 1))) (by omega) (by omega) hf' (ZX_fr hx (by rw [iw_s, upd_n (by decide)]) (iw_n (by decide))) (by rw [iw_s, upd_n (by decide), h3]) (by rw [iw_s, upd_s]) (by rw [iw_s, upd_n (by decide), h5, Nat.min_eq_right q3, Nat.min_eq_right (by omega)])
        refine ⟨iv', ?_, chg_tr (chg_iw (by decide)) a2, fun c hc hc5 => by rw [a3 c hc hc5, iw_s, upd_n hc], by rw [a4, zru_y (by omega) q], by rw [a5, zru_y (by omega) q]⟩
        rw [← a1]
        refine run _ ?_
        rw [if_pos q, b85_27, if_neg (by decide), b85_30 hL, if_pos (le3.mpr q3), b85_66 hL, h4, nI_1]
      · have hv : nI (zdv T s (i - s)) * 10 + nI (T i) - 48 = nI (zdv T s (i + 1 - s)) := by
          rw [dig_nI hq, show i + 1 - s = (i - s) + 1 by omega, zdv, show s + (i - s) = i by omega]
        have h5' : iv 5 5 = nI (zdv T s (i - s)) := by rw [h5, Nat.min_eq_left (by omega)]
        obtain ⟨iv', a1, a2, a3, a4, a5⟩ := ih (i + 1) (pm_iw (pm_iw iv 5 5 (nI (zdv T s (i + 1 - s)))) 5 4 (nI (i + 1))) (by omega) (by omega) hf' (ZX_fr hx (by rw [iw_s, upd_n (by decide), iw_s, upd_n (by decide)]) (by rw [iw_n (by decide), iw_n (by decide)])) (by rw [iw_s, upd_n (by decide), iw_s, upd_n (by decide), h3]) (by rw [iw_s, upd_s]) (by rw [iw_s, upd_n (by decide), iw_s, upd_s, Nat.min_eq_left (by omega)])
        refine ⟨iv', ?_, chg_tr (chg_iw (by decide)) (chg_tr (chg_iw (by decide)) a2), fun c hc hc5 => by rw [a3 c hc hc5, iw_s, upd_n hc, iw_s, upd_n hc5], by rw [a4, zru_y (by omega) q], by rw [a5, zru_y (by omega) q]⟩
        rw [← a1]
        refine run _ ?_
        rw [if_pos q, b85_27, if_neg (by decide), b85_30 hL, if_neg (fun w => q3 (le3.mp w)), b85_43 hL, h4, t_byteAt hd hL hx hn (by omega), pm_then_i, b85_59 hL, b85_66 hL, h5', hv, iw_s, upd_n (show 4 ≠ 5 by decide), h4, nI_1]
    · refine ⟨iv, ?_, chg_rf, fun _ _ _ => rfl, by rw [zru_n (fun w => q w.2), h4], by rw [zru_n (fun w => q w.2), h5]⟩
      refine run _ ?_
      rw [if_neg q, b85_27, if_pos rfl]
/-- the class goes to the next token -/
theorem t_stp (hd : 3 ≤ d) (hL : pm_lay g) (hn : n ≤ 400) (hb : ∀ i, i < n → T i < 256) (hx : ZX T n iv) (h4 : iv 5 4 = nI i) (hi : i ≤ n) : ∃ iv', pm_c X d 83 [.ref 5] g iv = some (none, g, iv') ∧ chg [5] iv iv' ∧ (∀ c, c = 1 ∨ c = 6 ∨ c = 7 → iv' 5 c = iv 5 c) ∧ CT T iv' (ztk T n i) := by
  obtain ⟨d, rfl, hd1⟩ := pm_d1 hd
  obtain ⟨d2, rfl, hd2⟩ := pm_d1 hd1
  obtain ⟨iv1, a1, a2, a3, a4⟩ := t_skip (X := X) (d := d2 + 1) (by omega) hL hn hb (n - i) i (pm_iw iv 5 3 (nI i)) (by omega) (ZX_fr hx (by rw [iw_s, upd_n (by decide)]) (iw_n (by decide))) (by rw [iw_s, upd_s])
  have hs : zru T zB n i ≤ n := zru_le hi
  unfold ztk
  generalize hsd : zru T zB n i = s at a4 hs
  have b1 : chg [5] iv (pm_iw iv1 5 4 (nI s)) := chg_tr (chg_iw (by decide)) (chg_tr a2 (chg_iw (by decide)))
  have f5 : ∀ c, c ≠ 3 → c ≠ 4 → (pm_iw iv1 5 4 (nI s)) 5 c = iv 5 c := fun c p q => by rw [iw_s, upd_n q, a3 c p, iw_s, upd_n p]
  have f3 : (pm_iw iv1 5 4 (nI s)) 5 3 = nI s := by rw [iw_s, upd_n (by decide), a4]
  have f4 : (pm_iw iv1 5 4 (nI s)) 5 4 = nI s := by rw [iw_s, upd_s]
  have hx1 : ZX T n (pm_iw iv1 5 4 (nI s)) := ZX_fr hx (f5 1 (by decide) (by decide)) (b1 6 (by decide))
  have run : pm_c X (d2 + 1 + 1) 83 [.ref 5] g iv = if nI s < nI n then pm_at X (d2 + 1) 83 (73, [some (.ref 5)], [], g, pm_iw iv1 5 4 (nI s)) else pm_at X (d2 + 1) 83 (65, [some (.ref 5)], [], g, pm_iw iv1 5 4 (nI s)) := by
    rw [e83, b83_0 hL, h4, a1, b83_46 hL, a4, f3, hx1.1]
  generalize pm_iw iv1 5 4 (nI s) = iv2 at b1 f5 f3 f4 hx1 run
  clear a1 a2 a3 a4 h4
  by_cases q : n ≤ s
  · refine ⟨pm_iw iv2 5 2 0, ?_, chg_tr b1 (chg_iw (by decide)), fun c hc => by rw [iw_s, upd_n (by omega), f5 c (by omega) (by omega)], ?_⟩
    · rw [run, if_neg (by rw [nI_lt' (by omega) (by omega)]; omega), b83_65 hL, b83_147]
    · rw [if_pos q]
      exact ⟨by rw [iw_s, upd_s]; rfl, by rw [iw_s, upd_n (by decide), f3], by rw [iw_s, upd_n (by decide), f4], fun w => by cases w⟩
  · have hsn : s < n := by omega
    have e73 : pm_c X (d2 + 1 + 1) 83 [.ref 5] g iv = pm_at X (d2 + 1) 83 (84, [some (.ref 5)], [.int (if zL (T s) = true then 1 else 0)], g, iv2) := by
      rw [run, if_pos (by rw [nI_lt' (by omega) (by omega)]; omega), b83_73 hL, f3, t_byteAt (by omega) hL hx1 hn hsn, pm_then_i, b83_81, t_isLe (by omega), pm_then_i]
      simp only [zL_i (hb s hsn)]
    rw [if_neg q]
    by_cases qL : zL (T s) = true
    · rw [if_pos qL]
      obtain ⟨iv3, c1, c2, c3, c4⟩ := t_name_l (X := X) (d := d2) (by omega) hL hn hb (n - s) s (pm_iw iv2 5 2 1) (by omega) (ZX_fr hx1 (by rw [iw_s, upd_n (by decide)]) (iw_n (by decide))) (by rw [iw_s, upd_n (by decide), f4])
      refine ⟨iv3, ?_, chg_tr b1 (chg_tr (chg_iw (by decide)) c2), fun c hc => by rw [c3 c (by omega), iw_s, upd_n (by omega), f5 c (by omega) (by omega)], ?_⟩
      · rw [e73, if_pos qL, b83_84, if_neg (by decide), b83_87 hL, e84, b84_0 hL, c1, pm_then_v, b83_91, b83_147]
      · exact ⟨by rw [c3 2 (by decide), iw_s, upd_s]; rfl, by rw [c3 3 (by decide), iw_s, upd_n (by decide), f3], c4, fun w => by cases w⟩
    · rw [if_neg qL]
      have e94 : pm_c X (d2 + 1 + 1) 83 [.ref 5] g iv = pm_at X (d2 + 1) 83 (105, [some (.ref 5)], [.int (if zF (T s) = true then 1 else 0)], g, iv2) := by
        rw [e73, if_neg qL, b83_84, if_pos rfl, b83_94 hL, f3, t_byteAt (by omega) hL hx1 hn hsn, pm_then_i, b83_102, t_isFi (by omega), pm_then_i]
        simp only [zF_i (hb s hsn)]
      by_cases qF : zF (T s) = true
      · rw [if_pos qF]
        obtain ⟨iv3, c1, c2, c3, c4, c5⟩ := t_num_l (X := X) (d := d2) (by omega) hL hn hb (s := s) (n - s) s (pm_iw iv2 5 5 0) (by omega) (Nat.le_refl s) (fun j a b => by omega) (ZX_fr hx1 (by rw [iw_s, upd_n (by decide)]) (iw_n (by decide))) (by rw [iw_s, upd_n (by decide), f3]) (by rw [iw_s, upd_n (by decide), f4]) (by rw [iw_s, upd_s, Nat.sub_self]; rfl)
        have he : s ≤ zru T zF n s := zru_ge (by omega)
        have he2 : zru T zF n s ≤ n := zru_le (by omega)
        have g3 : iv3 5 3 = nI s := by rw [c3 3 (by decide) (by decide), iw_s, upd_n (by decide), f3]
        have le3 : iv3 5 4 - iv3 5 3 ≤ 3 ↔ zru T zF n s - s ≤ 3 := by
          rw [g3, c4, pk_sub he]
          exact nI_le' (i := zru T zF n s - s) (j := 3) (by omega) (by omega)
        have ed : pm_c X (d2 + 1) 85 [.ref 5] g iv2 = some (none, g, pm_iw iv3 5 2 (nI (if zru T zF n s - s ≤ 3 then 2 else 4))) := by
          rw [e85, b85_0 hL, c1, b85_79 hL]
          by_cases w : zru T zF n s - s ≤ 3
          · rw [if_pos (le3.mpr w), b85_97, b85_98 hL, if_pos w]
            rfl
          · rw [if_neg (fun u => w (le3.mp u)), b85_93, b85_98 hL, if_neg w]
            rfl
        refine ⟨pm_iw iv3 5 2 (nI (if zru T zF n s - s ≤ 3 then 2 else 4)), ?_, chg_tr b1 (chg_tr (chg_iw (by decide)) (chg_tr c2 (chg_iw (by decide)))), fun c hc => by rw [iw_s, upd_n (by omega), c3 c (by omega) (by omega), iw_s, upd_n (by omega), f5 c (by omega) (by omega)], ?_⟩
        · rw [e94, if_pos qF, b83_105, if_neg (by decide), b83_108 hL, ed, pm_then_v, b83_112, b83_147]
        · refine ⟨by rw [iw_s, upd_s], by rw [iw_s, upd_n (by decide), g3], by rw [iw_s, upd_n (by decide), c4], fun w => ?_⟩
          have w3 : zru T zF n s - s ≤ 3 := by
            by_cases u : zru T zF n s - s ≤ 3
            · exact u
            · rw [if_neg u] at w; cases w
          rw [iw_s, upd_n (by decide), c5, Nat.min_eq_left w3]
          rfl
      · rw [if_neg qF]
        have e59 : nI (T s) = 59 ↔ T s = 59 := nI_eq (a := T s) (b := 59) (by have := hb s hsn; omega) (by decide)
        refine ⟨pm_iw (pm_iw iv2 5 2 (nI (if T s = 59 then 3 else 4))) 5 4 (nI (s + 1)), ?_, chg_tr b1 (chg_tr (chg_iw (by decide)) (chg_iw (by decide))), fun c hc => by rw [iw_s, upd_n (by omega), iw_s, upd_n (by omega), f5 c (by omega) (by omega)], ?_⟩
        · have h3' : ∀ y : Int32, (pm_iw iv2 5 2 y) 5 3 = nI s := fun y => by rw [iw_s, upd_n (by decide), f3]
          rw [e94, if_neg qF, b83_105, if_pos rfl, b83_115 hL, f3, t_byteAt (by omega) hL hx1 hn hsn, pm_then_i, b83_124]
          by_cases w : T s = 59
          · rw [if_neg (not_not_intro (e59.mpr w)), b83_129, b83_134 hL, b83_147, h3', nI_1, if_pos w]
            rfl
          · rw [if_pos (fun u => w (e59.mp u)), b83_133, b83_134 hL, b83_147, h3', nI_1, if_neg w]
            rfl
        · refine ⟨by rw [iw_s, upd_n (by decide), iw_s, upd_s], by rw [iw_s, upd_n (by decide), iw_s, upd_n (by decide), f3], by rw [iw_s, upd_s], fun w => ?_⟩
          exfalso
          by_cases u : T s = 59
          · rw [if_pos u] at w; cases w
          · rw [if_neg u] at w; cases w
end Z2
