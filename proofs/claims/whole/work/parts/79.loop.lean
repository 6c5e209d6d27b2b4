/-! the law's loop, and the law (printed by wip/whole/gen79.py) -/
section L1
variable {X : pm_X} {g : pm_G} {iv : pm_V} {i : Nat}
def SLo (i : Nat) : List (Option Value) := [some (.ref 1300), some (.ref 0), some (.ref 32), some (.int (nI i))]
/-- a turn of the loop -/
def LT (X : pm_X) (g : pm_G) (iv : pm_V) (i : Nat) : Prop := ∃ g' iv', pm_at X 40 212 (27, SLo i, [], g, iv) = pm_at X 40 212 (1071, SLo i, [], g', iv') ∧ RL g' iv' ∧ Fg g'
theorem ls_row (h : RL g iv) (hF : Fg g) (hX : X.1 < 2147483648) (i0 : vp_in (nI i) X.1) (iK : ∀ w : Nat, w < 6 → vp_in (nI i + nI w) X.1) (hc : X.2 (nI i).toNatClampNeg &&& 31 = 0) : LT X g iv i := by
  have hL := h.1.1
  have hx := h.1.2.1
  obtain ⟨r, g', iv1, iv2, h1, h2, h3, h4⟩ : PRg X 40 g iv 91 133 [.ref 0, .int (X.2 ((nI i + 1)).toNatClampNeg), .int (X.2 ((nI i + 2)).toNatClampNeg), .int (X.2 ((nI i + 3)).toNatClampNeg)] [.ref 32, .int (X.2 ((nI i + 1)).toNatClampNeg), .int (X.2 ((nI i + 2)).toNatClampNeg), .int (X.2 ((nI i + 3)).toNatClampNeg)] := PR_g (q_row (by decide) h) hF
  refine ⟨g', iv2, ?_, h3, h4⟩
  unfold SLo
  rw [b212_27_c0 hx hX i0 hc, b212_164 hL hx hX (iK 1 (by decide)) (iK 2 (by decide)) (iK 3 (by decide)), h1, pm_then_i, b212_183 h3.1.1 h3.1.2.1 hX (iK 1 (by decide)) (iK 2 (by decide)) (iK 3 (by decide)), h2, pm_then_i, b212_202, if_pos rfl]
theorem ls_set (h : RL g iv) (hF : Fg g) (hX : X.1 < 2147483648) (i0 : vp_in (nI i) X.1) (iK : ∀ w : Nat, w < 6 → vp_in (nI i + nI w) X.1) (hc : X.2 (nI i).toNatClampNeg &&& 31 = 1) : LT X g iv i := by
  have hL := h.1.1
  have hx := h.1.2.1
  obtain ⟨r, g', iv1, iv2, h1, h2, h3, h4⟩ : PRg X 40 g iv 92 134 [.ref 0, .int (X.2 ((nI i + 1)).toNatClampNeg), .int (X.2 ((nI i + 2)).toNatClampNeg), .int (X.2 ((nI i + 3)).toNatClampNeg)] [.ref 32, .int (X.2 ((nI i + 1)).toNatClampNeg), .int (X.2 ((nI i + 2)).toNatClampNeg), .int (X.2 ((nI i + 3)).toNatClampNeg)] := PR_g (q_set (by decide) h) hF
  refine ⟨g', iv2, ?_, h3, h4⟩
  unfold SLo
  rw [b212_27_c1 hx hX i0 hc, b212_207 hL hx hX (iK 1 (by decide)) (iK 2 (by decide)) (iK 3 (by decide)), h1, pm_then_i, b212_226 h3.1.1 h3.1.2.1 hX (iK 1 (by decide)) (iK 2 (by decide)) (iK 3 (by decide)), h2, pm_then_i, b212_245, if_pos rfl]
theorem ls_copy (h : RL g iv) (hF : Fg g) (hX : X.1 < 2147483648) (i0 : vp_in (nI i) X.1) (iK : ∀ w : Nat, w < 6 → vp_in (nI i + nI w) X.1) (hc : X.2 (nI i).toNatClampNeg &&& 31 = 2) : LT X g iv i := by
  have hL := h.1.1
  have hx := h.1.2.1
  obtain ⟨r, g', iv1, iv2, h1, h2, h3, h4⟩ : PRg X 40 g iv 93 135 [.ref 0, .int (X.2 ((nI i + 1)).toNatClampNeg), .int (X.2 ((nI i + 2)).toNatClampNeg), .int (X.2 ((nI i + 3)).toNatClampNeg), .int (X.2 ((nI i + 4)).toNatClampNeg), .int (X.2 ((nI i + 5)).toNatClampNeg)] [.ref 32, .int (X.2 ((nI i + 1)).toNatClampNeg), .int (X.2 ((nI i + 2)).toNatClampNeg), .int (X.2 ((nI i + 3)).toNatClampNeg), .int (X.2 ((nI i + 4)).toNatClampNeg), .int (X.2 ((nI i + 5)).toNatClampNeg)] := PR_g (q_copy (by decide) h) hF
  refine ⟨g', iv2, ?_, h3, h4⟩
  unfold SLo
  rw [b212_27_c2 hx hX i0 hc, b212_250 hL hx hX (iK 1 (by decide)) (iK 2 (by decide)) (iK 3 (by decide)) (iK 4 (by decide)) (iK 5 (by decide)), h1, pm_then_i, b212_279 h3.1.1 h3.1.2.1 hX (iK 1 (by decide)) (iK 2 (by decide)) (iK 3 (by decide)) (iK 4 (by decide)) (iK 5 (by decide)), h2, pm_then_i, b212_308, if_pos rfl]
theorem ls_drop (h : RL g iv) (hF : Fg g) (hX : X.1 < 2147483648) (i0 : vp_in (nI i) X.1) (iK : ∀ w : Nat, w < 6 → vp_in (nI i + nI w) X.1) (hc : X.2 (nI i).toNatClampNeg &&& 31 = 3) : LT X g iv i := by
  have hL := h.1.1
  have hx := h.1.2.1
  obtain ⟨r, g', iv1, iv2, h1, h2, h3, h4⟩ : PRg X 40 g iv 94 136 [.ref 0, .int (X.2 ((nI i + 1)).toNatClampNeg)] [.ref 32, .int (X.2 ((nI i + 1)).toNatClampNeg)] := PR_g (q_drop (by decide) h) hF
  refine ⟨g', iv2, ?_, h3, h4⟩
  unfold SLo
  rw [b212_27_c3 hx hX i0 hc, b212_313 hL hx hX (iK 1 (by decide)), h1, pm_then_i, b212_322 h3.1.1 h3.1.2.1 hX (iK 1 (by decide)), h2, pm_then_i, b212_331, if_pos rfl]
theorem ls_feed (h : RL g iv) (hF : Fg g) (hX : X.1 < 2147483648) (i0 : vp_in (nI i) X.1) (iK : ∀ w : Nat, w < 6 → vp_in (nI i + nI w) X.1) (hc : X.2 (nI i).toNatClampNeg &&& 31 = 4) : LT X g iv i := by
  have hL := h.1.1
  have hx := h.1.2.1
  obtain ⟨r, g', iv1, iv2, h1, h2, h3, h4⟩ : PRg X 40 g iv 95 137 [.ref 0, .long ((((X.2 ((nI i + 1)).toNatClampNeg) : Int32).toInt64 <<< ((32 : Int32).toInt64 &&& 63)) ||| (((X.2 ((nI i + 2)).toNatClampNeg) : Int32).toInt64 &&& 4294967295)), .int (X.2 ((nI i + 3)).toNatClampNeg)] [.ref 32, .long ((((X.2 ((nI i + 1)).toNatClampNeg) : Int32).toInt64 <<< ((32 : Int32).toInt64 &&& 63)) ||| (((X.2 ((nI i + 2)).toNatClampNeg) : Int32).toInt64 &&& 4294967295)), .int (X.2 ((nI i + 3)).toNatClampNeg)] := PR_g (q_feed (by decide) h) hF
  refine ⟨g', iv2, ?_, h3, h4⟩
  unfold SLo
  rw [b212_27_c4 hx hX i0 hc, b212_336 hL hx hX (iK 1 (by decide)) (iK 2 (by decide)) (iK 3 (by decide)), h1, pm_then_i, b212_365 h3.1.1 h3.1.2.1 hX (iK 1 (by decide)) (iK 2 (by decide)) (iK 3 (by decide)), h2, pm_then_i, b212_394, if_pos rfl]
theorem ls_hill (h : RL g iv) (hF : Fg g) (hX : X.1 < 2147483648) (i0 : vp_in (nI i) X.1) (iK : ∀ w : Nat, w < 6 → vp_in (nI i + nI w) X.1) (hc : X.2 (nI i).toNatClampNeg &&& 31 = 5) : LT X g iv i := by
  have hL := h.1.1
  have hx := h.1.2.1
  obtain ⟨r, g', iv1, iv2, h1, h2, h3, h4⟩ : PRg X 40 g iv 96 154 [.ref 0] [.ref 32] := PR_g (q_hill (by decide) h) hF
  refine ⟨g', iv2, ?_, h3, h4⟩
  unfold SLo
  rw [b212_27_c5 hx hX i0 hc, b212_399 hL, h1, pm_then_i, b212_403 h3.1.1, h2, pm_then_i, b212_407, if_pos rfl]
theorem ls_fault (h : RL g iv) (hF : Fg g) (hX : X.1 < 2147483648) (i0 : vp_in (nI i) X.1) (iK : ∀ w : Nat, w < 6 → vp_in (nI i + nI w) X.1) (hc : X.2 (nI i).toNatClampNeg &&& 31 = 6) : LT X g iv i := by
  have hL := h.1.1
  have hx := h.1.2.1
  obtain ⟨r, g', iv1, iv2, h1, h2, h3, h4⟩ : PRg X 40 g iv 97 155 [.ref 0] [.ref 32] := PR_g (q_fault (by decide) h) hF
  refine ⟨g', iv2, ?_, h3, h4⟩
  unfold SLo
  rw [b212_27_c6 hx hX i0 hc, b212_412 hL, h1, pm_then_i, b212_416 h3.1.1, h2, pm_then_i, b212_420, if_pos rfl]
theorem ls_winter (h : RL g iv) (hF : Fg g) (hX : X.1 < 2147483648) (i0 : vp_in (nI i) X.1) (iK : ∀ w : Nat, w < 6 → vp_in (nI i + nI w) X.1) (hc : X.2 (nI i).toNatClampNeg &&& 31 = 7) : LT X g iv i := by
  have hL := h.1.1
  have hx := h.1.2.1
  obtain ⟨r, g', iv1, iv2, h1, h2, h3, h4⟩ : PRg X 40 g iv 98 168 [.ref 0] [.ref 32] := PR_g (q_winter (by decide) h) hF
  refine ⟨g', iv2, ?_, h3, h4⟩
  unfold SLo
  rw [b212_27_c7 hx hX i0 hc, b212_425 hL, h1, pm_then_i, b212_429 h3.1.1, h2, pm_then_i, b212_433, if_pos rfl]
theorem ls_haul (h : RL g iv) (hF : Fg g) (hX : X.1 < 2147483648) (i0 : vp_in (nI i) X.1) (iK : ∀ w : Nat, w < 6 → vp_in (nI i + nI w) X.1) (hc : X.2 (nI i).toNatClampNeg &&& 31 = 8) : LT X g iv i := by
  have hL := h.1.1
  have hx := h.1.2.1
  obtain ⟨r, g', iv1, iv2, h1, h2, h3, h4⟩ : PRg X 40 g iv 99 169 [.ref 0, .int (X.2 ((nI i + 1)).toNatClampNeg), .int (X.2 ((nI i + 2)).toNatClampNeg)] [.ref 32, .int (X.2 ((nI i + 1)).toNatClampNeg), .int (X.2 ((nI i + 2)).toNatClampNeg)] := PR_g (q_haul (by decide) h) hF
  refine ⟨g', iv2, ?_, h3, h4⟩
  unfold SLo
  rw [b212_27_c8 hx hX i0 hc, b212_438 hL hx hX (iK 1 (by decide)) (iK 2 (by decide)), h1, pm_then_i, b212_452 h3.1.1 h3.1.2.1 hX (iK 1 (by decide)) (iK 2 (by decide)), h2, pm_then_i, b212_466, if_pos rfl]
theorem ls_chock (h : RL g iv) (hF : Fg g) (hX : X.1 < 2147483648) (i0 : vp_in (nI i) X.1) (iK : ∀ w : Nat, w < 6 → vp_in (nI i + nI w) X.1) (hc : X.2 (nI i).toNatClampNeg &&& 31 = 9) : LT X g iv i := by
  have hL := h.1.1
  have hx := h.1.2.1
  obtain ⟨r, g', iv1, iv2, h1, h2, h3, h4⟩ : PRg X 40 g iv 100 171 [.ref 0, .int (X.2 ((nI i + 1)).toNatClampNeg), .int (X.2 ((nI i + 2)).toNatClampNeg)] [.ref 32, .int (X.2 ((nI i + 1)).toNatClampNeg), .int (X.2 ((nI i + 2)).toNatClampNeg)] := PR_g (q_chock (by decide) h) hF
  refine ⟨g', iv2, ?_, h3, h4⟩
  unfold SLo
  rw [b212_27_c9 hx hX i0 hc, b212_471 hL hx hX (iK 1 (by decide)) (iK 2 (by decide)), h1, pm_then_i, b212_485 h3.1.1 h3.1.2.1 hX (iK 1 (by decide)) (iK 2 (by decide)), h2, pm_then_i, b212_499, if_pos rfl]
theorem ls_chocks (h : RL g iv) (hF : Fg g) (hX : X.1 < 2147483648) (i0 : vp_in (nI i) X.1) (iK : ∀ w : Nat, w < 6 → vp_in (nI i + nI w) X.1) (hc : X.2 (nI i).toNatClampNeg &&& 31 = 10) : LT X g iv i := by
  have hL := h.1.1
  have hx := h.1.2.1
  obtain ⟨r, g', iv1, iv2, h1, h2, h3, h4⟩ : PRg X 40 g iv 101 172 [.ref 0, .int (X.2 ((nI i + 1)).toNatClampNeg), .int (X.2 ((nI i + 2)).toNatClampNeg), .int (X.2 ((nI i + 3)).toNatClampNeg)] [.ref 32, .int (X.2 ((nI i + 1)).toNatClampNeg), .int (X.2 ((nI i + 2)).toNatClampNeg), .int (X.2 ((nI i + 3)).toNatClampNeg)] := PR_g (q_chocks (by decide) h) hF
  refine ⟨g', iv2, ?_, h3, h4⟩
  unfold SLo
  rw [b212_27_c10 hx hX i0 hc, b212_504 hL hx hX (iK 1 (by decide)) (iK 2 (by decide)) (iK 3 (by decide)), h1, pm_then_i, b212_523 h3.1.1 h3.1.2.1 hX (iK 1 (by decide)) (iK 2 (by decide)) (iK 3 (by decide)), h2, pm_then_i, b212_542, if_pos rfl]
theorem ls_undo (h : RL g iv) (hF : Fg g) (hX : X.1 < 2147483648) (i0 : vp_in (nI i) X.1) (iK : ∀ w : Nat, w < 6 → vp_in (nI i + nI w) X.1) (hc : X.2 (nI i).toNatClampNeg &&& 31 = 11) : LT X g iv i := by
  have hL := h.1.1
  have hx := h.1.2.1
  obtain ⟨r, g', iv1, iv2, h1, h2, h3, h4⟩ : PRg X 40 g iv 102 173 [.ref 0] [.ref 32] := PR_g (q_undo (by decide) h) hF
  refine ⟨g', iv2, ?_, h3, h4⟩
  unfold SLo
  rw [b212_27_c11 hx hX i0 hc, b212_547 hL, h1, pm_then_i, b212_551 h3.1.1, h2, pm_then_i, b212_555, if_pos rfl]
theorem ls_house (h : RL g iv) (hF : Fg g) (hX : X.1 < 2147483648) (i0 : vp_in (nI i) X.1) (iK : ∀ w : Nat, w < 6 → vp_in (nI i + nI w) X.1) (hc : X.2 (nI i).toNatClampNeg &&& 31 = 12) : LT X g iv i := by
  have hL := h.1.1
  have hx := h.1.2.1
  obtain ⟨r, g', iv1, iv2, h1, h2, h3, h4⟩ : PRg X 40 g iv 103 175 [.ref 0, .int (X.2 ((nI i + 1)).toNatClampNeg), .int (X.2 ((nI i + 2)).toNatClampNeg)] [.ref 32, .int (X.2 ((nI i + 1)).toNatClampNeg), .int (X.2 ((nI i + 2)).toNatClampNeg)] := PR_g (q_house (by decide) h) hF
  refine ⟨g', iv2, ?_, h3, h4⟩
  unfold SLo
  rw [b212_27_c12 hx hX i0 hc, b212_560 hL hx hX (iK 1 (by decide)) (iK 2 (by decide)), h1, pm_then_i, b212_574 h3.1.1 h3.1.2.1 hX (iK 1 (by decide)) (iK 2 (by decide)), h2, pm_then_i, b212_588, if_pos rfl]
theorem ls_yard (h : RL g iv) (hF : Fg g) (hX : X.1 < 2147483648) (i0 : vp_in (nI i) X.1) (iK : ∀ w : Nat, w < 6 → vp_in (nI i + nI w) X.1) (hc : X.2 (nI i).toNatClampNeg &&& 31 = 13) : LT X g iv i := by
  have hL := h.1.1
  have hx := h.1.2.1
  obtain ⟨r, g', iv1, iv2, h1, h2, h3, h4⟩ : PRg X 40 g iv 104 176 [.ref 0, .int (X.2 ((nI i + 1)).toNatClampNeg), .int (X.2 ((nI i + 2)).toNatClampNeg)] [.ref 32, .int (X.2 ((nI i + 1)).toNatClampNeg), .int (X.2 ((nI i + 2)).toNatClampNeg)] := PR_g (q_yard (by decide) h) hF
  refine ⟨g', iv2, ?_, h3, h4⟩
  unfold SLo
  rw [b212_27_c13 hx hX i0 hc, b212_593 hL hx hX (iK 1 (by decide)) (iK 2 (by decide)), h1, pm_then_i, b212_607 h3.1.1 h3.1.2.1 hX (iK 1 (by decide)) (iK 2 (by decide)), h2, pm_then_i, b212_621, if_pos rfl]
theorem ls_ahead (h : RL g iv) (hF : Fg g) (hX : X.1 < 2147483648) (i0 : vp_in (nI i) X.1) (iK : ∀ w : Nat, w < 6 → vp_in (nI i + nI w) X.1) (hc : X.2 (nI i).toNatClampNeg &&& 31 = 14) : LT X g iv i := by
  have hL := h.1.1
  have hx := h.1.2.1
  obtain ⟨r, g', iv1, iv2, h1, h2, h3, h4⟩ : PRg X 40 g iv 105 178 [.ref 0, .int (X.2 ((nI i + 1)).toNatClampNeg), .int (X.2 ((nI i + 2)).toNatClampNeg), .int (X.2 ((nI i + 3)).toNatClampNeg)] [.ref 32, .int (X.2 ((nI i + 1)).toNatClampNeg), .int (X.2 ((nI i + 2)).toNatClampNeg), .int (X.2 ((nI i + 3)).toNatClampNeg)] := PR_g (q_ahead (by decide) h) hF
  refine ⟨g', iv2, ?_, h3, h4⟩
  unfold SLo
  rw [b212_27_c14 hx hX i0 hc, b212_626 hL hx hX (iK 1 (by decide)) (iK 2 (by decide)) (iK 3 (by decide)), h1, pm_then_i, b212_645 h3.1.1 h3.1.2.1 hX (iK 1 (by decide)) (iK 2 (by decide)) (iK 3 (by decide)), h2, pm_then_i, b212_664, if_pos rfl]
theorem ls_stream (h : RL g iv) (hF : Fg g) (hX : X.1 < 2147483648) (i0 : vp_in (nI i) X.1) (iK : ∀ w : Nat, w < 6 → vp_in (nI i + nI w) X.1) (hc : X.2 (nI i).toNatClampNeg &&& 31 = 15) : LT X g iv i := by
  have hL := h.1.1
  have hx := h.1.2.1
  obtain ⟨r, g', iv1, iv2, h1, h2, h3, h4⟩ : PRg X 40 g iv 106 179 [.ref 0, .int (X.2 ((nI i + 1)).toNatClampNeg)] [.ref 32, .int (X.2 ((nI i + 1)).toNatClampNeg)] := PR_g (q_stream (by decide) h) hF
  refine ⟨g', iv2, ?_, h3, h4⟩
  unfold SLo
  rw [b212_27_c15 hx hX i0 hc, b212_669 hL hx hX (iK 1 (by decide)), h1, pm_then_i, b212_678 h3.1.1 h3.1.2.1 hX (iK 1 (by decide)), h2, pm_then_i, b212_687, if_pos rfl]
theorem ls_beside (h : RL g iv) (hF : Fg g) (hX : X.1 < 2147483648) (i0 : vp_in (nI i) X.1) (iK : ∀ w : Nat, w < 6 → vp_in (nI i + nI w) X.1) (hc : X.2 (nI i).toNatClampNeg &&& 31 = 16) : LT X g iv i := by
  have hL := h.1.1
  have hx := h.1.2.1
  obtain ⟨r, g', iv1, iv2, h1, h2, h3, h4⟩ : PRg X 40 g iv 107 181 [.ref 0, .int (X.2 ((nI i + 1)).toNatClampNeg), .int (X.2 ((nI i + 2)).toNatClampNeg), .int (X.2 ((nI i + 3)).toNatClampNeg)] [.ref 32, .int (X.2 ((nI i + 1)).toNatClampNeg), .int (X.2 ((nI i + 2)).toNatClampNeg), .int (X.2 ((nI i + 3)).toNatClampNeg)] := PR_g (q_beside (by decide) h) hF
  refine ⟨g', iv2, ?_, h3, h4⟩
  unfold SLo
  rw [b212_27_c16 hx hX i0 hc, b212_692 hL hx hX (iK 1 (by decide)) (iK 2 (by decide)) (iK 3 (by decide)), h1, pm_then_i, b212_711 h3.1.1 h3.1.2.1 hX (iK 1 (by decide)) (iK 2 (by decide)) (iK 3 (by decide)), h2, pm_then_i, b212_730, if_pos rfl]
theorem ls_meet (h : RL g iv) (hF : Fg g) (hX : X.1 < 2147483648) (i0 : vp_in (nI i) X.1) (iK : ∀ w : Nat, w < 6 → vp_in (nI i + nI w) X.1) (hc : X.2 (nI i).toNatClampNeg &&& 31 = 17) : LT X g iv i := by
  have hL := h.1.1
  have hx := h.1.2.1
  obtain ⟨r, g', iv1, iv2, h1, h2, h3, h4⟩ : PRg X 40 g iv 108 183 [.ref 0, .int (X.2 ((nI i + 1)).toNatClampNeg), .int (X.2 ((nI i + 2)).toNatClampNeg), .int (X.2 ((nI i + 3)).toNatClampNeg), .int (X.2 ((nI i + 4)).toNatClampNeg)] [.ref 32, .int (X.2 ((nI i + 1)).toNatClampNeg), .int (X.2 ((nI i + 2)).toNatClampNeg), .int (X.2 ((nI i + 3)).toNatClampNeg), .int (X.2 ((nI i + 4)).toNatClampNeg)] := PR_g (q_meet (by decide) h) hF
  refine ⟨g', iv2, ?_, h3, h4⟩
  unfold SLo
  rw [b212_27_c17 hx hX i0 hc, b212_735 hL hx hX (iK 1 (by decide)) (iK 2 (by decide)) (iK 3 (by decide)) (iK 4 (by decide)), h1, pm_then_i, b212_759 h3.1.1 h3.1.2.1 hX (iK 1 (by decide)) (iK 2 (by decide)) (iK 3 (by decide)) (iK 4 (by decide)), h2, pm_then_i, b212_783, if_pos rfl]
theorem ls_street (h : RL g iv) (hF : Fg g) (hX : X.1 < 2147483648) (i0 : vp_in (nI i) X.1) (iK : ∀ w : Nat, w < 6 → vp_in (nI i + nI w) X.1) (hc : X.2 (nI i).toNatClampNeg &&& 31 = 18) : LT X g iv i := by
  have hL := h.1.1
  have hx := h.1.2.1
  obtain ⟨r, g', iv1, iv2, h1, h2, h3, h4⟩ : PRg X 40 g iv 109 184 [.ref 0, .int (X.2 ((nI i + 1)).toNatClampNeg)] [.ref 32, .int (X.2 ((nI i + 1)).toNatClampNeg)] := PR_g (q_street (by decide) h) hF
  refine ⟨g', iv2, ?_, h3, h4⟩
  unfold SLo
  rw [b212_27_c18 hx hX i0 hc, b212_788 hL hx hX (iK 1 (by decide)), h1, pm_then_i, b212_797 h3.1.1 h3.1.2.1 hX (iK 1 (by decide)), h2, pm_then_i, b212_806, if_pos rfl]
theorem ls_stood (h : RL g iv) (hF : Fg g) (hX : X.1 < 2147483648) (i0 : vp_in (nI i) X.1) (iK : ∀ w : Nat, w < 6 → vp_in (nI i + nI w) X.1) (hc : X.2 (nI i).toNatClampNeg &&& 31 = 19) : LT X g iv i := by
  have hL := h.1.1
  have hx := h.1.2.1
  obtain ⟨r, g', iv1, iv2, h1, h2, h3, h4⟩ : PRg X 40 g iv 110 186 [.ref 0, .int (X.2 ((nI i + 1)).toNatClampNeg), .int (X.2 ((nI i + 2)).toNatClampNeg), .int (X.2 ((nI i + 3)).toNatClampNeg)] [.ref 32, .int (X.2 ((nI i + 1)).toNatClampNeg), .int (X.2 ((nI i + 2)).toNatClampNeg), .int (X.2 ((nI i + 3)).toNatClampNeg)] := PR_g (q_stood (by decide) h) hF
  refine ⟨g', iv2, ?_, h3, h4⟩
  unfold SLo
  rw [b212_27_c19 hx hX i0 hc, b212_811 hL hx hX (iK 1 (by decide)) (iK 2 (by decide)) (iK 3 (by decide)), h1, pm_then_i, b212_830 h3.1.1 h3.1.2.1 hX (iK 1 (by decide)) (iK 2 (by decide)) (iK 3 (by decide)), h2, pm_then_i, b212_849, if_pos rfl]
theorem ls_stolen (h : RL g iv) (hF : Fg g) (hX : X.1 < 2147483648) (i0 : vp_in (nI i) X.1) (iK : ∀ w : Nat, w < 6 → vp_in (nI i + nI w) X.1) (hc : X.2 (nI i).toNatClampNeg &&& 31 = 20) : LT X g iv i := by
  have hL := h.1.1
  have hx := h.1.2.1
  obtain ⟨r, g', iv1, iv2, h1, h2, h3, h4⟩ : PRg X 40 g iv 111 187 [.ref 0, .int (X.2 ((nI i + 1)).toNatClampNeg)] [.ref 32, .int (X.2 ((nI i + 1)).toNatClampNeg)] := PR_g (q_stolen (by decide) h) hF
  refine ⟨g', iv2, ?_, h3, h4⟩
  unfold SLo
  rw [b212_27_c20 hx hX i0 hc, b212_854 hL hx hX (iK 1 (by decide)), h1, pm_then_i, b212_863 h3.1.1 h3.1.2.1 hX (iK 1 (by decide)), h2, pm_then_i, b212_872, if_pos rfl]
theorem ls_image (h : RL g iv) (hF : Fg g) (hX : X.1 < 2147483648) (i0 : vp_in (nI i) X.1) (iK : ∀ w : Nat, w < 6 → vp_in (nI i + nI w) X.1) (hc : X.2 (nI i).toNatClampNeg &&& 31 = 21) : LT X g iv i := by
  have hL := h.1.1
  have hx := h.1.2.1
  obtain ⟨r, g', iv1, iv2, h1, h2, h3, h4⟩ : PRg X 40 g iv 112 189 [.ref 0, .int (X.2 ((nI i + 1)).toNatClampNeg)] [.ref 32, .int (X.2 ((nI i + 1)).toNatClampNeg)] := q_image (by decide) h hF
  refine ⟨g', iv2, ?_, h3, h4⟩
  unfold SLo
  rw [b212_27_c21 hx hX i0 hc, b212_877 hL hx hX (iK 1 (by decide)), h1, pm_then_i, b212_886 h3.1.1 h3.1.2.1 hX (iK 1 (by decide)), h2, pm_then_i, b212_895, if_pos rfl]
theorem ls_restore (h : RL g iv) (hF : Fg g) (hX : X.1 < 2147483648) (i0 : vp_in (nI i) X.1) (iK : ∀ w : Nat, w < 6 → vp_in (nI i + nI w) X.1) (hc : X.2 (nI i).toNatClampNeg &&& 31 = 22) : LT X g iv i := by
  have hL := h.1.1
  have hx := h.1.2.1
  obtain ⟨r, g', iv1, iv2, h1, h2, h3, h4⟩ : PRg X 40 g iv 113 190 [.ref 0, .int (X.2 ((nI i + 1)).toNatClampNeg)] [.ref 32, .int (X.2 ((nI i + 1)).toNatClampNeg)] := PR_g (q_restore (by decide) h) hF
  refine ⟨g', iv2, ?_, h3, h4⟩
  unfold SLo
  rw [b212_27_c22 hx hX i0 hc, b212_900 hL hx hX (iK 1 (by decide)), h1, pm_then_i, b212_909 h3.1.1 h3.1.2.1 hX (iK 1 (by decide)), h2, pm_then_i, b212_918, if_pos rfl]
theorem ls_kind (h : RL g iv) (hF : Fg g) (hX : X.1 < 2147483648) (i0 : vp_in (nI i) X.1) (iK : ∀ w : Nat, w < 6 → vp_in (nI i + nI w) X.1) (hc : X.2 (nI i).toNatClampNeg &&& 31 = 23) : LT X g iv i := by
  have hL := h.1.1
  have hx := h.1.2.1
  obtain ⟨r, g', iv1, iv2, h1, h2, h3, h4⟩ : PRg X 40 g iv 114 192 [.ref 0, .int (X.2 ((nI i + 1)).toNatClampNeg)] [.ref 32, .int (X.2 ((nI i + 1)).toNatClampNeg)] := PR_g (q_kind (by decide) h) hF
  refine ⟨g', iv2, ?_, h3, h4⟩
  unfold SLo
  rw [b212_27_c23 hx hX i0 hc, b212_923 hL hx hX (iK 1 (by decide)), h1, pm_then_i, b212_932 h3.1.1 h3.1.2.1 hX (iK 1 (by decide)), h2, pm_then_i, b212_941, if_pos rfl]
theorem ls_as (h : RL g iv) (hF : Fg g) (hX : X.1 < 2147483648) (i0 : vp_in (nI i) X.1) (iK : ∀ w : Nat, w < 6 → vp_in (nI i + nI w) X.1) (hc : X.2 (nI i).toNatClampNeg &&& 31 = 24) : LT X g iv i := by
  have hL := h.1.1
  have hx := h.1.2.1
  obtain ⟨r, g', iv1, iv2, h1, h2, h3, h4⟩ : PRg X 40 g iv 115 193 [.ref 0, .int (X.2 ((nI i + 1)).toNatClampNeg), .int (X.2 ((nI i + 2)).toNatClampNeg)] [.ref 32, .int (X.2 ((nI i + 1)).toNatClampNeg), .int (X.2 ((nI i + 2)).toNatClampNeg)] := PR_g (q_as (by decide) h) hF
  refine ⟨g', iv2, ?_, h3, h4⟩
  unfold SLo
  rw [b212_27_c24 hx hX i0 hc, b212_946 hL hx hX (iK 1 (by decide)) (iK 2 (by decide)), h1, pm_then_i, b212_960 h3.1.1 h3.1.2.1 hX (iK 1 (by decide)) (iK 2 (by decide)), h2, pm_then_i, b212_974, if_pos rfl]
theorem ls_ask (h : RL g iv) (hF : Fg g) (hX : X.1 < 2147483648) (i0 : vp_in (nI i) X.1) (iK : ∀ w : Nat, w < 6 → vp_in (nI i + nI w) X.1) (hc : X.2 (nI i).toNatClampNeg &&& 31 = 25) : LT X g iv i := by
  have hL := h.1.1
  have hx := h.1.2.1
  obtain ⟨r, g', iv1, iv2, h1, h2, h3, h4⟩ : PRg X 40 g iv 116 199 [.ref 0, .int (X.2 ((nI i + 1)).toNatClampNeg), .int (X.2 ((nI i + 2)).toNatClampNeg)] [.ref 32, .int (X.2 ((nI i + 1)).toNatClampNeg), .int (X.2 ((nI i + 2)).toNatClampNeg)] := PR_g (q_ask (by decide) h) hF
  refine ⟨g', iv2, ?_, h3, h4⟩
  unfold SLo
  rw [b212_27_c25 hx hX i0 hc, b212_979 hL hx hX (iK 1 (by decide)) (iK 2 (by decide)), h1, pm_then_i, b212_993 h3.1.1 h3.1.2.1 hX (iK 1 (by decide)) (iK 2 (by decide)), h2, pm_then_i, b212_1007, if_pos rfl]
theorem ls_trace (h : RL g iv) (hF : Fg g) (hX : X.1 < 2147483648) (i0 : vp_in (nI i) X.1) (iK : ∀ w : Nat, w < 6 → vp_in (nI i + nI w) X.1) (hc : X.2 (nI i).toNatClampNeg &&& 31 = 26) : LT X g iv i := by
  have hL := h.1.1
  have hx := h.1.2.1
  obtain ⟨r, g', iv1, iv2, h1, h2, h3, h4⟩ : PRg X 40 g iv 117 200 [.ref 0, .int (X.2 ((nI i + 1)).toNatClampNeg)] [.ref 32, .int (X.2 ((nI i + 1)).toNatClampNeg)] := PR_g (q_trace (by decide) h) hF
  refine ⟨g', iv2, ?_, h3, h4⟩
  unfold SLo
  rw [b212_27_c26 hx hX i0 hc, b212_1012 hL hx hX (iK 1 (by decide)), h1, pm_then_i, b212_1021 h3.1.1 h3.1.2.1 hX (iK 1 (by decide)), h2, pm_then_i, b212_1030, if_pos rfl]
theorem ls_count (h : RL g iv) (hF : Fg g) (hX : X.1 < 2147483648) (i0 : vp_in (nI i) X.1) (iK : ∀ w : Nat, w < 6 → vp_in (nI i + nI w) X.1) (hc : X.2 (nI i).toNatClampNeg &&& 31 = 27) : LT X g iv i := by
  have hL := h.1.1
  have hx := h.1.2.1
  obtain ⟨r, g', iv1, iv2, h1, h2, h3, h4⟩ : PRg X 40 g iv 118 201 [.ref 0, .int (X.2 ((nI i + 1)).toNatClampNeg)] [.ref 32, .int (X.2 ((nI i + 1)).toNatClampNeg)] := PR_g (q_count (by decide) h) hF
  refine ⟨g', iv2, ?_, h3, h4⟩
  unfold SLo
  rw [b212_27_c27 hx hX i0 hc, b212_1035 hL hx hX (iK 1 (by decide)), h1, pm_then_i, b212_1044 h3.1.1 h3.1.2.1 hX (iK 1 (by decide)), h2, pm_then_i, b212_1053, if_pos rfl]
theorem ls_status (h : RL g iv) (hF : Fg g) (hX : X.1 < 2147483648) (i0 : vp_in (nI i) X.1) (iK : ∀ w : Nat, w < 6 → vp_in (nI i + nI w) X.1) (hc : X.2 (nI i).toNatClampNeg &&& 31 = 28) : LT X g iv i := by
  have hL := h.1.1
  have hx := h.1.2.1
  obtain ⟨r, g', iv1, iv2, h1, h2, h3, h4⟩ : PRg X 40 g iv 119 202 [.ref 0] [.ref 32] := PR_g (q_status (by decide) h) hF
  refine ⟨g', iv2, ?_, h3, h4⟩
  unfold SLo
  rw [b212_27_c28 hx hX i0 hc, b212_1058 hL, h1, pm_then_i, b212_1062 h3.1.1, h2, pm_then_i, b212_1066, if_pos rfl]
end L1
theorem law_turn {X : pm_X} {g : pm_G} {iv : pm_V} {i : Nat} (h : RL g iv) (hF : Fg g) (hX : X.1 ≤ 3072) (hi : i + 6 ≤ X.1) : LT X g iv i := by
  have hX2 : X.1 < 2147483648 := by omega
  have i0 : vp_in (nI i) X.1 := vp_n (by omega) hX2
  have iK : ∀ w : Nat, w < 6 → vp_in (nI i + nI w) X.1 := fun w hw => by rw [nI_add]; exact vp_n (by omega) hX2
  obtain ⟨q, hq, hc⟩ := pk_andE (X.2 (nI i).toNatClampNeg) (m := 31) 5 (by decide)
  have hq : q < 32 := hq
  rcases (show q = 0 ∨ q = 1 ∨ q = 2 ∨ q = 3 ∨ q = 4 ∨ q = 5 ∨ q = 6 ∨ q = 7 ∨ q = 8 ∨ q = 9 ∨ q = 10 ∨ q = 11 ∨ q = 12 ∨ q = 13 ∨ q = 14 ∨ q = 15 ∨ q = 16 ∨ q = 17 ∨ q = 18 ∨ q = 19 ∨ q = 20 ∨ q = 21 ∨ q = 22 ∨ q = 23 ∨ q = 24 ∨ q = 25 ∨ q = 26 ∨ q = 27 ∨ q = 28 ∨ 28 < q by omega) with rfl | rfl | rfl | rfl | rfl | rfl | rfl | rfl | rfl | rfl | rfl | rfl | rfl | rfl | rfl | rfl | rfl | rfl | rfl | rfl | rfl | rfl | rfl | rfl | rfl | rfl | rfl | rfl | rfl | w
  · exact ls_row h hF hX2 i0 iK hc
  · exact ls_set h hF hX2 i0 iK hc
  · exact ls_copy h hF hX2 i0 iK hc
  · exact ls_drop h hF hX2 i0 iK hc
  · exact ls_feed h hF hX2 i0 iK hc
  · exact ls_hill h hF hX2 i0 iK hc
  · exact ls_fault h hF hX2 i0 iK hc
  · exact ls_winter h hF hX2 i0 iK hc
  · exact ls_haul h hF hX2 i0 iK hc
  · exact ls_chock h hF hX2 i0 iK hc
  · exact ls_chocks h hF hX2 i0 iK hc
  · exact ls_undo h hF hX2 i0 iK hc
  · exact ls_house h hF hX2 i0 iK hc
  · exact ls_yard h hF hX2 i0 iK hc
  · exact ls_ahead h hF hX2 i0 iK hc
  · exact ls_stream h hF hX2 i0 iK hc
  · exact ls_beside h hF hX2 i0 iK hc
  · exact ls_meet h hF hX2 i0 iK hc
  · exact ls_street h hF hX2 i0 iK hc
  · exact ls_stood h hF hX2 i0 iK hc
  · exact ls_stolen h hF hX2 i0 iK hc
  · exact ls_image h hF hX2 i0 iK hc
  · exact ls_restore h hF hX2 i0 iK hc
  · exact ls_kind h hF hX2 i0 iK hc
  · exact ls_as h hF hX2 i0 iK hc
  · exact ls_ask h hF hX2 i0 iK hc
  · exact ls_trace h hF hX2 i0 iK hc
  · exact ls_count h hF hX2 i0 iK hc
  · exact ls_status h hF hX2 i0 iK hc
  · refine ⟨g, iv, ?_, h, hF⟩
    unfold SLo
    rw [b212_27_df h.1.2.1 hX2 i0 (Or.inr (by rw [hc, nI_t (by omega)]; omega))]
theorem law_loop {X : pm_X} (hX : X.1 ≤ 3072) : ∀ m i (g : pm_G) (iv : pm_V), X.1 ≤ i + m → i ≤ 4000 → RL g iv → Fg g → ∃ g' iv', pm_at X 40 212 (18, SLo i, [], g, iv) = some (some (.int 1), g', iv') ∧ RG g' := by
  have hX2 : X.1 < 2147483648 := by omega
  have e6 : (Int32.ofNat X.1 - 6).toInt = (X.1 : Int) - 6 := pk_sub_toInt (a := X.1) (b := 6) (by omega) (by omega)
  intro m
  induction m with
  | zero =>
    intro i g iv hm hi h hF
    refine ⟨g, iv, ?_, h.1⟩
    unfold SLo
    rw [b212_18 h.1.2.1 hX2, if_pos (by rw [lt_i, e6, nI_t (by omega)]; omega), b212_1077]
  | succ m ih =>
    intro i g iv hm hi h hF
    by_cases q : i + 6 ≤ X.1
    · obtain ⟨g', iv', a1, a2, a3⟩ := law_turn h hF hX q
      obtain ⟨g2, iv2, b1, b2⟩ := ih (i + 6) g' iv' (by omega) (by omega) a2 a3
      refine ⟨g2, iv2, ?_, b2⟩
      rw [← b1]
      unfold SLo at a1 ⊢
      rw [b212_18 h.1.2.1 hX2, if_neg (by rw [lt_i, e6, nI_t (by omega)]; omega), a1, b212_1071]
      show pm_at X 40 212 (18, [some (.ref 1300), some (.ref 0), some (.ref 32), some (.int (nI i + nI 6))], [], g', iv') = _
      rw [nI_add]
    · refine ⟨g, iv, ?_, h.1⟩
      unfold SLo
      rw [b212_18 h.1.2.1 hX2, if_pos (by rw [lt_i, e6, nI_t (by omega)]; omega), b212_1077]
/-- THE LAW in the small machine -/
theorem pm_law (X : pm_X) (hL : X.1 ≤ 3072) : ∃ g' iv', pm_at X 40 212 (0, [some (.ref 1300), none, none, none], [], (fun _ => none, fun _ _ => none, 0, 0, 0), fun _ _ => 0) = some (some (.int 1), g', iv') ∧ g'.2.2.2.1 ≤ 600000 ∧ g'.2.2.2.2 ≤ 7302250 := by
  obtain ⟨g', iv', a1, a2⟩ := law_loop hL (X.1) 0 gS iS (by omega) (by omega) S_RL gS_f
  have im : imN g' ≤ 2 := by
    unfold imN
    (repeat' split) <;> omega
  obtain ⟨r1, r2, r3⟩ := a2.2.2
  refine ⟨g', iv', ?_, by omega, by omega⟩
  rw [← a1]
  refine (at_newT (N1 := 1) (c1 := 1) (s1 := 8) dc212_0 mc212 lc7_7 rfl (by decide) rfl rfl rfl).trans ?_
  refine (at_dup dc212_3 rfl).trans ?_
  refine (at_isp (as := []) dc212_4 mc212 lm7_9 rfl rfl (Nat.le_of_ble_eq_true rfl)).trans ?_
  rw [show kx (fun _ => none) 0 (5, 0) = kS1 from rfl, show rx (fun _ _ => none) 0 = rS1 from rfl, ir_0, i90 (by decide) kS1_0 kS1_f, pm_then_v, V90_0]
  refine (at_astore_n dc212_7 rfl).trans ?_
  refine (at_newT (N1 := 33) (c1 := 33) (s1 := 1413) dc212_8 mc212 lc7_10 (by rw [K90_n (by decide)]; exact kS1_f 32 (by decide)) (by decide) rfl rfl rfl).trans ?_
  refine (at_dup dc212_11 rfl).trans ?_
  refine (at_isp (as := []) dc212_12 mc212 lm7_12 rfl rfl (Nat.le_of_ble_eq_true rfl)).trans ?_
  rw [show kx (K90 kS1) 32 (6, 0) = kS2 from rfl, show rx (R90 rS1) 32 = rS2 from rfl, ir_0, i129 (by decide) kS2_32 (by decide) kS2_f (by decide), pm_then_v]
  refine (at_astore_n dc212_15 rfl).trans ?_
  refine (at_iconst (v := 0) dc212_16 rfl).trans ?_
  refine (at_istore_n dc212_17 rfl).trans ?_
  rfl
