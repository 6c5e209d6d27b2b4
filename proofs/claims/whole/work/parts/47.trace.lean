/-! the trace, and what the bodies leave in it -/
/-- the class's trace is T -/
def TC (iv : pm_V) (T : List Nat) : Prop := iv 9 1 = nI T.length ∧ ∀ i (_ : i < T.length), iv 10 i = nI (T.getD i 0)
def TM (iv : pm_V) (T : List Nat) : Prop := iv 32 25 = nI T.length ∧ ∀ i (_ : i < T.length), iv 45 i = nI (T.getD i 0)
theorem getD_l {T : List Nat} {b i : Nat} (h : i < T.length) : (T ++ [b]).getD i 0 = T.getD i 0 := by
  rw [List.getD_eq_getElem?_getD, List.getD_eq_getElem?_getD, List.getElem?_append_left h]
theorem getD_r {T : List Nat} {b : Nat} : (T ++ [b]).getD T.length 0 = b := by
  rw [List.getD_eq_getElem?_getD, List.getElem?_append_right (Nat.le_refl _), Nat.sub_self]
  rfl
section Q47
variable {X : pm_X} {d k : Nat} {g : pm_G} {iv : pm_V} {v : HV} {h : Nat} {x y z : Int32} {T : List Nat} {b : Nat}
theorem t_leave (hd : 1 ≤ d) (hL : pm_lay g) (hT : TC iv T) (hl : T.length < 16) : ∃ iv', pm_c X d 13 [.ref 9, .int (nI b)] g iv = some (none, g, iv') ∧ chg [9, 10] iv iv' ∧ TC iv' (T ++ [b]) := by
  obtain ⟨d, rfl, hd1⟩ := pm_d1 hd
  have h1 : ¬ (16 : Int32) ≤ nI T.length := by rw [le_i, toI16, nI_t (by omega)]; omega
  have hin : vp_in (nI T.length) 16 := vp_n hl (by decide)
  refine ⟨pm_iw (pm_iw iv 10 T.length (nI b)) 9 1 (nI (T.length + 1)), ?_, chg_tr (chg_iw (by decide)) (chg_iw (by decide)), ?_, ?_⟩
  · have e : (pm_iw iv 10 T.length (nI b)) 9 1 = nI T.length := by rw [iw_n (by decide), hT.1]
    rw [e13, b13_0 hL, hT.1, if_neg h1, b13_9 hL (by rw [hT.1]; exact hin), hT.1, nI_c (by omega), e, nI_1, b13_29]
  · rw [iw_s, upd_s, List.length_append]
    rfl
  · intro i hi
    rw [List.length_append] at hi
    have hi : i < T.length + 1 := hi
    rw [iw_n (by decide), iw_s]
    by_cases e : i = T.length
    · rw [e, upd_s, getD_r]
    · rw [upd_n e, hT.2 i (by omega), getD_l (by omega)]
/-- only the reference's trace is another -/
def chM (iv iv' : pm_V) : Prop := chg [32, 45] iv iv' ∧ ∀ c, c ≠ 25 → iv' 32 c = iv 32 c
theorem chM_tr {a b c : pm_V} (h : chM a b) (h2 : chM b c) : chM a c := ⟨chg_tr h.1 h2.1, fun i hi => (h2.2 i hi).trans (h.2 i hi)⟩
theorem chM_HAr {a b : pm_V} (h : chM a b) (hv : HAr (a 36) v) : HAr (b 36) v := by rw [h.1 36 (by decide)]; exact hv
theorem m_began (hd : 1 ≤ d) (hL : pm_lay g) (hT : TM iv T) (hl : T.length < 16) : ∃ iv', pm_c X d 194 [.ref 32, .int (nI b)] g iv = some (none, g, iv') ∧ chM iv iv' ∧ TM iv' (T ++ [b]) := by
  obtain ⟨d, rfl, hd1⟩ := pm_d1 hd
  have h1 : ¬ (16 : Int32) ≤ nI T.length := by rw [le_i, toI16, nI_t (by omega)]; omega
  have hin : vp_in (nI T.length) 16 := vp_n hl (by decide)
  refine ⟨pm_iw (pm_iw iv 45 T.length (nI b)) 32 25 (nI (T.length + 1)), ?_, ⟨chg_tr (chg_iw (by decide)) (chg_iw (by decide)), fun c hc => by rw [iw_s, upd_n hc, iw_n (by decide)]⟩, ?_, ?_⟩
  · have e : (pm_iw iv 45 T.length (nI b)) 32 25 = nI T.length := by rw [iw_n (by decide), hT.1]
    rw [e194, b194_0 hL, hT.1, if_neg h1, b194_9 hL (by rw [hT.1]; exact hin), hT.1, nI_c (by omega), e, nI_1, b194_29]
  · rw [iw_s, upd_s, List.length_append]
    rfl
  · intro i hi
    rw [List.length_append] at hi
    have hi : i < T.length + 1 := hi
    rw [iw_n (by decide), iw_s]
    by_cases e : i = T.length
    · rw [e, upd_s, getD_r]
    · rw [upd_n e, hT.2 i (by omega), getD_l (by omega)]
/-- both traces T: the traces agree -/
theorem RX_T (hl : T.length ≤ 16) (h1 : TC iv T) (h2 : TM iv T) : RX iv := ⟨T.length, hl, h1.1, h2.1, fun i hi => by rw [h1.2 i hi, h2.2 i hi]⟩
theorem CO_tr {iv' : pm_V} (h : CO g iv v) (hc : chg [9, 10, 32, 45] iv iv') (h32 : ∀ c, c ≠ 25 → c ≠ 0 → iv' 32 c = iv 32 c) (hx : RX iv') : CO g iv' v := by
  obtain ⟨a1, a2, a3, ⟨a, o, r, b1, b2, b3⟩, a5, ⟨i1, i2, i3⟩, a7, a8⟩ := h
  have q : ∀ c, c ∉ [9, 10, 32, 45] → iv' c = iv c := hc
  have hi : ∀ c, 46 ≤ c → iv' c = iv c := fun c p => q c (by simp only [List.mem_cons, List.not_mem_nil, or_false]; omega)
  refine ⟨RV_fr a1 (fun c x y => q c (by simp only [List.mem_cons, List.not_mem_nil, or_false]; omega)) (q 36 (by decide)), RR_fr a2 (by rw [q 1 (by decide)]) (q 2 (by decide)) (q 3 (by decide)) (q 4 (by decide)) (q 33 (by decide)) (q 34 (by decide)) (q 35 (by decide)),
    RT_fr a3 (by rw [q 5 (by decide)]) (h32 10 (by decide) (by decide)) (q 39 (by decide)) (q 6 (by decide)), ⟨a, o, r, CA_fr b1 (by rw [q 7 (by decide)]) (by rw [q 7 (by decide)]) (q 8 (by decide)), MA_fr b2 (h32 8 (by decide) (by decide)) (q 38 (by decide)), b3⟩, hx,
    ⟨IM_fr i1 (q 43 (by decide)) (q 44 (by decide)) hi, IM_fr i2 (q 43 (by decide)) (q 44 (by decide)) hi, i3⟩, by rw [q 0 (by decide), h32 1 (by decide) (by decide)]; exact a7, by rw [q 5 (by decide), h32 11 (by decide) (by decide)]; exact a8⟩
/-- a body gives r and leaves L in the trace; m bodies deep -/
def GV (X : pm_X) (g : pm_G) (v : HV) (h m b : Nat) (L : List Nat) (r : Int32) : Prop := ∀ d dep iv T, m + 3 ≤ d → dep + m ≤ 9 → SV iv 11 v → TC iv T → T.length + L.length ≤ 16 → ∃ iv', pm_c X d 12 [.ref 9, .ref 11, .int (nI h), .int (nI b), .int (nI dep)] g iv = some (some (.int r), g, iv') ∧ chg [9, 10] iv iv' ∧ TC iv' (T ++ L)
theorem SV_910 {iv' : pm_V} (hv : SV iv 11 v) (hc : chg [9, 10] iv iv') : SV iv' 11 v := SV_fr hv (fun c a b => hc c (by simp only [List.mem_cons, List.not_mem_nil, or_false]; omega))
theorem t_give_in {dep : Nat} (hd : 1 ≤ d) (hL : pm_lay g) (hT : TC iv T) (hl : T.length < 16) (hdep : dep ≤ 8) : ∃ iv', pm_c X (d + 1) 12 [.ref 9, .ref 11, .int (nI h), .int (nI b), .int (nI dep)] g iv = pm_at X d 12 (14, [some (.ref 9), some (.ref 11), some (.int (nI h)), some (.int (nI b)), some (.int (nI dep)), none], [], g, iv') ∧ chg [9, 10] iv iv' ∧ TC iv' (T ++ [b]) := by
  obtain ⟨iv', a1, a2, a3⟩ := t_leave (X := X) (b := b) hd hL hT hl
  refine ⟨iv', ?_, a2, a3⟩
  have h1 : nI dep ≤ (8 : Int32) := by rw [le_i, toI8, nI_t (by omega)]; omega
  simp only [e12, b12_0, h1, if_true, b12_9 hL, a1, pm_then_i, pm_then_l, pm_then_v]
theorem g10 (hL : pm_lay g) (ho : Hok v) (hh : h < vN v) : GV X g v h 1 10 [10] (nI (vH v h)) := by
  intro d dep iv T hd hdep hv hT hl
  obtain ⟨d, rfl, hd1⟩ := pm_d1 (show (d - 1) + 1 ≤ d by omega)
  obtain ⟨iv1, a1, a2, a3⟩ := t_give_in (X := X) (h := h) (b := 10) (dep := dep) (show 1 ≤ d by omega) hL hT (by simp only [List.length_cons, List.length_nil] at hl; omega) (by omega)
  refine ⟨iv1, ?_, a2, a3⟩
  rw [a1, b12_14_c10 (show nI 10 = 10 from rfl), b12_96 (lay_now hL), t_heavyOf (show 2 ≤ d by omega) (lay_now hL) (SV_910 hv a2) ho hh]
  simp only [pm_then_i, pm_then_l, pm_then_v, b12_101]
theorem g20 (hL : pm_lay g) : GV X g v h 1 20 [20] (nI h) := by
  intro d dep iv T hd hdep hv hT hl
  obtain ⟨d, rfl, hd1⟩ := pm_d1 (show (d - 1) + 1 ≤ d by omega)
  obtain ⟨iv1, a1, a2, a3⟩ := t_give_in (X := X) (h := h) (b := 20) (dep := dep) (show 1 ≤ d by omega) hL hT (by simp only [List.length_cons, List.length_nil] at hl; omega) (by omega)
  refine ⟨iv1, ?_, a2, a3⟩
  rw [a1, b12_14_c20 (show nI 20 = 20 from rfl), b12_163]
/-- one body that begins another one, and no more -/
theorem g_one {m b b2 p1 : Nat} {L : List Nat} {r r2 : Int32} {pre : List Value} (hL : pm_lay g) (hg2 : GV X g v h m b2 L r) (hb2 : ∀ d dep iv, pm_at X d 12 (14, [some (.ref 9), some (.ref 11), some (.int (nI h)), some (.int (nI b)), some (.int (nI dep)), none], [], g, iv) = pm_then X d 12 p1 [some (.ref 9), some (.ref 11), some (.int (nI h)), some (.int (nI b)), some (.int (nI dep)), some (.int (nI dep + 1))] pre (pm_c X d 12 [.ref 9, .ref 11, .int (nI h), .int (nI b2), .int (nI dep + 1)] g iv)) (hend : ∀ d dep iv, SV iv 11 v → m + 3 ≤ d → pm_at X d 12 (p1, [some (.ref 9), some (.ref 11), some (.int (nI h)), some (.int (nI b)), some (.int (nI dep)), some (.int (nI dep + 1))], .int r :: pre, g, iv) = some (some (.int r2), g, iv)) : GV X g v h (m + 1) b (b :: L) r2 := by
  intro d dep iv T hd hdep hv hT hl
  rw [List.length_cons] at hl
  obtain ⟨d, rfl, hd1⟩ := pm_d1 (show (d - 1) + 1 ≤ d by omega)
  obtain ⟨iv1, a1, a2, a3⟩ := t_give_in (X := X) (h := h) (b := b) (dep := dep) (show 1 ≤ d by omega) hL hT (by omega) (by omega)
  obtain ⟨iv2, b1, b2, b3⟩ := hg2 d (dep + 1) iv1 (T ++ [b]) (by omega) (by omega) (SV_910 hv a2) a3 (by rw [List.length_append]; simp only [List.length_cons, List.length_nil]; omega)
  refine ⟨iv2, ?_, chg_tr a2 b2, by rw [List.append_assoc] at b3; exact b3⟩
  rw [a1, hb2, nI_1, b1]
  simp only [pm_then_i, pm_then_l, pm_then_v]
  rw [← nI_1]
  exact hend d dep iv2 (SV_910 (SV_910 hv a2) b2) (by omega)
theorem g13 (hL : pm_lay g) (ho : Hok v) (hh : h < vN v) : GV X g v h 2 13 [13, 10] (nI (vH v h) - 100) :=
  g_one (p1 := 146) (pre := []) hL (g10 hL ho hh) (fun d dep iv => by rw [b12_14_c13 (show nI 13 = 13 from rfl), b12_136 hL]; rfl) (fun d dep iv _ _ => by rw [b12_146])
theorem g14 (hL : pm_lay g) (ho : Hok v) (hh : h < vN v) : GV X g v h 3 14 [14, 13, 10] (2 * (nI (vH v h) - 100)) :=
  g_one (p1 := 161) (pre := [.int 2]) hL (g13 hL ho hh) (fun d dep iv => by rw [b12_14_c14 (show nI 14 = 14 from rfl), b12_150 hL]; rfl) (fun d dep iv _ _ => by rw [b12_161])
theorem g21 (hL : pm_lay g) (ho : Hok v) (hh : h < vN v) : GV X g v h 2 21 [21, 20] (nI h + nI (vy v h)) :=
  g_one (p1 := 175) (pre := []) hL (g20 hL) (fun d dep iv => by rw [b12_14_c21 (show nI 21 = 21 from rfl), b12_165 hL]; rfl) (fun d dep iv hv hd => by
    rw [b12_175 (lay_now hL), t_yardOf (show 2 ≤ d by omega) (lay_now hL) hv ho hh]
    simp only [pm_then_i, pm_then_l, pm_then_v, b12_180])
theorem g22 (hL : pm_lay g) (ho : Hok v) (hh : h < vN v) : GV X g v h 3 22 [22, 21, 20] (nI h + nI (vy v h) - 1000) :=
  g_one (p1 := 192) (pre := []) hL (g21 hL ho hh) (fun d dep iv => by rw [b12_14_c22 (show nI 22 = 22 from rfl), b12_182 hL]; rfl) (fun d dep iv _ _ => by rw [b12_192])
theorem g24 (hL : pm_lay g) (ho : Hok v) (hh : h < vN v) : GV X g v h 3 24 [24, 21, 20] (2 * (nI h + nI (vy v h))) :=
  g_one (p1 := 229) (pre := [.int 2]) hL (g21 hL ho hh) (fun d dep iv => by rw [b12_14_c24 (show nI 24 = 24 from rfl), b12_218 hL]; rfl) (fun d dep iv _ _ => by rw [b12_229])
end Q47
