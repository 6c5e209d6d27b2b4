/-! ask, trace, as -/
/-- the body of a kind: its size's, its mark's -/
def bdF (w k : Nat) : Nat := if w = 0 then (if k = 1 then 13 else if k = 2 then 14 else if k = 3 then 11 else if k = 4 then 12 else 11) else (if k = 1 then 23 else if k = 2 then 23 else if k = 3 then 21 else if k = 4 then 24 else 22)
section Q48
variable {X : pm_X} {d k : Nat} {g : pm_G} {iv : pm_V} {v : HV} {h : Nat} {x y z : Int32} {T : List Nat} {b : Nat}
theorem t_parent (hd : 2 ≤ d) (hg : pm_xg g) {j : Nat} (hj : j < 6) : pm_c X d 7 [.int (nI j)] g iv = some (some (.int (pm_tX1200 j)), g, iv) := by
  obtain ⟨d, rfl, hd1⟩ := pm_d1 hd
  have hin : vp_in (nI j) 6 := vp_n hj (by decide)
  have hp : ip (nI j) 6 = true := ip_n hj (by omega)
  simp only [e7, b7_0, t_ip (n := 5) (show 1 ≤ d by omega) toI5, hp, pm_then_i, pm_then_l, pm_then_v, bz_0, bz_n, bz_1, pm_zr0, pm_zr1, pm_zrI, if_true, if_false, not_true, not_false_eq_true, Bool.false_eq_true, true_and, and_true, false_and, and_false, z10, z01, zz0, eq_self, b7_5, b7_8 hg hin, nI_c (show j < 2147483648 by omega), b7_17]
/-- what is told for a kind itself -/
def bdT (w k : Nat) : Int32 := if w = 0 then pm_tX1201 k else pm_tX1202 k
theorem t_bf_told (hd : 1 ≤ d) (hg : pm_xg g) {j u w : Nat} (hj : j < 6) (hu : u < 6) (hw : w < 2) {z4 : Option Value} : pm_at X d 8 (4, [some (.int x), some (.int (nI w)), some (.int (nI j)), some (.int (nI u)), z4], [], g, iv) = pm_at X d 8 (41, [some (.int x), some (.int (nI w)), some (.int (nI j)), some (.int (nI u)), z4], [.int (bdT w j)], g, iv) := by
  have hin : vp_in (nI j) 6 := vp_n hj (by decide)
  have hp : ip (nI j) 6 = true := ip_n hj (by omega)
  have h1 : ¬ (Int32.ofNat 6) ≤ nI u := nI_ge (show u < 6 from hu) (by omega)
  have ew : nI w = 0 ↔ w = 0 := nI_eq (a := w) (b := 0) (by omega) (by omega)
  simp only [b8_4 hg, h1, b8_12, t_ip (n := 5) hd toI5, hp, pm_then_i, pm_then_l, pm_then_v, bz_0, bz_n, bz_1, pm_zr0, pm_zr1, pm_zrI, if_true, if_false, not_true, not_false_eq_true, Bool.false_eq_true, true_and, and_true, false_and, and_false, z10, z01, zz0, eq_self, b8_17, b8_20, ew, b8_24 hg hin, b8_32 hg hin, nI_c (show j < 2147483648 by omega), bdT]
  by_cases q : w = 0
  · simp only [q, bz_0, bz_n, bz_1, pm_zr0, pm_zr1, pm_zrI, if_true, if_false, not_true, not_false_eq_true, Bool.false_eq_true, true_and, and_true, false_and, and_false, z10, z01, zz0, eq_self]
  · simp only [q, bz_0, bz_n, bz_1, pm_zr0, pm_zr1, pm_zrI, if_true, if_false, not_true, not_false_eq_true, Bool.false_eq_true, true_and, and_true, false_and, and_false, z10, z01, zz0, eq_self]
theorem t_bf_hit {j u w : Nat} {z4 : Option Value} {t : Int32} (ht : ¬ t = 0) : pm_at X d 8 (41, [some (.int x), some (.int (nI w)), some (.int (nI j)), some (.int (nI u)), z4], [.int t], g, iv) = some (some (.int t), g, iv) := by
  simp only [b8_41, ht, if_false, b8_48]
theorem t_bf_up (hd : 2 ≤ d) (hg : pm_xg g) {j u w p : Nat} (hj : j < 6) {z4 : Option Value} (hp : pm_tX1200 j = nI p) : pm_at X d 8 (41, [some (.int x), some (.int (nI w)), some (.int (nI j)), some (.int (nI u)), z4], [.int 0], g, iv) = pm_at X d 8 (4, [some (.int x), some (.int (nI w)), some (.int (nI p)), some (.int (nI (u + 1))), some (.int 0)], [], g, iv) := by
  simp only [b8_41, if_true, b8_51, t_parent hd hg hj, hp, pm_then_i, pm_then_l, pm_then_v, b8_55, nI_1]
theorem t_bodyFor (hd : 3 ≤ d) (hg : pm_xg g) {j w : Nat} (hj : j < 6) (hj1 : 1 ≤ j) (hw : w < 2) : pm_c X d 8 [.int (nI j), .int (nI w)] g iv = some (some (.int (nI (bdF w j))), g, iv) := by
  obtain ⟨d, rfl, hd1⟩ := pm_d1 hd
  have s := t_bf_told (X := X) (iv := iv) (x := nI j) (z4 := none) (show 1 ≤ d by omega) hg hj (show 0 < 6 by omega) hw
  rw [nI_0] at s
  rw [e8, b8_0, s]
  have hc : (j = 2 ∧ w = 1) ∨ (j = 5 ∧ w = 0) ∨ (bdT w j = nI (bdF w j) ∧ ¬ nI (bdF w j) = 0) := by
    have ej : j = 1 ∨ j = 2 ∨ j = 3 ∨ j = 4 ∨ j = 5 := by omega
    have ew : w = 0 ∨ w = 1 := by omega
    rcases ej with rfl | rfl | rfl | rfl | rfl <;> rcases ew with rfl | rfl <;> first | exact Or.inl ⟨rfl, rfl⟩ | exact Or.inr (Or.inl ⟨rfl, rfl⟩) | exact Or.inr (Or.inr ⟨by decide, by decide⟩)
  rcases hc with ⟨rfl, rfl⟩ | ⟨rfl, rfl⟩ | ⟨q1, q2⟩
  · have e1 : bdT 1 2 = 0 := by decide
    have u := t_bf_up (X := X) (d := d) (g := g) (iv := iv) (x := nI 2) (j := 2) (u := 0) (w := 1) (p := 1) (z4 := none) (by omega) hg (by omega) (by decide)
    have s2 := t_bf_told (X := X) (d := d) (iv := iv) (x := nI 2) (j := 1) (u := 1) (w := 1) (z4 := some (.int 0)) (by omega) hg (by omega) (by omega) (by omega)
    rw [nI_0] at u
    rw [e1, u, s2, show bdT 1 1 = nI 23 by decide, t_bf_hit (by decide)]
    rfl
  · have e1 : bdT 0 5 = 0 := by decide
    have u := t_bf_up (X := X) (d := d) (g := g) (iv := iv) (x := nI 5) (j := 5) (u := 0) (w := 0) (p := 3) (z4 := none) (by omega) hg (by omega) (by decide)
    have s2 := t_bf_told (X := X) (d := d) (iv := iv) (x := nI 5) (j := 3) (u := 1) (w := 0) (z4 := some (.int 0)) (by omega) hg (by omega) (by omega) (by omega)
    rw [nI_0] at u
    rw [nI_0] at s2
    rw [nI_0, e1, u, s2, show bdT 0 3 = nI 11 by decide]
    have hh := t_bf_hit (X := X) (d := d) (g := g) (iv := iv) (x := nI 5) (j := 3) (u := 1) (w := 0) (z4 := some (.int 0)) (t := nI 11) (by decide)
    rw [nI_0] at hh
    rw [hh]
    rfl
  · have hh := t_bf_hit (X := X) (d := d) (g := g) (iv := iv) (x := nI j) (j := j) (u := 0) (w := w) (z4 := none) (t := nI (bdF w j)) q2
    rw [nI_0] at hh
    rw [q1, hh]
/-- asked anew -/
theorem t_askAnew {m w : Nat} {L : List Nat} {r : Int32} (hL : pm_lay g) (hg : pm_xg g) (ho : Hok v) (hk : 1 ≤ vK v h) (hh : h < vN v) (hw : w < 2) (hG : GV X g v h m (bdF w (vK v h)) L r) {dep : Nat} (hd : m + 4 ≤ d) (hdep : dep + m ≤ 9) (hv : SV iv 11 v) (hT : TC iv T) (hl : T.length + L.length ≤ 16) : ∃ iv', pm_c X d 11 [.ref 9, .ref 11, .int (nI h), .int (nI w), .int (nI dep)] g iv = some (some (.int r), g, iv') ∧ chg [9, 10] iv iv' ∧ TC iv' (T ++ L) := by
  obtain ⟨d, rfl, hd1⟩ := pm_d1 (show (d - 1) + 1 ≤ d by omega)
  have hb := ho.2.2.2.2.2 h hh
  obtain ⟨iv1, a1, a2, a3⟩ := hG d dep iv T (by omega) hdep hv hT hl
  refine ⟨iv1, ?_, a2, a3⟩
  simp only [e11, b11_0 (lay_now hL), t_kindOf (show 2 ≤ d by omega) (lay_now hL) hv ho hh, pm_then_i, pm_then_l, pm_then_v, b11_8, t_bodyFor (show 3 ≤ d by omega) hg hb.2.2.1 hk hw, b11_12 hL, a1, b11_17]
theorem GV_eq {m b b' : Nat} {L : List Nat} {r : Int32} (h1 : GV X g v h m b L r) (e : b = b') : GV X g v h m b' L r := e ▸ h1
/-- a body that begins a plain one, and asks anew -/
theorem g_two {m b b2 w p1 p2 : Nat} {L : List Nat} {r r1 r2 : Int32} (hL : pm_lay g) (hgx : pm_xg g) (ho : Hok v) (hk : 1 ≤ vK v h) (hh : h < vN v) (hw : w < 2) (hg1 : GV X g v h 1 b2 [b2] r1) (hg2 : GV X g v h m (bdF w (vK v h)) L r) (hm : 1 ≤ m) (hb2 : ∀ d dep iv, pm_at X d 12 (14, [some (.ref 9), some (.ref 11), some (.int (nI h)), some (.int (nI b)), some (.int (nI dep)), none], [], g, iv) = pm_then X d 12 p1 [some (.ref 9), some (.ref 11), some (.int (nI h)), some (.int (nI b)), some (.int (nI dep)), some (.int (nI dep + 1))] [] (pm_c X d 12 [.ref 9, .ref 11, .int (nI h), .int (nI b2), .int (nI dep + 1)] g iv)) (hmid : ∀ d dep iv, pm_at X d 12 (p1, [some (.ref 9), some (.ref 11), some (.int (nI h)), some (.int (nI b)), some (.int (nI dep)), some (.int (nI dep + 1))], [.int r1], g, iv) = pm_then X d 12 p2 [some (.ref 9), some (.ref 11), some (.int (nI h)), some (.int (nI b)), some (.int (nI dep)), some (.int (nI dep + 1))] [.int r1] (pm_c X d 11 [.ref 9, .ref 11, .int (nI h), .int (nI w), .int (nI dep + 1)] g iv)) (hend : ∀ d dep iv, pm_at X d 12 (p2, [some (.ref 9), some (.ref 11), some (.int (nI h)), some (.int (nI b)), some (.int (nI dep)), some (.int (nI dep + 1))], [.int r, .int r1], g, iv) = some (some (.int r2), g, iv)) : GV X g v h (m + 2) b (b :: b2 :: L) r2 := by
  intro d dep iv T hd hdep hv hT hl
  rw [List.length_cons, List.length_cons] at hl
  obtain ⟨d, rfl, hd1⟩ := pm_d1 (show (d - 1) + 1 ≤ d by omega)
  obtain ⟨iv1, a1, a2, a3⟩ := t_give_in (X := X) (h := h) (b := b) (dep := dep) (show 1 ≤ d by omega) hL hT (by omega) (by omega)
  have hv1 := SV_910 hv a2
  obtain ⟨iv2, b1, b22, b3⟩ := hg1 d (dep + 1) iv1 (T ++ [b]) (by omega) (by omega) hv1 a3 (by simp only [List.length_append, List.length_cons, List.length_nil]; omega)
  have hv2 := SV_910 hv1 b22
  obtain ⟨iv3, c1, c2, c3⟩ := t_askAnew (X := X) (d := d) (dep := dep + 1) hL hgx ho hk hh hw hg2 (by omega) (by omega) hv2 b3 (by simp only [List.length_append, List.length_cons, List.length_nil]; omega)
  refine ⟨iv3, ?_, chg_tr a2 (chg_tr b22 c2), by rw [List.append_assoc, List.append_assoc] at c3; exact c3⟩
  rw [a1, hb2, nI_1, b1]
  simp only [pm_then_i, pm_then_l, pm_then_v]
  rw [← nI_1, hmid, nI_1, c1]
  simp only [pm_then_i, pm_then_l, pm_then_v]
  rw [← nI_1]
  exact hend d dep iv3
theorem g11 {m : Nat} {L : List Nat} {r : Int32} (hL : pm_lay g) (hgx : pm_xg g) (ho : Hok v) (hk : 1 ≤ vK v h) (hh : h < vN v) (hm : 1 ≤ m) (hg2 : GV X g v h m (bdF 1 (vK v h)) L r) : GV X g v h (m + 2) 11 (11 :: 10 :: L) (nI (vH v h) + r) :=
  g_two (p1 := 112) (p2 := 121) (w := 1) hL hgx ho hk hh (by omega) (g10 hL ho hh) hg2 hm (fun d dep iv => by rw [b12_14_c11 (show nI 11 = 11 from rfl), b12_102 hL]; rfl) (fun d dep iv => by rw [b12_112 hL]; rfl) (fun d dep iv => by rw [b12_121])
theorem g23 {m : Nat} {L : List Nat} {r : Int32} (hL : pm_lay g) (hgx : pm_xg g) (ho : Hok v) (hk : 1 ≤ vK v h) (hh : h < vN v) (hm : 1 ≤ m) (hg2 : GV X g v h m (bdF 0 (vK v h)) L r) : GV X g v h (m + 2) 23 (23 :: 20 :: L) (nI h - r) :=
  g_two (p1 := 207) (p2 := 216) (w := 0) hL hgx ho hk hh (by omega) (g20 hL) hg2 hm (fun d dep iv => by rw [b12_14_c23 (show nI 23 = 23 from rfl), b12_197 hL]; rfl) (fun d dep iv => by rw [b12_207 hL, nI_0]) (fun d dep iv => by rw [b12_216])
theorem g12 {m : Nat} {L : List Nat} {r : Int32} (hL : pm_lay g) (hg2 : GV X g v h m 11 L r) : GV X g v h (m + 1) 12 (12 :: L) (0 - r) :=
  g_one (p1 := 134) (pre := [.int 0]) hL hg2 (fun d dep iv => by rw [b12_14_c12 (show nI 12 = 12 from rfl), b12_123 hL]; rfl) (fun d dep iv _ _ => by rw [b12_134])
/-- church size, mark, size: the trace and the answer -/
def chT (v : HV) (h : Nat) : List Nat := if vK v h = 2 then [14, 13, 10] else [13, 10]
def chI (v : HV) (h : Nat) : Int32 := if vK v h = 2 then 2 * (nI (vH v h) - 100) else nI (vH v h) - 100
def maT (v : HV) (h : Nat) : List Nat := if vK v h ≤ 2 then 23 :: 20 :: chT v h else if vK v h = 3 then [21, 20] else if vK v h = 5 then [22, 21, 20] else [24, 21, 20]
def maI (v : HV) (h : Nat) : Int32 := if vK v h ≤ 2 then nI h - chI v h else if vK v h = 3 then nI h + nI (vy v h) else if vK v h = 5 then nI h + nI (vy v h) - 1000 else 2 * (nI h + nI (vy v h))
def szT (v : HV) (h : Nat) : List Nat := if vK v h ≤ 2 then chT v h else if vK v h = 4 then 12 :: 11 :: 10 :: maT v h else 11 :: 10 :: maT v h
def szI (v : HV) (h : Nat) : Int32 := if vK v h ≤ 2 then chI v h else if vK v h = 4 then 0 - (nI (vH v h) + maI v h) else nI (vH v h) + maI v h
theorem chT_len : (chT v h).length ≤ 3 := by unfold chT; split <;> simp
theorem maT_len : (maT v h).length ≤ 5 := by
  have := chT_len (v := v) (h := h)
  unfold maT
  repeat' split
  all_goals simp only [List.length_cons, List.length_nil]
  all_goals omega
theorem szT_len : (szT v h).length ≤ 8 := by
  have := chT_len (v := v) (h := h)
  have := maT_len (v := v) (h := h)
  unfold szT
  repeat' split
  all_goals try simp only [List.length_cons]
  all_goals omega
theorem gCh (hL : pm_lay g) (ho : Hok v) (hk : 1 ≤ vK v h) (hk2 : vK v h ≤ 2) (hh : h < vN v) : GV X g v h (chT v h).length (bdF 0 (vK v h)) (chT v h) (chI v h) := by
  by_cases q : vK v h = 2
  · have e1 : chT v h = [14, 13, 10] := if_pos q
    have e2 : chI v h = 2 * (nI (vH v h) - 100) := if_pos q
    rw [e1, e2, q]
    exact g14 hL ho hh
  · have q1 : vK v h = 1 := by omega
    have e1 : chT v h = [13, 10] := if_neg q
    have e2 : chI v h = nI (vH v h) - 100 := if_neg q
    rw [e1, e2, q1]
    exact g13 hL ho hh
theorem gMa (hL : pm_lay g) (hgx : pm_xg g) (ho : Hok v) (hk : 1 ≤ vK v h) (hh : h < vN v) : GV X g v h (maT v h).length (bdF 1 (vK v h)) (maT v h) (maI v h) := by
  have hb := ho.2.2.2.2.2 h hh
  by_cases q : vK v h ≤ 2
  · have e1 : maT v h = 23 :: 20 :: chT v h := if_pos q
    have e2 : maI v h = nI h - chI v h := if_pos q
    have e3 : bdF 1 (vK v h) = 23 := by
      rcases (show vK v h = 1 ∨ vK v h = 2 by omega) with e | e <;> rw [e] <;> rfl
    have hl : 1 ≤ (chT v h).length := by unfold chT; split <;> simp
    rw [e1, e2, e3]
    exact g23 hL hgx ho hk hh hl (gCh hL ho hk q hh)
  · by_cases q3 : vK v h = 3
    · have e1 : maT v h = [21, 20] := by unfold maT; rw [if_neg q, if_pos q3]
      have e2 : maI v h = nI h + nI (vy v h) := by unfold maI; rw [if_neg q, if_pos q3]
      rw [e1, e2, q3]
      exact g21 hL ho hh
    · by_cases q5 : vK v h = 5
      · have e1 : maT v h = [22, 21, 20] := by unfold maT; rw [if_neg q, if_neg q3, if_pos q5]
        have e2 : maI v h = nI h + nI (vy v h) - 1000 := by unfold maI; rw [if_neg q, if_neg q3, if_pos q5]
        rw [e1, e2, q5]
        exact g22 hL ho hh
      · have q4 : vK v h = 4 := by omega
        have e1 : maT v h = [24, 21, 20] := by unfold maT; rw [if_neg q, if_neg q3, if_neg q5]
        have e2 : maI v h = 2 * (nI h + nI (vy v h)) := by unfold maI; rw [if_neg q, if_neg q3, if_neg q5]
        rw [e1, e2, q4]
        exact g24 hL ho hh
theorem gSz (hL : pm_lay g) (hgx : pm_xg g) (ho : Hok v) (hk : 1 ≤ vK v h) (hh : h < vN v) : GV X g v h (szT v h).length (bdF 0 (vK v h)) (szT v h) (szI v h) := by
  have hb := ho.2.2.2.2.2 h hh
  have hM := gMa (X := X) hL hgx ho hk hh
  by_cases q : vK v h ≤ 2
  · have e1 : szT v h = chT v h := if_pos q
    have e2 : szI v h = chI v h := if_pos q
    rw [e1, e2]
    exact gCh hL ho hk q hh
  · have hl : 1 ≤ (maT v h).length := by
      unfold maT
      repeat' split
      all_goals simp
    have h11 := g11 (X := X) hL hgx ho hk hh hl hM
    by_cases q4 : vK v h = 4
    · have e1 : szT v h = 12 :: 11 :: 10 :: maT v h := by unfold szT; rw [if_neg q, if_pos q4]
      have e2 : szI v h = 0 - (nI (vH v h) + maI v h) := by unfold szI; rw [if_neg q, if_pos q4]
      rw [e1, e2, q4]
      exact g12 hL h11
    · have e1 : szT v h = 11 :: 10 :: maT v h := by unfold szT; rw [if_neg q, if_neg q4]
      have e2 : szI v h = nI (vH v h) + maI v h := by unfold szI; rw [if_neg q, if_neg q4]
      have e3 : bdF 0 (vK v h) = 11 := by
        rcases (show vK v h = 3 ∨ vK v h = 5 by omega) with e | e <;> rw [e] <;> rfl
      rw [e1, e2, e3]
      exact h11
/-! the reference's side -/
theorem m_plain (hd : 2 ≤ d) (hL : pm_lay g) (hv : HAr (iv 36) v) (ho : Hok v) (hh : h < vN v) (hT : TM iv T) (hl : T.length < 16) : ∃ iv', pm_c X d 195 [.ref 32, .int (nI h)] g iv = some (some (.int (nI (vH v h))), g, iv') ∧ chM iv iv' ∧ TM iv' (T ++ [10]) := by
  obtain ⟨d, rfl, hd1⟩ := pm_d1 hd
  obtain ⟨iv1, a1, a2, a3⟩ := m_began (X := X) (b := 10) hd1 hL hT hl
  refine ⟨iv1, ?_, a2, a3⟩
  have a1 : pm_c X d 194 [.ref 32, .int 10] g iv = some (none, g, iv1) := a1
  simp only [e195, b195_0 hL, a1, pm_then_i, pm_then_l, pm_then_v, b195_6 hL, m_ofH hd1 hL (chM_HAr a2 hv) ho hh, b195_12]
theorem m_church (hd : 3 ≤ d) (hL : pm_lay g) (hv : HAr (iv 36) v) (ho : Hok v) (hh : h < vN v) (hT : TM iv T) (hl : T.length < 12) : ∃ iv', pm_c X d 196 [.ref 32, .int (nI h)] g iv = some (some (.int (chI v h)), g, iv') ∧ chM iv iv' ∧ TM iv' (T ++ chT v h) := by
  obtain ⟨d, rfl, hd1⟩ := pm_d1 hd
  have hb := ho.2.2.2.2.2 h hh
  have k2 : nI (vK v h) = 2 ↔ vK v h = 2 := nI_eq (a := vK v h) (b := 2) (by omega) (by omega)
  by_cases q : vK v h = 2
  · obtain ⟨iv0, z1, z2, z3⟩ := m_began (X := X) (b := 14) (show 1 ≤ d by omega) hL hT (by omega)
    obtain ⟨iv1, a1, a2, a3⟩ := m_began (X := X) (b := 13) (show 1 ≤ d by omega) hL z3 (by simp only [List.length_append, List.length_cons, List.length_nil]; omega)
    have hv1 := chM_HAr (chM_tr z2 a2) hv
    obtain ⟨iv2, b1, b2, b3⟩ := m_plain (X := X) (show 2 ≤ d by omega) hL hv1 ho hh a3 (by simp only [List.length_append, List.length_cons, List.length_nil]; omega)
    have hv2 := chM_HAr b2 hv1
    refine ⟨iv2, ?_, chM_tr z2 (chM_tr a2 b2), ?_⟩
    · have z1 : pm_c X d 194 [.ref 32, .int 14] g iv = some (none, g, iv0) := z1
      have a1 : pm_c X d 194 [.ref 32, .int 13] g iv0 = some (none, g, iv1) := a1
      simp only [e196, b196_0 hL, m_ofK (show 1 ≤ d by omega) hL hv ho hh, m_ofK (show 1 ≤ d by omega) hL hv2 ho hh, pm_then_i, pm_then_l, pm_then_v, b196_6, eq_true (k2.mpr q), bz_0, bz_n, bz_1, pm_zr0, pm_zr1, pm_zrI, if_true, if_false, not_true, not_false_eq_true, Bool.false_eq_true, true_and, and_true, false_and, and_false, z10, z01, zz0, eq_self, b196_10 hL, z1, b196_16 hL, a1, b196_22 hL, b1, b196_27 hL, b196_37, b196_41, b196_48, show chI v h = 2 * (nI (vH v h) - 100) from if_pos q]
    · have e1 : chT v h = [14, 13, 10] := if_pos q
      rw [e1]
      rw [List.append_assoc, List.append_assoc] at b3
      exact b3
  · obtain ⟨iv1, a1, a2, a3⟩ := m_began (X := X) (b := 13) (show 1 ≤ d by omega) hL hT (by omega)
    have hv1 := chM_HAr a2 hv
    obtain ⟨iv2, b1, b2, b3⟩ := m_plain (X := X) (show 2 ≤ d by omega) hL hv1 ho hh a3 (by simp only [List.length_append, List.length_cons, List.length_nil]; omega)
    have hv2 := chM_HAr b2 hv1
    refine ⟨iv2, ?_, chM_tr a2 b2, ?_⟩
    · have a1 : pm_c X d 194 [.ref 32, .int 13] g iv = some (none, g, iv1) := a1
      simp only [e196, b196_0 hL, m_ofK (show 1 ≤ d by omega) hL hv ho hh, m_ofK (show 1 ≤ d by omega) hL hv2 ho hh, pm_then_i, pm_then_l, pm_then_v, b196_6, eq_false (fun e => q (k2.mp e)), bz_0, bz_n, bz_1, pm_zr0, pm_zr1, pm_zrI, if_true, if_false, not_true, not_false_eq_true, Bool.false_eq_true, true_and, and_true, false_and, and_false, z10, z01, zz0, eq_self, b196_16 hL, a1, b196_22 hL, b1, b196_27 hL, b196_37, b196_47, b196_48, show chI v h = nI (vH v h) - 100 from if_neg q]
    · have e1 : chT v h = [13, 10] := if_neg q
      rw [e1]
      rw [List.append_assoc] at b3
      exact b3
theorem m_mark (hd : 4 ≤ d) (hL : pm_lay g) (hv : HAr (iv 36) v) (ho : Hok v) (hk : 1 ≤ vK v h) (hh : h < vN v) (hT : TM iv T) (hl : T.length < 10) : ∃ iv', pm_c X d 197 [.ref 32, .int (nI h)] g iv = some (some (.int (maI v h)), g, iv') ∧ chM iv iv' ∧ TM iv' (T ++ maT v h) := by
  obtain ⟨d, rfl, hd1⟩ := pm_d1 hd
  have hb := ho.2.2.2.2.2 h hh
  have k2 : (2 : Int32) < nI (vK v h) ↔ ¬ vK v h ≤ 2 := by rw [lt_i, toI2, nI_t (by omega)]; omega
  have k3 : nI (vK v h) = 3 ↔ vK v h = 3 := nI_eq (a := vK v h) (b := 3) (by omega) (by omega)
  have k5 : nI (vK v h) = 5 ↔ vK v h = 5 := nI_eq (a := vK v h) (b := 5) (by omega) (by omega)
  have c0 := e197 (X := X) (d := d) (g := g) (iv := iv) (x1 := nI h)
  by_cases q : vK v h ≤ 2
  · obtain ⟨iv0, z1, z2, z3⟩ := m_began (X := X) (b := 23) (show 1 ≤ d by omega) hL hT (by omega)
    obtain ⟨iv1, a1, a2, a3⟩ := m_began (X := X) (b := 20) (show 1 ≤ d by omega) hL z3 (by simp only [List.length_append, List.length_cons, List.length_nil]; omega)
    have hv1 := chM_HAr (chM_tr z2 a2) hv
    obtain ⟨iv2, b1, b2, b3⟩ := m_church (X := X) (show 3 ≤ d by omega) hL hv1 ho hh a3 (by simp only [List.length_append, List.length_cons, List.length_nil]; omega)
    refine ⟨iv2, ?_, chM_tr z2 (chM_tr a2 b2), ?_⟩
    · have z1 : pm_c X d 194 [.ref 32, .int 23] g iv = some (none, g, iv0) := z1
      have a1 : pm_c X d 194 [.ref 32, .int 20] g iv0 = some (none, g, iv1) := a1
      simp only [c0, b197_0 hL, m_ofK (show 1 ≤ d by omega) hL hv ho hh, pm_then_i, pm_then_l, pm_then_v, b197_6, eq_false (fun e => (k2.mp e) q), bz_0, bz_n, bz_1, pm_zr0, pm_zr1, pm_zrI, if_true, if_false, not_true, not_false_eq_true, Bool.false_eq_true, true_and, and_true, false_and, and_false, z10, z01, zz0, eq_self, b197_12 hL, z1, b197_18 hL, a1, b197_24 hL, b1, b197_30, show maI v h = nI h - chI v h from if_pos q]
    · have e1 : maT v h = 23 :: 20 :: chT v h := if_pos q
      rw [e1]
      rw [List.append_assoc, List.append_assoc] at b3
      exact b3
  · by_cases q3 : vK v h = 3
    · obtain ⟨iv1, a1, a2, a3⟩ := m_began (X := X) (b := 21) (show 1 ≤ d by omega) hL hT (by omega)
      obtain ⟨iv2, b1, b2, b3⟩ := m_began (X := X) (b := 20) (show 1 ≤ d by omega) hL a3 (by simp only [List.length_append, List.length_cons, List.length_nil]; omega)
      have hv2 := chM_HAr (chM_tr a2 b2) hv
      refine ⟨iv2, ?_, chM_tr a2 b2, ?_⟩
      · have a1 : pm_c X d 194 [.ref 32, .int 21] g iv = some (none, g, iv1) := a1
        have b1 : pm_c X d 194 [.ref 32, .int 20] g iv1 = some (none, g, iv2) := b1
        simp only [c0, b197_0 hL, m_ofK (show 1 ≤ d by omega) hL hv ho hh, pm_then_i, pm_then_l, pm_then_v, b197_6, eq_true (k2.mpr q), bz_0, bz_n, bz_1, pm_zr0, pm_zr1, pm_zrI, if_true, if_false, not_true, not_false_eq_true, Bool.false_eq_true, true_and, and_true, false_and, and_false, z10, z01, zz0, eq_self, b197_32, eq_true (k3.mpr q3), b197_53 hL, a1, b197_59 hL, b1, b197_65 hL, m_ofy (show 1 ≤ d by omega) hL hv2 ho hh, b197_72, b197_79, b197_99, show maI v h = nI h + nI (vy v h) by unfold maI; rw [if_neg q, if_pos q3]]
      · have e1 : maT v h = [21, 20] := by unfold maT; rw [if_neg q, if_pos q3]
        rw [e1]
        rw [List.append_assoc] at b3
        exact b3
    · by_cases q5 : vK v h = 5
      · obtain ⟨iv0, z1, z2, z3⟩ := m_began (X := X) (b := 22) (show 1 ≤ d by omega) hL hT (by omega)
        obtain ⟨iv1, a1, a2, a3⟩ := m_began (X := X) (b := 21) (show 1 ≤ d by omega) hL z3 (by simp only [List.length_append, List.length_cons, List.length_nil]; omega)
        obtain ⟨iv2, b1, b2, b3⟩ := m_began (X := X) (b := 20) (show 1 ≤ d by omega) hL a3 (by simp only [List.length_append, List.length_cons, List.length_nil]; omega)
        have hv2 := chM_HAr (chM_tr z2 (chM_tr a2 b2)) hv
        refine ⟨iv2, ?_, chM_tr z2 (chM_tr a2 b2), ?_⟩
        · have z1 : pm_c X d 194 [.ref 32, .int 22] g iv = some (none, g, iv0) := z1
          have a1 : pm_c X d 194 [.ref 32, .int 21] g iv0 = some (none, g, iv1) := a1
          have b1 : pm_c X d 194 [.ref 32, .int 20] g iv1 = some (none, g, iv2) := b1
          have e2 : maI v h = nI h + nI (vy v h) - 1000 := by unfold maI; rw [if_neg q, if_neg q3, if_pos q5]
          simp only [c0, b197_0 hL, m_ofK (show 1 ≤ d by omega) hL hv ho hh, pm_then_i, pm_then_l, pm_then_v, b197_6, eq_true (k2.mpr q), bz_0, bz_n, bz_1, pm_zr0, pm_zr1, pm_zrI, if_true, if_false, not_true, not_false_eq_true, Bool.false_eq_true, true_and, and_true, false_and, and_false, z10, z01, zz0, eq_self, b197_32, eq_false (fun e => q3 (k3.mp e)), b197_37, eq_true (k5.mpr q5), b197_43, b197_50 hL, z1, b197_53 hL, a1, b197_59 hL, b1, b197_65 hL, m_ofy (show 1 ≤ d by omega) hL hv2 ho hh, b197_72, b197_83, b197_88, b197_99, e2]
        · have e1 : maT v h = [22, 21, 20] := by unfold maT; rw [if_neg q, if_neg q3, if_pos q5]
          rw [e1]
          rw [List.append_assoc, List.append_assoc] at b3
          exact b3
      · obtain ⟨iv0, z1, z2, z3⟩ := m_began (X := X) (b := 24) (show 1 ≤ d by omega) hL hT (by omega)
        obtain ⟨iv1, a1, a2, a3⟩ := m_began (X := X) (b := 21) (show 1 ≤ d by omega) hL z3 (by simp only [List.length_append, List.length_cons, List.length_nil]; omega)
        obtain ⟨iv2, b1, b2, b3⟩ := m_began (X := X) (b := 20) (show 1 ≤ d by omega) hL a3 (by simp only [List.length_append, List.length_cons, List.length_nil]; omega)
        have hv2 := chM_HAr (chM_tr z2 (chM_tr a2 b2)) hv
        refine ⟨iv2, ?_, chM_tr z2 (chM_tr a2 b2), ?_⟩
        · have z1 : pm_c X d 194 [.ref 32, .int 24] g iv = some (none, g, iv0) := z1
          have a1 : pm_c X d 194 [.ref 32, .int 21] g iv0 = some (none, g, iv1) := a1
          have b1 : pm_c X d 194 [.ref 32, .int 20] g iv1 = some (none, g, iv2) := b1
          have e2 : maI v h = 2 * (nI h + nI (vy v h)) := by unfold maI; rw [if_neg q, if_neg q3, if_neg q5]
          simp only [c0, b197_0 hL, m_ofK (show 1 ≤ d by omega) hL hv ho hh, pm_then_i, pm_then_l, pm_then_v, b197_6, eq_true (k2.mpr q), bz_0, bz_n, bz_1, pm_zr0, pm_zr1, pm_zrI, if_true, if_false, not_true, not_false_eq_true, Bool.false_eq_true, true_and, and_true, false_and, and_false, z10, z01, zz0, eq_self, b197_32, eq_false (fun e => q3 (k3.mp e)), b197_37, eq_false (fun e => q5 (k5.mp e)), b197_48, b197_50 hL, z1, b197_53 hL, a1, b197_59 hL, b1, b197_65 hL, m_ofy (show 1 ≤ d by omega) hL hv2 ho hh, b197_72, b197_83, b197_96, b197_99, e2]
        · have e1 : maT v h = [24, 21, 20] := by unfold maT; rw [if_neg q, if_neg q3, if_neg q5]
          rw [e1]
          rw [List.append_assoc, List.append_assoc] at b3
          exact b3
theorem m_size (hd : 5 ≤ d) (hL : pm_lay g) (hv : HAr (iv 36) v) (ho : Hok v) (hk : 1 ≤ vK v h) (hh : h < vN v) (hT : TM iv T) (hl : T.length < 5) : ∃ iv', pm_c X d 198 [.ref 32, .int (nI h)] g iv = some (some (.int (szI v h)), g, iv') ∧ chM iv iv' ∧ TM iv' (T ++ szT v h) := by
  obtain ⟨d, rfl, hd1⟩ := pm_d1 hd
  have hb := ho.2.2.2.2.2 h hh
  have k2 : (2 : Int32) < nI (vK v h) ↔ ¬ vK v h ≤ 2 := by rw [lt_i, toI2, nI_t (by omega)]; omega
  have k4 : nI (vK v h) = 4 ↔ vK v h = 4 := nI_eq (a := vK v h) (b := 4) (by omega) (by omega)
  have c0 := e198 (X := X) (d := d) (g := g) (iv := iv) (x1 := nI h)
  by_cases q : vK v h ≤ 2
  · obtain ⟨iv2, b1, b2, b3⟩ := m_church (X := X) (show 3 ≤ d by omega) hL hv ho hh hT (by omega)
    have e1 : szT v h = chT v h := if_pos q
    have e2 : szI v h = chI v h := if_pos q
    refine ⟨iv2, ?_, b2, by rw [e1]; exact b3⟩
    simp only [c0, b198_0 hL, m_ofK (show 1 ≤ d by omega) hL hv ho hh, pm_then_i, pm_then_l, pm_then_v, b198_6, eq_false (fun e => (k2.mp e) q), bz_0, bz_n, bz_1, pm_zr0, pm_zr1, pm_zrI, if_true, if_false, not_true, not_false_eq_true, Bool.false_eq_true, true_and, and_true, false_and, and_false, z10, z01, zz0, eq_self, b198_12 hL, b1, b198_17, e2]
  · by_cases q4 : vK v h = 4
    · have e1 : szT v h = 12 :: 11 :: 10 :: maT v h := by unfold szT; rw [if_neg q, if_pos q4]
      have e2 : szI v h = -(nI (vH v h) + maI v h) := by unfold szI; rw [if_neg q, if_pos q4, Int32.zero_sub]
      obtain ⟨iv0, z1, z2, z3⟩ := m_began (X := X) (b := 12) (show 1 ≤ d by omega) hL hT (by omega)
      obtain ⟨iv1, a1, a2, a3⟩ := m_began (X := X) (b := 11) (show 1 ≤ d by omega) hL z3 (by simp only [List.length_append, List.length_cons, List.length_nil]; omega)
      have hv1 := chM_HAr (chM_tr z2 a2) hv
      obtain ⟨iv2, b1, b2, b3⟩ := m_plain (X := X) (show 2 ≤ d by omega) hL hv1 ho hh a3 (by simp only [List.length_append, List.length_cons, List.length_nil]; omega)
      have hv2 := chM_HAr b2 hv1
      obtain ⟨iv3, c1, c2, c3⟩ := m_mark (X := X) (show 4 ≤ d by omega) hL hv2 ho hk hh b3 (by simp only [List.length_append, List.length_cons, List.length_nil]; omega)
      refine ⟨iv3, ?_, chM_tr z2 (chM_tr a2 (chM_tr b2 c2)), ?_⟩
      · have z1 : pm_c X d 194 [.ref 32, .int 12] g iv = some (none, g, iv0) := z1
        have a1 : pm_c X d 194 [.ref 32, .int 11] g iv0 = some (none, g, iv1) := a1
        simp only [c0, b198_0 hL, m_ofK (show 1 ≤ d by omega) hL hv ho hh, pm_then_i, pm_then_l, pm_then_v, b198_6, eq_true (k2.mpr q), bz_0, bz_n, bz_1, pm_zr0, pm_zr1, pm_zrI, if_true, if_false, not_true, not_false_eq_true, Bool.false_eq_true, true_and, and_true, false_and, and_false, z10, z01, zz0, eq_self, b198_18, eq_true (k4.mpr q4), b198_23 hL, z1, b198_29 hL, a1, b198_35 hL, b1, b198_40 hL, c1, b198_47, b198_54, b198_60, e2]
      · rw [e1]
        rw [List.append_assoc, List.append_assoc, List.append_assoc] at c3
        exact c3
    · have e1 : szT v h = 11 :: 10 :: maT v h := by unfold szT; rw [if_neg q, if_neg q4]
      have e2 : szI v h = nI (vH v h) + maI v h := by unfold szI; rw [if_neg q, if_neg q4]
      obtain ⟨iv1, a1, a2, a3⟩ := m_began (X := X) (b := 11) (show 1 ≤ d by omega) hL hT (by omega)
      have hv1 := chM_HAr a2 hv
      obtain ⟨iv2, b1, b2, b3⟩ := m_plain (X := X) (show 2 ≤ d by omega) hL hv1 ho hh a3 (by simp only [List.length_append, List.length_cons, List.length_nil]; omega)
      have hv2 := chM_HAr b2 hv1
      obtain ⟨iv3, c1, c2, c3⟩ := m_mark (X := X) (show 4 ≤ d by omega) hL hv2 ho hk hh b3 (by simp only [List.length_append, List.length_cons, List.length_nil]; omega)
      refine ⟨iv3, ?_, chM_tr a2 (chM_tr b2 c2), ?_⟩
      · have a1 : pm_c X d 194 [.ref 32, .int 11] g iv = some (none, g, iv1) := a1
        simp only [c0, b198_0 hL, m_ofK (show 1 ≤ d by omega) hL hv ho hh, pm_then_i, pm_then_l, pm_then_v, b198_6, eq_true (k2.mpr q), bz_0, bz_n, bz_1, pm_zr0, pm_zr1, pm_zrI, if_true, if_false, not_true, not_false_eq_true, Bool.false_eq_true, true_and, and_true, false_and, and_false, z10, z01, zz0, eq_self, b198_18, eq_false (fun e => q4 (k4.mp e)), b198_29 hL, a1, b198_35 hL, b1, b198_40 hL, c1, b198_47, b198_59, b198_60, e2]
      · rw [e1]
        rw [List.append_assoc, List.append_assoc] at c3
        exact c3
end Q48
