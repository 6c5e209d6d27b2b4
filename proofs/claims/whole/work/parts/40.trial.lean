/-! winters that are only foretold -/
/-- v in the winter w, with chocks c and yards P -/
def TV (v : HV) (c : Nat → Bool) (P : Nat → Nat) (w : Nat) : HV := (vL v, vD v, vN v, w, c, vS v, vK v, vH v, vl v, P, vt v)
theorem TV_self (v : HV) : TV v (vC v) (vy v) (vW v) = v := rfl
theorem wnt_TV (v : HV) (c he : Nat → Bool) (P Q : Nat → Nat) (w w' : Nat) : wnt (TV v c P w) he w' Q = wnt v he w' Q := by
  have h1 : ∀ pl h, rl1 (TV v c P w) pl h = rl1 v pl h := fun _ _ => rfl
  have h2 : ∀ bg pl h, rlH (TV v c P w) he bg w' pl h = rlH v he bg w' pl h := fun bg pl h => by
    unfold rlH
    rw [h1, h1]
    rfl
  have h3 : ∀ bg y m j pl, rlY (TV v c P w) he bg w' y m j pl = rlY v he bg w' y m j pl := fun bg y m => by
    induction m with
    | zero => intro j pl; rfl
    | succ m ih =>
      intro j pl
      rw [rlY, rlY, h2, ih]
  have h4 : ∀ bg m pl, rlD (TV v c P w) he bg w' m pl = rlD v he bg w' m pl := fun bg m => by
    induction m with
    | zero => intro pl; rfl
    | succ m ih =>
      intro pl
      rw [rlD, rlD, ih, show vN (TV v c P w) = vN v from rfl, h3]
  exact h4 _ _ _
theorem Dst_rlH {v : HV} {he : Nat → Bool} {bg : Nat → Nat} {w : Nat} {pl : Nat → Nat} {h : Nat} (ho : Hok v) (hp : Pok v pl) (hh : h < vN v) (hd : Dst v pl) : Dst v (rlH v he bg w pl h) := by
  rw [rlH_go2]
  split
  · exact Dst_go2 ho hp hh hd
  · exact hd
theorem Dst_rlY {v : HV} {he : Nat → Bool} {bg : Nat → Nat} {w y : Nat} (ho : Hok v) : ∀ (m j : Nat) (pl : Nat → Nat), j + m ≤ vN v → Pok v pl → Dst v pl → Dst v (rlY v he bg w y m j pl)
  | 0, _, _, _, _, hd => hd
  | m + 1, j, pl, hj, hp, hd => by
    rw [rlY]
    apply Dst_rlY ho m (j + 1) _ (by omega)
    · split
      · exact Pok_rlH _ hp
      · exact hp
    · split
      · exact Dst_rlH ho hp (by omega) hd
      · exact hd
theorem Dst_rlD {v : HV} {he : Nat → Bool} {bg : Nat → Nat} {w : Nat} (ho : Hok v) : ∀ (m : Nat) (pl : Nat → Nat), Pok v pl → Dst v pl → Dst v (rlD v he bg w m pl)
  | 0, _, _, hd => hd
  | m + 1, pl, hp, hd => Dst_rlD ho m _ (Pok_rlY _ _ _ hp) (Dst_rlY ho _ _ _ (by omega) hp hd)
theorem Dst_wnt {v : HV} {he : Nat → Bool} {w : Nat} {pl : Nat → Nat} (ho : Hok v) (hp : Pok v pl) (hd : Dst v pl) : Dst v (wnt v he w pl) := Dst_rlD ho _ _ hp hd
theorem Dst_wnts {v : HV} {he : Nat → Bool} (ho : Hok v) : ∀ (n w : Nat) (pl : Nat → Nat), Pok v pl → Dst v pl → Dst v (wnts v he w n pl)
  | 0, _, _, _, hd => hd
  | n + 1, w, pl, hp, hd => by
    rw [wnts_s]
    exact Dst_wnt ho (Pok_wnts n w pl hp) (Dst_wnts ho n w pl hp hd)
theorem Hok_TV {v : HV} {c : Nat → Bool} {P : Nat → Nat} {w : Nat} (ho : Hok v) (hp : Pok v P) (hw : w < 100000) : Hok (TV v c P w) :=
  ⟨ho.1, ho.2.1, ho.2.2.1, hw, ho.2.2.2.2.1, fun h hh => ⟨(ho.2.2.2.2.2 h hh).1, hp h hh, (ho.2.2.2.2.2 h hh).2.2⟩⟩
theorem Pok_self {v : HV} (ho : Hok v) : Pok v (vy v) := fun h hh => (ho.2.2.2.2.2 h hh).2.1
section T40
variable {X : pm_X} {d k : Nat} {g : pm_G} {iv : pm_V} {x y z : Int32} {v : HV} {c : Nat → Bool} {P : Nat → Nat} {w : Nat}
/-- one winter of a trial -/
theorem t_roll1 (hd : 5 ≤ d) (hK : pm_sl g k) (ho : Hok v) (hw : w < 100000) (hp : Pok v P) (hs : Dst v P) (hv : SV iv k (TV v c P w)) : ∃ iv' x', pm_c X d 60 [.ref k] g iv = some (some (.int x'), g, iv') ∧ chg [k, k + 5, k + 7, k + 8, k + 9] iv iv' ∧ SV iv' k (TV v c (wnt v c w P) (w + 1)) := by
  obtain ⟨iv', x', e1, e2, e3, e4⟩ := t_rollAll (X := X) hd hK hv (Hok_TV ho hp hw) hs
  refine ⟨iv', x', e1, e2, ?_⟩
  have e : wnt (TV v c P w) (vC (TV v c P w)) (vW (TV v c P w)) (vy (TV v c P w)) = wnt v c w P := wnt_TV v c c P P w w
  rw [e] at e3
  exact e3
/-- after n winters -/
def TN (v : HV) (n : Nat) : HV := TV v (vC v) (wnts v (vC v) (vW v) n (vy v)) (vW v + n)
theorem Hok_TN {v : HV} {n : Nat} (ho : Hok v) (hw : vW v + n < 100000) : Hok (TN v n) := Hok_TV ho (Pok_wnts _ _ _ (Pok_self ho)) hw
theorem t_roll1N {j : Nat} (hd : 5 ≤ d) (hK : pm_sl g k) (ho : Hok v) (hs : Dst v (vy v)) (hw : vW v + j < 100000) (hv : SV iv k (TN v j)) : ∃ iv' x', pm_c X d 60 [.ref k] g iv = some (some (.int x'), g, iv') ∧ chg [k, k + 5, k + 7, k + 8, k + 9] iv iv' ∧ SV iv' k (TN v (j + 1)) := by
  obtain ⟨iv', x', e1, e2, e3⟩ := t_roll1 (X := X) hd hK ho hw (Pok_wnts j _ _ (Pok_self ho)) (Dst_wnts ho j _ _ (Pok_self ho) hs) hv
  refine ⟨iv', x', e1, e2, ?_⟩
  rw [TN, wnts_s]
  exact e3
def tri : List Nat := [21, 22, 23, 24, 25, 26, 27, 28, 29, 30]
theorem t_rollTrial_loop (hd : 5 ≤ d) (hL : pm_lay g) (ho : Hok v) (hs : Dst v (vy v)) {n : Nat} (hn : n ≤ 1000) (hw : vW v ≤ 9999) : ∀ m j (iv : pm_V), SV iv 21 (TN v j) → j + m = n → ∃ iv', pm_at X d 126 (2, [some (.ref 0), some (.int (nI n)), some (.int (nI j))], [], g, iv) = some (none, g, iv') ∧ chg tri iv iv' ∧ SV iv' 21 (TN v n) := by
  intro m
  induction m with
  | zero =>
    intro j iv hv hj
    have e : j = n := by omega
    subst e
    refine ⟨iv, ?_, chg_rf, hv⟩
    simp only [b126_2, Int32.le_refl, if_true, b126_21]
  | succ m ih =>
    intro j iv hv hj
    have h1 : ¬ nI n ≤ nI j := nI_ge (by omega) (by omega)
    obtain ⟨iv', x', e1, e2, e3⟩ := t_roll1N (X := X) hd (lay_trial hL) ho hs (by omega) hv
    obtain ⟨iv2, f1, f2, f3⟩ := ih (j + 1) iv' e3 (by omega)
    refine ⟨iv2, ?_, chg_tr (chg_mo e2 (by decide)) f2, f3⟩
    simp only [b126_2, h1, bz_0, bz_n, bz_1, pm_zr0, pm_zr1, pm_zrI, if_true, if_false, not_true, not_false_eq_true, Bool.false_eq_true, true_and, and_true, false_and, and_false, z10, z01, zz0, eq_self, b126_7 hL, e1, pm_then_i, pm_then_l, pm_then_v, b126_14, nI_1, f1]
/-- the trial takes the hill now and n winters -/
theorem t_rollTrial (hd : 6 ≤ d) (hL : pm_lay g) (ho : Hok v) (hs : Dst v (vy v)) {n : Nat} (hn : n ≤ 1000) (hw : vW v ≤ 9999) (hv : SV iv 21 v) : ∃ iv', pm_c X d 126 [.ref 0, .int (nI n)] g iv = some (none, g, iv') ∧ chg tri iv iv' ∧ SV iv' 21 (TN v n) := by
  obtain ⟨d, rfl, hd1⟩ := pm_d1 hd
  obtain ⟨iv', e1, e2, e3⟩ := t_rollTrial_loop (X := X) hd1 hL ho hs hn hw n 0 iv hv (by omega)
  refine ⟨iv', ?_, e2, e3⟩
  rw [nI_0] at e1
  simp only [e126, b126_0, e1]
theorem t_take (hd : 1 ≤ d) (hL : pm_lay g) (hv : SV iv 11 v) (ho : Hok v) : ∃ iv', pm_c X d 52 [.ref 21, .ref 11] g iv = some (none, g, iv') ∧ chg tri iv iv' ∧ SV iv' 21 v := by
  obtain ⟨iv', e1, e2, e3⟩ := t_takeFrom (X := X) hd (lay_trial hL) (lay_now hL) (by omega) hv ho
  exact ⟨iv', e1, chg_mo e2 (by decide), e3⟩
theorem m_areBeside (hd : 2 ≤ d) (hL : pm_lay g) (hv : HAr (iv 36) v) (ho : Hok v) (hp : PL iv 40 (vN v) P) (hk : Pok v P) {a b : Nat} (ha : a < vN v) (hb : b < vN v) : pm_c X d 180 [.ref 32, .int (nI a), .int (nI b)] g iv = some (some (.int (if bes v P a b = true then 1 else 0)), g, iv) := by
  obtain ⟨d, rfl, hd1⟩ := pm_d1 hd
  have hL4 := ho.1
  have hN := ho.2.2.1
  have hD := ho.2.1
  have hka := hk a ha
  have hkb := hk b hb
  have ina : vp_in (nI a) 6 := vp_n (by omega) (by decide)
  have inb : vp_in (nI b) 6 := vp_n (by omega) (by decide)
  have hla := (ho.2.2.2.2.2 a ha).1
  have hlb := (ho.2.2.2.2.2 b hb).1
  have e1 : nI (P a) = nI (P b) ↔ P a = P b := nI_eq (by omega) (by omega)
  have ei := nI_subI (a := vl v a) (b := vl v b) (by omega) (by omega)
  have e2 : nI (vl v a) - nI (vl v b) = 1 ↔ vl v a = vl v b + 1 := by rw [eq_i, ei, toI1]; omega
  have e3 : nI (vl v a) - nI (vl v b) = -1 ↔ vl v b = vl v a + 1 := by rw [eq_i, ei, toIm1]; omega
  simp only [e180, b180_0 hL, m_ofl (show 1 ≤ d by omega) hL hv ho ha, m_ofl (show 1 ≤ d by omega) hL hv ho hb, pm_then_i, pm_then_l, pm_then_v, b180_6, b180_12, b180_29, b180_34, b180_39, b180_43, b180_44, hL, ina, inb, nI_c (show a < 2147483648 by omega), nI_c (show b < 2147483648 by omega), hp a ha, hp b hb, e1, e2, e3, bes]
  by_cases q1 : P a = P b
  · by_cases q2 : vl v a = vl v b + 1
    · have q3 : ¬ vl v b = vl v a + 1 := by omega
      simp only [eq_true q1, eq_true q2, eq_false q3, bz_0, bz_n, bz_1, pm_zr0, pm_zr1, pm_zrI, if_true, if_false, not_true, not_false_eq_true, Bool.false_eq_true, true_and, and_true, false_and, and_false, z10, z01, zz0, eq_self, decide_true, decide_false, Bool.and_self, Bool.or_self, Bool.and_true, Bool.true_and, Bool.or_false, Bool.false_or, Bool.or_true, Bool.true_or, Bool.and_false, Bool.false_and]
    · by_cases q3 : vl v b = vl v a + 1
      · simp only [eq_true q1, eq_false q2, eq_true q3, bz_0, bz_n, bz_1, pm_zr0, pm_zr1, pm_zrI, if_true, if_false, not_true, not_false_eq_true, Bool.false_eq_true, true_and, and_true, false_and, and_false, z10, z01, zz0, eq_self, decide_true, decide_false, Bool.and_self, Bool.or_self, Bool.and_true, Bool.true_and, Bool.or_false, Bool.false_or, Bool.or_true, Bool.true_or, Bool.and_false, Bool.false_and]
      · simp only [eq_true q1, eq_false q2, eq_false q3, bz_0, bz_n, bz_1, pm_zr0, pm_zr1, pm_zrI, if_true, if_false, not_true, not_false_eq_true, Bool.false_eq_true, true_and, and_true, false_and, and_false, z10, z01, zz0, eq_self, decide_true, decide_false, Bool.and_self, Bool.or_self, Bool.and_true, Bool.true_and, Bool.or_false, Bool.false_or, Bool.or_true, Bool.true_or, Bool.and_false, Bool.false_and]
  · simp only [eq_false q1, bz_0, bz_n, bz_1, pm_zr0, pm_zr1, pm_zrI, if_true, if_false, not_true, not_false_eq_true, Bool.false_eq_true, true_and, and_true, false_and, and_false, z10, z01, zz0, eq_self, decide_true, decide_false, Bool.and_self, Bool.or_self, Bool.and_true, Bool.true_and, Bool.or_false, Bool.false_or, Bool.or_true, Bool.true_or, Bool.and_false, Bool.false_and]
end T40
