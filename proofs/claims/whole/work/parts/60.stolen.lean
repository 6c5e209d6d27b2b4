/-! stolen -/
/-- the chocks, when those of s below j are stolen -/
def csC (v : HV) (s j : Nat) : Nat → Bool := fun i => if (decide (i < j) && bt (nI s) i) = true then false else vC v i
def csP (v : HV) (s : Nat) : Nat → Nat := wnt v (csC v s (vN v)) (vW v) (vy v)
/-- s are houses that are chocked -/
def acB (v : HV) (s : Nat) : Bool := alF (fun h => !bt (nI s) h || vC v h) (vN v) 0
def pcE (v : HV) (s : Nat) (it : Nat → Int32) : Bool := alF (fun h => decide (nI (csP v s h) = it h)) (vN v) 0
def stlF (v : HV) (it : Nat → Int32) (s : Nat) : Bool := acB v s && pcE v s it
def stlI (v : HV) (it : Nat → Int32) : Int32 := if fstF (stlF v it) (2 ^ vN v) < 2 ^ vN v then nI (fstF (stlF v it) (2 ^ vN v)) else -1000000
theorem alF_n {p : Nat → Bool} : ∀ m k, (∀ j, k ≤ j → j < k + m → p j = true) → alF p m k = true
  | 0, _, _ => rfl
  | m + 1, k, h => by rw [alF, h k (by omega) (by omega), alF_n m (k + 1) (fun j a b => h j (by omega) (by omega))]; rfl
theorem alF_no {p : Nat → Bool} {m k j : Nat} (a : k ≤ j) (b : j < k + m) (h : p j = false) : alF p m k = false := by
  rcases hq : alF p m k with _ | _
  · rfl
  · rw [alF_y m k hq j a b] at h
    cases h
theorem bt_nI {s i : Nat} (hs : s < 2147483648) : bt (nI s) i = s.testBit i := by
  have e : uN (nI s) = s := uN_nI (by omega)
  show (nI s).toBitVec.toNat.testBit i = _
  rw [show (nI s).toBitVec.toNat = s from e]
theorem csC_0 (v : HV) (s : Nat) : csC v s 0 = vC v := by
  funext i
  unfold csC
  rw [if_neg (by simp)]
theorem csC_s (v : HV) (s j : Nat) : csC v s (j + 1) = fun i => if i = j ∧ bt (nI s) j = true then false else csC v s j i := by
  funext i
  show csC v s (j + 1) i = if i = j ∧ bt (nI s) j = true then false else csC v s j i
  unfold csC
  by_cases e : i = j
  · subst e
    by_cases b : bt (nI s) i = true
    · simp [b]
    · simp [b]
  · have w : (i < j + 1) = (i < j) := propext (by omega)
    simp only [w, e, false_and, if_false]
section Q60
variable {X : pm_X} {d k : Nat} {g : pm_G} {iv : pm_V} {v u : HV} {x y z : Int32} {r s : Nat} {it : Nat → Int32}
/-- what the class needs of the rows -/
def RwC (iv : pm_V) (r m : Nat) (it : Nat → Int32) : Prop := bt (iv 1 3) r = true ∧ iv 4 r = nI m ∧ ∀ h, h < m → iv 2 (40 * r + h) = it h
theorem RwC_fr {iv' : pm_V} {m : Nat} (h : RwC iv r m it) (hc : chg tri iv iv') : RwC iv' r m it := by
  unfold RwC
  rw [hc 1 (by decide), hc 4 (by decide), hc 2 (by decide)]
  exact h
theorem t_cs_steal (hd : 2 ≤ d) (hL : pm_lay g) (ho : Hok v) (hs : s < 64) : ∀ m j (iv : pm_V), j + m = vN v → SV iv 11 v → SV iv 21 (TV v (csC v s j) (vy v) (vW v)) →
    ∃ iv', chg tri iv iv' ∧ pm_at X d 128 (13, [some (.ref 0), some (.int x), some (.int (nI s)), some (.int (nI j))], [], g, iv) = pm_at X d 128 (48, [some (.ref 0), some (.int x), some (.int (nI s)), some (.int (nI (vN v)))], [], g, iv') ∧ SV iv' 21 (TV v (csC v s (vN v)) (vy v) (vW v)) := by
  have hN := ho.2.2.1
  intro m
  induction m with
  | zero =>
    intro j iv hj hv ht
    have e : j = vN v := by omega
    subst e
    refine ⟨iv, chg_rf, ?_, ht⟩
    rw [b128_13 hL, t_houseCount (by omega) (lay_now hL), hv.2.2.1]
    simp only [pm_then_i, pm_then_l, pm_then_v]
    rw [b128_21, if_pos (Int32.le_refl _)]
  | succ m ih =>
    intro j iv hj hv ht
    have hlt : j < vN v := by omega
    have h1 : ¬ nI (vN v) ≤ nI j := nI_ge hlt (by omega)
    have hw : vW v < 100000 := ho.2.2.2.1
    have st : pm_at X d 128 (13, [some (.ref 0), some (.int x), some (.int (nI s)), some (.int (nI j))], [], g, iv) = if ¬ bt (nI s) j = true then pm_at X d 128 (42, [some (.ref 0), some (.int x), some (.int (nI s)), some (.int (nI j))], [], g, iv) else pm_at X d 128 (33, [some (.ref 0), some (.int x), some (.int (nI s)), some (.int (nI j))], [], g, iv) := by
      rw [b128_13 hL, t_houseCount (by omega) (lay_now hL), hv.2.2.1]
      simp only [pm_then_i, pm_then_l, pm_then_v]
      rw [b128_21, if_neg h1, b128_24, b_tst (by omega)]
      by_cases b : bt (nI s) j = true
      · rw [if_pos b, if_neg (not_not_intro rfl), if_neg (not_not_intro b)]
      · rw [if_neg b, if_pos (by decide), if_pos b]
    by_cases b : bt (nI s) j = true
    · obtain ⟨iv1, p1, p2, p3⟩ := t_putChock (X := X) (h := j) (show 2 ≤ d by omega) (lay_trial hL) ht (Hok_TV ho (Pok_self ho) hw) hlt false
      rw [if_neg Bool.false_ne_true] at p1
      have hv1 : SV iv1 11 v := SV_fr hv (fun e q1 q2 => p2 e (by simp only [List.mem_cons, List.not_mem_nil, or_false]; omega))
      have ec : csC v s (j + 1) = fun i => if i = j then false else csC v s j i := by
        rw [csC_s]
        funext i
        by_cases e : i = j
        · rw [if_pos ⟨e, b⟩, if_pos e]
        · rw [if_neg (fun q => e q.1), if_neg e]
      have p3' : SV iv1 21 (TV v (csC v s (j + 1)) (vy v) (vW v)) := by rw [ec]; exact p3
      obtain ⟨iv2, q1, q2, q3⟩ := ih (j + 1) iv1 (by omega) hv1 p3'
      refine ⟨iv2, chg_tr (chg_mo p2 (by decide)) q1, ?_, q3⟩
      rw [st, if_neg (not_not_intro b), b128_33 hL, p1]
      simp only [pm_then_i, pm_then_l, pm_then_v]
      rw [b128_42, nI_1 j, q2]
    · have ec : csC v s (j + 1) = csC v s j := by
        rw [csC_s]
        funext i
        rw [if_neg (fun q => b q.2)]
      obtain ⟨iv2, q1, q2, q3⟩ := ih (j + 1) iv (by omega) hv (by rw [ec]; exact ht)
      refine ⟨iv2, q1, ?_, q3⟩
      rw [st, if_pos b, b128_42, nI_1 j, q2]
theorem t_cs_cmp {P : Nat → Nat} {c : Nat → Bool} {w : Nat} (hd : 5 ≤ d) (hL : pm_lay g) (ho : Hok v) (hk : Pok v P) (hw : w < 100000) (hr : r < 8) {m : Nat} (hm : m ≤ 40) (hm2 : vN v ≤ m) (hR : RwC iv r m it) (hv : SV iv 11 v) (ht : SV iv 21 (TV v c P w)) : ∀ q j, j + q = vN v →
    pm_at X d 128 (58, [some (.ref 0), some (.int (nI r)), some (.int x), some (.int (nI j))], [], g, iv) = some (some (.int (if alF (fun h => decide (nI (P h) = it h)) q j = true then 1 else 0)), g, iv) := by
  have hN := ho.2.2.1
  intro q
  induction q with
  | zero =>
    intro j hj
    have e : j = vN v := by omega
    subst e
    rw [b128_58 hL, t_houseCount (by omega) (lay_now hL), hv.2.2.1]
    simp only [pm_then_i, pm_then_l, pm_then_v]
    rw [b128_66, if_pos (Int32.le_refl _), b128_97, alF, if_pos rfl]
  | succ q ih =>
    intro j hj
    have hlt : j < vN v := by omega
    have h1 : ¬ nI (vN v) ≤ nI j := nI_ge hlt (by omega)
    have hI := t_itemAt (X := X) (d := d) (g := g) (iv := iv) (i := j) hd hL hr hR.1 hR.2.1 hm (by omega)
    rw [hR.2.2 j (by omega)] at hI
    have hy : pm_c X d 39 [.ref 21, .int (nI j)] g iv = some (some (.int (nI (P j))), g, iv) := t_yardOf (by omega) (lay_trial hL) ht (Hok_TV ho hk hw) hlt
    rw [b128_58 hL, t_houseCount (by omega) (lay_now hL), hv.2.2.1]
    simp only [pm_then_i, pm_then_l, pm_then_v]
    rw [b128_66, if_neg h1, b128_69 hL, hy]
    simp only [pm_then_i, pm_then_l, pm_then_v]
    rw [b128_77 hL, hI]
    simp only [pm_then_i, pm_then_l, pm_then_v]
    rw [b128_86, alF]
    by_cases e : nI (P j) = it j
    · rw [if_pos e, b128_91, nI_1 j, ih (j + 1) (by omega), decide_eq_true e, Bool.true_and]
    · rw [if_neg e, b128_89, decide_eq_false e, Bool.false_and, if_neg Bool.false_ne_true]
theorem t_comesSo (hd : 6 ≤ d) (hL : pm_lay g) (hv : SV iv 11 v) (ho : Hok v) (hs : Dst v (vy v)) (hw9 : vW v ≤ 9999) (hs6 : s < 64) (hr : r < 8) {m : Nat} (hm : m ≤ 40) (hm2 : vN v ≤ m) (hR : RwC iv r m it) : ∃ iv', chg tri iv iv' ∧ pm_c X d 128 [.ref 0, .int (nI r), .int (nI s)] g iv = some (some (.int (if pcE v s it = true then 1 else 0)), g, iv') := by
  obtain ⟨d, rfl, hd1⟩ := pm_d1 hd
  have hN := ho.2.2.1
  obtain ⟨iv1, a1, a2, a3⟩ := t_take (X := X) (show 1 ≤ d by omega) hL hv ho
  have hv1 : SV iv1 11 v := SV_fr hv (fun e p1 p2 => a2 e (by simp only [tri, List.mem_cons, List.not_mem_nil, or_false]; omega))
  obtain ⟨iv2, b1, b2, b3⟩ := t_cs_steal (X := X) (x := nI r) (s := s) (show 2 ≤ d by omega) hL ho hs6 (vN v) 0 iv1 (by omega) hv1 (by rw [csC_0]; exact a3)
  obtain ⟨iv3, x', c1, c2, c3⟩ := t_roll1 (X := X) (show 5 ≤ d by omega) (lay_trial hL) ho ho.2.2.2.1 (Pok_self ho) hs b3
  have hc : chg tri iv iv3 := chg_tr a2 (chg_tr b1 (chg_mo c2 (by decide)))
  have hv3 : SV iv3 11 v := SV_fr hv (fun e p1 p2 => hc e (by simp only [tri, List.mem_cons, List.not_mem_nil, or_false]; omega))
  have hw : vW v < 100000 := ho.2.2.2.1
  refine ⟨iv3, hc, ?_⟩
  rw [nI_0] at b2
  rw [e128, b128_0 hL, a1]
  simp only [pm_then_i, pm_then_l, pm_then_v]
  rw [b128_11, b2, b128_48 hL, c1]
  simp only [pm_then_i, pm_then_l, pm_then_v]
  have c3' : SV iv3 21 (TV v (csC v s (vN v)) (csP v s) (vW v + 1)) := c3
  have hcm : ∀ w < 100000, SV iv3 21 (TV v (csC v s (vN v)) (csP v s) w) → pm_at X d 128 (58, [some (.ref 0), some (.int (nI r)), some (.int (nI s)), some (.int (nI 0))], [], g, iv3) = some (some (.int (if pcE v s it = true then 1 else 0)), g, iv3) := fun w hw ht => t_cs_cmp (show 5 ≤ d by omega) hL ho (Pok_wnt (Pok_self ho)) hw hr hm hm2 (RwC_fr hR hc) hv3 ht (vN v) 0 (by omega)
  rw [b128_55]
  rw [nI_0] at hcm
  exact hcm _ (by omega) c3'
end Q60
