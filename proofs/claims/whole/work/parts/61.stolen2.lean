/-! stolen: the reference, and the pair -/
theorem alF_s {p : Nat → Bool} : ∀ m k, alF p (m + 1) k = (alF p m k && p (k + m))
  | 0, k => by
    show (p k && true) = (true && p (k + 0))
    rw [Bool.and_true, Bool.true_and, Nat.add_zero]
  | m + 1, k => by
    rw [alF, alF_s m (k + 1), alF, Bool.and_assoc, show k + 1 + m = k + (m + 1) by omega]
section Q61
variable {X : pm_X} {d k : Nat} {g : pm_G} {iv : pm_V} {v u : HV} {x y z : Int32} {r s : Nat} {it : Nat → Int32}
theorem fl_0 (b : Bool) : ((if b = true then (1 : Int32) else 0) = 0) ↔ ¬ b = true := by cases b <;> simp
theorem m_cs_steal (hL : pm_lay g) (ho : Hok v) (hs : s < 64) : ∀ m j (iv : pm_V), j + m = vN v → HAr (iv 36) v → HE iv (vN v) (csC v s j) →
    ∃ iv', chg [41] iv iv' ∧ pm_at X d 188 (9, [some (.ref 32), some (.int x), some (.int (nI s)), some (.int (if alF (fun h => !bt (nI s) h || vC v h) j 0 = true then 1 else 0)), some (.int (nI j))], [], g, iv) = pm_at X d 188 (84, [some (.ref 32), some (.int x), some (.int (nI s)), some (.int (if acB v s = true then 1 else 0)), some (.int (nI (vN v)))], [], g, iv') ∧ HE iv' (vN v) (csC v s (vN v)) := by
  have hN := ho.2.2.1
  intro m
  induction m with
  | zero =>
    intro j iv hj hv hh
    have e : j = vN v := by omega
    subst e
    refine ⟨iv, chg_rf, ?_, hh⟩
    rw [b188_9 hL, hv.2.2.1, if_pos (Int32.le_refl _)]
    rfl
  | succ m ih =>
    intro j iv hj hv hh
    have hlt : j < vN v := by omega
    have h1 : ¬ nI (vN v) ≤ nI j := nI_ge hlt (by omega)
    have hj6 : vp_in (nI j) 6 := vp_n (by omega) (by decide)
    have cj := nI_c (show j < 2147483648 by omega)
    have hhj : iv 41 j = if vC v j = true then 1 else 0 := by
      rw [hh j hlt]
      unfold csC
      rw [show (decide (j < j) && bt (nI s) j) = false by simp, if_neg Bool.false_ne_true]
    have hcc : ∀ h, h < vN v → (pm_iw iv 41 j (if bt (nI s) j = true then 0 else iv 41 j)) 41 h = if csC v s (j + 1) h = true then 1 else 0 := fun h hhh => by
      have e2 : csC v s (j + 1) h = if h = j ∧ bt (nI s) j = true then false else csC v s j h := by rw [csC_s]
      rw [iw_s, e2]
      by_cases e : h = j
      · subst e
        rw [upd_s]
        by_cases b : bt (nI s) h = true
        · rw [if_pos b, if_pos (show h = h ∧ bt (nI s) h = true from ⟨rfl, b⟩), if_neg Bool.false_ne_true]
        · rw [if_neg b, if_neg (show ¬ (h = h ∧ bt (nI s) h = true) from fun q => b q.2)]
          exact hh h hhh
      · rw [upd_n e, if_neg (show ¬ (h = j ∧ bt (nI s) j = true) from fun q => e q.1)]
        exact hh h hhh
    obtain ⟨iv2, q1, q2, q3⟩ := ih (j + 1) (pm_iw iv 41 j (if bt (nI s) j = true then 0 else iv 41 j)) (by omega) (by rw [iw_n (by decide)]; exact hv) hcc
    refine ⟨iv2, chg_tr (chg_iw (by decide)) q1, ?_, q3⟩
    rw [← q2]
    rw [alF_s, Nat.zero_add]
    have s9 : ∀ w : Int32, pm_at X d 188 (49, [some (.ref 32), some (.int x), some (.int (nI s)), some (.int (if alF (fun h => !bt (nI s) h || vC v h) j 0 = true then 1 else 0)), some (.int (nI j))], [.int w], g, iv) = pm_at X d 188 (9, [some (.ref 32), some (.int x), some (.int (nI s)), some (.int w), some (.int (nI (j + 1)))], [], g, pm_iw iv 41 j (if bt (nI s) j = true then 0 else iv 41 j)) := fun w => by
      rw [b188_49 hL, b_tst (by omega)]
      by_cases b : bt (nI s) j = true
      · rw [if_pos b, if_pos b, if_neg (not_not_intro rfl), b188_66, b188_77 hL hj6, cj, nI_1 j]
      · rw [if_neg b, if_neg b, if_pos (by decide), b188_70 hL hj6, b188_77 hL hj6, cj, nI_1 j]
    rw [b188_9 hL, hv.2.2.1, if_neg h1, b188_20]
    by_cases a : alF (fun h => !bt (nI s) h || vC v h) j 0 = true
    · rw [if_neg (fun e => ((fl_0 _).mp e) a), b188_24, b_tst (by omega)]
      by_cases b : bt (nI s) j = true
      · rw [if_pos b, if_neg (by decide), b188_33 hL hj6, cj, hhj]
        by_cases c : vC v j = true
        · rw [if_pos c, if_neg (not_not_intro rfl), b188_44, s9, a, b, c]
          rfl
        · have c' : vC v j = false := Bool.eq_false_iff.mpr c
          rw [if_neg c, if_pos (by decide), b188_48, s9, a, b, c']
          rfl
      · have b' : bt (nI s) j = false := Bool.eq_false_iff.mpr b
        rw [if_neg b, if_pos rfl, b188_44, s9, a, b']
        rfl
    · have a' : alF (fun h => !bt (nI s) h || vC v h) j 0 = false := Bool.eq_false_iff.mpr a
      rw [if_pos ((fl_0 _).mpr a), b188_48, s9, a']
      rfl
theorem m_cs_cmp {P : Nat → Nat} {a0 : Bool} (hL : pm_lay g) (ho : Hok v) (hr : r < 8) {m : Nat} (hm : m ≤ 40) (hm2 : vN v ≤ m) (hv : HAr (iv 36) v) (hp : PL iv 40 (vN v) P) (hi : ∀ h, h < m → iv 35 (40 * r + h) = it h) : ∀ q j, j + q = vN v →
    pm_at X d 188 (97, [some (.ref 32), some (.int (nI r)), some (.int x), some (.int (if (a0 && alF (fun h => decide (nI (P h) = it h)) j 0) = true then 1 else 0)), some (.int (nI j))], [], g, iv) = some (some (.int (if (a0 && alF (fun h => decide (nI (P h) = it h)) (vN v) 0) = true then 1 else 0)), g, iv) := by
  have hN := ho.2.2.1
  intro q
  induction q with
  | zero =>
    intro j hj
    have e : j = vN v := by omega
    subst e
    rw [b188_97 hL, hv.2.2.1, if_pos (Int32.le_refl _), b188_146, zrB]
  | succ q ih =>
    intro j hj
    have hlt : j < vN v := by omega
    have h1 : ¬ nI (vN v) ≤ nI j := nI_ge hlt (by omega)
    have hj6 : vp_in (nI j) 6 := vp_n (by omega) (by decide)
    have cj := nI_c (show j < 2147483648 by omega)
    obtain ⟨p1, p2, p3⟩ := r_mk2 hr (show j < 40 by omega)
    have ih' := ih (j + 1) (by omega)
    rw [alF_s, Nat.zero_add] at ih'
    rw [b188_97 hL, hv.2.2.1, if_neg h1, b188_108]
    by_cases a : (a0 && alF (fun h => decide (nI (P h) = it h)) j 0) = true
    · rw [if_neg (fun e => ((fl_0 _).mp e) a), b188_112 hL hj6 p1, cj, p2, hp j hlt, hi j (by omega)]
      by_cases e : nI (P j) = it j
      · rw [if_neg (not_not_intro e), b188_134, b188_139, nI_1 j]
        rw [← Bool.and_assoc, a, decide_eq_true e] at ih'
        exact ih'
      · rw [if_pos e, b188_138, b188_139, nI_1 j]
        rw [← Bool.and_assoc, a, decide_eq_false e] at ih'
        exact ih'
    · have a' : (a0 && alF (fun h => decide (nI (P h) = it h)) j 0) = false := Bool.eq_false_iff.mpr a
      rw [if_pos ((fl_0 _).mpr a), b188_138, b188_139, nI_1 j]
      rw [← Bool.and_assoc, a', Bool.false_and] at ih'
      exact ih'
theorem m_comesSo (hd : 6 ≤ d) (hL : pm_lay g) (hv : HAr (iv 36) v) (ho : Hok v) (hs : s < 64) (hr : r < 8) {m : Nat} (hm : m ≤ 40) (hm2 : vN v ≤ m) (hi : ∀ h, h < m → iv 35 (40 * r + h) = it h) : ∃ iv', chg [40, 41, 42] iv iv' ∧ pm_c X d 188 [.ref 32, .int (nI r), .int (nI s)] g iv = some (some (.int (if stlF v it s = true then 1 else 0)), g, iv') := by
  obtain ⟨d, rfl, hd1⟩ := pm_d1 hd
  obtain ⟨iv1, a1, a2, a3, a4⟩ := m_layNow (X := X) (show 2 ≤ d by omega) hL hv ho
  have hv1 : HAr (iv1 36) v := by rw [a2 36 (by decide)]; exact hv
  obtain ⟨iv2, b1, b2, b3⟩ := m_cs_steal (X := X) (d := d) (x := nI r) (s := s) hL ho hs (vN v) 0 iv1 (by omega) hv1 (by rw [csC_0]; exact a4)
  have hv2 : HAr (iv2 36) v := by rw [b1 36 (by decide)]; exact hv1
  obtain ⟨iv3, c1, c2, c3⟩ := m_goWinter (X := X) (d := d) (w := vW v) (show 5 ≤ d by omega) hL hv2 ho (fun h hh => by rw [b1 40 (by decide)]; exact a3 h hh) (Pok_self ho) b3 (by have := ho.2.2.2.1; omega)
  have hv3 : HAr (iv3 36) v := by rw [c2 36 (by decide)]; exact hv2
  have hc : chg [40, 41, 42] iv iv3 := chg_tr (chg_mo a2 (by decide)) (chg_tr (chg_mo b1 (by decide)) (chg_mo c2 (by decide)))
  have hcm := m_cs_cmp (X := X) (d := d) (iv := iv3) (x := nI s) (it := it) (P := csP v s) (a0 := acB v s) hL ho hr hm hm2 hv3 c3 (fun h hh => by rw [hc 35 (by decide)]; exact hi h hh) (vN v) 0 (by omega)
  refine ⟨iv3, hc, ?_⟩
  rw [nI_0] at b2 hcm
  have b2 : pm_at X d 188 (9, [some (.ref 32), some (.int (nI r)), some (.int (nI s)), some (.int 1), some (.int 0)], [], g, iv1) = _ := b2
  have hcm : pm_at X d 188 (97, [some (.ref 32), some (.int (nI r)), some (.int (nI s)), some (.int (if (acB v s && true) = true then 1 else 0)), some (.int 0)], [], g, iv3) = _ := hcm
  rw [Bool.and_true] at hcm
  rw [e188, b188_0 hL, a1]
  simp only [pm_then_i, pm_then_l, pm_then_v]
  rw [b188_4, b2, b188_84 hL, hv2.2.2.2.1, c1]
  simp only [pm_then_i, pm_then_l, pm_then_v]
  rw [b188_94, hcm]
  rfl
/-- the class's test of a set -/
theorem t_ac (hv : SV iv 11 v) (ho : Hok v) (hs : s < 64) : (nI s &&& (iv 11 4 ^^^ (-1)) = 0) ↔ (s < 2 ^ vN v ∧ acB v s = true) := by
  have hN := ho.2.2.1
  have hb : ∀ i, i < 32 → bt (nI s &&& (iv 11 4 ^^^ (-1))) i = (s.testBit i && !(decide (i < vN v) && vC v i)) := fun i hi => by rw [b_and, b_nt _ hi, hv.2.2.2.2.1 i hi, bt_nI (by omega)]
  rw [b_eq0]
  constructor
  · intro h
    have h' : ∀ i, i < 32 → (s.testBit i && !(decide (i < vN v) && vC v i)) = false := fun i hi => by rw [← hb i hi]; exact h i hi
    have hc : ∀ i, i < 32 → s.testBit i = true → i < vN v ∧ vC v i = true := fun i hi ht => by
      have := h' i hi
      rw [ht, Bool.true_and] at this
      have : (decide (i < vN v) && vC v i) = true := by
        rcases hq : (decide (i < vN v) && vC v i) with _ | _
        · rw [hq] at this; cases this
        · rfl
      rw [Bool.and_eq_true, decide_eq_true_eq] at this
      exact this
    refine ⟨Nat.lt_pow_two_of_testBit _ (fun i hi => ?_), alF_n _ _ (fun j _ hj => ?_)⟩
    · rcases hq : s.testBit i with _ | _
      · rfl
      · exfalso
        rcases Nat.lt_or_ge i 32 with p | p
        · have := (hc i p hq).1; omega
        · have : s < 2 ^ i := Nat.lt_of_lt_of_le (show s < 2 ^ 6 from hs) (Nat.pow_le_pow_right (by omega) (by omega))
          rw [Nat.testBit_lt_two_pow this] at hq
          cases hq
    · show (!bt (nI s) j || vC v j) = true
      rw [bt_nI (by omega)]
      rcases hq : s.testBit j with _ | _
      · rfl
      · rw [(hc j (by omega) hq).2]; rfl
  · intro ⟨h1, h2⟩ i hi
    rw [hb i hi]
    rcases hq : s.testBit i with _ | _
    · rfl
    · have hiN : i < vN v := by
        rcases Nat.lt_or_ge i (vN v) with p | p
        · exact p
        · have : s < 2 ^ i := Nat.lt_of_lt_of_le h1 (Nat.pow_le_pow_right (by omega) p)
          rw [Nat.testBit_lt_two_pow this] at hq
          cases hq
      have := alF_y _ _ h2 i (by omega) (by omega)
      have this : (!bt (nI s) i || vC v i) = true := this
      rw [bt_nI (by omega), hq] at this
      have this : vC v i = true := this
      rw [decide_eq_true hiN, this]
      rfl
theorem pw_le {n : Nat} (h : n ≤ 6) : 2 ^ n ≤ 64 := Nat.pow_le_pow_right (n := 2) (by omega) (i := n) (j := 6) h
theorem t_stolen_loop (hd : 7 ≤ d) (hL : pm_lay g) (ho : Hok v) (hs : Dst v (vy v)) (hw9 : vW v ≤ 9999) (hr : r < 8) {m : Nat} (hm : m ≤ 40) (hm2 : vN v ≤ m) : ∀ q s (iv : pm_V), s + q = 64 → SV iv 11 v → RwC iv r m it → (∀ i, i < s → i < 2 ^ vN v → stlF v it i = false) →
    ∃ iv', chg tri iv iv' ∧ pm_at X d 111 (108, [some (.ref 0), some (.int (nI r)), some (.int (nI s))], [], g, iv) = some (some (.int (stlI v it)), g, pm_iw iv' 0 7 0) := by
  have hN := ho.2.2.1
  have hpw := pw_le hN
  intro q
  induction q with
  | zero =>
    intro s iv h64 hv hR hno
    have e : s = 64 := by omega
    subst e
    refine ⟨iv, chg_rf, ?_⟩
    have e1 : fstF (stlF v it) (2 ^ vN v) = 2 ^ vN v := fstF_none (fun i hi => hno i (by omega) hi)
    rw [b111_108, if_pos (show (64 : Int32) ≤ nI 64 from Int32.le_refl _), b111_146 hL, t_answered (by omega) hL]
    simp only [pm_then_i, pm_then_l, pm_then_v]
    rw [b111_152, stlI, e1, if_neg (Nat.lt_irrefl _)]
  | succ q ih =>
    intro s iv h64 hv hR hno
    have h1 : ¬ (64 : Int32) ≤ nI s := by rw [le_i, show (64 : Int32).toInt = 64 from rfl, nI_t (by omega)]; omega
    have ha := t_areChocked (X := X) (d := d) (x := nI s) (iv := iv) (show 1 ≤ d by omega) (lay_now hL)
    have hac := t_ac (s := s) hv ho (by omega)
    have skip : ∀ iv1 : pm_V, chg tri iv iv1 → (s < 2 ^ vN v → stlF v it s = false) → pm_at X d 111 (108, [some (.ref 0), some (.int (nI r)), some (.int (nI s))], [], g, iv) = pm_at X d 111 (140, [some (.ref 0), some (.int (nI r)), some (.int (nI s))], [], g, iv1) → ∃ iv', chg tri iv iv' ∧ pm_at X d 111 (108, [some (.ref 0), some (.int (nI r)), some (.int (nI s))], [], g, iv) = some (some (.int (stlI v it)), g, pm_iw iv' 0 7 0) := fun iv1 hc hf he => by
      have hv1 : SV iv1 11 v := SV_fr hv (fun e p1 p2 => hc e (by simp only [tri, List.mem_cons, List.not_mem_nil, or_false]; omega))
      obtain ⟨iv2, x1, x2⟩ := ih (s + 1) iv1 (by omega) hv1 (RwC_fr hR hc) (fun i hi hi2 => by
        by_cases e : i = s
        · rw [e] at hi2 ⊢
          exact hf hi2
        · exact hno i (by omega) hi2)
      refine ⟨iv2, chg_tr hc x1, ?_⟩
      rw [he, b111_140, nI_1 s, x2]
    by_cases a : nI s &&& (iv 11 4 ^^^ (-1)) = 0
    · rw [if_pos a] at ha
      obtain ⟨a1, a2⟩ := hac.mp a
      obtain ⟨iv1, c1, c2⟩ := t_comesSo (X := X) (d := d) (iv := iv) (s := s) (it := it) (show 6 ≤ d by omega) hL hv ho hs hw9 (by omega) hr hm hm2 hR
      have st : pm_at X d 111 (108, [some (.ref 0), some (.int (nI r)), some (.int (nI s))], [], g, iv) = pm_at X d 111 (131, [some (.ref 0), some (.int (nI r)), some (.int (nI s))], [.int (if pcE v s it = true then 1 else 0)], g, iv1) := by
        rw [b111_108, if_neg h1, b111_114 hL, ha]
        simp only [pm_then_i, pm_then_l, pm_then_v]
        rw [b111_122, if_neg (by decide), b111_125 hL, c2]
        simp only [pm_then_i, pm_then_l, pm_then_v]
      by_cases p : pcE v s it = true
      · refine ⟨iv1, c1, ?_⟩
        have e1 : fstF (stlF v it) (2 ^ vN v) = s := fstF_eq a1 (by unfold stlF; rw [a2, p]; rfl) (fun i hi => hno i hi (by omega))
        rw [st, if_pos p, b111_131, if_neg (by decide), b111_134 hL, t_answered (by omega) hL]
        simp only [pm_then_i, pm_then_l, pm_then_v]
        rw [b111_139, stlI, e1, if_pos a1]
      · have p' : pcE v s it = false := Bool.eq_false_iff.mpr p
        refine skip iv1 c1 (fun _ => by unfold stlF; rw [p', Bool.and_false]) ?_
        rw [st, if_neg p, b111_131, if_pos rfl]
    · rw [if_neg a] at ha
      refine skip iv chg_rf (fun h => ?_) ?_
      · have : ¬ acB v s = true := fun e => a (hac.mpr ⟨h, e⟩)
        unfold stlF
        rw [Bool.eq_false_iff.mpr this, Bool.false_and]
      · rw [b111_108, if_neg h1, b111_114 hL, ha]
        simp only [pm_then_i, pm_then_l, pm_then_v]
        rw [b111_122, if_pos rfl]
theorem shl_pw : ∀ n, n ≤ 6 → (1 : Int32) <<< (nI n &&& 31) = nI (2 ^ n) := by decide +kernel
theorem m_stolen_loop (hd : 6 ≤ d) (hL : pm_lay g) (ho : Hok v) (hr : r < 8) {m : Nat} (hm : m ≤ 40) (hm2 : vN v ≤ m) : ∀ q s (iv : pm_V), s + q = 2 ^ vN v → HAr (iv 36) v → (∀ h, h < m → iv 35 (40 * r + h) = it h) → (∀ i, i < s → stlF v it i = false) →
    ∃ iv', chg [40, 41, 42] iv iv' ∧ pm_at X d 187 (117, [some (.ref 32), some (.int (nI r)), some (.int (nI s))], [], g, iv) = some (some (.int (stlI v it)), g, iv') := by
  have hN := ho.2.2.1
  have hpw := pw_le hN
  intro q
  induction q with
  | zero =>
    intro s iv h64 hv hR hno
    have e : s = 2 ^ vN v := by omega
    subst e
    refine ⟨iv, chg_rf, ?_⟩
    have e1 : fstF (stlF v it) (2 ^ vN v) = 2 ^ vN v := fstF_none hno
    rw [b187_117 hL, hv.2.2.1, shl_pw _ hN, if_pos (Int32.le_refl _), b187_146, stlI, e1, if_neg (Nat.lt_irrefl _)]
  | succ q ih =>
    intro s iv h64 hv hR hno
    have h1 : ¬ nI (2 ^ vN v) ≤ nI s := nI_ge (by omega) (by omega)
    obtain ⟨iv1, c1, c2⟩ := m_comesSo (X := X) (d := d) (iv := iv) (s := s) (it := it) hd hL hv ho (by omega) hr hm hm2 hR
    have hlt : s < 2 ^ vN v := by omega
    by_cases p : stlF v it s = true
    · refine ⟨iv1, c1, ?_⟩
      have e1 : fstF (stlF v it) (2 ^ vN v) = s := fstF_eq hlt p hno
      rw [b187_117 hL, hv.2.2.1, shl_pw _ hN, if_neg h1, b187_129 hL, c2]
      simp only [pm_then_i, pm_then_l, pm_then_v]
      rw [if_pos p, b187_135, if_neg (by decide), b187_138, stlI, e1, if_pos hlt]
    · obtain ⟨iv2, x1, x2⟩ := ih (s + 1) iv1 (by omega) (by rw [c1 36 (by decide)]; exact hv) (fun h hh => by rw [c1 35 (by decide)]; exact hR h hh) (fun i hi => by
        by_cases e : i = s
        · rw [e]; exact Bool.eq_false_iff.mpr p
        · exact hno i (by omega))
      refine ⟨iv2, chg_tr c1 x1, ?_⟩
      rw [b187_117 hL, hv.2.2.1, shl_pw _ hN, if_neg h1, b187_129 hL, c2]
      simp only [pm_then_i, pm_then_l, pm_then_v]
      rw [if_neg p, b187_135, if_pos rfl, b187_140, nI_1 s, x2]
theorem t_stolen_test (hd : 5 ≤ d) (hL : pm_lay g) (hv : SV iv 11 v) (ho : Hok v) (hr : r < 8) {m : Nat} (hm : m ≤ 40) (hm2 : vN v ≤ m) (hR : RwC iv r m it) : ∀ q j, j + q = vN v →
    pm_at X d 111 (67, [some (.ref 0), some (.int (nI r)), some (.int (nI j))], [], g, iv) = if alF (fun h => ip (it h) (vD v)) q j = true then pm_at X d 111 (106, [some (.ref 0), some (.int (nI r)), some (.int (nI (vN v)))], [], g, iv) else some (some (.int (-1000001)), g, iv) := by
  have hN := ho.2.2.1
  intro q
  induction q with
  | zero =>
    intro j hj
    have e : j = vN v := by omega
    subst e
    rw [b111_67 hL, t_houseCount (by omega) (lay_now hL), hv.2.2.1]
    simp only [pm_then_i, pm_then_l, pm_then_v]
    rw [b111_75, if_pos (Int32.le_refl _), alF, if_pos rfl]
  | succ q ih =>
    intro j hj
    have h1 : ¬ nI (vN v) ≤ nI j := nI_ge (by omega) (by omega)
    have hI := t_itemAt (X := X) (d := d) (g := g) (iv := iv) (i := j) hd hL hr hR.1 hR.2.1 hm (by omega)
    rw [hR.2.2 j (by omega)] at hI
    rw [b111_67 hL, t_houseCount (by omega) (lay_now hL), hv.2.2.1]
    simp only [pm_then_i, pm_then_l, pm_then_v]
    rw [b111_75, if_neg h1, b111_78 hL, hI]
    simp only [pm_then_i, pm_then_l, pm_then_v, b111_91 hL, t_isYard (show 1 ≤ d by omega) (lay_now hL) hv ho, b111_94, b111_97, b111_100, nI_1, alF]
    by_cases p : ip (it j) (vD v) = true
    · simp only [p, bz_0, bz_n, bz_1, pm_zr0, pm_zr1, pm_zrI, if_true, if_false, not_true, not_false_eq_true, Bool.false_eq_true, true_and, and_true, false_and, and_false, z10, z01, zz0, eq_self, Bool.true_and]
      exact ih (j + 1) (by omega)
    · simp only [p, bz_0, bz_n, bz_1, pm_zr0, pm_zr1, pm_zrI, if_true, if_false, not_true, not_false_eq_true, Bool.false_eq_true, true_and, and_true, false_and, and_false, z10, z01, zz0, eq_self, Bool.false_and]
theorem m_stolen_test (hd : 2 ≤ d) (hL : pm_lay g) (hv : HAr (iv 36) v) (ho : Hok v) (hr : r < 8) {m : Nat} (hm : m ≤ 40) (hm2 : vN v ≤ m) (hR : ∀ h, h < m → iv 35 (40 * r + h) = it h) : ∀ q j, j + q = vN v →
    pm_at X d 187 (63, [some (.ref 32), some (.int (nI r)), some (.int (nI j))], [], g, iv) = if alF (fun h => ip (it h) (vD v)) q j = true then pm_at X d 187 (110, [some (.ref 32), some (.int (nI r)), some (.int (nI (vN v)))], [], g, iv) else some (some (.int (-1000001)), g, iv) := by
  have hN := ho.2.2.1
  have hD := ho.2.1
  have e1 : (iv 36 1 - 1 : Int32).toInt64.toInt = (vD v : Int) - 1 := by rw [wd_t, hv.2.1, nI_m1 (by omega)]
  have z0 : (0 : Int64).toInt = 0 := rfl
  have p1 : ∀ w : Int32, (0 ≤ w.toInt ∧ w.toInt ≤ (vD v : Int) - 1) ↔ ip w (vD v) = true := fun w => by rw [ip, decide_eq_true_eq]; omega
  intro q
  induction q with
  | zero =>
    intro j hj
    have e : j = vN v := by omega
    subst e
    rw [b187_63 hL, hv.2.2.1, if_pos (Int32.le_refl _), alF, if_pos rfl]
  | succ q ih =>
    intro j hj
    have h1 : ¬ nI (vN v) ≤ nI j := nI_ge (by omega) (by omega)
    obtain ⟨q1, q2, q3⟩ := r_mk2 hr (show j < 40 by omega)
    rw [b187_63 hL, hv.2.2.1, if_neg h1, b187_73 hL q1, q2, hR j (by omega)]
    simp only [m_inI (show 1 ≤ d by omega), e1, z0, p1, pm_then_i, pm_then_l, pm_then_v, b187_98, b187_101, b187_104, nI_1, alF]
    by_cases p : ip (it j) (vD v) = true
    · simp only [p, bz_0, bz_n, bz_1, pm_zr0, pm_zr1, pm_zrI, if_true, if_false, not_true, not_false_eq_true, Bool.false_eq_true, true_and, and_true, false_and, and_false, z10, z01, zz0, eq_self, Bool.true_and]
      exact ih (j + 1) (by omega)
    · simp only [p, bz_0, bz_n, bz_1, pm_zr0, pm_zr1, pm_zrI, if_true, if_false, not_true, not_false_eq_true, Bool.false_eq_true, true_and, and_true, false_and, and_false, z10, z01, zz0, eq_self, Bool.false_and]
theorem q_stolen (hd : 10 ≤ d) (h : RL g iv) : PR X d g iv 111 187 [.ref 0, .int x] [.ref 32, .int x] := by
  obtain ⟨d, rfl, hd1⟩ := pm_d1 hd
  obtain ⟨hg, v, co⟩ := h
  have hL := hg.1
  have hv := co.1.1
  have ho := co.1.2.2.1
  have hs := co.1.2.2.2.1
  have hw9 := co.1.2.2.2.2.1
  have hN := ho.2.2.1
  have co2 := CO_0 co
  have hw := co2.1.2.1
  have fnd : ∀ w, CO g (pm_iw (pm_iw (pm_iw iv 0 7 w) 32 0 0) 32 1 w) v := fun w => CO_sx co (chg_tr (chg_iw (by decide)) (chg_tr (chg_iw (by decide)) (chg_iw (by decide)))) (fun c p0 p1 => by rw [iw_s, iw_s, upd_n p1, upd_n p0, iw_n (by decide)]) (by rw [iw_n (by decide), iw_n (by decide), iw_s, upd_s, iw_s, upd_s])
  have fc : ∀ w c, c ≠ 0 → c ≠ 32 → pm_iw (pm_iw iv 0 7 w) 32 0 0 c = iv c := fun w c p0 p1 => by rw [iw_n p1, iw_n p0]
  by_cases q0 : 0 < vL v
  · by_cases q1 : ip x 8 = true
    · obtain ⟨r, hr, rfl⟩ := ip_ex q1 (by omega)
      have hin : vp_in (nI r) 8 := vp_n hr (by decide)
      have cr := nI_c (show r < 2147483648 by omega)
      have hC : pm_c X (d + 1) 111 [.ref 0, .int (nI r)] g iv = pm_at X d 111 (23, [some (.ref 0), some (.int (nI r)), none], [], g, iv) := by
        simp only [e111, b111_0 hL, t_stands (show 1 ≤ d by omega) (lay_now hL) hv ho, q0, pm_then_i, pm_then_l, pm_then_v, bz_0, bz_n, bz_1, pm_zr0, pm_zr1, pm_zrI, if_true, if_false, not_true, not_false_eq_true, Bool.false_eq_true, true_and, and_true, false_and, and_false, z10, z01, zz0, eq_self, b111_7, b111_13, t_isRow (show 2 ≤ d by omega), q1, b111_17]
      have hM : ∀ iv1 : pm_V, HAr ((pm_iw iv1 32 0 0) 36) v → pm_c X (d + 1) 187 [.ref 32, .int (nI r)] g iv1 = pm_at X d 187 (25, [some (.ref 32), some (.int (nI r)), none], [], g, pm_iw iv1 32 0 0) := fun iv1 hw1 => by
        simp only [e187, b187_0 hL, m_isThere (show 1 ≤ d by omega) hL hw1 ho, q0, pm_then_i, pm_then_l, pm_then_v, bz_0, bz_n, bz_1, pm_zr0, pm_zr1, pm_zrI, if_true, if_false, not_true, not_false_eq_true, Bool.false_eq_true, true_and, and_true, false_and, and_false, z10, z01, zz0, eq_self, b187_9, b187_15, m_isRow (show 2 ≤ d by omega), q1, b187_19]
      rcases co.2.1.2 r hr with ⟨a1, a2⟩ | ⟨a1, l, m, hl, hm, a2, a3, a4, a5, a6⟩
      · have n0 : ¬ (0 : Int32) ≤ -1 := by decide
        refine ⟨-1000010 - 1, pm_iw iv 0 7 1, _, ?_, ?_, hg, v, fnd 1⟩
        · rw [hC]
          simp only [b111_23 hL, t_missing (show 3 ≤ d by omega) hL hr, a1, pm_then_i, pm_then_l, pm_then_v, bz_0, bz_n, bz_1, pm_zr0, pm_zr1, pm_zrI, if_true, if_false, not_true, not_false_eq_true, Bool.false_eq_true, true_and, and_true, false_and, and_false, z10, z01, zz0, eq_self, b111_31, b111_34 hL, t_found (show 1 ≤ d by omega) hL, b111_39]
        · rw [hM _ (by rw [iw_n (by decide), iw_n (by decide)]; exact co.1.2.1)]
          simp only [b187_25 hL hin, cr, fc 1 33 (by decide) (by decide), a2, n0, bz_0, bz_n, bz_1, pm_zr0, pm_zr1, pm_zrI, if_true, if_false, not_true, not_false_eq_true, Bool.false_eq_true, true_and, and_true, false_and, and_false, z10, z01, zz0, eq_self, b187_34 hL, m_finding (show 1 ≤ d by omega) hL, pm_then_i, pm_then_l, pm_then_v, b187_39]
      · have hl0 : (0 : Int32) ≤ nI l := by rw [le_i, toI0, nI_t (by omega)]; omega
        have ele : nI (vN v) ≤ nI m ↔ vN v ≤ m := nI_le' (by omega) (by omega)
        have epc : pcB m (nI 0) (nI (vN v)) = decide (vN v ≤ m) := by
          unfold pcB
          rw [nI_t (by omega), nI_t (by omega)]
          by_cases w : vN v ≤ m
          · rw [decide_eq_true w, decide_eq_true (by omega)]
          · rw [decide_eq_false w, decide_eq_false (by omega)]
        rw [nI_0] at epc
        by_cases q2 : vN v ≤ m
        · have hR : RwC iv r m (fun h => iv 2 (40 * r + h)) := ⟨a1, a5, fun _ _ => rfl⟩
          have hC2 : pm_at X d 111 (23, [some (.ref 0), some (.int (nI r)), none], [], g, iv) = pm_at X d 111 (67, [some (.ref 0), some (.int (nI r)), some (.int (nI 0))], [], g, iv) := by
            simp only [b111_23 hL, t_missing (show 3 ≤ d by omega) hL hr, a1, pm_then_i, pm_then_l, pm_then_v, bz_0, bz_n, bz_1, pm_zr0, pm_zr1, pm_zrI, if_true, if_false, not_true, not_false_eq_true, Bool.false_eq_true, true_and, and_true, false_and, and_false, z10, z01, zz0, eq_self, b111_31, b111_40 hL, t_houseCount (show 1 ≤ d by omega) (lay_now hL), hv.2.2.1, b111_53 hL, t_placesB (show 4 ≤ d by omega) hL hr a1 a5 hm, epc, decide_eq_true q2, b111_56, b111_65, nI_0]
          have hM2 : ∀ iv1 : pm_V, HAr (iv1 36) v → iv1 33 r = nI l → iv1 34 r = nI m → pm_at X d 187 (25, [some (.ref 32), some (.int (nI r)), none], [], g, iv1) = pm_at X d 187 (63, [some (.ref 32), some (.int (nI r)), some (.int (nI 0))], [], g, iv1) := fun iv1 hw1 h33 h34 => by
            simp only [b187_25 hL hin, cr, h33, hl0, bz_0, bz_n, bz_1, pm_zr0, pm_zr1, pm_zrI, if_true, if_false, not_true, not_false_eq_true, Bool.false_eq_true, true_and, and_true, false_and, and_false, z10, z01, zz0, eq_self, b187_40 hL hin, h34, hw1.2.2.1, ele, q2, b187_61, nI_0]
          have hi35 : ∀ iv1 : pm_V, iv1 35 = iv 35 → ∀ h, h < m → iv1 35 (40 * r + h) = iv 2 (40 * r + h) := fun iv1 e h hh => by rw [e, a6 h hh]
          by_cases q3 : alF (fun h => ip (iv 2 (40 * r + h)) (vD v)) (vN v) 0 = true
          · obtain ⟨iv1, x1, x2⟩ := t_stolen_loop (X := X) (d := d) (it := fun h => iv 2 (40 * r + h)) (show 7 ≤ d by omega) hL ho hs hw9 hr hm q2 64 0 iv (by omega) hv hR (fun i hi => absurd hi (Nat.not_lt_zero i))
            have f1 : ∀ c, c ∉ tri → c ≠ 0 → c ≠ 32 → (pm_iw (pm_iw iv1 0 7 0) 32 0 0) c = iv c := fun c ht p0 p32 => by rw [iw_n p32, iw_n p0, x1 c ht]
            have hw1 : HAr ((pm_iw (pm_iw iv1 0 7 0) 32 0 0) 36) v := by rw [f1 36 (by decide) (by decide) (by decide)]; exact co.1.2.1
            obtain ⟨iv2, y1, y2⟩ := m_stolen_loop (X := X) (d := d) (it := fun h => iv 2 (40 * r + h)) (show 6 ≤ d by omega) hL ho hr hm q2 (2 ^ vN v) 0 (pm_iw (pm_iw (pm_iw iv1 0 7 0) 32 0 0) 32 1 0) (by omega) (by rw [iw_n (by decide)]; exact hw1) (hi35 _ (by rw [iw_n (by decide), f1 35 (by decide) (by decide) (by decide)])) (fun i hi => absurd hi (Nat.not_lt_zero i))
            rw [nI_0] at x2 y2
            have co3 : CO g iv2 v := by
              have cA : CO g (pm_iw (pm_iw (pm_iw iv1 0 7 0) 32 0 0) 32 1 0) v := CO_sx (CO_f0 co (chg_mo x1 (by decide)) (x1 32 (by decide))) (chg_tr (chg_iw (by decide)) (chg_tr (chg_iw (by decide)) (chg_iw (by decide)))) (fun c p0 p1 => by rw [iw_s, iw_s, upd_n p1, upd_n p0, iw_n (by decide)]) (by rw [iw_n (by decide), iw_n (by decide), iw_s, upd_s, iw_s, upd_s])
              exact CO_f0 cA (chg_mo y1 (by decide)) (y1 32 (by decide))
            refine ⟨stlI v (fun h => iv 2 (40 * r + h)), pm_iw iv1 0 7 0, iv2, ?_, ?_, hg, v, co3⟩
            · rw [hC, hC2, t_stolen_test (show 5 ≤ d by omega) hL hv ho hr hm q2 hR (vN v) 0 (by omega), if_pos q3, b111_106, x2]
            · rw [hM _ hw1, hM2 _ hw1 (by rw [f1 33 (by decide) (by decide) (by decide)]; exact a2) (by rw [f1 34 (by decide) (by decide) (by decide)]; exact a4), m_stolen_test (it := fun h => iv 2 (40 * r + h)) (show 2 ≤ d by omega) hL hw1 ho hr hm q2 (hi35 _ (f1 35 (by decide) (by decide) (by decide))) (vN v) 0 (by omega), if_pos q3, b187_110 hL, y2]
          · refine ⟨-1000001, iv, pm_iw iv 32 0 0, ?_, ?_, hg, v, co2⟩
            · rw [hC, hC2, t_stolen_test (show 5 ≤ d by omega) hL hv ho hr hm q2 hR (vN v) 0 (by omega), if_neg q3]
            · rw [hM _ hw, hM2 _ hw (by rw [iw_n (by decide)]; exact a2) (by rw [iw_n (by decide)]; exact a4), m_stolen_test (it := fun h => iv 2 (40 * r + h)) (show 2 ≤ d by omega) hL hw ho hr hm q2 (hi35 _ (by rw [iw_n (by decide)])) (vN v) 0 (by omega), if_neg q3]
        · refine ⟨-1000010 - 2, pm_iw iv 0 7 2, _, ?_, ?_, hg, v, fnd 2⟩
          · rw [hC]
            simp only [b111_23 hL, t_missing (show 3 ≤ d by omega) hL hr, a1, pm_then_i, pm_then_l, pm_then_v, bz_0, bz_n, bz_1, pm_zr0, pm_zr1, pm_zrI, if_true, if_false, not_true, not_false_eq_true, Bool.false_eq_true, true_and, and_true, false_and, and_false, z10, z01, zz0, eq_self, b111_31, b111_40 hL, t_houseCount (show 1 ≤ d by omega) (lay_now hL), hv.2.2.1, b111_53 hL, t_placesB (show 4 ≤ d by omega) hL hr a1 a5 hm, epc, decide_eq_false q2, b111_56, b111_59 hL, t_found (show 1 ≤ d by omega) hL, b111_64]
          · have h36 : (pm_iw (pm_iw iv 0 7 2) 32 0 0) 36 3 = nI (vN v) := by rw [fc 2 36 (by decide) (by decide)]; exact co.1.2.1.2.2.1
            rw [hM _ (by rw [iw_n (by decide), iw_n (by decide)]; exact co.1.2.1)]
            simp only [b187_25 hL hin, cr, fc 2 33 (by decide) (by decide), fc 2 34 (by decide) (by decide), a2, hl0, bz_0, bz_n, bz_1, pm_zr0, pm_zr1, pm_zrI, if_true, if_false, not_true, not_false_eq_true, Bool.false_eq_true, true_and, and_true, false_and, and_false, z10, z01, zz0, eq_self, b187_40 hL hin, h36, a4, ele, q2, b187_55 hL, m_finding (show 1 ≤ d by omega) hL, pm_then_i, pm_then_l, pm_then_v, b187_60]
    · refine ⟨-1000001, iv, pm_iw iv 32 0 0, ?_, ?_, hg, v, co2⟩
      · simp only [e111, b111_0 hL, t_stands (show 1 ≤ d by omega) (lay_now hL) hv ho, q0, pm_then_i, pm_then_l, pm_then_v, bz_0, bz_n, bz_1, pm_zr0, pm_zr1, pm_zrI, if_true, if_false, not_true, not_false_eq_true, Bool.false_eq_true, true_and, and_true, false_and, and_false, z10, z01, zz0, eq_self, b111_7, b111_13, t_isRow (show 2 ≤ d by omega), q1, b111_17, b111_20]
      · simp only [e187, b187_0 hL, m_isThere (show 1 ≤ d by omega) hL hw ho, q0, pm_then_i, pm_then_l, pm_then_v, bz_0, bz_n, bz_1, pm_zr0, pm_zr1, pm_zrI, if_true, if_false, not_true, not_false_eq_true, Bool.false_eq_true, true_and, and_true, false_and, and_false, z10, z01, zz0, eq_self, b187_9, b187_15, m_isRow (show 2 ≤ d by omega), q1, b187_19, b187_22]
  · refine ⟨-1000002, iv, pm_iw iv 32 0 0, ?_, ?_, hg, v, co2⟩
    · simp only [e111, b111_0 hL, t_stands (show 1 ≤ d by omega) (lay_now hL) hv ho, q0, pm_then_i, pm_then_l, pm_then_v, bz_0, bz_n, bz_1, pm_zr0, pm_zr1, pm_zrI, if_true, if_false, not_true, not_false_eq_true, Bool.false_eq_true, true_and, and_true, false_and, and_false, z10, z01, zz0, eq_self, b111_7, b111_10]
    · simp only [e187, b187_0 hL, m_isThere (show 1 ≤ d by omega) hL hw ho, q0, pm_then_i, pm_then_l, pm_then_v, bz_0, bz_n, bz_1, pm_zr0, pm_zr1, pm_zrI, if_true, if_false, not_true, not_false_eq_true, Bool.false_eq_true, true_and, and_true, false_and, and_false, z10, z01, zz0, eq_self, b187_9, b187_12]
end Q61
