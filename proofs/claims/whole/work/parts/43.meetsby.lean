/-! meet: winters in which a is chocked x and b is chocked y winters -/
def mc (v : HV) (a x b y j : Nat) : Nat → Bool := fun i => if i = b then decide (j < y) || vC v b else if i = a then decide (j < x) || vC v a else vC v i
def mP (v : HV) (a x b y : Nat) : Nat → (Nat → Nat)
  | 0 => vy v
  | j + 1 => wnt v (mc v a x b y j) (vW v + j) (mP v a x b y j)
def mtB (v : HV) (a x b y n : Nat) : Bool := bes v (mP v a x b y n) a b
theorem Pok_mP {v : HV} (ho : Hok v) {a x b y : Nat} : ∀ j, Pok v (mP v a x b y j)
  | 0 => Pok_self ho
  | j + 1 => Pok_wnt (Pok_mP ho j)
theorem Dst_mP {v : HV} (ho : Hok v) (hs : Dst v (vy v)) {a x b y : Nat} : ∀ j, Dst v (mP v a x b y j)
  | 0 => hs
  | j + 1 => Dst_wnt ho (Pok_mP ho j) (Dst_mP ho hs j)
theorem mc_o {v : HV} {a x b y j i : Nat} (h1 : i ≠ a) (h2 : i ≠ b) : mc v a x b y j i = vC v i := by rw [mc, if_neg h2, if_neg h1]
theorem zrB (c : Bool) (q : Option pm_R) : pm_zr (if c = true then 1 else 0) q = q := by
  by_cases h : c = true
  · rw [if_pos h, pm_zr1]
  · rw [if_neg h, pm_zr0]
theorem zrP {c : Prop} [Decidable c] (q : Option pm_R) : pm_zr (if c then 1 else 0) q = q := by
  by_cases h : c
  · rw [if_pos h, pm_zr1]
  · rw [if_neg h, pm_zr0]
section Q43
variable {X : pm_X} {d k : Nat} {g : pm_G} {iv : pm_V} {v : HV} {a b x y n : Nat}
theorem nI_lt' {i j : Nat} (hi : i < 2147483648) (hj : j < 2147483648) : (nI i < nI j) ↔ i < j := by rw [lt_i, nI_t hi, nI_t hj]; omega
theorem nI_le' {i j : Nat} (hi : i < 2147483648) (hj : j < 2147483648) : (nI i ≤ nI j) ↔ i ≤ j := by rw [le_i, nI_t hi, nI_t hj]; omega
theorem t_meetsBy_loop (hd : 5 ≤ d) (hL : pm_lay g) (ho : Hok v) (hs : Dst v (vy v)) (hw : vW v ≤ 9999) (ha : a < vN v) (hb : b < vN v) (hx : x ≤ 40) (hy : y ≤ 40) (hn : n ≤ 20) : ∀ m j (iv : pm_V) (c : Nat → Bool), SV iv 11 v → SV iv 21 (TV v c (mP v a x b y j) (vW v + j)) → (∀ i, i ≠ a → i ≠ b → c i = vC v i) → j + m = n →
    ∃ iv', pm_at X d 127 (14, [some (.ref 0), some (.int (nI a)), some (.int (nI x)), some (.int (nI b)), some (.int (nI y)), some (.int (nI n)), some (.int (nI j))], [], g, iv) = some (some (.int (if mtB v a x b y n = true then 1 else 0)), g, iv') ∧ chg tri iv iv' := by
  intro m
  induction m with
  | zero =>
    intro j iv c hv ht hc hj
    have e : j = n := by omega
    subst e
    refine ⟨iv, ?_, chg_rf⟩
    have hk := Hok_TV (v := v) (c := c) (w := vW v + j) ho (Pok_mP (a := a) (x := x) (b := b) (y := y) ho j) (by omega)
    have hB := t_areBeside (X := X) (a := a) (b := b) (show 3 ≤ d by omega) (lay_trial hL) ht hk ha hb
    simp only [b127_14, Int32.le_refl, if_true, b127_96 hL, hB, pm_then_i, pm_then_l, pm_then_v, b127_105]
    rw [zrB]
    rfl
  | succ m ih =>
    intro j iv c hv ht hc hj
    have h1 : ¬ nI n ≤ nI j := nI_ge (by omega) (by omega)
    have hk := Hok_TV (v := v) (c := c) (w := vW v + j) ho (Pok_mP (a := a) (x := x) (b := b) (y := y) ho j) (by omega)
    obtain ⟨iv1, a1, a2, a3⟩ := t_putChock (X := X) (h := a) (show 2 ≤ d by omega) (lay_trial hL) ht hk ha (decide (j < x) || vC v a)
    have hv1 : SV iv1 11 v := SV_fr hv (fun e p1 p2 => a2 e (by simp only [List.mem_cons, List.not_mem_nil, or_false]; omega))
    have hk1 := Hok_TV (v := v) (c := fun i => if i = a then (decide (j < x) || vC v a) else c i) (w := vW v + j) ho (Pok_mP (a := a) (x := x) (b := b) (y := y) ho j) (by omega)
    have a3' : SV iv1 21 (TV v (fun i => if i = a then (decide (j < x) || vC v a) else c i) (mP v a x b y j) (vW v + j)) := a3
    obtain ⟨iv2, b1, b2, b3⟩ := t_putChock (X := X) (h := b) (show 2 ≤ d by omega) (lay_trial hL) a3' hk1 hb (decide (j < y) || vC v b)
    have ec : (fun i => if i = b then (decide (j < y) || vC v b) else if i = a then (decide (j < x) || vC v a) else c i) = mc v a x b y j := by
      funext i
      rw [mc]
      by_cases p1 : i = b
      · rw [if_pos p1, if_pos p1]
      · by_cases p2 : i = a
        · rw [if_neg p1, if_neg p1, if_pos p2, if_pos p2]
        · rw [if_neg p1, if_neg p1, if_neg p2, if_neg p2, hc i p2 p1]
    have b3' : SV iv2 21 (TV v (mc v a x b y j) (mP v a x b y j) (vW v + j)) := by rw [← ec]; exact b3
    obtain ⟨iv3, x', c1, c2, c3⟩ := t_roll1 (X := X) hd (lay_trial hL) ho (show vW v + j < 100000 by omega) (Pok_mP (a := a) (x := x) (b := b) (y := y) ho j) (Dst_mP ho hs j) b3'
    have hc13 : chg tri iv iv3 := chg_tr (chg_mo a2 (by decide)) (chg_tr (chg_mo b2 (by decide)) (chg_mo c2 (by decide)))
    obtain ⟨iv4, d1, d2⟩ := ih (j + 1) iv3 (mc v a x b y j) (SV_fr hv (fun e p1 p2 => hc13 e (by simp only [tri, List.mem_cons, List.not_mem_nil, or_false]; omega))) c3 (fun i p1 p2 => mc_o p1 p2) (by omega)
    refine ⟨iv4, ?_, chg_tr hc13 d2⟩
    have sa : (if nI j < nI x then pm_at X d 127 (43, [some (.ref 0), some (.int (nI a)), some (.int (nI x)), some (.int (nI b)), some (.int (nI y)), some (.int (nI n)), some (.int (nI j))], [.int (nI a), .ref 21], g, iv) else pm_at X d 127 (32, [some (.ref 0), some (.int (nI a)), some (.int (nI x)), some (.int (nI b)), some (.int (nI y)), some (.int (nI n)), some (.int (nI j))], [.int (nI a), .ref 21], g, iv)) = pm_at X d 127 (48, [some (.ref 0), some (.int (nI a)), some (.int (nI x)), some (.int (nI b)), some (.int (nI y)), some (.int (nI n)), some (.int (nI j))], [.int (if (decide (j < x) || vC v a) = true then 1 else 0), .int (nI a), .ref 21], g, iv) := by
      by_cases p : j < x
      · have p' : nI j < nI x := (nI_lt' (by omega) (by omega)).mpr p
        simp only [p, p', bz_0, bz_n, bz_1, pm_zr0, pm_zr1, pm_zrI, if_true, if_false, not_true, not_false_eq_true, Bool.false_eq_true, true_and, and_true, false_and, and_false, z10, z01, zz0, eq_self, b127_43, decide_true, Bool.true_or]
      · have p' : ¬ nI j < nI x := fun q => p ((nI_lt' (by omega) (by omega)).mp q)
        simp only [p, p', bz_0, bz_n, bz_1, pm_zr0, pm_zr1, pm_zrI, if_true, if_false, not_true, not_false_eq_true, Bool.false_eq_true, true_and, and_true, false_and, and_false, z10, z01, zz0, eq_self, b127_32 hL, t_isChocked (show 2 ≤ d by omega) (lay_now hL) hv ho ha, pm_then_i, pm_then_l, pm_then_v, b127_40, b127_43, b127_47, decide_false, Bool.false_or]
        by_cases p2 : vC v a = true <;> simp only [p2, bz_0, bz_n, bz_1, pm_zr0, pm_zr1, pm_zrI, if_true, if_false, not_true, not_false_eq_true, Bool.false_eq_true, true_and, and_true, false_and, and_false, z10, z01, zz0, eq_self]
    have sb : (if nI j < nI y then pm_at X d 127 (74, [some (.ref 0), some (.int (nI a)), some (.int (nI x)), some (.int (nI b)), some (.int (nI y)), some (.int (nI n)), some (.int (nI j))], [.int (nI b), .ref 21], g, iv1) else pm_at X d 127 (63, [some (.ref 0), some (.int (nI a)), some (.int (nI x)), some (.int (nI b)), some (.int (nI y)), some (.int (nI n)), some (.int (nI j))], [.int (nI b), .ref 21], g, iv1)) = pm_at X d 127 (79, [some (.ref 0), some (.int (nI a)), some (.int (nI x)), some (.int (nI b)), some (.int (nI y)), some (.int (nI n)), some (.int (nI j))], [.int (if (decide (j < y) || vC v b) = true then 1 else 0), .int (nI b), .ref 21], g, iv1) := by
      by_cases p : j < y
      · have p' : nI j < nI y := (nI_lt' (by omega) (by omega)).mpr p
        simp only [p, p', bz_0, bz_n, bz_1, pm_zr0, pm_zr1, pm_zrI, if_true, if_false, not_true, not_false_eq_true, Bool.false_eq_true, true_and, and_true, false_and, and_false, z10, z01, zz0, eq_self, b127_74, decide_true, Bool.true_or]
      · have p' : ¬ nI j < nI y := fun q => p ((nI_lt' (by omega) (by omega)).mp q)
        simp only [p, p', bz_0, bz_n, bz_1, pm_zr0, pm_zr1, pm_zrI, if_true, if_false, not_true, not_false_eq_true, Bool.false_eq_true, true_and, and_true, false_and, and_false, z10, z01, zz0, eq_self, b127_63 hL, t_isChocked (show 2 ≤ d by omega) (lay_now hL) hv1 ho hb, pm_then_i, pm_then_l, pm_then_v, b127_71, b127_74, b127_78, decide_false, Bool.false_or]
        by_cases p2 : vC v b = true <;> simp only [p2, bz_0, bz_n, bz_1, pm_zr0, pm_zr1, pm_zrI, if_true, if_false, not_true, not_false_eq_true, Bool.false_eq_true, true_and, and_true, false_and, and_false, z10, z01, zz0, eq_self]
    rw [b127_14, if_neg h1, b127_21 hL, sa, b127_48 hL, a1]
    simp only [pm_then_i, pm_then_l, pm_then_v]
    rw [b127_51 hL, sb, b127_79 hL, b1]
    simp only [pm_then_i, pm_then_l, pm_then_v, b127_82 hL, c1, b127_89, nI_1, d1]
theorem t_meetsBy (hd : 6 ≤ d) (hL : pm_lay g) (hv : SV iv 11 v) (ho : Hok v) (hs : Dst v (vy v)) (hw : vW v ≤ 9999) (ha : a < vN v) (hb : b < vN v) (hx : x ≤ 40) (hy : y ≤ 40) (hn : n ≤ 20) : ∃ iv', pm_c X d 127 [.ref 0, .int (nI a), .int (nI x), .int (nI b), .int (nI y), .int (nI n)] g iv = some (some (.int (if mtB v a x b y n = true then 1 else 0)), g, iv') ∧ chg tri iv iv' := by
  obtain ⟨d, rfl, hd1⟩ := pm_d1 hd
  obtain ⟨iv1, a1, a2, a3⟩ := t_take (X := X) (show 1 ≤ d by omega) hL hv ho
  obtain ⟨iv2, b1, b2⟩ := t_meetsBy_loop (X := X) (x := x) (y := y) hd1 hL ho hs hw ha hb hx hy hn n 0 iv1 (vC v) (SV_fr hv (fun e p1 p2 => a2 e (by simp only [tri, List.mem_cons, List.not_mem_nil, or_false]; omega))) a3 (fun _ _ _ => rfl) (by omega)
  refine ⟨iv2, ?_, chg_tr a2 b2⟩
  rw [nI_0] at b1
  simp only [e127, b127_0 hL, a1, pm_then_i, pm_then_l, pm_then_v, b127_11, b1]
theorem m_meetsBy_loop (hd : 5 ≤ d) (hL : pm_lay g) (ho : Hok v) (hw : vW v ≤ 9999) (ha : a < vN v) (hb : b < vN v) (hx : x ≤ 40) (hy : y ≤ 40) (hn : n ≤ 20) : ∀ m j (iv : pm_V) (c : Nat → Bool), HAr (iv 36) v → PL iv 40 (vN v) (mP v a x b y j) → HE iv (vN v) c → (∀ i, i ≠ a → i ≠ b → c i = vC v i) → j + m = n →
    ∃ iv', pm_at X d 182 (7, [some (.ref 32), some (.int (nI a)), some (.int (nI x)), some (.int (nI b)), some (.int (nI y)), some (.int (nI n)), some (.int (nI j))], [], g, iv) = some (some (.int (if mtB v a x b y n = true then 1 else 0)), g, iv') ∧ chg [40, 41, 42] iv iv' := by
  have hN := ho.2.2.1
  intro m
  induction m with
  | zero =>
    intro j iv c hv hp hhe hc hj
    have e : j = n := by omega
    subst e
    refine ⟨iv, ?_, chg_rf⟩
    have hB := m_areBeside (X := X) (a := a) (b := b) (show 2 ≤ d by omega) hL hv ho hp (Pok_mP ho j) ha hb
    simp only [b182_7, Int32.le_refl, if_true, b182_78 hL, hB, pm_then_i, pm_then_l, pm_then_v, b182_84]
    rw [zrB]
    rfl
  | succ m ih =>
    intro j iv c hv hp hhe hc hj
    have h1 : ¬ nI n ≤ nI j := nI_ge (by omega) (by omega)
    have ina : vp_in (nI a) 6 := vp_n (by omega) (by decide)
    have inb : vp_in (nI b) 6 := vp_n (by omega) (by decide)
    have ca := nI_c (show a < 2147483648 by omega)
    have cb := nI_c (show b < 2147483648 by omega)
    let iv1 := pm_iw iv 41 a (if (decide (j < x) || vC v a) = true then 1 else 0)
    let iv2 := pm_iw iv1 41 b (if (decide (j < y) || vC v b) = true then 1 else 0)
    have hv1 : HAr (iv1 36) v := by show HAr (pm_iw iv 41 a _ 36) v; rw [iw_n (by decide)]; exact hv
    have hv2 : HAr (iv2 36) v := by show HAr (pm_iw iv1 41 b _ 36) v; rw [iw_n (by decide)]; exact hv1
    have hp2 : PL iv2 40 (vN v) (mP v a x b y j) := fun h hh => by
      show pm_iw iv1 41 b _ 40 h = _
      rw [iw_n (by decide)]
      show pm_iw iv 41 a _ 40 h = _
      rw [iw_n (by decide)]
      exact hp h hh
    have he2 : HE iv2 (vN v) (mc v a x b y j) := fun h hh => by
      show pm_iw iv1 41 b _ 41 h = _
      rw [iw_s, mc]
      by_cases p1 : h = b
      · rw [if_pos p1, p1, upd_s]
      · rw [if_neg p1, upd_n p1]
        show pm_iw iv 41 a _ 41 h = _
        rw [iw_s]
        by_cases p2 : h = a
        · rw [if_pos p2, p2, upd_s]
        · rw [if_neg p2, upd_n p2, hhe h hh, hc h p2 p1]
    obtain ⟨iv3, c1, c2, c3⟩ := m_goWinter (X := X) (w := vW v + j) hd hL hv2 ho hp2 (Pok_mP ho j) he2 (by omega)
    obtain ⟨iv4, d1, d2⟩ := ih (j + 1) iv3 (mc v a x b y j) (by rw [c2 36 (by decide)]; exact hv2) c3 (fun i hi => by rw [c2 41 (by decide)]; exact he2 i hi) (fun i p1 p2 => mc_o p1 p2) (by omega)
    refine ⟨iv4, ?_, chg_tr (chg_tr (chg_tr (chg_iw (by decide)) (chg_iw (by decide))) (chg_mo c2 (by decide))) d2⟩
    have sa : (if nI x ≤ nI j then pm_at X d 182 (29, [some (.ref 32), some (.int (nI a)), some (.int (nI x)), some (.int (nI b)), some (.int (nI y)), some (.int (nI n)), some (.int (nI j))], [.int (nI a), .ref 41], g, iv) else pm_at X d 182 (25, [some (.ref 32), some (.int (nI a)), some (.int (nI x)), some (.int (nI b)), some (.int (nI y)), some (.int (nI n)), some (.int (nI j))], [.int (nI a), .ref 41], g, iv)) = pm_at X d 182 (35, [some (.ref 32), some (.int (nI a)), some (.int (nI x)), some (.int (nI b)), some (.int (nI y)), some (.int (nI n)), some (.int (nI j))], [.int (if (decide (j < x) || vC v a) = true then 1 else 0), .int (nI a), .ref 41], g, iv) := by
      by_cases p : x ≤ j
      · have p' : ¬ j < x := by omega
        have p2 : nI x ≤ nI j := (nI_le' (by omega) (by omega)).mpr p
        simp only [p2, p', bz_0, bz_n, bz_1, pm_zr0, pm_zr1, pm_zrI, if_true, if_false, not_true, not_false_eq_true, Bool.false_eq_true, true_and, and_true, false_and, and_false, z10, z01, zz0, eq_self, b182_29 hL, m_ofC (show 1 ≤ d by omega) hL hv ho ha, pm_then_i, pm_then_l, pm_then_v, decide_false, Bool.false_or]
      · have p' : j < x := by omega
        have p2 : ¬ nI x ≤ nI j := fun q => p ((nI_le' (by omega) (by omega)).mp q)
        simp only [p2, p', bz_0, bz_n, bz_1, pm_zr0, pm_zr1, pm_zrI, if_true, if_false, not_true, not_false_eq_true, Bool.false_eq_true, true_and, and_true, false_and, and_false, z10, z01, zz0, eq_self, b182_25, decide_true, Bool.true_or]
    have sb : (if nI y ≤ nI j then pm_at X d 182 (52, [some (.ref 32), some (.int (nI a)), some (.int (nI x)), some (.int (nI b)), some (.int (nI y)), some (.int (nI n)), some (.int (nI j))], [.int (nI b), .ref 41], g, iv1) else pm_at X d 182 (48, [some (.ref 32), some (.int (nI a)), some (.int (nI x)), some (.int (nI b)), some (.int (nI y)), some (.int (nI n)), some (.int (nI j))], [.int (nI b), .ref 41], g, iv1)) = pm_at X d 182 (58, [some (.ref 32), some (.int (nI a)), some (.int (nI x)), some (.int (nI b)), some (.int (nI y)), some (.int (nI n)), some (.int (nI j))], [.int (if (decide (j < y) || vC v b) = true then 1 else 0), .int (nI b), .ref 41], g, iv1) := by
      by_cases p : y ≤ j
      · have p' : ¬ j < y := by omega
        have p2 : nI y ≤ nI j := (nI_le' (by omega) (by omega)).mpr p
        simp only [p2, p', bz_0, bz_n, bz_1, pm_zr0, pm_zr1, pm_zrI, if_true, if_false, not_true, not_false_eq_true, Bool.false_eq_true, true_and, and_true, false_and, and_false, z10, z01, zz0, eq_self, b182_52 hL, m_ofC (show 1 ≤ d by omega) hL hv1 ho hb, pm_then_i, pm_then_l, pm_then_v, decide_false, Bool.false_or]
      · have p' : j < y := by omega
        have p2 : ¬ nI y ≤ nI j := fun q => p ((nI_le' (by omega) (by omega)).mp q)
        simp only [p2, p', bz_0, bz_n, bz_1, pm_zr0, pm_zr1, pm_zrI, if_true, if_false, not_true, not_false_eq_true, Bool.false_eq_true, true_and, and_true, false_and, and_false, z10, z01, zz0, eq_self, b182_48, decide_true, Bool.true_or]
    rw [b182_7, if_neg h1, b182_14 hL, sa, b182_35 hL ina, ca]
    show (if nI y ≤ nI j then pm_at X d 182 (52, _, _, g, iv1) else pm_at X d 182 (48, _, _, g, iv1)) = _
    rw [sb, b182_58 hL inb, cb]
    show pm_then X d 182 72 _ _ (pm_c X d 166 [.ref 32, .int (iv2 36 4 + nI j)] g iv2) = _
    rw [hv2.2.2.2.1, nI_add, c1]
    simp only [pm_then_i, pm_then_l, pm_then_v, b182_72, nI_1, d1]
theorem m_meetsBy (hd : 6 ≤ d) (hL : pm_lay g) (hv : HAr (iv 36) v) (ho : Hok v) (hw : vW v ≤ 9999) (ha : a < vN v) (hb : b < vN v) (hx : x ≤ 40) (hy : y ≤ 40) (hn : n ≤ 20) : ∃ iv', pm_c X d 182 [.ref 32, .int (nI a), .int (nI x), .int (nI b), .int (nI y), .int (nI n)] g iv = some (some (.int (if mtB v a x b y n = true then 1 else 0)), g, iv') ∧ chg [40, 41, 42] iv iv' := by
  obtain ⟨d, rfl, hd1⟩ := pm_d1 hd
  obtain ⟨iv1, a1, a2, a3, a4⟩ := m_layNow (X := X) (show 2 ≤ d by omega) hL hv ho
  obtain ⟨iv2, b1, b2⟩ := m_meetsBy_loop (X := X) (x := x) (y := y) hd1 hL ho hw ha hb hx hy hn n 0 iv1 (vC v) (by rw [a2 36 (by decide)]; exact hv) a3 a4 (fun _ _ _ => rfl) (by omega)
  refine ⟨iv2, ?_, chg_tr (chg_mo a2 (by decide)) b2⟩
  rw [nI_0] at b1
  simp only [e182, b182_0 hL, a1, pm_then_i, pm_then_l, pm_then_v, b182_4, b1]
end Q43
