/-! what a text tells: the pure reading -/
def zbd {A B : Type} (r : (Nat × Nat) ⊕ A) (k : A → (Nat × Nat) ⊕ B) : (Nat × Nat) ⊕ B := match r with
  | .inl f => .inl f
  | .inr a => k a
theorem zbd_l {A B : Type} {r : (Nat × Nat) ⊕ A} {k : A → (Nat × Nat) ⊕ B} {f : Nat × Nat} (h : r = .inl f) : zbd r k = .inl f := by rw [h]; rfl
theorem zbd_r {A B : Type} {r : (Nat × Nat) ⊕ A} {k : A → (Nat × Nat) ⊕ B} {a : A} (h : r = .inr a) : zbd r k = k a := by rw [h]; rfl
def zaS (v : HV) (l y : Nat) : HV := (v.1, v.2.1, v.2.2.1, v.2.2.2.1, v.2.2.2.2.1, fun a b => v.2.2.2.2.2.1 a b || decide (a = l ∧ b = y), v.2.2.2.2.2.2)
def zaH (v : HV) (k h l y : Nat) : HV := (v.1, v.2.1, v.2.2.1 + 1, v.2.2.2.1, v.2.2.2.2.1, v.2.2.2.2.2.1, fun i => if i = vN v then k else vK v i, fun i => if i = vN v then h else vH v i, fun i => if i = vN v then l else vl v i, fun i => if i = vN v then y else vy v i, v.2.2.2.2.2.2.2.2.2.2)
def znw (L D : Nat) : HV := (L, D, 0, 0, fun _ => false, fun _ _ => false, fun _ => 0, fun _ => 0, fun _ => 0, fun _ => 0, fun _ => 0)
/-- what a hill keeps to while it is told -/
def Zv (v : HV) : Prop := 1 ≤ vL v ∧ 1 ≤ vD v ∧ Hok v ∧ Dst v (vy v) ∧ Kok v ∧ (∀ i, vC v i = false) ∧ ∀ h, vt v h = 0
theorem Zv_nw {L D : Nat} (h1 : 1 ≤ L) (h2 : L ≤ 4) (h3 : 1 ≤ D) (h4 : D ≤ 20) : Zv (znw L D) :=
  ⟨h1, h3, ⟨h2, h4, by show 0 ≤ 6; omega, by show 0 < 100000; omega, fun l y h => (by cases h), fun h hh => absurd hh (Nat.not_lt_zero h)⟩, ⟨fun a b ha => absurd ha (Nat.not_lt_zero a), fun a ha => absurd ha (Nat.not_lt_zero a)⟩, ⟨by show 0 ≤ 9999; omega, fun h hh => absurd hh (Nat.not_lt_zero h)⟩, fun _ => rfl, fun _ => rfl⟩
theorem Zv_aS {v : HV} {l y : Nat} (h : Zv v) (h0 : vN v = 0) (hl : l < vL v) (hy : y < vD v) : Zv (zaS v l y) := by
  obtain ⟨a1, a2, ⟨o1, o2, o3, o4, o5, o6⟩, a4, a5, a6, a7⟩ := h
  refine ⟨a1, a2, ⟨o1, o2, o3, o4, fun a b q => ?_, o6⟩, ⟨a4.1, fun a ha => ?_⟩, a5, a6, a7⟩
  · have q : (vS v a b || decide (a = l ∧ b = y)) = true := q
    rcases Bool.or_eq_true_iff.mp q with w | w
    · exact o5 a b w
    · rw [decide_eq_true_eq] at w
      rw [w.1, w.2]
      exact ⟨hl, hy⟩
  · have ha : a < vN v := ha
    omega
theorem Zv_aH {v : HV} {k h l y : Nat} (z : Zv v) (h6 : vN v < 6) (hk1 : 1 ≤ k) (hk : k < 6) (hh : h ≤ 20) (hl : l < vL v) (hy : y < vD v) (hs : ¬ vS v l y = true) (hf : ¬ hsAt v (vy v) l y = true) : Zv (zaH v k h l y) := by
  obtain ⟨a1, a2, ho, a4, a5, a6, a7⟩ := z
  have hno : ∀ i, i < vN v → ¬ (vl v i = l ∧ vy v i = y) := fun i hi w => hf ((hsAt_iff ho (Pok_self ho) (by have := ho.1; omega) (by have := ho.2.1; omega)).mpr ⟨i, hi, w.1, w.2⟩)
  obtain ⟨o1, o2, o3, o4, o5, o6⟩ := ho
  refine ⟨a1, a2, ⟨o1, o2, h6, o4, o5, fun i hi => ?_⟩, ⟨fun a b ha hb hab => ?_, fun a ha => ?_⟩, ⟨a5.1, fun i hi => ?_⟩, a6, a7⟩
  · show (if i = vN v then l else vl v i) < vL v ∧ (if i = vN v then y else vy v i) < vD v ∧ (if i = vN v then k else vK v i) < 6 ∧ (if i = vN v then h else vH v i) ≤ 20
    have hi : i < vN v + 1 := hi
    by_cases e : i = vN v
    · rw [if_pos e, if_pos e, if_pos e, if_pos e]
      exact ⟨hl, hy, hk, hh⟩
    · rw [if_neg e, if_neg e, if_neg e, if_neg e]
      exact o6 i (by omega)
  · show ¬ ((if a = vN v then l else vl v a) = (if b = vN v then l else vl v b) ∧ (if a = vN v then y else vy v a) = (if b = vN v then y else vy v b))
    have ha : a < vN v + 1 := ha
    have hb : b < vN v + 1 := hb
    by_cases e : a = vN v
    · rw [if_pos e, if_pos e, if_neg (show ¬ b = vN v by omega), if_neg (show ¬ b = vN v by omega)]
      exact fun w => hno b (by omega) ⟨w.1.symm, w.2.symm⟩
    · rw [if_neg e, if_neg e]
      by_cases e2 : b = vN v
      · rw [if_pos e2, if_pos e2]
        exact hno a (by omega)
      · rw [if_neg e2, if_neg e2]
        exact a4.1 a b (by omega) (by omega) hab
  · show ¬ vS v (if a = vN v then l else vl v a) (if a = vN v then y else vy v a) = true
    have ha : a < vN v + 1 := ha
    by_cases e : a = vN v
    · rw [if_pos e, if_pos e]; exact hs
    · rw [if_neg e, if_neg e]; exact a4.2 a (by omega)
  · show 1 ≤ (if i = vN v then k else vK v i)
    have hi : i < vN v + 1 := hi
    by_cases e : i = vN v
    · rw [if_pos e]; exact hk1
    · rw [if_neg e]; exact a5.2 i (by omega)
section Z5
variable (T : Nat → Nat) (n : Nat)
def zSgn (c : ZT) : (Nat × Nat) ⊕ ZT := if c.1 = 3 then .inr (znx T n c) else .inl (1, c.2.1)
def zNum (lo hi : Nat) (c : ZT) : (Nat × Nat) ⊕ (Nat × ZT) := if c.1 = 2 then (if lo ≤ zval T c ∧ zval T c ≤ hi then .inr (zval T c, znx T n c) else .inl (2, c.2.1)) else .inl (1, c.2.1)
def zStn (v : HV) (c : ZT) : (Nat × Nat) ⊕ (HV × ZT) := zbd (zNum T n 0 (vL v - 1) (znx T n c)) fun p => zbd (zNum T n 0 (vD v - 1) p.2) fun q => zbd (zSgn T n q.2) fun e => .inr (zaS v p.1 q.1, e)
/-- is the number at hand a yard that is taken? -/
def ztkn (v : HV) (l : Nat) (c : ZT) : Bool := decide (c.1 = 2 ∧ zval T c < vD v) && (vS v l (zval T c) || hsAt v (vy v) l (zval T c))
def zKnd (c : ZT) : (Nat × Nat) ⊕ (Nat × ZT) := if zkd T c = 0 then .inl (1, c.2.1) else .inr (zkd T c, znx T n c)
def zFre (v : HV) (l : Nat) (c : ZT) : (Nat × Nat) ⊕ Unit := if ztkn T v l c = true then .inl (2, c.2.1) else .inr ()
def zHse (v : HV) (c : ZT) : (Nat × Nat) ⊕ (HV × ZT) := zbd (zKnd T n (znx T n c)) fun k => zbd (zNum T n 0 (vL v - 1) k.2) fun l => zbd (zFre T v l.1 l.2) fun _ => zbd (zNum T n 0 (vD v - 1) l.2) fun y => zbd (zNum T n 1 20 y.2) fun h => zbd (zSgn T n h.2) fun e => .inr (zaH v k.1 h.1 l.1 y.1, e)
def zStL : Nat → HV → ZT → (Nat × Nat) ⊕ (HV × ZT)
  | 0, v, c => if zis T 1 c = true then .inl (3, c.2.1) else .inr (v, c)
  | m + 1, v, c => if zis T 1 c = true then zbd (zStn T n v c) fun r => zStL m r.1 r.2 else .inr (v, c)
def zHsL : Nat → HV → ZT → (Nat × Nat) ⊕ (HV × ZT)
  | 0, v, c => if zis T 2 c = true then .inl (3, c.2.1) else .inr (v, c)
  | m + 1, v, c => if zis T 2 c = true then zbd (zHse T n v c) fun r => zHsL m r.1 r.2 else .inr (v, c)
def zWrd (i : Nat) (c : ZT) : (Nat × Nat) ⊕ ZT := if zis T i c = true then .inr (znx T n c) else .inl (1, c.2.1)
def zSlp (c : ZT) : (Nat × Nat) ⊕ (HV × ZT) := zbd (zWrd T n 0 c) fun a => zbd (zNum T n 1 4 a) fun l => zbd (zNum T n 4 20 l.2) fun d => zbd (zSgn T n d.2) fun e => .inr (znw l.1 d.1, e)
def zEnd (v : HV) (c : ZT) : (Nat × Nat) ⊕ HV := if c.1 = 0 then .inr v else .inl (1, c.2.1)
def zAll : (Nat × Nat) ⊕ HV := zbd (zSlp T n (ztk T n 0)) fun a => zbd (zStL T n 8 a.1 a.2) fun b => zbd (zHsL T n 6 b.1 b.2) fun e => zEnd e.1 e.2
end Z5
section Z6
variable {T : Nat → Nat} {n : Nat}
theorem zSgn_i {c e : ZT} (h : zSgn T n c = .inr e) : c.1 = 3 ∧ e = znx T n c := by
  unfold zSgn at h
  split at h
  · cases h; exact ⟨by assumption, rfl⟩
  · cases h
theorem zNum_i {lo hi : Nat} {c : ZT} {p : Nat × ZT} (h : zNum T n lo hi c = .inr p) : c.1 = 2 ∧ p = (zval T c, znx T n c) ∧ lo ≤ p.1 ∧ p.1 ≤ hi := by
  unfold zNum at h
  split at h
  · split at h
    · rename_i q
      cases h; exact ⟨by assumption, rfl, q.1, q.2⟩
    · cases h
  · cases h
end Z6
section Z7
variable {X : pm_X} {d k n : Nat} {g : pm_G} {iv : pm_V} {v : HV}
theorem t_fill_l {a m : Nat} (hA : g.1 a = some (8, m)) (hm : m < 1000) : ∀ r i (iv : pm_V), i + r = m → (∀ j, j < i → iv a j = 0) → ∃ iv', pm_at X d 210 (5, [some (.ref a), some (.int 0), some (.int (nI i)), some (.int (nI m))], [], g, iv) = some (none, g, iv') ∧ chg [a] iv iv' ∧ ∀ j, j < m → iv' a j = 0 := by
  intro r
  induction r with
  | zero =>
    intro i iv h hj
    have e : i = m := by omega
    subst e
    exact ⟨iv, by rw [b210_5, if_pos (Int32.le_refl _), b210_20], chg_rf, hj⟩
  | succ r ih =>
    intro i iv h hj
    obtain ⟨iv', a1, a2, a3⟩ := ih (i + 1) (pm_iw iv a i 0) (by omega) (fun j hj' => by
      rw [iw_s]
      by_cases e : j = i
      · rw [e, upd_s]
      · rw [upd_n e]; exact hj j (by omega))
    refine ⟨iv', ?_, chg_tr (chg_iw (by simp)) a2, a3⟩
    rw [b210_5, if_neg (nI_ge (by omega) (by omega)), b210_10 hA (vp_n (by omega) (by omega)), nI_c (by omega), nI_1, a1]
theorem t_fill {a m : Nat} (hd : 1 ≤ d) (hA : g.1 a = some (8, m)) (hm : m < 1000) : ∃ iv', pm_c X d 210 [.ref a, .int 0] g iv = some (none, g, iv') ∧ chg [a] iv iv' ∧ ∀ j, j < m → iv' a j = 0 := by
  obtain ⟨d, rfl, -⟩ := pm_d1 hd
  obtain ⟨iv', a1, a2, a3⟩ := t_fill_l (X := X) (d := d) hA hm m 0 iv (by omega) (fun j h => absurd h (Nat.not_lt_zero j))
  exact ⟨iv', by rw [e210, b210_0 hA (by omega)]; exact a1, a2, a3⟩
/-- the slope at k shows v, nothing lent beyond its houses -/
def ZS (iv : pm_V) (k : Nat) (v : HV) : Prop := SV iv k v ∧ ∀ h, h < 6 → iv (k + 6) h = 0
theorem t_layOut (hd : 2 ≤ d) (hK : pm_sl g k) {L D : Nat} : ∃ iv', pm_c X d 49 [.ref k, .int (nI L), .int (nI D)] g iv = some (none, g, iv') ∧ chg [k, k + 1, k + 6] iv iv' ∧ ZS iv' k (znw L D) := by
  obtain ⟨d, rfl, hd1⟩ := pm_d1 hd
  obtain ⟨iv1, a1, a2, a3⟩ := t_fill (X := X) (iv := pm_iw (pm_iw (pm_iw (pm_iw (pm_iw iv k 0 (nI L)) k 1 (nI D)) k 2 0) k 3 0) k 4 0) hd1 hK.2.1 (by decide)
  obtain ⟨iv2, b1, b2, b3⟩ := t_fill (X := X) (iv := iv1) hd1 hK.2.2.2.2.2.2.1 (by decide)
  have q : ∀ c, c ≠ k + 1 → c ≠ k + 6 → iv2 c = (pm_iw (pm_iw (pm_iw (pm_iw (pm_iw iv k 0 (nI L)) k 1 (nI D)) k 2 0) k 3 0) k 4 0) c := fun c h1 h2 => by rw [b2 c (by simp only [List.mem_cons, List.not_mem_nil, or_false]; exact h2), a2 c (by simp only [List.mem_cons, List.not_mem_nil, or_false]; exact h1)]
  refine ⟨iv2, ?_, ?_, ?_, b3⟩
  · rw [e49, b49_0 hK, a1, pm_then_v, b49_33 hK, b1, pm_then_v, b49_41]
  · refine chg_tr (chg_iw (by simp)) (chg_tr (chg_iw (by simp)) (chg_tr (chg_iw (by simp)) (chg_tr (chg_iw (by simp)) (chg_tr (chg_iw (by simp)) (chg_tr (chg_mo a2 (by simp)) (chg_mo b2 (by simp)))))))
  · have h1 : ∀ l, l < 4 → iv2 (k + 1) l = 0 := fun l hl => by rw [b2 (k + 1) (by simp), a3 l hl]
    unfold SV
    rw [q k (by omega) (by omega)]
    simp only [iw_s]
    refine ⟨?_, ?_, ?_, ?_, fun i hi => ?_, fun l hl i hi => ?_, fun h hh => absurd hh (Nat.not_lt_zero h)⟩
    · rw [upd_n (by decide), upd_n (by decide), upd_n (by decide), upd_n (by decide), upd_s]; rfl
    · rw [upd_n (by decide), upd_n (by decide), upd_n (by decide), upd_s]; rfl
    · rw [upd_n (by decide), upd_n (by decide), upd_s]; rfl
    · rw [upd_n (by decide), upd_s]; rfl
    · rw [upd_s, b_0]; rfl
    · rw [h1 l hl, b_0]; rfl
theorem t_addStone (hd : 2 ≤ d) (hK : pm_sl g k) (hz : ZS iv k v) (ho : Hok v) {l y : Nat} (hl : l < vL v) (hy : y < vD v) : ∃ iv', pm_c X d 50 [.ref k, .int (nI l), .int (nI y)] g iv = some (none, g, iv') ∧ chg [k + 1] iv iv' ∧ ZS iv' k (zaS v l y) := by
  obtain ⟨d, rfl, hd1⟩ := pm_d1 hd
  have hL := ho.1
  have hD := ho.2.1
  obtain ⟨hv, hz⟩ := hz
  refine ⟨pm_iw iv (k + 1) l ((iv (k + 1) l) ||| (1 <<< (nI y &&& 31))), ?_, chg_iw (by simp), ?_, fun h hh => by rw [iw_n (by omega)]; exact hz h hh⟩
  · rw [e50, b50_0 hK, t_isLane hd1 hK hv ho, if_pos (ip_n hl (by omega)), pm_then_i, b50_5, if_neg (by decide), b50_8 hK, t_isYard hd1 hK hv ho, if_pos (ip_n hy (by omega)), pm_then_i, b50_13, if_neg (by decide), b50_16 hK (vp_n (by omega) (by decide)), b50_28, nI_c (by omega)]
  · unfold SV
    rw [iw_n (show k ≠ k + 1 by omega), iw_n (show k + 2 ≠ k + 1 by omega), iw_n (show k + 3 ≠ k + 1 by omega), iw_n (show k + 4 ≠ k + 1 by omega), iw_n (show k + 5 ≠ k + 1 by omega), iw_n (show k + 6 ≠ k + 1 by omega), iw_s]
    refine ⟨hv.1, hv.2.1, hv.2.2.1, hv.2.2.2.1, hv.2.2.2.2.1, fun a ha i hi => ?_, hv.2.2.2.2.2.2⟩
    show _ = (vS v a i || decide (a = l ∧ i = y))
    by_cases e : a = l
    · subst e
      rw [upd_s, b_or, b_one (by omega) hi, hv.2.2.2.2.2.1 a ha i hi]
      simp
    · rw [upd_n e, hv.2.2.2.2.2.1 a ha i hi, decide_eq_false (fun w => e w.1), Bool.or_false]
theorem t_addHouse (hd : 2 ≤ d) (hK : pm_sl g k) (hz : ZS iv k v) (ho : Hok v) (h6 : vN v < 6) (hc : ∀ i, vC v i = false) (ht : ∀ h, vt v h = 0) {kd hv l y : Nat} (hl : l < vL v) (hy : y < vD v) : ∃ iv', pm_c X d 51 [.ref k, .int (nI kd), .int (nI hv), .int (nI l), .int (nI y)] g iv = some (none, g, iv') ∧ chg [k, k + 2, k + 3, k + 4, k + 5] iv iv' ∧ ZS iv' k (zaH v kd hv l y) := by
  obtain ⟨d, rfl, hd1⟩ := pm_d1 hd
  have hL := ho.1
  have hD := ho.2.1
  obtain ⟨hs, hz⟩ := hz
  have eN := hs.2.2.1
  have hin : vp_in (nI (vN v)) 6 := vp_n h6 (by decide)
  have cN : (nI (vN v)).toNatClampNeg = vN v := nI_c (by omega)
  refine ⟨pm_iw (pm_iw (pm_iw (pm_iw (pm_iw iv (k + 2) (vN v) (nI kd)) (k + 3) (vN v) (nI hv)) (k + 4) (vN v) (nI l)) (k + 5) (vN v) (nI y)) k 2 (nI (vN v + 1)), ?_, ?_, ?_, fun h hh => ?_⟩
  · rw [e51, b51_0 hK, eN, if_neg (show ¬ (6 : Int32) ≤ nI (vN v) by rw [le_i, toI6, nI_t (by omega)]; omega), b51_9 hK, t_isLane hd1 hK hs ho, if_pos (ip_n hl (by omega)), pm_then_i, b51_14, if_neg (by decide), b51_17 hK, t_isYard hd1 hK hs ho, if_pos (ip_n hy (by omega)), pm_then_i, b51_23, if_pos (by decide)]
    rw [b51_27 hK (by rw [eN]; exact hin) (by simp (disch := omega) only [iw_n, eN]; exact hin) (by simp (disch := omega) only [iw_n, eN]; exact hin) (by simp (disch := omega) only [iw_n, eN]; exact hin)]
    simp (disch := omega) only [iw_n, eN, cN, nI_1]
  · exact chg_tr (chg_iw (by simp)) (chg_tr (chg_iw (by simp)) (chg_tr (chg_iw (by simp)) (chg_tr (chg_iw (by simp)) (chg_iw (by simp)))))
  · unfold SV
    simp (disch := omega) only [iw_n, iw_s]
    refine ⟨by rw [upd_n (by decide)]; exact hs.1, by rw [upd_n (by decide)]; exact hs.2.1, by rw [upd_s]; rfl, by rw [upd_n (by decide)]; exact hs.2.2.2.1, fun i hi => ?_, hs.2.2.2.2.2.1, fun i hi => ?_⟩
    · rw [upd_n (by decide), hs.2.2.2.2.1 i hi]
      show (decide (i < vN v) && vC v i) = (decide (i < vN v + 1) && vC v i)
      rw [hc i, Bool.and_false, Bool.and_false]
    · have hi : i < vN v + 1 := hi
      show upd (iv (k + 2)) (vN v) (nI kd) i = nI (if i = vN v then kd else vK v i) ∧ upd (iv (k + 3)) (vN v) (nI hv) i = nI (if i = vN v then hv else vH v i) ∧ upd (iv (k + 4)) (vN v) (nI l) i = nI (if i = vN v then l else vl v i) ∧ upd (iv (k + 5)) (vN v) (nI y) i = nI (if i = vN v then y else vy v i) ∧ iv (k + 6) i = vt v i
      by_cases e : i = vN v
      · rw [if_pos e, if_pos e, if_pos e, if_pos e, e, upd_s, upd_s, upd_s, upd_s, ht, hz (vN v) h6]
        exact ⟨rfl, rfl, rfl, rfl, rfl⟩
      · rw [if_neg e, if_neg e, if_neg e, if_neg e, upd_n e, upd_n e, upd_n e, upd_n e]
        exact hs.2.2.2.2.2.2 i (by omega)
  · simp (disch := omega) only [iw_n]
    exact hz h hh
end Z7
