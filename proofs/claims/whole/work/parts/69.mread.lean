/-! the reference reads a text -/
/-- what its calls leave of cell 32 -/
def y32 (iv iv' : pm_V) : Prop := ∀ c, c < 12 ∨ 18 < c → iv' 32 c = iv 32 c
theorem y32_rf {iv : pm_V} : y32 iv iv := fun _ _ => rfl
theorem y32_tr {a b c : pm_V} (h : y32 a b) (h2 : y32 b c) : y32 a c := fun k hk => (h2 k hk).trans (h k hk)
/-- it stands at c, no fault -/
def YA (T : Nat → Nat) (n : Nat) (iv : pm_V) (c : ZT) : Prop := MX T n iv ∧ MZ iv c ∧ Zok T n c ∧ iv 32 17 = 0
/-- it stands at a fault -/
def YB (T : Nat → Nat) (n : Nat) (iv : pm_V) (f : Nat × Nat) : Prop := MX T n iv ∧ (∃ e, MZ iv e ∧ Zok T n e) ∧ iv 32 17 = nI f.1 ∧ iv 32 18 = nI f.2 ∧ 1 ≤ f.1 ∧ f.1 ≤ 3
def YG (L : List Nat) (T : Nat → Nat) (n : Nat) (iv iv' : pm_V) (c : ZT) : Prop := chg L iv iv' ∧ y32 iv iv' ∧ YA T n iv' c
def YF (L : List Nat) (T : Nat → Nat) (n : Nat) (iv iv' : pm_V) (f : Nat × Nat) : Prop := chg L iv iv' ∧ y32 iv iv' ∧ YB T n iv' f
theorem YG_tr {L : List Nat} {T : Nat → Nat} {n : Nat} {a b iv' : pm_V} {c e : ZT} (h : YG L T n a b c) (h2 : YG L T n b iv' e) : YG L T n a iv' e := ⟨chg_tr h.1 h2.1, y32_tr h.2.1 h2.2.1, h2.2.2⟩
theorem YF_tr {L : List Nat} {T : Nat → Nat} {n : Nat} {a b iv' : pm_V} {c : ZT} {f : Nat × Nat} (h : YG L T n a b c) (h2 : YF L T n b iv' f) : YF L T n a iv' f := ⟨chg_tr h.1 h2.1, y32_tr h.2.1 h2.2.1, h2.2.2⟩
theorem YG_mo {L M : List Nat} {T : Nat → Nat} {n : Nat} {a b : pm_V} {c : ZT} (h : YG L T n a b c) (hs : ∀ c, c ∈ L → c ∈ M) : YG M T n a b c := ⟨chg_mo h.1 hs, h.2⟩
theorem YF_mo {L M : List Nat} {T : Nat → Nat} {n : Nat} {a b : pm_V} {f : Nat × Nat} (h : YF L T n a b f) (hs : ∀ c, c ∈ L → c ∈ M) : YF M T n a b f := ⟨chg_mo h.1 hs, h.2⟩
section Y1
variable {X : pm_X} {d n : Nat} {g : pm_G} {iv : pm_V} {T : Nat → Nat} {c : ZT} {v : HV} {x : Int32} {f : Nat × Nat}
theorem YB_n (h : YB T n iv f) : ¬ iv 32 17 = 0 := by
  obtain ⟨-, -, h1, -, h2, h3⟩ := h
  rw [h1]
  intro e
  have := (nI_eq (a := f.1) (b := 0) (by omega) (by omega)).mp e
  omega
theorem YB_l (h : YB T n iv f) : ¬ iv 32 17 ≤ 0 := by
  obtain ⟨-, -, h1, -, h2, h3⟩ := h
  rw [h1, le_i, toI0, nI_t (by omega)]
  omega
theorem m_bad {k : Nat} (hd : 1 ≤ d) (hL : pm_lay g) (ha : YA T n iv c) (h1 : 1 ≤ k) (h3 : k ≤ 3) : ∃ iv', pm_c X d 143 [.ref 32, .int (nI k)] g iv = some (none, g, iv') ∧ YF [32] T n iv iv' (k, c.2.1) := by
  obtain ⟨d, rfl, -⟩ := pm_d1 hd
  have q : ∀ j, j ≠ 17 → j ≠ 18 → (pm_iw (pm_iw iv 32 17 (nI k)) 32 18 (nI c.2.1)) 32 j = iv 32 j := fun j p1 p2 => by rw [iw_s, upd_n p2, iw_s, upd_n p1]
  refine ⟨pm_iw (pm_iw iv 32 17 (nI k)) 32 18 (nI c.2.1), ?_, chg_tr (chg_iw (by decide)) (chg_iw (by decide)), fun j hj => q j (by omega) (by omega), MX_fr ha.1 (q 12 (by decide) (by decide)) (by rw [iw_n (by decide), iw_n (by decide)]), ⟨c, ⟨?_, ?_, ?_, ?_⟩, ha.2.2.1⟩, ?_, ?_, h1, h3⟩
  · have h15 : (pm_iw iv 32 17 (nI k)) 32 15 = nI c.2.1 := by rw [iw_s, upd_n (by decide)]; exact ha.2.1.2.2.1
    rw [e143, b143_0 hL, if_neg (not_not_intro ha.2.2.2), b143_7 hL, b143_20, h15]
  · rw [q 13 (by decide) (by decide)]; exact ha.2.1.1
  · rw [q 14 (by decide) (by decide)]; exact ha.2.1.2.1
  · rw [q 15 (by decide) (by decide)]; exact ha.2.1.2.2.1
  · rw [q 16 (by decide) (by decide)]; exact ha.2.1.2.2.2
  · rw [iw_s, upd_n (by decide), iw_s, upd_s]
  · rw [iw_s, upd_s]
theorem m_badB (hd : 1 ≤ d) (hL : pm_lay g) (hb : YB T n iv f) : pm_c X d 143 [.ref 32, .int x] g iv = some (none, g, iv) := by
  obtain ⟨d, rfl, -⟩ := pm_d1 hd
  rw [e143, b143_0 hL, if_pos (YB_n hb), b143_20]
theorem m_go (hd : 2 ≤ d) (hL : pm_lay g) (hn : n ≤ 400) (hb : ∀ i, i < n → T i < 256) (ha : YA T n iv c) : ∃ iv', pm_c X d 141 [.ref 32] g iv = some (none, g, iv') ∧ YG [32] T n iv iv' (znx T n c) := by
  obtain ⟨iv', a1, a2, a3, a4⟩ := m_nxt (X := X) hd hL hn hb ha.1 ha.2.1.1 ha.2.2.1.2.2.1
  exact ⟨iv', a1, a2, fun j hj => a3 j (by omega) (by omega) (by omega) (by omega), MX_fr ha.1 (a3 12 (by decide) (by decide) (by decide) (by decide)) (a2 39 (by decide)), a4, Zok_tk ha.2.2.1.2.2.1, by rw [a3 17 (by decide) (by decide) (by decide) (by decide)]; exact ha.2.2.2⟩
theorem m_must1 (hd : 3 ≤ d) (hL : pm_lay g) (hn : n ≤ 400) (hb : ∀ i, i < n → T i < 256) (ha : YA T n iv c) : ∃ iv', pm_c X d 144 [.ref 32, .int 1] g iv = some (none, g, iv') ∧ YG [32] T n iv iv' (znx T n c) := by
  obtain ⟨d, rfl, hd1⟩ := pm_d1 hd
  obtain ⟨iv', a1, a2⟩ := m_go (X := X) hd1 hL hn hb ha
  exact ⟨iv', by rw [e144, b144_0, if_pos (by decide), b144_9 hL, if_neg (not_not_intro ha.2.2.2), b144_16 hL, a1, pm_then_v, b144_20], a2⟩
theorem m_must0 (hd : 2 ≤ d) (hL : pm_lay g) (ha : YA T n iv c) : ∃ iv', pm_c X d 144 [.ref 32, .int 0] g iv = some (none, g, iv') ∧ YF [32] T n iv iv' (1, c.2.1) := by
  obtain ⟨d, rfl, hd1⟩ := pm_d1 hd
  obtain ⟨iv', a1, a2⟩ := m_bad (X := X) (k := 1) hd1 hL ha (by omega) (by omega)
  rw [show nI 1 = 1 from rfl] at a1
  exact ⟨iv', by rw [e144, b144_0, if_neg (not_not_intro rfl), b144_4 hL, a1, pm_then_v, b144_9 hL, if_pos (YB_n a2.2.2), b144_20], a2⟩
theorem m_mustB (hd : 2 ≤ d) (hL : pm_lay g) (hb : YB T n iv f) : pm_c X d 144 [.ref 32, .int x] g iv = some (none, g, iv) := by
  obtain ⟨d, rfl, hd1⟩ := pm_d1 hd
  rw [e144, b144_0]
  by_cases q : x = 0
  · rw [if_neg (not_not_intro q), b144_4 hL, m_badB hd1 hL hb, pm_then_v, b144_9 hL, if_pos (YB_n hb), b144_20]
  · rw [if_pos q, b144_9 hL, if_pos (YB_n hb), b144_20]
theorem MZ_1 (hc : MZ iv c) (hz : Zok T n c) (k : Nat) (hk : k ≤ 3) : iv 32 14 = nI (k + 1) ↔ c.1 = k := by
  rw [hc.2.1, nI_eq (by unfold zmk; have := hz.1; split <;> omega) (by omega), zmk]
  have := hz.1
  split <;> omega
theorem m_fig_loop (hL : pm_lay g) (hn : n ≤ 400) (hx : MX T n iv) (hc : MZ iv c) (hz : Zok T n c) (q1 : c.1 = 2) : ∀ m k, k + m = c.2.2 - c.2.1 → pm_at X d 146 (7, [some (.ref 32), some (.int (nI (zdv T c.2.1 k))), some (.int (nI (c.2.1 + k)))], [], g, iv) = some (some (.int (nI (zval T c))), g, iv) := by
  have e3 : iv 32 14 = 3 := (MZ_1 hc hz 2 (by omega)).mpr q1
  obtain ⟨c1, c2, c3, c4⟩ := hc
  obtain ⟨z0, z1, z2, -, z4⟩ := hz
  have zf := (z4 q1).2
  intro m
  induction m with
  | zero =>
    intro k hk
    have e : k = c.2.2 - c.2.1 := by omega
    subst e
    rw [b146_7 hL, c4, if_pos (by rw [nI_le' (by omega) (by omega)]; omega), b146_44]
    rfl
  | succ m ih =>
    intro k hk
    have hT := zf (c.2.1 + k) (by omega) (by omega)
    rw [zF, decide_eq_true_eq] at hT
    have e : 10 * nI (zdv T c.2.1 k) + nI (T (c.2.1 + k)) - 48 = nI (zdv T c.2.1 (k + 1)) := by
      rw [show (10 : Int32) * nI (zdv T c.2.1 k) = nI (zdv T c.2.1 k) * 10 from Int32.mul_comm _ _, dig_nI hT.1]
      rfl
    rw [b146_7 hL, c4, if_neg (nI_ge (by omega) (by omega)), b146_15 hL, if_neg (not_not_intro e3), b146_23 hL (vp_n (by omega) (by decide)), nI_c (by omega), hx.2 _ (by omega), e, nI_1]
    exact ih (k + 1) (by omega)
def zfig (T : Nat → Nat) (c : ZT) : Nat := if c.1 = 2 then zval T c else 0
theorem m_figs (hd : 1 ≤ d) (hL : pm_lay g) (hn : n ≤ 400) (hx : MX T n iv) (hc : MZ iv c) (hz : Zok T n c) : pm_c X d 146 [.ref 32] g iv = some (some (.int (nI (zfig T c))), g, iv) := by
  obtain ⟨d, rfl, -⟩ := pm_d1 hd
  have e3 : iv 32 14 = 3 ↔ c.1 = 2 := MZ_1 hc hz 2 (by omega)
  rw [e146, b146_0 hL, hc.2.2.1]
  unfold zfig
  by_cases q : c.1 = 2
  · rw [if_pos q]
    exact m_fig_loop hL hn hx hc hz q (c.2.2 - c.2.1) 0 (by omega)
  · rw [if_neg q, b146_7 hL, hc.2.2.2]
    by_cases w : nI c.2.2 ≤ nI c.2.1
    · rw [if_pos w, b146_44]; rfl
    · rw [if_neg w, b146_15 hL, if_pos (fun u => q (e3.mp u)), b146_44]; rfl
theorem w64 {a : Nat} (h : a < 1000) : ((nI a).toInt64).toInt = (a : Int) := by rw [wd_t, nI_t (by omega)]
theorem m_number {lo hi : Nat} (hd : 4 ≤ d) (hL : pm_lay g) (hn : n ≤ 400) (hb : ∀ i, i < n → T i < 256) (ha : YA T n iv c) (hlo : lo < 1000) (hhi : hi < 1000) :
    (∀ f, zNum T n lo hi c = .inl f → ∃ iv' r, pm_c X d 147 [.ref 32, .int (nI lo), .int (nI hi)] g iv = some (some (.int r), g, iv') ∧ YF [32] T n iv iv' f) ∧ (∀ e, zNum T n lo hi c = .inr e → ∃ iv', pm_c X d 147 [.ref 32, .int (nI lo), .int (nI hi)] g iv = some (some (.int (nI e.1)), g, iv') ∧ YG [32] T n iv iv' e.2) := by
  obtain ⟨d, rfl, hd1⟩ := pm_d1 hd
  obtain ⟨hx, hc, hz, h0⟩ := ha
  have w : iv 32 14 = 3 ↔ c.1 = 2 := MZ_1 hc hz 2 (by omega)
  have r0 : pm_c X (d + 1) 147 [.ref 32, .int (nI lo), .int (nI hi)] g iv = pm_at X d 147 (13, [some (.ref 32), some (.int (nI lo)), some (.int (nI hi)), none], [.int (nI (zfig T c))], g, iv) := by
    rw [e147, b147_0 hL, h0, if_pos (Int32.le_refl _), b147_9 hL, m_figs (by omega) hL hn hx hc hz, pm_then_i]
  unfold zNum
  by_cases q : c.1 = 2
  · have hv := zval_lt hz q
    have ef : zfig T c = zval T c := if_pos q
    have r1 : pm_c X (d + 1) 147 [.ref 32, .int (nI lo), .int (nI hi)] g iv = pm_at X d 147 (31, [some (.ref 32), some (.int (nI lo)), some (.int (nI hi)), some (.int (nI (zval T c)))], [.int (if (lo : Int) ≤ (zval T c : Int) ∧ (zval T c : Int) ≤ (hi : Int) then 1 else 0)], g, iv) := by
      rw [r0, ef, b147_13 hL, if_neg (not_not_intro (w.mpr q)), b147_22, m_inI (by omega), w64 hlo, w64 hhi, nI_t (show zval T c < 2147483648 by omega), pm_then_i]
    rw [if_pos q]
    by_cases q1 : lo ≤ zval T c ∧ zval T c ≤ hi
    · rw [if_pos q1]
      refine ⟨fun f h => (by cases h), fun e h => ?_⟩
      cases h
      obtain ⟨iv', a1, a2⟩ := m_must1 (X := X) hd1 hL hn hb ⟨hx, hc, hz, h0⟩
      exact ⟨iv', by rw [r1, if_pos (show (lo : Int) ≤ (zval T c : Int) ∧ (zval T c : Int) ≤ (hi : Int) by omega), b147_31, if_pos (by decide), b147_39 hL, if_neg (not_not_intro (w.mpr q)), b147_48, b147_53 hL, a1, pm_then_v, b147_56], a2⟩
    · rw [if_neg q1]
      refine ⟨fun f h => ?_, fun e h => (by cases h)⟩
      cases h
      obtain ⟨iv', a1, a2⟩ := m_bad (X := X) (k := 2) (show 1 ≤ d by omega) hL ⟨hx, hc, hz, h0⟩ (by omega) (by omega)
      rw [show nI 2 = 2 from rfl] at a1
      have r2 : pm_c X (d + 1) 147 [.ref 32, .int (nI lo), .int (nI hi)] g iv = pm_at X d 147 (39, [some (.ref 32), some (.int (nI lo)), some (.int (nI hi)), some (.int (nI (zval T c)))], [], g, iv') := by
        rw [r1, if_neg (show ¬ ((lo : Int) ≤ (zval T c : Int) ∧ (zval T c : Int) ≤ (hi : Int)) by omega), b147_31, if_neg (by decide), b147_34 hL, a1, pm_then_v]
      refine ⟨iv', nI (zval T c), ?_, a2⟩
      rw [r2, b147_39 hL]
      by_cases u : iv' 32 14 = 3
      · rw [if_neg (not_not_intro u), b147_48, b147_53 hL, m_mustB (by omega) hL a2.2.2, pm_then_v, b147_56]
      · rw [if_pos u, b147_52, b147_53 hL, m_mustB (by omega) hL a2.2.2, pm_then_v, b147_56]
  · rw [if_neg q]
    refine ⟨fun f h => ?_, fun e h => (by cases h)⟩
    cases h
    obtain ⟨iv', a1, a2⟩ := m_must0 (X := X) (show 2 ≤ d by omega) hL ⟨hx, hc, hz, h0⟩
    exact ⟨iv', _, by rw [r0, b147_13 hL, if_pos (fun u => q (w.mp u)), b147_39 hL, if_pos (fun u => q (w.mp u)), b147_52, b147_53 hL, a1, pm_then_v, b147_56], a2⟩
theorem m_numberB {y : Int32} (hd : 1 ≤ d) (hL : pm_lay g) (hb : YB T n iv f) : pm_c X d 147 [.ref 32, .int x, .int y] g iv = some (some (.int 0), g, iv) := by
  obtain ⟨d, rfl, hd1⟩ := pm_d1 hd
  rw [e147, b147_0 hL, if_neg (YB_l hb), b147_7]
theorem m_mustEnd (hd : 4 ≤ d) (hL : pm_lay g) (hn : n ≤ 400) (hb : ∀ i, i < n → T i < 256) (ha : YA T n iv c) :
    (∀ f, zSgn T n c = .inl f → ∃ iv', pm_c X d 149 [.ref 32] g iv = some (none, g, iv') ∧ YF [32] T n iv iv' f) ∧ (∀ e, zSgn T n c = .inr e → ∃ iv', pm_c X d 149 [.ref 32] g iv = some (none, g, iv') ∧ YG [32] T n iv iv' e) := by
  obtain ⟨d, rfl, hd1⟩ := pm_d1 hd
  have w : iv 32 14 = 4 ↔ c.1 = 3 := MZ_1 ha.2.1 ha.2.2.1 3 (by omega)
  unfold zSgn
  by_cases q : c.1 = 3
  · rw [if_pos q]
    refine ⟨fun f h => (by cases h), fun e h => ?_⟩
    cases h
    obtain ⟨iv', a1, a2⟩ := m_must1 (X := X) hd1 hL hn hb ha
    exact ⟨iv', by rw [e149, b149_0 hL, if_neg (not_not_intro ha.2.2.2), b149_7 hL, if_neg (not_not_intro (w.mpr q)), b149_16, b149_21 hL, a1, pm_then_v, b149_24], a2⟩
  · rw [if_neg q]
    refine ⟨fun f h => ?_, fun e h => (by cases h)⟩
    cases h
    obtain ⟨iv', a1, a2⟩ := m_must0 (X := X) (show 2 ≤ d by omega) hL ha
    exact ⟨iv', by rw [e149, b149_0 hL, if_neg (not_not_intro ha.2.2.2), b149_7 hL, if_pos (fun u => q (w.mp u)), b149_20, b149_21 hL, a1, pm_then_v, b149_24], a2⟩
theorem m_mustEndB (hd : 1 ≤ d) (hL : pm_lay g) (hb : YB T n iv f) : pm_c X d 149 [.ref 32] g iv = some (none, g, iv) := by
  obtain ⟨d, rfl, hd1⟩ := pm_d1 hd
  rw [e149, b149_0 hL, if_pos (YB_n hb), b149_24]
theorem m_begins0 {s k : Nat} (hd : 4 ≤ d) (hL : pm_lay g) (hn : n ≤ 400) (hb : ∀ i, i < n → T i < 256) (ha : YA T n iv c) (hs : s < 45) (hk : iv 37 s = x) : ∃ iv', pm_c X d 150 [.ref 32, .int (nI s), .int x] g iv = some (none, g, iv') ∧ YF [32] T n iv iv' (3, c.2.1) := by
  obtain ⟨d, rfl, hd1⟩ := pm_d1 hd
  obtain ⟨iv', a1, a2⟩ := m_bad (X := X) (k := 3) (show 1 ≤ d by omega) hL ha (by omega) (by omega)
  rw [show nI 3 = 3 from rfl] at a1
  refine ⟨iv', ?_, a2⟩
  rw [e150, b150_0 hL (vp_n hs (by decide)), nI_c (by omega), if_neg (not_not_intro hk), b150_10 hL, a1, pm_then_v, b150_15 hL, m_mustB (by omega) hL a2.2.2, pm_then_v, b150_20]
theorem m_begins1 {s : Nat} (hd : 4 ≤ d) (hL : pm_lay g) (hn : n ≤ 400) (hb : ∀ i, i < n → T i < 256) (ha : YA T n iv c) (hs : s < 45) (hk : ¬ iv 37 s = x) : ∃ iv', pm_c X d 150 [.ref 32, .int (nI s), .int x] g iv = some (none, g, iv') ∧ YG [32] T n iv iv' (znx T n c) := by
  obtain ⟨d, rfl, hd1⟩ := pm_d1 hd
  obtain ⟨iv', a1, a2⟩ := m_must1 (X := X) hd1 hL hn hb ha
  refine ⟨iv', ?_, a2⟩
  rw [e150, b150_0 hL (vp_n hs (by decide)), nI_c (by omega), if_pos hk, b150_15 hL, a1, pm_then_v, b150_20]
theorem m_name_lB (hL : pm_lay g) (hn : n ≤ 400) (hx : MX T n iv) (hc : MZ iv c) (hz : Zok T n c) (h0 : ¬ iv 32 17 = 0) : ∀ m k (a : Int64), k + m = c.2.2 → pm_at X d 145 (7, [some (.ref 32), some (.long a), none, some (.int (nI k))], [], g, iv) = some (some (.long 0), g, iv) := by
  obtain ⟨c1, c2, c3, c4⟩ := hc
  obtain ⟨z0, z1, z2, -, -⟩ := hz
  have fin : ∀ (a : Int64) (x : Int32), pm_at X d 145 (56, [some (.ref 32), some (.long a), none, some (.int x)], [], g, iv) = some (some (.long 0), g, iv) := fun a x => by
    rw [b145_56 hL, if_pos h0, b145_67, b145_68]
  intro m
  induction m with
  | zero =>
    intro k a hk
    rw [b145_7 hL, c4, if_pos (by rw [nI_le' (by omega) (by omega)]; omega), fin]
  | succ m ih =>
    intro k a hk
    rw [b145_7 hL, c4, if_neg (nI_ge (by omega) (by omega)), b145_15 hL]
    by_cases q : iv 32 14 = 2
    · rw [if_neg (not_not_intro q), b145_23 hL]
      by_cases q2 : 8 ≤ iv 32 16 - iv 32 15
      · rw [if_pos q2, fin]
      · rw [if_neg q2, b145_37 hL (vp_n (by omega) (by decide)), nI_1]
        exact ih (k + 1) _ (by omega)
    · rw [if_pos q, fin]
theorem m_nameB (hd : 1 ≤ d) (hL : pm_lay g) (hn : n ≤ 400) (hb : YB T n iv f) : pm_c X d 145 [.ref 32] g iv = some (some (.long 0), g, iv) := by
  obtain ⟨d, rfl, -⟩ := pm_d1 hd
  obtain ⟨e, e1, e2⟩ := hb.2.1
  have h : e.2.1 ≤ e.2.2 := e2.2.1
  rw [e145, b145_0 hL, e1.2.2.1]
  exact m_name_lB hL hn hb.1 e1 e2 (YB_n hb) (e.2.2 - e.2.1) e.2.1 0 (by omega)
end Y1
/-- the reference's text array shows v, t stones told -/
def ZR (iv : pm_V) (v : HV) (t : Nat) : Prop := HAr (iv 37) v ∧ iv 37 2 = nI t ∧ ∀ h, h < 6 → iv 37 (9 + 6 * h + 4) = 0 ∧ iv 37 (9 + 6 * h + 5) = 0
theorem ZR_fr {iv iv' : pm_V} {v : HV} {t : Nat} (h : ZR iv v t) (e : iv' 37 = iv 37) : ZR iv' v t := by
  unfold ZR
  rw [e]
  exact h
theorem HAr_aS {F : Nat → Int32} {v : HV} {l y : Nat} {z : Int32} (h : HAr F v) (hl : l < 4) (hy : y < 32) : HAr (upd (upd F (5 + l) (F (5 + l) ||| (1 <<< (nI y &&& 31)))) 2 z) (zaS v l y) := by
  obtain ⟨h0, h1, h3, h4, hs, hh⟩ := h
  have q : ∀ j, j ≠ 2 → j ≠ 5 + l → upd (upd F (5 + l) (F (5 + l) ||| (1 <<< (nI y &&& 31)))) 2 z j = F j := fun j p1 p2 => by rw [upd_n p1, upd_n p2]
  refine ⟨by rw [q 0 (by omega) (by omega)]; exact h0, by rw [q 1 (by omega) (by omega)]; exact h1, by rw [q 3 (by omega) (by omega)]; exact h3, by rw [q 4 (by omega) (by omega)]; exact h4, fun a ha i hi => ?_, fun j hj => ?_⟩
  · show _ = (vS v a i || decide (a = l ∧ i = y))
    by_cases e : a = l
    · subst e
      rw [upd_n (by omega), upd_s, b_or, b_one hy hi, hs a ha i hi]
      simp
    · rw [q (5 + a) (by omega) (by omega), hs a ha i hi, decide_eq_false (fun w => e w.1), Bool.or_false]
  · rw [q _ (by omega) (by omega), q _ (by omega) (by omega), q _ (by omega) (by omega), q _ (by omega) (by omega), q _ (by omega) (by omega), q _ (by omega) (by omega)]
    exact hh j hj
theorem HAr_aH {F G : Nat → Int32} {v : HV} {k h l y : Nat} (a : HAr F v) (hN : vN v < 6) (hc : ∀ i, vC v i = false) (ht : ∀ h, vt v h = 0) (hz : F (9 + 6 * vN v + 4) = 0 ∧ F (9 + 6 * vN v + 5) = 0)
    (g0 : G (9 + 6 * vN v) = nI k) (g1 : G (9 + 6 * vN v + 1) = nI l) (g2 : G (9 + 6 * vN v + 2) = nI y) (g3 : G (9 + 6 * vN v + 3) = nI h) (gn : G 3 = nI (vN v + 1)) (gq : ∀ j, j ≠ 3 → j ≠ 9 + 6 * vN v → j ≠ 9 + 6 * vN v + 1 → j ≠ 9 + 6 * vN v + 2 → j ≠ 9 + 6 * vN v + 3 → G j = F j) : HAr G (zaH v k h l y) := by
  obtain ⟨a0, a1, a3, a4, as, ah⟩ := a
  refine ⟨by rw [gq 0 (by omega) (by omega) (by omega) (by omega) (by omega)]; exact a0, by rw [gq 1 (by omega) (by omega) (by omega) (by omega) (by omega)]; exact a1, gn, by rw [gq 4 (by omega) (by omega) (by omega) (by omega) (by omega)]; exact a4, fun a ha i hi => ?_, fun j hj => ?_⟩
  · rw [gq (5 + a) (by omega) (by omega) (by omega) (by omega) (by omega)]
    exact as a ha i hi
  · have hj : j < vN v + 1 := hj
    show G (9 + 6 * j) = nI (if j = vN v then k else vK v j) ∧ G (9 + 6 * j + 1) = nI (if j = vN v then l else vl v j) ∧ G (9 + 6 * j + 2) = nI (if j = vN v then y else vy v j) ∧ G (9 + 6 * j + 3) = nI (if j = vN v then h else vH v j) ∧ G (9 + 6 * j + 4) = (if vC v j = true then 1 else 0) ∧ G (9 + 6 * j + 5) = vt v j
    by_cases e : j = vN v
    · subst e
      rw [if_pos rfl, if_pos rfl, if_pos rfl, if_pos rfl, hc, ht, gq (9 + 6 * vN v + 4) (by omega) (by omega) (by omega) (by omega) (by omega), gq (9 + 6 * vN v + 5) (by omega) (by omega) (by omega) (by omega) (by omega)]
      exact ⟨g0, g1, g2, g3, hz.1, hz.2⟩
    · rw [if_neg e, if_neg e, if_neg e, if_neg e, gq (9 + 6 * j) (by omega) (by omega) (by omega) (by omega) (by omega), gq (9 + 6 * j + 1) (by omega) (by omega) (by omega) (by omega) (by omega), gq (9 + 6 * j + 2) (by omega) (by omega) (by omega) (by omega) (by omega), gq (9 + 6 * j + 3) (by omega) (by omega) (by omega) (by omega) (by omega), gq (9 + 6 * j + 4) (by omega) (by omega) (by omega) (by omega) (by omega), gq (9 + 6 * j + 5) (by omega) (by omega) (by omega) (by omega) (by omega)]
      exact ah j (by omega)
