/-! image, restore -/
/-- the cells from the next on are free -/
def Fg (g : pm_G) : Prop := ∀ j, g.2.2.1 ≤ j → g.1 j = none
/-- both sides answer alike; the cells may have grown -/
def PRg (X : pm_X) (d : Nat) (g : pm_G) (iv : pm_V) (mc mm : Nat) (ac am : List Value) : Prop := ∃ r g' iv1 iv2, pm_c X d mc ac g iv = some (some (.int r), g', iv1) ∧ pm_c X d mm am g' iv1 = some (some (.int r), g', iv2) ∧ RL g' iv2 ∧ Fg g'
theorem PR_g {X : pm_X} {d : Nat} {g : pm_G} {iv : pm_V} {mc mm : Nat} {ac am : List Value} (h : PR X d g iv mc mm ac am) (hf : Fg g) : PRg X d g iv mc mm ac am := by
  obtain ⟨r, iv1, iv2, a, b, c⟩ := h
  exact ⟨r, g, iv1, iv2, a, b, c, hf⟩
theorem sl_fr {g g' : pm_G} {k : Nat} (h : pm_sl g k) (h1 : ∀ a, k ≤ a → a < k + 10 → g'.1 a = g.1 a) (h2 : g'.2.1 k = g.2.1 k) : pm_sl g' k := by
  unfold pm_sl
  rw [h1 k (by omega) (by omega), h1 (k + 1) (by omega) (by omega), h1 (k + 2) (by omega) (by omega), h1 (k + 3) (by omega) (by omega), h1 (k + 4) (by omega) (by omega), h1 (k + 5) (by omega) (by omega), h1 (k + 6) (by omega) (by omega), h1 (k + 7) (by omega) (by omega), h1 (k + 8) (by omega) (by omega), h1 (k + 9) (by omega) (by omega), h2]
  exact h
theorem lay_fr {g g' : pm_G} (h : pm_lay g) (h1 : ∀ a, a < 46 → g'.1 a = g.1 a) (h2 : ∀ a, a < 46 → a ≠ 31 → g'.2.1 a = g.2.1 a) : pm_lay g' := by
  have c1 : ∀ e ∈ pm_ll0, e.1 < 46 := by decide
  have c2 : ∀ e ∈ pm_lr0, e.1 < 46 ∧ e.1 ≠ 31 := by decide
  exact ⟨fun e he => by rw [h1 _ (c1 e he)]; exact h.1 e he, fun e he => by rw [h2 _ (c2 e he).1 (c2 e he).2]; exact h.2 e he⟩
section C4
variable {κ : pm_Ka} {ρ : pm_Ra} {N c s j : Nat}
theorem rw_n {ρ : pm_Ra} {a b i : Nat} {x : Option Nat} (h : b ≠ a) : pm_rw ρ a i x b = ρ b := if_neg h
theorem rw_s {ρ : pm_Ra} {a i : Nat} {x : Option Nat} : pm_rw ρ a i x a i = x := by simp [pm_rw, va_up]
theorem rw_o {ρ : pm_Ra} {a i b : Nat} {x : Option Nat} (h : b ≠ i) : pm_rw ρ a i x a b = ρ a b := by simp [pm_rw, va_up, h]
theorem rx_n {ρ : pm_Ra} {m a : Nat} (h : a ≠ m) : rx ρ m a = ρ a := if_neg h
/-- the cells of a new slope at N, put into image j -/
def gI (κ : pm_Ka) (ρ : pm_Ra) (N c s j : Nat) : pm_G := (K25 (kx κ N (3, 0)) (N + 1), pm_rw (R25 (rx ρ N) N (N + 1)) 31 j (some N), N + 1 + 9, c + 1 + 9, s + 14 + 50)
theorem gI_1 {a : Nat} (h : a < N ∨ N + 10 ≤ a) : (gI κ ρ N c s j).1 a = κ a := by
  show K25 (kx κ N (3, 0)) (N + 1) a = κ a
  rw [K25_n (by omega), kx_n (by omega)]
theorem R25_n {ρ : pm_Ra} {k N a : Nat} (hk : k < N) (h : a < k) : R25 ρ k N a = ρ a := by
  unfold R25
  simp (disch := omega) only [rw_n, rx_n]
theorem gI_2 {a : Nat} (h : a < N) (h1 : a ≠ 31) : (gI κ ρ N c s j).2.1 a = ρ a := by
  show pm_rw (R25 (rx ρ N) N (N + 1)) 31 j (some N) a = ρ a
  rw [rw_n h1, R25_n (by omega) h, rx_n (by omega)]
theorem gI_3 (h : 46 ≤ N) : (gI κ ρ N c s j).2.1 31 j = some N := by
  show pm_rw (R25 (rx ρ N) N (N + 1)) 31 j (some N) 31 j = some N
  exact rw_s
theorem gI_4 {i : Nat} (h : 46 ≤ N) (hi : i ≠ j) : (gI κ ρ N c s j).2.1 31 i = ρ 31 i := by
  show pm_rw (R25 (rx ρ N) N (N + 1)) 31 j (some N) 31 i = ρ 31 i
  rw [rw_o hi, R25_n (by omega) (by omega), rx_n (by omega)]
theorem K25_0 : K25 κ N (N) = some (8, 4) := by
  unfold K25
  simp (disch := omega) only [kx_n, kx_s]
theorem K25_1 : K25 κ N (N + 1) = some (8, 6) := by
  unfold K25
  simp (disch := omega) only [kx_n, kx_s]
theorem K25_2 : K25 κ N (N + 2) = some (8, 6) := by
  unfold K25
  simp (disch := omega) only [kx_n, kx_s]
theorem K25_3 : K25 κ N (N + 3) = some (8, 6) := by
  unfold K25
  simp (disch := omega) only [kx_n, kx_s]
theorem K25_4 : K25 κ N (N + 4) = some (8, 6) := by
  unfold K25
  simp (disch := omega) only [kx_n, kx_s]
theorem K25_5 : K25 κ N (N + 5) = some (8, 6) := by
  unfold K25
  simp (disch := omega) only [kx_n, kx_s]
theorem K25_6 : K25 κ N (N + 6) = some (8, 6) := by
  unfold K25
  simp (disch := omega) only [kx_n, kx_s]
theorem K25_7 : K25 κ N (N + 7) = some (8, 6) := by
  unfold K25
  simp (disch := omega) only [kx_n, kx_s]
theorem K25_8 : K25 κ N (N + 8) = some (8, 4) := by
  unfold K25
  simp (disch := omega) only [kx_n, kx_s]
theorem R25_0 {k : Nat} (hk : k < N) : R25 ρ k N k 5 = some (N) := by
  unfold R25
  simp (disch := omega) only [rw_o, rw_s, rx_n]
theorem R25_1 {k : Nat} (hk : k < N) : R25 ρ k N k 6 = some (N + 1) := by
  unfold R25
  simp (disch := omega) only [rw_o, rw_s, rx_n]
theorem R25_2 {k : Nat} (hk : k < N) : R25 ρ k N k 7 = some (N + 2) := by
  unfold R25
  simp (disch := omega) only [rw_o, rw_s, rx_n]
theorem R25_3 {k : Nat} (hk : k < N) : R25 ρ k N k 8 = some (N + 3) := by
  unfold R25
  simp (disch := omega) only [rw_o, rw_s, rx_n]
theorem R25_4 {k : Nat} (hk : k < N) : R25 ρ k N k 9 = some (N + 4) := by
  unfold R25
  simp (disch := omega) only [rw_o, rw_s, rx_n]
theorem R25_5 {k : Nat} (hk : k < N) : R25 ρ k N k 10 = some (N + 5) := by
  unfold R25
  simp (disch := omega) only [rw_o, rw_s, rx_n]
theorem R25_6 {k : Nat} (hk : k < N) : R25 ρ k N k 11 = some (N + 6) := by
  unfold R25
  simp (disch := omega) only [rw_o, rw_s, rx_n]
theorem R25_7 {k : Nat} (hk : k < N) : R25 ρ k N k 12 = some (N + 7) := by
  unfold R25
  simp (disch := omega) only [rw_o, rw_s, rx_n]
theorem R25_8 {k : Nat} (hk : k < N) : R25 ρ k N k 13 = some (N + 8) := by
  unfold R25
  simp (disch := omega) only [rw_o, rw_s, rx_n]
theorem gI_sl (h : 46 ≤ N) : pm_sl (gI κ ρ N c s j) N := by
  have r : ∀ i, (gI κ ρ N c s j).2.1 N i = R25 (rx ρ N) N (N + 1) N i := fun i => by
    show pm_rw (R25 (rx ρ N) N (N + 1)) 31 j (some N) N i = _
    rw [rw_n (by omega)]
  have k0 : (gI κ ρ N c s j).1 N = some (3, 0) := by
    show K25 (kx κ N (3, 0)) (N + 1) N = _
    rw [K25_n (by omega), kx_s]
  exact ⟨k0, K25_0 (N := N + 1), K25_1 (N := N + 1), K25_2 (N := N + 1), K25_3 (N := N + 1), K25_4 (N := N + 1), K25_5 (N := N + 1), K25_6 (N := N + 1), K25_7 (N := N + 1), K25_8 (N := N + 1), (r 5).trans (R25_0 (by omega)), (r 6).trans (R25_1 (by omega)), (r 7).trans (R25_2 (by omega)), (r 8).trans (R25_3 (by omega)), (r 9).trans (R25_4 (by omega)), (r 10).trans (R25_5 (by omega)), (r 11).trans (R25_6 (by omega)), (r 12).trans (R25_7 (by omega)), (r 13).trans (R25_8 (by omega))⟩
end C4
theorem CO_im {g g' : pm_G} {iv iv' : pm_V} {v : HV} (h : CO g iv v) (hc : ∀ c, c < 46 → c ≠ 32 → c ≠ 43 → c ≠ 44 → iv' c = iv c) (h32 : ∀ c, c ≠ 0 → iv' 32 c = iv 32 c) (hI : RI g' iv') : CO g' iv' v := by
  obtain ⟨a1, a2, a3, ⟨a, o, r, b1, b2, b3⟩, a5, a6, a7, a8⟩ := h
  have q : ∀ c, c < 46 ∧ c ≠ 32 ∧ c ≠ 43 ∧ c ≠ 44 → iv' c = iv c := fun c h => hc c h.1 h.2.1 h.2.2.1 h.2.2.2
  exact ⟨RV_fr a1 (fun c x y => q c (by omega)) (q 36 (by decide)), RR_fr a2 (by rw [q 1 (by decide)]) (q 2 (by decide)) (q 3 (by decide)) (q 4 (by decide)) (q 33 (by decide)) (q 34 (by decide)) (q 35 (by decide)),
    RT_fr a3 (by rw [q 5 (by decide)]) (h32 10 (by decide)) (q 39 (by decide)) (q 6 (by decide)), ⟨a, o, r, CA_fr b1 (by rw [q 7 (by decide)]) (by rw [q 7 (by decide)]) (q 8 (by decide)), MA_fr b2 (h32 8 (by decide)) (q 38 (by decide)), b3⟩, RX_fr a5 (by rw [q 9 (by decide)]) (h32 25 (by decide)) (q 10 (by decide)) (q 45 (by decide)),
    hI, by rw [q 0 (by decide), h32 1 (by decide)]; exact a7, by rw [q 5 (by decide), h32 11 (by decide)]; exact a8⟩
section Q76
variable {X : pm_X} {d k : Nat} {g : pm_G} {iv : pm_V} {v : HV} {x : Int32}
/-- the reference keeps its hill as image j -/
theorem m_image_l (hL : pm_lay g) {j : Nat} (hj : j < 2) : ∀ m i (iv : pm_V) (f : Nat → Int32), i + m = 45 → iv 36 = f → (∀ q, q < i → iv 44 (45 * j + q) = f q) → ∃ iv', pm_at X d 189 (30, [some (.ref 32), some (.int (nI j)), some (.int (nI i))], [], g, iv) = pm_at X d 189 (59, [some (.ref 32), some (.int (nI j)), some (.int (nI 45))], [], g, iv') ∧ chg [44] iv iv' ∧ (∀ q, q < 45 → iv' 44 (45 * j + q) = f q) ∧ ∀ q, (q < 45 * j ∨ 45 * j + 45 ≤ q) → iv' 44 q = iv 44 q := by
  intro m
  induction m with
  | zero =>
    intro i iv f h hf hq
    have e : i = 45 := by omega
    subst e
    exact ⟨iv, by rw [b189_30, if_pos (show (45 : Int32) ≤ nI 45 from Int32.le_refl _)], chg_rf, hq, fun _ _ => rfl⟩
  | succ m ih =>
    intro i iv f h hf hq
    have e1 : 45 * nI j + nI i = nI (45 * j + i) := by
      show nI 45 * nI j + nI i = _
      rw [pk_mul, nI_add]
    obtain ⟨iv', a1, a2, a3, a4⟩ := ih (i + 1) (pm_iw iv 44 (45 * j + i) (f i)) f (by omega) (by rw [iw_n (by decide)]; exact hf) (fun q hq' => by
      rw [iw_s]
      by_cases e : q = i
      · rw [e, upd_s]
      · rw [upd_n (by omega)]; exact hq q (by omega))
    refine ⟨iv', ?_, chg_tr (chg_iw (by decide)) a2, a3, fun q hq' => by rw [a4 q hq', iw_s, upd_n (by omega)]⟩
    rw [b189_30, if_neg (show ¬ (45 : Int32) ≤ nI i by rw [le_i, show (45 : Int32).toInt = 45 from rfl, nI_t (by omega)]; omega), b189_36 hL (vp_n (by omega) (by decide)) (by rw [e1]; exact vp_n (by omega) (by decide)), e1, nI_c (by omega), nI_c (by omega), nI_1, hf, a1]
theorem m_image {j : Nat} (hd : 2 ≤ d) (hL : pm_lay g) (hv : HAr (iv 36) v) (ho : Hok v) (hj : j < 2) (h0 : 0 < vL v) : ∃ iv', pm_c X d 189 [.ref 32, .int (nI j)] g iv = some (some (.int 1), g, iv') ∧ chg [32, 43, 44] iv iv' ∧ (∀ c, c ≠ 0 → iv' 32 c = iv 32 c) ∧ iv' 43 j = 1 ∧ (∀ i, i ≠ j → iv' 43 i = iv 43 i) ∧ HAr (fun i => iv' 44 (45 * j + i)) v ∧ ∀ q, (q < 45 * j ∨ 45 * j + 45 ≤ q) → iv' 44 q = iv 44 q := by
  obtain ⟨d, rfl, hd1⟩ := pm_d1 hd
  have hv0 : HAr ((pm_iw iv 32 0 0) 36) v := by rw [iw_n (by decide)]; exact hv
  obtain ⟨iv1, a1, a2, a3, a4⟩ := m_image_l (X := X) (d := d) hL hj 45 0 (pm_iw iv 32 0 0) _ (by omega) rfl (fun q h => absurd h (Nat.not_lt_zero q))
  rw [nI_0] at a1
  have cj : (nI j).toNatClampNeg = j := nI_c (by omega)
  have z0 : (0 : Int64).toInt = 0 := rfl
  have z1 : (1 : Int64).toInt = 1 := rfl
  have hr : (0 : Int) ≤ (nI j).toInt ∧ (nI j).toInt ≤ 1 := by rw [nI_t (by omega)]; omega
  refine ⟨pm_iw iv1 43 j 1, ?_, chg_tr (chg_iw (by decide)) (chg_tr (chg_mo a2 (by decide)) (chg_iw (by decide))), fun c hc => by rw [iw_n (by decide), a2 32 (by decide), iw_s, upd_n hc], by rw [iw_s, upd_s], fun i hi => by rw [iw_s, upd_n hi, a2 43 (by decide), iw_n (by decide)], ?_, fun q hq => by rw [iw_n (by decide), a4 q hq, iw_n (by decide)]⟩
  · rw [e189, b189_0 hL, m_inI hd1, z0, z1, if_pos hr, pm_then_i, b189_12, if_pos (by decide), b189_18 hL, m_isThere hd1 hL hv0 ho, if_pos h0, pm_then_i, b189_22, if_pos (by decide), b189_28, a1, b189_59 hL (vp_n hj (by decide)), cj]
    rfl
  · refine HAr_fr hv ho.2.2.1 (fun i hi => ?_)
    show (pm_iw iv1 43 j 1) 44 (45 * j + i) = iv 36 i
    rw [iw_n (by decide), a3 i hi, iw_n (by decide)]
/-- from the image's slope on -/
theorem t_image_e {c : Nat} (hd : 1 ≤ d) (hL : pm_lay g) (hc : pm_sl g c) (h46 : 46 ≤ c) (hv : SV iv 11 v) (ho : Hok v) : ∃ iv', pm_at X d 112 (50, [some (.ref 0), some (.int x), some (.ref c)], [], g, iv) = some (some (.int 1), g, iv') ∧ (∀ a, a < 46 → iv' a = iv a) ∧ (∀ a, c + 7 ≤ a → iv' a = iv a) ∧ (∀ a, a < c → iv' a = iv a) ∧ SV iv' c v := by
  obtain ⟨iv', a1, a2, a3⟩ := t_takeFrom (X := X) (d := d) (k := c) (k2 := 11) hd hc (lay_now hL) (Or.inr (by omega)) hv ho
  have q : ∀ a, (a < c ∨ c + 7 ≤ a) → iv' a = iv a := fun a h => a2 a (by simp only [List.mem_cons, List.not_mem_nil, or_false]; omega)
  refine ⟨iv', ?_, fun a h => q a (by omega), fun a h => q a (by omega), fun a h => q a (by omega), a3⟩
  refine (at_aload_n dc112_50 rfl).trans ?_
  refine (at_aload_n dc112_51 rfl).trans ?_
  refine (at_gfR dc112_52 mc112 lf5_40 fo5_4 (ly0 hL) (lr0_4 hL)).trans ?_
  refine (at_inv (as := [.ref 11]) dc112_55 mc112 lm5_112 rfl rfl (Nat.le_of_ble_eq_true rfl) (Or.inl ⟨hc.1, by decide⟩)).trans ?_
  rw [a1, pm_then_v]
  refine (at_iconst (v := 1) dc112_58 rfl).trans ?_
  exact at_iret dc112_59 mr112
theorem q_image (hd : 4 ≤ d) (h : RL g iv) (hF : Fg g) : PRg X d g iv 112 189 [.ref 0, .int x] [.ref 32, .int x] := by
  obtain ⟨d, rfl, hd1⟩ := pm_d1 hd
  obtain ⟨hg, v, co⟩ := h
  have hL := hg.1
  have hv := co.1.1
  have ho := co.1.2.2.1
  have co2 := CO_0 co
  have z0 : (0 : Int64).toInt = 0 := rfl
  have z1 : (1 : Int64).toInt = 1 := rfl
  by_cases q : ip x 2 = true
  · obtain ⟨j, hj, rfl⟩ := ip_ex q (by decide)
    have r0 : pm_c X (d + 1) 112 [.ref 0, .int (nI j)] g iv = pm_at X d 112 (18, [some (.ref 0), some (.int (nI j)), none], [.int (if 0 < vL v then 1 else 0)], g, iv) := by
      rw [e112, b112_0, t_ip (n := 1) (by omega) toI1, if_pos q, pm_then_i, b112_5, if_pos (by decide), b112_11 hL, t_stands (by omega) (lay_now hL) hv ho, pm_then_i]
    by_cases q0 : 0 < vL v
    · have cj : (nI j).toNatClampNeg = j := nI_c (by omega)
      have hin : vp_in (nI j) 2 := vp_n hj (by decide)
      have r1 : pm_c X (d + 1) 112 [.ref 0, .int (nI j)] g iv = pm_at X d 112 (30, [some (.ref 0), some (.int (nI j)), none], [va_rf (g.2.1 31 j)], g, iv) := by
        rw [r0, if_pos q0, b112_18, if_pos (by decide)]
        refine (at_aload_n dc112_24 rfl).trans ?_
        refine (at_gfR dc112_25 mc112 lf5_47 fo5_6 (ly0 hL) (lr0_6 hL)).trans ?_
        refine (at_iload_n dc112_28 rfl).trans ?_
        refine (at_aald dc112_29 (ly31 hL) hin).trans ?_
        rw [cj]
      obtain ⟨i0, i1, i2⟩ := co.2.2.2.2.2.1
      have hIM : ∀ i, i < 2 → IM g iv i := fun i hi => by
        rcases (show i = 0 ∨ i = 1 by omega) with rfl | rfl
        · exact i0
        · exact i1
      -- what the reference's half gives, whatever cells the class has now
      have fin : ∀ (g' : pm_G) (c : Nat) (iv1 : pm_V), RG g' → Fg g' → g'.2.1 31 j = some c → 46 ≤ c → c + 10 ≤ g'.2.2.1 → pm_sl g' c → SV iv1 c v → (∀ a, a < 46 → iv1 a = iv a) → (∀ i, i < 2 → i ≠ j → IM g' iv1 i) → IA g' → pm_c X (d + 1) 112 [.ref 0, .int (nI j)] g iv = some (some (.int 1), g', iv1) → PRg X (d + 1) g iv 112 189 [.ref 0, .int (nI j)] [.ref 32, .int (nI j)] := fun g' c iv1 hg' hF' hr hc46 hcn hsl hsv hlo hoth hia hrun => by
        obtain ⟨iv2, b1, b2, b3, b4, b5, b6, b7⟩ := m_image (X := X) (d := d + 1) (iv := iv1) (v := v) (j := j) (by omega) hg'.1 (by rw [hlo 36 (by decide)]; exact co.1.2.1) ho hj q0
        have hmine : IM g' iv2 j := Or.inr ⟨c, v, hr, hc46, hcn, hsl, b4, SV_fr hsv (fun a p1 p2 => b2 a (by simp only [List.mem_cons, List.not_mem_nil, or_false]; omega)), b6, ho, co.1.2.2.2.1, co.1.2.2.2.2, q0⟩
        have hother : ∀ i, i < 2 → i ≠ j → IM g' iv2 i := fun i hi hij => by
          have e43 : iv2 43 i = iv1 43 i := b5 i hij
          have e44 : ∀ q, q < 45 → iv2 44 (45 * i + q) = iv1 44 (45 * i + q) := fun q hq => b7 _ (by omega)
          rcases hoth i hi hij with ⟨p1, p2⟩ | ⟨c', u, p1, p2, p3, p4, p5, p6, p7, p8⟩
          · exact Or.inl ⟨p1, by rw [e43, p2]⟩
          · exact Or.inr ⟨c', u, p1, p2, p3, p4, by rw [e43, p5], SV_fr p6 (fun a q1 q2 => b2 a (by simp only [List.mem_cons, List.not_mem_nil, or_false]; omega)), HAr_fr p7 p8.1.2.2.1 e44, p8⟩
        have all : ∀ i, i < 2 → IM g' iv2 i := fun i hi => by
          by_cases e : i = j
          · rw [e]; exact hmine
          · exact hother i hi e
        refine ⟨1, g', iv1, iv2, hrun, b1, ⟨hg', v, CO_im co (fun a p1 p2 p3 p4 => ?_) (fun a p => ?_) ⟨all 0 (by omega), all 1 (by omega), hia⟩⟩, hF'⟩
        · rw [b2 a (by simp only [List.mem_cons, List.not_mem_nil, or_false]; omega), hlo a p1]
        · rw [b3 a p, hlo 32 (by decide)]
      rcases hIM j hj with ⟨p1, p2⟩ | ⟨c, u, p1, p2, p3, p4, p5, p6, p7, p8⟩
      · -- a new slope
        obtain ⟨κ, ρ, N, c, s⟩ := g
        have p1 : ρ 31 j = none := p1
        have hF : ∀ a, N ≤ a → κ a = none := hF
        obtain ⟨hg1, hg2, hg3⟩ := hg
        have hg3 : N = 46 + 10 * imN (κ, ρ, N, c, s) ∧ c ≤ 1000 + 100 * imN (κ, ρ, N, c, s) ∧ s ≤ 100000 + 1000 * imN (κ, ρ, N, c, s) := hg3
        have him : imN (κ, ρ, N, c, s) ≤ 1 := by
          show (if (ρ 31 0).isSome = true then 1 else 0) + (if (ρ 31 1).isSome = true then 1 else 0) ≤ 1
          rcases (show j = 0 ∨ j = 1 by omega) with rfl | rfl <;> (rw [p1]; simp; split <;> omega)
        have hN : 46 ≤ N := by omega
        have hN2 : N + 10 ≤ 66 := by omega
        have h1 : ∀ a, a < N → (gI κ ρ N c s j).1 a = κ a := fun a ha => gI_1 (Or.inl ha)
        have hlay : pm_lay (gI κ ρ N c s j) := lay_fr hg1 (fun a ha => h1 a (by omega)) (fun a ha hn => gI_2 (by omega) hn)
        have hF' : Fg (gI κ ρ N c s j) := fun a ha => by
          have ha : N + 1 + 9 ≤ a := ha
          rw [gI_1 (Or.inr (by omega))]
          exact hF a (by omega)
        have hxg : pm_xg (gI κ ρ N c s j) := fun a ha => hF' a (by show N + 1 + 9 ≤ a; omega)
        have hsl : pm_sl (gI κ ρ N c s j) N := gI_sl hN
        have e3 : (gI κ ρ N c s j).2.1 31 j = some N := gI_3 hN
        have e4 : ∀ i, i ≠ j → (gI κ ρ N c s j).2.1 31 i = ρ 31 i := fun i hi => gI_4 hN hi
        have himN : imN (gI κ ρ N c s j) = imN (κ, ρ, N, c, s) + 1 := by
          show (if ((gI κ ρ N c s j).2.1 31 0).isSome = true then 1 else 0) + (if ((gI κ ρ N c s j).2.1 31 1).isSome = true then 1 else 0) = (if (ρ 31 0).isSome = true then 1 else 0) + (if (ρ 31 1).isSome = true then 1 else 0) + 1
          rcases (show j = 0 ∨ j = 1 by omega) with rfl | rfl
          · rw [e3, e4 1 (by decide), p1]; simp; omega
          · rw [e3, e4 0 (by decide), p1]; simp
        have hRM : RM (gI κ ρ N c s j) := by
          show N + 1 + 9 = 46 + 10 * imN (gI κ ρ N c s j) ∧ c + 1 + 9 ≤ 1000 + 100 * imN (gI κ ρ N c s j) ∧ s + 14 + 50 ≤ 100000 + 1000 * imN (gI κ ρ N c s j)
          rw [himN]
          omega
        have hoth : ∀ i, i < 2 → i ≠ j → IM (gI κ ρ N c s j) iv i := fun i hi hij => by
          rcases hIM i hi with ⟨w1, w2⟩ | ⟨c', u, w1, w2, w3, w4, w5⟩
          · exact Or.inl ⟨by rw [e4 i hij]; exact w1, w2⟩
          · have w3 : c' + 10 ≤ N := w3
            exact Or.inr ⟨c', u, by rw [e4 i hij]; exact w1, w2, by show c' + 10 ≤ N + 1 + 9; omega, sl_fr w4 (fun a q1 q2 => h1 a (by omega)) (gI_2 (by omega) (by omega)), w5⟩
        have hot2 : ∀ i e, i < 2 → i ≠ j → (gI κ ρ N c s j).2.1 31 i = some e → e + 10 ≤ N := fun i e hi hij he => by
          rw [e4 i hij] at he
          rcases hIM i hi with ⟨w1, w2⟩ | ⟨c', u, w1, w2, w3, -⟩
          · have w1 : ρ 31 i = none := w1
            rw [w1] at he; cases he
          · have w1 : ρ 31 i = some c' := w1
            rw [w1] at he; cases he; exact w3
        have hia : IA (gI κ ρ N c s j) := fun a e ha he => by
          rcases (show j = 0 ∨ j = 1 by omega) with rfl | rfl
          · rw [e3] at ha; cases ha
            exact Or.inr (hot2 1 e (by omega) (by decide) he)
          · rw [e3] at he; cases he
            exact Or.inl (hot2 0 a (by omega) (by decide) ha)
        have hv0 : SV (V25 (pm_ir iv N (fun _ => 0)) (N + 1)) 11 v := SV_fr hv (fun a q1 q2 => by rw [V25_n (Or.inl (by omega)), ir_n (by omega)])
        obtain ⟨iv1, t1, t2, t3, t4, t5⟩ := t_image_e (X := X) (d := d) (x := nI j) (c := N) (by omega) hlay hsl hN hv0 ho
        have hlo : ∀ a, a < N → iv1 a = iv a := fun a ha => by rw [t4 a ha, V25_n (Or.inl (by omega)), ir_n (by omega)]
        have k31 : K25 (kx κ N (3, 0)) (N + 1) 31 = some (11, 2) := by rw [K25_n (Or.inl (by omega)), kx_n (by omega)]; exact ly31 hg1
        have k0 : K25 (kx κ N (3, 0)) (N + 1) 0 = some (5, 0) := by rw [K25_n (Or.inl (by omega)), kx_n (by omega)]; exact ly0 hg1
        have r06 : R25 (rx ρ N) N (N + 1) 0 6 = some 31 := by rw [R25_n (by omega) (by omega), rx_n (by omega)]; exact lr0_6 hg1
        have kN : K25 (kx κ N (3, 0)) (N + 1) N = some (3, 0) := by rw [K25_n (Or.inl (by omega)), kx_s]
        refine fin (gI κ ρ N c s j) N iv1 ⟨hlay, hxg, hRM⟩ hF' e3 hN (by show N + 10 ≤ N + 1 + 9; omega) hsl t5 (fun a ha => hlo a (by omega)) (fun i hi hij => ?_) hia ?_
        · rcases hoth i hi hij with ⟨w1, w2⟩ | ⟨c', u, w1, w2, w3, w4, w5, w6, w7⟩
          · exact Or.inl ⟨w1, by rw [hlo 43 (by omega)]; exact w2⟩
          · have w8 := hot2 i c' hi hij w1
            exact Or.inr ⟨c', u, w1, w2, w3, w4, by rw [hlo 43 (by omega)]; exact w5, SV_fr w6 (fun a q1 q2 => hlo a (by omega)), by rw [hlo 44 (by omega)]; exact w7⟩
        · rw [r1]
          show pm_at X d 112 (30, [some (.ref 0), some (.int (nI j)), none], [va_rf (ρ 31 j)], (κ, ρ, N, c, s), iv) = _
          rw [p1]
          refine (at_astore_nN dc112_30 rfl).trans ?_
          refine (at_aload_nN dc112_31 rfl).trans ?_
          refine (at_nnN dc112_32).trans ?_
          refine (at_newT (N1 := N + 1) (c1 := c + 1) (s1 := s + 14) dc112_35 mc112 lc5_37 (hF N (Nat.le_refl N)) (by omega) rfl rfl rfl).trans ?_
          refine (at_dup dc112_38 rfl).trans ?_
          refine (at_ispN (as := []) dc112_39 mc112 lm5_39 rfl rfl (Nat.le_of_ble_eq_true rfl)).trans ?_
          rw [i25 (by omega) kx_s (by omega) (kx_f hF rfl) (by omega), pm_then_v]
          refine (at_astore_n dc112_42 rfl).trans ?_
          refine (at_aload_n dc112_43 rfl).trans ?_
          refine (at_gfR dc112_44 mc112 lf5_47 fo5_6 k0 r06).trans ?_
          refine (at_iload_n dc112_47 rfl).trans ?_
          refine (at_aload_n dc112_48 rfl).trans ?_
          refine (at_aast dc112_49 k31 kN hin).trans ?_
          rw [cj]
          exact t1
      · have n0 : va_rf (g.2.1 31 j) = .ref c := by rw [p1]; rfl
        obtain ⟨iv1, t1, t2, t3, t4, t5⟩ := t_image_e (X := X) (d := d) (x := nI j) (c := c) (by omega) hL p4 p2 hv ho
        refine fin g c iv1 hg hF p1 p2 p3 p4 t5 t2 (fun i hi hij => ?_) i2 ?_
        · rcases hIM i hi with ⟨w1, w2⟩ | ⟨c', u', w1, w2, w3, w4, w5, w6, w7⟩
          · exact Or.inl ⟨w1, by rw [t2 43 (by decide)]; exact w2⟩
          · have w8 : c + 10 ≤ c' ∨ c' + 10 ≤ c := by
              rcases (show (j = 0 ∧ i = 1) ∨ (j = 1 ∧ i = 0) by omega) with ⟨rfl, rfl⟩ | ⟨rfl, rfl⟩
              · exact i2 c c' p1 w1
              · have := i2 c' c w1 p1; omega
            exact Or.inr ⟨c', u', w1, w2, w3, w4, by rw [t2 43 (by decide)]; exact w5, SV_fr w6 (fun a q1 q2 => by
              rcases w8 with w8 | w8
              · exact t3 a (by omega)
              · exact t4 a (by omega)), by rw [t2 44 (by decide)]; exact w7⟩
        · rw [r1, n0]
          refine (at_astore_n dc112_30 rfl).trans ?_
          refine (at_aload_n dc112_31 rfl).trans ?_
          refine (at_nn (t := 50) dc112_32 (by decide)).trans ?_
          exact t1
    · refine ⟨-1000002, g, iv, pm_iw iv 32 0 0, ?_, ?_, ⟨hg, v, co2⟩, hF⟩
      · rw [r0, if_neg q0, b112_18, if_neg (by decide), b112_21]
      · have hr : (0 : Int) ≤ (nI j).toInt ∧ (nI j).toInt ≤ 1 := by rw [nI_t (by omega)]; omega
        rw [e189, b189_0 hL, m_inI (by omega), z0, z1, if_pos hr, pm_then_i, b189_12, if_pos (by decide), b189_18 hL, m_isThere (by omega) hL co2.1.2.1 ho, if_neg q0, pm_then_i, b189_22, if_neg (by decide), b189_25]
  · have hr : ¬ ((0 : Int) ≤ x.toInt ∧ x.toInt ≤ 1) := fun w => q (decide_eq_true (by omega))
    refine ⟨-1000001, g, iv, pm_iw iv 32 0 0, ?_, ?_, ⟨hg, v, co2⟩, hF⟩
    · rw [e112, b112_0, t_ip (n := 1) (by omega) toI1, if_neg q, pm_then_i, b112_5, if_neg (by decide), b112_8]
    · rw [e189, b189_0 hL, m_inI (by omega), z0, z1, if_neg hr, pm_then_i, b189_12, if_neg (by decide), b189_15]
end Q76
