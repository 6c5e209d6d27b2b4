/-! what class and reference share between calls -/
theorem lay_now {g : pm_G} (h : pm_lay g) : pm_sl g 11 := ⟨ly11 h, ly12 h, ly13 h, ly14 h, ly15 h, ly16 h, ly17 h, ly18 h, ly19 h, ly20 h, lr11_5 h, lr11_6 h, lr11_7 h, lr11_8 h, lr11_9 h, lr11_10 h, lr11_11 h, lr11_12 h, lr11_13 h⟩
theorem lay_trial {g : pm_G} (h : pm_lay g) : pm_sl g 21 := ⟨ly21 h, ly22 h, ly23 h, ly24 h, ly25 h, ly26 h, ly27 h, ly28 h, ly29 h, ly30 h, lr21_5 h, lr21_6 h, lr21_7 h, lr21_8 h, lr21_9 h, lr21_10 h, lr21_11 h, lr21_12 h, lr21_13 h⟩
theorem SV_fr {iv iv' : pm_V} {k : Nat} {v : HV} (hv : SV iv k v) (h : ∀ c, k ≤ c → c ≤ k + 6 → iv' c = iv c) : SV iv' k v := by
  rw [SV, h k (by omega) (by omega), h (k + 1) (by omega) (by omega), h (k + 2) (by omega) (by omega), h (k + 3) (by omega) (by omega), h (k + 4) (by omega) (by omega), h (k + 5) (by omega) (by omega), h (k + 6) (by omega) (by omega)]
  exact hv
/-- of any hill told: its winter, its houses' kinds -/
def Kok (v : HV) : Prop := vW v ≤ 9999 ∧ ∀ h, h < vN v → 1 ≤ vK v h
/-- the hill now -/
def RV (iv : pm_V) (v : HV) : Prop := SV iv 11 v ∧ HAr (iv 36) v ∧ Hok v ∧ Dst v (vy v) ∧ Kok v
theorem RV_fr {iv iv' : pm_V} {v : HV} (hv : RV iv v) (h : ∀ c, 11 ≤ c → c ≤ 17 → iv' c = iv c) (h2 : iv' 36 = iv 36) : RV iv' v :=
  ⟨SV_fr hv.1 (fun c a b => h c a (by omega)), by rw [h2]; exact hv.2.1, hv.2.2⟩
/-- the rows -/
def RR (iv : pm_V) : Prop := (∀ i, 8 ≤ i → i < 32 → bt (iv 1 3) i = false) ∧ ∀ r, r < 8 → (bt (iv 1 3) r = false ∧ iv 33 r = -1) ∨ (bt (iv 1 3) r = true ∧ ∃ l n, l < 3 ∧ n ≤ 40 ∧ iv 33 r = nI l ∧ iv 3 r = nI l ∧ iv 34 r = nI n ∧ iv 4 r = nI n ∧ ∀ i, i < n → iv 2 (40 * r + i) = iv 35 (40 * r + i))
theorem RR_fr {iv iv' : pm_V} (h : RR iv) (h1 : iv' 1 3 = iv 1 3) (h2 : iv' 2 = iv 2) (h3 : iv' 3 = iv 3) (h4 : iv' 4 = iv 4) (h5 : iv' 33 = iv 33) (h6 : iv' 34 = iv 34) (h7 : iv' 35 = iv 35) : RR iv' := by
  rw [RR, h1, h2, h3, h4, h5, h6, h7]
  exact h
/-- the text that was fed -/
def RT (iv : pm_V) : Prop := ∃ n, n ≤ 400 ∧ iv 5 1 = nI n ∧ iv 32 10 = nI n ∧ ∀ i, i < n → ∃ b, b < 256 ∧ iv 39 i = nI b ∧ iv 6 i &&& 255 = nI b
theorem RT_fr {iv iv' : pm_V} (h : RT iv) (h1 : iv' 5 1 = iv 5 1) (h2 : iv' 32 10 = iv 32 10) (h3 : iv' 39 = iv 39) (h4 : iv' 6 = iv 6) : RT iv' := by
  rw [RT, h1, h2, h3, h4]
  exact h
/-- a kept record shows u -/
def AR (f : Nat → Int32) (b : Nat) (u : HV) : Prop := f b = nI (vW u) ∧ (∀ i, i < 32 → bt (f (b + 1)) i = (decide (i < vN u) && vC u i)) ∧ ∀ h, h < vN u → f (b + 2 + h) = nI (vl u h) ∧ f (b + 8 + h) = nI (vy u h) ∧ f (b + 14 + h) = vt u h
/-- what no act changes -/
def Sta (u v : HV) : Prop := vL u = vL v ∧ vD u = vD v ∧ vN u = vN v ∧ vS u = vS v ∧ vK u = vK v ∧ vH u = vH v
/-- the acts, on both sides: a of them, the oldest at o, the records r -/
def CA (iv : pm_V) (a o : Nat) (r : Nat → HV) : Prop := a ≤ 24 ∧ o < 24 ∧ iv 7 1 = nI o ∧ iv 7 2 = nI a ∧ ∀ j, j < a → AR (iv 8) (20 * ((o + j) % 24)) (r j)
def MA (iv : pm_V) (a : Nat) (r : Nat → HV) : Prop := iv 32 8 = nI a ∧ ∀ j, j < a → HAr (fun i => iv 38 (45 * j + i)) (r j)
def RO (v : HV) (a : Nat) (r : Nat → HV) : Prop := ∀ j, j < a → Sta (r j) v ∧ Hok (r j) ∧ Dst (r j) (vy (r j)) ∧ Kok (r j)
def RA (iv : pm_V) (v : HV) : Prop := ∃ a o r, CA iv a o r ∧ MA iv a r ∧ RO v a r
theorem CA_fr {iv iv' : pm_V} {a o : Nat} {r : Nat → HV} (h : CA iv a o r) (h1 : iv' 7 1 = iv 7 1) (h2 : iv' 7 2 = iv 7 2) (h3 : iv' 8 = iv 8) : CA iv' a o r := by
  rw [CA, h1, h2, h3]
  exact h
theorem MA_fr {iv iv' : pm_V} {a : Nat} {r : Nat → HV} (h : MA iv a r) (h1 : iv' 32 8 = iv 32 8) (h2 : iv' 38 = iv 38) : MA iv' a r := by
  rw [MA, h1, h2]
  exact h
/-- the trace -/
def RX (iv : pm_V) : Prop := ∃ n, n ≤ 16 ∧ iv 9 1 = nI n ∧ iv 32 25 = nI n ∧ ∀ i, i < n → iv 10 i = iv 45 i
theorem RX_fr {iv iv' : pm_V} (h : RX iv) (h1 : iv' 9 1 = iv 9 1) (h2 : iv' 32 25 = iv 32 25) (h3 : iv' 10 = iv 10) (h4 : iv' 45 = iv 45) : RX iv' := by
  rw [RX, h1, h2, h3, h4]
  exact h
/-- an image -/
def IM (g : pm_G) (iv : pm_V) (j : Nat) : Prop := (g.2.1 31 j = none ∧ iv 43 j = 0) ∨ ∃ c u, g.2.1 31 j = some c ∧ 46 ≤ c ∧ c + 10 ≤ g.2.2.1 ∧ pm_sl g c ∧ iv 43 j = 1 ∧ SV iv c u ∧ HAr (fun i => iv 44 (45 * j + i)) u ∧ Hok u ∧ Dst u (vy u) ∧ Kok u ∧ 0 < vL u
def IA (g : pm_G) : Prop := ∀ c e, g.2.1 31 0 = some c → g.2.1 31 1 = some e → c + 10 ≤ e ∨ e + 10 ≤ c
/-- the room: what the images may have taken -/
def imN (g : pm_G) : Nat := (if (g.2.1 31 0).isSome = true then 1 else 0) + (if (g.2.1 31 1).isSome = true then 1 else 0)
def RM (g : pm_G) : Prop := g.2.2.1 = 46 + 10 * imN g ∧ g.2.2.2.1 ≤ 1000 + 100 * imN g ∧ g.2.2.2.2 ≤ 100000 + 1000 * imN g
def RI (g : pm_G) (iv : pm_V) : Prop := IM g iv 0 ∧ IM g iv 1 ∧ IA g
theorem IM_fr {g : pm_G} {iv iv' : pm_V} {j : Nat} (h : IM g iv j) (h1 : iv' 43 = iv 43) (h2 : iv' 44 = iv 44) (h3 : ∀ c, 46 ≤ c → iv' c = iv c) : IM g iv' j := by
  rcases h with ⟨a, b⟩ | ⟨c, u, a, b, b2, b3, b4, b5, b6, b7⟩
  · exact Or.inl ⟨a, by rw [h1]; exact b⟩
  · exact Or.inr ⟨c, u, a, b, b2, b3, by rw [h1]; exact b4, SV_fr b5 (fun e q _ => h3 e (by omega)), by rw [h2]; exact b6, b7⟩
/-- all that is shared: the hill v -/
def CO (g : pm_G) (iv : pm_V) (v : HV) : Prop := RV iv v ∧ RR iv ∧ RT iv ∧ RA iv v ∧ RX iv ∧ RI g iv ∧ iv 0 7 = iv 32 1 ∧ iv 5 6 = iv 32 11
def RG (g : pm_G) : Prop := pm_lay g ∧ pm_xg g ∧ RM g
def RL (g : pm_G) (iv : pm_V) : Prop := RG g ∧ ∃ v, CO g iv v
/-- the cells that only a call itself uses -/
def scr : List Nat := [18, 19, 20, 21, 22, 23, 24, 25, 26, 27, 28, 29, 30, 32, 37, 40, 41, 42]
theorem scr_hi {c : Nat} (h : 43 ≤ c) : c ∉ scr := by
  simp only [scr, List.mem_cons, List.not_mem_nil, or_false]
  omega
theorem CO_fr {g : pm_G} {iv iv' : pm_V} {v : HV} (h : CO g iv v) (hc : chg scr iv iv') (h1 : iv' 32 1 = iv 32 1) (h8 : iv' 32 8 = iv 32 8) (h10 : iv' 32 10 = iv 32 10) (h11 : iv' 32 11 = iv 32 11) (h25 : iv' 32 25 = iv 32 25) : CO g iv' v := by
  obtain ⟨a1, a2, a3, ⟨a, o, r, b1, b2, b3⟩, a5, ⟨i1, i2, i3⟩, a7, a8⟩ := h
  have q : ∀ c, c ∉ scr → iv' c = iv c := hc
  refine ⟨RV_fr a1 (fun c x y => q c (by simp only [scr, List.mem_cons, List.not_mem_nil, or_false]; omega)) (q 36 (by decide)), RR_fr a2 (by rw [q 1 (by decide)]) (q 2 (by decide)) (q 3 (by decide)) (q 4 (by decide)) (q 33 (by decide)) (q 34 (by decide)) (q 35 (by decide)),
    RT_fr a3 (by rw [q 5 (by decide)]) h10 (q 39 (by decide)) (q 6 (by decide)), ⟨a, o, r, CA_fr b1 (by rw [q 7 (by decide)]) (by rw [q 7 (by decide)]) (q 8 (by decide)), MA_fr b2 h8 (q 38 (by decide)), b3⟩, RX_fr a5 (by rw [q 9 (by decide)]) h25 (q 10 (by decide)) (q 45 (by decide)),
    ⟨IM_fr i1 (q 43 (by decide)) (q 44 (by decide)) (fun c x => q c (scr_hi (by omega))), IM_fr i2 (q 43 (by decide)) (q 44 (by decide)) (fun c x => q c (scr_hi (by omega))), i3⟩, by rw [q 0 (by decide), h1]; exact a7, by rw [q 5 (by decide), h11]; exact a8⟩
/-- thrown is written, no more -/
theorem CO_0 {g : pm_G} {iv : pm_V} {v : HV} (h : CO g iv v) : CO g (pm_iw iv 32 0 0) v := by
  refine CO_fr h (chg_iw (by decide)) ?_ ?_ ?_ ?_ ?_ <;> rw [iw_s, upd_n (by decide)]
/-- as CO_fr, where 32 stands -/
theorem CO_f0 {g : pm_G} {iv iv' : pm_V} {v : HV} (h : CO g iv v) (hc : chg scr iv iv') (h32 : iv' 32 = iv 32) : CO g iv' v := CO_fr h hc (by rw [h32]) (by rw [h32]) (by rw [h32]) (by rw [h32]) (by rw [h32])
/-- the finding is written on both sides -/
theorem CO_st {g : pm_G} {iv : pm_V} {v : HV} {x : Int32} (h : CO g iv v) : CO g (pm_iw (pm_iw iv 0 7 x) 32 1 x) v := by
  obtain ⟨a1, a2, a3, ⟨a, o, r, b1, b2, b3⟩, a5, ⟨i1, i2, i3⟩, a7, a8⟩ := h
  have q : ∀ c, c ≠ 0 → c ≠ 32 → (pm_iw (pm_iw iv 0 7 x) 32 1 x) c = iv c := fun c p1 p2 => by rw [iw_n p2, iw_n p1]
  have q2 : ∀ c, c ≠ 1 → (pm_iw (pm_iw iv 0 7 x) 32 1 x) 32 c = iv 32 c := fun c p => by rw [iw_s, upd_n p, iw_n (by decide)]
  refine ⟨RV_fr a1 (fun c x y => q c (by omega) (by omega)) (q 36 (by decide) (by decide)), RR_fr a2 (by rw [q 1 (by decide) (by decide)]) (q 2 (by decide) (by decide)) (q 3 (by decide) (by decide)) (q 4 (by decide) (by decide)) (q 33 (by decide) (by decide)) (q 34 (by decide) (by decide)) (q 35 (by decide) (by decide)),
    RT_fr a3 (by rw [q 5 (by decide) (by decide)]) (q2 10 (by decide)) (q 39 (by decide) (by decide)) (q 6 (by decide) (by decide)), ⟨a, o, r, CA_fr b1 (by rw [q 7 (by decide) (by decide)]) (by rw [q 7 (by decide) (by decide)]) (q 8 (by decide) (by decide)), MA_fr b2 (q2 8 (by decide)) (q 38 (by decide) (by decide)), b3⟩, RX_fr a5 (by rw [q 9 (by decide) (by decide)]) (q2 25 (by decide)) (q 10 (by decide) (by decide)) (q 45 (by decide) (by decide)),
    ⟨IM_fr i1 (q 43 (by decide) (by decide)) (q 44 (by decide) (by decide)) (fun c x => q c (by omega) (by omega)), IM_fr i2 (q 43 (by decide) (by decide)) (q 44 (by decide) (by decide)) (fun c x => q c (by omega) (by omega)), i3⟩, ?_, ?_⟩
  · rw [iw_s, upd_s, iw_n (by decide), iw_s, upd_s]
  · rw [q 5 (by decide) (by decide), q2 11 (by decide)]; exact a8
/-- both sides answer alike, and still share all -/
def PR (X : pm_X) (d : Nat) (g : pm_G) (iv : pm_V) (mc mm : Nat) (ac am : List Value) : Prop := ∃ r iv1 iv2, pm_c X d mc ac g iv = some (some (.int r), g, iv1) ∧ pm_c X d mm am g iv1 = some (some (.int r), g, iv2) ∧ RL g iv2
