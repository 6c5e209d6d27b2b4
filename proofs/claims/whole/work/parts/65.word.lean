/-! words -/
/-- what any token keeps to -/
def Zok (T : Nat → Nat) (n : Nat) (c : ZT) : Prop := c.1 ≤ 4 ∧ c.2.1 ≤ c.2.2 ∧ c.2.2 ≤ n ∧ (c.1 = 1 → ∀ j, c.2.1 ≤ j → j < c.2.2 → zL (T j) = true) ∧ (c.1 = 2 → c.2.2 - c.2.1 ≤ 3 ∧ ∀ j, c.2.1 ≤ j → j < c.2.2 → zF (T j) = true)
theorem Zok_tk {T : Nat → Nat} {n i : Nat} (hi : i ≤ n) : Zok T n (ztk T n i) := by
  have hs : zru T zB n i ≤ n := zru_le hi
  unfold ztk
  generalize zru T zB n i = s at hs
  by_cases q : n ≤ s
  · rw [if_pos q]
    exact ⟨by show (0 : Nat) ≤ 4; omega, Nat.le_refl _, hs, fun w => (by cases w), fun w => (by cases w)⟩
  · rw [if_neg q]
    by_cases qL : zL (T s) = true
    · rw [if_pos qL]
      exact ⟨by show (1 : Nat) ≤ 4; omega, zru_ge hs, zru_le hs, fun _ => zru_in hs, fun w => (by cases w)⟩
    · rw [if_neg qL]
      by_cases qF : zF (T s) = true
      · rw [if_pos qF]
        refine ⟨?_, zru_ge hs, zru_le hs, fun w => ?_, fun w => ⟨?_, zru_in hs⟩⟩
        · show (if zru T zF n s - s ≤ 3 then 2 else 4) ≤ 4
          split <;> omega
        · have w : (if zru T zF n s - s ≤ 3 then 2 else 4) = 1 := w
          split at w <;> cases w
        · have w : (if zru T zF n s - s ≤ 3 then 2 else 4) = 2 := w
          split at w
          · assumption
          · cases w
      · rw [if_neg qF]
        refine ⟨?_, Nat.le_succ s, by show s + 1 ≤ n; omega, fun w => ?_, fun w => ?_⟩
        · show (if T s = 59 then 3 else 4) ≤ 4
          split <;> omega
        · have w : (if T s = 59 then 3 else 4) = 1 := w
          split at w <;> cases w
        · have w : (if T s = 59 then 3 else 4) = 2 := w
          split at w <;> cases w
/-- the words told: slope stone house church barn inn mill hut -/
def zWs : List (List Nat) := [[115, 108, 111, 112, 101], [115, 116, 111, 110, 101], [104, 111, 117, 115, 101], [99, 104, 117, 114, 99, 104], [98, 97, 114, 110], [105, 110, 110], [109, 105, 108, 108], [104, 117, 116]]
def zW (i : Nat) : List Nat := zWs.getD i []
def zWl (i : Nat) : Nat := (zW i).length
def zWc (i j : Nat) : Nat := (zW i).getD j 0
theorem zWl_le : ∀ i, i < 8 → zWl i ≤ 6 := by decide +kernel
theorem zWc_lt : ∀ i, i < 8 → ∀ j, j < 6 → zWc i j < 256 := by decide +kernel
theorem zWc_p : ∀ i, i < 8 → ∀ j, j < zWl i → 1 ≤ zWc i j := by decide +kernel
theorem zsb : ∀ i, i < 8 → ∃ t, pm_sb[i]? = some t ∧ t.length = zWl i ∧ ∀ j, j < t.length → (((t.getD j 0) &&& 255).toUInt32 % 65536).toInt32 = nI (zWc i j) := by
  intro i hi
  rcases (show i = 0 ∨ i = 1 ∨ i = 2 ∨ i = 3 ∨ i = 4 ∨ i = 5 ∨ i = 6 ∨ i = 7 by omega) with rfl | rfl | rfl | rfl | rfl | rfl | rfl | rfl <;> exact ⟨_, rfl, rfl, by decide +kernel⟩
theorem n_ch : ∀ b, b < 256 → narrow .char (.int (nI b)) = .int (nI b) := by
  intro b hb
  show Value.int _ = Value.int _
  congr 1
  exact (by decide +kernel : ∀ b, b < 256 → (nI b).toUInt32.toUInt16.toUInt32.toInt32 = nI b) b hb
section Z4
variable {X : pm_X} {d n i k : Nat} {g : pm_G} {iv : pm_V} {T : Nat → Nat} {c : ZT}
theorem str_ar (hx : pm_xg g) (hi : i < 8) : ∃ f, pm_ar X g iv (1000 + i + 100) = some (9, zWl i, f) ∧ ∀ j, j < zWl i → (((f j) &&& 255).toUInt32 % 65536).toInt32 = nI (zWc i j) := by
  obtain ⟨t, t1, t2, t3⟩ := zsb i hi
  have e : 1000 + i + 100 = 1100 + i := by omega
  refine ⟨fun j => t.getD j 0, ?_, fun j hj => t3 j (by omega)⟩
  have hnt : pm_xa X (1100 + i) = pm_xs (1100 + i) := by
    unfold pm_xa
    rw [if_neg (show ¬ 1100 + i = 1300 by omega)]
    split
    · exact if_neg (by omega)
    · rfl
  unfold pm_ar
  rw [e, hx (1100 + i) (by omega)]
  show (if 1000 ≤ 1100 + i then pm_xa X (1100 + i) else none) = _
  rw [if_pos (by omega)]
  rw [hnt]
  unfold pm_xs
  rw [show 1100 + i - 1100 = i by omega, t1]
  show (if 1100 ≤ 1100 + i then some (9, t.length, fun j => t.getD j 0) else none) = _
  rw [if_pos (by omega), t2]
theorem str_len (hd : 2 ≤ d) (hx : pm_xg g) (hi : i < 8) : pm_c X d 204 [.ref (1000 + i)] g iv = some (some (.int (nI (zWl i))), g, iv) := by
  obtain ⟨d, rfl, hd1⟩ := pm_d1 hd
  obtain ⟨d, rfl, -⟩ := pm_d1 hd1
  obtain ⟨f, f1, -⟩ := str_ar (X := X) (iv := iv) hx hi
  have h6 := zWl_le i hi
  have hr : 1000 ≤ 1000 + i ∧ 1000 + i < 1008 := by omega
  have z : ∀ m, m < 7 → Int32.ofNat m >>> ((0 : Int32) &&& 31) = nI m := by decide +kernel
  rw [e204, b204_0 hr f1 (by omega), e206, b206_0, if_neg (by decide), b206_6 hr, b206_14 rfl, pm_then_i, b204_9, z _ (by omega)]
theorem str_at (hd : 4 ≤ d) (hx : pm_xg g) (hi : i < 8) (hk : k < zWl i) : pm_c X d 205 [.ref (1000 + i), .int (nI k)] g iv = some (some (.int (nI (zWc i k))), g, iv) := by
  obtain ⟨d, rfl, hd1⟩ := pm_d1 hd
  obtain ⟨d, rfl, hd2⟩ := pm_d1 hd1
  obtain ⟨d, rfl, hd3⟩ := pm_d1 hd2
  obtain ⟨d, rfl, -⟩ := pm_d1 hd3
  obtain ⟨f, f1, f2⟩ := str_ar (X := X) (iv := iv) hx hi
  have h6 := zWl_le i hi
  have hr : 1000 ≤ 1000 + i ∧ 1000 + i < 1008 := by omega
  have hc := zWc_lt i hi k (by omega)
  have ek : (nI k).toNatClampNeg = k := nI_c (by omega)
  rw [e205, b205_0 hr, e207, b207_0, if_neg (by decide), b207_6 hr, if_neg (by decide), b207_13, b207_18, pm_zr1, pm_then_i, b205_4, if_neg (by decide), b205_7 hr, e209, b209_0 f1 (by omega), e208, b208_0, e211, b211_0, if_neg (nI_pos (by omega)), b211_4, if_pos (show nI k < Int32.ofNat (zWl i) from nI_lt hk (by omega)), b211_16, pm_then_i, b208_8, pm_then_v, b209_6 f1 (by omega) (vp_n hk (by omega)) (by rw [ek, f2 k hk]; exact n_ch _ hc), pm_then_i, ek, f2 k hk, b205_15 (n_ch _ hc)]
/-- is the token the word i? -/
def zis (T : Nat → Nat) (i : Nat) (c : ZT) : Bool := decide (c.1 = 1 ∧ c.2.2 - c.2.1 = zWl i ∧ ∀ j, j < zWl i → T (c.2.1 + j) = zWc i j)
theorem t_isW_l (hd : 4 ≤ d) (hL : pm_lay g) (hxg : pm_xg g) (hn : n ≤ 400) (hb : ∀ i, i < n → T i < 256) (hx : ZX T n iv) (hi : i < 8) {s : Nat} (h3 : iv 5 3 = nI s) (hs : s + zWl i ≤ n) : ∀ m k, k + m = zWl i → (∀ j, j < k → T (s + j) = zWc i j) → pm_at X d 82 (28, [some (.ref 5), some (.ref (1000 + i)), some (.int (nI k))], [], g, iv) = some (some (.int (if (∀ j, j < zWl i → T (s + j) = zWc i j) then 1 else 0)), g, iv) := by
  have h6 := zWl_le i hi
  have hr : 1000 ≤ 1000 + i ∧ 1000 + i < 1008 := by omega
  intro m
  induction m with
  | zero =>
    intro k hk hj
    have e : k = zWl i := by omega
    subst e
    rw [b82_28 hr, str_len (by omega) hxg hi, pm_then_i, b82_33, if_pos (Int32.le_refl _), b82_62, if_pos hj]
  | succ m ih =>
    intro k hk hj
    have hc := zWc_lt i hi k (by omega)
    have hT := hb (s + k) (by omega)
    have ee : nI (T (s + k)) = nI (zWc i k) ↔ T (s + k) = zWc i k := nI_eq (by omega) (by omega)
    rw [b82_28 hr, str_len (by omega) hxg hi, pm_then_i, b82_33, if_neg (nI_ge (by omega) (by omega)), b82_36 hL, h3, nI_add, t_byteAt (by omega) hL hx hn (by omega), pm_then_i, b82_46 hr, str_at hd hxg hi (by omega), pm_then_i, b82_51]
    by_cases q : T (s + k) = zWc i k
    · rw [if_pos (ee.mpr q), b82_56, nI_1]
      refine ih (k + 1) (by omega) (fun j h => ?_)
      by_cases w : j = k
      · rw [w]; exact q
      · exact hj j (by omega)
    · rw [if_neg (fun w => q (ee.mp w)), b82_54, if_neg (fun w => q (w k (by omega)))]
theorem t_isW (hd : 5 ≤ d) (hL : pm_lay g) (hxg : pm_xg g) (hn : n ≤ 400) (hb : ∀ i, i < n → T i < 256) (hx : ZX T n iv) (hc : CT T iv c) (hz : Zok T n c) (hi : i < 8) : pm_c X d 82 [.ref 5, .ref (1000 + i)] g iv = some (some (.int (if zis T i c = true then 1 else 0)), g, iv) := by
  obtain ⟨d, rfl, hd1⟩ := pm_d1 hd
  have h6 := zWl_le i hi
  have hr : 1000 ≤ 1000 + i ∧ 1000 + i < 1008 := by omega
  obtain ⟨c1, c2, c3, -⟩ := hc
  obtain ⟨z0, z1, z2, -, -⟩ := hz
  have e1 : nI c.1 = 1 ↔ c.1 = 1 := nI_eq (a := c.1) (b := 1) (by omega) (by decide)
  rw [e82, b82_0 hL, c1]
  unfold zis
  by_cases q : c.1 = 1
  · rw [if_neg (not_not_intro (e1.mpr q)), b82_8 hL hr, str_len (by omega) hxg hi, pm_then_i, b82_21, c2, c3, pk_sub z1]
    have e2 : nI (c.2.2 - c.2.1) = nI (zWl i) ↔ c.2.2 - c.2.1 = zWl i := nI_eq (by omega) (by omega)
    by_cases q2 : c.2.2 - c.2.1 = zWl i
    · rw [if_pos (e2.mpr q2), b82_26]
      have := t_isW_l (X := X) hd1 hL hxg hn hb hx hi c2 (by omega) (zWl i) 0 (by omega) (fun j h => by omega)
      rw [nI_0] at this
      rw [this]
      simp only [q, q2, true_and, decide_eq_true_eq]
    · rw [if_neg (fun w => q2 (e2.mp w)), b82_24, if_neg (by rw [decide_eq_true_eq]; exact fun w => q2 w.2.1)]
  · rw [if_pos (fun w => q (e1.mp w)), b82_24, if_neg (by rw [decide_eq_true_eq]; exact fun w => q w.1)]
/-- the number that m bytes from s on make -/
def zfd (T : Nat → Nat) (s : Nat) : Nat → Nat
  | 0 => 0
  | m + 1 => zfd T s m * 256 + T (s + m)
theorem zfd_lt {s : Nat} : ∀ m, (∀ j, j < m → T (s + j) < 256) → zfd T s m < 256 ^ m := by
  intro m
  induction m with
  | zero => intro _; exact Nat.one_pos
  | succ m ih =>
    intro h
    have a := ih (fun j hj => h j (by omega))
    have b := h m (by omega)
    rw [zfd, Nat.pow_succ]
    omega
theorem zfd_inj {U : Nat → Nat} {s t : Nat} : ∀ a b, (∀ j, j < a → 1 ≤ T (s + j) ∧ T (s + j) < 256) → (∀ j, j < b → 1 ≤ U (t + j) ∧ U (t + j) < 256) → zfd T s a = zfd U t b → a = b ∧ ∀ j, j < a → T (s + j) = U (t + j)
  | 0, 0, _, _, _ => ⟨rfl, fun j h => absurd h (Nat.not_lt_zero j)⟩
  | 0, b + 1, _, hu, h => by
    have := hu b (by omega)
    rw [zfd, zfd] at h
    omega
  | a + 1, 0, ht, _, h => by
    have := ht a (by omega)
    rw [zfd, zfd] at h
    omega
  | a + 1, b + 1, ht, hu, h => by
    have h1 := ht a (by omega)
    have h2 := hu b (by omega)
    rw [zfd, zfd] at h
    have e1 : zfd T s a = zfd U t b := by omega
    have e2 : T (s + a) = U (t + b) := by omega
    obtain ⟨r1, r2⟩ := zfd_inj a b (fun j hj => ht j (by omega)) (fun j hj => hu j (by omega)) e1
    subst r1
    refine ⟨rfl, fun j hj => ?_⟩
    by_cases w : j = a
    · rw [w]; exact e2
    · exact r2 j (by omega)
theorem zfd_cong {U : Nat → Nat} {s t : Nat} : ∀ m, (∀ j, j < m → T (s + j) = U (t + j)) → zfd T s m = zfd U t m
  | 0, _ => rfl
  | m + 1, h => by rw [zfd, zfd, zfd_cong m (fun j hj => h j (by omega)), h m (by omega)]
/-- the token as the number that the reference reads -/
def znm (T : Nat → Nat) (c : ZT) : Nat := if c.1 = 1 ∧ c.2.2 - c.2.1 < 8 then zfd T c.2.1 (c.2.2 - c.2.1) else 0
def zK (i : Nat) : Nat := zfd (zWc i) 0 (zWl i)
theorem znm_W (hb : ∀ i, i < n → T i < 256) (hz : Zok T n c) (hi : i < 8) : znm T c = zK i ↔ zis T i c = true := by
  have h6 := zWl_le i hi
  obtain ⟨z0, z1, z2, z3, -⟩ := hz
  unfold zis znm zK
  rw [decide_eq_true_eq]
  constructor
  · intro h
    by_cases q : c.1 = 1 ∧ c.2.2 - c.2.1 < 8
    · rw [if_pos q] at h
      obtain ⟨r1, r2⟩ := zfd_inj _ _ (fun j hj => by
        have a := z3 q.1 (c.2.1 + j) (by omega) (by omega)
        rw [zL, decide_eq_true_eq] at a
        omega) (fun j hj => by
        rw [Nat.zero_add]
        exact ⟨zWc_p i hi j hj, zWc_lt i hi j (by omega)⟩) h
      exact ⟨q.1, r1, fun j hj => by rw [r2 j (by omega), Nat.zero_add]⟩
    · rw [if_neg q] at h
      exfalso
      revert h
      exact (by decide +kernel : ∀ i, i < 8 → ¬ 0 = zfd (zWc i) 0 (zWl i)) i hi
  · rintro ⟨q, q1, q2⟩
    rw [if_pos ⟨q, by omega⟩, q1]
    exact zfd_cong _ (fun j hj => by rw [Nat.zero_add]; exact q2 j hj)
theorem l_sh {a b : Nat} (hb : b < 256) : (lN a <<< ((8 : Int32).toInt64 &&& 63)) ||| lN b = lN (a * 256 + b) := by
  apply Int64.toBitVec_inj.mp
  rw [Int64.toBitVec_or, Int64.toBitVec_shiftLeft]
  show (BitVec.ofNat 64 a <<< (((8 : Int32).toInt64 &&& 63).toBitVec.smod 64).toNat) ||| BitVec.ofNat 64 b = BitVec.ofNat 64 (a * 256 + b)
  rw [show (((8 : Int32).toInt64 &&& 63).toBitVec.smod 64).toNat = 8 by decide]
  apply BitVec.eq_of_getLsbD_eq
  intro i hi
  rw [BitVec.getLsbD_or, BitVec.getLsbD_shiftLeft, BitVec.getLsbD_ofNat, BitVec.getLsbD_ofNat, BitVec.getLsbD_ofNat, show a * 256 + b = 2 ^ 8 * a + b by omega, Nat.testBit_two_pow_mul_add a (show b < 2 ^ 8 from hb)]
  by_cases q : i < 8
  · simp [q, hi]
  · have : b.testBit i = false := Nat.testBit_lt_two_pow (Nat.lt_of_lt_of_le (show b < 2 ^ 8 from hb) (Nat.pow_le_pow_right (by decide) (by omega)))
    have h2 : i - 8 < 64 := by omega
    simp [q, hi, this, h2]
theorem m_name_l (hL : pm_lay g) (hn : n ≤ 400) (hb : ∀ i, i < n → T i < 256) (hx : MX T n iv) (hc : MZ iv c) (hz : Zok T n c) (q1 : c.1 = 1) (q2 : c.2.2 - c.2.1 < 8) : ∀ m k, k + m = c.2.2 - c.2.1 → pm_at X d 145 (7, [some (.ref 32), some (.long (lN (zfd T c.2.1 k))), none, some (.int (nI (c.2.1 + k)))], [], g, iv) = pm_at X d 145 (56, [some (.ref 32), some (.long (lN (zfd T c.2.1 (c.2.2 - c.2.1)))), none, some (.int (nI c.2.2))], [], g, iv) := by
  obtain ⟨c1, c2, c3, c4⟩ := hc
  obtain ⟨z0, z1, z2, -, -⟩ := hz
  intro m
  induction m with
  | zero =>
    intro k hk
    have e : k = c.2.2 - c.2.1 := by omega
    subst e
    rw [b145_7 hL, c4, if_pos (by rw [nI_le' (by omega) (by omega)]; omega), show c.2.1 + (c.2.2 - c.2.1) = c.2.2 by omega]
  | succ m ih =>
    intro k hk
    have hT := hb (c.2.1 + k) (by omega)
    have e2 : iv 32 14 = 2 := by rw [c2, q1]; rfl
    rw [b145_7 hL, c4, if_neg (nI_ge (by omega) (by omega)), b145_15 hL, if_neg (not_not_intro e2), b145_23 hL, c4, c3, pk_sub z1, if_neg (show ¬ (8 : Int32) ≤ nI (c.2.2 - c.2.1) by rw [le_i, toI8, nI_t (by omega)]; omega), b145_37 hL (vp_n (by omega) (by decide)), nI_c (by omega), hx.2 _ (by omega), nI_l (by omega), l_sh hT, nI_1]
    exact ih (k + 1) (by omega)
theorem m_name (hd : 1 ≤ d) (hL : pm_lay g) (hn : n ≤ 400) (hb : ∀ i, i < n → T i < 256) (hx : MX T n iv) (hc : MZ iv c) (hz : Zok T n c) (h0 : iv 32 17 = 0) : pm_c X d 145 [.ref 32] g iv = some (some (.long (lN (znm T c))), g, iv) := by
  obtain ⟨d, rfl, -⟩ := pm_d1 hd
  have fin : ∀ (a : Int64) (x : Int32), pm_at X d 145 (56, [some (.ref 32), some (.long a), none, some (.int x)], [], g, iv) = some (some (.long a), g, iv) := fun a x => by
    rw [b145_56 hL, if_neg (not_not_intro h0), b145_63, b145_68]
  rw [e145, b145_0 hL, hc.2.2.1]
  unfold znm
  by_cases q : c.1 = 1 ∧ c.2.2 - c.2.1 < 8
  · have := m_name_l (X := X) (d := d) hL hn hb hx hc hz q.1 q.2 (c.2.2 - c.2.1) 0 (by omega)
    rw [if_pos q, show ((0 : Int64)) = lN (zfd T c.2.1 0) from rfl, show nI c.2.1 = nI (c.2.1 + 0) from rfl, this, fin]
  · rw [if_neg q]
    obtain ⟨c1, c2, c3, c4⟩ := hc
    obtain ⟨z0, z1, z2, -, -⟩ := hz
    rw [b145_7 hL, c4]
    by_cases w : c.2.2 ≤ c.2.1
    · rw [if_pos (by rw [nI_le' (by omega) (by omega)]; omega), fin]
      rfl
    · rw [if_neg (nI_ge (by omega) (by omega)), b145_15 hL]
      have e2 : iv 32 14 = 2 ↔ c.1 = 1 := by
        rw [c2, show (2 : Int32) = nI 2 from rfl, nI_eq (by unfold zmk; split <;> omega) (by decide), zmk]
        split <;> omega
      by_cases w1 : c.1 = 1
      · rw [if_neg (not_not_intro (e2.mpr w1)), b145_23 hL, c4, c3, pk_sub z1, if_pos (show (8 : Int32) ≤ nI (c.2.2 - c.2.1) by rw [le_i, toI8, nI_t (by omega)]; omega), fin]
        rfl
      · rw [if_pos (fun u => w1 (e2.mp u)), fin]
        rfl
/-- the kind that a token tells; 0: none -/
def zkd (T : Nat → Nat) (c : ZT) : Nat := if zis T 3 c = true then 1 else if zis T 4 c = true then 2 else if zis T 5 c = true then 3 else if zis T 6 c = true then 4 else if zis T 7 c = true then 5 else 0
theorem zkd_le : zkd T c ≤ 5 := by
  unfold zkd
  (repeat' split) <;> omega
theorem t_kind (hd : 6 ≤ d) (hL : pm_lay g) (hxg : pm_xg g) (hn : n ≤ 400) (hb : ∀ i, i < n → T i < 256) (hx : ZX T n iv) (hc : CT T iv c) (hz : Zok T n c) : pm_c X d 80 [.ref 5] g iv = some (some (.int (if zkd T c = 0 then -1 else nI (zkd T c))), g, iv) := by
  obtain ⟨d, rfl, hd1⟩ := pm_d1 hd
  have w : ∀ i, i < 8 → pm_c X d 82 [.ref 5, .ref (1000 + i)] g iv = some (some (.int (if zis T i c = true then 1 else 0)), g, iv) := fun i hi => t_isW hd1 hL hxg hn hb hx hc hz hi
  unfold zkd
  rw [e80, b80_0 hL, w 3 (by decide), pm_then_i, b80_6]
  by_cases a3 : zis T 3 c = true
  · rw [if_pos a3, if_neg (by decide), b80_9, if_pos a3, if_neg (by decide)]; rfl
  rw [if_neg a3, if_pos rfl, b80_11 hL, w 4 (by decide), pm_then_i, b80_17, if_neg a3]
  by_cases a4 : zis T 4 c = true
  · rw [if_pos a4, if_neg (by decide), b80_20, if_pos a4, if_neg (by decide)]; rfl
  rw [if_neg a4, if_pos rfl, b80_22 hL, w 5 (by decide), pm_then_i, b80_28, if_neg a4]
  by_cases a5 : zis T 5 c = true
  · rw [if_pos a5, if_neg (by decide), b80_31, if_pos a5, if_neg (by decide)]; rfl
  rw [if_neg a5, if_pos rfl, b80_33 hL, w 6 (by decide), pm_then_i, b80_39, if_neg a5]
  by_cases a6 : zis T 6 c = true
  · rw [if_pos a6, if_neg (by decide), b80_42, if_pos a6, if_neg (by decide)]; rfl
  rw [if_neg a6, if_pos rfl, b80_44 hL, w 7 (by decide), pm_then_i, b80_50, if_neg a6]
  by_cases a7 : zis T 7 c = true
  · rw [if_pos a7, if_neg (by decide), b80_53, b80_58, if_pos a7, if_neg (by decide)]; rfl
  rw [if_neg a7, if_pos rfl, b80_57, b80_58, if_neg a7, if_pos rfl]
theorem m_kindBy (hd : 1 ≤ d) {a : Nat} (ha : a < 2 ^ 63) : pm_c X d 148 [.long (lN a)] g iv = some (some (.int (if a = zK 3 then 1 else if a = zK 5 then 3 else if a = zK 6 then 4 else if a = zK 7 then 5 else if a = zK 4 then 2 else -1000000)), g, iv) := by
  obtain ⟨d, rfl, -⟩ := pm_d1 hd
  have k : ∀ b, b < 2 ^ 63 → (lg_cmp (lN a) (lN b) = 0 ↔ a = b) := fun b hb => by rw [lgc_eq, pk_lEQ ha hb]
  have k3 : lg_cmp (lN a) 109300298179432 = 0 ↔ a = zK 3 := k (zK 3) (by decide +kernel)
  have k5 : lg_cmp (lN a) 6909550 = 0 ↔ a = zK 5 := k (zK 5) (by decide +kernel)
  have k6 : lg_cmp (lN a) 1835625580 = 0 ↔ a = zK 6 := k (zK 6) (by decide +kernel)
  have k7 : lg_cmp (lN a) 6845812 = 0 ↔ a = zK 7 := k (zK 7) (by decide +kernel)
  have k4 : lg_cmp (lN a) 1650553454 = 0 ↔ a = zK 4 := k (zK 4) (by decide +kernel)
  rw [e148, b148_0]
  by_cases a3 : a = zK 3
  · rw [if_neg (not_not_intro (k3.mpr a3)), b148_8, b148_62, if_pos a3]
  rw [if_pos (fun u => a3 (k3.mp u)), b148_12, if_neg a3]
  by_cases a5 : a = zK 5
  · rw [if_neg (not_not_intro (k5.mpr a5)), b148_20, b148_62, if_pos a5]
  rw [if_pos (fun u => a5 (k5.mp u)), b148_24, if_neg a5]
  by_cases a6 : a = zK 6
  · rw [if_neg (not_not_intro (k6.mpr a6)), b148_32, b148_62, if_pos a6]
  rw [if_pos (fun u => a6 (k6.mp u)), b148_36, if_neg a6]
  by_cases a7 : a = zK 7
  · rw [if_neg (not_not_intro (k7.mpr a7)), b148_44, b148_62, if_pos a7]
  rw [if_pos (fun u => a7 (k7.mp u)), b148_48, if_neg a7]
  by_cases a4 : a = zK 4
  · rw [if_neg (not_not_intro (k4.mpr a4)), b148_56, b148_62, if_pos a4]
  rw [if_pos (fun u => a4 (k4.mp u)), b148_60, b148_62, if_neg a4]
theorem znm_lt (hb : ∀ i, i < n → T i < 256) (hz : Zok T n c) : znm T c < 2 ^ 63 := by
  unfold znm
  split
  · rename_i q
    have h := zfd_lt (T := T) (s := c.2.1) (c.2.2 - c.2.1) (fun j hj => hb _ (by have := hz.2.2.1; omega))
    exact Nat.lt_of_lt_of_le h (Nat.le_trans (Nat.pow_le_pow_right (by decide) (show c.2.2 - c.2.1 ≤ 7 by omega)) (by decide))
  · decide
/-- the reference's kind of the token -/
theorem m_kind (hd : 1 ≤ d) (hb : ∀ i, i < n → T i < 256) (hz : Zok T n c) : pm_c X d 148 [.long (lN (znm T c))] g iv = some (some (.int (if zkd T c = 0 then -1000000 else nI (zkd T c))), g, iv) := by
  rw [m_kindBy hd (znm_lt hb hz)]
  congr 3
  have w : ∀ i, i < 8 → (zis T i c = true ↔ znm T c = zK i) := fun i hi => (znm_W hb hz hi).symm
  unfold zkd
  simp only [w 3 (by decide), w 4 (by decide), w 5 (by decide), w 6 (by decide), w 7 (by decide)]
  have k3 : zK 3 = 109300298179432 := by decide +kernel
  have k5 : zK 5 = 6909550 := by decide +kernel
  have k6 : zK 6 = 1835625580 := by decide +kernel
  have k7 : zK 7 = 6845812 := by decide +kernel
  have k4 : zK 4 = 1650553454 := by decide +kernel
  rw [k3, k4, k5, k6, k7]
  generalize znm T c = a
  (repeat' split) <;> first | rfl | (exfalso; omega)
end Z4
