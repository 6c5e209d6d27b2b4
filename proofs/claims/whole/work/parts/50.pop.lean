/-! how many bits: Integer.bitCount -/
def ushI (x : Int32) (k : Int32) : Int32 := (x.toUInt32 >>> (k.toUInt32 &&& Int32.toUInt32 31)).toInt32
def p1I (x : Int32) : Int32 := x - (ushI x 1 &&& 1431655765)
def p2I (x : Int32) : Int32 := (x &&& 858993459) + (ushI x 2 &&& 858993459)
def p3I (x : Int32) : Int32 := (x + ushI x 4) &&& 252645135
def p4I (x : Int32) : Int32 := x + ushI x 8
def p5I (x : Int32) : Int32 := x + ushI x 16
def popI (x : Int32) : Int32 := p5I (p4I (p3I (p2I (p1I x)))) &&& 63
/-- the number of an int, without its sign -/
def uN (x : Int32) : Nat := x.toBitVec.toNat
theorem uN_lt (x : Int32) : uN x < 4294967296 := x.toBitVec.isLt
theorem uN_add (x y : Int32) : uN (x + y) = (uN x + uN y) % 4294967296 := by
  unfold uN
  rw [Int32.toBitVec_add, BitVec.toNat_add]
theorem uN_sub {x y : Int32} (h : uN y ≤ uN x) : uN (x - y) = uN x - uN y := by
  have h1 := uN_lt x
  have h2 := uN_lt y
  unfold uN at h h1 h2 ⊢
  rw [Int32.toBitVec_sub, BitVec.toNat_sub]
  omega
theorem uN_and (x y : Int32) : uN (x &&& y) = uN x &&& uN y := by
  unfold uN
  rw [Int32.toBitVec_and, BitVec.toNat_and]
theorem uN_ush (x : Int32) {k : Nat} (hk : k < 32) : uN (ushI x (nI k)) = uN x / 2 ^ k := by
  show (x.toUInt32 >>> ((nI k).toUInt32 &&& Int32.toUInt32 31)).toBitVec.toNat = x.toUInt32.toBitVec.toNat / 2 ^ k
  rw [UInt32.toBitVec_shiftRight]
  show (x.toUInt32.toBitVec >>> (((nI k).toUInt32 &&& Int32.toUInt32 31).toBitVec % 32).toNat).toNat = _
  rw [s_u k hk, BitVec.toNat_ushiftRight, Nat.shiftRight_eq_div_pow]
theorem uN_ext {x y : Int32} (h : uN x = uN y) : x = y := Int32.toBitVec_inj.mp (BitVec.eq_of_toNat_eq h)
theorem uN_nI {n : Nat} (h : n < 4294967296) : uN (nI n) = n := by
  show (Int32.ofNat n).toBitVec.toNat = n
  show n % 4294967296 = n
  exact Nat.mod_eq_of_lt h
theorem and_256 (a q m p : Nat) (hq : q < 256) (hp : p < 256) : (256 * a + q) &&& (256 * m + p) = 256 * (a &&& m) + (q &&& p) := by
  have h1 := Nat.and_div_two_pow (a := 256 * a + q) (b := 256 * m + p) (n := 8)
  have h2 := Nat.and_mod_two_pow (a := 256 * a + q) (b := 256 * m + p) (n := 8)
  have e1 : (256 * a + q) / 2 ^ 8 = a := by show (256 * a + q) / 256 = a; omega
  have e2 : (256 * m + p) / 2 ^ 8 = m := by show (256 * m + p) / 256 = m; omega
  have e3 : (256 * a + q) % 2 ^ 8 = q := by show (256 * a + q) % 256 = q; omega
  have e4 : (256 * m + p) % 2 ^ 8 = p := by show (256 * m + p) % 256 = p; omega
  rw [e1, e2] at h1
  rw [e3, e4] at h2
  have h1 : ((256 * a + q) &&& (256 * m + p)) / 256 = a &&& m := h1
  have h2 : ((256 * a + q) &&& (256 * m + p)) % 256 = q &&& p := h2
  omega
theorem d1 : ∀ q, q < 256 → ∀ c, c < 2 → ((128 * c + q / 2) &&& 85 = (q / 2 &&& 85)) ∧ (q / 2 &&& 85) ≤ q := by decide +kernel
theorem d2 : ∀ q, q < 256 → ∀ c, c < 4 → ((64 * c + q / 4) &&& 51 = (q / 4 &&& 51)) := by decide +kernel
theorem d3 : ∀ q, q < 69 → ∀ c, c < 5 → ((q + q / 16 + 16 * c) &&& 15 = ((q + q / 16) &&& 15)) := by decide +kernel
def f1 (q : Nat) : Nat := q - (q / 2 &&& 85)
def f2 (q : Nat) : Nat := (q &&& 51) + (q / 4 &&& 51)
def f3 (q : Nat) : Nat := (q + q / 16) &&& 15
def p8 (q : Nat) : Nat := f3 (f2 (f1 q))
theorem d4 : ∀ q, q < 256 → f1 q < 256 ∧ f2 (f1 q) < 69 ∧ f2 (f1 q) % 16 < 5 ∧ p8 q ≤ 8 ∧ p8 q = q % 2 + q / 2 % 2 + q / 4 % 2 + q / 8 % 2 + q / 16 % 2 + q / 32 % 2 + q / 64 % 2 + q / 128 % 2 := by decide +kernel
theorem st_1 (a q m : Nat) (hq : q < 256) (hm : (a / 2 &&& m) ≤ a) : (256 * a + q) - ((256 * a + q) / 2 &&& (256 * m + 85)) = 256 * (a - (a / 2 &&& m)) + f1 q := by
  have e : (256 * a + q) / 2 = 256 * (a / 2) + (128 * (a % 2) + q / 2) := by omega
  have hd := d1 q hq (a % 2) (by omega)
  rw [e, and_256 _ _ _ _ (by omega) (by omega), hd.1, f1]
  have := hd.2
  omega
theorem st_2 (a q m : Nat) (hq : q < 256) : ((256 * a + q) &&& (256 * m + 51)) + ((256 * a + q) / 4 &&& (256 * m + 51)) = 256 * ((a &&& m) + (a / 4 &&& m)) + f2 q := by
  have e : (256 * a + q) / 4 = 256 * (a / 4) + (64 * (a % 4) + q / 4) := by omega
  have hd := d2 q hq (a % 4) (by omega)
  rw [e, and_256 _ _ _ _ (by omega) (by omega), and_256 _ _ _ _ (by omega) (by omega), hd, f2]
  omega
theorem st_3 (a q m : Nat) (hq : q < 69) (ha : a % 16 < 5) : ((256 * a + q) + (256 * a + q) / 16) &&& (256 * m + 15) = 256 * ((a + a / 16) &&& m) + f3 q := by
  have e : (256 * a + q) + (256 * a + q) / 16 = 256 * (a + a / 16) + (q + q / 16 + 16 * (a % 16)) := by omega
  have hd := d3 q hq (a % 16) ha
  rw [e, and_256 _ _ _ _ (by omega) (by omega), hd, f3]
theorem and_z (m : Nat) : 0 &&& m = 0 := Nat.zero_and m
/-- three bytes -/
theorem pop3 (q0 q1 q2 : Nat) (h0 : q0 < 256) (h1 : q1 < 256) (h2 : q2 < 256) {n : Nat} (hn : n = 256 * (256 * q2 + q1) + q0) :
    (n - (n / 2 &&& 1431655765)) = 256 * (256 * f1 q2 + f1 q1) + f1 q0 := by
  subst hn
  have m0 : (0 / 2 &&& 85) ≤ 0 := by decide
  have e2 : q2 - (q2 / 2 &&& (256 * 85 + 85)) = f1 q2 := by
    have := st_1 0 q2 85 h2 (by decide)
    simpa using this
  have l2 : (q2 / 2 &&& (256 * 85 + 85)) ≤ q2 := Nat.le_trans Nat.and_le_left (by omega)
  have e1 := st_1 q2 q1 (256 * 85 + 85) h1 l2
  have l1 : ((256 * q2 + q1) / 2 &&& (256 * (256 * 85 + 85) + 85)) ≤ 256 * q2 + q1 := Nat.le_trans Nat.and_le_left (by omega)
  have e0 := st_1 (256 * q2 + q1) q0 (256 * (256 * 85 + 85) + 85) h0 l1
  rw [e1, e2] at e0
  exact e0
theorem pop3b (q0 q1 q2 : Nat) (h0 : q0 < 256) (h1 : q1 < 256) (h2 : q2 < 256) {n : Nat} (hn : n = 256 * (256 * q2 + q1) + q0) :
    (n &&& 858993459) + (n / 4 &&& 858993459) = 256 * (256 * f2 q2 + f2 q1) + f2 q0 := by
  subst hn
  have e2 : (q2 &&& (256 * 51 + 51)) + (q2 / 4 &&& (256 * 51 + 51)) = f2 q2 := by
    have := st_2 0 q2 51 h2
    simpa using this
  have e1 := st_2 q2 q1 (256 * 51 + 51) h1
  have e0 := st_2 (256 * q2 + q1) q0 (256 * (256 * 51 + 51) + 51) h0
  rw [e1, e2] at e0
  exact e0
theorem pop3c (q0 q1 q2 : Nat) (h0 : q0 < 69) (h1 : q1 < 69) (h2 : q2 < 69) (g1 : q1 % 16 < 5) (g2 : q2 % 16 < 5) {n : Nat} (hn : n = 256 * (256 * q2 + q1) + q0) :
    (n + n / 16) &&& 252645135 = 256 * (256 * f3 q2 + f3 q1) + f3 q0 := by
  subst hn
  have e2 : (q2 + q2 / 16) &&& (256 * 15 + 15) = f3 q2 := by
    have := st_3 0 q2 15 h2 (by decide)
    simpa using this
  have e1 := st_3 q2 q1 (256 * 15 + 15) h1 g2
  have e0 := st_3 (256 * q2 + q1) q0 (256 * (256 * 15 + 15) + 15) h0 (by omega)
  rw [e1, e2] at e0
  exact e0
/-- how many of the first n -/
def cB (f : Nat → Bool) : Nat → Nat
  | 0 => 0
  | n + 1 => cB f n + (if f n = true then 1 else 0)
theorem cB_cong {f h : Nat → Bool} : ∀ {n}, (∀ i, i < n → f i = h i) → cB f n = cB h n
  | 0, _ => rfl
  | n + 1, q => by rw [cB, cB, cB_cong (fun i hi => q i (by omega)), q n (by omega)]
theorem cB_more {f : Nat → Bool} {n : Nat} : ∀ {m}, (∀ i, n ≤ i → i < n + m → f i = false) → cB f (n + m) = cB f n
  | 0, _ => rfl
  | m + 1, q => by
    show cB f (n + m + 1) = _
    rw [cB, cB_more (fun i a b => q i a (by omega)), q (n + m) (by omega) (by omega), if_neg Bool.false_ne_true, Nat.add_zero]
theorem cB_le (f : Nat → Bool) : ∀ n, cB f n ≤ n
  | 0 => Nat.le_refl 0
  | n + 1 => by
    have := cB_le f n
    rw [cB]
    split <;> omega
theorem bt_N (x : Int32) (i : Nat) : (if bt x i = true then 1 else 0) = uN x / 2 ^ i % 2 := by
  have e : bt x i = decide (uN x / 2 ^ i % 2 = 1) := by
    show x.toBitVec.toNat.testBit i = _
    rw [Nat.testBit_eq_decide_div_mod_eq]
    rfl
  rw [e]
  by_cases q : uN x / 2 ^ i % 2 = 1
  · rw [decide_eq_true q, q, if_pos rfl]
  · rw [decide_eq_false q, if_neg Bool.false_ne_true]
    omega
theorem uN_small {x : Int32} {n : Nat} (hn : n ≤ 32) (h : ∀ i, n ≤ i → i < 32 → bt x i = false) : uN x < 2 ^ n := by
  apply Nat.lt_pow_two_of_testBit
  intro i hi
  rcases Nat.lt_or_ge i 32 with p | p
  · exact h i hi p
  · exact b_big p
theorem by4 {a b c : Nat} (ha : a ≤ 8) (hb : b ≤ 8) (hc : c ≤ 8) : (256 * (256 * c + b) + a) / 256 = 256 * c + b := by omega
theorem by5 {a b c : Nat} (ha : a ≤ 8) (hb : b ≤ 8) (hc : c ≤ 8) : (65536 * c + 256 * (b + c) + (a + b)) / 65536 = c := by omega
theorem by6 {a b c : Nat} (ha : a ≤ 8) (hb : b ≤ 8) (hc : c ≤ 8) : (65536 * c + 256 * (b + c) + (a + b + c)) % 2 ^ 6 = a + b + c := by
  show _ % 64 = _
  omega
theorem sb0 (N : Nat) : (N % 256) % 2 + (N % 256) / 2 % 2 + (N % 256) / 4 % 2 + (N % 256) / 8 % 2 + (N % 256) / 16 % 2 + (N % 256) / 32 % 2 + (N % 256) / 64 % 2 + (N % 256) / 128 % 2 = N / 2 ^ 0 % 2 + N / 2 ^ 1 % 2 + N / 2 ^ 2 % 2 + N / 2 ^ 3 % 2 + N / 2 ^ 4 % 2 + N / 2 ^ 5 % 2 + N / 2 ^ 6 % 2 + N / 2 ^ 7 % 2 := by
  have e0 : (N % 256) % 2 = N / 2 ^ 0 % 2 := by show _ = N / 1 % 2; omega
  have e1 : (N % 256) / 2 % 2 = N / 2 ^ 1 % 2 := by show _ = N / 2 % 2; omega
  have e2 : (N % 256) / 4 % 2 = N / 2 ^ 2 % 2 := by show _ = N / 4 % 2; omega
  have e3 : (N % 256) / 8 % 2 = N / 2 ^ 3 % 2 := by show _ = N / 8 % 2; omega
  have e4 : (N % 256) / 16 % 2 = N / 2 ^ 4 % 2 := by show _ = N / 16 % 2; omega
  have e5 : (N % 256) / 32 % 2 = N / 2 ^ 5 % 2 := by show _ = N / 32 % 2; omega
  have e6 : (N % 256) / 64 % 2 = N / 2 ^ 6 % 2 := by show _ = N / 64 % 2; omega
  have e7 : (N % 256) / 128 % 2 = N / 2 ^ 7 % 2 := by show _ = N / 128 % 2; omega
  rw [e0, e1, e2, e3, e4, e5, e6, e7]
theorem sb1 (N : Nat) : (N / 256 % 256) % 2 + (N / 256 % 256) / 2 % 2 + (N / 256 % 256) / 4 % 2 + (N / 256 % 256) / 8 % 2 + (N / 256 % 256) / 16 % 2 + (N / 256 % 256) / 32 % 2 + (N / 256 % 256) / 64 % 2 + (N / 256 % 256) / 128 % 2 = N / 2 ^ 8 % 2 + N / 2 ^ 9 % 2 + N / 2 ^ 10 % 2 + N / 2 ^ 11 % 2 + N / 2 ^ 12 % 2 + N / 2 ^ 13 % 2 + N / 2 ^ 14 % 2 + N / 2 ^ 15 % 2 := by
  have e0 : (N / 256 % 256) % 2 = N / 2 ^ 8 % 2 := by show _ = N / 256 % 2; omega
  have e1 : (N / 256 % 256) / 2 % 2 = N / 2 ^ 9 % 2 := by show _ = N / 512 % 2; omega
  have e2 : (N / 256 % 256) / 4 % 2 = N / 2 ^ 10 % 2 := by show _ = N / 1024 % 2; omega
  have e3 : (N / 256 % 256) / 8 % 2 = N / 2 ^ 11 % 2 := by show _ = N / 2048 % 2; omega
  have e4 : (N / 256 % 256) / 16 % 2 = N / 2 ^ 12 % 2 := by show _ = N / 4096 % 2; omega
  have e5 : (N / 256 % 256) / 32 % 2 = N / 2 ^ 13 % 2 := by show _ = N / 8192 % 2; omega
  have e6 : (N / 256 % 256) / 64 % 2 = N / 2 ^ 14 % 2 := by show _ = N / 16384 % 2; omega
  have e7 : (N / 256 % 256) / 128 % 2 = N / 2 ^ 15 % 2 := by show _ = N / 32768 % 2; omega
  rw [e0, e1, e2, e3, e4, e5, e6, e7]
theorem sb2 (N : Nat) (h : N < 16777216) : (N / 65536) % 2 + (N / 65536) / 2 % 2 + (N / 65536) / 4 % 2 + (N / 65536) / 8 % 2 + (N / 65536) / 16 % 2 + (N / 65536) / 32 % 2 + (N / 65536) / 64 % 2 + (N / 65536) / 128 % 2 = N / 2 ^ 16 % 2 + N / 2 ^ 17 % 2 + N / 2 ^ 18 % 2 + N / 2 ^ 19 % 2 + N / 2 ^ 20 % 2 + N / 2 ^ 21 % 2 + N / 2 ^ 22 % 2 + N / 2 ^ 23 % 2 := by
  have e0 : (N / 65536) % 2 = N / 2 ^ 16 % 2 := by show _ = N / 65536 % 2; omega
  have e1 : (N / 65536) / 2 % 2 = N / 2 ^ 17 % 2 := by show _ = N / 131072 % 2; omega
  have e2 : (N / 65536) / 4 % 2 = N / 2 ^ 18 % 2 := by show _ = N / 262144 % 2; omega
  have e3 : (N / 65536) / 8 % 2 = N / 2 ^ 19 % 2 := by show _ = N / 524288 % 2; omega
  have e4 : (N / 65536) / 16 % 2 = N / 2 ^ 20 % 2 := by show _ = N / 1048576 % 2; omega
  have e5 : (N / 65536) / 32 % 2 = N / 2 ^ 21 % 2 := by show _ = N / 2097152 % 2; omega
  have e6 : (N / 65536) / 64 % 2 = N / 2 ^ 22 % 2 := by show _ = N / 4194304 % 2; omega
  have e7 : (N / 65536) / 128 % 2 = N / 2 ^ 23 % 2 := by show _ = N / 8388608 % 2; omega
  rw [e0, e1, e2, e3, e4, e5, e6, e7]
theorem uM5 : uN 1431655765 = 1431655765 := by decide +kernel
theorem uM3 : uN 858993459 = 858993459 := by decide +kernel
theorem uMF : uN 252645135 = 252645135 := by decide +kernel
theorem uM63 : uN 63 = 2 ^ 6 - 1 := by decide +kernel
theorem popI_eq {x : Int32} (h : ∀ i, 24 ≤ i → i < 32 → bt x i = false) : popI x = nI (cB (bt x) 24) := by
  have hx : uN x < 16777216 := uN_small (n := 24) (by omega) h
  generalize e0 : uN x % 256 = q0
  generalize e1 : uN x / 256 % 256 = q1
  generalize e2 : uN x / 65536 = q2
  have h0 : q0 < 256 := by omega
  have h1 : q1 < 256 := by omega
  have h2 : q2 < 256 := by omega
  have en : uN x = 256 * (256 * q2 + q1) + q0 := by omega
  obtain ⟨a0, b0, c0, r0, -⟩ := d4 q0 h0
  obtain ⟨a1, b1, c1, r1, -⟩ := d4 q1 h1
  obtain ⟨a2, b2, c2, r2, -⟩ := d4 q2 h2
  have sh1 : uN (ushI x 1) = uN x / 2 := uN_ush x (k := 1) (by omega)
  have w1 : uN (p1I x) = 256 * (256 * f1 q2 + f1 q1) + f1 q0 := by
    have le : uN (ushI x 1 &&& 1431655765) ≤ uN x := by
      rw [uN_and, sh1]
      exact Nat.le_trans Nat.and_le_left (by omega)
    unfold p1I
    rw [uN_sub le, uN_and, sh1, uM5]
    exact pop3 q0 q1 q2 h0 h1 h2 en
  have sh2 : uN (ushI (p1I x) 2) = uN (p1I x) / 4 := uN_ush _ (k := 2) (by omega)
  have w2 : uN (p2I (p1I x)) = 256 * (256 * f2 (f1 q2) + f2 (f1 q1)) + f2 (f1 q0) := by
    have := pop3b (f1 q0) (f1 q1) (f1 q2) a0 a1 a2 w1
    unfold p2I
    rw [uN_add, uN_and, uN_and, sh2, uM3, this]
    exact Nat.mod_eq_of_lt (by omega)
  have sh3 : uN (ushI (p2I (p1I x)) 4) = uN (p2I (p1I x)) / 16 := uN_ush _ (k := 4) (by omega)
  have w3 : uN (p3I (p2I (p1I x))) = 256 * (256 * p8 q2 + p8 q1) + p8 q0 := by
    have := pop3c (f2 (f1 q0)) (f2 (f1 q1)) (f2 (f1 q2)) b0 b1 b2 c1 c2 w2
    unfold p3I
    rw [uN_and, uN_add, sh3, uMF, Nat.mod_eq_of_lt (by omega)]
    exact this
  have sh4 : uN (ushI (p3I (p2I (p1I x))) 8) = uN (p3I (p2I (p1I x))) / 256 := uN_ush _ (k := 8) (by omega)
  have w4 : uN (p4I (p3I (p2I (p1I x)))) = 65536 * p8 q2 + 256 * (p8 q1 + p8 q2) + (p8 q0 + p8 q1) := by
    unfold p4I
    rw [uN_add, sh4, w3, by4 r0 r1 r2, Nat.mod_eq_of_lt (by omega)]
    omega
  have sh5 : uN (ushI (p4I (p3I (p2I (p1I x)))) 16) = uN (p4I (p3I (p2I (p1I x)))) / 65536 := uN_ush _ (k := 16) (by omega)
  have w5 : uN (p5I (p4I (p3I (p2I (p1I x))))) = 65536 * p8 q2 + 256 * (p8 q1 + p8 q2) + (p8 q0 + p8 q1 + p8 q2) := by
    unfold p5I
    rw [uN_add, sh5, w4, by5 r0 r1 r2, Nat.mod_eq_of_lt (by omega)]
    omega
  have w6 : uN (popI x) = p8 q0 + p8 q1 + p8 q2 := by
    unfold popI
    rw [uN_and, w5, uM63, Nat.and_two_pow_sub_one_eq_mod, by6 r0 r1 r2]
  apply uN_ext
  have hc := cB_le (bt x) 24
  rw [w6, uN_nI (Nat.lt_of_le_of_lt hc (by decide)), (d4 q0 h0).2.2.2.2, (d4 q1 h1).2.2.2.2, (d4 q2 h2).2.2.2.2, ← e0, ← e1, ← e2, sb0, sb1, sb2 _ hx]
  simp only [cB, bt_N, Nat.zero_add, Nat.add_assoc]
section S50
variable {X : pm_X} {d : Nat} {g : pm_G} {iv : pm_V} {x : Int32}
theorem t_bitCount (hd : 1 ≤ d) : pm_c X d 203 [.int x] g iv = some (some (.int (popI x)), g, iv) := by
  obtain ⟨d, rfl, hd1⟩ := pm_d1 hd
  rw [e203, b203_0]
  rfl
end S50
