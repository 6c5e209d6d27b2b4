/-! ===== Int32 by its bits: bt x i ===== -/
def bt (x : Int32) (i : Nat) : Bool := x.toBitVec.getLsbD i
theorem b_ext {x y : Int32} (h : ∀ i, i < 32 → bt x i = bt y i) : x = y := Int32.toBitVec_inj.mp (BitVec.eq_of_getLsbD_eq (fun i hi => h i hi))
theorem b_or (x y : Int32) (i : Nat) : bt (x ||| y) i = (bt x i || bt y i) := by unfold bt; rw [Int32.toBitVec_or, BitVec.getLsbD_or]
theorem b_and (x y : Int32) (i : Nat) : bt (x &&& y) i = (bt x i && bt y i) := by unfold bt; rw [Int32.toBitVec_and, BitVec.getLsbD_and]
theorem b_xor (x y : Int32) (i : Nat) : bt (x ^^^ y) i = (bt x i ^^ bt y i) := by unfold bt; rw [Int32.toBitVec_xor, BitVec.getLsbD_xor]
theorem b_big {x : Int32} {i : Nat} (h : 32 ≤ i) : bt x i = false := BitVec.getLsbD_of_ge _ _ h
theorem b_255 (i : Nat) : bt 255 i = decide (i < 8) := by
  rcases Nat.lt_or_ge i 32 with h | h
  · exact (by decide +kernel : ∀ i, i < 32 → bt 255 i = decide (i < 8)) i h
  · rw [b_big h, decide_eq_false (by omega)]
theorem b_65535 (i : Nat) : bt 65535 i = decide (i < 16) := by
  rcases Nat.lt_or_ge i 32 with h | h
  · exact (by decide +kernel : ∀ i, i < 32 → bt 65535 i = decide (i < 16)) i h
  · rw [b_big h, decide_eq_false (by omega)]
theorem b_m1 : ∀ i, i < 32 → bt (-1) i = true := by decide +kernel
theorem b_0 (i : Nat) : bt 0 i = false := BitVec.getLsbD_zero
theorem s_l : ∀ n, n < 32 → ((nI n &&& 31).toBitVec.smod 32).toNat = n := by decide +kernel
theorem s_u : ∀ n, n < 32 → (((nI n).toUInt32 &&& Int32.toUInt32 31).toBitVec % 32).toNat = n := by decide +kernel
theorem b_shl (n : Nat) (hn : n < 32) (x : Int32) {i : Nat} (hi : i < 32) : bt (x <<< (nI n &&& 31)) i = (decide (n ≤ i) && bt x (i - n)) := by
  unfold bt
  rw [Int32.toBitVec_shiftLeft]
  show (x.toBitVec <<< ((nI n &&& 31).toBitVec.smod 32).toNat).getLsbD i = _
  rw [s_l n hn, BitVec.getLsbD_shiftLeft]
  rcases Nat.lt_or_ge i n with h | h
  · simp [h, Nat.not_le.mpr h]
  · simp [hi, h, Nat.not_lt.mpr h]
theorem b_ushr (n : Nat) (hn : n < 32) (x : Int32) (i : Nat) : bt ((x.toUInt32 >>> ((nI n).toUInt32 &&& Int32.toUInt32 31)).toInt32) i = bt x (n + i) := by
  show (x.toUInt32 >>> ((nI n).toUInt32 &&& Int32.toUInt32 31)).toBitVec.getLsbD i = x.toUInt32.toBitVec.getLsbD (n + i)
  rw [UInt32.toBitVec_shiftRight]
  show (x.toUInt32.toBitVec >>> (((nI n).toUInt32 &&& Int32.toUInt32 31).toBitVec % 32).toNat).getLsbD i = _
  rw [s_u n hn, BitVec.getLsbD_ushiftRight]
theorem b_sshr (n : Nat) (hn : n < 32) (x : Int32) {i : Nat} (hi : i < 32) : bt (x >>> (nI n &&& 31)) i = if n + i < 32 then bt x (n + i) else bt x 31 := by
  unfold bt
  rw [Int32.toBitVec_shiftRight]
  show (x.toBitVec.sshiftRight ((nI n &&& 31).toBitVec.smod 32).toNat).getLsbD i = _
  rw [s_l n hn, BitVec.getLsbD_sshiftRight, BitVec.msb_eq_getLsbD_last]
  simp [hi]
theorem b_shl8 (x : Int32) {i : Nat} (hi : i < 32) : bt (x <<< ((8 : Int32) &&& 31)) i = (decide (8 ≤ i) && bt x (i - 8)) := b_shl 8 (by omega) x hi
theorem b_shl16 (x : Int32) {i : Nat} (hi : i < 32) : bt (x <<< ((16 : Int32) &&& 31)) i = (decide (16 ≤ i) && bt x (i - 16)) := b_shl 16 (by omega) x hi
theorem b_shl24 (x : Int32) {i : Nat} (hi : i < 32) : bt (x <<< ((24 : Int32) &&& 31)) i = (decide (24 ≤ i) && bt x (i - 24)) := b_shl 24 (by omega) x hi
theorem b_sshr8 (x : Int32) {i : Nat} (hi : i < 32) : bt (x >>> ((8 : Int32) &&& 31)) i = if 8 + i < 32 then bt x (8 + i) else bt x 31 := b_sshr 8 (by omega) x hi
theorem b_1 (i : Nat) : bt 1 i = decide (i = 0) := by
  rcases Nat.lt_or_ge i 32 with h | h
  · exact (by decide +kernel : ∀ i, i < 32 → bt 1 i = decide (i = 0)) i h
  · rw [b_big h, decide_eq_false (by omega)]
/-- one bit asked -/
theorem b_tst {i : Nat} (hi : i < 32) (x : Int32) : (x >>> (nI i &&& 31)) &&& 1 = if bt x i = true then 1 else 0 := by
  apply b_ext
  intro j hj
  rw [b_and, b_1, b_sshr i hi x hj]
  by_cases h0 : j = 0
  · subst h0
    rw [if_pos (by omega)]
    by_cases hb : bt x (i + 0) = true
    · rw [hb, if_pos (by simpa using hb), b_1]; rfl
    · rw [if_neg (by simpa using hb), b_0]
      simp at hb
      simp [hb]
  · rw [decide_eq_false h0, Bool.and_false]
    split
    · rw [b_1, decide_eq_false h0]
    · rw [b_0]
/-- the number of one bit -/
theorem b_one {i j : Nat} (hi : i < 32) (hj : j < 32) : bt ((1 : Int32) <<< (nI i &&& 31)) j = decide (j = i) := by
  rw [b_shl i hi 1 hj, b_1]
  rcases Nat.lt_or_ge j i with h | h
  · have h1 : ¬ i ≤ j := by omega
    have h2 : ¬ j = i := by omega
    simp [h1, h2]
  · by_cases e : j = i
    · simp [e]
    · have h2 : ¬ j - i = 0 := by omega
      simp only [h, e, h2, decide_true, decide_false, Bool.and_false]
theorem b_nt (x : Int32) {i : Nat} (hi : i < 32) : bt (x ^^^ (-1)) i = !(bt x i) := by
  rw [b_xor, b_m1 i hi]; simp
theorem b_eq0 {x : Int32} : x = 0 ↔ ∀ i, i < 32 → bt x i = false := ⟨fun h i _ => by rw [h, b_0], fun h => b_ext fun i hi => by rw [h i hi, b_0]⟩
theorem toI2 : (2 : Int32).toInt = 2 := rfl
theorem toI3 : (3 : Int32).toInt = 3 := rfl
theorem toI4 : (4 : Int32).toInt = 4 := rfl
theorem toI5 : (5 : Int32).toInt = 5 := rfl
theorem toI6 : (6 : Int32).toInt = 6 := rfl
theorem toI7 : (7 : Int32).toInt = 7 := rfl
theorem toI8 : (8 : Int32).toInt = 8 := rfl
theorem toI9 : (9 : Int32).toInt = 9 := rfl
theorem toI10 : (10 : Int32).toInt = 10 := rfl
theorem toI11 : (11 : Int32).toInt = 11 := rfl
theorem toI12 : (12 : Int32).toInt = 12 := rfl
theorem toI13 : (13 : Int32).toInt = 13 := rfl
theorem toI14 : (14 : Int32).toInt = 14 := rfl
theorem toI15 : (15 : Int32).toInt = 15 := rfl
theorem toI16 : (16 : Int32).toInt = 16 := rfl
theorem toI17 : (17 : Int32).toInt = 17 := rfl
theorem toI18 : (18 : Int32).toInt = 18 := rfl
theorem toI19 : (19 : Int32).toInt = 19 := rfl
theorem toI20 : (20 : Int32).toInt = 20 := rfl
theorem toI21 : (21 : Int32).toInt = 21 := rfl
theorem toI22 : (22 : Int32).toInt = 22 := rfl
theorem toI23 : (23 : Int32).toInt = 23 := rfl
theorem toI24 : (24 : Int32).toInt = 24 := rfl
theorem toI25 : (25 : Int32).toInt = 25 := rfl
theorem toI26 : (26 : Int32).toInt = 26 := rfl
theorem toI27 : (27 : Int32).toInt = 27 := rfl
theorem toI28 : (28 : Int32).toInt = 28 := rfl
theorem toI29 : (29 : Int32).toInt = 29 := rfl
theorem toI30 : (30 : Int32).toInt = 30 := rfl
theorem toI31 : (31 : Int32).toInt = 31 := rfl
theorem toI32 : (32 : Int32).toInt = 32 := rfl
theorem toI40 : (40 : Int32).toInt = 40 := rfl
theorem toI400 : (400 : Int32).toInt = 400 := rfl
theorem toI320 : (320 : Int32).toInt = 320 := rfl
theorem toI9999 : (9999 : Int32).toInt = 9999 := rfl
theorem toIm1 : ((-1) : Int32).toInt = -1 := rfl
theorem toIm2 : ((-2) : Int32).toInt = -2 := rfl
theorem toIm3 : ((-3) : Int32).toInt = -3 := rfl
theorem toI1000 : (1000 : Int32).toInt = 1000 := rfl
