/-! the small machine's equations: one step -/
section AT
variable {X : pm_X} {d mi pc : Nat} {lo lo' : List (Option Value)} {st : List Value} {g : pm_G} {iv : pm_V}
theorem pm_nI {cal : pm_C} {ins : Instr} {len : Nat} (hd : decode (pm_mb mi) pc = .ok (ins, len)) (hl : pm_len ins = some len ∨ pm_len ins = none) : pm_n X cal mi (pc, lo, st, g, iv) = pm_i X cal mi pc lo st g iv ins := by
  unfold pm_n
  rw [show decode (pm_mb mi) (pc, lo, st, g, iv).1 = .ok (ins, len) from hd]
  exact if_pos hl
/-- behind a call -/
noncomputable def pm_then (X : pm_X) (d mi pc : Nat) (lo : List (Option Value)) (r : List Value) (q : Option pm_R) : Option pm_R := match q with
  | some (v, g', iv') => pm_at X d mi (pc, lo, v.toList ++ r, g', iv')
  | none => none
theorem pm_then_i {r : List Value} {x : Int32} : pm_then X d mi pc lo r (some (some (.int x), g, iv)) = pm_at X d mi (pc, lo, .int x :: r, g, iv) := rfl
theorem pm_then_l {r : List Value} {x : Int64} : pm_then X d mi pc lo r (some (some (.long x), g, iv)) = pm_at X d mi (pc, lo, .long x :: r, g, iv) := rfl
theorem pm_then_v {r : List Value} : pm_then X d mi pc lo r (some (none, g, iv)) = pm_at X d mi (pc, lo, r, g, iv) := rfl

theorem at_iconst {n : Int} {v : Int32} (hd : decode (pm_mb mi) pc = .ok (.iconst n, 1)) (hv : Int32.ofInt n = v) : pm_at X d mi (pc, lo, st, g, iv) = pm_at X d mi (pc + 1, lo, .int v :: st, g, iv) :=
  pm_at_go (by rw [pm_nI hd (Or.inl rfl)]; subst hv; rfl)
theorem at_bipush {n : Int} {v : Int32} (hd : decode (pm_mb mi) pc = .ok (.bipush n, 2)) (hv : (Int8.ofInt n).toInt32 = v) : pm_at X d mi (pc, lo, st, g, iv) = pm_at X d mi (pc + 2, lo, .int v :: st, g, iv) :=
  pm_at_go (by rw [pm_nI hd (Or.inl rfl)]; subst hv; rfl)
theorem at_sipush {n : Int} {v : Int32} (hd : decode (pm_mb mi) pc = .ok (.sipush n, 3)) (hv : (Int16.ofInt n).toInt32 = v) : pm_at X d mi (pc, lo, st, g, iv) = pm_at X d mi (pc + 3, lo, .int v :: st, g, iv) :=
  pm_at_go (by rw [pm_nI hd (Or.inl rfl)]; subst hv; rfl)
theorem at_lconst {n : Fin 2} {v : Int64} (hd : decode (pm_mb mi) pc = .ok (.lconst n, 1)) (hv : Int64.ofNat (n : Nat) = v) : pm_at X d mi (pc, lo, st, g, iv) = pm_at X d mi (pc + 1, lo, .long v :: st, g, iv) :=
  pm_at_go (by rw [pm_nI hd (Or.inl rfl)]; subst hv; rfl)
theorem at_iload_n {k : Fin 4} {x : Int32} (hd : decode (pm_mb mi) pc = .ok (.iload_n k, 1)) (hl : lo[(k : Nat)]? = some (some (.int x))) : pm_at X d mi (pc, lo, st, g, iv) = pm_at X d mi (pc + 1, lo, .int x :: st, g, iv) :=
  pm_at_go (by rw [pm_nI hd (Or.inl rfl)]; show pm_ldI pc lo st g iv 1 k = _; unfold pm_ldI; rw [hl]; rfl)
theorem at_iload {k : Nat} {x : Int32} (hd : decode (pm_mb mi) pc = .ok (.iload k, 2)) (hl : lo[(k : Nat)]? = some (some (.int x))) : pm_at X d mi (pc, lo, st, g, iv) = pm_at X d mi (pc + 2, lo, .int x :: st, g, iv) :=
  pm_at_go (by rw [pm_nI hd (Or.inl rfl)]; show pm_ldI pc lo st g iv 2 k = _; unfold pm_ldI; rw [hl]; rfl)
theorem at_lload_n {k : Fin 4} {x : Int64} (hd : decode (pm_mb mi) pc = .ok (.lload_n k, 1)) (hl : lo[(k : Nat)]? = some (some (.long x))) : pm_at X d mi (pc, lo, st, g, iv) = pm_at X d mi (pc + 1, lo, .long x :: st, g, iv) :=
  pm_at_go (by rw [pm_nI hd (Or.inl rfl)]; show pm_ldL pc lo st g iv 1 k = _; unfold pm_ldL; rw [hl]; rfl)
theorem at_lload {k : Nat} {x : Int64} (hd : decode (pm_mb mi) pc = .ok (.lload k, 2)) (hl : lo[(k : Nat)]? = some (some (.long x))) : pm_at X d mi (pc, lo, st, g, iv) = pm_at X d mi (pc + 2, lo, .long x :: st, g, iv) :=
  pm_at_go (by rw [pm_nI hd (Or.inl rfl)]; show pm_ldL pc lo st g iv 2 k = _; unfold pm_ldL; rw [hl]; rfl)
theorem at_aload_n {k : Fin 4} {x : Nat} (hd : decode (pm_mb mi) pc = .ok (.aload_n k, 1)) (hl : lo[(k : Nat)]? = some (some (.ref x))) : pm_at X d mi (pc, lo, st, g, iv) = pm_at X d mi (pc + 1, lo, .ref x :: st, g, iv) :=
  pm_at_go (by rw [pm_nI hd (Or.inl rfl)]; show pm_ldA pc lo st g iv 1 k = _; unfold pm_ldA; rw [hl]; rfl)
theorem at_aload_nN {k : Fin 4} (hd : decode (pm_mb mi) pc = .ok (.aload_n k, 1)) (hl : lo[(k : Nat)]? = some (some .null)) : pm_at X d mi (pc, lo, st, g, iv) = pm_at X d mi (pc + 1, lo, .null :: st, g, iv) :=
  pm_at_go (by rw [pm_nI hd (Or.inl rfl)]; show pm_ldA pc lo st g iv 1 k = _; unfold pm_ldA; rw [hl]; rfl)
theorem at_aload_nA {k : Fin 4} {x : Nat} (hd : decode (pm_mb mi) pc = .ok (.aload_n k, 1)) (hl : lo[(k : Nat)]? = some (some (.retAddr x))) : pm_at X d mi (pc, lo, st, g, iv) = pm_at X d mi (pc + 1, lo, .retAddr x :: st, g, iv) :=
  pm_at_go (by rw [pm_nI hd (Or.inl rfl)]; show pm_ldA pc lo st g iv 1 k = _; unfold pm_ldA; rw [hl]; rfl)
theorem at_istore_n {k : Fin 4} {x : Int32} (hd : decode (pm_mb mi) pc = .ok (.istore_n k, 1)) (hl : pm_s1 lo (k : Nat) (.int x) = some lo') : pm_at X d mi (pc, lo, .int x :: st, g, iv) = pm_at X d mi (pc + 1, lo', st, g, iv) :=
  pm_at_go (by rw [pm_nI hd (Or.inl rfl)]; show pm_stI pc lo (.int x :: st) g iv 1 k = _; unfold pm_stI; simp only [hl]; rfl)
theorem at_istore {k : Nat} {x : Int32} (hd : decode (pm_mb mi) pc = .ok (.istore k, 2)) (hl : pm_s1 lo (k : Nat) (.int x) = some lo') : pm_at X d mi (pc, lo, .int x :: st, g, iv) = pm_at X d mi (pc + 2, lo', st, g, iv) :=
  pm_at_go (by rw [pm_nI hd (Or.inl rfl)]; show pm_stI pc lo (.int x :: st) g iv 2 k = _; unfold pm_stI; simp only [hl]; rfl)
theorem at_lstore_n {k : Fin 4} {x : Int64} (hd : decode (pm_mb mi) pc = .ok (.lstore_n k, 1)) (hl : pm_s2 lo (k : Nat) (.long x) = some lo') : pm_at X d mi (pc, lo, .long x :: st, g, iv) = pm_at X d mi (pc + 1, lo', st, g, iv) :=
  pm_at_go (by rw [pm_nI hd (Or.inl rfl)]; show pm_stL pc lo (.long x :: st) g iv 1 k = _; unfold pm_stL; simp only [hl]; rfl)
theorem at_astore_n {k : Fin 4} {x : Nat} (hd : decode (pm_mb mi) pc = .ok (.astore_n k, 1)) (hl : pm_s1 lo (k : Nat) (.ref x) = some lo') : pm_at X d mi (pc, lo, .ref x :: st, g, iv) = pm_at X d mi (pc + 1, lo', st, g, iv) :=
  pm_at_go (by rw [pm_nI hd (Or.inl rfl)]; show pm_stA pc lo (.ref x :: st) g iv 1 k = _; unfold pm_stA; simp only [hl]; rfl)
theorem at_astore_nN {k : Fin 4} (hd : decode (pm_mb mi) pc = .ok (.astore_n k, 1)) (hl : pm_s1 lo (k : Nat) .null = some lo') : pm_at X d mi (pc, lo, .null :: st, g, iv) = pm_at X d mi (pc + 1, lo', st, g, iv) :=
  pm_at_go (by rw [pm_nI hd (Or.inl rfl)]; show pm_stA pc lo (.null :: st) g iv 1 k = _; unfold pm_stA; simp only [hl]; rfl)
theorem at_iinc {k : Nat} {n : Int} {x v : Int32} (hd : decode (pm_mb mi) pc = .ok (.iinc k n, 3)) (hx : lo[k]? = some (some (.int x))) (hv : Int32.ofInt n = v) (hl : pm_s1 lo k (.int (x + v)) = some lo') : pm_at X d mi (pc, lo, st, g, iv) = pm_at X d mi (pc + 3, lo', st, g, iv) :=
  pm_at_go (by rw [pm_nI hd (Or.inl rfl)]; subst hv; show pm_inc pc lo st g iv k n = _; unfold pm_inc; simp only [hx, hl]; rfl)
theorem at_iadd {x y : Int32} (hd : decode (pm_mb mi) pc = .ok (.iadd, 1)) : pm_at X d mi (pc, lo, .int y :: .int x :: st, g, iv) = pm_at X d mi (pc + 1, lo, .int (x + y) :: st, g, iv) :=
  pm_at_go (by rw [pm_nI hd (Or.inl rfl)]; rfl)
theorem at_isub {x y : Int32} (hd : decode (pm_mb mi) pc = .ok (.isub, 1)) : pm_at X d mi (pc, lo, .int y :: .int x :: st, g, iv) = pm_at X d mi (pc + 1, lo, .int (x - y) :: st, g, iv) :=
  pm_at_go (by rw [pm_nI hd (Or.inl rfl)]; rfl)
theorem at_imul {x y : Int32} (hd : decode (pm_mb mi) pc = .ok (.imul, 1)) : pm_at X d mi (pc, lo, .int y :: .int x :: st, g, iv) = pm_at X d mi (pc + 1, lo, .int (x * y) :: st, g, iv) :=
  pm_at_go (by rw [pm_nI hd (Or.inl rfl)]; rfl)
theorem at_iand {x y : Int32} (hd : decode (pm_mb mi) pc = .ok (.iand, 1)) : pm_at X d mi (pc, lo, .int y :: .int x :: st, g, iv) = pm_at X d mi (pc + 1, lo, .int (x &&& y) :: st, g, iv) :=
  pm_at_go (by rw [pm_nI hd (Or.inl rfl)]; rfl)
theorem at_ior {x y : Int32} (hd : decode (pm_mb mi) pc = .ok (.ior, 1)) : pm_at X d mi (pc, lo, .int y :: .int x :: st, g, iv) = pm_at X d mi (pc + 1, lo, .int (x ||| y) :: st, g, iv) :=
  pm_at_go (by rw [pm_nI hd (Or.inl rfl)]; rfl)
theorem at_ixor {x y : Int32} (hd : decode (pm_mb mi) pc = .ok (.ixor, 1)) : pm_at X d mi (pc, lo, .int y :: .int x :: st, g, iv) = pm_at X d mi (pc + 1, lo, .int (x ^^^ y) :: st, g, iv) :=
  pm_at_go (by rw [pm_nI hd (Or.inl rfl)]; rfl)
theorem at_ishl {x y : Int32} (hd : decode (pm_mb mi) pc = .ok (.ishl, 1)) : pm_at X d mi (pc, lo, .int y :: .int x :: st, g, iv) = pm_at X d mi (pc + 1, lo, .int (x <<< (y &&& 31)) :: st, g, iv) :=
  pm_at_go (by rw [pm_nI hd (Or.inl rfl)]; rfl)
theorem at_ishr {x y : Int32} (hd : decode (pm_mb mi) pc = .ok (.ishr, 1)) : pm_at X d mi (pc, lo, .int y :: .int x :: st, g, iv) = pm_at X d mi (pc + 1, lo, .int (x >>> (y &&& 31)) :: st, g, iv) :=
  pm_at_go (by rw [pm_nI hd (Or.inl rfl)]; rfl)
theorem at_iushr {x y : Int32} (hd : decode (pm_mb mi) pc = .ok (.iushr, 1)) : pm_at X d mi (pc, lo, .int y :: .int x :: st, g, iv) = pm_at X d mi (pc + 1, lo, .int ((x.toUInt32 >>> (y.toUInt32 &&& Int32.toUInt32 31)).toInt32) :: st, g, iv) :=
  pm_at_go (by rw [pm_nI hd (Or.inl rfl)]; rfl)
theorem at_idiv {x y : Int32} (hd : decode (pm_mb mi) pc = .ok (.idiv, 1)) (hy : ¬ y = 0) : pm_at X d mi (pc, lo, .int y :: .int x :: st, g, iv) = pm_at X d mi (pc + 1, lo, .int (x / y) :: st, g, iv) :=
  pm_at_go (by rw [pm_nI hd (Or.inl rfl)]; exact if_pos hy)
theorem at_irem {x y : Int32} (hd : decode (pm_mb mi) pc = .ok (.irem, 1)) (hy : ¬ y = 0) : pm_at X d mi (pc, lo, .int y :: .int x :: st, g, iv) = pm_at X d mi (pc + 1, lo, .int (x - x / y * y) :: st, g, iv) :=
  pm_at_go (by rw [pm_nI hd (Or.inl rfl)]; exact if_pos hy)
theorem at_ineg {x : Int32} (hd : decode (pm_mb mi) pc = .ok (.ineg, 1)) : pm_at X d mi (pc, lo, .int x :: st, g, iv) = pm_at X d mi (pc + 1, lo, .int (-x) :: st, g, iv) :=
  pm_at_go (by rw [pm_nI hd (Or.inl rfl)]; rfl)
theorem at_i2b {x : Int32} (hd : decode (pm_mb mi) pc = .ok (.i2b, 1)) : pm_at X d mi (pc, lo, .int x :: st, g, iv) = pm_at X d mi (pc + 1, lo, .int (x.toInt8.toInt32) :: st, g, iv) :=
  pm_at_go (by rw [pm_nI hd (Or.inl rfl)]; rfl)
theorem at_i2s {x : Int32} (hd : decode (pm_mb mi) pc = .ok (.i2s, 1)) : pm_at X d mi (pc, lo, .int x :: st, g, iv) = pm_at X d mi (pc + 1, lo, .int (x.toInt16.toInt32) :: st, g, iv) :=
  pm_at_go (by rw [pm_nI hd (Or.inl rfl)]; rfl)
theorem at_i2c {x : Int32} (hd : decode (pm_mb mi) pc = .ok (.i2c, 1)) : pm_at X d mi (pc, lo, .int x :: st, g, iv) = pm_at X d mi (pc + 1, lo, .int ((x.toUInt32 % 65536).toInt32) :: st, g, iv) :=
  pm_at_go (by rw [pm_nI hd (Or.inl rfl)]; rfl)
theorem at_i2l {x : Int32} (hd : decode (pm_mb mi) pc = .ok (.i2l, 1)) : pm_at X d mi (pc, lo, .int x :: st, g, iv) = pm_at X d mi (pc + 1, lo, .long x.toInt64 :: st, g, iv) :=
  pm_at_go (by rw [pm_nI hd (Or.inl rfl)]; rfl)
theorem at_l2i {x : Int64} (hd : decode (pm_mb mi) pc = .ok (.l2i, 1)) : pm_at X d mi (pc, lo, .long x :: st, g, iv) = pm_at X d mi (pc + 1, lo, .int x.toInt32 :: st, g, iv) :=
  pm_at_go (by rw [pm_nI hd (Or.inl rfl)]; rfl)
theorem at_ladd {x y : Int64} (hd : decode (pm_mb mi) pc = .ok (.ladd, 1)) : pm_at X d mi (pc, lo, .long y :: .long x :: st, g, iv) = pm_at X d mi (pc + 1, lo, .long (x + y) :: st, g, iv) :=
  pm_at_go (by rw [pm_nI hd (Or.inl rfl)]; rfl)
theorem at_land {x y : Int64} (hd : decode (pm_mb mi) pc = .ok (.land, 1)) : pm_at X d mi (pc, lo, .long y :: .long x :: st, g, iv) = pm_at X d mi (pc + 1, lo, .long (x &&& y) :: st, g, iv) :=
  pm_at_go (by rw [pm_nI hd (Or.inl rfl)]; rfl)
theorem at_lor {x y : Int64} (hd : decode (pm_mb mi) pc = .ok (.lor, 1)) : pm_at X d mi (pc, lo, .long y :: .long x :: st, g, iv) = pm_at X d mi (pc + 1, lo, .long (x ||| y) :: st, g, iv) :=
  pm_at_go (by rw [pm_nI hd (Or.inl rfl)]; rfl)
theorem at_lshl {x : Int64} {y : Int32} (hd : decode (pm_mb mi) pc = .ok (.lshl, 1)) : pm_at X d mi (pc, lo, .int y :: .long x :: st, g, iv) = pm_at X d mi (pc + 1, lo, .long (x <<< (y.toInt64 &&& 63)) :: st, g, iv) :=
  pm_at_go (by rw [pm_nI hd (Or.inl rfl)]; rfl)
theorem at_lshr {x : Int64} {y : Int32} (hd : decode (pm_mb mi) pc = .ok (.lshr, 1)) : pm_at X d mi (pc, lo, .int y :: .long x :: st, g, iv) = pm_at X d mi (pc + 1, lo, .long (x >>> (y.toInt64 &&& 63)) :: st, g, iv) :=
  pm_at_go (by rw [pm_nI hd (Or.inl rfl)]; rfl)
theorem at_lcmp {x y : Int64} (hd : decode (pm_mb mi) pc = .ok (.lcmp, 1)) : pm_at X d mi (pc, lo, .long y :: .long x :: st, g, iv) = pm_at X d mi (pc + 1, lo, .int (lg_cmp x y) :: st, g, iv) :=
  pm_at_go (by rw [pm_nI hd (Or.inl rfl)]; rfl)
theorem at_dup {v : Value} (hd : decode (pm_mb mi) pc = .ok (.dup, 1)) (hv : v.category = 1) : pm_at X d mi (pc, lo, v :: st, g, iv) = pm_at X d mi (pc + 1, lo, v :: v :: st, g, iv) :=
  pm_at_go (by rw [pm_nI hd (Or.inl rfl)]; exact if_pos hv)
theorem at_dup2 {v w : Value} (hd : decode (pm_mb mi) pc = .ok (.dup2, 1)) (hv : v.category = 1 ∧ w.category = 1) : pm_at X d mi (pc, lo, v :: w :: st, g, iv) = pm_at X d mi (pc + 1, lo, v :: w :: v :: w :: st, g, iv) :=
  pm_at_go (by rw [pm_nI hd (Or.inl rfl)]; exact if_pos hv)
theorem at_pop {v : Value} (hd : decode (pm_mb mi) pc = .ok (.pop, 1)) (hv : v.category = 1) : pm_at X d mi (pc, lo, v :: st, g, iv) = pm_at X d mi (pc + 1, lo, st, g, iv) :=
  pm_at_go (by rw [pm_nI hd (Or.inl rfl)]; exact if_pos hv)
theorem at_goto {off : Int} {t : Nat} (hd : decode (pm_mb mi) pc = .ok (.goto off, 3)) (ht : (pc : Int) + off = (t : Int)) : pm_at X d mi (pc, lo, st, g, iv) = pm_at X d mi (t, lo, st, g, iv) :=
  pm_at_go (by rw [pm_nI hd (Or.inl rfl)]; show pm_jmp pc lo g iv off st = _; unfold pm_jmp; rw [ht]; exact if_pos (Int.natCast_nonneg t))
theorem at_if_eq {x : Int32} {off : Int} {t : Nat} (hd : decode (pm_mb mi) pc = .ok (.ifCond .eq off, 3)) (ht : (pc : Int) + off = (t : Int)) : pm_at X d mi (pc, lo, .int x :: st, g, iv) = if x = 0 then pm_at X d mi (t, lo, st, g, iv) else pm_at X d mi (pc + 3, lo, st, g, iv) := by
  by_cases h : x = 0
  · rw [if_pos h]
    exact pm_at_go (by rw [pm_nI hd (Or.inl rfl)]; show pm_ifn (0 ≤ (pc : Int) + off) (if pm_cd1 .eq x = true then pm_go ((pc : Int) + off).toNat lo st g iv else pm_go (pc + 3) lo st g iv) = _; rw [ht]; unfold pm_ifn; rw [if_pos (Int.natCast_nonneg t), if_pos (show pm_cd1 .eq x = true from decide_eq_true h)]; rfl)
  · rw [if_neg h]
    exact pm_at_go (by rw [pm_nI hd (Or.inl rfl)]; show pm_ifn (0 ≤ (pc : Int) + off) (if pm_cd1 .eq x = true then pm_go ((pc : Int) + off).toNat lo st g iv else pm_go (pc + 3) lo st g iv) = _; rw [ht]; unfold pm_ifn; rw [if_pos (Int.natCast_nonneg t), if_neg (show ¬ pm_cd1 .eq x = true from fun q => h (of_decide_eq_true q))]; rfl)
theorem at_if_ne {x : Int32} {off : Int} {t : Nat} (hd : decode (pm_mb mi) pc = .ok (.ifCond .ne off, 3)) (ht : (pc : Int) + off = (t : Int)) : pm_at X d mi (pc, lo, .int x :: st, g, iv) = if ¬ x = 0 then pm_at X d mi (t, lo, st, g, iv) else pm_at X d mi (pc + 3, lo, st, g, iv) := by
  by_cases h : ¬ x = 0
  · rw [if_pos h]
    exact pm_at_go (by rw [pm_nI hd (Or.inl rfl)]; show pm_ifn (0 ≤ (pc : Int) + off) (if pm_cd1 .ne x = true then pm_go ((pc : Int) + off).toNat lo st g iv else pm_go (pc + 3) lo st g iv) = _; rw [ht]; unfold pm_ifn; rw [if_pos (Int.natCast_nonneg t), if_pos (show pm_cd1 .ne x = true from decide_eq_true h)]; rfl)
  · rw [if_neg h]
    exact pm_at_go (by rw [pm_nI hd (Or.inl rfl)]; show pm_ifn (0 ≤ (pc : Int) + off) (if pm_cd1 .ne x = true then pm_go ((pc : Int) + off).toNat lo st g iv else pm_go (pc + 3) lo st g iv) = _; rw [ht]; unfold pm_ifn; rw [if_pos (Int.natCast_nonneg t), if_neg (show ¬ pm_cd1 .ne x = true from fun q => h (of_decide_eq_true q))]; rfl)
theorem at_if_lt {x : Int32} {off : Int} {t : Nat} (hd : decode (pm_mb mi) pc = .ok (.ifCond .lt off, 3)) (ht : (pc : Int) + off = (t : Int)) : pm_at X d mi (pc, lo, .int x :: st, g, iv) = if x < 0 then pm_at X d mi (t, lo, st, g, iv) else pm_at X d mi (pc + 3, lo, st, g, iv) := by
  by_cases h : x < 0
  · rw [if_pos h]
    exact pm_at_go (by rw [pm_nI hd (Or.inl rfl)]; show pm_ifn (0 ≤ (pc : Int) + off) (if pm_cd1 .lt x = true then pm_go ((pc : Int) + off).toNat lo st g iv else pm_go (pc + 3) lo st g iv) = _; rw [ht]; unfold pm_ifn; rw [if_pos (Int.natCast_nonneg t), if_pos (show pm_cd1 .lt x = true from decide_eq_true h)]; rfl)
  · rw [if_neg h]
    exact pm_at_go (by rw [pm_nI hd (Or.inl rfl)]; show pm_ifn (0 ≤ (pc : Int) + off) (if pm_cd1 .lt x = true then pm_go ((pc : Int) + off).toNat lo st g iv else pm_go (pc + 3) lo st g iv) = _; rw [ht]; unfold pm_ifn; rw [if_pos (Int.natCast_nonneg t), if_neg (show ¬ pm_cd1 .lt x = true from fun q => h (of_decide_eq_true q))]; rfl)
theorem at_if_ge {x : Int32} {off : Int} {t : Nat} (hd : decode (pm_mb mi) pc = .ok (.ifCond .ge off, 3)) (ht : (pc : Int) + off = (t : Int)) : pm_at X d mi (pc, lo, .int x :: st, g, iv) = if 0 ≤ x then pm_at X d mi (t, lo, st, g, iv) else pm_at X d mi (pc + 3, lo, st, g, iv) := by
  by_cases h : 0 ≤ x
  · rw [if_pos h]
    exact pm_at_go (by rw [pm_nI hd (Or.inl rfl)]; show pm_ifn (0 ≤ (pc : Int) + off) (if pm_cd1 .ge x = true then pm_go ((pc : Int) + off).toNat lo st g iv else pm_go (pc + 3) lo st g iv) = _; rw [ht]; unfold pm_ifn; rw [if_pos (Int.natCast_nonneg t), if_pos (show pm_cd1 .ge x = true from decide_eq_true h)]; rfl)
  · rw [if_neg h]
    exact pm_at_go (by rw [pm_nI hd (Or.inl rfl)]; show pm_ifn (0 ≤ (pc : Int) + off) (if pm_cd1 .ge x = true then pm_go ((pc : Int) + off).toNat lo st g iv else pm_go (pc + 3) lo st g iv) = _; rw [ht]; unfold pm_ifn; rw [if_pos (Int.natCast_nonneg t), if_neg (show ¬ pm_cd1 .ge x = true from fun q => h (of_decide_eq_true q))]; rfl)
theorem at_if_gt {x : Int32} {off : Int} {t : Nat} (hd : decode (pm_mb mi) pc = .ok (.ifCond .gt off, 3)) (ht : (pc : Int) + off = (t : Int)) : pm_at X d mi (pc, lo, .int x :: st, g, iv) = if 0 < x then pm_at X d mi (t, lo, st, g, iv) else pm_at X d mi (pc + 3, lo, st, g, iv) := by
  by_cases h : 0 < x
  · rw [if_pos h]
    exact pm_at_go (by rw [pm_nI hd (Or.inl rfl)]; show pm_ifn (0 ≤ (pc : Int) + off) (if pm_cd1 .gt x = true then pm_go ((pc : Int) + off).toNat lo st g iv else pm_go (pc + 3) lo st g iv) = _; rw [ht]; unfold pm_ifn; rw [if_pos (Int.natCast_nonneg t), if_pos (show pm_cd1 .gt x = true from decide_eq_true h)]; rfl)
  · rw [if_neg h]
    exact pm_at_go (by rw [pm_nI hd (Or.inl rfl)]; show pm_ifn (0 ≤ (pc : Int) + off) (if pm_cd1 .gt x = true then pm_go ((pc : Int) + off).toNat lo st g iv else pm_go (pc + 3) lo st g iv) = _; rw [ht]; unfold pm_ifn; rw [if_pos (Int.natCast_nonneg t), if_neg (show ¬ pm_cd1 .gt x = true from fun q => h (of_decide_eq_true q))]; rfl)
theorem at_if_le {x : Int32} {off : Int} {t : Nat} (hd : decode (pm_mb mi) pc = .ok (.ifCond .le off, 3)) (ht : (pc : Int) + off = (t : Int)) : pm_at X d mi (pc, lo, .int x :: st, g, iv) = if x ≤ 0 then pm_at X d mi (t, lo, st, g, iv) else pm_at X d mi (pc + 3, lo, st, g, iv) := by
  by_cases h : x ≤ 0
  · rw [if_pos h]
    exact pm_at_go (by rw [pm_nI hd (Or.inl rfl)]; show pm_ifn (0 ≤ (pc : Int) + off) (if pm_cd1 .le x = true then pm_go ((pc : Int) + off).toNat lo st g iv else pm_go (pc + 3) lo st g iv) = _; rw [ht]; unfold pm_ifn; rw [if_pos (Int.natCast_nonneg t), if_pos (show pm_cd1 .le x = true from decide_eq_true h)]; rfl)
  · rw [if_neg h]
    exact pm_at_go (by rw [pm_nI hd (Or.inl rfl)]; show pm_ifn (0 ≤ (pc : Int) + off) (if pm_cd1 .le x = true then pm_go ((pc : Int) + off).toNat lo st g iv else pm_go (pc + 3) lo st g iv) = _; rw [ht]; unfold pm_ifn; rw [if_pos (Int.natCast_nonneg t), if_neg (show ¬ pm_cd1 .le x = true from fun q => h (of_decide_eq_true q))]; rfl)
theorem at_icmp_eq {x y : Int32} {off : Int} {t : Nat} (hd : decode (pm_mb mi) pc = .ok (.if_icmp .eq off, 3)) (ht : (pc : Int) + off = (t : Int)) : pm_at X d mi (pc, lo, .int y :: .int x :: st, g, iv) = if x = y then pm_at X d mi (t, lo, st, g, iv) else pm_at X d mi (pc + 3, lo, st, g, iv) := by
  by_cases h : x = y
  · rw [if_pos h]
    exact pm_at_go (by rw [pm_nI hd (Or.inl rfl)]; show pm_ifn (0 ≤ (pc : Int) + off) (if pm_cd2 .eq x y = true then pm_go ((pc : Int) + off).toNat lo st g iv else pm_go (pc + 3) lo st g iv) = _; rw [ht]; unfold pm_ifn; rw [if_pos (Int.natCast_nonneg t), if_pos (show pm_cd2 .eq x y = true from decide_eq_true h)]; rfl)
  · rw [if_neg h]
    exact pm_at_go (by rw [pm_nI hd (Or.inl rfl)]; show pm_ifn (0 ≤ (pc : Int) + off) (if pm_cd2 .eq x y = true then pm_go ((pc : Int) + off).toNat lo st g iv else pm_go (pc + 3) lo st g iv) = _; rw [ht]; unfold pm_ifn; rw [if_pos (Int.natCast_nonneg t), if_neg (show ¬ pm_cd2 .eq x y = true from fun q => h (of_decide_eq_true q))]; rfl)
theorem at_icmp_ne {x y : Int32} {off : Int} {t : Nat} (hd : decode (pm_mb mi) pc = .ok (.if_icmp .ne off, 3)) (ht : (pc : Int) + off = (t : Int)) : pm_at X d mi (pc, lo, .int y :: .int x :: st, g, iv) = if ¬ x = y then pm_at X d mi (t, lo, st, g, iv) else pm_at X d mi (pc + 3, lo, st, g, iv) := by
  by_cases h : ¬ x = y
  · rw [if_pos h]
    exact pm_at_go (by rw [pm_nI hd (Or.inl rfl)]; show pm_ifn (0 ≤ (pc : Int) + off) (if pm_cd2 .ne x y = true then pm_go ((pc : Int) + off).toNat lo st g iv else pm_go (pc + 3) lo st g iv) = _; rw [ht]; unfold pm_ifn; rw [if_pos (Int.natCast_nonneg t), if_pos (show pm_cd2 .ne x y = true from decide_eq_true h)]; rfl)
  · rw [if_neg h]
    exact pm_at_go (by rw [pm_nI hd (Or.inl rfl)]; show pm_ifn (0 ≤ (pc : Int) + off) (if pm_cd2 .ne x y = true then pm_go ((pc : Int) + off).toNat lo st g iv else pm_go (pc + 3) lo st g iv) = _; rw [ht]; unfold pm_ifn; rw [if_pos (Int.natCast_nonneg t), if_neg (show ¬ pm_cd2 .ne x y = true from fun q => h (of_decide_eq_true q))]; rfl)
theorem at_icmp_lt {x y : Int32} {off : Int} {t : Nat} (hd : decode (pm_mb mi) pc = .ok (.if_icmp .lt off, 3)) (ht : (pc : Int) + off = (t : Int)) : pm_at X d mi (pc, lo, .int y :: .int x :: st, g, iv) = if x < y then pm_at X d mi (t, lo, st, g, iv) else pm_at X d mi (pc + 3, lo, st, g, iv) := by
  by_cases h : x < y
  · rw [if_pos h]
    exact pm_at_go (by rw [pm_nI hd (Or.inl rfl)]; show pm_ifn (0 ≤ (pc : Int) + off) (if pm_cd2 .lt x y = true then pm_go ((pc : Int) + off).toNat lo st g iv else pm_go (pc + 3) lo st g iv) = _; rw [ht]; unfold pm_ifn; rw [if_pos (Int.natCast_nonneg t), if_pos (show pm_cd2 .lt x y = true from decide_eq_true h)]; rfl)
  · rw [if_neg h]
    exact pm_at_go (by rw [pm_nI hd (Or.inl rfl)]; show pm_ifn (0 ≤ (pc : Int) + off) (if pm_cd2 .lt x y = true then pm_go ((pc : Int) + off).toNat lo st g iv else pm_go (pc + 3) lo st g iv) = _; rw [ht]; unfold pm_ifn; rw [if_pos (Int.natCast_nonneg t), if_neg (show ¬ pm_cd2 .lt x y = true from fun q => h (of_decide_eq_true q))]; rfl)
theorem at_icmp_ge {x y : Int32} {off : Int} {t : Nat} (hd : decode (pm_mb mi) pc = .ok (.if_icmp .ge off, 3)) (ht : (pc : Int) + off = (t : Int)) : pm_at X d mi (pc, lo, .int y :: .int x :: st, g, iv) = if y ≤ x then pm_at X d mi (t, lo, st, g, iv) else pm_at X d mi (pc + 3, lo, st, g, iv) := by
  by_cases h : y ≤ x
  · rw [if_pos h]
    exact pm_at_go (by rw [pm_nI hd (Or.inl rfl)]; show pm_ifn (0 ≤ (pc : Int) + off) (if pm_cd2 .ge x y = true then pm_go ((pc : Int) + off).toNat lo st g iv else pm_go (pc + 3) lo st g iv) = _; rw [ht]; unfold pm_ifn; rw [if_pos (Int.natCast_nonneg t), if_pos (show pm_cd2 .ge x y = true from decide_eq_true h)]; rfl)
  · rw [if_neg h]
    exact pm_at_go (by rw [pm_nI hd (Or.inl rfl)]; show pm_ifn (0 ≤ (pc : Int) + off) (if pm_cd2 .ge x y = true then pm_go ((pc : Int) + off).toNat lo st g iv else pm_go (pc + 3) lo st g iv) = _; rw [ht]; unfold pm_ifn; rw [if_pos (Int.natCast_nonneg t), if_neg (show ¬ pm_cd2 .ge x y = true from fun q => h (of_decide_eq_true q))]; rfl)
theorem at_icmp_gt {x y : Int32} {off : Int} {t : Nat} (hd : decode (pm_mb mi) pc = .ok (.if_icmp .gt off, 3)) (ht : (pc : Int) + off = (t : Int)) : pm_at X d mi (pc, lo, .int y :: .int x :: st, g, iv) = if y < x then pm_at X d mi (t, lo, st, g, iv) else pm_at X d mi (pc + 3, lo, st, g, iv) := by
  by_cases h : y < x
  · rw [if_pos h]
    exact pm_at_go (by rw [pm_nI hd (Or.inl rfl)]; show pm_ifn (0 ≤ (pc : Int) + off) (if pm_cd2 .gt x y = true then pm_go ((pc : Int) + off).toNat lo st g iv else pm_go (pc + 3) lo st g iv) = _; rw [ht]; unfold pm_ifn; rw [if_pos (Int.natCast_nonneg t), if_pos (show pm_cd2 .gt x y = true from decide_eq_true h)]; rfl)
  · rw [if_neg h]
    exact pm_at_go (by rw [pm_nI hd (Or.inl rfl)]; show pm_ifn (0 ≤ (pc : Int) + off) (if pm_cd2 .gt x y = true then pm_go ((pc : Int) + off).toNat lo st g iv else pm_go (pc + 3) lo st g iv) = _; rw [ht]; unfold pm_ifn; rw [if_pos (Int.natCast_nonneg t), if_neg (show ¬ pm_cd2 .gt x y = true from fun q => h (of_decide_eq_true q))]; rfl)
theorem at_icmp_le {x y : Int32} {off : Int} {t : Nat} (hd : decode (pm_mb mi) pc = .ok (.if_icmp .le off, 3)) (ht : (pc : Int) + off = (t : Int)) : pm_at X d mi (pc, lo, .int y :: .int x :: st, g, iv) = if x ≤ y then pm_at X d mi (t, lo, st, g, iv) else pm_at X d mi (pc + 3, lo, st, g, iv) := by
  by_cases h : x ≤ y
  · rw [if_pos h]
    exact pm_at_go (by rw [pm_nI hd (Or.inl rfl)]; show pm_ifn (0 ≤ (pc : Int) + off) (if pm_cd2 .le x y = true then pm_go ((pc : Int) + off).toNat lo st g iv else pm_go (pc + 3) lo st g iv) = _; rw [ht]; unfold pm_ifn; rw [if_pos (Int.natCast_nonneg t), if_pos (show pm_cd2 .le x y = true from decide_eq_true h)]; rfl)
  · rw [if_neg h]
    exact pm_at_go (by rw [pm_nI hd (Or.inl rfl)]; show pm_ifn (0 ≤ (pc : Int) + off) (if pm_cd2 .le x y = true then pm_go ((pc : Int) + off).toNat lo st g iv else pm_go (pc + 3) lo st g iv) = _; rw [ht]; unfold pm_ifn; rw [if_pos (Int.natCast_nonneg t), if_neg (show ¬ pm_cd2 .le x y = true from fun q => h (of_decide_eq_true q))]; rfl)
theorem at_nn {x : Nat} {off : Int} {t : Nat} (hd : decode (pm_mb mi) pc = .ok (.ifnonnull off, 3)) (ht : (pc : Int) + off = (t : Int)) : pm_at X d mi (pc, lo, .ref x :: st, g, iv) = pm_at X d mi (t, lo, st, g, iv) :=
  pm_at_go (by rw [pm_nI hd (Or.inl rfl)]; show pm_jmp pc lo g iv off st = _; unfold pm_jmp; rw [ht]; exact if_pos (Int.natCast_nonneg t))
theorem at_nnN {off : Int} (hd : decode (pm_mb mi) pc = .ok (.ifnonnull off, 3)) : pm_at X d mi (pc, lo, .null :: st, g, iv) = pm_at X d mi (pc + 3, lo, st, g, iv) :=
  pm_at_go (by rw [pm_nI hd (Or.inl rfl)]; rfl)
theorem at_tswO {df lw up : Int} {os : Array Int} {len : Nat} {x : Int32} {t : Nat} (hd : decode (pm_mb mi) pc = .ok (.tableswitch df lw up os, len)) (h : x.toInt < lw ∨ up < x.toInt) (ht : (pc : Int) + df = (t : Int)) : pm_at X d mi (pc, lo, .int x :: st, g, iv) = pm_at X d mi (t, lo, st, g, iv) :=
  pm_at_go (by rw [pm_nI hd (Or.inr rfl)]; show pm_tsw pc lo (.int x :: st) g iv df lw up os = _; unfold pm_tsw; simp only [if_pos h]; unfold pm_jmp; rw [ht]; exact if_pos (Int.natCast_nonneg t))
theorem at_tswI {df lw up : Int} {os : Array Int} {len : Nat} {x : Int32} {of : Int} {t : Nat} (hd : decode (pm_mb mi) pc = .ok (.tableswitch df lw up os, len)) (h : ¬ (x.toInt < lw ∨ up < x.toInt)) (ho : os[(x.toInt - lw).toNat]? = some of) (ht : (pc : Int) + of = (t : Int)) : pm_at X d mi (pc, lo, .int x :: st, g, iv) = pm_at X d mi (t, lo, st, g, iv) :=
  pm_at_go (by rw [pm_nI hd (Or.inr rfl)]; show pm_tsw pc lo (.int x :: st) g iv df lw up os = _; unfold pm_tsw; simp only [if_neg h, ho]; unfold pm_jmp; rw [ht]; exact if_pos (Int.natCast_nonneg t))
theorem at_lsw {df : Int} {ps : Array (Int × Int)} {len : Nat} {x : Int32} {of : Int} {t : Nat} (hd : decode (pm_mb mi) pc = .ok (.lookupswitch df ps, len)) (hp : (ps.toList.zip (ps.toList.drop 1)).all (fun (a, next) => a.1 < next.1) = true) (ho : Op.lookupswitch.offset ps.toList df x.toInt = of) (ht : (pc : Int) + of = (t : Int)) : pm_at X d mi (pc, lo, .int x :: st, g, iv) = pm_at X d mi (t, lo, st, g, iv) :=
  pm_at_go (by rw [pm_nI hd (Or.inr rfl)]; show pm_ifn ((ps.toList.zip (ps.toList.drop 1)).all (fun (a, next) => a.1 < next.1) = true) (pm_jmp pc lo g iv (Op.lookupswitch.offset ps.toList df x.toInt) st) = _; unfold pm_ifn; rw [ho]; refine (if_pos hp).trans ?_; unfold pm_jmp; rw [ht]; exact if_pos (Int.natCast_nonneg t))
theorem at_gfI {c idx ci sl z a : Nat} (hd : decode (pm_mb mi) pc = .ok (.getfield idx, 3)) (hm : pm_mc mi = c) (hf : pm_lft.lookup (c, idx) = some (ci, sl, z)) (ho : ¬ ci = 100 ∧ ci < 7 ∧ sl < pm_nf ci ∧ pm_rf ci sl = false) (hk : g.1 a = some (ci, 0)) : pm_at X d mi (pc, lo, .ref a :: st, g, iv) = pm_at X d mi (pc + 3, lo, .int (iv a sl) :: st, g, iv) :=
  pm_at_go (by rw [pm_nI hd (Or.inl rfl)]; show pm_gf mi pc lo (.ref a :: st) g iv idx = _; unfold pm_gf pm_ov; simp only [hm, hf, ho.1, if_false]; unfold pm_ifn; rw [if_pos ⟨hk, ho.2.1, ho.2.2.1⟩, if_neg (by rw [ho.2.2.2]; exact Bool.false_ne_true)]; rfl)
theorem at_gfR {c idx ci sl z a t : Nat} (hd : decode (pm_mb mi) pc = .ok (.getfield idx, 3)) (hm : pm_mc mi = c) (hf : pm_lft.lookup (c, idx) = some (ci, sl, z)) (ho : ¬ ci = 100 ∧ ci < 7 ∧ sl < pm_nf ci ∧ pm_rf ci sl = true) (hk : g.1 a = some (ci, 0)) (ht : g.2.1 a sl = some t) : pm_at X d mi (pc, lo, .ref a :: st, g, iv) = pm_at X d mi (pc + 3, lo, .ref t :: st, g, iv) :=
  pm_at_go (by rw [pm_nI hd (Or.inl rfl)]; show pm_gf mi pc lo (.ref a :: st) g iv idx = _; unfold pm_gf pm_ov; simp only [hm, hf, ho.1, if_false]; unfold pm_ifn; rw [if_pos ⟨hk, ho.2.1, ho.2.2.1⟩, if_pos ho.2.2.2, ht]; rfl)
theorem at_gfV {c idx z a : Nat} (hd : decode (pm_mb mi) pc = .ok (.getfield idx, 3)) (hm : pm_mc mi = c) (hf : pm_lft.lookup (c, idx) = some (100, 0, z)) (ha : 1000 ≤ a ∧ a < 1008) : pm_at X d mi (pc, lo, .ref a :: st, g, iv) = pm_at X d mi (pc + 3, lo, .ref (a + 100) :: st, g, iv) :=
  pm_at_go (by rw [pm_nI hd (Or.inl rfl)]; show pm_gf mi pc lo (.ref a :: st) g iv idx = _; unfold pm_gf; simp only [hm, hf, if_true]; exact if_pos ha)
theorem at_gfC {c idx z a : Nat} (hd : decode (pm_mb mi) pc = .ok (.getfield idx, 3)) (hm : pm_mc mi = c) (hf : pm_lft.lookup (c, idx) = some (100, 1, z)) (ha : 1000 ≤ a ∧ a < 1008) : pm_at X d mi (pc, lo, .ref a :: st, g, iv) = pm_at X d mi (pc + 3, lo, .int 0 :: st, g, iv) :=
  pm_at_go (by rw [pm_nI hd (Or.inl rfl)]; show pm_gf mi pc lo (.ref a :: st) g iv idx = _; unfold pm_gf; simp only [hm, hf, if_true]; exact if_pos ha)
theorem at_pfI {c idx ci sl z a : Nat} {x : Int32} (hd : decode (pm_mb mi) pc = .ok (.putfield idx, 3)) (hm : pm_mc mi = c) (hf : pm_lft.lookup (c, idx) = some (ci, sl, z)) (ho : ci < 7 ∧ sl < pm_nf ci ∧ pm_ff ci sl = false ∧ pm_rf ci sl = false) (hk : g.1 a = some (ci, 0)) : pm_at X d mi (pc, lo, .int x :: .ref a :: st, g, iv) = pm_at X d mi (pc + 3, lo, st, g, (pm_iw iv a sl x)) :=
  pm_at_go (by rw [pm_nI hd (Or.inl rfl)]; show pm_pf mi pc lo (.int x :: .ref a :: st) g iv idx = _; unfold pm_pf; simp only [hm, hf]; unfold pm_ifn; rw [if_pos ⟨hk, ho.1, ho.2.1, Or.inl ho.2.2.1⟩, if_pos ho.2.2.2]; rfl)
theorem at_pfR {c idx ci sl z a t : Nat} (hd : decode (pm_mb mi) pc = .ok (.putfield idx, 3)) (hm : pm_mc mi = c) (hf : pm_lft.lookup (c, idx) = some (ci, sl, z)) (ho : ci < 7 ∧ sl < pm_nf ci ∧ pm_rf ci sl = true ∧ (pm_mk mi = 2 ∧ c = ci)) (hk : g.1 a = some (ci, 0)) : pm_at X d mi (pc, lo, .ref t :: .ref a :: st, g, iv) = pm_at X d mi (pc + 3, lo, st, (g.1, pm_rw g.2.1 a sl (some t), g.2.2), iv) :=
  pm_at_go (by rw [pm_nI hd (Or.inl rfl)]; show pm_pf mi pc lo (.ref t :: .ref a :: st) g iv idx = _; unfold pm_pf; simp only [hm, hf]; unfold pm_ifn; rw [if_pos ⟨hk, ho.1, ho.2.1, Or.inr ho.2.2.2⟩, if_pos ho.2.2.1]; rfl)
theorem at_gs0 {c idx z : Nat} (hd : decode (pm_mb mi) pc = .ok (.getstatic idx, 3)) (hm : pm_mc mi = c) (hf : pm_lst.lookup (c, idx) = some (0, z)) : pm_at X d mi (pc, lo, st, g, iv) = pm_at X d mi (pc + 3, lo, .ref 1200 :: st, g, iv) :=
  pm_at_go (by rw [pm_nI hd (Or.inl rfl)]; show pm_gs mi pc lo st g iv idx = _; unfold pm_gs; simp only [hm, hf]; rfl)
theorem at_gs1 {c idx z : Nat} (hd : decode (pm_mb mi) pc = .ok (.getstatic idx, 3)) (hm : pm_mc mi = c) (hf : pm_lst.lookup (c, idx) = some (1, z)) : pm_at X d mi (pc, lo, st, g, iv) = pm_at X d mi (pc + 3, lo, .ref 1201 :: st, g, iv) :=
  pm_at_go (by rw [pm_nI hd (Or.inl rfl)]; show pm_gs mi pc lo st g iv idx = _; unfold pm_gs; simp only [hm, hf]; rfl)
theorem at_gs2 {c idx z : Nat} (hd : decode (pm_mb mi) pc = .ok (.getstatic idx, 3)) (hm : pm_mc mi = c) (hf : pm_lst.lookup (c, idx) = some (2, z)) : pm_at X d mi (pc, lo, st, g, iv) = pm_at X d mi (pc + 3, lo, .ref 1202 :: st, g, iv) :=
  pm_at_go (by rw [pm_nI hd (Or.inl rfl)]; show pm_gs mi pc lo st g iv idx = _; unfold pm_gs; simp only [hm, hf]; rfl)
theorem at_gs3 {c idx z : Nat} (hd : decode (pm_mb mi) pc = .ok (.getstatic idx, 3)) (hm : pm_mc mi = c) (hf : pm_lst.lookup (c, idx) = some (3, z)) : pm_at X d mi (pc, lo, st, g, iv) = pm_at X d mi (pc + 3, lo, .int 1 :: st, g, iv) :=
  pm_at_go (by rw [pm_nI hd (Or.inl rfl)]; show pm_gs mi pc lo st g iv idx = _; unfold pm_gs; simp only [hm, hf]; rfl)
theorem at_gs4 {c idx z : Nat} (hd : decode (pm_mb mi) pc = .ok (.getstatic idx, 3)) (hm : pm_mc mi = c) (hf : pm_lst.lookup (c, idx) = some (4, z)) : pm_at X d mi (pc, lo, st, g, iv) = pm_at X d mi (pc + 3, lo, .retAddr 0 :: st, g, iv) :=
  pm_at_go (by rw [pm_nI hd (Or.inl rfl)]; show pm_gs mi pc lo st g iv idx = _; unfold pm_gs; simp only [hm, hf]; rfl)
theorem at_aln {a q n : Nat} {f : Nat → Int32} (hd : decode (pm_mb mi) pc = .ok (.arraylength, 1)) (ha : pm_ar X g iv a = some (q, n, f)) (hn : n < 2147483648) : pm_at X d mi (pc, lo, .ref a :: st, g, iv) = pm_at X d mi (pc + 1, lo, .int (Int32.ofNat n) :: st, g, iv) :=
  pm_at_go (by rw [pm_nI hd (Or.inl rfl)]; show pm_aln X pc lo (.ref a :: st) g iv = _; unfold pm_aln; simp only [ha]; exact if_pos hn)
theorem pm_arW {a q n : Nat} (h : g.1 a = some (q, n)) (hq : 8 ≤ q) : pm_ar X g iv a = some (q, n, iv a) := by
  unfold pm_ar
  simp only [h]
  rw [if_pos hq]
theorem at_iald {a n : Nat} {i : Int32} (hd : decode (pm_mb mi) pc = .ok (.iaload, 1)) (hk : g.1 a = some (8, n)) (hi : vp_in i n) : pm_at X d mi (pc, lo, .int i :: .ref a :: st, g, iv) = pm_at X d mi (pc + 1, lo, .int (iv a i.toNatClampNeg) :: st, g, iv) :=
  pm_at_go (by rw [pm_nI hd (Or.inl rfl)]; show pm_ald X pc lo (.int i :: .ref a :: st) g iv true = _; unfold pm_ald; simp only [pm_arW hk (by decide)]; exact if_pos ⟨by first | rfl | trivial | (simp; done), hi⟩)
theorem at_xald {a n : Nat} {i : Int32} {f : Nat → Int32} (hd : decode (pm_mb mi) pc = .ok (.iaload, 1)) (hk : pm_ar X g iv a = some (8, n, f)) (hi : vp_in i n) : pm_at X d mi (pc, lo, .int i :: .ref a :: st, g, iv) = pm_at X d mi (pc + 1, lo, .int (f i.toNatClampNeg) :: st, g, iv) :=
  pm_at_go (by rw [pm_nI hd (Or.inl rfl)]; show pm_ald X pc lo (.int i :: .ref a :: st) g iv true = _; unfold pm_ald; simp only [hk]; exact if_pos ⟨by first | rfl | trivial | (simp; done), hi⟩)
theorem at_bald {a q n : Nat} {i : Int32} (hd : decode (pm_mb mi) pc = .ok (.baload, 1)) (hk : g.1 a = some (q, n)) (hq : q = 9 ∨ q = 10) (hi : vp_in i n) : pm_at X d mi (pc, lo, .int i :: .ref a :: st, g, iv) = pm_at X d mi (pc + 1, lo, .int (iv a i.toNatClampNeg) :: st, g, iv) :=
  pm_at_go (by rw [pm_nI hd (Or.inl rfl)]; show pm_ald X pc lo (.int i :: .ref a :: st) g iv false = _; unfold pm_ald; simp only [pm_arW hk (by omega)]; exact if_pos ⟨hq, hi⟩)
theorem at_xbld {a n : Nat} {i : Int32} {f : Nat → Int32} (hd : decode (pm_mb mi) pc = .ok (.baload, 1)) (hk : pm_ar X g iv a = some (9, n, f)) (hi : vp_in i n) : pm_at X d mi (pc, lo, .int i :: .ref a :: st, g, iv) = pm_at X d mi (pc + 1, lo, .int (f i.toNatClampNeg) :: st, g, iv) :=
  pm_at_go (by rw [pm_nI hd (Or.inl rfl)]; show pm_ald X pc lo (.int i :: .ref a :: st) g iv false = _; unfold pm_ald; simp only [hk]; exact if_pos ⟨by first | exact Or.inl rfl | trivial | (simp; done), hi⟩)
theorem at_iast {a n : Nat} {i x : Int32} (hd : decode (pm_mb mi) pc = .ok (.iastore, 1)) (hk : g.1 a = some (8, n)) (hi : vp_in i n) : pm_at X d mi (pc, lo, .int x :: .int i :: .ref a :: st, g, iv) = pm_at X d mi (pc + 1, lo, st, g, (pm_iw iv a i.toNatClampNeg x)) :=
  pm_at_go (by rw [pm_nI hd (Or.inl rfl)]; show pm_ast pc lo (.int x :: .int i :: .ref a :: st) g iv true = _; unfold pm_ast; simp only [hk]; exact if_pos ⟨by first | rfl | trivial | (simp; done), hi⟩)
theorem at_bast {a n : Nat} {i x : Int32} (hd : decode (pm_mb mi) pc = .ok (.bastore, 1)) (hk : g.1 a = some (9, n)) (hi : vp_in i n) : pm_at X d mi (pc, lo, .int x :: .int i :: .ref a :: st, g, iv) = pm_at X d mi (pc + 1, lo, st, g, (pm_iw iv a i.toNatClampNeg (vp_nar .byte x))) :=
  pm_at_go (by rw [pm_nI hd (Or.inl rfl)]; show pm_ast pc lo (.int x :: .int i :: .ref a :: st) g iv false = _; unfold pm_ast; simp only [hk]; exact if_pos ⟨by first | exact Or.inl rfl | trivial | (simp; done), hi⟩)
theorem at_zast {a n : Nat} {i x : Int32} (hd : decode (pm_mb mi) pc = .ok (.bastore, 1)) (hk : g.1 a = some (10, n)) (hi : vp_in i n) : pm_at X d mi (pc, lo, .int x :: .int i :: .ref a :: st, g, iv) = pm_at X d mi (pc + 1, lo, st, g, (pm_iw iv a i.toNatClampNeg (vp_nar .boolean x))) :=
  pm_at_go (by rw [pm_nI hd (Or.inl rfl)]; show pm_ast pc lo (.int x :: .int i :: .ref a :: st) g iv false = _; unfold pm_ast; simp only [hk]; exact if_pos ⟨by first | exact Or.inr rfl | trivial | (simp; done), hi⟩)
theorem at_aald {a n : Nat} {i : Int32} (hd : decode (pm_mb mi) pc = .ok (.aaload, 1)) (hk : g.1 a = some (11, n)) (hi : vp_in i n) : pm_at X d mi (pc, lo, .int i :: .ref a :: st, g, iv) = pm_at X d mi (pc + 1, lo, va_rf (g.2.1 a i.toNatClampNeg) :: st, g, iv) :=
  pm_at_go (by rw [pm_nI hd (Or.inl rfl)]; show pm_aal pc lo (.int i :: .ref a :: st) g iv = _; unfold pm_aal; simp only [hk]; exact if_pos ⟨by first | rfl | trivial | (simp; done), hi⟩)
theorem at_aast {a n t : Nat} {i : Int32} (hd : decode (pm_mb mi) pc = .ok (.aastore, 1)) (hk : g.1 a = some (11, n)) (ht : g.1 t = some (3, 0)) (hi : vp_in i n) : pm_at X d mi (pc, lo, .ref t :: .int i :: .ref a :: st, g, iv) = pm_at X d mi (pc + 1, lo, st, (g.1, pm_rw g.2.1 a i.toNatClampNeg (some t), g.2.2), iv) :=
  pm_at_go (by rw [pm_nI hd (Or.inl rfl)]; show pm_aas pc lo (.ref t :: .int i :: .ref a :: st) g iv = _; unfold pm_aas; simp only [hk]; exact if_pos ⟨by first | rfl | trivial | (simp; done), ht, hi⟩)
theorem at_new {c idx ci z : Nat} (hd : decode (pm_mb mi) pc = .ok (.new idx, 3)) (hm : pm_mc mi = c) (hf : pm_lct.lookup (c, idx) = some (ci, z)) (hn : g.1 g.2.2.1 = none ∧ g.2.2.1 < 1000) : pm_at X d mi (pc, lo, st, g, iv) = pm_at X d mi (pc + 3, lo, .ref g.2.2.1 :: st, (pm_nc g ci 0 (pm_nf ci)), (pm_ir iv g.2.2.1 (fun _ => 0))) :=
  pm_at_go (by rw [pm_nI hd (Or.inl rfl)]; show pm_new mi pc lo st g iv idx = _; unfold pm_new; simp only [hm, hf]; exact if_pos hn)
theorem at_nwa {t : ArrayType} {n : Int32} {q k : Nat} (hd : decode (pm_mb mi) pc = .ok (.newarray t, 2)) (hq : pm_aq t = q) (h8 : 8 ≤ q) (h0 : ¬ n < 0) (hk : n.toNatClampNeg = k) (hk2 : k ≤ 1000000) (hn : g.1 g.2.2.1 = none ∧ g.2.2.1 < 1000) : pm_at X d mi (pc, lo, .int n :: st, g, iv) = pm_at X d mi (pc + 2, lo, .ref g.2.2.1 :: st, (pm_nc g q k k), (pm_ir iv g.2.2.1 (fun _ => 0))) :=
  pm_at_go (by rw [pm_nI hd (Or.inl rfl)]; subst hq; subst hk; exact if_pos ⟨hn.1, hn.2, h8, h0, hk2⟩)
theorem at_ana {c idx z : Nat} {n : Int32} {k : Nat} (hd : decode (pm_mb mi) pc = .ok (.anewarray idx, 3)) (hm : pm_mc mi = c) (hf : pm_lct.lookup (c, idx) = some (3, z)) (h0 : ¬ n < 0) (hk : n.toNatClampNeg = k) (hk2 : k ≤ 1000000) (hn : g.1 g.2.2.1 = none ∧ g.2.2.1 < 1000) : pm_at X d mi (pc, lo, .int n :: st, g, iv) = pm_at X d mi (pc + 3, lo, .ref g.2.2.1 :: st, (pm_nc g 11 k k), (pm_ir iv g.2.2.1 (fun _ => 0))) :=
  pm_at_go (by rw [pm_nI hd (Or.inl rfl)]; subst hk; show pm_ana mi pc lo (.int n :: st) g iv idx = _; unfold pm_ana; simp only [hm, hf]; exact if_pos ⟨by first | rfl | trivial | (simp; done), hn.1, hn.2, h0, hk2⟩)
theorem at_ldc {c idx z : Nat} {v : Int32} (hd : decode (pm_mb mi) pc = .ok (.ldc idx, 2)) (hm : pm_mc mi = c) (hf : pm_lkt.lookup (c, idx) = some (v, z)) : pm_at X d mi (pc, lo, st, g, iv) = pm_at X d mi (pc + 2, lo, .int v :: st, g, iv) :=
  pm_at_go (by rw [pm_nI hd (Or.inl rfl)]; show (match pm_lkt.lookup (pm_mc mi, idx) with | some _ => pm_kI mi pc lo st g iv 2 idx | none => pm_kS mi pc lo st g iv idx) = _; unfold pm_kI; simp only [hm, hf]; rfl)
theorem at_ldcw {c idx z : Nat} {v : Int32} (hd : decode (pm_mb mi) pc = .ok (.ldc_w idx, 3)) (hm : pm_mc mi = c) (hf : pm_lkt.lookup (c, idx) = some (v, z)) : pm_at X d mi (pc, lo, st, g, iv) = pm_at X d mi (pc + 3, lo, .int v :: st, g, iv) :=
  pm_at_go (by rw [pm_nI hd (Or.inl rfl)]; show pm_kI mi pc lo st g iv 3 idx = _; unfold pm_kI; simp only [hm, hf]; rfl)
theorem at_ldcS {c idx k : Nat} (hd : decode (pm_mb mi) pc = .ok (.ldc idx, 2)) (hm : pm_mc mi = c) (hf0 : pm_lkt.lookup (c, idx) = none) (hf : pm_ltt.lookup (c, idx) = some k) : pm_at X d mi (pc, lo, st, g, iv) = pm_at X d mi (pc + 2, lo, .ref (1000 + k) :: st, g, iv) :=
  pm_at_go (by rw [pm_nI hd (Or.inl rfl)]; show (match pm_lkt.lookup (pm_mc mi, idx) with | some _ => pm_kI mi pc lo st g iv 2 idx | none => pm_kS mi pc lo st g iv idx) = _; unfold pm_kS; simp only [hm, hf0, hf]; rfl)
theorem at_ldc2 {c idx z : Nat} {v : Int64} (hd : decode (pm_mb mi) pc = .ok (.ldc2_w idx, 3)) (hm : pm_mc mi = c) (hf : pm_llt.lookup (c, idx) = some (v, z)) : pm_at X d mi (pc, lo, st, g, iv) = pm_at X d mi (pc + 3, lo, .long v :: st, g, iv) :=
  pm_at_go (by rw [pm_nI hd (Or.inl rfl)]; show pm_kL mi pc lo st g iv idx = _; unfold pm_kL; simp only [hm, hf]; rfl)
theorem at_objI {c idx t n z a : Nat} (hd : decode (pm_mb mi) pc = .ok (.invokespecial idx, 3)) (hm : pm_mc mi = c) (hf : pm_lmt.lookup (c, idx) = some (5, t, n, z)) (hs : pm_cs st ≤ 8) : pm_at X d mi (pc, lo, .ref a :: st, g, iv) = pm_at X d mi (pc + 3, lo, st, g, iv) :=
  pm_at_go (by rw [pm_nI hd (Or.inl rfl)]; show pm_isp _ mi pc lo (.ref a :: st) g iv idx = _; unfold pm_isp; simp only [hm, hf]; exact if_pos hs)
theorem at_acpy {c idx t n z a a0 n0 n1 : Nat} {k dp sp : Int32} (hd : decode (pm_mb mi) pc = .ok (.invokestatic idx, 3)) (hm : pm_mc mi = c) (hf : pm_lmt.lookup (c, idx) = some (6, t, n, z)) (hs : pm_cs st ≤ 8) (h0 : g.1 a0 = some (8, n0)) (h1 : g.1 a = some (8, n1)) (hc : ¬ sp < 0 ∧ ¬ dp < 0 ∧ ¬ k < 0 ∧ sp.toNatClampNeg + k.toNatClampNeg ≤ n0 ∧ dp.toNatClampNeg + k.toNatClampNeg ≤ n1) : pm_at X d mi (pc, lo, .int k :: .int dp :: .ref a :: .int sp :: .ref a0 :: st, g, iv) = pm_at X d mi (pc + 3, lo, st, g, (pm_ir iv a (va_cpy (iv a0) (iv a) sp.toNatClampNeg dp.toNatClampNeg k.toNatClampNeg))) :=
  pm_at_go (by rw [pm_nI hd (Or.inl rfl)]; show pm_ins _ mi pc lo (.int k :: .int dp :: .ref a :: .int sp :: .ref a0 :: st) g iv idx = _; unfold pm_ins; simp only [hm, hf, h0, h1]; exact if_pos ⟨hs, by first | rfl | trivial | (simp; done), by first | rfl | trivial | (simp; done), hc⟩)
theorem at_mmin {c idx t n z : Nat} {x y : Int32} (hd : decode (pm_mb mi) pc = .ok (.invokestatic idx, 3)) (hm : pm_mc mi = c) (hf : pm_lmt.lookup (c, idx) = some (7, t, n, z)) (hs : pm_cs st ≤ 8) : pm_at X d mi (pc, lo, .int y :: .int x :: st, g, iv) = pm_at X d mi (pc + 3, lo, .int (if y < x then y else x) :: st, g, iv) :=
  pm_at_go (by rw [pm_nI hd (Or.inl rfl)]; show pm_ins _ mi pc lo (.int y :: .int x :: st) g iv idx = _; unfold pm_ins; simp only [hm, hf]; exact if_pos hs)
theorem at_mabs {c idx t n z : Nat} {x : Int32} (hd : decode (pm_mb mi) pc = .ok (.invokestatic idx, 3)) (hm : pm_mc mi = c) (hf : pm_lmt.lookup (c, idx) = some (8, t, n, z)) (hs : pm_cs st ≤ 8) : pm_at X d mi (pc, lo, .int x :: st, g, iv) = pm_at X d mi (pc + 3, lo, .int (if 0 ≤ x then x else 0 - x) :: st, g, iv) :=
  pm_at_go (by rw [pm_nI hd (Or.inl rfl)]; show pm_ins _ mi pc lo (.int x :: st) g iv idx = _; unfold pm_ins; simp only [hm, hf]; exact if_pos hs)
theorem at_bk {r : List Value} {q : Option pm_R} (h : pm_n X (pm_c X d) mi (pc, lo, st, g, iv) = pm_bk pc lo r q) : pm_at X d mi (pc, lo, st, g, iv) = pm_then X d mi (pc + 3) lo r q := by
  cases q with
  | none => exact pm_at_none h
  | some v =>
    obtain ⟨v, g', iv'⟩ := v
    exact pm_at_go h
theorem at_inv {c idx t n z b : Nat} {r as : List Value} (hd : decode (pm_mb mi) pc = .ok (.invokevirtual idx, 3)) (hm : pm_mc mi = c) (hf : pm_lmt.lookup (c, idx) = some (0, t, n, z)) (hr : st.drop n = .ref b :: r) (ha : (st.take n).reverse = as) (hs : pm_cs r ≤ 8) (hk : (g.1 b = some (pm_mc t, 0) ∧ pm_mc t < 7) ∨ (pm_mc t = 10 ∧ 1000 ≤ b ∧ b < 1008)) : pm_at X d mi (pc, lo, st, g, iv) = pm_then X d mi (pc + 3) lo r (pm_c X d t (.ref b :: as) g iv) :=
  at_bk (by rw [pm_nI hd (Or.inl rfl)]; show pm_inv _ mi pc lo st g iv idx = _; unfold pm_inv; simp only [hm, hf, hr, ha]; exact if_pos ⟨hs, hk⟩)
theorem at_ins {c idx t n z : Nat} {r as : List Value} (hd : decode (pm_mb mi) pc = .ok (.invokestatic idx, 3)) (hm : pm_mc mi = c) (hf : pm_lmt.lookup (c, idx) = some (1, t, n, z)) (hn : n ≤ st.length) (hr : st.drop n = r) (ha : (st.take n).reverse = as) (hs : pm_cs r ≤ 8) : pm_at X d mi (pc, lo, st, g, iv) = pm_then X d mi (pc + 3) lo r (pm_c X d t as g iv) :=
  at_bk (by rw [pm_nI hd (Or.inl rfl)]; show pm_ins _ mi pc lo st g iv idx = _; unfold pm_ins; simp only [hm, hf, hr, ha]; exact if_pos ⟨hn, hs⟩)
theorem at_insN {c idx t n z : Nat} {r as : List Value} (hd : decode (pm_mb mi) pc = .ok (.invokestatic idx, 3)) (hm : pm_mc mi = c) (hf : pm_lmt.lookup (c, idx) = some (3, t, n, z)) (hn : n ≤ st.length) (hr : st.drop n = r) (ha : (st.take n).reverse = as) (hs : pm_cs r ≤ 8) : pm_at X d mi (pc, lo, st, g, iv) = pm_then X d mi (pc + 3) lo r (pm_c X d t as g iv) :=
  at_bk (by rw [pm_nI hd (Or.inl rfl)]; show pm_ins _ mi pc lo st g iv idx = _; unfold pm_ins; simp only [hm, hf, hr, ha]; exact if_pos ⟨hn, hs⟩)
theorem at_isp {c idx t n z b : Nat} {r as : List Value} (hd : decode (pm_mb mi) pc = .ok (.invokespecial idx, 3)) (hm : pm_mc mi = c) (hf : pm_lmt.lookup (c, idx) = some (2, t, n, z)) (hr : st.drop n = .ref b :: r) (ha : (st.take n).reverse = as) (hs : pm_cs r ≤ 8) : pm_at X d mi (pc, lo, st, g, iv) = pm_then X d mi (pc + 3) lo r (pm_c X d t (.ref b :: as) g iv) :=
  at_bk (by rw [pm_nI hd (Or.inl rfl)]; show pm_isp _ mi pc lo st g iv idx = _; unfold pm_isp; simp only [hm, hf, hr, ha]; exact if_pos hs)
theorem at_ispN {c idx t n z b : Nat} {r as : List Value} (hd : decode (pm_mb mi) pc = .ok (.invokespecial idx, 3)) (hm : pm_mc mi = c) (hf : pm_lmt.lookup (c, idx) = some (4, t, n, z)) (hr : st.drop n = .ref b :: r) (ha : (st.take n).reverse = as) (hs : pm_cs r ≤ 8) : pm_at X d mi (pc, lo, st, g, iv) = pm_then X d mi (pc + 3) lo r (pm_c X d t (.ref b :: as) g iv) :=
  at_bk (by rw [pm_nI hd (Or.inl rfl)]; show pm_isp _ mi pc lo st g iv idx = _; unfold pm_isp; simp only [hm, hf, hr, ha]; exact if_pos hs)
theorem at_iret {x : Int32} (hd : decode (pm_mb mi) pc = .ok (.ireturn, 1)) (hr : pm_mr mi = some .int) : pm_at X d mi (pc, lo, [.int x], g, iv) = some (some (.int x), g, iv) :=
  pm_at_end (by rw [pm_nI hd (Or.inl rfl)]; show pm_ri mi [.int x] g iv = _; unfold pm_ri; simp only [hr]; exact if_pos rfl)
/-- a truth that comes back is 0 or 1 -/
def pm_zr (x : Int32) (q : Option pm_R) : Option pm_R := if x = 0 ∨ x = 1 then q else none
theorem pm_zr0 {q : Option pm_R} : pm_zr 0 q = q := rfl
theorem pm_zr1 {q : Option pm_R} : pm_zr 1 q = q := rfl
theorem pm_zrI {c : Prop} [Decidable c] {q : Option pm_R} : pm_zr (if c then 1 else 0) q = q := by
  by_cases h : c
  · rw [if_pos h]; rfl
  · rw [if_neg h]; rfl
theorem at_zret {x : Int32} (hd : decode (pm_mb mi) pc = .ok (.ireturn, 1)) (hr : pm_mr mi = some .boolean) (hx : x = 0 ∨ x = 1) : pm_at X d mi (pc, lo, [.int x], g, iv) = some (some (.int x), g, iv) :=
  pm_at_end (by rw [pm_nI hd (Or.inl rfl)]; show pm_ri mi [.int x] g iv = _; unfold pm_ri; simp only [hr]; exact if_pos (by rcases hx with rfl | rfl <;> rfl))
theorem at_tret {x : Int32} {ty : FieldType} (hd : decode (pm_mb mi) pc = .ok (.ireturn, 1)) (hr : pm_mr mi = some ty) (hx : narrow ty (.int x) = .int x) : pm_at X d mi (pc, lo, [.int x], g, iv) = some (some (.int x), g, iv) :=
  pm_at_end (by rw [pm_nI hd (Or.inl rfl)]; show pm_ri mi [.int x] g iv = _; unfold pm_ri; simp only [hr]; exact if_pos hx)
theorem at_lret {x : Int64} (hd : decode (pm_mb mi) pc = .ok (.lreturn, 1)) (hr : pm_mr mi = some .long) : pm_at X d mi (pc, lo, [.long x], g, iv) = some (some (.long x), g, iv) :=
  pm_at_end (by rw [pm_nI hd (Or.inl rfl)]; show pm_rl mi [.long x] g iv = _; unfold pm_rl; exact if_pos hr)
theorem at_vret (hd : decode (pm_mb mi) pc = .ok (.return_, 1)) (hr : pm_mr mi = none) : pm_at X d mi (pc, lo, [], g, iv) = some (none, g, iv) :=
  pm_at_end (by rw [pm_nI hd (Or.inl rfl)]; show pm_rv mi [] g iv = _; unfold pm_rv; exact if_pos hr)
end AT
