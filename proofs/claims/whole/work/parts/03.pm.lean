/-! THE SMALL MACHINE. Cells have numbers; what a cell is stands in g.1 (class, or 8 ints, 9 bytes, 10 booleans, 11 references; length), its references in g.2.1, its numbers in iv. -/
abbrev pm_G : Type := (Nat → Option (Nat × Nat)) × (Nat → Nat → Option Nat) × Nat × Nat × Nat
abbrev pm_V : Type := Nat → Nat → Int32
abbrev pm_S : Type := Nat × List (Option Value) × List Value × pm_G × pm_V
abbrev pm_R : Type := Option Value × pm_G × pm_V
abbrev pm_X : Type := Nat × (Nat → Int32)
abbrev pm_O : Type := Option (pm_S ⊕ pm_R)
abbrev pm_C : Type := Nat → List Value → pm_G → pm_V → Option pm_R
def pm_go (pc : Nat) (lo : List (Option Value)) (st : List Value) (g : pm_G) (iv : pm_V) : pm_O := some (.inl (pc, lo, st, g, iv))
def pm_ifn (c : Prop) [Decidable c] (x : pm_O) : pm_O := if c then x else none
/-- a number is put into a cell -/
def pm_iw (iv : pm_V) (a i : Nat) (x : Int32) : pm_V := fun k => if k = a then upd (iv a) i x else iv k
/-- a cell's numbers are all put anew -/
def pm_ir (iv : pm_V) (a : Nat) (f : Nat → Int32) : pm_V := fun k => if k = a then f else iv k
def pm_rw (r : Nat → Nat → Option Nat) (a i : Nat) (x : Option Nat) : Nat → Nat → Option Nat := fun k => if k = a then va_up (r a) i x else r k
/-- an array that nobody writes -/
def pm_xs (a : Nat) : Option (Nat × Nat × (Nat → Int32)) := match pm_sb[a - 1100]? with
  | some t => if 1100 ≤ a then some (9, t.length, fun j => t.getD j 0) else none
  | none => none
def pm_xa (X : pm_X) (a : Nat) : Option (Nat × Nat × (Nat → Int32)) :=
  if a = 1300 then some (8, X.1, X.2)
  else match pm_tb[a - 1200]? with
    | some t => if 1200 ≤ a then some (8, t.2.length, fun j => t.2.getD j 0) else pm_xs a
    | none => pm_xs a
def pm_ar (X : pm_X) (g : pm_G) (iv : pm_V) (a : Nat) : Option (Nat × Nat × (Nat → Int32)) := match g.1 a with
  | some (q, n) => if 8 ≤ q then some (q, n, iv a) else none
  | none => if 1000 ≤ a then pm_xa X a else none
/-- what an object's field holds -/
def pm_ov (g : pm_G) (iv : pm_V) (ci a sl : Nat) : Value := if pm_rf ci sl = true then va_rf (g.2.1 a sl) else .int (iv a sl)
def pm_cs (st : List Value) : Nat := (st.map fun v => v.category).sum
def pm_c2 (lo : List (Option Value)) (i : Nat) : Bool := match lo[i]? with
  | some (some v) => v.category == 2
  | _ => false
/-- a local of one word -/
def pm_s1 (lo : List (Option Value)) (i : Nat) (v : Value) : Option (List (Option Value)) := if i < lo.length ∧ (i = 0 ∨ pm_c2 lo (i - 1) = false) then some (lo.set i (some v)) else none
/-- a local of two words -/
def pm_s2 (lo : List (Option Value)) (i : Nat) (v : Value) : Option (List (Option Value)) := if i + 1 < lo.length ∧ (i = 0 ∨ pm_c2 lo (i - 1) = false) ∧ pm_c2 lo (i + 1) = false then some ((lo.set i (some v)).set (i + 1) none) else none
def pm_ea : List Value → List (Option Value)
  | [] => []
  | v :: r => if v.category = 2 then some v :: none :: pm_ea r else some v :: pm_ea r
def pm_en (args : List Value) (n : Nat) : List (Option Value) := pm_ea args ++ List.replicate (n - (pm_ea args).length) none
section PMI
variable (X : pm_X) (cal : pm_C) (mi pc : Nat) (lo : List (Option Value)) (st : List Value) (g : pm_G) (iv : pm_V)
def pm_psh (n : Nat) (v : Value) : pm_O := pm_go (pc + n) lo (v :: st) g iv
def pm_ldI (n i : Nat) : pm_O := match lo[i]? with
  | some (some (.int x)) => pm_go (pc + n) lo (.int x :: st) g iv
  | _ => none
def pm_ldL (n i : Nat) : pm_O := match lo[i]? with
  | some (some (.long x)) => pm_go (pc + n) lo (.long x :: st) g iv
  | _ => none
def pm_ldA (n i : Nat) : pm_O := match lo[i]? with
  | some (some (.ref x)) => pm_go (pc + n) lo (.ref x :: st) g iv
  | some (some .null) => pm_go (pc + n) lo (.null :: st) g iv
  | some (some (.retAddr x)) => pm_go (pc + n) lo (.retAddr x :: st) g iv
  | _ => none
def pm_stI (n i : Nat) : pm_O := match st with
  | .int x :: r => match pm_s1 lo i (.int x) with
    | some lo' => pm_go (pc + n) lo' r g iv
    | none => none
  | _ => none
def pm_stA (n i : Nat) : pm_O := match st with
  | .ref x :: r => match pm_s1 lo i (.ref x) with
    | some lo' => pm_go (pc + n) lo' r g iv
    | none => none
  | .null :: r => match pm_s1 lo i .null with
    | some lo' => pm_go (pc + n) lo' r g iv
    | none => none
  | _ => none
def pm_stL (n i : Nat) : pm_O := match st with
  | .long x :: r => match pm_s2 lo i (.long x) with
    | some lo' => pm_go (pc + n) lo' r g iv
    | none => none
  | _ => none
def pm_i1 (f : Int32 → Int32) : pm_O := match st with
  | .int x :: r => pm_go (pc + 1) lo (.int (f x) :: r) g iv
  | _ => none
def pm_i2 (f : Int32 → Int32 → Int32) : pm_O := match st with
  | .int y :: .int x :: r => pm_go (pc + 1) lo (.int (f x y) :: r) g iv
  | _ => none
def pm_d2 (f : Int32 → Int32 → Int32) : pm_O := match st with
  | .int y :: .int x :: r => pm_ifn (y ≠ 0) (pm_go (pc + 1) lo (.int (f x y) :: r) g iv)
  | _ => none
def pm_l2 (f : Int64 → Int64 → Int64) : pm_O := match st with
  | .long y :: .long x :: r => pm_go (pc + 1) lo (.long (f x y) :: r) g iv
  | _ => none
def pm_ls2 (f : Int64 → Int32 → Int64) : pm_O := match st with
  | .int y :: .long x :: r => pm_go (pc + 1) lo (.long (f x y) :: r) g iv
  | _ => none
def pm_lc : pm_O := match st with
  | .long y :: .long x :: r => pm_go (pc + 1) lo (.int (lg_cmp x y) :: r) g iv
  | _ => none
def pm_il (f : Int32 → Int64) : pm_O := match st with
  | .int x :: r => pm_go (pc + 1) lo (.long (f x) :: r) g iv
  | _ => none
def pm_li (f : Int64 → Int32) : pm_O := match st with
  | .long x :: r => pm_go (pc + 1) lo (.int (f x) :: r) g iv
  | _ => none
def pm_jmp (off : Int) (r : List Value) : pm_O := pm_ifn (0 ≤ (pc : Int) + off) (pm_go ((pc : Int) + off).toNat lo r g iv)
def pm_br1 (c : Int32 → Bool) (off : Int) : pm_O := match st with
  | .int x :: r => pm_ifn (0 ≤ (pc : Int) + off) (if c x = true then pm_go ((pc : Int) + off).toNat lo r g iv else pm_go (pc + 3) lo r g iv)
  | _ => none
def pm_br2 (c : Int32 → Int32 → Bool) (off : Int) : pm_O := match st with
  | .int y :: .int x :: r => pm_ifn (0 ≤ (pc : Int) + off) (if c x y = true then pm_go ((pc : Int) + off).toNat lo r g iv else pm_go (pc + 3) lo r g iv)
  | _ => none
def pm_cd1 (c : ClassFile.Cond) (x : Int32) : Bool := match c with
  | .eq => decide (x = 0) | .ne => decide (¬ x = 0) | .lt => decide (x < 0) | .ge => decide (0 ≤ x) | .gt => decide (0 < x) | .le => decide (x ≤ 0)
def pm_cd2 (c : ClassFile.Cond) (x y : Int32) : Bool := match c with
  | .eq => decide (x = y) | .ne => decide (¬ x = y) | .lt => decide (x < y) | .ge => decide (y ≤ x) | .gt => decide (y < x) | .le => decide (x ≤ y)
def pm_nn (off : Int) : pm_O := match st with
  | .ref _ :: r => pm_jmp pc lo g iv off r
  | .null :: r => pm_go (pc + 3) lo r g iv
  | _ => none
def pm_tsw (d l h : Int) (offs : Array Int) : pm_O := match st with
  | .int x :: r => if x.toInt < l ∨ h < x.toInt then pm_jmp pc lo g iv d r else match offs[(x.toInt - l).toNat]? with
    | some o => pm_jmp pc lo g iv o r
    | none => none
  | _ => none
def pm_lsw (d : Int) (ps : Array (Int × Int)) : pm_O := match st with
  | .int x :: r => pm_ifn ((ps.toList.zip (ps.toList.drop 1)).all (fun (a, next) => a.1 < next.1) = true) (pm_jmp pc lo g iv (Op.lookupswitch.offset ps.toList d x.toInt) r)
  | _ => none
def pm_inc (i : Nat) (n : Int) : pm_O := match lo[i]? with
  | some (some (.int x)) => match pm_s1 lo i (.int (x + Int32.ofInt n)) with
    | some lo' => pm_go (pc + 3) lo' st g iv
    | none => none
  | _ => none
def pm_gf (idx : Nat) : pm_O := match st with
  | .ref a :: r => match pm_lft.lookup (pm_mc mi, idx) with
    | some (ci, sl, _) => if ci = 100 then pm_ifn (1000 ≤ a ∧ a < 1008) (pm_go (pc + 3) lo ((if sl = 0 then .ref (a + 100) else .int 0) :: r) g iv)
      else pm_ifn (g.1 a = some (ci, 0) ∧ ci < 7 ∧ sl < pm_nf ci) (pm_go (pc + 3) lo (pm_ov g iv ci a sl :: r) g iv)
    | none => none
  | _ => none
def pm_pf (idx : Nat) : pm_O := match st with
  | v :: .ref a :: r => match pm_lft.lookup (pm_mc mi, idx) with
    | some (ci, sl, _) => pm_ifn (g.1 a = some (ci, 0) ∧ ci < 7 ∧ sl < pm_nf ci ∧ (pm_ff ci sl = false ∨ (pm_mk mi = 2 ∧ pm_mc mi = ci))) (match v with
      | .int x => pm_ifn (pm_rf ci sl = false) (pm_go (pc + 3) lo r g (pm_iw iv a sl x))
      | .ref t => pm_ifn (pm_rf ci sl = true) (pm_go (pc + 3) lo r (g.1, pm_rw g.2.1 a sl (some t), g.2.2) iv)
      | _ => none)
    | none => none
  | _ => none
def pm_gs (idx : Nat) : pm_O := match pm_lst.lookup (pm_mc mi, idx) with
  | some (k, _) => pm_go (pc + 3) lo ((if k < 3 then .ref (1200 + k) else if k = 3 then .int 1 else .retAddr 0) :: st) g iv
  | none => none
def pm_aln : pm_O := match st with
  | .ref a :: r => match pm_ar X g iv a with
    | some (q, n, _) => pm_ifn (n < 2147483648) (pm_go (pc + 1) lo (.int (Int32.ofNat n) :: r) g iv)
    | none => none
  | _ => none
def pm_ald (b : Bool) : pm_O := match st with
  | .int i :: .ref a :: r => match pm_ar X g iv a with
    | some (q, n, f) => pm_ifn ((if b then q = 8 else q = 9 ∨ q = 10) ∧ ¬ (i < 0 ∨ n ≤ i.toNatClampNeg)) (pm_go (pc + 1) lo (.int (f i.toNatClampNeg) :: r) g iv)
    | none => none
  | _ => none
def pm_ast (b : Bool) : pm_O := match st with
  | .int x :: .int i :: .ref a :: r => match g.1 a with
    | some (q, n) => pm_ifn ((if b then q = 8 else q = 9 ∨ q = 10) ∧ ¬ (i < 0 ∨ n ≤ i.toNatClampNeg)) (pm_go (pc + 1) lo r g (pm_iw iv a i.toNatClampNeg (if q = 8 then x else if q = 9 then vp_nar .byte x else vp_nar .boolean x)))
    | none => none
  | _ => none
def pm_aal : pm_O := match st with
  | .int i :: .ref a :: r => match g.1 a with
    | some (q, n) => pm_ifn (q = 11 ∧ ¬ (i < 0 ∨ n ≤ i.toNatClampNeg)) (pm_go (pc + 1) lo (va_rf (g.2.1 a i.toNatClampNeg) :: r) g iv)
    | none => none
  | _ => none
def pm_aas : pm_O := match st with
  | .ref t :: .int i :: .ref a :: r => match g.1 a with
    | some (q, n) => pm_ifn (q = 11 ∧ g.1 t = some (3, 0) ∧ ¬ (i < 0 ∨ n ≤ i.toNatClampNeg)) (pm_go (pc + 1) lo r (g.1, pm_rw g.2.1 a i.toNatClampNeg (some t), g.2.2) iv)
    | none => none
  | _ => none
/-- a new cell: the next number -/
def pm_nc (q n k : Nat) : pm_G := ((fun j => if j = g.2.2.1 then some (q, n) else g.1 j), (fun j => if j = g.2.2.1 then fun _ => none else g.2.1 j), g.2.2.1 + 1, g.2.2.2.1 + 1, g.2.2.2.2 + k)
def pm_new (idx : Nat) : pm_O := match pm_lct.lookup (pm_mc mi, idx) with
  | some (ci, _) => pm_ifn (g.1 g.2.2.1 = none ∧ g.2.2.1 < 1000) (pm_go (pc + 3) lo (.ref g.2.2.1 :: st) (pm_nc g ci 0 (pm_nf ci)) (pm_ir iv g.2.2.1 (fun _ => 0)))
  | none => none
def pm_aq (t : ArrayType) : Nat := match t with
  | .int => 8 | .byte => 9 | .boolean => 10 | _ => 0
def pm_nwa (t : ArrayType) : pm_O := match st with
  | .int n :: r => pm_ifn (g.1 g.2.2.1 = none ∧ g.2.2.1 < 1000 ∧ 8 ≤ pm_aq t ∧ ¬ n < 0 ∧ n.toNatClampNeg ≤ 1000000) (pm_go (pc + 2) lo (.ref g.2.2.1 :: r) (pm_nc g (pm_aq t) n.toNatClampNeg n.toNatClampNeg) (pm_ir iv g.2.2.1 (fun _ => 0)))
  | _ => none
def pm_ana (idx : Nat) : pm_O := match st with
  | .int n :: r => match pm_lct.lookup (pm_mc mi, idx) with
    | some (ci, _) => pm_ifn (ci = 3 ∧ g.1 g.2.2.1 = none ∧ g.2.2.1 < 1000 ∧ ¬ n < 0 ∧ n.toNatClampNeg ≤ 1000000) (pm_go (pc + 3) lo (.ref g.2.2.1 :: r) (pm_nc g 11 n.toNatClampNeg n.toNatClampNeg) (pm_ir iv g.2.2.1 (fun _ => 0)))
    | none => none
  | _ => none
def pm_kI (n idx : Nat) : pm_O := match pm_lkt.lookup (pm_mc mi, idx) with
  | some (v, _) => pm_go (pc + n) lo (.int v :: st) g iv
  | none => none
def pm_kL (idx : Nat) : pm_O := match pm_llt.lookup (pm_mc mi, idx) with
  | some (v, _) => pm_go (pc + 3) lo (.long v :: st) g iv
  | none => none
def pm_kS (idx : Nat) : pm_O := match pm_ltt.lookup (pm_mc mi, idx) with
  | some i => pm_go (pc + 2) lo (.ref (1000 + i) :: st) g iv
  | none => none
/-- behind a call -/
def pm_bk (r : List Value) (q : Option pm_R) : pm_O := match q with
  | some (v, g', iv') => pm_go (pc + 3) lo (v.toList ++ r) g' iv'
  | none => none
/-- is the cell of the class of this method? -/
def pm_rc (t b : Nat) : Prop := (g.1 b = some (pm_mc t, 0) ∧ pm_mc t < 7) ∨ (pm_mc t = 10 ∧ 1000 ≤ b ∧ b < 1008)
def pm_inv (idx : Nat) : pm_O := match pm_lmt.lookup (pm_mc mi, idx) with
  | some (0, t, n, _) => match st.drop n with
    | .ref b :: r => pm_ifn (pm_cs r ≤ 8 ∧ ((g.1 b = some (pm_mc t, 0) ∧ pm_mc t < 7) ∨ (pm_mc t = 10 ∧ 1000 ≤ b ∧ b < 1008))) (pm_bk pc lo r (cal t (.ref b :: (st.take n).reverse) g iv))
    | _ => none
  | _ => none
def pm_ins (idx : Nat) : pm_O := match pm_lmt.lookup (pm_mc mi, idx) with
  | some (1, t, n, _) => pm_ifn (n ≤ st.length ∧ pm_cs (st.drop n) ≤ 8) (pm_bk pc lo (st.drop n) (cal t (st.take n).reverse g iv))
  | some (3, t, n, _) => pm_ifn (n ≤ st.length ∧ pm_cs (st.drop n) ≤ 8) (pm_bk pc lo (st.drop n) (cal t (st.take n).reverse g iv))
  | some (6, _, _, _) => match st with
    | .int n :: .int dp :: .ref a :: .int sp :: .ref a0 :: r => match g.1 a0, g.1 a with
      | some (q0, n0), some (q1, n1) => pm_ifn (pm_cs r ≤ 8 ∧ q0 = 8 ∧ q1 = 8 ∧ ¬ sp < 0 ∧ ¬ dp < 0 ∧ ¬ n < 0 ∧ sp.toNatClampNeg + n.toNatClampNeg ≤ n0 ∧ dp.toNatClampNeg + n.toNatClampNeg ≤ n1) (pm_go (pc + 3) lo r g (pm_ir iv a (va_cpy (iv a0) (iv a) sp.toNatClampNeg dp.toNatClampNeg n.toNatClampNeg)))
      | _, _ => none
    | _ => none
  | some (7, _, _, _) => match st with
    | .int y :: .int x :: r => pm_ifn (pm_cs r ≤ 8) (pm_go (pc + 3) lo (.int (if y < x then y else x) :: r) g iv)
    | _ => none
  | some (8, _, _, _) => match st with
    | .int x :: r => pm_ifn (pm_cs r ≤ 8) (pm_go (pc + 3) lo (.int (if 0 ≤ x then x else 0 - x) :: r) g iv)
    | _ => none
  | _ => none
def pm_isp (idx : Nat) : pm_O := match pm_lmt.lookup (pm_mc mi, idx) with
  | some (2, t, n, _) => match st.drop n with
    | .ref b :: r => pm_ifn (pm_cs r ≤ 8) (pm_bk pc lo r (cal t (.ref b :: (st.take n).reverse) g iv))
    | _ => none
  | some (4, t, n, _) => match st.drop n with
    | .ref b :: r => pm_ifn (pm_cs r ≤ 8) (pm_bk pc lo r (cal t (.ref b :: (st.take n).reverse) g iv))
    | _ => none
  | some (5, _, _, _) => match st with
    | .ref _ :: r => pm_ifn (pm_cs r ≤ 8) (pm_go (pc + 3) lo r g iv)
    | _ => none
  | _ => none
def pm_ri : pm_O := match st with
  | [.int v] => match pm_mr mi with
    | some ty => pm_ifn (narrow ty (.int v) = .int v) (some (.inr (some (.int v), g, iv)))
    | none => none
  | _ => none
def pm_rl : pm_O := match st with
  | [.long v] => pm_ifn (pm_mr mi = some .long) (some (.inr (some (.long v), g, iv)))
  | _ => none
def pm_rv : pm_O := match st with
  | [] => pm_ifn (pm_mr mi = none) (some (.inr (none, g, iv)))
  | _ => none
def pm_dup : pm_O := match st with
  | v :: r => pm_ifn (v.category = 1) (pm_go (pc + 1) lo (v :: v :: r) g iv)
  | _ => none
def pm_dp2 : pm_O := match st with
  | v :: w :: r => pm_ifn (v.category = 1 ∧ w.category = 1) (pm_go (pc + 1) lo (v :: w :: v :: w :: r) g iv)
  | _ => none
def pm_pop : pm_O := match st with
  | v :: r => pm_ifn (v.category = 1) (pm_go (pc + 1) lo r g iv)
  | _ => none
/-- one instruction -/
def pm_i (ins : Instr) : pm_O := match ins with
  | .iconst n => pm_psh pc lo st g iv 1 (.int (Int32.ofInt n))
  | .bipush n => pm_psh pc lo st g iv 2 (.int (Int8.ofInt n).toInt32)
  | .sipush n => pm_psh pc lo st g iv 3 (.int (Int16.ofInt n).toInt32)
  | .lconst n => pm_psh pc lo st g iv 1 (.long (Int64.ofNat (n : Nat)))
  | .iload_n k => pm_ldI pc lo st g iv 1 k
  | .iload k => pm_ldI pc lo st g iv 2 k
  | .lload_n k => pm_ldL pc lo st g iv 1 k
  | .lload k => pm_ldL pc lo st g iv 2 k
  | .aload_n k => pm_ldA pc lo st g iv 1 k
  | .istore_n k => pm_stI pc lo st g iv 1 k
  | .istore k => pm_stI pc lo st g iv 2 k
  | .astore_n k => pm_stA pc lo st g iv 1 k
  | .lstore_n k => pm_stL pc lo st g iv 1 k
  | .iinc i n => pm_inc pc lo st g iv i n
  | .iadd => pm_i2 pc lo st g iv (fun x y => x + y)
  | .isub => pm_i2 pc lo st g iv (fun x y => x - y)
  | .imul => pm_i2 pc lo st g iv (fun x y => x * y)
  | .iand => pm_i2 pc lo st g iv (fun x y => x &&& y)
  | .ior => pm_i2 pc lo st g iv (fun x y => x ||| y)
  | .ixor => pm_i2 pc lo st g iv (fun x y => x ^^^ y)
  | .ishl => pm_i2 pc lo st g iv (fun x y => x <<< (y &&& 31))
  | .ishr => pm_i2 pc lo st g iv (fun x y => x >>> (y &&& 31))
  | .iushr => pm_i2 pc lo st g iv (fun x y => (x.toUInt32 >>> (y.toUInt32 &&& Int32.toUInt32 31)).toInt32)
  | .idiv => pm_d2 pc lo st g iv (fun x y => x / y)
  | .irem => pm_d2 pc lo st g iv (fun x y => x - x / y * y)
  | .ineg => pm_i1 pc lo st g iv (fun x => -x)
  | .i2b => pm_i1 pc lo st g iv (fun x => x.toInt8.toInt32)
  | .i2s => pm_i1 pc lo st g iv (fun x => x.toInt16.toInt32)
  | .i2c => pm_i1 pc lo st g iv (fun x => (x.toUInt32 % 65536).toInt32)
  | .i2l => pm_il pc lo st g iv (fun x => x.toInt64)
  | .l2i => pm_li pc lo st g iv (fun x => x.toInt32)
  | .ladd => pm_l2 pc lo st g iv (fun x y => x + y)
  | .land => pm_l2 pc lo st g iv (fun x y => x &&& y)
  | .lor => pm_l2 pc lo st g iv (fun x y => x ||| y)
  | .lshl => pm_ls2 pc lo st g iv (fun x y => x <<< (y.toInt64 &&& 63))
  | .lshr => pm_ls2 pc lo st g iv (fun x y => x >>> (y.toInt64 &&& 63))
  | .lcmp => pm_lc pc lo st g iv
  | .dup => pm_dup pc lo st g iv
  | .dup2 => pm_dp2 pc lo st g iv
  | .pop => pm_pop pc lo st g iv
  | .goto off => pm_jmp pc lo g iv off st
  | .ifCond c off => pm_br1 pc lo st g iv (pm_cd1 c) off
  | .if_icmp c off => pm_br2 pc lo st g iv (pm_cd2 c) off
  | .ifnonnull off => pm_nn pc lo st g iv off
  | .tableswitch d l h offs => pm_tsw pc lo st g iv d l h offs
  | .lookupswitch d ps => pm_lsw pc lo st g iv d ps
  | .getfield idx => pm_gf mi pc lo st g iv idx
  | .putfield idx => pm_pf mi pc lo st g iv idx
  | .getstatic idx => pm_gs mi pc lo st g iv idx
  | .arraylength => pm_aln X pc lo st g iv
  | .iaload => pm_ald X pc lo st g iv true
  | .baload => pm_ald X pc lo st g iv false
  | .iastore => pm_ast pc lo st g iv true
  | .bastore => pm_ast pc lo st g iv false
  | .aaload => pm_aal pc lo st g iv
  | .aastore => pm_aas pc lo st g iv
  | .new idx => pm_new mi pc lo st g iv idx
  | .newarray t => pm_nwa pc lo st g iv t
  | .anewarray idx => pm_ana mi pc lo st g iv idx
  | .ldc idx => match pm_lkt.lookup (pm_mc mi, idx) with
    | some _ => pm_kI mi pc lo st g iv 2 idx
    | none => pm_kS mi pc lo st g iv idx
  | .ldc_w idx => pm_kI mi pc lo st g iv 3 idx
  | .ldc2_w idx => pm_kL mi pc lo st g iv idx
  | .invokevirtual idx => pm_inv cal mi pc lo st g iv idx
  | .invokestatic idx => pm_ins cal mi pc lo st g iv idx
  | .invokespecial idx => pm_isp cal mi pc lo st g iv idx
  | .ireturn => pm_ri mi st g iv
  | .lreturn => pm_rl mi st g iv
  | .return_ => pm_rv mi st g iv
  | _ => none
end PMI
/-- how long an instruction is -/
def pm_len (ins : Instr) : Option Nat := match ins with
  | .iconst _ | .lconst _ | .iload_n _ | .lload_n _ | .aload_n _ | .istore_n _ | .astore_n _ | .lstore_n _ | .iadd | .isub | .imul | .iand | .ior | .ixor | .ishl | .ishr | .iushr | .idiv | .irem | .ineg | .i2b | .i2s | .i2c | .i2l | .l2i | .ladd | .land | .lor | .lshl | .lshr | .lcmp | .dup | .dup2 | .pop | .arraylength | .iaload | .baload | .iastore | .bastore | .aaload | .aastore | .ireturn | .lreturn | .return_ => some 1
  | .bipush _ | .iload _ | .lload _ | .istore _ | .newarray _ | .ldc _ => some 2
  | .tableswitch _ _ _ _ | .lookupswitch _ _ => none
  | _ => some 3
def pm_n (X : pm_X) (cal : pm_C) (mi : Nat) (S : pm_S) : pm_O := match decode (pm_mb mi) S.1 with
  | .ok (ins, len) => if pm_len ins = some len ∨ pm_len ins = none then pm_i X cal mi S.1 S.2.1 S.2.2.1 S.2.2.2.1 S.2.2.2.2 ins else none
  | .error _ => none
def pm_x (X : pm_X) (cal : pm_C) (mi : Nat) : Nat → pm_S → Option pm_R
  | 0, _ => none
  | n + 1, S => match pm_n X cal mi S with
    | none => none
    | some (.inl S') => pm_x X cal mi n S'
    | some (.inr r) => some r
noncomputable def pm_lim {α : Type} (f : Nat → Option α) : Option α := @dite _ (∃ n, (f n).isSome = true) (Classical.propDecidable _) (fun h => f (Classical.choose h)) (fun _ => none)
/-- a call at depth d -/
noncomputable def pm_c (X : pm_X) : Nat → pm_C
  | 0 => fun _ _ _ _ => none
  | d + 1 => fun mi args g iv => if (pm_ea args).length ≤ pm_ml mi then pm_lim (fun n => pm_x X (pm_c X d) mi n (0, pm_en args (pm_ml mi), [], g, iv)) else none
/-- a run from a place in a method, its calls at depth d -/
noncomputable def pm_at (X : pm_X) (d mi : Nat) (S : pm_S) : Option pm_R := pm_lim (fun n => pm_x X (pm_c X d) mi n S)
theorem pm_x_mono {X : pm_X} {cal : pm_C} {mi : Nat} {r : pm_R} : ∀ {n : Nat} {S : pm_S}, pm_x X cal mi n S = some r → ∀ {k : Nat}, n ≤ k → pm_x X cal mi k S = some r := by
  intro n
  induction n with
  | zero => intro S h; cases h
  | succ n ih =>
    intro S h k hk
    obtain ⟨j, rfl⟩ : ∃ j, k = j + 1 := ⟨k - 1, by omega⟩
    simp only [pm_x] at h ⊢
    cases hn : pm_n X cal mi S with
    | none => rw [hn] at h; cases h
    | some q =>
      rw [hn] at h
      cases q with
      | inl S' => exact ih h (by omega)
      | inr r' => exact h
theorem pm_lim_some {α : Type} {f : Nat → Option α} {r : α} (h : pm_lim f = some r) : ∃ n, f n = some r := by
  unfold pm_lim at h
  by_cases hx : ∃ n, (f n).isSome = true
  · rw [dif_pos hx] at h
    exact ⟨_, h⟩
  · rw [dif_neg hx] at h
    cases h
theorem pm_lim_of {α : Type} {f : Nat → Option α} (hm : ∀ n k r, f n = some r → n ≤ k → f k = some r) {n : Nat} {r : α} (h : f n = some r) : pm_lim f = some r := by
  have hx : ∃ n, (f n).isSome = true := ⟨n, by rw [h]; rfl⟩
  unfold pm_lim
  rw [dif_pos hx]
  obtain ⟨q, hq⟩ := Option.isSome_iff_exists.mp (Classical.choose_spec hx)
  rw [hq]
  rcases Nat.le_total n (Classical.choose hx) with a | a
  · rw [hm _ _ _ h a] at hq
    exact hq.symm
  · have := hm _ _ _ hq a
    rw [h] at this
    exact this.symm
theorem pm_at_of {X : pm_X} {d mi n : Nat} {S : pm_S} {r : pm_R} (h : pm_x X (pm_c X d) mi n S = some r) : pm_at X d mi S = some r := pm_lim_of (fun _ _ _ h1 h2 => pm_x_mono h1 h2) h
theorem pm_at_ex {X : pm_X} {d mi : Nat} {S : pm_S} {r : pm_R} (h : pm_at X d mi S = some r) : ∃ n, pm_x X (pm_c X d) mi n S = some r := pm_lim_some h
theorem pm_c_at {X : pm_X} {d mi : Nat} {args : List Value} {g : pm_G} {iv : pm_V} (h : (pm_ea args).length ≤ pm_ml mi) : pm_c X (d + 1) mi args g iv = pm_at X d mi (0, pm_en args (pm_ml mi), [], g, iv) := by
  show (if (pm_ea args).length ≤ pm_ml mi then _ else _) = _
  rw [if_pos h]
  rfl
theorem pm_at_go {X : pm_X} {d mi : Nat} {S S' : pm_S} (h : pm_n X (pm_c X d) mi S = some (.inl S')) : pm_at X d mi S = pm_at X d mi S' := by
  cases h1 : pm_at X d mi S' with
  | some r =>
    obtain ⟨n, hn⟩ := pm_at_ex h1
    exact pm_at_of (n := n + 1) (by simp only [pm_x, h]; exact hn)
  | none =>
    cases h2 : pm_at X d mi S with
    | none => rfl
    | some r =>
      obtain ⟨n, hn⟩ := pm_at_ex h2
      cases n with
      | zero => cases hn
      | succ n =>
        simp only [pm_x, h] at hn
        rw [pm_at_of hn] at h1
        cases h1
theorem pm_at_end {X : pm_X} {d mi : Nat} {S : pm_S} {r : pm_R} (h : pm_n X (pm_c X d) mi S = some (.inr r)) : pm_at X d mi S = some r :=
  pm_at_of (n := 1) (by simp only [pm_x, h])
theorem pm_at_none {X : pm_X} {d mi : Nat} {S : pm_S} (h : pm_n X (pm_c X d) mi S = none) : pm_at X d mi S = none := by
  cases h2 : pm_at X d mi S with
  | none => rfl
  | some r =>
    obtain ⟨n, hn⟩ := pm_at_ex h2
    cases n with
    | zero => cases hn
    | succ n => simp only [pm_x, h] at hn; cases hn
