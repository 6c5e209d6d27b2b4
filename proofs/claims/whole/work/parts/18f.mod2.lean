-- Mod.fault ()I
theorem dc154_0 : decode (pm_mb 154) 0 = .ok (.aload_n 0, 1) := by decide +kernel
theorem dc154_1 : decode (pm_mb 154) 1 = .ok (.iconst 0, 1) := by decide +kernel
theorem dc154_2 : decode (pm_mb 154) 2 = .ok (.putfield 50, 3) := by decide +kernel
theorem dc154_5 : decode (pm_mb 154) 5 = .ok (.aload_n 0, 1) := by decide +kernel
theorem dc154_6 : decode (pm_mb 154) 6 = .ok (.getfield 177, 3) := by decide +kernel
theorem dc154_9 : decode (pm_mb 154) 9 = .ok (.ireturn, 1) := by decide +kernel
theorem b154_0 {X : pm_X} {d : Nat} {g : pm_G} {iv : pm_V} (hL : pm_lay g) : pm_at X d 154 (0, [some (.ref 32)], [], g, iv) = some (some (.int ((pm_iw iv 32 0 0) 32 11)), g, (pm_iw iv 32 0 0)) := by
  refine (at_aload_n dc154_0 rfl).trans ?_
  refine (at_iconst (v := 0) dc154_1 rfl).trans ?_
  refine (at_pfI dc154_2 mc154 lf6_50 po6_0 (ly32 hL)).trans ?_
  refine (at_aload_n dc154_5 rfl).trans ?_
  refine (at_gfI dc154_6 mc154 lf6_177 fo6_11 (ly32 hL)).trans ?_
  exact at_iret dc154_9 mr154
-- Mod.isThere ()Z
theorem dc155_0 : decode (pm_mb 155) 0 = .ok (.aload_n 0, 1) := by decide +kernel
theorem dc155_1 : decode (pm_mb 155) 1 = .ok (.getfield 19, 3) := by decide +kernel
theorem dc155_4 : decode (pm_mb 155) 4 = .ok (.iconst 0, 1) := by decide +kernel
theorem dc155_5 : decode (pm_mb 155) 5 = .ok (.iaload, 1) := by decide +kernel
theorem dc155_6 : decode (pm_mb 155) 6 = .ok (.ifCond .le 7, 3) := by decide +kernel
theorem dc155_9 : decode (pm_mb 155) 9 = .ok (.iconst 1, 1) := by decide +kernel
theorem dc155_10 : decode (pm_mb 155) 10 = .ok (.goto 4, 3) := by decide +kernel
theorem dc155_13 : decode (pm_mb 155) 13 = .ok (.iconst 0, 1) := by decide +kernel
theorem dc155_14 : decode (pm_mb 155) 14 = .ok (.ireturn, 1) := by decide +kernel
theorem b155_0 {X : pm_X} {d : Nat} {g : pm_G} {iv : pm_V} (hL : pm_lay g) : pm_at X d 155 (0, [some (.ref 32)], [], g, iv) = if (iv 36 0) ≤ 0 then pm_at X d 155 (13, [some (.ref 32)], [], g, iv) else pm_at X d 155 (9, [some (.ref 32)], [], g, iv) := by
  refine (at_aload_n dc155_0 rfl).trans ?_
  refine (at_gfR dc155_1 mc155 lf6_19 fo6_5 (ly32 hL) (lr32_5 hL)).trans ?_
  refine (at_iconst (v := 0) dc155_4 rfl).trans ?_
  refine (at_iald dc155_5 (ly36 hL) (vp_in_nI (n := 0) (by decide) (by decide))).trans ?_
  exact at_if_le (t := 13) dc155_6 (by decide)
theorem b155_9 {X : pm_X} {d : Nat} {g : pm_G} {iv : pm_V}  : pm_at X d 155 (9, [some (.ref 32)], [], g, iv) = pm_at X d 155 (14, [some (.ref 32)], [.int 1], g, iv) := by
  refine (at_iconst (v := 1) dc155_9 rfl).trans ?_
  refine (at_goto (t := 14) dc155_10 (by decide)).trans ?_
  rfl
theorem b155_13 {X : pm_X} {d : Nat} {g : pm_G} {iv : pm_V}  : pm_at X d 155 (13, [some (.ref 32)], [], g, iv) = pm_at X d 155 (14, [some (.ref 32)], [.int 0], g, iv) := by
  refine (at_iconst (v := 0) dc155_13 rfl).trans ?_
  rfl
theorem b155_14 {X : pm_X} {d : Nat} {s0 : Int32} {g : pm_G} {iv : pm_V}  : pm_at X d 155 (14, [some (.ref 32)], [.int s0], g, iv) = pm_zr s0 (some (some (.int s0), g, iv)) := by
  exact at_zretG dc155_14 mr155
-- Mod.isHouse (I)Z
theorem dc156_0 : decode (pm_mb 156) 0 = .ok (.iload_n 1, 1) := by decide +kernel
theorem dc156_1 : decode (pm_mb 156) 1 = .ok (.i2l, 1) := by decide +kernel
theorem dc156_2 : decode (pm_mb 156) 2 = .ok (.lconst 0, 1) := by decide +kernel
theorem dc156_3 : decode (pm_mb 156) 3 = .ok (.aload_n 0, 1) := by decide +kernel
theorem dc156_4 : decode (pm_mb 156) 4 = .ok (.getfield 19, 3) := by decide +kernel
theorem dc156_7 : decode (pm_mb 156) 7 = .ok (.iconst 3, 1) := by decide +kernel
theorem dc156_8 : decode (pm_mb 156) 8 = .ok (.iaload, 1) := by decide +kernel
theorem dc156_9 : decode (pm_mb 156) 9 = .ok (.iconst 1, 1) := by decide +kernel
theorem dc156_10 : decode (pm_mb 156) 10 = .ok (.isub, 1) := by decide +kernel
theorem dc156_11 : decode (pm_mb 156) 11 = .ok (.i2l, 1) := by decide +kernel
theorem dc156_12 : decode (pm_mb 156) 12 = .ok (.invokestatic 60, 3) := by decide +kernel
theorem dc156_15 : decode (pm_mb 156) 15 = .ok (.ireturn, 1) := by decide +kernel
theorem b156_0 {X : pm_X} {d : Nat} {x1 : Int32} {g : pm_G} {iv : pm_V} (hL : pm_lay g) : pm_at X d 156 (0, [some (.ref 32), some (.int x1)], [], g, iv) = pm_then X d 156 15 [some (.ref 32), some (.int x1)] [] (pm_c X d 129 [.long (x1 : Int32).toInt64, .long 0, .long (((iv 36 3) - 1) : Int32).toInt64] g iv) := by
  refine (at_iload_n dc156_0 rfl).trans ?_
  refine (at_i2l dc156_1).trans ?_
  refine (at_lconst (v := 0) dc156_2 (by decide)).trans ?_
  refine (at_aload_n dc156_3 rfl).trans ?_
  refine (at_gfR dc156_4 mc156 lf6_19 fo6_5 (ly32 hL) (lr32_5 hL)).trans ?_
  refine (at_iconst (v := 3) dc156_7 rfl).trans ?_
  refine (at_iald dc156_8 (ly36 hL) (vp_in_nI (n := 3) (by decide) (by decide))).trans ?_
  refine (at_iconst (v := 1) dc156_9 rfl).trans ?_
  refine (at_isub dc156_10).trans ?_
  refine (at_i2l dc156_11).trans ?_
  exact at_ins dc156_12 mc156 lm6_60 (Nat.le_of_ble_eq_true rfl) rfl rfl (Nat.le_of_ble_eq_true rfl)
theorem b156_15 {X : pm_X} {d : Nat} {x1 : Int32} {s0 : Int32} {g : pm_G} {iv : pm_V}  : pm_at X d 156 (15, [some (.ref 32), some (.int x1)], [.int s0], g, iv) = pm_zr s0 (some (some (.int s0), g, iv)) := by
  exact at_zretG dc156_15 mr156
-- Mod.areTwo (II)Z
theorem dc157_0 : decode (pm_mb 157) 0 = .ok (.aload_n 0, 1) := by decide +kernel
theorem dc157_1 : decode (pm_mb 157) 1 = .ok (.iload_n 1, 1) := by decide +kernel
theorem dc157_2 : decode (pm_mb 157) 2 = .ok (.invokevirtual 184, 3) := by decide +kernel
theorem dc157_5 : decode (pm_mb 157) 5 = .ok (.ifCond .eq 20, 3) := by decide +kernel
theorem dc157_8 : decode (pm_mb 157) 8 = .ok (.aload_n 0, 1) := by decide +kernel
theorem dc157_9 : decode (pm_mb 157) 9 = .ok (.iload_n 2, 1) := by decide +kernel
theorem dc157_10 : decode (pm_mb 157) 10 = .ok (.invokevirtual 184, 3) := by decide +kernel
theorem dc157_13 : decode (pm_mb 157) 13 = .ok (.ifCond .eq 12, 3) := by decide +kernel
theorem dc157_16 : decode (pm_mb 157) 16 = .ok (.iload_n 1, 1) := by decide +kernel
theorem dc157_17 : decode (pm_mb 157) 17 = .ok (.iload_n 2, 1) := by decide +kernel
theorem dc157_18 : decode (pm_mb 157) 18 = .ok (.if_icmp .eq 7, 3) := by decide +kernel
theorem dc157_21 : decode (pm_mb 157) 21 = .ok (.iconst 1, 1) := by decide +kernel
theorem dc157_22 : decode (pm_mb 157) 22 = .ok (.goto 4, 3) := by decide +kernel
theorem dc157_25 : decode (pm_mb 157) 25 = .ok (.iconst 0, 1) := by decide +kernel
theorem dc157_26 : decode (pm_mb 157) 26 = .ok (.ireturn, 1) := by decide +kernel
theorem b157_0 {X : pm_X} {d : Nat} {x1 : Int32} {x2 : Int32} {g : pm_G} {iv : pm_V} (hL : pm_lay g) : pm_at X d 157 (0, [some (.ref 32), some (.int x1), some (.int x2)], [], g, iv) = pm_then X d 157 5 [some (.ref 32), some (.int x1), some (.int x2)] [] (pm_c X d 156 [.ref 32, .int x1] g iv) := by
  refine (at_aload_n dc157_0 rfl).trans ?_
  refine (at_iload_n dc157_1 rfl).trans ?_
  exact at_inv dc157_2 mc157 lm6_184 rfl rfl (Nat.le_of_ble_eq_true rfl) (Or.inl ⟨(ly32 hL), by decide⟩)
theorem b157_5 {X : pm_X} {d : Nat} {x1 : Int32} {x2 : Int32} {s0 : Int32} {g : pm_G} {iv : pm_V}  : pm_at X d 157 (5, [some (.ref 32), some (.int x1), some (.int x2)], [.int s0], g, iv) = if s0 = 0 then pm_at X d 157 (25, [some (.ref 32), some (.int x1), some (.int x2)], [], g, iv) else pm_at X d 157 (8, [some (.ref 32), some (.int x1), some (.int x2)], [], g, iv) := by
  exact at_if_eq (t := 25) dc157_5 (by decide)
theorem b157_8 {X : pm_X} {d : Nat} {x1 : Int32} {x2 : Int32} {g : pm_G} {iv : pm_V} (hL : pm_lay g) : pm_at X d 157 (8, [some (.ref 32), some (.int x1), some (.int x2)], [], g, iv) = pm_then X d 157 13 [some (.ref 32), some (.int x1), some (.int x2)] [] (pm_c X d 156 [.ref 32, .int x2] g iv) := by
  refine (at_aload_n dc157_8 rfl).trans ?_
  refine (at_iload_n dc157_9 rfl).trans ?_
  exact at_inv dc157_10 mc157 lm6_184 rfl rfl (Nat.le_of_ble_eq_true rfl) (Or.inl ⟨(ly32 hL), by decide⟩)
theorem b157_13 {X : pm_X} {d : Nat} {x1 : Int32} {x2 : Int32} {s0 : Int32} {g : pm_G} {iv : pm_V}  : pm_at X d 157 (13, [some (.ref 32), some (.int x1), some (.int x2)], [.int s0], g, iv) = if s0 = 0 then pm_at X d 157 (25, [some (.ref 32), some (.int x1), some (.int x2)], [], g, iv) else pm_at X d 157 (16, [some (.ref 32), some (.int x1), some (.int x2)], [], g, iv) := by
  exact at_if_eq (t := 25) dc157_13 (by decide)
theorem b157_16 {X : pm_X} {d : Nat} {x1 : Int32} {x2 : Int32} {g : pm_G} {iv : pm_V}  : pm_at X d 157 (16, [some (.ref 32), some (.int x1), some (.int x2)], [], g, iv) = if x1 = x2 then pm_at X d 157 (25, [some (.ref 32), some (.int x1), some (.int x2)], [], g, iv) else pm_at X d 157 (21, [some (.ref 32), some (.int x1), some (.int x2)], [], g, iv) := by
  refine (at_iload_n dc157_16 rfl).trans ?_
  refine (at_iload_n dc157_17 rfl).trans ?_
  exact at_icmp_eq (t := 25) dc157_18 (by decide)
theorem b157_21 {X : pm_X} {d : Nat} {x1 : Int32} {x2 : Int32} {g : pm_G} {iv : pm_V}  : pm_at X d 157 (21, [some (.ref 32), some (.int x1), some (.int x2)], [], g, iv) = pm_at X d 157 (26, [some (.ref 32), some (.int x1), some (.int x2)], [.int 1], g, iv) := by
  refine (at_iconst (v := 1) dc157_21 rfl).trans ?_
  refine (at_goto (t := 26) dc157_22 (by decide)).trans ?_
  rfl
theorem b157_25 {X : pm_X} {d : Nat} {x1 : Int32} {x2 : Int32} {g : pm_G} {iv : pm_V}  : pm_at X d 157 (25, [some (.ref 32), some (.int x1), some (.int x2)], [], g, iv) = pm_at X d 157 (26, [some (.ref 32), some (.int x1), some (.int x2)], [.int 0], g, iv) := by
  refine (at_iconst (v := 0) dc157_25 rfl).trans ?_
  rfl
theorem b157_26 {X : pm_X} {d : Nat} {x1 : Int32} {x2 : Int32} {s0 : Int32} {g : pm_G} {iv : pm_V}  : pm_at X d 157 (26, [some (.ref 32), some (.int x1), some (.int x2)], [.int s0], g, iv) = pm_zr s0 (some (some (.int s0), g, iv)) := by
  exact at_zretG dc157_26 mr157
-- Mod.of (II)I
theorem dc158_0 : decode (pm_mb 158) 0 = .ok (.aload_n 0, 1) := by decide +kernel
theorem dc158_1 : decode (pm_mb 158) 1 = .ok (.getfield 19, 3) := by decide +kernel
theorem dc158_4 : decode (pm_mb 158) 4 = .ok (.bipush 9, 2) := by decide +kernel
theorem dc158_6 : decode (pm_mb 158) 6 = .ok (.bipush 6, 2) := by decide +kernel
theorem dc158_8 : decode (pm_mb 158) 8 = .ok (.iload_n 1, 1) := by decide +kernel
theorem dc158_9 : decode (pm_mb 158) 9 = .ok (.imul, 1) := by decide +kernel
theorem dc158_10 : decode (pm_mb 158) 10 = .ok (.iadd, 1) := by decide +kernel
theorem dc158_11 : decode (pm_mb 158) 11 = .ok (.iload_n 2, 1) := by decide +kernel
theorem dc158_12 : decode (pm_mb 158) 12 = .ok (.iadd, 1) := by decide +kernel
theorem dc158_13 : decode (pm_mb 158) 13 = .ok (.iaload, 1) := by decide +kernel
theorem dc158_14 : decode (pm_mb 158) 14 = .ok (.ireturn, 1) := by decide +kernel
theorem b158_0 {X : pm_X} {d : Nat} {x1 : Int32} {x2 : Int32} {g : pm_G} {iv : pm_V} (hL : pm_lay g) (i1 : vp_in (((9 + (6 * x1)) + x2)) 45) : pm_at X d 158 (0, [some (.ref 32), some (.int x1), some (.int x2)], [], g, iv) = some (some (.int (iv 36 (((9 + (6 * x1)) + x2) : Int32).toNatClampNeg)), g, iv) := by
  refine (at_aload_n dc158_0 rfl).trans ?_
  refine (at_gfR dc158_1 mc158 lf6_19 fo6_5 (ly32 hL) (lr32_5 hL)).trans ?_
  refine (at_bipush (v := 9) dc158_4 (by decide)).trans ?_
  refine (at_bipush (v := 6) dc158_6 (by decide)).trans ?_
  refine (at_iload_n dc158_8 rfl).trans ?_
  refine (at_imul dc158_9).trans ?_
  refine (at_iadd dc158_10).trans ?_
  refine (at_iload_n dc158_11 rfl).trans ?_
  refine (at_iadd dc158_12).trans ?_
  refine (at_iald dc158_13 (ly36 hL) i1).trans ?_
  exact at_iret dc158_14 mr158
-- Mod.isStone (II)Z
theorem dc159_0 : decode (pm_mb 159) 0 = .ok (.aload_n 0, 1) := by decide +kernel
theorem dc159_1 : decode (pm_mb 159) 1 = .ok (.getfield 19, 3) := by decide +kernel
theorem dc159_4 : decode (pm_mb 159) 4 = .ok (.iconst 5, 1) := by decide +kernel
theorem dc159_5 : decode (pm_mb 159) 5 = .ok (.iload_n 1, 1) := by decide +kernel
theorem dc159_6 : decode (pm_mb 159) 6 = .ok (.iadd, 1) := by decide +kernel
theorem dc159_7 : decode (pm_mb 159) 7 = .ok (.iaload, 1) := by decide +kernel
theorem dc159_8 : decode (pm_mb 159) 8 = .ok (.iload_n 2, 1) := by decide +kernel
theorem dc159_9 : decode (pm_mb 159) 9 = .ok (.ishr, 1) := by decide +kernel
theorem dc159_10 : decode (pm_mb 159) 10 = .ok (.iconst 1, 1) := by decide +kernel
theorem dc159_11 : decode (pm_mb 159) 11 = .ok (.iand, 1) := by decide +kernel
theorem dc159_12 : decode (pm_mb 159) 12 = .ok (.iconst 1, 1) := by decide +kernel
theorem dc159_13 : decode (pm_mb 159) 13 = .ok (.if_icmp .ne 7, 3) := by decide +kernel
theorem dc159_16 : decode (pm_mb 159) 16 = .ok (.iconst 1, 1) := by decide +kernel
theorem dc159_17 : decode (pm_mb 159) 17 = .ok (.goto 4, 3) := by decide +kernel
theorem dc159_20 : decode (pm_mb 159) 20 = .ok (.iconst 0, 1) := by decide +kernel
theorem dc159_21 : decode (pm_mb 159) 21 = .ok (.ireturn, 1) := by decide +kernel
theorem b159_0 {X : pm_X} {d : Nat} {x1 : Int32} {x2 : Int32} {g : pm_G} {iv : pm_V} (hL : pm_lay g) (i1 : vp_in ((5 + x1)) 45) : pm_at X d 159 (0, [some (.ref 32), some (.int x1), some (.int x2)], [], g, iv) = if ¬ (((iv 36 ((5 + x1) : Int32).toNatClampNeg) >>> (x2 &&& 31)) &&& 1) = 1 then pm_at X d 159 (20, [some (.ref 32), some (.int x1), some (.int x2)], [], g, iv) else pm_at X d 159 (16, [some (.ref 32), some (.int x1), some (.int x2)], [], g, iv) := by
  refine (at_aload_n dc159_0 rfl).trans ?_
  refine (at_gfR dc159_1 mc159 lf6_19 fo6_5 (ly32 hL) (lr32_5 hL)).trans ?_
  refine (at_iconst (v := 5) dc159_4 rfl).trans ?_
  refine (at_iload_n dc159_5 rfl).trans ?_
  refine (at_iadd dc159_6).trans ?_
  refine (at_iald dc159_7 (ly36 hL) i1).trans ?_
  refine (at_iload_n dc159_8 rfl).trans ?_
  refine (at_ishr dc159_9).trans ?_
  refine (at_iconst (v := 1) dc159_10 rfl).trans ?_
  refine (at_iand dc159_11).trans ?_
  refine (at_iconst (v := 1) dc159_12 rfl).trans ?_
  exact at_icmp_ne (t := 20) dc159_13 (by decide)
theorem b159_16 {X : pm_X} {d : Nat} {x1 : Int32} {x2 : Int32} {g : pm_G} {iv : pm_V}  : pm_at X d 159 (16, [some (.ref 32), some (.int x1), some (.int x2)], [], g, iv) = pm_at X d 159 (21, [some (.ref 32), some (.int x1), some (.int x2)], [.int 1], g, iv) := by
  refine (at_iconst (v := 1) dc159_16 rfl).trans ?_
  refine (at_goto (t := 21) dc159_17 (by decide)).trans ?_
  rfl
theorem b159_20 {X : pm_X} {d : Nat} {x1 : Int32} {x2 : Int32} {g : pm_G} {iv : pm_V}  : pm_at X d 159 (20, [some (.ref 32), some (.int x1), some (.int x2)], [], g, iv) = pm_at X d 159 (21, [some (.ref 32), some (.int x1), some (.int x2)], [.int 0], g, iv) := by
  refine (at_iconst (v := 0) dc159_20 rfl).trans ?_
  rfl
theorem b159_21 {X : pm_X} {d : Nat} {x1 : Int32} {x2 : Int32} {s0 : Int32} {g : pm_G} {iv : pm_V}  : pm_at X d 159 (21, [some (.ref 32), some (.int x1), some (.int x2)], [.int s0], g, iv) = pm_zr s0 (some (some (.int s0), g, iv)) := by
  exact at_zretG dc159_21 mr159
-- Mod.layNow ()V
theorem dc160_0 : decode (pm_mb 160) 0 = .ok (.iconst 0, 1) := by decide +kernel
theorem dc160_1 : decode (pm_mb 160) 1 = .ok (.istore_n 1, 1) := by decide +kernel
theorem dc160_2 : decode (pm_mb 160) 2 = .ok (.iload_n 1, 1) := by decide +kernel
theorem dc160_3 : decode (pm_mb 160) 3 = .ok (.aload_n 0, 1) := by decide +kernel
theorem dc160_4 : decode (pm_mb 160) 4 = .ok (.getfield 19, 3) := by decide +kernel
theorem dc160_7 : decode (pm_mb 160) 7 = .ok (.iconst 3, 1) := by decide +kernel
theorem dc160_8 : decode (pm_mb 160) 8 = .ok (.iaload, 1) := by decide +kernel
theorem dc160_9 : decode (pm_mb 160) 9 = .ok (.if_icmp .ge 33, 3) := by decide +kernel
theorem dc160_12 : decode (pm_mb 160) 12 = .ok (.aload_n 0, 1) := by decide +kernel
theorem dc160_13 : decode (pm_mb 160) 13 = .ok (.getfield 31, 3) := by decide +kernel
theorem dc160_16 : decode (pm_mb 160) 16 = .ok (.iload_n 1, 1) := by decide +kernel
theorem dc160_17 : decode (pm_mb 160) 17 = .ok (.aload_n 0, 1) := by decide +kernel
theorem dc160_18 : decode (pm_mb 160) 18 = .ok (.iload_n 1, 1) := by decide +kernel
theorem dc160_19 : decode (pm_mb 160) 19 = .ok (.iconst 2, 1) := by decide +kernel
theorem dc160_20 : decode (pm_mb 160) 20 = .ok (.invokevirtual 187, 3) := by decide +kernel
theorem dc160_23 : decode (pm_mb 160) 23 = .ok (.iastore, 1) := by decide +kernel
theorem dc160_24 : decode (pm_mb 160) 24 = .ok (.aload_n 0, 1) := by decide +kernel
theorem dc160_25 : decode (pm_mb 160) 25 = .ok (.getfield 34, 3) := by decide +kernel
theorem dc160_28 : decode (pm_mb 160) 28 = .ok (.iload_n 1, 1) := by decide +kernel
theorem dc160_29 : decode (pm_mb 160) 29 = .ok (.aload_n 0, 1) := by decide +kernel
theorem dc160_30 : decode (pm_mb 160) 30 = .ok (.iload_n 1, 1) := by decide +kernel
theorem dc160_31 : decode (pm_mb 160) 31 = .ok (.iconst 4, 1) := by decide +kernel
theorem dc160_32 : decode (pm_mb 160) 32 = .ok (.invokevirtual 187, 3) := by decide +kernel
theorem dc160_35 : decode (pm_mb 160) 35 = .ok (.iastore, 1) := by decide +kernel
theorem dc160_36 : decode (pm_mb 160) 36 = .ok (.iinc 1 1, 3) := by decide +kernel
theorem dc160_39 : decode (pm_mb 160) 39 = .ok (.goto (-37), 3) := by decide +kernel
theorem dc160_42 : decode (pm_mb 160) 42 = .ok (.return_, 1) := by decide +kernel
theorem b160_0 {X : pm_X} {d : Nat} {g : pm_G} {iv : pm_V}  : pm_at X d 160 (0, [some (.ref 32), none], [], g, iv) = pm_at X d 160 (2, [some (.ref 32), some (.int 0)], [], g, iv) := by
  refine (at_iconst (v := 0) dc160_0 rfl).trans ?_
  refine (at_istore_n dc160_1 rfl).trans ?_
  rfl
theorem b160_2 {X : pm_X} {d : Nat} {x1 : Int32} {g : pm_G} {iv : pm_V} (hL : pm_lay g) : pm_at X d 160 (2, [some (.ref 32), some (.int x1)], [], g, iv) = if (iv 36 3) ≤ x1 then pm_at X d 160 (42, [some (.ref 32), some (.int x1)], [], g, iv) else pm_at X d 160 (12, [some (.ref 32), some (.int x1)], [], g, iv) := by
  refine (at_iload_n dc160_2 rfl).trans ?_
  refine (at_aload_n dc160_3 rfl).trans ?_
  refine (at_gfR dc160_4 mc160 lf6_19 fo6_5 (ly32 hL) (lr32_5 hL)).trans ?_
  refine (at_iconst (v := 3) dc160_7 rfl).trans ?_
  refine (at_iald dc160_8 (ly36 hL) (vp_in_nI (n := 3) (by decide) (by decide))).trans ?_
  exact at_icmp_ge (t := 42) dc160_9 (by decide)
theorem b160_12 {X : pm_X} {d : Nat} {x1 : Int32} {g : pm_G} {iv : pm_V} (hL : pm_lay g) : pm_at X d 160 (12, [some (.ref 32), some (.int x1)], [], g, iv) = pm_then X d 160 23 [some (.ref 32), some (.int x1)] [.int x1, .ref 40] (pm_c X d 158 [.ref 32, .int x1, .int 2] g iv) := by
  refine (at_aload_n dc160_12 rfl).trans ?_
  refine (at_gfR dc160_13 mc160 lf6_31 fo6_19 (ly32 hL) (lr32_19 hL)).trans ?_
  refine (at_iload_n dc160_16 rfl).trans ?_
  refine (at_aload_n dc160_17 rfl).trans ?_
  refine (at_iload_n dc160_18 rfl).trans ?_
  refine (at_iconst (v := 2) dc160_19 rfl).trans ?_
  exact at_inv dc160_20 mc160 lm6_187 rfl rfl (Nat.le_of_ble_eq_true rfl) (Or.inl ⟨(ly32 hL), by decide⟩)
theorem b160_23 {X : pm_X} {d : Nat} {x1 : Int32} {s0 : Int32} {s1 : Int32} {g : pm_G} {iv : pm_V} (hL : pm_lay g) (i1 : vp_in s1 6) : pm_at X d 160 (23, [some (.ref 32), some (.int x1)], [.int s0, .int s1, .ref 40], g, iv) = pm_then X d 160 35 [some (.ref 32), some (.int x1)] [.int x1, .ref 41] (pm_c X d 158 [.ref 32, .int x1, .int 4] g (pm_iw iv 40 (s1 : Int32).toNatClampNeg s0)) := by
  refine (at_iast dc160_23 (ly40 hL) i1).trans ?_
  refine (at_aload_n dc160_24 rfl).trans ?_
  refine (at_gfR dc160_25 mc160 lf6_34 fo6_20 (ly32 hL) (lr32_20 hL)).trans ?_
  refine (at_iload_n dc160_28 rfl).trans ?_
  refine (at_aload_n dc160_29 rfl).trans ?_
  refine (at_iload_n dc160_30 rfl).trans ?_
  refine (at_iconst (v := 4) dc160_31 rfl).trans ?_
  exact at_inv dc160_32 mc160 lm6_187 rfl rfl (Nat.le_of_ble_eq_true rfl) (Or.inl ⟨(ly32 hL), by decide⟩)
theorem b160_35 {X : pm_X} {d : Nat} {x1 : Int32} {s0 : Int32} {s1 : Int32} {g : pm_G} {iv : pm_V} (hL : pm_lay g) (i1 : vp_in s1 6) : pm_at X d 160 (35, [some (.ref 32), some (.int x1)], [.int s0, .int s1, .ref 41], g, iv) = pm_at X d 160 (2, [some (.ref 32), some (.int (x1 + 1))], [], g, (pm_iw iv 41 (s1 : Int32).toNatClampNeg s0)) := by
  refine (at_iast dc160_35 (ly41 hL) i1).trans ?_
  refine (at_iinc (v := 1) dc160_36 rfl (by decide) rfl).trans ?_
  refine (at_goto (t := 2) dc160_39 (by decide)).trans ?_
  rfl
theorem b160_42 {X : pm_X} {d : Nat} {x1 : Int32} {g : pm_G} {iv : pm_V}  : pm_at X d 160 (42, [some (.ref 32), some (.int x1)], [], g, iv) = some (none, g, iv) := by
  exact at_vret dc160_42 mr160
-- Mod.houseAt (II)I
theorem dc161_0 : decode (pm_mb 161) 0 = .ok (.iconst 0, 1) := by decide +kernel
theorem dc161_1 : decode (pm_mb 161) 1 = .ok (.istore_n 3, 1) := by decide +kernel
theorem dc161_2 : decode (pm_mb 161) 2 = .ok (.iload_n 3, 1) := by decide +kernel
theorem dc161_3 : decode (pm_mb 161) 3 = .ok (.aload_n 0, 1) := by decide +kernel
theorem dc161_4 : decode (pm_mb 161) 4 = .ok (.getfield 19, 3) := by decide +kernel
theorem dc161_7 : decode (pm_mb 161) 7 = .ok (.iconst 3, 1) := by decide +kernel
theorem dc161_8 : decode (pm_mb 161) 8 = .ok (.iaload, 1) := by decide +kernel
theorem dc161_9 : decode (pm_mb 161) 9 = .ok (.if_icmp .ge 31, 3) := by decide +kernel
theorem dc161_12 : decode (pm_mb 161) 12 = .ok (.aload_n 0, 1) := by decide +kernel
theorem dc161_13 : decode (pm_mb 161) 13 = .ok (.iload_n 3, 1) := by decide +kernel
theorem dc161_14 : decode (pm_mb 161) 14 = .ok (.iconst 1, 1) := by decide +kernel
theorem dc161_15 : decode (pm_mb 161) 15 = .ok (.invokevirtual 187, 3) := by decide +kernel
theorem dc161_18 : decode (pm_mb 161) 18 = .ok (.iload_n 1, 1) := by decide +kernel
theorem dc161_19 : decode (pm_mb 161) 19 = .ok (.if_icmp .ne 15, 3) := by decide +kernel
theorem dc161_22 : decode (pm_mb 161) 22 = .ok (.aload_n 0, 1) := by decide +kernel
theorem dc161_23 : decode (pm_mb 161) 23 = .ok (.getfield 31, 3) := by decide +kernel
theorem dc161_26 : decode (pm_mb 161) 26 = .ok (.iload_n 3, 1) := by decide +kernel
theorem dc161_27 : decode (pm_mb 161) 27 = .ok (.iaload, 1) := by decide +kernel
theorem dc161_28 : decode (pm_mb 161) 28 = .ok (.iload_n 2, 1) := by decide +kernel
theorem dc161_29 : decode (pm_mb 161) 29 = .ok (.if_icmp .ne 5, 3) := by decide +kernel
theorem dc161_32 : decode (pm_mb 161) 32 = .ok (.iload_n 3, 1) := by decide +kernel
theorem dc161_33 : decode (pm_mb 161) 33 = .ok (.ireturn, 1) := by decide +kernel
theorem dc161_34 : decode (pm_mb 161) 34 = .ok (.iinc 3 1, 3) := by decide +kernel
theorem dc161_37 : decode (pm_mb 161) 37 = .ok (.goto (-35), 3) := by decide +kernel
theorem dc161_40 : decode (pm_mb 161) 40 = .ok (.ldc 86, 2) := by decide +kernel
theorem dc161_42 : decode (pm_mb 161) 42 = .ok (.ireturn, 1) := by decide +kernel
theorem b161_0 {X : pm_X} {d : Nat} {x1 : Int32} {x2 : Int32} {g : pm_G} {iv : pm_V}  : pm_at X d 161 (0, [some (.ref 32), some (.int x1), some (.int x2), none], [], g, iv) = pm_at X d 161 (2, [some (.ref 32), some (.int x1), some (.int x2), some (.int 0)], [], g, iv) := by
  refine (at_iconst (v := 0) dc161_0 rfl).trans ?_
  refine (at_istore_n dc161_1 rfl).trans ?_
  rfl
theorem b161_2 {X : pm_X} {d : Nat} {x1 : Int32} {x2 : Int32} {x3 : Int32} {g : pm_G} {iv : pm_V} (hL : pm_lay g) : pm_at X d 161 (2, [some (.ref 32), some (.int x1), some (.int x2), some (.int x3)], [], g, iv) = if (iv 36 3) ≤ x3 then pm_at X d 161 (40, [some (.ref 32), some (.int x1), some (.int x2), some (.int x3)], [], g, iv) else pm_at X d 161 (12, [some (.ref 32), some (.int x1), some (.int x2), some (.int x3)], [], g, iv) := by
  refine (at_iload_n dc161_2 rfl).trans ?_
  refine (at_aload_n dc161_3 rfl).trans ?_
  refine (at_gfR dc161_4 mc161 lf6_19 fo6_5 (ly32 hL) (lr32_5 hL)).trans ?_
  refine (at_iconst (v := 3) dc161_7 rfl).trans ?_
  refine (at_iald dc161_8 (ly36 hL) (vp_in_nI (n := 3) (by decide) (by decide))).trans ?_
  exact at_icmp_ge (t := 40) dc161_9 (by decide)
theorem b161_12 {X : pm_X} {d : Nat} {x1 : Int32} {x2 : Int32} {x3 : Int32} {g : pm_G} {iv : pm_V} (hL : pm_lay g) : pm_at X d 161 (12, [some (.ref 32), some (.int x1), some (.int x2), some (.int x3)], [], g, iv) = pm_then X d 161 18 [some (.ref 32), some (.int x1), some (.int x2), some (.int x3)] [] (pm_c X d 158 [.ref 32, .int x3, .int 1] g iv) := by
  refine (at_aload_n dc161_12 rfl).trans ?_
  refine (at_iload_n dc161_13 rfl).trans ?_
  refine (at_iconst (v := 1) dc161_14 rfl).trans ?_
  exact at_inv dc161_15 mc161 lm6_187 rfl rfl (Nat.le_of_ble_eq_true rfl) (Or.inl ⟨(ly32 hL), by decide⟩)
theorem b161_18 {X : pm_X} {d : Nat} {x1 : Int32} {x2 : Int32} {x3 : Int32} {s0 : Int32} {g : pm_G} {iv : pm_V}  : pm_at X d 161 (18, [some (.ref 32), some (.int x1), some (.int x2), some (.int x3)], [.int s0], g, iv) = if ¬ s0 = x1 then pm_at X d 161 (34, [some (.ref 32), some (.int x1), some (.int x2), some (.int x3)], [], g, iv) else pm_at X d 161 (22, [some (.ref 32), some (.int x1), some (.int x2), some (.int x3)], [], g, iv) := by
  refine (at_iload_n dc161_18 rfl).trans ?_
  exact at_icmp_ne (t := 34) dc161_19 (by decide)
theorem b161_22 {X : pm_X} {d : Nat} {x1 : Int32} {x2 : Int32} {x3 : Int32} {g : pm_G} {iv : pm_V} (hL : pm_lay g) (i1 : vp_in x3 6) : pm_at X d 161 (22, [some (.ref 32), some (.int x1), some (.int x2), some (.int x3)], [], g, iv) = if ¬ (iv 40 (x3 : Int32).toNatClampNeg) = x2 then pm_at X d 161 (34, [some (.ref 32), some (.int x1), some (.int x2), some (.int x3)], [], g, iv) else pm_at X d 161 (32, [some (.ref 32), some (.int x1), some (.int x2), some (.int x3)], [], g, iv) := by
  refine (at_aload_n dc161_22 rfl).trans ?_
  refine (at_gfR dc161_23 mc161 lf6_31 fo6_19 (ly32 hL) (lr32_19 hL)).trans ?_
  refine (at_iload_n dc161_26 rfl).trans ?_
  refine (at_iald dc161_27 (ly40 hL) i1).trans ?_
  refine (at_iload_n dc161_28 rfl).trans ?_
  exact at_icmp_ne (t := 34) dc161_29 (by decide)
theorem b161_32 {X : pm_X} {d : Nat} {x1 : Int32} {x2 : Int32} {x3 : Int32} {g : pm_G} {iv : pm_V}  : pm_at X d 161 (32, [some (.ref 32), some (.int x1), some (.int x2), some (.int x3)], [], g, iv) = some (some (.int x3), g, iv) := by
  refine (at_iload_n dc161_32 rfl).trans ?_
  exact at_iret dc161_33 mr161
theorem b161_34 {X : pm_X} {d : Nat} {x1 : Int32} {x2 : Int32} {x3 : Int32} {g : pm_G} {iv : pm_V}  : pm_at X d 161 (34, [some (.ref 32), some (.int x1), some (.int x2), some (.int x3)], [], g, iv) = pm_at X d 161 (2, [some (.ref 32), some (.int x1), some (.int x2), some (.int (x3 + 1))], [], g, iv) := by
  refine (at_iinc (v := 1) dc161_34 rfl (by decide) rfl).trans ?_
  refine (at_goto (t := 2) dc161_37 (by decide)).trans ?_
  rfl
theorem b161_40 {X : pm_X} {d : Nat} {x1 : Int32} {x2 : Int32} {x3 : Int32} {g : pm_G} {iv : pm_V}  : pm_at X d 161 (40, [some (.ref 32), some (.int x1), some (.int x2), some (.int x3)], [], g, iv) = some (some (.int (-1000000)), g, iv) := by
  refine (at_ldc dc161_40 mc161 lk6_86).trans ?_
  exact at_iret dc161_42 mr161
-- Mod.roll (I)V
theorem dc162_0 : decode (pm_mb 162) 0 = .ok (.aload_n 0, 1) := by decide +kernel
theorem dc162_1 : decode (pm_mb 162) 1 = .ok (.getfield 31, 3) := by decide +kernel
theorem dc162_4 : decode (pm_mb 162) 4 = .ok (.iload_n 1, 1) := by decide +kernel
theorem dc162_5 : decode (pm_mb 162) 5 = .ok (.iaload, 1) := by decide +kernel
theorem dc162_6 : decode (pm_mb 162) 6 = .ok (.iconst 1, 1) := by decide +kernel
theorem dc162_7 : decode (pm_mb 162) 7 = .ok (.iadd, 1) := by decide +kernel
theorem dc162_8 : decode (pm_mb 162) 8 = .ok (.istore_n 2, 1) := by decide +kernel
theorem dc162_9 : decode (pm_mb 162) 9 = .ok (.iload_n 2, 1) := by decide +kernel
theorem dc162_10 : decode (pm_mb 162) 10 = .ok (.aload_n 0, 1) := by decide +kernel
theorem dc162_11 : decode (pm_mb 162) 11 = .ok (.getfield 19, 3) := by decide +kernel
theorem dc162_14 : decode (pm_mb 162) 14 = .ok (.iconst 1, 1) := by decide +kernel
theorem dc162_15 : decode (pm_mb 162) 15 = .ok (.iaload, 1) := by decide +kernel
theorem dc162_16 : decode (pm_mb 162) 16 = .ok (.if_icmp .ge 40, 3) := by decide +kernel
theorem dc162_19 : decode (pm_mb 162) 19 = .ok (.aload_n 0, 1) := by decide +kernel
theorem dc162_20 : decode (pm_mb 162) 20 = .ok (.aload_n 0, 1) := by decide +kernel
theorem dc162_21 : decode (pm_mb 162) 21 = .ok (.iload_n 1, 1) := by decide +kernel
theorem dc162_22 : decode (pm_mb 162) 22 = .ok (.iconst 1, 1) := by decide +kernel
theorem dc162_23 : decode (pm_mb 162) 23 = .ok (.invokevirtual 187, 3) := by decide +kernel
theorem dc162_26 : decode (pm_mb 162) 26 = .ok (.iload_n 2, 1) := by decide +kernel
theorem dc162_27 : decode (pm_mb 162) 27 = .ok (.invokevirtual 190, 3) := by decide +kernel
theorem dc162_30 : decode (pm_mb 162) 30 = .ok (.ifCond .ne 26, 3) := by decide +kernel
theorem dc162_33 : decode (pm_mb 162) 33 = .ok (.aload_n 0, 1) := by decide +kernel
theorem dc162_34 : decode (pm_mb 162) 34 = .ok (.aload_n 0, 1) := by decide +kernel
theorem dc162_35 : decode (pm_mb 162) 35 = .ok (.iload_n 1, 1) := by decide +kernel
theorem dc162_36 : decode (pm_mb 162) 36 = .ok (.iconst 1, 1) := by decide +kernel
theorem dc162_37 : decode (pm_mb 162) 37 = .ok (.invokevirtual 187, 3) := by decide +kernel
theorem dc162_40 : decode (pm_mb 162) 40 = .ok (.iload_n 2, 1) := by decide +kernel
theorem dc162_41 : decode (pm_mb 162) 41 = .ok (.invokevirtual 193, 3) := by decide +kernel
theorem dc162_44 : decode (pm_mb 162) 44 = .ok (.ldc 86, 2) := by decide +kernel
theorem dc162_46 : decode (pm_mb 162) 46 = .ok (.if_icmp .ne 10, 3) := by decide +kernel
theorem dc162_49 : decode (pm_mb 162) 49 = .ok (.aload_n 0, 1) := by decide +kernel
theorem dc162_50 : decode (pm_mb 162) 50 = .ok (.getfield 31, 3) := by decide +kernel
theorem dc162_53 : decode (pm_mb 162) 53 = .ok (.iload_n 1, 1) := by decide +kernel
theorem dc162_54 : decode (pm_mb 162) 54 = .ok (.iload_n 2, 1) := by decide +kernel
theorem dc162_55 : decode (pm_mb 162) 55 = .ok (.iastore, 1) := by decide +kernel
theorem dc162_56 : decode (pm_mb 162) 56 = .ok (.return_, 1) := by decide +kernel
theorem b162_0 {X : pm_X} {d : Nat} {x1 : Int32} {g : pm_G} {iv : pm_V} (hL : pm_lay g) (i1 : vp_in x1 6) : pm_at X d 162 (0, [some (.ref 32), some (.int x1), none], [], g, iv) = if (iv 36 1) ≤ ((iv 40 (x1 : Int32).toNatClampNeg) + 1) then pm_at X d 162 (56, [some (.ref 32), some (.int x1), some (.int ((iv 40 (x1 : Int32).toNatClampNeg) + 1))], [], g, iv) else pm_at X d 162 (19, [some (.ref 32), some (.int x1), some (.int ((iv 40 (x1 : Int32).toNatClampNeg) + 1))], [], g, iv) := by
  refine (at_aload_n dc162_0 rfl).trans ?_
  refine (at_gfR dc162_1 mc162 lf6_31 fo6_19 (ly32 hL) (lr32_19 hL)).trans ?_
  refine (at_iload_n dc162_4 rfl).trans ?_
  refine (at_iald dc162_5 (ly40 hL) i1).trans ?_
  refine (at_iconst (v := 1) dc162_6 rfl).trans ?_
  refine (at_iadd dc162_7).trans ?_
  refine (at_istore_n dc162_8 rfl).trans ?_
  refine (at_iload_n dc162_9 rfl).trans ?_
  refine (at_aload_n dc162_10 rfl).trans ?_
  refine (at_gfR dc162_11 mc162 lf6_19 fo6_5 (ly32 hL) (lr32_5 hL)).trans ?_
  refine (at_iconst (v := 1) dc162_14 rfl).trans ?_
  refine (at_iald dc162_15 (ly36 hL) (vp_in_nI (n := 1) (by decide) (by decide))).trans ?_
  exact at_icmp_ge (t := 56) dc162_16 (by decide)
theorem b162_19 {X : pm_X} {d : Nat} {x1 : Int32} {x2 : Int32} {g : pm_G} {iv : pm_V} (hL : pm_lay g) : pm_at X d 162 (19, [some (.ref 32), some (.int x1), some (.int x2)], [], g, iv) = pm_then X d 162 26 [some (.ref 32), some (.int x1), some (.int x2)] [.ref 32] (pm_c X d 158 [.ref 32, .int x1, .int 1] g iv) := by
  refine (at_aload_n dc162_19 rfl).trans ?_
  refine (at_aload_n dc162_20 rfl).trans ?_
  refine (at_iload_n dc162_21 rfl).trans ?_
  refine (at_iconst (v := 1) dc162_22 rfl).trans ?_
  exact at_inv dc162_23 mc162 lm6_187 rfl rfl (Nat.le_of_ble_eq_true rfl) (Or.inl ⟨(ly32 hL), by decide⟩)
theorem b162_26 {X : pm_X} {d : Nat} {x1 : Int32} {x2 : Int32} {s0 : Int32} {g : pm_G} {iv : pm_V} (hL : pm_lay g) : pm_at X d 162 (26, [some (.ref 32), some (.int x1), some (.int x2)], [.int s0, .ref 32], g, iv) = pm_then X d 162 30 [some (.ref 32), some (.int x1), some (.int x2)] [] (pm_c X d 159 [.ref 32, .int s0, .int x2] g iv) := by
  refine (at_iload_n dc162_26 rfl).trans ?_
  exact at_inv dc162_27 mc162 lm6_190 rfl rfl (Nat.le_of_ble_eq_true rfl) (Or.inl ⟨(ly32 hL), by decide⟩)
theorem b162_30 {X : pm_X} {d : Nat} {x1 : Int32} {x2 : Int32} {s0 : Int32} {g : pm_G} {iv : pm_V}  : pm_at X d 162 (30, [some (.ref 32), some (.int x1), some (.int x2)], [.int s0], g, iv) = if ¬ s0 = 0 then pm_at X d 162 (56, [some (.ref 32), some (.int x1), some (.int x2)], [], g, iv) else pm_at X d 162 (33, [some (.ref 32), some (.int x1), some (.int x2)], [], g, iv) := by
  exact at_if_ne (t := 56) dc162_30 (by decide)
theorem b162_33 {X : pm_X} {d : Nat} {x1 : Int32} {x2 : Int32} {g : pm_G} {iv : pm_V} (hL : pm_lay g) : pm_at X d 162 (33, [some (.ref 32), some (.int x1), some (.int x2)], [], g, iv) = pm_then X d 162 40 [some (.ref 32), some (.int x1), some (.int x2)] [.ref 32] (pm_c X d 158 [.ref 32, .int x1, .int 1] g iv) := by
  refine (at_aload_n dc162_33 rfl).trans ?_
  refine (at_aload_n dc162_34 rfl).trans ?_
  refine (at_iload_n dc162_35 rfl).trans ?_
  refine (at_iconst (v := 1) dc162_36 rfl).trans ?_
  exact at_inv dc162_37 mc162 lm6_187 rfl rfl (Nat.le_of_ble_eq_true rfl) (Or.inl ⟨(ly32 hL), by decide⟩)
theorem b162_40 {X : pm_X} {d : Nat} {x1 : Int32} {x2 : Int32} {s0 : Int32} {g : pm_G} {iv : pm_V} (hL : pm_lay g) : pm_at X d 162 (40, [some (.ref 32), some (.int x1), some (.int x2)], [.int s0, .ref 32], g, iv) = pm_then X d 162 44 [some (.ref 32), some (.int x1), some (.int x2)] [] (pm_c X d 161 [.ref 32, .int s0, .int x2] g iv) := by
  refine (at_iload_n dc162_40 rfl).trans ?_
  exact at_inv dc162_41 mc162 lm6_193 rfl rfl (Nat.le_of_ble_eq_true rfl) (Or.inl ⟨(ly32 hL), by decide⟩)
theorem b162_44 {X : pm_X} {d : Nat} {x1 : Int32} {x2 : Int32} {s0 : Int32} {g : pm_G} {iv : pm_V}  : pm_at X d 162 (44, [some (.ref 32), some (.int x1), some (.int x2)], [.int s0], g, iv) = if ¬ s0 = (-1000000) then pm_at X d 162 (56, [some (.ref 32), some (.int x1), some (.int x2)], [], g, iv) else pm_at X d 162 (49, [some (.ref 32), some (.int x1), some (.int x2)], [], g, iv) := by
  refine (at_ldc dc162_44 mc162 lk6_86).trans ?_
  exact at_icmp_ne (t := 56) dc162_46 (by decide)
theorem b162_49 {X : pm_X} {d : Nat} {x1 : Int32} {x2 : Int32} {g : pm_G} {iv : pm_V} (hL : pm_lay g) (i1 : vp_in x1 6) : pm_at X d 162 (49, [some (.ref 32), some (.int x1), some (.int x2)], [], g, iv) = pm_at X d 162 (56, [some (.ref 32), some (.int x1), some (.int x2)], [], g, (pm_iw iv 40 (x1 : Int32).toNatClampNeg x2)) := by
  refine (at_aload_n dc162_49 rfl).trans ?_
  refine (at_gfR dc162_50 mc162 lf6_31 fo6_19 (ly32 hL) (lr32_19 hL)).trans ?_
  refine (at_iload_n dc162_53 rfl).trans ?_
  refine (at_iload_n dc162_54 rfl).trans ?_
  refine (at_iast dc162_55 (ly40 hL) i1).trans ?_
  rfl
theorem b162_56 {X : pm_X} {d : Nat} {x1 : Int32} {x2 : Int32} {g : pm_G} {iv : pm_V}  : pm_at X d 162 (56, [some (.ref 32), some (.int x1), some (.int x2)], [], g, iv) = some (none, g, iv) := by
  exact at_vret dc162_56 mr162
-- Mod.isAlone (I)Z
theorem dc163_0 : decode (pm_mb 163) 0 = .ok (.iconst 1, 1) := by decide +kernel
theorem dc163_1 : decode (pm_mb 163) 1 = .ok (.istore_n 2, 1) := by decide +kernel
theorem dc163_2 : decode (pm_mb 163) 2 = .ok (.iconst 0, 1) := by decide +kernel
theorem dc163_3 : decode (pm_mb 163) 3 = .ok (.istore_n 3, 1) := by decide +kernel
theorem dc163_4 : decode (pm_mb 163) 4 = .ok (.iload_n 3, 1) := by decide +kernel
theorem dc163_5 : decode (pm_mb 163) 5 = .ok (.aload_n 0, 1) := by decide +kernel
theorem dc163_6 : decode (pm_mb 163) 6 = .ok (.getfield 19, 3) := by decide +kernel
theorem dc163_9 : decode (pm_mb 163) 9 = .ok (.iconst 3, 1) := by decide +kernel
theorem dc163_10 : decode (pm_mb 163) 10 = .ok (.iaload, 1) := by decide +kernel
theorem dc163_11 : decode (pm_mb 163) 11 = .ok (.if_icmp .ge 39, 3) := by decide +kernel
theorem dc163_14 : decode (pm_mb 163) 14 = .ok (.iload_n 2, 1) := by decide +kernel
theorem dc163_15 : decode (pm_mb 163) 15 = .ok (.ifCond .eq 27, 3) := by decide +kernel
theorem dc163_18 : decode (pm_mb 163) 18 = .ok (.iload_n 3, 1) := by decide +kernel
theorem dc163_19 : decode (pm_mb 163) 19 = .ok (.iload_n 1, 1) := by decide +kernel
theorem dc163_20 : decode (pm_mb 163) 20 = .ok (.if_icmp .eq 18, 3) := by decide +kernel
theorem dc163_23 : decode (pm_mb 163) 23 = .ok (.aload_n 0, 1) := by decide +kernel
theorem dc163_24 : decode (pm_mb 163) 24 = .ok (.getfield 37, 3) := by decide +kernel
theorem dc163_27 : decode (pm_mb 163) 27 = .ok (.iload_n 3, 1) := by decide +kernel
theorem dc163_28 : decode (pm_mb 163) 28 = .ok (.iaload, 1) := by decide +kernel
theorem dc163_29 : decode (pm_mb 163) 29 = .ok (.aload_n 0, 1) := by decide +kernel
theorem dc163_30 : decode (pm_mb 163) 30 = .ok (.getfield 37, 3) := by decide +kernel
theorem dc163_33 : decode (pm_mb 163) 33 = .ok (.iload_n 1, 1) := by decide +kernel
theorem dc163_34 : decode (pm_mb 163) 34 = .ok (.iaload, 1) := by decide +kernel
theorem dc163_35 : decode (pm_mb 163) 35 = .ok (.if_icmp .eq 7, 3) := by decide +kernel
theorem dc163_38 : decode (pm_mb 163) 38 = .ok (.iconst 1, 1) := by decide +kernel
theorem dc163_39 : decode (pm_mb 163) 39 = .ok (.goto 4, 3) := by decide +kernel
theorem dc163_42 : decode (pm_mb 163) 42 = .ok (.iconst 0, 1) := by decide +kernel
theorem dc163_43 : decode (pm_mb 163) 43 = .ok (.istore_n 2, 1) := by decide +kernel
theorem dc163_44 : decode (pm_mb 163) 44 = .ok (.iinc 3 1, 3) := by decide +kernel
theorem dc163_47 : decode (pm_mb 163) 47 = .ok (.goto (-43), 3) := by decide +kernel
theorem dc163_50 : decode (pm_mb 163) 50 = .ok (.iload_n 2, 1) := by decide +kernel
theorem dc163_51 : decode (pm_mb 163) 51 = .ok (.ireturn, 1) := by decide +kernel
theorem b163_0 {X : pm_X} {d : Nat} {x1 : Int32} {g : pm_G} {iv : pm_V}  : pm_at X d 163 (0, [some (.ref 32), some (.int x1), none, none], [], g, iv) = pm_at X d 163 (4, [some (.ref 32), some (.int x1), some (.int 1), some (.int 0)], [], g, iv) := by
  refine (at_iconst (v := 1) dc163_0 rfl).trans ?_
  refine (at_istore_n dc163_1 rfl).trans ?_
  refine (at_iconst (v := 0) dc163_2 rfl).trans ?_
  refine (at_istore_n dc163_3 rfl).trans ?_
  rfl
theorem b163_4 {X : pm_X} {d : Nat} {x1 : Int32} {x2 : Int32} {x3 : Int32} {g : pm_G} {iv : pm_V} (hL : pm_lay g) : pm_at X d 163 (4, [some (.ref 32), some (.int x1), some (.int x2), some (.int x3)], [], g, iv) = if (iv 36 3) ≤ x3 then pm_at X d 163 (50, [some (.ref 32), some (.int x1), some (.int x2), some (.int x3)], [], g, iv) else pm_at X d 163 (14, [some (.ref 32), some (.int x1), some (.int x2), some (.int x3)], [], g, iv) := by
  refine (at_iload_n dc163_4 rfl).trans ?_
  refine (at_aload_n dc163_5 rfl).trans ?_
  refine (at_gfR dc163_6 mc163 lf6_19 fo6_5 (ly32 hL) (lr32_5 hL)).trans ?_
  refine (at_iconst (v := 3) dc163_9 rfl).trans ?_
  refine (at_iald dc163_10 (ly36 hL) (vp_in_nI (n := 3) (by decide) (by decide))).trans ?_
  exact at_icmp_ge (t := 50) dc163_11 (by decide)
theorem b163_14 {X : pm_X} {d : Nat} {x1 : Int32} {x2 : Int32} {x3 : Int32} {g : pm_G} {iv : pm_V}  : pm_at X d 163 (14, [some (.ref 32), some (.int x1), some (.int x2), some (.int x3)], [], g, iv) = if x2 = 0 then pm_at X d 163 (42, [some (.ref 32), some (.int x1), some (.int x2), some (.int x3)], [], g, iv) else pm_at X d 163 (18, [some (.ref 32), some (.int x1), some (.int x2), some (.int x3)], [], g, iv) := by
  refine (at_iload_n dc163_14 rfl).trans ?_
  exact at_if_eq (t := 42) dc163_15 (by decide)
theorem b163_18 {X : pm_X} {d : Nat} {x1 : Int32} {x2 : Int32} {x3 : Int32} {g : pm_G} {iv : pm_V}  : pm_at X d 163 (18, [some (.ref 32), some (.int x1), some (.int x2), some (.int x3)], [], g, iv) = if x3 = x1 then pm_at X d 163 (38, [some (.ref 32), some (.int x1), some (.int x2), some (.int x3)], [], g, iv) else pm_at X d 163 (23, [some (.ref 32), some (.int x1), some (.int x2), some (.int x3)], [], g, iv) := by
  refine (at_iload_n dc163_18 rfl).trans ?_
  refine (at_iload_n dc163_19 rfl).trans ?_
  exact at_icmp_eq (t := 38) dc163_20 (by decide)
theorem b163_23 {X : pm_X} {d : Nat} {x1 : Int32} {x2 : Int32} {x3 : Int32} {g : pm_G} {iv : pm_V} (hL : pm_lay g) (i1 : vp_in x3 6) (i2 : vp_in x1 6) : pm_at X d 163 (23, [some (.ref 32), some (.int x1), some (.int x2), some (.int x3)], [], g, iv) = if (iv 42 (x3 : Int32).toNatClampNeg) = (iv 42 (x1 : Int32).toNatClampNeg) then pm_at X d 163 (42, [some (.ref 32), some (.int x1), some (.int x2), some (.int x3)], [], g, iv) else pm_at X d 163 (38, [some (.ref 32), some (.int x1), some (.int x2), some (.int x3)], [], g, iv) := by
  refine (at_aload_n dc163_23 rfl).trans ?_
  refine (at_gfR dc163_24 mc163 lf6_37 fo6_21 (ly32 hL) (lr32_21 hL)).trans ?_
  refine (at_iload_n dc163_27 rfl).trans ?_
  refine (at_iald dc163_28 (ly42 hL) i1).trans ?_
  refine (at_aload_n dc163_29 rfl).trans ?_
  refine (at_gfR dc163_30 mc163 lf6_37 fo6_21 (ly32 hL) (lr32_21 hL)).trans ?_
  refine (at_iload_n dc163_33 rfl).trans ?_
  refine (at_iald dc163_34 (ly42 hL) i2).trans ?_
  exact at_icmp_eq (t := 42) dc163_35 (by decide)
theorem b163_38 {X : pm_X} {d : Nat} {x1 : Int32} {x2 : Int32} {x3 : Int32} {g : pm_G} {iv : pm_V}  : pm_at X d 163 (38, [some (.ref 32), some (.int x1), some (.int x2), some (.int x3)], [], g, iv) = pm_at X d 163 (43, [some (.ref 32), some (.int x1), some (.int x2), some (.int x3)], [.int 1], g, iv) := by
  refine (at_iconst (v := 1) dc163_38 rfl).trans ?_
  refine (at_goto (t := 43) dc163_39 (by decide)).trans ?_
  rfl
theorem b163_42 {X : pm_X} {d : Nat} {x1 : Int32} {x2 : Int32} {x3 : Int32} {g : pm_G} {iv : pm_V}  : pm_at X d 163 (42, [some (.ref 32), some (.int x1), some (.int x2), some (.int x3)], [], g, iv) = pm_at X d 163 (43, [some (.ref 32), some (.int x1), some (.int x2), some (.int x3)], [.int 0], g, iv) := by
  refine (at_iconst (v := 0) dc163_42 rfl).trans ?_
  rfl
theorem b163_43 {X : pm_X} {d : Nat} {x1 : Int32} {x2 : Int32} {x3 : Int32} {s0 : Int32} {g : pm_G} {iv : pm_V}  : pm_at X d 163 (43, [some (.ref 32), some (.int x1), some (.int x2), some (.int x3)], [.int s0], g, iv) = pm_at X d 163 (4, [some (.ref 32), some (.int x1), some (.int s0), some (.int (x3 + 1))], [], g, iv) := by
  refine (at_istore_n dc163_43 rfl).trans ?_
  refine (at_iinc (v := 1) dc163_44 rfl (by decide) rfl).trans ?_
  refine (at_goto (t := 4) dc163_47 (by decide)).trans ?_
  rfl
theorem b163_50 {X : pm_X} {d : Nat} {x1 : Int32} {x2 : Int32} {x3 : Int32} {g : pm_G} {iv : pm_V}  : pm_at X d 163 (50, [some (.ref 32), some (.int x1), some (.int x2), some (.int x3)], [], g, iv) = pm_zr x2 (some (some (.int x2), g, iv)) := by
  refine (at_iload_n dc163_50 rfl).trans ?_
  exact at_zretG dc163_51 mr163
-- Mod.goHouse (II)V
theorem dc164_0 : decode (pm_mb 164) 0 = .ok (.aload_n 0, 1) := by decide +kernel
theorem dc164_1 : decode (pm_mb 164) 1 = .ok (.iload_n 1, 1) := by decide +kernel
theorem dc164_2 : decode (pm_mb 164) 2 = .ok (.iconst 0, 1) := by decide +kernel
theorem dc164_3 : decode (pm_mb 164) 3 = .ok (.invokevirtual 187, 3) := by decide +kernel
theorem dc164_6 : decode (pm_mb 164) 6 = .ok (.istore_n 3, 1) := by decide +kernel
theorem dc164_7 : decode (pm_mb 164) 7 = .ok (.aload_n 0, 1) := by decide +kernel
theorem dc164_8 : decode (pm_mb 164) 8 = .ok (.getfield 34, 3) := by decide +kernel
theorem dc164_11 : decode (pm_mb 164) 11 = .ok (.iload_n 1, 1) := by decide +kernel
theorem dc164_12 : decode (pm_mb 164) 12 = .ok (.iaload, 1) := by decide +kernel
theorem dc164_13 : decode (pm_mb 164) 13 = .ok (.iconst 1, 1) := by decide +kernel
theorem dc164_14 : decode (pm_mb 164) 14 = .ok (.if_icmp .eq 28, 3) := by decide +kernel
theorem dc164_17 : decode (pm_mb 164) 17 = .ok (.iload_n 3, 1) := by decide +kernel
theorem dc164_18 : decode (pm_mb 164) 18 = .ok (.iconst 1, 1) := by decide +kernel
theorem dc164_19 : decode (pm_mb 164) 19 = .ok (.if_icmp .ne 10, 3) := by decide +kernel
theorem dc164_22 : decode (pm_mb 164) 22 = .ok (.iload_n 2, 1) := by decide +kernel
theorem dc164_23 : decode (pm_mb 164) 23 = .ok (.iconst 2, 1) := by decide +kernel
theorem dc164_24 : decode (pm_mb 164) 24 = .ok (.irem, 1) := by decide +kernel
theorem dc164_25 : decode (pm_mb 164) 25 = .ok (.iconst 1, 1) := by decide +kernel
theorem dc164_26 : decode (pm_mb 164) 26 = .ok (.if_icmp .eq 16, 3) := by decide +kernel
theorem dc164_29 : decode (pm_mb 164) 29 = .ok (.iload_n 3, 1) := by decide +kernel
theorem dc164_30 : decode (pm_mb 164) 30 = .ok (.iconst 2, 1) := by decide +kernel
theorem dc164_31 : decode (pm_mb 164) 31 = .ok (.if_icmp .ne 15, 3) := by decide +kernel
theorem dc164_34 : decode (pm_mb 164) 34 = .ok (.aload_n 0, 1) := by decide +kernel
theorem dc164_35 : decode (pm_mb 164) 35 = .ok (.iload_n 1, 1) := by decide +kernel
theorem dc164_36 : decode (pm_mb 164) 36 = .ok (.invokevirtual 196, 3) := by decide +kernel
theorem dc164_39 : decode (pm_mb 164) 39 = .ok (.ifCond .ne 7, 3) := by decide +kernel
theorem dc164_42 : decode (pm_mb 164) 42 = .ok (.iconst 1, 1) := by decide +kernel
theorem dc164_43 : decode (pm_mb 164) 43 = .ok (.goto 4, 3) := by decide +kernel
theorem dc164_46 : decode (pm_mb 164) 46 = .ok (.iconst 0, 1) := by decide +kernel
theorem dc164_47 : decode (pm_mb 164) 47 = .ok (.istore 4, 2) := by decide +kernel
theorem dc164_49 : decode (pm_mb 164) 49 = .ok (.iconst 0, 1) := by decide +kernel
theorem dc164_50 : decode (pm_mb 164) 50 = .ok (.istore 5, 2) := by decide +kernel
theorem dc164_52 : decode (pm_mb 164) 52 = .ok (.iload 5, 2) := by decide +kernel
theorem dc164_54 : decode (pm_mb 164) 54 = .ok (.iload_n 3, 1) := by decide +kernel
theorem dc164_55 : decode (pm_mb 164) 55 = .ok (.iconst 3, 1) := by decide +kernel
theorem dc164_56 : decode (pm_mb 164) 56 = .ok (.if_icmp .ne 7, 3) := by decide +kernel
theorem dc164_59 : decode (pm_mb 164) 59 = .ok (.iconst 2, 1) := by decide +kernel
theorem dc164_60 : decode (pm_mb 164) 60 = .ok (.goto 4, 3) := by decide +kernel
theorem dc164_63 : decode (pm_mb 164) 63 = .ok (.iconst 1, 1) := by decide +kernel
theorem dc164_64 : decode (pm_mb 164) 64 = .ok (.if_icmp .ge 19, 3) := by decide +kernel
theorem dc164_67 : decode (pm_mb 164) 67 = .ok (.iload 4, 2) := by decide +kernel
theorem dc164_69 : decode (pm_mb 164) 69 = .ok (.ifCond .ne 14, 3) := by decide +kernel
theorem dc164_72 : decode (pm_mb 164) 72 = .ok (.aload_n 0, 1) := by decide +kernel
theorem dc164_73 : decode (pm_mb 164) 73 = .ok (.iload_n 1, 1) := by decide +kernel
theorem dc164_74 : decode (pm_mb 164) 74 = .ok (.invokevirtual 199, 3) := by decide +kernel
theorem dc164_77 : decode (pm_mb 164) 77 = .ok (.iinc 5 1, 3) := by decide +kernel
theorem dc164_80 : decode (pm_mb 164) 80 = .ok (.goto (-28), 3) := by decide +kernel
theorem dc164_83 : decode (pm_mb 164) 83 = .ok (.return_, 1) := by decide +kernel
theorem b164_0 {X : pm_X} {d : Nat} {x1 : Int32} {x2 : Int32} {g : pm_G} {iv : pm_V} (hL : pm_lay g) : pm_at X d 164 (0, [some (.ref 32), some (.int x1), some (.int x2), none, none, none], [], g, iv) = pm_then X d 164 6 [some (.ref 32), some (.int x1), some (.int x2), none, none, none] [] (pm_c X d 158 [.ref 32, .int x1, .int 0] g iv) := by
  refine (at_aload_n dc164_0 rfl).trans ?_
  refine (at_iload_n dc164_1 rfl).trans ?_
  refine (at_iconst (v := 0) dc164_2 rfl).trans ?_
  exact at_inv dc164_3 mc164 lm6_187 rfl rfl (Nat.le_of_ble_eq_true rfl) (Or.inl ⟨(ly32 hL), by decide⟩)
theorem b164_6 {X : pm_X} {d : Nat} {x1 : Int32} {x2 : Int32} {s0 : Int32} {g : pm_G} {iv : pm_V} (hL : pm_lay g) (i1 : vp_in x1 6) : pm_at X d 164 (6, [some (.ref 32), some (.int x1), some (.int x2), none, none, none], [.int s0], g, iv) = if (iv 41 (x1 : Int32).toNatClampNeg) = 1 then pm_at X d 164 (42, [some (.ref 32), some (.int x1), some (.int x2), some (.int s0), none, none], [], g, iv) else pm_at X d 164 (17, [some (.ref 32), some (.int x1), some (.int x2), some (.int s0), none, none], [], g, iv) := by
  refine (at_istore_n dc164_6 rfl).trans ?_
  refine (at_aload_n dc164_7 rfl).trans ?_
  refine (at_gfR dc164_8 mc164 lf6_34 fo6_20 (ly32 hL) (lr32_20 hL)).trans ?_
  refine (at_iload_n dc164_11 rfl).trans ?_
  refine (at_iald dc164_12 (ly41 hL) i1).trans ?_
  refine (at_iconst (v := 1) dc164_13 rfl).trans ?_
  exact at_icmp_eq (t := 42) dc164_14 (by decide)
theorem b164_17 {X : pm_X} {d : Nat} {x1 : Int32} {x2 : Int32} {x3 : Int32} {g : pm_G} {iv : pm_V}  : pm_at X d 164 (17, [some (.ref 32), some (.int x1), some (.int x2), some (.int x3), none, none], [], g, iv) = if ¬ x3 = 1 then pm_at X d 164 (29, [some (.ref 32), some (.int x1), some (.int x2), some (.int x3), none, none], [], g, iv) else pm_at X d 164 (22, [some (.ref 32), some (.int x1), some (.int x2), some (.int x3), none, none], [], g, iv) := by
  refine (at_iload_n dc164_17 rfl).trans ?_
  refine (at_iconst (v := 1) dc164_18 rfl).trans ?_
  exact at_icmp_ne (t := 29) dc164_19 (by decide)
theorem b164_22 {X : pm_X} {d : Nat} {x1 : Int32} {x2 : Int32} {x3 : Int32} {g : pm_G} {iv : pm_V}  : pm_at X d 164 (22, [some (.ref 32), some (.int x1), some (.int x2), some (.int x3), none, none], [], g, iv) = if (x2 - x2 / 2 * 2) = 1 then pm_at X d 164 (42, [some (.ref 32), some (.int x1), some (.int x2), some (.int x3), none, none], [], g, iv) else pm_at X d 164 (29, [some (.ref 32), some (.int x1), some (.int x2), some (.int x3), none, none], [], g, iv) := by
  refine (at_iload_n dc164_22 rfl).trans ?_
  refine (at_iconst (v := 2) dc164_23 rfl).trans ?_
  refine (at_irem dc164_24 (by decide)).trans ?_
  refine (at_iconst (v := 1) dc164_25 rfl).trans ?_
  exact at_icmp_eq (t := 42) dc164_26 (by decide)
theorem b164_29 {X : pm_X} {d : Nat} {x1 : Int32} {x2 : Int32} {x3 : Int32} {g : pm_G} {iv : pm_V}  : pm_at X d 164 (29, [some (.ref 32), some (.int x1), some (.int x2), some (.int x3), none, none], [], g, iv) = if ¬ x3 = 2 then pm_at X d 164 (46, [some (.ref 32), some (.int x1), some (.int x2), some (.int x3), none, none], [], g, iv) else pm_at X d 164 (34, [some (.ref 32), some (.int x1), some (.int x2), some (.int x3), none, none], [], g, iv) := by
  refine (at_iload_n dc164_29 rfl).trans ?_
  refine (at_iconst (v := 2) dc164_30 rfl).trans ?_
  exact at_icmp_ne (t := 46) dc164_31 (by decide)
theorem b164_34 {X : pm_X} {d : Nat} {x1 : Int32} {x2 : Int32} {x3 : Int32} {g : pm_G} {iv : pm_V} (hL : pm_lay g) : pm_at X d 164 (34, [some (.ref 32), some (.int x1), some (.int x2), some (.int x3), none, none], [], g, iv) = pm_then X d 164 39 [some (.ref 32), some (.int x1), some (.int x2), some (.int x3), none, none] [] (pm_c X d 163 [.ref 32, .int x1] g iv) := by
  refine (at_aload_n dc164_34 rfl).trans ?_
  refine (at_iload_n dc164_35 rfl).trans ?_
  exact at_inv dc164_36 mc164 lm6_196 rfl rfl (Nat.le_of_ble_eq_true rfl) (Or.inl ⟨(ly32 hL), by decide⟩)
theorem b164_39 {X : pm_X} {d : Nat} {x1 : Int32} {x2 : Int32} {x3 : Int32} {s0 : Int32} {g : pm_G} {iv : pm_V}  : pm_at X d 164 (39, [some (.ref 32), some (.int x1), some (.int x2), some (.int x3), none, none], [.int s0], g, iv) = if ¬ s0 = 0 then pm_at X d 164 (46, [some (.ref 32), some (.int x1), some (.int x2), some (.int x3), none, none], [], g, iv) else pm_at X d 164 (42, [some (.ref 32), some (.int x1), some (.int x2), some (.int x3), none, none], [], g, iv) := by
  exact at_if_ne (t := 46) dc164_39 (by decide)
theorem b164_42 {X : pm_X} {d : Nat} {x1 : Int32} {x2 : Int32} {x3 : Int32} {g : pm_G} {iv : pm_V}  : pm_at X d 164 (42, [some (.ref 32), some (.int x1), some (.int x2), some (.int x3), none, none], [], g, iv) = pm_at X d 164 (47, [some (.ref 32), some (.int x1), some (.int x2), some (.int x3), none, none], [.int 1], g, iv) := by
  refine (at_iconst (v := 1) dc164_42 rfl).trans ?_
  refine (at_goto (t := 47) dc164_43 (by decide)).trans ?_
  rfl
theorem b164_46 {X : pm_X} {d : Nat} {x1 : Int32} {x2 : Int32} {x3 : Int32} {g : pm_G} {iv : pm_V}  : pm_at X d 164 (46, [some (.ref 32), some (.int x1), some (.int x2), some (.int x3), none, none], [], g, iv) = pm_at X d 164 (47, [some (.ref 32), some (.int x1), some (.int x2), some (.int x3), none, none], [.int 0], g, iv) := by
  refine (at_iconst (v := 0) dc164_46 rfl).trans ?_
  rfl
theorem b164_47 {X : pm_X} {d : Nat} {x1 : Int32} {x2 : Int32} {x3 : Int32} {s0 : Int32} {g : pm_G} {iv : pm_V}  : pm_at X d 164 (47, [some (.ref 32), some (.int x1), some (.int x2), some (.int x3), none, none], [.int s0], g, iv) = pm_at X d 164 (52, [some (.ref 32), some (.int x1), some (.int x2), some (.int x3), some (.int s0), some (.int 0)], [], g, iv) := by
  refine (at_istore dc164_47 rfl).trans ?_
  refine (at_iconst (v := 0) dc164_49 rfl).trans ?_
  refine (at_istore dc164_50 rfl).trans ?_
  rfl
theorem b164_52 {X : pm_X} {d : Nat} {x1 : Int32} {x2 : Int32} {x3 : Int32} {x4 : Int32} {x5 : Int32} {g : pm_G} {iv : pm_V}  : pm_at X d 164 (52, [some (.ref 32), some (.int x1), some (.int x2), some (.int x3), some (.int x4), some (.int x5)], [], g, iv) = if ¬ x3 = 3 then pm_at X d 164 (63, [some (.ref 32), some (.int x1), some (.int x2), some (.int x3), some (.int x4), some (.int x5)], [.int x5], g, iv) else pm_at X d 164 (59, [some (.ref 32), some (.int x1), some (.int x2), some (.int x3), some (.int x4), some (.int x5)], [.int x5], g, iv) := by
  refine (at_iload dc164_52 rfl).trans ?_
  refine (at_iload_n dc164_54 rfl).trans ?_
  refine (at_iconst (v := 3) dc164_55 rfl).trans ?_
  exact at_icmp_ne (t := 63) dc164_56 (by decide)
theorem b164_59 {X : pm_X} {d : Nat} {x1 : Int32} {x2 : Int32} {x3 : Int32} {x4 : Int32} {x5 : Int32} {s0 : Int32} {g : pm_G} {iv : pm_V}  : pm_at X d 164 (59, [some (.ref 32), some (.int x1), some (.int x2), some (.int x3), some (.int x4), some (.int x5)], [.int s0], g, iv) = pm_at X d 164 (64, [some (.ref 32), some (.int x1), some (.int x2), some (.int x3), some (.int x4), some (.int x5)], [.int 2, .int s0], g, iv) := by
  refine (at_iconst (v := 2) dc164_59 rfl).trans ?_
  refine (at_goto (t := 64) dc164_60 (by decide)).trans ?_
  rfl
theorem b164_63 {X : pm_X} {d : Nat} {x1 : Int32} {x2 : Int32} {x3 : Int32} {x4 : Int32} {x5 : Int32} {s0 : Int32} {g : pm_G} {iv : pm_V}  : pm_at X d 164 (63, [some (.ref 32), some (.int x1), some (.int x2), some (.int x3), some (.int x4), some (.int x5)], [.int s0], g, iv) = pm_at X d 164 (64, [some (.ref 32), some (.int x1), some (.int x2), some (.int x3), some (.int x4), some (.int x5)], [.int 1, .int s0], g, iv) := by
  refine (at_iconst (v := 1) dc164_63 rfl).trans ?_
  rfl
theorem b164_64 {X : pm_X} {d : Nat} {x1 : Int32} {x2 : Int32} {x3 : Int32} {x4 : Int32} {x5 : Int32} {s0 : Int32} {s1 : Int32} {g : pm_G} {iv : pm_V}  : pm_at X d 164 (64, [some (.ref 32), some (.int x1), some (.int x2), some (.int x3), some (.int x4), some (.int x5)], [.int s0, .int s1], g, iv) = if s0 ≤ s1 then pm_at X d 164 (83, [some (.ref 32), some (.int x1), some (.int x2), some (.int x3), some (.int x4), some (.int x5)], [], g, iv) else pm_at X d 164 (67, [some (.ref 32), some (.int x1), some (.int x2), some (.int x3), some (.int x4), some (.int x5)], [], g, iv) := by
  exact at_icmp_ge (t := 83) dc164_64 (by decide)
theorem b164_67 {X : pm_X} {d : Nat} {x1 : Int32} {x2 : Int32} {x3 : Int32} {x4 : Int32} {x5 : Int32} {g : pm_G} {iv : pm_V}  : pm_at X d 164 (67, [some (.ref 32), some (.int x1), some (.int x2), some (.int x3), some (.int x4), some (.int x5)], [], g, iv) = if ¬ x4 = 0 then pm_at X d 164 (83, [some (.ref 32), some (.int x1), some (.int x2), some (.int x3), some (.int x4), some (.int x5)], [], g, iv) else pm_at X d 164 (72, [some (.ref 32), some (.int x1), some (.int x2), some (.int x3), some (.int x4), some (.int x5)], [], g, iv) := by
  refine (at_iload dc164_67 rfl).trans ?_
  exact at_if_ne (t := 83) dc164_69 (by decide)
theorem b164_72 {X : pm_X} {d : Nat} {x1 : Int32} {x2 : Int32} {x3 : Int32} {x4 : Int32} {x5 : Int32} {g : pm_G} {iv : pm_V} (hL : pm_lay g) : pm_at X d 164 (72, [some (.ref 32), some (.int x1), some (.int x2), some (.int x3), some (.int x4), some (.int x5)], [], g, iv) = pm_then X d 164 77 [some (.ref 32), some (.int x1), some (.int x2), some (.int x3), some (.int x4), some (.int x5)] [] (pm_c X d 162 [.ref 32, .int x1] g iv) := by
  refine (at_aload_n dc164_72 rfl).trans ?_
  refine (at_iload_n dc164_73 rfl).trans ?_
  exact at_inv dc164_74 mc164 lm6_199 rfl rfl (Nat.le_of_ble_eq_true rfl) (Or.inl ⟨(ly32 hL), by decide⟩)
theorem b164_77 {X : pm_X} {d : Nat} {x1 : Int32} {x2 : Int32} {x3 : Int32} {x4 : Int32} {x5 : Int32} {g : pm_G} {iv : pm_V}  : pm_at X d 164 (77, [some (.ref 32), some (.int x1), some (.int x2), some (.int x3), some (.int x4), some (.int x5)], [], g, iv) = pm_at X d 164 (52, [some (.ref 32), some (.int x1), some (.int x2), some (.int x3), some (.int x4), some (.int (x5 + 1))], [], g, iv) := by
  refine (at_iinc (v := 1) dc164_77 rfl (by decide) rfl).trans ?_
  refine (at_goto (t := 52) dc164_80 (by decide)).trans ?_
  rfl
theorem b164_83 {X : pm_X} {d : Nat} {x1 : Int32} {x2 : Int32} {x3 : Int32} {x4 : Int32} {x5 : Int32} {g : pm_G} {iv : pm_V}  : pm_at X d 164 (83, [some (.ref 32), some (.int x1), some (.int x2), some (.int x3), some (.int x4), some (.int x5)], [], g, iv) = some (none, g, iv) := by
  exact at_vret dc164_83 mr164
-- Mod.goWinter (I)V
theorem dc165_0 : decode (pm_mb 165) 0 = .ok (.iconst 0, 1) := by decide +kernel
theorem dc165_1 : decode (pm_mb 165) 1 = .ok (.istore_n 2, 1) := by decide +kernel
theorem dc165_2 : decode (pm_mb 165) 2 = .ok (.iload_n 2, 1) := by decide +kernel
theorem dc165_3 : decode (pm_mb 165) 3 = .ok (.aload_n 0, 1) := by decide +kernel
theorem dc165_4 : decode (pm_mb 165) 4 = .ok (.getfield 19, 3) := by decide +kernel
theorem dc165_7 : decode (pm_mb 165) 7 = .ok (.iconst 3, 1) := by decide +kernel
theorem dc165_8 : decode (pm_mb 165) 8 = .ok (.iaload, 1) := by decide +kernel
theorem dc165_9 : decode (pm_mb 165) 9 = .ok (.if_icmp .ge 21, 3) := by decide +kernel
theorem dc165_12 : decode (pm_mb 165) 12 = .ok (.aload_n 0, 1) := by decide +kernel
theorem dc165_13 : decode (pm_mb 165) 13 = .ok (.getfield 37, 3) := by decide +kernel
theorem dc165_16 : decode (pm_mb 165) 16 = .ok (.iload_n 2, 1) := by decide +kernel
theorem dc165_17 : decode (pm_mb 165) 17 = .ok (.aload_n 0, 1) := by decide +kernel
theorem dc165_18 : decode (pm_mb 165) 18 = .ok (.getfield 31, 3) := by decide +kernel
theorem dc165_21 : decode (pm_mb 165) 21 = .ok (.iload_n 2, 1) := by decide +kernel
theorem dc165_22 : decode (pm_mb 165) 22 = .ok (.iaload, 1) := by decide +kernel
theorem dc165_23 : decode (pm_mb 165) 23 = .ok (.iastore, 1) := by decide +kernel
theorem dc165_24 : decode (pm_mb 165) 24 = .ok (.iinc 2 1, 3) := by decide +kernel
theorem dc165_27 : decode (pm_mb 165) 27 = .ok (.goto (-25), 3) := by decide +kernel
theorem dc165_30 : decode (pm_mb 165) 30 = .ok (.aload_n 0, 1) := by decide +kernel
theorem dc165_31 : decode (pm_mb 165) 31 = .ok (.getfield 19, 3) := by decide +kernel
theorem dc165_34 : decode (pm_mb 165) 34 = .ok (.iconst 1, 1) := by decide +kernel
theorem dc165_35 : decode (pm_mb 165) 35 = .ok (.iaload, 1) := by decide +kernel
theorem dc165_36 : decode (pm_mb 165) 36 = .ok (.iconst 1, 1) := by decide +kernel
theorem dc165_37 : decode (pm_mb 165) 37 = .ok (.isub, 1) := by decide +kernel
theorem dc165_38 : decode (pm_mb 165) 38 = .ok (.istore_n 2, 1) := by decide +kernel
theorem dc165_39 : decode (pm_mb 165) 39 = .ok (.iload_n 2, 1) := by decide +kernel
theorem dc165_40 : decode (pm_mb 165) 40 = .ok (.ifCond .lt 43, 3) := by decide +kernel
theorem dc165_43 : decode (pm_mb 165) 43 = .ok (.iconst 0, 1) := by decide +kernel
theorem dc165_44 : decode (pm_mb 165) 44 = .ok (.istore_n 3, 1) := by decide +kernel
theorem dc165_45 : decode (pm_mb 165) 45 = .ok (.iload_n 3, 1) := by decide +kernel
theorem dc165_46 : decode (pm_mb 165) 46 = .ok (.aload_n 0, 1) := by decide +kernel
theorem dc165_47 : decode (pm_mb 165) 47 = .ok (.getfield 19, 3) := by decide +kernel
theorem dc165_50 : decode (pm_mb 165) 50 = .ok (.iconst 3, 1) := by decide +kernel
theorem dc165_51 : decode (pm_mb 165) 51 = .ok (.iaload, 1) := by decide +kernel
theorem dc165_52 : decode (pm_mb 165) 52 = .ok (.if_icmp .ge 25, 3) := by decide +kernel
theorem dc165_55 : decode (pm_mb 165) 55 = .ok (.aload_n 0, 1) := by decide +kernel
theorem dc165_56 : decode (pm_mb 165) 56 = .ok (.getfield 37, 3) := by decide +kernel
theorem dc165_59 : decode (pm_mb 165) 59 = .ok (.iload_n 3, 1) := by decide +kernel
theorem dc165_60 : decode (pm_mb 165) 60 = .ok (.iaload, 1) := by decide +kernel
theorem dc165_61 : decode (pm_mb 165) 61 = .ok (.iload_n 2, 1) := by decide +kernel
theorem dc165_62 : decode (pm_mb 165) 62 = .ok (.if_icmp .ne 9, 3) := by decide +kernel
theorem dc165_65 : decode (pm_mb 165) 65 = .ok (.aload_n 0, 1) := by decide +kernel
theorem dc165_66 : decode (pm_mb 165) 66 = .ok (.iload_n 3, 1) := by decide +kernel
theorem dc165_67 : decode (pm_mb 165) 67 = .ok (.iload_n 1, 1) := by decide +kernel
theorem dc165_68 : decode (pm_mb 165) 68 = .ok (.invokevirtual 202, 3) := by decide +kernel
theorem dc165_71 : decode (pm_mb 165) 71 = .ok (.iinc 3 1, 3) := by decide +kernel
theorem dc165_74 : decode (pm_mb 165) 74 = .ok (.goto (-29), 3) := by decide +kernel
theorem dc165_77 : decode (pm_mb 165) 77 = .ok (.iinc 2 (-1), 3) := by decide +kernel
theorem dc165_80 : decode (pm_mb 165) 80 = .ok (.goto (-41), 3) := by decide +kernel
theorem dc165_83 : decode (pm_mb 165) 83 = .ok (.return_, 1) := by decide +kernel
theorem b165_0 {X : pm_X} {d : Nat} {x1 : Int32} {g : pm_G} {iv : pm_V}  : pm_at X d 165 (0, [some (.ref 32), some (.int x1), none, none], [], g, iv) = pm_at X d 165 (2, [some (.ref 32), some (.int x1), some (.int 0), none], [], g, iv) := by
  refine (at_iconst (v := 0) dc165_0 rfl).trans ?_
  refine (at_istore_n dc165_1 rfl).trans ?_
  rfl
theorem b165_2 {X : pm_X} {d : Nat} {x1 : Int32} {x2 : Int32} {g : pm_G} {iv : pm_V} (hL : pm_lay g) : pm_at X d 165 (2, [some (.ref 32), some (.int x1), some (.int x2), none], [], g, iv) = if (iv 36 3) ≤ x2 then pm_at X d 165 (30, [some (.ref 32), some (.int x1), some (.int x2), none], [], g, iv) else pm_at X d 165 (12, [some (.ref 32), some (.int x1), some (.int x2), none], [], g, iv) := by
  refine (at_iload_n dc165_2 rfl).trans ?_
  refine (at_aload_n dc165_3 rfl).trans ?_
  refine (at_gfR dc165_4 mc165 lf6_19 fo6_5 (ly32 hL) (lr32_5 hL)).trans ?_
  refine (at_iconst (v := 3) dc165_7 rfl).trans ?_
  refine (at_iald dc165_8 (ly36 hL) (vp_in_nI (n := 3) (by decide) (by decide))).trans ?_
  exact at_icmp_ge (t := 30) dc165_9 (by decide)
theorem b165_12 {X : pm_X} {d : Nat} {x1 : Int32} {x2 : Int32} {g : pm_G} {iv : pm_V} (hL : pm_lay g) (i1 : vp_in x2 6) : pm_at X d 165 (12, [some (.ref 32), some (.int x1), some (.int x2), none], [], g, iv) = pm_at X d 165 (2, [some (.ref 32), some (.int x1), some (.int (x2 + 1)), none], [], g, (pm_iw iv 42 (x2 : Int32).toNatClampNeg ((iv 40 (x2 : Int32).toNatClampNeg)))) := by
  refine (at_aload_n dc165_12 rfl).trans ?_
  refine (at_gfR dc165_13 mc165 lf6_37 fo6_21 (ly32 hL) (lr32_21 hL)).trans ?_
  refine (at_iload_n dc165_16 rfl).trans ?_
  refine (at_aload_n dc165_17 rfl).trans ?_
  refine (at_gfR dc165_18 mc165 lf6_31 fo6_19 (ly32 hL) (lr32_19 hL)).trans ?_
  refine (at_iload_n dc165_21 rfl).trans ?_
  refine (at_iald dc165_22 (ly40 hL) i1).trans ?_
  refine (at_iast dc165_23 (ly42 hL) i1).trans ?_
  refine (at_iinc (v := 1) dc165_24 rfl (by decide) rfl).trans ?_
  refine (at_goto (t := 2) dc165_27 (by decide)).trans ?_
  rfl
theorem b165_30 {X : pm_X} {d : Nat} {x1 : Int32} {x2 : Int32} {g : pm_G} {iv : pm_V} (hL : pm_lay g) : pm_at X d 165 (30, [some (.ref 32), some (.int x1), some (.int x2), none], [], g, iv) = pm_at X d 165 (39, [some (.ref 32), some (.int x1), some (.int ((iv 36 1) - 1)), none], [], g, iv) := by
  refine (at_aload_n dc165_30 rfl).trans ?_
  refine (at_gfR dc165_31 mc165 lf6_19 fo6_5 (ly32 hL) (lr32_5 hL)).trans ?_
  refine (at_iconst (v := 1) dc165_34 rfl).trans ?_
  refine (at_iald dc165_35 (ly36 hL) (vp_in_nI (n := 1) (by decide) (by decide))).trans ?_
  refine (at_iconst (v := 1) dc165_36 rfl).trans ?_
  refine (at_isub dc165_37).trans ?_
  refine (at_istore_n dc165_38 rfl).trans ?_
  rfl
theorem b165_39 {X : pm_X} {d : Nat} {x1 : Int32} {x2 : Int32} {z3 : Option Value} {g : pm_G} {iv : pm_V}  : pm_at X d 165 (39, [some (.ref 32), some (.int x1), some (.int x2), z3], [], g, iv) = if x2 < 0 then pm_at X d 165 (83, [some (.ref 32), some (.int x1), some (.int x2), z3], [], g, iv) else pm_at X d 165 (43, [some (.ref 32), some (.int x1), some (.int x2), z3], [], g, iv) := by
  refine (at_iload_n dc165_39 rfl).trans ?_
  exact at_if_lt (t := 83) dc165_40 (by decide)
theorem b165_43 {X : pm_X} {d : Nat} {x1 : Int32} {x2 : Int32} {z3 : Option Value} {g : pm_G} {iv : pm_V}  : pm_at X d 165 (43, [some (.ref 32), some (.int x1), some (.int x2), z3], [], g, iv) = pm_at X d 165 (45, [some (.ref 32), some (.int x1), some (.int x2), some (.int 0)], [], g, iv) := by
  refine (at_iconst (v := 0) dc165_43 rfl).trans ?_
  refine (at_istore_n dc165_44 rfl).trans ?_
  rfl
theorem b165_45 {X : pm_X} {d : Nat} {x1 : Int32} {x2 : Int32} {x3 : Int32} {g : pm_G} {iv : pm_V} (hL : pm_lay g) : pm_at X d 165 (45, [some (.ref 32), some (.int x1), some (.int x2), some (.int x3)], [], g, iv) = if (iv 36 3) ≤ x3 then pm_at X d 165 (77, [some (.ref 32), some (.int x1), some (.int x2), some (.int x3)], [], g, iv) else pm_at X d 165 (55, [some (.ref 32), some (.int x1), some (.int x2), some (.int x3)], [], g, iv) := by
  refine (at_iload_n dc165_45 rfl).trans ?_
  refine (at_aload_n dc165_46 rfl).trans ?_
  refine (at_gfR dc165_47 mc165 lf6_19 fo6_5 (ly32 hL) (lr32_5 hL)).trans ?_
  refine (at_iconst (v := 3) dc165_50 rfl).trans ?_
  refine (at_iald dc165_51 (ly36 hL) (vp_in_nI (n := 3) (by decide) (by decide))).trans ?_
  exact at_icmp_ge (t := 77) dc165_52 (by decide)
theorem b165_55 {X : pm_X} {d : Nat} {x1 : Int32} {x2 : Int32} {x3 : Int32} {g : pm_G} {iv : pm_V} (hL : pm_lay g) (i1 : vp_in x3 6) : pm_at X d 165 (55, [some (.ref 32), some (.int x1), some (.int x2), some (.int x3)], [], g, iv) = if ¬ (iv 42 (x3 : Int32).toNatClampNeg) = x2 then pm_at X d 165 (71, [some (.ref 32), some (.int x1), some (.int x2), some (.int x3)], [], g, iv) else pm_at X d 165 (65, [some (.ref 32), some (.int x1), some (.int x2), some (.int x3)], [], g, iv) := by
  refine (at_aload_n dc165_55 rfl).trans ?_
  refine (at_gfR dc165_56 mc165 lf6_37 fo6_21 (ly32 hL) (lr32_21 hL)).trans ?_
  refine (at_iload_n dc165_59 rfl).trans ?_
  refine (at_iald dc165_60 (ly42 hL) i1).trans ?_
  refine (at_iload_n dc165_61 rfl).trans ?_
  exact at_icmp_ne (t := 71) dc165_62 (by decide)
theorem b165_65 {X : pm_X} {d : Nat} {x1 : Int32} {x2 : Int32} {x3 : Int32} {g : pm_G} {iv : pm_V} (hL : pm_lay g) : pm_at X d 165 (65, [some (.ref 32), some (.int x1), some (.int x2), some (.int x3)], [], g, iv) = pm_then X d 165 71 [some (.ref 32), some (.int x1), some (.int x2), some (.int x3)] [] (pm_c X d 164 [.ref 32, .int x3, .int x1] g iv) := by
  refine (at_aload_n dc165_65 rfl).trans ?_
  refine (at_iload_n dc165_66 rfl).trans ?_
  refine (at_iload_n dc165_67 rfl).trans ?_
  exact at_inv dc165_68 mc165 lm6_202 rfl rfl (Nat.le_of_ble_eq_true rfl) (Or.inl ⟨(ly32 hL), by decide⟩)
theorem b165_71 {X : pm_X} {d : Nat} {x1 : Int32} {x2 : Int32} {x3 : Int32} {g : pm_G} {iv : pm_V}  : pm_at X d 165 (71, [some (.ref 32), some (.int x1), some (.int x2), some (.int x3)], [], g, iv) = pm_at X d 165 (45, [some (.ref 32), some (.int x1), some (.int x2), some (.int (x3 + 1))], [], g, iv) := by
  refine (at_iinc (v := 1) dc165_71 rfl (by decide) rfl).trans ?_
  refine (at_goto (t := 45) dc165_74 (by decide)).trans ?_
  rfl
theorem b165_77 {X : pm_X} {d : Nat} {x1 : Int32} {x2 : Int32} {x3 : Int32} {g : pm_G} {iv : pm_V}  : pm_at X d 165 (77, [some (.ref 32), some (.int x1), some (.int x2), some (.int x3)], [], g, iv) = pm_at X d 165 (39, [some (.ref 32), some (.int x1), some (.int (x2 + (-1))), some (.int x3)], [], g, iv) := by
  refine (at_iinc (v := (-1)) dc165_77 rfl (by decide) rfl).trans ?_
  refine (at_goto (t := 39) dc165_80 (by decide)).trans ?_
  rfl
theorem b165_83 {X : pm_X} {d : Nat} {x1 : Int32} {x2 : Int32} {z3 : Option Value} {g : pm_G} {iv : pm_V}  : pm_at X d 165 (83, [some (.ref 32), some (.int x1), some (.int x2), z3], [], g, iv) = some (none, g, iv) := by
  exact at_vret dc165_83 mr165
-- Mod.keep ()V
theorem dc166_0 : decode (pm_mb 166) 0 = .ok (.aload_n 0, 1) := by decide +kernel
theorem dc166_1 : decode (pm_mb 166) 1 = .ok (.getfield 181, 3) := by decide +kernel
theorem dc166_4 : decode (pm_mb 166) 4 = .ok (.bipush 24, 2) := by decide +kernel
theorem dc166_6 : decode (pm_mb 166) 6 = .ok (.if_icmp .ne 43, 3) := by decide +kernel
theorem dc166_9 : decode (pm_mb 166) 9 = .ok (.iconst 0, 1) := by decide +kernel
theorem dc166_10 : decode (pm_mb 166) 10 = .ok (.istore_n 1, 1) := by decide +kernel
theorem dc166_11 : decode (pm_mb 166) 11 = .ok (.iload_n 1, 1) := by decide +kernel
theorem dc166_12 : decode (pm_mb 166) 12 = .ok (.sipush 1035, 3) := by decide +kernel
theorem dc166_15 : decode (pm_mb 166) 15 = .ok (.if_icmp .ge 24, 3) := by decide +kernel
theorem dc166_18 : decode (pm_mb 166) 18 = .ok (.aload_n 0, 1) := by decide +kernel
theorem dc166_19 : decode (pm_mb 166) 19 = .ok (.getfield 25, 3) := by decide +kernel
theorem dc166_22 : decode (pm_mb 166) 22 = .ok (.iload_n 1, 1) := by decide +kernel
theorem dc166_23 : decode (pm_mb 166) 23 = .ok (.aload_n 0, 1) := by decide +kernel
theorem dc166_24 : decode (pm_mb 166) 24 = .ok (.getfield 25, 3) := by decide +kernel
theorem dc166_27 : decode (pm_mb 166) 27 = .ok (.iload_n 1, 1) := by decide +kernel
theorem dc166_28 : decode (pm_mb 166) 28 = .ok (.bipush 45, 2) := by decide +kernel
theorem dc166_30 : decode (pm_mb 166) 30 = .ok (.iadd, 1) := by decide +kernel
theorem dc166_31 : decode (pm_mb 166) 31 = .ok (.iaload, 1) := by decide +kernel
theorem dc166_32 : decode (pm_mb 166) 32 = .ok (.iastore, 1) := by decide +kernel
theorem dc166_33 : decode (pm_mb 166) 33 = .ok (.iinc 1 1, 3) := by decide +kernel
theorem dc166_36 : decode (pm_mb 166) 36 = .ok (.goto (-25), 3) := by decide +kernel
theorem dc166_39 : decode (pm_mb 166) 39 = .ok (.aload_n 0, 1) := by decide +kernel
theorem dc166_40 : decode (pm_mb 166) 40 = .ok (.dup, 1) := by decide +kernel
theorem dc166_41 : decode (pm_mb 166) 41 = .ok (.getfield 181, 3) := by decide +kernel
theorem dc166_44 : decode (pm_mb 166) 44 = .ok (.iconst 1, 1) := by decide +kernel
theorem dc166_45 : decode (pm_mb 166) 45 = .ok (.isub, 1) := by decide +kernel
theorem dc166_46 : decode (pm_mb 166) 46 = .ok (.putfield 181, 3) := by decide +kernel
theorem dc166_49 : decode (pm_mb 166) 49 = .ok (.iconst 0, 1) := by decide +kernel
theorem dc166_50 : decode (pm_mb 166) 50 = .ok (.istore_n 1, 1) := by decide +kernel
theorem dc166_51 : decode (pm_mb 166) 51 = .ok (.iload_n 1, 1) := by decide +kernel
theorem dc166_52 : decode (pm_mb 166) 52 = .ok (.bipush 45, 2) := by decide +kernel
theorem dc166_54 : decode (pm_mb 166) 54 = .ok (.if_icmp .ge 29, 3) := by decide +kernel
theorem dc166_57 : decode (pm_mb 166) 57 = .ok (.aload_n 0, 1) := by decide +kernel
theorem dc166_58 : decode (pm_mb 166) 58 = .ok (.getfield 25, 3) := by decide +kernel
theorem dc166_61 : decode (pm_mb 166) 61 = .ok (.bipush 45, 2) := by decide +kernel
theorem dc166_63 : decode (pm_mb 166) 63 = .ok (.aload_n 0, 1) := by decide +kernel
theorem dc166_64 : decode (pm_mb 166) 64 = .ok (.getfield 181, 3) := by decide +kernel
theorem dc166_67 : decode (pm_mb 166) 67 = .ok (.imul, 1) := by decide +kernel
theorem dc166_68 : decode (pm_mb 166) 68 = .ok (.iload_n 1, 1) := by decide +kernel
theorem dc166_69 : decode (pm_mb 166) 69 = .ok (.iadd, 1) := by decide +kernel
theorem dc166_70 : decode (pm_mb 166) 70 = .ok (.aload_n 0, 1) := by decide +kernel
theorem dc166_71 : decode (pm_mb 166) 71 = .ok (.getfield 19, 3) := by decide +kernel
theorem dc166_74 : decode (pm_mb 166) 74 = .ok (.iload_n 1, 1) := by decide +kernel
theorem dc166_75 : decode (pm_mb 166) 75 = .ok (.iaload, 1) := by decide +kernel
theorem dc166_76 : decode (pm_mb 166) 76 = .ok (.iastore, 1) := by decide +kernel
theorem dc166_77 : decode (pm_mb 166) 77 = .ok (.iinc 1 1, 3) := by decide +kernel
theorem dc166_80 : decode (pm_mb 166) 80 = .ok (.goto (-29), 3) := by decide +kernel
theorem dc166_83 : decode (pm_mb 166) 83 = .ok (.aload_n 0, 1) := by decide +kernel
theorem dc166_84 : decode (pm_mb 166) 84 = .ok (.dup, 1) := by decide +kernel
theorem dc166_85 : decode (pm_mb 166) 85 = .ok (.getfield 181, 3) := by decide +kernel
theorem dc166_88 : decode (pm_mb 166) 88 = .ok (.iconst 1, 1) := by decide +kernel
theorem dc166_89 : decode (pm_mb 166) 89 = .ok (.iadd, 1) := by decide +kernel
theorem dc166_90 : decode (pm_mb 166) 90 = .ok (.putfield 181, 3) := by decide +kernel
theorem dc166_93 : decode (pm_mb 166) 93 = .ok (.return_, 1) := by decide +kernel
theorem b166_0 {X : pm_X} {d : Nat} {g : pm_G} {iv : pm_V} (hL : pm_lay g) : pm_at X d 166 (0, [some (.ref 32), none], [], g, iv) = if ¬ (iv 32 8) = 24 then pm_at X d 166 (49, [some (.ref 32), none], [], g, iv) else pm_at X d 166 (9, [some (.ref 32), none], [], g, iv) := by
  refine (at_aload_n dc166_0 rfl).trans ?_
  refine (at_gfI dc166_1 mc166 lf6_181 fo6_8 (ly32 hL)).trans ?_
  refine (at_bipush (v := 24) dc166_4 (by decide)).trans ?_
  exact at_icmp_ne (t := 49) dc166_6 (by decide)
theorem b166_9 {X : pm_X} {d : Nat} {g : pm_G} {iv : pm_V}  : pm_at X d 166 (9, [some (.ref 32), none], [], g, iv) = pm_at X d 166 (11, [some (.ref 32), some (.int 0)], [], g, iv) := by
  refine (at_iconst (v := 0) dc166_9 rfl).trans ?_
  refine (at_istore_n dc166_10 rfl).trans ?_
  rfl
theorem b166_11 {X : pm_X} {d : Nat} {x1 : Int32} {g : pm_G} {iv : pm_V}  : pm_at X d 166 (11, [some (.ref 32), some (.int x1)], [], g, iv) = if 1035 ≤ x1 then pm_at X d 166 (39, [some (.ref 32), some (.int x1)], [], g, iv) else pm_at X d 166 (18, [some (.ref 32), some (.int x1)], [], g, iv) := by
  refine (at_iload_n dc166_11 rfl).trans ?_
  refine (at_sipush (v := 1035) dc166_12 (by decide)).trans ?_
  exact at_icmp_ge (t := 39) dc166_15 (by decide)
theorem b166_18 {X : pm_X} {d : Nat} {x1 : Int32} {g : pm_G} {iv : pm_V} (hL : pm_lay g) (i1 : vp_in ((x1 + 45)) 1080) (i2 : vp_in x1 1080) : pm_at X d 166 (18, [some (.ref 32), some (.int x1)], [], g, iv) = pm_at X d 166 (11, [some (.ref 32), some (.int (x1 + 1))], [], g, (pm_iw iv 38 (x1 : Int32).toNatClampNeg ((iv 38 ((x1 + 45) : Int32).toNatClampNeg)))) := by
  refine (at_aload_n dc166_18 rfl).trans ?_
  refine (at_gfR dc166_19 mc166 lf6_25 fo6_7 (ly32 hL) (lr32_7 hL)).trans ?_
  refine (at_iload_n dc166_22 rfl).trans ?_
  refine (at_aload_n dc166_23 rfl).trans ?_
  refine (at_gfR dc166_24 mc166 lf6_25 fo6_7 (ly32 hL) (lr32_7 hL)).trans ?_
  refine (at_iload_n dc166_27 rfl).trans ?_
  refine (at_bipush (v := 45) dc166_28 (by decide)).trans ?_
  refine (at_iadd dc166_30).trans ?_
  refine (at_iald dc166_31 (ly38 hL) i1).trans ?_
  refine (at_iast dc166_32 (ly38 hL) i2).trans ?_
  refine (at_iinc (v := 1) dc166_33 rfl (by decide) rfl).trans ?_
  refine (at_goto (t := 11) dc166_36 (by decide)).trans ?_
  rfl
theorem b166_39 {X : pm_X} {d : Nat} {x1 : Int32} {g : pm_G} {iv : pm_V} (hL : pm_lay g) : pm_at X d 166 (39, [some (.ref 32), some (.int x1)], [], g, iv) = pm_at X d 166 (49, [some (.ref 32), some (.int x1)], [], g, (pm_iw iv 32 8 (((iv 32 8) - 1)))) := by
  refine (at_aload_n dc166_39 rfl).trans ?_
  refine (at_dup dc166_40 rfl).trans ?_
  refine (at_gfI dc166_41 mc166 lf6_181 fo6_8 (ly32 hL)).trans ?_
  refine (at_iconst (v := 1) dc166_44 rfl).trans ?_
  refine (at_isub dc166_45).trans ?_
  refine (at_pfI dc166_46 mc166 lf6_181 po6_8 (ly32 hL)).trans ?_
  rfl
theorem b166_49 {X : pm_X} {d : Nat} {z1 : Option Value} {g : pm_G} {iv : pm_V}  : pm_at X d 166 (49, [some (.ref 32), z1], [], g, iv) = pm_at X d 166 (51, [some (.ref 32), some (.int 0)], [], g, iv) := by
  refine (at_iconst (v := 0) dc166_49 rfl).trans ?_
  refine (at_istore_n dc166_50 rfl).trans ?_
  rfl
theorem b166_51 {X : pm_X} {d : Nat} {x1 : Int32} {g : pm_G} {iv : pm_V}  : pm_at X d 166 (51, [some (.ref 32), some (.int x1)], [], g, iv) = if 45 ≤ x1 then pm_at X d 166 (83, [some (.ref 32), some (.int x1)], [], g, iv) else pm_at X d 166 (57, [some (.ref 32), some (.int x1)], [], g, iv) := by
  refine (at_iload_n dc166_51 rfl).trans ?_
  refine (at_bipush (v := 45) dc166_52 (by decide)).trans ?_
  exact at_icmp_ge (t := 83) dc166_54 (by decide)
theorem b166_57 {X : pm_X} {d : Nat} {x1 : Int32} {g : pm_G} {iv : pm_V} (hL : pm_lay g) (i1 : vp_in x1 45) (i2 : vp_in (((45 * (iv 32 8)) + x1)) 1080) : pm_at X d 166 (57, [some (.ref 32), some (.int x1)], [], g, iv) = pm_at X d 166 (51, [some (.ref 32), some (.int (x1 + 1))], [], g, (pm_iw iv 38 (((45 * (iv 32 8)) + x1) : Int32).toNatClampNeg ((iv 36 (x1 : Int32).toNatClampNeg)))) := by
  refine (at_aload_n dc166_57 rfl).trans ?_
  refine (at_gfR dc166_58 mc166 lf6_25 fo6_7 (ly32 hL) (lr32_7 hL)).trans ?_
  refine (at_bipush (v := 45) dc166_61 (by decide)).trans ?_
  refine (at_aload_n dc166_63 rfl).trans ?_
  refine (at_gfI dc166_64 mc166 lf6_181 fo6_8 (ly32 hL)).trans ?_
  refine (at_imul dc166_67).trans ?_
  refine (at_iload_n dc166_68 rfl).trans ?_
  refine (at_iadd dc166_69).trans ?_
  refine (at_aload_n dc166_70 rfl).trans ?_
  refine (at_gfR dc166_71 mc166 lf6_19 fo6_5 (ly32 hL) (lr32_5 hL)).trans ?_
  refine (at_iload_n dc166_74 rfl).trans ?_
  refine (at_iald dc166_75 (ly36 hL) i1).trans ?_
  refine (at_iast dc166_76 (ly38 hL) i2).trans ?_
  refine (at_iinc (v := 1) dc166_77 rfl (by decide) rfl).trans ?_
  refine (at_goto (t := 51) dc166_80 (by decide)).trans ?_
  rfl
theorem b166_83 {X : pm_X} {d : Nat} {x1 : Int32} {g : pm_G} {iv : pm_V} (hL : pm_lay g) : pm_at X d 166 (83, [some (.ref 32), some (.int x1)], [], g, iv) = some (none, g, (pm_iw iv 32 8 (((iv 32 8) + 1)))) := by
  refine (at_aload_n dc166_83 rfl).trans ?_
  refine (at_dup dc166_84 rfl).trans ?_
  refine (at_gfI dc166_85 mc166 lf6_181 fo6_8 (ly32 hL)).trans ?_
  refine (at_iconst (v := 1) dc166_88 rfl).trans ?_
  refine (at_iadd dc166_89).trans ?_
  refine (at_pfI dc166_90 mc166 lf6_181 po6_8 (ly32 hL)).trans ?_
  exact at_vret dc166_93 mr166
-- Mod.winter ()I
theorem dc167_0 : decode (pm_mb 167) 0 = .ok (.aload_n 0, 1) := by decide +kernel
theorem dc167_1 : decode (pm_mb 167) 1 = .ok (.iconst 0, 1) := by decide +kernel
theorem dc167_2 : decode (pm_mb 167) 2 = .ok (.putfield 50, 3) := by decide +kernel
theorem dc167_5 : decode (pm_mb 167) 5 = .ok (.aload_n 0, 1) := by decide +kernel
theorem dc167_6 : decode (pm_mb 167) 6 = .ok (.invokevirtual 205, 3) := by decide +kernel
theorem dc167_9 : decode (pm_mb 167) 9 = .ok (.ifCond .ne 6, 3) := by decide +kernel
theorem dc167_12 : decode (pm_mb 167) 12 = .ok (.ldc 209, 2) := by decide +kernel
theorem dc167_14 : decode (pm_mb 167) 14 = .ok (.ireturn, 1) := by decide +kernel
theorem dc167_15 : decode (pm_mb 167) 15 = .ok (.aload_n 0, 1) := by decide +kernel
theorem dc167_16 : decode (pm_mb 167) 16 = .ok (.getfield 19, 3) := by decide +kernel
theorem dc167_19 : decode (pm_mb 167) 19 = .ok (.iconst 4, 1) := by decide +kernel
theorem dc167_20 : decode (pm_mb 167) 20 = .ok (.iaload, 1) := by decide +kernel
theorem dc167_21 : decode (pm_mb 167) 21 = .ok (.sipush 9999, 3) := by decide +kernel
theorem dc167_24 : decode (pm_mb 167) 24 = .ok (.if_icmp .ne 6, 3) := by decide +kernel
theorem dc167_27 : decode (pm_mb 167) 27 = .ok (.ldc 80, 2) := by decide +kernel
theorem dc167_29 : decode (pm_mb 167) 29 = .ok (.ireturn, 1) := by decide +kernel
theorem dc167_30 : decode (pm_mb 167) 30 = .ok (.aload_n 0, 1) := by decide +kernel
theorem dc167_31 : decode (pm_mb 167) 31 = .ok (.invokevirtual 210, 3) := by decide +kernel
theorem dc167_34 : decode (pm_mb 167) 34 = .ok (.aload_n 0, 1) := by decide +kernel
theorem dc167_35 : decode (pm_mb 167) 35 = .ok (.invokevirtual 213, 3) := by decide +kernel
theorem dc167_38 : decode (pm_mb 167) 38 = .ok (.aload_n 0, 1) := by decide +kernel
theorem dc167_39 : decode (pm_mb 167) 39 = .ok (.aload_n 0, 1) := by decide +kernel
theorem dc167_40 : decode (pm_mb 167) 40 = .ok (.getfield 19, 3) := by decide +kernel
theorem dc167_43 : decode (pm_mb 167) 43 = .ok (.iconst 4, 1) := by decide +kernel
theorem dc167_44 : decode (pm_mb 167) 44 = .ok (.iaload, 1) := by decide +kernel
theorem dc167_45 : decode (pm_mb 167) 45 = .ok (.invokevirtual 216, 3) := by decide +kernel
theorem dc167_48 : decode (pm_mb 167) 48 = .ok (.iconst 0, 1) := by decide +kernel
theorem dc167_49 : decode (pm_mb 167) 49 = .ok (.istore_n 1, 1) := by decide +kernel
theorem dc167_50 : decode (pm_mb 167) 50 = .ok (.iconst 0, 1) := by decide +kernel
theorem dc167_51 : decode (pm_mb 167) 51 = .ok (.istore_n 2, 1) := by decide +kernel
theorem dc167_52 : decode (pm_mb 167) 52 = .ok (.iload_n 2, 1) := by decide +kernel
theorem dc167_53 : decode (pm_mb 167) 53 = .ok (.aload_n 0, 1) := by decide +kernel
theorem dc167_54 : decode (pm_mb 167) 54 = .ok (.getfield 19, 3) := by decide +kernel
theorem dc167_57 : decode (pm_mb 167) 57 = .ok (.iconst 3, 1) := by decide +kernel
theorem dc167_58 : decode (pm_mb 167) 58 = .ok (.iaload, 1) := by decide +kernel
theorem dc167_59 : decode (pm_mb 167) 59 = .ok (.if_icmp .ge 54, 3) := by decide +kernel
theorem dc167_62 : decode (pm_mb 167) 62 = .ok (.iload_n 1, 1) := by decide +kernel
theorem dc167_63 : decode (pm_mb 167) 63 = .ok (.aload_n 0, 1) := by decide +kernel
theorem dc167_64 : decode (pm_mb 167) 64 = .ok (.getfield 31, 3) := by decide +kernel
theorem dc167_67 : decode (pm_mb 167) 67 = .ok (.iload_n 2, 1) := by decide +kernel
theorem dc167_68 : decode (pm_mb 167) 68 = .ok (.iaload, 1) := by decide +kernel
theorem dc167_69 : decode (pm_mb 167) 69 = .ok (.aload_n 0, 1) := by decide +kernel
theorem dc167_70 : decode (pm_mb 167) 70 = .ok (.iload_n 2, 1) := by decide +kernel
theorem dc167_71 : decode (pm_mb 167) 71 = .ok (.iconst 2, 1) := by decide +kernel
theorem dc167_72 : decode (pm_mb 167) 72 = .ok (.invokevirtual 187, 3) := by decide +kernel
theorem dc167_75 : decode (pm_mb 167) 75 = .ok (.if_icmp .eq 9, 3) := by decide +kernel
theorem dc167_78 : decode (pm_mb 167) 78 = .ok (.iconst 1, 1) := by decide +kernel
theorem dc167_79 : decode (pm_mb 167) 79 = .ok (.iload_n 2, 1) := by decide +kernel
theorem dc167_80 : decode (pm_mb 167) 80 = .ok (.ishl, 1) := by decide +kernel
theorem dc167_81 : decode (pm_mb 167) 81 = .ok (.goto 4, 3) := by decide +kernel
theorem dc167_84 : decode (pm_mb 167) 84 = .ok (.iconst 0, 1) := by decide +kernel
theorem dc167_85 : decode (pm_mb 167) 85 = .ok (.ior, 1) := by decide +kernel
theorem dc167_86 : decode (pm_mb 167) 86 = .ok (.istore_n 1, 1) := by decide +kernel
theorem dc167_87 : decode (pm_mb 167) 87 = .ok (.aload_n 0, 1) := by decide +kernel
theorem dc167_88 : decode (pm_mb 167) 88 = .ok (.getfield 19, 3) := by decide +kernel
theorem dc167_91 : decode (pm_mb 167) 91 = .ok (.bipush 9, 2) := by decide +kernel
theorem dc167_93 : decode (pm_mb 167) 93 = .ok (.bipush 6, 2) := by decide +kernel
theorem dc167_95 : decode (pm_mb 167) 95 = .ok (.iload_n 2, 1) := by decide +kernel
theorem dc167_96 : decode (pm_mb 167) 96 = .ok (.imul, 1) := by decide +kernel
theorem dc167_97 : decode (pm_mb 167) 97 = .ok (.iadd, 1) := by decide +kernel
theorem dc167_98 : decode (pm_mb 167) 98 = .ok (.iconst 2, 1) := by decide +kernel
theorem dc167_99 : decode (pm_mb 167) 99 = .ok (.iadd, 1) := by decide +kernel
theorem dc167_100 : decode (pm_mb 167) 100 = .ok (.aload_n 0, 1) := by decide +kernel
theorem dc167_101 : decode (pm_mb 167) 101 = .ok (.getfield 31, 3) := by decide +kernel
theorem dc167_104 : decode (pm_mb 167) 104 = .ok (.iload_n 2, 1) := by decide +kernel
theorem dc167_105 : decode (pm_mb 167) 105 = .ok (.iaload, 1) := by decide +kernel
theorem dc167_106 : decode (pm_mb 167) 106 = .ok (.iastore, 1) := by decide +kernel
theorem dc167_107 : decode (pm_mb 167) 107 = .ok (.iinc 2 1, 3) := by decide +kernel
theorem dc167_110 : decode (pm_mb 167) 110 = .ok (.goto (-58), 3) := by decide +kernel
theorem dc167_113 : decode (pm_mb 167) 113 = .ok (.aload_n 0, 1) := by decide +kernel
theorem dc167_114 : decode (pm_mb 167) 114 = .ok (.getfield 19, 3) := by decide +kernel
theorem dc167_117 : decode (pm_mb 167) 117 = .ok (.iconst 4, 1) := by decide +kernel
theorem dc167_118 : decode (pm_mb 167) 118 = .ok (.dup2, 1) := by decide +kernel
theorem dc167_119 : decode (pm_mb 167) 119 = .ok (.iaload, 1) := by decide +kernel
theorem dc167_120 : decode (pm_mb 167) 120 = .ok (.iconst 1, 1) := by decide +kernel
theorem dc167_121 : decode (pm_mb 167) 121 = .ok (.iadd, 1) := by decide +kernel
theorem dc167_122 : decode (pm_mb 167) 122 = .ok (.iastore, 1) := by decide +kernel
theorem dc167_123 : decode (pm_mb 167) 123 = .ok (.iload_n 1, 1) := by decide +kernel
theorem dc167_124 : decode (pm_mb 167) 124 = .ok (.ireturn, 1) := by decide +kernel
theorem b167_0 {X : pm_X} {d : Nat} {g : pm_G} {iv : pm_V} (hL : pm_lay g) : pm_at X d 167 (0, [some (.ref 32), none, none], [], g, iv) = pm_then X d 167 9 [some (.ref 32), none, none] [] (pm_c X d 155 [.ref 32] g (pm_iw iv 32 0 0)) := by
  refine (at_aload_n dc167_0 rfl).trans ?_
  refine (at_iconst (v := 0) dc167_1 rfl).trans ?_
  refine (at_pfI dc167_2 mc167 lf6_50 po6_0 (ly32 hL)).trans ?_
  refine (at_aload_n dc167_5 rfl).trans ?_
  exact at_inv dc167_6 mc167 lm6_205 rfl rfl (Nat.le_of_ble_eq_true rfl) (Or.inl ⟨(ly32 hL), by decide⟩)
theorem b167_9 {X : pm_X} {d : Nat} {s0 : Int32} {g : pm_G} {iv : pm_V}  : pm_at X d 167 (9, [some (.ref 32), none, none], [.int s0], g, iv) = if ¬ s0 = 0 then pm_at X d 167 (15, [some (.ref 32), none, none], [], g, iv) else pm_at X d 167 (12, [some (.ref 32), none, none], [], g, iv) := by
  exact at_if_ne (t := 15) dc167_9 (by decide)
theorem b167_12 {X : pm_X} {d : Nat} {g : pm_G} {iv : pm_V}  : pm_at X d 167 (12, [some (.ref 32), none, none], [], g, iv) = some (some (.int (-1000002)), g, iv) := by
  refine (at_ldc dc167_12 mc167 lk6_209).trans ?_
  exact at_iret dc167_14 mr167
theorem b167_15 {X : pm_X} {d : Nat} {g : pm_G} {iv : pm_V} (hL : pm_lay g) : pm_at X d 167 (15, [some (.ref 32), none, none], [], g, iv) = if ¬ (iv 36 4) = 9999 then pm_at X d 167 (30, [some (.ref 32), none, none], [], g, iv) else pm_at X d 167 (27, [some (.ref 32), none, none], [], g, iv) := by
  refine (at_aload_n dc167_15 rfl).trans ?_
  refine (at_gfR dc167_16 mc167 lf6_19 fo6_5 (ly32 hL) (lr32_5 hL)).trans ?_
  refine (at_iconst (v := 4) dc167_19 rfl).trans ?_
  refine (at_iald dc167_20 (ly36 hL) (vp_in_nI (n := 4) (by decide) (by decide))).trans ?_
  refine (at_sipush (v := 9999) dc167_21 (by decide)).trans ?_
  exact at_icmp_ne (t := 30) dc167_24 (by decide)
theorem b167_27 {X : pm_X} {d : Nat} {g : pm_G} {iv : pm_V}  : pm_at X d 167 (27, [some (.ref 32), none, none], [], g, iv) = some (some (.int (-1000003)), g, iv) := by
  refine (at_ldc dc167_27 mc167 lk6_80).trans ?_
  exact at_iret dc167_29 mr167
theorem b167_30 {X : pm_X} {d : Nat} {g : pm_G} {iv : pm_V} (hL : pm_lay g) : pm_at X d 167 (30, [some (.ref 32), none, none], [], g, iv) = pm_then X d 167 34 [some (.ref 32), none, none] [] (pm_c X d 166 [.ref 32] g iv) := by
  refine (at_aload_n dc167_30 rfl).trans ?_
  exact at_inv dc167_31 mc167 lm6_210 rfl rfl (Nat.le_of_ble_eq_true rfl) (Or.inl ⟨(ly32 hL), by decide⟩)
theorem b167_34 {X : pm_X} {d : Nat} {g : pm_G} {iv : pm_V} (hL : pm_lay g) : pm_at X d 167 (34, [some (.ref 32), none, none], [], g, iv) = pm_then X d 167 38 [some (.ref 32), none, none] [] (pm_c X d 160 [.ref 32] g iv) := by
  refine (at_aload_n dc167_34 rfl).trans ?_
  exact at_inv dc167_35 mc167 lm6_213 rfl rfl (Nat.le_of_ble_eq_true rfl) (Or.inl ⟨(ly32 hL), by decide⟩)
theorem b167_38 {X : pm_X} {d : Nat} {g : pm_G} {iv : pm_V} (hL : pm_lay g) : pm_at X d 167 (38, [some (.ref 32), none, none], [], g, iv) = pm_then X d 167 48 [some (.ref 32), none, none] [] (pm_c X d 165 [.ref 32, .int (iv 36 4)] g iv) := by
  refine (at_aload_n dc167_38 rfl).trans ?_
  refine (at_aload_n dc167_39 rfl).trans ?_
  refine (at_gfR dc167_40 mc167 lf6_19 fo6_5 (ly32 hL) (lr32_5 hL)).trans ?_
  refine (at_iconst (v := 4) dc167_43 rfl).trans ?_
  refine (at_iald dc167_44 (ly36 hL) (vp_in_nI (n := 4) (by decide) (by decide))).trans ?_
  exact at_inv dc167_45 mc167 lm6_216 rfl rfl (Nat.le_of_ble_eq_true rfl) (Or.inl ⟨(ly32 hL), by decide⟩)
theorem b167_48 {X : pm_X} {d : Nat} {g : pm_G} {iv : pm_V}  : pm_at X d 167 (48, [some (.ref 32), none, none], [], g, iv) = pm_at X d 167 (52, [some (.ref 32), some (.int 0), some (.int 0)], [], g, iv) := by
  refine (at_iconst (v := 0) dc167_48 rfl).trans ?_
  refine (at_istore_n dc167_49 rfl).trans ?_
  refine (at_iconst (v := 0) dc167_50 rfl).trans ?_
  refine (at_istore_n dc167_51 rfl).trans ?_
  rfl
theorem b167_52 {X : pm_X} {d : Nat} {x1 : Int32} {x2 : Int32} {g : pm_G} {iv : pm_V} (hL : pm_lay g) : pm_at X d 167 (52, [some (.ref 32), some (.int x1), some (.int x2)], [], g, iv) = if (iv 36 3) ≤ x2 then pm_at X d 167 (113, [some (.ref 32), some (.int x1), some (.int x2)], [], g, iv) else pm_at X d 167 (62, [some (.ref 32), some (.int x1), some (.int x2)], [], g, iv) := by
  refine (at_iload_n dc167_52 rfl).trans ?_
  refine (at_aload_n dc167_53 rfl).trans ?_
  refine (at_gfR dc167_54 mc167 lf6_19 fo6_5 (ly32 hL) (lr32_5 hL)).trans ?_
  refine (at_iconst (v := 3) dc167_57 rfl).trans ?_
  refine (at_iald dc167_58 (ly36 hL) (vp_in_nI (n := 3) (by decide) (by decide))).trans ?_
  exact at_icmp_ge (t := 113) dc167_59 (by decide)
theorem b167_62 {X : pm_X} {d : Nat} {x1 : Int32} {x2 : Int32} {g : pm_G} {iv : pm_V} (hL : pm_lay g) (i1 : vp_in x2 6) : pm_at X d 167 (62, [some (.ref 32), some (.int x1), some (.int x2)], [], g, iv) = pm_then X d 167 75 [some (.ref 32), some (.int x1), some (.int x2)] [.int (iv 40 (x2 : Int32).toNatClampNeg), .int x1] (pm_c X d 158 [.ref 32, .int x2, .int 2] g iv) := by
  refine (at_iload_n dc167_62 rfl).trans ?_
  refine (at_aload_n dc167_63 rfl).trans ?_
  refine (at_gfR dc167_64 mc167 lf6_31 fo6_19 (ly32 hL) (lr32_19 hL)).trans ?_
  refine (at_iload_n dc167_67 rfl).trans ?_
  refine (at_iald dc167_68 (ly40 hL) i1).trans ?_
  refine (at_aload_n dc167_69 rfl).trans ?_
  refine (at_iload_n dc167_70 rfl).trans ?_
  refine (at_iconst (v := 2) dc167_71 rfl).trans ?_
  exact at_inv dc167_72 mc167 lm6_187 rfl rfl (Nat.le_of_ble_eq_true rfl) (Or.inl ⟨(ly32 hL), by decide⟩)
theorem b167_75 {X : pm_X} {d : Nat} {x1 : Int32} {x2 : Int32} {s0 : Int32} {s1 : Int32} {s2 : Int32} {g : pm_G} {iv : pm_V}  : pm_at X d 167 (75, [some (.ref 32), some (.int x1), some (.int x2)], [.int s0, .int s1, .int s2], g, iv) = if s1 = s0 then pm_at X d 167 (84, [some (.ref 32), some (.int x1), some (.int x2)], [.int s2], g, iv) else pm_at X d 167 (78, [some (.ref 32), some (.int x1), some (.int x2)], [.int s2], g, iv) := by
  exact at_icmp_eq (t := 84) dc167_75 (by decide)
theorem b167_78 {X : pm_X} {d : Nat} {x1 : Int32} {x2 : Int32} {s0 : Int32} {g : pm_G} {iv : pm_V}  : pm_at X d 167 (78, [some (.ref 32), some (.int x1), some (.int x2)], [.int s0], g, iv) = pm_at X d 167 (85, [some (.ref 32), some (.int x1), some (.int x2)], [.int (1 <<< (x2 &&& 31)), .int s0], g, iv) := by
  refine (at_iconst (v := 1) dc167_78 rfl).trans ?_
  refine (at_iload_n dc167_79 rfl).trans ?_
  refine (at_ishl dc167_80).trans ?_
  refine (at_goto (t := 85) dc167_81 (by decide)).trans ?_
  rfl
theorem b167_84 {X : pm_X} {d : Nat} {x1 : Int32} {x2 : Int32} {s0 : Int32} {g : pm_G} {iv : pm_V}  : pm_at X d 167 (84, [some (.ref 32), some (.int x1), some (.int x2)], [.int s0], g, iv) = pm_at X d 167 (85, [some (.ref 32), some (.int x1), some (.int x2)], [.int 0, .int s0], g, iv) := by
  refine (at_iconst (v := 0) dc167_84 rfl).trans ?_
  rfl
theorem b167_85 {X : pm_X} {d : Nat} {x1 : Int32} {x2 : Int32} {s0 : Int32} {s1 : Int32} {g : pm_G} {iv : pm_V} (hL : pm_lay g) (i1 : vp_in x2 6) (i2 : vp_in (((9 + (6 * x2)) + 2)) 45) : pm_at X d 167 (85, [some (.ref 32), some (.int x1), some (.int x2)], [.int s0, .int s1], g, iv) = pm_at X d 167 (52, [some (.ref 32), some (.int (s1 ||| s0)), some (.int (x2 + 1))], [], g, (pm_iw iv 36 (((9 + (6 * x2)) + 2) : Int32).toNatClampNeg ((iv 40 (x2 : Int32).toNatClampNeg)))) := by
  refine (at_ior dc167_85).trans ?_
  refine (at_istore_n dc167_86 rfl).trans ?_
  refine (at_aload_n dc167_87 rfl).trans ?_
  refine (at_gfR dc167_88 mc167 lf6_19 fo6_5 (ly32 hL) (lr32_5 hL)).trans ?_
  refine (at_bipush (v := 9) dc167_91 (by decide)).trans ?_
  refine (at_bipush (v := 6) dc167_93 (by decide)).trans ?_
  refine (at_iload_n dc167_95 rfl).trans ?_
  refine (at_imul dc167_96).trans ?_
  refine (at_iadd dc167_97).trans ?_
  refine (at_iconst (v := 2) dc167_98 rfl).trans ?_
  refine (at_iadd dc167_99).trans ?_
  refine (at_aload_n dc167_100 rfl).trans ?_
  refine (at_gfR dc167_101 mc167 lf6_31 fo6_19 (ly32 hL) (lr32_19 hL)).trans ?_
  refine (at_iload_n dc167_104 rfl).trans ?_
  refine (at_iald dc167_105 (ly40 hL) i1).trans ?_
  refine (at_iast dc167_106 (ly36 hL) i2).trans ?_
  refine (at_iinc (v := 1) dc167_107 rfl (by decide) rfl).trans ?_
  refine (at_goto (t := 52) dc167_110 (by decide)).trans ?_
  rfl
theorem b167_113 {X : pm_X} {d : Nat} {x1 : Int32} {x2 : Int32} {g : pm_G} {iv : pm_V} (hL : pm_lay g) : pm_at X d 167 (113, [some (.ref 32), some (.int x1), some (.int x2)], [], g, iv) = some (some (.int x1), g, (pm_iw iv 36 4 (((iv 36 4) + 1)))) := by
  refine (at_aload_n dc167_113 rfl).trans ?_
  refine (at_gfR dc167_114 mc167 lf6_19 fo6_5 (ly32 hL) (lr32_5 hL)).trans ?_
  refine (at_iconst (v := 4) dc167_117 rfl).trans ?_
  refine (at_dup2 dc167_118 ⟨rfl, rfl⟩).trans ?_
  refine (at_iald dc167_119 (ly36 hL) (vp_in_nI (n := 4) (by decide) (by decide))).trans ?_
  refine (at_iconst (v := 1) dc167_120 rfl).trans ?_
  refine (at_iadd dc167_121).trans ?_
  refine (at_iast dc167_122 (ly36 hL) (vp_in_nI (n := 4) (by decide) (by decide))).trans ?_
  refine (at_iload_n dc167_123 rfl).trans ?_
  exact at_iret dc167_124 mr167
-- Mod.haul (II)I
theorem dc168_0 : decode (pm_mb 168) 0 = .ok (.aload_n 0, 1) := by decide +kernel
theorem dc168_1 : decode (pm_mb 168) 1 = .ok (.iconst 0, 1) := by decide +kernel
theorem dc168_2 : decode (pm_mb 168) 2 = .ok (.putfield 50, 3) := by decide +kernel
theorem dc168_5 : decode (pm_mb 168) 5 = .ok (.aload_n 0, 1) := by decide +kernel
theorem dc168_6 : decode (pm_mb 168) 6 = .ok (.iload_n 1, 1) := by decide +kernel
theorem dc168_7 : decode (pm_mb 168) 7 = .ok (.invokevirtual 184, 3) := by decide +kernel
theorem dc168_10 : decode (pm_mb 168) 10 = .ok (.ifCond .eq 21, 3) := by decide +kernel
theorem dc168_13 : decode (pm_mb 168) 13 = .ok (.iload_n 2, 1) := by decide +kernel
theorem dc168_14 : decode (pm_mb 168) 14 = .ok (.i2l, 1) := by decide +kernel
theorem dc168_15 : decode (pm_mb 168) 15 = .ok (.lconst 0, 1) := by decide +kernel
theorem dc168_16 : decode (pm_mb 168) 16 = .ok (.aload_n 0, 1) := by decide +kernel
theorem dc168_17 : decode (pm_mb 168) 17 = .ok (.getfield 19, 3) := by decide +kernel
theorem dc168_20 : decode (pm_mb 168) 20 = .ok (.iconst 0, 1) := by decide +kernel
theorem dc168_21 : decode (pm_mb 168) 21 = .ok (.iaload, 1) := by decide +kernel
theorem dc168_22 : decode (pm_mb 168) 22 = .ok (.iconst 1, 1) := by decide +kernel
theorem dc168_23 : decode (pm_mb 168) 23 = .ok (.isub, 1) := by decide +kernel
theorem dc168_24 : decode (pm_mb 168) 24 = .ok (.i2l, 1) := by decide +kernel
theorem dc168_25 : decode (pm_mb 168) 25 = .ok (.invokestatic 60, 3) := by decide +kernel
theorem dc168_28 : decode (pm_mb 168) 28 = .ok (.ifCond .ne 6, 3) := by decide +kernel
theorem dc168_31 : decode (pm_mb 168) 31 = .ok (.ldc 70, 2) := by decide +kernel
theorem dc168_33 : decode (pm_mb 168) 33 = .ok (.ireturn, 1) := by decide +kernel
theorem dc168_34 : decode (pm_mb 168) 34 = .ok (.aload_n 0, 1) := by decide +kernel
theorem dc168_35 : decode (pm_mb 168) 35 = .ok (.invokevirtual 213, 3) := by decide +kernel
theorem dc168_38 : decode (pm_mb 168) 38 = .ok (.aload_n 0, 1) := by decide +kernel
theorem dc168_39 : decode (pm_mb 168) 39 = .ok (.iload_n 2, 1) := by decide +kernel
theorem dc168_40 : decode (pm_mb 168) 40 = .ok (.iconst 0, 1) := by decide +kernel
theorem dc168_41 : decode (pm_mb 168) 41 = .ok (.invokevirtual 190, 3) := by decide +kernel
theorem dc168_44 : decode (pm_mb 168) 44 = .ok (.ifCond .ne 24, 3) := by decide +kernel
theorem dc168_47 : decode (pm_mb 168) 47 = .ok (.aload_n 0, 1) := by decide +kernel
theorem dc168_48 : decode (pm_mb 168) 48 = .ok (.iload_n 2, 1) := by decide +kernel
theorem dc168_49 : decode (pm_mb 168) 49 = .ok (.iconst 0, 1) := by decide +kernel
theorem dc168_50 : decode (pm_mb 168) 50 = .ok (.invokevirtual 193, 3) := by decide +kernel
theorem dc168_53 : decode (pm_mb 168) 53 = .ok (.ldc 86, 2) := by decide +kernel
theorem dc168_55 : decode (pm_mb 168) 55 = .ok (.if_icmp .ne 13, 3) := by decide +kernel
theorem dc168_58 : decode (pm_mb 168) 58 = .ok (.aload_n 0, 1) := by decide +kernel
theorem dc168_59 : decode (pm_mb 168) 59 = .ok (.getfield 19, 3) := by decide +kernel
theorem dc168_62 : decode (pm_mb 168) 62 = .ok (.iconst 3, 1) := by decide +kernel
theorem dc168_63 : decode (pm_mb 168) 63 = .ok (.iaload, 1) := by decide +kernel
theorem dc168_64 : decode (pm_mb 168) 64 = .ok (.iconst 1, 1) := by decide +kernel
theorem dc168_65 : decode (pm_mb 168) 65 = .ok (.if_icmp .ne 6, 3) := by decide +kernel
theorem dc168_68 : decode (pm_mb 168) 68 = .ok (.ldc 209, 2) := by decide +kernel
theorem dc168_70 : decode (pm_mb 168) 70 = .ok (.ireturn, 1) := by decide +kernel
theorem dc168_71 : decode (pm_mb 168) 71 = .ok (.aload_n 0, 1) := by decide +kernel
theorem dc168_72 : decode (pm_mb 168) 72 = .ok (.invokevirtual 210, 3) := by decide +kernel
theorem dc168_75 : decode (pm_mb 168) 75 = .ok (.aload_n 0, 1) := by decide +kernel
theorem dc168_76 : decode (pm_mb 168) 76 = .ok (.getfield 19, 3) := by decide +kernel
theorem dc168_79 : decode (pm_mb 168) 79 = .ok (.bipush 9, 2) := by decide +kernel
theorem dc168_81 : decode (pm_mb 168) 81 = .ok (.bipush 6, 2) := by decide +kernel
theorem dc168_83 : decode (pm_mb 168) 83 = .ok (.iload_n 1, 1) := by decide +kernel
theorem dc168_84 : decode (pm_mb 168) 84 = .ok (.imul, 1) := by decide +kernel
theorem dc168_85 : decode (pm_mb 168) 85 = .ok (.iadd, 1) := by decide +kernel
theorem dc168_86 : decode (pm_mb 168) 86 = .ok (.iconst 1, 1) := by decide +kernel
theorem dc168_87 : decode (pm_mb 168) 87 = .ok (.iadd, 1) := by decide +kernel
theorem dc168_88 : decode (pm_mb 168) 88 = .ok (.iload_n 2, 1) := by decide +kernel
theorem dc168_89 : decode (pm_mb 168) 89 = .ok (.iastore, 1) := by decide +kernel
theorem dc168_90 : decode (pm_mb 168) 90 = .ok (.aload_n 0, 1) := by decide +kernel
theorem dc168_91 : decode (pm_mb 168) 91 = .ok (.getfield 19, 3) := by decide +kernel
theorem dc168_94 : decode (pm_mb 168) 94 = .ok (.bipush 9, 2) := by decide +kernel
theorem dc168_96 : decode (pm_mb 168) 96 = .ok (.bipush 6, 2) := by decide +kernel
theorem dc168_98 : decode (pm_mb 168) 98 = .ok (.iload_n 1, 1) := by decide +kernel
theorem dc168_99 : decode (pm_mb 168) 99 = .ok (.imul, 1) := by decide +kernel
theorem dc168_100 : decode (pm_mb 168) 100 = .ok (.iadd, 1) := by decide +kernel
theorem dc168_101 : decode (pm_mb 168) 101 = .ok (.iconst 2, 1) := by decide +kernel
theorem dc168_102 : decode (pm_mb 168) 102 = .ok (.iadd, 1) := by decide +kernel
theorem dc168_103 : decode (pm_mb 168) 103 = .ok (.iconst 0, 1) := by decide +kernel
theorem dc168_104 : decode (pm_mb 168) 104 = .ok (.iastore, 1) := by decide +kernel
theorem dc168_105 : decode (pm_mb 168) 105 = .ok (.aload_n 0, 1) := by decide +kernel
theorem dc168_106 : decode (pm_mb 168) 106 = .ok (.getfield 19, 3) := by decide +kernel
theorem dc168_109 : decode (pm_mb 168) 109 = .ok (.iconst 3, 1) := by decide +kernel
theorem dc168_110 : decode (pm_mb 168) 110 = .ok (.iaload, 1) := by decide +kernel
theorem dc168_111 : decode (pm_mb 168) 111 = .ok (.iconst 1, 1) := by decide +kernel
theorem dc168_112 : decode (pm_mb 168) 112 = .ok (.isub, 1) := by decide +kernel
theorem dc168_113 : decode (pm_mb 168) 113 = .ok (.istore_n 3, 1) := by decide +kernel
theorem dc168_114 : decode (pm_mb 168) 114 = .ok (.aload_n 0, 1) := by decide +kernel
theorem dc168_115 : decode (pm_mb 168) 115 = .ok (.iload_n 1, 1) := by decide +kernel
theorem dc168_116 : decode (pm_mb 168) 116 = .ok (.iconst 3, 1) := by decide +kernel
theorem dc168_117 : decode (pm_mb 168) 117 = .ok (.invokevirtual 187, 3) := by decide +kernel
theorem dc168_120 : decode (pm_mb 168) 120 = .ok (.iload_n 3, 1) := by decide +kernel
theorem dc168_121 : decode (pm_mb 168) 121 = .ok (.irem, 1) := by decide +kernel
theorem dc168_122 : decode (pm_mb 168) 122 = .ok (.istore 4, 2) := by decide +kernel
theorem dc168_124 : decode (pm_mb 168) 124 = .ok (.iconst 0, 1) := by decide +kernel
theorem dc168_125 : decode (pm_mb 168) 125 = .ok (.istore 5, 2) := by decide +kernel
theorem dc168_127 : decode (pm_mb 168) 127 = .ok (.iload 5, 2) := by decide +kernel
theorem dc168_129 : decode (pm_mb 168) 129 = .ok (.aload_n 0, 1) := by decide +kernel
theorem dc168_130 : decode (pm_mb 168) 130 = .ok (.getfield 19, 3) := by decide +kernel
theorem dc168_133 : decode (pm_mb 168) 133 = .ok (.iconst 3, 1) := by decide +kernel
theorem dc168_134 : decode (pm_mb 168) 134 = .ok (.iaload, 1) := by decide +kernel
theorem dc168_135 : decode (pm_mb 168) 135 = .ok (.if_icmp .ge 55, 3) := by decide +kernel
theorem dc168_138 : decode (pm_mb 168) 138 = .ok (.iload 5, 2) := by decide +kernel
theorem dc168_140 : decode (pm_mb 168) 140 = .ok (.iload_n 1, 1) := by decide +kernel
theorem dc168_141 : decode (pm_mb 168) 141 = .ok (.if_icmp .eq 43, 3) := by decide +kernel
theorem dc168_144 : decode (pm_mb 168) 144 = .ok (.aload_n 0, 1) := by decide +kernel
theorem dc168_145 : decode (pm_mb 168) 145 = .ok (.getfield 19, 3) := by decide +kernel
theorem dc168_148 : decode (pm_mb 168) 148 = .ok (.bipush 9, 2) := by decide +kernel
theorem dc168_150 : decode (pm_mb 168) 150 = .ok (.bipush 6, 2) := by decide +kernel
theorem dc168_152 : decode (pm_mb 168) 152 = .ok (.iload 5, 2) := by decide +kernel
theorem dc168_154 : decode (pm_mb 168) 154 = .ok (.imul, 1) := by decide +kernel
theorem dc168_155 : decode (pm_mb 168) 155 = .ok (.iadd, 1) := by decide +kernel
theorem dc168_156 : decode (pm_mb 168) 156 = .ok (.iconst 5, 1) := by decide +kernel
theorem dc168_157 : decode (pm_mb 168) 157 = .ok (.iadd, 1) := by decide +kernel
theorem dc168_158 : decode (pm_mb 168) 158 = .ok (.dup2, 1) := by decide +kernel
theorem dc168_159 : decode (pm_mb 168) 159 = .ok (.iaload, 1) := by decide +kernel
theorem dc168_160 : decode (pm_mb 168) 160 = .ok (.aload_n 0, 1) := by decide +kernel
theorem dc168_161 : decode (pm_mb 168) 161 = .ok (.iload_n 1, 1) := by decide +kernel
theorem dc168_162 : decode (pm_mb 168) 162 = .ok (.iconst 3, 1) := by decide +kernel
theorem dc168_163 : decode (pm_mb 168) 163 = .ok (.invokevirtual 187, 3) := by decide +kernel
theorem dc168_166 : decode (pm_mb 168) 166 = .ok (.iload_n 3, 1) := by decide +kernel
theorem dc168_167 : decode (pm_mb 168) 167 = .ok (.idiv, 1) := by decide +kernel
theorem dc168_168 : decode (pm_mb 168) 168 = .ok (.iload 4, 2) := by decide +kernel
theorem dc168_170 : decode (pm_mb 168) 170 = .ok (.ifCond .le 7, 3) := by decide +kernel
theorem dc168_173 : decode (pm_mb 168) 173 = .ok (.iconst 1, 1) := by decide +kernel
theorem dc168_174 : decode (pm_mb 168) 174 = .ok (.goto 4, 3) := by decide +kernel
theorem dc168_177 : decode (pm_mb 168) 177 = .ok (.iconst 0, 1) := by decide +kernel
theorem dc168_178 : decode (pm_mb 168) 178 = .ok (.iadd, 1) := by decide +kernel
theorem dc168_179 : decode (pm_mb 168) 179 = .ok (.iadd, 1) := by decide +kernel
theorem dc168_180 : decode (pm_mb 168) 180 = .ok (.iastore, 1) := by decide +kernel
theorem dc168_181 : decode (pm_mb 168) 181 = .ok (.iinc 4 (-1), 3) := by decide +kernel
theorem dc168_184 : decode (pm_mb 168) 184 = .ok (.iinc 5 1, 3) := by decide +kernel
theorem dc168_187 : decode (pm_mb 168) 187 = .ok (.goto (-60), 3) := by decide +kernel
theorem dc168_190 : decode (pm_mb 168) 190 = .ok (.aload_n 0, 1) := by decide +kernel
theorem dc168_191 : decode (pm_mb 168) 191 = .ok (.iload_n 1, 1) := by decide +kernel
theorem dc168_192 : decode (pm_mb 168) 192 = .ok (.iconst 3, 1) := by decide +kernel
theorem dc168_193 : decode (pm_mb 168) 193 = .ok (.invokevirtual 187, 3) := by decide +kernel
theorem dc168_196 : decode (pm_mb 168) 196 = .ok (.ireturn, 1) := by decide +kernel
theorem b168_0 {X : pm_X} {d : Nat} {x1 : Int32} {x2 : Int32} {g : pm_G} {iv : pm_V} (hL : pm_lay g) : pm_at X d 168 (0, [some (.ref 32), some (.int x1), some (.int x2), none, none, none], [], g, iv) = pm_then X d 168 10 [some (.ref 32), some (.int x1), some (.int x2), none, none, none] [] (pm_c X d 156 [.ref 32, .int x1] g (pm_iw iv 32 0 0)) := by
  refine (at_aload_n dc168_0 rfl).trans ?_
  refine (at_iconst (v := 0) dc168_1 rfl).trans ?_
  refine (at_pfI dc168_2 mc168 lf6_50 po6_0 (ly32 hL)).trans ?_
  refine (at_aload_n dc168_5 rfl).trans ?_
  refine (at_iload_n dc168_6 rfl).trans ?_
  exact at_inv dc168_7 mc168 lm6_184 rfl rfl (Nat.le_of_ble_eq_true rfl) (Or.inl ⟨(ly32 hL), by decide⟩)
theorem b168_10 {X : pm_X} {d : Nat} {x1 : Int32} {x2 : Int32} {s0 : Int32} {g : pm_G} {iv : pm_V}  : pm_at X d 168 (10, [some (.ref 32), some (.int x1), some (.int x2), none, none, none], [.int s0], g, iv) = if s0 = 0 then pm_at X d 168 (31, [some (.ref 32), some (.int x1), some (.int x2), none, none, none], [], g, iv) else pm_at X d 168 (13, [some (.ref 32), some (.int x1), some (.int x2), none, none, none], [], g, iv) := by
  exact at_if_eq (t := 31) dc168_10 (by decide)
theorem b168_13 {X : pm_X} {d : Nat} {x1 : Int32} {x2 : Int32} {g : pm_G} {iv : pm_V} (hL : pm_lay g) : pm_at X d 168 (13, [some (.ref 32), some (.int x1), some (.int x2), none, none, none], [], g, iv) = pm_then X d 168 28 [some (.ref 32), some (.int x1), some (.int x2), none, none, none] [] (pm_c X d 129 [.long (x2 : Int32).toInt64, .long 0, .long (((iv 36 0) - 1) : Int32).toInt64] g iv) := by
  refine (at_iload_n dc168_13 rfl).trans ?_
  refine (at_i2l dc168_14).trans ?_
  refine (at_lconst (v := 0) dc168_15 (by decide)).trans ?_
  refine (at_aload_n dc168_16 rfl).trans ?_
  refine (at_gfR dc168_17 mc168 lf6_19 fo6_5 (ly32 hL) (lr32_5 hL)).trans ?_
  refine (at_iconst (v := 0) dc168_20 rfl).trans ?_
  refine (at_iald dc168_21 (ly36 hL) (vp_in_nI (n := 0) (by decide) (by decide))).trans ?_
  refine (at_iconst (v := 1) dc168_22 rfl).trans ?_
  refine (at_isub dc168_23).trans ?_
  refine (at_i2l dc168_24).trans ?_
  exact at_ins dc168_25 mc168 lm6_60 (Nat.le_of_ble_eq_true rfl) rfl rfl (Nat.le_of_ble_eq_true rfl)
theorem b168_28 {X : pm_X} {d : Nat} {x1 : Int32} {x2 : Int32} {s0 : Int32} {g : pm_G} {iv : pm_V}  : pm_at X d 168 (28, [some (.ref 32), some (.int x1), some (.int x2), none, none, none], [.int s0], g, iv) = if ¬ s0 = 0 then pm_at X d 168 (34, [some (.ref 32), some (.int x1), some (.int x2), none, none, none], [], g, iv) else pm_at X d 168 (31, [some (.ref 32), some (.int x1), some (.int x2), none, none, none], [], g, iv) := by
  exact at_if_ne (t := 34) dc168_28 (by decide)
theorem b168_31 {X : pm_X} {d : Nat} {x1 : Int32} {x2 : Int32} {g : pm_G} {iv : pm_V}  : pm_at X d 168 (31, [some (.ref 32), some (.int x1), some (.int x2), none, none, none], [], g, iv) = some (some (.int (-1000001)), g, iv) := by
  refine (at_ldc dc168_31 mc168 lk6_70).trans ?_
  exact at_iret dc168_33 mr168
theorem b168_34 {X : pm_X} {d : Nat} {x1 : Int32} {x2 : Int32} {g : pm_G} {iv : pm_V} (hL : pm_lay g) : pm_at X d 168 (34, [some (.ref 32), some (.int x1), some (.int x2), none, none, none], [], g, iv) = pm_then X d 168 38 [some (.ref 32), some (.int x1), some (.int x2), none, none, none] [] (pm_c X d 160 [.ref 32] g iv) := by
  refine (at_aload_n dc168_34 rfl).trans ?_
  exact at_inv dc168_35 mc168 lm6_213 rfl rfl (Nat.le_of_ble_eq_true rfl) (Or.inl ⟨(ly32 hL), by decide⟩)
theorem b168_38 {X : pm_X} {d : Nat} {x1 : Int32} {x2 : Int32} {g : pm_G} {iv : pm_V} (hL : pm_lay g) : pm_at X d 168 (38, [some (.ref 32), some (.int x1), some (.int x2), none, none, none], [], g, iv) = pm_then X d 168 44 [some (.ref 32), some (.int x1), some (.int x2), none, none, none] [] (pm_c X d 159 [.ref 32, .int x2, .int 0] g iv) := by
  refine (at_aload_n dc168_38 rfl).trans ?_
  refine (at_iload_n dc168_39 rfl).trans ?_
  refine (at_iconst (v := 0) dc168_40 rfl).trans ?_
  exact at_inv dc168_41 mc168 lm6_190 rfl rfl (Nat.le_of_ble_eq_true rfl) (Or.inl ⟨(ly32 hL), by decide⟩)
theorem b168_44 {X : pm_X} {d : Nat} {x1 : Int32} {x2 : Int32} {s0 : Int32} {g : pm_G} {iv : pm_V}  : pm_at X d 168 (44, [some (.ref 32), some (.int x1), some (.int x2), none, none, none], [.int s0], g, iv) = if ¬ s0 = 0 then pm_at X d 168 (68, [some (.ref 32), some (.int x1), some (.int x2), none, none, none], [], g, iv) else pm_at X d 168 (47, [some (.ref 32), some (.int x1), some (.int x2), none, none, none], [], g, iv) := by
  exact at_if_ne (t := 68) dc168_44 (by decide)
theorem b168_47 {X : pm_X} {d : Nat} {x1 : Int32} {x2 : Int32} {g : pm_G} {iv : pm_V} (hL : pm_lay g) : pm_at X d 168 (47, [some (.ref 32), some (.int x1), some (.int x2), none, none, none], [], g, iv) = pm_then X d 168 53 [some (.ref 32), some (.int x1), some (.int x2), none, none, none] [] (pm_c X d 161 [.ref 32, .int x2, .int 0] g iv) := by
  refine (at_aload_n dc168_47 rfl).trans ?_
  refine (at_iload_n dc168_48 rfl).trans ?_
  refine (at_iconst (v := 0) dc168_49 rfl).trans ?_
  exact at_inv dc168_50 mc168 lm6_193 rfl rfl (Nat.le_of_ble_eq_true rfl) (Or.inl ⟨(ly32 hL), by decide⟩)
theorem b168_53 {X : pm_X} {d : Nat} {x1 : Int32} {x2 : Int32} {s0 : Int32} {g : pm_G} {iv : pm_V}  : pm_at X d 168 (53, [some (.ref 32), some (.int x1), some (.int x2), none, none, none], [.int s0], g, iv) = if ¬ s0 = (-1000000) then pm_at X d 168 (68, [some (.ref 32), some (.int x1), some (.int x2), none, none, none], [], g, iv) else pm_at X d 168 (58, [some (.ref 32), some (.int x1), some (.int x2), none, none, none], [], g, iv) := by
  refine (at_ldc dc168_53 mc168 lk6_86).trans ?_
  exact at_icmp_ne (t := 68) dc168_55 (by decide)
theorem b168_58 {X : pm_X} {d : Nat} {x1 : Int32} {x2 : Int32} {g : pm_G} {iv : pm_V} (hL : pm_lay g) : pm_at X d 168 (58, [some (.ref 32), some (.int x1), some (.int x2), none, none, none], [], g, iv) = if ¬ (iv 36 3) = 1 then pm_at X d 168 (71, [some (.ref 32), some (.int x1), some (.int x2), none, none, none], [], g, iv) else pm_at X d 168 (68, [some (.ref 32), some (.int x1), some (.int x2), none, none, none], [], g, iv) := by
  refine (at_aload_n dc168_58 rfl).trans ?_
  refine (at_gfR dc168_59 mc168 lf6_19 fo6_5 (ly32 hL) (lr32_5 hL)).trans ?_
  refine (at_iconst (v := 3) dc168_62 rfl).trans ?_
  refine (at_iald dc168_63 (ly36 hL) (vp_in_nI (n := 3) (by decide) (by decide))).trans ?_
  refine (at_iconst (v := 1) dc168_64 rfl).trans ?_
  exact at_icmp_ne (t := 71) dc168_65 (by decide)
theorem b168_68 {X : pm_X} {d : Nat} {x1 : Int32} {x2 : Int32} {g : pm_G} {iv : pm_V}  : pm_at X d 168 (68, [some (.ref 32), some (.int x1), some (.int x2), none, none, none], [], g, iv) = some (some (.int (-1000002)), g, iv) := by
  refine (at_ldc dc168_68 mc168 lk6_209).trans ?_
  exact at_iret dc168_70 mr168
theorem b168_71 {X : pm_X} {d : Nat} {x1 : Int32} {x2 : Int32} {g : pm_G} {iv : pm_V} (hL : pm_lay g) : pm_at X d 168 (71, [some (.ref 32), some (.int x1), some (.int x2), none, none, none], [], g, iv) = pm_then X d 168 75 [some (.ref 32), some (.int x1), some (.int x2), none, none, none] [] (pm_c X d 166 [.ref 32] g iv) := by
  refine (at_aload_n dc168_71 rfl).trans ?_
  exact at_inv dc168_72 mc168 lm6_210 rfl rfl (Nat.le_of_ble_eq_true rfl) (Or.inl ⟨(ly32 hL), by decide⟩)
theorem b168_75 {X : pm_X} {d : Nat} {x1 : Int32} {x2 : Int32} {g : pm_G} {iv : pm_V} (hL : pm_lay g) (i1 : vp_in (((9 + (6 * x1)) + 1)) 45) (i2 : vp_in (((9 + (6 * x1)) + 2)) 45) : pm_at X d 168 (75, [some (.ref 32), some (.int x1), some (.int x2), none, none, none], [], g, iv) = pm_then X d 168 120 [some (.ref 32), some (.int x1), some (.int x2), some (.int (((pm_iw (pm_iw iv 36 (((9 + (6 * x1)) + 1) : Int32).toNatClampNeg x2) 36 (((9 + (6 * x1)) + 2) : Int32).toNatClampNeg 0) 36 3) - 1)), none, none] [] (pm_c X d 158 [.ref 32, .int x1, .int 3] g (pm_iw (pm_iw iv 36 (((9 + (6 * x1)) + 1) : Int32).toNatClampNeg x2) 36 (((9 + (6 * x1)) + 2) : Int32).toNatClampNeg 0)) := by
  refine (at_aload_n dc168_75 rfl).trans ?_
  refine (at_gfR dc168_76 mc168 lf6_19 fo6_5 (ly32 hL) (lr32_5 hL)).trans ?_
  refine (at_bipush (v := 9) dc168_79 (by decide)).trans ?_
  refine (at_bipush (v := 6) dc168_81 (by decide)).trans ?_
  refine (at_iload_n dc168_83 rfl).trans ?_
  refine (at_imul dc168_84).trans ?_
  refine (at_iadd dc168_85).trans ?_
  refine (at_iconst (v := 1) dc168_86 rfl).trans ?_
  refine (at_iadd dc168_87).trans ?_
  refine (at_iload_n dc168_88 rfl).trans ?_
  refine (at_iast dc168_89 (ly36 hL) i1).trans ?_
  refine (at_aload_n dc168_90 rfl).trans ?_
  refine (at_gfR dc168_91 mc168 lf6_19 fo6_5 (ly32 hL) (lr32_5 hL)).trans ?_
  refine (at_bipush (v := 9) dc168_94 (by decide)).trans ?_
  refine (at_bipush (v := 6) dc168_96 (by decide)).trans ?_
  refine (at_iload_n dc168_98 rfl).trans ?_
  refine (at_imul dc168_99).trans ?_
  refine (at_iadd dc168_100).trans ?_
  refine (at_iconst (v := 2) dc168_101 rfl).trans ?_
  refine (at_iadd dc168_102).trans ?_
  refine (at_iconst (v := 0) dc168_103 rfl).trans ?_
  refine (at_iast dc168_104 (ly36 hL) i2).trans ?_
  refine (at_aload_n dc168_105 rfl).trans ?_
  refine (at_gfR dc168_106 mc168 lf6_19 fo6_5 (ly32 hL) (lr32_5 hL)).trans ?_
  refine (at_iconst (v := 3) dc168_109 rfl).trans ?_
  refine (at_iald dc168_110 (ly36 hL) (vp_in_nI (n := 3) (by decide) (by decide))).trans ?_
  refine (at_iconst (v := 1) dc168_111 rfl).trans ?_
  refine (at_isub dc168_112).trans ?_
  refine (at_istore_n dc168_113 rfl).trans ?_
  refine (at_aload_n dc168_114 rfl).trans ?_
  refine (at_iload_n dc168_115 rfl).trans ?_
  refine (at_iconst (v := 3) dc168_116 rfl).trans ?_
  exact at_inv dc168_117 mc168 lm6_187 rfl rfl (Nat.le_of_ble_eq_true rfl) (Or.inl ⟨(ly32 hL), by decide⟩)
theorem b168_120 {X : pm_X} {d : Nat} {x1 : Int32} {x2 : Int32} {x3 : Int32} {s0 : Int32} {g : pm_G} {iv : pm_V} (n1 : ¬ (x3 : Int32) = 0) : pm_at X d 168 (120, [some (.ref 32), some (.int x1), some (.int x2), some (.int x3), none, none], [.int s0], g, iv) = pm_at X d 168 (127, [some (.ref 32), some (.int x1), some (.int x2), some (.int x3), some (.int (s0 - s0 / x3 * x3)), some (.int 0)], [], g, iv) := by
  refine (at_iload_n dc168_120 rfl).trans ?_
  refine (at_irem dc168_121 n1).trans ?_
  refine (at_istore dc168_122 rfl).trans ?_
  refine (at_iconst (v := 0) dc168_124 rfl).trans ?_
  refine (at_istore dc168_125 rfl).trans ?_
  rfl
theorem b168_127 {X : pm_X} {d : Nat} {x1 : Int32} {x2 : Int32} {x3 : Int32} {x4 : Int32} {x5 : Int32} {g : pm_G} {iv : pm_V} (hL : pm_lay g) : pm_at X d 168 (127, [some (.ref 32), some (.int x1), some (.int x2), some (.int x3), some (.int x4), some (.int x5)], [], g, iv) = if (iv 36 3) ≤ x5 then pm_at X d 168 (190, [some (.ref 32), some (.int x1), some (.int x2), some (.int x3), some (.int x4), some (.int x5)], [], g, iv) else pm_at X d 168 (138, [some (.ref 32), some (.int x1), some (.int x2), some (.int x3), some (.int x4), some (.int x5)], [], g, iv) := by
  refine (at_iload dc168_127 rfl).trans ?_
  refine (at_aload_n dc168_129 rfl).trans ?_
  refine (at_gfR dc168_130 mc168 lf6_19 fo6_5 (ly32 hL) (lr32_5 hL)).trans ?_
  refine (at_iconst (v := 3) dc168_133 rfl).trans ?_
  refine (at_iald dc168_134 (ly36 hL) (vp_in_nI (n := 3) (by decide) (by decide))).trans ?_
  exact at_icmp_ge (t := 190) dc168_135 (by decide)
theorem b168_138 {X : pm_X} {d : Nat} {x1 : Int32} {x2 : Int32} {x3 : Int32} {x4 : Int32} {x5 : Int32} {g : pm_G} {iv : pm_V}  : pm_at X d 168 (138, [some (.ref 32), some (.int x1), some (.int x2), some (.int x3), some (.int x4), some (.int x5)], [], g, iv) = if x5 = x1 then pm_at X d 168 (184, [some (.ref 32), some (.int x1), some (.int x2), some (.int x3), some (.int x4), some (.int x5)], [], g, iv) else pm_at X d 168 (144, [some (.ref 32), some (.int x1), some (.int x2), some (.int x3), some (.int x4), some (.int x5)], [], g, iv) := by
  refine (at_iload dc168_138 rfl).trans ?_
  refine (at_iload_n dc168_140 rfl).trans ?_
  exact at_icmp_eq (t := 184) dc168_141 (by decide)
theorem b168_144 {X : pm_X} {d : Nat} {x1 : Int32} {x2 : Int32} {x3 : Int32} {x4 : Int32} {x5 : Int32} {g : pm_G} {iv : pm_V} (hL : pm_lay g) (i1 : vp_in (((9 + (6 * x5)) + 5)) 45) : pm_at X d 168 (144, [some (.ref 32), some (.int x1), some (.int x2), some (.int x3), some (.int x4), some (.int x5)], [], g, iv) = pm_then X d 168 166 [some (.ref 32), some (.int x1), some (.int x2), some (.int x3), some (.int x4), some (.int x5)] [.int (iv 36 (((9 + (6 * x5)) + 5) : Int32).toNatClampNeg), .int ((9 + (6 * x5)) + 5), .ref 36] (pm_c X d 158 [.ref 32, .int x1, .int 3] g iv) := by
  refine (at_aload_n dc168_144 rfl).trans ?_
  refine (at_gfR dc168_145 mc168 lf6_19 fo6_5 (ly32 hL) (lr32_5 hL)).trans ?_
  refine (at_bipush (v := 9) dc168_148 (by decide)).trans ?_
  refine (at_bipush (v := 6) dc168_150 (by decide)).trans ?_
  refine (at_iload dc168_152 rfl).trans ?_
  refine (at_imul dc168_154).trans ?_
  refine (at_iadd dc168_155).trans ?_
  refine (at_iconst (v := 5) dc168_156 rfl).trans ?_
  refine (at_iadd dc168_157).trans ?_
  refine (at_dup2 dc168_158 ⟨rfl, rfl⟩).trans ?_
  refine (at_iald dc168_159 (ly36 hL) i1).trans ?_
  refine (at_aload_n dc168_160 rfl).trans ?_
  refine (at_iload_n dc168_161 rfl).trans ?_
  refine (at_iconst (v := 3) dc168_162 rfl).trans ?_
  exact at_inv dc168_163 mc168 lm6_187 rfl rfl (Nat.le_of_ble_eq_true rfl) (Or.inl ⟨(ly32 hL), by decide⟩)
theorem b168_166 {X : pm_X} {d : Nat} {x1 : Int32} {x2 : Int32} {x3 : Int32} {x4 : Int32} {x5 : Int32} {s0 : Int32} {s1 : Int32} {s2 : Int32} {g : pm_G} {iv : pm_V} (n1 : ¬ (x3 : Int32) = 0) : pm_at X d 168 (166, [some (.ref 32), some (.int x1), some (.int x2), some (.int x3), some (.int x4), some (.int x5)], [.int s0, .int s1, .int s2, .ref 36], g, iv) = if x4 ≤ 0 then pm_at X d 168 (177, [some (.ref 32), some (.int x1), some (.int x2), some (.int x3), some (.int x4), some (.int x5)], [.int (s0 / x3), .int s1, .int s2, .ref 36], g, iv) else pm_at X d 168 (173, [some (.ref 32), some (.int x1), some (.int x2), some (.int x3), some (.int x4), some (.int x5)], [.int (s0 / x3), .int s1, .int s2, .ref 36], g, iv) := by
  refine (at_iload_n dc168_166 rfl).trans ?_
  refine (at_idiv dc168_167 n1).trans ?_
  refine (at_iload dc168_168 rfl).trans ?_
  exact at_if_le (t := 177) dc168_170 (by decide)
theorem b168_173 {X : pm_X} {d : Nat} {x1 : Int32} {x2 : Int32} {x3 : Int32} {x4 : Int32} {x5 : Int32} {s0 : Int32} {s1 : Int32} {s2 : Int32} {g : pm_G} {iv : pm_V}  : pm_at X d 168 (173, [some (.ref 32), some (.int x1), some (.int x2), some (.int x3), some (.int x4), some (.int x5)], [.int s0, .int s1, .int s2, .ref 36], g, iv) = pm_at X d 168 (178, [some (.ref 32), some (.int x1), some (.int x2), some (.int x3), some (.int x4), some (.int x5)], [.int 1, .int s0, .int s1, .int s2, .ref 36], g, iv) := by
  refine (at_iconst (v := 1) dc168_173 rfl).trans ?_
  refine (at_goto (t := 178) dc168_174 (by decide)).trans ?_
  rfl
theorem b168_177 {X : pm_X} {d : Nat} {x1 : Int32} {x2 : Int32} {x3 : Int32} {x4 : Int32} {x5 : Int32} {s0 : Int32} {s1 : Int32} {s2 : Int32} {g : pm_G} {iv : pm_V}  : pm_at X d 168 (177, [some (.ref 32), some (.int x1), some (.int x2), some (.int x3), some (.int x4), some (.int x5)], [.int s0, .int s1, .int s2, .ref 36], g, iv) = pm_at X d 168 (178, [some (.ref 32), some (.int x1), some (.int x2), some (.int x3), some (.int x4), some (.int x5)], [.int 0, .int s0, .int s1, .int s2, .ref 36], g, iv) := by
  refine (at_iconst (v := 0) dc168_177 rfl).trans ?_
  rfl
theorem b168_178 {X : pm_X} {d : Nat} {x1 : Int32} {x2 : Int32} {x3 : Int32} {x4 : Int32} {x5 : Int32} {s0 : Int32} {s1 : Int32} {s2 : Int32} {s3 : Int32} {g : pm_G} {iv : pm_V} (hL : pm_lay g) (i1 : vp_in s3 45) : pm_at X d 168 (178, [some (.ref 32), some (.int x1), some (.int x2), some (.int x3), some (.int x4), some (.int x5)], [.int s0, .int s1, .int s2, .int s3, .ref 36], g, iv) = pm_at X d 168 (184, [some (.ref 32), some (.int x1), some (.int x2), some (.int x3), some (.int (x4 + (-1))), some (.int x5)], [], g, (pm_iw iv 36 (s3 : Int32).toNatClampNeg ((s2 + (s1 + s0))))) := by
  refine (at_iadd dc168_178).trans ?_
  refine (at_iadd dc168_179).trans ?_
  refine (at_iast dc168_180 (ly36 hL) i1).trans ?_
  refine (at_iinc (v := (-1)) dc168_181 rfl (by decide) rfl).trans ?_
  rfl
theorem b168_184 {X : pm_X} {d : Nat} {x1 : Int32} {x2 : Int32} {x3 : Int32} {x4 : Int32} {x5 : Int32} {g : pm_G} {iv : pm_V}  : pm_at X d 168 (184, [some (.ref 32), some (.int x1), some (.int x2), some (.int x3), some (.int x4), some (.int x5)], [], g, iv) = pm_at X d 168 (127, [some (.ref 32), some (.int x1), some (.int x2), some (.int x3), some (.int x4), some (.int (x5 + 1))], [], g, iv) := by
  refine (at_iinc (v := 1) dc168_184 rfl (by decide) rfl).trans ?_
  refine (at_goto (t := 127) dc168_187 (by decide)).trans ?_
  rfl
theorem b168_190 {X : pm_X} {d : Nat} {x1 : Int32} {x2 : Int32} {x3 : Int32} {x4 : Int32} {x5 : Int32} {g : pm_G} {iv : pm_V} (hL : pm_lay g) : pm_at X d 168 (190, [some (.ref 32), some (.int x1), some (.int x2), some (.int x3), some (.int x4), some (.int x5)], [], g, iv) = pm_then X d 168 196 [some (.ref 32), some (.int x1), some (.int x2), some (.int x3), some (.int x4), some (.int x5)] [] (pm_c X d 158 [.ref 32, .int x1, .int 3] g iv) := by
  refine (at_aload_n dc168_190 rfl).trans ?_
  refine (at_iload_n dc168_191 rfl).trans ?_
  refine (at_iconst (v := 3) dc168_192 rfl).trans ?_
  exact at_inv dc168_193 mc168 lm6_187 rfl rfl (Nat.le_of_ble_eq_true rfl) (Or.inl ⟨(ly32 hL), by decide⟩)
theorem b168_196 {X : pm_X} {d : Nat} {x1 : Int32} {x2 : Int32} {x3 : Int32} {x4 : Int32} {x5 : Int32} {s0 : Int32} {g : pm_G} {iv : pm_V}  : pm_at X d 168 (196, [some (.ref 32), some (.int x1), some (.int x2), some (.int x3), some (.int x4), some (.int x5)], [.int s0], g, iv) = some (some (.int s0), g, iv) := by
  exact at_iret dc168_196 mr168
-- Mod.becomes (II)I
theorem dc169_0 : decode (pm_mb 169) 0 = .ok (.aload_n 0, 1) := by decide +kernel
theorem dc169_1 : decode (pm_mb 169) 1 = .ok (.invokevirtual 210, 3) := by decide +kernel
theorem dc169_4 : decode (pm_mb 169) 4 = .ok (.aload_n 0, 1) := by decide +kernel
theorem dc169_5 : decode (pm_mb 169) 5 = .ok (.iload_n 1, 1) := by decide +kernel
theorem dc169_6 : decode (pm_mb 169) 6 = .ok (.iconst 4, 1) := by decide +kernel
theorem dc169_7 : decode (pm_mb 169) 7 = .ok (.invokevirtual 187, 3) := by decide +kernel
theorem dc169_10 : decode (pm_mb 169) 10 = .ok (.istore_n 3, 1) := by decide +kernel
theorem dc169_11 : decode (pm_mb 169) 11 = .ok (.aload_n 0, 1) := by decide +kernel
theorem dc169_12 : decode (pm_mb 169) 12 = .ok (.getfield 19, 3) := by decide +kernel
theorem dc169_15 : decode (pm_mb 169) 15 = .ok (.bipush 9, 2) := by decide +kernel
theorem dc169_17 : decode (pm_mb 169) 17 = .ok (.bipush 6, 2) := by decide +kernel
theorem dc169_19 : decode (pm_mb 169) 19 = .ok (.iload_n 1, 1) := by decide +kernel
theorem dc169_20 : decode (pm_mb 169) 20 = .ok (.imul, 1) := by decide +kernel
theorem dc169_21 : decode (pm_mb 169) 21 = .ok (.iadd, 1) := by decide +kernel
theorem dc169_22 : decode (pm_mb 169) 22 = .ok (.iconst 4, 1) := by decide +kernel
theorem dc169_23 : decode (pm_mb 169) 23 = .ok (.iadd, 1) := by decide +kernel
theorem dc169_24 : decode (pm_mb 169) 24 = .ok (.iload_n 2, 1) := by decide +kernel
theorem dc169_25 : decode (pm_mb 169) 25 = .ok (.iastore, 1) := by decide +kernel
theorem dc169_26 : decode (pm_mb 169) 26 = .ok (.iload_n 3, 1) := by decide +kernel
theorem dc169_27 : decode (pm_mb 169) 27 = .ok (.ireturn, 1) := by decide +kernel
theorem b169_0 {X : pm_X} {d : Nat} {x1 : Int32} {x2 : Int32} {g : pm_G} {iv : pm_V} (hL : pm_lay g) : pm_at X d 169 (0, [some (.ref 32), some (.int x1), some (.int x2), none], [], g, iv) = pm_then X d 169 4 [some (.ref 32), some (.int x1), some (.int x2), none] [] (pm_c X d 166 [.ref 32] g iv) := by
  refine (at_aload_n dc169_0 rfl).trans ?_
  exact at_inv dc169_1 mc169 lm6_210 rfl rfl (Nat.le_of_ble_eq_true rfl) (Or.inl ⟨(ly32 hL), by decide⟩)
theorem b169_4 {X : pm_X} {d : Nat} {x1 : Int32} {x2 : Int32} {g : pm_G} {iv : pm_V} (hL : pm_lay g) : pm_at X d 169 (4, [some (.ref 32), some (.int x1), some (.int x2), none], [], g, iv) = pm_then X d 169 10 [some (.ref 32), some (.int x1), some (.int x2), none] [] (pm_c X d 158 [.ref 32, .int x1, .int 4] g iv) := by
  refine (at_aload_n dc169_4 rfl).trans ?_
  refine (at_iload_n dc169_5 rfl).trans ?_
  refine (at_iconst (v := 4) dc169_6 rfl).trans ?_
  exact at_inv dc169_7 mc169 lm6_187 rfl rfl (Nat.le_of_ble_eq_true rfl) (Or.inl ⟨(ly32 hL), by decide⟩)
theorem b169_10 {X : pm_X} {d : Nat} {x1 : Int32} {x2 : Int32} {s0 : Int32} {g : pm_G} {iv : pm_V} (hL : pm_lay g) (i1 : vp_in (((9 + (6 * x1)) + 4)) 45) : pm_at X d 169 (10, [some (.ref 32), some (.int x1), some (.int x2), none], [.int s0], g, iv) = some (some (.int s0), g, (pm_iw iv 36 (((9 + (6 * x1)) + 4) : Int32).toNatClampNeg x2)) := by
  refine (at_istore_n dc169_10 rfl).trans ?_
  refine (at_aload_n dc169_11 rfl).trans ?_
  refine (at_gfR dc169_12 mc169 lf6_19 fo6_5 (ly32 hL) (lr32_5 hL)).trans ?_
  refine (at_bipush (v := 9) dc169_15 (by decide)).trans ?_
  refine (at_bipush (v := 6) dc169_17 (by decide)).trans ?_
  refine (at_iload_n dc169_19 rfl).trans ?_
  refine (at_imul dc169_20).trans ?_
  refine (at_iadd dc169_21).trans ?_
  refine (at_iconst (v := 4) dc169_22 rfl).trans ?_
  refine (at_iadd dc169_23).trans ?_
  refine (at_iload_n dc169_24 rfl).trans ?_
  refine (at_iast dc169_25 (ly36 hL) i1).trans ?_
  refine (at_iload_n dc169_26 rfl).trans ?_
  exact at_iret dc169_27 mr169
-- Mod.chock (II)I
theorem dc170_0 : decode (pm_mb 170) 0 = .ok (.aload_n 0, 1) := by decide +kernel
theorem dc170_1 : decode (pm_mb 170) 1 = .ok (.iconst 0, 1) := by decide +kernel
theorem dc170_2 : decode (pm_mb 170) 2 = .ok (.putfield 50, 3) := by decide +kernel
theorem dc170_5 : decode (pm_mb 170) 5 = .ok (.aload_n 0, 1) := by decide +kernel
theorem dc170_6 : decode (pm_mb 170) 6 = .ok (.iload_n 1, 1) := by decide +kernel
theorem dc170_7 : decode (pm_mb 170) 7 = .ok (.invokevirtual 184, 3) := by decide +kernel
theorem dc170_10 : decode (pm_mb 170) 10 = .ok (.ifCond .eq 22, 3) := by decide +kernel
theorem dc170_13 : decode (pm_mb 170) 13 = .ok (.iload_n 2, 1) := by decide +kernel
theorem dc170_14 : decode (pm_mb 170) 14 = .ok (.i2l, 1) := by decide +kernel
theorem dc170_15 : decode (pm_mb 170) 15 = .ok (.lconst 0, 1) := by decide +kernel
theorem dc170_16 : decode (pm_mb 170) 16 = .ok (.lconst 1, 1) := by decide +kernel
theorem dc170_17 : decode (pm_mb 170) 17 = .ok (.invokestatic 60, 3) := by decide +kernel
theorem dc170_20 : decode (pm_mb 170) 20 = .ok (.ifCond .eq 12, 3) := by decide +kernel
theorem dc170_23 : decode (pm_mb 170) 23 = .ok (.aload_n 0, 1) := by decide +kernel
theorem dc170_24 : decode (pm_mb 170) 24 = .ok (.iload_n 1, 1) := by decide +kernel
theorem dc170_25 : decode (pm_mb 170) 25 = .ok (.iload_n 2, 1) := by decide +kernel
theorem dc170_26 : decode (pm_mb 170) 26 = .ok (.invokevirtual 219, 3) := by decide +kernel
theorem dc170_29 : decode (pm_mb 170) 29 = .ok (.goto 5, 3) := by decide +kernel
theorem dc170_32 : decode (pm_mb 170) 32 = .ok (.ldc 70, 2) := by decide +kernel
theorem dc170_34 : decode (pm_mb 170) 34 = .ok (.ireturn, 1) := by decide +kernel
theorem b170_0 {X : pm_X} {d : Nat} {x1 : Int32} {x2 : Int32} {g : pm_G} {iv : pm_V} (hL : pm_lay g) : pm_at X d 170 (0, [some (.ref 32), some (.int x1), some (.int x2)], [], g, iv) = pm_then X d 170 10 [some (.ref 32), some (.int x1), some (.int x2)] [] (pm_c X d 156 [.ref 32, .int x1] g (pm_iw iv 32 0 0)) := by
  refine (at_aload_n dc170_0 rfl).trans ?_
  refine (at_iconst (v := 0) dc170_1 rfl).trans ?_
  refine (at_pfI dc170_2 mc170 lf6_50 po6_0 (ly32 hL)).trans ?_
  refine (at_aload_n dc170_5 rfl).trans ?_
  refine (at_iload_n dc170_6 rfl).trans ?_
  exact at_inv dc170_7 mc170 lm6_184 rfl rfl (Nat.le_of_ble_eq_true rfl) (Or.inl ⟨(ly32 hL), by decide⟩)
theorem b170_10 {X : pm_X} {d : Nat} {x1 : Int32} {x2 : Int32} {s0 : Int32} {g : pm_G} {iv : pm_V}  : pm_at X d 170 (10, [some (.ref 32), some (.int x1), some (.int x2)], [.int s0], g, iv) = if s0 = 0 then pm_at X d 170 (32, [some (.ref 32), some (.int x1), some (.int x2)], [], g, iv) else pm_at X d 170 (13, [some (.ref 32), some (.int x1), some (.int x2)], [], g, iv) := by
  exact at_if_eq (t := 32) dc170_10 (by decide)
theorem b170_13 {X : pm_X} {d : Nat} {x1 : Int32} {x2 : Int32} {g : pm_G} {iv : pm_V}  : pm_at X d 170 (13, [some (.ref 32), some (.int x1), some (.int x2)], [], g, iv) = pm_then X d 170 20 [some (.ref 32), some (.int x1), some (.int x2)] [] (pm_c X d 129 [.long (x2 : Int32).toInt64, .long 0, .long 1] g iv) := by
  refine (at_iload_n dc170_13 rfl).trans ?_
  refine (at_i2l dc170_14).trans ?_
  refine (at_lconst (v := 0) dc170_15 (by decide)).trans ?_
  refine (at_lconst (v := 1) dc170_16 (by decide)).trans ?_
  exact at_ins dc170_17 mc170 lm6_60 (Nat.le_of_ble_eq_true rfl) rfl rfl (Nat.le_of_ble_eq_true rfl)
theorem b170_20 {X : pm_X} {d : Nat} {x1 : Int32} {x2 : Int32} {s0 : Int32} {g : pm_G} {iv : pm_V}  : pm_at X d 170 (20, [some (.ref 32), some (.int x1), some (.int x2)], [.int s0], g, iv) = if s0 = 0 then pm_at X d 170 (32, [some (.ref 32), some (.int x1), some (.int x2)], [], g, iv) else pm_at X d 170 (23, [some (.ref 32), some (.int x1), some (.int x2)], [], g, iv) := by
  exact at_if_eq (t := 32) dc170_20 (by decide)
theorem b170_23 {X : pm_X} {d : Nat} {x1 : Int32} {x2 : Int32} {g : pm_G} {iv : pm_V} (hL : pm_lay g) : pm_at X d 170 (23, [some (.ref 32), some (.int x1), some (.int x2)], [], g, iv) = pm_then X d 170 29 [some (.ref 32), some (.int x1), some (.int x2)] [] (pm_c X d 169 [.ref 32, .int x1, .int x2] g iv) := by
  refine (at_aload_n dc170_23 rfl).trans ?_
  refine (at_iload_n dc170_24 rfl).trans ?_
  refine (at_iload_n dc170_25 rfl).trans ?_
  exact at_inv dc170_26 mc170 lm6_219 rfl rfl (Nat.le_of_ble_eq_true rfl) (Or.inl ⟨(ly32 hL), by decide⟩)
theorem b170_29 {X : pm_X} {d : Nat} {x1 : Int32} {x2 : Int32} {s0 : Int32} {g : pm_G} {iv : pm_V}  : pm_at X d 170 (29, [some (.ref 32), some (.int x1), some (.int x2)], [.int s0], g, iv) = pm_at X d 170 (34, [some (.ref 32), some (.int x1), some (.int x2)], [.int s0], g, iv) := by
  refine (at_goto (t := 34) dc170_29 (by decide)).trans ?_
  rfl
theorem b170_32 {X : pm_X} {d : Nat} {x1 : Int32} {x2 : Int32} {g : pm_G} {iv : pm_V}  : pm_at X d 170 (32, [some (.ref 32), some (.int x1), some (.int x2)], [], g, iv) = pm_at X d 170 (34, [some (.ref 32), some (.int x1), some (.int x2)], [.int (-1000001)], g, iv) := by
  refine (at_ldc dc170_32 mc170 lk6_70).trans ?_
  rfl
theorem b170_34 {X : pm_X} {d : Nat} {x1 : Int32} {x2 : Int32} {s0 : Int32} {g : pm_G} {iv : pm_V}  : pm_at X d 170 (34, [some (.ref 32), some (.int x1), some (.int x2)], [.int s0], g, iv) = some (some (.int s0), g, iv) := by
  exact at_iret dc170_34 mr170
-- Mod.chocks (III)I
theorem dc171_0 : decode (pm_mb 171) 0 = .ok (.aload_n 0, 1) := by decide +kernel
theorem dc171_1 : decode (pm_mb 171) 1 = .ok (.iconst 0, 1) := by decide +kernel
theorem dc171_2 : decode (pm_mb 171) 2 = .ok (.putfield 50, 3) := by decide +kernel
theorem dc171_5 : decode (pm_mb 171) 5 = .ok (.aload_n 0, 1) := by decide +kernel
theorem dc171_6 : decode (pm_mb 171) 6 = .ok (.invokevirtual 205, 3) := by decide +kernel
theorem dc171_9 : decode (pm_mb 171) 9 = .ok (.ifCond .ne 6, 3) := by decide +kernel
theorem dc171_12 : decode (pm_mb 171) 12 = .ok (.ldc 209, 2) := by decide +kernel
theorem dc171_14 : decode (pm_mb 171) 14 = .ok (.ireturn, 1) := by decide +kernel
theorem dc171_15 : decode (pm_mb 171) 15 = .ok (.iload_n 1, 1) := by decide +kernel
theorem dc171_16 : decode (pm_mb 171) 16 = .ok (.invokestatic 64, 3) := by decide +kernel
theorem dc171_19 : decode (pm_mb 171) 19 = .ok (.ifCond .eq 15, 3) := by decide +kernel
theorem dc171_22 : decode (pm_mb 171) 22 = .ok (.iload_n 3, 1) := by decide +kernel
theorem dc171_23 : decode (pm_mb 171) 23 = .ok (.i2l, 1) := by decide +kernel
theorem dc171_24 : decode (pm_mb 171) 24 = .ok (.lconst 1, 1) := by decide +kernel
theorem dc171_25 : decode (pm_mb 171) 25 = .ok (.ldc2_w 222, 3) := by decide +kernel
theorem dc171_28 : decode (pm_mb 171) 28 = .ok (.invokestatic 60, 3) := by decide +kernel
theorem dc171_31 : decode (pm_mb 171) 31 = .ok (.ifCond .ne 6, 3) := by decide +kernel
theorem dc171_34 : decode (pm_mb 171) 34 = .ok (.ldc 70, 2) := by decide +kernel
theorem dc171_36 : decode (pm_mb 171) 36 = .ok (.ireturn, 1) := by decide +kernel
theorem dc171_37 : decode (pm_mb 171) 37 = .ok (.aload_n 0, 1) := by decide +kernel
theorem dc171_38 : decode (pm_mb 171) 38 = .ok (.getfield 7, 3) := by decide +kernel
theorem dc171_41 : decode (pm_mb 171) 41 = .ok (.iload_n 1, 1) := by decide +kernel
theorem dc171_42 : decode (pm_mb 171) 42 = .ok (.iaload, 1) := by decide +kernel
theorem dc171_43 : decode (pm_mb 171) 43 = .ok (.ifCond .ge 9, 3) := by decide +kernel
theorem dc171_46 : decode (pm_mb 171) 46 = .ok (.aload_n 0, 1) := by decide +kernel
theorem dc171_47 : decode (pm_mb 171) 47 = .ok (.iconst 1, 1) := by decide +kernel
theorem dc171_48 : decode (pm_mb 171) 48 = .ok (.invokevirtual 71, 3) := by decide +kernel
theorem dc171_51 : decode (pm_mb 171) 51 = .ok (.ireturn, 1) := by decide +kernel
theorem dc171_52 : decode (pm_mb 171) 52 = .ok (.iload_n 2, 1) := by decide +kernel
theorem dc171_53 : decode (pm_mb 171) 53 = .ok (.ifCond .lt 19, 3) := by decide +kernel
theorem dc171_56 : decode (pm_mb 171) 56 = .ok (.iload_n 2, 1) := by decide +kernel
theorem dc171_57 : decode (pm_mb 171) 57 = .ok (.i2l, 1) := by decide +kernel
theorem dc171_58 : decode (pm_mb 171) 58 = .ok (.iload_n 3, 1) := by decide +kernel
theorem dc171_59 : decode (pm_mb 171) 59 = .ok (.i2l, 1) := by decide +kernel
theorem dc171_60 : decode (pm_mb 171) 60 = .ok (.ladd, 1) := by decide +kernel
theorem dc171_61 : decode (pm_mb 171) 61 = .ok (.aload_n 0, 1) := by decide +kernel
theorem dc171_62 : decode (pm_mb 171) 62 = .ok (.getfield 13, 3) := by decide +kernel
theorem dc171_65 : decode (pm_mb 171) 65 = .ok (.iload_n 1, 1) := by decide +kernel
theorem dc171_66 : decode (pm_mb 171) 66 = .ok (.iaload, 1) := by decide +kernel
theorem dc171_67 : decode (pm_mb 171) 67 = .ok (.i2l, 1) := by decide +kernel
theorem dc171_68 : decode (pm_mb 171) 68 = .ok (.lcmp, 1) := by decide +kernel
theorem dc171_69 : decode (pm_mb 171) 69 = .ok (.ifCond .le 9, 3) := by decide +kernel
theorem dc171_72 : decode (pm_mb 171) 72 = .ok (.aload_n 0, 1) := by decide +kernel
theorem dc171_73 : decode (pm_mb 171) 73 = .ok (.iconst 2, 1) := by decide +kernel
theorem dc171_74 : decode (pm_mb 171) 74 = .ok (.invokevirtual 71, 3) := by decide +kernel
theorem dc171_77 : decode (pm_mb 171) 77 = .ok (.ireturn, 1) := by decide +kernel
theorem dc171_78 : decode (pm_mb 171) 78 = .ok (.iconst 0, 1) := by decide +kernel
theorem dc171_79 : decode (pm_mb 171) 79 = .ok (.istore 4, 2) := by decide +kernel
theorem dc171_81 : decode (pm_mb 171) 81 = .ok (.iload 4, 2) := by decide +kernel
theorem dc171_83 : decode (pm_mb 171) 83 = .ok (.iload_n 3, 1) := by decide +kernel
theorem dc171_84 : decode (pm_mb 171) 84 = .ok (.if_icmp .ge 33, 3) := by decide +kernel
theorem dc171_87 : decode (pm_mb 171) 87 = .ok (.aload_n 0, 1) := by decide +kernel
theorem dc171_88 : decode (pm_mb 171) 88 = .ok (.aload_n 0, 1) := by decide +kernel
theorem dc171_89 : decode (pm_mb 171) 89 = .ok (.getfield 16, 3) := by decide +kernel
theorem dc171_92 : decode (pm_mb 171) 92 = .ok (.bipush 40, 2) := by decide +kernel
theorem dc171_94 : decode (pm_mb 171) 94 = .ok (.iload_n 1, 1) := by decide +kernel
theorem dc171_95 : decode (pm_mb 171) 95 = .ok (.imul, 1) := by decide +kernel
theorem dc171_96 : decode (pm_mb 171) 96 = .ok (.iload_n 2, 1) := by decide +kernel
theorem dc171_97 : decode (pm_mb 171) 97 = .ok (.iadd, 1) := by decide +kernel
theorem dc171_98 : decode (pm_mb 171) 98 = .ok (.iload 4, 2) := by decide +kernel
theorem dc171_100 : decode (pm_mb 171) 100 = .ok (.iadd, 1) := by decide +kernel
theorem dc171_101 : decode (pm_mb 171) 101 = .ok (.iaload, 1) := by decide +kernel
theorem dc171_102 : decode (pm_mb 171) 102 = .ok (.invokevirtual 184, 3) := by decide +kernel
theorem dc171_105 : decode (pm_mb 171) 105 = .ok (.ifCond .ne 6, 3) := by decide +kernel
theorem dc171_108 : decode (pm_mb 171) 108 = .ok (.ldc 70, 2) := by decide +kernel
theorem dc171_110 : decode (pm_mb 171) 110 = .ok (.ireturn, 1) := by decide +kernel
theorem dc171_111 : decode (pm_mb 171) 111 = .ok (.iinc 4 1, 3) := by decide +kernel
theorem dc171_114 : decode (pm_mb 171) 114 = .ok (.goto (-33), 3) := by decide +kernel
theorem dc171_117 : decode (pm_mb 171) 117 = .ok (.aload_n 0, 1) := by decide +kernel
theorem dc171_118 : decode (pm_mb 171) 118 = .ok (.iconst 0, 1) := by decide +kernel
theorem dc171_119 : decode (pm_mb 171) 119 = .ok (.putfield 54, 3) := by decide +kernel
theorem dc171_122 : decode (pm_mb 171) 122 = .ok (.iconst 0, 1) := by decide +kernel
theorem dc171_123 : decode (pm_mb 171) 123 = .ok (.istore 4, 2) := by decide +kernel
theorem dc171_125 : decode (pm_mb 171) 125 = .ok (.iconst 0, 1) := by decide +kernel
theorem dc171_126 : decode (pm_mb 171) 126 = .ok (.istore 5, 2) := by decide +kernel
theorem dc171_128 : decode (pm_mb 171) 128 = .ok (.iload 5, 2) := by decide +kernel
theorem dc171_130 : decode (pm_mb 171) 130 = .ok (.iload_n 3, 1) := by decide +kernel
theorem dc171_131 : decode (pm_mb 171) 131 = .ok (.if_icmp .ge 35, 3) := by decide +kernel
theorem dc171_134 : decode (pm_mb 171) 134 = .ok (.iload 4, 2) := by decide +kernel
theorem dc171_136 : decode (pm_mb 171) 136 = .ok (.iconst 1, 1) := by decide +kernel
theorem dc171_137 : decode (pm_mb 171) 137 = .ok (.aload_n 0, 1) := by decide +kernel
theorem dc171_138 : decode (pm_mb 171) 138 = .ok (.aload_n 0, 1) := by decide +kernel
theorem dc171_139 : decode (pm_mb 171) 139 = .ok (.getfield 16, 3) := by decide +kernel
theorem dc171_142 : decode (pm_mb 171) 142 = .ok (.bipush 40, 2) := by decide +kernel
theorem dc171_144 : decode (pm_mb 171) 144 = .ok (.iload_n 1, 1) := by decide +kernel
theorem dc171_145 : decode (pm_mb 171) 145 = .ok (.imul, 1) := by decide +kernel
theorem dc171_146 : decode (pm_mb 171) 146 = .ok (.iload_n 2, 1) := by decide +kernel
theorem dc171_147 : decode (pm_mb 171) 147 = .ok (.iadd, 1) := by decide +kernel
theorem dc171_148 : decode (pm_mb 171) 148 = .ok (.iload 5, 2) := by decide +kernel
theorem dc171_150 : decode (pm_mb 171) 150 = .ok (.iadd, 1) := by decide +kernel
theorem dc171_151 : decode (pm_mb 171) 151 = .ok (.iaload, 1) := by decide +kernel
theorem dc171_152 : decode (pm_mb 171) 152 = .ok (.iconst 1, 1) := by decide +kernel
theorem dc171_153 : decode (pm_mb 171) 153 = .ok (.invokevirtual 219, 3) := by decide +kernel
theorem dc171_156 : decode (pm_mb 171) 156 = .ok (.isub, 1) := by decide +kernel
theorem dc171_157 : decode (pm_mb 171) 157 = .ok (.iadd, 1) := by decide +kernel
theorem dc171_158 : decode (pm_mb 171) 158 = .ok (.istore 4, 2) := by decide +kernel
theorem dc171_160 : decode (pm_mb 171) 160 = .ok (.iinc 5 1, 3) := by decide +kernel
theorem dc171_163 : decode (pm_mb 171) 163 = .ok (.goto (-35), 3) := by decide +kernel
theorem dc171_166 : decode (pm_mb 171) 166 = .ok (.iload 4, 2) := by decide +kernel
theorem dc171_168 : decode (pm_mb 171) 168 = .ok (.ireturn, 1) := by decide +kernel
theorem b171_0 {X : pm_X} {d : Nat} {x1 : Int32} {x2 : Int32} {x3 : Int32} {g : pm_G} {iv : pm_V} (hL : pm_lay g) : pm_at X d 171 (0, [some (.ref 32), some (.int x1), some (.int x2), some (.int x3), none, none], [], g, iv) = pm_then X d 171 9 [some (.ref 32), some (.int x1), some (.int x2), some (.int x3), none, none] [] (pm_c X d 155 [.ref 32] g (pm_iw iv 32 0 0)) := by
  refine (at_aload_n dc171_0 rfl).trans ?_
  refine (at_iconst (v := 0) dc171_1 rfl).trans ?_
  refine (at_pfI dc171_2 mc171 lf6_50 po6_0 (ly32 hL)).trans ?_
  refine (at_aload_n dc171_5 rfl).trans ?_
  exact at_inv dc171_6 mc171 lm6_205 rfl rfl (Nat.le_of_ble_eq_true rfl) (Or.inl ⟨(ly32 hL), by decide⟩)
theorem b171_9 {X : pm_X} {d : Nat} {x1 : Int32} {x2 : Int32} {x3 : Int32} {s0 : Int32} {g : pm_G} {iv : pm_V}  : pm_at X d 171 (9, [some (.ref 32), some (.int x1), some (.int x2), some (.int x3), none, none], [.int s0], g, iv) = if ¬ s0 = 0 then pm_at X d 171 (15, [some (.ref 32), some (.int x1), some (.int x2), some (.int x3), none, none], [], g, iv) else pm_at X d 171 (12, [some (.ref 32), some (.int x1), some (.int x2), some (.int x3), none, none], [], g, iv) := by
  exact at_if_ne (t := 15) dc171_9 (by decide)
theorem b171_12 {X : pm_X} {d : Nat} {x1 : Int32} {x2 : Int32} {x3 : Int32} {g : pm_G} {iv : pm_V}  : pm_at X d 171 (12, [some (.ref 32), some (.int x1), some (.int x2), some (.int x3), none, none], [], g, iv) = some (some (.int (-1000002)), g, iv) := by
  refine (at_ldc dc171_12 mc171 lk6_209).trans ?_
  exact at_iret dc171_14 mr171
theorem b171_15 {X : pm_X} {d : Nat} {x1 : Int32} {x2 : Int32} {x3 : Int32} {g : pm_G} {iv : pm_V}  : pm_at X d 171 (15, [some (.ref 32), some (.int x1), some (.int x2), some (.int x3), none, none], [], g, iv) = pm_then X d 171 19 [some (.ref 32), some (.int x1), some (.int x2), some (.int x3), none, none] [] (pm_c X d 131 [.int x1] g iv) := by
  refine (at_iload_n dc171_15 rfl).trans ?_
  exact at_ins dc171_16 mc171 lm6_64 (Nat.le_of_ble_eq_true rfl) rfl rfl (Nat.le_of_ble_eq_true rfl)
theorem b171_19 {X : pm_X} {d : Nat} {x1 : Int32} {x2 : Int32} {x3 : Int32} {s0 : Int32} {g : pm_G} {iv : pm_V}  : pm_at X d 171 (19, [some (.ref 32), some (.int x1), some (.int x2), some (.int x3), none, none], [.int s0], g, iv) = if s0 = 0 then pm_at X d 171 (34, [some (.ref 32), some (.int x1), some (.int x2), some (.int x3), none, none], [], g, iv) else pm_at X d 171 (22, [some (.ref 32), some (.int x1), some (.int x2), some (.int x3), none, none], [], g, iv) := by
  exact at_if_eq (t := 34) dc171_19 (by decide)
theorem b171_22 {X : pm_X} {d : Nat} {x1 : Int32} {x2 : Int32} {x3 : Int32} {g : pm_G} {iv : pm_V}  : pm_at X d 171 (22, [some (.ref 32), some (.int x1), some (.int x2), some (.int x3), none, none], [], g, iv) = pm_then X d 171 31 [some (.ref 32), some (.int x1), some (.int x2), some (.int x3), none, none] [] (pm_c X d 129 [.long (x3 : Int32).toInt64, .long 1, .long 6] g iv) := by
  refine (at_iload_n dc171_22 rfl).trans ?_
  refine (at_i2l dc171_23).trans ?_
  refine (at_lconst (v := 1) dc171_24 (by decide)).trans ?_
  refine (at_ldc2 dc171_25 mc171 ll6_222).trans ?_
  exact at_ins dc171_28 mc171 lm6_60 (Nat.le_of_ble_eq_true rfl) rfl rfl (Nat.le_of_ble_eq_true rfl)
theorem b171_31 {X : pm_X} {d : Nat} {x1 : Int32} {x2 : Int32} {x3 : Int32} {s0 : Int32} {g : pm_G} {iv : pm_V}  : pm_at X d 171 (31, [some (.ref 32), some (.int x1), some (.int x2), some (.int x3), none, none], [.int s0], g, iv) = if ¬ s0 = 0 then pm_at X d 171 (37, [some (.ref 32), some (.int x1), some (.int x2), some (.int x3), none, none], [], g, iv) else pm_at X d 171 (34, [some (.ref 32), some (.int x1), some (.int x2), some (.int x3), none, none], [], g, iv) := by
  exact at_if_ne (t := 37) dc171_31 (by decide)
theorem b171_34 {X : pm_X} {d : Nat} {x1 : Int32} {x2 : Int32} {x3 : Int32} {g : pm_G} {iv : pm_V}  : pm_at X d 171 (34, [some (.ref 32), some (.int x1), some (.int x2), some (.int x3), none, none], [], g, iv) = some (some (.int (-1000001)), g, iv) := by
  refine (at_ldc dc171_34 mc171 lk6_70).trans ?_
  exact at_iret dc171_36 mr171
theorem b171_37 {X : pm_X} {d : Nat} {x1 : Int32} {x2 : Int32} {x3 : Int32} {g : pm_G} {iv : pm_V} (hL : pm_lay g) (i1 : vp_in x1 8) : pm_at X d 171 (37, [some (.ref 32), some (.int x1), some (.int x2), some (.int x3), none, none], [], g, iv) = if 0 ≤ (iv 33 (x1 : Int32).toNatClampNeg) then pm_at X d 171 (52, [some (.ref 32), some (.int x1), some (.int x2), some (.int x3), none, none], [], g, iv) else pm_at X d 171 (46, [some (.ref 32), some (.int x1), some (.int x2), some (.int x3), none, none], [], g, iv) := by
  refine (at_aload_n dc171_37 rfl).trans ?_
  refine (at_gfR dc171_38 mc171 lf6_7 fo6_2 (ly32 hL) (lr32_2 hL)).trans ?_
  refine (at_iload_n dc171_41 rfl).trans ?_
  refine (at_iald dc171_42 (ly33 hL) i1).trans ?_
  exact at_if_ge (t := 52) dc171_43 (by decide)
theorem b171_46 {X : pm_X} {d : Nat} {x1 : Int32} {x2 : Int32} {x3 : Int32} {g : pm_G} {iv : pm_V} (hL : pm_lay g) : pm_at X d 171 (46, [some (.ref 32), some (.int x1), some (.int x2), some (.int x3), none, none], [], g, iv) = pm_then X d 171 51 [some (.ref 32), some (.int x1), some (.int x2), some (.int x3), none, none] [] (pm_c X d 130 [.ref 32, .int 1] g iv) := by
  refine (at_aload_n dc171_46 rfl).trans ?_
  refine (at_iconst (v := 1) dc171_47 rfl).trans ?_
  exact at_inv dc171_48 mc171 lm6_71 rfl rfl (Nat.le_of_ble_eq_true rfl) (Or.inl ⟨(ly32 hL), by decide⟩)
theorem b171_51 {X : pm_X} {d : Nat} {x1 : Int32} {x2 : Int32} {x3 : Int32} {s0 : Int32} {g : pm_G} {iv : pm_V}  : pm_at X d 171 (51, [some (.ref 32), some (.int x1), some (.int x2), some (.int x3), none, none], [.int s0], g, iv) = some (some (.int s0), g, iv) := by
  exact at_iret dc171_51 mr171
theorem b171_52 {X : pm_X} {d : Nat} {x1 : Int32} {x2 : Int32} {x3 : Int32} {g : pm_G} {iv : pm_V}  : pm_at X d 171 (52, [some (.ref 32), some (.int x1), some (.int x2), some (.int x3), none, none], [], g, iv) = if x2 < 0 then pm_at X d 171 (72, [some (.ref 32), some (.int x1), some (.int x2), some (.int x3), none, none], [], g, iv) else pm_at X d 171 (56, [some (.ref 32), some (.int x1), some (.int x2), some (.int x3), none, none], [], g, iv) := by
  refine (at_iload_n dc171_52 rfl).trans ?_
  exact at_if_lt (t := 72) dc171_53 (by decide)
theorem b171_56 {X : pm_X} {d : Nat} {x1 : Int32} {x2 : Int32} {x3 : Int32} {g : pm_G} {iv : pm_V} (hL : pm_lay g) (i1 : vp_in x1 8) : pm_at X d 171 (56, [some (.ref 32), some (.int x1), some (.int x2), some (.int x3), none, none], [], g, iv) = if (lg_cmp (((x2 : Int32).toInt64 + (x3 : Int32).toInt64)) (((iv 34 (x1 : Int32).toNatClampNeg) : Int32).toInt64)) ≤ 0 then pm_at X d 171 (78, [some (.ref 32), some (.int x1), some (.int x2), some (.int x3), none, none], [], g, iv) else pm_at X d 171 (72, [some (.ref 32), some (.int x1), some (.int x2), some (.int x3), none, none], [], g, iv) := by
  refine (at_iload_n dc171_56 rfl).trans ?_
  refine (at_i2l dc171_57).trans ?_
  refine (at_iload_n dc171_58 rfl).trans ?_
  refine (at_i2l dc171_59).trans ?_
  refine (at_ladd dc171_60).trans ?_
  refine (at_aload_n dc171_61 rfl).trans ?_
  refine (at_gfR dc171_62 mc171 lf6_13 fo6_3 (ly32 hL) (lr32_3 hL)).trans ?_
  refine (at_iload_n dc171_65 rfl).trans ?_
  refine (at_iald dc171_66 (ly34 hL) i1).trans ?_
  refine (at_i2l dc171_67).trans ?_
  refine (at_lcmp dc171_68).trans ?_
  exact at_if_le (t := 78) dc171_69 (by decide)
theorem b171_72 {X : pm_X} {d : Nat} {x1 : Int32} {x2 : Int32} {x3 : Int32} {g : pm_G} {iv : pm_V} (hL : pm_lay g) : pm_at X d 171 (72, [some (.ref 32), some (.int x1), some (.int x2), some (.int x3), none, none], [], g, iv) = pm_then X d 171 77 [some (.ref 32), some (.int x1), some (.int x2), some (.int x3), none, none] [] (pm_c X d 130 [.ref 32, .int 2] g iv) := by
  refine (at_aload_n dc171_72 rfl).trans ?_
  refine (at_iconst (v := 2) dc171_73 rfl).trans ?_
  exact at_inv dc171_74 mc171 lm6_71 rfl rfl (Nat.le_of_ble_eq_true rfl) (Or.inl ⟨(ly32 hL), by decide⟩)
theorem b171_77 {X : pm_X} {d : Nat} {x1 : Int32} {x2 : Int32} {x3 : Int32} {s0 : Int32} {g : pm_G} {iv : pm_V}  : pm_at X d 171 (77, [some (.ref 32), some (.int x1), some (.int x2), some (.int x3), none, none], [.int s0], g, iv) = some (some (.int s0), g, iv) := by
  exact at_iret dc171_77 mr171
theorem b171_78 {X : pm_X} {d : Nat} {x1 : Int32} {x2 : Int32} {x3 : Int32} {g : pm_G} {iv : pm_V}  : pm_at X d 171 (78, [some (.ref 32), some (.int x1), some (.int x2), some (.int x3), none, none], [], g, iv) = pm_at X d 171 (81, [some (.ref 32), some (.int x1), some (.int x2), some (.int x3), some (.int 0), none], [], g, iv) := by
  refine (at_iconst (v := 0) dc171_78 rfl).trans ?_
  refine (at_istore dc171_79 rfl).trans ?_
  rfl
theorem b171_81 {X : pm_X} {d : Nat} {x1 : Int32} {x2 : Int32} {x3 : Int32} {x4 : Int32} {g : pm_G} {iv : pm_V}  : pm_at X d 171 (81, [some (.ref 32), some (.int x1), some (.int x2), some (.int x3), some (.int x4), none], [], g, iv) = if x3 ≤ x4 then pm_at X d 171 (117, [some (.ref 32), some (.int x1), some (.int x2), some (.int x3), some (.int x4), none], [], g, iv) else pm_at X d 171 (87, [some (.ref 32), some (.int x1), some (.int x2), some (.int x3), some (.int x4), none], [], g, iv) := by
  refine (at_iload dc171_81 rfl).trans ?_
  refine (at_iload_n dc171_83 rfl).trans ?_
  exact at_icmp_ge (t := 117) dc171_84 (by decide)
theorem b171_87 {X : pm_X} {d : Nat} {x1 : Int32} {x2 : Int32} {x3 : Int32} {x4 : Int32} {g : pm_G} {iv : pm_V} (hL : pm_lay g) (i1 : vp_in ((((40 * x1) + x2) + x4)) 320) : pm_at X d 171 (87, [some (.ref 32), some (.int x1), some (.int x2), some (.int x3), some (.int x4), none], [], g, iv) = pm_then X d 171 105 [some (.ref 32), some (.int x1), some (.int x2), some (.int x3), some (.int x4), none] [] (pm_c X d 156 [.ref 32, .int (iv 35 ((((40 * x1) + x2) + x4) : Int32).toNatClampNeg)] g iv) := by
  refine (at_aload_n dc171_87 rfl).trans ?_
  refine (at_aload_n dc171_88 rfl).trans ?_
  refine (at_gfR dc171_89 mc171 lf6_16 fo6_4 (ly32 hL) (lr32_4 hL)).trans ?_
  refine (at_bipush (v := 40) dc171_92 (by decide)).trans ?_
  refine (at_iload_n dc171_94 rfl).trans ?_
  refine (at_imul dc171_95).trans ?_
  refine (at_iload_n dc171_96 rfl).trans ?_
  refine (at_iadd dc171_97).trans ?_
  refine (at_iload dc171_98 rfl).trans ?_
  refine (at_iadd dc171_100).trans ?_
  refine (at_iald dc171_101 (ly35 hL) i1).trans ?_
  exact at_inv dc171_102 mc171 lm6_184 rfl rfl (Nat.le_of_ble_eq_true rfl) (Or.inl ⟨(ly32 hL), by decide⟩)
theorem b171_105 {X : pm_X} {d : Nat} {x1 : Int32} {x2 : Int32} {x3 : Int32} {x4 : Int32} {s0 : Int32} {g : pm_G} {iv : pm_V}  : pm_at X d 171 (105, [some (.ref 32), some (.int x1), some (.int x2), some (.int x3), some (.int x4), none], [.int s0], g, iv) = if ¬ s0 = 0 then pm_at X d 171 (111, [some (.ref 32), some (.int x1), some (.int x2), some (.int x3), some (.int x4), none], [], g, iv) else pm_at X d 171 (108, [some (.ref 32), some (.int x1), some (.int x2), some (.int x3), some (.int x4), none], [], g, iv) := by
  exact at_if_ne (t := 111) dc171_105 (by decide)
theorem b171_108 {X : pm_X} {d : Nat} {x1 : Int32} {x2 : Int32} {x3 : Int32} {x4 : Int32} {g : pm_G} {iv : pm_V}  : pm_at X d 171 (108, [some (.ref 32), some (.int x1), some (.int x2), some (.int x3), some (.int x4), none], [], g, iv) = some (some (.int (-1000001)), g, iv) := by
  refine (at_ldc dc171_108 mc171 lk6_70).trans ?_
  exact at_iret dc171_110 mr171
theorem b171_111 {X : pm_X} {d : Nat} {x1 : Int32} {x2 : Int32} {x3 : Int32} {x4 : Int32} {g : pm_G} {iv : pm_V}  : pm_at X d 171 (111, [some (.ref 32), some (.int x1), some (.int x2), some (.int x3), some (.int x4), none], [], g, iv) = pm_at X d 171 (81, [some (.ref 32), some (.int x1), some (.int x2), some (.int x3), some (.int (x4 + 1)), none], [], g, iv) := by
  refine (at_iinc (v := 1) dc171_111 rfl (by decide) rfl).trans ?_
  refine (at_goto (t := 81) dc171_114 (by decide)).trans ?_
  rfl
theorem b171_117 {X : pm_X} {d : Nat} {x1 : Int32} {x2 : Int32} {x3 : Int32} {x4 : Int32} {g : pm_G} {iv : pm_V} (hL : pm_lay g) : pm_at X d 171 (117, [some (.ref 32), some (.int x1), some (.int x2), some (.int x3), some (.int x4), none], [], g, iv) = pm_at X d 171 (128, [some (.ref 32), some (.int x1), some (.int x2), some (.int x3), some (.int 0), some (.int 0)], [], g, (pm_iw iv 32 1 0)) := by
  refine (at_aload_n dc171_117 rfl).trans ?_
  refine (at_iconst (v := 0) dc171_118 rfl).trans ?_
  refine (at_pfI dc171_119 mc171 lf6_54 po6_1 (ly32 hL)).trans ?_
  refine (at_iconst (v := 0) dc171_122 rfl).trans ?_
  refine (at_istore dc171_123 rfl).trans ?_
  refine (at_iconst (v := 0) dc171_125 rfl).trans ?_
  refine (at_istore dc171_126 rfl).trans ?_
  rfl
theorem b171_128 {X : pm_X} {d : Nat} {x1 : Int32} {x2 : Int32} {x3 : Int32} {x4 : Int32} {x5 : Int32} {g : pm_G} {iv : pm_V}  : pm_at X d 171 (128, [some (.ref 32), some (.int x1), some (.int x2), some (.int x3), some (.int x4), some (.int x5)], [], g, iv) = if x3 ≤ x5 then pm_at X d 171 (166, [some (.ref 32), some (.int x1), some (.int x2), some (.int x3), some (.int x4), some (.int x5)], [], g, iv) else pm_at X d 171 (134, [some (.ref 32), some (.int x1), some (.int x2), some (.int x3), some (.int x4), some (.int x5)], [], g, iv) := by
  refine (at_iload dc171_128 rfl).trans ?_
  refine (at_iload_n dc171_130 rfl).trans ?_
  exact at_icmp_ge (t := 166) dc171_131 (by decide)
theorem b171_134 {X : pm_X} {d : Nat} {x1 : Int32} {x2 : Int32} {x3 : Int32} {x4 : Int32} {x5 : Int32} {g : pm_G} {iv : pm_V} (hL : pm_lay g) (i1 : vp_in ((((40 * x1) + x2) + x5)) 320) : pm_at X d 171 (134, [some (.ref 32), some (.int x1), some (.int x2), some (.int x3), some (.int x4), some (.int x5)], [], g, iv) = pm_then X d 171 156 [some (.ref 32), some (.int x1), some (.int x2), some (.int x3), some (.int x4), some (.int x5)] [.int 1, .int x4] (pm_c X d 169 [.ref 32, .int (iv 35 ((((40 * x1) + x2) + x5) : Int32).toNatClampNeg), .int 1] g iv) := by
  refine (at_iload dc171_134 rfl).trans ?_
  refine (at_iconst (v := 1) dc171_136 rfl).trans ?_
  refine (at_aload_n dc171_137 rfl).trans ?_
  refine (at_aload_n dc171_138 rfl).trans ?_
  refine (at_gfR dc171_139 mc171 lf6_16 fo6_4 (ly32 hL) (lr32_4 hL)).trans ?_
  refine (at_bipush (v := 40) dc171_142 (by decide)).trans ?_
  refine (at_iload_n dc171_144 rfl).trans ?_
  refine (at_imul dc171_145).trans ?_
  refine (at_iload_n dc171_146 rfl).trans ?_
  refine (at_iadd dc171_147).trans ?_
  refine (at_iload dc171_148 rfl).trans ?_
  refine (at_iadd dc171_150).trans ?_
  refine (at_iald dc171_151 (ly35 hL) i1).trans ?_
  refine (at_iconst (v := 1) dc171_152 rfl).trans ?_
  exact at_inv dc171_153 mc171 lm6_219 rfl rfl (Nat.le_of_ble_eq_true rfl) (Or.inl ⟨(ly32 hL), by decide⟩)
theorem b171_156 {X : pm_X} {d : Nat} {x1 : Int32} {x2 : Int32} {x3 : Int32} {x4 : Int32} {x5 : Int32} {s0 : Int32} {s1 : Int32} {s2 : Int32} {g : pm_G} {iv : pm_V}  : pm_at X d 171 (156, [some (.ref 32), some (.int x1), some (.int x2), some (.int x3), some (.int x4), some (.int x5)], [.int s0, .int s1, .int s2], g, iv) = pm_at X d 171 (128, [some (.ref 32), some (.int x1), some (.int x2), some (.int x3), some (.int (s2 + (s1 - s0))), some (.int (x5 + 1))], [], g, iv) := by
  refine (at_isub dc171_156).trans ?_
  refine (at_iadd dc171_157).trans ?_
  refine (at_istore dc171_158 rfl).trans ?_
  refine (at_iinc (v := 1) dc171_160 rfl (by decide) rfl).trans ?_
  refine (at_goto (t := 128) dc171_163 (by decide)).trans ?_
  rfl
theorem b171_166 {X : pm_X} {d : Nat} {x1 : Int32} {x2 : Int32} {x3 : Int32} {x4 : Int32} {x5 : Int32} {g : pm_G} {iv : pm_V}  : pm_at X d 171 (166, [some (.ref 32), some (.int x1), some (.int x2), some (.int x3), some (.int x4), some (.int x5)], [], g, iv) = some (some (.int x4), g, iv) := by
  refine (at_iload dc171_166 rfl).trans ?_
  exact at_iret dc171_168 mr171
-- Mod.undo ()I
theorem dc172_0 : decode (pm_mb 172) 0 = .ok (.aload_n 0, 1) := by decide +kernel
theorem dc172_1 : decode (pm_mb 172) 1 = .ok (.iconst 0, 1) := by decide +kernel
theorem dc172_2 : decode (pm_mb 172) 2 = .ok (.putfield 50, 3) := by decide +kernel
theorem dc172_5 : decode (pm_mb 172) 5 = .ok (.aload_n 0, 1) := by decide +kernel
theorem dc172_6 : decode (pm_mb 172) 6 = .ok (.getfield 181, 3) := by decide +kernel
theorem dc172_9 : decode (pm_mb 172) 9 = .ok (.ifCond .ne 6, 3) := by decide +kernel
theorem dc172_12 : decode (pm_mb 172) 12 = .ok (.ldc 209, 2) := by decide +kernel
theorem dc172_14 : decode (pm_mb 172) 14 = .ok (.ireturn, 1) := by decide +kernel
theorem dc172_15 : decode (pm_mb 172) 15 = .ok (.aload_n 0, 1) := by decide +kernel
theorem dc172_16 : decode (pm_mb 172) 16 = .ok (.dup, 1) := by decide +kernel
theorem dc172_17 : decode (pm_mb 172) 17 = .ok (.getfield 181, 3) := by decide +kernel
theorem dc172_20 : decode (pm_mb 172) 20 = .ok (.iconst 1, 1) := by decide +kernel
theorem dc172_21 : decode (pm_mb 172) 21 = .ok (.isub, 1) := by decide +kernel
theorem dc172_22 : decode (pm_mb 172) 22 = .ok (.putfield 181, 3) := by decide +kernel
theorem dc172_25 : decode (pm_mb 172) 25 = .ok (.iconst 0, 1) := by decide +kernel
theorem dc172_26 : decode (pm_mb 172) 26 = .ok (.istore_n 1, 1) := by decide +kernel
theorem dc172_27 : decode (pm_mb 172) 27 = .ok (.iload_n 1, 1) := by decide +kernel
theorem dc172_28 : decode (pm_mb 172) 28 = .ok (.bipush 45, 2) := by decide +kernel
theorem dc172_30 : decode (pm_mb 172) 30 = .ok (.if_icmp .ge 29, 3) := by decide +kernel
theorem dc172_33 : decode (pm_mb 172) 33 = .ok (.aload_n 0, 1) := by decide +kernel
theorem dc172_34 : decode (pm_mb 172) 34 = .ok (.getfield 19, 3) := by decide +kernel
theorem dc172_37 : decode (pm_mb 172) 37 = .ok (.iload_n 1, 1) := by decide +kernel
theorem dc172_38 : decode (pm_mb 172) 38 = .ok (.aload_n 0, 1) := by decide +kernel
theorem dc172_39 : decode (pm_mb 172) 39 = .ok (.getfield 25, 3) := by decide +kernel
theorem dc172_42 : decode (pm_mb 172) 42 = .ok (.bipush 45, 2) := by decide +kernel
theorem dc172_44 : decode (pm_mb 172) 44 = .ok (.aload_n 0, 1) := by decide +kernel
theorem dc172_45 : decode (pm_mb 172) 45 = .ok (.getfield 181, 3) := by decide +kernel
theorem dc172_48 : decode (pm_mb 172) 48 = .ok (.imul, 1) := by decide +kernel
theorem dc172_49 : decode (pm_mb 172) 49 = .ok (.iload_n 1, 1) := by decide +kernel
theorem dc172_50 : decode (pm_mb 172) 50 = .ok (.iadd, 1) := by decide +kernel
theorem dc172_51 : decode (pm_mb 172) 51 = .ok (.iaload, 1) := by decide +kernel
theorem dc172_52 : decode (pm_mb 172) 52 = .ok (.iastore, 1) := by decide +kernel
theorem dc172_53 : decode (pm_mb 172) 53 = .ok (.iinc 1 1, 3) := by decide +kernel
theorem dc172_56 : decode (pm_mb 172) 56 = .ok (.goto (-29), 3) := by decide +kernel
theorem dc172_59 : decode (pm_mb 172) 59 = .ok (.aload_n 0, 1) := by decide +kernel
theorem dc172_60 : decode (pm_mb 172) 60 = .ok (.getfield 181, 3) := by decide +kernel
theorem dc172_63 : decode (pm_mb 172) 63 = .ok (.ireturn, 1) := by decide +kernel
theorem b172_0 {X : pm_X} {d : Nat} {g : pm_G} {iv : pm_V} (hL : pm_lay g) : pm_at X d 172 (0, [some (.ref 32), none], [], g, iv) = if ¬ ((pm_iw iv 32 0 0) 32 8) = 0 then pm_at X d 172 (15, [some (.ref 32), none], [], g, (pm_iw iv 32 0 0)) else pm_at X d 172 (12, [some (.ref 32), none], [], g, (pm_iw iv 32 0 0)) := by
  refine (at_aload_n dc172_0 rfl).trans ?_
  refine (at_iconst (v := 0) dc172_1 rfl).trans ?_
  refine (at_pfI dc172_2 mc172 lf6_50 po6_0 (ly32 hL)).trans ?_
  refine (at_aload_n dc172_5 rfl).trans ?_
  refine (at_gfI dc172_6 mc172 lf6_181 fo6_8 (ly32 hL)).trans ?_
  exact at_if_ne (t := 15) dc172_9 (by decide)
theorem b172_12 {X : pm_X} {d : Nat} {g : pm_G} {iv : pm_V}  : pm_at X d 172 (12, [some (.ref 32), none], [], g, iv) = some (some (.int (-1000002)), g, iv) := by
  refine (at_ldc dc172_12 mc172 lk6_209).trans ?_
  exact at_iret dc172_14 mr172
theorem b172_15 {X : pm_X} {d : Nat} {g : pm_G} {iv : pm_V} (hL : pm_lay g) : pm_at X d 172 (15, [some (.ref 32), none], [], g, iv) = pm_at X d 172 (27, [some (.ref 32), some (.int 0)], [], g, (pm_iw iv 32 8 (((iv 32 8) - 1)))) := by
  refine (at_aload_n dc172_15 rfl).trans ?_
  refine (at_dup dc172_16 rfl).trans ?_
  refine (at_gfI dc172_17 mc172 lf6_181 fo6_8 (ly32 hL)).trans ?_
  refine (at_iconst (v := 1) dc172_20 rfl).trans ?_
  refine (at_isub dc172_21).trans ?_
  refine (at_pfI dc172_22 mc172 lf6_181 po6_8 (ly32 hL)).trans ?_
  refine (at_iconst (v := 0) dc172_25 rfl).trans ?_
  refine (at_istore_n dc172_26 rfl).trans ?_
  rfl
theorem b172_27 {X : pm_X} {d : Nat} {x1 : Int32} {g : pm_G} {iv : pm_V}  : pm_at X d 172 (27, [some (.ref 32), some (.int x1)], [], g, iv) = if 45 ≤ x1 then pm_at X d 172 (59, [some (.ref 32), some (.int x1)], [], g, iv) else pm_at X d 172 (33, [some (.ref 32), some (.int x1)], [], g, iv) := by
  refine (at_iload_n dc172_27 rfl).trans ?_
  refine (at_bipush (v := 45) dc172_28 (by decide)).trans ?_
  exact at_icmp_ge (t := 59) dc172_30 (by decide)
theorem b172_33 {X : pm_X} {d : Nat} {x1 : Int32} {g : pm_G} {iv : pm_V} (hL : pm_lay g) (i1 : vp_in (((45 * (iv 32 8)) + x1)) 1080) (i2 : vp_in x1 45) : pm_at X d 172 (33, [some (.ref 32), some (.int x1)], [], g, iv) = pm_at X d 172 (27, [some (.ref 32), some (.int (x1 + 1))], [], g, (pm_iw iv 36 (x1 : Int32).toNatClampNeg ((iv 38 (((45 * (iv 32 8)) + x1) : Int32).toNatClampNeg)))) := by
  refine (at_aload_n dc172_33 rfl).trans ?_
  refine (at_gfR dc172_34 mc172 lf6_19 fo6_5 (ly32 hL) (lr32_5 hL)).trans ?_
  refine (at_iload_n dc172_37 rfl).trans ?_
  refine (at_aload_n dc172_38 rfl).trans ?_
  refine (at_gfR dc172_39 mc172 lf6_25 fo6_7 (ly32 hL) (lr32_7 hL)).trans ?_
  refine (at_bipush (v := 45) dc172_42 (by decide)).trans ?_
  refine (at_aload_n dc172_44 rfl).trans ?_
  refine (at_gfI dc172_45 mc172 lf6_181 fo6_8 (ly32 hL)).trans ?_
  refine (at_imul dc172_48).trans ?_
  refine (at_iload_n dc172_49 rfl).trans ?_
  refine (at_iadd dc172_50).trans ?_
  refine (at_iald dc172_51 (ly38 hL) i1).trans ?_
  refine (at_iast dc172_52 (ly36 hL) i2).trans ?_
  refine (at_iinc (v := 1) dc172_53 rfl (by decide) rfl).trans ?_
  refine (at_goto (t := 27) dc172_56 (by decide)).trans ?_
  rfl
theorem b172_59 {X : pm_X} {d : Nat} {x1 : Int32} {g : pm_G} {iv : pm_V} (hL : pm_lay g) : pm_at X d 172 (59, [some (.ref 32), some (.int x1)], [], g, iv) = some (some (.int (iv 32 8)), g, iv) := by
  refine (at_aload_n dc172_59 rfl).trans ?_
  refine (at_gfI dc172_60 mc172 lf6_181 fo6_8 (ly32 hL)).trans ?_
  exact at_iret dc172_63 mr172
-- Mod.viewOf (I)I
theorem dc173_0 : decode (pm_mb 173) 0 = .ok (.aload_n 0, 1) := by decide +kernel
theorem dc173_1 : decode (pm_mb 173) 1 = .ok (.invokevirtual 213, 3) := by decide +kernel
theorem dc173_4 : decode (pm_mb 173) 4 = .ok (.iconst 0, 1) := by decide +kernel
theorem dc173_5 : decode (pm_mb 173) 5 = .ok (.istore_n 2, 1) := by decide +kernel
theorem dc173_6 : decode (pm_mb 173) 6 = .ok (.aload_n 0, 1) := by decide +kernel
theorem dc173_7 : decode (pm_mb 173) 7 = .ok (.iload_n 1, 1) := by decide +kernel
theorem dc173_8 : decode (pm_mb 173) 8 = .ok (.iconst 2, 1) := by decide +kernel
theorem dc173_9 : decode (pm_mb 173) 9 = .ok (.invokevirtual 187, 3) := by decide +kernel
theorem dc173_12 : decode (pm_mb 173) 12 = .ok (.iconst 1, 1) := by decide +kernel
theorem dc173_13 : decode (pm_mb 173) 13 = .ok (.iadd, 1) := by decide +kernel
theorem dc173_14 : decode (pm_mb 173) 14 = .ok (.istore_n 3, 1) := by decide +kernel
theorem dc173_15 : decode (pm_mb 173) 15 = .ok (.iload_n 3, 1) := by decide +kernel
theorem dc173_16 : decode (pm_mb 173) 16 = .ok (.aload_n 0, 1) := by decide +kernel
theorem dc173_17 : decode (pm_mb 173) 17 = .ok (.getfield 19, 3) := by decide +kernel
theorem dc173_20 : decode (pm_mb 173) 20 = .ok (.iconst 1, 1) := by decide +kernel
theorem dc173_21 : decode (pm_mb 173) 21 = .ok (.iaload, 1) := by decide +kernel
theorem dc173_22 : decode (pm_mb 173) 22 = .ok (.if_icmp .ge 42, 3) := by decide +kernel
theorem dc173_25 : decode (pm_mb 173) 25 = .ok (.aload_n 0, 1) := by decide +kernel
theorem dc173_26 : decode (pm_mb 173) 26 = .ok (.aload_n 0, 1) := by decide +kernel
theorem dc173_27 : decode (pm_mb 173) 27 = .ok (.iload_n 1, 1) := by decide +kernel
theorem dc173_28 : decode (pm_mb 173) 28 = .ok (.iconst 1, 1) := by decide +kernel
theorem dc173_29 : decode (pm_mb 173) 29 = .ok (.invokevirtual 187, 3) := by decide +kernel
theorem dc173_32 : decode (pm_mb 173) 32 = .ok (.iload_n 3, 1) := by decide +kernel
theorem dc173_33 : decode (pm_mb 173) 33 = .ok (.invokevirtual 190, 3) := by decide +kernel
theorem dc173_36 : decode (pm_mb 173) 36 = .ok (.ifCond .ne 28, 3) := by decide +kernel
theorem dc173_39 : decode (pm_mb 173) 39 = .ok (.aload_n 0, 1) := by decide +kernel
theorem dc173_40 : decode (pm_mb 173) 40 = .ok (.aload_n 0, 1) := by decide +kernel
theorem dc173_41 : decode (pm_mb 173) 41 = .ok (.iload_n 1, 1) := by decide +kernel
theorem dc173_42 : decode (pm_mb 173) 42 = .ok (.iconst 1, 1) := by decide +kernel
theorem dc173_43 : decode (pm_mb 173) 43 = .ok (.invokevirtual 187, 3) := by decide +kernel
theorem dc173_46 : decode (pm_mb 173) 46 = .ok (.iload_n 3, 1) := by decide +kernel
theorem dc173_47 : decode (pm_mb 173) 47 = .ok (.invokevirtual 193, 3) := by decide +kernel
theorem dc173_50 : decode (pm_mb 173) 50 = .ok (.ldc 86, 2) := by decide +kernel
theorem dc173_52 : decode (pm_mb 173) 52 = .ok (.if_icmp .ne 12, 3) := by decide +kernel
theorem dc173_55 : decode (pm_mb 173) 55 = .ok (.iinc 3 1, 3) := by decide +kernel
theorem dc173_58 : decode (pm_mb 173) 58 = .ok (.iinc 2 1, 3) := by decide +kernel
theorem dc173_61 : decode (pm_mb 173) 61 = .ok (.goto (-46), 3) := by decide +kernel
theorem dc173_64 : decode (pm_mb 173) 64 = .ok (.iload_n 2, 1) := by decide +kernel
theorem dc173_65 : decode (pm_mb 173) 65 = .ok (.ireturn, 1) := by decide +kernel
theorem b173_0 {X : pm_X} {d : Nat} {x1 : Int32} {g : pm_G} {iv : pm_V} (hL : pm_lay g) : pm_at X d 173 (0, [some (.ref 32), some (.int x1), none, none], [], g, iv) = pm_then X d 173 4 [some (.ref 32), some (.int x1), none, none] [] (pm_c X d 160 [.ref 32] g iv) := by
  refine (at_aload_n dc173_0 rfl).trans ?_
  exact at_inv dc173_1 mc173 lm6_213 rfl rfl (Nat.le_of_ble_eq_true rfl) (Or.inl ⟨(ly32 hL), by decide⟩)
theorem b173_4 {X : pm_X} {d : Nat} {x1 : Int32} {g : pm_G} {iv : pm_V} (hL : pm_lay g) : pm_at X d 173 (4, [some (.ref 32), some (.int x1), none, none], [], g, iv) = pm_then X d 173 12 [some (.ref 32), some (.int x1), some (.int 0), none] [] (pm_c X d 158 [.ref 32, .int x1, .int 2] g iv) := by
  refine (at_iconst (v := 0) dc173_4 rfl).trans ?_
  refine (at_istore_n dc173_5 rfl).trans ?_
  refine (at_aload_n dc173_6 rfl).trans ?_
  refine (at_iload_n dc173_7 rfl).trans ?_
  refine (at_iconst (v := 2) dc173_8 rfl).trans ?_
  exact at_inv dc173_9 mc173 lm6_187 rfl rfl (Nat.le_of_ble_eq_true rfl) (Or.inl ⟨(ly32 hL), by decide⟩)
theorem b173_12 {X : pm_X} {d : Nat} {x1 : Int32} {x2 : Int32} {s0 : Int32} {g : pm_G} {iv : pm_V}  : pm_at X d 173 (12, [some (.ref 32), some (.int x1), some (.int x2), none], [.int s0], g, iv) = pm_at X d 173 (15, [some (.ref 32), some (.int x1), some (.int x2), some (.int (s0 + 1))], [], g, iv) := by
  refine (at_iconst (v := 1) dc173_12 rfl).trans ?_
  refine (at_iadd dc173_13).trans ?_
  refine (at_istore_n dc173_14 rfl).trans ?_
  rfl
theorem b173_15 {X : pm_X} {d : Nat} {x1 : Int32} {x2 : Int32} {x3 : Int32} {g : pm_G} {iv : pm_V} (hL : pm_lay g) : pm_at X d 173 (15, [some (.ref 32), some (.int x1), some (.int x2), some (.int x3)], [], g, iv) = if (iv 36 1) ≤ x3 then pm_at X d 173 (64, [some (.ref 32), some (.int x1), some (.int x2), some (.int x3)], [], g, iv) else pm_at X d 173 (25, [some (.ref 32), some (.int x1), some (.int x2), some (.int x3)], [], g, iv) := by
  refine (at_iload_n dc173_15 rfl).trans ?_
  refine (at_aload_n dc173_16 rfl).trans ?_
  refine (at_gfR dc173_17 mc173 lf6_19 fo6_5 (ly32 hL) (lr32_5 hL)).trans ?_
  refine (at_iconst (v := 1) dc173_20 rfl).trans ?_
  refine (at_iald dc173_21 (ly36 hL) (vp_in_nI (n := 1) (by decide) (by decide))).trans ?_
  exact at_icmp_ge (t := 64) dc173_22 (by decide)
theorem b173_25 {X : pm_X} {d : Nat} {x1 : Int32} {x2 : Int32} {x3 : Int32} {g : pm_G} {iv : pm_V} (hL : pm_lay g) : pm_at X d 173 (25, [some (.ref 32), some (.int x1), some (.int x2), some (.int x3)], [], g, iv) = pm_then X d 173 32 [some (.ref 32), some (.int x1), some (.int x2), some (.int x3)] [.ref 32] (pm_c X d 158 [.ref 32, .int x1, .int 1] g iv) := by
  refine (at_aload_n dc173_25 rfl).trans ?_
  refine (at_aload_n dc173_26 rfl).trans ?_
  refine (at_iload_n dc173_27 rfl).trans ?_
  refine (at_iconst (v := 1) dc173_28 rfl).trans ?_
  exact at_inv dc173_29 mc173 lm6_187 rfl rfl (Nat.le_of_ble_eq_true rfl) (Or.inl ⟨(ly32 hL), by decide⟩)
theorem b173_32 {X : pm_X} {d : Nat} {x1 : Int32} {x2 : Int32} {x3 : Int32} {s0 : Int32} {g : pm_G} {iv : pm_V} (hL : pm_lay g) : pm_at X d 173 (32, [some (.ref 32), some (.int x1), some (.int x2), some (.int x3)], [.int s0, .ref 32], g, iv) = pm_then X d 173 36 [some (.ref 32), some (.int x1), some (.int x2), some (.int x3)] [] (pm_c X d 159 [.ref 32, .int s0, .int x3] g iv) := by
  refine (at_iload_n dc173_32 rfl).trans ?_
  exact at_inv dc173_33 mc173 lm6_190 rfl rfl (Nat.le_of_ble_eq_true rfl) (Or.inl ⟨(ly32 hL), by decide⟩)
theorem b173_36 {X : pm_X} {d : Nat} {x1 : Int32} {x2 : Int32} {x3 : Int32} {s0 : Int32} {g : pm_G} {iv : pm_V}  : pm_at X d 173 (36, [some (.ref 32), some (.int x1), some (.int x2), some (.int x3)], [.int s0], g, iv) = if ¬ s0 = 0 then pm_at X d 173 (64, [some (.ref 32), some (.int x1), some (.int x2), some (.int x3)], [], g, iv) else pm_at X d 173 (39, [some (.ref 32), some (.int x1), some (.int x2), some (.int x3)], [], g, iv) := by
  exact at_if_ne (t := 64) dc173_36 (by decide)
theorem b173_39 {X : pm_X} {d : Nat} {x1 : Int32} {x2 : Int32} {x3 : Int32} {g : pm_G} {iv : pm_V} (hL : pm_lay g) : pm_at X d 173 (39, [some (.ref 32), some (.int x1), some (.int x2), some (.int x3)], [], g, iv) = pm_then X d 173 46 [some (.ref 32), some (.int x1), some (.int x2), some (.int x3)] [.ref 32] (pm_c X d 158 [.ref 32, .int x1, .int 1] g iv) := by
  refine (at_aload_n dc173_39 rfl).trans ?_
  refine (at_aload_n dc173_40 rfl).trans ?_
  refine (at_iload_n dc173_41 rfl).trans ?_
  refine (at_iconst (v := 1) dc173_42 rfl).trans ?_
  exact at_inv dc173_43 mc173 lm6_187 rfl rfl (Nat.le_of_ble_eq_true rfl) (Or.inl ⟨(ly32 hL), by decide⟩)
theorem b173_46 {X : pm_X} {d : Nat} {x1 : Int32} {x2 : Int32} {x3 : Int32} {s0 : Int32} {g : pm_G} {iv : pm_V} (hL : pm_lay g) : pm_at X d 173 (46, [some (.ref 32), some (.int x1), some (.int x2), some (.int x3)], [.int s0, .ref 32], g, iv) = pm_then X d 173 50 [some (.ref 32), some (.int x1), some (.int x2), some (.int x3)] [] (pm_c X d 161 [.ref 32, .int s0, .int x3] g iv) := by
  refine (at_iload_n dc173_46 rfl).trans ?_
  exact at_inv dc173_47 mc173 lm6_193 rfl rfl (Nat.le_of_ble_eq_true rfl) (Or.inl ⟨(ly32 hL), by decide⟩)
theorem b173_50 {X : pm_X} {d : Nat} {x1 : Int32} {x2 : Int32} {x3 : Int32} {s0 : Int32} {g : pm_G} {iv : pm_V}  : pm_at X d 173 (50, [some (.ref 32), some (.int x1), some (.int x2), some (.int x3)], [.int s0], g, iv) = if ¬ s0 = (-1000000) then pm_at X d 173 (64, [some (.ref 32), some (.int x1), some (.int x2), some (.int x3)], [], g, iv) else pm_at X d 173 (55, [some (.ref 32), some (.int x1), some (.int x2), some (.int x3)], [], g, iv) := by
  refine (at_ldc dc173_50 mc173 lk6_86).trans ?_
  exact at_icmp_ne (t := 64) dc173_52 (by decide)
theorem b173_55 {X : pm_X} {d : Nat} {x1 : Int32} {x2 : Int32} {x3 : Int32} {g : pm_G} {iv : pm_V}  : pm_at X d 173 (55, [some (.ref 32), some (.int x1), some (.int x2), some (.int x3)], [], g, iv) = pm_at X d 173 (15, [some (.ref 32), some (.int x1), some (.int (x2 + 1)), some (.int (x3 + 1))], [], g, iv) := by
  refine (at_iinc (v := 1) dc173_55 rfl (by decide) rfl).trans ?_
  refine (at_iinc (v := 1) dc173_58 rfl (by decide) rfl).trans ?_
  refine (at_goto (t := 15) dc173_61 (by decide)).trans ?_
  rfl
theorem b173_64 {X : pm_X} {d : Nat} {x1 : Int32} {x2 : Int32} {x3 : Int32} {g : pm_G} {iv : pm_V}  : pm_at X d 173 (64, [some (.ref 32), some (.int x1), some (.int x2), some (.int x3)], [], g, iv) = some (some (.int x2), g, iv) := by
  refine (at_iload_n dc173_64 rfl).trans ?_
  exact at_iret dc173_65 mr173
-- Mod.house (II)I
theorem dc174_0 : decode (pm_mb 174) 0 = .ok (.aload_n 0, 1) := by decide +kernel
theorem dc174_1 : decode (pm_mb 174) 1 = .ok (.iconst 0, 1) := by decide +kernel
theorem dc174_2 : decode (pm_mb 174) 2 = .ok (.putfield 50, 3) := by decide +kernel
theorem dc174_5 : decode (pm_mb 174) 5 = .ok (.aload_n 0, 1) := by decide +kernel
theorem dc174_6 : decode (pm_mb 174) 6 = .ok (.iload_n 1, 1) := by decide +kernel
theorem dc174_7 : decode (pm_mb 174) 7 = .ok (.invokevirtual 184, 3) := by decide +kernel
theorem dc174_10 : decode (pm_mb 174) 10 = .ok (.ifCond .eq 15, 3) := by decide +kernel
theorem dc174_13 : decode (pm_mb 174) 13 = .ok (.iload_n 2, 1) := by decide +kernel
theorem dc174_14 : decode (pm_mb 174) 14 = .ok (.i2l, 1) := by decide +kernel
theorem dc174_15 : decode (pm_mb 174) 15 = .ok (.lconst 0, 1) := by decide +kernel
theorem dc174_16 : decode (pm_mb 174) 16 = .ok (.ldc2_w 224, 3) := by decide +kernel
theorem dc174_19 : decode (pm_mb 174) 19 = .ok (.invokestatic 60, 3) := by decide +kernel
theorem dc174_22 : decode (pm_mb 174) 22 = .ok (.ifCond .ne 6, 3) := by decide +kernel
theorem dc174_25 : decode (pm_mb 174) 25 = .ok (.ldc 70, 2) := by decide +kernel
theorem dc174_27 : decode (pm_mb 174) 27 = .ok (.ireturn, 1) := by decide +kernel
theorem dc174_28 : decode (pm_mb 174) 28 = .ok (.iload_n 2, 1) := by decide +kernel
theorem dc174_29 : decode (pm_mb 174) 29 = .ok (.iconst 5, 1) := by decide +kernel
theorem dc174_30 : decode (pm_mb 174) 30 = .ok (.if_icmp .ne 11, 3) := by decide +kernel
theorem dc174_33 : decode (pm_mb 174) 33 = .ok (.aload_n 0, 1) := by decide +kernel
theorem dc174_34 : decode (pm_mb 174) 34 = .ok (.iload_n 1, 1) := by decide +kernel
theorem dc174_35 : decode (pm_mb 174) 35 = .ok (.invokevirtual 226, 3) := by decide +kernel
theorem dc174_38 : decode (pm_mb 174) 38 = .ok (.goto 11, 3) := by decide +kernel
theorem dc174_41 : decode (pm_mb 174) 41 = .ok (.aload_n 0, 1) := by decide +kernel
theorem dc174_42 : decode (pm_mb 174) 42 = .ok (.iload_n 1, 1) := by decide +kernel
theorem dc174_43 : decode (pm_mb 174) 43 = .ok (.iconst 1, 1) := by decide +kernel
theorem dc174_44 : decode (pm_mb 174) 44 = .ok (.iload_n 2, 1) := by decide +kernel
theorem dc174_45 : decode (pm_mb 174) 45 = .ok (.iadd, 1) := by decide +kernel
theorem dc174_46 : decode (pm_mb 174) 46 = .ok (.invokevirtual 187, 3) := by decide +kernel
theorem dc174_49 : decode (pm_mb 174) 49 = .ok (.ireturn, 1) := by decide +kernel
theorem b174_0 {X : pm_X} {d : Nat} {x1 : Int32} {x2 : Int32} {g : pm_G} {iv : pm_V} (hL : pm_lay g) : pm_at X d 174 (0, [some (.ref 32), some (.int x1), some (.int x2)], [], g, iv) = pm_then X d 174 10 [some (.ref 32), some (.int x1), some (.int x2)] [] (pm_c X d 156 [.ref 32, .int x1] g (pm_iw iv 32 0 0)) := by
  refine (at_aload_n dc174_0 rfl).trans ?_
  refine (at_iconst (v := 0) dc174_1 rfl).trans ?_
  refine (at_pfI dc174_2 mc174 lf6_50 po6_0 (ly32 hL)).trans ?_
  refine (at_aload_n dc174_5 rfl).trans ?_
  refine (at_iload_n dc174_6 rfl).trans ?_
  exact at_inv dc174_7 mc174 lm6_184 rfl rfl (Nat.le_of_ble_eq_true rfl) (Or.inl ⟨(ly32 hL), by decide⟩)
theorem b174_10 {X : pm_X} {d : Nat} {x1 : Int32} {x2 : Int32} {s0 : Int32} {g : pm_G} {iv : pm_V}  : pm_at X d 174 (10, [some (.ref 32), some (.int x1), some (.int x2)], [.int s0], g, iv) = if s0 = 0 then pm_at X d 174 (25, [some (.ref 32), some (.int x1), some (.int x2)], [], g, iv) else pm_at X d 174 (13, [some (.ref 32), some (.int x1), some (.int x2)], [], g, iv) := by
  exact at_if_eq (t := 25) dc174_10 (by decide)
theorem b174_13 {X : pm_X} {d : Nat} {x1 : Int32} {x2 : Int32} {g : pm_G} {iv : pm_V}  : pm_at X d 174 (13, [some (.ref 32), some (.int x1), some (.int x2)], [], g, iv) = pm_then X d 174 22 [some (.ref 32), some (.int x1), some (.int x2)] [] (pm_c X d 129 [.long (x2 : Int32).toInt64, .long 0, .long 5] g iv) := by
  refine (at_iload_n dc174_13 rfl).trans ?_
  refine (at_i2l dc174_14).trans ?_
  refine (at_lconst (v := 0) dc174_15 (by decide)).trans ?_
  refine (at_ldc2 dc174_16 mc174 ll6_224).trans ?_
  exact at_ins dc174_19 mc174 lm6_60 (Nat.le_of_ble_eq_true rfl) rfl rfl (Nat.le_of_ble_eq_true rfl)
theorem b174_22 {X : pm_X} {d : Nat} {x1 : Int32} {x2 : Int32} {s0 : Int32} {g : pm_G} {iv : pm_V}  : pm_at X d 174 (22, [some (.ref 32), some (.int x1), some (.int x2)], [.int s0], g, iv) = if ¬ s0 = 0 then pm_at X d 174 (28, [some (.ref 32), some (.int x1), some (.int x2)], [], g, iv) else pm_at X d 174 (25, [some (.ref 32), some (.int x1), some (.int x2)], [], g, iv) := by
  exact at_if_ne (t := 28) dc174_22 (by decide)
theorem b174_25 {X : pm_X} {d : Nat} {x1 : Int32} {x2 : Int32} {g : pm_G} {iv : pm_V}  : pm_at X d 174 (25, [some (.ref 32), some (.int x1), some (.int x2)], [], g, iv) = some (some (.int (-1000001)), g, iv) := by
  refine (at_ldc dc174_25 mc174 lk6_70).trans ?_
  exact at_iret dc174_27 mr174
theorem b174_28 {X : pm_X} {d : Nat} {x1 : Int32} {x2 : Int32} {g : pm_G} {iv : pm_V}  : pm_at X d 174 (28, [some (.ref 32), some (.int x1), some (.int x2)], [], g, iv) = if ¬ x2 = 5 then pm_at X d 174 (41, [some (.ref 32), some (.int x1), some (.int x2)], [], g, iv) else pm_at X d 174 (33, [some (.ref 32), some (.int x1), some (.int x2)], [], g, iv) := by
  refine (at_iload_n dc174_28 rfl).trans ?_
  refine (at_iconst (v := 5) dc174_29 rfl).trans ?_
  exact at_icmp_ne (t := 41) dc174_30 (by decide)
theorem b174_33 {X : pm_X} {d : Nat} {x1 : Int32} {x2 : Int32} {g : pm_G} {iv : pm_V} (hL : pm_lay g) : pm_at X d 174 (33, [some (.ref 32), some (.int x1), some (.int x2)], [], g, iv) = pm_then X d 174 38 [some (.ref 32), some (.int x1), some (.int x2)] [] (pm_c X d 173 [.ref 32, .int x1] g iv) := by
  refine (at_aload_n dc174_33 rfl).trans ?_
  refine (at_iload_n dc174_34 rfl).trans ?_
  exact at_inv dc174_35 mc174 lm6_226 rfl rfl (Nat.le_of_ble_eq_true rfl) (Or.inl ⟨(ly32 hL), by decide⟩)
theorem b174_38 {X : pm_X} {d : Nat} {x1 : Int32} {x2 : Int32} {s0 : Int32} {g : pm_G} {iv : pm_V}  : pm_at X d 174 (38, [some (.ref 32), some (.int x1), some (.int x2)], [.int s0], g, iv) = pm_at X d 174 (49, [some (.ref 32), some (.int x1), some (.int x2)], [.int s0], g, iv) := by
  refine (at_goto (t := 49) dc174_38 (by decide)).trans ?_
  rfl
theorem b174_41 {X : pm_X} {d : Nat} {x1 : Int32} {x2 : Int32} {g : pm_G} {iv : pm_V} (hL : pm_lay g) : pm_at X d 174 (41, [some (.ref 32), some (.int x1), some (.int x2)], [], g, iv) = pm_then X d 174 49 [some (.ref 32), some (.int x1), some (.int x2)] [] (pm_c X d 158 [.ref 32, .int x1, .int (1 + x2)] g iv) := by
  refine (at_aload_n dc174_41 rfl).trans ?_
  refine (at_iload_n dc174_42 rfl).trans ?_
  refine (at_iconst (v := 1) dc174_43 rfl).trans ?_
  refine (at_iload_n dc174_44 rfl).trans ?_
  refine (at_iadd dc174_45).trans ?_
  exact at_inv dc174_46 mc174 lm6_187 rfl rfl (Nat.le_of_ble_eq_true rfl) (Or.inl ⟨(ly32 hL), by decide⟩)
theorem b174_49 {X : pm_X} {d : Nat} {x1 : Int32} {x2 : Int32} {s0 : Int32} {g : pm_G} {iv : pm_V}  : pm_at X d 174 (49, [some (.ref 32), some (.int x1), some (.int x2)], [.int s0], g, iv) = some (some (.int s0), g, iv) := by
  exact at_iret dc174_49 mr174
-- Mod.yard (II)I
theorem dc175_0 : decode (pm_mb 175) 0 = .ok (.aload_n 0, 1) := by decide +kernel
theorem dc175_1 : decode (pm_mb 175) 1 = .ok (.iconst 0, 1) := by decide +kernel
theorem dc175_2 : decode (pm_mb 175) 2 = .ok (.putfield 50, 3) := by decide +kernel
theorem dc175_5 : decode (pm_mb 175) 5 = .ok (.iload_n 1, 1) := by decide +kernel
theorem dc175_6 : decode (pm_mb 175) 6 = .ok (.i2l, 1) := by decide +kernel
theorem dc175_7 : decode (pm_mb 175) 7 = .ok (.lconst 0, 1) := by decide +kernel
theorem dc175_8 : decode (pm_mb 175) 8 = .ok (.aload_n 0, 1) := by decide +kernel
theorem dc175_9 : decode (pm_mb 175) 9 = .ok (.getfield 19, 3) := by decide +kernel
theorem dc175_12 : decode (pm_mb 175) 12 = .ok (.iconst 0, 1) := by decide +kernel
theorem dc175_13 : decode (pm_mb 175) 13 = .ok (.iaload, 1) := by decide +kernel
theorem dc175_14 : decode (pm_mb 175) 14 = .ok (.iconst 1, 1) := by decide +kernel
theorem dc175_15 : decode (pm_mb 175) 15 = .ok (.isub, 1) := by decide +kernel
theorem dc175_16 : decode (pm_mb 175) 16 = .ok (.i2l, 1) := by decide +kernel
theorem dc175_17 : decode (pm_mb 175) 17 = .ok (.invokestatic 60, 3) := by decide +kernel
theorem dc175_20 : decode (pm_mb 175) 20 = .ok (.ifCond .eq 21, 3) := by decide +kernel
theorem dc175_23 : decode (pm_mb 175) 23 = .ok (.iload_n 2, 1) := by decide +kernel
theorem dc175_24 : decode (pm_mb 175) 24 = .ok (.i2l, 1) := by decide +kernel
theorem dc175_25 : decode (pm_mb 175) 25 = .ok (.lconst 0, 1) := by decide +kernel
theorem dc175_26 : decode (pm_mb 175) 26 = .ok (.aload_n 0, 1) := by decide +kernel
theorem dc175_27 : decode (pm_mb 175) 27 = .ok (.getfield 19, 3) := by decide +kernel
theorem dc175_30 : decode (pm_mb 175) 30 = .ok (.iconst 1, 1) := by decide +kernel
theorem dc175_31 : decode (pm_mb 175) 31 = .ok (.iaload, 1) := by decide +kernel
theorem dc175_32 : decode (pm_mb 175) 32 = .ok (.iconst 1, 1) := by decide +kernel
theorem dc175_33 : decode (pm_mb 175) 33 = .ok (.isub, 1) := by decide +kernel
theorem dc175_34 : decode (pm_mb 175) 34 = .ok (.i2l, 1) := by decide +kernel
theorem dc175_35 : decode (pm_mb 175) 35 = .ok (.invokestatic 60, 3) := by decide +kernel
theorem dc175_38 : decode (pm_mb 175) 38 = .ok (.ifCond .ne 6, 3) := by decide +kernel
theorem dc175_41 : decode (pm_mb 175) 41 = .ok (.ldc 70, 2) := by decide +kernel
theorem dc175_43 : decode (pm_mb 175) 43 = .ok (.ireturn, 1) := by decide +kernel
theorem dc175_44 : decode (pm_mb 175) 44 = .ok (.aload_n 0, 1) := by decide +kernel
theorem dc175_45 : decode (pm_mb 175) 45 = .ok (.invokevirtual 213, 3) := by decide +kernel
theorem dc175_48 : decode (pm_mb 175) 48 = .ok (.aload_n 0, 1) := by decide +kernel
theorem dc175_49 : decode (pm_mb 175) 49 = .ok (.iload_n 1, 1) := by decide +kernel
theorem dc175_50 : decode (pm_mb 175) 50 = .ok (.iload_n 2, 1) := by decide +kernel
theorem dc175_51 : decode (pm_mb 175) 51 = .ok (.invokevirtual 193, 3) := by decide +kernel
theorem dc175_54 : decode (pm_mb 175) 54 = .ok (.istore_n 3, 1) := by decide +kernel
theorem dc175_55 : decode (pm_mb 175) 55 = .ok (.iload_n 3, 1) := by decide +kernel
theorem dc175_56 : decode (pm_mb 175) 56 = .ok (.ldc 86, 2) := by decide +kernel
theorem dc175_58 : decode (pm_mb 175) 58 = .ok (.if_icmp .eq 7, 3) := by decide +kernel
theorem dc175_61 : decode (pm_mb 175) 61 = .ok (.iload_n 3, 1) := by decide +kernel
theorem dc175_62 : decode (pm_mb 175) 62 = .ok (.goto 18, 3) := by decide +kernel
theorem dc175_65 : decode (pm_mb 175) 65 = .ok (.aload_n 0, 1) := by decide +kernel
theorem dc175_66 : decode (pm_mb 175) 66 = .ok (.iload_n 1, 1) := by decide +kernel
theorem dc175_67 : decode (pm_mb 175) 67 = .ok (.iload_n 2, 1) := by decide +kernel
theorem dc175_68 : decode (pm_mb 175) 68 = .ok (.invokevirtual 190, 3) := by decide +kernel
theorem dc175_71 : decode (pm_mb 175) 71 = .ok (.ifCond .eq 7, 3) := by decide +kernel
theorem dc175_74 : decode (pm_mb 175) 74 = .ok (.iconst (-1), 1) := by decide +kernel
theorem dc175_75 : decode (pm_mb 175) 75 = .ok (.goto 5, 3) := by decide +kernel
theorem dc175_78 : decode (pm_mb 175) 78 = .ok (.bipush (-2), 2) := by decide +kernel
theorem dc175_80 : decode (pm_mb 175) 80 = .ok (.ireturn, 1) := by decide +kernel
theorem b175_0 {X : pm_X} {d : Nat} {x1 : Int32} {x2 : Int32} {g : pm_G} {iv : pm_V} (hL : pm_lay g) : pm_at X d 175 (0, [some (.ref 32), some (.int x1), some (.int x2), none], [], g, iv) = pm_then X d 175 20 [some (.ref 32), some (.int x1), some (.int x2), none] [] (pm_c X d 129 [.long (x1 : Int32).toInt64, .long 0, .long ((((pm_iw iv 32 0 0) 36 0) - 1) : Int32).toInt64] g (pm_iw iv 32 0 0)) := by
  refine (at_aload_n dc175_0 rfl).trans ?_
  refine (at_iconst (v := 0) dc175_1 rfl).trans ?_
  refine (at_pfI dc175_2 mc175 lf6_50 po6_0 (ly32 hL)).trans ?_
  refine (at_iload_n dc175_5 rfl).trans ?_
  refine (at_i2l dc175_6).trans ?_
  refine (at_lconst (v := 0) dc175_7 (by decide)).trans ?_
  refine (at_aload_n dc175_8 rfl).trans ?_
  refine (at_gfR dc175_9 mc175 lf6_19 fo6_5 (ly32 hL) (lr32_5 hL)).trans ?_
  refine (at_iconst (v := 0) dc175_12 rfl).trans ?_
  refine (at_iald dc175_13 (ly36 hL) (vp_in_nI (n := 0) (by decide) (by decide))).trans ?_
  refine (at_iconst (v := 1) dc175_14 rfl).trans ?_
  refine (at_isub dc175_15).trans ?_
  refine (at_i2l dc175_16).trans ?_
  exact at_ins dc175_17 mc175 lm6_60 (Nat.le_of_ble_eq_true rfl) rfl rfl (Nat.le_of_ble_eq_true rfl)
theorem b175_20 {X : pm_X} {d : Nat} {x1 : Int32} {x2 : Int32} {s0 : Int32} {g : pm_G} {iv : pm_V}  : pm_at X d 175 (20, [some (.ref 32), some (.int x1), some (.int x2), none], [.int s0], g, iv) = if s0 = 0 then pm_at X d 175 (41, [some (.ref 32), some (.int x1), some (.int x2), none], [], g, iv) else pm_at X d 175 (23, [some (.ref 32), some (.int x1), some (.int x2), none], [], g, iv) := by
  exact at_if_eq (t := 41) dc175_20 (by decide)
theorem b175_23 {X : pm_X} {d : Nat} {x1 : Int32} {x2 : Int32} {g : pm_G} {iv : pm_V} (hL : pm_lay g) : pm_at X d 175 (23, [some (.ref 32), some (.int x1), some (.int x2), none], [], g, iv) = pm_then X d 175 38 [some (.ref 32), some (.int x1), some (.int x2), none] [] (pm_c X d 129 [.long (x2 : Int32).toInt64, .long 0, .long (((iv 36 1) - 1) : Int32).toInt64] g iv) := by
  refine (at_iload_n dc175_23 rfl).trans ?_
  refine (at_i2l dc175_24).trans ?_
  refine (at_lconst (v := 0) dc175_25 (by decide)).trans ?_
  refine (at_aload_n dc175_26 rfl).trans ?_
  refine (at_gfR dc175_27 mc175 lf6_19 fo6_5 (ly32 hL) (lr32_5 hL)).trans ?_
  refine (at_iconst (v := 1) dc175_30 rfl).trans ?_
  refine (at_iald dc175_31 (ly36 hL) (vp_in_nI (n := 1) (by decide) (by decide))).trans ?_
  refine (at_iconst (v := 1) dc175_32 rfl).trans ?_
  refine (at_isub dc175_33).trans ?_
  refine (at_i2l dc175_34).trans ?_
  exact at_ins dc175_35 mc175 lm6_60 (Nat.le_of_ble_eq_true rfl) rfl rfl (Nat.le_of_ble_eq_true rfl)
theorem b175_38 {X : pm_X} {d : Nat} {x1 : Int32} {x2 : Int32} {s0 : Int32} {g : pm_G} {iv : pm_V}  : pm_at X d 175 (38, [some (.ref 32), some (.int x1), some (.int x2), none], [.int s0], g, iv) = if ¬ s0 = 0 then pm_at X d 175 (44, [some (.ref 32), some (.int x1), some (.int x2), none], [], g, iv) else pm_at X d 175 (41, [some (.ref 32), some (.int x1), some (.int x2), none], [], g, iv) := by
  exact at_if_ne (t := 44) dc175_38 (by decide)
theorem b175_41 {X : pm_X} {d : Nat} {x1 : Int32} {x2 : Int32} {g : pm_G} {iv : pm_V}  : pm_at X d 175 (41, [some (.ref 32), some (.int x1), some (.int x2), none], [], g, iv) = some (some (.int (-1000001)), g, iv) := by
  refine (at_ldc dc175_41 mc175 lk6_70).trans ?_
  exact at_iret dc175_43 mr175
theorem b175_44 {X : pm_X} {d : Nat} {x1 : Int32} {x2 : Int32} {g : pm_G} {iv : pm_V} (hL : pm_lay g) : pm_at X d 175 (44, [some (.ref 32), some (.int x1), some (.int x2), none], [], g, iv) = pm_then X d 175 48 [some (.ref 32), some (.int x1), some (.int x2), none] [] (pm_c X d 160 [.ref 32] g iv) := by
  refine (at_aload_n dc175_44 rfl).trans ?_
  exact at_inv dc175_45 mc175 lm6_213 rfl rfl (Nat.le_of_ble_eq_true rfl) (Or.inl ⟨(ly32 hL), by decide⟩)
theorem b175_48 {X : pm_X} {d : Nat} {x1 : Int32} {x2 : Int32} {g : pm_G} {iv : pm_V} (hL : pm_lay g) : pm_at X d 175 (48, [some (.ref 32), some (.int x1), some (.int x2), none], [], g, iv) = pm_then X d 175 54 [some (.ref 32), some (.int x1), some (.int x2), none] [] (pm_c X d 161 [.ref 32, .int x1, .int x2] g iv) := by
  refine (at_aload_n dc175_48 rfl).trans ?_
  refine (at_iload_n dc175_49 rfl).trans ?_
  refine (at_iload_n dc175_50 rfl).trans ?_
  exact at_inv dc175_51 mc175 lm6_193 rfl rfl (Nat.le_of_ble_eq_true rfl) (Or.inl ⟨(ly32 hL), by decide⟩)
theorem b175_54 {X : pm_X} {d : Nat} {x1 : Int32} {x2 : Int32} {s0 : Int32} {g : pm_G} {iv : pm_V}  : pm_at X d 175 (54, [some (.ref 32), some (.int x1), some (.int x2), none], [.int s0], g, iv) = if s0 = (-1000000) then pm_at X d 175 (65, [some (.ref 32), some (.int x1), some (.int x2), some (.int s0)], [], g, iv) else pm_at X d 175 (61, [some (.ref 32), some (.int x1), some (.int x2), some (.int s0)], [], g, iv) := by
  refine (at_istore_n dc175_54 rfl).trans ?_
  refine (at_iload_n dc175_55 rfl).trans ?_
  refine (at_ldc dc175_56 mc175 lk6_86).trans ?_
  exact at_icmp_eq (t := 65) dc175_58 (by decide)
theorem b175_61 {X : pm_X} {d : Nat} {x1 : Int32} {x2 : Int32} {x3 : Int32} {g : pm_G} {iv : pm_V}  : pm_at X d 175 (61, [some (.ref 32), some (.int x1), some (.int x2), some (.int x3)], [], g, iv) = pm_at X d 175 (80, [some (.ref 32), some (.int x1), some (.int x2), some (.int x3)], [.int x3], g, iv) := by
  refine (at_iload_n dc175_61 rfl).trans ?_
  refine (at_goto (t := 80) dc175_62 (by decide)).trans ?_
  rfl
theorem b175_65 {X : pm_X} {d : Nat} {x1 : Int32} {x2 : Int32} {x3 : Int32} {g : pm_G} {iv : pm_V} (hL : pm_lay g) : pm_at X d 175 (65, [some (.ref 32), some (.int x1), some (.int x2), some (.int x3)], [], g, iv) = pm_then X d 175 71 [some (.ref 32), some (.int x1), some (.int x2), some (.int x3)] [] (pm_c X d 159 [.ref 32, .int x1, .int x2] g iv) := by
  refine (at_aload_n dc175_65 rfl).trans ?_
  refine (at_iload_n dc175_66 rfl).trans ?_
  refine (at_iload_n dc175_67 rfl).trans ?_
  exact at_inv dc175_68 mc175 lm6_190 rfl rfl (Nat.le_of_ble_eq_true rfl) (Or.inl ⟨(ly32 hL), by decide⟩)
theorem b175_71 {X : pm_X} {d : Nat} {x1 : Int32} {x2 : Int32} {x3 : Int32} {s0 : Int32} {g : pm_G} {iv : pm_V}  : pm_at X d 175 (71, [some (.ref 32), some (.int x1), some (.int x2), some (.int x3)], [.int s0], g, iv) = if s0 = 0 then pm_at X d 175 (78, [some (.ref 32), some (.int x1), some (.int x2), some (.int x3)], [], g, iv) else pm_at X d 175 (74, [some (.ref 32), some (.int x1), some (.int x2), some (.int x3)], [], g, iv) := by
  exact at_if_eq (t := 78) dc175_71 (by decide)
theorem b175_74 {X : pm_X} {d : Nat} {x1 : Int32} {x2 : Int32} {x3 : Int32} {g : pm_G} {iv : pm_V}  : pm_at X d 175 (74, [some (.ref 32), some (.int x1), some (.int x2), some (.int x3)], [], g, iv) = pm_at X d 175 (80, [some (.ref 32), some (.int x1), some (.int x2), some (.int x3)], [.int (-1)], g, iv) := by
  refine (at_iconst (v := (-1)) dc175_74 rfl).trans ?_
  refine (at_goto (t := 80) dc175_75 (by decide)).trans ?_
  rfl
theorem b175_78 {X : pm_X} {d : Nat} {x1 : Int32} {x2 : Int32} {x3 : Int32} {g : pm_G} {iv : pm_V}  : pm_at X d 175 (78, [some (.ref 32), some (.int x1), some (.int x2), some (.int x3)], [], g, iv) = pm_at X d 175 (80, [some (.ref 32), some (.int x1), some (.int x2), some (.int x3)], [.int (-2)], g, iv) := by
  refine (at_bipush (v := (-2)) dc175_78 (by decide)).trans ?_
  rfl
theorem b175_80 {X : pm_X} {d : Nat} {x1 : Int32} {x2 : Int32} {x3 : Int32} {s0 : Int32} {g : pm_G} {iv : pm_V}  : pm_at X d 175 (80, [some (.ref 32), some (.int x1), some (.int x2), some (.int x3)], [.int s0], g, iv) = some (some (.int s0), g, iv) := by
  exact at_iret dc175_80 mr175
-- Mod.layAhead (I)V
theorem dc176_0 : decode (pm_mb 176) 0 = .ok (.aload_n 0, 1) := by decide +kernel
theorem dc176_1 : decode (pm_mb 176) 1 = .ok (.invokevirtual 213, 3) := by decide +kernel
theorem dc176_4 : decode (pm_mb 176) 4 = .ok (.iconst 0, 1) := by decide +kernel
theorem dc176_5 : decode (pm_mb 176) 5 = .ok (.istore_n 2, 1) := by decide +kernel
theorem dc176_6 : decode (pm_mb 176) 6 = .ok (.iload_n 2, 1) := by decide +kernel
theorem dc176_7 : decode (pm_mb 176) 7 = .ok (.iload_n 1, 1) := by decide +kernel
theorem dc176_8 : decode (pm_mb 176) 8 = .ok (.if_icmp .ge 21, 3) := by decide +kernel
theorem dc176_11 : decode (pm_mb 176) 11 = .ok (.aload_n 0, 1) := by decide +kernel
theorem dc176_12 : decode (pm_mb 176) 12 = .ok (.aload_n 0, 1) := by decide +kernel
theorem dc176_13 : decode (pm_mb 176) 13 = .ok (.getfield 19, 3) := by decide +kernel
theorem dc176_16 : decode (pm_mb 176) 16 = .ok (.iconst 4, 1) := by decide +kernel
theorem dc176_17 : decode (pm_mb 176) 17 = .ok (.iaload, 1) := by decide +kernel
theorem dc176_18 : decode (pm_mb 176) 18 = .ok (.iload_n 2, 1) := by decide +kernel
theorem dc176_19 : decode (pm_mb 176) 19 = .ok (.iadd, 1) := by decide +kernel
theorem dc176_20 : decode (pm_mb 176) 20 = .ok (.invokevirtual 216, 3) := by decide +kernel
theorem dc176_23 : decode (pm_mb 176) 23 = .ok (.iinc 2 1, 3) := by decide +kernel
theorem dc176_26 : decode (pm_mb 176) 26 = .ok (.goto (-20), 3) := by decide +kernel
theorem dc176_29 : decode (pm_mb 176) 29 = .ok (.return_, 1) := by decide +kernel
theorem b176_0 {X : pm_X} {d : Nat} {x1 : Int32} {g : pm_G} {iv : pm_V} (hL : pm_lay g) : pm_at X d 176 (0, [some (.ref 32), some (.int x1), none], [], g, iv) = pm_then X d 176 4 [some (.ref 32), some (.int x1), none] [] (pm_c X d 160 [.ref 32] g iv) := by
  refine (at_aload_n dc176_0 rfl).trans ?_
  exact at_inv dc176_1 mc176 lm6_213 rfl rfl (Nat.le_of_ble_eq_true rfl) (Or.inl ⟨(ly32 hL), by decide⟩)
theorem b176_4 {X : pm_X} {d : Nat} {x1 : Int32} {g : pm_G} {iv : pm_V}  : pm_at X d 176 (4, [some (.ref 32), some (.int x1), none], [], g, iv) = pm_at X d 176 (6, [some (.ref 32), some (.int x1), some (.int 0)], [], g, iv) := by
  refine (at_iconst (v := 0) dc176_4 rfl).trans ?_
  refine (at_istore_n dc176_5 rfl).trans ?_
  rfl
theorem b176_6 {X : pm_X} {d : Nat} {x1 : Int32} {x2 : Int32} {g : pm_G} {iv : pm_V}  : pm_at X d 176 (6, [some (.ref 32), some (.int x1), some (.int x2)], [], g, iv) = if x1 ≤ x2 then pm_at X d 176 (29, [some (.ref 32), some (.int x1), some (.int x2)], [], g, iv) else pm_at X d 176 (11, [some (.ref 32), some (.int x1), some (.int x2)], [], g, iv) := by
  refine (at_iload_n dc176_6 rfl).trans ?_
  refine (at_iload_n dc176_7 rfl).trans ?_
  exact at_icmp_ge (t := 29) dc176_8 (by decide)
theorem b176_11 {X : pm_X} {d : Nat} {x1 : Int32} {x2 : Int32} {g : pm_G} {iv : pm_V} (hL : pm_lay g) : pm_at X d 176 (11, [some (.ref 32), some (.int x1), some (.int x2)], [], g, iv) = pm_then X d 176 23 [some (.ref 32), some (.int x1), some (.int x2)] [] (pm_c X d 165 [.ref 32, .int ((iv 36 4) + x2)] g iv) := by
  refine (at_aload_n dc176_11 rfl).trans ?_
  refine (at_aload_n dc176_12 rfl).trans ?_
  refine (at_gfR dc176_13 mc176 lf6_19 fo6_5 (ly32 hL) (lr32_5 hL)).trans ?_
  refine (at_iconst (v := 4) dc176_16 rfl).trans ?_
  refine (at_iald dc176_17 (ly36 hL) (vp_in_nI (n := 4) (by decide) (by decide))).trans ?_
  refine (at_iload_n dc176_18 rfl).trans ?_
  refine (at_iadd dc176_19).trans ?_
  exact at_inv dc176_20 mc176 lm6_216 rfl rfl (Nat.le_of_ble_eq_true rfl) (Or.inl ⟨(ly32 hL), by decide⟩)
theorem b176_23 {X : pm_X} {d : Nat} {x1 : Int32} {x2 : Int32} {g : pm_G} {iv : pm_V}  : pm_at X d 176 (23, [some (.ref 32), some (.int x1), some (.int x2)], [], g, iv) = pm_at X d 176 (6, [some (.ref 32), some (.int x1), some (.int (x2 + 1))], [], g, iv) := by
  refine (at_iinc (v := 1) dc176_23 rfl (by decide) rfl).trans ?_
  refine (at_goto (t := 6) dc176_26 (by decide)).trans ?_
  rfl
theorem b176_29 {X : pm_X} {d : Nat} {x1 : Int32} {x2 : Int32} {g : pm_G} {iv : pm_V}  : pm_at X d 176 (29, [some (.ref 32), some (.int x1), some (.int x2)], [], g, iv) = some (none, g, iv) := by
  exact at_vret dc176_29 mr176
-- Mod.ahead (III)I
theorem dc177_0 : decode (pm_mb 177) 0 = .ok (.aload_n 0, 1) := by decide +kernel
theorem dc177_1 : decode (pm_mb 177) 1 = .ok (.iconst 0, 1) := by decide +kernel
theorem dc177_2 : decode (pm_mb 177) 2 = .ok (.putfield 50, 3) := by decide +kernel
theorem dc177_5 : decode (pm_mb 177) 5 = .ok (.aload_n 0, 1) := by decide +kernel
theorem dc177_6 : decode (pm_mb 177) 6 = .ok (.iload_n 1, 1) := by decide +kernel
theorem dc177_7 : decode (pm_mb 177) 7 = .ok (.invokevirtual 184, 3) := by decide +kernel
theorem dc177_10 : decode (pm_mb 177) 10 = .ok (.ifCond .eq 25, 3) := by decide +kernel
theorem dc177_13 : decode (pm_mb 177) 13 = .ok (.iload_n 2, 1) := by decide +kernel
theorem dc177_14 : decode (pm_mb 177) 14 = .ok (.i2l, 1) := by decide +kernel
theorem dc177_15 : decode (pm_mb 177) 15 = .ok (.lconst 0, 1) := by decide +kernel
theorem dc177_16 : decode (pm_mb 177) 16 = .ok (.ldc2_w 229, 3) := by decide +kernel
theorem dc177_19 : decode (pm_mb 177) 19 = .ok (.invokestatic 60, 3) := by decide +kernel
theorem dc177_22 : decode (pm_mb 177) 22 = .ok (.ifCond .eq 13, 3) := by decide +kernel
theorem dc177_25 : decode (pm_mb 177) 25 = .ok (.iload_n 3, 1) := by decide +kernel
theorem dc177_26 : decode (pm_mb 177) 26 = .ok (.i2l, 1) := by decide +kernel
theorem dc177_27 : decode (pm_mb 177) 27 = .ok (.lconst 0, 1) := by decide +kernel
theorem dc177_28 : decode (pm_mb 177) 28 = .ok (.lconst 1, 1) := by decide +kernel
theorem dc177_29 : decode (pm_mb 177) 29 = .ok (.invokestatic 60, 3) := by decide +kernel
theorem dc177_32 : decode (pm_mb 177) 32 = .ok (.ifCond .ne 6, 3) := by decide +kernel
theorem dc177_35 : decode (pm_mb 177) 35 = .ok (.ldc 70, 2) := by decide +kernel
theorem dc177_37 : decode (pm_mb 177) 37 = .ok (.ireturn, 1) := by decide +kernel
theorem dc177_38 : decode (pm_mb 177) 38 = .ok (.aload_n 0, 1) := by decide +kernel
theorem dc177_39 : decode (pm_mb 177) 39 = .ok (.iload_n 2, 1) := by decide +kernel
theorem dc177_40 : decode (pm_mb 177) 40 = .ok (.invokevirtual 231, 3) := by decide +kernel
theorem dc177_43 : decode (pm_mb 177) 43 = .ok (.iload_n 3, 1) := by decide +kernel
theorem dc177_44 : decode (pm_mb 177) 44 = .ok (.ifCond .ne 12, 3) := by decide +kernel
theorem dc177_47 : decode (pm_mb 177) 47 = .ok (.aload_n 0, 1) := by decide +kernel
theorem dc177_48 : decode (pm_mb 177) 48 = .ok (.iload_n 1, 1) := by decide +kernel
theorem dc177_49 : decode (pm_mb 177) 49 = .ok (.iconst 1, 1) := by decide +kernel
theorem dc177_50 : decode (pm_mb 177) 50 = .ok (.invokevirtual 187, 3) := by decide +kernel
theorem dc177_53 : decode (pm_mb 177) 53 = .ok (.goto 9, 3) := by decide +kernel
theorem dc177_56 : decode (pm_mb 177) 56 = .ok (.aload_n 0, 1) := by decide +kernel
theorem dc177_57 : decode (pm_mb 177) 57 = .ok (.getfield 31, 3) := by decide +kernel
theorem dc177_60 : decode (pm_mb 177) 60 = .ok (.iload_n 1, 1) := by decide +kernel
theorem dc177_61 : decode (pm_mb 177) 61 = .ok (.iaload, 1) := by decide +kernel
theorem dc177_62 : decode (pm_mb 177) 62 = .ok (.ireturn, 1) := by decide +kernel
theorem b177_0 {X : pm_X} {d : Nat} {x1 : Int32} {x2 : Int32} {x3 : Int32} {g : pm_G} {iv : pm_V} (hL : pm_lay g) : pm_at X d 177 (0, [some (.ref 32), some (.int x1), some (.int x2), some (.int x3)], [], g, iv) = pm_then X d 177 10 [some (.ref 32), some (.int x1), some (.int x2), some (.int x3)] [] (pm_c X d 156 [.ref 32, .int x1] g (pm_iw iv 32 0 0)) := by
  refine (at_aload_n dc177_0 rfl).trans ?_
  refine (at_iconst (v := 0) dc177_1 rfl).trans ?_
  refine (at_pfI dc177_2 mc177 lf6_50 po6_0 (ly32 hL)).trans ?_
  refine (at_aload_n dc177_5 rfl).trans ?_
  refine (at_iload_n dc177_6 rfl).trans ?_
  exact at_inv dc177_7 mc177 lm6_184 rfl rfl (Nat.le_of_ble_eq_true rfl) (Or.inl ⟨(ly32 hL), by decide⟩)
theorem b177_10 {X : pm_X} {d : Nat} {x1 : Int32} {x2 : Int32} {x3 : Int32} {s0 : Int32} {g : pm_G} {iv : pm_V}  : pm_at X d 177 (10, [some (.ref 32), some (.int x1), some (.int x2), some (.int x3)], [.int s0], g, iv) = if s0 = 0 then pm_at X d 177 (35, [some (.ref 32), some (.int x1), some (.int x2), some (.int x3)], [], g, iv) else pm_at X d 177 (13, [some (.ref 32), some (.int x1), some (.int x2), some (.int x3)], [], g, iv) := by
  exact at_if_eq (t := 35) dc177_10 (by decide)
theorem b177_13 {X : pm_X} {d : Nat} {x1 : Int32} {x2 : Int32} {x3 : Int32} {g : pm_G} {iv : pm_V}  : pm_at X d 177 (13, [some (.ref 32), some (.int x1), some (.int x2), some (.int x3)], [], g, iv) = pm_then X d 177 22 [some (.ref 32), some (.int x1), some (.int x2), some (.int x3)] [] (pm_c X d 129 [.long (x2 : Int32).toInt64, .long 0, .long 40] g iv) := by
  refine (at_iload_n dc177_13 rfl).trans ?_
  refine (at_i2l dc177_14).trans ?_
  refine (at_lconst (v := 0) dc177_15 (by decide)).trans ?_
  refine (at_ldc2 dc177_16 mc177 ll6_229).trans ?_
  exact at_ins dc177_19 mc177 lm6_60 (Nat.le_of_ble_eq_true rfl) rfl rfl (Nat.le_of_ble_eq_true rfl)
theorem b177_22 {X : pm_X} {d : Nat} {x1 : Int32} {x2 : Int32} {x3 : Int32} {s0 : Int32} {g : pm_G} {iv : pm_V}  : pm_at X d 177 (22, [some (.ref 32), some (.int x1), some (.int x2), some (.int x3)], [.int s0], g, iv) = if s0 = 0 then pm_at X d 177 (35, [some (.ref 32), some (.int x1), some (.int x2), some (.int x3)], [], g, iv) else pm_at X d 177 (25, [some (.ref 32), some (.int x1), some (.int x2), some (.int x3)], [], g, iv) := by
  exact at_if_eq (t := 35) dc177_22 (by decide)
theorem b177_25 {X : pm_X} {d : Nat} {x1 : Int32} {x2 : Int32} {x3 : Int32} {g : pm_G} {iv : pm_V}  : pm_at X d 177 (25, [some (.ref 32), some (.int x1), some (.int x2), some (.int x3)], [], g, iv) = pm_then X d 177 32 [some (.ref 32), some (.int x1), some (.int x2), some (.int x3)] [] (pm_c X d 129 [.long (x3 : Int32).toInt64, .long 0, .long 1] g iv) := by
  refine (at_iload_n dc177_25 rfl).trans ?_
  refine (at_i2l dc177_26).trans ?_
  refine (at_lconst (v := 0) dc177_27 (by decide)).trans ?_
  refine (at_lconst (v := 1) dc177_28 (by decide)).trans ?_
  exact at_ins dc177_29 mc177 lm6_60 (Nat.le_of_ble_eq_true rfl) rfl rfl (Nat.le_of_ble_eq_true rfl)
theorem b177_32 {X : pm_X} {d : Nat} {x1 : Int32} {x2 : Int32} {x3 : Int32} {s0 : Int32} {g : pm_G} {iv : pm_V}  : pm_at X d 177 (32, [some (.ref 32), some (.int x1), some (.int x2), some (.int x3)], [.int s0], g, iv) = if ¬ s0 = 0 then pm_at X d 177 (38, [some (.ref 32), some (.int x1), some (.int x2), some (.int x3)], [], g, iv) else pm_at X d 177 (35, [some (.ref 32), some (.int x1), some (.int x2), some (.int x3)], [], g, iv) := by
  exact at_if_ne (t := 38) dc177_32 (by decide)
theorem b177_35 {X : pm_X} {d : Nat} {x1 : Int32} {x2 : Int32} {x3 : Int32} {g : pm_G} {iv : pm_V}  : pm_at X d 177 (35, [some (.ref 32), some (.int x1), some (.int x2), some (.int x3)], [], g, iv) = some (some (.int (-1000001)), g, iv) := by
  refine (at_ldc dc177_35 mc177 lk6_70).trans ?_
  exact at_iret dc177_37 mr177
theorem b177_38 {X : pm_X} {d : Nat} {x1 : Int32} {x2 : Int32} {x3 : Int32} {g : pm_G} {iv : pm_V} (hL : pm_lay g) : pm_at X d 177 (38, [some (.ref 32), some (.int x1), some (.int x2), some (.int x3)], [], g, iv) = pm_then X d 177 43 [some (.ref 32), some (.int x1), some (.int x2), some (.int x3)] [] (pm_c X d 176 [.ref 32, .int x2] g iv) := by
  refine (at_aload_n dc177_38 rfl).trans ?_
  refine (at_iload_n dc177_39 rfl).trans ?_
  exact at_inv dc177_40 mc177 lm6_231 rfl rfl (Nat.le_of_ble_eq_true rfl) (Or.inl ⟨(ly32 hL), by decide⟩)
theorem b177_43 {X : pm_X} {d : Nat} {x1 : Int32} {x2 : Int32} {x3 : Int32} {g : pm_G} {iv : pm_V}  : pm_at X d 177 (43, [some (.ref 32), some (.int x1), some (.int x2), some (.int x3)], [], g, iv) = if ¬ x3 = 0 then pm_at X d 177 (56, [some (.ref 32), some (.int x1), some (.int x2), some (.int x3)], [], g, iv) else pm_at X d 177 (47, [some (.ref 32), some (.int x1), some (.int x2), some (.int x3)], [], g, iv) := by
  refine (at_iload_n dc177_43 rfl).trans ?_
  exact at_if_ne (t := 56) dc177_44 (by decide)
theorem b177_47 {X : pm_X} {d : Nat} {x1 : Int32} {x2 : Int32} {x3 : Int32} {g : pm_G} {iv : pm_V} (hL : pm_lay g) : pm_at X d 177 (47, [some (.ref 32), some (.int x1), some (.int x2), some (.int x3)], [], g, iv) = pm_then X d 177 53 [some (.ref 32), some (.int x1), some (.int x2), some (.int x3)] [] (pm_c X d 158 [.ref 32, .int x1, .int 1] g iv) := by
  refine (at_aload_n dc177_47 rfl).trans ?_
  refine (at_iload_n dc177_48 rfl).trans ?_
  refine (at_iconst (v := 1) dc177_49 rfl).trans ?_
  exact at_inv dc177_50 mc177 lm6_187 rfl rfl (Nat.le_of_ble_eq_true rfl) (Or.inl ⟨(ly32 hL), by decide⟩)
theorem b177_53 {X : pm_X} {d : Nat} {x1 : Int32} {x2 : Int32} {x3 : Int32} {s0 : Int32} {g : pm_G} {iv : pm_V}  : pm_at X d 177 (53, [some (.ref 32), some (.int x1), some (.int x2), some (.int x3)], [.int s0], g, iv) = pm_at X d 177 (62, [some (.ref 32), some (.int x1), some (.int x2), some (.int x3)], [.int s0], g, iv) := by
  refine (at_goto (t := 62) dc177_53 (by decide)).trans ?_
  rfl
theorem b177_56 {X : pm_X} {d : Nat} {x1 : Int32} {x2 : Int32} {x3 : Int32} {g : pm_G} {iv : pm_V} (hL : pm_lay g) (i1 : vp_in x1 6) : pm_at X d 177 (56, [some (.ref 32), some (.int x1), some (.int x2), some (.int x3)], [], g, iv) = pm_at X d 177 (62, [some (.ref 32), some (.int x1), some (.int x2), some (.int x3)], [.int (iv 40 (x1 : Int32).toNatClampNeg)], g, iv) := by
  refine (at_aload_n dc177_56 rfl).trans ?_
  refine (at_gfR dc177_57 mc177 lf6_31 fo6_19 (ly32 hL) (lr32_19 hL)).trans ?_
  refine (at_iload_n dc177_60 rfl).trans ?_
  refine (at_iald dc177_61 (ly40 hL) i1).trans ?_
  rfl
theorem b177_62 {X : pm_X} {d : Nat} {x1 : Int32} {x2 : Int32} {x3 : Int32} {s0 : Int32} {g : pm_G} {iv : pm_V}  : pm_at X d 177 (62, [some (.ref 32), some (.int x1), some (.int x2), some (.int x3)], [.int s0], g, iv) = some (some (.int s0), g, iv) := by
  exact at_iret dc177_62 mr177
-- Mod.stream (I)I
theorem dc178_0 : decode (pm_mb 178) 0 = .ok (.aload_n 0, 1) := by decide +kernel
theorem dc178_1 : decode (pm_mb 178) 1 = .ok (.iconst 0, 1) := by decide +kernel
theorem dc178_2 : decode (pm_mb 178) 2 = .ok (.putfield 50, 3) := by decide +kernel
theorem dc178_5 : decode (pm_mb 178) 5 = .ok (.aload_n 0, 1) := by decide +kernel
theorem dc178_6 : decode (pm_mb 178) 6 = .ok (.iload_n 1, 1) := by decide +kernel
theorem dc178_7 : decode (pm_mb 178) 7 = .ok (.invokevirtual 184, 3) := by decide +kernel
theorem dc178_10 : decode (pm_mb 178) 10 = .ok (.ifCond .ne 6, 3) := by decide +kernel
theorem dc178_13 : decode (pm_mb 178) 13 = .ok (.ldc 70, 2) := by decide +kernel
theorem dc178_15 : decode (pm_mb 178) 15 = .ok (.ireturn, 1) := by decide +kernel
theorem dc178_16 : decode (pm_mb 178) 16 = .ok (.aload_n 0, 1) := by decide +kernel
theorem dc178_17 : decode (pm_mb 178) 17 = .ok (.invokevirtual 213, 3) := by decide +kernel
theorem dc178_20 : decode (pm_mb 178) 20 = .ok (.iconst 0, 1) := by decide +kernel
theorem dc178_21 : decode (pm_mb 178) 21 = .ok (.istore_n 2, 1) := by decide +kernel
theorem dc178_22 : decode (pm_mb 178) 22 = .ok (.iload_n 2, 1) := by decide +kernel
theorem dc178_23 : decode (pm_mb 178) 23 = .ok (.bipush 40, 2) := by decide +kernel
theorem dc178_25 : decode (pm_mb 178) 25 = .ok (.if_icmp .ge 38, 3) := by decide +kernel
theorem dc178_28 : decode (pm_mb 178) 28 = .ok (.aload_n 0, 1) := by decide +kernel
theorem dc178_29 : decode (pm_mb 178) 29 = .ok (.getfield 31, 3) := by decide +kernel
theorem dc178_32 : decode (pm_mb 178) 32 = .ok (.iload_n 1, 1) := by decide +kernel
theorem dc178_33 : decode (pm_mb 178) 33 = .ok (.iaload, 1) := by decide +kernel
theorem dc178_34 : decode (pm_mb 178) 34 = .ok (.aload_n 0, 1) := by decide +kernel
theorem dc178_35 : decode (pm_mb 178) 35 = .ok (.getfield 19, 3) := by decide +kernel
theorem dc178_38 : decode (pm_mb 178) 38 = .ok (.iconst 1, 1) := by decide +kernel
theorem dc178_39 : decode (pm_mb 178) 39 = .ok (.iaload, 1) := by decide +kernel
theorem dc178_40 : decode (pm_mb 178) 40 = .ok (.iconst 1, 1) := by decide +kernel
theorem dc178_41 : decode (pm_mb 178) 41 = .ok (.isub, 1) := by decide +kernel
theorem dc178_42 : decode (pm_mb 178) 42 = .ok (.if_icmp .ge 21, 3) := by decide +kernel
theorem dc178_45 : decode (pm_mb 178) 45 = .ok (.aload_n 0, 1) := by decide +kernel
theorem dc178_46 : decode (pm_mb 178) 46 = .ok (.aload_n 0, 1) := by decide +kernel
theorem dc178_47 : decode (pm_mb 178) 47 = .ok (.getfield 19, 3) := by decide +kernel
theorem dc178_50 : decode (pm_mb 178) 50 = .ok (.iconst 4, 1) := by decide +kernel
theorem dc178_51 : decode (pm_mb 178) 51 = .ok (.iaload, 1) := by decide +kernel
theorem dc178_52 : decode (pm_mb 178) 52 = .ok (.iload_n 2, 1) := by decide +kernel
theorem dc178_53 : decode (pm_mb 178) 53 = .ok (.iadd, 1) := by decide +kernel
theorem dc178_54 : decode (pm_mb 178) 54 = .ok (.invokevirtual 216, 3) := by decide +kernel
theorem dc178_57 : decode (pm_mb 178) 57 = .ok (.iinc 2 1, 3) := by decide +kernel
theorem dc178_60 : decode (pm_mb 178) 60 = .ok (.goto (-38), 3) := by decide +kernel
theorem dc178_63 : decode (pm_mb 178) 63 = .ok (.aload_n 0, 1) := by decide +kernel
theorem dc178_64 : decode (pm_mb 178) 64 = .ok (.getfield 31, 3) := by decide +kernel
theorem dc178_67 : decode (pm_mb 178) 67 = .ok (.iload_n 1, 1) := by decide +kernel
theorem dc178_68 : decode (pm_mb 178) 68 = .ok (.iaload, 1) := by decide +kernel
theorem dc178_69 : decode (pm_mb 178) 69 = .ok (.aload_n 0, 1) := by decide +kernel
theorem dc178_70 : decode (pm_mb 178) 70 = .ok (.getfield 19, 3) := by decide +kernel
theorem dc178_73 : decode (pm_mb 178) 73 = .ok (.iconst 1, 1) := by decide +kernel
theorem dc178_74 : decode (pm_mb 178) 74 = .ok (.iaload, 1) := by decide +kernel
theorem dc178_75 : decode (pm_mb 178) 75 = .ok (.iconst 1, 1) := by decide +kernel
theorem dc178_76 : decode (pm_mb 178) 76 = .ok (.isub, 1) := by decide +kernel
theorem dc178_77 : decode (pm_mb 178) 77 = .ok (.if_icmp .ne 7, 3) := by decide +kernel
theorem dc178_80 : decode (pm_mb 178) 80 = .ok (.iload_n 2, 1) := by decide +kernel
theorem dc178_81 : decode (pm_mb 178) 81 = .ok (.goto 5, 3) := by decide +kernel
theorem dc178_84 : decode (pm_mb 178) 84 = .ok (.ldc 86, 2) := by decide +kernel
theorem dc178_86 : decode (pm_mb 178) 86 = .ok (.ireturn, 1) := by decide +kernel
theorem b178_0 {X : pm_X} {d : Nat} {x1 : Int32} {g : pm_G} {iv : pm_V} (hL : pm_lay g) : pm_at X d 178 (0, [some (.ref 32), some (.int x1), none], [], g, iv) = pm_then X d 178 10 [some (.ref 32), some (.int x1), none] [] (pm_c X d 156 [.ref 32, .int x1] g (pm_iw iv 32 0 0)) := by
  refine (at_aload_n dc178_0 rfl).trans ?_
  refine (at_iconst (v := 0) dc178_1 rfl).trans ?_
  refine (at_pfI dc178_2 mc178 lf6_50 po6_0 (ly32 hL)).trans ?_
  refine (at_aload_n dc178_5 rfl).trans ?_
  refine (at_iload_n dc178_6 rfl).trans ?_
  exact at_inv dc178_7 mc178 lm6_184 rfl rfl (Nat.le_of_ble_eq_true rfl) (Or.inl ⟨(ly32 hL), by decide⟩)
theorem b178_10 {X : pm_X} {d : Nat} {x1 : Int32} {s0 : Int32} {g : pm_G} {iv : pm_V}  : pm_at X d 178 (10, [some (.ref 32), some (.int x1), none], [.int s0], g, iv) = if ¬ s0 = 0 then pm_at X d 178 (16, [some (.ref 32), some (.int x1), none], [], g, iv) else pm_at X d 178 (13, [some (.ref 32), some (.int x1), none], [], g, iv) := by
  exact at_if_ne (t := 16) dc178_10 (by decide)
theorem b178_13 {X : pm_X} {d : Nat} {x1 : Int32} {g : pm_G} {iv : pm_V}  : pm_at X d 178 (13, [some (.ref 32), some (.int x1), none], [], g, iv) = some (some (.int (-1000001)), g, iv) := by
  refine (at_ldc dc178_13 mc178 lk6_70).trans ?_
  exact at_iret dc178_15 mr178
theorem b178_16 {X : pm_X} {d : Nat} {x1 : Int32} {g : pm_G} {iv : pm_V} (hL : pm_lay g) : pm_at X d 178 (16, [some (.ref 32), some (.int x1), none], [], g, iv) = pm_then X d 178 20 [some (.ref 32), some (.int x1), none] [] (pm_c X d 160 [.ref 32] g iv) := by
  refine (at_aload_n dc178_16 rfl).trans ?_
  exact at_inv dc178_17 mc178 lm6_213 rfl rfl (Nat.le_of_ble_eq_true rfl) (Or.inl ⟨(ly32 hL), by decide⟩)
theorem b178_20 {X : pm_X} {d : Nat} {x1 : Int32} {g : pm_G} {iv : pm_V}  : pm_at X d 178 (20, [some (.ref 32), some (.int x1), none], [], g, iv) = pm_at X d 178 (22, [some (.ref 32), some (.int x1), some (.int 0)], [], g, iv) := by
  refine (at_iconst (v := 0) dc178_20 rfl).trans ?_
  refine (at_istore_n dc178_21 rfl).trans ?_
  rfl
theorem b178_22 {X : pm_X} {d : Nat} {x1 : Int32} {x2 : Int32} {g : pm_G} {iv : pm_V}  : pm_at X d 178 (22, [some (.ref 32), some (.int x1), some (.int x2)], [], g, iv) = if 40 ≤ x2 then pm_at X d 178 (63, [some (.ref 32), some (.int x1), some (.int x2)], [], g, iv) else pm_at X d 178 (28, [some (.ref 32), some (.int x1), some (.int x2)], [], g, iv) := by
  refine (at_iload_n dc178_22 rfl).trans ?_
  refine (at_bipush (v := 40) dc178_23 (by decide)).trans ?_
  exact at_icmp_ge (t := 63) dc178_25 (by decide)
theorem b178_28 {X : pm_X} {d : Nat} {x1 : Int32} {x2 : Int32} {g : pm_G} {iv : pm_V} (hL : pm_lay g) (i1 : vp_in x1 6) : pm_at X d 178 (28, [some (.ref 32), some (.int x1), some (.int x2)], [], g, iv) = if ((iv 36 1) - 1) ≤ (iv 40 (x1 : Int32).toNatClampNeg) then pm_at X d 178 (63, [some (.ref 32), some (.int x1), some (.int x2)], [], g, iv) else pm_at X d 178 (45, [some (.ref 32), some (.int x1), some (.int x2)], [], g, iv) := by
  refine (at_aload_n dc178_28 rfl).trans ?_
  refine (at_gfR dc178_29 mc178 lf6_31 fo6_19 (ly32 hL) (lr32_19 hL)).trans ?_
  refine (at_iload_n dc178_32 rfl).trans ?_
  refine (at_iald dc178_33 (ly40 hL) i1).trans ?_
  refine (at_aload_n dc178_34 rfl).trans ?_
  refine (at_gfR dc178_35 mc178 lf6_19 fo6_5 (ly32 hL) (lr32_5 hL)).trans ?_
  refine (at_iconst (v := 1) dc178_38 rfl).trans ?_
  refine (at_iald dc178_39 (ly36 hL) (vp_in_nI (n := 1) (by decide) (by decide))).trans ?_
  refine (at_iconst (v := 1) dc178_40 rfl).trans ?_
  refine (at_isub dc178_41).trans ?_
  exact at_icmp_ge (t := 63) dc178_42 (by decide)
theorem b178_45 {X : pm_X} {d : Nat} {x1 : Int32} {x2 : Int32} {g : pm_G} {iv : pm_V} (hL : pm_lay g) : pm_at X d 178 (45, [some (.ref 32), some (.int x1), some (.int x2)], [], g, iv) = pm_then X d 178 57 [some (.ref 32), some (.int x1), some (.int x2)] [] (pm_c X d 165 [.ref 32, .int ((iv 36 4) + x2)] g iv) := by
  refine (at_aload_n dc178_45 rfl).trans ?_
  refine (at_aload_n dc178_46 rfl).trans ?_
  refine (at_gfR dc178_47 mc178 lf6_19 fo6_5 (ly32 hL) (lr32_5 hL)).trans ?_
  refine (at_iconst (v := 4) dc178_50 rfl).trans ?_
  refine (at_iald dc178_51 (ly36 hL) (vp_in_nI (n := 4) (by decide) (by decide))).trans ?_
  refine (at_iload_n dc178_52 rfl).trans ?_
  refine (at_iadd dc178_53).trans ?_
  exact at_inv dc178_54 mc178 lm6_216 rfl rfl (Nat.le_of_ble_eq_true rfl) (Or.inl ⟨(ly32 hL), by decide⟩)
theorem b178_57 {X : pm_X} {d : Nat} {x1 : Int32} {x2 : Int32} {g : pm_G} {iv : pm_V}  : pm_at X d 178 (57, [some (.ref 32), some (.int x1), some (.int x2)], [], g, iv) = pm_at X d 178 (22, [some (.ref 32), some (.int x1), some (.int (x2 + 1))], [], g, iv) := by
  refine (at_iinc (v := 1) dc178_57 rfl (by decide) rfl).trans ?_
  refine (at_goto (t := 22) dc178_60 (by decide)).trans ?_
  rfl
theorem b178_63 {X : pm_X} {d : Nat} {x1 : Int32} {x2 : Int32} {g : pm_G} {iv : pm_V} (hL : pm_lay g) (i1 : vp_in x1 6) : pm_at X d 178 (63, [some (.ref 32), some (.int x1), some (.int x2)], [], g, iv) = if ¬ (iv 40 (x1 : Int32).toNatClampNeg) = ((iv 36 1) - 1) then pm_at X d 178 (84, [some (.ref 32), some (.int x1), some (.int x2)], [], g, iv) else pm_at X d 178 (80, [some (.ref 32), some (.int x1), some (.int x2)], [], g, iv) := by
  refine (at_aload_n dc178_63 rfl).trans ?_
  refine (at_gfR dc178_64 mc178 lf6_31 fo6_19 (ly32 hL) (lr32_19 hL)).trans ?_
  refine (at_iload_n dc178_67 rfl).trans ?_
  refine (at_iald dc178_68 (ly40 hL) i1).trans ?_
  refine (at_aload_n dc178_69 rfl).trans ?_
  refine (at_gfR dc178_70 mc178 lf6_19 fo6_5 (ly32 hL) (lr32_5 hL)).trans ?_
  refine (at_iconst (v := 1) dc178_73 rfl).trans ?_
  refine (at_iald dc178_74 (ly36 hL) (vp_in_nI (n := 1) (by decide) (by decide))).trans ?_
  refine (at_iconst (v := 1) dc178_75 rfl).trans ?_
  refine (at_isub dc178_76).trans ?_
  exact at_icmp_ne (t := 84) dc178_77 (by decide)
theorem b178_80 {X : pm_X} {d : Nat} {x1 : Int32} {x2 : Int32} {g : pm_G} {iv : pm_V}  : pm_at X d 178 (80, [some (.ref 32), some (.int x1), some (.int x2)], [], g, iv) = pm_at X d 178 (86, [some (.ref 32), some (.int x1), some (.int x2)], [.int x2], g, iv) := by
  refine (at_iload_n dc178_80 rfl).trans ?_
  refine (at_goto (t := 86) dc178_81 (by decide)).trans ?_
  rfl
theorem b178_84 {X : pm_X} {d : Nat} {x1 : Int32} {x2 : Int32} {g : pm_G} {iv : pm_V}  : pm_at X d 178 (84, [some (.ref 32), some (.int x1), some (.int x2)], [], g, iv) = pm_at X d 178 (86, [some (.ref 32), some (.int x1), some (.int x2)], [.int (-1000000)], g, iv) := by
  refine (at_ldc dc178_84 mc178 lk6_86).trans ?_
  rfl
theorem b178_86 {X : pm_X} {d : Nat} {x1 : Int32} {x2 : Int32} {s0 : Int32} {g : pm_G} {iv : pm_V}  : pm_at X d 178 (86, [some (.ref 32), some (.int x1), some (.int x2)], [.int s0], g, iv) = some (some (.int s0), g, iv) := by
  exact at_iret dc178_86 mr178
-- Mod.areBeside (II)Z
theorem dc179_0 : decode (pm_mb 179) 0 = .ok (.aload_n 0, 1) := by decide +kernel
theorem dc179_1 : decode (pm_mb 179) 1 = .ok (.iload_n 1, 1) := by decide +kernel
theorem dc179_2 : decode (pm_mb 179) 2 = .ok (.iconst 1, 1) := by decide +kernel
theorem dc179_3 : decode (pm_mb 179) 3 = .ok (.invokevirtual 187, 3) := by decide +kernel
theorem dc179_6 : decode (pm_mb 179) 6 = .ok (.aload_n 0, 1) := by decide +kernel
theorem dc179_7 : decode (pm_mb 179) 7 = .ok (.iload_n 2, 1) := by decide +kernel
theorem dc179_8 : decode (pm_mb 179) 8 = .ok (.iconst 1, 1) := by decide +kernel
theorem dc179_9 : decode (pm_mb 179) 9 = .ok (.invokevirtual 187, 3) := by decide +kernel
theorem dc179_12 : decode (pm_mb 179) 12 = .ok (.isub, 1) := by decide +kernel
theorem dc179_13 : decode (pm_mb 179) 13 = .ok (.istore_n 3, 1) := by decide +kernel
theorem dc179_14 : decode (pm_mb 179) 14 = .ok (.aload_n 0, 1) := by decide +kernel
theorem dc179_15 : decode (pm_mb 179) 15 = .ok (.getfield 31, 3) := by decide +kernel
theorem dc179_18 : decode (pm_mb 179) 18 = .ok (.iload_n 1, 1) := by decide +kernel
theorem dc179_19 : decode (pm_mb 179) 19 = .ok (.iaload, 1) := by decide +kernel
theorem dc179_20 : decode (pm_mb 179) 20 = .ok (.aload_n 0, 1) := by decide +kernel
theorem dc179_21 : decode (pm_mb 179) 21 = .ok (.getfield 31, 3) := by decide +kernel
theorem dc179_24 : decode (pm_mb 179) 24 = .ok (.iload_n 2, 1) := by decide +kernel
theorem dc179_25 : decode (pm_mb 179) 25 = .ok (.iaload, 1) := by decide +kernel
theorem dc179_26 : decode (pm_mb 179) 26 = .ok (.if_icmp .ne 17, 3) := by decide +kernel
theorem dc179_29 : decode (pm_mb 179) 29 = .ok (.iload_n 3, 1) := by decide +kernel
theorem dc179_30 : decode (pm_mb 179) 30 = .ok (.iconst 1, 1) := by decide +kernel
theorem dc179_31 : decode (pm_mb 179) 31 = .ok (.if_icmp .eq 8, 3) := by decide +kernel
theorem dc179_34 : decode (pm_mb 179) 34 = .ok (.iload_n 3, 1) := by decide +kernel
theorem dc179_35 : decode (pm_mb 179) 35 = .ok (.iconst (-1), 1) := by decide +kernel
theorem dc179_36 : decode (pm_mb 179) 36 = .ok (.if_icmp .ne 7, 3) := by decide +kernel
theorem dc179_39 : decode (pm_mb 179) 39 = .ok (.iconst 1, 1) := by decide +kernel
theorem dc179_40 : decode (pm_mb 179) 40 = .ok (.goto 4, 3) := by decide +kernel
theorem dc179_43 : decode (pm_mb 179) 43 = .ok (.iconst 0, 1) := by decide +kernel
theorem dc179_44 : decode (pm_mb 179) 44 = .ok (.ireturn, 1) := by decide +kernel
theorem b179_0 {X : pm_X} {d : Nat} {x1 : Int32} {x2 : Int32} {g : pm_G} {iv : pm_V} (hL : pm_lay g) : pm_at X d 179 (0, [some (.ref 32), some (.int x1), some (.int x2), none], [], g, iv) = pm_then X d 179 6 [some (.ref 32), some (.int x1), some (.int x2), none] [] (pm_c X d 158 [.ref 32, .int x1, .int 1] g iv) := by
  refine (at_aload_n dc179_0 rfl).trans ?_
  refine (at_iload_n dc179_1 rfl).trans ?_
  refine (at_iconst (v := 1) dc179_2 rfl).trans ?_
  exact at_inv dc179_3 mc179 lm6_187 rfl rfl (Nat.le_of_ble_eq_true rfl) (Or.inl ⟨(ly32 hL), by decide⟩)
theorem b179_6 {X : pm_X} {d : Nat} {x1 : Int32} {x2 : Int32} {s0 : Int32} {g : pm_G} {iv : pm_V} (hL : pm_lay g) : pm_at X d 179 (6, [some (.ref 32), some (.int x1), some (.int x2), none], [.int s0], g, iv) = pm_then X d 179 12 [some (.ref 32), some (.int x1), some (.int x2), none] [.int s0] (pm_c X d 158 [.ref 32, .int x2, .int 1] g iv) := by
  refine (at_aload_n dc179_6 rfl).trans ?_
  refine (at_iload_n dc179_7 rfl).trans ?_
  refine (at_iconst (v := 1) dc179_8 rfl).trans ?_
  exact at_inv dc179_9 mc179 lm6_187 rfl rfl (Nat.le_of_ble_eq_true rfl) (Or.inl ⟨(ly32 hL), by decide⟩)
theorem b179_12 {X : pm_X} {d : Nat} {x1 : Int32} {x2 : Int32} {s0 : Int32} {s1 : Int32} {g : pm_G} {iv : pm_V} (hL : pm_lay g) (i1 : vp_in x1 6) (i2 : vp_in x2 6) : pm_at X d 179 (12, [some (.ref 32), some (.int x1), some (.int x2), none], [.int s0, .int s1], g, iv) = if ¬ (iv 40 (x1 : Int32).toNatClampNeg) = (iv 40 (x2 : Int32).toNatClampNeg) then pm_at X d 179 (43, [some (.ref 32), some (.int x1), some (.int x2), some (.int (s1 - s0))], [], g, iv) else pm_at X d 179 (29, [some (.ref 32), some (.int x1), some (.int x2), some (.int (s1 - s0))], [], g, iv) := by
  refine (at_isub dc179_12).trans ?_
  refine (at_istore_n dc179_13 rfl).trans ?_
  refine (at_aload_n dc179_14 rfl).trans ?_
  refine (at_gfR dc179_15 mc179 lf6_31 fo6_19 (ly32 hL) (lr32_19 hL)).trans ?_
  refine (at_iload_n dc179_18 rfl).trans ?_
  refine (at_iald dc179_19 (ly40 hL) i1).trans ?_
  refine (at_aload_n dc179_20 rfl).trans ?_
  refine (at_gfR dc179_21 mc179 lf6_31 fo6_19 (ly32 hL) (lr32_19 hL)).trans ?_
  refine (at_iload_n dc179_24 rfl).trans ?_
  refine (at_iald dc179_25 (ly40 hL) i2).trans ?_
  exact at_icmp_ne (t := 43) dc179_26 (by decide)
theorem b179_29 {X : pm_X} {d : Nat} {x1 : Int32} {x2 : Int32} {x3 : Int32} {g : pm_G} {iv : pm_V}  : pm_at X d 179 (29, [some (.ref 32), some (.int x1), some (.int x2), some (.int x3)], [], g, iv) = if x3 = 1 then pm_at X d 179 (39, [some (.ref 32), some (.int x1), some (.int x2), some (.int x3)], [], g, iv) else pm_at X d 179 (34, [some (.ref 32), some (.int x1), some (.int x2), some (.int x3)], [], g, iv) := by
  refine (at_iload_n dc179_29 rfl).trans ?_
  refine (at_iconst (v := 1) dc179_30 rfl).trans ?_
  exact at_icmp_eq (t := 39) dc179_31 (by decide)
theorem b179_34 {X : pm_X} {d : Nat} {x1 : Int32} {x2 : Int32} {x3 : Int32} {g : pm_G} {iv : pm_V}  : pm_at X d 179 (34, [some (.ref 32), some (.int x1), some (.int x2), some (.int x3)], [], g, iv) = if ¬ x3 = (-1) then pm_at X d 179 (43, [some (.ref 32), some (.int x1), some (.int x2), some (.int x3)], [], g, iv) else pm_at X d 179 (39, [some (.ref 32), some (.int x1), some (.int x2), some (.int x3)], [], g, iv) := by
  refine (at_iload_n dc179_34 rfl).trans ?_
  refine (at_iconst (v := (-1)) dc179_35 rfl).trans ?_
  exact at_icmp_ne (t := 43) dc179_36 (by decide)
theorem b179_39 {X : pm_X} {d : Nat} {x1 : Int32} {x2 : Int32} {x3 : Int32} {g : pm_G} {iv : pm_V}  : pm_at X d 179 (39, [some (.ref 32), some (.int x1), some (.int x2), some (.int x3)], [], g, iv) = pm_at X d 179 (44, [some (.ref 32), some (.int x1), some (.int x2), some (.int x3)], [.int 1], g, iv) := by
  refine (at_iconst (v := 1) dc179_39 rfl).trans ?_
  refine (at_goto (t := 44) dc179_40 (by decide)).trans ?_
  rfl
theorem b179_43 {X : pm_X} {d : Nat} {x1 : Int32} {x2 : Int32} {x3 : Int32} {g : pm_G} {iv : pm_V}  : pm_at X d 179 (43, [some (.ref 32), some (.int x1), some (.int x2), some (.int x3)], [], g, iv) = pm_at X d 179 (44, [some (.ref 32), some (.int x1), some (.int x2), some (.int x3)], [.int 0], g, iv) := by
  refine (at_iconst (v := 0) dc179_43 rfl).trans ?_
  rfl
theorem b179_44 {X : pm_X} {d : Nat} {x1 : Int32} {x2 : Int32} {x3 : Int32} {s0 : Int32} {g : pm_G} {iv : pm_V}  : pm_at X d 179 (44, [some (.ref 32), some (.int x1), some (.int x2), some (.int x3)], [.int s0], g, iv) = pm_zr s0 (some (some (.int s0), g, iv)) := by
  exact at_zretG dc179_44 mr179
