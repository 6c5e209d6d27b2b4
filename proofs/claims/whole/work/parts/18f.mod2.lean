-- Mod.fault ()I
theorem dc155_0 : decode (pm_mb 155) 0 = .ok (.aload_n 0, 1) := by decide +kernel
theorem dc155_1 : decode (pm_mb 155) 1 = .ok (.iconst 0, 1) := by decide +kernel
theorem dc155_2 : decode (pm_mb 155) 2 = .ok (.putfield 50, 3) := by decide +kernel
theorem dc155_5 : decode (pm_mb 155) 5 = .ok (.aload_n 0, 1) := by decide +kernel
theorem dc155_6 : decode (pm_mb 155) 6 = .ok (.getfield 177, 3) := by decide +kernel
theorem dc155_9 : decode (pm_mb 155) 9 = .ok (.ireturn, 1) := by decide +kernel
theorem b155_0 {X : pm_X} {d : Nat} {g : pm_G} {iv : pm_V} (hL : pm_lay g) : pm_at X d 155 (0, [some (.ref 32)], [], g, iv) = some (some (.int ((pm_iw iv 32 0 0) 32 11)), g, (pm_iw iv 32 0 0)) := by
  refine (at_aload_n dc155_0 rfl).trans ?_
  refine (at_iconst (v := 0) dc155_1 rfl).trans ?_
  refine (at_pfI dc155_2 mc155 lf6_50 po6_0 (ly32 hL)).trans ?_
  refine (at_aload_n dc155_5 rfl).trans ?_
  refine (at_gfI dc155_6 mc155 lf6_177 fo6_11 (ly32 hL)).trans ?_
  exact at_iret dc155_9 mr155
-- Mod.isThere ()Z
theorem dc156_0 : decode (pm_mb 156) 0 = .ok (.aload_n 0, 1) := by decide +kernel
theorem dc156_1 : decode (pm_mb 156) 1 = .ok (.getfield 19, 3) := by decide +kernel
theorem dc156_4 : decode (pm_mb 156) 4 = .ok (.iconst 0, 1) := by decide +kernel
theorem dc156_5 : decode (pm_mb 156) 5 = .ok (.iaload, 1) := by decide +kernel
theorem dc156_6 : decode (pm_mb 156) 6 = .ok (.ifCond .le 7, 3) := by decide +kernel
theorem dc156_9 : decode (pm_mb 156) 9 = .ok (.iconst 1, 1) := by decide +kernel
theorem dc156_10 : decode (pm_mb 156) 10 = .ok (.goto 4, 3) := by decide +kernel
theorem dc156_13 : decode (pm_mb 156) 13 = .ok (.iconst 0, 1) := by decide +kernel
theorem dc156_14 : decode (pm_mb 156) 14 = .ok (.ireturn, 1) := by decide +kernel
theorem b156_0 {X : pm_X} {d : Nat} {g : pm_G} {iv : pm_V} (hL : pm_lay g) : pm_at X d 156 (0, [some (.ref 32)], [], g, iv) = if (iv 36 0) ≤ 0 then pm_at X d 156 (13, [some (.ref 32)], [], g, iv) else pm_at X d 156 (9, [some (.ref 32)], [], g, iv) := by
  refine (at_aload_n dc156_0 rfl).trans ?_
  refine (at_gfR dc156_1 mc156 lf6_19 fo6_5 (ly32 hL) (lr32_5 hL)).trans ?_
  refine (at_iconst (v := 0) dc156_4 rfl).trans ?_
  refine (at_iald dc156_5 (ly36 hL) (vp_in_nI (n := 0) (by decide) (by decide))).trans ?_
  exact at_if_le (t := 13) dc156_6 (by decide)
theorem b156_9 {X : pm_X} {d : Nat} {g : pm_G} {iv : pm_V}  : pm_at X d 156 (9, [some (.ref 32)], [], g, iv) = pm_at X d 156 (14, [some (.ref 32)], [.int 1], g, iv) := by
  refine (at_iconst (v := 1) dc156_9 rfl).trans ?_
  refine (at_goto (t := 14) dc156_10 (by decide)).trans ?_
  rfl
theorem b156_13 {X : pm_X} {d : Nat} {g : pm_G} {iv : pm_V}  : pm_at X d 156 (13, [some (.ref 32)], [], g, iv) = pm_at X d 156 (14, [some (.ref 32)], [.int 0], g, iv) := by
  refine (at_iconst (v := 0) dc156_13 rfl).trans ?_
  rfl
theorem b156_14 {X : pm_X} {d : Nat} {s0 : Int32} {g : pm_G} {iv : pm_V}  : pm_at X d 156 (14, [some (.ref 32)], [.int s0], g, iv) = pm_zr s0 (some (some (.int s0), g, iv)) := by
  exact at_zretG dc156_14 mr156
-- Mod.isHouse (I)Z
theorem dc157_0 : decode (pm_mb 157) 0 = .ok (.iload_n 1, 1) := by decide +kernel
theorem dc157_1 : decode (pm_mb 157) 1 = .ok (.i2l, 1) := by decide +kernel
theorem dc157_2 : decode (pm_mb 157) 2 = .ok (.lconst 0, 1) := by decide +kernel
theorem dc157_3 : decode (pm_mb 157) 3 = .ok (.aload_n 0, 1) := by decide +kernel
theorem dc157_4 : decode (pm_mb 157) 4 = .ok (.getfield 19, 3) := by decide +kernel
theorem dc157_7 : decode (pm_mb 157) 7 = .ok (.iconst 3, 1) := by decide +kernel
theorem dc157_8 : decode (pm_mb 157) 8 = .ok (.iaload, 1) := by decide +kernel
theorem dc157_9 : decode (pm_mb 157) 9 = .ok (.iconst 1, 1) := by decide +kernel
theorem dc157_10 : decode (pm_mb 157) 10 = .ok (.isub, 1) := by decide +kernel
theorem dc157_11 : decode (pm_mb 157) 11 = .ok (.i2l, 1) := by decide +kernel
theorem dc157_12 : decode (pm_mb 157) 12 = .ok (.invokestatic 60, 3) := by decide +kernel
theorem dc157_15 : decode (pm_mb 157) 15 = .ok (.ireturn, 1) := by decide +kernel
theorem b157_0 {X : pm_X} {d : Nat} {x1 : Int32} {g : pm_G} {iv : pm_V} (hL : pm_lay g) : pm_at X d 157 (0, [some (.ref 32), some (.int x1)], [], g, iv) = pm_then X d 157 15 [some (.ref 32), some (.int x1)] [] (pm_c X d 130 [.long (x1 : Int32).toInt64, .long 0, .long (((iv 36 3) - 1) : Int32).toInt64] g iv) := by
  refine (at_iload_n dc157_0 rfl).trans ?_
  refine (at_i2l dc157_1).trans ?_
  refine (at_lconst (v := 0) dc157_2 (by decide)).trans ?_
  refine (at_aload_n dc157_3 rfl).trans ?_
  refine (at_gfR dc157_4 mc157 lf6_19 fo6_5 (ly32 hL) (lr32_5 hL)).trans ?_
  refine (at_iconst (v := 3) dc157_7 rfl).trans ?_
  refine (at_iald dc157_8 (ly36 hL) (vp_in_nI (n := 3) (by decide) (by decide))).trans ?_
  refine (at_iconst (v := 1) dc157_9 rfl).trans ?_
  refine (at_isub dc157_10).trans ?_
  refine (at_i2l dc157_11).trans ?_
  exact at_ins dc157_12 mc157 lm6_60 (Nat.le_of_ble_eq_true rfl) rfl rfl (Nat.le_of_ble_eq_true rfl)
theorem b157_15 {X : pm_X} {d : Nat} {x1 : Int32} {s0 : Int32} {g : pm_G} {iv : pm_V}  : pm_at X d 157 (15, [some (.ref 32), some (.int x1)], [.int s0], g, iv) = pm_zr s0 (some (some (.int s0), g, iv)) := by
  exact at_zretG dc157_15 mr157
-- Mod.areTwo (II)Z
theorem dc158_0 : decode (pm_mb 158) 0 = .ok (.aload_n 0, 1) := by decide +kernel
theorem dc158_1 : decode (pm_mb 158) 1 = .ok (.iload_n 1, 1) := by decide +kernel
theorem dc158_2 : decode (pm_mb 158) 2 = .ok (.invokevirtual 184, 3) := by decide +kernel
theorem dc158_5 : decode (pm_mb 158) 5 = .ok (.ifCond .eq 20, 3) := by decide +kernel
theorem dc158_8 : decode (pm_mb 158) 8 = .ok (.aload_n 0, 1) := by decide +kernel
theorem dc158_9 : decode (pm_mb 158) 9 = .ok (.iload_n 2, 1) := by decide +kernel
theorem dc158_10 : decode (pm_mb 158) 10 = .ok (.invokevirtual 184, 3) := by decide +kernel
theorem dc158_13 : decode (pm_mb 158) 13 = .ok (.ifCond .eq 12, 3) := by decide +kernel
theorem dc158_16 : decode (pm_mb 158) 16 = .ok (.iload_n 1, 1) := by decide +kernel
theorem dc158_17 : decode (pm_mb 158) 17 = .ok (.iload_n 2, 1) := by decide +kernel
theorem dc158_18 : decode (pm_mb 158) 18 = .ok (.if_icmp .eq 7, 3) := by decide +kernel
theorem dc158_21 : decode (pm_mb 158) 21 = .ok (.iconst 1, 1) := by decide +kernel
theorem dc158_22 : decode (pm_mb 158) 22 = .ok (.goto 4, 3) := by decide +kernel
theorem dc158_25 : decode (pm_mb 158) 25 = .ok (.iconst 0, 1) := by decide +kernel
theorem dc158_26 : decode (pm_mb 158) 26 = .ok (.ireturn, 1) := by decide +kernel
theorem b158_0 {X : pm_X} {d : Nat} {x1 : Int32} {x2 : Int32} {g : pm_G} {iv : pm_V} (hL : pm_lay g) : pm_at X d 158 (0, [some (.ref 32), some (.int x1), some (.int x2)], [], g, iv) = pm_then X d 158 5 [some (.ref 32), some (.int x1), some (.int x2)] [] (pm_c X d 157 [.ref 32, .int x1] g iv) := by
  refine (at_aload_n dc158_0 rfl).trans ?_
  refine (at_iload_n dc158_1 rfl).trans ?_
  exact at_inv dc158_2 mc158 lm6_184 rfl rfl (Nat.le_of_ble_eq_true rfl) (Or.inl ⟨(ly32 hL), by decide⟩)
theorem b158_5 {X : pm_X} {d : Nat} {x1 : Int32} {x2 : Int32} {s0 : Int32} {g : pm_G} {iv : pm_V}  : pm_at X d 158 (5, [some (.ref 32), some (.int x1), some (.int x2)], [.int s0], g, iv) = if s0 = 0 then pm_at X d 158 (25, [some (.ref 32), some (.int x1), some (.int x2)], [], g, iv) else pm_at X d 158 (8, [some (.ref 32), some (.int x1), some (.int x2)], [], g, iv) := by
  exact at_if_eq (t := 25) dc158_5 (by decide)
theorem b158_8 {X : pm_X} {d : Nat} {x1 : Int32} {x2 : Int32} {g : pm_G} {iv : pm_V} (hL : pm_lay g) : pm_at X d 158 (8, [some (.ref 32), some (.int x1), some (.int x2)], [], g, iv) = pm_then X d 158 13 [some (.ref 32), some (.int x1), some (.int x2)] [] (pm_c X d 157 [.ref 32, .int x2] g iv) := by
  refine (at_aload_n dc158_8 rfl).trans ?_
  refine (at_iload_n dc158_9 rfl).trans ?_
  exact at_inv dc158_10 mc158 lm6_184 rfl rfl (Nat.le_of_ble_eq_true rfl) (Or.inl ⟨(ly32 hL), by decide⟩)
theorem b158_13 {X : pm_X} {d : Nat} {x1 : Int32} {x2 : Int32} {s0 : Int32} {g : pm_G} {iv : pm_V}  : pm_at X d 158 (13, [some (.ref 32), some (.int x1), some (.int x2)], [.int s0], g, iv) = if s0 = 0 then pm_at X d 158 (25, [some (.ref 32), some (.int x1), some (.int x2)], [], g, iv) else pm_at X d 158 (16, [some (.ref 32), some (.int x1), some (.int x2)], [], g, iv) := by
  exact at_if_eq (t := 25) dc158_13 (by decide)
theorem b158_16 {X : pm_X} {d : Nat} {x1 : Int32} {x2 : Int32} {g : pm_G} {iv : pm_V}  : pm_at X d 158 (16, [some (.ref 32), some (.int x1), some (.int x2)], [], g, iv) = if x1 = x2 then pm_at X d 158 (25, [some (.ref 32), some (.int x1), some (.int x2)], [], g, iv) else pm_at X d 158 (21, [some (.ref 32), some (.int x1), some (.int x2)], [], g, iv) := by
  refine (at_iload_n dc158_16 rfl).trans ?_
  refine (at_iload_n dc158_17 rfl).trans ?_
  exact at_icmp_eq (t := 25) dc158_18 (by decide)
theorem b158_21 {X : pm_X} {d : Nat} {x1 : Int32} {x2 : Int32} {g : pm_G} {iv : pm_V}  : pm_at X d 158 (21, [some (.ref 32), some (.int x1), some (.int x2)], [], g, iv) = pm_at X d 158 (26, [some (.ref 32), some (.int x1), some (.int x2)], [.int 1], g, iv) := by
  refine (at_iconst (v := 1) dc158_21 rfl).trans ?_
  refine (at_goto (t := 26) dc158_22 (by decide)).trans ?_
  rfl
theorem b158_25 {X : pm_X} {d : Nat} {x1 : Int32} {x2 : Int32} {g : pm_G} {iv : pm_V}  : pm_at X d 158 (25, [some (.ref 32), some (.int x1), some (.int x2)], [], g, iv) = pm_at X d 158 (26, [some (.ref 32), some (.int x1), some (.int x2)], [.int 0], g, iv) := by
  refine (at_iconst (v := 0) dc158_25 rfl).trans ?_
  rfl
theorem b158_26 {X : pm_X} {d : Nat} {x1 : Int32} {x2 : Int32} {s0 : Int32} {g : pm_G} {iv : pm_V}  : pm_at X d 158 (26, [some (.ref 32), some (.int x1), some (.int x2)], [.int s0], g, iv) = pm_zr s0 (some (some (.int s0), g, iv)) := by
  exact at_zretG dc158_26 mr158
-- Mod.of (II)I
theorem dc159_0 : decode (pm_mb 159) 0 = .ok (.aload_n 0, 1) := by decide +kernel
theorem dc159_1 : decode (pm_mb 159) 1 = .ok (.getfield 19, 3) := by decide +kernel
theorem dc159_4 : decode (pm_mb 159) 4 = .ok (.bipush 9, 2) := by decide +kernel
theorem dc159_6 : decode (pm_mb 159) 6 = .ok (.bipush 6, 2) := by decide +kernel
theorem dc159_8 : decode (pm_mb 159) 8 = .ok (.iload_n 1, 1) := by decide +kernel
theorem dc159_9 : decode (pm_mb 159) 9 = .ok (.imul, 1) := by decide +kernel
theorem dc159_10 : decode (pm_mb 159) 10 = .ok (.iadd, 1) := by decide +kernel
theorem dc159_11 : decode (pm_mb 159) 11 = .ok (.iload_n 2, 1) := by decide +kernel
theorem dc159_12 : decode (pm_mb 159) 12 = .ok (.iadd, 1) := by decide +kernel
theorem dc159_13 : decode (pm_mb 159) 13 = .ok (.iaload, 1) := by decide +kernel
theorem dc159_14 : decode (pm_mb 159) 14 = .ok (.ireturn, 1) := by decide +kernel
theorem b159_0 {X : pm_X} {d : Nat} {x1 : Int32} {x2 : Int32} {g : pm_G} {iv : pm_V} (hL : pm_lay g) (i1 : vp_in (((9 + (6 * x1)) + x2)) 45) : pm_at X d 159 (0, [some (.ref 32), some (.int x1), some (.int x2)], [], g, iv) = some (some (.int (iv 36 (((9 + (6 * x1)) + x2) : Int32).toNatClampNeg)), g, iv) := by
  refine (at_aload_n dc159_0 rfl).trans ?_
  refine (at_gfR dc159_1 mc159 lf6_19 fo6_5 (ly32 hL) (lr32_5 hL)).trans ?_
  refine (at_bipush (v := 9) dc159_4 (by decide)).trans ?_
  refine (at_bipush (v := 6) dc159_6 (by decide)).trans ?_
  refine (at_iload_n dc159_8 rfl).trans ?_
  refine (at_imul dc159_9).trans ?_
  refine (at_iadd dc159_10).trans ?_
  refine (at_iload_n dc159_11 rfl).trans ?_
  refine (at_iadd dc159_12).trans ?_
  refine (at_iald dc159_13 (ly36 hL) i1).trans ?_
  exact at_iret dc159_14 mr159
-- Mod.isStone (II)Z
theorem dc160_0 : decode (pm_mb 160) 0 = .ok (.aload_n 0, 1) := by decide +kernel
theorem dc160_1 : decode (pm_mb 160) 1 = .ok (.getfield 19, 3) := by decide +kernel
theorem dc160_4 : decode (pm_mb 160) 4 = .ok (.iconst 5, 1) := by decide +kernel
theorem dc160_5 : decode (pm_mb 160) 5 = .ok (.iload_n 1, 1) := by decide +kernel
theorem dc160_6 : decode (pm_mb 160) 6 = .ok (.iadd, 1) := by decide +kernel
theorem dc160_7 : decode (pm_mb 160) 7 = .ok (.iaload, 1) := by decide +kernel
theorem dc160_8 : decode (pm_mb 160) 8 = .ok (.iload_n 2, 1) := by decide +kernel
theorem dc160_9 : decode (pm_mb 160) 9 = .ok (.ishr, 1) := by decide +kernel
theorem dc160_10 : decode (pm_mb 160) 10 = .ok (.iconst 1, 1) := by decide +kernel
theorem dc160_11 : decode (pm_mb 160) 11 = .ok (.iand, 1) := by decide +kernel
theorem dc160_12 : decode (pm_mb 160) 12 = .ok (.iconst 1, 1) := by decide +kernel
theorem dc160_13 : decode (pm_mb 160) 13 = .ok (.if_icmp .ne 7, 3) := by decide +kernel
theorem dc160_16 : decode (pm_mb 160) 16 = .ok (.iconst 1, 1) := by decide +kernel
theorem dc160_17 : decode (pm_mb 160) 17 = .ok (.goto 4, 3) := by decide +kernel
theorem dc160_20 : decode (pm_mb 160) 20 = .ok (.iconst 0, 1) := by decide +kernel
theorem dc160_21 : decode (pm_mb 160) 21 = .ok (.ireturn, 1) := by decide +kernel
theorem b160_0 {X : pm_X} {d : Nat} {x1 : Int32} {x2 : Int32} {g : pm_G} {iv : pm_V} (hL : pm_lay g) (i1 : vp_in ((5 + x1)) 45) : pm_at X d 160 (0, [some (.ref 32), some (.int x1), some (.int x2)], [], g, iv) = if ¬ (((iv 36 ((5 + x1) : Int32).toNatClampNeg) >>> (x2 &&& 31)) &&& 1) = 1 then pm_at X d 160 (20, [some (.ref 32), some (.int x1), some (.int x2)], [], g, iv) else pm_at X d 160 (16, [some (.ref 32), some (.int x1), some (.int x2)], [], g, iv) := by
  refine (at_aload_n dc160_0 rfl).trans ?_
  refine (at_gfR dc160_1 mc160 lf6_19 fo6_5 (ly32 hL) (lr32_5 hL)).trans ?_
  refine (at_iconst (v := 5) dc160_4 rfl).trans ?_
  refine (at_iload_n dc160_5 rfl).trans ?_
  refine (at_iadd dc160_6).trans ?_
  refine (at_iald dc160_7 (ly36 hL) i1).trans ?_
  refine (at_iload_n dc160_8 rfl).trans ?_
  refine (at_ishr dc160_9).trans ?_
  refine (at_iconst (v := 1) dc160_10 rfl).trans ?_
  refine (at_iand dc160_11).trans ?_
  refine (at_iconst (v := 1) dc160_12 rfl).trans ?_
  exact at_icmp_ne (t := 20) dc160_13 (by decide)
theorem b160_16 {X : pm_X} {d : Nat} {x1 : Int32} {x2 : Int32} {g : pm_G} {iv : pm_V}  : pm_at X d 160 (16, [some (.ref 32), some (.int x1), some (.int x2)], [], g, iv) = pm_at X d 160 (21, [some (.ref 32), some (.int x1), some (.int x2)], [.int 1], g, iv) := by
  refine (at_iconst (v := 1) dc160_16 rfl).trans ?_
  refine (at_goto (t := 21) dc160_17 (by decide)).trans ?_
  rfl
theorem b160_20 {X : pm_X} {d : Nat} {x1 : Int32} {x2 : Int32} {g : pm_G} {iv : pm_V}  : pm_at X d 160 (20, [some (.ref 32), some (.int x1), some (.int x2)], [], g, iv) = pm_at X d 160 (21, [some (.ref 32), some (.int x1), some (.int x2)], [.int 0], g, iv) := by
  refine (at_iconst (v := 0) dc160_20 rfl).trans ?_
  rfl
theorem b160_21 {X : pm_X} {d : Nat} {x1 : Int32} {x2 : Int32} {s0 : Int32} {g : pm_G} {iv : pm_V}  : pm_at X d 160 (21, [some (.ref 32), some (.int x1), some (.int x2)], [.int s0], g, iv) = pm_zr s0 (some (some (.int s0), g, iv)) := by
  exact at_zretG dc160_21 mr160
-- Mod.layNow ()V
theorem dc161_0 : decode (pm_mb 161) 0 = .ok (.iconst 0, 1) := by decide +kernel
theorem dc161_1 : decode (pm_mb 161) 1 = .ok (.istore_n 1, 1) := by decide +kernel
theorem dc161_2 : decode (pm_mb 161) 2 = .ok (.iload_n 1, 1) := by decide +kernel
theorem dc161_3 : decode (pm_mb 161) 3 = .ok (.aload_n 0, 1) := by decide +kernel
theorem dc161_4 : decode (pm_mb 161) 4 = .ok (.getfield 19, 3) := by decide +kernel
theorem dc161_7 : decode (pm_mb 161) 7 = .ok (.iconst 3, 1) := by decide +kernel
theorem dc161_8 : decode (pm_mb 161) 8 = .ok (.iaload, 1) := by decide +kernel
theorem dc161_9 : decode (pm_mb 161) 9 = .ok (.if_icmp .ge 33, 3) := by decide +kernel
theorem dc161_12 : decode (pm_mb 161) 12 = .ok (.aload_n 0, 1) := by decide +kernel
theorem dc161_13 : decode (pm_mb 161) 13 = .ok (.getfield 31, 3) := by decide +kernel
theorem dc161_16 : decode (pm_mb 161) 16 = .ok (.iload_n 1, 1) := by decide +kernel
theorem dc161_17 : decode (pm_mb 161) 17 = .ok (.aload_n 0, 1) := by decide +kernel
theorem dc161_18 : decode (pm_mb 161) 18 = .ok (.iload_n 1, 1) := by decide +kernel
theorem dc161_19 : decode (pm_mb 161) 19 = .ok (.iconst 2, 1) := by decide +kernel
theorem dc161_20 : decode (pm_mb 161) 20 = .ok (.invokevirtual 187, 3) := by decide +kernel
theorem dc161_23 : decode (pm_mb 161) 23 = .ok (.iastore, 1) := by decide +kernel
theorem dc161_24 : decode (pm_mb 161) 24 = .ok (.aload_n 0, 1) := by decide +kernel
theorem dc161_25 : decode (pm_mb 161) 25 = .ok (.getfield 34, 3) := by decide +kernel
theorem dc161_28 : decode (pm_mb 161) 28 = .ok (.iload_n 1, 1) := by decide +kernel
theorem dc161_29 : decode (pm_mb 161) 29 = .ok (.aload_n 0, 1) := by decide +kernel
theorem dc161_30 : decode (pm_mb 161) 30 = .ok (.iload_n 1, 1) := by decide +kernel
theorem dc161_31 : decode (pm_mb 161) 31 = .ok (.iconst 4, 1) := by decide +kernel
theorem dc161_32 : decode (pm_mb 161) 32 = .ok (.invokevirtual 187, 3) := by decide +kernel
theorem dc161_35 : decode (pm_mb 161) 35 = .ok (.iastore, 1) := by decide +kernel
theorem dc161_36 : decode (pm_mb 161) 36 = .ok (.iinc 1 1, 3) := by decide +kernel
theorem dc161_39 : decode (pm_mb 161) 39 = .ok (.goto (-37), 3) := by decide +kernel
theorem dc161_42 : decode (pm_mb 161) 42 = .ok (.return_, 1) := by decide +kernel
theorem b161_0 {X : pm_X} {d : Nat} {g : pm_G} {iv : pm_V}  : pm_at X d 161 (0, [some (.ref 32), none], [], g, iv) = pm_at X d 161 (2, [some (.ref 32), some (.int 0)], [], g, iv) := by
  refine (at_iconst (v := 0) dc161_0 rfl).trans ?_
  refine (at_istore_n dc161_1 rfl).trans ?_
  rfl
theorem b161_2 {X : pm_X} {d : Nat} {x1 : Int32} {g : pm_G} {iv : pm_V} (hL : pm_lay g) : pm_at X d 161 (2, [some (.ref 32), some (.int x1)], [], g, iv) = if (iv 36 3) ≤ x1 then pm_at X d 161 (42, [some (.ref 32), some (.int x1)], [], g, iv) else pm_at X d 161 (12, [some (.ref 32), some (.int x1)], [], g, iv) := by
  refine (at_iload_n dc161_2 rfl).trans ?_
  refine (at_aload_n dc161_3 rfl).trans ?_
  refine (at_gfR dc161_4 mc161 lf6_19 fo6_5 (ly32 hL) (lr32_5 hL)).trans ?_
  refine (at_iconst (v := 3) dc161_7 rfl).trans ?_
  refine (at_iald dc161_8 (ly36 hL) (vp_in_nI (n := 3) (by decide) (by decide))).trans ?_
  exact at_icmp_ge (t := 42) dc161_9 (by decide)
theorem b161_12 {X : pm_X} {d : Nat} {x1 : Int32} {g : pm_G} {iv : pm_V} (hL : pm_lay g) : pm_at X d 161 (12, [some (.ref 32), some (.int x1)], [], g, iv) = pm_then X d 161 23 [some (.ref 32), some (.int x1)] [.int x1, .ref 40] (pm_c X d 159 [.ref 32, .int x1, .int 2] g iv) := by
  refine (at_aload_n dc161_12 rfl).trans ?_
  refine (at_gfR dc161_13 mc161 lf6_31 fo6_19 (ly32 hL) (lr32_19 hL)).trans ?_
  refine (at_iload_n dc161_16 rfl).trans ?_
  refine (at_aload_n dc161_17 rfl).trans ?_
  refine (at_iload_n dc161_18 rfl).trans ?_
  refine (at_iconst (v := 2) dc161_19 rfl).trans ?_
  exact at_inv dc161_20 mc161 lm6_187 rfl rfl (Nat.le_of_ble_eq_true rfl) (Or.inl ⟨(ly32 hL), by decide⟩)
theorem b161_23 {X : pm_X} {d : Nat} {x1 : Int32} {s0 : Int32} {s1 : Int32} {g : pm_G} {iv : pm_V} (hL : pm_lay g) (i1 : vp_in s1 6) : pm_at X d 161 (23, [some (.ref 32), some (.int x1)], [.int s0, .int s1, .ref 40], g, iv) = pm_then X d 161 35 [some (.ref 32), some (.int x1)] [.int x1, .ref 41] (pm_c X d 159 [.ref 32, .int x1, .int 4] g (pm_iw iv 40 (s1 : Int32).toNatClampNeg s0)) := by
  refine (at_iast dc161_23 (ly40 hL) i1).trans ?_
  refine (at_aload_n dc161_24 rfl).trans ?_
  refine (at_gfR dc161_25 mc161 lf6_34 fo6_20 (ly32 hL) (lr32_20 hL)).trans ?_
  refine (at_iload_n dc161_28 rfl).trans ?_
  refine (at_aload_n dc161_29 rfl).trans ?_
  refine (at_iload_n dc161_30 rfl).trans ?_
  refine (at_iconst (v := 4) dc161_31 rfl).trans ?_
  exact at_inv dc161_32 mc161 lm6_187 rfl rfl (Nat.le_of_ble_eq_true rfl) (Or.inl ⟨(ly32 hL), by decide⟩)
theorem b161_35 {X : pm_X} {d : Nat} {x1 : Int32} {s0 : Int32} {s1 : Int32} {g : pm_G} {iv : pm_V} (hL : pm_lay g) (i1 : vp_in s1 6) : pm_at X d 161 (35, [some (.ref 32), some (.int x1)], [.int s0, .int s1, .ref 41], g, iv) = pm_at X d 161 (2, [some (.ref 32), some (.int (x1 + 1))], [], g, (pm_iw iv 41 (s1 : Int32).toNatClampNeg s0)) := by
  refine (at_iast dc161_35 (ly41 hL) i1).trans ?_
  refine (at_iinc (v := 1) dc161_36 rfl (by decide) rfl).trans ?_
  refine (at_goto (t := 2) dc161_39 (by decide)).trans ?_
  rfl
theorem b161_42 {X : pm_X} {d : Nat} {x1 : Int32} {g : pm_G} {iv : pm_V}  : pm_at X d 161 (42, [some (.ref 32), some (.int x1)], [], g, iv) = some (none, g, iv) := by
  exact at_vret dc161_42 mr161
-- Mod.houseAt (II)I
theorem dc162_0 : decode (pm_mb 162) 0 = .ok (.iconst 0, 1) := by decide +kernel
theorem dc162_1 : decode (pm_mb 162) 1 = .ok (.istore_n 3, 1) := by decide +kernel
theorem dc162_2 : decode (pm_mb 162) 2 = .ok (.iload_n 3, 1) := by decide +kernel
theorem dc162_3 : decode (pm_mb 162) 3 = .ok (.aload_n 0, 1) := by decide +kernel
theorem dc162_4 : decode (pm_mb 162) 4 = .ok (.getfield 19, 3) := by decide +kernel
theorem dc162_7 : decode (pm_mb 162) 7 = .ok (.iconst 3, 1) := by decide +kernel
theorem dc162_8 : decode (pm_mb 162) 8 = .ok (.iaload, 1) := by decide +kernel
theorem dc162_9 : decode (pm_mb 162) 9 = .ok (.if_icmp .ge 31, 3) := by decide +kernel
theorem dc162_12 : decode (pm_mb 162) 12 = .ok (.aload_n 0, 1) := by decide +kernel
theorem dc162_13 : decode (pm_mb 162) 13 = .ok (.iload_n 3, 1) := by decide +kernel
theorem dc162_14 : decode (pm_mb 162) 14 = .ok (.iconst 1, 1) := by decide +kernel
theorem dc162_15 : decode (pm_mb 162) 15 = .ok (.invokevirtual 187, 3) := by decide +kernel
theorem dc162_18 : decode (pm_mb 162) 18 = .ok (.iload_n 1, 1) := by decide +kernel
theorem dc162_19 : decode (pm_mb 162) 19 = .ok (.if_icmp .ne 15, 3) := by decide +kernel
theorem dc162_22 : decode (pm_mb 162) 22 = .ok (.aload_n 0, 1) := by decide +kernel
theorem dc162_23 : decode (pm_mb 162) 23 = .ok (.getfield 31, 3) := by decide +kernel
theorem dc162_26 : decode (pm_mb 162) 26 = .ok (.iload_n 3, 1) := by decide +kernel
theorem dc162_27 : decode (pm_mb 162) 27 = .ok (.iaload, 1) := by decide +kernel
theorem dc162_28 : decode (pm_mb 162) 28 = .ok (.iload_n 2, 1) := by decide +kernel
theorem dc162_29 : decode (pm_mb 162) 29 = .ok (.if_icmp .ne 5, 3) := by decide +kernel
theorem dc162_32 : decode (pm_mb 162) 32 = .ok (.iload_n 3, 1) := by decide +kernel
theorem dc162_33 : decode (pm_mb 162) 33 = .ok (.ireturn, 1) := by decide +kernel
theorem dc162_34 : decode (pm_mb 162) 34 = .ok (.iinc 3 1, 3) := by decide +kernel
theorem dc162_37 : decode (pm_mb 162) 37 = .ok (.goto (-35), 3) := by decide +kernel
theorem dc162_40 : decode (pm_mb 162) 40 = .ok (.ldc 86, 2) := by decide +kernel
theorem dc162_42 : decode (pm_mb 162) 42 = .ok (.ireturn, 1) := by decide +kernel
theorem b162_0 {X : pm_X} {d : Nat} {x1 : Int32} {x2 : Int32} {g : pm_G} {iv : pm_V}  : pm_at X d 162 (0, [some (.ref 32), some (.int x1), some (.int x2), none], [], g, iv) = pm_at X d 162 (2, [some (.ref 32), some (.int x1), some (.int x2), some (.int 0)], [], g, iv) := by
  refine (at_iconst (v := 0) dc162_0 rfl).trans ?_
  refine (at_istore_n dc162_1 rfl).trans ?_
  rfl
theorem b162_2 {X : pm_X} {d : Nat} {x1 : Int32} {x2 : Int32} {x3 : Int32} {g : pm_G} {iv : pm_V} (hL : pm_lay g) : pm_at X d 162 (2, [some (.ref 32), some (.int x1), some (.int x2), some (.int x3)], [], g, iv) = if (iv 36 3) ≤ x3 then pm_at X d 162 (40, [some (.ref 32), some (.int x1), some (.int x2), some (.int x3)], [], g, iv) else pm_at X d 162 (12, [some (.ref 32), some (.int x1), some (.int x2), some (.int x3)], [], g, iv) := by
  refine (at_iload_n dc162_2 rfl).trans ?_
  refine (at_aload_n dc162_3 rfl).trans ?_
  refine (at_gfR dc162_4 mc162 lf6_19 fo6_5 (ly32 hL) (lr32_5 hL)).trans ?_
  refine (at_iconst (v := 3) dc162_7 rfl).trans ?_
  refine (at_iald dc162_8 (ly36 hL) (vp_in_nI (n := 3) (by decide) (by decide))).trans ?_
  exact at_icmp_ge (t := 40) dc162_9 (by decide)
theorem b162_12 {X : pm_X} {d : Nat} {x1 : Int32} {x2 : Int32} {x3 : Int32} {g : pm_G} {iv : pm_V} (hL : pm_lay g) : pm_at X d 162 (12, [some (.ref 32), some (.int x1), some (.int x2), some (.int x3)], [], g, iv) = pm_then X d 162 18 [some (.ref 32), some (.int x1), some (.int x2), some (.int x3)] [] (pm_c X d 159 [.ref 32, .int x3, .int 1] g iv) := by
  refine (at_aload_n dc162_12 rfl).trans ?_
  refine (at_iload_n dc162_13 rfl).trans ?_
  refine (at_iconst (v := 1) dc162_14 rfl).trans ?_
  exact at_inv dc162_15 mc162 lm6_187 rfl rfl (Nat.le_of_ble_eq_true rfl) (Or.inl ⟨(ly32 hL), by decide⟩)
theorem b162_18 {X : pm_X} {d : Nat} {x1 : Int32} {x2 : Int32} {x3 : Int32} {s0 : Int32} {g : pm_G} {iv : pm_V}  : pm_at X d 162 (18, [some (.ref 32), some (.int x1), some (.int x2), some (.int x3)], [.int s0], g, iv) = if ¬ s0 = x1 then pm_at X d 162 (34, [some (.ref 32), some (.int x1), some (.int x2), some (.int x3)], [], g, iv) else pm_at X d 162 (22, [some (.ref 32), some (.int x1), some (.int x2), some (.int x3)], [], g, iv) := by
  refine (at_iload_n dc162_18 rfl).trans ?_
  exact at_icmp_ne (t := 34) dc162_19 (by decide)
theorem b162_22 {X : pm_X} {d : Nat} {x1 : Int32} {x2 : Int32} {x3 : Int32} {g : pm_G} {iv : pm_V} (hL : pm_lay g) (i1 : vp_in x3 6) : pm_at X d 162 (22, [some (.ref 32), some (.int x1), some (.int x2), some (.int x3)], [], g, iv) = if ¬ (iv 40 (x3 : Int32).toNatClampNeg) = x2 then pm_at X d 162 (34, [some (.ref 32), some (.int x1), some (.int x2), some (.int x3)], [], g, iv) else pm_at X d 162 (32, [some (.ref 32), some (.int x1), some (.int x2), some (.int x3)], [], g, iv) := by
  refine (at_aload_n dc162_22 rfl).trans ?_
  refine (at_gfR dc162_23 mc162 lf6_31 fo6_19 (ly32 hL) (lr32_19 hL)).trans ?_
  refine (at_iload_n dc162_26 rfl).trans ?_
  refine (at_iald dc162_27 (ly40 hL) i1).trans ?_
  refine (at_iload_n dc162_28 rfl).trans ?_
  exact at_icmp_ne (t := 34) dc162_29 (by decide)
theorem b162_32 {X : pm_X} {d : Nat} {x1 : Int32} {x2 : Int32} {x3 : Int32} {g : pm_G} {iv : pm_V}  : pm_at X d 162 (32, [some (.ref 32), some (.int x1), some (.int x2), some (.int x3)], [], g, iv) = some (some (.int x3), g, iv) := by
  refine (at_iload_n dc162_32 rfl).trans ?_
  exact at_iret dc162_33 mr162
theorem b162_34 {X : pm_X} {d : Nat} {x1 : Int32} {x2 : Int32} {x3 : Int32} {g : pm_G} {iv : pm_V}  : pm_at X d 162 (34, [some (.ref 32), some (.int x1), some (.int x2), some (.int x3)], [], g, iv) = pm_at X d 162 (2, [some (.ref 32), some (.int x1), some (.int x2), some (.int (x3 + 1))], [], g, iv) := by
  refine (at_iinc (v := 1) dc162_34 rfl (by decide) rfl).trans ?_
  refine (at_goto (t := 2) dc162_37 (by decide)).trans ?_
  rfl
theorem b162_40 {X : pm_X} {d : Nat} {x1 : Int32} {x2 : Int32} {x3 : Int32} {g : pm_G} {iv : pm_V}  : pm_at X d 162 (40, [some (.ref 32), some (.int x1), some (.int x2), some (.int x3)], [], g, iv) = some (some (.int (-1000000)), g, iv) := by
  refine (at_ldc dc162_40 mc162 lk6_86).trans ?_
  exact at_iret dc162_42 mr162
-- Mod.roll (I)V
theorem dc163_0 : decode (pm_mb 163) 0 = .ok (.aload_n 0, 1) := by decide +kernel
theorem dc163_1 : decode (pm_mb 163) 1 = .ok (.getfield 31, 3) := by decide +kernel
theorem dc163_4 : decode (pm_mb 163) 4 = .ok (.iload_n 1, 1) := by decide +kernel
theorem dc163_5 : decode (pm_mb 163) 5 = .ok (.iaload, 1) := by decide +kernel
theorem dc163_6 : decode (pm_mb 163) 6 = .ok (.iconst 1, 1) := by decide +kernel
theorem dc163_7 : decode (pm_mb 163) 7 = .ok (.iadd, 1) := by decide +kernel
theorem dc163_8 : decode (pm_mb 163) 8 = .ok (.istore_n 2, 1) := by decide +kernel
theorem dc163_9 : decode (pm_mb 163) 9 = .ok (.iload_n 2, 1) := by decide +kernel
theorem dc163_10 : decode (pm_mb 163) 10 = .ok (.aload_n 0, 1) := by decide +kernel
theorem dc163_11 : decode (pm_mb 163) 11 = .ok (.getfield 19, 3) := by decide +kernel
theorem dc163_14 : decode (pm_mb 163) 14 = .ok (.iconst 1, 1) := by decide +kernel
theorem dc163_15 : decode (pm_mb 163) 15 = .ok (.iaload, 1) := by decide +kernel
theorem dc163_16 : decode (pm_mb 163) 16 = .ok (.if_icmp .ge 40, 3) := by decide +kernel
theorem dc163_19 : decode (pm_mb 163) 19 = .ok (.aload_n 0, 1) := by decide +kernel
theorem dc163_20 : decode (pm_mb 163) 20 = .ok (.aload_n 0, 1) := by decide +kernel
theorem dc163_21 : decode (pm_mb 163) 21 = .ok (.iload_n 1, 1) := by decide +kernel
theorem dc163_22 : decode (pm_mb 163) 22 = .ok (.iconst 1, 1) := by decide +kernel
theorem dc163_23 : decode (pm_mb 163) 23 = .ok (.invokevirtual 187, 3) := by decide +kernel
theorem dc163_26 : decode (pm_mb 163) 26 = .ok (.iload_n 2, 1) := by decide +kernel
theorem dc163_27 : decode (pm_mb 163) 27 = .ok (.invokevirtual 190, 3) := by decide +kernel
theorem dc163_30 : decode (pm_mb 163) 30 = .ok (.ifCond .ne 26, 3) := by decide +kernel
theorem dc163_33 : decode (pm_mb 163) 33 = .ok (.aload_n 0, 1) := by decide +kernel
theorem dc163_34 : decode (pm_mb 163) 34 = .ok (.aload_n 0, 1) := by decide +kernel
theorem dc163_35 : decode (pm_mb 163) 35 = .ok (.iload_n 1, 1) := by decide +kernel
theorem dc163_36 : decode (pm_mb 163) 36 = .ok (.iconst 1, 1) := by decide +kernel
theorem dc163_37 : decode (pm_mb 163) 37 = .ok (.invokevirtual 187, 3) := by decide +kernel
theorem dc163_40 : decode (pm_mb 163) 40 = .ok (.iload_n 2, 1) := by decide +kernel
theorem dc163_41 : decode (pm_mb 163) 41 = .ok (.invokevirtual 193, 3) := by decide +kernel
theorem dc163_44 : decode (pm_mb 163) 44 = .ok (.ldc 86, 2) := by decide +kernel
theorem dc163_46 : decode (pm_mb 163) 46 = .ok (.if_icmp .ne 10, 3) := by decide +kernel
theorem dc163_49 : decode (pm_mb 163) 49 = .ok (.aload_n 0, 1) := by decide +kernel
theorem dc163_50 : decode (pm_mb 163) 50 = .ok (.getfield 31, 3) := by decide +kernel
theorem dc163_53 : decode (pm_mb 163) 53 = .ok (.iload_n 1, 1) := by decide +kernel
theorem dc163_54 : decode (pm_mb 163) 54 = .ok (.iload_n 2, 1) := by decide +kernel
theorem dc163_55 : decode (pm_mb 163) 55 = .ok (.iastore, 1) := by decide +kernel
theorem dc163_56 : decode (pm_mb 163) 56 = .ok (.return_, 1) := by decide +kernel
theorem b163_0 {X : pm_X} {d : Nat} {x1 : Int32} {g : pm_G} {iv : pm_V} (hL : pm_lay g) (i1 : vp_in x1 6) : pm_at X d 163 (0, [some (.ref 32), some (.int x1), none], [], g, iv) = if (iv 36 1) ≤ ((iv 40 (x1 : Int32).toNatClampNeg) + 1) then pm_at X d 163 (56, [some (.ref 32), some (.int x1), some (.int ((iv 40 (x1 : Int32).toNatClampNeg) + 1))], [], g, iv) else pm_at X d 163 (19, [some (.ref 32), some (.int x1), some (.int ((iv 40 (x1 : Int32).toNatClampNeg) + 1))], [], g, iv) := by
  refine (at_aload_n dc163_0 rfl).trans ?_
  refine (at_gfR dc163_1 mc163 lf6_31 fo6_19 (ly32 hL) (lr32_19 hL)).trans ?_
  refine (at_iload_n dc163_4 rfl).trans ?_
  refine (at_iald dc163_5 (ly40 hL) i1).trans ?_
  refine (at_iconst (v := 1) dc163_6 rfl).trans ?_
  refine (at_iadd dc163_7).trans ?_
  refine (at_istore_n dc163_8 rfl).trans ?_
  refine (at_iload_n dc163_9 rfl).trans ?_
  refine (at_aload_n dc163_10 rfl).trans ?_
  refine (at_gfR dc163_11 mc163 lf6_19 fo6_5 (ly32 hL) (lr32_5 hL)).trans ?_
  refine (at_iconst (v := 1) dc163_14 rfl).trans ?_
  refine (at_iald dc163_15 (ly36 hL) (vp_in_nI (n := 1) (by decide) (by decide))).trans ?_
  exact at_icmp_ge (t := 56) dc163_16 (by decide)
theorem b163_19 {X : pm_X} {d : Nat} {x1 : Int32} {x2 : Int32} {g : pm_G} {iv : pm_V} (hL : pm_lay g) : pm_at X d 163 (19, [some (.ref 32), some (.int x1), some (.int x2)], [], g, iv) = pm_then X d 163 26 [some (.ref 32), some (.int x1), some (.int x2)] [.ref 32] (pm_c X d 159 [.ref 32, .int x1, .int 1] g iv) := by
  refine (at_aload_n dc163_19 rfl).trans ?_
  refine (at_aload_n dc163_20 rfl).trans ?_
  refine (at_iload_n dc163_21 rfl).trans ?_
  refine (at_iconst (v := 1) dc163_22 rfl).trans ?_
  exact at_inv dc163_23 mc163 lm6_187 rfl rfl (Nat.le_of_ble_eq_true rfl) (Or.inl ⟨(ly32 hL), by decide⟩)
theorem b163_26 {X : pm_X} {d : Nat} {x1 : Int32} {x2 : Int32} {s0 : Int32} {g : pm_G} {iv : pm_V} (hL : pm_lay g) : pm_at X d 163 (26, [some (.ref 32), some (.int x1), some (.int x2)], [.int s0, .ref 32], g, iv) = pm_then X d 163 30 [some (.ref 32), some (.int x1), some (.int x2)] [] (pm_c X d 160 [.ref 32, .int s0, .int x2] g iv) := by
  refine (at_iload_n dc163_26 rfl).trans ?_
  exact at_inv dc163_27 mc163 lm6_190 rfl rfl (Nat.le_of_ble_eq_true rfl) (Or.inl ⟨(ly32 hL), by decide⟩)
theorem b163_30 {X : pm_X} {d : Nat} {x1 : Int32} {x2 : Int32} {s0 : Int32} {g : pm_G} {iv : pm_V}  : pm_at X d 163 (30, [some (.ref 32), some (.int x1), some (.int x2)], [.int s0], g, iv) = if ¬ s0 = 0 then pm_at X d 163 (56, [some (.ref 32), some (.int x1), some (.int x2)], [], g, iv) else pm_at X d 163 (33, [some (.ref 32), some (.int x1), some (.int x2)], [], g, iv) := by
  exact at_if_ne (t := 56) dc163_30 (by decide)
theorem b163_33 {X : pm_X} {d : Nat} {x1 : Int32} {x2 : Int32} {g : pm_G} {iv : pm_V} (hL : pm_lay g) : pm_at X d 163 (33, [some (.ref 32), some (.int x1), some (.int x2)], [], g, iv) = pm_then X d 163 40 [some (.ref 32), some (.int x1), some (.int x2)] [.ref 32] (pm_c X d 159 [.ref 32, .int x1, .int 1] g iv) := by
  refine (at_aload_n dc163_33 rfl).trans ?_
  refine (at_aload_n dc163_34 rfl).trans ?_
  refine (at_iload_n dc163_35 rfl).trans ?_
  refine (at_iconst (v := 1) dc163_36 rfl).trans ?_
  exact at_inv dc163_37 mc163 lm6_187 rfl rfl (Nat.le_of_ble_eq_true rfl) (Or.inl ⟨(ly32 hL), by decide⟩)
theorem b163_40 {X : pm_X} {d : Nat} {x1 : Int32} {x2 : Int32} {s0 : Int32} {g : pm_G} {iv : pm_V} (hL : pm_lay g) : pm_at X d 163 (40, [some (.ref 32), some (.int x1), some (.int x2)], [.int s0, .ref 32], g, iv) = pm_then X d 163 44 [some (.ref 32), some (.int x1), some (.int x2)] [] (pm_c X d 162 [.ref 32, .int s0, .int x2] g iv) := by
  refine (at_iload_n dc163_40 rfl).trans ?_
  exact at_inv dc163_41 mc163 lm6_193 rfl rfl (Nat.le_of_ble_eq_true rfl) (Or.inl ⟨(ly32 hL), by decide⟩)
theorem b163_44 {X : pm_X} {d : Nat} {x1 : Int32} {x2 : Int32} {s0 : Int32} {g : pm_G} {iv : pm_V}  : pm_at X d 163 (44, [some (.ref 32), some (.int x1), some (.int x2)], [.int s0], g, iv) = if ¬ s0 = (-1000000) then pm_at X d 163 (56, [some (.ref 32), some (.int x1), some (.int x2)], [], g, iv) else pm_at X d 163 (49, [some (.ref 32), some (.int x1), some (.int x2)], [], g, iv) := by
  refine (at_ldc dc163_44 mc163 lk6_86).trans ?_
  exact at_icmp_ne (t := 56) dc163_46 (by decide)
theorem b163_49 {X : pm_X} {d : Nat} {x1 : Int32} {x2 : Int32} {g : pm_G} {iv : pm_V} (hL : pm_lay g) (i1 : vp_in x1 6) : pm_at X d 163 (49, [some (.ref 32), some (.int x1), some (.int x2)], [], g, iv) = pm_at X d 163 (56, [some (.ref 32), some (.int x1), some (.int x2)], [], g, (pm_iw iv 40 (x1 : Int32).toNatClampNeg x2)) := by
  refine (at_aload_n dc163_49 rfl).trans ?_
  refine (at_gfR dc163_50 mc163 lf6_31 fo6_19 (ly32 hL) (lr32_19 hL)).trans ?_
  refine (at_iload_n dc163_53 rfl).trans ?_
  refine (at_iload_n dc163_54 rfl).trans ?_
  refine (at_iast dc163_55 (ly40 hL) i1).trans ?_
  rfl
theorem b163_56 {X : pm_X} {d : Nat} {x1 : Int32} {x2 : Int32} {g : pm_G} {iv : pm_V}  : pm_at X d 163 (56, [some (.ref 32), some (.int x1), some (.int x2)], [], g, iv) = some (none, g, iv) := by
  exact at_vret dc163_56 mr163
-- Mod.isAlone (I)Z
theorem dc164_0 : decode (pm_mb 164) 0 = .ok (.iconst 1, 1) := by decide +kernel
theorem dc164_1 : decode (pm_mb 164) 1 = .ok (.istore_n 2, 1) := by decide +kernel
theorem dc164_2 : decode (pm_mb 164) 2 = .ok (.iconst 0, 1) := by decide +kernel
theorem dc164_3 : decode (pm_mb 164) 3 = .ok (.istore_n 3, 1) := by decide +kernel
theorem dc164_4 : decode (pm_mb 164) 4 = .ok (.iload_n 3, 1) := by decide +kernel
theorem dc164_5 : decode (pm_mb 164) 5 = .ok (.aload_n 0, 1) := by decide +kernel
theorem dc164_6 : decode (pm_mb 164) 6 = .ok (.getfield 19, 3) := by decide +kernel
theorem dc164_9 : decode (pm_mb 164) 9 = .ok (.iconst 3, 1) := by decide +kernel
theorem dc164_10 : decode (pm_mb 164) 10 = .ok (.iaload, 1) := by decide +kernel
theorem dc164_11 : decode (pm_mb 164) 11 = .ok (.if_icmp .ge 39, 3) := by decide +kernel
theorem dc164_14 : decode (pm_mb 164) 14 = .ok (.iload_n 2, 1) := by decide +kernel
theorem dc164_15 : decode (pm_mb 164) 15 = .ok (.ifCond .eq 27, 3) := by decide +kernel
theorem dc164_18 : decode (pm_mb 164) 18 = .ok (.iload_n 3, 1) := by decide +kernel
theorem dc164_19 : decode (pm_mb 164) 19 = .ok (.iload_n 1, 1) := by decide +kernel
theorem dc164_20 : decode (pm_mb 164) 20 = .ok (.if_icmp .eq 18, 3) := by decide +kernel
theorem dc164_23 : decode (pm_mb 164) 23 = .ok (.aload_n 0, 1) := by decide +kernel
theorem dc164_24 : decode (pm_mb 164) 24 = .ok (.getfield 37, 3) := by decide +kernel
theorem dc164_27 : decode (pm_mb 164) 27 = .ok (.iload_n 3, 1) := by decide +kernel
theorem dc164_28 : decode (pm_mb 164) 28 = .ok (.iaload, 1) := by decide +kernel
theorem dc164_29 : decode (pm_mb 164) 29 = .ok (.aload_n 0, 1) := by decide +kernel
theorem dc164_30 : decode (pm_mb 164) 30 = .ok (.getfield 37, 3) := by decide +kernel
theorem dc164_33 : decode (pm_mb 164) 33 = .ok (.iload_n 1, 1) := by decide +kernel
theorem dc164_34 : decode (pm_mb 164) 34 = .ok (.iaload, 1) := by decide +kernel
theorem dc164_35 : decode (pm_mb 164) 35 = .ok (.if_icmp .eq 7, 3) := by decide +kernel
theorem dc164_38 : decode (pm_mb 164) 38 = .ok (.iconst 1, 1) := by decide +kernel
theorem dc164_39 : decode (pm_mb 164) 39 = .ok (.goto 4, 3) := by decide +kernel
theorem dc164_42 : decode (pm_mb 164) 42 = .ok (.iconst 0, 1) := by decide +kernel
theorem dc164_43 : decode (pm_mb 164) 43 = .ok (.istore_n 2, 1) := by decide +kernel
theorem dc164_44 : decode (pm_mb 164) 44 = .ok (.iinc 3 1, 3) := by decide +kernel
theorem dc164_47 : decode (pm_mb 164) 47 = .ok (.goto (-43), 3) := by decide +kernel
theorem dc164_50 : decode (pm_mb 164) 50 = .ok (.iload_n 2, 1) := by decide +kernel
theorem dc164_51 : decode (pm_mb 164) 51 = .ok (.ireturn, 1) := by decide +kernel
theorem b164_0 {X : pm_X} {d : Nat} {x1 : Int32} {g : pm_G} {iv : pm_V}  : pm_at X d 164 (0, [some (.ref 32), some (.int x1), none, none], [], g, iv) = pm_at X d 164 (4, [some (.ref 32), some (.int x1), some (.int 1), some (.int 0)], [], g, iv) := by
  refine (at_iconst (v := 1) dc164_0 rfl).trans ?_
  refine (at_istore_n dc164_1 rfl).trans ?_
  refine (at_iconst (v := 0) dc164_2 rfl).trans ?_
  refine (at_istore_n dc164_3 rfl).trans ?_
  rfl
theorem b164_4 {X : pm_X} {d : Nat} {x1 : Int32} {x2 : Int32} {x3 : Int32} {g : pm_G} {iv : pm_V} (hL : pm_lay g) : pm_at X d 164 (4, [some (.ref 32), some (.int x1), some (.int x2), some (.int x3)], [], g, iv) = if (iv 36 3) ≤ x3 then pm_at X d 164 (50, [some (.ref 32), some (.int x1), some (.int x2), some (.int x3)], [], g, iv) else pm_at X d 164 (14, [some (.ref 32), some (.int x1), some (.int x2), some (.int x3)], [], g, iv) := by
  refine (at_iload_n dc164_4 rfl).trans ?_
  refine (at_aload_n dc164_5 rfl).trans ?_
  refine (at_gfR dc164_6 mc164 lf6_19 fo6_5 (ly32 hL) (lr32_5 hL)).trans ?_
  refine (at_iconst (v := 3) dc164_9 rfl).trans ?_
  refine (at_iald dc164_10 (ly36 hL) (vp_in_nI (n := 3) (by decide) (by decide))).trans ?_
  exact at_icmp_ge (t := 50) dc164_11 (by decide)
theorem b164_14 {X : pm_X} {d : Nat} {x1 : Int32} {x2 : Int32} {x3 : Int32} {g : pm_G} {iv : pm_V}  : pm_at X d 164 (14, [some (.ref 32), some (.int x1), some (.int x2), some (.int x3)], [], g, iv) = if x2 = 0 then pm_at X d 164 (42, [some (.ref 32), some (.int x1), some (.int x2), some (.int x3)], [], g, iv) else pm_at X d 164 (18, [some (.ref 32), some (.int x1), some (.int x2), some (.int x3)], [], g, iv) := by
  refine (at_iload_n dc164_14 rfl).trans ?_
  exact at_if_eq (t := 42) dc164_15 (by decide)
theorem b164_18 {X : pm_X} {d : Nat} {x1 : Int32} {x2 : Int32} {x3 : Int32} {g : pm_G} {iv : pm_V}  : pm_at X d 164 (18, [some (.ref 32), some (.int x1), some (.int x2), some (.int x3)], [], g, iv) = if x3 = x1 then pm_at X d 164 (38, [some (.ref 32), some (.int x1), some (.int x2), some (.int x3)], [], g, iv) else pm_at X d 164 (23, [some (.ref 32), some (.int x1), some (.int x2), some (.int x3)], [], g, iv) := by
  refine (at_iload_n dc164_18 rfl).trans ?_
  refine (at_iload_n dc164_19 rfl).trans ?_
  exact at_icmp_eq (t := 38) dc164_20 (by decide)
theorem b164_23 {X : pm_X} {d : Nat} {x1 : Int32} {x2 : Int32} {x3 : Int32} {g : pm_G} {iv : pm_V} (hL : pm_lay g) (i1 : vp_in x3 6) (i2 : vp_in x1 6) : pm_at X d 164 (23, [some (.ref 32), some (.int x1), some (.int x2), some (.int x3)], [], g, iv) = if (iv 42 (x3 : Int32).toNatClampNeg) = (iv 42 (x1 : Int32).toNatClampNeg) then pm_at X d 164 (42, [some (.ref 32), some (.int x1), some (.int x2), some (.int x3)], [], g, iv) else pm_at X d 164 (38, [some (.ref 32), some (.int x1), some (.int x2), some (.int x3)], [], g, iv) := by
  refine (at_aload_n dc164_23 rfl).trans ?_
  refine (at_gfR dc164_24 mc164 lf6_37 fo6_21 (ly32 hL) (lr32_21 hL)).trans ?_
  refine (at_iload_n dc164_27 rfl).trans ?_
  refine (at_iald dc164_28 (ly42 hL) i1).trans ?_
  refine (at_aload_n dc164_29 rfl).trans ?_
  refine (at_gfR dc164_30 mc164 lf6_37 fo6_21 (ly32 hL) (lr32_21 hL)).trans ?_
  refine (at_iload_n dc164_33 rfl).trans ?_
  refine (at_iald dc164_34 (ly42 hL) i2).trans ?_
  exact at_icmp_eq (t := 42) dc164_35 (by decide)
theorem b164_38 {X : pm_X} {d : Nat} {x1 : Int32} {x2 : Int32} {x3 : Int32} {g : pm_G} {iv : pm_V}  : pm_at X d 164 (38, [some (.ref 32), some (.int x1), some (.int x2), some (.int x3)], [], g, iv) = pm_at X d 164 (43, [some (.ref 32), some (.int x1), some (.int x2), some (.int x3)], [.int 1], g, iv) := by
  refine (at_iconst (v := 1) dc164_38 rfl).trans ?_
  refine (at_goto (t := 43) dc164_39 (by decide)).trans ?_
  rfl
theorem b164_42 {X : pm_X} {d : Nat} {x1 : Int32} {x2 : Int32} {x3 : Int32} {g : pm_G} {iv : pm_V}  : pm_at X d 164 (42, [some (.ref 32), some (.int x1), some (.int x2), some (.int x3)], [], g, iv) = pm_at X d 164 (43, [some (.ref 32), some (.int x1), some (.int x2), some (.int x3)], [.int 0], g, iv) := by
  refine (at_iconst (v := 0) dc164_42 rfl).trans ?_
  rfl
theorem b164_43 {X : pm_X} {d : Nat} {x1 : Int32} {x2 : Int32} {x3 : Int32} {s0 : Int32} {g : pm_G} {iv : pm_V}  : pm_at X d 164 (43, [some (.ref 32), some (.int x1), some (.int x2), some (.int x3)], [.int s0], g, iv) = pm_at X d 164 (4, [some (.ref 32), some (.int x1), some (.int s0), some (.int (x3 + 1))], [], g, iv) := by
  refine (at_istore_n dc164_43 rfl).trans ?_
  refine (at_iinc (v := 1) dc164_44 rfl (by decide) rfl).trans ?_
  refine (at_goto (t := 4) dc164_47 (by decide)).trans ?_
  rfl
theorem b164_50 {X : pm_X} {d : Nat} {x1 : Int32} {x2 : Int32} {x3 : Int32} {g : pm_G} {iv : pm_V}  : pm_at X d 164 (50, [some (.ref 32), some (.int x1), some (.int x2), some (.int x3)], [], g, iv) = pm_zr x2 (some (some (.int x2), g, iv)) := by
  refine (at_iload_n dc164_50 rfl).trans ?_
  exact at_zretG dc164_51 mr164
-- Mod.goHouse (II)V
theorem dc165_0 : decode (pm_mb 165) 0 = .ok (.aload_n 0, 1) := by decide +kernel
theorem dc165_1 : decode (pm_mb 165) 1 = .ok (.iload_n 1, 1) := by decide +kernel
theorem dc165_2 : decode (pm_mb 165) 2 = .ok (.iconst 0, 1) := by decide +kernel
theorem dc165_3 : decode (pm_mb 165) 3 = .ok (.invokevirtual 187, 3) := by decide +kernel
theorem dc165_6 : decode (pm_mb 165) 6 = .ok (.istore_n 3, 1) := by decide +kernel
theorem dc165_7 : decode (pm_mb 165) 7 = .ok (.aload_n 0, 1) := by decide +kernel
theorem dc165_8 : decode (pm_mb 165) 8 = .ok (.getfield 34, 3) := by decide +kernel
theorem dc165_11 : decode (pm_mb 165) 11 = .ok (.iload_n 1, 1) := by decide +kernel
theorem dc165_12 : decode (pm_mb 165) 12 = .ok (.iaload, 1) := by decide +kernel
theorem dc165_13 : decode (pm_mb 165) 13 = .ok (.iconst 1, 1) := by decide +kernel
theorem dc165_14 : decode (pm_mb 165) 14 = .ok (.if_icmp .eq 28, 3) := by decide +kernel
theorem dc165_17 : decode (pm_mb 165) 17 = .ok (.iload_n 3, 1) := by decide +kernel
theorem dc165_18 : decode (pm_mb 165) 18 = .ok (.iconst 1, 1) := by decide +kernel
theorem dc165_19 : decode (pm_mb 165) 19 = .ok (.if_icmp .ne 10, 3) := by decide +kernel
theorem dc165_22 : decode (pm_mb 165) 22 = .ok (.iload_n 2, 1) := by decide +kernel
theorem dc165_23 : decode (pm_mb 165) 23 = .ok (.iconst 2, 1) := by decide +kernel
theorem dc165_24 : decode (pm_mb 165) 24 = .ok (.irem, 1) := by decide +kernel
theorem dc165_25 : decode (pm_mb 165) 25 = .ok (.iconst 1, 1) := by decide +kernel
theorem dc165_26 : decode (pm_mb 165) 26 = .ok (.if_icmp .eq 16, 3) := by decide +kernel
theorem dc165_29 : decode (pm_mb 165) 29 = .ok (.iload_n 3, 1) := by decide +kernel
theorem dc165_30 : decode (pm_mb 165) 30 = .ok (.iconst 2, 1) := by decide +kernel
theorem dc165_31 : decode (pm_mb 165) 31 = .ok (.if_icmp .ne 15, 3) := by decide +kernel
theorem dc165_34 : decode (pm_mb 165) 34 = .ok (.aload_n 0, 1) := by decide +kernel
theorem dc165_35 : decode (pm_mb 165) 35 = .ok (.iload_n 1, 1) := by decide +kernel
theorem dc165_36 : decode (pm_mb 165) 36 = .ok (.invokevirtual 196, 3) := by decide +kernel
theorem dc165_39 : decode (pm_mb 165) 39 = .ok (.ifCond .ne 7, 3) := by decide +kernel
theorem dc165_42 : decode (pm_mb 165) 42 = .ok (.iconst 1, 1) := by decide +kernel
theorem dc165_43 : decode (pm_mb 165) 43 = .ok (.goto 4, 3) := by decide +kernel
theorem dc165_46 : decode (pm_mb 165) 46 = .ok (.iconst 0, 1) := by decide +kernel
theorem dc165_47 : decode (pm_mb 165) 47 = .ok (.istore 4, 2) := by decide +kernel
theorem dc165_49 : decode (pm_mb 165) 49 = .ok (.iconst 0, 1) := by decide +kernel
theorem dc165_50 : decode (pm_mb 165) 50 = .ok (.istore 5, 2) := by decide +kernel
theorem dc165_52 : decode (pm_mb 165) 52 = .ok (.iload 5, 2) := by decide +kernel
theorem dc165_54 : decode (pm_mb 165) 54 = .ok (.iload_n 3, 1) := by decide +kernel
theorem dc165_55 : decode (pm_mb 165) 55 = .ok (.iconst 3, 1) := by decide +kernel
theorem dc165_56 : decode (pm_mb 165) 56 = .ok (.if_icmp .ne 7, 3) := by decide +kernel
theorem dc165_59 : decode (pm_mb 165) 59 = .ok (.iconst 2, 1) := by decide +kernel
theorem dc165_60 : decode (pm_mb 165) 60 = .ok (.goto 4, 3) := by decide +kernel
theorem dc165_63 : decode (pm_mb 165) 63 = .ok (.iconst 1, 1) := by decide +kernel
theorem dc165_64 : decode (pm_mb 165) 64 = .ok (.if_icmp .ge 19, 3) := by decide +kernel
theorem dc165_67 : decode (pm_mb 165) 67 = .ok (.iload 4, 2) := by decide +kernel
theorem dc165_69 : decode (pm_mb 165) 69 = .ok (.ifCond .ne 14, 3) := by decide +kernel
theorem dc165_72 : decode (pm_mb 165) 72 = .ok (.aload_n 0, 1) := by decide +kernel
theorem dc165_73 : decode (pm_mb 165) 73 = .ok (.iload_n 1, 1) := by decide +kernel
theorem dc165_74 : decode (pm_mb 165) 74 = .ok (.invokevirtual 199, 3) := by decide +kernel
theorem dc165_77 : decode (pm_mb 165) 77 = .ok (.iinc 5 1, 3) := by decide +kernel
theorem dc165_80 : decode (pm_mb 165) 80 = .ok (.goto (-28), 3) := by decide +kernel
theorem dc165_83 : decode (pm_mb 165) 83 = .ok (.return_, 1) := by decide +kernel
theorem b165_0 {X : pm_X} {d : Nat} {x1 : Int32} {x2 : Int32} {g : pm_G} {iv : pm_V} (hL : pm_lay g) : pm_at X d 165 (0, [some (.ref 32), some (.int x1), some (.int x2), none, none, none], [], g, iv) = pm_then X d 165 6 [some (.ref 32), some (.int x1), some (.int x2), none, none, none] [] (pm_c X d 159 [.ref 32, .int x1, .int 0] g iv) := by
  refine (at_aload_n dc165_0 rfl).trans ?_
  refine (at_iload_n dc165_1 rfl).trans ?_
  refine (at_iconst (v := 0) dc165_2 rfl).trans ?_
  exact at_inv dc165_3 mc165 lm6_187 rfl rfl (Nat.le_of_ble_eq_true rfl) (Or.inl ⟨(ly32 hL), by decide⟩)
theorem b165_6 {X : pm_X} {d : Nat} {x1 : Int32} {x2 : Int32} {s0 : Int32} {g : pm_G} {iv : pm_V} (hL : pm_lay g) (i1 : vp_in x1 6) : pm_at X d 165 (6, [some (.ref 32), some (.int x1), some (.int x2), none, none, none], [.int s0], g, iv) = if (iv 41 (x1 : Int32).toNatClampNeg) = 1 then pm_at X d 165 (42, [some (.ref 32), some (.int x1), some (.int x2), some (.int s0), none, none], [], g, iv) else pm_at X d 165 (17, [some (.ref 32), some (.int x1), some (.int x2), some (.int s0), none, none], [], g, iv) := by
  refine (at_istore_n dc165_6 rfl).trans ?_
  refine (at_aload_n dc165_7 rfl).trans ?_
  refine (at_gfR dc165_8 mc165 lf6_34 fo6_20 (ly32 hL) (lr32_20 hL)).trans ?_
  refine (at_iload_n dc165_11 rfl).trans ?_
  refine (at_iald dc165_12 (ly41 hL) i1).trans ?_
  refine (at_iconst (v := 1) dc165_13 rfl).trans ?_
  exact at_icmp_eq (t := 42) dc165_14 (by decide)
theorem b165_17 {X : pm_X} {d : Nat} {x1 : Int32} {x2 : Int32} {x3 : Int32} {g : pm_G} {iv : pm_V}  : pm_at X d 165 (17, [some (.ref 32), some (.int x1), some (.int x2), some (.int x3), none, none], [], g, iv) = if ¬ x3 = 1 then pm_at X d 165 (29, [some (.ref 32), some (.int x1), some (.int x2), some (.int x3), none, none], [], g, iv) else pm_at X d 165 (22, [some (.ref 32), some (.int x1), some (.int x2), some (.int x3), none, none], [], g, iv) := by
  refine (at_iload_n dc165_17 rfl).trans ?_
  refine (at_iconst (v := 1) dc165_18 rfl).trans ?_
  exact at_icmp_ne (t := 29) dc165_19 (by decide)
theorem b165_22 {X : pm_X} {d : Nat} {x1 : Int32} {x2 : Int32} {x3 : Int32} {g : pm_G} {iv : pm_V}  : pm_at X d 165 (22, [some (.ref 32), some (.int x1), some (.int x2), some (.int x3), none, none], [], g, iv) = if (x2 - x2 / 2 * 2) = 1 then pm_at X d 165 (42, [some (.ref 32), some (.int x1), some (.int x2), some (.int x3), none, none], [], g, iv) else pm_at X d 165 (29, [some (.ref 32), some (.int x1), some (.int x2), some (.int x3), none, none], [], g, iv) := by
  refine (at_iload_n dc165_22 rfl).trans ?_
  refine (at_iconst (v := 2) dc165_23 rfl).trans ?_
  refine (at_irem dc165_24 (by decide)).trans ?_
  refine (at_iconst (v := 1) dc165_25 rfl).trans ?_
  exact at_icmp_eq (t := 42) dc165_26 (by decide)
theorem b165_29 {X : pm_X} {d : Nat} {x1 : Int32} {x2 : Int32} {x3 : Int32} {g : pm_G} {iv : pm_V}  : pm_at X d 165 (29, [some (.ref 32), some (.int x1), some (.int x2), some (.int x3), none, none], [], g, iv) = if ¬ x3 = 2 then pm_at X d 165 (46, [some (.ref 32), some (.int x1), some (.int x2), some (.int x3), none, none], [], g, iv) else pm_at X d 165 (34, [some (.ref 32), some (.int x1), some (.int x2), some (.int x3), none, none], [], g, iv) := by
  refine (at_iload_n dc165_29 rfl).trans ?_
  refine (at_iconst (v := 2) dc165_30 rfl).trans ?_
  exact at_icmp_ne (t := 46) dc165_31 (by decide)
theorem b165_34 {X : pm_X} {d : Nat} {x1 : Int32} {x2 : Int32} {x3 : Int32} {g : pm_G} {iv : pm_V} (hL : pm_lay g) : pm_at X d 165 (34, [some (.ref 32), some (.int x1), some (.int x2), some (.int x3), none, none], [], g, iv) = pm_then X d 165 39 [some (.ref 32), some (.int x1), some (.int x2), some (.int x3), none, none] [] (pm_c X d 164 [.ref 32, .int x1] g iv) := by
  refine (at_aload_n dc165_34 rfl).trans ?_
  refine (at_iload_n dc165_35 rfl).trans ?_
  exact at_inv dc165_36 mc165 lm6_196 rfl rfl (Nat.le_of_ble_eq_true rfl) (Or.inl ⟨(ly32 hL), by decide⟩)
theorem b165_39 {X : pm_X} {d : Nat} {x1 : Int32} {x2 : Int32} {x3 : Int32} {s0 : Int32} {g : pm_G} {iv : pm_V}  : pm_at X d 165 (39, [some (.ref 32), some (.int x1), some (.int x2), some (.int x3), none, none], [.int s0], g, iv) = if ¬ s0 = 0 then pm_at X d 165 (46, [some (.ref 32), some (.int x1), some (.int x2), some (.int x3), none, none], [], g, iv) else pm_at X d 165 (42, [some (.ref 32), some (.int x1), some (.int x2), some (.int x3), none, none], [], g, iv) := by
  exact at_if_ne (t := 46) dc165_39 (by decide)
theorem b165_42 {X : pm_X} {d : Nat} {x1 : Int32} {x2 : Int32} {x3 : Int32} {g : pm_G} {iv : pm_V}  : pm_at X d 165 (42, [some (.ref 32), some (.int x1), some (.int x2), some (.int x3), none, none], [], g, iv) = pm_at X d 165 (47, [some (.ref 32), some (.int x1), some (.int x2), some (.int x3), none, none], [.int 1], g, iv) := by
  refine (at_iconst (v := 1) dc165_42 rfl).trans ?_
  refine (at_goto (t := 47) dc165_43 (by decide)).trans ?_
  rfl
theorem b165_46 {X : pm_X} {d : Nat} {x1 : Int32} {x2 : Int32} {x3 : Int32} {g : pm_G} {iv : pm_V}  : pm_at X d 165 (46, [some (.ref 32), some (.int x1), some (.int x2), some (.int x3), none, none], [], g, iv) = pm_at X d 165 (47, [some (.ref 32), some (.int x1), some (.int x2), some (.int x3), none, none], [.int 0], g, iv) := by
  refine (at_iconst (v := 0) dc165_46 rfl).trans ?_
  rfl
theorem b165_47 {X : pm_X} {d : Nat} {x1 : Int32} {x2 : Int32} {x3 : Int32} {s0 : Int32} {g : pm_G} {iv : pm_V}  : pm_at X d 165 (47, [some (.ref 32), some (.int x1), some (.int x2), some (.int x3), none, none], [.int s0], g, iv) = pm_at X d 165 (52, [some (.ref 32), some (.int x1), some (.int x2), some (.int x3), some (.int s0), some (.int 0)], [], g, iv) := by
  refine (at_istore dc165_47 rfl).trans ?_
  refine (at_iconst (v := 0) dc165_49 rfl).trans ?_
  refine (at_istore dc165_50 rfl).trans ?_
  rfl
theorem b165_52 {X : pm_X} {d : Nat} {x1 : Int32} {x2 : Int32} {x3 : Int32} {x4 : Int32} {x5 : Int32} {g : pm_G} {iv : pm_V}  : pm_at X d 165 (52, [some (.ref 32), some (.int x1), some (.int x2), some (.int x3), some (.int x4), some (.int x5)], [], g, iv) = if ¬ x3 = 3 then pm_at X d 165 (63, [some (.ref 32), some (.int x1), some (.int x2), some (.int x3), some (.int x4), some (.int x5)], [.int x5], g, iv) else pm_at X d 165 (59, [some (.ref 32), some (.int x1), some (.int x2), some (.int x3), some (.int x4), some (.int x5)], [.int x5], g, iv) := by
  refine (at_iload dc165_52 rfl).trans ?_
  refine (at_iload_n dc165_54 rfl).trans ?_
  refine (at_iconst (v := 3) dc165_55 rfl).trans ?_
  exact at_icmp_ne (t := 63) dc165_56 (by decide)
theorem b165_59 {X : pm_X} {d : Nat} {x1 : Int32} {x2 : Int32} {x3 : Int32} {x4 : Int32} {x5 : Int32} {s0 : Int32} {g : pm_G} {iv : pm_V}  : pm_at X d 165 (59, [some (.ref 32), some (.int x1), some (.int x2), some (.int x3), some (.int x4), some (.int x5)], [.int s0], g, iv) = pm_at X d 165 (64, [some (.ref 32), some (.int x1), some (.int x2), some (.int x3), some (.int x4), some (.int x5)], [.int 2, .int s0], g, iv) := by
  refine (at_iconst (v := 2) dc165_59 rfl).trans ?_
  refine (at_goto (t := 64) dc165_60 (by decide)).trans ?_
  rfl
theorem b165_63 {X : pm_X} {d : Nat} {x1 : Int32} {x2 : Int32} {x3 : Int32} {x4 : Int32} {x5 : Int32} {s0 : Int32} {g : pm_G} {iv : pm_V}  : pm_at X d 165 (63, [some (.ref 32), some (.int x1), some (.int x2), some (.int x3), some (.int x4), some (.int x5)], [.int s0], g, iv) = pm_at X d 165 (64, [some (.ref 32), some (.int x1), some (.int x2), some (.int x3), some (.int x4), some (.int x5)], [.int 1, .int s0], g, iv) := by
  refine (at_iconst (v := 1) dc165_63 rfl).trans ?_
  rfl
theorem b165_64 {X : pm_X} {d : Nat} {x1 : Int32} {x2 : Int32} {x3 : Int32} {x4 : Int32} {x5 : Int32} {s0 : Int32} {s1 : Int32} {g : pm_G} {iv : pm_V}  : pm_at X d 165 (64, [some (.ref 32), some (.int x1), some (.int x2), some (.int x3), some (.int x4), some (.int x5)], [.int s0, .int s1], g, iv) = if s0 ≤ s1 then pm_at X d 165 (83, [some (.ref 32), some (.int x1), some (.int x2), some (.int x3), some (.int x4), some (.int x5)], [], g, iv) else pm_at X d 165 (67, [some (.ref 32), some (.int x1), some (.int x2), some (.int x3), some (.int x4), some (.int x5)], [], g, iv) := by
  exact at_icmp_ge (t := 83) dc165_64 (by decide)
theorem b165_67 {X : pm_X} {d : Nat} {x1 : Int32} {x2 : Int32} {x3 : Int32} {x4 : Int32} {x5 : Int32} {g : pm_G} {iv : pm_V}  : pm_at X d 165 (67, [some (.ref 32), some (.int x1), some (.int x2), some (.int x3), some (.int x4), some (.int x5)], [], g, iv) = if ¬ x4 = 0 then pm_at X d 165 (83, [some (.ref 32), some (.int x1), some (.int x2), some (.int x3), some (.int x4), some (.int x5)], [], g, iv) else pm_at X d 165 (72, [some (.ref 32), some (.int x1), some (.int x2), some (.int x3), some (.int x4), some (.int x5)], [], g, iv) := by
  refine (at_iload dc165_67 rfl).trans ?_
  exact at_if_ne (t := 83) dc165_69 (by decide)
theorem b165_72 {X : pm_X} {d : Nat} {x1 : Int32} {x2 : Int32} {x3 : Int32} {x4 : Int32} {x5 : Int32} {g : pm_G} {iv : pm_V} (hL : pm_lay g) : pm_at X d 165 (72, [some (.ref 32), some (.int x1), some (.int x2), some (.int x3), some (.int x4), some (.int x5)], [], g, iv) = pm_then X d 165 77 [some (.ref 32), some (.int x1), some (.int x2), some (.int x3), some (.int x4), some (.int x5)] [] (pm_c X d 163 [.ref 32, .int x1] g iv) := by
  refine (at_aload_n dc165_72 rfl).trans ?_
  refine (at_iload_n dc165_73 rfl).trans ?_
  exact at_inv dc165_74 mc165 lm6_199 rfl rfl (Nat.le_of_ble_eq_true rfl) (Or.inl ⟨(ly32 hL), by decide⟩)
theorem b165_77 {X : pm_X} {d : Nat} {x1 : Int32} {x2 : Int32} {x3 : Int32} {x4 : Int32} {x5 : Int32} {g : pm_G} {iv : pm_V}  : pm_at X d 165 (77, [some (.ref 32), some (.int x1), some (.int x2), some (.int x3), some (.int x4), some (.int x5)], [], g, iv) = pm_at X d 165 (52, [some (.ref 32), some (.int x1), some (.int x2), some (.int x3), some (.int x4), some (.int (x5 + 1))], [], g, iv) := by
  refine (at_iinc (v := 1) dc165_77 rfl (by decide) rfl).trans ?_
  refine (at_goto (t := 52) dc165_80 (by decide)).trans ?_
  rfl
theorem b165_83 {X : pm_X} {d : Nat} {x1 : Int32} {x2 : Int32} {x3 : Int32} {x4 : Int32} {x5 : Int32} {g : pm_G} {iv : pm_V}  : pm_at X d 165 (83, [some (.ref 32), some (.int x1), some (.int x2), some (.int x3), some (.int x4), some (.int x5)], [], g, iv) = some (none, g, iv) := by
  exact at_vret dc165_83 mr165
-- Mod.goWinter (I)V
theorem dc166_0 : decode (pm_mb 166) 0 = .ok (.iconst 0, 1) := by decide +kernel
theorem dc166_1 : decode (pm_mb 166) 1 = .ok (.istore_n 2, 1) := by decide +kernel
theorem dc166_2 : decode (pm_mb 166) 2 = .ok (.iload_n 2, 1) := by decide +kernel
theorem dc166_3 : decode (pm_mb 166) 3 = .ok (.aload_n 0, 1) := by decide +kernel
theorem dc166_4 : decode (pm_mb 166) 4 = .ok (.getfield 19, 3) := by decide +kernel
theorem dc166_7 : decode (pm_mb 166) 7 = .ok (.iconst 3, 1) := by decide +kernel
theorem dc166_8 : decode (pm_mb 166) 8 = .ok (.iaload, 1) := by decide +kernel
theorem dc166_9 : decode (pm_mb 166) 9 = .ok (.if_icmp .ge 21, 3) := by decide +kernel
theorem dc166_12 : decode (pm_mb 166) 12 = .ok (.aload_n 0, 1) := by decide +kernel
theorem dc166_13 : decode (pm_mb 166) 13 = .ok (.getfield 37, 3) := by decide +kernel
theorem dc166_16 : decode (pm_mb 166) 16 = .ok (.iload_n 2, 1) := by decide +kernel
theorem dc166_17 : decode (pm_mb 166) 17 = .ok (.aload_n 0, 1) := by decide +kernel
theorem dc166_18 : decode (pm_mb 166) 18 = .ok (.getfield 31, 3) := by decide +kernel
theorem dc166_21 : decode (pm_mb 166) 21 = .ok (.iload_n 2, 1) := by decide +kernel
theorem dc166_22 : decode (pm_mb 166) 22 = .ok (.iaload, 1) := by decide +kernel
theorem dc166_23 : decode (pm_mb 166) 23 = .ok (.iastore, 1) := by decide +kernel
theorem dc166_24 : decode (pm_mb 166) 24 = .ok (.iinc 2 1, 3) := by decide +kernel
theorem dc166_27 : decode (pm_mb 166) 27 = .ok (.goto (-25), 3) := by decide +kernel
theorem dc166_30 : decode (pm_mb 166) 30 = .ok (.aload_n 0, 1) := by decide +kernel
theorem dc166_31 : decode (pm_mb 166) 31 = .ok (.getfield 19, 3) := by decide +kernel
theorem dc166_34 : decode (pm_mb 166) 34 = .ok (.iconst 1, 1) := by decide +kernel
theorem dc166_35 : decode (pm_mb 166) 35 = .ok (.iaload, 1) := by decide +kernel
theorem dc166_36 : decode (pm_mb 166) 36 = .ok (.iconst 1, 1) := by decide +kernel
theorem dc166_37 : decode (pm_mb 166) 37 = .ok (.isub, 1) := by decide +kernel
theorem dc166_38 : decode (pm_mb 166) 38 = .ok (.istore_n 2, 1) := by decide +kernel
theorem dc166_39 : decode (pm_mb 166) 39 = .ok (.iload_n 2, 1) := by decide +kernel
theorem dc166_40 : decode (pm_mb 166) 40 = .ok (.ifCond .lt 43, 3) := by decide +kernel
theorem dc166_43 : decode (pm_mb 166) 43 = .ok (.iconst 0, 1) := by decide +kernel
theorem dc166_44 : decode (pm_mb 166) 44 = .ok (.istore_n 3, 1) := by decide +kernel
theorem dc166_45 : decode (pm_mb 166) 45 = .ok (.iload_n 3, 1) := by decide +kernel
theorem dc166_46 : decode (pm_mb 166) 46 = .ok (.aload_n 0, 1) := by decide +kernel
theorem dc166_47 : decode (pm_mb 166) 47 = .ok (.getfield 19, 3) := by decide +kernel
theorem dc166_50 : decode (pm_mb 166) 50 = .ok (.iconst 3, 1) := by decide +kernel
theorem dc166_51 : decode (pm_mb 166) 51 = .ok (.iaload, 1) := by decide +kernel
theorem dc166_52 : decode (pm_mb 166) 52 = .ok (.if_icmp .ge 25, 3) := by decide +kernel
theorem dc166_55 : decode (pm_mb 166) 55 = .ok (.aload_n 0, 1) := by decide +kernel
theorem dc166_56 : decode (pm_mb 166) 56 = .ok (.getfield 37, 3) := by decide +kernel
theorem dc166_59 : decode (pm_mb 166) 59 = .ok (.iload_n 3, 1) := by decide +kernel
theorem dc166_60 : decode (pm_mb 166) 60 = .ok (.iaload, 1) := by decide +kernel
theorem dc166_61 : decode (pm_mb 166) 61 = .ok (.iload_n 2, 1) := by decide +kernel
theorem dc166_62 : decode (pm_mb 166) 62 = .ok (.if_icmp .ne 9, 3) := by decide +kernel
theorem dc166_65 : decode (pm_mb 166) 65 = .ok (.aload_n 0, 1) := by decide +kernel
theorem dc166_66 : decode (pm_mb 166) 66 = .ok (.iload_n 3, 1) := by decide +kernel
theorem dc166_67 : decode (pm_mb 166) 67 = .ok (.iload_n 1, 1) := by decide +kernel
theorem dc166_68 : decode (pm_mb 166) 68 = .ok (.invokevirtual 202, 3) := by decide +kernel
theorem dc166_71 : decode (pm_mb 166) 71 = .ok (.iinc 3 1, 3) := by decide +kernel
theorem dc166_74 : decode (pm_mb 166) 74 = .ok (.goto (-29), 3) := by decide +kernel
theorem dc166_77 : decode (pm_mb 166) 77 = .ok (.iinc 2 (-1), 3) := by decide +kernel
theorem dc166_80 : decode (pm_mb 166) 80 = .ok (.goto (-41), 3) := by decide +kernel
theorem dc166_83 : decode (pm_mb 166) 83 = .ok (.return_, 1) := by decide +kernel
theorem b166_0 {X : pm_X} {d : Nat} {x1 : Int32} {g : pm_G} {iv : pm_V}  : pm_at X d 166 (0, [some (.ref 32), some (.int x1), none, none], [], g, iv) = pm_at X d 166 (2, [some (.ref 32), some (.int x1), some (.int 0), none], [], g, iv) := by
  refine (at_iconst (v := 0) dc166_0 rfl).trans ?_
  refine (at_istore_n dc166_1 rfl).trans ?_
  rfl
theorem b166_2 {X : pm_X} {d : Nat} {x1 : Int32} {x2 : Int32} {g : pm_G} {iv : pm_V} (hL : pm_lay g) : pm_at X d 166 (2, [some (.ref 32), some (.int x1), some (.int x2), none], [], g, iv) = if (iv 36 3) ≤ x2 then pm_at X d 166 (30, [some (.ref 32), some (.int x1), some (.int x2), none], [], g, iv) else pm_at X d 166 (12, [some (.ref 32), some (.int x1), some (.int x2), none], [], g, iv) := by
  refine (at_iload_n dc166_2 rfl).trans ?_
  refine (at_aload_n dc166_3 rfl).trans ?_
  refine (at_gfR dc166_4 mc166 lf6_19 fo6_5 (ly32 hL) (lr32_5 hL)).trans ?_
  refine (at_iconst (v := 3) dc166_7 rfl).trans ?_
  refine (at_iald dc166_8 (ly36 hL) (vp_in_nI (n := 3) (by decide) (by decide))).trans ?_
  exact at_icmp_ge (t := 30) dc166_9 (by decide)
theorem b166_12 {X : pm_X} {d : Nat} {x1 : Int32} {x2 : Int32} {g : pm_G} {iv : pm_V} (hL : pm_lay g) (i1 : vp_in x2 6) : pm_at X d 166 (12, [some (.ref 32), some (.int x1), some (.int x2), none], [], g, iv) = pm_at X d 166 (2, [some (.ref 32), some (.int x1), some (.int (x2 + 1)), none], [], g, (pm_iw iv 42 (x2 : Int32).toNatClampNeg ((iv 40 (x2 : Int32).toNatClampNeg)))) := by
  refine (at_aload_n dc166_12 rfl).trans ?_
  refine (at_gfR dc166_13 mc166 lf6_37 fo6_21 (ly32 hL) (lr32_21 hL)).trans ?_
  refine (at_iload_n dc166_16 rfl).trans ?_
  refine (at_aload_n dc166_17 rfl).trans ?_
  refine (at_gfR dc166_18 mc166 lf6_31 fo6_19 (ly32 hL) (lr32_19 hL)).trans ?_
  refine (at_iload_n dc166_21 rfl).trans ?_
  refine (at_iald dc166_22 (ly40 hL) i1).trans ?_
  refine (at_iast dc166_23 (ly42 hL) i1).trans ?_
  refine (at_iinc (v := 1) dc166_24 rfl (by decide) rfl).trans ?_
  refine (at_goto (t := 2) dc166_27 (by decide)).trans ?_
  rfl
theorem b166_30 {X : pm_X} {d : Nat} {x1 : Int32} {x2 : Int32} {g : pm_G} {iv : pm_V} (hL : pm_lay g) : pm_at X d 166 (30, [some (.ref 32), some (.int x1), some (.int x2), none], [], g, iv) = pm_at X d 166 (39, [some (.ref 32), some (.int x1), some (.int ((iv 36 1) - 1)), none], [], g, iv) := by
  refine (at_aload_n dc166_30 rfl).trans ?_
  refine (at_gfR dc166_31 mc166 lf6_19 fo6_5 (ly32 hL) (lr32_5 hL)).trans ?_
  refine (at_iconst (v := 1) dc166_34 rfl).trans ?_
  refine (at_iald dc166_35 (ly36 hL) (vp_in_nI (n := 1) (by decide) (by decide))).trans ?_
  refine (at_iconst (v := 1) dc166_36 rfl).trans ?_
  refine (at_isub dc166_37).trans ?_
  refine (at_istore_n dc166_38 rfl).trans ?_
  rfl
theorem b166_39 {X : pm_X} {d : Nat} {x1 : Int32} {x2 : Int32} {z3 : Option Value} {g : pm_G} {iv : pm_V}  : pm_at X d 166 (39, [some (.ref 32), some (.int x1), some (.int x2), z3], [], g, iv) = if x2 < 0 then pm_at X d 166 (83, [some (.ref 32), some (.int x1), some (.int x2), z3], [], g, iv) else pm_at X d 166 (43, [some (.ref 32), some (.int x1), some (.int x2), z3], [], g, iv) := by
  refine (at_iload_n dc166_39 rfl).trans ?_
  exact at_if_lt (t := 83) dc166_40 (by decide)
theorem b166_43 {X : pm_X} {d : Nat} {x1 : Int32} {x2 : Int32} {z3 : Option Value} {g : pm_G} {iv : pm_V}  : pm_at X d 166 (43, [some (.ref 32), some (.int x1), some (.int x2), z3], [], g, iv) = pm_at X d 166 (45, [some (.ref 32), some (.int x1), some (.int x2), some (.int 0)], [], g, iv) := by
  refine (at_iconst (v := 0) dc166_43 rfl).trans ?_
  refine (at_istore_n dc166_44 rfl).trans ?_
  rfl
theorem b166_45 {X : pm_X} {d : Nat} {x1 : Int32} {x2 : Int32} {x3 : Int32} {g : pm_G} {iv : pm_V} (hL : pm_lay g) : pm_at X d 166 (45, [some (.ref 32), some (.int x1), some (.int x2), some (.int x3)], [], g, iv) = if (iv 36 3) ≤ x3 then pm_at X d 166 (77, [some (.ref 32), some (.int x1), some (.int x2), some (.int x3)], [], g, iv) else pm_at X d 166 (55, [some (.ref 32), some (.int x1), some (.int x2), some (.int x3)], [], g, iv) := by
  refine (at_iload_n dc166_45 rfl).trans ?_
  refine (at_aload_n dc166_46 rfl).trans ?_
  refine (at_gfR dc166_47 mc166 lf6_19 fo6_5 (ly32 hL) (lr32_5 hL)).trans ?_
  refine (at_iconst (v := 3) dc166_50 rfl).trans ?_
  refine (at_iald dc166_51 (ly36 hL) (vp_in_nI (n := 3) (by decide) (by decide))).trans ?_
  exact at_icmp_ge (t := 77) dc166_52 (by decide)
theorem b166_55 {X : pm_X} {d : Nat} {x1 : Int32} {x2 : Int32} {x3 : Int32} {g : pm_G} {iv : pm_V} (hL : pm_lay g) (i1 : vp_in x3 6) : pm_at X d 166 (55, [some (.ref 32), some (.int x1), some (.int x2), some (.int x3)], [], g, iv) = if ¬ (iv 42 (x3 : Int32).toNatClampNeg) = x2 then pm_at X d 166 (71, [some (.ref 32), some (.int x1), some (.int x2), some (.int x3)], [], g, iv) else pm_at X d 166 (65, [some (.ref 32), some (.int x1), some (.int x2), some (.int x3)], [], g, iv) := by
  refine (at_aload_n dc166_55 rfl).trans ?_
  refine (at_gfR dc166_56 mc166 lf6_37 fo6_21 (ly32 hL) (lr32_21 hL)).trans ?_
  refine (at_iload_n dc166_59 rfl).trans ?_
  refine (at_iald dc166_60 (ly42 hL) i1).trans ?_
  refine (at_iload_n dc166_61 rfl).trans ?_
  exact at_icmp_ne (t := 71) dc166_62 (by decide)
theorem b166_65 {X : pm_X} {d : Nat} {x1 : Int32} {x2 : Int32} {x3 : Int32} {g : pm_G} {iv : pm_V} (hL : pm_lay g) : pm_at X d 166 (65, [some (.ref 32), some (.int x1), some (.int x2), some (.int x3)], [], g, iv) = pm_then X d 166 71 [some (.ref 32), some (.int x1), some (.int x2), some (.int x3)] [] (pm_c X d 165 [.ref 32, .int x3, .int x1] g iv) := by
  refine (at_aload_n dc166_65 rfl).trans ?_
  refine (at_iload_n dc166_66 rfl).trans ?_
  refine (at_iload_n dc166_67 rfl).trans ?_
  exact at_inv dc166_68 mc166 lm6_202 rfl rfl (Nat.le_of_ble_eq_true rfl) (Or.inl ⟨(ly32 hL), by decide⟩)
theorem b166_71 {X : pm_X} {d : Nat} {x1 : Int32} {x2 : Int32} {x3 : Int32} {g : pm_G} {iv : pm_V}  : pm_at X d 166 (71, [some (.ref 32), some (.int x1), some (.int x2), some (.int x3)], [], g, iv) = pm_at X d 166 (45, [some (.ref 32), some (.int x1), some (.int x2), some (.int (x3 + 1))], [], g, iv) := by
  refine (at_iinc (v := 1) dc166_71 rfl (by decide) rfl).trans ?_
  refine (at_goto (t := 45) dc166_74 (by decide)).trans ?_
  rfl
theorem b166_77 {X : pm_X} {d : Nat} {x1 : Int32} {x2 : Int32} {x3 : Int32} {g : pm_G} {iv : pm_V}  : pm_at X d 166 (77, [some (.ref 32), some (.int x1), some (.int x2), some (.int x3)], [], g, iv) = pm_at X d 166 (39, [some (.ref 32), some (.int x1), some (.int (x2 + (-1))), some (.int x3)], [], g, iv) := by
  refine (at_iinc (v := (-1)) dc166_77 rfl (by decide) rfl).trans ?_
  refine (at_goto (t := 39) dc166_80 (by decide)).trans ?_
  rfl
theorem b166_83 {X : pm_X} {d : Nat} {x1 : Int32} {x2 : Int32} {z3 : Option Value} {g : pm_G} {iv : pm_V}  : pm_at X d 166 (83, [some (.ref 32), some (.int x1), some (.int x2), z3], [], g, iv) = some (none, g, iv) := by
  exact at_vret dc166_83 mr166
-- Mod.keep ()V
theorem dc167_0 : decode (pm_mb 167) 0 = .ok (.aload_n 0, 1) := by decide +kernel
theorem dc167_1 : decode (pm_mb 167) 1 = .ok (.getfield 181, 3) := by decide +kernel
theorem dc167_4 : decode (pm_mb 167) 4 = .ok (.bipush 24, 2) := by decide +kernel
theorem dc167_6 : decode (pm_mb 167) 6 = .ok (.if_icmp .ne 43, 3) := by decide +kernel
theorem dc167_9 : decode (pm_mb 167) 9 = .ok (.iconst 0, 1) := by decide +kernel
theorem dc167_10 : decode (pm_mb 167) 10 = .ok (.istore_n 1, 1) := by decide +kernel
theorem dc167_11 : decode (pm_mb 167) 11 = .ok (.iload_n 1, 1) := by decide +kernel
theorem dc167_12 : decode (pm_mb 167) 12 = .ok (.sipush 1035, 3) := by decide +kernel
theorem dc167_15 : decode (pm_mb 167) 15 = .ok (.if_icmp .ge 24, 3) := by decide +kernel
theorem dc167_18 : decode (pm_mb 167) 18 = .ok (.aload_n 0, 1) := by decide +kernel
theorem dc167_19 : decode (pm_mb 167) 19 = .ok (.getfield 25, 3) := by decide +kernel
theorem dc167_22 : decode (pm_mb 167) 22 = .ok (.iload_n 1, 1) := by decide +kernel
theorem dc167_23 : decode (pm_mb 167) 23 = .ok (.aload_n 0, 1) := by decide +kernel
theorem dc167_24 : decode (pm_mb 167) 24 = .ok (.getfield 25, 3) := by decide +kernel
theorem dc167_27 : decode (pm_mb 167) 27 = .ok (.iload_n 1, 1) := by decide +kernel
theorem dc167_28 : decode (pm_mb 167) 28 = .ok (.bipush 45, 2) := by decide +kernel
theorem dc167_30 : decode (pm_mb 167) 30 = .ok (.iadd, 1) := by decide +kernel
theorem dc167_31 : decode (pm_mb 167) 31 = .ok (.iaload, 1) := by decide +kernel
theorem dc167_32 : decode (pm_mb 167) 32 = .ok (.iastore, 1) := by decide +kernel
theorem dc167_33 : decode (pm_mb 167) 33 = .ok (.iinc 1 1, 3) := by decide +kernel
theorem dc167_36 : decode (pm_mb 167) 36 = .ok (.goto (-25), 3) := by decide +kernel
theorem dc167_39 : decode (pm_mb 167) 39 = .ok (.aload_n 0, 1) := by decide +kernel
theorem dc167_40 : decode (pm_mb 167) 40 = .ok (.dup, 1) := by decide +kernel
theorem dc167_41 : decode (pm_mb 167) 41 = .ok (.getfield 181, 3) := by decide +kernel
theorem dc167_44 : decode (pm_mb 167) 44 = .ok (.iconst 1, 1) := by decide +kernel
theorem dc167_45 : decode (pm_mb 167) 45 = .ok (.isub, 1) := by decide +kernel
theorem dc167_46 : decode (pm_mb 167) 46 = .ok (.putfield 181, 3) := by decide +kernel
theorem dc167_49 : decode (pm_mb 167) 49 = .ok (.iconst 0, 1) := by decide +kernel
theorem dc167_50 : decode (pm_mb 167) 50 = .ok (.istore_n 1, 1) := by decide +kernel
theorem dc167_51 : decode (pm_mb 167) 51 = .ok (.iload_n 1, 1) := by decide +kernel
theorem dc167_52 : decode (pm_mb 167) 52 = .ok (.bipush 45, 2) := by decide +kernel
theorem dc167_54 : decode (pm_mb 167) 54 = .ok (.if_icmp .ge 29, 3) := by decide +kernel
theorem dc167_57 : decode (pm_mb 167) 57 = .ok (.aload_n 0, 1) := by decide +kernel
theorem dc167_58 : decode (pm_mb 167) 58 = .ok (.getfield 25, 3) := by decide +kernel
theorem dc167_61 : decode (pm_mb 167) 61 = .ok (.bipush 45, 2) := by decide +kernel
theorem dc167_63 : decode (pm_mb 167) 63 = .ok (.aload_n 0, 1) := by decide +kernel
theorem dc167_64 : decode (pm_mb 167) 64 = .ok (.getfield 181, 3) := by decide +kernel
theorem dc167_67 : decode (pm_mb 167) 67 = .ok (.imul, 1) := by decide +kernel
theorem dc167_68 : decode (pm_mb 167) 68 = .ok (.iload_n 1, 1) := by decide +kernel
theorem dc167_69 : decode (pm_mb 167) 69 = .ok (.iadd, 1) := by decide +kernel
theorem dc167_70 : decode (pm_mb 167) 70 = .ok (.aload_n 0, 1) := by decide +kernel
theorem dc167_71 : decode (pm_mb 167) 71 = .ok (.getfield 19, 3) := by decide +kernel
theorem dc167_74 : decode (pm_mb 167) 74 = .ok (.iload_n 1, 1) := by decide +kernel
theorem dc167_75 : decode (pm_mb 167) 75 = .ok (.iaload, 1) := by decide +kernel
theorem dc167_76 : decode (pm_mb 167) 76 = .ok (.iastore, 1) := by decide +kernel
theorem dc167_77 : decode (pm_mb 167) 77 = .ok (.iinc 1 1, 3) := by decide +kernel
theorem dc167_80 : decode (pm_mb 167) 80 = .ok (.goto (-29), 3) := by decide +kernel
theorem dc167_83 : decode (pm_mb 167) 83 = .ok (.aload_n 0, 1) := by decide +kernel
theorem dc167_84 : decode (pm_mb 167) 84 = .ok (.dup, 1) := by decide +kernel
theorem dc167_85 : decode (pm_mb 167) 85 = .ok (.getfield 181, 3) := by decide +kernel
theorem dc167_88 : decode (pm_mb 167) 88 = .ok (.iconst 1, 1) := by decide +kernel
theorem dc167_89 : decode (pm_mb 167) 89 = .ok (.iadd, 1) := by decide +kernel
theorem dc167_90 : decode (pm_mb 167) 90 = .ok (.putfield 181, 3) := by decide +kernel
theorem dc167_93 : decode (pm_mb 167) 93 = .ok (.return_, 1) := by decide +kernel
theorem b167_0 {X : pm_X} {d : Nat} {g : pm_G} {iv : pm_V} (hL : pm_lay g) : pm_at X d 167 (0, [some (.ref 32), none], [], g, iv) = if ¬ (iv 32 8) = 24 then pm_at X d 167 (49, [some (.ref 32), none], [], g, iv) else pm_at X d 167 (9, [some (.ref 32), none], [], g, iv) := by
  refine (at_aload_n dc167_0 rfl).trans ?_
  refine (at_gfI dc167_1 mc167 lf6_181 fo6_8 (ly32 hL)).trans ?_
  refine (at_bipush (v := 24) dc167_4 (by decide)).trans ?_
  exact at_icmp_ne (t := 49) dc167_6 (by decide)
theorem b167_9 {X : pm_X} {d : Nat} {g : pm_G} {iv : pm_V}  : pm_at X d 167 (9, [some (.ref 32), none], [], g, iv) = pm_at X d 167 (11, [some (.ref 32), some (.int 0)], [], g, iv) := by
  refine (at_iconst (v := 0) dc167_9 rfl).trans ?_
  refine (at_istore_n dc167_10 rfl).trans ?_
  rfl
theorem b167_11 {X : pm_X} {d : Nat} {x1 : Int32} {g : pm_G} {iv : pm_V}  : pm_at X d 167 (11, [some (.ref 32), some (.int x1)], [], g, iv) = if 1035 ≤ x1 then pm_at X d 167 (39, [some (.ref 32), some (.int x1)], [], g, iv) else pm_at X d 167 (18, [some (.ref 32), some (.int x1)], [], g, iv) := by
  refine (at_iload_n dc167_11 rfl).trans ?_
  refine (at_sipush (v := 1035) dc167_12 (by decide)).trans ?_
  exact at_icmp_ge (t := 39) dc167_15 (by decide)
theorem b167_18 {X : pm_X} {d : Nat} {x1 : Int32} {g : pm_G} {iv : pm_V} (hL : pm_lay g) (i1 : vp_in ((x1 + 45)) 1080) (i2 : vp_in x1 1080) : pm_at X d 167 (18, [some (.ref 32), some (.int x1)], [], g, iv) = pm_at X d 167 (11, [some (.ref 32), some (.int (x1 + 1))], [], g, (pm_iw iv 38 (x1 : Int32).toNatClampNeg ((iv 38 ((x1 + 45) : Int32).toNatClampNeg)))) := by
  refine (at_aload_n dc167_18 rfl).trans ?_
  refine (at_gfR dc167_19 mc167 lf6_25 fo6_7 (ly32 hL) (lr32_7 hL)).trans ?_
  refine (at_iload_n dc167_22 rfl).trans ?_
  refine (at_aload_n dc167_23 rfl).trans ?_
  refine (at_gfR dc167_24 mc167 lf6_25 fo6_7 (ly32 hL) (lr32_7 hL)).trans ?_
  refine (at_iload_n dc167_27 rfl).trans ?_
  refine (at_bipush (v := 45) dc167_28 (by decide)).trans ?_
  refine (at_iadd dc167_30).trans ?_
  refine (at_iald dc167_31 (ly38 hL) i1).trans ?_
  refine (at_iast dc167_32 (ly38 hL) i2).trans ?_
  refine (at_iinc (v := 1) dc167_33 rfl (by decide) rfl).trans ?_
  refine (at_goto (t := 11) dc167_36 (by decide)).trans ?_
  rfl
theorem b167_39 {X : pm_X} {d : Nat} {x1 : Int32} {g : pm_G} {iv : pm_V} (hL : pm_lay g) : pm_at X d 167 (39, [some (.ref 32), some (.int x1)], [], g, iv) = pm_at X d 167 (49, [some (.ref 32), some (.int x1)], [], g, (pm_iw iv 32 8 (((iv 32 8) - 1)))) := by
  refine (at_aload_n dc167_39 rfl).trans ?_
  refine (at_dup dc167_40 rfl).trans ?_
  refine (at_gfI dc167_41 mc167 lf6_181 fo6_8 (ly32 hL)).trans ?_
  refine (at_iconst (v := 1) dc167_44 rfl).trans ?_
  refine (at_isub dc167_45).trans ?_
  refine (at_pfI dc167_46 mc167 lf6_181 po6_8 (ly32 hL)).trans ?_
  rfl
theorem b167_49 {X : pm_X} {d : Nat} {z1 : Option Value} {g : pm_G} {iv : pm_V}  : pm_at X d 167 (49, [some (.ref 32), z1], [], g, iv) = pm_at X d 167 (51, [some (.ref 32), some (.int 0)], [], g, iv) := by
  refine (at_iconst (v := 0) dc167_49 rfl).trans ?_
  refine (at_istore_n dc167_50 rfl).trans ?_
  rfl
theorem b167_51 {X : pm_X} {d : Nat} {x1 : Int32} {g : pm_G} {iv : pm_V}  : pm_at X d 167 (51, [some (.ref 32), some (.int x1)], [], g, iv) = if 45 ≤ x1 then pm_at X d 167 (83, [some (.ref 32), some (.int x1)], [], g, iv) else pm_at X d 167 (57, [some (.ref 32), some (.int x1)], [], g, iv) := by
  refine (at_iload_n dc167_51 rfl).trans ?_
  refine (at_bipush (v := 45) dc167_52 (by decide)).trans ?_
  exact at_icmp_ge (t := 83) dc167_54 (by decide)
theorem b167_57 {X : pm_X} {d : Nat} {x1 : Int32} {g : pm_G} {iv : pm_V} (hL : pm_lay g) (i1 : vp_in x1 45) (i2 : vp_in (((45 * (iv 32 8)) + x1)) 1080) : pm_at X d 167 (57, [some (.ref 32), some (.int x1)], [], g, iv) = pm_at X d 167 (51, [some (.ref 32), some (.int (x1 + 1))], [], g, (pm_iw iv 38 (((45 * (iv 32 8)) + x1) : Int32).toNatClampNeg ((iv 36 (x1 : Int32).toNatClampNeg)))) := by
  refine (at_aload_n dc167_57 rfl).trans ?_
  refine (at_gfR dc167_58 mc167 lf6_25 fo6_7 (ly32 hL) (lr32_7 hL)).trans ?_
  refine (at_bipush (v := 45) dc167_61 (by decide)).trans ?_
  refine (at_aload_n dc167_63 rfl).trans ?_
  refine (at_gfI dc167_64 mc167 lf6_181 fo6_8 (ly32 hL)).trans ?_
  refine (at_imul dc167_67).trans ?_
  refine (at_iload_n dc167_68 rfl).trans ?_
  refine (at_iadd dc167_69).trans ?_
  refine (at_aload_n dc167_70 rfl).trans ?_
  refine (at_gfR dc167_71 mc167 lf6_19 fo6_5 (ly32 hL) (lr32_5 hL)).trans ?_
  refine (at_iload_n dc167_74 rfl).trans ?_
  refine (at_iald dc167_75 (ly36 hL) i1).trans ?_
  refine (at_iast dc167_76 (ly38 hL) i2).trans ?_
  refine (at_iinc (v := 1) dc167_77 rfl (by decide) rfl).trans ?_
  refine (at_goto (t := 51) dc167_80 (by decide)).trans ?_
  rfl
theorem b167_83 {X : pm_X} {d : Nat} {x1 : Int32} {g : pm_G} {iv : pm_V} (hL : pm_lay g) : pm_at X d 167 (83, [some (.ref 32), some (.int x1)], [], g, iv) = some (none, g, (pm_iw iv 32 8 (((iv 32 8) + 1)))) := by
  refine (at_aload_n dc167_83 rfl).trans ?_
  refine (at_dup dc167_84 rfl).trans ?_
  refine (at_gfI dc167_85 mc167 lf6_181 fo6_8 (ly32 hL)).trans ?_
  refine (at_iconst (v := 1) dc167_88 rfl).trans ?_
  refine (at_iadd dc167_89).trans ?_
  refine (at_pfI dc167_90 mc167 lf6_181 po6_8 (ly32 hL)).trans ?_
  exact at_vret dc167_93 mr167
-- Mod.winter ()I
theorem dc168_0 : decode (pm_mb 168) 0 = .ok (.aload_n 0, 1) := by decide +kernel
theorem dc168_1 : decode (pm_mb 168) 1 = .ok (.iconst 0, 1) := by decide +kernel
theorem dc168_2 : decode (pm_mb 168) 2 = .ok (.putfield 50, 3) := by decide +kernel
theorem dc168_5 : decode (pm_mb 168) 5 = .ok (.aload_n 0, 1) := by decide +kernel
theorem dc168_6 : decode (pm_mb 168) 6 = .ok (.invokevirtual 205, 3) := by decide +kernel
theorem dc168_9 : decode (pm_mb 168) 9 = .ok (.ifCond .ne 6, 3) := by decide +kernel
theorem dc168_12 : decode (pm_mb 168) 12 = .ok (.ldc 209, 2) := by decide +kernel
theorem dc168_14 : decode (pm_mb 168) 14 = .ok (.ireturn, 1) := by decide +kernel
theorem dc168_15 : decode (pm_mb 168) 15 = .ok (.aload_n 0, 1) := by decide +kernel
theorem dc168_16 : decode (pm_mb 168) 16 = .ok (.getfield 19, 3) := by decide +kernel
theorem dc168_19 : decode (pm_mb 168) 19 = .ok (.iconst 4, 1) := by decide +kernel
theorem dc168_20 : decode (pm_mb 168) 20 = .ok (.iaload, 1) := by decide +kernel
theorem dc168_21 : decode (pm_mb 168) 21 = .ok (.sipush 9999, 3) := by decide +kernel
theorem dc168_24 : decode (pm_mb 168) 24 = .ok (.if_icmp .ne 6, 3) := by decide +kernel
theorem dc168_27 : decode (pm_mb 168) 27 = .ok (.ldc 80, 2) := by decide +kernel
theorem dc168_29 : decode (pm_mb 168) 29 = .ok (.ireturn, 1) := by decide +kernel
theorem dc168_30 : decode (pm_mb 168) 30 = .ok (.aload_n 0, 1) := by decide +kernel
theorem dc168_31 : decode (pm_mb 168) 31 = .ok (.invokevirtual 210, 3) := by decide +kernel
theorem dc168_34 : decode (pm_mb 168) 34 = .ok (.aload_n 0, 1) := by decide +kernel
theorem dc168_35 : decode (pm_mb 168) 35 = .ok (.invokevirtual 213, 3) := by decide +kernel
theorem dc168_38 : decode (pm_mb 168) 38 = .ok (.aload_n 0, 1) := by decide +kernel
theorem dc168_39 : decode (pm_mb 168) 39 = .ok (.aload_n 0, 1) := by decide +kernel
theorem dc168_40 : decode (pm_mb 168) 40 = .ok (.getfield 19, 3) := by decide +kernel
theorem dc168_43 : decode (pm_mb 168) 43 = .ok (.iconst 4, 1) := by decide +kernel
theorem dc168_44 : decode (pm_mb 168) 44 = .ok (.iaload, 1) := by decide +kernel
theorem dc168_45 : decode (pm_mb 168) 45 = .ok (.invokevirtual 216, 3) := by decide +kernel
theorem dc168_48 : decode (pm_mb 168) 48 = .ok (.iconst 0, 1) := by decide +kernel
theorem dc168_49 : decode (pm_mb 168) 49 = .ok (.istore_n 1, 1) := by decide +kernel
theorem dc168_50 : decode (pm_mb 168) 50 = .ok (.iconst 0, 1) := by decide +kernel
theorem dc168_51 : decode (pm_mb 168) 51 = .ok (.istore_n 2, 1) := by decide +kernel
theorem dc168_52 : decode (pm_mb 168) 52 = .ok (.iload_n 2, 1) := by decide +kernel
theorem dc168_53 : decode (pm_mb 168) 53 = .ok (.aload_n 0, 1) := by decide +kernel
theorem dc168_54 : decode (pm_mb 168) 54 = .ok (.getfield 19, 3) := by decide +kernel
theorem dc168_57 : decode (pm_mb 168) 57 = .ok (.iconst 3, 1) := by decide +kernel
theorem dc168_58 : decode (pm_mb 168) 58 = .ok (.iaload, 1) := by decide +kernel
theorem dc168_59 : decode (pm_mb 168) 59 = .ok (.if_icmp .ge 54, 3) := by decide +kernel
theorem dc168_62 : decode (pm_mb 168) 62 = .ok (.iload_n 1, 1) := by decide +kernel
theorem dc168_63 : decode (pm_mb 168) 63 = .ok (.aload_n 0, 1) := by decide +kernel
theorem dc168_64 : decode (pm_mb 168) 64 = .ok (.getfield 31, 3) := by decide +kernel
theorem dc168_67 : decode (pm_mb 168) 67 = .ok (.iload_n 2, 1) := by decide +kernel
theorem dc168_68 : decode (pm_mb 168) 68 = .ok (.iaload, 1) := by decide +kernel
theorem dc168_69 : decode (pm_mb 168) 69 = .ok (.aload_n 0, 1) := by decide +kernel
theorem dc168_70 : decode (pm_mb 168) 70 = .ok (.iload_n 2, 1) := by decide +kernel
theorem dc168_71 : decode (pm_mb 168) 71 = .ok (.iconst 2, 1) := by decide +kernel
theorem dc168_72 : decode (pm_mb 168) 72 = .ok (.invokevirtual 187, 3) := by decide +kernel
theorem dc168_75 : decode (pm_mb 168) 75 = .ok (.if_icmp .eq 9, 3) := by decide +kernel
theorem dc168_78 : decode (pm_mb 168) 78 = .ok (.iconst 1, 1) := by decide +kernel
theorem dc168_79 : decode (pm_mb 168) 79 = .ok (.iload_n 2, 1) := by decide +kernel
theorem dc168_80 : decode (pm_mb 168) 80 = .ok (.ishl, 1) := by decide +kernel
theorem dc168_81 : decode (pm_mb 168) 81 = .ok (.goto 4, 3) := by decide +kernel
theorem dc168_84 : decode (pm_mb 168) 84 = .ok (.iconst 0, 1) := by decide +kernel
theorem dc168_85 : decode (pm_mb 168) 85 = .ok (.ior, 1) := by decide +kernel
theorem dc168_86 : decode (pm_mb 168) 86 = .ok (.istore_n 1, 1) := by decide +kernel
theorem dc168_87 : decode (pm_mb 168) 87 = .ok (.aload_n 0, 1) := by decide +kernel
theorem dc168_88 : decode (pm_mb 168) 88 = .ok (.getfield 19, 3) := by decide +kernel
theorem dc168_91 : decode (pm_mb 168) 91 = .ok (.bipush 9, 2) := by decide +kernel
theorem dc168_93 : decode (pm_mb 168) 93 = .ok (.bipush 6, 2) := by decide +kernel
theorem dc168_95 : decode (pm_mb 168) 95 = .ok (.iload_n 2, 1) := by decide +kernel
theorem dc168_96 : decode (pm_mb 168) 96 = .ok (.imul, 1) := by decide +kernel
theorem dc168_97 : decode (pm_mb 168) 97 = .ok (.iadd, 1) := by decide +kernel
theorem dc168_98 : decode (pm_mb 168) 98 = .ok (.iconst 2, 1) := by decide +kernel
theorem dc168_99 : decode (pm_mb 168) 99 = .ok (.iadd, 1) := by decide +kernel
theorem dc168_100 : decode (pm_mb 168) 100 = .ok (.aload_n 0, 1) := by decide +kernel
theorem dc168_101 : decode (pm_mb 168) 101 = .ok (.getfield 31, 3) := by decide +kernel
theorem dc168_104 : decode (pm_mb 168) 104 = .ok (.iload_n 2, 1) := by decide +kernel
theorem dc168_105 : decode (pm_mb 168) 105 = .ok (.iaload, 1) := by decide +kernel
theorem dc168_106 : decode (pm_mb 168) 106 = .ok (.iastore, 1) := by decide +kernel
theorem dc168_107 : decode (pm_mb 168) 107 = .ok (.iinc 2 1, 3) := by decide +kernel
theorem dc168_110 : decode (pm_mb 168) 110 = .ok (.goto (-58), 3) := by decide +kernel
theorem dc168_113 : decode (pm_mb 168) 113 = .ok (.aload_n 0, 1) := by decide +kernel
theorem dc168_114 : decode (pm_mb 168) 114 = .ok (.getfield 19, 3) := by decide +kernel
theorem dc168_117 : decode (pm_mb 168) 117 = .ok (.iconst 4, 1) := by decide +kernel
theorem dc168_118 : decode (pm_mb 168) 118 = .ok (.dup2, 1) := by decide +kernel
theorem dc168_119 : decode (pm_mb 168) 119 = .ok (.iaload, 1) := by decide +kernel
theorem dc168_120 : decode (pm_mb 168) 120 = .ok (.iconst 1, 1) := by decide +kernel
theorem dc168_121 : decode (pm_mb 168) 121 = .ok (.iadd, 1) := by decide +kernel
theorem dc168_122 : decode (pm_mb 168) 122 = .ok (.iastore, 1) := by decide +kernel
theorem dc168_123 : decode (pm_mb 168) 123 = .ok (.iload_n 1, 1) := by decide +kernel
theorem dc168_124 : decode (pm_mb 168) 124 = .ok (.ireturn, 1) := by decide +kernel
theorem b168_0 {X : pm_X} {d : Nat} {g : pm_G} {iv : pm_V} (hL : pm_lay g) : pm_at X d 168 (0, [some (.ref 32), none, none], [], g, iv) = pm_then X d 168 9 [some (.ref 32), none, none] [] (pm_c X d 156 [.ref 32] g (pm_iw iv 32 0 0)) := by
  refine (at_aload_n dc168_0 rfl).trans ?_
  refine (at_iconst (v := 0) dc168_1 rfl).trans ?_
  refine (at_pfI dc168_2 mc168 lf6_50 po6_0 (ly32 hL)).trans ?_
  refine (at_aload_n dc168_5 rfl).trans ?_
  exact at_inv dc168_6 mc168 lm6_205 rfl rfl (Nat.le_of_ble_eq_true rfl) (Or.inl ⟨(ly32 hL), by decide⟩)
theorem b168_9 {X : pm_X} {d : Nat} {s0 : Int32} {g : pm_G} {iv : pm_V}  : pm_at X d 168 (9, [some (.ref 32), none, none], [.int s0], g, iv) = if ¬ s0 = 0 then pm_at X d 168 (15, [some (.ref 32), none, none], [], g, iv) else pm_at X d 168 (12, [some (.ref 32), none, none], [], g, iv) := by
  exact at_if_ne (t := 15) dc168_9 (by decide)
theorem b168_12 {X : pm_X} {d : Nat} {g : pm_G} {iv : pm_V}  : pm_at X d 168 (12, [some (.ref 32), none, none], [], g, iv) = some (some (.int (-1000002)), g, iv) := by
  refine (at_ldc dc168_12 mc168 lk6_209).trans ?_
  exact at_iret dc168_14 mr168
theorem b168_15 {X : pm_X} {d : Nat} {g : pm_G} {iv : pm_V} (hL : pm_lay g) : pm_at X d 168 (15, [some (.ref 32), none, none], [], g, iv) = if ¬ (iv 36 4) = 9999 then pm_at X d 168 (30, [some (.ref 32), none, none], [], g, iv) else pm_at X d 168 (27, [some (.ref 32), none, none], [], g, iv) := by
  refine (at_aload_n dc168_15 rfl).trans ?_
  refine (at_gfR dc168_16 mc168 lf6_19 fo6_5 (ly32 hL) (lr32_5 hL)).trans ?_
  refine (at_iconst (v := 4) dc168_19 rfl).trans ?_
  refine (at_iald dc168_20 (ly36 hL) (vp_in_nI (n := 4) (by decide) (by decide))).trans ?_
  refine (at_sipush (v := 9999) dc168_21 (by decide)).trans ?_
  exact at_icmp_ne (t := 30) dc168_24 (by decide)
theorem b168_27 {X : pm_X} {d : Nat} {g : pm_G} {iv : pm_V}  : pm_at X d 168 (27, [some (.ref 32), none, none], [], g, iv) = some (some (.int (-1000003)), g, iv) := by
  refine (at_ldc dc168_27 mc168 lk6_80).trans ?_
  exact at_iret dc168_29 mr168
theorem b168_30 {X : pm_X} {d : Nat} {g : pm_G} {iv : pm_V} (hL : pm_lay g) : pm_at X d 168 (30, [some (.ref 32), none, none], [], g, iv) = pm_then X d 168 34 [some (.ref 32), none, none] [] (pm_c X d 167 [.ref 32] g iv) := by
  refine (at_aload_n dc168_30 rfl).trans ?_
  exact at_inv dc168_31 mc168 lm6_210 rfl rfl (Nat.le_of_ble_eq_true rfl) (Or.inl ⟨(ly32 hL), by decide⟩)
theorem b168_34 {X : pm_X} {d : Nat} {g : pm_G} {iv : pm_V} (hL : pm_lay g) : pm_at X d 168 (34, [some (.ref 32), none, none], [], g, iv) = pm_then X d 168 38 [some (.ref 32), none, none] [] (pm_c X d 161 [.ref 32] g iv) := by
  refine (at_aload_n dc168_34 rfl).trans ?_
  exact at_inv dc168_35 mc168 lm6_213 rfl rfl (Nat.le_of_ble_eq_true rfl) (Or.inl ⟨(ly32 hL), by decide⟩)
theorem b168_38 {X : pm_X} {d : Nat} {g : pm_G} {iv : pm_V} (hL : pm_lay g) : pm_at X d 168 (38, [some (.ref 32), none, none], [], g, iv) = pm_then X d 168 48 [some (.ref 32), none, none] [] (pm_c X d 166 [.ref 32, .int (iv 36 4)] g iv) := by
  refine (at_aload_n dc168_38 rfl).trans ?_
  refine (at_aload_n dc168_39 rfl).trans ?_
  refine (at_gfR dc168_40 mc168 lf6_19 fo6_5 (ly32 hL) (lr32_5 hL)).trans ?_
  refine (at_iconst (v := 4) dc168_43 rfl).trans ?_
  refine (at_iald dc168_44 (ly36 hL) (vp_in_nI (n := 4) (by decide) (by decide))).trans ?_
  exact at_inv dc168_45 mc168 lm6_216 rfl rfl (Nat.le_of_ble_eq_true rfl) (Or.inl ⟨(ly32 hL), by decide⟩)
theorem b168_48 {X : pm_X} {d : Nat} {g : pm_G} {iv : pm_V}  : pm_at X d 168 (48, [some (.ref 32), none, none], [], g, iv) = pm_at X d 168 (52, [some (.ref 32), some (.int 0), some (.int 0)], [], g, iv) := by
  refine (at_iconst (v := 0) dc168_48 rfl).trans ?_
  refine (at_istore_n dc168_49 rfl).trans ?_
  refine (at_iconst (v := 0) dc168_50 rfl).trans ?_
  refine (at_istore_n dc168_51 rfl).trans ?_
  rfl
theorem b168_52 {X : pm_X} {d : Nat} {x1 : Int32} {x2 : Int32} {g : pm_G} {iv : pm_V} (hL : pm_lay g) : pm_at X d 168 (52, [some (.ref 32), some (.int x1), some (.int x2)], [], g, iv) = if (iv 36 3) ≤ x2 then pm_at X d 168 (113, [some (.ref 32), some (.int x1), some (.int x2)], [], g, iv) else pm_at X d 168 (62, [some (.ref 32), some (.int x1), some (.int x2)], [], g, iv) := by
  refine (at_iload_n dc168_52 rfl).trans ?_
  refine (at_aload_n dc168_53 rfl).trans ?_
  refine (at_gfR dc168_54 mc168 lf6_19 fo6_5 (ly32 hL) (lr32_5 hL)).trans ?_
  refine (at_iconst (v := 3) dc168_57 rfl).trans ?_
  refine (at_iald dc168_58 (ly36 hL) (vp_in_nI (n := 3) (by decide) (by decide))).trans ?_
  exact at_icmp_ge (t := 113) dc168_59 (by decide)
theorem b168_62 {X : pm_X} {d : Nat} {x1 : Int32} {x2 : Int32} {g : pm_G} {iv : pm_V} (hL : pm_lay g) (i1 : vp_in x2 6) : pm_at X d 168 (62, [some (.ref 32), some (.int x1), some (.int x2)], [], g, iv) = pm_then X d 168 75 [some (.ref 32), some (.int x1), some (.int x2)] [.int (iv 40 (x2 : Int32).toNatClampNeg), .int x1] (pm_c X d 159 [.ref 32, .int x2, .int 2] g iv) := by
  refine (at_iload_n dc168_62 rfl).trans ?_
  refine (at_aload_n dc168_63 rfl).trans ?_
  refine (at_gfR dc168_64 mc168 lf6_31 fo6_19 (ly32 hL) (lr32_19 hL)).trans ?_
  refine (at_iload_n dc168_67 rfl).trans ?_
  refine (at_iald dc168_68 (ly40 hL) i1).trans ?_
  refine (at_aload_n dc168_69 rfl).trans ?_
  refine (at_iload_n dc168_70 rfl).trans ?_
  refine (at_iconst (v := 2) dc168_71 rfl).trans ?_
  exact at_inv dc168_72 mc168 lm6_187 rfl rfl (Nat.le_of_ble_eq_true rfl) (Or.inl ⟨(ly32 hL), by decide⟩)
theorem b168_75 {X : pm_X} {d : Nat} {x1 : Int32} {x2 : Int32} {s0 : Int32} {s1 : Int32} {s2 : Int32} {g : pm_G} {iv : pm_V}  : pm_at X d 168 (75, [some (.ref 32), some (.int x1), some (.int x2)], [.int s0, .int s1, .int s2], g, iv) = if s1 = s0 then pm_at X d 168 (84, [some (.ref 32), some (.int x1), some (.int x2)], [.int s2], g, iv) else pm_at X d 168 (78, [some (.ref 32), some (.int x1), some (.int x2)], [.int s2], g, iv) := by
  exact at_icmp_eq (t := 84) dc168_75 (by decide)
theorem b168_78 {X : pm_X} {d : Nat} {x1 : Int32} {x2 : Int32} {s0 : Int32} {g : pm_G} {iv : pm_V}  : pm_at X d 168 (78, [some (.ref 32), some (.int x1), some (.int x2)], [.int s0], g, iv) = pm_at X d 168 (85, [some (.ref 32), some (.int x1), some (.int x2)], [.int (1 <<< (x2 &&& 31)), .int s0], g, iv) := by
  refine (at_iconst (v := 1) dc168_78 rfl).trans ?_
  refine (at_iload_n dc168_79 rfl).trans ?_
  refine (at_ishl dc168_80).trans ?_
  refine (at_goto (t := 85) dc168_81 (by decide)).trans ?_
  rfl
theorem b168_84 {X : pm_X} {d : Nat} {x1 : Int32} {x2 : Int32} {s0 : Int32} {g : pm_G} {iv : pm_V}  : pm_at X d 168 (84, [some (.ref 32), some (.int x1), some (.int x2)], [.int s0], g, iv) = pm_at X d 168 (85, [some (.ref 32), some (.int x1), some (.int x2)], [.int 0, .int s0], g, iv) := by
  refine (at_iconst (v := 0) dc168_84 rfl).trans ?_
  rfl
theorem b168_85 {X : pm_X} {d : Nat} {x1 : Int32} {x2 : Int32} {s0 : Int32} {s1 : Int32} {g : pm_G} {iv : pm_V} (hL : pm_lay g) (i1 : vp_in x2 6) (i2 : vp_in (((9 + (6 * x2)) + 2)) 45) : pm_at X d 168 (85, [some (.ref 32), some (.int x1), some (.int x2)], [.int s0, .int s1], g, iv) = pm_at X d 168 (52, [some (.ref 32), some (.int (s1 ||| s0)), some (.int (x2 + 1))], [], g, (pm_iw iv 36 (((9 + (6 * x2)) + 2) : Int32).toNatClampNeg ((iv 40 (x2 : Int32).toNatClampNeg)))) := by
  refine (at_ior dc168_85).trans ?_
  refine (at_istore_n dc168_86 rfl).trans ?_
  refine (at_aload_n dc168_87 rfl).trans ?_
  refine (at_gfR dc168_88 mc168 lf6_19 fo6_5 (ly32 hL) (lr32_5 hL)).trans ?_
  refine (at_bipush (v := 9) dc168_91 (by decide)).trans ?_
  refine (at_bipush (v := 6) dc168_93 (by decide)).trans ?_
  refine (at_iload_n dc168_95 rfl).trans ?_
  refine (at_imul dc168_96).trans ?_
  refine (at_iadd dc168_97).trans ?_
  refine (at_iconst (v := 2) dc168_98 rfl).trans ?_
  refine (at_iadd dc168_99).trans ?_
  refine (at_aload_n dc168_100 rfl).trans ?_
  refine (at_gfR dc168_101 mc168 lf6_31 fo6_19 (ly32 hL) (lr32_19 hL)).trans ?_
  refine (at_iload_n dc168_104 rfl).trans ?_
  refine (at_iald dc168_105 (ly40 hL) i1).trans ?_
  refine (at_iast dc168_106 (ly36 hL) i2).trans ?_
  refine (at_iinc (v := 1) dc168_107 rfl (by decide) rfl).trans ?_
  refine (at_goto (t := 52) dc168_110 (by decide)).trans ?_
  rfl
theorem b168_113 {X : pm_X} {d : Nat} {x1 : Int32} {x2 : Int32} {g : pm_G} {iv : pm_V} (hL : pm_lay g) : pm_at X d 168 (113, [some (.ref 32), some (.int x1), some (.int x2)], [], g, iv) = some (some (.int x1), g, (pm_iw iv 36 4 (((iv 36 4) + 1)))) := by
  refine (at_aload_n dc168_113 rfl).trans ?_
  refine (at_gfR dc168_114 mc168 lf6_19 fo6_5 (ly32 hL) (lr32_5 hL)).trans ?_
  refine (at_iconst (v := 4) dc168_117 rfl).trans ?_
  refine (at_dup2 dc168_118 ⟨rfl, rfl⟩).trans ?_
  refine (at_iald dc168_119 (ly36 hL) (vp_in_nI (n := 4) (by decide) (by decide))).trans ?_
  refine (at_iconst (v := 1) dc168_120 rfl).trans ?_
  refine (at_iadd dc168_121).trans ?_
  refine (at_iast dc168_122 (ly36 hL) (vp_in_nI (n := 4) (by decide) (by decide))).trans ?_
  refine (at_iload_n dc168_123 rfl).trans ?_
  exact at_iret dc168_124 mr168
-- Mod.haul (II)I
theorem dc169_0 : decode (pm_mb 169) 0 = .ok (.aload_n 0, 1) := by decide +kernel
theorem dc169_1 : decode (pm_mb 169) 1 = .ok (.iconst 0, 1) := by decide +kernel
theorem dc169_2 : decode (pm_mb 169) 2 = .ok (.putfield 50, 3) := by decide +kernel
theorem dc169_5 : decode (pm_mb 169) 5 = .ok (.aload_n 0, 1) := by decide +kernel
theorem dc169_6 : decode (pm_mb 169) 6 = .ok (.iload_n 1, 1) := by decide +kernel
theorem dc169_7 : decode (pm_mb 169) 7 = .ok (.invokevirtual 184, 3) := by decide +kernel
theorem dc169_10 : decode (pm_mb 169) 10 = .ok (.ifCond .eq 21, 3) := by decide +kernel
theorem dc169_13 : decode (pm_mb 169) 13 = .ok (.iload_n 2, 1) := by decide +kernel
theorem dc169_14 : decode (pm_mb 169) 14 = .ok (.i2l, 1) := by decide +kernel
theorem dc169_15 : decode (pm_mb 169) 15 = .ok (.lconst 0, 1) := by decide +kernel
theorem dc169_16 : decode (pm_mb 169) 16 = .ok (.aload_n 0, 1) := by decide +kernel
theorem dc169_17 : decode (pm_mb 169) 17 = .ok (.getfield 19, 3) := by decide +kernel
theorem dc169_20 : decode (pm_mb 169) 20 = .ok (.iconst 0, 1) := by decide +kernel
theorem dc169_21 : decode (pm_mb 169) 21 = .ok (.iaload, 1) := by decide +kernel
theorem dc169_22 : decode (pm_mb 169) 22 = .ok (.iconst 1, 1) := by decide +kernel
theorem dc169_23 : decode (pm_mb 169) 23 = .ok (.isub, 1) := by decide +kernel
theorem dc169_24 : decode (pm_mb 169) 24 = .ok (.i2l, 1) := by decide +kernel
theorem dc169_25 : decode (pm_mb 169) 25 = .ok (.invokestatic 60, 3) := by decide +kernel
theorem dc169_28 : decode (pm_mb 169) 28 = .ok (.ifCond .ne 6, 3) := by decide +kernel
theorem dc169_31 : decode (pm_mb 169) 31 = .ok (.ldc 70, 2) := by decide +kernel
theorem dc169_33 : decode (pm_mb 169) 33 = .ok (.ireturn, 1) := by decide +kernel
theorem dc169_34 : decode (pm_mb 169) 34 = .ok (.aload_n 0, 1) := by decide +kernel
theorem dc169_35 : decode (pm_mb 169) 35 = .ok (.invokevirtual 213, 3) := by decide +kernel
theorem dc169_38 : decode (pm_mb 169) 38 = .ok (.aload_n 0, 1) := by decide +kernel
theorem dc169_39 : decode (pm_mb 169) 39 = .ok (.iload_n 2, 1) := by decide +kernel
theorem dc169_40 : decode (pm_mb 169) 40 = .ok (.iconst 0, 1) := by decide +kernel
theorem dc169_41 : decode (pm_mb 169) 41 = .ok (.invokevirtual 190, 3) := by decide +kernel
theorem dc169_44 : decode (pm_mb 169) 44 = .ok (.ifCond .ne 24, 3) := by decide +kernel
theorem dc169_47 : decode (pm_mb 169) 47 = .ok (.aload_n 0, 1) := by decide +kernel
theorem dc169_48 : decode (pm_mb 169) 48 = .ok (.iload_n 2, 1) := by decide +kernel
theorem dc169_49 : decode (pm_mb 169) 49 = .ok (.iconst 0, 1) := by decide +kernel
theorem dc169_50 : decode (pm_mb 169) 50 = .ok (.invokevirtual 193, 3) := by decide +kernel
theorem dc169_53 : decode (pm_mb 169) 53 = .ok (.ldc 86, 2) := by decide +kernel
theorem dc169_55 : decode (pm_mb 169) 55 = .ok (.if_icmp .ne 13, 3) := by decide +kernel
theorem dc169_58 : decode (pm_mb 169) 58 = .ok (.aload_n 0, 1) := by decide +kernel
theorem dc169_59 : decode (pm_mb 169) 59 = .ok (.getfield 19, 3) := by decide +kernel
theorem dc169_62 : decode (pm_mb 169) 62 = .ok (.iconst 3, 1) := by decide +kernel
theorem dc169_63 : decode (pm_mb 169) 63 = .ok (.iaload, 1) := by decide +kernel
theorem dc169_64 : decode (pm_mb 169) 64 = .ok (.iconst 1, 1) := by decide +kernel
theorem dc169_65 : decode (pm_mb 169) 65 = .ok (.if_icmp .ne 6, 3) := by decide +kernel
theorem dc169_68 : decode (pm_mb 169) 68 = .ok (.ldc 209, 2) := by decide +kernel
theorem dc169_70 : decode (pm_mb 169) 70 = .ok (.ireturn, 1) := by decide +kernel
theorem dc169_71 : decode (pm_mb 169) 71 = .ok (.aload_n 0, 1) := by decide +kernel
theorem dc169_72 : decode (pm_mb 169) 72 = .ok (.invokevirtual 210, 3) := by decide +kernel
theorem dc169_75 : decode (pm_mb 169) 75 = .ok (.aload_n 0, 1) := by decide +kernel
theorem dc169_76 : decode (pm_mb 169) 76 = .ok (.getfield 19, 3) := by decide +kernel
theorem dc169_79 : decode (pm_mb 169) 79 = .ok (.bipush 9, 2) := by decide +kernel
theorem dc169_81 : decode (pm_mb 169) 81 = .ok (.bipush 6, 2) := by decide +kernel
theorem dc169_83 : decode (pm_mb 169) 83 = .ok (.iload_n 1, 1) := by decide +kernel
theorem dc169_84 : decode (pm_mb 169) 84 = .ok (.imul, 1) := by decide +kernel
theorem dc169_85 : decode (pm_mb 169) 85 = .ok (.iadd, 1) := by decide +kernel
theorem dc169_86 : decode (pm_mb 169) 86 = .ok (.iconst 1, 1) := by decide +kernel
theorem dc169_87 : decode (pm_mb 169) 87 = .ok (.iadd, 1) := by decide +kernel
theorem dc169_88 : decode (pm_mb 169) 88 = .ok (.iload_n 2, 1) := by decide +kernel
theorem dc169_89 : decode (pm_mb 169) 89 = .ok (.iastore, 1) := by decide +kernel
theorem dc169_90 : decode (pm_mb 169) 90 = .ok (.aload_n 0, 1) := by decide +kernel
theorem dc169_91 : decode (pm_mb 169) 91 = .ok (.getfield 19, 3) := by decide +kernel
theorem dc169_94 : decode (pm_mb 169) 94 = .ok (.bipush 9, 2) := by decide +kernel
theorem dc169_96 : decode (pm_mb 169) 96 = .ok (.bipush 6, 2) := by decide +kernel
theorem dc169_98 : decode (pm_mb 169) 98 = .ok (.iload_n 1, 1) := by decide +kernel
theorem dc169_99 : decode (pm_mb 169) 99 = .ok (.imul, 1) := by decide +kernel
theorem dc169_100 : decode (pm_mb 169) 100 = .ok (.iadd, 1) := by decide +kernel
theorem dc169_101 : decode (pm_mb 169) 101 = .ok (.iconst 2, 1) := by decide +kernel
theorem dc169_102 : decode (pm_mb 169) 102 = .ok (.iadd, 1) := by decide +kernel
theorem dc169_103 : decode (pm_mb 169) 103 = .ok (.iconst 0, 1) := by decide +kernel
theorem dc169_104 : decode (pm_mb 169) 104 = .ok (.iastore, 1) := by decide +kernel
theorem dc169_105 : decode (pm_mb 169) 105 = .ok (.aload_n 0, 1) := by decide +kernel
theorem dc169_106 : decode (pm_mb 169) 106 = .ok (.getfield 19, 3) := by decide +kernel
theorem dc169_109 : decode (pm_mb 169) 109 = .ok (.iconst 3, 1) := by decide +kernel
theorem dc169_110 : decode (pm_mb 169) 110 = .ok (.iaload, 1) := by decide +kernel
theorem dc169_111 : decode (pm_mb 169) 111 = .ok (.iconst 1, 1) := by decide +kernel
theorem dc169_112 : decode (pm_mb 169) 112 = .ok (.isub, 1) := by decide +kernel
theorem dc169_113 : decode (pm_mb 169) 113 = .ok (.istore_n 3, 1) := by decide +kernel
theorem dc169_114 : decode (pm_mb 169) 114 = .ok (.aload_n 0, 1) := by decide +kernel
theorem dc169_115 : decode (pm_mb 169) 115 = .ok (.iload_n 1, 1) := by decide +kernel
theorem dc169_116 : decode (pm_mb 169) 116 = .ok (.iconst 3, 1) := by decide +kernel
theorem dc169_117 : decode (pm_mb 169) 117 = .ok (.invokevirtual 187, 3) := by decide +kernel
theorem dc169_120 : decode (pm_mb 169) 120 = .ok (.iload_n 3, 1) := by decide +kernel
theorem dc169_121 : decode (pm_mb 169) 121 = .ok (.irem, 1) := by decide +kernel
theorem dc169_122 : decode (pm_mb 169) 122 = .ok (.istore 4, 2) := by decide +kernel
theorem dc169_124 : decode (pm_mb 169) 124 = .ok (.iconst 0, 1) := by decide +kernel
theorem dc169_125 : decode (pm_mb 169) 125 = .ok (.istore 5, 2) := by decide +kernel
theorem dc169_127 : decode (pm_mb 169) 127 = .ok (.iload 5, 2) := by decide +kernel
theorem dc169_129 : decode (pm_mb 169) 129 = .ok (.aload_n 0, 1) := by decide +kernel
theorem dc169_130 : decode (pm_mb 169) 130 = .ok (.getfield 19, 3) := by decide +kernel
theorem dc169_133 : decode (pm_mb 169) 133 = .ok (.iconst 3, 1) := by decide +kernel
theorem dc169_134 : decode (pm_mb 169) 134 = .ok (.iaload, 1) := by decide +kernel
theorem dc169_135 : decode (pm_mb 169) 135 = .ok (.if_icmp .ge 55, 3) := by decide +kernel
theorem dc169_138 : decode (pm_mb 169) 138 = .ok (.iload 5, 2) := by decide +kernel
theorem dc169_140 : decode (pm_mb 169) 140 = .ok (.iload_n 1, 1) := by decide +kernel
theorem dc169_141 : decode (pm_mb 169) 141 = .ok (.if_icmp .eq 43, 3) := by decide +kernel
theorem dc169_144 : decode (pm_mb 169) 144 = .ok (.aload_n 0, 1) := by decide +kernel
theorem dc169_145 : decode (pm_mb 169) 145 = .ok (.getfield 19, 3) := by decide +kernel
theorem dc169_148 : decode (pm_mb 169) 148 = .ok (.bipush 9, 2) := by decide +kernel
theorem dc169_150 : decode (pm_mb 169) 150 = .ok (.bipush 6, 2) := by decide +kernel
theorem dc169_152 : decode (pm_mb 169) 152 = .ok (.iload 5, 2) := by decide +kernel
theorem dc169_154 : decode (pm_mb 169) 154 = .ok (.imul, 1) := by decide +kernel
theorem dc169_155 : decode (pm_mb 169) 155 = .ok (.iadd, 1) := by decide +kernel
theorem dc169_156 : decode (pm_mb 169) 156 = .ok (.iconst 5, 1) := by decide +kernel
theorem dc169_157 : decode (pm_mb 169) 157 = .ok (.iadd, 1) := by decide +kernel
theorem dc169_158 : decode (pm_mb 169) 158 = .ok (.dup2, 1) := by decide +kernel
theorem dc169_159 : decode (pm_mb 169) 159 = .ok (.iaload, 1) := by decide +kernel
theorem dc169_160 : decode (pm_mb 169) 160 = .ok (.aload_n 0, 1) := by decide +kernel
theorem dc169_161 : decode (pm_mb 169) 161 = .ok (.iload_n 1, 1) := by decide +kernel
theorem dc169_162 : decode (pm_mb 169) 162 = .ok (.iconst 3, 1) := by decide +kernel
theorem dc169_163 : decode (pm_mb 169) 163 = .ok (.invokevirtual 187, 3) := by decide +kernel
theorem dc169_166 : decode (pm_mb 169) 166 = .ok (.iload_n 3, 1) := by decide +kernel
theorem dc169_167 : decode (pm_mb 169) 167 = .ok (.idiv, 1) := by decide +kernel
theorem dc169_168 : decode (pm_mb 169) 168 = .ok (.iload 4, 2) := by decide +kernel
theorem dc169_170 : decode (pm_mb 169) 170 = .ok (.ifCond .le 7, 3) := by decide +kernel
theorem dc169_173 : decode (pm_mb 169) 173 = .ok (.iconst 1, 1) := by decide +kernel
theorem dc169_174 : decode (pm_mb 169) 174 = .ok (.goto 4, 3) := by decide +kernel
theorem dc169_177 : decode (pm_mb 169) 177 = .ok (.iconst 0, 1) := by decide +kernel
theorem dc169_178 : decode (pm_mb 169) 178 = .ok (.iadd, 1) := by decide +kernel
theorem dc169_179 : decode (pm_mb 169) 179 = .ok (.iadd, 1) := by decide +kernel
theorem dc169_180 : decode (pm_mb 169) 180 = .ok (.iastore, 1) := by decide +kernel
theorem dc169_181 : decode (pm_mb 169) 181 = .ok (.iinc 4 (-1), 3) := by decide +kernel
theorem dc169_184 : decode (pm_mb 169) 184 = .ok (.iinc 5 1, 3) := by decide +kernel
theorem dc169_187 : decode (pm_mb 169) 187 = .ok (.goto (-60), 3) := by decide +kernel
theorem dc169_190 : decode (pm_mb 169) 190 = .ok (.aload_n 0, 1) := by decide +kernel
theorem dc169_191 : decode (pm_mb 169) 191 = .ok (.iload_n 1, 1) := by decide +kernel
theorem dc169_192 : decode (pm_mb 169) 192 = .ok (.iconst 3, 1) := by decide +kernel
theorem dc169_193 : decode (pm_mb 169) 193 = .ok (.invokevirtual 187, 3) := by decide +kernel
theorem dc169_196 : decode (pm_mb 169) 196 = .ok (.ireturn, 1) := by decide +kernel
theorem b169_0 {X : pm_X} {d : Nat} {x1 : Int32} {x2 : Int32} {g : pm_G} {iv : pm_V} (hL : pm_lay g) : pm_at X d 169 (0, [some (.ref 32), some (.int x1), some (.int x2), none, none, none], [], g, iv) = pm_then X d 169 10 [some (.ref 32), some (.int x1), some (.int x2), none, none, none] [] (pm_c X d 157 [.ref 32, .int x1] g (pm_iw iv 32 0 0)) := by
  refine (at_aload_n dc169_0 rfl).trans ?_
  refine (at_iconst (v := 0) dc169_1 rfl).trans ?_
  refine (at_pfI dc169_2 mc169 lf6_50 po6_0 (ly32 hL)).trans ?_
  refine (at_aload_n dc169_5 rfl).trans ?_
  refine (at_iload_n dc169_6 rfl).trans ?_
  exact at_inv dc169_7 mc169 lm6_184 rfl rfl (Nat.le_of_ble_eq_true rfl) (Or.inl ⟨(ly32 hL), by decide⟩)
theorem b169_10 {X : pm_X} {d : Nat} {x1 : Int32} {x2 : Int32} {s0 : Int32} {g : pm_G} {iv : pm_V}  : pm_at X d 169 (10, [some (.ref 32), some (.int x1), some (.int x2), none, none, none], [.int s0], g, iv) = if s0 = 0 then pm_at X d 169 (31, [some (.ref 32), some (.int x1), some (.int x2), none, none, none], [], g, iv) else pm_at X d 169 (13, [some (.ref 32), some (.int x1), some (.int x2), none, none, none], [], g, iv) := by
  exact at_if_eq (t := 31) dc169_10 (by decide)
theorem b169_13 {X : pm_X} {d : Nat} {x1 : Int32} {x2 : Int32} {g : pm_G} {iv : pm_V} (hL : pm_lay g) : pm_at X d 169 (13, [some (.ref 32), some (.int x1), some (.int x2), none, none, none], [], g, iv) = pm_then X d 169 28 [some (.ref 32), some (.int x1), some (.int x2), none, none, none] [] (pm_c X d 130 [.long (x2 : Int32).toInt64, .long 0, .long (((iv 36 0) - 1) : Int32).toInt64] g iv) := by
  refine (at_iload_n dc169_13 rfl).trans ?_
  refine (at_i2l dc169_14).trans ?_
  refine (at_lconst (v := 0) dc169_15 (by decide)).trans ?_
  refine (at_aload_n dc169_16 rfl).trans ?_
  refine (at_gfR dc169_17 mc169 lf6_19 fo6_5 (ly32 hL) (lr32_5 hL)).trans ?_
  refine (at_iconst (v := 0) dc169_20 rfl).trans ?_
  refine (at_iald dc169_21 (ly36 hL) (vp_in_nI (n := 0) (by decide) (by decide))).trans ?_
  refine (at_iconst (v := 1) dc169_22 rfl).trans ?_
  refine (at_isub dc169_23).trans ?_
  refine (at_i2l dc169_24).trans ?_
  exact at_ins dc169_25 mc169 lm6_60 (Nat.le_of_ble_eq_true rfl) rfl rfl (Nat.le_of_ble_eq_true rfl)
theorem b169_28 {X : pm_X} {d : Nat} {x1 : Int32} {x2 : Int32} {s0 : Int32} {g : pm_G} {iv : pm_V}  : pm_at X d 169 (28, [some (.ref 32), some (.int x1), some (.int x2), none, none, none], [.int s0], g, iv) = if ¬ s0 = 0 then pm_at X d 169 (34, [some (.ref 32), some (.int x1), some (.int x2), none, none, none], [], g, iv) else pm_at X d 169 (31, [some (.ref 32), some (.int x1), some (.int x2), none, none, none], [], g, iv) := by
  exact at_if_ne (t := 34) dc169_28 (by decide)
theorem b169_31 {X : pm_X} {d : Nat} {x1 : Int32} {x2 : Int32} {g : pm_G} {iv : pm_V}  : pm_at X d 169 (31, [some (.ref 32), some (.int x1), some (.int x2), none, none, none], [], g, iv) = some (some (.int (-1000001)), g, iv) := by
  refine (at_ldc dc169_31 mc169 lk6_70).trans ?_
  exact at_iret dc169_33 mr169
theorem b169_34 {X : pm_X} {d : Nat} {x1 : Int32} {x2 : Int32} {g : pm_G} {iv : pm_V} (hL : pm_lay g) : pm_at X d 169 (34, [some (.ref 32), some (.int x1), some (.int x2), none, none, none], [], g, iv) = pm_then X d 169 38 [some (.ref 32), some (.int x1), some (.int x2), none, none, none] [] (pm_c X d 161 [.ref 32] g iv) := by
  refine (at_aload_n dc169_34 rfl).trans ?_
  exact at_inv dc169_35 mc169 lm6_213 rfl rfl (Nat.le_of_ble_eq_true rfl) (Or.inl ⟨(ly32 hL), by decide⟩)
theorem b169_38 {X : pm_X} {d : Nat} {x1 : Int32} {x2 : Int32} {g : pm_G} {iv : pm_V} (hL : pm_lay g) : pm_at X d 169 (38, [some (.ref 32), some (.int x1), some (.int x2), none, none, none], [], g, iv) = pm_then X d 169 44 [some (.ref 32), some (.int x1), some (.int x2), none, none, none] [] (pm_c X d 160 [.ref 32, .int x2, .int 0] g iv) := by
  refine (at_aload_n dc169_38 rfl).trans ?_
  refine (at_iload_n dc169_39 rfl).trans ?_
  refine (at_iconst (v := 0) dc169_40 rfl).trans ?_
  exact at_inv dc169_41 mc169 lm6_190 rfl rfl (Nat.le_of_ble_eq_true rfl) (Or.inl ⟨(ly32 hL), by decide⟩)
theorem b169_44 {X : pm_X} {d : Nat} {x1 : Int32} {x2 : Int32} {s0 : Int32} {g : pm_G} {iv : pm_V}  : pm_at X d 169 (44, [some (.ref 32), some (.int x1), some (.int x2), none, none, none], [.int s0], g, iv) = if ¬ s0 = 0 then pm_at X d 169 (68, [some (.ref 32), some (.int x1), some (.int x2), none, none, none], [], g, iv) else pm_at X d 169 (47, [some (.ref 32), some (.int x1), some (.int x2), none, none, none], [], g, iv) := by
  exact at_if_ne (t := 68) dc169_44 (by decide)
theorem b169_47 {X : pm_X} {d : Nat} {x1 : Int32} {x2 : Int32} {g : pm_G} {iv : pm_V} (hL : pm_lay g) : pm_at X d 169 (47, [some (.ref 32), some (.int x1), some (.int x2), none, none, none], [], g, iv) = pm_then X d 169 53 [some (.ref 32), some (.int x1), some (.int x2), none, none, none] [] (pm_c X d 162 [.ref 32, .int x2, .int 0] g iv) := by
  refine (at_aload_n dc169_47 rfl).trans ?_
  refine (at_iload_n dc169_48 rfl).trans ?_
  refine (at_iconst (v := 0) dc169_49 rfl).trans ?_
  exact at_inv dc169_50 mc169 lm6_193 rfl rfl (Nat.le_of_ble_eq_true rfl) (Or.inl ⟨(ly32 hL), by decide⟩)
theorem b169_53 {X : pm_X} {d : Nat} {x1 : Int32} {x2 : Int32} {s0 : Int32} {g : pm_G} {iv : pm_V}  : pm_at X d 169 (53, [some (.ref 32), some (.int x1), some (.int x2), none, none, none], [.int s0], g, iv) = if ¬ s0 = (-1000000) then pm_at X d 169 (68, [some (.ref 32), some (.int x1), some (.int x2), none, none, none], [], g, iv) else pm_at X d 169 (58, [some (.ref 32), some (.int x1), some (.int x2), none, none, none], [], g, iv) := by
  refine (at_ldc dc169_53 mc169 lk6_86).trans ?_
  exact at_icmp_ne (t := 68) dc169_55 (by decide)
theorem b169_58 {X : pm_X} {d : Nat} {x1 : Int32} {x2 : Int32} {g : pm_G} {iv : pm_V} (hL : pm_lay g) : pm_at X d 169 (58, [some (.ref 32), some (.int x1), some (.int x2), none, none, none], [], g, iv) = if ¬ (iv 36 3) = 1 then pm_at X d 169 (71, [some (.ref 32), some (.int x1), some (.int x2), none, none, none], [], g, iv) else pm_at X d 169 (68, [some (.ref 32), some (.int x1), some (.int x2), none, none, none], [], g, iv) := by
  refine (at_aload_n dc169_58 rfl).trans ?_
  refine (at_gfR dc169_59 mc169 lf6_19 fo6_5 (ly32 hL) (lr32_5 hL)).trans ?_
  refine (at_iconst (v := 3) dc169_62 rfl).trans ?_
  refine (at_iald dc169_63 (ly36 hL) (vp_in_nI (n := 3) (by decide) (by decide))).trans ?_
  refine (at_iconst (v := 1) dc169_64 rfl).trans ?_
  exact at_icmp_ne (t := 71) dc169_65 (by decide)
theorem b169_68 {X : pm_X} {d : Nat} {x1 : Int32} {x2 : Int32} {g : pm_G} {iv : pm_V}  : pm_at X d 169 (68, [some (.ref 32), some (.int x1), some (.int x2), none, none, none], [], g, iv) = some (some (.int (-1000002)), g, iv) := by
  refine (at_ldc dc169_68 mc169 lk6_209).trans ?_
  exact at_iret dc169_70 mr169
theorem b169_71 {X : pm_X} {d : Nat} {x1 : Int32} {x2 : Int32} {g : pm_G} {iv : pm_V} (hL : pm_lay g) : pm_at X d 169 (71, [some (.ref 32), some (.int x1), some (.int x2), none, none, none], [], g, iv) = pm_then X d 169 75 [some (.ref 32), some (.int x1), some (.int x2), none, none, none] [] (pm_c X d 167 [.ref 32] g iv) := by
  refine (at_aload_n dc169_71 rfl).trans ?_
  exact at_inv dc169_72 mc169 lm6_210 rfl rfl (Nat.le_of_ble_eq_true rfl) (Or.inl ⟨(ly32 hL), by decide⟩)
theorem b169_75 {X : pm_X} {d : Nat} {x1 : Int32} {x2 : Int32} {g : pm_G} {iv : pm_V} (hL : pm_lay g) (i1 : vp_in (((9 + (6 * x1)) + 1)) 45) (i2 : vp_in (((9 + (6 * x1)) + 2)) 45) : pm_at X d 169 (75, [some (.ref 32), some (.int x1), some (.int x2), none, none, none], [], g, iv) = pm_then X d 169 120 [some (.ref 32), some (.int x1), some (.int x2), some (.int (((pm_iw (pm_iw iv 36 (((9 + (6 * x1)) + 1) : Int32).toNatClampNeg x2) 36 (((9 + (6 * x1)) + 2) : Int32).toNatClampNeg 0) 36 3) - 1)), none, none] [] (pm_c X d 159 [.ref 32, .int x1, .int 3] g (pm_iw (pm_iw iv 36 (((9 + (6 * x1)) + 1) : Int32).toNatClampNeg x2) 36 (((9 + (6 * x1)) + 2) : Int32).toNatClampNeg 0)) := by
  refine (at_aload_n dc169_75 rfl).trans ?_
  refine (at_gfR dc169_76 mc169 lf6_19 fo6_5 (ly32 hL) (lr32_5 hL)).trans ?_
  refine (at_bipush (v := 9) dc169_79 (by decide)).trans ?_
  refine (at_bipush (v := 6) dc169_81 (by decide)).trans ?_
  refine (at_iload_n dc169_83 rfl).trans ?_
  refine (at_imul dc169_84).trans ?_
  refine (at_iadd dc169_85).trans ?_
  refine (at_iconst (v := 1) dc169_86 rfl).trans ?_
  refine (at_iadd dc169_87).trans ?_
  refine (at_iload_n dc169_88 rfl).trans ?_
  refine (at_iast dc169_89 (ly36 hL) i1).trans ?_
  refine (at_aload_n dc169_90 rfl).trans ?_
  refine (at_gfR dc169_91 mc169 lf6_19 fo6_5 (ly32 hL) (lr32_5 hL)).trans ?_
  refine (at_bipush (v := 9) dc169_94 (by decide)).trans ?_
  refine (at_bipush (v := 6) dc169_96 (by decide)).trans ?_
  refine (at_iload_n dc169_98 rfl).trans ?_
  refine (at_imul dc169_99).trans ?_
  refine (at_iadd dc169_100).trans ?_
  refine (at_iconst (v := 2) dc169_101 rfl).trans ?_
  refine (at_iadd dc169_102).trans ?_
  refine (at_iconst (v := 0) dc169_103 rfl).trans ?_
  refine (at_iast dc169_104 (ly36 hL) i2).trans ?_
  refine (at_aload_n dc169_105 rfl).trans ?_
  refine (at_gfR dc169_106 mc169 lf6_19 fo6_5 (ly32 hL) (lr32_5 hL)).trans ?_
  refine (at_iconst (v := 3) dc169_109 rfl).trans ?_
  refine (at_iald dc169_110 (ly36 hL) (vp_in_nI (n := 3) (by decide) (by decide))).trans ?_
  refine (at_iconst (v := 1) dc169_111 rfl).trans ?_
  refine (at_isub dc169_112).trans ?_
  refine (at_istore_n dc169_113 rfl).trans ?_
  refine (at_aload_n dc169_114 rfl).trans ?_
  refine (at_iload_n dc169_115 rfl).trans ?_
  refine (at_iconst (v := 3) dc169_116 rfl).trans ?_
  exact at_inv dc169_117 mc169 lm6_187 rfl rfl (Nat.le_of_ble_eq_true rfl) (Or.inl ⟨(ly32 hL), by decide⟩)
theorem b169_120 {X : pm_X} {d : Nat} {x1 : Int32} {x2 : Int32} {x3 : Int32} {s0 : Int32} {g : pm_G} {iv : pm_V} (n1 : ¬ (x3 : Int32) = 0) : pm_at X d 169 (120, [some (.ref 32), some (.int x1), some (.int x2), some (.int x3), none, none], [.int s0], g, iv) = pm_at X d 169 (127, [some (.ref 32), some (.int x1), some (.int x2), some (.int x3), some (.int (s0 - s0 / x3 * x3)), some (.int 0)], [], g, iv) := by
  refine (at_iload_n dc169_120 rfl).trans ?_
  refine (at_irem dc169_121 n1).trans ?_
  refine (at_istore dc169_122 rfl).trans ?_
  refine (at_iconst (v := 0) dc169_124 rfl).trans ?_
  refine (at_istore dc169_125 rfl).trans ?_
  rfl
theorem b169_127 {X : pm_X} {d : Nat} {x1 : Int32} {x2 : Int32} {x3 : Int32} {x4 : Int32} {x5 : Int32} {g : pm_G} {iv : pm_V} (hL : pm_lay g) : pm_at X d 169 (127, [some (.ref 32), some (.int x1), some (.int x2), some (.int x3), some (.int x4), some (.int x5)], [], g, iv) = if (iv 36 3) ≤ x5 then pm_at X d 169 (190, [some (.ref 32), some (.int x1), some (.int x2), some (.int x3), some (.int x4), some (.int x5)], [], g, iv) else pm_at X d 169 (138, [some (.ref 32), some (.int x1), some (.int x2), some (.int x3), some (.int x4), some (.int x5)], [], g, iv) := by
  refine (at_iload dc169_127 rfl).trans ?_
  refine (at_aload_n dc169_129 rfl).trans ?_
  refine (at_gfR dc169_130 mc169 lf6_19 fo6_5 (ly32 hL) (lr32_5 hL)).trans ?_
  refine (at_iconst (v := 3) dc169_133 rfl).trans ?_
  refine (at_iald dc169_134 (ly36 hL) (vp_in_nI (n := 3) (by decide) (by decide))).trans ?_
  exact at_icmp_ge (t := 190) dc169_135 (by decide)
theorem b169_138 {X : pm_X} {d : Nat} {x1 : Int32} {x2 : Int32} {x3 : Int32} {x4 : Int32} {x5 : Int32} {g : pm_G} {iv : pm_V}  : pm_at X d 169 (138, [some (.ref 32), some (.int x1), some (.int x2), some (.int x3), some (.int x4), some (.int x5)], [], g, iv) = if x5 = x1 then pm_at X d 169 (184, [some (.ref 32), some (.int x1), some (.int x2), some (.int x3), some (.int x4), some (.int x5)], [], g, iv) else pm_at X d 169 (144, [some (.ref 32), some (.int x1), some (.int x2), some (.int x3), some (.int x4), some (.int x5)], [], g, iv) := by
  refine (at_iload dc169_138 rfl).trans ?_
  refine (at_iload_n dc169_140 rfl).trans ?_
  exact at_icmp_eq (t := 184) dc169_141 (by decide)
theorem b169_144 {X : pm_X} {d : Nat} {x1 : Int32} {x2 : Int32} {x3 : Int32} {x4 : Int32} {x5 : Int32} {g : pm_G} {iv : pm_V} (hL : pm_lay g) (i1 : vp_in (((9 + (6 * x5)) + 5)) 45) : pm_at X d 169 (144, [some (.ref 32), some (.int x1), some (.int x2), some (.int x3), some (.int x4), some (.int x5)], [], g, iv) = pm_then X d 169 166 [some (.ref 32), some (.int x1), some (.int x2), some (.int x3), some (.int x4), some (.int x5)] [.int (iv 36 (((9 + (6 * x5)) + 5) : Int32).toNatClampNeg), .int ((9 + (6 * x5)) + 5), .ref 36] (pm_c X d 159 [.ref 32, .int x1, .int 3] g iv) := by
  refine (at_aload_n dc169_144 rfl).trans ?_
  refine (at_gfR dc169_145 mc169 lf6_19 fo6_5 (ly32 hL) (lr32_5 hL)).trans ?_
  refine (at_bipush (v := 9) dc169_148 (by decide)).trans ?_
  refine (at_bipush (v := 6) dc169_150 (by decide)).trans ?_
  refine (at_iload dc169_152 rfl).trans ?_
  refine (at_imul dc169_154).trans ?_
  refine (at_iadd dc169_155).trans ?_
  refine (at_iconst (v := 5) dc169_156 rfl).trans ?_
  refine (at_iadd dc169_157).trans ?_
  refine (at_dup2 dc169_158 ⟨rfl, rfl⟩).trans ?_
  refine (at_iald dc169_159 (ly36 hL) i1).trans ?_
  refine (at_aload_n dc169_160 rfl).trans ?_
  refine (at_iload_n dc169_161 rfl).trans ?_
  refine (at_iconst (v := 3) dc169_162 rfl).trans ?_
  exact at_inv dc169_163 mc169 lm6_187 rfl rfl (Nat.le_of_ble_eq_true rfl) (Or.inl ⟨(ly32 hL), by decide⟩)
theorem b169_166 {X : pm_X} {d : Nat} {x1 : Int32} {x2 : Int32} {x3 : Int32} {x4 : Int32} {x5 : Int32} {s0 : Int32} {s1 : Int32} {s2 : Int32} {g : pm_G} {iv : pm_V} (n1 : ¬ (x3 : Int32) = 0) : pm_at X d 169 (166, [some (.ref 32), some (.int x1), some (.int x2), some (.int x3), some (.int x4), some (.int x5)], [.int s0, .int s1, .int s2, .ref 36], g, iv) = if x4 ≤ 0 then pm_at X d 169 (177, [some (.ref 32), some (.int x1), some (.int x2), some (.int x3), some (.int x4), some (.int x5)], [.int (s0 / x3), .int s1, .int s2, .ref 36], g, iv) else pm_at X d 169 (173, [some (.ref 32), some (.int x1), some (.int x2), some (.int x3), some (.int x4), some (.int x5)], [.int (s0 / x3), .int s1, .int s2, .ref 36], g, iv) := by
  refine (at_iload_n dc169_166 rfl).trans ?_
  refine (at_idiv dc169_167 n1).trans ?_
  refine (at_iload dc169_168 rfl).trans ?_
  exact at_if_le (t := 177) dc169_170 (by decide)
theorem b169_173 {X : pm_X} {d : Nat} {x1 : Int32} {x2 : Int32} {x3 : Int32} {x4 : Int32} {x5 : Int32} {s0 : Int32} {s1 : Int32} {s2 : Int32} {g : pm_G} {iv : pm_V}  : pm_at X d 169 (173, [some (.ref 32), some (.int x1), some (.int x2), some (.int x3), some (.int x4), some (.int x5)], [.int s0, .int s1, .int s2, .ref 36], g, iv) = pm_at X d 169 (178, [some (.ref 32), some (.int x1), some (.int x2), some (.int x3), some (.int x4), some (.int x5)], [.int 1, .int s0, .int s1, .int s2, .ref 36], g, iv) := by
  refine (at_iconst (v := 1) dc169_173 rfl).trans ?_
  refine (at_goto (t := 178) dc169_174 (by decide)).trans ?_
  rfl
theorem b169_177 {X : pm_X} {d : Nat} {x1 : Int32} {x2 : Int32} {x3 : Int32} {x4 : Int32} {x5 : Int32} {s0 : Int32} {s1 : Int32} {s2 : Int32} {g : pm_G} {iv : pm_V}  : pm_at X d 169 (177, [some (.ref 32), some (.int x1), some (.int x2), some (.int x3), some (.int x4), some (.int x5)], [.int s0, .int s1, .int s2, .ref 36], g, iv) = pm_at X d 169 (178, [some (.ref 32), some (.int x1), some (.int x2), some (.int x3), some (.int x4), some (.int x5)], [.int 0, .int s0, .int s1, .int s2, .ref 36], g, iv) := by
  refine (at_iconst (v := 0) dc169_177 rfl).trans ?_
  rfl
theorem b169_178 {X : pm_X} {d : Nat} {x1 : Int32} {x2 : Int32} {x3 : Int32} {x4 : Int32} {x5 : Int32} {s0 : Int32} {s1 : Int32} {s2 : Int32} {s3 : Int32} {g : pm_G} {iv : pm_V} (hL : pm_lay g) (i1 : vp_in s3 45) : pm_at X d 169 (178, [some (.ref 32), some (.int x1), some (.int x2), some (.int x3), some (.int x4), some (.int x5)], [.int s0, .int s1, .int s2, .int s3, .ref 36], g, iv) = pm_at X d 169 (184, [some (.ref 32), some (.int x1), some (.int x2), some (.int x3), some (.int (x4 + (-1))), some (.int x5)], [], g, (pm_iw iv 36 (s3 : Int32).toNatClampNeg ((s2 + (s1 + s0))))) := by
  refine (at_iadd dc169_178).trans ?_
  refine (at_iadd dc169_179).trans ?_
  refine (at_iast dc169_180 (ly36 hL) i1).trans ?_
  refine (at_iinc (v := (-1)) dc169_181 rfl (by decide) rfl).trans ?_
  rfl
theorem b169_184 {X : pm_X} {d : Nat} {x1 : Int32} {x2 : Int32} {x3 : Int32} {x4 : Int32} {x5 : Int32} {g : pm_G} {iv : pm_V}  : pm_at X d 169 (184, [some (.ref 32), some (.int x1), some (.int x2), some (.int x3), some (.int x4), some (.int x5)], [], g, iv) = pm_at X d 169 (127, [some (.ref 32), some (.int x1), some (.int x2), some (.int x3), some (.int x4), some (.int (x5 + 1))], [], g, iv) := by
  refine (at_iinc (v := 1) dc169_184 rfl (by decide) rfl).trans ?_
  refine (at_goto (t := 127) dc169_187 (by decide)).trans ?_
  rfl
theorem b169_190 {X : pm_X} {d : Nat} {x1 : Int32} {x2 : Int32} {x3 : Int32} {x4 : Int32} {x5 : Int32} {g : pm_G} {iv : pm_V} (hL : pm_lay g) : pm_at X d 169 (190, [some (.ref 32), some (.int x1), some (.int x2), some (.int x3), some (.int x4), some (.int x5)], [], g, iv) = pm_then X d 169 196 [some (.ref 32), some (.int x1), some (.int x2), some (.int x3), some (.int x4), some (.int x5)] [] (pm_c X d 159 [.ref 32, .int x1, .int 3] g iv) := by
  refine (at_aload_n dc169_190 rfl).trans ?_
  refine (at_iload_n dc169_191 rfl).trans ?_
  refine (at_iconst (v := 3) dc169_192 rfl).trans ?_
  exact at_inv dc169_193 mc169 lm6_187 rfl rfl (Nat.le_of_ble_eq_true rfl) (Or.inl ⟨(ly32 hL), by decide⟩)
theorem b169_196 {X : pm_X} {d : Nat} {x1 : Int32} {x2 : Int32} {x3 : Int32} {x4 : Int32} {x5 : Int32} {s0 : Int32} {g : pm_G} {iv : pm_V}  : pm_at X d 169 (196, [some (.ref 32), some (.int x1), some (.int x2), some (.int x3), some (.int x4), some (.int x5)], [.int s0], g, iv) = some (some (.int s0), g, iv) := by
  exact at_iret dc169_196 mr169
-- Mod.becomes (II)I
theorem dc170_0 : decode (pm_mb 170) 0 = .ok (.aload_n 0, 1) := by decide +kernel
theorem dc170_1 : decode (pm_mb 170) 1 = .ok (.invokevirtual 210, 3) := by decide +kernel
theorem dc170_4 : decode (pm_mb 170) 4 = .ok (.aload_n 0, 1) := by decide +kernel
theorem dc170_5 : decode (pm_mb 170) 5 = .ok (.iload_n 1, 1) := by decide +kernel
theorem dc170_6 : decode (pm_mb 170) 6 = .ok (.iconst 4, 1) := by decide +kernel
theorem dc170_7 : decode (pm_mb 170) 7 = .ok (.invokevirtual 187, 3) := by decide +kernel
theorem dc170_10 : decode (pm_mb 170) 10 = .ok (.istore_n 3, 1) := by decide +kernel
theorem dc170_11 : decode (pm_mb 170) 11 = .ok (.aload_n 0, 1) := by decide +kernel
theorem dc170_12 : decode (pm_mb 170) 12 = .ok (.getfield 19, 3) := by decide +kernel
theorem dc170_15 : decode (pm_mb 170) 15 = .ok (.bipush 9, 2) := by decide +kernel
theorem dc170_17 : decode (pm_mb 170) 17 = .ok (.bipush 6, 2) := by decide +kernel
theorem dc170_19 : decode (pm_mb 170) 19 = .ok (.iload_n 1, 1) := by decide +kernel
theorem dc170_20 : decode (pm_mb 170) 20 = .ok (.imul, 1) := by decide +kernel
theorem dc170_21 : decode (pm_mb 170) 21 = .ok (.iadd, 1) := by decide +kernel
theorem dc170_22 : decode (pm_mb 170) 22 = .ok (.iconst 4, 1) := by decide +kernel
theorem dc170_23 : decode (pm_mb 170) 23 = .ok (.iadd, 1) := by decide +kernel
theorem dc170_24 : decode (pm_mb 170) 24 = .ok (.iload_n 2, 1) := by decide +kernel
theorem dc170_25 : decode (pm_mb 170) 25 = .ok (.iastore, 1) := by decide +kernel
theorem dc170_26 : decode (pm_mb 170) 26 = .ok (.iload_n 3, 1) := by decide +kernel
theorem dc170_27 : decode (pm_mb 170) 27 = .ok (.ireturn, 1) := by decide +kernel
theorem b170_0 {X : pm_X} {d : Nat} {x1 : Int32} {x2 : Int32} {g : pm_G} {iv : pm_V} (hL : pm_lay g) : pm_at X d 170 (0, [some (.ref 32), some (.int x1), some (.int x2), none], [], g, iv) = pm_then X d 170 4 [some (.ref 32), some (.int x1), some (.int x2), none] [] (pm_c X d 167 [.ref 32] g iv) := by
  refine (at_aload_n dc170_0 rfl).trans ?_
  exact at_inv dc170_1 mc170 lm6_210 rfl rfl (Nat.le_of_ble_eq_true rfl) (Or.inl ⟨(ly32 hL), by decide⟩)
theorem b170_4 {X : pm_X} {d : Nat} {x1 : Int32} {x2 : Int32} {g : pm_G} {iv : pm_V} (hL : pm_lay g) : pm_at X d 170 (4, [some (.ref 32), some (.int x1), some (.int x2), none], [], g, iv) = pm_then X d 170 10 [some (.ref 32), some (.int x1), some (.int x2), none] [] (pm_c X d 159 [.ref 32, .int x1, .int 4] g iv) := by
  refine (at_aload_n dc170_4 rfl).trans ?_
  refine (at_iload_n dc170_5 rfl).trans ?_
  refine (at_iconst (v := 4) dc170_6 rfl).trans ?_
  exact at_inv dc170_7 mc170 lm6_187 rfl rfl (Nat.le_of_ble_eq_true rfl) (Or.inl ⟨(ly32 hL), by decide⟩)
theorem b170_10 {X : pm_X} {d : Nat} {x1 : Int32} {x2 : Int32} {s0 : Int32} {g : pm_G} {iv : pm_V} (hL : pm_lay g) (i1 : vp_in (((9 + (6 * x1)) + 4)) 45) : pm_at X d 170 (10, [some (.ref 32), some (.int x1), some (.int x2), none], [.int s0], g, iv) = some (some (.int s0), g, (pm_iw iv 36 (((9 + (6 * x1)) + 4) : Int32).toNatClampNeg x2)) := by
  refine (at_istore_n dc170_10 rfl).trans ?_
  refine (at_aload_n dc170_11 rfl).trans ?_
  refine (at_gfR dc170_12 mc170 lf6_19 fo6_5 (ly32 hL) (lr32_5 hL)).trans ?_
  refine (at_bipush (v := 9) dc170_15 (by decide)).trans ?_
  refine (at_bipush (v := 6) dc170_17 (by decide)).trans ?_
  refine (at_iload_n dc170_19 rfl).trans ?_
  refine (at_imul dc170_20).trans ?_
  refine (at_iadd dc170_21).trans ?_
  refine (at_iconst (v := 4) dc170_22 rfl).trans ?_
  refine (at_iadd dc170_23).trans ?_
  refine (at_iload_n dc170_24 rfl).trans ?_
  refine (at_iast dc170_25 (ly36 hL) i1).trans ?_
  refine (at_iload_n dc170_26 rfl).trans ?_
  exact at_iret dc170_27 mr170
-- Mod.chock (II)I
theorem dc171_0 : decode (pm_mb 171) 0 = .ok (.aload_n 0, 1) := by decide +kernel
theorem dc171_1 : decode (pm_mb 171) 1 = .ok (.iconst 0, 1) := by decide +kernel
theorem dc171_2 : decode (pm_mb 171) 2 = .ok (.putfield 50, 3) := by decide +kernel
theorem dc171_5 : decode (pm_mb 171) 5 = .ok (.aload_n 0, 1) := by decide +kernel
theorem dc171_6 : decode (pm_mb 171) 6 = .ok (.iload_n 1, 1) := by decide +kernel
theorem dc171_7 : decode (pm_mb 171) 7 = .ok (.invokevirtual 184, 3) := by decide +kernel
theorem dc171_10 : decode (pm_mb 171) 10 = .ok (.ifCond .eq 22, 3) := by decide +kernel
theorem dc171_13 : decode (pm_mb 171) 13 = .ok (.iload_n 2, 1) := by decide +kernel
theorem dc171_14 : decode (pm_mb 171) 14 = .ok (.i2l, 1) := by decide +kernel
theorem dc171_15 : decode (pm_mb 171) 15 = .ok (.lconst 0, 1) := by decide +kernel
theorem dc171_16 : decode (pm_mb 171) 16 = .ok (.lconst 1, 1) := by decide +kernel
theorem dc171_17 : decode (pm_mb 171) 17 = .ok (.invokestatic 60, 3) := by decide +kernel
theorem dc171_20 : decode (pm_mb 171) 20 = .ok (.ifCond .eq 12, 3) := by decide +kernel
theorem dc171_23 : decode (pm_mb 171) 23 = .ok (.aload_n 0, 1) := by decide +kernel
theorem dc171_24 : decode (pm_mb 171) 24 = .ok (.iload_n 1, 1) := by decide +kernel
theorem dc171_25 : decode (pm_mb 171) 25 = .ok (.iload_n 2, 1) := by decide +kernel
theorem dc171_26 : decode (pm_mb 171) 26 = .ok (.invokevirtual 219, 3) := by decide +kernel
theorem dc171_29 : decode (pm_mb 171) 29 = .ok (.goto 5, 3) := by decide +kernel
theorem dc171_32 : decode (pm_mb 171) 32 = .ok (.ldc 70, 2) := by decide +kernel
theorem dc171_34 : decode (pm_mb 171) 34 = .ok (.ireturn, 1) := by decide +kernel
theorem b171_0 {X : pm_X} {d : Nat} {x1 : Int32} {x2 : Int32} {g : pm_G} {iv : pm_V} (hL : pm_lay g) : pm_at X d 171 (0, [some (.ref 32), some (.int x1), some (.int x2)], [], g, iv) = pm_then X d 171 10 [some (.ref 32), some (.int x1), some (.int x2)] [] (pm_c X d 157 [.ref 32, .int x1] g (pm_iw iv 32 0 0)) := by
  refine (at_aload_n dc171_0 rfl).trans ?_
  refine (at_iconst (v := 0) dc171_1 rfl).trans ?_
  refine (at_pfI dc171_2 mc171 lf6_50 po6_0 (ly32 hL)).trans ?_
  refine (at_aload_n dc171_5 rfl).trans ?_
  refine (at_iload_n dc171_6 rfl).trans ?_
  exact at_inv dc171_7 mc171 lm6_184 rfl rfl (Nat.le_of_ble_eq_true rfl) (Or.inl ⟨(ly32 hL), by decide⟩)
theorem b171_10 {X : pm_X} {d : Nat} {x1 : Int32} {x2 : Int32} {s0 : Int32} {g : pm_G} {iv : pm_V}  : pm_at X d 171 (10, [some (.ref 32), some (.int x1), some (.int x2)], [.int s0], g, iv) = if s0 = 0 then pm_at X d 171 (32, [some (.ref 32), some (.int x1), some (.int x2)], [], g, iv) else pm_at X d 171 (13, [some (.ref 32), some (.int x1), some (.int x2)], [], g, iv) := by
  exact at_if_eq (t := 32) dc171_10 (by decide)
theorem b171_13 {X : pm_X} {d : Nat} {x1 : Int32} {x2 : Int32} {g : pm_G} {iv : pm_V}  : pm_at X d 171 (13, [some (.ref 32), some (.int x1), some (.int x2)], [], g, iv) = pm_then X d 171 20 [some (.ref 32), some (.int x1), some (.int x2)] [] (pm_c X d 130 [.long (x2 : Int32).toInt64, .long 0, .long 1] g iv) := by
  refine (at_iload_n dc171_13 rfl).trans ?_
  refine (at_i2l dc171_14).trans ?_
  refine (at_lconst (v := 0) dc171_15 (by decide)).trans ?_
  refine (at_lconst (v := 1) dc171_16 (by decide)).trans ?_
  exact at_ins dc171_17 mc171 lm6_60 (Nat.le_of_ble_eq_true rfl) rfl rfl (Nat.le_of_ble_eq_true rfl)
theorem b171_20 {X : pm_X} {d : Nat} {x1 : Int32} {x2 : Int32} {s0 : Int32} {g : pm_G} {iv : pm_V}  : pm_at X d 171 (20, [some (.ref 32), some (.int x1), some (.int x2)], [.int s0], g, iv) = if s0 = 0 then pm_at X d 171 (32, [some (.ref 32), some (.int x1), some (.int x2)], [], g, iv) else pm_at X d 171 (23, [some (.ref 32), some (.int x1), some (.int x2)], [], g, iv) := by
  exact at_if_eq (t := 32) dc171_20 (by decide)
theorem b171_23 {X : pm_X} {d : Nat} {x1 : Int32} {x2 : Int32} {g : pm_G} {iv : pm_V} (hL : pm_lay g) : pm_at X d 171 (23, [some (.ref 32), some (.int x1), some (.int x2)], [], g, iv) = pm_then X d 171 29 [some (.ref 32), some (.int x1), some (.int x2)] [] (pm_c X d 170 [.ref 32, .int x1, .int x2] g iv) := by
  refine (at_aload_n dc171_23 rfl).trans ?_
  refine (at_iload_n dc171_24 rfl).trans ?_
  refine (at_iload_n dc171_25 rfl).trans ?_
  exact at_inv dc171_26 mc171 lm6_219 rfl rfl (Nat.le_of_ble_eq_true rfl) (Or.inl ⟨(ly32 hL), by decide⟩)
theorem b171_29 {X : pm_X} {d : Nat} {x1 : Int32} {x2 : Int32} {s0 : Int32} {g : pm_G} {iv : pm_V}  : pm_at X d 171 (29, [some (.ref 32), some (.int x1), some (.int x2)], [.int s0], g, iv) = pm_at X d 171 (34, [some (.ref 32), some (.int x1), some (.int x2)], [.int s0], g, iv) := by
  refine (at_goto (t := 34) dc171_29 (by decide)).trans ?_
  rfl
theorem b171_32 {X : pm_X} {d : Nat} {x1 : Int32} {x2 : Int32} {g : pm_G} {iv : pm_V}  : pm_at X d 171 (32, [some (.ref 32), some (.int x1), some (.int x2)], [], g, iv) = pm_at X d 171 (34, [some (.ref 32), some (.int x1), some (.int x2)], [.int (-1000001)], g, iv) := by
  refine (at_ldc dc171_32 mc171 lk6_70).trans ?_
  rfl
theorem b171_34 {X : pm_X} {d : Nat} {x1 : Int32} {x2 : Int32} {s0 : Int32} {g : pm_G} {iv : pm_V}  : pm_at X d 171 (34, [some (.ref 32), some (.int x1), some (.int x2)], [.int s0], g, iv) = some (some (.int s0), g, iv) := by
  exact at_iret dc171_34 mr171
-- Mod.chocks (III)I
theorem dc172_0 : decode (pm_mb 172) 0 = .ok (.aload_n 0, 1) := by decide +kernel
theorem dc172_1 : decode (pm_mb 172) 1 = .ok (.iconst 0, 1) := by decide +kernel
theorem dc172_2 : decode (pm_mb 172) 2 = .ok (.putfield 50, 3) := by decide +kernel
theorem dc172_5 : decode (pm_mb 172) 5 = .ok (.aload_n 0, 1) := by decide +kernel
theorem dc172_6 : decode (pm_mb 172) 6 = .ok (.invokevirtual 205, 3) := by decide +kernel
theorem dc172_9 : decode (pm_mb 172) 9 = .ok (.ifCond .ne 6, 3) := by decide +kernel
theorem dc172_12 : decode (pm_mb 172) 12 = .ok (.ldc 209, 2) := by decide +kernel
theorem dc172_14 : decode (pm_mb 172) 14 = .ok (.ireturn, 1) := by decide +kernel
theorem dc172_15 : decode (pm_mb 172) 15 = .ok (.iload_n 1, 1) := by decide +kernel
theorem dc172_16 : decode (pm_mb 172) 16 = .ok (.invokestatic 64, 3) := by decide +kernel
theorem dc172_19 : decode (pm_mb 172) 19 = .ok (.ifCond .eq 15, 3) := by decide +kernel
theorem dc172_22 : decode (pm_mb 172) 22 = .ok (.iload_n 3, 1) := by decide +kernel
theorem dc172_23 : decode (pm_mb 172) 23 = .ok (.i2l, 1) := by decide +kernel
theorem dc172_24 : decode (pm_mb 172) 24 = .ok (.lconst 1, 1) := by decide +kernel
theorem dc172_25 : decode (pm_mb 172) 25 = .ok (.ldc2_w 222, 3) := by decide +kernel
theorem dc172_28 : decode (pm_mb 172) 28 = .ok (.invokestatic 60, 3) := by decide +kernel
theorem dc172_31 : decode (pm_mb 172) 31 = .ok (.ifCond .ne 6, 3) := by decide +kernel
theorem dc172_34 : decode (pm_mb 172) 34 = .ok (.ldc 70, 2) := by decide +kernel
theorem dc172_36 : decode (pm_mb 172) 36 = .ok (.ireturn, 1) := by decide +kernel
theorem dc172_37 : decode (pm_mb 172) 37 = .ok (.aload_n 0, 1) := by decide +kernel
theorem dc172_38 : decode (pm_mb 172) 38 = .ok (.getfield 7, 3) := by decide +kernel
theorem dc172_41 : decode (pm_mb 172) 41 = .ok (.iload_n 1, 1) := by decide +kernel
theorem dc172_42 : decode (pm_mb 172) 42 = .ok (.iaload, 1) := by decide +kernel
theorem dc172_43 : decode (pm_mb 172) 43 = .ok (.ifCond .ge 9, 3) := by decide +kernel
theorem dc172_46 : decode (pm_mb 172) 46 = .ok (.aload_n 0, 1) := by decide +kernel
theorem dc172_47 : decode (pm_mb 172) 47 = .ok (.iconst 1, 1) := by decide +kernel
theorem dc172_48 : decode (pm_mb 172) 48 = .ok (.invokevirtual 71, 3) := by decide +kernel
theorem dc172_51 : decode (pm_mb 172) 51 = .ok (.ireturn, 1) := by decide +kernel
theorem dc172_52 : decode (pm_mb 172) 52 = .ok (.iload_n 2, 1) := by decide +kernel
theorem dc172_53 : decode (pm_mb 172) 53 = .ok (.ifCond .lt 19, 3) := by decide +kernel
theorem dc172_56 : decode (pm_mb 172) 56 = .ok (.iload_n 2, 1) := by decide +kernel
theorem dc172_57 : decode (pm_mb 172) 57 = .ok (.i2l, 1) := by decide +kernel
theorem dc172_58 : decode (pm_mb 172) 58 = .ok (.iload_n 3, 1) := by decide +kernel
theorem dc172_59 : decode (pm_mb 172) 59 = .ok (.i2l, 1) := by decide +kernel
theorem dc172_60 : decode (pm_mb 172) 60 = .ok (.ladd, 1) := by decide +kernel
theorem dc172_61 : decode (pm_mb 172) 61 = .ok (.aload_n 0, 1) := by decide +kernel
theorem dc172_62 : decode (pm_mb 172) 62 = .ok (.getfield 13, 3) := by decide +kernel
theorem dc172_65 : decode (pm_mb 172) 65 = .ok (.iload_n 1, 1) := by decide +kernel
theorem dc172_66 : decode (pm_mb 172) 66 = .ok (.iaload, 1) := by decide +kernel
theorem dc172_67 : decode (pm_mb 172) 67 = .ok (.i2l, 1) := by decide +kernel
theorem dc172_68 : decode (pm_mb 172) 68 = .ok (.lcmp, 1) := by decide +kernel
theorem dc172_69 : decode (pm_mb 172) 69 = .ok (.ifCond .le 9, 3) := by decide +kernel
theorem dc172_72 : decode (pm_mb 172) 72 = .ok (.aload_n 0, 1) := by decide +kernel
theorem dc172_73 : decode (pm_mb 172) 73 = .ok (.iconst 2, 1) := by decide +kernel
theorem dc172_74 : decode (pm_mb 172) 74 = .ok (.invokevirtual 71, 3) := by decide +kernel
theorem dc172_77 : decode (pm_mb 172) 77 = .ok (.ireturn, 1) := by decide +kernel
theorem dc172_78 : decode (pm_mb 172) 78 = .ok (.iconst 0, 1) := by decide +kernel
theorem dc172_79 : decode (pm_mb 172) 79 = .ok (.istore 4, 2) := by decide +kernel
theorem dc172_81 : decode (pm_mb 172) 81 = .ok (.iload 4, 2) := by decide +kernel
theorem dc172_83 : decode (pm_mb 172) 83 = .ok (.iload_n 3, 1) := by decide +kernel
theorem dc172_84 : decode (pm_mb 172) 84 = .ok (.if_icmp .ge 33, 3) := by decide +kernel
theorem dc172_87 : decode (pm_mb 172) 87 = .ok (.aload_n 0, 1) := by decide +kernel
theorem dc172_88 : decode (pm_mb 172) 88 = .ok (.aload_n 0, 1) := by decide +kernel
theorem dc172_89 : decode (pm_mb 172) 89 = .ok (.getfield 16, 3) := by decide +kernel
theorem dc172_92 : decode (pm_mb 172) 92 = .ok (.bipush 40, 2) := by decide +kernel
theorem dc172_94 : decode (pm_mb 172) 94 = .ok (.iload_n 1, 1) := by decide +kernel
theorem dc172_95 : decode (pm_mb 172) 95 = .ok (.imul, 1) := by decide +kernel
theorem dc172_96 : decode (pm_mb 172) 96 = .ok (.iload_n 2, 1) := by decide +kernel
theorem dc172_97 : decode (pm_mb 172) 97 = .ok (.iadd, 1) := by decide +kernel
theorem dc172_98 : decode (pm_mb 172) 98 = .ok (.iload 4, 2) := by decide +kernel
theorem dc172_100 : decode (pm_mb 172) 100 = .ok (.iadd, 1) := by decide +kernel
theorem dc172_101 : decode (pm_mb 172) 101 = .ok (.iaload, 1) := by decide +kernel
theorem dc172_102 : decode (pm_mb 172) 102 = .ok (.invokevirtual 184, 3) := by decide +kernel
theorem dc172_105 : decode (pm_mb 172) 105 = .ok (.ifCond .ne 6, 3) := by decide +kernel
theorem dc172_108 : decode (pm_mb 172) 108 = .ok (.ldc 70, 2) := by decide +kernel
theorem dc172_110 : decode (pm_mb 172) 110 = .ok (.ireturn, 1) := by decide +kernel
theorem dc172_111 : decode (pm_mb 172) 111 = .ok (.iinc 4 1, 3) := by decide +kernel
theorem dc172_114 : decode (pm_mb 172) 114 = .ok (.goto (-33), 3) := by decide +kernel
theorem dc172_117 : decode (pm_mb 172) 117 = .ok (.aload_n 0, 1) := by decide +kernel
theorem dc172_118 : decode (pm_mb 172) 118 = .ok (.iconst 0, 1) := by decide +kernel
theorem dc172_119 : decode (pm_mb 172) 119 = .ok (.putfield 54, 3) := by decide +kernel
theorem dc172_122 : decode (pm_mb 172) 122 = .ok (.iconst 0, 1) := by decide +kernel
theorem dc172_123 : decode (pm_mb 172) 123 = .ok (.istore 4, 2) := by decide +kernel
theorem dc172_125 : decode (pm_mb 172) 125 = .ok (.iconst 0, 1) := by decide +kernel
theorem dc172_126 : decode (pm_mb 172) 126 = .ok (.istore 5, 2) := by decide +kernel
theorem dc172_128 : decode (pm_mb 172) 128 = .ok (.iload 5, 2) := by decide +kernel
theorem dc172_130 : decode (pm_mb 172) 130 = .ok (.iload_n 3, 1) := by decide +kernel
theorem dc172_131 : decode (pm_mb 172) 131 = .ok (.if_icmp .ge 35, 3) := by decide +kernel
theorem dc172_134 : decode (pm_mb 172) 134 = .ok (.iload 4, 2) := by decide +kernel
theorem dc172_136 : decode (pm_mb 172) 136 = .ok (.iconst 1, 1) := by decide +kernel
theorem dc172_137 : decode (pm_mb 172) 137 = .ok (.aload_n 0, 1) := by decide +kernel
theorem dc172_138 : decode (pm_mb 172) 138 = .ok (.aload_n 0, 1) := by decide +kernel
theorem dc172_139 : decode (pm_mb 172) 139 = .ok (.getfield 16, 3) := by decide +kernel
theorem dc172_142 : decode (pm_mb 172) 142 = .ok (.bipush 40, 2) := by decide +kernel
theorem dc172_144 : decode (pm_mb 172) 144 = .ok (.iload_n 1, 1) := by decide +kernel
theorem dc172_145 : decode (pm_mb 172) 145 = .ok (.imul, 1) := by decide +kernel
theorem dc172_146 : decode (pm_mb 172) 146 = .ok (.iload_n 2, 1) := by decide +kernel
theorem dc172_147 : decode (pm_mb 172) 147 = .ok (.iadd, 1) := by decide +kernel
theorem dc172_148 : decode (pm_mb 172) 148 = .ok (.iload 5, 2) := by decide +kernel
theorem dc172_150 : decode (pm_mb 172) 150 = .ok (.iadd, 1) := by decide +kernel
theorem dc172_151 : decode (pm_mb 172) 151 = .ok (.iaload, 1) := by decide +kernel
theorem dc172_152 : decode (pm_mb 172) 152 = .ok (.iconst 1, 1) := by decide +kernel
theorem dc172_153 : decode (pm_mb 172) 153 = .ok (.invokevirtual 219, 3) := by decide +kernel
theorem dc172_156 : decode (pm_mb 172) 156 = .ok (.isub, 1) := by decide +kernel
theorem dc172_157 : decode (pm_mb 172) 157 = .ok (.iadd, 1) := by decide +kernel
theorem dc172_158 : decode (pm_mb 172) 158 = .ok (.istore 4, 2) := by decide +kernel
theorem dc172_160 : decode (pm_mb 172) 160 = .ok (.iinc 5 1, 3) := by decide +kernel
theorem dc172_163 : decode (pm_mb 172) 163 = .ok (.goto (-35), 3) := by decide +kernel
theorem dc172_166 : decode (pm_mb 172) 166 = .ok (.iload 4, 2) := by decide +kernel
theorem dc172_168 : decode (pm_mb 172) 168 = .ok (.ireturn, 1) := by decide +kernel
theorem b172_0 {X : pm_X} {d : Nat} {x1 : Int32} {x2 : Int32} {x3 : Int32} {g : pm_G} {iv : pm_V} (hL : pm_lay g) : pm_at X d 172 (0, [some (.ref 32), some (.int x1), some (.int x2), some (.int x3), none, none], [], g, iv) = pm_then X d 172 9 [some (.ref 32), some (.int x1), some (.int x2), some (.int x3), none, none] [] (pm_c X d 156 [.ref 32] g (pm_iw iv 32 0 0)) := by
  refine (at_aload_n dc172_0 rfl).trans ?_
  refine (at_iconst (v := 0) dc172_1 rfl).trans ?_
  refine (at_pfI dc172_2 mc172 lf6_50 po6_0 (ly32 hL)).trans ?_
  refine (at_aload_n dc172_5 rfl).trans ?_
  exact at_inv dc172_6 mc172 lm6_205 rfl rfl (Nat.le_of_ble_eq_true rfl) (Or.inl ⟨(ly32 hL), by decide⟩)
theorem b172_9 {X : pm_X} {d : Nat} {x1 : Int32} {x2 : Int32} {x3 : Int32} {s0 : Int32} {g : pm_G} {iv : pm_V}  : pm_at X d 172 (9, [some (.ref 32), some (.int x1), some (.int x2), some (.int x3), none, none], [.int s0], g, iv) = if ¬ s0 = 0 then pm_at X d 172 (15, [some (.ref 32), some (.int x1), some (.int x2), some (.int x3), none, none], [], g, iv) else pm_at X d 172 (12, [some (.ref 32), some (.int x1), some (.int x2), some (.int x3), none, none], [], g, iv) := by
  exact at_if_ne (t := 15) dc172_9 (by decide)
theorem b172_12 {X : pm_X} {d : Nat} {x1 : Int32} {x2 : Int32} {x3 : Int32} {g : pm_G} {iv : pm_V}  : pm_at X d 172 (12, [some (.ref 32), some (.int x1), some (.int x2), some (.int x3), none, none], [], g, iv) = some (some (.int (-1000002)), g, iv) := by
  refine (at_ldc dc172_12 mc172 lk6_209).trans ?_
  exact at_iret dc172_14 mr172
theorem b172_15 {X : pm_X} {d : Nat} {x1 : Int32} {x2 : Int32} {x3 : Int32} {g : pm_G} {iv : pm_V}  : pm_at X d 172 (15, [some (.ref 32), some (.int x1), some (.int x2), some (.int x3), none, none], [], g, iv) = pm_then X d 172 19 [some (.ref 32), some (.int x1), some (.int x2), some (.int x3), none, none] [] (pm_c X d 132 [.int x1] g iv) := by
  refine (at_iload_n dc172_15 rfl).trans ?_
  exact at_ins dc172_16 mc172 lm6_64 (Nat.le_of_ble_eq_true rfl) rfl rfl (Nat.le_of_ble_eq_true rfl)
theorem b172_19 {X : pm_X} {d : Nat} {x1 : Int32} {x2 : Int32} {x3 : Int32} {s0 : Int32} {g : pm_G} {iv : pm_V}  : pm_at X d 172 (19, [some (.ref 32), some (.int x1), some (.int x2), some (.int x3), none, none], [.int s0], g, iv) = if s0 = 0 then pm_at X d 172 (34, [some (.ref 32), some (.int x1), some (.int x2), some (.int x3), none, none], [], g, iv) else pm_at X d 172 (22, [some (.ref 32), some (.int x1), some (.int x2), some (.int x3), none, none], [], g, iv) := by
  exact at_if_eq (t := 34) dc172_19 (by decide)
theorem b172_22 {X : pm_X} {d : Nat} {x1 : Int32} {x2 : Int32} {x3 : Int32} {g : pm_G} {iv : pm_V}  : pm_at X d 172 (22, [some (.ref 32), some (.int x1), some (.int x2), some (.int x3), none, none], [], g, iv) = pm_then X d 172 31 [some (.ref 32), some (.int x1), some (.int x2), some (.int x3), none, none] [] (pm_c X d 130 [.long (x3 : Int32).toInt64, .long 1, .long 6] g iv) := by
  refine (at_iload_n dc172_22 rfl).trans ?_
  refine (at_i2l dc172_23).trans ?_
  refine (at_lconst (v := 1) dc172_24 (by decide)).trans ?_
  refine (at_ldc2 dc172_25 mc172 ll6_222).trans ?_
  exact at_ins dc172_28 mc172 lm6_60 (Nat.le_of_ble_eq_true rfl) rfl rfl (Nat.le_of_ble_eq_true rfl)
theorem b172_31 {X : pm_X} {d : Nat} {x1 : Int32} {x2 : Int32} {x3 : Int32} {s0 : Int32} {g : pm_G} {iv : pm_V}  : pm_at X d 172 (31, [some (.ref 32), some (.int x1), some (.int x2), some (.int x3), none, none], [.int s0], g, iv) = if ¬ s0 = 0 then pm_at X d 172 (37, [some (.ref 32), some (.int x1), some (.int x2), some (.int x3), none, none], [], g, iv) else pm_at X d 172 (34, [some (.ref 32), some (.int x1), some (.int x2), some (.int x3), none, none], [], g, iv) := by
  exact at_if_ne (t := 37) dc172_31 (by decide)
theorem b172_34 {X : pm_X} {d : Nat} {x1 : Int32} {x2 : Int32} {x3 : Int32} {g : pm_G} {iv : pm_V}  : pm_at X d 172 (34, [some (.ref 32), some (.int x1), some (.int x2), some (.int x3), none, none], [], g, iv) = some (some (.int (-1000001)), g, iv) := by
  refine (at_ldc dc172_34 mc172 lk6_70).trans ?_
  exact at_iret dc172_36 mr172
theorem b172_37 {X : pm_X} {d : Nat} {x1 : Int32} {x2 : Int32} {x3 : Int32} {g : pm_G} {iv : pm_V} (hL : pm_lay g) (i1 : vp_in x1 8) : pm_at X d 172 (37, [some (.ref 32), some (.int x1), some (.int x2), some (.int x3), none, none], [], g, iv) = if 0 ≤ (iv 33 (x1 : Int32).toNatClampNeg) then pm_at X d 172 (52, [some (.ref 32), some (.int x1), some (.int x2), some (.int x3), none, none], [], g, iv) else pm_at X d 172 (46, [some (.ref 32), some (.int x1), some (.int x2), some (.int x3), none, none], [], g, iv) := by
  refine (at_aload_n dc172_37 rfl).trans ?_
  refine (at_gfR dc172_38 mc172 lf6_7 fo6_2 (ly32 hL) (lr32_2 hL)).trans ?_
  refine (at_iload_n dc172_41 rfl).trans ?_
  refine (at_iald dc172_42 (ly33 hL) i1).trans ?_
  exact at_if_ge (t := 52) dc172_43 (by decide)
theorem b172_46 {X : pm_X} {d : Nat} {x1 : Int32} {x2 : Int32} {x3 : Int32} {g : pm_G} {iv : pm_V} (hL : pm_lay g) : pm_at X d 172 (46, [some (.ref 32), some (.int x1), some (.int x2), some (.int x3), none, none], [], g, iv) = pm_then X d 172 51 [some (.ref 32), some (.int x1), some (.int x2), some (.int x3), none, none] [] (pm_c X d 131 [.ref 32, .int 1] g iv) := by
  refine (at_aload_n dc172_46 rfl).trans ?_
  refine (at_iconst (v := 1) dc172_47 rfl).trans ?_
  exact at_inv dc172_48 mc172 lm6_71 rfl rfl (Nat.le_of_ble_eq_true rfl) (Or.inl ⟨(ly32 hL), by decide⟩)
theorem b172_51 {X : pm_X} {d : Nat} {x1 : Int32} {x2 : Int32} {x3 : Int32} {s0 : Int32} {g : pm_G} {iv : pm_V}  : pm_at X d 172 (51, [some (.ref 32), some (.int x1), some (.int x2), some (.int x3), none, none], [.int s0], g, iv) = some (some (.int s0), g, iv) := by
  exact at_iret dc172_51 mr172
theorem b172_52 {X : pm_X} {d : Nat} {x1 : Int32} {x2 : Int32} {x3 : Int32} {g : pm_G} {iv : pm_V}  : pm_at X d 172 (52, [some (.ref 32), some (.int x1), some (.int x2), some (.int x3), none, none], [], g, iv) = if x2 < 0 then pm_at X d 172 (72, [some (.ref 32), some (.int x1), some (.int x2), some (.int x3), none, none], [], g, iv) else pm_at X d 172 (56, [some (.ref 32), some (.int x1), some (.int x2), some (.int x3), none, none], [], g, iv) := by
  refine (at_iload_n dc172_52 rfl).trans ?_
  exact at_if_lt (t := 72) dc172_53 (by decide)
theorem b172_56 {X : pm_X} {d : Nat} {x1 : Int32} {x2 : Int32} {x3 : Int32} {g : pm_G} {iv : pm_V} (hL : pm_lay g) (i1 : vp_in x1 8) : pm_at X d 172 (56, [some (.ref 32), some (.int x1), some (.int x2), some (.int x3), none, none], [], g, iv) = if (lg_cmp (((x2 : Int32).toInt64 + (x3 : Int32).toInt64)) (((iv 34 (x1 : Int32).toNatClampNeg) : Int32).toInt64)) ≤ 0 then pm_at X d 172 (78, [some (.ref 32), some (.int x1), some (.int x2), some (.int x3), none, none], [], g, iv) else pm_at X d 172 (72, [some (.ref 32), some (.int x1), some (.int x2), some (.int x3), none, none], [], g, iv) := by
  refine (at_iload_n dc172_56 rfl).trans ?_
  refine (at_i2l dc172_57).trans ?_
  refine (at_iload_n dc172_58 rfl).trans ?_
  refine (at_i2l dc172_59).trans ?_
  refine (at_ladd dc172_60).trans ?_
  refine (at_aload_n dc172_61 rfl).trans ?_
  refine (at_gfR dc172_62 mc172 lf6_13 fo6_3 (ly32 hL) (lr32_3 hL)).trans ?_
  refine (at_iload_n dc172_65 rfl).trans ?_
  refine (at_iald dc172_66 (ly34 hL) i1).trans ?_
  refine (at_i2l dc172_67).trans ?_
  refine (at_lcmp dc172_68).trans ?_
  exact at_if_le (t := 78) dc172_69 (by decide)
theorem b172_72 {X : pm_X} {d : Nat} {x1 : Int32} {x2 : Int32} {x3 : Int32} {g : pm_G} {iv : pm_V} (hL : pm_lay g) : pm_at X d 172 (72, [some (.ref 32), some (.int x1), some (.int x2), some (.int x3), none, none], [], g, iv) = pm_then X d 172 77 [some (.ref 32), some (.int x1), some (.int x2), some (.int x3), none, none] [] (pm_c X d 131 [.ref 32, .int 2] g iv) := by
  refine (at_aload_n dc172_72 rfl).trans ?_
  refine (at_iconst (v := 2) dc172_73 rfl).trans ?_
  exact at_inv dc172_74 mc172 lm6_71 rfl rfl (Nat.le_of_ble_eq_true rfl) (Or.inl ⟨(ly32 hL), by decide⟩)
theorem b172_77 {X : pm_X} {d : Nat} {x1 : Int32} {x2 : Int32} {x3 : Int32} {s0 : Int32} {g : pm_G} {iv : pm_V}  : pm_at X d 172 (77, [some (.ref 32), some (.int x1), some (.int x2), some (.int x3), none, none], [.int s0], g, iv) = some (some (.int s0), g, iv) := by
  exact at_iret dc172_77 mr172
theorem b172_78 {X : pm_X} {d : Nat} {x1 : Int32} {x2 : Int32} {x3 : Int32} {g : pm_G} {iv : pm_V}  : pm_at X d 172 (78, [some (.ref 32), some (.int x1), some (.int x2), some (.int x3), none, none], [], g, iv) = pm_at X d 172 (81, [some (.ref 32), some (.int x1), some (.int x2), some (.int x3), some (.int 0), none], [], g, iv) := by
  refine (at_iconst (v := 0) dc172_78 rfl).trans ?_
  refine (at_istore dc172_79 rfl).trans ?_
  rfl
theorem b172_81 {X : pm_X} {d : Nat} {x1 : Int32} {x2 : Int32} {x3 : Int32} {x4 : Int32} {g : pm_G} {iv : pm_V}  : pm_at X d 172 (81, [some (.ref 32), some (.int x1), some (.int x2), some (.int x3), some (.int x4), none], [], g, iv) = if x3 ≤ x4 then pm_at X d 172 (117, [some (.ref 32), some (.int x1), some (.int x2), some (.int x3), some (.int x4), none], [], g, iv) else pm_at X d 172 (87, [some (.ref 32), some (.int x1), some (.int x2), some (.int x3), some (.int x4), none], [], g, iv) := by
  refine (at_iload dc172_81 rfl).trans ?_
  refine (at_iload_n dc172_83 rfl).trans ?_
  exact at_icmp_ge (t := 117) dc172_84 (by decide)
theorem b172_87 {X : pm_X} {d : Nat} {x1 : Int32} {x2 : Int32} {x3 : Int32} {x4 : Int32} {g : pm_G} {iv : pm_V} (hL : pm_lay g) (i1 : vp_in ((((40 * x1) + x2) + x4)) 320) : pm_at X d 172 (87, [some (.ref 32), some (.int x1), some (.int x2), some (.int x3), some (.int x4), none], [], g, iv) = pm_then X d 172 105 [some (.ref 32), some (.int x1), some (.int x2), some (.int x3), some (.int x4), none] [] (pm_c X d 157 [.ref 32, .int (iv 35 ((((40 * x1) + x2) + x4) : Int32).toNatClampNeg)] g iv) := by
  refine (at_aload_n dc172_87 rfl).trans ?_
  refine (at_aload_n dc172_88 rfl).trans ?_
  refine (at_gfR dc172_89 mc172 lf6_16 fo6_4 (ly32 hL) (lr32_4 hL)).trans ?_
  refine (at_bipush (v := 40) dc172_92 (by decide)).trans ?_
  refine (at_iload_n dc172_94 rfl).trans ?_
  refine (at_imul dc172_95).trans ?_
  refine (at_iload_n dc172_96 rfl).trans ?_
  refine (at_iadd dc172_97).trans ?_
  refine (at_iload dc172_98 rfl).trans ?_
  refine (at_iadd dc172_100).trans ?_
  refine (at_iald dc172_101 (ly35 hL) i1).trans ?_
  exact at_inv dc172_102 mc172 lm6_184 rfl rfl (Nat.le_of_ble_eq_true rfl) (Or.inl ⟨(ly32 hL), by decide⟩)
theorem b172_105 {X : pm_X} {d : Nat} {x1 : Int32} {x2 : Int32} {x3 : Int32} {x4 : Int32} {s0 : Int32} {g : pm_G} {iv : pm_V}  : pm_at X d 172 (105, [some (.ref 32), some (.int x1), some (.int x2), some (.int x3), some (.int x4), none], [.int s0], g, iv) = if ¬ s0 = 0 then pm_at X d 172 (111, [some (.ref 32), some (.int x1), some (.int x2), some (.int x3), some (.int x4), none], [], g, iv) else pm_at X d 172 (108, [some (.ref 32), some (.int x1), some (.int x2), some (.int x3), some (.int x4), none], [], g, iv) := by
  exact at_if_ne (t := 111) dc172_105 (by decide)
theorem b172_108 {X : pm_X} {d : Nat} {x1 : Int32} {x2 : Int32} {x3 : Int32} {x4 : Int32} {g : pm_G} {iv : pm_V}  : pm_at X d 172 (108, [some (.ref 32), some (.int x1), some (.int x2), some (.int x3), some (.int x4), none], [], g, iv) = some (some (.int (-1000001)), g, iv) := by
  refine (at_ldc dc172_108 mc172 lk6_70).trans ?_
  exact at_iret dc172_110 mr172
theorem b172_111 {X : pm_X} {d : Nat} {x1 : Int32} {x2 : Int32} {x3 : Int32} {x4 : Int32} {g : pm_G} {iv : pm_V}  : pm_at X d 172 (111, [some (.ref 32), some (.int x1), some (.int x2), some (.int x3), some (.int x4), none], [], g, iv) = pm_at X d 172 (81, [some (.ref 32), some (.int x1), some (.int x2), some (.int x3), some (.int (x4 + 1)), none], [], g, iv) := by
  refine (at_iinc (v := 1) dc172_111 rfl (by decide) rfl).trans ?_
  refine (at_goto (t := 81) dc172_114 (by decide)).trans ?_
  rfl
theorem b172_117 {X : pm_X} {d : Nat} {x1 : Int32} {x2 : Int32} {x3 : Int32} {x4 : Int32} {g : pm_G} {iv : pm_V} (hL : pm_lay g) : pm_at X d 172 (117, [some (.ref 32), some (.int x1), some (.int x2), some (.int x3), some (.int x4), none], [], g, iv) = pm_at X d 172 (128, [some (.ref 32), some (.int x1), some (.int x2), some (.int x3), some (.int 0), some (.int 0)], [], g, (pm_iw iv 32 1 0)) := by
  refine (at_aload_n dc172_117 rfl).trans ?_
  refine (at_iconst (v := 0) dc172_118 rfl).trans ?_
  refine (at_pfI dc172_119 mc172 lf6_54 po6_1 (ly32 hL)).trans ?_
  refine (at_iconst (v := 0) dc172_122 rfl).trans ?_
  refine (at_istore dc172_123 rfl).trans ?_
  refine (at_iconst (v := 0) dc172_125 rfl).trans ?_
  refine (at_istore dc172_126 rfl).trans ?_
  rfl
theorem b172_128 {X : pm_X} {d : Nat} {x1 : Int32} {x2 : Int32} {x3 : Int32} {x4 : Int32} {x5 : Int32} {g : pm_G} {iv : pm_V}  : pm_at X d 172 (128, [some (.ref 32), some (.int x1), some (.int x2), some (.int x3), some (.int x4), some (.int x5)], [], g, iv) = if x3 ≤ x5 then pm_at X d 172 (166, [some (.ref 32), some (.int x1), some (.int x2), some (.int x3), some (.int x4), some (.int x5)], [], g, iv) else pm_at X d 172 (134, [some (.ref 32), some (.int x1), some (.int x2), some (.int x3), some (.int x4), some (.int x5)], [], g, iv) := by
  refine (at_iload dc172_128 rfl).trans ?_
  refine (at_iload_n dc172_130 rfl).trans ?_
  exact at_icmp_ge (t := 166) dc172_131 (by decide)
theorem b172_134 {X : pm_X} {d : Nat} {x1 : Int32} {x2 : Int32} {x3 : Int32} {x4 : Int32} {x5 : Int32} {g : pm_G} {iv : pm_V} (hL : pm_lay g) (i1 : vp_in ((((40 * x1) + x2) + x5)) 320) : pm_at X d 172 (134, [some (.ref 32), some (.int x1), some (.int x2), some (.int x3), some (.int x4), some (.int x5)], [], g, iv) = pm_then X d 172 156 [some (.ref 32), some (.int x1), some (.int x2), some (.int x3), some (.int x4), some (.int x5)] [.int 1, .int x4] (pm_c X d 170 [.ref 32, .int (iv 35 ((((40 * x1) + x2) + x5) : Int32).toNatClampNeg), .int 1] g iv) := by
  refine (at_iload dc172_134 rfl).trans ?_
  refine (at_iconst (v := 1) dc172_136 rfl).trans ?_
  refine (at_aload_n dc172_137 rfl).trans ?_
  refine (at_aload_n dc172_138 rfl).trans ?_
  refine (at_gfR dc172_139 mc172 lf6_16 fo6_4 (ly32 hL) (lr32_4 hL)).trans ?_
  refine (at_bipush (v := 40) dc172_142 (by decide)).trans ?_
  refine (at_iload_n dc172_144 rfl).trans ?_
  refine (at_imul dc172_145).trans ?_
  refine (at_iload_n dc172_146 rfl).trans ?_
  refine (at_iadd dc172_147).trans ?_
  refine (at_iload dc172_148 rfl).trans ?_
  refine (at_iadd dc172_150).trans ?_
  refine (at_iald dc172_151 (ly35 hL) i1).trans ?_
  refine (at_iconst (v := 1) dc172_152 rfl).trans ?_
  exact at_inv dc172_153 mc172 lm6_219 rfl rfl (Nat.le_of_ble_eq_true rfl) (Or.inl ⟨(ly32 hL), by decide⟩)
theorem b172_156 {X : pm_X} {d : Nat} {x1 : Int32} {x2 : Int32} {x3 : Int32} {x4 : Int32} {x5 : Int32} {s0 : Int32} {s1 : Int32} {s2 : Int32} {g : pm_G} {iv : pm_V}  : pm_at X d 172 (156, [some (.ref 32), some (.int x1), some (.int x2), some (.int x3), some (.int x4), some (.int x5)], [.int s0, .int s1, .int s2], g, iv) = pm_at X d 172 (128, [some (.ref 32), some (.int x1), some (.int x2), some (.int x3), some (.int (s2 + (s1 - s0))), some (.int (x5 + 1))], [], g, iv) := by
  refine (at_isub dc172_156).trans ?_
  refine (at_iadd dc172_157).trans ?_
  refine (at_istore dc172_158 rfl).trans ?_
  refine (at_iinc (v := 1) dc172_160 rfl (by decide) rfl).trans ?_
  refine (at_goto (t := 128) dc172_163 (by decide)).trans ?_
  rfl
theorem b172_166 {X : pm_X} {d : Nat} {x1 : Int32} {x2 : Int32} {x3 : Int32} {x4 : Int32} {x5 : Int32} {g : pm_G} {iv : pm_V}  : pm_at X d 172 (166, [some (.ref 32), some (.int x1), some (.int x2), some (.int x3), some (.int x4), some (.int x5)], [], g, iv) = some (some (.int x4), g, iv) := by
  refine (at_iload dc172_166 rfl).trans ?_
  exact at_iret dc172_168 mr172
-- Mod.undo ()I
theorem dc173_0 : decode (pm_mb 173) 0 = .ok (.aload_n 0, 1) := by decide +kernel
theorem dc173_1 : decode (pm_mb 173) 1 = .ok (.iconst 0, 1) := by decide +kernel
theorem dc173_2 : decode (pm_mb 173) 2 = .ok (.putfield 50, 3) := by decide +kernel
theorem dc173_5 : decode (pm_mb 173) 5 = .ok (.aload_n 0, 1) := by decide +kernel
theorem dc173_6 : decode (pm_mb 173) 6 = .ok (.getfield 181, 3) := by decide +kernel
theorem dc173_9 : decode (pm_mb 173) 9 = .ok (.ifCond .ne 6, 3) := by decide +kernel
theorem dc173_12 : decode (pm_mb 173) 12 = .ok (.ldc 209, 2) := by decide +kernel
theorem dc173_14 : decode (pm_mb 173) 14 = .ok (.ireturn, 1) := by decide +kernel
theorem dc173_15 : decode (pm_mb 173) 15 = .ok (.aload_n 0, 1) := by decide +kernel
theorem dc173_16 : decode (pm_mb 173) 16 = .ok (.dup, 1) := by decide +kernel
theorem dc173_17 : decode (pm_mb 173) 17 = .ok (.getfield 181, 3) := by decide +kernel
theorem dc173_20 : decode (pm_mb 173) 20 = .ok (.iconst 1, 1) := by decide +kernel
theorem dc173_21 : decode (pm_mb 173) 21 = .ok (.isub, 1) := by decide +kernel
theorem dc173_22 : decode (pm_mb 173) 22 = .ok (.putfield 181, 3) := by decide +kernel
theorem dc173_25 : decode (pm_mb 173) 25 = .ok (.iconst 0, 1) := by decide +kernel
theorem dc173_26 : decode (pm_mb 173) 26 = .ok (.istore_n 1, 1) := by decide +kernel
theorem dc173_27 : decode (pm_mb 173) 27 = .ok (.iload_n 1, 1) := by decide +kernel
theorem dc173_28 : decode (pm_mb 173) 28 = .ok (.bipush 45, 2) := by decide +kernel
theorem dc173_30 : decode (pm_mb 173) 30 = .ok (.if_icmp .ge 29, 3) := by decide +kernel
theorem dc173_33 : decode (pm_mb 173) 33 = .ok (.aload_n 0, 1) := by decide +kernel
theorem dc173_34 : decode (pm_mb 173) 34 = .ok (.getfield 19, 3) := by decide +kernel
theorem dc173_37 : decode (pm_mb 173) 37 = .ok (.iload_n 1, 1) := by decide +kernel
theorem dc173_38 : decode (pm_mb 173) 38 = .ok (.aload_n 0, 1) := by decide +kernel
theorem dc173_39 : decode (pm_mb 173) 39 = .ok (.getfield 25, 3) := by decide +kernel
theorem dc173_42 : decode (pm_mb 173) 42 = .ok (.bipush 45, 2) := by decide +kernel
theorem dc173_44 : decode (pm_mb 173) 44 = .ok (.aload_n 0, 1) := by decide +kernel
theorem dc173_45 : decode (pm_mb 173) 45 = .ok (.getfield 181, 3) := by decide +kernel
theorem dc173_48 : decode (pm_mb 173) 48 = .ok (.imul, 1) := by decide +kernel
theorem dc173_49 : decode (pm_mb 173) 49 = .ok (.iload_n 1, 1) := by decide +kernel
theorem dc173_50 : decode (pm_mb 173) 50 = .ok (.iadd, 1) := by decide +kernel
theorem dc173_51 : decode (pm_mb 173) 51 = .ok (.iaload, 1) := by decide +kernel
theorem dc173_52 : decode (pm_mb 173) 52 = .ok (.iastore, 1) := by decide +kernel
theorem dc173_53 : decode (pm_mb 173) 53 = .ok (.iinc 1 1, 3) := by decide +kernel
theorem dc173_56 : decode (pm_mb 173) 56 = .ok (.goto (-29), 3) := by decide +kernel
theorem dc173_59 : decode (pm_mb 173) 59 = .ok (.aload_n 0, 1) := by decide +kernel
theorem dc173_60 : decode (pm_mb 173) 60 = .ok (.getfield 181, 3) := by decide +kernel
theorem dc173_63 : decode (pm_mb 173) 63 = .ok (.ireturn, 1) := by decide +kernel
theorem b173_0 {X : pm_X} {d : Nat} {g : pm_G} {iv : pm_V} (hL : pm_lay g) : pm_at X d 173 (0, [some (.ref 32), none], [], g, iv) = if ¬ ((pm_iw iv 32 0 0) 32 8) = 0 then pm_at X d 173 (15, [some (.ref 32), none], [], g, (pm_iw iv 32 0 0)) else pm_at X d 173 (12, [some (.ref 32), none], [], g, (pm_iw iv 32 0 0)) := by
  refine (at_aload_n dc173_0 rfl).trans ?_
  refine (at_iconst (v := 0) dc173_1 rfl).trans ?_
  refine (at_pfI dc173_2 mc173 lf6_50 po6_0 (ly32 hL)).trans ?_
  refine (at_aload_n dc173_5 rfl).trans ?_
  refine (at_gfI dc173_6 mc173 lf6_181 fo6_8 (ly32 hL)).trans ?_
  exact at_if_ne (t := 15) dc173_9 (by decide)
theorem b173_12 {X : pm_X} {d : Nat} {g : pm_G} {iv : pm_V}  : pm_at X d 173 (12, [some (.ref 32), none], [], g, iv) = some (some (.int (-1000002)), g, iv) := by
  refine (at_ldc dc173_12 mc173 lk6_209).trans ?_
  exact at_iret dc173_14 mr173
theorem b173_15 {X : pm_X} {d : Nat} {g : pm_G} {iv : pm_V} (hL : pm_lay g) : pm_at X d 173 (15, [some (.ref 32), none], [], g, iv) = pm_at X d 173 (27, [some (.ref 32), some (.int 0)], [], g, (pm_iw iv 32 8 (((iv 32 8) - 1)))) := by
  refine (at_aload_n dc173_15 rfl).trans ?_
  refine (at_dup dc173_16 rfl).trans ?_
  refine (at_gfI dc173_17 mc173 lf6_181 fo6_8 (ly32 hL)).trans ?_
  refine (at_iconst (v := 1) dc173_20 rfl).trans ?_
  refine (at_isub dc173_21).trans ?_
  refine (at_pfI dc173_22 mc173 lf6_181 po6_8 (ly32 hL)).trans ?_
  refine (at_iconst (v := 0) dc173_25 rfl).trans ?_
  refine (at_istore_n dc173_26 rfl).trans ?_
  rfl
theorem b173_27 {X : pm_X} {d : Nat} {x1 : Int32} {g : pm_G} {iv : pm_V}  : pm_at X d 173 (27, [some (.ref 32), some (.int x1)], [], g, iv) = if 45 ≤ x1 then pm_at X d 173 (59, [some (.ref 32), some (.int x1)], [], g, iv) else pm_at X d 173 (33, [some (.ref 32), some (.int x1)], [], g, iv) := by
  refine (at_iload_n dc173_27 rfl).trans ?_
  refine (at_bipush (v := 45) dc173_28 (by decide)).trans ?_
  exact at_icmp_ge (t := 59) dc173_30 (by decide)
theorem b173_33 {X : pm_X} {d : Nat} {x1 : Int32} {g : pm_G} {iv : pm_V} (hL : pm_lay g) (i1 : vp_in (((45 * (iv 32 8)) + x1)) 1080) (i2 : vp_in x1 45) : pm_at X d 173 (33, [some (.ref 32), some (.int x1)], [], g, iv) = pm_at X d 173 (27, [some (.ref 32), some (.int (x1 + 1))], [], g, (pm_iw iv 36 (x1 : Int32).toNatClampNeg ((iv 38 (((45 * (iv 32 8)) + x1) : Int32).toNatClampNeg)))) := by
  refine (at_aload_n dc173_33 rfl).trans ?_
  refine (at_gfR dc173_34 mc173 lf6_19 fo6_5 (ly32 hL) (lr32_5 hL)).trans ?_
  refine (at_iload_n dc173_37 rfl).trans ?_
  refine (at_aload_n dc173_38 rfl).trans ?_
  refine (at_gfR dc173_39 mc173 lf6_25 fo6_7 (ly32 hL) (lr32_7 hL)).trans ?_
  refine (at_bipush (v := 45) dc173_42 (by decide)).trans ?_
  refine (at_aload_n dc173_44 rfl).trans ?_
  refine (at_gfI dc173_45 mc173 lf6_181 fo6_8 (ly32 hL)).trans ?_
  refine (at_imul dc173_48).trans ?_
  refine (at_iload_n dc173_49 rfl).trans ?_
  refine (at_iadd dc173_50).trans ?_
  refine (at_iald dc173_51 (ly38 hL) i1).trans ?_
  refine (at_iast dc173_52 (ly36 hL) i2).trans ?_
  refine (at_iinc (v := 1) dc173_53 rfl (by decide) rfl).trans ?_
  refine (at_goto (t := 27) dc173_56 (by decide)).trans ?_
  rfl
theorem b173_59 {X : pm_X} {d : Nat} {x1 : Int32} {g : pm_G} {iv : pm_V} (hL : pm_lay g) : pm_at X d 173 (59, [some (.ref 32), some (.int x1)], [], g, iv) = some (some (.int (iv 32 8)), g, iv) := by
  refine (at_aload_n dc173_59 rfl).trans ?_
  refine (at_gfI dc173_60 mc173 lf6_181 fo6_8 (ly32 hL)).trans ?_
  exact at_iret dc173_63 mr173
-- Mod.viewOf (I)I
theorem dc174_0 : decode (pm_mb 174) 0 = .ok (.aload_n 0, 1) := by decide +kernel
theorem dc174_1 : decode (pm_mb 174) 1 = .ok (.invokevirtual 213, 3) := by decide +kernel
theorem dc174_4 : decode (pm_mb 174) 4 = .ok (.iconst 0, 1) := by decide +kernel
theorem dc174_5 : decode (pm_mb 174) 5 = .ok (.istore_n 2, 1) := by decide +kernel
theorem dc174_6 : decode (pm_mb 174) 6 = .ok (.aload_n 0, 1) := by decide +kernel
theorem dc174_7 : decode (pm_mb 174) 7 = .ok (.iload_n 1, 1) := by decide +kernel
theorem dc174_8 : decode (pm_mb 174) 8 = .ok (.iconst 2, 1) := by decide +kernel
theorem dc174_9 : decode (pm_mb 174) 9 = .ok (.invokevirtual 187, 3) := by decide +kernel
theorem dc174_12 : decode (pm_mb 174) 12 = .ok (.iconst 1, 1) := by decide +kernel
theorem dc174_13 : decode (pm_mb 174) 13 = .ok (.iadd, 1) := by decide +kernel
theorem dc174_14 : decode (pm_mb 174) 14 = .ok (.istore_n 3, 1) := by decide +kernel
theorem dc174_15 : decode (pm_mb 174) 15 = .ok (.iload_n 3, 1) := by decide +kernel
theorem dc174_16 : decode (pm_mb 174) 16 = .ok (.aload_n 0, 1) := by decide +kernel
theorem dc174_17 : decode (pm_mb 174) 17 = .ok (.getfield 19, 3) := by decide +kernel
theorem dc174_20 : decode (pm_mb 174) 20 = .ok (.iconst 1, 1) := by decide +kernel
theorem dc174_21 : decode (pm_mb 174) 21 = .ok (.iaload, 1) := by decide +kernel
theorem dc174_22 : decode (pm_mb 174) 22 = .ok (.if_icmp .ge 42, 3) := by decide +kernel
theorem dc174_25 : decode (pm_mb 174) 25 = .ok (.aload_n 0, 1) := by decide +kernel
theorem dc174_26 : decode (pm_mb 174) 26 = .ok (.aload_n 0, 1) := by decide +kernel
theorem dc174_27 : decode (pm_mb 174) 27 = .ok (.iload_n 1, 1) := by decide +kernel
theorem dc174_28 : decode (pm_mb 174) 28 = .ok (.iconst 1, 1) := by decide +kernel
theorem dc174_29 : decode (pm_mb 174) 29 = .ok (.invokevirtual 187, 3) := by decide +kernel
theorem dc174_32 : decode (pm_mb 174) 32 = .ok (.iload_n 3, 1) := by decide +kernel
theorem dc174_33 : decode (pm_mb 174) 33 = .ok (.invokevirtual 190, 3) := by decide +kernel
theorem dc174_36 : decode (pm_mb 174) 36 = .ok (.ifCond .ne 28, 3) := by decide +kernel
theorem dc174_39 : decode (pm_mb 174) 39 = .ok (.aload_n 0, 1) := by decide +kernel
theorem dc174_40 : decode (pm_mb 174) 40 = .ok (.aload_n 0, 1) := by decide +kernel
theorem dc174_41 : decode (pm_mb 174) 41 = .ok (.iload_n 1, 1) := by decide +kernel
theorem dc174_42 : decode (pm_mb 174) 42 = .ok (.iconst 1, 1) := by decide +kernel
theorem dc174_43 : decode (pm_mb 174) 43 = .ok (.invokevirtual 187, 3) := by decide +kernel
theorem dc174_46 : decode (pm_mb 174) 46 = .ok (.iload_n 3, 1) := by decide +kernel
theorem dc174_47 : decode (pm_mb 174) 47 = .ok (.invokevirtual 193, 3) := by decide +kernel
theorem dc174_50 : decode (pm_mb 174) 50 = .ok (.ldc 86, 2) := by decide +kernel
theorem dc174_52 : decode (pm_mb 174) 52 = .ok (.if_icmp .ne 12, 3) := by decide +kernel
theorem dc174_55 : decode (pm_mb 174) 55 = .ok (.iinc 3 1, 3) := by decide +kernel
theorem dc174_58 : decode (pm_mb 174) 58 = .ok (.iinc 2 1, 3) := by decide +kernel
theorem dc174_61 : decode (pm_mb 174) 61 = .ok (.goto (-46), 3) := by decide +kernel
theorem dc174_64 : decode (pm_mb 174) 64 = .ok (.iload_n 2, 1) := by decide +kernel
theorem dc174_65 : decode (pm_mb 174) 65 = .ok (.ireturn, 1) := by decide +kernel
theorem b174_0 {X : pm_X} {d : Nat} {x1 : Int32} {g : pm_G} {iv : pm_V} (hL : pm_lay g) : pm_at X d 174 (0, [some (.ref 32), some (.int x1), none, none], [], g, iv) = pm_then X d 174 4 [some (.ref 32), some (.int x1), none, none] [] (pm_c X d 161 [.ref 32] g iv) := by
  refine (at_aload_n dc174_0 rfl).trans ?_
  exact at_inv dc174_1 mc174 lm6_213 rfl rfl (Nat.le_of_ble_eq_true rfl) (Or.inl ⟨(ly32 hL), by decide⟩)
theorem b174_4 {X : pm_X} {d : Nat} {x1 : Int32} {g : pm_G} {iv : pm_V} (hL : pm_lay g) : pm_at X d 174 (4, [some (.ref 32), some (.int x1), none, none], [], g, iv) = pm_then X d 174 12 [some (.ref 32), some (.int x1), some (.int 0), none] [] (pm_c X d 159 [.ref 32, .int x1, .int 2] g iv) := by
  refine (at_iconst (v := 0) dc174_4 rfl).trans ?_
  refine (at_istore_n dc174_5 rfl).trans ?_
  refine (at_aload_n dc174_6 rfl).trans ?_
  refine (at_iload_n dc174_7 rfl).trans ?_
  refine (at_iconst (v := 2) dc174_8 rfl).trans ?_
  exact at_inv dc174_9 mc174 lm6_187 rfl rfl (Nat.le_of_ble_eq_true rfl) (Or.inl ⟨(ly32 hL), by decide⟩)
theorem b174_12 {X : pm_X} {d : Nat} {x1 : Int32} {x2 : Int32} {s0 : Int32} {g : pm_G} {iv : pm_V}  : pm_at X d 174 (12, [some (.ref 32), some (.int x1), some (.int x2), none], [.int s0], g, iv) = pm_at X d 174 (15, [some (.ref 32), some (.int x1), some (.int x2), some (.int (s0 + 1))], [], g, iv) := by
  refine (at_iconst (v := 1) dc174_12 rfl).trans ?_
  refine (at_iadd dc174_13).trans ?_
  refine (at_istore_n dc174_14 rfl).trans ?_
  rfl
theorem b174_15 {X : pm_X} {d : Nat} {x1 : Int32} {x2 : Int32} {x3 : Int32} {g : pm_G} {iv : pm_V} (hL : pm_lay g) : pm_at X d 174 (15, [some (.ref 32), some (.int x1), some (.int x2), some (.int x3)], [], g, iv) = if (iv 36 1) ≤ x3 then pm_at X d 174 (64, [some (.ref 32), some (.int x1), some (.int x2), some (.int x3)], [], g, iv) else pm_at X d 174 (25, [some (.ref 32), some (.int x1), some (.int x2), some (.int x3)], [], g, iv) := by
  refine (at_iload_n dc174_15 rfl).trans ?_
  refine (at_aload_n dc174_16 rfl).trans ?_
  refine (at_gfR dc174_17 mc174 lf6_19 fo6_5 (ly32 hL) (lr32_5 hL)).trans ?_
  refine (at_iconst (v := 1) dc174_20 rfl).trans ?_
  refine (at_iald dc174_21 (ly36 hL) (vp_in_nI (n := 1) (by decide) (by decide))).trans ?_
  exact at_icmp_ge (t := 64) dc174_22 (by decide)
theorem b174_25 {X : pm_X} {d : Nat} {x1 : Int32} {x2 : Int32} {x3 : Int32} {g : pm_G} {iv : pm_V} (hL : pm_lay g) : pm_at X d 174 (25, [some (.ref 32), some (.int x1), some (.int x2), some (.int x3)], [], g, iv) = pm_then X d 174 32 [some (.ref 32), some (.int x1), some (.int x2), some (.int x3)] [.ref 32] (pm_c X d 159 [.ref 32, .int x1, .int 1] g iv) := by
  refine (at_aload_n dc174_25 rfl).trans ?_
  refine (at_aload_n dc174_26 rfl).trans ?_
  refine (at_iload_n dc174_27 rfl).trans ?_
  refine (at_iconst (v := 1) dc174_28 rfl).trans ?_
  exact at_inv dc174_29 mc174 lm6_187 rfl rfl (Nat.le_of_ble_eq_true rfl) (Or.inl ⟨(ly32 hL), by decide⟩)
theorem b174_32 {X : pm_X} {d : Nat} {x1 : Int32} {x2 : Int32} {x3 : Int32} {s0 : Int32} {g : pm_G} {iv : pm_V} (hL : pm_lay g) : pm_at X d 174 (32, [some (.ref 32), some (.int x1), some (.int x2), some (.int x3)], [.int s0, .ref 32], g, iv) = pm_then X d 174 36 [some (.ref 32), some (.int x1), some (.int x2), some (.int x3)] [] (pm_c X d 160 [.ref 32, .int s0, .int x3] g iv) := by
  refine (at_iload_n dc174_32 rfl).trans ?_
  exact at_inv dc174_33 mc174 lm6_190 rfl rfl (Nat.le_of_ble_eq_true rfl) (Or.inl ⟨(ly32 hL), by decide⟩)
theorem b174_36 {X : pm_X} {d : Nat} {x1 : Int32} {x2 : Int32} {x3 : Int32} {s0 : Int32} {g : pm_G} {iv : pm_V}  : pm_at X d 174 (36, [some (.ref 32), some (.int x1), some (.int x2), some (.int x3)], [.int s0], g, iv) = if ¬ s0 = 0 then pm_at X d 174 (64, [some (.ref 32), some (.int x1), some (.int x2), some (.int x3)], [], g, iv) else pm_at X d 174 (39, [some (.ref 32), some (.int x1), some (.int x2), some (.int x3)], [], g, iv) := by
  exact at_if_ne (t := 64) dc174_36 (by decide)
theorem b174_39 {X : pm_X} {d : Nat} {x1 : Int32} {x2 : Int32} {x3 : Int32} {g : pm_G} {iv : pm_V} (hL : pm_lay g) : pm_at X d 174 (39, [some (.ref 32), some (.int x1), some (.int x2), some (.int x3)], [], g, iv) = pm_then X d 174 46 [some (.ref 32), some (.int x1), some (.int x2), some (.int x3)] [.ref 32] (pm_c X d 159 [.ref 32, .int x1, .int 1] g iv) := by
  refine (at_aload_n dc174_39 rfl).trans ?_
  refine (at_aload_n dc174_40 rfl).trans ?_
  refine (at_iload_n dc174_41 rfl).trans ?_
  refine (at_iconst (v := 1) dc174_42 rfl).trans ?_
  exact at_inv dc174_43 mc174 lm6_187 rfl rfl (Nat.le_of_ble_eq_true rfl) (Or.inl ⟨(ly32 hL), by decide⟩)
theorem b174_46 {X : pm_X} {d : Nat} {x1 : Int32} {x2 : Int32} {x3 : Int32} {s0 : Int32} {g : pm_G} {iv : pm_V} (hL : pm_lay g) : pm_at X d 174 (46, [some (.ref 32), some (.int x1), some (.int x2), some (.int x3)], [.int s0, .ref 32], g, iv) = pm_then X d 174 50 [some (.ref 32), some (.int x1), some (.int x2), some (.int x3)] [] (pm_c X d 162 [.ref 32, .int s0, .int x3] g iv) := by
  refine (at_iload_n dc174_46 rfl).trans ?_
  exact at_inv dc174_47 mc174 lm6_193 rfl rfl (Nat.le_of_ble_eq_true rfl) (Or.inl ⟨(ly32 hL), by decide⟩)
theorem b174_50 {X : pm_X} {d : Nat} {x1 : Int32} {x2 : Int32} {x3 : Int32} {s0 : Int32} {g : pm_G} {iv : pm_V}  : pm_at X d 174 (50, [some (.ref 32), some (.int x1), some (.int x2), some (.int x3)], [.int s0], g, iv) = if ¬ s0 = (-1000000) then pm_at X d 174 (64, [some (.ref 32), some (.int x1), some (.int x2), some (.int x3)], [], g, iv) else pm_at X d 174 (55, [some (.ref 32), some (.int x1), some (.int x2), some (.int x3)], [], g, iv) := by
  refine (at_ldc dc174_50 mc174 lk6_86).trans ?_
  exact at_icmp_ne (t := 64) dc174_52 (by decide)
theorem b174_55 {X : pm_X} {d : Nat} {x1 : Int32} {x2 : Int32} {x3 : Int32} {g : pm_G} {iv : pm_V}  : pm_at X d 174 (55, [some (.ref 32), some (.int x1), some (.int x2), some (.int x3)], [], g, iv) = pm_at X d 174 (15, [some (.ref 32), some (.int x1), some (.int (x2 + 1)), some (.int (x3 + 1))], [], g, iv) := by
  refine (at_iinc (v := 1) dc174_55 rfl (by decide) rfl).trans ?_
  refine (at_iinc (v := 1) dc174_58 rfl (by decide) rfl).trans ?_
  refine (at_goto (t := 15) dc174_61 (by decide)).trans ?_
  rfl
theorem b174_64 {X : pm_X} {d : Nat} {x1 : Int32} {x2 : Int32} {x3 : Int32} {g : pm_G} {iv : pm_V}  : pm_at X d 174 (64, [some (.ref 32), some (.int x1), some (.int x2), some (.int x3)], [], g, iv) = some (some (.int x2), g, iv) := by
  refine (at_iload_n dc174_64 rfl).trans ?_
  exact at_iret dc174_65 mr174
-- Mod.house (II)I
theorem dc175_0 : decode (pm_mb 175) 0 = .ok (.aload_n 0, 1) := by decide +kernel
theorem dc175_1 : decode (pm_mb 175) 1 = .ok (.iconst 0, 1) := by decide +kernel
theorem dc175_2 : decode (pm_mb 175) 2 = .ok (.putfield 50, 3) := by decide +kernel
theorem dc175_5 : decode (pm_mb 175) 5 = .ok (.aload_n 0, 1) := by decide +kernel
theorem dc175_6 : decode (pm_mb 175) 6 = .ok (.iload_n 1, 1) := by decide +kernel
theorem dc175_7 : decode (pm_mb 175) 7 = .ok (.invokevirtual 184, 3) := by decide +kernel
theorem dc175_10 : decode (pm_mb 175) 10 = .ok (.ifCond .eq 15, 3) := by decide +kernel
theorem dc175_13 : decode (pm_mb 175) 13 = .ok (.iload_n 2, 1) := by decide +kernel
theorem dc175_14 : decode (pm_mb 175) 14 = .ok (.i2l, 1) := by decide +kernel
theorem dc175_15 : decode (pm_mb 175) 15 = .ok (.lconst 0, 1) := by decide +kernel
theorem dc175_16 : decode (pm_mb 175) 16 = .ok (.ldc2_w 224, 3) := by decide +kernel
theorem dc175_19 : decode (pm_mb 175) 19 = .ok (.invokestatic 60, 3) := by decide +kernel
theorem dc175_22 : decode (pm_mb 175) 22 = .ok (.ifCond .ne 6, 3) := by decide +kernel
theorem dc175_25 : decode (pm_mb 175) 25 = .ok (.ldc 70, 2) := by decide +kernel
theorem dc175_27 : decode (pm_mb 175) 27 = .ok (.ireturn, 1) := by decide +kernel
theorem dc175_28 : decode (pm_mb 175) 28 = .ok (.iload_n 2, 1) := by decide +kernel
theorem dc175_29 : decode (pm_mb 175) 29 = .ok (.iconst 5, 1) := by decide +kernel
theorem dc175_30 : decode (pm_mb 175) 30 = .ok (.if_icmp .ne 11, 3) := by decide +kernel
theorem dc175_33 : decode (pm_mb 175) 33 = .ok (.aload_n 0, 1) := by decide +kernel
theorem dc175_34 : decode (pm_mb 175) 34 = .ok (.iload_n 1, 1) := by decide +kernel
theorem dc175_35 : decode (pm_mb 175) 35 = .ok (.invokevirtual 226, 3) := by decide +kernel
theorem dc175_38 : decode (pm_mb 175) 38 = .ok (.goto 11, 3) := by decide +kernel
theorem dc175_41 : decode (pm_mb 175) 41 = .ok (.aload_n 0, 1) := by decide +kernel
theorem dc175_42 : decode (pm_mb 175) 42 = .ok (.iload_n 1, 1) := by decide +kernel
theorem dc175_43 : decode (pm_mb 175) 43 = .ok (.iconst 1, 1) := by decide +kernel
theorem dc175_44 : decode (pm_mb 175) 44 = .ok (.iload_n 2, 1) := by decide +kernel
theorem dc175_45 : decode (pm_mb 175) 45 = .ok (.iadd, 1) := by decide +kernel
theorem dc175_46 : decode (pm_mb 175) 46 = .ok (.invokevirtual 187, 3) := by decide +kernel
theorem dc175_49 : decode (pm_mb 175) 49 = .ok (.ireturn, 1) := by decide +kernel
theorem b175_0 {X : pm_X} {d : Nat} {x1 : Int32} {x2 : Int32} {g : pm_G} {iv : pm_V} (hL : pm_lay g) : pm_at X d 175 (0, [some (.ref 32), some (.int x1), some (.int x2)], [], g, iv) = pm_then X d 175 10 [some (.ref 32), some (.int x1), some (.int x2)] [] (pm_c X d 157 [.ref 32, .int x1] g (pm_iw iv 32 0 0)) := by
  refine (at_aload_n dc175_0 rfl).trans ?_
  refine (at_iconst (v := 0) dc175_1 rfl).trans ?_
  refine (at_pfI dc175_2 mc175 lf6_50 po6_0 (ly32 hL)).trans ?_
  refine (at_aload_n dc175_5 rfl).trans ?_
  refine (at_iload_n dc175_6 rfl).trans ?_
  exact at_inv dc175_7 mc175 lm6_184 rfl rfl (Nat.le_of_ble_eq_true rfl) (Or.inl ⟨(ly32 hL), by decide⟩)
theorem b175_10 {X : pm_X} {d : Nat} {x1 : Int32} {x2 : Int32} {s0 : Int32} {g : pm_G} {iv : pm_V}  : pm_at X d 175 (10, [some (.ref 32), some (.int x1), some (.int x2)], [.int s0], g, iv) = if s0 = 0 then pm_at X d 175 (25, [some (.ref 32), some (.int x1), some (.int x2)], [], g, iv) else pm_at X d 175 (13, [some (.ref 32), some (.int x1), some (.int x2)], [], g, iv) := by
  exact at_if_eq (t := 25) dc175_10 (by decide)
theorem b175_13 {X : pm_X} {d : Nat} {x1 : Int32} {x2 : Int32} {g : pm_G} {iv : pm_V}  : pm_at X d 175 (13, [some (.ref 32), some (.int x1), some (.int x2)], [], g, iv) = pm_then X d 175 22 [some (.ref 32), some (.int x1), some (.int x2)] [] (pm_c X d 130 [.long (x2 : Int32).toInt64, .long 0, .long 5] g iv) := by
  refine (at_iload_n dc175_13 rfl).trans ?_
  refine (at_i2l dc175_14).trans ?_
  refine (at_lconst (v := 0) dc175_15 (by decide)).trans ?_
  refine (at_ldc2 dc175_16 mc175 ll6_224).trans ?_
  exact at_ins dc175_19 mc175 lm6_60 (Nat.le_of_ble_eq_true rfl) rfl rfl (Nat.le_of_ble_eq_true rfl)
theorem b175_22 {X : pm_X} {d : Nat} {x1 : Int32} {x2 : Int32} {s0 : Int32} {g : pm_G} {iv : pm_V}  : pm_at X d 175 (22, [some (.ref 32), some (.int x1), some (.int x2)], [.int s0], g, iv) = if ¬ s0 = 0 then pm_at X d 175 (28, [some (.ref 32), some (.int x1), some (.int x2)], [], g, iv) else pm_at X d 175 (25, [some (.ref 32), some (.int x1), some (.int x2)], [], g, iv) := by
  exact at_if_ne (t := 28) dc175_22 (by decide)
theorem b175_25 {X : pm_X} {d : Nat} {x1 : Int32} {x2 : Int32} {g : pm_G} {iv : pm_V}  : pm_at X d 175 (25, [some (.ref 32), some (.int x1), some (.int x2)], [], g, iv) = some (some (.int (-1000001)), g, iv) := by
  refine (at_ldc dc175_25 mc175 lk6_70).trans ?_
  exact at_iret dc175_27 mr175
theorem b175_28 {X : pm_X} {d : Nat} {x1 : Int32} {x2 : Int32} {g : pm_G} {iv : pm_V}  : pm_at X d 175 (28, [some (.ref 32), some (.int x1), some (.int x2)], [], g, iv) = if ¬ x2 = 5 then pm_at X d 175 (41, [some (.ref 32), some (.int x1), some (.int x2)], [], g, iv) else pm_at X d 175 (33, [some (.ref 32), some (.int x1), some (.int x2)], [], g, iv) := by
  refine (at_iload_n dc175_28 rfl).trans ?_
  refine (at_iconst (v := 5) dc175_29 rfl).trans ?_
  exact at_icmp_ne (t := 41) dc175_30 (by decide)
theorem b175_33 {X : pm_X} {d : Nat} {x1 : Int32} {x2 : Int32} {g : pm_G} {iv : pm_V} (hL : pm_lay g) : pm_at X d 175 (33, [some (.ref 32), some (.int x1), some (.int x2)], [], g, iv) = pm_then X d 175 38 [some (.ref 32), some (.int x1), some (.int x2)] [] (pm_c X d 174 [.ref 32, .int x1] g iv) := by
  refine (at_aload_n dc175_33 rfl).trans ?_
  refine (at_iload_n dc175_34 rfl).trans ?_
  exact at_inv dc175_35 mc175 lm6_226 rfl rfl (Nat.le_of_ble_eq_true rfl) (Or.inl ⟨(ly32 hL), by decide⟩)
theorem b175_38 {X : pm_X} {d : Nat} {x1 : Int32} {x2 : Int32} {s0 : Int32} {g : pm_G} {iv : pm_V}  : pm_at X d 175 (38, [some (.ref 32), some (.int x1), some (.int x2)], [.int s0], g, iv) = pm_at X d 175 (49, [some (.ref 32), some (.int x1), some (.int x2)], [.int s0], g, iv) := by
  refine (at_goto (t := 49) dc175_38 (by decide)).trans ?_
  rfl
theorem b175_41 {X : pm_X} {d : Nat} {x1 : Int32} {x2 : Int32} {g : pm_G} {iv : pm_V} (hL : pm_lay g) : pm_at X d 175 (41, [some (.ref 32), some (.int x1), some (.int x2)], [], g, iv) = pm_then X d 175 49 [some (.ref 32), some (.int x1), some (.int x2)] [] (pm_c X d 159 [.ref 32, .int x1, .int (1 + x2)] g iv) := by
  refine (at_aload_n dc175_41 rfl).trans ?_
  refine (at_iload_n dc175_42 rfl).trans ?_
  refine (at_iconst (v := 1) dc175_43 rfl).trans ?_
  refine (at_iload_n dc175_44 rfl).trans ?_
  refine (at_iadd dc175_45).trans ?_
  exact at_inv dc175_46 mc175 lm6_187 rfl rfl (Nat.le_of_ble_eq_true rfl) (Or.inl ⟨(ly32 hL), by decide⟩)
theorem b175_49 {X : pm_X} {d : Nat} {x1 : Int32} {x2 : Int32} {s0 : Int32} {g : pm_G} {iv : pm_V}  : pm_at X d 175 (49, [some (.ref 32), some (.int x1), some (.int x2)], [.int s0], g, iv) = some (some (.int s0), g, iv) := by
  exact at_iret dc175_49 mr175
-- Mod.yard (II)I
theorem dc176_0 : decode (pm_mb 176) 0 = .ok (.aload_n 0, 1) := by decide +kernel
theorem dc176_1 : decode (pm_mb 176) 1 = .ok (.iconst 0, 1) := by decide +kernel
theorem dc176_2 : decode (pm_mb 176) 2 = .ok (.putfield 50, 3) := by decide +kernel
theorem dc176_5 : decode (pm_mb 176) 5 = .ok (.iload_n 1, 1) := by decide +kernel
theorem dc176_6 : decode (pm_mb 176) 6 = .ok (.i2l, 1) := by decide +kernel
theorem dc176_7 : decode (pm_mb 176) 7 = .ok (.lconst 0, 1) := by decide +kernel
theorem dc176_8 : decode (pm_mb 176) 8 = .ok (.aload_n 0, 1) := by decide +kernel
theorem dc176_9 : decode (pm_mb 176) 9 = .ok (.getfield 19, 3) := by decide +kernel
theorem dc176_12 : decode (pm_mb 176) 12 = .ok (.iconst 0, 1) := by decide +kernel
theorem dc176_13 : decode (pm_mb 176) 13 = .ok (.iaload, 1) := by decide +kernel
theorem dc176_14 : decode (pm_mb 176) 14 = .ok (.iconst 1, 1) := by decide +kernel
theorem dc176_15 : decode (pm_mb 176) 15 = .ok (.isub, 1) := by decide +kernel
theorem dc176_16 : decode (pm_mb 176) 16 = .ok (.i2l, 1) := by decide +kernel
theorem dc176_17 : decode (pm_mb 176) 17 = .ok (.invokestatic 60, 3) := by decide +kernel
theorem dc176_20 : decode (pm_mb 176) 20 = .ok (.ifCond .eq 21, 3) := by decide +kernel
theorem dc176_23 : decode (pm_mb 176) 23 = .ok (.iload_n 2, 1) := by decide +kernel
theorem dc176_24 : decode (pm_mb 176) 24 = .ok (.i2l, 1) := by decide +kernel
theorem dc176_25 : decode (pm_mb 176) 25 = .ok (.lconst 0, 1) := by decide +kernel
theorem dc176_26 : decode (pm_mb 176) 26 = .ok (.aload_n 0, 1) := by decide +kernel
theorem dc176_27 : decode (pm_mb 176) 27 = .ok (.getfield 19, 3) := by decide +kernel
theorem dc176_30 : decode (pm_mb 176) 30 = .ok (.iconst 1, 1) := by decide +kernel
theorem dc176_31 : decode (pm_mb 176) 31 = .ok (.iaload, 1) := by decide +kernel
theorem dc176_32 : decode (pm_mb 176) 32 = .ok (.iconst 1, 1) := by decide +kernel
theorem dc176_33 : decode (pm_mb 176) 33 = .ok (.isub, 1) := by decide +kernel
theorem dc176_34 : decode (pm_mb 176) 34 = .ok (.i2l, 1) := by decide +kernel
theorem dc176_35 : decode (pm_mb 176) 35 = .ok (.invokestatic 60, 3) := by decide +kernel
theorem dc176_38 : decode (pm_mb 176) 38 = .ok (.ifCond .ne 6, 3) := by decide +kernel
theorem dc176_41 : decode (pm_mb 176) 41 = .ok (.ldc 70, 2) := by decide +kernel
theorem dc176_43 : decode (pm_mb 176) 43 = .ok (.ireturn, 1) := by decide +kernel
theorem dc176_44 : decode (pm_mb 176) 44 = .ok (.aload_n 0, 1) := by decide +kernel
theorem dc176_45 : decode (pm_mb 176) 45 = .ok (.invokevirtual 213, 3) := by decide +kernel
theorem dc176_48 : decode (pm_mb 176) 48 = .ok (.aload_n 0, 1) := by decide +kernel
theorem dc176_49 : decode (pm_mb 176) 49 = .ok (.iload_n 1, 1) := by decide +kernel
theorem dc176_50 : decode (pm_mb 176) 50 = .ok (.iload_n 2, 1) := by decide +kernel
theorem dc176_51 : decode (pm_mb 176) 51 = .ok (.invokevirtual 193, 3) := by decide +kernel
theorem dc176_54 : decode (pm_mb 176) 54 = .ok (.istore_n 3, 1) := by decide +kernel
theorem dc176_55 : decode (pm_mb 176) 55 = .ok (.iload_n 3, 1) := by decide +kernel
theorem dc176_56 : decode (pm_mb 176) 56 = .ok (.ldc 86, 2) := by decide +kernel
theorem dc176_58 : decode (pm_mb 176) 58 = .ok (.if_icmp .eq 7, 3) := by decide +kernel
theorem dc176_61 : decode (pm_mb 176) 61 = .ok (.iload_n 3, 1) := by decide +kernel
theorem dc176_62 : decode (pm_mb 176) 62 = .ok (.goto 18, 3) := by decide +kernel
theorem dc176_65 : decode (pm_mb 176) 65 = .ok (.aload_n 0, 1) := by decide +kernel
theorem dc176_66 : decode (pm_mb 176) 66 = .ok (.iload_n 1, 1) := by decide +kernel
theorem dc176_67 : decode (pm_mb 176) 67 = .ok (.iload_n 2, 1) := by decide +kernel
theorem dc176_68 : decode (pm_mb 176) 68 = .ok (.invokevirtual 190, 3) := by decide +kernel
theorem dc176_71 : decode (pm_mb 176) 71 = .ok (.ifCond .eq 7, 3) := by decide +kernel
theorem dc176_74 : decode (pm_mb 176) 74 = .ok (.iconst (-1), 1) := by decide +kernel
theorem dc176_75 : decode (pm_mb 176) 75 = .ok (.goto 5, 3) := by decide +kernel
theorem dc176_78 : decode (pm_mb 176) 78 = .ok (.bipush (-2), 2) := by decide +kernel
theorem dc176_80 : decode (pm_mb 176) 80 = .ok (.ireturn, 1) := by decide +kernel
theorem b176_0 {X : pm_X} {d : Nat} {x1 : Int32} {x2 : Int32} {g : pm_G} {iv : pm_V} (hL : pm_lay g) : pm_at X d 176 (0, [some (.ref 32), some (.int x1), some (.int x2), none], [], g, iv) = pm_then X d 176 20 [some (.ref 32), some (.int x1), some (.int x2), none] [] (pm_c X d 130 [.long (x1 : Int32).toInt64, .long 0, .long ((((pm_iw iv 32 0 0) 36 0) - 1) : Int32).toInt64] g (pm_iw iv 32 0 0)) := by
  refine (at_aload_n dc176_0 rfl).trans ?_
  refine (at_iconst (v := 0) dc176_1 rfl).trans ?_
  refine (at_pfI dc176_2 mc176 lf6_50 po6_0 (ly32 hL)).trans ?_
  refine (at_iload_n dc176_5 rfl).trans ?_
  refine (at_i2l dc176_6).trans ?_
  refine (at_lconst (v := 0) dc176_7 (by decide)).trans ?_
  refine (at_aload_n dc176_8 rfl).trans ?_
  refine (at_gfR dc176_9 mc176 lf6_19 fo6_5 (ly32 hL) (lr32_5 hL)).trans ?_
  refine (at_iconst (v := 0) dc176_12 rfl).trans ?_
  refine (at_iald dc176_13 (ly36 hL) (vp_in_nI (n := 0) (by decide) (by decide))).trans ?_
  refine (at_iconst (v := 1) dc176_14 rfl).trans ?_
  refine (at_isub dc176_15).trans ?_
  refine (at_i2l dc176_16).trans ?_
  exact at_ins dc176_17 mc176 lm6_60 (Nat.le_of_ble_eq_true rfl) rfl rfl (Nat.le_of_ble_eq_true rfl)
theorem b176_20 {X : pm_X} {d : Nat} {x1 : Int32} {x2 : Int32} {s0 : Int32} {g : pm_G} {iv : pm_V}  : pm_at X d 176 (20, [some (.ref 32), some (.int x1), some (.int x2), none], [.int s0], g, iv) = if s0 = 0 then pm_at X d 176 (41, [some (.ref 32), some (.int x1), some (.int x2), none], [], g, iv) else pm_at X d 176 (23, [some (.ref 32), some (.int x1), some (.int x2), none], [], g, iv) := by
  exact at_if_eq (t := 41) dc176_20 (by decide)
theorem b176_23 {X : pm_X} {d : Nat} {x1 : Int32} {x2 : Int32} {g : pm_G} {iv : pm_V} (hL : pm_lay g) : pm_at X d 176 (23, [some (.ref 32), some (.int x1), some (.int x2), none], [], g, iv) = pm_then X d 176 38 [some (.ref 32), some (.int x1), some (.int x2), none] [] (pm_c X d 130 [.long (x2 : Int32).toInt64, .long 0, .long (((iv 36 1) - 1) : Int32).toInt64] g iv) := by
  refine (at_iload_n dc176_23 rfl).trans ?_
  refine (at_i2l dc176_24).trans ?_
  refine (at_lconst (v := 0) dc176_25 (by decide)).trans ?_
  refine (at_aload_n dc176_26 rfl).trans ?_
  refine (at_gfR dc176_27 mc176 lf6_19 fo6_5 (ly32 hL) (lr32_5 hL)).trans ?_
  refine (at_iconst (v := 1) dc176_30 rfl).trans ?_
  refine (at_iald dc176_31 (ly36 hL) (vp_in_nI (n := 1) (by decide) (by decide))).trans ?_
  refine (at_iconst (v := 1) dc176_32 rfl).trans ?_
  refine (at_isub dc176_33).trans ?_
  refine (at_i2l dc176_34).trans ?_
  exact at_ins dc176_35 mc176 lm6_60 (Nat.le_of_ble_eq_true rfl) rfl rfl (Nat.le_of_ble_eq_true rfl)
theorem b176_38 {X : pm_X} {d : Nat} {x1 : Int32} {x2 : Int32} {s0 : Int32} {g : pm_G} {iv : pm_V}  : pm_at X d 176 (38, [some (.ref 32), some (.int x1), some (.int x2), none], [.int s0], g, iv) = if ¬ s0 = 0 then pm_at X d 176 (44, [some (.ref 32), some (.int x1), some (.int x2), none], [], g, iv) else pm_at X d 176 (41, [some (.ref 32), some (.int x1), some (.int x2), none], [], g, iv) := by
  exact at_if_ne (t := 44) dc176_38 (by decide)
theorem b176_41 {X : pm_X} {d : Nat} {x1 : Int32} {x2 : Int32} {g : pm_G} {iv : pm_V}  : pm_at X d 176 (41, [some (.ref 32), some (.int x1), some (.int x2), none], [], g, iv) = some (some (.int (-1000001)), g, iv) := by
  refine (at_ldc dc176_41 mc176 lk6_70).trans ?_
  exact at_iret dc176_43 mr176
theorem b176_44 {X : pm_X} {d : Nat} {x1 : Int32} {x2 : Int32} {g : pm_G} {iv : pm_V} (hL : pm_lay g) : pm_at X d 176 (44, [some (.ref 32), some (.int x1), some (.int x2), none], [], g, iv) = pm_then X d 176 48 [some (.ref 32), some (.int x1), some (.int x2), none] [] (pm_c X d 161 [.ref 32] g iv) := by
  refine (at_aload_n dc176_44 rfl).trans ?_
  exact at_inv dc176_45 mc176 lm6_213 rfl rfl (Nat.le_of_ble_eq_true rfl) (Or.inl ⟨(ly32 hL), by decide⟩)
theorem b176_48 {X : pm_X} {d : Nat} {x1 : Int32} {x2 : Int32} {g : pm_G} {iv : pm_V} (hL : pm_lay g) : pm_at X d 176 (48, [some (.ref 32), some (.int x1), some (.int x2), none], [], g, iv) = pm_then X d 176 54 [some (.ref 32), some (.int x1), some (.int x2), none] [] (pm_c X d 162 [.ref 32, .int x1, .int x2] g iv) := by
  refine (at_aload_n dc176_48 rfl).trans ?_
  refine (at_iload_n dc176_49 rfl).trans ?_
  refine (at_iload_n dc176_50 rfl).trans ?_
  exact at_inv dc176_51 mc176 lm6_193 rfl rfl (Nat.le_of_ble_eq_true rfl) (Or.inl ⟨(ly32 hL), by decide⟩)
theorem b176_54 {X : pm_X} {d : Nat} {x1 : Int32} {x2 : Int32} {s0 : Int32} {g : pm_G} {iv : pm_V}  : pm_at X d 176 (54, [some (.ref 32), some (.int x1), some (.int x2), none], [.int s0], g, iv) = if s0 = (-1000000) then pm_at X d 176 (65, [some (.ref 32), some (.int x1), some (.int x2), some (.int s0)], [], g, iv) else pm_at X d 176 (61, [some (.ref 32), some (.int x1), some (.int x2), some (.int s0)], [], g, iv) := by
  refine (at_istore_n dc176_54 rfl).trans ?_
  refine (at_iload_n dc176_55 rfl).trans ?_
  refine (at_ldc dc176_56 mc176 lk6_86).trans ?_
  exact at_icmp_eq (t := 65) dc176_58 (by decide)
theorem b176_61 {X : pm_X} {d : Nat} {x1 : Int32} {x2 : Int32} {x3 : Int32} {g : pm_G} {iv : pm_V}  : pm_at X d 176 (61, [some (.ref 32), some (.int x1), some (.int x2), some (.int x3)], [], g, iv) = pm_at X d 176 (80, [some (.ref 32), some (.int x1), some (.int x2), some (.int x3)], [.int x3], g, iv) := by
  refine (at_iload_n dc176_61 rfl).trans ?_
  refine (at_goto (t := 80) dc176_62 (by decide)).trans ?_
  rfl
theorem b176_65 {X : pm_X} {d : Nat} {x1 : Int32} {x2 : Int32} {x3 : Int32} {g : pm_G} {iv : pm_V} (hL : pm_lay g) : pm_at X d 176 (65, [some (.ref 32), some (.int x1), some (.int x2), some (.int x3)], [], g, iv) = pm_then X d 176 71 [some (.ref 32), some (.int x1), some (.int x2), some (.int x3)] [] (pm_c X d 160 [.ref 32, .int x1, .int x2] g iv) := by
  refine (at_aload_n dc176_65 rfl).trans ?_
  refine (at_iload_n dc176_66 rfl).trans ?_
  refine (at_iload_n dc176_67 rfl).trans ?_
  exact at_inv dc176_68 mc176 lm6_190 rfl rfl (Nat.le_of_ble_eq_true rfl) (Or.inl ⟨(ly32 hL), by decide⟩)
theorem b176_71 {X : pm_X} {d : Nat} {x1 : Int32} {x2 : Int32} {x3 : Int32} {s0 : Int32} {g : pm_G} {iv : pm_V}  : pm_at X d 176 (71, [some (.ref 32), some (.int x1), some (.int x2), some (.int x3)], [.int s0], g, iv) = if s0 = 0 then pm_at X d 176 (78, [some (.ref 32), some (.int x1), some (.int x2), some (.int x3)], [], g, iv) else pm_at X d 176 (74, [some (.ref 32), some (.int x1), some (.int x2), some (.int x3)], [], g, iv) := by
  exact at_if_eq (t := 78) dc176_71 (by decide)
theorem b176_74 {X : pm_X} {d : Nat} {x1 : Int32} {x2 : Int32} {x3 : Int32} {g : pm_G} {iv : pm_V}  : pm_at X d 176 (74, [some (.ref 32), some (.int x1), some (.int x2), some (.int x3)], [], g, iv) = pm_at X d 176 (80, [some (.ref 32), some (.int x1), some (.int x2), some (.int x3)], [.int (-1)], g, iv) := by
  refine (at_iconst (v := (-1)) dc176_74 rfl).trans ?_
  refine (at_goto (t := 80) dc176_75 (by decide)).trans ?_
  rfl
theorem b176_78 {X : pm_X} {d : Nat} {x1 : Int32} {x2 : Int32} {x3 : Int32} {g : pm_G} {iv : pm_V}  : pm_at X d 176 (78, [some (.ref 32), some (.int x1), some (.int x2), some (.int x3)], [], g, iv) = pm_at X d 176 (80, [some (.ref 32), some (.int x1), some (.int x2), some (.int x3)], [.int (-2)], g, iv) := by
  refine (at_bipush (v := (-2)) dc176_78 (by decide)).trans ?_
  rfl
theorem b176_80 {X : pm_X} {d : Nat} {x1 : Int32} {x2 : Int32} {x3 : Int32} {s0 : Int32} {g : pm_G} {iv : pm_V}  : pm_at X d 176 (80, [some (.ref 32), some (.int x1), some (.int x2), some (.int x3)], [.int s0], g, iv) = some (some (.int s0), g, iv) := by
  exact at_iret dc176_80 mr176
-- Mod.layAhead (I)V
theorem dc177_0 : decode (pm_mb 177) 0 = .ok (.aload_n 0, 1) := by decide +kernel
theorem dc177_1 : decode (pm_mb 177) 1 = .ok (.invokevirtual 213, 3) := by decide +kernel
theorem dc177_4 : decode (pm_mb 177) 4 = .ok (.iconst 0, 1) := by decide +kernel
theorem dc177_5 : decode (pm_mb 177) 5 = .ok (.istore_n 2, 1) := by decide +kernel
theorem dc177_6 : decode (pm_mb 177) 6 = .ok (.iload_n 2, 1) := by decide +kernel
theorem dc177_7 : decode (pm_mb 177) 7 = .ok (.iload_n 1, 1) := by decide +kernel
theorem dc177_8 : decode (pm_mb 177) 8 = .ok (.if_icmp .ge 21, 3) := by decide +kernel
theorem dc177_11 : decode (pm_mb 177) 11 = .ok (.aload_n 0, 1) := by decide +kernel
theorem dc177_12 : decode (pm_mb 177) 12 = .ok (.aload_n 0, 1) := by decide +kernel
theorem dc177_13 : decode (pm_mb 177) 13 = .ok (.getfield 19, 3) := by decide +kernel
theorem dc177_16 : decode (pm_mb 177) 16 = .ok (.iconst 4, 1) := by decide +kernel
theorem dc177_17 : decode (pm_mb 177) 17 = .ok (.iaload, 1) := by decide +kernel
theorem dc177_18 : decode (pm_mb 177) 18 = .ok (.iload_n 2, 1) := by decide +kernel
theorem dc177_19 : decode (pm_mb 177) 19 = .ok (.iadd, 1) := by decide +kernel
theorem dc177_20 : decode (pm_mb 177) 20 = .ok (.invokevirtual 216, 3) := by decide +kernel
theorem dc177_23 : decode (pm_mb 177) 23 = .ok (.iinc 2 1, 3) := by decide +kernel
theorem dc177_26 : decode (pm_mb 177) 26 = .ok (.goto (-20), 3) := by decide +kernel
theorem dc177_29 : decode (pm_mb 177) 29 = .ok (.return_, 1) := by decide +kernel
theorem b177_0 {X : pm_X} {d : Nat} {x1 : Int32} {g : pm_G} {iv : pm_V} (hL : pm_lay g) : pm_at X d 177 (0, [some (.ref 32), some (.int x1), none], [], g, iv) = pm_then X d 177 4 [some (.ref 32), some (.int x1), none] [] (pm_c X d 161 [.ref 32] g iv) := by
  refine (at_aload_n dc177_0 rfl).trans ?_
  exact at_inv dc177_1 mc177 lm6_213 rfl rfl (Nat.le_of_ble_eq_true rfl) (Or.inl ⟨(ly32 hL), by decide⟩)
theorem b177_4 {X : pm_X} {d : Nat} {x1 : Int32} {g : pm_G} {iv : pm_V}  : pm_at X d 177 (4, [some (.ref 32), some (.int x1), none], [], g, iv) = pm_at X d 177 (6, [some (.ref 32), some (.int x1), some (.int 0)], [], g, iv) := by
  refine (at_iconst (v := 0) dc177_4 rfl).trans ?_
  refine (at_istore_n dc177_5 rfl).trans ?_
  rfl
theorem b177_6 {X : pm_X} {d : Nat} {x1 : Int32} {x2 : Int32} {g : pm_G} {iv : pm_V}  : pm_at X d 177 (6, [some (.ref 32), some (.int x1), some (.int x2)], [], g, iv) = if x1 ≤ x2 then pm_at X d 177 (29, [some (.ref 32), some (.int x1), some (.int x2)], [], g, iv) else pm_at X d 177 (11, [some (.ref 32), some (.int x1), some (.int x2)], [], g, iv) := by
  refine (at_iload_n dc177_6 rfl).trans ?_
  refine (at_iload_n dc177_7 rfl).trans ?_
  exact at_icmp_ge (t := 29) dc177_8 (by decide)
theorem b177_11 {X : pm_X} {d : Nat} {x1 : Int32} {x2 : Int32} {g : pm_G} {iv : pm_V} (hL : pm_lay g) : pm_at X d 177 (11, [some (.ref 32), some (.int x1), some (.int x2)], [], g, iv) = pm_then X d 177 23 [some (.ref 32), some (.int x1), some (.int x2)] [] (pm_c X d 166 [.ref 32, .int ((iv 36 4) + x2)] g iv) := by
  refine (at_aload_n dc177_11 rfl).trans ?_
  refine (at_aload_n dc177_12 rfl).trans ?_
  refine (at_gfR dc177_13 mc177 lf6_19 fo6_5 (ly32 hL) (lr32_5 hL)).trans ?_
  refine (at_iconst (v := 4) dc177_16 rfl).trans ?_
  refine (at_iald dc177_17 (ly36 hL) (vp_in_nI (n := 4) (by decide) (by decide))).trans ?_
  refine (at_iload_n dc177_18 rfl).trans ?_
  refine (at_iadd dc177_19).trans ?_
  exact at_inv dc177_20 mc177 lm6_216 rfl rfl (Nat.le_of_ble_eq_true rfl) (Or.inl ⟨(ly32 hL), by decide⟩)
theorem b177_23 {X : pm_X} {d : Nat} {x1 : Int32} {x2 : Int32} {g : pm_G} {iv : pm_V}  : pm_at X d 177 (23, [some (.ref 32), some (.int x1), some (.int x2)], [], g, iv) = pm_at X d 177 (6, [some (.ref 32), some (.int x1), some (.int (x2 + 1))], [], g, iv) := by
  refine (at_iinc (v := 1) dc177_23 rfl (by decide) rfl).trans ?_
  refine (at_goto (t := 6) dc177_26 (by decide)).trans ?_
  rfl
theorem b177_29 {X : pm_X} {d : Nat} {x1 : Int32} {x2 : Int32} {g : pm_G} {iv : pm_V}  : pm_at X d 177 (29, [some (.ref 32), some (.int x1), some (.int x2)], [], g, iv) = some (none, g, iv) := by
  exact at_vret dc177_29 mr177
-- Mod.ahead (III)I
theorem dc178_0 : decode (pm_mb 178) 0 = .ok (.aload_n 0, 1) := by decide +kernel
theorem dc178_1 : decode (pm_mb 178) 1 = .ok (.iconst 0, 1) := by decide +kernel
theorem dc178_2 : decode (pm_mb 178) 2 = .ok (.putfield 50, 3) := by decide +kernel
theorem dc178_5 : decode (pm_mb 178) 5 = .ok (.aload_n 0, 1) := by decide +kernel
theorem dc178_6 : decode (pm_mb 178) 6 = .ok (.iload_n 1, 1) := by decide +kernel
theorem dc178_7 : decode (pm_mb 178) 7 = .ok (.invokevirtual 184, 3) := by decide +kernel
theorem dc178_10 : decode (pm_mb 178) 10 = .ok (.ifCond .eq 25, 3) := by decide +kernel
theorem dc178_13 : decode (pm_mb 178) 13 = .ok (.iload_n 2, 1) := by decide +kernel
theorem dc178_14 : decode (pm_mb 178) 14 = .ok (.i2l, 1) := by decide +kernel
theorem dc178_15 : decode (pm_mb 178) 15 = .ok (.lconst 0, 1) := by decide +kernel
theorem dc178_16 : decode (pm_mb 178) 16 = .ok (.ldc2_w 229, 3) := by decide +kernel
theorem dc178_19 : decode (pm_mb 178) 19 = .ok (.invokestatic 60, 3) := by decide +kernel
theorem dc178_22 : decode (pm_mb 178) 22 = .ok (.ifCond .eq 13, 3) := by decide +kernel
theorem dc178_25 : decode (pm_mb 178) 25 = .ok (.iload_n 3, 1) := by decide +kernel
theorem dc178_26 : decode (pm_mb 178) 26 = .ok (.i2l, 1) := by decide +kernel
theorem dc178_27 : decode (pm_mb 178) 27 = .ok (.lconst 0, 1) := by decide +kernel
theorem dc178_28 : decode (pm_mb 178) 28 = .ok (.lconst 1, 1) := by decide +kernel
theorem dc178_29 : decode (pm_mb 178) 29 = .ok (.invokestatic 60, 3) := by decide +kernel
theorem dc178_32 : decode (pm_mb 178) 32 = .ok (.ifCond .ne 6, 3) := by decide +kernel
theorem dc178_35 : decode (pm_mb 178) 35 = .ok (.ldc 70, 2) := by decide +kernel
theorem dc178_37 : decode (pm_mb 178) 37 = .ok (.ireturn, 1) := by decide +kernel
theorem dc178_38 : decode (pm_mb 178) 38 = .ok (.aload_n 0, 1) := by decide +kernel
theorem dc178_39 : decode (pm_mb 178) 39 = .ok (.iload_n 2, 1) := by decide +kernel
theorem dc178_40 : decode (pm_mb 178) 40 = .ok (.invokevirtual 231, 3) := by decide +kernel
theorem dc178_43 : decode (pm_mb 178) 43 = .ok (.iload_n 3, 1) := by decide +kernel
theorem dc178_44 : decode (pm_mb 178) 44 = .ok (.ifCond .ne 12, 3) := by decide +kernel
theorem dc178_47 : decode (pm_mb 178) 47 = .ok (.aload_n 0, 1) := by decide +kernel
theorem dc178_48 : decode (pm_mb 178) 48 = .ok (.iload_n 1, 1) := by decide +kernel
theorem dc178_49 : decode (pm_mb 178) 49 = .ok (.iconst 1, 1) := by decide +kernel
theorem dc178_50 : decode (pm_mb 178) 50 = .ok (.invokevirtual 187, 3) := by decide +kernel
theorem dc178_53 : decode (pm_mb 178) 53 = .ok (.goto 9, 3) := by decide +kernel
theorem dc178_56 : decode (pm_mb 178) 56 = .ok (.aload_n 0, 1) := by decide +kernel
theorem dc178_57 : decode (pm_mb 178) 57 = .ok (.getfield 31, 3) := by decide +kernel
theorem dc178_60 : decode (pm_mb 178) 60 = .ok (.iload_n 1, 1) := by decide +kernel
theorem dc178_61 : decode (pm_mb 178) 61 = .ok (.iaload, 1) := by decide +kernel
theorem dc178_62 : decode (pm_mb 178) 62 = .ok (.ireturn, 1) := by decide +kernel
theorem b178_0 {X : pm_X} {d : Nat} {x1 : Int32} {x2 : Int32} {x3 : Int32} {g : pm_G} {iv : pm_V} (hL : pm_lay g) : pm_at X d 178 (0, [some (.ref 32), some (.int x1), some (.int x2), some (.int x3)], [], g, iv) = pm_then X d 178 10 [some (.ref 32), some (.int x1), some (.int x2), some (.int x3)] [] (pm_c X d 157 [.ref 32, .int x1] g (pm_iw iv 32 0 0)) := by
  refine (at_aload_n dc178_0 rfl).trans ?_
  refine (at_iconst (v := 0) dc178_1 rfl).trans ?_
  refine (at_pfI dc178_2 mc178 lf6_50 po6_0 (ly32 hL)).trans ?_
  refine (at_aload_n dc178_5 rfl).trans ?_
  refine (at_iload_n dc178_6 rfl).trans ?_
  exact at_inv dc178_7 mc178 lm6_184 rfl rfl (Nat.le_of_ble_eq_true rfl) (Or.inl ⟨(ly32 hL), by decide⟩)
theorem b178_10 {X : pm_X} {d : Nat} {x1 : Int32} {x2 : Int32} {x3 : Int32} {s0 : Int32} {g : pm_G} {iv : pm_V}  : pm_at X d 178 (10, [some (.ref 32), some (.int x1), some (.int x2), some (.int x3)], [.int s0], g, iv) = if s0 = 0 then pm_at X d 178 (35, [some (.ref 32), some (.int x1), some (.int x2), some (.int x3)], [], g, iv) else pm_at X d 178 (13, [some (.ref 32), some (.int x1), some (.int x2), some (.int x3)], [], g, iv) := by
  exact at_if_eq (t := 35) dc178_10 (by decide)
theorem b178_13 {X : pm_X} {d : Nat} {x1 : Int32} {x2 : Int32} {x3 : Int32} {g : pm_G} {iv : pm_V}  : pm_at X d 178 (13, [some (.ref 32), some (.int x1), some (.int x2), some (.int x3)], [], g, iv) = pm_then X d 178 22 [some (.ref 32), some (.int x1), some (.int x2), some (.int x3)] [] (pm_c X d 130 [.long (x2 : Int32).toInt64, .long 0, .long 40] g iv) := by
  refine (at_iload_n dc178_13 rfl).trans ?_
  refine (at_i2l dc178_14).trans ?_
  refine (at_lconst (v := 0) dc178_15 (by decide)).trans ?_
  refine (at_ldc2 dc178_16 mc178 ll6_229).trans ?_
  exact at_ins dc178_19 mc178 lm6_60 (Nat.le_of_ble_eq_true rfl) rfl rfl (Nat.le_of_ble_eq_true rfl)
theorem b178_22 {X : pm_X} {d : Nat} {x1 : Int32} {x2 : Int32} {x3 : Int32} {s0 : Int32} {g : pm_G} {iv : pm_V}  : pm_at X d 178 (22, [some (.ref 32), some (.int x1), some (.int x2), some (.int x3)], [.int s0], g, iv) = if s0 = 0 then pm_at X d 178 (35, [some (.ref 32), some (.int x1), some (.int x2), some (.int x3)], [], g, iv) else pm_at X d 178 (25, [some (.ref 32), some (.int x1), some (.int x2), some (.int x3)], [], g, iv) := by
  exact at_if_eq (t := 35) dc178_22 (by decide)
theorem b178_25 {X : pm_X} {d : Nat} {x1 : Int32} {x2 : Int32} {x3 : Int32} {g : pm_G} {iv : pm_V}  : pm_at X d 178 (25, [some (.ref 32), some (.int x1), some (.int x2), some (.int x3)], [], g, iv) = pm_then X d 178 32 [some (.ref 32), some (.int x1), some (.int x2), some (.int x3)] [] (pm_c X d 130 [.long (x3 : Int32).toInt64, .long 0, .long 1] g iv) := by
  refine (at_iload_n dc178_25 rfl).trans ?_
  refine (at_i2l dc178_26).trans ?_
  refine (at_lconst (v := 0) dc178_27 (by decide)).trans ?_
  refine (at_lconst (v := 1) dc178_28 (by decide)).trans ?_
  exact at_ins dc178_29 mc178 lm6_60 (Nat.le_of_ble_eq_true rfl) rfl rfl (Nat.le_of_ble_eq_true rfl)
theorem b178_32 {X : pm_X} {d : Nat} {x1 : Int32} {x2 : Int32} {x3 : Int32} {s0 : Int32} {g : pm_G} {iv : pm_V}  : pm_at X d 178 (32, [some (.ref 32), some (.int x1), some (.int x2), some (.int x3)], [.int s0], g, iv) = if ¬ s0 = 0 then pm_at X d 178 (38, [some (.ref 32), some (.int x1), some (.int x2), some (.int x3)], [], g, iv) else pm_at X d 178 (35, [some (.ref 32), some (.int x1), some (.int x2), some (.int x3)], [], g, iv) := by
  exact at_if_ne (t := 38) dc178_32 (by decide)
theorem b178_35 {X : pm_X} {d : Nat} {x1 : Int32} {x2 : Int32} {x3 : Int32} {g : pm_G} {iv : pm_V}  : pm_at X d 178 (35, [some (.ref 32), some (.int x1), some (.int x2), some (.int x3)], [], g, iv) = some (some (.int (-1000001)), g, iv) := by
  refine (at_ldc dc178_35 mc178 lk6_70).trans ?_
  exact at_iret dc178_37 mr178
theorem b178_38 {X : pm_X} {d : Nat} {x1 : Int32} {x2 : Int32} {x3 : Int32} {g : pm_G} {iv : pm_V} (hL : pm_lay g) : pm_at X d 178 (38, [some (.ref 32), some (.int x1), some (.int x2), some (.int x3)], [], g, iv) = pm_then X d 178 43 [some (.ref 32), some (.int x1), some (.int x2), some (.int x3)] [] (pm_c X d 177 [.ref 32, .int x2] g iv) := by
  refine (at_aload_n dc178_38 rfl).trans ?_
  refine (at_iload_n dc178_39 rfl).trans ?_
  exact at_inv dc178_40 mc178 lm6_231 rfl rfl (Nat.le_of_ble_eq_true rfl) (Or.inl ⟨(ly32 hL), by decide⟩)
theorem b178_43 {X : pm_X} {d : Nat} {x1 : Int32} {x2 : Int32} {x3 : Int32} {g : pm_G} {iv : pm_V}  : pm_at X d 178 (43, [some (.ref 32), some (.int x1), some (.int x2), some (.int x3)], [], g, iv) = if ¬ x3 = 0 then pm_at X d 178 (56, [some (.ref 32), some (.int x1), some (.int x2), some (.int x3)], [], g, iv) else pm_at X d 178 (47, [some (.ref 32), some (.int x1), some (.int x2), some (.int x3)], [], g, iv) := by
  refine (at_iload_n dc178_43 rfl).trans ?_
  exact at_if_ne (t := 56) dc178_44 (by decide)
theorem b178_47 {X : pm_X} {d : Nat} {x1 : Int32} {x2 : Int32} {x3 : Int32} {g : pm_G} {iv : pm_V} (hL : pm_lay g) : pm_at X d 178 (47, [some (.ref 32), some (.int x1), some (.int x2), some (.int x3)], [], g, iv) = pm_then X d 178 53 [some (.ref 32), some (.int x1), some (.int x2), some (.int x3)] [] (pm_c X d 159 [.ref 32, .int x1, .int 1] g iv) := by
  refine (at_aload_n dc178_47 rfl).trans ?_
  refine (at_iload_n dc178_48 rfl).trans ?_
  refine (at_iconst (v := 1) dc178_49 rfl).trans ?_
  exact at_inv dc178_50 mc178 lm6_187 rfl rfl (Nat.le_of_ble_eq_true rfl) (Or.inl ⟨(ly32 hL), by decide⟩)
theorem b178_53 {X : pm_X} {d : Nat} {x1 : Int32} {x2 : Int32} {x3 : Int32} {s0 : Int32} {g : pm_G} {iv : pm_V}  : pm_at X d 178 (53, [some (.ref 32), some (.int x1), some (.int x2), some (.int x3)], [.int s0], g, iv) = pm_at X d 178 (62, [some (.ref 32), some (.int x1), some (.int x2), some (.int x3)], [.int s0], g, iv) := by
  refine (at_goto (t := 62) dc178_53 (by decide)).trans ?_
  rfl
theorem b178_56 {X : pm_X} {d : Nat} {x1 : Int32} {x2 : Int32} {x3 : Int32} {g : pm_G} {iv : pm_V} (hL : pm_lay g) (i1 : vp_in x1 6) : pm_at X d 178 (56, [some (.ref 32), some (.int x1), some (.int x2), some (.int x3)], [], g, iv) = pm_at X d 178 (62, [some (.ref 32), some (.int x1), some (.int x2), some (.int x3)], [.int (iv 40 (x1 : Int32).toNatClampNeg)], g, iv) := by
  refine (at_aload_n dc178_56 rfl).trans ?_
  refine (at_gfR dc178_57 mc178 lf6_31 fo6_19 (ly32 hL) (lr32_19 hL)).trans ?_
  refine (at_iload_n dc178_60 rfl).trans ?_
  refine (at_iald dc178_61 (ly40 hL) i1).trans ?_
  rfl
theorem b178_62 {X : pm_X} {d : Nat} {x1 : Int32} {x2 : Int32} {x3 : Int32} {s0 : Int32} {g : pm_G} {iv : pm_V}  : pm_at X d 178 (62, [some (.ref 32), some (.int x1), some (.int x2), some (.int x3)], [.int s0], g, iv) = some (some (.int s0), g, iv) := by
  exact at_iret dc178_62 mr178
-- Mod.stream (I)I
theorem dc179_0 : decode (pm_mb 179) 0 = .ok (.aload_n 0, 1) := by decide +kernel
theorem dc179_1 : decode (pm_mb 179) 1 = .ok (.iconst 0, 1) := by decide +kernel
theorem dc179_2 : decode (pm_mb 179) 2 = .ok (.putfield 50, 3) := by decide +kernel
theorem dc179_5 : decode (pm_mb 179) 5 = .ok (.aload_n 0, 1) := by decide +kernel
theorem dc179_6 : decode (pm_mb 179) 6 = .ok (.iload_n 1, 1) := by decide +kernel
theorem dc179_7 : decode (pm_mb 179) 7 = .ok (.invokevirtual 184, 3) := by decide +kernel
theorem dc179_10 : decode (pm_mb 179) 10 = .ok (.ifCond .ne 6, 3) := by decide +kernel
theorem dc179_13 : decode (pm_mb 179) 13 = .ok (.ldc 70, 2) := by decide +kernel
theorem dc179_15 : decode (pm_mb 179) 15 = .ok (.ireturn, 1) := by decide +kernel
theorem dc179_16 : decode (pm_mb 179) 16 = .ok (.aload_n 0, 1) := by decide +kernel
theorem dc179_17 : decode (pm_mb 179) 17 = .ok (.invokevirtual 213, 3) := by decide +kernel
theorem dc179_20 : decode (pm_mb 179) 20 = .ok (.iconst 0, 1) := by decide +kernel
theorem dc179_21 : decode (pm_mb 179) 21 = .ok (.istore_n 2, 1) := by decide +kernel
theorem dc179_22 : decode (pm_mb 179) 22 = .ok (.iload_n 2, 1) := by decide +kernel
theorem dc179_23 : decode (pm_mb 179) 23 = .ok (.bipush 40, 2) := by decide +kernel
theorem dc179_25 : decode (pm_mb 179) 25 = .ok (.if_icmp .ge 38, 3) := by decide +kernel
theorem dc179_28 : decode (pm_mb 179) 28 = .ok (.aload_n 0, 1) := by decide +kernel
theorem dc179_29 : decode (pm_mb 179) 29 = .ok (.getfield 31, 3) := by decide +kernel
theorem dc179_32 : decode (pm_mb 179) 32 = .ok (.iload_n 1, 1) := by decide +kernel
theorem dc179_33 : decode (pm_mb 179) 33 = .ok (.iaload, 1) := by decide +kernel
theorem dc179_34 : decode (pm_mb 179) 34 = .ok (.aload_n 0, 1) := by decide +kernel
theorem dc179_35 : decode (pm_mb 179) 35 = .ok (.getfield 19, 3) := by decide +kernel
theorem dc179_38 : decode (pm_mb 179) 38 = .ok (.iconst 1, 1) := by decide +kernel
theorem dc179_39 : decode (pm_mb 179) 39 = .ok (.iaload, 1) := by decide +kernel
theorem dc179_40 : decode (pm_mb 179) 40 = .ok (.iconst 1, 1) := by decide +kernel
theorem dc179_41 : decode (pm_mb 179) 41 = .ok (.isub, 1) := by decide +kernel
theorem dc179_42 : decode (pm_mb 179) 42 = .ok (.if_icmp .ge 21, 3) := by decide +kernel
theorem dc179_45 : decode (pm_mb 179) 45 = .ok (.aload_n 0, 1) := by decide +kernel
theorem dc179_46 : decode (pm_mb 179) 46 = .ok (.aload_n 0, 1) := by decide +kernel
theorem dc179_47 : decode (pm_mb 179) 47 = .ok (.getfield 19, 3) := by decide +kernel
theorem dc179_50 : decode (pm_mb 179) 50 = .ok (.iconst 4, 1) := by decide +kernel
theorem dc179_51 : decode (pm_mb 179) 51 = .ok (.iaload, 1) := by decide +kernel
theorem dc179_52 : decode (pm_mb 179) 52 = .ok (.iload_n 2, 1) := by decide +kernel
theorem dc179_53 : decode (pm_mb 179) 53 = .ok (.iadd, 1) := by decide +kernel
theorem dc179_54 : decode (pm_mb 179) 54 = .ok (.invokevirtual 216, 3) := by decide +kernel
theorem dc179_57 : decode (pm_mb 179) 57 = .ok (.iinc 2 1, 3) := by decide +kernel
theorem dc179_60 : decode (pm_mb 179) 60 = .ok (.goto (-38), 3) := by decide +kernel
theorem dc179_63 : decode (pm_mb 179) 63 = .ok (.aload_n 0, 1) := by decide +kernel
theorem dc179_64 : decode (pm_mb 179) 64 = .ok (.getfield 31, 3) := by decide +kernel
theorem dc179_67 : decode (pm_mb 179) 67 = .ok (.iload_n 1, 1) := by decide +kernel
theorem dc179_68 : decode (pm_mb 179) 68 = .ok (.iaload, 1) := by decide +kernel
theorem dc179_69 : decode (pm_mb 179) 69 = .ok (.aload_n 0, 1) := by decide +kernel
theorem dc179_70 : decode (pm_mb 179) 70 = .ok (.getfield 19, 3) := by decide +kernel
theorem dc179_73 : decode (pm_mb 179) 73 = .ok (.iconst 1, 1) := by decide +kernel
theorem dc179_74 : decode (pm_mb 179) 74 = .ok (.iaload, 1) := by decide +kernel
theorem dc179_75 : decode (pm_mb 179) 75 = .ok (.iconst 1, 1) := by decide +kernel
theorem dc179_76 : decode (pm_mb 179) 76 = .ok (.isub, 1) := by decide +kernel
theorem dc179_77 : decode (pm_mb 179) 77 = .ok (.if_icmp .ne 7, 3) := by decide +kernel
theorem dc179_80 : decode (pm_mb 179) 80 = .ok (.iload_n 2, 1) := by decide +kernel
theorem dc179_81 : decode (pm_mb 179) 81 = .ok (.goto 5, 3) := by decide +kernel
theorem dc179_84 : decode (pm_mb 179) 84 = .ok (.ldc 86, 2) := by decide +kernel
theorem dc179_86 : decode (pm_mb 179) 86 = .ok (.ireturn, 1) := by decide +kernel
theorem b179_0 {X : pm_X} {d : Nat} {x1 : Int32} {g : pm_G} {iv : pm_V} (hL : pm_lay g) : pm_at X d 179 (0, [some (.ref 32), some (.int x1), none], [], g, iv) = pm_then X d 179 10 [some (.ref 32), some (.int x1), none] [] (pm_c X d 157 [.ref 32, .int x1] g (pm_iw iv 32 0 0)) := by
  refine (at_aload_n dc179_0 rfl).trans ?_
  refine (at_iconst (v := 0) dc179_1 rfl).trans ?_
  refine (at_pfI dc179_2 mc179 lf6_50 po6_0 (ly32 hL)).trans ?_
  refine (at_aload_n dc179_5 rfl).trans ?_
  refine (at_iload_n dc179_6 rfl).trans ?_
  exact at_inv dc179_7 mc179 lm6_184 rfl rfl (Nat.le_of_ble_eq_true rfl) (Or.inl ⟨(ly32 hL), by decide⟩)
theorem b179_10 {X : pm_X} {d : Nat} {x1 : Int32} {s0 : Int32} {g : pm_G} {iv : pm_V}  : pm_at X d 179 (10, [some (.ref 32), some (.int x1), none], [.int s0], g, iv) = if ¬ s0 = 0 then pm_at X d 179 (16, [some (.ref 32), some (.int x1), none], [], g, iv) else pm_at X d 179 (13, [some (.ref 32), some (.int x1), none], [], g, iv) := by
  exact at_if_ne (t := 16) dc179_10 (by decide)
theorem b179_13 {X : pm_X} {d : Nat} {x1 : Int32} {g : pm_G} {iv : pm_V}  : pm_at X d 179 (13, [some (.ref 32), some (.int x1), none], [], g, iv) = some (some (.int (-1000001)), g, iv) := by
  refine (at_ldc dc179_13 mc179 lk6_70).trans ?_
  exact at_iret dc179_15 mr179
theorem b179_16 {X : pm_X} {d : Nat} {x1 : Int32} {g : pm_G} {iv : pm_V} (hL : pm_lay g) : pm_at X d 179 (16, [some (.ref 32), some (.int x1), none], [], g, iv) = pm_then X d 179 20 [some (.ref 32), some (.int x1), none] [] (pm_c X d 161 [.ref 32] g iv) := by
  refine (at_aload_n dc179_16 rfl).trans ?_
  exact at_inv dc179_17 mc179 lm6_213 rfl rfl (Nat.le_of_ble_eq_true rfl) (Or.inl ⟨(ly32 hL), by decide⟩)
theorem b179_20 {X : pm_X} {d : Nat} {x1 : Int32} {g : pm_G} {iv : pm_V}  : pm_at X d 179 (20, [some (.ref 32), some (.int x1), none], [], g, iv) = pm_at X d 179 (22, [some (.ref 32), some (.int x1), some (.int 0)], [], g, iv) := by
  refine (at_iconst (v := 0) dc179_20 rfl).trans ?_
  refine (at_istore_n dc179_21 rfl).trans ?_
  rfl
theorem b179_22 {X : pm_X} {d : Nat} {x1 : Int32} {x2 : Int32} {g : pm_G} {iv : pm_V}  : pm_at X d 179 (22, [some (.ref 32), some (.int x1), some (.int x2)], [], g, iv) = if 40 ≤ x2 then pm_at X d 179 (63, [some (.ref 32), some (.int x1), some (.int x2)], [], g, iv) else pm_at X d 179 (28, [some (.ref 32), some (.int x1), some (.int x2)], [], g, iv) := by
  refine (at_iload_n dc179_22 rfl).trans ?_
  refine (at_bipush (v := 40) dc179_23 (by decide)).trans ?_
  exact at_icmp_ge (t := 63) dc179_25 (by decide)
theorem b179_28 {X : pm_X} {d : Nat} {x1 : Int32} {x2 : Int32} {g : pm_G} {iv : pm_V} (hL : pm_lay g) (i1 : vp_in x1 6) : pm_at X d 179 (28, [some (.ref 32), some (.int x1), some (.int x2)], [], g, iv) = if ((iv 36 1) - 1) ≤ (iv 40 (x1 : Int32).toNatClampNeg) then pm_at X d 179 (63, [some (.ref 32), some (.int x1), some (.int x2)], [], g, iv) else pm_at X d 179 (45, [some (.ref 32), some (.int x1), some (.int x2)], [], g, iv) := by
  refine (at_aload_n dc179_28 rfl).trans ?_
  refine (at_gfR dc179_29 mc179 lf6_31 fo6_19 (ly32 hL) (lr32_19 hL)).trans ?_
  refine (at_iload_n dc179_32 rfl).trans ?_
  refine (at_iald dc179_33 (ly40 hL) i1).trans ?_
  refine (at_aload_n dc179_34 rfl).trans ?_
  refine (at_gfR dc179_35 mc179 lf6_19 fo6_5 (ly32 hL) (lr32_5 hL)).trans ?_
  refine (at_iconst (v := 1) dc179_38 rfl).trans ?_
  refine (at_iald dc179_39 (ly36 hL) (vp_in_nI (n := 1) (by decide) (by decide))).trans ?_
  refine (at_iconst (v := 1) dc179_40 rfl).trans ?_
  refine (at_isub dc179_41).trans ?_
  exact at_icmp_ge (t := 63) dc179_42 (by decide)
theorem b179_45 {X : pm_X} {d : Nat} {x1 : Int32} {x2 : Int32} {g : pm_G} {iv : pm_V} (hL : pm_lay g) : pm_at X d 179 (45, [some (.ref 32), some (.int x1), some (.int x2)], [], g, iv) = pm_then X d 179 57 [some (.ref 32), some (.int x1), some (.int x2)] [] (pm_c X d 166 [.ref 32, .int ((iv 36 4) + x2)] g iv) := by
  refine (at_aload_n dc179_45 rfl).trans ?_
  refine (at_aload_n dc179_46 rfl).trans ?_
  refine (at_gfR dc179_47 mc179 lf6_19 fo6_5 (ly32 hL) (lr32_5 hL)).trans ?_
  refine (at_iconst (v := 4) dc179_50 rfl).trans ?_
  refine (at_iald dc179_51 (ly36 hL) (vp_in_nI (n := 4) (by decide) (by decide))).trans ?_
  refine (at_iload_n dc179_52 rfl).trans ?_
  refine (at_iadd dc179_53).trans ?_
  exact at_inv dc179_54 mc179 lm6_216 rfl rfl (Nat.le_of_ble_eq_true rfl) (Or.inl ⟨(ly32 hL), by decide⟩)
theorem b179_57 {X : pm_X} {d : Nat} {x1 : Int32} {x2 : Int32} {g : pm_G} {iv : pm_V}  : pm_at X d 179 (57, [some (.ref 32), some (.int x1), some (.int x2)], [], g, iv) = pm_at X d 179 (22, [some (.ref 32), some (.int x1), some (.int (x2 + 1))], [], g, iv) := by
  refine (at_iinc (v := 1) dc179_57 rfl (by decide) rfl).trans ?_
  refine (at_goto (t := 22) dc179_60 (by decide)).trans ?_
  rfl
theorem b179_63 {X : pm_X} {d : Nat} {x1 : Int32} {x2 : Int32} {g : pm_G} {iv : pm_V} (hL : pm_lay g) (i1 : vp_in x1 6) : pm_at X d 179 (63, [some (.ref 32), some (.int x1), some (.int x2)], [], g, iv) = if ¬ (iv 40 (x1 : Int32).toNatClampNeg) = ((iv 36 1) - 1) then pm_at X d 179 (84, [some (.ref 32), some (.int x1), some (.int x2)], [], g, iv) else pm_at X d 179 (80, [some (.ref 32), some (.int x1), some (.int x2)], [], g, iv) := by
  refine (at_aload_n dc179_63 rfl).trans ?_
  refine (at_gfR dc179_64 mc179 lf6_31 fo6_19 (ly32 hL) (lr32_19 hL)).trans ?_
  refine (at_iload_n dc179_67 rfl).trans ?_
  refine (at_iald dc179_68 (ly40 hL) i1).trans ?_
  refine (at_aload_n dc179_69 rfl).trans ?_
  refine (at_gfR dc179_70 mc179 lf6_19 fo6_5 (ly32 hL) (lr32_5 hL)).trans ?_
  refine (at_iconst (v := 1) dc179_73 rfl).trans ?_
  refine (at_iald dc179_74 (ly36 hL) (vp_in_nI (n := 1) (by decide) (by decide))).trans ?_
  refine (at_iconst (v := 1) dc179_75 rfl).trans ?_
  refine (at_isub dc179_76).trans ?_
  exact at_icmp_ne (t := 84) dc179_77 (by decide)
theorem b179_80 {X : pm_X} {d : Nat} {x1 : Int32} {x2 : Int32} {g : pm_G} {iv : pm_V}  : pm_at X d 179 (80, [some (.ref 32), some (.int x1), some (.int x2)], [], g, iv) = pm_at X d 179 (86, [some (.ref 32), some (.int x1), some (.int x2)], [.int x2], g, iv) := by
  refine (at_iload_n dc179_80 rfl).trans ?_
  refine (at_goto (t := 86) dc179_81 (by decide)).trans ?_
  rfl
theorem b179_84 {X : pm_X} {d : Nat} {x1 : Int32} {x2 : Int32} {g : pm_G} {iv : pm_V}  : pm_at X d 179 (84, [some (.ref 32), some (.int x1), some (.int x2)], [], g, iv) = pm_at X d 179 (86, [some (.ref 32), some (.int x1), some (.int x2)], [.int (-1000000)], g, iv) := by
  refine (at_ldc dc179_84 mc179 lk6_86).trans ?_
  rfl
theorem b179_86 {X : pm_X} {d : Nat} {x1 : Int32} {x2 : Int32} {s0 : Int32} {g : pm_G} {iv : pm_V}  : pm_at X d 179 (86, [some (.ref 32), some (.int x1), some (.int x2)], [.int s0], g, iv) = some (some (.int s0), g, iv) := by
  exact at_iret dc179_86 mr179
-- Mod.areBeside (II)Z
theorem dc180_0 : decode (pm_mb 180) 0 = .ok (.aload_n 0, 1) := by decide +kernel
theorem dc180_1 : decode (pm_mb 180) 1 = .ok (.iload_n 1, 1) := by decide +kernel
theorem dc180_2 : decode (pm_mb 180) 2 = .ok (.iconst 1, 1) := by decide +kernel
theorem dc180_3 : decode (pm_mb 180) 3 = .ok (.invokevirtual 187, 3) := by decide +kernel
theorem dc180_6 : decode (pm_mb 180) 6 = .ok (.aload_n 0, 1) := by decide +kernel
theorem dc180_7 : decode (pm_mb 180) 7 = .ok (.iload_n 2, 1) := by decide +kernel
theorem dc180_8 : decode (pm_mb 180) 8 = .ok (.iconst 1, 1) := by decide +kernel
theorem dc180_9 : decode (pm_mb 180) 9 = .ok (.invokevirtual 187, 3) := by decide +kernel
theorem dc180_12 : decode (pm_mb 180) 12 = .ok (.isub, 1) := by decide +kernel
theorem dc180_13 : decode (pm_mb 180) 13 = .ok (.istore_n 3, 1) := by decide +kernel
theorem dc180_14 : decode (pm_mb 180) 14 = .ok (.aload_n 0, 1) := by decide +kernel
theorem dc180_15 : decode (pm_mb 180) 15 = .ok (.getfield 31, 3) := by decide +kernel
theorem dc180_18 : decode (pm_mb 180) 18 = .ok (.iload_n 1, 1) := by decide +kernel
theorem dc180_19 : decode (pm_mb 180) 19 = .ok (.iaload, 1) := by decide +kernel
theorem dc180_20 : decode (pm_mb 180) 20 = .ok (.aload_n 0, 1) := by decide +kernel
theorem dc180_21 : decode (pm_mb 180) 21 = .ok (.getfield 31, 3) := by decide +kernel
theorem dc180_24 : decode (pm_mb 180) 24 = .ok (.iload_n 2, 1) := by decide +kernel
theorem dc180_25 : decode (pm_mb 180) 25 = .ok (.iaload, 1) := by decide +kernel
theorem dc180_26 : decode (pm_mb 180) 26 = .ok (.if_icmp .ne 17, 3) := by decide +kernel
theorem dc180_29 : decode (pm_mb 180) 29 = .ok (.iload_n 3, 1) := by decide +kernel
theorem dc180_30 : decode (pm_mb 180) 30 = .ok (.iconst 1, 1) := by decide +kernel
theorem dc180_31 : decode (pm_mb 180) 31 = .ok (.if_icmp .eq 8, 3) := by decide +kernel
theorem dc180_34 : decode (pm_mb 180) 34 = .ok (.iload_n 3, 1) := by decide +kernel
theorem dc180_35 : decode (pm_mb 180) 35 = .ok (.iconst (-1), 1) := by decide +kernel
theorem dc180_36 : decode (pm_mb 180) 36 = .ok (.if_icmp .ne 7, 3) := by decide +kernel
theorem dc180_39 : decode (pm_mb 180) 39 = .ok (.iconst 1, 1) := by decide +kernel
theorem dc180_40 : decode (pm_mb 180) 40 = .ok (.goto 4, 3) := by decide +kernel
theorem dc180_43 : decode (pm_mb 180) 43 = .ok (.iconst 0, 1) := by decide +kernel
theorem dc180_44 : decode (pm_mb 180) 44 = .ok (.ireturn, 1) := by decide +kernel
theorem b180_0 {X : pm_X} {d : Nat} {x1 : Int32} {x2 : Int32} {g : pm_G} {iv : pm_V} (hL : pm_lay g) : pm_at X d 180 (0, [some (.ref 32), some (.int x1), some (.int x2), none], [], g, iv) = pm_then X d 180 6 [some (.ref 32), some (.int x1), some (.int x2), none] [] (pm_c X d 159 [.ref 32, .int x1, .int 1] g iv) := by
  refine (at_aload_n dc180_0 rfl).trans ?_
  refine (at_iload_n dc180_1 rfl).trans ?_
  refine (at_iconst (v := 1) dc180_2 rfl).trans ?_
  exact at_inv dc180_3 mc180 lm6_187 rfl rfl (Nat.le_of_ble_eq_true rfl) (Or.inl ⟨(ly32 hL), by decide⟩)
theorem b180_6 {X : pm_X} {d : Nat} {x1 : Int32} {x2 : Int32} {s0 : Int32} {g : pm_G} {iv : pm_V} (hL : pm_lay g) : pm_at X d 180 (6, [some (.ref 32), some (.int x1), some (.int x2), none], [.int s0], g, iv) = pm_then X d 180 12 [some (.ref 32), some (.int x1), some (.int x2), none] [.int s0] (pm_c X d 159 [.ref 32, .int x2, .int 1] g iv) := by
  refine (at_aload_n dc180_6 rfl).trans ?_
  refine (at_iload_n dc180_7 rfl).trans ?_
  refine (at_iconst (v := 1) dc180_8 rfl).trans ?_
  exact at_inv dc180_9 mc180 lm6_187 rfl rfl (Nat.le_of_ble_eq_true rfl) (Or.inl ⟨(ly32 hL), by decide⟩)
theorem b180_12 {X : pm_X} {d : Nat} {x1 : Int32} {x2 : Int32} {s0 : Int32} {s1 : Int32} {g : pm_G} {iv : pm_V} (hL : pm_lay g) (i1 : vp_in x1 6) (i2 : vp_in x2 6) : pm_at X d 180 (12, [some (.ref 32), some (.int x1), some (.int x2), none], [.int s0, .int s1], g, iv) = if ¬ (iv 40 (x1 : Int32).toNatClampNeg) = (iv 40 (x2 : Int32).toNatClampNeg) then pm_at X d 180 (43, [some (.ref 32), some (.int x1), some (.int x2), some (.int (s1 - s0))], [], g, iv) else pm_at X d 180 (29, [some (.ref 32), some (.int x1), some (.int x2), some (.int (s1 - s0))], [], g, iv) := by
  refine (at_isub dc180_12).trans ?_
  refine (at_istore_n dc180_13 rfl).trans ?_
  refine (at_aload_n dc180_14 rfl).trans ?_
  refine (at_gfR dc180_15 mc180 lf6_31 fo6_19 (ly32 hL) (lr32_19 hL)).trans ?_
  refine (at_iload_n dc180_18 rfl).trans ?_
  refine (at_iald dc180_19 (ly40 hL) i1).trans ?_
  refine (at_aload_n dc180_20 rfl).trans ?_
  refine (at_gfR dc180_21 mc180 lf6_31 fo6_19 (ly32 hL) (lr32_19 hL)).trans ?_
  refine (at_iload_n dc180_24 rfl).trans ?_
  refine (at_iald dc180_25 (ly40 hL) i2).trans ?_
  exact at_icmp_ne (t := 43) dc180_26 (by decide)
theorem b180_29 {X : pm_X} {d : Nat} {x1 : Int32} {x2 : Int32} {x3 : Int32} {g : pm_G} {iv : pm_V}  : pm_at X d 180 (29, [some (.ref 32), some (.int x1), some (.int x2), some (.int x3)], [], g, iv) = if x3 = 1 then pm_at X d 180 (39, [some (.ref 32), some (.int x1), some (.int x2), some (.int x3)], [], g, iv) else pm_at X d 180 (34, [some (.ref 32), some (.int x1), some (.int x2), some (.int x3)], [], g, iv) := by
  refine (at_iload_n dc180_29 rfl).trans ?_
  refine (at_iconst (v := 1) dc180_30 rfl).trans ?_
  exact at_icmp_eq (t := 39) dc180_31 (by decide)
theorem b180_34 {X : pm_X} {d : Nat} {x1 : Int32} {x2 : Int32} {x3 : Int32} {g : pm_G} {iv : pm_V}  : pm_at X d 180 (34, [some (.ref 32), some (.int x1), some (.int x2), some (.int x3)], [], g, iv) = if ¬ x3 = (-1) then pm_at X d 180 (43, [some (.ref 32), some (.int x1), some (.int x2), some (.int x3)], [], g, iv) else pm_at X d 180 (39, [some (.ref 32), some (.int x1), some (.int x2), some (.int x3)], [], g, iv) := by
  refine (at_iload_n dc180_34 rfl).trans ?_
  refine (at_iconst (v := (-1)) dc180_35 rfl).trans ?_
  exact at_icmp_ne (t := 43) dc180_36 (by decide)
theorem b180_39 {X : pm_X} {d : Nat} {x1 : Int32} {x2 : Int32} {x3 : Int32} {g : pm_G} {iv : pm_V}  : pm_at X d 180 (39, [some (.ref 32), some (.int x1), some (.int x2), some (.int x3)], [], g, iv) = pm_at X d 180 (44, [some (.ref 32), some (.int x1), some (.int x2), some (.int x3)], [.int 1], g, iv) := by
  refine (at_iconst (v := 1) dc180_39 rfl).trans ?_
  refine (at_goto (t := 44) dc180_40 (by decide)).trans ?_
  rfl
theorem b180_43 {X : pm_X} {d : Nat} {x1 : Int32} {x2 : Int32} {x3 : Int32} {g : pm_G} {iv : pm_V}  : pm_at X d 180 (43, [some (.ref 32), some (.int x1), some (.int x2), some (.int x3)], [], g, iv) = pm_at X d 180 (44, [some (.ref 32), some (.int x1), some (.int x2), some (.int x3)], [.int 0], g, iv) := by
  refine (at_iconst (v := 0) dc180_43 rfl).trans ?_
  rfl
theorem b180_44 {X : pm_X} {d : Nat} {x1 : Int32} {x2 : Int32} {x3 : Int32} {s0 : Int32} {g : pm_G} {iv : pm_V}  : pm_at X d 180 (44, [some (.ref 32), some (.int x1), some (.int x2), some (.int x3)], [.int s0], g, iv) = pm_zr s0 (some (some (.int s0), g, iv)) := by
  exact at_zretG dc180_44 mr180
