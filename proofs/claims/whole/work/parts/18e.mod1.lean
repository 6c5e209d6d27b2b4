-- Mod.<init> ()V
theorem dc128_0 : decode (pm_mb 128) 0 = .ok (.aload_n 0, 1) := by decide +kernel
theorem dc128_1 : decode (pm_mb 128) 1 = .ok (.invokespecial 1, 3) := by decide +kernel
theorem dc128_4 : decode (pm_mb 128) 4 = .ok (.aload_n 0, 1) := by decide +kernel
theorem dc128_5 : decode (pm_mb 128) 5 = .ok (.bipush 8, 2) := by decide +kernel
theorem dc128_7 : decode (pm_mb 128) 7 = .ok (.newarray .int, 2) := by decide +kernel
theorem dc128_9 : decode (pm_mb 128) 9 = .ok (.dup, 1) := by decide +kernel
theorem dc128_10 : decode (pm_mb 128) 10 = .ok (.iconst 0, 1) := by decide +kernel
theorem dc128_11 : decode (pm_mb 128) 11 = .ok (.iconst (-1), 1) := by decide +kernel
theorem dc128_12 : decode (pm_mb 128) 12 = .ok (.iastore, 1) := by decide +kernel
theorem dc128_13 : decode (pm_mb 128) 13 = .ok (.dup, 1) := by decide +kernel
theorem dc128_14 : decode (pm_mb 128) 14 = .ok (.iconst 1, 1) := by decide +kernel
theorem dc128_15 : decode (pm_mb 128) 15 = .ok (.iconst (-1), 1) := by decide +kernel
theorem dc128_16 : decode (pm_mb 128) 16 = .ok (.iastore, 1) := by decide +kernel
theorem dc128_17 : decode (pm_mb 128) 17 = .ok (.dup, 1) := by decide +kernel
theorem dc128_18 : decode (pm_mb 128) 18 = .ok (.iconst 2, 1) := by decide +kernel
theorem dc128_19 : decode (pm_mb 128) 19 = .ok (.iconst (-1), 1) := by decide +kernel
theorem dc128_20 : decode (pm_mb 128) 20 = .ok (.iastore, 1) := by decide +kernel
theorem dc128_21 : decode (pm_mb 128) 21 = .ok (.dup, 1) := by decide +kernel
theorem dc128_22 : decode (pm_mb 128) 22 = .ok (.iconst 3, 1) := by decide +kernel
theorem dc128_23 : decode (pm_mb 128) 23 = .ok (.iconst (-1), 1) := by decide +kernel
theorem dc128_24 : decode (pm_mb 128) 24 = .ok (.iastore, 1) := by decide +kernel
theorem dc128_25 : decode (pm_mb 128) 25 = .ok (.dup, 1) := by decide +kernel
theorem dc128_26 : decode (pm_mb 128) 26 = .ok (.iconst 4, 1) := by decide +kernel
theorem dc128_27 : decode (pm_mb 128) 27 = .ok (.iconst (-1), 1) := by decide +kernel
theorem dc128_28 : decode (pm_mb 128) 28 = .ok (.iastore, 1) := by decide +kernel
theorem dc128_29 : decode (pm_mb 128) 29 = .ok (.dup, 1) := by decide +kernel
theorem dc128_30 : decode (pm_mb 128) 30 = .ok (.iconst 5, 1) := by decide +kernel
theorem dc128_31 : decode (pm_mb 128) 31 = .ok (.iconst (-1), 1) := by decide +kernel
theorem dc128_32 : decode (pm_mb 128) 32 = .ok (.iastore, 1) := by decide +kernel
theorem dc128_33 : decode (pm_mb 128) 33 = .ok (.dup, 1) := by decide +kernel
theorem dc128_34 : decode (pm_mb 128) 34 = .ok (.bipush 6, 2) := by decide +kernel
theorem dc128_36 : decode (pm_mb 128) 36 = .ok (.iconst (-1), 1) := by decide +kernel
theorem dc128_37 : decode (pm_mb 128) 37 = .ok (.iastore, 1) := by decide +kernel
theorem dc128_38 : decode (pm_mb 128) 38 = .ok (.dup, 1) := by decide +kernel
theorem dc128_39 : decode (pm_mb 128) 39 = .ok (.bipush 7, 2) := by decide +kernel
theorem dc128_41 : decode (pm_mb 128) 41 = .ok (.iconst (-1), 1) := by decide +kernel
theorem dc128_42 : decode (pm_mb 128) 42 = .ok (.iastore, 1) := by decide +kernel
theorem dc128_43 : decode (pm_mb 128) 43 = .ok (.putfield 7, 3) := by decide +kernel
theorem dc128_46 : decode (pm_mb 128) 46 = .ok (.aload_n 0, 1) := by decide +kernel
theorem dc128_47 : decode (pm_mb 128) 47 = .ok (.bipush 8, 2) := by decide +kernel
theorem dc128_49 : decode (pm_mb 128) 49 = .ok (.newarray .int, 2) := by decide +kernel
theorem dc128_51 : decode (pm_mb 128) 51 = .ok (.putfield 13, 3) := by decide +kernel
theorem dc128_54 : decode (pm_mb 128) 54 = .ok (.aload_n 0, 1) := by decide +kernel
theorem dc128_55 : decode (pm_mb 128) 55 = .ok (.sipush 320, 3) := by decide +kernel
theorem dc128_58 : decode (pm_mb 128) 58 = .ok (.newarray .int, 2) := by decide +kernel
theorem dc128_60 : decode (pm_mb 128) 60 = .ok (.putfield 16, 3) := by decide +kernel
theorem dc128_63 : decode (pm_mb 128) 63 = .ok (.aload_n 0, 1) := by decide +kernel
theorem dc128_64 : decode (pm_mb 128) 64 = .ok (.bipush 45, 2) := by decide +kernel
theorem dc128_66 : decode (pm_mb 128) 66 = .ok (.newarray .int, 2) := by decide +kernel
theorem dc128_68 : decode (pm_mb 128) 68 = .ok (.putfield 19, 3) := by decide +kernel
theorem dc128_71 : decode (pm_mb 128) 71 = .ok (.aload_n 0, 1) := by decide +kernel
theorem dc128_72 : decode (pm_mb 128) 72 = .ok (.bipush 45, 2) := by decide +kernel
theorem dc128_74 : decode (pm_mb 128) 74 = .ok (.newarray .int, 2) := by decide +kernel
theorem dc128_76 : decode (pm_mb 128) 76 = .ok (.putfield 22, 3) := by decide +kernel
theorem dc128_79 : decode (pm_mb 128) 79 = .ok (.aload_n 0, 1) := by decide +kernel
theorem dc128_80 : decode (pm_mb 128) 80 = .ok (.sipush 1080, 3) := by decide +kernel
theorem dc128_83 : decode (pm_mb 128) 83 = .ok (.newarray .int, 2) := by decide +kernel
theorem dc128_85 : decode (pm_mb 128) 85 = .ok (.putfield 25, 3) := by decide +kernel
theorem dc128_88 : decode (pm_mb 128) 88 = .ok (.aload_n 0, 1) := by decide +kernel
theorem dc128_89 : decode (pm_mb 128) 89 = .ok (.sipush 400, 3) := by decide +kernel
theorem dc128_92 : decode (pm_mb 128) 92 = .ok (.newarray .int, 2) := by decide +kernel
theorem dc128_94 : decode (pm_mb 128) 94 = .ok (.putfield 28, 3) := by decide +kernel
theorem dc128_97 : decode (pm_mb 128) 97 = .ok (.aload_n 0, 1) := by decide +kernel
theorem dc128_98 : decode (pm_mb 128) 98 = .ok (.bipush 6, 2) := by decide +kernel
theorem dc128_100 : decode (pm_mb 128) 100 = .ok (.newarray .int, 2) := by decide +kernel
theorem dc128_102 : decode (pm_mb 128) 102 = .ok (.putfield 31, 3) := by decide +kernel
theorem dc128_105 : decode (pm_mb 128) 105 = .ok (.aload_n 0, 1) := by decide +kernel
theorem dc128_106 : decode (pm_mb 128) 106 = .ok (.bipush 6, 2) := by decide +kernel
theorem dc128_108 : decode (pm_mb 128) 108 = .ok (.newarray .int, 2) := by decide +kernel
theorem dc128_110 : decode (pm_mb 128) 110 = .ok (.putfield 34, 3) := by decide +kernel
theorem dc128_113 : decode (pm_mb 128) 113 = .ok (.aload_n 0, 1) := by decide +kernel
theorem dc128_114 : decode (pm_mb 128) 114 = .ok (.bipush 6, 2) := by decide +kernel
theorem dc128_116 : decode (pm_mb 128) 116 = .ok (.newarray .int, 2) := by decide +kernel
theorem dc128_118 : decode (pm_mb 128) 118 = .ok (.putfield 37, 3) := by decide +kernel
theorem dc128_121 : decode (pm_mb 128) 121 = .ok (.aload_n 0, 1) := by decide +kernel
theorem dc128_122 : decode (pm_mb 128) 122 = .ok (.iconst 2, 1) := by decide +kernel
theorem dc128_123 : decode (pm_mb 128) 123 = .ok (.newarray .boolean, 2) := by decide +kernel
theorem dc128_125 : decode (pm_mb 128) 125 = .ok (.putfield 40, 3) := by decide +kernel
theorem dc128_128 : decode (pm_mb 128) 128 = .ok (.aload_n 0, 1) := by decide +kernel
theorem dc128_129 : decode (pm_mb 128) 129 = .ok (.bipush 90, 2) := by decide +kernel
theorem dc128_131 : decode (pm_mb 128) 131 = .ok (.newarray .int, 2) := by decide +kernel
theorem dc128_133 : decode (pm_mb 128) 133 = .ok (.putfield 44, 3) := by decide +kernel
theorem dc128_136 : decode (pm_mb 128) 136 = .ok (.aload_n 0, 1) := by decide +kernel
theorem dc128_137 : decode (pm_mb 128) 137 = .ok (.bipush 16, 2) := by decide +kernel
theorem dc128_139 : decode (pm_mb 128) 139 = .ok (.newarray .int, 2) := by decide +kernel
theorem dc128_141 : decode (pm_mb 128) 141 = .ok (.putfield 47, 3) := by decide +kernel
theorem dc128_144 : decode (pm_mb 128) 144 = .ok (.return_, 1) := by decide +kernel
-- Mod.in (JJJ)Z
theorem dc129_0 : decode (pm_mb 129) 0 = .ok (.lload_n 0, 1) := by decide +kernel
theorem dc129_1 : decode (pm_mb 129) 1 = .ok (.lload_n 2, 1) := by decide +kernel
theorem dc129_2 : decode (pm_mb 129) 2 = .ok (.lcmp, 1) := by decide +kernel
theorem dc129_3 : decode (pm_mb 129) 3 = .ok (.ifCond .lt 14, 3) := by decide +kernel
theorem dc129_6 : decode (pm_mb 129) 6 = .ok (.lload_n 0, 1) := by decide +kernel
theorem dc129_7 : decode (pm_mb 129) 7 = .ok (.lload 4, 2) := by decide +kernel
theorem dc129_9 : decode (pm_mb 129) 9 = .ok (.lcmp, 1) := by decide +kernel
theorem dc129_10 : decode (pm_mb 129) 10 = .ok (.ifCond .gt 7, 3) := by decide +kernel
theorem dc129_13 : decode (pm_mb 129) 13 = .ok (.iconst 1, 1) := by decide +kernel
theorem dc129_14 : decode (pm_mb 129) 14 = .ok (.goto 4, 3) := by decide +kernel
theorem dc129_17 : decode (pm_mb 129) 17 = .ok (.iconst 0, 1) := by decide +kernel
theorem dc129_18 : decode (pm_mb 129) 18 = .ok (.ireturn, 1) := by decide +kernel
theorem b129_0 {X : pm_X} {d : Nat} {x0 : Int64} {x2 : Int64} {x4 : Int64} {g : pm_G} {iv : pm_V}  : pm_at X d 129 (0, [some (.long x0), none, some (.long x2), none, some (.long x4), none], [], g, iv) = if (lg_cmp x0 x2) < 0 then pm_at X d 129 (17, [some (.long x0), none, some (.long x2), none, some (.long x4), none], [], g, iv) else pm_at X d 129 (6, [some (.long x0), none, some (.long x2), none, some (.long x4), none], [], g, iv) := by
  refine (at_lload_n dc129_0 rfl).trans ?_
  refine (at_lload_n dc129_1 rfl).trans ?_
  refine (at_lcmp dc129_2).trans ?_
  exact at_if_lt (t := 17) dc129_3 (by decide)
theorem b129_6 {X : pm_X} {d : Nat} {x0 : Int64} {x2 : Int64} {x4 : Int64} {g : pm_G} {iv : pm_V}  : pm_at X d 129 (6, [some (.long x0), none, some (.long x2), none, some (.long x4), none], [], g, iv) = if 0 < (lg_cmp x0 x4) then pm_at X d 129 (17, [some (.long x0), none, some (.long x2), none, some (.long x4), none], [], g, iv) else pm_at X d 129 (13, [some (.long x0), none, some (.long x2), none, some (.long x4), none], [], g, iv) := by
  refine (at_lload_n dc129_6 rfl).trans ?_
  refine (at_lload dc129_7 rfl).trans ?_
  refine (at_lcmp dc129_9).trans ?_
  exact at_if_gt (t := 17) dc129_10 (by decide)
theorem b129_13 {X : pm_X} {d : Nat} {x0 : Int64} {x2 : Int64} {x4 : Int64} {g : pm_G} {iv : pm_V}  : pm_at X d 129 (13, [some (.long x0), none, some (.long x2), none, some (.long x4), none], [], g, iv) = pm_at X d 129 (18, [some (.long x0), none, some (.long x2), none, some (.long x4), none], [.int 1], g, iv) := by
  refine (at_iconst (v := 1) dc129_13 rfl).trans ?_
  refine (at_goto (t := 18) dc129_14 (by decide)).trans ?_
  rfl
theorem b129_17 {X : pm_X} {d : Nat} {x0 : Int64} {x2 : Int64} {x4 : Int64} {g : pm_G} {iv : pm_V}  : pm_at X d 129 (17, [some (.long x0), none, some (.long x2), none, some (.long x4), none], [], g, iv) = pm_at X d 129 (18, [some (.long x0), none, some (.long x2), none, some (.long x4), none], [.int 0], g, iv) := by
  refine (at_iconst (v := 0) dc129_17 rfl).trans ?_
  rfl
theorem b129_18 {X : pm_X} {d : Nat} {x0 : Int64} {x2 : Int64} {x4 : Int64} {s0 : Int32} {g : pm_G} {iv : pm_V}  : pm_at X d 129 (18, [some (.long x0), none, some (.long x2), none, some (.long x4), none], [.int s0], g, iv) = pm_zr s0 (some (some (.int s0), g, iv)) := by
  exact at_zretG dc129_18 mr129
-- Mod.finding (I)I
theorem dc130_0 : decode (pm_mb 130) 0 = .ok (.aload_n 0, 1) := by decide +kernel
theorem dc130_1 : decode (pm_mb 130) 1 = .ok (.iload_n 1, 1) := by decide +kernel
theorem dc130_2 : decode (pm_mb 130) 2 = .ok (.putfield 54, 3) := by decide +kernel
theorem dc130_5 : decode (pm_mb 130) 5 = .ok (.ldc 57, 2) := by decide +kernel
theorem dc130_7 : decode (pm_mb 130) 7 = .ok (.iload_n 1, 1) := by decide +kernel
theorem dc130_8 : decode (pm_mb 130) 8 = .ok (.isub, 1) := by decide +kernel
theorem dc130_9 : decode (pm_mb 130) 9 = .ok (.ireturn, 1) := by decide +kernel
theorem b130_0 {X : pm_X} {d : Nat} {x1 : Int32} {g : pm_G} {iv : pm_V} (hL : pm_lay g) : pm_at X d 130 (0, [some (.ref 32), some (.int x1)], [], g, iv) = some (some (.int ((-1000010) - x1)), g, (pm_iw iv 32 1 x1)) := by
  refine (at_aload_n dc130_0 rfl).trans ?_
  refine (at_iload_n dc130_1 rfl).trans ?_
  refine (at_pfI dc130_2 mc130 lf6_54 po6_1 (ly32 hL)).trans ?_
  refine (at_ldc dc130_5 mc130 lk6_57).trans ?_
  refine (at_iload_n dc130_7 rfl).trans ?_
  refine (at_isub dc130_8).trans ?_
  exact at_iret dc130_9 mr130
-- Mod.isRow (I)Z
theorem dc131_0 : decode (pm_mb 131) 0 = .ok (.iload_n 0, 1) := by decide +kernel
theorem dc131_1 : decode (pm_mb 131) 1 = .ok (.i2l, 1) := by decide +kernel
theorem dc131_2 : decode (pm_mb 131) 2 = .ok (.lconst 0, 1) := by decide +kernel
theorem dc131_3 : decode (pm_mb 131) 3 = .ok (.ldc2_w 58, 3) := by decide +kernel
theorem dc131_6 : decode (pm_mb 131) 6 = .ok (.invokestatic 60, 3) := by decide +kernel
theorem dc131_9 : decode (pm_mb 131) 9 = .ok (.ireturn, 1) := by decide +kernel
theorem b131_0 {X : pm_X} {d : Nat} {x0 : Int32} {g : pm_G} {iv : pm_V}  : pm_at X d 131 (0, [some (.int x0)], [], g, iv) = pm_then X d 131 9 [some (.int x0)] [] (pm_c X d 129 [.long (x0 : Int32).toInt64, .long 0, .long 7] g iv) := by
  refine (at_iload_n dc131_0 rfl).trans ?_
  refine (at_i2l dc131_1).trans ?_
  refine (at_lconst (v := 0) dc131_2 (by decide)).trans ?_
  refine (at_ldc2 dc131_3 mc131 ll6_58).trans ?_
  exact at_ins dc131_6 mc131 lm6_60 (Nat.le_of_ble_eq_true rfl) rfl rfl (Nat.le_of_ble_eq_true rfl)
theorem b131_9 {X : pm_X} {d : Nat} {x0 : Int32} {s0 : Int32} {g : pm_G} {iv : pm_V}  : pm_at X d 131 (9, [some (.int x0)], [.int s0], g, iv) = pm_zr s0 (some (some (.int s0), g, iv)) := by
  exact at_zretG dc131_9 mr131
-- Mod.row (III)I
theorem dc132_0 : decode (pm_mb 132) 0 = .ok (.aload_n 0, 1) := by decide +kernel
theorem dc132_1 : decode (pm_mb 132) 1 = .ok (.iconst 0, 1) := by decide +kernel
theorem dc132_2 : decode (pm_mb 132) 2 = .ok (.putfield 50, 3) := by decide +kernel
theorem dc132_5 : decode (pm_mb 132) 5 = .ok (.iload_n 1, 1) := by decide +kernel
theorem dc132_6 : decode (pm_mb 132) 6 = .ok (.invokestatic 64, 3) := by decide +kernel
theorem dc132_9 : decode (pm_mb 132) 9 = .ok (.ifCond .eq 21, 3) := by decide +kernel
theorem dc132_12 : decode (pm_mb 132) 12 = .ok (.iload_n 2, 1) := by decide +kernel
theorem dc132_13 : decode (pm_mb 132) 13 = .ok (.i2l, 1) := by decide +kernel
theorem dc132_14 : decode (pm_mb 132) 14 = .ok (.lconst 0, 1) := by decide +kernel
theorem dc132_15 : decode (pm_mb 132) 15 = .ok (.ldc2_w 68, 3) := by decide +kernel
theorem dc132_18 : decode (pm_mb 132) 18 = .ok (.invokestatic 60, 3) := by decide +kernel
theorem dc132_21 : decode (pm_mb 132) 21 = .ok (.ifCond .eq 9, 3) := by decide +kernel
theorem dc132_24 : decode (pm_mb 132) 24 = .ok (.iload_n 3, 1) := by decide +kernel
theorem dc132_25 : decode (pm_mb 132) 25 = .ok (.bipush 40, 2) := by decide +kernel
theorem dc132_27 : decode (pm_mb 132) 27 = .ok (.if_icmp .le 6, 3) := by decide +kernel
theorem dc132_30 : decode (pm_mb 132) 30 = .ok (.ldc 70, 2) := by decide +kernel
theorem dc132_32 : decode (pm_mb 132) 32 = .ok (.ireturn, 1) := by decide +kernel
theorem dc132_33 : decode (pm_mb 132) 33 = .ok (.aload_n 0, 1) := by decide +kernel
theorem dc132_34 : decode (pm_mb 132) 34 = .ok (.iconst 0, 1) := by decide +kernel
theorem dc132_35 : decode (pm_mb 132) 35 = .ok (.putfield 54, 3) := by decide +kernel
theorem dc132_38 : decode (pm_mb 132) 38 = .ok (.iload_n 3, 1) := by decide +kernel
theorem dc132_39 : decode (pm_mb 132) 39 = .ok (.ifCond .ge 9, 3) := by decide +kernel
theorem dc132_42 : decode (pm_mb 132) 42 = .ok (.aload_n 0, 1) := by decide +kernel
theorem dc132_43 : decode (pm_mb 132) 43 = .ok (.iconst 4, 1) := by decide +kernel
theorem dc132_44 : decode (pm_mb 132) 44 = .ok (.invokevirtual 71, 3) := by decide +kernel
theorem dc132_47 : decode (pm_mb 132) 47 = .ok (.ireturn, 1) := by decide +kernel
theorem dc132_48 : decode (pm_mb 132) 48 = .ok (.aload_n 0, 1) := by decide +kernel
theorem dc132_49 : decode (pm_mb 132) 49 = .ok (.getfield 7, 3) := by decide +kernel
theorem dc132_52 : decode (pm_mb 132) 52 = .ok (.iload_n 1, 1) := by decide +kernel
theorem dc132_53 : decode (pm_mb 132) 53 = .ok (.iload_n 2, 1) := by decide +kernel
theorem dc132_54 : decode (pm_mb 132) 54 = .ok (.iastore, 1) := by decide +kernel
theorem dc132_55 : decode (pm_mb 132) 55 = .ok (.aload_n 0, 1) := by decide +kernel
theorem dc132_56 : decode (pm_mb 132) 56 = .ok (.getfield 13, 3) := by decide +kernel
theorem dc132_59 : decode (pm_mb 132) 59 = .ok (.iload_n 1, 1) := by decide +kernel
theorem dc132_60 : decode (pm_mb 132) 60 = .ok (.iload_n 3, 1) := by decide +kernel
theorem dc132_61 : decode (pm_mb 132) 61 = .ok (.iastore, 1) := by decide +kernel
theorem dc132_62 : decode (pm_mb 132) 62 = .ok (.iconst 0, 1) := by decide +kernel
theorem dc132_63 : decode (pm_mb 132) 63 = .ok (.istore 4, 2) := by decide +kernel
theorem dc132_65 : decode (pm_mb 132) 65 = .ok (.iload 4, 2) := by decide +kernel
theorem dc132_67 : decode (pm_mb 132) 67 = .ok (.bipush 40, 2) := by decide +kernel
theorem dc132_69 : decode (pm_mb 132) 69 = .ok (.if_icmp .ge 22, 3) := by decide +kernel
theorem dc132_72 : decode (pm_mb 132) 72 = .ok (.aload_n 0, 1) := by decide +kernel
theorem dc132_73 : decode (pm_mb 132) 73 = .ok (.getfield 16, 3) := by decide +kernel
theorem dc132_76 : decode (pm_mb 132) 76 = .ok (.bipush 40, 2) := by decide +kernel
theorem dc132_78 : decode (pm_mb 132) 78 = .ok (.iload_n 1, 1) := by decide +kernel
theorem dc132_79 : decode (pm_mb 132) 79 = .ok (.imul, 1) := by decide +kernel
theorem dc132_80 : decode (pm_mb 132) 80 = .ok (.iload 4, 2) := by decide +kernel
theorem dc132_82 : decode (pm_mb 132) 82 = .ok (.iadd, 1) := by decide +kernel
theorem dc132_83 : decode (pm_mb 132) 83 = .ok (.iconst 0, 1) := by decide +kernel
theorem dc132_84 : decode (pm_mb 132) 84 = .ok (.iastore, 1) := by decide +kernel
theorem dc132_85 : decode (pm_mb 132) 85 = .ok (.iinc 4 1, 3) := by decide +kernel
theorem dc132_88 : decode (pm_mb 132) 88 = .ok (.goto (-23), 3) := by decide +kernel
theorem dc132_91 : decode (pm_mb 132) 91 = .ok (.iload_n 3, 1) := by decide +kernel
theorem dc132_92 : decode (pm_mb 132) 92 = .ok (.ireturn, 1) := by decide +kernel
theorem b132_0 {X : pm_X} {d : Nat} {x1 : Int32} {x2 : Int32} {x3 : Int32} {g : pm_G} {iv : pm_V} (hL : pm_lay g) : pm_at X d 132 (0, [some (.ref 32), some (.int x1), some (.int x2), some (.int x3), none], [], g, iv) = pm_then X d 132 9 [some (.ref 32), some (.int x1), some (.int x2), some (.int x3), none] [] (pm_c X d 131 [.int x1] g (pm_iw iv 32 0 0)) := by
  refine (at_aload_n dc132_0 rfl).trans ?_
  refine (at_iconst (v := 0) dc132_1 rfl).trans ?_
  refine (at_pfI dc132_2 mc132 lf6_50 po6_0 (ly32 hL)).trans ?_
  refine (at_iload_n dc132_5 rfl).trans ?_
  exact at_ins dc132_6 mc132 lm6_64 (Nat.le_of_ble_eq_true rfl) rfl rfl (Nat.le_of_ble_eq_true rfl)
theorem b132_9 {X : pm_X} {d : Nat} {x1 : Int32} {x2 : Int32} {x3 : Int32} {s0 : Int32} {g : pm_G} {iv : pm_V}  : pm_at X d 132 (9, [some (.ref 32), some (.int x1), some (.int x2), some (.int x3), none], [.int s0], g, iv) = if s0 = 0 then pm_at X d 132 (30, [some (.ref 32), some (.int x1), some (.int x2), some (.int x3), none], [], g, iv) else pm_at X d 132 (12, [some (.ref 32), some (.int x1), some (.int x2), some (.int x3), none], [], g, iv) := by
  exact at_if_eq (t := 30) dc132_9 (by decide)
theorem b132_12 {X : pm_X} {d : Nat} {x1 : Int32} {x2 : Int32} {x3 : Int32} {g : pm_G} {iv : pm_V}  : pm_at X d 132 (12, [some (.ref 32), some (.int x1), some (.int x2), some (.int x3), none], [], g, iv) = pm_then X d 132 21 [some (.ref 32), some (.int x1), some (.int x2), some (.int x3), none] [] (pm_c X d 129 [.long (x2 : Int32).toInt64, .long 0, .long 2] g iv) := by
  refine (at_iload_n dc132_12 rfl).trans ?_
  refine (at_i2l dc132_13).trans ?_
  refine (at_lconst (v := 0) dc132_14 (by decide)).trans ?_
  refine (at_ldc2 dc132_15 mc132 ll6_68).trans ?_
  exact at_ins dc132_18 mc132 lm6_60 (Nat.le_of_ble_eq_true rfl) rfl rfl (Nat.le_of_ble_eq_true rfl)
theorem b132_21 {X : pm_X} {d : Nat} {x1 : Int32} {x2 : Int32} {x3 : Int32} {s0 : Int32} {g : pm_G} {iv : pm_V}  : pm_at X d 132 (21, [some (.ref 32), some (.int x1), some (.int x2), some (.int x3), none], [.int s0], g, iv) = if s0 = 0 then pm_at X d 132 (30, [some (.ref 32), some (.int x1), some (.int x2), some (.int x3), none], [], g, iv) else pm_at X d 132 (24, [some (.ref 32), some (.int x1), some (.int x2), some (.int x3), none], [], g, iv) := by
  exact at_if_eq (t := 30) dc132_21 (by decide)
theorem b132_24 {X : pm_X} {d : Nat} {x1 : Int32} {x2 : Int32} {x3 : Int32} {g : pm_G} {iv : pm_V}  : pm_at X d 132 (24, [some (.ref 32), some (.int x1), some (.int x2), some (.int x3), none], [], g, iv) = if x3 ≤ 40 then pm_at X d 132 (33, [some (.ref 32), some (.int x1), some (.int x2), some (.int x3), none], [], g, iv) else pm_at X d 132 (30, [some (.ref 32), some (.int x1), some (.int x2), some (.int x3), none], [], g, iv) := by
  refine (at_iload_n dc132_24 rfl).trans ?_
  refine (at_bipush (v := 40) dc132_25 (by decide)).trans ?_
  exact at_icmp_le (t := 33) dc132_27 (by decide)
theorem b132_30 {X : pm_X} {d : Nat} {x1 : Int32} {x2 : Int32} {x3 : Int32} {g : pm_G} {iv : pm_V}  : pm_at X d 132 (30, [some (.ref 32), some (.int x1), some (.int x2), some (.int x3), none], [], g, iv) = some (some (.int (-1000001)), g, iv) := by
  refine (at_ldc dc132_30 mc132 lk6_70).trans ?_
  exact at_iret dc132_32 mr132
theorem b132_33 {X : pm_X} {d : Nat} {x1 : Int32} {x2 : Int32} {x3 : Int32} {g : pm_G} {iv : pm_V} (hL : pm_lay g) : pm_at X d 132 (33, [some (.ref 32), some (.int x1), some (.int x2), some (.int x3), none], [], g, iv) = if 0 ≤ x3 then pm_at X d 132 (48, [some (.ref 32), some (.int x1), some (.int x2), some (.int x3), none], [], g, (pm_iw iv 32 1 0)) else pm_at X d 132 (42, [some (.ref 32), some (.int x1), some (.int x2), some (.int x3), none], [], g, (pm_iw iv 32 1 0)) := by
  refine (at_aload_n dc132_33 rfl).trans ?_
  refine (at_iconst (v := 0) dc132_34 rfl).trans ?_
  refine (at_pfI dc132_35 mc132 lf6_54 po6_1 (ly32 hL)).trans ?_
  refine (at_iload_n dc132_38 rfl).trans ?_
  exact at_if_ge (t := 48) dc132_39 (by decide)
theorem b132_42 {X : pm_X} {d : Nat} {x1 : Int32} {x2 : Int32} {x3 : Int32} {g : pm_G} {iv : pm_V} (hL : pm_lay g) : pm_at X d 132 (42, [some (.ref 32), some (.int x1), some (.int x2), some (.int x3), none], [], g, iv) = pm_then X d 132 47 [some (.ref 32), some (.int x1), some (.int x2), some (.int x3), none] [] (pm_c X d 130 [.ref 32, .int 4] g iv) := by
  refine (at_aload_n dc132_42 rfl).trans ?_
  refine (at_iconst (v := 4) dc132_43 rfl).trans ?_
  exact at_inv dc132_44 mc132 lm6_71 rfl rfl (Nat.le_of_ble_eq_true rfl) (Or.inl ⟨(ly32 hL), by decide⟩)
theorem b132_47 {X : pm_X} {d : Nat} {x1 : Int32} {x2 : Int32} {x3 : Int32} {s0 : Int32} {g : pm_G} {iv : pm_V}  : pm_at X d 132 (47, [some (.ref 32), some (.int x1), some (.int x2), some (.int x3), none], [.int s0], g, iv) = some (some (.int s0), g, iv) := by
  exact at_iret dc132_47 mr132
theorem b132_48 {X : pm_X} {d : Nat} {x1 : Int32} {x2 : Int32} {x3 : Int32} {g : pm_G} {iv : pm_V} (hL : pm_lay g) (i1 : vp_in x1 8) : pm_at X d 132 (48, [some (.ref 32), some (.int x1), some (.int x2), some (.int x3), none], [], g, iv) = pm_at X d 132 (65, [some (.ref 32), some (.int x1), some (.int x2), some (.int x3), some (.int 0)], [], g, (pm_iw (pm_iw iv 33 (x1 : Int32).toNatClampNeg x2) 34 (x1 : Int32).toNatClampNeg x3)) := by
  refine (at_aload_n dc132_48 rfl).trans ?_
  refine (at_gfR dc132_49 mc132 lf6_7 fo6_2 (ly32 hL) (lr32_2 hL)).trans ?_
  refine (at_iload_n dc132_52 rfl).trans ?_
  refine (at_iload_n dc132_53 rfl).trans ?_
  refine (at_iast dc132_54 (ly33 hL) i1).trans ?_
  refine (at_aload_n dc132_55 rfl).trans ?_
  refine (at_gfR dc132_56 mc132 lf6_13 fo6_3 (ly32 hL) (lr32_3 hL)).trans ?_
  refine (at_iload_n dc132_59 rfl).trans ?_
  refine (at_iload_n dc132_60 rfl).trans ?_
  refine (at_iast dc132_61 (ly34 hL) i1).trans ?_
  refine (at_iconst (v := 0) dc132_62 rfl).trans ?_
  refine (at_istore dc132_63 rfl).trans ?_
  rfl
theorem b132_65 {X : pm_X} {d : Nat} {x1 : Int32} {x2 : Int32} {x3 : Int32} {x4 : Int32} {g : pm_G} {iv : pm_V}  : pm_at X d 132 (65, [some (.ref 32), some (.int x1), some (.int x2), some (.int x3), some (.int x4)], [], g, iv) = if 40 ≤ x4 then pm_at X d 132 (91, [some (.ref 32), some (.int x1), some (.int x2), some (.int x3), some (.int x4)], [], g, iv) else pm_at X d 132 (72, [some (.ref 32), some (.int x1), some (.int x2), some (.int x3), some (.int x4)], [], g, iv) := by
  refine (at_iload dc132_65 rfl).trans ?_
  refine (at_bipush (v := 40) dc132_67 (by decide)).trans ?_
  exact at_icmp_ge (t := 91) dc132_69 (by decide)
theorem b132_72 {X : pm_X} {d : Nat} {x1 : Int32} {x2 : Int32} {x3 : Int32} {x4 : Int32} {g : pm_G} {iv : pm_V} (hL : pm_lay g) (i1 : vp_in (((40 * x1) + x4)) 320) : pm_at X d 132 (72, [some (.ref 32), some (.int x1), some (.int x2), some (.int x3), some (.int x4)], [], g, iv) = pm_at X d 132 (65, [some (.ref 32), some (.int x1), some (.int x2), some (.int x3), some (.int (x4 + 1))], [], g, (pm_iw iv 35 (((40 * x1) + x4) : Int32).toNatClampNeg 0)) := by
  refine (at_aload_n dc132_72 rfl).trans ?_
  refine (at_gfR dc132_73 mc132 lf6_16 fo6_4 (ly32 hL) (lr32_4 hL)).trans ?_
  refine (at_bipush (v := 40) dc132_76 (by decide)).trans ?_
  refine (at_iload_n dc132_78 rfl).trans ?_
  refine (at_imul dc132_79).trans ?_
  refine (at_iload dc132_80 rfl).trans ?_
  refine (at_iadd dc132_82).trans ?_
  refine (at_iconst (v := 0) dc132_83 rfl).trans ?_
  refine (at_iast dc132_84 (ly35 hL) i1).trans ?_
  refine (at_iinc (v := 1) dc132_85 rfl (by decide) rfl).trans ?_
  refine (at_goto (t := 65) dc132_88 (by decide)).trans ?_
  rfl
theorem b132_91 {X : pm_X} {d : Nat} {x1 : Int32} {x2 : Int32} {x3 : Int32} {x4 : Int32} {g : pm_G} {iv : pm_V}  : pm_at X d 132 (91, [some (.ref 32), some (.int x1), some (.int x2), some (.int x3), some (.int x4)], [], g, iv) = some (some (.int x3), g, iv) := by
  refine (at_iload_n dc132_91 rfl).trans ?_
  exact at_iret dc132_92 mr132
-- Mod.set (III)I
theorem dc133_0 : decode (pm_mb 133) 0 = .ok (.aload_n 0, 1) := by decide +kernel
theorem dc133_1 : decode (pm_mb 133) 1 = .ok (.iconst 0, 1) := by decide +kernel
theorem dc133_2 : decode (pm_mb 133) 2 = .ok (.putfield 50, 3) := by decide +kernel
theorem dc133_5 : decode (pm_mb 133) 5 = .ok (.iload_n 1, 1) := by decide +kernel
theorem dc133_6 : decode (pm_mb 133) 6 = .ok (.invokestatic 64, 3) := by decide +kernel
theorem dc133_9 : decode (pm_mb 133) 9 = .ok (.ifCond .ne 6, 3) := by decide +kernel
theorem dc133_12 : decode (pm_mb 133) 12 = .ok (.ldc 70, 2) := by decide +kernel
theorem dc133_14 : decode (pm_mb 133) 14 = .ok (.ireturn, 1) := by decide +kernel
theorem dc133_15 : decode (pm_mb 133) 15 = .ok (.aload_n 0, 1) := by decide +kernel
theorem dc133_16 : decode (pm_mb 133) 16 = .ok (.iconst 0, 1) := by decide +kernel
theorem dc133_17 : decode (pm_mb 133) 17 = .ok (.putfield 54, 3) := by decide +kernel
theorem dc133_20 : decode (pm_mb 133) 20 = .ok (.aload_n 0, 1) := by decide +kernel
theorem dc133_21 : decode (pm_mb 133) 21 = .ok (.getfield 7, 3) := by decide +kernel
theorem dc133_24 : decode (pm_mb 133) 24 = .ok (.iload_n 1, 1) := by decide +kernel
theorem dc133_25 : decode (pm_mb 133) 25 = .ok (.iaload, 1) := by decide +kernel
theorem dc133_26 : decode (pm_mb 133) 26 = .ok (.ifCond .ge 9, 3) := by decide +kernel
theorem dc133_29 : decode (pm_mb 133) 29 = .ok (.aload_n 0, 1) := by decide +kernel
theorem dc133_30 : decode (pm_mb 133) 30 = .ok (.iconst 1, 1) := by decide +kernel
theorem dc133_31 : decode (pm_mb 133) 31 = .ok (.invokevirtual 71, 3) := by decide +kernel
theorem dc133_34 : decode (pm_mb 133) 34 = .ok (.ireturn, 1) := by decide +kernel
theorem dc133_35 : decode (pm_mb 133) 35 = .ok (.iload_n 2, 1) := by decide +kernel
theorem dc133_36 : decode (pm_mb 133) 36 = .ok (.i2l, 1) := by decide +kernel
theorem dc133_37 : decode (pm_mb 133) 37 = .ok (.lconst 0, 1) := by decide +kernel
theorem dc133_38 : decode (pm_mb 133) 38 = .ok (.aload_n 0, 1) := by decide +kernel
theorem dc133_39 : decode (pm_mb 133) 39 = .ok (.getfield 13, 3) := by decide +kernel
theorem dc133_42 : decode (pm_mb 133) 42 = .ok (.iload_n 1, 1) := by decide +kernel
theorem dc133_43 : decode (pm_mb 133) 43 = .ok (.iaload, 1) := by decide +kernel
theorem dc133_44 : decode (pm_mb 133) 44 = .ok (.iconst 1, 1) := by decide +kernel
theorem dc133_45 : decode (pm_mb 133) 45 = .ok (.isub, 1) := by decide +kernel
theorem dc133_46 : decode (pm_mb 133) 46 = .ok (.i2l, 1) := by decide +kernel
theorem dc133_47 : decode (pm_mb 133) 47 = .ok (.invokestatic 60, 3) := by decide +kernel
theorem dc133_50 : decode (pm_mb 133) 50 = .ok (.ifCond .ne 9, 3) := by decide +kernel
theorem dc133_53 : decode (pm_mb 133) 53 = .ok (.aload_n 0, 1) := by decide +kernel
theorem dc133_54 : decode (pm_mb 133) 54 = .ok (.iconst 2, 1) := by decide +kernel
theorem dc133_55 : decode (pm_mb 133) 55 = .ok (.invokevirtual 71, 3) := by decide +kernel
theorem dc133_58 : decode (pm_mb 133) 58 = .ok (.ireturn, 1) := by decide +kernel
theorem dc133_59 : decode (pm_mb 133) 59 = .ok (.aload_n 0, 1) := by decide +kernel
theorem dc133_60 : decode (pm_mb 133) 60 = .ok (.getfield 16, 3) := by decide +kernel
theorem dc133_63 : decode (pm_mb 133) 63 = .ok (.bipush 40, 2) := by decide +kernel
theorem dc133_65 : decode (pm_mb 133) 65 = .ok (.iload_n 1, 1) := by decide +kernel
theorem dc133_66 : decode (pm_mb 133) 66 = .ok (.imul, 1) := by decide +kernel
theorem dc133_67 : decode (pm_mb 133) 67 = .ok (.iload_n 2, 1) := by decide +kernel
theorem dc133_68 : decode (pm_mb 133) 68 = .ok (.iadd, 1) := by decide +kernel
theorem dc133_69 : decode (pm_mb 133) 69 = .ok (.aload_n 0, 1) := by decide +kernel
theorem dc133_70 : decode (pm_mb 133) 70 = .ok (.getfield 7, 3) := by decide +kernel
theorem dc133_73 : decode (pm_mb 133) 73 = .ok (.iload_n 1, 1) := by decide +kernel
theorem dc133_74 : decode (pm_mb 133) 74 = .ok (.iaload, 1) := by decide +kernel
theorem dc133_75 : decode (pm_mb 133) 75 = .ok (.ifCond .ne 8, 3) := by decide +kernel
theorem dc133_78 : decode (pm_mb 133) 78 = .ok (.iload_n 3, 1) := by decide +kernel
theorem dc133_79 : decode (pm_mb 133) 79 = .ok (.i2b, 1) := by decide +kernel
theorem dc133_80 : decode (pm_mb 133) 80 = .ok (.goto 19, 3) := by decide +kernel
theorem dc133_83 : decode (pm_mb 133) 83 = .ok (.aload_n 0, 1) := by decide +kernel
theorem dc133_84 : decode (pm_mb 133) 84 = .ok (.getfield 7, 3) := by decide +kernel
theorem dc133_87 : decode (pm_mb 133) 87 = .ok (.iload_n 1, 1) := by decide +kernel
theorem dc133_88 : decode (pm_mb 133) 88 = .ok (.iaload, 1) := by decide +kernel
theorem dc133_89 : decode (pm_mb 133) 89 = .ok (.iconst 1, 1) := by decide +kernel
theorem dc133_90 : decode (pm_mb 133) 90 = .ok (.if_icmp .ne 8, 3) := by decide +kernel
theorem dc133_93 : decode (pm_mb 133) 93 = .ok (.iload_n 3, 1) := by decide +kernel
theorem dc133_94 : decode (pm_mb 133) 94 = .ok (.i2s, 1) := by decide +kernel
theorem dc133_95 : decode (pm_mb 133) 95 = .ok (.goto 4, 3) := by decide +kernel
theorem dc133_98 : decode (pm_mb 133) 98 = .ok (.iload_n 3, 1) := by decide +kernel
theorem dc133_99 : decode (pm_mb 133) 99 = .ok (.iastore, 1) := by decide +kernel
theorem dc133_100 : decode (pm_mb 133) 100 = .ok (.aload_n 0, 1) := by decide +kernel
theorem dc133_101 : decode (pm_mb 133) 101 = .ok (.getfield 16, 3) := by decide +kernel
theorem dc133_104 : decode (pm_mb 133) 104 = .ok (.bipush 40, 2) := by decide +kernel
theorem dc133_106 : decode (pm_mb 133) 106 = .ok (.iload_n 1, 1) := by decide +kernel
theorem dc133_107 : decode (pm_mb 133) 107 = .ok (.imul, 1) := by decide +kernel
theorem dc133_108 : decode (pm_mb 133) 108 = .ok (.iload_n 2, 1) := by decide +kernel
theorem dc133_109 : decode (pm_mb 133) 109 = .ok (.iadd, 1) := by decide +kernel
theorem dc133_110 : decode (pm_mb 133) 110 = .ok (.iaload, 1) := by decide +kernel
theorem dc133_111 : decode (pm_mb 133) 111 = .ok (.ireturn, 1) := by decide +kernel
theorem b133_0 {X : pm_X} {d : Nat} {x1 : Int32} {x2 : Int32} {x3 : Int32} {g : pm_G} {iv : pm_V} (hL : pm_lay g) : pm_at X d 133 (0, [some (.ref 32), some (.int x1), some (.int x2), some (.int x3)], [], g, iv) = pm_then X d 133 9 [some (.ref 32), some (.int x1), some (.int x2), some (.int x3)] [] (pm_c X d 131 [.int x1] g (pm_iw iv 32 0 0)) := by
  refine (at_aload_n dc133_0 rfl).trans ?_
  refine (at_iconst (v := 0) dc133_1 rfl).trans ?_
  refine (at_pfI dc133_2 mc133 lf6_50 po6_0 (ly32 hL)).trans ?_
  refine (at_iload_n dc133_5 rfl).trans ?_
  exact at_ins dc133_6 mc133 lm6_64 (Nat.le_of_ble_eq_true rfl) rfl rfl (Nat.le_of_ble_eq_true rfl)
theorem b133_9 {X : pm_X} {d : Nat} {x1 : Int32} {x2 : Int32} {x3 : Int32} {s0 : Int32} {g : pm_G} {iv : pm_V}  : pm_at X d 133 (9, [some (.ref 32), some (.int x1), some (.int x2), some (.int x3)], [.int s0], g, iv) = if ¬ s0 = 0 then pm_at X d 133 (15, [some (.ref 32), some (.int x1), some (.int x2), some (.int x3)], [], g, iv) else pm_at X d 133 (12, [some (.ref 32), some (.int x1), some (.int x2), some (.int x3)], [], g, iv) := by
  exact at_if_ne (t := 15) dc133_9 (by decide)
theorem b133_12 {X : pm_X} {d : Nat} {x1 : Int32} {x2 : Int32} {x3 : Int32} {g : pm_G} {iv : pm_V}  : pm_at X d 133 (12, [some (.ref 32), some (.int x1), some (.int x2), some (.int x3)], [], g, iv) = some (some (.int (-1000001)), g, iv) := by
  refine (at_ldc dc133_12 mc133 lk6_70).trans ?_
  exact at_iret dc133_14 mr133
theorem b133_15 {X : pm_X} {d : Nat} {x1 : Int32} {x2 : Int32} {x3 : Int32} {g : pm_G} {iv : pm_V} (hL : pm_lay g) (i1 : vp_in x1 8) : pm_at X d 133 (15, [some (.ref 32), some (.int x1), some (.int x2), some (.int x3)], [], g, iv) = if 0 ≤ ((pm_iw iv 32 1 0) 33 (x1 : Int32).toNatClampNeg) then pm_at X d 133 (35, [some (.ref 32), some (.int x1), some (.int x2), some (.int x3)], [], g, (pm_iw iv 32 1 0)) else pm_at X d 133 (29, [some (.ref 32), some (.int x1), some (.int x2), some (.int x3)], [], g, (pm_iw iv 32 1 0)) := by
  refine (at_aload_n dc133_15 rfl).trans ?_
  refine (at_iconst (v := 0) dc133_16 rfl).trans ?_
  refine (at_pfI dc133_17 mc133 lf6_54 po6_1 (ly32 hL)).trans ?_
  refine (at_aload_n dc133_20 rfl).trans ?_
  refine (at_gfR dc133_21 mc133 lf6_7 fo6_2 (ly32 hL) (lr32_2 hL)).trans ?_
  refine (at_iload_n dc133_24 rfl).trans ?_
  refine (at_iald dc133_25 (ly33 hL) i1).trans ?_
  exact at_if_ge (t := 35) dc133_26 (by decide)
theorem b133_29 {X : pm_X} {d : Nat} {x1 : Int32} {x2 : Int32} {x3 : Int32} {g : pm_G} {iv : pm_V} (hL : pm_lay g) : pm_at X d 133 (29, [some (.ref 32), some (.int x1), some (.int x2), some (.int x3)], [], g, iv) = pm_then X d 133 34 [some (.ref 32), some (.int x1), some (.int x2), some (.int x3)] [] (pm_c X d 130 [.ref 32, .int 1] g iv) := by
  refine (at_aload_n dc133_29 rfl).trans ?_
  refine (at_iconst (v := 1) dc133_30 rfl).trans ?_
  exact at_inv dc133_31 mc133 lm6_71 rfl rfl (Nat.le_of_ble_eq_true rfl) (Or.inl ⟨(ly32 hL), by decide⟩)
theorem b133_34 {X : pm_X} {d : Nat} {x1 : Int32} {x2 : Int32} {x3 : Int32} {s0 : Int32} {g : pm_G} {iv : pm_V}  : pm_at X d 133 (34, [some (.ref 32), some (.int x1), some (.int x2), some (.int x3)], [.int s0], g, iv) = some (some (.int s0), g, iv) := by
  exact at_iret dc133_34 mr133
theorem b133_35 {X : pm_X} {d : Nat} {x1 : Int32} {x2 : Int32} {x3 : Int32} {g : pm_G} {iv : pm_V} (hL : pm_lay g) (i1 : vp_in x1 8) : pm_at X d 133 (35, [some (.ref 32), some (.int x1), some (.int x2), some (.int x3)], [], g, iv) = pm_then X d 133 50 [some (.ref 32), some (.int x1), some (.int x2), some (.int x3)] [] (pm_c X d 129 [.long (x2 : Int32).toInt64, .long 0, .long (((iv 34 (x1 : Int32).toNatClampNeg) - 1) : Int32).toInt64] g iv) := by
  refine (at_iload_n dc133_35 rfl).trans ?_
  refine (at_i2l dc133_36).trans ?_
  refine (at_lconst (v := 0) dc133_37 (by decide)).trans ?_
  refine (at_aload_n dc133_38 rfl).trans ?_
  refine (at_gfR dc133_39 mc133 lf6_13 fo6_3 (ly32 hL) (lr32_3 hL)).trans ?_
  refine (at_iload_n dc133_42 rfl).trans ?_
  refine (at_iald dc133_43 (ly34 hL) i1).trans ?_
  refine (at_iconst (v := 1) dc133_44 rfl).trans ?_
  refine (at_isub dc133_45).trans ?_
  refine (at_i2l dc133_46).trans ?_
  exact at_ins dc133_47 mc133 lm6_60 (Nat.le_of_ble_eq_true rfl) rfl rfl (Nat.le_of_ble_eq_true rfl)
theorem b133_50 {X : pm_X} {d : Nat} {x1 : Int32} {x2 : Int32} {x3 : Int32} {s0 : Int32} {g : pm_G} {iv : pm_V}  : pm_at X d 133 (50, [some (.ref 32), some (.int x1), some (.int x2), some (.int x3)], [.int s0], g, iv) = if ¬ s0 = 0 then pm_at X d 133 (59, [some (.ref 32), some (.int x1), some (.int x2), some (.int x3)], [], g, iv) else pm_at X d 133 (53, [some (.ref 32), some (.int x1), some (.int x2), some (.int x3)], [], g, iv) := by
  exact at_if_ne (t := 59) dc133_50 (by decide)
theorem b133_53 {X : pm_X} {d : Nat} {x1 : Int32} {x2 : Int32} {x3 : Int32} {g : pm_G} {iv : pm_V} (hL : pm_lay g) : pm_at X d 133 (53, [some (.ref 32), some (.int x1), some (.int x2), some (.int x3)], [], g, iv) = pm_then X d 133 58 [some (.ref 32), some (.int x1), some (.int x2), some (.int x3)] [] (pm_c X d 130 [.ref 32, .int 2] g iv) := by
  refine (at_aload_n dc133_53 rfl).trans ?_
  refine (at_iconst (v := 2) dc133_54 rfl).trans ?_
  exact at_inv dc133_55 mc133 lm6_71 rfl rfl (Nat.le_of_ble_eq_true rfl) (Or.inl ⟨(ly32 hL), by decide⟩)
theorem b133_58 {X : pm_X} {d : Nat} {x1 : Int32} {x2 : Int32} {x3 : Int32} {s0 : Int32} {g : pm_G} {iv : pm_V}  : pm_at X d 133 (58, [some (.ref 32), some (.int x1), some (.int x2), some (.int x3)], [.int s0], g, iv) = some (some (.int s0), g, iv) := by
  exact at_iret dc133_58 mr133
theorem b133_59 {X : pm_X} {d : Nat} {x1 : Int32} {x2 : Int32} {x3 : Int32} {g : pm_G} {iv : pm_V} (hL : pm_lay g) (i1 : vp_in x1 8) : pm_at X d 133 (59, [some (.ref 32), some (.int x1), some (.int x2), some (.int x3)], [], g, iv) = if ¬ (iv 33 (x1 : Int32).toNatClampNeg) = 0 then pm_at X d 133 (83, [some (.ref 32), some (.int x1), some (.int x2), some (.int x3)], [.int ((40 * x1) + x2), .ref 35], g, iv) else pm_at X d 133 (78, [some (.ref 32), some (.int x1), some (.int x2), some (.int x3)], [.int ((40 * x1) + x2), .ref 35], g, iv) := by
  refine (at_aload_n dc133_59 rfl).trans ?_
  refine (at_gfR dc133_60 mc133 lf6_16 fo6_4 (ly32 hL) (lr32_4 hL)).trans ?_
  refine (at_bipush (v := 40) dc133_63 (by decide)).trans ?_
  refine (at_iload_n dc133_65 rfl).trans ?_
  refine (at_imul dc133_66).trans ?_
  refine (at_iload_n dc133_67 rfl).trans ?_
  refine (at_iadd dc133_68).trans ?_
  refine (at_aload_n dc133_69 rfl).trans ?_
  refine (at_gfR dc133_70 mc133 lf6_7 fo6_2 (ly32 hL) (lr32_2 hL)).trans ?_
  refine (at_iload_n dc133_73 rfl).trans ?_
  refine (at_iald dc133_74 (ly33 hL) i1).trans ?_
  exact at_if_ne (t := 83) dc133_75 (by decide)
theorem b133_78 {X : pm_X} {d : Nat} {x1 : Int32} {x2 : Int32} {x3 : Int32} {s0 : Int32} {g : pm_G} {iv : pm_V}  : pm_at X d 133 (78, [some (.ref 32), some (.int x1), some (.int x2), some (.int x3)], [.int s0, .ref 35], g, iv) = pm_at X d 133 (99, [some (.ref 32), some (.int x1), some (.int x2), some (.int x3)], [.int x3.toInt8.toInt32, .int s0, .ref 35], g, iv) := by
  refine (at_iload_n dc133_78 rfl).trans ?_
  refine (at_i2b dc133_79).trans ?_
  refine (at_goto (t := 99) dc133_80 (by decide)).trans ?_
  rfl
theorem b133_83 {X : pm_X} {d : Nat} {x1 : Int32} {x2 : Int32} {x3 : Int32} {s0 : Int32} {g : pm_G} {iv : pm_V} (hL : pm_lay g) (i1 : vp_in x1 8) : pm_at X d 133 (83, [some (.ref 32), some (.int x1), some (.int x2), some (.int x3)], [.int s0, .ref 35], g, iv) = if ¬ (iv 33 (x1 : Int32).toNatClampNeg) = 1 then pm_at X d 133 (98, [some (.ref 32), some (.int x1), some (.int x2), some (.int x3)], [.int s0, .ref 35], g, iv) else pm_at X d 133 (93, [some (.ref 32), some (.int x1), some (.int x2), some (.int x3)], [.int s0, .ref 35], g, iv) := by
  refine (at_aload_n dc133_83 rfl).trans ?_
  refine (at_gfR dc133_84 mc133 lf6_7 fo6_2 (ly32 hL) (lr32_2 hL)).trans ?_
  refine (at_iload_n dc133_87 rfl).trans ?_
  refine (at_iald dc133_88 (ly33 hL) i1).trans ?_
  refine (at_iconst (v := 1) dc133_89 rfl).trans ?_
  exact at_icmp_ne (t := 98) dc133_90 (by decide)
theorem b133_93 {X : pm_X} {d : Nat} {x1 : Int32} {x2 : Int32} {x3 : Int32} {s0 : Int32} {g : pm_G} {iv : pm_V}  : pm_at X d 133 (93, [some (.ref 32), some (.int x1), some (.int x2), some (.int x3)], [.int s0, .ref 35], g, iv) = pm_at X d 133 (99, [some (.ref 32), some (.int x1), some (.int x2), some (.int x3)], [.int x3.toInt16.toInt32, .int s0, .ref 35], g, iv) := by
  refine (at_iload_n dc133_93 rfl).trans ?_
  refine (at_i2s dc133_94).trans ?_
  refine (at_goto (t := 99) dc133_95 (by decide)).trans ?_
  rfl
theorem b133_98 {X : pm_X} {d : Nat} {x1 : Int32} {x2 : Int32} {x3 : Int32} {s0 : Int32} {g : pm_G} {iv : pm_V}  : pm_at X d 133 (98, [some (.ref 32), some (.int x1), some (.int x2), some (.int x3)], [.int s0, .ref 35], g, iv) = pm_at X d 133 (99, [some (.ref 32), some (.int x1), some (.int x2), some (.int x3)], [.int x3, .int s0, .ref 35], g, iv) := by
  refine (at_iload_n dc133_98 rfl).trans ?_
  rfl
theorem b133_99 {X : pm_X} {d : Nat} {x1 : Int32} {x2 : Int32} {x3 : Int32} {s0 : Int32} {s1 : Int32} {g : pm_G} {iv : pm_V} (hL : pm_lay g) (i1 : vp_in s1 320) (i2 : vp_in (((40 * x1) + x2)) 320) : pm_at X d 133 (99, [some (.ref 32), some (.int x1), some (.int x2), some (.int x3)], [.int s0, .int s1, .ref 35], g, iv) = some (some (.int ((pm_iw iv 35 (s1 : Int32).toNatClampNeg s0) 35 (((40 * x1) + x2) : Int32).toNatClampNeg)), g, (pm_iw iv 35 (s1 : Int32).toNatClampNeg s0)) := by
  refine (at_iast dc133_99 (ly35 hL) i1).trans ?_
  refine (at_aload_n dc133_100 rfl).trans ?_
  refine (at_gfR dc133_101 mc133 lf6_16 fo6_4 (ly32 hL) (lr32_4 hL)).trans ?_
  refine (at_bipush (v := 40) dc133_104 (by decide)).trans ?_
  refine (at_iload_n dc133_106 rfl).trans ?_
  refine (at_imul dc133_107).trans ?_
  refine (at_iload_n dc133_108 rfl).trans ?_
  refine (at_iadd dc133_109).trans ?_
  refine (at_iald dc133_110 (ly35 hL) i2).trans ?_
  exact at_iret dc133_111 mr133
-- Mod.copy (IIIII)I
theorem dc134_0 : decode (pm_mb 134) 0 = .ok (.aload_n 0, 1) := by decide +kernel
theorem dc134_1 : decode (pm_mb 134) 1 = .ok (.iconst 0, 1) := by decide +kernel
theorem dc134_2 : decode (pm_mb 134) 2 = .ok (.putfield 50, 3) := by decide +kernel
theorem dc134_5 : decode (pm_mb 134) 5 = .ok (.iload_n 1, 1) := by decide +kernel
theorem dc134_6 : decode (pm_mb 134) 6 = .ok (.invokestatic 64, 3) := by decide +kernel
theorem dc134_9 : decode (pm_mb 134) 9 = .ok (.ifCond .eq 10, 3) := by decide +kernel
theorem dc134_12 : decode (pm_mb 134) 12 = .ok (.iload_n 3, 1) := by decide +kernel
theorem dc134_13 : decode (pm_mb 134) 13 = .ok (.invokestatic 64, 3) := by decide +kernel
theorem dc134_16 : decode (pm_mb 134) 16 = .ok (.ifCond .ne 6, 3) := by decide +kernel
theorem dc134_19 : decode (pm_mb 134) 19 = .ok (.ldc 70, 2) := by decide +kernel
theorem dc134_21 : decode (pm_mb 134) 21 = .ok (.ireturn, 1) := by decide +kernel
theorem dc134_22 : decode (pm_mb 134) 22 = .ok (.aload_n 0, 1) := by decide +kernel
theorem dc134_23 : decode (pm_mb 134) 23 = .ok (.iconst 0, 1) := by decide +kernel
theorem dc134_24 : decode (pm_mb 134) 24 = .ok (.putfield 54, 3) := by decide +kernel
theorem dc134_27 : decode (pm_mb 134) 27 = .ok (.aload_n 0, 1) := by decide +kernel
theorem dc134_28 : decode (pm_mb 134) 28 = .ok (.getfield 7, 3) := by decide +kernel
theorem dc134_31 : decode (pm_mb 134) 31 = .ok (.iload_n 1, 1) := by decide +kernel
theorem dc134_32 : decode (pm_mb 134) 32 = .ok (.iaload, 1) := by decide +kernel
theorem dc134_33 : decode (pm_mb 134) 33 = .ok (.ifCond .lt 12, 3) := by decide +kernel
theorem dc134_36 : decode (pm_mb 134) 36 = .ok (.aload_n 0, 1) := by decide +kernel
theorem dc134_37 : decode (pm_mb 134) 37 = .ok (.getfield 7, 3) := by decide +kernel
theorem dc134_40 : decode (pm_mb 134) 40 = .ok (.iload_n 3, 1) := by decide +kernel
theorem dc134_41 : decode (pm_mb 134) 41 = .ok (.iaload, 1) := by decide +kernel
theorem dc134_42 : decode (pm_mb 134) 42 = .ok (.ifCond .ge 9, 3) := by decide +kernel
theorem dc134_45 : decode (pm_mb 134) 45 = .ok (.aload_n 0, 1) := by decide +kernel
theorem dc134_46 : decode (pm_mb 134) 46 = .ok (.iconst 1, 1) := by decide +kernel
theorem dc134_47 : decode (pm_mb 134) 47 = .ok (.invokevirtual 71, 3) := by decide +kernel
theorem dc134_50 : decode (pm_mb 134) 50 = .ok (.ireturn, 1) := by decide +kernel
theorem dc134_51 : decode (pm_mb 134) 51 = .ok (.aload_n 0, 1) := by decide +kernel
theorem dc134_52 : decode (pm_mb 134) 52 = .ok (.getfield 7, 3) := by decide +kernel
theorem dc134_55 : decode (pm_mb 134) 55 = .ok (.iload_n 1, 1) := by decide +kernel
theorem dc134_56 : decode (pm_mb 134) 56 = .ok (.iaload, 1) := by decide +kernel
theorem dc134_57 : decode (pm_mb 134) 57 = .ok (.aload_n 0, 1) := by decide +kernel
theorem dc134_58 : decode (pm_mb 134) 58 = .ok (.getfield 7, 3) := by decide +kernel
theorem dc134_61 : decode (pm_mb 134) 61 = .ok (.iload_n 3, 1) := by decide +kernel
theorem dc134_62 : decode (pm_mb 134) 62 = .ok (.iaload, 1) := by decide +kernel
theorem dc134_63 : decode (pm_mb 134) 63 = .ok (.if_icmp .eq 9, 3) := by decide +kernel
theorem dc134_66 : decode (pm_mb 134) 66 = .ok (.aload_n 0, 1) := by decide +kernel
theorem dc134_67 : decode (pm_mb 134) 67 = .ok (.iconst 5, 1) := by decide +kernel
theorem dc134_68 : decode (pm_mb 134) 68 = .ok (.invokevirtual 71, 3) := by decide +kernel
theorem dc134_71 : decode (pm_mb 134) 71 = .ok (.ireturn, 1) := by decide +kernel
theorem dc134_72 : decode (pm_mb 134) 72 = .ok (.iload_n 2, 1) := by decide +kernel
theorem dc134_73 : decode (pm_mb 134) 73 = .ok (.ifCond .lt 48, 3) := by decide +kernel
theorem dc134_76 : decode (pm_mb 134) 76 = .ok (.iload 4, 2) := by decide +kernel
theorem dc134_78 : decode (pm_mb 134) 78 = .ok (.ifCond .lt 43, 3) := by decide +kernel
theorem dc134_81 : decode (pm_mb 134) 81 = .ok (.iload 5, 2) := by decide +kernel
theorem dc134_83 : decode (pm_mb 134) 83 = .ok (.ifCond .lt 38, 3) := by decide +kernel
theorem dc134_86 : decode (pm_mb 134) 86 = .ok (.iload_n 2, 1) := by decide +kernel
theorem dc134_87 : decode (pm_mb 134) 87 = .ok (.i2l, 1) := by decide +kernel
theorem dc134_88 : decode (pm_mb 134) 88 = .ok (.iload 5, 2) := by decide +kernel
theorem dc134_90 : decode (pm_mb 134) 90 = .ok (.i2l, 1) := by decide +kernel
theorem dc134_91 : decode (pm_mb 134) 91 = .ok (.ladd, 1) := by decide +kernel
theorem dc134_92 : decode (pm_mb 134) 92 = .ok (.aload_n 0, 1) := by decide +kernel
theorem dc134_93 : decode (pm_mb 134) 93 = .ok (.getfield 13, 3) := by decide +kernel
theorem dc134_96 : decode (pm_mb 134) 96 = .ok (.iload_n 1, 1) := by decide +kernel
theorem dc134_97 : decode (pm_mb 134) 97 = .ok (.iaload, 1) := by decide +kernel
theorem dc134_98 : decode (pm_mb 134) 98 = .ok (.i2l, 1) := by decide +kernel
theorem dc134_99 : decode (pm_mb 134) 99 = .ok (.lcmp, 1) := by decide +kernel
theorem dc134_100 : decode (pm_mb 134) 100 = .ok (.ifCond .gt 21, 3) := by decide +kernel
theorem dc134_103 : decode (pm_mb 134) 103 = .ok (.iload 4, 2) := by decide +kernel
theorem dc134_105 : decode (pm_mb 134) 105 = .ok (.i2l, 1) := by decide +kernel
theorem dc134_106 : decode (pm_mb 134) 106 = .ok (.iload 5, 2) := by decide +kernel
theorem dc134_108 : decode (pm_mb 134) 108 = .ok (.i2l, 1) := by decide +kernel
theorem dc134_109 : decode (pm_mb 134) 109 = .ok (.ladd, 1) := by decide +kernel
theorem dc134_110 : decode (pm_mb 134) 110 = .ok (.aload_n 0, 1) := by decide +kernel
theorem dc134_111 : decode (pm_mb 134) 111 = .ok (.getfield 13, 3) := by decide +kernel
theorem dc134_114 : decode (pm_mb 134) 114 = .ok (.iload_n 3, 1) := by decide +kernel
theorem dc134_115 : decode (pm_mb 134) 115 = .ok (.iaload, 1) := by decide +kernel
theorem dc134_116 : decode (pm_mb 134) 116 = .ok (.i2l, 1) := by decide +kernel
theorem dc134_117 : decode (pm_mb 134) 117 = .ok (.lcmp, 1) := by decide +kernel
theorem dc134_118 : decode (pm_mb 134) 118 = .ok (.ifCond .le 9, 3) := by decide +kernel
theorem dc134_121 : decode (pm_mb 134) 121 = .ok (.aload_n 0, 1) := by decide +kernel
theorem dc134_122 : decode (pm_mb 134) 122 = .ok (.iconst 2, 1) := by decide +kernel
theorem dc134_123 : decode (pm_mb 134) 123 = .ok (.invokevirtual 71, 3) := by decide +kernel
theorem dc134_126 : decode (pm_mb 134) 126 = .ok (.ireturn, 1) := by decide +kernel
theorem dc134_127 : decode (pm_mb 134) 127 = .ok (.iload_n 2, 1) := by decide +kernel
theorem dc134_128 : decode (pm_mb 134) 128 = .ok (.iload 4, 2) := by decide +kernel
theorem dc134_130 : decode (pm_mb 134) 130 = .ok (.if_icmp .lt 7, 3) := by decide +kernel
theorem dc134_133 : decode (pm_mb 134) 133 = .ok (.iconst 1, 1) := by decide +kernel
theorem dc134_134 : decode (pm_mb 134) 134 = .ok (.goto 4, 3) := by decide +kernel
theorem dc134_137 : decode (pm_mb 134) 137 = .ok (.iconst 0, 1) := by decide +kernel
theorem dc134_138 : decode (pm_mb 134) 138 = .ok (.istore 6, 2) := by decide +kernel
theorem dc134_140 : decode (pm_mb 134) 140 = .ok (.iconst 0, 1) := by decide +kernel
theorem dc134_141 : decode (pm_mb 134) 141 = .ok (.istore 7, 2) := by decide +kernel
theorem dc134_143 : decode (pm_mb 134) 143 = .ok (.iload 7, 2) := by decide +kernel
theorem dc134_145 : decode (pm_mb 134) 145 = .ok (.iload 5, 2) := by decide +kernel
theorem dc134_147 : decode (pm_mb 134) 147 = .ok (.if_icmp .ge 57, 3) := by decide +kernel
theorem dc134_150 : decode (pm_mb 134) 150 = .ok (.iload 6, 2) := by decide +kernel
theorem dc134_152 : decode (pm_mb 134) 152 = .ok (.ifCond .eq 8, 3) := by decide +kernel
theorem dc134_155 : decode (pm_mb 134) 155 = .ok (.iload 7, 2) := by decide +kernel
theorem dc134_157 : decode (pm_mb 134) 157 = .ok (.goto 10, 3) := by decide +kernel
theorem dc134_160 : decode (pm_mb 134) 160 = .ok (.iload 5, 2) := by decide +kernel
theorem dc134_162 : decode (pm_mb 134) 162 = .ok (.iconst 1, 1) := by decide +kernel
theorem dc134_163 : decode (pm_mb 134) 163 = .ok (.isub, 1) := by decide +kernel
theorem dc134_164 : decode (pm_mb 134) 164 = .ok (.iload 7, 2) := by decide +kernel
theorem dc134_166 : decode (pm_mb 134) 166 = .ok (.isub, 1) := by decide +kernel
theorem dc134_167 : decode (pm_mb 134) 167 = .ok (.istore 8, 2) := by decide +kernel
theorem dc134_169 : decode (pm_mb 134) 169 = .ok (.aload_n 0, 1) := by decide +kernel
theorem dc134_170 : decode (pm_mb 134) 170 = .ok (.getfield 16, 3) := by decide +kernel
theorem dc134_173 : decode (pm_mb 134) 173 = .ok (.bipush 40, 2) := by decide +kernel
theorem dc134_175 : decode (pm_mb 134) 175 = .ok (.iload_n 3, 1) := by decide +kernel
theorem dc134_176 : decode (pm_mb 134) 176 = .ok (.imul, 1) := by decide +kernel
theorem dc134_177 : decode (pm_mb 134) 177 = .ok (.iload 4, 2) := by decide +kernel
theorem dc134_179 : decode (pm_mb 134) 179 = .ok (.iadd, 1) := by decide +kernel
theorem dc134_180 : decode (pm_mb 134) 180 = .ok (.iload 8, 2) := by decide +kernel
theorem dc134_182 : decode (pm_mb 134) 182 = .ok (.iadd, 1) := by decide +kernel
theorem dc134_183 : decode (pm_mb 134) 183 = .ok (.aload_n 0, 1) := by decide +kernel
theorem dc134_184 : decode (pm_mb 134) 184 = .ok (.getfield 16, 3) := by decide +kernel
theorem dc134_187 : decode (pm_mb 134) 187 = .ok (.bipush 40, 2) := by decide +kernel
theorem dc134_189 : decode (pm_mb 134) 189 = .ok (.iload_n 1, 1) := by decide +kernel
theorem dc134_190 : decode (pm_mb 134) 190 = .ok (.imul, 1) := by decide +kernel
theorem dc134_191 : decode (pm_mb 134) 191 = .ok (.iload_n 2, 1) := by decide +kernel
theorem dc134_192 : decode (pm_mb 134) 192 = .ok (.iadd, 1) := by decide +kernel
theorem dc134_193 : decode (pm_mb 134) 193 = .ok (.iload 8, 2) := by decide +kernel
theorem dc134_195 : decode (pm_mb 134) 195 = .ok (.iadd, 1) := by decide +kernel
theorem dc134_196 : decode (pm_mb 134) 196 = .ok (.iaload, 1) := by decide +kernel
theorem dc134_197 : decode (pm_mb 134) 197 = .ok (.iastore, 1) := by decide +kernel
theorem dc134_198 : decode (pm_mb 134) 198 = .ok (.iinc 7 1, 3) := by decide +kernel
theorem dc134_201 : decode (pm_mb 134) 201 = .ok (.goto (-58), 3) := by decide +kernel
theorem dc134_204 : decode (pm_mb 134) 204 = .ok (.iload 5, 2) := by decide +kernel
theorem dc134_206 : decode (pm_mb 134) 206 = .ok (.ireturn, 1) := by decide +kernel
theorem b134_0 {X : pm_X} {d : Nat} {x1 : Int32} {x2 : Int32} {x3 : Int32} {x4 : Int32} {x5 : Int32} {g : pm_G} {iv : pm_V} (hL : pm_lay g) : pm_at X d 134 (0, [some (.ref 32), some (.int x1), some (.int x2), some (.int x3), some (.int x4), some (.int x5), none, none, none], [], g, iv) = pm_then X d 134 9 [some (.ref 32), some (.int x1), some (.int x2), some (.int x3), some (.int x4), some (.int x5), none, none, none] [] (pm_c X d 131 [.int x1] g (pm_iw iv 32 0 0)) := by
  refine (at_aload_n dc134_0 rfl).trans ?_
  refine (at_iconst (v := 0) dc134_1 rfl).trans ?_
  refine (at_pfI dc134_2 mc134 lf6_50 po6_0 (ly32 hL)).trans ?_
  refine (at_iload_n dc134_5 rfl).trans ?_
  exact at_ins dc134_6 mc134 lm6_64 (Nat.le_of_ble_eq_true rfl) rfl rfl (Nat.le_of_ble_eq_true rfl)
theorem b134_9 {X : pm_X} {d : Nat} {x1 : Int32} {x2 : Int32} {x3 : Int32} {x4 : Int32} {x5 : Int32} {s0 : Int32} {g : pm_G} {iv : pm_V}  : pm_at X d 134 (9, [some (.ref 32), some (.int x1), some (.int x2), some (.int x3), some (.int x4), some (.int x5), none, none, none], [.int s0], g, iv) = if s0 = 0 then pm_at X d 134 (19, [some (.ref 32), some (.int x1), some (.int x2), some (.int x3), some (.int x4), some (.int x5), none, none, none], [], g, iv) else pm_at X d 134 (12, [some (.ref 32), some (.int x1), some (.int x2), some (.int x3), some (.int x4), some (.int x5), none, none, none], [], g, iv) := by
  exact at_if_eq (t := 19) dc134_9 (by decide)
theorem b134_12 {X : pm_X} {d : Nat} {x1 : Int32} {x2 : Int32} {x3 : Int32} {x4 : Int32} {x5 : Int32} {g : pm_G} {iv : pm_V}  : pm_at X d 134 (12, [some (.ref 32), some (.int x1), some (.int x2), some (.int x3), some (.int x4), some (.int x5), none, none, none], [], g, iv) = pm_then X d 134 16 [some (.ref 32), some (.int x1), some (.int x2), some (.int x3), some (.int x4), some (.int x5), none, none, none] [] (pm_c X d 131 [.int x3] g iv) := by
  refine (at_iload_n dc134_12 rfl).trans ?_
  exact at_ins dc134_13 mc134 lm6_64 (Nat.le_of_ble_eq_true rfl) rfl rfl (Nat.le_of_ble_eq_true rfl)
theorem b134_16 {X : pm_X} {d : Nat} {x1 : Int32} {x2 : Int32} {x3 : Int32} {x4 : Int32} {x5 : Int32} {s0 : Int32} {g : pm_G} {iv : pm_V}  : pm_at X d 134 (16, [some (.ref 32), some (.int x1), some (.int x2), some (.int x3), some (.int x4), some (.int x5), none, none, none], [.int s0], g, iv) = if ¬ s0 = 0 then pm_at X d 134 (22, [some (.ref 32), some (.int x1), some (.int x2), some (.int x3), some (.int x4), some (.int x5), none, none, none], [], g, iv) else pm_at X d 134 (19, [some (.ref 32), some (.int x1), some (.int x2), some (.int x3), some (.int x4), some (.int x5), none, none, none], [], g, iv) := by
  exact at_if_ne (t := 22) dc134_16 (by decide)
theorem b134_19 {X : pm_X} {d : Nat} {x1 : Int32} {x2 : Int32} {x3 : Int32} {x4 : Int32} {x5 : Int32} {g : pm_G} {iv : pm_V}  : pm_at X d 134 (19, [some (.ref 32), some (.int x1), some (.int x2), some (.int x3), some (.int x4), some (.int x5), none, none, none], [], g, iv) = some (some (.int (-1000001)), g, iv) := by
  refine (at_ldc dc134_19 mc134 lk6_70).trans ?_
  exact at_iret dc134_21 mr134
theorem b134_22 {X : pm_X} {d : Nat} {x1 : Int32} {x2 : Int32} {x3 : Int32} {x4 : Int32} {x5 : Int32} {g : pm_G} {iv : pm_V} (hL : pm_lay g) (i1 : vp_in x1 8) : pm_at X d 134 (22, [some (.ref 32), some (.int x1), some (.int x2), some (.int x3), some (.int x4), some (.int x5), none, none, none], [], g, iv) = if ((pm_iw iv 32 1 0) 33 (x1 : Int32).toNatClampNeg) < 0 then pm_at X d 134 (45, [some (.ref 32), some (.int x1), some (.int x2), some (.int x3), some (.int x4), some (.int x5), none, none, none], [], g, (pm_iw iv 32 1 0)) else pm_at X d 134 (36, [some (.ref 32), some (.int x1), some (.int x2), some (.int x3), some (.int x4), some (.int x5), none, none, none], [], g, (pm_iw iv 32 1 0)) := by
  refine (at_aload_n dc134_22 rfl).trans ?_
  refine (at_iconst (v := 0) dc134_23 rfl).trans ?_
  refine (at_pfI dc134_24 mc134 lf6_54 po6_1 (ly32 hL)).trans ?_
  refine (at_aload_n dc134_27 rfl).trans ?_
  refine (at_gfR dc134_28 mc134 lf6_7 fo6_2 (ly32 hL) (lr32_2 hL)).trans ?_
  refine (at_iload_n dc134_31 rfl).trans ?_
  refine (at_iald dc134_32 (ly33 hL) i1).trans ?_
  exact at_if_lt (t := 45) dc134_33 (by decide)
theorem b134_36 {X : pm_X} {d : Nat} {x1 : Int32} {x2 : Int32} {x3 : Int32} {x4 : Int32} {x5 : Int32} {g : pm_G} {iv : pm_V} (hL : pm_lay g) (i1 : vp_in x3 8) : pm_at X d 134 (36, [some (.ref 32), some (.int x1), some (.int x2), some (.int x3), some (.int x4), some (.int x5), none, none, none], [], g, iv) = if 0 ≤ (iv 33 (x3 : Int32).toNatClampNeg) then pm_at X d 134 (51, [some (.ref 32), some (.int x1), some (.int x2), some (.int x3), some (.int x4), some (.int x5), none, none, none], [], g, iv) else pm_at X d 134 (45, [some (.ref 32), some (.int x1), some (.int x2), some (.int x3), some (.int x4), some (.int x5), none, none, none], [], g, iv) := by
  refine (at_aload_n dc134_36 rfl).trans ?_
  refine (at_gfR dc134_37 mc134 lf6_7 fo6_2 (ly32 hL) (lr32_2 hL)).trans ?_
  refine (at_iload_n dc134_40 rfl).trans ?_
  refine (at_iald dc134_41 (ly33 hL) i1).trans ?_
  exact at_if_ge (t := 51) dc134_42 (by decide)
theorem b134_45 {X : pm_X} {d : Nat} {x1 : Int32} {x2 : Int32} {x3 : Int32} {x4 : Int32} {x5 : Int32} {g : pm_G} {iv : pm_V} (hL : pm_lay g) : pm_at X d 134 (45, [some (.ref 32), some (.int x1), some (.int x2), some (.int x3), some (.int x4), some (.int x5), none, none, none], [], g, iv) = pm_then X d 134 50 [some (.ref 32), some (.int x1), some (.int x2), some (.int x3), some (.int x4), some (.int x5), none, none, none] [] (pm_c X d 130 [.ref 32, .int 1] g iv) := by
  refine (at_aload_n dc134_45 rfl).trans ?_
  refine (at_iconst (v := 1) dc134_46 rfl).trans ?_
  exact at_inv dc134_47 mc134 lm6_71 rfl rfl (Nat.le_of_ble_eq_true rfl) (Or.inl ⟨(ly32 hL), by decide⟩)
theorem b134_50 {X : pm_X} {d : Nat} {x1 : Int32} {x2 : Int32} {x3 : Int32} {x4 : Int32} {x5 : Int32} {s0 : Int32} {g : pm_G} {iv : pm_V}  : pm_at X d 134 (50, [some (.ref 32), some (.int x1), some (.int x2), some (.int x3), some (.int x4), some (.int x5), none, none, none], [.int s0], g, iv) = some (some (.int s0), g, iv) := by
  exact at_iret dc134_50 mr134
theorem b134_51 {X : pm_X} {d : Nat} {x1 : Int32} {x2 : Int32} {x3 : Int32} {x4 : Int32} {x5 : Int32} {g : pm_G} {iv : pm_V} (hL : pm_lay g) (i1 : vp_in x1 8) (i2 : vp_in x3 8) : pm_at X d 134 (51, [some (.ref 32), some (.int x1), some (.int x2), some (.int x3), some (.int x4), some (.int x5), none, none, none], [], g, iv) = if (iv 33 (x1 : Int32).toNatClampNeg) = (iv 33 (x3 : Int32).toNatClampNeg) then pm_at X d 134 (72, [some (.ref 32), some (.int x1), some (.int x2), some (.int x3), some (.int x4), some (.int x5), none, none, none], [], g, iv) else pm_at X d 134 (66, [some (.ref 32), some (.int x1), some (.int x2), some (.int x3), some (.int x4), some (.int x5), none, none, none], [], g, iv) := by
  refine (at_aload_n dc134_51 rfl).trans ?_
  refine (at_gfR dc134_52 mc134 lf6_7 fo6_2 (ly32 hL) (lr32_2 hL)).trans ?_
  refine (at_iload_n dc134_55 rfl).trans ?_
  refine (at_iald dc134_56 (ly33 hL) i1).trans ?_
  refine (at_aload_n dc134_57 rfl).trans ?_
  refine (at_gfR dc134_58 mc134 lf6_7 fo6_2 (ly32 hL) (lr32_2 hL)).trans ?_
  refine (at_iload_n dc134_61 rfl).trans ?_
  refine (at_iald dc134_62 (ly33 hL) i2).trans ?_
  exact at_icmp_eq (t := 72) dc134_63 (by decide)
theorem b134_66 {X : pm_X} {d : Nat} {x1 : Int32} {x2 : Int32} {x3 : Int32} {x4 : Int32} {x5 : Int32} {g : pm_G} {iv : pm_V} (hL : pm_lay g) : pm_at X d 134 (66, [some (.ref 32), some (.int x1), some (.int x2), some (.int x3), some (.int x4), some (.int x5), none, none, none], [], g, iv) = pm_then X d 134 71 [some (.ref 32), some (.int x1), some (.int x2), some (.int x3), some (.int x4), some (.int x5), none, none, none] [] (pm_c X d 130 [.ref 32, .int 5] g iv) := by
  refine (at_aload_n dc134_66 rfl).trans ?_
  refine (at_iconst (v := 5) dc134_67 rfl).trans ?_
  exact at_inv dc134_68 mc134 lm6_71 rfl rfl (Nat.le_of_ble_eq_true rfl) (Or.inl ⟨(ly32 hL), by decide⟩)
theorem b134_71 {X : pm_X} {d : Nat} {x1 : Int32} {x2 : Int32} {x3 : Int32} {x4 : Int32} {x5 : Int32} {s0 : Int32} {g : pm_G} {iv : pm_V}  : pm_at X d 134 (71, [some (.ref 32), some (.int x1), some (.int x2), some (.int x3), some (.int x4), some (.int x5), none, none, none], [.int s0], g, iv) = some (some (.int s0), g, iv) := by
  exact at_iret dc134_71 mr134
theorem b134_72 {X : pm_X} {d : Nat} {x1 : Int32} {x2 : Int32} {x3 : Int32} {x4 : Int32} {x5 : Int32} {g : pm_G} {iv : pm_V}  : pm_at X d 134 (72, [some (.ref 32), some (.int x1), some (.int x2), some (.int x3), some (.int x4), some (.int x5), none, none, none], [], g, iv) = if x2 < 0 then pm_at X d 134 (121, [some (.ref 32), some (.int x1), some (.int x2), some (.int x3), some (.int x4), some (.int x5), none, none, none], [], g, iv) else pm_at X d 134 (76, [some (.ref 32), some (.int x1), some (.int x2), some (.int x3), some (.int x4), some (.int x5), none, none, none], [], g, iv) := by
  refine (at_iload_n dc134_72 rfl).trans ?_
  exact at_if_lt (t := 121) dc134_73 (by decide)
theorem b134_76 {X : pm_X} {d : Nat} {x1 : Int32} {x2 : Int32} {x3 : Int32} {x4 : Int32} {x5 : Int32} {g : pm_G} {iv : pm_V}  : pm_at X d 134 (76, [some (.ref 32), some (.int x1), some (.int x2), some (.int x3), some (.int x4), some (.int x5), none, none, none], [], g, iv) = if x4 < 0 then pm_at X d 134 (121, [some (.ref 32), some (.int x1), some (.int x2), some (.int x3), some (.int x4), some (.int x5), none, none, none], [], g, iv) else pm_at X d 134 (81, [some (.ref 32), some (.int x1), some (.int x2), some (.int x3), some (.int x4), some (.int x5), none, none, none], [], g, iv) := by
  refine (at_iload dc134_76 rfl).trans ?_
  exact at_if_lt (t := 121) dc134_78 (by decide)
theorem b134_81 {X : pm_X} {d : Nat} {x1 : Int32} {x2 : Int32} {x3 : Int32} {x4 : Int32} {x5 : Int32} {g : pm_G} {iv : pm_V}  : pm_at X d 134 (81, [some (.ref 32), some (.int x1), some (.int x2), some (.int x3), some (.int x4), some (.int x5), none, none, none], [], g, iv) = if x5 < 0 then pm_at X d 134 (121, [some (.ref 32), some (.int x1), some (.int x2), some (.int x3), some (.int x4), some (.int x5), none, none, none], [], g, iv) else pm_at X d 134 (86, [some (.ref 32), some (.int x1), some (.int x2), some (.int x3), some (.int x4), some (.int x5), none, none, none], [], g, iv) := by
  refine (at_iload dc134_81 rfl).trans ?_
  exact at_if_lt (t := 121) dc134_83 (by decide)
theorem b134_86 {X : pm_X} {d : Nat} {x1 : Int32} {x2 : Int32} {x3 : Int32} {x4 : Int32} {x5 : Int32} {g : pm_G} {iv : pm_V} (hL : pm_lay g) (i1 : vp_in x1 8) : pm_at X d 134 (86, [some (.ref 32), some (.int x1), some (.int x2), some (.int x3), some (.int x4), some (.int x5), none, none, none], [], g, iv) = if 0 < (lg_cmp (((x2 : Int32).toInt64 + (x5 : Int32).toInt64)) (((iv 34 (x1 : Int32).toNatClampNeg) : Int32).toInt64)) then pm_at X d 134 (121, [some (.ref 32), some (.int x1), some (.int x2), some (.int x3), some (.int x4), some (.int x5), none, none, none], [], g, iv) else pm_at X d 134 (103, [some (.ref 32), some (.int x1), some (.int x2), some (.int x3), some (.int x4), some (.int x5), none, none, none], [], g, iv) := by
  refine (at_iload_n dc134_86 rfl).trans ?_
  refine (at_i2l dc134_87).trans ?_
  refine (at_iload dc134_88 rfl).trans ?_
  refine (at_i2l dc134_90).trans ?_
  refine (at_ladd dc134_91).trans ?_
  refine (at_aload_n dc134_92 rfl).trans ?_
  refine (at_gfR dc134_93 mc134 lf6_13 fo6_3 (ly32 hL) (lr32_3 hL)).trans ?_
  refine (at_iload_n dc134_96 rfl).trans ?_
  refine (at_iald dc134_97 (ly34 hL) i1).trans ?_
  refine (at_i2l dc134_98).trans ?_
  refine (at_lcmp dc134_99).trans ?_
  exact at_if_gt (t := 121) dc134_100 (by decide)
theorem b134_103 {X : pm_X} {d : Nat} {x1 : Int32} {x2 : Int32} {x3 : Int32} {x4 : Int32} {x5 : Int32} {g : pm_G} {iv : pm_V} (hL : pm_lay g) (i1 : vp_in x3 8) : pm_at X d 134 (103, [some (.ref 32), some (.int x1), some (.int x2), some (.int x3), some (.int x4), some (.int x5), none, none, none], [], g, iv) = if (lg_cmp (((x4 : Int32).toInt64 + (x5 : Int32).toInt64)) (((iv 34 (x3 : Int32).toNatClampNeg) : Int32).toInt64)) ≤ 0 then pm_at X d 134 (127, [some (.ref 32), some (.int x1), some (.int x2), some (.int x3), some (.int x4), some (.int x5), none, none, none], [], g, iv) else pm_at X d 134 (121, [some (.ref 32), some (.int x1), some (.int x2), some (.int x3), some (.int x4), some (.int x5), none, none, none], [], g, iv) := by
  refine (at_iload dc134_103 rfl).trans ?_
  refine (at_i2l dc134_105).trans ?_
  refine (at_iload dc134_106 rfl).trans ?_
  refine (at_i2l dc134_108).trans ?_
  refine (at_ladd dc134_109).trans ?_
  refine (at_aload_n dc134_110 rfl).trans ?_
  refine (at_gfR dc134_111 mc134 lf6_13 fo6_3 (ly32 hL) (lr32_3 hL)).trans ?_
  refine (at_iload_n dc134_114 rfl).trans ?_
  refine (at_iald dc134_115 (ly34 hL) i1).trans ?_
  refine (at_i2l dc134_116).trans ?_
  refine (at_lcmp dc134_117).trans ?_
  exact at_if_le (t := 127) dc134_118 (by decide)
theorem b134_121 {X : pm_X} {d : Nat} {x1 : Int32} {x2 : Int32} {x3 : Int32} {x4 : Int32} {x5 : Int32} {g : pm_G} {iv : pm_V} (hL : pm_lay g) : pm_at X d 134 (121, [some (.ref 32), some (.int x1), some (.int x2), some (.int x3), some (.int x4), some (.int x5), none, none, none], [], g, iv) = pm_then X d 134 126 [some (.ref 32), some (.int x1), some (.int x2), some (.int x3), some (.int x4), some (.int x5), none, none, none] [] (pm_c X d 130 [.ref 32, .int 2] g iv) := by
  refine (at_aload_n dc134_121 rfl).trans ?_
  refine (at_iconst (v := 2) dc134_122 rfl).trans ?_
  exact at_inv dc134_123 mc134 lm6_71 rfl rfl (Nat.le_of_ble_eq_true rfl) (Or.inl ⟨(ly32 hL), by decide⟩)
theorem b134_126 {X : pm_X} {d : Nat} {x1 : Int32} {x2 : Int32} {x3 : Int32} {x4 : Int32} {x5 : Int32} {s0 : Int32} {g : pm_G} {iv : pm_V}  : pm_at X d 134 (126, [some (.ref 32), some (.int x1), some (.int x2), some (.int x3), some (.int x4), some (.int x5), none, none, none], [.int s0], g, iv) = some (some (.int s0), g, iv) := by
  exact at_iret dc134_126 mr134
theorem b134_127 {X : pm_X} {d : Nat} {x1 : Int32} {x2 : Int32} {x3 : Int32} {x4 : Int32} {x5 : Int32} {g : pm_G} {iv : pm_V}  : pm_at X d 134 (127, [some (.ref 32), some (.int x1), some (.int x2), some (.int x3), some (.int x4), some (.int x5), none, none, none], [], g, iv) = if x2 < x4 then pm_at X d 134 (137, [some (.ref 32), some (.int x1), some (.int x2), some (.int x3), some (.int x4), some (.int x5), none, none, none], [], g, iv) else pm_at X d 134 (133, [some (.ref 32), some (.int x1), some (.int x2), some (.int x3), some (.int x4), some (.int x5), none, none, none], [], g, iv) := by
  refine (at_iload_n dc134_127 rfl).trans ?_
  refine (at_iload dc134_128 rfl).trans ?_
  exact at_icmp_lt (t := 137) dc134_130 (by decide)
theorem b134_133 {X : pm_X} {d : Nat} {x1 : Int32} {x2 : Int32} {x3 : Int32} {x4 : Int32} {x5 : Int32} {g : pm_G} {iv : pm_V}  : pm_at X d 134 (133, [some (.ref 32), some (.int x1), some (.int x2), some (.int x3), some (.int x4), some (.int x5), none, none, none], [], g, iv) = pm_at X d 134 (138, [some (.ref 32), some (.int x1), some (.int x2), some (.int x3), some (.int x4), some (.int x5), none, none, none], [.int 1], g, iv) := by
  refine (at_iconst (v := 1) dc134_133 rfl).trans ?_
  refine (at_goto (t := 138) dc134_134 (by decide)).trans ?_
  rfl
theorem b134_137 {X : pm_X} {d : Nat} {x1 : Int32} {x2 : Int32} {x3 : Int32} {x4 : Int32} {x5 : Int32} {g : pm_G} {iv : pm_V}  : pm_at X d 134 (137, [some (.ref 32), some (.int x1), some (.int x2), some (.int x3), some (.int x4), some (.int x5), none, none, none], [], g, iv) = pm_at X d 134 (138, [some (.ref 32), some (.int x1), some (.int x2), some (.int x3), some (.int x4), some (.int x5), none, none, none], [.int 0], g, iv) := by
  refine (at_iconst (v := 0) dc134_137 rfl).trans ?_
  rfl
theorem b134_138 {X : pm_X} {d : Nat} {x1 : Int32} {x2 : Int32} {x3 : Int32} {x4 : Int32} {x5 : Int32} {s0 : Int32} {g : pm_G} {iv : pm_V}  : pm_at X d 134 (138, [some (.ref 32), some (.int x1), some (.int x2), some (.int x3), some (.int x4), some (.int x5), none, none, none], [.int s0], g, iv) = pm_at X d 134 (143, [some (.ref 32), some (.int x1), some (.int x2), some (.int x3), some (.int x4), some (.int x5), some (.int s0), some (.int 0), none], [], g, iv) := by
  refine (at_istore dc134_138 rfl).trans ?_
  refine (at_iconst (v := 0) dc134_140 rfl).trans ?_
  refine (at_istore dc134_141 rfl).trans ?_
  rfl
theorem b134_143 {X : pm_X} {d : Nat} {x1 : Int32} {x2 : Int32} {x3 : Int32} {x4 : Int32} {x5 : Int32} {x6 : Int32} {x7 : Int32} {z8 : Option Value} {g : pm_G} {iv : pm_V}  : pm_at X d 134 (143, [some (.ref 32), some (.int x1), some (.int x2), some (.int x3), some (.int x4), some (.int x5), some (.int x6), some (.int x7), z8], [], g, iv) = if x5 ≤ x7 then pm_at X d 134 (204, [some (.ref 32), some (.int x1), some (.int x2), some (.int x3), some (.int x4), some (.int x5), some (.int x6), some (.int x7), z8], [], g, iv) else pm_at X d 134 (150, [some (.ref 32), some (.int x1), some (.int x2), some (.int x3), some (.int x4), some (.int x5), some (.int x6), some (.int x7), z8], [], g, iv) := by
  refine (at_iload dc134_143 rfl).trans ?_
  refine (at_iload dc134_145 rfl).trans ?_
  exact at_icmp_ge (t := 204) dc134_147 (by decide)
theorem b134_150 {X : pm_X} {d : Nat} {x1 : Int32} {x2 : Int32} {x3 : Int32} {x4 : Int32} {x5 : Int32} {x6 : Int32} {x7 : Int32} {z8 : Option Value} {g : pm_G} {iv : pm_V}  : pm_at X d 134 (150, [some (.ref 32), some (.int x1), some (.int x2), some (.int x3), some (.int x4), some (.int x5), some (.int x6), some (.int x7), z8], [], g, iv) = if x6 = 0 then pm_at X d 134 (160, [some (.ref 32), some (.int x1), some (.int x2), some (.int x3), some (.int x4), some (.int x5), some (.int x6), some (.int x7), z8], [], g, iv) else pm_at X d 134 (155, [some (.ref 32), some (.int x1), some (.int x2), some (.int x3), some (.int x4), some (.int x5), some (.int x6), some (.int x7), z8], [], g, iv) := by
  refine (at_iload dc134_150 rfl).trans ?_
  exact at_if_eq (t := 160) dc134_152 (by decide)
theorem b134_155 {X : pm_X} {d : Nat} {x1 : Int32} {x2 : Int32} {x3 : Int32} {x4 : Int32} {x5 : Int32} {x6 : Int32} {x7 : Int32} {z8 : Option Value} {g : pm_G} {iv : pm_V}  : pm_at X d 134 (155, [some (.ref 32), some (.int x1), some (.int x2), some (.int x3), some (.int x4), some (.int x5), some (.int x6), some (.int x7), z8], [], g, iv) = pm_at X d 134 (167, [some (.ref 32), some (.int x1), some (.int x2), some (.int x3), some (.int x4), some (.int x5), some (.int x6), some (.int x7), z8], [.int x7], g, iv) := by
  refine (at_iload dc134_155 rfl).trans ?_
  refine (at_goto (t := 167) dc134_157 (by decide)).trans ?_
  rfl
theorem b134_160 {X : pm_X} {d : Nat} {x1 : Int32} {x2 : Int32} {x3 : Int32} {x4 : Int32} {x5 : Int32} {x6 : Int32} {x7 : Int32} {z8 : Option Value} {g : pm_G} {iv : pm_V}  : pm_at X d 134 (160, [some (.ref 32), some (.int x1), some (.int x2), some (.int x3), some (.int x4), some (.int x5), some (.int x6), some (.int x7), z8], [], g, iv) = pm_at X d 134 (167, [some (.ref 32), some (.int x1), some (.int x2), some (.int x3), some (.int x4), some (.int x5), some (.int x6), some (.int x7), z8], [.int ((x5 - 1) - x7)], g, iv) := by
  refine (at_iload dc134_160 rfl).trans ?_
  refine (at_iconst (v := 1) dc134_162 rfl).trans ?_
  refine (at_isub dc134_163).trans ?_
  refine (at_iload dc134_164 rfl).trans ?_
  refine (at_isub dc134_166).trans ?_
  rfl
theorem b134_167 {X : pm_X} {d : Nat} {x1 : Int32} {x2 : Int32} {x3 : Int32} {x4 : Int32} {x5 : Int32} {x6 : Int32} {x7 : Int32} {z8 : Option Value} {s0 : Int32} {g : pm_G} {iv : pm_V} (hL : pm_lay g) (i1 : vp_in ((((40 * x1) + x2) + s0)) 320) (i2 : vp_in ((((40 * x3) + x4) + s0)) 320) : pm_at X d 134 (167, [some (.ref 32), some (.int x1), some (.int x2), some (.int x3), some (.int x4), some (.int x5), some (.int x6), some (.int x7), z8], [.int s0], g, iv) = pm_at X d 134 (143, [some (.ref 32), some (.int x1), some (.int x2), some (.int x3), some (.int x4), some (.int x5), some (.int x6), some (.int (x7 + 1)), some (.int s0)], [], g, (pm_iw iv 35 ((((40 * x3) + x4) + s0) : Int32).toNatClampNeg ((iv 35 ((((40 * x1) + x2) + s0) : Int32).toNatClampNeg)))) := by
  refine (at_istore dc134_167 rfl).trans ?_
  refine (at_aload_n dc134_169 rfl).trans ?_
  refine (at_gfR dc134_170 mc134 lf6_16 fo6_4 (ly32 hL) (lr32_4 hL)).trans ?_
  refine (at_bipush (v := 40) dc134_173 (by decide)).trans ?_
  refine (at_iload_n dc134_175 rfl).trans ?_
  refine (at_imul dc134_176).trans ?_
  refine (at_iload dc134_177 rfl).trans ?_
  refine (at_iadd dc134_179).trans ?_
  refine (at_iload dc134_180 rfl).trans ?_
  refine (at_iadd dc134_182).trans ?_
  refine (at_aload_n dc134_183 rfl).trans ?_
  refine (at_gfR dc134_184 mc134 lf6_16 fo6_4 (ly32 hL) (lr32_4 hL)).trans ?_
  refine (at_bipush (v := 40) dc134_187 (by decide)).trans ?_
  refine (at_iload_n dc134_189 rfl).trans ?_
  refine (at_imul dc134_190).trans ?_
  refine (at_iload_n dc134_191 rfl).trans ?_
  refine (at_iadd dc134_192).trans ?_
  refine (at_iload dc134_193 rfl).trans ?_
  refine (at_iadd dc134_195).trans ?_
  refine (at_iald dc134_196 (ly35 hL) i1).trans ?_
  refine (at_iast dc134_197 (ly35 hL) i2).trans ?_
  refine (at_iinc (v := 1) dc134_198 rfl (by decide) rfl).trans ?_
  refine (at_goto (t := 143) dc134_201 (by decide)).trans ?_
  rfl
theorem b134_204 {X : pm_X} {d : Nat} {x1 : Int32} {x2 : Int32} {x3 : Int32} {x4 : Int32} {x5 : Int32} {x6 : Int32} {x7 : Int32} {z8 : Option Value} {g : pm_G} {iv : pm_V}  : pm_at X d 134 (204, [some (.ref 32), some (.int x1), some (.int x2), some (.int x3), some (.int x4), some (.int x5), some (.int x6), some (.int x7), z8], [], g, iv) = some (some (.int x5), g, iv) := by
  refine (at_iload dc134_204 rfl).trans ?_
  exact at_iret dc134_206 mr134
-- Mod.drop (I)I
theorem dc135_0 : decode (pm_mb 135) 0 = .ok (.aload_n 0, 1) := by decide +kernel
theorem dc135_1 : decode (pm_mb 135) 1 = .ok (.iconst 0, 1) := by decide +kernel
theorem dc135_2 : decode (pm_mb 135) 2 = .ok (.putfield 50, 3) := by decide +kernel
theorem dc135_5 : decode (pm_mb 135) 5 = .ok (.iload_n 1, 1) := by decide +kernel
theorem dc135_6 : decode (pm_mb 135) 6 = .ok (.invokestatic 64, 3) := by decide +kernel
theorem dc135_9 : decode (pm_mb 135) 9 = .ok (.ifCond .ne 6, 3) := by decide +kernel
theorem dc135_12 : decode (pm_mb 135) 12 = .ok (.ldc 70, 2) := by decide +kernel
theorem dc135_14 : decode (pm_mb 135) 14 = .ok (.ireturn, 1) := by decide +kernel
theorem dc135_15 : decode (pm_mb 135) 15 = .ok (.aload_n 0, 1) := by decide +kernel
theorem dc135_16 : decode (pm_mb 135) 16 = .ok (.iconst 0, 1) := by decide +kernel
theorem dc135_17 : decode (pm_mb 135) 17 = .ok (.putfield 54, 3) := by decide +kernel
theorem dc135_20 : decode (pm_mb 135) 20 = .ok (.aload_n 0, 1) := by decide +kernel
theorem dc135_21 : decode (pm_mb 135) 21 = .ok (.getfield 7, 3) := by decide +kernel
theorem dc135_24 : decode (pm_mb 135) 24 = .ok (.iload_n 1, 1) := by decide +kernel
theorem dc135_25 : decode (pm_mb 135) 25 = .ok (.iaload, 1) := by decide +kernel
theorem dc135_26 : decode (pm_mb 135) 26 = .ok (.ifCond .ge 9, 3) := by decide +kernel
theorem dc135_29 : decode (pm_mb 135) 29 = .ok (.aload_n 0, 1) := by decide +kernel
theorem dc135_30 : decode (pm_mb 135) 30 = .ok (.iconst 1, 1) := by decide +kernel
theorem dc135_31 : decode (pm_mb 135) 31 = .ok (.invokevirtual 71, 3) := by decide +kernel
theorem dc135_34 : decode (pm_mb 135) 34 = .ok (.ireturn, 1) := by decide +kernel
theorem dc135_35 : decode (pm_mb 135) 35 = .ok (.aload_n 0, 1) := by decide +kernel
theorem dc135_36 : decode (pm_mb 135) 36 = .ok (.getfield 7, 3) := by decide +kernel
theorem dc135_39 : decode (pm_mb 135) 39 = .ok (.iload_n 1, 1) := by decide +kernel
theorem dc135_40 : decode (pm_mb 135) 40 = .ok (.iconst (-1), 1) := by decide +kernel
theorem dc135_41 : decode (pm_mb 135) 41 = .ok (.iastore, 1) := by decide +kernel
theorem dc135_42 : decode (pm_mb 135) 42 = .ok (.aload_n 0, 1) := by decide +kernel
theorem dc135_43 : decode (pm_mb 135) 43 = .ok (.getfield 13, 3) := by decide +kernel
theorem dc135_46 : decode (pm_mb 135) 46 = .ok (.iload_n 1, 1) := by decide +kernel
theorem dc135_47 : decode (pm_mb 135) 47 = .ok (.iaload, 1) := by decide +kernel
theorem dc135_48 : decode (pm_mb 135) 48 = .ok (.ireturn, 1) := by decide +kernel
theorem b135_0 {X : pm_X} {d : Nat} {x1 : Int32} {g : pm_G} {iv : pm_V} (hL : pm_lay g) : pm_at X d 135 (0, [some (.ref 32), some (.int x1)], [], g, iv) = pm_then X d 135 9 [some (.ref 32), some (.int x1)] [] (pm_c X d 131 [.int x1] g (pm_iw iv 32 0 0)) := by
  refine (at_aload_n dc135_0 rfl).trans ?_
  refine (at_iconst (v := 0) dc135_1 rfl).trans ?_
  refine (at_pfI dc135_2 mc135 lf6_50 po6_0 (ly32 hL)).trans ?_
  refine (at_iload_n dc135_5 rfl).trans ?_
  exact at_ins dc135_6 mc135 lm6_64 (Nat.le_of_ble_eq_true rfl) rfl rfl (Nat.le_of_ble_eq_true rfl)
theorem b135_9 {X : pm_X} {d : Nat} {x1 : Int32} {s0 : Int32} {g : pm_G} {iv : pm_V}  : pm_at X d 135 (9, [some (.ref 32), some (.int x1)], [.int s0], g, iv) = if ¬ s0 = 0 then pm_at X d 135 (15, [some (.ref 32), some (.int x1)], [], g, iv) else pm_at X d 135 (12, [some (.ref 32), some (.int x1)], [], g, iv) := by
  exact at_if_ne (t := 15) dc135_9 (by decide)
theorem b135_12 {X : pm_X} {d : Nat} {x1 : Int32} {g : pm_G} {iv : pm_V}  : pm_at X d 135 (12, [some (.ref 32), some (.int x1)], [], g, iv) = some (some (.int (-1000001)), g, iv) := by
  refine (at_ldc dc135_12 mc135 lk6_70).trans ?_
  exact at_iret dc135_14 mr135
theorem b135_15 {X : pm_X} {d : Nat} {x1 : Int32} {g : pm_G} {iv : pm_V} (hL : pm_lay g) (i1 : vp_in x1 8) : pm_at X d 135 (15, [some (.ref 32), some (.int x1)], [], g, iv) = if 0 ≤ ((pm_iw iv 32 1 0) 33 (x1 : Int32).toNatClampNeg) then pm_at X d 135 (35, [some (.ref 32), some (.int x1)], [], g, (pm_iw iv 32 1 0)) else pm_at X d 135 (29, [some (.ref 32), some (.int x1)], [], g, (pm_iw iv 32 1 0)) := by
  refine (at_aload_n dc135_15 rfl).trans ?_
  refine (at_iconst (v := 0) dc135_16 rfl).trans ?_
  refine (at_pfI dc135_17 mc135 lf6_54 po6_1 (ly32 hL)).trans ?_
  refine (at_aload_n dc135_20 rfl).trans ?_
  refine (at_gfR dc135_21 mc135 lf6_7 fo6_2 (ly32 hL) (lr32_2 hL)).trans ?_
  refine (at_iload_n dc135_24 rfl).trans ?_
  refine (at_iald dc135_25 (ly33 hL) i1).trans ?_
  exact at_if_ge (t := 35) dc135_26 (by decide)
theorem b135_29 {X : pm_X} {d : Nat} {x1 : Int32} {g : pm_G} {iv : pm_V} (hL : pm_lay g) : pm_at X d 135 (29, [some (.ref 32), some (.int x1)], [], g, iv) = pm_then X d 135 34 [some (.ref 32), some (.int x1)] [] (pm_c X d 130 [.ref 32, .int 1] g iv) := by
  refine (at_aload_n dc135_29 rfl).trans ?_
  refine (at_iconst (v := 1) dc135_30 rfl).trans ?_
  exact at_inv dc135_31 mc135 lm6_71 rfl rfl (Nat.le_of_ble_eq_true rfl) (Or.inl ⟨(ly32 hL), by decide⟩)
theorem b135_34 {X : pm_X} {d : Nat} {x1 : Int32} {s0 : Int32} {g : pm_G} {iv : pm_V}  : pm_at X d 135 (34, [some (.ref 32), some (.int x1)], [.int s0], g, iv) = some (some (.int s0), g, iv) := by
  exact at_iret dc135_34 mr135
theorem b135_35 {X : pm_X} {d : Nat} {x1 : Int32} {g : pm_G} {iv : pm_V} (hL : pm_lay g) (i1 : vp_in x1 8) : pm_at X d 135 (35, [some (.ref 32), some (.int x1)], [], g, iv) = some (some (.int ((pm_iw iv 33 (x1 : Int32).toNatClampNeg ((-1))) 34 (x1 : Int32).toNatClampNeg)), g, (pm_iw iv 33 (x1 : Int32).toNatClampNeg ((-1)))) := by
  refine (at_aload_n dc135_35 rfl).trans ?_
  refine (at_gfR dc135_36 mc135 lf6_7 fo6_2 (ly32 hL) (lr32_2 hL)).trans ?_
  refine (at_iload_n dc135_39 rfl).trans ?_
  refine (at_iconst (v := (-1)) dc135_40 rfl).trans ?_
  refine (at_iast dc135_41 (ly33 hL) i1).trans ?_
  refine (at_aload_n dc135_42 rfl).trans ?_
  refine (at_gfR dc135_43 mc135 lf6_13 fo6_3 (ly32 hL) (lr32_3 hL)).trans ?_
  refine (at_iload_n dc135_46 rfl).trans ?_
  refine (at_iald dc135_47 (ly34 hL) i1).trans ?_
  exact at_iret dc135_48 mr135
-- Mod.feed (JI)I
theorem dc136_0 : decode (pm_mb 136) 0 = .ok (.aload_n 0, 1) := by decide +kernel
theorem dc136_1 : decode (pm_mb 136) 1 = .ok (.iconst 0, 1) := by decide +kernel
theorem dc136_2 : decode (pm_mb 136) 2 = .ok (.putfield 50, 3) := by decide +kernel
theorem dc136_5 : decode (pm_mb 136) 5 = .ok (.iload_n 3, 1) := by decide +kernel
theorem dc136_6 : decode (pm_mb 136) 6 = .ok (.i2l, 1) := by decide +kernel
theorem dc136_7 : decode (pm_mb 136) 7 = .ok (.lconst 1, 1) := by decide +kernel
theorem dc136_8 : decode (pm_mb 136) 8 = .ok (.ldc2_w 75, 3) := by decide +kernel
theorem dc136_11 : decode (pm_mb 136) 11 = .ok (.invokestatic 60, 3) := by decide +kernel
theorem dc136_14 : decode (pm_mb 136) 14 = .ok (.ifCond .ne 6, 3) := by decide +kernel
theorem dc136_17 : decode (pm_mb 136) 17 = .ok (.ldc 70, 2) := by decide +kernel
theorem dc136_19 : decode (pm_mb 136) 19 = .ok (.ireturn, 1) := by decide +kernel
theorem dc136_20 : decode (pm_mb 136) 20 = .ok (.aload_n 0, 1) := by decide +kernel
theorem dc136_21 : decode (pm_mb 136) 21 = .ok (.getfield 77, 3) := by decide +kernel
theorem dc136_24 : decode (pm_mb 136) 24 = .ok (.iload_n 3, 1) := by decide +kernel
theorem dc136_25 : decode (pm_mb 136) 25 = .ok (.iadd, 1) := by decide +kernel
theorem dc136_26 : decode (pm_mb 136) 26 = .ok (.sipush 400, 3) := by decide +kernel
theorem dc136_29 : decode (pm_mb 136) 29 = .ok (.if_icmp .le 6, 3) := by decide +kernel
theorem dc136_32 : decode (pm_mb 136) 32 = .ok (.ldc 80, 2) := by decide +kernel
theorem dc136_34 : decode (pm_mb 136) 34 = .ok (.ireturn, 1) := by decide +kernel
theorem dc136_35 : decode (pm_mb 136) 35 = .ok (.iload_n 3, 1) := by decide +kernel
theorem dc136_36 : decode (pm_mb 136) 36 = .ok (.iconst 1, 1) := by decide +kernel
theorem dc136_37 : decode (pm_mb 136) 37 = .ok (.isub, 1) := by decide +kernel
theorem dc136_38 : decode (pm_mb 136) 38 = .ok (.istore 4, 2) := by decide +kernel
theorem dc136_40 : decode (pm_mb 136) 40 = .ok (.iload 4, 2) := by decide +kernel
theorem dc136_42 : decode (pm_mb 136) 42 = .ok (.ifCond .lt 40, 3) := by decide +kernel
theorem dc136_45 : decode (pm_mb 136) 45 = .ok (.aload_n 0, 1) := by decide +kernel
theorem dc136_46 : decode (pm_mb 136) 46 = .ok (.getfield 28, 3) := by decide +kernel
theorem dc136_49 : decode (pm_mb 136) 49 = .ok (.aload_n 0, 1) := by decide +kernel
theorem dc136_50 : decode (pm_mb 136) 50 = .ok (.getfield 77, 3) := by decide +kernel
theorem dc136_53 : decode (pm_mb 136) 53 = .ok (.lload_n 1, 1) := by decide +kernel
theorem dc136_54 : decode (pm_mb 136) 54 = .ok (.bipush 8, 2) := by decide +kernel
theorem dc136_56 : decode (pm_mb 136) 56 = .ok (.iload 4, 2) := by decide +kernel
theorem dc136_58 : decode (pm_mb 136) 58 = .ok (.imul, 1) := by decide +kernel
theorem dc136_59 : decode (pm_mb 136) 59 = .ok (.lshr, 1) := by decide +kernel
theorem dc136_60 : decode (pm_mb 136) 60 = .ok (.ldc2_w 81, 3) := by decide +kernel
theorem dc136_63 : decode (pm_mb 136) 63 = .ok (.land, 1) := by decide +kernel
theorem dc136_64 : decode (pm_mb 136) 64 = .ok (.l2i, 1) := by decide +kernel
theorem dc136_65 : decode (pm_mb 136) 65 = .ok (.iastore, 1) := by decide +kernel
theorem dc136_66 : decode (pm_mb 136) 66 = .ok (.aload_n 0, 1) := by decide +kernel
theorem dc136_67 : decode (pm_mb 136) 67 = .ok (.dup, 1) := by decide +kernel
theorem dc136_68 : decode (pm_mb 136) 68 = .ok (.getfield 77, 3) := by decide +kernel
theorem dc136_71 : decode (pm_mb 136) 71 = .ok (.iconst 1, 1) := by decide +kernel
theorem dc136_72 : decode (pm_mb 136) 72 = .ok (.iadd, 1) := by decide +kernel
theorem dc136_73 : decode (pm_mb 136) 73 = .ok (.putfield 77, 3) := by decide +kernel
theorem dc136_76 : decode (pm_mb 136) 76 = .ok (.iinc 4 (-1), 3) := by decide +kernel
theorem dc136_79 : decode (pm_mb 136) 79 = .ok (.goto (-39), 3) := by decide +kernel
theorem dc136_82 : decode (pm_mb 136) 82 = .ok (.aload_n 0, 1) := by decide +kernel
theorem dc136_83 : decode (pm_mb 136) 83 = .ok (.getfield 77, 3) := by decide +kernel
theorem dc136_86 : decode (pm_mb 136) 86 = .ok (.ireturn, 1) := by decide +kernel
theorem b136_0 {X : pm_X} {d : Nat} {x1 : Int64} {x3 : Int32} {g : pm_G} {iv : pm_V} (hL : pm_lay g) : pm_at X d 136 (0, [some (.ref 32), some (.long x1), none, some (.int x3), none], [], g, iv) = pm_then X d 136 14 [some (.ref 32), some (.long x1), none, some (.int x3), none] [] (pm_c X d 129 [.long (x3 : Int32).toInt64, .long 1, .long 8] g (pm_iw iv 32 0 0)) := by
  refine (at_aload_n dc136_0 rfl).trans ?_
  refine (at_iconst (v := 0) dc136_1 rfl).trans ?_
  refine (at_pfI dc136_2 mc136 lf6_50 po6_0 (ly32 hL)).trans ?_
  refine (at_iload_n dc136_5 rfl).trans ?_
  refine (at_i2l dc136_6).trans ?_
  refine (at_lconst (v := 1) dc136_7 (by decide)).trans ?_
  refine (at_ldc2 dc136_8 mc136 ll6_75).trans ?_
  exact at_ins dc136_11 mc136 lm6_60 (Nat.le_of_ble_eq_true rfl) rfl rfl (Nat.le_of_ble_eq_true rfl)
theorem b136_14 {X : pm_X} {d : Nat} {x1 : Int64} {x3 : Int32} {s0 : Int32} {g : pm_G} {iv : pm_V}  : pm_at X d 136 (14, [some (.ref 32), some (.long x1), none, some (.int x3), none], [.int s0], g, iv) = if ¬ s0 = 0 then pm_at X d 136 (20, [some (.ref 32), some (.long x1), none, some (.int x3), none], [], g, iv) else pm_at X d 136 (17, [some (.ref 32), some (.long x1), none, some (.int x3), none], [], g, iv) := by
  exact at_if_ne (t := 20) dc136_14 (by decide)
theorem b136_17 {X : pm_X} {d : Nat} {x1 : Int64} {x3 : Int32} {g : pm_G} {iv : pm_V}  : pm_at X d 136 (17, [some (.ref 32), some (.long x1), none, some (.int x3), none], [], g, iv) = some (some (.int (-1000001)), g, iv) := by
  refine (at_ldc dc136_17 mc136 lk6_70).trans ?_
  exact at_iret dc136_19 mr136
theorem b136_20 {X : pm_X} {d : Nat} {x1 : Int64} {x3 : Int32} {g : pm_G} {iv : pm_V} (hL : pm_lay g) : pm_at X d 136 (20, [some (.ref 32), some (.long x1), none, some (.int x3), none], [], g, iv) = if ((iv 32 10) + x3) ≤ 400 then pm_at X d 136 (35, [some (.ref 32), some (.long x1), none, some (.int x3), none], [], g, iv) else pm_at X d 136 (32, [some (.ref 32), some (.long x1), none, some (.int x3), none], [], g, iv) := by
  refine (at_aload_n dc136_20 rfl).trans ?_
  refine (at_gfI dc136_21 mc136 lf6_77 fo6_10 (ly32 hL)).trans ?_
  refine (at_iload_n dc136_24 rfl).trans ?_
  refine (at_iadd dc136_25).trans ?_
  refine (at_sipush (v := 400) dc136_26 (by decide)).trans ?_
  exact at_icmp_le (t := 35) dc136_29 (by decide)
theorem b136_32 {X : pm_X} {d : Nat} {x1 : Int64} {x3 : Int32} {g : pm_G} {iv : pm_V}  : pm_at X d 136 (32, [some (.ref 32), some (.long x1), none, some (.int x3), none], [], g, iv) = some (some (.int (-1000003)), g, iv) := by
  refine (at_ldc dc136_32 mc136 lk6_80).trans ?_
  exact at_iret dc136_34 mr136
theorem b136_35 {X : pm_X} {d : Nat} {x1 : Int64} {x3 : Int32} {g : pm_G} {iv : pm_V}  : pm_at X d 136 (35, [some (.ref 32), some (.long x1), none, some (.int x3), none], [], g, iv) = pm_at X d 136 (40, [some (.ref 32), some (.long x1), none, some (.int x3), some (.int (x3 - 1))], [], g, iv) := by
  refine (at_iload_n dc136_35 rfl).trans ?_
  refine (at_iconst (v := 1) dc136_36 rfl).trans ?_
  refine (at_isub dc136_37).trans ?_
  refine (at_istore dc136_38 rfl).trans ?_
  rfl
theorem b136_40 {X : pm_X} {d : Nat} {x1 : Int64} {x3 : Int32} {x4 : Int32} {g : pm_G} {iv : pm_V}  : pm_at X d 136 (40, [some (.ref 32), some (.long x1), none, some (.int x3), some (.int x4)], [], g, iv) = if x4 < 0 then pm_at X d 136 (82, [some (.ref 32), some (.long x1), none, some (.int x3), some (.int x4)], [], g, iv) else pm_at X d 136 (45, [some (.ref 32), some (.long x1), none, some (.int x3), some (.int x4)], [], g, iv) := by
  refine (at_iload dc136_40 rfl).trans ?_
  exact at_if_lt (t := 82) dc136_42 (by decide)
theorem b136_45 {X : pm_X} {d : Nat} {x1 : Int64} {x3 : Int32} {x4 : Int32} {g : pm_G} {iv : pm_V} (hL : pm_lay g) (i1 : vp_in ((iv 32 10)) 400) : pm_at X d 136 (45, [some (.ref 32), some (.long x1), none, some (.int x3), some (.int x4)], [], g, iv) = pm_at X d 136 (40, [some (.ref 32), some (.long x1), none, some (.int x3), some (.int (x4 + (-1)))], [], g, (pm_iw (pm_iw iv 39 ((iv 32 10) : Int32).toNatClampNeg ((((x1 >>> (((8 * x4) : Int32).toInt64 &&& 63)) &&& 255) : Int64).toInt32)) 32 10 ((((pm_iw iv 39 ((iv 32 10) : Int32).toNatClampNeg ((((x1 >>> (((8 * x4) : Int32).toInt64 &&& 63)) &&& 255) : Int64).toInt32)) 32 10) + 1)))) := by
  refine (at_aload_n dc136_45 rfl).trans ?_
  refine (at_gfR dc136_46 mc136 lf6_28 fo6_9 (ly32 hL) (lr32_9 hL)).trans ?_
  refine (at_aload_n dc136_49 rfl).trans ?_
  refine (at_gfI dc136_50 mc136 lf6_77 fo6_10 (ly32 hL)).trans ?_
  refine (at_lload_n dc136_53 rfl).trans ?_
  refine (at_bipush (v := 8) dc136_54 (by decide)).trans ?_
  refine (at_iload dc136_56 rfl).trans ?_
  refine (at_imul dc136_58).trans ?_
  refine (at_lshr dc136_59).trans ?_
  refine (at_ldc2 dc136_60 mc136 ll6_81).trans ?_
  refine (at_land dc136_63).trans ?_
  refine (at_l2i dc136_64).trans ?_
  refine (at_iast dc136_65 (ly39 hL) i1).trans ?_
  refine (at_aload_n dc136_66 rfl).trans ?_
  refine (at_dup dc136_67 rfl).trans ?_
  refine (at_gfI dc136_68 mc136 lf6_77 fo6_10 (ly32 hL)).trans ?_
  refine (at_iconst (v := 1) dc136_71 rfl).trans ?_
  refine (at_iadd dc136_72).trans ?_
  refine (at_pfI dc136_73 mc136 lf6_77 po6_10 (ly32 hL)).trans ?_
  refine (at_iinc (v := (-1)) dc136_76 rfl (by decide) rfl).trans ?_
  refine (at_goto (t := 40) dc136_79 (by decide)).trans ?_
  rfl
theorem b136_82 {X : pm_X} {d : Nat} {x1 : Int64} {x3 : Int32} {x4 : Int32} {g : pm_G} {iv : pm_V} (hL : pm_lay g) : pm_at X d 136 (82, [some (.ref 32), some (.long x1), none, some (.int x3), some (.int x4)], [], g, iv) = some (some (.int (iv 32 10)), g, iv) := by
  refine (at_aload_n dc136_82 rfl).trans ?_
  refine (at_gfI dc136_83 mc136 lf6_77 fo6_10 (ly32 hL)).trans ?_
  exact at_iret dc136_86 mr136
-- Mod.byteAt (I)I
theorem dc137_0 : decode (pm_mb 137) 0 = .ok (.iload_n 1, 1) := by decide +kernel
theorem dc137_1 : decode (pm_mb 137) 1 = .ok (.aload_n 0, 1) := by decide +kernel
theorem dc137_2 : decode (pm_mb 137) 2 = .ok (.getfield 83, 3) := by decide +kernel
theorem dc137_5 : decode (pm_mb 137) 5 = .ok (.if_icmp .ge 12, 3) := by decide +kernel
theorem dc137_8 : decode (pm_mb 137) 8 = .ok (.aload_n 0, 1) := by decide +kernel
theorem dc137_9 : decode (pm_mb 137) 9 = .ok (.getfield 28, 3) := by decide +kernel
theorem dc137_12 : decode (pm_mb 137) 12 = .ok (.iload_n 1, 1) := by decide +kernel
theorem dc137_13 : decode (pm_mb 137) 13 = .ok (.iaload, 1) := by decide +kernel
theorem dc137_14 : decode (pm_mb 137) 14 = .ok (.goto 5, 3) := by decide +kernel
theorem dc137_17 : decode (pm_mb 137) 17 = .ok (.ldc 86, 2) := by decide +kernel
theorem dc137_19 : decode (pm_mb 137) 19 = .ok (.ireturn, 1) := by decide +kernel
theorem b137_0 {X : pm_X} {d : Nat} {x1 : Int32} {g : pm_G} {iv : pm_V} (hL : pm_lay g) : pm_at X d 137 (0, [some (.ref 32), some (.int x1)], [], g, iv) = if (iv 32 12) ≤ x1 then pm_at X d 137 (17, [some (.ref 32), some (.int x1)], [], g, iv) else pm_at X d 137 (8, [some (.ref 32), some (.int x1)], [], g, iv) := by
  refine (at_iload_n dc137_0 rfl).trans ?_
  refine (at_aload_n dc137_1 rfl).trans ?_
  refine (at_gfI dc137_2 mc137 lf6_83 fo6_12 (ly32 hL)).trans ?_
  exact at_icmp_ge (t := 17) dc137_5 (by decide)
theorem b137_8 {X : pm_X} {d : Nat} {x1 : Int32} {g : pm_G} {iv : pm_V} (hL : pm_lay g) (i1 : vp_in x1 400) : pm_at X d 137 (8, [some (.ref 32), some (.int x1)], [], g, iv) = pm_at X d 137 (19, [some (.ref 32), some (.int x1)], [.int (iv 39 (x1 : Int32).toNatClampNeg)], g, iv) := by
  refine (at_aload_n dc137_8 rfl).trans ?_
  refine (at_gfR dc137_9 mc137 lf6_28 fo6_9 (ly32 hL) (lr32_9 hL)).trans ?_
  refine (at_iload_n dc137_12 rfl).trans ?_
  refine (at_iald dc137_13 (ly39 hL) i1).trans ?_
  refine (at_goto (t := 19) dc137_14 (by decide)).trans ?_
  rfl
theorem b137_17 {X : pm_X} {d : Nat} {x1 : Int32} {g : pm_G} {iv : pm_V}  : pm_at X d 137 (17, [some (.ref 32), some (.int x1)], [], g, iv) = pm_at X d 137 (19, [some (.ref 32), some (.int x1)], [.int (-1000000)], g, iv) := by
  refine (at_ldc dc137_17 mc137 lk6_86).trans ?_
  rfl
theorem b137_19 {X : pm_X} {d : Nat} {x1 : Int32} {s0 : Int32} {g : pm_G} {iv : pm_V}  : pm_at X d 137 (19, [some (.ref 32), some (.int x1)], [.int s0], g, iv) = some (some (.int s0), g, iv) := by
  exact at_iret dc137_19 mr137
-- Mod.isLetter (I)Z
theorem dc138_0 : decode (pm_mb 138) 0 = .ok (.iload_n 0, 1) := by decide +kernel
theorem dc138_1 : decode (pm_mb 138) 1 = .ok (.bipush 97, 2) := by decide +kernel
theorem dc138_3 : decode (pm_mb 138) 3 = .ok (.if_icmp .lt 13, 3) := by decide +kernel
theorem dc138_6 : decode (pm_mb 138) 6 = .ok (.iload_n 0, 1) := by decide +kernel
theorem dc138_7 : decode (pm_mb 138) 7 = .ok (.bipush 122, 2) := by decide +kernel
theorem dc138_9 : decode (pm_mb 138) 9 = .ok (.if_icmp .gt 7, 3) := by decide +kernel
theorem dc138_12 : decode (pm_mb 138) 12 = .ok (.iconst 1, 1) := by decide +kernel
theorem dc138_13 : decode (pm_mb 138) 13 = .ok (.goto 4, 3) := by decide +kernel
theorem dc138_16 : decode (pm_mb 138) 16 = .ok (.iconst 0, 1) := by decide +kernel
theorem dc138_17 : decode (pm_mb 138) 17 = .ok (.ireturn, 1) := by decide +kernel
theorem b138_0 {X : pm_X} {d : Nat} {x0 : Int32} {g : pm_G} {iv : pm_V}  : pm_at X d 138 (0, [some (.int x0)], [], g, iv) = if x0 < 97 then pm_at X d 138 (16, [some (.int x0)], [], g, iv) else pm_at X d 138 (6, [some (.int x0)], [], g, iv) := by
  refine (at_iload_n dc138_0 rfl).trans ?_
  refine (at_bipush (v := 97) dc138_1 (by decide)).trans ?_
  exact at_icmp_lt (t := 16) dc138_3 (by decide)
theorem b138_6 {X : pm_X} {d : Nat} {x0 : Int32} {g : pm_G} {iv : pm_V}  : pm_at X d 138 (6, [some (.int x0)], [], g, iv) = if 122 < x0 then pm_at X d 138 (16, [some (.int x0)], [], g, iv) else pm_at X d 138 (12, [some (.int x0)], [], g, iv) := by
  refine (at_iload_n dc138_6 rfl).trans ?_
  refine (at_bipush (v := 122) dc138_7 (by decide)).trans ?_
  exact at_icmp_gt (t := 16) dc138_9 (by decide)
theorem b138_12 {X : pm_X} {d : Nat} {x0 : Int32} {g : pm_G} {iv : pm_V}  : pm_at X d 138 (12, [some (.int x0)], [], g, iv) = pm_at X d 138 (17, [some (.int x0)], [.int 1], g, iv) := by
  refine (at_iconst (v := 1) dc138_12 rfl).trans ?_
  refine (at_goto (t := 17) dc138_13 (by decide)).trans ?_
  rfl
theorem b138_16 {X : pm_X} {d : Nat} {x0 : Int32} {g : pm_G} {iv : pm_V}  : pm_at X d 138 (16, [some (.int x0)], [], g, iv) = pm_at X d 138 (17, [some (.int x0)], [.int 0], g, iv) := by
  refine (at_iconst (v := 0) dc138_16 rfl).trans ?_
  rfl
theorem b138_17 {X : pm_X} {d : Nat} {x0 : Int32} {s0 : Int32} {g : pm_G} {iv : pm_V}  : pm_at X d 138 (17, [some (.int x0)], [.int s0], g, iv) = pm_zr s0 (some (some (.int s0), g, iv)) := by
  exact at_zretG dc138_17 mr138
-- Mod.isFigure (I)Z
theorem dc139_0 : decode (pm_mb 139) 0 = .ok (.iload_n 0, 1) := by decide +kernel
theorem dc139_1 : decode (pm_mb 139) 1 = .ok (.bipush 48, 2) := by decide +kernel
theorem dc139_3 : decode (pm_mb 139) 3 = .ok (.if_icmp .lt 13, 3) := by decide +kernel
theorem dc139_6 : decode (pm_mb 139) 6 = .ok (.iload_n 0, 1) := by decide +kernel
theorem dc139_7 : decode (pm_mb 139) 7 = .ok (.bipush 57, 2) := by decide +kernel
theorem dc139_9 : decode (pm_mb 139) 9 = .ok (.if_icmp .gt 7, 3) := by decide +kernel
theorem dc139_12 : decode (pm_mb 139) 12 = .ok (.iconst 1, 1) := by decide +kernel
theorem dc139_13 : decode (pm_mb 139) 13 = .ok (.goto 4, 3) := by decide +kernel
theorem dc139_16 : decode (pm_mb 139) 16 = .ok (.iconst 0, 1) := by decide +kernel
theorem dc139_17 : decode (pm_mb 139) 17 = .ok (.ireturn, 1) := by decide +kernel
theorem b139_0 {X : pm_X} {d : Nat} {x0 : Int32} {g : pm_G} {iv : pm_V}  : pm_at X d 139 (0, [some (.int x0)], [], g, iv) = if x0 < 48 then pm_at X d 139 (16, [some (.int x0)], [], g, iv) else pm_at X d 139 (6, [some (.int x0)], [], g, iv) := by
  refine (at_iload_n dc139_0 rfl).trans ?_
  refine (at_bipush (v := 48) dc139_1 (by decide)).trans ?_
  exact at_icmp_lt (t := 16) dc139_3 (by decide)
theorem b139_6 {X : pm_X} {d : Nat} {x0 : Int32} {g : pm_G} {iv : pm_V}  : pm_at X d 139 (6, [some (.int x0)], [], g, iv) = if 57 < x0 then pm_at X d 139 (16, [some (.int x0)], [], g, iv) else pm_at X d 139 (12, [some (.int x0)], [], g, iv) := by
  refine (at_iload_n dc139_6 rfl).trans ?_
  refine (at_bipush (v := 57) dc139_7 (by decide)).trans ?_
  exact at_icmp_gt (t := 16) dc139_9 (by decide)
theorem b139_12 {X : pm_X} {d : Nat} {x0 : Int32} {g : pm_G} {iv : pm_V}  : pm_at X d 139 (12, [some (.int x0)], [], g, iv) = pm_at X d 139 (17, [some (.int x0)], [.int 1], g, iv) := by
  refine (at_iconst (v := 1) dc139_12 rfl).trans ?_
  refine (at_goto (t := 17) dc139_13 (by decide)).trans ?_
  rfl
theorem b139_16 {X : pm_X} {d : Nat} {x0 : Int32} {g : pm_G} {iv : pm_V}  : pm_at X d 139 (16, [some (.int x0)], [], g, iv) = pm_at X d 139 (17, [some (.int x0)], [.int 0], g, iv) := by
  refine (at_iconst (v := 0) dc139_16 rfl).trans ?_
  rfl
theorem b139_17 {X : pm_X} {d : Nat} {x0 : Int32} {s0 : Int32} {g : pm_G} {iv : pm_V}  : pm_at X d 139 (17, [some (.int x0)], [.int s0], g, iv) = pm_zr s0 (some (some (.int s0), g, iv)) := by
  exact at_zretG dc139_17 mr139
-- Mod.next ()V
theorem dc140_0 : decode (pm_mb 140) 0 = .ok (.aload_n 0, 1) := by decide +kernel
theorem dc140_1 : decode (pm_mb 140) 1 = .ok (.aload_n 0, 1) := by decide +kernel
theorem dc140_2 : decode (pm_mb 140) 2 = .ok (.getfield 87, 3) := by decide +kernel
theorem dc140_5 : decode (pm_mb 140) 5 = .ok (.invokevirtual 90, 3) := by decide +kernel
theorem dc140_8 : decode (pm_mb 140) 8 = .ok (.bipush 32, 2) := by decide +kernel
theorem dc140_10 : decode (pm_mb 140) 10 = .ok (.if_icmp .eq 16, 3) := by decide +kernel
theorem dc140_13 : decode (pm_mb 140) 13 = .ok (.aload_n 0, 1) := by decide +kernel
theorem dc140_14 : decode (pm_mb 140) 14 = .ok (.aload_n 0, 1) := by decide +kernel
theorem dc140_15 : decode (pm_mb 140) 15 = .ok (.getfield 87, 3) := by decide +kernel
theorem dc140_18 : decode (pm_mb 140) 18 = .ok (.invokevirtual 90, 3) := by decide +kernel
theorem dc140_21 : decode (pm_mb 140) 21 = .ok (.bipush 10, 2) := by decide +kernel
theorem dc140_23 : decode (pm_mb 140) 23 = .ok (.if_icmp .ne 16, 3) := by decide +kernel
theorem dc140_26 : decode (pm_mb 140) 26 = .ok (.aload_n 0, 1) := by decide +kernel
theorem dc140_27 : decode (pm_mb 140) 27 = .ok (.dup, 1) := by decide +kernel
theorem dc140_28 : decode (pm_mb 140) 28 = .ok (.getfield 87, 3) := by decide +kernel
theorem dc140_31 : decode (pm_mb 140) 31 = .ok (.iconst 1, 1) := by decide +kernel
theorem dc140_32 : decode (pm_mb 140) 32 = .ok (.iadd, 1) := by decide +kernel
theorem dc140_33 : decode (pm_mb 140) 33 = .ok (.putfield 87, 3) := by decide +kernel
theorem dc140_36 : decode (pm_mb 140) 36 = .ok (.goto (-36), 3) := by decide +kernel
theorem dc140_39 : decode (pm_mb 140) 39 = .ok (.aload_n 0, 1) := by decide +kernel
theorem dc140_40 : decode (pm_mb 140) 40 = .ok (.aload_n 0, 1) := by decide +kernel
theorem dc140_41 : decode (pm_mb 140) 41 = .ok (.getfield 87, 3) := by decide +kernel
theorem dc140_44 : decode (pm_mb 140) 44 = .ok (.putfield 93, 3) := by decide +kernel
theorem dc140_47 : decode (pm_mb 140) 47 = .ok (.aload_n 0, 1) := by decide +kernel
theorem dc140_48 : decode (pm_mb 140) 48 = .ok (.aload_n 0, 1) := by decide +kernel
theorem dc140_49 : decode (pm_mb 140) 49 = .ok (.getfield 87, 3) := by decide +kernel
theorem dc140_52 : decode (pm_mb 140) 52 = .ok (.invokevirtual 90, 3) := by decide +kernel
theorem dc140_55 : decode (pm_mb 140) 55 = .ok (.istore_n 1, 1) := by decide +kernel
theorem dc140_56 : decode (pm_mb 140) 56 = .ok (.iload_n 1, 1) := by decide +kernel
theorem dc140_57 : decode (pm_mb 140) 57 = .ok (.ldc 86, 2) := by decide +kernel
theorem dc140_59 : decode (pm_mb 140) 59 = .ok (.if_icmp .ne 11, 3) := by decide +kernel
theorem dc140_62 : decode (pm_mb 140) 62 = .ok (.aload_n 0, 1) := by decide +kernel
theorem dc140_63 : decode (pm_mb 140) 63 = .ok (.iconst 1, 1) := by decide +kernel
theorem dc140_64 : decode (pm_mb 140) 64 = .ok (.putfield 96, 3) := by decide +kernel
theorem dc140_67 : decode (pm_mb 140) 67 = .ok (.goto 129, 3) := by decide +kernel
theorem dc140_70 : decode (pm_mb 140) 70 = .ok (.iload_n 1, 1) := by decide +kernel
theorem dc140_71 : decode (pm_mb 140) 71 = .ok (.invokestatic 99, 3) := by decide +kernel
theorem dc140_74 : decode (pm_mb 140) 74 = .ok (.ifCond .eq 38, 3) := by decide +kernel
theorem dc140_77 : decode (pm_mb 140) 77 = .ok (.aload_n 0, 1) := by decide +kernel
theorem dc140_78 : decode (pm_mb 140) 78 = .ok (.aload_n 0, 1) := by decide +kernel
theorem dc140_79 : decode (pm_mb 140) 79 = .ok (.getfield 87, 3) := by decide +kernel
theorem dc140_82 : decode (pm_mb 140) 82 = .ok (.invokevirtual 90, 3) := by decide +kernel
theorem dc140_85 : decode (pm_mb 140) 85 = .ok (.invokestatic 99, 3) := by decide +kernel
theorem dc140_88 : decode (pm_mb 140) 88 = .ok (.ifCond .eq 16, 3) := by decide +kernel
theorem dc140_91 : decode (pm_mb 140) 91 = .ok (.aload_n 0, 1) := by decide +kernel
theorem dc140_92 : decode (pm_mb 140) 92 = .ok (.dup, 1) := by decide +kernel
theorem dc140_93 : decode (pm_mb 140) 93 = .ok (.getfield 87, 3) := by decide +kernel
theorem dc140_96 : decode (pm_mb 140) 96 = .ok (.iconst 1, 1) := by decide +kernel
theorem dc140_97 : decode (pm_mb 140) 97 = .ok (.iadd, 1) := by decide +kernel
theorem dc140_98 : decode (pm_mb 140) 98 = .ok (.putfield 87, 3) := by decide +kernel
theorem dc140_101 : decode (pm_mb 140) 101 = .ok (.goto (-24), 3) := by decide +kernel
theorem dc140_104 : decode (pm_mb 140) 104 = .ok (.aload_n 0, 1) := by decide +kernel
theorem dc140_105 : decode (pm_mb 140) 105 = .ok (.iconst 2, 1) := by decide +kernel
theorem dc140_106 : decode (pm_mb 140) 106 = .ok (.putfield 96, 3) := by decide +kernel
theorem dc140_109 : decode (pm_mb 140) 109 = .ok (.goto 87, 3) := by decide +kernel
theorem dc140_112 : decode (pm_mb 140) 112 = .ok (.iload_n 1, 1) := by decide +kernel
theorem dc140_113 : decode (pm_mb 140) 113 = .ok (.invokestatic 102, 3) := by decide +kernel
theorem dc140_116 : decode (pm_mb 140) 116 = .ok (.ifCond .eq 55, 3) := by decide +kernel
theorem dc140_119 : decode (pm_mb 140) 119 = .ok (.aload_n 0, 1) := by decide +kernel
theorem dc140_120 : decode (pm_mb 140) 120 = .ok (.aload_n 0, 1) := by decide +kernel
theorem dc140_121 : decode (pm_mb 140) 121 = .ok (.getfield 87, 3) := by decide +kernel
theorem dc140_124 : decode (pm_mb 140) 124 = .ok (.invokevirtual 90, 3) := by decide +kernel
theorem dc140_127 : decode (pm_mb 140) 127 = .ok (.invokestatic 102, 3) := by decide +kernel
theorem dc140_130 : decode (pm_mb 140) 130 = .ok (.ifCond .eq 16, 3) := by decide +kernel
theorem dc140_133 : decode (pm_mb 140) 133 = .ok (.aload_n 0, 1) := by decide +kernel
theorem dc140_134 : decode (pm_mb 140) 134 = .ok (.dup, 1) := by decide +kernel
theorem dc140_135 : decode (pm_mb 140) 135 = .ok (.getfield 87, 3) := by decide +kernel
theorem dc140_138 : decode (pm_mb 140) 138 = .ok (.iconst 1, 1) := by decide +kernel
theorem dc140_139 : decode (pm_mb 140) 139 = .ok (.iadd, 1) := by decide +kernel
theorem dc140_140 : decode (pm_mb 140) 140 = .ok (.putfield 87, 3) := by decide +kernel
theorem dc140_143 : decode (pm_mb 140) 143 = .ok (.goto (-24), 3) := by decide +kernel
theorem dc140_146 : decode (pm_mb 140) 146 = .ok (.aload_n 0, 1) := by decide +kernel
theorem dc140_147 : decode (pm_mb 140) 147 = .ok (.aload_n 0, 1) := by decide +kernel
theorem dc140_148 : decode (pm_mb 140) 148 = .ok (.getfield 87, 3) := by decide +kernel
theorem dc140_151 : decode (pm_mb 140) 151 = .ok (.aload_n 0, 1) := by decide +kernel
theorem dc140_152 : decode (pm_mb 140) 152 = .ok (.getfield 93, 3) := by decide +kernel
theorem dc140_155 : decode (pm_mb 140) 155 = .ok (.isub, 1) := by decide +kernel
theorem dc140_156 : decode (pm_mb 140) 156 = .ok (.iconst 3, 1) := by decide +kernel
theorem dc140_157 : decode (pm_mb 140) 157 = .ok (.if_icmp .le 7, 3) := by decide +kernel
theorem dc140_160 : decode (pm_mb 140) 160 = .ok (.iconst 0, 1) := by decide +kernel
theorem dc140_161 : decode (pm_mb 140) 161 = .ok (.goto 4, 3) := by decide +kernel
theorem dc140_164 : decode (pm_mb 140) 164 = .ok (.iconst 3, 1) := by decide +kernel
theorem dc140_165 : decode (pm_mb 140) 165 = .ok (.putfield 96, 3) := by decide +kernel
theorem dc140_168 : decode (pm_mb 140) 168 = .ok (.goto 28, 3) := by decide +kernel
theorem dc140_171 : decode (pm_mb 140) 171 = .ok (.aload_n 0, 1) := by decide +kernel
theorem dc140_172 : decode (pm_mb 140) 172 = .ok (.dup, 1) := by decide +kernel
theorem dc140_173 : decode (pm_mb 140) 173 = .ok (.getfield 87, 3) := by decide +kernel
theorem dc140_176 : decode (pm_mb 140) 176 = .ok (.iconst 1, 1) := by decide +kernel
theorem dc140_177 : decode (pm_mb 140) 177 = .ok (.iadd, 1) := by decide +kernel
theorem dc140_178 : decode (pm_mb 140) 178 = .ok (.putfield 87, 3) := by decide +kernel
theorem dc140_181 : decode (pm_mb 140) 181 = .ok (.aload_n 0, 1) := by decide +kernel
theorem dc140_182 : decode (pm_mb 140) 182 = .ok (.iload_n 1, 1) := by decide +kernel
theorem dc140_183 : decode (pm_mb 140) 183 = .ok (.bipush 59, 2) := by decide +kernel
theorem dc140_185 : decode (pm_mb 140) 185 = .ok (.if_icmp .ne 7, 3) := by decide +kernel
theorem dc140_188 : decode (pm_mb 140) 188 = .ok (.iconst 4, 1) := by decide +kernel
theorem dc140_189 : decode (pm_mb 140) 189 = .ok (.goto 4, 3) := by decide +kernel
theorem dc140_192 : decode (pm_mb 140) 192 = .ok (.iconst 0, 1) := by decide +kernel
theorem dc140_193 : decode (pm_mb 140) 193 = .ok (.putfield 96, 3) := by decide +kernel
theorem dc140_196 : decode (pm_mb 140) 196 = .ok (.aload_n 0, 1) := by decide +kernel
theorem dc140_197 : decode (pm_mb 140) 197 = .ok (.aload_n 0, 1) := by decide +kernel
theorem dc140_198 : decode (pm_mb 140) 198 = .ok (.getfield 87, 3) := by decide +kernel
theorem dc140_201 : decode (pm_mb 140) 201 = .ok (.putfield 105, 3) := by decide +kernel
theorem dc140_204 : decode (pm_mb 140) 204 = .ok (.return_, 1) := by decide +kernel
theorem b140_0 {X : pm_X} {d : Nat} {g : pm_G} {iv : pm_V} (hL : pm_lay g) : pm_at X d 140 (0, [some (.ref 32), none], [], g, iv) = pm_then X d 140 8 [some (.ref 32), none] [] (pm_c X d 137 [.ref 32, .int (iv 32 13)] g iv) := by
  refine (at_aload_n dc140_0 rfl).trans ?_
  refine (at_aload_n dc140_1 rfl).trans ?_
  refine (at_gfI dc140_2 mc140 lf6_87 fo6_13 (ly32 hL)).trans ?_
  exact at_inv dc140_5 mc140 lm6_90 rfl rfl (Nat.le_of_ble_eq_true rfl) (Or.inl ⟨(ly32 hL), by decide⟩)
theorem b140_8 {X : pm_X} {d : Nat} {s0 : Int32} {g : pm_G} {iv : pm_V}  : pm_at X d 140 (8, [some (.ref 32), none], [.int s0], g, iv) = if s0 = 32 then pm_at X d 140 (26, [some (.ref 32), none], [], g, iv) else pm_at X d 140 (13, [some (.ref 32), none], [], g, iv) := by
  refine (at_bipush (v := 32) dc140_8 (by decide)).trans ?_
  exact at_icmp_eq (t := 26) dc140_10 (by decide)
theorem b140_13 {X : pm_X} {d : Nat} {g : pm_G} {iv : pm_V} (hL : pm_lay g) : pm_at X d 140 (13, [some (.ref 32), none], [], g, iv) = pm_then X d 140 21 [some (.ref 32), none] [] (pm_c X d 137 [.ref 32, .int (iv 32 13)] g iv) := by
  refine (at_aload_n dc140_13 rfl).trans ?_
  refine (at_aload_n dc140_14 rfl).trans ?_
  refine (at_gfI dc140_15 mc140 lf6_87 fo6_13 (ly32 hL)).trans ?_
  exact at_inv dc140_18 mc140 lm6_90 rfl rfl (Nat.le_of_ble_eq_true rfl) (Or.inl ⟨(ly32 hL), by decide⟩)
theorem b140_21 {X : pm_X} {d : Nat} {s0 : Int32} {g : pm_G} {iv : pm_V}  : pm_at X d 140 (21, [some (.ref 32), none], [.int s0], g, iv) = if ¬ s0 = 10 then pm_at X d 140 (39, [some (.ref 32), none], [], g, iv) else pm_at X d 140 (26, [some (.ref 32), none], [], g, iv) := by
  refine (at_bipush (v := 10) dc140_21 (by decide)).trans ?_
  exact at_icmp_ne (t := 39) dc140_23 (by decide)
theorem b140_26 {X : pm_X} {d : Nat} {g : pm_G} {iv : pm_V} (hL : pm_lay g) : pm_at X d 140 (26, [some (.ref 32), none], [], g, iv) = pm_at X d 140 (0, [some (.ref 32), none], [], g, (pm_iw iv 32 13 (((iv 32 13) + 1)))) := by
  refine (at_aload_n dc140_26 rfl).trans ?_
  refine (at_dup dc140_27 rfl).trans ?_
  refine (at_gfI dc140_28 mc140 lf6_87 fo6_13 (ly32 hL)).trans ?_
  refine (at_iconst (v := 1) dc140_31 rfl).trans ?_
  refine (at_iadd dc140_32).trans ?_
  refine (at_pfI dc140_33 mc140 lf6_87 po6_13 (ly32 hL)).trans ?_
  refine (at_goto (t := 0) dc140_36 (by decide)).trans ?_
  rfl
theorem b140_39 {X : pm_X} {d : Nat} {g : pm_G} {iv : pm_V} (hL : pm_lay g) : pm_at X d 140 (39, [some (.ref 32), none], [], g, iv) = pm_then X d 140 55 [some (.ref 32), none] [] (pm_c X d 137 [.ref 32, .int ((pm_iw iv 32 15 ((iv 32 13))) 32 13)] g (pm_iw iv 32 15 ((iv 32 13)))) := by
  refine (at_aload_n dc140_39 rfl).trans ?_
  refine (at_aload_n dc140_40 rfl).trans ?_
  refine (at_gfI dc140_41 mc140 lf6_87 fo6_13 (ly32 hL)).trans ?_
  refine (at_pfI dc140_44 mc140 lf6_93 po6_15 (ly32 hL)).trans ?_
  refine (at_aload_n dc140_47 rfl).trans ?_
  refine (at_aload_n dc140_48 rfl).trans ?_
  refine (at_gfI dc140_49 mc140 lf6_87 fo6_13 (ly32 hL)).trans ?_
  exact at_inv dc140_52 mc140 lm6_90 rfl rfl (Nat.le_of_ble_eq_true rfl) (Or.inl ⟨(ly32 hL), by decide⟩)
theorem b140_55 {X : pm_X} {d : Nat} {s0 : Int32} {g : pm_G} {iv : pm_V}  : pm_at X d 140 (55, [some (.ref 32), none], [.int s0], g, iv) = if ¬ s0 = (-1000000) then pm_at X d 140 (70, [some (.ref 32), some (.int s0)], [], g, iv) else pm_at X d 140 (62, [some (.ref 32), some (.int s0)], [], g, iv) := by
  refine (at_istore_n dc140_55 rfl).trans ?_
  refine (at_iload_n dc140_56 rfl).trans ?_
  refine (at_ldc dc140_57 mc140 lk6_86).trans ?_
  exact at_icmp_ne (t := 70) dc140_59 (by decide)
theorem b140_62 {X : pm_X} {d : Nat} {x1 : Int32} {g : pm_G} {iv : pm_V} (hL : pm_lay g) : pm_at X d 140 (62, [some (.ref 32), some (.int x1)], [], g, iv) = pm_at X d 140 (196, [some (.ref 32), some (.int x1)], [], g, (pm_iw iv 32 14 1)) := by
  refine (at_aload_n dc140_62 rfl).trans ?_
  refine (at_iconst (v := 1) dc140_63 rfl).trans ?_
  refine (at_pfI dc140_64 mc140 lf6_96 po6_14 (ly32 hL)).trans ?_
  refine (at_goto (t := 196) dc140_67 (by decide)).trans ?_
  rfl
theorem b140_70 {X : pm_X} {d : Nat} {x1 : Int32} {g : pm_G} {iv : pm_V}  : pm_at X d 140 (70, [some (.ref 32), some (.int x1)], [], g, iv) = pm_then X d 140 74 [some (.ref 32), some (.int x1)] [] (pm_c X d 138 [.int x1] g iv) := by
  refine (at_iload_n dc140_70 rfl).trans ?_
  exact at_ins dc140_71 mc140 lm6_99 (Nat.le_of_ble_eq_true rfl) rfl rfl (Nat.le_of_ble_eq_true rfl)
theorem b140_74 {X : pm_X} {d : Nat} {x1 : Int32} {s0 : Int32} {g : pm_G} {iv : pm_V}  : pm_at X d 140 (74, [some (.ref 32), some (.int x1)], [.int s0], g, iv) = if s0 = 0 then pm_at X d 140 (112, [some (.ref 32), some (.int x1)], [], g, iv) else pm_at X d 140 (77, [some (.ref 32), some (.int x1)], [], g, iv) := by
  exact at_if_eq (t := 112) dc140_74 (by decide)
theorem b140_77 {X : pm_X} {d : Nat} {x1 : Int32} {g : pm_G} {iv : pm_V} (hL : pm_lay g) : pm_at X d 140 (77, [some (.ref 32), some (.int x1)], [], g, iv) = pm_then X d 140 85 [some (.ref 32), some (.int x1)] [] (pm_c X d 137 [.ref 32, .int (iv 32 13)] g iv) := by
  refine (at_aload_n dc140_77 rfl).trans ?_
  refine (at_aload_n dc140_78 rfl).trans ?_
  refine (at_gfI dc140_79 mc140 lf6_87 fo6_13 (ly32 hL)).trans ?_
  exact at_inv dc140_82 mc140 lm6_90 rfl rfl (Nat.le_of_ble_eq_true rfl) (Or.inl ⟨(ly32 hL), by decide⟩)
theorem b140_85 {X : pm_X} {d : Nat} {x1 : Int32} {s0 : Int32} {g : pm_G} {iv : pm_V}  : pm_at X d 140 (85, [some (.ref 32), some (.int x1)], [.int s0], g, iv) = pm_then X d 140 88 [some (.ref 32), some (.int x1)] [] (pm_c X d 138 [.int s0] g iv) := by
  exact at_ins dc140_85 mc140 lm6_99 (Nat.le_of_ble_eq_true rfl) rfl rfl (Nat.le_of_ble_eq_true rfl)
theorem b140_88 {X : pm_X} {d : Nat} {x1 : Int32} {s0 : Int32} {g : pm_G} {iv : pm_V}  : pm_at X d 140 (88, [some (.ref 32), some (.int x1)], [.int s0], g, iv) = if s0 = 0 then pm_at X d 140 (104, [some (.ref 32), some (.int x1)], [], g, iv) else pm_at X d 140 (91, [some (.ref 32), some (.int x1)], [], g, iv) := by
  exact at_if_eq (t := 104) dc140_88 (by decide)
theorem b140_91 {X : pm_X} {d : Nat} {x1 : Int32} {g : pm_G} {iv : pm_V} (hL : pm_lay g) : pm_at X d 140 (91, [some (.ref 32), some (.int x1)], [], g, iv) = pm_at X d 140 (77, [some (.ref 32), some (.int x1)], [], g, (pm_iw iv 32 13 (((iv 32 13) + 1)))) := by
  refine (at_aload_n dc140_91 rfl).trans ?_
  refine (at_dup dc140_92 rfl).trans ?_
  refine (at_gfI dc140_93 mc140 lf6_87 fo6_13 (ly32 hL)).trans ?_
  refine (at_iconst (v := 1) dc140_96 rfl).trans ?_
  refine (at_iadd dc140_97).trans ?_
  refine (at_pfI dc140_98 mc140 lf6_87 po6_13 (ly32 hL)).trans ?_
  refine (at_goto (t := 77) dc140_101 (by decide)).trans ?_
  rfl
theorem b140_104 {X : pm_X} {d : Nat} {x1 : Int32} {g : pm_G} {iv : pm_V} (hL : pm_lay g) : pm_at X d 140 (104, [some (.ref 32), some (.int x1)], [], g, iv) = pm_at X d 140 (196, [some (.ref 32), some (.int x1)], [], g, (pm_iw iv 32 14 2)) := by
  refine (at_aload_n dc140_104 rfl).trans ?_
  refine (at_iconst (v := 2) dc140_105 rfl).trans ?_
  refine (at_pfI dc140_106 mc140 lf6_96 po6_14 (ly32 hL)).trans ?_
  refine (at_goto (t := 196) dc140_109 (by decide)).trans ?_
  rfl
theorem b140_112 {X : pm_X} {d : Nat} {x1 : Int32} {g : pm_G} {iv : pm_V}  : pm_at X d 140 (112, [some (.ref 32), some (.int x1)], [], g, iv) = pm_then X d 140 116 [some (.ref 32), some (.int x1)] [] (pm_c X d 139 [.int x1] g iv) := by
  refine (at_iload_n dc140_112 rfl).trans ?_
  exact at_ins dc140_113 mc140 lm6_102 (Nat.le_of_ble_eq_true rfl) rfl rfl (Nat.le_of_ble_eq_true rfl)
theorem b140_116 {X : pm_X} {d : Nat} {x1 : Int32} {s0 : Int32} {g : pm_G} {iv : pm_V}  : pm_at X d 140 (116, [some (.ref 32), some (.int x1)], [.int s0], g, iv) = if s0 = 0 then pm_at X d 140 (171, [some (.ref 32), some (.int x1)], [], g, iv) else pm_at X d 140 (119, [some (.ref 32), some (.int x1)], [], g, iv) := by
  exact at_if_eq (t := 171) dc140_116 (by decide)
theorem b140_119 {X : pm_X} {d : Nat} {x1 : Int32} {g : pm_G} {iv : pm_V} (hL : pm_lay g) : pm_at X d 140 (119, [some (.ref 32), some (.int x1)], [], g, iv) = pm_then X d 140 127 [some (.ref 32), some (.int x1)] [] (pm_c X d 137 [.ref 32, .int (iv 32 13)] g iv) := by
  refine (at_aload_n dc140_119 rfl).trans ?_
  refine (at_aload_n dc140_120 rfl).trans ?_
  refine (at_gfI dc140_121 mc140 lf6_87 fo6_13 (ly32 hL)).trans ?_
  exact at_inv dc140_124 mc140 lm6_90 rfl rfl (Nat.le_of_ble_eq_true rfl) (Or.inl ⟨(ly32 hL), by decide⟩)
theorem b140_127 {X : pm_X} {d : Nat} {x1 : Int32} {s0 : Int32} {g : pm_G} {iv : pm_V}  : pm_at X d 140 (127, [some (.ref 32), some (.int x1)], [.int s0], g, iv) = pm_then X d 140 130 [some (.ref 32), some (.int x1)] [] (pm_c X d 139 [.int s0] g iv) := by
  exact at_ins dc140_127 mc140 lm6_102 (Nat.le_of_ble_eq_true rfl) rfl rfl (Nat.le_of_ble_eq_true rfl)
theorem b140_130 {X : pm_X} {d : Nat} {x1 : Int32} {s0 : Int32} {g : pm_G} {iv : pm_V}  : pm_at X d 140 (130, [some (.ref 32), some (.int x1)], [.int s0], g, iv) = if s0 = 0 then pm_at X d 140 (146, [some (.ref 32), some (.int x1)], [], g, iv) else pm_at X d 140 (133, [some (.ref 32), some (.int x1)], [], g, iv) := by
  exact at_if_eq (t := 146) dc140_130 (by decide)
theorem b140_133 {X : pm_X} {d : Nat} {x1 : Int32} {g : pm_G} {iv : pm_V} (hL : pm_lay g) : pm_at X d 140 (133, [some (.ref 32), some (.int x1)], [], g, iv) = pm_at X d 140 (119, [some (.ref 32), some (.int x1)], [], g, (pm_iw iv 32 13 (((iv 32 13) + 1)))) := by
  refine (at_aload_n dc140_133 rfl).trans ?_
  refine (at_dup dc140_134 rfl).trans ?_
  refine (at_gfI dc140_135 mc140 lf6_87 fo6_13 (ly32 hL)).trans ?_
  refine (at_iconst (v := 1) dc140_138 rfl).trans ?_
  refine (at_iadd dc140_139).trans ?_
  refine (at_pfI dc140_140 mc140 lf6_87 po6_13 (ly32 hL)).trans ?_
  refine (at_goto (t := 119) dc140_143 (by decide)).trans ?_
  rfl
theorem b140_146 {X : pm_X} {d : Nat} {x1 : Int32} {g : pm_G} {iv : pm_V} (hL : pm_lay g) : pm_at X d 140 (146, [some (.ref 32), some (.int x1)], [], g, iv) = if ((iv 32 13) - (iv 32 15)) ≤ 3 then pm_at X d 140 (164, [some (.ref 32), some (.int x1)], [.ref 32], g, iv) else pm_at X d 140 (160, [some (.ref 32), some (.int x1)], [.ref 32], g, iv) := by
  refine (at_aload_n dc140_146 rfl).trans ?_
  refine (at_aload_n dc140_147 rfl).trans ?_
  refine (at_gfI dc140_148 mc140 lf6_87 fo6_13 (ly32 hL)).trans ?_
  refine (at_aload_n dc140_151 rfl).trans ?_
  refine (at_gfI dc140_152 mc140 lf6_93 fo6_15 (ly32 hL)).trans ?_
  refine (at_isub dc140_155).trans ?_
  refine (at_iconst (v := 3) dc140_156 rfl).trans ?_
  exact at_icmp_le (t := 164) dc140_157 (by decide)
theorem b140_160 {X : pm_X} {d : Nat} {x1 : Int32} {g : pm_G} {iv : pm_V}  : pm_at X d 140 (160, [some (.ref 32), some (.int x1)], [.ref 32], g, iv) = pm_at X d 140 (165, [some (.ref 32), some (.int x1)], [.int 0, .ref 32], g, iv) := by
  refine (at_iconst (v := 0) dc140_160 rfl).trans ?_
  refine (at_goto (t := 165) dc140_161 (by decide)).trans ?_
  rfl
theorem b140_164 {X : pm_X} {d : Nat} {x1 : Int32} {g : pm_G} {iv : pm_V}  : pm_at X d 140 (164, [some (.ref 32), some (.int x1)], [.ref 32], g, iv) = pm_at X d 140 (165, [some (.ref 32), some (.int x1)], [.int 3, .ref 32], g, iv) := by
  refine (at_iconst (v := 3) dc140_164 rfl).trans ?_
  rfl
theorem b140_165 {X : pm_X} {d : Nat} {x1 : Int32} {s0 : Int32} {g : pm_G} {iv : pm_V} (hL : pm_lay g) : pm_at X d 140 (165, [some (.ref 32), some (.int x1)], [.int s0, .ref 32], g, iv) = pm_at X d 140 (196, [some (.ref 32), some (.int x1)], [], g, (pm_iw iv 32 14 s0)) := by
  refine (at_pfI dc140_165 mc140 lf6_96 po6_14 (ly32 hL)).trans ?_
  refine (at_goto (t := 196) dc140_168 (by decide)).trans ?_
  rfl
theorem b140_171 {X : pm_X} {d : Nat} {x1 : Int32} {g : pm_G} {iv : pm_V} (hL : pm_lay g) : pm_at X d 140 (171, [some (.ref 32), some (.int x1)], [], g, iv) = if ¬ x1 = 59 then pm_at X d 140 (192, [some (.ref 32), some (.int x1)], [.ref 32], g, (pm_iw iv 32 13 (((iv 32 13) + 1)))) else pm_at X d 140 (188, [some (.ref 32), some (.int x1)], [.ref 32], g, (pm_iw iv 32 13 (((iv 32 13) + 1)))) := by
  refine (at_aload_n dc140_171 rfl).trans ?_
  refine (at_dup dc140_172 rfl).trans ?_
  refine (at_gfI dc140_173 mc140 lf6_87 fo6_13 (ly32 hL)).trans ?_
  refine (at_iconst (v := 1) dc140_176 rfl).trans ?_
  refine (at_iadd dc140_177).trans ?_
  refine (at_pfI dc140_178 mc140 lf6_87 po6_13 (ly32 hL)).trans ?_
  refine (at_aload_n dc140_181 rfl).trans ?_
  refine (at_iload_n dc140_182 rfl).trans ?_
  refine (at_bipush (v := 59) dc140_183 (by decide)).trans ?_
  exact at_icmp_ne (t := 192) dc140_185 (by decide)
theorem b140_188 {X : pm_X} {d : Nat} {x1 : Int32} {g : pm_G} {iv : pm_V}  : pm_at X d 140 (188, [some (.ref 32), some (.int x1)], [.ref 32], g, iv) = pm_at X d 140 (193, [some (.ref 32), some (.int x1)], [.int 4, .ref 32], g, iv) := by
  refine (at_iconst (v := 4) dc140_188 rfl).trans ?_
  refine (at_goto (t := 193) dc140_189 (by decide)).trans ?_
  rfl
theorem b140_192 {X : pm_X} {d : Nat} {x1 : Int32} {g : pm_G} {iv : pm_V}  : pm_at X d 140 (192, [some (.ref 32), some (.int x1)], [.ref 32], g, iv) = pm_at X d 140 (193, [some (.ref 32), some (.int x1)], [.int 0, .ref 32], g, iv) := by
  refine (at_iconst (v := 0) dc140_192 rfl).trans ?_
  rfl
theorem b140_193 {X : pm_X} {d : Nat} {x1 : Int32} {s0 : Int32} {g : pm_G} {iv : pm_V} (hL : pm_lay g) : pm_at X d 140 (193, [some (.ref 32), some (.int x1)], [.int s0, .ref 32], g, iv) = pm_at X d 140 (196, [some (.ref 32), some (.int x1)], [], g, (pm_iw iv 32 14 s0)) := by
  refine (at_pfI dc140_193 mc140 lf6_96 po6_14 (ly32 hL)).trans ?_
  rfl
theorem b140_196 {X : pm_X} {d : Nat} {x1 : Int32} {g : pm_G} {iv : pm_V} (hL : pm_lay g) : pm_at X d 140 (196, [some (.ref 32), some (.int x1)], [], g, iv) = some (none, g, (pm_iw iv 32 16 ((iv 32 13)))) := by
  refine (at_aload_n dc140_196 rfl).trans ?_
  refine (at_aload_n dc140_197 rfl).trans ?_
  refine (at_gfI dc140_198 mc140 lf6_87 fo6_13 (ly32 hL)).trans ?_
  refine (at_pfI dc140_201 mc140 lf6_105 po6_16 (ly32 hL)).trans ?_
  exact at_vret dc140_204 mr140
-- Mod.begin ()V
theorem dc141_0 : decode (pm_mb 141) 0 = .ok (.aload_n 0, 1) := by decide +kernel
theorem dc141_1 : decode (pm_mb 141) 1 = .ok (.aload_n 0, 1) := by decide +kernel
theorem dc141_2 : decode (pm_mb 141) 2 = .ok (.getfield 77, 3) := by decide +kernel
theorem dc141_5 : decode (pm_mb 141) 5 = .ok (.putfield 83, 3) := by decide +kernel
theorem dc141_8 : decode (pm_mb 141) 8 = .ok (.aload_n 0, 1) := by decide +kernel
theorem dc141_9 : decode (pm_mb 141) 9 = .ok (.iconst 0, 1) := by decide +kernel
theorem dc141_10 : decode (pm_mb 141) 10 = .ok (.putfield 77, 3) := by decide +kernel
theorem dc141_13 : decode (pm_mb 141) 13 = .ok (.aload_n 0, 1) := by decide +kernel
theorem dc141_14 : decode (pm_mb 141) 14 = .ok (.iconst 0, 1) := by decide +kernel
theorem dc141_15 : decode (pm_mb 141) 15 = .ok (.putfield 87, 3) := by decide +kernel
theorem dc141_18 : decode (pm_mb 141) 18 = .ok (.aload_n 0, 1) := by decide +kernel
theorem dc141_19 : decode (pm_mb 141) 19 = .ok (.iconst 0, 1) := by decide +kernel
theorem dc141_20 : decode (pm_mb 141) 20 = .ok (.putfield 108, 3) := by decide +kernel
theorem dc141_23 : decode (pm_mb 141) 23 = .ok (.aload_n 0, 1) := by decide +kernel
theorem dc141_24 : decode (pm_mb 141) 24 = .ok (.invokevirtual 111, 3) := by decide +kernel
theorem dc141_27 : decode (pm_mb 141) 27 = .ok (.return_, 1) := by decide +kernel
theorem b141_0 {X : pm_X} {d : Nat} {g : pm_G} {iv : pm_V} (hL : pm_lay g) : pm_at X d 141 (0, [some (.ref 32)], [], g, iv) = pm_then X d 141 27 [some (.ref 32)] [] (pm_c X d 140 [.ref 32] g (pm_iw (pm_iw (pm_iw (pm_iw iv 32 12 ((iv 32 10))) 32 10 0) 32 13 0) 32 17 0)) := by
  refine (at_aload_n dc141_0 rfl).trans ?_
  refine (at_aload_n dc141_1 rfl).trans ?_
  refine (at_gfI dc141_2 mc141 lf6_77 fo6_10 (ly32 hL)).trans ?_
  refine (at_pfI dc141_5 mc141 lf6_83 po6_12 (ly32 hL)).trans ?_
  refine (at_aload_n dc141_8 rfl).trans ?_
  refine (at_iconst (v := 0) dc141_9 rfl).trans ?_
  refine (at_pfI dc141_10 mc141 lf6_77 po6_10 (ly32 hL)).trans ?_
  refine (at_aload_n dc141_13 rfl).trans ?_
  refine (at_iconst (v := 0) dc141_14 rfl).trans ?_
  refine (at_pfI dc141_15 mc141 lf6_87 po6_13 (ly32 hL)).trans ?_
  refine (at_aload_n dc141_18 rfl).trans ?_
  refine (at_iconst (v := 0) dc141_19 rfl).trans ?_
  refine (at_pfI dc141_20 mc141 lf6_108 po6_17 (ly32 hL)).trans ?_
  refine (at_aload_n dc141_23 rfl).trans ?_
  exact at_inv dc141_24 mc141 lm6_111 rfl rfl (Nat.le_of_ble_eq_true rfl) (Or.inl ⟨(ly32 hL), by decide⟩)
theorem b141_27 {X : pm_X} {d : Nat} {g : pm_G} {iv : pm_V}  : pm_at X d 141 (27, [some (.ref 32)], [], g, iv) = some (none, g, iv) := by
  exact at_vret dc141_27 mr141
-- Mod.bad (I)V
theorem dc142_0 : decode (pm_mb 142) 0 = .ok (.aload_n 0, 1) := by decide +kernel
theorem dc142_1 : decode (pm_mb 142) 1 = .ok (.getfield 108, 3) := by decide +kernel
theorem dc142_4 : decode (pm_mb 142) 4 = .ok (.ifCond .ne 16, 3) := by decide +kernel
theorem dc142_7 : decode (pm_mb 142) 7 = .ok (.aload_n 0, 1) := by decide +kernel
theorem dc142_8 : decode (pm_mb 142) 8 = .ok (.iload_n 1, 1) := by decide +kernel
theorem dc142_9 : decode (pm_mb 142) 9 = .ok (.putfield 108, 3) := by decide +kernel
theorem dc142_12 : decode (pm_mb 142) 12 = .ok (.aload_n 0, 1) := by decide +kernel
theorem dc142_13 : decode (pm_mb 142) 13 = .ok (.aload_n 0, 1) := by decide +kernel
theorem dc142_14 : decode (pm_mb 142) 14 = .ok (.getfield 93, 3) := by decide +kernel
theorem dc142_17 : decode (pm_mb 142) 17 = .ok (.putfield 114, 3) := by decide +kernel
theorem dc142_20 : decode (pm_mb 142) 20 = .ok (.return_, 1) := by decide +kernel
theorem b142_0 {X : pm_X} {d : Nat} {x1 : Int32} {g : pm_G} {iv : pm_V} (hL : pm_lay g) : pm_at X d 142 (0, [some (.ref 32), some (.int x1)], [], g, iv) = if ¬ (iv 32 17) = 0 then pm_at X d 142 (20, [some (.ref 32), some (.int x1)], [], g, iv) else pm_at X d 142 (7, [some (.ref 32), some (.int x1)], [], g, iv) := by
  refine (at_aload_n dc142_0 rfl).trans ?_
  refine (at_gfI dc142_1 mc142 lf6_108 fo6_17 (ly32 hL)).trans ?_
  exact at_if_ne (t := 20) dc142_4 (by decide)
theorem b142_7 {X : pm_X} {d : Nat} {x1 : Int32} {g : pm_G} {iv : pm_V} (hL : pm_lay g) : pm_at X d 142 (7, [some (.ref 32), some (.int x1)], [], g, iv) = pm_at X d 142 (20, [some (.ref 32), some (.int x1)], [], g, (pm_iw (pm_iw iv 32 17 x1) 32 18 (((pm_iw iv 32 17 x1) 32 15)))) := by
  refine (at_aload_n dc142_7 rfl).trans ?_
  refine (at_iload_n dc142_8 rfl).trans ?_
  refine (at_pfI dc142_9 mc142 lf6_108 po6_17 (ly32 hL)).trans ?_
  refine (at_aload_n dc142_12 rfl).trans ?_
  refine (at_aload_n dc142_13 rfl).trans ?_
  refine (at_gfI dc142_14 mc142 lf6_93 fo6_15 (ly32 hL)).trans ?_
  refine (at_pfI dc142_17 mc142 lf6_114 po6_18 (ly32 hL)).trans ?_
  rfl
theorem b142_20 {X : pm_X} {d : Nat} {x1 : Int32} {g : pm_G} {iv : pm_V}  : pm_at X d 142 (20, [some (.ref 32), some (.int x1)], [], g, iv) = some (none, g, iv) := by
  exact at_vret dc142_20 mr142
-- Mod.must (Z)V
theorem dc143_0 : decode (pm_mb 143) 0 = .ok (.iload_n 1, 1) := by decide +kernel
theorem dc143_1 : decode (pm_mb 143) 1 = .ok (.ifCond .ne 8, 3) := by decide +kernel
theorem dc143_4 : decode (pm_mb 143) 4 = .ok (.aload_n 0, 1) := by decide +kernel
theorem dc143_5 : decode (pm_mb 143) 5 = .ok (.iconst 1, 1) := by decide +kernel
theorem dc143_6 : decode (pm_mb 143) 6 = .ok (.invokevirtual 117, 3) := by decide +kernel
theorem dc143_9 : decode (pm_mb 143) 9 = .ok (.aload_n 0, 1) := by decide +kernel
theorem dc143_10 : decode (pm_mb 143) 10 = .ok (.getfield 108, 3) := by decide +kernel
theorem dc143_13 : decode (pm_mb 143) 13 = .ok (.ifCond .ne 7, 3) := by decide +kernel
theorem dc143_16 : decode (pm_mb 143) 16 = .ok (.aload_n 0, 1) := by decide +kernel
theorem dc143_17 : decode (pm_mb 143) 17 = .ok (.invokevirtual 111, 3) := by decide +kernel
theorem dc143_20 : decode (pm_mb 143) 20 = .ok (.return_, 1) := by decide +kernel
theorem b143_0 {X : pm_X} {d : Nat} {x1 : Int32} {g : pm_G} {iv : pm_V}  : pm_at X d 143 (0, [some (.ref 32), some (.int x1)], [], g, iv) = if ¬ x1 = 0 then pm_at X d 143 (9, [some (.ref 32), some (.int x1)], [], g, iv) else pm_at X d 143 (4, [some (.ref 32), some (.int x1)], [], g, iv) := by
  refine (at_iload_n dc143_0 rfl).trans ?_
  exact at_if_ne (t := 9) dc143_1 (by decide)
theorem b143_4 {X : pm_X} {d : Nat} {x1 : Int32} {g : pm_G} {iv : pm_V} (hL : pm_lay g) : pm_at X d 143 (4, [some (.ref 32), some (.int x1)], [], g, iv) = pm_then X d 143 9 [some (.ref 32), some (.int x1)] [] (pm_c X d 142 [.ref 32, .int 1] g iv) := by
  refine (at_aload_n dc143_4 rfl).trans ?_
  refine (at_iconst (v := 1) dc143_5 rfl).trans ?_
  exact at_inv dc143_6 mc143 lm6_117 rfl rfl (Nat.le_of_ble_eq_true rfl) (Or.inl ⟨(ly32 hL), by decide⟩)
theorem b143_9 {X : pm_X} {d : Nat} {x1 : Int32} {g : pm_G} {iv : pm_V} (hL : pm_lay g) : pm_at X d 143 (9, [some (.ref 32), some (.int x1)], [], g, iv) = if ¬ (iv 32 17) = 0 then pm_at X d 143 (20, [some (.ref 32), some (.int x1)], [], g, iv) else pm_at X d 143 (16, [some (.ref 32), some (.int x1)], [], g, iv) := by
  refine (at_aload_n dc143_9 rfl).trans ?_
  refine (at_gfI dc143_10 mc143 lf6_108 fo6_17 (ly32 hL)).trans ?_
  exact at_if_ne (t := 20) dc143_13 (by decide)
theorem b143_16 {X : pm_X} {d : Nat} {x1 : Int32} {g : pm_G} {iv : pm_V} (hL : pm_lay g) : pm_at X d 143 (16, [some (.ref 32), some (.int x1)], [], g, iv) = pm_then X d 143 20 [some (.ref 32), some (.int x1)] [] (pm_c X d 140 [.ref 32] g iv) := by
  refine (at_aload_n dc143_16 rfl).trans ?_
  exact at_inv dc143_17 mc143 lm6_111 rfl rfl (Nat.le_of_ble_eq_true rfl) (Or.inl ⟨(ly32 hL), by decide⟩)
theorem b143_20 {X : pm_X} {d : Nat} {x1 : Int32} {g : pm_G} {iv : pm_V}  : pm_at X d 143 (20, [some (.ref 32), some (.int x1)], [], g, iv) = some (none, g, iv) := by
  exact at_vret dc143_20 mr143
-- Mod.name ()J
theorem dc144_0 : decode (pm_mb 144) 0 = .ok (.lconst 0, 1) := by decide +kernel
theorem dc144_1 : decode (pm_mb 144) 1 = .ok (.lstore_n 1, 1) := by decide +kernel
theorem dc144_2 : decode (pm_mb 144) 2 = .ok (.aload_n 0, 1) := by decide +kernel
theorem dc144_3 : decode (pm_mb 144) 3 = .ok (.getfield 93, 3) := by decide +kernel
theorem dc144_6 : decode (pm_mb 144) 6 = .ok (.istore_n 3, 1) := by decide +kernel
theorem dc144_7 : decode (pm_mb 144) 7 = .ok (.iload_n 3, 1) := by decide +kernel
theorem dc144_8 : decode (pm_mb 144) 8 = .ok (.aload_n 0, 1) := by decide +kernel
theorem dc144_9 : decode (pm_mb 144) 9 = .ok (.getfield 105, 3) := by decide +kernel
theorem dc144_12 : decode (pm_mb 144) 12 = .ok (.if_icmp .ge 44, 3) := by decide +kernel
theorem dc144_15 : decode (pm_mb 144) 15 = .ok (.aload_n 0, 1) := by decide +kernel
theorem dc144_16 : decode (pm_mb 144) 16 = .ok (.getfield 96, 3) := by decide +kernel
theorem dc144_19 : decode (pm_mb 144) 19 = .ok (.iconst 2, 1) := by decide +kernel
theorem dc144_20 : decode (pm_mb 144) 20 = .ok (.if_icmp .ne 36, 3) := by decide +kernel
theorem dc144_23 : decode (pm_mb 144) 23 = .ok (.aload_n 0, 1) := by decide +kernel
theorem dc144_24 : decode (pm_mb 144) 24 = .ok (.getfield 105, 3) := by decide +kernel
theorem dc144_27 : decode (pm_mb 144) 27 = .ok (.aload_n 0, 1) := by decide +kernel
theorem dc144_28 : decode (pm_mb 144) 28 = .ok (.getfield 93, 3) := by decide +kernel
theorem dc144_31 : decode (pm_mb 144) 31 = .ok (.isub, 1) := by decide +kernel
theorem dc144_32 : decode (pm_mb 144) 32 = .ok (.bipush 8, 2) := by decide +kernel
theorem dc144_34 : decode (pm_mb 144) 34 = .ok (.if_icmp .ge 22, 3) := by decide +kernel
theorem dc144_37 : decode (pm_mb 144) 37 = .ok (.lload_n 1, 1) := by decide +kernel
theorem dc144_38 : decode (pm_mb 144) 38 = .ok (.bipush 8, 2) := by decide +kernel
theorem dc144_40 : decode (pm_mb 144) 40 = .ok (.lshl, 1) := by decide +kernel
theorem dc144_41 : decode (pm_mb 144) 41 = .ok (.aload_n 0, 1) := by decide +kernel
theorem dc144_42 : decode (pm_mb 144) 42 = .ok (.getfield 28, 3) := by decide +kernel
theorem dc144_45 : decode (pm_mb 144) 45 = .ok (.iload_n 3, 1) := by decide +kernel
theorem dc144_46 : decode (pm_mb 144) 46 = .ok (.iaload, 1) := by decide +kernel
theorem dc144_47 : decode (pm_mb 144) 47 = .ok (.i2l, 1) := by decide +kernel
theorem dc144_48 : decode (pm_mb 144) 48 = .ok (.lor, 1) := by decide +kernel
theorem dc144_49 : decode (pm_mb 144) 49 = .ok (.lstore_n 1, 1) := by decide +kernel
theorem dc144_50 : decode (pm_mb 144) 50 = .ok (.iinc 3 1, 3) := by decide +kernel
theorem dc144_53 : decode (pm_mb 144) 53 = .ok (.goto (-46), 3) := by decide +kernel
theorem dc144_56 : decode (pm_mb 144) 56 = .ok (.aload_n 0, 1) := by decide +kernel
theorem dc144_57 : decode (pm_mb 144) 57 = .ok (.getfield 108, 3) := by decide +kernel
theorem dc144_60 : decode (pm_mb 144) 60 = .ok (.ifCond .ne 7, 3) := by decide +kernel
theorem dc144_63 : decode (pm_mb 144) 63 = .ok (.lload_n 1, 1) := by decide +kernel
theorem dc144_64 : decode (pm_mb 144) 64 = .ok (.goto 4, 3) := by decide +kernel
theorem dc144_67 : decode (pm_mb 144) 67 = .ok (.lconst 0, 1) := by decide +kernel
theorem dc144_68 : decode (pm_mb 144) 68 = .ok (.lreturn, 1) := by decide +kernel
theorem b144_0 {X : pm_X} {d : Nat} {g : pm_G} {iv : pm_V} (hL : pm_lay g) : pm_at X d 144 (0, [some (.ref 32), none, none, none], [], g, iv) = pm_at X d 144 (7, [some (.ref 32), some (.long 0), none, some (.int (iv 32 15))], [], g, iv) := by
  refine (at_lconst (v := 0) dc144_0 (by decide)).trans ?_
  refine (at_lstore_n dc144_1 rfl).trans ?_
  refine (at_aload_n dc144_2 rfl).trans ?_
  refine (at_gfI dc144_3 mc144 lf6_93 fo6_15 (ly32 hL)).trans ?_
  refine (at_istore_n dc144_6 rfl).trans ?_
  rfl
theorem b144_7 {X : pm_X} {d : Nat} {x1 : Int64} {x3 : Int32} {g : pm_G} {iv : pm_V} (hL : pm_lay g) : pm_at X d 144 (7, [some (.ref 32), some (.long x1), none, some (.int x3)], [], g, iv) = if (iv 32 16) ≤ x3 then pm_at X d 144 (56, [some (.ref 32), some (.long x1), none, some (.int x3)], [], g, iv) else pm_at X d 144 (15, [some (.ref 32), some (.long x1), none, some (.int x3)], [], g, iv) := by
  refine (at_iload_n dc144_7 rfl).trans ?_
  refine (at_aload_n dc144_8 rfl).trans ?_
  refine (at_gfI dc144_9 mc144 lf6_105 fo6_16 (ly32 hL)).trans ?_
  exact at_icmp_ge (t := 56) dc144_12 (by decide)
theorem b144_15 {X : pm_X} {d : Nat} {x1 : Int64} {x3 : Int32} {g : pm_G} {iv : pm_V} (hL : pm_lay g) : pm_at X d 144 (15, [some (.ref 32), some (.long x1), none, some (.int x3)], [], g, iv) = if ¬ (iv 32 14) = 2 then pm_at X d 144 (56, [some (.ref 32), some (.long x1), none, some (.int x3)], [], g, iv) else pm_at X d 144 (23, [some (.ref 32), some (.long x1), none, some (.int x3)], [], g, iv) := by
  refine (at_aload_n dc144_15 rfl).trans ?_
  refine (at_gfI dc144_16 mc144 lf6_96 fo6_14 (ly32 hL)).trans ?_
  refine (at_iconst (v := 2) dc144_19 rfl).trans ?_
  exact at_icmp_ne (t := 56) dc144_20 (by decide)
theorem b144_23 {X : pm_X} {d : Nat} {x1 : Int64} {x3 : Int32} {g : pm_G} {iv : pm_V} (hL : pm_lay g) : pm_at X d 144 (23, [some (.ref 32), some (.long x1), none, some (.int x3)], [], g, iv) = if 8 ≤ ((iv 32 16) - (iv 32 15)) then pm_at X d 144 (56, [some (.ref 32), some (.long x1), none, some (.int x3)], [], g, iv) else pm_at X d 144 (37, [some (.ref 32), some (.long x1), none, some (.int x3)], [], g, iv) := by
  refine (at_aload_n dc144_23 rfl).trans ?_
  refine (at_gfI dc144_24 mc144 lf6_105 fo6_16 (ly32 hL)).trans ?_
  refine (at_aload_n dc144_27 rfl).trans ?_
  refine (at_gfI dc144_28 mc144 lf6_93 fo6_15 (ly32 hL)).trans ?_
  refine (at_isub dc144_31).trans ?_
  refine (at_bipush (v := 8) dc144_32 (by decide)).trans ?_
  exact at_icmp_ge (t := 56) dc144_34 (by decide)
theorem b144_37 {X : pm_X} {d : Nat} {x1 : Int64} {x3 : Int32} {g : pm_G} {iv : pm_V} (hL : pm_lay g) (i1 : vp_in x3 400) : pm_at X d 144 (37, [some (.ref 32), some (.long x1), none, some (.int x3)], [], g, iv) = pm_at X d 144 (7, [some (.ref 32), some (.long ((x1 <<< ((8 : Int32).toInt64 &&& 63)) ||| ((iv 39 (x3 : Int32).toNatClampNeg) : Int32).toInt64)), none, some (.int (x3 + 1))], [], g, iv) := by
  refine (at_lload_n dc144_37 rfl).trans ?_
  refine (at_bipush (v := 8) dc144_38 (by decide)).trans ?_
  refine (at_lshl dc144_40).trans ?_
  refine (at_aload_n dc144_41 rfl).trans ?_
  refine (at_gfR dc144_42 mc144 lf6_28 fo6_9 (ly32 hL) (lr32_9 hL)).trans ?_
  refine (at_iload_n dc144_45 rfl).trans ?_
  refine (at_iald dc144_46 (ly39 hL) i1).trans ?_
  refine (at_i2l dc144_47).trans ?_
  refine (at_lor dc144_48).trans ?_
  refine (at_lstore_n dc144_49 rfl).trans ?_
  refine (at_iinc (v := 1) dc144_50 rfl (by decide) rfl).trans ?_
  refine (at_goto (t := 7) dc144_53 (by decide)).trans ?_
  rfl
theorem b144_56 {X : pm_X} {d : Nat} {x1 : Int64} {x3 : Int32} {g : pm_G} {iv : pm_V} (hL : pm_lay g) : pm_at X d 144 (56, [some (.ref 32), some (.long x1), none, some (.int x3)], [], g, iv) = if ¬ (iv 32 17) = 0 then pm_at X d 144 (67, [some (.ref 32), some (.long x1), none, some (.int x3)], [], g, iv) else pm_at X d 144 (63, [some (.ref 32), some (.long x1), none, some (.int x3)], [], g, iv) := by
  refine (at_aload_n dc144_56 rfl).trans ?_
  refine (at_gfI dc144_57 mc144 lf6_108 fo6_17 (ly32 hL)).trans ?_
  exact at_if_ne (t := 67) dc144_60 (by decide)
theorem b144_63 {X : pm_X} {d : Nat} {x1 : Int64} {x3 : Int32} {g : pm_G} {iv : pm_V}  : pm_at X d 144 (63, [some (.ref 32), some (.long x1), none, some (.int x3)], [], g, iv) = pm_at X d 144 (68, [some (.ref 32), some (.long x1), none, some (.int x3)], [.long x1], g, iv) := by
  refine (at_lload_n dc144_63 rfl).trans ?_
  refine (at_goto (t := 68) dc144_64 (by decide)).trans ?_
  rfl
theorem b144_67 {X : pm_X} {d : Nat} {x1 : Int64} {x3 : Int32} {g : pm_G} {iv : pm_V}  : pm_at X d 144 (67, [some (.ref 32), some (.long x1), none, some (.int x3)], [], g, iv) = pm_at X d 144 (68, [some (.ref 32), some (.long x1), none, some (.int x3)], [.long 0], g, iv) := by
  refine (at_lconst (v := 0) dc144_67 (by decide)).trans ?_
  rfl
theorem b144_68 {X : pm_X} {d : Nat} {x1 : Int64} {x3 : Int32} {s0 : Int64} {g : pm_G} {iv : pm_V}  : pm_at X d 144 (68, [some (.ref 32), some (.long x1), none, some (.int x3)], [.long s0], g, iv) = some (some (.long s0), g, iv) := by
  exact at_lret dc144_68 mr144
-- Mod.figures ()I
theorem dc145_0 : decode (pm_mb 145) 0 = .ok (.iconst 0, 1) := by decide +kernel
theorem dc145_1 : decode (pm_mb 145) 1 = .ok (.istore_n 1, 1) := by decide +kernel
theorem dc145_2 : decode (pm_mb 145) 2 = .ok (.aload_n 0, 1) := by decide +kernel
theorem dc145_3 : decode (pm_mb 145) 3 = .ok (.getfield 93, 3) := by decide +kernel
theorem dc145_6 : decode (pm_mb 145) 6 = .ok (.istore_n 2, 1) := by decide +kernel
theorem dc145_7 : decode (pm_mb 145) 7 = .ok (.iload_n 2, 1) := by decide +kernel
theorem dc145_8 : decode (pm_mb 145) 8 = .ok (.aload_n 0, 1) := by decide +kernel
theorem dc145_9 : decode (pm_mb 145) 9 = .ok (.getfield 105, 3) := by decide +kernel
theorem dc145_12 : decode (pm_mb 145) 12 = .ok (.if_icmp .ge 32, 3) := by decide +kernel
theorem dc145_15 : decode (pm_mb 145) 15 = .ok (.aload_n 0, 1) := by decide +kernel
theorem dc145_16 : decode (pm_mb 145) 16 = .ok (.getfield 96, 3) := by decide +kernel
theorem dc145_19 : decode (pm_mb 145) 19 = .ok (.iconst 3, 1) := by decide +kernel
theorem dc145_20 : decode (pm_mb 145) 20 = .ok (.if_icmp .ne 24, 3) := by decide +kernel
theorem dc145_23 : decode (pm_mb 145) 23 = .ok (.bipush 10, 2) := by decide +kernel
theorem dc145_25 : decode (pm_mb 145) 25 = .ok (.iload_n 1, 1) := by decide +kernel
theorem dc145_26 : decode (pm_mb 145) 26 = .ok (.imul, 1) := by decide +kernel
theorem dc145_27 : decode (pm_mb 145) 27 = .ok (.aload_n 0, 1) := by decide +kernel
theorem dc145_28 : decode (pm_mb 145) 28 = .ok (.getfield 28, 3) := by decide +kernel
theorem dc145_31 : decode (pm_mb 145) 31 = .ok (.iload_n 2, 1) := by decide +kernel
theorem dc145_32 : decode (pm_mb 145) 32 = .ok (.iaload, 1) := by decide +kernel
theorem dc145_33 : decode (pm_mb 145) 33 = .ok (.iadd, 1) := by decide +kernel
theorem dc145_34 : decode (pm_mb 145) 34 = .ok (.bipush 48, 2) := by decide +kernel
theorem dc145_36 : decode (pm_mb 145) 36 = .ok (.isub, 1) := by decide +kernel
theorem dc145_37 : decode (pm_mb 145) 37 = .ok (.istore_n 1, 1) := by decide +kernel
theorem dc145_38 : decode (pm_mb 145) 38 = .ok (.iinc 2 1, 3) := by decide +kernel
theorem dc145_41 : decode (pm_mb 145) 41 = .ok (.goto (-34), 3) := by decide +kernel
theorem dc145_44 : decode (pm_mb 145) 44 = .ok (.iload_n 1, 1) := by decide +kernel
theorem dc145_45 : decode (pm_mb 145) 45 = .ok (.ireturn, 1) := by decide +kernel
theorem b145_0 {X : pm_X} {d : Nat} {g : pm_G} {iv : pm_V} (hL : pm_lay g) : pm_at X d 145 (0, [some (.ref 32), none, none], [], g, iv) = pm_at X d 145 (7, [some (.ref 32), some (.int 0), some (.int (iv 32 15))], [], g, iv) := by
  refine (at_iconst (v := 0) dc145_0 rfl).trans ?_
  refine (at_istore_n dc145_1 rfl).trans ?_
  refine (at_aload_n dc145_2 rfl).trans ?_
  refine (at_gfI dc145_3 mc145 lf6_93 fo6_15 (ly32 hL)).trans ?_
  refine (at_istore_n dc145_6 rfl).trans ?_
  rfl
theorem b145_7 {X : pm_X} {d : Nat} {x1 : Int32} {x2 : Int32} {g : pm_G} {iv : pm_V} (hL : pm_lay g) : pm_at X d 145 (7, [some (.ref 32), some (.int x1), some (.int x2)], [], g, iv) = if (iv 32 16) ≤ x2 then pm_at X d 145 (44, [some (.ref 32), some (.int x1), some (.int x2)], [], g, iv) else pm_at X d 145 (15, [some (.ref 32), some (.int x1), some (.int x2)], [], g, iv) := by
  refine (at_iload_n dc145_7 rfl).trans ?_
  refine (at_aload_n dc145_8 rfl).trans ?_
  refine (at_gfI dc145_9 mc145 lf6_105 fo6_16 (ly32 hL)).trans ?_
  exact at_icmp_ge (t := 44) dc145_12 (by decide)
theorem b145_15 {X : pm_X} {d : Nat} {x1 : Int32} {x2 : Int32} {g : pm_G} {iv : pm_V} (hL : pm_lay g) : pm_at X d 145 (15, [some (.ref 32), some (.int x1), some (.int x2)], [], g, iv) = if ¬ (iv 32 14) = 3 then pm_at X d 145 (44, [some (.ref 32), some (.int x1), some (.int x2)], [], g, iv) else pm_at X d 145 (23, [some (.ref 32), some (.int x1), some (.int x2)], [], g, iv) := by
  refine (at_aload_n dc145_15 rfl).trans ?_
  refine (at_gfI dc145_16 mc145 lf6_96 fo6_14 (ly32 hL)).trans ?_
  refine (at_iconst (v := 3) dc145_19 rfl).trans ?_
  exact at_icmp_ne (t := 44) dc145_20 (by decide)
theorem b145_23 {X : pm_X} {d : Nat} {x1 : Int32} {x2 : Int32} {g : pm_G} {iv : pm_V} (hL : pm_lay g) (i1 : vp_in x2 400) : pm_at X d 145 (23, [some (.ref 32), some (.int x1), some (.int x2)], [], g, iv) = pm_at X d 145 (7, [some (.ref 32), some (.int (((10 * x1) + (iv 39 (x2 : Int32).toNatClampNeg)) - 48)), some (.int (x2 + 1))], [], g, iv) := by
  refine (at_bipush (v := 10) dc145_23 (by decide)).trans ?_
  refine (at_iload_n dc145_25 rfl).trans ?_
  refine (at_imul dc145_26).trans ?_
  refine (at_aload_n dc145_27 rfl).trans ?_
  refine (at_gfR dc145_28 mc145 lf6_28 fo6_9 (ly32 hL) (lr32_9 hL)).trans ?_
  refine (at_iload_n dc145_31 rfl).trans ?_
  refine (at_iald dc145_32 (ly39 hL) i1).trans ?_
  refine (at_iadd dc145_33).trans ?_
  refine (at_bipush (v := 48) dc145_34 (by decide)).trans ?_
  refine (at_isub dc145_36).trans ?_
  refine (at_istore_n dc145_37 rfl).trans ?_
  refine (at_iinc (v := 1) dc145_38 rfl (by decide) rfl).trans ?_
  refine (at_goto (t := 7) dc145_41 (by decide)).trans ?_
  rfl
theorem b145_44 {X : pm_X} {d : Nat} {x1 : Int32} {x2 : Int32} {g : pm_G} {iv : pm_V}  : pm_at X d 145 (44, [some (.ref 32), some (.int x1), some (.int x2)], [], g, iv) = some (some (.int x1), g, iv) := by
  refine (at_iload_n dc145_44 rfl).trans ?_
  exact at_iret dc145_45 mr145
-- Mod.number (II)I
theorem dc146_0 : decode (pm_mb 146) 0 = .ok (.aload_n 0, 1) := by decide +kernel
theorem dc146_1 : decode (pm_mb 146) 1 = .ok (.getfield 108, 3) := by decide +kernel
theorem dc146_4 : decode (pm_mb 146) 4 = .ok (.ifCond .le 5, 3) := by decide +kernel
theorem dc146_7 : decode (pm_mb 146) 7 = .ok (.iconst 0, 1) := by decide +kernel
theorem dc146_8 : decode (pm_mb 146) 8 = .ok (.ireturn, 1) := by decide +kernel
theorem dc146_9 : decode (pm_mb 146) 9 = .ok (.aload_n 0, 1) := by decide +kernel
theorem dc146_10 : decode (pm_mb 146) 10 = .ok (.invokevirtual 121, 3) := by decide +kernel
theorem dc146_13 : decode (pm_mb 146) 13 = .ok (.istore_n 3, 1) := by decide +kernel
theorem dc146_14 : decode (pm_mb 146) 14 = .ok (.aload_n 0, 1) := by decide +kernel
theorem dc146_15 : decode (pm_mb 146) 15 = .ok (.getfield 96, 3) := by decide +kernel
theorem dc146_18 : decode (pm_mb 146) 18 = .ok (.iconst 3, 1) := by decide +kernel
theorem dc146_19 : decode (pm_mb 146) 19 = .ok (.if_icmp .ne 20, 3) := by decide +kernel
theorem dc146_22 : decode (pm_mb 146) 22 = .ok (.iload_n 3, 1) := by decide +kernel
theorem dc146_23 : decode (pm_mb 146) 23 = .ok (.i2l, 1) := by decide +kernel
theorem dc146_24 : decode (pm_mb 146) 24 = .ok (.iload_n 1, 1) := by decide +kernel
theorem dc146_25 : decode (pm_mb 146) 25 = .ok (.i2l, 1) := by decide +kernel
theorem dc146_26 : decode (pm_mb 146) 26 = .ok (.iload_n 2, 1) := by decide +kernel
theorem dc146_27 : decode (pm_mb 146) 27 = .ok (.i2l, 1) := by decide +kernel
theorem dc146_28 : decode (pm_mb 146) 28 = .ok (.invokestatic 60, 3) := by decide +kernel
theorem dc146_31 : decode (pm_mb 146) 31 = .ok (.ifCond .ne 8, 3) := by decide +kernel
theorem dc146_34 : decode (pm_mb 146) 34 = .ok (.aload_n 0, 1) := by decide +kernel
theorem dc146_35 : decode (pm_mb 146) 35 = .ok (.iconst 2, 1) := by decide +kernel
theorem dc146_36 : decode (pm_mb 146) 36 = .ok (.invokevirtual 117, 3) := by decide +kernel
theorem dc146_39 : decode (pm_mb 146) 39 = .ok (.aload_n 0, 1) := by decide +kernel
theorem dc146_40 : decode (pm_mb 146) 40 = .ok (.aload_n 0, 1) := by decide +kernel
theorem dc146_41 : decode (pm_mb 146) 41 = .ok (.getfield 96, 3) := by decide +kernel
theorem dc146_44 : decode (pm_mb 146) 44 = .ok (.iconst 3, 1) := by decide +kernel
theorem dc146_45 : decode (pm_mb 146) 45 = .ok (.if_icmp .ne 7, 3) := by decide +kernel
theorem dc146_48 : decode (pm_mb 146) 48 = .ok (.iconst 1, 1) := by decide +kernel
theorem dc146_49 : decode (pm_mb 146) 49 = .ok (.goto 4, 3) := by decide +kernel
theorem dc146_52 : decode (pm_mb 146) 52 = .ok (.iconst 0, 1) := by decide +kernel
theorem dc146_53 : decode (pm_mb 146) 53 = .ok (.invokevirtual 125, 3) := by decide +kernel
theorem dc146_56 : decode (pm_mb 146) 56 = .ok (.iload_n 3, 1) := by decide +kernel
theorem dc146_57 : decode (pm_mb 146) 57 = .ok (.ireturn, 1) := by decide +kernel
theorem b146_0 {X : pm_X} {d : Nat} {x1 : Int32} {x2 : Int32} {g : pm_G} {iv : pm_V} (hL : pm_lay g) : pm_at X d 146 (0, [some (.ref 32), some (.int x1), some (.int x2), none], [], g, iv) = if (iv 32 17) ≤ 0 then pm_at X d 146 (9, [some (.ref 32), some (.int x1), some (.int x2), none], [], g, iv) else pm_at X d 146 (7, [some (.ref 32), some (.int x1), some (.int x2), none], [], g, iv) := by
  refine (at_aload_n dc146_0 rfl).trans ?_
  refine (at_gfI dc146_1 mc146 lf6_108 fo6_17 (ly32 hL)).trans ?_
  exact at_if_le (t := 9) dc146_4 (by decide)
theorem b146_7 {X : pm_X} {d : Nat} {x1 : Int32} {x2 : Int32} {g : pm_G} {iv : pm_V}  : pm_at X d 146 (7, [some (.ref 32), some (.int x1), some (.int x2), none], [], g, iv) = some (some (.int 0), g, iv) := by
  refine (at_iconst (v := 0) dc146_7 rfl).trans ?_
  exact at_iret dc146_8 mr146
theorem b146_9 {X : pm_X} {d : Nat} {x1 : Int32} {x2 : Int32} {g : pm_G} {iv : pm_V} (hL : pm_lay g) : pm_at X d 146 (9, [some (.ref 32), some (.int x1), some (.int x2), none], [], g, iv) = pm_then X d 146 13 [some (.ref 32), some (.int x1), some (.int x2), none] [] (pm_c X d 145 [.ref 32] g iv) := by
  refine (at_aload_n dc146_9 rfl).trans ?_
  exact at_inv dc146_10 mc146 lm6_121 rfl rfl (Nat.le_of_ble_eq_true rfl) (Or.inl ⟨(ly32 hL), by decide⟩)
theorem b146_13 {X : pm_X} {d : Nat} {x1 : Int32} {x2 : Int32} {s0 : Int32} {g : pm_G} {iv : pm_V} (hL : pm_lay g) : pm_at X d 146 (13, [some (.ref 32), some (.int x1), some (.int x2), none], [.int s0], g, iv) = if ¬ (iv 32 14) = 3 then pm_at X d 146 (39, [some (.ref 32), some (.int x1), some (.int x2), some (.int s0)], [], g, iv) else pm_at X d 146 (22, [some (.ref 32), some (.int x1), some (.int x2), some (.int s0)], [], g, iv) := by
  refine (at_istore_n dc146_13 rfl).trans ?_
  refine (at_aload_n dc146_14 rfl).trans ?_
  refine (at_gfI dc146_15 mc146 lf6_96 fo6_14 (ly32 hL)).trans ?_
  refine (at_iconst (v := 3) dc146_18 rfl).trans ?_
  exact at_icmp_ne (t := 39) dc146_19 (by decide)
theorem b146_22 {X : pm_X} {d : Nat} {x1 : Int32} {x2 : Int32} {x3 : Int32} {g : pm_G} {iv : pm_V}  : pm_at X d 146 (22, [some (.ref 32), some (.int x1), some (.int x2), some (.int x3)], [], g, iv) = pm_then X d 146 31 [some (.ref 32), some (.int x1), some (.int x2), some (.int x3)] [] (pm_c X d 129 [.long (x3 : Int32).toInt64, .long (x1 : Int32).toInt64, .long (x2 : Int32).toInt64] g iv) := by
  refine (at_iload_n dc146_22 rfl).trans ?_
  refine (at_i2l dc146_23).trans ?_
  refine (at_iload_n dc146_24 rfl).trans ?_
  refine (at_i2l dc146_25).trans ?_
  refine (at_iload_n dc146_26 rfl).trans ?_
  refine (at_i2l dc146_27).trans ?_
  exact at_ins dc146_28 mc146 lm6_60 (Nat.le_of_ble_eq_true rfl) rfl rfl (Nat.le_of_ble_eq_true rfl)
theorem b146_31 {X : pm_X} {d : Nat} {x1 : Int32} {x2 : Int32} {x3 : Int32} {s0 : Int32} {g : pm_G} {iv : pm_V}  : pm_at X d 146 (31, [some (.ref 32), some (.int x1), some (.int x2), some (.int x3)], [.int s0], g, iv) = if ¬ s0 = 0 then pm_at X d 146 (39, [some (.ref 32), some (.int x1), some (.int x2), some (.int x3)], [], g, iv) else pm_at X d 146 (34, [some (.ref 32), some (.int x1), some (.int x2), some (.int x3)], [], g, iv) := by
  exact at_if_ne (t := 39) dc146_31 (by decide)
theorem b146_34 {X : pm_X} {d : Nat} {x1 : Int32} {x2 : Int32} {x3 : Int32} {g : pm_G} {iv : pm_V} (hL : pm_lay g) : pm_at X d 146 (34, [some (.ref 32), some (.int x1), some (.int x2), some (.int x3)], [], g, iv) = pm_then X d 146 39 [some (.ref 32), some (.int x1), some (.int x2), some (.int x3)] [] (pm_c X d 142 [.ref 32, .int 2] g iv) := by
  refine (at_aload_n dc146_34 rfl).trans ?_
  refine (at_iconst (v := 2) dc146_35 rfl).trans ?_
  exact at_inv dc146_36 mc146 lm6_117 rfl rfl (Nat.le_of_ble_eq_true rfl) (Or.inl ⟨(ly32 hL), by decide⟩)
theorem b146_39 {X : pm_X} {d : Nat} {x1 : Int32} {x2 : Int32} {x3 : Int32} {g : pm_G} {iv : pm_V} (hL : pm_lay g) : pm_at X d 146 (39, [some (.ref 32), some (.int x1), some (.int x2), some (.int x3)], [], g, iv) = if ¬ (iv 32 14) = 3 then pm_at X d 146 (52, [some (.ref 32), some (.int x1), some (.int x2), some (.int x3)], [.ref 32], g, iv) else pm_at X d 146 (48, [some (.ref 32), some (.int x1), some (.int x2), some (.int x3)], [.ref 32], g, iv) := by
  refine (at_aload_n dc146_39 rfl).trans ?_
  refine (at_aload_n dc146_40 rfl).trans ?_
  refine (at_gfI dc146_41 mc146 lf6_96 fo6_14 (ly32 hL)).trans ?_
  refine (at_iconst (v := 3) dc146_44 rfl).trans ?_
  exact at_icmp_ne (t := 52) dc146_45 (by decide)
theorem b146_48 {X : pm_X} {d : Nat} {x1 : Int32} {x2 : Int32} {x3 : Int32} {g : pm_G} {iv : pm_V}  : pm_at X d 146 (48, [some (.ref 32), some (.int x1), some (.int x2), some (.int x3)], [.ref 32], g, iv) = pm_at X d 146 (53, [some (.ref 32), some (.int x1), some (.int x2), some (.int x3)], [.int 1, .ref 32], g, iv) := by
  refine (at_iconst (v := 1) dc146_48 rfl).trans ?_
  refine (at_goto (t := 53) dc146_49 (by decide)).trans ?_
  rfl
theorem b146_52 {X : pm_X} {d : Nat} {x1 : Int32} {x2 : Int32} {x3 : Int32} {g : pm_G} {iv : pm_V}  : pm_at X d 146 (52, [some (.ref 32), some (.int x1), some (.int x2), some (.int x3)], [.ref 32], g, iv) = pm_at X d 146 (53, [some (.ref 32), some (.int x1), some (.int x2), some (.int x3)], [.int 0, .ref 32], g, iv) := by
  refine (at_iconst (v := 0) dc146_52 rfl).trans ?_
  rfl
theorem b146_53 {X : pm_X} {d : Nat} {x1 : Int32} {x2 : Int32} {x3 : Int32} {s0 : Int32} {g : pm_G} {iv : pm_V} (hL : pm_lay g) : pm_at X d 146 (53, [some (.ref 32), some (.int x1), some (.int x2), some (.int x3)], [.int s0, .ref 32], g, iv) = pm_then X d 146 56 [some (.ref 32), some (.int x1), some (.int x2), some (.int x3)] [] (pm_c X d 143 [.ref 32, .int s0] g iv) := by
  exact at_inv dc146_53 mc146 lm6_125 rfl rfl (Nat.le_of_ble_eq_true rfl) (Or.inl ⟨(ly32 hL), by decide⟩)
theorem b146_56 {X : pm_X} {d : Nat} {x1 : Int32} {x2 : Int32} {x3 : Int32} {g : pm_G} {iv : pm_V}  : pm_at X d 146 (56, [some (.ref 32), some (.int x1), some (.int x2), some (.int x3)], [], g, iv) = some (some (.int x3), g, iv) := by
  refine (at_iload_n dc146_56 rfl).trans ?_
  exact at_iret dc146_57 mr146
-- Mod.kindBy (J)I
theorem dc147_0 : decode (pm_mb 147) 0 = .ok (.lload_n 0, 1) := by decide +kernel
theorem dc147_1 : decode (pm_mb 147) 1 = .ok (.ldc2_w 129, 3) := by decide +kernel
theorem dc147_4 : decode (pm_mb 147) 4 = .ok (.lcmp, 1) := by decide +kernel
theorem dc147_5 : decode (pm_mb 147) 5 = .ok (.ifCond .ne 7, 3) := by decide +kernel
theorem dc147_8 : decode (pm_mb 147) 8 = .ok (.iconst 1, 1) := by decide +kernel
theorem dc147_9 : decode (pm_mb 147) 9 = .ok (.goto 53, 3) := by decide +kernel
theorem dc147_12 : decode (pm_mb 147) 12 = .ok (.lload_n 0, 1) := by decide +kernel
theorem dc147_13 : decode (pm_mb 147) 13 = .ok (.ldc2_w 131, 3) := by decide +kernel
theorem dc147_16 : decode (pm_mb 147) 16 = .ok (.lcmp, 1) := by decide +kernel
theorem dc147_17 : decode (pm_mb 147) 17 = .ok (.ifCond .ne 7, 3) := by decide +kernel
theorem dc147_20 : decode (pm_mb 147) 20 = .ok (.iconst 3, 1) := by decide +kernel
theorem dc147_21 : decode (pm_mb 147) 21 = .ok (.goto 41, 3) := by decide +kernel
theorem dc147_24 : decode (pm_mb 147) 24 = .ok (.lload_n 0, 1) := by decide +kernel
theorem dc147_25 : decode (pm_mb 147) 25 = .ok (.ldc2_w 133, 3) := by decide +kernel
theorem dc147_28 : decode (pm_mb 147) 28 = .ok (.lcmp, 1) := by decide +kernel
theorem dc147_29 : decode (pm_mb 147) 29 = .ok (.ifCond .ne 7, 3) := by decide +kernel
theorem dc147_32 : decode (pm_mb 147) 32 = .ok (.iconst 4, 1) := by decide +kernel
theorem dc147_33 : decode (pm_mb 147) 33 = .ok (.goto 29, 3) := by decide +kernel
theorem dc147_36 : decode (pm_mb 147) 36 = .ok (.lload_n 0, 1) := by decide +kernel
theorem dc147_37 : decode (pm_mb 147) 37 = .ok (.ldc2_w 135, 3) := by decide +kernel
theorem dc147_40 : decode (pm_mb 147) 40 = .ok (.lcmp, 1) := by decide +kernel
theorem dc147_41 : decode (pm_mb 147) 41 = .ok (.ifCond .ne 7, 3) := by decide +kernel
theorem dc147_44 : decode (pm_mb 147) 44 = .ok (.iconst 5, 1) := by decide +kernel
theorem dc147_45 : decode (pm_mb 147) 45 = .ok (.goto 17, 3) := by decide +kernel
theorem dc147_48 : decode (pm_mb 147) 48 = .ok (.lload_n 0, 1) := by decide +kernel
theorem dc147_49 : decode (pm_mb 147) 49 = .ok (.ldc2_w 137, 3) := by decide +kernel
theorem dc147_52 : decode (pm_mb 147) 52 = .ok (.lcmp, 1) := by decide +kernel
theorem dc147_53 : decode (pm_mb 147) 53 = .ok (.ifCond .ne 7, 3) := by decide +kernel
theorem dc147_56 : decode (pm_mb 147) 56 = .ok (.iconst 2, 1) := by decide +kernel
theorem dc147_57 : decode (pm_mb 147) 57 = .ok (.goto 5, 3) := by decide +kernel
theorem dc147_60 : decode (pm_mb 147) 60 = .ok (.ldc 86, 2) := by decide +kernel
theorem dc147_62 : decode (pm_mb 147) 62 = .ok (.ireturn, 1) := by decide +kernel
theorem b147_0 {X : pm_X} {d : Nat} {x0 : Int64} {g : pm_G} {iv : pm_V}  : pm_at X d 147 (0, [some (.long x0), none], [], g, iv) = if ¬ (lg_cmp x0 109300298179432) = 0 then pm_at X d 147 (12, [some (.long x0), none], [], g, iv) else pm_at X d 147 (8, [some (.long x0), none], [], g, iv) := by
  refine (at_lload_n dc147_0 rfl).trans ?_
  refine (at_ldc2 dc147_1 mc147 ll6_129).trans ?_
  refine (at_lcmp dc147_4).trans ?_
  exact at_if_ne (t := 12) dc147_5 (by decide)
theorem b147_8 {X : pm_X} {d : Nat} {x0 : Int64} {g : pm_G} {iv : pm_V}  : pm_at X d 147 (8, [some (.long x0), none], [], g, iv) = pm_at X d 147 (62, [some (.long x0), none], [.int 1], g, iv) := by
  refine (at_iconst (v := 1) dc147_8 rfl).trans ?_
  refine (at_goto (t := 62) dc147_9 (by decide)).trans ?_
  rfl
theorem b147_12 {X : pm_X} {d : Nat} {x0 : Int64} {g : pm_G} {iv : pm_V}  : pm_at X d 147 (12, [some (.long x0), none], [], g, iv) = if ¬ (lg_cmp x0 6909550) = 0 then pm_at X d 147 (24, [some (.long x0), none], [], g, iv) else pm_at X d 147 (20, [some (.long x0), none], [], g, iv) := by
  refine (at_lload_n dc147_12 rfl).trans ?_
  refine (at_ldc2 dc147_13 mc147 ll6_131).trans ?_
  refine (at_lcmp dc147_16).trans ?_
  exact at_if_ne (t := 24) dc147_17 (by decide)
theorem b147_20 {X : pm_X} {d : Nat} {x0 : Int64} {g : pm_G} {iv : pm_V}  : pm_at X d 147 (20, [some (.long x0), none], [], g, iv) = pm_at X d 147 (62, [some (.long x0), none], [.int 3], g, iv) := by
  refine (at_iconst (v := 3) dc147_20 rfl).trans ?_
  refine (at_goto (t := 62) dc147_21 (by decide)).trans ?_
  rfl
theorem b147_24 {X : pm_X} {d : Nat} {x0 : Int64} {g : pm_G} {iv : pm_V}  : pm_at X d 147 (24, [some (.long x0), none], [], g, iv) = if ¬ (lg_cmp x0 1835625580) = 0 then pm_at X d 147 (36, [some (.long x0), none], [], g, iv) else pm_at X d 147 (32, [some (.long x0), none], [], g, iv) := by
  refine (at_lload_n dc147_24 rfl).trans ?_
  refine (at_ldc2 dc147_25 mc147 ll6_133).trans ?_
  refine (at_lcmp dc147_28).trans ?_
  exact at_if_ne (t := 36) dc147_29 (by decide)
theorem b147_32 {X : pm_X} {d : Nat} {x0 : Int64} {g : pm_G} {iv : pm_V}  : pm_at X d 147 (32, [some (.long x0), none], [], g, iv) = pm_at X d 147 (62, [some (.long x0), none], [.int 4], g, iv) := by
  refine (at_iconst (v := 4) dc147_32 rfl).trans ?_
  refine (at_goto (t := 62) dc147_33 (by decide)).trans ?_
  rfl
theorem b147_36 {X : pm_X} {d : Nat} {x0 : Int64} {g : pm_G} {iv : pm_V}  : pm_at X d 147 (36, [some (.long x0), none], [], g, iv) = if ¬ (lg_cmp x0 6845812) = 0 then pm_at X d 147 (48, [some (.long x0), none], [], g, iv) else pm_at X d 147 (44, [some (.long x0), none], [], g, iv) := by
  refine (at_lload_n dc147_36 rfl).trans ?_
  refine (at_ldc2 dc147_37 mc147 ll6_135).trans ?_
  refine (at_lcmp dc147_40).trans ?_
  exact at_if_ne (t := 48) dc147_41 (by decide)
theorem b147_44 {X : pm_X} {d : Nat} {x0 : Int64} {g : pm_G} {iv : pm_V}  : pm_at X d 147 (44, [some (.long x0), none], [], g, iv) = pm_at X d 147 (62, [some (.long x0), none], [.int 5], g, iv) := by
  refine (at_iconst (v := 5) dc147_44 rfl).trans ?_
  refine (at_goto (t := 62) dc147_45 (by decide)).trans ?_
  rfl
theorem b147_48 {X : pm_X} {d : Nat} {x0 : Int64} {g : pm_G} {iv : pm_V}  : pm_at X d 147 (48, [some (.long x0), none], [], g, iv) = if ¬ (lg_cmp x0 1650553454) = 0 then pm_at X d 147 (60, [some (.long x0), none], [], g, iv) else pm_at X d 147 (56, [some (.long x0), none], [], g, iv) := by
  refine (at_lload_n dc147_48 rfl).trans ?_
  refine (at_ldc2 dc147_49 mc147 ll6_137).trans ?_
  refine (at_lcmp dc147_52).trans ?_
  exact at_if_ne (t := 60) dc147_53 (by decide)
theorem b147_56 {X : pm_X} {d : Nat} {x0 : Int64} {g : pm_G} {iv : pm_V}  : pm_at X d 147 (56, [some (.long x0), none], [], g, iv) = pm_at X d 147 (62, [some (.long x0), none], [.int 2], g, iv) := by
  refine (at_iconst (v := 2) dc147_56 rfl).trans ?_
  refine (at_goto (t := 62) dc147_57 (by decide)).trans ?_
  rfl
theorem b147_60 {X : pm_X} {d : Nat} {x0 : Int64} {g : pm_G} {iv : pm_V}  : pm_at X d 147 (60, [some (.long x0), none], [], g, iv) = pm_at X d 147 (62, [some (.long x0), none], [.int (-1000000)], g, iv) := by
  refine (at_ldc dc147_60 mc147 lk6_86).trans ?_
  rfl
theorem b147_62 {X : pm_X} {d : Nat} {x0 : Int64} {s0 : Int32} {g : pm_G} {iv : pm_V}  : pm_at X d 147 (62, [some (.long x0), none], [.int s0], g, iv) = some (some (.int s0), g, iv) := by
  exact at_iret dc147_62 mr147
-- Mod.mustEnd ()V
theorem dc148_0 : decode (pm_mb 148) 0 = .ok (.aload_n 0, 1) := by decide +kernel
theorem dc148_1 : decode (pm_mb 148) 1 = .ok (.getfield 108, 3) := by decide +kernel
theorem dc148_4 : decode (pm_mb 148) 4 = .ok (.ifCond .ne 20, 3) := by decide +kernel
theorem dc148_7 : decode (pm_mb 148) 7 = .ok (.aload_n 0, 1) := by decide +kernel
theorem dc148_8 : decode (pm_mb 148) 8 = .ok (.aload_n 0, 1) := by decide +kernel
theorem dc148_9 : decode (pm_mb 148) 9 = .ok (.getfield 96, 3) := by decide +kernel
theorem dc148_12 : decode (pm_mb 148) 12 = .ok (.iconst 4, 1) := by decide +kernel
theorem dc148_13 : decode (pm_mb 148) 13 = .ok (.if_icmp .ne 7, 3) := by decide +kernel
theorem dc148_16 : decode (pm_mb 148) 16 = .ok (.iconst 1, 1) := by decide +kernel
theorem dc148_17 : decode (pm_mb 148) 17 = .ok (.goto 4, 3) := by decide +kernel
theorem dc148_20 : decode (pm_mb 148) 20 = .ok (.iconst 0, 1) := by decide +kernel
theorem dc148_21 : decode (pm_mb 148) 21 = .ok (.invokevirtual 125, 3) := by decide +kernel
theorem dc148_24 : decode (pm_mb 148) 24 = .ok (.return_, 1) := by decide +kernel
theorem b148_0 {X : pm_X} {d : Nat} {g : pm_G} {iv : pm_V} (hL : pm_lay g) : pm_at X d 148 (0, [some (.ref 32)], [], g, iv) = if ¬ (iv 32 17) = 0 then pm_at X d 148 (24, [some (.ref 32)], [], g, iv) else pm_at X d 148 (7, [some (.ref 32)], [], g, iv) := by
  refine (at_aload_n dc148_0 rfl).trans ?_
  refine (at_gfI dc148_1 mc148 lf6_108 fo6_17 (ly32 hL)).trans ?_
  exact at_if_ne (t := 24) dc148_4 (by decide)
theorem b148_7 {X : pm_X} {d : Nat} {g : pm_G} {iv : pm_V} (hL : pm_lay g) : pm_at X d 148 (7, [some (.ref 32)], [], g, iv) = if ¬ (iv 32 14) = 4 then pm_at X d 148 (20, [some (.ref 32)], [.ref 32], g, iv) else pm_at X d 148 (16, [some (.ref 32)], [.ref 32], g, iv) := by
  refine (at_aload_n dc148_7 rfl).trans ?_
  refine (at_aload_n dc148_8 rfl).trans ?_
  refine (at_gfI dc148_9 mc148 lf6_96 fo6_14 (ly32 hL)).trans ?_
  refine (at_iconst (v := 4) dc148_12 rfl).trans ?_
  exact at_icmp_ne (t := 20) dc148_13 (by decide)
theorem b148_16 {X : pm_X} {d : Nat} {g : pm_G} {iv : pm_V}  : pm_at X d 148 (16, [some (.ref 32)], [.ref 32], g, iv) = pm_at X d 148 (21, [some (.ref 32)], [.int 1, .ref 32], g, iv) := by
  refine (at_iconst (v := 1) dc148_16 rfl).trans ?_
  refine (at_goto (t := 21) dc148_17 (by decide)).trans ?_
  rfl
theorem b148_20 {X : pm_X} {d : Nat} {g : pm_G} {iv : pm_V}  : pm_at X d 148 (20, [some (.ref 32)], [.ref 32], g, iv) = pm_at X d 148 (21, [some (.ref 32)], [.int 0, .ref 32], g, iv) := by
  refine (at_iconst (v := 0) dc148_20 rfl).trans ?_
  rfl
theorem b148_21 {X : pm_X} {d : Nat} {s0 : Int32} {g : pm_G} {iv : pm_V} (hL : pm_lay g) : pm_at X d 148 (21, [some (.ref 32)], [.int s0, .ref 32], g, iv) = pm_then X d 148 24 [some (.ref 32)] [] (pm_c X d 143 [.ref 32, .int s0] g iv) := by
  exact at_inv dc148_21 mc148 lm6_125 rfl rfl (Nat.le_of_ble_eq_true rfl) (Or.inl ⟨(ly32 hL), by decide⟩)
theorem b148_24 {X : pm_X} {d : Nat} {g : pm_G} {iv : pm_V}  : pm_at X d 148 (24, [some (.ref 32)], [], g, iv) = some (none, g, iv) := by
  exact at_vret dc148_24 mr148
-- Mod.begins (II)V
theorem dc149_0 : decode (pm_mb 149) 0 = .ok (.aload_n 0, 1) := by decide +kernel
theorem dc149_1 : decode (pm_mb 149) 1 = .ok (.getfield 22, 3) := by decide +kernel
theorem dc149_4 : decode (pm_mb 149) 4 = .ok (.iload_n 1, 1) := by decide +kernel
theorem dc149_5 : decode (pm_mb 149) 5 = .ok (.iaload, 1) := by decide +kernel
theorem dc149_6 : decode (pm_mb 149) 6 = .ok (.iload_n 2, 1) := by decide +kernel
theorem dc149_7 : decode (pm_mb 149) 7 = .ok (.if_icmp .ne 8, 3) := by decide +kernel
theorem dc149_10 : decode (pm_mb 149) 10 = .ok (.aload_n 0, 1) := by decide +kernel
theorem dc149_11 : decode (pm_mb 149) 11 = .ok (.iconst 3, 1) := by decide +kernel
theorem dc149_12 : decode (pm_mb 149) 12 = .ok (.invokevirtual 117, 3) := by decide +kernel
theorem dc149_15 : decode (pm_mb 149) 15 = .ok (.aload_n 0, 1) := by decide +kernel
theorem dc149_16 : decode (pm_mb 149) 16 = .ok (.iconst 1, 1) := by decide +kernel
theorem dc149_17 : decode (pm_mb 149) 17 = .ok (.invokevirtual 125, 3) := by decide +kernel
theorem dc149_20 : decode (pm_mb 149) 20 = .ok (.return_, 1) := by decide +kernel
theorem b149_0 {X : pm_X} {d : Nat} {x1 : Int32} {x2 : Int32} {g : pm_G} {iv : pm_V} (hL : pm_lay g) (i1 : vp_in x1 45) : pm_at X d 149 (0, [some (.ref 32), some (.int x1), some (.int x2)], [], g, iv) = if ¬ (iv 37 (x1 : Int32).toNatClampNeg) = x2 then pm_at X d 149 (15, [some (.ref 32), some (.int x1), some (.int x2)], [], g, iv) else pm_at X d 149 (10, [some (.ref 32), some (.int x1), some (.int x2)], [], g, iv) := by
  refine (at_aload_n dc149_0 rfl).trans ?_
  refine (at_gfR dc149_1 mc149 lf6_22 fo6_6 (ly32 hL) (lr32_6 hL)).trans ?_
  refine (at_iload_n dc149_4 rfl).trans ?_
  refine (at_iald dc149_5 (ly37 hL) i1).trans ?_
  refine (at_iload_n dc149_6 rfl).trans ?_
  exact at_icmp_ne (t := 15) dc149_7 (by decide)
theorem b149_10 {X : pm_X} {d : Nat} {x1 : Int32} {x2 : Int32} {g : pm_G} {iv : pm_V} (hL : pm_lay g) : pm_at X d 149 (10, [some (.ref 32), some (.int x1), some (.int x2)], [], g, iv) = pm_then X d 149 15 [some (.ref 32), some (.int x1), some (.int x2)] [] (pm_c X d 142 [.ref 32, .int 3] g iv) := by
  refine (at_aload_n dc149_10 rfl).trans ?_
  refine (at_iconst (v := 3) dc149_11 rfl).trans ?_
  exact at_inv dc149_12 mc149 lm6_117 rfl rfl (Nat.le_of_ble_eq_true rfl) (Or.inl ⟨(ly32 hL), by decide⟩)
theorem b149_15 {X : pm_X} {d : Nat} {x1 : Int32} {x2 : Int32} {g : pm_G} {iv : pm_V} (hL : pm_lay g) : pm_at X d 149 (15, [some (.ref 32), some (.int x1), some (.int x2)], [], g, iv) = pm_then X d 149 20 [some (.ref 32), some (.int x1), some (.int x2)] [] (pm_c X d 143 [.ref 32, .int 1] g iv) := by
  refine (at_aload_n dc149_15 rfl).trans ?_
  refine (at_iconst (v := 1) dc149_16 rfl).trans ?_
  exact at_inv dc149_17 mc149 lm6_125 rfl rfl (Nat.le_of_ble_eq_true rfl) (Or.inl ⟨(ly32 hL), by decide⟩)
theorem b149_20 {X : pm_X} {d : Nat} {x1 : Int32} {x2 : Int32} {g : pm_G} {iv : pm_V}  : pm_at X d 149 (20, [some (.ref 32), some (.int x1), some (.int x2)], [], g, iv) = some (none, g, iv) := by
  exact at_vret dc149_20 mr149
-- Mod.readStone ()V
theorem dc150_0 : decode (pm_mb 150) 0 = .ok (.aload_n 0, 1) := by decide +kernel
theorem dc150_1 : decode (pm_mb 150) 1 = .ok (.iconst 2, 1) := by decide +kernel
theorem dc150_2 : decode (pm_mb 150) 2 = .ok (.bipush 8, 2) := by decide +kernel
theorem dc150_4 : decode (pm_mb 150) 4 = .ok (.invokevirtual 139, 3) := by decide +kernel
theorem dc150_7 : decode (pm_mb 150) 7 = .ok (.aload_n 0, 1) := by decide +kernel
theorem dc150_8 : decode (pm_mb 150) 8 = .ok (.iconst 0, 1) := by decide +kernel
theorem dc150_9 : decode (pm_mb 150) 9 = .ok (.aload_n 0, 1) := by decide +kernel
theorem dc150_10 : decode (pm_mb 150) 10 = .ok (.getfield 22, 3) := by decide +kernel
theorem dc150_13 : decode (pm_mb 150) 13 = .ok (.iconst 0, 1) := by decide +kernel
theorem dc150_14 : decode (pm_mb 150) 14 = .ok (.iaload, 1) := by decide +kernel
theorem dc150_15 : decode (pm_mb 150) 15 = .ok (.iconst 1, 1) := by decide +kernel
theorem dc150_16 : decode (pm_mb 150) 16 = .ok (.isub, 1) := by decide +kernel
theorem dc150_17 : decode (pm_mb 150) 17 = .ok (.invokevirtual 143, 3) := by decide +kernel
theorem dc150_20 : decode (pm_mb 150) 20 = .ok (.istore_n 1, 1) := by decide +kernel
theorem dc150_21 : decode (pm_mb 150) 21 = .ok (.aload_n 0, 1) := by decide +kernel
theorem dc150_22 : decode (pm_mb 150) 22 = .ok (.iconst 0, 1) := by decide +kernel
theorem dc150_23 : decode (pm_mb 150) 23 = .ok (.aload_n 0, 1) := by decide +kernel
theorem dc150_24 : decode (pm_mb 150) 24 = .ok (.getfield 22, 3) := by decide +kernel
theorem dc150_27 : decode (pm_mb 150) 27 = .ok (.iconst 1, 1) := by decide +kernel
theorem dc150_28 : decode (pm_mb 150) 28 = .ok (.iaload, 1) := by decide +kernel
theorem dc150_29 : decode (pm_mb 150) 29 = .ok (.iconst 1, 1) := by decide +kernel
theorem dc150_30 : decode (pm_mb 150) 30 = .ok (.isub, 1) := by decide +kernel
theorem dc150_31 : decode (pm_mb 150) 31 = .ok (.invokevirtual 143, 3) := by decide +kernel
theorem dc150_34 : decode (pm_mb 150) 34 = .ok (.istore_n 2, 1) := by decide +kernel
theorem dc150_35 : decode (pm_mb 150) 35 = .ok (.aload_n 0, 1) := by decide +kernel
theorem dc150_36 : decode (pm_mb 150) 36 = .ok (.invokevirtual 147, 3) := by decide +kernel
theorem dc150_39 : decode (pm_mb 150) 39 = .ok (.aload_n 0, 1) := by decide +kernel
theorem dc150_40 : decode (pm_mb 150) 40 = .ok (.getfield 108, 3) := by decide +kernel
theorem dc150_43 : decode (pm_mb 150) 43 = .ok (.ifCond .ne 27, 3) := by decide +kernel
theorem dc150_46 : decode (pm_mb 150) 46 = .ok (.aload_n 0, 1) := by decide +kernel
theorem dc150_47 : decode (pm_mb 150) 47 = .ok (.getfield 22, 3) := by decide +kernel
theorem dc150_50 : decode (pm_mb 150) 50 = .ok (.iconst 5, 1) := by decide +kernel
theorem dc150_51 : decode (pm_mb 150) 51 = .ok (.iload_n 1, 1) := by decide +kernel
theorem dc150_52 : decode (pm_mb 150) 52 = .ok (.iadd, 1) := by decide +kernel
theorem dc150_53 : decode (pm_mb 150) 53 = .ok (.dup2, 1) := by decide +kernel
theorem dc150_54 : decode (pm_mb 150) 54 = .ok (.iaload, 1) := by decide +kernel
theorem dc150_55 : decode (pm_mb 150) 55 = .ok (.iconst 1, 1) := by decide +kernel
theorem dc150_56 : decode (pm_mb 150) 56 = .ok (.iload_n 2, 1) := by decide +kernel
theorem dc150_57 : decode (pm_mb 150) 57 = .ok (.ishl, 1) := by decide +kernel
theorem dc150_58 : decode (pm_mb 150) 58 = .ok (.ior, 1) := by decide +kernel
theorem dc150_59 : decode (pm_mb 150) 59 = .ok (.iastore, 1) := by decide +kernel
theorem dc150_60 : decode (pm_mb 150) 60 = .ok (.aload_n 0, 1) := by decide +kernel
theorem dc150_61 : decode (pm_mb 150) 61 = .ok (.getfield 22, 3) := by decide +kernel
theorem dc150_64 : decode (pm_mb 150) 64 = .ok (.iconst 2, 1) := by decide +kernel
theorem dc150_65 : decode (pm_mb 150) 65 = .ok (.dup2, 1) := by decide +kernel
theorem dc150_66 : decode (pm_mb 150) 66 = .ok (.iaload, 1) := by decide +kernel
theorem dc150_67 : decode (pm_mb 150) 67 = .ok (.iconst 1, 1) := by decide +kernel
theorem dc150_68 : decode (pm_mb 150) 68 = .ok (.iadd, 1) := by decide +kernel
theorem dc150_69 : decode (pm_mb 150) 69 = .ok (.iastore, 1) := by decide +kernel
theorem dc150_70 : decode (pm_mb 150) 70 = .ok (.return_, 1) := by decide +kernel
theorem b150_0 {X : pm_X} {d : Nat} {g : pm_G} {iv : pm_V} (hL : pm_lay g) : pm_at X d 150 (0, [some (.ref 32), none, none], [], g, iv) = pm_then X d 150 7 [some (.ref 32), none, none] [] (pm_c X d 149 [.ref 32, .int 2, .int 8] g iv) := by
  refine (at_aload_n dc150_0 rfl).trans ?_
  refine (at_iconst (v := 2) dc150_1 rfl).trans ?_
  refine (at_bipush (v := 8) dc150_2 (by decide)).trans ?_
  exact at_inv dc150_4 mc150 lm6_139 rfl rfl (Nat.le_of_ble_eq_true rfl) (Or.inl ⟨(ly32 hL), by decide⟩)
theorem b150_7 {X : pm_X} {d : Nat} {g : pm_G} {iv : pm_V} (hL : pm_lay g) : pm_at X d 150 (7, [some (.ref 32), none, none], [], g, iv) = pm_then X d 150 20 [some (.ref 32), none, none] [] (pm_c X d 146 [.ref 32, .int 0, .int ((iv 37 0) - 1)] g iv) := by
  refine (at_aload_n dc150_7 rfl).trans ?_
  refine (at_iconst (v := 0) dc150_8 rfl).trans ?_
  refine (at_aload_n dc150_9 rfl).trans ?_
  refine (at_gfR dc150_10 mc150 lf6_22 fo6_6 (ly32 hL) (lr32_6 hL)).trans ?_
  refine (at_iconst (v := 0) dc150_13 rfl).trans ?_
  refine (at_iald dc150_14 (ly37 hL) (vp_in_nI (n := 0) (by decide) (by decide))).trans ?_
  refine (at_iconst (v := 1) dc150_15 rfl).trans ?_
  refine (at_isub dc150_16).trans ?_
  exact at_inv dc150_17 mc150 lm6_143 rfl rfl (Nat.le_of_ble_eq_true rfl) (Or.inl ⟨(ly32 hL), by decide⟩)
theorem b150_20 {X : pm_X} {d : Nat} {s0 : Int32} {g : pm_G} {iv : pm_V} (hL : pm_lay g) : pm_at X d 150 (20, [some (.ref 32), none, none], [.int s0], g, iv) = pm_then X d 150 34 [some (.ref 32), some (.int s0), none] [] (pm_c X d 146 [.ref 32, .int 0, .int ((iv 37 1) - 1)] g iv) := by
  refine (at_istore_n dc150_20 rfl).trans ?_
  refine (at_aload_n dc150_21 rfl).trans ?_
  refine (at_iconst (v := 0) dc150_22 rfl).trans ?_
  refine (at_aload_n dc150_23 rfl).trans ?_
  refine (at_gfR dc150_24 mc150 lf6_22 fo6_6 (ly32 hL) (lr32_6 hL)).trans ?_
  refine (at_iconst (v := 1) dc150_27 rfl).trans ?_
  refine (at_iald dc150_28 (ly37 hL) (vp_in_nI (n := 1) (by decide) (by decide))).trans ?_
  refine (at_iconst (v := 1) dc150_29 rfl).trans ?_
  refine (at_isub dc150_30).trans ?_
  exact at_inv dc150_31 mc150 lm6_143 rfl rfl (Nat.le_of_ble_eq_true rfl) (Or.inl ⟨(ly32 hL), by decide⟩)
theorem b150_34 {X : pm_X} {d : Nat} {x1 : Int32} {s0 : Int32} {g : pm_G} {iv : pm_V} (hL : pm_lay g) : pm_at X d 150 (34, [some (.ref 32), some (.int x1), none], [.int s0], g, iv) = pm_then X d 150 39 [some (.ref 32), some (.int x1), some (.int s0)] [] (pm_c X d 148 [.ref 32] g iv) := by
  refine (at_istore_n dc150_34 rfl).trans ?_
  refine (at_aload_n dc150_35 rfl).trans ?_
  exact at_inv dc150_36 mc150 lm6_147 rfl rfl (Nat.le_of_ble_eq_true rfl) (Or.inl ⟨(ly32 hL), by decide⟩)
theorem b150_39 {X : pm_X} {d : Nat} {x1 : Int32} {x2 : Int32} {g : pm_G} {iv : pm_V} (hL : pm_lay g) : pm_at X d 150 (39, [some (.ref 32), some (.int x1), some (.int x2)], [], g, iv) = if ¬ (iv 32 17) = 0 then pm_at X d 150 (70, [some (.ref 32), some (.int x1), some (.int x2)], [], g, iv) else pm_at X d 150 (46, [some (.ref 32), some (.int x1), some (.int x2)], [], g, iv) := by
  refine (at_aload_n dc150_39 rfl).trans ?_
  refine (at_gfI dc150_40 mc150 lf6_108 fo6_17 (ly32 hL)).trans ?_
  exact at_if_ne (t := 70) dc150_43 (by decide)
theorem b150_46 {X : pm_X} {d : Nat} {x1 : Int32} {x2 : Int32} {g : pm_G} {iv : pm_V} (hL : pm_lay g) (i1 : vp_in ((5 + x1)) 45) : pm_at X d 150 (46, [some (.ref 32), some (.int x1), some (.int x2)], [], g, iv) = pm_at X d 150 (70, [some (.ref 32), some (.int x1), some (.int x2)], [], g, (pm_iw (pm_iw iv 37 ((5 + x1) : Int32).toNatClampNeg (((iv 37 ((5 + x1) : Int32).toNatClampNeg) ||| (1 <<< (x2 &&& 31))))) 37 2 ((((pm_iw iv 37 ((5 + x1) : Int32).toNatClampNeg (((iv 37 ((5 + x1) : Int32).toNatClampNeg) ||| (1 <<< (x2 &&& 31))))) 37 2) + 1)))) := by
  refine (at_aload_n dc150_46 rfl).trans ?_
  refine (at_gfR dc150_47 mc150 lf6_22 fo6_6 (ly32 hL) (lr32_6 hL)).trans ?_
  refine (at_iconst (v := 5) dc150_50 rfl).trans ?_
  refine (at_iload_n dc150_51 rfl).trans ?_
  refine (at_iadd dc150_52).trans ?_
  refine (at_dup2 dc150_53 ⟨rfl, rfl⟩).trans ?_
  refine (at_iald dc150_54 (ly37 hL) i1).trans ?_
  refine (at_iconst (v := 1) dc150_55 rfl).trans ?_
  refine (at_iload_n dc150_56 rfl).trans ?_
  refine (at_ishl dc150_57).trans ?_
  refine (at_ior dc150_58).trans ?_
  refine (at_iast dc150_59 (ly37 hL) i1).trans ?_
  refine (at_aload_n dc150_60 rfl).trans ?_
  refine (at_gfR dc150_61 mc150 lf6_22 fo6_6 (ly32 hL) (lr32_6 hL)).trans ?_
  refine (at_iconst (v := 2) dc150_64 rfl).trans ?_
  refine (at_dup2 dc150_65 ⟨rfl, rfl⟩).trans ?_
  refine (at_iald dc150_66 (ly37 hL) (vp_in_nI (n := 2) (by decide) (by decide))).trans ?_
  refine (at_iconst (v := 1) dc150_67 rfl).trans ?_
  refine (at_iadd dc150_68).trans ?_
  refine (at_iast dc150_69 (ly37 hL) (vp_in_nI (n := 2) (by decide) (by decide))).trans ?_
  rfl
theorem b150_70 {X : pm_X} {d : Nat} {x1 : Int32} {x2 : Int32} {g : pm_G} {iv : pm_V}  : pm_at X d 150 (70, [some (.ref 32), some (.int x1), some (.int x2)], [], g, iv) = some (none, g, iv) := by
  exact at_vret dc150_70 mr150
-- Mod.isTaken (II)Z
theorem dc151_0 : decode (pm_mb 151) 0 = .ok (.aload_n 0, 1) := by decide +kernel
theorem dc151_1 : decode (pm_mb 151) 1 = .ok (.getfield 22, 3) := by decide +kernel
theorem dc151_4 : decode (pm_mb 151) 4 = .ok (.iconst 5, 1) := by decide +kernel
theorem dc151_5 : decode (pm_mb 151) 5 = .ok (.iload_n 1, 1) := by decide +kernel
theorem dc151_6 : decode (pm_mb 151) 6 = .ok (.iadd, 1) := by decide +kernel
theorem dc151_7 : decode (pm_mb 151) 7 = .ok (.iaload, 1) := by decide +kernel
theorem dc151_8 : decode (pm_mb 151) 8 = .ok (.iload_n 2, 1) := by decide +kernel
theorem dc151_9 : decode (pm_mb 151) 9 = .ok (.ishr, 1) := by decide +kernel
theorem dc151_10 : decode (pm_mb 151) 10 = .ok (.iconst 1, 1) := by decide +kernel
theorem dc151_11 : decode (pm_mb 151) 11 = .ok (.iand, 1) := by decide +kernel
theorem dc151_12 : decode (pm_mb 151) 12 = .ok (.iconst 1, 1) := by decide +kernel
theorem dc151_13 : decode (pm_mb 151) 13 = .ok (.if_icmp .ne 7, 3) := by decide +kernel
theorem dc151_16 : decode (pm_mb 151) 16 = .ok (.iconst 1, 1) := by decide +kernel
theorem dc151_17 : decode (pm_mb 151) 17 = .ok (.goto 4, 3) := by decide +kernel
theorem dc151_20 : decode (pm_mb 151) 20 = .ok (.iconst 0, 1) := by decide +kernel
theorem dc151_21 : decode (pm_mb 151) 21 = .ok (.istore_n 3, 1) := by decide +kernel
theorem dc151_22 : decode (pm_mb 151) 22 = .ok (.iconst 0, 1) := by decide +kernel
theorem dc151_23 : decode (pm_mb 151) 23 = .ok (.istore 4, 2) := by decide +kernel
theorem dc151_25 : decode (pm_mb 151) 25 = .ok (.iload 4, 2) := by decide +kernel
theorem dc151_27 : decode (pm_mb 151) 27 = .ok (.aload_n 0, 1) := by decide +kernel
theorem dc151_28 : decode (pm_mb 151) 28 = .ok (.getfield 22, 3) := by decide +kernel
theorem dc151_31 : decode (pm_mb 151) 31 = .ok (.iconst 3, 1) := by decide +kernel
theorem dc151_32 : decode (pm_mb 151) 32 = .ok (.iaload, 1) := by decide +kernel
theorem dc151_33 : decode (pm_mb 151) 33 = .ok (.if_icmp .ge 57, 3) := by decide +kernel
theorem dc151_36 : decode (pm_mb 151) 36 = .ok (.iload_n 3, 1) := by decide +kernel
theorem dc151_37 : decode (pm_mb 151) 37 = .ok (.ifCond .ne 41, 3) := by decide +kernel
theorem dc151_40 : decode (pm_mb 151) 40 = .ok (.aload_n 0, 1) := by decide +kernel
theorem dc151_41 : decode (pm_mb 151) 41 = .ok (.getfield 22, 3) := by decide +kernel
theorem dc151_44 : decode (pm_mb 151) 44 = .ok (.bipush 9, 2) := by decide +kernel
theorem dc151_46 : decode (pm_mb 151) 46 = .ok (.bipush 6, 2) := by decide +kernel
theorem dc151_48 : decode (pm_mb 151) 48 = .ok (.iload 4, 2) := by decide +kernel
theorem dc151_50 : decode (pm_mb 151) 50 = .ok (.imul, 1) := by decide +kernel
theorem dc151_51 : decode (pm_mb 151) 51 = .ok (.iadd, 1) := by decide +kernel
theorem dc151_52 : decode (pm_mb 151) 52 = .ok (.iconst 1, 1) := by decide +kernel
theorem dc151_53 : decode (pm_mb 151) 53 = .ok (.iadd, 1) := by decide +kernel
theorem dc151_54 : decode (pm_mb 151) 54 = .ok (.iaload, 1) := by decide +kernel
theorem dc151_55 : decode (pm_mb 151) 55 = .ok (.iload_n 1, 1) := by decide +kernel
theorem dc151_56 : decode (pm_mb 151) 56 = .ok (.if_icmp .ne 26, 3) := by decide +kernel
theorem dc151_59 : decode (pm_mb 151) 59 = .ok (.aload_n 0, 1) := by decide +kernel
theorem dc151_60 : decode (pm_mb 151) 60 = .ok (.getfield 22, 3) := by decide +kernel
theorem dc151_63 : decode (pm_mb 151) 63 = .ok (.bipush 9, 2) := by decide +kernel
theorem dc151_65 : decode (pm_mb 151) 65 = .ok (.bipush 6, 2) := by decide +kernel
theorem dc151_67 : decode (pm_mb 151) 67 = .ok (.iload 4, 2) := by decide +kernel
theorem dc151_69 : decode (pm_mb 151) 69 = .ok (.imul, 1) := by decide +kernel
theorem dc151_70 : decode (pm_mb 151) 70 = .ok (.iadd, 1) := by decide +kernel
theorem dc151_71 : decode (pm_mb 151) 71 = .ok (.iconst 2, 1) := by decide +kernel
theorem dc151_72 : decode (pm_mb 151) 72 = .ok (.iadd, 1) := by decide +kernel
theorem dc151_73 : decode (pm_mb 151) 73 = .ok (.iaload, 1) := by decide +kernel
theorem dc151_74 : decode (pm_mb 151) 74 = .ok (.iload_n 2, 1) := by decide +kernel
theorem dc151_75 : decode (pm_mb 151) 75 = .ok (.if_icmp .ne 7, 3) := by decide +kernel
theorem dc151_78 : decode (pm_mb 151) 78 = .ok (.iconst 1, 1) := by decide +kernel
theorem dc151_79 : decode (pm_mb 151) 79 = .ok (.goto 4, 3) := by decide +kernel
theorem dc151_82 : decode (pm_mb 151) 82 = .ok (.iconst 0, 1) := by decide +kernel
theorem dc151_83 : decode (pm_mb 151) 83 = .ok (.istore_n 3, 1) := by decide +kernel
theorem dc151_84 : decode (pm_mb 151) 84 = .ok (.iinc 4 1, 3) := by decide +kernel
theorem dc151_87 : decode (pm_mb 151) 87 = .ok (.goto (-62), 3) := by decide +kernel
theorem dc151_90 : decode (pm_mb 151) 90 = .ok (.iload_n 3, 1) := by decide +kernel
theorem dc151_91 : decode (pm_mb 151) 91 = .ok (.ireturn, 1) := by decide +kernel
theorem b151_0 {X : pm_X} {d : Nat} {x1 : Int32} {x2 : Int32} {g : pm_G} {iv : pm_V} (hL : pm_lay g) (i1 : vp_in ((5 + x1)) 45) : pm_at X d 151 (0, [some (.ref 32), some (.int x1), some (.int x2), none, none], [], g, iv) = if ¬ (((iv 37 ((5 + x1) : Int32).toNatClampNeg) >>> (x2 &&& 31)) &&& 1) = 1 then pm_at X d 151 (20, [some (.ref 32), some (.int x1), some (.int x2), none, none], [], g, iv) else pm_at X d 151 (16, [some (.ref 32), some (.int x1), some (.int x2), none, none], [], g, iv) := by
  refine (at_aload_n dc151_0 rfl).trans ?_
  refine (at_gfR dc151_1 mc151 lf6_22 fo6_6 (ly32 hL) (lr32_6 hL)).trans ?_
  refine (at_iconst (v := 5) dc151_4 rfl).trans ?_
  refine (at_iload_n dc151_5 rfl).trans ?_
  refine (at_iadd dc151_6).trans ?_
  refine (at_iald dc151_7 (ly37 hL) i1).trans ?_
  refine (at_iload_n dc151_8 rfl).trans ?_
  refine (at_ishr dc151_9).trans ?_
  refine (at_iconst (v := 1) dc151_10 rfl).trans ?_
  refine (at_iand dc151_11).trans ?_
  refine (at_iconst (v := 1) dc151_12 rfl).trans ?_
  exact at_icmp_ne (t := 20) dc151_13 (by decide)
theorem b151_16 {X : pm_X} {d : Nat} {x1 : Int32} {x2 : Int32} {g : pm_G} {iv : pm_V}  : pm_at X d 151 (16, [some (.ref 32), some (.int x1), some (.int x2), none, none], [], g, iv) = pm_at X d 151 (21, [some (.ref 32), some (.int x1), some (.int x2), none, none], [.int 1], g, iv) := by
  refine (at_iconst (v := 1) dc151_16 rfl).trans ?_
  refine (at_goto (t := 21) dc151_17 (by decide)).trans ?_
  rfl
theorem b151_20 {X : pm_X} {d : Nat} {x1 : Int32} {x2 : Int32} {g : pm_G} {iv : pm_V}  : pm_at X d 151 (20, [some (.ref 32), some (.int x1), some (.int x2), none, none], [], g, iv) = pm_at X d 151 (21, [some (.ref 32), some (.int x1), some (.int x2), none, none], [.int 0], g, iv) := by
  refine (at_iconst (v := 0) dc151_20 rfl).trans ?_
  rfl
theorem b151_21 {X : pm_X} {d : Nat} {x1 : Int32} {x2 : Int32} {s0 : Int32} {g : pm_G} {iv : pm_V}  : pm_at X d 151 (21, [some (.ref 32), some (.int x1), some (.int x2), none, none], [.int s0], g, iv) = pm_at X d 151 (25, [some (.ref 32), some (.int x1), some (.int x2), some (.int s0), some (.int 0)], [], g, iv) := by
  refine (at_istore_n dc151_21 rfl).trans ?_
  refine (at_iconst (v := 0) dc151_22 rfl).trans ?_
  refine (at_istore dc151_23 rfl).trans ?_
  rfl
theorem b151_25 {X : pm_X} {d : Nat} {x1 : Int32} {x2 : Int32} {x3 : Int32} {x4 : Int32} {g : pm_G} {iv : pm_V} (hL : pm_lay g) : pm_at X d 151 (25, [some (.ref 32), some (.int x1), some (.int x2), some (.int x3), some (.int x4)], [], g, iv) = if (iv 37 3) ≤ x4 then pm_at X d 151 (90, [some (.ref 32), some (.int x1), some (.int x2), some (.int x3), some (.int x4)], [], g, iv) else pm_at X d 151 (36, [some (.ref 32), some (.int x1), some (.int x2), some (.int x3), some (.int x4)], [], g, iv) := by
  refine (at_iload dc151_25 rfl).trans ?_
  refine (at_aload_n dc151_27 rfl).trans ?_
  refine (at_gfR dc151_28 mc151 lf6_22 fo6_6 (ly32 hL) (lr32_6 hL)).trans ?_
  refine (at_iconst (v := 3) dc151_31 rfl).trans ?_
  refine (at_iald dc151_32 (ly37 hL) (vp_in_nI (n := 3) (by decide) (by decide))).trans ?_
  exact at_icmp_ge (t := 90) dc151_33 (by decide)
theorem b151_36 {X : pm_X} {d : Nat} {x1 : Int32} {x2 : Int32} {x3 : Int32} {x4 : Int32} {g : pm_G} {iv : pm_V}  : pm_at X d 151 (36, [some (.ref 32), some (.int x1), some (.int x2), some (.int x3), some (.int x4)], [], g, iv) = if ¬ x3 = 0 then pm_at X d 151 (78, [some (.ref 32), some (.int x1), some (.int x2), some (.int x3), some (.int x4)], [], g, iv) else pm_at X d 151 (40, [some (.ref 32), some (.int x1), some (.int x2), some (.int x3), some (.int x4)], [], g, iv) := by
  refine (at_iload_n dc151_36 rfl).trans ?_
  exact at_if_ne (t := 78) dc151_37 (by decide)
theorem b151_40 {X : pm_X} {d : Nat} {x1 : Int32} {x2 : Int32} {x3 : Int32} {x4 : Int32} {g : pm_G} {iv : pm_V} (hL : pm_lay g) (i1 : vp_in (((9 + (6 * x4)) + 1)) 45) : pm_at X d 151 (40, [some (.ref 32), some (.int x1), some (.int x2), some (.int x3), some (.int x4)], [], g, iv) = if ¬ (iv 37 (((9 + (6 * x4)) + 1) : Int32).toNatClampNeg) = x1 then pm_at X d 151 (82, [some (.ref 32), some (.int x1), some (.int x2), some (.int x3), some (.int x4)], [], g, iv) else pm_at X d 151 (59, [some (.ref 32), some (.int x1), some (.int x2), some (.int x3), some (.int x4)], [], g, iv) := by
  refine (at_aload_n dc151_40 rfl).trans ?_
  refine (at_gfR dc151_41 mc151 lf6_22 fo6_6 (ly32 hL) (lr32_6 hL)).trans ?_
  refine (at_bipush (v := 9) dc151_44 (by decide)).trans ?_
  refine (at_bipush (v := 6) dc151_46 (by decide)).trans ?_
  refine (at_iload dc151_48 rfl).trans ?_
  refine (at_imul dc151_50).trans ?_
  refine (at_iadd dc151_51).trans ?_
  refine (at_iconst (v := 1) dc151_52 rfl).trans ?_
  refine (at_iadd dc151_53).trans ?_
  refine (at_iald dc151_54 (ly37 hL) i1).trans ?_
  refine (at_iload_n dc151_55 rfl).trans ?_
  exact at_icmp_ne (t := 82) dc151_56 (by decide)
theorem b151_59 {X : pm_X} {d : Nat} {x1 : Int32} {x2 : Int32} {x3 : Int32} {x4 : Int32} {g : pm_G} {iv : pm_V} (hL : pm_lay g) (i1 : vp_in (((9 + (6 * x4)) + 2)) 45) : pm_at X d 151 (59, [some (.ref 32), some (.int x1), some (.int x2), some (.int x3), some (.int x4)], [], g, iv) = if ¬ (iv 37 (((9 + (6 * x4)) + 2) : Int32).toNatClampNeg) = x2 then pm_at X d 151 (82, [some (.ref 32), some (.int x1), some (.int x2), some (.int x3), some (.int x4)], [], g, iv) else pm_at X d 151 (78, [some (.ref 32), some (.int x1), some (.int x2), some (.int x3), some (.int x4)], [], g, iv) := by
  refine (at_aload_n dc151_59 rfl).trans ?_
  refine (at_gfR dc151_60 mc151 lf6_22 fo6_6 (ly32 hL) (lr32_6 hL)).trans ?_
  refine (at_bipush (v := 9) dc151_63 (by decide)).trans ?_
  refine (at_bipush (v := 6) dc151_65 (by decide)).trans ?_
  refine (at_iload dc151_67 rfl).trans ?_
  refine (at_imul dc151_69).trans ?_
  refine (at_iadd dc151_70).trans ?_
  refine (at_iconst (v := 2) dc151_71 rfl).trans ?_
  refine (at_iadd dc151_72).trans ?_
  refine (at_iald dc151_73 (ly37 hL) i1).trans ?_
  refine (at_iload_n dc151_74 rfl).trans ?_
  exact at_icmp_ne (t := 82) dc151_75 (by decide)
theorem b151_78 {X : pm_X} {d : Nat} {x1 : Int32} {x2 : Int32} {x3 : Int32} {x4 : Int32} {g : pm_G} {iv : pm_V}  : pm_at X d 151 (78, [some (.ref 32), some (.int x1), some (.int x2), some (.int x3), some (.int x4)], [], g, iv) = pm_at X d 151 (83, [some (.ref 32), some (.int x1), some (.int x2), some (.int x3), some (.int x4)], [.int 1], g, iv) := by
  refine (at_iconst (v := 1) dc151_78 rfl).trans ?_
  refine (at_goto (t := 83) dc151_79 (by decide)).trans ?_
  rfl
theorem b151_82 {X : pm_X} {d : Nat} {x1 : Int32} {x2 : Int32} {x3 : Int32} {x4 : Int32} {g : pm_G} {iv : pm_V}  : pm_at X d 151 (82, [some (.ref 32), some (.int x1), some (.int x2), some (.int x3), some (.int x4)], [], g, iv) = pm_at X d 151 (83, [some (.ref 32), some (.int x1), some (.int x2), some (.int x3), some (.int x4)], [.int 0], g, iv) := by
  refine (at_iconst (v := 0) dc151_82 rfl).trans ?_
  rfl
theorem b151_83 {X : pm_X} {d : Nat} {x1 : Int32} {x2 : Int32} {x3 : Int32} {x4 : Int32} {s0 : Int32} {g : pm_G} {iv : pm_V}  : pm_at X d 151 (83, [some (.ref 32), some (.int x1), some (.int x2), some (.int x3), some (.int x4)], [.int s0], g, iv) = pm_at X d 151 (25, [some (.ref 32), some (.int x1), some (.int x2), some (.int s0), some (.int (x4 + 1))], [], g, iv) := by
  refine (at_istore_n dc151_83 rfl).trans ?_
  refine (at_iinc (v := 1) dc151_84 rfl (by decide) rfl).trans ?_
  refine (at_goto (t := 25) dc151_87 (by decide)).trans ?_
  rfl
theorem b151_90 {X : pm_X} {d : Nat} {x1 : Int32} {x2 : Int32} {x3 : Int32} {x4 : Int32} {g : pm_G} {iv : pm_V}  : pm_at X d 151 (90, [some (.ref 32), some (.int x1), some (.int x2), some (.int x3), some (.int x4)], [], g, iv) = pm_zr x3 (some (some (.int x3), g, iv)) := by
  refine (at_iload_n dc151_90 rfl).trans ?_
  exact at_zretG dc151_91 mr151
-- Mod.readHouse ()V
theorem dc152_0 : decode (pm_mb 152) 0 = .ok (.aload_n 0, 1) := by decide +kernel
theorem dc152_1 : decode (pm_mb 152) 1 = .ok (.iconst 3, 1) := by decide +kernel
theorem dc152_2 : decode (pm_mb 152) 2 = .ok (.bipush 6, 2) := by decide +kernel
theorem dc152_4 : decode (pm_mb 152) 4 = .ok (.invokevirtual 139, 3) := by decide +kernel
theorem dc152_7 : decode (pm_mb 152) 7 = .ok (.aload_n 0, 1) := by decide +kernel
theorem dc152_8 : decode (pm_mb 152) 8 = .ok (.invokevirtual 150, 3) := by decide +kernel
theorem dc152_11 : decode (pm_mb 152) 11 = .ok (.invokestatic 154, 3) := by decide +kernel
theorem dc152_14 : decode (pm_mb 152) 14 = .ok (.istore_n 1, 1) := by decide +kernel
theorem dc152_15 : decode (pm_mb 152) 15 = .ok (.aload_n 0, 1) := by decide +kernel
theorem dc152_16 : decode (pm_mb 152) 16 = .ok (.getfield 108, 3) := by decide +kernel
theorem dc152_19 : decode (pm_mb 152) 19 = .ok (.ifCond .ne 18, 3) := by decide +kernel
theorem dc152_22 : decode (pm_mb 152) 22 = .ok (.aload_n 0, 1) := by decide +kernel
theorem dc152_23 : decode (pm_mb 152) 23 = .ok (.iload_n 1, 1) := by decide +kernel
theorem dc152_24 : decode (pm_mb 152) 24 = .ok (.ldc 86, 2) := by decide +kernel
theorem dc152_26 : decode (pm_mb 152) 26 = .ok (.if_icmp .eq 7, 3) := by decide +kernel
theorem dc152_29 : decode (pm_mb 152) 29 = .ok (.iconst 1, 1) := by decide +kernel
theorem dc152_30 : decode (pm_mb 152) 30 = .ok (.goto 4, 3) := by decide +kernel
theorem dc152_33 : decode (pm_mb 152) 33 = .ok (.iconst 0, 1) := by decide +kernel
theorem dc152_34 : decode (pm_mb 152) 34 = .ok (.invokevirtual 125, 3) := by decide +kernel
theorem dc152_37 : decode (pm_mb 152) 37 = .ok (.aload_n 0, 1) := by decide +kernel
theorem dc152_38 : decode (pm_mb 152) 38 = .ok (.iconst 0, 1) := by decide +kernel
theorem dc152_39 : decode (pm_mb 152) 39 = .ok (.aload_n 0, 1) := by decide +kernel
theorem dc152_40 : decode (pm_mb 152) 40 = .ok (.getfield 22, 3) := by decide +kernel
theorem dc152_43 : decode (pm_mb 152) 43 = .ok (.iconst 0, 1) := by decide +kernel
theorem dc152_44 : decode (pm_mb 152) 44 = .ok (.iaload, 1) := by decide +kernel
theorem dc152_45 : decode (pm_mb 152) 45 = .ok (.iconst 1, 1) := by decide +kernel
theorem dc152_46 : decode (pm_mb 152) 46 = .ok (.isub, 1) := by decide +kernel
theorem dc152_47 : decode (pm_mb 152) 47 = .ok (.invokevirtual 143, 3) := by decide +kernel
theorem dc152_50 : decode (pm_mb 152) 50 = .ok (.istore_n 2, 1) := by decide +kernel
theorem dc152_51 : decode (pm_mb 152) 51 = .ok (.aload_n 0, 1) := by decide +kernel
theorem dc152_52 : decode (pm_mb 152) 52 = .ok (.getfield 108, 3) := by decide +kernel
theorem dc152_55 : decode (pm_mb 152) 55 = .ok (.ifCond .ne 49, 3) := by decide +kernel
theorem dc152_58 : decode (pm_mb 152) 58 = .ok (.aload_n 0, 1) := by decide +kernel
theorem dc152_59 : decode (pm_mb 152) 59 = .ok (.getfield 96, 3) := by decide +kernel
theorem dc152_62 : decode (pm_mb 152) 62 = .ok (.iconst 3, 1) := by decide +kernel
theorem dc152_63 : decode (pm_mb 152) 63 = .ok (.if_icmp .ne 41, 3) := by decide +kernel
theorem dc152_66 : decode (pm_mb 152) 66 = .ok (.aload_n 0, 1) := by decide +kernel
theorem dc152_67 : decode (pm_mb 152) 67 = .ok (.invokevirtual 121, 3) := by decide +kernel
theorem dc152_70 : decode (pm_mb 152) 70 = .ok (.i2l, 1) := by decide +kernel
theorem dc152_71 : decode (pm_mb 152) 71 = .ok (.lconst 0, 1) := by decide +kernel
theorem dc152_72 : decode (pm_mb 152) 72 = .ok (.aload_n 0, 1) := by decide +kernel
theorem dc152_73 : decode (pm_mb 152) 73 = .ok (.getfield 22, 3) := by decide +kernel
theorem dc152_76 : decode (pm_mb 152) 76 = .ok (.iconst 1, 1) := by decide +kernel
theorem dc152_77 : decode (pm_mb 152) 77 = .ok (.iaload, 1) := by decide +kernel
theorem dc152_78 : decode (pm_mb 152) 78 = .ok (.iconst 1, 1) := by decide +kernel
theorem dc152_79 : decode (pm_mb 152) 79 = .ok (.isub, 1) := by decide +kernel
theorem dc152_80 : decode (pm_mb 152) 80 = .ok (.i2l, 1) := by decide +kernel
theorem dc152_81 : decode (pm_mb 152) 81 = .ok (.invokestatic 60, 3) := by decide +kernel
theorem dc152_84 : decode (pm_mb 152) 84 = .ok (.ifCond .eq 20, 3) := by decide +kernel
theorem dc152_87 : decode (pm_mb 152) 87 = .ok (.aload_n 0, 1) := by decide +kernel
theorem dc152_88 : decode (pm_mb 152) 88 = .ok (.iload_n 2, 1) := by decide +kernel
theorem dc152_89 : decode (pm_mb 152) 89 = .ok (.aload_n 0, 1) := by decide +kernel
theorem dc152_90 : decode (pm_mb 152) 90 = .ok (.invokevirtual 121, 3) := by decide +kernel
theorem dc152_93 : decode (pm_mb 152) 93 = .ok (.invokevirtual 158, 3) := by decide +kernel
theorem dc152_96 : decode (pm_mb 152) 96 = .ok (.ifCond .eq 8, 3) := by decide +kernel
theorem dc152_99 : decode (pm_mb 152) 99 = .ok (.aload_n 0, 1) := by decide +kernel
theorem dc152_100 : decode (pm_mb 152) 100 = .ok (.iconst 2, 1) := by decide +kernel
theorem dc152_101 : decode (pm_mb 152) 101 = .ok (.invokevirtual 117, 3) := by decide +kernel
theorem dc152_104 : decode (pm_mb 152) 104 = .ok (.aload_n 0, 1) := by decide +kernel
theorem dc152_105 : decode (pm_mb 152) 105 = .ok (.iconst 0, 1) := by decide +kernel
theorem dc152_106 : decode (pm_mb 152) 106 = .ok (.aload_n 0, 1) := by decide +kernel
theorem dc152_107 : decode (pm_mb 152) 107 = .ok (.getfield 22, 3) := by decide +kernel
theorem dc152_110 : decode (pm_mb 152) 110 = .ok (.iconst 1, 1) := by decide +kernel
theorem dc152_111 : decode (pm_mb 152) 111 = .ok (.iaload, 1) := by decide +kernel
theorem dc152_112 : decode (pm_mb 152) 112 = .ok (.iconst 1, 1) := by decide +kernel
theorem dc152_113 : decode (pm_mb 152) 113 = .ok (.isub, 1) := by decide +kernel
theorem dc152_114 : decode (pm_mb 152) 114 = .ok (.invokevirtual 143, 3) := by decide +kernel
theorem dc152_117 : decode (pm_mb 152) 117 = .ok (.istore_n 3, 1) := by decide +kernel
theorem dc152_118 : decode (pm_mb 152) 118 = .ok (.aload_n 0, 1) := by decide +kernel
theorem dc152_119 : decode (pm_mb 152) 119 = .ok (.iconst 1, 1) := by decide +kernel
theorem dc152_120 : decode (pm_mb 152) 120 = .ok (.bipush 20, 2) := by decide +kernel
theorem dc152_122 : decode (pm_mb 152) 122 = .ok (.invokevirtual 143, 3) := by decide +kernel
theorem dc152_125 : decode (pm_mb 152) 125 = .ok (.istore 4, 2) := by decide +kernel
theorem dc152_127 : decode (pm_mb 152) 127 = .ok (.aload_n 0, 1) := by decide +kernel
theorem dc152_128 : decode (pm_mb 152) 128 = .ok (.invokevirtual 147, 3) := by decide +kernel
theorem dc152_131 : decode (pm_mb 152) 131 = .ok (.aload_n 0, 1) := by decide +kernel
theorem dc152_132 : decode (pm_mb 152) 132 = .ok (.getfield 108, 3) := by decide +kernel
theorem dc152_135 : decode (pm_mb 152) 135 = .ok (.ifCond .ne 66, 3) := by decide +kernel
theorem dc152_138 : decode (pm_mb 152) 138 = .ok (.bipush 9, 2) := by decide +kernel
theorem dc152_140 : decode (pm_mb 152) 140 = .ok (.bipush 6, 2) := by decide +kernel
theorem dc152_142 : decode (pm_mb 152) 142 = .ok (.aload_n 0, 1) := by decide +kernel
theorem dc152_143 : decode (pm_mb 152) 143 = .ok (.getfield 22, 3) := by decide +kernel
theorem dc152_146 : decode (pm_mb 152) 146 = .ok (.iconst 3, 1) := by decide +kernel
theorem dc152_147 : decode (pm_mb 152) 147 = .ok (.iaload, 1) := by decide +kernel
theorem dc152_148 : decode (pm_mb 152) 148 = .ok (.imul, 1) := by decide +kernel
theorem dc152_149 : decode (pm_mb 152) 149 = .ok (.iadd, 1) := by decide +kernel
theorem dc152_150 : decode (pm_mb 152) 150 = .ok (.istore 5, 2) := by decide +kernel
theorem dc152_152 : decode (pm_mb 152) 152 = .ok (.aload_n 0, 1) := by decide +kernel
theorem dc152_153 : decode (pm_mb 152) 153 = .ok (.getfield 22, 3) := by decide +kernel
theorem dc152_156 : decode (pm_mb 152) 156 = .ok (.iload 5, 2) := by decide +kernel
theorem dc152_158 : decode (pm_mb 152) 158 = .ok (.iload_n 1, 1) := by decide +kernel
theorem dc152_159 : decode (pm_mb 152) 159 = .ok (.iastore, 1) := by decide +kernel
theorem dc152_160 : decode (pm_mb 152) 160 = .ok (.aload_n 0, 1) := by decide +kernel
theorem dc152_161 : decode (pm_mb 152) 161 = .ok (.getfield 22, 3) := by decide +kernel
theorem dc152_164 : decode (pm_mb 152) 164 = .ok (.iload 5, 2) := by decide +kernel
theorem dc152_166 : decode (pm_mb 152) 166 = .ok (.iconst 1, 1) := by decide +kernel
theorem dc152_167 : decode (pm_mb 152) 167 = .ok (.iadd, 1) := by decide +kernel
theorem dc152_168 : decode (pm_mb 152) 168 = .ok (.iload_n 2, 1) := by decide +kernel
theorem dc152_169 : decode (pm_mb 152) 169 = .ok (.iastore, 1) := by decide +kernel
theorem dc152_170 : decode (pm_mb 152) 170 = .ok (.aload_n 0, 1) := by decide +kernel
theorem dc152_171 : decode (pm_mb 152) 171 = .ok (.getfield 22, 3) := by decide +kernel
theorem dc152_174 : decode (pm_mb 152) 174 = .ok (.iload 5, 2) := by decide +kernel
theorem dc152_176 : decode (pm_mb 152) 176 = .ok (.iconst 2, 1) := by decide +kernel
theorem dc152_177 : decode (pm_mb 152) 177 = .ok (.iadd, 1) := by decide +kernel
theorem dc152_178 : decode (pm_mb 152) 178 = .ok (.iload_n 3, 1) := by decide +kernel
theorem dc152_179 : decode (pm_mb 152) 179 = .ok (.iastore, 1) := by decide +kernel
theorem dc152_180 : decode (pm_mb 152) 180 = .ok (.aload_n 0, 1) := by decide +kernel
theorem dc152_181 : decode (pm_mb 152) 181 = .ok (.getfield 22, 3) := by decide +kernel
theorem dc152_184 : decode (pm_mb 152) 184 = .ok (.iload 5, 2) := by decide +kernel
theorem dc152_186 : decode (pm_mb 152) 186 = .ok (.iconst 3, 1) := by decide +kernel
theorem dc152_187 : decode (pm_mb 152) 187 = .ok (.iadd, 1) := by decide +kernel
theorem dc152_188 : decode (pm_mb 152) 188 = .ok (.iload 4, 2) := by decide +kernel
theorem dc152_190 : decode (pm_mb 152) 190 = .ok (.iastore, 1) := by decide +kernel
theorem dc152_191 : decode (pm_mb 152) 191 = .ok (.aload_n 0, 1) := by decide +kernel
theorem dc152_192 : decode (pm_mb 152) 192 = .ok (.getfield 22, 3) := by decide +kernel
theorem dc152_195 : decode (pm_mb 152) 195 = .ok (.iconst 3, 1) := by decide +kernel
theorem dc152_196 : decode (pm_mb 152) 196 = .ok (.dup2, 1) := by decide +kernel
theorem dc152_197 : decode (pm_mb 152) 197 = .ok (.iaload, 1) := by decide +kernel
theorem dc152_198 : decode (pm_mb 152) 198 = .ok (.iconst 1, 1) := by decide +kernel
theorem dc152_199 : decode (pm_mb 152) 199 = .ok (.iadd, 1) := by decide +kernel
theorem dc152_200 : decode (pm_mb 152) 200 = .ok (.iastore, 1) := by decide +kernel
theorem dc152_201 : decode (pm_mb 152) 201 = .ok (.return_, 1) := by decide +kernel
theorem b152_0 {X : pm_X} {d : Nat} {g : pm_G} {iv : pm_V} (hL : pm_lay g) : pm_at X d 152 (0, [some (.ref 32), none, none, none, none, none], [], g, iv) = pm_then X d 152 7 [some (.ref 32), none, none, none, none, none] [] (pm_c X d 149 [.ref 32, .int 3, .int 6] g iv) := by
  refine (at_aload_n dc152_0 rfl).trans ?_
  refine (at_iconst (v := 3) dc152_1 rfl).trans ?_
  refine (at_bipush (v := 6) dc152_2 (by decide)).trans ?_
  exact at_inv dc152_4 mc152 lm6_139 rfl rfl (Nat.le_of_ble_eq_true rfl) (Or.inl ⟨(ly32 hL), by decide⟩)
theorem b152_7 {X : pm_X} {d : Nat} {g : pm_G} {iv : pm_V} (hL : pm_lay g) : pm_at X d 152 (7, [some (.ref 32), none, none, none, none, none], [], g, iv) = pm_then X d 152 11 [some (.ref 32), none, none, none, none, none] [] (pm_c X d 144 [.ref 32] g iv) := by
  refine (at_aload_n dc152_7 rfl).trans ?_
  exact at_inv dc152_8 mc152 lm6_150 rfl rfl (Nat.le_of_ble_eq_true rfl) (Or.inl ⟨(ly32 hL), by decide⟩)
theorem b152_11 {X : pm_X} {d : Nat} {s0 : Int64} {g : pm_G} {iv : pm_V}  : pm_at X d 152 (11, [some (.ref 32), none, none, none, none, none], [.long s0], g, iv) = pm_then X d 152 14 [some (.ref 32), none, none, none, none, none] [] (pm_c X d 147 [.long s0] g iv) := by
  exact at_ins dc152_11 mc152 lm6_154 (Nat.le_of_ble_eq_true rfl) rfl rfl (Nat.le_of_ble_eq_true rfl)
theorem b152_14 {X : pm_X} {d : Nat} {s0 : Int32} {g : pm_G} {iv : pm_V} (hL : pm_lay g) : pm_at X d 152 (14, [some (.ref 32), none, none, none, none, none], [.int s0], g, iv) = if ¬ (iv 32 17) = 0 then pm_at X d 152 (37, [some (.ref 32), some (.int s0), none, none, none, none], [], g, iv) else pm_at X d 152 (22, [some (.ref 32), some (.int s0), none, none, none, none], [], g, iv) := by
  refine (at_istore_n dc152_14 rfl).trans ?_
  refine (at_aload_n dc152_15 rfl).trans ?_
  refine (at_gfI dc152_16 mc152 lf6_108 fo6_17 (ly32 hL)).trans ?_
  exact at_if_ne (t := 37) dc152_19 (by decide)
theorem b152_22 {X : pm_X} {d : Nat} {x1 : Int32} {g : pm_G} {iv : pm_V}  : pm_at X d 152 (22, [some (.ref 32), some (.int x1), none, none, none, none], [], g, iv) = if x1 = (-1000000) then pm_at X d 152 (33, [some (.ref 32), some (.int x1), none, none, none, none], [.ref 32], g, iv) else pm_at X d 152 (29, [some (.ref 32), some (.int x1), none, none, none, none], [.ref 32], g, iv) := by
  refine (at_aload_n dc152_22 rfl).trans ?_
  refine (at_iload_n dc152_23 rfl).trans ?_
  refine (at_ldc dc152_24 mc152 lk6_86).trans ?_
  exact at_icmp_eq (t := 33) dc152_26 (by decide)
theorem b152_29 {X : pm_X} {d : Nat} {x1 : Int32} {g : pm_G} {iv : pm_V}  : pm_at X d 152 (29, [some (.ref 32), some (.int x1), none, none, none, none], [.ref 32], g, iv) = pm_at X d 152 (34, [some (.ref 32), some (.int x1), none, none, none, none], [.int 1, .ref 32], g, iv) := by
  refine (at_iconst (v := 1) dc152_29 rfl).trans ?_
  refine (at_goto (t := 34) dc152_30 (by decide)).trans ?_
  rfl
theorem b152_33 {X : pm_X} {d : Nat} {x1 : Int32} {g : pm_G} {iv : pm_V}  : pm_at X d 152 (33, [some (.ref 32), some (.int x1), none, none, none, none], [.ref 32], g, iv) = pm_at X d 152 (34, [some (.ref 32), some (.int x1), none, none, none, none], [.int 0, .ref 32], g, iv) := by
  refine (at_iconst (v := 0) dc152_33 rfl).trans ?_
  rfl
theorem b152_34 {X : pm_X} {d : Nat} {x1 : Int32} {s0 : Int32} {g : pm_G} {iv : pm_V} (hL : pm_lay g) : pm_at X d 152 (34, [some (.ref 32), some (.int x1), none, none, none, none], [.int s0, .ref 32], g, iv) = pm_then X d 152 37 [some (.ref 32), some (.int x1), none, none, none, none] [] (pm_c X d 143 [.ref 32, .int s0] g iv) := by
  exact at_inv dc152_34 mc152 lm6_125 rfl rfl (Nat.le_of_ble_eq_true rfl) (Or.inl ⟨(ly32 hL), by decide⟩)
theorem b152_37 {X : pm_X} {d : Nat} {x1 : Int32} {g : pm_G} {iv : pm_V} (hL : pm_lay g) : pm_at X d 152 (37, [some (.ref 32), some (.int x1), none, none, none, none], [], g, iv) = pm_then X d 152 50 [some (.ref 32), some (.int x1), none, none, none, none] [] (pm_c X d 146 [.ref 32, .int 0, .int ((iv 37 0) - 1)] g iv) := by
  refine (at_aload_n dc152_37 rfl).trans ?_
  refine (at_iconst (v := 0) dc152_38 rfl).trans ?_
  refine (at_aload_n dc152_39 rfl).trans ?_
  refine (at_gfR dc152_40 mc152 lf6_22 fo6_6 (ly32 hL) (lr32_6 hL)).trans ?_
  refine (at_iconst (v := 0) dc152_43 rfl).trans ?_
  refine (at_iald dc152_44 (ly37 hL) (vp_in_nI (n := 0) (by decide) (by decide))).trans ?_
  refine (at_iconst (v := 1) dc152_45 rfl).trans ?_
  refine (at_isub dc152_46).trans ?_
  exact at_inv dc152_47 mc152 lm6_143 rfl rfl (Nat.le_of_ble_eq_true rfl) (Or.inl ⟨(ly32 hL), by decide⟩)
theorem b152_50 {X : pm_X} {d : Nat} {x1 : Int32} {s0 : Int32} {g : pm_G} {iv : pm_V} (hL : pm_lay g) : pm_at X d 152 (50, [some (.ref 32), some (.int x1), none, none, none, none], [.int s0], g, iv) = if ¬ (iv 32 17) = 0 then pm_at X d 152 (104, [some (.ref 32), some (.int x1), some (.int s0), none, none, none], [], g, iv) else pm_at X d 152 (58, [some (.ref 32), some (.int x1), some (.int s0), none, none, none], [], g, iv) := by
  refine (at_istore_n dc152_50 rfl).trans ?_
  refine (at_aload_n dc152_51 rfl).trans ?_
  refine (at_gfI dc152_52 mc152 lf6_108 fo6_17 (ly32 hL)).trans ?_
  exact at_if_ne (t := 104) dc152_55 (by decide)
theorem b152_58 {X : pm_X} {d : Nat} {x1 : Int32} {x2 : Int32} {g : pm_G} {iv : pm_V} (hL : pm_lay g) : pm_at X d 152 (58, [some (.ref 32), some (.int x1), some (.int x2), none, none, none], [], g, iv) = if ¬ (iv 32 14) = 3 then pm_at X d 152 (104, [some (.ref 32), some (.int x1), some (.int x2), none, none, none], [], g, iv) else pm_at X d 152 (66, [some (.ref 32), some (.int x1), some (.int x2), none, none, none], [], g, iv) := by
  refine (at_aload_n dc152_58 rfl).trans ?_
  refine (at_gfI dc152_59 mc152 lf6_96 fo6_14 (ly32 hL)).trans ?_
  refine (at_iconst (v := 3) dc152_62 rfl).trans ?_
  exact at_icmp_ne (t := 104) dc152_63 (by decide)
theorem b152_66 {X : pm_X} {d : Nat} {x1 : Int32} {x2 : Int32} {g : pm_G} {iv : pm_V} (hL : pm_lay g) : pm_at X d 152 (66, [some (.ref 32), some (.int x1), some (.int x2), none, none, none], [], g, iv) = pm_then X d 152 70 [some (.ref 32), some (.int x1), some (.int x2), none, none, none] [] (pm_c X d 145 [.ref 32] g iv) := by
  refine (at_aload_n dc152_66 rfl).trans ?_
  exact at_inv dc152_67 mc152 lm6_121 rfl rfl (Nat.le_of_ble_eq_true rfl) (Or.inl ⟨(ly32 hL), by decide⟩)
theorem b152_70 {X : pm_X} {d : Nat} {x1 : Int32} {x2 : Int32} {s0 : Int32} {g : pm_G} {iv : pm_V} (hL : pm_lay g) : pm_at X d 152 (70, [some (.ref 32), some (.int x1), some (.int x2), none, none, none], [.int s0], g, iv) = pm_then X d 152 84 [some (.ref 32), some (.int x1), some (.int x2), none, none, none] [] (pm_c X d 129 [.long (s0 : Int32).toInt64, .long 0, .long (((iv 37 1) - 1) : Int32).toInt64] g iv) := by
  refine (at_i2l dc152_70).trans ?_
  refine (at_lconst (v := 0) dc152_71 (by decide)).trans ?_
  refine (at_aload_n dc152_72 rfl).trans ?_
  refine (at_gfR dc152_73 mc152 lf6_22 fo6_6 (ly32 hL) (lr32_6 hL)).trans ?_
  refine (at_iconst (v := 1) dc152_76 rfl).trans ?_
  refine (at_iald dc152_77 (ly37 hL) (vp_in_nI (n := 1) (by decide) (by decide))).trans ?_
  refine (at_iconst (v := 1) dc152_78 rfl).trans ?_
  refine (at_isub dc152_79).trans ?_
  refine (at_i2l dc152_80).trans ?_
  exact at_ins dc152_81 mc152 lm6_60 (Nat.le_of_ble_eq_true rfl) rfl rfl (Nat.le_of_ble_eq_true rfl)
theorem b152_84 {X : pm_X} {d : Nat} {x1 : Int32} {x2 : Int32} {s0 : Int32} {g : pm_G} {iv : pm_V}  : pm_at X d 152 (84, [some (.ref 32), some (.int x1), some (.int x2), none, none, none], [.int s0], g, iv) = if s0 = 0 then pm_at X d 152 (104, [some (.ref 32), some (.int x1), some (.int x2), none, none, none], [], g, iv) else pm_at X d 152 (87, [some (.ref 32), some (.int x1), some (.int x2), none, none, none], [], g, iv) := by
  exact at_if_eq (t := 104) dc152_84 (by decide)
theorem b152_87 {X : pm_X} {d : Nat} {x1 : Int32} {x2 : Int32} {g : pm_G} {iv : pm_V} (hL : pm_lay g) : pm_at X d 152 (87, [some (.ref 32), some (.int x1), some (.int x2), none, none, none], [], g, iv) = pm_then X d 152 93 [some (.ref 32), some (.int x1), some (.int x2), none, none, none] [.int x2, .ref 32] (pm_c X d 145 [.ref 32] g iv) := by
  refine (at_aload_n dc152_87 rfl).trans ?_
  refine (at_iload_n dc152_88 rfl).trans ?_
  refine (at_aload_n dc152_89 rfl).trans ?_
  exact at_inv dc152_90 mc152 lm6_121 rfl rfl (Nat.le_of_ble_eq_true rfl) (Or.inl ⟨(ly32 hL), by decide⟩)
theorem b152_93 {X : pm_X} {d : Nat} {x1 : Int32} {x2 : Int32} {s0 : Int32} {s1 : Int32} {g : pm_G} {iv : pm_V} (hL : pm_lay g) : pm_at X d 152 (93, [some (.ref 32), some (.int x1), some (.int x2), none, none, none], [.int s0, .int s1, .ref 32], g, iv) = pm_then X d 152 96 [some (.ref 32), some (.int x1), some (.int x2), none, none, none] [] (pm_c X d 151 [.ref 32, .int s1, .int s0] g iv) := by
  exact at_inv dc152_93 mc152 lm6_158 rfl rfl (Nat.le_of_ble_eq_true rfl) (Or.inl ⟨(ly32 hL), by decide⟩)
theorem b152_96 {X : pm_X} {d : Nat} {x1 : Int32} {x2 : Int32} {s0 : Int32} {g : pm_G} {iv : pm_V}  : pm_at X d 152 (96, [some (.ref 32), some (.int x1), some (.int x2), none, none, none], [.int s0], g, iv) = if s0 = 0 then pm_at X d 152 (104, [some (.ref 32), some (.int x1), some (.int x2), none, none, none], [], g, iv) else pm_at X d 152 (99, [some (.ref 32), some (.int x1), some (.int x2), none, none, none], [], g, iv) := by
  exact at_if_eq (t := 104) dc152_96 (by decide)
theorem b152_99 {X : pm_X} {d : Nat} {x1 : Int32} {x2 : Int32} {g : pm_G} {iv : pm_V} (hL : pm_lay g) : pm_at X d 152 (99, [some (.ref 32), some (.int x1), some (.int x2), none, none, none], [], g, iv) = pm_then X d 152 104 [some (.ref 32), some (.int x1), some (.int x2), none, none, none] [] (pm_c X d 142 [.ref 32, .int 2] g iv) := by
  refine (at_aload_n dc152_99 rfl).trans ?_
  refine (at_iconst (v := 2) dc152_100 rfl).trans ?_
  exact at_inv dc152_101 mc152 lm6_117 rfl rfl (Nat.le_of_ble_eq_true rfl) (Or.inl ⟨(ly32 hL), by decide⟩)
theorem b152_104 {X : pm_X} {d : Nat} {x1 : Int32} {x2 : Int32} {g : pm_G} {iv : pm_V} (hL : pm_lay g) : pm_at X d 152 (104, [some (.ref 32), some (.int x1), some (.int x2), none, none, none], [], g, iv) = pm_then X d 152 117 [some (.ref 32), some (.int x1), some (.int x2), none, none, none] [] (pm_c X d 146 [.ref 32, .int 0, .int ((iv 37 1) - 1)] g iv) := by
  refine (at_aload_n dc152_104 rfl).trans ?_
  refine (at_iconst (v := 0) dc152_105 rfl).trans ?_
  refine (at_aload_n dc152_106 rfl).trans ?_
  refine (at_gfR dc152_107 mc152 lf6_22 fo6_6 (ly32 hL) (lr32_6 hL)).trans ?_
  refine (at_iconst (v := 1) dc152_110 rfl).trans ?_
  refine (at_iald dc152_111 (ly37 hL) (vp_in_nI (n := 1) (by decide) (by decide))).trans ?_
  refine (at_iconst (v := 1) dc152_112 rfl).trans ?_
  refine (at_isub dc152_113).trans ?_
  exact at_inv dc152_114 mc152 lm6_143 rfl rfl (Nat.le_of_ble_eq_true rfl) (Or.inl ⟨(ly32 hL), by decide⟩)
theorem b152_117 {X : pm_X} {d : Nat} {x1 : Int32} {x2 : Int32} {s0 : Int32} {g : pm_G} {iv : pm_V} (hL : pm_lay g) : pm_at X d 152 (117, [some (.ref 32), some (.int x1), some (.int x2), none, none, none], [.int s0], g, iv) = pm_then X d 152 125 [some (.ref 32), some (.int x1), some (.int x2), some (.int s0), none, none] [] (pm_c X d 146 [.ref 32, .int 1, .int 20] g iv) := by
  refine (at_istore_n dc152_117 rfl).trans ?_
  refine (at_aload_n dc152_118 rfl).trans ?_
  refine (at_iconst (v := 1) dc152_119 rfl).trans ?_
  refine (at_bipush (v := 20) dc152_120 (by decide)).trans ?_
  exact at_inv dc152_122 mc152 lm6_143 rfl rfl (Nat.le_of_ble_eq_true rfl) (Or.inl ⟨(ly32 hL), by decide⟩)
theorem b152_125 {X : pm_X} {d : Nat} {x1 : Int32} {x2 : Int32} {x3 : Int32} {s0 : Int32} {g : pm_G} {iv : pm_V} (hL : pm_lay g) : pm_at X d 152 (125, [some (.ref 32), some (.int x1), some (.int x2), some (.int x3), none, none], [.int s0], g, iv) = pm_then X d 152 131 [some (.ref 32), some (.int x1), some (.int x2), some (.int x3), some (.int s0), none] [] (pm_c X d 148 [.ref 32] g iv) := by
  refine (at_istore dc152_125 rfl).trans ?_
  refine (at_aload_n dc152_127 rfl).trans ?_
  exact at_inv dc152_128 mc152 lm6_147 rfl rfl (Nat.le_of_ble_eq_true rfl) (Or.inl ⟨(ly32 hL), by decide⟩)
theorem b152_131 {X : pm_X} {d : Nat} {x1 : Int32} {x2 : Int32} {x3 : Int32} {x4 : Int32} {g : pm_G} {iv : pm_V} (hL : pm_lay g) : pm_at X d 152 (131, [some (.ref 32), some (.int x1), some (.int x2), some (.int x3), some (.int x4), none], [], g, iv) = if ¬ (iv 32 17) = 0 then pm_at X d 152 (201, [some (.ref 32), some (.int x1), some (.int x2), some (.int x3), some (.int x4), none], [], g, iv) else pm_at X d 152 (138, [some (.ref 32), some (.int x1), some (.int x2), some (.int x3), some (.int x4), none], [], g, iv) := by
  refine (at_aload_n dc152_131 rfl).trans ?_
  refine (at_gfI dc152_132 mc152 lf6_108 fo6_17 (ly32 hL)).trans ?_
  exact at_if_ne (t := 201) dc152_135 (by decide)
theorem b152_138 {X : pm_X} {d : Nat} {x1 : Int32} {x2 : Int32} {x3 : Int32} {x4 : Int32} {g : pm_G} {iv : pm_V} (hL : pm_lay g) (i1 : vp_in ((9 + (6 * (iv 37 3)))) 45) (i2 : vp_in (((9 + (6 * (iv 37 3))) + 1)) 45) (i3 : vp_in (((9 + (6 * (iv 37 3))) + 2)) 45) (i4 : vp_in (((9 + (6 * (iv 37 3))) + 3)) 45) : pm_at X d 152 (138, [some (.ref 32), some (.int x1), some (.int x2), some (.int x3), some (.int x4), none], [], g, iv) = pm_at X d 152 (201, [some (.ref 32), some (.int x1), some (.int x2), some (.int x3), some (.int x4), some (.int (9 + (6 * (iv 37 3))))], [], g, (pm_iw (pm_iw (pm_iw (pm_iw (pm_iw iv 37 ((9 + (6 * (iv 37 3))) : Int32).toNatClampNeg x1) 37 (((9 + (6 * (iv 37 3))) + 1) : Int32).toNatClampNeg x2) 37 (((9 + (6 * (iv 37 3))) + 2) : Int32).toNatClampNeg x3) 37 (((9 + (6 * (iv 37 3))) + 3) : Int32).toNatClampNeg x4) 37 3 ((((pm_iw (pm_iw (pm_iw (pm_iw iv 37 ((9 + (6 * (iv 37 3))) : Int32).toNatClampNeg x1) 37 (((9 + (6 * (iv 37 3))) + 1) : Int32).toNatClampNeg x2) 37 (((9 + (6 * (iv 37 3))) + 2) : Int32).toNatClampNeg x3) 37 (((9 + (6 * (iv 37 3))) + 3) : Int32).toNatClampNeg x4) 37 3) + 1)))) := by
  refine (at_bipush (v := 9) dc152_138 (by decide)).trans ?_
  refine (at_bipush (v := 6) dc152_140 (by decide)).trans ?_
  refine (at_aload_n dc152_142 rfl).trans ?_
  refine (at_gfR dc152_143 mc152 lf6_22 fo6_6 (ly32 hL) (lr32_6 hL)).trans ?_
  refine (at_iconst (v := 3) dc152_146 rfl).trans ?_
  refine (at_iald dc152_147 (ly37 hL) (vp_in_nI (n := 3) (by decide) (by decide))).trans ?_
  refine (at_imul dc152_148).trans ?_
  refine (at_iadd dc152_149).trans ?_
  refine (at_istore dc152_150 rfl).trans ?_
  refine (at_aload_n dc152_152 rfl).trans ?_
  refine (at_gfR dc152_153 mc152 lf6_22 fo6_6 (ly32 hL) (lr32_6 hL)).trans ?_
  refine (at_iload dc152_156 rfl).trans ?_
  refine (at_iload_n dc152_158 rfl).trans ?_
  refine (at_iast dc152_159 (ly37 hL) i1).trans ?_
  refine (at_aload_n dc152_160 rfl).trans ?_
  refine (at_gfR dc152_161 mc152 lf6_22 fo6_6 (ly32 hL) (lr32_6 hL)).trans ?_
  refine (at_iload dc152_164 rfl).trans ?_
  refine (at_iconst (v := 1) dc152_166 rfl).trans ?_
  refine (at_iadd dc152_167).trans ?_
  refine (at_iload_n dc152_168 rfl).trans ?_
  refine (at_iast dc152_169 (ly37 hL) i2).trans ?_
  refine (at_aload_n dc152_170 rfl).trans ?_
  refine (at_gfR dc152_171 mc152 lf6_22 fo6_6 (ly32 hL) (lr32_6 hL)).trans ?_
  refine (at_iload dc152_174 rfl).trans ?_
  refine (at_iconst (v := 2) dc152_176 rfl).trans ?_
  refine (at_iadd dc152_177).trans ?_
  refine (at_iload_n dc152_178 rfl).trans ?_
  refine (at_iast dc152_179 (ly37 hL) i3).trans ?_
  refine (at_aload_n dc152_180 rfl).trans ?_
  refine (at_gfR dc152_181 mc152 lf6_22 fo6_6 (ly32 hL) (lr32_6 hL)).trans ?_
  refine (at_iload dc152_184 rfl).trans ?_
  refine (at_iconst (v := 3) dc152_186 rfl).trans ?_
  refine (at_iadd dc152_187).trans ?_
  refine (at_iload dc152_188 rfl).trans ?_
  refine (at_iast dc152_190 (ly37 hL) i4).trans ?_
  refine (at_aload_n dc152_191 rfl).trans ?_
  refine (at_gfR dc152_192 mc152 lf6_22 fo6_6 (ly32 hL) (lr32_6 hL)).trans ?_
  refine (at_iconst (v := 3) dc152_195 rfl).trans ?_
  refine (at_dup2 dc152_196 ⟨rfl, rfl⟩).trans ?_
  refine (at_iald dc152_197 (ly37 hL) (vp_in_nI (n := 3) (by decide) (by decide))).trans ?_
  refine (at_iconst (v := 1) dc152_198 rfl).trans ?_
  refine (at_iadd dc152_199).trans ?_
  refine (at_iast dc152_200 (ly37 hL) (vp_in_nI (n := 3) (by decide) (by decide))).trans ?_
  rfl
theorem b152_201 {X : pm_X} {d : Nat} {x1 : Int32} {x2 : Int32} {x3 : Int32} {x4 : Int32} {z5 : Option Value} {g : pm_G} {iv : pm_V}  : pm_at X d 152 (201, [some (.ref 32), some (.int x1), some (.int x2), some (.int x3), some (.int x4), z5], [], g, iv) = some (none, g, iv) := by
  exact at_vret dc152_201 mr152
-- Mod.hill ()I
theorem dc153_0 : decode (pm_mb 153) 0 = .ok (.aload_n 0, 1) := by decide +kernel
theorem dc153_1 : decode (pm_mb 153) 1 = .ok (.iconst 0, 1) := by decide +kernel
theorem dc153_2 : decode (pm_mb 153) 2 = .ok (.putfield 50, 3) := by decide +kernel
theorem dc153_5 : decode (pm_mb 153) 5 = .ok (.aload_n 0, 1) := by decide +kernel
theorem dc153_6 : decode (pm_mb 153) 6 = .ok (.invokevirtual 162, 3) := by decide +kernel
theorem dc153_9 : decode (pm_mb 153) 9 = .ok (.iconst 0, 1) := by decide +kernel
theorem dc153_10 : decode (pm_mb 153) 10 = .ok (.istore_n 1, 1) := by decide +kernel
theorem dc153_11 : decode (pm_mb 153) 11 = .ok (.iload_n 1, 1) := by decide +kernel
theorem dc153_12 : decode (pm_mb 153) 12 = .ok (.bipush 45, 2) := by decide +kernel
theorem dc153_14 : decode (pm_mb 153) 14 = .ok (.if_icmp .ge 16, 3) := by decide +kernel
theorem dc153_17 : decode (pm_mb 153) 17 = .ok (.aload_n 0, 1) := by decide +kernel
theorem dc153_18 : decode (pm_mb 153) 18 = .ok (.getfield 22, 3) := by decide +kernel
theorem dc153_21 : decode (pm_mb 153) 21 = .ok (.iload_n 1, 1) := by decide +kernel
theorem dc153_22 : decode (pm_mb 153) 22 = .ok (.iconst 0, 1) := by decide +kernel
theorem dc153_23 : decode (pm_mb 153) 23 = .ok (.iastore, 1) := by decide +kernel
theorem dc153_24 : decode (pm_mb 153) 24 = .ok (.iinc 1 1, 3) := by decide +kernel
theorem dc153_27 : decode (pm_mb 153) 27 = .ok (.goto (-16), 3) := by decide +kernel
theorem dc153_30 : decode (pm_mb 153) 30 = .ok (.aload_n 0, 1) := by decide +kernel
theorem dc153_31 : decode (pm_mb 153) 31 = .ok (.aload_n 0, 1) := by decide +kernel
theorem dc153_32 : decode (pm_mb 153) 32 = .ok (.invokevirtual 150, 3) := by decide +kernel
theorem dc153_35 : decode (pm_mb 153) 35 = .ok (.ldc2_w 165, 3) := by decide +kernel
theorem dc153_38 : decode (pm_mb 153) 38 = .ok (.lcmp, 1) := by decide +kernel
theorem dc153_39 : decode (pm_mb 153) 39 = .ok (.ifCond .ne 7, 3) := by decide +kernel
theorem dc153_42 : decode (pm_mb 153) 42 = .ok (.iconst 1, 1) := by decide +kernel
theorem dc153_43 : decode (pm_mb 153) 43 = .ok (.goto 4, 3) := by decide +kernel
theorem dc153_46 : decode (pm_mb 153) 46 = .ok (.iconst 0, 1) := by decide +kernel
theorem dc153_47 : decode (pm_mb 153) 47 = .ok (.invokevirtual 125, 3) := by decide +kernel
theorem dc153_50 : decode (pm_mb 153) 50 = .ok (.aload_n 0, 1) := by decide +kernel
theorem dc153_51 : decode (pm_mb 153) 51 = .ok (.getfield 22, 3) := by decide +kernel
theorem dc153_54 : decode (pm_mb 153) 54 = .ok (.iconst 0, 1) := by decide +kernel
theorem dc153_55 : decode (pm_mb 153) 55 = .ok (.aload_n 0, 1) := by decide +kernel
theorem dc153_56 : decode (pm_mb 153) 56 = .ok (.iconst 1, 1) := by decide +kernel
theorem dc153_57 : decode (pm_mb 153) 57 = .ok (.iconst 4, 1) := by decide +kernel
theorem dc153_58 : decode (pm_mb 153) 58 = .ok (.invokevirtual 143, 3) := by decide +kernel
theorem dc153_61 : decode (pm_mb 153) 61 = .ok (.iastore, 1) := by decide +kernel
theorem dc153_62 : decode (pm_mb 153) 62 = .ok (.aload_n 0, 1) := by decide +kernel
theorem dc153_63 : decode (pm_mb 153) 63 = .ok (.getfield 22, 3) := by decide +kernel
theorem dc153_66 : decode (pm_mb 153) 66 = .ok (.iconst 1, 1) := by decide +kernel
theorem dc153_67 : decode (pm_mb 153) 67 = .ok (.aload_n 0, 1) := by decide +kernel
theorem dc153_68 : decode (pm_mb 153) 68 = .ok (.iconst 4, 1) := by decide +kernel
theorem dc153_69 : decode (pm_mb 153) 69 = .ok (.bipush 20, 2) := by decide +kernel
theorem dc153_71 : decode (pm_mb 153) 71 = .ok (.invokevirtual 143, 3) := by decide +kernel
theorem dc153_74 : decode (pm_mb 153) 74 = .ok (.iastore, 1) := by decide +kernel
theorem dc153_75 : decode (pm_mb 153) 75 = .ok (.aload_n 0, 1) := by decide +kernel
theorem dc153_76 : decode (pm_mb 153) 76 = .ok (.invokevirtual 147, 3) := by decide +kernel
theorem dc153_79 : decode (pm_mb 153) 79 = .ok (.aload_n 0, 1) := by decide +kernel
theorem dc153_80 : decode (pm_mb 153) 80 = .ok (.invokevirtual 150, 3) := by decide +kernel
theorem dc153_83 : decode (pm_mb 153) 83 = .ok (.ldc2_w 167, 3) := by decide +kernel
theorem dc153_86 : decode (pm_mb 153) 86 = .ok (.lcmp, 1) := by decide +kernel
theorem dc153_87 : decode (pm_mb 153) 87 = .ok (.ifCond .ne 10, 3) := by decide +kernel
theorem dc153_90 : decode (pm_mb 153) 90 = .ok (.aload_n 0, 1) := by decide +kernel
theorem dc153_91 : decode (pm_mb 153) 91 = .ok (.invokevirtual 169, 3) := by decide +kernel
theorem dc153_94 : decode (pm_mb 153) 94 = .ok (.goto (-15), 3) := by decide +kernel
theorem dc153_97 : decode (pm_mb 153) 97 = .ok (.aload_n 0, 1) := by decide +kernel
theorem dc153_98 : decode (pm_mb 153) 98 = .ok (.invokevirtual 150, 3) := by decide +kernel
theorem dc153_101 : decode (pm_mb 153) 101 = .ok (.ldc2_w 172, 3) := by decide +kernel
theorem dc153_104 : decode (pm_mb 153) 104 = .ok (.lcmp, 1) := by decide +kernel
theorem dc153_105 : decode (pm_mb 153) 105 = .ok (.ifCond .ne 10, 3) := by decide +kernel
theorem dc153_108 : decode (pm_mb 153) 108 = .ok (.aload_n 0, 1) := by decide +kernel
theorem dc153_109 : decode (pm_mb 153) 109 = .ok (.invokevirtual 174, 3) := by decide +kernel
theorem dc153_112 : decode (pm_mb 153) 112 = .ok (.goto (-15), 3) := by decide +kernel
theorem dc153_115 : decode (pm_mb 153) 115 = .ok (.aload_n 0, 1) := by decide +kernel
theorem dc153_116 : decode (pm_mb 153) 116 = .ok (.getfield 108, 3) := by decide +kernel
theorem dc153_119 : decode (pm_mb 153) 119 = .ok (.ifCond .ne 16, 3) := by decide +kernel
theorem dc153_122 : decode (pm_mb 153) 122 = .ok (.aload_n 0, 1) := by decide +kernel
theorem dc153_123 : decode (pm_mb 153) 123 = .ok (.getfield 96, 3) := by decide +kernel
theorem dc153_126 : decode (pm_mb 153) 126 = .ok (.iconst 1, 1) := by decide +kernel
theorem dc153_127 : decode (pm_mb 153) 127 = .ok (.if_icmp .eq 8, 3) := by decide +kernel
theorem dc153_130 : decode (pm_mb 153) 130 = .ok (.aload_n 0, 1) := by decide +kernel
theorem dc153_131 : decode (pm_mb 153) 131 = .ok (.iconst 1, 1) := by decide +kernel
theorem dc153_132 : decode (pm_mb 153) 132 = .ok (.invokevirtual 117, 3) := by decide +kernel
theorem dc153_135 : decode (pm_mb 153) 135 = .ok (.aload_n 0, 1) := by decide +kernel
theorem dc153_136 : decode (pm_mb 153) 136 = .ok (.getfield 108, 3) := by decide +kernel
theorem dc153_139 : decode (pm_mb 153) 139 = .ok (.ifCond .le 19, 3) := by decide +kernel
theorem dc153_142 : decode (pm_mb 153) 142 = .ok (.aload_n 0, 1) := by decide +kernel
theorem dc153_143 : decode (pm_mb 153) 143 = .ok (.aload_n 0, 1) := by decide +kernel
theorem dc153_144 : decode (pm_mb 153) 144 = .ok (.getfield 108, 3) := by decide +kernel
theorem dc153_147 : decode (pm_mb 153) 147 = .ok (.putfield 177, 3) := by decide +kernel
theorem dc153_150 : decode (pm_mb 153) 150 = .ok (.ldc 180, 2) := by decide +kernel
theorem dc153_152 : decode (pm_mb 153) 152 = .ok (.aload_n 0, 1) := by decide +kernel
theorem dc153_153 : decode (pm_mb 153) 153 = .ok (.getfield 114, 3) := by decide +kernel
theorem dc153_156 : decode (pm_mb 153) 156 = .ok (.isub, 1) := by decide +kernel
theorem dc153_157 : decode (pm_mb 153) 157 = .ok (.ireturn, 1) := by decide +kernel
theorem dc153_158 : decode (pm_mb 153) 158 = .ok (.aload_n 0, 1) := by decide +kernel
theorem dc153_159 : decode (pm_mb 153) 159 = .ok (.iconst 0, 1) := by decide +kernel
theorem dc153_160 : decode (pm_mb 153) 160 = .ok (.putfield 181, 3) := by decide +kernel
theorem dc153_163 : decode (pm_mb 153) 163 = .ok (.iconst 0, 1) := by decide +kernel
theorem dc153_164 : decode (pm_mb 153) 164 = .ok (.istore_n 1, 1) := by decide +kernel
theorem dc153_165 : decode (pm_mb 153) 165 = .ok (.iload_n 1, 1) := by decide +kernel
theorem dc153_166 : decode (pm_mb 153) 166 = .ok (.bipush 45, 2) := by decide +kernel
theorem dc153_168 : decode (pm_mb 153) 168 = .ok (.if_icmp .ge 21, 3) := by decide +kernel
theorem dc153_171 : decode (pm_mb 153) 171 = .ok (.aload_n 0, 1) := by decide +kernel
theorem dc153_172 : decode (pm_mb 153) 172 = .ok (.getfield 19, 3) := by decide +kernel
theorem dc153_175 : decode (pm_mb 153) 175 = .ok (.iload_n 1, 1) := by decide +kernel
theorem dc153_176 : decode (pm_mb 153) 176 = .ok (.aload_n 0, 1) := by decide +kernel
theorem dc153_177 : decode (pm_mb 153) 177 = .ok (.getfield 22, 3) := by decide +kernel
theorem dc153_180 : decode (pm_mb 153) 180 = .ok (.iload_n 1, 1) := by decide +kernel
theorem dc153_181 : decode (pm_mb 153) 181 = .ok (.iaload, 1) := by decide +kernel
theorem dc153_182 : decode (pm_mb 153) 182 = .ok (.iastore, 1) := by decide +kernel
theorem dc153_183 : decode (pm_mb 153) 183 = .ok (.iinc 1 1, 3) := by decide +kernel
theorem dc153_186 : decode (pm_mb 153) 186 = .ok (.goto (-21), 3) := by decide +kernel
theorem dc153_189 : decode (pm_mb 153) 189 = .ok (.aload_n 0, 1) := by decide +kernel
theorem dc153_190 : decode (pm_mb 153) 190 = .ok (.getfield 19, 3) := by decide +kernel
theorem dc153_193 : decode (pm_mb 153) 193 = .ok (.iconst 3, 1) := by decide +kernel
theorem dc153_194 : decode (pm_mb 153) 194 = .ok (.iaload, 1) := by decide +kernel
theorem dc153_195 : decode (pm_mb 153) 195 = .ok (.ireturn, 1) := by decide +kernel
theorem b153_0 {X : pm_X} {d : Nat} {g : pm_G} {iv : pm_V} (hL : pm_lay g) : pm_at X d 153 (0, [some (.ref 32), none], [], g, iv) = pm_then X d 153 9 [some (.ref 32), none] [] (pm_c X d 141 [.ref 32] g (pm_iw iv 32 0 0)) := by
  refine (at_aload_n dc153_0 rfl).trans ?_
  refine (at_iconst (v := 0) dc153_1 rfl).trans ?_
  refine (at_pfI dc153_2 mc153 lf6_50 po6_0 (ly32 hL)).trans ?_
  refine (at_aload_n dc153_5 rfl).trans ?_
  exact at_inv dc153_6 mc153 lm6_162 rfl rfl (Nat.le_of_ble_eq_true rfl) (Or.inl ⟨(ly32 hL), by decide⟩)
theorem b153_9 {X : pm_X} {d : Nat} {g : pm_G} {iv : pm_V}  : pm_at X d 153 (9, [some (.ref 32), none], [], g, iv) = pm_at X d 153 (11, [some (.ref 32), some (.int 0)], [], g, iv) := by
  refine (at_iconst (v := 0) dc153_9 rfl).trans ?_
  refine (at_istore_n dc153_10 rfl).trans ?_
  rfl
theorem b153_11 {X : pm_X} {d : Nat} {x1 : Int32} {g : pm_G} {iv : pm_V}  : pm_at X d 153 (11, [some (.ref 32), some (.int x1)], [], g, iv) = if 45 ≤ x1 then pm_at X d 153 (30, [some (.ref 32), some (.int x1)], [], g, iv) else pm_at X d 153 (17, [some (.ref 32), some (.int x1)], [], g, iv) := by
  refine (at_iload_n dc153_11 rfl).trans ?_
  refine (at_bipush (v := 45) dc153_12 (by decide)).trans ?_
  exact at_icmp_ge (t := 30) dc153_14 (by decide)
theorem b153_17 {X : pm_X} {d : Nat} {x1 : Int32} {g : pm_G} {iv : pm_V} (hL : pm_lay g) (i1 : vp_in x1 45) : pm_at X d 153 (17, [some (.ref 32), some (.int x1)], [], g, iv) = pm_at X d 153 (11, [some (.ref 32), some (.int (x1 + 1))], [], g, (pm_iw iv 37 (x1 : Int32).toNatClampNeg 0)) := by
  refine (at_aload_n dc153_17 rfl).trans ?_
  refine (at_gfR dc153_18 mc153 lf6_22 fo6_6 (ly32 hL) (lr32_6 hL)).trans ?_
  refine (at_iload_n dc153_21 rfl).trans ?_
  refine (at_iconst (v := 0) dc153_22 rfl).trans ?_
  refine (at_iast dc153_23 (ly37 hL) i1).trans ?_
  refine (at_iinc (v := 1) dc153_24 rfl (by decide) rfl).trans ?_
  refine (at_goto (t := 11) dc153_27 (by decide)).trans ?_
  rfl
theorem b153_30 {X : pm_X} {d : Nat} {x1 : Int32} {g : pm_G} {iv : pm_V} (hL : pm_lay g) : pm_at X d 153 (30, [some (.ref 32), some (.int x1)], [], g, iv) = pm_then X d 153 35 [some (.ref 32), some (.int x1)] [.ref 32] (pm_c X d 144 [.ref 32] g iv) := by
  refine (at_aload_n dc153_30 rfl).trans ?_
  refine (at_aload_n dc153_31 rfl).trans ?_
  exact at_inv dc153_32 mc153 lm6_150 rfl rfl (Nat.le_of_ble_eq_true rfl) (Or.inl ⟨(ly32 hL), by decide⟩)
theorem b153_35 {X : pm_X} {d : Nat} {x1 : Int32} {s0 : Int64} {g : pm_G} {iv : pm_V}  : pm_at X d 153 (35, [some (.ref 32), some (.int x1)], [.long s0, .ref 32], g, iv) = if ¬ (lg_cmp s0 495740481637) = 0 then pm_at X d 153 (46, [some (.ref 32), some (.int x1)], [.ref 32], g, iv) else pm_at X d 153 (42, [some (.ref 32), some (.int x1)], [.ref 32], g, iv) := by
  refine (at_ldc2 dc153_35 mc153 ll6_165).trans ?_
  refine (at_lcmp dc153_38).trans ?_
  exact at_if_ne (t := 46) dc153_39 (by decide)
theorem b153_42 {X : pm_X} {d : Nat} {x1 : Int32} {g : pm_G} {iv : pm_V}  : pm_at X d 153 (42, [some (.ref 32), some (.int x1)], [.ref 32], g, iv) = pm_at X d 153 (47, [some (.ref 32), some (.int x1)], [.int 1, .ref 32], g, iv) := by
  refine (at_iconst (v := 1) dc153_42 rfl).trans ?_
  refine (at_goto (t := 47) dc153_43 (by decide)).trans ?_
  rfl
theorem b153_46 {X : pm_X} {d : Nat} {x1 : Int32} {g : pm_G} {iv : pm_V}  : pm_at X d 153 (46, [some (.ref 32), some (.int x1)], [.ref 32], g, iv) = pm_at X d 153 (47, [some (.ref 32), some (.int x1)], [.int 0, .ref 32], g, iv) := by
  refine (at_iconst (v := 0) dc153_46 rfl).trans ?_
  rfl
theorem b153_47 {X : pm_X} {d : Nat} {x1 : Int32} {s0 : Int32} {g : pm_G} {iv : pm_V} (hL : pm_lay g) : pm_at X d 153 (47, [some (.ref 32), some (.int x1)], [.int s0, .ref 32], g, iv) = pm_then X d 153 50 [some (.ref 32), some (.int x1)] [] (pm_c X d 143 [.ref 32, .int s0] g iv) := by
  exact at_inv dc153_47 mc153 lm6_125 rfl rfl (Nat.le_of_ble_eq_true rfl) (Or.inl ⟨(ly32 hL), by decide⟩)
theorem b153_50 {X : pm_X} {d : Nat} {x1 : Int32} {g : pm_G} {iv : pm_V} (hL : pm_lay g) : pm_at X d 153 (50, [some (.ref 32), some (.int x1)], [], g, iv) = pm_then X d 153 61 [some (.ref 32), some (.int x1)] [.int 0, .ref 37] (pm_c X d 146 [.ref 32, .int 1, .int 4] g iv) := by
  refine (at_aload_n dc153_50 rfl).trans ?_
  refine (at_gfR dc153_51 mc153 lf6_22 fo6_6 (ly32 hL) (lr32_6 hL)).trans ?_
  refine (at_iconst (v := 0) dc153_54 rfl).trans ?_
  refine (at_aload_n dc153_55 rfl).trans ?_
  refine (at_iconst (v := 1) dc153_56 rfl).trans ?_
  refine (at_iconst (v := 4) dc153_57 rfl).trans ?_
  exact at_inv dc153_58 mc153 lm6_143 rfl rfl (Nat.le_of_ble_eq_true rfl) (Or.inl ⟨(ly32 hL), by decide⟩)
theorem b153_61 {X : pm_X} {d : Nat} {x1 : Int32} {s0 : Int32} {s1 : Int32} {g : pm_G} {iv : pm_V} (hL : pm_lay g) (i1 : vp_in s1 45) : pm_at X d 153 (61, [some (.ref 32), some (.int x1)], [.int s0, .int s1, .ref 37], g, iv) = pm_then X d 153 74 [some (.ref 32), some (.int x1)] [.int 1, .ref 37] (pm_c X d 146 [.ref 32, .int 4, .int 20] g (pm_iw iv 37 (s1 : Int32).toNatClampNeg s0)) := by
  refine (at_iast dc153_61 (ly37 hL) i1).trans ?_
  refine (at_aload_n dc153_62 rfl).trans ?_
  refine (at_gfR dc153_63 mc153 lf6_22 fo6_6 (ly32 hL) (lr32_6 hL)).trans ?_
  refine (at_iconst (v := 1) dc153_66 rfl).trans ?_
  refine (at_aload_n dc153_67 rfl).trans ?_
  refine (at_iconst (v := 4) dc153_68 rfl).trans ?_
  refine (at_bipush (v := 20) dc153_69 (by decide)).trans ?_
  exact at_inv dc153_71 mc153 lm6_143 rfl rfl (Nat.le_of_ble_eq_true rfl) (Or.inl ⟨(ly32 hL), by decide⟩)
theorem b153_74 {X : pm_X} {d : Nat} {x1 : Int32} {s0 : Int32} {s1 : Int32} {g : pm_G} {iv : pm_V} (hL : pm_lay g) (i1 : vp_in s1 45) : pm_at X d 153 (74, [some (.ref 32), some (.int x1)], [.int s0, .int s1, .ref 37], g, iv) = pm_then X d 153 79 [some (.ref 32), some (.int x1)] [] (pm_c X d 148 [.ref 32] g (pm_iw iv 37 (s1 : Int32).toNatClampNeg s0)) := by
  refine (at_iast dc153_74 (ly37 hL) i1).trans ?_
  refine (at_aload_n dc153_75 rfl).trans ?_
  exact at_inv dc153_76 mc153 lm6_147 rfl rfl (Nat.le_of_ble_eq_true rfl) (Or.inl ⟨(ly32 hL), by decide⟩)
theorem b153_79 {X : pm_X} {d : Nat} {x1 : Int32} {g : pm_G} {iv : pm_V} (hL : pm_lay g) : pm_at X d 153 (79, [some (.ref 32), some (.int x1)], [], g, iv) = pm_then X d 153 83 [some (.ref 32), some (.int x1)] [] (pm_c X d 144 [.ref 32] g iv) := by
  refine (at_aload_n dc153_79 rfl).trans ?_
  exact at_inv dc153_80 mc153 lm6_150 rfl rfl (Nat.le_of_ble_eq_true rfl) (Or.inl ⟨(ly32 hL), by decide⟩)
theorem b153_83 {X : pm_X} {d : Nat} {x1 : Int32} {s0 : Int64} {g : pm_G} {iv : pm_V}  : pm_at X d 153 (83, [some (.ref 32), some (.int x1)], [.long s0], g, iv) = if ¬ (lg_cmp s0 495874698853) = 0 then pm_at X d 153 (97, [some (.ref 32), some (.int x1)], [], g, iv) else pm_at X d 153 (90, [some (.ref 32), some (.int x1)], [], g, iv) := by
  refine (at_ldc2 dc153_83 mc153 ll6_167).trans ?_
  refine (at_lcmp dc153_86).trans ?_
  exact at_if_ne (t := 97) dc153_87 (by decide)
theorem b153_90 {X : pm_X} {d : Nat} {x1 : Int32} {g : pm_G} {iv : pm_V} (hL : pm_lay g) : pm_at X d 153 (90, [some (.ref 32), some (.int x1)], [], g, iv) = pm_then X d 153 94 [some (.ref 32), some (.int x1)] [] (pm_c X d 150 [.ref 32] g iv) := by
  refine (at_aload_n dc153_90 rfl).trans ?_
  exact at_inv dc153_91 mc153 lm6_169 rfl rfl (Nat.le_of_ble_eq_true rfl) (Or.inl ⟨(ly32 hL), by decide⟩)
theorem b153_94 {X : pm_X} {d : Nat} {x1 : Int32} {g : pm_G} {iv : pm_V}  : pm_at X d 153 (94, [some (.ref 32), some (.int x1)], [], g, iv) = pm_at X d 153 (79, [some (.ref 32), some (.int x1)], [], g, iv) := by
  refine (at_goto (t := 79) dc153_94 (by decide)).trans ?_
  rfl
theorem b153_97 {X : pm_X} {d : Nat} {x1 : Int32} {g : pm_G} {iv : pm_V} (hL : pm_lay g) : pm_at X d 153 (97, [some (.ref 32), some (.int x1)], [], g, iv) = pm_then X d 153 101 [some (.ref 32), some (.int x1)] [] (pm_c X d 144 [.ref 32] g iv) := by
  refine (at_aload_n dc153_97 rfl).trans ?_
  exact at_inv dc153_98 mc153 lm6_150 rfl rfl (Nat.le_of_ble_eq_true rfl) (Or.inl ⟨(ly32 hL), by decide⟩)
theorem b153_101 {X : pm_X} {d : Nat} {x1 : Int32} {s0 : Int64} {g : pm_G} {iv : pm_V}  : pm_at X d 153 (101, [some (.ref 32), some (.int x1)], [.long s0], g, iv) = if ¬ (lg_cmp s0 448546567013) = 0 then pm_at X d 153 (115, [some (.ref 32), some (.int x1)], [], g, iv) else pm_at X d 153 (108, [some (.ref 32), some (.int x1)], [], g, iv) := by
  refine (at_ldc2 dc153_101 mc153 ll6_172).trans ?_
  refine (at_lcmp dc153_104).trans ?_
  exact at_if_ne (t := 115) dc153_105 (by decide)
theorem b153_108 {X : pm_X} {d : Nat} {x1 : Int32} {g : pm_G} {iv : pm_V} (hL : pm_lay g) : pm_at X d 153 (108, [some (.ref 32), some (.int x1)], [], g, iv) = pm_then X d 153 112 [some (.ref 32), some (.int x1)] [] (pm_c X d 152 [.ref 32] g iv) := by
  refine (at_aload_n dc153_108 rfl).trans ?_
  exact at_inv dc153_109 mc153 lm6_174 rfl rfl (Nat.le_of_ble_eq_true rfl) (Or.inl ⟨(ly32 hL), by decide⟩)
theorem b153_112 {X : pm_X} {d : Nat} {x1 : Int32} {g : pm_G} {iv : pm_V}  : pm_at X d 153 (112, [some (.ref 32), some (.int x1)], [], g, iv) = pm_at X d 153 (97, [some (.ref 32), some (.int x1)], [], g, iv) := by
  refine (at_goto (t := 97) dc153_112 (by decide)).trans ?_
  rfl
theorem b153_115 {X : pm_X} {d : Nat} {x1 : Int32} {g : pm_G} {iv : pm_V} (hL : pm_lay g) : pm_at X d 153 (115, [some (.ref 32), some (.int x1)], [], g, iv) = if ¬ (iv 32 17) = 0 then pm_at X d 153 (135, [some (.ref 32), some (.int x1)], [], g, iv) else pm_at X d 153 (122, [some (.ref 32), some (.int x1)], [], g, iv) := by
  refine (at_aload_n dc153_115 rfl).trans ?_
  refine (at_gfI dc153_116 mc153 lf6_108 fo6_17 (ly32 hL)).trans ?_
  exact at_if_ne (t := 135) dc153_119 (by decide)
theorem b153_122 {X : pm_X} {d : Nat} {x1 : Int32} {g : pm_G} {iv : pm_V} (hL : pm_lay g) : pm_at X d 153 (122, [some (.ref 32), some (.int x1)], [], g, iv) = if (iv 32 14) = 1 then pm_at X d 153 (135, [some (.ref 32), some (.int x1)], [], g, iv) else pm_at X d 153 (130, [some (.ref 32), some (.int x1)], [], g, iv) := by
  refine (at_aload_n dc153_122 rfl).trans ?_
  refine (at_gfI dc153_123 mc153 lf6_96 fo6_14 (ly32 hL)).trans ?_
  refine (at_iconst (v := 1) dc153_126 rfl).trans ?_
  exact at_icmp_eq (t := 135) dc153_127 (by decide)
theorem b153_130 {X : pm_X} {d : Nat} {x1 : Int32} {g : pm_G} {iv : pm_V} (hL : pm_lay g) : pm_at X d 153 (130, [some (.ref 32), some (.int x1)], [], g, iv) = pm_then X d 153 135 [some (.ref 32), some (.int x1)] [] (pm_c X d 142 [.ref 32, .int 1] g iv) := by
  refine (at_aload_n dc153_130 rfl).trans ?_
  refine (at_iconst (v := 1) dc153_131 rfl).trans ?_
  exact at_inv dc153_132 mc153 lm6_117 rfl rfl (Nat.le_of_ble_eq_true rfl) (Or.inl ⟨(ly32 hL), by decide⟩)
theorem b153_135 {X : pm_X} {d : Nat} {x1 : Int32} {g : pm_G} {iv : pm_V} (hL : pm_lay g) : pm_at X d 153 (135, [some (.ref 32), some (.int x1)], [], g, iv) = if (iv 32 17) ≤ 0 then pm_at X d 153 (158, [some (.ref 32), some (.int x1)], [], g, iv) else pm_at X d 153 (142, [some (.ref 32), some (.int x1)], [], g, iv) := by
  refine (at_aload_n dc153_135 rfl).trans ?_
  refine (at_gfI dc153_136 mc153 lf6_108 fo6_17 (ly32 hL)).trans ?_
  exact at_if_le (t := 158) dc153_139 (by decide)
theorem b153_142 {X : pm_X} {d : Nat} {x1 : Int32} {g : pm_G} {iv : pm_V} (hL : pm_lay g) : pm_at X d 153 (142, [some (.ref 32), some (.int x1)], [], g, iv) = some (some (.int ((-1000100) - ((pm_iw iv 32 11 ((iv 32 17))) 32 18))), g, (pm_iw iv 32 11 ((iv 32 17)))) := by
  refine (at_aload_n dc153_142 rfl).trans ?_
  refine (at_aload_n dc153_143 rfl).trans ?_
  refine (at_gfI dc153_144 mc153 lf6_108 fo6_17 (ly32 hL)).trans ?_
  refine (at_pfI dc153_147 mc153 lf6_177 po6_11 (ly32 hL)).trans ?_
  refine (at_ldc dc153_150 mc153 lk6_180).trans ?_
  refine (at_aload_n dc153_152 rfl).trans ?_
  refine (at_gfI dc153_153 mc153 lf6_114 fo6_18 (ly32 hL)).trans ?_
  refine (at_isub dc153_156).trans ?_
  exact at_iret dc153_157 mr153
theorem b153_158 {X : pm_X} {d : Nat} {x1 : Int32} {g : pm_G} {iv : pm_V} (hL : pm_lay g) : pm_at X d 153 (158, [some (.ref 32), some (.int x1)], [], g, iv) = pm_at X d 153 (165, [some (.ref 32), some (.int 0)], [], g, (pm_iw iv 32 8 0)) := by
  refine (at_aload_n dc153_158 rfl).trans ?_
  refine (at_iconst (v := 0) dc153_159 rfl).trans ?_
  refine (at_pfI dc153_160 mc153 lf6_181 po6_8 (ly32 hL)).trans ?_
  refine (at_iconst (v := 0) dc153_163 rfl).trans ?_
  refine (at_istore_n dc153_164 rfl).trans ?_
  rfl
theorem b153_165 {X : pm_X} {d : Nat} {x1 : Int32} {g : pm_G} {iv : pm_V}  : pm_at X d 153 (165, [some (.ref 32), some (.int x1)], [], g, iv) = if 45 ≤ x1 then pm_at X d 153 (189, [some (.ref 32), some (.int x1)], [], g, iv) else pm_at X d 153 (171, [some (.ref 32), some (.int x1)], [], g, iv) := by
  refine (at_iload_n dc153_165 rfl).trans ?_
  refine (at_bipush (v := 45) dc153_166 (by decide)).trans ?_
  exact at_icmp_ge (t := 189) dc153_168 (by decide)
theorem b153_171 {X : pm_X} {d : Nat} {x1 : Int32} {g : pm_G} {iv : pm_V} (hL : pm_lay g) (i1 : vp_in x1 45) : pm_at X d 153 (171, [some (.ref 32), some (.int x1)], [], g, iv) = pm_at X d 153 (165, [some (.ref 32), some (.int (x1 + 1))], [], g, (pm_iw iv 36 (x1 : Int32).toNatClampNeg ((iv 37 (x1 : Int32).toNatClampNeg)))) := by
  refine (at_aload_n dc153_171 rfl).trans ?_
  refine (at_gfR dc153_172 mc153 lf6_19 fo6_5 (ly32 hL) (lr32_5 hL)).trans ?_
  refine (at_iload_n dc153_175 rfl).trans ?_
  refine (at_aload_n dc153_176 rfl).trans ?_
  refine (at_gfR dc153_177 mc153 lf6_22 fo6_6 (ly32 hL) (lr32_6 hL)).trans ?_
  refine (at_iload_n dc153_180 rfl).trans ?_
  refine (at_iald dc153_181 (ly37 hL) i1).trans ?_
  refine (at_iast dc153_182 (ly36 hL) i1).trans ?_
  refine (at_iinc (v := 1) dc153_183 rfl (by decide) rfl).trans ?_
  refine (at_goto (t := 165) dc153_186 (by decide)).trans ?_
  rfl
theorem b153_189 {X : pm_X} {d : Nat} {x1 : Int32} {g : pm_G} {iv : pm_V} (hL : pm_lay g) : pm_at X d 153 (189, [some (.ref 32), some (.int x1)], [], g, iv) = some (some (.int (iv 36 3)), g, iv) := by
  refine (at_aload_n dc153_189 rfl).trans ?_
  refine (at_gfR dc153_190 mc153 lf6_19 fo6_5 (ly32 hL) (lr32_5 hL)).trans ?_
  refine (at_iconst (v := 3) dc153_193 rfl).trans ?_
  refine (at_iald dc153_194 (ly36 hL) (vp_in_nI (n := 3) (by decide) (by decide))).trans ?_
  exact at_iret dc153_195 mr153
