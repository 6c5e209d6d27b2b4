-- Mod.<init> ()V
theorem dc129_0 : decode (pm_mb 129) 0 = .ok (.aload_n 0, 1) := by decide +kernel
theorem dc129_1 : decode (pm_mb 129) 1 = .ok (.invokespecial 1, 3) := by decide +kernel
theorem dc129_4 : decode (pm_mb 129) 4 = .ok (.aload_n 0, 1) := by decide +kernel
theorem dc129_5 : decode (pm_mb 129) 5 = .ok (.bipush 8, 2) := by decide +kernel
theorem dc129_7 : decode (pm_mb 129) 7 = .ok (.newarray .int, 2) := by decide +kernel
theorem dc129_9 : decode (pm_mb 129) 9 = .ok (.dup, 1) := by decide +kernel
theorem dc129_10 : decode (pm_mb 129) 10 = .ok (.iconst 0, 1) := by decide +kernel
theorem dc129_11 : decode (pm_mb 129) 11 = .ok (.iconst (-1), 1) := by decide +kernel
theorem dc129_12 : decode (pm_mb 129) 12 = .ok (.iastore, 1) := by decide +kernel
theorem dc129_13 : decode (pm_mb 129) 13 = .ok (.dup, 1) := by decide +kernel
theorem dc129_14 : decode (pm_mb 129) 14 = .ok (.iconst 1, 1) := by decide +kernel
theorem dc129_15 : decode (pm_mb 129) 15 = .ok (.iconst (-1), 1) := by decide +kernel
theorem dc129_16 : decode (pm_mb 129) 16 = .ok (.iastore, 1) := by decide +kernel
theorem dc129_17 : decode (pm_mb 129) 17 = .ok (.dup, 1) := by decide +kernel
theorem dc129_18 : decode (pm_mb 129) 18 = .ok (.iconst 2, 1) := by decide +kernel
theorem dc129_19 : decode (pm_mb 129) 19 = .ok (.iconst (-1), 1) := by decide +kernel
theorem dc129_20 : decode (pm_mb 129) 20 = .ok (.iastore, 1) := by decide +kernel
theorem dc129_21 : decode (pm_mb 129) 21 = .ok (.dup, 1) := by decide +kernel
theorem dc129_22 : decode (pm_mb 129) 22 = .ok (.iconst 3, 1) := by decide +kernel
theorem dc129_23 : decode (pm_mb 129) 23 = .ok (.iconst (-1), 1) := by decide +kernel
theorem dc129_24 : decode (pm_mb 129) 24 = .ok (.iastore, 1) := by decide +kernel
theorem dc129_25 : decode (pm_mb 129) 25 = .ok (.dup, 1) := by decide +kernel
theorem dc129_26 : decode (pm_mb 129) 26 = .ok (.iconst 4, 1) := by decide +kernel
theorem dc129_27 : decode (pm_mb 129) 27 = .ok (.iconst (-1), 1) := by decide +kernel
theorem dc129_28 : decode (pm_mb 129) 28 = .ok (.iastore, 1) := by decide +kernel
theorem dc129_29 : decode (pm_mb 129) 29 = .ok (.dup, 1) := by decide +kernel
theorem dc129_30 : decode (pm_mb 129) 30 = .ok (.iconst 5, 1) := by decide +kernel
theorem dc129_31 : decode (pm_mb 129) 31 = .ok (.iconst (-1), 1) := by decide +kernel
theorem dc129_32 : decode (pm_mb 129) 32 = .ok (.iastore, 1) := by decide +kernel
theorem dc129_33 : decode (pm_mb 129) 33 = .ok (.dup, 1) := by decide +kernel
theorem dc129_34 : decode (pm_mb 129) 34 = .ok (.bipush 6, 2) := by decide +kernel
theorem dc129_36 : decode (pm_mb 129) 36 = .ok (.iconst (-1), 1) := by decide +kernel
theorem dc129_37 : decode (pm_mb 129) 37 = .ok (.iastore, 1) := by decide +kernel
theorem dc129_38 : decode (pm_mb 129) 38 = .ok (.dup, 1) := by decide +kernel
theorem dc129_39 : decode (pm_mb 129) 39 = .ok (.bipush 7, 2) := by decide +kernel
theorem dc129_41 : decode (pm_mb 129) 41 = .ok (.iconst (-1), 1) := by decide +kernel
theorem dc129_42 : decode (pm_mb 129) 42 = .ok (.iastore, 1) := by decide +kernel
theorem dc129_43 : decode (pm_mb 129) 43 = .ok (.putfield 7, 3) := by decide +kernel
theorem dc129_46 : decode (pm_mb 129) 46 = .ok (.aload_n 0, 1) := by decide +kernel
theorem dc129_47 : decode (pm_mb 129) 47 = .ok (.bipush 8, 2) := by decide +kernel
theorem dc129_49 : decode (pm_mb 129) 49 = .ok (.newarray .int, 2) := by decide +kernel
theorem dc129_51 : decode (pm_mb 129) 51 = .ok (.putfield 13, 3) := by decide +kernel
theorem dc129_54 : decode (pm_mb 129) 54 = .ok (.aload_n 0, 1) := by decide +kernel
theorem dc129_55 : decode (pm_mb 129) 55 = .ok (.sipush 320, 3) := by decide +kernel
theorem dc129_58 : decode (pm_mb 129) 58 = .ok (.newarray .int, 2) := by decide +kernel
theorem dc129_60 : decode (pm_mb 129) 60 = .ok (.putfield 16, 3) := by decide +kernel
theorem dc129_63 : decode (pm_mb 129) 63 = .ok (.aload_n 0, 1) := by decide +kernel
theorem dc129_64 : decode (pm_mb 129) 64 = .ok (.bipush 45, 2) := by decide +kernel
theorem dc129_66 : decode (pm_mb 129) 66 = .ok (.newarray .int, 2) := by decide +kernel
theorem dc129_68 : decode (pm_mb 129) 68 = .ok (.putfield 19, 3) := by decide +kernel
theorem dc129_71 : decode (pm_mb 129) 71 = .ok (.aload_n 0, 1) := by decide +kernel
theorem dc129_72 : decode (pm_mb 129) 72 = .ok (.bipush 45, 2) := by decide +kernel
theorem dc129_74 : decode (pm_mb 129) 74 = .ok (.newarray .int, 2) := by decide +kernel
theorem dc129_76 : decode (pm_mb 129) 76 = .ok (.putfield 22, 3) := by decide +kernel
theorem dc129_79 : decode (pm_mb 129) 79 = .ok (.aload_n 0, 1) := by decide +kernel
theorem dc129_80 : decode (pm_mb 129) 80 = .ok (.sipush 1080, 3) := by decide +kernel
theorem dc129_83 : decode (pm_mb 129) 83 = .ok (.newarray .int, 2) := by decide +kernel
theorem dc129_85 : decode (pm_mb 129) 85 = .ok (.putfield 25, 3) := by decide +kernel
theorem dc129_88 : decode (pm_mb 129) 88 = .ok (.aload_n 0, 1) := by decide +kernel
theorem dc129_89 : decode (pm_mb 129) 89 = .ok (.sipush 400, 3) := by decide +kernel
theorem dc129_92 : decode (pm_mb 129) 92 = .ok (.newarray .int, 2) := by decide +kernel
theorem dc129_94 : decode (pm_mb 129) 94 = .ok (.putfield 28, 3) := by decide +kernel
theorem dc129_97 : decode (pm_mb 129) 97 = .ok (.aload_n 0, 1) := by decide +kernel
theorem dc129_98 : decode (pm_mb 129) 98 = .ok (.bipush 6, 2) := by decide +kernel
theorem dc129_100 : decode (pm_mb 129) 100 = .ok (.newarray .int, 2) := by decide +kernel
theorem dc129_102 : decode (pm_mb 129) 102 = .ok (.putfield 31, 3) := by decide +kernel
theorem dc129_105 : decode (pm_mb 129) 105 = .ok (.aload_n 0, 1) := by decide +kernel
theorem dc129_106 : decode (pm_mb 129) 106 = .ok (.bipush 6, 2) := by decide +kernel
theorem dc129_108 : decode (pm_mb 129) 108 = .ok (.newarray .int, 2) := by decide +kernel
theorem dc129_110 : decode (pm_mb 129) 110 = .ok (.putfield 34, 3) := by decide +kernel
theorem dc129_113 : decode (pm_mb 129) 113 = .ok (.aload_n 0, 1) := by decide +kernel
theorem dc129_114 : decode (pm_mb 129) 114 = .ok (.bipush 6, 2) := by decide +kernel
theorem dc129_116 : decode (pm_mb 129) 116 = .ok (.newarray .int, 2) := by decide +kernel
theorem dc129_118 : decode (pm_mb 129) 118 = .ok (.putfield 37, 3) := by decide +kernel
theorem dc129_121 : decode (pm_mb 129) 121 = .ok (.aload_n 0, 1) := by decide +kernel
theorem dc129_122 : decode (pm_mb 129) 122 = .ok (.iconst 2, 1) := by decide +kernel
theorem dc129_123 : decode (pm_mb 129) 123 = .ok (.newarray .boolean, 2) := by decide +kernel
theorem dc129_125 : decode (pm_mb 129) 125 = .ok (.putfield 40, 3) := by decide +kernel
theorem dc129_128 : decode (pm_mb 129) 128 = .ok (.aload_n 0, 1) := by decide +kernel
theorem dc129_129 : decode (pm_mb 129) 129 = .ok (.bipush 90, 2) := by decide +kernel
theorem dc129_131 : decode (pm_mb 129) 131 = .ok (.newarray .int, 2) := by decide +kernel
theorem dc129_133 : decode (pm_mb 129) 133 = .ok (.putfield 44, 3) := by decide +kernel
theorem dc129_136 : decode (pm_mb 129) 136 = .ok (.aload_n 0, 1) := by decide +kernel
theorem dc129_137 : decode (pm_mb 129) 137 = .ok (.bipush 16, 2) := by decide +kernel
theorem dc129_139 : decode (pm_mb 129) 139 = .ok (.newarray .int, 2) := by decide +kernel
theorem dc129_141 : decode (pm_mb 129) 141 = .ok (.putfield 47, 3) := by decide +kernel
theorem dc129_144 : decode (pm_mb 129) 144 = .ok (.return_, 1) := by decide +kernel
-- Mod.in (JJJ)Z
theorem dc130_0 : decode (pm_mb 130) 0 = .ok (.lload_n 0, 1) := by decide +kernel
theorem dc130_1 : decode (pm_mb 130) 1 = .ok (.lload_n 2, 1) := by decide +kernel
theorem dc130_2 : decode (pm_mb 130) 2 = .ok (.lcmp, 1) := by decide +kernel
theorem dc130_3 : decode (pm_mb 130) 3 = .ok (.ifCond .lt 14, 3) := by decide +kernel
theorem dc130_6 : decode (pm_mb 130) 6 = .ok (.lload_n 0, 1) := by decide +kernel
theorem dc130_7 : decode (pm_mb 130) 7 = .ok (.lload 4, 2) := by decide +kernel
theorem dc130_9 : decode (pm_mb 130) 9 = .ok (.lcmp, 1) := by decide +kernel
theorem dc130_10 : decode (pm_mb 130) 10 = .ok (.ifCond .gt 7, 3) := by decide +kernel
theorem dc130_13 : decode (pm_mb 130) 13 = .ok (.iconst 1, 1) := by decide +kernel
theorem dc130_14 : decode (pm_mb 130) 14 = .ok (.goto 4, 3) := by decide +kernel
theorem dc130_17 : decode (pm_mb 130) 17 = .ok (.iconst 0, 1) := by decide +kernel
theorem dc130_18 : decode (pm_mb 130) 18 = .ok (.ireturn, 1) := by decide +kernel
theorem b130_0 {X : pm_X} {d : Nat} {x0 : Int64} {x2 : Int64} {x4 : Int64} {g : pm_G} {iv : pm_V}  : pm_at X d 130 (0, [some (.long x0), none, some (.long x2), none, some (.long x4), none], [], g, iv) = if (lg_cmp x0 x2) < 0 then pm_at X d 130 (17, [some (.long x0), none, some (.long x2), none, some (.long x4), none], [], g, iv) else pm_at X d 130 (6, [some (.long x0), none, some (.long x2), none, some (.long x4), none], [], g, iv) := by
  refine (at_lload_n dc130_0 rfl).trans ?_
  refine (at_lload_n dc130_1 rfl).trans ?_
  refine (at_lcmp dc130_2).trans ?_
  exact at_if_lt (t := 17) dc130_3 (by decide)
theorem b130_6 {X : pm_X} {d : Nat} {x0 : Int64} {x2 : Int64} {x4 : Int64} {g : pm_G} {iv : pm_V}  : pm_at X d 130 (6, [some (.long x0), none, some (.long x2), none, some (.long x4), none], [], g, iv) = if 0 < (lg_cmp x0 x4) then pm_at X d 130 (17, [some (.long x0), none, some (.long x2), none, some (.long x4), none], [], g, iv) else pm_at X d 130 (13, [some (.long x0), none, some (.long x2), none, some (.long x4), none], [], g, iv) := by
  refine (at_lload_n dc130_6 rfl).trans ?_
  refine (at_lload dc130_7 rfl).trans ?_
  refine (at_lcmp dc130_9).trans ?_
  exact at_if_gt (t := 17) dc130_10 (by decide)
theorem b130_13 {X : pm_X} {d : Nat} {x0 : Int64} {x2 : Int64} {x4 : Int64} {g : pm_G} {iv : pm_V}  : pm_at X d 130 (13, [some (.long x0), none, some (.long x2), none, some (.long x4), none], [], g, iv) = pm_at X d 130 (18, [some (.long x0), none, some (.long x2), none, some (.long x4), none], [.int 1], g, iv) := by
  refine (at_iconst (v := 1) dc130_13 rfl).trans ?_
  refine (at_goto (t := 18) dc130_14 (by decide)).trans ?_
  rfl
theorem b130_17 {X : pm_X} {d : Nat} {x0 : Int64} {x2 : Int64} {x4 : Int64} {g : pm_G} {iv : pm_V}  : pm_at X d 130 (17, [some (.long x0), none, some (.long x2), none, some (.long x4), none], [], g, iv) = pm_at X d 130 (18, [some (.long x0), none, some (.long x2), none, some (.long x4), none], [.int 0], g, iv) := by
  refine (at_iconst (v := 0) dc130_17 rfl).trans ?_
  rfl
theorem b130_18 {X : pm_X} {d : Nat} {x0 : Int64} {x2 : Int64} {x4 : Int64} {s0 : Int32} {g : pm_G} {iv : pm_V}  : pm_at X d 130 (18, [some (.long x0), none, some (.long x2), none, some (.long x4), none], [.int s0], g, iv) = pm_zr s0 (some (some (.int s0), g, iv)) := by
  exact at_zretG dc130_18 mr130
-- Mod.finding (I)I
theorem dc131_0 : decode (pm_mb 131) 0 = .ok (.aload_n 0, 1) := by decide +kernel
theorem dc131_1 : decode (pm_mb 131) 1 = .ok (.iload_n 1, 1) := by decide +kernel
theorem dc131_2 : decode (pm_mb 131) 2 = .ok (.putfield 54, 3) := by decide +kernel
theorem dc131_5 : decode (pm_mb 131) 5 = .ok (.ldc 57, 2) := by decide +kernel
theorem dc131_7 : decode (pm_mb 131) 7 = .ok (.iload_n 1, 1) := by decide +kernel
theorem dc131_8 : decode (pm_mb 131) 8 = .ok (.isub, 1) := by decide +kernel
theorem dc131_9 : decode (pm_mb 131) 9 = .ok (.ireturn, 1) := by decide +kernel
theorem b131_0 {X : pm_X} {d : Nat} {x1 : Int32} {g : pm_G} {iv : pm_V} (hL : pm_lay g) : pm_at X d 131 (0, [some (.ref 32), some (.int x1)], [], g, iv) = some (some (.int ((-1000010) - x1)), g, (pm_iw iv 32 1 x1)) := by
  refine (at_aload_n dc131_0 rfl).trans ?_
  refine (at_iload_n dc131_1 rfl).trans ?_
  refine (at_pfI dc131_2 mc131 lf6_54 po6_1 (ly32 hL)).trans ?_
  refine (at_ldc dc131_5 mc131 lk6_57).trans ?_
  refine (at_iload_n dc131_7 rfl).trans ?_
  refine (at_isub dc131_8).trans ?_
  exact at_iret dc131_9 mr131
-- Mod.isRow (I)Z
theorem dc132_0 : decode (pm_mb 132) 0 = .ok (.iload_n 0, 1) := by decide +kernel
theorem dc132_1 : decode (pm_mb 132) 1 = .ok (.i2l, 1) := by decide +kernel
theorem dc132_2 : decode (pm_mb 132) 2 = .ok (.lconst 0, 1) := by decide +kernel
theorem dc132_3 : decode (pm_mb 132) 3 = .ok (.ldc2_w 58, 3) := by decide +kernel
theorem dc132_6 : decode (pm_mb 132) 6 = .ok (.invokestatic 60, 3) := by decide +kernel
theorem dc132_9 : decode (pm_mb 132) 9 = .ok (.ireturn, 1) := by decide +kernel
theorem b132_0 {X : pm_X} {d : Nat} {x0 : Int32} {g : pm_G} {iv : pm_V}  : pm_at X d 132 (0, [some (.int x0)], [], g, iv) = pm_then X d 132 9 [some (.int x0)] [] (pm_c X d 130 [.long (x0 : Int32).toInt64, .long 0, .long 7] g iv) := by
  refine (at_iload_n dc132_0 rfl).trans ?_
  refine (at_i2l dc132_1).trans ?_
  refine (at_lconst (v := 0) dc132_2 (by decide)).trans ?_
  refine (at_ldc2 dc132_3 mc132 ll6_58).trans ?_
  exact at_ins dc132_6 mc132 lm6_60 (Nat.le_of_ble_eq_true rfl) rfl rfl (Nat.le_of_ble_eq_true rfl)
theorem b132_9 {X : pm_X} {d : Nat} {x0 : Int32} {s0 : Int32} {g : pm_G} {iv : pm_V}  : pm_at X d 132 (9, [some (.int x0)], [.int s0], g, iv) = pm_zr s0 (some (some (.int s0), g, iv)) := by
  exact at_zretG dc132_9 mr132
-- Mod.row (III)I
theorem dc133_0 : decode (pm_mb 133) 0 = .ok (.aload_n 0, 1) := by decide +kernel
theorem dc133_1 : decode (pm_mb 133) 1 = .ok (.iconst 0, 1) := by decide +kernel
theorem dc133_2 : decode (pm_mb 133) 2 = .ok (.putfield 50, 3) := by decide +kernel
theorem dc133_5 : decode (pm_mb 133) 5 = .ok (.iload_n 1, 1) := by decide +kernel
theorem dc133_6 : decode (pm_mb 133) 6 = .ok (.invokestatic 64, 3) := by decide +kernel
theorem dc133_9 : decode (pm_mb 133) 9 = .ok (.ifCond .eq 21, 3) := by decide +kernel
theorem dc133_12 : decode (pm_mb 133) 12 = .ok (.iload_n 2, 1) := by decide +kernel
theorem dc133_13 : decode (pm_mb 133) 13 = .ok (.i2l, 1) := by decide +kernel
theorem dc133_14 : decode (pm_mb 133) 14 = .ok (.lconst 0, 1) := by decide +kernel
theorem dc133_15 : decode (pm_mb 133) 15 = .ok (.ldc2_w 68, 3) := by decide +kernel
theorem dc133_18 : decode (pm_mb 133) 18 = .ok (.invokestatic 60, 3) := by decide +kernel
theorem dc133_21 : decode (pm_mb 133) 21 = .ok (.ifCond .eq 9, 3) := by decide +kernel
theorem dc133_24 : decode (pm_mb 133) 24 = .ok (.iload_n 3, 1) := by decide +kernel
theorem dc133_25 : decode (pm_mb 133) 25 = .ok (.bipush 40, 2) := by decide +kernel
theorem dc133_27 : decode (pm_mb 133) 27 = .ok (.if_icmp .le 6, 3) := by decide +kernel
theorem dc133_30 : decode (pm_mb 133) 30 = .ok (.ldc 70, 2) := by decide +kernel
theorem dc133_32 : decode (pm_mb 133) 32 = .ok (.ireturn, 1) := by decide +kernel
theorem dc133_33 : decode (pm_mb 133) 33 = .ok (.aload_n 0, 1) := by decide +kernel
theorem dc133_34 : decode (pm_mb 133) 34 = .ok (.iconst 0, 1) := by decide +kernel
theorem dc133_35 : decode (pm_mb 133) 35 = .ok (.putfield 54, 3) := by decide +kernel
theorem dc133_38 : decode (pm_mb 133) 38 = .ok (.iload_n 3, 1) := by decide +kernel
theorem dc133_39 : decode (pm_mb 133) 39 = .ok (.ifCond .ge 9, 3) := by decide +kernel
theorem dc133_42 : decode (pm_mb 133) 42 = .ok (.aload_n 0, 1) := by decide +kernel
theorem dc133_43 : decode (pm_mb 133) 43 = .ok (.iconst 4, 1) := by decide +kernel
theorem dc133_44 : decode (pm_mb 133) 44 = .ok (.invokevirtual 71, 3) := by decide +kernel
theorem dc133_47 : decode (pm_mb 133) 47 = .ok (.ireturn, 1) := by decide +kernel
theorem dc133_48 : decode (pm_mb 133) 48 = .ok (.aload_n 0, 1) := by decide +kernel
theorem dc133_49 : decode (pm_mb 133) 49 = .ok (.getfield 7, 3) := by decide +kernel
theorem dc133_52 : decode (pm_mb 133) 52 = .ok (.iload_n 1, 1) := by decide +kernel
theorem dc133_53 : decode (pm_mb 133) 53 = .ok (.iload_n 2, 1) := by decide +kernel
theorem dc133_54 : decode (pm_mb 133) 54 = .ok (.iastore, 1) := by decide +kernel
theorem dc133_55 : decode (pm_mb 133) 55 = .ok (.aload_n 0, 1) := by decide +kernel
theorem dc133_56 : decode (pm_mb 133) 56 = .ok (.getfield 13, 3) := by decide +kernel
theorem dc133_59 : decode (pm_mb 133) 59 = .ok (.iload_n 1, 1) := by decide +kernel
theorem dc133_60 : decode (pm_mb 133) 60 = .ok (.iload_n 3, 1) := by decide +kernel
theorem dc133_61 : decode (pm_mb 133) 61 = .ok (.iastore, 1) := by decide +kernel
theorem dc133_62 : decode (pm_mb 133) 62 = .ok (.iconst 0, 1) := by decide +kernel
theorem dc133_63 : decode (pm_mb 133) 63 = .ok (.istore 4, 2) := by decide +kernel
theorem dc133_65 : decode (pm_mb 133) 65 = .ok (.iload 4, 2) := by decide +kernel
theorem dc133_67 : decode (pm_mb 133) 67 = .ok (.bipush 40, 2) := by decide +kernel
theorem dc133_69 : decode (pm_mb 133) 69 = .ok (.if_icmp .ge 22, 3) := by decide +kernel
theorem dc133_72 : decode (pm_mb 133) 72 = .ok (.aload_n 0, 1) := by decide +kernel
theorem dc133_73 : decode (pm_mb 133) 73 = .ok (.getfield 16, 3) := by decide +kernel
theorem dc133_76 : decode (pm_mb 133) 76 = .ok (.bipush 40, 2) := by decide +kernel
theorem dc133_78 : decode (pm_mb 133) 78 = .ok (.iload_n 1, 1) := by decide +kernel
theorem dc133_79 : decode (pm_mb 133) 79 = .ok (.imul, 1) := by decide +kernel
theorem dc133_80 : decode (pm_mb 133) 80 = .ok (.iload 4, 2) := by decide +kernel
theorem dc133_82 : decode (pm_mb 133) 82 = .ok (.iadd, 1) := by decide +kernel
theorem dc133_83 : decode (pm_mb 133) 83 = .ok (.iconst 0, 1) := by decide +kernel
theorem dc133_84 : decode (pm_mb 133) 84 = .ok (.iastore, 1) := by decide +kernel
theorem dc133_85 : decode (pm_mb 133) 85 = .ok (.iinc 4 1, 3) := by decide +kernel
theorem dc133_88 : decode (pm_mb 133) 88 = .ok (.goto (-23), 3) := by decide +kernel
theorem dc133_91 : decode (pm_mb 133) 91 = .ok (.iload_n 3, 1) := by decide +kernel
theorem dc133_92 : decode (pm_mb 133) 92 = .ok (.ireturn, 1) := by decide +kernel
theorem b133_0 {X : pm_X} {d : Nat} {x1 : Int32} {x2 : Int32} {x3 : Int32} {g : pm_G} {iv : pm_V} (hL : pm_lay g) : pm_at X d 133 (0, [some (.ref 32), some (.int x1), some (.int x2), some (.int x3), none], [], g, iv) = pm_then X d 133 9 [some (.ref 32), some (.int x1), some (.int x2), some (.int x3), none] [] (pm_c X d 132 [.int x1] g (pm_iw iv 32 0 0)) := by
  refine (at_aload_n dc133_0 rfl).trans ?_
  refine (at_iconst (v := 0) dc133_1 rfl).trans ?_
  refine (at_pfI dc133_2 mc133 lf6_50 po6_0 (ly32 hL)).trans ?_
  refine (at_iload_n dc133_5 rfl).trans ?_
  exact at_ins dc133_6 mc133 lm6_64 (Nat.le_of_ble_eq_true rfl) rfl rfl (Nat.le_of_ble_eq_true rfl)
theorem b133_9 {X : pm_X} {d : Nat} {x1 : Int32} {x2 : Int32} {x3 : Int32} {s0 : Int32} {g : pm_G} {iv : pm_V}  : pm_at X d 133 (9, [some (.ref 32), some (.int x1), some (.int x2), some (.int x3), none], [.int s0], g, iv) = if s0 = 0 then pm_at X d 133 (30, [some (.ref 32), some (.int x1), some (.int x2), some (.int x3), none], [], g, iv) else pm_at X d 133 (12, [some (.ref 32), some (.int x1), some (.int x2), some (.int x3), none], [], g, iv) := by
  exact at_if_eq (t := 30) dc133_9 (by decide)
theorem b133_12 {X : pm_X} {d : Nat} {x1 : Int32} {x2 : Int32} {x3 : Int32} {g : pm_G} {iv : pm_V}  : pm_at X d 133 (12, [some (.ref 32), some (.int x1), some (.int x2), some (.int x3), none], [], g, iv) = pm_then X d 133 21 [some (.ref 32), some (.int x1), some (.int x2), some (.int x3), none] [] (pm_c X d 130 [.long (x2 : Int32).toInt64, .long 0, .long 2] g iv) := by
  refine (at_iload_n dc133_12 rfl).trans ?_
  refine (at_i2l dc133_13).trans ?_
  refine (at_lconst (v := 0) dc133_14 (by decide)).trans ?_
  refine (at_ldc2 dc133_15 mc133 ll6_68).trans ?_
  exact at_ins dc133_18 mc133 lm6_60 (Nat.le_of_ble_eq_true rfl) rfl rfl (Nat.le_of_ble_eq_true rfl)
theorem b133_21 {X : pm_X} {d : Nat} {x1 : Int32} {x2 : Int32} {x3 : Int32} {s0 : Int32} {g : pm_G} {iv : pm_V}  : pm_at X d 133 (21, [some (.ref 32), some (.int x1), some (.int x2), some (.int x3), none], [.int s0], g, iv) = if s0 = 0 then pm_at X d 133 (30, [some (.ref 32), some (.int x1), some (.int x2), some (.int x3), none], [], g, iv) else pm_at X d 133 (24, [some (.ref 32), some (.int x1), some (.int x2), some (.int x3), none], [], g, iv) := by
  exact at_if_eq (t := 30) dc133_21 (by decide)
theorem b133_24 {X : pm_X} {d : Nat} {x1 : Int32} {x2 : Int32} {x3 : Int32} {g : pm_G} {iv : pm_V}  : pm_at X d 133 (24, [some (.ref 32), some (.int x1), some (.int x2), some (.int x3), none], [], g, iv) = if x3 ≤ 40 then pm_at X d 133 (33, [some (.ref 32), some (.int x1), some (.int x2), some (.int x3), none], [], g, iv) else pm_at X d 133 (30, [some (.ref 32), some (.int x1), some (.int x2), some (.int x3), none], [], g, iv) := by
  refine (at_iload_n dc133_24 rfl).trans ?_
  refine (at_bipush (v := 40) dc133_25 (by decide)).trans ?_
  exact at_icmp_le (t := 33) dc133_27 (by decide)
theorem b133_30 {X : pm_X} {d : Nat} {x1 : Int32} {x2 : Int32} {x3 : Int32} {g : pm_G} {iv : pm_V}  : pm_at X d 133 (30, [some (.ref 32), some (.int x1), some (.int x2), some (.int x3), none], [], g, iv) = some (some (.int (-1000001)), g, iv) := by
  refine (at_ldc dc133_30 mc133 lk6_70).trans ?_
  exact at_iret dc133_32 mr133
theorem b133_33 {X : pm_X} {d : Nat} {x1 : Int32} {x2 : Int32} {x3 : Int32} {g : pm_G} {iv : pm_V} (hL : pm_lay g) : pm_at X d 133 (33, [some (.ref 32), some (.int x1), some (.int x2), some (.int x3), none], [], g, iv) = if 0 ≤ x3 then pm_at X d 133 (48, [some (.ref 32), some (.int x1), some (.int x2), some (.int x3), none], [], g, (pm_iw iv 32 1 0)) else pm_at X d 133 (42, [some (.ref 32), some (.int x1), some (.int x2), some (.int x3), none], [], g, (pm_iw iv 32 1 0)) := by
  refine (at_aload_n dc133_33 rfl).trans ?_
  refine (at_iconst (v := 0) dc133_34 rfl).trans ?_
  refine (at_pfI dc133_35 mc133 lf6_54 po6_1 (ly32 hL)).trans ?_
  refine (at_iload_n dc133_38 rfl).trans ?_
  exact at_if_ge (t := 48) dc133_39 (by decide)
theorem b133_42 {X : pm_X} {d : Nat} {x1 : Int32} {x2 : Int32} {x3 : Int32} {g : pm_G} {iv : pm_V} (hL : pm_lay g) : pm_at X d 133 (42, [some (.ref 32), some (.int x1), some (.int x2), some (.int x3), none], [], g, iv) = pm_then X d 133 47 [some (.ref 32), some (.int x1), some (.int x2), some (.int x3), none] [] (pm_c X d 131 [.ref 32, .int 4] g iv) := by
  refine (at_aload_n dc133_42 rfl).trans ?_
  refine (at_iconst (v := 4) dc133_43 rfl).trans ?_
  exact at_inv dc133_44 mc133 lm6_71 rfl rfl (Nat.le_of_ble_eq_true rfl) (Or.inl ⟨(ly32 hL), by decide⟩)
theorem b133_47 {X : pm_X} {d : Nat} {x1 : Int32} {x2 : Int32} {x3 : Int32} {s0 : Int32} {g : pm_G} {iv : pm_V}  : pm_at X d 133 (47, [some (.ref 32), some (.int x1), some (.int x2), some (.int x3), none], [.int s0], g, iv) = some (some (.int s0), g, iv) := by
  exact at_iret dc133_47 mr133
theorem b133_48 {X : pm_X} {d : Nat} {x1 : Int32} {x2 : Int32} {x3 : Int32} {g : pm_G} {iv : pm_V} (hL : pm_lay g) (i1 : vp_in x1 8) : pm_at X d 133 (48, [some (.ref 32), some (.int x1), some (.int x2), some (.int x3), none], [], g, iv) = pm_at X d 133 (65, [some (.ref 32), some (.int x1), some (.int x2), some (.int x3), some (.int 0)], [], g, (pm_iw (pm_iw iv 33 (x1 : Int32).toNatClampNeg x2) 34 (x1 : Int32).toNatClampNeg x3)) := by
  refine (at_aload_n dc133_48 rfl).trans ?_
  refine (at_gfR dc133_49 mc133 lf6_7 fo6_2 (ly32 hL) (lr32_2 hL)).trans ?_
  refine (at_iload_n dc133_52 rfl).trans ?_
  refine (at_iload_n dc133_53 rfl).trans ?_
  refine (at_iast dc133_54 (ly33 hL) i1).trans ?_
  refine (at_aload_n dc133_55 rfl).trans ?_
  refine (at_gfR dc133_56 mc133 lf6_13 fo6_3 (ly32 hL) (lr32_3 hL)).trans ?_
  refine (at_iload_n dc133_59 rfl).trans ?_
  refine (at_iload_n dc133_60 rfl).trans ?_
  refine (at_iast dc133_61 (ly34 hL) i1).trans ?_
  refine (at_iconst (v := 0) dc133_62 rfl).trans ?_
  refine (at_istore dc133_63 rfl).trans ?_
  rfl
theorem b133_65 {X : pm_X} {d : Nat} {x1 : Int32} {x2 : Int32} {x3 : Int32} {x4 : Int32} {g : pm_G} {iv : pm_V}  : pm_at X d 133 (65, [some (.ref 32), some (.int x1), some (.int x2), some (.int x3), some (.int x4)], [], g, iv) = if 40 ≤ x4 then pm_at X d 133 (91, [some (.ref 32), some (.int x1), some (.int x2), some (.int x3), some (.int x4)], [], g, iv) else pm_at X d 133 (72, [some (.ref 32), some (.int x1), some (.int x2), some (.int x3), some (.int x4)], [], g, iv) := by
  refine (at_iload dc133_65 rfl).trans ?_
  refine (at_bipush (v := 40) dc133_67 (by decide)).trans ?_
  exact at_icmp_ge (t := 91) dc133_69 (by decide)
theorem b133_72 {X : pm_X} {d : Nat} {x1 : Int32} {x2 : Int32} {x3 : Int32} {x4 : Int32} {g : pm_G} {iv : pm_V} (hL : pm_lay g) (i1 : vp_in (((40 * x1) + x4)) 320) : pm_at X d 133 (72, [some (.ref 32), some (.int x1), some (.int x2), some (.int x3), some (.int x4)], [], g, iv) = pm_at X d 133 (65, [some (.ref 32), some (.int x1), some (.int x2), some (.int x3), some (.int (x4 + 1))], [], g, (pm_iw iv 35 (((40 * x1) + x4) : Int32).toNatClampNeg 0)) := by
  refine (at_aload_n dc133_72 rfl).trans ?_
  refine (at_gfR dc133_73 mc133 lf6_16 fo6_4 (ly32 hL) (lr32_4 hL)).trans ?_
  refine (at_bipush (v := 40) dc133_76 (by decide)).trans ?_
  refine (at_iload_n dc133_78 rfl).trans ?_
  refine (at_imul dc133_79).trans ?_
  refine (at_iload dc133_80 rfl).trans ?_
  refine (at_iadd dc133_82).trans ?_
  refine (at_iconst (v := 0) dc133_83 rfl).trans ?_
  refine (at_iast dc133_84 (ly35 hL) i1).trans ?_
  refine (at_iinc (v := 1) dc133_85 rfl (by decide) rfl).trans ?_
  refine (at_goto (t := 65) dc133_88 (by decide)).trans ?_
  rfl
theorem b133_91 {X : pm_X} {d : Nat} {x1 : Int32} {x2 : Int32} {x3 : Int32} {x4 : Int32} {g : pm_G} {iv : pm_V}  : pm_at X d 133 (91, [some (.ref 32), some (.int x1), some (.int x2), some (.int x3), some (.int x4)], [], g, iv) = some (some (.int x3), g, iv) := by
  refine (at_iload_n dc133_91 rfl).trans ?_
  exact at_iret dc133_92 mr133
-- Mod.set (III)I
theorem dc134_0 : decode (pm_mb 134) 0 = .ok (.aload_n 0, 1) := by decide +kernel
theorem dc134_1 : decode (pm_mb 134) 1 = .ok (.iconst 0, 1) := by decide +kernel
theorem dc134_2 : decode (pm_mb 134) 2 = .ok (.putfield 50, 3) := by decide +kernel
theorem dc134_5 : decode (pm_mb 134) 5 = .ok (.iload_n 1, 1) := by decide +kernel
theorem dc134_6 : decode (pm_mb 134) 6 = .ok (.invokestatic 64, 3) := by decide +kernel
theorem dc134_9 : decode (pm_mb 134) 9 = .ok (.ifCond .ne 6, 3) := by decide +kernel
theorem dc134_12 : decode (pm_mb 134) 12 = .ok (.ldc 70, 2) := by decide +kernel
theorem dc134_14 : decode (pm_mb 134) 14 = .ok (.ireturn, 1) := by decide +kernel
theorem dc134_15 : decode (pm_mb 134) 15 = .ok (.aload_n 0, 1) := by decide +kernel
theorem dc134_16 : decode (pm_mb 134) 16 = .ok (.iconst 0, 1) := by decide +kernel
theorem dc134_17 : decode (pm_mb 134) 17 = .ok (.putfield 54, 3) := by decide +kernel
theorem dc134_20 : decode (pm_mb 134) 20 = .ok (.aload_n 0, 1) := by decide +kernel
theorem dc134_21 : decode (pm_mb 134) 21 = .ok (.getfield 7, 3) := by decide +kernel
theorem dc134_24 : decode (pm_mb 134) 24 = .ok (.iload_n 1, 1) := by decide +kernel
theorem dc134_25 : decode (pm_mb 134) 25 = .ok (.iaload, 1) := by decide +kernel
theorem dc134_26 : decode (pm_mb 134) 26 = .ok (.ifCond .ge 9, 3) := by decide +kernel
theorem dc134_29 : decode (pm_mb 134) 29 = .ok (.aload_n 0, 1) := by decide +kernel
theorem dc134_30 : decode (pm_mb 134) 30 = .ok (.iconst 1, 1) := by decide +kernel
theorem dc134_31 : decode (pm_mb 134) 31 = .ok (.invokevirtual 71, 3) := by decide +kernel
theorem dc134_34 : decode (pm_mb 134) 34 = .ok (.ireturn, 1) := by decide +kernel
theorem dc134_35 : decode (pm_mb 134) 35 = .ok (.iload_n 2, 1) := by decide +kernel
theorem dc134_36 : decode (pm_mb 134) 36 = .ok (.i2l, 1) := by decide +kernel
theorem dc134_37 : decode (pm_mb 134) 37 = .ok (.lconst 0, 1) := by decide +kernel
theorem dc134_38 : decode (pm_mb 134) 38 = .ok (.aload_n 0, 1) := by decide +kernel
theorem dc134_39 : decode (pm_mb 134) 39 = .ok (.getfield 13, 3) := by decide +kernel
theorem dc134_42 : decode (pm_mb 134) 42 = .ok (.iload_n 1, 1) := by decide +kernel
theorem dc134_43 : decode (pm_mb 134) 43 = .ok (.iaload, 1) := by decide +kernel
theorem dc134_44 : decode (pm_mb 134) 44 = .ok (.iconst 1, 1) := by decide +kernel
theorem dc134_45 : decode (pm_mb 134) 45 = .ok (.isub, 1) := by decide +kernel
theorem dc134_46 : decode (pm_mb 134) 46 = .ok (.i2l, 1) := by decide +kernel
theorem dc134_47 : decode (pm_mb 134) 47 = .ok (.invokestatic 60, 3) := by decide +kernel
theorem dc134_50 : decode (pm_mb 134) 50 = .ok (.ifCond .ne 9, 3) := by decide +kernel
theorem dc134_53 : decode (pm_mb 134) 53 = .ok (.aload_n 0, 1) := by decide +kernel
theorem dc134_54 : decode (pm_mb 134) 54 = .ok (.iconst 2, 1) := by decide +kernel
theorem dc134_55 : decode (pm_mb 134) 55 = .ok (.invokevirtual 71, 3) := by decide +kernel
theorem dc134_58 : decode (pm_mb 134) 58 = .ok (.ireturn, 1) := by decide +kernel
theorem dc134_59 : decode (pm_mb 134) 59 = .ok (.aload_n 0, 1) := by decide +kernel
theorem dc134_60 : decode (pm_mb 134) 60 = .ok (.getfield 16, 3) := by decide +kernel
theorem dc134_63 : decode (pm_mb 134) 63 = .ok (.bipush 40, 2) := by decide +kernel
theorem dc134_65 : decode (pm_mb 134) 65 = .ok (.iload_n 1, 1) := by decide +kernel
theorem dc134_66 : decode (pm_mb 134) 66 = .ok (.imul, 1) := by decide +kernel
theorem dc134_67 : decode (pm_mb 134) 67 = .ok (.iload_n 2, 1) := by decide +kernel
theorem dc134_68 : decode (pm_mb 134) 68 = .ok (.iadd, 1) := by decide +kernel
theorem dc134_69 : decode (pm_mb 134) 69 = .ok (.aload_n 0, 1) := by decide +kernel
theorem dc134_70 : decode (pm_mb 134) 70 = .ok (.getfield 7, 3) := by decide +kernel
theorem dc134_73 : decode (pm_mb 134) 73 = .ok (.iload_n 1, 1) := by decide +kernel
theorem dc134_74 : decode (pm_mb 134) 74 = .ok (.iaload, 1) := by decide +kernel
theorem dc134_75 : decode (pm_mb 134) 75 = .ok (.ifCond .ne 8, 3) := by decide +kernel
theorem dc134_78 : decode (pm_mb 134) 78 = .ok (.iload_n 3, 1) := by decide +kernel
theorem dc134_79 : decode (pm_mb 134) 79 = .ok (.i2b, 1) := by decide +kernel
theorem dc134_80 : decode (pm_mb 134) 80 = .ok (.goto 19, 3) := by decide +kernel
theorem dc134_83 : decode (pm_mb 134) 83 = .ok (.aload_n 0, 1) := by decide +kernel
theorem dc134_84 : decode (pm_mb 134) 84 = .ok (.getfield 7, 3) := by decide +kernel
theorem dc134_87 : decode (pm_mb 134) 87 = .ok (.iload_n 1, 1) := by decide +kernel
theorem dc134_88 : decode (pm_mb 134) 88 = .ok (.iaload, 1) := by decide +kernel
theorem dc134_89 : decode (pm_mb 134) 89 = .ok (.iconst 1, 1) := by decide +kernel
theorem dc134_90 : decode (pm_mb 134) 90 = .ok (.if_icmp .ne 8, 3) := by decide +kernel
theorem dc134_93 : decode (pm_mb 134) 93 = .ok (.iload_n 3, 1) := by decide +kernel
theorem dc134_94 : decode (pm_mb 134) 94 = .ok (.i2s, 1) := by decide +kernel
theorem dc134_95 : decode (pm_mb 134) 95 = .ok (.goto 4, 3) := by decide +kernel
theorem dc134_98 : decode (pm_mb 134) 98 = .ok (.iload_n 3, 1) := by decide +kernel
theorem dc134_99 : decode (pm_mb 134) 99 = .ok (.iastore, 1) := by decide +kernel
theorem dc134_100 : decode (pm_mb 134) 100 = .ok (.aload_n 0, 1) := by decide +kernel
theorem dc134_101 : decode (pm_mb 134) 101 = .ok (.getfield 16, 3) := by decide +kernel
theorem dc134_104 : decode (pm_mb 134) 104 = .ok (.bipush 40, 2) := by decide +kernel
theorem dc134_106 : decode (pm_mb 134) 106 = .ok (.iload_n 1, 1) := by decide +kernel
theorem dc134_107 : decode (pm_mb 134) 107 = .ok (.imul, 1) := by decide +kernel
theorem dc134_108 : decode (pm_mb 134) 108 = .ok (.iload_n 2, 1) := by decide +kernel
theorem dc134_109 : decode (pm_mb 134) 109 = .ok (.iadd, 1) := by decide +kernel
theorem dc134_110 : decode (pm_mb 134) 110 = .ok (.iaload, 1) := by decide +kernel
theorem dc134_111 : decode (pm_mb 134) 111 = .ok (.ireturn, 1) := by decide +kernel
theorem b134_0 {X : pm_X} {d : Nat} {x1 : Int32} {x2 : Int32} {x3 : Int32} {g : pm_G} {iv : pm_V} (hL : pm_lay g) : pm_at X d 134 (0, [some (.ref 32), some (.int x1), some (.int x2), some (.int x3)], [], g, iv) = pm_then X d 134 9 [some (.ref 32), some (.int x1), some (.int x2), some (.int x3)] [] (pm_c X d 132 [.int x1] g (pm_iw iv 32 0 0)) := by
  refine (at_aload_n dc134_0 rfl).trans ?_
  refine (at_iconst (v := 0) dc134_1 rfl).trans ?_
  refine (at_pfI dc134_2 mc134 lf6_50 po6_0 (ly32 hL)).trans ?_
  refine (at_iload_n dc134_5 rfl).trans ?_
  exact at_ins dc134_6 mc134 lm6_64 (Nat.le_of_ble_eq_true rfl) rfl rfl (Nat.le_of_ble_eq_true rfl)
theorem b134_9 {X : pm_X} {d : Nat} {x1 : Int32} {x2 : Int32} {x3 : Int32} {s0 : Int32} {g : pm_G} {iv : pm_V}  : pm_at X d 134 (9, [some (.ref 32), some (.int x1), some (.int x2), some (.int x3)], [.int s0], g, iv) = if ¬ s0 = 0 then pm_at X d 134 (15, [some (.ref 32), some (.int x1), some (.int x2), some (.int x3)], [], g, iv) else pm_at X d 134 (12, [some (.ref 32), some (.int x1), some (.int x2), some (.int x3)], [], g, iv) := by
  exact at_if_ne (t := 15) dc134_9 (by decide)
theorem b134_12 {X : pm_X} {d : Nat} {x1 : Int32} {x2 : Int32} {x3 : Int32} {g : pm_G} {iv : pm_V}  : pm_at X d 134 (12, [some (.ref 32), some (.int x1), some (.int x2), some (.int x3)], [], g, iv) = some (some (.int (-1000001)), g, iv) := by
  refine (at_ldc dc134_12 mc134 lk6_70).trans ?_
  exact at_iret dc134_14 mr134
theorem b134_15 {X : pm_X} {d : Nat} {x1 : Int32} {x2 : Int32} {x3 : Int32} {g : pm_G} {iv : pm_V} (hL : pm_lay g) (i1 : vp_in x1 8) : pm_at X d 134 (15, [some (.ref 32), some (.int x1), some (.int x2), some (.int x3)], [], g, iv) = if 0 ≤ ((pm_iw iv 32 1 0) 33 (x1 : Int32).toNatClampNeg) then pm_at X d 134 (35, [some (.ref 32), some (.int x1), some (.int x2), some (.int x3)], [], g, (pm_iw iv 32 1 0)) else pm_at X d 134 (29, [some (.ref 32), some (.int x1), some (.int x2), some (.int x3)], [], g, (pm_iw iv 32 1 0)) := by
  refine (at_aload_n dc134_15 rfl).trans ?_
  refine (at_iconst (v := 0) dc134_16 rfl).trans ?_
  refine (at_pfI dc134_17 mc134 lf6_54 po6_1 (ly32 hL)).trans ?_
  refine (at_aload_n dc134_20 rfl).trans ?_
  refine (at_gfR dc134_21 mc134 lf6_7 fo6_2 (ly32 hL) (lr32_2 hL)).trans ?_
  refine (at_iload_n dc134_24 rfl).trans ?_
  refine (at_iald dc134_25 (ly33 hL) i1).trans ?_
  exact at_if_ge (t := 35) dc134_26 (by decide)
theorem b134_29 {X : pm_X} {d : Nat} {x1 : Int32} {x2 : Int32} {x3 : Int32} {g : pm_G} {iv : pm_V} (hL : pm_lay g) : pm_at X d 134 (29, [some (.ref 32), some (.int x1), some (.int x2), some (.int x3)], [], g, iv) = pm_then X d 134 34 [some (.ref 32), some (.int x1), some (.int x2), some (.int x3)] [] (pm_c X d 131 [.ref 32, .int 1] g iv) := by
  refine (at_aload_n dc134_29 rfl).trans ?_
  refine (at_iconst (v := 1) dc134_30 rfl).trans ?_
  exact at_inv dc134_31 mc134 lm6_71 rfl rfl (Nat.le_of_ble_eq_true rfl) (Or.inl ⟨(ly32 hL), by decide⟩)
theorem b134_34 {X : pm_X} {d : Nat} {x1 : Int32} {x2 : Int32} {x3 : Int32} {s0 : Int32} {g : pm_G} {iv : pm_V}  : pm_at X d 134 (34, [some (.ref 32), some (.int x1), some (.int x2), some (.int x3)], [.int s0], g, iv) = some (some (.int s0), g, iv) := by
  exact at_iret dc134_34 mr134
theorem b134_35 {X : pm_X} {d : Nat} {x1 : Int32} {x2 : Int32} {x3 : Int32} {g : pm_G} {iv : pm_V} (hL : pm_lay g) (i1 : vp_in x1 8) : pm_at X d 134 (35, [some (.ref 32), some (.int x1), some (.int x2), some (.int x3)], [], g, iv) = pm_then X d 134 50 [some (.ref 32), some (.int x1), some (.int x2), some (.int x3)] [] (pm_c X d 130 [.long (x2 : Int32).toInt64, .long 0, .long (((iv 34 (x1 : Int32).toNatClampNeg) - 1) : Int32).toInt64] g iv) := by
  refine (at_iload_n dc134_35 rfl).trans ?_
  refine (at_i2l dc134_36).trans ?_
  refine (at_lconst (v := 0) dc134_37 (by decide)).trans ?_
  refine (at_aload_n dc134_38 rfl).trans ?_
  refine (at_gfR dc134_39 mc134 lf6_13 fo6_3 (ly32 hL) (lr32_3 hL)).trans ?_
  refine (at_iload_n dc134_42 rfl).trans ?_
  refine (at_iald dc134_43 (ly34 hL) i1).trans ?_
  refine (at_iconst (v := 1) dc134_44 rfl).trans ?_
  refine (at_isub dc134_45).trans ?_
  refine (at_i2l dc134_46).trans ?_
  exact at_ins dc134_47 mc134 lm6_60 (Nat.le_of_ble_eq_true rfl) rfl rfl (Nat.le_of_ble_eq_true rfl)
theorem b134_50 {X : pm_X} {d : Nat} {x1 : Int32} {x2 : Int32} {x3 : Int32} {s0 : Int32} {g : pm_G} {iv : pm_V}  : pm_at X d 134 (50, [some (.ref 32), some (.int x1), some (.int x2), some (.int x3)], [.int s0], g, iv) = if ¬ s0 = 0 then pm_at X d 134 (59, [some (.ref 32), some (.int x1), some (.int x2), some (.int x3)], [], g, iv) else pm_at X d 134 (53, [some (.ref 32), some (.int x1), some (.int x2), some (.int x3)], [], g, iv) := by
  exact at_if_ne (t := 59) dc134_50 (by decide)
theorem b134_53 {X : pm_X} {d : Nat} {x1 : Int32} {x2 : Int32} {x3 : Int32} {g : pm_G} {iv : pm_V} (hL : pm_lay g) : pm_at X d 134 (53, [some (.ref 32), some (.int x1), some (.int x2), some (.int x3)], [], g, iv) = pm_then X d 134 58 [some (.ref 32), some (.int x1), some (.int x2), some (.int x3)] [] (pm_c X d 131 [.ref 32, .int 2] g iv) := by
  refine (at_aload_n dc134_53 rfl).trans ?_
  refine (at_iconst (v := 2) dc134_54 rfl).trans ?_
  exact at_inv dc134_55 mc134 lm6_71 rfl rfl (Nat.le_of_ble_eq_true rfl) (Or.inl ⟨(ly32 hL), by decide⟩)
theorem b134_58 {X : pm_X} {d : Nat} {x1 : Int32} {x2 : Int32} {x3 : Int32} {s0 : Int32} {g : pm_G} {iv : pm_V}  : pm_at X d 134 (58, [some (.ref 32), some (.int x1), some (.int x2), some (.int x3)], [.int s0], g, iv) = some (some (.int s0), g, iv) := by
  exact at_iret dc134_58 mr134
theorem b134_59 {X : pm_X} {d : Nat} {x1 : Int32} {x2 : Int32} {x3 : Int32} {g : pm_G} {iv : pm_V} (hL : pm_lay g) (i1 : vp_in x1 8) : pm_at X d 134 (59, [some (.ref 32), some (.int x1), some (.int x2), some (.int x3)], [], g, iv) = if ¬ (iv 33 (x1 : Int32).toNatClampNeg) = 0 then pm_at X d 134 (83, [some (.ref 32), some (.int x1), some (.int x2), some (.int x3)], [.int ((40 * x1) + x2), .ref 35], g, iv) else pm_at X d 134 (78, [some (.ref 32), some (.int x1), some (.int x2), some (.int x3)], [.int ((40 * x1) + x2), .ref 35], g, iv) := by
  refine (at_aload_n dc134_59 rfl).trans ?_
  refine (at_gfR dc134_60 mc134 lf6_16 fo6_4 (ly32 hL) (lr32_4 hL)).trans ?_
  refine (at_bipush (v := 40) dc134_63 (by decide)).trans ?_
  refine (at_iload_n dc134_65 rfl).trans ?_
  refine (at_imul dc134_66).trans ?_
  refine (at_iload_n dc134_67 rfl).trans ?_
  refine (at_iadd dc134_68).trans ?_
  refine (at_aload_n dc134_69 rfl).trans ?_
  refine (at_gfR dc134_70 mc134 lf6_7 fo6_2 (ly32 hL) (lr32_2 hL)).trans ?_
  refine (at_iload_n dc134_73 rfl).trans ?_
  refine (at_iald dc134_74 (ly33 hL) i1).trans ?_
  exact at_if_ne (t := 83) dc134_75 (by decide)
theorem b134_78 {X : pm_X} {d : Nat} {x1 : Int32} {x2 : Int32} {x3 : Int32} {s0 : Int32} {g : pm_G} {iv : pm_V}  : pm_at X d 134 (78, [some (.ref 32), some (.int x1), some (.int x2), some (.int x3)], [.int s0, .ref 35], g, iv) = pm_at X d 134 (99, [some (.ref 32), some (.int x1), some (.int x2), some (.int x3)], [.int x3.toInt8.toInt32, .int s0, .ref 35], g, iv) := by
  refine (at_iload_n dc134_78 rfl).trans ?_
  refine (at_i2b dc134_79).trans ?_
  refine (at_goto (t := 99) dc134_80 (by decide)).trans ?_
  rfl
theorem b134_83 {X : pm_X} {d : Nat} {x1 : Int32} {x2 : Int32} {x3 : Int32} {s0 : Int32} {g : pm_G} {iv : pm_V} (hL : pm_lay g) (i1 : vp_in x1 8) : pm_at X d 134 (83, [some (.ref 32), some (.int x1), some (.int x2), some (.int x3)], [.int s0, .ref 35], g, iv) = if ¬ (iv 33 (x1 : Int32).toNatClampNeg) = 1 then pm_at X d 134 (98, [some (.ref 32), some (.int x1), some (.int x2), some (.int x3)], [.int s0, .ref 35], g, iv) else pm_at X d 134 (93, [some (.ref 32), some (.int x1), some (.int x2), some (.int x3)], [.int s0, .ref 35], g, iv) := by
  refine (at_aload_n dc134_83 rfl).trans ?_
  refine (at_gfR dc134_84 mc134 lf6_7 fo6_2 (ly32 hL) (lr32_2 hL)).trans ?_
  refine (at_iload_n dc134_87 rfl).trans ?_
  refine (at_iald dc134_88 (ly33 hL) i1).trans ?_
  refine (at_iconst (v := 1) dc134_89 rfl).trans ?_
  exact at_icmp_ne (t := 98) dc134_90 (by decide)
theorem b134_93 {X : pm_X} {d : Nat} {x1 : Int32} {x2 : Int32} {x3 : Int32} {s0 : Int32} {g : pm_G} {iv : pm_V}  : pm_at X d 134 (93, [some (.ref 32), some (.int x1), some (.int x2), some (.int x3)], [.int s0, .ref 35], g, iv) = pm_at X d 134 (99, [some (.ref 32), some (.int x1), some (.int x2), some (.int x3)], [.int x3.toInt16.toInt32, .int s0, .ref 35], g, iv) := by
  refine (at_iload_n dc134_93 rfl).trans ?_
  refine (at_i2s dc134_94).trans ?_
  refine (at_goto (t := 99) dc134_95 (by decide)).trans ?_
  rfl
theorem b134_98 {X : pm_X} {d : Nat} {x1 : Int32} {x2 : Int32} {x3 : Int32} {s0 : Int32} {g : pm_G} {iv : pm_V}  : pm_at X d 134 (98, [some (.ref 32), some (.int x1), some (.int x2), some (.int x3)], [.int s0, .ref 35], g, iv) = pm_at X d 134 (99, [some (.ref 32), some (.int x1), some (.int x2), some (.int x3)], [.int x3, .int s0, .ref 35], g, iv) := by
  refine (at_iload_n dc134_98 rfl).trans ?_
  rfl
theorem b134_99 {X : pm_X} {d : Nat} {x1 : Int32} {x2 : Int32} {x3 : Int32} {s0 : Int32} {s1 : Int32} {g : pm_G} {iv : pm_V} (hL : pm_lay g) (i1 : vp_in s1 320) (i2 : vp_in (((40 * x1) + x2)) 320) : pm_at X d 134 (99, [some (.ref 32), some (.int x1), some (.int x2), some (.int x3)], [.int s0, .int s1, .ref 35], g, iv) = some (some (.int ((pm_iw iv 35 (s1 : Int32).toNatClampNeg s0) 35 (((40 * x1) + x2) : Int32).toNatClampNeg)), g, (pm_iw iv 35 (s1 : Int32).toNatClampNeg s0)) := by
  refine (at_iast dc134_99 (ly35 hL) i1).trans ?_
  refine (at_aload_n dc134_100 rfl).trans ?_
  refine (at_gfR dc134_101 mc134 lf6_16 fo6_4 (ly32 hL) (lr32_4 hL)).trans ?_
  refine (at_bipush (v := 40) dc134_104 (by decide)).trans ?_
  refine (at_iload_n dc134_106 rfl).trans ?_
  refine (at_imul dc134_107).trans ?_
  refine (at_iload_n dc134_108 rfl).trans ?_
  refine (at_iadd dc134_109).trans ?_
  refine (at_iald dc134_110 (ly35 hL) i2).trans ?_
  exact at_iret dc134_111 mr134
-- Mod.copy (IIIII)I
theorem dc135_0 : decode (pm_mb 135) 0 = .ok (.aload_n 0, 1) := by decide +kernel
theorem dc135_1 : decode (pm_mb 135) 1 = .ok (.iconst 0, 1) := by decide +kernel
theorem dc135_2 : decode (pm_mb 135) 2 = .ok (.putfield 50, 3) := by decide +kernel
theorem dc135_5 : decode (pm_mb 135) 5 = .ok (.iload_n 1, 1) := by decide +kernel
theorem dc135_6 : decode (pm_mb 135) 6 = .ok (.invokestatic 64, 3) := by decide +kernel
theorem dc135_9 : decode (pm_mb 135) 9 = .ok (.ifCond .eq 10, 3) := by decide +kernel
theorem dc135_12 : decode (pm_mb 135) 12 = .ok (.iload_n 3, 1) := by decide +kernel
theorem dc135_13 : decode (pm_mb 135) 13 = .ok (.invokestatic 64, 3) := by decide +kernel
theorem dc135_16 : decode (pm_mb 135) 16 = .ok (.ifCond .ne 6, 3) := by decide +kernel
theorem dc135_19 : decode (pm_mb 135) 19 = .ok (.ldc 70, 2) := by decide +kernel
theorem dc135_21 : decode (pm_mb 135) 21 = .ok (.ireturn, 1) := by decide +kernel
theorem dc135_22 : decode (pm_mb 135) 22 = .ok (.aload_n 0, 1) := by decide +kernel
theorem dc135_23 : decode (pm_mb 135) 23 = .ok (.iconst 0, 1) := by decide +kernel
theorem dc135_24 : decode (pm_mb 135) 24 = .ok (.putfield 54, 3) := by decide +kernel
theorem dc135_27 : decode (pm_mb 135) 27 = .ok (.aload_n 0, 1) := by decide +kernel
theorem dc135_28 : decode (pm_mb 135) 28 = .ok (.getfield 7, 3) := by decide +kernel
theorem dc135_31 : decode (pm_mb 135) 31 = .ok (.iload_n 1, 1) := by decide +kernel
theorem dc135_32 : decode (pm_mb 135) 32 = .ok (.iaload, 1) := by decide +kernel
theorem dc135_33 : decode (pm_mb 135) 33 = .ok (.ifCond .lt 12, 3) := by decide +kernel
theorem dc135_36 : decode (pm_mb 135) 36 = .ok (.aload_n 0, 1) := by decide +kernel
theorem dc135_37 : decode (pm_mb 135) 37 = .ok (.getfield 7, 3) := by decide +kernel
theorem dc135_40 : decode (pm_mb 135) 40 = .ok (.iload_n 3, 1) := by decide +kernel
theorem dc135_41 : decode (pm_mb 135) 41 = .ok (.iaload, 1) := by decide +kernel
theorem dc135_42 : decode (pm_mb 135) 42 = .ok (.ifCond .ge 9, 3) := by decide +kernel
theorem dc135_45 : decode (pm_mb 135) 45 = .ok (.aload_n 0, 1) := by decide +kernel
theorem dc135_46 : decode (pm_mb 135) 46 = .ok (.iconst 1, 1) := by decide +kernel
theorem dc135_47 : decode (pm_mb 135) 47 = .ok (.invokevirtual 71, 3) := by decide +kernel
theorem dc135_50 : decode (pm_mb 135) 50 = .ok (.ireturn, 1) := by decide +kernel
theorem dc135_51 : decode (pm_mb 135) 51 = .ok (.aload_n 0, 1) := by decide +kernel
theorem dc135_52 : decode (pm_mb 135) 52 = .ok (.getfield 7, 3) := by decide +kernel
theorem dc135_55 : decode (pm_mb 135) 55 = .ok (.iload_n 1, 1) := by decide +kernel
theorem dc135_56 : decode (pm_mb 135) 56 = .ok (.iaload, 1) := by decide +kernel
theorem dc135_57 : decode (pm_mb 135) 57 = .ok (.aload_n 0, 1) := by decide +kernel
theorem dc135_58 : decode (pm_mb 135) 58 = .ok (.getfield 7, 3) := by decide +kernel
theorem dc135_61 : decode (pm_mb 135) 61 = .ok (.iload_n 3, 1) := by decide +kernel
theorem dc135_62 : decode (pm_mb 135) 62 = .ok (.iaload, 1) := by decide +kernel
theorem dc135_63 : decode (pm_mb 135) 63 = .ok (.if_icmp .eq 9, 3) := by decide +kernel
theorem dc135_66 : decode (pm_mb 135) 66 = .ok (.aload_n 0, 1) := by decide +kernel
theorem dc135_67 : decode (pm_mb 135) 67 = .ok (.iconst 5, 1) := by decide +kernel
theorem dc135_68 : decode (pm_mb 135) 68 = .ok (.invokevirtual 71, 3) := by decide +kernel
theorem dc135_71 : decode (pm_mb 135) 71 = .ok (.ireturn, 1) := by decide +kernel
theorem dc135_72 : decode (pm_mb 135) 72 = .ok (.iload_n 2, 1) := by decide +kernel
theorem dc135_73 : decode (pm_mb 135) 73 = .ok (.ifCond .lt 48, 3) := by decide +kernel
theorem dc135_76 : decode (pm_mb 135) 76 = .ok (.iload 4, 2) := by decide +kernel
theorem dc135_78 : decode (pm_mb 135) 78 = .ok (.ifCond .lt 43, 3) := by decide +kernel
theorem dc135_81 : decode (pm_mb 135) 81 = .ok (.iload 5, 2) := by decide +kernel
theorem dc135_83 : decode (pm_mb 135) 83 = .ok (.ifCond .lt 38, 3) := by decide +kernel
theorem dc135_86 : decode (pm_mb 135) 86 = .ok (.iload_n 2, 1) := by decide +kernel
theorem dc135_87 : decode (pm_mb 135) 87 = .ok (.i2l, 1) := by decide +kernel
theorem dc135_88 : decode (pm_mb 135) 88 = .ok (.iload 5, 2) := by decide +kernel
theorem dc135_90 : decode (pm_mb 135) 90 = .ok (.i2l, 1) := by decide +kernel
theorem dc135_91 : decode (pm_mb 135) 91 = .ok (.ladd, 1) := by decide +kernel
theorem dc135_92 : decode (pm_mb 135) 92 = .ok (.aload_n 0, 1) := by decide +kernel
theorem dc135_93 : decode (pm_mb 135) 93 = .ok (.getfield 13, 3) := by decide +kernel
theorem dc135_96 : decode (pm_mb 135) 96 = .ok (.iload_n 1, 1) := by decide +kernel
theorem dc135_97 : decode (pm_mb 135) 97 = .ok (.iaload, 1) := by decide +kernel
theorem dc135_98 : decode (pm_mb 135) 98 = .ok (.i2l, 1) := by decide +kernel
theorem dc135_99 : decode (pm_mb 135) 99 = .ok (.lcmp, 1) := by decide +kernel
theorem dc135_100 : decode (pm_mb 135) 100 = .ok (.ifCond .gt 21, 3) := by decide +kernel
theorem dc135_103 : decode (pm_mb 135) 103 = .ok (.iload 4, 2) := by decide +kernel
theorem dc135_105 : decode (pm_mb 135) 105 = .ok (.i2l, 1) := by decide +kernel
theorem dc135_106 : decode (pm_mb 135) 106 = .ok (.iload 5, 2) := by decide +kernel
theorem dc135_108 : decode (pm_mb 135) 108 = .ok (.i2l, 1) := by decide +kernel
theorem dc135_109 : decode (pm_mb 135) 109 = .ok (.ladd, 1) := by decide +kernel
theorem dc135_110 : decode (pm_mb 135) 110 = .ok (.aload_n 0, 1) := by decide +kernel
theorem dc135_111 : decode (pm_mb 135) 111 = .ok (.getfield 13, 3) := by decide +kernel
theorem dc135_114 : decode (pm_mb 135) 114 = .ok (.iload_n 3, 1) := by decide +kernel
theorem dc135_115 : decode (pm_mb 135) 115 = .ok (.iaload, 1) := by decide +kernel
theorem dc135_116 : decode (pm_mb 135) 116 = .ok (.i2l, 1) := by decide +kernel
theorem dc135_117 : decode (pm_mb 135) 117 = .ok (.lcmp, 1) := by decide +kernel
theorem dc135_118 : decode (pm_mb 135) 118 = .ok (.ifCond .le 9, 3) := by decide +kernel
theorem dc135_121 : decode (pm_mb 135) 121 = .ok (.aload_n 0, 1) := by decide +kernel
theorem dc135_122 : decode (pm_mb 135) 122 = .ok (.iconst 2, 1) := by decide +kernel
theorem dc135_123 : decode (pm_mb 135) 123 = .ok (.invokevirtual 71, 3) := by decide +kernel
theorem dc135_126 : decode (pm_mb 135) 126 = .ok (.ireturn, 1) := by decide +kernel
theorem dc135_127 : decode (pm_mb 135) 127 = .ok (.iload_n 2, 1) := by decide +kernel
theorem dc135_128 : decode (pm_mb 135) 128 = .ok (.iload 4, 2) := by decide +kernel
theorem dc135_130 : decode (pm_mb 135) 130 = .ok (.if_icmp .lt 7, 3) := by decide +kernel
theorem dc135_133 : decode (pm_mb 135) 133 = .ok (.iconst 1, 1) := by decide +kernel
theorem dc135_134 : decode (pm_mb 135) 134 = .ok (.goto 4, 3) := by decide +kernel
theorem dc135_137 : decode (pm_mb 135) 137 = .ok (.iconst 0, 1) := by decide +kernel
theorem dc135_138 : decode (pm_mb 135) 138 = .ok (.istore 6, 2) := by decide +kernel
theorem dc135_140 : decode (pm_mb 135) 140 = .ok (.iconst 0, 1) := by decide +kernel
theorem dc135_141 : decode (pm_mb 135) 141 = .ok (.istore 7, 2) := by decide +kernel
theorem dc135_143 : decode (pm_mb 135) 143 = .ok (.iload 7, 2) := by decide +kernel
theorem dc135_145 : decode (pm_mb 135) 145 = .ok (.iload 5, 2) := by decide +kernel
theorem dc135_147 : decode (pm_mb 135) 147 = .ok (.if_icmp .ge 57, 3) := by decide +kernel
theorem dc135_150 : decode (pm_mb 135) 150 = .ok (.iload 6, 2) := by decide +kernel
theorem dc135_152 : decode (pm_mb 135) 152 = .ok (.ifCond .eq 8, 3) := by decide +kernel
theorem dc135_155 : decode (pm_mb 135) 155 = .ok (.iload 7, 2) := by decide +kernel
theorem dc135_157 : decode (pm_mb 135) 157 = .ok (.goto 10, 3) := by decide +kernel
theorem dc135_160 : decode (pm_mb 135) 160 = .ok (.iload 5, 2) := by decide +kernel
theorem dc135_162 : decode (pm_mb 135) 162 = .ok (.iconst 1, 1) := by decide +kernel
theorem dc135_163 : decode (pm_mb 135) 163 = .ok (.isub, 1) := by decide +kernel
theorem dc135_164 : decode (pm_mb 135) 164 = .ok (.iload 7, 2) := by decide +kernel
theorem dc135_166 : decode (pm_mb 135) 166 = .ok (.isub, 1) := by decide +kernel
theorem dc135_167 : decode (pm_mb 135) 167 = .ok (.istore 8, 2) := by decide +kernel
theorem dc135_169 : decode (pm_mb 135) 169 = .ok (.aload_n 0, 1) := by decide +kernel
theorem dc135_170 : decode (pm_mb 135) 170 = .ok (.getfield 16, 3) := by decide +kernel
theorem dc135_173 : decode (pm_mb 135) 173 = .ok (.bipush 40, 2) := by decide +kernel
theorem dc135_175 : decode (pm_mb 135) 175 = .ok (.iload_n 3, 1) := by decide +kernel
theorem dc135_176 : decode (pm_mb 135) 176 = .ok (.imul, 1) := by decide +kernel
theorem dc135_177 : decode (pm_mb 135) 177 = .ok (.iload 4, 2) := by decide +kernel
theorem dc135_179 : decode (pm_mb 135) 179 = .ok (.iadd, 1) := by decide +kernel
theorem dc135_180 : decode (pm_mb 135) 180 = .ok (.iload 8, 2) := by decide +kernel
theorem dc135_182 : decode (pm_mb 135) 182 = .ok (.iadd, 1) := by decide +kernel
theorem dc135_183 : decode (pm_mb 135) 183 = .ok (.aload_n 0, 1) := by decide +kernel
theorem dc135_184 : decode (pm_mb 135) 184 = .ok (.getfield 16, 3) := by decide +kernel
theorem dc135_187 : decode (pm_mb 135) 187 = .ok (.bipush 40, 2) := by decide +kernel
theorem dc135_189 : decode (pm_mb 135) 189 = .ok (.iload_n 1, 1) := by decide +kernel
theorem dc135_190 : decode (pm_mb 135) 190 = .ok (.imul, 1) := by decide +kernel
theorem dc135_191 : decode (pm_mb 135) 191 = .ok (.iload_n 2, 1) := by decide +kernel
theorem dc135_192 : decode (pm_mb 135) 192 = .ok (.iadd, 1) := by decide +kernel
theorem dc135_193 : decode (pm_mb 135) 193 = .ok (.iload 8, 2) := by decide +kernel
theorem dc135_195 : decode (pm_mb 135) 195 = .ok (.iadd, 1) := by decide +kernel
theorem dc135_196 : decode (pm_mb 135) 196 = .ok (.iaload, 1) := by decide +kernel
theorem dc135_197 : decode (pm_mb 135) 197 = .ok (.iastore, 1) := by decide +kernel
theorem dc135_198 : decode (pm_mb 135) 198 = .ok (.iinc 7 1, 3) := by decide +kernel
theorem dc135_201 : decode (pm_mb 135) 201 = .ok (.goto (-58), 3) := by decide +kernel
theorem dc135_204 : decode (pm_mb 135) 204 = .ok (.iload 5, 2) := by decide +kernel
theorem dc135_206 : decode (pm_mb 135) 206 = .ok (.ireturn, 1) := by decide +kernel
theorem b135_0 {X : pm_X} {d : Nat} {x1 : Int32} {x2 : Int32} {x3 : Int32} {x4 : Int32} {x5 : Int32} {g : pm_G} {iv : pm_V} (hL : pm_lay g) : pm_at X d 135 (0, [some (.ref 32), some (.int x1), some (.int x2), some (.int x3), some (.int x4), some (.int x5), none, none, none], [], g, iv) = pm_then X d 135 9 [some (.ref 32), some (.int x1), some (.int x2), some (.int x3), some (.int x4), some (.int x5), none, none, none] [] (pm_c X d 132 [.int x1] g (pm_iw iv 32 0 0)) := by
  refine (at_aload_n dc135_0 rfl).trans ?_
  refine (at_iconst (v := 0) dc135_1 rfl).trans ?_
  refine (at_pfI dc135_2 mc135 lf6_50 po6_0 (ly32 hL)).trans ?_
  refine (at_iload_n dc135_5 rfl).trans ?_
  exact at_ins dc135_6 mc135 lm6_64 (Nat.le_of_ble_eq_true rfl) rfl rfl (Nat.le_of_ble_eq_true rfl)
theorem b135_9 {X : pm_X} {d : Nat} {x1 : Int32} {x2 : Int32} {x3 : Int32} {x4 : Int32} {x5 : Int32} {s0 : Int32} {g : pm_G} {iv : pm_V}  : pm_at X d 135 (9, [some (.ref 32), some (.int x1), some (.int x2), some (.int x3), some (.int x4), some (.int x5), none, none, none], [.int s0], g, iv) = if s0 = 0 then pm_at X d 135 (19, [some (.ref 32), some (.int x1), some (.int x2), some (.int x3), some (.int x4), some (.int x5), none, none, none], [], g, iv) else pm_at X d 135 (12, [some (.ref 32), some (.int x1), some (.int x2), some (.int x3), some (.int x4), some (.int x5), none, none, none], [], g, iv) := by
  exact at_if_eq (t := 19) dc135_9 (by decide)
theorem b135_12 {X : pm_X} {d : Nat} {x1 : Int32} {x2 : Int32} {x3 : Int32} {x4 : Int32} {x5 : Int32} {g : pm_G} {iv : pm_V}  : pm_at X d 135 (12, [some (.ref 32), some (.int x1), some (.int x2), some (.int x3), some (.int x4), some (.int x5), none, none, none], [], g, iv) = pm_then X d 135 16 [some (.ref 32), some (.int x1), some (.int x2), some (.int x3), some (.int x4), some (.int x5), none, none, none] [] (pm_c X d 132 [.int x3] g iv) := by
  refine (at_iload_n dc135_12 rfl).trans ?_
  exact at_ins dc135_13 mc135 lm6_64 (Nat.le_of_ble_eq_true rfl) rfl rfl (Nat.le_of_ble_eq_true rfl)
theorem b135_16 {X : pm_X} {d : Nat} {x1 : Int32} {x2 : Int32} {x3 : Int32} {x4 : Int32} {x5 : Int32} {s0 : Int32} {g : pm_G} {iv : pm_V}  : pm_at X d 135 (16, [some (.ref 32), some (.int x1), some (.int x2), some (.int x3), some (.int x4), some (.int x5), none, none, none], [.int s0], g, iv) = if ¬ s0 = 0 then pm_at X d 135 (22, [some (.ref 32), some (.int x1), some (.int x2), some (.int x3), some (.int x4), some (.int x5), none, none, none], [], g, iv) else pm_at X d 135 (19, [some (.ref 32), some (.int x1), some (.int x2), some (.int x3), some (.int x4), some (.int x5), none, none, none], [], g, iv) := by
  exact at_if_ne (t := 22) dc135_16 (by decide)
theorem b135_19 {X : pm_X} {d : Nat} {x1 : Int32} {x2 : Int32} {x3 : Int32} {x4 : Int32} {x5 : Int32} {g : pm_G} {iv : pm_V}  : pm_at X d 135 (19, [some (.ref 32), some (.int x1), some (.int x2), some (.int x3), some (.int x4), some (.int x5), none, none, none], [], g, iv) = some (some (.int (-1000001)), g, iv) := by
  refine (at_ldc dc135_19 mc135 lk6_70).trans ?_
  exact at_iret dc135_21 mr135
theorem b135_22 {X : pm_X} {d : Nat} {x1 : Int32} {x2 : Int32} {x3 : Int32} {x4 : Int32} {x5 : Int32} {g : pm_G} {iv : pm_V} (hL : pm_lay g) (i1 : vp_in x1 8) : pm_at X d 135 (22, [some (.ref 32), some (.int x1), some (.int x2), some (.int x3), some (.int x4), some (.int x5), none, none, none], [], g, iv) = if ((pm_iw iv 32 1 0) 33 (x1 : Int32).toNatClampNeg) < 0 then pm_at X d 135 (45, [some (.ref 32), some (.int x1), some (.int x2), some (.int x3), some (.int x4), some (.int x5), none, none, none], [], g, (pm_iw iv 32 1 0)) else pm_at X d 135 (36, [some (.ref 32), some (.int x1), some (.int x2), some (.int x3), some (.int x4), some (.int x5), none, none, none], [], g, (pm_iw iv 32 1 0)) := by
  refine (at_aload_n dc135_22 rfl).trans ?_
  refine (at_iconst (v := 0) dc135_23 rfl).trans ?_
  refine (at_pfI dc135_24 mc135 lf6_54 po6_1 (ly32 hL)).trans ?_
  refine (at_aload_n dc135_27 rfl).trans ?_
  refine (at_gfR dc135_28 mc135 lf6_7 fo6_2 (ly32 hL) (lr32_2 hL)).trans ?_
  refine (at_iload_n dc135_31 rfl).trans ?_
  refine (at_iald dc135_32 (ly33 hL) i1).trans ?_
  exact at_if_lt (t := 45) dc135_33 (by decide)
theorem b135_36 {X : pm_X} {d : Nat} {x1 : Int32} {x2 : Int32} {x3 : Int32} {x4 : Int32} {x5 : Int32} {g : pm_G} {iv : pm_V} (hL : pm_lay g) (i1 : vp_in x3 8) : pm_at X d 135 (36, [some (.ref 32), some (.int x1), some (.int x2), some (.int x3), some (.int x4), some (.int x5), none, none, none], [], g, iv) = if 0 ≤ (iv 33 (x3 : Int32).toNatClampNeg) then pm_at X d 135 (51, [some (.ref 32), some (.int x1), some (.int x2), some (.int x3), some (.int x4), some (.int x5), none, none, none], [], g, iv) else pm_at X d 135 (45, [some (.ref 32), some (.int x1), some (.int x2), some (.int x3), some (.int x4), some (.int x5), none, none, none], [], g, iv) := by
  refine (at_aload_n dc135_36 rfl).trans ?_
  refine (at_gfR dc135_37 mc135 lf6_7 fo6_2 (ly32 hL) (lr32_2 hL)).trans ?_
  refine (at_iload_n dc135_40 rfl).trans ?_
  refine (at_iald dc135_41 (ly33 hL) i1).trans ?_
  exact at_if_ge (t := 51) dc135_42 (by decide)
theorem b135_45 {X : pm_X} {d : Nat} {x1 : Int32} {x2 : Int32} {x3 : Int32} {x4 : Int32} {x5 : Int32} {g : pm_G} {iv : pm_V} (hL : pm_lay g) : pm_at X d 135 (45, [some (.ref 32), some (.int x1), some (.int x2), some (.int x3), some (.int x4), some (.int x5), none, none, none], [], g, iv) = pm_then X d 135 50 [some (.ref 32), some (.int x1), some (.int x2), some (.int x3), some (.int x4), some (.int x5), none, none, none] [] (pm_c X d 131 [.ref 32, .int 1] g iv) := by
  refine (at_aload_n dc135_45 rfl).trans ?_
  refine (at_iconst (v := 1) dc135_46 rfl).trans ?_
  exact at_inv dc135_47 mc135 lm6_71 rfl rfl (Nat.le_of_ble_eq_true rfl) (Or.inl ⟨(ly32 hL), by decide⟩)
theorem b135_50 {X : pm_X} {d : Nat} {x1 : Int32} {x2 : Int32} {x3 : Int32} {x4 : Int32} {x5 : Int32} {s0 : Int32} {g : pm_G} {iv : pm_V}  : pm_at X d 135 (50, [some (.ref 32), some (.int x1), some (.int x2), some (.int x3), some (.int x4), some (.int x5), none, none, none], [.int s0], g, iv) = some (some (.int s0), g, iv) := by
  exact at_iret dc135_50 mr135
theorem b135_51 {X : pm_X} {d : Nat} {x1 : Int32} {x2 : Int32} {x3 : Int32} {x4 : Int32} {x5 : Int32} {g : pm_G} {iv : pm_V} (hL : pm_lay g) (i1 : vp_in x1 8) (i2 : vp_in x3 8) : pm_at X d 135 (51, [some (.ref 32), some (.int x1), some (.int x2), some (.int x3), some (.int x4), some (.int x5), none, none, none], [], g, iv) = if (iv 33 (x1 : Int32).toNatClampNeg) = (iv 33 (x3 : Int32).toNatClampNeg) then pm_at X d 135 (72, [some (.ref 32), some (.int x1), some (.int x2), some (.int x3), some (.int x4), some (.int x5), none, none, none], [], g, iv) else pm_at X d 135 (66, [some (.ref 32), some (.int x1), some (.int x2), some (.int x3), some (.int x4), some (.int x5), none, none, none], [], g, iv) := by
  refine (at_aload_n dc135_51 rfl).trans ?_
  refine (at_gfR dc135_52 mc135 lf6_7 fo6_2 (ly32 hL) (lr32_2 hL)).trans ?_
  refine (at_iload_n dc135_55 rfl).trans ?_
  refine (at_iald dc135_56 (ly33 hL) i1).trans ?_
  refine (at_aload_n dc135_57 rfl).trans ?_
  refine (at_gfR dc135_58 mc135 lf6_7 fo6_2 (ly32 hL) (lr32_2 hL)).trans ?_
  refine (at_iload_n dc135_61 rfl).trans ?_
  refine (at_iald dc135_62 (ly33 hL) i2).trans ?_
  exact at_icmp_eq (t := 72) dc135_63 (by decide)
theorem b135_66 {X : pm_X} {d : Nat} {x1 : Int32} {x2 : Int32} {x3 : Int32} {x4 : Int32} {x5 : Int32} {g : pm_G} {iv : pm_V} (hL : pm_lay g) : pm_at X d 135 (66, [some (.ref 32), some (.int x1), some (.int x2), some (.int x3), some (.int x4), some (.int x5), none, none, none], [], g, iv) = pm_then X d 135 71 [some (.ref 32), some (.int x1), some (.int x2), some (.int x3), some (.int x4), some (.int x5), none, none, none] [] (pm_c X d 131 [.ref 32, .int 5] g iv) := by
  refine (at_aload_n dc135_66 rfl).trans ?_
  refine (at_iconst (v := 5) dc135_67 rfl).trans ?_
  exact at_inv dc135_68 mc135 lm6_71 rfl rfl (Nat.le_of_ble_eq_true rfl) (Or.inl ⟨(ly32 hL), by decide⟩)
theorem b135_71 {X : pm_X} {d : Nat} {x1 : Int32} {x2 : Int32} {x3 : Int32} {x4 : Int32} {x5 : Int32} {s0 : Int32} {g : pm_G} {iv : pm_V}  : pm_at X d 135 (71, [some (.ref 32), some (.int x1), some (.int x2), some (.int x3), some (.int x4), some (.int x5), none, none, none], [.int s0], g, iv) = some (some (.int s0), g, iv) := by
  exact at_iret dc135_71 mr135
theorem b135_72 {X : pm_X} {d : Nat} {x1 : Int32} {x2 : Int32} {x3 : Int32} {x4 : Int32} {x5 : Int32} {g : pm_G} {iv : pm_V}  : pm_at X d 135 (72, [some (.ref 32), some (.int x1), some (.int x2), some (.int x3), some (.int x4), some (.int x5), none, none, none], [], g, iv) = if x2 < 0 then pm_at X d 135 (121, [some (.ref 32), some (.int x1), some (.int x2), some (.int x3), some (.int x4), some (.int x5), none, none, none], [], g, iv) else pm_at X d 135 (76, [some (.ref 32), some (.int x1), some (.int x2), some (.int x3), some (.int x4), some (.int x5), none, none, none], [], g, iv) := by
  refine (at_iload_n dc135_72 rfl).trans ?_
  exact at_if_lt (t := 121) dc135_73 (by decide)
theorem b135_76 {X : pm_X} {d : Nat} {x1 : Int32} {x2 : Int32} {x3 : Int32} {x4 : Int32} {x5 : Int32} {g : pm_G} {iv : pm_V}  : pm_at X d 135 (76, [some (.ref 32), some (.int x1), some (.int x2), some (.int x3), some (.int x4), some (.int x5), none, none, none], [], g, iv) = if x4 < 0 then pm_at X d 135 (121, [some (.ref 32), some (.int x1), some (.int x2), some (.int x3), some (.int x4), some (.int x5), none, none, none], [], g, iv) else pm_at X d 135 (81, [some (.ref 32), some (.int x1), some (.int x2), some (.int x3), some (.int x4), some (.int x5), none, none, none], [], g, iv) := by
  refine (at_iload dc135_76 rfl).trans ?_
  exact at_if_lt (t := 121) dc135_78 (by decide)
theorem b135_81 {X : pm_X} {d : Nat} {x1 : Int32} {x2 : Int32} {x3 : Int32} {x4 : Int32} {x5 : Int32} {g : pm_G} {iv : pm_V}  : pm_at X d 135 (81, [some (.ref 32), some (.int x1), some (.int x2), some (.int x3), some (.int x4), some (.int x5), none, none, none], [], g, iv) = if x5 < 0 then pm_at X d 135 (121, [some (.ref 32), some (.int x1), some (.int x2), some (.int x3), some (.int x4), some (.int x5), none, none, none], [], g, iv) else pm_at X d 135 (86, [some (.ref 32), some (.int x1), some (.int x2), some (.int x3), some (.int x4), some (.int x5), none, none, none], [], g, iv) := by
  refine (at_iload dc135_81 rfl).trans ?_
  exact at_if_lt (t := 121) dc135_83 (by decide)
theorem b135_86 {X : pm_X} {d : Nat} {x1 : Int32} {x2 : Int32} {x3 : Int32} {x4 : Int32} {x5 : Int32} {g : pm_G} {iv : pm_V} (hL : pm_lay g) (i1 : vp_in x1 8) : pm_at X d 135 (86, [some (.ref 32), some (.int x1), some (.int x2), some (.int x3), some (.int x4), some (.int x5), none, none, none], [], g, iv) = if 0 < (lg_cmp (((x2 : Int32).toInt64 + (x5 : Int32).toInt64)) (((iv 34 (x1 : Int32).toNatClampNeg) : Int32).toInt64)) then pm_at X d 135 (121, [some (.ref 32), some (.int x1), some (.int x2), some (.int x3), some (.int x4), some (.int x5), none, none, none], [], g, iv) else pm_at X d 135 (103, [some (.ref 32), some (.int x1), some (.int x2), some (.int x3), some (.int x4), some (.int x5), none, none, none], [], g, iv) := by
  refine (at_iload_n dc135_86 rfl).trans ?_
  refine (at_i2l dc135_87).trans ?_
  refine (at_iload dc135_88 rfl).trans ?_
  refine (at_i2l dc135_90).trans ?_
  refine (at_ladd dc135_91).trans ?_
  refine (at_aload_n dc135_92 rfl).trans ?_
  refine (at_gfR dc135_93 mc135 lf6_13 fo6_3 (ly32 hL) (lr32_3 hL)).trans ?_
  refine (at_iload_n dc135_96 rfl).trans ?_
  refine (at_iald dc135_97 (ly34 hL) i1).trans ?_
  refine (at_i2l dc135_98).trans ?_
  refine (at_lcmp dc135_99).trans ?_
  exact at_if_gt (t := 121) dc135_100 (by decide)
theorem b135_103 {X : pm_X} {d : Nat} {x1 : Int32} {x2 : Int32} {x3 : Int32} {x4 : Int32} {x5 : Int32} {g : pm_G} {iv : pm_V} (hL : pm_lay g) (i1 : vp_in x3 8) : pm_at X d 135 (103, [some (.ref 32), some (.int x1), some (.int x2), some (.int x3), some (.int x4), some (.int x5), none, none, none], [], g, iv) = if (lg_cmp (((x4 : Int32).toInt64 + (x5 : Int32).toInt64)) (((iv 34 (x3 : Int32).toNatClampNeg) : Int32).toInt64)) ≤ 0 then pm_at X d 135 (127, [some (.ref 32), some (.int x1), some (.int x2), some (.int x3), some (.int x4), some (.int x5), none, none, none], [], g, iv) else pm_at X d 135 (121, [some (.ref 32), some (.int x1), some (.int x2), some (.int x3), some (.int x4), some (.int x5), none, none, none], [], g, iv) := by
  refine (at_iload dc135_103 rfl).trans ?_
  refine (at_i2l dc135_105).trans ?_
  refine (at_iload dc135_106 rfl).trans ?_
  refine (at_i2l dc135_108).trans ?_
  refine (at_ladd dc135_109).trans ?_
  refine (at_aload_n dc135_110 rfl).trans ?_
  refine (at_gfR dc135_111 mc135 lf6_13 fo6_3 (ly32 hL) (lr32_3 hL)).trans ?_
  refine (at_iload_n dc135_114 rfl).trans ?_
  refine (at_iald dc135_115 (ly34 hL) i1).trans ?_
  refine (at_i2l dc135_116).trans ?_
  refine (at_lcmp dc135_117).trans ?_
  exact at_if_le (t := 127) dc135_118 (by decide)
theorem b135_121 {X : pm_X} {d : Nat} {x1 : Int32} {x2 : Int32} {x3 : Int32} {x4 : Int32} {x5 : Int32} {g : pm_G} {iv : pm_V} (hL : pm_lay g) : pm_at X d 135 (121, [some (.ref 32), some (.int x1), some (.int x2), some (.int x3), some (.int x4), some (.int x5), none, none, none], [], g, iv) = pm_then X d 135 126 [some (.ref 32), some (.int x1), some (.int x2), some (.int x3), some (.int x4), some (.int x5), none, none, none] [] (pm_c X d 131 [.ref 32, .int 2] g iv) := by
  refine (at_aload_n dc135_121 rfl).trans ?_
  refine (at_iconst (v := 2) dc135_122 rfl).trans ?_
  exact at_inv dc135_123 mc135 lm6_71 rfl rfl (Nat.le_of_ble_eq_true rfl) (Or.inl ⟨(ly32 hL), by decide⟩)
theorem b135_126 {X : pm_X} {d : Nat} {x1 : Int32} {x2 : Int32} {x3 : Int32} {x4 : Int32} {x5 : Int32} {s0 : Int32} {g : pm_G} {iv : pm_V}  : pm_at X d 135 (126, [some (.ref 32), some (.int x1), some (.int x2), some (.int x3), some (.int x4), some (.int x5), none, none, none], [.int s0], g, iv) = some (some (.int s0), g, iv) := by
  exact at_iret dc135_126 mr135
theorem b135_127 {X : pm_X} {d : Nat} {x1 : Int32} {x2 : Int32} {x3 : Int32} {x4 : Int32} {x5 : Int32} {g : pm_G} {iv : pm_V}  : pm_at X d 135 (127, [some (.ref 32), some (.int x1), some (.int x2), some (.int x3), some (.int x4), some (.int x5), none, none, none], [], g, iv) = if x2 < x4 then pm_at X d 135 (137, [some (.ref 32), some (.int x1), some (.int x2), some (.int x3), some (.int x4), some (.int x5), none, none, none], [], g, iv) else pm_at X d 135 (133, [some (.ref 32), some (.int x1), some (.int x2), some (.int x3), some (.int x4), some (.int x5), none, none, none], [], g, iv) := by
  refine (at_iload_n dc135_127 rfl).trans ?_
  refine (at_iload dc135_128 rfl).trans ?_
  exact at_icmp_lt (t := 137) dc135_130 (by decide)
theorem b135_133 {X : pm_X} {d : Nat} {x1 : Int32} {x2 : Int32} {x3 : Int32} {x4 : Int32} {x5 : Int32} {g : pm_G} {iv : pm_V}  : pm_at X d 135 (133, [some (.ref 32), some (.int x1), some (.int x2), some (.int x3), some (.int x4), some (.int x5), none, none, none], [], g, iv) = pm_at X d 135 (138, [some (.ref 32), some (.int x1), some (.int x2), some (.int x3), some (.int x4), some (.int x5), none, none, none], [.int 1], g, iv) := by
  refine (at_iconst (v := 1) dc135_133 rfl).trans ?_
  refine (at_goto (t := 138) dc135_134 (by decide)).trans ?_
  rfl
theorem b135_137 {X : pm_X} {d : Nat} {x1 : Int32} {x2 : Int32} {x3 : Int32} {x4 : Int32} {x5 : Int32} {g : pm_G} {iv : pm_V}  : pm_at X d 135 (137, [some (.ref 32), some (.int x1), some (.int x2), some (.int x3), some (.int x4), some (.int x5), none, none, none], [], g, iv) = pm_at X d 135 (138, [some (.ref 32), some (.int x1), some (.int x2), some (.int x3), some (.int x4), some (.int x5), none, none, none], [.int 0], g, iv) := by
  refine (at_iconst (v := 0) dc135_137 rfl).trans ?_
  rfl
theorem b135_138 {X : pm_X} {d : Nat} {x1 : Int32} {x2 : Int32} {x3 : Int32} {x4 : Int32} {x5 : Int32} {s0 : Int32} {g : pm_G} {iv : pm_V}  : pm_at X d 135 (138, [some (.ref 32), some (.int x1), some (.int x2), some (.int x3), some (.int x4), some (.int x5), none, none, none], [.int s0], g, iv) = pm_at X d 135 (143, [some (.ref 32), some (.int x1), some (.int x2), some (.int x3), some (.int x4), some (.int x5), some (.int s0), some (.int 0), none], [], g, iv) := by
  refine (at_istore dc135_138 rfl).trans ?_
  refine (at_iconst (v := 0) dc135_140 rfl).trans ?_
  refine (at_istore dc135_141 rfl).trans ?_
  rfl
theorem b135_143 {X : pm_X} {d : Nat} {x1 : Int32} {x2 : Int32} {x3 : Int32} {x4 : Int32} {x5 : Int32} {x6 : Int32} {x7 : Int32} {z8 : Option Value} {g : pm_G} {iv : pm_V}  : pm_at X d 135 (143, [some (.ref 32), some (.int x1), some (.int x2), some (.int x3), some (.int x4), some (.int x5), some (.int x6), some (.int x7), z8], [], g, iv) = if x5 ≤ x7 then pm_at X d 135 (204, [some (.ref 32), some (.int x1), some (.int x2), some (.int x3), some (.int x4), some (.int x5), some (.int x6), some (.int x7), z8], [], g, iv) else pm_at X d 135 (150, [some (.ref 32), some (.int x1), some (.int x2), some (.int x3), some (.int x4), some (.int x5), some (.int x6), some (.int x7), z8], [], g, iv) := by
  refine (at_iload dc135_143 rfl).trans ?_
  refine (at_iload dc135_145 rfl).trans ?_
  exact at_icmp_ge (t := 204) dc135_147 (by decide)
theorem b135_150 {X : pm_X} {d : Nat} {x1 : Int32} {x2 : Int32} {x3 : Int32} {x4 : Int32} {x5 : Int32} {x6 : Int32} {x7 : Int32} {z8 : Option Value} {g : pm_G} {iv : pm_V}  : pm_at X d 135 (150, [some (.ref 32), some (.int x1), some (.int x2), some (.int x3), some (.int x4), some (.int x5), some (.int x6), some (.int x7), z8], [], g, iv) = if x6 = 0 then pm_at X d 135 (160, [some (.ref 32), some (.int x1), some (.int x2), some (.int x3), some (.int x4), some (.int x5), some (.int x6), some (.int x7), z8], [], g, iv) else pm_at X d 135 (155, [some (.ref 32), some (.int x1), some (.int x2), some (.int x3), some (.int x4), some (.int x5), some (.int x6), some (.int x7), z8], [], g, iv) := by
  refine (at_iload dc135_150 rfl).trans ?_
  exact at_if_eq (t := 160) dc135_152 (by decide)
theorem b135_155 {X : pm_X} {d : Nat} {x1 : Int32} {x2 : Int32} {x3 : Int32} {x4 : Int32} {x5 : Int32} {x6 : Int32} {x7 : Int32} {z8 : Option Value} {g : pm_G} {iv : pm_V}  : pm_at X d 135 (155, [some (.ref 32), some (.int x1), some (.int x2), some (.int x3), some (.int x4), some (.int x5), some (.int x6), some (.int x7), z8], [], g, iv) = pm_at X d 135 (167, [some (.ref 32), some (.int x1), some (.int x2), some (.int x3), some (.int x4), some (.int x5), some (.int x6), some (.int x7), z8], [.int x7], g, iv) := by
  refine (at_iload dc135_155 rfl).trans ?_
  refine (at_goto (t := 167) dc135_157 (by decide)).trans ?_
  rfl
theorem b135_160 {X : pm_X} {d : Nat} {x1 : Int32} {x2 : Int32} {x3 : Int32} {x4 : Int32} {x5 : Int32} {x6 : Int32} {x7 : Int32} {z8 : Option Value} {g : pm_G} {iv : pm_V}  : pm_at X d 135 (160, [some (.ref 32), some (.int x1), some (.int x2), some (.int x3), some (.int x4), some (.int x5), some (.int x6), some (.int x7), z8], [], g, iv) = pm_at X d 135 (167, [some (.ref 32), some (.int x1), some (.int x2), some (.int x3), some (.int x4), some (.int x5), some (.int x6), some (.int x7), z8], [.int ((x5 - 1) - x7)], g, iv) := by
  refine (at_iload dc135_160 rfl).trans ?_
  refine (at_iconst (v := 1) dc135_162 rfl).trans ?_
  refine (at_isub dc135_163).trans ?_
  refine (at_iload dc135_164 rfl).trans ?_
  refine (at_isub dc135_166).trans ?_
  rfl
theorem b135_167 {X : pm_X} {d : Nat} {x1 : Int32} {x2 : Int32} {x3 : Int32} {x4 : Int32} {x5 : Int32} {x6 : Int32} {x7 : Int32} {z8 : Option Value} {s0 : Int32} {g : pm_G} {iv : pm_V} (hL : pm_lay g) (i1 : vp_in ((((40 * x1) + x2) + s0)) 320) (i2 : vp_in ((((40 * x3) + x4) + s0)) 320) : pm_at X d 135 (167, [some (.ref 32), some (.int x1), some (.int x2), some (.int x3), some (.int x4), some (.int x5), some (.int x6), some (.int x7), z8], [.int s0], g, iv) = pm_at X d 135 (143, [some (.ref 32), some (.int x1), some (.int x2), some (.int x3), some (.int x4), some (.int x5), some (.int x6), some (.int (x7 + 1)), some (.int s0)], [], g, (pm_iw iv 35 ((((40 * x3) + x4) + s0) : Int32).toNatClampNeg ((iv 35 ((((40 * x1) + x2) + s0) : Int32).toNatClampNeg)))) := by
  refine (at_istore dc135_167 rfl).trans ?_
  refine (at_aload_n dc135_169 rfl).trans ?_
  refine (at_gfR dc135_170 mc135 lf6_16 fo6_4 (ly32 hL) (lr32_4 hL)).trans ?_
  refine (at_bipush (v := 40) dc135_173 (by decide)).trans ?_
  refine (at_iload_n dc135_175 rfl).trans ?_
  refine (at_imul dc135_176).trans ?_
  refine (at_iload dc135_177 rfl).trans ?_
  refine (at_iadd dc135_179).trans ?_
  refine (at_iload dc135_180 rfl).trans ?_
  refine (at_iadd dc135_182).trans ?_
  refine (at_aload_n dc135_183 rfl).trans ?_
  refine (at_gfR dc135_184 mc135 lf6_16 fo6_4 (ly32 hL) (lr32_4 hL)).trans ?_
  refine (at_bipush (v := 40) dc135_187 (by decide)).trans ?_
  refine (at_iload_n dc135_189 rfl).trans ?_
  refine (at_imul dc135_190).trans ?_
  refine (at_iload_n dc135_191 rfl).trans ?_
  refine (at_iadd dc135_192).trans ?_
  refine (at_iload dc135_193 rfl).trans ?_
  refine (at_iadd dc135_195).trans ?_
  refine (at_iald dc135_196 (ly35 hL) i1).trans ?_
  refine (at_iast dc135_197 (ly35 hL) i2).trans ?_
  refine (at_iinc (v := 1) dc135_198 rfl (by decide) rfl).trans ?_
  refine (at_goto (t := 143) dc135_201 (by decide)).trans ?_
  rfl
theorem b135_204 {X : pm_X} {d : Nat} {x1 : Int32} {x2 : Int32} {x3 : Int32} {x4 : Int32} {x5 : Int32} {x6 : Int32} {x7 : Int32} {z8 : Option Value} {g : pm_G} {iv : pm_V}  : pm_at X d 135 (204, [some (.ref 32), some (.int x1), some (.int x2), some (.int x3), some (.int x4), some (.int x5), some (.int x6), some (.int x7), z8], [], g, iv) = some (some (.int x5), g, iv) := by
  refine (at_iload dc135_204 rfl).trans ?_
  exact at_iret dc135_206 mr135
-- Mod.drop (I)I
theorem dc136_0 : decode (pm_mb 136) 0 = .ok (.aload_n 0, 1) := by decide +kernel
theorem dc136_1 : decode (pm_mb 136) 1 = .ok (.iconst 0, 1) := by decide +kernel
theorem dc136_2 : decode (pm_mb 136) 2 = .ok (.putfield 50, 3) := by decide +kernel
theorem dc136_5 : decode (pm_mb 136) 5 = .ok (.iload_n 1, 1) := by decide +kernel
theorem dc136_6 : decode (pm_mb 136) 6 = .ok (.invokestatic 64, 3) := by decide +kernel
theorem dc136_9 : decode (pm_mb 136) 9 = .ok (.ifCond .ne 6, 3) := by decide +kernel
theorem dc136_12 : decode (pm_mb 136) 12 = .ok (.ldc 70, 2) := by decide +kernel
theorem dc136_14 : decode (pm_mb 136) 14 = .ok (.ireturn, 1) := by decide +kernel
theorem dc136_15 : decode (pm_mb 136) 15 = .ok (.aload_n 0, 1) := by decide +kernel
theorem dc136_16 : decode (pm_mb 136) 16 = .ok (.iconst 0, 1) := by decide +kernel
theorem dc136_17 : decode (pm_mb 136) 17 = .ok (.putfield 54, 3) := by decide +kernel
theorem dc136_20 : decode (pm_mb 136) 20 = .ok (.aload_n 0, 1) := by decide +kernel
theorem dc136_21 : decode (pm_mb 136) 21 = .ok (.getfield 7, 3) := by decide +kernel
theorem dc136_24 : decode (pm_mb 136) 24 = .ok (.iload_n 1, 1) := by decide +kernel
theorem dc136_25 : decode (pm_mb 136) 25 = .ok (.iaload, 1) := by decide +kernel
theorem dc136_26 : decode (pm_mb 136) 26 = .ok (.ifCond .ge 9, 3) := by decide +kernel
theorem dc136_29 : decode (pm_mb 136) 29 = .ok (.aload_n 0, 1) := by decide +kernel
theorem dc136_30 : decode (pm_mb 136) 30 = .ok (.iconst 1, 1) := by decide +kernel
theorem dc136_31 : decode (pm_mb 136) 31 = .ok (.invokevirtual 71, 3) := by decide +kernel
theorem dc136_34 : decode (pm_mb 136) 34 = .ok (.ireturn, 1) := by decide +kernel
theorem dc136_35 : decode (pm_mb 136) 35 = .ok (.aload_n 0, 1) := by decide +kernel
theorem dc136_36 : decode (pm_mb 136) 36 = .ok (.getfield 7, 3) := by decide +kernel
theorem dc136_39 : decode (pm_mb 136) 39 = .ok (.iload_n 1, 1) := by decide +kernel
theorem dc136_40 : decode (pm_mb 136) 40 = .ok (.iconst (-1), 1) := by decide +kernel
theorem dc136_41 : decode (pm_mb 136) 41 = .ok (.iastore, 1) := by decide +kernel
theorem dc136_42 : decode (pm_mb 136) 42 = .ok (.aload_n 0, 1) := by decide +kernel
theorem dc136_43 : decode (pm_mb 136) 43 = .ok (.getfield 13, 3) := by decide +kernel
theorem dc136_46 : decode (pm_mb 136) 46 = .ok (.iload_n 1, 1) := by decide +kernel
theorem dc136_47 : decode (pm_mb 136) 47 = .ok (.iaload, 1) := by decide +kernel
theorem dc136_48 : decode (pm_mb 136) 48 = .ok (.ireturn, 1) := by decide +kernel
theorem b136_0 {X : pm_X} {d : Nat} {x1 : Int32} {g : pm_G} {iv : pm_V} (hL : pm_lay g) : pm_at X d 136 (0, [some (.ref 32), some (.int x1)], [], g, iv) = pm_then X d 136 9 [some (.ref 32), some (.int x1)] [] (pm_c X d 132 [.int x1] g (pm_iw iv 32 0 0)) := by
  refine (at_aload_n dc136_0 rfl).trans ?_
  refine (at_iconst (v := 0) dc136_1 rfl).trans ?_
  refine (at_pfI dc136_2 mc136 lf6_50 po6_0 (ly32 hL)).trans ?_
  refine (at_iload_n dc136_5 rfl).trans ?_
  exact at_ins dc136_6 mc136 lm6_64 (Nat.le_of_ble_eq_true rfl) rfl rfl (Nat.le_of_ble_eq_true rfl)
theorem b136_9 {X : pm_X} {d : Nat} {x1 : Int32} {s0 : Int32} {g : pm_G} {iv : pm_V}  : pm_at X d 136 (9, [some (.ref 32), some (.int x1)], [.int s0], g, iv) = if ¬ s0 = 0 then pm_at X d 136 (15, [some (.ref 32), some (.int x1)], [], g, iv) else pm_at X d 136 (12, [some (.ref 32), some (.int x1)], [], g, iv) := by
  exact at_if_ne (t := 15) dc136_9 (by decide)
theorem b136_12 {X : pm_X} {d : Nat} {x1 : Int32} {g : pm_G} {iv : pm_V}  : pm_at X d 136 (12, [some (.ref 32), some (.int x1)], [], g, iv) = some (some (.int (-1000001)), g, iv) := by
  refine (at_ldc dc136_12 mc136 lk6_70).trans ?_
  exact at_iret dc136_14 mr136
theorem b136_15 {X : pm_X} {d : Nat} {x1 : Int32} {g : pm_G} {iv : pm_V} (hL : pm_lay g) (i1 : vp_in x1 8) : pm_at X d 136 (15, [some (.ref 32), some (.int x1)], [], g, iv) = if 0 ≤ ((pm_iw iv 32 1 0) 33 (x1 : Int32).toNatClampNeg) then pm_at X d 136 (35, [some (.ref 32), some (.int x1)], [], g, (pm_iw iv 32 1 0)) else pm_at X d 136 (29, [some (.ref 32), some (.int x1)], [], g, (pm_iw iv 32 1 0)) := by
  refine (at_aload_n dc136_15 rfl).trans ?_
  refine (at_iconst (v := 0) dc136_16 rfl).trans ?_
  refine (at_pfI dc136_17 mc136 lf6_54 po6_1 (ly32 hL)).trans ?_
  refine (at_aload_n dc136_20 rfl).trans ?_
  refine (at_gfR dc136_21 mc136 lf6_7 fo6_2 (ly32 hL) (lr32_2 hL)).trans ?_
  refine (at_iload_n dc136_24 rfl).trans ?_
  refine (at_iald dc136_25 (ly33 hL) i1).trans ?_
  exact at_if_ge (t := 35) dc136_26 (by decide)
theorem b136_29 {X : pm_X} {d : Nat} {x1 : Int32} {g : pm_G} {iv : pm_V} (hL : pm_lay g) : pm_at X d 136 (29, [some (.ref 32), some (.int x1)], [], g, iv) = pm_then X d 136 34 [some (.ref 32), some (.int x1)] [] (pm_c X d 131 [.ref 32, .int 1] g iv) := by
  refine (at_aload_n dc136_29 rfl).trans ?_
  refine (at_iconst (v := 1) dc136_30 rfl).trans ?_
  exact at_inv dc136_31 mc136 lm6_71 rfl rfl (Nat.le_of_ble_eq_true rfl) (Or.inl ⟨(ly32 hL), by decide⟩)
theorem b136_34 {X : pm_X} {d : Nat} {x1 : Int32} {s0 : Int32} {g : pm_G} {iv : pm_V}  : pm_at X d 136 (34, [some (.ref 32), some (.int x1)], [.int s0], g, iv) = some (some (.int s0), g, iv) := by
  exact at_iret dc136_34 mr136
theorem b136_35 {X : pm_X} {d : Nat} {x1 : Int32} {g : pm_G} {iv : pm_V} (hL : pm_lay g) (i1 : vp_in x1 8) : pm_at X d 136 (35, [some (.ref 32), some (.int x1)], [], g, iv) = some (some (.int ((pm_iw iv 33 (x1 : Int32).toNatClampNeg ((-1))) 34 (x1 : Int32).toNatClampNeg)), g, (pm_iw iv 33 (x1 : Int32).toNatClampNeg ((-1)))) := by
  refine (at_aload_n dc136_35 rfl).trans ?_
  refine (at_gfR dc136_36 mc136 lf6_7 fo6_2 (ly32 hL) (lr32_2 hL)).trans ?_
  refine (at_iload_n dc136_39 rfl).trans ?_
  refine (at_iconst (v := (-1)) dc136_40 rfl).trans ?_
  refine (at_iast dc136_41 (ly33 hL) i1).trans ?_
  refine (at_aload_n dc136_42 rfl).trans ?_
  refine (at_gfR dc136_43 mc136 lf6_13 fo6_3 (ly32 hL) (lr32_3 hL)).trans ?_
  refine (at_iload_n dc136_46 rfl).trans ?_
  refine (at_iald dc136_47 (ly34 hL) i1).trans ?_
  exact at_iret dc136_48 mr136
-- Mod.feed (JI)I
theorem dc137_0 : decode (pm_mb 137) 0 = .ok (.aload_n 0, 1) := by decide +kernel
theorem dc137_1 : decode (pm_mb 137) 1 = .ok (.iconst 0, 1) := by decide +kernel
theorem dc137_2 : decode (pm_mb 137) 2 = .ok (.putfield 50, 3) := by decide +kernel
theorem dc137_5 : decode (pm_mb 137) 5 = .ok (.iload_n 3, 1) := by decide +kernel
theorem dc137_6 : decode (pm_mb 137) 6 = .ok (.i2l, 1) := by decide +kernel
theorem dc137_7 : decode (pm_mb 137) 7 = .ok (.lconst 1, 1) := by decide +kernel
theorem dc137_8 : decode (pm_mb 137) 8 = .ok (.ldc2_w 75, 3) := by decide +kernel
theorem dc137_11 : decode (pm_mb 137) 11 = .ok (.invokestatic 60, 3) := by decide +kernel
theorem dc137_14 : decode (pm_mb 137) 14 = .ok (.ifCond .ne 6, 3) := by decide +kernel
theorem dc137_17 : decode (pm_mb 137) 17 = .ok (.ldc 70, 2) := by decide +kernel
theorem dc137_19 : decode (pm_mb 137) 19 = .ok (.ireturn, 1) := by decide +kernel
theorem dc137_20 : decode (pm_mb 137) 20 = .ok (.aload_n 0, 1) := by decide +kernel
theorem dc137_21 : decode (pm_mb 137) 21 = .ok (.getfield 77, 3) := by decide +kernel
theorem dc137_24 : decode (pm_mb 137) 24 = .ok (.iload_n 3, 1) := by decide +kernel
theorem dc137_25 : decode (pm_mb 137) 25 = .ok (.iadd, 1) := by decide +kernel
theorem dc137_26 : decode (pm_mb 137) 26 = .ok (.sipush 400, 3) := by decide +kernel
theorem dc137_29 : decode (pm_mb 137) 29 = .ok (.if_icmp .le 6, 3) := by decide +kernel
theorem dc137_32 : decode (pm_mb 137) 32 = .ok (.ldc 80, 2) := by decide +kernel
theorem dc137_34 : decode (pm_mb 137) 34 = .ok (.ireturn, 1) := by decide +kernel
theorem dc137_35 : decode (pm_mb 137) 35 = .ok (.iload_n 3, 1) := by decide +kernel
theorem dc137_36 : decode (pm_mb 137) 36 = .ok (.iconst 1, 1) := by decide +kernel
theorem dc137_37 : decode (pm_mb 137) 37 = .ok (.isub, 1) := by decide +kernel
theorem dc137_38 : decode (pm_mb 137) 38 = .ok (.istore 4, 2) := by decide +kernel
theorem dc137_40 : decode (pm_mb 137) 40 = .ok (.iload 4, 2) := by decide +kernel
theorem dc137_42 : decode (pm_mb 137) 42 = .ok (.ifCond .lt 40, 3) := by decide +kernel
theorem dc137_45 : decode (pm_mb 137) 45 = .ok (.aload_n 0, 1) := by decide +kernel
theorem dc137_46 : decode (pm_mb 137) 46 = .ok (.getfield 28, 3) := by decide +kernel
theorem dc137_49 : decode (pm_mb 137) 49 = .ok (.aload_n 0, 1) := by decide +kernel
theorem dc137_50 : decode (pm_mb 137) 50 = .ok (.getfield 77, 3) := by decide +kernel
theorem dc137_53 : decode (pm_mb 137) 53 = .ok (.lload_n 1, 1) := by decide +kernel
theorem dc137_54 : decode (pm_mb 137) 54 = .ok (.bipush 8, 2) := by decide +kernel
theorem dc137_56 : decode (pm_mb 137) 56 = .ok (.iload 4, 2) := by decide +kernel
theorem dc137_58 : decode (pm_mb 137) 58 = .ok (.imul, 1) := by decide +kernel
theorem dc137_59 : decode (pm_mb 137) 59 = .ok (.lshr, 1) := by decide +kernel
theorem dc137_60 : decode (pm_mb 137) 60 = .ok (.ldc2_w 81, 3) := by decide +kernel
theorem dc137_63 : decode (pm_mb 137) 63 = .ok (.land, 1) := by decide +kernel
theorem dc137_64 : decode (pm_mb 137) 64 = .ok (.l2i, 1) := by decide +kernel
theorem dc137_65 : decode (pm_mb 137) 65 = .ok (.iastore, 1) := by decide +kernel
theorem dc137_66 : decode (pm_mb 137) 66 = .ok (.aload_n 0, 1) := by decide +kernel
theorem dc137_67 : decode (pm_mb 137) 67 = .ok (.dup, 1) := by decide +kernel
theorem dc137_68 : decode (pm_mb 137) 68 = .ok (.getfield 77, 3) := by decide +kernel
theorem dc137_71 : decode (pm_mb 137) 71 = .ok (.iconst 1, 1) := by decide +kernel
theorem dc137_72 : decode (pm_mb 137) 72 = .ok (.iadd, 1) := by decide +kernel
theorem dc137_73 : decode (pm_mb 137) 73 = .ok (.putfield 77, 3) := by decide +kernel
theorem dc137_76 : decode (pm_mb 137) 76 = .ok (.iinc 4 (-1), 3) := by decide +kernel
theorem dc137_79 : decode (pm_mb 137) 79 = .ok (.goto (-39), 3) := by decide +kernel
theorem dc137_82 : decode (pm_mb 137) 82 = .ok (.aload_n 0, 1) := by decide +kernel
theorem dc137_83 : decode (pm_mb 137) 83 = .ok (.getfield 77, 3) := by decide +kernel
theorem dc137_86 : decode (pm_mb 137) 86 = .ok (.ireturn, 1) := by decide +kernel
theorem b137_0 {X : pm_X} {d : Nat} {x1 : Int64} {x3 : Int32} {g : pm_G} {iv : pm_V} (hL : pm_lay g) : pm_at X d 137 (0, [some (.ref 32), some (.long x1), none, some (.int x3), none], [], g, iv) = pm_then X d 137 14 [some (.ref 32), some (.long x1), none, some (.int x3), none] [] (pm_c X d 130 [.long (x3 : Int32).toInt64, .long 1, .long 8] g (pm_iw iv 32 0 0)) := by
  refine (at_aload_n dc137_0 rfl).trans ?_
  refine (at_iconst (v := 0) dc137_1 rfl).trans ?_
  refine (at_pfI dc137_2 mc137 lf6_50 po6_0 (ly32 hL)).trans ?_
  refine (at_iload_n dc137_5 rfl).trans ?_
  refine (at_i2l dc137_6).trans ?_
  refine (at_lconst (v := 1) dc137_7 (by decide)).trans ?_
  refine (at_ldc2 dc137_8 mc137 ll6_75).trans ?_
  exact at_ins dc137_11 mc137 lm6_60 (Nat.le_of_ble_eq_true rfl) rfl rfl (Nat.le_of_ble_eq_true rfl)
theorem b137_14 {X : pm_X} {d : Nat} {x1 : Int64} {x3 : Int32} {s0 : Int32} {g : pm_G} {iv : pm_V}  : pm_at X d 137 (14, [some (.ref 32), some (.long x1), none, some (.int x3), none], [.int s0], g, iv) = if ¬ s0 = 0 then pm_at X d 137 (20, [some (.ref 32), some (.long x1), none, some (.int x3), none], [], g, iv) else pm_at X d 137 (17, [some (.ref 32), some (.long x1), none, some (.int x3), none], [], g, iv) := by
  exact at_if_ne (t := 20) dc137_14 (by decide)
theorem b137_17 {X : pm_X} {d : Nat} {x1 : Int64} {x3 : Int32} {g : pm_G} {iv : pm_V}  : pm_at X d 137 (17, [some (.ref 32), some (.long x1), none, some (.int x3), none], [], g, iv) = some (some (.int (-1000001)), g, iv) := by
  refine (at_ldc dc137_17 mc137 lk6_70).trans ?_
  exact at_iret dc137_19 mr137
theorem b137_20 {X : pm_X} {d : Nat} {x1 : Int64} {x3 : Int32} {g : pm_G} {iv : pm_V} (hL : pm_lay g) : pm_at X d 137 (20, [some (.ref 32), some (.long x1), none, some (.int x3), none], [], g, iv) = if ((iv 32 10) + x3) ≤ 400 then pm_at X d 137 (35, [some (.ref 32), some (.long x1), none, some (.int x3), none], [], g, iv) else pm_at X d 137 (32, [some (.ref 32), some (.long x1), none, some (.int x3), none], [], g, iv) := by
  refine (at_aload_n dc137_20 rfl).trans ?_
  refine (at_gfI dc137_21 mc137 lf6_77 fo6_10 (ly32 hL)).trans ?_
  refine (at_iload_n dc137_24 rfl).trans ?_
  refine (at_iadd dc137_25).trans ?_
  refine (at_sipush (v := 400) dc137_26 (by decide)).trans ?_
  exact at_icmp_le (t := 35) dc137_29 (by decide)
theorem b137_32 {X : pm_X} {d : Nat} {x1 : Int64} {x3 : Int32} {g : pm_G} {iv : pm_V}  : pm_at X d 137 (32, [some (.ref 32), some (.long x1), none, some (.int x3), none], [], g, iv) = some (some (.int (-1000003)), g, iv) := by
  refine (at_ldc dc137_32 mc137 lk6_80).trans ?_
  exact at_iret dc137_34 mr137
theorem b137_35 {X : pm_X} {d : Nat} {x1 : Int64} {x3 : Int32} {g : pm_G} {iv : pm_V}  : pm_at X d 137 (35, [some (.ref 32), some (.long x1), none, some (.int x3), none], [], g, iv) = pm_at X d 137 (40, [some (.ref 32), some (.long x1), none, some (.int x3), some (.int (x3 - 1))], [], g, iv) := by
  refine (at_iload_n dc137_35 rfl).trans ?_
  refine (at_iconst (v := 1) dc137_36 rfl).trans ?_
  refine (at_isub dc137_37).trans ?_
  refine (at_istore dc137_38 rfl).trans ?_
  rfl
theorem b137_40 {X : pm_X} {d : Nat} {x1 : Int64} {x3 : Int32} {x4 : Int32} {g : pm_G} {iv : pm_V}  : pm_at X d 137 (40, [some (.ref 32), some (.long x1), none, some (.int x3), some (.int x4)], [], g, iv) = if x4 < 0 then pm_at X d 137 (82, [some (.ref 32), some (.long x1), none, some (.int x3), some (.int x4)], [], g, iv) else pm_at X d 137 (45, [some (.ref 32), some (.long x1), none, some (.int x3), some (.int x4)], [], g, iv) := by
  refine (at_iload dc137_40 rfl).trans ?_
  exact at_if_lt (t := 82) dc137_42 (by decide)
theorem b137_45 {X : pm_X} {d : Nat} {x1 : Int64} {x3 : Int32} {x4 : Int32} {g : pm_G} {iv : pm_V} (hL : pm_lay g) (i1 : vp_in ((iv 32 10)) 400) : pm_at X d 137 (45, [some (.ref 32), some (.long x1), none, some (.int x3), some (.int x4)], [], g, iv) = pm_at X d 137 (40, [some (.ref 32), some (.long x1), none, some (.int x3), some (.int (x4 + (-1)))], [], g, (pm_iw (pm_iw iv 39 ((iv 32 10) : Int32).toNatClampNeg ((((x1 >>> (((8 * x4) : Int32).toInt64 &&& 63)) &&& 255) : Int64).toInt32)) 32 10 ((((pm_iw iv 39 ((iv 32 10) : Int32).toNatClampNeg ((((x1 >>> (((8 * x4) : Int32).toInt64 &&& 63)) &&& 255) : Int64).toInt32)) 32 10) + 1)))) := by
  refine (at_aload_n dc137_45 rfl).trans ?_
  refine (at_gfR dc137_46 mc137 lf6_28 fo6_9 (ly32 hL) (lr32_9 hL)).trans ?_
  refine (at_aload_n dc137_49 rfl).trans ?_
  refine (at_gfI dc137_50 mc137 lf6_77 fo6_10 (ly32 hL)).trans ?_
  refine (at_lload_n dc137_53 rfl).trans ?_
  refine (at_bipush (v := 8) dc137_54 (by decide)).trans ?_
  refine (at_iload dc137_56 rfl).trans ?_
  refine (at_imul dc137_58).trans ?_
  refine (at_lshr dc137_59).trans ?_
  refine (at_ldc2 dc137_60 mc137 ll6_81).trans ?_
  refine (at_land dc137_63).trans ?_
  refine (at_l2i dc137_64).trans ?_
  refine (at_iast dc137_65 (ly39 hL) i1).trans ?_
  refine (at_aload_n dc137_66 rfl).trans ?_
  refine (at_dup dc137_67 rfl).trans ?_
  refine (at_gfI dc137_68 mc137 lf6_77 fo6_10 (ly32 hL)).trans ?_
  refine (at_iconst (v := 1) dc137_71 rfl).trans ?_
  refine (at_iadd dc137_72).trans ?_
  refine (at_pfI dc137_73 mc137 lf6_77 po6_10 (ly32 hL)).trans ?_
  refine (at_iinc (v := (-1)) dc137_76 rfl (by decide) rfl).trans ?_
  refine (at_goto (t := 40) dc137_79 (by decide)).trans ?_
  rfl
theorem b137_82 {X : pm_X} {d : Nat} {x1 : Int64} {x3 : Int32} {x4 : Int32} {g : pm_G} {iv : pm_V} (hL : pm_lay g) : pm_at X d 137 (82, [some (.ref 32), some (.long x1), none, some (.int x3), some (.int x4)], [], g, iv) = some (some (.int (iv 32 10)), g, iv) := by
  refine (at_aload_n dc137_82 rfl).trans ?_
  refine (at_gfI dc137_83 mc137 lf6_77 fo6_10 (ly32 hL)).trans ?_
  exact at_iret dc137_86 mr137
-- Mod.byteAt (I)I
theorem dc138_0 : decode (pm_mb 138) 0 = .ok (.iload_n 1, 1) := by decide +kernel
theorem dc138_1 : decode (pm_mb 138) 1 = .ok (.aload_n 0, 1) := by decide +kernel
theorem dc138_2 : decode (pm_mb 138) 2 = .ok (.getfield 83, 3) := by decide +kernel
theorem dc138_5 : decode (pm_mb 138) 5 = .ok (.if_icmp .ge 12, 3) := by decide +kernel
theorem dc138_8 : decode (pm_mb 138) 8 = .ok (.aload_n 0, 1) := by decide +kernel
theorem dc138_9 : decode (pm_mb 138) 9 = .ok (.getfield 28, 3) := by decide +kernel
theorem dc138_12 : decode (pm_mb 138) 12 = .ok (.iload_n 1, 1) := by decide +kernel
theorem dc138_13 : decode (pm_mb 138) 13 = .ok (.iaload, 1) := by decide +kernel
theorem dc138_14 : decode (pm_mb 138) 14 = .ok (.goto 5, 3) := by decide +kernel
theorem dc138_17 : decode (pm_mb 138) 17 = .ok (.ldc 86, 2) := by decide +kernel
theorem dc138_19 : decode (pm_mb 138) 19 = .ok (.ireturn, 1) := by decide +kernel
theorem b138_0 {X : pm_X} {d : Nat} {x1 : Int32} {g : pm_G} {iv : pm_V} (hL : pm_lay g) : pm_at X d 138 (0, [some (.ref 32), some (.int x1)], [], g, iv) = if (iv 32 12) ≤ x1 then pm_at X d 138 (17, [some (.ref 32), some (.int x1)], [], g, iv) else pm_at X d 138 (8, [some (.ref 32), some (.int x1)], [], g, iv) := by
  refine (at_iload_n dc138_0 rfl).trans ?_
  refine (at_aload_n dc138_1 rfl).trans ?_
  refine (at_gfI dc138_2 mc138 lf6_83 fo6_12 (ly32 hL)).trans ?_
  exact at_icmp_ge (t := 17) dc138_5 (by decide)
theorem b138_8 {X : pm_X} {d : Nat} {x1 : Int32} {g : pm_G} {iv : pm_V} (hL : pm_lay g) (i1 : vp_in x1 400) : pm_at X d 138 (8, [some (.ref 32), some (.int x1)], [], g, iv) = pm_at X d 138 (19, [some (.ref 32), some (.int x1)], [.int (iv 39 (x1 : Int32).toNatClampNeg)], g, iv) := by
  refine (at_aload_n dc138_8 rfl).trans ?_
  refine (at_gfR dc138_9 mc138 lf6_28 fo6_9 (ly32 hL) (lr32_9 hL)).trans ?_
  refine (at_iload_n dc138_12 rfl).trans ?_
  refine (at_iald dc138_13 (ly39 hL) i1).trans ?_
  refine (at_goto (t := 19) dc138_14 (by decide)).trans ?_
  rfl
theorem b138_17 {X : pm_X} {d : Nat} {x1 : Int32} {g : pm_G} {iv : pm_V}  : pm_at X d 138 (17, [some (.ref 32), some (.int x1)], [], g, iv) = pm_at X d 138 (19, [some (.ref 32), some (.int x1)], [.int (-1000000)], g, iv) := by
  refine (at_ldc dc138_17 mc138 lk6_86).trans ?_
  rfl
theorem b138_19 {X : pm_X} {d : Nat} {x1 : Int32} {s0 : Int32} {g : pm_G} {iv : pm_V}  : pm_at X d 138 (19, [some (.ref 32), some (.int x1)], [.int s0], g, iv) = some (some (.int s0), g, iv) := by
  exact at_iret dc138_19 mr138
-- Mod.isLetter (I)Z
theorem dc139_0 : decode (pm_mb 139) 0 = .ok (.iload_n 0, 1) := by decide +kernel
theorem dc139_1 : decode (pm_mb 139) 1 = .ok (.bipush 97, 2) := by decide +kernel
theorem dc139_3 : decode (pm_mb 139) 3 = .ok (.if_icmp .lt 13, 3) := by decide +kernel
theorem dc139_6 : decode (pm_mb 139) 6 = .ok (.iload_n 0, 1) := by decide +kernel
theorem dc139_7 : decode (pm_mb 139) 7 = .ok (.bipush 122, 2) := by decide +kernel
theorem dc139_9 : decode (pm_mb 139) 9 = .ok (.if_icmp .gt 7, 3) := by decide +kernel
theorem dc139_12 : decode (pm_mb 139) 12 = .ok (.iconst 1, 1) := by decide +kernel
theorem dc139_13 : decode (pm_mb 139) 13 = .ok (.goto 4, 3) := by decide +kernel
theorem dc139_16 : decode (pm_mb 139) 16 = .ok (.iconst 0, 1) := by decide +kernel
theorem dc139_17 : decode (pm_mb 139) 17 = .ok (.ireturn, 1) := by decide +kernel
theorem b139_0 {X : pm_X} {d : Nat} {x0 : Int32} {g : pm_G} {iv : pm_V}  : pm_at X d 139 (0, [some (.int x0)], [], g, iv) = if x0 < 97 then pm_at X d 139 (16, [some (.int x0)], [], g, iv) else pm_at X d 139 (6, [some (.int x0)], [], g, iv) := by
  refine (at_iload_n dc139_0 rfl).trans ?_
  refine (at_bipush (v := 97) dc139_1 (by decide)).trans ?_
  exact at_icmp_lt (t := 16) dc139_3 (by decide)
theorem b139_6 {X : pm_X} {d : Nat} {x0 : Int32} {g : pm_G} {iv : pm_V}  : pm_at X d 139 (6, [some (.int x0)], [], g, iv) = if 122 < x0 then pm_at X d 139 (16, [some (.int x0)], [], g, iv) else pm_at X d 139 (12, [some (.int x0)], [], g, iv) := by
  refine (at_iload_n dc139_6 rfl).trans ?_
  refine (at_bipush (v := 122) dc139_7 (by decide)).trans ?_
  exact at_icmp_gt (t := 16) dc139_9 (by decide)
theorem b139_12 {X : pm_X} {d : Nat} {x0 : Int32} {g : pm_G} {iv : pm_V}  : pm_at X d 139 (12, [some (.int x0)], [], g, iv) = pm_at X d 139 (17, [some (.int x0)], [.int 1], g, iv) := by
  refine (at_iconst (v := 1) dc139_12 rfl).trans ?_
  refine (at_goto (t := 17) dc139_13 (by decide)).trans ?_
  rfl
theorem b139_16 {X : pm_X} {d : Nat} {x0 : Int32} {g : pm_G} {iv : pm_V}  : pm_at X d 139 (16, [some (.int x0)], [], g, iv) = pm_at X d 139 (17, [some (.int x0)], [.int 0], g, iv) := by
  refine (at_iconst (v := 0) dc139_16 rfl).trans ?_
  rfl
theorem b139_17 {X : pm_X} {d : Nat} {x0 : Int32} {s0 : Int32} {g : pm_G} {iv : pm_V}  : pm_at X d 139 (17, [some (.int x0)], [.int s0], g, iv) = pm_zr s0 (some (some (.int s0), g, iv)) := by
  exact at_zretG dc139_17 mr139
-- Mod.isFigure (I)Z
theorem dc140_0 : decode (pm_mb 140) 0 = .ok (.iload_n 0, 1) := by decide +kernel
theorem dc140_1 : decode (pm_mb 140) 1 = .ok (.bipush 48, 2) := by decide +kernel
theorem dc140_3 : decode (pm_mb 140) 3 = .ok (.if_icmp .lt 13, 3) := by decide +kernel
theorem dc140_6 : decode (pm_mb 140) 6 = .ok (.iload_n 0, 1) := by decide +kernel
theorem dc140_7 : decode (pm_mb 140) 7 = .ok (.bipush 57, 2) := by decide +kernel
theorem dc140_9 : decode (pm_mb 140) 9 = .ok (.if_icmp .gt 7, 3) := by decide +kernel
theorem dc140_12 : decode (pm_mb 140) 12 = .ok (.iconst 1, 1) := by decide +kernel
theorem dc140_13 : decode (pm_mb 140) 13 = .ok (.goto 4, 3) := by decide +kernel
theorem dc140_16 : decode (pm_mb 140) 16 = .ok (.iconst 0, 1) := by decide +kernel
theorem dc140_17 : decode (pm_mb 140) 17 = .ok (.ireturn, 1) := by decide +kernel
theorem b140_0 {X : pm_X} {d : Nat} {x0 : Int32} {g : pm_G} {iv : pm_V}  : pm_at X d 140 (0, [some (.int x0)], [], g, iv) = if x0 < 48 then pm_at X d 140 (16, [some (.int x0)], [], g, iv) else pm_at X d 140 (6, [some (.int x0)], [], g, iv) := by
  refine (at_iload_n dc140_0 rfl).trans ?_
  refine (at_bipush (v := 48) dc140_1 (by decide)).trans ?_
  exact at_icmp_lt (t := 16) dc140_3 (by decide)
theorem b140_6 {X : pm_X} {d : Nat} {x0 : Int32} {g : pm_G} {iv : pm_V}  : pm_at X d 140 (6, [some (.int x0)], [], g, iv) = if 57 < x0 then pm_at X d 140 (16, [some (.int x0)], [], g, iv) else pm_at X d 140 (12, [some (.int x0)], [], g, iv) := by
  refine (at_iload_n dc140_6 rfl).trans ?_
  refine (at_bipush (v := 57) dc140_7 (by decide)).trans ?_
  exact at_icmp_gt (t := 16) dc140_9 (by decide)
theorem b140_12 {X : pm_X} {d : Nat} {x0 : Int32} {g : pm_G} {iv : pm_V}  : pm_at X d 140 (12, [some (.int x0)], [], g, iv) = pm_at X d 140 (17, [some (.int x0)], [.int 1], g, iv) := by
  refine (at_iconst (v := 1) dc140_12 rfl).trans ?_
  refine (at_goto (t := 17) dc140_13 (by decide)).trans ?_
  rfl
theorem b140_16 {X : pm_X} {d : Nat} {x0 : Int32} {g : pm_G} {iv : pm_V}  : pm_at X d 140 (16, [some (.int x0)], [], g, iv) = pm_at X d 140 (17, [some (.int x0)], [.int 0], g, iv) := by
  refine (at_iconst (v := 0) dc140_16 rfl).trans ?_
  rfl
theorem b140_17 {X : pm_X} {d : Nat} {x0 : Int32} {s0 : Int32} {g : pm_G} {iv : pm_V}  : pm_at X d 140 (17, [some (.int x0)], [.int s0], g, iv) = pm_zr s0 (some (some (.int s0), g, iv)) := by
  exact at_zretG dc140_17 mr140
-- Mod.next ()V
theorem dc141_0 : decode (pm_mb 141) 0 = .ok (.aload_n 0, 1) := by decide +kernel
theorem dc141_1 : decode (pm_mb 141) 1 = .ok (.aload_n 0, 1) := by decide +kernel
theorem dc141_2 : decode (pm_mb 141) 2 = .ok (.getfield 87, 3) := by decide +kernel
theorem dc141_5 : decode (pm_mb 141) 5 = .ok (.invokevirtual 90, 3) := by decide +kernel
theorem dc141_8 : decode (pm_mb 141) 8 = .ok (.bipush 32, 2) := by decide +kernel
theorem dc141_10 : decode (pm_mb 141) 10 = .ok (.if_icmp .eq 16, 3) := by decide +kernel
theorem dc141_13 : decode (pm_mb 141) 13 = .ok (.aload_n 0, 1) := by decide +kernel
theorem dc141_14 : decode (pm_mb 141) 14 = .ok (.aload_n 0, 1) := by decide +kernel
theorem dc141_15 : decode (pm_mb 141) 15 = .ok (.getfield 87, 3) := by decide +kernel
theorem dc141_18 : decode (pm_mb 141) 18 = .ok (.invokevirtual 90, 3) := by decide +kernel
theorem dc141_21 : decode (pm_mb 141) 21 = .ok (.bipush 10, 2) := by decide +kernel
theorem dc141_23 : decode (pm_mb 141) 23 = .ok (.if_icmp .ne 16, 3) := by decide +kernel
theorem dc141_26 : decode (pm_mb 141) 26 = .ok (.aload_n 0, 1) := by decide +kernel
theorem dc141_27 : decode (pm_mb 141) 27 = .ok (.dup, 1) := by decide +kernel
theorem dc141_28 : decode (pm_mb 141) 28 = .ok (.getfield 87, 3) := by decide +kernel
theorem dc141_31 : decode (pm_mb 141) 31 = .ok (.iconst 1, 1) := by decide +kernel
theorem dc141_32 : decode (pm_mb 141) 32 = .ok (.iadd, 1) := by decide +kernel
theorem dc141_33 : decode (pm_mb 141) 33 = .ok (.putfield 87, 3) := by decide +kernel
theorem dc141_36 : decode (pm_mb 141) 36 = .ok (.goto (-36), 3) := by decide +kernel
theorem dc141_39 : decode (pm_mb 141) 39 = .ok (.aload_n 0, 1) := by decide +kernel
theorem dc141_40 : decode (pm_mb 141) 40 = .ok (.aload_n 0, 1) := by decide +kernel
theorem dc141_41 : decode (pm_mb 141) 41 = .ok (.getfield 87, 3) := by decide +kernel
theorem dc141_44 : decode (pm_mb 141) 44 = .ok (.putfield 93, 3) := by decide +kernel
theorem dc141_47 : decode (pm_mb 141) 47 = .ok (.aload_n 0, 1) := by decide +kernel
theorem dc141_48 : decode (pm_mb 141) 48 = .ok (.aload_n 0, 1) := by decide +kernel
theorem dc141_49 : decode (pm_mb 141) 49 = .ok (.getfield 87, 3) := by decide +kernel
theorem dc141_52 : decode (pm_mb 141) 52 = .ok (.invokevirtual 90, 3) := by decide +kernel
theorem dc141_55 : decode (pm_mb 141) 55 = .ok (.istore_n 1, 1) := by decide +kernel
theorem dc141_56 : decode (pm_mb 141) 56 = .ok (.iload_n 1, 1) := by decide +kernel
theorem dc141_57 : decode (pm_mb 141) 57 = .ok (.ldc 86, 2) := by decide +kernel
theorem dc141_59 : decode (pm_mb 141) 59 = .ok (.if_icmp .ne 11, 3) := by decide +kernel
theorem dc141_62 : decode (pm_mb 141) 62 = .ok (.aload_n 0, 1) := by decide +kernel
theorem dc141_63 : decode (pm_mb 141) 63 = .ok (.iconst 1, 1) := by decide +kernel
theorem dc141_64 : decode (pm_mb 141) 64 = .ok (.putfield 96, 3) := by decide +kernel
theorem dc141_67 : decode (pm_mb 141) 67 = .ok (.goto 129, 3) := by decide +kernel
theorem dc141_70 : decode (pm_mb 141) 70 = .ok (.iload_n 1, 1) := by decide +kernel
theorem dc141_71 : decode (pm_mb 141) 71 = .ok (.invokestatic 99, 3) := by decide +kernel
theorem dc141_74 : decode (pm_mb 141) 74 = .ok (.ifCond .eq 38, 3) := by decide +kernel
theorem dc141_77 : decode (pm_mb 141) 77 = .ok (.aload_n 0, 1) := by decide +kernel
theorem dc141_78 : decode (pm_mb 141) 78 = .ok (.aload_n 0, 1) := by decide +kernel
theorem dc141_79 : decode (pm_mb 141) 79 = .ok (.getfield 87, 3) := by decide +kernel
theorem dc141_82 : decode (pm_mb 141) 82 = .ok (.invokevirtual 90, 3) := by decide +kernel
theorem dc141_85 : decode (pm_mb 141) 85 = .ok (.invokestatic 99, 3) := by decide +kernel
theorem dc141_88 : decode (pm_mb 141) 88 = .ok (.ifCond .eq 16, 3) := by decide +kernel
theorem dc141_91 : decode (pm_mb 141) 91 = .ok (.aload_n 0, 1) := by decide +kernel
theorem dc141_92 : decode (pm_mb 141) 92 = .ok (.dup, 1) := by decide +kernel
theorem dc141_93 : decode (pm_mb 141) 93 = .ok (.getfield 87, 3) := by decide +kernel
theorem dc141_96 : decode (pm_mb 141) 96 = .ok (.iconst 1, 1) := by decide +kernel
theorem dc141_97 : decode (pm_mb 141) 97 = .ok (.iadd, 1) := by decide +kernel
theorem dc141_98 : decode (pm_mb 141) 98 = .ok (.putfield 87, 3) := by decide +kernel
theorem dc141_101 : decode (pm_mb 141) 101 = .ok (.goto (-24), 3) := by decide +kernel
theorem dc141_104 : decode (pm_mb 141) 104 = .ok (.aload_n 0, 1) := by decide +kernel
theorem dc141_105 : decode (pm_mb 141) 105 = .ok (.iconst 2, 1) := by decide +kernel
theorem dc141_106 : decode (pm_mb 141) 106 = .ok (.putfield 96, 3) := by decide +kernel
theorem dc141_109 : decode (pm_mb 141) 109 = .ok (.goto 87, 3) := by decide +kernel
theorem dc141_112 : decode (pm_mb 141) 112 = .ok (.iload_n 1, 1) := by decide +kernel
theorem dc141_113 : decode (pm_mb 141) 113 = .ok (.invokestatic 102, 3) := by decide +kernel
theorem dc141_116 : decode (pm_mb 141) 116 = .ok (.ifCond .eq 55, 3) := by decide +kernel
theorem dc141_119 : decode (pm_mb 141) 119 = .ok (.aload_n 0, 1) := by decide +kernel
theorem dc141_120 : decode (pm_mb 141) 120 = .ok (.aload_n 0, 1) := by decide +kernel
theorem dc141_121 : decode (pm_mb 141) 121 = .ok (.getfield 87, 3) := by decide +kernel
theorem dc141_124 : decode (pm_mb 141) 124 = .ok (.invokevirtual 90, 3) := by decide +kernel
theorem dc141_127 : decode (pm_mb 141) 127 = .ok (.invokestatic 102, 3) := by decide +kernel
theorem dc141_130 : decode (pm_mb 141) 130 = .ok (.ifCond .eq 16, 3) := by decide +kernel
theorem dc141_133 : decode (pm_mb 141) 133 = .ok (.aload_n 0, 1) := by decide +kernel
theorem dc141_134 : decode (pm_mb 141) 134 = .ok (.dup, 1) := by decide +kernel
theorem dc141_135 : decode (pm_mb 141) 135 = .ok (.getfield 87, 3) := by decide +kernel
theorem dc141_138 : decode (pm_mb 141) 138 = .ok (.iconst 1, 1) := by decide +kernel
theorem dc141_139 : decode (pm_mb 141) 139 = .ok (.iadd, 1) := by decide +kernel
theorem dc141_140 : decode (pm_mb 141) 140 = .ok (.putfield 87, 3) := by decide +kernel
theorem dc141_143 : decode (pm_mb 141) 143 = .ok (.goto (-24), 3) := by decide +kernel
theorem dc141_146 : decode (pm_mb 141) 146 = .ok (.aload_n 0, 1) := by decide +kernel
theorem dc141_147 : decode (pm_mb 141) 147 = .ok (.aload_n 0, 1) := by decide +kernel
theorem dc141_148 : decode (pm_mb 141) 148 = .ok (.getfield 87, 3) := by decide +kernel
theorem dc141_151 : decode (pm_mb 141) 151 = .ok (.aload_n 0, 1) := by decide +kernel
theorem dc141_152 : decode (pm_mb 141) 152 = .ok (.getfield 93, 3) := by decide +kernel
theorem dc141_155 : decode (pm_mb 141) 155 = .ok (.isub, 1) := by decide +kernel
theorem dc141_156 : decode (pm_mb 141) 156 = .ok (.iconst 3, 1) := by decide +kernel
theorem dc141_157 : decode (pm_mb 141) 157 = .ok (.if_icmp .le 7, 3) := by decide +kernel
theorem dc141_160 : decode (pm_mb 141) 160 = .ok (.iconst 0, 1) := by decide +kernel
theorem dc141_161 : decode (pm_mb 141) 161 = .ok (.goto 4, 3) := by decide +kernel
theorem dc141_164 : decode (pm_mb 141) 164 = .ok (.iconst 3, 1) := by decide +kernel
theorem dc141_165 : decode (pm_mb 141) 165 = .ok (.putfield 96, 3) := by decide +kernel
theorem dc141_168 : decode (pm_mb 141) 168 = .ok (.goto 28, 3) := by decide +kernel
theorem dc141_171 : decode (pm_mb 141) 171 = .ok (.aload_n 0, 1) := by decide +kernel
theorem dc141_172 : decode (pm_mb 141) 172 = .ok (.dup, 1) := by decide +kernel
theorem dc141_173 : decode (pm_mb 141) 173 = .ok (.getfield 87, 3) := by decide +kernel
theorem dc141_176 : decode (pm_mb 141) 176 = .ok (.iconst 1, 1) := by decide +kernel
theorem dc141_177 : decode (pm_mb 141) 177 = .ok (.iadd, 1) := by decide +kernel
theorem dc141_178 : decode (pm_mb 141) 178 = .ok (.putfield 87, 3) := by decide +kernel
theorem dc141_181 : decode (pm_mb 141) 181 = .ok (.aload_n 0, 1) := by decide +kernel
theorem dc141_182 : decode (pm_mb 141) 182 = .ok (.iload_n 1, 1) := by decide +kernel
theorem dc141_183 : decode (pm_mb 141) 183 = .ok (.bipush 59, 2) := by decide +kernel
theorem dc141_185 : decode (pm_mb 141) 185 = .ok (.if_icmp .ne 7, 3) := by decide +kernel
theorem dc141_188 : decode (pm_mb 141) 188 = .ok (.iconst 4, 1) := by decide +kernel
theorem dc141_189 : decode (pm_mb 141) 189 = .ok (.goto 4, 3) := by decide +kernel
theorem dc141_192 : decode (pm_mb 141) 192 = .ok (.iconst 0, 1) := by decide +kernel
theorem dc141_193 : decode (pm_mb 141) 193 = .ok (.putfield 96, 3) := by decide +kernel
theorem dc141_196 : decode (pm_mb 141) 196 = .ok (.aload_n 0, 1) := by decide +kernel
theorem dc141_197 : decode (pm_mb 141) 197 = .ok (.aload_n 0, 1) := by decide +kernel
theorem dc141_198 : decode (pm_mb 141) 198 = .ok (.getfield 87, 3) := by decide +kernel
theorem dc141_201 : decode (pm_mb 141) 201 = .ok (.putfield 105, 3) := by decide +kernel
theorem dc141_204 : decode (pm_mb 141) 204 = .ok (.return_, 1) := by decide +kernel
theorem b141_0 {X : pm_X} {d : Nat} {g : pm_G} {iv : pm_V} (hL : pm_lay g) : pm_at X d 141 (0, [some (.ref 32), none], [], g, iv) = pm_then X d 141 8 [some (.ref 32), none] [] (pm_c X d 138 [.ref 32, .int (iv 32 13)] g iv) := by
  refine (at_aload_n dc141_0 rfl).trans ?_
  refine (at_aload_n dc141_1 rfl).trans ?_
  refine (at_gfI dc141_2 mc141 lf6_87 fo6_13 (ly32 hL)).trans ?_
  exact at_inv dc141_5 mc141 lm6_90 rfl rfl (Nat.le_of_ble_eq_true rfl) (Or.inl ⟨(ly32 hL), by decide⟩)
theorem b141_8 {X : pm_X} {d : Nat} {s0 : Int32} {g : pm_G} {iv : pm_V}  : pm_at X d 141 (8, [some (.ref 32), none], [.int s0], g, iv) = if s0 = 32 then pm_at X d 141 (26, [some (.ref 32), none], [], g, iv) else pm_at X d 141 (13, [some (.ref 32), none], [], g, iv) := by
  refine (at_bipush (v := 32) dc141_8 (by decide)).trans ?_
  exact at_icmp_eq (t := 26) dc141_10 (by decide)
theorem b141_13 {X : pm_X} {d : Nat} {g : pm_G} {iv : pm_V} (hL : pm_lay g) : pm_at X d 141 (13, [some (.ref 32), none], [], g, iv) = pm_then X d 141 21 [some (.ref 32), none] [] (pm_c X d 138 [.ref 32, .int (iv 32 13)] g iv) := by
  refine (at_aload_n dc141_13 rfl).trans ?_
  refine (at_aload_n dc141_14 rfl).trans ?_
  refine (at_gfI dc141_15 mc141 lf6_87 fo6_13 (ly32 hL)).trans ?_
  exact at_inv dc141_18 mc141 lm6_90 rfl rfl (Nat.le_of_ble_eq_true rfl) (Or.inl ⟨(ly32 hL), by decide⟩)
theorem b141_21 {X : pm_X} {d : Nat} {s0 : Int32} {g : pm_G} {iv : pm_V}  : pm_at X d 141 (21, [some (.ref 32), none], [.int s0], g, iv) = if ¬ s0 = 10 then pm_at X d 141 (39, [some (.ref 32), none], [], g, iv) else pm_at X d 141 (26, [some (.ref 32), none], [], g, iv) := by
  refine (at_bipush (v := 10) dc141_21 (by decide)).trans ?_
  exact at_icmp_ne (t := 39) dc141_23 (by decide)
theorem b141_26 {X : pm_X} {d : Nat} {g : pm_G} {iv : pm_V} (hL : pm_lay g) : pm_at X d 141 (26, [some (.ref 32), none], [], g, iv) = pm_at X d 141 (0, [some (.ref 32), none], [], g, (pm_iw iv 32 13 (((iv 32 13) + 1)))) := by
  refine (at_aload_n dc141_26 rfl).trans ?_
  refine (at_dup dc141_27 rfl).trans ?_
  refine (at_gfI dc141_28 mc141 lf6_87 fo6_13 (ly32 hL)).trans ?_
  refine (at_iconst (v := 1) dc141_31 rfl).trans ?_
  refine (at_iadd dc141_32).trans ?_
  refine (at_pfI dc141_33 mc141 lf6_87 po6_13 (ly32 hL)).trans ?_
  refine (at_goto (t := 0) dc141_36 (by decide)).trans ?_
  rfl
theorem b141_39 {X : pm_X} {d : Nat} {g : pm_G} {iv : pm_V} (hL : pm_lay g) : pm_at X d 141 (39, [some (.ref 32), none], [], g, iv) = pm_then X d 141 55 [some (.ref 32), none] [] (pm_c X d 138 [.ref 32, .int ((pm_iw iv 32 15 ((iv 32 13))) 32 13)] g (pm_iw iv 32 15 ((iv 32 13)))) := by
  refine (at_aload_n dc141_39 rfl).trans ?_
  refine (at_aload_n dc141_40 rfl).trans ?_
  refine (at_gfI dc141_41 mc141 lf6_87 fo6_13 (ly32 hL)).trans ?_
  refine (at_pfI dc141_44 mc141 lf6_93 po6_15 (ly32 hL)).trans ?_
  refine (at_aload_n dc141_47 rfl).trans ?_
  refine (at_aload_n dc141_48 rfl).trans ?_
  refine (at_gfI dc141_49 mc141 lf6_87 fo6_13 (ly32 hL)).trans ?_
  exact at_inv dc141_52 mc141 lm6_90 rfl rfl (Nat.le_of_ble_eq_true rfl) (Or.inl ⟨(ly32 hL), by decide⟩)
theorem b141_55 {X : pm_X} {d : Nat} {s0 : Int32} {g : pm_G} {iv : pm_V}  : pm_at X d 141 (55, [some (.ref 32), none], [.int s0], g, iv) = if ¬ s0 = (-1000000) then pm_at X d 141 (70, [some (.ref 32), some (.int s0)], [], g, iv) else pm_at X d 141 (62, [some (.ref 32), some (.int s0)], [], g, iv) := by
  refine (at_istore_n dc141_55 rfl).trans ?_
  refine (at_iload_n dc141_56 rfl).trans ?_
  refine (at_ldc dc141_57 mc141 lk6_86).trans ?_
  exact at_icmp_ne (t := 70) dc141_59 (by decide)
theorem b141_62 {X : pm_X} {d : Nat} {x1 : Int32} {g : pm_G} {iv : pm_V} (hL : pm_lay g) : pm_at X d 141 (62, [some (.ref 32), some (.int x1)], [], g, iv) = pm_at X d 141 (196, [some (.ref 32), some (.int x1)], [], g, (pm_iw iv 32 14 1)) := by
  refine (at_aload_n dc141_62 rfl).trans ?_
  refine (at_iconst (v := 1) dc141_63 rfl).trans ?_
  refine (at_pfI dc141_64 mc141 lf6_96 po6_14 (ly32 hL)).trans ?_
  refine (at_goto (t := 196) dc141_67 (by decide)).trans ?_
  rfl
theorem b141_70 {X : pm_X} {d : Nat} {x1 : Int32} {g : pm_G} {iv : pm_V}  : pm_at X d 141 (70, [some (.ref 32), some (.int x1)], [], g, iv) = pm_then X d 141 74 [some (.ref 32), some (.int x1)] [] (pm_c X d 139 [.int x1] g iv) := by
  refine (at_iload_n dc141_70 rfl).trans ?_
  exact at_ins dc141_71 mc141 lm6_99 (Nat.le_of_ble_eq_true rfl) rfl rfl (Nat.le_of_ble_eq_true rfl)
theorem b141_74 {X : pm_X} {d : Nat} {x1 : Int32} {s0 : Int32} {g : pm_G} {iv : pm_V}  : pm_at X d 141 (74, [some (.ref 32), some (.int x1)], [.int s0], g, iv) = if s0 = 0 then pm_at X d 141 (112, [some (.ref 32), some (.int x1)], [], g, iv) else pm_at X d 141 (77, [some (.ref 32), some (.int x1)], [], g, iv) := by
  exact at_if_eq (t := 112) dc141_74 (by decide)
theorem b141_77 {X : pm_X} {d : Nat} {x1 : Int32} {g : pm_G} {iv : pm_V} (hL : pm_lay g) : pm_at X d 141 (77, [some (.ref 32), some (.int x1)], [], g, iv) = pm_then X d 141 85 [some (.ref 32), some (.int x1)] [] (pm_c X d 138 [.ref 32, .int (iv 32 13)] g iv) := by
  refine (at_aload_n dc141_77 rfl).trans ?_
  refine (at_aload_n dc141_78 rfl).trans ?_
  refine (at_gfI dc141_79 mc141 lf6_87 fo6_13 (ly32 hL)).trans ?_
  exact at_inv dc141_82 mc141 lm6_90 rfl rfl (Nat.le_of_ble_eq_true rfl) (Or.inl ⟨(ly32 hL), by decide⟩)
theorem b141_85 {X : pm_X} {d : Nat} {x1 : Int32} {s0 : Int32} {g : pm_G} {iv : pm_V}  : pm_at X d 141 (85, [some (.ref 32), some (.int x1)], [.int s0], g, iv) = pm_then X d 141 88 [some (.ref 32), some (.int x1)] [] (pm_c X d 139 [.int s0] g iv) := by
  exact at_ins dc141_85 mc141 lm6_99 (Nat.le_of_ble_eq_true rfl) rfl rfl (Nat.le_of_ble_eq_true rfl)
theorem b141_88 {X : pm_X} {d : Nat} {x1 : Int32} {s0 : Int32} {g : pm_G} {iv : pm_V}  : pm_at X d 141 (88, [some (.ref 32), some (.int x1)], [.int s0], g, iv) = if s0 = 0 then pm_at X d 141 (104, [some (.ref 32), some (.int x1)], [], g, iv) else pm_at X d 141 (91, [some (.ref 32), some (.int x1)], [], g, iv) := by
  exact at_if_eq (t := 104) dc141_88 (by decide)
theorem b141_91 {X : pm_X} {d : Nat} {x1 : Int32} {g : pm_G} {iv : pm_V} (hL : pm_lay g) : pm_at X d 141 (91, [some (.ref 32), some (.int x1)], [], g, iv) = pm_at X d 141 (77, [some (.ref 32), some (.int x1)], [], g, (pm_iw iv 32 13 (((iv 32 13) + 1)))) := by
  refine (at_aload_n dc141_91 rfl).trans ?_
  refine (at_dup dc141_92 rfl).trans ?_
  refine (at_gfI dc141_93 mc141 lf6_87 fo6_13 (ly32 hL)).trans ?_
  refine (at_iconst (v := 1) dc141_96 rfl).trans ?_
  refine (at_iadd dc141_97).trans ?_
  refine (at_pfI dc141_98 mc141 lf6_87 po6_13 (ly32 hL)).trans ?_
  refine (at_goto (t := 77) dc141_101 (by decide)).trans ?_
  rfl
theorem b141_104 {X : pm_X} {d : Nat} {x1 : Int32} {g : pm_G} {iv : pm_V} (hL : pm_lay g) : pm_at X d 141 (104, [some (.ref 32), some (.int x1)], [], g, iv) = pm_at X d 141 (196, [some (.ref 32), some (.int x1)], [], g, (pm_iw iv 32 14 2)) := by
  refine (at_aload_n dc141_104 rfl).trans ?_
  refine (at_iconst (v := 2) dc141_105 rfl).trans ?_
  refine (at_pfI dc141_106 mc141 lf6_96 po6_14 (ly32 hL)).trans ?_
  refine (at_goto (t := 196) dc141_109 (by decide)).trans ?_
  rfl
theorem b141_112 {X : pm_X} {d : Nat} {x1 : Int32} {g : pm_G} {iv : pm_V}  : pm_at X d 141 (112, [some (.ref 32), some (.int x1)], [], g, iv) = pm_then X d 141 116 [some (.ref 32), some (.int x1)] [] (pm_c X d 140 [.int x1] g iv) := by
  refine (at_iload_n dc141_112 rfl).trans ?_
  exact at_ins dc141_113 mc141 lm6_102 (Nat.le_of_ble_eq_true rfl) rfl rfl (Nat.le_of_ble_eq_true rfl)
theorem b141_116 {X : pm_X} {d : Nat} {x1 : Int32} {s0 : Int32} {g : pm_G} {iv : pm_V}  : pm_at X d 141 (116, [some (.ref 32), some (.int x1)], [.int s0], g, iv) = if s0 = 0 then pm_at X d 141 (171, [some (.ref 32), some (.int x1)], [], g, iv) else pm_at X d 141 (119, [some (.ref 32), some (.int x1)], [], g, iv) := by
  exact at_if_eq (t := 171) dc141_116 (by decide)
theorem b141_119 {X : pm_X} {d : Nat} {x1 : Int32} {g : pm_G} {iv : pm_V} (hL : pm_lay g) : pm_at X d 141 (119, [some (.ref 32), some (.int x1)], [], g, iv) = pm_then X d 141 127 [some (.ref 32), some (.int x1)] [] (pm_c X d 138 [.ref 32, .int (iv 32 13)] g iv) := by
  refine (at_aload_n dc141_119 rfl).trans ?_
  refine (at_aload_n dc141_120 rfl).trans ?_
  refine (at_gfI dc141_121 mc141 lf6_87 fo6_13 (ly32 hL)).trans ?_
  exact at_inv dc141_124 mc141 lm6_90 rfl rfl (Nat.le_of_ble_eq_true rfl) (Or.inl ⟨(ly32 hL), by decide⟩)
theorem b141_127 {X : pm_X} {d : Nat} {x1 : Int32} {s0 : Int32} {g : pm_G} {iv : pm_V}  : pm_at X d 141 (127, [some (.ref 32), some (.int x1)], [.int s0], g, iv) = pm_then X d 141 130 [some (.ref 32), some (.int x1)] [] (pm_c X d 140 [.int s0] g iv) := by
  exact at_ins dc141_127 mc141 lm6_102 (Nat.le_of_ble_eq_true rfl) rfl rfl (Nat.le_of_ble_eq_true rfl)
theorem b141_130 {X : pm_X} {d : Nat} {x1 : Int32} {s0 : Int32} {g : pm_G} {iv : pm_V}  : pm_at X d 141 (130, [some (.ref 32), some (.int x1)], [.int s0], g, iv) = if s0 = 0 then pm_at X d 141 (146, [some (.ref 32), some (.int x1)], [], g, iv) else pm_at X d 141 (133, [some (.ref 32), some (.int x1)], [], g, iv) := by
  exact at_if_eq (t := 146) dc141_130 (by decide)
theorem b141_133 {X : pm_X} {d : Nat} {x1 : Int32} {g : pm_G} {iv : pm_V} (hL : pm_lay g) : pm_at X d 141 (133, [some (.ref 32), some (.int x1)], [], g, iv) = pm_at X d 141 (119, [some (.ref 32), some (.int x1)], [], g, (pm_iw iv 32 13 (((iv 32 13) + 1)))) := by
  refine (at_aload_n dc141_133 rfl).trans ?_
  refine (at_dup dc141_134 rfl).trans ?_
  refine (at_gfI dc141_135 mc141 lf6_87 fo6_13 (ly32 hL)).trans ?_
  refine (at_iconst (v := 1) dc141_138 rfl).trans ?_
  refine (at_iadd dc141_139).trans ?_
  refine (at_pfI dc141_140 mc141 lf6_87 po6_13 (ly32 hL)).trans ?_
  refine (at_goto (t := 119) dc141_143 (by decide)).trans ?_
  rfl
theorem b141_146 {X : pm_X} {d : Nat} {x1 : Int32} {g : pm_G} {iv : pm_V} (hL : pm_lay g) : pm_at X d 141 (146, [some (.ref 32), some (.int x1)], [], g, iv) = if ((iv 32 13) - (iv 32 15)) ≤ 3 then pm_at X d 141 (164, [some (.ref 32), some (.int x1)], [.ref 32], g, iv) else pm_at X d 141 (160, [some (.ref 32), some (.int x1)], [.ref 32], g, iv) := by
  refine (at_aload_n dc141_146 rfl).trans ?_
  refine (at_aload_n dc141_147 rfl).trans ?_
  refine (at_gfI dc141_148 mc141 lf6_87 fo6_13 (ly32 hL)).trans ?_
  refine (at_aload_n dc141_151 rfl).trans ?_
  refine (at_gfI dc141_152 mc141 lf6_93 fo6_15 (ly32 hL)).trans ?_
  refine (at_isub dc141_155).trans ?_
  refine (at_iconst (v := 3) dc141_156 rfl).trans ?_
  exact at_icmp_le (t := 164) dc141_157 (by decide)
theorem b141_160 {X : pm_X} {d : Nat} {x1 : Int32} {g : pm_G} {iv : pm_V}  : pm_at X d 141 (160, [some (.ref 32), some (.int x1)], [.ref 32], g, iv) = pm_at X d 141 (165, [some (.ref 32), some (.int x1)], [.int 0, .ref 32], g, iv) := by
  refine (at_iconst (v := 0) dc141_160 rfl).trans ?_
  refine (at_goto (t := 165) dc141_161 (by decide)).trans ?_
  rfl
theorem b141_164 {X : pm_X} {d : Nat} {x1 : Int32} {g : pm_G} {iv : pm_V}  : pm_at X d 141 (164, [some (.ref 32), some (.int x1)], [.ref 32], g, iv) = pm_at X d 141 (165, [some (.ref 32), some (.int x1)], [.int 3, .ref 32], g, iv) := by
  refine (at_iconst (v := 3) dc141_164 rfl).trans ?_
  rfl
theorem b141_165 {X : pm_X} {d : Nat} {x1 : Int32} {s0 : Int32} {g : pm_G} {iv : pm_V} (hL : pm_lay g) : pm_at X d 141 (165, [some (.ref 32), some (.int x1)], [.int s0, .ref 32], g, iv) = pm_at X d 141 (196, [some (.ref 32), some (.int x1)], [], g, (pm_iw iv 32 14 s0)) := by
  refine (at_pfI dc141_165 mc141 lf6_96 po6_14 (ly32 hL)).trans ?_
  refine (at_goto (t := 196) dc141_168 (by decide)).trans ?_
  rfl
theorem b141_171 {X : pm_X} {d : Nat} {x1 : Int32} {g : pm_G} {iv : pm_V} (hL : pm_lay g) : pm_at X d 141 (171, [some (.ref 32), some (.int x1)], [], g, iv) = if ¬ x1 = 59 then pm_at X d 141 (192, [some (.ref 32), some (.int x1)], [.ref 32], g, (pm_iw iv 32 13 (((iv 32 13) + 1)))) else pm_at X d 141 (188, [some (.ref 32), some (.int x1)], [.ref 32], g, (pm_iw iv 32 13 (((iv 32 13) + 1)))) := by
  refine (at_aload_n dc141_171 rfl).trans ?_
  refine (at_dup dc141_172 rfl).trans ?_
  refine (at_gfI dc141_173 mc141 lf6_87 fo6_13 (ly32 hL)).trans ?_
  refine (at_iconst (v := 1) dc141_176 rfl).trans ?_
  refine (at_iadd dc141_177).trans ?_
  refine (at_pfI dc141_178 mc141 lf6_87 po6_13 (ly32 hL)).trans ?_
  refine (at_aload_n dc141_181 rfl).trans ?_
  refine (at_iload_n dc141_182 rfl).trans ?_
  refine (at_bipush (v := 59) dc141_183 (by decide)).trans ?_
  exact at_icmp_ne (t := 192) dc141_185 (by decide)
theorem b141_188 {X : pm_X} {d : Nat} {x1 : Int32} {g : pm_G} {iv : pm_V}  : pm_at X d 141 (188, [some (.ref 32), some (.int x1)], [.ref 32], g, iv) = pm_at X d 141 (193, [some (.ref 32), some (.int x1)], [.int 4, .ref 32], g, iv) := by
  refine (at_iconst (v := 4) dc141_188 rfl).trans ?_
  refine (at_goto (t := 193) dc141_189 (by decide)).trans ?_
  rfl
theorem b141_192 {X : pm_X} {d : Nat} {x1 : Int32} {g : pm_G} {iv : pm_V}  : pm_at X d 141 (192, [some (.ref 32), some (.int x1)], [.ref 32], g, iv) = pm_at X d 141 (193, [some (.ref 32), some (.int x1)], [.int 0, .ref 32], g, iv) := by
  refine (at_iconst (v := 0) dc141_192 rfl).trans ?_
  rfl
theorem b141_193 {X : pm_X} {d : Nat} {x1 : Int32} {s0 : Int32} {g : pm_G} {iv : pm_V} (hL : pm_lay g) : pm_at X d 141 (193, [some (.ref 32), some (.int x1)], [.int s0, .ref 32], g, iv) = pm_at X d 141 (196, [some (.ref 32), some (.int x1)], [], g, (pm_iw iv 32 14 s0)) := by
  refine (at_pfI dc141_193 mc141 lf6_96 po6_14 (ly32 hL)).trans ?_
  rfl
theorem b141_196 {X : pm_X} {d : Nat} {x1 : Int32} {g : pm_G} {iv : pm_V} (hL : pm_lay g) : pm_at X d 141 (196, [some (.ref 32), some (.int x1)], [], g, iv) = some (none, g, (pm_iw iv 32 16 ((iv 32 13)))) := by
  refine (at_aload_n dc141_196 rfl).trans ?_
  refine (at_aload_n dc141_197 rfl).trans ?_
  refine (at_gfI dc141_198 mc141 lf6_87 fo6_13 (ly32 hL)).trans ?_
  refine (at_pfI dc141_201 mc141 lf6_105 po6_16 (ly32 hL)).trans ?_
  exact at_vret dc141_204 mr141
-- Mod.begin ()V
theorem dc142_0 : decode (pm_mb 142) 0 = .ok (.aload_n 0, 1) := by decide +kernel
theorem dc142_1 : decode (pm_mb 142) 1 = .ok (.aload_n 0, 1) := by decide +kernel
theorem dc142_2 : decode (pm_mb 142) 2 = .ok (.getfield 77, 3) := by decide +kernel
theorem dc142_5 : decode (pm_mb 142) 5 = .ok (.putfield 83, 3) := by decide +kernel
theorem dc142_8 : decode (pm_mb 142) 8 = .ok (.aload_n 0, 1) := by decide +kernel
theorem dc142_9 : decode (pm_mb 142) 9 = .ok (.iconst 0, 1) := by decide +kernel
theorem dc142_10 : decode (pm_mb 142) 10 = .ok (.putfield 77, 3) := by decide +kernel
theorem dc142_13 : decode (pm_mb 142) 13 = .ok (.aload_n 0, 1) := by decide +kernel
theorem dc142_14 : decode (pm_mb 142) 14 = .ok (.iconst 0, 1) := by decide +kernel
theorem dc142_15 : decode (pm_mb 142) 15 = .ok (.putfield 87, 3) := by decide +kernel
theorem dc142_18 : decode (pm_mb 142) 18 = .ok (.aload_n 0, 1) := by decide +kernel
theorem dc142_19 : decode (pm_mb 142) 19 = .ok (.iconst 0, 1) := by decide +kernel
theorem dc142_20 : decode (pm_mb 142) 20 = .ok (.putfield 108, 3) := by decide +kernel
theorem dc142_23 : decode (pm_mb 142) 23 = .ok (.aload_n 0, 1) := by decide +kernel
theorem dc142_24 : decode (pm_mb 142) 24 = .ok (.invokevirtual 111, 3) := by decide +kernel
theorem dc142_27 : decode (pm_mb 142) 27 = .ok (.return_, 1) := by decide +kernel
theorem b142_0 {X : pm_X} {d : Nat} {g : pm_G} {iv : pm_V} (hL : pm_lay g) : pm_at X d 142 (0, [some (.ref 32)], [], g, iv) = pm_then X d 142 27 [some (.ref 32)] [] (pm_c X d 141 [.ref 32] g (pm_iw (pm_iw (pm_iw (pm_iw iv 32 12 ((iv 32 10))) 32 10 0) 32 13 0) 32 17 0)) := by
  refine (at_aload_n dc142_0 rfl).trans ?_
  refine (at_aload_n dc142_1 rfl).trans ?_
  refine (at_gfI dc142_2 mc142 lf6_77 fo6_10 (ly32 hL)).trans ?_
  refine (at_pfI dc142_5 mc142 lf6_83 po6_12 (ly32 hL)).trans ?_
  refine (at_aload_n dc142_8 rfl).trans ?_
  refine (at_iconst (v := 0) dc142_9 rfl).trans ?_
  refine (at_pfI dc142_10 mc142 lf6_77 po6_10 (ly32 hL)).trans ?_
  refine (at_aload_n dc142_13 rfl).trans ?_
  refine (at_iconst (v := 0) dc142_14 rfl).trans ?_
  refine (at_pfI dc142_15 mc142 lf6_87 po6_13 (ly32 hL)).trans ?_
  refine (at_aload_n dc142_18 rfl).trans ?_
  refine (at_iconst (v := 0) dc142_19 rfl).trans ?_
  refine (at_pfI dc142_20 mc142 lf6_108 po6_17 (ly32 hL)).trans ?_
  refine (at_aload_n dc142_23 rfl).trans ?_
  exact at_inv dc142_24 mc142 lm6_111 rfl rfl (Nat.le_of_ble_eq_true rfl) (Or.inl ⟨(ly32 hL), by decide⟩)
theorem b142_27 {X : pm_X} {d : Nat} {g : pm_G} {iv : pm_V}  : pm_at X d 142 (27, [some (.ref 32)], [], g, iv) = some (none, g, iv) := by
  exact at_vret dc142_27 mr142
-- Mod.bad (I)V
theorem dc143_0 : decode (pm_mb 143) 0 = .ok (.aload_n 0, 1) := by decide +kernel
theorem dc143_1 : decode (pm_mb 143) 1 = .ok (.getfield 108, 3) := by decide +kernel
theorem dc143_4 : decode (pm_mb 143) 4 = .ok (.ifCond .ne 16, 3) := by decide +kernel
theorem dc143_7 : decode (pm_mb 143) 7 = .ok (.aload_n 0, 1) := by decide +kernel
theorem dc143_8 : decode (pm_mb 143) 8 = .ok (.iload_n 1, 1) := by decide +kernel
theorem dc143_9 : decode (pm_mb 143) 9 = .ok (.putfield 108, 3) := by decide +kernel
theorem dc143_12 : decode (pm_mb 143) 12 = .ok (.aload_n 0, 1) := by decide +kernel
theorem dc143_13 : decode (pm_mb 143) 13 = .ok (.aload_n 0, 1) := by decide +kernel
theorem dc143_14 : decode (pm_mb 143) 14 = .ok (.getfield 93, 3) := by decide +kernel
theorem dc143_17 : decode (pm_mb 143) 17 = .ok (.putfield 114, 3) := by decide +kernel
theorem dc143_20 : decode (pm_mb 143) 20 = .ok (.return_, 1) := by decide +kernel
theorem b143_0 {X : pm_X} {d : Nat} {x1 : Int32} {g : pm_G} {iv : pm_V} (hL : pm_lay g) : pm_at X d 143 (0, [some (.ref 32), some (.int x1)], [], g, iv) = if ¬ (iv 32 17) = 0 then pm_at X d 143 (20, [some (.ref 32), some (.int x1)], [], g, iv) else pm_at X d 143 (7, [some (.ref 32), some (.int x1)], [], g, iv) := by
  refine (at_aload_n dc143_0 rfl).trans ?_
  refine (at_gfI dc143_1 mc143 lf6_108 fo6_17 (ly32 hL)).trans ?_
  exact at_if_ne (t := 20) dc143_4 (by decide)
theorem b143_7 {X : pm_X} {d : Nat} {x1 : Int32} {g : pm_G} {iv : pm_V} (hL : pm_lay g) : pm_at X d 143 (7, [some (.ref 32), some (.int x1)], [], g, iv) = pm_at X d 143 (20, [some (.ref 32), some (.int x1)], [], g, (pm_iw (pm_iw iv 32 17 x1) 32 18 (((pm_iw iv 32 17 x1) 32 15)))) := by
  refine (at_aload_n dc143_7 rfl).trans ?_
  refine (at_iload_n dc143_8 rfl).trans ?_
  refine (at_pfI dc143_9 mc143 lf6_108 po6_17 (ly32 hL)).trans ?_
  refine (at_aload_n dc143_12 rfl).trans ?_
  refine (at_aload_n dc143_13 rfl).trans ?_
  refine (at_gfI dc143_14 mc143 lf6_93 fo6_15 (ly32 hL)).trans ?_
  refine (at_pfI dc143_17 mc143 lf6_114 po6_18 (ly32 hL)).trans ?_
  rfl
theorem b143_20 {X : pm_X} {d : Nat} {x1 : Int32} {g : pm_G} {iv : pm_V}  : pm_at X d 143 (20, [some (.ref 32), some (.int x1)], [], g, iv) = some (none, g, iv) := by
  exact at_vret dc143_20 mr143
-- Mod.must (Z)V
theorem dc144_0 : decode (pm_mb 144) 0 = .ok (.iload_n 1, 1) := by decide +kernel
theorem dc144_1 : decode (pm_mb 144) 1 = .ok (.ifCond .ne 8, 3) := by decide +kernel
theorem dc144_4 : decode (pm_mb 144) 4 = .ok (.aload_n 0, 1) := by decide +kernel
theorem dc144_5 : decode (pm_mb 144) 5 = .ok (.iconst 1, 1) := by decide +kernel
theorem dc144_6 : decode (pm_mb 144) 6 = .ok (.invokevirtual 117, 3) := by decide +kernel
theorem dc144_9 : decode (pm_mb 144) 9 = .ok (.aload_n 0, 1) := by decide +kernel
theorem dc144_10 : decode (pm_mb 144) 10 = .ok (.getfield 108, 3) := by decide +kernel
theorem dc144_13 : decode (pm_mb 144) 13 = .ok (.ifCond .ne 7, 3) := by decide +kernel
theorem dc144_16 : decode (pm_mb 144) 16 = .ok (.aload_n 0, 1) := by decide +kernel
theorem dc144_17 : decode (pm_mb 144) 17 = .ok (.invokevirtual 111, 3) := by decide +kernel
theorem dc144_20 : decode (pm_mb 144) 20 = .ok (.return_, 1) := by decide +kernel
theorem b144_0 {X : pm_X} {d : Nat} {x1 : Int32} {g : pm_G} {iv : pm_V}  : pm_at X d 144 (0, [some (.ref 32), some (.int x1)], [], g, iv) = if ¬ x1 = 0 then pm_at X d 144 (9, [some (.ref 32), some (.int x1)], [], g, iv) else pm_at X d 144 (4, [some (.ref 32), some (.int x1)], [], g, iv) := by
  refine (at_iload_n dc144_0 rfl).trans ?_
  exact at_if_ne (t := 9) dc144_1 (by decide)
theorem b144_4 {X : pm_X} {d : Nat} {x1 : Int32} {g : pm_G} {iv : pm_V} (hL : pm_lay g) : pm_at X d 144 (4, [some (.ref 32), some (.int x1)], [], g, iv) = pm_then X d 144 9 [some (.ref 32), some (.int x1)] [] (pm_c X d 143 [.ref 32, .int 1] g iv) := by
  refine (at_aload_n dc144_4 rfl).trans ?_
  refine (at_iconst (v := 1) dc144_5 rfl).trans ?_
  exact at_inv dc144_6 mc144 lm6_117 rfl rfl (Nat.le_of_ble_eq_true rfl) (Or.inl ⟨(ly32 hL), by decide⟩)
theorem b144_9 {X : pm_X} {d : Nat} {x1 : Int32} {g : pm_G} {iv : pm_V} (hL : pm_lay g) : pm_at X d 144 (9, [some (.ref 32), some (.int x1)], [], g, iv) = if ¬ (iv 32 17) = 0 then pm_at X d 144 (20, [some (.ref 32), some (.int x1)], [], g, iv) else pm_at X d 144 (16, [some (.ref 32), some (.int x1)], [], g, iv) := by
  refine (at_aload_n dc144_9 rfl).trans ?_
  refine (at_gfI dc144_10 mc144 lf6_108 fo6_17 (ly32 hL)).trans ?_
  exact at_if_ne (t := 20) dc144_13 (by decide)
theorem b144_16 {X : pm_X} {d : Nat} {x1 : Int32} {g : pm_G} {iv : pm_V} (hL : pm_lay g) : pm_at X d 144 (16, [some (.ref 32), some (.int x1)], [], g, iv) = pm_then X d 144 20 [some (.ref 32), some (.int x1)] [] (pm_c X d 141 [.ref 32] g iv) := by
  refine (at_aload_n dc144_16 rfl).trans ?_
  exact at_inv dc144_17 mc144 lm6_111 rfl rfl (Nat.le_of_ble_eq_true rfl) (Or.inl ⟨(ly32 hL), by decide⟩)
theorem b144_20 {X : pm_X} {d : Nat} {x1 : Int32} {g : pm_G} {iv : pm_V}  : pm_at X d 144 (20, [some (.ref 32), some (.int x1)], [], g, iv) = some (none, g, iv) := by
  exact at_vret dc144_20 mr144
-- Mod.name ()J
theorem dc145_0 : decode (pm_mb 145) 0 = .ok (.lconst 0, 1) := by decide +kernel
theorem dc145_1 : decode (pm_mb 145) 1 = .ok (.lstore_n 1, 1) := by decide +kernel
theorem dc145_2 : decode (pm_mb 145) 2 = .ok (.aload_n 0, 1) := by decide +kernel
theorem dc145_3 : decode (pm_mb 145) 3 = .ok (.getfield 93, 3) := by decide +kernel
theorem dc145_6 : decode (pm_mb 145) 6 = .ok (.istore_n 3, 1) := by decide +kernel
theorem dc145_7 : decode (pm_mb 145) 7 = .ok (.iload_n 3, 1) := by decide +kernel
theorem dc145_8 : decode (pm_mb 145) 8 = .ok (.aload_n 0, 1) := by decide +kernel
theorem dc145_9 : decode (pm_mb 145) 9 = .ok (.getfield 105, 3) := by decide +kernel
theorem dc145_12 : decode (pm_mb 145) 12 = .ok (.if_icmp .ge 44, 3) := by decide +kernel
theorem dc145_15 : decode (pm_mb 145) 15 = .ok (.aload_n 0, 1) := by decide +kernel
theorem dc145_16 : decode (pm_mb 145) 16 = .ok (.getfield 96, 3) := by decide +kernel
theorem dc145_19 : decode (pm_mb 145) 19 = .ok (.iconst 2, 1) := by decide +kernel
theorem dc145_20 : decode (pm_mb 145) 20 = .ok (.if_icmp .ne 36, 3) := by decide +kernel
theorem dc145_23 : decode (pm_mb 145) 23 = .ok (.aload_n 0, 1) := by decide +kernel
theorem dc145_24 : decode (pm_mb 145) 24 = .ok (.getfield 105, 3) := by decide +kernel
theorem dc145_27 : decode (pm_mb 145) 27 = .ok (.aload_n 0, 1) := by decide +kernel
theorem dc145_28 : decode (pm_mb 145) 28 = .ok (.getfield 93, 3) := by decide +kernel
theorem dc145_31 : decode (pm_mb 145) 31 = .ok (.isub, 1) := by decide +kernel
theorem dc145_32 : decode (pm_mb 145) 32 = .ok (.bipush 8, 2) := by decide +kernel
theorem dc145_34 : decode (pm_mb 145) 34 = .ok (.if_icmp .ge 22, 3) := by decide +kernel
theorem dc145_37 : decode (pm_mb 145) 37 = .ok (.lload_n 1, 1) := by decide +kernel
theorem dc145_38 : decode (pm_mb 145) 38 = .ok (.bipush 8, 2) := by decide +kernel
theorem dc145_40 : decode (pm_mb 145) 40 = .ok (.lshl, 1) := by decide +kernel
theorem dc145_41 : decode (pm_mb 145) 41 = .ok (.aload_n 0, 1) := by decide +kernel
theorem dc145_42 : decode (pm_mb 145) 42 = .ok (.getfield 28, 3) := by decide +kernel
theorem dc145_45 : decode (pm_mb 145) 45 = .ok (.iload_n 3, 1) := by decide +kernel
theorem dc145_46 : decode (pm_mb 145) 46 = .ok (.iaload, 1) := by decide +kernel
theorem dc145_47 : decode (pm_mb 145) 47 = .ok (.i2l, 1) := by decide +kernel
theorem dc145_48 : decode (pm_mb 145) 48 = .ok (.lor, 1) := by decide +kernel
theorem dc145_49 : decode (pm_mb 145) 49 = .ok (.lstore_n 1, 1) := by decide +kernel
theorem dc145_50 : decode (pm_mb 145) 50 = .ok (.iinc 3 1, 3) := by decide +kernel
theorem dc145_53 : decode (pm_mb 145) 53 = .ok (.goto (-46), 3) := by decide +kernel
theorem dc145_56 : decode (pm_mb 145) 56 = .ok (.aload_n 0, 1) := by decide +kernel
theorem dc145_57 : decode (pm_mb 145) 57 = .ok (.getfield 108, 3) := by decide +kernel
theorem dc145_60 : decode (pm_mb 145) 60 = .ok (.ifCond .ne 7, 3) := by decide +kernel
theorem dc145_63 : decode (pm_mb 145) 63 = .ok (.lload_n 1, 1) := by decide +kernel
theorem dc145_64 : decode (pm_mb 145) 64 = .ok (.goto 4, 3) := by decide +kernel
theorem dc145_67 : decode (pm_mb 145) 67 = .ok (.lconst 0, 1) := by decide +kernel
theorem dc145_68 : decode (pm_mb 145) 68 = .ok (.lreturn, 1) := by decide +kernel
theorem b145_0 {X : pm_X} {d : Nat} {g : pm_G} {iv : pm_V} (hL : pm_lay g) : pm_at X d 145 (0, [some (.ref 32), none, none, none], [], g, iv) = pm_at X d 145 (7, [some (.ref 32), some (.long 0), none, some (.int (iv 32 15))], [], g, iv) := by
  refine (at_lconst (v := 0) dc145_0 (by decide)).trans ?_
  refine (at_lstore_n dc145_1 rfl).trans ?_
  refine (at_aload_n dc145_2 rfl).trans ?_
  refine (at_gfI dc145_3 mc145 lf6_93 fo6_15 (ly32 hL)).trans ?_
  refine (at_istore_n dc145_6 rfl).trans ?_
  rfl
theorem b145_7 {X : pm_X} {d : Nat} {x1 : Int64} {x3 : Int32} {g : pm_G} {iv : pm_V} (hL : pm_lay g) : pm_at X d 145 (7, [some (.ref 32), some (.long x1), none, some (.int x3)], [], g, iv) = if (iv 32 16) ≤ x3 then pm_at X d 145 (56, [some (.ref 32), some (.long x1), none, some (.int x3)], [], g, iv) else pm_at X d 145 (15, [some (.ref 32), some (.long x1), none, some (.int x3)], [], g, iv) := by
  refine (at_iload_n dc145_7 rfl).trans ?_
  refine (at_aload_n dc145_8 rfl).trans ?_
  refine (at_gfI dc145_9 mc145 lf6_105 fo6_16 (ly32 hL)).trans ?_
  exact at_icmp_ge (t := 56) dc145_12 (by decide)
theorem b145_15 {X : pm_X} {d : Nat} {x1 : Int64} {x3 : Int32} {g : pm_G} {iv : pm_V} (hL : pm_lay g) : pm_at X d 145 (15, [some (.ref 32), some (.long x1), none, some (.int x3)], [], g, iv) = if ¬ (iv 32 14) = 2 then pm_at X d 145 (56, [some (.ref 32), some (.long x1), none, some (.int x3)], [], g, iv) else pm_at X d 145 (23, [some (.ref 32), some (.long x1), none, some (.int x3)], [], g, iv) := by
  refine (at_aload_n dc145_15 rfl).trans ?_
  refine (at_gfI dc145_16 mc145 lf6_96 fo6_14 (ly32 hL)).trans ?_
  refine (at_iconst (v := 2) dc145_19 rfl).trans ?_
  exact at_icmp_ne (t := 56) dc145_20 (by decide)
theorem b145_23 {X : pm_X} {d : Nat} {x1 : Int64} {x3 : Int32} {g : pm_G} {iv : pm_V} (hL : pm_lay g) : pm_at X d 145 (23, [some (.ref 32), some (.long x1), none, some (.int x3)], [], g, iv) = if 8 ≤ ((iv 32 16) - (iv 32 15)) then pm_at X d 145 (56, [some (.ref 32), some (.long x1), none, some (.int x3)], [], g, iv) else pm_at X d 145 (37, [some (.ref 32), some (.long x1), none, some (.int x3)], [], g, iv) := by
  refine (at_aload_n dc145_23 rfl).trans ?_
  refine (at_gfI dc145_24 mc145 lf6_105 fo6_16 (ly32 hL)).trans ?_
  refine (at_aload_n dc145_27 rfl).trans ?_
  refine (at_gfI dc145_28 mc145 lf6_93 fo6_15 (ly32 hL)).trans ?_
  refine (at_isub dc145_31).trans ?_
  refine (at_bipush (v := 8) dc145_32 (by decide)).trans ?_
  exact at_icmp_ge (t := 56) dc145_34 (by decide)
theorem b145_37 {X : pm_X} {d : Nat} {x1 : Int64} {x3 : Int32} {g : pm_G} {iv : pm_V} (hL : pm_lay g) (i1 : vp_in x3 400) : pm_at X d 145 (37, [some (.ref 32), some (.long x1), none, some (.int x3)], [], g, iv) = pm_at X d 145 (7, [some (.ref 32), some (.long ((x1 <<< ((8 : Int32).toInt64 &&& 63)) ||| ((iv 39 (x3 : Int32).toNatClampNeg) : Int32).toInt64)), none, some (.int (x3 + 1))], [], g, iv) := by
  refine (at_lload_n dc145_37 rfl).trans ?_
  refine (at_bipush (v := 8) dc145_38 (by decide)).trans ?_
  refine (at_lshl dc145_40).trans ?_
  refine (at_aload_n dc145_41 rfl).trans ?_
  refine (at_gfR dc145_42 mc145 lf6_28 fo6_9 (ly32 hL) (lr32_9 hL)).trans ?_
  refine (at_iload_n dc145_45 rfl).trans ?_
  refine (at_iald dc145_46 (ly39 hL) i1).trans ?_
  refine (at_i2l dc145_47).trans ?_
  refine (at_lor dc145_48).trans ?_
  refine (at_lstore_n dc145_49 rfl).trans ?_
  refine (at_iinc (v := 1) dc145_50 rfl (by decide) rfl).trans ?_
  refine (at_goto (t := 7) dc145_53 (by decide)).trans ?_
  rfl
theorem b145_56 {X : pm_X} {d : Nat} {x1 : Int64} {x3 : Int32} {g : pm_G} {iv : pm_V} (hL : pm_lay g) : pm_at X d 145 (56, [some (.ref 32), some (.long x1), none, some (.int x3)], [], g, iv) = if ¬ (iv 32 17) = 0 then pm_at X d 145 (67, [some (.ref 32), some (.long x1), none, some (.int x3)], [], g, iv) else pm_at X d 145 (63, [some (.ref 32), some (.long x1), none, some (.int x3)], [], g, iv) := by
  refine (at_aload_n dc145_56 rfl).trans ?_
  refine (at_gfI dc145_57 mc145 lf6_108 fo6_17 (ly32 hL)).trans ?_
  exact at_if_ne (t := 67) dc145_60 (by decide)
theorem b145_63 {X : pm_X} {d : Nat} {x1 : Int64} {x3 : Int32} {g : pm_G} {iv : pm_V}  : pm_at X d 145 (63, [some (.ref 32), some (.long x1), none, some (.int x3)], [], g, iv) = pm_at X d 145 (68, [some (.ref 32), some (.long x1), none, some (.int x3)], [.long x1], g, iv) := by
  refine (at_lload_n dc145_63 rfl).trans ?_
  refine (at_goto (t := 68) dc145_64 (by decide)).trans ?_
  rfl
theorem b145_67 {X : pm_X} {d : Nat} {x1 : Int64} {x3 : Int32} {g : pm_G} {iv : pm_V}  : pm_at X d 145 (67, [some (.ref 32), some (.long x1), none, some (.int x3)], [], g, iv) = pm_at X d 145 (68, [some (.ref 32), some (.long x1), none, some (.int x3)], [.long 0], g, iv) := by
  refine (at_lconst (v := 0) dc145_67 (by decide)).trans ?_
  rfl
theorem b145_68 {X : pm_X} {d : Nat} {x1 : Int64} {x3 : Int32} {s0 : Int64} {g : pm_G} {iv : pm_V}  : pm_at X d 145 (68, [some (.ref 32), some (.long x1), none, some (.int x3)], [.long s0], g, iv) = some (some (.long s0), g, iv) := by
  exact at_lret dc145_68 mr145
-- Mod.figures ()I
theorem dc146_0 : decode (pm_mb 146) 0 = .ok (.iconst 0, 1) := by decide +kernel
theorem dc146_1 : decode (pm_mb 146) 1 = .ok (.istore_n 1, 1) := by decide +kernel
theorem dc146_2 : decode (pm_mb 146) 2 = .ok (.aload_n 0, 1) := by decide +kernel
theorem dc146_3 : decode (pm_mb 146) 3 = .ok (.getfield 93, 3) := by decide +kernel
theorem dc146_6 : decode (pm_mb 146) 6 = .ok (.istore_n 2, 1) := by decide +kernel
theorem dc146_7 : decode (pm_mb 146) 7 = .ok (.iload_n 2, 1) := by decide +kernel
theorem dc146_8 : decode (pm_mb 146) 8 = .ok (.aload_n 0, 1) := by decide +kernel
theorem dc146_9 : decode (pm_mb 146) 9 = .ok (.getfield 105, 3) := by decide +kernel
theorem dc146_12 : decode (pm_mb 146) 12 = .ok (.if_icmp .ge 32, 3) := by decide +kernel
theorem dc146_15 : decode (pm_mb 146) 15 = .ok (.aload_n 0, 1) := by decide +kernel
theorem dc146_16 : decode (pm_mb 146) 16 = .ok (.getfield 96, 3) := by decide +kernel
theorem dc146_19 : decode (pm_mb 146) 19 = .ok (.iconst 3, 1) := by decide +kernel
theorem dc146_20 : decode (pm_mb 146) 20 = .ok (.if_icmp .ne 24, 3) := by decide +kernel
theorem dc146_23 : decode (pm_mb 146) 23 = .ok (.bipush 10, 2) := by decide +kernel
theorem dc146_25 : decode (pm_mb 146) 25 = .ok (.iload_n 1, 1) := by decide +kernel
theorem dc146_26 : decode (pm_mb 146) 26 = .ok (.imul, 1) := by decide +kernel
theorem dc146_27 : decode (pm_mb 146) 27 = .ok (.aload_n 0, 1) := by decide +kernel
theorem dc146_28 : decode (pm_mb 146) 28 = .ok (.getfield 28, 3) := by decide +kernel
theorem dc146_31 : decode (pm_mb 146) 31 = .ok (.iload_n 2, 1) := by decide +kernel
theorem dc146_32 : decode (pm_mb 146) 32 = .ok (.iaload, 1) := by decide +kernel
theorem dc146_33 : decode (pm_mb 146) 33 = .ok (.iadd, 1) := by decide +kernel
theorem dc146_34 : decode (pm_mb 146) 34 = .ok (.bipush 48, 2) := by decide +kernel
theorem dc146_36 : decode (pm_mb 146) 36 = .ok (.isub, 1) := by decide +kernel
theorem dc146_37 : decode (pm_mb 146) 37 = .ok (.istore_n 1, 1) := by decide +kernel
theorem dc146_38 : decode (pm_mb 146) 38 = .ok (.iinc 2 1, 3) := by decide +kernel
theorem dc146_41 : decode (pm_mb 146) 41 = .ok (.goto (-34), 3) := by decide +kernel
theorem dc146_44 : decode (pm_mb 146) 44 = .ok (.iload_n 1, 1) := by decide +kernel
theorem dc146_45 : decode (pm_mb 146) 45 = .ok (.ireturn, 1) := by decide +kernel
theorem b146_0 {X : pm_X} {d : Nat} {g : pm_G} {iv : pm_V} (hL : pm_lay g) : pm_at X d 146 (0, [some (.ref 32), none, none], [], g, iv) = pm_at X d 146 (7, [some (.ref 32), some (.int 0), some (.int (iv 32 15))], [], g, iv) := by
  refine (at_iconst (v := 0) dc146_0 rfl).trans ?_
  refine (at_istore_n dc146_1 rfl).trans ?_
  refine (at_aload_n dc146_2 rfl).trans ?_
  refine (at_gfI dc146_3 mc146 lf6_93 fo6_15 (ly32 hL)).trans ?_
  refine (at_istore_n dc146_6 rfl).trans ?_
  rfl
theorem b146_7 {X : pm_X} {d : Nat} {x1 : Int32} {x2 : Int32} {g : pm_G} {iv : pm_V} (hL : pm_lay g) : pm_at X d 146 (7, [some (.ref 32), some (.int x1), some (.int x2)], [], g, iv) = if (iv 32 16) ≤ x2 then pm_at X d 146 (44, [some (.ref 32), some (.int x1), some (.int x2)], [], g, iv) else pm_at X d 146 (15, [some (.ref 32), some (.int x1), some (.int x2)], [], g, iv) := by
  refine (at_iload_n dc146_7 rfl).trans ?_
  refine (at_aload_n dc146_8 rfl).trans ?_
  refine (at_gfI dc146_9 mc146 lf6_105 fo6_16 (ly32 hL)).trans ?_
  exact at_icmp_ge (t := 44) dc146_12 (by decide)
theorem b146_15 {X : pm_X} {d : Nat} {x1 : Int32} {x2 : Int32} {g : pm_G} {iv : pm_V} (hL : pm_lay g) : pm_at X d 146 (15, [some (.ref 32), some (.int x1), some (.int x2)], [], g, iv) = if ¬ (iv 32 14) = 3 then pm_at X d 146 (44, [some (.ref 32), some (.int x1), some (.int x2)], [], g, iv) else pm_at X d 146 (23, [some (.ref 32), some (.int x1), some (.int x2)], [], g, iv) := by
  refine (at_aload_n dc146_15 rfl).trans ?_
  refine (at_gfI dc146_16 mc146 lf6_96 fo6_14 (ly32 hL)).trans ?_
  refine (at_iconst (v := 3) dc146_19 rfl).trans ?_
  exact at_icmp_ne (t := 44) dc146_20 (by decide)
theorem b146_23 {X : pm_X} {d : Nat} {x1 : Int32} {x2 : Int32} {g : pm_G} {iv : pm_V} (hL : pm_lay g) (i1 : vp_in x2 400) : pm_at X d 146 (23, [some (.ref 32), some (.int x1), some (.int x2)], [], g, iv) = pm_at X d 146 (7, [some (.ref 32), some (.int (((10 * x1) + (iv 39 (x2 : Int32).toNatClampNeg)) - 48)), some (.int (x2 + 1))], [], g, iv) := by
  refine (at_bipush (v := 10) dc146_23 (by decide)).trans ?_
  refine (at_iload_n dc146_25 rfl).trans ?_
  refine (at_imul dc146_26).trans ?_
  refine (at_aload_n dc146_27 rfl).trans ?_
  refine (at_gfR dc146_28 mc146 lf6_28 fo6_9 (ly32 hL) (lr32_9 hL)).trans ?_
  refine (at_iload_n dc146_31 rfl).trans ?_
  refine (at_iald dc146_32 (ly39 hL) i1).trans ?_
  refine (at_iadd dc146_33).trans ?_
  refine (at_bipush (v := 48) dc146_34 (by decide)).trans ?_
  refine (at_isub dc146_36).trans ?_
  refine (at_istore_n dc146_37 rfl).trans ?_
  refine (at_iinc (v := 1) dc146_38 rfl (by decide) rfl).trans ?_
  refine (at_goto (t := 7) dc146_41 (by decide)).trans ?_
  rfl
theorem b146_44 {X : pm_X} {d : Nat} {x1 : Int32} {x2 : Int32} {g : pm_G} {iv : pm_V}  : pm_at X d 146 (44, [some (.ref 32), some (.int x1), some (.int x2)], [], g, iv) = some (some (.int x1), g, iv) := by
  refine (at_iload_n dc146_44 rfl).trans ?_
  exact at_iret dc146_45 mr146
-- Mod.number (II)I
theorem dc147_0 : decode (pm_mb 147) 0 = .ok (.aload_n 0, 1) := by decide +kernel
theorem dc147_1 : decode (pm_mb 147) 1 = .ok (.getfield 108, 3) := by decide +kernel
theorem dc147_4 : decode (pm_mb 147) 4 = .ok (.ifCond .le 5, 3) := by decide +kernel
theorem dc147_7 : decode (pm_mb 147) 7 = .ok (.iconst 0, 1) := by decide +kernel
theorem dc147_8 : decode (pm_mb 147) 8 = .ok (.ireturn, 1) := by decide +kernel
theorem dc147_9 : decode (pm_mb 147) 9 = .ok (.aload_n 0, 1) := by decide +kernel
theorem dc147_10 : decode (pm_mb 147) 10 = .ok (.invokevirtual 121, 3) := by decide +kernel
theorem dc147_13 : decode (pm_mb 147) 13 = .ok (.istore_n 3, 1) := by decide +kernel
theorem dc147_14 : decode (pm_mb 147) 14 = .ok (.aload_n 0, 1) := by decide +kernel
theorem dc147_15 : decode (pm_mb 147) 15 = .ok (.getfield 96, 3) := by decide +kernel
theorem dc147_18 : decode (pm_mb 147) 18 = .ok (.iconst 3, 1) := by decide +kernel
theorem dc147_19 : decode (pm_mb 147) 19 = .ok (.if_icmp .ne 20, 3) := by decide +kernel
theorem dc147_22 : decode (pm_mb 147) 22 = .ok (.iload_n 3, 1) := by decide +kernel
theorem dc147_23 : decode (pm_mb 147) 23 = .ok (.i2l, 1) := by decide +kernel
theorem dc147_24 : decode (pm_mb 147) 24 = .ok (.iload_n 1, 1) := by decide +kernel
theorem dc147_25 : decode (pm_mb 147) 25 = .ok (.i2l, 1) := by decide +kernel
theorem dc147_26 : decode (pm_mb 147) 26 = .ok (.iload_n 2, 1) := by decide +kernel
theorem dc147_27 : decode (pm_mb 147) 27 = .ok (.i2l, 1) := by decide +kernel
theorem dc147_28 : decode (pm_mb 147) 28 = .ok (.invokestatic 60, 3) := by decide +kernel
theorem dc147_31 : decode (pm_mb 147) 31 = .ok (.ifCond .ne 8, 3) := by decide +kernel
theorem dc147_34 : decode (pm_mb 147) 34 = .ok (.aload_n 0, 1) := by decide +kernel
theorem dc147_35 : decode (pm_mb 147) 35 = .ok (.iconst 2, 1) := by decide +kernel
theorem dc147_36 : decode (pm_mb 147) 36 = .ok (.invokevirtual 117, 3) := by decide +kernel
theorem dc147_39 : decode (pm_mb 147) 39 = .ok (.aload_n 0, 1) := by decide +kernel
theorem dc147_40 : decode (pm_mb 147) 40 = .ok (.aload_n 0, 1) := by decide +kernel
theorem dc147_41 : decode (pm_mb 147) 41 = .ok (.getfield 96, 3) := by decide +kernel
theorem dc147_44 : decode (pm_mb 147) 44 = .ok (.iconst 3, 1) := by decide +kernel
theorem dc147_45 : decode (pm_mb 147) 45 = .ok (.if_icmp .ne 7, 3) := by decide +kernel
theorem dc147_48 : decode (pm_mb 147) 48 = .ok (.iconst 1, 1) := by decide +kernel
theorem dc147_49 : decode (pm_mb 147) 49 = .ok (.goto 4, 3) := by decide +kernel
theorem dc147_52 : decode (pm_mb 147) 52 = .ok (.iconst 0, 1) := by decide +kernel
theorem dc147_53 : decode (pm_mb 147) 53 = .ok (.invokevirtual 125, 3) := by decide +kernel
theorem dc147_56 : decode (pm_mb 147) 56 = .ok (.iload_n 3, 1) := by decide +kernel
theorem dc147_57 : decode (pm_mb 147) 57 = .ok (.ireturn, 1) := by decide +kernel
theorem b147_0 {X : pm_X} {d : Nat} {x1 : Int32} {x2 : Int32} {g : pm_G} {iv : pm_V} (hL : pm_lay g) : pm_at X d 147 (0, [some (.ref 32), some (.int x1), some (.int x2), none], [], g, iv) = if (iv 32 17) ≤ 0 then pm_at X d 147 (9, [some (.ref 32), some (.int x1), some (.int x2), none], [], g, iv) else pm_at X d 147 (7, [some (.ref 32), some (.int x1), some (.int x2), none], [], g, iv) := by
  refine (at_aload_n dc147_0 rfl).trans ?_
  refine (at_gfI dc147_1 mc147 lf6_108 fo6_17 (ly32 hL)).trans ?_
  exact at_if_le (t := 9) dc147_4 (by decide)
theorem b147_7 {X : pm_X} {d : Nat} {x1 : Int32} {x2 : Int32} {g : pm_G} {iv : pm_V}  : pm_at X d 147 (7, [some (.ref 32), some (.int x1), some (.int x2), none], [], g, iv) = some (some (.int 0), g, iv) := by
  refine (at_iconst (v := 0) dc147_7 rfl).trans ?_
  exact at_iret dc147_8 mr147
theorem b147_9 {X : pm_X} {d : Nat} {x1 : Int32} {x2 : Int32} {g : pm_G} {iv : pm_V} (hL : pm_lay g) : pm_at X d 147 (9, [some (.ref 32), some (.int x1), some (.int x2), none], [], g, iv) = pm_then X d 147 13 [some (.ref 32), some (.int x1), some (.int x2), none] [] (pm_c X d 146 [.ref 32] g iv) := by
  refine (at_aload_n dc147_9 rfl).trans ?_
  exact at_inv dc147_10 mc147 lm6_121 rfl rfl (Nat.le_of_ble_eq_true rfl) (Or.inl ⟨(ly32 hL), by decide⟩)
theorem b147_13 {X : pm_X} {d : Nat} {x1 : Int32} {x2 : Int32} {s0 : Int32} {g : pm_G} {iv : pm_V} (hL : pm_lay g) : pm_at X d 147 (13, [some (.ref 32), some (.int x1), some (.int x2), none], [.int s0], g, iv) = if ¬ (iv 32 14) = 3 then pm_at X d 147 (39, [some (.ref 32), some (.int x1), some (.int x2), some (.int s0)], [], g, iv) else pm_at X d 147 (22, [some (.ref 32), some (.int x1), some (.int x2), some (.int s0)], [], g, iv) := by
  refine (at_istore_n dc147_13 rfl).trans ?_
  refine (at_aload_n dc147_14 rfl).trans ?_
  refine (at_gfI dc147_15 mc147 lf6_96 fo6_14 (ly32 hL)).trans ?_
  refine (at_iconst (v := 3) dc147_18 rfl).trans ?_
  exact at_icmp_ne (t := 39) dc147_19 (by decide)
theorem b147_22 {X : pm_X} {d : Nat} {x1 : Int32} {x2 : Int32} {x3 : Int32} {g : pm_G} {iv : pm_V}  : pm_at X d 147 (22, [some (.ref 32), some (.int x1), some (.int x2), some (.int x3)], [], g, iv) = pm_then X d 147 31 [some (.ref 32), some (.int x1), some (.int x2), some (.int x3)] [] (pm_c X d 130 [.long (x3 : Int32).toInt64, .long (x1 : Int32).toInt64, .long (x2 : Int32).toInt64] g iv) := by
  refine (at_iload_n dc147_22 rfl).trans ?_
  refine (at_i2l dc147_23).trans ?_
  refine (at_iload_n dc147_24 rfl).trans ?_
  refine (at_i2l dc147_25).trans ?_
  refine (at_iload_n dc147_26 rfl).trans ?_
  refine (at_i2l dc147_27).trans ?_
  exact at_ins dc147_28 mc147 lm6_60 (Nat.le_of_ble_eq_true rfl) rfl rfl (Nat.le_of_ble_eq_true rfl)
theorem b147_31 {X : pm_X} {d : Nat} {x1 : Int32} {x2 : Int32} {x3 : Int32} {s0 : Int32} {g : pm_G} {iv : pm_V}  : pm_at X d 147 (31, [some (.ref 32), some (.int x1), some (.int x2), some (.int x3)], [.int s0], g, iv) = if ¬ s0 = 0 then pm_at X d 147 (39, [some (.ref 32), some (.int x1), some (.int x2), some (.int x3)], [], g, iv) else pm_at X d 147 (34, [some (.ref 32), some (.int x1), some (.int x2), some (.int x3)], [], g, iv) := by
  exact at_if_ne (t := 39) dc147_31 (by decide)
theorem b147_34 {X : pm_X} {d : Nat} {x1 : Int32} {x2 : Int32} {x3 : Int32} {g : pm_G} {iv : pm_V} (hL : pm_lay g) : pm_at X d 147 (34, [some (.ref 32), some (.int x1), some (.int x2), some (.int x3)], [], g, iv) = pm_then X d 147 39 [some (.ref 32), some (.int x1), some (.int x2), some (.int x3)] [] (pm_c X d 143 [.ref 32, .int 2] g iv) := by
  refine (at_aload_n dc147_34 rfl).trans ?_
  refine (at_iconst (v := 2) dc147_35 rfl).trans ?_
  exact at_inv dc147_36 mc147 lm6_117 rfl rfl (Nat.le_of_ble_eq_true rfl) (Or.inl ⟨(ly32 hL), by decide⟩)
theorem b147_39 {X : pm_X} {d : Nat} {x1 : Int32} {x2 : Int32} {x3 : Int32} {g : pm_G} {iv : pm_V} (hL : pm_lay g) : pm_at X d 147 (39, [some (.ref 32), some (.int x1), some (.int x2), some (.int x3)], [], g, iv) = if ¬ (iv 32 14) = 3 then pm_at X d 147 (52, [some (.ref 32), some (.int x1), some (.int x2), some (.int x3)], [.ref 32], g, iv) else pm_at X d 147 (48, [some (.ref 32), some (.int x1), some (.int x2), some (.int x3)], [.ref 32], g, iv) := by
  refine (at_aload_n dc147_39 rfl).trans ?_
  refine (at_aload_n dc147_40 rfl).trans ?_
  refine (at_gfI dc147_41 mc147 lf6_96 fo6_14 (ly32 hL)).trans ?_
  refine (at_iconst (v := 3) dc147_44 rfl).trans ?_
  exact at_icmp_ne (t := 52) dc147_45 (by decide)
theorem b147_48 {X : pm_X} {d : Nat} {x1 : Int32} {x2 : Int32} {x3 : Int32} {g : pm_G} {iv : pm_V}  : pm_at X d 147 (48, [some (.ref 32), some (.int x1), some (.int x2), some (.int x3)], [.ref 32], g, iv) = pm_at X d 147 (53, [some (.ref 32), some (.int x1), some (.int x2), some (.int x3)], [.int 1, .ref 32], g, iv) := by
  refine (at_iconst (v := 1) dc147_48 rfl).trans ?_
  refine (at_goto (t := 53) dc147_49 (by decide)).trans ?_
  rfl
theorem b147_52 {X : pm_X} {d : Nat} {x1 : Int32} {x2 : Int32} {x3 : Int32} {g : pm_G} {iv : pm_V}  : pm_at X d 147 (52, [some (.ref 32), some (.int x1), some (.int x2), some (.int x3)], [.ref 32], g, iv) = pm_at X d 147 (53, [some (.ref 32), some (.int x1), some (.int x2), some (.int x3)], [.int 0, .ref 32], g, iv) := by
  refine (at_iconst (v := 0) dc147_52 rfl).trans ?_
  rfl
theorem b147_53 {X : pm_X} {d : Nat} {x1 : Int32} {x2 : Int32} {x3 : Int32} {s0 : Int32} {g : pm_G} {iv : pm_V} (hL : pm_lay g) : pm_at X d 147 (53, [some (.ref 32), some (.int x1), some (.int x2), some (.int x3)], [.int s0, .ref 32], g, iv) = pm_then X d 147 56 [some (.ref 32), some (.int x1), some (.int x2), some (.int x3)] [] (pm_c X d 144 [.ref 32, .int s0] g iv) := by
  exact at_inv dc147_53 mc147 lm6_125 rfl rfl (Nat.le_of_ble_eq_true rfl) (Or.inl ⟨(ly32 hL), by decide⟩)
theorem b147_56 {X : pm_X} {d : Nat} {x1 : Int32} {x2 : Int32} {x3 : Int32} {g : pm_G} {iv : pm_V}  : pm_at X d 147 (56, [some (.ref 32), some (.int x1), some (.int x2), some (.int x3)], [], g, iv) = some (some (.int x3), g, iv) := by
  refine (at_iload_n dc147_56 rfl).trans ?_
  exact at_iret dc147_57 mr147
-- Mod.kindBy (J)I
theorem dc148_0 : decode (pm_mb 148) 0 = .ok (.lload_n 0, 1) := by decide +kernel
theorem dc148_1 : decode (pm_mb 148) 1 = .ok (.ldc2_w 129, 3) := by decide +kernel
theorem dc148_4 : decode (pm_mb 148) 4 = .ok (.lcmp, 1) := by decide +kernel
theorem dc148_5 : decode (pm_mb 148) 5 = .ok (.ifCond .ne 7, 3) := by decide +kernel
theorem dc148_8 : decode (pm_mb 148) 8 = .ok (.iconst 1, 1) := by decide +kernel
theorem dc148_9 : decode (pm_mb 148) 9 = .ok (.goto 53, 3) := by decide +kernel
theorem dc148_12 : decode (pm_mb 148) 12 = .ok (.lload_n 0, 1) := by decide +kernel
theorem dc148_13 : decode (pm_mb 148) 13 = .ok (.ldc2_w 131, 3) := by decide +kernel
theorem dc148_16 : decode (pm_mb 148) 16 = .ok (.lcmp, 1) := by decide +kernel
theorem dc148_17 : decode (pm_mb 148) 17 = .ok (.ifCond .ne 7, 3) := by decide +kernel
theorem dc148_20 : decode (pm_mb 148) 20 = .ok (.iconst 3, 1) := by decide +kernel
theorem dc148_21 : decode (pm_mb 148) 21 = .ok (.goto 41, 3) := by decide +kernel
theorem dc148_24 : decode (pm_mb 148) 24 = .ok (.lload_n 0, 1) := by decide +kernel
theorem dc148_25 : decode (pm_mb 148) 25 = .ok (.ldc2_w 133, 3) := by decide +kernel
theorem dc148_28 : decode (pm_mb 148) 28 = .ok (.lcmp, 1) := by decide +kernel
theorem dc148_29 : decode (pm_mb 148) 29 = .ok (.ifCond .ne 7, 3) := by decide +kernel
theorem dc148_32 : decode (pm_mb 148) 32 = .ok (.iconst 4, 1) := by decide +kernel
theorem dc148_33 : decode (pm_mb 148) 33 = .ok (.goto 29, 3) := by decide +kernel
theorem dc148_36 : decode (pm_mb 148) 36 = .ok (.lload_n 0, 1) := by decide +kernel
theorem dc148_37 : decode (pm_mb 148) 37 = .ok (.ldc2_w 135, 3) := by decide +kernel
theorem dc148_40 : decode (pm_mb 148) 40 = .ok (.lcmp, 1) := by decide +kernel
theorem dc148_41 : decode (pm_mb 148) 41 = .ok (.ifCond .ne 7, 3) := by decide +kernel
theorem dc148_44 : decode (pm_mb 148) 44 = .ok (.iconst 5, 1) := by decide +kernel
theorem dc148_45 : decode (pm_mb 148) 45 = .ok (.goto 17, 3) := by decide +kernel
theorem dc148_48 : decode (pm_mb 148) 48 = .ok (.lload_n 0, 1) := by decide +kernel
theorem dc148_49 : decode (pm_mb 148) 49 = .ok (.ldc2_w 137, 3) := by decide +kernel
theorem dc148_52 : decode (pm_mb 148) 52 = .ok (.lcmp, 1) := by decide +kernel
theorem dc148_53 : decode (pm_mb 148) 53 = .ok (.ifCond .ne 7, 3) := by decide +kernel
theorem dc148_56 : decode (pm_mb 148) 56 = .ok (.iconst 2, 1) := by decide +kernel
theorem dc148_57 : decode (pm_mb 148) 57 = .ok (.goto 5, 3) := by decide +kernel
theorem dc148_60 : decode (pm_mb 148) 60 = .ok (.ldc 86, 2) := by decide +kernel
theorem dc148_62 : decode (pm_mb 148) 62 = .ok (.ireturn, 1) := by decide +kernel
theorem b148_0 {X : pm_X} {d : Nat} {x0 : Int64} {g : pm_G} {iv : pm_V}  : pm_at X d 148 (0, [some (.long x0), none], [], g, iv) = if ¬ (lg_cmp x0 109300298179432) = 0 then pm_at X d 148 (12, [some (.long x0), none], [], g, iv) else pm_at X d 148 (8, [some (.long x0), none], [], g, iv) := by
  refine (at_lload_n dc148_0 rfl).trans ?_
  refine (at_ldc2 dc148_1 mc148 ll6_129).trans ?_
  refine (at_lcmp dc148_4).trans ?_
  exact at_if_ne (t := 12) dc148_5 (by decide)
theorem b148_8 {X : pm_X} {d : Nat} {x0 : Int64} {g : pm_G} {iv : pm_V}  : pm_at X d 148 (8, [some (.long x0), none], [], g, iv) = pm_at X d 148 (62, [some (.long x0), none], [.int 1], g, iv) := by
  refine (at_iconst (v := 1) dc148_8 rfl).trans ?_
  refine (at_goto (t := 62) dc148_9 (by decide)).trans ?_
  rfl
theorem b148_12 {X : pm_X} {d : Nat} {x0 : Int64} {g : pm_G} {iv : pm_V}  : pm_at X d 148 (12, [some (.long x0), none], [], g, iv) = if ¬ (lg_cmp x0 6909550) = 0 then pm_at X d 148 (24, [some (.long x0), none], [], g, iv) else pm_at X d 148 (20, [some (.long x0), none], [], g, iv) := by
  refine (at_lload_n dc148_12 rfl).trans ?_
  refine (at_ldc2 dc148_13 mc148 ll6_131).trans ?_
  refine (at_lcmp dc148_16).trans ?_
  exact at_if_ne (t := 24) dc148_17 (by decide)
theorem b148_20 {X : pm_X} {d : Nat} {x0 : Int64} {g : pm_G} {iv : pm_V}  : pm_at X d 148 (20, [some (.long x0), none], [], g, iv) = pm_at X d 148 (62, [some (.long x0), none], [.int 3], g, iv) := by
  refine (at_iconst (v := 3) dc148_20 rfl).trans ?_
  refine (at_goto (t := 62) dc148_21 (by decide)).trans ?_
  rfl
theorem b148_24 {X : pm_X} {d : Nat} {x0 : Int64} {g : pm_G} {iv : pm_V}  : pm_at X d 148 (24, [some (.long x0), none], [], g, iv) = if ¬ (lg_cmp x0 1835625580) = 0 then pm_at X d 148 (36, [some (.long x0), none], [], g, iv) else pm_at X d 148 (32, [some (.long x0), none], [], g, iv) := by
  refine (at_lload_n dc148_24 rfl).trans ?_
  refine (at_ldc2 dc148_25 mc148 ll6_133).trans ?_
  refine (at_lcmp dc148_28).trans ?_
  exact at_if_ne (t := 36) dc148_29 (by decide)
theorem b148_32 {X : pm_X} {d : Nat} {x0 : Int64} {g : pm_G} {iv : pm_V}  : pm_at X d 148 (32, [some (.long x0), none], [], g, iv) = pm_at X d 148 (62, [some (.long x0), none], [.int 4], g, iv) := by
  refine (at_iconst (v := 4) dc148_32 rfl).trans ?_
  refine (at_goto (t := 62) dc148_33 (by decide)).trans ?_
  rfl
theorem b148_36 {X : pm_X} {d : Nat} {x0 : Int64} {g : pm_G} {iv : pm_V}  : pm_at X d 148 (36, [some (.long x0), none], [], g, iv) = if ¬ (lg_cmp x0 6845812) = 0 then pm_at X d 148 (48, [some (.long x0), none], [], g, iv) else pm_at X d 148 (44, [some (.long x0), none], [], g, iv) := by
  refine (at_lload_n dc148_36 rfl).trans ?_
  refine (at_ldc2 dc148_37 mc148 ll6_135).trans ?_
  refine (at_lcmp dc148_40).trans ?_
  exact at_if_ne (t := 48) dc148_41 (by decide)
theorem b148_44 {X : pm_X} {d : Nat} {x0 : Int64} {g : pm_G} {iv : pm_V}  : pm_at X d 148 (44, [some (.long x0), none], [], g, iv) = pm_at X d 148 (62, [some (.long x0), none], [.int 5], g, iv) := by
  refine (at_iconst (v := 5) dc148_44 rfl).trans ?_
  refine (at_goto (t := 62) dc148_45 (by decide)).trans ?_
  rfl
theorem b148_48 {X : pm_X} {d : Nat} {x0 : Int64} {g : pm_G} {iv : pm_V}  : pm_at X d 148 (48, [some (.long x0), none], [], g, iv) = if ¬ (lg_cmp x0 1650553454) = 0 then pm_at X d 148 (60, [some (.long x0), none], [], g, iv) else pm_at X d 148 (56, [some (.long x0), none], [], g, iv) := by
  refine (at_lload_n dc148_48 rfl).trans ?_
  refine (at_ldc2 dc148_49 mc148 ll6_137).trans ?_
  refine (at_lcmp dc148_52).trans ?_
  exact at_if_ne (t := 60) dc148_53 (by decide)
theorem b148_56 {X : pm_X} {d : Nat} {x0 : Int64} {g : pm_G} {iv : pm_V}  : pm_at X d 148 (56, [some (.long x0), none], [], g, iv) = pm_at X d 148 (62, [some (.long x0), none], [.int 2], g, iv) := by
  refine (at_iconst (v := 2) dc148_56 rfl).trans ?_
  refine (at_goto (t := 62) dc148_57 (by decide)).trans ?_
  rfl
theorem b148_60 {X : pm_X} {d : Nat} {x0 : Int64} {g : pm_G} {iv : pm_V}  : pm_at X d 148 (60, [some (.long x0), none], [], g, iv) = pm_at X d 148 (62, [some (.long x0), none], [.int (-1000000)], g, iv) := by
  refine (at_ldc dc148_60 mc148 lk6_86).trans ?_
  rfl
theorem b148_62 {X : pm_X} {d : Nat} {x0 : Int64} {s0 : Int32} {g : pm_G} {iv : pm_V}  : pm_at X d 148 (62, [some (.long x0), none], [.int s0], g, iv) = some (some (.int s0), g, iv) := by
  exact at_iret dc148_62 mr148
-- Mod.mustEnd ()V
theorem dc149_0 : decode (pm_mb 149) 0 = .ok (.aload_n 0, 1) := by decide +kernel
theorem dc149_1 : decode (pm_mb 149) 1 = .ok (.getfield 108, 3) := by decide +kernel
theorem dc149_4 : decode (pm_mb 149) 4 = .ok (.ifCond .ne 20, 3) := by decide +kernel
theorem dc149_7 : decode (pm_mb 149) 7 = .ok (.aload_n 0, 1) := by decide +kernel
theorem dc149_8 : decode (pm_mb 149) 8 = .ok (.aload_n 0, 1) := by decide +kernel
theorem dc149_9 : decode (pm_mb 149) 9 = .ok (.getfield 96, 3) := by decide +kernel
theorem dc149_12 : decode (pm_mb 149) 12 = .ok (.iconst 4, 1) := by decide +kernel
theorem dc149_13 : decode (pm_mb 149) 13 = .ok (.if_icmp .ne 7, 3) := by decide +kernel
theorem dc149_16 : decode (pm_mb 149) 16 = .ok (.iconst 1, 1) := by decide +kernel
theorem dc149_17 : decode (pm_mb 149) 17 = .ok (.goto 4, 3) := by decide +kernel
theorem dc149_20 : decode (pm_mb 149) 20 = .ok (.iconst 0, 1) := by decide +kernel
theorem dc149_21 : decode (pm_mb 149) 21 = .ok (.invokevirtual 125, 3) := by decide +kernel
theorem dc149_24 : decode (pm_mb 149) 24 = .ok (.return_, 1) := by decide +kernel
theorem b149_0 {X : pm_X} {d : Nat} {g : pm_G} {iv : pm_V} (hL : pm_lay g) : pm_at X d 149 (0, [some (.ref 32)], [], g, iv) = if ¬ (iv 32 17) = 0 then pm_at X d 149 (24, [some (.ref 32)], [], g, iv) else pm_at X d 149 (7, [some (.ref 32)], [], g, iv) := by
  refine (at_aload_n dc149_0 rfl).trans ?_
  refine (at_gfI dc149_1 mc149 lf6_108 fo6_17 (ly32 hL)).trans ?_
  exact at_if_ne (t := 24) dc149_4 (by decide)
theorem b149_7 {X : pm_X} {d : Nat} {g : pm_G} {iv : pm_V} (hL : pm_lay g) : pm_at X d 149 (7, [some (.ref 32)], [], g, iv) = if ¬ (iv 32 14) = 4 then pm_at X d 149 (20, [some (.ref 32)], [.ref 32], g, iv) else pm_at X d 149 (16, [some (.ref 32)], [.ref 32], g, iv) := by
  refine (at_aload_n dc149_7 rfl).trans ?_
  refine (at_aload_n dc149_8 rfl).trans ?_
  refine (at_gfI dc149_9 mc149 lf6_96 fo6_14 (ly32 hL)).trans ?_
  refine (at_iconst (v := 4) dc149_12 rfl).trans ?_
  exact at_icmp_ne (t := 20) dc149_13 (by decide)
theorem b149_16 {X : pm_X} {d : Nat} {g : pm_G} {iv : pm_V}  : pm_at X d 149 (16, [some (.ref 32)], [.ref 32], g, iv) = pm_at X d 149 (21, [some (.ref 32)], [.int 1, .ref 32], g, iv) := by
  refine (at_iconst (v := 1) dc149_16 rfl).trans ?_
  refine (at_goto (t := 21) dc149_17 (by decide)).trans ?_
  rfl
theorem b149_20 {X : pm_X} {d : Nat} {g : pm_G} {iv : pm_V}  : pm_at X d 149 (20, [some (.ref 32)], [.ref 32], g, iv) = pm_at X d 149 (21, [some (.ref 32)], [.int 0, .ref 32], g, iv) := by
  refine (at_iconst (v := 0) dc149_20 rfl).trans ?_
  rfl
theorem b149_21 {X : pm_X} {d : Nat} {s0 : Int32} {g : pm_G} {iv : pm_V} (hL : pm_lay g) : pm_at X d 149 (21, [some (.ref 32)], [.int s0, .ref 32], g, iv) = pm_then X d 149 24 [some (.ref 32)] [] (pm_c X d 144 [.ref 32, .int s0] g iv) := by
  exact at_inv dc149_21 mc149 lm6_125 rfl rfl (Nat.le_of_ble_eq_true rfl) (Or.inl ⟨(ly32 hL), by decide⟩)
theorem b149_24 {X : pm_X} {d : Nat} {g : pm_G} {iv : pm_V}  : pm_at X d 149 (24, [some (.ref 32)], [], g, iv) = some (none, g, iv) := by
  exact at_vret dc149_24 mr149
-- Mod.begins (II)V
theorem dc150_0 : decode (pm_mb 150) 0 = .ok (.aload_n 0, 1) := by decide +kernel
theorem dc150_1 : decode (pm_mb 150) 1 = .ok (.getfield 22, 3) := by decide +kernel
theorem dc150_4 : decode (pm_mb 150) 4 = .ok (.iload_n 1, 1) := by decide +kernel
theorem dc150_5 : decode (pm_mb 150) 5 = .ok (.iaload, 1) := by decide +kernel
theorem dc150_6 : decode (pm_mb 150) 6 = .ok (.iload_n 2, 1) := by decide +kernel
theorem dc150_7 : decode (pm_mb 150) 7 = .ok (.if_icmp .ne 8, 3) := by decide +kernel
theorem dc150_10 : decode (pm_mb 150) 10 = .ok (.aload_n 0, 1) := by decide +kernel
theorem dc150_11 : decode (pm_mb 150) 11 = .ok (.iconst 3, 1) := by decide +kernel
theorem dc150_12 : decode (pm_mb 150) 12 = .ok (.invokevirtual 117, 3) := by decide +kernel
theorem dc150_15 : decode (pm_mb 150) 15 = .ok (.aload_n 0, 1) := by decide +kernel
theorem dc150_16 : decode (pm_mb 150) 16 = .ok (.iconst 1, 1) := by decide +kernel
theorem dc150_17 : decode (pm_mb 150) 17 = .ok (.invokevirtual 125, 3) := by decide +kernel
theorem dc150_20 : decode (pm_mb 150) 20 = .ok (.return_, 1) := by decide +kernel
theorem b150_0 {X : pm_X} {d : Nat} {x1 : Int32} {x2 : Int32} {g : pm_G} {iv : pm_V} (hL : pm_lay g) (i1 : vp_in x1 45) : pm_at X d 150 (0, [some (.ref 32), some (.int x1), some (.int x2)], [], g, iv) = if ¬ (iv 37 (x1 : Int32).toNatClampNeg) = x2 then pm_at X d 150 (15, [some (.ref 32), some (.int x1), some (.int x2)], [], g, iv) else pm_at X d 150 (10, [some (.ref 32), some (.int x1), some (.int x2)], [], g, iv) := by
  refine (at_aload_n dc150_0 rfl).trans ?_
  refine (at_gfR dc150_1 mc150 lf6_22 fo6_6 (ly32 hL) (lr32_6 hL)).trans ?_
  refine (at_iload_n dc150_4 rfl).trans ?_
  refine (at_iald dc150_5 (ly37 hL) i1).trans ?_
  refine (at_iload_n dc150_6 rfl).trans ?_
  exact at_icmp_ne (t := 15) dc150_7 (by decide)
theorem b150_10 {X : pm_X} {d : Nat} {x1 : Int32} {x2 : Int32} {g : pm_G} {iv : pm_V} (hL : pm_lay g) : pm_at X d 150 (10, [some (.ref 32), some (.int x1), some (.int x2)], [], g, iv) = pm_then X d 150 15 [some (.ref 32), some (.int x1), some (.int x2)] [] (pm_c X d 143 [.ref 32, .int 3] g iv) := by
  refine (at_aload_n dc150_10 rfl).trans ?_
  refine (at_iconst (v := 3) dc150_11 rfl).trans ?_
  exact at_inv dc150_12 mc150 lm6_117 rfl rfl (Nat.le_of_ble_eq_true rfl) (Or.inl ⟨(ly32 hL), by decide⟩)
theorem b150_15 {X : pm_X} {d : Nat} {x1 : Int32} {x2 : Int32} {g : pm_G} {iv : pm_V} (hL : pm_lay g) : pm_at X d 150 (15, [some (.ref 32), some (.int x1), some (.int x2)], [], g, iv) = pm_then X d 150 20 [some (.ref 32), some (.int x1), some (.int x2)] [] (pm_c X d 144 [.ref 32, .int 1] g iv) := by
  refine (at_aload_n dc150_15 rfl).trans ?_
  refine (at_iconst (v := 1) dc150_16 rfl).trans ?_
  exact at_inv dc150_17 mc150 lm6_125 rfl rfl (Nat.le_of_ble_eq_true rfl) (Or.inl ⟨(ly32 hL), by decide⟩)
theorem b150_20 {X : pm_X} {d : Nat} {x1 : Int32} {x2 : Int32} {g : pm_G} {iv : pm_V}  : pm_at X d 150 (20, [some (.ref 32), some (.int x1), some (.int x2)], [], g, iv) = some (none, g, iv) := by
  exact at_vret dc150_20 mr150
-- Mod.readStone ()V
theorem dc151_0 : decode (pm_mb 151) 0 = .ok (.aload_n 0, 1) := by decide +kernel
theorem dc151_1 : decode (pm_mb 151) 1 = .ok (.iconst 2, 1) := by decide +kernel
theorem dc151_2 : decode (pm_mb 151) 2 = .ok (.bipush 8, 2) := by decide +kernel
theorem dc151_4 : decode (pm_mb 151) 4 = .ok (.invokevirtual 139, 3) := by decide +kernel
theorem dc151_7 : decode (pm_mb 151) 7 = .ok (.aload_n 0, 1) := by decide +kernel
theorem dc151_8 : decode (pm_mb 151) 8 = .ok (.iconst 0, 1) := by decide +kernel
theorem dc151_9 : decode (pm_mb 151) 9 = .ok (.aload_n 0, 1) := by decide +kernel
theorem dc151_10 : decode (pm_mb 151) 10 = .ok (.getfield 22, 3) := by decide +kernel
theorem dc151_13 : decode (pm_mb 151) 13 = .ok (.iconst 0, 1) := by decide +kernel
theorem dc151_14 : decode (pm_mb 151) 14 = .ok (.iaload, 1) := by decide +kernel
theorem dc151_15 : decode (pm_mb 151) 15 = .ok (.iconst 1, 1) := by decide +kernel
theorem dc151_16 : decode (pm_mb 151) 16 = .ok (.isub, 1) := by decide +kernel
theorem dc151_17 : decode (pm_mb 151) 17 = .ok (.invokevirtual 143, 3) := by decide +kernel
theorem dc151_20 : decode (pm_mb 151) 20 = .ok (.istore_n 1, 1) := by decide +kernel
theorem dc151_21 : decode (pm_mb 151) 21 = .ok (.aload_n 0, 1) := by decide +kernel
theorem dc151_22 : decode (pm_mb 151) 22 = .ok (.iconst 0, 1) := by decide +kernel
theorem dc151_23 : decode (pm_mb 151) 23 = .ok (.aload_n 0, 1) := by decide +kernel
theorem dc151_24 : decode (pm_mb 151) 24 = .ok (.getfield 22, 3) := by decide +kernel
theorem dc151_27 : decode (pm_mb 151) 27 = .ok (.iconst 1, 1) := by decide +kernel
theorem dc151_28 : decode (pm_mb 151) 28 = .ok (.iaload, 1) := by decide +kernel
theorem dc151_29 : decode (pm_mb 151) 29 = .ok (.iconst 1, 1) := by decide +kernel
theorem dc151_30 : decode (pm_mb 151) 30 = .ok (.isub, 1) := by decide +kernel
theorem dc151_31 : decode (pm_mb 151) 31 = .ok (.invokevirtual 143, 3) := by decide +kernel
theorem dc151_34 : decode (pm_mb 151) 34 = .ok (.istore_n 2, 1) := by decide +kernel
theorem dc151_35 : decode (pm_mb 151) 35 = .ok (.aload_n 0, 1) := by decide +kernel
theorem dc151_36 : decode (pm_mb 151) 36 = .ok (.invokevirtual 147, 3) := by decide +kernel
theorem dc151_39 : decode (pm_mb 151) 39 = .ok (.aload_n 0, 1) := by decide +kernel
theorem dc151_40 : decode (pm_mb 151) 40 = .ok (.getfield 108, 3) := by decide +kernel
theorem dc151_43 : decode (pm_mb 151) 43 = .ok (.ifCond .ne 27, 3) := by decide +kernel
theorem dc151_46 : decode (pm_mb 151) 46 = .ok (.aload_n 0, 1) := by decide +kernel
theorem dc151_47 : decode (pm_mb 151) 47 = .ok (.getfield 22, 3) := by decide +kernel
theorem dc151_50 : decode (pm_mb 151) 50 = .ok (.iconst 5, 1) := by decide +kernel
theorem dc151_51 : decode (pm_mb 151) 51 = .ok (.iload_n 1, 1) := by decide +kernel
theorem dc151_52 : decode (pm_mb 151) 52 = .ok (.iadd, 1) := by decide +kernel
theorem dc151_53 : decode (pm_mb 151) 53 = .ok (.dup2, 1) := by decide +kernel
theorem dc151_54 : decode (pm_mb 151) 54 = .ok (.iaload, 1) := by decide +kernel
theorem dc151_55 : decode (pm_mb 151) 55 = .ok (.iconst 1, 1) := by decide +kernel
theorem dc151_56 : decode (pm_mb 151) 56 = .ok (.iload_n 2, 1) := by decide +kernel
theorem dc151_57 : decode (pm_mb 151) 57 = .ok (.ishl, 1) := by decide +kernel
theorem dc151_58 : decode (pm_mb 151) 58 = .ok (.ior, 1) := by decide +kernel
theorem dc151_59 : decode (pm_mb 151) 59 = .ok (.iastore, 1) := by decide +kernel
theorem dc151_60 : decode (pm_mb 151) 60 = .ok (.aload_n 0, 1) := by decide +kernel
theorem dc151_61 : decode (pm_mb 151) 61 = .ok (.getfield 22, 3) := by decide +kernel
theorem dc151_64 : decode (pm_mb 151) 64 = .ok (.iconst 2, 1) := by decide +kernel
theorem dc151_65 : decode (pm_mb 151) 65 = .ok (.dup2, 1) := by decide +kernel
theorem dc151_66 : decode (pm_mb 151) 66 = .ok (.iaload, 1) := by decide +kernel
theorem dc151_67 : decode (pm_mb 151) 67 = .ok (.iconst 1, 1) := by decide +kernel
theorem dc151_68 : decode (pm_mb 151) 68 = .ok (.iadd, 1) := by decide +kernel
theorem dc151_69 : decode (pm_mb 151) 69 = .ok (.iastore, 1) := by decide +kernel
theorem dc151_70 : decode (pm_mb 151) 70 = .ok (.return_, 1) := by decide +kernel
theorem b151_0 {X : pm_X} {d : Nat} {g : pm_G} {iv : pm_V} (hL : pm_lay g) : pm_at X d 151 (0, [some (.ref 32), none, none], [], g, iv) = pm_then X d 151 7 [some (.ref 32), none, none] [] (pm_c X d 150 [.ref 32, .int 2, .int 8] g iv) := by
  refine (at_aload_n dc151_0 rfl).trans ?_
  refine (at_iconst (v := 2) dc151_1 rfl).trans ?_
  refine (at_bipush (v := 8) dc151_2 (by decide)).trans ?_
  exact at_inv dc151_4 mc151 lm6_139 rfl rfl (Nat.le_of_ble_eq_true rfl) (Or.inl ⟨(ly32 hL), by decide⟩)
theorem b151_7 {X : pm_X} {d : Nat} {g : pm_G} {iv : pm_V} (hL : pm_lay g) : pm_at X d 151 (7, [some (.ref 32), none, none], [], g, iv) = pm_then X d 151 20 [some (.ref 32), none, none] [] (pm_c X d 147 [.ref 32, .int 0, .int ((iv 37 0) - 1)] g iv) := by
  refine (at_aload_n dc151_7 rfl).trans ?_
  refine (at_iconst (v := 0) dc151_8 rfl).trans ?_
  refine (at_aload_n dc151_9 rfl).trans ?_
  refine (at_gfR dc151_10 mc151 lf6_22 fo6_6 (ly32 hL) (lr32_6 hL)).trans ?_
  refine (at_iconst (v := 0) dc151_13 rfl).trans ?_
  refine (at_iald dc151_14 (ly37 hL) (vp_in_nI (n := 0) (by decide) (by decide))).trans ?_
  refine (at_iconst (v := 1) dc151_15 rfl).trans ?_
  refine (at_isub dc151_16).trans ?_
  exact at_inv dc151_17 mc151 lm6_143 rfl rfl (Nat.le_of_ble_eq_true rfl) (Or.inl ⟨(ly32 hL), by decide⟩)
theorem b151_20 {X : pm_X} {d : Nat} {s0 : Int32} {g : pm_G} {iv : pm_V} (hL : pm_lay g) : pm_at X d 151 (20, [some (.ref 32), none, none], [.int s0], g, iv) = pm_then X d 151 34 [some (.ref 32), some (.int s0), none] [] (pm_c X d 147 [.ref 32, .int 0, .int ((iv 37 1) - 1)] g iv) := by
  refine (at_istore_n dc151_20 rfl).trans ?_
  refine (at_aload_n dc151_21 rfl).trans ?_
  refine (at_iconst (v := 0) dc151_22 rfl).trans ?_
  refine (at_aload_n dc151_23 rfl).trans ?_
  refine (at_gfR dc151_24 mc151 lf6_22 fo6_6 (ly32 hL) (lr32_6 hL)).trans ?_
  refine (at_iconst (v := 1) dc151_27 rfl).trans ?_
  refine (at_iald dc151_28 (ly37 hL) (vp_in_nI (n := 1) (by decide) (by decide))).trans ?_
  refine (at_iconst (v := 1) dc151_29 rfl).trans ?_
  refine (at_isub dc151_30).trans ?_
  exact at_inv dc151_31 mc151 lm6_143 rfl rfl (Nat.le_of_ble_eq_true rfl) (Or.inl ⟨(ly32 hL), by decide⟩)
theorem b151_34 {X : pm_X} {d : Nat} {x1 : Int32} {s0 : Int32} {g : pm_G} {iv : pm_V} (hL : pm_lay g) : pm_at X d 151 (34, [some (.ref 32), some (.int x1), none], [.int s0], g, iv) = pm_then X d 151 39 [some (.ref 32), some (.int x1), some (.int s0)] [] (pm_c X d 149 [.ref 32] g iv) := by
  refine (at_istore_n dc151_34 rfl).trans ?_
  refine (at_aload_n dc151_35 rfl).trans ?_
  exact at_inv dc151_36 mc151 lm6_147 rfl rfl (Nat.le_of_ble_eq_true rfl) (Or.inl ⟨(ly32 hL), by decide⟩)
theorem b151_39 {X : pm_X} {d : Nat} {x1 : Int32} {x2 : Int32} {g : pm_G} {iv : pm_V} (hL : pm_lay g) : pm_at X d 151 (39, [some (.ref 32), some (.int x1), some (.int x2)], [], g, iv) = if ¬ (iv 32 17) = 0 then pm_at X d 151 (70, [some (.ref 32), some (.int x1), some (.int x2)], [], g, iv) else pm_at X d 151 (46, [some (.ref 32), some (.int x1), some (.int x2)], [], g, iv) := by
  refine (at_aload_n dc151_39 rfl).trans ?_
  refine (at_gfI dc151_40 mc151 lf6_108 fo6_17 (ly32 hL)).trans ?_
  exact at_if_ne (t := 70) dc151_43 (by decide)
theorem b151_46 {X : pm_X} {d : Nat} {x1 : Int32} {x2 : Int32} {g : pm_G} {iv : pm_V} (hL : pm_lay g) (i1 : vp_in ((5 + x1)) 45) : pm_at X d 151 (46, [some (.ref 32), some (.int x1), some (.int x2)], [], g, iv) = pm_at X d 151 (70, [some (.ref 32), some (.int x1), some (.int x2)], [], g, (pm_iw (pm_iw iv 37 ((5 + x1) : Int32).toNatClampNeg (((iv 37 ((5 + x1) : Int32).toNatClampNeg) ||| (1 <<< (x2 &&& 31))))) 37 2 ((((pm_iw iv 37 ((5 + x1) : Int32).toNatClampNeg (((iv 37 ((5 + x1) : Int32).toNatClampNeg) ||| (1 <<< (x2 &&& 31))))) 37 2) + 1)))) := by
  refine (at_aload_n dc151_46 rfl).trans ?_
  refine (at_gfR dc151_47 mc151 lf6_22 fo6_6 (ly32 hL) (lr32_6 hL)).trans ?_
  refine (at_iconst (v := 5) dc151_50 rfl).trans ?_
  refine (at_iload_n dc151_51 rfl).trans ?_
  refine (at_iadd dc151_52).trans ?_
  refine (at_dup2 dc151_53 ⟨rfl, rfl⟩).trans ?_
  refine (at_iald dc151_54 (ly37 hL) i1).trans ?_
  refine (at_iconst (v := 1) dc151_55 rfl).trans ?_
  refine (at_iload_n dc151_56 rfl).trans ?_
  refine (at_ishl dc151_57).trans ?_
  refine (at_ior dc151_58).trans ?_
  refine (at_iast dc151_59 (ly37 hL) i1).trans ?_
  refine (at_aload_n dc151_60 rfl).trans ?_
  refine (at_gfR dc151_61 mc151 lf6_22 fo6_6 (ly32 hL) (lr32_6 hL)).trans ?_
  refine (at_iconst (v := 2) dc151_64 rfl).trans ?_
  refine (at_dup2 dc151_65 ⟨rfl, rfl⟩).trans ?_
  refine (at_iald dc151_66 (ly37 hL) (vp_in_nI (n := 2) (by decide) (by decide))).trans ?_
  refine (at_iconst (v := 1) dc151_67 rfl).trans ?_
  refine (at_iadd dc151_68).trans ?_
  refine (at_iast dc151_69 (ly37 hL) (vp_in_nI (n := 2) (by decide) (by decide))).trans ?_
  rfl
theorem b151_70 {X : pm_X} {d : Nat} {x1 : Int32} {x2 : Int32} {g : pm_G} {iv : pm_V}  : pm_at X d 151 (70, [some (.ref 32), some (.int x1), some (.int x2)], [], g, iv) = some (none, g, iv) := by
  exact at_vret dc151_70 mr151
-- Mod.isTaken (II)Z
theorem dc152_0 : decode (pm_mb 152) 0 = .ok (.aload_n 0, 1) := by decide +kernel
theorem dc152_1 : decode (pm_mb 152) 1 = .ok (.getfield 22, 3) := by decide +kernel
theorem dc152_4 : decode (pm_mb 152) 4 = .ok (.iconst 5, 1) := by decide +kernel
theorem dc152_5 : decode (pm_mb 152) 5 = .ok (.iload_n 1, 1) := by decide +kernel
theorem dc152_6 : decode (pm_mb 152) 6 = .ok (.iadd, 1) := by decide +kernel
theorem dc152_7 : decode (pm_mb 152) 7 = .ok (.iaload, 1) := by decide +kernel
theorem dc152_8 : decode (pm_mb 152) 8 = .ok (.iload_n 2, 1) := by decide +kernel
theorem dc152_9 : decode (pm_mb 152) 9 = .ok (.ishr, 1) := by decide +kernel
theorem dc152_10 : decode (pm_mb 152) 10 = .ok (.iconst 1, 1) := by decide +kernel
theorem dc152_11 : decode (pm_mb 152) 11 = .ok (.iand, 1) := by decide +kernel
theorem dc152_12 : decode (pm_mb 152) 12 = .ok (.iconst 1, 1) := by decide +kernel
theorem dc152_13 : decode (pm_mb 152) 13 = .ok (.if_icmp .ne 7, 3) := by decide +kernel
theorem dc152_16 : decode (pm_mb 152) 16 = .ok (.iconst 1, 1) := by decide +kernel
theorem dc152_17 : decode (pm_mb 152) 17 = .ok (.goto 4, 3) := by decide +kernel
theorem dc152_20 : decode (pm_mb 152) 20 = .ok (.iconst 0, 1) := by decide +kernel
theorem dc152_21 : decode (pm_mb 152) 21 = .ok (.istore_n 3, 1) := by decide +kernel
theorem dc152_22 : decode (pm_mb 152) 22 = .ok (.iconst 0, 1) := by decide +kernel
theorem dc152_23 : decode (pm_mb 152) 23 = .ok (.istore 4, 2) := by decide +kernel
theorem dc152_25 : decode (pm_mb 152) 25 = .ok (.iload 4, 2) := by decide +kernel
theorem dc152_27 : decode (pm_mb 152) 27 = .ok (.aload_n 0, 1) := by decide +kernel
theorem dc152_28 : decode (pm_mb 152) 28 = .ok (.getfield 22, 3) := by decide +kernel
theorem dc152_31 : decode (pm_mb 152) 31 = .ok (.iconst 3, 1) := by decide +kernel
theorem dc152_32 : decode (pm_mb 152) 32 = .ok (.iaload, 1) := by decide +kernel
theorem dc152_33 : decode (pm_mb 152) 33 = .ok (.if_icmp .ge 57, 3) := by decide +kernel
theorem dc152_36 : decode (pm_mb 152) 36 = .ok (.iload_n 3, 1) := by decide +kernel
theorem dc152_37 : decode (pm_mb 152) 37 = .ok (.ifCond .ne 41, 3) := by decide +kernel
theorem dc152_40 : decode (pm_mb 152) 40 = .ok (.aload_n 0, 1) := by decide +kernel
theorem dc152_41 : decode (pm_mb 152) 41 = .ok (.getfield 22, 3) := by decide +kernel
theorem dc152_44 : decode (pm_mb 152) 44 = .ok (.bipush 9, 2) := by decide +kernel
theorem dc152_46 : decode (pm_mb 152) 46 = .ok (.bipush 6, 2) := by decide +kernel
theorem dc152_48 : decode (pm_mb 152) 48 = .ok (.iload 4, 2) := by decide +kernel
theorem dc152_50 : decode (pm_mb 152) 50 = .ok (.imul, 1) := by decide +kernel
theorem dc152_51 : decode (pm_mb 152) 51 = .ok (.iadd, 1) := by decide +kernel
theorem dc152_52 : decode (pm_mb 152) 52 = .ok (.iconst 1, 1) := by decide +kernel
theorem dc152_53 : decode (pm_mb 152) 53 = .ok (.iadd, 1) := by decide +kernel
theorem dc152_54 : decode (pm_mb 152) 54 = .ok (.iaload, 1) := by decide +kernel
theorem dc152_55 : decode (pm_mb 152) 55 = .ok (.iload_n 1, 1) := by decide +kernel
theorem dc152_56 : decode (pm_mb 152) 56 = .ok (.if_icmp .ne 26, 3) := by decide +kernel
theorem dc152_59 : decode (pm_mb 152) 59 = .ok (.aload_n 0, 1) := by decide +kernel
theorem dc152_60 : decode (pm_mb 152) 60 = .ok (.getfield 22, 3) := by decide +kernel
theorem dc152_63 : decode (pm_mb 152) 63 = .ok (.bipush 9, 2) := by decide +kernel
theorem dc152_65 : decode (pm_mb 152) 65 = .ok (.bipush 6, 2) := by decide +kernel
theorem dc152_67 : decode (pm_mb 152) 67 = .ok (.iload 4, 2) := by decide +kernel
theorem dc152_69 : decode (pm_mb 152) 69 = .ok (.imul, 1) := by decide +kernel
theorem dc152_70 : decode (pm_mb 152) 70 = .ok (.iadd, 1) := by decide +kernel
theorem dc152_71 : decode (pm_mb 152) 71 = .ok (.iconst 2, 1) := by decide +kernel
theorem dc152_72 : decode (pm_mb 152) 72 = .ok (.iadd, 1) := by decide +kernel
theorem dc152_73 : decode (pm_mb 152) 73 = .ok (.iaload, 1) := by decide +kernel
theorem dc152_74 : decode (pm_mb 152) 74 = .ok (.iload_n 2, 1) := by decide +kernel
theorem dc152_75 : decode (pm_mb 152) 75 = .ok (.if_icmp .ne 7, 3) := by decide +kernel
theorem dc152_78 : decode (pm_mb 152) 78 = .ok (.iconst 1, 1) := by decide +kernel
theorem dc152_79 : decode (pm_mb 152) 79 = .ok (.goto 4, 3) := by decide +kernel
theorem dc152_82 : decode (pm_mb 152) 82 = .ok (.iconst 0, 1) := by decide +kernel
theorem dc152_83 : decode (pm_mb 152) 83 = .ok (.istore_n 3, 1) := by decide +kernel
theorem dc152_84 : decode (pm_mb 152) 84 = .ok (.iinc 4 1, 3) := by decide +kernel
theorem dc152_87 : decode (pm_mb 152) 87 = .ok (.goto (-62), 3) := by decide +kernel
theorem dc152_90 : decode (pm_mb 152) 90 = .ok (.iload_n 3, 1) := by decide +kernel
theorem dc152_91 : decode (pm_mb 152) 91 = .ok (.ireturn, 1) := by decide +kernel
theorem b152_0 {X : pm_X} {d : Nat} {x1 : Int32} {x2 : Int32} {g : pm_G} {iv : pm_V} (hL : pm_lay g) (i1 : vp_in ((5 + x1)) 45) : pm_at X d 152 (0, [some (.ref 32), some (.int x1), some (.int x2), none, none], [], g, iv) = if ¬ (((iv 37 ((5 + x1) : Int32).toNatClampNeg) >>> (x2 &&& 31)) &&& 1) = 1 then pm_at X d 152 (20, [some (.ref 32), some (.int x1), some (.int x2), none, none], [], g, iv) else pm_at X d 152 (16, [some (.ref 32), some (.int x1), some (.int x2), none, none], [], g, iv) := by
  refine (at_aload_n dc152_0 rfl).trans ?_
  refine (at_gfR dc152_1 mc152 lf6_22 fo6_6 (ly32 hL) (lr32_6 hL)).trans ?_
  refine (at_iconst (v := 5) dc152_4 rfl).trans ?_
  refine (at_iload_n dc152_5 rfl).trans ?_
  refine (at_iadd dc152_6).trans ?_
  refine (at_iald dc152_7 (ly37 hL) i1).trans ?_
  refine (at_iload_n dc152_8 rfl).trans ?_
  refine (at_ishr dc152_9).trans ?_
  refine (at_iconst (v := 1) dc152_10 rfl).trans ?_
  refine (at_iand dc152_11).trans ?_
  refine (at_iconst (v := 1) dc152_12 rfl).trans ?_
  exact at_icmp_ne (t := 20) dc152_13 (by decide)
theorem b152_16 {X : pm_X} {d : Nat} {x1 : Int32} {x2 : Int32} {g : pm_G} {iv : pm_V}  : pm_at X d 152 (16, [some (.ref 32), some (.int x1), some (.int x2), none, none], [], g, iv) = pm_at X d 152 (21, [some (.ref 32), some (.int x1), some (.int x2), none, none], [.int 1], g, iv) := by
  refine (at_iconst (v := 1) dc152_16 rfl).trans ?_
  refine (at_goto (t := 21) dc152_17 (by decide)).trans ?_
  rfl
theorem b152_20 {X : pm_X} {d : Nat} {x1 : Int32} {x2 : Int32} {g : pm_G} {iv : pm_V}  : pm_at X d 152 (20, [some (.ref 32), some (.int x1), some (.int x2), none, none], [], g, iv) = pm_at X d 152 (21, [some (.ref 32), some (.int x1), some (.int x2), none, none], [.int 0], g, iv) := by
  refine (at_iconst (v := 0) dc152_20 rfl).trans ?_
  rfl
theorem b152_21 {X : pm_X} {d : Nat} {x1 : Int32} {x2 : Int32} {s0 : Int32} {g : pm_G} {iv : pm_V}  : pm_at X d 152 (21, [some (.ref 32), some (.int x1), some (.int x2), none, none], [.int s0], g, iv) = pm_at X d 152 (25, [some (.ref 32), some (.int x1), some (.int x2), some (.int s0), some (.int 0)], [], g, iv) := by
  refine (at_istore_n dc152_21 rfl).trans ?_
  refine (at_iconst (v := 0) dc152_22 rfl).trans ?_
  refine (at_istore dc152_23 rfl).trans ?_
  rfl
theorem b152_25 {X : pm_X} {d : Nat} {x1 : Int32} {x2 : Int32} {x3 : Int32} {x4 : Int32} {g : pm_G} {iv : pm_V} (hL : pm_lay g) : pm_at X d 152 (25, [some (.ref 32), some (.int x1), some (.int x2), some (.int x3), some (.int x4)], [], g, iv) = if (iv 37 3) ≤ x4 then pm_at X d 152 (90, [some (.ref 32), some (.int x1), some (.int x2), some (.int x3), some (.int x4)], [], g, iv) else pm_at X d 152 (36, [some (.ref 32), some (.int x1), some (.int x2), some (.int x3), some (.int x4)], [], g, iv) := by
  refine (at_iload dc152_25 rfl).trans ?_
  refine (at_aload_n dc152_27 rfl).trans ?_
  refine (at_gfR dc152_28 mc152 lf6_22 fo6_6 (ly32 hL) (lr32_6 hL)).trans ?_
  refine (at_iconst (v := 3) dc152_31 rfl).trans ?_
  refine (at_iald dc152_32 (ly37 hL) (vp_in_nI (n := 3) (by decide) (by decide))).trans ?_
  exact at_icmp_ge (t := 90) dc152_33 (by decide)
theorem b152_36 {X : pm_X} {d : Nat} {x1 : Int32} {x2 : Int32} {x3 : Int32} {x4 : Int32} {g : pm_G} {iv : pm_V}  : pm_at X d 152 (36, [some (.ref 32), some (.int x1), some (.int x2), some (.int x3), some (.int x4)], [], g, iv) = if ¬ x3 = 0 then pm_at X d 152 (78, [some (.ref 32), some (.int x1), some (.int x2), some (.int x3), some (.int x4)], [], g, iv) else pm_at X d 152 (40, [some (.ref 32), some (.int x1), some (.int x2), some (.int x3), some (.int x4)], [], g, iv) := by
  refine (at_iload_n dc152_36 rfl).trans ?_
  exact at_if_ne (t := 78) dc152_37 (by decide)
theorem b152_40 {X : pm_X} {d : Nat} {x1 : Int32} {x2 : Int32} {x3 : Int32} {x4 : Int32} {g : pm_G} {iv : pm_V} (hL : pm_lay g) (i1 : vp_in (((9 + (6 * x4)) + 1)) 45) : pm_at X d 152 (40, [some (.ref 32), some (.int x1), some (.int x2), some (.int x3), some (.int x4)], [], g, iv) = if ¬ (iv 37 (((9 + (6 * x4)) + 1) : Int32).toNatClampNeg) = x1 then pm_at X d 152 (82, [some (.ref 32), some (.int x1), some (.int x2), some (.int x3), some (.int x4)], [], g, iv) else pm_at X d 152 (59, [some (.ref 32), some (.int x1), some (.int x2), some (.int x3), some (.int x4)], [], g, iv) := by
  refine (at_aload_n dc152_40 rfl).trans ?_
  refine (at_gfR dc152_41 mc152 lf6_22 fo6_6 (ly32 hL) (lr32_6 hL)).trans ?_
  refine (at_bipush (v := 9) dc152_44 (by decide)).trans ?_
  refine (at_bipush (v := 6) dc152_46 (by decide)).trans ?_
  refine (at_iload dc152_48 rfl).trans ?_
  refine (at_imul dc152_50).trans ?_
  refine (at_iadd dc152_51).trans ?_
  refine (at_iconst (v := 1) dc152_52 rfl).trans ?_
  refine (at_iadd dc152_53).trans ?_
  refine (at_iald dc152_54 (ly37 hL) i1).trans ?_
  refine (at_iload_n dc152_55 rfl).trans ?_
  exact at_icmp_ne (t := 82) dc152_56 (by decide)
theorem b152_59 {X : pm_X} {d : Nat} {x1 : Int32} {x2 : Int32} {x3 : Int32} {x4 : Int32} {g : pm_G} {iv : pm_V} (hL : pm_lay g) (i1 : vp_in (((9 + (6 * x4)) + 2)) 45) : pm_at X d 152 (59, [some (.ref 32), some (.int x1), some (.int x2), some (.int x3), some (.int x4)], [], g, iv) = if ¬ (iv 37 (((9 + (6 * x4)) + 2) : Int32).toNatClampNeg) = x2 then pm_at X d 152 (82, [some (.ref 32), some (.int x1), some (.int x2), some (.int x3), some (.int x4)], [], g, iv) else pm_at X d 152 (78, [some (.ref 32), some (.int x1), some (.int x2), some (.int x3), some (.int x4)], [], g, iv) := by
  refine (at_aload_n dc152_59 rfl).trans ?_
  refine (at_gfR dc152_60 mc152 lf6_22 fo6_6 (ly32 hL) (lr32_6 hL)).trans ?_
  refine (at_bipush (v := 9) dc152_63 (by decide)).trans ?_
  refine (at_bipush (v := 6) dc152_65 (by decide)).trans ?_
  refine (at_iload dc152_67 rfl).trans ?_
  refine (at_imul dc152_69).trans ?_
  refine (at_iadd dc152_70).trans ?_
  refine (at_iconst (v := 2) dc152_71 rfl).trans ?_
  refine (at_iadd dc152_72).trans ?_
  refine (at_iald dc152_73 (ly37 hL) i1).trans ?_
  refine (at_iload_n dc152_74 rfl).trans ?_
  exact at_icmp_ne (t := 82) dc152_75 (by decide)
theorem b152_78 {X : pm_X} {d : Nat} {x1 : Int32} {x2 : Int32} {x3 : Int32} {x4 : Int32} {g : pm_G} {iv : pm_V}  : pm_at X d 152 (78, [some (.ref 32), some (.int x1), some (.int x2), some (.int x3), some (.int x4)], [], g, iv) = pm_at X d 152 (83, [some (.ref 32), some (.int x1), some (.int x2), some (.int x3), some (.int x4)], [.int 1], g, iv) := by
  refine (at_iconst (v := 1) dc152_78 rfl).trans ?_
  refine (at_goto (t := 83) dc152_79 (by decide)).trans ?_
  rfl
theorem b152_82 {X : pm_X} {d : Nat} {x1 : Int32} {x2 : Int32} {x3 : Int32} {x4 : Int32} {g : pm_G} {iv : pm_V}  : pm_at X d 152 (82, [some (.ref 32), some (.int x1), some (.int x2), some (.int x3), some (.int x4)], [], g, iv) = pm_at X d 152 (83, [some (.ref 32), some (.int x1), some (.int x2), some (.int x3), some (.int x4)], [.int 0], g, iv) := by
  refine (at_iconst (v := 0) dc152_82 rfl).trans ?_
  rfl
theorem b152_83 {X : pm_X} {d : Nat} {x1 : Int32} {x2 : Int32} {x3 : Int32} {x4 : Int32} {s0 : Int32} {g : pm_G} {iv : pm_V}  : pm_at X d 152 (83, [some (.ref 32), some (.int x1), some (.int x2), some (.int x3), some (.int x4)], [.int s0], g, iv) = pm_at X d 152 (25, [some (.ref 32), some (.int x1), some (.int x2), some (.int s0), some (.int (x4 + 1))], [], g, iv) := by
  refine (at_istore_n dc152_83 rfl).trans ?_
  refine (at_iinc (v := 1) dc152_84 rfl (by decide) rfl).trans ?_
  refine (at_goto (t := 25) dc152_87 (by decide)).trans ?_
  rfl
theorem b152_90 {X : pm_X} {d : Nat} {x1 : Int32} {x2 : Int32} {x3 : Int32} {x4 : Int32} {g : pm_G} {iv : pm_V}  : pm_at X d 152 (90, [some (.ref 32), some (.int x1), some (.int x2), some (.int x3), some (.int x4)], [], g, iv) = pm_zr x3 (some (some (.int x3), g, iv)) := by
  refine (at_iload_n dc152_90 rfl).trans ?_
  exact at_zretG dc152_91 mr152
-- Mod.readHouse ()V
theorem dc153_0 : decode (pm_mb 153) 0 = .ok (.aload_n 0, 1) := by decide +kernel
theorem dc153_1 : decode (pm_mb 153) 1 = .ok (.iconst 3, 1) := by decide +kernel
theorem dc153_2 : decode (pm_mb 153) 2 = .ok (.bipush 6, 2) := by decide +kernel
theorem dc153_4 : decode (pm_mb 153) 4 = .ok (.invokevirtual 139, 3) := by decide +kernel
theorem dc153_7 : decode (pm_mb 153) 7 = .ok (.aload_n 0, 1) := by decide +kernel
theorem dc153_8 : decode (pm_mb 153) 8 = .ok (.invokevirtual 150, 3) := by decide +kernel
theorem dc153_11 : decode (pm_mb 153) 11 = .ok (.invokestatic 154, 3) := by decide +kernel
theorem dc153_14 : decode (pm_mb 153) 14 = .ok (.istore_n 1, 1) := by decide +kernel
theorem dc153_15 : decode (pm_mb 153) 15 = .ok (.aload_n 0, 1) := by decide +kernel
theorem dc153_16 : decode (pm_mb 153) 16 = .ok (.getfield 108, 3) := by decide +kernel
theorem dc153_19 : decode (pm_mb 153) 19 = .ok (.ifCond .ne 18, 3) := by decide +kernel
theorem dc153_22 : decode (pm_mb 153) 22 = .ok (.aload_n 0, 1) := by decide +kernel
theorem dc153_23 : decode (pm_mb 153) 23 = .ok (.iload_n 1, 1) := by decide +kernel
theorem dc153_24 : decode (pm_mb 153) 24 = .ok (.ldc 86, 2) := by decide +kernel
theorem dc153_26 : decode (pm_mb 153) 26 = .ok (.if_icmp .eq 7, 3) := by decide +kernel
theorem dc153_29 : decode (pm_mb 153) 29 = .ok (.iconst 1, 1) := by decide +kernel
theorem dc153_30 : decode (pm_mb 153) 30 = .ok (.goto 4, 3) := by decide +kernel
theorem dc153_33 : decode (pm_mb 153) 33 = .ok (.iconst 0, 1) := by decide +kernel
theorem dc153_34 : decode (pm_mb 153) 34 = .ok (.invokevirtual 125, 3) := by decide +kernel
theorem dc153_37 : decode (pm_mb 153) 37 = .ok (.aload_n 0, 1) := by decide +kernel
theorem dc153_38 : decode (pm_mb 153) 38 = .ok (.iconst 0, 1) := by decide +kernel
theorem dc153_39 : decode (pm_mb 153) 39 = .ok (.aload_n 0, 1) := by decide +kernel
theorem dc153_40 : decode (pm_mb 153) 40 = .ok (.getfield 22, 3) := by decide +kernel
theorem dc153_43 : decode (pm_mb 153) 43 = .ok (.iconst 0, 1) := by decide +kernel
theorem dc153_44 : decode (pm_mb 153) 44 = .ok (.iaload, 1) := by decide +kernel
theorem dc153_45 : decode (pm_mb 153) 45 = .ok (.iconst 1, 1) := by decide +kernel
theorem dc153_46 : decode (pm_mb 153) 46 = .ok (.isub, 1) := by decide +kernel
theorem dc153_47 : decode (pm_mb 153) 47 = .ok (.invokevirtual 143, 3) := by decide +kernel
theorem dc153_50 : decode (pm_mb 153) 50 = .ok (.istore_n 2, 1) := by decide +kernel
theorem dc153_51 : decode (pm_mb 153) 51 = .ok (.aload_n 0, 1) := by decide +kernel
theorem dc153_52 : decode (pm_mb 153) 52 = .ok (.getfield 108, 3) := by decide +kernel
theorem dc153_55 : decode (pm_mb 153) 55 = .ok (.ifCond .ne 49, 3) := by decide +kernel
theorem dc153_58 : decode (pm_mb 153) 58 = .ok (.aload_n 0, 1) := by decide +kernel
theorem dc153_59 : decode (pm_mb 153) 59 = .ok (.getfield 96, 3) := by decide +kernel
theorem dc153_62 : decode (pm_mb 153) 62 = .ok (.iconst 3, 1) := by decide +kernel
theorem dc153_63 : decode (pm_mb 153) 63 = .ok (.if_icmp .ne 41, 3) := by decide +kernel
theorem dc153_66 : decode (pm_mb 153) 66 = .ok (.aload_n 0, 1) := by decide +kernel
theorem dc153_67 : decode (pm_mb 153) 67 = .ok (.invokevirtual 121, 3) := by decide +kernel
theorem dc153_70 : decode (pm_mb 153) 70 = .ok (.i2l, 1) := by decide +kernel
theorem dc153_71 : decode (pm_mb 153) 71 = .ok (.lconst 0, 1) := by decide +kernel
theorem dc153_72 : decode (pm_mb 153) 72 = .ok (.aload_n 0, 1) := by decide +kernel
theorem dc153_73 : decode (pm_mb 153) 73 = .ok (.getfield 22, 3) := by decide +kernel
theorem dc153_76 : decode (pm_mb 153) 76 = .ok (.iconst 1, 1) := by decide +kernel
theorem dc153_77 : decode (pm_mb 153) 77 = .ok (.iaload, 1) := by decide +kernel
theorem dc153_78 : decode (pm_mb 153) 78 = .ok (.iconst 1, 1) := by decide +kernel
theorem dc153_79 : decode (pm_mb 153) 79 = .ok (.isub, 1) := by decide +kernel
theorem dc153_80 : decode (pm_mb 153) 80 = .ok (.i2l, 1) := by decide +kernel
theorem dc153_81 : decode (pm_mb 153) 81 = .ok (.invokestatic 60, 3) := by decide +kernel
theorem dc153_84 : decode (pm_mb 153) 84 = .ok (.ifCond .eq 20, 3) := by decide +kernel
theorem dc153_87 : decode (pm_mb 153) 87 = .ok (.aload_n 0, 1) := by decide +kernel
theorem dc153_88 : decode (pm_mb 153) 88 = .ok (.iload_n 2, 1) := by decide +kernel
theorem dc153_89 : decode (pm_mb 153) 89 = .ok (.aload_n 0, 1) := by decide +kernel
theorem dc153_90 : decode (pm_mb 153) 90 = .ok (.invokevirtual 121, 3) := by decide +kernel
theorem dc153_93 : decode (pm_mb 153) 93 = .ok (.invokevirtual 158, 3) := by decide +kernel
theorem dc153_96 : decode (pm_mb 153) 96 = .ok (.ifCond .eq 8, 3) := by decide +kernel
theorem dc153_99 : decode (pm_mb 153) 99 = .ok (.aload_n 0, 1) := by decide +kernel
theorem dc153_100 : decode (pm_mb 153) 100 = .ok (.iconst 2, 1) := by decide +kernel
theorem dc153_101 : decode (pm_mb 153) 101 = .ok (.invokevirtual 117, 3) := by decide +kernel
theorem dc153_104 : decode (pm_mb 153) 104 = .ok (.aload_n 0, 1) := by decide +kernel
theorem dc153_105 : decode (pm_mb 153) 105 = .ok (.iconst 0, 1) := by decide +kernel
theorem dc153_106 : decode (pm_mb 153) 106 = .ok (.aload_n 0, 1) := by decide +kernel
theorem dc153_107 : decode (pm_mb 153) 107 = .ok (.getfield 22, 3) := by decide +kernel
theorem dc153_110 : decode (pm_mb 153) 110 = .ok (.iconst 1, 1) := by decide +kernel
theorem dc153_111 : decode (pm_mb 153) 111 = .ok (.iaload, 1) := by decide +kernel
theorem dc153_112 : decode (pm_mb 153) 112 = .ok (.iconst 1, 1) := by decide +kernel
theorem dc153_113 : decode (pm_mb 153) 113 = .ok (.isub, 1) := by decide +kernel
theorem dc153_114 : decode (pm_mb 153) 114 = .ok (.invokevirtual 143, 3) := by decide +kernel
theorem dc153_117 : decode (pm_mb 153) 117 = .ok (.istore_n 3, 1) := by decide +kernel
theorem dc153_118 : decode (pm_mb 153) 118 = .ok (.aload_n 0, 1) := by decide +kernel
theorem dc153_119 : decode (pm_mb 153) 119 = .ok (.iconst 1, 1) := by decide +kernel
theorem dc153_120 : decode (pm_mb 153) 120 = .ok (.bipush 20, 2) := by decide +kernel
theorem dc153_122 : decode (pm_mb 153) 122 = .ok (.invokevirtual 143, 3) := by decide +kernel
theorem dc153_125 : decode (pm_mb 153) 125 = .ok (.istore 4, 2) := by decide +kernel
theorem dc153_127 : decode (pm_mb 153) 127 = .ok (.aload_n 0, 1) := by decide +kernel
theorem dc153_128 : decode (pm_mb 153) 128 = .ok (.invokevirtual 147, 3) := by decide +kernel
theorem dc153_131 : decode (pm_mb 153) 131 = .ok (.aload_n 0, 1) := by decide +kernel
theorem dc153_132 : decode (pm_mb 153) 132 = .ok (.getfield 108, 3) := by decide +kernel
theorem dc153_135 : decode (pm_mb 153) 135 = .ok (.ifCond .ne 66, 3) := by decide +kernel
theorem dc153_138 : decode (pm_mb 153) 138 = .ok (.bipush 9, 2) := by decide +kernel
theorem dc153_140 : decode (pm_mb 153) 140 = .ok (.bipush 6, 2) := by decide +kernel
theorem dc153_142 : decode (pm_mb 153) 142 = .ok (.aload_n 0, 1) := by decide +kernel
theorem dc153_143 : decode (pm_mb 153) 143 = .ok (.getfield 22, 3) := by decide +kernel
theorem dc153_146 : decode (pm_mb 153) 146 = .ok (.iconst 3, 1) := by decide +kernel
theorem dc153_147 : decode (pm_mb 153) 147 = .ok (.iaload, 1) := by decide +kernel
theorem dc153_148 : decode (pm_mb 153) 148 = .ok (.imul, 1) := by decide +kernel
theorem dc153_149 : decode (pm_mb 153) 149 = .ok (.iadd, 1) := by decide +kernel
theorem dc153_150 : decode (pm_mb 153) 150 = .ok (.istore 5, 2) := by decide +kernel
theorem dc153_152 : decode (pm_mb 153) 152 = .ok (.aload_n 0, 1) := by decide +kernel
theorem dc153_153 : decode (pm_mb 153) 153 = .ok (.getfield 22, 3) := by decide +kernel
theorem dc153_156 : decode (pm_mb 153) 156 = .ok (.iload 5, 2) := by decide +kernel
theorem dc153_158 : decode (pm_mb 153) 158 = .ok (.iload_n 1, 1) := by decide +kernel
theorem dc153_159 : decode (pm_mb 153) 159 = .ok (.iastore, 1) := by decide +kernel
theorem dc153_160 : decode (pm_mb 153) 160 = .ok (.aload_n 0, 1) := by decide +kernel
theorem dc153_161 : decode (pm_mb 153) 161 = .ok (.getfield 22, 3) := by decide +kernel
theorem dc153_164 : decode (pm_mb 153) 164 = .ok (.iload 5, 2) := by decide +kernel
theorem dc153_166 : decode (pm_mb 153) 166 = .ok (.iconst 1, 1) := by decide +kernel
theorem dc153_167 : decode (pm_mb 153) 167 = .ok (.iadd, 1) := by decide +kernel
theorem dc153_168 : decode (pm_mb 153) 168 = .ok (.iload_n 2, 1) := by decide +kernel
theorem dc153_169 : decode (pm_mb 153) 169 = .ok (.iastore, 1) := by decide +kernel
theorem dc153_170 : decode (pm_mb 153) 170 = .ok (.aload_n 0, 1) := by decide +kernel
theorem dc153_171 : decode (pm_mb 153) 171 = .ok (.getfield 22, 3) := by decide +kernel
theorem dc153_174 : decode (pm_mb 153) 174 = .ok (.iload 5, 2) := by decide +kernel
theorem dc153_176 : decode (pm_mb 153) 176 = .ok (.iconst 2, 1) := by decide +kernel
theorem dc153_177 : decode (pm_mb 153) 177 = .ok (.iadd, 1) := by decide +kernel
theorem dc153_178 : decode (pm_mb 153) 178 = .ok (.iload_n 3, 1) := by decide +kernel
theorem dc153_179 : decode (pm_mb 153) 179 = .ok (.iastore, 1) := by decide +kernel
theorem dc153_180 : decode (pm_mb 153) 180 = .ok (.aload_n 0, 1) := by decide +kernel
theorem dc153_181 : decode (pm_mb 153) 181 = .ok (.getfield 22, 3) := by decide +kernel
theorem dc153_184 : decode (pm_mb 153) 184 = .ok (.iload 5, 2) := by decide +kernel
theorem dc153_186 : decode (pm_mb 153) 186 = .ok (.iconst 3, 1) := by decide +kernel
theorem dc153_187 : decode (pm_mb 153) 187 = .ok (.iadd, 1) := by decide +kernel
theorem dc153_188 : decode (pm_mb 153) 188 = .ok (.iload 4, 2) := by decide +kernel
theorem dc153_190 : decode (pm_mb 153) 190 = .ok (.iastore, 1) := by decide +kernel
theorem dc153_191 : decode (pm_mb 153) 191 = .ok (.aload_n 0, 1) := by decide +kernel
theorem dc153_192 : decode (pm_mb 153) 192 = .ok (.getfield 22, 3) := by decide +kernel
theorem dc153_195 : decode (pm_mb 153) 195 = .ok (.iconst 3, 1) := by decide +kernel
theorem dc153_196 : decode (pm_mb 153) 196 = .ok (.dup2, 1) := by decide +kernel
theorem dc153_197 : decode (pm_mb 153) 197 = .ok (.iaload, 1) := by decide +kernel
theorem dc153_198 : decode (pm_mb 153) 198 = .ok (.iconst 1, 1) := by decide +kernel
theorem dc153_199 : decode (pm_mb 153) 199 = .ok (.iadd, 1) := by decide +kernel
theorem dc153_200 : decode (pm_mb 153) 200 = .ok (.iastore, 1) := by decide +kernel
theorem dc153_201 : decode (pm_mb 153) 201 = .ok (.return_, 1) := by decide +kernel
theorem b153_0 {X : pm_X} {d : Nat} {g : pm_G} {iv : pm_V} (hL : pm_lay g) : pm_at X d 153 (0, [some (.ref 32), none, none, none, none, none], [], g, iv) = pm_then X d 153 7 [some (.ref 32), none, none, none, none, none] [] (pm_c X d 150 [.ref 32, .int 3, .int 6] g iv) := by
  refine (at_aload_n dc153_0 rfl).trans ?_
  refine (at_iconst (v := 3) dc153_1 rfl).trans ?_
  refine (at_bipush (v := 6) dc153_2 (by decide)).trans ?_
  exact at_inv dc153_4 mc153 lm6_139 rfl rfl (Nat.le_of_ble_eq_true rfl) (Or.inl ⟨(ly32 hL), by decide⟩)
theorem b153_7 {X : pm_X} {d : Nat} {g : pm_G} {iv : pm_V} (hL : pm_lay g) : pm_at X d 153 (7, [some (.ref 32), none, none, none, none, none], [], g, iv) = pm_then X d 153 11 [some (.ref 32), none, none, none, none, none] [] (pm_c X d 145 [.ref 32] g iv) := by
  refine (at_aload_n dc153_7 rfl).trans ?_
  exact at_inv dc153_8 mc153 lm6_150 rfl rfl (Nat.le_of_ble_eq_true rfl) (Or.inl ⟨(ly32 hL), by decide⟩)
theorem b153_11 {X : pm_X} {d : Nat} {s0 : Int64} {g : pm_G} {iv : pm_V}  : pm_at X d 153 (11, [some (.ref 32), none, none, none, none, none], [.long s0], g, iv) = pm_then X d 153 14 [some (.ref 32), none, none, none, none, none] [] (pm_c X d 148 [.long s0] g iv) := by
  exact at_ins dc153_11 mc153 lm6_154 (Nat.le_of_ble_eq_true rfl) rfl rfl (Nat.le_of_ble_eq_true rfl)
theorem b153_14 {X : pm_X} {d : Nat} {s0 : Int32} {g : pm_G} {iv : pm_V} (hL : pm_lay g) : pm_at X d 153 (14, [some (.ref 32), none, none, none, none, none], [.int s0], g, iv) = if ¬ (iv 32 17) = 0 then pm_at X d 153 (37, [some (.ref 32), some (.int s0), none, none, none, none], [], g, iv) else pm_at X d 153 (22, [some (.ref 32), some (.int s0), none, none, none, none], [], g, iv) := by
  refine (at_istore_n dc153_14 rfl).trans ?_
  refine (at_aload_n dc153_15 rfl).trans ?_
  refine (at_gfI dc153_16 mc153 lf6_108 fo6_17 (ly32 hL)).trans ?_
  exact at_if_ne (t := 37) dc153_19 (by decide)
theorem b153_22 {X : pm_X} {d : Nat} {x1 : Int32} {g : pm_G} {iv : pm_V}  : pm_at X d 153 (22, [some (.ref 32), some (.int x1), none, none, none, none], [], g, iv) = if x1 = (-1000000) then pm_at X d 153 (33, [some (.ref 32), some (.int x1), none, none, none, none], [.ref 32], g, iv) else pm_at X d 153 (29, [some (.ref 32), some (.int x1), none, none, none, none], [.ref 32], g, iv) := by
  refine (at_aload_n dc153_22 rfl).trans ?_
  refine (at_iload_n dc153_23 rfl).trans ?_
  refine (at_ldc dc153_24 mc153 lk6_86).trans ?_
  exact at_icmp_eq (t := 33) dc153_26 (by decide)
theorem b153_29 {X : pm_X} {d : Nat} {x1 : Int32} {g : pm_G} {iv : pm_V}  : pm_at X d 153 (29, [some (.ref 32), some (.int x1), none, none, none, none], [.ref 32], g, iv) = pm_at X d 153 (34, [some (.ref 32), some (.int x1), none, none, none, none], [.int 1, .ref 32], g, iv) := by
  refine (at_iconst (v := 1) dc153_29 rfl).trans ?_
  refine (at_goto (t := 34) dc153_30 (by decide)).trans ?_
  rfl
theorem b153_33 {X : pm_X} {d : Nat} {x1 : Int32} {g : pm_G} {iv : pm_V}  : pm_at X d 153 (33, [some (.ref 32), some (.int x1), none, none, none, none], [.ref 32], g, iv) = pm_at X d 153 (34, [some (.ref 32), some (.int x1), none, none, none, none], [.int 0, .ref 32], g, iv) := by
  refine (at_iconst (v := 0) dc153_33 rfl).trans ?_
  rfl
theorem b153_34 {X : pm_X} {d : Nat} {x1 : Int32} {s0 : Int32} {g : pm_G} {iv : pm_V} (hL : pm_lay g) : pm_at X d 153 (34, [some (.ref 32), some (.int x1), none, none, none, none], [.int s0, .ref 32], g, iv) = pm_then X d 153 37 [some (.ref 32), some (.int x1), none, none, none, none] [] (pm_c X d 144 [.ref 32, .int s0] g iv) := by
  exact at_inv dc153_34 mc153 lm6_125 rfl rfl (Nat.le_of_ble_eq_true rfl) (Or.inl ⟨(ly32 hL), by decide⟩)
theorem b153_37 {X : pm_X} {d : Nat} {x1 : Int32} {g : pm_G} {iv : pm_V} (hL : pm_lay g) : pm_at X d 153 (37, [some (.ref 32), some (.int x1), none, none, none, none], [], g, iv) = pm_then X d 153 50 [some (.ref 32), some (.int x1), none, none, none, none] [] (pm_c X d 147 [.ref 32, .int 0, .int ((iv 37 0) - 1)] g iv) := by
  refine (at_aload_n dc153_37 rfl).trans ?_
  refine (at_iconst (v := 0) dc153_38 rfl).trans ?_
  refine (at_aload_n dc153_39 rfl).trans ?_
  refine (at_gfR dc153_40 mc153 lf6_22 fo6_6 (ly32 hL) (lr32_6 hL)).trans ?_
  refine (at_iconst (v := 0) dc153_43 rfl).trans ?_
  refine (at_iald dc153_44 (ly37 hL) (vp_in_nI (n := 0) (by decide) (by decide))).trans ?_
  refine (at_iconst (v := 1) dc153_45 rfl).trans ?_
  refine (at_isub dc153_46).trans ?_
  exact at_inv dc153_47 mc153 lm6_143 rfl rfl (Nat.le_of_ble_eq_true rfl) (Or.inl ⟨(ly32 hL), by decide⟩)
theorem b153_50 {X : pm_X} {d : Nat} {x1 : Int32} {s0 : Int32} {g : pm_G} {iv : pm_V} (hL : pm_lay g) : pm_at X d 153 (50, [some (.ref 32), some (.int x1), none, none, none, none], [.int s0], g, iv) = if ¬ (iv 32 17) = 0 then pm_at X d 153 (104, [some (.ref 32), some (.int x1), some (.int s0), none, none, none], [], g, iv) else pm_at X d 153 (58, [some (.ref 32), some (.int x1), some (.int s0), none, none, none], [], g, iv) := by
  refine (at_istore_n dc153_50 rfl).trans ?_
  refine (at_aload_n dc153_51 rfl).trans ?_
  refine (at_gfI dc153_52 mc153 lf6_108 fo6_17 (ly32 hL)).trans ?_
  exact at_if_ne (t := 104) dc153_55 (by decide)
theorem b153_58 {X : pm_X} {d : Nat} {x1 : Int32} {x2 : Int32} {g : pm_G} {iv : pm_V} (hL : pm_lay g) : pm_at X d 153 (58, [some (.ref 32), some (.int x1), some (.int x2), none, none, none], [], g, iv) = if ¬ (iv 32 14) = 3 then pm_at X d 153 (104, [some (.ref 32), some (.int x1), some (.int x2), none, none, none], [], g, iv) else pm_at X d 153 (66, [some (.ref 32), some (.int x1), some (.int x2), none, none, none], [], g, iv) := by
  refine (at_aload_n dc153_58 rfl).trans ?_
  refine (at_gfI dc153_59 mc153 lf6_96 fo6_14 (ly32 hL)).trans ?_
  refine (at_iconst (v := 3) dc153_62 rfl).trans ?_
  exact at_icmp_ne (t := 104) dc153_63 (by decide)
theorem b153_66 {X : pm_X} {d : Nat} {x1 : Int32} {x2 : Int32} {g : pm_G} {iv : pm_V} (hL : pm_lay g) : pm_at X d 153 (66, [some (.ref 32), some (.int x1), some (.int x2), none, none, none], [], g, iv) = pm_then X d 153 70 [some (.ref 32), some (.int x1), some (.int x2), none, none, none] [] (pm_c X d 146 [.ref 32] g iv) := by
  refine (at_aload_n dc153_66 rfl).trans ?_
  exact at_inv dc153_67 mc153 lm6_121 rfl rfl (Nat.le_of_ble_eq_true rfl) (Or.inl ⟨(ly32 hL), by decide⟩)
theorem b153_70 {X : pm_X} {d : Nat} {x1 : Int32} {x2 : Int32} {s0 : Int32} {g : pm_G} {iv : pm_V} (hL : pm_lay g) : pm_at X d 153 (70, [some (.ref 32), some (.int x1), some (.int x2), none, none, none], [.int s0], g, iv) = pm_then X d 153 84 [some (.ref 32), some (.int x1), some (.int x2), none, none, none] [] (pm_c X d 130 [.long (s0 : Int32).toInt64, .long 0, .long (((iv 37 1) - 1) : Int32).toInt64] g iv) := by
  refine (at_i2l dc153_70).trans ?_
  refine (at_lconst (v := 0) dc153_71 (by decide)).trans ?_
  refine (at_aload_n dc153_72 rfl).trans ?_
  refine (at_gfR dc153_73 mc153 lf6_22 fo6_6 (ly32 hL) (lr32_6 hL)).trans ?_
  refine (at_iconst (v := 1) dc153_76 rfl).trans ?_
  refine (at_iald dc153_77 (ly37 hL) (vp_in_nI (n := 1) (by decide) (by decide))).trans ?_
  refine (at_iconst (v := 1) dc153_78 rfl).trans ?_
  refine (at_isub dc153_79).trans ?_
  refine (at_i2l dc153_80).trans ?_
  exact at_ins dc153_81 mc153 lm6_60 (Nat.le_of_ble_eq_true rfl) rfl rfl (Nat.le_of_ble_eq_true rfl)
theorem b153_84 {X : pm_X} {d : Nat} {x1 : Int32} {x2 : Int32} {s0 : Int32} {g : pm_G} {iv : pm_V}  : pm_at X d 153 (84, [some (.ref 32), some (.int x1), some (.int x2), none, none, none], [.int s0], g, iv) = if s0 = 0 then pm_at X d 153 (104, [some (.ref 32), some (.int x1), some (.int x2), none, none, none], [], g, iv) else pm_at X d 153 (87, [some (.ref 32), some (.int x1), some (.int x2), none, none, none], [], g, iv) := by
  exact at_if_eq (t := 104) dc153_84 (by decide)
theorem b153_87 {X : pm_X} {d : Nat} {x1 : Int32} {x2 : Int32} {g : pm_G} {iv : pm_V} (hL : pm_lay g) : pm_at X d 153 (87, [some (.ref 32), some (.int x1), some (.int x2), none, none, none], [], g, iv) = pm_then X d 153 93 [some (.ref 32), some (.int x1), some (.int x2), none, none, none] [.int x2, .ref 32] (pm_c X d 146 [.ref 32] g iv) := by
  refine (at_aload_n dc153_87 rfl).trans ?_
  refine (at_iload_n dc153_88 rfl).trans ?_
  refine (at_aload_n dc153_89 rfl).trans ?_
  exact at_inv dc153_90 mc153 lm6_121 rfl rfl (Nat.le_of_ble_eq_true rfl) (Or.inl ⟨(ly32 hL), by decide⟩)
theorem b153_93 {X : pm_X} {d : Nat} {x1 : Int32} {x2 : Int32} {s0 : Int32} {s1 : Int32} {g : pm_G} {iv : pm_V} (hL : pm_lay g) : pm_at X d 153 (93, [some (.ref 32), some (.int x1), some (.int x2), none, none, none], [.int s0, .int s1, .ref 32], g, iv) = pm_then X d 153 96 [some (.ref 32), some (.int x1), some (.int x2), none, none, none] [] (pm_c X d 152 [.ref 32, .int s1, .int s0] g iv) := by
  exact at_inv dc153_93 mc153 lm6_158 rfl rfl (Nat.le_of_ble_eq_true rfl) (Or.inl ⟨(ly32 hL), by decide⟩)
theorem b153_96 {X : pm_X} {d : Nat} {x1 : Int32} {x2 : Int32} {s0 : Int32} {g : pm_G} {iv : pm_V}  : pm_at X d 153 (96, [some (.ref 32), some (.int x1), some (.int x2), none, none, none], [.int s0], g, iv) = if s0 = 0 then pm_at X d 153 (104, [some (.ref 32), some (.int x1), some (.int x2), none, none, none], [], g, iv) else pm_at X d 153 (99, [some (.ref 32), some (.int x1), some (.int x2), none, none, none], [], g, iv) := by
  exact at_if_eq (t := 104) dc153_96 (by decide)
theorem b153_99 {X : pm_X} {d : Nat} {x1 : Int32} {x2 : Int32} {g : pm_G} {iv : pm_V} (hL : pm_lay g) : pm_at X d 153 (99, [some (.ref 32), some (.int x1), some (.int x2), none, none, none], [], g, iv) = pm_then X d 153 104 [some (.ref 32), some (.int x1), some (.int x2), none, none, none] [] (pm_c X d 143 [.ref 32, .int 2] g iv) := by
  refine (at_aload_n dc153_99 rfl).trans ?_
  refine (at_iconst (v := 2) dc153_100 rfl).trans ?_
  exact at_inv dc153_101 mc153 lm6_117 rfl rfl (Nat.le_of_ble_eq_true rfl) (Or.inl ⟨(ly32 hL), by decide⟩)
theorem b153_104 {X : pm_X} {d : Nat} {x1 : Int32} {x2 : Int32} {g : pm_G} {iv : pm_V} (hL : pm_lay g) : pm_at X d 153 (104, [some (.ref 32), some (.int x1), some (.int x2), none, none, none], [], g, iv) = pm_then X d 153 117 [some (.ref 32), some (.int x1), some (.int x2), none, none, none] [] (pm_c X d 147 [.ref 32, .int 0, .int ((iv 37 1) - 1)] g iv) := by
  refine (at_aload_n dc153_104 rfl).trans ?_
  refine (at_iconst (v := 0) dc153_105 rfl).trans ?_
  refine (at_aload_n dc153_106 rfl).trans ?_
  refine (at_gfR dc153_107 mc153 lf6_22 fo6_6 (ly32 hL) (lr32_6 hL)).trans ?_
  refine (at_iconst (v := 1) dc153_110 rfl).trans ?_
  refine (at_iald dc153_111 (ly37 hL) (vp_in_nI (n := 1) (by decide) (by decide))).trans ?_
  refine (at_iconst (v := 1) dc153_112 rfl).trans ?_
  refine (at_isub dc153_113).trans ?_
  exact at_inv dc153_114 mc153 lm6_143 rfl rfl (Nat.le_of_ble_eq_true rfl) (Or.inl ⟨(ly32 hL), by decide⟩)
theorem b153_117 {X : pm_X} {d : Nat} {x1 : Int32} {x2 : Int32} {s0 : Int32} {g : pm_G} {iv : pm_V} (hL : pm_lay g) : pm_at X d 153 (117, [some (.ref 32), some (.int x1), some (.int x2), none, none, none], [.int s0], g, iv) = pm_then X d 153 125 [some (.ref 32), some (.int x1), some (.int x2), some (.int s0), none, none] [] (pm_c X d 147 [.ref 32, .int 1, .int 20] g iv) := by
  refine (at_istore_n dc153_117 rfl).trans ?_
  refine (at_aload_n dc153_118 rfl).trans ?_
  refine (at_iconst (v := 1) dc153_119 rfl).trans ?_
  refine (at_bipush (v := 20) dc153_120 (by decide)).trans ?_
  exact at_inv dc153_122 mc153 lm6_143 rfl rfl (Nat.le_of_ble_eq_true rfl) (Or.inl ⟨(ly32 hL), by decide⟩)
theorem b153_125 {X : pm_X} {d : Nat} {x1 : Int32} {x2 : Int32} {x3 : Int32} {s0 : Int32} {g : pm_G} {iv : pm_V} (hL : pm_lay g) : pm_at X d 153 (125, [some (.ref 32), some (.int x1), some (.int x2), some (.int x3), none, none], [.int s0], g, iv) = pm_then X d 153 131 [some (.ref 32), some (.int x1), some (.int x2), some (.int x3), some (.int s0), none] [] (pm_c X d 149 [.ref 32] g iv) := by
  refine (at_istore dc153_125 rfl).trans ?_
  refine (at_aload_n dc153_127 rfl).trans ?_
  exact at_inv dc153_128 mc153 lm6_147 rfl rfl (Nat.le_of_ble_eq_true rfl) (Or.inl ⟨(ly32 hL), by decide⟩)
theorem b153_131 {X : pm_X} {d : Nat} {x1 : Int32} {x2 : Int32} {x3 : Int32} {x4 : Int32} {g : pm_G} {iv : pm_V} (hL : pm_lay g) : pm_at X d 153 (131, [some (.ref 32), some (.int x1), some (.int x2), some (.int x3), some (.int x4), none], [], g, iv) = if ¬ (iv 32 17) = 0 then pm_at X d 153 (201, [some (.ref 32), some (.int x1), some (.int x2), some (.int x3), some (.int x4), none], [], g, iv) else pm_at X d 153 (138, [some (.ref 32), some (.int x1), some (.int x2), some (.int x3), some (.int x4), none], [], g, iv) := by
  refine (at_aload_n dc153_131 rfl).trans ?_
  refine (at_gfI dc153_132 mc153 lf6_108 fo6_17 (ly32 hL)).trans ?_
  exact at_if_ne (t := 201) dc153_135 (by decide)
theorem b153_138 {X : pm_X} {d : Nat} {x1 : Int32} {x2 : Int32} {x3 : Int32} {x4 : Int32} {g : pm_G} {iv : pm_V} (hL : pm_lay g) (i1 : vp_in ((9 + (6 * (iv 37 3)))) 45) (i2 : vp_in (((9 + (6 * (iv 37 3))) + 1)) 45) (i3 : vp_in (((9 + (6 * (iv 37 3))) + 2)) 45) (i4 : vp_in (((9 + (6 * (iv 37 3))) + 3)) 45) : pm_at X d 153 (138, [some (.ref 32), some (.int x1), some (.int x2), some (.int x3), some (.int x4), none], [], g, iv) = pm_at X d 153 (201, [some (.ref 32), some (.int x1), some (.int x2), some (.int x3), some (.int x4), some (.int (9 + (6 * (iv 37 3))))], [], g, (pm_iw (pm_iw (pm_iw (pm_iw (pm_iw iv 37 ((9 + (6 * (iv 37 3))) : Int32).toNatClampNeg x1) 37 (((9 + (6 * (iv 37 3))) + 1) : Int32).toNatClampNeg x2) 37 (((9 + (6 * (iv 37 3))) + 2) : Int32).toNatClampNeg x3) 37 (((9 + (6 * (iv 37 3))) + 3) : Int32).toNatClampNeg x4) 37 3 ((((pm_iw (pm_iw (pm_iw (pm_iw iv 37 ((9 + (6 * (iv 37 3))) : Int32).toNatClampNeg x1) 37 (((9 + (6 * (iv 37 3))) + 1) : Int32).toNatClampNeg x2) 37 (((9 + (6 * (iv 37 3))) + 2) : Int32).toNatClampNeg x3) 37 (((9 + (6 * (iv 37 3))) + 3) : Int32).toNatClampNeg x4) 37 3) + 1)))) := by
  refine (at_bipush (v := 9) dc153_138 (by decide)).trans ?_
  refine (at_bipush (v := 6) dc153_140 (by decide)).trans ?_
  refine (at_aload_n dc153_142 rfl).trans ?_
  refine (at_gfR dc153_143 mc153 lf6_22 fo6_6 (ly32 hL) (lr32_6 hL)).trans ?_
  refine (at_iconst (v := 3) dc153_146 rfl).trans ?_
  refine (at_iald dc153_147 (ly37 hL) (vp_in_nI (n := 3) (by decide) (by decide))).trans ?_
  refine (at_imul dc153_148).trans ?_
  refine (at_iadd dc153_149).trans ?_
  refine (at_istore dc153_150 rfl).trans ?_
  refine (at_aload_n dc153_152 rfl).trans ?_
  refine (at_gfR dc153_153 mc153 lf6_22 fo6_6 (ly32 hL) (lr32_6 hL)).trans ?_
  refine (at_iload dc153_156 rfl).trans ?_
  refine (at_iload_n dc153_158 rfl).trans ?_
  refine (at_iast dc153_159 (ly37 hL) i1).trans ?_
  refine (at_aload_n dc153_160 rfl).trans ?_
  refine (at_gfR dc153_161 mc153 lf6_22 fo6_6 (ly32 hL) (lr32_6 hL)).trans ?_
  refine (at_iload dc153_164 rfl).trans ?_
  refine (at_iconst (v := 1) dc153_166 rfl).trans ?_
  refine (at_iadd dc153_167).trans ?_
  refine (at_iload_n dc153_168 rfl).trans ?_
  refine (at_iast dc153_169 (ly37 hL) i2).trans ?_
  refine (at_aload_n dc153_170 rfl).trans ?_
  refine (at_gfR dc153_171 mc153 lf6_22 fo6_6 (ly32 hL) (lr32_6 hL)).trans ?_
  refine (at_iload dc153_174 rfl).trans ?_
  refine (at_iconst (v := 2) dc153_176 rfl).trans ?_
  refine (at_iadd dc153_177).trans ?_
  refine (at_iload_n dc153_178 rfl).trans ?_
  refine (at_iast dc153_179 (ly37 hL) i3).trans ?_
  refine (at_aload_n dc153_180 rfl).trans ?_
  refine (at_gfR dc153_181 mc153 lf6_22 fo6_6 (ly32 hL) (lr32_6 hL)).trans ?_
  refine (at_iload dc153_184 rfl).trans ?_
  refine (at_iconst (v := 3) dc153_186 rfl).trans ?_
  refine (at_iadd dc153_187).trans ?_
  refine (at_iload dc153_188 rfl).trans ?_
  refine (at_iast dc153_190 (ly37 hL) i4).trans ?_
  refine (at_aload_n dc153_191 rfl).trans ?_
  refine (at_gfR dc153_192 mc153 lf6_22 fo6_6 (ly32 hL) (lr32_6 hL)).trans ?_
  refine (at_iconst (v := 3) dc153_195 rfl).trans ?_
  refine (at_dup2 dc153_196 ⟨rfl, rfl⟩).trans ?_
  refine (at_iald dc153_197 (ly37 hL) (vp_in_nI (n := 3) (by decide) (by decide))).trans ?_
  refine (at_iconst (v := 1) dc153_198 rfl).trans ?_
  refine (at_iadd dc153_199).trans ?_
  refine (at_iast dc153_200 (ly37 hL) (vp_in_nI (n := 3) (by decide) (by decide))).trans ?_
  rfl
theorem b153_201 {X : pm_X} {d : Nat} {x1 : Int32} {x2 : Int32} {x3 : Int32} {x4 : Int32} {z5 : Option Value} {g : pm_G} {iv : pm_V}  : pm_at X d 153 (201, [some (.ref 32), some (.int x1), some (.int x2), some (.int x3), some (.int x4), z5], [], g, iv) = some (none, g, iv) := by
  exact at_vret dc153_201 mr153
-- Mod.hill ()I
theorem dc154_0 : decode (pm_mb 154) 0 = .ok (.aload_n 0, 1) := by decide +kernel
theorem dc154_1 : decode (pm_mb 154) 1 = .ok (.iconst 0, 1) := by decide +kernel
theorem dc154_2 : decode (pm_mb 154) 2 = .ok (.putfield 50, 3) := by decide +kernel
theorem dc154_5 : decode (pm_mb 154) 5 = .ok (.aload_n 0, 1) := by decide +kernel
theorem dc154_6 : decode (pm_mb 154) 6 = .ok (.invokevirtual 162, 3) := by decide +kernel
theorem dc154_9 : decode (pm_mb 154) 9 = .ok (.iconst 0, 1) := by decide +kernel
theorem dc154_10 : decode (pm_mb 154) 10 = .ok (.istore_n 1, 1) := by decide +kernel
theorem dc154_11 : decode (pm_mb 154) 11 = .ok (.iload_n 1, 1) := by decide +kernel
theorem dc154_12 : decode (pm_mb 154) 12 = .ok (.bipush 45, 2) := by decide +kernel
theorem dc154_14 : decode (pm_mb 154) 14 = .ok (.if_icmp .ge 16, 3) := by decide +kernel
theorem dc154_17 : decode (pm_mb 154) 17 = .ok (.aload_n 0, 1) := by decide +kernel
theorem dc154_18 : decode (pm_mb 154) 18 = .ok (.getfield 22, 3) := by decide +kernel
theorem dc154_21 : decode (pm_mb 154) 21 = .ok (.iload_n 1, 1) := by decide +kernel
theorem dc154_22 : decode (pm_mb 154) 22 = .ok (.iconst 0, 1) := by decide +kernel
theorem dc154_23 : decode (pm_mb 154) 23 = .ok (.iastore, 1) := by decide +kernel
theorem dc154_24 : decode (pm_mb 154) 24 = .ok (.iinc 1 1, 3) := by decide +kernel
theorem dc154_27 : decode (pm_mb 154) 27 = .ok (.goto (-16), 3) := by decide +kernel
theorem dc154_30 : decode (pm_mb 154) 30 = .ok (.aload_n 0, 1) := by decide +kernel
theorem dc154_31 : decode (pm_mb 154) 31 = .ok (.aload_n 0, 1) := by decide +kernel
theorem dc154_32 : decode (pm_mb 154) 32 = .ok (.invokevirtual 150, 3) := by decide +kernel
theorem dc154_35 : decode (pm_mb 154) 35 = .ok (.ldc2_w 165, 3) := by decide +kernel
theorem dc154_38 : decode (pm_mb 154) 38 = .ok (.lcmp, 1) := by decide +kernel
theorem dc154_39 : decode (pm_mb 154) 39 = .ok (.ifCond .ne 7, 3) := by decide +kernel
theorem dc154_42 : decode (pm_mb 154) 42 = .ok (.iconst 1, 1) := by decide +kernel
theorem dc154_43 : decode (pm_mb 154) 43 = .ok (.goto 4, 3) := by decide +kernel
theorem dc154_46 : decode (pm_mb 154) 46 = .ok (.iconst 0, 1) := by decide +kernel
theorem dc154_47 : decode (pm_mb 154) 47 = .ok (.invokevirtual 125, 3) := by decide +kernel
theorem dc154_50 : decode (pm_mb 154) 50 = .ok (.aload_n 0, 1) := by decide +kernel
theorem dc154_51 : decode (pm_mb 154) 51 = .ok (.getfield 22, 3) := by decide +kernel
theorem dc154_54 : decode (pm_mb 154) 54 = .ok (.iconst 0, 1) := by decide +kernel
theorem dc154_55 : decode (pm_mb 154) 55 = .ok (.aload_n 0, 1) := by decide +kernel
theorem dc154_56 : decode (pm_mb 154) 56 = .ok (.iconst 1, 1) := by decide +kernel
theorem dc154_57 : decode (pm_mb 154) 57 = .ok (.iconst 4, 1) := by decide +kernel
theorem dc154_58 : decode (pm_mb 154) 58 = .ok (.invokevirtual 143, 3) := by decide +kernel
theorem dc154_61 : decode (pm_mb 154) 61 = .ok (.iastore, 1) := by decide +kernel
theorem dc154_62 : decode (pm_mb 154) 62 = .ok (.aload_n 0, 1) := by decide +kernel
theorem dc154_63 : decode (pm_mb 154) 63 = .ok (.getfield 22, 3) := by decide +kernel
theorem dc154_66 : decode (pm_mb 154) 66 = .ok (.iconst 1, 1) := by decide +kernel
theorem dc154_67 : decode (pm_mb 154) 67 = .ok (.aload_n 0, 1) := by decide +kernel
theorem dc154_68 : decode (pm_mb 154) 68 = .ok (.iconst 4, 1) := by decide +kernel
theorem dc154_69 : decode (pm_mb 154) 69 = .ok (.bipush 20, 2) := by decide +kernel
theorem dc154_71 : decode (pm_mb 154) 71 = .ok (.invokevirtual 143, 3) := by decide +kernel
theorem dc154_74 : decode (pm_mb 154) 74 = .ok (.iastore, 1) := by decide +kernel
theorem dc154_75 : decode (pm_mb 154) 75 = .ok (.aload_n 0, 1) := by decide +kernel
theorem dc154_76 : decode (pm_mb 154) 76 = .ok (.invokevirtual 147, 3) := by decide +kernel
theorem dc154_79 : decode (pm_mb 154) 79 = .ok (.aload_n 0, 1) := by decide +kernel
theorem dc154_80 : decode (pm_mb 154) 80 = .ok (.invokevirtual 150, 3) := by decide +kernel
theorem dc154_83 : decode (pm_mb 154) 83 = .ok (.ldc2_w 167, 3) := by decide +kernel
theorem dc154_86 : decode (pm_mb 154) 86 = .ok (.lcmp, 1) := by decide +kernel
theorem dc154_87 : decode (pm_mb 154) 87 = .ok (.ifCond .ne 10, 3) := by decide +kernel
theorem dc154_90 : decode (pm_mb 154) 90 = .ok (.aload_n 0, 1) := by decide +kernel
theorem dc154_91 : decode (pm_mb 154) 91 = .ok (.invokevirtual 169, 3) := by decide +kernel
theorem dc154_94 : decode (pm_mb 154) 94 = .ok (.goto (-15), 3) := by decide +kernel
theorem dc154_97 : decode (pm_mb 154) 97 = .ok (.aload_n 0, 1) := by decide +kernel
theorem dc154_98 : decode (pm_mb 154) 98 = .ok (.invokevirtual 150, 3) := by decide +kernel
theorem dc154_101 : decode (pm_mb 154) 101 = .ok (.ldc2_w 172, 3) := by decide +kernel
theorem dc154_104 : decode (pm_mb 154) 104 = .ok (.lcmp, 1) := by decide +kernel
theorem dc154_105 : decode (pm_mb 154) 105 = .ok (.ifCond .ne 10, 3) := by decide +kernel
theorem dc154_108 : decode (pm_mb 154) 108 = .ok (.aload_n 0, 1) := by decide +kernel
theorem dc154_109 : decode (pm_mb 154) 109 = .ok (.invokevirtual 174, 3) := by decide +kernel
theorem dc154_112 : decode (pm_mb 154) 112 = .ok (.goto (-15), 3) := by decide +kernel
theorem dc154_115 : decode (pm_mb 154) 115 = .ok (.aload_n 0, 1) := by decide +kernel
theorem dc154_116 : decode (pm_mb 154) 116 = .ok (.getfield 108, 3) := by decide +kernel
theorem dc154_119 : decode (pm_mb 154) 119 = .ok (.ifCond .ne 16, 3) := by decide +kernel
theorem dc154_122 : decode (pm_mb 154) 122 = .ok (.aload_n 0, 1) := by decide +kernel
theorem dc154_123 : decode (pm_mb 154) 123 = .ok (.getfield 96, 3) := by decide +kernel
theorem dc154_126 : decode (pm_mb 154) 126 = .ok (.iconst 1, 1) := by decide +kernel
theorem dc154_127 : decode (pm_mb 154) 127 = .ok (.if_icmp .eq 8, 3) := by decide +kernel
theorem dc154_130 : decode (pm_mb 154) 130 = .ok (.aload_n 0, 1) := by decide +kernel
theorem dc154_131 : decode (pm_mb 154) 131 = .ok (.iconst 1, 1) := by decide +kernel
theorem dc154_132 : decode (pm_mb 154) 132 = .ok (.invokevirtual 117, 3) := by decide +kernel
theorem dc154_135 : decode (pm_mb 154) 135 = .ok (.aload_n 0, 1) := by decide +kernel
theorem dc154_136 : decode (pm_mb 154) 136 = .ok (.getfield 108, 3) := by decide +kernel
theorem dc154_139 : decode (pm_mb 154) 139 = .ok (.ifCond .le 19, 3) := by decide +kernel
theorem dc154_142 : decode (pm_mb 154) 142 = .ok (.aload_n 0, 1) := by decide +kernel
theorem dc154_143 : decode (pm_mb 154) 143 = .ok (.aload_n 0, 1) := by decide +kernel
theorem dc154_144 : decode (pm_mb 154) 144 = .ok (.getfield 108, 3) := by decide +kernel
theorem dc154_147 : decode (pm_mb 154) 147 = .ok (.putfield 177, 3) := by decide +kernel
theorem dc154_150 : decode (pm_mb 154) 150 = .ok (.ldc 180, 2) := by decide +kernel
theorem dc154_152 : decode (pm_mb 154) 152 = .ok (.aload_n 0, 1) := by decide +kernel
theorem dc154_153 : decode (pm_mb 154) 153 = .ok (.getfield 114, 3) := by decide +kernel
theorem dc154_156 : decode (pm_mb 154) 156 = .ok (.isub, 1) := by decide +kernel
theorem dc154_157 : decode (pm_mb 154) 157 = .ok (.ireturn, 1) := by decide +kernel
theorem dc154_158 : decode (pm_mb 154) 158 = .ok (.aload_n 0, 1) := by decide +kernel
theorem dc154_159 : decode (pm_mb 154) 159 = .ok (.iconst 0, 1) := by decide +kernel
theorem dc154_160 : decode (pm_mb 154) 160 = .ok (.putfield 181, 3) := by decide +kernel
theorem dc154_163 : decode (pm_mb 154) 163 = .ok (.iconst 0, 1) := by decide +kernel
theorem dc154_164 : decode (pm_mb 154) 164 = .ok (.istore_n 1, 1) := by decide +kernel
theorem dc154_165 : decode (pm_mb 154) 165 = .ok (.iload_n 1, 1) := by decide +kernel
theorem dc154_166 : decode (pm_mb 154) 166 = .ok (.bipush 45, 2) := by decide +kernel
theorem dc154_168 : decode (pm_mb 154) 168 = .ok (.if_icmp .ge 21, 3) := by decide +kernel
theorem dc154_171 : decode (pm_mb 154) 171 = .ok (.aload_n 0, 1) := by decide +kernel
theorem dc154_172 : decode (pm_mb 154) 172 = .ok (.getfield 19, 3) := by decide +kernel
theorem dc154_175 : decode (pm_mb 154) 175 = .ok (.iload_n 1, 1) := by decide +kernel
theorem dc154_176 : decode (pm_mb 154) 176 = .ok (.aload_n 0, 1) := by decide +kernel
theorem dc154_177 : decode (pm_mb 154) 177 = .ok (.getfield 22, 3) := by decide +kernel
theorem dc154_180 : decode (pm_mb 154) 180 = .ok (.iload_n 1, 1) := by decide +kernel
theorem dc154_181 : decode (pm_mb 154) 181 = .ok (.iaload, 1) := by decide +kernel
theorem dc154_182 : decode (pm_mb 154) 182 = .ok (.iastore, 1) := by decide +kernel
theorem dc154_183 : decode (pm_mb 154) 183 = .ok (.iinc 1 1, 3) := by decide +kernel
theorem dc154_186 : decode (pm_mb 154) 186 = .ok (.goto (-21), 3) := by decide +kernel
theorem dc154_189 : decode (pm_mb 154) 189 = .ok (.aload_n 0, 1) := by decide +kernel
theorem dc154_190 : decode (pm_mb 154) 190 = .ok (.getfield 19, 3) := by decide +kernel
theorem dc154_193 : decode (pm_mb 154) 193 = .ok (.iconst 3, 1) := by decide +kernel
theorem dc154_194 : decode (pm_mb 154) 194 = .ok (.iaload, 1) := by decide +kernel
theorem dc154_195 : decode (pm_mb 154) 195 = .ok (.ireturn, 1) := by decide +kernel
theorem b154_0 {X : pm_X} {d : Nat} {g : pm_G} {iv : pm_V} (hL : pm_lay g) : pm_at X d 154 (0, [some (.ref 32), none], [], g, iv) = pm_then X d 154 9 [some (.ref 32), none] [] (pm_c X d 142 [.ref 32] g (pm_iw iv 32 0 0)) := by
  refine (at_aload_n dc154_0 rfl).trans ?_
  refine (at_iconst (v := 0) dc154_1 rfl).trans ?_
  refine (at_pfI dc154_2 mc154 lf6_50 po6_0 (ly32 hL)).trans ?_
  refine (at_aload_n dc154_5 rfl).trans ?_
  exact at_inv dc154_6 mc154 lm6_162 rfl rfl (Nat.le_of_ble_eq_true rfl) (Or.inl ⟨(ly32 hL), by decide⟩)
theorem b154_9 {X : pm_X} {d : Nat} {g : pm_G} {iv : pm_V}  : pm_at X d 154 (9, [some (.ref 32), none], [], g, iv) = pm_at X d 154 (11, [some (.ref 32), some (.int 0)], [], g, iv) := by
  refine (at_iconst (v := 0) dc154_9 rfl).trans ?_
  refine (at_istore_n dc154_10 rfl).trans ?_
  rfl
theorem b154_11 {X : pm_X} {d : Nat} {x1 : Int32} {g : pm_G} {iv : pm_V}  : pm_at X d 154 (11, [some (.ref 32), some (.int x1)], [], g, iv) = if 45 ≤ x1 then pm_at X d 154 (30, [some (.ref 32), some (.int x1)], [], g, iv) else pm_at X d 154 (17, [some (.ref 32), some (.int x1)], [], g, iv) := by
  refine (at_iload_n dc154_11 rfl).trans ?_
  refine (at_bipush (v := 45) dc154_12 (by decide)).trans ?_
  exact at_icmp_ge (t := 30) dc154_14 (by decide)
theorem b154_17 {X : pm_X} {d : Nat} {x1 : Int32} {g : pm_G} {iv : pm_V} (hL : pm_lay g) (i1 : vp_in x1 45) : pm_at X d 154 (17, [some (.ref 32), some (.int x1)], [], g, iv) = pm_at X d 154 (11, [some (.ref 32), some (.int (x1 + 1))], [], g, (pm_iw iv 37 (x1 : Int32).toNatClampNeg 0)) := by
  refine (at_aload_n dc154_17 rfl).trans ?_
  refine (at_gfR dc154_18 mc154 lf6_22 fo6_6 (ly32 hL) (lr32_6 hL)).trans ?_
  refine (at_iload_n dc154_21 rfl).trans ?_
  refine (at_iconst (v := 0) dc154_22 rfl).trans ?_
  refine (at_iast dc154_23 (ly37 hL) i1).trans ?_
  refine (at_iinc (v := 1) dc154_24 rfl (by decide) rfl).trans ?_
  refine (at_goto (t := 11) dc154_27 (by decide)).trans ?_
  rfl
theorem b154_30 {X : pm_X} {d : Nat} {x1 : Int32} {g : pm_G} {iv : pm_V} (hL : pm_lay g) : pm_at X d 154 (30, [some (.ref 32), some (.int x1)], [], g, iv) = pm_then X d 154 35 [some (.ref 32), some (.int x1)] [.ref 32] (pm_c X d 145 [.ref 32] g iv) := by
  refine (at_aload_n dc154_30 rfl).trans ?_
  refine (at_aload_n dc154_31 rfl).trans ?_
  exact at_inv dc154_32 mc154 lm6_150 rfl rfl (Nat.le_of_ble_eq_true rfl) (Or.inl ⟨(ly32 hL), by decide⟩)
theorem b154_35 {X : pm_X} {d : Nat} {x1 : Int32} {s0 : Int64} {g : pm_G} {iv : pm_V}  : pm_at X d 154 (35, [some (.ref 32), some (.int x1)], [.long s0, .ref 32], g, iv) = if ¬ (lg_cmp s0 495740481637) = 0 then pm_at X d 154 (46, [some (.ref 32), some (.int x1)], [.ref 32], g, iv) else pm_at X d 154 (42, [some (.ref 32), some (.int x1)], [.ref 32], g, iv) := by
  refine (at_ldc2 dc154_35 mc154 ll6_165).trans ?_
  refine (at_lcmp dc154_38).trans ?_
  exact at_if_ne (t := 46) dc154_39 (by decide)
theorem b154_42 {X : pm_X} {d : Nat} {x1 : Int32} {g : pm_G} {iv : pm_V}  : pm_at X d 154 (42, [some (.ref 32), some (.int x1)], [.ref 32], g, iv) = pm_at X d 154 (47, [some (.ref 32), some (.int x1)], [.int 1, .ref 32], g, iv) := by
  refine (at_iconst (v := 1) dc154_42 rfl).trans ?_
  refine (at_goto (t := 47) dc154_43 (by decide)).trans ?_
  rfl
theorem b154_46 {X : pm_X} {d : Nat} {x1 : Int32} {g : pm_G} {iv : pm_V}  : pm_at X d 154 (46, [some (.ref 32), some (.int x1)], [.ref 32], g, iv) = pm_at X d 154 (47, [some (.ref 32), some (.int x1)], [.int 0, .ref 32], g, iv) := by
  refine (at_iconst (v := 0) dc154_46 rfl).trans ?_
  rfl
theorem b154_47 {X : pm_X} {d : Nat} {x1 : Int32} {s0 : Int32} {g : pm_G} {iv : pm_V} (hL : pm_lay g) : pm_at X d 154 (47, [some (.ref 32), some (.int x1)], [.int s0, .ref 32], g, iv) = pm_then X d 154 50 [some (.ref 32), some (.int x1)] [] (pm_c X d 144 [.ref 32, .int s0] g iv) := by
  exact at_inv dc154_47 mc154 lm6_125 rfl rfl (Nat.le_of_ble_eq_true rfl) (Or.inl ⟨(ly32 hL), by decide⟩)
theorem b154_50 {X : pm_X} {d : Nat} {x1 : Int32} {g : pm_G} {iv : pm_V} (hL : pm_lay g) : pm_at X d 154 (50, [some (.ref 32), some (.int x1)], [], g, iv) = pm_then X d 154 61 [some (.ref 32), some (.int x1)] [.int 0, .ref 37] (pm_c X d 147 [.ref 32, .int 1, .int 4] g iv) := by
  refine (at_aload_n dc154_50 rfl).trans ?_
  refine (at_gfR dc154_51 mc154 lf6_22 fo6_6 (ly32 hL) (lr32_6 hL)).trans ?_
  refine (at_iconst (v := 0) dc154_54 rfl).trans ?_
  refine (at_aload_n dc154_55 rfl).trans ?_
  refine (at_iconst (v := 1) dc154_56 rfl).trans ?_
  refine (at_iconst (v := 4) dc154_57 rfl).trans ?_
  exact at_inv dc154_58 mc154 lm6_143 rfl rfl (Nat.le_of_ble_eq_true rfl) (Or.inl ⟨(ly32 hL), by decide⟩)
theorem b154_61 {X : pm_X} {d : Nat} {x1 : Int32} {s0 : Int32} {s1 : Int32} {g : pm_G} {iv : pm_V} (hL : pm_lay g) (i1 : vp_in s1 45) : pm_at X d 154 (61, [some (.ref 32), some (.int x1)], [.int s0, .int s1, .ref 37], g, iv) = pm_then X d 154 74 [some (.ref 32), some (.int x1)] [.int 1, .ref 37] (pm_c X d 147 [.ref 32, .int 4, .int 20] g (pm_iw iv 37 (s1 : Int32).toNatClampNeg s0)) := by
  refine (at_iast dc154_61 (ly37 hL) i1).trans ?_
  refine (at_aload_n dc154_62 rfl).trans ?_
  refine (at_gfR dc154_63 mc154 lf6_22 fo6_6 (ly32 hL) (lr32_6 hL)).trans ?_
  refine (at_iconst (v := 1) dc154_66 rfl).trans ?_
  refine (at_aload_n dc154_67 rfl).trans ?_
  refine (at_iconst (v := 4) dc154_68 rfl).trans ?_
  refine (at_bipush (v := 20) dc154_69 (by decide)).trans ?_
  exact at_inv dc154_71 mc154 lm6_143 rfl rfl (Nat.le_of_ble_eq_true rfl) (Or.inl ⟨(ly32 hL), by decide⟩)
theorem b154_74 {X : pm_X} {d : Nat} {x1 : Int32} {s0 : Int32} {s1 : Int32} {g : pm_G} {iv : pm_V} (hL : pm_lay g) (i1 : vp_in s1 45) : pm_at X d 154 (74, [some (.ref 32), some (.int x1)], [.int s0, .int s1, .ref 37], g, iv) = pm_then X d 154 79 [some (.ref 32), some (.int x1)] [] (pm_c X d 149 [.ref 32] g (pm_iw iv 37 (s1 : Int32).toNatClampNeg s0)) := by
  refine (at_iast dc154_74 (ly37 hL) i1).trans ?_
  refine (at_aload_n dc154_75 rfl).trans ?_
  exact at_inv dc154_76 mc154 lm6_147 rfl rfl (Nat.le_of_ble_eq_true rfl) (Or.inl ⟨(ly32 hL), by decide⟩)
theorem b154_79 {X : pm_X} {d : Nat} {x1 : Int32} {g : pm_G} {iv : pm_V} (hL : pm_lay g) : pm_at X d 154 (79, [some (.ref 32), some (.int x1)], [], g, iv) = pm_then X d 154 83 [some (.ref 32), some (.int x1)] [] (pm_c X d 145 [.ref 32] g iv) := by
  refine (at_aload_n dc154_79 rfl).trans ?_
  exact at_inv dc154_80 mc154 lm6_150 rfl rfl (Nat.le_of_ble_eq_true rfl) (Or.inl ⟨(ly32 hL), by decide⟩)
theorem b154_83 {X : pm_X} {d : Nat} {x1 : Int32} {s0 : Int64} {g : pm_G} {iv : pm_V}  : pm_at X d 154 (83, [some (.ref 32), some (.int x1)], [.long s0], g, iv) = if ¬ (lg_cmp s0 495874698853) = 0 then pm_at X d 154 (97, [some (.ref 32), some (.int x1)], [], g, iv) else pm_at X d 154 (90, [some (.ref 32), some (.int x1)], [], g, iv) := by
  refine (at_ldc2 dc154_83 mc154 ll6_167).trans ?_
  refine (at_lcmp dc154_86).trans ?_
  exact at_if_ne (t := 97) dc154_87 (by decide)
theorem b154_90 {X : pm_X} {d : Nat} {x1 : Int32} {g : pm_G} {iv : pm_V} (hL : pm_lay g) : pm_at X d 154 (90, [some (.ref 32), some (.int x1)], [], g, iv) = pm_then X d 154 94 [some (.ref 32), some (.int x1)] [] (pm_c X d 151 [.ref 32] g iv) := by
  refine (at_aload_n dc154_90 rfl).trans ?_
  exact at_inv dc154_91 mc154 lm6_169 rfl rfl (Nat.le_of_ble_eq_true rfl) (Or.inl ⟨(ly32 hL), by decide⟩)
theorem b154_94 {X : pm_X} {d : Nat} {x1 : Int32} {g : pm_G} {iv : pm_V}  : pm_at X d 154 (94, [some (.ref 32), some (.int x1)], [], g, iv) = pm_at X d 154 (79, [some (.ref 32), some (.int x1)], [], g, iv) := by
  refine (at_goto (t := 79) dc154_94 (by decide)).trans ?_
  rfl
theorem b154_97 {X : pm_X} {d : Nat} {x1 : Int32} {g : pm_G} {iv : pm_V} (hL : pm_lay g) : pm_at X d 154 (97, [some (.ref 32), some (.int x1)], [], g, iv) = pm_then X d 154 101 [some (.ref 32), some (.int x1)] [] (pm_c X d 145 [.ref 32] g iv) := by
  refine (at_aload_n dc154_97 rfl).trans ?_
  exact at_inv dc154_98 mc154 lm6_150 rfl rfl (Nat.le_of_ble_eq_true rfl) (Or.inl ⟨(ly32 hL), by decide⟩)
theorem b154_101 {X : pm_X} {d : Nat} {x1 : Int32} {s0 : Int64} {g : pm_G} {iv : pm_V}  : pm_at X d 154 (101, [some (.ref 32), some (.int x1)], [.long s0], g, iv) = if ¬ (lg_cmp s0 448546567013) = 0 then pm_at X d 154 (115, [some (.ref 32), some (.int x1)], [], g, iv) else pm_at X d 154 (108, [some (.ref 32), some (.int x1)], [], g, iv) := by
  refine (at_ldc2 dc154_101 mc154 ll6_172).trans ?_
  refine (at_lcmp dc154_104).trans ?_
  exact at_if_ne (t := 115) dc154_105 (by decide)
theorem b154_108 {X : pm_X} {d : Nat} {x1 : Int32} {g : pm_G} {iv : pm_V} (hL : pm_lay g) : pm_at X d 154 (108, [some (.ref 32), some (.int x1)], [], g, iv) = pm_then X d 154 112 [some (.ref 32), some (.int x1)] [] (pm_c X d 153 [.ref 32] g iv) := by
  refine (at_aload_n dc154_108 rfl).trans ?_
  exact at_inv dc154_109 mc154 lm6_174 rfl rfl (Nat.le_of_ble_eq_true rfl) (Or.inl ⟨(ly32 hL), by decide⟩)
theorem b154_112 {X : pm_X} {d : Nat} {x1 : Int32} {g : pm_G} {iv : pm_V}  : pm_at X d 154 (112, [some (.ref 32), some (.int x1)], [], g, iv) = pm_at X d 154 (97, [some (.ref 32), some (.int x1)], [], g, iv) := by
  refine (at_goto (t := 97) dc154_112 (by decide)).trans ?_
  rfl
theorem b154_115 {X : pm_X} {d : Nat} {x1 : Int32} {g : pm_G} {iv : pm_V} (hL : pm_lay g) : pm_at X d 154 (115, [some (.ref 32), some (.int x1)], [], g, iv) = if ¬ (iv 32 17) = 0 then pm_at X d 154 (135, [some (.ref 32), some (.int x1)], [], g, iv) else pm_at X d 154 (122, [some (.ref 32), some (.int x1)], [], g, iv) := by
  refine (at_aload_n dc154_115 rfl).trans ?_
  refine (at_gfI dc154_116 mc154 lf6_108 fo6_17 (ly32 hL)).trans ?_
  exact at_if_ne (t := 135) dc154_119 (by decide)
theorem b154_122 {X : pm_X} {d : Nat} {x1 : Int32} {g : pm_G} {iv : pm_V} (hL : pm_lay g) : pm_at X d 154 (122, [some (.ref 32), some (.int x1)], [], g, iv) = if (iv 32 14) = 1 then pm_at X d 154 (135, [some (.ref 32), some (.int x1)], [], g, iv) else pm_at X d 154 (130, [some (.ref 32), some (.int x1)], [], g, iv) := by
  refine (at_aload_n dc154_122 rfl).trans ?_
  refine (at_gfI dc154_123 mc154 lf6_96 fo6_14 (ly32 hL)).trans ?_
  refine (at_iconst (v := 1) dc154_126 rfl).trans ?_
  exact at_icmp_eq (t := 135) dc154_127 (by decide)
theorem b154_130 {X : pm_X} {d : Nat} {x1 : Int32} {g : pm_G} {iv : pm_V} (hL : pm_lay g) : pm_at X d 154 (130, [some (.ref 32), some (.int x1)], [], g, iv) = pm_then X d 154 135 [some (.ref 32), some (.int x1)] [] (pm_c X d 143 [.ref 32, .int 1] g iv) := by
  refine (at_aload_n dc154_130 rfl).trans ?_
  refine (at_iconst (v := 1) dc154_131 rfl).trans ?_
  exact at_inv dc154_132 mc154 lm6_117 rfl rfl (Nat.le_of_ble_eq_true rfl) (Or.inl ⟨(ly32 hL), by decide⟩)
theorem b154_135 {X : pm_X} {d : Nat} {x1 : Int32} {g : pm_G} {iv : pm_V} (hL : pm_lay g) : pm_at X d 154 (135, [some (.ref 32), some (.int x1)], [], g, iv) = if (iv 32 17) ≤ 0 then pm_at X d 154 (158, [some (.ref 32), some (.int x1)], [], g, iv) else pm_at X d 154 (142, [some (.ref 32), some (.int x1)], [], g, iv) := by
  refine (at_aload_n dc154_135 rfl).trans ?_
  refine (at_gfI dc154_136 mc154 lf6_108 fo6_17 (ly32 hL)).trans ?_
  exact at_if_le (t := 158) dc154_139 (by decide)
theorem b154_142 {X : pm_X} {d : Nat} {x1 : Int32} {g : pm_G} {iv : pm_V} (hL : pm_lay g) : pm_at X d 154 (142, [some (.ref 32), some (.int x1)], [], g, iv) = some (some (.int ((-1000100) - ((pm_iw iv 32 11 ((iv 32 17))) 32 18))), g, (pm_iw iv 32 11 ((iv 32 17)))) := by
  refine (at_aload_n dc154_142 rfl).trans ?_
  refine (at_aload_n dc154_143 rfl).trans ?_
  refine (at_gfI dc154_144 mc154 lf6_108 fo6_17 (ly32 hL)).trans ?_
  refine (at_pfI dc154_147 mc154 lf6_177 po6_11 (ly32 hL)).trans ?_
  refine (at_ldc dc154_150 mc154 lk6_180).trans ?_
  refine (at_aload_n dc154_152 rfl).trans ?_
  refine (at_gfI dc154_153 mc154 lf6_114 fo6_18 (ly32 hL)).trans ?_
  refine (at_isub dc154_156).trans ?_
  exact at_iret dc154_157 mr154
theorem b154_158 {X : pm_X} {d : Nat} {x1 : Int32} {g : pm_G} {iv : pm_V} (hL : pm_lay g) : pm_at X d 154 (158, [some (.ref 32), some (.int x1)], [], g, iv) = pm_at X d 154 (165, [some (.ref 32), some (.int 0)], [], g, (pm_iw iv 32 8 0)) := by
  refine (at_aload_n dc154_158 rfl).trans ?_
  refine (at_iconst (v := 0) dc154_159 rfl).trans ?_
  refine (at_pfI dc154_160 mc154 lf6_181 po6_8 (ly32 hL)).trans ?_
  refine (at_iconst (v := 0) dc154_163 rfl).trans ?_
  refine (at_istore_n dc154_164 rfl).trans ?_
  rfl
theorem b154_165 {X : pm_X} {d : Nat} {x1 : Int32} {g : pm_G} {iv : pm_V}  : pm_at X d 154 (165, [some (.ref 32), some (.int x1)], [], g, iv) = if 45 ≤ x1 then pm_at X d 154 (189, [some (.ref 32), some (.int x1)], [], g, iv) else pm_at X d 154 (171, [some (.ref 32), some (.int x1)], [], g, iv) := by
  refine (at_iload_n dc154_165 rfl).trans ?_
  refine (at_bipush (v := 45) dc154_166 (by decide)).trans ?_
  exact at_icmp_ge (t := 189) dc154_168 (by decide)
theorem b154_171 {X : pm_X} {d : Nat} {x1 : Int32} {g : pm_G} {iv : pm_V} (hL : pm_lay g) (i1 : vp_in x1 45) : pm_at X d 154 (171, [some (.ref 32), some (.int x1)], [], g, iv) = pm_at X d 154 (165, [some (.ref 32), some (.int (x1 + 1))], [], g, (pm_iw iv 36 (x1 : Int32).toNatClampNeg ((iv 37 (x1 : Int32).toNatClampNeg)))) := by
  refine (at_aload_n dc154_171 rfl).trans ?_
  refine (at_gfR dc154_172 mc154 lf6_19 fo6_5 (ly32 hL) (lr32_5 hL)).trans ?_
  refine (at_iload_n dc154_175 rfl).trans ?_
  refine (at_aload_n dc154_176 rfl).trans ?_
  refine (at_gfR dc154_177 mc154 lf6_22 fo6_6 (ly32 hL) (lr32_6 hL)).trans ?_
  refine (at_iload_n dc154_180 rfl).trans ?_
  refine (at_iald dc154_181 (ly37 hL) i1).trans ?_
  refine (at_iast dc154_182 (ly36 hL) i1).trans ?_
  refine (at_iinc (v := 1) dc154_183 rfl (by decide) rfl).trans ?_
  refine (at_goto (t := 165) dc154_186 (by decide)).trans ?_
  rfl
theorem b154_189 {X : pm_X} {d : Nat} {x1 : Int32} {g : pm_G} {iv : pm_V} (hL : pm_lay g) : pm_at X d 154 (189, [some (.ref 32), some (.int x1)], [], g, iv) = some (some (.int (iv 36 3)), g, iv) := by
  refine (at_aload_n dc154_189 rfl).trans ?_
  refine (at_gfR dc154_190 mc154 lf6_19 fo6_5 (ly32 hL) (lr32_5 hL)).trans ?_
  refine (at_iconst (v := 3) dc154_193 rfl).trans ?_
  refine (at_iald dc154_194 (ly36 hL) (vp_in_nI (n := 3) (by decide) (by decide))).trans ?_
  exact at_iret dc154_195 mr154
