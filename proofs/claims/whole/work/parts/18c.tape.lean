-- Tape.<init> ()V
theorem dc65_0 : decode (pm_mb 65) 0 = .ok (.aload_n 0, 1) := by decide +kernel
theorem dc65_1 : decode (pm_mb 65) 1 = .ok (.invokespecial 3, 3) := by decide +kernel
theorem dc65_4 : decode (pm_mb 65) 4 = .ok (.aload_n 0, 1) := by decide +kernel
theorem dc65_5 : decode (pm_mb 65) 5 = .ok (.sipush 400, 3) := by decide +kernel
theorem dc65_8 : decode (pm_mb 65) 8 = .ok (.newarray .byte, 2) := by decide +kernel
theorem dc65_10 : decode (pm_mb 65) 10 = .ok (.putfield 9, 3) := by decide +kernel
theorem dc65_13 : decode (pm_mb 65) 13 = .ok (.return_, 1) := by decide +kernel
-- Tape.size ()I
theorem dc66_0 : decode (pm_mb 66) 0 = .ok (.aload_n 0, 1) := by decide +kernel
theorem dc66_1 : decode (pm_mb 66) 1 = .ok (.getfield 15, 3) := by decide +kernel
theorem dc66_4 : decode (pm_mb 66) 4 = .ok (.ireturn, 1) := by decide +kernel
theorem b66_0 {X : pm_X} {d : Nat} {g : pm_G} {iv : pm_V} (hL : pm_lay g) : pm_at X d 66 (0, [some (.ref 5)], [], g, iv) = some (some (.int (iv 5 1)), g, iv) := by
  refine (at_aload_n dc66_0 rfl).trans ?_
  refine (at_gfI dc66_1 mc66 lf4_15 fo4_1 (ly5 hL)).trans ?_
  exact at_iret dc66_4 mr66
-- Tape.faultNumber ()I
theorem dc67_0 : decode (pm_mb 67) 0 = .ok (.aload_n 0, 1) := by decide +kernel
theorem dc67_1 : decode (pm_mb 67) 1 = .ok (.getfield 19, 3) := by decide +kernel
theorem dc67_4 : decode (pm_mb 67) 4 = .ok (.ireturn, 1) := by decide +kernel
theorem b67_0 {X : pm_X} {d : Nat} {g : pm_G} {iv : pm_V} (hL : pm_lay g) : pm_at X d 67 (0, [some (.ref 5)], [], g, iv) = some (some (.int (iv 5 6)), g, iv) := by
  refine (at_aload_n dc67_0 rfl).trans ?_
  refine (at_gfI dc67_1 mc67 lf4_19 fo4_6 (ly5 hL)).trans ?_
  exact at_iret dc67_4 mr67
-- Tape.faultPlace ()I
theorem dc68_0 : decode (pm_mb 68) 0 = .ok (.aload_n 0, 1) := by decide +kernel
theorem dc68_1 : decode (pm_mb 68) 1 = .ok (.getfield 22, 3) := by decide +kernel
theorem dc68_4 : decode (pm_mb 68) 4 = .ok (.ireturn, 1) := by decide +kernel
theorem b68_0 {X : pm_X} {d : Nat} {g : pm_G} {iv : pm_V} (hL : pm_lay g) : pm_at X d 68 (0, [some (.ref 5)], [], g, iv) = some (some (.int (iv 5 7)), g, iv) := by
  refine (at_aload_n dc68_0 rfl).trans ?_
  refine (at_gfI dc68_1 mc68 lf4_22 fo4_7 (ly5 hL)).trans ?_
  exact at_iret dc68_4 mr68
-- Tape.clear ()V
theorem dc69_0 : decode (pm_mb 69) 0 = .ok (.aload_n 0, 1) := by decide +kernel
theorem dc69_1 : decode (pm_mb 69) 1 = .ok (.iconst 0, 1) := by decide +kernel
theorem dc69_2 : decode (pm_mb 69) 2 = .ok (.putfield 15, 3) := by decide +kernel
theorem dc69_5 : decode (pm_mb 69) 5 = .ok (.return_, 1) := by decide +kernel
theorem b69_0 {X : pm_X} {d : Nat} {g : pm_G} {iv : pm_V} (hL : pm_lay g) : pm_at X d 69 (0, [some (.ref 5)], [], g, iv) = some (none, g, (pm_iw iv 5 1 0)) := by
  refine (at_aload_n dc69_0 rfl).trans ?_
  refine (at_iconst (v := 0) dc69_1 rfl).trans ?_
  refine (at_pfI dc69_2 mc69 lf4_15 po4_1 (ly5 hL)).trans ?_
  exact at_vret dc69_5 mr69
-- Tape.add (JI)Z
theorem dc70_0 : decode (pm_mb 70) 0 = .ok (.iload_n 3, 1) := by decide +kernel
theorem dc70_1 : decode (pm_mb 70) 1 = .ok (.bipush 8, 2) := by decide +kernel
theorem dc70_3 : decode (pm_mb 70) 3 = .ok (.invokestatic 25, 3) := by decide +kernel
theorem dc70_6 : decode (pm_mb 70) 6 = .ok (.ifCond .eq 15, 3) := by decide +kernel
theorem dc70_9 : decode (pm_mb 70) 9 = .ok (.aload_n 0, 1) := by decide +kernel
theorem dc70_10 : decode (pm_mb 70) 10 = .ok (.getfield 15, 3) := by decide +kernel
theorem dc70_13 : decode (pm_mb 70) 13 = .ok (.iload_n 3, 1) := by decide +kernel
theorem dc70_14 : decode (pm_mb 70) 14 = .ok (.iadd, 1) := by decide +kernel
theorem dc70_15 : decode (pm_mb 70) 15 = .ok (.sipush 400, 3) := by decide +kernel
theorem dc70_18 : decode (pm_mb 70) 18 = .ok (.if_icmp .le 5, 3) := by decide +kernel
theorem dc70_21 : decode (pm_mb 70) 21 = .ok (.iconst 0, 1) := by decide +kernel
theorem dc70_22 : decode (pm_mb 70) 22 = .ok (.ireturn, 1) := by decide +kernel
theorem dc70_23 : decode (pm_mb 70) 23 = .ok (.iload_n 3, 1) := by decide +kernel
theorem dc70_24 : decode (pm_mb 70) 24 = .ok (.iconst 1, 1) := by decide +kernel
theorem dc70_25 : decode (pm_mb 70) 25 = .ok (.isub, 1) := by decide +kernel
theorem dc70_26 : decode (pm_mb 70) 26 = .ok (.istore 4, 2) := by decide +kernel
theorem dc70_28 : decode (pm_mb 70) 28 = .ok (.iload 4, 2) := by decide +kernel
theorem dc70_30 : decode (pm_mb 70) 30 = .ok (.ifCond .lt 37, 3) := by decide +kernel
theorem dc70_33 : decode (pm_mb 70) 33 = .ok (.aload_n 0, 1) := by decide +kernel
theorem dc70_34 : decode (pm_mb 70) 34 = .ok (.getfield 9, 3) := by decide +kernel
theorem dc70_37 : decode (pm_mb 70) 37 = .ok (.aload_n 0, 1) := by decide +kernel
theorem dc70_38 : decode (pm_mb 70) 38 = .ok (.getfield 15, 3) := by decide +kernel
theorem dc70_41 : decode (pm_mb 70) 41 = .ok (.lload_n 1, 1) := by decide +kernel
theorem dc70_42 : decode (pm_mb 70) 42 = .ok (.bipush 8, 2) := by decide +kernel
theorem dc70_44 : decode (pm_mb 70) 44 = .ok (.iload 4, 2) := by decide +kernel
theorem dc70_46 : decode (pm_mb 70) 46 = .ok (.imul, 1) := by decide +kernel
theorem dc70_47 : decode (pm_mb 70) 47 = .ok (.lshr, 1) := by decide +kernel
theorem dc70_48 : decode (pm_mb 70) 48 = .ok (.l2i, 1) := by decide +kernel
theorem dc70_49 : decode (pm_mb 70) 49 = .ok (.i2b, 1) := by decide +kernel
theorem dc70_50 : decode (pm_mb 70) 50 = .ok (.bastore, 1) := by decide +kernel
theorem dc70_51 : decode (pm_mb 70) 51 = .ok (.aload_n 0, 1) := by decide +kernel
theorem dc70_52 : decode (pm_mb 70) 52 = .ok (.dup, 1) := by decide +kernel
theorem dc70_53 : decode (pm_mb 70) 53 = .ok (.getfield 15, 3) := by decide +kernel
theorem dc70_56 : decode (pm_mb 70) 56 = .ok (.iconst 1, 1) := by decide +kernel
theorem dc70_57 : decode (pm_mb 70) 57 = .ok (.iadd, 1) := by decide +kernel
theorem dc70_58 : decode (pm_mb 70) 58 = .ok (.putfield 15, 3) := by decide +kernel
theorem dc70_61 : decode (pm_mb 70) 61 = .ok (.iinc 4 (-1), 3) := by decide +kernel
theorem dc70_64 : decode (pm_mb 70) 64 = .ok (.goto (-36), 3) := by decide +kernel
theorem dc70_67 : decode (pm_mb 70) 67 = .ok (.iconst 1, 1) := by decide +kernel
theorem dc70_68 : decode (pm_mb 70) 68 = .ok (.ireturn, 1) := by decide +kernel
theorem b70_0 {X : pm_X} {d : Nat} {x1 : Int64} {x3 : Int32} {g : pm_G} {iv : pm_V}  : pm_at X d 70 (0, [some (.ref 5), some (.long x1), none, some (.int x3), none], [], g, iv) = pm_then X d 70 6 [some (.ref 5), some (.long x1), none, some (.int x3), none] [] (pm_c X d 119 [.int x3, .int 8] g iv) := by
  refine (at_iload_n dc70_0 rfl).trans ?_
  refine (at_bipush (v := 8) dc70_1 (by decide)).trans ?_
  exact at_insN dc70_3 mc70 lm4_25 (Nat.le_of_ble_eq_true rfl) rfl rfl (Nat.le_of_ble_eq_true rfl)
theorem b70_6 {X : pm_X} {d : Nat} {x1 : Int64} {x3 : Int32} {s0 : Int32} {g : pm_G} {iv : pm_V}  : pm_at X d 70 (6, [some (.ref 5), some (.long x1), none, some (.int x3), none], [.int s0], g, iv) = if s0 = 0 then pm_at X d 70 (21, [some (.ref 5), some (.long x1), none, some (.int x3), none], [], g, iv) else pm_at X d 70 (9, [some (.ref 5), some (.long x1), none, some (.int x3), none], [], g, iv) := by
  exact at_if_eq (t := 21) dc70_6 (by decide)
theorem b70_9 {X : pm_X} {d : Nat} {x1 : Int64} {x3 : Int32} {g : pm_G} {iv : pm_V} (hL : pm_lay g) : pm_at X d 70 (9, [some (.ref 5), some (.long x1), none, some (.int x3), none], [], g, iv) = if ((iv 5 1) + x3) ≤ 400 then pm_at X d 70 (23, [some (.ref 5), some (.long x1), none, some (.int x3), none], [], g, iv) else pm_at X d 70 (21, [some (.ref 5), some (.long x1), none, some (.int x3), none], [], g, iv) := by
  refine (at_aload_n dc70_9 rfl).trans ?_
  refine (at_gfI dc70_10 mc70 lf4_15 fo4_1 (ly5 hL)).trans ?_
  refine (at_iload_n dc70_13 rfl).trans ?_
  refine (at_iadd dc70_14).trans ?_
  refine (at_sipush (v := 400) dc70_15 (by decide)).trans ?_
  exact at_icmp_le (t := 23) dc70_18 (by decide)
theorem b70_21 {X : pm_X} {d : Nat} {x1 : Int64} {x3 : Int32} {g : pm_G} {iv : pm_V}  : pm_at X d 70 (21, [some (.ref 5), some (.long x1), none, some (.int x3), none], [], g, iv) = some (some (.int 0), g, iv) := by
  refine (at_iconst (v := 0) dc70_21 rfl).trans ?_
  exact at_zret dc70_22 mr70 (by decide)
theorem b70_23 {X : pm_X} {d : Nat} {x1 : Int64} {x3 : Int32} {g : pm_G} {iv : pm_V}  : pm_at X d 70 (23, [some (.ref 5), some (.long x1), none, some (.int x3), none], [], g, iv) = pm_at X d 70 (28, [some (.ref 5), some (.long x1), none, some (.int x3), some (.int (x3 - 1))], [], g, iv) := by
  refine (at_iload_n dc70_23 rfl).trans ?_
  refine (at_iconst (v := 1) dc70_24 rfl).trans ?_
  refine (at_isub dc70_25).trans ?_
  refine (at_istore dc70_26 rfl).trans ?_
  rfl
theorem b70_28 {X : pm_X} {d : Nat} {x1 : Int64} {x3 : Int32} {x4 : Int32} {g : pm_G} {iv : pm_V}  : pm_at X d 70 (28, [some (.ref 5), some (.long x1), none, some (.int x3), some (.int x4)], [], g, iv) = if x4 < 0 then pm_at X d 70 (67, [some (.ref 5), some (.long x1), none, some (.int x3), some (.int x4)], [], g, iv) else pm_at X d 70 (33, [some (.ref 5), some (.long x1), none, some (.int x3), some (.int x4)], [], g, iv) := by
  refine (at_iload dc70_28 rfl).trans ?_
  exact at_if_lt (t := 67) dc70_30 (by decide)
theorem b70_33 {X : pm_X} {d : Nat} {x1 : Int64} {x3 : Int32} {x4 : Int32} {g : pm_G} {iv : pm_V} (hL : pm_lay g) (i1 : vp_in ((iv 5 1)) 400) : pm_at X d 70 (33, [some (.ref 5), some (.long x1), none, some (.int x3), some (.int x4)], [], g, iv) = pm_at X d 70 (28, [some (.ref 5), some (.long x1), none, some (.int x3), some (.int (x4 + (-1)))], [], g, (pm_iw (pm_iw iv 6 ((iv 5 1) : Int32).toNatClampNeg ((vp_nar .byte ((((x1 >>> (((8 * x4) : Int32).toInt64 &&& 63)) : Int64).toInt32).toInt8.toInt32)))) 5 1 ((((pm_iw iv 6 ((iv 5 1) : Int32).toNatClampNeg ((vp_nar .byte ((((x1 >>> (((8 * x4) : Int32).toInt64 &&& 63)) : Int64).toInt32).toInt8.toInt32)))) 5 1) + 1)))) := by
  refine (at_aload_n dc70_33 rfl).trans ?_
  refine (at_gfR dc70_34 mc70 lf4_9 fo4_0 (ly5 hL) (lr5_0 hL)).trans ?_
  refine (at_aload_n dc70_37 rfl).trans ?_
  refine (at_gfI dc70_38 mc70 lf4_15 fo4_1 (ly5 hL)).trans ?_
  refine (at_lload_n dc70_41 rfl).trans ?_
  refine (at_bipush (v := 8) dc70_42 (by decide)).trans ?_
  refine (at_iload dc70_44 rfl).trans ?_
  refine (at_imul dc70_46).trans ?_
  refine (at_lshr dc70_47).trans ?_
  refine (at_l2i dc70_48).trans ?_
  refine (at_i2b dc70_49).trans ?_
  refine (at_bast dc70_50 (ly6 hL) i1).trans ?_
  refine (at_aload_n dc70_51 rfl).trans ?_
  refine (at_dup dc70_52 rfl).trans ?_
  refine (at_gfI dc70_53 mc70 lf4_15 fo4_1 (ly5 hL)).trans ?_
  refine (at_iconst (v := 1) dc70_56 rfl).trans ?_
  refine (at_iadd dc70_57).trans ?_
  refine (at_pfI dc70_58 mc70 lf4_15 po4_1 (ly5 hL)).trans ?_
  refine (at_iinc (v := (-1)) dc70_61 rfl (by decide) rfl).trans ?_
  refine (at_goto (t := 28) dc70_64 (by decide)).trans ?_
  rfl
theorem b70_67 {X : pm_X} {d : Nat} {x1 : Int64} {x3 : Int32} {x4 : Int32} {g : pm_G} {iv : pm_V}  : pm_at X d 70 (67, [some (.ref 5), some (.long x1), none, some (.int x3), some (.int x4)], [], g, iv) = some (some (.int 1), g, iv) := by
  refine (at_iconst (v := 1) dc70_67 rfl).trans ?_
  exact at_zret dc70_68 mr70 (by decide)
-- Tape.readInto (LHillHouses$Slope;)Z
theorem dc71_0 : decode (pm_mb 71) 0 = .ok (.aload_n 0, 1) := by decide +kernel
theorem dc71_1 : decode (pm_mb 71) 1 = .ok (.iconst 0, 1) := by decide +kernel
theorem dc71_2 : decode (pm_mb 71) 2 = .ok (.putfield 29, 3) := by decide +kernel
theorem dc71_5 : decode (pm_mb 71) 5 = .ok (.aload_n 0, 1) := by decide +kernel
theorem dc71_6 : decode (pm_mb 71) 6 = .ok (.invokevirtual 32, 3) := by decide +kernel
theorem dc71_9 : decode (pm_mb 71) 9 = .ok (.aload_n 0, 1) := by decide +kernel
theorem dc71_10 : decode (pm_mb 71) 10 = .ok (.aload_n 1, 1) := by decide +kernel
theorem dc71_11 : decode (pm_mb 71) 11 = .ok (.invokevirtual 35, 3) := by decide +kernel
theorem dc71_14 : decode (pm_mb 71) 14 = .ok (.ifCond .ne 5, 3) := by decide +kernel
theorem dc71_17 : decode (pm_mb 71) 17 = .ok (.iconst 0, 1) := by decide +kernel
theorem dc71_18 : decode (pm_mb 71) 18 = .ok (.ireturn, 1) := by decide +kernel
theorem dc71_19 : decode (pm_mb 71) 19 = .ok (.iconst 0, 1) := by decide +kernel
theorem dc71_20 : decode (pm_mb 71) 20 = .ok (.istore_n 2, 1) := by decide +kernel
theorem dc71_21 : decode (pm_mb 71) 21 = .ok (.iload_n 2, 1) := by decide +kernel
theorem dc71_22 : decode (pm_mb 71) 22 = .ok (.bipush 8, 2) := by decide +kernel
theorem dc71_24 : decode (pm_mb 71) 24 = .ok (.if_icmp .gt 40, 3) := by decide +kernel
theorem dc71_27 : decode (pm_mb 71) 27 = .ok (.aload_n 0, 1) := by decide +kernel
theorem dc71_28 : decode (pm_mb 71) 28 = .ok (.ldc 39, 2) := by decide +kernel
theorem dc71_30 : decode (pm_mb 71) 30 = .ok (.invokevirtual 41, 3) := by decide +kernel
theorem dc71_33 : decode (pm_mb 71) 33 = .ok (.ifCond .eq 31, 3) := by decide +kernel
theorem dc71_36 : decode (pm_mb 71) 36 = .ok (.iload_n 2, 1) := by decide +kernel
theorem dc71_37 : decode (pm_mb 71) 37 = .ok (.bipush 8, 2) := by decide +kernel
theorem dc71_39 : decode (pm_mb 71) 39 = .ok (.if_icmp .ne 9, 3) := by decide +kernel
theorem dc71_42 : decode (pm_mb 71) 42 = .ok (.aload_n 0, 1) := by decide +kernel
theorem dc71_43 : decode (pm_mb 71) 43 = .ok (.iconst 3, 1) := by decide +kernel
theorem dc71_44 : decode (pm_mb 71) 44 = .ok (.invokevirtual 45, 3) := by decide +kernel
theorem dc71_47 : decode (pm_mb 71) 47 = .ok (.ireturn, 1) := by decide +kernel
theorem dc71_48 : decode (pm_mb 71) 48 = .ok (.aload_n 0, 1) := by decide +kernel
theorem dc71_49 : decode (pm_mb 71) 49 = .ok (.aload_n 1, 1) := by decide +kernel
theorem dc71_50 : decode (pm_mb 71) 50 = .ok (.invokevirtual 49, 3) := by decide +kernel
theorem dc71_53 : decode (pm_mb 71) 53 = .ok (.ifCond .ne 5, 3) := by decide +kernel
theorem dc71_56 : decode (pm_mb 71) 56 = .ok (.iconst 0, 1) := by decide +kernel
theorem dc71_57 : decode (pm_mb 71) 57 = .ok (.ireturn, 1) := by decide +kernel
theorem dc71_58 : decode (pm_mb 71) 58 = .ok (.iinc 2 1, 3) := by decide +kernel
theorem dc71_61 : decode (pm_mb 71) 61 = .ok (.goto (-40), 3) := by decide +kernel
theorem dc71_64 : decode (pm_mb 71) 64 = .ok (.iconst 0, 1) := by decide +kernel
theorem dc71_65 : decode (pm_mb 71) 65 = .ok (.istore_n 2, 1) := by decide +kernel
theorem dc71_66 : decode (pm_mb 71) 66 = .ok (.iload_n 2, 1) := by decide +kernel
theorem dc71_67 : decode (pm_mb 71) 67 = .ok (.bipush 6, 2) := by decide +kernel
theorem dc71_69 : decode (pm_mb 71) 69 = .ok (.if_icmp .gt 40, 3) := by decide +kernel
theorem dc71_72 : decode (pm_mb 71) 72 = .ok (.aload_n 0, 1) := by decide +kernel
theorem dc71_73 : decode (pm_mb 71) 73 = .ok (.ldc 52, 2) := by decide +kernel
theorem dc71_75 : decode (pm_mb 71) 75 = .ok (.invokevirtual 41, 3) := by decide +kernel
theorem dc71_78 : decode (pm_mb 71) 78 = .ok (.ifCond .eq 31, 3) := by decide +kernel
theorem dc71_81 : decode (pm_mb 71) 81 = .ok (.iload_n 2, 1) := by decide +kernel
theorem dc71_82 : decode (pm_mb 71) 82 = .ok (.bipush 6, 2) := by decide +kernel
theorem dc71_84 : decode (pm_mb 71) 84 = .ok (.if_icmp .ne 9, 3) := by decide +kernel
theorem dc71_87 : decode (pm_mb 71) 87 = .ok (.aload_n 0, 1) := by decide +kernel
theorem dc71_88 : decode (pm_mb 71) 88 = .ok (.iconst 3, 1) := by decide +kernel
theorem dc71_89 : decode (pm_mb 71) 89 = .ok (.invokevirtual 45, 3) := by decide +kernel
theorem dc71_92 : decode (pm_mb 71) 92 = .ok (.ireturn, 1) := by decide +kernel
theorem dc71_93 : decode (pm_mb 71) 93 = .ok (.aload_n 0, 1) := by decide +kernel
theorem dc71_94 : decode (pm_mb 71) 94 = .ok (.aload_n 1, 1) := by decide +kernel
theorem dc71_95 : decode (pm_mb 71) 95 = .ok (.invokevirtual 54, 3) := by decide +kernel
theorem dc71_98 : decode (pm_mb 71) 98 = .ok (.ifCond .ne 5, 3) := by decide +kernel
theorem dc71_101 : decode (pm_mb 71) 101 = .ok (.iconst 0, 1) := by decide +kernel
theorem dc71_102 : decode (pm_mb 71) 102 = .ok (.ireturn, 1) := by decide +kernel
theorem dc71_103 : decode (pm_mb 71) 103 = .ok (.iinc 2 1, 3) := by decide +kernel
theorem dc71_106 : decode (pm_mb 71) 106 = .ok (.goto (-40), 3) := by decide +kernel
theorem dc71_109 : decode (pm_mb 71) 109 = .ok (.aload_n 0, 1) := by decide +kernel
theorem dc71_110 : decode (pm_mb 71) 110 = .ok (.getfield 57, 3) := by decide +kernel
theorem dc71_113 : decode (pm_mb 71) 113 = .ok (.ifCond .eq 11, 3) := by decide +kernel
theorem dc71_116 : decode (pm_mb 71) 116 = .ok (.aload_n 0, 1) := by decide +kernel
theorem dc71_117 : decode (pm_mb 71) 117 = .ok (.iconst 1, 1) := by decide +kernel
theorem dc71_118 : decode (pm_mb 71) 118 = .ok (.invokevirtual 45, 3) := by decide +kernel
theorem dc71_121 : decode (pm_mb 71) 121 = .ok (.ifCond .eq 7, 3) := by decide +kernel
theorem dc71_124 : decode (pm_mb 71) 124 = .ok (.iconst 1, 1) := by decide +kernel
theorem dc71_125 : decode (pm_mb 71) 125 = .ok (.goto 4, 3) := by decide +kernel
theorem dc71_128 : decode (pm_mb 71) 128 = .ok (.iconst 0, 1) := by decide +kernel
theorem dc71_129 : decode (pm_mb 71) 129 = .ok (.ireturn, 1) := by decide +kernel
theorem b71_0 {X : pm_X} {d : Nat} {k : Nat} {g : pm_G} {iv : pm_V} (hL : pm_lay g) : pm_at X d 71 (0, [some (.ref 5), some (.ref k), none], [], g, iv) = pm_then X d 71 9 [some (.ref 5), some (.ref k), none] [] (pm_c X d 82 [.ref 5] g (pm_iw iv 5 4 0)) := by
  refine (at_aload_n dc71_0 rfl).trans ?_
  refine (at_iconst (v := 0) dc71_1 rfl).trans ?_
  refine (at_pfI dc71_2 mc71 lf4_29 po4_4 (ly5 hL)).trans ?_
  refine (at_aload_n dc71_5 rfl).trans ?_
  exact at_inv dc71_6 mc71 lm4_32 rfl rfl (Nat.le_of_ble_eq_true rfl) (Or.inl ⟨(ly5 hL), by decide⟩)
theorem b71_9 {X : pm_X} {d : Nat} {k : Nat} {g : pm_G} {iv : pm_V} (hL : pm_lay g) : pm_at X d 71 (9, [some (.ref 5), some (.ref k), none], [], g, iv) = pm_then X d 71 14 [some (.ref 5), some (.ref k), none] [] (pm_c X d 72 [.ref 5, .ref k] g iv) := by
  refine (at_aload_n dc71_9 rfl).trans ?_
  refine (at_aload_n dc71_10 rfl).trans ?_
  exact at_inv dc71_11 mc71 lm4_35 rfl rfl (Nat.le_of_ble_eq_true rfl) (Or.inl ⟨(ly5 hL), by decide⟩)
theorem b71_14 {X : pm_X} {d : Nat} {s0 : Int32} {k : Nat} {g : pm_G} {iv : pm_V}  : pm_at X d 71 (14, [some (.ref 5), some (.ref k), none], [.int s0], g, iv) = if ¬ s0 = 0 then pm_at X d 71 (19, [some (.ref 5), some (.ref k), none], [], g, iv) else pm_at X d 71 (17, [some (.ref 5), some (.ref k), none], [], g, iv) := by
  exact at_if_ne (t := 19) dc71_14 (by decide)
theorem b71_17 {X : pm_X} {d : Nat} {k : Nat} {g : pm_G} {iv : pm_V}  : pm_at X d 71 (17, [some (.ref 5), some (.ref k), none], [], g, iv) = some (some (.int 0), g, iv) := by
  refine (at_iconst (v := 0) dc71_17 rfl).trans ?_
  exact at_zret dc71_18 mr71 (by decide)
theorem b71_19 {X : pm_X} {d : Nat} {k : Nat} {g : pm_G} {iv : pm_V}  : pm_at X d 71 (19, [some (.ref 5), some (.ref k), none], [], g, iv) = pm_at X d 71 (21, [some (.ref 5), some (.ref k), some (.int 0)], [], g, iv) := by
  refine (at_iconst (v := 0) dc71_19 rfl).trans ?_
  refine (at_istore_n dc71_20 rfl).trans ?_
  rfl
theorem b71_21 {X : pm_X} {d : Nat} {x2 : Int32} {k : Nat} {g : pm_G} {iv : pm_V}  : pm_at X d 71 (21, [some (.ref 5), some (.ref k), some (.int x2)], [], g, iv) = if 8 < x2 then pm_at X d 71 (64, [some (.ref 5), some (.ref k), some (.int x2)], [], g, iv) else pm_at X d 71 (27, [some (.ref 5), some (.ref k), some (.int x2)], [], g, iv) := by
  refine (at_iload_n dc71_21 rfl).trans ?_
  refine (at_bipush (v := 8) dc71_22 (by decide)).trans ?_
  exact at_icmp_gt (t := 64) dc71_24 (by decide)
theorem b71_27 {X : pm_X} {d : Nat} {x2 : Int32} {k : Nat} {g : pm_G} {iv : pm_V} (hL : pm_lay g) : pm_at X d 71 (27, [some (.ref 5), some (.ref k), some (.int x2)], [], g, iv) = pm_then X d 71 33 [some (.ref 5), some (.ref k), some (.int x2)] [] (pm_c X d 81 [.ref 5, .ref 1001] g iv) := by
  refine (at_aload_n dc71_27 rfl).trans ?_
  refine (at_ldcS dc71_28 mc71 lkn4_39 lt4_39).trans ?_
  exact at_inv dc71_30 mc71 lm4_41 rfl rfl (Nat.le_of_ble_eq_true rfl) (Or.inl ⟨(ly5 hL), by decide⟩)
theorem b71_33 {X : pm_X} {d : Nat} {x2 : Int32} {s0 : Int32} {k : Nat} {g : pm_G} {iv : pm_V}  : pm_at X d 71 (33, [some (.ref 5), some (.ref k), some (.int x2)], [.int s0], g, iv) = if s0 = 0 then pm_at X d 71 (64, [some (.ref 5), some (.ref k), some (.int x2)], [], g, iv) else pm_at X d 71 (36, [some (.ref 5), some (.ref k), some (.int x2)], [], g, iv) := by
  exact at_if_eq (t := 64) dc71_33 (by decide)
theorem b71_36 {X : pm_X} {d : Nat} {x2 : Int32} {k : Nat} {g : pm_G} {iv : pm_V}  : pm_at X d 71 (36, [some (.ref 5), some (.ref k), some (.int x2)], [], g, iv) = if ¬ x2 = 8 then pm_at X d 71 (48, [some (.ref 5), some (.ref k), some (.int x2)], [], g, iv) else pm_at X d 71 (42, [some (.ref 5), some (.ref k), some (.int x2)], [], g, iv) := by
  refine (at_iload_n dc71_36 rfl).trans ?_
  refine (at_bipush (v := 8) dc71_37 (by decide)).trans ?_
  exact at_icmp_ne (t := 48) dc71_39 (by decide)
theorem b71_42 {X : pm_X} {d : Nat} {x2 : Int32} {k : Nat} {g : pm_G} {iv : pm_V} (hL : pm_lay g) : pm_at X d 71 (42, [some (.ref 5), some (.ref k), some (.int x2)], [], g, iv) = pm_then X d 71 47 [some (.ref 5), some (.ref k), some (.int x2)] [] (pm_c X d 80 [.ref 5, .int 3] g iv) := by
  refine (at_aload_n dc71_42 rfl).trans ?_
  refine (at_iconst (v := 3) dc71_43 rfl).trans ?_
  exact at_inv dc71_44 mc71 lm4_45 rfl rfl (Nat.le_of_ble_eq_true rfl) (Or.inl ⟨(ly5 hL), by decide⟩)
theorem b71_47 {X : pm_X} {d : Nat} {x2 : Int32} {s0 : Int32} {k : Nat} {g : pm_G} {iv : pm_V}  : pm_at X d 71 (47, [some (.ref 5), some (.ref k), some (.int x2)], [.int s0], g, iv) = pm_zr s0 (some (some (.int s0), g, iv)) := by
  exact at_zretG dc71_47 mr71
theorem b71_48 {X : pm_X} {d : Nat} {x2 : Int32} {k : Nat} {g : pm_G} {iv : pm_V} (hL : pm_lay g) : pm_at X d 71 (48, [some (.ref 5), some (.ref k), some (.int x2)], [], g, iv) = pm_then X d 71 53 [some (.ref 5), some (.ref k), some (.int x2)] [] (pm_c X d 73 [.ref 5, .ref k] g iv) := by
  refine (at_aload_n dc71_48 rfl).trans ?_
  refine (at_aload_n dc71_49 rfl).trans ?_
  exact at_inv dc71_50 mc71 lm4_49 rfl rfl (Nat.le_of_ble_eq_true rfl) (Or.inl ⟨(ly5 hL), by decide⟩)
theorem b71_53 {X : pm_X} {d : Nat} {x2 : Int32} {s0 : Int32} {k : Nat} {g : pm_G} {iv : pm_V}  : pm_at X d 71 (53, [some (.ref 5), some (.ref k), some (.int x2)], [.int s0], g, iv) = if ¬ s0 = 0 then pm_at X d 71 (58, [some (.ref 5), some (.ref k), some (.int x2)], [], g, iv) else pm_at X d 71 (56, [some (.ref 5), some (.ref k), some (.int x2)], [], g, iv) := by
  exact at_if_ne (t := 58) dc71_53 (by decide)
theorem b71_56 {X : pm_X} {d : Nat} {x2 : Int32} {k : Nat} {g : pm_G} {iv : pm_V}  : pm_at X d 71 (56, [some (.ref 5), some (.ref k), some (.int x2)], [], g, iv) = some (some (.int 0), g, iv) := by
  refine (at_iconst (v := 0) dc71_56 rfl).trans ?_
  exact at_zret dc71_57 mr71 (by decide)
theorem b71_58 {X : pm_X} {d : Nat} {x2 : Int32} {k : Nat} {g : pm_G} {iv : pm_V}  : pm_at X d 71 (58, [some (.ref 5), some (.ref k), some (.int x2)], [], g, iv) = pm_at X d 71 (21, [some (.ref 5), some (.ref k), some (.int (x2 + 1))], [], g, iv) := by
  refine (at_iinc (v := 1) dc71_58 rfl (by decide) rfl).trans ?_
  refine (at_goto (t := 21) dc71_61 (by decide)).trans ?_
  rfl
theorem b71_64 {X : pm_X} {d : Nat} {x2 : Int32} {k : Nat} {g : pm_G} {iv : pm_V}  : pm_at X d 71 (64, [some (.ref 5), some (.ref k), some (.int x2)], [], g, iv) = pm_at X d 71 (66, [some (.ref 5), some (.ref k), some (.int 0)], [], g, iv) := by
  refine (at_iconst (v := 0) dc71_64 rfl).trans ?_
  refine (at_istore_n dc71_65 rfl).trans ?_
  rfl
theorem b71_66 {X : pm_X} {d : Nat} {x2 : Int32} {k : Nat} {g : pm_G} {iv : pm_V}  : pm_at X d 71 (66, [some (.ref 5), some (.ref k), some (.int x2)], [], g, iv) = if 6 < x2 then pm_at X d 71 (109, [some (.ref 5), some (.ref k), some (.int x2)], [], g, iv) else pm_at X d 71 (72, [some (.ref 5), some (.ref k), some (.int x2)], [], g, iv) := by
  refine (at_iload_n dc71_66 rfl).trans ?_
  refine (at_bipush (v := 6) dc71_67 (by decide)).trans ?_
  exact at_icmp_gt (t := 109) dc71_69 (by decide)
theorem b71_72 {X : pm_X} {d : Nat} {x2 : Int32} {k : Nat} {g : pm_G} {iv : pm_V} (hL : pm_lay g) : pm_at X d 71 (72, [some (.ref 5), some (.ref k), some (.int x2)], [], g, iv) = pm_then X d 71 78 [some (.ref 5), some (.ref k), some (.int x2)] [] (pm_c X d 81 [.ref 5, .ref 1002] g iv) := by
  refine (at_aload_n dc71_72 rfl).trans ?_
  refine (at_ldcS dc71_73 mc71 lkn4_52 lt4_52).trans ?_
  exact at_inv dc71_75 mc71 lm4_41 rfl rfl (Nat.le_of_ble_eq_true rfl) (Or.inl ⟨(ly5 hL), by decide⟩)
theorem b71_78 {X : pm_X} {d : Nat} {x2 : Int32} {s0 : Int32} {k : Nat} {g : pm_G} {iv : pm_V}  : pm_at X d 71 (78, [some (.ref 5), some (.ref k), some (.int x2)], [.int s0], g, iv) = if s0 = 0 then pm_at X d 71 (109, [some (.ref 5), some (.ref k), some (.int x2)], [], g, iv) else pm_at X d 71 (81, [some (.ref 5), some (.ref k), some (.int x2)], [], g, iv) := by
  exact at_if_eq (t := 109) dc71_78 (by decide)
theorem b71_81 {X : pm_X} {d : Nat} {x2 : Int32} {k : Nat} {g : pm_G} {iv : pm_V}  : pm_at X d 71 (81, [some (.ref 5), some (.ref k), some (.int x2)], [], g, iv) = if ¬ x2 = 6 then pm_at X d 71 (93, [some (.ref 5), some (.ref k), some (.int x2)], [], g, iv) else pm_at X d 71 (87, [some (.ref 5), some (.ref k), some (.int x2)], [], g, iv) := by
  refine (at_iload_n dc71_81 rfl).trans ?_
  refine (at_bipush (v := 6) dc71_82 (by decide)).trans ?_
  exact at_icmp_ne (t := 93) dc71_84 (by decide)
theorem b71_87 {X : pm_X} {d : Nat} {x2 : Int32} {k : Nat} {g : pm_G} {iv : pm_V} (hL : pm_lay g) : pm_at X d 71 (87, [some (.ref 5), some (.ref k), some (.int x2)], [], g, iv) = pm_then X d 71 92 [some (.ref 5), some (.ref k), some (.int x2)] [] (pm_c X d 80 [.ref 5, .int 3] g iv) := by
  refine (at_aload_n dc71_87 rfl).trans ?_
  refine (at_iconst (v := 3) dc71_88 rfl).trans ?_
  exact at_inv dc71_89 mc71 lm4_45 rfl rfl (Nat.le_of_ble_eq_true rfl) (Or.inl ⟨(ly5 hL), by decide⟩)
theorem b71_92 {X : pm_X} {d : Nat} {x2 : Int32} {s0 : Int32} {k : Nat} {g : pm_G} {iv : pm_V}  : pm_at X d 71 (92, [some (.ref 5), some (.ref k), some (.int x2)], [.int s0], g, iv) = pm_zr s0 (some (some (.int s0), g, iv)) := by
  exact at_zretG dc71_92 mr71
theorem b71_93 {X : pm_X} {d : Nat} {x2 : Int32} {k : Nat} {g : pm_G} {iv : pm_V} (hL : pm_lay g) : pm_at X d 71 (93, [some (.ref 5), some (.ref k), some (.int x2)], [], g, iv) = pm_then X d 71 98 [some (.ref 5), some (.ref k), some (.int x2)] [] (pm_c X d 74 [.ref 5, .ref k] g iv) := by
  refine (at_aload_n dc71_93 rfl).trans ?_
  refine (at_aload_n dc71_94 rfl).trans ?_
  exact at_inv dc71_95 mc71 lm4_54 rfl rfl (Nat.le_of_ble_eq_true rfl) (Or.inl ⟨(ly5 hL), by decide⟩)
theorem b71_98 {X : pm_X} {d : Nat} {x2 : Int32} {s0 : Int32} {k : Nat} {g : pm_G} {iv : pm_V}  : pm_at X d 71 (98, [some (.ref 5), some (.ref k), some (.int x2)], [.int s0], g, iv) = if ¬ s0 = 0 then pm_at X d 71 (103, [some (.ref 5), some (.ref k), some (.int x2)], [], g, iv) else pm_at X d 71 (101, [some (.ref 5), some (.ref k), some (.int x2)], [], g, iv) := by
  exact at_if_ne (t := 103) dc71_98 (by decide)
theorem b71_101 {X : pm_X} {d : Nat} {x2 : Int32} {k : Nat} {g : pm_G} {iv : pm_V}  : pm_at X d 71 (101, [some (.ref 5), some (.ref k), some (.int x2)], [], g, iv) = some (some (.int 0), g, iv) := by
  refine (at_iconst (v := 0) dc71_101 rfl).trans ?_
  exact at_zret dc71_102 mr71 (by decide)
theorem b71_103 {X : pm_X} {d : Nat} {x2 : Int32} {k : Nat} {g : pm_G} {iv : pm_V}  : pm_at X d 71 (103, [some (.ref 5), some (.ref k), some (.int x2)], [], g, iv) = pm_at X d 71 (66, [some (.ref 5), some (.ref k), some (.int (x2 + 1))], [], g, iv) := by
  refine (at_iinc (v := 1) dc71_103 rfl (by decide) rfl).trans ?_
  refine (at_goto (t := 66) dc71_106 (by decide)).trans ?_
  rfl
theorem b71_109 {X : pm_X} {d : Nat} {x2 : Int32} {k : Nat} {g : pm_G} {iv : pm_V} (hL : pm_lay g) : pm_at X d 71 (109, [some (.ref 5), some (.ref k), some (.int x2)], [], g, iv) = if (iv 5 2) = 0 then pm_at X d 71 (124, [some (.ref 5), some (.ref k), some (.int x2)], [], g, iv) else pm_at X d 71 (116, [some (.ref 5), some (.ref k), some (.int x2)], [], g, iv) := by
  refine (at_aload_n dc71_109 rfl).trans ?_
  refine (at_gfI dc71_110 mc71 lf4_57 fo4_2 (ly5 hL)).trans ?_
  exact at_if_eq (t := 124) dc71_113 (by decide)
theorem b71_116 {X : pm_X} {d : Nat} {x2 : Int32} {k : Nat} {g : pm_G} {iv : pm_V} (hL : pm_lay g) : pm_at X d 71 (116, [some (.ref 5), some (.ref k), some (.int x2)], [], g, iv) = pm_then X d 71 121 [some (.ref 5), some (.ref k), some (.int x2)] [] (pm_c X d 80 [.ref 5, .int 1] g iv) := by
  refine (at_aload_n dc71_116 rfl).trans ?_
  refine (at_iconst (v := 1) dc71_117 rfl).trans ?_
  exact at_inv dc71_118 mc71 lm4_45 rfl rfl (Nat.le_of_ble_eq_true rfl) (Or.inl ⟨(ly5 hL), by decide⟩)
theorem b71_121 {X : pm_X} {d : Nat} {x2 : Int32} {s0 : Int32} {k : Nat} {g : pm_G} {iv : pm_V}  : pm_at X d 71 (121, [some (.ref 5), some (.ref k), some (.int x2)], [.int s0], g, iv) = if s0 = 0 then pm_at X d 71 (128, [some (.ref 5), some (.ref k), some (.int x2)], [], g, iv) else pm_at X d 71 (124, [some (.ref 5), some (.ref k), some (.int x2)], [], g, iv) := by
  exact at_if_eq (t := 128) dc71_121 (by decide)
theorem b71_124 {X : pm_X} {d : Nat} {x2 : Int32} {k : Nat} {g : pm_G} {iv : pm_V}  : pm_at X d 71 (124, [some (.ref 5), some (.ref k), some (.int x2)], [], g, iv) = pm_at X d 71 (129, [some (.ref 5), some (.ref k), some (.int x2)], [.int 1], g, iv) := by
  refine (at_iconst (v := 1) dc71_124 rfl).trans ?_
  refine (at_goto (t := 129) dc71_125 (by decide)).trans ?_
  rfl
theorem b71_128 {X : pm_X} {d : Nat} {x2 : Int32} {k : Nat} {g : pm_G} {iv : pm_V}  : pm_at X d 71 (128, [some (.ref 5), some (.ref k), some (.int x2)], [], g, iv) = pm_at X d 71 (129, [some (.ref 5), some (.ref k), some (.int x2)], [.int 0], g, iv) := by
  refine (at_iconst (v := 0) dc71_128 rfl).trans ?_
  rfl
theorem b71_129 {X : pm_X} {d : Nat} {x2 : Int32} {s0 : Int32} {k : Nat} {g : pm_G} {iv : pm_V}  : pm_at X d 71 (129, [some (.ref 5), some (.ref k), some (.int x2)], [.int s0], g, iv) = pm_zr s0 (some (some (.int s0), g, iv)) := by
  exact at_zretG dc71_129 mr71
-- Tape.readSlope (LHillHouses$Slope;)Z
theorem dc72_0 : decode (pm_mb 72) 0 = .ok (.aload_n 0, 1) := by decide +kernel
theorem dc72_1 : decode (pm_mb 72) 1 = .ok (.ldc 60, 2) := by decide +kernel
theorem dc72_3 : decode (pm_mb 72) 3 = .ok (.invokevirtual 62, 3) := by decide +kernel
theorem dc72_6 : decode (pm_mb 72) 6 = .ok (.ifCond .ne 5, 3) := by decide +kernel
theorem dc72_9 : decode (pm_mb 72) 9 = .ok (.iconst 0, 1) := by decide +kernel
theorem dc72_10 : decode (pm_mb 72) 10 = .ok (.ireturn, 1) := by decide +kernel
theorem dc72_11 : decode (pm_mb 72) 11 = .ok (.aload_n 0, 1) := by decide +kernel
theorem dc72_12 : decode (pm_mb 72) 12 = .ok (.iconst 1, 1) := by decide +kernel
theorem dc72_13 : decode (pm_mb 72) 13 = .ok (.iconst 4, 1) := by decide +kernel
theorem dc72_14 : decode (pm_mb 72) 14 = .ok (.invokevirtual 65, 3) := by decide +kernel
theorem dc72_17 : decode (pm_mb 72) 17 = .ok (.istore_n 2, 1) := by decide +kernel
theorem dc72_18 : decode (pm_mb 72) 18 = .ok (.iload_n 2, 1) := by decide +kernel
theorem dc72_19 : decode (pm_mb 72) 19 = .ok (.iconst (-1), 1) := by decide +kernel
theorem dc72_20 : decode (pm_mb 72) 20 = .ok (.if_icmp .ne 7, 3) := by decide +kernel
theorem dc72_23 : decode (pm_mb 72) 23 = .ok (.iconst (-1), 1) := by decide +kernel
theorem dc72_24 : decode (pm_mb 72) 24 = .ok (.goto 10, 3) := by decide +kernel
theorem dc72_27 : decode (pm_mb 72) 27 = .ok (.aload_n 0, 1) := by decide +kernel
theorem dc72_28 : decode (pm_mb 72) 28 = .ok (.iconst 4, 1) := by decide +kernel
theorem dc72_29 : decode (pm_mb 72) 29 = .ok (.bipush 20, 2) := by decide +kernel
theorem dc72_31 : decode (pm_mb 72) 31 = .ok (.invokevirtual 65, 3) := by decide +kernel
theorem dc72_34 : decode (pm_mb 72) 34 = .ok (.istore_n 3, 1) := by decide +kernel
theorem dc72_35 : decode (pm_mb 72) 35 = .ok (.iload_n 3, 1) := by decide +kernel
theorem dc72_36 : decode (pm_mb 72) 36 = .ok (.iconst (-1), 1) := by decide +kernel
theorem dc72_37 : decode (pm_mb 72) 37 = .ok (.if_icmp .ne 5, 3) := by decide +kernel
theorem dc72_40 : decode (pm_mb 72) 40 = .ok (.iconst 0, 1) := by decide +kernel
theorem dc72_41 : decode (pm_mb 72) 41 = .ok (.ireturn, 1) := by decide +kernel
theorem dc72_42 : decode (pm_mb 72) 42 = .ok (.aload_n 1, 1) := by decide +kernel
theorem dc72_43 : decode (pm_mb 72) 43 = .ok (.iload_n 2, 1) := by decide +kernel
theorem dc72_44 : decode (pm_mb 72) 44 = .ok (.iload_n 3, 1) := by decide +kernel
theorem dc72_45 : decode (pm_mb 72) 45 = .ok (.invokevirtual 69, 3) := by decide +kernel
theorem dc72_48 : decode (pm_mb 72) 48 = .ok (.aload_n 0, 1) := by decide +kernel
theorem dc72_49 : decode (pm_mb 72) 49 = .ok (.invokevirtual 75, 3) := by decide +kernel
theorem dc72_52 : decode (pm_mb 72) 52 = .ok (.ireturn, 1) := by decide +kernel
theorem b72_0 {X : pm_X} {d : Nat} {k : Nat} {g : pm_G} {iv : pm_V} (hL : pm_lay g) : pm_at X d 72 (0, [some (.ref 5), some (.ref k), none, none], [], g, iv) = pm_then X d 72 6 [some (.ref 5), some (.ref k), none, none] [] (pm_c X d 75 [.ref 5, .ref 1000] g iv) := by
  refine (at_aload_n dc72_0 rfl).trans ?_
  refine (at_ldcS dc72_1 mc72 lkn4_60 lt4_60).trans ?_
  exact at_inv dc72_3 mc72 lm4_62 rfl rfl (Nat.le_of_ble_eq_true rfl) (Or.inl ⟨(ly5 hL), by decide⟩)
theorem b72_6 {X : pm_X} {d : Nat} {s0 : Int32} {k : Nat} {g : pm_G} {iv : pm_V}  : pm_at X d 72 (6, [some (.ref 5), some (.ref k), none, none], [.int s0], g, iv) = if ¬ s0 = 0 then pm_at X d 72 (11, [some (.ref 5), some (.ref k), none, none], [], g, iv) else pm_at X d 72 (9, [some (.ref 5), some (.ref k), none, none], [], g, iv) := by
  exact at_if_ne (t := 11) dc72_6 (by decide)
theorem b72_9 {X : pm_X} {d : Nat} {k : Nat} {g : pm_G} {iv : pm_V}  : pm_at X d 72 (9, [some (.ref 5), some (.ref k), none, none], [], g, iv) = some (some (.int 0), g, iv) := by
  refine (at_iconst (v := 0) dc72_9 rfl).trans ?_
  exact at_zret dc72_10 mr72 (by decide)
theorem b72_11 {X : pm_X} {d : Nat} {k : Nat} {g : pm_G} {iv : pm_V} (hL : pm_lay g) : pm_at X d 72 (11, [some (.ref 5), some (.ref k), none, none], [], g, iv) = pm_then X d 72 17 [some (.ref 5), some (.ref k), none, none] [] (pm_c X d 77 [.ref 5, .int 1, .int 4] g iv) := by
  refine (at_aload_n dc72_11 rfl).trans ?_
  refine (at_iconst (v := 1) dc72_12 rfl).trans ?_
  refine (at_iconst (v := 4) dc72_13 rfl).trans ?_
  exact at_inv dc72_14 mc72 lm4_65 rfl rfl (Nat.le_of_ble_eq_true rfl) (Or.inl ⟨(ly5 hL), by decide⟩)
theorem b72_17 {X : pm_X} {d : Nat} {s0 : Int32} {k : Nat} {g : pm_G} {iv : pm_V}  : pm_at X d 72 (17, [some (.ref 5), some (.ref k), none, none], [.int s0], g, iv) = if ¬ s0 = (-1) then pm_at X d 72 (27, [some (.ref 5), some (.ref k), some (.int s0), none], [], g, iv) else pm_at X d 72 (23, [some (.ref 5), some (.ref k), some (.int s0), none], [], g, iv) := by
  refine (at_istore_n dc72_17 rfl).trans ?_
  refine (at_iload_n dc72_18 rfl).trans ?_
  refine (at_iconst (v := (-1)) dc72_19 rfl).trans ?_
  exact at_icmp_ne (t := 27) dc72_20 (by decide)
theorem b72_23 {X : pm_X} {d : Nat} {x2 : Int32} {k : Nat} {g : pm_G} {iv : pm_V}  : pm_at X d 72 (23, [some (.ref 5), some (.ref k), some (.int x2), none], [], g, iv) = pm_at X d 72 (34, [some (.ref 5), some (.ref k), some (.int x2), none], [.int (-1)], g, iv) := by
  refine (at_iconst (v := (-1)) dc72_23 rfl).trans ?_
  refine (at_goto (t := 34) dc72_24 (by decide)).trans ?_
  rfl
theorem b72_27 {X : pm_X} {d : Nat} {x2 : Int32} {k : Nat} {g : pm_G} {iv : pm_V} (hL : pm_lay g) : pm_at X d 72 (27, [some (.ref 5), some (.ref k), some (.int x2), none], [], g, iv) = pm_then X d 72 34 [some (.ref 5), some (.ref k), some (.int x2), none] [] (pm_c X d 77 [.ref 5, .int 4, .int 20] g iv) := by
  refine (at_aload_n dc72_27 rfl).trans ?_
  refine (at_iconst (v := 4) dc72_28 rfl).trans ?_
  refine (at_bipush (v := 20) dc72_29 (by decide)).trans ?_
  exact at_inv dc72_31 mc72 lm4_65 rfl rfl (Nat.le_of_ble_eq_true rfl) (Or.inl ⟨(ly5 hL), by decide⟩)
theorem b72_34 {X : pm_X} {d : Nat} {x2 : Int32} {s0 : Int32} {k : Nat} {g : pm_G} {iv : pm_V}  : pm_at X d 72 (34, [some (.ref 5), some (.ref k), some (.int x2), none], [.int s0], g, iv) = if ¬ s0 = (-1) then pm_at X d 72 (42, [some (.ref 5), some (.ref k), some (.int x2), some (.int s0)], [], g, iv) else pm_at X d 72 (40, [some (.ref 5), some (.ref k), some (.int x2), some (.int s0)], [], g, iv) := by
  refine (at_istore_n dc72_34 rfl).trans ?_
  refine (at_iload_n dc72_35 rfl).trans ?_
  refine (at_iconst (v := (-1)) dc72_36 rfl).trans ?_
  exact at_icmp_ne (t := 42) dc72_37 (by decide)
theorem b72_40 {X : pm_X} {d : Nat} {x2 : Int32} {x3 : Int32} {k : Nat} {g : pm_G} {iv : pm_V}  : pm_at X d 72 (40, [some (.ref 5), some (.ref k), some (.int x2), some (.int x3)], [], g, iv) = some (some (.int 0), g, iv) := by
  refine (at_iconst (v := 0) dc72_40 rfl).trans ?_
  exact at_zret dc72_41 mr72 (by decide)
theorem b72_42 {X : pm_X} {d : Nat} {x2 : Int32} {x3 : Int32} {k : Nat} {g : pm_G} {iv : pm_V} (hK : pm_sl g k) : pm_at X d 72 (42, [some (.ref 5), some (.ref k), some (.int x2), some (.int x3)], [], g, iv) = pm_then X d 72 48 [some (.ref 5), some (.ref k), some (.int x2), some (.int x3)] [] (pm_c X d 49 [.ref k, .int x2, .int x3] g iv) := by
  refine (at_aload_n dc72_42 rfl).trans ?_
  refine (at_iload_n dc72_43 rfl).trans ?_
  refine (at_iload_n dc72_44 rfl).trans ?_
  exact at_inv dc72_45 mc72 lm4_69 rfl rfl (Nat.le_of_ble_eq_true rfl) (Or.inl ⟨hK.1, by decide⟩)
theorem b72_48 {X : pm_X} {d : Nat} {x2 : Int32} {x3 : Int32} {k : Nat} {g : pm_G} {iv : pm_V} (hL : pm_lay g) : pm_at X d 72 (48, [some (.ref 5), some (.ref k), some (.int x2), some (.int x3)], [], g, iv) = pm_then X d 72 52 [some (.ref 5), some (.ref k), some (.int x2), some (.int x3)] [] (pm_c X d 76 [.ref 5] g iv) := by
  refine (at_aload_n dc72_48 rfl).trans ?_
  exact at_inv dc72_49 mc72 lm4_75 rfl rfl (Nat.le_of_ble_eq_true rfl) (Or.inl ⟨(ly5 hL), by decide⟩)
theorem b72_52 {X : pm_X} {d : Nat} {x2 : Int32} {x3 : Int32} {s0 : Int32} {k : Nat} {g : pm_G} {iv : pm_V}  : pm_at X d 72 (52, [some (.ref 5), some (.ref k), some (.int x2), some (.int x3)], [.int s0], g, iv) = pm_zr s0 (some (some (.int s0), g, iv)) := by
  exact at_zretG dc72_52 mr72
-- Tape.readStone (LHillHouses$Slope;)Z
theorem dc73_0 : decode (pm_mb 73) 0 = .ok (.aload_n 0, 1) := by decide +kernel
theorem dc73_1 : decode (pm_mb 73) 1 = .ok (.invokevirtual 32, 3) := by decide +kernel
theorem dc73_4 : decode (pm_mb 73) 4 = .ok (.aload_n 0, 1) := by decide +kernel
theorem dc73_5 : decode (pm_mb 73) 5 = .ok (.iconst 0, 1) := by decide +kernel
theorem dc73_6 : decode (pm_mb 73) 6 = .ok (.aload_n 1, 1) := by decide +kernel
theorem dc73_7 : decode (pm_mb 73) 7 = .ok (.invokevirtual 79, 3) := by decide +kernel
theorem dc73_10 : decode (pm_mb 73) 10 = .ok (.iconst 1, 1) := by decide +kernel
theorem dc73_11 : decode (pm_mb 73) 11 = .ok (.isub, 1) := by decide +kernel
theorem dc73_12 : decode (pm_mb 73) 12 = .ok (.invokevirtual 65, 3) := by decide +kernel
theorem dc73_15 : decode (pm_mb 73) 15 = .ok (.istore_n 2, 1) := by decide +kernel
theorem dc73_16 : decode (pm_mb 73) 16 = .ok (.iload_n 2, 1) := by decide +kernel
theorem dc73_17 : decode (pm_mb 73) 17 = .ok (.iconst (-1), 1) := by decide +kernel
theorem dc73_18 : decode (pm_mb 73) 18 = .ok (.if_icmp .ne 7, 3) := by decide +kernel
theorem dc73_21 : decode (pm_mb 73) 21 = .ok (.iconst (-1), 1) := by decide +kernel
theorem dc73_22 : decode (pm_mb 73) 22 = .ok (.goto 14, 3) := by decide +kernel
theorem dc73_25 : decode (pm_mb 73) 25 = .ok (.aload_n 0, 1) := by decide +kernel
theorem dc73_26 : decode (pm_mb 73) 26 = .ok (.iconst 0, 1) := by decide +kernel
theorem dc73_27 : decode (pm_mb 73) 27 = .ok (.aload_n 1, 1) := by decide +kernel
theorem dc73_28 : decode (pm_mb 73) 28 = .ok (.invokevirtual 83, 3) := by decide +kernel
theorem dc73_31 : decode (pm_mb 73) 31 = .ok (.iconst 1, 1) := by decide +kernel
theorem dc73_32 : decode (pm_mb 73) 32 = .ok (.isub, 1) := by decide +kernel
theorem dc73_33 : decode (pm_mb 73) 33 = .ok (.invokevirtual 65, 3) := by decide +kernel
theorem dc73_36 : decode (pm_mb 73) 36 = .ok (.istore_n 3, 1) := by decide +kernel
theorem dc73_37 : decode (pm_mb 73) 37 = .ok (.iload_n 3, 1) := by decide +kernel
theorem dc73_38 : decode (pm_mb 73) 38 = .ok (.iconst (-1), 1) := by decide +kernel
theorem dc73_39 : decode (pm_mb 73) 39 = .ok (.if_icmp .ne 5, 3) := by decide +kernel
theorem dc73_42 : decode (pm_mb 73) 42 = .ok (.iconst 0, 1) := by decide +kernel
theorem dc73_43 : decode (pm_mb 73) 43 = .ok (.ireturn, 1) := by decide +kernel
theorem dc73_44 : decode (pm_mb 73) 44 = .ok (.aload_n 1, 1) := by decide +kernel
theorem dc73_45 : decode (pm_mb 73) 45 = .ok (.iload_n 2, 1) := by decide +kernel
theorem dc73_46 : decode (pm_mb 73) 46 = .ok (.iload_n 3, 1) := by decide +kernel
theorem dc73_47 : decode (pm_mb 73) 47 = .ok (.invokevirtual 86, 3) := by decide +kernel
theorem dc73_50 : decode (pm_mb 73) 50 = .ok (.aload_n 0, 1) := by decide +kernel
theorem dc73_51 : decode (pm_mb 73) 51 = .ok (.invokevirtual 75, 3) := by decide +kernel
theorem dc73_54 : decode (pm_mb 73) 54 = .ok (.ireturn, 1) := by decide +kernel
theorem b73_0 {X : pm_X} {d : Nat} {k : Nat} {g : pm_G} {iv : pm_V} (hL : pm_lay g) : pm_at X d 73 (0, [some (.ref 5), some (.ref k), none, none], [], g, iv) = pm_then X d 73 4 [some (.ref 5), some (.ref k), none, none] [] (pm_c X d 82 [.ref 5] g iv) := by
  refine (at_aload_n dc73_0 rfl).trans ?_
  exact at_inv dc73_1 mc73 lm4_32 rfl rfl (Nat.le_of_ble_eq_true rfl) (Or.inl ⟨(ly5 hL), by decide⟩)
theorem b73_4 {X : pm_X} {d : Nat} {k : Nat} {g : pm_G} {iv : pm_V} (hK : pm_sl g k) : pm_at X d 73 (4, [some (.ref 5), some (.ref k), none, none], [], g, iv) = pm_then X d 73 10 [some (.ref 5), some (.ref k), none, none] [.int 0, .ref 5] (pm_c X d 27 [.ref k] g iv) := by
  refine (at_aload_n dc73_4 rfl).trans ?_
  refine (at_iconst (v := 0) dc73_5 rfl).trans ?_
  refine (at_aload_n dc73_6 rfl).trans ?_
  exact at_inv dc73_7 mc73 lm4_79 rfl rfl (Nat.le_of_ble_eq_true rfl) (Or.inl ⟨hK.1, by decide⟩)
theorem b73_10 {X : pm_X} {d : Nat} {s0 : Int32} {s1 : Int32} {k : Nat} {g : pm_G} {iv : pm_V} (hL : pm_lay g) : pm_at X d 73 (10, [some (.ref 5), some (.ref k), none, none], [.int s0, .int s1, .ref 5], g, iv) = pm_then X d 73 15 [some (.ref 5), some (.ref k), none, none] [] (pm_c X d 77 [.ref 5, .int s1, .int (s0 - 1)] g iv) := by
  refine (at_iconst (v := 1) dc73_10 rfl).trans ?_
  refine (at_isub dc73_11).trans ?_
  exact at_inv dc73_12 mc73 lm4_65 rfl rfl (Nat.le_of_ble_eq_true rfl) (Or.inl ⟨(ly5 hL), by decide⟩)
theorem b73_15 {X : pm_X} {d : Nat} {s0 : Int32} {k : Nat} {g : pm_G} {iv : pm_V}  : pm_at X d 73 (15, [some (.ref 5), some (.ref k), none, none], [.int s0], g, iv) = if ¬ s0 = (-1) then pm_at X d 73 (25, [some (.ref 5), some (.ref k), some (.int s0), none], [], g, iv) else pm_at X d 73 (21, [some (.ref 5), some (.ref k), some (.int s0), none], [], g, iv) := by
  refine (at_istore_n dc73_15 rfl).trans ?_
  refine (at_iload_n dc73_16 rfl).trans ?_
  refine (at_iconst (v := (-1)) dc73_17 rfl).trans ?_
  exact at_icmp_ne (t := 25) dc73_18 (by decide)
theorem b73_21 {X : pm_X} {d : Nat} {x2 : Int32} {k : Nat} {g : pm_G} {iv : pm_V}  : pm_at X d 73 (21, [some (.ref 5), some (.ref k), some (.int x2), none], [], g, iv) = pm_at X d 73 (36, [some (.ref 5), some (.ref k), some (.int x2), none], [.int (-1)], g, iv) := by
  refine (at_iconst (v := (-1)) dc73_21 rfl).trans ?_
  refine (at_goto (t := 36) dc73_22 (by decide)).trans ?_
  rfl
theorem b73_25 {X : pm_X} {d : Nat} {x2 : Int32} {k : Nat} {g : pm_G} {iv : pm_V} (hK : pm_sl g k) : pm_at X d 73 (25, [some (.ref 5), some (.ref k), some (.int x2), none], [], g, iv) = pm_then X d 73 31 [some (.ref 5), some (.ref k), some (.int x2), none] [.int 0, .ref 5] (pm_c X d 28 [.ref k] g iv) := by
  refine (at_aload_n dc73_25 rfl).trans ?_
  refine (at_iconst (v := 0) dc73_26 rfl).trans ?_
  refine (at_aload_n dc73_27 rfl).trans ?_
  exact at_inv dc73_28 mc73 lm4_83 rfl rfl (Nat.le_of_ble_eq_true rfl) (Or.inl ⟨hK.1, by decide⟩)
theorem b73_31 {X : pm_X} {d : Nat} {x2 : Int32} {s0 : Int32} {s1 : Int32} {k : Nat} {g : pm_G} {iv : pm_V} (hL : pm_lay g) : pm_at X d 73 (31, [some (.ref 5), some (.ref k), some (.int x2), none], [.int s0, .int s1, .ref 5], g, iv) = pm_then X d 73 36 [some (.ref 5), some (.ref k), some (.int x2), none] [] (pm_c X d 77 [.ref 5, .int s1, .int (s0 - 1)] g iv) := by
  refine (at_iconst (v := 1) dc73_31 rfl).trans ?_
  refine (at_isub dc73_32).trans ?_
  exact at_inv dc73_33 mc73 lm4_65 rfl rfl (Nat.le_of_ble_eq_true rfl) (Or.inl ⟨(ly5 hL), by decide⟩)
theorem b73_36 {X : pm_X} {d : Nat} {x2 : Int32} {s0 : Int32} {k : Nat} {g : pm_G} {iv : pm_V}  : pm_at X d 73 (36, [some (.ref 5), some (.ref k), some (.int x2), none], [.int s0], g, iv) = if ¬ s0 = (-1) then pm_at X d 73 (44, [some (.ref 5), some (.ref k), some (.int x2), some (.int s0)], [], g, iv) else pm_at X d 73 (42, [some (.ref 5), some (.ref k), some (.int x2), some (.int s0)], [], g, iv) := by
  refine (at_istore_n dc73_36 rfl).trans ?_
  refine (at_iload_n dc73_37 rfl).trans ?_
  refine (at_iconst (v := (-1)) dc73_38 rfl).trans ?_
  exact at_icmp_ne (t := 44) dc73_39 (by decide)
theorem b73_42 {X : pm_X} {d : Nat} {x2 : Int32} {x3 : Int32} {k : Nat} {g : pm_G} {iv : pm_V}  : pm_at X d 73 (42, [some (.ref 5), some (.ref k), some (.int x2), some (.int x3)], [], g, iv) = some (some (.int 0), g, iv) := by
  refine (at_iconst (v := 0) dc73_42 rfl).trans ?_
  exact at_zret dc73_43 mr73 (by decide)
theorem b73_44 {X : pm_X} {d : Nat} {x2 : Int32} {x3 : Int32} {k : Nat} {g : pm_G} {iv : pm_V} (hK : pm_sl g k) : pm_at X d 73 (44, [some (.ref 5), some (.ref k), some (.int x2), some (.int x3)], [], g, iv) = pm_then X d 73 50 [some (.ref 5), some (.ref k), some (.int x2), some (.int x3)] [] (pm_c X d 50 [.ref k, .int x2, .int x3] g iv) := by
  refine (at_aload_n dc73_44 rfl).trans ?_
  refine (at_iload_n dc73_45 rfl).trans ?_
  refine (at_iload_n dc73_46 rfl).trans ?_
  exact at_inv dc73_47 mc73 lm4_86 rfl rfl (Nat.le_of_ble_eq_true rfl) (Or.inl ⟨hK.1, by decide⟩)
theorem b73_50 {X : pm_X} {d : Nat} {x2 : Int32} {x3 : Int32} {k : Nat} {g : pm_G} {iv : pm_V} (hL : pm_lay g) : pm_at X d 73 (50, [some (.ref 5), some (.ref k), some (.int x2), some (.int x3)], [], g, iv) = pm_then X d 73 54 [some (.ref 5), some (.ref k), some (.int x2), some (.int x3)] [] (pm_c X d 76 [.ref 5] g iv) := by
  refine (at_aload_n dc73_50 rfl).trans ?_
  exact at_inv dc73_51 mc73 lm4_75 rfl rfl (Nat.le_of_ble_eq_true rfl) (Or.inl ⟨(ly5 hL), by decide⟩)
theorem b73_54 {X : pm_X} {d : Nat} {x2 : Int32} {x3 : Int32} {s0 : Int32} {k : Nat} {g : pm_G} {iv : pm_V}  : pm_at X d 73 (54, [some (.ref 5), some (.ref k), some (.int x2), some (.int x3)], [.int s0], g, iv) = pm_zr s0 (some (some (.int s0), g, iv)) := by
  exact at_zretG dc73_54 mr73
-- Tape.readHouse (LHillHouses$Slope;)Z
theorem dc74_0 : decode (pm_mb 74) 0 = .ok (.aload_n 0, 1) := by decide +kernel
theorem dc74_1 : decode (pm_mb 74) 1 = .ok (.invokevirtual 32, 3) := by decide +kernel
theorem dc74_4 : decode (pm_mb 74) 4 = .ok (.aload_n 0, 1) := by decide +kernel
theorem dc74_5 : decode (pm_mb 74) 5 = .ok (.invokevirtual 89, 3) := by decide +kernel
theorem dc74_8 : decode (pm_mb 74) 8 = .ok (.istore_n 2, 1) := by decide +kernel
theorem dc74_9 : decode (pm_mb 74) 9 = .ok (.iload_n 2, 1) := by decide +kernel
theorem dc74_10 : decode (pm_mb 74) 10 = .ok (.iconst (-1), 1) := by decide +kernel
theorem dc74_11 : decode (pm_mb 74) 11 = .ok (.if_icmp .ne 7, 3) := by decide +kernel
theorem dc74_14 : decode (pm_mb 74) 14 = .ok (.iconst (-1), 1) := by decide +kernel
theorem dc74_15 : decode (pm_mb 74) 15 = .ok (.goto 14, 3) := by decide +kernel
theorem dc74_18 : decode (pm_mb 74) 18 = .ok (.aload_n 0, 1) := by decide +kernel
theorem dc74_19 : decode (pm_mb 74) 19 = .ok (.iconst 0, 1) := by decide +kernel
theorem dc74_20 : decode (pm_mb 74) 20 = .ok (.aload_n 1, 1) := by decide +kernel
theorem dc74_21 : decode (pm_mb 74) 21 = .ok (.invokevirtual 79, 3) := by decide +kernel
theorem dc74_24 : decode (pm_mb 74) 24 = .ok (.iconst 1, 1) := by decide +kernel
theorem dc74_25 : decode (pm_mb 74) 25 = .ok (.isub, 1) := by decide +kernel
theorem dc74_26 : decode (pm_mb 74) 26 = .ok (.invokevirtual 65, 3) := by decide +kernel
theorem dc74_29 : decode (pm_mb 74) 29 = .ok (.istore_n 3, 1) := by decide +kernel
theorem dc74_30 : decode (pm_mb 74) 30 = .ok (.iload_n 3, 1) := by decide +kernel
theorem dc74_31 : decode (pm_mb 74) 31 = .ok (.iconst (-1), 1) := by decide +kernel
theorem dc74_32 : decode (pm_mb 74) 32 = .ok (.if_icmp .ne 5, 3) := by decide +kernel
theorem dc74_35 : decode (pm_mb 74) 35 = .ok (.iconst 0, 1) := by decide +kernel
theorem dc74_36 : decode (pm_mb 74) 36 = .ok (.ireturn, 1) := by decide +kernel
theorem dc74_37 : decode (pm_mb 74) 37 = .ok (.aload_n 0, 1) := by decide +kernel
theorem dc74_38 : decode (pm_mb 74) 38 = .ok (.getfield 57, 3) := by decide +kernel
theorem dc74_41 : decode (pm_mb 74) 41 = .ok (.iconst 2, 1) := by decide +kernel
theorem dc74_42 : decode (pm_mb 74) 42 = .ok (.if_icmp .ne 34, 3) := by decide +kernel
theorem dc74_45 : decode (pm_mb 74) 45 = .ok (.aload_n 1, 1) := by decide +kernel
theorem dc74_46 : decode (pm_mb 74) 46 = .ok (.aload_n 0, 1) := by decide +kernel
theorem dc74_47 : decode (pm_mb 74) 47 = .ok (.getfield 92, 3) := by decide +kernel
theorem dc74_50 : decode (pm_mb 74) 50 = .ok (.invokevirtual 95, 3) := by decide +kernel
theorem dc74_53 : decode (pm_mb 74) 53 = .ok (.ifCond .eq 23, 3) := by decide +kernel
theorem dc74_56 : decode (pm_mb 74) 56 = .ok (.aload_n 1, 1) := by decide +kernel
theorem dc74_57 : decode (pm_mb 74) 57 = .ok (.iload_n 3, 1) := by decide +kernel
theorem dc74_58 : decode (pm_mb 74) 58 = .ok (.aload_n 0, 1) := by decide +kernel
theorem dc74_59 : decode (pm_mb 74) 59 = .ok (.getfield 92, 3) := by decide +kernel
theorem dc74_62 : decode (pm_mb 74) 62 = .ok (.invokevirtual 98, 3) := by decide +kernel
theorem dc74_65 : decode (pm_mb 74) 65 = .ok (.bipush (-2), 2) := by decide +kernel
theorem dc74_67 : decode (pm_mb 74) 67 = .ok (.if_icmp .eq 9, 3) := by decide +kernel
theorem dc74_70 : decode (pm_mb 74) 70 = .ok (.aload_n 0, 1) := by decide +kernel
theorem dc74_71 : decode (pm_mb 74) 71 = .ok (.iconst 2, 1) := by decide +kernel
theorem dc74_72 : decode (pm_mb 74) 72 = .ok (.invokevirtual 45, 3) := by decide +kernel
theorem dc74_75 : decode (pm_mb 74) 75 = .ok (.ireturn, 1) := by decide +kernel
theorem dc74_76 : decode (pm_mb 74) 76 = .ok (.aload_n 0, 1) := by decide +kernel
theorem dc74_77 : decode (pm_mb 74) 77 = .ok (.iconst 0, 1) := by decide +kernel
theorem dc74_78 : decode (pm_mb 74) 78 = .ok (.aload_n 1, 1) := by decide +kernel
theorem dc74_79 : decode (pm_mb 74) 79 = .ok (.invokevirtual 83, 3) := by decide +kernel
theorem dc74_82 : decode (pm_mb 74) 82 = .ok (.iconst 1, 1) := by decide +kernel
theorem dc74_83 : decode (pm_mb 74) 83 = .ok (.isub, 1) := by decide +kernel
theorem dc74_84 : decode (pm_mb 74) 84 = .ok (.invokevirtual 65, 3) := by decide +kernel
theorem dc74_87 : decode (pm_mb 74) 87 = .ok (.istore 4, 2) := by decide +kernel
theorem dc74_89 : decode (pm_mb 74) 89 = .ok (.iload 4, 2) := by decide +kernel
theorem dc74_91 : decode (pm_mb 74) 91 = .ok (.iconst (-1), 1) := by decide +kernel
theorem dc74_92 : decode (pm_mb 74) 92 = .ok (.if_icmp .ne 7, 3) := by decide +kernel
theorem dc74_95 : decode (pm_mb 74) 95 = .ok (.iconst (-1), 1) := by decide +kernel
theorem dc74_96 : decode (pm_mb 74) 96 = .ok (.goto 10, 3) := by decide +kernel
theorem dc74_99 : decode (pm_mb 74) 99 = .ok (.aload_n 0, 1) := by decide +kernel
theorem dc74_100 : decode (pm_mb 74) 100 = .ok (.iconst 1, 1) := by decide +kernel
theorem dc74_101 : decode (pm_mb 74) 101 = .ok (.bipush 20, 2) := by decide +kernel
theorem dc74_103 : decode (pm_mb 74) 103 = .ok (.invokevirtual 65, 3) := by decide +kernel
theorem dc74_106 : decode (pm_mb 74) 106 = .ok (.istore 5, 2) := by decide +kernel
theorem dc74_108 : decode (pm_mb 74) 108 = .ok (.iload 5, 2) := by decide +kernel
theorem dc74_110 : decode (pm_mb 74) 110 = .ok (.iconst (-1), 1) := by decide +kernel
theorem dc74_111 : decode (pm_mb 74) 111 = .ok (.if_icmp .ne 5, 3) := by decide +kernel
theorem dc74_114 : decode (pm_mb 74) 114 = .ok (.iconst 0, 1) := by decide +kernel
theorem dc74_115 : decode (pm_mb 74) 115 = .ok (.ireturn, 1) := by decide +kernel
theorem dc74_116 : decode (pm_mb 74) 116 = .ok (.aload_n 1, 1) := by decide +kernel
theorem dc74_117 : decode (pm_mb 74) 117 = .ok (.iload_n 2, 1) := by decide +kernel
theorem dc74_118 : decode (pm_mb 74) 118 = .ok (.iload 5, 2) := by decide +kernel
theorem dc74_120 : decode (pm_mb 74) 120 = .ok (.iload_n 3, 1) := by decide +kernel
theorem dc74_121 : decode (pm_mb 74) 121 = .ok (.iload 4, 2) := by decide +kernel
theorem dc74_123 : decode (pm_mb 74) 123 = .ok (.invokevirtual 101, 3) := by decide +kernel
theorem dc74_126 : decode (pm_mb 74) 126 = .ok (.aload_n 0, 1) := by decide +kernel
theorem dc74_127 : decode (pm_mb 74) 127 = .ok (.invokevirtual 75, 3) := by decide +kernel
theorem dc74_130 : decode (pm_mb 74) 130 = .ok (.ireturn, 1) := by decide +kernel
theorem b74_0 {X : pm_X} {d : Nat} {k : Nat} {g : pm_G} {iv : pm_V} (hL : pm_lay g) : pm_at X d 74 (0, [some (.ref 5), some (.ref k), none, none, none, none], [], g, iv) = pm_then X d 74 4 [some (.ref 5), some (.ref k), none, none, none, none] [] (pm_c X d 82 [.ref 5] g iv) := by
  refine (at_aload_n dc74_0 rfl).trans ?_
  exact at_inv dc74_1 mc74 lm4_32 rfl rfl (Nat.le_of_ble_eq_true rfl) (Or.inl ⟨(ly5 hL), by decide⟩)
theorem b74_4 {X : pm_X} {d : Nat} {k : Nat} {g : pm_G} {iv : pm_V} (hL : pm_lay g) : pm_at X d 74 (4, [some (.ref 5), some (.ref k), none, none, none, none], [], g, iv) = pm_then X d 74 8 [some (.ref 5), some (.ref k), none, none, none, none] [] (pm_c X d 78 [.ref 5] g iv) := by
  refine (at_aload_n dc74_4 rfl).trans ?_
  exact at_inv dc74_5 mc74 lm4_89 rfl rfl (Nat.le_of_ble_eq_true rfl) (Or.inl ⟨(ly5 hL), by decide⟩)
theorem b74_8 {X : pm_X} {d : Nat} {s0 : Int32} {k : Nat} {g : pm_G} {iv : pm_V}  : pm_at X d 74 (8, [some (.ref 5), some (.ref k), none, none, none, none], [.int s0], g, iv) = if ¬ s0 = (-1) then pm_at X d 74 (18, [some (.ref 5), some (.ref k), some (.int s0), none, none, none], [], g, iv) else pm_at X d 74 (14, [some (.ref 5), some (.ref k), some (.int s0), none, none, none], [], g, iv) := by
  refine (at_istore_n dc74_8 rfl).trans ?_
  refine (at_iload_n dc74_9 rfl).trans ?_
  refine (at_iconst (v := (-1)) dc74_10 rfl).trans ?_
  exact at_icmp_ne (t := 18) dc74_11 (by decide)
theorem b74_14 {X : pm_X} {d : Nat} {x2 : Int32} {k : Nat} {g : pm_G} {iv : pm_V}  : pm_at X d 74 (14, [some (.ref 5), some (.ref k), some (.int x2), none, none, none], [], g, iv) = pm_at X d 74 (29, [some (.ref 5), some (.ref k), some (.int x2), none, none, none], [.int (-1)], g, iv) := by
  refine (at_iconst (v := (-1)) dc74_14 rfl).trans ?_
  refine (at_goto (t := 29) dc74_15 (by decide)).trans ?_
  rfl
theorem b74_18 {X : pm_X} {d : Nat} {x2 : Int32} {k : Nat} {g : pm_G} {iv : pm_V} (hK : pm_sl g k) : pm_at X d 74 (18, [some (.ref 5), some (.ref k), some (.int x2), none, none, none], [], g, iv) = pm_then X d 74 24 [some (.ref 5), some (.ref k), some (.int x2), none, none, none] [.int 0, .ref 5] (pm_c X d 27 [.ref k] g iv) := by
  refine (at_aload_n dc74_18 rfl).trans ?_
  refine (at_iconst (v := 0) dc74_19 rfl).trans ?_
  refine (at_aload_n dc74_20 rfl).trans ?_
  exact at_inv dc74_21 mc74 lm4_79 rfl rfl (Nat.le_of_ble_eq_true rfl) (Or.inl ⟨hK.1, by decide⟩)
theorem b74_24 {X : pm_X} {d : Nat} {x2 : Int32} {s0 : Int32} {s1 : Int32} {k : Nat} {g : pm_G} {iv : pm_V} (hL : pm_lay g) : pm_at X d 74 (24, [some (.ref 5), some (.ref k), some (.int x2), none, none, none], [.int s0, .int s1, .ref 5], g, iv) = pm_then X d 74 29 [some (.ref 5), some (.ref k), some (.int x2), none, none, none] [] (pm_c X d 77 [.ref 5, .int s1, .int (s0 - 1)] g iv) := by
  refine (at_iconst (v := 1) dc74_24 rfl).trans ?_
  refine (at_isub dc74_25).trans ?_
  exact at_inv dc74_26 mc74 lm4_65 rfl rfl (Nat.le_of_ble_eq_true rfl) (Or.inl ⟨(ly5 hL), by decide⟩)
theorem b74_29 {X : pm_X} {d : Nat} {x2 : Int32} {s0 : Int32} {k : Nat} {g : pm_G} {iv : pm_V}  : pm_at X d 74 (29, [some (.ref 5), some (.ref k), some (.int x2), none, none, none], [.int s0], g, iv) = if ¬ s0 = (-1) then pm_at X d 74 (37, [some (.ref 5), some (.ref k), some (.int x2), some (.int s0), none, none], [], g, iv) else pm_at X d 74 (35, [some (.ref 5), some (.ref k), some (.int x2), some (.int s0), none, none], [], g, iv) := by
  refine (at_istore_n dc74_29 rfl).trans ?_
  refine (at_iload_n dc74_30 rfl).trans ?_
  refine (at_iconst (v := (-1)) dc74_31 rfl).trans ?_
  exact at_icmp_ne (t := 37) dc74_32 (by decide)
theorem b74_35 {X : pm_X} {d : Nat} {x2 : Int32} {x3 : Int32} {k : Nat} {g : pm_G} {iv : pm_V}  : pm_at X d 74 (35, [some (.ref 5), some (.ref k), some (.int x2), some (.int x3), none, none], [], g, iv) = some (some (.int 0), g, iv) := by
  refine (at_iconst (v := 0) dc74_35 rfl).trans ?_
  exact at_zret dc74_36 mr74 (by decide)
theorem b74_37 {X : pm_X} {d : Nat} {x2 : Int32} {x3 : Int32} {k : Nat} {g : pm_G} {iv : pm_V} (hL : pm_lay g) : pm_at X d 74 (37, [some (.ref 5), some (.ref k), some (.int x2), some (.int x3), none, none], [], g, iv) = if ¬ (iv 5 2) = 2 then pm_at X d 74 (76, [some (.ref 5), some (.ref k), some (.int x2), some (.int x3), none, none], [], g, iv) else pm_at X d 74 (45, [some (.ref 5), some (.ref k), some (.int x2), some (.int x3), none, none], [], g, iv) := by
  refine (at_aload_n dc74_37 rfl).trans ?_
  refine (at_gfI dc74_38 mc74 lf4_57 fo4_2 (ly5 hL)).trans ?_
  refine (at_iconst (v := 2) dc74_41 rfl).trans ?_
  exact at_icmp_ne (t := 76) dc74_42 (by decide)
theorem b74_45 {X : pm_X} {d : Nat} {x2 : Int32} {x3 : Int32} {k : Nat} {g : pm_G} {iv : pm_V} (hL : pm_lay g) (hK : pm_sl g k) : pm_at X d 74 (45, [some (.ref 5), some (.ref k), some (.int x2), some (.int x3), none, none], [], g, iv) = pm_then X d 74 53 [some (.ref 5), some (.ref k), some (.int x2), some (.int x3), none, none] [] (pm_c X d 34 [.ref k, .int (iv 5 5)] g iv) := by
  refine (at_aload_n dc74_45 rfl).trans ?_
  refine (at_aload_n dc74_46 rfl).trans ?_
  refine (at_gfI dc74_47 mc74 lf4_92 fo4_5 (ly5 hL)).trans ?_
  exact at_inv dc74_50 mc74 lm4_95 rfl rfl (Nat.le_of_ble_eq_true rfl) (Or.inl ⟨hK.1, by decide⟩)
theorem b74_53 {X : pm_X} {d : Nat} {x2 : Int32} {x3 : Int32} {s0 : Int32} {k : Nat} {g : pm_G} {iv : pm_V}  : pm_at X d 74 (53, [some (.ref 5), some (.ref k), some (.int x2), some (.int x3), none, none], [.int s0], g, iv) = if s0 = 0 then pm_at X d 74 (76, [some (.ref 5), some (.ref k), some (.int x2), some (.int x3), none, none], [], g, iv) else pm_at X d 74 (56, [some (.ref 5), some (.ref k), some (.int x2), some (.int x3), none, none], [], g, iv) := by
  exact at_if_eq (t := 76) dc74_53 (by decide)
theorem b74_56 {X : pm_X} {d : Nat} {x2 : Int32} {x3 : Int32} {k : Nat} {g : pm_G} {iv : pm_V} (hL : pm_lay g) (hK : pm_sl g k) : pm_at X d 74 (56, [some (.ref 5), some (.ref k), some (.int x2), some (.int x3), none, none], [], g, iv) = pm_then X d 74 65 [some (.ref 5), some (.ref k), some (.int x2), some (.int x3), none, none] [] (pm_c X d 45 [.ref k, .int x3, .int (iv 5 5)] g iv) := by
  refine (at_aload_n dc74_56 rfl).trans ?_
  refine (at_iload_n dc74_57 rfl).trans ?_
  refine (at_aload_n dc74_58 rfl).trans ?_
  refine (at_gfI dc74_59 mc74 lf4_92 fo4_5 (ly5 hL)).trans ?_
  exact at_inv dc74_62 mc74 lm4_98 rfl rfl (Nat.le_of_ble_eq_true rfl) (Or.inl ⟨hK.1, by decide⟩)
theorem b74_65 {X : pm_X} {d : Nat} {x2 : Int32} {x3 : Int32} {s0 : Int32} {k : Nat} {g : pm_G} {iv : pm_V}  : pm_at X d 74 (65, [some (.ref 5), some (.ref k), some (.int x2), some (.int x3), none, none], [.int s0], g, iv) = if s0 = (-2) then pm_at X d 74 (76, [some (.ref 5), some (.ref k), some (.int x2), some (.int x3), none, none], [], g, iv) else pm_at X d 74 (70, [some (.ref 5), some (.ref k), some (.int x2), some (.int x3), none, none], [], g, iv) := by
  refine (at_bipush (v := (-2)) dc74_65 (by decide)).trans ?_
  exact at_icmp_eq (t := 76) dc74_67 (by decide)
theorem b74_70 {X : pm_X} {d : Nat} {x2 : Int32} {x3 : Int32} {k : Nat} {g : pm_G} {iv : pm_V} (hL : pm_lay g) : pm_at X d 74 (70, [some (.ref 5), some (.ref k), some (.int x2), some (.int x3), none, none], [], g, iv) = pm_then X d 74 75 [some (.ref 5), some (.ref k), some (.int x2), some (.int x3), none, none] [] (pm_c X d 80 [.ref 5, .int 2] g iv) := by
  refine (at_aload_n dc74_70 rfl).trans ?_
  refine (at_iconst (v := 2) dc74_71 rfl).trans ?_
  exact at_inv dc74_72 mc74 lm4_45 rfl rfl (Nat.le_of_ble_eq_true rfl) (Or.inl ⟨(ly5 hL), by decide⟩)
theorem b74_75 {X : pm_X} {d : Nat} {x2 : Int32} {x3 : Int32} {s0 : Int32} {k : Nat} {g : pm_G} {iv : pm_V}  : pm_at X d 74 (75, [some (.ref 5), some (.ref k), some (.int x2), some (.int x3), none, none], [.int s0], g, iv) = pm_zr s0 (some (some (.int s0), g, iv)) := by
  exact at_zretG dc74_75 mr74
theorem b74_76 {X : pm_X} {d : Nat} {x2 : Int32} {x3 : Int32} {k : Nat} {g : pm_G} {iv : pm_V} (hK : pm_sl g k) : pm_at X d 74 (76, [some (.ref 5), some (.ref k), some (.int x2), some (.int x3), none, none], [], g, iv) = pm_then X d 74 82 [some (.ref 5), some (.ref k), some (.int x2), some (.int x3), none, none] [.int 0, .ref 5] (pm_c X d 28 [.ref k] g iv) := by
  refine (at_aload_n dc74_76 rfl).trans ?_
  refine (at_iconst (v := 0) dc74_77 rfl).trans ?_
  refine (at_aload_n dc74_78 rfl).trans ?_
  exact at_inv dc74_79 mc74 lm4_83 rfl rfl (Nat.le_of_ble_eq_true rfl) (Or.inl ⟨hK.1, by decide⟩)
theorem b74_82 {X : pm_X} {d : Nat} {x2 : Int32} {x3 : Int32} {s0 : Int32} {s1 : Int32} {k : Nat} {g : pm_G} {iv : pm_V} (hL : pm_lay g) : pm_at X d 74 (82, [some (.ref 5), some (.ref k), some (.int x2), some (.int x3), none, none], [.int s0, .int s1, .ref 5], g, iv) = pm_then X d 74 87 [some (.ref 5), some (.ref k), some (.int x2), some (.int x3), none, none] [] (pm_c X d 77 [.ref 5, .int s1, .int (s0 - 1)] g iv) := by
  refine (at_iconst (v := 1) dc74_82 rfl).trans ?_
  refine (at_isub dc74_83).trans ?_
  exact at_inv dc74_84 mc74 lm4_65 rfl rfl (Nat.le_of_ble_eq_true rfl) (Or.inl ⟨(ly5 hL), by decide⟩)
theorem b74_87 {X : pm_X} {d : Nat} {x2 : Int32} {x3 : Int32} {s0 : Int32} {k : Nat} {g : pm_G} {iv : pm_V}  : pm_at X d 74 (87, [some (.ref 5), some (.ref k), some (.int x2), some (.int x3), none, none], [.int s0], g, iv) = if ¬ s0 = (-1) then pm_at X d 74 (99, [some (.ref 5), some (.ref k), some (.int x2), some (.int x3), some (.int s0), none], [], g, iv) else pm_at X d 74 (95, [some (.ref 5), some (.ref k), some (.int x2), some (.int x3), some (.int s0), none], [], g, iv) := by
  refine (at_istore dc74_87 rfl).trans ?_
  refine (at_iload dc74_89 rfl).trans ?_
  refine (at_iconst (v := (-1)) dc74_91 rfl).trans ?_
  exact at_icmp_ne (t := 99) dc74_92 (by decide)
theorem b74_95 {X : pm_X} {d : Nat} {x2 : Int32} {x3 : Int32} {x4 : Int32} {k : Nat} {g : pm_G} {iv : pm_V}  : pm_at X d 74 (95, [some (.ref 5), some (.ref k), some (.int x2), some (.int x3), some (.int x4), none], [], g, iv) = pm_at X d 74 (106, [some (.ref 5), some (.ref k), some (.int x2), some (.int x3), some (.int x4), none], [.int (-1)], g, iv) := by
  refine (at_iconst (v := (-1)) dc74_95 rfl).trans ?_
  refine (at_goto (t := 106) dc74_96 (by decide)).trans ?_
  rfl
theorem b74_99 {X : pm_X} {d : Nat} {x2 : Int32} {x3 : Int32} {x4 : Int32} {k : Nat} {g : pm_G} {iv : pm_V} (hL : pm_lay g) : pm_at X d 74 (99, [some (.ref 5), some (.ref k), some (.int x2), some (.int x3), some (.int x4), none], [], g, iv) = pm_then X d 74 106 [some (.ref 5), some (.ref k), some (.int x2), some (.int x3), some (.int x4), none] [] (pm_c X d 77 [.ref 5, .int 1, .int 20] g iv) := by
  refine (at_aload_n dc74_99 rfl).trans ?_
  refine (at_iconst (v := 1) dc74_100 rfl).trans ?_
  refine (at_bipush (v := 20) dc74_101 (by decide)).trans ?_
  exact at_inv dc74_103 mc74 lm4_65 rfl rfl (Nat.le_of_ble_eq_true rfl) (Or.inl ⟨(ly5 hL), by decide⟩)
theorem b74_106 {X : pm_X} {d : Nat} {x2 : Int32} {x3 : Int32} {x4 : Int32} {s0 : Int32} {k : Nat} {g : pm_G} {iv : pm_V}  : pm_at X d 74 (106, [some (.ref 5), some (.ref k), some (.int x2), some (.int x3), some (.int x4), none], [.int s0], g, iv) = if ¬ s0 = (-1) then pm_at X d 74 (116, [some (.ref 5), some (.ref k), some (.int x2), some (.int x3), some (.int x4), some (.int s0)], [], g, iv) else pm_at X d 74 (114, [some (.ref 5), some (.ref k), some (.int x2), some (.int x3), some (.int x4), some (.int s0)], [], g, iv) := by
  refine (at_istore dc74_106 rfl).trans ?_
  refine (at_iload dc74_108 rfl).trans ?_
  refine (at_iconst (v := (-1)) dc74_110 rfl).trans ?_
  exact at_icmp_ne (t := 116) dc74_111 (by decide)
theorem b74_114 {X : pm_X} {d : Nat} {x2 : Int32} {x3 : Int32} {x4 : Int32} {x5 : Int32} {k : Nat} {g : pm_G} {iv : pm_V}  : pm_at X d 74 (114, [some (.ref 5), some (.ref k), some (.int x2), some (.int x3), some (.int x4), some (.int x5)], [], g, iv) = some (some (.int 0), g, iv) := by
  refine (at_iconst (v := 0) dc74_114 rfl).trans ?_
  exact at_zret dc74_115 mr74 (by decide)
theorem b74_116 {X : pm_X} {d : Nat} {x2 : Int32} {x3 : Int32} {x4 : Int32} {x5 : Int32} {k : Nat} {g : pm_G} {iv : pm_V} (hK : pm_sl g k) : pm_at X d 74 (116, [some (.ref 5), some (.ref k), some (.int x2), some (.int x3), some (.int x4), some (.int x5)], [], g, iv) = pm_then X d 74 126 [some (.ref 5), some (.ref k), some (.int x2), some (.int x3), some (.int x4), some (.int x5)] [] (pm_c X d 51 [.ref k, .int x2, .int x5, .int x3, .int x4] g iv) := by
  refine (at_aload_n dc74_116 rfl).trans ?_
  refine (at_iload_n dc74_117 rfl).trans ?_
  refine (at_iload dc74_118 rfl).trans ?_
  refine (at_iload_n dc74_120 rfl).trans ?_
  refine (at_iload dc74_121 rfl).trans ?_
  exact at_inv dc74_123 mc74 lm4_101 rfl rfl (Nat.le_of_ble_eq_true rfl) (Or.inl ⟨hK.1, by decide⟩)
theorem b74_126 {X : pm_X} {d : Nat} {x2 : Int32} {x3 : Int32} {x4 : Int32} {x5 : Int32} {k : Nat} {g : pm_G} {iv : pm_V} (hL : pm_lay g) : pm_at X d 74 (126, [some (.ref 5), some (.ref k), some (.int x2), some (.int x3), some (.int x4), some (.int x5)], [], g, iv) = pm_then X d 74 130 [some (.ref 5), some (.ref k), some (.int x2), some (.int x3), some (.int x4), some (.int x5)] [] (pm_c X d 76 [.ref 5] g iv) := by
  refine (at_aload_n dc74_126 rfl).trans ?_
  exact at_inv dc74_127 mc74 lm4_75 rfl rfl (Nat.le_of_ble_eq_true rfl) (Or.inl ⟨(ly5 hL), by decide⟩)
theorem b74_130 {X : pm_X} {d : Nat} {x2 : Int32} {x3 : Int32} {x4 : Int32} {x5 : Int32} {s0 : Int32} {k : Nat} {g : pm_G} {iv : pm_V}  : pm_at X d 74 (130, [some (.ref 5), some (.ref k), some (.int x2), some (.int x3), some (.int x4), some (.int x5)], [.int s0], g, iv) = pm_zr s0 (some (some (.int s0), g, iv)) := by
  exact at_zretG dc74_130 mr74
-- Tape.takeWord (Ljava/lang/String;)Z
theorem dc75_0 : decode (pm_mb 75) 0 = .ok (.aload_n 0, 1) := by decide +kernel
theorem dc75_1 : decode (pm_mb 75) 1 = .ok (.aload_n 1, 1) := by decide +kernel
theorem dc75_2 : decode (pm_mb 75) 2 = .ok (.invokevirtual 41, 3) := by decide +kernel
theorem dc75_5 : decode (pm_mb 75) 5 = .ok (.ifCond .ne 9, 3) := by decide +kernel
theorem dc75_8 : decode (pm_mb 75) 8 = .ok (.aload_n 0, 1) := by decide +kernel
theorem dc75_9 : decode (pm_mb 75) 9 = .ok (.iconst 1, 1) := by decide +kernel
theorem dc75_10 : decode (pm_mb 75) 10 = .ok (.invokevirtual 45, 3) := by decide +kernel
theorem dc75_13 : decode (pm_mb 75) 13 = .ok (.ireturn, 1) := by decide +kernel
theorem dc75_14 : decode (pm_mb 75) 14 = .ok (.aload_n 0, 1) := by decide +kernel
theorem dc75_15 : decode (pm_mb 75) 15 = .ok (.invokevirtual 32, 3) := by decide +kernel
theorem dc75_18 : decode (pm_mb 75) 18 = .ok (.iconst 1, 1) := by decide +kernel
theorem dc75_19 : decode (pm_mb 75) 19 = .ok (.ireturn, 1) := by decide +kernel
theorem b75_0 {X : pm_X} {d : Nat} {a : Nat} {g : pm_G} {iv : pm_V} (hL : pm_lay g) : pm_at X d 75 (0, [some (.ref 5), some (.ref a)], [], g, iv) = pm_then X d 75 5 [some (.ref 5), some (.ref a)] [] (pm_c X d 81 [.ref 5, .ref a] g iv) := by
  refine (at_aload_n dc75_0 rfl).trans ?_
  refine (at_aload_n dc75_1 rfl).trans ?_
  exact at_inv dc75_2 mc75 lm4_41 rfl rfl (Nat.le_of_ble_eq_true rfl) (Or.inl ⟨(ly5 hL), by decide⟩)
theorem b75_5 {X : pm_X} {d : Nat} {s0 : Int32} {a : Nat} {g : pm_G} {iv : pm_V}  : pm_at X d 75 (5, [some (.ref 5), some (.ref a)], [.int s0], g, iv) = if ¬ s0 = 0 then pm_at X d 75 (14, [some (.ref 5), some (.ref a)], [], g, iv) else pm_at X d 75 (8, [some (.ref 5), some (.ref a)], [], g, iv) := by
  exact at_if_ne (t := 14) dc75_5 (by decide)
theorem b75_8 {X : pm_X} {d : Nat} {a : Nat} {g : pm_G} {iv : pm_V} (hL : pm_lay g) : pm_at X d 75 (8, [some (.ref 5), some (.ref a)], [], g, iv) = pm_then X d 75 13 [some (.ref 5), some (.ref a)] [] (pm_c X d 80 [.ref 5, .int 1] g iv) := by
  refine (at_aload_n dc75_8 rfl).trans ?_
  refine (at_iconst (v := 1) dc75_9 rfl).trans ?_
  exact at_inv dc75_10 mc75 lm4_45 rfl rfl (Nat.le_of_ble_eq_true rfl) (Or.inl ⟨(ly5 hL), by decide⟩)
theorem b75_13 {X : pm_X} {d : Nat} {s0 : Int32} {a : Nat} {g : pm_G} {iv : pm_V}  : pm_at X d 75 (13, [some (.ref 5), some (.ref a)], [.int s0], g, iv) = pm_zr s0 (some (some (.int s0), g, iv)) := by
  exact at_zretG dc75_13 mr75
theorem b75_14 {X : pm_X} {d : Nat} {a : Nat} {g : pm_G} {iv : pm_V} (hL : pm_lay g) : pm_at X d 75 (14, [some (.ref 5), some (.ref a)], [], g, iv) = pm_then X d 75 18 [some (.ref 5), some (.ref a)] [] (pm_c X d 82 [.ref 5] g iv) := by
  refine (at_aload_n dc75_14 rfl).trans ?_
  exact at_inv dc75_15 mc75 lm4_32 rfl rfl (Nat.le_of_ble_eq_true rfl) (Or.inl ⟨(ly5 hL), by decide⟩)
theorem b75_18 {X : pm_X} {d : Nat} {a : Nat} {g : pm_G} {iv : pm_V}  : pm_at X d 75 (18, [some (.ref 5), some (.ref a)], [], g, iv) = some (some (.int 1), g, iv) := by
  refine (at_iconst (v := 1) dc75_18 rfl).trans ?_
  exact at_zret dc75_19 mr75 (by decide)
-- Tape.takeSign ()Z
theorem dc76_0 : decode (pm_mb 76) 0 = .ok (.aload_n 0, 1) := by decide +kernel
theorem dc76_1 : decode (pm_mb 76) 1 = .ok (.getfield 57, 3) := by decide +kernel
theorem dc76_4 : decode (pm_mb 76) 4 = .ok (.iconst 3, 1) := by decide +kernel
theorem dc76_5 : decode (pm_mb 76) 5 = .ok (.if_icmp .eq 9, 3) := by decide +kernel
theorem dc76_8 : decode (pm_mb 76) 8 = .ok (.aload_n 0, 1) := by decide +kernel
theorem dc76_9 : decode (pm_mb 76) 9 = .ok (.iconst 1, 1) := by decide +kernel
theorem dc76_10 : decode (pm_mb 76) 10 = .ok (.invokevirtual 45, 3) := by decide +kernel
theorem dc76_13 : decode (pm_mb 76) 13 = .ok (.ireturn, 1) := by decide +kernel
theorem dc76_14 : decode (pm_mb 76) 14 = .ok (.aload_n 0, 1) := by decide +kernel
theorem dc76_15 : decode (pm_mb 76) 15 = .ok (.invokevirtual 32, 3) := by decide +kernel
theorem dc76_18 : decode (pm_mb 76) 18 = .ok (.iconst 1, 1) := by decide +kernel
theorem dc76_19 : decode (pm_mb 76) 19 = .ok (.ireturn, 1) := by decide +kernel
theorem b76_0 {X : pm_X} {d : Nat} {g : pm_G} {iv : pm_V} (hL : pm_lay g) : pm_at X d 76 (0, [some (.ref 5)], [], g, iv) = if (iv 5 2) = 3 then pm_at X d 76 (14, [some (.ref 5)], [], g, iv) else pm_at X d 76 (8, [some (.ref 5)], [], g, iv) := by
  refine (at_aload_n dc76_0 rfl).trans ?_
  refine (at_gfI dc76_1 mc76 lf4_57 fo4_2 (ly5 hL)).trans ?_
  refine (at_iconst (v := 3) dc76_4 rfl).trans ?_
  exact at_icmp_eq (t := 14) dc76_5 (by decide)
theorem b76_8 {X : pm_X} {d : Nat} {g : pm_G} {iv : pm_V} (hL : pm_lay g) : pm_at X d 76 (8, [some (.ref 5)], [], g, iv) = pm_then X d 76 13 [some (.ref 5)] [] (pm_c X d 80 [.ref 5, .int 1] g iv) := by
  refine (at_aload_n dc76_8 rfl).trans ?_
  refine (at_iconst (v := 1) dc76_9 rfl).trans ?_
  exact at_inv dc76_10 mc76 lm4_45 rfl rfl (Nat.le_of_ble_eq_true rfl) (Or.inl ⟨(ly5 hL), by decide⟩)
theorem b76_13 {X : pm_X} {d : Nat} {s0 : Int32} {g : pm_G} {iv : pm_V}  : pm_at X d 76 (13, [some (.ref 5)], [.int s0], g, iv) = pm_zr s0 (some (some (.int s0), g, iv)) := by
  exact at_zretG dc76_13 mr76
theorem b76_14 {X : pm_X} {d : Nat} {g : pm_G} {iv : pm_V} (hL : pm_lay g) : pm_at X d 76 (14, [some (.ref 5)], [], g, iv) = pm_then X d 76 18 [some (.ref 5)] [] (pm_c X d 82 [.ref 5] g iv) := by
  refine (at_aload_n dc76_14 rfl).trans ?_
  exact at_inv dc76_15 mc76 lm4_32 rfl rfl (Nat.le_of_ble_eq_true rfl) (Or.inl ⟨(ly5 hL), by decide⟩)
theorem b76_18 {X : pm_X} {d : Nat} {g : pm_G} {iv : pm_V}  : pm_at X d 76 (18, [some (.ref 5)], [], g, iv) = some (some (.int 1), g, iv) := by
  refine (at_iconst (v := 1) dc76_18 rfl).trans ?_
  exact at_zret dc76_19 mr76 (by decide)
-- Tape.takeNumber (II)I
theorem dc77_0 : decode (pm_mb 77) 0 = .ok (.aload_n 0, 1) := by decide +kernel
theorem dc77_1 : decode (pm_mb 77) 1 = .ok (.getfield 57, 3) := by decide +kernel
theorem dc77_4 : decode (pm_mb 77) 4 = .ok (.iconst 2, 1) := by decide +kernel
theorem dc77_5 : decode (pm_mb 77) 5 = .ok (.if_icmp .ne 19, 3) := by decide +kernel
theorem dc77_8 : decode (pm_mb 77) 8 = .ok (.aload_n 0, 1) := by decide +kernel
theorem dc77_9 : decode (pm_mb 77) 9 = .ok (.getfield 92, 3) := by decide +kernel
theorem dc77_12 : decode (pm_mb 77) 12 = .ok (.iload_n 1, 1) := by decide +kernel
theorem dc77_13 : decode (pm_mb 77) 13 = .ok (.if_icmp .lt 11, 3) := by decide +kernel
theorem dc77_16 : decode (pm_mb 77) 16 = .ok (.aload_n 0, 1) := by decide +kernel
theorem dc77_17 : decode (pm_mb 77) 17 = .ok (.getfield 92, 3) := by decide +kernel
theorem dc77_20 : decode (pm_mb 77) 20 = .ok (.iload_n 2, 1) := by decide +kernel
theorem dc77_21 : decode (pm_mb 77) 21 = .ok (.if_icmp .le 23, 3) := by decide +kernel
theorem dc77_24 : decode (pm_mb 77) 24 = .ok (.aload_n 0, 1) := by decide +kernel
theorem dc77_25 : decode (pm_mb 77) 25 = .ok (.aload_n 0, 1) := by decide +kernel
theorem dc77_26 : decode (pm_mb 77) 26 = .ok (.getfield 57, 3) := by decide +kernel
theorem dc77_29 : decode (pm_mb 77) 29 = .ok (.iconst 2, 1) := by decide +kernel
theorem dc77_30 : decode (pm_mb 77) 30 = .ok (.if_icmp .ne 7, 3) := by decide +kernel
theorem dc77_33 : decode (pm_mb 77) 33 = .ok (.iconst 2, 1) := by decide +kernel
theorem dc77_34 : decode (pm_mb 77) 34 = .ok (.goto 4, 3) := by decide +kernel
theorem dc77_37 : decode (pm_mb 77) 37 = .ok (.iconst 1, 1) := by decide +kernel
theorem dc77_38 : decode (pm_mb 77) 38 = .ok (.invokevirtual 45, 3) := by decide +kernel
theorem dc77_41 : decode (pm_mb 77) 41 = .ok (.pop, 1) := by decide +kernel
theorem dc77_42 : decode (pm_mb 77) 42 = .ok (.iconst (-1), 1) := by decide +kernel
theorem dc77_43 : decode (pm_mb 77) 43 = .ok (.ireturn, 1) := by decide +kernel
theorem dc77_44 : decode (pm_mb 77) 44 = .ok (.aload_n 0, 1) := by decide +kernel
theorem dc77_45 : decode (pm_mb 77) 45 = .ok (.getfield 92, 3) := by decide +kernel
theorem dc77_48 : decode (pm_mb 77) 48 = .ok (.istore_n 3, 1) := by decide +kernel
theorem dc77_49 : decode (pm_mb 77) 49 = .ok (.aload_n 0, 1) := by decide +kernel
theorem dc77_50 : decode (pm_mb 77) 50 = .ok (.invokevirtual 32, 3) := by decide +kernel
theorem dc77_53 : decode (pm_mb 77) 53 = .ok (.iload_n 3, 1) := by decide +kernel
theorem dc77_54 : decode (pm_mb 77) 54 = .ok (.ireturn, 1) := by decide +kernel
theorem b77_0 {X : pm_X} {d : Nat} {x1 : Int32} {x2 : Int32} {g : pm_G} {iv : pm_V} (hL : pm_lay g) : pm_at X d 77 (0, [some (.ref 5), some (.int x1), some (.int x2), none], [], g, iv) = if ¬ (iv 5 2) = 2 then pm_at X d 77 (24, [some (.ref 5), some (.int x1), some (.int x2), none], [], g, iv) else pm_at X d 77 (8, [some (.ref 5), some (.int x1), some (.int x2), none], [], g, iv) := by
  refine (at_aload_n dc77_0 rfl).trans ?_
  refine (at_gfI dc77_1 mc77 lf4_57 fo4_2 (ly5 hL)).trans ?_
  refine (at_iconst (v := 2) dc77_4 rfl).trans ?_
  exact at_icmp_ne (t := 24) dc77_5 (by decide)
theorem b77_8 {X : pm_X} {d : Nat} {x1 : Int32} {x2 : Int32} {g : pm_G} {iv : pm_V} (hL : pm_lay g) : pm_at X d 77 (8, [some (.ref 5), some (.int x1), some (.int x2), none], [], g, iv) = if (iv 5 5) < x1 then pm_at X d 77 (24, [some (.ref 5), some (.int x1), some (.int x2), none], [], g, iv) else pm_at X d 77 (16, [some (.ref 5), some (.int x1), some (.int x2), none], [], g, iv) := by
  refine (at_aload_n dc77_8 rfl).trans ?_
  refine (at_gfI dc77_9 mc77 lf4_92 fo4_5 (ly5 hL)).trans ?_
  refine (at_iload_n dc77_12 rfl).trans ?_
  exact at_icmp_lt (t := 24) dc77_13 (by decide)
theorem b77_16 {X : pm_X} {d : Nat} {x1 : Int32} {x2 : Int32} {g : pm_G} {iv : pm_V} (hL : pm_lay g) : pm_at X d 77 (16, [some (.ref 5), some (.int x1), some (.int x2), none], [], g, iv) = if (iv 5 5) ≤ x2 then pm_at X d 77 (44, [some (.ref 5), some (.int x1), some (.int x2), none], [], g, iv) else pm_at X d 77 (24, [some (.ref 5), some (.int x1), some (.int x2), none], [], g, iv) := by
  refine (at_aload_n dc77_16 rfl).trans ?_
  refine (at_gfI dc77_17 mc77 lf4_92 fo4_5 (ly5 hL)).trans ?_
  refine (at_iload_n dc77_20 rfl).trans ?_
  exact at_icmp_le (t := 44) dc77_21 (by decide)
theorem b77_24 {X : pm_X} {d : Nat} {x1 : Int32} {x2 : Int32} {g : pm_G} {iv : pm_V} (hL : pm_lay g) : pm_at X d 77 (24, [some (.ref 5), some (.int x1), some (.int x2), none], [], g, iv) = if ¬ (iv 5 2) = 2 then pm_at X d 77 (37, [some (.ref 5), some (.int x1), some (.int x2), none], [.ref 5], g, iv) else pm_at X d 77 (33, [some (.ref 5), some (.int x1), some (.int x2), none], [.ref 5], g, iv) := by
  refine (at_aload_n dc77_24 rfl).trans ?_
  refine (at_aload_n dc77_25 rfl).trans ?_
  refine (at_gfI dc77_26 mc77 lf4_57 fo4_2 (ly5 hL)).trans ?_
  refine (at_iconst (v := 2) dc77_29 rfl).trans ?_
  exact at_icmp_ne (t := 37) dc77_30 (by decide)
theorem b77_33 {X : pm_X} {d : Nat} {x1 : Int32} {x2 : Int32} {g : pm_G} {iv : pm_V}  : pm_at X d 77 (33, [some (.ref 5), some (.int x1), some (.int x2), none], [.ref 5], g, iv) = pm_at X d 77 (38, [some (.ref 5), some (.int x1), some (.int x2), none], [.int 2, .ref 5], g, iv) := by
  refine (at_iconst (v := 2) dc77_33 rfl).trans ?_
  refine (at_goto (t := 38) dc77_34 (by decide)).trans ?_
  rfl
theorem b77_37 {X : pm_X} {d : Nat} {x1 : Int32} {x2 : Int32} {g : pm_G} {iv : pm_V}  : pm_at X d 77 (37, [some (.ref 5), some (.int x1), some (.int x2), none], [.ref 5], g, iv) = pm_at X d 77 (38, [some (.ref 5), some (.int x1), some (.int x2), none], [.int 1, .ref 5], g, iv) := by
  refine (at_iconst (v := 1) dc77_37 rfl).trans ?_
  rfl
theorem b77_38 {X : pm_X} {d : Nat} {x1 : Int32} {x2 : Int32} {s0 : Int32} {g : pm_G} {iv : pm_V} (hL : pm_lay g) : pm_at X d 77 (38, [some (.ref 5), some (.int x1), some (.int x2), none], [.int s0, .ref 5], g, iv) = pm_then X d 77 41 [some (.ref 5), some (.int x1), some (.int x2), none] [] (pm_c X d 80 [.ref 5, .int s0] g iv) := by
  exact at_inv dc77_38 mc77 lm4_45 rfl rfl (Nat.le_of_ble_eq_true rfl) (Or.inl ⟨(ly5 hL), by decide⟩)
theorem b77_41 {X : pm_X} {d : Nat} {x1 : Int32} {x2 : Int32} {s0 : Int32} {g : pm_G} {iv : pm_V}  : pm_at X d 77 (41, [some (.ref 5), some (.int x1), some (.int x2), none], [.int s0], g, iv) = some (some (.int (-1)), g, iv) := by
  refine (at_pop dc77_41 rfl).trans ?_
  refine (at_iconst (v := (-1)) dc77_42 rfl).trans ?_
  exact at_iret dc77_43 mr77
theorem b77_44 {X : pm_X} {d : Nat} {x1 : Int32} {x2 : Int32} {g : pm_G} {iv : pm_V} (hL : pm_lay g) : pm_at X d 77 (44, [some (.ref 5), some (.int x1), some (.int x2), none], [], g, iv) = pm_then X d 77 53 [some (.ref 5), some (.int x1), some (.int x2), some (.int (iv 5 5))] [] (pm_c X d 82 [.ref 5] g iv) := by
  refine (at_aload_n dc77_44 rfl).trans ?_
  refine (at_gfI dc77_45 mc77 lf4_92 fo4_5 (ly5 hL)).trans ?_
  refine (at_istore_n dc77_48 rfl).trans ?_
  refine (at_aload_n dc77_49 rfl).trans ?_
  exact at_inv dc77_50 mc77 lm4_32 rfl rfl (Nat.le_of_ble_eq_true rfl) (Or.inl ⟨(ly5 hL), by decide⟩)
theorem b77_53 {X : pm_X} {d : Nat} {x1 : Int32} {x2 : Int32} {x3 : Int32} {g : pm_G} {iv : pm_V}  : pm_at X d 77 (53, [some (.ref 5), some (.int x1), some (.int x2), some (.int x3)], [], g, iv) = some (some (.int x3), g, iv) := by
  refine (at_iload_n dc77_53 rfl).trans ?_
  exact at_iret dc77_54 mr77
-- Tape.takeKind ()I
theorem dc78_0 : decode (pm_mb 78) 0 = .ok (.aload_n 0, 1) := by decide +kernel
theorem dc78_1 : decode (pm_mb 78) 1 = .ok (.invokevirtual 105, 3) := by decide +kernel
theorem dc78_4 : decode (pm_mb 78) 4 = .ok (.istore_n 1, 1) := by decide +kernel
theorem dc78_5 : decode (pm_mb 78) 5 = .ok (.iload_n 1, 1) := by decide +kernel
theorem dc78_6 : decode (pm_mb 78) 6 = .ok (.iconst (-1), 1) := by decide +kernel
theorem dc78_7 : decode (pm_mb 78) 7 = .ok (.if_icmp .ne 12, 3) := by decide +kernel
theorem dc78_10 : decode (pm_mb 78) 10 = .ok (.aload_n 0, 1) := by decide +kernel
theorem dc78_11 : decode (pm_mb 78) 11 = .ok (.iconst 1, 1) := by decide +kernel
theorem dc78_12 : decode (pm_mb 78) 12 = .ok (.invokevirtual 45, 3) := by decide +kernel
theorem dc78_15 : decode (pm_mb 78) 15 = .ok (.pop, 1) := by decide +kernel
theorem dc78_16 : decode (pm_mb 78) 16 = .ok (.goto 7, 3) := by decide +kernel
theorem dc78_19 : decode (pm_mb 78) 19 = .ok (.aload_n 0, 1) := by decide +kernel
theorem dc78_20 : decode (pm_mb 78) 20 = .ok (.invokevirtual 32, 3) := by decide +kernel
theorem dc78_23 : decode (pm_mb 78) 23 = .ok (.iload_n 1, 1) := by decide +kernel
theorem dc78_24 : decode (pm_mb 78) 24 = .ok (.ireturn, 1) := by decide +kernel
theorem b78_0 {X : pm_X} {d : Nat} {g : pm_G} {iv : pm_V} (hL : pm_lay g) : pm_at X d 78 (0, [some (.ref 5), none], [], g, iv) = pm_then X d 78 4 [some (.ref 5), none] [] (pm_c X d 79 [.ref 5] g iv) := by
  refine (at_aload_n dc78_0 rfl).trans ?_
  exact at_inv dc78_1 mc78 lm4_105 rfl rfl (Nat.le_of_ble_eq_true rfl) (Or.inl ⟨(ly5 hL), by decide⟩)
theorem b78_4 {X : pm_X} {d : Nat} {s0 : Int32} {g : pm_G} {iv : pm_V}  : pm_at X d 78 (4, [some (.ref 5), none], [.int s0], g, iv) = if ¬ s0 = (-1) then pm_at X d 78 (19, [some (.ref 5), some (.int s0)], [], g, iv) else pm_at X d 78 (10, [some (.ref 5), some (.int s0)], [], g, iv) := by
  refine (at_istore_n dc78_4 rfl).trans ?_
  refine (at_iload_n dc78_5 rfl).trans ?_
  refine (at_iconst (v := (-1)) dc78_6 rfl).trans ?_
  exact at_icmp_ne (t := 19) dc78_7 (by decide)
theorem b78_10 {X : pm_X} {d : Nat} {x1 : Int32} {g : pm_G} {iv : pm_V} (hL : pm_lay g) : pm_at X d 78 (10, [some (.ref 5), some (.int x1)], [], g, iv) = pm_then X d 78 15 [some (.ref 5), some (.int x1)] [] (pm_c X d 80 [.ref 5, .int 1] g iv) := by
  refine (at_aload_n dc78_10 rfl).trans ?_
  refine (at_iconst (v := 1) dc78_11 rfl).trans ?_
  exact at_inv dc78_12 mc78 lm4_45 rfl rfl (Nat.le_of_ble_eq_true rfl) (Or.inl ⟨(ly5 hL), by decide⟩)
theorem b78_15 {X : pm_X} {d : Nat} {x1 : Int32} {s0 : Int32} {g : pm_G} {iv : pm_V}  : pm_at X d 78 (15, [some (.ref 5), some (.int x1)], [.int s0], g, iv) = pm_at X d 78 (23, [some (.ref 5), some (.int x1)], [], g, iv) := by
  refine (at_pop dc78_15 rfl).trans ?_
  refine (at_goto (t := 23) dc78_16 (by decide)).trans ?_
  rfl
theorem b78_19 {X : pm_X} {d : Nat} {x1 : Int32} {g : pm_G} {iv : pm_V} (hL : pm_lay g) : pm_at X d 78 (19, [some (.ref 5), some (.int x1)], [], g, iv) = pm_then X d 78 23 [some (.ref 5), some (.int x1)] [] (pm_c X d 82 [.ref 5] g iv) := by
  refine (at_aload_n dc78_19 rfl).trans ?_
  exact at_inv dc78_20 mc78 lm4_32 rfl rfl (Nat.le_of_ble_eq_true rfl) (Or.inl ⟨(ly5 hL), by decide⟩)
theorem b78_23 {X : pm_X} {d : Nat} {x1 : Int32} {g : pm_G} {iv : pm_V}  : pm_at X d 78 (23, [some (.ref 5), some (.int x1)], [], g, iv) = some (some (.int x1), g, iv) := by
  refine (at_iload_n dc78_23 rfl).trans ?_
  exact at_iret dc78_24 mr78
-- Tape.kindByWord ()I
theorem dc79_0 : decode (pm_mb 79) 0 = .ok (.aload_n 0, 1) := by decide +kernel
theorem dc79_1 : decode (pm_mb 79) 1 = .ok (.ldc 108, 2) := by decide +kernel
theorem dc79_3 : decode (pm_mb 79) 3 = .ok (.invokevirtual 41, 3) := by decide +kernel
theorem dc79_6 : decode (pm_mb 79) 6 = .ok (.ifCond .eq 5, 3) := by decide +kernel
theorem dc79_9 : decode (pm_mb 79) 9 = .ok (.iconst 1, 1) := by decide +kernel
theorem dc79_10 : decode (pm_mb 79) 10 = .ok (.ireturn, 1) := by decide +kernel
theorem dc79_11 : decode (pm_mb 79) 11 = .ok (.aload_n 0, 1) := by decide +kernel
theorem dc79_12 : decode (pm_mb 79) 12 = .ok (.ldc 110, 2) := by decide +kernel
theorem dc79_14 : decode (pm_mb 79) 14 = .ok (.invokevirtual 41, 3) := by decide +kernel
theorem dc79_17 : decode (pm_mb 79) 17 = .ok (.ifCond .eq 5, 3) := by decide +kernel
theorem dc79_20 : decode (pm_mb 79) 20 = .ok (.iconst 2, 1) := by decide +kernel
theorem dc79_21 : decode (pm_mb 79) 21 = .ok (.ireturn, 1) := by decide +kernel
theorem dc79_22 : decode (pm_mb 79) 22 = .ok (.aload_n 0, 1) := by decide +kernel
theorem dc79_23 : decode (pm_mb 79) 23 = .ok (.ldc 112, 2) := by decide +kernel
theorem dc79_25 : decode (pm_mb 79) 25 = .ok (.invokevirtual 41, 3) := by decide +kernel
theorem dc79_28 : decode (pm_mb 79) 28 = .ok (.ifCond .eq 5, 3) := by decide +kernel
theorem dc79_31 : decode (pm_mb 79) 31 = .ok (.iconst 3, 1) := by decide +kernel
theorem dc79_32 : decode (pm_mb 79) 32 = .ok (.ireturn, 1) := by decide +kernel
theorem dc79_33 : decode (pm_mb 79) 33 = .ok (.aload_n 0, 1) := by decide +kernel
theorem dc79_34 : decode (pm_mb 79) 34 = .ok (.ldc 114, 2) := by decide +kernel
theorem dc79_36 : decode (pm_mb 79) 36 = .ok (.invokevirtual 41, 3) := by decide +kernel
theorem dc79_39 : decode (pm_mb 79) 39 = .ok (.ifCond .eq 5, 3) := by decide +kernel
theorem dc79_42 : decode (pm_mb 79) 42 = .ok (.iconst 4, 1) := by decide +kernel
theorem dc79_43 : decode (pm_mb 79) 43 = .ok (.ireturn, 1) := by decide +kernel
theorem dc79_44 : decode (pm_mb 79) 44 = .ok (.aload_n 0, 1) := by decide +kernel
theorem dc79_45 : decode (pm_mb 79) 45 = .ok (.ldc 116, 2) := by decide +kernel
theorem dc79_47 : decode (pm_mb 79) 47 = .ok (.invokevirtual 41, 3) := by decide +kernel
theorem dc79_50 : decode (pm_mb 79) 50 = .ok (.ifCond .eq 7, 3) := by decide +kernel
theorem dc79_53 : decode (pm_mb 79) 53 = .ok (.iconst 5, 1) := by decide +kernel
theorem dc79_54 : decode (pm_mb 79) 54 = .ok (.goto 4, 3) := by decide +kernel
theorem dc79_57 : decode (pm_mb 79) 57 = .ok (.iconst (-1), 1) := by decide +kernel
theorem dc79_58 : decode (pm_mb 79) 58 = .ok (.ireturn, 1) := by decide +kernel
theorem b79_0 {X : pm_X} {d : Nat} {g : pm_G} {iv : pm_V} (hL : pm_lay g) : pm_at X d 79 (0, [some (.ref 5)], [], g, iv) = pm_then X d 79 6 [some (.ref 5)] [] (pm_c X d 81 [.ref 5, .ref 1003] g iv) := by
  refine (at_aload_n dc79_0 rfl).trans ?_
  refine (at_ldcS dc79_1 mc79 lkn4_108 lt4_108).trans ?_
  exact at_inv dc79_3 mc79 lm4_41 rfl rfl (Nat.le_of_ble_eq_true rfl) (Or.inl ⟨(ly5 hL), by decide⟩)
theorem b79_6 {X : pm_X} {d : Nat} {s0 : Int32} {g : pm_G} {iv : pm_V}  : pm_at X d 79 (6, [some (.ref 5)], [.int s0], g, iv) = if s0 = 0 then pm_at X d 79 (11, [some (.ref 5)], [], g, iv) else pm_at X d 79 (9, [some (.ref 5)], [], g, iv) := by
  exact at_if_eq (t := 11) dc79_6 (by decide)
theorem b79_9 {X : pm_X} {d : Nat} {g : pm_G} {iv : pm_V}  : pm_at X d 79 (9, [some (.ref 5)], [], g, iv) = some (some (.int 1), g, iv) := by
  refine (at_iconst (v := 1) dc79_9 rfl).trans ?_
  exact at_iret dc79_10 mr79
theorem b79_11 {X : pm_X} {d : Nat} {g : pm_G} {iv : pm_V} (hL : pm_lay g) : pm_at X d 79 (11, [some (.ref 5)], [], g, iv) = pm_then X d 79 17 [some (.ref 5)] [] (pm_c X d 81 [.ref 5, .ref 1004] g iv) := by
  refine (at_aload_n dc79_11 rfl).trans ?_
  refine (at_ldcS dc79_12 mc79 lkn4_110 lt4_110).trans ?_
  exact at_inv dc79_14 mc79 lm4_41 rfl rfl (Nat.le_of_ble_eq_true rfl) (Or.inl ⟨(ly5 hL), by decide⟩)
theorem b79_17 {X : pm_X} {d : Nat} {s0 : Int32} {g : pm_G} {iv : pm_V}  : pm_at X d 79 (17, [some (.ref 5)], [.int s0], g, iv) = if s0 = 0 then pm_at X d 79 (22, [some (.ref 5)], [], g, iv) else pm_at X d 79 (20, [some (.ref 5)], [], g, iv) := by
  exact at_if_eq (t := 22) dc79_17 (by decide)
theorem b79_20 {X : pm_X} {d : Nat} {g : pm_G} {iv : pm_V}  : pm_at X d 79 (20, [some (.ref 5)], [], g, iv) = some (some (.int 2), g, iv) := by
  refine (at_iconst (v := 2) dc79_20 rfl).trans ?_
  exact at_iret dc79_21 mr79
theorem b79_22 {X : pm_X} {d : Nat} {g : pm_G} {iv : pm_V} (hL : pm_lay g) : pm_at X d 79 (22, [some (.ref 5)], [], g, iv) = pm_then X d 79 28 [some (.ref 5)] [] (pm_c X d 81 [.ref 5, .ref 1005] g iv) := by
  refine (at_aload_n dc79_22 rfl).trans ?_
  refine (at_ldcS dc79_23 mc79 lkn4_112 lt4_112).trans ?_
  exact at_inv dc79_25 mc79 lm4_41 rfl rfl (Nat.le_of_ble_eq_true rfl) (Or.inl ⟨(ly5 hL), by decide⟩)
theorem b79_28 {X : pm_X} {d : Nat} {s0 : Int32} {g : pm_G} {iv : pm_V}  : pm_at X d 79 (28, [some (.ref 5)], [.int s0], g, iv) = if s0 = 0 then pm_at X d 79 (33, [some (.ref 5)], [], g, iv) else pm_at X d 79 (31, [some (.ref 5)], [], g, iv) := by
  exact at_if_eq (t := 33) dc79_28 (by decide)
theorem b79_31 {X : pm_X} {d : Nat} {g : pm_G} {iv : pm_V}  : pm_at X d 79 (31, [some (.ref 5)], [], g, iv) = some (some (.int 3), g, iv) := by
  refine (at_iconst (v := 3) dc79_31 rfl).trans ?_
  exact at_iret dc79_32 mr79
theorem b79_33 {X : pm_X} {d : Nat} {g : pm_G} {iv : pm_V} (hL : pm_lay g) : pm_at X d 79 (33, [some (.ref 5)], [], g, iv) = pm_then X d 79 39 [some (.ref 5)] [] (pm_c X d 81 [.ref 5, .ref 1006] g iv) := by
  refine (at_aload_n dc79_33 rfl).trans ?_
  refine (at_ldcS dc79_34 mc79 lkn4_114 lt4_114).trans ?_
  exact at_inv dc79_36 mc79 lm4_41 rfl rfl (Nat.le_of_ble_eq_true rfl) (Or.inl ⟨(ly5 hL), by decide⟩)
theorem b79_39 {X : pm_X} {d : Nat} {s0 : Int32} {g : pm_G} {iv : pm_V}  : pm_at X d 79 (39, [some (.ref 5)], [.int s0], g, iv) = if s0 = 0 then pm_at X d 79 (44, [some (.ref 5)], [], g, iv) else pm_at X d 79 (42, [some (.ref 5)], [], g, iv) := by
  exact at_if_eq (t := 44) dc79_39 (by decide)
theorem b79_42 {X : pm_X} {d : Nat} {g : pm_G} {iv : pm_V}  : pm_at X d 79 (42, [some (.ref 5)], [], g, iv) = some (some (.int 4), g, iv) := by
  refine (at_iconst (v := 4) dc79_42 rfl).trans ?_
  exact at_iret dc79_43 mr79
theorem b79_44 {X : pm_X} {d : Nat} {g : pm_G} {iv : pm_V} (hL : pm_lay g) : pm_at X d 79 (44, [some (.ref 5)], [], g, iv) = pm_then X d 79 50 [some (.ref 5)] [] (pm_c X d 81 [.ref 5, .ref 1007] g iv) := by
  refine (at_aload_n dc79_44 rfl).trans ?_
  refine (at_ldcS dc79_45 mc79 lkn4_116 lt4_116).trans ?_
  exact at_inv dc79_47 mc79 lm4_41 rfl rfl (Nat.le_of_ble_eq_true rfl) (Or.inl ⟨(ly5 hL), by decide⟩)
theorem b79_50 {X : pm_X} {d : Nat} {s0 : Int32} {g : pm_G} {iv : pm_V}  : pm_at X d 79 (50, [some (.ref 5)], [.int s0], g, iv) = if s0 = 0 then pm_at X d 79 (57, [some (.ref 5)], [], g, iv) else pm_at X d 79 (53, [some (.ref 5)], [], g, iv) := by
  exact at_if_eq (t := 57) dc79_50 (by decide)
theorem b79_53 {X : pm_X} {d : Nat} {g : pm_G} {iv : pm_V}  : pm_at X d 79 (53, [some (.ref 5)], [], g, iv) = pm_at X d 79 (58, [some (.ref 5)], [.int 5], g, iv) := by
  refine (at_iconst (v := 5) dc79_53 rfl).trans ?_
  refine (at_goto (t := 58) dc79_54 (by decide)).trans ?_
  rfl
theorem b79_57 {X : pm_X} {d : Nat} {g : pm_G} {iv : pm_V}  : pm_at X d 79 (57, [some (.ref 5)], [], g, iv) = pm_at X d 79 (58, [some (.ref 5)], [.int (-1)], g, iv) := by
  refine (at_iconst (v := (-1)) dc79_57 rfl).trans ?_
  rfl
theorem b79_58 {X : pm_X} {d : Nat} {s0 : Int32} {g : pm_G} {iv : pm_V}  : pm_at X d 79 (58, [some (.ref 5)], [.int s0], g, iv) = some (some (.int s0), g, iv) := by
  exact at_iret dc79_58 mr79
-- Tape.fail (I)Z
theorem dc80_0 : decode (pm_mb 80) 0 = .ok (.aload_n 0, 1) := by decide +kernel
theorem dc80_1 : decode (pm_mb 80) 1 = .ok (.iload_n 1, 1) := by decide +kernel
theorem dc80_2 : decode (pm_mb 80) 2 = .ok (.putfield 19, 3) := by decide +kernel
theorem dc80_5 : decode (pm_mb 80) 5 = .ok (.aload_n 0, 1) := by decide +kernel
theorem dc80_6 : decode (pm_mb 80) 6 = .ok (.aload_n 0, 1) := by decide +kernel
theorem dc80_7 : decode (pm_mb 80) 7 = .ok (.getfield 118, 3) := by decide +kernel
theorem dc80_10 : decode (pm_mb 80) 10 = .ok (.putfield 22, 3) := by decide +kernel
theorem dc80_13 : decode (pm_mb 80) 13 = .ok (.iconst 0, 1) := by decide +kernel
theorem dc80_14 : decode (pm_mb 80) 14 = .ok (.ireturn, 1) := by decide +kernel
theorem b80_0 {X : pm_X} {d : Nat} {x1 : Int32} {g : pm_G} {iv : pm_V} (hL : pm_lay g) : pm_at X d 80 (0, [some (.ref 5), some (.int x1)], [], g, iv) = some (some (.int 0), g, (pm_iw (pm_iw iv 5 6 x1) 5 7 (((pm_iw iv 5 6 x1) 5 3)))) := by
  refine (at_aload_n dc80_0 rfl).trans ?_
  refine (at_iload_n dc80_1 rfl).trans ?_
  refine (at_pfI dc80_2 mc80 lf4_19 po4_6 (ly5 hL)).trans ?_
  refine (at_aload_n dc80_5 rfl).trans ?_
  refine (at_aload_n dc80_6 rfl).trans ?_
  refine (at_gfI dc80_7 mc80 lf4_118 fo4_3 (ly5 hL)).trans ?_
  refine (at_pfI dc80_10 mc80 lf4_22 po4_7 (ly5 hL)).trans ?_
  refine (at_iconst (v := 0) dc80_13 rfl).trans ?_
  exact at_zret dc80_14 mr80 (by decide)
-- Tape.isWord (Ljava/lang/String;)Z
theorem dc81_0 : decode (pm_mb 81) 0 = .ok (.aload_n 0, 1) := by decide +kernel
theorem dc81_1 : decode (pm_mb 81) 1 = .ok (.getfield 57, 3) := by decide +kernel
theorem dc81_4 : decode (pm_mb 81) 4 = .ok (.iconst 1, 1) := by decide +kernel
theorem dc81_5 : decode (pm_mb 81) 5 = .ok (.if_icmp .ne 19, 3) := by decide +kernel
theorem dc81_8 : decode (pm_mb 81) 8 = .ok (.aload_n 0, 1) := by decide +kernel
theorem dc81_9 : decode (pm_mb 81) 9 = .ok (.getfield 29, 3) := by decide +kernel
theorem dc81_12 : decode (pm_mb 81) 12 = .ok (.aload_n 0, 1) := by decide +kernel
theorem dc81_13 : decode (pm_mb 81) 13 = .ok (.getfield 118, 3) := by decide +kernel
theorem dc81_16 : decode (pm_mb 81) 16 = .ok (.isub, 1) := by decide +kernel
theorem dc81_17 : decode (pm_mb 81) 17 = .ok (.aload_n 1, 1) := by decide +kernel
theorem dc81_18 : decode (pm_mb 81) 18 = .ok (.invokevirtual 121, 3) := by decide +kernel
theorem dc81_21 : decode (pm_mb 81) 21 = .ok (.if_icmp .eq 5, 3) := by decide +kernel
theorem dc81_24 : decode (pm_mb 81) 24 = .ok (.iconst 0, 1) := by decide +kernel
theorem dc81_25 : decode (pm_mb 81) 25 = .ok (.ireturn, 1) := by decide +kernel
theorem dc81_26 : decode (pm_mb 81) 26 = .ok (.iconst 0, 1) := by decide +kernel
theorem dc81_27 : decode (pm_mb 81) 27 = .ok (.istore_n 2, 1) := by decide +kernel
theorem dc81_28 : decode (pm_mb 81) 28 = .ok (.iload_n 2, 1) := by decide +kernel
theorem dc81_29 : decode (pm_mb 81) 29 = .ok (.aload_n 1, 1) := by decide +kernel
theorem dc81_30 : decode (pm_mb 81) 30 = .ok (.invokevirtual 121, 3) := by decide +kernel
theorem dc81_33 : decode (pm_mb 81) 33 = .ok (.if_icmp .ge 29, 3) := by decide +kernel
theorem dc81_36 : decode (pm_mb 81) 36 = .ok (.aload_n 0, 1) := by decide +kernel
theorem dc81_37 : decode (pm_mb 81) 37 = .ok (.aload_n 0, 1) := by decide +kernel
theorem dc81_38 : decode (pm_mb 81) 38 = .ok (.getfield 118, 3) := by decide +kernel
theorem dc81_41 : decode (pm_mb 81) 41 = .ok (.iload_n 2, 1) := by decide +kernel
theorem dc81_42 : decode (pm_mb 81) 42 = .ok (.iadd, 1) := by decide +kernel
theorem dc81_43 : decode (pm_mb 81) 43 = .ok (.invokevirtual 126, 3) := by decide +kernel
theorem dc81_46 : decode (pm_mb 81) 46 = .ok (.aload_n 1, 1) := by decide +kernel
theorem dc81_47 : decode (pm_mb 81) 47 = .ok (.iload_n 2, 1) := by decide +kernel
theorem dc81_48 : decode (pm_mb 81) 48 = .ok (.invokevirtual 130, 3) := by decide +kernel
theorem dc81_51 : decode (pm_mb 81) 51 = .ok (.if_icmp .eq 5, 3) := by decide +kernel
theorem dc81_54 : decode (pm_mb 81) 54 = .ok (.iconst 0, 1) := by decide +kernel
theorem dc81_55 : decode (pm_mb 81) 55 = .ok (.ireturn, 1) := by decide +kernel
theorem dc81_56 : decode (pm_mb 81) 56 = .ok (.iinc 2 1, 3) := by decide +kernel
theorem dc81_59 : decode (pm_mb 81) 59 = .ok (.goto (-31), 3) := by decide +kernel
theorem dc81_62 : decode (pm_mb 81) 62 = .ok (.iconst 1, 1) := by decide +kernel
theorem dc81_63 : decode (pm_mb 81) 63 = .ok (.ireturn, 1) := by decide +kernel
theorem b81_0 {X : pm_X} {d : Nat} {a : Nat} {g : pm_G} {iv : pm_V} (hL : pm_lay g) : pm_at X d 81 (0, [some (.ref 5), some (.ref a), none], [], g, iv) = if ¬ (iv 5 2) = 1 then pm_at X d 81 (24, [some (.ref 5), some (.ref a), none], [], g, iv) else pm_at X d 81 (8, [some (.ref 5), some (.ref a), none], [], g, iv) := by
  refine (at_aload_n dc81_0 rfl).trans ?_
  refine (at_gfI dc81_1 mc81 lf4_57 fo4_2 (ly5 hL)).trans ?_
  refine (at_iconst (v := 1) dc81_4 rfl).trans ?_
  exact at_icmp_ne (t := 24) dc81_5 (by decide)
theorem b81_8 {X : pm_X} {d : Nat} {a : Nat} {g : pm_G} {iv : pm_V} (hL : pm_lay g) (hT : 1000 ≤ a ∧ a < 1008) : pm_at X d 81 (8, [some (.ref 5), some (.ref a), none], [], g, iv) = pm_then X d 81 21 [some (.ref 5), some (.ref a), none] [.int ((iv 5 4) - (iv 5 3))] (pm_c X d 203 [.ref a] g iv) := by
  refine (at_aload_n dc81_8 rfl).trans ?_
  refine (at_gfI dc81_9 mc81 lf4_29 fo4_4 (ly5 hL)).trans ?_
  refine (at_aload_n dc81_12 rfl).trans ?_
  refine (at_gfI dc81_13 mc81 lf4_118 fo4_3 (ly5 hL)).trans ?_
  refine (at_isub dc81_16).trans ?_
  refine (at_aload_n dc81_17 rfl).trans ?_
  exact at_inv dc81_18 mc81 lm4_121 rfl rfl (Nat.le_of_ble_eq_true rfl) (Or.inr ⟨rfl, hT⟩)
theorem b81_21 {X : pm_X} {d : Nat} {s0 : Int32} {s1 : Int32} {a : Nat} {g : pm_G} {iv : pm_V}  : pm_at X d 81 (21, [some (.ref 5), some (.ref a), none], [.int s0, .int s1], g, iv) = if s1 = s0 then pm_at X d 81 (26, [some (.ref 5), some (.ref a), none], [], g, iv) else pm_at X d 81 (24, [some (.ref 5), some (.ref a), none], [], g, iv) := by
  exact at_icmp_eq (t := 26) dc81_21 (by decide)
theorem b81_24 {X : pm_X} {d : Nat} {a : Nat} {g : pm_G} {iv : pm_V}  : pm_at X d 81 (24, [some (.ref 5), some (.ref a), none], [], g, iv) = some (some (.int 0), g, iv) := by
  refine (at_iconst (v := 0) dc81_24 rfl).trans ?_
  exact at_zret dc81_25 mr81 (by decide)
theorem b81_26 {X : pm_X} {d : Nat} {a : Nat} {g : pm_G} {iv : pm_V}  : pm_at X d 81 (26, [some (.ref 5), some (.ref a), none], [], g, iv) = pm_at X d 81 (28, [some (.ref 5), some (.ref a), some (.int 0)], [], g, iv) := by
  refine (at_iconst (v := 0) dc81_26 rfl).trans ?_
  refine (at_istore_n dc81_27 rfl).trans ?_
  rfl
theorem b81_28 {X : pm_X} {d : Nat} {x2 : Int32} {a : Nat} {g : pm_G} {iv : pm_V} (hT : 1000 ≤ a ∧ a < 1008) : pm_at X d 81 (28, [some (.ref 5), some (.ref a), some (.int x2)], [], g, iv) = pm_then X d 81 33 [some (.ref 5), some (.ref a), some (.int x2)] [.int x2] (pm_c X d 203 [.ref a] g iv) := by
  refine (at_iload_n dc81_28 rfl).trans ?_
  refine (at_aload_n dc81_29 rfl).trans ?_
  exact at_inv dc81_30 mc81 lm4_121 rfl rfl (Nat.le_of_ble_eq_true rfl) (Or.inr ⟨rfl, hT⟩)
theorem b81_33 {X : pm_X} {d : Nat} {x2 : Int32} {s0 : Int32} {s1 : Int32} {a : Nat} {g : pm_G} {iv : pm_V}  : pm_at X d 81 (33, [some (.ref 5), some (.ref a), some (.int x2)], [.int s0, .int s1], g, iv) = if s0 ≤ s1 then pm_at X d 81 (62, [some (.ref 5), some (.ref a), some (.int x2)], [], g, iv) else pm_at X d 81 (36, [some (.ref 5), some (.ref a), some (.int x2)], [], g, iv) := by
  exact at_icmp_ge (t := 62) dc81_33 (by decide)
theorem b81_36 {X : pm_X} {d : Nat} {x2 : Int32} {a : Nat} {g : pm_G} {iv : pm_V} (hL : pm_lay g) : pm_at X d 81 (36, [some (.ref 5), some (.ref a), some (.int x2)], [], g, iv) = pm_then X d 81 46 [some (.ref 5), some (.ref a), some (.int x2)] [] (pm_c X d 85 [.ref 5, .int ((iv 5 3) + x2)] g iv) := by
  refine (at_aload_n dc81_36 rfl).trans ?_
  refine (at_aload_n dc81_37 rfl).trans ?_
  refine (at_gfI dc81_38 mc81 lf4_118 fo4_3 (ly5 hL)).trans ?_
  refine (at_iload_n dc81_41 rfl).trans ?_
  refine (at_iadd dc81_42).trans ?_
  exact at_inv dc81_43 mc81 lm4_126 rfl rfl (Nat.le_of_ble_eq_true rfl) (Or.inl ⟨(ly5 hL), by decide⟩)
theorem b81_46 {X : pm_X} {d : Nat} {x2 : Int32} {s0 : Int32} {a : Nat} {g : pm_G} {iv : pm_V} (hT : 1000 ≤ a ∧ a < 1008) : pm_at X d 81 (46, [some (.ref 5), some (.ref a), some (.int x2)], [.int s0], g, iv) = pm_then X d 81 51 [some (.ref 5), some (.ref a), some (.int x2)] [.int s0] (pm_c X d 204 [.ref a, .int x2] g iv) := by
  refine (at_aload_n dc81_46 rfl).trans ?_
  refine (at_iload_n dc81_47 rfl).trans ?_
  exact at_inv dc81_48 mc81 lm4_130 rfl rfl (Nat.le_of_ble_eq_true rfl) (Or.inr ⟨rfl, hT⟩)
theorem b81_51 {X : pm_X} {d : Nat} {x2 : Int32} {s0 : Int32} {s1 : Int32} {a : Nat} {g : pm_G} {iv : pm_V}  : pm_at X d 81 (51, [some (.ref 5), some (.ref a), some (.int x2)], [.int s0, .int s1], g, iv) = if s1 = s0 then pm_at X d 81 (56, [some (.ref 5), some (.ref a), some (.int x2)], [], g, iv) else pm_at X d 81 (54, [some (.ref 5), some (.ref a), some (.int x2)], [], g, iv) := by
  exact at_icmp_eq (t := 56) dc81_51 (by decide)
theorem b81_54 {X : pm_X} {d : Nat} {x2 : Int32} {a : Nat} {g : pm_G} {iv : pm_V}  : pm_at X d 81 (54, [some (.ref 5), some (.ref a), some (.int x2)], [], g, iv) = some (some (.int 0), g, iv) := by
  refine (at_iconst (v := 0) dc81_54 rfl).trans ?_
  exact at_zret dc81_55 mr81 (by decide)
theorem b81_56 {X : pm_X} {d : Nat} {x2 : Int32} {a : Nat} {g : pm_G} {iv : pm_V}  : pm_at X d 81 (56, [some (.ref 5), some (.ref a), some (.int x2)], [], g, iv) = pm_at X d 81 (28, [some (.ref 5), some (.ref a), some (.int (x2 + 1))], [], g, iv) := by
  refine (at_iinc (v := 1) dc81_56 rfl (by decide) rfl).trans ?_
  refine (at_goto (t := 28) dc81_59 (by decide)).trans ?_
  rfl
theorem b81_62 {X : pm_X} {d : Nat} {x2 : Int32} {a : Nat} {g : pm_G} {iv : pm_V}  : pm_at X d 81 (62, [some (.ref 5), some (.ref a), some (.int x2)], [], g, iv) = some (some (.int 1), g, iv) := by
  refine (at_iconst (v := 1) dc81_62 rfl).trans ?_
  exact at_zret dc81_63 mr81 (by decide)
-- Tape.step ()V
theorem dc82_0 : decode (pm_mb 82) 0 = .ok (.aload_n 0, 1) := by decide +kernel
theorem dc82_1 : decode (pm_mb 82) 1 = .ok (.aload_n 0, 1) := by decide +kernel
theorem dc82_2 : decode (pm_mb 82) 2 = .ok (.getfield 29, 3) := by decide +kernel
theorem dc82_5 : decode (pm_mb 82) 5 = .ok (.putfield 118, 3) := by decide +kernel
theorem dc82_8 : decode (pm_mb 82) 8 = .ok (.aload_n 0, 1) := by decide +kernel
theorem dc82_9 : decode (pm_mb 82) 9 = .ok (.getfield 118, 3) := by decide +kernel
theorem dc82_12 : decode (pm_mb 82) 12 = .ok (.aload_n 0, 1) := by decide +kernel
theorem dc82_13 : decode (pm_mb 82) 13 = .ok (.getfield 15, 3) := by decide +kernel
theorem dc82_16 : decode (pm_mb 82) 16 = .ok (.if_icmp .ge 30, 3) := by decide +kernel
theorem dc82_19 : decode (pm_mb 82) 19 = .ok (.aload_n 0, 1) := by decide +kernel
theorem dc82_20 : decode (pm_mb 82) 20 = .ok (.aload_n 0, 1) := by decide +kernel
theorem dc82_21 : decode (pm_mb 82) 21 = .ok (.getfield 118, 3) := by decide +kernel
theorem dc82_24 : decode (pm_mb 82) 24 = .ok (.invokevirtual 126, 3) := by decide +kernel
theorem dc82_27 : decode (pm_mb 82) 27 = .ok (.invokestatic 134, 3) := by decide +kernel
theorem dc82_30 : decode (pm_mb 82) 30 = .ok (.ifCond .eq 16, 3) := by decide +kernel
theorem dc82_33 : decode (pm_mb 82) 33 = .ok (.aload_n 0, 1) := by decide +kernel
theorem dc82_34 : decode (pm_mb 82) 34 = .ok (.dup, 1) := by decide +kernel
theorem dc82_35 : decode (pm_mb 82) 35 = .ok (.getfield 118, 3) := by decide +kernel
theorem dc82_38 : decode (pm_mb 82) 38 = .ok (.iconst 1, 1) := by decide +kernel
theorem dc82_39 : decode (pm_mb 82) 39 = .ok (.iadd, 1) := by decide +kernel
theorem dc82_40 : decode (pm_mb 82) 40 = .ok (.putfield 118, 3) := by decide +kernel
theorem dc82_43 : decode (pm_mb 82) 43 = .ok (.goto (-35), 3) := by decide +kernel
theorem dc82_46 : decode (pm_mb 82) 46 = .ok (.aload_n 0, 1) := by decide +kernel
theorem dc82_47 : decode (pm_mb 82) 47 = .ok (.aload_n 0, 1) := by decide +kernel
theorem dc82_48 : decode (pm_mb 82) 48 = .ok (.getfield 118, 3) := by decide +kernel
theorem dc82_51 : decode (pm_mb 82) 51 = .ok (.putfield 29, 3) := by decide +kernel
theorem dc82_54 : decode (pm_mb 82) 54 = .ok (.aload_n 0, 1) := by decide +kernel
theorem dc82_55 : decode (pm_mb 82) 55 = .ok (.getfield 118, 3) := by decide +kernel
theorem dc82_58 : decode (pm_mb 82) 58 = .ok (.aload_n 0, 1) := by decide +kernel
theorem dc82_59 : decode (pm_mb 82) 59 = .ok (.getfield 15, 3) := by decide +kernel
theorem dc82_62 : decode (pm_mb 82) 62 = .ok (.if_icmp .lt 11, 3) := by decide +kernel
theorem dc82_65 : decode (pm_mb 82) 65 = .ok (.aload_n 0, 1) := by decide +kernel
theorem dc82_66 : decode (pm_mb 82) 66 = .ok (.iconst 0, 1) := by decide +kernel
theorem dc82_67 : decode (pm_mb 82) 67 = .ok (.putfield 57, 3) := by decide +kernel
theorem dc82_70 : decode (pm_mb 82) 70 = .ok (.goto 77, 3) := by decide +kernel
theorem dc82_73 : decode (pm_mb 82) 73 = .ok (.aload_n 0, 1) := by decide +kernel
theorem dc82_74 : decode (pm_mb 82) 74 = .ok (.aload_n 0, 1) := by decide +kernel
theorem dc82_75 : decode (pm_mb 82) 75 = .ok (.getfield 118, 3) := by decide +kernel
theorem dc82_78 : decode (pm_mb 82) 78 = .ok (.invokevirtual 126, 3) := by decide +kernel
theorem dc82_81 : decode (pm_mb 82) 81 = .ok (.invokestatic 137, 3) := by decide +kernel
theorem dc82_84 : decode (pm_mb 82) 84 = .ok (.ifCond .eq 10, 3) := by decide +kernel
theorem dc82_87 : decode (pm_mb 82) 87 = .ok (.aload_n 0, 1) := by decide +kernel
theorem dc82_88 : decode (pm_mb 82) 88 = .ok (.invokevirtual 140, 3) := by decide +kernel
theorem dc82_91 : decode (pm_mb 82) 91 = .ok (.goto 56, 3) := by decide +kernel
theorem dc82_94 : decode (pm_mb 82) 94 = .ok (.aload_n 0, 1) := by decide +kernel
theorem dc82_95 : decode (pm_mb 82) 95 = .ok (.aload_n 0, 1) := by decide +kernel
theorem dc82_96 : decode (pm_mb 82) 96 = .ok (.getfield 118, 3) := by decide +kernel
theorem dc82_99 : decode (pm_mb 82) 99 = .ok (.invokevirtual 126, 3) := by decide +kernel
theorem dc82_102 : decode (pm_mb 82) 102 = .ok (.invokestatic 143, 3) := by decide +kernel
theorem dc82_105 : decode (pm_mb 82) 105 = .ok (.ifCond .eq 10, 3) := by decide +kernel
theorem dc82_108 : decode (pm_mb 82) 108 = .ok (.aload_n 0, 1) := by decide +kernel
theorem dc82_109 : decode (pm_mb 82) 109 = .ok (.invokevirtual 146, 3) := by decide +kernel
theorem dc82_112 : decode (pm_mb 82) 112 = .ok (.goto 35, 3) := by decide +kernel
theorem dc82_115 : decode (pm_mb 82) 115 = .ok (.aload_n 0, 1) := by decide +kernel
theorem dc82_116 : decode (pm_mb 82) 116 = .ok (.aload_n 0, 1) := by decide +kernel
theorem dc82_117 : decode (pm_mb 82) 117 = .ok (.aload_n 0, 1) := by decide +kernel
theorem dc82_118 : decode (pm_mb 82) 118 = .ok (.getfield 118, 3) := by decide +kernel
theorem dc82_121 : decode (pm_mb 82) 121 = .ok (.invokevirtual 126, 3) := by decide +kernel
theorem dc82_124 : decode (pm_mb 82) 124 = .ok (.bipush 59, 2) := by decide +kernel
theorem dc82_126 : decode (pm_mb 82) 126 = .ok (.if_icmp .ne 7, 3) := by decide +kernel
theorem dc82_129 : decode (pm_mb 82) 129 = .ok (.iconst 3, 1) := by decide +kernel
theorem dc82_130 : decode (pm_mb 82) 130 = .ok (.goto 4, 3) := by decide +kernel
theorem dc82_133 : decode (pm_mb 82) 133 = .ok (.iconst 4, 1) := by decide +kernel
theorem dc82_134 : decode (pm_mb 82) 134 = .ok (.putfield 57, 3) := by decide +kernel
theorem dc82_137 : decode (pm_mb 82) 137 = .ok (.aload_n 0, 1) := by decide +kernel
theorem dc82_138 : decode (pm_mb 82) 138 = .ok (.aload_n 0, 1) := by decide +kernel
theorem dc82_139 : decode (pm_mb 82) 139 = .ok (.getfield 118, 3) := by decide +kernel
theorem dc82_142 : decode (pm_mb 82) 142 = .ok (.iconst 1, 1) := by decide +kernel
theorem dc82_143 : decode (pm_mb 82) 143 = .ok (.iadd, 1) := by decide +kernel
theorem dc82_144 : decode (pm_mb 82) 144 = .ok (.putfield 29, 3) := by decide +kernel
theorem dc82_147 : decode (pm_mb 82) 147 = .ok (.return_, 1) := by decide +kernel
theorem b82_0 {X : pm_X} {d : Nat} {g : pm_G} {iv : pm_V} (hL : pm_lay g) : pm_at X d 82 (0, [some (.ref 5)], [], g, iv) = pm_at X d 82 (8, [some (.ref 5)], [], g, (pm_iw iv 5 3 ((iv 5 4)))) := by
  refine (at_aload_n dc82_0 rfl).trans ?_
  refine (at_aload_n dc82_1 rfl).trans ?_
  refine (at_gfI dc82_2 mc82 lf4_29 fo4_4 (ly5 hL)).trans ?_
  refine (at_pfI dc82_5 mc82 lf4_118 po4_3 (ly5 hL)).trans ?_
  rfl
theorem b82_8 {X : pm_X} {d : Nat} {g : pm_G} {iv : pm_V} (hL : pm_lay g) : pm_at X d 82 (8, [some (.ref 5)], [], g, iv) = if (iv 5 1) ≤ (iv 5 3) then pm_at X d 82 (46, [some (.ref 5)], [], g, iv) else pm_at X d 82 (19, [some (.ref 5)], [], g, iv) := by
  refine (at_aload_n dc82_8 rfl).trans ?_
  refine (at_gfI dc82_9 mc82 lf4_118 fo4_3 (ly5 hL)).trans ?_
  refine (at_aload_n dc82_12 rfl).trans ?_
  refine (at_gfI dc82_13 mc82 lf4_15 fo4_1 (ly5 hL)).trans ?_
  exact at_icmp_ge (t := 46) dc82_16 (by decide)
theorem b82_19 {X : pm_X} {d : Nat} {g : pm_G} {iv : pm_V} (hL : pm_lay g) : pm_at X d 82 (19, [some (.ref 5)], [], g, iv) = pm_then X d 82 27 [some (.ref 5)] [] (pm_c X d 85 [.ref 5, .int (iv 5 3)] g iv) := by
  refine (at_aload_n dc82_19 rfl).trans ?_
  refine (at_aload_n dc82_20 rfl).trans ?_
  refine (at_gfI dc82_21 mc82 lf4_118 fo4_3 (ly5 hL)).trans ?_
  exact at_inv dc82_24 mc82 lm4_126 rfl rfl (Nat.le_of_ble_eq_true rfl) (Or.inl ⟨(ly5 hL), by decide⟩)
theorem b82_27 {X : pm_X} {d : Nat} {s0 : Int32} {g : pm_G} {iv : pm_V}  : pm_at X d 82 (27, [some (.ref 5)], [.int s0], g, iv) = pm_then X d 82 30 [some (.ref 5)] [] (pm_c X d 86 [.int s0] g iv) := by
  exact at_ins dc82_27 mc82 lm4_134 (Nat.le_of_ble_eq_true rfl) rfl rfl (Nat.le_of_ble_eq_true rfl)
theorem b82_30 {X : pm_X} {d : Nat} {s0 : Int32} {g : pm_G} {iv : pm_V}  : pm_at X d 82 (30, [some (.ref 5)], [.int s0], g, iv) = if s0 = 0 then pm_at X d 82 (46, [some (.ref 5)], [], g, iv) else pm_at X d 82 (33, [some (.ref 5)], [], g, iv) := by
  exact at_if_eq (t := 46) dc82_30 (by decide)
theorem b82_33 {X : pm_X} {d : Nat} {g : pm_G} {iv : pm_V} (hL : pm_lay g) : pm_at X d 82 (33, [some (.ref 5)], [], g, iv) = pm_at X d 82 (8, [some (.ref 5)], [], g, (pm_iw iv 5 3 (((iv 5 3) + 1)))) := by
  refine (at_aload_n dc82_33 rfl).trans ?_
  refine (at_dup dc82_34 rfl).trans ?_
  refine (at_gfI dc82_35 mc82 lf4_118 fo4_3 (ly5 hL)).trans ?_
  refine (at_iconst (v := 1) dc82_38 rfl).trans ?_
  refine (at_iadd dc82_39).trans ?_
  refine (at_pfI dc82_40 mc82 lf4_118 po4_3 (ly5 hL)).trans ?_
  refine (at_goto (t := 8) dc82_43 (by decide)).trans ?_
  rfl
theorem b82_46 {X : pm_X} {d : Nat} {g : pm_G} {iv : pm_V} (hL : pm_lay g) : pm_at X d 82 (46, [some (.ref 5)], [], g, iv) = if ((pm_iw iv 5 4 ((iv 5 3))) 5 3) < ((pm_iw iv 5 4 ((iv 5 3))) 5 1) then pm_at X d 82 (73, [some (.ref 5)], [], g, (pm_iw iv 5 4 ((iv 5 3)))) else pm_at X d 82 (65, [some (.ref 5)], [], g, (pm_iw iv 5 4 ((iv 5 3)))) := by
  refine (at_aload_n dc82_46 rfl).trans ?_
  refine (at_aload_n dc82_47 rfl).trans ?_
  refine (at_gfI dc82_48 mc82 lf4_118 fo4_3 (ly5 hL)).trans ?_
  refine (at_pfI dc82_51 mc82 lf4_29 po4_4 (ly5 hL)).trans ?_
  refine (at_aload_n dc82_54 rfl).trans ?_
  refine (at_gfI dc82_55 mc82 lf4_118 fo4_3 (ly5 hL)).trans ?_
  refine (at_aload_n dc82_58 rfl).trans ?_
  refine (at_gfI dc82_59 mc82 lf4_15 fo4_1 (ly5 hL)).trans ?_
  exact at_icmp_lt (t := 73) dc82_62 (by decide)
theorem b82_65 {X : pm_X} {d : Nat} {g : pm_G} {iv : pm_V} (hL : pm_lay g) : pm_at X d 82 (65, [some (.ref 5)], [], g, iv) = pm_at X d 82 (147, [some (.ref 5)], [], g, (pm_iw iv 5 2 0)) := by
  refine (at_aload_n dc82_65 rfl).trans ?_
  refine (at_iconst (v := 0) dc82_66 rfl).trans ?_
  refine (at_pfI dc82_67 mc82 lf4_57 po4_2 (ly5 hL)).trans ?_
  refine (at_goto (t := 147) dc82_70 (by decide)).trans ?_
  rfl
theorem b82_73 {X : pm_X} {d : Nat} {g : pm_G} {iv : pm_V} (hL : pm_lay g) : pm_at X d 82 (73, [some (.ref 5)], [], g, iv) = pm_then X d 82 81 [some (.ref 5)] [] (pm_c X d 85 [.ref 5, .int (iv 5 3)] g iv) := by
  refine (at_aload_n dc82_73 rfl).trans ?_
  refine (at_aload_n dc82_74 rfl).trans ?_
  refine (at_gfI dc82_75 mc82 lf4_118 fo4_3 (ly5 hL)).trans ?_
  exact at_inv dc82_78 mc82 lm4_126 rfl rfl (Nat.le_of_ble_eq_true rfl) (Or.inl ⟨(ly5 hL), by decide⟩)
theorem b82_81 {X : pm_X} {d : Nat} {s0 : Int32} {g : pm_G} {iv : pm_V}  : pm_at X d 82 (81, [some (.ref 5)], [.int s0], g, iv) = pm_then X d 82 84 [some (.ref 5)] [] (pm_c X d 87 [.int s0] g iv) := by
  exact at_ins dc82_81 mc82 lm4_137 (Nat.le_of_ble_eq_true rfl) rfl rfl (Nat.le_of_ble_eq_true rfl)
theorem b82_84 {X : pm_X} {d : Nat} {s0 : Int32} {g : pm_G} {iv : pm_V}  : pm_at X d 82 (84, [some (.ref 5)], [.int s0], g, iv) = if s0 = 0 then pm_at X d 82 (94, [some (.ref 5)], [], g, iv) else pm_at X d 82 (87, [some (.ref 5)], [], g, iv) := by
  exact at_if_eq (t := 94) dc82_84 (by decide)
theorem b82_87 {X : pm_X} {d : Nat} {g : pm_G} {iv : pm_V} (hL : pm_lay g) : pm_at X d 82 (87, [some (.ref 5)], [], g, iv) = pm_then X d 82 91 [some (.ref 5)] [] (pm_c X d 83 [.ref 5] g iv) := by
  refine (at_aload_n dc82_87 rfl).trans ?_
  exact at_inv dc82_88 mc82 lm4_140 rfl rfl (Nat.le_of_ble_eq_true rfl) (Or.inl ⟨(ly5 hL), by decide⟩)
theorem b82_91 {X : pm_X} {d : Nat} {g : pm_G} {iv : pm_V}  : pm_at X d 82 (91, [some (.ref 5)], [], g, iv) = pm_at X d 82 (147, [some (.ref 5)], [], g, iv) := by
  refine (at_goto (t := 147) dc82_91 (by decide)).trans ?_
  rfl
theorem b82_94 {X : pm_X} {d : Nat} {g : pm_G} {iv : pm_V} (hL : pm_lay g) : pm_at X d 82 (94, [some (.ref 5)], [], g, iv) = pm_then X d 82 102 [some (.ref 5)] [] (pm_c X d 85 [.ref 5, .int (iv 5 3)] g iv) := by
  refine (at_aload_n dc82_94 rfl).trans ?_
  refine (at_aload_n dc82_95 rfl).trans ?_
  refine (at_gfI dc82_96 mc82 lf4_118 fo4_3 (ly5 hL)).trans ?_
  exact at_inv dc82_99 mc82 lm4_126 rfl rfl (Nat.le_of_ble_eq_true rfl) (Or.inl ⟨(ly5 hL), by decide⟩)
theorem b82_102 {X : pm_X} {d : Nat} {s0 : Int32} {g : pm_G} {iv : pm_V}  : pm_at X d 82 (102, [some (.ref 5)], [.int s0], g, iv) = pm_then X d 82 105 [some (.ref 5)] [] (pm_c X d 88 [.int s0] g iv) := by
  exact at_ins dc82_102 mc82 lm4_143 (Nat.le_of_ble_eq_true rfl) rfl rfl (Nat.le_of_ble_eq_true rfl)
theorem b82_105 {X : pm_X} {d : Nat} {s0 : Int32} {g : pm_G} {iv : pm_V}  : pm_at X d 82 (105, [some (.ref 5)], [.int s0], g, iv) = if s0 = 0 then pm_at X d 82 (115, [some (.ref 5)], [], g, iv) else pm_at X d 82 (108, [some (.ref 5)], [], g, iv) := by
  exact at_if_eq (t := 115) dc82_105 (by decide)
theorem b82_108 {X : pm_X} {d : Nat} {g : pm_G} {iv : pm_V} (hL : pm_lay g) : pm_at X d 82 (108, [some (.ref 5)], [], g, iv) = pm_then X d 82 112 [some (.ref 5)] [] (pm_c X d 84 [.ref 5] g iv) := by
  refine (at_aload_n dc82_108 rfl).trans ?_
  exact at_inv dc82_109 mc82 lm4_146 rfl rfl (Nat.le_of_ble_eq_true rfl) (Or.inl ⟨(ly5 hL), by decide⟩)
theorem b82_112 {X : pm_X} {d : Nat} {g : pm_G} {iv : pm_V}  : pm_at X d 82 (112, [some (.ref 5)], [], g, iv) = pm_at X d 82 (147, [some (.ref 5)], [], g, iv) := by
  refine (at_goto (t := 147) dc82_112 (by decide)).trans ?_
  rfl
theorem b82_115 {X : pm_X} {d : Nat} {g : pm_G} {iv : pm_V} (hL : pm_lay g) : pm_at X d 82 (115, [some (.ref 5)], [], g, iv) = pm_then X d 82 124 [some (.ref 5)] [.ref 5] (pm_c X d 85 [.ref 5, .int (iv 5 3)] g iv) := by
  refine (at_aload_n dc82_115 rfl).trans ?_
  refine (at_aload_n dc82_116 rfl).trans ?_
  refine (at_aload_n dc82_117 rfl).trans ?_
  refine (at_gfI dc82_118 mc82 lf4_118 fo4_3 (ly5 hL)).trans ?_
  exact at_inv dc82_121 mc82 lm4_126 rfl rfl (Nat.le_of_ble_eq_true rfl) (Or.inl ⟨(ly5 hL), by decide⟩)
theorem b82_124 {X : pm_X} {d : Nat} {s0 : Int32} {g : pm_G} {iv : pm_V}  : pm_at X d 82 (124, [some (.ref 5)], [.int s0, .ref 5], g, iv) = if ¬ s0 = 59 then pm_at X d 82 (133, [some (.ref 5)], [.ref 5], g, iv) else pm_at X d 82 (129, [some (.ref 5)], [.ref 5], g, iv) := by
  refine (at_bipush (v := 59) dc82_124 (by decide)).trans ?_
  exact at_icmp_ne (t := 133) dc82_126 (by decide)
theorem b82_129 {X : pm_X} {d : Nat} {g : pm_G} {iv : pm_V}  : pm_at X d 82 (129, [some (.ref 5)], [.ref 5], g, iv) = pm_at X d 82 (134, [some (.ref 5)], [.int 3, .ref 5], g, iv) := by
  refine (at_iconst (v := 3) dc82_129 rfl).trans ?_
  refine (at_goto (t := 134) dc82_130 (by decide)).trans ?_
  rfl
theorem b82_133 {X : pm_X} {d : Nat} {g : pm_G} {iv : pm_V}  : pm_at X d 82 (133, [some (.ref 5)], [.ref 5], g, iv) = pm_at X d 82 (134, [some (.ref 5)], [.int 4, .ref 5], g, iv) := by
  refine (at_iconst (v := 4) dc82_133 rfl).trans ?_
  rfl
theorem b82_134 {X : pm_X} {d : Nat} {s0 : Int32} {g : pm_G} {iv : pm_V} (hL : pm_lay g) : pm_at X d 82 (134, [some (.ref 5)], [.int s0, .ref 5], g, iv) = pm_at X d 82 (147, [some (.ref 5)], [], g, (pm_iw (pm_iw iv 5 2 s0) 5 4 ((((pm_iw iv 5 2 s0) 5 3) + 1)))) := by
  refine (at_pfI dc82_134 mc82 lf4_57 po4_2 (ly5 hL)).trans ?_
  refine (at_aload_n dc82_137 rfl).trans ?_
  refine (at_aload_n dc82_138 rfl).trans ?_
  refine (at_gfI dc82_139 mc82 lf4_118 fo4_3 (ly5 hL)).trans ?_
  refine (at_iconst (v := 1) dc82_142 rfl).trans ?_
  refine (at_iadd dc82_143).trans ?_
  refine (at_pfI dc82_144 mc82 lf4_29 po4_4 (ly5 hL)).trans ?_
  rfl
theorem b82_147 {X : pm_X} {d : Nat} {g : pm_G} {iv : pm_V}  : pm_at X d 82 (147, [some (.ref 5)], [], g, iv) = some (none, g, iv) := by
  exact at_vret dc82_147 mr82
-- Tape.stepOverName ()V
theorem dc83_0 : decode (pm_mb 83) 0 = .ok (.aload_n 0, 1) := by decide +kernel
theorem dc83_1 : decode (pm_mb 83) 1 = .ok (.iconst 1, 1) := by decide +kernel
theorem dc83_2 : decode (pm_mb 83) 2 = .ok (.putfield 57, 3) := by decide +kernel
theorem dc83_5 : decode (pm_mb 83) 5 = .ok (.aload_n 0, 1) := by decide +kernel
theorem dc83_6 : decode (pm_mb 83) 6 = .ok (.getfield 29, 3) := by decide +kernel
theorem dc83_9 : decode (pm_mb 83) 9 = .ok (.aload_n 0, 1) := by decide +kernel
theorem dc83_10 : decode (pm_mb 83) 10 = .ok (.getfield 15, 3) := by decide +kernel
theorem dc83_13 : decode (pm_mb 83) 13 = .ok (.if_icmp .ge 30, 3) := by decide +kernel
theorem dc83_16 : decode (pm_mb 83) 16 = .ok (.aload_n 0, 1) := by decide +kernel
theorem dc83_17 : decode (pm_mb 83) 17 = .ok (.aload_n 0, 1) := by decide +kernel
theorem dc83_18 : decode (pm_mb 83) 18 = .ok (.getfield 29, 3) := by decide +kernel
theorem dc83_21 : decode (pm_mb 83) 21 = .ok (.invokevirtual 126, 3) := by decide +kernel
theorem dc83_24 : decode (pm_mb 83) 24 = .ok (.invokestatic 137, 3) := by decide +kernel
theorem dc83_27 : decode (pm_mb 83) 27 = .ok (.ifCond .eq 16, 3) := by decide +kernel
theorem dc83_30 : decode (pm_mb 83) 30 = .ok (.aload_n 0, 1) := by decide +kernel
theorem dc83_31 : decode (pm_mb 83) 31 = .ok (.dup, 1) := by decide +kernel
theorem dc83_32 : decode (pm_mb 83) 32 = .ok (.getfield 29, 3) := by decide +kernel
theorem dc83_35 : decode (pm_mb 83) 35 = .ok (.iconst 1, 1) := by decide +kernel
theorem dc83_36 : decode (pm_mb 83) 36 = .ok (.iadd, 1) := by decide +kernel
theorem dc83_37 : decode (pm_mb 83) 37 = .ok (.putfield 29, 3) := by decide +kernel
theorem dc83_40 : decode (pm_mb 83) 40 = .ok (.goto (-35), 3) := by decide +kernel
theorem dc83_43 : decode (pm_mb 83) 43 = .ok (.return_, 1) := by decide +kernel
theorem b83_0 {X : pm_X} {d : Nat} {g : pm_G} {iv : pm_V} (hL : pm_lay g) : pm_at X d 83 (0, [some (.ref 5)], [], g, iv) = pm_at X d 83 (5, [some (.ref 5)], [], g, (pm_iw iv 5 2 1)) := by
  refine (at_aload_n dc83_0 rfl).trans ?_
  refine (at_iconst (v := 1) dc83_1 rfl).trans ?_
  refine (at_pfI dc83_2 mc83 lf4_57 po4_2 (ly5 hL)).trans ?_
  rfl
theorem b83_5 {X : pm_X} {d : Nat} {g : pm_G} {iv : pm_V} (hL : pm_lay g) : pm_at X d 83 (5, [some (.ref 5)], [], g, iv) = if (iv 5 1) ≤ (iv 5 4) then pm_at X d 83 (43, [some (.ref 5)], [], g, iv) else pm_at X d 83 (16, [some (.ref 5)], [], g, iv) := by
  refine (at_aload_n dc83_5 rfl).trans ?_
  refine (at_gfI dc83_6 mc83 lf4_29 fo4_4 (ly5 hL)).trans ?_
  refine (at_aload_n dc83_9 rfl).trans ?_
  refine (at_gfI dc83_10 mc83 lf4_15 fo4_1 (ly5 hL)).trans ?_
  exact at_icmp_ge (t := 43) dc83_13 (by decide)
theorem b83_16 {X : pm_X} {d : Nat} {g : pm_G} {iv : pm_V} (hL : pm_lay g) : pm_at X d 83 (16, [some (.ref 5)], [], g, iv) = pm_then X d 83 24 [some (.ref 5)] [] (pm_c X d 85 [.ref 5, .int (iv 5 4)] g iv) := by
  refine (at_aload_n dc83_16 rfl).trans ?_
  refine (at_aload_n dc83_17 rfl).trans ?_
  refine (at_gfI dc83_18 mc83 lf4_29 fo4_4 (ly5 hL)).trans ?_
  exact at_inv dc83_21 mc83 lm4_126 rfl rfl (Nat.le_of_ble_eq_true rfl) (Or.inl ⟨(ly5 hL), by decide⟩)
theorem b83_24 {X : pm_X} {d : Nat} {s0 : Int32} {g : pm_G} {iv : pm_V}  : pm_at X d 83 (24, [some (.ref 5)], [.int s0], g, iv) = pm_then X d 83 27 [some (.ref 5)] [] (pm_c X d 87 [.int s0] g iv) := by
  exact at_ins dc83_24 mc83 lm4_137 (Nat.le_of_ble_eq_true rfl) rfl rfl (Nat.le_of_ble_eq_true rfl)
theorem b83_27 {X : pm_X} {d : Nat} {s0 : Int32} {g : pm_G} {iv : pm_V}  : pm_at X d 83 (27, [some (.ref 5)], [.int s0], g, iv) = if s0 = 0 then pm_at X d 83 (43, [some (.ref 5)], [], g, iv) else pm_at X d 83 (30, [some (.ref 5)], [], g, iv) := by
  exact at_if_eq (t := 43) dc83_27 (by decide)
theorem b83_30 {X : pm_X} {d : Nat} {g : pm_G} {iv : pm_V} (hL : pm_lay g) : pm_at X d 83 (30, [some (.ref 5)], [], g, iv) = pm_at X d 83 (5, [some (.ref 5)], [], g, (pm_iw iv 5 4 (((iv 5 4) + 1)))) := by
  refine (at_aload_n dc83_30 rfl).trans ?_
  refine (at_dup dc83_31 rfl).trans ?_
  refine (at_gfI dc83_32 mc83 lf4_29 fo4_4 (ly5 hL)).trans ?_
  refine (at_iconst (v := 1) dc83_35 rfl).trans ?_
  refine (at_iadd dc83_36).trans ?_
  refine (at_pfI dc83_37 mc83 lf4_29 po4_4 (ly5 hL)).trans ?_
  refine (at_goto (t := 5) dc83_40 (by decide)).trans ?_
  rfl
theorem b83_43 {X : pm_X} {d : Nat} {g : pm_G} {iv : pm_V}  : pm_at X d 83 (43, [some (.ref 5)], [], g, iv) = some (none, g, iv) := by
  exact at_vret dc83_43 mr83
-- Tape.stepOverNumber ()V
theorem dc84_0 : decode (pm_mb 84) 0 = .ok (.aload_n 0, 1) := by decide +kernel
theorem dc84_1 : decode (pm_mb 84) 1 = .ok (.iconst 0, 1) := by decide +kernel
theorem dc84_2 : decode (pm_mb 84) 2 = .ok (.putfield 92, 3) := by decide +kernel
theorem dc84_5 : decode (pm_mb 84) 5 = .ok (.aload_n 0, 1) := by decide +kernel
theorem dc84_6 : decode (pm_mb 84) 6 = .ok (.getfield 29, 3) := by decide +kernel
theorem dc84_9 : decode (pm_mb 84) 9 = .ok (.aload_n 0, 1) := by decide +kernel
theorem dc84_10 : decode (pm_mb 84) 10 = .ok (.getfield 15, 3) := by decide +kernel
theorem dc84_13 : decode (pm_mb 84) 13 = .ok (.if_icmp .ge 66, 3) := by decide +kernel
theorem dc84_16 : decode (pm_mb 84) 16 = .ok (.aload_n 0, 1) := by decide +kernel
theorem dc84_17 : decode (pm_mb 84) 17 = .ok (.aload_n 0, 1) := by decide +kernel
theorem dc84_18 : decode (pm_mb 84) 18 = .ok (.getfield 29, 3) := by decide +kernel
theorem dc84_21 : decode (pm_mb 84) 21 = .ok (.invokevirtual 126, 3) := by decide +kernel
theorem dc84_24 : decode (pm_mb 84) 24 = .ok (.invokestatic 143, 3) := by decide +kernel
theorem dc84_27 : decode (pm_mb 84) 27 = .ok (.ifCond .eq 52, 3) := by decide +kernel
theorem dc84_30 : decode (pm_mb 84) 30 = .ok (.aload_n 0, 1) := by decide +kernel
theorem dc84_31 : decode (pm_mb 84) 31 = .ok (.getfield 29, 3) := by decide +kernel
theorem dc84_34 : decode (pm_mb 84) 34 = .ok (.aload_n 0, 1) := by decide +kernel
theorem dc84_35 : decode (pm_mb 84) 35 = .ok (.getfield 118, 3) := by decide +kernel
theorem dc84_38 : decode (pm_mb 84) 38 = .ok (.isub, 1) := by decide +kernel
theorem dc84_39 : decode (pm_mb 84) 39 = .ok (.iconst 3, 1) := by decide +kernel
theorem dc84_40 : decode (pm_mb 84) 40 = .ok (.if_icmp .ge 26, 3) := by decide +kernel
theorem dc84_43 : decode (pm_mb 84) 43 = .ok (.aload_n 0, 1) := by decide +kernel
theorem dc84_44 : decode (pm_mb 84) 44 = .ok (.aload_n 0, 1) := by decide +kernel
theorem dc84_45 : decode (pm_mb 84) 45 = .ok (.getfield 92, 3) := by decide +kernel
theorem dc84_48 : decode (pm_mb 84) 48 = .ok (.bipush 10, 2) := by decide +kernel
theorem dc84_50 : decode (pm_mb 84) 50 = .ok (.imul, 1) := by decide +kernel
theorem dc84_51 : decode (pm_mb 84) 51 = .ok (.aload_n 0, 1) := by decide +kernel
theorem dc84_52 : decode (pm_mb 84) 52 = .ok (.aload_n 0, 1) := by decide +kernel
theorem dc84_53 : decode (pm_mb 84) 53 = .ok (.getfield 29, 3) := by decide +kernel
theorem dc84_56 : decode (pm_mb 84) 56 = .ok (.invokevirtual 126, 3) := by decide +kernel
theorem dc84_59 : decode (pm_mb 84) 59 = .ok (.iadd, 1) := by decide +kernel
theorem dc84_60 : decode (pm_mb 84) 60 = .ok (.bipush 48, 2) := by decide +kernel
theorem dc84_62 : decode (pm_mb 84) 62 = .ok (.isub, 1) := by decide +kernel
theorem dc84_63 : decode (pm_mb 84) 63 = .ok (.putfield 92, 3) := by decide +kernel
theorem dc84_66 : decode (pm_mb 84) 66 = .ok (.aload_n 0, 1) := by decide +kernel
theorem dc84_67 : decode (pm_mb 84) 67 = .ok (.dup, 1) := by decide +kernel
theorem dc84_68 : decode (pm_mb 84) 68 = .ok (.getfield 29, 3) := by decide +kernel
theorem dc84_71 : decode (pm_mb 84) 71 = .ok (.iconst 1, 1) := by decide +kernel
theorem dc84_72 : decode (pm_mb 84) 72 = .ok (.iadd, 1) := by decide +kernel
theorem dc84_73 : decode (pm_mb 84) 73 = .ok (.putfield 29, 3) := by decide +kernel
theorem dc84_76 : decode (pm_mb 84) 76 = .ok (.goto (-71), 3) := by decide +kernel
theorem dc84_79 : decode (pm_mb 84) 79 = .ok (.aload_n 0, 1) := by decide +kernel
theorem dc84_80 : decode (pm_mb 84) 80 = .ok (.aload_n 0, 1) := by decide +kernel
theorem dc84_81 : decode (pm_mb 84) 81 = .ok (.getfield 29, 3) := by decide +kernel
theorem dc84_84 : decode (pm_mb 84) 84 = .ok (.aload_n 0, 1) := by decide +kernel
theorem dc84_85 : decode (pm_mb 84) 85 = .ok (.getfield 118, 3) := by decide +kernel
theorem dc84_88 : decode (pm_mb 84) 88 = .ok (.isub, 1) := by decide +kernel
theorem dc84_89 : decode (pm_mb 84) 89 = .ok (.iconst 3, 1) := by decide +kernel
theorem dc84_90 : decode (pm_mb 84) 90 = .ok (.if_icmp .le 7, 3) := by decide +kernel
theorem dc84_93 : decode (pm_mb 84) 93 = .ok (.iconst 4, 1) := by decide +kernel
theorem dc84_94 : decode (pm_mb 84) 94 = .ok (.goto 4, 3) := by decide +kernel
theorem dc84_97 : decode (pm_mb 84) 97 = .ok (.iconst 2, 1) := by decide +kernel
theorem dc84_98 : decode (pm_mb 84) 98 = .ok (.putfield 57, 3) := by decide +kernel
theorem dc84_101 : decode (pm_mb 84) 101 = .ok (.return_, 1) := by decide +kernel
theorem b84_0 {X : pm_X} {d : Nat} {g : pm_G} {iv : pm_V} (hL : pm_lay g) : pm_at X d 84 (0, [some (.ref 5)], [], g, iv) = pm_at X d 84 (5, [some (.ref 5)], [], g, (pm_iw iv 5 5 0)) := by
  refine (at_aload_n dc84_0 rfl).trans ?_
  refine (at_iconst (v := 0) dc84_1 rfl).trans ?_
  refine (at_pfI dc84_2 mc84 lf4_92 po4_5 (ly5 hL)).trans ?_
  rfl
theorem b84_5 {X : pm_X} {d : Nat} {g : pm_G} {iv : pm_V} (hL : pm_lay g) : pm_at X d 84 (5, [some (.ref 5)], [], g, iv) = if (iv 5 1) ≤ (iv 5 4) then pm_at X d 84 (79, [some (.ref 5)], [], g, iv) else pm_at X d 84 (16, [some (.ref 5)], [], g, iv) := by
  refine (at_aload_n dc84_5 rfl).trans ?_
  refine (at_gfI dc84_6 mc84 lf4_29 fo4_4 (ly5 hL)).trans ?_
  refine (at_aload_n dc84_9 rfl).trans ?_
  refine (at_gfI dc84_10 mc84 lf4_15 fo4_1 (ly5 hL)).trans ?_
  exact at_icmp_ge (t := 79) dc84_13 (by decide)
theorem b84_16 {X : pm_X} {d : Nat} {g : pm_G} {iv : pm_V} (hL : pm_lay g) : pm_at X d 84 (16, [some (.ref 5)], [], g, iv) = pm_then X d 84 24 [some (.ref 5)] [] (pm_c X d 85 [.ref 5, .int (iv 5 4)] g iv) := by
  refine (at_aload_n dc84_16 rfl).trans ?_
  refine (at_aload_n dc84_17 rfl).trans ?_
  refine (at_gfI dc84_18 mc84 lf4_29 fo4_4 (ly5 hL)).trans ?_
  exact at_inv dc84_21 mc84 lm4_126 rfl rfl (Nat.le_of_ble_eq_true rfl) (Or.inl ⟨(ly5 hL), by decide⟩)
theorem b84_24 {X : pm_X} {d : Nat} {s0 : Int32} {g : pm_G} {iv : pm_V}  : pm_at X d 84 (24, [some (.ref 5)], [.int s0], g, iv) = pm_then X d 84 27 [some (.ref 5)] [] (pm_c X d 88 [.int s0] g iv) := by
  exact at_ins dc84_24 mc84 lm4_143 (Nat.le_of_ble_eq_true rfl) rfl rfl (Nat.le_of_ble_eq_true rfl)
theorem b84_27 {X : pm_X} {d : Nat} {s0 : Int32} {g : pm_G} {iv : pm_V}  : pm_at X d 84 (27, [some (.ref 5)], [.int s0], g, iv) = if s0 = 0 then pm_at X d 84 (79, [some (.ref 5)], [], g, iv) else pm_at X d 84 (30, [some (.ref 5)], [], g, iv) := by
  exact at_if_eq (t := 79) dc84_27 (by decide)
theorem b84_30 {X : pm_X} {d : Nat} {g : pm_G} {iv : pm_V} (hL : pm_lay g) : pm_at X d 84 (30, [some (.ref 5)], [], g, iv) = if 3 ≤ ((iv 5 4) - (iv 5 3)) then pm_at X d 84 (66, [some (.ref 5)], [], g, iv) else pm_at X d 84 (43, [some (.ref 5)], [], g, iv) := by
  refine (at_aload_n dc84_30 rfl).trans ?_
  refine (at_gfI dc84_31 mc84 lf4_29 fo4_4 (ly5 hL)).trans ?_
  refine (at_aload_n dc84_34 rfl).trans ?_
  refine (at_gfI dc84_35 mc84 lf4_118 fo4_3 (ly5 hL)).trans ?_
  refine (at_isub dc84_38).trans ?_
  refine (at_iconst (v := 3) dc84_39 rfl).trans ?_
  exact at_icmp_ge (t := 66) dc84_40 (by decide)
theorem b84_43 {X : pm_X} {d : Nat} {g : pm_G} {iv : pm_V} (hL : pm_lay g) : pm_at X d 84 (43, [some (.ref 5)], [], g, iv) = pm_then X d 84 59 [some (.ref 5)] [.int ((iv 5 5) * 10), .ref 5] (pm_c X d 85 [.ref 5, .int (iv 5 4)] g iv) := by
  refine (at_aload_n dc84_43 rfl).trans ?_
  refine (at_aload_n dc84_44 rfl).trans ?_
  refine (at_gfI dc84_45 mc84 lf4_92 fo4_5 (ly5 hL)).trans ?_
  refine (at_bipush (v := 10) dc84_48 (by decide)).trans ?_
  refine (at_imul dc84_50).trans ?_
  refine (at_aload_n dc84_51 rfl).trans ?_
  refine (at_aload_n dc84_52 rfl).trans ?_
  refine (at_gfI dc84_53 mc84 lf4_29 fo4_4 (ly5 hL)).trans ?_
  exact at_inv dc84_56 mc84 lm4_126 rfl rfl (Nat.le_of_ble_eq_true rfl) (Or.inl ⟨(ly5 hL), by decide⟩)
theorem b84_59 {X : pm_X} {d : Nat} {s0 : Int32} {s1 : Int32} {g : pm_G} {iv : pm_V} (hL : pm_lay g) : pm_at X d 84 (59, [some (.ref 5)], [.int s0, .int s1, .ref 5], g, iv) = pm_at X d 84 (66, [some (.ref 5)], [], g, (pm_iw iv 5 5 (((s1 + s0) - 48)))) := by
  refine (at_iadd dc84_59).trans ?_
  refine (at_bipush (v := 48) dc84_60 (by decide)).trans ?_
  refine (at_isub dc84_62).trans ?_
  refine (at_pfI dc84_63 mc84 lf4_92 po4_5 (ly5 hL)).trans ?_
  rfl
theorem b84_66 {X : pm_X} {d : Nat} {g : pm_G} {iv : pm_V} (hL : pm_lay g) : pm_at X d 84 (66, [some (.ref 5)], [], g, iv) = pm_at X d 84 (5, [some (.ref 5)], [], g, (pm_iw iv 5 4 (((iv 5 4) + 1)))) := by
  refine (at_aload_n dc84_66 rfl).trans ?_
  refine (at_dup dc84_67 rfl).trans ?_
  refine (at_gfI dc84_68 mc84 lf4_29 fo4_4 (ly5 hL)).trans ?_
  refine (at_iconst (v := 1) dc84_71 rfl).trans ?_
  refine (at_iadd dc84_72).trans ?_
  refine (at_pfI dc84_73 mc84 lf4_29 po4_4 (ly5 hL)).trans ?_
  refine (at_goto (t := 5) dc84_76 (by decide)).trans ?_
  rfl
theorem b84_79 {X : pm_X} {d : Nat} {g : pm_G} {iv : pm_V} (hL : pm_lay g) : pm_at X d 84 (79, [some (.ref 5)], [], g, iv) = if ((iv 5 4) - (iv 5 3)) ≤ 3 then pm_at X d 84 (97, [some (.ref 5)], [.ref 5], g, iv) else pm_at X d 84 (93, [some (.ref 5)], [.ref 5], g, iv) := by
  refine (at_aload_n dc84_79 rfl).trans ?_
  refine (at_aload_n dc84_80 rfl).trans ?_
  refine (at_gfI dc84_81 mc84 lf4_29 fo4_4 (ly5 hL)).trans ?_
  refine (at_aload_n dc84_84 rfl).trans ?_
  refine (at_gfI dc84_85 mc84 lf4_118 fo4_3 (ly5 hL)).trans ?_
  refine (at_isub dc84_88).trans ?_
  refine (at_iconst (v := 3) dc84_89 rfl).trans ?_
  exact at_icmp_le (t := 97) dc84_90 (by decide)
theorem b84_93 {X : pm_X} {d : Nat} {g : pm_G} {iv : pm_V}  : pm_at X d 84 (93, [some (.ref 5)], [.ref 5], g, iv) = pm_at X d 84 (98, [some (.ref 5)], [.int 4, .ref 5], g, iv) := by
  refine (at_iconst (v := 4) dc84_93 rfl).trans ?_
  refine (at_goto (t := 98) dc84_94 (by decide)).trans ?_
  rfl
theorem b84_97 {X : pm_X} {d : Nat} {g : pm_G} {iv : pm_V}  : pm_at X d 84 (97, [some (.ref 5)], [.ref 5], g, iv) = pm_at X d 84 (98, [some (.ref 5)], [.int 2, .ref 5], g, iv) := by
  refine (at_iconst (v := 2) dc84_97 rfl).trans ?_
  rfl
theorem b84_98 {X : pm_X} {d : Nat} {s0 : Int32} {g : pm_G} {iv : pm_V} (hL : pm_lay g) : pm_at X d 84 (98, [some (.ref 5)], [.int s0, .ref 5], g, iv) = some (none, g, (pm_iw iv 5 2 s0)) := by
  refine (at_pfI dc84_98 mc84 lf4_57 po4_2 (ly5 hL)).trans ?_
  exact at_vret dc84_101 mr84
-- Tape.byteAt (I)I
theorem dc85_0 : decode (pm_mb 85) 0 = .ok (.iload_n 1, 1) := by decide +kernel
theorem dc85_1 : decode (pm_mb 85) 1 = .ok (.ifCond .lt 23, 3) := by decide +kernel
theorem dc85_4 : decode (pm_mb 85) 4 = .ok (.iload_n 1, 1) := by decide +kernel
theorem dc85_5 : decode (pm_mb 85) 5 = .ok (.sipush 400, 3) := by decide +kernel
theorem dc85_8 : decode (pm_mb 85) 8 = .ok (.if_icmp .ge 16, 3) := by decide +kernel
theorem dc85_11 : decode (pm_mb 85) 11 = .ok (.aload_n 0, 1) := by decide +kernel
theorem dc85_12 : decode (pm_mb 85) 12 = .ok (.getfield 9, 3) := by decide +kernel
theorem dc85_15 : decode (pm_mb 85) 15 = .ok (.iload_n 1, 1) := by decide +kernel
theorem dc85_16 : decode (pm_mb 85) 16 = .ok (.baload, 1) := by decide +kernel
theorem dc85_17 : decode (pm_mb 85) 17 = .ok (.sipush 255, 3) := by decide +kernel
theorem dc85_20 : decode (pm_mb 85) 20 = .ok (.iand, 1) := by decide +kernel
theorem dc85_21 : decode (pm_mb 85) 21 = .ok (.goto 4, 3) := by decide +kernel
theorem dc85_24 : decode (pm_mb 85) 24 = .ok (.iconst 0, 1) := by decide +kernel
theorem dc85_25 : decode (pm_mb 85) 25 = .ok (.ireturn, 1) := by decide +kernel
theorem b85_0 {X : pm_X} {d : Nat} {x1 : Int32} {g : pm_G} {iv : pm_V}  : pm_at X d 85 (0, [some (.ref 5), some (.int x1)], [], g, iv) = if x1 < 0 then pm_at X d 85 (24, [some (.ref 5), some (.int x1)], [], g, iv) else pm_at X d 85 (4, [some (.ref 5), some (.int x1)], [], g, iv) := by
  refine (at_iload_n dc85_0 rfl).trans ?_
  exact at_if_lt (t := 24) dc85_1 (by decide)
theorem b85_4 {X : pm_X} {d : Nat} {x1 : Int32} {g : pm_G} {iv : pm_V}  : pm_at X d 85 (4, [some (.ref 5), some (.int x1)], [], g, iv) = if 400 ≤ x1 then pm_at X d 85 (24, [some (.ref 5), some (.int x1)], [], g, iv) else pm_at X d 85 (11, [some (.ref 5), some (.int x1)], [], g, iv) := by
  refine (at_iload_n dc85_4 rfl).trans ?_
  refine (at_sipush (v := 400) dc85_5 (by decide)).trans ?_
  exact at_icmp_ge (t := 24) dc85_8 (by decide)
theorem b85_11 {X : pm_X} {d : Nat} {x1 : Int32} {g : pm_G} {iv : pm_V} (hL : pm_lay g) (i1 : vp_in x1 400) : pm_at X d 85 (11, [some (.ref 5), some (.int x1)], [], g, iv) = pm_at X d 85 (25, [some (.ref 5), some (.int x1)], [.int ((iv 6 (x1 : Int32).toNatClampNeg) &&& 255)], g, iv) := by
  refine (at_aload_n dc85_11 rfl).trans ?_
  refine (at_gfR dc85_12 mc85 lf4_9 fo4_0 (ly5 hL) (lr5_0 hL)).trans ?_
  refine (at_iload_n dc85_15 rfl).trans ?_
  refine (at_bald dc85_16 (ly6 hL) (Or.inl rfl) i1).trans ?_
  refine (at_sipush (v := 255) dc85_17 (by decide)).trans ?_
  refine (at_iand dc85_20).trans ?_
  refine (at_goto (t := 25) dc85_21 (by decide)).trans ?_
  rfl
theorem b85_24 {X : pm_X} {d : Nat} {x1 : Int32} {g : pm_G} {iv : pm_V}  : pm_at X d 85 (24, [some (.ref 5), some (.int x1)], [], g, iv) = pm_at X d 85 (25, [some (.ref 5), some (.int x1)], [.int 0], g, iv) := by
  refine (at_iconst (v := 0) dc85_24 rfl).trans ?_
  rfl
theorem b85_25 {X : pm_X} {d : Nat} {x1 : Int32} {s0 : Int32} {g : pm_G} {iv : pm_V}  : pm_at X d 85 (25, [some (.ref 5), some (.int x1)], [.int s0], g, iv) = some (some (.int s0), g, iv) := by
  exact at_iret dc85_25 mr85
-- Tape.isBlank (I)Z
theorem dc86_0 : decode (pm_mb 86) 0 = .ok (.iload_n 0, 1) := by decide +kernel
theorem dc86_1 : decode (pm_mb 86) 1 = .ok (.bipush 32, 2) := by decide +kernel
theorem dc86_3 : decode (pm_mb 86) 3 = .ok (.if_icmp .eq 9, 3) := by decide +kernel
theorem dc86_6 : decode (pm_mb 86) 6 = .ok (.iload_n 0, 1) := by decide +kernel
theorem dc86_7 : decode (pm_mb 86) 7 = .ok (.bipush 10, 2) := by decide +kernel
theorem dc86_9 : decode (pm_mb 86) 9 = .ok (.if_icmp .ne 7, 3) := by decide +kernel
theorem dc86_12 : decode (pm_mb 86) 12 = .ok (.iconst 1, 1) := by decide +kernel
theorem dc86_13 : decode (pm_mb 86) 13 = .ok (.goto 4, 3) := by decide +kernel
theorem dc86_16 : decode (pm_mb 86) 16 = .ok (.iconst 0, 1) := by decide +kernel
theorem dc86_17 : decode (pm_mb 86) 17 = .ok (.ireturn, 1) := by decide +kernel
theorem b86_0 {X : pm_X} {d : Nat} {x0 : Int32} {g : pm_G} {iv : pm_V}  : pm_at X d 86 (0, [some (.int x0)], [], g, iv) = if x0 = 32 then pm_at X d 86 (12, [some (.int x0)], [], g, iv) else pm_at X d 86 (6, [some (.int x0)], [], g, iv) := by
  refine (at_iload_n dc86_0 rfl).trans ?_
  refine (at_bipush (v := 32) dc86_1 (by decide)).trans ?_
  exact at_icmp_eq (t := 12) dc86_3 (by decide)
theorem b86_6 {X : pm_X} {d : Nat} {x0 : Int32} {g : pm_G} {iv : pm_V}  : pm_at X d 86 (6, [some (.int x0)], [], g, iv) = if ¬ x0 = 10 then pm_at X d 86 (16, [some (.int x0)], [], g, iv) else pm_at X d 86 (12, [some (.int x0)], [], g, iv) := by
  refine (at_iload_n dc86_6 rfl).trans ?_
  refine (at_bipush (v := 10) dc86_7 (by decide)).trans ?_
  exact at_icmp_ne (t := 16) dc86_9 (by decide)
theorem b86_12 {X : pm_X} {d : Nat} {x0 : Int32} {g : pm_G} {iv : pm_V}  : pm_at X d 86 (12, [some (.int x0)], [], g, iv) = pm_at X d 86 (17, [some (.int x0)], [.int 1], g, iv) := by
  refine (at_iconst (v := 1) dc86_12 rfl).trans ?_
  refine (at_goto (t := 17) dc86_13 (by decide)).trans ?_
  rfl
theorem b86_16 {X : pm_X} {d : Nat} {x0 : Int32} {g : pm_G} {iv : pm_V}  : pm_at X d 86 (16, [some (.int x0)], [], g, iv) = pm_at X d 86 (17, [some (.int x0)], [.int 0], g, iv) := by
  refine (at_iconst (v := 0) dc86_16 rfl).trans ?_
  rfl
theorem b86_17 {X : pm_X} {d : Nat} {x0 : Int32} {s0 : Int32} {g : pm_G} {iv : pm_V}  : pm_at X d 86 (17, [some (.int x0)], [.int s0], g, iv) = pm_zr s0 (some (some (.int s0), g, iv)) := by
  exact at_zretG dc86_17 mr86
-- Tape.isLetter (I)Z
theorem dc87_0 : decode (pm_mb 87) 0 = .ok (.iload_n 0, 1) := by decide +kernel
theorem dc87_1 : decode (pm_mb 87) 1 = .ok (.bipush 97, 2) := by decide +kernel
theorem dc87_3 : decode (pm_mb 87) 3 = .ok (.if_icmp .lt 13, 3) := by decide +kernel
theorem dc87_6 : decode (pm_mb 87) 6 = .ok (.iload_n 0, 1) := by decide +kernel
theorem dc87_7 : decode (pm_mb 87) 7 = .ok (.bipush 122, 2) := by decide +kernel
theorem dc87_9 : decode (pm_mb 87) 9 = .ok (.if_icmp .gt 7, 3) := by decide +kernel
theorem dc87_12 : decode (pm_mb 87) 12 = .ok (.iconst 1, 1) := by decide +kernel
theorem dc87_13 : decode (pm_mb 87) 13 = .ok (.goto 4, 3) := by decide +kernel
theorem dc87_16 : decode (pm_mb 87) 16 = .ok (.iconst 0, 1) := by decide +kernel
theorem dc87_17 : decode (pm_mb 87) 17 = .ok (.ireturn, 1) := by decide +kernel
theorem b87_0 {X : pm_X} {d : Nat} {x0 : Int32} {g : pm_G} {iv : pm_V}  : pm_at X d 87 (0, [some (.int x0)], [], g, iv) = if x0 < 97 then pm_at X d 87 (16, [some (.int x0)], [], g, iv) else pm_at X d 87 (6, [some (.int x0)], [], g, iv) := by
  refine (at_iload_n dc87_0 rfl).trans ?_
  refine (at_bipush (v := 97) dc87_1 (by decide)).trans ?_
  exact at_icmp_lt (t := 16) dc87_3 (by decide)
theorem b87_6 {X : pm_X} {d : Nat} {x0 : Int32} {g : pm_G} {iv : pm_V}  : pm_at X d 87 (6, [some (.int x0)], [], g, iv) = if 122 < x0 then pm_at X d 87 (16, [some (.int x0)], [], g, iv) else pm_at X d 87 (12, [some (.int x0)], [], g, iv) := by
  refine (at_iload_n dc87_6 rfl).trans ?_
  refine (at_bipush (v := 122) dc87_7 (by decide)).trans ?_
  exact at_icmp_gt (t := 16) dc87_9 (by decide)
theorem b87_12 {X : pm_X} {d : Nat} {x0 : Int32} {g : pm_G} {iv : pm_V}  : pm_at X d 87 (12, [some (.int x0)], [], g, iv) = pm_at X d 87 (17, [some (.int x0)], [.int 1], g, iv) := by
  refine (at_iconst (v := 1) dc87_12 rfl).trans ?_
  refine (at_goto (t := 17) dc87_13 (by decide)).trans ?_
  rfl
theorem b87_16 {X : pm_X} {d : Nat} {x0 : Int32} {g : pm_G} {iv : pm_V}  : pm_at X d 87 (16, [some (.int x0)], [], g, iv) = pm_at X d 87 (17, [some (.int x0)], [.int 0], g, iv) := by
  refine (at_iconst (v := 0) dc87_16 rfl).trans ?_
  rfl
theorem b87_17 {X : pm_X} {d : Nat} {x0 : Int32} {s0 : Int32} {g : pm_G} {iv : pm_V}  : pm_at X d 87 (17, [some (.int x0)], [.int s0], g, iv) = pm_zr s0 (some (some (.int s0), g, iv)) := by
  exact at_zretG dc87_17 mr87
-- Tape.isFigure (I)Z
theorem dc88_0 : decode (pm_mb 88) 0 = .ok (.iload_n 0, 1) := by decide +kernel
theorem dc88_1 : decode (pm_mb 88) 1 = .ok (.bipush 48, 2) := by decide +kernel
theorem dc88_3 : decode (pm_mb 88) 3 = .ok (.if_icmp .lt 13, 3) := by decide +kernel
theorem dc88_6 : decode (pm_mb 88) 6 = .ok (.iload_n 0, 1) := by decide +kernel
theorem dc88_7 : decode (pm_mb 88) 7 = .ok (.bipush 57, 2) := by decide +kernel
theorem dc88_9 : decode (pm_mb 88) 9 = .ok (.if_icmp .gt 7, 3) := by decide +kernel
theorem dc88_12 : decode (pm_mb 88) 12 = .ok (.iconst 1, 1) := by decide +kernel
theorem dc88_13 : decode (pm_mb 88) 13 = .ok (.goto 4, 3) := by decide +kernel
theorem dc88_16 : decode (pm_mb 88) 16 = .ok (.iconst 0, 1) := by decide +kernel
theorem dc88_17 : decode (pm_mb 88) 17 = .ok (.ireturn, 1) := by decide +kernel
theorem b88_0 {X : pm_X} {d : Nat} {x0 : Int32} {g : pm_G} {iv : pm_V}  : pm_at X d 88 (0, [some (.int x0)], [], g, iv) = if x0 < 48 then pm_at X d 88 (16, [some (.int x0)], [], g, iv) else pm_at X d 88 (6, [some (.int x0)], [], g, iv) := by
  refine (at_iload_n dc88_0 rfl).trans ?_
  refine (at_bipush (v := 48) dc88_1 (by decide)).trans ?_
  exact at_icmp_lt (t := 16) dc88_3 (by decide)
theorem b88_6 {X : pm_X} {d : Nat} {x0 : Int32} {g : pm_G} {iv : pm_V}  : pm_at X d 88 (6, [some (.int x0)], [], g, iv) = if 57 < x0 then pm_at X d 88 (16, [some (.int x0)], [], g, iv) else pm_at X d 88 (12, [some (.int x0)], [], g, iv) := by
  refine (at_iload_n dc88_6 rfl).trans ?_
  refine (at_bipush (v := 57) dc88_7 (by decide)).trans ?_
  exact at_icmp_gt (t := 16) dc88_9 (by decide)
theorem b88_12 {X : pm_X} {d : Nat} {x0 : Int32} {g : pm_G} {iv : pm_V}  : pm_at X d 88 (12, [some (.int x0)], [], g, iv) = pm_at X d 88 (17, [some (.int x0)], [.int 1], g, iv) := by
  refine (at_iconst (v := 1) dc88_12 rfl).trans ?_
  refine (at_goto (t := 17) dc88_13 (by decide)).trans ?_
  rfl
theorem b88_16 {X : pm_X} {d : Nat} {x0 : Int32} {g : pm_G} {iv : pm_V}  : pm_at X d 88 (16, [some (.int x0)], [], g, iv) = pm_at X d 88 (17, [some (.int x0)], [.int 0], g, iv) := by
  refine (at_iconst (v := 0) dc88_16 rfl).trans ?_
  rfl
theorem b88_17 {X : pm_X} {d : Nat} {x0 : Int32} {s0 : Int32} {g : pm_G} {iv : pm_V}  : pm_at X d 88 (17, [some (.int x0)], [.int s0], g, iv) = pm_zr s0 (some (some (.int s0), g, iv)) := by
  exact at_zretG dc88_17 mr88
