-- Tape.<init> ()V
theorem dc66_0 : decode (pm_mb 66) 0 = .ok (.aload_n 0, 1) := by decide +kernel
theorem dc66_1 : decode (pm_mb 66) 1 = .ok (.invokespecial 3, 3) := by decide +kernel
theorem dc66_4 : decode (pm_mb 66) 4 = .ok (.aload_n 0, 1) := by decide +kernel
theorem dc66_5 : decode (pm_mb 66) 5 = .ok (.sipush 400, 3) := by decide +kernel
theorem dc66_8 : decode (pm_mb 66) 8 = .ok (.newarray .byte, 2) := by decide +kernel
theorem dc66_10 : decode (pm_mb 66) 10 = .ok (.putfield 9, 3) := by decide +kernel
theorem dc66_13 : decode (pm_mb 66) 13 = .ok (.return_, 1) := by decide +kernel
-- Tape.size ()I
theorem dc67_0 : decode (pm_mb 67) 0 = .ok (.aload_n 0, 1) := by decide +kernel
theorem dc67_1 : decode (pm_mb 67) 1 = .ok (.getfield 15, 3) := by decide +kernel
theorem dc67_4 : decode (pm_mb 67) 4 = .ok (.ireturn, 1) := by decide +kernel
theorem b67_0 {X : pm_X} {d : Nat} {g : pm_G} {iv : pm_V} (hL : pm_lay g) : pm_at X d 67 (0, [some (.ref 5)], [], g, iv) = some (some (.int (iv 5 1)), g, iv) := by
  refine (at_aload_n dc67_0 rfl).trans ?_
  refine (at_gfI dc67_1 mc67 lf4_15 fo4_1 (ly5 hL)).trans ?_
  exact at_iret dc67_4 mr67
-- Tape.faultNumber ()I
theorem dc68_0 : decode (pm_mb 68) 0 = .ok (.aload_n 0, 1) := by decide +kernel
theorem dc68_1 : decode (pm_mb 68) 1 = .ok (.getfield 19, 3) := by decide +kernel
theorem dc68_4 : decode (pm_mb 68) 4 = .ok (.ireturn, 1) := by decide +kernel
theorem b68_0 {X : pm_X} {d : Nat} {g : pm_G} {iv : pm_V} (hL : pm_lay g) : pm_at X d 68 (0, [some (.ref 5)], [], g, iv) = some (some (.int (iv 5 6)), g, iv) := by
  refine (at_aload_n dc68_0 rfl).trans ?_
  refine (at_gfI dc68_1 mc68 lf4_19 fo4_6 (ly5 hL)).trans ?_
  exact at_iret dc68_4 mr68
-- Tape.faultPlace ()I
theorem dc69_0 : decode (pm_mb 69) 0 = .ok (.aload_n 0, 1) := by decide +kernel
theorem dc69_1 : decode (pm_mb 69) 1 = .ok (.getfield 22, 3) := by decide +kernel
theorem dc69_4 : decode (pm_mb 69) 4 = .ok (.ireturn, 1) := by decide +kernel
theorem b69_0 {X : pm_X} {d : Nat} {g : pm_G} {iv : pm_V} (hL : pm_lay g) : pm_at X d 69 (0, [some (.ref 5)], [], g, iv) = some (some (.int (iv 5 7)), g, iv) := by
  refine (at_aload_n dc69_0 rfl).trans ?_
  refine (at_gfI dc69_1 mc69 lf4_22 fo4_7 (ly5 hL)).trans ?_
  exact at_iret dc69_4 mr69
-- Tape.clear ()V
theorem dc70_0 : decode (pm_mb 70) 0 = .ok (.aload_n 0, 1) := by decide +kernel
theorem dc70_1 : decode (pm_mb 70) 1 = .ok (.iconst 0, 1) := by decide +kernel
theorem dc70_2 : decode (pm_mb 70) 2 = .ok (.putfield 15, 3) := by decide +kernel
theorem dc70_5 : decode (pm_mb 70) 5 = .ok (.return_, 1) := by decide +kernel
theorem b70_0 {X : pm_X} {d : Nat} {g : pm_G} {iv : pm_V} (hL : pm_lay g) : pm_at X d 70 (0, [some (.ref 5)], [], g, iv) = some (none, g, (pm_iw iv 5 1 0)) := by
  refine (at_aload_n dc70_0 rfl).trans ?_
  refine (at_iconst (v := 0) dc70_1 rfl).trans ?_
  refine (at_pfI dc70_2 mc70 lf4_15 po4_1 (ly5 hL)).trans ?_
  exact at_vret dc70_5 mr70
-- Tape.add (JI)Z
theorem dc71_0 : decode (pm_mb 71) 0 = .ok (.iload_n 3, 1) := by decide +kernel
theorem dc71_1 : decode (pm_mb 71) 1 = .ok (.bipush 8, 2) := by decide +kernel
theorem dc71_3 : decode (pm_mb 71) 3 = .ok (.invokestatic 25, 3) := by decide +kernel
theorem dc71_6 : decode (pm_mb 71) 6 = .ok (.ifCond .eq 15, 3) := by decide +kernel
theorem dc71_9 : decode (pm_mb 71) 9 = .ok (.aload_n 0, 1) := by decide +kernel
theorem dc71_10 : decode (pm_mb 71) 10 = .ok (.getfield 15, 3) := by decide +kernel
theorem dc71_13 : decode (pm_mb 71) 13 = .ok (.iload_n 3, 1) := by decide +kernel
theorem dc71_14 : decode (pm_mb 71) 14 = .ok (.iadd, 1) := by decide +kernel
theorem dc71_15 : decode (pm_mb 71) 15 = .ok (.sipush 400, 3) := by decide +kernel
theorem dc71_18 : decode (pm_mb 71) 18 = .ok (.if_icmp .le 5, 3) := by decide +kernel
theorem dc71_21 : decode (pm_mb 71) 21 = .ok (.iconst 0, 1) := by decide +kernel
theorem dc71_22 : decode (pm_mb 71) 22 = .ok (.ireturn, 1) := by decide +kernel
theorem dc71_23 : decode (pm_mb 71) 23 = .ok (.iload_n 3, 1) := by decide +kernel
theorem dc71_24 : decode (pm_mb 71) 24 = .ok (.iconst 1, 1) := by decide +kernel
theorem dc71_25 : decode (pm_mb 71) 25 = .ok (.isub, 1) := by decide +kernel
theorem dc71_26 : decode (pm_mb 71) 26 = .ok (.istore 4, 2) := by decide +kernel
theorem dc71_28 : decode (pm_mb 71) 28 = .ok (.iload 4, 2) := by decide +kernel
theorem dc71_30 : decode (pm_mb 71) 30 = .ok (.ifCond .lt 37, 3) := by decide +kernel
theorem dc71_33 : decode (pm_mb 71) 33 = .ok (.aload_n 0, 1) := by decide +kernel
theorem dc71_34 : decode (pm_mb 71) 34 = .ok (.getfield 9, 3) := by decide +kernel
theorem dc71_37 : decode (pm_mb 71) 37 = .ok (.aload_n 0, 1) := by decide +kernel
theorem dc71_38 : decode (pm_mb 71) 38 = .ok (.getfield 15, 3) := by decide +kernel
theorem dc71_41 : decode (pm_mb 71) 41 = .ok (.lload_n 1, 1) := by decide +kernel
theorem dc71_42 : decode (pm_mb 71) 42 = .ok (.bipush 8, 2) := by decide +kernel
theorem dc71_44 : decode (pm_mb 71) 44 = .ok (.iload 4, 2) := by decide +kernel
theorem dc71_46 : decode (pm_mb 71) 46 = .ok (.imul, 1) := by decide +kernel
theorem dc71_47 : decode (pm_mb 71) 47 = .ok (.lshr, 1) := by decide +kernel
theorem dc71_48 : decode (pm_mb 71) 48 = .ok (.l2i, 1) := by decide +kernel
theorem dc71_49 : decode (pm_mb 71) 49 = .ok (.i2b, 1) := by decide +kernel
theorem dc71_50 : decode (pm_mb 71) 50 = .ok (.bastore, 1) := by decide +kernel
theorem dc71_51 : decode (pm_mb 71) 51 = .ok (.aload_n 0, 1) := by decide +kernel
theorem dc71_52 : decode (pm_mb 71) 52 = .ok (.dup, 1) := by decide +kernel
theorem dc71_53 : decode (pm_mb 71) 53 = .ok (.getfield 15, 3) := by decide +kernel
theorem dc71_56 : decode (pm_mb 71) 56 = .ok (.iconst 1, 1) := by decide +kernel
theorem dc71_57 : decode (pm_mb 71) 57 = .ok (.iadd, 1) := by decide +kernel
theorem dc71_58 : decode (pm_mb 71) 58 = .ok (.putfield 15, 3) := by decide +kernel
theorem dc71_61 : decode (pm_mb 71) 61 = .ok (.iinc 4 (-1), 3) := by decide +kernel
theorem dc71_64 : decode (pm_mb 71) 64 = .ok (.goto (-36), 3) := by decide +kernel
theorem dc71_67 : decode (pm_mb 71) 67 = .ok (.iconst 1, 1) := by decide +kernel
theorem dc71_68 : decode (pm_mb 71) 68 = .ok (.ireturn, 1) := by decide +kernel
theorem b71_0 {X : pm_X} {d : Nat} {x1 : Int64} {x3 : Int32} {g : pm_G} {iv : pm_V}  : pm_at X d 71 (0, [some (.ref 5), some (.long x1), none, some (.int x3), none], [], g, iv) = pm_then X d 71 6 [some (.ref 5), some (.long x1), none, some (.int x3), none] [] (pm_c X d 120 [.int x3, .int 8] g iv) := by
  refine (at_iload_n dc71_0 rfl).trans ?_
  refine (at_bipush (v := 8) dc71_1 (by decide)).trans ?_
  exact at_insN dc71_3 mc71 lm4_25 (Nat.le_of_ble_eq_true rfl) rfl rfl (Nat.le_of_ble_eq_true rfl)
theorem b71_6 {X : pm_X} {d : Nat} {x1 : Int64} {x3 : Int32} {s0 : Int32} {g : pm_G} {iv : pm_V}  : pm_at X d 71 (6, [some (.ref 5), some (.long x1), none, some (.int x3), none], [.int s0], g, iv) = if s0 = 0 then pm_at X d 71 (21, [some (.ref 5), some (.long x1), none, some (.int x3), none], [], g, iv) else pm_at X d 71 (9, [some (.ref 5), some (.long x1), none, some (.int x3), none], [], g, iv) := by
  exact at_if_eq (t := 21) dc71_6 (by decide)
theorem b71_9 {X : pm_X} {d : Nat} {x1 : Int64} {x3 : Int32} {g : pm_G} {iv : pm_V} (hL : pm_lay g) : pm_at X d 71 (9, [some (.ref 5), some (.long x1), none, some (.int x3), none], [], g, iv) = if ((iv 5 1) + x3) ≤ 400 then pm_at X d 71 (23, [some (.ref 5), some (.long x1), none, some (.int x3), none], [], g, iv) else pm_at X d 71 (21, [some (.ref 5), some (.long x1), none, some (.int x3), none], [], g, iv) := by
  refine (at_aload_n dc71_9 rfl).trans ?_
  refine (at_gfI dc71_10 mc71 lf4_15 fo4_1 (ly5 hL)).trans ?_
  refine (at_iload_n dc71_13 rfl).trans ?_
  refine (at_iadd dc71_14).trans ?_
  refine (at_sipush (v := 400) dc71_15 (by decide)).trans ?_
  exact at_icmp_le (t := 23) dc71_18 (by decide)
theorem b71_21 {X : pm_X} {d : Nat} {x1 : Int64} {x3 : Int32} {g : pm_G} {iv : pm_V}  : pm_at X d 71 (21, [some (.ref 5), some (.long x1), none, some (.int x3), none], [], g, iv) = some (some (.int 0), g, iv) := by
  refine (at_iconst (v := 0) dc71_21 rfl).trans ?_
  exact at_zret dc71_22 mr71 (by decide)
theorem b71_23 {X : pm_X} {d : Nat} {x1 : Int64} {x3 : Int32} {g : pm_G} {iv : pm_V}  : pm_at X d 71 (23, [some (.ref 5), some (.long x1), none, some (.int x3), none], [], g, iv) = pm_at X d 71 (28, [some (.ref 5), some (.long x1), none, some (.int x3), some (.int (x3 - 1))], [], g, iv) := by
  refine (at_iload_n dc71_23 rfl).trans ?_
  refine (at_iconst (v := 1) dc71_24 rfl).trans ?_
  refine (at_isub dc71_25).trans ?_
  refine (at_istore dc71_26 rfl).trans ?_
  rfl
theorem b71_28 {X : pm_X} {d : Nat} {x1 : Int64} {x3 : Int32} {x4 : Int32} {g : pm_G} {iv : pm_V}  : pm_at X d 71 (28, [some (.ref 5), some (.long x1), none, some (.int x3), some (.int x4)], [], g, iv) = if x4 < 0 then pm_at X d 71 (67, [some (.ref 5), some (.long x1), none, some (.int x3), some (.int x4)], [], g, iv) else pm_at X d 71 (33, [some (.ref 5), some (.long x1), none, some (.int x3), some (.int x4)], [], g, iv) := by
  refine (at_iload dc71_28 rfl).trans ?_
  exact at_if_lt (t := 67) dc71_30 (by decide)
theorem b71_33 {X : pm_X} {d : Nat} {x1 : Int64} {x3 : Int32} {x4 : Int32} {g : pm_G} {iv : pm_V} (hL : pm_lay g) (i1 : vp_in ((iv 5 1)) 400) : pm_at X d 71 (33, [some (.ref 5), some (.long x1), none, some (.int x3), some (.int x4)], [], g, iv) = pm_at X d 71 (28, [some (.ref 5), some (.long x1), none, some (.int x3), some (.int (x4 + (-1)))], [], g, (pm_iw (pm_iw iv 6 ((iv 5 1) : Int32).toNatClampNeg ((vp_nar .byte ((((x1 >>> (((8 * x4) : Int32).toInt64 &&& 63)) : Int64).toInt32).toInt8.toInt32)))) 5 1 ((((pm_iw iv 6 ((iv 5 1) : Int32).toNatClampNeg ((vp_nar .byte ((((x1 >>> (((8 * x4) : Int32).toInt64 &&& 63)) : Int64).toInt32).toInt8.toInt32)))) 5 1) + 1)))) := by
  refine (at_aload_n dc71_33 rfl).trans ?_
  refine (at_gfR dc71_34 mc71 lf4_9 fo4_0 (ly5 hL) (lr5_0 hL)).trans ?_
  refine (at_aload_n dc71_37 rfl).trans ?_
  refine (at_gfI dc71_38 mc71 lf4_15 fo4_1 (ly5 hL)).trans ?_
  refine (at_lload_n dc71_41 rfl).trans ?_
  refine (at_bipush (v := 8) dc71_42 (by decide)).trans ?_
  refine (at_iload dc71_44 rfl).trans ?_
  refine (at_imul dc71_46).trans ?_
  refine (at_lshr dc71_47).trans ?_
  refine (at_l2i dc71_48).trans ?_
  refine (at_i2b dc71_49).trans ?_
  refine (at_bast dc71_50 (ly6 hL) i1).trans ?_
  refine (at_aload_n dc71_51 rfl).trans ?_
  refine (at_dup dc71_52 rfl).trans ?_
  refine (at_gfI dc71_53 mc71 lf4_15 fo4_1 (ly5 hL)).trans ?_
  refine (at_iconst (v := 1) dc71_56 rfl).trans ?_
  refine (at_iadd dc71_57).trans ?_
  refine (at_pfI dc71_58 mc71 lf4_15 po4_1 (ly5 hL)).trans ?_
  refine (at_iinc (v := (-1)) dc71_61 rfl (by decide) rfl).trans ?_
  refine (at_goto (t := 28) dc71_64 (by decide)).trans ?_
  rfl
theorem b71_67 {X : pm_X} {d : Nat} {x1 : Int64} {x3 : Int32} {x4 : Int32} {g : pm_G} {iv : pm_V}  : pm_at X d 71 (67, [some (.ref 5), some (.long x1), none, some (.int x3), some (.int x4)], [], g, iv) = some (some (.int 1), g, iv) := by
  refine (at_iconst (v := 1) dc71_67 rfl).trans ?_
  exact at_zret dc71_68 mr71 (by decide)
-- Tape.readInto (LHillHouses$Slope;)Z
theorem dc72_0 : decode (pm_mb 72) 0 = .ok (.aload_n 0, 1) := by decide +kernel
theorem dc72_1 : decode (pm_mb 72) 1 = .ok (.iconst 0, 1) := by decide +kernel
theorem dc72_2 : decode (pm_mb 72) 2 = .ok (.putfield 29, 3) := by decide +kernel
theorem dc72_5 : decode (pm_mb 72) 5 = .ok (.aload_n 0, 1) := by decide +kernel
theorem dc72_6 : decode (pm_mb 72) 6 = .ok (.invokevirtual 32, 3) := by decide +kernel
theorem dc72_9 : decode (pm_mb 72) 9 = .ok (.aload_n 0, 1) := by decide +kernel
theorem dc72_10 : decode (pm_mb 72) 10 = .ok (.aload_n 1, 1) := by decide +kernel
theorem dc72_11 : decode (pm_mb 72) 11 = .ok (.invokevirtual 35, 3) := by decide +kernel
theorem dc72_14 : decode (pm_mb 72) 14 = .ok (.ifCond .ne 5, 3) := by decide +kernel
theorem dc72_17 : decode (pm_mb 72) 17 = .ok (.iconst 0, 1) := by decide +kernel
theorem dc72_18 : decode (pm_mb 72) 18 = .ok (.ireturn, 1) := by decide +kernel
theorem dc72_19 : decode (pm_mb 72) 19 = .ok (.iconst 0, 1) := by decide +kernel
theorem dc72_20 : decode (pm_mb 72) 20 = .ok (.istore_n 2, 1) := by decide +kernel
theorem dc72_21 : decode (pm_mb 72) 21 = .ok (.iload_n 2, 1) := by decide +kernel
theorem dc72_22 : decode (pm_mb 72) 22 = .ok (.bipush 8, 2) := by decide +kernel
theorem dc72_24 : decode (pm_mb 72) 24 = .ok (.if_icmp .gt 40, 3) := by decide +kernel
theorem dc72_27 : decode (pm_mb 72) 27 = .ok (.aload_n 0, 1) := by decide +kernel
theorem dc72_28 : decode (pm_mb 72) 28 = .ok (.ldc 39, 2) := by decide +kernel
theorem dc72_30 : decode (pm_mb 72) 30 = .ok (.invokevirtual 41, 3) := by decide +kernel
theorem dc72_33 : decode (pm_mb 72) 33 = .ok (.ifCond .eq 31, 3) := by decide +kernel
theorem dc72_36 : decode (pm_mb 72) 36 = .ok (.iload_n 2, 1) := by decide +kernel
theorem dc72_37 : decode (pm_mb 72) 37 = .ok (.bipush 8, 2) := by decide +kernel
theorem dc72_39 : decode (pm_mb 72) 39 = .ok (.if_icmp .ne 9, 3) := by decide +kernel
theorem dc72_42 : decode (pm_mb 72) 42 = .ok (.aload_n 0, 1) := by decide +kernel
theorem dc72_43 : decode (pm_mb 72) 43 = .ok (.iconst 3, 1) := by decide +kernel
theorem dc72_44 : decode (pm_mb 72) 44 = .ok (.invokevirtual 45, 3) := by decide +kernel
theorem dc72_47 : decode (pm_mb 72) 47 = .ok (.ireturn, 1) := by decide +kernel
theorem dc72_48 : decode (pm_mb 72) 48 = .ok (.aload_n 0, 1) := by decide +kernel
theorem dc72_49 : decode (pm_mb 72) 49 = .ok (.aload_n 1, 1) := by decide +kernel
theorem dc72_50 : decode (pm_mb 72) 50 = .ok (.invokevirtual 49, 3) := by decide +kernel
theorem dc72_53 : decode (pm_mb 72) 53 = .ok (.ifCond .ne 5, 3) := by decide +kernel
theorem dc72_56 : decode (pm_mb 72) 56 = .ok (.iconst 0, 1) := by decide +kernel
theorem dc72_57 : decode (pm_mb 72) 57 = .ok (.ireturn, 1) := by decide +kernel
theorem dc72_58 : decode (pm_mb 72) 58 = .ok (.iinc 2 1, 3) := by decide +kernel
theorem dc72_61 : decode (pm_mb 72) 61 = .ok (.goto (-40), 3) := by decide +kernel
theorem dc72_64 : decode (pm_mb 72) 64 = .ok (.iconst 0, 1) := by decide +kernel
theorem dc72_65 : decode (pm_mb 72) 65 = .ok (.istore_n 2, 1) := by decide +kernel
theorem dc72_66 : decode (pm_mb 72) 66 = .ok (.iload_n 2, 1) := by decide +kernel
theorem dc72_67 : decode (pm_mb 72) 67 = .ok (.bipush 6, 2) := by decide +kernel
theorem dc72_69 : decode (pm_mb 72) 69 = .ok (.if_icmp .gt 40, 3) := by decide +kernel
theorem dc72_72 : decode (pm_mb 72) 72 = .ok (.aload_n 0, 1) := by decide +kernel
theorem dc72_73 : decode (pm_mb 72) 73 = .ok (.ldc 52, 2) := by decide +kernel
theorem dc72_75 : decode (pm_mb 72) 75 = .ok (.invokevirtual 41, 3) := by decide +kernel
theorem dc72_78 : decode (pm_mb 72) 78 = .ok (.ifCond .eq 31, 3) := by decide +kernel
theorem dc72_81 : decode (pm_mb 72) 81 = .ok (.iload_n 2, 1) := by decide +kernel
theorem dc72_82 : decode (pm_mb 72) 82 = .ok (.bipush 6, 2) := by decide +kernel
theorem dc72_84 : decode (pm_mb 72) 84 = .ok (.if_icmp .ne 9, 3) := by decide +kernel
theorem dc72_87 : decode (pm_mb 72) 87 = .ok (.aload_n 0, 1) := by decide +kernel
theorem dc72_88 : decode (pm_mb 72) 88 = .ok (.iconst 3, 1) := by decide +kernel
theorem dc72_89 : decode (pm_mb 72) 89 = .ok (.invokevirtual 45, 3) := by decide +kernel
theorem dc72_92 : decode (pm_mb 72) 92 = .ok (.ireturn, 1) := by decide +kernel
theorem dc72_93 : decode (pm_mb 72) 93 = .ok (.aload_n 0, 1) := by decide +kernel
theorem dc72_94 : decode (pm_mb 72) 94 = .ok (.aload_n 1, 1) := by decide +kernel
theorem dc72_95 : decode (pm_mb 72) 95 = .ok (.invokevirtual 54, 3) := by decide +kernel
theorem dc72_98 : decode (pm_mb 72) 98 = .ok (.ifCond .ne 5, 3) := by decide +kernel
theorem dc72_101 : decode (pm_mb 72) 101 = .ok (.iconst 0, 1) := by decide +kernel
theorem dc72_102 : decode (pm_mb 72) 102 = .ok (.ireturn, 1) := by decide +kernel
theorem dc72_103 : decode (pm_mb 72) 103 = .ok (.iinc 2 1, 3) := by decide +kernel
theorem dc72_106 : decode (pm_mb 72) 106 = .ok (.goto (-40), 3) := by decide +kernel
theorem dc72_109 : decode (pm_mb 72) 109 = .ok (.aload_n 0, 1) := by decide +kernel
theorem dc72_110 : decode (pm_mb 72) 110 = .ok (.getfield 57, 3) := by decide +kernel
theorem dc72_113 : decode (pm_mb 72) 113 = .ok (.ifCond .eq 11, 3) := by decide +kernel
theorem dc72_116 : decode (pm_mb 72) 116 = .ok (.aload_n 0, 1) := by decide +kernel
theorem dc72_117 : decode (pm_mb 72) 117 = .ok (.iconst 1, 1) := by decide +kernel
theorem dc72_118 : decode (pm_mb 72) 118 = .ok (.invokevirtual 45, 3) := by decide +kernel
theorem dc72_121 : decode (pm_mb 72) 121 = .ok (.ifCond .eq 7, 3) := by decide +kernel
theorem dc72_124 : decode (pm_mb 72) 124 = .ok (.iconst 1, 1) := by decide +kernel
theorem dc72_125 : decode (pm_mb 72) 125 = .ok (.goto 4, 3) := by decide +kernel
theorem dc72_128 : decode (pm_mb 72) 128 = .ok (.iconst 0, 1) := by decide +kernel
theorem dc72_129 : decode (pm_mb 72) 129 = .ok (.ireturn, 1) := by decide +kernel
theorem b72_0 {X : pm_X} {d : Nat} {k : Nat} {g : pm_G} {iv : pm_V} (hL : pm_lay g) : pm_at X d 72 (0, [some (.ref 5), some (.ref k), none], [], g, iv) = pm_then X d 72 9 [some (.ref 5), some (.ref k), none] [] (pm_c X d 83 [.ref 5] g (pm_iw iv 5 4 0)) := by
  refine (at_aload_n dc72_0 rfl).trans ?_
  refine (at_iconst (v := 0) dc72_1 rfl).trans ?_
  refine (at_pfI dc72_2 mc72 lf4_29 po4_4 (ly5 hL)).trans ?_
  refine (at_aload_n dc72_5 rfl).trans ?_
  exact at_inv dc72_6 mc72 lm4_32 rfl rfl (Nat.le_of_ble_eq_true rfl) (Or.inl ⟨(ly5 hL), by decide⟩)
theorem b72_9 {X : pm_X} {d : Nat} {k : Nat} {g : pm_G} {iv : pm_V} (hL : pm_lay g) : pm_at X d 72 (9, [some (.ref 5), some (.ref k), none], [], g, iv) = pm_then X d 72 14 [some (.ref 5), some (.ref k), none] [] (pm_c X d 73 [.ref 5, .ref k] g iv) := by
  refine (at_aload_n dc72_9 rfl).trans ?_
  refine (at_aload_n dc72_10 rfl).trans ?_
  exact at_inv dc72_11 mc72 lm4_35 rfl rfl (Nat.le_of_ble_eq_true rfl) (Or.inl ⟨(ly5 hL), by decide⟩)
theorem b72_14 {X : pm_X} {d : Nat} {s0 : Int32} {k : Nat} {g : pm_G} {iv : pm_V}  : pm_at X d 72 (14, [some (.ref 5), some (.ref k), none], [.int s0], g, iv) = if ¬ s0 = 0 then pm_at X d 72 (19, [some (.ref 5), some (.ref k), none], [], g, iv) else pm_at X d 72 (17, [some (.ref 5), some (.ref k), none], [], g, iv) := by
  exact at_if_ne (t := 19) dc72_14 (by decide)
theorem b72_17 {X : pm_X} {d : Nat} {k : Nat} {g : pm_G} {iv : pm_V}  : pm_at X d 72 (17, [some (.ref 5), some (.ref k), none], [], g, iv) = some (some (.int 0), g, iv) := by
  refine (at_iconst (v := 0) dc72_17 rfl).trans ?_
  exact at_zret dc72_18 mr72 (by decide)
theorem b72_19 {X : pm_X} {d : Nat} {k : Nat} {g : pm_G} {iv : pm_V}  : pm_at X d 72 (19, [some (.ref 5), some (.ref k), none], [], g, iv) = pm_at X d 72 (21, [some (.ref 5), some (.ref k), some (.int 0)], [], g, iv) := by
  refine (at_iconst (v := 0) dc72_19 rfl).trans ?_
  refine (at_istore_n dc72_20 rfl).trans ?_
  rfl
theorem b72_21 {X : pm_X} {d : Nat} {x2 : Int32} {k : Nat} {g : pm_G} {iv : pm_V}  : pm_at X d 72 (21, [some (.ref 5), some (.ref k), some (.int x2)], [], g, iv) = if 8 < x2 then pm_at X d 72 (64, [some (.ref 5), some (.ref k), some (.int x2)], [], g, iv) else pm_at X d 72 (27, [some (.ref 5), some (.ref k), some (.int x2)], [], g, iv) := by
  refine (at_iload_n dc72_21 rfl).trans ?_
  refine (at_bipush (v := 8) dc72_22 (by decide)).trans ?_
  exact at_icmp_gt (t := 64) dc72_24 (by decide)
theorem b72_27 {X : pm_X} {d : Nat} {x2 : Int32} {k : Nat} {g : pm_G} {iv : pm_V} (hL : pm_lay g) : pm_at X d 72 (27, [some (.ref 5), some (.ref k), some (.int x2)], [], g, iv) = pm_then X d 72 33 [some (.ref 5), some (.ref k), some (.int x2)] [] (pm_c X d 82 [.ref 5, .ref 1001] g iv) := by
  refine (at_aload_n dc72_27 rfl).trans ?_
  refine (at_ldcS dc72_28 mc72 lkn4_39 lt4_39).trans ?_
  exact at_inv dc72_30 mc72 lm4_41 rfl rfl (Nat.le_of_ble_eq_true rfl) (Or.inl ⟨(ly5 hL), by decide⟩)
theorem b72_33 {X : pm_X} {d : Nat} {x2 : Int32} {s0 : Int32} {k : Nat} {g : pm_G} {iv : pm_V}  : pm_at X d 72 (33, [some (.ref 5), some (.ref k), some (.int x2)], [.int s0], g, iv) = if s0 = 0 then pm_at X d 72 (64, [some (.ref 5), some (.ref k), some (.int x2)], [], g, iv) else pm_at X d 72 (36, [some (.ref 5), some (.ref k), some (.int x2)], [], g, iv) := by
  exact at_if_eq (t := 64) dc72_33 (by decide)
theorem b72_36 {X : pm_X} {d : Nat} {x2 : Int32} {k : Nat} {g : pm_G} {iv : pm_V}  : pm_at X d 72 (36, [some (.ref 5), some (.ref k), some (.int x2)], [], g, iv) = if ¬ x2 = 8 then pm_at X d 72 (48, [some (.ref 5), some (.ref k), some (.int x2)], [], g, iv) else pm_at X d 72 (42, [some (.ref 5), some (.ref k), some (.int x2)], [], g, iv) := by
  refine (at_iload_n dc72_36 rfl).trans ?_
  refine (at_bipush (v := 8) dc72_37 (by decide)).trans ?_
  exact at_icmp_ne (t := 48) dc72_39 (by decide)
theorem b72_42 {X : pm_X} {d : Nat} {x2 : Int32} {k : Nat} {g : pm_G} {iv : pm_V} (hL : pm_lay g) : pm_at X d 72 (42, [some (.ref 5), some (.ref k), some (.int x2)], [], g, iv) = pm_then X d 72 47 [some (.ref 5), some (.ref k), some (.int x2)] [] (pm_c X d 81 [.ref 5, .int 3] g iv) := by
  refine (at_aload_n dc72_42 rfl).trans ?_
  refine (at_iconst (v := 3) dc72_43 rfl).trans ?_
  exact at_inv dc72_44 mc72 lm4_45 rfl rfl (Nat.le_of_ble_eq_true rfl) (Or.inl ⟨(ly5 hL), by decide⟩)
theorem b72_47 {X : pm_X} {d : Nat} {x2 : Int32} {s0 : Int32} {k : Nat} {g : pm_G} {iv : pm_V}  : pm_at X d 72 (47, [some (.ref 5), some (.ref k), some (.int x2)], [.int s0], g, iv) = pm_zr s0 (some (some (.int s0), g, iv)) := by
  exact at_zretG dc72_47 mr72
theorem b72_48 {X : pm_X} {d : Nat} {x2 : Int32} {k : Nat} {g : pm_G} {iv : pm_V} (hL : pm_lay g) : pm_at X d 72 (48, [some (.ref 5), some (.ref k), some (.int x2)], [], g, iv) = pm_then X d 72 53 [some (.ref 5), some (.ref k), some (.int x2)] [] (pm_c X d 74 [.ref 5, .ref k] g iv) := by
  refine (at_aload_n dc72_48 rfl).trans ?_
  refine (at_aload_n dc72_49 rfl).trans ?_
  exact at_inv dc72_50 mc72 lm4_49 rfl rfl (Nat.le_of_ble_eq_true rfl) (Or.inl ⟨(ly5 hL), by decide⟩)
theorem b72_53 {X : pm_X} {d : Nat} {x2 : Int32} {s0 : Int32} {k : Nat} {g : pm_G} {iv : pm_V}  : pm_at X d 72 (53, [some (.ref 5), some (.ref k), some (.int x2)], [.int s0], g, iv) = if ¬ s0 = 0 then pm_at X d 72 (58, [some (.ref 5), some (.ref k), some (.int x2)], [], g, iv) else pm_at X d 72 (56, [some (.ref 5), some (.ref k), some (.int x2)], [], g, iv) := by
  exact at_if_ne (t := 58) dc72_53 (by decide)
theorem b72_56 {X : pm_X} {d : Nat} {x2 : Int32} {k : Nat} {g : pm_G} {iv : pm_V}  : pm_at X d 72 (56, [some (.ref 5), some (.ref k), some (.int x2)], [], g, iv) = some (some (.int 0), g, iv) := by
  refine (at_iconst (v := 0) dc72_56 rfl).trans ?_
  exact at_zret dc72_57 mr72 (by decide)
theorem b72_58 {X : pm_X} {d : Nat} {x2 : Int32} {k : Nat} {g : pm_G} {iv : pm_V}  : pm_at X d 72 (58, [some (.ref 5), some (.ref k), some (.int x2)], [], g, iv) = pm_at X d 72 (21, [some (.ref 5), some (.ref k), some (.int (x2 + 1))], [], g, iv) := by
  refine (at_iinc (v := 1) dc72_58 rfl (by decide) rfl).trans ?_
  refine (at_goto (t := 21) dc72_61 (by decide)).trans ?_
  rfl
theorem b72_64 {X : pm_X} {d : Nat} {x2 : Int32} {k : Nat} {g : pm_G} {iv : pm_V}  : pm_at X d 72 (64, [some (.ref 5), some (.ref k), some (.int x2)], [], g, iv) = pm_at X d 72 (66, [some (.ref 5), some (.ref k), some (.int 0)], [], g, iv) := by
  refine (at_iconst (v := 0) dc72_64 rfl).trans ?_
  refine (at_istore_n dc72_65 rfl).trans ?_
  rfl
theorem b72_66 {X : pm_X} {d : Nat} {x2 : Int32} {k : Nat} {g : pm_G} {iv : pm_V}  : pm_at X d 72 (66, [some (.ref 5), some (.ref k), some (.int x2)], [], g, iv) = if 6 < x2 then pm_at X d 72 (109, [some (.ref 5), some (.ref k), some (.int x2)], [], g, iv) else pm_at X d 72 (72, [some (.ref 5), some (.ref k), some (.int x2)], [], g, iv) := by
  refine (at_iload_n dc72_66 rfl).trans ?_
  refine (at_bipush (v := 6) dc72_67 (by decide)).trans ?_
  exact at_icmp_gt (t := 109) dc72_69 (by decide)
theorem b72_72 {X : pm_X} {d : Nat} {x2 : Int32} {k : Nat} {g : pm_G} {iv : pm_V} (hL : pm_lay g) : pm_at X d 72 (72, [some (.ref 5), some (.ref k), some (.int x2)], [], g, iv) = pm_then X d 72 78 [some (.ref 5), some (.ref k), some (.int x2)] [] (pm_c X d 82 [.ref 5, .ref 1002] g iv) := by
  refine (at_aload_n dc72_72 rfl).trans ?_
  refine (at_ldcS dc72_73 mc72 lkn4_52 lt4_52).trans ?_
  exact at_inv dc72_75 mc72 lm4_41 rfl rfl (Nat.le_of_ble_eq_true rfl) (Or.inl ⟨(ly5 hL), by decide⟩)
theorem b72_78 {X : pm_X} {d : Nat} {x2 : Int32} {s0 : Int32} {k : Nat} {g : pm_G} {iv : pm_V}  : pm_at X d 72 (78, [some (.ref 5), some (.ref k), some (.int x2)], [.int s0], g, iv) = if s0 = 0 then pm_at X d 72 (109, [some (.ref 5), some (.ref k), some (.int x2)], [], g, iv) else pm_at X d 72 (81, [some (.ref 5), some (.ref k), some (.int x2)], [], g, iv) := by
  exact at_if_eq (t := 109) dc72_78 (by decide)
theorem b72_81 {X : pm_X} {d : Nat} {x2 : Int32} {k : Nat} {g : pm_G} {iv : pm_V}  : pm_at X d 72 (81, [some (.ref 5), some (.ref k), some (.int x2)], [], g, iv) = if ¬ x2 = 6 then pm_at X d 72 (93, [some (.ref 5), some (.ref k), some (.int x2)], [], g, iv) else pm_at X d 72 (87, [some (.ref 5), some (.ref k), some (.int x2)], [], g, iv) := by
  refine (at_iload_n dc72_81 rfl).trans ?_
  refine (at_bipush (v := 6) dc72_82 (by decide)).trans ?_
  exact at_icmp_ne (t := 93) dc72_84 (by decide)
theorem b72_87 {X : pm_X} {d : Nat} {x2 : Int32} {k : Nat} {g : pm_G} {iv : pm_V} (hL : pm_lay g) : pm_at X d 72 (87, [some (.ref 5), some (.ref k), some (.int x2)], [], g, iv) = pm_then X d 72 92 [some (.ref 5), some (.ref k), some (.int x2)] [] (pm_c X d 81 [.ref 5, .int 3] g iv) := by
  refine (at_aload_n dc72_87 rfl).trans ?_
  refine (at_iconst (v := 3) dc72_88 rfl).trans ?_
  exact at_inv dc72_89 mc72 lm4_45 rfl rfl (Nat.le_of_ble_eq_true rfl) (Or.inl ⟨(ly5 hL), by decide⟩)
theorem b72_92 {X : pm_X} {d : Nat} {x2 : Int32} {s0 : Int32} {k : Nat} {g : pm_G} {iv : pm_V}  : pm_at X d 72 (92, [some (.ref 5), some (.ref k), some (.int x2)], [.int s0], g, iv) = pm_zr s0 (some (some (.int s0), g, iv)) := by
  exact at_zretG dc72_92 mr72
theorem b72_93 {X : pm_X} {d : Nat} {x2 : Int32} {k : Nat} {g : pm_G} {iv : pm_V} (hL : pm_lay g) : pm_at X d 72 (93, [some (.ref 5), some (.ref k), some (.int x2)], [], g, iv) = pm_then X d 72 98 [some (.ref 5), some (.ref k), some (.int x2)] [] (pm_c X d 75 [.ref 5, .ref k] g iv) := by
  refine (at_aload_n dc72_93 rfl).trans ?_
  refine (at_aload_n dc72_94 rfl).trans ?_
  exact at_inv dc72_95 mc72 lm4_54 rfl rfl (Nat.le_of_ble_eq_true rfl) (Or.inl ⟨(ly5 hL), by decide⟩)
theorem b72_98 {X : pm_X} {d : Nat} {x2 : Int32} {s0 : Int32} {k : Nat} {g : pm_G} {iv : pm_V}  : pm_at X d 72 (98, [some (.ref 5), some (.ref k), some (.int x2)], [.int s0], g, iv) = if ¬ s0 = 0 then pm_at X d 72 (103, [some (.ref 5), some (.ref k), some (.int x2)], [], g, iv) else pm_at X d 72 (101, [some (.ref 5), some (.ref k), some (.int x2)], [], g, iv) := by
  exact at_if_ne (t := 103) dc72_98 (by decide)
theorem b72_101 {X : pm_X} {d : Nat} {x2 : Int32} {k : Nat} {g : pm_G} {iv : pm_V}  : pm_at X d 72 (101, [some (.ref 5), some (.ref k), some (.int x2)], [], g, iv) = some (some (.int 0), g, iv) := by
  refine (at_iconst (v := 0) dc72_101 rfl).trans ?_
  exact at_zret dc72_102 mr72 (by decide)
theorem b72_103 {X : pm_X} {d : Nat} {x2 : Int32} {k : Nat} {g : pm_G} {iv : pm_V}  : pm_at X d 72 (103, [some (.ref 5), some (.ref k), some (.int x2)], [], g, iv) = pm_at X d 72 (66, [some (.ref 5), some (.ref k), some (.int (x2 + 1))], [], g, iv) := by
  refine (at_iinc (v := 1) dc72_103 rfl (by decide) rfl).trans ?_
  refine (at_goto (t := 66) dc72_106 (by decide)).trans ?_
  rfl
theorem b72_109 {X : pm_X} {d : Nat} {x2 : Int32} {k : Nat} {g : pm_G} {iv : pm_V} (hL : pm_lay g) : pm_at X d 72 (109, [some (.ref 5), some (.ref k), some (.int x2)], [], g, iv) = if (iv 5 2) = 0 then pm_at X d 72 (124, [some (.ref 5), some (.ref k), some (.int x2)], [], g, iv) else pm_at X d 72 (116, [some (.ref 5), some (.ref k), some (.int x2)], [], g, iv) := by
  refine (at_aload_n dc72_109 rfl).trans ?_
  refine (at_gfI dc72_110 mc72 lf4_57 fo4_2 (ly5 hL)).trans ?_
  exact at_if_eq (t := 124) dc72_113 (by decide)
theorem b72_116 {X : pm_X} {d : Nat} {x2 : Int32} {k : Nat} {g : pm_G} {iv : pm_V} (hL : pm_lay g) : pm_at X d 72 (116, [some (.ref 5), some (.ref k), some (.int x2)], [], g, iv) = pm_then X d 72 121 [some (.ref 5), some (.ref k), some (.int x2)] [] (pm_c X d 81 [.ref 5, .int 1] g iv) := by
  refine (at_aload_n dc72_116 rfl).trans ?_
  refine (at_iconst (v := 1) dc72_117 rfl).trans ?_
  exact at_inv dc72_118 mc72 lm4_45 rfl rfl (Nat.le_of_ble_eq_true rfl) (Or.inl ⟨(ly5 hL), by decide⟩)
theorem b72_121 {X : pm_X} {d : Nat} {x2 : Int32} {s0 : Int32} {k : Nat} {g : pm_G} {iv : pm_V}  : pm_at X d 72 (121, [some (.ref 5), some (.ref k), some (.int x2)], [.int s0], g, iv) = if s0 = 0 then pm_at X d 72 (128, [some (.ref 5), some (.ref k), some (.int x2)], [], g, iv) else pm_at X d 72 (124, [some (.ref 5), some (.ref k), some (.int x2)], [], g, iv) := by
  exact at_if_eq (t := 128) dc72_121 (by decide)
theorem b72_124 {X : pm_X} {d : Nat} {x2 : Int32} {k : Nat} {g : pm_G} {iv : pm_V}  : pm_at X d 72 (124, [some (.ref 5), some (.ref k), some (.int x2)], [], g, iv) = pm_at X d 72 (129, [some (.ref 5), some (.ref k), some (.int x2)], [.int 1], g, iv) := by
  refine (at_iconst (v := 1) dc72_124 rfl).trans ?_
  refine (at_goto (t := 129) dc72_125 (by decide)).trans ?_
  rfl
theorem b72_128 {X : pm_X} {d : Nat} {x2 : Int32} {k : Nat} {g : pm_G} {iv : pm_V}  : pm_at X d 72 (128, [some (.ref 5), some (.ref k), some (.int x2)], [], g, iv) = pm_at X d 72 (129, [some (.ref 5), some (.ref k), some (.int x2)], [.int 0], g, iv) := by
  refine (at_iconst (v := 0) dc72_128 rfl).trans ?_
  rfl
theorem b72_129 {X : pm_X} {d : Nat} {x2 : Int32} {s0 : Int32} {k : Nat} {g : pm_G} {iv : pm_V}  : pm_at X d 72 (129, [some (.ref 5), some (.ref k), some (.int x2)], [.int s0], g, iv) = pm_zr s0 (some (some (.int s0), g, iv)) := by
  exact at_zretG dc72_129 mr72
-- Tape.readSlope (LHillHouses$Slope;)Z
theorem dc73_0 : decode (pm_mb 73) 0 = .ok (.aload_n 0, 1) := by decide +kernel
theorem dc73_1 : decode (pm_mb 73) 1 = .ok (.ldc 60, 2) := by decide +kernel
theorem dc73_3 : decode (pm_mb 73) 3 = .ok (.invokevirtual 62, 3) := by decide +kernel
theorem dc73_6 : decode (pm_mb 73) 6 = .ok (.ifCond .ne 5, 3) := by decide +kernel
theorem dc73_9 : decode (pm_mb 73) 9 = .ok (.iconst 0, 1) := by decide +kernel
theorem dc73_10 : decode (pm_mb 73) 10 = .ok (.ireturn, 1) := by decide +kernel
theorem dc73_11 : decode (pm_mb 73) 11 = .ok (.aload_n 0, 1) := by decide +kernel
theorem dc73_12 : decode (pm_mb 73) 12 = .ok (.iconst 1, 1) := by decide +kernel
theorem dc73_13 : decode (pm_mb 73) 13 = .ok (.iconst 4, 1) := by decide +kernel
theorem dc73_14 : decode (pm_mb 73) 14 = .ok (.invokevirtual 65, 3) := by decide +kernel
theorem dc73_17 : decode (pm_mb 73) 17 = .ok (.istore_n 2, 1) := by decide +kernel
theorem dc73_18 : decode (pm_mb 73) 18 = .ok (.iload_n 2, 1) := by decide +kernel
theorem dc73_19 : decode (pm_mb 73) 19 = .ok (.iconst (-1), 1) := by decide +kernel
theorem dc73_20 : decode (pm_mb 73) 20 = .ok (.if_icmp .ne 7, 3) := by decide +kernel
theorem dc73_23 : decode (pm_mb 73) 23 = .ok (.iconst (-1), 1) := by decide +kernel
theorem dc73_24 : decode (pm_mb 73) 24 = .ok (.goto 10, 3) := by decide +kernel
theorem dc73_27 : decode (pm_mb 73) 27 = .ok (.aload_n 0, 1) := by decide +kernel
theorem dc73_28 : decode (pm_mb 73) 28 = .ok (.iconst 4, 1) := by decide +kernel
theorem dc73_29 : decode (pm_mb 73) 29 = .ok (.bipush 20, 2) := by decide +kernel
theorem dc73_31 : decode (pm_mb 73) 31 = .ok (.invokevirtual 65, 3) := by decide +kernel
theorem dc73_34 : decode (pm_mb 73) 34 = .ok (.istore_n 3, 1) := by decide +kernel
theorem dc73_35 : decode (pm_mb 73) 35 = .ok (.iload_n 3, 1) := by decide +kernel
theorem dc73_36 : decode (pm_mb 73) 36 = .ok (.iconst (-1), 1) := by decide +kernel
theorem dc73_37 : decode (pm_mb 73) 37 = .ok (.if_icmp .ne 5, 3) := by decide +kernel
theorem dc73_40 : decode (pm_mb 73) 40 = .ok (.iconst 0, 1) := by decide +kernel
theorem dc73_41 : decode (pm_mb 73) 41 = .ok (.ireturn, 1) := by decide +kernel
theorem dc73_42 : decode (pm_mb 73) 42 = .ok (.aload_n 1, 1) := by decide +kernel
theorem dc73_43 : decode (pm_mb 73) 43 = .ok (.iload_n 2, 1) := by decide +kernel
theorem dc73_44 : decode (pm_mb 73) 44 = .ok (.iload_n 3, 1) := by decide +kernel
theorem dc73_45 : decode (pm_mb 73) 45 = .ok (.invokevirtual 69, 3) := by decide +kernel
theorem dc73_48 : decode (pm_mb 73) 48 = .ok (.aload_n 0, 1) := by decide +kernel
theorem dc73_49 : decode (pm_mb 73) 49 = .ok (.invokevirtual 75, 3) := by decide +kernel
theorem dc73_52 : decode (pm_mb 73) 52 = .ok (.ireturn, 1) := by decide +kernel
theorem b73_0 {X : pm_X} {d : Nat} {k : Nat} {g : pm_G} {iv : pm_V} (hL : pm_lay g) : pm_at X d 73 (0, [some (.ref 5), some (.ref k), none, none], [], g, iv) = pm_then X d 73 6 [some (.ref 5), some (.ref k), none, none] [] (pm_c X d 76 [.ref 5, .ref 1000] g iv) := by
  refine (at_aload_n dc73_0 rfl).trans ?_
  refine (at_ldcS dc73_1 mc73 lkn4_60 lt4_60).trans ?_
  exact at_inv dc73_3 mc73 lm4_62 rfl rfl (Nat.le_of_ble_eq_true rfl) (Or.inl ⟨(ly5 hL), by decide⟩)
theorem b73_6 {X : pm_X} {d : Nat} {s0 : Int32} {k : Nat} {g : pm_G} {iv : pm_V}  : pm_at X d 73 (6, [some (.ref 5), some (.ref k), none, none], [.int s0], g, iv) = if ¬ s0 = 0 then pm_at X d 73 (11, [some (.ref 5), some (.ref k), none, none], [], g, iv) else pm_at X d 73 (9, [some (.ref 5), some (.ref k), none, none], [], g, iv) := by
  exact at_if_ne (t := 11) dc73_6 (by decide)
theorem b73_9 {X : pm_X} {d : Nat} {k : Nat} {g : pm_G} {iv : pm_V}  : pm_at X d 73 (9, [some (.ref 5), some (.ref k), none, none], [], g, iv) = some (some (.int 0), g, iv) := by
  refine (at_iconst (v := 0) dc73_9 rfl).trans ?_
  exact at_zret dc73_10 mr73 (by decide)
theorem b73_11 {X : pm_X} {d : Nat} {k : Nat} {g : pm_G} {iv : pm_V} (hL : pm_lay g) : pm_at X d 73 (11, [some (.ref 5), some (.ref k), none, none], [], g, iv) = pm_then X d 73 17 [some (.ref 5), some (.ref k), none, none] [] (pm_c X d 78 [.ref 5, .int 1, .int 4] g iv) := by
  refine (at_aload_n dc73_11 rfl).trans ?_
  refine (at_iconst (v := 1) dc73_12 rfl).trans ?_
  refine (at_iconst (v := 4) dc73_13 rfl).trans ?_
  exact at_inv dc73_14 mc73 lm4_65 rfl rfl (Nat.le_of_ble_eq_true rfl) (Or.inl ⟨(ly5 hL), by decide⟩)
theorem b73_17 {X : pm_X} {d : Nat} {s0 : Int32} {k : Nat} {g : pm_G} {iv : pm_V}  : pm_at X d 73 (17, [some (.ref 5), some (.ref k), none, none], [.int s0], g, iv) = if ¬ s0 = (-1) then pm_at X d 73 (27, [some (.ref 5), some (.ref k), some (.int s0), none], [], g, iv) else pm_at X d 73 (23, [some (.ref 5), some (.ref k), some (.int s0), none], [], g, iv) := by
  refine (at_istore_n dc73_17 rfl).trans ?_
  refine (at_iload_n dc73_18 rfl).trans ?_
  refine (at_iconst (v := (-1)) dc73_19 rfl).trans ?_
  exact at_icmp_ne (t := 27) dc73_20 (by decide)
theorem b73_23 {X : pm_X} {d : Nat} {x2 : Int32} {k : Nat} {g : pm_G} {iv : pm_V}  : pm_at X d 73 (23, [some (.ref 5), some (.ref k), some (.int x2), none], [], g, iv) = pm_at X d 73 (34, [some (.ref 5), some (.ref k), some (.int x2), none], [.int (-1)], g, iv) := by
  refine (at_iconst (v := (-1)) dc73_23 rfl).trans ?_
  refine (at_goto (t := 34) dc73_24 (by decide)).trans ?_
  rfl
theorem b73_27 {X : pm_X} {d : Nat} {x2 : Int32} {k : Nat} {g : pm_G} {iv : pm_V} (hL : pm_lay g) : pm_at X d 73 (27, [some (.ref 5), some (.ref k), some (.int x2), none], [], g, iv) = pm_then X d 73 34 [some (.ref 5), some (.ref k), some (.int x2), none] [] (pm_c X d 78 [.ref 5, .int 4, .int 20] g iv) := by
  refine (at_aload_n dc73_27 rfl).trans ?_
  refine (at_iconst (v := 4) dc73_28 rfl).trans ?_
  refine (at_bipush (v := 20) dc73_29 (by decide)).trans ?_
  exact at_inv dc73_31 mc73 lm4_65 rfl rfl (Nat.le_of_ble_eq_true rfl) (Or.inl ⟨(ly5 hL), by decide⟩)
theorem b73_34 {X : pm_X} {d : Nat} {x2 : Int32} {s0 : Int32} {k : Nat} {g : pm_G} {iv : pm_V}  : pm_at X d 73 (34, [some (.ref 5), some (.ref k), some (.int x2), none], [.int s0], g, iv) = if ¬ s0 = (-1) then pm_at X d 73 (42, [some (.ref 5), some (.ref k), some (.int x2), some (.int s0)], [], g, iv) else pm_at X d 73 (40, [some (.ref 5), some (.ref k), some (.int x2), some (.int s0)], [], g, iv) := by
  refine (at_istore_n dc73_34 rfl).trans ?_
  refine (at_iload_n dc73_35 rfl).trans ?_
  refine (at_iconst (v := (-1)) dc73_36 rfl).trans ?_
  exact at_icmp_ne (t := 42) dc73_37 (by decide)
theorem b73_40 {X : pm_X} {d : Nat} {x2 : Int32} {x3 : Int32} {k : Nat} {g : pm_G} {iv : pm_V}  : pm_at X d 73 (40, [some (.ref 5), some (.ref k), some (.int x2), some (.int x3)], [], g, iv) = some (some (.int 0), g, iv) := by
  refine (at_iconst (v := 0) dc73_40 rfl).trans ?_
  exact at_zret dc73_41 mr73 (by decide)
theorem b73_42 {X : pm_X} {d : Nat} {x2 : Int32} {x3 : Int32} {k : Nat} {g : pm_G} {iv : pm_V} (hK : pm_sl g k) : pm_at X d 73 (42, [some (.ref 5), some (.ref k), some (.int x2), some (.int x3)], [], g, iv) = pm_then X d 73 48 [some (.ref 5), some (.ref k), some (.int x2), some (.int x3)] [] (pm_c X d 49 [.ref k, .int x2, .int x3] g iv) := by
  refine (at_aload_n dc73_42 rfl).trans ?_
  refine (at_iload_n dc73_43 rfl).trans ?_
  refine (at_iload_n dc73_44 rfl).trans ?_
  exact at_inv dc73_45 mc73 lm4_69 rfl rfl (Nat.le_of_ble_eq_true rfl) (Or.inl ⟨hK.1, by decide⟩)
theorem b73_48 {X : pm_X} {d : Nat} {x2 : Int32} {x3 : Int32} {k : Nat} {g : pm_G} {iv : pm_V} (hL : pm_lay g) : pm_at X d 73 (48, [some (.ref 5), some (.ref k), some (.int x2), some (.int x3)], [], g, iv) = pm_then X d 73 52 [some (.ref 5), some (.ref k), some (.int x2), some (.int x3)] [] (pm_c X d 77 [.ref 5] g iv) := by
  refine (at_aload_n dc73_48 rfl).trans ?_
  exact at_inv dc73_49 mc73 lm4_75 rfl rfl (Nat.le_of_ble_eq_true rfl) (Or.inl ⟨(ly5 hL), by decide⟩)
theorem b73_52 {X : pm_X} {d : Nat} {x2 : Int32} {x3 : Int32} {s0 : Int32} {k : Nat} {g : pm_G} {iv : pm_V}  : pm_at X d 73 (52, [some (.ref 5), some (.ref k), some (.int x2), some (.int x3)], [.int s0], g, iv) = pm_zr s0 (some (some (.int s0), g, iv)) := by
  exact at_zretG dc73_52 mr73
-- Tape.readStone (LHillHouses$Slope;)Z
theorem dc74_0 : decode (pm_mb 74) 0 = .ok (.aload_n 0, 1) := by decide +kernel
theorem dc74_1 : decode (pm_mb 74) 1 = .ok (.invokevirtual 32, 3) := by decide +kernel
theorem dc74_4 : decode (pm_mb 74) 4 = .ok (.aload_n 0, 1) := by decide +kernel
theorem dc74_5 : decode (pm_mb 74) 5 = .ok (.iconst 0, 1) := by decide +kernel
theorem dc74_6 : decode (pm_mb 74) 6 = .ok (.aload_n 1, 1) := by decide +kernel
theorem dc74_7 : decode (pm_mb 74) 7 = .ok (.invokevirtual 79, 3) := by decide +kernel
theorem dc74_10 : decode (pm_mb 74) 10 = .ok (.iconst 1, 1) := by decide +kernel
theorem dc74_11 : decode (pm_mb 74) 11 = .ok (.isub, 1) := by decide +kernel
theorem dc74_12 : decode (pm_mb 74) 12 = .ok (.invokevirtual 65, 3) := by decide +kernel
theorem dc74_15 : decode (pm_mb 74) 15 = .ok (.istore_n 2, 1) := by decide +kernel
theorem dc74_16 : decode (pm_mb 74) 16 = .ok (.iload_n 2, 1) := by decide +kernel
theorem dc74_17 : decode (pm_mb 74) 17 = .ok (.iconst (-1), 1) := by decide +kernel
theorem dc74_18 : decode (pm_mb 74) 18 = .ok (.if_icmp .ne 7, 3) := by decide +kernel
theorem dc74_21 : decode (pm_mb 74) 21 = .ok (.iconst (-1), 1) := by decide +kernel
theorem dc74_22 : decode (pm_mb 74) 22 = .ok (.goto 14, 3) := by decide +kernel
theorem dc74_25 : decode (pm_mb 74) 25 = .ok (.aload_n 0, 1) := by decide +kernel
theorem dc74_26 : decode (pm_mb 74) 26 = .ok (.iconst 0, 1) := by decide +kernel
theorem dc74_27 : decode (pm_mb 74) 27 = .ok (.aload_n 1, 1) := by decide +kernel
theorem dc74_28 : decode (pm_mb 74) 28 = .ok (.invokevirtual 83, 3) := by decide +kernel
theorem dc74_31 : decode (pm_mb 74) 31 = .ok (.iconst 1, 1) := by decide +kernel
theorem dc74_32 : decode (pm_mb 74) 32 = .ok (.isub, 1) := by decide +kernel
theorem dc74_33 : decode (pm_mb 74) 33 = .ok (.invokevirtual 65, 3) := by decide +kernel
theorem dc74_36 : decode (pm_mb 74) 36 = .ok (.istore_n 3, 1) := by decide +kernel
theorem dc74_37 : decode (pm_mb 74) 37 = .ok (.iload_n 3, 1) := by decide +kernel
theorem dc74_38 : decode (pm_mb 74) 38 = .ok (.iconst (-1), 1) := by decide +kernel
theorem dc74_39 : decode (pm_mb 74) 39 = .ok (.if_icmp .ne 5, 3) := by decide +kernel
theorem dc74_42 : decode (pm_mb 74) 42 = .ok (.iconst 0, 1) := by decide +kernel
theorem dc74_43 : decode (pm_mb 74) 43 = .ok (.ireturn, 1) := by decide +kernel
theorem dc74_44 : decode (pm_mb 74) 44 = .ok (.aload_n 1, 1) := by decide +kernel
theorem dc74_45 : decode (pm_mb 74) 45 = .ok (.iload_n 2, 1) := by decide +kernel
theorem dc74_46 : decode (pm_mb 74) 46 = .ok (.iload_n 3, 1) := by decide +kernel
theorem dc74_47 : decode (pm_mb 74) 47 = .ok (.invokevirtual 86, 3) := by decide +kernel
theorem dc74_50 : decode (pm_mb 74) 50 = .ok (.aload_n 0, 1) := by decide +kernel
theorem dc74_51 : decode (pm_mb 74) 51 = .ok (.invokevirtual 75, 3) := by decide +kernel
theorem dc74_54 : decode (pm_mb 74) 54 = .ok (.ireturn, 1) := by decide +kernel
theorem b74_0 {X : pm_X} {d : Nat} {k : Nat} {g : pm_G} {iv : pm_V} (hL : pm_lay g) : pm_at X d 74 (0, [some (.ref 5), some (.ref k), none, none], [], g, iv) = pm_then X d 74 4 [some (.ref 5), some (.ref k), none, none] [] (pm_c X d 83 [.ref 5] g iv) := by
  refine (at_aload_n dc74_0 rfl).trans ?_
  exact at_inv dc74_1 mc74 lm4_32 rfl rfl (Nat.le_of_ble_eq_true rfl) (Or.inl ⟨(ly5 hL), by decide⟩)
theorem b74_4 {X : pm_X} {d : Nat} {k : Nat} {g : pm_G} {iv : pm_V} (hK : pm_sl g k) : pm_at X d 74 (4, [some (.ref 5), some (.ref k), none, none], [], g, iv) = pm_then X d 74 10 [some (.ref 5), some (.ref k), none, none] [.int 0, .ref 5] (pm_c X d 27 [.ref k] g iv) := by
  refine (at_aload_n dc74_4 rfl).trans ?_
  refine (at_iconst (v := 0) dc74_5 rfl).trans ?_
  refine (at_aload_n dc74_6 rfl).trans ?_
  exact at_inv dc74_7 mc74 lm4_79 rfl rfl (Nat.le_of_ble_eq_true rfl) (Or.inl ⟨hK.1, by decide⟩)
theorem b74_10 {X : pm_X} {d : Nat} {s0 : Int32} {s1 : Int32} {k : Nat} {g : pm_G} {iv : pm_V} (hL : pm_lay g) : pm_at X d 74 (10, [some (.ref 5), some (.ref k), none, none], [.int s0, .int s1, .ref 5], g, iv) = pm_then X d 74 15 [some (.ref 5), some (.ref k), none, none] [] (pm_c X d 78 [.ref 5, .int s1, .int (s0 - 1)] g iv) := by
  refine (at_iconst (v := 1) dc74_10 rfl).trans ?_
  refine (at_isub dc74_11).trans ?_
  exact at_inv dc74_12 mc74 lm4_65 rfl rfl (Nat.le_of_ble_eq_true rfl) (Or.inl ⟨(ly5 hL), by decide⟩)
theorem b74_15 {X : pm_X} {d : Nat} {s0 : Int32} {k : Nat} {g : pm_G} {iv : pm_V}  : pm_at X d 74 (15, [some (.ref 5), some (.ref k), none, none], [.int s0], g, iv) = if ¬ s0 = (-1) then pm_at X d 74 (25, [some (.ref 5), some (.ref k), some (.int s0), none], [], g, iv) else pm_at X d 74 (21, [some (.ref 5), some (.ref k), some (.int s0), none], [], g, iv) := by
  refine (at_istore_n dc74_15 rfl).trans ?_
  refine (at_iload_n dc74_16 rfl).trans ?_
  refine (at_iconst (v := (-1)) dc74_17 rfl).trans ?_
  exact at_icmp_ne (t := 25) dc74_18 (by decide)
theorem b74_21 {X : pm_X} {d : Nat} {x2 : Int32} {k : Nat} {g : pm_G} {iv : pm_V}  : pm_at X d 74 (21, [some (.ref 5), some (.ref k), some (.int x2), none], [], g, iv) = pm_at X d 74 (36, [some (.ref 5), some (.ref k), some (.int x2), none], [.int (-1)], g, iv) := by
  refine (at_iconst (v := (-1)) dc74_21 rfl).trans ?_
  refine (at_goto (t := 36) dc74_22 (by decide)).trans ?_
  rfl
theorem b74_25 {X : pm_X} {d : Nat} {x2 : Int32} {k : Nat} {g : pm_G} {iv : pm_V} (hK : pm_sl g k) : pm_at X d 74 (25, [some (.ref 5), some (.ref k), some (.int x2), none], [], g, iv) = pm_then X d 74 31 [some (.ref 5), some (.ref k), some (.int x2), none] [.int 0, .ref 5] (pm_c X d 28 [.ref k] g iv) := by
  refine (at_aload_n dc74_25 rfl).trans ?_
  refine (at_iconst (v := 0) dc74_26 rfl).trans ?_
  refine (at_aload_n dc74_27 rfl).trans ?_
  exact at_inv dc74_28 mc74 lm4_83 rfl rfl (Nat.le_of_ble_eq_true rfl) (Or.inl ⟨hK.1, by decide⟩)
theorem b74_31 {X : pm_X} {d : Nat} {x2 : Int32} {s0 : Int32} {s1 : Int32} {k : Nat} {g : pm_G} {iv : pm_V} (hL : pm_lay g) : pm_at X d 74 (31, [some (.ref 5), some (.ref k), some (.int x2), none], [.int s0, .int s1, .ref 5], g, iv) = pm_then X d 74 36 [some (.ref 5), some (.ref k), some (.int x2), none] [] (pm_c X d 78 [.ref 5, .int s1, .int (s0 - 1)] g iv) := by
  refine (at_iconst (v := 1) dc74_31 rfl).trans ?_
  refine (at_isub dc74_32).trans ?_
  exact at_inv dc74_33 mc74 lm4_65 rfl rfl (Nat.le_of_ble_eq_true rfl) (Or.inl ⟨(ly5 hL), by decide⟩)
theorem b74_36 {X : pm_X} {d : Nat} {x2 : Int32} {s0 : Int32} {k : Nat} {g : pm_G} {iv : pm_V}  : pm_at X d 74 (36, [some (.ref 5), some (.ref k), some (.int x2), none], [.int s0], g, iv) = if ¬ s0 = (-1) then pm_at X d 74 (44, [some (.ref 5), some (.ref k), some (.int x2), some (.int s0)], [], g, iv) else pm_at X d 74 (42, [some (.ref 5), some (.ref k), some (.int x2), some (.int s0)], [], g, iv) := by
  refine (at_istore_n dc74_36 rfl).trans ?_
  refine (at_iload_n dc74_37 rfl).trans ?_
  refine (at_iconst (v := (-1)) dc74_38 rfl).trans ?_
  exact at_icmp_ne (t := 44) dc74_39 (by decide)
theorem b74_42 {X : pm_X} {d : Nat} {x2 : Int32} {x3 : Int32} {k : Nat} {g : pm_G} {iv : pm_V}  : pm_at X d 74 (42, [some (.ref 5), some (.ref k), some (.int x2), some (.int x3)], [], g, iv) = some (some (.int 0), g, iv) := by
  refine (at_iconst (v := 0) dc74_42 rfl).trans ?_
  exact at_zret dc74_43 mr74 (by decide)
theorem b74_44 {X : pm_X} {d : Nat} {x2 : Int32} {x3 : Int32} {k : Nat} {g : pm_G} {iv : pm_V} (hK : pm_sl g k) : pm_at X d 74 (44, [some (.ref 5), some (.ref k), some (.int x2), some (.int x3)], [], g, iv) = pm_then X d 74 50 [some (.ref 5), some (.ref k), some (.int x2), some (.int x3)] [] (pm_c X d 50 [.ref k, .int x2, .int x3] g iv) := by
  refine (at_aload_n dc74_44 rfl).trans ?_
  refine (at_iload_n dc74_45 rfl).trans ?_
  refine (at_iload_n dc74_46 rfl).trans ?_
  exact at_inv dc74_47 mc74 lm4_86 rfl rfl (Nat.le_of_ble_eq_true rfl) (Or.inl ⟨hK.1, by decide⟩)
theorem b74_50 {X : pm_X} {d : Nat} {x2 : Int32} {x3 : Int32} {k : Nat} {g : pm_G} {iv : pm_V} (hL : pm_lay g) : pm_at X d 74 (50, [some (.ref 5), some (.ref k), some (.int x2), some (.int x3)], [], g, iv) = pm_then X d 74 54 [some (.ref 5), some (.ref k), some (.int x2), some (.int x3)] [] (pm_c X d 77 [.ref 5] g iv) := by
  refine (at_aload_n dc74_50 rfl).trans ?_
  exact at_inv dc74_51 mc74 lm4_75 rfl rfl (Nat.le_of_ble_eq_true rfl) (Or.inl ⟨(ly5 hL), by decide⟩)
theorem b74_54 {X : pm_X} {d : Nat} {x2 : Int32} {x3 : Int32} {s0 : Int32} {k : Nat} {g : pm_G} {iv : pm_V}  : pm_at X d 74 (54, [some (.ref 5), some (.ref k), some (.int x2), some (.int x3)], [.int s0], g, iv) = pm_zr s0 (some (some (.int s0), g, iv)) := by
  exact at_zretG dc74_54 mr74
-- Tape.readHouse (LHillHouses$Slope;)Z
theorem dc75_0 : decode (pm_mb 75) 0 = .ok (.aload_n 0, 1) := by decide +kernel
theorem dc75_1 : decode (pm_mb 75) 1 = .ok (.invokevirtual 32, 3) := by decide +kernel
theorem dc75_4 : decode (pm_mb 75) 4 = .ok (.aload_n 0, 1) := by decide +kernel
theorem dc75_5 : decode (pm_mb 75) 5 = .ok (.invokevirtual 89, 3) := by decide +kernel
theorem dc75_8 : decode (pm_mb 75) 8 = .ok (.istore_n 2, 1) := by decide +kernel
theorem dc75_9 : decode (pm_mb 75) 9 = .ok (.iload_n 2, 1) := by decide +kernel
theorem dc75_10 : decode (pm_mb 75) 10 = .ok (.iconst (-1), 1) := by decide +kernel
theorem dc75_11 : decode (pm_mb 75) 11 = .ok (.if_icmp .ne 7, 3) := by decide +kernel
theorem dc75_14 : decode (pm_mb 75) 14 = .ok (.iconst (-1), 1) := by decide +kernel
theorem dc75_15 : decode (pm_mb 75) 15 = .ok (.goto 14, 3) := by decide +kernel
theorem dc75_18 : decode (pm_mb 75) 18 = .ok (.aload_n 0, 1) := by decide +kernel
theorem dc75_19 : decode (pm_mb 75) 19 = .ok (.iconst 0, 1) := by decide +kernel
theorem dc75_20 : decode (pm_mb 75) 20 = .ok (.aload_n 1, 1) := by decide +kernel
theorem dc75_21 : decode (pm_mb 75) 21 = .ok (.invokevirtual 79, 3) := by decide +kernel
theorem dc75_24 : decode (pm_mb 75) 24 = .ok (.iconst 1, 1) := by decide +kernel
theorem dc75_25 : decode (pm_mb 75) 25 = .ok (.isub, 1) := by decide +kernel
theorem dc75_26 : decode (pm_mb 75) 26 = .ok (.invokevirtual 65, 3) := by decide +kernel
theorem dc75_29 : decode (pm_mb 75) 29 = .ok (.istore_n 3, 1) := by decide +kernel
theorem dc75_30 : decode (pm_mb 75) 30 = .ok (.iload_n 3, 1) := by decide +kernel
theorem dc75_31 : decode (pm_mb 75) 31 = .ok (.iconst (-1), 1) := by decide +kernel
theorem dc75_32 : decode (pm_mb 75) 32 = .ok (.if_icmp .ne 5, 3) := by decide +kernel
theorem dc75_35 : decode (pm_mb 75) 35 = .ok (.iconst 0, 1) := by decide +kernel
theorem dc75_36 : decode (pm_mb 75) 36 = .ok (.ireturn, 1) := by decide +kernel
theorem dc75_37 : decode (pm_mb 75) 37 = .ok (.aload_n 0, 1) := by decide +kernel
theorem dc75_38 : decode (pm_mb 75) 38 = .ok (.getfield 57, 3) := by decide +kernel
theorem dc75_41 : decode (pm_mb 75) 41 = .ok (.iconst 2, 1) := by decide +kernel
theorem dc75_42 : decode (pm_mb 75) 42 = .ok (.if_icmp .ne 34, 3) := by decide +kernel
theorem dc75_45 : decode (pm_mb 75) 45 = .ok (.aload_n 1, 1) := by decide +kernel
theorem dc75_46 : decode (pm_mb 75) 46 = .ok (.aload_n 0, 1) := by decide +kernel
theorem dc75_47 : decode (pm_mb 75) 47 = .ok (.getfield 92, 3) := by decide +kernel
theorem dc75_50 : decode (pm_mb 75) 50 = .ok (.invokevirtual 95, 3) := by decide +kernel
theorem dc75_53 : decode (pm_mb 75) 53 = .ok (.ifCond .eq 23, 3) := by decide +kernel
theorem dc75_56 : decode (pm_mb 75) 56 = .ok (.aload_n 1, 1) := by decide +kernel
theorem dc75_57 : decode (pm_mb 75) 57 = .ok (.iload_n 3, 1) := by decide +kernel
theorem dc75_58 : decode (pm_mb 75) 58 = .ok (.aload_n 0, 1) := by decide +kernel
theorem dc75_59 : decode (pm_mb 75) 59 = .ok (.getfield 92, 3) := by decide +kernel
theorem dc75_62 : decode (pm_mb 75) 62 = .ok (.invokevirtual 98, 3) := by decide +kernel
theorem dc75_65 : decode (pm_mb 75) 65 = .ok (.bipush (-2), 2) := by decide +kernel
theorem dc75_67 : decode (pm_mb 75) 67 = .ok (.if_icmp .eq 9, 3) := by decide +kernel
theorem dc75_70 : decode (pm_mb 75) 70 = .ok (.aload_n 0, 1) := by decide +kernel
theorem dc75_71 : decode (pm_mb 75) 71 = .ok (.iconst 2, 1) := by decide +kernel
theorem dc75_72 : decode (pm_mb 75) 72 = .ok (.invokevirtual 45, 3) := by decide +kernel
theorem dc75_75 : decode (pm_mb 75) 75 = .ok (.ireturn, 1) := by decide +kernel
theorem dc75_76 : decode (pm_mb 75) 76 = .ok (.aload_n 0, 1) := by decide +kernel
theorem dc75_77 : decode (pm_mb 75) 77 = .ok (.iconst 0, 1) := by decide +kernel
theorem dc75_78 : decode (pm_mb 75) 78 = .ok (.aload_n 1, 1) := by decide +kernel
theorem dc75_79 : decode (pm_mb 75) 79 = .ok (.invokevirtual 83, 3) := by decide +kernel
theorem dc75_82 : decode (pm_mb 75) 82 = .ok (.iconst 1, 1) := by decide +kernel
theorem dc75_83 : decode (pm_mb 75) 83 = .ok (.isub, 1) := by decide +kernel
theorem dc75_84 : decode (pm_mb 75) 84 = .ok (.invokevirtual 65, 3) := by decide +kernel
theorem dc75_87 : decode (pm_mb 75) 87 = .ok (.istore 4, 2) := by decide +kernel
theorem dc75_89 : decode (pm_mb 75) 89 = .ok (.iload 4, 2) := by decide +kernel
theorem dc75_91 : decode (pm_mb 75) 91 = .ok (.iconst (-1), 1) := by decide +kernel
theorem dc75_92 : decode (pm_mb 75) 92 = .ok (.if_icmp .ne 7, 3) := by decide +kernel
theorem dc75_95 : decode (pm_mb 75) 95 = .ok (.iconst (-1), 1) := by decide +kernel
theorem dc75_96 : decode (pm_mb 75) 96 = .ok (.goto 10, 3) := by decide +kernel
theorem dc75_99 : decode (pm_mb 75) 99 = .ok (.aload_n 0, 1) := by decide +kernel
theorem dc75_100 : decode (pm_mb 75) 100 = .ok (.iconst 1, 1) := by decide +kernel
theorem dc75_101 : decode (pm_mb 75) 101 = .ok (.bipush 20, 2) := by decide +kernel
theorem dc75_103 : decode (pm_mb 75) 103 = .ok (.invokevirtual 65, 3) := by decide +kernel
theorem dc75_106 : decode (pm_mb 75) 106 = .ok (.istore 5, 2) := by decide +kernel
theorem dc75_108 : decode (pm_mb 75) 108 = .ok (.iload 5, 2) := by decide +kernel
theorem dc75_110 : decode (pm_mb 75) 110 = .ok (.iconst (-1), 1) := by decide +kernel
theorem dc75_111 : decode (pm_mb 75) 111 = .ok (.if_icmp .ne 5, 3) := by decide +kernel
theorem dc75_114 : decode (pm_mb 75) 114 = .ok (.iconst 0, 1) := by decide +kernel
theorem dc75_115 : decode (pm_mb 75) 115 = .ok (.ireturn, 1) := by decide +kernel
theorem dc75_116 : decode (pm_mb 75) 116 = .ok (.aload_n 1, 1) := by decide +kernel
theorem dc75_117 : decode (pm_mb 75) 117 = .ok (.iload_n 2, 1) := by decide +kernel
theorem dc75_118 : decode (pm_mb 75) 118 = .ok (.iload 5, 2) := by decide +kernel
theorem dc75_120 : decode (pm_mb 75) 120 = .ok (.iload_n 3, 1) := by decide +kernel
theorem dc75_121 : decode (pm_mb 75) 121 = .ok (.iload 4, 2) := by decide +kernel
theorem dc75_123 : decode (pm_mb 75) 123 = .ok (.invokevirtual 101, 3) := by decide +kernel
theorem dc75_126 : decode (pm_mb 75) 126 = .ok (.aload_n 0, 1) := by decide +kernel
theorem dc75_127 : decode (pm_mb 75) 127 = .ok (.invokevirtual 75, 3) := by decide +kernel
theorem dc75_130 : decode (pm_mb 75) 130 = .ok (.ireturn, 1) := by decide +kernel
theorem b75_0 {X : pm_X} {d : Nat} {k : Nat} {g : pm_G} {iv : pm_V} (hL : pm_lay g) : pm_at X d 75 (0, [some (.ref 5), some (.ref k), none, none, none, none], [], g, iv) = pm_then X d 75 4 [some (.ref 5), some (.ref k), none, none, none, none] [] (pm_c X d 83 [.ref 5] g iv) := by
  refine (at_aload_n dc75_0 rfl).trans ?_
  exact at_inv dc75_1 mc75 lm4_32 rfl rfl (Nat.le_of_ble_eq_true rfl) (Or.inl ⟨(ly5 hL), by decide⟩)
theorem b75_4 {X : pm_X} {d : Nat} {k : Nat} {g : pm_G} {iv : pm_V} (hL : pm_lay g) : pm_at X d 75 (4, [some (.ref 5), some (.ref k), none, none, none, none], [], g, iv) = pm_then X d 75 8 [some (.ref 5), some (.ref k), none, none, none, none] [] (pm_c X d 79 [.ref 5] g iv) := by
  refine (at_aload_n dc75_4 rfl).trans ?_
  exact at_inv dc75_5 mc75 lm4_89 rfl rfl (Nat.le_of_ble_eq_true rfl) (Or.inl ⟨(ly5 hL), by decide⟩)
theorem b75_8 {X : pm_X} {d : Nat} {s0 : Int32} {k : Nat} {g : pm_G} {iv : pm_V}  : pm_at X d 75 (8, [some (.ref 5), some (.ref k), none, none, none, none], [.int s0], g, iv) = if ¬ s0 = (-1) then pm_at X d 75 (18, [some (.ref 5), some (.ref k), some (.int s0), none, none, none], [], g, iv) else pm_at X d 75 (14, [some (.ref 5), some (.ref k), some (.int s0), none, none, none], [], g, iv) := by
  refine (at_istore_n dc75_8 rfl).trans ?_
  refine (at_iload_n dc75_9 rfl).trans ?_
  refine (at_iconst (v := (-1)) dc75_10 rfl).trans ?_
  exact at_icmp_ne (t := 18) dc75_11 (by decide)
theorem b75_14 {X : pm_X} {d : Nat} {x2 : Int32} {k : Nat} {g : pm_G} {iv : pm_V}  : pm_at X d 75 (14, [some (.ref 5), some (.ref k), some (.int x2), none, none, none], [], g, iv) = pm_at X d 75 (29, [some (.ref 5), some (.ref k), some (.int x2), none, none, none], [.int (-1)], g, iv) := by
  refine (at_iconst (v := (-1)) dc75_14 rfl).trans ?_
  refine (at_goto (t := 29) dc75_15 (by decide)).trans ?_
  rfl
theorem b75_18 {X : pm_X} {d : Nat} {x2 : Int32} {k : Nat} {g : pm_G} {iv : pm_V} (hK : pm_sl g k) : pm_at X d 75 (18, [some (.ref 5), some (.ref k), some (.int x2), none, none, none], [], g, iv) = pm_then X d 75 24 [some (.ref 5), some (.ref k), some (.int x2), none, none, none] [.int 0, .ref 5] (pm_c X d 27 [.ref k] g iv) := by
  refine (at_aload_n dc75_18 rfl).trans ?_
  refine (at_iconst (v := 0) dc75_19 rfl).trans ?_
  refine (at_aload_n dc75_20 rfl).trans ?_
  exact at_inv dc75_21 mc75 lm4_79 rfl rfl (Nat.le_of_ble_eq_true rfl) (Or.inl ⟨hK.1, by decide⟩)
theorem b75_24 {X : pm_X} {d : Nat} {x2 : Int32} {s0 : Int32} {s1 : Int32} {k : Nat} {g : pm_G} {iv : pm_V} (hL : pm_lay g) : pm_at X d 75 (24, [some (.ref 5), some (.ref k), some (.int x2), none, none, none], [.int s0, .int s1, .ref 5], g, iv) = pm_then X d 75 29 [some (.ref 5), some (.ref k), some (.int x2), none, none, none] [] (pm_c X d 78 [.ref 5, .int s1, .int (s0 - 1)] g iv) := by
  refine (at_iconst (v := 1) dc75_24 rfl).trans ?_
  refine (at_isub dc75_25).trans ?_
  exact at_inv dc75_26 mc75 lm4_65 rfl rfl (Nat.le_of_ble_eq_true rfl) (Or.inl ⟨(ly5 hL), by decide⟩)
theorem b75_29 {X : pm_X} {d : Nat} {x2 : Int32} {s0 : Int32} {k : Nat} {g : pm_G} {iv : pm_V}  : pm_at X d 75 (29, [some (.ref 5), some (.ref k), some (.int x2), none, none, none], [.int s0], g, iv) = if ¬ s0 = (-1) then pm_at X d 75 (37, [some (.ref 5), some (.ref k), some (.int x2), some (.int s0), none, none], [], g, iv) else pm_at X d 75 (35, [some (.ref 5), some (.ref k), some (.int x2), some (.int s0), none, none], [], g, iv) := by
  refine (at_istore_n dc75_29 rfl).trans ?_
  refine (at_iload_n dc75_30 rfl).trans ?_
  refine (at_iconst (v := (-1)) dc75_31 rfl).trans ?_
  exact at_icmp_ne (t := 37) dc75_32 (by decide)
theorem b75_35 {X : pm_X} {d : Nat} {x2 : Int32} {x3 : Int32} {k : Nat} {g : pm_G} {iv : pm_V}  : pm_at X d 75 (35, [some (.ref 5), some (.ref k), some (.int x2), some (.int x3), none, none], [], g, iv) = some (some (.int 0), g, iv) := by
  refine (at_iconst (v := 0) dc75_35 rfl).trans ?_
  exact at_zret dc75_36 mr75 (by decide)
theorem b75_37 {X : pm_X} {d : Nat} {x2 : Int32} {x3 : Int32} {k : Nat} {g : pm_G} {iv : pm_V} (hL : pm_lay g) : pm_at X d 75 (37, [some (.ref 5), some (.ref k), some (.int x2), some (.int x3), none, none], [], g, iv) = if ¬ (iv 5 2) = 2 then pm_at X d 75 (76, [some (.ref 5), some (.ref k), some (.int x2), some (.int x3), none, none], [], g, iv) else pm_at X d 75 (45, [some (.ref 5), some (.ref k), some (.int x2), some (.int x3), none, none], [], g, iv) := by
  refine (at_aload_n dc75_37 rfl).trans ?_
  refine (at_gfI dc75_38 mc75 lf4_57 fo4_2 (ly5 hL)).trans ?_
  refine (at_iconst (v := 2) dc75_41 rfl).trans ?_
  exact at_icmp_ne (t := 76) dc75_42 (by decide)
theorem b75_45 {X : pm_X} {d : Nat} {x2 : Int32} {x3 : Int32} {k : Nat} {g : pm_G} {iv : pm_V} (hL : pm_lay g) (hK : pm_sl g k) : pm_at X d 75 (45, [some (.ref 5), some (.ref k), some (.int x2), some (.int x3), none, none], [], g, iv) = pm_then X d 75 53 [some (.ref 5), some (.ref k), some (.int x2), some (.int x3), none, none] [] (pm_c X d 34 [.ref k, .int (iv 5 5)] g iv) := by
  refine (at_aload_n dc75_45 rfl).trans ?_
  refine (at_aload_n dc75_46 rfl).trans ?_
  refine (at_gfI dc75_47 mc75 lf4_92 fo4_5 (ly5 hL)).trans ?_
  exact at_inv dc75_50 mc75 lm4_95 rfl rfl (Nat.le_of_ble_eq_true rfl) (Or.inl ⟨hK.1, by decide⟩)
theorem b75_53 {X : pm_X} {d : Nat} {x2 : Int32} {x3 : Int32} {s0 : Int32} {k : Nat} {g : pm_G} {iv : pm_V}  : pm_at X d 75 (53, [some (.ref 5), some (.ref k), some (.int x2), some (.int x3), none, none], [.int s0], g, iv) = if s0 = 0 then pm_at X d 75 (76, [some (.ref 5), some (.ref k), some (.int x2), some (.int x3), none, none], [], g, iv) else pm_at X d 75 (56, [some (.ref 5), some (.ref k), some (.int x2), some (.int x3), none, none], [], g, iv) := by
  exact at_if_eq (t := 76) dc75_53 (by decide)
theorem b75_56 {X : pm_X} {d : Nat} {x2 : Int32} {x3 : Int32} {k : Nat} {g : pm_G} {iv : pm_V} (hL : pm_lay g) (hK : pm_sl g k) : pm_at X d 75 (56, [some (.ref 5), some (.ref k), some (.int x2), some (.int x3), none, none], [], g, iv) = pm_then X d 75 65 [some (.ref 5), some (.ref k), some (.int x2), some (.int x3), none, none] [] (pm_c X d 45 [.ref k, .int x3, .int (iv 5 5)] g iv) := by
  refine (at_aload_n dc75_56 rfl).trans ?_
  refine (at_iload_n dc75_57 rfl).trans ?_
  refine (at_aload_n dc75_58 rfl).trans ?_
  refine (at_gfI dc75_59 mc75 lf4_92 fo4_5 (ly5 hL)).trans ?_
  exact at_inv dc75_62 mc75 lm4_98 rfl rfl (Nat.le_of_ble_eq_true rfl) (Or.inl ⟨hK.1, by decide⟩)
theorem b75_65 {X : pm_X} {d : Nat} {x2 : Int32} {x3 : Int32} {s0 : Int32} {k : Nat} {g : pm_G} {iv : pm_V}  : pm_at X d 75 (65, [some (.ref 5), some (.ref k), some (.int x2), some (.int x3), none, none], [.int s0], g, iv) = if s0 = (-2) then pm_at X d 75 (76, [some (.ref 5), some (.ref k), some (.int x2), some (.int x3), none, none], [], g, iv) else pm_at X d 75 (70, [some (.ref 5), some (.ref k), some (.int x2), some (.int x3), none, none], [], g, iv) := by
  refine (at_bipush (v := (-2)) dc75_65 (by decide)).trans ?_
  exact at_icmp_eq (t := 76) dc75_67 (by decide)
theorem b75_70 {X : pm_X} {d : Nat} {x2 : Int32} {x3 : Int32} {k : Nat} {g : pm_G} {iv : pm_V} (hL : pm_lay g) : pm_at X d 75 (70, [some (.ref 5), some (.ref k), some (.int x2), some (.int x3), none, none], [], g, iv) = pm_then X d 75 75 [some (.ref 5), some (.ref k), some (.int x2), some (.int x3), none, none] [] (pm_c X d 81 [.ref 5, .int 2] g iv) := by
  refine (at_aload_n dc75_70 rfl).trans ?_
  refine (at_iconst (v := 2) dc75_71 rfl).trans ?_
  exact at_inv dc75_72 mc75 lm4_45 rfl rfl (Nat.le_of_ble_eq_true rfl) (Or.inl ⟨(ly5 hL), by decide⟩)
theorem b75_75 {X : pm_X} {d : Nat} {x2 : Int32} {x3 : Int32} {s0 : Int32} {k : Nat} {g : pm_G} {iv : pm_V}  : pm_at X d 75 (75, [some (.ref 5), some (.ref k), some (.int x2), some (.int x3), none, none], [.int s0], g, iv) = pm_zr s0 (some (some (.int s0), g, iv)) := by
  exact at_zretG dc75_75 mr75
theorem b75_76 {X : pm_X} {d : Nat} {x2 : Int32} {x3 : Int32} {k : Nat} {g : pm_G} {iv : pm_V} (hK : pm_sl g k) : pm_at X d 75 (76, [some (.ref 5), some (.ref k), some (.int x2), some (.int x3), none, none], [], g, iv) = pm_then X d 75 82 [some (.ref 5), some (.ref k), some (.int x2), some (.int x3), none, none] [.int 0, .ref 5] (pm_c X d 28 [.ref k] g iv) := by
  refine (at_aload_n dc75_76 rfl).trans ?_
  refine (at_iconst (v := 0) dc75_77 rfl).trans ?_
  refine (at_aload_n dc75_78 rfl).trans ?_
  exact at_inv dc75_79 mc75 lm4_83 rfl rfl (Nat.le_of_ble_eq_true rfl) (Or.inl ⟨hK.1, by decide⟩)
theorem b75_82 {X : pm_X} {d : Nat} {x2 : Int32} {x3 : Int32} {s0 : Int32} {s1 : Int32} {k : Nat} {g : pm_G} {iv : pm_V} (hL : pm_lay g) : pm_at X d 75 (82, [some (.ref 5), some (.ref k), some (.int x2), some (.int x3), none, none], [.int s0, .int s1, .ref 5], g, iv) = pm_then X d 75 87 [some (.ref 5), some (.ref k), some (.int x2), some (.int x3), none, none] [] (pm_c X d 78 [.ref 5, .int s1, .int (s0 - 1)] g iv) := by
  refine (at_iconst (v := 1) dc75_82 rfl).trans ?_
  refine (at_isub dc75_83).trans ?_
  exact at_inv dc75_84 mc75 lm4_65 rfl rfl (Nat.le_of_ble_eq_true rfl) (Or.inl ⟨(ly5 hL), by decide⟩)
theorem b75_87 {X : pm_X} {d : Nat} {x2 : Int32} {x3 : Int32} {s0 : Int32} {k : Nat} {g : pm_G} {iv : pm_V}  : pm_at X d 75 (87, [some (.ref 5), some (.ref k), some (.int x2), some (.int x3), none, none], [.int s0], g, iv) = if ¬ s0 = (-1) then pm_at X d 75 (99, [some (.ref 5), some (.ref k), some (.int x2), some (.int x3), some (.int s0), none], [], g, iv) else pm_at X d 75 (95, [some (.ref 5), some (.ref k), some (.int x2), some (.int x3), some (.int s0), none], [], g, iv) := by
  refine (at_istore dc75_87 rfl).trans ?_
  refine (at_iload dc75_89 rfl).trans ?_
  refine (at_iconst (v := (-1)) dc75_91 rfl).trans ?_
  exact at_icmp_ne (t := 99) dc75_92 (by decide)
theorem b75_95 {X : pm_X} {d : Nat} {x2 : Int32} {x3 : Int32} {x4 : Int32} {k : Nat} {g : pm_G} {iv : pm_V}  : pm_at X d 75 (95, [some (.ref 5), some (.ref k), some (.int x2), some (.int x3), some (.int x4), none], [], g, iv) = pm_at X d 75 (106, [some (.ref 5), some (.ref k), some (.int x2), some (.int x3), some (.int x4), none], [.int (-1)], g, iv) := by
  refine (at_iconst (v := (-1)) dc75_95 rfl).trans ?_
  refine (at_goto (t := 106) dc75_96 (by decide)).trans ?_
  rfl
theorem b75_99 {X : pm_X} {d : Nat} {x2 : Int32} {x3 : Int32} {x4 : Int32} {k : Nat} {g : pm_G} {iv : pm_V} (hL : pm_lay g) : pm_at X d 75 (99, [some (.ref 5), some (.ref k), some (.int x2), some (.int x3), some (.int x4), none], [], g, iv) = pm_then X d 75 106 [some (.ref 5), some (.ref k), some (.int x2), some (.int x3), some (.int x4), none] [] (pm_c X d 78 [.ref 5, .int 1, .int 20] g iv) := by
  refine (at_aload_n dc75_99 rfl).trans ?_
  refine (at_iconst (v := 1) dc75_100 rfl).trans ?_
  refine (at_bipush (v := 20) dc75_101 (by decide)).trans ?_
  exact at_inv dc75_103 mc75 lm4_65 rfl rfl (Nat.le_of_ble_eq_true rfl) (Or.inl ⟨(ly5 hL), by decide⟩)
theorem b75_106 {X : pm_X} {d : Nat} {x2 : Int32} {x3 : Int32} {x4 : Int32} {s0 : Int32} {k : Nat} {g : pm_G} {iv : pm_V}  : pm_at X d 75 (106, [some (.ref 5), some (.ref k), some (.int x2), some (.int x3), some (.int x4), none], [.int s0], g, iv) = if ¬ s0 = (-1) then pm_at X d 75 (116, [some (.ref 5), some (.ref k), some (.int x2), some (.int x3), some (.int x4), some (.int s0)], [], g, iv) else pm_at X d 75 (114, [some (.ref 5), some (.ref k), some (.int x2), some (.int x3), some (.int x4), some (.int s0)], [], g, iv) := by
  refine (at_istore dc75_106 rfl).trans ?_
  refine (at_iload dc75_108 rfl).trans ?_
  refine (at_iconst (v := (-1)) dc75_110 rfl).trans ?_
  exact at_icmp_ne (t := 116) dc75_111 (by decide)
theorem b75_114 {X : pm_X} {d : Nat} {x2 : Int32} {x3 : Int32} {x4 : Int32} {x5 : Int32} {k : Nat} {g : pm_G} {iv : pm_V}  : pm_at X d 75 (114, [some (.ref 5), some (.ref k), some (.int x2), some (.int x3), some (.int x4), some (.int x5)], [], g, iv) = some (some (.int 0), g, iv) := by
  refine (at_iconst (v := 0) dc75_114 rfl).trans ?_
  exact at_zret dc75_115 mr75 (by decide)
theorem b75_116 {X : pm_X} {d : Nat} {x2 : Int32} {x3 : Int32} {x4 : Int32} {x5 : Int32} {k : Nat} {g : pm_G} {iv : pm_V} (hK : pm_sl g k) : pm_at X d 75 (116, [some (.ref 5), some (.ref k), some (.int x2), some (.int x3), some (.int x4), some (.int x5)], [], g, iv) = pm_then X d 75 126 [some (.ref 5), some (.ref k), some (.int x2), some (.int x3), some (.int x4), some (.int x5)] [] (pm_c X d 51 [.ref k, .int x2, .int x5, .int x3, .int x4] g iv) := by
  refine (at_aload_n dc75_116 rfl).trans ?_
  refine (at_iload_n dc75_117 rfl).trans ?_
  refine (at_iload dc75_118 rfl).trans ?_
  refine (at_iload_n dc75_120 rfl).trans ?_
  refine (at_iload dc75_121 rfl).trans ?_
  exact at_inv dc75_123 mc75 lm4_101 rfl rfl (Nat.le_of_ble_eq_true rfl) (Or.inl ⟨hK.1, by decide⟩)
theorem b75_126 {X : pm_X} {d : Nat} {x2 : Int32} {x3 : Int32} {x4 : Int32} {x5 : Int32} {k : Nat} {g : pm_G} {iv : pm_V} (hL : pm_lay g) : pm_at X d 75 (126, [some (.ref 5), some (.ref k), some (.int x2), some (.int x3), some (.int x4), some (.int x5)], [], g, iv) = pm_then X d 75 130 [some (.ref 5), some (.ref k), some (.int x2), some (.int x3), some (.int x4), some (.int x5)] [] (pm_c X d 77 [.ref 5] g iv) := by
  refine (at_aload_n dc75_126 rfl).trans ?_
  exact at_inv dc75_127 mc75 lm4_75 rfl rfl (Nat.le_of_ble_eq_true rfl) (Or.inl ⟨(ly5 hL), by decide⟩)
theorem b75_130 {X : pm_X} {d : Nat} {x2 : Int32} {x3 : Int32} {x4 : Int32} {x5 : Int32} {s0 : Int32} {k : Nat} {g : pm_G} {iv : pm_V}  : pm_at X d 75 (130, [some (.ref 5), some (.ref k), some (.int x2), some (.int x3), some (.int x4), some (.int x5)], [.int s0], g, iv) = pm_zr s0 (some (some (.int s0), g, iv)) := by
  exact at_zretG dc75_130 mr75
-- Tape.takeWord (Ljava/lang/String;)Z
theorem dc76_0 : decode (pm_mb 76) 0 = .ok (.aload_n 0, 1) := by decide +kernel
theorem dc76_1 : decode (pm_mb 76) 1 = .ok (.aload_n 1, 1) := by decide +kernel
theorem dc76_2 : decode (pm_mb 76) 2 = .ok (.invokevirtual 41, 3) := by decide +kernel
theorem dc76_5 : decode (pm_mb 76) 5 = .ok (.ifCond .ne 9, 3) := by decide +kernel
theorem dc76_8 : decode (pm_mb 76) 8 = .ok (.aload_n 0, 1) := by decide +kernel
theorem dc76_9 : decode (pm_mb 76) 9 = .ok (.iconst 1, 1) := by decide +kernel
theorem dc76_10 : decode (pm_mb 76) 10 = .ok (.invokevirtual 45, 3) := by decide +kernel
theorem dc76_13 : decode (pm_mb 76) 13 = .ok (.ireturn, 1) := by decide +kernel
theorem dc76_14 : decode (pm_mb 76) 14 = .ok (.aload_n 0, 1) := by decide +kernel
theorem dc76_15 : decode (pm_mb 76) 15 = .ok (.invokevirtual 32, 3) := by decide +kernel
theorem dc76_18 : decode (pm_mb 76) 18 = .ok (.iconst 1, 1) := by decide +kernel
theorem dc76_19 : decode (pm_mb 76) 19 = .ok (.ireturn, 1) := by decide +kernel
theorem b76_0 {X : pm_X} {d : Nat} {a : Nat} {g : pm_G} {iv : pm_V} (hL : pm_lay g) : pm_at X d 76 (0, [some (.ref 5), some (.ref a)], [], g, iv) = pm_then X d 76 5 [some (.ref 5), some (.ref a)] [] (pm_c X d 82 [.ref 5, .ref a] g iv) := by
  refine (at_aload_n dc76_0 rfl).trans ?_
  refine (at_aload_n dc76_1 rfl).trans ?_
  exact at_inv dc76_2 mc76 lm4_41 rfl rfl (Nat.le_of_ble_eq_true rfl) (Or.inl ⟨(ly5 hL), by decide⟩)
theorem b76_5 {X : pm_X} {d : Nat} {s0 : Int32} {a : Nat} {g : pm_G} {iv : pm_V}  : pm_at X d 76 (5, [some (.ref 5), some (.ref a)], [.int s0], g, iv) = if ¬ s0 = 0 then pm_at X d 76 (14, [some (.ref 5), some (.ref a)], [], g, iv) else pm_at X d 76 (8, [some (.ref 5), some (.ref a)], [], g, iv) := by
  exact at_if_ne (t := 14) dc76_5 (by decide)
theorem b76_8 {X : pm_X} {d : Nat} {a : Nat} {g : pm_G} {iv : pm_V} (hL : pm_lay g) : pm_at X d 76 (8, [some (.ref 5), some (.ref a)], [], g, iv) = pm_then X d 76 13 [some (.ref 5), some (.ref a)] [] (pm_c X d 81 [.ref 5, .int 1] g iv) := by
  refine (at_aload_n dc76_8 rfl).trans ?_
  refine (at_iconst (v := 1) dc76_9 rfl).trans ?_
  exact at_inv dc76_10 mc76 lm4_45 rfl rfl (Nat.le_of_ble_eq_true rfl) (Or.inl ⟨(ly5 hL), by decide⟩)
theorem b76_13 {X : pm_X} {d : Nat} {s0 : Int32} {a : Nat} {g : pm_G} {iv : pm_V}  : pm_at X d 76 (13, [some (.ref 5), some (.ref a)], [.int s0], g, iv) = pm_zr s0 (some (some (.int s0), g, iv)) := by
  exact at_zretG dc76_13 mr76
theorem b76_14 {X : pm_X} {d : Nat} {a : Nat} {g : pm_G} {iv : pm_V} (hL : pm_lay g) : pm_at X d 76 (14, [some (.ref 5), some (.ref a)], [], g, iv) = pm_then X d 76 18 [some (.ref 5), some (.ref a)] [] (pm_c X d 83 [.ref 5] g iv) := by
  refine (at_aload_n dc76_14 rfl).trans ?_
  exact at_inv dc76_15 mc76 lm4_32 rfl rfl (Nat.le_of_ble_eq_true rfl) (Or.inl ⟨(ly5 hL), by decide⟩)
theorem b76_18 {X : pm_X} {d : Nat} {a : Nat} {g : pm_G} {iv : pm_V}  : pm_at X d 76 (18, [some (.ref 5), some (.ref a)], [], g, iv) = some (some (.int 1), g, iv) := by
  refine (at_iconst (v := 1) dc76_18 rfl).trans ?_
  exact at_zret dc76_19 mr76 (by decide)
-- Tape.takeSign ()Z
theorem dc77_0 : decode (pm_mb 77) 0 = .ok (.aload_n 0, 1) := by decide +kernel
theorem dc77_1 : decode (pm_mb 77) 1 = .ok (.getfield 57, 3) := by decide +kernel
theorem dc77_4 : decode (pm_mb 77) 4 = .ok (.iconst 3, 1) := by decide +kernel
theorem dc77_5 : decode (pm_mb 77) 5 = .ok (.if_icmp .eq 9, 3) := by decide +kernel
theorem dc77_8 : decode (pm_mb 77) 8 = .ok (.aload_n 0, 1) := by decide +kernel
theorem dc77_9 : decode (pm_mb 77) 9 = .ok (.iconst 1, 1) := by decide +kernel
theorem dc77_10 : decode (pm_mb 77) 10 = .ok (.invokevirtual 45, 3) := by decide +kernel
theorem dc77_13 : decode (pm_mb 77) 13 = .ok (.ireturn, 1) := by decide +kernel
theorem dc77_14 : decode (pm_mb 77) 14 = .ok (.aload_n 0, 1) := by decide +kernel
theorem dc77_15 : decode (pm_mb 77) 15 = .ok (.invokevirtual 32, 3) := by decide +kernel
theorem dc77_18 : decode (pm_mb 77) 18 = .ok (.iconst 1, 1) := by decide +kernel
theorem dc77_19 : decode (pm_mb 77) 19 = .ok (.ireturn, 1) := by decide +kernel
theorem b77_0 {X : pm_X} {d : Nat} {g : pm_G} {iv : pm_V} (hL : pm_lay g) : pm_at X d 77 (0, [some (.ref 5)], [], g, iv) = if (iv 5 2) = 3 then pm_at X d 77 (14, [some (.ref 5)], [], g, iv) else pm_at X d 77 (8, [some (.ref 5)], [], g, iv) := by
  refine (at_aload_n dc77_0 rfl).trans ?_
  refine (at_gfI dc77_1 mc77 lf4_57 fo4_2 (ly5 hL)).trans ?_
  refine (at_iconst (v := 3) dc77_4 rfl).trans ?_
  exact at_icmp_eq (t := 14) dc77_5 (by decide)
theorem b77_8 {X : pm_X} {d : Nat} {g : pm_G} {iv : pm_V} (hL : pm_lay g) : pm_at X d 77 (8, [some (.ref 5)], [], g, iv) = pm_then X d 77 13 [some (.ref 5)] [] (pm_c X d 81 [.ref 5, .int 1] g iv) := by
  refine (at_aload_n dc77_8 rfl).trans ?_
  refine (at_iconst (v := 1) dc77_9 rfl).trans ?_
  exact at_inv dc77_10 mc77 lm4_45 rfl rfl (Nat.le_of_ble_eq_true rfl) (Or.inl ⟨(ly5 hL), by decide⟩)
theorem b77_13 {X : pm_X} {d : Nat} {s0 : Int32} {g : pm_G} {iv : pm_V}  : pm_at X d 77 (13, [some (.ref 5)], [.int s0], g, iv) = pm_zr s0 (some (some (.int s0), g, iv)) := by
  exact at_zretG dc77_13 mr77
theorem b77_14 {X : pm_X} {d : Nat} {g : pm_G} {iv : pm_V} (hL : pm_lay g) : pm_at X d 77 (14, [some (.ref 5)], [], g, iv) = pm_then X d 77 18 [some (.ref 5)] [] (pm_c X d 83 [.ref 5] g iv) := by
  refine (at_aload_n dc77_14 rfl).trans ?_
  exact at_inv dc77_15 mc77 lm4_32 rfl rfl (Nat.le_of_ble_eq_true rfl) (Or.inl ⟨(ly5 hL), by decide⟩)
theorem b77_18 {X : pm_X} {d : Nat} {g : pm_G} {iv : pm_V}  : pm_at X d 77 (18, [some (.ref 5)], [], g, iv) = some (some (.int 1), g, iv) := by
  refine (at_iconst (v := 1) dc77_18 rfl).trans ?_
  exact at_zret dc77_19 mr77 (by decide)
-- Tape.takeNumber (II)I
theorem dc78_0 : decode (pm_mb 78) 0 = .ok (.aload_n 0, 1) := by decide +kernel
theorem dc78_1 : decode (pm_mb 78) 1 = .ok (.getfield 57, 3) := by decide +kernel
theorem dc78_4 : decode (pm_mb 78) 4 = .ok (.iconst 2, 1) := by decide +kernel
theorem dc78_5 : decode (pm_mb 78) 5 = .ok (.if_icmp .ne 19, 3) := by decide +kernel
theorem dc78_8 : decode (pm_mb 78) 8 = .ok (.aload_n 0, 1) := by decide +kernel
theorem dc78_9 : decode (pm_mb 78) 9 = .ok (.getfield 92, 3) := by decide +kernel
theorem dc78_12 : decode (pm_mb 78) 12 = .ok (.iload_n 1, 1) := by decide +kernel
theorem dc78_13 : decode (pm_mb 78) 13 = .ok (.if_icmp .lt 11, 3) := by decide +kernel
theorem dc78_16 : decode (pm_mb 78) 16 = .ok (.aload_n 0, 1) := by decide +kernel
theorem dc78_17 : decode (pm_mb 78) 17 = .ok (.getfield 92, 3) := by decide +kernel
theorem dc78_20 : decode (pm_mb 78) 20 = .ok (.iload_n 2, 1) := by decide +kernel
theorem dc78_21 : decode (pm_mb 78) 21 = .ok (.if_icmp .le 23, 3) := by decide +kernel
theorem dc78_24 : decode (pm_mb 78) 24 = .ok (.aload_n 0, 1) := by decide +kernel
theorem dc78_25 : decode (pm_mb 78) 25 = .ok (.aload_n 0, 1) := by decide +kernel
theorem dc78_26 : decode (pm_mb 78) 26 = .ok (.getfield 57, 3) := by decide +kernel
theorem dc78_29 : decode (pm_mb 78) 29 = .ok (.iconst 2, 1) := by decide +kernel
theorem dc78_30 : decode (pm_mb 78) 30 = .ok (.if_icmp .ne 7, 3) := by decide +kernel
theorem dc78_33 : decode (pm_mb 78) 33 = .ok (.iconst 2, 1) := by decide +kernel
theorem dc78_34 : decode (pm_mb 78) 34 = .ok (.goto 4, 3) := by decide +kernel
theorem dc78_37 : decode (pm_mb 78) 37 = .ok (.iconst 1, 1) := by decide +kernel
theorem dc78_38 : decode (pm_mb 78) 38 = .ok (.invokevirtual 45, 3) := by decide +kernel
theorem dc78_41 : decode (pm_mb 78) 41 = .ok (.pop, 1) := by decide +kernel
theorem dc78_42 : decode (pm_mb 78) 42 = .ok (.iconst (-1), 1) := by decide +kernel
theorem dc78_43 : decode (pm_mb 78) 43 = .ok (.ireturn, 1) := by decide +kernel
theorem dc78_44 : decode (pm_mb 78) 44 = .ok (.aload_n 0, 1) := by decide +kernel
theorem dc78_45 : decode (pm_mb 78) 45 = .ok (.getfield 92, 3) := by decide +kernel
theorem dc78_48 : decode (pm_mb 78) 48 = .ok (.istore_n 3, 1) := by decide +kernel
theorem dc78_49 : decode (pm_mb 78) 49 = .ok (.aload_n 0, 1) := by decide +kernel
theorem dc78_50 : decode (pm_mb 78) 50 = .ok (.invokevirtual 32, 3) := by decide +kernel
theorem dc78_53 : decode (pm_mb 78) 53 = .ok (.iload_n 3, 1) := by decide +kernel
theorem dc78_54 : decode (pm_mb 78) 54 = .ok (.ireturn, 1) := by decide +kernel
theorem b78_0 {X : pm_X} {d : Nat} {x1 : Int32} {x2 : Int32} {g : pm_G} {iv : pm_V} (hL : pm_lay g) : pm_at X d 78 (0, [some (.ref 5), some (.int x1), some (.int x2), none], [], g, iv) = if ¬ (iv 5 2) = 2 then pm_at X d 78 (24, [some (.ref 5), some (.int x1), some (.int x2), none], [], g, iv) else pm_at X d 78 (8, [some (.ref 5), some (.int x1), some (.int x2), none], [], g, iv) := by
  refine (at_aload_n dc78_0 rfl).trans ?_
  refine (at_gfI dc78_1 mc78 lf4_57 fo4_2 (ly5 hL)).trans ?_
  refine (at_iconst (v := 2) dc78_4 rfl).trans ?_
  exact at_icmp_ne (t := 24) dc78_5 (by decide)
theorem b78_8 {X : pm_X} {d : Nat} {x1 : Int32} {x2 : Int32} {g : pm_G} {iv : pm_V} (hL : pm_lay g) : pm_at X d 78 (8, [some (.ref 5), some (.int x1), some (.int x2), none], [], g, iv) = if (iv 5 5) < x1 then pm_at X d 78 (24, [some (.ref 5), some (.int x1), some (.int x2), none], [], g, iv) else pm_at X d 78 (16, [some (.ref 5), some (.int x1), some (.int x2), none], [], g, iv) := by
  refine (at_aload_n dc78_8 rfl).trans ?_
  refine (at_gfI dc78_9 mc78 lf4_92 fo4_5 (ly5 hL)).trans ?_
  refine (at_iload_n dc78_12 rfl).trans ?_
  exact at_icmp_lt (t := 24) dc78_13 (by decide)
theorem b78_16 {X : pm_X} {d : Nat} {x1 : Int32} {x2 : Int32} {g : pm_G} {iv : pm_V} (hL : pm_lay g) : pm_at X d 78 (16, [some (.ref 5), some (.int x1), some (.int x2), none], [], g, iv) = if (iv 5 5) ≤ x2 then pm_at X d 78 (44, [some (.ref 5), some (.int x1), some (.int x2), none], [], g, iv) else pm_at X d 78 (24, [some (.ref 5), some (.int x1), some (.int x2), none], [], g, iv) := by
  refine (at_aload_n dc78_16 rfl).trans ?_
  refine (at_gfI dc78_17 mc78 lf4_92 fo4_5 (ly5 hL)).trans ?_
  refine (at_iload_n dc78_20 rfl).trans ?_
  exact at_icmp_le (t := 44) dc78_21 (by decide)
theorem b78_24 {X : pm_X} {d : Nat} {x1 : Int32} {x2 : Int32} {g : pm_G} {iv : pm_V} (hL : pm_lay g) : pm_at X d 78 (24, [some (.ref 5), some (.int x1), some (.int x2), none], [], g, iv) = if ¬ (iv 5 2) = 2 then pm_at X d 78 (37, [some (.ref 5), some (.int x1), some (.int x2), none], [.ref 5], g, iv) else pm_at X d 78 (33, [some (.ref 5), some (.int x1), some (.int x2), none], [.ref 5], g, iv) := by
  refine (at_aload_n dc78_24 rfl).trans ?_
  refine (at_aload_n dc78_25 rfl).trans ?_
  refine (at_gfI dc78_26 mc78 lf4_57 fo4_2 (ly5 hL)).trans ?_
  refine (at_iconst (v := 2) dc78_29 rfl).trans ?_
  exact at_icmp_ne (t := 37) dc78_30 (by decide)
theorem b78_33 {X : pm_X} {d : Nat} {x1 : Int32} {x2 : Int32} {g : pm_G} {iv : pm_V}  : pm_at X d 78 (33, [some (.ref 5), some (.int x1), some (.int x2), none], [.ref 5], g, iv) = pm_at X d 78 (38, [some (.ref 5), some (.int x1), some (.int x2), none], [.int 2, .ref 5], g, iv) := by
  refine (at_iconst (v := 2) dc78_33 rfl).trans ?_
  refine (at_goto (t := 38) dc78_34 (by decide)).trans ?_
  rfl
theorem b78_37 {X : pm_X} {d : Nat} {x1 : Int32} {x2 : Int32} {g : pm_G} {iv : pm_V}  : pm_at X d 78 (37, [some (.ref 5), some (.int x1), some (.int x2), none], [.ref 5], g, iv) = pm_at X d 78 (38, [some (.ref 5), some (.int x1), some (.int x2), none], [.int 1, .ref 5], g, iv) := by
  refine (at_iconst (v := 1) dc78_37 rfl).trans ?_
  rfl
theorem b78_38 {X : pm_X} {d : Nat} {x1 : Int32} {x2 : Int32} {s0 : Int32} {g : pm_G} {iv : pm_V} (hL : pm_lay g) : pm_at X d 78 (38, [some (.ref 5), some (.int x1), some (.int x2), none], [.int s0, .ref 5], g, iv) = pm_then X d 78 41 [some (.ref 5), some (.int x1), some (.int x2), none] [] (pm_c X d 81 [.ref 5, .int s0] g iv) := by
  exact at_inv dc78_38 mc78 lm4_45 rfl rfl (Nat.le_of_ble_eq_true rfl) (Or.inl ⟨(ly5 hL), by decide⟩)
theorem b78_41 {X : pm_X} {d : Nat} {x1 : Int32} {x2 : Int32} {s0 : Int32} {g : pm_G} {iv : pm_V}  : pm_at X d 78 (41, [some (.ref 5), some (.int x1), some (.int x2), none], [.int s0], g, iv) = some (some (.int (-1)), g, iv) := by
  refine (at_pop dc78_41 rfl).trans ?_
  refine (at_iconst (v := (-1)) dc78_42 rfl).trans ?_
  exact at_iret dc78_43 mr78
theorem b78_44 {X : pm_X} {d : Nat} {x1 : Int32} {x2 : Int32} {g : pm_G} {iv : pm_V} (hL : pm_lay g) : pm_at X d 78 (44, [some (.ref 5), some (.int x1), some (.int x2), none], [], g, iv) = pm_then X d 78 53 [some (.ref 5), some (.int x1), some (.int x2), some (.int (iv 5 5))] [] (pm_c X d 83 [.ref 5] g iv) := by
  refine (at_aload_n dc78_44 rfl).trans ?_
  refine (at_gfI dc78_45 mc78 lf4_92 fo4_5 (ly5 hL)).trans ?_
  refine (at_istore_n dc78_48 rfl).trans ?_
  refine (at_aload_n dc78_49 rfl).trans ?_
  exact at_inv dc78_50 mc78 lm4_32 rfl rfl (Nat.le_of_ble_eq_true rfl) (Or.inl ⟨(ly5 hL), by decide⟩)
theorem b78_53 {X : pm_X} {d : Nat} {x1 : Int32} {x2 : Int32} {x3 : Int32} {g : pm_G} {iv : pm_V}  : pm_at X d 78 (53, [some (.ref 5), some (.int x1), some (.int x2), some (.int x3)], [], g, iv) = some (some (.int x3), g, iv) := by
  refine (at_iload_n dc78_53 rfl).trans ?_
  exact at_iret dc78_54 mr78
-- Tape.takeKind ()I
theorem dc79_0 : decode (pm_mb 79) 0 = .ok (.aload_n 0, 1) := by decide +kernel
theorem dc79_1 : decode (pm_mb 79) 1 = .ok (.invokevirtual 105, 3) := by decide +kernel
theorem dc79_4 : decode (pm_mb 79) 4 = .ok (.istore_n 1, 1) := by decide +kernel
theorem dc79_5 : decode (pm_mb 79) 5 = .ok (.iload_n 1, 1) := by decide +kernel
theorem dc79_6 : decode (pm_mb 79) 6 = .ok (.iconst (-1), 1) := by decide +kernel
theorem dc79_7 : decode (pm_mb 79) 7 = .ok (.if_icmp .ne 12, 3) := by decide +kernel
theorem dc79_10 : decode (pm_mb 79) 10 = .ok (.aload_n 0, 1) := by decide +kernel
theorem dc79_11 : decode (pm_mb 79) 11 = .ok (.iconst 1, 1) := by decide +kernel
theorem dc79_12 : decode (pm_mb 79) 12 = .ok (.invokevirtual 45, 3) := by decide +kernel
theorem dc79_15 : decode (pm_mb 79) 15 = .ok (.pop, 1) := by decide +kernel
theorem dc79_16 : decode (pm_mb 79) 16 = .ok (.goto 7, 3) := by decide +kernel
theorem dc79_19 : decode (pm_mb 79) 19 = .ok (.aload_n 0, 1) := by decide +kernel
theorem dc79_20 : decode (pm_mb 79) 20 = .ok (.invokevirtual 32, 3) := by decide +kernel
theorem dc79_23 : decode (pm_mb 79) 23 = .ok (.iload_n 1, 1) := by decide +kernel
theorem dc79_24 : decode (pm_mb 79) 24 = .ok (.ireturn, 1) := by decide +kernel
theorem b79_0 {X : pm_X} {d : Nat} {g : pm_G} {iv : pm_V} (hL : pm_lay g) : pm_at X d 79 (0, [some (.ref 5), none], [], g, iv) = pm_then X d 79 4 [some (.ref 5), none] [] (pm_c X d 80 [.ref 5] g iv) := by
  refine (at_aload_n dc79_0 rfl).trans ?_
  exact at_inv dc79_1 mc79 lm4_105 rfl rfl (Nat.le_of_ble_eq_true rfl) (Or.inl ⟨(ly5 hL), by decide⟩)
theorem b79_4 {X : pm_X} {d : Nat} {s0 : Int32} {g : pm_G} {iv : pm_V}  : pm_at X d 79 (4, [some (.ref 5), none], [.int s0], g, iv) = if ¬ s0 = (-1) then pm_at X d 79 (19, [some (.ref 5), some (.int s0)], [], g, iv) else pm_at X d 79 (10, [some (.ref 5), some (.int s0)], [], g, iv) := by
  refine (at_istore_n dc79_4 rfl).trans ?_
  refine (at_iload_n dc79_5 rfl).trans ?_
  refine (at_iconst (v := (-1)) dc79_6 rfl).trans ?_
  exact at_icmp_ne (t := 19) dc79_7 (by decide)
theorem b79_10 {X : pm_X} {d : Nat} {x1 : Int32} {g : pm_G} {iv : pm_V} (hL : pm_lay g) : pm_at X d 79 (10, [some (.ref 5), some (.int x1)], [], g, iv) = pm_then X d 79 15 [some (.ref 5), some (.int x1)] [] (pm_c X d 81 [.ref 5, .int 1] g iv) := by
  refine (at_aload_n dc79_10 rfl).trans ?_
  refine (at_iconst (v := 1) dc79_11 rfl).trans ?_
  exact at_inv dc79_12 mc79 lm4_45 rfl rfl (Nat.le_of_ble_eq_true rfl) (Or.inl ⟨(ly5 hL), by decide⟩)
theorem b79_15 {X : pm_X} {d : Nat} {x1 : Int32} {s0 : Int32} {g : pm_G} {iv : pm_V}  : pm_at X d 79 (15, [some (.ref 5), some (.int x1)], [.int s0], g, iv) = pm_at X d 79 (23, [some (.ref 5), some (.int x1)], [], g, iv) := by
  refine (at_pop dc79_15 rfl).trans ?_
  refine (at_goto (t := 23) dc79_16 (by decide)).trans ?_
  rfl
theorem b79_19 {X : pm_X} {d : Nat} {x1 : Int32} {g : pm_G} {iv : pm_V} (hL : pm_lay g) : pm_at X d 79 (19, [some (.ref 5), some (.int x1)], [], g, iv) = pm_then X d 79 23 [some (.ref 5), some (.int x1)] [] (pm_c X d 83 [.ref 5] g iv) := by
  refine (at_aload_n dc79_19 rfl).trans ?_
  exact at_inv dc79_20 mc79 lm4_32 rfl rfl (Nat.le_of_ble_eq_true rfl) (Or.inl ⟨(ly5 hL), by decide⟩)
theorem b79_23 {X : pm_X} {d : Nat} {x1 : Int32} {g : pm_G} {iv : pm_V}  : pm_at X d 79 (23, [some (.ref 5), some (.int x1)], [], g, iv) = some (some (.int x1), g, iv) := by
  refine (at_iload_n dc79_23 rfl).trans ?_
  exact at_iret dc79_24 mr79
-- Tape.kindByWord ()I
theorem dc80_0 : decode (pm_mb 80) 0 = .ok (.aload_n 0, 1) := by decide +kernel
theorem dc80_1 : decode (pm_mb 80) 1 = .ok (.ldc 108, 2) := by decide +kernel
theorem dc80_3 : decode (pm_mb 80) 3 = .ok (.invokevirtual 41, 3) := by decide +kernel
theorem dc80_6 : decode (pm_mb 80) 6 = .ok (.ifCond .eq 5, 3) := by decide +kernel
theorem dc80_9 : decode (pm_mb 80) 9 = .ok (.iconst 1, 1) := by decide +kernel
theorem dc80_10 : decode (pm_mb 80) 10 = .ok (.ireturn, 1) := by decide +kernel
theorem dc80_11 : decode (pm_mb 80) 11 = .ok (.aload_n 0, 1) := by decide +kernel
theorem dc80_12 : decode (pm_mb 80) 12 = .ok (.ldc 110, 2) := by decide +kernel
theorem dc80_14 : decode (pm_mb 80) 14 = .ok (.invokevirtual 41, 3) := by decide +kernel
theorem dc80_17 : decode (pm_mb 80) 17 = .ok (.ifCond .eq 5, 3) := by decide +kernel
theorem dc80_20 : decode (pm_mb 80) 20 = .ok (.iconst 2, 1) := by decide +kernel
theorem dc80_21 : decode (pm_mb 80) 21 = .ok (.ireturn, 1) := by decide +kernel
theorem dc80_22 : decode (pm_mb 80) 22 = .ok (.aload_n 0, 1) := by decide +kernel
theorem dc80_23 : decode (pm_mb 80) 23 = .ok (.ldc 112, 2) := by decide +kernel
theorem dc80_25 : decode (pm_mb 80) 25 = .ok (.invokevirtual 41, 3) := by decide +kernel
theorem dc80_28 : decode (pm_mb 80) 28 = .ok (.ifCond .eq 5, 3) := by decide +kernel
theorem dc80_31 : decode (pm_mb 80) 31 = .ok (.iconst 3, 1) := by decide +kernel
theorem dc80_32 : decode (pm_mb 80) 32 = .ok (.ireturn, 1) := by decide +kernel
theorem dc80_33 : decode (pm_mb 80) 33 = .ok (.aload_n 0, 1) := by decide +kernel
theorem dc80_34 : decode (pm_mb 80) 34 = .ok (.ldc 114, 2) := by decide +kernel
theorem dc80_36 : decode (pm_mb 80) 36 = .ok (.invokevirtual 41, 3) := by decide +kernel
theorem dc80_39 : decode (pm_mb 80) 39 = .ok (.ifCond .eq 5, 3) := by decide +kernel
theorem dc80_42 : decode (pm_mb 80) 42 = .ok (.iconst 4, 1) := by decide +kernel
theorem dc80_43 : decode (pm_mb 80) 43 = .ok (.ireturn, 1) := by decide +kernel
theorem dc80_44 : decode (pm_mb 80) 44 = .ok (.aload_n 0, 1) := by decide +kernel
theorem dc80_45 : decode (pm_mb 80) 45 = .ok (.ldc 116, 2) := by decide +kernel
theorem dc80_47 : decode (pm_mb 80) 47 = .ok (.invokevirtual 41, 3) := by decide +kernel
theorem dc80_50 : decode (pm_mb 80) 50 = .ok (.ifCond .eq 7, 3) := by decide +kernel
theorem dc80_53 : decode (pm_mb 80) 53 = .ok (.iconst 5, 1) := by decide +kernel
theorem dc80_54 : decode (pm_mb 80) 54 = .ok (.goto 4, 3) := by decide +kernel
theorem dc80_57 : decode (pm_mb 80) 57 = .ok (.iconst (-1), 1) := by decide +kernel
theorem dc80_58 : decode (pm_mb 80) 58 = .ok (.ireturn, 1) := by decide +kernel
theorem b80_0 {X : pm_X} {d : Nat} {g : pm_G} {iv : pm_V} (hL : pm_lay g) : pm_at X d 80 (0, [some (.ref 5)], [], g, iv) = pm_then X d 80 6 [some (.ref 5)] [] (pm_c X d 82 [.ref 5, .ref 1003] g iv) := by
  refine (at_aload_n dc80_0 rfl).trans ?_
  refine (at_ldcS dc80_1 mc80 lkn4_108 lt4_108).trans ?_
  exact at_inv dc80_3 mc80 lm4_41 rfl rfl (Nat.le_of_ble_eq_true rfl) (Or.inl ⟨(ly5 hL), by decide⟩)
theorem b80_6 {X : pm_X} {d : Nat} {s0 : Int32} {g : pm_G} {iv : pm_V}  : pm_at X d 80 (6, [some (.ref 5)], [.int s0], g, iv) = if s0 = 0 then pm_at X d 80 (11, [some (.ref 5)], [], g, iv) else pm_at X d 80 (9, [some (.ref 5)], [], g, iv) := by
  exact at_if_eq (t := 11) dc80_6 (by decide)
theorem b80_9 {X : pm_X} {d : Nat} {g : pm_G} {iv : pm_V}  : pm_at X d 80 (9, [some (.ref 5)], [], g, iv) = some (some (.int 1), g, iv) := by
  refine (at_iconst (v := 1) dc80_9 rfl).trans ?_
  exact at_iret dc80_10 mr80
theorem b80_11 {X : pm_X} {d : Nat} {g : pm_G} {iv : pm_V} (hL : pm_lay g) : pm_at X d 80 (11, [some (.ref 5)], [], g, iv) = pm_then X d 80 17 [some (.ref 5)] [] (pm_c X d 82 [.ref 5, .ref 1004] g iv) := by
  refine (at_aload_n dc80_11 rfl).trans ?_
  refine (at_ldcS dc80_12 mc80 lkn4_110 lt4_110).trans ?_
  exact at_inv dc80_14 mc80 lm4_41 rfl rfl (Nat.le_of_ble_eq_true rfl) (Or.inl ⟨(ly5 hL), by decide⟩)
theorem b80_17 {X : pm_X} {d : Nat} {s0 : Int32} {g : pm_G} {iv : pm_V}  : pm_at X d 80 (17, [some (.ref 5)], [.int s0], g, iv) = if s0 = 0 then pm_at X d 80 (22, [some (.ref 5)], [], g, iv) else pm_at X d 80 (20, [some (.ref 5)], [], g, iv) := by
  exact at_if_eq (t := 22) dc80_17 (by decide)
theorem b80_20 {X : pm_X} {d : Nat} {g : pm_G} {iv : pm_V}  : pm_at X d 80 (20, [some (.ref 5)], [], g, iv) = some (some (.int 2), g, iv) := by
  refine (at_iconst (v := 2) dc80_20 rfl).trans ?_
  exact at_iret dc80_21 mr80
theorem b80_22 {X : pm_X} {d : Nat} {g : pm_G} {iv : pm_V} (hL : pm_lay g) : pm_at X d 80 (22, [some (.ref 5)], [], g, iv) = pm_then X d 80 28 [some (.ref 5)] [] (pm_c X d 82 [.ref 5, .ref 1005] g iv) := by
  refine (at_aload_n dc80_22 rfl).trans ?_
  refine (at_ldcS dc80_23 mc80 lkn4_112 lt4_112).trans ?_
  exact at_inv dc80_25 mc80 lm4_41 rfl rfl (Nat.le_of_ble_eq_true rfl) (Or.inl ⟨(ly5 hL), by decide⟩)
theorem b80_28 {X : pm_X} {d : Nat} {s0 : Int32} {g : pm_G} {iv : pm_V}  : pm_at X d 80 (28, [some (.ref 5)], [.int s0], g, iv) = if s0 = 0 then pm_at X d 80 (33, [some (.ref 5)], [], g, iv) else pm_at X d 80 (31, [some (.ref 5)], [], g, iv) := by
  exact at_if_eq (t := 33) dc80_28 (by decide)
theorem b80_31 {X : pm_X} {d : Nat} {g : pm_G} {iv : pm_V}  : pm_at X d 80 (31, [some (.ref 5)], [], g, iv) = some (some (.int 3), g, iv) := by
  refine (at_iconst (v := 3) dc80_31 rfl).trans ?_
  exact at_iret dc80_32 mr80
theorem b80_33 {X : pm_X} {d : Nat} {g : pm_G} {iv : pm_V} (hL : pm_lay g) : pm_at X d 80 (33, [some (.ref 5)], [], g, iv) = pm_then X d 80 39 [some (.ref 5)] [] (pm_c X d 82 [.ref 5, .ref 1006] g iv) := by
  refine (at_aload_n dc80_33 rfl).trans ?_
  refine (at_ldcS dc80_34 mc80 lkn4_114 lt4_114).trans ?_
  exact at_inv dc80_36 mc80 lm4_41 rfl rfl (Nat.le_of_ble_eq_true rfl) (Or.inl ⟨(ly5 hL), by decide⟩)
theorem b80_39 {X : pm_X} {d : Nat} {s0 : Int32} {g : pm_G} {iv : pm_V}  : pm_at X d 80 (39, [some (.ref 5)], [.int s0], g, iv) = if s0 = 0 then pm_at X d 80 (44, [some (.ref 5)], [], g, iv) else pm_at X d 80 (42, [some (.ref 5)], [], g, iv) := by
  exact at_if_eq (t := 44) dc80_39 (by decide)
theorem b80_42 {X : pm_X} {d : Nat} {g : pm_G} {iv : pm_V}  : pm_at X d 80 (42, [some (.ref 5)], [], g, iv) = some (some (.int 4), g, iv) := by
  refine (at_iconst (v := 4) dc80_42 rfl).trans ?_
  exact at_iret dc80_43 mr80
theorem b80_44 {X : pm_X} {d : Nat} {g : pm_G} {iv : pm_V} (hL : pm_lay g) : pm_at X d 80 (44, [some (.ref 5)], [], g, iv) = pm_then X d 80 50 [some (.ref 5)] [] (pm_c X d 82 [.ref 5, .ref 1007] g iv) := by
  refine (at_aload_n dc80_44 rfl).trans ?_
  refine (at_ldcS dc80_45 mc80 lkn4_116 lt4_116).trans ?_
  exact at_inv dc80_47 mc80 lm4_41 rfl rfl (Nat.le_of_ble_eq_true rfl) (Or.inl ⟨(ly5 hL), by decide⟩)
theorem b80_50 {X : pm_X} {d : Nat} {s0 : Int32} {g : pm_G} {iv : pm_V}  : pm_at X d 80 (50, [some (.ref 5)], [.int s0], g, iv) = if s0 = 0 then pm_at X d 80 (57, [some (.ref 5)], [], g, iv) else pm_at X d 80 (53, [some (.ref 5)], [], g, iv) := by
  exact at_if_eq (t := 57) dc80_50 (by decide)
theorem b80_53 {X : pm_X} {d : Nat} {g : pm_G} {iv : pm_V}  : pm_at X d 80 (53, [some (.ref 5)], [], g, iv) = pm_at X d 80 (58, [some (.ref 5)], [.int 5], g, iv) := by
  refine (at_iconst (v := 5) dc80_53 rfl).trans ?_
  refine (at_goto (t := 58) dc80_54 (by decide)).trans ?_
  rfl
theorem b80_57 {X : pm_X} {d : Nat} {g : pm_G} {iv : pm_V}  : pm_at X d 80 (57, [some (.ref 5)], [], g, iv) = pm_at X d 80 (58, [some (.ref 5)], [.int (-1)], g, iv) := by
  refine (at_iconst (v := (-1)) dc80_57 rfl).trans ?_
  rfl
theorem b80_58 {X : pm_X} {d : Nat} {s0 : Int32} {g : pm_G} {iv : pm_V}  : pm_at X d 80 (58, [some (.ref 5)], [.int s0], g, iv) = some (some (.int s0), g, iv) := by
  exact at_iret dc80_58 mr80
-- Tape.fail (I)Z
theorem dc81_0 : decode (pm_mb 81) 0 = .ok (.aload_n 0, 1) := by decide +kernel
theorem dc81_1 : decode (pm_mb 81) 1 = .ok (.iload_n 1, 1) := by decide +kernel
theorem dc81_2 : decode (pm_mb 81) 2 = .ok (.putfield 19, 3) := by decide +kernel
theorem dc81_5 : decode (pm_mb 81) 5 = .ok (.aload_n 0, 1) := by decide +kernel
theorem dc81_6 : decode (pm_mb 81) 6 = .ok (.aload_n 0, 1) := by decide +kernel
theorem dc81_7 : decode (pm_mb 81) 7 = .ok (.getfield 118, 3) := by decide +kernel
theorem dc81_10 : decode (pm_mb 81) 10 = .ok (.putfield 22, 3) := by decide +kernel
theorem dc81_13 : decode (pm_mb 81) 13 = .ok (.iconst 0, 1) := by decide +kernel
theorem dc81_14 : decode (pm_mb 81) 14 = .ok (.ireturn, 1) := by decide +kernel
theorem b81_0 {X : pm_X} {d : Nat} {x1 : Int32} {g : pm_G} {iv : pm_V} (hL : pm_lay g) : pm_at X d 81 (0, [some (.ref 5), some (.int x1)], [], g, iv) = some (some (.int 0), g, (pm_iw (pm_iw iv 5 6 x1) 5 7 (((pm_iw iv 5 6 x1) 5 3)))) := by
  refine (at_aload_n dc81_0 rfl).trans ?_
  refine (at_iload_n dc81_1 rfl).trans ?_
  refine (at_pfI dc81_2 mc81 lf4_19 po4_6 (ly5 hL)).trans ?_
  refine (at_aload_n dc81_5 rfl).trans ?_
  refine (at_aload_n dc81_6 rfl).trans ?_
  refine (at_gfI dc81_7 mc81 lf4_118 fo4_3 (ly5 hL)).trans ?_
  refine (at_pfI dc81_10 mc81 lf4_22 po4_7 (ly5 hL)).trans ?_
  refine (at_iconst (v := 0) dc81_13 rfl).trans ?_
  exact at_zret dc81_14 mr81 (by decide)
-- Tape.isWord (Ljava/lang/String;)Z
theorem dc82_0 : decode (pm_mb 82) 0 = .ok (.aload_n 0, 1) := by decide +kernel
theorem dc82_1 : decode (pm_mb 82) 1 = .ok (.getfield 57, 3) := by decide +kernel
theorem dc82_4 : decode (pm_mb 82) 4 = .ok (.iconst 1, 1) := by decide +kernel
theorem dc82_5 : decode (pm_mb 82) 5 = .ok (.if_icmp .ne 19, 3) := by decide +kernel
theorem dc82_8 : decode (pm_mb 82) 8 = .ok (.aload_n 0, 1) := by decide +kernel
theorem dc82_9 : decode (pm_mb 82) 9 = .ok (.getfield 29, 3) := by decide +kernel
theorem dc82_12 : decode (pm_mb 82) 12 = .ok (.aload_n 0, 1) := by decide +kernel
theorem dc82_13 : decode (pm_mb 82) 13 = .ok (.getfield 118, 3) := by decide +kernel
theorem dc82_16 : decode (pm_mb 82) 16 = .ok (.isub, 1) := by decide +kernel
theorem dc82_17 : decode (pm_mb 82) 17 = .ok (.aload_n 1, 1) := by decide +kernel
theorem dc82_18 : decode (pm_mb 82) 18 = .ok (.invokevirtual 121, 3) := by decide +kernel
theorem dc82_21 : decode (pm_mb 82) 21 = .ok (.if_icmp .eq 5, 3) := by decide +kernel
theorem dc82_24 : decode (pm_mb 82) 24 = .ok (.iconst 0, 1) := by decide +kernel
theorem dc82_25 : decode (pm_mb 82) 25 = .ok (.ireturn, 1) := by decide +kernel
theorem dc82_26 : decode (pm_mb 82) 26 = .ok (.iconst 0, 1) := by decide +kernel
theorem dc82_27 : decode (pm_mb 82) 27 = .ok (.istore_n 2, 1) := by decide +kernel
theorem dc82_28 : decode (pm_mb 82) 28 = .ok (.iload_n 2, 1) := by decide +kernel
theorem dc82_29 : decode (pm_mb 82) 29 = .ok (.aload_n 1, 1) := by decide +kernel
theorem dc82_30 : decode (pm_mb 82) 30 = .ok (.invokevirtual 121, 3) := by decide +kernel
theorem dc82_33 : decode (pm_mb 82) 33 = .ok (.if_icmp .ge 29, 3) := by decide +kernel
theorem dc82_36 : decode (pm_mb 82) 36 = .ok (.aload_n 0, 1) := by decide +kernel
theorem dc82_37 : decode (pm_mb 82) 37 = .ok (.aload_n 0, 1) := by decide +kernel
theorem dc82_38 : decode (pm_mb 82) 38 = .ok (.getfield 118, 3) := by decide +kernel
theorem dc82_41 : decode (pm_mb 82) 41 = .ok (.iload_n 2, 1) := by decide +kernel
theorem dc82_42 : decode (pm_mb 82) 42 = .ok (.iadd, 1) := by decide +kernel
theorem dc82_43 : decode (pm_mb 82) 43 = .ok (.invokevirtual 126, 3) := by decide +kernel
theorem dc82_46 : decode (pm_mb 82) 46 = .ok (.aload_n 1, 1) := by decide +kernel
theorem dc82_47 : decode (pm_mb 82) 47 = .ok (.iload_n 2, 1) := by decide +kernel
theorem dc82_48 : decode (pm_mb 82) 48 = .ok (.invokevirtual 130, 3) := by decide +kernel
theorem dc82_51 : decode (pm_mb 82) 51 = .ok (.if_icmp .eq 5, 3) := by decide +kernel
theorem dc82_54 : decode (pm_mb 82) 54 = .ok (.iconst 0, 1) := by decide +kernel
theorem dc82_55 : decode (pm_mb 82) 55 = .ok (.ireturn, 1) := by decide +kernel
theorem dc82_56 : decode (pm_mb 82) 56 = .ok (.iinc 2 1, 3) := by decide +kernel
theorem dc82_59 : decode (pm_mb 82) 59 = .ok (.goto (-31), 3) := by decide +kernel
theorem dc82_62 : decode (pm_mb 82) 62 = .ok (.iconst 1, 1) := by decide +kernel
theorem dc82_63 : decode (pm_mb 82) 63 = .ok (.ireturn, 1) := by decide +kernel
theorem b82_0 {X : pm_X} {d : Nat} {a : Nat} {g : pm_G} {iv : pm_V} (hL : pm_lay g) : pm_at X d 82 (0, [some (.ref 5), some (.ref a), none], [], g, iv) = if ¬ (iv 5 2) = 1 then pm_at X d 82 (24, [some (.ref 5), some (.ref a), none], [], g, iv) else pm_at X d 82 (8, [some (.ref 5), some (.ref a), none], [], g, iv) := by
  refine (at_aload_n dc82_0 rfl).trans ?_
  refine (at_gfI dc82_1 mc82 lf4_57 fo4_2 (ly5 hL)).trans ?_
  refine (at_iconst (v := 1) dc82_4 rfl).trans ?_
  exact at_icmp_ne (t := 24) dc82_5 (by decide)
theorem b82_8 {X : pm_X} {d : Nat} {a : Nat} {g : pm_G} {iv : pm_V} (hL : pm_lay g) (hT : 1000 ≤ a ∧ a < 1008) : pm_at X d 82 (8, [some (.ref 5), some (.ref a), none], [], g, iv) = pm_then X d 82 21 [some (.ref 5), some (.ref a), none] [.int ((iv 5 4) - (iv 5 3))] (pm_c X d 204 [.ref a] g iv) := by
  refine (at_aload_n dc82_8 rfl).trans ?_
  refine (at_gfI dc82_9 mc82 lf4_29 fo4_4 (ly5 hL)).trans ?_
  refine (at_aload_n dc82_12 rfl).trans ?_
  refine (at_gfI dc82_13 mc82 lf4_118 fo4_3 (ly5 hL)).trans ?_
  refine (at_isub dc82_16).trans ?_
  refine (at_aload_n dc82_17 rfl).trans ?_
  exact at_inv dc82_18 mc82 lm4_121 rfl rfl (Nat.le_of_ble_eq_true rfl) (Or.inr ⟨rfl, hT⟩)
theorem b82_21 {X : pm_X} {d : Nat} {s0 : Int32} {s1 : Int32} {a : Nat} {g : pm_G} {iv : pm_V}  : pm_at X d 82 (21, [some (.ref 5), some (.ref a), none], [.int s0, .int s1], g, iv) = if s1 = s0 then pm_at X d 82 (26, [some (.ref 5), some (.ref a), none], [], g, iv) else pm_at X d 82 (24, [some (.ref 5), some (.ref a), none], [], g, iv) := by
  exact at_icmp_eq (t := 26) dc82_21 (by decide)
theorem b82_24 {X : pm_X} {d : Nat} {a : Nat} {g : pm_G} {iv : pm_V}  : pm_at X d 82 (24, [some (.ref 5), some (.ref a), none], [], g, iv) = some (some (.int 0), g, iv) := by
  refine (at_iconst (v := 0) dc82_24 rfl).trans ?_
  exact at_zret dc82_25 mr82 (by decide)
theorem b82_26 {X : pm_X} {d : Nat} {a : Nat} {g : pm_G} {iv : pm_V}  : pm_at X d 82 (26, [some (.ref 5), some (.ref a), none], [], g, iv) = pm_at X d 82 (28, [some (.ref 5), some (.ref a), some (.int 0)], [], g, iv) := by
  refine (at_iconst (v := 0) dc82_26 rfl).trans ?_
  refine (at_istore_n dc82_27 rfl).trans ?_
  rfl
theorem b82_28 {X : pm_X} {d : Nat} {x2 : Int32} {a : Nat} {g : pm_G} {iv : pm_V} (hT : 1000 ≤ a ∧ a < 1008) : pm_at X d 82 (28, [some (.ref 5), some (.ref a), some (.int x2)], [], g, iv) = pm_then X d 82 33 [some (.ref 5), some (.ref a), some (.int x2)] [.int x2] (pm_c X d 204 [.ref a] g iv) := by
  refine (at_iload_n dc82_28 rfl).trans ?_
  refine (at_aload_n dc82_29 rfl).trans ?_
  exact at_inv dc82_30 mc82 lm4_121 rfl rfl (Nat.le_of_ble_eq_true rfl) (Or.inr ⟨rfl, hT⟩)
theorem b82_33 {X : pm_X} {d : Nat} {x2 : Int32} {s0 : Int32} {s1 : Int32} {a : Nat} {g : pm_G} {iv : pm_V}  : pm_at X d 82 (33, [some (.ref 5), some (.ref a), some (.int x2)], [.int s0, .int s1], g, iv) = if s0 ≤ s1 then pm_at X d 82 (62, [some (.ref 5), some (.ref a), some (.int x2)], [], g, iv) else pm_at X d 82 (36, [some (.ref 5), some (.ref a), some (.int x2)], [], g, iv) := by
  exact at_icmp_ge (t := 62) dc82_33 (by decide)
theorem b82_36 {X : pm_X} {d : Nat} {x2 : Int32} {a : Nat} {g : pm_G} {iv : pm_V} (hL : pm_lay g) : pm_at X d 82 (36, [some (.ref 5), some (.ref a), some (.int x2)], [], g, iv) = pm_then X d 82 46 [some (.ref 5), some (.ref a), some (.int x2)] [] (pm_c X d 86 [.ref 5, .int ((iv 5 3) + x2)] g iv) := by
  refine (at_aload_n dc82_36 rfl).trans ?_
  refine (at_aload_n dc82_37 rfl).trans ?_
  refine (at_gfI dc82_38 mc82 lf4_118 fo4_3 (ly5 hL)).trans ?_
  refine (at_iload_n dc82_41 rfl).trans ?_
  refine (at_iadd dc82_42).trans ?_
  exact at_inv dc82_43 mc82 lm4_126 rfl rfl (Nat.le_of_ble_eq_true rfl) (Or.inl ⟨(ly5 hL), by decide⟩)
theorem b82_46 {X : pm_X} {d : Nat} {x2 : Int32} {s0 : Int32} {a : Nat} {g : pm_G} {iv : pm_V} (hT : 1000 ≤ a ∧ a < 1008) : pm_at X d 82 (46, [some (.ref 5), some (.ref a), some (.int x2)], [.int s0], g, iv) = pm_then X d 82 51 [some (.ref 5), some (.ref a), some (.int x2)] [.int s0] (pm_c X d 205 [.ref a, .int x2] g iv) := by
  refine (at_aload_n dc82_46 rfl).trans ?_
  refine (at_iload_n dc82_47 rfl).trans ?_
  exact at_inv dc82_48 mc82 lm4_130 rfl rfl (Nat.le_of_ble_eq_true rfl) (Or.inr ⟨rfl, hT⟩)
theorem b82_51 {X : pm_X} {d : Nat} {x2 : Int32} {s0 : Int32} {s1 : Int32} {a : Nat} {g : pm_G} {iv : pm_V}  : pm_at X d 82 (51, [some (.ref 5), some (.ref a), some (.int x2)], [.int s0, .int s1], g, iv) = if s1 = s0 then pm_at X d 82 (56, [some (.ref 5), some (.ref a), some (.int x2)], [], g, iv) else pm_at X d 82 (54, [some (.ref 5), some (.ref a), some (.int x2)], [], g, iv) := by
  exact at_icmp_eq (t := 56) dc82_51 (by decide)
theorem b82_54 {X : pm_X} {d : Nat} {x2 : Int32} {a : Nat} {g : pm_G} {iv : pm_V}  : pm_at X d 82 (54, [some (.ref 5), some (.ref a), some (.int x2)], [], g, iv) = some (some (.int 0), g, iv) := by
  refine (at_iconst (v := 0) dc82_54 rfl).trans ?_
  exact at_zret dc82_55 mr82 (by decide)
theorem b82_56 {X : pm_X} {d : Nat} {x2 : Int32} {a : Nat} {g : pm_G} {iv : pm_V}  : pm_at X d 82 (56, [some (.ref 5), some (.ref a), some (.int x2)], [], g, iv) = pm_at X d 82 (28, [some (.ref 5), some (.ref a), some (.int (x2 + 1))], [], g, iv) := by
  refine (at_iinc (v := 1) dc82_56 rfl (by decide) rfl).trans ?_
  refine (at_goto (t := 28) dc82_59 (by decide)).trans ?_
  rfl
theorem b82_62 {X : pm_X} {d : Nat} {x2 : Int32} {a : Nat} {g : pm_G} {iv : pm_V}  : pm_at X d 82 (62, [some (.ref 5), some (.ref a), some (.int x2)], [], g, iv) = some (some (.int 1), g, iv) := by
  refine (at_iconst (v := 1) dc82_62 rfl).trans ?_
  exact at_zret dc82_63 mr82 (by decide)
-- Tape.step ()V
theorem dc83_0 : decode (pm_mb 83) 0 = .ok (.aload_n 0, 1) := by decide +kernel
theorem dc83_1 : decode (pm_mb 83) 1 = .ok (.aload_n 0, 1) := by decide +kernel
theorem dc83_2 : decode (pm_mb 83) 2 = .ok (.getfield 29, 3) := by decide +kernel
theorem dc83_5 : decode (pm_mb 83) 5 = .ok (.putfield 118, 3) := by decide +kernel
theorem dc83_8 : decode (pm_mb 83) 8 = .ok (.aload_n 0, 1) := by decide +kernel
theorem dc83_9 : decode (pm_mb 83) 9 = .ok (.getfield 118, 3) := by decide +kernel
theorem dc83_12 : decode (pm_mb 83) 12 = .ok (.aload_n 0, 1) := by decide +kernel
theorem dc83_13 : decode (pm_mb 83) 13 = .ok (.getfield 15, 3) := by decide +kernel
theorem dc83_16 : decode (pm_mb 83) 16 = .ok (.if_icmp .ge 30, 3) := by decide +kernel
theorem dc83_19 : decode (pm_mb 83) 19 = .ok (.aload_n 0, 1) := by decide +kernel
theorem dc83_20 : decode (pm_mb 83) 20 = .ok (.aload_n 0, 1) := by decide +kernel
theorem dc83_21 : decode (pm_mb 83) 21 = .ok (.getfield 118, 3) := by decide +kernel
theorem dc83_24 : decode (pm_mb 83) 24 = .ok (.invokevirtual 126, 3) := by decide +kernel
theorem dc83_27 : decode (pm_mb 83) 27 = .ok (.invokestatic 134, 3) := by decide +kernel
theorem dc83_30 : decode (pm_mb 83) 30 = .ok (.ifCond .eq 16, 3) := by decide +kernel
theorem dc83_33 : decode (pm_mb 83) 33 = .ok (.aload_n 0, 1) := by decide +kernel
theorem dc83_34 : decode (pm_mb 83) 34 = .ok (.dup, 1) := by decide +kernel
theorem dc83_35 : decode (pm_mb 83) 35 = .ok (.getfield 118, 3) := by decide +kernel
theorem dc83_38 : decode (pm_mb 83) 38 = .ok (.iconst 1, 1) := by decide +kernel
theorem dc83_39 : decode (pm_mb 83) 39 = .ok (.iadd, 1) := by decide +kernel
theorem dc83_40 : decode (pm_mb 83) 40 = .ok (.putfield 118, 3) := by decide +kernel
theorem dc83_43 : decode (pm_mb 83) 43 = .ok (.goto (-35), 3) := by decide +kernel
theorem dc83_46 : decode (pm_mb 83) 46 = .ok (.aload_n 0, 1) := by decide +kernel
theorem dc83_47 : decode (pm_mb 83) 47 = .ok (.aload_n 0, 1) := by decide +kernel
theorem dc83_48 : decode (pm_mb 83) 48 = .ok (.getfield 118, 3) := by decide +kernel
theorem dc83_51 : decode (pm_mb 83) 51 = .ok (.putfield 29, 3) := by decide +kernel
theorem dc83_54 : decode (pm_mb 83) 54 = .ok (.aload_n 0, 1) := by decide +kernel
theorem dc83_55 : decode (pm_mb 83) 55 = .ok (.getfield 118, 3) := by decide +kernel
theorem dc83_58 : decode (pm_mb 83) 58 = .ok (.aload_n 0, 1) := by decide +kernel
theorem dc83_59 : decode (pm_mb 83) 59 = .ok (.getfield 15, 3) := by decide +kernel
theorem dc83_62 : decode (pm_mb 83) 62 = .ok (.if_icmp .lt 11, 3) := by decide +kernel
theorem dc83_65 : decode (pm_mb 83) 65 = .ok (.aload_n 0, 1) := by decide +kernel
theorem dc83_66 : decode (pm_mb 83) 66 = .ok (.iconst 0, 1) := by decide +kernel
theorem dc83_67 : decode (pm_mb 83) 67 = .ok (.putfield 57, 3) := by decide +kernel
theorem dc83_70 : decode (pm_mb 83) 70 = .ok (.goto 77, 3) := by decide +kernel
theorem dc83_73 : decode (pm_mb 83) 73 = .ok (.aload_n 0, 1) := by decide +kernel
theorem dc83_74 : decode (pm_mb 83) 74 = .ok (.aload_n 0, 1) := by decide +kernel
theorem dc83_75 : decode (pm_mb 83) 75 = .ok (.getfield 118, 3) := by decide +kernel
theorem dc83_78 : decode (pm_mb 83) 78 = .ok (.invokevirtual 126, 3) := by decide +kernel
theorem dc83_81 : decode (pm_mb 83) 81 = .ok (.invokestatic 137, 3) := by decide +kernel
theorem dc83_84 : decode (pm_mb 83) 84 = .ok (.ifCond .eq 10, 3) := by decide +kernel
theorem dc83_87 : decode (pm_mb 83) 87 = .ok (.aload_n 0, 1) := by decide +kernel
theorem dc83_88 : decode (pm_mb 83) 88 = .ok (.invokevirtual 140, 3) := by decide +kernel
theorem dc83_91 : decode (pm_mb 83) 91 = .ok (.goto 56, 3) := by decide +kernel
theorem dc83_94 : decode (pm_mb 83) 94 = .ok (.aload_n 0, 1) := by decide +kernel
theorem dc83_95 : decode (pm_mb 83) 95 = .ok (.aload_n 0, 1) := by decide +kernel
theorem dc83_96 : decode (pm_mb 83) 96 = .ok (.getfield 118, 3) := by decide +kernel
theorem dc83_99 : decode (pm_mb 83) 99 = .ok (.invokevirtual 126, 3) := by decide +kernel
theorem dc83_102 : decode (pm_mb 83) 102 = .ok (.invokestatic 143, 3) := by decide +kernel
theorem dc83_105 : decode (pm_mb 83) 105 = .ok (.ifCond .eq 10, 3) := by decide +kernel
theorem dc83_108 : decode (pm_mb 83) 108 = .ok (.aload_n 0, 1) := by decide +kernel
theorem dc83_109 : decode (pm_mb 83) 109 = .ok (.invokevirtual 146, 3) := by decide +kernel
theorem dc83_112 : decode (pm_mb 83) 112 = .ok (.goto 35, 3) := by decide +kernel
theorem dc83_115 : decode (pm_mb 83) 115 = .ok (.aload_n 0, 1) := by decide +kernel
theorem dc83_116 : decode (pm_mb 83) 116 = .ok (.aload_n 0, 1) := by decide +kernel
theorem dc83_117 : decode (pm_mb 83) 117 = .ok (.aload_n 0, 1) := by decide +kernel
theorem dc83_118 : decode (pm_mb 83) 118 = .ok (.getfield 118, 3) := by decide +kernel
theorem dc83_121 : decode (pm_mb 83) 121 = .ok (.invokevirtual 126, 3) := by decide +kernel
theorem dc83_124 : decode (pm_mb 83) 124 = .ok (.bipush 59, 2) := by decide +kernel
theorem dc83_126 : decode (pm_mb 83) 126 = .ok (.if_icmp .ne 7, 3) := by decide +kernel
theorem dc83_129 : decode (pm_mb 83) 129 = .ok (.iconst 3, 1) := by decide +kernel
theorem dc83_130 : decode (pm_mb 83) 130 = .ok (.goto 4, 3) := by decide +kernel
theorem dc83_133 : decode (pm_mb 83) 133 = .ok (.iconst 4, 1) := by decide +kernel
theorem dc83_134 : decode (pm_mb 83) 134 = .ok (.putfield 57, 3) := by decide +kernel
theorem dc83_137 : decode (pm_mb 83) 137 = .ok (.aload_n 0, 1) := by decide +kernel
theorem dc83_138 : decode (pm_mb 83) 138 = .ok (.aload_n 0, 1) := by decide +kernel
theorem dc83_139 : decode (pm_mb 83) 139 = .ok (.getfield 118, 3) := by decide +kernel
theorem dc83_142 : decode (pm_mb 83) 142 = .ok (.iconst 1, 1) := by decide +kernel
theorem dc83_143 : decode (pm_mb 83) 143 = .ok (.iadd, 1) := by decide +kernel
theorem dc83_144 : decode (pm_mb 83) 144 = .ok (.putfield 29, 3) := by decide +kernel
theorem dc83_147 : decode (pm_mb 83) 147 = .ok (.return_, 1) := by decide +kernel
theorem b83_0 {X : pm_X} {d : Nat} {g : pm_G} {iv : pm_V} (hL : pm_lay g) : pm_at X d 83 (0, [some (.ref 5)], [], g, iv) = pm_at X d 83 (8, [some (.ref 5)], [], g, (pm_iw iv 5 3 ((iv 5 4)))) := by
  refine (at_aload_n dc83_0 rfl).trans ?_
  refine (at_aload_n dc83_1 rfl).trans ?_
  refine (at_gfI dc83_2 mc83 lf4_29 fo4_4 (ly5 hL)).trans ?_
  refine (at_pfI dc83_5 mc83 lf4_118 po4_3 (ly5 hL)).trans ?_
  rfl
theorem b83_8 {X : pm_X} {d : Nat} {g : pm_G} {iv : pm_V} (hL : pm_lay g) : pm_at X d 83 (8, [some (.ref 5)], [], g, iv) = if (iv 5 1) ≤ (iv 5 3) then pm_at X d 83 (46, [some (.ref 5)], [], g, iv) else pm_at X d 83 (19, [some (.ref 5)], [], g, iv) := by
  refine (at_aload_n dc83_8 rfl).trans ?_
  refine (at_gfI dc83_9 mc83 lf4_118 fo4_3 (ly5 hL)).trans ?_
  refine (at_aload_n dc83_12 rfl).trans ?_
  refine (at_gfI dc83_13 mc83 lf4_15 fo4_1 (ly5 hL)).trans ?_
  exact at_icmp_ge (t := 46) dc83_16 (by decide)
theorem b83_19 {X : pm_X} {d : Nat} {g : pm_G} {iv : pm_V} (hL : pm_lay g) : pm_at X d 83 (19, [some (.ref 5)], [], g, iv) = pm_then X d 83 27 [some (.ref 5)] [] (pm_c X d 86 [.ref 5, .int (iv 5 3)] g iv) := by
  refine (at_aload_n dc83_19 rfl).trans ?_
  refine (at_aload_n dc83_20 rfl).trans ?_
  refine (at_gfI dc83_21 mc83 lf4_118 fo4_3 (ly5 hL)).trans ?_
  exact at_inv dc83_24 mc83 lm4_126 rfl rfl (Nat.le_of_ble_eq_true rfl) (Or.inl ⟨(ly5 hL), by decide⟩)
theorem b83_27 {X : pm_X} {d : Nat} {s0 : Int32} {g : pm_G} {iv : pm_V}  : pm_at X d 83 (27, [some (.ref 5)], [.int s0], g, iv) = pm_then X d 83 30 [some (.ref 5)] [] (pm_c X d 87 [.int s0] g iv) := by
  exact at_ins dc83_27 mc83 lm4_134 (Nat.le_of_ble_eq_true rfl) rfl rfl (Nat.le_of_ble_eq_true rfl)
theorem b83_30 {X : pm_X} {d : Nat} {s0 : Int32} {g : pm_G} {iv : pm_V}  : pm_at X d 83 (30, [some (.ref 5)], [.int s0], g, iv) = if s0 = 0 then pm_at X d 83 (46, [some (.ref 5)], [], g, iv) else pm_at X d 83 (33, [some (.ref 5)], [], g, iv) := by
  exact at_if_eq (t := 46) dc83_30 (by decide)
theorem b83_33 {X : pm_X} {d : Nat} {g : pm_G} {iv : pm_V} (hL : pm_lay g) : pm_at X d 83 (33, [some (.ref 5)], [], g, iv) = pm_at X d 83 (8, [some (.ref 5)], [], g, (pm_iw iv 5 3 (((iv 5 3) + 1)))) := by
  refine (at_aload_n dc83_33 rfl).trans ?_
  refine (at_dup dc83_34 rfl).trans ?_
  refine (at_gfI dc83_35 mc83 lf4_118 fo4_3 (ly5 hL)).trans ?_
  refine (at_iconst (v := 1) dc83_38 rfl).trans ?_
  refine (at_iadd dc83_39).trans ?_
  refine (at_pfI dc83_40 mc83 lf4_118 po4_3 (ly5 hL)).trans ?_
  refine (at_goto (t := 8) dc83_43 (by decide)).trans ?_
  rfl
theorem b83_46 {X : pm_X} {d : Nat} {g : pm_G} {iv : pm_V} (hL : pm_lay g) : pm_at X d 83 (46, [some (.ref 5)], [], g, iv) = if ((pm_iw iv 5 4 ((iv 5 3))) 5 3) < ((pm_iw iv 5 4 ((iv 5 3))) 5 1) then pm_at X d 83 (73, [some (.ref 5)], [], g, (pm_iw iv 5 4 ((iv 5 3)))) else pm_at X d 83 (65, [some (.ref 5)], [], g, (pm_iw iv 5 4 ((iv 5 3)))) := by
  refine (at_aload_n dc83_46 rfl).trans ?_
  refine (at_aload_n dc83_47 rfl).trans ?_
  refine (at_gfI dc83_48 mc83 lf4_118 fo4_3 (ly5 hL)).trans ?_
  refine (at_pfI dc83_51 mc83 lf4_29 po4_4 (ly5 hL)).trans ?_
  refine (at_aload_n dc83_54 rfl).trans ?_
  refine (at_gfI dc83_55 mc83 lf4_118 fo4_3 (ly5 hL)).trans ?_
  refine (at_aload_n dc83_58 rfl).trans ?_
  refine (at_gfI dc83_59 mc83 lf4_15 fo4_1 (ly5 hL)).trans ?_
  exact at_icmp_lt (t := 73) dc83_62 (by decide)
theorem b83_65 {X : pm_X} {d : Nat} {g : pm_G} {iv : pm_V} (hL : pm_lay g) : pm_at X d 83 (65, [some (.ref 5)], [], g, iv) = pm_at X d 83 (147, [some (.ref 5)], [], g, (pm_iw iv 5 2 0)) := by
  refine (at_aload_n dc83_65 rfl).trans ?_
  refine (at_iconst (v := 0) dc83_66 rfl).trans ?_
  refine (at_pfI dc83_67 mc83 lf4_57 po4_2 (ly5 hL)).trans ?_
  refine (at_goto (t := 147) dc83_70 (by decide)).trans ?_
  rfl
theorem b83_73 {X : pm_X} {d : Nat} {g : pm_G} {iv : pm_V} (hL : pm_lay g) : pm_at X d 83 (73, [some (.ref 5)], [], g, iv) = pm_then X d 83 81 [some (.ref 5)] [] (pm_c X d 86 [.ref 5, .int (iv 5 3)] g iv) := by
  refine (at_aload_n dc83_73 rfl).trans ?_
  refine (at_aload_n dc83_74 rfl).trans ?_
  refine (at_gfI dc83_75 mc83 lf4_118 fo4_3 (ly5 hL)).trans ?_
  exact at_inv dc83_78 mc83 lm4_126 rfl rfl (Nat.le_of_ble_eq_true rfl) (Or.inl ⟨(ly5 hL), by decide⟩)
theorem b83_81 {X : pm_X} {d : Nat} {s0 : Int32} {g : pm_G} {iv : pm_V}  : pm_at X d 83 (81, [some (.ref 5)], [.int s0], g, iv) = pm_then X d 83 84 [some (.ref 5)] [] (pm_c X d 88 [.int s0] g iv) := by
  exact at_ins dc83_81 mc83 lm4_137 (Nat.le_of_ble_eq_true rfl) rfl rfl (Nat.le_of_ble_eq_true rfl)
theorem b83_84 {X : pm_X} {d : Nat} {s0 : Int32} {g : pm_G} {iv : pm_V}  : pm_at X d 83 (84, [some (.ref 5)], [.int s0], g, iv) = if s0 = 0 then pm_at X d 83 (94, [some (.ref 5)], [], g, iv) else pm_at X d 83 (87, [some (.ref 5)], [], g, iv) := by
  exact at_if_eq (t := 94) dc83_84 (by decide)
theorem b83_87 {X : pm_X} {d : Nat} {g : pm_G} {iv : pm_V} (hL : pm_lay g) : pm_at X d 83 (87, [some (.ref 5)], [], g, iv) = pm_then X d 83 91 [some (.ref 5)] [] (pm_c X d 84 [.ref 5] g iv) := by
  refine (at_aload_n dc83_87 rfl).trans ?_
  exact at_inv dc83_88 mc83 lm4_140 rfl rfl (Nat.le_of_ble_eq_true rfl) (Or.inl ⟨(ly5 hL), by decide⟩)
theorem b83_91 {X : pm_X} {d : Nat} {g : pm_G} {iv : pm_V}  : pm_at X d 83 (91, [some (.ref 5)], [], g, iv) = pm_at X d 83 (147, [some (.ref 5)], [], g, iv) := by
  refine (at_goto (t := 147) dc83_91 (by decide)).trans ?_
  rfl
theorem b83_94 {X : pm_X} {d : Nat} {g : pm_G} {iv : pm_V} (hL : pm_lay g) : pm_at X d 83 (94, [some (.ref 5)], [], g, iv) = pm_then X d 83 102 [some (.ref 5)] [] (pm_c X d 86 [.ref 5, .int (iv 5 3)] g iv) := by
  refine (at_aload_n dc83_94 rfl).trans ?_
  refine (at_aload_n dc83_95 rfl).trans ?_
  refine (at_gfI dc83_96 mc83 lf4_118 fo4_3 (ly5 hL)).trans ?_
  exact at_inv dc83_99 mc83 lm4_126 rfl rfl (Nat.le_of_ble_eq_true rfl) (Or.inl ⟨(ly5 hL), by decide⟩)
theorem b83_102 {X : pm_X} {d : Nat} {s0 : Int32} {g : pm_G} {iv : pm_V}  : pm_at X d 83 (102, [some (.ref 5)], [.int s0], g, iv) = pm_then X d 83 105 [some (.ref 5)] [] (pm_c X d 89 [.int s0] g iv) := by
  exact at_ins dc83_102 mc83 lm4_143 (Nat.le_of_ble_eq_true rfl) rfl rfl (Nat.le_of_ble_eq_true rfl)
theorem b83_105 {X : pm_X} {d : Nat} {s0 : Int32} {g : pm_G} {iv : pm_V}  : pm_at X d 83 (105, [some (.ref 5)], [.int s0], g, iv) = if s0 = 0 then pm_at X d 83 (115, [some (.ref 5)], [], g, iv) else pm_at X d 83 (108, [some (.ref 5)], [], g, iv) := by
  exact at_if_eq (t := 115) dc83_105 (by decide)
theorem b83_108 {X : pm_X} {d : Nat} {g : pm_G} {iv : pm_V} (hL : pm_lay g) : pm_at X d 83 (108, [some (.ref 5)], [], g, iv) = pm_then X d 83 112 [some (.ref 5)] [] (pm_c X d 85 [.ref 5] g iv) := by
  refine (at_aload_n dc83_108 rfl).trans ?_
  exact at_inv dc83_109 mc83 lm4_146 rfl rfl (Nat.le_of_ble_eq_true rfl) (Or.inl ⟨(ly5 hL), by decide⟩)
theorem b83_112 {X : pm_X} {d : Nat} {g : pm_G} {iv : pm_V}  : pm_at X d 83 (112, [some (.ref 5)], [], g, iv) = pm_at X d 83 (147, [some (.ref 5)], [], g, iv) := by
  refine (at_goto (t := 147) dc83_112 (by decide)).trans ?_
  rfl
theorem b83_115 {X : pm_X} {d : Nat} {g : pm_G} {iv : pm_V} (hL : pm_lay g) : pm_at X d 83 (115, [some (.ref 5)], [], g, iv) = pm_then X d 83 124 [some (.ref 5)] [.ref 5] (pm_c X d 86 [.ref 5, .int (iv 5 3)] g iv) := by
  refine (at_aload_n dc83_115 rfl).trans ?_
  refine (at_aload_n dc83_116 rfl).trans ?_
  refine (at_aload_n dc83_117 rfl).trans ?_
  refine (at_gfI dc83_118 mc83 lf4_118 fo4_3 (ly5 hL)).trans ?_
  exact at_inv dc83_121 mc83 lm4_126 rfl rfl (Nat.le_of_ble_eq_true rfl) (Or.inl ⟨(ly5 hL), by decide⟩)
theorem b83_124 {X : pm_X} {d : Nat} {s0 : Int32} {g : pm_G} {iv : pm_V}  : pm_at X d 83 (124, [some (.ref 5)], [.int s0, .ref 5], g, iv) = if ¬ s0 = 59 then pm_at X d 83 (133, [some (.ref 5)], [.ref 5], g, iv) else pm_at X d 83 (129, [some (.ref 5)], [.ref 5], g, iv) := by
  refine (at_bipush (v := 59) dc83_124 (by decide)).trans ?_
  exact at_icmp_ne (t := 133) dc83_126 (by decide)
theorem b83_129 {X : pm_X} {d : Nat} {g : pm_G} {iv : pm_V}  : pm_at X d 83 (129, [some (.ref 5)], [.ref 5], g, iv) = pm_at X d 83 (134, [some (.ref 5)], [.int 3, .ref 5], g, iv) := by
  refine (at_iconst (v := 3) dc83_129 rfl).trans ?_
  refine (at_goto (t := 134) dc83_130 (by decide)).trans ?_
  rfl
theorem b83_133 {X : pm_X} {d : Nat} {g : pm_G} {iv : pm_V}  : pm_at X d 83 (133, [some (.ref 5)], [.ref 5], g, iv) = pm_at X d 83 (134, [some (.ref 5)], [.int 4, .ref 5], g, iv) := by
  refine (at_iconst (v := 4) dc83_133 rfl).trans ?_
  rfl
theorem b83_134 {X : pm_X} {d : Nat} {s0 : Int32} {g : pm_G} {iv : pm_V} (hL : pm_lay g) : pm_at X d 83 (134, [some (.ref 5)], [.int s0, .ref 5], g, iv) = pm_at X d 83 (147, [some (.ref 5)], [], g, (pm_iw (pm_iw iv 5 2 s0) 5 4 ((((pm_iw iv 5 2 s0) 5 3) + 1)))) := by
  refine (at_pfI dc83_134 mc83 lf4_57 po4_2 (ly5 hL)).trans ?_
  refine (at_aload_n dc83_137 rfl).trans ?_
  refine (at_aload_n dc83_138 rfl).trans ?_
  refine (at_gfI dc83_139 mc83 lf4_118 fo4_3 (ly5 hL)).trans ?_
  refine (at_iconst (v := 1) dc83_142 rfl).trans ?_
  refine (at_iadd dc83_143).trans ?_
  refine (at_pfI dc83_144 mc83 lf4_29 po4_4 (ly5 hL)).trans ?_
  rfl
theorem b83_147 {X : pm_X} {d : Nat} {g : pm_G} {iv : pm_V}  : pm_at X d 83 (147, [some (.ref 5)], [], g, iv) = some (none, g, iv) := by
  exact at_vret dc83_147 mr83
-- Tape.stepOverName ()V
theorem dc84_0 : decode (pm_mb 84) 0 = .ok (.aload_n 0, 1) := by decide +kernel
theorem dc84_1 : decode (pm_mb 84) 1 = .ok (.iconst 1, 1) := by decide +kernel
theorem dc84_2 : decode (pm_mb 84) 2 = .ok (.putfield 57, 3) := by decide +kernel
theorem dc84_5 : decode (pm_mb 84) 5 = .ok (.aload_n 0, 1) := by decide +kernel
theorem dc84_6 : decode (pm_mb 84) 6 = .ok (.getfield 29, 3) := by decide +kernel
theorem dc84_9 : decode (pm_mb 84) 9 = .ok (.aload_n 0, 1) := by decide +kernel
theorem dc84_10 : decode (pm_mb 84) 10 = .ok (.getfield 15, 3) := by decide +kernel
theorem dc84_13 : decode (pm_mb 84) 13 = .ok (.if_icmp .ge 30, 3) := by decide +kernel
theorem dc84_16 : decode (pm_mb 84) 16 = .ok (.aload_n 0, 1) := by decide +kernel
theorem dc84_17 : decode (pm_mb 84) 17 = .ok (.aload_n 0, 1) := by decide +kernel
theorem dc84_18 : decode (pm_mb 84) 18 = .ok (.getfield 29, 3) := by decide +kernel
theorem dc84_21 : decode (pm_mb 84) 21 = .ok (.invokevirtual 126, 3) := by decide +kernel
theorem dc84_24 : decode (pm_mb 84) 24 = .ok (.invokestatic 137, 3) := by decide +kernel
theorem dc84_27 : decode (pm_mb 84) 27 = .ok (.ifCond .eq 16, 3) := by decide +kernel
theorem dc84_30 : decode (pm_mb 84) 30 = .ok (.aload_n 0, 1) := by decide +kernel
theorem dc84_31 : decode (pm_mb 84) 31 = .ok (.dup, 1) := by decide +kernel
theorem dc84_32 : decode (pm_mb 84) 32 = .ok (.getfield 29, 3) := by decide +kernel
theorem dc84_35 : decode (pm_mb 84) 35 = .ok (.iconst 1, 1) := by decide +kernel
theorem dc84_36 : decode (pm_mb 84) 36 = .ok (.iadd, 1) := by decide +kernel
theorem dc84_37 : decode (pm_mb 84) 37 = .ok (.putfield 29, 3) := by decide +kernel
theorem dc84_40 : decode (pm_mb 84) 40 = .ok (.goto (-35), 3) := by decide +kernel
theorem dc84_43 : decode (pm_mb 84) 43 = .ok (.return_, 1) := by decide +kernel
theorem b84_0 {X : pm_X} {d : Nat} {g : pm_G} {iv : pm_V} (hL : pm_lay g) : pm_at X d 84 (0, [some (.ref 5)], [], g, iv) = pm_at X d 84 (5, [some (.ref 5)], [], g, (pm_iw iv 5 2 1)) := by
  refine (at_aload_n dc84_0 rfl).trans ?_
  refine (at_iconst (v := 1) dc84_1 rfl).trans ?_
  refine (at_pfI dc84_2 mc84 lf4_57 po4_2 (ly5 hL)).trans ?_
  rfl
theorem b84_5 {X : pm_X} {d : Nat} {g : pm_G} {iv : pm_V} (hL : pm_lay g) : pm_at X d 84 (5, [some (.ref 5)], [], g, iv) = if (iv 5 1) ≤ (iv 5 4) then pm_at X d 84 (43, [some (.ref 5)], [], g, iv) else pm_at X d 84 (16, [some (.ref 5)], [], g, iv) := by
  refine (at_aload_n dc84_5 rfl).trans ?_
  refine (at_gfI dc84_6 mc84 lf4_29 fo4_4 (ly5 hL)).trans ?_
  refine (at_aload_n dc84_9 rfl).trans ?_
  refine (at_gfI dc84_10 mc84 lf4_15 fo4_1 (ly5 hL)).trans ?_
  exact at_icmp_ge (t := 43) dc84_13 (by decide)
theorem b84_16 {X : pm_X} {d : Nat} {g : pm_G} {iv : pm_V} (hL : pm_lay g) : pm_at X d 84 (16, [some (.ref 5)], [], g, iv) = pm_then X d 84 24 [some (.ref 5)] [] (pm_c X d 86 [.ref 5, .int (iv 5 4)] g iv) := by
  refine (at_aload_n dc84_16 rfl).trans ?_
  refine (at_aload_n dc84_17 rfl).trans ?_
  refine (at_gfI dc84_18 mc84 lf4_29 fo4_4 (ly5 hL)).trans ?_
  exact at_inv dc84_21 mc84 lm4_126 rfl rfl (Nat.le_of_ble_eq_true rfl) (Or.inl ⟨(ly5 hL), by decide⟩)
theorem b84_24 {X : pm_X} {d : Nat} {s0 : Int32} {g : pm_G} {iv : pm_V}  : pm_at X d 84 (24, [some (.ref 5)], [.int s0], g, iv) = pm_then X d 84 27 [some (.ref 5)] [] (pm_c X d 88 [.int s0] g iv) := by
  exact at_ins dc84_24 mc84 lm4_137 (Nat.le_of_ble_eq_true rfl) rfl rfl (Nat.le_of_ble_eq_true rfl)
theorem b84_27 {X : pm_X} {d : Nat} {s0 : Int32} {g : pm_G} {iv : pm_V}  : pm_at X d 84 (27, [some (.ref 5)], [.int s0], g, iv) = if s0 = 0 then pm_at X d 84 (43, [some (.ref 5)], [], g, iv) else pm_at X d 84 (30, [some (.ref 5)], [], g, iv) := by
  exact at_if_eq (t := 43) dc84_27 (by decide)
theorem b84_30 {X : pm_X} {d : Nat} {g : pm_G} {iv : pm_V} (hL : pm_lay g) : pm_at X d 84 (30, [some (.ref 5)], [], g, iv) = pm_at X d 84 (5, [some (.ref 5)], [], g, (pm_iw iv 5 4 (((iv 5 4) + 1)))) := by
  refine (at_aload_n dc84_30 rfl).trans ?_
  refine (at_dup dc84_31 rfl).trans ?_
  refine (at_gfI dc84_32 mc84 lf4_29 fo4_4 (ly5 hL)).trans ?_
  refine (at_iconst (v := 1) dc84_35 rfl).trans ?_
  refine (at_iadd dc84_36).trans ?_
  refine (at_pfI dc84_37 mc84 lf4_29 po4_4 (ly5 hL)).trans ?_
  refine (at_goto (t := 5) dc84_40 (by decide)).trans ?_
  rfl
theorem b84_43 {X : pm_X} {d : Nat} {g : pm_G} {iv : pm_V}  : pm_at X d 84 (43, [some (.ref 5)], [], g, iv) = some (none, g, iv) := by
  exact at_vret dc84_43 mr84
-- Tape.stepOverNumber ()V
theorem dc85_0 : decode (pm_mb 85) 0 = .ok (.aload_n 0, 1) := by decide +kernel
theorem dc85_1 : decode (pm_mb 85) 1 = .ok (.iconst 0, 1) := by decide +kernel
theorem dc85_2 : decode (pm_mb 85) 2 = .ok (.putfield 92, 3) := by decide +kernel
theorem dc85_5 : decode (pm_mb 85) 5 = .ok (.aload_n 0, 1) := by decide +kernel
theorem dc85_6 : decode (pm_mb 85) 6 = .ok (.getfield 29, 3) := by decide +kernel
theorem dc85_9 : decode (pm_mb 85) 9 = .ok (.aload_n 0, 1) := by decide +kernel
theorem dc85_10 : decode (pm_mb 85) 10 = .ok (.getfield 15, 3) := by decide +kernel
theorem dc85_13 : decode (pm_mb 85) 13 = .ok (.if_icmp .ge 66, 3) := by decide +kernel
theorem dc85_16 : decode (pm_mb 85) 16 = .ok (.aload_n 0, 1) := by decide +kernel
theorem dc85_17 : decode (pm_mb 85) 17 = .ok (.aload_n 0, 1) := by decide +kernel
theorem dc85_18 : decode (pm_mb 85) 18 = .ok (.getfield 29, 3) := by decide +kernel
theorem dc85_21 : decode (pm_mb 85) 21 = .ok (.invokevirtual 126, 3) := by decide +kernel
theorem dc85_24 : decode (pm_mb 85) 24 = .ok (.invokestatic 143, 3) := by decide +kernel
theorem dc85_27 : decode (pm_mb 85) 27 = .ok (.ifCond .eq 52, 3) := by decide +kernel
theorem dc85_30 : decode (pm_mb 85) 30 = .ok (.aload_n 0, 1) := by decide +kernel
theorem dc85_31 : decode (pm_mb 85) 31 = .ok (.getfield 29, 3) := by decide +kernel
theorem dc85_34 : decode (pm_mb 85) 34 = .ok (.aload_n 0, 1) := by decide +kernel
theorem dc85_35 : decode (pm_mb 85) 35 = .ok (.getfield 118, 3) := by decide +kernel
theorem dc85_38 : decode (pm_mb 85) 38 = .ok (.isub, 1) := by decide +kernel
theorem dc85_39 : decode (pm_mb 85) 39 = .ok (.iconst 3, 1) := by decide +kernel
theorem dc85_40 : decode (pm_mb 85) 40 = .ok (.if_icmp .ge 26, 3) := by decide +kernel
theorem dc85_43 : decode (pm_mb 85) 43 = .ok (.aload_n 0, 1) := by decide +kernel
theorem dc85_44 : decode (pm_mb 85) 44 = .ok (.aload_n 0, 1) := by decide +kernel
theorem dc85_45 : decode (pm_mb 85) 45 = .ok (.getfield 92, 3) := by decide +kernel
theorem dc85_48 : decode (pm_mb 85) 48 = .ok (.bipush 10, 2) := by decide +kernel
theorem dc85_50 : decode (pm_mb 85) 50 = .ok (.imul, 1) := by decide +kernel
theorem dc85_51 : decode (pm_mb 85) 51 = .ok (.aload_n 0, 1) := by decide +kernel
theorem dc85_52 : decode (pm_mb 85) 52 = .ok (.aload_n 0, 1) := by decide +kernel
theorem dc85_53 : decode (pm_mb 85) 53 = .ok (.getfield 29, 3) := by decide +kernel
theorem dc85_56 : decode (pm_mb 85) 56 = .ok (.invokevirtual 126, 3) := by decide +kernel
theorem dc85_59 : decode (pm_mb 85) 59 = .ok (.iadd, 1) := by decide +kernel
theorem dc85_60 : decode (pm_mb 85) 60 = .ok (.bipush 48, 2) := by decide +kernel
theorem dc85_62 : decode (pm_mb 85) 62 = .ok (.isub, 1) := by decide +kernel
theorem dc85_63 : decode (pm_mb 85) 63 = .ok (.putfield 92, 3) := by decide +kernel
theorem dc85_66 : decode (pm_mb 85) 66 = .ok (.aload_n 0, 1) := by decide +kernel
theorem dc85_67 : decode (pm_mb 85) 67 = .ok (.dup, 1) := by decide +kernel
theorem dc85_68 : decode (pm_mb 85) 68 = .ok (.getfield 29, 3) := by decide +kernel
theorem dc85_71 : decode (pm_mb 85) 71 = .ok (.iconst 1, 1) := by decide +kernel
theorem dc85_72 : decode (pm_mb 85) 72 = .ok (.iadd, 1) := by decide +kernel
theorem dc85_73 : decode (pm_mb 85) 73 = .ok (.putfield 29, 3) := by decide +kernel
theorem dc85_76 : decode (pm_mb 85) 76 = .ok (.goto (-71), 3) := by decide +kernel
theorem dc85_79 : decode (pm_mb 85) 79 = .ok (.aload_n 0, 1) := by decide +kernel
theorem dc85_80 : decode (pm_mb 85) 80 = .ok (.aload_n 0, 1) := by decide +kernel
theorem dc85_81 : decode (pm_mb 85) 81 = .ok (.getfield 29, 3) := by decide +kernel
theorem dc85_84 : decode (pm_mb 85) 84 = .ok (.aload_n 0, 1) := by decide +kernel
theorem dc85_85 : decode (pm_mb 85) 85 = .ok (.getfield 118, 3) := by decide +kernel
theorem dc85_88 : decode (pm_mb 85) 88 = .ok (.isub, 1) := by decide +kernel
theorem dc85_89 : decode (pm_mb 85) 89 = .ok (.iconst 3, 1) := by decide +kernel
theorem dc85_90 : decode (pm_mb 85) 90 = .ok (.if_icmp .le 7, 3) := by decide +kernel
theorem dc85_93 : decode (pm_mb 85) 93 = .ok (.iconst 4, 1) := by decide +kernel
theorem dc85_94 : decode (pm_mb 85) 94 = .ok (.goto 4, 3) := by decide +kernel
theorem dc85_97 : decode (pm_mb 85) 97 = .ok (.iconst 2, 1) := by decide +kernel
theorem dc85_98 : decode (pm_mb 85) 98 = .ok (.putfield 57, 3) := by decide +kernel
theorem dc85_101 : decode (pm_mb 85) 101 = .ok (.return_, 1) := by decide +kernel
theorem b85_0 {X : pm_X} {d : Nat} {g : pm_G} {iv : pm_V} (hL : pm_lay g) : pm_at X d 85 (0, [some (.ref 5)], [], g, iv) = pm_at X d 85 (5, [some (.ref 5)], [], g, (pm_iw iv 5 5 0)) := by
  refine (at_aload_n dc85_0 rfl).trans ?_
  refine (at_iconst (v := 0) dc85_1 rfl).trans ?_
  refine (at_pfI dc85_2 mc85 lf4_92 po4_5 (ly5 hL)).trans ?_
  rfl
theorem b85_5 {X : pm_X} {d : Nat} {g : pm_G} {iv : pm_V} (hL : pm_lay g) : pm_at X d 85 (5, [some (.ref 5)], [], g, iv) = if (iv 5 1) ≤ (iv 5 4) then pm_at X d 85 (79, [some (.ref 5)], [], g, iv) else pm_at X d 85 (16, [some (.ref 5)], [], g, iv) := by
  refine (at_aload_n dc85_5 rfl).trans ?_
  refine (at_gfI dc85_6 mc85 lf4_29 fo4_4 (ly5 hL)).trans ?_
  refine (at_aload_n dc85_9 rfl).trans ?_
  refine (at_gfI dc85_10 mc85 lf4_15 fo4_1 (ly5 hL)).trans ?_
  exact at_icmp_ge (t := 79) dc85_13 (by decide)
theorem b85_16 {X : pm_X} {d : Nat} {g : pm_G} {iv : pm_V} (hL : pm_lay g) : pm_at X d 85 (16, [some (.ref 5)], [], g, iv) = pm_then X d 85 24 [some (.ref 5)] [] (pm_c X d 86 [.ref 5, .int (iv 5 4)] g iv) := by
  refine (at_aload_n dc85_16 rfl).trans ?_
  refine (at_aload_n dc85_17 rfl).trans ?_
  refine (at_gfI dc85_18 mc85 lf4_29 fo4_4 (ly5 hL)).trans ?_
  exact at_inv dc85_21 mc85 lm4_126 rfl rfl (Nat.le_of_ble_eq_true rfl) (Or.inl ⟨(ly5 hL), by decide⟩)
theorem b85_24 {X : pm_X} {d : Nat} {s0 : Int32} {g : pm_G} {iv : pm_V}  : pm_at X d 85 (24, [some (.ref 5)], [.int s0], g, iv) = pm_then X d 85 27 [some (.ref 5)] [] (pm_c X d 89 [.int s0] g iv) := by
  exact at_ins dc85_24 mc85 lm4_143 (Nat.le_of_ble_eq_true rfl) rfl rfl (Nat.le_of_ble_eq_true rfl)
theorem b85_27 {X : pm_X} {d : Nat} {s0 : Int32} {g : pm_G} {iv : pm_V}  : pm_at X d 85 (27, [some (.ref 5)], [.int s0], g, iv) = if s0 = 0 then pm_at X d 85 (79, [some (.ref 5)], [], g, iv) else pm_at X d 85 (30, [some (.ref 5)], [], g, iv) := by
  exact at_if_eq (t := 79) dc85_27 (by decide)
theorem b85_30 {X : pm_X} {d : Nat} {g : pm_G} {iv : pm_V} (hL : pm_lay g) : pm_at X d 85 (30, [some (.ref 5)], [], g, iv) = if 3 ≤ ((iv 5 4) - (iv 5 3)) then pm_at X d 85 (66, [some (.ref 5)], [], g, iv) else pm_at X d 85 (43, [some (.ref 5)], [], g, iv) := by
  refine (at_aload_n dc85_30 rfl).trans ?_
  refine (at_gfI dc85_31 mc85 lf4_29 fo4_4 (ly5 hL)).trans ?_
  refine (at_aload_n dc85_34 rfl).trans ?_
  refine (at_gfI dc85_35 mc85 lf4_118 fo4_3 (ly5 hL)).trans ?_
  refine (at_isub dc85_38).trans ?_
  refine (at_iconst (v := 3) dc85_39 rfl).trans ?_
  exact at_icmp_ge (t := 66) dc85_40 (by decide)
theorem b85_43 {X : pm_X} {d : Nat} {g : pm_G} {iv : pm_V} (hL : pm_lay g) : pm_at X d 85 (43, [some (.ref 5)], [], g, iv) = pm_then X d 85 59 [some (.ref 5)] [.int ((iv 5 5) * 10), .ref 5] (pm_c X d 86 [.ref 5, .int (iv 5 4)] g iv) := by
  refine (at_aload_n dc85_43 rfl).trans ?_
  refine (at_aload_n dc85_44 rfl).trans ?_
  refine (at_gfI dc85_45 mc85 lf4_92 fo4_5 (ly5 hL)).trans ?_
  refine (at_bipush (v := 10) dc85_48 (by decide)).trans ?_
  refine (at_imul dc85_50).trans ?_
  refine (at_aload_n dc85_51 rfl).trans ?_
  refine (at_aload_n dc85_52 rfl).trans ?_
  refine (at_gfI dc85_53 mc85 lf4_29 fo4_4 (ly5 hL)).trans ?_
  exact at_inv dc85_56 mc85 lm4_126 rfl rfl (Nat.le_of_ble_eq_true rfl) (Or.inl ⟨(ly5 hL), by decide⟩)
theorem b85_59 {X : pm_X} {d : Nat} {s0 : Int32} {s1 : Int32} {g : pm_G} {iv : pm_V} (hL : pm_lay g) : pm_at X d 85 (59, [some (.ref 5)], [.int s0, .int s1, .ref 5], g, iv) = pm_at X d 85 (66, [some (.ref 5)], [], g, (pm_iw iv 5 5 (((s1 + s0) - 48)))) := by
  refine (at_iadd dc85_59).trans ?_
  refine (at_bipush (v := 48) dc85_60 (by decide)).trans ?_
  refine (at_isub dc85_62).trans ?_
  refine (at_pfI dc85_63 mc85 lf4_92 po4_5 (ly5 hL)).trans ?_
  rfl
theorem b85_66 {X : pm_X} {d : Nat} {g : pm_G} {iv : pm_V} (hL : pm_lay g) : pm_at X d 85 (66, [some (.ref 5)], [], g, iv) = pm_at X d 85 (5, [some (.ref 5)], [], g, (pm_iw iv 5 4 (((iv 5 4) + 1)))) := by
  refine (at_aload_n dc85_66 rfl).trans ?_
  refine (at_dup dc85_67 rfl).trans ?_
  refine (at_gfI dc85_68 mc85 lf4_29 fo4_4 (ly5 hL)).trans ?_
  refine (at_iconst (v := 1) dc85_71 rfl).trans ?_
  refine (at_iadd dc85_72).trans ?_
  refine (at_pfI dc85_73 mc85 lf4_29 po4_4 (ly5 hL)).trans ?_
  refine (at_goto (t := 5) dc85_76 (by decide)).trans ?_
  rfl
theorem b85_79 {X : pm_X} {d : Nat} {g : pm_G} {iv : pm_V} (hL : pm_lay g) : pm_at X d 85 (79, [some (.ref 5)], [], g, iv) = if ((iv 5 4) - (iv 5 3)) ≤ 3 then pm_at X d 85 (97, [some (.ref 5)], [.ref 5], g, iv) else pm_at X d 85 (93, [some (.ref 5)], [.ref 5], g, iv) := by
  refine (at_aload_n dc85_79 rfl).trans ?_
  refine (at_aload_n dc85_80 rfl).trans ?_
  refine (at_gfI dc85_81 mc85 lf4_29 fo4_4 (ly5 hL)).trans ?_
  refine (at_aload_n dc85_84 rfl).trans ?_
  refine (at_gfI dc85_85 mc85 lf4_118 fo4_3 (ly5 hL)).trans ?_
  refine (at_isub dc85_88).trans ?_
  refine (at_iconst (v := 3) dc85_89 rfl).trans ?_
  exact at_icmp_le (t := 97) dc85_90 (by decide)
theorem b85_93 {X : pm_X} {d : Nat} {g : pm_G} {iv : pm_V}  : pm_at X d 85 (93, [some (.ref 5)], [.ref 5], g, iv) = pm_at X d 85 (98, [some (.ref 5)], [.int 4, .ref 5], g, iv) := by
  refine (at_iconst (v := 4) dc85_93 rfl).trans ?_
  refine (at_goto (t := 98) dc85_94 (by decide)).trans ?_
  rfl
theorem b85_97 {X : pm_X} {d : Nat} {g : pm_G} {iv : pm_V}  : pm_at X d 85 (97, [some (.ref 5)], [.ref 5], g, iv) = pm_at X d 85 (98, [some (.ref 5)], [.int 2, .ref 5], g, iv) := by
  refine (at_iconst (v := 2) dc85_97 rfl).trans ?_
  rfl
theorem b85_98 {X : pm_X} {d : Nat} {s0 : Int32} {g : pm_G} {iv : pm_V} (hL : pm_lay g) : pm_at X d 85 (98, [some (.ref 5)], [.int s0, .ref 5], g, iv) = some (none, g, (pm_iw iv 5 2 s0)) := by
  refine (at_pfI dc85_98 mc85 lf4_57 po4_2 (ly5 hL)).trans ?_
  exact at_vret dc85_101 mr85
-- Tape.byteAt (I)I
theorem dc86_0 : decode (pm_mb 86) 0 = .ok (.iload_n 1, 1) := by decide +kernel
theorem dc86_1 : decode (pm_mb 86) 1 = .ok (.ifCond .lt 23, 3) := by decide +kernel
theorem dc86_4 : decode (pm_mb 86) 4 = .ok (.iload_n 1, 1) := by decide +kernel
theorem dc86_5 : decode (pm_mb 86) 5 = .ok (.sipush 400, 3) := by decide +kernel
theorem dc86_8 : decode (pm_mb 86) 8 = .ok (.if_icmp .ge 16, 3) := by decide +kernel
theorem dc86_11 : decode (pm_mb 86) 11 = .ok (.aload_n 0, 1) := by decide +kernel
theorem dc86_12 : decode (pm_mb 86) 12 = .ok (.getfield 9, 3) := by decide +kernel
theorem dc86_15 : decode (pm_mb 86) 15 = .ok (.iload_n 1, 1) := by decide +kernel
theorem dc86_16 : decode (pm_mb 86) 16 = .ok (.baload, 1) := by decide +kernel
theorem dc86_17 : decode (pm_mb 86) 17 = .ok (.sipush 255, 3) := by decide +kernel
theorem dc86_20 : decode (pm_mb 86) 20 = .ok (.iand, 1) := by decide +kernel
theorem dc86_21 : decode (pm_mb 86) 21 = .ok (.goto 4, 3) := by decide +kernel
theorem dc86_24 : decode (pm_mb 86) 24 = .ok (.iconst 0, 1) := by decide +kernel
theorem dc86_25 : decode (pm_mb 86) 25 = .ok (.ireturn, 1) := by decide +kernel
theorem b86_0 {X : pm_X} {d : Nat} {x1 : Int32} {g : pm_G} {iv : pm_V}  : pm_at X d 86 (0, [some (.ref 5), some (.int x1)], [], g, iv) = if x1 < 0 then pm_at X d 86 (24, [some (.ref 5), some (.int x1)], [], g, iv) else pm_at X d 86 (4, [some (.ref 5), some (.int x1)], [], g, iv) := by
  refine (at_iload_n dc86_0 rfl).trans ?_
  exact at_if_lt (t := 24) dc86_1 (by decide)
theorem b86_4 {X : pm_X} {d : Nat} {x1 : Int32} {g : pm_G} {iv : pm_V}  : pm_at X d 86 (4, [some (.ref 5), some (.int x1)], [], g, iv) = if 400 ≤ x1 then pm_at X d 86 (24, [some (.ref 5), some (.int x1)], [], g, iv) else pm_at X d 86 (11, [some (.ref 5), some (.int x1)], [], g, iv) := by
  refine (at_iload_n dc86_4 rfl).trans ?_
  refine (at_sipush (v := 400) dc86_5 (by decide)).trans ?_
  exact at_icmp_ge (t := 24) dc86_8 (by decide)
theorem b86_11 {X : pm_X} {d : Nat} {x1 : Int32} {g : pm_G} {iv : pm_V} (hL : pm_lay g) (i1 : vp_in x1 400) : pm_at X d 86 (11, [some (.ref 5), some (.int x1)], [], g, iv) = pm_at X d 86 (25, [some (.ref 5), some (.int x1)], [.int ((iv 6 (x1 : Int32).toNatClampNeg) &&& 255)], g, iv) := by
  refine (at_aload_n dc86_11 rfl).trans ?_
  refine (at_gfR dc86_12 mc86 lf4_9 fo4_0 (ly5 hL) (lr5_0 hL)).trans ?_
  refine (at_iload_n dc86_15 rfl).trans ?_
  refine (at_bald dc86_16 (ly6 hL) (Or.inl rfl) i1).trans ?_
  refine (at_sipush (v := 255) dc86_17 (by decide)).trans ?_
  refine (at_iand dc86_20).trans ?_
  refine (at_goto (t := 25) dc86_21 (by decide)).trans ?_
  rfl
theorem b86_24 {X : pm_X} {d : Nat} {x1 : Int32} {g : pm_G} {iv : pm_V}  : pm_at X d 86 (24, [some (.ref 5), some (.int x1)], [], g, iv) = pm_at X d 86 (25, [some (.ref 5), some (.int x1)], [.int 0], g, iv) := by
  refine (at_iconst (v := 0) dc86_24 rfl).trans ?_
  rfl
theorem b86_25 {X : pm_X} {d : Nat} {x1 : Int32} {s0 : Int32} {g : pm_G} {iv : pm_V}  : pm_at X d 86 (25, [some (.ref 5), some (.int x1)], [.int s0], g, iv) = some (some (.int s0), g, iv) := by
  exact at_iret dc86_25 mr86
-- Tape.isBlank (I)Z
theorem dc87_0 : decode (pm_mb 87) 0 = .ok (.iload_n 0, 1) := by decide +kernel
theorem dc87_1 : decode (pm_mb 87) 1 = .ok (.bipush 32, 2) := by decide +kernel
theorem dc87_3 : decode (pm_mb 87) 3 = .ok (.if_icmp .eq 9, 3) := by decide +kernel
theorem dc87_6 : decode (pm_mb 87) 6 = .ok (.iload_n 0, 1) := by decide +kernel
theorem dc87_7 : decode (pm_mb 87) 7 = .ok (.bipush 10, 2) := by decide +kernel
theorem dc87_9 : decode (pm_mb 87) 9 = .ok (.if_icmp .ne 7, 3) := by decide +kernel
theorem dc87_12 : decode (pm_mb 87) 12 = .ok (.iconst 1, 1) := by decide +kernel
theorem dc87_13 : decode (pm_mb 87) 13 = .ok (.goto 4, 3) := by decide +kernel
theorem dc87_16 : decode (pm_mb 87) 16 = .ok (.iconst 0, 1) := by decide +kernel
theorem dc87_17 : decode (pm_mb 87) 17 = .ok (.ireturn, 1) := by decide +kernel
theorem b87_0 {X : pm_X} {d : Nat} {x0 : Int32} {g : pm_G} {iv : pm_V}  : pm_at X d 87 (0, [some (.int x0)], [], g, iv) = if x0 = 32 then pm_at X d 87 (12, [some (.int x0)], [], g, iv) else pm_at X d 87 (6, [some (.int x0)], [], g, iv) := by
  refine (at_iload_n dc87_0 rfl).trans ?_
  refine (at_bipush (v := 32) dc87_1 (by decide)).trans ?_
  exact at_icmp_eq (t := 12) dc87_3 (by decide)
theorem b87_6 {X : pm_X} {d : Nat} {x0 : Int32} {g : pm_G} {iv : pm_V}  : pm_at X d 87 (6, [some (.int x0)], [], g, iv) = if ¬ x0 = 10 then pm_at X d 87 (16, [some (.int x0)], [], g, iv) else pm_at X d 87 (12, [some (.int x0)], [], g, iv) := by
  refine (at_iload_n dc87_6 rfl).trans ?_
  refine (at_bipush (v := 10) dc87_7 (by decide)).trans ?_
  exact at_icmp_ne (t := 16) dc87_9 (by decide)
theorem b87_12 {X : pm_X} {d : Nat} {x0 : Int32} {g : pm_G} {iv : pm_V}  : pm_at X d 87 (12, [some (.int x0)], [], g, iv) = pm_at X d 87 (17, [some (.int x0)], [.int 1], g, iv) := by
  refine (at_iconst (v := 1) dc87_12 rfl).trans ?_
  refine (at_goto (t := 17) dc87_13 (by decide)).trans ?_
  rfl
theorem b87_16 {X : pm_X} {d : Nat} {x0 : Int32} {g : pm_G} {iv : pm_V}  : pm_at X d 87 (16, [some (.int x0)], [], g, iv) = pm_at X d 87 (17, [some (.int x0)], [.int 0], g, iv) := by
  refine (at_iconst (v := 0) dc87_16 rfl).trans ?_
  rfl
theorem b87_17 {X : pm_X} {d : Nat} {x0 : Int32} {s0 : Int32} {g : pm_G} {iv : pm_V}  : pm_at X d 87 (17, [some (.int x0)], [.int s0], g, iv) = pm_zr s0 (some (some (.int s0), g, iv)) := by
  exact at_zretG dc87_17 mr87
-- Tape.isLetter (I)Z
theorem dc88_0 : decode (pm_mb 88) 0 = .ok (.iload_n 0, 1) := by decide +kernel
theorem dc88_1 : decode (pm_mb 88) 1 = .ok (.bipush 97, 2) := by decide +kernel
theorem dc88_3 : decode (pm_mb 88) 3 = .ok (.if_icmp .lt 13, 3) := by decide +kernel
theorem dc88_6 : decode (pm_mb 88) 6 = .ok (.iload_n 0, 1) := by decide +kernel
theorem dc88_7 : decode (pm_mb 88) 7 = .ok (.bipush 122, 2) := by decide +kernel
theorem dc88_9 : decode (pm_mb 88) 9 = .ok (.if_icmp .gt 7, 3) := by decide +kernel
theorem dc88_12 : decode (pm_mb 88) 12 = .ok (.iconst 1, 1) := by decide +kernel
theorem dc88_13 : decode (pm_mb 88) 13 = .ok (.goto 4, 3) := by decide +kernel
theorem dc88_16 : decode (pm_mb 88) 16 = .ok (.iconst 0, 1) := by decide +kernel
theorem dc88_17 : decode (pm_mb 88) 17 = .ok (.ireturn, 1) := by decide +kernel
theorem b88_0 {X : pm_X} {d : Nat} {x0 : Int32} {g : pm_G} {iv : pm_V}  : pm_at X d 88 (0, [some (.int x0)], [], g, iv) = if x0 < 97 then pm_at X d 88 (16, [some (.int x0)], [], g, iv) else pm_at X d 88 (6, [some (.int x0)], [], g, iv) := by
  refine (at_iload_n dc88_0 rfl).trans ?_
  refine (at_bipush (v := 97) dc88_1 (by decide)).trans ?_
  exact at_icmp_lt (t := 16) dc88_3 (by decide)
theorem b88_6 {X : pm_X} {d : Nat} {x0 : Int32} {g : pm_G} {iv : pm_V}  : pm_at X d 88 (6, [some (.int x0)], [], g, iv) = if 122 < x0 then pm_at X d 88 (16, [some (.int x0)], [], g, iv) else pm_at X d 88 (12, [some (.int x0)], [], g, iv) := by
  refine (at_iload_n dc88_6 rfl).trans ?_
  refine (at_bipush (v := 122) dc88_7 (by decide)).trans ?_
  exact at_icmp_gt (t := 16) dc88_9 (by decide)
theorem b88_12 {X : pm_X} {d : Nat} {x0 : Int32} {g : pm_G} {iv : pm_V}  : pm_at X d 88 (12, [some (.int x0)], [], g, iv) = pm_at X d 88 (17, [some (.int x0)], [.int 1], g, iv) := by
  refine (at_iconst (v := 1) dc88_12 rfl).trans ?_
  refine (at_goto (t := 17) dc88_13 (by decide)).trans ?_
  rfl
theorem b88_16 {X : pm_X} {d : Nat} {x0 : Int32} {g : pm_G} {iv : pm_V}  : pm_at X d 88 (16, [some (.int x0)], [], g, iv) = pm_at X d 88 (17, [some (.int x0)], [.int 0], g, iv) := by
  refine (at_iconst (v := 0) dc88_16 rfl).trans ?_
  rfl
theorem b88_17 {X : pm_X} {d : Nat} {x0 : Int32} {s0 : Int32} {g : pm_G} {iv : pm_V}  : pm_at X d 88 (17, [some (.int x0)], [.int s0], g, iv) = pm_zr s0 (some (some (.int s0), g, iv)) := by
  exact at_zretG dc88_17 mr88
-- Tape.isFigure (I)Z
theorem dc89_0 : decode (pm_mb 89) 0 = .ok (.iload_n 0, 1) := by decide +kernel
theorem dc89_1 : decode (pm_mb 89) 1 = .ok (.bipush 48, 2) := by decide +kernel
theorem dc89_3 : decode (pm_mb 89) 3 = .ok (.if_icmp .lt 13, 3) := by decide +kernel
theorem dc89_6 : decode (pm_mb 89) 6 = .ok (.iload_n 0, 1) := by decide +kernel
theorem dc89_7 : decode (pm_mb 89) 7 = .ok (.bipush 57, 2) := by decide +kernel
theorem dc89_9 : decode (pm_mb 89) 9 = .ok (.if_icmp .gt 7, 3) := by decide +kernel
theorem dc89_12 : decode (pm_mb 89) 12 = .ok (.iconst 1, 1) := by decide +kernel
theorem dc89_13 : decode (pm_mb 89) 13 = .ok (.goto 4, 3) := by decide +kernel
theorem dc89_16 : decode (pm_mb 89) 16 = .ok (.iconst 0, 1) := by decide +kernel
theorem dc89_17 : decode (pm_mb 89) 17 = .ok (.ireturn, 1) := by decide +kernel
theorem b89_0 {X : pm_X} {d : Nat} {x0 : Int32} {g : pm_G} {iv : pm_V}  : pm_at X d 89 (0, [some (.int x0)], [], g, iv) = if x0 < 48 then pm_at X d 89 (16, [some (.int x0)], [], g, iv) else pm_at X d 89 (6, [some (.int x0)], [], g, iv) := by
  refine (at_iload_n dc89_0 rfl).trans ?_
  refine (at_bipush (v := 48) dc89_1 (by decide)).trans ?_
  exact at_icmp_lt (t := 16) dc89_3 (by decide)
theorem b89_6 {X : pm_X} {d : Nat} {x0 : Int32} {g : pm_G} {iv : pm_V}  : pm_at X d 89 (6, [some (.int x0)], [], g, iv) = if 57 < x0 then pm_at X d 89 (16, [some (.int x0)], [], g, iv) else pm_at X d 89 (12, [some (.int x0)], [], g, iv) := by
  refine (at_iload_n dc89_6 rfl).trans ?_
  refine (at_bipush (v := 57) dc89_7 (by decide)).trans ?_
  exact at_icmp_gt (t := 16) dc89_9 (by decide)
theorem b89_12 {X : pm_X} {d : Nat} {x0 : Int32} {g : pm_G} {iv : pm_V}  : pm_at X d 89 (12, [some (.int x0)], [], g, iv) = pm_at X d 89 (17, [some (.int x0)], [.int 1], g, iv) := by
  refine (at_iconst (v := 1) dc89_12 rfl).trans ?_
  refine (at_goto (t := 17) dc89_13 (by decide)).trans ?_
  rfl
theorem b89_16 {X : pm_X} {d : Nat} {x0 : Int32} {g : pm_G} {iv : pm_V}  : pm_at X d 89 (16, [some (.int x0)], [], g, iv) = pm_at X d 89 (17, [some (.int x0)], [.int 0], g, iv) := by
  refine (at_iconst (v := 0) dc89_16 rfl).trans ?_
  rfl
theorem b89_17 {X : pm_X} {d : Nat} {x0 : Int32} {s0 : Int32} {g : pm_G} {iv : pm_V}  : pm_at X d 89 (17, [some (.int x0)], [.int s0], g, iv) = pm_zr s0 (some (some (.int s0), g, iv)) := by
  exact at_zretG dc89_17 mr89
