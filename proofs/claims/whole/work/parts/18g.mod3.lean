-- Mod.beside (III)I
theorem dc181_0 : decode (pm_mb 181) 0 = .ok (.aload_n 0, 1) := by decide +kernel
theorem dc181_1 : decode (pm_mb 181) 1 = .ok (.iconst 0, 1) := by decide +kernel
theorem dc181_2 : decode (pm_mb 181) 2 = .ok (.putfield 50, 3) := by decide +kernel
theorem dc181_5 : decode (pm_mb 181) 5 = .ok (.aload_n 0, 1) := by decide +kernel
theorem dc181_6 : decode (pm_mb 181) 6 = .ok (.iload_n 1, 1) := by decide +kernel
theorem dc181_7 : decode (pm_mb 181) 7 = .ok (.iload_n 2, 1) := by decide +kernel
theorem dc181_8 : decode (pm_mb 181) 8 = .ok (.invokevirtual 234, 3) := by decide +kernel
theorem dc181_11 : decode (pm_mb 181) 11 = .ok (.ifCond .eq 15, 3) := by decide +kernel
theorem dc181_14 : decode (pm_mb 181) 14 = .ok (.iload_n 3, 1) := by decide +kernel
theorem dc181_15 : decode (pm_mb 181) 15 = .ok (.i2l, 1) := by decide +kernel
theorem dc181_16 : decode (pm_mb 181) 16 = .ok (.lconst 0, 1) := by decide +kernel
theorem dc181_17 : decode (pm_mb 181) 17 = .ok (.ldc2_w 229, 3) := by decide +kernel
theorem dc181_20 : decode (pm_mb 181) 20 = .ok (.invokestatic 60, 3) := by decide +kernel
theorem dc181_23 : decode (pm_mb 181) 23 = .ok (.ifCond .ne 6, 3) := by decide +kernel
theorem dc181_26 : decode (pm_mb 181) 26 = .ok (.ldc 70, 2) := by decide +kernel
theorem dc181_28 : decode (pm_mb 181) 28 = .ok (.ireturn, 1) := by decide +kernel
theorem dc181_29 : decode (pm_mb 181) 29 = .ok (.aload_n 0, 1) := by decide +kernel
theorem dc181_30 : decode (pm_mb 181) 30 = .ok (.iload_n 3, 1) := by decide +kernel
theorem dc181_31 : decode (pm_mb 181) 31 = .ok (.invokevirtual 231, 3) := by decide +kernel
theorem dc181_34 : decode (pm_mb 181) 34 = .ok (.aload_n 0, 1) := by decide +kernel
theorem dc181_35 : decode (pm_mb 181) 35 = .ok (.iload_n 1, 1) := by decide +kernel
theorem dc181_36 : decode (pm_mb 181) 36 = .ok (.iload_n 2, 1) := by decide +kernel
theorem dc181_37 : decode (pm_mb 181) 37 = .ok (.invokevirtual 237, 3) := by decide +kernel
theorem dc181_40 : decode (pm_mb 181) 40 = .ok (.ifCond .eq 7, 3) := by decide +kernel
theorem dc181_43 : decode (pm_mb 181) 43 = .ok (.iconst 1, 1) := by decide +kernel
theorem dc181_44 : decode (pm_mb 181) 44 = .ok (.goto 4, 3) := by decide +kernel
theorem dc181_47 : decode (pm_mb 181) 47 = .ok (.iconst 0, 1) := by decide +kernel
theorem dc181_48 : decode (pm_mb 181) 48 = .ok (.ireturn, 1) := by decide +kernel
theorem b181_0 {X : pm_X} {d : Nat} {x1 : Int32} {x2 : Int32} {x3 : Int32} {g : pm_G} {iv : pm_V} (hL : pm_lay g) : pm_at X d 181 (0, [some (.ref 32), some (.int x1), some (.int x2), some (.int x3)], [], g, iv) = pm_then X d 181 11 [some (.ref 32), some (.int x1), some (.int x2), some (.int x3)] [] (pm_c X d 158 [.ref 32, .int x1, .int x2] g (pm_iw iv 32 0 0)) := by
  refine (at_aload_n dc181_0 rfl).trans ?_
  refine (at_iconst (v := 0) dc181_1 rfl).trans ?_
  refine (at_pfI dc181_2 mc181 lf6_50 po6_0 (ly32 hL)).trans ?_
  refine (at_aload_n dc181_5 rfl).trans ?_
  refine (at_iload_n dc181_6 rfl).trans ?_
  refine (at_iload_n dc181_7 rfl).trans ?_
  exact at_inv dc181_8 mc181 lm6_234 rfl rfl (Nat.le_of_ble_eq_true rfl) (Or.inl ⟨(ly32 hL), by decide⟩)
theorem b181_11 {X : pm_X} {d : Nat} {x1 : Int32} {x2 : Int32} {x3 : Int32} {s0 : Int32} {g : pm_G} {iv : pm_V}  : pm_at X d 181 (11, [some (.ref 32), some (.int x1), some (.int x2), some (.int x3)], [.int s0], g, iv) = if s0 = 0 then pm_at X d 181 (26, [some (.ref 32), some (.int x1), some (.int x2), some (.int x3)], [], g, iv) else pm_at X d 181 (14, [some (.ref 32), some (.int x1), some (.int x2), some (.int x3)], [], g, iv) := by
  exact at_if_eq (t := 26) dc181_11 (by decide)
theorem b181_14 {X : pm_X} {d : Nat} {x1 : Int32} {x2 : Int32} {x3 : Int32} {g : pm_G} {iv : pm_V}  : pm_at X d 181 (14, [some (.ref 32), some (.int x1), some (.int x2), some (.int x3)], [], g, iv) = pm_then X d 181 23 [some (.ref 32), some (.int x1), some (.int x2), some (.int x3)] [] (pm_c X d 130 [.long (x3 : Int32).toInt64, .long 0, .long 40] g iv) := by
  refine (at_iload_n dc181_14 rfl).trans ?_
  refine (at_i2l dc181_15).trans ?_
  refine (at_lconst (v := 0) dc181_16 (by decide)).trans ?_
  refine (at_ldc2 dc181_17 mc181 ll6_229).trans ?_
  exact at_ins dc181_20 mc181 lm6_60 (Nat.le_of_ble_eq_true rfl) rfl rfl (Nat.le_of_ble_eq_true rfl)
theorem b181_23 {X : pm_X} {d : Nat} {x1 : Int32} {x2 : Int32} {x3 : Int32} {s0 : Int32} {g : pm_G} {iv : pm_V}  : pm_at X d 181 (23, [some (.ref 32), some (.int x1), some (.int x2), some (.int x3)], [.int s0], g, iv) = if ¬ s0 = 0 then pm_at X d 181 (29, [some (.ref 32), some (.int x1), some (.int x2), some (.int x3)], [], g, iv) else pm_at X d 181 (26, [some (.ref 32), some (.int x1), some (.int x2), some (.int x3)], [], g, iv) := by
  exact at_if_ne (t := 29) dc181_23 (by decide)
theorem b181_26 {X : pm_X} {d : Nat} {x1 : Int32} {x2 : Int32} {x3 : Int32} {g : pm_G} {iv : pm_V}  : pm_at X d 181 (26, [some (.ref 32), some (.int x1), some (.int x2), some (.int x3)], [], g, iv) = some (some (.int (-1000001)), g, iv) := by
  refine (at_ldc dc181_26 mc181 lk6_70).trans ?_
  exact at_iret dc181_28 mr181
theorem b181_29 {X : pm_X} {d : Nat} {x1 : Int32} {x2 : Int32} {x3 : Int32} {g : pm_G} {iv : pm_V} (hL : pm_lay g) : pm_at X d 181 (29, [some (.ref 32), some (.int x1), some (.int x2), some (.int x3)], [], g, iv) = pm_then X d 181 34 [some (.ref 32), some (.int x1), some (.int x2), some (.int x3)] [] (pm_c X d 177 [.ref 32, .int x3] g iv) := by
  refine (at_aload_n dc181_29 rfl).trans ?_
  refine (at_iload_n dc181_30 rfl).trans ?_
  exact at_inv dc181_31 mc181 lm6_231 rfl rfl (Nat.le_of_ble_eq_true rfl) (Or.inl ⟨(ly32 hL), by decide⟩)
theorem b181_34 {X : pm_X} {d : Nat} {x1 : Int32} {x2 : Int32} {x3 : Int32} {g : pm_G} {iv : pm_V} (hL : pm_lay g) : pm_at X d 181 (34, [some (.ref 32), some (.int x1), some (.int x2), some (.int x3)], [], g, iv) = pm_then X d 181 40 [some (.ref 32), some (.int x1), some (.int x2), some (.int x3)] [] (pm_c X d 180 [.ref 32, .int x1, .int x2] g iv) := by
  refine (at_aload_n dc181_34 rfl).trans ?_
  refine (at_iload_n dc181_35 rfl).trans ?_
  refine (at_iload_n dc181_36 rfl).trans ?_
  exact at_inv dc181_37 mc181 lm6_237 rfl rfl (Nat.le_of_ble_eq_true rfl) (Or.inl ⟨(ly32 hL), by decide⟩)
theorem b181_40 {X : pm_X} {d : Nat} {x1 : Int32} {x2 : Int32} {x3 : Int32} {s0 : Int32} {g : pm_G} {iv : pm_V}  : pm_at X d 181 (40, [some (.ref 32), some (.int x1), some (.int x2), some (.int x3)], [.int s0], g, iv) = if s0 = 0 then pm_at X d 181 (47, [some (.ref 32), some (.int x1), some (.int x2), some (.int x3)], [], g, iv) else pm_at X d 181 (43, [some (.ref 32), some (.int x1), some (.int x2), some (.int x3)], [], g, iv) := by
  exact at_if_eq (t := 47) dc181_40 (by decide)
theorem b181_43 {X : pm_X} {d : Nat} {x1 : Int32} {x2 : Int32} {x3 : Int32} {g : pm_G} {iv : pm_V}  : pm_at X d 181 (43, [some (.ref 32), some (.int x1), some (.int x2), some (.int x3)], [], g, iv) = pm_at X d 181 (48, [some (.ref 32), some (.int x1), some (.int x2), some (.int x3)], [.int 1], g, iv) := by
  refine (at_iconst (v := 1) dc181_43 rfl).trans ?_
  refine (at_goto (t := 48) dc181_44 (by decide)).trans ?_
  rfl
theorem b181_47 {X : pm_X} {d : Nat} {x1 : Int32} {x2 : Int32} {x3 : Int32} {g : pm_G} {iv : pm_V}  : pm_at X d 181 (47, [some (.ref 32), some (.int x1), some (.int x2), some (.int x3)], [], g, iv) = pm_at X d 181 (48, [some (.ref 32), some (.int x1), some (.int x2), some (.int x3)], [.int 0], g, iv) := by
  refine (at_iconst (v := 0) dc181_47 rfl).trans ?_
  rfl
theorem b181_48 {X : pm_X} {d : Nat} {x1 : Int32} {x2 : Int32} {x3 : Int32} {s0 : Int32} {g : pm_G} {iv : pm_V}  : pm_at X d 181 (48, [some (.ref 32), some (.int x1), some (.int x2), some (.int x3)], [.int s0], g, iv) = some (some (.int s0), g, iv) := by
  exact at_iret dc181_48 mr181
-- Mod.meetsBy (IIIII)Z
theorem dc182_0 : decode (pm_mb 182) 0 = .ok (.aload_n 0, 1) := by decide +kernel
theorem dc182_1 : decode (pm_mb 182) 1 = .ok (.invokevirtual 213, 3) := by decide +kernel
theorem dc182_4 : decode (pm_mb 182) 4 = .ok (.iconst 0, 1) := by decide +kernel
theorem dc182_5 : decode (pm_mb 182) 5 = .ok (.istore 6, 2) := by decide +kernel
theorem dc182_7 : decode (pm_mb 182) 7 = .ok (.iload 6, 2) := by decide +kernel
theorem dc182_9 : decode (pm_mb 182) 9 = .ok (.iload 5, 2) := by decide +kernel
theorem dc182_11 : decode (pm_mb 182) 11 = .ok (.if_icmp .ge 67, 3) := by decide +kernel
theorem dc182_14 : decode (pm_mb 182) 14 = .ok (.aload_n 0, 1) := by decide +kernel
theorem dc182_15 : decode (pm_mb 182) 15 = .ok (.getfield 34, 3) := by decide +kernel
theorem dc182_18 : decode (pm_mb 182) 18 = .ok (.iload_n 1, 1) := by decide +kernel
theorem dc182_19 : decode (pm_mb 182) 19 = .ok (.iload 6, 2) := by decide +kernel
theorem dc182_21 : decode (pm_mb 182) 21 = .ok (.iload_n 2, 1) := by decide +kernel
theorem dc182_22 : decode (pm_mb 182) 22 = .ok (.if_icmp .ge 7, 3) := by decide +kernel
theorem dc182_25 : decode (pm_mb 182) 25 = .ok (.iconst 1, 1) := by decide +kernel
theorem dc182_26 : decode (pm_mb 182) 26 = .ok (.goto 9, 3) := by decide +kernel
theorem dc182_29 : decode (pm_mb 182) 29 = .ok (.aload_n 0, 1) := by decide +kernel
theorem dc182_30 : decode (pm_mb 182) 30 = .ok (.iload_n 1, 1) := by decide +kernel
theorem dc182_31 : decode (pm_mb 182) 31 = .ok (.iconst 4, 1) := by decide +kernel
theorem dc182_32 : decode (pm_mb 182) 32 = .ok (.invokevirtual 187, 3) := by decide +kernel
theorem dc182_35 : decode (pm_mb 182) 35 = .ok (.iastore, 1) := by decide +kernel
theorem dc182_36 : decode (pm_mb 182) 36 = .ok (.aload_n 0, 1) := by decide +kernel
theorem dc182_37 : decode (pm_mb 182) 37 = .ok (.getfield 34, 3) := by decide +kernel
theorem dc182_40 : decode (pm_mb 182) 40 = .ok (.iload_n 3, 1) := by decide +kernel
theorem dc182_41 : decode (pm_mb 182) 41 = .ok (.iload 6, 2) := by decide +kernel
theorem dc182_43 : decode (pm_mb 182) 43 = .ok (.iload 4, 2) := by decide +kernel
theorem dc182_45 : decode (pm_mb 182) 45 = .ok (.if_icmp .ge 7, 3) := by decide +kernel
theorem dc182_48 : decode (pm_mb 182) 48 = .ok (.iconst 1, 1) := by decide +kernel
theorem dc182_49 : decode (pm_mb 182) 49 = .ok (.goto 9, 3) := by decide +kernel
theorem dc182_52 : decode (pm_mb 182) 52 = .ok (.aload_n 0, 1) := by decide +kernel
theorem dc182_53 : decode (pm_mb 182) 53 = .ok (.iload_n 3, 1) := by decide +kernel
theorem dc182_54 : decode (pm_mb 182) 54 = .ok (.iconst 4, 1) := by decide +kernel
theorem dc182_55 : decode (pm_mb 182) 55 = .ok (.invokevirtual 187, 3) := by decide +kernel
theorem dc182_58 : decode (pm_mb 182) 58 = .ok (.iastore, 1) := by decide +kernel
theorem dc182_59 : decode (pm_mb 182) 59 = .ok (.aload_n 0, 1) := by decide +kernel
theorem dc182_60 : decode (pm_mb 182) 60 = .ok (.aload_n 0, 1) := by decide +kernel
theorem dc182_61 : decode (pm_mb 182) 61 = .ok (.getfield 19, 3) := by decide +kernel
theorem dc182_64 : decode (pm_mb 182) 64 = .ok (.iconst 4, 1) := by decide +kernel
theorem dc182_65 : decode (pm_mb 182) 65 = .ok (.iaload, 1) := by decide +kernel
theorem dc182_66 : decode (pm_mb 182) 66 = .ok (.iload 6, 2) := by decide +kernel
theorem dc182_68 : decode (pm_mb 182) 68 = .ok (.iadd, 1) := by decide +kernel
theorem dc182_69 : decode (pm_mb 182) 69 = .ok (.invokevirtual 216, 3) := by decide +kernel
theorem dc182_72 : decode (pm_mb 182) 72 = .ok (.iinc 6 1, 3) := by decide +kernel
theorem dc182_75 : decode (pm_mb 182) 75 = .ok (.goto (-68), 3) := by decide +kernel
theorem dc182_78 : decode (pm_mb 182) 78 = .ok (.aload_n 0, 1) := by decide +kernel
theorem dc182_79 : decode (pm_mb 182) 79 = .ok (.iload_n 1, 1) := by decide +kernel
theorem dc182_80 : decode (pm_mb 182) 80 = .ok (.iload_n 3, 1) := by decide +kernel
theorem dc182_81 : decode (pm_mb 182) 81 = .ok (.invokevirtual 237, 3) := by decide +kernel
theorem dc182_84 : decode (pm_mb 182) 84 = .ok (.ireturn, 1) := by decide +kernel
theorem b182_0 {X : pm_X} {d : Nat} {x1 : Int32} {x2 : Int32} {x3 : Int32} {x4 : Int32} {x5 : Int32} {g : pm_G} {iv : pm_V} (hL : pm_lay g) : pm_at X d 182 (0, [some (.ref 32), some (.int x1), some (.int x2), some (.int x3), some (.int x4), some (.int x5), none], [], g, iv) = pm_then X d 182 4 [some (.ref 32), some (.int x1), some (.int x2), some (.int x3), some (.int x4), some (.int x5), none] [] (pm_c X d 161 [.ref 32] g iv) := by
  refine (at_aload_n dc182_0 rfl).trans ?_
  exact at_inv dc182_1 mc182 lm6_213 rfl rfl (Nat.le_of_ble_eq_true rfl) (Or.inl ⟨(ly32 hL), by decide⟩)
theorem b182_4 {X : pm_X} {d : Nat} {x1 : Int32} {x2 : Int32} {x3 : Int32} {x4 : Int32} {x5 : Int32} {g : pm_G} {iv : pm_V}  : pm_at X d 182 (4, [some (.ref 32), some (.int x1), some (.int x2), some (.int x3), some (.int x4), some (.int x5), none], [], g, iv) = pm_at X d 182 (7, [some (.ref 32), some (.int x1), some (.int x2), some (.int x3), some (.int x4), some (.int x5), some (.int 0)], [], g, iv) := by
  refine (at_iconst (v := 0) dc182_4 rfl).trans ?_
  refine (at_istore dc182_5 rfl).trans ?_
  rfl
theorem b182_7 {X : pm_X} {d : Nat} {x1 : Int32} {x2 : Int32} {x3 : Int32} {x4 : Int32} {x5 : Int32} {x6 : Int32} {g : pm_G} {iv : pm_V}  : pm_at X d 182 (7, [some (.ref 32), some (.int x1), some (.int x2), some (.int x3), some (.int x4), some (.int x5), some (.int x6)], [], g, iv) = if x5 ≤ x6 then pm_at X d 182 (78, [some (.ref 32), some (.int x1), some (.int x2), some (.int x3), some (.int x4), some (.int x5), some (.int x6)], [], g, iv) else pm_at X d 182 (14, [some (.ref 32), some (.int x1), some (.int x2), some (.int x3), some (.int x4), some (.int x5), some (.int x6)], [], g, iv) := by
  refine (at_iload dc182_7 rfl).trans ?_
  refine (at_iload dc182_9 rfl).trans ?_
  exact at_icmp_ge (t := 78) dc182_11 (by decide)
theorem b182_14 {X : pm_X} {d : Nat} {x1 : Int32} {x2 : Int32} {x3 : Int32} {x4 : Int32} {x5 : Int32} {x6 : Int32} {g : pm_G} {iv : pm_V} (hL : pm_lay g) : pm_at X d 182 (14, [some (.ref 32), some (.int x1), some (.int x2), some (.int x3), some (.int x4), some (.int x5), some (.int x6)], [], g, iv) = if x2 ≤ x6 then pm_at X d 182 (29, [some (.ref 32), some (.int x1), some (.int x2), some (.int x3), some (.int x4), some (.int x5), some (.int x6)], [.int x1, .ref 41], g, iv) else pm_at X d 182 (25, [some (.ref 32), some (.int x1), some (.int x2), some (.int x3), some (.int x4), some (.int x5), some (.int x6)], [.int x1, .ref 41], g, iv) := by
  refine (at_aload_n dc182_14 rfl).trans ?_
  refine (at_gfR dc182_15 mc182 lf6_34 fo6_20 (ly32 hL) (lr32_20 hL)).trans ?_
  refine (at_iload_n dc182_18 rfl).trans ?_
  refine (at_iload dc182_19 rfl).trans ?_
  refine (at_iload_n dc182_21 rfl).trans ?_
  exact at_icmp_ge (t := 29) dc182_22 (by decide)
theorem b182_25 {X : pm_X} {d : Nat} {x1 : Int32} {x2 : Int32} {x3 : Int32} {x4 : Int32} {x5 : Int32} {x6 : Int32} {s0 : Int32} {g : pm_G} {iv : pm_V}  : pm_at X d 182 (25, [some (.ref 32), some (.int x1), some (.int x2), some (.int x3), some (.int x4), some (.int x5), some (.int x6)], [.int s0, .ref 41], g, iv) = pm_at X d 182 (35, [some (.ref 32), some (.int x1), some (.int x2), some (.int x3), some (.int x4), some (.int x5), some (.int x6)], [.int 1, .int s0, .ref 41], g, iv) := by
  refine (at_iconst (v := 1) dc182_25 rfl).trans ?_
  refine (at_goto (t := 35) dc182_26 (by decide)).trans ?_
  rfl
theorem b182_29 {X : pm_X} {d : Nat} {x1 : Int32} {x2 : Int32} {x3 : Int32} {x4 : Int32} {x5 : Int32} {x6 : Int32} {s0 : Int32} {g : pm_G} {iv : pm_V} (hL : pm_lay g) : pm_at X d 182 (29, [some (.ref 32), some (.int x1), some (.int x2), some (.int x3), some (.int x4), some (.int x5), some (.int x6)], [.int s0, .ref 41], g, iv) = pm_then X d 182 35 [some (.ref 32), some (.int x1), some (.int x2), some (.int x3), some (.int x4), some (.int x5), some (.int x6)] [.int s0, .ref 41] (pm_c X d 159 [.ref 32, .int x1, .int 4] g iv) := by
  refine (at_aload_n dc182_29 rfl).trans ?_
  refine (at_iload_n dc182_30 rfl).trans ?_
  refine (at_iconst (v := 4) dc182_31 rfl).trans ?_
  exact at_inv dc182_32 mc182 lm6_187 rfl rfl (Nat.le_of_ble_eq_true rfl) (Or.inl ⟨(ly32 hL), by decide⟩)
theorem b182_35 {X : pm_X} {d : Nat} {x1 : Int32} {x2 : Int32} {x3 : Int32} {x4 : Int32} {x5 : Int32} {x6 : Int32} {s0 : Int32} {s1 : Int32} {g : pm_G} {iv : pm_V} (hL : pm_lay g) (i1 : vp_in s1 6) : pm_at X d 182 (35, [some (.ref 32), some (.int x1), some (.int x2), some (.int x3), some (.int x4), some (.int x5), some (.int x6)], [.int s0, .int s1, .ref 41], g, iv) = if x4 ≤ x6 then pm_at X d 182 (52, [some (.ref 32), some (.int x1), some (.int x2), some (.int x3), some (.int x4), some (.int x5), some (.int x6)], [.int x3, .ref 41], g, (pm_iw iv 41 (s1 : Int32).toNatClampNeg s0)) else pm_at X d 182 (48, [some (.ref 32), some (.int x1), some (.int x2), some (.int x3), some (.int x4), some (.int x5), some (.int x6)], [.int x3, .ref 41], g, (pm_iw iv 41 (s1 : Int32).toNatClampNeg s0)) := by
  refine (at_iast dc182_35 (ly41 hL) i1).trans ?_
  refine (at_aload_n dc182_36 rfl).trans ?_
  refine (at_gfR dc182_37 mc182 lf6_34 fo6_20 (ly32 hL) (lr32_20 hL)).trans ?_
  refine (at_iload_n dc182_40 rfl).trans ?_
  refine (at_iload dc182_41 rfl).trans ?_
  refine (at_iload dc182_43 rfl).trans ?_
  exact at_icmp_ge (t := 52) dc182_45 (by decide)
theorem b182_48 {X : pm_X} {d : Nat} {x1 : Int32} {x2 : Int32} {x3 : Int32} {x4 : Int32} {x5 : Int32} {x6 : Int32} {s0 : Int32} {g : pm_G} {iv : pm_V}  : pm_at X d 182 (48, [some (.ref 32), some (.int x1), some (.int x2), some (.int x3), some (.int x4), some (.int x5), some (.int x6)], [.int s0, .ref 41], g, iv) = pm_at X d 182 (58, [some (.ref 32), some (.int x1), some (.int x2), some (.int x3), some (.int x4), some (.int x5), some (.int x6)], [.int 1, .int s0, .ref 41], g, iv) := by
  refine (at_iconst (v := 1) dc182_48 rfl).trans ?_
  refine (at_goto (t := 58) dc182_49 (by decide)).trans ?_
  rfl
theorem b182_52 {X : pm_X} {d : Nat} {x1 : Int32} {x2 : Int32} {x3 : Int32} {x4 : Int32} {x5 : Int32} {x6 : Int32} {s0 : Int32} {g : pm_G} {iv : pm_V} (hL : pm_lay g) : pm_at X d 182 (52, [some (.ref 32), some (.int x1), some (.int x2), some (.int x3), some (.int x4), some (.int x5), some (.int x6)], [.int s0, .ref 41], g, iv) = pm_then X d 182 58 [some (.ref 32), some (.int x1), some (.int x2), some (.int x3), some (.int x4), some (.int x5), some (.int x6)] [.int s0, .ref 41] (pm_c X d 159 [.ref 32, .int x3, .int 4] g iv) := by
  refine (at_aload_n dc182_52 rfl).trans ?_
  refine (at_iload_n dc182_53 rfl).trans ?_
  refine (at_iconst (v := 4) dc182_54 rfl).trans ?_
  exact at_inv dc182_55 mc182 lm6_187 rfl rfl (Nat.le_of_ble_eq_true rfl) (Or.inl ⟨(ly32 hL), by decide⟩)
theorem b182_58 {X : pm_X} {d : Nat} {x1 : Int32} {x2 : Int32} {x3 : Int32} {x4 : Int32} {x5 : Int32} {x6 : Int32} {s0 : Int32} {s1 : Int32} {g : pm_G} {iv : pm_V} (hL : pm_lay g) (i1 : vp_in s1 6) : pm_at X d 182 (58, [some (.ref 32), some (.int x1), some (.int x2), some (.int x3), some (.int x4), some (.int x5), some (.int x6)], [.int s0, .int s1, .ref 41], g, iv) = pm_then X d 182 72 [some (.ref 32), some (.int x1), some (.int x2), some (.int x3), some (.int x4), some (.int x5), some (.int x6)] [] (pm_c X d 166 [.ref 32, .int (((pm_iw iv 41 (s1 : Int32).toNatClampNeg s0) 36 4) + x6)] g (pm_iw iv 41 (s1 : Int32).toNatClampNeg s0)) := by
  refine (at_iast dc182_58 (ly41 hL) i1).trans ?_
  refine (at_aload_n dc182_59 rfl).trans ?_
  refine (at_aload_n dc182_60 rfl).trans ?_
  refine (at_gfR dc182_61 mc182 lf6_19 fo6_5 (ly32 hL) (lr32_5 hL)).trans ?_
  refine (at_iconst (v := 4) dc182_64 rfl).trans ?_
  refine (at_iald dc182_65 (ly36 hL) (vp_in_nI (n := 4) (by decide) (by decide))).trans ?_
  refine (at_iload dc182_66 rfl).trans ?_
  refine (at_iadd dc182_68).trans ?_
  exact at_inv dc182_69 mc182 lm6_216 rfl rfl (Nat.le_of_ble_eq_true rfl) (Or.inl ⟨(ly32 hL), by decide⟩)
theorem b182_72 {X : pm_X} {d : Nat} {x1 : Int32} {x2 : Int32} {x3 : Int32} {x4 : Int32} {x5 : Int32} {x6 : Int32} {g : pm_G} {iv : pm_V}  : pm_at X d 182 (72, [some (.ref 32), some (.int x1), some (.int x2), some (.int x3), some (.int x4), some (.int x5), some (.int x6)], [], g, iv) = pm_at X d 182 (7, [some (.ref 32), some (.int x1), some (.int x2), some (.int x3), some (.int x4), some (.int x5), some (.int (x6 + 1))], [], g, iv) := by
  refine (at_iinc (v := 1) dc182_72 rfl (by decide) rfl).trans ?_
  refine (at_goto (t := 7) dc182_75 (by decide)).trans ?_
  rfl
theorem b182_78 {X : pm_X} {d : Nat} {x1 : Int32} {x2 : Int32} {x3 : Int32} {x4 : Int32} {x5 : Int32} {x6 : Int32} {g : pm_G} {iv : pm_V} (hL : pm_lay g) : pm_at X d 182 (78, [some (.ref 32), some (.int x1), some (.int x2), some (.int x3), some (.int x4), some (.int x5), some (.int x6)], [], g, iv) = pm_then X d 182 84 [some (.ref 32), some (.int x1), some (.int x2), some (.int x3), some (.int x4), some (.int x5), some (.int x6)] [] (pm_c X d 180 [.ref 32, .int x1, .int x3] g iv) := by
  refine (at_aload_n dc182_78 rfl).trans ?_
  refine (at_iload_n dc182_79 rfl).trans ?_
  refine (at_iload_n dc182_80 rfl).trans ?_
  exact at_inv dc182_81 mc182 lm6_237 rfl rfl (Nat.le_of_ble_eq_true rfl) (Or.inl ⟨(ly32 hL), by decide⟩)
theorem b182_84 {X : pm_X} {d : Nat} {x1 : Int32} {x2 : Int32} {x3 : Int32} {x4 : Int32} {x5 : Int32} {x6 : Int32} {s0 : Int32} {g : pm_G} {iv : pm_V}  : pm_at X d 182 (84, [some (.ref 32), some (.int x1), some (.int x2), some (.int x3), some (.int x4), some (.int x5), some (.int x6)], [.int s0], g, iv) = pm_zr s0 (some (some (.int s0), g, iv)) := by
  exact at_zretG dc182_84 mr182
-- Mod.meet (IIII)I
theorem dc183_0 : decode (pm_mb 183) 0 = .ok (.aload_n 0, 1) := by decide +kernel
theorem dc183_1 : decode (pm_mb 183) 1 = .ok (.iconst 0, 1) := by decide +kernel
theorem dc183_2 : decode (pm_mb 183) 2 = .ok (.putfield 50, 3) := by decide +kernel
theorem dc183_5 : decode (pm_mb 183) 5 = .ok (.aload_n 0, 1) := by decide +kernel
theorem dc183_6 : decode (pm_mb 183) 6 = .ok (.iload_n 1, 1) := by decide +kernel
theorem dc183_7 : decode (pm_mb 183) 7 = .ok (.iload_n 2, 1) := by decide +kernel
theorem dc183_8 : decode (pm_mb 183) 8 = .ok (.invokevirtual 234, 3) := by decide +kernel
theorem dc183_11 : decode (pm_mb 183) 11 = .ok (.ifCond .eq 26, 3) := by decide +kernel
theorem dc183_14 : decode (pm_mb 183) 14 = .ok (.iload_n 3, 1) := by decide +kernel
theorem dc183_15 : decode (pm_mb 183) 15 = .ok (.i2l, 1) := by decide +kernel
theorem dc183_16 : decode (pm_mb 183) 16 = .ok (.lconst 0, 1) := by decide +kernel
theorem dc183_17 : decode (pm_mb 183) 17 = .ok (.ldc2_w 240, 3) := by decide +kernel
theorem dc183_20 : decode (pm_mb 183) 20 = .ok (.invokestatic 60, 3) := by decide +kernel
theorem dc183_23 : decode (pm_mb 183) 23 = .ok (.ifCond .eq 14, 3) := by decide +kernel
theorem dc183_26 : decode (pm_mb 183) 26 = .ok (.iload 4, 2) := by decide +kernel
theorem dc183_28 : decode (pm_mb 183) 28 = .ok (.i2l, 1) := by decide +kernel
theorem dc183_29 : decode (pm_mb 183) 29 = .ok (.lconst 0, 1) := by decide +kernel
theorem dc183_30 : decode (pm_mb 183) 30 = .ok (.lconst 1, 1) := by decide +kernel
theorem dc183_31 : decode (pm_mb 183) 31 = .ok (.invokestatic 60, 3) := by decide +kernel
theorem dc183_34 : decode (pm_mb 183) 34 = .ok (.ifCond .ne 6, 3) := by decide +kernel
theorem dc183_37 : decode (pm_mb 183) 37 = .ok (.ldc 70, 2) := by decide +kernel
theorem dc183_39 : decode (pm_mb 183) 39 = .ok (.ireturn, 1) := by decide +kernel
theorem dc183_40 : decode (pm_mb 183) 40 = .ok (.iconst 0, 1) := by decide +kernel
theorem dc183_41 : decode (pm_mb 183) 41 = .ok (.istore 5, 2) := by decide +kernel
theorem dc183_43 : decode (pm_mb 183) 43 = .ok (.iload 5, 2) := by decide +kernel
theorem dc183_45 : decode (pm_mb 183) 45 = .ok (.iconst 2, 1) := by decide +kernel
theorem dc183_46 : decode (pm_mb 183) 46 = .ok (.iload_n 3, 1) := by decide +kernel
theorem dc183_47 : decode (pm_mb 183) 47 = .ok (.imul, 1) := by decide +kernel
theorem dc183_48 : decode (pm_mb 183) 48 = .ok (.if_icmp .gt 74, 3) := by decide +kernel
theorem dc183_51 : decode (pm_mb 183) 51 = .ok (.iload 5, 2) := by decide +kernel
theorem dc183_53 : decode (pm_mb 183) 53 = .ok (.iload_n 3, 1) := by decide +kernel
theorem dc183_54 : decode (pm_mb 183) 54 = .ok (.if_icmp .le 10, 3) := by decide +kernel
theorem dc183_57 : decode (pm_mb 183) 57 = .ok (.iload 5, 2) := by decide +kernel
theorem dc183_59 : decode (pm_mb 183) 59 = .ok (.iload_n 3, 1) := by decide +kernel
theorem dc183_60 : decode (pm_mb 183) 60 = .ok (.isub, 1) := by decide +kernel
theorem dc183_61 : decode (pm_mb 183) 61 = .ok (.goto 4, 3) := by decide +kernel
theorem dc183_64 : decode (pm_mb 183) 64 = .ok (.iconst 0, 1) := by decide +kernel
theorem dc183_65 : decode (pm_mb 183) 65 = .ok (.istore 6, 2) := by decide +kernel
theorem dc183_67 : decode (pm_mb 183) 67 = .ok (.iload 6, 2) := by decide +kernel
theorem dc183_69 : decode (pm_mb 183) 69 = .ok (.iload_n 3, 1) := by decide +kernel
theorem dc183_70 : decode (pm_mb 183) 70 = .ok (.if_icmp .gt 46, 3) := by decide +kernel
theorem dc183_73 : decode (pm_mb 183) 73 = .ok (.iload 6, 2) := by decide +kernel
theorem dc183_75 : decode (pm_mb 183) 75 = .ok (.iload 5, 2) := by decide +kernel
theorem dc183_77 : decode (pm_mb 183) 77 = .ok (.if_icmp .gt 39, 3) := by decide +kernel
theorem dc183_80 : decode (pm_mb 183) 80 = .ok (.aload_n 0, 1) := by decide +kernel
theorem dc183_81 : decode (pm_mb 183) 81 = .ok (.iload_n 1, 1) := by decide +kernel
theorem dc183_82 : decode (pm_mb 183) 82 = .ok (.iload 6, 2) := by decide +kernel
theorem dc183_84 : decode (pm_mb 183) 84 = .ok (.iload_n 2, 1) := by decide +kernel
theorem dc183_85 : decode (pm_mb 183) 85 = .ok (.iload 5, 2) := by decide +kernel
theorem dc183_87 : decode (pm_mb 183) 87 = .ok (.iload 6, 2) := by decide +kernel
theorem dc183_89 : decode (pm_mb 183) 89 = .ok (.isub, 1) := by decide +kernel
theorem dc183_90 : decode (pm_mb 183) 90 = .ok (.iload_n 3, 1) := by decide +kernel
theorem dc183_91 : decode (pm_mb 183) 91 = .ok (.invokevirtual 242, 3) := by decide +kernel
theorem dc183_94 : decode (pm_mb 183) 94 = .ok (.ifCond .eq 16, 3) := by decide +kernel
theorem dc183_97 : decode (pm_mb 183) 97 = .ok (.iload 4, 2) := by decide +kernel
theorem dc183_99 : decode (pm_mb 183) 99 = .ok (.ifCond .ne 8, 3) := by decide +kernel
theorem dc183_102 : decode (pm_mb 183) 102 = .ok (.iload 5, 2) := by decide +kernel
theorem dc183_104 : decode (pm_mb 183) 104 = .ok (.goto 5, 3) := by decide +kernel
theorem dc183_107 : decode (pm_mb 183) 107 = .ok (.iload 6, 2) := by decide +kernel
theorem dc183_109 : decode (pm_mb 183) 109 = .ok (.ireturn, 1) := by decide +kernel
theorem dc183_110 : decode (pm_mb 183) 110 = .ok (.iinc 6 1, 3) := by decide +kernel
theorem dc183_113 : decode (pm_mb 183) 113 = .ok (.goto (-46), 3) := by decide +kernel
theorem dc183_116 : decode (pm_mb 183) 116 = .ok (.iinc 5 1, 3) := by decide +kernel
theorem dc183_119 : decode (pm_mb 183) 119 = .ok (.goto (-76), 3) := by decide +kernel
theorem dc183_122 : decode (pm_mb 183) 122 = .ok (.ldc 86, 2) := by decide +kernel
theorem dc183_124 : decode (pm_mb 183) 124 = .ok (.ireturn, 1) := by decide +kernel
theorem b183_0 {X : pm_X} {d : Nat} {x1 : Int32} {x2 : Int32} {x3 : Int32} {x4 : Int32} {g : pm_G} {iv : pm_V} (hL : pm_lay g) : pm_at X d 183 (0, [some (.ref 32), some (.int x1), some (.int x2), some (.int x3), some (.int x4), none, none], [], g, iv) = pm_then X d 183 11 [some (.ref 32), some (.int x1), some (.int x2), some (.int x3), some (.int x4), none, none] [] (pm_c X d 158 [.ref 32, .int x1, .int x2] g (pm_iw iv 32 0 0)) := by
  refine (at_aload_n dc183_0 rfl).trans ?_
  refine (at_iconst (v := 0) dc183_1 rfl).trans ?_
  refine (at_pfI dc183_2 mc183 lf6_50 po6_0 (ly32 hL)).trans ?_
  refine (at_aload_n dc183_5 rfl).trans ?_
  refine (at_iload_n dc183_6 rfl).trans ?_
  refine (at_iload_n dc183_7 rfl).trans ?_
  exact at_inv dc183_8 mc183 lm6_234 rfl rfl (Nat.le_of_ble_eq_true rfl) (Or.inl ⟨(ly32 hL), by decide⟩)
theorem b183_11 {X : pm_X} {d : Nat} {x1 : Int32} {x2 : Int32} {x3 : Int32} {x4 : Int32} {s0 : Int32} {g : pm_G} {iv : pm_V}  : pm_at X d 183 (11, [some (.ref 32), some (.int x1), some (.int x2), some (.int x3), some (.int x4), none, none], [.int s0], g, iv) = if s0 = 0 then pm_at X d 183 (37, [some (.ref 32), some (.int x1), some (.int x2), some (.int x3), some (.int x4), none, none], [], g, iv) else pm_at X d 183 (14, [some (.ref 32), some (.int x1), some (.int x2), some (.int x3), some (.int x4), none, none], [], g, iv) := by
  exact at_if_eq (t := 37) dc183_11 (by decide)
theorem b183_14 {X : pm_X} {d : Nat} {x1 : Int32} {x2 : Int32} {x3 : Int32} {x4 : Int32} {g : pm_G} {iv : pm_V}  : pm_at X d 183 (14, [some (.ref 32), some (.int x1), some (.int x2), some (.int x3), some (.int x4), none, none], [], g, iv) = pm_then X d 183 23 [some (.ref 32), some (.int x1), some (.int x2), some (.int x3), some (.int x4), none, none] [] (pm_c X d 130 [.long (x3 : Int32).toInt64, .long 0, .long 20] g iv) := by
  refine (at_iload_n dc183_14 rfl).trans ?_
  refine (at_i2l dc183_15).trans ?_
  refine (at_lconst (v := 0) dc183_16 (by decide)).trans ?_
  refine (at_ldc2 dc183_17 mc183 ll6_240).trans ?_
  exact at_ins dc183_20 mc183 lm6_60 (Nat.le_of_ble_eq_true rfl) rfl rfl (Nat.le_of_ble_eq_true rfl)
theorem b183_23 {X : pm_X} {d : Nat} {x1 : Int32} {x2 : Int32} {x3 : Int32} {x4 : Int32} {s0 : Int32} {g : pm_G} {iv : pm_V}  : pm_at X d 183 (23, [some (.ref 32), some (.int x1), some (.int x2), some (.int x3), some (.int x4), none, none], [.int s0], g, iv) = if s0 = 0 then pm_at X d 183 (37, [some (.ref 32), some (.int x1), some (.int x2), some (.int x3), some (.int x4), none, none], [], g, iv) else pm_at X d 183 (26, [some (.ref 32), some (.int x1), some (.int x2), some (.int x3), some (.int x4), none, none], [], g, iv) := by
  exact at_if_eq (t := 37) dc183_23 (by decide)
theorem b183_26 {X : pm_X} {d : Nat} {x1 : Int32} {x2 : Int32} {x3 : Int32} {x4 : Int32} {g : pm_G} {iv : pm_V}  : pm_at X d 183 (26, [some (.ref 32), some (.int x1), some (.int x2), some (.int x3), some (.int x4), none, none], [], g, iv) = pm_then X d 183 34 [some (.ref 32), some (.int x1), some (.int x2), some (.int x3), some (.int x4), none, none] [] (pm_c X d 130 [.long (x4 : Int32).toInt64, .long 0, .long 1] g iv) := by
  refine (at_iload dc183_26 rfl).trans ?_
  refine (at_i2l dc183_28).trans ?_
  refine (at_lconst (v := 0) dc183_29 (by decide)).trans ?_
  refine (at_lconst (v := 1) dc183_30 (by decide)).trans ?_
  exact at_ins dc183_31 mc183 lm6_60 (Nat.le_of_ble_eq_true rfl) rfl rfl (Nat.le_of_ble_eq_true rfl)
theorem b183_34 {X : pm_X} {d : Nat} {x1 : Int32} {x2 : Int32} {x3 : Int32} {x4 : Int32} {s0 : Int32} {g : pm_G} {iv : pm_V}  : pm_at X d 183 (34, [some (.ref 32), some (.int x1), some (.int x2), some (.int x3), some (.int x4), none, none], [.int s0], g, iv) = if ¬ s0 = 0 then pm_at X d 183 (40, [some (.ref 32), some (.int x1), some (.int x2), some (.int x3), some (.int x4), none, none], [], g, iv) else pm_at X d 183 (37, [some (.ref 32), some (.int x1), some (.int x2), some (.int x3), some (.int x4), none, none], [], g, iv) := by
  exact at_if_ne (t := 40) dc183_34 (by decide)
theorem b183_37 {X : pm_X} {d : Nat} {x1 : Int32} {x2 : Int32} {x3 : Int32} {x4 : Int32} {g : pm_G} {iv : pm_V}  : pm_at X d 183 (37, [some (.ref 32), some (.int x1), some (.int x2), some (.int x3), some (.int x4), none, none], [], g, iv) = some (some (.int (-1000001)), g, iv) := by
  refine (at_ldc dc183_37 mc183 lk6_70).trans ?_
  exact at_iret dc183_39 mr183
theorem b183_40 {X : pm_X} {d : Nat} {x1 : Int32} {x2 : Int32} {x3 : Int32} {x4 : Int32} {g : pm_G} {iv : pm_V}  : pm_at X d 183 (40, [some (.ref 32), some (.int x1), some (.int x2), some (.int x3), some (.int x4), none, none], [], g, iv) = pm_at X d 183 (43, [some (.ref 32), some (.int x1), some (.int x2), some (.int x3), some (.int x4), some (.int 0), none], [], g, iv) := by
  refine (at_iconst (v := 0) dc183_40 rfl).trans ?_
  refine (at_istore dc183_41 rfl).trans ?_
  rfl
theorem b183_43 {X : pm_X} {d : Nat} {x1 : Int32} {x2 : Int32} {x3 : Int32} {x4 : Int32} {x5 : Int32} {z6 : Option Value} {g : pm_G} {iv : pm_V}  : pm_at X d 183 (43, [some (.ref 32), some (.int x1), some (.int x2), some (.int x3), some (.int x4), some (.int x5), z6], [], g, iv) = if (2 * x3) < x5 then pm_at X d 183 (122, [some (.ref 32), some (.int x1), some (.int x2), some (.int x3), some (.int x4), some (.int x5), z6], [], g, iv) else pm_at X d 183 (51, [some (.ref 32), some (.int x1), some (.int x2), some (.int x3), some (.int x4), some (.int x5), z6], [], g, iv) := by
  refine (at_iload dc183_43 rfl).trans ?_
  refine (at_iconst (v := 2) dc183_45 rfl).trans ?_
  refine (at_iload_n dc183_46 rfl).trans ?_
  refine (at_imul dc183_47).trans ?_
  exact at_icmp_gt (t := 122) dc183_48 (by decide)
theorem b183_51 {X : pm_X} {d : Nat} {x1 : Int32} {x2 : Int32} {x3 : Int32} {x4 : Int32} {x5 : Int32} {z6 : Option Value} {g : pm_G} {iv : pm_V}  : pm_at X d 183 (51, [some (.ref 32), some (.int x1), some (.int x2), some (.int x3), some (.int x4), some (.int x5), z6], [], g, iv) = if x5 ≤ x3 then pm_at X d 183 (64, [some (.ref 32), some (.int x1), some (.int x2), some (.int x3), some (.int x4), some (.int x5), z6], [], g, iv) else pm_at X d 183 (57, [some (.ref 32), some (.int x1), some (.int x2), some (.int x3), some (.int x4), some (.int x5), z6], [], g, iv) := by
  refine (at_iload dc183_51 rfl).trans ?_
  refine (at_iload_n dc183_53 rfl).trans ?_
  exact at_icmp_le (t := 64) dc183_54 (by decide)
theorem b183_57 {X : pm_X} {d : Nat} {x1 : Int32} {x2 : Int32} {x3 : Int32} {x4 : Int32} {x5 : Int32} {z6 : Option Value} {g : pm_G} {iv : pm_V}  : pm_at X d 183 (57, [some (.ref 32), some (.int x1), some (.int x2), some (.int x3), some (.int x4), some (.int x5), z6], [], g, iv) = pm_at X d 183 (65, [some (.ref 32), some (.int x1), some (.int x2), some (.int x3), some (.int x4), some (.int x5), z6], [.int (x5 - x3)], g, iv) := by
  refine (at_iload dc183_57 rfl).trans ?_
  refine (at_iload_n dc183_59 rfl).trans ?_
  refine (at_isub dc183_60).trans ?_
  refine (at_goto (t := 65) dc183_61 (by decide)).trans ?_
  rfl
theorem b183_64 {X : pm_X} {d : Nat} {x1 : Int32} {x2 : Int32} {x3 : Int32} {x4 : Int32} {x5 : Int32} {z6 : Option Value} {g : pm_G} {iv : pm_V}  : pm_at X d 183 (64, [some (.ref 32), some (.int x1), some (.int x2), some (.int x3), some (.int x4), some (.int x5), z6], [], g, iv) = pm_at X d 183 (65, [some (.ref 32), some (.int x1), some (.int x2), some (.int x3), some (.int x4), some (.int x5), z6], [.int 0], g, iv) := by
  refine (at_iconst (v := 0) dc183_64 rfl).trans ?_
  rfl
theorem b183_65 {X : pm_X} {d : Nat} {x1 : Int32} {x2 : Int32} {x3 : Int32} {x4 : Int32} {x5 : Int32} {z6 : Option Value} {s0 : Int32} {g : pm_G} {iv : pm_V}  : pm_at X d 183 (65, [some (.ref 32), some (.int x1), some (.int x2), some (.int x3), some (.int x4), some (.int x5), z6], [.int s0], g, iv) = pm_at X d 183 (67, [some (.ref 32), some (.int x1), some (.int x2), some (.int x3), some (.int x4), some (.int x5), some (.int s0)], [], g, iv) := by
  refine (at_istore dc183_65 rfl).trans ?_
  rfl
theorem b183_67 {X : pm_X} {d : Nat} {x1 : Int32} {x2 : Int32} {x3 : Int32} {x4 : Int32} {x5 : Int32} {x6 : Int32} {g : pm_G} {iv : pm_V}  : pm_at X d 183 (67, [some (.ref 32), some (.int x1), some (.int x2), some (.int x3), some (.int x4), some (.int x5), some (.int x6)], [], g, iv) = if x3 < x6 then pm_at X d 183 (116, [some (.ref 32), some (.int x1), some (.int x2), some (.int x3), some (.int x4), some (.int x5), some (.int x6)], [], g, iv) else pm_at X d 183 (73, [some (.ref 32), some (.int x1), some (.int x2), some (.int x3), some (.int x4), some (.int x5), some (.int x6)], [], g, iv) := by
  refine (at_iload dc183_67 rfl).trans ?_
  refine (at_iload_n dc183_69 rfl).trans ?_
  exact at_icmp_gt (t := 116) dc183_70 (by decide)
theorem b183_73 {X : pm_X} {d : Nat} {x1 : Int32} {x2 : Int32} {x3 : Int32} {x4 : Int32} {x5 : Int32} {x6 : Int32} {g : pm_G} {iv : pm_V}  : pm_at X d 183 (73, [some (.ref 32), some (.int x1), some (.int x2), some (.int x3), some (.int x4), some (.int x5), some (.int x6)], [], g, iv) = if x5 < x6 then pm_at X d 183 (116, [some (.ref 32), some (.int x1), some (.int x2), some (.int x3), some (.int x4), some (.int x5), some (.int x6)], [], g, iv) else pm_at X d 183 (80, [some (.ref 32), some (.int x1), some (.int x2), some (.int x3), some (.int x4), some (.int x5), some (.int x6)], [], g, iv) := by
  refine (at_iload dc183_73 rfl).trans ?_
  refine (at_iload dc183_75 rfl).trans ?_
  exact at_icmp_gt (t := 116) dc183_77 (by decide)
theorem b183_80 {X : pm_X} {d : Nat} {x1 : Int32} {x2 : Int32} {x3 : Int32} {x4 : Int32} {x5 : Int32} {x6 : Int32} {g : pm_G} {iv : pm_V} (hL : pm_lay g) : pm_at X d 183 (80, [some (.ref 32), some (.int x1), some (.int x2), some (.int x3), some (.int x4), some (.int x5), some (.int x6)], [], g, iv) = pm_then X d 183 94 [some (.ref 32), some (.int x1), some (.int x2), some (.int x3), some (.int x4), some (.int x5), some (.int x6)] [] (pm_c X d 182 [.ref 32, .int x1, .int x6, .int x2, .int (x5 - x6), .int x3] g iv) := by
  refine (at_aload_n dc183_80 rfl).trans ?_
  refine (at_iload_n dc183_81 rfl).trans ?_
  refine (at_iload dc183_82 rfl).trans ?_
  refine (at_iload_n dc183_84 rfl).trans ?_
  refine (at_iload dc183_85 rfl).trans ?_
  refine (at_iload dc183_87 rfl).trans ?_
  refine (at_isub dc183_89).trans ?_
  refine (at_iload_n dc183_90 rfl).trans ?_
  exact at_inv dc183_91 mc183 lm6_242 rfl rfl (Nat.le_of_ble_eq_true rfl) (Or.inl ⟨(ly32 hL), by decide⟩)
theorem b183_94 {X : pm_X} {d : Nat} {x1 : Int32} {x2 : Int32} {x3 : Int32} {x4 : Int32} {x5 : Int32} {x6 : Int32} {s0 : Int32} {g : pm_G} {iv : pm_V}  : pm_at X d 183 (94, [some (.ref 32), some (.int x1), some (.int x2), some (.int x3), some (.int x4), some (.int x5), some (.int x6)], [.int s0], g, iv) = if s0 = 0 then pm_at X d 183 (110, [some (.ref 32), some (.int x1), some (.int x2), some (.int x3), some (.int x4), some (.int x5), some (.int x6)], [], g, iv) else pm_at X d 183 (97, [some (.ref 32), some (.int x1), some (.int x2), some (.int x3), some (.int x4), some (.int x5), some (.int x6)], [], g, iv) := by
  exact at_if_eq (t := 110) dc183_94 (by decide)
theorem b183_97 {X : pm_X} {d : Nat} {x1 : Int32} {x2 : Int32} {x3 : Int32} {x4 : Int32} {x5 : Int32} {x6 : Int32} {g : pm_G} {iv : pm_V}  : pm_at X d 183 (97, [some (.ref 32), some (.int x1), some (.int x2), some (.int x3), some (.int x4), some (.int x5), some (.int x6)], [], g, iv) = if ¬ x4 = 0 then pm_at X d 183 (107, [some (.ref 32), some (.int x1), some (.int x2), some (.int x3), some (.int x4), some (.int x5), some (.int x6)], [], g, iv) else pm_at X d 183 (102, [some (.ref 32), some (.int x1), some (.int x2), some (.int x3), some (.int x4), some (.int x5), some (.int x6)], [], g, iv) := by
  refine (at_iload dc183_97 rfl).trans ?_
  exact at_if_ne (t := 107) dc183_99 (by decide)
theorem b183_102 {X : pm_X} {d : Nat} {x1 : Int32} {x2 : Int32} {x3 : Int32} {x4 : Int32} {x5 : Int32} {x6 : Int32} {g : pm_G} {iv : pm_V}  : pm_at X d 183 (102, [some (.ref 32), some (.int x1), some (.int x2), some (.int x3), some (.int x4), some (.int x5), some (.int x6)], [], g, iv) = pm_at X d 183 (109, [some (.ref 32), some (.int x1), some (.int x2), some (.int x3), some (.int x4), some (.int x5), some (.int x6)], [.int x5], g, iv) := by
  refine (at_iload dc183_102 rfl).trans ?_
  refine (at_goto (t := 109) dc183_104 (by decide)).trans ?_
  rfl
theorem b183_107 {X : pm_X} {d : Nat} {x1 : Int32} {x2 : Int32} {x3 : Int32} {x4 : Int32} {x5 : Int32} {x6 : Int32} {g : pm_G} {iv : pm_V}  : pm_at X d 183 (107, [some (.ref 32), some (.int x1), some (.int x2), some (.int x3), some (.int x4), some (.int x5), some (.int x6)], [], g, iv) = pm_at X d 183 (109, [some (.ref 32), some (.int x1), some (.int x2), some (.int x3), some (.int x4), some (.int x5), some (.int x6)], [.int x6], g, iv) := by
  refine (at_iload dc183_107 rfl).trans ?_
  rfl
theorem b183_109 {X : pm_X} {d : Nat} {x1 : Int32} {x2 : Int32} {x3 : Int32} {x4 : Int32} {x5 : Int32} {x6 : Int32} {s0 : Int32} {g : pm_G} {iv : pm_V}  : pm_at X d 183 (109, [some (.ref 32), some (.int x1), some (.int x2), some (.int x3), some (.int x4), some (.int x5), some (.int x6)], [.int s0], g, iv) = some (some (.int s0), g, iv) := by
  exact at_iret dc183_109 mr183
theorem b183_110 {X : pm_X} {d : Nat} {x1 : Int32} {x2 : Int32} {x3 : Int32} {x4 : Int32} {x5 : Int32} {x6 : Int32} {g : pm_G} {iv : pm_V}  : pm_at X d 183 (110, [some (.ref 32), some (.int x1), some (.int x2), some (.int x3), some (.int x4), some (.int x5), some (.int x6)], [], g, iv) = pm_at X d 183 (67, [some (.ref 32), some (.int x1), some (.int x2), some (.int x3), some (.int x4), some (.int x5), some (.int (x6 + 1))], [], g, iv) := by
  refine (at_iinc (v := 1) dc183_110 rfl (by decide) rfl).trans ?_
  refine (at_goto (t := 67) dc183_113 (by decide)).trans ?_
  rfl
theorem b183_116 {X : pm_X} {d : Nat} {x1 : Int32} {x2 : Int32} {x3 : Int32} {x4 : Int32} {x5 : Int32} {x6 : Int32} {g : pm_G} {iv : pm_V}  : pm_at X d 183 (116, [some (.ref 32), some (.int x1), some (.int x2), some (.int x3), some (.int x4), some (.int x5), some (.int x6)], [], g, iv) = pm_at X d 183 (43, [some (.ref 32), some (.int x1), some (.int x2), some (.int x3), some (.int x4), some (.int (x5 + 1)), some (.int x6)], [], g, iv) := by
  refine (at_iinc (v := 1) dc183_116 rfl (by decide) rfl).trans ?_
  refine (at_goto (t := 43) dc183_119 (by decide)).trans ?_
  rfl
theorem b183_122 {X : pm_X} {d : Nat} {x1 : Int32} {x2 : Int32} {x3 : Int32} {x4 : Int32} {x5 : Int32} {z6 : Option Value} {g : pm_G} {iv : pm_V}  : pm_at X d 183 (122, [some (.ref 32), some (.int x1), some (.int x2), some (.int x3), some (.int x4), some (.int x5), z6], [], g, iv) = some (some (.int (-1000000)), g, iv) := by
  refine (at_ldc dc183_122 mc183 lk6_86).trans ?_
  exact at_iret dc183_124 mr183
-- Mod.street (I)I
theorem dc184_0 : decode (pm_mb 184) 0 = .ok (.aload_n 0, 1) := by decide +kernel
theorem dc184_1 : decode (pm_mb 184) 1 = .ok (.iconst 0, 1) := by decide +kernel
theorem dc184_2 : decode (pm_mb 184) 2 = .ok (.putfield 50, 3) := by decide +kernel
theorem dc184_5 : decode (pm_mb 184) 5 = .ok (.aload_n 0, 1) := by decide +kernel
theorem dc184_6 : decode (pm_mb 184) 6 = .ok (.iload_n 1, 1) := by decide +kernel
theorem dc184_7 : decode (pm_mb 184) 7 = .ok (.invokevirtual 184, 3) := by decide +kernel
theorem dc184_10 : decode (pm_mb 184) 10 = .ok (.ifCond .ne 6, 3) := by decide +kernel
theorem dc184_13 : decode (pm_mb 184) 13 = .ok (.ldc 70, 2) := by decide +kernel
theorem dc184_15 : decode (pm_mb 184) 15 = .ok (.ireturn, 1) := by decide +kernel
theorem dc184_16 : decode (pm_mb 184) 16 = .ok (.aload_n 0, 1) := by decide +kernel
theorem dc184_17 : decode (pm_mb 184) 17 = .ok (.invokevirtual 213, 3) := by decide +kernel
theorem dc184_20 : decode (pm_mb 184) 20 = .ok (.aload_n 0, 1) := by decide +kernel
theorem dc184_21 : decode (pm_mb 184) 21 = .ok (.iload_n 1, 1) := by decide +kernel
theorem dc184_22 : decode (pm_mb 184) 22 = .ok (.iconst 1, 1) := by decide +kernel
theorem dc184_23 : decode (pm_mb 184) 23 = .ok (.invokevirtual 187, 3) := by decide +kernel
theorem dc184_26 : decode (pm_mb 184) 26 = .ok (.istore_n 2, 1) := by decide +kernel
theorem dc184_27 : decode (pm_mb 184) 27 = .ok (.aload_n 0, 1) := by decide +kernel
theorem dc184_28 : decode (pm_mb 184) 28 = .ok (.iload_n 1, 1) := by decide +kernel
theorem dc184_29 : decode (pm_mb 184) 29 = .ok (.iconst 2, 1) := by decide +kernel
theorem dc184_30 : decode (pm_mb 184) 30 = .ok (.invokevirtual 187, 3) := by decide +kernel
theorem dc184_33 : decode (pm_mb 184) 33 = .ok (.istore_n 3, 1) := by decide +kernel
theorem dc184_34 : decode (pm_mb 184) 34 = .ok (.iconst 0, 1) := by decide +kernel
theorem dc184_35 : decode (pm_mb 184) 35 = .ok (.istore 4, 2) := by decide +kernel
theorem dc184_37 : decode (pm_mb 184) 37 = .ok (.iload_n 3, 1) := by decide +kernel
theorem dc184_38 : decode (pm_mb 184) 38 = .ok (.aload_n 0, 1) := by decide +kernel
theorem dc184_39 : decode (pm_mb 184) 39 = .ok (.getfield 19, 3) := by decide +kernel
theorem dc184_42 : decode (pm_mb 184) 42 = .ok (.iconst 1, 1) := by decide +kernel
theorem dc184_43 : decode (pm_mb 184) 43 = .ok (.iaload, 1) := by decide +kernel
theorem dc184_44 : decode (pm_mb 184) 44 = .ok (.if_icmp .ge 33, 3) := by decide +kernel
theorem dc184_47 : decode (pm_mb 184) 47 = .ok (.aload_n 0, 1) := by decide +kernel
theorem dc184_48 : decode (pm_mb 184) 48 = .ok (.iload_n 2, 1) := by decide +kernel
theorem dc184_49 : decode (pm_mb 184) 49 = .ok (.iload_n 3, 1) := by decide +kernel
theorem dc184_50 : decode (pm_mb 184) 50 = .ok (.invokevirtual 193, 3) := by decide +kernel
theorem dc184_53 : decode (pm_mb 184) 53 = .ok (.ldc 86, 2) := by decide +kernel
theorem dc184_55 : decode (pm_mb 184) 55 = .ok (.if_icmp .eq 22, 3) := by decide +kernel
theorem dc184_58 : decode (pm_mb 184) 58 = .ok (.iload 4, 2) := by decide +kernel
theorem dc184_60 : decode (pm_mb 184) 60 = .ok (.iconst 1, 1) := by decide +kernel
theorem dc184_61 : decode (pm_mb 184) 61 = .ok (.aload_n 0, 1) := by decide +kernel
theorem dc184_62 : decode (pm_mb 184) 62 = .ok (.iload_n 2, 1) := by decide +kernel
theorem dc184_63 : decode (pm_mb 184) 63 = .ok (.iload_n 3, 1) := by decide +kernel
theorem dc184_64 : decode (pm_mb 184) 64 = .ok (.invokevirtual 193, 3) := by decide +kernel
theorem dc184_67 : decode (pm_mb 184) 67 = .ok (.ishl, 1) := by decide +kernel
theorem dc184_68 : decode (pm_mb 184) 68 = .ok (.ior, 1) := by decide +kernel
theorem dc184_69 : decode (pm_mb 184) 69 = .ok (.istore 4, 2) := by decide +kernel
theorem dc184_71 : decode (pm_mb 184) 71 = .ok (.iinc 3 1, 3) := by decide +kernel
theorem dc184_74 : decode (pm_mb 184) 74 = .ok (.goto (-37), 3) := by decide +kernel
theorem dc184_77 : decode (pm_mb 184) 77 = .ok (.iload_n 3, 1) := by decide +kernel
theorem dc184_78 : decode (pm_mb 184) 78 = .ok (.aload_n 0, 1) := by decide +kernel
theorem dc184_79 : decode (pm_mb 184) 79 = .ok (.getfield 19, 3) := by decide +kernel
theorem dc184_82 : decode (pm_mb 184) 82 = .ok (.iconst 1, 1) := by decide +kernel
theorem dc184_83 : decode (pm_mb 184) 83 = .ok (.iaload, 1) := by decide +kernel
theorem dc184_84 : decode (pm_mb 184) 84 = .ok (.if_icmp .eq 12, 3) := by decide +kernel
theorem dc184_87 : decode (pm_mb 184) 87 = .ok (.aload_n 0, 1) := by decide +kernel
theorem dc184_88 : decode (pm_mb 184) 88 = .ok (.iload_n 2, 1) := by decide +kernel
theorem dc184_89 : decode (pm_mb 184) 89 = .ok (.iload_n 3, 1) := by decide +kernel
theorem dc184_90 : decode (pm_mb 184) 90 = .ok (.invokevirtual 190, 3) := by decide +kernel
theorem dc184_93 : decode (pm_mb 184) 93 = .ok (.ifCond .eq 8, 3) := by decide +kernel
theorem dc184_96 : decode (pm_mb 184) 96 = .ok (.iload 4, 2) := by decide +kernel
theorem dc184_98 : decode (pm_mb 184) 98 = .ok (.goto 4, 3) := by decide +kernel
theorem dc184_101 : decode (pm_mb 184) 101 = .ok (.iconst 0, 1) := by decide +kernel
theorem dc184_102 : decode (pm_mb 184) 102 = .ok (.ireturn, 1) := by decide +kernel
theorem b184_0 {X : pm_X} {d : Nat} {x1 : Int32} {g : pm_G} {iv : pm_V} (hL : pm_lay g) : pm_at X d 184 (0, [some (.ref 32), some (.int x1), none, none, none], [], g, iv) = pm_then X d 184 10 [some (.ref 32), some (.int x1), none, none, none] [] (pm_c X d 157 [.ref 32, .int x1] g (pm_iw iv 32 0 0)) := by
  refine (at_aload_n dc184_0 rfl).trans ?_
  refine (at_iconst (v := 0) dc184_1 rfl).trans ?_
  refine (at_pfI dc184_2 mc184 lf6_50 po6_0 (ly32 hL)).trans ?_
  refine (at_aload_n dc184_5 rfl).trans ?_
  refine (at_iload_n dc184_6 rfl).trans ?_
  exact at_inv dc184_7 mc184 lm6_184 rfl rfl (Nat.le_of_ble_eq_true rfl) (Or.inl ⟨(ly32 hL), by decide⟩)
theorem b184_10 {X : pm_X} {d : Nat} {x1 : Int32} {s0 : Int32} {g : pm_G} {iv : pm_V}  : pm_at X d 184 (10, [some (.ref 32), some (.int x1), none, none, none], [.int s0], g, iv) = if ¬ s0 = 0 then pm_at X d 184 (16, [some (.ref 32), some (.int x1), none, none, none], [], g, iv) else pm_at X d 184 (13, [some (.ref 32), some (.int x1), none, none, none], [], g, iv) := by
  exact at_if_ne (t := 16) dc184_10 (by decide)
theorem b184_13 {X : pm_X} {d : Nat} {x1 : Int32} {g : pm_G} {iv : pm_V}  : pm_at X d 184 (13, [some (.ref 32), some (.int x1), none, none, none], [], g, iv) = some (some (.int (-1000001)), g, iv) := by
  refine (at_ldc dc184_13 mc184 lk6_70).trans ?_
  exact at_iret dc184_15 mr184
theorem b184_16 {X : pm_X} {d : Nat} {x1 : Int32} {g : pm_G} {iv : pm_V} (hL : pm_lay g) : pm_at X d 184 (16, [some (.ref 32), some (.int x1), none, none, none], [], g, iv) = pm_then X d 184 20 [some (.ref 32), some (.int x1), none, none, none] [] (pm_c X d 161 [.ref 32] g iv) := by
  refine (at_aload_n dc184_16 rfl).trans ?_
  exact at_inv dc184_17 mc184 lm6_213 rfl rfl (Nat.le_of_ble_eq_true rfl) (Or.inl ⟨(ly32 hL), by decide⟩)
theorem b184_20 {X : pm_X} {d : Nat} {x1 : Int32} {g : pm_G} {iv : pm_V} (hL : pm_lay g) : pm_at X d 184 (20, [some (.ref 32), some (.int x1), none, none, none], [], g, iv) = pm_then X d 184 26 [some (.ref 32), some (.int x1), none, none, none] [] (pm_c X d 159 [.ref 32, .int x1, .int 1] g iv) := by
  refine (at_aload_n dc184_20 rfl).trans ?_
  refine (at_iload_n dc184_21 rfl).trans ?_
  refine (at_iconst (v := 1) dc184_22 rfl).trans ?_
  exact at_inv dc184_23 mc184 lm6_187 rfl rfl (Nat.le_of_ble_eq_true rfl) (Or.inl ⟨(ly32 hL), by decide⟩)
theorem b184_26 {X : pm_X} {d : Nat} {x1 : Int32} {s0 : Int32} {g : pm_G} {iv : pm_V} (hL : pm_lay g) : pm_at X d 184 (26, [some (.ref 32), some (.int x1), none, none, none], [.int s0], g, iv) = pm_then X d 184 33 [some (.ref 32), some (.int x1), some (.int s0), none, none] [] (pm_c X d 159 [.ref 32, .int x1, .int 2] g iv) := by
  refine (at_istore_n dc184_26 rfl).trans ?_
  refine (at_aload_n dc184_27 rfl).trans ?_
  refine (at_iload_n dc184_28 rfl).trans ?_
  refine (at_iconst (v := 2) dc184_29 rfl).trans ?_
  exact at_inv dc184_30 mc184 lm6_187 rfl rfl (Nat.le_of_ble_eq_true rfl) (Or.inl ⟨(ly32 hL), by decide⟩)
theorem b184_33 {X : pm_X} {d : Nat} {x1 : Int32} {x2 : Int32} {s0 : Int32} {g : pm_G} {iv : pm_V}  : pm_at X d 184 (33, [some (.ref 32), some (.int x1), some (.int x2), none, none], [.int s0], g, iv) = pm_at X d 184 (37, [some (.ref 32), some (.int x1), some (.int x2), some (.int s0), some (.int 0)], [], g, iv) := by
  refine (at_istore_n dc184_33 rfl).trans ?_
  refine (at_iconst (v := 0) dc184_34 rfl).trans ?_
  refine (at_istore dc184_35 rfl).trans ?_
  rfl
theorem b184_37 {X : pm_X} {d : Nat} {x1 : Int32} {x2 : Int32} {x3 : Int32} {x4 : Int32} {g : pm_G} {iv : pm_V} (hL : pm_lay g) : pm_at X d 184 (37, [some (.ref 32), some (.int x1), some (.int x2), some (.int x3), some (.int x4)], [], g, iv) = if (iv 36 1) ≤ x3 then pm_at X d 184 (77, [some (.ref 32), some (.int x1), some (.int x2), some (.int x3), some (.int x4)], [], g, iv) else pm_at X d 184 (47, [some (.ref 32), some (.int x1), some (.int x2), some (.int x3), some (.int x4)], [], g, iv) := by
  refine (at_iload_n dc184_37 rfl).trans ?_
  refine (at_aload_n dc184_38 rfl).trans ?_
  refine (at_gfR dc184_39 mc184 lf6_19 fo6_5 (ly32 hL) (lr32_5 hL)).trans ?_
  refine (at_iconst (v := 1) dc184_42 rfl).trans ?_
  refine (at_iald dc184_43 (ly36 hL) (vp_in_nI (n := 1) (by decide) (by decide))).trans ?_
  exact at_icmp_ge (t := 77) dc184_44 (by decide)
theorem b184_47 {X : pm_X} {d : Nat} {x1 : Int32} {x2 : Int32} {x3 : Int32} {x4 : Int32} {g : pm_G} {iv : pm_V} (hL : pm_lay g) : pm_at X d 184 (47, [some (.ref 32), some (.int x1), some (.int x2), some (.int x3), some (.int x4)], [], g, iv) = pm_then X d 184 53 [some (.ref 32), some (.int x1), some (.int x2), some (.int x3), some (.int x4)] [] (pm_c X d 162 [.ref 32, .int x2, .int x3] g iv) := by
  refine (at_aload_n dc184_47 rfl).trans ?_
  refine (at_iload_n dc184_48 rfl).trans ?_
  refine (at_iload_n dc184_49 rfl).trans ?_
  exact at_inv dc184_50 mc184 lm6_193 rfl rfl (Nat.le_of_ble_eq_true rfl) (Or.inl ⟨(ly32 hL), by decide⟩)
theorem b184_53 {X : pm_X} {d : Nat} {x1 : Int32} {x2 : Int32} {x3 : Int32} {x4 : Int32} {s0 : Int32} {g : pm_G} {iv : pm_V}  : pm_at X d 184 (53, [some (.ref 32), some (.int x1), some (.int x2), some (.int x3), some (.int x4)], [.int s0], g, iv) = if s0 = (-1000000) then pm_at X d 184 (77, [some (.ref 32), some (.int x1), some (.int x2), some (.int x3), some (.int x4)], [], g, iv) else pm_at X d 184 (58, [some (.ref 32), some (.int x1), some (.int x2), some (.int x3), some (.int x4)], [], g, iv) := by
  refine (at_ldc dc184_53 mc184 lk6_86).trans ?_
  exact at_icmp_eq (t := 77) dc184_55 (by decide)
theorem b184_58 {X : pm_X} {d : Nat} {x1 : Int32} {x2 : Int32} {x3 : Int32} {x4 : Int32} {g : pm_G} {iv : pm_V} (hL : pm_lay g) : pm_at X d 184 (58, [some (.ref 32), some (.int x1), some (.int x2), some (.int x3), some (.int x4)], [], g, iv) = pm_then X d 184 67 [some (.ref 32), some (.int x1), some (.int x2), some (.int x3), some (.int x4)] [.int 1, .int x4] (pm_c X d 162 [.ref 32, .int x2, .int x3] g iv) := by
  refine (at_iload dc184_58 rfl).trans ?_
  refine (at_iconst (v := 1) dc184_60 rfl).trans ?_
  refine (at_aload_n dc184_61 rfl).trans ?_
  refine (at_iload_n dc184_62 rfl).trans ?_
  refine (at_iload_n dc184_63 rfl).trans ?_
  exact at_inv dc184_64 mc184 lm6_193 rfl rfl (Nat.le_of_ble_eq_true rfl) (Or.inl ⟨(ly32 hL), by decide⟩)
theorem b184_67 {X : pm_X} {d : Nat} {x1 : Int32} {x2 : Int32} {x3 : Int32} {x4 : Int32} {s0 : Int32} {s1 : Int32} {s2 : Int32} {g : pm_G} {iv : pm_V}  : pm_at X d 184 (67, [some (.ref 32), some (.int x1), some (.int x2), some (.int x3), some (.int x4)], [.int s0, .int s1, .int s2], g, iv) = pm_at X d 184 (37, [some (.ref 32), some (.int x1), some (.int x2), some (.int (x3 + 1)), some (.int (s2 ||| (s1 <<< (s0 &&& 31))))], [], g, iv) := by
  refine (at_ishl dc184_67).trans ?_
  refine (at_ior dc184_68).trans ?_
  refine (at_istore dc184_69 rfl).trans ?_
  refine (at_iinc (v := 1) dc184_71 rfl (by decide) rfl).trans ?_
  refine (at_goto (t := 37) dc184_74 (by decide)).trans ?_
  rfl
theorem b184_77 {X : pm_X} {d : Nat} {x1 : Int32} {x2 : Int32} {x3 : Int32} {x4 : Int32} {g : pm_G} {iv : pm_V} (hL : pm_lay g) : pm_at X d 184 (77, [some (.ref 32), some (.int x1), some (.int x2), some (.int x3), some (.int x4)], [], g, iv) = if x3 = (iv 36 1) then pm_at X d 184 (96, [some (.ref 32), some (.int x1), some (.int x2), some (.int x3), some (.int x4)], [], g, iv) else pm_at X d 184 (87, [some (.ref 32), some (.int x1), some (.int x2), some (.int x3), some (.int x4)], [], g, iv) := by
  refine (at_iload_n dc184_77 rfl).trans ?_
  refine (at_aload_n dc184_78 rfl).trans ?_
  refine (at_gfR dc184_79 mc184 lf6_19 fo6_5 (ly32 hL) (lr32_5 hL)).trans ?_
  refine (at_iconst (v := 1) dc184_82 rfl).trans ?_
  refine (at_iald dc184_83 (ly36 hL) (vp_in_nI (n := 1) (by decide) (by decide))).trans ?_
  exact at_icmp_eq (t := 96) dc184_84 (by decide)
theorem b184_87 {X : pm_X} {d : Nat} {x1 : Int32} {x2 : Int32} {x3 : Int32} {x4 : Int32} {g : pm_G} {iv : pm_V} (hL : pm_lay g) : pm_at X d 184 (87, [some (.ref 32), some (.int x1), some (.int x2), some (.int x3), some (.int x4)], [], g, iv) = pm_then X d 184 93 [some (.ref 32), some (.int x1), some (.int x2), some (.int x3), some (.int x4)] [] (pm_c X d 160 [.ref 32, .int x2, .int x3] g iv) := by
  refine (at_aload_n dc184_87 rfl).trans ?_
  refine (at_iload_n dc184_88 rfl).trans ?_
  refine (at_iload_n dc184_89 rfl).trans ?_
  exact at_inv dc184_90 mc184 lm6_190 rfl rfl (Nat.le_of_ble_eq_true rfl) (Or.inl ⟨(ly32 hL), by decide⟩)
theorem b184_93 {X : pm_X} {d : Nat} {x1 : Int32} {x2 : Int32} {x3 : Int32} {x4 : Int32} {s0 : Int32} {g : pm_G} {iv : pm_V}  : pm_at X d 184 (93, [some (.ref 32), some (.int x1), some (.int x2), some (.int x3), some (.int x4)], [.int s0], g, iv) = if s0 = 0 then pm_at X d 184 (101, [some (.ref 32), some (.int x1), some (.int x2), some (.int x3), some (.int x4)], [], g, iv) else pm_at X d 184 (96, [some (.ref 32), some (.int x1), some (.int x2), some (.int x3), some (.int x4)], [], g, iv) := by
  exact at_if_eq (t := 101) dc184_93 (by decide)
theorem b184_96 {X : pm_X} {d : Nat} {x1 : Int32} {x2 : Int32} {x3 : Int32} {x4 : Int32} {g : pm_G} {iv : pm_V}  : pm_at X d 184 (96, [some (.ref 32), some (.int x1), some (.int x2), some (.int x3), some (.int x4)], [], g, iv) = pm_at X d 184 (102, [some (.ref 32), some (.int x1), some (.int x2), some (.int x3), some (.int x4)], [.int x4], g, iv) := by
  refine (at_iload dc184_96 rfl).trans ?_
  refine (at_goto (t := 102) dc184_98 (by decide)).trans ?_
  rfl
theorem b184_101 {X : pm_X} {d : Nat} {x1 : Int32} {x2 : Int32} {x3 : Int32} {x4 : Int32} {g : pm_G} {iv : pm_V}  : pm_at X d 184 (101, [some (.ref 32), some (.int x1), some (.int x2), some (.int x3), some (.int x4)], [], g, iv) = pm_at X d 184 (102, [some (.ref 32), some (.int x1), some (.int x2), some (.int x3), some (.int x4)], [.int 0], g, iv) := by
  refine (at_iconst (v := 0) dc184_101 rfl).trans ?_
  rfl
theorem b184_102 {X : pm_X} {d : Nat} {x1 : Int32} {x2 : Int32} {x3 : Int32} {x4 : Int32} {s0 : Int32} {g : pm_G} {iv : pm_V}  : pm_at X d 184 (102, [some (.ref 32), some (.int x1), some (.int x2), some (.int x3), some (.int x4)], [.int s0], g, iv) = some (some (.int s0), g, iv) := by
  exact at_iret dc184_102 mr184
-- Mod.aloneTo (IIII)I
theorem dc185_0 : decode (pm_mb 185) 0 = .ok (.iload_n 2, 1) := by decide +kernel
theorem dc185_1 : decode (pm_mb 185) 1 = .ok (.istore 5, 2) := by decide +kernel
theorem dc185_3 : decode (pm_mb 185) 3 = .ok (.aload_n 0, 1) := by decide +kernel
theorem dc185_4 : decode (pm_mb 185) 4 = .ok (.iload_n 1, 1) := by decide +kernel
theorem dc185_5 : decode (pm_mb 185) 5 = .ok (.iconst 0, 1) := by decide +kernel
theorem dc185_6 : decode (pm_mb 185) 6 = .ok (.invokevirtual 187, 3) := by decide +kernel
theorem dc185_9 : decode (pm_mb 185) 9 = .ok (.istore 6, 2) := by decide +kernel
theorem dc185_11 : decode (pm_mb 185) 11 = .ok (.iconst 0, 1) := by decide +kernel
theorem dc185_12 : decode (pm_mb 185) 12 = .ok (.istore 7, 2) := by decide +kernel
theorem dc185_14 : decode (pm_mb 185) 14 = .ok (.iload 7, 2) := by decide +kernel
theorem dc185_16 : decode (pm_mb 185) 16 = .ok (.iload 4, 2) := by decide +kernel
theorem dc185_18 : decode (pm_mb 185) 18 = .ok (.if_icmp .ge 91, 3) := by decide +kernel
theorem dc185_21 : decode (pm_mb 185) 21 = .ok (.iload 6, 2) := by decide +kernel
theorem dc185_23 : decode (pm_mb 185) 23 = .ok (.iconst 3, 1) := by decide +kernel
theorem dc185_24 : decode (pm_mb 185) 24 = .ok (.if_icmp .ne 7, 3) := by decide +kernel
theorem dc185_27 : decode (pm_mb 185) 27 = .ok (.iconst 2, 1) := by decide +kernel
theorem dc185_28 : decode (pm_mb 185) 28 = .ok (.goto 24, 3) := by decide +kernel
theorem dc185_31 : decode (pm_mb 185) 31 = .ok (.iload 6, 2) := by decide +kernel
theorem dc185_33 : decode (pm_mb 185) 33 = .ok (.iconst 1, 1) := by decide +kernel
theorem dc185_34 : decode (pm_mb 185) 34 = .ok (.if_icmp .ne 17, 3) := by decide +kernel
theorem dc185_37 : decode (pm_mb 185) 37 = .ok (.iload_n 3, 1) := by decide +kernel
theorem dc185_38 : decode (pm_mb 185) 38 = .ok (.iload 7, 2) := by decide +kernel
theorem dc185_40 : decode (pm_mb 185) 40 = .ok (.iadd, 1) := by decide +kernel
theorem dc185_41 : decode (pm_mb 185) 41 = .ok (.iconst 2, 1) := by decide +kernel
theorem dc185_42 : decode (pm_mb 185) 42 = .ok (.irem, 1) := by decide +kernel
theorem dc185_43 : decode (pm_mb 185) 43 = .ok (.iconst 1, 1) := by decide +kernel
theorem dc185_44 : decode (pm_mb 185) 44 = .ok (.if_icmp .ne 7, 3) := by decide +kernel
theorem dc185_47 : decode (pm_mb 185) 47 = .ok (.iconst 0, 1) := by decide +kernel
theorem dc185_48 : decode (pm_mb 185) 48 = .ok (.goto 4, 3) := by decide +kernel
theorem dc185_51 : decode (pm_mb 185) 51 = .ok (.iconst 1, 1) := by decide +kernel
theorem dc185_52 : decode (pm_mb 185) 52 = .ok (.istore 8, 2) := by decide +kernel
theorem dc185_54 : decode (pm_mb 185) 54 = .ok (.iconst 0, 1) := by decide +kernel
theorem dc185_55 : decode (pm_mb 185) 55 = .ok (.istore 9, 2) := by decide +kernel
theorem dc185_57 : decode (pm_mb 185) 57 = .ok (.iload 9, 2) := by decide +kernel
theorem dc185_59 : decode (pm_mb 185) 59 = .ok (.iload 8, 2) := by decide +kernel
theorem dc185_61 : decode (pm_mb 185) 61 = .ok (.if_icmp .ge 42, 3) := by decide +kernel
theorem dc185_64 : decode (pm_mb 185) 64 = .ok (.iload 5, 2) := by decide +kernel
theorem dc185_66 : decode (pm_mb 185) 66 = .ok (.iconst 1, 1) := by decide +kernel
theorem dc185_67 : decode (pm_mb 185) 67 = .ok (.iadd, 1) := by decide +kernel
theorem dc185_68 : decode (pm_mb 185) 68 = .ok (.aload_n 0, 1) := by decide +kernel
theorem dc185_69 : decode (pm_mb 185) 69 = .ok (.getfield 19, 3) := by decide +kernel
theorem dc185_72 : decode (pm_mb 185) 72 = .ok (.iconst 1, 1) := by decide +kernel
theorem dc185_73 : decode (pm_mb 185) 73 = .ok (.iaload, 1) := by decide +kernel
theorem dc185_74 : decode (pm_mb 185) 74 = .ok (.if_icmp .ge 29, 3) := by decide +kernel
theorem dc185_77 : decode (pm_mb 185) 77 = .ok (.aload_n 0, 1) := by decide +kernel
theorem dc185_78 : decode (pm_mb 185) 78 = .ok (.aload_n 0, 1) := by decide +kernel
theorem dc185_79 : decode (pm_mb 185) 79 = .ok (.iload_n 1, 1) := by decide +kernel
theorem dc185_80 : decode (pm_mb 185) 80 = .ok (.iconst 1, 1) := by decide +kernel
theorem dc185_81 : decode (pm_mb 185) 81 = .ok (.invokevirtual 187, 3) := by decide +kernel
theorem dc185_84 : decode (pm_mb 185) 84 = .ok (.iload 5, 2) := by decide +kernel
theorem dc185_86 : decode (pm_mb 185) 86 = .ok (.iconst 1, 1) := by decide +kernel
theorem dc185_87 : decode (pm_mb 185) 87 = .ok (.iadd, 1) := by decide +kernel
theorem dc185_88 : decode (pm_mb 185) 88 = .ok (.invokevirtual 190, 3) := by decide +kernel
theorem dc185_91 : decode (pm_mb 185) 91 = .ok (.ifCond .ne 12, 3) := by decide +kernel
theorem dc185_94 : decode (pm_mb 185) 94 = .ok (.iinc 5 1, 3) := by decide +kernel
theorem dc185_97 : decode (pm_mb 185) 97 = .ok (.iinc 9 1, 3) := by decide +kernel
theorem dc185_100 : decode (pm_mb 185) 100 = .ok (.goto (-43), 3) := by decide +kernel
theorem dc185_103 : decode (pm_mb 185) 103 = .ok (.iinc 7 1, 3) := by decide +kernel
theorem dc185_106 : decode (pm_mb 185) 106 = .ok (.goto (-92), 3) := by decide +kernel
theorem dc185_109 : decode (pm_mb 185) 109 = .ok (.iload 5, 2) := by decide +kernel
theorem dc185_111 : decode (pm_mb 185) 111 = .ok (.ireturn, 1) := by decide +kernel
theorem b185_0 {X : pm_X} {d : Nat} {x1 : Int32} {x2 : Int32} {x3 : Int32} {x4 : Int32} {g : pm_G} {iv : pm_V} (hL : pm_lay g) : pm_at X d 185 (0, [some (.ref 32), some (.int x1), some (.int x2), some (.int x3), some (.int x4), none, none, none, none, none], [], g, iv) = pm_then X d 185 9 [some (.ref 32), some (.int x1), some (.int x2), some (.int x3), some (.int x4), some (.int x2), none, none, none, none] [] (pm_c X d 159 [.ref 32, .int x1, .int 0] g iv) := by
  refine (at_iload_n dc185_0 rfl).trans ?_
  refine (at_istore dc185_1 rfl).trans ?_
  refine (at_aload_n dc185_3 rfl).trans ?_
  refine (at_iload_n dc185_4 rfl).trans ?_
  refine (at_iconst (v := 0) dc185_5 rfl).trans ?_
  exact at_inv dc185_6 mc185 lm6_187 rfl rfl (Nat.le_of_ble_eq_true rfl) (Or.inl ⟨(ly32 hL), by decide⟩)
theorem b185_9 {X : pm_X} {d : Nat} {x1 : Int32} {x2 : Int32} {x3 : Int32} {x4 : Int32} {x5 : Int32} {s0 : Int32} {g : pm_G} {iv : pm_V}  : pm_at X d 185 (9, [some (.ref 32), some (.int x1), some (.int x2), some (.int x3), some (.int x4), some (.int x5), none, none, none, none], [.int s0], g, iv) = pm_at X d 185 (14, [some (.ref 32), some (.int x1), some (.int x2), some (.int x3), some (.int x4), some (.int x5), some (.int s0), some (.int 0), none, none], [], g, iv) := by
  refine (at_istore dc185_9 rfl).trans ?_
  refine (at_iconst (v := 0) dc185_11 rfl).trans ?_
  refine (at_istore dc185_12 rfl).trans ?_
  rfl
theorem b185_14 {X : pm_X} {d : Nat} {x1 : Int32} {x2 : Int32} {x3 : Int32} {x4 : Int32} {x5 : Int32} {x6 : Int32} {x7 : Int32} {z8 : Option Value} {z9 : Option Value} {g : pm_G} {iv : pm_V}  : pm_at X d 185 (14, [some (.ref 32), some (.int x1), some (.int x2), some (.int x3), some (.int x4), some (.int x5), some (.int x6), some (.int x7), z8, z9], [], g, iv) = if x4 ≤ x7 then pm_at X d 185 (109, [some (.ref 32), some (.int x1), some (.int x2), some (.int x3), some (.int x4), some (.int x5), some (.int x6), some (.int x7), z8, z9], [], g, iv) else pm_at X d 185 (21, [some (.ref 32), some (.int x1), some (.int x2), some (.int x3), some (.int x4), some (.int x5), some (.int x6), some (.int x7), z8, z9], [], g, iv) := by
  refine (at_iload dc185_14 rfl).trans ?_
  refine (at_iload dc185_16 rfl).trans ?_
  exact at_icmp_ge (t := 109) dc185_18 (by decide)
theorem b185_21 {X : pm_X} {d : Nat} {x1 : Int32} {x2 : Int32} {x3 : Int32} {x4 : Int32} {x5 : Int32} {x6 : Int32} {x7 : Int32} {z8 : Option Value} {z9 : Option Value} {g : pm_G} {iv : pm_V}  : pm_at X d 185 (21, [some (.ref 32), some (.int x1), some (.int x2), some (.int x3), some (.int x4), some (.int x5), some (.int x6), some (.int x7), z8, z9], [], g, iv) = if ¬ x6 = 3 then pm_at X d 185 (31, [some (.ref 32), some (.int x1), some (.int x2), some (.int x3), some (.int x4), some (.int x5), some (.int x6), some (.int x7), z8, z9], [], g, iv) else pm_at X d 185 (27, [some (.ref 32), some (.int x1), some (.int x2), some (.int x3), some (.int x4), some (.int x5), some (.int x6), some (.int x7), z8, z9], [], g, iv) := by
  refine (at_iload dc185_21 rfl).trans ?_
  refine (at_iconst (v := 3) dc185_23 rfl).trans ?_
  exact at_icmp_ne (t := 31) dc185_24 (by decide)
theorem b185_27 {X : pm_X} {d : Nat} {x1 : Int32} {x2 : Int32} {x3 : Int32} {x4 : Int32} {x5 : Int32} {x6 : Int32} {x7 : Int32} {z8 : Option Value} {z9 : Option Value} {g : pm_G} {iv : pm_V}  : pm_at X d 185 (27, [some (.ref 32), some (.int x1), some (.int x2), some (.int x3), some (.int x4), some (.int x5), some (.int x6), some (.int x7), z8, z9], [], g, iv) = pm_at X d 185 (52, [some (.ref 32), some (.int x1), some (.int x2), some (.int x3), some (.int x4), some (.int x5), some (.int x6), some (.int x7), z8, z9], [.int 2], g, iv) := by
  refine (at_iconst (v := 2) dc185_27 rfl).trans ?_
  refine (at_goto (t := 52) dc185_28 (by decide)).trans ?_
  rfl
theorem b185_31 {X : pm_X} {d : Nat} {x1 : Int32} {x2 : Int32} {x3 : Int32} {x4 : Int32} {x5 : Int32} {x6 : Int32} {x7 : Int32} {z8 : Option Value} {z9 : Option Value} {g : pm_G} {iv : pm_V}  : pm_at X d 185 (31, [some (.ref 32), some (.int x1), some (.int x2), some (.int x3), some (.int x4), some (.int x5), some (.int x6), some (.int x7), z8, z9], [], g, iv) = if ¬ x6 = 1 then pm_at X d 185 (51, [some (.ref 32), some (.int x1), some (.int x2), some (.int x3), some (.int x4), some (.int x5), some (.int x6), some (.int x7), z8, z9], [], g, iv) else pm_at X d 185 (37, [some (.ref 32), some (.int x1), some (.int x2), some (.int x3), some (.int x4), some (.int x5), some (.int x6), some (.int x7), z8, z9], [], g, iv) := by
  refine (at_iload dc185_31 rfl).trans ?_
  refine (at_iconst (v := 1) dc185_33 rfl).trans ?_
  exact at_icmp_ne (t := 51) dc185_34 (by decide)
theorem b185_37 {X : pm_X} {d : Nat} {x1 : Int32} {x2 : Int32} {x3 : Int32} {x4 : Int32} {x5 : Int32} {x6 : Int32} {x7 : Int32} {z8 : Option Value} {z9 : Option Value} {g : pm_G} {iv : pm_V}  : pm_at X d 185 (37, [some (.ref 32), some (.int x1), some (.int x2), some (.int x3), some (.int x4), some (.int x5), some (.int x6), some (.int x7), z8, z9], [], g, iv) = if ¬ ((x3 + x7) - (x3 + x7) / 2 * 2) = 1 then pm_at X d 185 (51, [some (.ref 32), some (.int x1), some (.int x2), some (.int x3), some (.int x4), some (.int x5), some (.int x6), some (.int x7), z8, z9], [], g, iv) else pm_at X d 185 (47, [some (.ref 32), some (.int x1), some (.int x2), some (.int x3), some (.int x4), some (.int x5), some (.int x6), some (.int x7), z8, z9], [], g, iv) := by
  refine (at_iload_n dc185_37 rfl).trans ?_
  refine (at_iload dc185_38 rfl).trans ?_
  refine (at_iadd dc185_40).trans ?_
  refine (at_iconst (v := 2) dc185_41 rfl).trans ?_
  refine (at_irem dc185_42 (by decide)).trans ?_
  refine (at_iconst (v := 1) dc185_43 rfl).trans ?_
  exact at_icmp_ne (t := 51) dc185_44 (by decide)
theorem b185_47 {X : pm_X} {d : Nat} {x1 : Int32} {x2 : Int32} {x3 : Int32} {x4 : Int32} {x5 : Int32} {x6 : Int32} {x7 : Int32} {z8 : Option Value} {z9 : Option Value} {g : pm_G} {iv : pm_V}  : pm_at X d 185 (47, [some (.ref 32), some (.int x1), some (.int x2), some (.int x3), some (.int x4), some (.int x5), some (.int x6), some (.int x7), z8, z9], [], g, iv) = pm_at X d 185 (52, [some (.ref 32), some (.int x1), some (.int x2), some (.int x3), some (.int x4), some (.int x5), some (.int x6), some (.int x7), z8, z9], [.int 0], g, iv) := by
  refine (at_iconst (v := 0) dc185_47 rfl).trans ?_
  refine (at_goto (t := 52) dc185_48 (by decide)).trans ?_
  rfl
theorem b185_51 {X : pm_X} {d : Nat} {x1 : Int32} {x2 : Int32} {x3 : Int32} {x4 : Int32} {x5 : Int32} {x6 : Int32} {x7 : Int32} {z8 : Option Value} {z9 : Option Value} {g : pm_G} {iv : pm_V}  : pm_at X d 185 (51, [some (.ref 32), some (.int x1), some (.int x2), some (.int x3), some (.int x4), some (.int x5), some (.int x6), some (.int x7), z8, z9], [], g, iv) = pm_at X d 185 (52, [some (.ref 32), some (.int x1), some (.int x2), some (.int x3), some (.int x4), some (.int x5), some (.int x6), some (.int x7), z8, z9], [.int 1], g, iv) := by
  refine (at_iconst (v := 1) dc185_51 rfl).trans ?_
  rfl
theorem b185_52 {X : pm_X} {d : Nat} {x1 : Int32} {x2 : Int32} {x3 : Int32} {x4 : Int32} {x5 : Int32} {x6 : Int32} {x7 : Int32} {z8 : Option Value} {z9 : Option Value} {s0 : Int32} {g : pm_G} {iv : pm_V}  : pm_at X d 185 (52, [some (.ref 32), some (.int x1), some (.int x2), some (.int x3), some (.int x4), some (.int x5), some (.int x6), some (.int x7), z8, z9], [.int s0], g, iv) = pm_at X d 185 (57, [some (.ref 32), some (.int x1), some (.int x2), some (.int x3), some (.int x4), some (.int x5), some (.int x6), some (.int x7), some (.int s0), some (.int 0)], [], g, iv) := by
  refine (at_istore dc185_52 rfl).trans ?_
  refine (at_iconst (v := 0) dc185_54 rfl).trans ?_
  refine (at_istore dc185_55 rfl).trans ?_
  rfl
theorem b185_57 {X : pm_X} {d : Nat} {x1 : Int32} {x2 : Int32} {x3 : Int32} {x4 : Int32} {x5 : Int32} {x6 : Int32} {x7 : Int32} {x8 : Int32} {x9 : Int32} {g : pm_G} {iv : pm_V}  : pm_at X d 185 (57, [some (.ref 32), some (.int x1), some (.int x2), some (.int x3), some (.int x4), some (.int x5), some (.int x6), some (.int x7), some (.int x8), some (.int x9)], [], g, iv) = if x8 ≤ x9 then pm_at X d 185 (103, [some (.ref 32), some (.int x1), some (.int x2), some (.int x3), some (.int x4), some (.int x5), some (.int x6), some (.int x7), some (.int x8), some (.int x9)], [], g, iv) else pm_at X d 185 (64, [some (.ref 32), some (.int x1), some (.int x2), some (.int x3), some (.int x4), some (.int x5), some (.int x6), some (.int x7), some (.int x8), some (.int x9)], [], g, iv) := by
  refine (at_iload dc185_57 rfl).trans ?_
  refine (at_iload dc185_59 rfl).trans ?_
  exact at_icmp_ge (t := 103) dc185_61 (by decide)
theorem b185_64 {X : pm_X} {d : Nat} {x1 : Int32} {x2 : Int32} {x3 : Int32} {x4 : Int32} {x5 : Int32} {x6 : Int32} {x7 : Int32} {x8 : Int32} {x9 : Int32} {g : pm_G} {iv : pm_V} (hL : pm_lay g) : pm_at X d 185 (64, [some (.ref 32), some (.int x1), some (.int x2), some (.int x3), some (.int x4), some (.int x5), some (.int x6), some (.int x7), some (.int x8), some (.int x9)], [], g, iv) = if (iv 36 1) ≤ (x5 + 1) then pm_at X d 185 (103, [some (.ref 32), some (.int x1), some (.int x2), some (.int x3), some (.int x4), some (.int x5), some (.int x6), some (.int x7), some (.int x8), some (.int x9)], [], g, iv) else pm_at X d 185 (77, [some (.ref 32), some (.int x1), some (.int x2), some (.int x3), some (.int x4), some (.int x5), some (.int x6), some (.int x7), some (.int x8), some (.int x9)], [], g, iv) := by
  refine (at_iload dc185_64 rfl).trans ?_
  refine (at_iconst (v := 1) dc185_66 rfl).trans ?_
  refine (at_iadd dc185_67).trans ?_
  refine (at_aload_n dc185_68 rfl).trans ?_
  refine (at_gfR dc185_69 mc185 lf6_19 fo6_5 (ly32 hL) (lr32_5 hL)).trans ?_
  refine (at_iconst (v := 1) dc185_72 rfl).trans ?_
  refine (at_iald dc185_73 (ly36 hL) (vp_in_nI (n := 1) (by decide) (by decide))).trans ?_
  exact at_icmp_ge (t := 103) dc185_74 (by decide)
theorem b185_77 {X : pm_X} {d : Nat} {x1 : Int32} {x2 : Int32} {x3 : Int32} {x4 : Int32} {x5 : Int32} {x6 : Int32} {x7 : Int32} {x8 : Int32} {x9 : Int32} {g : pm_G} {iv : pm_V} (hL : pm_lay g) : pm_at X d 185 (77, [some (.ref 32), some (.int x1), some (.int x2), some (.int x3), some (.int x4), some (.int x5), some (.int x6), some (.int x7), some (.int x8), some (.int x9)], [], g, iv) = pm_then X d 185 84 [some (.ref 32), some (.int x1), some (.int x2), some (.int x3), some (.int x4), some (.int x5), some (.int x6), some (.int x7), some (.int x8), some (.int x9)] [.ref 32] (pm_c X d 159 [.ref 32, .int x1, .int 1] g iv) := by
  refine (at_aload_n dc185_77 rfl).trans ?_
  refine (at_aload_n dc185_78 rfl).trans ?_
  refine (at_iload_n dc185_79 rfl).trans ?_
  refine (at_iconst (v := 1) dc185_80 rfl).trans ?_
  exact at_inv dc185_81 mc185 lm6_187 rfl rfl (Nat.le_of_ble_eq_true rfl) (Or.inl ⟨(ly32 hL), by decide⟩)
theorem b185_84 {X : pm_X} {d : Nat} {x1 : Int32} {x2 : Int32} {x3 : Int32} {x4 : Int32} {x5 : Int32} {x6 : Int32} {x7 : Int32} {x8 : Int32} {x9 : Int32} {s0 : Int32} {g : pm_G} {iv : pm_V} (hL : pm_lay g) : pm_at X d 185 (84, [some (.ref 32), some (.int x1), some (.int x2), some (.int x3), some (.int x4), some (.int x5), some (.int x6), some (.int x7), some (.int x8), some (.int x9)], [.int s0, .ref 32], g, iv) = pm_then X d 185 91 [some (.ref 32), some (.int x1), some (.int x2), some (.int x3), some (.int x4), some (.int x5), some (.int x6), some (.int x7), some (.int x8), some (.int x9)] [] (pm_c X d 160 [.ref 32, .int s0, .int (x5 + 1)] g iv) := by
  refine (at_iload dc185_84 rfl).trans ?_
  refine (at_iconst (v := 1) dc185_86 rfl).trans ?_
  refine (at_iadd dc185_87).trans ?_
  exact at_inv dc185_88 mc185 lm6_190 rfl rfl (Nat.le_of_ble_eq_true rfl) (Or.inl ⟨(ly32 hL), by decide⟩)
theorem b185_91 {X : pm_X} {d : Nat} {x1 : Int32} {x2 : Int32} {x3 : Int32} {x4 : Int32} {x5 : Int32} {x6 : Int32} {x7 : Int32} {x8 : Int32} {x9 : Int32} {s0 : Int32} {g : pm_G} {iv : pm_V}  : pm_at X d 185 (91, [some (.ref 32), some (.int x1), some (.int x2), some (.int x3), some (.int x4), some (.int x5), some (.int x6), some (.int x7), some (.int x8), some (.int x9)], [.int s0], g, iv) = if ¬ s0 = 0 then pm_at X d 185 (103, [some (.ref 32), some (.int x1), some (.int x2), some (.int x3), some (.int x4), some (.int x5), some (.int x6), some (.int x7), some (.int x8), some (.int x9)], [], g, iv) else pm_at X d 185 (94, [some (.ref 32), some (.int x1), some (.int x2), some (.int x3), some (.int x4), some (.int x5), some (.int x6), some (.int x7), some (.int x8), some (.int x9)], [], g, iv) := by
  exact at_if_ne (t := 103) dc185_91 (by decide)
theorem b185_94 {X : pm_X} {d : Nat} {x1 : Int32} {x2 : Int32} {x3 : Int32} {x4 : Int32} {x5 : Int32} {x6 : Int32} {x7 : Int32} {x8 : Int32} {x9 : Int32} {g : pm_G} {iv : pm_V}  : pm_at X d 185 (94, [some (.ref 32), some (.int x1), some (.int x2), some (.int x3), some (.int x4), some (.int x5), some (.int x6), some (.int x7), some (.int x8), some (.int x9)], [], g, iv) = pm_at X d 185 (57, [some (.ref 32), some (.int x1), some (.int x2), some (.int x3), some (.int x4), some (.int (x5 + 1)), some (.int x6), some (.int x7), some (.int x8), some (.int (x9 + 1))], [], g, iv) := by
  refine (at_iinc (v := 1) dc185_94 rfl (by decide) rfl).trans ?_
  refine (at_iinc (v := 1) dc185_97 rfl (by decide) rfl).trans ?_
  refine (at_goto (t := 57) dc185_100 (by decide)).trans ?_
  rfl
theorem b185_103 {X : pm_X} {d : Nat} {x1 : Int32} {x2 : Int32} {x3 : Int32} {x4 : Int32} {x5 : Int32} {x6 : Int32} {x7 : Int32} {x8 : Int32} {x9 : Int32} {g : pm_G} {iv : pm_V}  : pm_at X d 185 (103, [some (.ref 32), some (.int x1), some (.int x2), some (.int x3), some (.int x4), some (.int x5), some (.int x6), some (.int x7), some (.int x8), some (.int x9)], [], g, iv) = pm_at X d 185 (14, [some (.ref 32), some (.int x1), some (.int x2), some (.int x3), some (.int x4), some (.int x5), some (.int x6), some (.int (x7 + 1)), some (.int x8), some (.int x9)], [], g, iv) := by
  refine (at_iinc (v := 1) dc185_103 rfl (by decide) rfl).trans ?_
  refine (at_goto (t := 14) dc185_106 (by decide)).trans ?_
  rfl
theorem b185_109 {X : pm_X} {d : Nat} {x1 : Int32} {x2 : Int32} {x3 : Int32} {x4 : Int32} {x5 : Int32} {x6 : Int32} {x7 : Int32} {z8 : Option Value} {z9 : Option Value} {g : pm_G} {iv : pm_V}  : pm_at X d 185 (109, [some (.ref 32), some (.int x1), some (.int x2), some (.int x3), some (.int x4), some (.int x5), some (.int x6), some (.int x7), z8, z9], [], g, iv) = some (some (.int x5), g, iv) := by
  refine (at_iload dc185_109 rfl).trans ?_
  exact at_iret dc185_111 mr185
-- Mod.stood (III)I
theorem dc186_0 : decode (pm_mb 186) 0 = .ok (.aload_n 0, 1) := by decide +kernel
theorem dc186_1 : decode (pm_mb 186) 1 = .ok (.iconst 0, 1) := by decide +kernel
theorem dc186_2 : decode (pm_mb 186) 2 = .ok (.putfield 50, 3) := by decide +kernel
theorem dc186_5 : decode (pm_mb 186) 5 = .ok (.aload_n 0, 1) := by decide +kernel
theorem dc186_6 : decode (pm_mb 186) 6 = .ok (.iload_n 1, 1) := by decide +kernel
theorem dc186_7 : decode (pm_mb 186) 7 = .ok (.invokevirtual 184, 3) := by decide +kernel
theorem dc186_10 : decode (pm_mb 186) 10 = .ok (.ifCond .eq 27, 3) := by decide +kernel
theorem dc186_13 : decode (pm_mb 186) 13 = .ok (.iload_n 2, 1) := by decide +kernel
theorem dc186_14 : decode (pm_mb 186) 14 = .ok (.i2l, 1) := by decide +kernel
theorem dc186_15 : decode (pm_mb 186) 15 = .ok (.lconst 0, 1) := by decide +kernel
theorem dc186_16 : decode (pm_mb 186) 16 = .ok (.ldc2_w 229, 3) := by decide +kernel
theorem dc186_19 : decode (pm_mb 186) 19 = .ok (.invokestatic 60, 3) := by decide +kernel
theorem dc186_22 : decode (pm_mb 186) 22 = .ok (.ifCond .eq 15, 3) := by decide +kernel
theorem dc186_25 : decode (pm_mb 186) 25 = .ok (.iload_n 3, 1) := by decide +kernel
theorem dc186_26 : decode (pm_mb 186) 26 = .ok (.i2l, 1) := by decide +kernel
theorem dc186_27 : decode (pm_mb 186) 27 = .ok (.lconst 0, 1) := by decide +kernel
theorem dc186_28 : decode (pm_mb 186) 28 = .ok (.ldc2_w 229, 3) := by decide +kernel
theorem dc186_31 : decode (pm_mb 186) 31 = .ok (.invokestatic 60, 3) := by decide +kernel
theorem dc186_34 : decode (pm_mb 186) 34 = .ok (.ifCond .ne 6, 3) := by decide +kernel
theorem dc186_37 : decode (pm_mb 186) 37 = .ok (.ldc 70, 2) := by decide +kernel
theorem dc186_39 : decode (pm_mb 186) 39 = .ok (.ireturn, 1) := by decide +kernel
theorem dc186_40 : decode (pm_mb 186) 40 = .ok (.iconst 0, 1) := by decide +kernel
theorem dc186_41 : decode (pm_mb 186) 41 = .ok (.istore 4, 2) := by decide +kernel
theorem dc186_43 : decode (pm_mb 186) 43 = .ok (.iconst 0, 1) := by decide +kernel
theorem dc186_44 : decode (pm_mb 186) 44 = .ok (.istore 5, 2) := by decide +kernel
theorem dc186_46 : decode (pm_mb 186) 46 = .ok (.iload 5, 2) := by decide +kernel
theorem dc186_48 : decode (pm_mb 186) 48 = .ok (.aload_n 0, 1) := by decide +kernel
theorem dc186_49 : decode (pm_mb 186) 49 = .ok (.getfield 19, 3) := by decide +kernel
theorem dc186_52 : decode (pm_mb 186) 52 = .ok (.iconst 1, 1) := by decide +kernel
theorem dc186_53 : decode (pm_mb 186) 53 = .ok (.iaload, 1) := by decide +kernel
theorem dc186_54 : decode (pm_mb 186) 54 = .ok (.if_icmp .ge 55, 3) := by decide +kernel
theorem dc186_57 : decode (pm_mb 186) 57 = .ok (.iload 4, 2) := by decide +kernel
theorem dc186_59 : decode (pm_mb 186) 59 = .ok (.aload_n 0, 1) := by decide +kernel
theorem dc186_60 : decode (pm_mb 186) 60 = .ok (.aload_n 0, 1) := by decide +kernel
theorem dc186_61 : decode (pm_mb 186) 61 = .ok (.iload_n 1, 1) := by decide +kernel
theorem dc186_62 : decode (pm_mb 186) 62 = .ok (.iconst 1, 1) := by decide +kernel
theorem dc186_63 : decode (pm_mb 186) 63 = .ok (.invokevirtual 187, 3) := by decide +kernel
theorem dc186_66 : decode (pm_mb 186) 66 = .ok (.iload 5, 2) := by decide +kernel
theorem dc186_68 : decode (pm_mb 186) 68 = .ok (.invokevirtual 190, 3) := by decide +kernel
theorem dc186_71 : decode (pm_mb 186) 71 = .ok (.ifCond .ne 28, 3) := by decide +kernel
theorem dc186_74 : decode (pm_mb 186) 74 = .ok (.aload_n 0, 1) := by decide +kernel
theorem dc186_75 : decode (pm_mb 186) 75 = .ok (.iload_n 1, 1) := by decide +kernel
theorem dc186_76 : decode (pm_mb 186) 76 = .ok (.iload 5, 2) := by decide +kernel
theorem dc186_78 : decode (pm_mb 186) 78 = .ok (.iload_n 2, 1) := by decide +kernel
theorem dc186_79 : decode (pm_mb 186) 79 = .ok (.iload_n 3, 1) := by decide +kernel
theorem dc186_80 : decode (pm_mb 186) 80 = .ok (.invokevirtual 246, 3) := by decide +kernel
theorem dc186_83 : decode (pm_mb 186) 83 = .ok (.aload_n 0, 1) := by decide +kernel
theorem dc186_84 : decode (pm_mb 186) 84 = .ok (.iload_n 1, 1) := by decide +kernel
theorem dc186_85 : decode (pm_mb 186) 85 = .ok (.iconst 2, 1) := by decide +kernel
theorem dc186_86 : decode (pm_mb 186) 86 = .ok (.invokevirtual 187, 3) := by decide +kernel
theorem dc186_89 : decode (pm_mb 186) 89 = .ok (.if_icmp .ne 10, 3) := by decide +kernel
theorem dc186_92 : decode (pm_mb 186) 92 = .ok (.iconst 1, 1) := by decide +kernel
theorem dc186_93 : decode (pm_mb 186) 93 = .ok (.iload 5, 2) := by decide +kernel
theorem dc186_95 : decode (pm_mb 186) 95 = .ok (.ishl, 1) := by decide +kernel
theorem dc186_96 : decode (pm_mb 186) 96 = .ok (.goto 4, 3) := by decide +kernel
theorem dc186_99 : decode (pm_mb 186) 99 = .ok (.iconst 0, 1) := by decide +kernel
theorem dc186_100 : decode (pm_mb 186) 100 = .ok (.ior, 1) := by decide +kernel
theorem dc186_101 : decode (pm_mb 186) 101 = .ok (.istore 4, 2) := by decide +kernel
theorem dc186_103 : decode (pm_mb 186) 103 = .ok (.iinc 5 1, 3) := by decide +kernel
theorem dc186_106 : decode (pm_mb 186) 106 = .ok (.goto (-60), 3) := by decide +kernel
theorem dc186_109 : decode (pm_mb 186) 109 = .ok (.iload 4, 2) := by decide +kernel
theorem dc186_111 : decode (pm_mb 186) 111 = .ok (.ireturn, 1) := by decide +kernel
theorem b186_0 {X : pm_X} {d : Nat} {x1 : Int32} {x2 : Int32} {x3 : Int32} {g : pm_G} {iv : pm_V} (hL : pm_lay g) : pm_at X d 186 (0, [some (.ref 32), some (.int x1), some (.int x2), some (.int x3), none, none], [], g, iv) = pm_then X d 186 10 [some (.ref 32), some (.int x1), some (.int x2), some (.int x3), none, none] [] (pm_c X d 157 [.ref 32, .int x1] g (pm_iw iv 32 0 0)) := by
  refine (at_aload_n dc186_0 rfl).trans ?_
  refine (at_iconst (v := 0) dc186_1 rfl).trans ?_
  refine (at_pfI dc186_2 mc186 lf6_50 po6_0 (ly32 hL)).trans ?_
  refine (at_aload_n dc186_5 rfl).trans ?_
  refine (at_iload_n dc186_6 rfl).trans ?_
  exact at_inv dc186_7 mc186 lm6_184 rfl rfl (Nat.le_of_ble_eq_true rfl) (Or.inl ⟨(ly32 hL), by decide⟩)
theorem b186_10 {X : pm_X} {d : Nat} {x1 : Int32} {x2 : Int32} {x3 : Int32} {s0 : Int32} {g : pm_G} {iv : pm_V}  : pm_at X d 186 (10, [some (.ref 32), some (.int x1), some (.int x2), some (.int x3), none, none], [.int s0], g, iv) = if s0 = 0 then pm_at X d 186 (37, [some (.ref 32), some (.int x1), some (.int x2), some (.int x3), none, none], [], g, iv) else pm_at X d 186 (13, [some (.ref 32), some (.int x1), some (.int x2), some (.int x3), none, none], [], g, iv) := by
  exact at_if_eq (t := 37) dc186_10 (by decide)
theorem b186_13 {X : pm_X} {d : Nat} {x1 : Int32} {x2 : Int32} {x3 : Int32} {g : pm_G} {iv : pm_V}  : pm_at X d 186 (13, [some (.ref 32), some (.int x1), some (.int x2), some (.int x3), none, none], [], g, iv) = pm_then X d 186 22 [some (.ref 32), some (.int x1), some (.int x2), some (.int x3), none, none] [] (pm_c X d 130 [.long (x2 : Int32).toInt64, .long 0, .long 40] g iv) := by
  refine (at_iload_n dc186_13 rfl).trans ?_
  refine (at_i2l dc186_14).trans ?_
  refine (at_lconst (v := 0) dc186_15 (by decide)).trans ?_
  refine (at_ldc2 dc186_16 mc186 ll6_229).trans ?_
  exact at_ins dc186_19 mc186 lm6_60 (Nat.le_of_ble_eq_true rfl) rfl rfl (Nat.le_of_ble_eq_true rfl)
theorem b186_22 {X : pm_X} {d : Nat} {x1 : Int32} {x2 : Int32} {x3 : Int32} {s0 : Int32} {g : pm_G} {iv : pm_V}  : pm_at X d 186 (22, [some (.ref 32), some (.int x1), some (.int x2), some (.int x3), none, none], [.int s0], g, iv) = if s0 = 0 then pm_at X d 186 (37, [some (.ref 32), some (.int x1), some (.int x2), some (.int x3), none, none], [], g, iv) else pm_at X d 186 (25, [some (.ref 32), some (.int x1), some (.int x2), some (.int x3), none, none], [], g, iv) := by
  exact at_if_eq (t := 37) dc186_22 (by decide)
theorem b186_25 {X : pm_X} {d : Nat} {x1 : Int32} {x2 : Int32} {x3 : Int32} {g : pm_G} {iv : pm_V}  : pm_at X d 186 (25, [some (.ref 32), some (.int x1), some (.int x2), some (.int x3), none, none], [], g, iv) = pm_then X d 186 34 [some (.ref 32), some (.int x1), some (.int x2), some (.int x3), none, none] [] (pm_c X d 130 [.long (x3 : Int32).toInt64, .long 0, .long 40] g iv) := by
  refine (at_iload_n dc186_25 rfl).trans ?_
  refine (at_i2l dc186_26).trans ?_
  refine (at_lconst (v := 0) dc186_27 (by decide)).trans ?_
  refine (at_ldc2 dc186_28 mc186 ll6_229).trans ?_
  exact at_ins dc186_31 mc186 lm6_60 (Nat.le_of_ble_eq_true rfl) rfl rfl (Nat.le_of_ble_eq_true rfl)
theorem b186_34 {X : pm_X} {d : Nat} {x1 : Int32} {x2 : Int32} {x3 : Int32} {s0 : Int32} {g : pm_G} {iv : pm_V}  : pm_at X d 186 (34, [some (.ref 32), some (.int x1), some (.int x2), some (.int x3), none, none], [.int s0], g, iv) = if ¬ s0 = 0 then pm_at X d 186 (40, [some (.ref 32), some (.int x1), some (.int x2), some (.int x3), none, none], [], g, iv) else pm_at X d 186 (37, [some (.ref 32), some (.int x1), some (.int x2), some (.int x3), none, none], [], g, iv) := by
  exact at_if_ne (t := 40) dc186_34 (by decide)
theorem b186_37 {X : pm_X} {d : Nat} {x1 : Int32} {x2 : Int32} {x3 : Int32} {g : pm_G} {iv : pm_V}  : pm_at X d 186 (37, [some (.ref 32), some (.int x1), some (.int x2), some (.int x3), none, none], [], g, iv) = some (some (.int (-1000001)), g, iv) := by
  refine (at_ldc dc186_37 mc186 lk6_70).trans ?_
  exact at_iret dc186_39 mr186
theorem b186_40 {X : pm_X} {d : Nat} {x1 : Int32} {x2 : Int32} {x3 : Int32} {g : pm_G} {iv : pm_V}  : pm_at X d 186 (40, [some (.ref 32), some (.int x1), some (.int x2), some (.int x3), none, none], [], g, iv) = pm_at X d 186 (46, [some (.ref 32), some (.int x1), some (.int x2), some (.int x3), some (.int 0), some (.int 0)], [], g, iv) := by
  refine (at_iconst (v := 0) dc186_40 rfl).trans ?_
  refine (at_istore dc186_41 rfl).trans ?_
  refine (at_iconst (v := 0) dc186_43 rfl).trans ?_
  refine (at_istore dc186_44 rfl).trans ?_
  rfl
theorem b186_46 {X : pm_X} {d : Nat} {x1 : Int32} {x2 : Int32} {x3 : Int32} {x4 : Int32} {x5 : Int32} {g : pm_G} {iv : pm_V} (hL : pm_lay g) : pm_at X d 186 (46, [some (.ref 32), some (.int x1), some (.int x2), some (.int x3), some (.int x4), some (.int x5)], [], g, iv) = if (iv 36 1) ≤ x5 then pm_at X d 186 (109, [some (.ref 32), some (.int x1), some (.int x2), some (.int x3), some (.int x4), some (.int x5)], [], g, iv) else pm_at X d 186 (57, [some (.ref 32), some (.int x1), some (.int x2), some (.int x3), some (.int x4), some (.int x5)], [], g, iv) := by
  refine (at_iload dc186_46 rfl).trans ?_
  refine (at_aload_n dc186_48 rfl).trans ?_
  refine (at_gfR dc186_49 mc186 lf6_19 fo6_5 (ly32 hL) (lr32_5 hL)).trans ?_
  refine (at_iconst (v := 1) dc186_52 rfl).trans ?_
  refine (at_iald dc186_53 (ly36 hL) (vp_in_nI (n := 1) (by decide) (by decide))).trans ?_
  exact at_icmp_ge (t := 109) dc186_54 (by decide)
theorem b186_57 {X : pm_X} {d : Nat} {x1 : Int32} {x2 : Int32} {x3 : Int32} {x4 : Int32} {x5 : Int32} {g : pm_G} {iv : pm_V} (hL : pm_lay g) : pm_at X d 186 (57, [some (.ref 32), some (.int x1), some (.int x2), some (.int x3), some (.int x4), some (.int x5)], [], g, iv) = pm_then X d 186 66 [some (.ref 32), some (.int x1), some (.int x2), some (.int x3), some (.int x4), some (.int x5)] [.ref 32, .int x4] (pm_c X d 159 [.ref 32, .int x1, .int 1] g iv) := by
  refine (at_iload dc186_57 rfl).trans ?_
  refine (at_aload_n dc186_59 rfl).trans ?_
  refine (at_aload_n dc186_60 rfl).trans ?_
  refine (at_iload_n dc186_61 rfl).trans ?_
  refine (at_iconst (v := 1) dc186_62 rfl).trans ?_
  exact at_inv dc186_63 mc186 lm6_187 rfl rfl (Nat.le_of_ble_eq_true rfl) (Or.inl ⟨(ly32 hL), by decide⟩)
theorem b186_66 {X : pm_X} {d : Nat} {x1 : Int32} {x2 : Int32} {x3 : Int32} {x4 : Int32} {x5 : Int32} {s0 : Int32} {s2 : Int32} {g : pm_G} {iv : pm_V} (hL : pm_lay g) : pm_at X d 186 (66, [some (.ref 32), some (.int x1), some (.int x2), some (.int x3), some (.int x4), some (.int x5)], [.int s0, .ref 32, .int s2], g, iv) = pm_then X d 186 71 [some (.ref 32), some (.int x1), some (.int x2), some (.int x3), some (.int x4), some (.int x5)] [.int s2] (pm_c X d 160 [.ref 32, .int s0, .int x5] g iv) := by
  refine (at_iload dc186_66 rfl).trans ?_
  exact at_inv dc186_68 mc186 lm6_190 rfl rfl (Nat.le_of_ble_eq_true rfl) (Or.inl ⟨(ly32 hL), by decide⟩)
theorem b186_71 {X : pm_X} {d : Nat} {x1 : Int32} {x2 : Int32} {x3 : Int32} {x4 : Int32} {x5 : Int32} {s0 : Int32} {s1 : Int32} {g : pm_G} {iv : pm_V}  : pm_at X d 186 (71, [some (.ref 32), some (.int x1), some (.int x2), some (.int x3), some (.int x4), some (.int x5)], [.int s0, .int s1], g, iv) = if ¬ s0 = 0 then pm_at X d 186 (99, [some (.ref 32), some (.int x1), some (.int x2), some (.int x3), some (.int x4), some (.int x5)], [.int s1], g, iv) else pm_at X d 186 (74, [some (.ref 32), some (.int x1), some (.int x2), some (.int x3), some (.int x4), some (.int x5)], [.int s1], g, iv) := by
  exact at_if_ne (t := 99) dc186_71 (by decide)
theorem b186_74 {X : pm_X} {d : Nat} {x1 : Int32} {x2 : Int32} {x3 : Int32} {x4 : Int32} {x5 : Int32} {s0 : Int32} {g : pm_G} {iv : pm_V} (hL : pm_lay g) : pm_at X d 186 (74, [some (.ref 32), some (.int x1), some (.int x2), some (.int x3), some (.int x4), some (.int x5)], [.int s0], g, iv) = pm_then X d 186 83 [some (.ref 32), some (.int x1), some (.int x2), some (.int x3), some (.int x4), some (.int x5)] [.int s0] (pm_c X d 185 [.ref 32, .int x1, .int x5, .int x2, .int x3] g iv) := by
  refine (at_aload_n dc186_74 rfl).trans ?_
  refine (at_iload_n dc186_75 rfl).trans ?_
  refine (at_iload dc186_76 rfl).trans ?_
  refine (at_iload_n dc186_78 rfl).trans ?_
  refine (at_iload_n dc186_79 rfl).trans ?_
  exact at_inv dc186_80 mc186 lm6_246 rfl rfl (Nat.le_of_ble_eq_true rfl) (Or.inl ⟨(ly32 hL), by decide⟩)
theorem b186_83 {X : pm_X} {d : Nat} {x1 : Int32} {x2 : Int32} {x3 : Int32} {x4 : Int32} {x5 : Int32} {s0 : Int32} {s1 : Int32} {g : pm_G} {iv : pm_V} (hL : pm_lay g) : pm_at X d 186 (83, [some (.ref 32), some (.int x1), some (.int x2), some (.int x3), some (.int x4), some (.int x5)], [.int s0, .int s1], g, iv) = pm_then X d 186 89 [some (.ref 32), some (.int x1), some (.int x2), some (.int x3), some (.int x4), some (.int x5)] [.int s0, .int s1] (pm_c X d 159 [.ref 32, .int x1, .int 2] g iv) := by
  refine (at_aload_n dc186_83 rfl).trans ?_
  refine (at_iload_n dc186_84 rfl).trans ?_
  refine (at_iconst (v := 2) dc186_85 rfl).trans ?_
  exact at_inv dc186_86 mc186 lm6_187 rfl rfl (Nat.le_of_ble_eq_true rfl) (Or.inl ⟨(ly32 hL), by decide⟩)
theorem b186_89 {X : pm_X} {d : Nat} {x1 : Int32} {x2 : Int32} {x3 : Int32} {x4 : Int32} {x5 : Int32} {s0 : Int32} {s1 : Int32} {s2 : Int32} {g : pm_G} {iv : pm_V}  : pm_at X d 186 (89, [some (.ref 32), some (.int x1), some (.int x2), some (.int x3), some (.int x4), some (.int x5)], [.int s0, .int s1, .int s2], g, iv) = if ¬ s1 = s0 then pm_at X d 186 (99, [some (.ref 32), some (.int x1), some (.int x2), some (.int x3), some (.int x4), some (.int x5)], [.int s2], g, iv) else pm_at X d 186 (92, [some (.ref 32), some (.int x1), some (.int x2), some (.int x3), some (.int x4), some (.int x5)], [.int s2], g, iv) := by
  exact at_icmp_ne (t := 99) dc186_89 (by decide)
theorem b186_92 {X : pm_X} {d : Nat} {x1 : Int32} {x2 : Int32} {x3 : Int32} {x4 : Int32} {x5 : Int32} {s0 : Int32} {g : pm_G} {iv : pm_V}  : pm_at X d 186 (92, [some (.ref 32), some (.int x1), some (.int x2), some (.int x3), some (.int x4), some (.int x5)], [.int s0], g, iv) = pm_at X d 186 (100, [some (.ref 32), some (.int x1), some (.int x2), some (.int x3), some (.int x4), some (.int x5)], [.int (1 <<< (x5 &&& 31)), .int s0], g, iv) := by
  refine (at_iconst (v := 1) dc186_92 rfl).trans ?_
  refine (at_iload dc186_93 rfl).trans ?_
  refine (at_ishl dc186_95).trans ?_
  refine (at_goto (t := 100) dc186_96 (by decide)).trans ?_
  rfl
theorem b186_99 {X : pm_X} {d : Nat} {x1 : Int32} {x2 : Int32} {x3 : Int32} {x4 : Int32} {x5 : Int32} {s0 : Int32} {g : pm_G} {iv : pm_V}  : pm_at X d 186 (99, [some (.ref 32), some (.int x1), some (.int x2), some (.int x3), some (.int x4), some (.int x5)], [.int s0], g, iv) = pm_at X d 186 (100, [some (.ref 32), some (.int x1), some (.int x2), some (.int x3), some (.int x4), some (.int x5)], [.int 0, .int s0], g, iv) := by
  refine (at_iconst (v := 0) dc186_99 rfl).trans ?_
  rfl
theorem b186_100 {X : pm_X} {d : Nat} {x1 : Int32} {x2 : Int32} {x3 : Int32} {x4 : Int32} {x5 : Int32} {s0 : Int32} {s1 : Int32} {g : pm_G} {iv : pm_V}  : pm_at X d 186 (100, [some (.ref 32), some (.int x1), some (.int x2), some (.int x3), some (.int x4), some (.int x5)], [.int s0, .int s1], g, iv) = pm_at X d 186 (46, [some (.ref 32), some (.int x1), some (.int x2), some (.int x3), some (.int (s1 ||| s0)), some (.int (x5 + 1))], [], g, iv) := by
  refine (at_ior dc186_100).trans ?_
  refine (at_istore dc186_101 rfl).trans ?_
  refine (at_iinc (v := 1) dc186_103 rfl (by decide) rfl).trans ?_
  refine (at_goto (t := 46) dc186_106 (by decide)).trans ?_
  rfl
theorem b186_109 {X : pm_X} {d : Nat} {x1 : Int32} {x2 : Int32} {x3 : Int32} {x4 : Int32} {x5 : Int32} {g : pm_G} {iv : pm_V}  : pm_at X d 186 (109, [some (.ref 32), some (.int x1), some (.int x2), some (.int x3), some (.int x4), some (.int x5)], [], g, iv) = some (some (.int x4), g, iv) := by
  refine (at_iload dc186_109 rfl).trans ?_
  exact at_iret dc186_111 mr186
-- Mod.stolen (I)I
theorem dc187_0 : decode (pm_mb 187) 0 = .ok (.aload_n 0, 1) := by decide +kernel
theorem dc187_1 : decode (pm_mb 187) 1 = .ok (.iconst 0, 1) := by decide +kernel
theorem dc187_2 : decode (pm_mb 187) 2 = .ok (.putfield 50, 3) := by decide +kernel
theorem dc187_5 : decode (pm_mb 187) 5 = .ok (.aload_n 0, 1) := by decide +kernel
theorem dc187_6 : decode (pm_mb 187) 6 = .ok (.invokevirtual 205, 3) := by decide +kernel
theorem dc187_9 : decode (pm_mb 187) 9 = .ok (.ifCond .ne 6, 3) := by decide +kernel
theorem dc187_12 : decode (pm_mb 187) 12 = .ok (.ldc 209, 2) := by decide +kernel
theorem dc187_14 : decode (pm_mb 187) 14 = .ok (.ireturn, 1) := by decide +kernel
theorem dc187_15 : decode (pm_mb 187) 15 = .ok (.iload_n 1, 1) := by decide +kernel
theorem dc187_16 : decode (pm_mb 187) 16 = .ok (.invokestatic 64, 3) := by decide +kernel
theorem dc187_19 : decode (pm_mb 187) 19 = .ok (.ifCond .ne 6, 3) := by decide +kernel
theorem dc187_22 : decode (pm_mb 187) 22 = .ok (.ldc 70, 2) := by decide +kernel
theorem dc187_24 : decode (pm_mb 187) 24 = .ok (.ireturn, 1) := by decide +kernel
theorem dc187_25 : decode (pm_mb 187) 25 = .ok (.aload_n 0, 1) := by decide +kernel
theorem dc187_26 : decode (pm_mb 187) 26 = .ok (.getfield 7, 3) := by decide +kernel
theorem dc187_29 : decode (pm_mb 187) 29 = .ok (.iload_n 1, 1) := by decide +kernel
theorem dc187_30 : decode (pm_mb 187) 30 = .ok (.iaload, 1) := by decide +kernel
theorem dc187_31 : decode (pm_mb 187) 31 = .ok (.ifCond .ge 9, 3) := by decide +kernel
theorem dc187_34 : decode (pm_mb 187) 34 = .ok (.aload_n 0, 1) := by decide +kernel
theorem dc187_35 : decode (pm_mb 187) 35 = .ok (.iconst 1, 1) := by decide +kernel
theorem dc187_36 : decode (pm_mb 187) 36 = .ok (.invokevirtual 71, 3) := by decide +kernel
theorem dc187_39 : decode (pm_mb 187) 39 = .ok (.ireturn, 1) := by decide +kernel
theorem dc187_40 : decode (pm_mb 187) 40 = .ok (.aload_n 0, 1) := by decide +kernel
theorem dc187_41 : decode (pm_mb 187) 41 = .ok (.getfield 19, 3) := by decide +kernel
theorem dc187_44 : decode (pm_mb 187) 44 = .ok (.iconst 3, 1) := by decide +kernel
theorem dc187_45 : decode (pm_mb 187) 45 = .ok (.iaload, 1) := by decide +kernel
theorem dc187_46 : decode (pm_mb 187) 46 = .ok (.aload_n 0, 1) := by decide +kernel
theorem dc187_47 : decode (pm_mb 187) 47 = .ok (.getfield 13, 3) := by decide +kernel
theorem dc187_50 : decode (pm_mb 187) 50 = .ok (.iload_n 1, 1) := by decide +kernel
theorem dc187_51 : decode (pm_mb 187) 51 = .ok (.iaload, 1) := by decide +kernel
theorem dc187_52 : decode (pm_mb 187) 52 = .ok (.if_icmp .le 9, 3) := by decide +kernel
theorem dc187_55 : decode (pm_mb 187) 55 = .ok (.aload_n 0, 1) := by decide +kernel
theorem dc187_56 : decode (pm_mb 187) 56 = .ok (.iconst 2, 1) := by decide +kernel
theorem dc187_57 : decode (pm_mb 187) 57 = .ok (.invokevirtual 71, 3) := by decide +kernel
theorem dc187_60 : decode (pm_mb 187) 60 = .ok (.ireturn, 1) := by decide +kernel
theorem dc187_61 : decode (pm_mb 187) 61 = .ok (.iconst 0, 1) := by decide +kernel
theorem dc187_62 : decode (pm_mb 187) 62 = .ok (.istore_n 2, 1) := by decide +kernel
theorem dc187_63 : decode (pm_mb 187) 63 = .ok (.iload_n 2, 1) := by decide +kernel
theorem dc187_64 : decode (pm_mb 187) 64 = .ok (.aload_n 0, 1) := by decide +kernel
theorem dc187_65 : decode (pm_mb 187) 65 = .ok (.getfield 19, 3) := by decide +kernel
theorem dc187_68 : decode (pm_mb 187) 68 = .ok (.iconst 3, 1) := by decide +kernel
theorem dc187_69 : decode (pm_mb 187) 69 = .ok (.iaload, 1) := by decide +kernel
theorem dc187_70 : decode (pm_mb 187) 70 = .ok (.if_icmp .ge 40, 3) := by decide +kernel
theorem dc187_73 : decode (pm_mb 187) 73 = .ok (.aload_n 0, 1) := by decide +kernel
theorem dc187_74 : decode (pm_mb 187) 74 = .ok (.getfield 16, 3) := by decide +kernel
theorem dc187_77 : decode (pm_mb 187) 77 = .ok (.bipush 40, 2) := by decide +kernel
theorem dc187_79 : decode (pm_mb 187) 79 = .ok (.iload_n 1, 1) := by decide +kernel
theorem dc187_80 : decode (pm_mb 187) 80 = .ok (.imul, 1) := by decide +kernel
theorem dc187_81 : decode (pm_mb 187) 81 = .ok (.iload_n 2, 1) := by decide +kernel
theorem dc187_82 : decode (pm_mb 187) 82 = .ok (.iadd, 1) := by decide +kernel
theorem dc187_83 : decode (pm_mb 187) 83 = .ok (.iaload, 1) := by decide +kernel
theorem dc187_84 : decode (pm_mb 187) 84 = .ok (.i2l, 1) := by decide +kernel
theorem dc187_85 : decode (pm_mb 187) 85 = .ok (.lconst 0, 1) := by decide +kernel
theorem dc187_86 : decode (pm_mb 187) 86 = .ok (.aload_n 0, 1) := by decide +kernel
theorem dc187_87 : decode (pm_mb 187) 87 = .ok (.getfield 19, 3) := by decide +kernel
theorem dc187_90 : decode (pm_mb 187) 90 = .ok (.iconst 1, 1) := by decide +kernel
theorem dc187_91 : decode (pm_mb 187) 91 = .ok (.iaload, 1) := by decide +kernel
theorem dc187_92 : decode (pm_mb 187) 92 = .ok (.iconst 1, 1) := by decide +kernel
theorem dc187_93 : decode (pm_mb 187) 93 = .ok (.isub, 1) := by decide +kernel
theorem dc187_94 : decode (pm_mb 187) 94 = .ok (.i2l, 1) := by decide +kernel
theorem dc187_95 : decode (pm_mb 187) 95 = .ok (.invokestatic 60, 3) := by decide +kernel
theorem dc187_98 : decode (pm_mb 187) 98 = .ok (.ifCond .ne 6, 3) := by decide +kernel
theorem dc187_101 : decode (pm_mb 187) 101 = .ok (.ldc 70, 2) := by decide +kernel
theorem dc187_103 : decode (pm_mb 187) 103 = .ok (.ireturn, 1) := by decide +kernel
theorem dc187_104 : decode (pm_mb 187) 104 = .ok (.iinc 2 1, 3) := by decide +kernel
theorem dc187_107 : decode (pm_mb 187) 107 = .ok (.goto (-44), 3) := by decide +kernel
theorem dc187_110 : decode (pm_mb 187) 110 = .ok (.aload_n 0, 1) := by decide +kernel
theorem dc187_111 : decode (pm_mb 187) 111 = .ok (.iconst 0, 1) := by decide +kernel
theorem dc187_112 : decode (pm_mb 187) 112 = .ok (.putfield 54, 3) := by decide +kernel
theorem dc187_115 : decode (pm_mb 187) 115 = .ok (.iconst 0, 1) := by decide +kernel
theorem dc187_116 : decode (pm_mb 187) 116 = .ok (.istore_n 2, 1) := by decide +kernel
theorem dc187_117 : decode (pm_mb 187) 117 = .ok (.iload_n 2, 1) := by decide +kernel
theorem dc187_118 : decode (pm_mb 187) 118 = .ok (.iconst 1, 1) := by decide +kernel
theorem dc187_119 : decode (pm_mb 187) 119 = .ok (.aload_n 0, 1) := by decide +kernel
theorem dc187_120 : decode (pm_mb 187) 120 = .ok (.getfield 19, 3) := by decide +kernel
theorem dc187_123 : decode (pm_mb 187) 123 = .ok (.iconst 3, 1) := by decide +kernel
theorem dc187_124 : decode (pm_mb 187) 124 = .ok (.iaload, 1) := by decide +kernel
theorem dc187_125 : decode (pm_mb 187) 125 = .ok (.ishl, 1) := by decide +kernel
theorem dc187_126 : decode (pm_mb 187) 126 = .ok (.if_icmp .ge 20, 3) := by decide +kernel
theorem dc187_129 : decode (pm_mb 187) 129 = .ok (.aload_n 0, 1) := by decide +kernel
theorem dc187_130 : decode (pm_mb 187) 130 = .ok (.iload_n 1, 1) := by decide +kernel
theorem dc187_131 : decode (pm_mb 187) 131 = .ok (.iload_n 2, 1) := by decide +kernel
theorem dc187_132 : decode (pm_mb 187) 132 = .ok (.invokevirtual 250, 3) := by decide +kernel
theorem dc187_135 : decode (pm_mb 187) 135 = .ok (.ifCond .eq 5, 3) := by decide +kernel
theorem dc187_138 : decode (pm_mb 187) 138 = .ok (.iload_n 2, 1) := by decide +kernel
theorem dc187_139 : decode (pm_mb 187) 139 = .ok (.ireturn, 1) := by decide +kernel
theorem dc187_140 : decode (pm_mb 187) 140 = .ok (.iinc 2 1, 3) := by decide +kernel
theorem dc187_143 : decode (pm_mb 187) 143 = .ok (.goto (-26), 3) := by decide +kernel
theorem dc187_146 : decode (pm_mb 187) 146 = .ok (.ldc 86, 2) := by decide +kernel
theorem dc187_148 : decode (pm_mb 187) 148 = .ok (.ireturn, 1) := by decide +kernel
theorem b187_0 {X : pm_X} {d : Nat} {x1 : Int32} {g : pm_G} {iv : pm_V} (hL : pm_lay g) : pm_at X d 187 (0, [some (.ref 32), some (.int x1), none], [], g, iv) = pm_then X d 187 9 [some (.ref 32), some (.int x1), none] [] (pm_c X d 156 [.ref 32] g (pm_iw iv 32 0 0)) := by
  refine (at_aload_n dc187_0 rfl).trans ?_
  refine (at_iconst (v := 0) dc187_1 rfl).trans ?_
  refine (at_pfI dc187_2 mc187 lf6_50 po6_0 (ly32 hL)).trans ?_
  refine (at_aload_n dc187_5 rfl).trans ?_
  exact at_inv dc187_6 mc187 lm6_205 rfl rfl (Nat.le_of_ble_eq_true rfl) (Or.inl ⟨(ly32 hL), by decide⟩)
theorem b187_9 {X : pm_X} {d : Nat} {x1 : Int32} {s0 : Int32} {g : pm_G} {iv : pm_V}  : pm_at X d 187 (9, [some (.ref 32), some (.int x1), none], [.int s0], g, iv) = if ¬ s0 = 0 then pm_at X d 187 (15, [some (.ref 32), some (.int x1), none], [], g, iv) else pm_at X d 187 (12, [some (.ref 32), some (.int x1), none], [], g, iv) := by
  exact at_if_ne (t := 15) dc187_9 (by decide)
theorem b187_12 {X : pm_X} {d : Nat} {x1 : Int32} {g : pm_G} {iv : pm_V}  : pm_at X d 187 (12, [some (.ref 32), some (.int x1), none], [], g, iv) = some (some (.int (-1000002)), g, iv) := by
  refine (at_ldc dc187_12 mc187 lk6_209).trans ?_
  exact at_iret dc187_14 mr187
theorem b187_15 {X : pm_X} {d : Nat} {x1 : Int32} {g : pm_G} {iv : pm_V}  : pm_at X d 187 (15, [some (.ref 32), some (.int x1), none], [], g, iv) = pm_then X d 187 19 [some (.ref 32), some (.int x1), none] [] (pm_c X d 132 [.int x1] g iv) := by
  refine (at_iload_n dc187_15 rfl).trans ?_
  exact at_ins dc187_16 mc187 lm6_64 (Nat.le_of_ble_eq_true rfl) rfl rfl (Nat.le_of_ble_eq_true rfl)
theorem b187_19 {X : pm_X} {d : Nat} {x1 : Int32} {s0 : Int32} {g : pm_G} {iv : pm_V}  : pm_at X d 187 (19, [some (.ref 32), some (.int x1), none], [.int s0], g, iv) = if ¬ s0 = 0 then pm_at X d 187 (25, [some (.ref 32), some (.int x1), none], [], g, iv) else pm_at X d 187 (22, [some (.ref 32), some (.int x1), none], [], g, iv) := by
  exact at_if_ne (t := 25) dc187_19 (by decide)
theorem b187_22 {X : pm_X} {d : Nat} {x1 : Int32} {g : pm_G} {iv : pm_V}  : pm_at X d 187 (22, [some (.ref 32), some (.int x1), none], [], g, iv) = some (some (.int (-1000001)), g, iv) := by
  refine (at_ldc dc187_22 mc187 lk6_70).trans ?_
  exact at_iret dc187_24 mr187
theorem b187_25 {X : pm_X} {d : Nat} {x1 : Int32} {g : pm_G} {iv : pm_V} (hL : pm_lay g) (i1 : vp_in x1 8) : pm_at X d 187 (25, [some (.ref 32), some (.int x1), none], [], g, iv) = if 0 ≤ (iv 33 (x1 : Int32).toNatClampNeg) then pm_at X d 187 (40, [some (.ref 32), some (.int x1), none], [], g, iv) else pm_at X d 187 (34, [some (.ref 32), some (.int x1), none], [], g, iv) := by
  refine (at_aload_n dc187_25 rfl).trans ?_
  refine (at_gfR dc187_26 mc187 lf6_7 fo6_2 (ly32 hL) (lr32_2 hL)).trans ?_
  refine (at_iload_n dc187_29 rfl).trans ?_
  refine (at_iald dc187_30 (ly33 hL) i1).trans ?_
  exact at_if_ge (t := 40) dc187_31 (by decide)
theorem b187_34 {X : pm_X} {d : Nat} {x1 : Int32} {g : pm_G} {iv : pm_V} (hL : pm_lay g) : pm_at X d 187 (34, [some (.ref 32), some (.int x1), none], [], g, iv) = pm_then X d 187 39 [some (.ref 32), some (.int x1), none] [] (pm_c X d 131 [.ref 32, .int 1] g iv) := by
  refine (at_aload_n dc187_34 rfl).trans ?_
  refine (at_iconst (v := 1) dc187_35 rfl).trans ?_
  exact at_inv dc187_36 mc187 lm6_71 rfl rfl (Nat.le_of_ble_eq_true rfl) (Or.inl ⟨(ly32 hL), by decide⟩)
theorem b187_39 {X : pm_X} {d : Nat} {x1 : Int32} {s0 : Int32} {g : pm_G} {iv : pm_V}  : pm_at X d 187 (39, [some (.ref 32), some (.int x1), none], [.int s0], g, iv) = some (some (.int s0), g, iv) := by
  exact at_iret dc187_39 mr187
theorem b187_40 {X : pm_X} {d : Nat} {x1 : Int32} {g : pm_G} {iv : pm_V} (hL : pm_lay g) (i1 : vp_in x1 8) : pm_at X d 187 (40, [some (.ref 32), some (.int x1), none], [], g, iv) = if (iv 36 3) ≤ (iv 34 (x1 : Int32).toNatClampNeg) then pm_at X d 187 (61, [some (.ref 32), some (.int x1), none], [], g, iv) else pm_at X d 187 (55, [some (.ref 32), some (.int x1), none], [], g, iv) := by
  refine (at_aload_n dc187_40 rfl).trans ?_
  refine (at_gfR dc187_41 mc187 lf6_19 fo6_5 (ly32 hL) (lr32_5 hL)).trans ?_
  refine (at_iconst (v := 3) dc187_44 rfl).trans ?_
  refine (at_iald dc187_45 (ly36 hL) (vp_in_nI (n := 3) (by decide) (by decide))).trans ?_
  refine (at_aload_n dc187_46 rfl).trans ?_
  refine (at_gfR dc187_47 mc187 lf6_13 fo6_3 (ly32 hL) (lr32_3 hL)).trans ?_
  refine (at_iload_n dc187_50 rfl).trans ?_
  refine (at_iald dc187_51 (ly34 hL) i1).trans ?_
  exact at_icmp_le (t := 61) dc187_52 (by decide)
theorem b187_55 {X : pm_X} {d : Nat} {x1 : Int32} {g : pm_G} {iv : pm_V} (hL : pm_lay g) : pm_at X d 187 (55, [some (.ref 32), some (.int x1), none], [], g, iv) = pm_then X d 187 60 [some (.ref 32), some (.int x1), none] [] (pm_c X d 131 [.ref 32, .int 2] g iv) := by
  refine (at_aload_n dc187_55 rfl).trans ?_
  refine (at_iconst (v := 2) dc187_56 rfl).trans ?_
  exact at_inv dc187_57 mc187 lm6_71 rfl rfl (Nat.le_of_ble_eq_true rfl) (Or.inl ⟨(ly32 hL), by decide⟩)
theorem b187_60 {X : pm_X} {d : Nat} {x1 : Int32} {s0 : Int32} {g : pm_G} {iv : pm_V}  : pm_at X d 187 (60, [some (.ref 32), some (.int x1), none], [.int s0], g, iv) = some (some (.int s0), g, iv) := by
  exact at_iret dc187_60 mr187
theorem b187_61 {X : pm_X} {d : Nat} {x1 : Int32} {g : pm_G} {iv : pm_V}  : pm_at X d 187 (61, [some (.ref 32), some (.int x1), none], [], g, iv) = pm_at X d 187 (63, [some (.ref 32), some (.int x1), some (.int 0)], [], g, iv) := by
  refine (at_iconst (v := 0) dc187_61 rfl).trans ?_
  refine (at_istore_n dc187_62 rfl).trans ?_
  rfl
theorem b187_63 {X : pm_X} {d : Nat} {x1 : Int32} {x2 : Int32} {g : pm_G} {iv : pm_V} (hL : pm_lay g) : pm_at X d 187 (63, [some (.ref 32), some (.int x1), some (.int x2)], [], g, iv) = if (iv 36 3) ≤ x2 then pm_at X d 187 (110, [some (.ref 32), some (.int x1), some (.int x2)], [], g, iv) else pm_at X d 187 (73, [some (.ref 32), some (.int x1), some (.int x2)], [], g, iv) := by
  refine (at_iload_n dc187_63 rfl).trans ?_
  refine (at_aload_n dc187_64 rfl).trans ?_
  refine (at_gfR dc187_65 mc187 lf6_19 fo6_5 (ly32 hL) (lr32_5 hL)).trans ?_
  refine (at_iconst (v := 3) dc187_68 rfl).trans ?_
  refine (at_iald dc187_69 (ly36 hL) (vp_in_nI (n := 3) (by decide) (by decide))).trans ?_
  exact at_icmp_ge (t := 110) dc187_70 (by decide)
theorem b187_73 {X : pm_X} {d : Nat} {x1 : Int32} {x2 : Int32} {g : pm_G} {iv : pm_V} (hL : pm_lay g) (i1 : vp_in (((40 * x1) + x2)) 320) : pm_at X d 187 (73, [some (.ref 32), some (.int x1), some (.int x2)], [], g, iv) = pm_then X d 187 98 [some (.ref 32), some (.int x1), some (.int x2)] [] (pm_c X d 130 [.long ((iv 35 (((40 * x1) + x2) : Int32).toNatClampNeg) : Int32).toInt64, .long 0, .long (((iv 36 1) - 1) : Int32).toInt64] g iv) := by
  refine (at_aload_n dc187_73 rfl).trans ?_
  refine (at_gfR dc187_74 mc187 lf6_16 fo6_4 (ly32 hL) (lr32_4 hL)).trans ?_
  refine (at_bipush (v := 40) dc187_77 (by decide)).trans ?_
  refine (at_iload_n dc187_79 rfl).trans ?_
  refine (at_imul dc187_80).trans ?_
  refine (at_iload_n dc187_81 rfl).trans ?_
  refine (at_iadd dc187_82).trans ?_
  refine (at_iald dc187_83 (ly35 hL) i1).trans ?_
  refine (at_i2l dc187_84).trans ?_
  refine (at_lconst (v := 0) dc187_85 (by decide)).trans ?_
  refine (at_aload_n dc187_86 rfl).trans ?_
  refine (at_gfR dc187_87 mc187 lf6_19 fo6_5 (ly32 hL) (lr32_5 hL)).trans ?_
  refine (at_iconst (v := 1) dc187_90 rfl).trans ?_
  refine (at_iald dc187_91 (ly36 hL) (vp_in_nI (n := 1) (by decide) (by decide))).trans ?_
  refine (at_iconst (v := 1) dc187_92 rfl).trans ?_
  refine (at_isub dc187_93).trans ?_
  refine (at_i2l dc187_94).trans ?_
  exact at_ins dc187_95 mc187 lm6_60 (Nat.le_of_ble_eq_true rfl) rfl rfl (Nat.le_of_ble_eq_true rfl)
theorem b187_98 {X : pm_X} {d : Nat} {x1 : Int32} {x2 : Int32} {s0 : Int32} {g : pm_G} {iv : pm_V}  : pm_at X d 187 (98, [some (.ref 32), some (.int x1), some (.int x2)], [.int s0], g, iv) = if ¬ s0 = 0 then pm_at X d 187 (104, [some (.ref 32), some (.int x1), some (.int x2)], [], g, iv) else pm_at X d 187 (101, [some (.ref 32), some (.int x1), some (.int x2)], [], g, iv) := by
  exact at_if_ne (t := 104) dc187_98 (by decide)
theorem b187_101 {X : pm_X} {d : Nat} {x1 : Int32} {x2 : Int32} {g : pm_G} {iv : pm_V}  : pm_at X d 187 (101, [some (.ref 32), some (.int x1), some (.int x2)], [], g, iv) = some (some (.int (-1000001)), g, iv) := by
  refine (at_ldc dc187_101 mc187 lk6_70).trans ?_
  exact at_iret dc187_103 mr187
theorem b187_104 {X : pm_X} {d : Nat} {x1 : Int32} {x2 : Int32} {g : pm_G} {iv : pm_V}  : pm_at X d 187 (104, [some (.ref 32), some (.int x1), some (.int x2)], [], g, iv) = pm_at X d 187 (63, [some (.ref 32), some (.int x1), some (.int (x2 + 1))], [], g, iv) := by
  refine (at_iinc (v := 1) dc187_104 rfl (by decide) rfl).trans ?_
  refine (at_goto (t := 63) dc187_107 (by decide)).trans ?_
  rfl
theorem b187_110 {X : pm_X} {d : Nat} {x1 : Int32} {x2 : Int32} {g : pm_G} {iv : pm_V} (hL : pm_lay g) : pm_at X d 187 (110, [some (.ref 32), some (.int x1), some (.int x2)], [], g, iv) = pm_at X d 187 (117, [some (.ref 32), some (.int x1), some (.int 0)], [], g, (pm_iw iv 32 1 0)) := by
  refine (at_aload_n dc187_110 rfl).trans ?_
  refine (at_iconst (v := 0) dc187_111 rfl).trans ?_
  refine (at_pfI dc187_112 mc187 lf6_54 po6_1 (ly32 hL)).trans ?_
  refine (at_iconst (v := 0) dc187_115 rfl).trans ?_
  refine (at_istore_n dc187_116 rfl).trans ?_
  rfl
theorem b187_117 {X : pm_X} {d : Nat} {x1 : Int32} {x2 : Int32} {g : pm_G} {iv : pm_V} (hL : pm_lay g) : pm_at X d 187 (117, [some (.ref 32), some (.int x1), some (.int x2)], [], g, iv) = if (1 <<< ((iv 36 3) &&& 31)) ≤ x2 then pm_at X d 187 (146, [some (.ref 32), some (.int x1), some (.int x2)], [], g, iv) else pm_at X d 187 (129, [some (.ref 32), some (.int x1), some (.int x2)], [], g, iv) := by
  refine (at_iload_n dc187_117 rfl).trans ?_
  refine (at_iconst (v := 1) dc187_118 rfl).trans ?_
  refine (at_aload_n dc187_119 rfl).trans ?_
  refine (at_gfR dc187_120 mc187 lf6_19 fo6_5 (ly32 hL) (lr32_5 hL)).trans ?_
  refine (at_iconst (v := 3) dc187_123 rfl).trans ?_
  refine (at_iald dc187_124 (ly36 hL) (vp_in_nI (n := 3) (by decide) (by decide))).trans ?_
  refine (at_ishl dc187_125).trans ?_
  exact at_icmp_ge (t := 146) dc187_126 (by decide)
theorem b187_129 {X : pm_X} {d : Nat} {x1 : Int32} {x2 : Int32} {g : pm_G} {iv : pm_V} (hL : pm_lay g) : pm_at X d 187 (129, [some (.ref 32), some (.int x1), some (.int x2)], [], g, iv) = pm_then X d 187 135 [some (.ref 32), some (.int x1), some (.int x2)] [] (pm_c X d 188 [.ref 32, .int x1, .int x2] g iv) := by
  refine (at_aload_n dc187_129 rfl).trans ?_
  refine (at_iload_n dc187_130 rfl).trans ?_
  refine (at_iload_n dc187_131 rfl).trans ?_
  exact at_inv dc187_132 mc187 lm6_250 rfl rfl (Nat.le_of_ble_eq_true rfl) (Or.inl ⟨(ly32 hL), by decide⟩)
theorem b187_135 {X : pm_X} {d : Nat} {x1 : Int32} {x2 : Int32} {s0 : Int32} {g : pm_G} {iv : pm_V}  : pm_at X d 187 (135, [some (.ref 32), some (.int x1), some (.int x2)], [.int s0], g, iv) = if s0 = 0 then pm_at X d 187 (140, [some (.ref 32), some (.int x1), some (.int x2)], [], g, iv) else pm_at X d 187 (138, [some (.ref 32), some (.int x1), some (.int x2)], [], g, iv) := by
  exact at_if_eq (t := 140) dc187_135 (by decide)
theorem b187_138 {X : pm_X} {d : Nat} {x1 : Int32} {x2 : Int32} {g : pm_G} {iv : pm_V}  : pm_at X d 187 (138, [some (.ref 32), some (.int x1), some (.int x2)], [], g, iv) = some (some (.int x2), g, iv) := by
  refine (at_iload_n dc187_138 rfl).trans ?_
  exact at_iret dc187_139 mr187
theorem b187_140 {X : pm_X} {d : Nat} {x1 : Int32} {x2 : Int32} {g : pm_G} {iv : pm_V}  : pm_at X d 187 (140, [some (.ref 32), some (.int x1), some (.int x2)], [], g, iv) = pm_at X d 187 (117, [some (.ref 32), some (.int x1), some (.int (x2 + 1))], [], g, iv) := by
  refine (at_iinc (v := 1) dc187_140 rfl (by decide) rfl).trans ?_
  refine (at_goto (t := 117) dc187_143 (by decide)).trans ?_
  rfl
theorem b187_146 {X : pm_X} {d : Nat} {x1 : Int32} {x2 : Int32} {g : pm_G} {iv : pm_V}  : pm_at X d 187 (146, [some (.ref 32), some (.int x1), some (.int x2)], [], g, iv) = some (some (.int (-1000000)), g, iv) := by
  refine (at_ldc dc187_146 mc187 lk6_86).trans ?_
  exact at_iret dc187_148 mr187
-- Mod.comesSo (II)Z
theorem dc188_0 : decode (pm_mb 188) 0 = .ok (.aload_n 0, 1) := by decide +kernel
theorem dc188_1 : decode (pm_mb 188) 1 = .ok (.invokevirtual 213, 3) := by decide +kernel
theorem dc188_4 : decode (pm_mb 188) 4 = .ok (.iconst 1, 1) := by decide +kernel
theorem dc188_5 : decode (pm_mb 188) 5 = .ok (.istore_n 3, 1) := by decide +kernel
theorem dc188_6 : decode (pm_mb 188) 6 = .ok (.iconst 0, 1) := by decide +kernel
theorem dc188_7 : decode (pm_mb 188) 7 = .ok (.istore 4, 2) := by decide +kernel
theorem dc188_9 : decode (pm_mb 188) 9 = .ok (.iload 4, 2) := by decide +kernel
theorem dc188_11 : decode (pm_mb 188) 11 = .ok (.aload_n 0, 1) := by decide +kernel
theorem dc188_12 : decode (pm_mb 188) 12 = .ok (.getfield 19, 3) := by decide +kernel
theorem dc188_15 : decode (pm_mb 188) 15 = .ok (.iconst 3, 1) := by decide +kernel
theorem dc188_16 : decode (pm_mb 188) 16 = .ok (.iaload, 1) := by decide +kernel
theorem dc188_17 : decode (pm_mb 188) 17 = .ok (.if_icmp .ge 67, 3) := by decide +kernel
theorem dc188_20 : decode (pm_mb 188) 20 = .ok (.iload_n 3, 1) := by decide +kernel
theorem dc188_21 : decode (pm_mb 188) 21 = .ok (.ifCond .eq 27, 3) := by decide +kernel
theorem dc188_24 : decode (pm_mb 188) 24 = .ok (.iload_n 2, 1) := by decide +kernel
theorem dc188_25 : decode (pm_mb 188) 25 = .ok (.iload 4, 2) := by decide +kernel
theorem dc188_27 : decode (pm_mb 188) 27 = .ok (.ishr, 1) := by decide +kernel
theorem dc188_28 : decode (pm_mb 188) 28 = .ok (.iconst 1, 1) := by decide +kernel
theorem dc188_29 : decode (pm_mb 188) 29 = .ok (.iand, 1) := by decide +kernel
theorem dc188_30 : decode (pm_mb 188) 30 = .ok (.ifCond .eq 14, 3) := by decide +kernel
theorem dc188_33 : decode (pm_mb 188) 33 = .ok (.aload_n 0, 1) := by decide +kernel
theorem dc188_34 : decode (pm_mb 188) 34 = .ok (.getfield 34, 3) := by decide +kernel
theorem dc188_37 : decode (pm_mb 188) 37 = .ok (.iload 4, 2) := by decide +kernel
theorem dc188_39 : decode (pm_mb 188) 39 = .ok (.iaload, 1) := by decide +kernel
theorem dc188_40 : decode (pm_mb 188) 40 = .ok (.iconst 1, 1) := by decide +kernel
theorem dc188_41 : decode (pm_mb 188) 41 = .ok (.if_icmp .ne 7, 3) := by decide +kernel
theorem dc188_44 : decode (pm_mb 188) 44 = .ok (.iconst 1, 1) := by decide +kernel
theorem dc188_45 : decode (pm_mb 188) 45 = .ok (.goto 4, 3) := by decide +kernel
theorem dc188_48 : decode (pm_mb 188) 48 = .ok (.iconst 0, 1) := by decide +kernel
theorem dc188_49 : decode (pm_mb 188) 49 = .ok (.istore_n 3, 1) := by decide +kernel
theorem dc188_50 : decode (pm_mb 188) 50 = .ok (.aload_n 0, 1) := by decide +kernel
theorem dc188_51 : decode (pm_mb 188) 51 = .ok (.getfield 34, 3) := by decide +kernel
theorem dc188_54 : decode (pm_mb 188) 54 = .ok (.iload 4, 2) := by decide +kernel
theorem dc188_56 : decode (pm_mb 188) 56 = .ok (.iload_n 2, 1) := by decide +kernel
theorem dc188_57 : decode (pm_mb 188) 57 = .ok (.iload 4, 2) := by decide +kernel
theorem dc188_59 : decode (pm_mb 188) 59 = .ok (.ishr, 1) := by decide +kernel
theorem dc188_60 : decode (pm_mb 188) 60 = .ok (.iconst 1, 1) := by decide +kernel
theorem dc188_61 : decode (pm_mb 188) 61 = .ok (.iand, 1) := by decide +kernel
theorem dc188_62 : decode (pm_mb 188) 62 = .ok (.iconst 1, 1) := by decide +kernel
theorem dc188_63 : decode (pm_mb 188) 63 = .ok (.if_icmp .ne 7, 3) := by decide +kernel
theorem dc188_66 : decode (pm_mb 188) 66 = .ok (.iconst 0, 1) := by decide +kernel
theorem dc188_67 : decode (pm_mb 188) 67 = .ok (.goto 10, 3) := by decide +kernel
theorem dc188_70 : decode (pm_mb 188) 70 = .ok (.aload_n 0, 1) := by decide +kernel
theorem dc188_71 : decode (pm_mb 188) 71 = .ok (.getfield 34, 3) := by decide +kernel
theorem dc188_74 : decode (pm_mb 188) 74 = .ok (.iload 4, 2) := by decide +kernel
theorem dc188_76 : decode (pm_mb 188) 76 = .ok (.iaload, 1) := by decide +kernel
theorem dc188_77 : decode (pm_mb 188) 77 = .ok (.iastore, 1) := by decide +kernel
theorem dc188_78 : decode (pm_mb 188) 78 = .ok (.iinc 4 1, 3) := by decide +kernel
theorem dc188_81 : decode (pm_mb 188) 81 = .ok (.goto (-72), 3) := by decide +kernel
theorem dc188_84 : decode (pm_mb 188) 84 = .ok (.aload_n 0, 1) := by decide +kernel
theorem dc188_85 : decode (pm_mb 188) 85 = .ok (.aload_n 0, 1) := by decide +kernel
theorem dc188_86 : decode (pm_mb 188) 86 = .ok (.getfield 19, 3) := by decide +kernel
theorem dc188_89 : decode (pm_mb 188) 89 = .ok (.iconst 4, 1) := by decide +kernel
theorem dc188_90 : decode (pm_mb 188) 90 = .ok (.iaload, 1) := by decide +kernel
theorem dc188_91 : decode (pm_mb 188) 91 = .ok (.invokevirtual 216, 3) := by decide +kernel
theorem dc188_94 : decode (pm_mb 188) 94 = .ok (.iconst 0, 1) := by decide +kernel
theorem dc188_95 : decode (pm_mb 188) 95 = .ok (.istore 4, 2) := by decide +kernel
theorem dc188_97 : decode (pm_mb 188) 97 = .ok (.iload 4, 2) := by decide +kernel
theorem dc188_99 : decode (pm_mb 188) 99 = .ok (.aload_n 0, 1) := by decide +kernel
theorem dc188_100 : decode (pm_mb 188) 100 = .ok (.getfield 19, 3) := by decide +kernel
theorem dc188_103 : decode (pm_mb 188) 103 = .ok (.iconst 3, 1) := by decide +kernel
theorem dc188_104 : decode (pm_mb 188) 104 = .ok (.iaload, 1) := by decide +kernel
theorem dc188_105 : decode (pm_mb 188) 105 = .ok (.if_icmp .ge 41, 3) := by decide +kernel
theorem dc188_108 : decode (pm_mb 188) 108 = .ok (.iload_n 3, 1) := by decide +kernel
theorem dc188_109 : decode (pm_mb 188) 109 = .ok (.ifCond .eq 29, 3) := by decide +kernel
theorem dc188_112 : decode (pm_mb 188) 112 = .ok (.aload_n 0, 1) := by decide +kernel
theorem dc188_113 : decode (pm_mb 188) 113 = .ok (.getfield 31, 3) := by decide +kernel
theorem dc188_116 : decode (pm_mb 188) 116 = .ok (.iload 4, 2) := by decide +kernel
theorem dc188_118 : decode (pm_mb 188) 118 = .ok (.iaload, 1) := by decide +kernel
theorem dc188_119 : decode (pm_mb 188) 119 = .ok (.aload_n 0, 1) := by decide +kernel
theorem dc188_120 : decode (pm_mb 188) 120 = .ok (.getfield 16, 3) := by decide +kernel
theorem dc188_123 : decode (pm_mb 188) 123 = .ok (.bipush 40, 2) := by decide +kernel
theorem dc188_125 : decode (pm_mb 188) 125 = .ok (.iload_n 1, 1) := by decide +kernel
theorem dc188_126 : decode (pm_mb 188) 126 = .ok (.imul, 1) := by decide +kernel
theorem dc188_127 : decode (pm_mb 188) 127 = .ok (.iload 4, 2) := by decide +kernel
theorem dc188_129 : decode (pm_mb 188) 129 = .ok (.iadd, 1) := by decide +kernel
theorem dc188_130 : decode (pm_mb 188) 130 = .ok (.iaload, 1) := by decide +kernel
theorem dc188_131 : decode (pm_mb 188) 131 = .ok (.if_icmp .ne 7, 3) := by decide +kernel
theorem dc188_134 : decode (pm_mb 188) 134 = .ok (.iconst 1, 1) := by decide +kernel
theorem dc188_135 : decode (pm_mb 188) 135 = .ok (.goto 4, 3) := by decide +kernel
theorem dc188_138 : decode (pm_mb 188) 138 = .ok (.iconst 0, 1) := by decide +kernel
theorem dc188_139 : decode (pm_mb 188) 139 = .ok (.istore_n 3, 1) := by decide +kernel
theorem dc188_140 : decode (pm_mb 188) 140 = .ok (.iinc 4 1, 3) := by decide +kernel
theorem dc188_143 : decode (pm_mb 188) 143 = .ok (.goto (-46), 3) := by decide +kernel
theorem dc188_146 : decode (pm_mb 188) 146 = .ok (.iload_n 3, 1) := by decide +kernel
theorem dc188_147 : decode (pm_mb 188) 147 = .ok (.ireturn, 1) := by decide +kernel
theorem b188_0 {X : pm_X} {d : Nat} {x1 : Int32} {x2 : Int32} {g : pm_G} {iv : pm_V} (hL : pm_lay g) : pm_at X d 188 (0, [some (.ref 32), some (.int x1), some (.int x2), none, none], [], g, iv) = pm_then X d 188 4 [some (.ref 32), some (.int x1), some (.int x2), none, none] [] (pm_c X d 161 [.ref 32] g iv) := by
  refine (at_aload_n dc188_0 rfl).trans ?_
  exact at_inv dc188_1 mc188 lm6_213 rfl rfl (Nat.le_of_ble_eq_true rfl) (Or.inl ⟨(ly32 hL), by decide⟩)
theorem b188_4 {X : pm_X} {d : Nat} {x1 : Int32} {x2 : Int32} {g : pm_G} {iv : pm_V}  : pm_at X d 188 (4, [some (.ref 32), some (.int x1), some (.int x2), none, none], [], g, iv) = pm_at X d 188 (9, [some (.ref 32), some (.int x1), some (.int x2), some (.int 1), some (.int 0)], [], g, iv) := by
  refine (at_iconst (v := 1) dc188_4 rfl).trans ?_
  refine (at_istore_n dc188_5 rfl).trans ?_
  refine (at_iconst (v := 0) dc188_6 rfl).trans ?_
  refine (at_istore dc188_7 rfl).trans ?_
  rfl
theorem b188_9 {X : pm_X} {d : Nat} {x1 : Int32} {x2 : Int32} {x3 : Int32} {x4 : Int32} {g : pm_G} {iv : pm_V} (hL : pm_lay g) : pm_at X d 188 (9, [some (.ref 32), some (.int x1), some (.int x2), some (.int x3), some (.int x4)], [], g, iv) = if (iv 36 3) ≤ x4 then pm_at X d 188 (84, [some (.ref 32), some (.int x1), some (.int x2), some (.int x3), some (.int x4)], [], g, iv) else pm_at X d 188 (20, [some (.ref 32), some (.int x1), some (.int x2), some (.int x3), some (.int x4)], [], g, iv) := by
  refine (at_iload dc188_9 rfl).trans ?_
  refine (at_aload_n dc188_11 rfl).trans ?_
  refine (at_gfR dc188_12 mc188 lf6_19 fo6_5 (ly32 hL) (lr32_5 hL)).trans ?_
  refine (at_iconst (v := 3) dc188_15 rfl).trans ?_
  refine (at_iald dc188_16 (ly36 hL) (vp_in_nI (n := 3) (by decide) (by decide))).trans ?_
  exact at_icmp_ge (t := 84) dc188_17 (by decide)
theorem b188_20 {X : pm_X} {d : Nat} {x1 : Int32} {x2 : Int32} {x3 : Int32} {x4 : Int32} {g : pm_G} {iv : pm_V}  : pm_at X d 188 (20, [some (.ref 32), some (.int x1), some (.int x2), some (.int x3), some (.int x4)], [], g, iv) = if x3 = 0 then pm_at X d 188 (48, [some (.ref 32), some (.int x1), some (.int x2), some (.int x3), some (.int x4)], [], g, iv) else pm_at X d 188 (24, [some (.ref 32), some (.int x1), some (.int x2), some (.int x3), some (.int x4)], [], g, iv) := by
  refine (at_iload_n dc188_20 rfl).trans ?_
  exact at_if_eq (t := 48) dc188_21 (by decide)
theorem b188_24 {X : pm_X} {d : Nat} {x1 : Int32} {x2 : Int32} {x3 : Int32} {x4 : Int32} {g : pm_G} {iv : pm_V}  : pm_at X d 188 (24, [some (.ref 32), some (.int x1), some (.int x2), some (.int x3), some (.int x4)], [], g, iv) = if ((x2 >>> (x4 &&& 31)) &&& 1) = 0 then pm_at X d 188 (44, [some (.ref 32), some (.int x1), some (.int x2), some (.int x3), some (.int x4)], [], g, iv) else pm_at X d 188 (33, [some (.ref 32), some (.int x1), some (.int x2), some (.int x3), some (.int x4)], [], g, iv) := by
  refine (at_iload_n dc188_24 rfl).trans ?_
  refine (at_iload dc188_25 rfl).trans ?_
  refine (at_ishr dc188_27).trans ?_
  refine (at_iconst (v := 1) dc188_28 rfl).trans ?_
  refine (at_iand dc188_29).trans ?_
  exact at_if_eq (t := 44) dc188_30 (by decide)
theorem b188_33 {X : pm_X} {d : Nat} {x1 : Int32} {x2 : Int32} {x3 : Int32} {x4 : Int32} {g : pm_G} {iv : pm_V} (hL : pm_lay g) (i1 : vp_in x4 6) : pm_at X d 188 (33, [some (.ref 32), some (.int x1), some (.int x2), some (.int x3), some (.int x4)], [], g, iv) = if ¬ (iv 41 (x4 : Int32).toNatClampNeg) = 1 then pm_at X d 188 (48, [some (.ref 32), some (.int x1), some (.int x2), some (.int x3), some (.int x4)], [], g, iv) else pm_at X d 188 (44, [some (.ref 32), some (.int x1), some (.int x2), some (.int x3), some (.int x4)], [], g, iv) := by
  refine (at_aload_n dc188_33 rfl).trans ?_
  refine (at_gfR dc188_34 mc188 lf6_34 fo6_20 (ly32 hL) (lr32_20 hL)).trans ?_
  refine (at_iload dc188_37 rfl).trans ?_
  refine (at_iald dc188_39 (ly41 hL) i1).trans ?_
  refine (at_iconst (v := 1) dc188_40 rfl).trans ?_
  exact at_icmp_ne (t := 48) dc188_41 (by decide)
theorem b188_44 {X : pm_X} {d : Nat} {x1 : Int32} {x2 : Int32} {x3 : Int32} {x4 : Int32} {g : pm_G} {iv : pm_V}  : pm_at X d 188 (44, [some (.ref 32), some (.int x1), some (.int x2), some (.int x3), some (.int x4)], [], g, iv) = pm_at X d 188 (49, [some (.ref 32), some (.int x1), some (.int x2), some (.int x3), some (.int x4)], [.int 1], g, iv) := by
  refine (at_iconst (v := 1) dc188_44 rfl).trans ?_
  refine (at_goto (t := 49) dc188_45 (by decide)).trans ?_
  rfl
theorem b188_48 {X : pm_X} {d : Nat} {x1 : Int32} {x2 : Int32} {x3 : Int32} {x4 : Int32} {g : pm_G} {iv : pm_V}  : pm_at X d 188 (48, [some (.ref 32), some (.int x1), some (.int x2), some (.int x3), some (.int x4)], [], g, iv) = pm_at X d 188 (49, [some (.ref 32), some (.int x1), some (.int x2), some (.int x3), some (.int x4)], [.int 0], g, iv) := by
  refine (at_iconst (v := 0) dc188_48 rfl).trans ?_
  rfl
theorem b188_49 {X : pm_X} {d : Nat} {x1 : Int32} {x2 : Int32} {x3 : Int32} {x4 : Int32} {s0 : Int32} {g : pm_G} {iv : pm_V} (hL : pm_lay g) : pm_at X d 188 (49, [some (.ref 32), some (.int x1), some (.int x2), some (.int x3), some (.int x4)], [.int s0], g, iv) = if ¬ ((x2 >>> (x4 &&& 31)) &&& 1) = 1 then pm_at X d 188 (70, [some (.ref 32), some (.int x1), some (.int x2), some (.int s0), some (.int x4)], [.int x4, .ref 41], g, iv) else pm_at X d 188 (66, [some (.ref 32), some (.int x1), some (.int x2), some (.int s0), some (.int x4)], [.int x4, .ref 41], g, iv) := by
  refine (at_istore_n dc188_49 rfl).trans ?_
  refine (at_aload_n dc188_50 rfl).trans ?_
  refine (at_gfR dc188_51 mc188 lf6_34 fo6_20 (ly32 hL) (lr32_20 hL)).trans ?_
  refine (at_iload dc188_54 rfl).trans ?_
  refine (at_iload_n dc188_56 rfl).trans ?_
  refine (at_iload dc188_57 rfl).trans ?_
  refine (at_ishr dc188_59).trans ?_
  refine (at_iconst (v := 1) dc188_60 rfl).trans ?_
  refine (at_iand dc188_61).trans ?_
  refine (at_iconst (v := 1) dc188_62 rfl).trans ?_
  exact at_icmp_ne (t := 70) dc188_63 (by decide)
theorem b188_66 {X : pm_X} {d : Nat} {x1 : Int32} {x2 : Int32} {x3 : Int32} {x4 : Int32} {s0 : Int32} {g : pm_G} {iv : pm_V}  : pm_at X d 188 (66, [some (.ref 32), some (.int x1), some (.int x2), some (.int x3), some (.int x4)], [.int s0, .ref 41], g, iv) = pm_at X d 188 (77, [some (.ref 32), some (.int x1), some (.int x2), some (.int x3), some (.int x4)], [.int 0, .int s0, .ref 41], g, iv) := by
  refine (at_iconst (v := 0) dc188_66 rfl).trans ?_
  refine (at_goto (t := 77) dc188_67 (by decide)).trans ?_
  rfl
theorem b188_70 {X : pm_X} {d : Nat} {x1 : Int32} {x2 : Int32} {x3 : Int32} {x4 : Int32} {s0 : Int32} {g : pm_G} {iv : pm_V} (hL : pm_lay g) (i1 : vp_in x4 6) : pm_at X d 188 (70, [some (.ref 32), some (.int x1), some (.int x2), some (.int x3), some (.int x4)], [.int s0, .ref 41], g, iv) = pm_at X d 188 (77, [some (.ref 32), some (.int x1), some (.int x2), some (.int x3), some (.int x4)], [.int (iv 41 (x4 : Int32).toNatClampNeg), .int s0, .ref 41], g, iv) := by
  refine (at_aload_n dc188_70 rfl).trans ?_
  refine (at_gfR dc188_71 mc188 lf6_34 fo6_20 (ly32 hL) (lr32_20 hL)).trans ?_
  refine (at_iload dc188_74 rfl).trans ?_
  refine (at_iald dc188_76 (ly41 hL) i1).trans ?_
  rfl
theorem b188_77 {X : pm_X} {d : Nat} {x1 : Int32} {x2 : Int32} {x3 : Int32} {x4 : Int32} {s0 : Int32} {s1 : Int32} {g : pm_G} {iv : pm_V} (hL : pm_lay g) (i1 : vp_in s1 6) : pm_at X d 188 (77, [some (.ref 32), some (.int x1), some (.int x2), some (.int x3), some (.int x4)], [.int s0, .int s1, .ref 41], g, iv) = pm_at X d 188 (9, [some (.ref 32), some (.int x1), some (.int x2), some (.int x3), some (.int (x4 + 1))], [], g, (pm_iw iv 41 (s1 : Int32).toNatClampNeg s0)) := by
  refine (at_iast dc188_77 (ly41 hL) i1).trans ?_
  refine (at_iinc (v := 1) dc188_78 rfl (by decide) rfl).trans ?_
  refine (at_goto (t := 9) dc188_81 (by decide)).trans ?_
  rfl
theorem b188_84 {X : pm_X} {d : Nat} {x1 : Int32} {x2 : Int32} {x3 : Int32} {x4 : Int32} {g : pm_G} {iv : pm_V} (hL : pm_lay g) : pm_at X d 188 (84, [some (.ref 32), some (.int x1), some (.int x2), some (.int x3), some (.int x4)], [], g, iv) = pm_then X d 188 94 [some (.ref 32), some (.int x1), some (.int x2), some (.int x3), some (.int x4)] [] (pm_c X d 166 [.ref 32, .int (iv 36 4)] g iv) := by
  refine (at_aload_n dc188_84 rfl).trans ?_
  refine (at_aload_n dc188_85 rfl).trans ?_
  refine (at_gfR dc188_86 mc188 lf6_19 fo6_5 (ly32 hL) (lr32_5 hL)).trans ?_
  refine (at_iconst (v := 4) dc188_89 rfl).trans ?_
  refine (at_iald dc188_90 (ly36 hL) (vp_in_nI (n := 4) (by decide) (by decide))).trans ?_
  exact at_inv dc188_91 mc188 lm6_216 rfl rfl (Nat.le_of_ble_eq_true rfl) (Or.inl ⟨(ly32 hL), by decide⟩)
theorem b188_94 {X : pm_X} {d : Nat} {x1 : Int32} {x2 : Int32} {x3 : Int32} {x4 : Int32} {g : pm_G} {iv : pm_V}  : pm_at X d 188 (94, [some (.ref 32), some (.int x1), some (.int x2), some (.int x3), some (.int x4)], [], g, iv) = pm_at X d 188 (97, [some (.ref 32), some (.int x1), some (.int x2), some (.int x3), some (.int 0)], [], g, iv) := by
  refine (at_iconst (v := 0) dc188_94 rfl).trans ?_
  refine (at_istore dc188_95 rfl).trans ?_
  rfl
theorem b188_97 {X : pm_X} {d : Nat} {x1 : Int32} {x2 : Int32} {x3 : Int32} {x4 : Int32} {g : pm_G} {iv : pm_V} (hL : pm_lay g) : pm_at X d 188 (97, [some (.ref 32), some (.int x1), some (.int x2), some (.int x3), some (.int x4)], [], g, iv) = if (iv 36 3) ≤ x4 then pm_at X d 188 (146, [some (.ref 32), some (.int x1), some (.int x2), some (.int x3), some (.int x4)], [], g, iv) else pm_at X d 188 (108, [some (.ref 32), some (.int x1), some (.int x2), some (.int x3), some (.int x4)], [], g, iv) := by
  refine (at_iload dc188_97 rfl).trans ?_
  refine (at_aload_n dc188_99 rfl).trans ?_
  refine (at_gfR dc188_100 mc188 lf6_19 fo6_5 (ly32 hL) (lr32_5 hL)).trans ?_
  refine (at_iconst (v := 3) dc188_103 rfl).trans ?_
  refine (at_iald dc188_104 (ly36 hL) (vp_in_nI (n := 3) (by decide) (by decide))).trans ?_
  exact at_icmp_ge (t := 146) dc188_105 (by decide)
theorem b188_108 {X : pm_X} {d : Nat} {x1 : Int32} {x2 : Int32} {x3 : Int32} {x4 : Int32} {g : pm_G} {iv : pm_V}  : pm_at X d 188 (108, [some (.ref 32), some (.int x1), some (.int x2), some (.int x3), some (.int x4)], [], g, iv) = if x3 = 0 then pm_at X d 188 (138, [some (.ref 32), some (.int x1), some (.int x2), some (.int x3), some (.int x4)], [], g, iv) else pm_at X d 188 (112, [some (.ref 32), some (.int x1), some (.int x2), some (.int x3), some (.int x4)], [], g, iv) := by
  refine (at_iload_n dc188_108 rfl).trans ?_
  exact at_if_eq (t := 138) dc188_109 (by decide)
theorem b188_112 {X : pm_X} {d : Nat} {x1 : Int32} {x2 : Int32} {x3 : Int32} {x4 : Int32} {g : pm_G} {iv : pm_V} (hL : pm_lay g) (i1 : vp_in x4 6) (i2 : vp_in (((40 * x1) + x4)) 320) : pm_at X d 188 (112, [some (.ref 32), some (.int x1), some (.int x2), some (.int x3), some (.int x4)], [], g, iv) = if ¬ (iv 40 (x4 : Int32).toNatClampNeg) = (iv 35 (((40 * x1) + x4) : Int32).toNatClampNeg) then pm_at X d 188 (138, [some (.ref 32), some (.int x1), some (.int x2), some (.int x3), some (.int x4)], [], g, iv) else pm_at X d 188 (134, [some (.ref 32), some (.int x1), some (.int x2), some (.int x3), some (.int x4)], [], g, iv) := by
  refine (at_aload_n dc188_112 rfl).trans ?_
  refine (at_gfR dc188_113 mc188 lf6_31 fo6_19 (ly32 hL) (lr32_19 hL)).trans ?_
  refine (at_iload dc188_116 rfl).trans ?_
  refine (at_iald dc188_118 (ly40 hL) i1).trans ?_
  refine (at_aload_n dc188_119 rfl).trans ?_
  refine (at_gfR dc188_120 mc188 lf6_16 fo6_4 (ly32 hL) (lr32_4 hL)).trans ?_
  refine (at_bipush (v := 40) dc188_123 (by decide)).trans ?_
  refine (at_iload_n dc188_125 rfl).trans ?_
  refine (at_imul dc188_126).trans ?_
  refine (at_iload dc188_127 rfl).trans ?_
  refine (at_iadd dc188_129).trans ?_
  refine (at_iald dc188_130 (ly35 hL) i2).trans ?_
  exact at_icmp_ne (t := 138) dc188_131 (by decide)
theorem b188_134 {X : pm_X} {d : Nat} {x1 : Int32} {x2 : Int32} {x3 : Int32} {x4 : Int32} {g : pm_G} {iv : pm_V}  : pm_at X d 188 (134, [some (.ref 32), some (.int x1), some (.int x2), some (.int x3), some (.int x4)], [], g, iv) = pm_at X d 188 (139, [some (.ref 32), some (.int x1), some (.int x2), some (.int x3), some (.int x4)], [.int 1], g, iv) := by
  refine (at_iconst (v := 1) dc188_134 rfl).trans ?_
  refine (at_goto (t := 139) dc188_135 (by decide)).trans ?_
  rfl
theorem b188_138 {X : pm_X} {d : Nat} {x1 : Int32} {x2 : Int32} {x3 : Int32} {x4 : Int32} {g : pm_G} {iv : pm_V}  : pm_at X d 188 (138, [some (.ref 32), some (.int x1), some (.int x2), some (.int x3), some (.int x4)], [], g, iv) = pm_at X d 188 (139, [some (.ref 32), some (.int x1), some (.int x2), some (.int x3), some (.int x4)], [.int 0], g, iv) := by
  refine (at_iconst (v := 0) dc188_138 rfl).trans ?_
  rfl
theorem b188_139 {X : pm_X} {d : Nat} {x1 : Int32} {x2 : Int32} {x3 : Int32} {x4 : Int32} {s0 : Int32} {g : pm_G} {iv : pm_V}  : pm_at X d 188 (139, [some (.ref 32), some (.int x1), some (.int x2), some (.int x3), some (.int x4)], [.int s0], g, iv) = pm_at X d 188 (97, [some (.ref 32), some (.int x1), some (.int x2), some (.int s0), some (.int (x4 + 1))], [], g, iv) := by
  refine (at_istore_n dc188_139 rfl).trans ?_
  refine (at_iinc (v := 1) dc188_140 rfl (by decide) rfl).trans ?_
  refine (at_goto (t := 97) dc188_143 (by decide)).trans ?_
  rfl
theorem b188_146 {X : pm_X} {d : Nat} {x1 : Int32} {x2 : Int32} {x3 : Int32} {x4 : Int32} {g : pm_G} {iv : pm_V}  : pm_at X d 188 (146, [some (.ref 32), some (.int x1), some (.int x2), some (.int x3), some (.int x4)], [], g, iv) = pm_zr x3 (some (some (.int x3), g, iv)) := by
  refine (at_iload_n dc188_146 rfl).trans ?_
  exact at_zretG dc188_147 mr188
-- Mod.image (I)I
theorem dc189_0 : decode (pm_mb 189) 0 = .ok (.aload_n 0, 1) := by decide +kernel
theorem dc189_1 : decode (pm_mb 189) 1 = .ok (.iconst 0, 1) := by decide +kernel
theorem dc189_2 : decode (pm_mb 189) 2 = .ok (.putfield 50, 3) := by decide +kernel
theorem dc189_5 : decode (pm_mb 189) 5 = .ok (.iload_n 1, 1) := by decide +kernel
theorem dc189_6 : decode (pm_mb 189) 6 = .ok (.i2l, 1) := by decide +kernel
theorem dc189_7 : decode (pm_mb 189) 7 = .ok (.lconst 0, 1) := by decide +kernel
theorem dc189_8 : decode (pm_mb 189) 8 = .ok (.lconst 1, 1) := by decide +kernel
theorem dc189_9 : decode (pm_mb 189) 9 = .ok (.invokestatic 60, 3) := by decide +kernel
theorem dc189_12 : decode (pm_mb 189) 12 = .ok (.ifCond .ne 6, 3) := by decide +kernel
theorem dc189_15 : decode (pm_mb 189) 15 = .ok (.ldc 70, 2) := by decide +kernel
theorem dc189_17 : decode (pm_mb 189) 17 = .ok (.ireturn, 1) := by decide +kernel
theorem dc189_18 : decode (pm_mb 189) 18 = .ok (.aload_n 0, 1) := by decide +kernel
theorem dc189_19 : decode (pm_mb 189) 19 = .ok (.invokevirtual 205, 3) := by decide +kernel
theorem dc189_22 : decode (pm_mb 189) 22 = .ok (.ifCond .ne 6, 3) := by decide +kernel
theorem dc189_25 : decode (pm_mb 189) 25 = .ok (.ldc 209, 2) := by decide +kernel
theorem dc189_27 : decode (pm_mb 189) 27 = .ok (.ireturn, 1) := by decide +kernel
theorem dc189_28 : decode (pm_mb 189) 28 = .ok (.iconst 0, 1) := by decide +kernel
theorem dc189_29 : decode (pm_mb 189) 29 = .ok (.istore_n 2, 1) := by decide +kernel
theorem dc189_30 : decode (pm_mb 189) 30 = .ok (.iload_n 2, 1) := by decide +kernel
theorem dc189_31 : decode (pm_mb 189) 31 = .ok (.bipush 45, 2) := by decide +kernel
theorem dc189_33 : decode (pm_mb 189) 33 = .ok (.if_icmp .ge 26, 3) := by decide +kernel
theorem dc189_36 : decode (pm_mb 189) 36 = .ok (.aload_n 0, 1) := by decide +kernel
theorem dc189_37 : decode (pm_mb 189) 37 = .ok (.getfield 44, 3) := by decide +kernel
theorem dc189_40 : decode (pm_mb 189) 40 = .ok (.bipush 45, 2) := by decide +kernel
theorem dc189_42 : decode (pm_mb 189) 42 = .ok (.iload_n 1, 1) := by decide +kernel
theorem dc189_43 : decode (pm_mb 189) 43 = .ok (.imul, 1) := by decide +kernel
theorem dc189_44 : decode (pm_mb 189) 44 = .ok (.iload_n 2, 1) := by decide +kernel
theorem dc189_45 : decode (pm_mb 189) 45 = .ok (.iadd, 1) := by decide +kernel
theorem dc189_46 : decode (pm_mb 189) 46 = .ok (.aload_n 0, 1) := by decide +kernel
theorem dc189_47 : decode (pm_mb 189) 47 = .ok (.getfield 19, 3) := by decide +kernel
theorem dc189_50 : decode (pm_mb 189) 50 = .ok (.iload_n 2, 1) := by decide +kernel
theorem dc189_51 : decode (pm_mb 189) 51 = .ok (.iaload, 1) := by decide +kernel
theorem dc189_52 : decode (pm_mb 189) 52 = .ok (.iastore, 1) := by decide +kernel
theorem dc189_53 : decode (pm_mb 189) 53 = .ok (.iinc 2 1, 3) := by decide +kernel
theorem dc189_56 : decode (pm_mb 189) 56 = .ok (.goto (-26), 3) := by decide +kernel
theorem dc189_59 : decode (pm_mb 189) 59 = .ok (.aload_n 0, 1) := by decide +kernel
theorem dc189_60 : decode (pm_mb 189) 60 = .ok (.getfield 40, 3) := by decide +kernel
theorem dc189_63 : decode (pm_mb 189) 63 = .ok (.iload_n 1, 1) := by decide +kernel
theorem dc189_64 : decode (pm_mb 189) 64 = .ok (.iconst 1, 1) := by decide +kernel
theorem dc189_65 : decode (pm_mb 189) 65 = .ok (.bastore, 1) := by decide +kernel
theorem dc189_66 : decode (pm_mb 189) 66 = .ok (.iconst 1, 1) := by decide +kernel
theorem dc189_67 : decode (pm_mb 189) 67 = .ok (.ireturn, 1) := by decide +kernel
theorem b189_0 {X : pm_X} {d : Nat} {x1 : Int32} {g : pm_G} {iv : pm_V} (hL : pm_lay g) : pm_at X d 189 (0, [some (.ref 32), some (.int x1), none], [], g, iv) = pm_then X d 189 12 [some (.ref 32), some (.int x1), none] [] (pm_c X d 130 [.long (x1 : Int32).toInt64, .long 0, .long 1] g (pm_iw iv 32 0 0)) := by
  refine (at_aload_n dc189_0 rfl).trans ?_
  refine (at_iconst (v := 0) dc189_1 rfl).trans ?_
  refine (at_pfI dc189_2 mc189 lf6_50 po6_0 (ly32 hL)).trans ?_
  refine (at_iload_n dc189_5 rfl).trans ?_
  refine (at_i2l dc189_6).trans ?_
  refine (at_lconst (v := 0) dc189_7 (by decide)).trans ?_
  refine (at_lconst (v := 1) dc189_8 (by decide)).trans ?_
  exact at_ins dc189_9 mc189 lm6_60 (Nat.le_of_ble_eq_true rfl) rfl rfl (Nat.le_of_ble_eq_true rfl)
theorem b189_12 {X : pm_X} {d : Nat} {x1 : Int32} {s0 : Int32} {g : pm_G} {iv : pm_V}  : pm_at X d 189 (12, [some (.ref 32), some (.int x1), none], [.int s0], g, iv) = if ¬ s0 = 0 then pm_at X d 189 (18, [some (.ref 32), some (.int x1), none], [], g, iv) else pm_at X d 189 (15, [some (.ref 32), some (.int x1), none], [], g, iv) := by
  exact at_if_ne (t := 18) dc189_12 (by decide)
theorem b189_15 {X : pm_X} {d : Nat} {x1 : Int32} {g : pm_G} {iv : pm_V}  : pm_at X d 189 (15, [some (.ref 32), some (.int x1), none], [], g, iv) = some (some (.int (-1000001)), g, iv) := by
  refine (at_ldc dc189_15 mc189 lk6_70).trans ?_
  exact at_iret dc189_17 mr189
theorem b189_18 {X : pm_X} {d : Nat} {x1 : Int32} {g : pm_G} {iv : pm_V} (hL : pm_lay g) : pm_at X d 189 (18, [some (.ref 32), some (.int x1), none], [], g, iv) = pm_then X d 189 22 [some (.ref 32), some (.int x1), none] [] (pm_c X d 156 [.ref 32] g iv) := by
  refine (at_aload_n dc189_18 rfl).trans ?_
  exact at_inv dc189_19 mc189 lm6_205 rfl rfl (Nat.le_of_ble_eq_true rfl) (Or.inl ⟨(ly32 hL), by decide⟩)
theorem b189_22 {X : pm_X} {d : Nat} {x1 : Int32} {s0 : Int32} {g : pm_G} {iv : pm_V}  : pm_at X d 189 (22, [some (.ref 32), some (.int x1), none], [.int s0], g, iv) = if ¬ s0 = 0 then pm_at X d 189 (28, [some (.ref 32), some (.int x1), none], [], g, iv) else pm_at X d 189 (25, [some (.ref 32), some (.int x1), none], [], g, iv) := by
  exact at_if_ne (t := 28) dc189_22 (by decide)
theorem b189_25 {X : pm_X} {d : Nat} {x1 : Int32} {g : pm_G} {iv : pm_V}  : pm_at X d 189 (25, [some (.ref 32), some (.int x1), none], [], g, iv) = some (some (.int (-1000002)), g, iv) := by
  refine (at_ldc dc189_25 mc189 lk6_209).trans ?_
  exact at_iret dc189_27 mr189
theorem b189_28 {X : pm_X} {d : Nat} {x1 : Int32} {g : pm_G} {iv : pm_V}  : pm_at X d 189 (28, [some (.ref 32), some (.int x1), none], [], g, iv) = pm_at X d 189 (30, [some (.ref 32), some (.int x1), some (.int 0)], [], g, iv) := by
  refine (at_iconst (v := 0) dc189_28 rfl).trans ?_
  refine (at_istore_n dc189_29 rfl).trans ?_
  rfl
theorem b189_30 {X : pm_X} {d : Nat} {x1 : Int32} {x2 : Int32} {g : pm_G} {iv : pm_V}  : pm_at X d 189 (30, [some (.ref 32), some (.int x1), some (.int x2)], [], g, iv) = if 45 ≤ x2 then pm_at X d 189 (59, [some (.ref 32), some (.int x1), some (.int x2)], [], g, iv) else pm_at X d 189 (36, [some (.ref 32), some (.int x1), some (.int x2)], [], g, iv) := by
  refine (at_iload_n dc189_30 rfl).trans ?_
  refine (at_bipush (v := 45) dc189_31 (by decide)).trans ?_
  exact at_icmp_ge (t := 59) dc189_33 (by decide)
theorem b189_36 {X : pm_X} {d : Nat} {x1 : Int32} {x2 : Int32} {g : pm_G} {iv : pm_V} (hL : pm_lay g) (i1 : vp_in x2 45) (i2 : vp_in (((45 * x1) + x2)) 90) : pm_at X d 189 (36, [some (.ref 32), some (.int x1), some (.int x2)], [], g, iv) = pm_at X d 189 (30, [some (.ref 32), some (.int x1), some (.int (x2 + 1))], [], g, (pm_iw iv 44 (((45 * x1) + x2) : Int32).toNatClampNeg ((iv 36 (x2 : Int32).toNatClampNeg)))) := by
  refine (at_aload_n dc189_36 rfl).trans ?_
  refine (at_gfR dc189_37 mc189 lf6_44 fo6_23 (ly32 hL) (lr32_23 hL)).trans ?_
  refine (at_bipush (v := 45) dc189_40 (by decide)).trans ?_
  refine (at_iload_n dc189_42 rfl).trans ?_
  refine (at_imul dc189_43).trans ?_
  refine (at_iload_n dc189_44 rfl).trans ?_
  refine (at_iadd dc189_45).trans ?_
  refine (at_aload_n dc189_46 rfl).trans ?_
  refine (at_gfR dc189_47 mc189 lf6_19 fo6_5 (ly32 hL) (lr32_5 hL)).trans ?_
  refine (at_iload_n dc189_50 rfl).trans ?_
  refine (at_iald dc189_51 (ly36 hL) i1).trans ?_
  refine (at_iast dc189_52 (ly44 hL) i2).trans ?_
  refine (at_iinc (v := 1) dc189_53 rfl (by decide) rfl).trans ?_
  refine (at_goto (t := 30) dc189_56 (by decide)).trans ?_
  rfl
theorem b189_59 {X : pm_X} {d : Nat} {x1 : Int32} {x2 : Int32} {g : pm_G} {iv : pm_V} (hL : pm_lay g) (i1 : vp_in x1 2) : pm_at X d 189 (59, [some (.ref 32), some (.int x1), some (.int x2)], [], g, iv) = some (some (.int 1), g, (pm_iw iv 43 (x1 : Int32).toNatClampNeg ((vp_nar .boolean 1)))) := by
  refine (at_aload_n dc189_59 rfl).trans ?_
  refine (at_gfR dc189_60 mc189 lf6_40 fo6_22 (ly32 hL) (lr32_22 hL)).trans ?_
  refine (at_iload_n dc189_63 rfl).trans ?_
  refine (at_iconst (v := 1) dc189_64 rfl).trans ?_
  refine (at_zast dc189_65 (ly43 hL) i1).trans ?_
  refine (at_iconst (v := 1) dc189_66 rfl).trans ?_
  exact at_iret dc189_67 mr189
-- Mod.restore (I)I
theorem dc190_0 : decode (pm_mb 190) 0 = .ok (.aload_n 0, 1) := by decide +kernel
theorem dc190_1 : decode (pm_mb 190) 1 = .ok (.iconst 0, 1) := by decide +kernel
theorem dc190_2 : decode (pm_mb 190) 2 = .ok (.putfield 50, 3) := by decide +kernel
theorem dc190_5 : decode (pm_mb 190) 5 = .ok (.iload_n 1, 1) := by decide +kernel
theorem dc190_6 : decode (pm_mb 190) 6 = .ok (.i2l, 1) := by decide +kernel
theorem dc190_7 : decode (pm_mb 190) 7 = .ok (.lconst 0, 1) := by decide +kernel
theorem dc190_8 : decode (pm_mb 190) 8 = .ok (.lconst 1, 1) := by decide +kernel
theorem dc190_9 : decode (pm_mb 190) 9 = .ok (.invokestatic 60, 3) := by decide +kernel
theorem dc190_12 : decode (pm_mb 190) 12 = .ok (.ifCond .ne 6, 3) := by decide +kernel
theorem dc190_15 : decode (pm_mb 190) 15 = .ok (.ldc 70, 2) := by decide +kernel
theorem dc190_17 : decode (pm_mb 190) 17 = .ok (.ireturn, 1) := by decide +kernel
theorem dc190_18 : decode (pm_mb 190) 18 = .ok (.aload_n 0, 1) := by decide +kernel
theorem dc190_19 : decode (pm_mb 190) 19 = .ok (.getfield 40, 3) := by decide +kernel
theorem dc190_22 : decode (pm_mb 190) 22 = .ok (.iload_n 1, 1) := by decide +kernel
theorem dc190_23 : decode (pm_mb 190) 23 = .ok (.baload, 1) := by decide +kernel
theorem dc190_24 : decode (pm_mb 190) 24 = .ok (.ifCond .ne 6, 3) := by decide +kernel
theorem dc190_27 : decode (pm_mb 190) 27 = .ok (.ldc 209, 2) := by decide +kernel
theorem dc190_29 : decode (pm_mb 190) 29 = .ok (.ireturn, 1) := by decide +kernel
theorem dc190_30 : decode (pm_mb 190) 30 = .ok (.iconst 0, 1) := by decide +kernel
theorem dc190_31 : decode (pm_mb 190) 31 = .ok (.istore_n 2, 1) := by decide +kernel
theorem dc190_32 : decode (pm_mb 190) 32 = .ok (.iload_n 2, 1) := by decide +kernel
theorem dc190_33 : decode (pm_mb 190) 33 = .ok (.bipush 45, 2) := by decide +kernel
theorem dc190_35 : decode (pm_mb 190) 35 = .ok (.if_icmp .ge 26, 3) := by decide +kernel
theorem dc190_38 : decode (pm_mb 190) 38 = .ok (.aload_n 0, 1) := by decide +kernel
theorem dc190_39 : decode (pm_mb 190) 39 = .ok (.getfield 19, 3) := by decide +kernel
theorem dc190_42 : decode (pm_mb 190) 42 = .ok (.iload_n 2, 1) := by decide +kernel
theorem dc190_43 : decode (pm_mb 190) 43 = .ok (.aload_n 0, 1) := by decide +kernel
theorem dc190_44 : decode (pm_mb 190) 44 = .ok (.getfield 44, 3) := by decide +kernel
theorem dc190_47 : decode (pm_mb 190) 47 = .ok (.bipush 45, 2) := by decide +kernel
theorem dc190_49 : decode (pm_mb 190) 49 = .ok (.iload_n 1, 1) := by decide +kernel
theorem dc190_50 : decode (pm_mb 190) 50 = .ok (.imul, 1) := by decide +kernel
theorem dc190_51 : decode (pm_mb 190) 51 = .ok (.iload_n 2, 1) := by decide +kernel
theorem dc190_52 : decode (pm_mb 190) 52 = .ok (.iadd, 1) := by decide +kernel
theorem dc190_53 : decode (pm_mb 190) 53 = .ok (.iaload, 1) := by decide +kernel
theorem dc190_54 : decode (pm_mb 190) 54 = .ok (.iastore, 1) := by decide +kernel
theorem dc190_55 : decode (pm_mb 190) 55 = .ok (.iinc 2 1, 3) := by decide +kernel
theorem dc190_58 : decode (pm_mb 190) 58 = .ok (.goto (-26), 3) := by decide +kernel
theorem dc190_61 : decode (pm_mb 190) 61 = .ok (.aload_n 0, 1) := by decide +kernel
theorem dc190_62 : decode (pm_mb 190) 62 = .ok (.iconst 0, 1) := by decide +kernel
theorem dc190_63 : decode (pm_mb 190) 63 = .ok (.putfield 181, 3) := by decide +kernel
theorem dc190_66 : decode (pm_mb 190) 66 = .ok (.iconst 1, 1) := by decide +kernel
theorem dc190_67 : decode (pm_mb 190) 67 = .ok (.ireturn, 1) := by decide +kernel
theorem b190_0 {X : pm_X} {d : Nat} {x1 : Int32} {g : pm_G} {iv : pm_V} (hL : pm_lay g) : pm_at X d 190 (0, [some (.ref 32), some (.int x1), none], [], g, iv) = pm_then X d 190 12 [some (.ref 32), some (.int x1), none] [] (pm_c X d 130 [.long (x1 : Int32).toInt64, .long 0, .long 1] g (pm_iw iv 32 0 0)) := by
  refine (at_aload_n dc190_0 rfl).trans ?_
  refine (at_iconst (v := 0) dc190_1 rfl).trans ?_
  refine (at_pfI dc190_2 mc190 lf6_50 po6_0 (ly32 hL)).trans ?_
  refine (at_iload_n dc190_5 rfl).trans ?_
  refine (at_i2l dc190_6).trans ?_
  refine (at_lconst (v := 0) dc190_7 (by decide)).trans ?_
  refine (at_lconst (v := 1) dc190_8 (by decide)).trans ?_
  exact at_ins dc190_9 mc190 lm6_60 (Nat.le_of_ble_eq_true rfl) rfl rfl (Nat.le_of_ble_eq_true rfl)
theorem b190_12 {X : pm_X} {d : Nat} {x1 : Int32} {s0 : Int32} {g : pm_G} {iv : pm_V}  : pm_at X d 190 (12, [some (.ref 32), some (.int x1), none], [.int s0], g, iv) = if ¬ s0 = 0 then pm_at X d 190 (18, [some (.ref 32), some (.int x1), none], [], g, iv) else pm_at X d 190 (15, [some (.ref 32), some (.int x1), none], [], g, iv) := by
  exact at_if_ne (t := 18) dc190_12 (by decide)
theorem b190_15 {X : pm_X} {d : Nat} {x1 : Int32} {g : pm_G} {iv : pm_V}  : pm_at X d 190 (15, [some (.ref 32), some (.int x1), none], [], g, iv) = some (some (.int (-1000001)), g, iv) := by
  refine (at_ldc dc190_15 mc190 lk6_70).trans ?_
  exact at_iret dc190_17 mr190
theorem b190_18 {X : pm_X} {d : Nat} {x1 : Int32} {g : pm_G} {iv : pm_V} (hL : pm_lay g) (i1 : vp_in x1 2) : pm_at X d 190 (18, [some (.ref 32), some (.int x1), none], [], g, iv) = if ¬ (iv 43 (x1 : Int32).toNatClampNeg) = 0 then pm_at X d 190 (30, [some (.ref 32), some (.int x1), none], [], g, iv) else pm_at X d 190 (27, [some (.ref 32), some (.int x1), none], [], g, iv) := by
  refine (at_aload_n dc190_18 rfl).trans ?_
  refine (at_gfR dc190_19 mc190 lf6_40 fo6_22 (ly32 hL) (lr32_22 hL)).trans ?_
  refine (at_iload_n dc190_22 rfl).trans ?_
  refine (at_bald dc190_23 (ly43 hL) (Or.inr rfl) i1).trans ?_
  exact at_if_ne (t := 30) dc190_24 (by decide)
theorem b190_27 {X : pm_X} {d : Nat} {x1 : Int32} {g : pm_G} {iv : pm_V}  : pm_at X d 190 (27, [some (.ref 32), some (.int x1), none], [], g, iv) = some (some (.int (-1000002)), g, iv) := by
  refine (at_ldc dc190_27 mc190 lk6_209).trans ?_
  exact at_iret dc190_29 mr190
theorem b190_30 {X : pm_X} {d : Nat} {x1 : Int32} {g : pm_G} {iv : pm_V}  : pm_at X d 190 (30, [some (.ref 32), some (.int x1), none], [], g, iv) = pm_at X d 190 (32, [some (.ref 32), some (.int x1), some (.int 0)], [], g, iv) := by
  refine (at_iconst (v := 0) dc190_30 rfl).trans ?_
  refine (at_istore_n dc190_31 rfl).trans ?_
  rfl
theorem b190_32 {X : pm_X} {d : Nat} {x1 : Int32} {x2 : Int32} {g : pm_G} {iv : pm_V}  : pm_at X d 190 (32, [some (.ref 32), some (.int x1), some (.int x2)], [], g, iv) = if 45 ≤ x2 then pm_at X d 190 (61, [some (.ref 32), some (.int x1), some (.int x2)], [], g, iv) else pm_at X d 190 (38, [some (.ref 32), some (.int x1), some (.int x2)], [], g, iv) := by
  refine (at_iload_n dc190_32 rfl).trans ?_
  refine (at_bipush (v := 45) dc190_33 (by decide)).trans ?_
  exact at_icmp_ge (t := 61) dc190_35 (by decide)
theorem b190_38 {X : pm_X} {d : Nat} {x1 : Int32} {x2 : Int32} {g : pm_G} {iv : pm_V} (hL : pm_lay g) (i1 : vp_in (((45 * x1) + x2)) 90) (i2 : vp_in x2 45) : pm_at X d 190 (38, [some (.ref 32), some (.int x1), some (.int x2)], [], g, iv) = pm_at X d 190 (32, [some (.ref 32), some (.int x1), some (.int (x2 + 1))], [], g, (pm_iw iv 36 (x2 : Int32).toNatClampNeg ((iv 44 (((45 * x1) + x2) : Int32).toNatClampNeg)))) := by
  refine (at_aload_n dc190_38 rfl).trans ?_
  refine (at_gfR dc190_39 mc190 lf6_19 fo6_5 (ly32 hL) (lr32_5 hL)).trans ?_
  refine (at_iload_n dc190_42 rfl).trans ?_
  refine (at_aload_n dc190_43 rfl).trans ?_
  refine (at_gfR dc190_44 mc190 lf6_44 fo6_23 (ly32 hL) (lr32_23 hL)).trans ?_
  refine (at_bipush (v := 45) dc190_47 (by decide)).trans ?_
  refine (at_iload_n dc190_49 rfl).trans ?_
  refine (at_imul dc190_50).trans ?_
  refine (at_iload_n dc190_51 rfl).trans ?_
  refine (at_iadd dc190_52).trans ?_
  refine (at_iald dc190_53 (ly44 hL) i1).trans ?_
  refine (at_iast dc190_54 (ly36 hL) i2).trans ?_
  refine (at_iinc (v := 1) dc190_55 rfl (by decide) rfl).trans ?_
  refine (at_goto (t := 32) dc190_58 (by decide)).trans ?_
  rfl
theorem b190_61 {X : pm_X} {d : Nat} {x1 : Int32} {x2 : Int32} {g : pm_G} {iv : pm_V} (hL : pm_lay g) : pm_at X d 190 (61, [some (.ref 32), some (.int x1), some (.int x2)], [], g, iv) = some (some (.int 1), g, (pm_iw iv 32 8 0)) := by
  refine (at_aload_n dc190_61 rfl).trans ?_
  refine (at_iconst (v := 0) dc190_62 rfl).trans ?_
  refine (at_pfI dc190_63 mc190 lf6_181 po6_8 (ly32 hL)).trans ?_
  refine (at_iconst (v := 1) dc190_66 rfl).trans ?_
  exact at_iret dc190_67 mr190
-- Mod.isOf (II)Z
theorem dc191_0 : decode (pm_mb 191) 0 = .ok (.iload_n 1, 1) := by decide +kernel
theorem dc191_1 : decode (pm_mb 191) 1 = .ok (.ifCond .eq 28, 3) := by decide +kernel
theorem dc191_4 : decode (pm_mb 191) 4 = .ok (.iload_n 0, 1) := by decide +kernel
theorem dc191_5 : decode (pm_mb 191) 5 = .ok (.iload_n 1, 1) := by decide +kernel
theorem dc191_6 : decode (pm_mb 191) 6 = .ok (.if_icmp .eq 23, 3) := by decide +kernel
theorem dc191_9 : decode (pm_mb 191) 9 = .ok (.iload_n 1, 1) := by decide +kernel
theorem dc191_10 : decode (pm_mb 191) 10 = .ok (.iconst 1, 1) := by decide +kernel
theorem dc191_11 : decode (pm_mb 191) 11 = .ok (.if_icmp .ne 8, 3) := by decide +kernel
theorem dc191_14 : decode (pm_mb 191) 14 = .ok (.iload_n 0, 1) := by decide +kernel
theorem dc191_15 : decode (pm_mb 191) 15 = .ok (.iconst 2, 1) := by decide +kernel
theorem dc191_16 : decode (pm_mb 191) 16 = .ok (.if_icmp .eq 13, 3) := by decide +kernel
theorem dc191_19 : decode (pm_mb 191) 19 = .ok (.iload_n 1, 1) := by decide +kernel
theorem dc191_20 : decode (pm_mb 191) 20 = .ok (.iconst 3, 1) := by decide +kernel
theorem dc191_21 : decode (pm_mb 191) 21 = .ok (.if_icmp .ne 12, 3) := by decide +kernel
theorem dc191_24 : decode (pm_mb 191) 24 = .ok (.iload_n 0, 1) := by decide +kernel
theorem dc191_25 : decode (pm_mb 191) 25 = .ok (.iconst 3, 1) := by decide +kernel
theorem dc191_26 : decode (pm_mb 191) 26 = .ok (.if_icmp .le 7, 3) := by decide +kernel
theorem dc191_29 : decode (pm_mb 191) 29 = .ok (.iconst 1, 1) := by decide +kernel
theorem dc191_30 : decode (pm_mb 191) 30 = .ok (.goto 4, 3) := by decide +kernel
theorem dc191_33 : decode (pm_mb 191) 33 = .ok (.iconst 0, 1) := by decide +kernel
theorem dc191_34 : decode (pm_mb 191) 34 = .ok (.ireturn, 1) := by decide +kernel
theorem b191_0 {X : pm_X} {d : Nat} {x0 : Int32} {x1 : Int32} {g : pm_G} {iv : pm_V}  : pm_at X d 191 (0, [some (.int x0), some (.int x1)], [], g, iv) = if x1 = 0 then pm_at X d 191 (29, [some (.int x0), some (.int x1)], [], g, iv) else pm_at X d 191 (4, [some (.int x0), some (.int x1)], [], g, iv) := by
  refine (at_iload_n dc191_0 rfl).trans ?_
  exact at_if_eq (t := 29) dc191_1 (by decide)
theorem b191_4 {X : pm_X} {d : Nat} {x0 : Int32} {x1 : Int32} {g : pm_G} {iv : pm_V}  : pm_at X d 191 (4, [some (.int x0), some (.int x1)], [], g, iv) = if x0 = x1 then pm_at X d 191 (29, [some (.int x0), some (.int x1)], [], g, iv) else pm_at X d 191 (9, [some (.int x0), some (.int x1)], [], g, iv) := by
  refine (at_iload_n dc191_4 rfl).trans ?_
  refine (at_iload_n dc191_5 rfl).trans ?_
  exact at_icmp_eq (t := 29) dc191_6 (by decide)
theorem b191_9 {X : pm_X} {d : Nat} {x0 : Int32} {x1 : Int32} {g : pm_G} {iv : pm_V}  : pm_at X d 191 (9, [some (.int x0), some (.int x1)], [], g, iv) = if ¬ x1 = 1 then pm_at X d 191 (19, [some (.int x0), some (.int x1)], [], g, iv) else pm_at X d 191 (14, [some (.int x0), some (.int x1)], [], g, iv) := by
  refine (at_iload_n dc191_9 rfl).trans ?_
  refine (at_iconst (v := 1) dc191_10 rfl).trans ?_
  exact at_icmp_ne (t := 19) dc191_11 (by decide)
theorem b191_14 {X : pm_X} {d : Nat} {x0 : Int32} {x1 : Int32} {g : pm_G} {iv : pm_V}  : pm_at X d 191 (14, [some (.int x0), some (.int x1)], [], g, iv) = if x0 = 2 then pm_at X d 191 (29, [some (.int x0), some (.int x1)], [], g, iv) else pm_at X d 191 (19, [some (.int x0), some (.int x1)], [], g, iv) := by
  refine (at_iload_n dc191_14 rfl).trans ?_
  refine (at_iconst (v := 2) dc191_15 rfl).trans ?_
  exact at_icmp_eq (t := 29) dc191_16 (by decide)
theorem b191_19 {X : pm_X} {d : Nat} {x0 : Int32} {x1 : Int32} {g : pm_G} {iv : pm_V}  : pm_at X d 191 (19, [some (.int x0), some (.int x1)], [], g, iv) = if ¬ x1 = 3 then pm_at X d 191 (33, [some (.int x0), some (.int x1)], [], g, iv) else pm_at X d 191 (24, [some (.int x0), some (.int x1)], [], g, iv) := by
  refine (at_iload_n dc191_19 rfl).trans ?_
  refine (at_iconst (v := 3) dc191_20 rfl).trans ?_
  exact at_icmp_ne (t := 33) dc191_21 (by decide)
theorem b191_24 {X : pm_X} {d : Nat} {x0 : Int32} {x1 : Int32} {g : pm_G} {iv : pm_V}  : pm_at X d 191 (24, [some (.int x0), some (.int x1)], [], g, iv) = if x0 ≤ 3 then pm_at X d 191 (33, [some (.int x0), some (.int x1)], [], g, iv) else pm_at X d 191 (29, [some (.int x0), some (.int x1)], [], g, iv) := by
  refine (at_iload_n dc191_24 rfl).trans ?_
  refine (at_iconst (v := 3) dc191_25 rfl).trans ?_
  exact at_icmp_le (t := 33) dc191_26 (by decide)
theorem b191_29 {X : pm_X} {d : Nat} {x0 : Int32} {x1 : Int32} {g : pm_G} {iv : pm_V}  : pm_at X d 191 (29, [some (.int x0), some (.int x1)], [], g, iv) = pm_at X d 191 (34, [some (.int x0), some (.int x1)], [.int 1], g, iv) := by
  refine (at_iconst (v := 1) dc191_29 rfl).trans ?_
  refine (at_goto (t := 34) dc191_30 (by decide)).trans ?_
  rfl
theorem b191_33 {X : pm_X} {d : Nat} {x0 : Int32} {x1 : Int32} {g : pm_G} {iv : pm_V}  : pm_at X d 191 (33, [some (.int x0), some (.int x1)], [], g, iv) = pm_at X d 191 (34, [some (.int x0), some (.int x1)], [.int 0], g, iv) := by
  refine (at_iconst (v := 0) dc191_33 rfl).trans ?_
  rfl
theorem b191_34 {X : pm_X} {d : Nat} {x0 : Int32} {x1 : Int32} {s0 : Int32} {g : pm_G} {iv : pm_V}  : pm_at X d 191 (34, [some (.int x0), some (.int x1)], [.int s0], g, iv) = pm_zr s0 (some (some (.int s0), g, iv)) := by
  exact at_zretG dc191_34 mr191
-- Mod.kind (I)I
theorem dc192_0 : decode (pm_mb 192) 0 = .ok (.aload_n 0, 1) := by decide +kernel
theorem dc192_1 : decode (pm_mb 192) 1 = .ok (.iconst 0, 1) := by decide +kernel
theorem dc192_2 : decode (pm_mb 192) 2 = .ok (.putfield 50, 3) := by decide +kernel
theorem dc192_5 : decode (pm_mb 192) 5 = .ok (.aload_n 0, 1) := by decide +kernel
theorem dc192_6 : decode (pm_mb 192) 6 = .ok (.iload_n 1, 1) := by decide +kernel
theorem dc192_7 : decode (pm_mb 192) 7 = .ok (.invokevirtual 184, 3) := by decide +kernel
theorem dc192_10 : decode (pm_mb 192) 10 = .ok (.ifCond .eq 12, 3) := by decide +kernel
theorem dc192_13 : decode (pm_mb 192) 13 = .ok (.aload_n 0, 1) := by decide +kernel
theorem dc192_14 : decode (pm_mb 192) 14 = .ok (.iload_n 1, 1) := by decide +kernel
theorem dc192_15 : decode (pm_mb 192) 15 = .ok (.iconst 0, 1) := by decide +kernel
theorem dc192_16 : decode (pm_mb 192) 16 = .ok (.invokevirtual 187, 3) := by decide +kernel
theorem dc192_19 : decode (pm_mb 192) 19 = .ok (.goto 5, 3) := by decide +kernel
theorem dc192_22 : decode (pm_mb 192) 22 = .ok (.ldc 70, 2) := by decide +kernel
theorem dc192_24 : decode (pm_mb 192) 24 = .ok (.ireturn, 1) := by decide +kernel
theorem b192_0 {X : pm_X} {d : Nat} {x1 : Int32} {g : pm_G} {iv : pm_V} (hL : pm_lay g) : pm_at X d 192 (0, [some (.ref 32), some (.int x1)], [], g, iv) = pm_then X d 192 10 [some (.ref 32), some (.int x1)] [] (pm_c X d 157 [.ref 32, .int x1] g (pm_iw iv 32 0 0)) := by
  refine (at_aload_n dc192_0 rfl).trans ?_
  refine (at_iconst (v := 0) dc192_1 rfl).trans ?_
  refine (at_pfI dc192_2 mc192 lf6_50 po6_0 (ly32 hL)).trans ?_
  refine (at_aload_n dc192_5 rfl).trans ?_
  refine (at_iload_n dc192_6 rfl).trans ?_
  exact at_inv dc192_7 mc192 lm6_184 rfl rfl (Nat.le_of_ble_eq_true rfl) (Or.inl ⟨(ly32 hL), by decide⟩)
theorem b192_10 {X : pm_X} {d : Nat} {x1 : Int32} {s0 : Int32} {g : pm_G} {iv : pm_V}  : pm_at X d 192 (10, [some (.ref 32), some (.int x1)], [.int s0], g, iv) = if s0 = 0 then pm_at X d 192 (22, [some (.ref 32), some (.int x1)], [], g, iv) else pm_at X d 192 (13, [some (.ref 32), some (.int x1)], [], g, iv) := by
  exact at_if_eq (t := 22) dc192_10 (by decide)
theorem b192_13 {X : pm_X} {d : Nat} {x1 : Int32} {g : pm_G} {iv : pm_V} (hL : pm_lay g) : pm_at X d 192 (13, [some (.ref 32), some (.int x1)], [], g, iv) = pm_then X d 192 19 [some (.ref 32), some (.int x1)] [] (pm_c X d 159 [.ref 32, .int x1, .int 0] g iv) := by
  refine (at_aload_n dc192_13 rfl).trans ?_
  refine (at_iload_n dc192_14 rfl).trans ?_
  refine (at_iconst (v := 0) dc192_15 rfl).trans ?_
  exact at_inv dc192_16 mc192 lm6_187 rfl rfl (Nat.le_of_ble_eq_true rfl) (Or.inl ⟨(ly32 hL), by decide⟩)
theorem b192_19 {X : pm_X} {d : Nat} {x1 : Int32} {s0 : Int32} {g : pm_G} {iv : pm_V}  : pm_at X d 192 (19, [some (.ref 32), some (.int x1)], [.int s0], g, iv) = pm_at X d 192 (24, [some (.ref 32), some (.int x1)], [.int s0], g, iv) := by
  refine (at_goto (t := 24) dc192_19 (by decide)).trans ?_
  rfl
theorem b192_22 {X : pm_X} {d : Nat} {x1 : Int32} {g : pm_G} {iv : pm_V}  : pm_at X d 192 (22, [some (.ref 32), some (.int x1)], [], g, iv) = pm_at X d 192 (24, [some (.ref 32), some (.int x1)], [.int (-1000001)], g, iv) := by
  refine (at_ldc dc192_22 mc192 lk6_70).trans ?_
  rfl
theorem b192_24 {X : pm_X} {d : Nat} {x1 : Int32} {s0 : Int32} {g : pm_G} {iv : pm_V}  : pm_at X d 192 (24, [some (.ref 32), some (.int x1)], [.int s0], g, iv) = some (some (.int s0), g, iv) := by
  exact at_iret dc192_24 mr192
-- Mod.as (II)I
theorem dc193_0 : decode (pm_mb 193) 0 = .ok (.aload_n 0, 1) := by decide +kernel
theorem dc193_1 : decode (pm_mb 193) 1 = .ok (.iconst 0, 1) := by decide +kernel
theorem dc193_2 : decode (pm_mb 193) 2 = .ok (.putfield 50, 3) := by decide +kernel
theorem dc193_5 : decode (pm_mb 193) 5 = .ok (.aload_n 0, 1) := by decide +kernel
theorem dc193_6 : decode (pm_mb 193) 6 = .ok (.iload_n 1, 1) := by decide +kernel
theorem dc193_7 : decode (pm_mb 193) 7 = .ok (.invokevirtual 184, 3) := by decide +kernel
theorem dc193_10 : decode (pm_mb 193) 10 = .ok (.ifCond .eq 15, 3) := by decide +kernel
theorem dc193_13 : decode (pm_mb 193) 13 = .ok (.iload_n 2, 1) := by decide +kernel
theorem dc193_14 : decode (pm_mb 193) 14 = .ok (.i2l, 1) := by decide +kernel
theorem dc193_15 : decode (pm_mb 193) 15 = .ok (.lconst 0, 1) := by decide +kernel
theorem dc193_16 : decode (pm_mb 193) 16 = .ok (.ldc2_w 224, 3) := by decide +kernel
theorem dc193_19 : decode (pm_mb 193) 19 = .ok (.invokestatic 60, 3) := by decide +kernel
theorem dc193_22 : decode (pm_mb 193) 22 = .ok (.ifCond .ne 6, 3) := by decide +kernel
theorem dc193_25 : decode (pm_mb 193) 25 = .ok (.ldc 70, 2) := by decide +kernel
theorem dc193_27 : decode (pm_mb 193) 27 = .ok (.ireturn, 1) := by decide +kernel
theorem dc193_28 : decode (pm_mb 193) 28 = .ok (.aload_n 0, 1) := by decide +kernel
theorem dc193_29 : decode (pm_mb 193) 29 = .ok (.iconst 0, 1) := by decide +kernel
theorem dc193_30 : decode (pm_mb 193) 30 = .ok (.putfield 54, 3) := by decide +kernel
theorem dc193_33 : decode (pm_mb 193) 33 = .ok (.aload_n 0, 1) := by decide +kernel
theorem dc193_34 : decode (pm_mb 193) 34 = .ok (.iload_n 1, 1) := by decide +kernel
theorem dc193_35 : decode (pm_mb 193) 35 = .ok (.iconst 0, 1) := by decide +kernel
theorem dc193_36 : decode (pm_mb 193) 36 = .ok (.invokevirtual 187, 3) := by decide +kernel
theorem dc193_39 : decode (pm_mb 193) 39 = .ok (.iload_n 2, 1) := by decide +kernel
theorem dc193_40 : decode (pm_mb 193) 40 = .ok (.invokestatic 253, 3) := by decide +kernel
theorem dc193_43 : decode (pm_mb 193) 43 = .ok (.ifCond .eq 7, 3) := by decide +kernel
theorem dc193_46 : decode (pm_mb 193) 46 = .ok (.iload_n 1, 1) := by decide +kernel
theorem dc193_47 : decode (pm_mb 193) 47 = .ok (.goto 8, 3) := by decide +kernel
theorem dc193_50 : decode (pm_mb 193) 50 = .ok (.aload_n 0, 1) := by decide +kernel
theorem dc193_51 : decode (pm_mb 193) 51 = .ok (.iconst 3, 1) := by decide +kernel
theorem dc193_52 : decode (pm_mb 193) 52 = .ok (.invokevirtual 71, 3) := by decide +kernel
theorem dc193_55 : decode (pm_mb 193) 55 = .ok (.ireturn, 1) := by decide +kernel
theorem b193_0 {X : pm_X} {d : Nat} {x1 : Int32} {x2 : Int32} {g : pm_G} {iv : pm_V} (hL : pm_lay g) : pm_at X d 193 (0, [some (.ref 32), some (.int x1), some (.int x2)], [], g, iv) = pm_then X d 193 10 [some (.ref 32), some (.int x1), some (.int x2)] [] (pm_c X d 157 [.ref 32, .int x1] g (pm_iw iv 32 0 0)) := by
  refine (at_aload_n dc193_0 rfl).trans ?_
  refine (at_iconst (v := 0) dc193_1 rfl).trans ?_
  refine (at_pfI dc193_2 mc193 lf6_50 po6_0 (ly32 hL)).trans ?_
  refine (at_aload_n dc193_5 rfl).trans ?_
  refine (at_iload_n dc193_6 rfl).trans ?_
  exact at_inv dc193_7 mc193 lm6_184 rfl rfl (Nat.le_of_ble_eq_true rfl) (Or.inl ⟨(ly32 hL), by decide⟩)
theorem b193_10 {X : pm_X} {d : Nat} {x1 : Int32} {x2 : Int32} {s0 : Int32} {g : pm_G} {iv : pm_V}  : pm_at X d 193 (10, [some (.ref 32), some (.int x1), some (.int x2)], [.int s0], g, iv) = if s0 = 0 then pm_at X d 193 (25, [some (.ref 32), some (.int x1), some (.int x2)], [], g, iv) else pm_at X d 193 (13, [some (.ref 32), some (.int x1), some (.int x2)], [], g, iv) := by
  exact at_if_eq (t := 25) dc193_10 (by decide)
theorem b193_13 {X : pm_X} {d : Nat} {x1 : Int32} {x2 : Int32} {g : pm_G} {iv : pm_V}  : pm_at X d 193 (13, [some (.ref 32), some (.int x1), some (.int x2)], [], g, iv) = pm_then X d 193 22 [some (.ref 32), some (.int x1), some (.int x2)] [] (pm_c X d 130 [.long (x2 : Int32).toInt64, .long 0, .long 5] g iv) := by
  refine (at_iload_n dc193_13 rfl).trans ?_
  refine (at_i2l dc193_14).trans ?_
  refine (at_lconst (v := 0) dc193_15 (by decide)).trans ?_
  refine (at_ldc2 dc193_16 mc193 ll6_224).trans ?_
  exact at_ins dc193_19 mc193 lm6_60 (Nat.le_of_ble_eq_true rfl) rfl rfl (Nat.le_of_ble_eq_true rfl)
theorem b193_22 {X : pm_X} {d : Nat} {x1 : Int32} {x2 : Int32} {s0 : Int32} {g : pm_G} {iv : pm_V}  : pm_at X d 193 (22, [some (.ref 32), some (.int x1), some (.int x2)], [.int s0], g, iv) = if ¬ s0 = 0 then pm_at X d 193 (28, [some (.ref 32), some (.int x1), some (.int x2)], [], g, iv) else pm_at X d 193 (25, [some (.ref 32), some (.int x1), some (.int x2)], [], g, iv) := by
  exact at_if_ne (t := 28) dc193_22 (by decide)
theorem b193_25 {X : pm_X} {d : Nat} {x1 : Int32} {x2 : Int32} {g : pm_G} {iv : pm_V}  : pm_at X d 193 (25, [some (.ref 32), some (.int x1), some (.int x2)], [], g, iv) = some (some (.int (-1000001)), g, iv) := by
  refine (at_ldc dc193_25 mc193 lk6_70).trans ?_
  exact at_iret dc193_27 mr193
theorem b193_28 {X : pm_X} {d : Nat} {x1 : Int32} {x2 : Int32} {g : pm_G} {iv : pm_V} (hL : pm_lay g) : pm_at X d 193 (28, [some (.ref 32), some (.int x1), some (.int x2)], [], g, iv) = pm_then X d 193 39 [some (.ref 32), some (.int x1), some (.int x2)] [] (pm_c X d 159 [.ref 32, .int x1, .int 0] g (pm_iw iv 32 1 0)) := by
  refine (at_aload_n dc193_28 rfl).trans ?_
  refine (at_iconst (v := 0) dc193_29 rfl).trans ?_
  refine (at_pfI dc193_30 mc193 lf6_54 po6_1 (ly32 hL)).trans ?_
  refine (at_aload_n dc193_33 rfl).trans ?_
  refine (at_iload_n dc193_34 rfl).trans ?_
  refine (at_iconst (v := 0) dc193_35 rfl).trans ?_
  exact at_inv dc193_36 mc193 lm6_187 rfl rfl (Nat.le_of_ble_eq_true rfl) (Or.inl ⟨(ly32 hL), by decide⟩)
theorem b193_39 {X : pm_X} {d : Nat} {x1 : Int32} {x2 : Int32} {s0 : Int32} {g : pm_G} {iv : pm_V}  : pm_at X d 193 (39, [some (.ref 32), some (.int x1), some (.int x2)], [.int s0], g, iv) = pm_then X d 193 43 [some (.ref 32), some (.int x1), some (.int x2)] [] (pm_c X d 191 [.int s0, .int x2] g iv) := by
  refine (at_iload_n dc193_39 rfl).trans ?_
  exact at_ins dc193_40 mc193 lm6_253 (Nat.le_of_ble_eq_true rfl) rfl rfl (Nat.le_of_ble_eq_true rfl)
theorem b193_43 {X : pm_X} {d : Nat} {x1 : Int32} {x2 : Int32} {s0 : Int32} {g : pm_G} {iv : pm_V}  : pm_at X d 193 (43, [some (.ref 32), some (.int x1), some (.int x2)], [.int s0], g, iv) = if s0 = 0 then pm_at X d 193 (50, [some (.ref 32), some (.int x1), some (.int x2)], [], g, iv) else pm_at X d 193 (46, [some (.ref 32), some (.int x1), some (.int x2)], [], g, iv) := by
  exact at_if_eq (t := 50) dc193_43 (by decide)
theorem b193_46 {X : pm_X} {d : Nat} {x1 : Int32} {x2 : Int32} {g : pm_G} {iv : pm_V}  : pm_at X d 193 (46, [some (.ref 32), some (.int x1), some (.int x2)], [], g, iv) = pm_at X d 193 (55, [some (.ref 32), some (.int x1), some (.int x2)], [.int x1], g, iv) := by
  refine (at_iload_n dc193_46 rfl).trans ?_
  refine (at_goto (t := 55) dc193_47 (by decide)).trans ?_
  rfl
theorem b193_50 {X : pm_X} {d : Nat} {x1 : Int32} {x2 : Int32} {g : pm_G} {iv : pm_V} (hL : pm_lay g) : pm_at X d 193 (50, [some (.ref 32), some (.int x1), some (.int x2)], [], g, iv) = pm_then X d 193 55 [some (.ref 32), some (.int x1), some (.int x2)] [] (pm_c X d 131 [.ref 32, .int 3] g iv) := by
  refine (at_aload_n dc193_50 rfl).trans ?_
  refine (at_iconst (v := 3) dc193_51 rfl).trans ?_
  exact at_inv dc193_52 mc193 lm6_71 rfl rfl (Nat.le_of_ble_eq_true rfl) (Or.inl ⟨(ly32 hL), by decide⟩)
theorem b193_55 {X : pm_X} {d : Nat} {x1 : Int32} {x2 : Int32} {s0 : Int32} {g : pm_G} {iv : pm_V}  : pm_at X d 193 (55, [some (.ref 32), some (.int x1), some (.int x2)], [.int s0], g, iv) = some (some (.int s0), g, iv) := by
  exact at_iret dc193_55 mr193
-- Mod.began (I)V
theorem dc194_0 : decode (pm_mb 194) 0 = .ok (.aload_n 0, 1) := by decide +kernel
theorem dc194_1 : decode (pm_mb 194) 1 = .ok (.getfield 256, 3) := by decide +kernel
theorem dc194_4 : decode (pm_mb 194) 4 = .ok (.bipush 16, 2) := by decide +kernel
theorem dc194_6 : decode (pm_mb 194) 6 = .ok (.if_icmp .ge 23, 3) := by decide +kernel
theorem dc194_9 : decode (pm_mb 194) 9 = .ok (.aload_n 0, 1) := by decide +kernel
theorem dc194_10 : decode (pm_mb 194) 10 = .ok (.getfield 47, 3) := by decide +kernel
theorem dc194_13 : decode (pm_mb 194) 13 = .ok (.aload_n 0, 1) := by decide +kernel
theorem dc194_14 : decode (pm_mb 194) 14 = .ok (.getfield 256, 3) := by decide +kernel
theorem dc194_17 : decode (pm_mb 194) 17 = .ok (.iload_n 1, 1) := by decide +kernel
theorem dc194_18 : decode (pm_mb 194) 18 = .ok (.iastore, 1) := by decide +kernel
theorem dc194_19 : decode (pm_mb 194) 19 = .ok (.aload_n 0, 1) := by decide +kernel
theorem dc194_20 : decode (pm_mb 194) 20 = .ok (.dup, 1) := by decide +kernel
theorem dc194_21 : decode (pm_mb 194) 21 = .ok (.getfield 256, 3) := by decide +kernel
theorem dc194_24 : decode (pm_mb 194) 24 = .ok (.iconst 1, 1) := by decide +kernel
theorem dc194_25 : decode (pm_mb 194) 25 = .ok (.iadd, 1) := by decide +kernel
theorem dc194_26 : decode (pm_mb 194) 26 = .ok (.putfield 256, 3) := by decide +kernel
theorem dc194_29 : decode (pm_mb 194) 29 = .ok (.return_, 1) := by decide +kernel
theorem b194_0 {X : pm_X} {d : Nat} {x1 : Int32} {g : pm_G} {iv : pm_V} (hL : pm_lay g) : pm_at X d 194 (0, [some (.ref 32), some (.int x1)], [], g, iv) = if 16 ≤ (iv 32 25) then pm_at X d 194 (29, [some (.ref 32), some (.int x1)], [], g, iv) else pm_at X d 194 (9, [some (.ref 32), some (.int x1)], [], g, iv) := by
  refine (at_aload_n dc194_0 rfl).trans ?_
  refine (at_gfI dc194_1 mc194 lf6_256 fo6_25 (ly32 hL)).trans ?_
  refine (at_bipush (v := 16) dc194_4 (by decide)).trans ?_
  exact at_icmp_ge (t := 29) dc194_6 (by decide)
theorem b194_9 {X : pm_X} {d : Nat} {x1 : Int32} {g : pm_G} {iv : pm_V} (hL : pm_lay g) (i1 : vp_in ((iv 32 25)) 16) : pm_at X d 194 (9, [some (.ref 32), some (.int x1)], [], g, iv) = pm_at X d 194 (29, [some (.ref 32), some (.int x1)], [], g, (pm_iw (pm_iw iv 45 ((iv 32 25) : Int32).toNatClampNeg x1) 32 25 ((((pm_iw iv 45 ((iv 32 25) : Int32).toNatClampNeg x1) 32 25) + 1)))) := by
  refine (at_aload_n dc194_9 rfl).trans ?_
  refine (at_gfR dc194_10 mc194 lf6_47 fo6_24 (ly32 hL) (lr32_24 hL)).trans ?_
  refine (at_aload_n dc194_13 rfl).trans ?_
  refine (at_gfI dc194_14 mc194 lf6_256 fo6_25 (ly32 hL)).trans ?_
  refine (at_iload_n dc194_17 rfl).trans ?_
  refine (at_iast dc194_18 (ly45 hL) i1).trans ?_
  refine (at_aload_n dc194_19 rfl).trans ?_
  refine (at_dup dc194_20 rfl).trans ?_
  refine (at_gfI dc194_21 mc194 lf6_256 fo6_25 (ly32 hL)).trans ?_
  refine (at_iconst (v := 1) dc194_24 rfl).trans ?_
  refine (at_iadd dc194_25).trans ?_
  refine (at_pfI dc194_26 mc194 lf6_256 po6_25 (ly32 hL)).trans ?_
  rfl
theorem b194_29 {X : pm_X} {d : Nat} {x1 : Int32} {g : pm_G} {iv : pm_V}  : pm_at X d 194 (29, [some (.ref 32), some (.int x1)], [], g, iv) = some (none, g, iv) := by
  exact at_vret dc194_29 mr194
-- Mod.plainSize (I)I
theorem dc195_0 : decode (pm_mb 195) 0 = .ok (.aload_n 0, 1) := by decide +kernel
theorem dc195_1 : decode (pm_mb 195) 1 = .ok (.bipush 10, 2) := by decide +kernel
theorem dc195_3 : decode (pm_mb 195) 3 = .ok (.invokevirtual 259, 3) := by decide +kernel
theorem dc195_6 : decode (pm_mb 195) 6 = .ok (.aload_n 0, 1) := by decide +kernel
theorem dc195_7 : decode (pm_mb 195) 7 = .ok (.iload_n 1, 1) := by decide +kernel
theorem dc195_8 : decode (pm_mb 195) 8 = .ok (.iconst 3, 1) := by decide +kernel
theorem dc195_9 : decode (pm_mb 195) 9 = .ok (.invokevirtual 187, 3) := by decide +kernel
theorem dc195_12 : decode (pm_mb 195) 12 = .ok (.ireturn, 1) := by decide +kernel
theorem b195_0 {X : pm_X} {d : Nat} {x1 : Int32} {g : pm_G} {iv : pm_V} (hL : pm_lay g) : pm_at X d 195 (0, [some (.ref 32), some (.int x1)], [], g, iv) = pm_then X d 195 6 [some (.ref 32), some (.int x1)] [] (pm_c X d 194 [.ref 32, .int 10] g iv) := by
  refine (at_aload_n dc195_0 rfl).trans ?_
  refine (at_bipush (v := 10) dc195_1 (by decide)).trans ?_
  exact at_inv dc195_3 mc195 lm6_259 rfl rfl (Nat.le_of_ble_eq_true rfl) (Or.inl ⟨(ly32 hL), by decide⟩)
theorem b195_6 {X : pm_X} {d : Nat} {x1 : Int32} {g : pm_G} {iv : pm_V} (hL : pm_lay g) : pm_at X d 195 (6, [some (.ref 32), some (.int x1)], [], g, iv) = pm_then X d 195 12 [some (.ref 32), some (.int x1)] [] (pm_c X d 159 [.ref 32, .int x1, .int 3] g iv) := by
  refine (at_aload_n dc195_6 rfl).trans ?_
  refine (at_iload_n dc195_7 rfl).trans ?_
  refine (at_iconst (v := 3) dc195_8 rfl).trans ?_
  exact at_inv dc195_9 mc195 lm6_187 rfl rfl (Nat.le_of_ble_eq_true rfl) (Or.inl ⟨(ly32 hL), by decide⟩)
theorem b195_12 {X : pm_X} {d : Nat} {x1 : Int32} {s0 : Int32} {g : pm_G} {iv : pm_V}  : pm_at X d 195 (12, [some (.ref 32), some (.int x1)], [.int s0], g, iv) = some (some (.int s0), g, iv) := by
  exact at_iret dc195_12 mr195
-- Mod.churchSize (I)I
theorem dc196_0 : decode (pm_mb 196) 0 = .ok (.aload_n 0, 1) := by decide +kernel
theorem dc196_1 : decode (pm_mb 196) 1 = .ok (.iload_n 1, 1) := by decide +kernel
theorem dc196_2 : decode (pm_mb 196) 2 = .ok (.iconst 0, 1) := by decide +kernel
theorem dc196_3 : decode (pm_mb 196) 3 = .ok (.invokevirtual 187, 3) := by decide +kernel
theorem dc196_6 : decode (pm_mb 196) 6 = .ok (.iconst 2, 1) := by decide +kernel
theorem dc196_7 : decode (pm_mb 196) 7 = .ok (.if_icmp .ne 9, 3) := by decide +kernel
theorem dc196_10 : decode (pm_mb 196) 10 = .ok (.aload_n 0, 1) := by decide +kernel
theorem dc196_11 : decode (pm_mb 196) 11 = .ok (.bipush 14, 2) := by decide +kernel
theorem dc196_13 : decode (pm_mb 196) 13 = .ok (.invokevirtual 259, 3) := by decide +kernel
theorem dc196_16 : decode (pm_mb 196) 16 = .ok (.aload_n 0, 1) := by decide +kernel
theorem dc196_17 : decode (pm_mb 196) 17 = .ok (.bipush 13, 2) := by decide +kernel
theorem dc196_19 : decode (pm_mb 196) 19 = .ok (.invokevirtual 259, 3) := by decide +kernel
theorem dc196_22 : decode (pm_mb 196) 22 = .ok (.aload_n 0, 1) := by decide +kernel
theorem dc196_23 : decode (pm_mb 196) 23 = .ok (.iload_n 1, 1) := by decide +kernel
theorem dc196_24 : decode (pm_mb 196) 24 = .ok (.invokevirtual 262, 3) := by decide +kernel
theorem dc196_27 : decode (pm_mb 196) 27 = .ok (.bipush 100, 2) := by decide +kernel
theorem dc196_29 : decode (pm_mb 196) 29 = .ok (.isub, 1) := by decide +kernel
theorem dc196_30 : decode (pm_mb 196) 30 = .ok (.istore_n 2, 1) := by decide +kernel
theorem dc196_31 : decode (pm_mb 196) 31 = .ok (.aload_n 0, 1) := by decide +kernel
theorem dc196_32 : decode (pm_mb 196) 32 = .ok (.iload_n 1, 1) := by decide +kernel
theorem dc196_33 : decode (pm_mb 196) 33 = .ok (.iconst 0, 1) := by decide +kernel
theorem dc196_34 : decode (pm_mb 196) 34 = .ok (.invokevirtual 187, 3) := by decide +kernel
theorem dc196_37 : decode (pm_mb 196) 37 = .ok (.iconst 2, 1) := by decide +kernel
theorem dc196_38 : decode (pm_mb 196) 38 = .ok (.if_icmp .ne 9, 3) := by decide +kernel
theorem dc196_41 : decode (pm_mb 196) 41 = .ok (.iconst 2, 1) := by decide +kernel
theorem dc196_42 : decode (pm_mb 196) 42 = .ok (.iload_n 2, 1) := by decide +kernel
theorem dc196_43 : decode (pm_mb 196) 43 = .ok (.imul, 1) := by decide +kernel
theorem dc196_44 : decode (pm_mb 196) 44 = .ok (.goto 4, 3) := by decide +kernel
theorem dc196_47 : decode (pm_mb 196) 47 = .ok (.iload_n 2, 1) := by decide +kernel
theorem dc196_48 : decode (pm_mb 196) 48 = .ok (.ireturn, 1) := by decide +kernel
theorem b196_0 {X : pm_X} {d : Nat} {x1 : Int32} {g : pm_G} {iv : pm_V} (hL : pm_lay g) : pm_at X d 196 (0, [some (.ref 32), some (.int x1), none], [], g, iv) = pm_then X d 196 6 [some (.ref 32), some (.int x1), none] [] (pm_c X d 159 [.ref 32, .int x1, .int 0] g iv) := by
  refine (at_aload_n dc196_0 rfl).trans ?_
  refine (at_iload_n dc196_1 rfl).trans ?_
  refine (at_iconst (v := 0) dc196_2 rfl).trans ?_
  exact at_inv dc196_3 mc196 lm6_187 rfl rfl (Nat.le_of_ble_eq_true rfl) (Or.inl ⟨(ly32 hL), by decide⟩)
theorem b196_6 {X : pm_X} {d : Nat} {x1 : Int32} {s0 : Int32} {g : pm_G} {iv : pm_V}  : pm_at X d 196 (6, [some (.ref 32), some (.int x1), none], [.int s0], g, iv) = if ¬ s0 = 2 then pm_at X d 196 (16, [some (.ref 32), some (.int x1), none], [], g, iv) else pm_at X d 196 (10, [some (.ref 32), some (.int x1), none], [], g, iv) := by
  refine (at_iconst (v := 2) dc196_6 rfl).trans ?_
  exact at_icmp_ne (t := 16) dc196_7 (by decide)
theorem b196_10 {X : pm_X} {d : Nat} {x1 : Int32} {g : pm_G} {iv : pm_V} (hL : pm_lay g) : pm_at X d 196 (10, [some (.ref 32), some (.int x1), none], [], g, iv) = pm_then X d 196 16 [some (.ref 32), some (.int x1), none] [] (pm_c X d 194 [.ref 32, .int 14] g iv) := by
  refine (at_aload_n dc196_10 rfl).trans ?_
  refine (at_bipush (v := 14) dc196_11 (by decide)).trans ?_
  exact at_inv dc196_13 mc196 lm6_259 rfl rfl (Nat.le_of_ble_eq_true rfl) (Or.inl ⟨(ly32 hL), by decide⟩)
theorem b196_16 {X : pm_X} {d : Nat} {x1 : Int32} {g : pm_G} {iv : pm_V} (hL : pm_lay g) : pm_at X d 196 (16, [some (.ref 32), some (.int x1), none], [], g, iv) = pm_then X d 196 22 [some (.ref 32), some (.int x1), none] [] (pm_c X d 194 [.ref 32, .int 13] g iv) := by
  refine (at_aload_n dc196_16 rfl).trans ?_
  refine (at_bipush (v := 13) dc196_17 (by decide)).trans ?_
  exact at_inv dc196_19 mc196 lm6_259 rfl rfl (Nat.le_of_ble_eq_true rfl) (Or.inl ⟨(ly32 hL), by decide⟩)
theorem b196_22 {X : pm_X} {d : Nat} {x1 : Int32} {g : pm_G} {iv : pm_V} (hL : pm_lay g) : pm_at X d 196 (22, [some (.ref 32), some (.int x1), none], [], g, iv) = pm_then X d 196 27 [some (.ref 32), some (.int x1), none] [] (pm_c X d 195 [.ref 32, .int x1] g iv) := by
  refine (at_aload_n dc196_22 rfl).trans ?_
  refine (at_iload_n dc196_23 rfl).trans ?_
  exact at_inv dc196_24 mc196 lm6_262 rfl rfl (Nat.le_of_ble_eq_true rfl) (Or.inl ⟨(ly32 hL), by decide⟩)
theorem b196_27 {X : pm_X} {d : Nat} {x1 : Int32} {s0 : Int32} {g : pm_G} {iv : pm_V} (hL : pm_lay g) : pm_at X d 196 (27, [some (.ref 32), some (.int x1), none], [.int s0], g, iv) = pm_then X d 196 37 [some (.ref 32), some (.int x1), some (.int (s0 - 100))] [] (pm_c X d 159 [.ref 32, .int x1, .int 0] g iv) := by
  refine (at_bipush (v := 100) dc196_27 (by decide)).trans ?_
  refine (at_isub dc196_29).trans ?_
  refine (at_istore_n dc196_30 rfl).trans ?_
  refine (at_aload_n dc196_31 rfl).trans ?_
  refine (at_iload_n dc196_32 rfl).trans ?_
  refine (at_iconst (v := 0) dc196_33 rfl).trans ?_
  exact at_inv dc196_34 mc196 lm6_187 rfl rfl (Nat.le_of_ble_eq_true rfl) (Or.inl ⟨(ly32 hL), by decide⟩)
theorem b196_37 {X : pm_X} {d : Nat} {x1 : Int32} {x2 : Int32} {s0 : Int32} {g : pm_G} {iv : pm_V}  : pm_at X d 196 (37, [some (.ref 32), some (.int x1), some (.int x2)], [.int s0], g, iv) = if ¬ s0 = 2 then pm_at X d 196 (47, [some (.ref 32), some (.int x1), some (.int x2)], [], g, iv) else pm_at X d 196 (41, [some (.ref 32), some (.int x1), some (.int x2)], [], g, iv) := by
  refine (at_iconst (v := 2) dc196_37 rfl).trans ?_
  exact at_icmp_ne (t := 47) dc196_38 (by decide)
theorem b196_41 {X : pm_X} {d : Nat} {x1 : Int32} {x2 : Int32} {g : pm_G} {iv : pm_V}  : pm_at X d 196 (41, [some (.ref 32), some (.int x1), some (.int x2)], [], g, iv) = pm_at X d 196 (48, [some (.ref 32), some (.int x1), some (.int x2)], [.int (2 * x2)], g, iv) := by
  refine (at_iconst (v := 2) dc196_41 rfl).trans ?_
  refine (at_iload_n dc196_42 rfl).trans ?_
  refine (at_imul dc196_43).trans ?_
  refine (at_goto (t := 48) dc196_44 (by decide)).trans ?_
  rfl
theorem b196_47 {X : pm_X} {d : Nat} {x1 : Int32} {x2 : Int32} {g : pm_G} {iv : pm_V}  : pm_at X d 196 (47, [some (.ref 32), some (.int x1), some (.int x2)], [], g, iv) = pm_at X d 196 (48, [some (.ref 32), some (.int x1), some (.int x2)], [.int x2], g, iv) := by
  refine (at_iload_n dc196_47 rfl).trans ?_
  rfl
theorem b196_48 {X : pm_X} {d : Nat} {x1 : Int32} {x2 : Int32} {s0 : Int32} {g : pm_G} {iv : pm_V}  : pm_at X d 196 (48, [some (.ref 32), some (.int x1), some (.int x2)], [.int s0], g, iv) = some (some (.int s0), g, iv) := by
  exact at_iret dc196_48 mr196
-- Mod.markOf (I)I
theorem dc197_0 : decode (pm_mb 197) 0 = .ok (.aload_n 0, 1) := by decide +kernel
theorem dc197_1 : decode (pm_mb 197) 1 = .ok (.iload_n 1, 1) := by decide +kernel
theorem dc197_2 : decode (pm_mb 197) 2 = .ok (.iconst 0, 1) := by decide +kernel
theorem dc197_3 : decode (pm_mb 197) 3 = .ok (.invokevirtual 187, 3) := by decide +kernel
theorem dc197_6 : decode (pm_mb 197) 6 = .ok (.istore_n 2, 1) := by decide +kernel
theorem dc197_7 : decode (pm_mb 197) 7 = .ok (.iload_n 2, 1) := by decide +kernel
theorem dc197_8 : decode (pm_mb 197) 8 = .ok (.iconst 2, 1) := by decide +kernel
theorem dc197_9 : decode (pm_mb 197) 9 = .ok (.if_icmp .gt 23, 3) := by decide +kernel
theorem dc197_12 : decode (pm_mb 197) 12 = .ok (.aload_n 0, 1) := by decide +kernel
theorem dc197_13 : decode (pm_mb 197) 13 = .ok (.bipush 23, 2) := by decide +kernel
theorem dc197_15 : decode (pm_mb 197) 15 = .ok (.invokevirtual 259, 3) := by decide +kernel
theorem dc197_18 : decode (pm_mb 197) 18 = .ok (.aload_n 0, 1) := by decide +kernel
theorem dc197_19 : decode (pm_mb 197) 19 = .ok (.bipush 20, 2) := by decide +kernel
theorem dc197_21 : decode (pm_mb 197) 21 = .ok (.invokevirtual 259, 3) := by decide +kernel
theorem dc197_24 : decode (pm_mb 197) 24 = .ok (.iload_n 1, 1) := by decide +kernel
theorem dc197_25 : decode (pm_mb 197) 25 = .ok (.aload_n 0, 1) := by decide +kernel
theorem dc197_26 : decode (pm_mb 197) 26 = .ok (.iload_n 1, 1) := by decide +kernel
theorem dc197_27 : decode (pm_mb 197) 27 = .ok (.invokevirtual 265, 3) := by decide +kernel
theorem dc197_30 : decode (pm_mb 197) 30 = .ok (.isub, 1) := by decide +kernel
theorem dc197_31 : decode (pm_mb 197) 31 = .ok (.ireturn, 1) := by decide +kernel
theorem dc197_32 : decode (pm_mb 197) 32 = .ok (.iload_n 2, 1) := by decide +kernel
theorem dc197_33 : decode (pm_mb 197) 33 = .ok (.iconst 3, 1) := by decide +kernel
theorem dc197_34 : decode (pm_mb 197) 34 = .ok (.if_icmp .eq 19, 3) := by decide +kernel
theorem dc197_37 : decode (pm_mb 197) 37 = .ok (.aload_n 0, 1) := by decide +kernel
theorem dc197_38 : decode (pm_mb 197) 38 = .ok (.iload_n 2, 1) := by decide +kernel
theorem dc197_39 : decode (pm_mb 197) 39 = .ok (.iconst 5, 1) := by decide +kernel
theorem dc197_40 : decode (pm_mb 197) 40 = .ok (.if_icmp .ne 8, 3) := by decide +kernel
theorem dc197_43 : decode (pm_mb 197) 43 = .ok (.bipush 22, 2) := by decide +kernel
theorem dc197_45 : decode (pm_mb 197) 45 = .ok (.goto 5, 3) := by decide +kernel
theorem dc197_48 : decode (pm_mb 197) 48 = .ok (.bipush 24, 2) := by decide +kernel
theorem dc197_50 : decode (pm_mb 197) 50 = .ok (.invokevirtual 259, 3) := by decide +kernel
theorem dc197_53 : decode (pm_mb 197) 53 = .ok (.aload_n 0, 1) := by decide +kernel
theorem dc197_54 : decode (pm_mb 197) 54 = .ok (.bipush 21, 2) := by decide +kernel
theorem dc197_56 : decode (pm_mb 197) 56 = .ok (.invokevirtual 259, 3) := by decide +kernel
theorem dc197_59 : decode (pm_mb 197) 59 = .ok (.aload_n 0, 1) := by decide +kernel
theorem dc197_60 : decode (pm_mb 197) 60 = .ok (.bipush 20, 2) := by decide +kernel
theorem dc197_62 : decode (pm_mb 197) 62 = .ok (.invokevirtual 259, 3) := by decide +kernel
theorem dc197_65 : decode (pm_mb 197) 65 = .ok (.iload_n 1, 1) := by decide +kernel
theorem dc197_66 : decode (pm_mb 197) 66 = .ok (.aload_n 0, 1) := by decide +kernel
theorem dc197_67 : decode (pm_mb 197) 67 = .ok (.iload_n 1, 1) := by decide +kernel
theorem dc197_68 : decode (pm_mb 197) 68 = .ok (.iconst 2, 1) := by decide +kernel
theorem dc197_69 : decode (pm_mb 197) 69 = .ok (.invokevirtual 187, 3) := by decide +kernel
theorem dc197_72 : decode (pm_mb 197) 72 = .ok (.iadd, 1) := by decide +kernel
theorem dc197_73 : decode (pm_mb 197) 73 = .ok (.istore_n 3, 1) := by decide +kernel
theorem dc197_74 : decode (pm_mb 197) 74 = .ok (.iload_n 2, 1) := by decide +kernel
theorem dc197_75 : decode (pm_mb 197) 75 = .ok (.iconst 3, 1) := by decide +kernel
theorem dc197_76 : decode (pm_mb 197) 76 = .ok (.if_icmp .ne 7, 3) := by decide +kernel
theorem dc197_79 : decode (pm_mb 197) 79 = .ok (.iload_n 3, 1) := by decide +kernel
theorem dc197_80 : decode (pm_mb 197) 80 = .ok (.goto 19, 3) := by decide +kernel
theorem dc197_83 : decode (pm_mb 197) 83 = .ok (.iload_n 2, 1) := by decide +kernel
theorem dc197_84 : decode (pm_mb 197) 84 = .ok (.iconst 5, 1) := by decide +kernel
theorem dc197_85 : decode (pm_mb 197) 85 = .ok (.if_icmp .ne 11, 3) := by decide +kernel
theorem dc197_88 : decode (pm_mb 197) 88 = .ok (.iload_n 3, 1) := by decide +kernel
theorem dc197_89 : decode (pm_mb 197) 89 = .ok (.sipush 1000, 3) := by decide +kernel
theorem dc197_92 : decode (pm_mb 197) 92 = .ok (.isub, 1) := by decide +kernel
theorem dc197_93 : decode (pm_mb 197) 93 = .ok (.goto 6, 3) := by decide +kernel
theorem dc197_96 : decode (pm_mb 197) 96 = .ok (.iconst 2, 1) := by decide +kernel
theorem dc197_97 : decode (pm_mb 197) 97 = .ok (.iload_n 3, 1) := by decide +kernel
theorem dc197_98 : decode (pm_mb 197) 98 = .ok (.imul, 1) := by decide +kernel
theorem dc197_99 : decode (pm_mb 197) 99 = .ok (.ireturn, 1) := by decide +kernel
theorem b197_0 {X : pm_X} {d : Nat} {x1 : Int32} {g : pm_G} {iv : pm_V} (hL : pm_lay g) : pm_at X d 197 (0, [some (.ref 32), some (.int x1), none, none], [], g, iv) = pm_then X d 197 6 [some (.ref 32), some (.int x1), none, none] [] (pm_c X d 159 [.ref 32, .int x1, .int 0] g iv) := by
  refine (at_aload_n dc197_0 rfl).trans ?_
  refine (at_iload_n dc197_1 rfl).trans ?_
  refine (at_iconst (v := 0) dc197_2 rfl).trans ?_
  exact at_inv dc197_3 mc197 lm6_187 rfl rfl (Nat.le_of_ble_eq_true rfl) (Or.inl ⟨(ly32 hL), by decide⟩)
theorem b197_6 {X : pm_X} {d : Nat} {x1 : Int32} {s0 : Int32} {g : pm_G} {iv : pm_V}  : pm_at X d 197 (6, [some (.ref 32), some (.int x1), none, none], [.int s0], g, iv) = if 2 < s0 then pm_at X d 197 (32, [some (.ref 32), some (.int x1), some (.int s0), none], [], g, iv) else pm_at X d 197 (12, [some (.ref 32), some (.int x1), some (.int s0), none], [], g, iv) := by
  refine (at_istore_n dc197_6 rfl).trans ?_
  refine (at_iload_n dc197_7 rfl).trans ?_
  refine (at_iconst (v := 2) dc197_8 rfl).trans ?_
  exact at_icmp_gt (t := 32) dc197_9 (by decide)
theorem b197_12 {X : pm_X} {d : Nat} {x1 : Int32} {x2 : Int32} {g : pm_G} {iv : pm_V} (hL : pm_lay g) : pm_at X d 197 (12, [some (.ref 32), some (.int x1), some (.int x2), none], [], g, iv) = pm_then X d 197 18 [some (.ref 32), some (.int x1), some (.int x2), none] [] (pm_c X d 194 [.ref 32, .int 23] g iv) := by
  refine (at_aload_n dc197_12 rfl).trans ?_
  refine (at_bipush (v := 23) dc197_13 (by decide)).trans ?_
  exact at_inv dc197_15 mc197 lm6_259 rfl rfl (Nat.le_of_ble_eq_true rfl) (Or.inl ⟨(ly32 hL), by decide⟩)
theorem b197_18 {X : pm_X} {d : Nat} {x1 : Int32} {x2 : Int32} {g : pm_G} {iv : pm_V} (hL : pm_lay g) : pm_at X d 197 (18, [some (.ref 32), some (.int x1), some (.int x2), none], [], g, iv) = pm_then X d 197 24 [some (.ref 32), some (.int x1), some (.int x2), none] [] (pm_c X d 194 [.ref 32, .int 20] g iv) := by
  refine (at_aload_n dc197_18 rfl).trans ?_
  refine (at_bipush (v := 20) dc197_19 (by decide)).trans ?_
  exact at_inv dc197_21 mc197 lm6_259 rfl rfl (Nat.le_of_ble_eq_true rfl) (Or.inl ⟨(ly32 hL), by decide⟩)
theorem b197_24 {X : pm_X} {d : Nat} {x1 : Int32} {x2 : Int32} {g : pm_G} {iv : pm_V} (hL : pm_lay g) : pm_at X d 197 (24, [some (.ref 32), some (.int x1), some (.int x2), none], [], g, iv) = pm_then X d 197 30 [some (.ref 32), some (.int x1), some (.int x2), none] [.int x1] (pm_c X d 196 [.ref 32, .int x1] g iv) := by
  refine (at_iload_n dc197_24 rfl).trans ?_
  refine (at_aload_n dc197_25 rfl).trans ?_
  refine (at_iload_n dc197_26 rfl).trans ?_
  exact at_inv dc197_27 mc197 lm6_265 rfl rfl (Nat.le_of_ble_eq_true rfl) (Or.inl ⟨(ly32 hL), by decide⟩)
theorem b197_30 {X : pm_X} {d : Nat} {x1 : Int32} {x2 : Int32} {s0 : Int32} {s1 : Int32} {g : pm_G} {iv : pm_V}  : pm_at X d 197 (30, [some (.ref 32), some (.int x1), some (.int x2), none], [.int s0, .int s1], g, iv) = some (some (.int (s1 - s0)), g, iv) := by
  refine (at_isub dc197_30).trans ?_
  exact at_iret dc197_31 mr197
theorem b197_32 {X : pm_X} {d : Nat} {x1 : Int32} {x2 : Int32} {g : pm_G} {iv : pm_V}  : pm_at X d 197 (32, [some (.ref 32), some (.int x1), some (.int x2), none], [], g, iv) = if x2 = 3 then pm_at X d 197 (53, [some (.ref 32), some (.int x1), some (.int x2), none], [], g, iv) else pm_at X d 197 (37, [some (.ref 32), some (.int x1), some (.int x2), none], [], g, iv) := by
  refine (at_iload_n dc197_32 rfl).trans ?_
  refine (at_iconst (v := 3) dc197_33 rfl).trans ?_
  exact at_icmp_eq (t := 53) dc197_34 (by decide)
theorem b197_37 {X : pm_X} {d : Nat} {x1 : Int32} {x2 : Int32} {g : pm_G} {iv : pm_V}  : pm_at X d 197 (37, [some (.ref 32), some (.int x1), some (.int x2), none], [], g, iv) = if ¬ x2 = 5 then pm_at X d 197 (48, [some (.ref 32), some (.int x1), some (.int x2), none], [.ref 32], g, iv) else pm_at X d 197 (43, [some (.ref 32), some (.int x1), some (.int x2), none], [.ref 32], g, iv) := by
  refine (at_aload_n dc197_37 rfl).trans ?_
  refine (at_iload_n dc197_38 rfl).trans ?_
  refine (at_iconst (v := 5) dc197_39 rfl).trans ?_
  exact at_icmp_ne (t := 48) dc197_40 (by decide)
theorem b197_43 {X : pm_X} {d : Nat} {x1 : Int32} {x2 : Int32} {g : pm_G} {iv : pm_V}  : pm_at X d 197 (43, [some (.ref 32), some (.int x1), some (.int x2), none], [.ref 32], g, iv) = pm_at X d 197 (50, [some (.ref 32), some (.int x1), some (.int x2), none], [.int 22, .ref 32], g, iv) := by
  refine (at_bipush (v := 22) dc197_43 (by decide)).trans ?_
  refine (at_goto (t := 50) dc197_45 (by decide)).trans ?_
  rfl
theorem b197_48 {X : pm_X} {d : Nat} {x1 : Int32} {x2 : Int32} {g : pm_G} {iv : pm_V}  : pm_at X d 197 (48, [some (.ref 32), some (.int x1), some (.int x2), none], [.ref 32], g, iv) = pm_at X d 197 (50, [some (.ref 32), some (.int x1), some (.int x2), none], [.int 24, .ref 32], g, iv) := by
  refine (at_bipush (v := 24) dc197_48 (by decide)).trans ?_
  rfl
theorem b197_50 {X : pm_X} {d : Nat} {x1 : Int32} {x2 : Int32} {s0 : Int32} {g : pm_G} {iv : pm_V} (hL : pm_lay g) : pm_at X d 197 (50, [some (.ref 32), some (.int x1), some (.int x2), none], [.int s0, .ref 32], g, iv) = pm_then X d 197 53 [some (.ref 32), some (.int x1), some (.int x2), none] [] (pm_c X d 194 [.ref 32, .int s0] g iv) := by
  exact at_inv dc197_50 mc197 lm6_259 rfl rfl (Nat.le_of_ble_eq_true rfl) (Or.inl ⟨(ly32 hL), by decide⟩)
theorem b197_53 {X : pm_X} {d : Nat} {x1 : Int32} {x2 : Int32} {g : pm_G} {iv : pm_V} (hL : pm_lay g) : pm_at X d 197 (53, [some (.ref 32), some (.int x1), some (.int x2), none], [], g, iv) = pm_then X d 197 59 [some (.ref 32), some (.int x1), some (.int x2), none] [] (pm_c X d 194 [.ref 32, .int 21] g iv) := by
  refine (at_aload_n dc197_53 rfl).trans ?_
  refine (at_bipush (v := 21) dc197_54 (by decide)).trans ?_
  exact at_inv dc197_56 mc197 lm6_259 rfl rfl (Nat.le_of_ble_eq_true rfl) (Or.inl ⟨(ly32 hL), by decide⟩)
theorem b197_59 {X : pm_X} {d : Nat} {x1 : Int32} {x2 : Int32} {g : pm_G} {iv : pm_V} (hL : pm_lay g) : pm_at X d 197 (59, [some (.ref 32), some (.int x1), some (.int x2), none], [], g, iv) = pm_then X d 197 65 [some (.ref 32), some (.int x1), some (.int x2), none] [] (pm_c X d 194 [.ref 32, .int 20] g iv) := by
  refine (at_aload_n dc197_59 rfl).trans ?_
  refine (at_bipush (v := 20) dc197_60 (by decide)).trans ?_
  exact at_inv dc197_62 mc197 lm6_259 rfl rfl (Nat.le_of_ble_eq_true rfl) (Or.inl ⟨(ly32 hL), by decide⟩)
theorem b197_65 {X : pm_X} {d : Nat} {x1 : Int32} {x2 : Int32} {g : pm_G} {iv : pm_V} (hL : pm_lay g) : pm_at X d 197 (65, [some (.ref 32), some (.int x1), some (.int x2), none], [], g, iv) = pm_then X d 197 72 [some (.ref 32), some (.int x1), some (.int x2), none] [.int x1] (pm_c X d 159 [.ref 32, .int x1, .int 2] g iv) := by
  refine (at_iload_n dc197_65 rfl).trans ?_
  refine (at_aload_n dc197_66 rfl).trans ?_
  refine (at_iload_n dc197_67 rfl).trans ?_
  refine (at_iconst (v := 2) dc197_68 rfl).trans ?_
  exact at_inv dc197_69 mc197 lm6_187 rfl rfl (Nat.le_of_ble_eq_true rfl) (Or.inl ⟨(ly32 hL), by decide⟩)
theorem b197_72 {X : pm_X} {d : Nat} {x1 : Int32} {x2 : Int32} {s0 : Int32} {s1 : Int32} {g : pm_G} {iv : pm_V}  : pm_at X d 197 (72, [some (.ref 32), some (.int x1), some (.int x2), none], [.int s0, .int s1], g, iv) = if ¬ x2 = 3 then pm_at X d 197 (83, [some (.ref 32), some (.int x1), some (.int x2), some (.int (s1 + s0))], [], g, iv) else pm_at X d 197 (79, [some (.ref 32), some (.int x1), some (.int x2), some (.int (s1 + s0))], [], g, iv) := by
  refine (at_iadd dc197_72).trans ?_
  refine (at_istore_n dc197_73 rfl).trans ?_
  refine (at_iload_n dc197_74 rfl).trans ?_
  refine (at_iconst (v := 3) dc197_75 rfl).trans ?_
  exact at_icmp_ne (t := 83) dc197_76 (by decide)
theorem b197_79 {X : pm_X} {d : Nat} {x1 : Int32} {x2 : Int32} {x3 : Int32} {g : pm_G} {iv : pm_V}  : pm_at X d 197 (79, [some (.ref 32), some (.int x1), some (.int x2), some (.int x3)], [], g, iv) = pm_at X d 197 (99, [some (.ref 32), some (.int x1), some (.int x2), some (.int x3)], [.int x3], g, iv) := by
  refine (at_iload_n dc197_79 rfl).trans ?_
  refine (at_goto (t := 99) dc197_80 (by decide)).trans ?_
  rfl
theorem b197_83 {X : pm_X} {d : Nat} {x1 : Int32} {x2 : Int32} {x3 : Int32} {g : pm_G} {iv : pm_V}  : pm_at X d 197 (83, [some (.ref 32), some (.int x1), some (.int x2), some (.int x3)], [], g, iv) = if ¬ x2 = 5 then pm_at X d 197 (96, [some (.ref 32), some (.int x1), some (.int x2), some (.int x3)], [], g, iv) else pm_at X d 197 (88, [some (.ref 32), some (.int x1), some (.int x2), some (.int x3)], [], g, iv) := by
  refine (at_iload_n dc197_83 rfl).trans ?_
  refine (at_iconst (v := 5) dc197_84 rfl).trans ?_
  exact at_icmp_ne (t := 96) dc197_85 (by decide)
theorem b197_88 {X : pm_X} {d : Nat} {x1 : Int32} {x2 : Int32} {x3 : Int32} {g : pm_G} {iv : pm_V}  : pm_at X d 197 (88, [some (.ref 32), some (.int x1), some (.int x2), some (.int x3)], [], g, iv) = pm_at X d 197 (99, [some (.ref 32), some (.int x1), some (.int x2), some (.int x3)], [.int (x3 - 1000)], g, iv) := by
  refine (at_iload_n dc197_88 rfl).trans ?_
  refine (at_sipush (v := 1000) dc197_89 (by decide)).trans ?_
  refine (at_isub dc197_92).trans ?_
  refine (at_goto (t := 99) dc197_93 (by decide)).trans ?_
  rfl
theorem b197_96 {X : pm_X} {d : Nat} {x1 : Int32} {x2 : Int32} {x3 : Int32} {g : pm_G} {iv : pm_V}  : pm_at X d 197 (96, [some (.ref 32), some (.int x1), some (.int x2), some (.int x3)], [], g, iv) = pm_at X d 197 (99, [some (.ref 32), some (.int x1), some (.int x2), some (.int x3)], [.int (2 * x3)], g, iv) := by
  refine (at_iconst (v := 2) dc197_96 rfl).trans ?_
  refine (at_iload_n dc197_97 rfl).trans ?_
  refine (at_imul dc197_98).trans ?_
  rfl
theorem b197_99 {X : pm_X} {d : Nat} {x1 : Int32} {x2 : Int32} {x3 : Int32} {s0 : Int32} {g : pm_G} {iv : pm_V}  : pm_at X d 197 (99, [some (.ref 32), some (.int x1), some (.int x2), some (.int x3)], [.int s0], g, iv) = some (some (.int s0), g, iv) := by
  exact at_iret dc197_99 mr197
-- Mod.sizeOf (I)I
theorem dc198_0 : decode (pm_mb 198) 0 = .ok (.aload_n 0, 1) := by decide +kernel
theorem dc198_1 : decode (pm_mb 198) 1 = .ok (.iload_n 1, 1) := by decide +kernel
theorem dc198_2 : decode (pm_mb 198) 2 = .ok (.iconst 0, 1) := by decide +kernel
theorem dc198_3 : decode (pm_mb 198) 3 = .ok (.invokevirtual 187, 3) := by decide +kernel
theorem dc198_6 : decode (pm_mb 198) 6 = .ok (.istore_n 2, 1) := by decide +kernel
theorem dc198_7 : decode (pm_mb 198) 7 = .ok (.iload_n 2, 1) := by decide +kernel
theorem dc198_8 : decode (pm_mb 198) 8 = .ok (.iconst 2, 1) := by decide +kernel
theorem dc198_9 : decode (pm_mb 198) 9 = .ok (.if_icmp .gt 9, 3) := by decide +kernel
theorem dc198_12 : decode (pm_mb 198) 12 = .ok (.aload_n 0, 1) := by decide +kernel
theorem dc198_13 : decode (pm_mb 198) 13 = .ok (.iload_n 1, 1) := by decide +kernel
theorem dc198_14 : decode (pm_mb 198) 14 = .ok (.invokevirtual 265, 3) := by decide +kernel
theorem dc198_17 : decode (pm_mb 198) 17 = .ok (.ireturn, 1) := by decide +kernel
theorem dc198_18 : decode (pm_mb 198) 18 = .ok (.iload_n 2, 1) := by decide +kernel
theorem dc198_19 : decode (pm_mb 198) 19 = .ok (.iconst 4, 1) := by decide +kernel
theorem dc198_20 : decode (pm_mb 198) 20 = .ok (.if_icmp .ne 9, 3) := by decide +kernel
theorem dc198_23 : decode (pm_mb 198) 23 = .ok (.aload_n 0, 1) := by decide +kernel
theorem dc198_24 : decode (pm_mb 198) 24 = .ok (.bipush 12, 2) := by decide +kernel
theorem dc198_26 : decode (pm_mb 198) 26 = .ok (.invokevirtual 259, 3) := by decide +kernel
theorem dc198_29 : decode (pm_mb 198) 29 = .ok (.aload_n 0, 1) := by decide +kernel
theorem dc198_30 : decode (pm_mb 198) 30 = .ok (.bipush 11, 2) := by decide +kernel
theorem dc198_32 : decode (pm_mb 198) 32 = .ok (.invokevirtual 259, 3) := by decide +kernel
theorem dc198_35 : decode (pm_mb 198) 35 = .ok (.aload_n 0, 1) := by decide +kernel
theorem dc198_36 : decode (pm_mb 198) 36 = .ok (.iload_n 1, 1) := by decide +kernel
theorem dc198_37 : decode (pm_mb 198) 37 = .ok (.invokevirtual 262, 3) := by decide +kernel
theorem dc198_40 : decode (pm_mb 198) 40 = .ok (.istore_n 3, 1) := by decide +kernel
theorem dc198_41 : decode (pm_mb 198) 41 = .ok (.iload_n 3, 1) := by decide +kernel
theorem dc198_42 : decode (pm_mb 198) 42 = .ok (.aload_n 0, 1) := by decide +kernel
theorem dc198_43 : decode (pm_mb 198) 43 = .ok (.iload_n 1, 1) := by decide +kernel
theorem dc198_44 : decode (pm_mb 198) 44 = .ok (.invokevirtual 268, 3) := by decide +kernel
theorem dc198_47 : decode (pm_mb 198) 47 = .ok (.iadd, 1) := by decide +kernel
theorem dc198_48 : decode (pm_mb 198) 48 = .ok (.istore_n 3, 1) := by decide +kernel
theorem dc198_49 : decode (pm_mb 198) 49 = .ok (.iload_n 2, 1) := by decide +kernel
theorem dc198_50 : decode (pm_mb 198) 50 = .ok (.iconst 4, 1) := by decide +kernel
theorem dc198_51 : decode (pm_mb 198) 51 = .ok (.if_icmp .ne 8, 3) := by decide +kernel
theorem dc198_54 : decode (pm_mb 198) 54 = .ok (.iload_n 3, 1) := by decide +kernel
theorem dc198_55 : decode (pm_mb 198) 55 = .ok (.ineg, 1) := by decide +kernel
theorem dc198_56 : decode (pm_mb 198) 56 = .ok (.goto 4, 3) := by decide +kernel
theorem dc198_59 : decode (pm_mb 198) 59 = .ok (.iload_n 3, 1) := by decide +kernel
theorem dc198_60 : decode (pm_mb 198) 60 = .ok (.ireturn, 1) := by decide +kernel
theorem b198_0 {X : pm_X} {d : Nat} {x1 : Int32} {g : pm_G} {iv : pm_V} (hL : pm_lay g) : pm_at X d 198 (0, [some (.ref 32), some (.int x1), none, none], [], g, iv) = pm_then X d 198 6 [some (.ref 32), some (.int x1), none, none] [] (pm_c X d 159 [.ref 32, .int x1, .int 0] g iv) := by
  refine (at_aload_n dc198_0 rfl).trans ?_
  refine (at_iload_n dc198_1 rfl).trans ?_
  refine (at_iconst (v := 0) dc198_2 rfl).trans ?_
  exact at_inv dc198_3 mc198 lm6_187 rfl rfl (Nat.le_of_ble_eq_true rfl) (Or.inl ⟨(ly32 hL), by decide⟩)
theorem b198_6 {X : pm_X} {d : Nat} {x1 : Int32} {s0 : Int32} {g : pm_G} {iv : pm_V}  : pm_at X d 198 (6, [some (.ref 32), some (.int x1), none, none], [.int s0], g, iv) = if 2 < s0 then pm_at X d 198 (18, [some (.ref 32), some (.int x1), some (.int s0), none], [], g, iv) else pm_at X d 198 (12, [some (.ref 32), some (.int x1), some (.int s0), none], [], g, iv) := by
  refine (at_istore_n dc198_6 rfl).trans ?_
  refine (at_iload_n dc198_7 rfl).trans ?_
  refine (at_iconst (v := 2) dc198_8 rfl).trans ?_
  exact at_icmp_gt (t := 18) dc198_9 (by decide)
theorem b198_12 {X : pm_X} {d : Nat} {x1 : Int32} {x2 : Int32} {g : pm_G} {iv : pm_V} (hL : pm_lay g) : pm_at X d 198 (12, [some (.ref 32), some (.int x1), some (.int x2), none], [], g, iv) = pm_then X d 198 17 [some (.ref 32), some (.int x1), some (.int x2), none] [] (pm_c X d 196 [.ref 32, .int x1] g iv) := by
  refine (at_aload_n dc198_12 rfl).trans ?_
  refine (at_iload_n dc198_13 rfl).trans ?_
  exact at_inv dc198_14 mc198 lm6_265 rfl rfl (Nat.le_of_ble_eq_true rfl) (Or.inl ⟨(ly32 hL), by decide⟩)
theorem b198_17 {X : pm_X} {d : Nat} {x1 : Int32} {x2 : Int32} {s0 : Int32} {g : pm_G} {iv : pm_V}  : pm_at X d 198 (17, [some (.ref 32), some (.int x1), some (.int x2), none], [.int s0], g, iv) = some (some (.int s0), g, iv) := by
  exact at_iret dc198_17 mr198
theorem b198_18 {X : pm_X} {d : Nat} {x1 : Int32} {x2 : Int32} {g : pm_G} {iv : pm_V}  : pm_at X d 198 (18, [some (.ref 32), some (.int x1), some (.int x2), none], [], g, iv) = if ¬ x2 = 4 then pm_at X d 198 (29, [some (.ref 32), some (.int x1), some (.int x2), none], [], g, iv) else pm_at X d 198 (23, [some (.ref 32), some (.int x1), some (.int x2), none], [], g, iv) := by
  refine (at_iload_n dc198_18 rfl).trans ?_
  refine (at_iconst (v := 4) dc198_19 rfl).trans ?_
  exact at_icmp_ne (t := 29) dc198_20 (by decide)
theorem b198_23 {X : pm_X} {d : Nat} {x1 : Int32} {x2 : Int32} {g : pm_G} {iv : pm_V} (hL : pm_lay g) : pm_at X d 198 (23, [some (.ref 32), some (.int x1), some (.int x2), none], [], g, iv) = pm_then X d 198 29 [some (.ref 32), some (.int x1), some (.int x2), none] [] (pm_c X d 194 [.ref 32, .int 12] g iv) := by
  refine (at_aload_n dc198_23 rfl).trans ?_
  refine (at_bipush (v := 12) dc198_24 (by decide)).trans ?_
  exact at_inv dc198_26 mc198 lm6_259 rfl rfl (Nat.le_of_ble_eq_true rfl) (Or.inl ⟨(ly32 hL), by decide⟩)
theorem b198_29 {X : pm_X} {d : Nat} {x1 : Int32} {x2 : Int32} {g : pm_G} {iv : pm_V} (hL : pm_lay g) : pm_at X d 198 (29, [some (.ref 32), some (.int x1), some (.int x2), none], [], g, iv) = pm_then X d 198 35 [some (.ref 32), some (.int x1), some (.int x2), none] [] (pm_c X d 194 [.ref 32, .int 11] g iv) := by
  refine (at_aload_n dc198_29 rfl).trans ?_
  refine (at_bipush (v := 11) dc198_30 (by decide)).trans ?_
  exact at_inv dc198_32 mc198 lm6_259 rfl rfl (Nat.le_of_ble_eq_true rfl) (Or.inl ⟨(ly32 hL), by decide⟩)
theorem b198_35 {X : pm_X} {d : Nat} {x1 : Int32} {x2 : Int32} {g : pm_G} {iv : pm_V} (hL : pm_lay g) : pm_at X d 198 (35, [some (.ref 32), some (.int x1), some (.int x2), none], [], g, iv) = pm_then X d 198 40 [some (.ref 32), some (.int x1), some (.int x2), none] [] (pm_c X d 195 [.ref 32, .int x1] g iv) := by
  refine (at_aload_n dc198_35 rfl).trans ?_
  refine (at_iload_n dc198_36 rfl).trans ?_
  exact at_inv dc198_37 mc198 lm6_262 rfl rfl (Nat.le_of_ble_eq_true rfl) (Or.inl ⟨(ly32 hL), by decide⟩)
theorem b198_40 {X : pm_X} {d : Nat} {x1 : Int32} {x2 : Int32} {s0 : Int32} {g : pm_G} {iv : pm_V} (hL : pm_lay g) : pm_at X d 198 (40, [some (.ref 32), some (.int x1), some (.int x2), none], [.int s0], g, iv) = pm_then X d 198 47 [some (.ref 32), some (.int x1), some (.int x2), some (.int s0)] [.int s0] (pm_c X d 197 [.ref 32, .int x1] g iv) := by
  refine (at_istore_n dc198_40 rfl).trans ?_
  refine (at_iload_n dc198_41 rfl).trans ?_
  refine (at_aload_n dc198_42 rfl).trans ?_
  refine (at_iload_n dc198_43 rfl).trans ?_
  exact at_inv dc198_44 mc198 lm6_268 rfl rfl (Nat.le_of_ble_eq_true rfl) (Or.inl ⟨(ly32 hL), by decide⟩)
theorem b198_47 {X : pm_X} {d : Nat} {x1 : Int32} {x2 : Int32} {x3 : Int32} {s0 : Int32} {s1 : Int32} {g : pm_G} {iv : pm_V}  : pm_at X d 198 (47, [some (.ref 32), some (.int x1), some (.int x2), some (.int x3)], [.int s0, .int s1], g, iv) = if ¬ x2 = 4 then pm_at X d 198 (59, [some (.ref 32), some (.int x1), some (.int x2), some (.int (s1 + s0))], [], g, iv) else pm_at X d 198 (54, [some (.ref 32), some (.int x1), some (.int x2), some (.int (s1 + s0))], [], g, iv) := by
  refine (at_iadd dc198_47).trans ?_
  refine (at_istore_n dc198_48 rfl).trans ?_
  refine (at_iload_n dc198_49 rfl).trans ?_
  refine (at_iconst (v := 4) dc198_50 rfl).trans ?_
  exact at_icmp_ne (t := 59) dc198_51 (by decide)
theorem b198_54 {X : pm_X} {d : Nat} {x1 : Int32} {x2 : Int32} {x3 : Int32} {g : pm_G} {iv : pm_V}  : pm_at X d 198 (54, [some (.ref 32), some (.int x1), some (.int x2), some (.int x3)], [], g, iv) = pm_at X d 198 (60, [some (.ref 32), some (.int x1), some (.int x2), some (.int x3)], [.int (-x3)], g, iv) := by
  refine (at_iload_n dc198_54 rfl).trans ?_
  refine (at_ineg dc198_55).trans ?_
  refine (at_goto (t := 60) dc198_56 (by decide)).trans ?_
  rfl
theorem b198_59 {X : pm_X} {d : Nat} {x1 : Int32} {x2 : Int32} {x3 : Int32} {g : pm_G} {iv : pm_V}  : pm_at X d 198 (59, [some (.ref 32), some (.int x1), some (.int x2), some (.int x3)], [], g, iv) = pm_at X d 198 (60, [some (.ref 32), some (.int x1), some (.int x2), some (.int x3)], [.int x3], g, iv) := by
  refine (at_iload_n dc198_59 rfl).trans ?_
  rfl
theorem b198_60 {X : pm_X} {d : Nat} {x1 : Int32} {x2 : Int32} {x3 : Int32} {s0 : Int32} {g : pm_G} {iv : pm_V}  : pm_at X d 198 (60, [some (.ref 32), some (.int x1), some (.int x2), some (.int x3)], [.int s0], g, iv) = some (some (.int s0), g, iv) := by
  exact at_iret dc198_60 mr198
-- Mod.ask (II)I
theorem dc199_0 : decode (pm_mb 199) 0 = .ok (.aload_n 0, 1) := by decide +kernel
theorem dc199_1 : decode (pm_mb 199) 1 = .ok (.iconst 0, 1) := by decide +kernel
theorem dc199_2 : decode (pm_mb 199) 2 = .ok (.putfield 50, 3) := by decide +kernel
theorem dc199_5 : decode (pm_mb 199) 5 = .ok (.aload_n 0, 1) := by decide +kernel
theorem dc199_6 : decode (pm_mb 199) 6 = .ok (.iload_n 1, 1) := by decide +kernel
theorem dc199_7 : decode (pm_mb 199) 7 = .ok (.invokevirtual 184, 3) := by decide +kernel
theorem dc199_10 : decode (pm_mb 199) 10 = .ok (.ifCond .eq 13, 3) := by decide +kernel
theorem dc199_13 : decode (pm_mb 199) 13 = .ok (.iload_n 2, 1) := by decide +kernel
theorem dc199_14 : decode (pm_mb 199) 14 = .ok (.i2l, 1) := by decide +kernel
theorem dc199_15 : decode (pm_mb 199) 15 = .ok (.lconst 0, 1) := by decide +kernel
theorem dc199_16 : decode (pm_mb 199) 16 = .ok (.lconst 1, 1) := by decide +kernel
theorem dc199_17 : decode (pm_mb 199) 17 = .ok (.invokestatic 60, 3) := by decide +kernel
theorem dc199_20 : decode (pm_mb 199) 20 = .ok (.ifCond .ne 6, 3) := by decide +kernel
theorem dc199_23 : decode (pm_mb 199) 23 = .ok (.ldc 70, 2) := by decide +kernel
theorem dc199_25 : decode (pm_mb 199) 25 = .ok (.ireturn, 1) := by decide +kernel
theorem dc199_26 : decode (pm_mb 199) 26 = .ok (.aload_n 0, 1) := by decide +kernel
theorem dc199_27 : decode (pm_mb 199) 27 = .ok (.iconst 0, 1) := by decide +kernel
theorem dc199_28 : decode (pm_mb 199) 28 = .ok (.putfield 256, 3) := by decide +kernel
theorem dc199_31 : decode (pm_mb 199) 31 = .ok (.iload_n 2, 1) := by decide +kernel
theorem dc199_32 : decode (pm_mb 199) 32 = .ok (.ifCond .ne 11, 3) := by decide +kernel
theorem dc199_35 : decode (pm_mb 199) 35 = .ok (.aload_n 0, 1) := by decide +kernel
theorem dc199_36 : decode (pm_mb 199) 36 = .ok (.iload_n 1, 1) := by decide +kernel
theorem dc199_37 : decode (pm_mb 199) 37 = .ok (.invokevirtual 271, 3) := by decide +kernel
theorem dc199_40 : decode (pm_mb 199) 40 = .ok (.goto 8, 3) := by decide +kernel
theorem dc199_43 : decode (pm_mb 199) 43 = .ok (.aload_n 0, 1) := by decide +kernel
theorem dc199_44 : decode (pm_mb 199) 44 = .ok (.iload_n 1, 1) := by decide +kernel
theorem dc199_45 : decode (pm_mb 199) 45 = .ok (.invokevirtual 268, 3) := by decide +kernel
theorem dc199_48 : decode (pm_mb 199) 48 = .ok (.ireturn, 1) := by decide +kernel
theorem b199_0 {X : pm_X} {d : Nat} {x1 : Int32} {x2 : Int32} {g : pm_G} {iv : pm_V} (hL : pm_lay g) : pm_at X d 199 (0, [some (.ref 32), some (.int x1), some (.int x2)], [], g, iv) = pm_then X d 199 10 [some (.ref 32), some (.int x1), some (.int x2)] [] (pm_c X d 157 [.ref 32, .int x1] g (pm_iw iv 32 0 0)) := by
  refine (at_aload_n dc199_0 rfl).trans ?_
  refine (at_iconst (v := 0) dc199_1 rfl).trans ?_
  refine (at_pfI dc199_2 mc199 lf6_50 po6_0 (ly32 hL)).trans ?_
  refine (at_aload_n dc199_5 rfl).trans ?_
  refine (at_iload_n dc199_6 rfl).trans ?_
  exact at_inv dc199_7 mc199 lm6_184 rfl rfl (Nat.le_of_ble_eq_true rfl) (Or.inl ⟨(ly32 hL), by decide⟩)
theorem b199_10 {X : pm_X} {d : Nat} {x1 : Int32} {x2 : Int32} {s0 : Int32} {g : pm_G} {iv : pm_V}  : pm_at X d 199 (10, [some (.ref 32), some (.int x1), some (.int x2)], [.int s0], g, iv) = if s0 = 0 then pm_at X d 199 (23, [some (.ref 32), some (.int x1), some (.int x2)], [], g, iv) else pm_at X d 199 (13, [some (.ref 32), some (.int x1), some (.int x2)], [], g, iv) := by
  exact at_if_eq (t := 23) dc199_10 (by decide)
theorem b199_13 {X : pm_X} {d : Nat} {x1 : Int32} {x2 : Int32} {g : pm_G} {iv : pm_V}  : pm_at X d 199 (13, [some (.ref 32), some (.int x1), some (.int x2)], [], g, iv) = pm_then X d 199 20 [some (.ref 32), some (.int x1), some (.int x2)] [] (pm_c X d 130 [.long (x2 : Int32).toInt64, .long 0, .long 1] g iv) := by
  refine (at_iload_n dc199_13 rfl).trans ?_
  refine (at_i2l dc199_14).trans ?_
  refine (at_lconst (v := 0) dc199_15 (by decide)).trans ?_
  refine (at_lconst (v := 1) dc199_16 (by decide)).trans ?_
  exact at_ins dc199_17 mc199 lm6_60 (Nat.le_of_ble_eq_true rfl) rfl rfl (Nat.le_of_ble_eq_true rfl)
theorem b199_20 {X : pm_X} {d : Nat} {x1 : Int32} {x2 : Int32} {s0 : Int32} {g : pm_G} {iv : pm_V}  : pm_at X d 199 (20, [some (.ref 32), some (.int x1), some (.int x2)], [.int s0], g, iv) = if ¬ s0 = 0 then pm_at X d 199 (26, [some (.ref 32), some (.int x1), some (.int x2)], [], g, iv) else pm_at X d 199 (23, [some (.ref 32), some (.int x1), some (.int x2)], [], g, iv) := by
  exact at_if_ne (t := 26) dc199_20 (by decide)
theorem b199_23 {X : pm_X} {d : Nat} {x1 : Int32} {x2 : Int32} {g : pm_G} {iv : pm_V}  : pm_at X d 199 (23, [some (.ref 32), some (.int x1), some (.int x2)], [], g, iv) = some (some (.int (-1000001)), g, iv) := by
  refine (at_ldc dc199_23 mc199 lk6_70).trans ?_
  exact at_iret dc199_25 mr199
theorem b199_26 {X : pm_X} {d : Nat} {x1 : Int32} {x2 : Int32} {g : pm_G} {iv : pm_V} (hL : pm_lay g) : pm_at X d 199 (26, [some (.ref 32), some (.int x1), some (.int x2)], [], g, iv) = if ¬ x2 = 0 then pm_at X d 199 (43, [some (.ref 32), some (.int x1), some (.int x2)], [], g, (pm_iw iv 32 25 0)) else pm_at X d 199 (35, [some (.ref 32), some (.int x1), some (.int x2)], [], g, (pm_iw iv 32 25 0)) := by
  refine (at_aload_n dc199_26 rfl).trans ?_
  refine (at_iconst (v := 0) dc199_27 rfl).trans ?_
  refine (at_pfI dc199_28 mc199 lf6_256 po6_25 (ly32 hL)).trans ?_
  refine (at_iload_n dc199_31 rfl).trans ?_
  exact at_if_ne (t := 43) dc199_32 (by decide)
theorem b199_35 {X : pm_X} {d : Nat} {x1 : Int32} {x2 : Int32} {g : pm_G} {iv : pm_V} (hL : pm_lay g) : pm_at X d 199 (35, [some (.ref 32), some (.int x1), some (.int x2)], [], g, iv) = pm_then X d 199 40 [some (.ref 32), some (.int x1), some (.int x2)] [] (pm_c X d 198 [.ref 32, .int x1] g iv) := by
  refine (at_aload_n dc199_35 rfl).trans ?_
  refine (at_iload_n dc199_36 rfl).trans ?_
  exact at_inv dc199_37 mc199 lm6_271 rfl rfl (Nat.le_of_ble_eq_true rfl) (Or.inl ⟨(ly32 hL), by decide⟩)
theorem b199_40 {X : pm_X} {d : Nat} {x1 : Int32} {x2 : Int32} {s0 : Int32} {g : pm_G} {iv : pm_V}  : pm_at X d 199 (40, [some (.ref 32), some (.int x1), some (.int x2)], [.int s0], g, iv) = pm_at X d 199 (48, [some (.ref 32), some (.int x1), some (.int x2)], [.int s0], g, iv) := by
  refine (at_goto (t := 48) dc199_40 (by decide)).trans ?_
  rfl
theorem b199_43 {X : pm_X} {d : Nat} {x1 : Int32} {x2 : Int32} {g : pm_G} {iv : pm_V} (hL : pm_lay g) : pm_at X d 199 (43, [some (.ref 32), some (.int x1), some (.int x2)], [], g, iv) = pm_then X d 199 48 [some (.ref 32), some (.int x1), some (.int x2)] [] (pm_c X d 197 [.ref 32, .int x1] g iv) := by
  refine (at_aload_n dc199_43 rfl).trans ?_
  refine (at_iload_n dc199_44 rfl).trans ?_
  exact at_inv dc199_45 mc199 lm6_268 rfl rfl (Nat.le_of_ble_eq_true rfl) (Or.inl ⟨(ly32 hL), by decide⟩)
theorem b199_48 {X : pm_X} {d : Nat} {x1 : Int32} {x2 : Int32} {s0 : Int32} {g : pm_G} {iv : pm_V}  : pm_at X d 199 (48, [some (.ref 32), some (.int x1), some (.int x2)], [.int s0], g, iv) = some (some (.int s0), g, iv) := by
  exact at_iret dc199_48 mr199
-- Mod.trace (I)I
theorem dc200_0 : decode (pm_mb 200) 0 = .ok (.aload_n 0, 1) := by decide +kernel
theorem dc200_1 : decode (pm_mb 200) 1 = .ok (.iconst 0, 1) := by decide +kernel
theorem dc200_2 : decode (pm_mb 200) 2 = .ok (.putfield 50, 3) := by decide +kernel
theorem dc200_5 : decode (pm_mb 200) 5 = .ok (.iload_n 1, 1) := by decide +kernel
theorem dc200_6 : decode (pm_mb 200) 6 = .ok (.i2l, 1) := by decide +kernel
theorem dc200_7 : decode (pm_mb 200) 7 = .ok (.lconst 0, 1) := by decide +kernel
theorem dc200_8 : decode (pm_mb 200) 8 = .ok (.aload_n 0, 1) := by decide +kernel
theorem dc200_9 : decode (pm_mb 200) 9 = .ok (.getfield 256, 3) := by decide +kernel
theorem dc200_12 : decode (pm_mb 200) 12 = .ok (.iconst 1, 1) := by decide +kernel
theorem dc200_13 : decode (pm_mb 200) 13 = .ok (.isub, 1) := by decide +kernel
theorem dc200_14 : decode (pm_mb 200) 14 = .ok (.i2l, 1) := by decide +kernel
theorem dc200_15 : decode (pm_mb 200) 15 = .ok (.invokestatic 60, 3) := by decide +kernel
theorem dc200_18 : decode (pm_mb 200) 18 = .ok (.ifCond .eq 12, 3) := by decide +kernel
theorem dc200_21 : decode (pm_mb 200) 21 = .ok (.aload_n 0, 1) := by decide +kernel
theorem dc200_22 : decode (pm_mb 200) 22 = .ok (.getfield 47, 3) := by decide +kernel
theorem dc200_25 : decode (pm_mb 200) 25 = .ok (.iload_n 1, 1) := by decide +kernel
theorem dc200_26 : decode (pm_mb 200) 26 = .ok (.iaload, 1) := by decide +kernel
theorem dc200_27 : decode (pm_mb 200) 27 = .ok (.goto 5, 3) := by decide +kernel
theorem dc200_30 : decode (pm_mb 200) 30 = .ok (.ldc 86, 2) := by decide +kernel
theorem dc200_32 : decode (pm_mb 200) 32 = .ok (.ireturn, 1) := by decide +kernel
theorem b200_0 {X : pm_X} {d : Nat} {x1 : Int32} {g : pm_G} {iv : pm_V} (hL : pm_lay g) : pm_at X d 200 (0, [some (.ref 32), some (.int x1)], [], g, iv) = pm_then X d 200 18 [some (.ref 32), some (.int x1)] [] (pm_c X d 130 [.long (x1 : Int32).toInt64, .long 0, .long ((((pm_iw iv 32 0 0) 32 25) - 1) : Int32).toInt64] g (pm_iw iv 32 0 0)) := by
  refine (at_aload_n dc200_0 rfl).trans ?_
  refine (at_iconst (v := 0) dc200_1 rfl).trans ?_
  refine (at_pfI dc200_2 mc200 lf6_50 po6_0 (ly32 hL)).trans ?_
  refine (at_iload_n dc200_5 rfl).trans ?_
  refine (at_i2l dc200_6).trans ?_
  refine (at_lconst (v := 0) dc200_7 (by decide)).trans ?_
  refine (at_aload_n dc200_8 rfl).trans ?_
  refine (at_gfI dc200_9 mc200 lf6_256 fo6_25 (ly32 hL)).trans ?_
  refine (at_iconst (v := 1) dc200_12 rfl).trans ?_
  refine (at_isub dc200_13).trans ?_
  refine (at_i2l dc200_14).trans ?_
  exact at_ins dc200_15 mc200 lm6_60 (Nat.le_of_ble_eq_true rfl) rfl rfl (Nat.le_of_ble_eq_true rfl)
theorem b200_18 {X : pm_X} {d : Nat} {x1 : Int32} {s0 : Int32} {g : pm_G} {iv : pm_V}  : pm_at X d 200 (18, [some (.ref 32), some (.int x1)], [.int s0], g, iv) = if s0 = 0 then pm_at X d 200 (30, [some (.ref 32), some (.int x1)], [], g, iv) else pm_at X d 200 (21, [some (.ref 32), some (.int x1)], [], g, iv) := by
  exact at_if_eq (t := 30) dc200_18 (by decide)
theorem b200_21 {X : pm_X} {d : Nat} {x1 : Int32} {g : pm_G} {iv : pm_V} (hL : pm_lay g) (i1 : vp_in x1 16) : pm_at X d 200 (21, [some (.ref 32), some (.int x1)], [], g, iv) = pm_at X d 200 (32, [some (.ref 32), some (.int x1)], [.int (iv 45 (x1 : Int32).toNatClampNeg)], g, iv) := by
  refine (at_aload_n dc200_21 rfl).trans ?_
  refine (at_gfR dc200_22 mc200 lf6_47 fo6_24 (ly32 hL) (lr32_24 hL)).trans ?_
  refine (at_iload_n dc200_25 rfl).trans ?_
  refine (at_iald dc200_26 (ly45 hL) i1).trans ?_
  refine (at_goto (t := 32) dc200_27 (by decide)).trans ?_
  rfl
theorem b200_30 {X : pm_X} {d : Nat} {x1 : Int32} {g : pm_G} {iv : pm_V}  : pm_at X d 200 (30, [some (.ref 32), some (.int x1)], [], g, iv) = pm_at X d 200 (32, [some (.ref 32), some (.int x1)], [.int (-1000000)], g, iv) := by
  refine (at_ldc dc200_30 mc200 lk6_86).trans ?_
  rfl
theorem b200_32 {X : pm_X} {d : Nat} {x1 : Int32} {s0 : Int32} {g : pm_G} {iv : pm_V}  : pm_at X d 200 (32, [some (.ref 32), some (.int x1)], [.int s0], g, iv) = some (some (.int s0), g, iv) := by
  exact at_iret dc200_32 mr200
-- Mod.count (I)I
theorem dc201_0 : decode (pm_mb 201) 0 = .ok (.aload_n 0, 1) := by decide +kernel
theorem dc201_1 : decode (pm_mb 201) 1 = .ok (.iconst 0, 1) := by decide +kernel
theorem dc201_2 : decode (pm_mb 201) 2 = .ok (.putfield 50, 3) := by decide +kernel
theorem dc201_5 : decode (pm_mb 201) 5 = .ok (.iconst 0, 1) := by decide +kernel
theorem dc201_6 : decode (pm_mb 201) 6 = .ok (.istore_n 2, 1) := by decide +kernel
theorem dc201_7 : decode (pm_mb 201) 7 = .ok (.iload_n 1, 1) := by decide +kernel
theorem dc201_8 : decode (pm_mb 201) 8 = .ok (.tableswitch 167 0 6 #[44, 77, 84, 121, 128, 133, 162], 44) := by decide +kernel
theorem dc201_52 : decode (pm_mb 201) 52 = .ok (.iconst 0, 1) := by decide +kernel
theorem dc201_53 : decode (pm_mb 201) 53 = .ok (.istore_n 3, 1) := by decide +kernel
theorem dc201_54 : decode (pm_mb 201) 54 = .ok (.iload_n 3, 1) := by decide +kernel
theorem dc201_55 : decode (pm_mb 201) 55 = .ok (.bipush 8, 2) := by decide +kernel
theorem dc201_57 : decode (pm_mb 201) 57 = .ok (.if_icmp .ge 26, 3) := by decide +kernel
theorem dc201_60 : decode (pm_mb 201) 60 = .ok (.iload_n 2, 1) := by decide +kernel
theorem dc201_61 : decode (pm_mb 201) 61 = .ok (.aload_n 0, 1) := by decide +kernel
theorem dc201_62 : decode (pm_mb 201) 62 = .ok (.getfield 7, 3) := by decide +kernel
theorem dc201_65 : decode (pm_mb 201) 65 = .ok (.iload_n 3, 1) := by decide +kernel
theorem dc201_66 : decode (pm_mb 201) 66 = .ok (.iaload, 1) := by decide +kernel
theorem dc201_67 : decode (pm_mb 201) 67 = .ok (.ifCond .lt 7, 3) := by decide +kernel
theorem dc201_70 : decode (pm_mb 201) 70 = .ok (.iconst 1, 1) := by decide +kernel
theorem dc201_71 : decode (pm_mb 201) 71 = .ok (.goto 4, 3) := by decide +kernel
theorem dc201_74 : decode (pm_mb 201) 74 = .ok (.iconst 0, 1) := by decide +kernel
theorem dc201_75 : decode (pm_mb 201) 75 = .ok (.iadd, 1) := by decide +kernel
theorem dc201_76 : decode (pm_mb 201) 76 = .ok (.istore_n 2, 1) := by decide +kernel
theorem dc201_77 : decode (pm_mb 201) 77 = .ok (.iinc 3 1, 3) := by decide +kernel
theorem dc201_80 : decode (pm_mb 201) 80 = .ok (.goto (-26), 3) := by decide +kernel
theorem dc201_83 : decode (pm_mb 201) 83 = .ok (.iload_n 2, 1) := by decide +kernel
theorem dc201_84 : decode (pm_mb 201) 84 = .ok (.ireturn, 1) := by decide +kernel
theorem dc201_85 : decode (pm_mb 201) 85 = .ok (.aload_n 0, 1) := by decide +kernel
theorem dc201_86 : decode (pm_mb 201) 86 = .ok (.getfield 19, 3) := by decide +kernel
theorem dc201_89 : decode (pm_mb 201) 89 = .ok (.iconst 3, 1) := by decide +kernel
theorem dc201_90 : decode (pm_mb 201) 90 = .ok (.iaload, 1) := by decide +kernel
theorem dc201_91 : decode (pm_mb 201) 91 = .ok (.ireturn, 1) := by decide +kernel
theorem dc201_92 : decode (pm_mb 201) 92 = .ok (.iconst 0, 1) := by decide +kernel
theorem dc201_93 : decode (pm_mb 201) 93 = .ok (.istore_n 3, 1) := by decide +kernel
theorem dc201_94 : decode (pm_mb 201) 94 = .ok (.iload_n 3, 1) := by decide +kernel
theorem dc201_95 : decode (pm_mb 201) 95 = .ok (.bipush 80, 2) := by decide +kernel
theorem dc201_97 : decode (pm_mb 201) 97 = .ok (.if_icmp .ge 30, 3) := by decide +kernel
theorem dc201_100 : decode (pm_mb 201) 100 = .ok (.iload_n 2, 1) := by decide +kernel
theorem dc201_101 : decode (pm_mb 201) 101 = .ok (.aload_n 0, 1) := by decide +kernel
theorem dc201_102 : decode (pm_mb 201) 102 = .ok (.getfield 19, 3) := by decide +kernel
theorem dc201_105 : decode (pm_mb 201) 105 = .ok (.iconst 5, 1) := by decide +kernel
theorem dc201_106 : decode (pm_mb 201) 106 = .ok (.iload_n 3, 1) := by decide +kernel
theorem dc201_107 : decode (pm_mb 201) 107 = .ok (.bipush 20, 2) := by decide +kernel
theorem dc201_109 : decode (pm_mb 201) 109 = .ok (.idiv, 1) := by decide +kernel
theorem dc201_110 : decode (pm_mb 201) 110 = .ok (.iadd, 1) := by decide +kernel
theorem dc201_111 : decode (pm_mb 201) 111 = .ok (.iaload, 1) := by decide +kernel
theorem dc201_112 : decode (pm_mb 201) 112 = .ok (.iload_n 3, 1) := by decide +kernel
theorem dc201_113 : decode (pm_mb 201) 113 = .ok (.bipush 20, 2) := by decide +kernel
theorem dc201_115 : decode (pm_mb 201) 115 = .ok (.irem, 1) := by decide +kernel
theorem dc201_116 : decode (pm_mb 201) 116 = .ok (.ishr, 1) := by decide +kernel
theorem dc201_117 : decode (pm_mb 201) 117 = .ok (.iconst 1, 1) := by decide +kernel
theorem dc201_118 : decode (pm_mb 201) 118 = .ok (.iand, 1) := by decide +kernel
theorem dc201_119 : decode (pm_mb 201) 119 = .ok (.iadd, 1) := by decide +kernel
theorem dc201_120 : decode (pm_mb 201) 120 = .ok (.istore_n 2, 1) := by decide +kernel
theorem dc201_121 : decode (pm_mb 201) 121 = .ok (.iinc 3 1, 3) := by decide +kernel
theorem dc201_124 : decode (pm_mb 201) 124 = .ok (.goto (-30), 3) := by decide +kernel
theorem dc201_127 : decode (pm_mb 201) 127 = .ok (.iload_n 2, 1) := by decide +kernel
theorem dc201_128 : decode (pm_mb 201) 128 = .ok (.ireturn, 1) := by decide +kernel
theorem dc201_129 : decode (pm_mb 201) 129 = .ok (.aload_n 0, 1) := by decide +kernel
theorem dc201_130 : decode (pm_mb 201) 130 = .ok (.getfield 19, 3) := by decide +kernel
theorem dc201_133 : decode (pm_mb 201) 133 = .ok (.iconst 4, 1) := by decide +kernel
theorem dc201_134 : decode (pm_mb 201) 134 = .ok (.iaload, 1) := by decide +kernel
theorem dc201_135 : decode (pm_mb 201) 135 = .ok (.ireturn, 1) := by decide +kernel
theorem dc201_136 : decode (pm_mb 201) 136 = .ok (.aload_n 0, 1) := by decide +kernel
theorem dc201_137 : decode (pm_mb 201) 137 = .ok (.getfield 181, 3) := by decide +kernel
theorem dc201_140 : decode (pm_mb 201) 140 = .ok (.ireturn, 1) := by decide +kernel
theorem dc201_141 : decode (pm_mb 201) 141 = .ok (.iconst 0, 1) := by decide +kernel
theorem dc201_142 : decode (pm_mb 201) 142 = .ok (.istore_n 3, 1) := by decide +kernel
theorem dc201_143 : decode (pm_mb 201) 143 = .ok (.iload_n 3, 1) := by decide +kernel
theorem dc201_144 : decode (pm_mb 201) 144 = .ok (.aload_n 0, 1) := by decide +kernel
theorem dc201_145 : decode (pm_mb 201) 145 = .ok (.getfield 19, 3) := by decide +kernel
theorem dc201_148 : decode (pm_mb 201) 148 = .ok (.iconst 3, 1) := by decide +kernel
theorem dc201_149 : decode (pm_mb 201) 149 = .ok (.iaload, 1) := by decide +kernel
theorem dc201_150 : decode (pm_mb 201) 150 = .ok (.if_icmp .ge 18, 3) := by decide +kernel
theorem dc201_153 : decode (pm_mb 201) 153 = .ok (.iload_n 2, 1) := by decide +kernel
theorem dc201_154 : decode (pm_mb 201) 154 = .ok (.aload_n 0, 1) := by decide +kernel
theorem dc201_155 : decode (pm_mb 201) 155 = .ok (.iload_n 3, 1) := by decide +kernel
theorem dc201_156 : decode (pm_mb 201) 156 = .ok (.iconst 4, 1) := by decide +kernel
theorem dc201_157 : decode (pm_mb 201) 157 = .ok (.invokevirtual 187, 3) := by decide +kernel
theorem dc201_160 : decode (pm_mb 201) 160 = .ok (.iadd, 1) := by decide +kernel
theorem dc201_161 : decode (pm_mb 201) 161 = .ok (.istore_n 2, 1) := by decide +kernel
theorem dc201_162 : decode (pm_mb 201) 162 = .ok (.iinc 3 1, 3) := by decide +kernel
theorem dc201_165 : decode (pm_mb 201) 165 = .ok (.goto (-22), 3) := by decide +kernel
theorem dc201_168 : decode (pm_mb 201) 168 = .ok (.iload_n 2, 1) := by decide +kernel
theorem dc201_169 : decode (pm_mb 201) 169 = .ok (.ireturn, 1) := by decide +kernel
theorem dc201_170 : decode (pm_mb 201) 170 = .ok (.aload_n 0, 1) := by decide +kernel
theorem dc201_171 : decode (pm_mb 201) 171 = .ok (.getfield 77, 3) := by decide +kernel
theorem dc201_174 : decode (pm_mb 201) 174 = .ok (.ireturn, 1) := by decide +kernel
theorem dc201_175 : decode (pm_mb 201) 175 = .ok (.ldc 70, 2) := by decide +kernel
theorem dc201_177 : decode (pm_mb 201) 177 = .ok (.ireturn, 1) := by decide +kernel
theorem b201_0_c0 {X : pm_X} {d : Nat} {x1 : Int32} {g : pm_G} {iv : pm_V} (hL : pm_lay g) (hx : x1 = 0) : pm_at X d 201 (0, [some (.ref 32), some (.int x1), none, none], [], g, iv) = pm_at X d 201 (52, [some (.ref 32), some (.int x1), some (.int 0), none], [], g, (pm_iw iv 32 0 0)) := by
  refine (at_aload_n dc201_0 rfl).trans ?_
  refine (at_iconst (v := 0) dc201_1 rfl).trans ?_
  refine (at_pfI dc201_2 mc201 lf6_50 po6_0 (ly32 hL)).trans ?_
  refine (at_iconst (v := 0) dc201_5 rfl).trans ?_
  refine (at_istore_n dc201_6 rfl).trans ?_
  refine (at_iload_n dc201_7 rfl).trans ?_
  rw [hx]
  exact at_tswI (t := 52) dc201_8 (by decide) rfl (by decide)
theorem b201_0_c1 {X : pm_X} {d : Nat} {x1 : Int32} {g : pm_G} {iv : pm_V} (hL : pm_lay g) (hx : x1 = 1) : pm_at X d 201 (0, [some (.ref 32), some (.int x1), none, none], [], g, iv) = pm_at X d 201 (85, [some (.ref 32), some (.int x1), some (.int 0), none], [], g, (pm_iw iv 32 0 0)) := by
  refine (at_aload_n dc201_0 rfl).trans ?_
  refine (at_iconst (v := 0) dc201_1 rfl).trans ?_
  refine (at_pfI dc201_2 mc201 lf6_50 po6_0 (ly32 hL)).trans ?_
  refine (at_iconst (v := 0) dc201_5 rfl).trans ?_
  refine (at_istore_n dc201_6 rfl).trans ?_
  refine (at_iload_n dc201_7 rfl).trans ?_
  rw [hx]
  exact at_tswI (t := 85) dc201_8 (by decide) rfl (by decide)
theorem b201_0_c2 {X : pm_X} {d : Nat} {x1 : Int32} {g : pm_G} {iv : pm_V} (hL : pm_lay g) (hx : x1 = 2) : pm_at X d 201 (0, [some (.ref 32), some (.int x1), none, none], [], g, iv) = pm_at X d 201 (92, [some (.ref 32), some (.int x1), some (.int 0), none], [], g, (pm_iw iv 32 0 0)) := by
  refine (at_aload_n dc201_0 rfl).trans ?_
  refine (at_iconst (v := 0) dc201_1 rfl).trans ?_
  refine (at_pfI dc201_2 mc201 lf6_50 po6_0 (ly32 hL)).trans ?_
  refine (at_iconst (v := 0) dc201_5 rfl).trans ?_
  refine (at_istore_n dc201_6 rfl).trans ?_
  refine (at_iload_n dc201_7 rfl).trans ?_
  rw [hx]
  exact at_tswI (t := 92) dc201_8 (by decide) rfl (by decide)
theorem b201_0_c3 {X : pm_X} {d : Nat} {x1 : Int32} {g : pm_G} {iv : pm_V} (hL : pm_lay g) (hx : x1 = 3) : pm_at X d 201 (0, [some (.ref 32), some (.int x1), none, none], [], g, iv) = pm_at X d 201 (129, [some (.ref 32), some (.int x1), some (.int 0), none], [], g, (pm_iw iv 32 0 0)) := by
  refine (at_aload_n dc201_0 rfl).trans ?_
  refine (at_iconst (v := 0) dc201_1 rfl).trans ?_
  refine (at_pfI dc201_2 mc201 lf6_50 po6_0 (ly32 hL)).trans ?_
  refine (at_iconst (v := 0) dc201_5 rfl).trans ?_
  refine (at_istore_n dc201_6 rfl).trans ?_
  refine (at_iload_n dc201_7 rfl).trans ?_
  rw [hx]
  exact at_tswI (t := 129) dc201_8 (by decide) rfl (by decide)
theorem b201_0_c4 {X : pm_X} {d : Nat} {x1 : Int32} {g : pm_G} {iv : pm_V} (hL : pm_lay g) (hx : x1 = 4) : pm_at X d 201 (0, [some (.ref 32), some (.int x1), none, none], [], g, iv) = pm_at X d 201 (136, [some (.ref 32), some (.int x1), some (.int 0), none], [], g, (pm_iw iv 32 0 0)) := by
  refine (at_aload_n dc201_0 rfl).trans ?_
  refine (at_iconst (v := 0) dc201_1 rfl).trans ?_
  refine (at_pfI dc201_2 mc201 lf6_50 po6_0 (ly32 hL)).trans ?_
  refine (at_iconst (v := 0) dc201_5 rfl).trans ?_
  refine (at_istore_n dc201_6 rfl).trans ?_
  refine (at_iload_n dc201_7 rfl).trans ?_
  rw [hx]
  exact at_tswI (t := 136) dc201_8 (by decide) rfl (by decide)
theorem b201_0_c5 {X : pm_X} {d : Nat} {x1 : Int32} {g : pm_G} {iv : pm_V} (hL : pm_lay g) (hx : x1 = 5) : pm_at X d 201 (0, [some (.ref 32), some (.int x1), none, none], [], g, iv) = pm_at X d 201 (141, [some (.ref 32), some (.int x1), some (.int 0), none], [], g, (pm_iw iv 32 0 0)) := by
  refine (at_aload_n dc201_0 rfl).trans ?_
  refine (at_iconst (v := 0) dc201_1 rfl).trans ?_
  refine (at_pfI dc201_2 mc201 lf6_50 po6_0 (ly32 hL)).trans ?_
  refine (at_iconst (v := 0) dc201_5 rfl).trans ?_
  refine (at_istore_n dc201_6 rfl).trans ?_
  refine (at_iload_n dc201_7 rfl).trans ?_
  rw [hx]
  exact at_tswI (t := 141) dc201_8 (by decide) rfl (by decide)
theorem b201_0_c6 {X : pm_X} {d : Nat} {x1 : Int32} {g : pm_G} {iv : pm_V} (hL : pm_lay g) (hx : x1 = 6) : pm_at X d 201 (0, [some (.ref 32), some (.int x1), none, none], [], g, iv) = pm_at X d 201 (170, [some (.ref 32), some (.int x1), some (.int 0), none], [], g, (pm_iw iv 32 0 0)) := by
  refine (at_aload_n dc201_0 rfl).trans ?_
  refine (at_iconst (v := 0) dc201_1 rfl).trans ?_
  refine (at_pfI dc201_2 mc201 lf6_50 po6_0 (ly32 hL)).trans ?_
  refine (at_iconst (v := 0) dc201_5 rfl).trans ?_
  refine (at_istore_n dc201_6 rfl).trans ?_
  refine (at_iload_n dc201_7 rfl).trans ?_
  rw [hx]
  exact at_tswI (t := 170) dc201_8 (by decide) rfl (by decide)
theorem b201_0_df {X : pm_X} {d : Nat} {x1 : Int32} {g : pm_G} {iv : pm_V} (hL : pm_lay g) (hx : x1.toInt < 0 ∨ 6 < x1.toInt) : pm_at X d 201 (0, [some (.ref 32), some (.int x1), none, none], [], g, iv) = pm_at X d 201 (175, [some (.ref 32), some (.int x1), some (.int 0), none], [], g, (pm_iw iv 32 0 0)) := by
  refine (at_aload_n dc201_0 rfl).trans ?_
  refine (at_iconst (v := 0) dc201_1 rfl).trans ?_
  refine (at_pfI dc201_2 mc201 lf6_50 po6_0 (ly32 hL)).trans ?_
  refine (at_iconst (v := 0) dc201_5 rfl).trans ?_
  refine (at_istore_n dc201_6 rfl).trans ?_
  refine (at_iload_n dc201_7 rfl).trans ?_
  exact at_tswO (t := 175) dc201_8 hx (by decide)
theorem b201_52 {X : pm_X} {d : Nat} {x1 : Int32} {x2 : Int32} {g : pm_G} {iv : pm_V}  : pm_at X d 201 (52, [some (.ref 32), some (.int x1), some (.int x2), none], [], g, iv) = pm_at X d 201 (54, [some (.ref 32), some (.int x1), some (.int x2), some (.int 0)], [], g, iv) := by
  refine (at_iconst (v := 0) dc201_52 rfl).trans ?_
  refine (at_istore_n dc201_53 rfl).trans ?_
  rfl
theorem b201_54 {X : pm_X} {d : Nat} {x1 : Int32} {x2 : Int32} {x3 : Int32} {g : pm_G} {iv : pm_V}  : pm_at X d 201 (54, [some (.ref 32), some (.int x1), some (.int x2), some (.int x3)], [], g, iv) = if 8 ≤ x3 then pm_at X d 201 (83, [some (.ref 32), some (.int x1), some (.int x2), some (.int x3)], [], g, iv) else pm_at X d 201 (60, [some (.ref 32), some (.int x1), some (.int x2), some (.int x3)], [], g, iv) := by
  refine (at_iload_n dc201_54 rfl).trans ?_
  refine (at_bipush (v := 8) dc201_55 (by decide)).trans ?_
  exact at_icmp_ge (t := 83) dc201_57 (by decide)
theorem b201_60 {X : pm_X} {d : Nat} {x1 : Int32} {x2 : Int32} {x3 : Int32} {g : pm_G} {iv : pm_V} (hL : pm_lay g) (i1 : vp_in x3 8) : pm_at X d 201 (60, [some (.ref 32), some (.int x1), some (.int x2), some (.int x3)], [], g, iv) = if (iv 33 (x3 : Int32).toNatClampNeg) < 0 then pm_at X d 201 (74, [some (.ref 32), some (.int x1), some (.int x2), some (.int x3)], [.int x2], g, iv) else pm_at X d 201 (70, [some (.ref 32), some (.int x1), some (.int x2), some (.int x3)], [.int x2], g, iv) := by
  refine (at_iload_n dc201_60 rfl).trans ?_
  refine (at_aload_n dc201_61 rfl).trans ?_
  refine (at_gfR dc201_62 mc201 lf6_7 fo6_2 (ly32 hL) (lr32_2 hL)).trans ?_
  refine (at_iload_n dc201_65 rfl).trans ?_
  refine (at_iald dc201_66 (ly33 hL) i1).trans ?_
  exact at_if_lt (t := 74) dc201_67 (by decide)
theorem b201_70 {X : pm_X} {d : Nat} {x1 : Int32} {x2 : Int32} {x3 : Int32} {s0 : Int32} {g : pm_G} {iv : pm_V}  : pm_at X d 201 (70, [some (.ref 32), some (.int x1), some (.int x2), some (.int x3)], [.int s0], g, iv) = pm_at X d 201 (75, [some (.ref 32), some (.int x1), some (.int x2), some (.int x3)], [.int 1, .int s0], g, iv) := by
  refine (at_iconst (v := 1) dc201_70 rfl).trans ?_
  refine (at_goto (t := 75) dc201_71 (by decide)).trans ?_
  rfl
theorem b201_74 {X : pm_X} {d : Nat} {x1 : Int32} {x2 : Int32} {x3 : Int32} {s0 : Int32} {g : pm_G} {iv : pm_V}  : pm_at X d 201 (74, [some (.ref 32), some (.int x1), some (.int x2), some (.int x3)], [.int s0], g, iv) = pm_at X d 201 (75, [some (.ref 32), some (.int x1), some (.int x2), some (.int x3)], [.int 0, .int s0], g, iv) := by
  refine (at_iconst (v := 0) dc201_74 rfl).trans ?_
  rfl
theorem b201_75 {X : pm_X} {d : Nat} {x1 : Int32} {x2 : Int32} {x3 : Int32} {s0 : Int32} {s1 : Int32} {g : pm_G} {iv : pm_V}  : pm_at X d 201 (75, [some (.ref 32), some (.int x1), some (.int x2), some (.int x3)], [.int s0, .int s1], g, iv) = pm_at X d 201 (54, [some (.ref 32), some (.int x1), some (.int (s1 + s0)), some (.int (x3 + 1))], [], g, iv) := by
  refine (at_iadd dc201_75).trans ?_
  refine (at_istore_n dc201_76 rfl).trans ?_
  refine (at_iinc (v := 1) dc201_77 rfl (by decide) rfl).trans ?_
  refine (at_goto (t := 54) dc201_80 (by decide)).trans ?_
  rfl
theorem b201_83 {X : pm_X} {d : Nat} {x1 : Int32} {x2 : Int32} {x3 : Int32} {g : pm_G} {iv : pm_V}  : pm_at X d 201 (83, [some (.ref 32), some (.int x1), some (.int x2), some (.int x3)], [], g, iv) = some (some (.int x2), g, iv) := by
  refine (at_iload_n dc201_83 rfl).trans ?_
  exact at_iret dc201_84 mr201
theorem b201_85 {X : pm_X} {d : Nat} {x1 : Int32} {x2 : Int32} {g : pm_G} {iv : pm_V} (hL : pm_lay g) : pm_at X d 201 (85, [some (.ref 32), some (.int x1), some (.int x2), none], [], g, iv) = some (some (.int (iv 36 3)), g, iv) := by
  refine (at_aload_n dc201_85 rfl).trans ?_
  refine (at_gfR dc201_86 mc201 lf6_19 fo6_5 (ly32 hL) (lr32_5 hL)).trans ?_
  refine (at_iconst (v := 3) dc201_89 rfl).trans ?_
  refine (at_iald dc201_90 (ly36 hL) (vp_in_nI (n := 3) (by decide) (by decide))).trans ?_
  exact at_iret dc201_91 mr201
theorem b201_92 {X : pm_X} {d : Nat} {x1 : Int32} {x2 : Int32} {g : pm_G} {iv : pm_V}  : pm_at X d 201 (92, [some (.ref 32), some (.int x1), some (.int x2), none], [], g, iv) = pm_at X d 201 (94, [some (.ref 32), some (.int x1), some (.int x2), some (.int 0)], [], g, iv) := by
  refine (at_iconst (v := 0) dc201_92 rfl).trans ?_
  refine (at_istore_n dc201_93 rfl).trans ?_
  rfl
theorem b201_94 {X : pm_X} {d : Nat} {x1 : Int32} {x2 : Int32} {x3 : Int32} {g : pm_G} {iv : pm_V}  : pm_at X d 201 (94, [some (.ref 32), some (.int x1), some (.int x2), some (.int x3)], [], g, iv) = if 80 ≤ x3 then pm_at X d 201 (127, [some (.ref 32), some (.int x1), some (.int x2), some (.int x3)], [], g, iv) else pm_at X d 201 (100, [some (.ref 32), some (.int x1), some (.int x2), some (.int x3)], [], g, iv) := by
  refine (at_iload_n dc201_94 rfl).trans ?_
  refine (at_bipush (v := 80) dc201_95 (by decide)).trans ?_
  exact at_icmp_ge (t := 127) dc201_97 (by decide)
theorem b201_100 {X : pm_X} {d : Nat} {x1 : Int32} {x2 : Int32} {x3 : Int32} {g : pm_G} {iv : pm_V} (hL : pm_lay g) (i2 : vp_in ((5 + (x3 / 20))) 45) : pm_at X d 201 (100, [some (.ref 32), some (.int x1), some (.int x2), some (.int x3)], [], g, iv) = pm_at X d 201 (94, [some (.ref 32), some (.int x1), some (.int (x2 + (((iv 36 ((5 + (x3 / 20)) : Int32).toNatClampNeg) >>> ((x3 - x3 / 20 * 20) &&& 31)) &&& 1))), some (.int (x3 + 1))], [], g, iv) := by
  refine (at_iload_n dc201_100 rfl).trans ?_
  refine (at_aload_n dc201_101 rfl).trans ?_
  refine (at_gfR dc201_102 mc201 lf6_19 fo6_5 (ly32 hL) (lr32_5 hL)).trans ?_
  refine (at_iconst (v := 5) dc201_105 rfl).trans ?_
  refine (at_iload_n dc201_106 rfl).trans ?_
  refine (at_bipush (v := 20) dc201_107 (by decide)).trans ?_
  refine (at_idiv dc201_109 (by decide)).trans ?_
  refine (at_iadd dc201_110).trans ?_
  refine (at_iald dc201_111 (ly36 hL) i2).trans ?_
  refine (at_iload_n dc201_112 rfl).trans ?_
  refine (at_bipush (v := 20) dc201_113 (by decide)).trans ?_
  refine (at_irem dc201_115 (by decide)).trans ?_
  refine (at_ishr dc201_116).trans ?_
  refine (at_iconst (v := 1) dc201_117 rfl).trans ?_
  refine (at_iand dc201_118).trans ?_
  refine (at_iadd dc201_119).trans ?_
  refine (at_istore_n dc201_120 rfl).trans ?_
  refine (at_iinc (v := 1) dc201_121 rfl (by decide) rfl).trans ?_
  refine (at_goto (t := 94) dc201_124 (by decide)).trans ?_
  rfl
theorem b201_127 {X : pm_X} {d : Nat} {x1 : Int32} {x2 : Int32} {x3 : Int32} {g : pm_G} {iv : pm_V}  : pm_at X d 201 (127, [some (.ref 32), some (.int x1), some (.int x2), some (.int x3)], [], g, iv) = some (some (.int x2), g, iv) := by
  refine (at_iload_n dc201_127 rfl).trans ?_
  exact at_iret dc201_128 mr201
theorem b201_129 {X : pm_X} {d : Nat} {x1 : Int32} {x2 : Int32} {g : pm_G} {iv : pm_V} (hL : pm_lay g) : pm_at X d 201 (129, [some (.ref 32), some (.int x1), some (.int x2), none], [], g, iv) = some (some (.int (iv 36 4)), g, iv) := by
  refine (at_aload_n dc201_129 rfl).trans ?_
  refine (at_gfR dc201_130 mc201 lf6_19 fo6_5 (ly32 hL) (lr32_5 hL)).trans ?_
  refine (at_iconst (v := 4) dc201_133 rfl).trans ?_
  refine (at_iald dc201_134 (ly36 hL) (vp_in_nI (n := 4) (by decide) (by decide))).trans ?_
  exact at_iret dc201_135 mr201
theorem b201_136 {X : pm_X} {d : Nat} {x1 : Int32} {x2 : Int32} {g : pm_G} {iv : pm_V} (hL : pm_lay g) : pm_at X d 201 (136, [some (.ref 32), some (.int x1), some (.int x2), none], [], g, iv) = some (some (.int (iv 32 8)), g, iv) := by
  refine (at_aload_n dc201_136 rfl).trans ?_
  refine (at_gfI dc201_137 mc201 lf6_181 fo6_8 (ly32 hL)).trans ?_
  exact at_iret dc201_140 mr201
theorem b201_141 {X : pm_X} {d : Nat} {x1 : Int32} {x2 : Int32} {g : pm_G} {iv : pm_V}  : pm_at X d 201 (141, [some (.ref 32), some (.int x1), some (.int x2), none], [], g, iv) = pm_at X d 201 (143, [some (.ref 32), some (.int x1), some (.int x2), some (.int 0)], [], g, iv) := by
  refine (at_iconst (v := 0) dc201_141 rfl).trans ?_
  refine (at_istore_n dc201_142 rfl).trans ?_
  rfl
theorem b201_143 {X : pm_X} {d : Nat} {x1 : Int32} {x2 : Int32} {x3 : Int32} {g : pm_G} {iv : pm_V} (hL : pm_lay g) : pm_at X d 201 (143, [some (.ref 32), some (.int x1), some (.int x2), some (.int x3)], [], g, iv) = if (iv 36 3) ≤ x3 then pm_at X d 201 (168, [some (.ref 32), some (.int x1), some (.int x2), some (.int x3)], [], g, iv) else pm_at X d 201 (153, [some (.ref 32), some (.int x1), some (.int x2), some (.int x3)], [], g, iv) := by
  refine (at_iload_n dc201_143 rfl).trans ?_
  refine (at_aload_n dc201_144 rfl).trans ?_
  refine (at_gfR dc201_145 mc201 lf6_19 fo6_5 (ly32 hL) (lr32_5 hL)).trans ?_
  refine (at_iconst (v := 3) dc201_148 rfl).trans ?_
  refine (at_iald dc201_149 (ly36 hL) (vp_in_nI (n := 3) (by decide) (by decide))).trans ?_
  exact at_icmp_ge (t := 168) dc201_150 (by decide)
theorem b201_153 {X : pm_X} {d : Nat} {x1 : Int32} {x2 : Int32} {x3 : Int32} {g : pm_G} {iv : pm_V} (hL : pm_lay g) : pm_at X d 201 (153, [some (.ref 32), some (.int x1), some (.int x2), some (.int x3)], [], g, iv) = pm_then X d 201 160 [some (.ref 32), some (.int x1), some (.int x2), some (.int x3)] [.int x2] (pm_c X d 159 [.ref 32, .int x3, .int 4] g iv) := by
  refine (at_iload_n dc201_153 rfl).trans ?_
  refine (at_aload_n dc201_154 rfl).trans ?_
  refine (at_iload_n dc201_155 rfl).trans ?_
  refine (at_iconst (v := 4) dc201_156 rfl).trans ?_
  exact at_inv dc201_157 mc201 lm6_187 rfl rfl (Nat.le_of_ble_eq_true rfl) (Or.inl ⟨(ly32 hL), by decide⟩)
theorem b201_160 {X : pm_X} {d : Nat} {x1 : Int32} {x2 : Int32} {x3 : Int32} {s0 : Int32} {s1 : Int32} {g : pm_G} {iv : pm_V}  : pm_at X d 201 (160, [some (.ref 32), some (.int x1), some (.int x2), some (.int x3)], [.int s0, .int s1], g, iv) = pm_at X d 201 (143, [some (.ref 32), some (.int x1), some (.int (s1 + s0)), some (.int (x3 + 1))], [], g, iv) := by
  refine (at_iadd dc201_160).trans ?_
  refine (at_istore_n dc201_161 rfl).trans ?_
  refine (at_iinc (v := 1) dc201_162 rfl (by decide) rfl).trans ?_
  refine (at_goto (t := 143) dc201_165 (by decide)).trans ?_
  rfl
theorem b201_168 {X : pm_X} {d : Nat} {x1 : Int32} {x2 : Int32} {x3 : Int32} {g : pm_G} {iv : pm_V}  : pm_at X d 201 (168, [some (.ref 32), some (.int x1), some (.int x2), some (.int x3)], [], g, iv) = some (some (.int x2), g, iv) := by
  refine (at_iload_n dc201_168 rfl).trans ?_
  exact at_iret dc201_169 mr201
theorem b201_170 {X : pm_X} {d : Nat} {x1 : Int32} {x2 : Int32} {g : pm_G} {iv : pm_V} (hL : pm_lay g) : pm_at X d 201 (170, [some (.ref 32), some (.int x1), some (.int x2), none], [], g, iv) = some (some (.int (iv 32 10)), g, iv) := by
  refine (at_aload_n dc201_170 rfl).trans ?_
  refine (at_gfI dc201_171 mc201 lf6_77 fo6_10 (ly32 hL)).trans ?_
  exact at_iret dc201_174 mr201
theorem b201_175 {X : pm_X} {d : Nat} {x1 : Int32} {x2 : Int32} {g : pm_G} {iv : pm_V}  : pm_at X d 201 (175, [some (.ref 32), some (.int x1), some (.int x2), none], [], g, iv) = some (some (.int (-1000001)), g, iv) := by
  refine (at_ldc dc201_175 mc201 lk6_70).trans ?_
  exact at_iret dc201_177 mr201
-- Mod.status ()I
theorem dc202_0 : decode (pm_mb 202) 0 = .ok (.aload_n 0, 1) := by decide +kernel
theorem dc202_1 : decode (pm_mb 202) 1 = .ok (.iconst 0, 1) := by decide +kernel
theorem dc202_2 : decode (pm_mb 202) 2 = .ok (.putfield 50, 3) := by decide +kernel
theorem dc202_5 : decode (pm_mb 202) 5 = .ok (.aload_n 0, 1) := by decide +kernel
theorem dc202_6 : decode (pm_mb 202) 6 = .ok (.getfield 54, 3) := by decide +kernel
theorem dc202_9 : decode (pm_mb 202) 9 = .ok (.ireturn, 1) := by decide +kernel
theorem b202_0 {X : pm_X} {d : Nat} {g : pm_G} {iv : pm_V} (hL : pm_lay g) : pm_at X d 202 (0, [some (.ref 32)], [], g, iv) = some (some (.int ((pm_iw iv 32 0 0) 32 1)), g, (pm_iw iv 32 0 0)) := by
  refine (at_aload_n dc202_0 rfl).trans ?_
  refine (at_iconst (v := 0) dc202_1 rfl).trans ?_
  refine (at_pfI dc202_2 mc202 lf6_50 po6_0 (ly32 hL)).trans ?_
  refine (at_aload_n dc202_5 rfl).trans ?_
  refine (at_gfI dc202_6 mc202 lf6_54 fo6_1 (ly32 hL)).trans ?_
  exact at_iret dc202_9 mr202
