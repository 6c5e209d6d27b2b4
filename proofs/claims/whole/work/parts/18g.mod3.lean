-- Mod.beside (III)I
theorem dc180_0 : decode (pm_mb 180) 0 = .ok (.aload_n 0, 1) := by decide +kernel
theorem dc180_1 : decode (pm_mb 180) 1 = .ok (.iconst 0, 1) := by decide +kernel
theorem dc180_2 : decode (pm_mb 180) 2 = .ok (.putfield 50, 3) := by decide +kernel
theorem dc180_5 : decode (pm_mb 180) 5 = .ok (.aload_n 0, 1) := by decide +kernel
theorem dc180_6 : decode (pm_mb 180) 6 = .ok (.iload_n 1, 1) := by decide +kernel
theorem dc180_7 : decode (pm_mb 180) 7 = .ok (.iload_n 2, 1) := by decide +kernel
theorem dc180_8 : decode (pm_mb 180) 8 = .ok (.invokevirtual 234, 3) := by decide +kernel
theorem dc180_11 : decode (pm_mb 180) 11 = .ok (.ifCond .eq 15, 3) := by decide +kernel
theorem dc180_14 : decode (pm_mb 180) 14 = .ok (.iload_n 3, 1) := by decide +kernel
theorem dc180_15 : decode (pm_mb 180) 15 = .ok (.i2l, 1) := by decide +kernel
theorem dc180_16 : decode (pm_mb 180) 16 = .ok (.lconst 0, 1) := by decide +kernel
theorem dc180_17 : decode (pm_mb 180) 17 = .ok (.ldc2_w 229, 3) := by decide +kernel
theorem dc180_20 : decode (pm_mb 180) 20 = .ok (.invokestatic 60, 3) := by decide +kernel
theorem dc180_23 : decode (pm_mb 180) 23 = .ok (.ifCond .ne 6, 3) := by decide +kernel
theorem dc180_26 : decode (pm_mb 180) 26 = .ok (.ldc 70, 2) := by decide +kernel
theorem dc180_28 : decode (pm_mb 180) 28 = .ok (.ireturn, 1) := by decide +kernel
theorem dc180_29 : decode (pm_mb 180) 29 = .ok (.aload_n 0, 1) := by decide +kernel
theorem dc180_30 : decode (pm_mb 180) 30 = .ok (.iload_n 3, 1) := by decide +kernel
theorem dc180_31 : decode (pm_mb 180) 31 = .ok (.invokevirtual 231, 3) := by decide +kernel
theorem dc180_34 : decode (pm_mb 180) 34 = .ok (.aload_n 0, 1) := by decide +kernel
theorem dc180_35 : decode (pm_mb 180) 35 = .ok (.iload_n 1, 1) := by decide +kernel
theorem dc180_36 : decode (pm_mb 180) 36 = .ok (.iload_n 2, 1) := by decide +kernel
theorem dc180_37 : decode (pm_mb 180) 37 = .ok (.invokevirtual 237, 3) := by decide +kernel
theorem dc180_40 : decode (pm_mb 180) 40 = .ok (.ifCond .eq 7, 3) := by decide +kernel
theorem dc180_43 : decode (pm_mb 180) 43 = .ok (.iconst 1, 1) := by decide +kernel
theorem dc180_44 : decode (pm_mb 180) 44 = .ok (.goto 4, 3) := by decide +kernel
theorem dc180_47 : decode (pm_mb 180) 47 = .ok (.iconst 0, 1) := by decide +kernel
theorem dc180_48 : decode (pm_mb 180) 48 = .ok (.ireturn, 1) := by decide +kernel
theorem b180_0 {X : pm_X} {d : Nat} {x1 : Int32} {x2 : Int32} {x3 : Int32} {g : pm_G} {iv : pm_V} (hL : pm_lay g) : pm_at X d 180 (0, [some (.ref 32), some (.int x1), some (.int x2), some (.int x3)], [], g, iv) = pm_then X d 180 11 [some (.ref 32), some (.int x1), some (.int x2), some (.int x3)] [] (pm_c X d 157 [.ref 32, .int x1, .int x2] g (pm_iw iv 32 0 0)) := by
  refine (at_aload_n dc180_0 rfl).trans ?_
  refine (at_iconst (v := 0) dc180_1 rfl).trans ?_
  refine (at_pfI dc180_2 mc180 lf6_50 po6_0 (ly32 hL)).trans ?_
  refine (at_aload_n dc180_5 rfl).trans ?_
  refine (at_iload_n dc180_6 rfl).trans ?_
  refine (at_iload_n dc180_7 rfl).trans ?_
  exact at_inv dc180_8 mc180 lm6_234 rfl rfl (Nat.le_of_ble_eq_true rfl) (Or.inl ⟨(ly32 hL), by decide⟩)
theorem b180_11 {X : pm_X} {d : Nat} {x1 : Int32} {x2 : Int32} {x3 : Int32} {s0 : Int32} {g : pm_G} {iv : pm_V}  : pm_at X d 180 (11, [some (.ref 32), some (.int x1), some (.int x2), some (.int x3)], [.int s0], g, iv) = if s0 = 0 then pm_at X d 180 (26, [some (.ref 32), some (.int x1), some (.int x2), some (.int x3)], [], g, iv) else pm_at X d 180 (14, [some (.ref 32), some (.int x1), some (.int x2), some (.int x3)], [], g, iv) := by
  exact at_if_eq (t := 26) dc180_11 (by decide)
theorem b180_14 {X : pm_X} {d : Nat} {x1 : Int32} {x2 : Int32} {x3 : Int32} {g : pm_G} {iv : pm_V}  : pm_at X d 180 (14, [some (.ref 32), some (.int x1), some (.int x2), some (.int x3)], [], g, iv) = pm_then X d 180 23 [some (.ref 32), some (.int x1), some (.int x2), some (.int x3)] [] (pm_c X d 129 [.long (x3 : Int32).toInt64, .long 0, .long 40] g iv) := by
  refine (at_iload_n dc180_14 rfl).trans ?_
  refine (at_i2l dc180_15).trans ?_
  refine (at_lconst (v := 0) dc180_16 (by decide)).trans ?_
  refine (at_ldc2 dc180_17 mc180 ll6_229).trans ?_
  exact at_ins dc180_20 mc180 lm6_60 (Nat.le_of_ble_eq_true rfl) rfl rfl (Nat.le_of_ble_eq_true rfl)
theorem b180_23 {X : pm_X} {d : Nat} {x1 : Int32} {x2 : Int32} {x3 : Int32} {s0 : Int32} {g : pm_G} {iv : pm_V}  : pm_at X d 180 (23, [some (.ref 32), some (.int x1), some (.int x2), some (.int x3)], [.int s0], g, iv) = if ¬ s0 = 0 then pm_at X d 180 (29, [some (.ref 32), some (.int x1), some (.int x2), some (.int x3)], [], g, iv) else pm_at X d 180 (26, [some (.ref 32), some (.int x1), some (.int x2), some (.int x3)], [], g, iv) := by
  exact at_if_ne (t := 29) dc180_23 (by decide)
theorem b180_26 {X : pm_X} {d : Nat} {x1 : Int32} {x2 : Int32} {x3 : Int32} {g : pm_G} {iv : pm_V}  : pm_at X d 180 (26, [some (.ref 32), some (.int x1), some (.int x2), some (.int x3)], [], g, iv) = some (some (.int (-1000001)), g, iv) := by
  refine (at_ldc dc180_26 mc180 lk6_70).trans ?_
  exact at_iret dc180_28 mr180
theorem b180_29 {X : pm_X} {d : Nat} {x1 : Int32} {x2 : Int32} {x3 : Int32} {g : pm_G} {iv : pm_V} (hL : pm_lay g) : pm_at X d 180 (29, [some (.ref 32), some (.int x1), some (.int x2), some (.int x3)], [], g, iv) = pm_then X d 180 34 [some (.ref 32), some (.int x1), some (.int x2), some (.int x3)] [] (pm_c X d 176 [.ref 32, .int x3] g iv) := by
  refine (at_aload_n dc180_29 rfl).trans ?_
  refine (at_iload_n dc180_30 rfl).trans ?_
  exact at_inv dc180_31 mc180 lm6_231 rfl rfl (Nat.le_of_ble_eq_true rfl) (Or.inl ⟨(ly32 hL), by decide⟩)
theorem b180_34 {X : pm_X} {d : Nat} {x1 : Int32} {x2 : Int32} {x3 : Int32} {g : pm_G} {iv : pm_V} (hL : pm_lay g) : pm_at X d 180 (34, [some (.ref 32), some (.int x1), some (.int x2), some (.int x3)], [], g, iv) = pm_then X d 180 40 [some (.ref 32), some (.int x1), some (.int x2), some (.int x3)] [] (pm_c X d 179 [.ref 32, .int x1, .int x2] g iv) := by
  refine (at_aload_n dc180_34 rfl).trans ?_
  refine (at_iload_n dc180_35 rfl).trans ?_
  refine (at_iload_n dc180_36 rfl).trans ?_
  exact at_inv dc180_37 mc180 lm6_237 rfl rfl (Nat.le_of_ble_eq_true rfl) (Or.inl ⟨(ly32 hL), by decide⟩)
theorem b180_40 {X : pm_X} {d : Nat} {x1 : Int32} {x2 : Int32} {x3 : Int32} {s0 : Int32} {g : pm_G} {iv : pm_V}  : pm_at X d 180 (40, [some (.ref 32), some (.int x1), some (.int x2), some (.int x3)], [.int s0], g, iv) = if s0 = 0 then pm_at X d 180 (47, [some (.ref 32), some (.int x1), some (.int x2), some (.int x3)], [], g, iv) else pm_at X d 180 (43, [some (.ref 32), some (.int x1), some (.int x2), some (.int x3)], [], g, iv) := by
  exact at_if_eq (t := 47) dc180_40 (by decide)
theorem b180_43 {X : pm_X} {d : Nat} {x1 : Int32} {x2 : Int32} {x3 : Int32} {g : pm_G} {iv : pm_V}  : pm_at X d 180 (43, [some (.ref 32), some (.int x1), some (.int x2), some (.int x3)], [], g, iv) = pm_at X d 180 (48, [some (.ref 32), some (.int x1), some (.int x2), some (.int x3)], [.int 1], g, iv) := by
  refine (at_iconst (v := 1) dc180_43 rfl).trans ?_
  refine (at_goto (t := 48) dc180_44 (by decide)).trans ?_
  rfl
theorem b180_47 {X : pm_X} {d : Nat} {x1 : Int32} {x2 : Int32} {x3 : Int32} {g : pm_G} {iv : pm_V}  : pm_at X d 180 (47, [some (.ref 32), some (.int x1), some (.int x2), some (.int x3)], [], g, iv) = pm_at X d 180 (48, [some (.ref 32), some (.int x1), some (.int x2), some (.int x3)], [.int 0], g, iv) := by
  refine (at_iconst (v := 0) dc180_47 rfl).trans ?_
  rfl
theorem b180_48 {X : pm_X} {d : Nat} {x1 : Int32} {x2 : Int32} {x3 : Int32} {s0 : Int32} {g : pm_G} {iv : pm_V}  : pm_at X d 180 (48, [some (.ref 32), some (.int x1), some (.int x2), some (.int x3)], [.int s0], g, iv) = some (some (.int s0), g, iv) := by
  exact at_iret dc180_48 mr180
-- Mod.meetsBy (IIIII)Z
theorem dc181_0 : decode (pm_mb 181) 0 = .ok (.aload_n 0, 1) := by decide +kernel
theorem dc181_1 : decode (pm_mb 181) 1 = .ok (.invokevirtual 213, 3) := by decide +kernel
theorem dc181_4 : decode (pm_mb 181) 4 = .ok (.iconst 0, 1) := by decide +kernel
theorem dc181_5 : decode (pm_mb 181) 5 = .ok (.istore 6, 2) := by decide +kernel
theorem dc181_7 : decode (pm_mb 181) 7 = .ok (.iload 6, 2) := by decide +kernel
theorem dc181_9 : decode (pm_mb 181) 9 = .ok (.iload 5, 2) := by decide +kernel
theorem dc181_11 : decode (pm_mb 181) 11 = .ok (.if_icmp .ge 67, 3) := by decide +kernel
theorem dc181_14 : decode (pm_mb 181) 14 = .ok (.aload_n 0, 1) := by decide +kernel
theorem dc181_15 : decode (pm_mb 181) 15 = .ok (.getfield 34, 3) := by decide +kernel
theorem dc181_18 : decode (pm_mb 181) 18 = .ok (.iload_n 1, 1) := by decide +kernel
theorem dc181_19 : decode (pm_mb 181) 19 = .ok (.iload 6, 2) := by decide +kernel
theorem dc181_21 : decode (pm_mb 181) 21 = .ok (.iload_n 2, 1) := by decide +kernel
theorem dc181_22 : decode (pm_mb 181) 22 = .ok (.if_icmp .ge 7, 3) := by decide +kernel
theorem dc181_25 : decode (pm_mb 181) 25 = .ok (.iconst 1, 1) := by decide +kernel
theorem dc181_26 : decode (pm_mb 181) 26 = .ok (.goto 9, 3) := by decide +kernel
theorem dc181_29 : decode (pm_mb 181) 29 = .ok (.aload_n 0, 1) := by decide +kernel
theorem dc181_30 : decode (pm_mb 181) 30 = .ok (.iload_n 1, 1) := by decide +kernel
theorem dc181_31 : decode (pm_mb 181) 31 = .ok (.iconst 4, 1) := by decide +kernel
theorem dc181_32 : decode (pm_mb 181) 32 = .ok (.invokevirtual 187, 3) := by decide +kernel
theorem dc181_35 : decode (pm_mb 181) 35 = .ok (.iastore, 1) := by decide +kernel
theorem dc181_36 : decode (pm_mb 181) 36 = .ok (.aload_n 0, 1) := by decide +kernel
theorem dc181_37 : decode (pm_mb 181) 37 = .ok (.getfield 34, 3) := by decide +kernel
theorem dc181_40 : decode (pm_mb 181) 40 = .ok (.iload_n 3, 1) := by decide +kernel
theorem dc181_41 : decode (pm_mb 181) 41 = .ok (.iload 6, 2) := by decide +kernel
theorem dc181_43 : decode (pm_mb 181) 43 = .ok (.iload 4, 2) := by decide +kernel
theorem dc181_45 : decode (pm_mb 181) 45 = .ok (.if_icmp .ge 7, 3) := by decide +kernel
theorem dc181_48 : decode (pm_mb 181) 48 = .ok (.iconst 1, 1) := by decide +kernel
theorem dc181_49 : decode (pm_mb 181) 49 = .ok (.goto 9, 3) := by decide +kernel
theorem dc181_52 : decode (pm_mb 181) 52 = .ok (.aload_n 0, 1) := by decide +kernel
theorem dc181_53 : decode (pm_mb 181) 53 = .ok (.iload_n 3, 1) := by decide +kernel
theorem dc181_54 : decode (pm_mb 181) 54 = .ok (.iconst 4, 1) := by decide +kernel
theorem dc181_55 : decode (pm_mb 181) 55 = .ok (.invokevirtual 187, 3) := by decide +kernel
theorem dc181_58 : decode (pm_mb 181) 58 = .ok (.iastore, 1) := by decide +kernel
theorem dc181_59 : decode (pm_mb 181) 59 = .ok (.aload_n 0, 1) := by decide +kernel
theorem dc181_60 : decode (pm_mb 181) 60 = .ok (.aload_n 0, 1) := by decide +kernel
theorem dc181_61 : decode (pm_mb 181) 61 = .ok (.getfield 19, 3) := by decide +kernel
theorem dc181_64 : decode (pm_mb 181) 64 = .ok (.iconst 4, 1) := by decide +kernel
theorem dc181_65 : decode (pm_mb 181) 65 = .ok (.iaload, 1) := by decide +kernel
theorem dc181_66 : decode (pm_mb 181) 66 = .ok (.iload 6, 2) := by decide +kernel
theorem dc181_68 : decode (pm_mb 181) 68 = .ok (.iadd, 1) := by decide +kernel
theorem dc181_69 : decode (pm_mb 181) 69 = .ok (.invokevirtual 216, 3) := by decide +kernel
theorem dc181_72 : decode (pm_mb 181) 72 = .ok (.iinc 6 1, 3) := by decide +kernel
theorem dc181_75 : decode (pm_mb 181) 75 = .ok (.goto (-68), 3) := by decide +kernel
theorem dc181_78 : decode (pm_mb 181) 78 = .ok (.aload_n 0, 1) := by decide +kernel
theorem dc181_79 : decode (pm_mb 181) 79 = .ok (.iload_n 1, 1) := by decide +kernel
theorem dc181_80 : decode (pm_mb 181) 80 = .ok (.iload_n 3, 1) := by decide +kernel
theorem dc181_81 : decode (pm_mb 181) 81 = .ok (.invokevirtual 237, 3) := by decide +kernel
theorem dc181_84 : decode (pm_mb 181) 84 = .ok (.ireturn, 1) := by decide +kernel
theorem b181_0 {X : pm_X} {d : Nat} {x1 : Int32} {x2 : Int32} {x3 : Int32} {x4 : Int32} {x5 : Int32} {g : pm_G} {iv : pm_V} (hL : pm_lay g) : pm_at X d 181 (0, [some (.ref 32), some (.int x1), some (.int x2), some (.int x3), some (.int x4), some (.int x5), none], [], g, iv) = pm_then X d 181 4 [some (.ref 32), some (.int x1), some (.int x2), some (.int x3), some (.int x4), some (.int x5), none] [] (pm_c X d 160 [.ref 32] g iv) := by
  refine (at_aload_n dc181_0 rfl).trans ?_
  exact at_inv dc181_1 mc181 lm6_213 rfl rfl (Nat.le_of_ble_eq_true rfl) (Or.inl ⟨(ly32 hL), by decide⟩)
theorem b181_4 {X : pm_X} {d : Nat} {x1 : Int32} {x2 : Int32} {x3 : Int32} {x4 : Int32} {x5 : Int32} {g : pm_G} {iv : pm_V}  : pm_at X d 181 (4, [some (.ref 32), some (.int x1), some (.int x2), some (.int x3), some (.int x4), some (.int x5), none], [], g, iv) = pm_at X d 181 (7, [some (.ref 32), some (.int x1), some (.int x2), some (.int x3), some (.int x4), some (.int x5), some (.int 0)], [], g, iv) := by
  refine (at_iconst (v := 0) dc181_4 rfl).trans ?_
  refine (at_istore dc181_5 rfl).trans ?_
  rfl
theorem b181_7 {X : pm_X} {d : Nat} {x1 : Int32} {x2 : Int32} {x3 : Int32} {x4 : Int32} {x5 : Int32} {x6 : Int32} {g : pm_G} {iv : pm_V}  : pm_at X d 181 (7, [some (.ref 32), some (.int x1), some (.int x2), some (.int x3), some (.int x4), some (.int x5), some (.int x6)], [], g, iv) = if x5 ≤ x6 then pm_at X d 181 (78, [some (.ref 32), some (.int x1), some (.int x2), some (.int x3), some (.int x4), some (.int x5), some (.int x6)], [], g, iv) else pm_at X d 181 (14, [some (.ref 32), some (.int x1), some (.int x2), some (.int x3), some (.int x4), some (.int x5), some (.int x6)], [], g, iv) := by
  refine (at_iload dc181_7 rfl).trans ?_
  refine (at_iload dc181_9 rfl).trans ?_
  exact at_icmp_ge (t := 78) dc181_11 (by decide)
theorem b181_14 {X : pm_X} {d : Nat} {x1 : Int32} {x2 : Int32} {x3 : Int32} {x4 : Int32} {x5 : Int32} {x6 : Int32} {g : pm_G} {iv : pm_V} (hL : pm_lay g) : pm_at X d 181 (14, [some (.ref 32), some (.int x1), some (.int x2), some (.int x3), some (.int x4), some (.int x5), some (.int x6)], [], g, iv) = if x2 ≤ x6 then pm_at X d 181 (29, [some (.ref 32), some (.int x1), some (.int x2), some (.int x3), some (.int x4), some (.int x5), some (.int x6)], [.int x1, .ref 41], g, iv) else pm_at X d 181 (25, [some (.ref 32), some (.int x1), some (.int x2), some (.int x3), some (.int x4), some (.int x5), some (.int x6)], [.int x1, .ref 41], g, iv) := by
  refine (at_aload_n dc181_14 rfl).trans ?_
  refine (at_gfR dc181_15 mc181 lf6_34 fo6_20 (ly32 hL) (lr32_20 hL)).trans ?_
  refine (at_iload_n dc181_18 rfl).trans ?_
  refine (at_iload dc181_19 rfl).trans ?_
  refine (at_iload_n dc181_21 rfl).trans ?_
  exact at_icmp_ge (t := 29) dc181_22 (by decide)
theorem b181_25 {X : pm_X} {d : Nat} {x1 : Int32} {x2 : Int32} {x3 : Int32} {x4 : Int32} {x5 : Int32} {x6 : Int32} {s0 : Int32} {g : pm_G} {iv : pm_V}  : pm_at X d 181 (25, [some (.ref 32), some (.int x1), some (.int x2), some (.int x3), some (.int x4), some (.int x5), some (.int x6)], [.int s0, .ref 41], g, iv) = pm_at X d 181 (35, [some (.ref 32), some (.int x1), some (.int x2), some (.int x3), some (.int x4), some (.int x5), some (.int x6)], [.int 1, .int s0, .ref 41], g, iv) := by
  refine (at_iconst (v := 1) dc181_25 rfl).trans ?_
  refine (at_goto (t := 35) dc181_26 (by decide)).trans ?_
  rfl
theorem b181_29 {X : pm_X} {d : Nat} {x1 : Int32} {x2 : Int32} {x3 : Int32} {x4 : Int32} {x5 : Int32} {x6 : Int32} {s0 : Int32} {g : pm_G} {iv : pm_V} (hL : pm_lay g) : pm_at X d 181 (29, [some (.ref 32), some (.int x1), some (.int x2), some (.int x3), some (.int x4), some (.int x5), some (.int x6)], [.int s0, .ref 41], g, iv) = pm_then X d 181 35 [some (.ref 32), some (.int x1), some (.int x2), some (.int x3), some (.int x4), some (.int x5), some (.int x6)] [.int s0, .ref 41] (pm_c X d 158 [.ref 32, .int x1, .int 4] g iv) := by
  refine (at_aload_n dc181_29 rfl).trans ?_
  refine (at_iload_n dc181_30 rfl).trans ?_
  refine (at_iconst (v := 4) dc181_31 rfl).trans ?_
  exact at_inv dc181_32 mc181 lm6_187 rfl rfl (Nat.le_of_ble_eq_true rfl) (Or.inl ⟨(ly32 hL), by decide⟩)
theorem b181_35 {X : pm_X} {d : Nat} {x1 : Int32} {x2 : Int32} {x3 : Int32} {x4 : Int32} {x5 : Int32} {x6 : Int32} {s0 : Int32} {s1 : Int32} {g : pm_G} {iv : pm_V} (hL : pm_lay g) (i1 : vp_in s1 6) : pm_at X d 181 (35, [some (.ref 32), some (.int x1), some (.int x2), some (.int x3), some (.int x4), some (.int x5), some (.int x6)], [.int s0, .int s1, .ref 41], g, iv) = if x4 ≤ x6 then pm_at X d 181 (52, [some (.ref 32), some (.int x1), some (.int x2), some (.int x3), some (.int x4), some (.int x5), some (.int x6)], [.int x3, .ref 41], g, (pm_iw iv 41 (s1 : Int32).toNatClampNeg s0)) else pm_at X d 181 (48, [some (.ref 32), some (.int x1), some (.int x2), some (.int x3), some (.int x4), some (.int x5), some (.int x6)], [.int x3, .ref 41], g, (pm_iw iv 41 (s1 : Int32).toNatClampNeg s0)) := by
  refine (at_iast dc181_35 (ly41 hL) i1).trans ?_
  refine (at_aload_n dc181_36 rfl).trans ?_
  refine (at_gfR dc181_37 mc181 lf6_34 fo6_20 (ly32 hL) (lr32_20 hL)).trans ?_
  refine (at_iload_n dc181_40 rfl).trans ?_
  refine (at_iload dc181_41 rfl).trans ?_
  refine (at_iload dc181_43 rfl).trans ?_
  exact at_icmp_ge (t := 52) dc181_45 (by decide)
theorem b181_48 {X : pm_X} {d : Nat} {x1 : Int32} {x2 : Int32} {x3 : Int32} {x4 : Int32} {x5 : Int32} {x6 : Int32} {s0 : Int32} {g : pm_G} {iv : pm_V}  : pm_at X d 181 (48, [some (.ref 32), some (.int x1), some (.int x2), some (.int x3), some (.int x4), some (.int x5), some (.int x6)], [.int s0, .ref 41], g, iv) = pm_at X d 181 (58, [some (.ref 32), some (.int x1), some (.int x2), some (.int x3), some (.int x4), some (.int x5), some (.int x6)], [.int 1, .int s0, .ref 41], g, iv) := by
  refine (at_iconst (v := 1) dc181_48 rfl).trans ?_
  refine (at_goto (t := 58) dc181_49 (by decide)).trans ?_
  rfl
theorem b181_52 {X : pm_X} {d : Nat} {x1 : Int32} {x2 : Int32} {x3 : Int32} {x4 : Int32} {x5 : Int32} {x6 : Int32} {s0 : Int32} {g : pm_G} {iv : pm_V} (hL : pm_lay g) : pm_at X d 181 (52, [some (.ref 32), some (.int x1), some (.int x2), some (.int x3), some (.int x4), some (.int x5), some (.int x6)], [.int s0, .ref 41], g, iv) = pm_then X d 181 58 [some (.ref 32), some (.int x1), some (.int x2), some (.int x3), some (.int x4), some (.int x5), some (.int x6)] [.int s0, .ref 41] (pm_c X d 158 [.ref 32, .int x3, .int 4] g iv) := by
  refine (at_aload_n dc181_52 rfl).trans ?_
  refine (at_iload_n dc181_53 rfl).trans ?_
  refine (at_iconst (v := 4) dc181_54 rfl).trans ?_
  exact at_inv dc181_55 mc181 lm6_187 rfl rfl (Nat.le_of_ble_eq_true rfl) (Or.inl ⟨(ly32 hL), by decide⟩)
theorem b181_58 {X : pm_X} {d : Nat} {x1 : Int32} {x2 : Int32} {x3 : Int32} {x4 : Int32} {x5 : Int32} {x6 : Int32} {s0 : Int32} {s1 : Int32} {g : pm_G} {iv : pm_V} (hL : pm_lay g) (i1 : vp_in s1 6) : pm_at X d 181 (58, [some (.ref 32), some (.int x1), some (.int x2), some (.int x3), some (.int x4), some (.int x5), some (.int x6)], [.int s0, .int s1, .ref 41], g, iv) = pm_then X d 181 72 [some (.ref 32), some (.int x1), some (.int x2), some (.int x3), some (.int x4), some (.int x5), some (.int x6)] [] (pm_c X d 165 [.ref 32, .int (((pm_iw iv 41 (s1 : Int32).toNatClampNeg s0) 36 4) + x6)] g (pm_iw iv 41 (s1 : Int32).toNatClampNeg s0)) := by
  refine (at_iast dc181_58 (ly41 hL) i1).trans ?_
  refine (at_aload_n dc181_59 rfl).trans ?_
  refine (at_aload_n dc181_60 rfl).trans ?_
  refine (at_gfR dc181_61 mc181 lf6_19 fo6_5 (ly32 hL) (lr32_5 hL)).trans ?_
  refine (at_iconst (v := 4) dc181_64 rfl).trans ?_
  refine (at_iald dc181_65 (ly36 hL) (vp_in_nI (n := 4) (by decide) (by decide))).trans ?_
  refine (at_iload dc181_66 rfl).trans ?_
  refine (at_iadd dc181_68).trans ?_
  exact at_inv dc181_69 mc181 lm6_216 rfl rfl (Nat.le_of_ble_eq_true rfl) (Or.inl ⟨(ly32 hL), by decide⟩)
theorem b181_72 {X : pm_X} {d : Nat} {x1 : Int32} {x2 : Int32} {x3 : Int32} {x4 : Int32} {x5 : Int32} {x6 : Int32} {g : pm_G} {iv : pm_V}  : pm_at X d 181 (72, [some (.ref 32), some (.int x1), some (.int x2), some (.int x3), some (.int x4), some (.int x5), some (.int x6)], [], g, iv) = pm_at X d 181 (7, [some (.ref 32), some (.int x1), some (.int x2), some (.int x3), some (.int x4), some (.int x5), some (.int (x6 + 1))], [], g, iv) := by
  refine (at_iinc (v := 1) dc181_72 rfl (by decide) rfl).trans ?_
  refine (at_goto (t := 7) dc181_75 (by decide)).trans ?_
  rfl
theorem b181_78 {X : pm_X} {d : Nat} {x1 : Int32} {x2 : Int32} {x3 : Int32} {x4 : Int32} {x5 : Int32} {x6 : Int32} {g : pm_G} {iv : pm_V} (hL : pm_lay g) : pm_at X d 181 (78, [some (.ref 32), some (.int x1), some (.int x2), some (.int x3), some (.int x4), some (.int x5), some (.int x6)], [], g, iv) = pm_then X d 181 84 [some (.ref 32), some (.int x1), some (.int x2), some (.int x3), some (.int x4), some (.int x5), some (.int x6)] [] (pm_c X d 179 [.ref 32, .int x1, .int x3] g iv) := by
  refine (at_aload_n dc181_78 rfl).trans ?_
  refine (at_iload_n dc181_79 rfl).trans ?_
  refine (at_iload_n dc181_80 rfl).trans ?_
  exact at_inv dc181_81 mc181 lm6_237 rfl rfl (Nat.le_of_ble_eq_true rfl) (Or.inl ⟨(ly32 hL), by decide⟩)
theorem b181_84 {X : pm_X} {d : Nat} {x1 : Int32} {x2 : Int32} {x3 : Int32} {x4 : Int32} {x5 : Int32} {x6 : Int32} {s0 : Int32} {g : pm_G} {iv : pm_V}  : pm_at X d 181 (84, [some (.ref 32), some (.int x1), some (.int x2), some (.int x3), some (.int x4), some (.int x5), some (.int x6)], [.int s0], g, iv) = pm_zr s0 (some (some (.int s0), g, iv)) := by
  exact at_zretG dc181_84 mr181
-- Mod.meet (IIII)I
theorem dc182_0 : decode (pm_mb 182) 0 = .ok (.aload_n 0, 1) := by decide +kernel
theorem dc182_1 : decode (pm_mb 182) 1 = .ok (.iconst 0, 1) := by decide +kernel
theorem dc182_2 : decode (pm_mb 182) 2 = .ok (.putfield 50, 3) := by decide +kernel
theorem dc182_5 : decode (pm_mb 182) 5 = .ok (.aload_n 0, 1) := by decide +kernel
theorem dc182_6 : decode (pm_mb 182) 6 = .ok (.iload_n 1, 1) := by decide +kernel
theorem dc182_7 : decode (pm_mb 182) 7 = .ok (.iload_n 2, 1) := by decide +kernel
theorem dc182_8 : decode (pm_mb 182) 8 = .ok (.invokevirtual 234, 3) := by decide +kernel
theorem dc182_11 : decode (pm_mb 182) 11 = .ok (.ifCond .eq 26, 3) := by decide +kernel
theorem dc182_14 : decode (pm_mb 182) 14 = .ok (.iload_n 3, 1) := by decide +kernel
theorem dc182_15 : decode (pm_mb 182) 15 = .ok (.i2l, 1) := by decide +kernel
theorem dc182_16 : decode (pm_mb 182) 16 = .ok (.lconst 0, 1) := by decide +kernel
theorem dc182_17 : decode (pm_mb 182) 17 = .ok (.ldc2_w 240, 3) := by decide +kernel
theorem dc182_20 : decode (pm_mb 182) 20 = .ok (.invokestatic 60, 3) := by decide +kernel
theorem dc182_23 : decode (pm_mb 182) 23 = .ok (.ifCond .eq 14, 3) := by decide +kernel
theorem dc182_26 : decode (pm_mb 182) 26 = .ok (.iload 4, 2) := by decide +kernel
theorem dc182_28 : decode (pm_mb 182) 28 = .ok (.i2l, 1) := by decide +kernel
theorem dc182_29 : decode (pm_mb 182) 29 = .ok (.lconst 0, 1) := by decide +kernel
theorem dc182_30 : decode (pm_mb 182) 30 = .ok (.lconst 1, 1) := by decide +kernel
theorem dc182_31 : decode (pm_mb 182) 31 = .ok (.invokestatic 60, 3) := by decide +kernel
theorem dc182_34 : decode (pm_mb 182) 34 = .ok (.ifCond .ne 6, 3) := by decide +kernel
theorem dc182_37 : decode (pm_mb 182) 37 = .ok (.ldc 70, 2) := by decide +kernel
theorem dc182_39 : decode (pm_mb 182) 39 = .ok (.ireturn, 1) := by decide +kernel
theorem dc182_40 : decode (pm_mb 182) 40 = .ok (.iconst 0, 1) := by decide +kernel
theorem dc182_41 : decode (pm_mb 182) 41 = .ok (.istore 5, 2) := by decide +kernel
theorem dc182_43 : decode (pm_mb 182) 43 = .ok (.iload 5, 2) := by decide +kernel
theorem dc182_45 : decode (pm_mb 182) 45 = .ok (.iconst 2, 1) := by decide +kernel
theorem dc182_46 : decode (pm_mb 182) 46 = .ok (.iload_n 3, 1) := by decide +kernel
theorem dc182_47 : decode (pm_mb 182) 47 = .ok (.imul, 1) := by decide +kernel
theorem dc182_48 : decode (pm_mb 182) 48 = .ok (.if_icmp .gt 74, 3) := by decide +kernel
theorem dc182_51 : decode (pm_mb 182) 51 = .ok (.iload 5, 2) := by decide +kernel
theorem dc182_53 : decode (pm_mb 182) 53 = .ok (.iload_n 3, 1) := by decide +kernel
theorem dc182_54 : decode (pm_mb 182) 54 = .ok (.if_icmp .le 10, 3) := by decide +kernel
theorem dc182_57 : decode (pm_mb 182) 57 = .ok (.iload 5, 2) := by decide +kernel
theorem dc182_59 : decode (pm_mb 182) 59 = .ok (.iload_n 3, 1) := by decide +kernel
theorem dc182_60 : decode (pm_mb 182) 60 = .ok (.isub, 1) := by decide +kernel
theorem dc182_61 : decode (pm_mb 182) 61 = .ok (.goto 4, 3) := by decide +kernel
theorem dc182_64 : decode (pm_mb 182) 64 = .ok (.iconst 0, 1) := by decide +kernel
theorem dc182_65 : decode (pm_mb 182) 65 = .ok (.istore 6, 2) := by decide +kernel
theorem dc182_67 : decode (pm_mb 182) 67 = .ok (.iload 6, 2) := by decide +kernel
theorem dc182_69 : decode (pm_mb 182) 69 = .ok (.iload_n 3, 1) := by decide +kernel
theorem dc182_70 : decode (pm_mb 182) 70 = .ok (.if_icmp .gt 46, 3) := by decide +kernel
theorem dc182_73 : decode (pm_mb 182) 73 = .ok (.iload 6, 2) := by decide +kernel
theorem dc182_75 : decode (pm_mb 182) 75 = .ok (.iload 5, 2) := by decide +kernel
theorem dc182_77 : decode (pm_mb 182) 77 = .ok (.if_icmp .gt 39, 3) := by decide +kernel
theorem dc182_80 : decode (pm_mb 182) 80 = .ok (.aload_n 0, 1) := by decide +kernel
theorem dc182_81 : decode (pm_mb 182) 81 = .ok (.iload_n 1, 1) := by decide +kernel
theorem dc182_82 : decode (pm_mb 182) 82 = .ok (.iload 6, 2) := by decide +kernel
theorem dc182_84 : decode (pm_mb 182) 84 = .ok (.iload_n 2, 1) := by decide +kernel
theorem dc182_85 : decode (pm_mb 182) 85 = .ok (.iload 5, 2) := by decide +kernel
theorem dc182_87 : decode (pm_mb 182) 87 = .ok (.iload 6, 2) := by decide +kernel
theorem dc182_89 : decode (pm_mb 182) 89 = .ok (.isub, 1) := by decide +kernel
theorem dc182_90 : decode (pm_mb 182) 90 = .ok (.iload_n 3, 1) := by decide +kernel
theorem dc182_91 : decode (pm_mb 182) 91 = .ok (.invokevirtual 242, 3) := by decide +kernel
theorem dc182_94 : decode (pm_mb 182) 94 = .ok (.ifCond .eq 16, 3) := by decide +kernel
theorem dc182_97 : decode (pm_mb 182) 97 = .ok (.iload 4, 2) := by decide +kernel
theorem dc182_99 : decode (pm_mb 182) 99 = .ok (.ifCond .ne 8, 3) := by decide +kernel
theorem dc182_102 : decode (pm_mb 182) 102 = .ok (.iload 5, 2) := by decide +kernel
theorem dc182_104 : decode (pm_mb 182) 104 = .ok (.goto 5, 3) := by decide +kernel
theorem dc182_107 : decode (pm_mb 182) 107 = .ok (.iload 6, 2) := by decide +kernel
theorem dc182_109 : decode (pm_mb 182) 109 = .ok (.ireturn, 1) := by decide +kernel
theorem dc182_110 : decode (pm_mb 182) 110 = .ok (.iinc 6 1, 3) := by decide +kernel
theorem dc182_113 : decode (pm_mb 182) 113 = .ok (.goto (-46), 3) := by decide +kernel
theorem dc182_116 : decode (pm_mb 182) 116 = .ok (.iinc 5 1, 3) := by decide +kernel
theorem dc182_119 : decode (pm_mb 182) 119 = .ok (.goto (-76), 3) := by decide +kernel
theorem dc182_122 : decode (pm_mb 182) 122 = .ok (.ldc 86, 2) := by decide +kernel
theorem dc182_124 : decode (pm_mb 182) 124 = .ok (.ireturn, 1) := by decide +kernel
theorem b182_0 {X : pm_X} {d : Nat} {x1 : Int32} {x2 : Int32} {x3 : Int32} {x4 : Int32} {g : pm_G} {iv : pm_V} (hL : pm_lay g) : pm_at X d 182 (0, [some (.ref 32), some (.int x1), some (.int x2), some (.int x3), some (.int x4), none, none], [], g, iv) = pm_then X d 182 11 [some (.ref 32), some (.int x1), some (.int x2), some (.int x3), some (.int x4), none, none] [] (pm_c X d 157 [.ref 32, .int x1, .int x2] g (pm_iw iv 32 0 0)) := by
  refine (at_aload_n dc182_0 rfl).trans ?_
  refine (at_iconst (v := 0) dc182_1 rfl).trans ?_
  refine (at_pfI dc182_2 mc182 lf6_50 po6_0 (ly32 hL)).trans ?_
  refine (at_aload_n dc182_5 rfl).trans ?_
  refine (at_iload_n dc182_6 rfl).trans ?_
  refine (at_iload_n dc182_7 rfl).trans ?_
  exact at_inv dc182_8 mc182 lm6_234 rfl rfl (Nat.le_of_ble_eq_true rfl) (Or.inl ⟨(ly32 hL), by decide⟩)
theorem b182_11 {X : pm_X} {d : Nat} {x1 : Int32} {x2 : Int32} {x3 : Int32} {x4 : Int32} {s0 : Int32} {g : pm_G} {iv : pm_V}  : pm_at X d 182 (11, [some (.ref 32), some (.int x1), some (.int x2), some (.int x3), some (.int x4), none, none], [.int s0], g, iv) = if s0 = 0 then pm_at X d 182 (37, [some (.ref 32), some (.int x1), some (.int x2), some (.int x3), some (.int x4), none, none], [], g, iv) else pm_at X d 182 (14, [some (.ref 32), some (.int x1), some (.int x2), some (.int x3), some (.int x4), none, none], [], g, iv) := by
  exact at_if_eq (t := 37) dc182_11 (by decide)
theorem b182_14 {X : pm_X} {d : Nat} {x1 : Int32} {x2 : Int32} {x3 : Int32} {x4 : Int32} {g : pm_G} {iv : pm_V}  : pm_at X d 182 (14, [some (.ref 32), some (.int x1), some (.int x2), some (.int x3), some (.int x4), none, none], [], g, iv) = pm_then X d 182 23 [some (.ref 32), some (.int x1), some (.int x2), some (.int x3), some (.int x4), none, none] [] (pm_c X d 129 [.long (x3 : Int32).toInt64, .long 0, .long 20] g iv) := by
  refine (at_iload_n dc182_14 rfl).trans ?_
  refine (at_i2l dc182_15).trans ?_
  refine (at_lconst (v := 0) dc182_16 (by decide)).trans ?_
  refine (at_ldc2 dc182_17 mc182 ll6_240).trans ?_
  exact at_ins dc182_20 mc182 lm6_60 (Nat.le_of_ble_eq_true rfl) rfl rfl (Nat.le_of_ble_eq_true rfl)
theorem b182_23 {X : pm_X} {d : Nat} {x1 : Int32} {x2 : Int32} {x3 : Int32} {x4 : Int32} {s0 : Int32} {g : pm_G} {iv : pm_V}  : pm_at X d 182 (23, [some (.ref 32), some (.int x1), some (.int x2), some (.int x3), some (.int x4), none, none], [.int s0], g, iv) = if s0 = 0 then pm_at X d 182 (37, [some (.ref 32), some (.int x1), some (.int x2), some (.int x3), some (.int x4), none, none], [], g, iv) else pm_at X d 182 (26, [some (.ref 32), some (.int x1), some (.int x2), some (.int x3), some (.int x4), none, none], [], g, iv) := by
  exact at_if_eq (t := 37) dc182_23 (by decide)
theorem b182_26 {X : pm_X} {d : Nat} {x1 : Int32} {x2 : Int32} {x3 : Int32} {x4 : Int32} {g : pm_G} {iv : pm_V}  : pm_at X d 182 (26, [some (.ref 32), some (.int x1), some (.int x2), some (.int x3), some (.int x4), none, none], [], g, iv) = pm_then X d 182 34 [some (.ref 32), some (.int x1), some (.int x2), some (.int x3), some (.int x4), none, none] [] (pm_c X d 129 [.long (x4 : Int32).toInt64, .long 0, .long 1] g iv) := by
  refine (at_iload dc182_26 rfl).trans ?_
  refine (at_i2l dc182_28).trans ?_
  refine (at_lconst (v := 0) dc182_29 (by decide)).trans ?_
  refine (at_lconst (v := 1) dc182_30 (by decide)).trans ?_
  exact at_ins dc182_31 mc182 lm6_60 (Nat.le_of_ble_eq_true rfl) rfl rfl (Nat.le_of_ble_eq_true rfl)
theorem b182_34 {X : pm_X} {d : Nat} {x1 : Int32} {x2 : Int32} {x3 : Int32} {x4 : Int32} {s0 : Int32} {g : pm_G} {iv : pm_V}  : pm_at X d 182 (34, [some (.ref 32), some (.int x1), some (.int x2), some (.int x3), some (.int x4), none, none], [.int s0], g, iv) = if ¬ s0 = 0 then pm_at X d 182 (40, [some (.ref 32), some (.int x1), some (.int x2), some (.int x3), some (.int x4), none, none], [], g, iv) else pm_at X d 182 (37, [some (.ref 32), some (.int x1), some (.int x2), some (.int x3), some (.int x4), none, none], [], g, iv) := by
  exact at_if_ne (t := 40) dc182_34 (by decide)
theorem b182_37 {X : pm_X} {d : Nat} {x1 : Int32} {x2 : Int32} {x3 : Int32} {x4 : Int32} {g : pm_G} {iv : pm_V}  : pm_at X d 182 (37, [some (.ref 32), some (.int x1), some (.int x2), some (.int x3), some (.int x4), none, none], [], g, iv) = some (some (.int (-1000001)), g, iv) := by
  refine (at_ldc dc182_37 mc182 lk6_70).trans ?_
  exact at_iret dc182_39 mr182
theorem b182_40 {X : pm_X} {d : Nat} {x1 : Int32} {x2 : Int32} {x3 : Int32} {x4 : Int32} {g : pm_G} {iv : pm_V}  : pm_at X d 182 (40, [some (.ref 32), some (.int x1), some (.int x2), some (.int x3), some (.int x4), none, none], [], g, iv) = pm_at X d 182 (43, [some (.ref 32), some (.int x1), some (.int x2), some (.int x3), some (.int x4), some (.int 0), none], [], g, iv) := by
  refine (at_iconst (v := 0) dc182_40 rfl).trans ?_
  refine (at_istore dc182_41 rfl).trans ?_
  rfl
theorem b182_43 {X : pm_X} {d : Nat} {x1 : Int32} {x2 : Int32} {x3 : Int32} {x4 : Int32} {x5 : Int32} {z6 : Option Value} {g : pm_G} {iv : pm_V}  : pm_at X d 182 (43, [some (.ref 32), some (.int x1), some (.int x2), some (.int x3), some (.int x4), some (.int x5), z6], [], g, iv) = if (2 * x3) < x5 then pm_at X d 182 (122, [some (.ref 32), some (.int x1), some (.int x2), some (.int x3), some (.int x4), some (.int x5), z6], [], g, iv) else pm_at X d 182 (51, [some (.ref 32), some (.int x1), some (.int x2), some (.int x3), some (.int x4), some (.int x5), z6], [], g, iv) := by
  refine (at_iload dc182_43 rfl).trans ?_
  refine (at_iconst (v := 2) dc182_45 rfl).trans ?_
  refine (at_iload_n dc182_46 rfl).trans ?_
  refine (at_imul dc182_47).trans ?_
  exact at_icmp_gt (t := 122) dc182_48 (by decide)
theorem b182_51 {X : pm_X} {d : Nat} {x1 : Int32} {x2 : Int32} {x3 : Int32} {x4 : Int32} {x5 : Int32} {z6 : Option Value} {g : pm_G} {iv : pm_V}  : pm_at X d 182 (51, [some (.ref 32), some (.int x1), some (.int x2), some (.int x3), some (.int x4), some (.int x5), z6], [], g, iv) = if x5 ≤ x3 then pm_at X d 182 (64, [some (.ref 32), some (.int x1), some (.int x2), some (.int x3), some (.int x4), some (.int x5), z6], [], g, iv) else pm_at X d 182 (57, [some (.ref 32), some (.int x1), some (.int x2), some (.int x3), some (.int x4), some (.int x5), z6], [], g, iv) := by
  refine (at_iload dc182_51 rfl).trans ?_
  refine (at_iload_n dc182_53 rfl).trans ?_
  exact at_icmp_le (t := 64) dc182_54 (by decide)
theorem b182_57 {X : pm_X} {d : Nat} {x1 : Int32} {x2 : Int32} {x3 : Int32} {x4 : Int32} {x5 : Int32} {z6 : Option Value} {g : pm_G} {iv : pm_V}  : pm_at X d 182 (57, [some (.ref 32), some (.int x1), some (.int x2), some (.int x3), some (.int x4), some (.int x5), z6], [], g, iv) = pm_at X d 182 (65, [some (.ref 32), some (.int x1), some (.int x2), some (.int x3), some (.int x4), some (.int x5), z6], [.int (x5 - x3)], g, iv) := by
  refine (at_iload dc182_57 rfl).trans ?_
  refine (at_iload_n dc182_59 rfl).trans ?_
  refine (at_isub dc182_60).trans ?_
  refine (at_goto (t := 65) dc182_61 (by decide)).trans ?_
  rfl
theorem b182_64 {X : pm_X} {d : Nat} {x1 : Int32} {x2 : Int32} {x3 : Int32} {x4 : Int32} {x5 : Int32} {z6 : Option Value} {g : pm_G} {iv : pm_V}  : pm_at X d 182 (64, [some (.ref 32), some (.int x1), some (.int x2), some (.int x3), some (.int x4), some (.int x5), z6], [], g, iv) = pm_at X d 182 (65, [some (.ref 32), some (.int x1), some (.int x2), some (.int x3), some (.int x4), some (.int x5), z6], [.int 0], g, iv) := by
  refine (at_iconst (v := 0) dc182_64 rfl).trans ?_
  rfl
theorem b182_65 {X : pm_X} {d : Nat} {x1 : Int32} {x2 : Int32} {x3 : Int32} {x4 : Int32} {x5 : Int32} {z6 : Option Value} {s0 : Int32} {g : pm_G} {iv : pm_V}  : pm_at X d 182 (65, [some (.ref 32), some (.int x1), some (.int x2), some (.int x3), some (.int x4), some (.int x5), z6], [.int s0], g, iv) = pm_at X d 182 (67, [some (.ref 32), some (.int x1), some (.int x2), some (.int x3), some (.int x4), some (.int x5), some (.int s0)], [], g, iv) := by
  refine (at_istore dc182_65 rfl).trans ?_
  rfl
theorem b182_67 {X : pm_X} {d : Nat} {x1 : Int32} {x2 : Int32} {x3 : Int32} {x4 : Int32} {x5 : Int32} {x6 : Int32} {g : pm_G} {iv : pm_V}  : pm_at X d 182 (67, [some (.ref 32), some (.int x1), some (.int x2), some (.int x3), some (.int x4), some (.int x5), some (.int x6)], [], g, iv) = if x3 < x6 then pm_at X d 182 (116, [some (.ref 32), some (.int x1), some (.int x2), some (.int x3), some (.int x4), some (.int x5), some (.int x6)], [], g, iv) else pm_at X d 182 (73, [some (.ref 32), some (.int x1), some (.int x2), some (.int x3), some (.int x4), some (.int x5), some (.int x6)], [], g, iv) := by
  refine (at_iload dc182_67 rfl).trans ?_
  refine (at_iload_n dc182_69 rfl).trans ?_
  exact at_icmp_gt (t := 116) dc182_70 (by decide)
theorem b182_73 {X : pm_X} {d : Nat} {x1 : Int32} {x2 : Int32} {x3 : Int32} {x4 : Int32} {x5 : Int32} {x6 : Int32} {g : pm_G} {iv : pm_V}  : pm_at X d 182 (73, [some (.ref 32), some (.int x1), some (.int x2), some (.int x3), some (.int x4), some (.int x5), some (.int x6)], [], g, iv) = if x5 < x6 then pm_at X d 182 (116, [some (.ref 32), some (.int x1), some (.int x2), some (.int x3), some (.int x4), some (.int x5), some (.int x6)], [], g, iv) else pm_at X d 182 (80, [some (.ref 32), some (.int x1), some (.int x2), some (.int x3), some (.int x4), some (.int x5), some (.int x6)], [], g, iv) := by
  refine (at_iload dc182_73 rfl).trans ?_
  refine (at_iload dc182_75 rfl).trans ?_
  exact at_icmp_gt (t := 116) dc182_77 (by decide)
theorem b182_80 {X : pm_X} {d : Nat} {x1 : Int32} {x2 : Int32} {x3 : Int32} {x4 : Int32} {x5 : Int32} {x6 : Int32} {g : pm_G} {iv : pm_V} (hL : pm_lay g) : pm_at X d 182 (80, [some (.ref 32), some (.int x1), some (.int x2), some (.int x3), some (.int x4), some (.int x5), some (.int x6)], [], g, iv) = pm_then X d 182 94 [some (.ref 32), some (.int x1), some (.int x2), some (.int x3), some (.int x4), some (.int x5), some (.int x6)] [] (pm_c X d 181 [.ref 32, .int x1, .int x6, .int x2, .int (x5 - x6), .int x3] g iv) := by
  refine (at_aload_n dc182_80 rfl).trans ?_
  refine (at_iload_n dc182_81 rfl).trans ?_
  refine (at_iload dc182_82 rfl).trans ?_
  refine (at_iload_n dc182_84 rfl).trans ?_
  refine (at_iload dc182_85 rfl).trans ?_
  refine (at_iload dc182_87 rfl).trans ?_
  refine (at_isub dc182_89).trans ?_
  refine (at_iload_n dc182_90 rfl).trans ?_
  exact at_inv dc182_91 mc182 lm6_242 rfl rfl (Nat.le_of_ble_eq_true rfl) (Or.inl ⟨(ly32 hL), by decide⟩)
theorem b182_94 {X : pm_X} {d : Nat} {x1 : Int32} {x2 : Int32} {x3 : Int32} {x4 : Int32} {x5 : Int32} {x6 : Int32} {s0 : Int32} {g : pm_G} {iv : pm_V}  : pm_at X d 182 (94, [some (.ref 32), some (.int x1), some (.int x2), some (.int x3), some (.int x4), some (.int x5), some (.int x6)], [.int s0], g, iv) = if s0 = 0 then pm_at X d 182 (110, [some (.ref 32), some (.int x1), some (.int x2), some (.int x3), some (.int x4), some (.int x5), some (.int x6)], [], g, iv) else pm_at X d 182 (97, [some (.ref 32), some (.int x1), some (.int x2), some (.int x3), some (.int x4), some (.int x5), some (.int x6)], [], g, iv) := by
  exact at_if_eq (t := 110) dc182_94 (by decide)
theorem b182_97 {X : pm_X} {d : Nat} {x1 : Int32} {x2 : Int32} {x3 : Int32} {x4 : Int32} {x5 : Int32} {x6 : Int32} {g : pm_G} {iv : pm_V}  : pm_at X d 182 (97, [some (.ref 32), some (.int x1), some (.int x2), some (.int x3), some (.int x4), some (.int x5), some (.int x6)], [], g, iv) = if ¬ x4 = 0 then pm_at X d 182 (107, [some (.ref 32), some (.int x1), some (.int x2), some (.int x3), some (.int x4), some (.int x5), some (.int x6)], [], g, iv) else pm_at X d 182 (102, [some (.ref 32), some (.int x1), some (.int x2), some (.int x3), some (.int x4), some (.int x5), some (.int x6)], [], g, iv) := by
  refine (at_iload dc182_97 rfl).trans ?_
  exact at_if_ne (t := 107) dc182_99 (by decide)
theorem b182_102 {X : pm_X} {d : Nat} {x1 : Int32} {x2 : Int32} {x3 : Int32} {x4 : Int32} {x5 : Int32} {x6 : Int32} {g : pm_G} {iv : pm_V}  : pm_at X d 182 (102, [some (.ref 32), some (.int x1), some (.int x2), some (.int x3), some (.int x4), some (.int x5), some (.int x6)], [], g, iv) = pm_at X d 182 (109, [some (.ref 32), some (.int x1), some (.int x2), some (.int x3), some (.int x4), some (.int x5), some (.int x6)], [.int x5], g, iv) := by
  refine (at_iload dc182_102 rfl).trans ?_
  refine (at_goto (t := 109) dc182_104 (by decide)).trans ?_
  rfl
theorem b182_107 {X : pm_X} {d : Nat} {x1 : Int32} {x2 : Int32} {x3 : Int32} {x4 : Int32} {x5 : Int32} {x6 : Int32} {g : pm_G} {iv : pm_V}  : pm_at X d 182 (107, [some (.ref 32), some (.int x1), some (.int x2), some (.int x3), some (.int x4), some (.int x5), some (.int x6)], [], g, iv) = pm_at X d 182 (109, [some (.ref 32), some (.int x1), some (.int x2), some (.int x3), some (.int x4), some (.int x5), some (.int x6)], [.int x6], g, iv) := by
  refine (at_iload dc182_107 rfl).trans ?_
  rfl
theorem b182_109 {X : pm_X} {d : Nat} {x1 : Int32} {x2 : Int32} {x3 : Int32} {x4 : Int32} {x5 : Int32} {x6 : Int32} {s0 : Int32} {g : pm_G} {iv : pm_V}  : pm_at X d 182 (109, [some (.ref 32), some (.int x1), some (.int x2), some (.int x3), some (.int x4), some (.int x5), some (.int x6)], [.int s0], g, iv) = some (some (.int s0), g, iv) := by
  exact at_iret dc182_109 mr182
theorem b182_110 {X : pm_X} {d : Nat} {x1 : Int32} {x2 : Int32} {x3 : Int32} {x4 : Int32} {x5 : Int32} {x6 : Int32} {g : pm_G} {iv : pm_V}  : pm_at X d 182 (110, [some (.ref 32), some (.int x1), some (.int x2), some (.int x3), some (.int x4), some (.int x5), some (.int x6)], [], g, iv) = pm_at X d 182 (67, [some (.ref 32), some (.int x1), some (.int x2), some (.int x3), some (.int x4), some (.int x5), some (.int (x6 + 1))], [], g, iv) := by
  refine (at_iinc (v := 1) dc182_110 rfl (by decide) rfl).trans ?_
  refine (at_goto (t := 67) dc182_113 (by decide)).trans ?_
  rfl
theorem b182_116 {X : pm_X} {d : Nat} {x1 : Int32} {x2 : Int32} {x3 : Int32} {x4 : Int32} {x5 : Int32} {x6 : Int32} {g : pm_G} {iv : pm_V}  : pm_at X d 182 (116, [some (.ref 32), some (.int x1), some (.int x2), some (.int x3), some (.int x4), some (.int x5), some (.int x6)], [], g, iv) = pm_at X d 182 (43, [some (.ref 32), some (.int x1), some (.int x2), some (.int x3), some (.int x4), some (.int (x5 + 1)), some (.int x6)], [], g, iv) := by
  refine (at_iinc (v := 1) dc182_116 rfl (by decide) rfl).trans ?_
  refine (at_goto (t := 43) dc182_119 (by decide)).trans ?_
  rfl
theorem b182_122 {X : pm_X} {d : Nat} {x1 : Int32} {x2 : Int32} {x3 : Int32} {x4 : Int32} {x5 : Int32} {z6 : Option Value} {g : pm_G} {iv : pm_V}  : pm_at X d 182 (122, [some (.ref 32), some (.int x1), some (.int x2), some (.int x3), some (.int x4), some (.int x5), z6], [], g, iv) = some (some (.int (-1000000)), g, iv) := by
  refine (at_ldc dc182_122 mc182 lk6_86).trans ?_
  exact at_iret dc182_124 mr182
-- Mod.street (I)I
theorem dc183_0 : decode (pm_mb 183) 0 = .ok (.aload_n 0, 1) := by decide +kernel
theorem dc183_1 : decode (pm_mb 183) 1 = .ok (.iconst 0, 1) := by decide +kernel
theorem dc183_2 : decode (pm_mb 183) 2 = .ok (.putfield 50, 3) := by decide +kernel
theorem dc183_5 : decode (pm_mb 183) 5 = .ok (.aload_n 0, 1) := by decide +kernel
theorem dc183_6 : decode (pm_mb 183) 6 = .ok (.iload_n 1, 1) := by decide +kernel
theorem dc183_7 : decode (pm_mb 183) 7 = .ok (.invokevirtual 184, 3) := by decide +kernel
theorem dc183_10 : decode (pm_mb 183) 10 = .ok (.ifCond .ne 6, 3) := by decide +kernel
theorem dc183_13 : decode (pm_mb 183) 13 = .ok (.ldc 70, 2) := by decide +kernel
theorem dc183_15 : decode (pm_mb 183) 15 = .ok (.ireturn, 1) := by decide +kernel
theorem dc183_16 : decode (pm_mb 183) 16 = .ok (.aload_n 0, 1) := by decide +kernel
theorem dc183_17 : decode (pm_mb 183) 17 = .ok (.invokevirtual 213, 3) := by decide +kernel
theorem dc183_20 : decode (pm_mb 183) 20 = .ok (.aload_n 0, 1) := by decide +kernel
theorem dc183_21 : decode (pm_mb 183) 21 = .ok (.iload_n 1, 1) := by decide +kernel
theorem dc183_22 : decode (pm_mb 183) 22 = .ok (.iconst 1, 1) := by decide +kernel
theorem dc183_23 : decode (pm_mb 183) 23 = .ok (.invokevirtual 187, 3) := by decide +kernel
theorem dc183_26 : decode (pm_mb 183) 26 = .ok (.istore_n 2, 1) := by decide +kernel
theorem dc183_27 : decode (pm_mb 183) 27 = .ok (.aload_n 0, 1) := by decide +kernel
theorem dc183_28 : decode (pm_mb 183) 28 = .ok (.iload_n 1, 1) := by decide +kernel
theorem dc183_29 : decode (pm_mb 183) 29 = .ok (.iconst 2, 1) := by decide +kernel
theorem dc183_30 : decode (pm_mb 183) 30 = .ok (.invokevirtual 187, 3) := by decide +kernel
theorem dc183_33 : decode (pm_mb 183) 33 = .ok (.istore_n 3, 1) := by decide +kernel
theorem dc183_34 : decode (pm_mb 183) 34 = .ok (.iconst 0, 1) := by decide +kernel
theorem dc183_35 : decode (pm_mb 183) 35 = .ok (.istore 4, 2) := by decide +kernel
theorem dc183_37 : decode (pm_mb 183) 37 = .ok (.iload_n 3, 1) := by decide +kernel
theorem dc183_38 : decode (pm_mb 183) 38 = .ok (.aload_n 0, 1) := by decide +kernel
theorem dc183_39 : decode (pm_mb 183) 39 = .ok (.getfield 19, 3) := by decide +kernel
theorem dc183_42 : decode (pm_mb 183) 42 = .ok (.iconst 1, 1) := by decide +kernel
theorem dc183_43 : decode (pm_mb 183) 43 = .ok (.iaload, 1) := by decide +kernel
theorem dc183_44 : decode (pm_mb 183) 44 = .ok (.if_icmp .ge 33, 3) := by decide +kernel
theorem dc183_47 : decode (pm_mb 183) 47 = .ok (.aload_n 0, 1) := by decide +kernel
theorem dc183_48 : decode (pm_mb 183) 48 = .ok (.iload_n 2, 1) := by decide +kernel
theorem dc183_49 : decode (pm_mb 183) 49 = .ok (.iload_n 3, 1) := by decide +kernel
theorem dc183_50 : decode (pm_mb 183) 50 = .ok (.invokevirtual 193, 3) := by decide +kernel
theorem dc183_53 : decode (pm_mb 183) 53 = .ok (.ldc 86, 2) := by decide +kernel
theorem dc183_55 : decode (pm_mb 183) 55 = .ok (.if_icmp .eq 22, 3) := by decide +kernel
theorem dc183_58 : decode (pm_mb 183) 58 = .ok (.iload 4, 2) := by decide +kernel
theorem dc183_60 : decode (pm_mb 183) 60 = .ok (.iconst 1, 1) := by decide +kernel
theorem dc183_61 : decode (pm_mb 183) 61 = .ok (.aload_n 0, 1) := by decide +kernel
theorem dc183_62 : decode (pm_mb 183) 62 = .ok (.iload_n 2, 1) := by decide +kernel
theorem dc183_63 : decode (pm_mb 183) 63 = .ok (.iload_n 3, 1) := by decide +kernel
theorem dc183_64 : decode (pm_mb 183) 64 = .ok (.invokevirtual 193, 3) := by decide +kernel
theorem dc183_67 : decode (pm_mb 183) 67 = .ok (.ishl, 1) := by decide +kernel
theorem dc183_68 : decode (pm_mb 183) 68 = .ok (.ior, 1) := by decide +kernel
theorem dc183_69 : decode (pm_mb 183) 69 = .ok (.istore 4, 2) := by decide +kernel
theorem dc183_71 : decode (pm_mb 183) 71 = .ok (.iinc 3 1, 3) := by decide +kernel
theorem dc183_74 : decode (pm_mb 183) 74 = .ok (.goto (-37), 3) := by decide +kernel
theorem dc183_77 : decode (pm_mb 183) 77 = .ok (.iload_n 3, 1) := by decide +kernel
theorem dc183_78 : decode (pm_mb 183) 78 = .ok (.aload_n 0, 1) := by decide +kernel
theorem dc183_79 : decode (pm_mb 183) 79 = .ok (.getfield 19, 3) := by decide +kernel
theorem dc183_82 : decode (pm_mb 183) 82 = .ok (.iconst 1, 1) := by decide +kernel
theorem dc183_83 : decode (pm_mb 183) 83 = .ok (.iaload, 1) := by decide +kernel
theorem dc183_84 : decode (pm_mb 183) 84 = .ok (.if_icmp .eq 12, 3) := by decide +kernel
theorem dc183_87 : decode (pm_mb 183) 87 = .ok (.aload_n 0, 1) := by decide +kernel
theorem dc183_88 : decode (pm_mb 183) 88 = .ok (.iload_n 2, 1) := by decide +kernel
theorem dc183_89 : decode (pm_mb 183) 89 = .ok (.iload_n 3, 1) := by decide +kernel
theorem dc183_90 : decode (pm_mb 183) 90 = .ok (.invokevirtual 190, 3) := by decide +kernel
theorem dc183_93 : decode (pm_mb 183) 93 = .ok (.ifCond .eq 8, 3) := by decide +kernel
theorem dc183_96 : decode (pm_mb 183) 96 = .ok (.iload 4, 2) := by decide +kernel
theorem dc183_98 : decode (pm_mb 183) 98 = .ok (.goto 4, 3) := by decide +kernel
theorem dc183_101 : decode (pm_mb 183) 101 = .ok (.iconst 0, 1) := by decide +kernel
theorem dc183_102 : decode (pm_mb 183) 102 = .ok (.ireturn, 1) := by decide +kernel
theorem b183_0 {X : pm_X} {d : Nat} {x1 : Int32} {g : pm_G} {iv : pm_V} (hL : pm_lay g) : pm_at X d 183 (0, [some (.ref 32), some (.int x1), none, none, none], [], g, iv) = pm_then X d 183 10 [some (.ref 32), some (.int x1), none, none, none] [] (pm_c X d 156 [.ref 32, .int x1] g (pm_iw iv 32 0 0)) := by
  refine (at_aload_n dc183_0 rfl).trans ?_
  refine (at_iconst (v := 0) dc183_1 rfl).trans ?_
  refine (at_pfI dc183_2 mc183 lf6_50 po6_0 (ly32 hL)).trans ?_
  refine (at_aload_n dc183_5 rfl).trans ?_
  refine (at_iload_n dc183_6 rfl).trans ?_
  exact at_inv dc183_7 mc183 lm6_184 rfl rfl (Nat.le_of_ble_eq_true rfl) (Or.inl ⟨(ly32 hL), by decide⟩)
theorem b183_10 {X : pm_X} {d : Nat} {x1 : Int32} {s0 : Int32} {g : pm_G} {iv : pm_V}  : pm_at X d 183 (10, [some (.ref 32), some (.int x1), none, none, none], [.int s0], g, iv) = if ¬ s0 = 0 then pm_at X d 183 (16, [some (.ref 32), some (.int x1), none, none, none], [], g, iv) else pm_at X d 183 (13, [some (.ref 32), some (.int x1), none, none, none], [], g, iv) := by
  exact at_if_ne (t := 16) dc183_10 (by decide)
theorem b183_13 {X : pm_X} {d : Nat} {x1 : Int32} {g : pm_G} {iv : pm_V}  : pm_at X d 183 (13, [some (.ref 32), some (.int x1), none, none, none], [], g, iv) = some (some (.int (-1000001)), g, iv) := by
  refine (at_ldc dc183_13 mc183 lk6_70).trans ?_
  exact at_iret dc183_15 mr183
theorem b183_16 {X : pm_X} {d : Nat} {x1 : Int32} {g : pm_G} {iv : pm_V} (hL : pm_lay g) : pm_at X d 183 (16, [some (.ref 32), some (.int x1), none, none, none], [], g, iv) = pm_then X d 183 20 [some (.ref 32), some (.int x1), none, none, none] [] (pm_c X d 160 [.ref 32] g iv) := by
  refine (at_aload_n dc183_16 rfl).trans ?_
  exact at_inv dc183_17 mc183 lm6_213 rfl rfl (Nat.le_of_ble_eq_true rfl) (Or.inl ⟨(ly32 hL), by decide⟩)
theorem b183_20 {X : pm_X} {d : Nat} {x1 : Int32} {g : pm_G} {iv : pm_V} (hL : pm_lay g) : pm_at X d 183 (20, [some (.ref 32), some (.int x1), none, none, none], [], g, iv) = pm_then X d 183 26 [some (.ref 32), some (.int x1), none, none, none] [] (pm_c X d 158 [.ref 32, .int x1, .int 1] g iv) := by
  refine (at_aload_n dc183_20 rfl).trans ?_
  refine (at_iload_n dc183_21 rfl).trans ?_
  refine (at_iconst (v := 1) dc183_22 rfl).trans ?_
  exact at_inv dc183_23 mc183 lm6_187 rfl rfl (Nat.le_of_ble_eq_true rfl) (Or.inl ⟨(ly32 hL), by decide⟩)
theorem b183_26 {X : pm_X} {d : Nat} {x1 : Int32} {s0 : Int32} {g : pm_G} {iv : pm_V} (hL : pm_lay g) : pm_at X d 183 (26, [some (.ref 32), some (.int x1), none, none, none], [.int s0], g, iv) = pm_then X d 183 33 [some (.ref 32), some (.int x1), some (.int s0), none, none] [] (pm_c X d 158 [.ref 32, .int x1, .int 2] g iv) := by
  refine (at_istore_n dc183_26 rfl).trans ?_
  refine (at_aload_n dc183_27 rfl).trans ?_
  refine (at_iload_n dc183_28 rfl).trans ?_
  refine (at_iconst (v := 2) dc183_29 rfl).trans ?_
  exact at_inv dc183_30 mc183 lm6_187 rfl rfl (Nat.le_of_ble_eq_true rfl) (Or.inl ⟨(ly32 hL), by decide⟩)
theorem b183_33 {X : pm_X} {d : Nat} {x1 : Int32} {x2 : Int32} {s0 : Int32} {g : pm_G} {iv : pm_V}  : pm_at X d 183 (33, [some (.ref 32), some (.int x1), some (.int x2), none, none], [.int s0], g, iv) = pm_at X d 183 (37, [some (.ref 32), some (.int x1), some (.int x2), some (.int s0), some (.int 0)], [], g, iv) := by
  refine (at_istore_n dc183_33 rfl).trans ?_
  refine (at_iconst (v := 0) dc183_34 rfl).trans ?_
  refine (at_istore dc183_35 rfl).trans ?_
  rfl
theorem b183_37 {X : pm_X} {d : Nat} {x1 : Int32} {x2 : Int32} {x3 : Int32} {x4 : Int32} {g : pm_G} {iv : pm_V} (hL : pm_lay g) : pm_at X d 183 (37, [some (.ref 32), some (.int x1), some (.int x2), some (.int x3), some (.int x4)], [], g, iv) = if (iv 36 1) ≤ x3 then pm_at X d 183 (77, [some (.ref 32), some (.int x1), some (.int x2), some (.int x3), some (.int x4)], [], g, iv) else pm_at X d 183 (47, [some (.ref 32), some (.int x1), some (.int x2), some (.int x3), some (.int x4)], [], g, iv) := by
  refine (at_iload_n dc183_37 rfl).trans ?_
  refine (at_aload_n dc183_38 rfl).trans ?_
  refine (at_gfR dc183_39 mc183 lf6_19 fo6_5 (ly32 hL) (lr32_5 hL)).trans ?_
  refine (at_iconst (v := 1) dc183_42 rfl).trans ?_
  refine (at_iald dc183_43 (ly36 hL) (vp_in_nI (n := 1) (by decide) (by decide))).trans ?_
  exact at_icmp_ge (t := 77) dc183_44 (by decide)
theorem b183_47 {X : pm_X} {d : Nat} {x1 : Int32} {x2 : Int32} {x3 : Int32} {x4 : Int32} {g : pm_G} {iv : pm_V} (hL : pm_lay g) : pm_at X d 183 (47, [some (.ref 32), some (.int x1), some (.int x2), some (.int x3), some (.int x4)], [], g, iv) = pm_then X d 183 53 [some (.ref 32), some (.int x1), some (.int x2), some (.int x3), some (.int x4)] [] (pm_c X d 161 [.ref 32, .int x2, .int x3] g iv) := by
  refine (at_aload_n dc183_47 rfl).trans ?_
  refine (at_iload_n dc183_48 rfl).trans ?_
  refine (at_iload_n dc183_49 rfl).trans ?_
  exact at_inv dc183_50 mc183 lm6_193 rfl rfl (Nat.le_of_ble_eq_true rfl) (Or.inl ⟨(ly32 hL), by decide⟩)
theorem b183_53 {X : pm_X} {d : Nat} {x1 : Int32} {x2 : Int32} {x3 : Int32} {x4 : Int32} {s0 : Int32} {g : pm_G} {iv : pm_V}  : pm_at X d 183 (53, [some (.ref 32), some (.int x1), some (.int x2), some (.int x3), some (.int x4)], [.int s0], g, iv) = if s0 = (-1000000) then pm_at X d 183 (77, [some (.ref 32), some (.int x1), some (.int x2), some (.int x3), some (.int x4)], [], g, iv) else pm_at X d 183 (58, [some (.ref 32), some (.int x1), some (.int x2), some (.int x3), some (.int x4)], [], g, iv) := by
  refine (at_ldc dc183_53 mc183 lk6_86).trans ?_
  exact at_icmp_eq (t := 77) dc183_55 (by decide)
theorem b183_58 {X : pm_X} {d : Nat} {x1 : Int32} {x2 : Int32} {x3 : Int32} {x4 : Int32} {g : pm_G} {iv : pm_V} (hL : pm_lay g) : pm_at X d 183 (58, [some (.ref 32), some (.int x1), some (.int x2), some (.int x3), some (.int x4)], [], g, iv) = pm_then X d 183 67 [some (.ref 32), some (.int x1), some (.int x2), some (.int x3), some (.int x4)] [.int 1, .int x4] (pm_c X d 161 [.ref 32, .int x2, .int x3] g iv) := by
  refine (at_iload dc183_58 rfl).trans ?_
  refine (at_iconst (v := 1) dc183_60 rfl).trans ?_
  refine (at_aload_n dc183_61 rfl).trans ?_
  refine (at_iload_n dc183_62 rfl).trans ?_
  refine (at_iload_n dc183_63 rfl).trans ?_
  exact at_inv dc183_64 mc183 lm6_193 rfl rfl (Nat.le_of_ble_eq_true rfl) (Or.inl ⟨(ly32 hL), by decide⟩)
theorem b183_67 {X : pm_X} {d : Nat} {x1 : Int32} {x2 : Int32} {x3 : Int32} {x4 : Int32} {s0 : Int32} {s1 : Int32} {s2 : Int32} {g : pm_G} {iv : pm_V}  : pm_at X d 183 (67, [some (.ref 32), some (.int x1), some (.int x2), some (.int x3), some (.int x4)], [.int s0, .int s1, .int s2], g, iv) = pm_at X d 183 (37, [some (.ref 32), some (.int x1), some (.int x2), some (.int (x3 + 1)), some (.int (s2 ||| (s1 <<< (s0 &&& 31))))], [], g, iv) := by
  refine (at_ishl dc183_67).trans ?_
  refine (at_ior dc183_68).trans ?_
  refine (at_istore dc183_69 rfl).trans ?_
  refine (at_iinc (v := 1) dc183_71 rfl (by decide) rfl).trans ?_
  refine (at_goto (t := 37) dc183_74 (by decide)).trans ?_
  rfl
theorem b183_77 {X : pm_X} {d : Nat} {x1 : Int32} {x2 : Int32} {x3 : Int32} {x4 : Int32} {g : pm_G} {iv : pm_V} (hL : pm_lay g) : pm_at X d 183 (77, [some (.ref 32), some (.int x1), some (.int x2), some (.int x3), some (.int x4)], [], g, iv) = if x3 = (iv 36 1) then pm_at X d 183 (96, [some (.ref 32), some (.int x1), some (.int x2), some (.int x3), some (.int x4)], [], g, iv) else pm_at X d 183 (87, [some (.ref 32), some (.int x1), some (.int x2), some (.int x3), some (.int x4)], [], g, iv) := by
  refine (at_iload_n dc183_77 rfl).trans ?_
  refine (at_aload_n dc183_78 rfl).trans ?_
  refine (at_gfR dc183_79 mc183 lf6_19 fo6_5 (ly32 hL) (lr32_5 hL)).trans ?_
  refine (at_iconst (v := 1) dc183_82 rfl).trans ?_
  refine (at_iald dc183_83 (ly36 hL) (vp_in_nI (n := 1) (by decide) (by decide))).trans ?_
  exact at_icmp_eq (t := 96) dc183_84 (by decide)
theorem b183_87 {X : pm_X} {d : Nat} {x1 : Int32} {x2 : Int32} {x3 : Int32} {x4 : Int32} {g : pm_G} {iv : pm_V} (hL : pm_lay g) : pm_at X d 183 (87, [some (.ref 32), some (.int x1), some (.int x2), some (.int x3), some (.int x4)], [], g, iv) = pm_then X d 183 93 [some (.ref 32), some (.int x1), some (.int x2), some (.int x3), some (.int x4)] [] (pm_c X d 159 [.ref 32, .int x2, .int x3] g iv) := by
  refine (at_aload_n dc183_87 rfl).trans ?_
  refine (at_iload_n dc183_88 rfl).trans ?_
  refine (at_iload_n dc183_89 rfl).trans ?_
  exact at_inv dc183_90 mc183 lm6_190 rfl rfl (Nat.le_of_ble_eq_true rfl) (Or.inl ⟨(ly32 hL), by decide⟩)
theorem b183_93 {X : pm_X} {d : Nat} {x1 : Int32} {x2 : Int32} {x3 : Int32} {x4 : Int32} {s0 : Int32} {g : pm_G} {iv : pm_V}  : pm_at X d 183 (93, [some (.ref 32), some (.int x1), some (.int x2), some (.int x3), some (.int x4)], [.int s0], g, iv) = if s0 = 0 then pm_at X d 183 (101, [some (.ref 32), some (.int x1), some (.int x2), some (.int x3), some (.int x4)], [], g, iv) else pm_at X d 183 (96, [some (.ref 32), some (.int x1), some (.int x2), some (.int x3), some (.int x4)], [], g, iv) := by
  exact at_if_eq (t := 101) dc183_93 (by decide)
theorem b183_96 {X : pm_X} {d : Nat} {x1 : Int32} {x2 : Int32} {x3 : Int32} {x4 : Int32} {g : pm_G} {iv : pm_V}  : pm_at X d 183 (96, [some (.ref 32), some (.int x1), some (.int x2), some (.int x3), some (.int x4)], [], g, iv) = pm_at X d 183 (102, [some (.ref 32), some (.int x1), some (.int x2), some (.int x3), some (.int x4)], [.int x4], g, iv) := by
  refine (at_iload dc183_96 rfl).trans ?_
  refine (at_goto (t := 102) dc183_98 (by decide)).trans ?_
  rfl
theorem b183_101 {X : pm_X} {d : Nat} {x1 : Int32} {x2 : Int32} {x3 : Int32} {x4 : Int32} {g : pm_G} {iv : pm_V}  : pm_at X d 183 (101, [some (.ref 32), some (.int x1), some (.int x2), some (.int x3), some (.int x4)], [], g, iv) = pm_at X d 183 (102, [some (.ref 32), some (.int x1), some (.int x2), some (.int x3), some (.int x4)], [.int 0], g, iv) := by
  refine (at_iconst (v := 0) dc183_101 rfl).trans ?_
  rfl
theorem b183_102 {X : pm_X} {d : Nat} {x1 : Int32} {x2 : Int32} {x3 : Int32} {x4 : Int32} {s0 : Int32} {g : pm_G} {iv : pm_V}  : pm_at X d 183 (102, [some (.ref 32), some (.int x1), some (.int x2), some (.int x3), some (.int x4)], [.int s0], g, iv) = some (some (.int s0), g, iv) := by
  exact at_iret dc183_102 mr183
-- Mod.aloneTo (IIII)I
theorem dc184_0 : decode (pm_mb 184) 0 = .ok (.iload_n 2, 1) := by decide +kernel
theorem dc184_1 : decode (pm_mb 184) 1 = .ok (.istore 5, 2) := by decide +kernel
theorem dc184_3 : decode (pm_mb 184) 3 = .ok (.aload_n 0, 1) := by decide +kernel
theorem dc184_4 : decode (pm_mb 184) 4 = .ok (.iload_n 1, 1) := by decide +kernel
theorem dc184_5 : decode (pm_mb 184) 5 = .ok (.iconst 0, 1) := by decide +kernel
theorem dc184_6 : decode (pm_mb 184) 6 = .ok (.invokevirtual 187, 3) := by decide +kernel
theorem dc184_9 : decode (pm_mb 184) 9 = .ok (.istore 6, 2) := by decide +kernel
theorem dc184_11 : decode (pm_mb 184) 11 = .ok (.iconst 0, 1) := by decide +kernel
theorem dc184_12 : decode (pm_mb 184) 12 = .ok (.istore 7, 2) := by decide +kernel
theorem dc184_14 : decode (pm_mb 184) 14 = .ok (.iload 7, 2) := by decide +kernel
theorem dc184_16 : decode (pm_mb 184) 16 = .ok (.iload 4, 2) := by decide +kernel
theorem dc184_18 : decode (pm_mb 184) 18 = .ok (.if_icmp .ge 91, 3) := by decide +kernel
theorem dc184_21 : decode (pm_mb 184) 21 = .ok (.iload 6, 2) := by decide +kernel
theorem dc184_23 : decode (pm_mb 184) 23 = .ok (.iconst 3, 1) := by decide +kernel
theorem dc184_24 : decode (pm_mb 184) 24 = .ok (.if_icmp .ne 7, 3) := by decide +kernel
theorem dc184_27 : decode (pm_mb 184) 27 = .ok (.iconst 2, 1) := by decide +kernel
theorem dc184_28 : decode (pm_mb 184) 28 = .ok (.goto 24, 3) := by decide +kernel
theorem dc184_31 : decode (pm_mb 184) 31 = .ok (.iload 6, 2) := by decide +kernel
theorem dc184_33 : decode (pm_mb 184) 33 = .ok (.iconst 1, 1) := by decide +kernel
theorem dc184_34 : decode (pm_mb 184) 34 = .ok (.if_icmp .ne 17, 3) := by decide +kernel
theorem dc184_37 : decode (pm_mb 184) 37 = .ok (.iload_n 3, 1) := by decide +kernel
theorem dc184_38 : decode (pm_mb 184) 38 = .ok (.iload 7, 2) := by decide +kernel
theorem dc184_40 : decode (pm_mb 184) 40 = .ok (.iadd, 1) := by decide +kernel
theorem dc184_41 : decode (pm_mb 184) 41 = .ok (.iconst 2, 1) := by decide +kernel
theorem dc184_42 : decode (pm_mb 184) 42 = .ok (.irem, 1) := by decide +kernel
theorem dc184_43 : decode (pm_mb 184) 43 = .ok (.iconst 1, 1) := by decide +kernel
theorem dc184_44 : decode (pm_mb 184) 44 = .ok (.if_icmp .ne 7, 3) := by decide +kernel
theorem dc184_47 : decode (pm_mb 184) 47 = .ok (.iconst 0, 1) := by decide +kernel
theorem dc184_48 : decode (pm_mb 184) 48 = .ok (.goto 4, 3) := by decide +kernel
theorem dc184_51 : decode (pm_mb 184) 51 = .ok (.iconst 1, 1) := by decide +kernel
theorem dc184_52 : decode (pm_mb 184) 52 = .ok (.istore 8, 2) := by decide +kernel
theorem dc184_54 : decode (pm_mb 184) 54 = .ok (.iconst 0, 1) := by decide +kernel
theorem dc184_55 : decode (pm_mb 184) 55 = .ok (.istore 9, 2) := by decide +kernel
theorem dc184_57 : decode (pm_mb 184) 57 = .ok (.iload 9, 2) := by decide +kernel
theorem dc184_59 : decode (pm_mb 184) 59 = .ok (.iload 8, 2) := by decide +kernel
theorem dc184_61 : decode (pm_mb 184) 61 = .ok (.if_icmp .ge 42, 3) := by decide +kernel
theorem dc184_64 : decode (pm_mb 184) 64 = .ok (.iload 5, 2) := by decide +kernel
theorem dc184_66 : decode (pm_mb 184) 66 = .ok (.iconst 1, 1) := by decide +kernel
theorem dc184_67 : decode (pm_mb 184) 67 = .ok (.iadd, 1) := by decide +kernel
theorem dc184_68 : decode (pm_mb 184) 68 = .ok (.aload_n 0, 1) := by decide +kernel
theorem dc184_69 : decode (pm_mb 184) 69 = .ok (.getfield 19, 3) := by decide +kernel
theorem dc184_72 : decode (pm_mb 184) 72 = .ok (.iconst 1, 1) := by decide +kernel
theorem dc184_73 : decode (pm_mb 184) 73 = .ok (.iaload, 1) := by decide +kernel
theorem dc184_74 : decode (pm_mb 184) 74 = .ok (.if_icmp .ge 29, 3) := by decide +kernel
theorem dc184_77 : decode (pm_mb 184) 77 = .ok (.aload_n 0, 1) := by decide +kernel
theorem dc184_78 : decode (pm_mb 184) 78 = .ok (.aload_n 0, 1) := by decide +kernel
theorem dc184_79 : decode (pm_mb 184) 79 = .ok (.iload_n 1, 1) := by decide +kernel
theorem dc184_80 : decode (pm_mb 184) 80 = .ok (.iconst 1, 1) := by decide +kernel
theorem dc184_81 : decode (pm_mb 184) 81 = .ok (.invokevirtual 187, 3) := by decide +kernel
theorem dc184_84 : decode (pm_mb 184) 84 = .ok (.iload 5, 2) := by decide +kernel
theorem dc184_86 : decode (pm_mb 184) 86 = .ok (.iconst 1, 1) := by decide +kernel
theorem dc184_87 : decode (pm_mb 184) 87 = .ok (.iadd, 1) := by decide +kernel
theorem dc184_88 : decode (pm_mb 184) 88 = .ok (.invokevirtual 190, 3) := by decide +kernel
theorem dc184_91 : decode (pm_mb 184) 91 = .ok (.ifCond .ne 12, 3) := by decide +kernel
theorem dc184_94 : decode (pm_mb 184) 94 = .ok (.iinc 5 1, 3) := by decide +kernel
theorem dc184_97 : decode (pm_mb 184) 97 = .ok (.iinc 9 1, 3) := by decide +kernel
theorem dc184_100 : decode (pm_mb 184) 100 = .ok (.goto (-43), 3) := by decide +kernel
theorem dc184_103 : decode (pm_mb 184) 103 = .ok (.iinc 7 1, 3) := by decide +kernel
theorem dc184_106 : decode (pm_mb 184) 106 = .ok (.goto (-92), 3) := by decide +kernel
theorem dc184_109 : decode (pm_mb 184) 109 = .ok (.iload 5, 2) := by decide +kernel
theorem dc184_111 : decode (pm_mb 184) 111 = .ok (.ireturn, 1) := by decide +kernel
theorem b184_0 {X : pm_X} {d : Nat} {x1 : Int32} {x2 : Int32} {x3 : Int32} {x4 : Int32} {g : pm_G} {iv : pm_V} (hL : pm_lay g) : pm_at X d 184 (0, [some (.ref 32), some (.int x1), some (.int x2), some (.int x3), some (.int x4), none, none, none, none, none], [], g, iv) = pm_then X d 184 9 [some (.ref 32), some (.int x1), some (.int x2), some (.int x3), some (.int x4), some (.int x2), none, none, none, none] [] (pm_c X d 158 [.ref 32, .int x1, .int 0] g iv) := by
  refine (at_iload_n dc184_0 rfl).trans ?_
  refine (at_istore dc184_1 rfl).trans ?_
  refine (at_aload_n dc184_3 rfl).trans ?_
  refine (at_iload_n dc184_4 rfl).trans ?_
  refine (at_iconst (v := 0) dc184_5 rfl).trans ?_
  exact at_inv dc184_6 mc184 lm6_187 rfl rfl (Nat.le_of_ble_eq_true rfl) (Or.inl ⟨(ly32 hL), by decide⟩)
theorem b184_9 {X : pm_X} {d : Nat} {x1 : Int32} {x2 : Int32} {x3 : Int32} {x4 : Int32} {x5 : Int32} {s0 : Int32} {g : pm_G} {iv : pm_V}  : pm_at X d 184 (9, [some (.ref 32), some (.int x1), some (.int x2), some (.int x3), some (.int x4), some (.int x5), none, none, none, none], [.int s0], g, iv) = pm_at X d 184 (14, [some (.ref 32), some (.int x1), some (.int x2), some (.int x3), some (.int x4), some (.int x5), some (.int s0), some (.int 0), none, none], [], g, iv) := by
  refine (at_istore dc184_9 rfl).trans ?_
  refine (at_iconst (v := 0) dc184_11 rfl).trans ?_
  refine (at_istore dc184_12 rfl).trans ?_
  rfl
theorem b184_14 {X : pm_X} {d : Nat} {x1 : Int32} {x2 : Int32} {x3 : Int32} {x4 : Int32} {x5 : Int32} {x6 : Int32} {x7 : Int32} {z8 : Option Value} {z9 : Option Value} {g : pm_G} {iv : pm_V}  : pm_at X d 184 (14, [some (.ref 32), some (.int x1), some (.int x2), some (.int x3), some (.int x4), some (.int x5), some (.int x6), some (.int x7), z8, z9], [], g, iv) = if x4 ≤ x7 then pm_at X d 184 (109, [some (.ref 32), some (.int x1), some (.int x2), some (.int x3), some (.int x4), some (.int x5), some (.int x6), some (.int x7), z8, z9], [], g, iv) else pm_at X d 184 (21, [some (.ref 32), some (.int x1), some (.int x2), some (.int x3), some (.int x4), some (.int x5), some (.int x6), some (.int x7), z8, z9], [], g, iv) := by
  refine (at_iload dc184_14 rfl).trans ?_
  refine (at_iload dc184_16 rfl).trans ?_
  exact at_icmp_ge (t := 109) dc184_18 (by decide)
theorem b184_21 {X : pm_X} {d : Nat} {x1 : Int32} {x2 : Int32} {x3 : Int32} {x4 : Int32} {x5 : Int32} {x6 : Int32} {x7 : Int32} {z8 : Option Value} {z9 : Option Value} {g : pm_G} {iv : pm_V}  : pm_at X d 184 (21, [some (.ref 32), some (.int x1), some (.int x2), some (.int x3), some (.int x4), some (.int x5), some (.int x6), some (.int x7), z8, z9], [], g, iv) = if ¬ x6 = 3 then pm_at X d 184 (31, [some (.ref 32), some (.int x1), some (.int x2), some (.int x3), some (.int x4), some (.int x5), some (.int x6), some (.int x7), z8, z9], [], g, iv) else pm_at X d 184 (27, [some (.ref 32), some (.int x1), some (.int x2), some (.int x3), some (.int x4), some (.int x5), some (.int x6), some (.int x7), z8, z9], [], g, iv) := by
  refine (at_iload dc184_21 rfl).trans ?_
  refine (at_iconst (v := 3) dc184_23 rfl).trans ?_
  exact at_icmp_ne (t := 31) dc184_24 (by decide)
theorem b184_27 {X : pm_X} {d : Nat} {x1 : Int32} {x2 : Int32} {x3 : Int32} {x4 : Int32} {x5 : Int32} {x6 : Int32} {x7 : Int32} {z8 : Option Value} {z9 : Option Value} {g : pm_G} {iv : pm_V}  : pm_at X d 184 (27, [some (.ref 32), some (.int x1), some (.int x2), some (.int x3), some (.int x4), some (.int x5), some (.int x6), some (.int x7), z8, z9], [], g, iv) = pm_at X d 184 (52, [some (.ref 32), some (.int x1), some (.int x2), some (.int x3), some (.int x4), some (.int x5), some (.int x6), some (.int x7), z8, z9], [.int 2], g, iv) := by
  refine (at_iconst (v := 2) dc184_27 rfl).trans ?_
  refine (at_goto (t := 52) dc184_28 (by decide)).trans ?_
  rfl
theorem b184_31 {X : pm_X} {d : Nat} {x1 : Int32} {x2 : Int32} {x3 : Int32} {x4 : Int32} {x5 : Int32} {x6 : Int32} {x7 : Int32} {z8 : Option Value} {z9 : Option Value} {g : pm_G} {iv : pm_V}  : pm_at X d 184 (31, [some (.ref 32), some (.int x1), some (.int x2), some (.int x3), some (.int x4), some (.int x5), some (.int x6), some (.int x7), z8, z9], [], g, iv) = if ¬ x6 = 1 then pm_at X d 184 (51, [some (.ref 32), some (.int x1), some (.int x2), some (.int x3), some (.int x4), some (.int x5), some (.int x6), some (.int x7), z8, z9], [], g, iv) else pm_at X d 184 (37, [some (.ref 32), some (.int x1), some (.int x2), some (.int x3), some (.int x4), some (.int x5), some (.int x6), some (.int x7), z8, z9], [], g, iv) := by
  refine (at_iload dc184_31 rfl).trans ?_
  refine (at_iconst (v := 1) dc184_33 rfl).trans ?_
  exact at_icmp_ne (t := 51) dc184_34 (by decide)
theorem b184_37 {X : pm_X} {d : Nat} {x1 : Int32} {x2 : Int32} {x3 : Int32} {x4 : Int32} {x5 : Int32} {x6 : Int32} {x7 : Int32} {z8 : Option Value} {z9 : Option Value} {g : pm_G} {iv : pm_V}  : pm_at X d 184 (37, [some (.ref 32), some (.int x1), some (.int x2), some (.int x3), some (.int x4), some (.int x5), some (.int x6), some (.int x7), z8, z9], [], g, iv) = if ¬ ((x3 + x7) - (x3 + x7) / 2 * 2) = 1 then pm_at X d 184 (51, [some (.ref 32), some (.int x1), some (.int x2), some (.int x3), some (.int x4), some (.int x5), some (.int x6), some (.int x7), z8, z9], [], g, iv) else pm_at X d 184 (47, [some (.ref 32), some (.int x1), some (.int x2), some (.int x3), some (.int x4), some (.int x5), some (.int x6), some (.int x7), z8, z9], [], g, iv) := by
  refine (at_iload_n dc184_37 rfl).trans ?_
  refine (at_iload dc184_38 rfl).trans ?_
  refine (at_iadd dc184_40).trans ?_
  refine (at_iconst (v := 2) dc184_41 rfl).trans ?_
  refine (at_irem dc184_42 (by decide)).trans ?_
  refine (at_iconst (v := 1) dc184_43 rfl).trans ?_
  exact at_icmp_ne (t := 51) dc184_44 (by decide)
theorem b184_47 {X : pm_X} {d : Nat} {x1 : Int32} {x2 : Int32} {x3 : Int32} {x4 : Int32} {x5 : Int32} {x6 : Int32} {x7 : Int32} {z8 : Option Value} {z9 : Option Value} {g : pm_G} {iv : pm_V}  : pm_at X d 184 (47, [some (.ref 32), some (.int x1), some (.int x2), some (.int x3), some (.int x4), some (.int x5), some (.int x6), some (.int x7), z8, z9], [], g, iv) = pm_at X d 184 (52, [some (.ref 32), some (.int x1), some (.int x2), some (.int x3), some (.int x4), some (.int x5), some (.int x6), some (.int x7), z8, z9], [.int 0], g, iv) := by
  refine (at_iconst (v := 0) dc184_47 rfl).trans ?_
  refine (at_goto (t := 52) dc184_48 (by decide)).trans ?_
  rfl
theorem b184_51 {X : pm_X} {d : Nat} {x1 : Int32} {x2 : Int32} {x3 : Int32} {x4 : Int32} {x5 : Int32} {x6 : Int32} {x7 : Int32} {z8 : Option Value} {z9 : Option Value} {g : pm_G} {iv : pm_V}  : pm_at X d 184 (51, [some (.ref 32), some (.int x1), some (.int x2), some (.int x3), some (.int x4), some (.int x5), some (.int x6), some (.int x7), z8, z9], [], g, iv) = pm_at X d 184 (52, [some (.ref 32), some (.int x1), some (.int x2), some (.int x3), some (.int x4), some (.int x5), some (.int x6), some (.int x7), z8, z9], [.int 1], g, iv) := by
  refine (at_iconst (v := 1) dc184_51 rfl).trans ?_
  rfl
theorem b184_52 {X : pm_X} {d : Nat} {x1 : Int32} {x2 : Int32} {x3 : Int32} {x4 : Int32} {x5 : Int32} {x6 : Int32} {x7 : Int32} {z8 : Option Value} {z9 : Option Value} {s0 : Int32} {g : pm_G} {iv : pm_V}  : pm_at X d 184 (52, [some (.ref 32), some (.int x1), some (.int x2), some (.int x3), some (.int x4), some (.int x5), some (.int x6), some (.int x7), z8, z9], [.int s0], g, iv) = pm_at X d 184 (57, [some (.ref 32), some (.int x1), some (.int x2), some (.int x3), some (.int x4), some (.int x5), some (.int x6), some (.int x7), some (.int s0), some (.int 0)], [], g, iv) := by
  refine (at_istore dc184_52 rfl).trans ?_
  refine (at_iconst (v := 0) dc184_54 rfl).trans ?_
  refine (at_istore dc184_55 rfl).trans ?_
  rfl
theorem b184_57 {X : pm_X} {d : Nat} {x1 : Int32} {x2 : Int32} {x3 : Int32} {x4 : Int32} {x5 : Int32} {x6 : Int32} {x7 : Int32} {x8 : Int32} {x9 : Int32} {g : pm_G} {iv : pm_V}  : pm_at X d 184 (57, [some (.ref 32), some (.int x1), some (.int x2), some (.int x3), some (.int x4), some (.int x5), some (.int x6), some (.int x7), some (.int x8), some (.int x9)], [], g, iv) = if x8 ≤ x9 then pm_at X d 184 (103, [some (.ref 32), some (.int x1), some (.int x2), some (.int x3), some (.int x4), some (.int x5), some (.int x6), some (.int x7), some (.int x8), some (.int x9)], [], g, iv) else pm_at X d 184 (64, [some (.ref 32), some (.int x1), some (.int x2), some (.int x3), some (.int x4), some (.int x5), some (.int x6), some (.int x7), some (.int x8), some (.int x9)], [], g, iv) := by
  refine (at_iload dc184_57 rfl).trans ?_
  refine (at_iload dc184_59 rfl).trans ?_
  exact at_icmp_ge (t := 103) dc184_61 (by decide)
theorem b184_64 {X : pm_X} {d : Nat} {x1 : Int32} {x2 : Int32} {x3 : Int32} {x4 : Int32} {x5 : Int32} {x6 : Int32} {x7 : Int32} {x8 : Int32} {x9 : Int32} {g : pm_G} {iv : pm_V} (hL : pm_lay g) : pm_at X d 184 (64, [some (.ref 32), some (.int x1), some (.int x2), some (.int x3), some (.int x4), some (.int x5), some (.int x6), some (.int x7), some (.int x8), some (.int x9)], [], g, iv) = if (iv 36 1) ≤ (x5 + 1) then pm_at X d 184 (103, [some (.ref 32), some (.int x1), some (.int x2), some (.int x3), some (.int x4), some (.int x5), some (.int x6), some (.int x7), some (.int x8), some (.int x9)], [], g, iv) else pm_at X d 184 (77, [some (.ref 32), some (.int x1), some (.int x2), some (.int x3), some (.int x4), some (.int x5), some (.int x6), some (.int x7), some (.int x8), some (.int x9)], [], g, iv) := by
  refine (at_iload dc184_64 rfl).trans ?_
  refine (at_iconst (v := 1) dc184_66 rfl).trans ?_
  refine (at_iadd dc184_67).trans ?_
  refine (at_aload_n dc184_68 rfl).trans ?_
  refine (at_gfR dc184_69 mc184 lf6_19 fo6_5 (ly32 hL) (lr32_5 hL)).trans ?_
  refine (at_iconst (v := 1) dc184_72 rfl).trans ?_
  refine (at_iald dc184_73 (ly36 hL) (vp_in_nI (n := 1) (by decide) (by decide))).trans ?_
  exact at_icmp_ge (t := 103) dc184_74 (by decide)
theorem b184_77 {X : pm_X} {d : Nat} {x1 : Int32} {x2 : Int32} {x3 : Int32} {x4 : Int32} {x5 : Int32} {x6 : Int32} {x7 : Int32} {x8 : Int32} {x9 : Int32} {g : pm_G} {iv : pm_V} (hL : pm_lay g) : pm_at X d 184 (77, [some (.ref 32), some (.int x1), some (.int x2), some (.int x3), some (.int x4), some (.int x5), some (.int x6), some (.int x7), some (.int x8), some (.int x9)], [], g, iv) = pm_then X d 184 84 [some (.ref 32), some (.int x1), some (.int x2), some (.int x3), some (.int x4), some (.int x5), some (.int x6), some (.int x7), some (.int x8), some (.int x9)] [.ref 32] (pm_c X d 158 [.ref 32, .int x1, .int 1] g iv) := by
  refine (at_aload_n dc184_77 rfl).trans ?_
  refine (at_aload_n dc184_78 rfl).trans ?_
  refine (at_iload_n dc184_79 rfl).trans ?_
  refine (at_iconst (v := 1) dc184_80 rfl).trans ?_
  exact at_inv dc184_81 mc184 lm6_187 rfl rfl (Nat.le_of_ble_eq_true rfl) (Or.inl ⟨(ly32 hL), by decide⟩)
theorem b184_84 {X : pm_X} {d : Nat} {x1 : Int32} {x2 : Int32} {x3 : Int32} {x4 : Int32} {x5 : Int32} {x6 : Int32} {x7 : Int32} {x8 : Int32} {x9 : Int32} {s0 : Int32} {g : pm_G} {iv : pm_V} (hL : pm_lay g) : pm_at X d 184 (84, [some (.ref 32), some (.int x1), some (.int x2), some (.int x3), some (.int x4), some (.int x5), some (.int x6), some (.int x7), some (.int x8), some (.int x9)], [.int s0, .ref 32], g, iv) = pm_then X d 184 91 [some (.ref 32), some (.int x1), some (.int x2), some (.int x3), some (.int x4), some (.int x5), some (.int x6), some (.int x7), some (.int x8), some (.int x9)] [] (pm_c X d 159 [.ref 32, .int s0, .int (x5 + 1)] g iv) := by
  refine (at_iload dc184_84 rfl).trans ?_
  refine (at_iconst (v := 1) dc184_86 rfl).trans ?_
  refine (at_iadd dc184_87).trans ?_
  exact at_inv dc184_88 mc184 lm6_190 rfl rfl (Nat.le_of_ble_eq_true rfl) (Or.inl ⟨(ly32 hL), by decide⟩)
theorem b184_91 {X : pm_X} {d : Nat} {x1 : Int32} {x2 : Int32} {x3 : Int32} {x4 : Int32} {x5 : Int32} {x6 : Int32} {x7 : Int32} {x8 : Int32} {x9 : Int32} {s0 : Int32} {g : pm_G} {iv : pm_V}  : pm_at X d 184 (91, [some (.ref 32), some (.int x1), some (.int x2), some (.int x3), some (.int x4), some (.int x5), some (.int x6), some (.int x7), some (.int x8), some (.int x9)], [.int s0], g, iv) = if ¬ s0 = 0 then pm_at X d 184 (103, [some (.ref 32), some (.int x1), some (.int x2), some (.int x3), some (.int x4), some (.int x5), some (.int x6), some (.int x7), some (.int x8), some (.int x9)], [], g, iv) else pm_at X d 184 (94, [some (.ref 32), some (.int x1), some (.int x2), some (.int x3), some (.int x4), some (.int x5), some (.int x6), some (.int x7), some (.int x8), some (.int x9)], [], g, iv) := by
  exact at_if_ne (t := 103) dc184_91 (by decide)
theorem b184_94 {X : pm_X} {d : Nat} {x1 : Int32} {x2 : Int32} {x3 : Int32} {x4 : Int32} {x5 : Int32} {x6 : Int32} {x7 : Int32} {x8 : Int32} {x9 : Int32} {g : pm_G} {iv : pm_V}  : pm_at X d 184 (94, [some (.ref 32), some (.int x1), some (.int x2), some (.int x3), some (.int x4), some (.int x5), some (.int x6), some (.int x7), some (.int x8), some (.int x9)], [], g, iv) = pm_at X d 184 (57, [some (.ref 32), some (.int x1), some (.int x2), some (.int x3), some (.int x4), some (.int (x5 + 1)), some (.int x6), some (.int x7), some (.int x8), some (.int (x9 + 1))], [], g, iv) := by
  refine (at_iinc (v := 1) dc184_94 rfl (by decide) rfl).trans ?_
  refine (at_iinc (v := 1) dc184_97 rfl (by decide) rfl).trans ?_
  refine (at_goto (t := 57) dc184_100 (by decide)).trans ?_
  rfl
theorem b184_103 {X : pm_X} {d : Nat} {x1 : Int32} {x2 : Int32} {x3 : Int32} {x4 : Int32} {x5 : Int32} {x6 : Int32} {x7 : Int32} {x8 : Int32} {x9 : Int32} {g : pm_G} {iv : pm_V}  : pm_at X d 184 (103, [some (.ref 32), some (.int x1), some (.int x2), some (.int x3), some (.int x4), some (.int x5), some (.int x6), some (.int x7), some (.int x8), some (.int x9)], [], g, iv) = pm_at X d 184 (14, [some (.ref 32), some (.int x1), some (.int x2), some (.int x3), some (.int x4), some (.int x5), some (.int x6), some (.int (x7 + 1)), some (.int x8), some (.int x9)], [], g, iv) := by
  refine (at_iinc (v := 1) dc184_103 rfl (by decide) rfl).trans ?_
  refine (at_goto (t := 14) dc184_106 (by decide)).trans ?_
  rfl
theorem b184_109 {X : pm_X} {d : Nat} {x1 : Int32} {x2 : Int32} {x3 : Int32} {x4 : Int32} {x5 : Int32} {x6 : Int32} {x7 : Int32} {z8 : Option Value} {z9 : Option Value} {g : pm_G} {iv : pm_V}  : pm_at X d 184 (109, [some (.ref 32), some (.int x1), some (.int x2), some (.int x3), some (.int x4), some (.int x5), some (.int x6), some (.int x7), z8, z9], [], g, iv) = some (some (.int x5), g, iv) := by
  refine (at_iload dc184_109 rfl).trans ?_
  exact at_iret dc184_111 mr184
-- Mod.stood (III)I
theorem dc185_0 : decode (pm_mb 185) 0 = .ok (.aload_n 0, 1) := by decide +kernel
theorem dc185_1 : decode (pm_mb 185) 1 = .ok (.iconst 0, 1) := by decide +kernel
theorem dc185_2 : decode (pm_mb 185) 2 = .ok (.putfield 50, 3) := by decide +kernel
theorem dc185_5 : decode (pm_mb 185) 5 = .ok (.aload_n 0, 1) := by decide +kernel
theorem dc185_6 : decode (pm_mb 185) 6 = .ok (.iload_n 1, 1) := by decide +kernel
theorem dc185_7 : decode (pm_mb 185) 7 = .ok (.invokevirtual 184, 3) := by decide +kernel
theorem dc185_10 : decode (pm_mb 185) 10 = .ok (.ifCond .eq 27, 3) := by decide +kernel
theorem dc185_13 : decode (pm_mb 185) 13 = .ok (.iload_n 2, 1) := by decide +kernel
theorem dc185_14 : decode (pm_mb 185) 14 = .ok (.i2l, 1) := by decide +kernel
theorem dc185_15 : decode (pm_mb 185) 15 = .ok (.lconst 0, 1) := by decide +kernel
theorem dc185_16 : decode (pm_mb 185) 16 = .ok (.ldc2_w 229, 3) := by decide +kernel
theorem dc185_19 : decode (pm_mb 185) 19 = .ok (.invokestatic 60, 3) := by decide +kernel
theorem dc185_22 : decode (pm_mb 185) 22 = .ok (.ifCond .eq 15, 3) := by decide +kernel
theorem dc185_25 : decode (pm_mb 185) 25 = .ok (.iload_n 3, 1) := by decide +kernel
theorem dc185_26 : decode (pm_mb 185) 26 = .ok (.i2l, 1) := by decide +kernel
theorem dc185_27 : decode (pm_mb 185) 27 = .ok (.lconst 0, 1) := by decide +kernel
theorem dc185_28 : decode (pm_mb 185) 28 = .ok (.ldc2_w 229, 3) := by decide +kernel
theorem dc185_31 : decode (pm_mb 185) 31 = .ok (.invokestatic 60, 3) := by decide +kernel
theorem dc185_34 : decode (pm_mb 185) 34 = .ok (.ifCond .ne 6, 3) := by decide +kernel
theorem dc185_37 : decode (pm_mb 185) 37 = .ok (.ldc 70, 2) := by decide +kernel
theorem dc185_39 : decode (pm_mb 185) 39 = .ok (.ireturn, 1) := by decide +kernel
theorem dc185_40 : decode (pm_mb 185) 40 = .ok (.iconst 0, 1) := by decide +kernel
theorem dc185_41 : decode (pm_mb 185) 41 = .ok (.istore 4, 2) := by decide +kernel
theorem dc185_43 : decode (pm_mb 185) 43 = .ok (.iconst 0, 1) := by decide +kernel
theorem dc185_44 : decode (pm_mb 185) 44 = .ok (.istore 5, 2) := by decide +kernel
theorem dc185_46 : decode (pm_mb 185) 46 = .ok (.iload 5, 2) := by decide +kernel
theorem dc185_48 : decode (pm_mb 185) 48 = .ok (.aload_n 0, 1) := by decide +kernel
theorem dc185_49 : decode (pm_mb 185) 49 = .ok (.getfield 19, 3) := by decide +kernel
theorem dc185_52 : decode (pm_mb 185) 52 = .ok (.iconst 1, 1) := by decide +kernel
theorem dc185_53 : decode (pm_mb 185) 53 = .ok (.iaload, 1) := by decide +kernel
theorem dc185_54 : decode (pm_mb 185) 54 = .ok (.if_icmp .ge 55, 3) := by decide +kernel
theorem dc185_57 : decode (pm_mb 185) 57 = .ok (.iload 4, 2) := by decide +kernel
theorem dc185_59 : decode (pm_mb 185) 59 = .ok (.aload_n 0, 1) := by decide +kernel
theorem dc185_60 : decode (pm_mb 185) 60 = .ok (.aload_n 0, 1) := by decide +kernel
theorem dc185_61 : decode (pm_mb 185) 61 = .ok (.iload_n 1, 1) := by decide +kernel
theorem dc185_62 : decode (pm_mb 185) 62 = .ok (.iconst 1, 1) := by decide +kernel
theorem dc185_63 : decode (pm_mb 185) 63 = .ok (.invokevirtual 187, 3) := by decide +kernel
theorem dc185_66 : decode (pm_mb 185) 66 = .ok (.iload 5, 2) := by decide +kernel
theorem dc185_68 : decode (pm_mb 185) 68 = .ok (.invokevirtual 190, 3) := by decide +kernel
theorem dc185_71 : decode (pm_mb 185) 71 = .ok (.ifCond .ne 28, 3) := by decide +kernel
theorem dc185_74 : decode (pm_mb 185) 74 = .ok (.aload_n 0, 1) := by decide +kernel
theorem dc185_75 : decode (pm_mb 185) 75 = .ok (.iload_n 1, 1) := by decide +kernel
theorem dc185_76 : decode (pm_mb 185) 76 = .ok (.iload 5, 2) := by decide +kernel
theorem dc185_78 : decode (pm_mb 185) 78 = .ok (.iload_n 2, 1) := by decide +kernel
theorem dc185_79 : decode (pm_mb 185) 79 = .ok (.iload_n 3, 1) := by decide +kernel
theorem dc185_80 : decode (pm_mb 185) 80 = .ok (.invokevirtual 246, 3) := by decide +kernel
theorem dc185_83 : decode (pm_mb 185) 83 = .ok (.aload_n 0, 1) := by decide +kernel
theorem dc185_84 : decode (pm_mb 185) 84 = .ok (.iload_n 1, 1) := by decide +kernel
theorem dc185_85 : decode (pm_mb 185) 85 = .ok (.iconst 2, 1) := by decide +kernel
theorem dc185_86 : decode (pm_mb 185) 86 = .ok (.invokevirtual 187, 3) := by decide +kernel
theorem dc185_89 : decode (pm_mb 185) 89 = .ok (.if_icmp .ne 10, 3) := by decide +kernel
theorem dc185_92 : decode (pm_mb 185) 92 = .ok (.iconst 1, 1) := by decide +kernel
theorem dc185_93 : decode (pm_mb 185) 93 = .ok (.iload 5, 2) := by decide +kernel
theorem dc185_95 : decode (pm_mb 185) 95 = .ok (.ishl, 1) := by decide +kernel
theorem dc185_96 : decode (pm_mb 185) 96 = .ok (.goto 4, 3) := by decide +kernel
theorem dc185_99 : decode (pm_mb 185) 99 = .ok (.iconst 0, 1) := by decide +kernel
theorem dc185_100 : decode (pm_mb 185) 100 = .ok (.ior, 1) := by decide +kernel
theorem dc185_101 : decode (pm_mb 185) 101 = .ok (.istore 4, 2) := by decide +kernel
theorem dc185_103 : decode (pm_mb 185) 103 = .ok (.iinc 5 1, 3) := by decide +kernel
theorem dc185_106 : decode (pm_mb 185) 106 = .ok (.goto (-60), 3) := by decide +kernel
theorem dc185_109 : decode (pm_mb 185) 109 = .ok (.iload 4, 2) := by decide +kernel
theorem dc185_111 : decode (pm_mb 185) 111 = .ok (.ireturn, 1) := by decide +kernel
theorem b185_0 {X : pm_X} {d : Nat} {x1 : Int32} {x2 : Int32} {x3 : Int32} {g : pm_G} {iv : pm_V} (hL : pm_lay g) : pm_at X d 185 (0, [some (.ref 32), some (.int x1), some (.int x2), some (.int x3), none, none], [], g, iv) = pm_then X d 185 10 [some (.ref 32), some (.int x1), some (.int x2), some (.int x3), none, none] [] (pm_c X d 156 [.ref 32, .int x1] g (pm_iw iv 32 0 0)) := by
  refine (at_aload_n dc185_0 rfl).trans ?_
  refine (at_iconst (v := 0) dc185_1 rfl).trans ?_
  refine (at_pfI dc185_2 mc185 lf6_50 po6_0 (ly32 hL)).trans ?_
  refine (at_aload_n dc185_5 rfl).trans ?_
  refine (at_iload_n dc185_6 rfl).trans ?_
  exact at_inv dc185_7 mc185 lm6_184 rfl rfl (Nat.le_of_ble_eq_true rfl) (Or.inl ⟨(ly32 hL), by decide⟩)
theorem b185_10 {X : pm_X} {d : Nat} {x1 : Int32} {x2 : Int32} {x3 : Int32} {s0 : Int32} {g : pm_G} {iv : pm_V}  : pm_at X d 185 (10, [some (.ref 32), some (.int x1), some (.int x2), some (.int x3), none, none], [.int s0], g, iv) = if s0 = 0 then pm_at X d 185 (37, [some (.ref 32), some (.int x1), some (.int x2), some (.int x3), none, none], [], g, iv) else pm_at X d 185 (13, [some (.ref 32), some (.int x1), some (.int x2), some (.int x3), none, none], [], g, iv) := by
  exact at_if_eq (t := 37) dc185_10 (by decide)
theorem b185_13 {X : pm_X} {d : Nat} {x1 : Int32} {x2 : Int32} {x3 : Int32} {g : pm_G} {iv : pm_V}  : pm_at X d 185 (13, [some (.ref 32), some (.int x1), some (.int x2), some (.int x3), none, none], [], g, iv) = pm_then X d 185 22 [some (.ref 32), some (.int x1), some (.int x2), some (.int x3), none, none] [] (pm_c X d 129 [.long (x2 : Int32).toInt64, .long 0, .long 40] g iv) := by
  refine (at_iload_n dc185_13 rfl).trans ?_
  refine (at_i2l dc185_14).trans ?_
  refine (at_lconst (v := 0) dc185_15 (by decide)).trans ?_
  refine (at_ldc2 dc185_16 mc185 ll6_229).trans ?_
  exact at_ins dc185_19 mc185 lm6_60 (Nat.le_of_ble_eq_true rfl) rfl rfl (Nat.le_of_ble_eq_true rfl)
theorem b185_22 {X : pm_X} {d : Nat} {x1 : Int32} {x2 : Int32} {x3 : Int32} {s0 : Int32} {g : pm_G} {iv : pm_V}  : pm_at X d 185 (22, [some (.ref 32), some (.int x1), some (.int x2), some (.int x3), none, none], [.int s0], g, iv) = if s0 = 0 then pm_at X d 185 (37, [some (.ref 32), some (.int x1), some (.int x2), some (.int x3), none, none], [], g, iv) else pm_at X d 185 (25, [some (.ref 32), some (.int x1), some (.int x2), some (.int x3), none, none], [], g, iv) := by
  exact at_if_eq (t := 37) dc185_22 (by decide)
theorem b185_25 {X : pm_X} {d : Nat} {x1 : Int32} {x2 : Int32} {x3 : Int32} {g : pm_G} {iv : pm_V}  : pm_at X d 185 (25, [some (.ref 32), some (.int x1), some (.int x2), some (.int x3), none, none], [], g, iv) = pm_then X d 185 34 [some (.ref 32), some (.int x1), some (.int x2), some (.int x3), none, none] [] (pm_c X d 129 [.long (x3 : Int32).toInt64, .long 0, .long 40] g iv) := by
  refine (at_iload_n dc185_25 rfl).trans ?_
  refine (at_i2l dc185_26).trans ?_
  refine (at_lconst (v := 0) dc185_27 (by decide)).trans ?_
  refine (at_ldc2 dc185_28 mc185 ll6_229).trans ?_
  exact at_ins dc185_31 mc185 lm6_60 (Nat.le_of_ble_eq_true rfl) rfl rfl (Nat.le_of_ble_eq_true rfl)
theorem b185_34 {X : pm_X} {d : Nat} {x1 : Int32} {x2 : Int32} {x3 : Int32} {s0 : Int32} {g : pm_G} {iv : pm_V}  : pm_at X d 185 (34, [some (.ref 32), some (.int x1), some (.int x2), some (.int x3), none, none], [.int s0], g, iv) = if ¬ s0 = 0 then pm_at X d 185 (40, [some (.ref 32), some (.int x1), some (.int x2), some (.int x3), none, none], [], g, iv) else pm_at X d 185 (37, [some (.ref 32), some (.int x1), some (.int x2), some (.int x3), none, none], [], g, iv) := by
  exact at_if_ne (t := 40) dc185_34 (by decide)
theorem b185_37 {X : pm_X} {d : Nat} {x1 : Int32} {x2 : Int32} {x3 : Int32} {g : pm_G} {iv : pm_V}  : pm_at X d 185 (37, [some (.ref 32), some (.int x1), some (.int x2), some (.int x3), none, none], [], g, iv) = some (some (.int (-1000001)), g, iv) := by
  refine (at_ldc dc185_37 mc185 lk6_70).trans ?_
  exact at_iret dc185_39 mr185
theorem b185_40 {X : pm_X} {d : Nat} {x1 : Int32} {x2 : Int32} {x3 : Int32} {g : pm_G} {iv : pm_V}  : pm_at X d 185 (40, [some (.ref 32), some (.int x1), some (.int x2), some (.int x3), none, none], [], g, iv) = pm_at X d 185 (46, [some (.ref 32), some (.int x1), some (.int x2), some (.int x3), some (.int 0), some (.int 0)], [], g, iv) := by
  refine (at_iconst (v := 0) dc185_40 rfl).trans ?_
  refine (at_istore dc185_41 rfl).trans ?_
  refine (at_iconst (v := 0) dc185_43 rfl).trans ?_
  refine (at_istore dc185_44 rfl).trans ?_
  rfl
theorem b185_46 {X : pm_X} {d : Nat} {x1 : Int32} {x2 : Int32} {x3 : Int32} {x4 : Int32} {x5 : Int32} {g : pm_G} {iv : pm_V} (hL : pm_lay g) : pm_at X d 185 (46, [some (.ref 32), some (.int x1), some (.int x2), some (.int x3), some (.int x4), some (.int x5)], [], g, iv) = if (iv 36 1) ≤ x5 then pm_at X d 185 (109, [some (.ref 32), some (.int x1), some (.int x2), some (.int x3), some (.int x4), some (.int x5)], [], g, iv) else pm_at X d 185 (57, [some (.ref 32), some (.int x1), some (.int x2), some (.int x3), some (.int x4), some (.int x5)], [], g, iv) := by
  refine (at_iload dc185_46 rfl).trans ?_
  refine (at_aload_n dc185_48 rfl).trans ?_
  refine (at_gfR dc185_49 mc185 lf6_19 fo6_5 (ly32 hL) (lr32_5 hL)).trans ?_
  refine (at_iconst (v := 1) dc185_52 rfl).trans ?_
  refine (at_iald dc185_53 (ly36 hL) (vp_in_nI (n := 1) (by decide) (by decide))).trans ?_
  exact at_icmp_ge (t := 109) dc185_54 (by decide)
theorem b185_57 {X : pm_X} {d : Nat} {x1 : Int32} {x2 : Int32} {x3 : Int32} {x4 : Int32} {x5 : Int32} {g : pm_G} {iv : pm_V} (hL : pm_lay g) : pm_at X d 185 (57, [some (.ref 32), some (.int x1), some (.int x2), some (.int x3), some (.int x4), some (.int x5)], [], g, iv) = pm_then X d 185 66 [some (.ref 32), some (.int x1), some (.int x2), some (.int x3), some (.int x4), some (.int x5)] [.ref 32, .int x4] (pm_c X d 158 [.ref 32, .int x1, .int 1] g iv) := by
  refine (at_iload dc185_57 rfl).trans ?_
  refine (at_aload_n dc185_59 rfl).trans ?_
  refine (at_aload_n dc185_60 rfl).trans ?_
  refine (at_iload_n dc185_61 rfl).trans ?_
  refine (at_iconst (v := 1) dc185_62 rfl).trans ?_
  exact at_inv dc185_63 mc185 lm6_187 rfl rfl (Nat.le_of_ble_eq_true rfl) (Or.inl ⟨(ly32 hL), by decide⟩)
theorem b185_66 {X : pm_X} {d : Nat} {x1 : Int32} {x2 : Int32} {x3 : Int32} {x4 : Int32} {x5 : Int32} {s0 : Int32} {s2 : Int32} {g : pm_G} {iv : pm_V} (hL : pm_lay g) : pm_at X d 185 (66, [some (.ref 32), some (.int x1), some (.int x2), some (.int x3), some (.int x4), some (.int x5)], [.int s0, .ref 32, .int s2], g, iv) = pm_then X d 185 71 [some (.ref 32), some (.int x1), some (.int x2), some (.int x3), some (.int x4), some (.int x5)] [.int s2] (pm_c X d 159 [.ref 32, .int s0, .int x5] g iv) := by
  refine (at_iload dc185_66 rfl).trans ?_
  exact at_inv dc185_68 mc185 lm6_190 rfl rfl (Nat.le_of_ble_eq_true rfl) (Or.inl ⟨(ly32 hL), by decide⟩)
theorem b185_71 {X : pm_X} {d : Nat} {x1 : Int32} {x2 : Int32} {x3 : Int32} {x4 : Int32} {x5 : Int32} {s0 : Int32} {s1 : Int32} {g : pm_G} {iv : pm_V}  : pm_at X d 185 (71, [some (.ref 32), some (.int x1), some (.int x2), some (.int x3), some (.int x4), some (.int x5)], [.int s0, .int s1], g, iv) = if ¬ s0 = 0 then pm_at X d 185 (99, [some (.ref 32), some (.int x1), some (.int x2), some (.int x3), some (.int x4), some (.int x5)], [.int s1], g, iv) else pm_at X d 185 (74, [some (.ref 32), some (.int x1), some (.int x2), some (.int x3), some (.int x4), some (.int x5)], [.int s1], g, iv) := by
  exact at_if_ne (t := 99) dc185_71 (by decide)
theorem b185_74 {X : pm_X} {d : Nat} {x1 : Int32} {x2 : Int32} {x3 : Int32} {x4 : Int32} {x5 : Int32} {s0 : Int32} {g : pm_G} {iv : pm_V} (hL : pm_lay g) : pm_at X d 185 (74, [some (.ref 32), some (.int x1), some (.int x2), some (.int x3), some (.int x4), some (.int x5)], [.int s0], g, iv) = pm_then X d 185 83 [some (.ref 32), some (.int x1), some (.int x2), some (.int x3), some (.int x4), some (.int x5)] [.int s0] (pm_c X d 184 [.ref 32, .int x1, .int x5, .int x2, .int x3] g iv) := by
  refine (at_aload_n dc185_74 rfl).trans ?_
  refine (at_iload_n dc185_75 rfl).trans ?_
  refine (at_iload dc185_76 rfl).trans ?_
  refine (at_iload_n dc185_78 rfl).trans ?_
  refine (at_iload_n dc185_79 rfl).trans ?_
  exact at_inv dc185_80 mc185 lm6_246 rfl rfl (Nat.le_of_ble_eq_true rfl) (Or.inl ⟨(ly32 hL), by decide⟩)
theorem b185_83 {X : pm_X} {d : Nat} {x1 : Int32} {x2 : Int32} {x3 : Int32} {x4 : Int32} {x5 : Int32} {s0 : Int32} {s1 : Int32} {g : pm_G} {iv : pm_V} (hL : pm_lay g) : pm_at X d 185 (83, [some (.ref 32), some (.int x1), some (.int x2), some (.int x3), some (.int x4), some (.int x5)], [.int s0, .int s1], g, iv) = pm_then X d 185 89 [some (.ref 32), some (.int x1), some (.int x2), some (.int x3), some (.int x4), some (.int x5)] [.int s0, .int s1] (pm_c X d 158 [.ref 32, .int x1, .int 2] g iv) := by
  refine (at_aload_n dc185_83 rfl).trans ?_
  refine (at_iload_n dc185_84 rfl).trans ?_
  refine (at_iconst (v := 2) dc185_85 rfl).trans ?_
  exact at_inv dc185_86 mc185 lm6_187 rfl rfl (Nat.le_of_ble_eq_true rfl) (Or.inl ⟨(ly32 hL), by decide⟩)
theorem b185_89 {X : pm_X} {d : Nat} {x1 : Int32} {x2 : Int32} {x3 : Int32} {x4 : Int32} {x5 : Int32} {s0 : Int32} {s1 : Int32} {s2 : Int32} {g : pm_G} {iv : pm_V}  : pm_at X d 185 (89, [some (.ref 32), some (.int x1), some (.int x2), some (.int x3), some (.int x4), some (.int x5)], [.int s0, .int s1, .int s2], g, iv) = if ¬ s1 = s0 then pm_at X d 185 (99, [some (.ref 32), some (.int x1), some (.int x2), some (.int x3), some (.int x4), some (.int x5)], [.int s2], g, iv) else pm_at X d 185 (92, [some (.ref 32), some (.int x1), some (.int x2), some (.int x3), some (.int x4), some (.int x5)], [.int s2], g, iv) := by
  exact at_icmp_ne (t := 99) dc185_89 (by decide)
theorem b185_92 {X : pm_X} {d : Nat} {x1 : Int32} {x2 : Int32} {x3 : Int32} {x4 : Int32} {x5 : Int32} {s0 : Int32} {g : pm_G} {iv : pm_V}  : pm_at X d 185 (92, [some (.ref 32), some (.int x1), some (.int x2), some (.int x3), some (.int x4), some (.int x5)], [.int s0], g, iv) = pm_at X d 185 (100, [some (.ref 32), some (.int x1), some (.int x2), some (.int x3), some (.int x4), some (.int x5)], [.int (1 <<< (x5 &&& 31)), .int s0], g, iv) := by
  refine (at_iconst (v := 1) dc185_92 rfl).trans ?_
  refine (at_iload dc185_93 rfl).trans ?_
  refine (at_ishl dc185_95).trans ?_
  refine (at_goto (t := 100) dc185_96 (by decide)).trans ?_
  rfl
theorem b185_99 {X : pm_X} {d : Nat} {x1 : Int32} {x2 : Int32} {x3 : Int32} {x4 : Int32} {x5 : Int32} {s0 : Int32} {g : pm_G} {iv : pm_V}  : pm_at X d 185 (99, [some (.ref 32), some (.int x1), some (.int x2), some (.int x3), some (.int x4), some (.int x5)], [.int s0], g, iv) = pm_at X d 185 (100, [some (.ref 32), some (.int x1), some (.int x2), some (.int x3), some (.int x4), some (.int x5)], [.int 0, .int s0], g, iv) := by
  refine (at_iconst (v := 0) dc185_99 rfl).trans ?_
  rfl
theorem b185_100 {X : pm_X} {d : Nat} {x1 : Int32} {x2 : Int32} {x3 : Int32} {x4 : Int32} {x5 : Int32} {s0 : Int32} {s1 : Int32} {g : pm_G} {iv : pm_V}  : pm_at X d 185 (100, [some (.ref 32), some (.int x1), some (.int x2), some (.int x3), some (.int x4), some (.int x5)], [.int s0, .int s1], g, iv) = pm_at X d 185 (46, [some (.ref 32), some (.int x1), some (.int x2), some (.int x3), some (.int (s1 ||| s0)), some (.int (x5 + 1))], [], g, iv) := by
  refine (at_ior dc185_100).trans ?_
  refine (at_istore dc185_101 rfl).trans ?_
  refine (at_iinc (v := 1) dc185_103 rfl (by decide) rfl).trans ?_
  refine (at_goto (t := 46) dc185_106 (by decide)).trans ?_
  rfl
theorem b185_109 {X : pm_X} {d : Nat} {x1 : Int32} {x2 : Int32} {x3 : Int32} {x4 : Int32} {x5 : Int32} {g : pm_G} {iv : pm_V}  : pm_at X d 185 (109, [some (.ref 32), some (.int x1), some (.int x2), some (.int x3), some (.int x4), some (.int x5)], [], g, iv) = some (some (.int x4), g, iv) := by
  refine (at_iload dc185_109 rfl).trans ?_
  exact at_iret dc185_111 mr185
-- Mod.stolen (I)I
theorem dc186_0 : decode (pm_mb 186) 0 = .ok (.aload_n 0, 1) := by decide +kernel
theorem dc186_1 : decode (pm_mb 186) 1 = .ok (.iconst 0, 1) := by decide +kernel
theorem dc186_2 : decode (pm_mb 186) 2 = .ok (.putfield 50, 3) := by decide +kernel
theorem dc186_5 : decode (pm_mb 186) 5 = .ok (.aload_n 0, 1) := by decide +kernel
theorem dc186_6 : decode (pm_mb 186) 6 = .ok (.invokevirtual 205, 3) := by decide +kernel
theorem dc186_9 : decode (pm_mb 186) 9 = .ok (.ifCond .ne 6, 3) := by decide +kernel
theorem dc186_12 : decode (pm_mb 186) 12 = .ok (.ldc 209, 2) := by decide +kernel
theorem dc186_14 : decode (pm_mb 186) 14 = .ok (.ireturn, 1) := by decide +kernel
theorem dc186_15 : decode (pm_mb 186) 15 = .ok (.iload_n 1, 1) := by decide +kernel
theorem dc186_16 : decode (pm_mb 186) 16 = .ok (.invokestatic 64, 3) := by decide +kernel
theorem dc186_19 : decode (pm_mb 186) 19 = .ok (.ifCond .ne 6, 3) := by decide +kernel
theorem dc186_22 : decode (pm_mb 186) 22 = .ok (.ldc 70, 2) := by decide +kernel
theorem dc186_24 : decode (pm_mb 186) 24 = .ok (.ireturn, 1) := by decide +kernel
theorem dc186_25 : decode (pm_mb 186) 25 = .ok (.aload_n 0, 1) := by decide +kernel
theorem dc186_26 : decode (pm_mb 186) 26 = .ok (.getfield 7, 3) := by decide +kernel
theorem dc186_29 : decode (pm_mb 186) 29 = .ok (.iload_n 1, 1) := by decide +kernel
theorem dc186_30 : decode (pm_mb 186) 30 = .ok (.iaload, 1) := by decide +kernel
theorem dc186_31 : decode (pm_mb 186) 31 = .ok (.ifCond .ge 9, 3) := by decide +kernel
theorem dc186_34 : decode (pm_mb 186) 34 = .ok (.aload_n 0, 1) := by decide +kernel
theorem dc186_35 : decode (pm_mb 186) 35 = .ok (.iconst 1, 1) := by decide +kernel
theorem dc186_36 : decode (pm_mb 186) 36 = .ok (.invokevirtual 71, 3) := by decide +kernel
theorem dc186_39 : decode (pm_mb 186) 39 = .ok (.ireturn, 1) := by decide +kernel
theorem dc186_40 : decode (pm_mb 186) 40 = .ok (.aload_n 0, 1) := by decide +kernel
theorem dc186_41 : decode (pm_mb 186) 41 = .ok (.getfield 19, 3) := by decide +kernel
theorem dc186_44 : decode (pm_mb 186) 44 = .ok (.iconst 3, 1) := by decide +kernel
theorem dc186_45 : decode (pm_mb 186) 45 = .ok (.iaload, 1) := by decide +kernel
theorem dc186_46 : decode (pm_mb 186) 46 = .ok (.aload_n 0, 1) := by decide +kernel
theorem dc186_47 : decode (pm_mb 186) 47 = .ok (.getfield 13, 3) := by decide +kernel
theorem dc186_50 : decode (pm_mb 186) 50 = .ok (.iload_n 1, 1) := by decide +kernel
theorem dc186_51 : decode (pm_mb 186) 51 = .ok (.iaload, 1) := by decide +kernel
theorem dc186_52 : decode (pm_mb 186) 52 = .ok (.if_icmp .le 9, 3) := by decide +kernel
theorem dc186_55 : decode (pm_mb 186) 55 = .ok (.aload_n 0, 1) := by decide +kernel
theorem dc186_56 : decode (pm_mb 186) 56 = .ok (.iconst 2, 1) := by decide +kernel
theorem dc186_57 : decode (pm_mb 186) 57 = .ok (.invokevirtual 71, 3) := by decide +kernel
theorem dc186_60 : decode (pm_mb 186) 60 = .ok (.ireturn, 1) := by decide +kernel
theorem dc186_61 : decode (pm_mb 186) 61 = .ok (.iconst 0, 1) := by decide +kernel
theorem dc186_62 : decode (pm_mb 186) 62 = .ok (.istore_n 2, 1) := by decide +kernel
theorem dc186_63 : decode (pm_mb 186) 63 = .ok (.iload_n 2, 1) := by decide +kernel
theorem dc186_64 : decode (pm_mb 186) 64 = .ok (.aload_n 0, 1) := by decide +kernel
theorem dc186_65 : decode (pm_mb 186) 65 = .ok (.getfield 19, 3) := by decide +kernel
theorem dc186_68 : decode (pm_mb 186) 68 = .ok (.iconst 3, 1) := by decide +kernel
theorem dc186_69 : decode (pm_mb 186) 69 = .ok (.iaload, 1) := by decide +kernel
theorem dc186_70 : decode (pm_mb 186) 70 = .ok (.if_icmp .ge 40, 3) := by decide +kernel
theorem dc186_73 : decode (pm_mb 186) 73 = .ok (.aload_n 0, 1) := by decide +kernel
theorem dc186_74 : decode (pm_mb 186) 74 = .ok (.getfield 16, 3) := by decide +kernel
theorem dc186_77 : decode (pm_mb 186) 77 = .ok (.bipush 40, 2) := by decide +kernel
theorem dc186_79 : decode (pm_mb 186) 79 = .ok (.iload_n 1, 1) := by decide +kernel
theorem dc186_80 : decode (pm_mb 186) 80 = .ok (.imul, 1) := by decide +kernel
theorem dc186_81 : decode (pm_mb 186) 81 = .ok (.iload_n 2, 1) := by decide +kernel
theorem dc186_82 : decode (pm_mb 186) 82 = .ok (.iadd, 1) := by decide +kernel
theorem dc186_83 : decode (pm_mb 186) 83 = .ok (.iaload, 1) := by decide +kernel
theorem dc186_84 : decode (pm_mb 186) 84 = .ok (.i2l, 1) := by decide +kernel
theorem dc186_85 : decode (pm_mb 186) 85 = .ok (.lconst 0, 1) := by decide +kernel
theorem dc186_86 : decode (pm_mb 186) 86 = .ok (.aload_n 0, 1) := by decide +kernel
theorem dc186_87 : decode (pm_mb 186) 87 = .ok (.getfield 19, 3) := by decide +kernel
theorem dc186_90 : decode (pm_mb 186) 90 = .ok (.iconst 1, 1) := by decide +kernel
theorem dc186_91 : decode (pm_mb 186) 91 = .ok (.iaload, 1) := by decide +kernel
theorem dc186_92 : decode (pm_mb 186) 92 = .ok (.iconst 1, 1) := by decide +kernel
theorem dc186_93 : decode (pm_mb 186) 93 = .ok (.isub, 1) := by decide +kernel
theorem dc186_94 : decode (pm_mb 186) 94 = .ok (.i2l, 1) := by decide +kernel
theorem dc186_95 : decode (pm_mb 186) 95 = .ok (.invokestatic 60, 3) := by decide +kernel
theorem dc186_98 : decode (pm_mb 186) 98 = .ok (.ifCond .ne 6, 3) := by decide +kernel
theorem dc186_101 : decode (pm_mb 186) 101 = .ok (.ldc 70, 2) := by decide +kernel
theorem dc186_103 : decode (pm_mb 186) 103 = .ok (.ireturn, 1) := by decide +kernel
theorem dc186_104 : decode (pm_mb 186) 104 = .ok (.iinc 2 1, 3) := by decide +kernel
theorem dc186_107 : decode (pm_mb 186) 107 = .ok (.goto (-44), 3) := by decide +kernel
theorem dc186_110 : decode (pm_mb 186) 110 = .ok (.aload_n 0, 1) := by decide +kernel
theorem dc186_111 : decode (pm_mb 186) 111 = .ok (.iconst 0, 1) := by decide +kernel
theorem dc186_112 : decode (pm_mb 186) 112 = .ok (.putfield 54, 3) := by decide +kernel
theorem dc186_115 : decode (pm_mb 186) 115 = .ok (.iconst 0, 1) := by decide +kernel
theorem dc186_116 : decode (pm_mb 186) 116 = .ok (.istore_n 2, 1) := by decide +kernel
theorem dc186_117 : decode (pm_mb 186) 117 = .ok (.iload_n 2, 1) := by decide +kernel
theorem dc186_118 : decode (pm_mb 186) 118 = .ok (.iconst 1, 1) := by decide +kernel
theorem dc186_119 : decode (pm_mb 186) 119 = .ok (.aload_n 0, 1) := by decide +kernel
theorem dc186_120 : decode (pm_mb 186) 120 = .ok (.getfield 19, 3) := by decide +kernel
theorem dc186_123 : decode (pm_mb 186) 123 = .ok (.iconst 3, 1) := by decide +kernel
theorem dc186_124 : decode (pm_mb 186) 124 = .ok (.iaload, 1) := by decide +kernel
theorem dc186_125 : decode (pm_mb 186) 125 = .ok (.ishl, 1) := by decide +kernel
theorem dc186_126 : decode (pm_mb 186) 126 = .ok (.if_icmp .ge 20, 3) := by decide +kernel
theorem dc186_129 : decode (pm_mb 186) 129 = .ok (.aload_n 0, 1) := by decide +kernel
theorem dc186_130 : decode (pm_mb 186) 130 = .ok (.iload_n 1, 1) := by decide +kernel
theorem dc186_131 : decode (pm_mb 186) 131 = .ok (.iload_n 2, 1) := by decide +kernel
theorem dc186_132 : decode (pm_mb 186) 132 = .ok (.invokevirtual 250, 3) := by decide +kernel
theorem dc186_135 : decode (pm_mb 186) 135 = .ok (.ifCond .eq 5, 3) := by decide +kernel
theorem dc186_138 : decode (pm_mb 186) 138 = .ok (.iload_n 2, 1) := by decide +kernel
theorem dc186_139 : decode (pm_mb 186) 139 = .ok (.ireturn, 1) := by decide +kernel
theorem dc186_140 : decode (pm_mb 186) 140 = .ok (.iinc 2 1, 3) := by decide +kernel
theorem dc186_143 : decode (pm_mb 186) 143 = .ok (.goto (-26), 3) := by decide +kernel
theorem dc186_146 : decode (pm_mb 186) 146 = .ok (.ldc 86, 2) := by decide +kernel
theorem dc186_148 : decode (pm_mb 186) 148 = .ok (.ireturn, 1) := by decide +kernel
theorem b186_0 {X : pm_X} {d : Nat} {x1 : Int32} {g : pm_G} {iv : pm_V} (hL : pm_lay g) : pm_at X d 186 (0, [some (.ref 32), some (.int x1), none], [], g, iv) = pm_then X d 186 9 [some (.ref 32), some (.int x1), none] [] (pm_c X d 155 [.ref 32] g (pm_iw iv 32 0 0)) := by
  refine (at_aload_n dc186_0 rfl).trans ?_
  refine (at_iconst (v := 0) dc186_1 rfl).trans ?_
  refine (at_pfI dc186_2 mc186 lf6_50 po6_0 (ly32 hL)).trans ?_
  refine (at_aload_n dc186_5 rfl).trans ?_
  exact at_inv dc186_6 mc186 lm6_205 rfl rfl (Nat.le_of_ble_eq_true rfl) (Or.inl ⟨(ly32 hL), by decide⟩)
theorem b186_9 {X : pm_X} {d : Nat} {x1 : Int32} {s0 : Int32} {g : pm_G} {iv : pm_V}  : pm_at X d 186 (9, [some (.ref 32), some (.int x1), none], [.int s0], g, iv) = if ¬ s0 = 0 then pm_at X d 186 (15, [some (.ref 32), some (.int x1), none], [], g, iv) else pm_at X d 186 (12, [some (.ref 32), some (.int x1), none], [], g, iv) := by
  exact at_if_ne (t := 15) dc186_9 (by decide)
theorem b186_12 {X : pm_X} {d : Nat} {x1 : Int32} {g : pm_G} {iv : pm_V}  : pm_at X d 186 (12, [some (.ref 32), some (.int x1), none], [], g, iv) = some (some (.int (-1000002)), g, iv) := by
  refine (at_ldc dc186_12 mc186 lk6_209).trans ?_
  exact at_iret dc186_14 mr186
theorem b186_15 {X : pm_X} {d : Nat} {x1 : Int32} {g : pm_G} {iv : pm_V}  : pm_at X d 186 (15, [some (.ref 32), some (.int x1), none], [], g, iv) = pm_then X d 186 19 [some (.ref 32), some (.int x1), none] [] (pm_c X d 131 [.int x1] g iv) := by
  refine (at_iload_n dc186_15 rfl).trans ?_
  exact at_ins dc186_16 mc186 lm6_64 (Nat.le_of_ble_eq_true rfl) rfl rfl (Nat.le_of_ble_eq_true rfl)
theorem b186_19 {X : pm_X} {d : Nat} {x1 : Int32} {s0 : Int32} {g : pm_G} {iv : pm_V}  : pm_at X d 186 (19, [some (.ref 32), some (.int x1), none], [.int s0], g, iv) = if ¬ s0 = 0 then pm_at X d 186 (25, [some (.ref 32), some (.int x1), none], [], g, iv) else pm_at X d 186 (22, [some (.ref 32), some (.int x1), none], [], g, iv) := by
  exact at_if_ne (t := 25) dc186_19 (by decide)
theorem b186_22 {X : pm_X} {d : Nat} {x1 : Int32} {g : pm_G} {iv : pm_V}  : pm_at X d 186 (22, [some (.ref 32), some (.int x1), none], [], g, iv) = some (some (.int (-1000001)), g, iv) := by
  refine (at_ldc dc186_22 mc186 lk6_70).trans ?_
  exact at_iret dc186_24 mr186
theorem b186_25 {X : pm_X} {d : Nat} {x1 : Int32} {g : pm_G} {iv : pm_V} (hL : pm_lay g) (i1 : vp_in x1 8) : pm_at X d 186 (25, [some (.ref 32), some (.int x1), none], [], g, iv) = if 0 ≤ (iv 33 (x1 : Int32).toNatClampNeg) then pm_at X d 186 (40, [some (.ref 32), some (.int x1), none], [], g, iv) else pm_at X d 186 (34, [some (.ref 32), some (.int x1), none], [], g, iv) := by
  refine (at_aload_n dc186_25 rfl).trans ?_
  refine (at_gfR dc186_26 mc186 lf6_7 fo6_2 (ly32 hL) (lr32_2 hL)).trans ?_
  refine (at_iload_n dc186_29 rfl).trans ?_
  refine (at_iald dc186_30 (ly33 hL) i1).trans ?_
  exact at_if_ge (t := 40) dc186_31 (by decide)
theorem b186_34 {X : pm_X} {d : Nat} {x1 : Int32} {g : pm_G} {iv : pm_V} (hL : pm_lay g) : pm_at X d 186 (34, [some (.ref 32), some (.int x1), none], [], g, iv) = pm_then X d 186 39 [some (.ref 32), some (.int x1), none] [] (pm_c X d 130 [.ref 32, .int 1] g iv) := by
  refine (at_aload_n dc186_34 rfl).trans ?_
  refine (at_iconst (v := 1) dc186_35 rfl).trans ?_
  exact at_inv dc186_36 mc186 lm6_71 rfl rfl (Nat.le_of_ble_eq_true rfl) (Or.inl ⟨(ly32 hL), by decide⟩)
theorem b186_39 {X : pm_X} {d : Nat} {x1 : Int32} {s0 : Int32} {g : pm_G} {iv : pm_V}  : pm_at X d 186 (39, [some (.ref 32), some (.int x1), none], [.int s0], g, iv) = some (some (.int s0), g, iv) := by
  exact at_iret dc186_39 mr186
theorem b186_40 {X : pm_X} {d : Nat} {x1 : Int32} {g : pm_G} {iv : pm_V} (hL : pm_lay g) (i1 : vp_in x1 8) : pm_at X d 186 (40, [some (.ref 32), some (.int x1), none], [], g, iv) = if (iv 36 3) ≤ (iv 34 (x1 : Int32).toNatClampNeg) then pm_at X d 186 (61, [some (.ref 32), some (.int x1), none], [], g, iv) else pm_at X d 186 (55, [some (.ref 32), some (.int x1), none], [], g, iv) := by
  refine (at_aload_n dc186_40 rfl).trans ?_
  refine (at_gfR dc186_41 mc186 lf6_19 fo6_5 (ly32 hL) (lr32_5 hL)).trans ?_
  refine (at_iconst (v := 3) dc186_44 rfl).trans ?_
  refine (at_iald dc186_45 (ly36 hL) (vp_in_nI (n := 3) (by decide) (by decide))).trans ?_
  refine (at_aload_n dc186_46 rfl).trans ?_
  refine (at_gfR dc186_47 mc186 lf6_13 fo6_3 (ly32 hL) (lr32_3 hL)).trans ?_
  refine (at_iload_n dc186_50 rfl).trans ?_
  refine (at_iald dc186_51 (ly34 hL) i1).trans ?_
  exact at_icmp_le (t := 61) dc186_52 (by decide)
theorem b186_55 {X : pm_X} {d : Nat} {x1 : Int32} {g : pm_G} {iv : pm_V} (hL : pm_lay g) : pm_at X d 186 (55, [some (.ref 32), some (.int x1), none], [], g, iv) = pm_then X d 186 60 [some (.ref 32), some (.int x1), none] [] (pm_c X d 130 [.ref 32, .int 2] g iv) := by
  refine (at_aload_n dc186_55 rfl).trans ?_
  refine (at_iconst (v := 2) dc186_56 rfl).trans ?_
  exact at_inv dc186_57 mc186 lm6_71 rfl rfl (Nat.le_of_ble_eq_true rfl) (Or.inl ⟨(ly32 hL), by decide⟩)
theorem b186_60 {X : pm_X} {d : Nat} {x1 : Int32} {s0 : Int32} {g : pm_G} {iv : pm_V}  : pm_at X d 186 (60, [some (.ref 32), some (.int x1), none], [.int s0], g, iv) = some (some (.int s0), g, iv) := by
  exact at_iret dc186_60 mr186
theorem b186_61 {X : pm_X} {d : Nat} {x1 : Int32} {g : pm_G} {iv : pm_V}  : pm_at X d 186 (61, [some (.ref 32), some (.int x1), none], [], g, iv) = pm_at X d 186 (63, [some (.ref 32), some (.int x1), some (.int 0)], [], g, iv) := by
  refine (at_iconst (v := 0) dc186_61 rfl).trans ?_
  refine (at_istore_n dc186_62 rfl).trans ?_
  rfl
theorem b186_63 {X : pm_X} {d : Nat} {x1 : Int32} {x2 : Int32} {g : pm_G} {iv : pm_V} (hL : pm_lay g) : pm_at X d 186 (63, [some (.ref 32), some (.int x1), some (.int x2)], [], g, iv) = if (iv 36 3) ≤ x2 then pm_at X d 186 (110, [some (.ref 32), some (.int x1), some (.int x2)], [], g, iv) else pm_at X d 186 (73, [some (.ref 32), some (.int x1), some (.int x2)], [], g, iv) := by
  refine (at_iload_n dc186_63 rfl).trans ?_
  refine (at_aload_n dc186_64 rfl).trans ?_
  refine (at_gfR dc186_65 mc186 lf6_19 fo6_5 (ly32 hL) (lr32_5 hL)).trans ?_
  refine (at_iconst (v := 3) dc186_68 rfl).trans ?_
  refine (at_iald dc186_69 (ly36 hL) (vp_in_nI (n := 3) (by decide) (by decide))).trans ?_
  exact at_icmp_ge (t := 110) dc186_70 (by decide)
theorem b186_73 {X : pm_X} {d : Nat} {x1 : Int32} {x2 : Int32} {g : pm_G} {iv : pm_V} (hL : pm_lay g) (i1 : vp_in (((40 * x1) + x2)) 320) : pm_at X d 186 (73, [some (.ref 32), some (.int x1), some (.int x2)], [], g, iv) = pm_then X d 186 98 [some (.ref 32), some (.int x1), some (.int x2)] [] (pm_c X d 129 [.long ((iv 35 (((40 * x1) + x2) : Int32).toNatClampNeg) : Int32).toInt64, .long 0, .long (((iv 36 1) - 1) : Int32).toInt64] g iv) := by
  refine (at_aload_n dc186_73 rfl).trans ?_
  refine (at_gfR dc186_74 mc186 lf6_16 fo6_4 (ly32 hL) (lr32_4 hL)).trans ?_
  refine (at_bipush (v := 40) dc186_77 (by decide)).trans ?_
  refine (at_iload_n dc186_79 rfl).trans ?_
  refine (at_imul dc186_80).trans ?_
  refine (at_iload_n dc186_81 rfl).trans ?_
  refine (at_iadd dc186_82).trans ?_
  refine (at_iald dc186_83 (ly35 hL) i1).trans ?_
  refine (at_i2l dc186_84).trans ?_
  refine (at_lconst (v := 0) dc186_85 (by decide)).trans ?_
  refine (at_aload_n dc186_86 rfl).trans ?_
  refine (at_gfR dc186_87 mc186 lf6_19 fo6_5 (ly32 hL) (lr32_5 hL)).trans ?_
  refine (at_iconst (v := 1) dc186_90 rfl).trans ?_
  refine (at_iald dc186_91 (ly36 hL) (vp_in_nI (n := 1) (by decide) (by decide))).trans ?_
  refine (at_iconst (v := 1) dc186_92 rfl).trans ?_
  refine (at_isub dc186_93).trans ?_
  refine (at_i2l dc186_94).trans ?_
  exact at_ins dc186_95 mc186 lm6_60 (Nat.le_of_ble_eq_true rfl) rfl rfl (Nat.le_of_ble_eq_true rfl)
theorem b186_98 {X : pm_X} {d : Nat} {x1 : Int32} {x2 : Int32} {s0 : Int32} {g : pm_G} {iv : pm_V}  : pm_at X d 186 (98, [some (.ref 32), some (.int x1), some (.int x2)], [.int s0], g, iv) = if ¬ s0 = 0 then pm_at X d 186 (104, [some (.ref 32), some (.int x1), some (.int x2)], [], g, iv) else pm_at X d 186 (101, [some (.ref 32), some (.int x1), some (.int x2)], [], g, iv) := by
  exact at_if_ne (t := 104) dc186_98 (by decide)
theorem b186_101 {X : pm_X} {d : Nat} {x1 : Int32} {x2 : Int32} {g : pm_G} {iv : pm_V}  : pm_at X d 186 (101, [some (.ref 32), some (.int x1), some (.int x2)], [], g, iv) = some (some (.int (-1000001)), g, iv) := by
  refine (at_ldc dc186_101 mc186 lk6_70).trans ?_
  exact at_iret dc186_103 mr186
theorem b186_104 {X : pm_X} {d : Nat} {x1 : Int32} {x2 : Int32} {g : pm_G} {iv : pm_V}  : pm_at X d 186 (104, [some (.ref 32), some (.int x1), some (.int x2)], [], g, iv) = pm_at X d 186 (63, [some (.ref 32), some (.int x1), some (.int (x2 + 1))], [], g, iv) := by
  refine (at_iinc (v := 1) dc186_104 rfl (by decide) rfl).trans ?_
  refine (at_goto (t := 63) dc186_107 (by decide)).trans ?_
  rfl
theorem b186_110 {X : pm_X} {d : Nat} {x1 : Int32} {x2 : Int32} {g : pm_G} {iv : pm_V} (hL : pm_lay g) : pm_at X d 186 (110, [some (.ref 32), some (.int x1), some (.int x2)], [], g, iv) = pm_at X d 186 (117, [some (.ref 32), some (.int x1), some (.int 0)], [], g, (pm_iw iv 32 1 0)) := by
  refine (at_aload_n dc186_110 rfl).trans ?_
  refine (at_iconst (v := 0) dc186_111 rfl).trans ?_
  refine (at_pfI dc186_112 mc186 lf6_54 po6_1 (ly32 hL)).trans ?_
  refine (at_iconst (v := 0) dc186_115 rfl).trans ?_
  refine (at_istore_n dc186_116 rfl).trans ?_
  rfl
theorem b186_117 {X : pm_X} {d : Nat} {x1 : Int32} {x2 : Int32} {g : pm_G} {iv : pm_V} (hL : pm_lay g) : pm_at X d 186 (117, [some (.ref 32), some (.int x1), some (.int x2)], [], g, iv) = if (1 <<< ((iv 36 3) &&& 31)) ≤ x2 then pm_at X d 186 (146, [some (.ref 32), some (.int x1), some (.int x2)], [], g, iv) else pm_at X d 186 (129, [some (.ref 32), some (.int x1), some (.int x2)], [], g, iv) := by
  refine (at_iload_n dc186_117 rfl).trans ?_
  refine (at_iconst (v := 1) dc186_118 rfl).trans ?_
  refine (at_aload_n dc186_119 rfl).trans ?_
  refine (at_gfR dc186_120 mc186 lf6_19 fo6_5 (ly32 hL) (lr32_5 hL)).trans ?_
  refine (at_iconst (v := 3) dc186_123 rfl).trans ?_
  refine (at_iald dc186_124 (ly36 hL) (vp_in_nI (n := 3) (by decide) (by decide))).trans ?_
  refine (at_ishl dc186_125).trans ?_
  exact at_icmp_ge (t := 146) dc186_126 (by decide)
theorem b186_129 {X : pm_X} {d : Nat} {x1 : Int32} {x2 : Int32} {g : pm_G} {iv : pm_V} (hL : pm_lay g) : pm_at X d 186 (129, [some (.ref 32), some (.int x1), some (.int x2)], [], g, iv) = pm_then X d 186 135 [some (.ref 32), some (.int x1), some (.int x2)] [] (pm_c X d 187 [.ref 32, .int x1, .int x2] g iv) := by
  refine (at_aload_n dc186_129 rfl).trans ?_
  refine (at_iload_n dc186_130 rfl).trans ?_
  refine (at_iload_n dc186_131 rfl).trans ?_
  exact at_inv dc186_132 mc186 lm6_250 rfl rfl (Nat.le_of_ble_eq_true rfl) (Or.inl ⟨(ly32 hL), by decide⟩)
theorem b186_135 {X : pm_X} {d : Nat} {x1 : Int32} {x2 : Int32} {s0 : Int32} {g : pm_G} {iv : pm_V}  : pm_at X d 186 (135, [some (.ref 32), some (.int x1), some (.int x2)], [.int s0], g, iv) = if s0 = 0 then pm_at X d 186 (140, [some (.ref 32), some (.int x1), some (.int x2)], [], g, iv) else pm_at X d 186 (138, [some (.ref 32), some (.int x1), some (.int x2)], [], g, iv) := by
  exact at_if_eq (t := 140) dc186_135 (by decide)
theorem b186_138 {X : pm_X} {d : Nat} {x1 : Int32} {x2 : Int32} {g : pm_G} {iv : pm_V}  : pm_at X d 186 (138, [some (.ref 32), some (.int x1), some (.int x2)], [], g, iv) = some (some (.int x2), g, iv) := by
  refine (at_iload_n dc186_138 rfl).trans ?_
  exact at_iret dc186_139 mr186
theorem b186_140 {X : pm_X} {d : Nat} {x1 : Int32} {x2 : Int32} {g : pm_G} {iv : pm_V}  : pm_at X d 186 (140, [some (.ref 32), some (.int x1), some (.int x2)], [], g, iv) = pm_at X d 186 (117, [some (.ref 32), some (.int x1), some (.int (x2 + 1))], [], g, iv) := by
  refine (at_iinc (v := 1) dc186_140 rfl (by decide) rfl).trans ?_
  refine (at_goto (t := 117) dc186_143 (by decide)).trans ?_
  rfl
theorem b186_146 {X : pm_X} {d : Nat} {x1 : Int32} {x2 : Int32} {g : pm_G} {iv : pm_V}  : pm_at X d 186 (146, [some (.ref 32), some (.int x1), some (.int x2)], [], g, iv) = some (some (.int (-1000000)), g, iv) := by
  refine (at_ldc dc186_146 mc186 lk6_86).trans ?_
  exact at_iret dc186_148 mr186
-- Mod.comesSo (II)Z
theorem dc187_0 : decode (pm_mb 187) 0 = .ok (.aload_n 0, 1) := by decide +kernel
theorem dc187_1 : decode (pm_mb 187) 1 = .ok (.invokevirtual 213, 3) := by decide +kernel
theorem dc187_4 : decode (pm_mb 187) 4 = .ok (.iconst 1, 1) := by decide +kernel
theorem dc187_5 : decode (pm_mb 187) 5 = .ok (.istore_n 3, 1) := by decide +kernel
theorem dc187_6 : decode (pm_mb 187) 6 = .ok (.iconst 0, 1) := by decide +kernel
theorem dc187_7 : decode (pm_mb 187) 7 = .ok (.istore 4, 2) := by decide +kernel
theorem dc187_9 : decode (pm_mb 187) 9 = .ok (.iload 4, 2) := by decide +kernel
theorem dc187_11 : decode (pm_mb 187) 11 = .ok (.aload_n 0, 1) := by decide +kernel
theorem dc187_12 : decode (pm_mb 187) 12 = .ok (.getfield 19, 3) := by decide +kernel
theorem dc187_15 : decode (pm_mb 187) 15 = .ok (.iconst 3, 1) := by decide +kernel
theorem dc187_16 : decode (pm_mb 187) 16 = .ok (.iaload, 1) := by decide +kernel
theorem dc187_17 : decode (pm_mb 187) 17 = .ok (.if_icmp .ge 67, 3) := by decide +kernel
theorem dc187_20 : decode (pm_mb 187) 20 = .ok (.iload_n 3, 1) := by decide +kernel
theorem dc187_21 : decode (pm_mb 187) 21 = .ok (.ifCond .eq 27, 3) := by decide +kernel
theorem dc187_24 : decode (pm_mb 187) 24 = .ok (.iload_n 2, 1) := by decide +kernel
theorem dc187_25 : decode (pm_mb 187) 25 = .ok (.iload 4, 2) := by decide +kernel
theorem dc187_27 : decode (pm_mb 187) 27 = .ok (.ishr, 1) := by decide +kernel
theorem dc187_28 : decode (pm_mb 187) 28 = .ok (.iconst 1, 1) := by decide +kernel
theorem dc187_29 : decode (pm_mb 187) 29 = .ok (.iand, 1) := by decide +kernel
theorem dc187_30 : decode (pm_mb 187) 30 = .ok (.ifCond .eq 14, 3) := by decide +kernel
theorem dc187_33 : decode (pm_mb 187) 33 = .ok (.aload_n 0, 1) := by decide +kernel
theorem dc187_34 : decode (pm_mb 187) 34 = .ok (.getfield 34, 3) := by decide +kernel
theorem dc187_37 : decode (pm_mb 187) 37 = .ok (.iload 4, 2) := by decide +kernel
theorem dc187_39 : decode (pm_mb 187) 39 = .ok (.iaload, 1) := by decide +kernel
theorem dc187_40 : decode (pm_mb 187) 40 = .ok (.iconst 1, 1) := by decide +kernel
theorem dc187_41 : decode (pm_mb 187) 41 = .ok (.if_icmp .ne 7, 3) := by decide +kernel
theorem dc187_44 : decode (pm_mb 187) 44 = .ok (.iconst 1, 1) := by decide +kernel
theorem dc187_45 : decode (pm_mb 187) 45 = .ok (.goto 4, 3) := by decide +kernel
theorem dc187_48 : decode (pm_mb 187) 48 = .ok (.iconst 0, 1) := by decide +kernel
theorem dc187_49 : decode (pm_mb 187) 49 = .ok (.istore_n 3, 1) := by decide +kernel
theorem dc187_50 : decode (pm_mb 187) 50 = .ok (.aload_n 0, 1) := by decide +kernel
theorem dc187_51 : decode (pm_mb 187) 51 = .ok (.getfield 34, 3) := by decide +kernel
theorem dc187_54 : decode (pm_mb 187) 54 = .ok (.iload 4, 2) := by decide +kernel
theorem dc187_56 : decode (pm_mb 187) 56 = .ok (.iload_n 2, 1) := by decide +kernel
theorem dc187_57 : decode (pm_mb 187) 57 = .ok (.iload 4, 2) := by decide +kernel
theorem dc187_59 : decode (pm_mb 187) 59 = .ok (.ishr, 1) := by decide +kernel
theorem dc187_60 : decode (pm_mb 187) 60 = .ok (.iconst 1, 1) := by decide +kernel
theorem dc187_61 : decode (pm_mb 187) 61 = .ok (.iand, 1) := by decide +kernel
theorem dc187_62 : decode (pm_mb 187) 62 = .ok (.iconst 1, 1) := by decide +kernel
theorem dc187_63 : decode (pm_mb 187) 63 = .ok (.if_icmp .ne 7, 3) := by decide +kernel
theorem dc187_66 : decode (pm_mb 187) 66 = .ok (.iconst 0, 1) := by decide +kernel
theorem dc187_67 : decode (pm_mb 187) 67 = .ok (.goto 10, 3) := by decide +kernel
theorem dc187_70 : decode (pm_mb 187) 70 = .ok (.aload_n 0, 1) := by decide +kernel
theorem dc187_71 : decode (pm_mb 187) 71 = .ok (.getfield 34, 3) := by decide +kernel
theorem dc187_74 : decode (pm_mb 187) 74 = .ok (.iload 4, 2) := by decide +kernel
theorem dc187_76 : decode (pm_mb 187) 76 = .ok (.iaload, 1) := by decide +kernel
theorem dc187_77 : decode (pm_mb 187) 77 = .ok (.iastore, 1) := by decide +kernel
theorem dc187_78 : decode (pm_mb 187) 78 = .ok (.iinc 4 1, 3) := by decide +kernel
theorem dc187_81 : decode (pm_mb 187) 81 = .ok (.goto (-72), 3) := by decide +kernel
theorem dc187_84 : decode (pm_mb 187) 84 = .ok (.aload_n 0, 1) := by decide +kernel
theorem dc187_85 : decode (pm_mb 187) 85 = .ok (.aload_n 0, 1) := by decide +kernel
theorem dc187_86 : decode (pm_mb 187) 86 = .ok (.getfield 19, 3) := by decide +kernel
theorem dc187_89 : decode (pm_mb 187) 89 = .ok (.iconst 4, 1) := by decide +kernel
theorem dc187_90 : decode (pm_mb 187) 90 = .ok (.iaload, 1) := by decide +kernel
theorem dc187_91 : decode (pm_mb 187) 91 = .ok (.invokevirtual 216, 3) := by decide +kernel
theorem dc187_94 : decode (pm_mb 187) 94 = .ok (.iconst 0, 1) := by decide +kernel
theorem dc187_95 : decode (pm_mb 187) 95 = .ok (.istore 4, 2) := by decide +kernel
theorem dc187_97 : decode (pm_mb 187) 97 = .ok (.iload 4, 2) := by decide +kernel
theorem dc187_99 : decode (pm_mb 187) 99 = .ok (.aload_n 0, 1) := by decide +kernel
theorem dc187_100 : decode (pm_mb 187) 100 = .ok (.getfield 19, 3) := by decide +kernel
theorem dc187_103 : decode (pm_mb 187) 103 = .ok (.iconst 3, 1) := by decide +kernel
theorem dc187_104 : decode (pm_mb 187) 104 = .ok (.iaload, 1) := by decide +kernel
theorem dc187_105 : decode (pm_mb 187) 105 = .ok (.if_icmp .ge 41, 3) := by decide +kernel
theorem dc187_108 : decode (pm_mb 187) 108 = .ok (.iload_n 3, 1) := by decide +kernel
theorem dc187_109 : decode (pm_mb 187) 109 = .ok (.ifCond .eq 29, 3) := by decide +kernel
theorem dc187_112 : decode (pm_mb 187) 112 = .ok (.aload_n 0, 1) := by decide +kernel
theorem dc187_113 : decode (pm_mb 187) 113 = .ok (.getfield 31, 3) := by decide +kernel
theorem dc187_116 : decode (pm_mb 187) 116 = .ok (.iload 4, 2) := by decide +kernel
theorem dc187_118 : decode (pm_mb 187) 118 = .ok (.iaload, 1) := by decide +kernel
theorem dc187_119 : decode (pm_mb 187) 119 = .ok (.aload_n 0, 1) := by decide +kernel
theorem dc187_120 : decode (pm_mb 187) 120 = .ok (.getfield 16, 3) := by decide +kernel
theorem dc187_123 : decode (pm_mb 187) 123 = .ok (.bipush 40, 2) := by decide +kernel
theorem dc187_125 : decode (pm_mb 187) 125 = .ok (.iload_n 1, 1) := by decide +kernel
theorem dc187_126 : decode (pm_mb 187) 126 = .ok (.imul, 1) := by decide +kernel
theorem dc187_127 : decode (pm_mb 187) 127 = .ok (.iload 4, 2) := by decide +kernel
theorem dc187_129 : decode (pm_mb 187) 129 = .ok (.iadd, 1) := by decide +kernel
theorem dc187_130 : decode (pm_mb 187) 130 = .ok (.iaload, 1) := by decide +kernel
theorem dc187_131 : decode (pm_mb 187) 131 = .ok (.if_icmp .ne 7, 3) := by decide +kernel
theorem dc187_134 : decode (pm_mb 187) 134 = .ok (.iconst 1, 1) := by decide +kernel
theorem dc187_135 : decode (pm_mb 187) 135 = .ok (.goto 4, 3) := by decide +kernel
theorem dc187_138 : decode (pm_mb 187) 138 = .ok (.iconst 0, 1) := by decide +kernel
theorem dc187_139 : decode (pm_mb 187) 139 = .ok (.istore_n 3, 1) := by decide +kernel
theorem dc187_140 : decode (pm_mb 187) 140 = .ok (.iinc 4 1, 3) := by decide +kernel
theorem dc187_143 : decode (pm_mb 187) 143 = .ok (.goto (-46), 3) := by decide +kernel
theorem dc187_146 : decode (pm_mb 187) 146 = .ok (.iload_n 3, 1) := by decide +kernel
theorem dc187_147 : decode (pm_mb 187) 147 = .ok (.ireturn, 1) := by decide +kernel
theorem b187_0 {X : pm_X} {d : Nat} {x1 : Int32} {x2 : Int32} {g : pm_G} {iv : pm_V} (hL : pm_lay g) : pm_at X d 187 (0, [some (.ref 32), some (.int x1), some (.int x2), none, none], [], g, iv) = pm_then X d 187 4 [some (.ref 32), some (.int x1), some (.int x2), none, none] [] (pm_c X d 160 [.ref 32] g iv) := by
  refine (at_aload_n dc187_0 rfl).trans ?_
  exact at_inv dc187_1 mc187 lm6_213 rfl rfl (Nat.le_of_ble_eq_true rfl) (Or.inl ⟨(ly32 hL), by decide⟩)
theorem b187_4 {X : pm_X} {d : Nat} {x1 : Int32} {x2 : Int32} {g : pm_G} {iv : pm_V}  : pm_at X d 187 (4, [some (.ref 32), some (.int x1), some (.int x2), none, none], [], g, iv) = pm_at X d 187 (9, [some (.ref 32), some (.int x1), some (.int x2), some (.int 1), some (.int 0)], [], g, iv) := by
  refine (at_iconst (v := 1) dc187_4 rfl).trans ?_
  refine (at_istore_n dc187_5 rfl).trans ?_
  refine (at_iconst (v := 0) dc187_6 rfl).trans ?_
  refine (at_istore dc187_7 rfl).trans ?_
  rfl
theorem b187_9 {X : pm_X} {d : Nat} {x1 : Int32} {x2 : Int32} {x3 : Int32} {x4 : Int32} {g : pm_G} {iv : pm_V} (hL : pm_lay g) : pm_at X d 187 (9, [some (.ref 32), some (.int x1), some (.int x2), some (.int x3), some (.int x4)], [], g, iv) = if (iv 36 3) ≤ x4 then pm_at X d 187 (84, [some (.ref 32), some (.int x1), some (.int x2), some (.int x3), some (.int x4)], [], g, iv) else pm_at X d 187 (20, [some (.ref 32), some (.int x1), some (.int x2), some (.int x3), some (.int x4)], [], g, iv) := by
  refine (at_iload dc187_9 rfl).trans ?_
  refine (at_aload_n dc187_11 rfl).trans ?_
  refine (at_gfR dc187_12 mc187 lf6_19 fo6_5 (ly32 hL) (lr32_5 hL)).trans ?_
  refine (at_iconst (v := 3) dc187_15 rfl).trans ?_
  refine (at_iald dc187_16 (ly36 hL) (vp_in_nI (n := 3) (by decide) (by decide))).trans ?_
  exact at_icmp_ge (t := 84) dc187_17 (by decide)
theorem b187_20 {X : pm_X} {d : Nat} {x1 : Int32} {x2 : Int32} {x3 : Int32} {x4 : Int32} {g : pm_G} {iv : pm_V}  : pm_at X d 187 (20, [some (.ref 32), some (.int x1), some (.int x2), some (.int x3), some (.int x4)], [], g, iv) = if x3 = 0 then pm_at X d 187 (48, [some (.ref 32), some (.int x1), some (.int x2), some (.int x3), some (.int x4)], [], g, iv) else pm_at X d 187 (24, [some (.ref 32), some (.int x1), some (.int x2), some (.int x3), some (.int x4)], [], g, iv) := by
  refine (at_iload_n dc187_20 rfl).trans ?_
  exact at_if_eq (t := 48) dc187_21 (by decide)
theorem b187_24 {X : pm_X} {d : Nat} {x1 : Int32} {x2 : Int32} {x3 : Int32} {x4 : Int32} {g : pm_G} {iv : pm_V}  : pm_at X d 187 (24, [some (.ref 32), some (.int x1), some (.int x2), some (.int x3), some (.int x4)], [], g, iv) = if ((x2 >>> (x4 &&& 31)) &&& 1) = 0 then pm_at X d 187 (44, [some (.ref 32), some (.int x1), some (.int x2), some (.int x3), some (.int x4)], [], g, iv) else pm_at X d 187 (33, [some (.ref 32), some (.int x1), some (.int x2), some (.int x3), some (.int x4)], [], g, iv) := by
  refine (at_iload_n dc187_24 rfl).trans ?_
  refine (at_iload dc187_25 rfl).trans ?_
  refine (at_ishr dc187_27).trans ?_
  refine (at_iconst (v := 1) dc187_28 rfl).trans ?_
  refine (at_iand dc187_29).trans ?_
  exact at_if_eq (t := 44) dc187_30 (by decide)
theorem b187_33 {X : pm_X} {d : Nat} {x1 : Int32} {x2 : Int32} {x3 : Int32} {x4 : Int32} {g : pm_G} {iv : pm_V} (hL : pm_lay g) (i1 : vp_in x4 6) : pm_at X d 187 (33, [some (.ref 32), some (.int x1), some (.int x2), some (.int x3), some (.int x4)], [], g, iv) = if ¬ (iv 41 (x4 : Int32).toNatClampNeg) = 1 then pm_at X d 187 (48, [some (.ref 32), some (.int x1), some (.int x2), some (.int x3), some (.int x4)], [], g, iv) else pm_at X d 187 (44, [some (.ref 32), some (.int x1), some (.int x2), some (.int x3), some (.int x4)], [], g, iv) := by
  refine (at_aload_n dc187_33 rfl).trans ?_
  refine (at_gfR dc187_34 mc187 lf6_34 fo6_20 (ly32 hL) (lr32_20 hL)).trans ?_
  refine (at_iload dc187_37 rfl).trans ?_
  refine (at_iald dc187_39 (ly41 hL) i1).trans ?_
  refine (at_iconst (v := 1) dc187_40 rfl).trans ?_
  exact at_icmp_ne (t := 48) dc187_41 (by decide)
theorem b187_44 {X : pm_X} {d : Nat} {x1 : Int32} {x2 : Int32} {x3 : Int32} {x4 : Int32} {g : pm_G} {iv : pm_V}  : pm_at X d 187 (44, [some (.ref 32), some (.int x1), some (.int x2), some (.int x3), some (.int x4)], [], g, iv) = pm_at X d 187 (49, [some (.ref 32), some (.int x1), some (.int x2), some (.int x3), some (.int x4)], [.int 1], g, iv) := by
  refine (at_iconst (v := 1) dc187_44 rfl).trans ?_
  refine (at_goto (t := 49) dc187_45 (by decide)).trans ?_
  rfl
theorem b187_48 {X : pm_X} {d : Nat} {x1 : Int32} {x2 : Int32} {x3 : Int32} {x4 : Int32} {g : pm_G} {iv : pm_V}  : pm_at X d 187 (48, [some (.ref 32), some (.int x1), some (.int x2), some (.int x3), some (.int x4)], [], g, iv) = pm_at X d 187 (49, [some (.ref 32), some (.int x1), some (.int x2), some (.int x3), some (.int x4)], [.int 0], g, iv) := by
  refine (at_iconst (v := 0) dc187_48 rfl).trans ?_
  rfl
theorem b187_49 {X : pm_X} {d : Nat} {x1 : Int32} {x2 : Int32} {x3 : Int32} {x4 : Int32} {s0 : Int32} {g : pm_G} {iv : pm_V} (hL : pm_lay g) : pm_at X d 187 (49, [some (.ref 32), some (.int x1), some (.int x2), some (.int x3), some (.int x4)], [.int s0], g, iv) = if ¬ ((x2 >>> (x4 &&& 31)) &&& 1) = 1 then pm_at X d 187 (70, [some (.ref 32), some (.int x1), some (.int x2), some (.int s0), some (.int x4)], [.int x4, .ref 41], g, iv) else pm_at X d 187 (66, [some (.ref 32), some (.int x1), some (.int x2), some (.int s0), some (.int x4)], [.int x4, .ref 41], g, iv) := by
  refine (at_istore_n dc187_49 rfl).trans ?_
  refine (at_aload_n dc187_50 rfl).trans ?_
  refine (at_gfR dc187_51 mc187 lf6_34 fo6_20 (ly32 hL) (lr32_20 hL)).trans ?_
  refine (at_iload dc187_54 rfl).trans ?_
  refine (at_iload_n dc187_56 rfl).trans ?_
  refine (at_iload dc187_57 rfl).trans ?_
  refine (at_ishr dc187_59).trans ?_
  refine (at_iconst (v := 1) dc187_60 rfl).trans ?_
  refine (at_iand dc187_61).trans ?_
  refine (at_iconst (v := 1) dc187_62 rfl).trans ?_
  exact at_icmp_ne (t := 70) dc187_63 (by decide)
theorem b187_66 {X : pm_X} {d : Nat} {x1 : Int32} {x2 : Int32} {x3 : Int32} {x4 : Int32} {s0 : Int32} {g : pm_G} {iv : pm_V}  : pm_at X d 187 (66, [some (.ref 32), some (.int x1), some (.int x2), some (.int x3), some (.int x4)], [.int s0, .ref 41], g, iv) = pm_at X d 187 (77, [some (.ref 32), some (.int x1), some (.int x2), some (.int x3), some (.int x4)], [.int 0, .int s0, .ref 41], g, iv) := by
  refine (at_iconst (v := 0) dc187_66 rfl).trans ?_
  refine (at_goto (t := 77) dc187_67 (by decide)).trans ?_
  rfl
theorem b187_70 {X : pm_X} {d : Nat} {x1 : Int32} {x2 : Int32} {x3 : Int32} {x4 : Int32} {s0 : Int32} {g : pm_G} {iv : pm_V} (hL : pm_lay g) (i1 : vp_in x4 6) : pm_at X d 187 (70, [some (.ref 32), some (.int x1), some (.int x2), some (.int x3), some (.int x4)], [.int s0, .ref 41], g, iv) = pm_at X d 187 (77, [some (.ref 32), some (.int x1), some (.int x2), some (.int x3), some (.int x4)], [.int (iv 41 (x4 : Int32).toNatClampNeg), .int s0, .ref 41], g, iv) := by
  refine (at_aload_n dc187_70 rfl).trans ?_
  refine (at_gfR dc187_71 mc187 lf6_34 fo6_20 (ly32 hL) (lr32_20 hL)).trans ?_
  refine (at_iload dc187_74 rfl).trans ?_
  refine (at_iald dc187_76 (ly41 hL) i1).trans ?_
  rfl
theorem b187_77 {X : pm_X} {d : Nat} {x1 : Int32} {x2 : Int32} {x3 : Int32} {x4 : Int32} {s0 : Int32} {s1 : Int32} {g : pm_G} {iv : pm_V} (hL : pm_lay g) (i1 : vp_in s1 6) : pm_at X d 187 (77, [some (.ref 32), some (.int x1), some (.int x2), some (.int x3), some (.int x4)], [.int s0, .int s1, .ref 41], g, iv) = pm_at X d 187 (9, [some (.ref 32), some (.int x1), some (.int x2), some (.int x3), some (.int (x4 + 1))], [], g, (pm_iw iv 41 (s1 : Int32).toNatClampNeg s0)) := by
  refine (at_iast dc187_77 (ly41 hL) i1).trans ?_
  refine (at_iinc (v := 1) dc187_78 rfl (by decide) rfl).trans ?_
  refine (at_goto (t := 9) dc187_81 (by decide)).trans ?_
  rfl
theorem b187_84 {X : pm_X} {d : Nat} {x1 : Int32} {x2 : Int32} {x3 : Int32} {x4 : Int32} {g : pm_G} {iv : pm_V} (hL : pm_lay g) : pm_at X d 187 (84, [some (.ref 32), some (.int x1), some (.int x2), some (.int x3), some (.int x4)], [], g, iv) = pm_then X d 187 94 [some (.ref 32), some (.int x1), some (.int x2), some (.int x3), some (.int x4)] [] (pm_c X d 165 [.ref 32, .int (iv 36 4)] g iv) := by
  refine (at_aload_n dc187_84 rfl).trans ?_
  refine (at_aload_n dc187_85 rfl).trans ?_
  refine (at_gfR dc187_86 mc187 lf6_19 fo6_5 (ly32 hL) (lr32_5 hL)).trans ?_
  refine (at_iconst (v := 4) dc187_89 rfl).trans ?_
  refine (at_iald dc187_90 (ly36 hL) (vp_in_nI (n := 4) (by decide) (by decide))).trans ?_
  exact at_inv dc187_91 mc187 lm6_216 rfl rfl (Nat.le_of_ble_eq_true rfl) (Or.inl ⟨(ly32 hL), by decide⟩)
theorem b187_94 {X : pm_X} {d : Nat} {x1 : Int32} {x2 : Int32} {x3 : Int32} {x4 : Int32} {g : pm_G} {iv : pm_V}  : pm_at X d 187 (94, [some (.ref 32), some (.int x1), some (.int x2), some (.int x3), some (.int x4)], [], g, iv) = pm_at X d 187 (97, [some (.ref 32), some (.int x1), some (.int x2), some (.int x3), some (.int 0)], [], g, iv) := by
  refine (at_iconst (v := 0) dc187_94 rfl).trans ?_
  refine (at_istore dc187_95 rfl).trans ?_
  rfl
theorem b187_97 {X : pm_X} {d : Nat} {x1 : Int32} {x2 : Int32} {x3 : Int32} {x4 : Int32} {g : pm_G} {iv : pm_V} (hL : pm_lay g) : pm_at X d 187 (97, [some (.ref 32), some (.int x1), some (.int x2), some (.int x3), some (.int x4)], [], g, iv) = if (iv 36 3) ≤ x4 then pm_at X d 187 (146, [some (.ref 32), some (.int x1), some (.int x2), some (.int x3), some (.int x4)], [], g, iv) else pm_at X d 187 (108, [some (.ref 32), some (.int x1), some (.int x2), some (.int x3), some (.int x4)], [], g, iv) := by
  refine (at_iload dc187_97 rfl).trans ?_
  refine (at_aload_n dc187_99 rfl).trans ?_
  refine (at_gfR dc187_100 mc187 lf6_19 fo6_5 (ly32 hL) (lr32_5 hL)).trans ?_
  refine (at_iconst (v := 3) dc187_103 rfl).trans ?_
  refine (at_iald dc187_104 (ly36 hL) (vp_in_nI (n := 3) (by decide) (by decide))).trans ?_
  exact at_icmp_ge (t := 146) dc187_105 (by decide)
theorem b187_108 {X : pm_X} {d : Nat} {x1 : Int32} {x2 : Int32} {x3 : Int32} {x4 : Int32} {g : pm_G} {iv : pm_V}  : pm_at X d 187 (108, [some (.ref 32), some (.int x1), some (.int x2), some (.int x3), some (.int x4)], [], g, iv) = if x3 = 0 then pm_at X d 187 (138, [some (.ref 32), some (.int x1), some (.int x2), some (.int x3), some (.int x4)], [], g, iv) else pm_at X d 187 (112, [some (.ref 32), some (.int x1), some (.int x2), some (.int x3), some (.int x4)], [], g, iv) := by
  refine (at_iload_n dc187_108 rfl).trans ?_
  exact at_if_eq (t := 138) dc187_109 (by decide)
theorem b187_112 {X : pm_X} {d : Nat} {x1 : Int32} {x2 : Int32} {x3 : Int32} {x4 : Int32} {g : pm_G} {iv : pm_V} (hL : pm_lay g) (i1 : vp_in x4 6) (i2 : vp_in (((40 * x1) + x4)) 320) : pm_at X d 187 (112, [some (.ref 32), some (.int x1), some (.int x2), some (.int x3), some (.int x4)], [], g, iv) = if ¬ (iv 40 (x4 : Int32).toNatClampNeg) = (iv 35 (((40 * x1) + x4) : Int32).toNatClampNeg) then pm_at X d 187 (138, [some (.ref 32), some (.int x1), some (.int x2), some (.int x3), some (.int x4)], [], g, iv) else pm_at X d 187 (134, [some (.ref 32), some (.int x1), some (.int x2), some (.int x3), some (.int x4)], [], g, iv) := by
  refine (at_aload_n dc187_112 rfl).trans ?_
  refine (at_gfR dc187_113 mc187 lf6_31 fo6_19 (ly32 hL) (lr32_19 hL)).trans ?_
  refine (at_iload dc187_116 rfl).trans ?_
  refine (at_iald dc187_118 (ly40 hL) i1).trans ?_
  refine (at_aload_n dc187_119 rfl).trans ?_
  refine (at_gfR dc187_120 mc187 lf6_16 fo6_4 (ly32 hL) (lr32_4 hL)).trans ?_
  refine (at_bipush (v := 40) dc187_123 (by decide)).trans ?_
  refine (at_iload_n dc187_125 rfl).trans ?_
  refine (at_imul dc187_126).trans ?_
  refine (at_iload dc187_127 rfl).trans ?_
  refine (at_iadd dc187_129).trans ?_
  refine (at_iald dc187_130 (ly35 hL) i2).trans ?_
  exact at_icmp_ne (t := 138) dc187_131 (by decide)
theorem b187_134 {X : pm_X} {d : Nat} {x1 : Int32} {x2 : Int32} {x3 : Int32} {x4 : Int32} {g : pm_G} {iv : pm_V}  : pm_at X d 187 (134, [some (.ref 32), some (.int x1), some (.int x2), some (.int x3), some (.int x4)], [], g, iv) = pm_at X d 187 (139, [some (.ref 32), some (.int x1), some (.int x2), some (.int x3), some (.int x4)], [.int 1], g, iv) := by
  refine (at_iconst (v := 1) dc187_134 rfl).trans ?_
  refine (at_goto (t := 139) dc187_135 (by decide)).trans ?_
  rfl
theorem b187_138 {X : pm_X} {d : Nat} {x1 : Int32} {x2 : Int32} {x3 : Int32} {x4 : Int32} {g : pm_G} {iv : pm_V}  : pm_at X d 187 (138, [some (.ref 32), some (.int x1), some (.int x2), some (.int x3), some (.int x4)], [], g, iv) = pm_at X d 187 (139, [some (.ref 32), some (.int x1), some (.int x2), some (.int x3), some (.int x4)], [.int 0], g, iv) := by
  refine (at_iconst (v := 0) dc187_138 rfl).trans ?_
  rfl
theorem b187_139 {X : pm_X} {d : Nat} {x1 : Int32} {x2 : Int32} {x3 : Int32} {x4 : Int32} {s0 : Int32} {g : pm_G} {iv : pm_V}  : pm_at X d 187 (139, [some (.ref 32), some (.int x1), some (.int x2), some (.int x3), some (.int x4)], [.int s0], g, iv) = pm_at X d 187 (97, [some (.ref 32), some (.int x1), some (.int x2), some (.int s0), some (.int (x4 + 1))], [], g, iv) := by
  refine (at_istore_n dc187_139 rfl).trans ?_
  refine (at_iinc (v := 1) dc187_140 rfl (by decide) rfl).trans ?_
  refine (at_goto (t := 97) dc187_143 (by decide)).trans ?_
  rfl
theorem b187_146 {X : pm_X} {d : Nat} {x1 : Int32} {x2 : Int32} {x3 : Int32} {x4 : Int32} {g : pm_G} {iv : pm_V}  : pm_at X d 187 (146, [some (.ref 32), some (.int x1), some (.int x2), some (.int x3), some (.int x4)], [], g, iv) = pm_zr x3 (some (some (.int x3), g, iv)) := by
  refine (at_iload_n dc187_146 rfl).trans ?_
  exact at_zretG dc187_147 mr187
-- Mod.image (I)I
theorem dc188_0 : decode (pm_mb 188) 0 = .ok (.aload_n 0, 1) := by decide +kernel
theorem dc188_1 : decode (pm_mb 188) 1 = .ok (.iconst 0, 1) := by decide +kernel
theorem dc188_2 : decode (pm_mb 188) 2 = .ok (.putfield 50, 3) := by decide +kernel
theorem dc188_5 : decode (pm_mb 188) 5 = .ok (.iload_n 1, 1) := by decide +kernel
theorem dc188_6 : decode (pm_mb 188) 6 = .ok (.i2l, 1) := by decide +kernel
theorem dc188_7 : decode (pm_mb 188) 7 = .ok (.lconst 0, 1) := by decide +kernel
theorem dc188_8 : decode (pm_mb 188) 8 = .ok (.lconst 1, 1) := by decide +kernel
theorem dc188_9 : decode (pm_mb 188) 9 = .ok (.invokestatic 60, 3) := by decide +kernel
theorem dc188_12 : decode (pm_mb 188) 12 = .ok (.ifCond .ne 6, 3) := by decide +kernel
theorem dc188_15 : decode (pm_mb 188) 15 = .ok (.ldc 70, 2) := by decide +kernel
theorem dc188_17 : decode (pm_mb 188) 17 = .ok (.ireturn, 1) := by decide +kernel
theorem dc188_18 : decode (pm_mb 188) 18 = .ok (.aload_n 0, 1) := by decide +kernel
theorem dc188_19 : decode (pm_mb 188) 19 = .ok (.invokevirtual 205, 3) := by decide +kernel
theorem dc188_22 : decode (pm_mb 188) 22 = .ok (.ifCond .ne 6, 3) := by decide +kernel
theorem dc188_25 : decode (pm_mb 188) 25 = .ok (.ldc 209, 2) := by decide +kernel
theorem dc188_27 : decode (pm_mb 188) 27 = .ok (.ireturn, 1) := by decide +kernel
theorem dc188_28 : decode (pm_mb 188) 28 = .ok (.iconst 0, 1) := by decide +kernel
theorem dc188_29 : decode (pm_mb 188) 29 = .ok (.istore_n 2, 1) := by decide +kernel
theorem dc188_30 : decode (pm_mb 188) 30 = .ok (.iload_n 2, 1) := by decide +kernel
theorem dc188_31 : decode (pm_mb 188) 31 = .ok (.bipush 45, 2) := by decide +kernel
theorem dc188_33 : decode (pm_mb 188) 33 = .ok (.if_icmp .ge 26, 3) := by decide +kernel
theorem dc188_36 : decode (pm_mb 188) 36 = .ok (.aload_n 0, 1) := by decide +kernel
theorem dc188_37 : decode (pm_mb 188) 37 = .ok (.getfield 44, 3) := by decide +kernel
theorem dc188_40 : decode (pm_mb 188) 40 = .ok (.bipush 45, 2) := by decide +kernel
theorem dc188_42 : decode (pm_mb 188) 42 = .ok (.iload_n 1, 1) := by decide +kernel
theorem dc188_43 : decode (pm_mb 188) 43 = .ok (.imul, 1) := by decide +kernel
theorem dc188_44 : decode (pm_mb 188) 44 = .ok (.iload_n 2, 1) := by decide +kernel
theorem dc188_45 : decode (pm_mb 188) 45 = .ok (.iadd, 1) := by decide +kernel
theorem dc188_46 : decode (pm_mb 188) 46 = .ok (.aload_n 0, 1) := by decide +kernel
theorem dc188_47 : decode (pm_mb 188) 47 = .ok (.getfield 19, 3) := by decide +kernel
theorem dc188_50 : decode (pm_mb 188) 50 = .ok (.iload_n 2, 1) := by decide +kernel
theorem dc188_51 : decode (pm_mb 188) 51 = .ok (.iaload, 1) := by decide +kernel
theorem dc188_52 : decode (pm_mb 188) 52 = .ok (.iastore, 1) := by decide +kernel
theorem dc188_53 : decode (pm_mb 188) 53 = .ok (.iinc 2 1, 3) := by decide +kernel
theorem dc188_56 : decode (pm_mb 188) 56 = .ok (.goto (-26), 3) := by decide +kernel
theorem dc188_59 : decode (pm_mb 188) 59 = .ok (.aload_n 0, 1) := by decide +kernel
theorem dc188_60 : decode (pm_mb 188) 60 = .ok (.getfield 40, 3) := by decide +kernel
theorem dc188_63 : decode (pm_mb 188) 63 = .ok (.iload_n 1, 1) := by decide +kernel
theorem dc188_64 : decode (pm_mb 188) 64 = .ok (.iconst 1, 1) := by decide +kernel
theorem dc188_65 : decode (pm_mb 188) 65 = .ok (.bastore, 1) := by decide +kernel
theorem dc188_66 : decode (pm_mb 188) 66 = .ok (.iconst 1, 1) := by decide +kernel
theorem dc188_67 : decode (pm_mb 188) 67 = .ok (.ireturn, 1) := by decide +kernel
theorem b188_0 {X : pm_X} {d : Nat} {x1 : Int32} {g : pm_G} {iv : pm_V} (hL : pm_lay g) : pm_at X d 188 (0, [some (.ref 32), some (.int x1), none], [], g, iv) = pm_then X d 188 12 [some (.ref 32), some (.int x1), none] [] (pm_c X d 129 [.long (x1 : Int32).toInt64, .long 0, .long 1] g (pm_iw iv 32 0 0)) := by
  refine (at_aload_n dc188_0 rfl).trans ?_
  refine (at_iconst (v := 0) dc188_1 rfl).trans ?_
  refine (at_pfI dc188_2 mc188 lf6_50 po6_0 (ly32 hL)).trans ?_
  refine (at_iload_n dc188_5 rfl).trans ?_
  refine (at_i2l dc188_6).trans ?_
  refine (at_lconst (v := 0) dc188_7 (by decide)).trans ?_
  refine (at_lconst (v := 1) dc188_8 (by decide)).trans ?_
  exact at_ins dc188_9 mc188 lm6_60 (Nat.le_of_ble_eq_true rfl) rfl rfl (Nat.le_of_ble_eq_true rfl)
theorem b188_12 {X : pm_X} {d : Nat} {x1 : Int32} {s0 : Int32} {g : pm_G} {iv : pm_V}  : pm_at X d 188 (12, [some (.ref 32), some (.int x1), none], [.int s0], g, iv) = if ¬ s0 = 0 then pm_at X d 188 (18, [some (.ref 32), some (.int x1), none], [], g, iv) else pm_at X d 188 (15, [some (.ref 32), some (.int x1), none], [], g, iv) := by
  exact at_if_ne (t := 18) dc188_12 (by decide)
theorem b188_15 {X : pm_X} {d : Nat} {x1 : Int32} {g : pm_G} {iv : pm_V}  : pm_at X d 188 (15, [some (.ref 32), some (.int x1), none], [], g, iv) = some (some (.int (-1000001)), g, iv) := by
  refine (at_ldc dc188_15 mc188 lk6_70).trans ?_
  exact at_iret dc188_17 mr188
theorem b188_18 {X : pm_X} {d : Nat} {x1 : Int32} {g : pm_G} {iv : pm_V} (hL : pm_lay g) : pm_at X d 188 (18, [some (.ref 32), some (.int x1), none], [], g, iv) = pm_then X d 188 22 [some (.ref 32), some (.int x1), none] [] (pm_c X d 155 [.ref 32] g iv) := by
  refine (at_aload_n dc188_18 rfl).trans ?_
  exact at_inv dc188_19 mc188 lm6_205 rfl rfl (Nat.le_of_ble_eq_true rfl) (Or.inl ⟨(ly32 hL), by decide⟩)
theorem b188_22 {X : pm_X} {d : Nat} {x1 : Int32} {s0 : Int32} {g : pm_G} {iv : pm_V}  : pm_at X d 188 (22, [some (.ref 32), some (.int x1), none], [.int s0], g, iv) = if ¬ s0 = 0 then pm_at X d 188 (28, [some (.ref 32), some (.int x1), none], [], g, iv) else pm_at X d 188 (25, [some (.ref 32), some (.int x1), none], [], g, iv) := by
  exact at_if_ne (t := 28) dc188_22 (by decide)
theorem b188_25 {X : pm_X} {d : Nat} {x1 : Int32} {g : pm_G} {iv : pm_V}  : pm_at X d 188 (25, [some (.ref 32), some (.int x1), none], [], g, iv) = some (some (.int (-1000002)), g, iv) := by
  refine (at_ldc dc188_25 mc188 lk6_209).trans ?_
  exact at_iret dc188_27 mr188
theorem b188_28 {X : pm_X} {d : Nat} {x1 : Int32} {g : pm_G} {iv : pm_V}  : pm_at X d 188 (28, [some (.ref 32), some (.int x1), none], [], g, iv) = pm_at X d 188 (30, [some (.ref 32), some (.int x1), some (.int 0)], [], g, iv) := by
  refine (at_iconst (v := 0) dc188_28 rfl).trans ?_
  refine (at_istore_n dc188_29 rfl).trans ?_
  rfl
theorem b188_30 {X : pm_X} {d : Nat} {x1 : Int32} {x2 : Int32} {g : pm_G} {iv : pm_V}  : pm_at X d 188 (30, [some (.ref 32), some (.int x1), some (.int x2)], [], g, iv) = if 45 ≤ x2 then pm_at X d 188 (59, [some (.ref 32), some (.int x1), some (.int x2)], [], g, iv) else pm_at X d 188 (36, [some (.ref 32), some (.int x1), some (.int x2)], [], g, iv) := by
  refine (at_iload_n dc188_30 rfl).trans ?_
  refine (at_bipush (v := 45) dc188_31 (by decide)).trans ?_
  exact at_icmp_ge (t := 59) dc188_33 (by decide)
theorem b188_36 {X : pm_X} {d : Nat} {x1 : Int32} {x2 : Int32} {g : pm_G} {iv : pm_V} (hL : pm_lay g) (i1 : vp_in x2 45) (i2 : vp_in (((45 * x1) + x2)) 90) : pm_at X d 188 (36, [some (.ref 32), some (.int x1), some (.int x2)], [], g, iv) = pm_at X d 188 (30, [some (.ref 32), some (.int x1), some (.int (x2 + 1))], [], g, (pm_iw iv 44 (((45 * x1) + x2) : Int32).toNatClampNeg ((iv 36 (x2 : Int32).toNatClampNeg)))) := by
  refine (at_aload_n dc188_36 rfl).trans ?_
  refine (at_gfR dc188_37 mc188 lf6_44 fo6_23 (ly32 hL) (lr32_23 hL)).trans ?_
  refine (at_bipush (v := 45) dc188_40 (by decide)).trans ?_
  refine (at_iload_n dc188_42 rfl).trans ?_
  refine (at_imul dc188_43).trans ?_
  refine (at_iload_n dc188_44 rfl).trans ?_
  refine (at_iadd dc188_45).trans ?_
  refine (at_aload_n dc188_46 rfl).trans ?_
  refine (at_gfR dc188_47 mc188 lf6_19 fo6_5 (ly32 hL) (lr32_5 hL)).trans ?_
  refine (at_iload_n dc188_50 rfl).trans ?_
  refine (at_iald dc188_51 (ly36 hL) i1).trans ?_
  refine (at_iast dc188_52 (ly44 hL) i2).trans ?_
  refine (at_iinc (v := 1) dc188_53 rfl (by decide) rfl).trans ?_
  refine (at_goto (t := 30) dc188_56 (by decide)).trans ?_
  rfl
theorem b188_59 {X : pm_X} {d : Nat} {x1 : Int32} {x2 : Int32} {g : pm_G} {iv : pm_V} (hL : pm_lay g) (i1 : vp_in x1 2) : pm_at X d 188 (59, [some (.ref 32), some (.int x1), some (.int x2)], [], g, iv) = some (some (.int 1), g, (pm_iw iv 43 (x1 : Int32).toNatClampNeg ((vp_nar .boolean 1)))) := by
  refine (at_aload_n dc188_59 rfl).trans ?_
  refine (at_gfR dc188_60 mc188 lf6_40 fo6_22 (ly32 hL) (lr32_22 hL)).trans ?_
  refine (at_iload_n dc188_63 rfl).trans ?_
  refine (at_iconst (v := 1) dc188_64 rfl).trans ?_
  refine (at_zast dc188_65 (ly43 hL) i1).trans ?_
  refine (at_iconst (v := 1) dc188_66 rfl).trans ?_
  exact at_iret dc188_67 mr188
-- Mod.restore (I)I
theorem dc189_0 : decode (pm_mb 189) 0 = .ok (.aload_n 0, 1) := by decide +kernel
theorem dc189_1 : decode (pm_mb 189) 1 = .ok (.iconst 0, 1) := by decide +kernel
theorem dc189_2 : decode (pm_mb 189) 2 = .ok (.putfield 50, 3) := by decide +kernel
theorem dc189_5 : decode (pm_mb 189) 5 = .ok (.iload_n 1, 1) := by decide +kernel
theorem dc189_6 : decode (pm_mb 189) 6 = .ok (.i2l, 1) := by decide +kernel
theorem dc189_7 : decode (pm_mb 189) 7 = .ok (.lconst 0, 1) := by decide +kernel
theorem dc189_8 : decode (pm_mb 189) 8 = .ok (.lconst 1, 1) := by decide +kernel
theorem dc189_9 : decode (pm_mb 189) 9 = .ok (.invokestatic 60, 3) := by decide +kernel
theorem dc189_12 : decode (pm_mb 189) 12 = .ok (.ifCond .ne 6, 3) := by decide +kernel
theorem dc189_15 : decode (pm_mb 189) 15 = .ok (.ldc 70, 2) := by decide +kernel
theorem dc189_17 : decode (pm_mb 189) 17 = .ok (.ireturn, 1) := by decide +kernel
theorem dc189_18 : decode (pm_mb 189) 18 = .ok (.aload_n 0, 1) := by decide +kernel
theorem dc189_19 : decode (pm_mb 189) 19 = .ok (.getfield 40, 3) := by decide +kernel
theorem dc189_22 : decode (pm_mb 189) 22 = .ok (.iload_n 1, 1) := by decide +kernel
theorem dc189_23 : decode (pm_mb 189) 23 = .ok (.baload, 1) := by decide +kernel
theorem dc189_24 : decode (pm_mb 189) 24 = .ok (.ifCond .ne 6, 3) := by decide +kernel
theorem dc189_27 : decode (pm_mb 189) 27 = .ok (.ldc 209, 2) := by decide +kernel
theorem dc189_29 : decode (pm_mb 189) 29 = .ok (.ireturn, 1) := by decide +kernel
theorem dc189_30 : decode (pm_mb 189) 30 = .ok (.iconst 0, 1) := by decide +kernel
theorem dc189_31 : decode (pm_mb 189) 31 = .ok (.istore_n 2, 1) := by decide +kernel
theorem dc189_32 : decode (pm_mb 189) 32 = .ok (.iload_n 2, 1) := by decide +kernel
theorem dc189_33 : decode (pm_mb 189) 33 = .ok (.bipush 45, 2) := by decide +kernel
theorem dc189_35 : decode (pm_mb 189) 35 = .ok (.if_icmp .ge 26, 3) := by decide +kernel
theorem dc189_38 : decode (pm_mb 189) 38 = .ok (.aload_n 0, 1) := by decide +kernel
theorem dc189_39 : decode (pm_mb 189) 39 = .ok (.getfield 19, 3) := by decide +kernel
theorem dc189_42 : decode (pm_mb 189) 42 = .ok (.iload_n 2, 1) := by decide +kernel
theorem dc189_43 : decode (pm_mb 189) 43 = .ok (.aload_n 0, 1) := by decide +kernel
theorem dc189_44 : decode (pm_mb 189) 44 = .ok (.getfield 44, 3) := by decide +kernel
theorem dc189_47 : decode (pm_mb 189) 47 = .ok (.bipush 45, 2) := by decide +kernel
theorem dc189_49 : decode (pm_mb 189) 49 = .ok (.iload_n 1, 1) := by decide +kernel
theorem dc189_50 : decode (pm_mb 189) 50 = .ok (.imul, 1) := by decide +kernel
theorem dc189_51 : decode (pm_mb 189) 51 = .ok (.iload_n 2, 1) := by decide +kernel
theorem dc189_52 : decode (pm_mb 189) 52 = .ok (.iadd, 1) := by decide +kernel
theorem dc189_53 : decode (pm_mb 189) 53 = .ok (.iaload, 1) := by decide +kernel
theorem dc189_54 : decode (pm_mb 189) 54 = .ok (.iastore, 1) := by decide +kernel
theorem dc189_55 : decode (pm_mb 189) 55 = .ok (.iinc 2 1, 3) := by decide +kernel
theorem dc189_58 : decode (pm_mb 189) 58 = .ok (.goto (-26), 3) := by decide +kernel
theorem dc189_61 : decode (pm_mb 189) 61 = .ok (.aload_n 0, 1) := by decide +kernel
theorem dc189_62 : decode (pm_mb 189) 62 = .ok (.iconst 0, 1) := by decide +kernel
theorem dc189_63 : decode (pm_mb 189) 63 = .ok (.putfield 181, 3) := by decide +kernel
theorem dc189_66 : decode (pm_mb 189) 66 = .ok (.iconst 1, 1) := by decide +kernel
theorem dc189_67 : decode (pm_mb 189) 67 = .ok (.ireturn, 1) := by decide +kernel
theorem b189_0 {X : pm_X} {d : Nat} {x1 : Int32} {g : pm_G} {iv : pm_V} (hL : pm_lay g) : pm_at X d 189 (0, [some (.ref 32), some (.int x1), none], [], g, iv) = pm_then X d 189 12 [some (.ref 32), some (.int x1), none] [] (pm_c X d 129 [.long (x1 : Int32).toInt64, .long 0, .long 1] g (pm_iw iv 32 0 0)) := by
  refine (at_aload_n dc189_0 rfl).trans ?_
  refine (at_iconst (v := 0) dc189_1 rfl).trans ?_
  refine (at_pfI dc189_2 mc189 lf6_50 po6_0 (ly32 hL)).trans ?_
  refine (at_iload_n dc189_5 rfl).trans ?_
  refine (at_i2l dc189_6).trans ?_
  refine (at_lconst (v := 0) dc189_7 (by decide)).trans ?_
  refine (at_lconst (v := 1) dc189_8 (by decide)).trans ?_
  exact at_ins dc189_9 mc189 lm6_60 (Nat.le_of_ble_eq_true rfl) rfl rfl (Nat.le_of_ble_eq_true rfl)
theorem b189_12 {X : pm_X} {d : Nat} {x1 : Int32} {s0 : Int32} {g : pm_G} {iv : pm_V}  : pm_at X d 189 (12, [some (.ref 32), some (.int x1), none], [.int s0], g, iv) = if ¬ s0 = 0 then pm_at X d 189 (18, [some (.ref 32), some (.int x1), none], [], g, iv) else pm_at X d 189 (15, [some (.ref 32), some (.int x1), none], [], g, iv) := by
  exact at_if_ne (t := 18) dc189_12 (by decide)
theorem b189_15 {X : pm_X} {d : Nat} {x1 : Int32} {g : pm_G} {iv : pm_V}  : pm_at X d 189 (15, [some (.ref 32), some (.int x1), none], [], g, iv) = some (some (.int (-1000001)), g, iv) := by
  refine (at_ldc dc189_15 mc189 lk6_70).trans ?_
  exact at_iret dc189_17 mr189
theorem b189_18 {X : pm_X} {d : Nat} {x1 : Int32} {g : pm_G} {iv : pm_V} (hL : pm_lay g) (i1 : vp_in x1 2) : pm_at X d 189 (18, [some (.ref 32), some (.int x1), none], [], g, iv) = if ¬ (iv 43 (x1 : Int32).toNatClampNeg) = 0 then pm_at X d 189 (30, [some (.ref 32), some (.int x1), none], [], g, iv) else pm_at X d 189 (27, [some (.ref 32), some (.int x1), none], [], g, iv) := by
  refine (at_aload_n dc189_18 rfl).trans ?_
  refine (at_gfR dc189_19 mc189 lf6_40 fo6_22 (ly32 hL) (lr32_22 hL)).trans ?_
  refine (at_iload_n dc189_22 rfl).trans ?_
  refine (at_bald dc189_23 (ly43 hL) (Or.inr rfl) i1).trans ?_
  exact at_if_ne (t := 30) dc189_24 (by decide)
theorem b189_27 {X : pm_X} {d : Nat} {x1 : Int32} {g : pm_G} {iv : pm_V}  : pm_at X d 189 (27, [some (.ref 32), some (.int x1), none], [], g, iv) = some (some (.int (-1000002)), g, iv) := by
  refine (at_ldc dc189_27 mc189 lk6_209).trans ?_
  exact at_iret dc189_29 mr189
theorem b189_30 {X : pm_X} {d : Nat} {x1 : Int32} {g : pm_G} {iv : pm_V}  : pm_at X d 189 (30, [some (.ref 32), some (.int x1), none], [], g, iv) = pm_at X d 189 (32, [some (.ref 32), some (.int x1), some (.int 0)], [], g, iv) := by
  refine (at_iconst (v := 0) dc189_30 rfl).trans ?_
  refine (at_istore_n dc189_31 rfl).trans ?_
  rfl
theorem b189_32 {X : pm_X} {d : Nat} {x1 : Int32} {x2 : Int32} {g : pm_G} {iv : pm_V}  : pm_at X d 189 (32, [some (.ref 32), some (.int x1), some (.int x2)], [], g, iv) = if 45 ≤ x2 then pm_at X d 189 (61, [some (.ref 32), some (.int x1), some (.int x2)], [], g, iv) else pm_at X d 189 (38, [some (.ref 32), some (.int x1), some (.int x2)], [], g, iv) := by
  refine (at_iload_n dc189_32 rfl).trans ?_
  refine (at_bipush (v := 45) dc189_33 (by decide)).trans ?_
  exact at_icmp_ge (t := 61) dc189_35 (by decide)
theorem b189_38 {X : pm_X} {d : Nat} {x1 : Int32} {x2 : Int32} {g : pm_G} {iv : pm_V} (hL : pm_lay g) (i1 : vp_in (((45 * x1) + x2)) 90) (i2 : vp_in x2 45) : pm_at X d 189 (38, [some (.ref 32), some (.int x1), some (.int x2)], [], g, iv) = pm_at X d 189 (32, [some (.ref 32), some (.int x1), some (.int (x2 + 1))], [], g, (pm_iw iv 36 (x2 : Int32).toNatClampNeg ((iv 44 (((45 * x1) + x2) : Int32).toNatClampNeg)))) := by
  refine (at_aload_n dc189_38 rfl).trans ?_
  refine (at_gfR dc189_39 mc189 lf6_19 fo6_5 (ly32 hL) (lr32_5 hL)).trans ?_
  refine (at_iload_n dc189_42 rfl).trans ?_
  refine (at_aload_n dc189_43 rfl).trans ?_
  refine (at_gfR dc189_44 mc189 lf6_44 fo6_23 (ly32 hL) (lr32_23 hL)).trans ?_
  refine (at_bipush (v := 45) dc189_47 (by decide)).trans ?_
  refine (at_iload_n dc189_49 rfl).trans ?_
  refine (at_imul dc189_50).trans ?_
  refine (at_iload_n dc189_51 rfl).trans ?_
  refine (at_iadd dc189_52).trans ?_
  refine (at_iald dc189_53 (ly44 hL) i1).trans ?_
  refine (at_iast dc189_54 (ly36 hL) i2).trans ?_
  refine (at_iinc (v := 1) dc189_55 rfl (by decide) rfl).trans ?_
  refine (at_goto (t := 32) dc189_58 (by decide)).trans ?_
  rfl
theorem b189_61 {X : pm_X} {d : Nat} {x1 : Int32} {x2 : Int32} {g : pm_G} {iv : pm_V} (hL : pm_lay g) : pm_at X d 189 (61, [some (.ref 32), some (.int x1), some (.int x2)], [], g, iv) = some (some (.int 1), g, (pm_iw iv 32 8 0)) := by
  refine (at_aload_n dc189_61 rfl).trans ?_
  refine (at_iconst (v := 0) dc189_62 rfl).trans ?_
  refine (at_pfI dc189_63 mc189 lf6_181 po6_8 (ly32 hL)).trans ?_
  refine (at_iconst (v := 1) dc189_66 rfl).trans ?_
  exact at_iret dc189_67 mr189
-- Mod.isOf (II)Z
theorem dc190_0 : decode (pm_mb 190) 0 = .ok (.iload_n 1, 1) := by decide +kernel
theorem dc190_1 : decode (pm_mb 190) 1 = .ok (.ifCond .eq 28, 3) := by decide +kernel
theorem dc190_4 : decode (pm_mb 190) 4 = .ok (.iload_n 0, 1) := by decide +kernel
theorem dc190_5 : decode (pm_mb 190) 5 = .ok (.iload_n 1, 1) := by decide +kernel
theorem dc190_6 : decode (pm_mb 190) 6 = .ok (.if_icmp .eq 23, 3) := by decide +kernel
theorem dc190_9 : decode (pm_mb 190) 9 = .ok (.iload_n 1, 1) := by decide +kernel
theorem dc190_10 : decode (pm_mb 190) 10 = .ok (.iconst 1, 1) := by decide +kernel
theorem dc190_11 : decode (pm_mb 190) 11 = .ok (.if_icmp .ne 8, 3) := by decide +kernel
theorem dc190_14 : decode (pm_mb 190) 14 = .ok (.iload_n 0, 1) := by decide +kernel
theorem dc190_15 : decode (pm_mb 190) 15 = .ok (.iconst 2, 1) := by decide +kernel
theorem dc190_16 : decode (pm_mb 190) 16 = .ok (.if_icmp .eq 13, 3) := by decide +kernel
theorem dc190_19 : decode (pm_mb 190) 19 = .ok (.iload_n 1, 1) := by decide +kernel
theorem dc190_20 : decode (pm_mb 190) 20 = .ok (.iconst 3, 1) := by decide +kernel
theorem dc190_21 : decode (pm_mb 190) 21 = .ok (.if_icmp .ne 12, 3) := by decide +kernel
theorem dc190_24 : decode (pm_mb 190) 24 = .ok (.iload_n 0, 1) := by decide +kernel
theorem dc190_25 : decode (pm_mb 190) 25 = .ok (.iconst 3, 1) := by decide +kernel
theorem dc190_26 : decode (pm_mb 190) 26 = .ok (.if_icmp .le 7, 3) := by decide +kernel
theorem dc190_29 : decode (pm_mb 190) 29 = .ok (.iconst 1, 1) := by decide +kernel
theorem dc190_30 : decode (pm_mb 190) 30 = .ok (.goto 4, 3) := by decide +kernel
theorem dc190_33 : decode (pm_mb 190) 33 = .ok (.iconst 0, 1) := by decide +kernel
theorem dc190_34 : decode (pm_mb 190) 34 = .ok (.ireturn, 1) := by decide +kernel
theorem b190_0 {X : pm_X} {d : Nat} {x0 : Int32} {x1 : Int32} {g : pm_G} {iv : pm_V}  : pm_at X d 190 (0, [some (.int x0), some (.int x1)], [], g, iv) = if x1 = 0 then pm_at X d 190 (29, [some (.int x0), some (.int x1)], [], g, iv) else pm_at X d 190 (4, [some (.int x0), some (.int x1)], [], g, iv) := by
  refine (at_iload_n dc190_0 rfl).trans ?_
  exact at_if_eq (t := 29) dc190_1 (by decide)
theorem b190_4 {X : pm_X} {d : Nat} {x0 : Int32} {x1 : Int32} {g : pm_G} {iv : pm_V}  : pm_at X d 190 (4, [some (.int x0), some (.int x1)], [], g, iv) = if x0 = x1 then pm_at X d 190 (29, [some (.int x0), some (.int x1)], [], g, iv) else pm_at X d 190 (9, [some (.int x0), some (.int x1)], [], g, iv) := by
  refine (at_iload_n dc190_4 rfl).trans ?_
  refine (at_iload_n dc190_5 rfl).trans ?_
  exact at_icmp_eq (t := 29) dc190_6 (by decide)
theorem b190_9 {X : pm_X} {d : Nat} {x0 : Int32} {x1 : Int32} {g : pm_G} {iv : pm_V}  : pm_at X d 190 (9, [some (.int x0), some (.int x1)], [], g, iv) = if ¬ x1 = 1 then pm_at X d 190 (19, [some (.int x0), some (.int x1)], [], g, iv) else pm_at X d 190 (14, [some (.int x0), some (.int x1)], [], g, iv) := by
  refine (at_iload_n dc190_9 rfl).trans ?_
  refine (at_iconst (v := 1) dc190_10 rfl).trans ?_
  exact at_icmp_ne (t := 19) dc190_11 (by decide)
theorem b190_14 {X : pm_X} {d : Nat} {x0 : Int32} {x1 : Int32} {g : pm_G} {iv : pm_V}  : pm_at X d 190 (14, [some (.int x0), some (.int x1)], [], g, iv) = if x0 = 2 then pm_at X d 190 (29, [some (.int x0), some (.int x1)], [], g, iv) else pm_at X d 190 (19, [some (.int x0), some (.int x1)], [], g, iv) := by
  refine (at_iload_n dc190_14 rfl).trans ?_
  refine (at_iconst (v := 2) dc190_15 rfl).trans ?_
  exact at_icmp_eq (t := 29) dc190_16 (by decide)
theorem b190_19 {X : pm_X} {d : Nat} {x0 : Int32} {x1 : Int32} {g : pm_G} {iv : pm_V}  : pm_at X d 190 (19, [some (.int x0), some (.int x1)], [], g, iv) = if ¬ x1 = 3 then pm_at X d 190 (33, [some (.int x0), some (.int x1)], [], g, iv) else pm_at X d 190 (24, [some (.int x0), some (.int x1)], [], g, iv) := by
  refine (at_iload_n dc190_19 rfl).trans ?_
  refine (at_iconst (v := 3) dc190_20 rfl).trans ?_
  exact at_icmp_ne (t := 33) dc190_21 (by decide)
theorem b190_24 {X : pm_X} {d : Nat} {x0 : Int32} {x1 : Int32} {g : pm_G} {iv : pm_V}  : pm_at X d 190 (24, [some (.int x0), some (.int x1)], [], g, iv) = if x0 ≤ 3 then pm_at X d 190 (33, [some (.int x0), some (.int x1)], [], g, iv) else pm_at X d 190 (29, [some (.int x0), some (.int x1)], [], g, iv) := by
  refine (at_iload_n dc190_24 rfl).trans ?_
  refine (at_iconst (v := 3) dc190_25 rfl).trans ?_
  exact at_icmp_le (t := 33) dc190_26 (by decide)
theorem b190_29 {X : pm_X} {d : Nat} {x0 : Int32} {x1 : Int32} {g : pm_G} {iv : pm_V}  : pm_at X d 190 (29, [some (.int x0), some (.int x1)], [], g, iv) = pm_at X d 190 (34, [some (.int x0), some (.int x1)], [.int 1], g, iv) := by
  refine (at_iconst (v := 1) dc190_29 rfl).trans ?_
  refine (at_goto (t := 34) dc190_30 (by decide)).trans ?_
  rfl
theorem b190_33 {X : pm_X} {d : Nat} {x0 : Int32} {x1 : Int32} {g : pm_G} {iv : pm_V}  : pm_at X d 190 (33, [some (.int x0), some (.int x1)], [], g, iv) = pm_at X d 190 (34, [some (.int x0), some (.int x1)], [.int 0], g, iv) := by
  refine (at_iconst (v := 0) dc190_33 rfl).trans ?_
  rfl
theorem b190_34 {X : pm_X} {d : Nat} {x0 : Int32} {x1 : Int32} {s0 : Int32} {g : pm_G} {iv : pm_V}  : pm_at X d 190 (34, [some (.int x0), some (.int x1)], [.int s0], g, iv) = pm_zr s0 (some (some (.int s0), g, iv)) := by
  exact at_zretG dc190_34 mr190
-- Mod.kind (I)I
theorem dc191_0 : decode (pm_mb 191) 0 = .ok (.aload_n 0, 1) := by decide +kernel
theorem dc191_1 : decode (pm_mb 191) 1 = .ok (.iconst 0, 1) := by decide +kernel
theorem dc191_2 : decode (pm_mb 191) 2 = .ok (.putfield 50, 3) := by decide +kernel
theorem dc191_5 : decode (pm_mb 191) 5 = .ok (.aload_n 0, 1) := by decide +kernel
theorem dc191_6 : decode (pm_mb 191) 6 = .ok (.iload_n 1, 1) := by decide +kernel
theorem dc191_7 : decode (pm_mb 191) 7 = .ok (.invokevirtual 184, 3) := by decide +kernel
theorem dc191_10 : decode (pm_mb 191) 10 = .ok (.ifCond .eq 12, 3) := by decide +kernel
theorem dc191_13 : decode (pm_mb 191) 13 = .ok (.aload_n 0, 1) := by decide +kernel
theorem dc191_14 : decode (pm_mb 191) 14 = .ok (.iload_n 1, 1) := by decide +kernel
theorem dc191_15 : decode (pm_mb 191) 15 = .ok (.iconst 0, 1) := by decide +kernel
theorem dc191_16 : decode (pm_mb 191) 16 = .ok (.invokevirtual 187, 3) := by decide +kernel
theorem dc191_19 : decode (pm_mb 191) 19 = .ok (.goto 5, 3) := by decide +kernel
theorem dc191_22 : decode (pm_mb 191) 22 = .ok (.ldc 70, 2) := by decide +kernel
theorem dc191_24 : decode (pm_mb 191) 24 = .ok (.ireturn, 1) := by decide +kernel
theorem b191_0 {X : pm_X} {d : Nat} {x1 : Int32} {g : pm_G} {iv : pm_V} (hL : pm_lay g) : pm_at X d 191 (0, [some (.ref 32), some (.int x1)], [], g, iv) = pm_then X d 191 10 [some (.ref 32), some (.int x1)] [] (pm_c X d 156 [.ref 32, .int x1] g (pm_iw iv 32 0 0)) := by
  refine (at_aload_n dc191_0 rfl).trans ?_
  refine (at_iconst (v := 0) dc191_1 rfl).trans ?_
  refine (at_pfI dc191_2 mc191 lf6_50 po6_0 (ly32 hL)).trans ?_
  refine (at_aload_n dc191_5 rfl).trans ?_
  refine (at_iload_n dc191_6 rfl).trans ?_
  exact at_inv dc191_7 mc191 lm6_184 rfl rfl (Nat.le_of_ble_eq_true rfl) (Or.inl ⟨(ly32 hL), by decide⟩)
theorem b191_10 {X : pm_X} {d : Nat} {x1 : Int32} {s0 : Int32} {g : pm_G} {iv : pm_V}  : pm_at X d 191 (10, [some (.ref 32), some (.int x1)], [.int s0], g, iv) = if s0 = 0 then pm_at X d 191 (22, [some (.ref 32), some (.int x1)], [], g, iv) else pm_at X d 191 (13, [some (.ref 32), some (.int x1)], [], g, iv) := by
  exact at_if_eq (t := 22) dc191_10 (by decide)
theorem b191_13 {X : pm_X} {d : Nat} {x1 : Int32} {g : pm_G} {iv : pm_V} (hL : pm_lay g) : pm_at X d 191 (13, [some (.ref 32), some (.int x1)], [], g, iv) = pm_then X d 191 19 [some (.ref 32), some (.int x1)] [] (pm_c X d 158 [.ref 32, .int x1, .int 0] g iv) := by
  refine (at_aload_n dc191_13 rfl).trans ?_
  refine (at_iload_n dc191_14 rfl).trans ?_
  refine (at_iconst (v := 0) dc191_15 rfl).trans ?_
  exact at_inv dc191_16 mc191 lm6_187 rfl rfl (Nat.le_of_ble_eq_true rfl) (Or.inl ⟨(ly32 hL), by decide⟩)
theorem b191_19 {X : pm_X} {d : Nat} {x1 : Int32} {s0 : Int32} {g : pm_G} {iv : pm_V}  : pm_at X d 191 (19, [some (.ref 32), some (.int x1)], [.int s0], g, iv) = pm_at X d 191 (24, [some (.ref 32), some (.int x1)], [.int s0], g, iv) := by
  refine (at_goto (t := 24) dc191_19 (by decide)).trans ?_
  rfl
theorem b191_22 {X : pm_X} {d : Nat} {x1 : Int32} {g : pm_G} {iv : pm_V}  : pm_at X d 191 (22, [some (.ref 32), some (.int x1)], [], g, iv) = pm_at X d 191 (24, [some (.ref 32), some (.int x1)], [.int (-1000001)], g, iv) := by
  refine (at_ldc dc191_22 mc191 lk6_70).trans ?_
  rfl
theorem b191_24 {X : pm_X} {d : Nat} {x1 : Int32} {s0 : Int32} {g : pm_G} {iv : pm_V}  : pm_at X d 191 (24, [some (.ref 32), some (.int x1)], [.int s0], g, iv) = some (some (.int s0), g, iv) := by
  exact at_iret dc191_24 mr191
-- Mod.as (II)I
theorem dc192_0 : decode (pm_mb 192) 0 = .ok (.aload_n 0, 1) := by decide +kernel
theorem dc192_1 : decode (pm_mb 192) 1 = .ok (.iconst 0, 1) := by decide +kernel
theorem dc192_2 : decode (pm_mb 192) 2 = .ok (.putfield 50, 3) := by decide +kernel
theorem dc192_5 : decode (pm_mb 192) 5 = .ok (.aload_n 0, 1) := by decide +kernel
theorem dc192_6 : decode (pm_mb 192) 6 = .ok (.iload_n 1, 1) := by decide +kernel
theorem dc192_7 : decode (pm_mb 192) 7 = .ok (.invokevirtual 184, 3) := by decide +kernel
theorem dc192_10 : decode (pm_mb 192) 10 = .ok (.ifCond .eq 15, 3) := by decide +kernel
theorem dc192_13 : decode (pm_mb 192) 13 = .ok (.iload_n 2, 1) := by decide +kernel
theorem dc192_14 : decode (pm_mb 192) 14 = .ok (.i2l, 1) := by decide +kernel
theorem dc192_15 : decode (pm_mb 192) 15 = .ok (.lconst 0, 1) := by decide +kernel
theorem dc192_16 : decode (pm_mb 192) 16 = .ok (.ldc2_w 224, 3) := by decide +kernel
theorem dc192_19 : decode (pm_mb 192) 19 = .ok (.invokestatic 60, 3) := by decide +kernel
theorem dc192_22 : decode (pm_mb 192) 22 = .ok (.ifCond .ne 6, 3) := by decide +kernel
theorem dc192_25 : decode (pm_mb 192) 25 = .ok (.ldc 70, 2) := by decide +kernel
theorem dc192_27 : decode (pm_mb 192) 27 = .ok (.ireturn, 1) := by decide +kernel
theorem dc192_28 : decode (pm_mb 192) 28 = .ok (.aload_n 0, 1) := by decide +kernel
theorem dc192_29 : decode (pm_mb 192) 29 = .ok (.iconst 0, 1) := by decide +kernel
theorem dc192_30 : decode (pm_mb 192) 30 = .ok (.putfield 54, 3) := by decide +kernel
theorem dc192_33 : decode (pm_mb 192) 33 = .ok (.aload_n 0, 1) := by decide +kernel
theorem dc192_34 : decode (pm_mb 192) 34 = .ok (.iload_n 1, 1) := by decide +kernel
theorem dc192_35 : decode (pm_mb 192) 35 = .ok (.iconst 0, 1) := by decide +kernel
theorem dc192_36 : decode (pm_mb 192) 36 = .ok (.invokevirtual 187, 3) := by decide +kernel
theorem dc192_39 : decode (pm_mb 192) 39 = .ok (.iload_n 2, 1) := by decide +kernel
theorem dc192_40 : decode (pm_mb 192) 40 = .ok (.invokestatic 253, 3) := by decide +kernel
theorem dc192_43 : decode (pm_mb 192) 43 = .ok (.ifCond .eq 7, 3) := by decide +kernel
theorem dc192_46 : decode (pm_mb 192) 46 = .ok (.iload_n 1, 1) := by decide +kernel
theorem dc192_47 : decode (pm_mb 192) 47 = .ok (.goto 8, 3) := by decide +kernel
theorem dc192_50 : decode (pm_mb 192) 50 = .ok (.aload_n 0, 1) := by decide +kernel
theorem dc192_51 : decode (pm_mb 192) 51 = .ok (.iconst 3, 1) := by decide +kernel
theorem dc192_52 : decode (pm_mb 192) 52 = .ok (.invokevirtual 71, 3) := by decide +kernel
theorem dc192_55 : decode (pm_mb 192) 55 = .ok (.ireturn, 1) := by decide +kernel
theorem b192_0 {X : pm_X} {d : Nat} {x1 : Int32} {x2 : Int32} {g : pm_G} {iv : pm_V} (hL : pm_lay g) : pm_at X d 192 (0, [some (.ref 32), some (.int x1), some (.int x2)], [], g, iv) = pm_then X d 192 10 [some (.ref 32), some (.int x1), some (.int x2)] [] (pm_c X d 156 [.ref 32, .int x1] g (pm_iw iv 32 0 0)) := by
  refine (at_aload_n dc192_0 rfl).trans ?_
  refine (at_iconst (v := 0) dc192_1 rfl).trans ?_
  refine (at_pfI dc192_2 mc192 lf6_50 po6_0 (ly32 hL)).trans ?_
  refine (at_aload_n dc192_5 rfl).trans ?_
  refine (at_iload_n dc192_6 rfl).trans ?_
  exact at_inv dc192_7 mc192 lm6_184 rfl rfl (Nat.le_of_ble_eq_true rfl) (Or.inl ⟨(ly32 hL), by decide⟩)
theorem b192_10 {X : pm_X} {d : Nat} {x1 : Int32} {x2 : Int32} {s0 : Int32} {g : pm_G} {iv : pm_V}  : pm_at X d 192 (10, [some (.ref 32), some (.int x1), some (.int x2)], [.int s0], g, iv) = if s0 = 0 then pm_at X d 192 (25, [some (.ref 32), some (.int x1), some (.int x2)], [], g, iv) else pm_at X d 192 (13, [some (.ref 32), some (.int x1), some (.int x2)], [], g, iv) := by
  exact at_if_eq (t := 25) dc192_10 (by decide)
theorem b192_13 {X : pm_X} {d : Nat} {x1 : Int32} {x2 : Int32} {g : pm_G} {iv : pm_V}  : pm_at X d 192 (13, [some (.ref 32), some (.int x1), some (.int x2)], [], g, iv) = pm_then X d 192 22 [some (.ref 32), some (.int x1), some (.int x2)] [] (pm_c X d 129 [.long (x2 : Int32).toInt64, .long 0, .long 5] g iv) := by
  refine (at_iload_n dc192_13 rfl).trans ?_
  refine (at_i2l dc192_14).trans ?_
  refine (at_lconst (v := 0) dc192_15 (by decide)).trans ?_
  refine (at_ldc2 dc192_16 mc192 ll6_224).trans ?_
  exact at_ins dc192_19 mc192 lm6_60 (Nat.le_of_ble_eq_true rfl) rfl rfl (Nat.le_of_ble_eq_true rfl)
theorem b192_22 {X : pm_X} {d : Nat} {x1 : Int32} {x2 : Int32} {s0 : Int32} {g : pm_G} {iv : pm_V}  : pm_at X d 192 (22, [some (.ref 32), some (.int x1), some (.int x2)], [.int s0], g, iv) = if ¬ s0 = 0 then pm_at X d 192 (28, [some (.ref 32), some (.int x1), some (.int x2)], [], g, iv) else pm_at X d 192 (25, [some (.ref 32), some (.int x1), some (.int x2)], [], g, iv) := by
  exact at_if_ne (t := 28) dc192_22 (by decide)
theorem b192_25 {X : pm_X} {d : Nat} {x1 : Int32} {x2 : Int32} {g : pm_G} {iv : pm_V}  : pm_at X d 192 (25, [some (.ref 32), some (.int x1), some (.int x2)], [], g, iv) = some (some (.int (-1000001)), g, iv) := by
  refine (at_ldc dc192_25 mc192 lk6_70).trans ?_
  exact at_iret dc192_27 mr192
theorem b192_28 {X : pm_X} {d : Nat} {x1 : Int32} {x2 : Int32} {g : pm_G} {iv : pm_V} (hL : pm_lay g) : pm_at X d 192 (28, [some (.ref 32), some (.int x1), some (.int x2)], [], g, iv) = pm_then X d 192 39 [some (.ref 32), some (.int x1), some (.int x2)] [] (pm_c X d 158 [.ref 32, .int x1, .int 0] g (pm_iw iv 32 1 0)) := by
  refine (at_aload_n dc192_28 rfl).trans ?_
  refine (at_iconst (v := 0) dc192_29 rfl).trans ?_
  refine (at_pfI dc192_30 mc192 lf6_54 po6_1 (ly32 hL)).trans ?_
  refine (at_aload_n dc192_33 rfl).trans ?_
  refine (at_iload_n dc192_34 rfl).trans ?_
  refine (at_iconst (v := 0) dc192_35 rfl).trans ?_
  exact at_inv dc192_36 mc192 lm6_187 rfl rfl (Nat.le_of_ble_eq_true rfl) (Or.inl ⟨(ly32 hL), by decide⟩)
theorem b192_39 {X : pm_X} {d : Nat} {x1 : Int32} {x2 : Int32} {s0 : Int32} {g : pm_G} {iv : pm_V}  : pm_at X d 192 (39, [some (.ref 32), some (.int x1), some (.int x2)], [.int s0], g, iv) = pm_then X d 192 43 [some (.ref 32), some (.int x1), some (.int x2)] [] (pm_c X d 190 [.int s0, .int x2] g iv) := by
  refine (at_iload_n dc192_39 rfl).trans ?_
  exact at_ins dc192_40 mc192 lm6_253 (Nat.le_of_ble_eq_true rfl) rfl rfl (Nat.le_of_ble_eq_true rfl)
theorem b192_43 {X : pm_X} {d : Nat} {x1 : Int32} {x2 : Int32} {s0 : Int32} {g : pm_G} {iv : pm_V}  : pm_at X d 192 (43, [some (.ref 32), some (.int x1), some (.int x2)], [.int s0], g, iv) = if s0 = 0 then pm_at X d 192 (50, [some (.ref 32), some (.int x1), some (.int x2)], [], g, iv) else pm_at X d 192 (46, [some (.ref 32), some (.int x1), some (.int x2)], [], g, iv) := by
  exact at_if_eq (t := 50) dc192_43 (by decide)
theorem b192_46 {X : pm_X} {d : Nat} {x1 : Int32} {x2 : Int32} {g : pm_G} {iv : pm_V}  : pm_at X d 192 (46, [some (.ref 32), some (.int x1), some (.int x2)], [], g, iv) = pm_at X d 192 (55, [some (.ref 32), some (.int x1), some (.int x2)], [.int x1], g, iv) := by
  refine (at_iload_n dc192_46 rfl).trans ?_
  refine (at_goto (t := 55) dc192_47 (by decide)).trans ?_
  rfl
theorem b192_50 {X : pm_X} {d : Nat} {x1 : Int32} {x2 : Int32} {g : pm_G} {iv : pm_V} (hL : pm_lay g) : pm_at X d 192 (50, [some (.ref 32), some (.int x1), some (.int x2)], [], g, iv) = pm_then X d 192 55 [some (.ref 32), some (.int x1), some (.int x2)] [] (pm_c X d 130 [.ref 32, .int 3] g iv) := by
  refine (at_aload_n dc192_50 rfl).trans ?_
  refine (at_iconst (v := 3) dc192_51 rfl).trans ?_
  exact at_inv dc192_52 mc192 lm6_71 rfl rfl (Nat.le_of_ble_eq_true rfl) (Or.inl ⟨(ly32 hL), by decide⟩)
theorem b192_55 {X : pm_X} {d : Nat} {x1 : Int32} {x2 : Int32} {s0 : Int32} {g : pm_G} {iv : pm_V}  : pm_at X d 192 (55, [some (.ref 32), some (.int x1), some (.int x2)], [.int s0], g, iv) = some (some (.int s0), g, iv) := by
  exact at_iret dc192_55 mr192
-- Mod.began (I)V
theorem dc193_0 : decode (pm_mb 193) 0 = .ok (.aload_n 0, 1) := by decide +kernel
theorem dc193_1 : decode (pm_mb 193) 1 = .ok (.getfield 256, 3) := by decide +kernel
theorem dc193_4 : decode (pm_mb 193) 4 = .ok (.bipush 16, 2) := by decide +kernel
theorem dc193_6 : decode (pm_mb 193) 6 = .ok (.if_icmp .ge 23, 3) := by decide +kernel
theorem dc193_9 : decode (pm_mb 193) 9 = .ok (.aload_n 0, 1) := by decide +kernel
theorem dc193_10 : decode (pm_mb 193) 10 = .ok (.getfield 47, 3) := by decide +kernel
theorem dc193_13 : decode (pm_mb 193) 13 = .ok (.aload_n 0, 1) := by decide +kernel
theorem dc193_14 : decode (pm_mb 193) 14 = .ok (.getfield 256, 3) := by decide +kernel
theorem dc193_17 : decode (pm_mb 193) 17 = .ok (.iload_n 1, 1) := by decide +kernel
theorem dc193_18 : decode (pm_mb 193) 18 = .ok (.iastore, 1) := by decide +kernel
theorem dc193_19 : decode (pm_mb 193) 19 = .ok (.aload_n 0, 1) := by decide +kernel
theorem dc193_20 : decode (pm_mb 193) 20 = .ok (.dup, 1) := by decide +kernel
theorem dc193_21 : decode (pm_mb 193) 21 = .ok (.getfield 256, 3) := by decide +kernel
theorem dc193_24 : decode (pm_mb 193) 24 = .ok (.iconst 1, 1) := by decide +kernel
theorem dc193_25 : decode (pm_mb 193) 25 = .ok (.iadd, 1) := by decide +kernel
theorem dc193_26 : decode (pm_mb 193) 26 = .ok (.putfield 256, 3) := by decide +kernel
theorem dc193_29 : decode (pm_mb 193) 29 = .ok (.return_, 1) := by decide +kernel
theorem b193_0 {X : pm_X} {d : Nat} {x1 : Int32} {g : pm_G} {iv : pm_V} (hL : pm_lay g) : pm_at X d 193 (0, [some (.ref 32), some (.int x1)], [], g, iv) = if 16 ≤ (iv 32 25) then pm_at X d 193 (29, [some (.ref 32), some (.int x1)], [], g, iv) else pm_at X d 193 (9, [some (.ref 32), some (.int x1)], [], g, iv) := by
  refine (at_aload_n dc193_0 rfl).trans ?_
  refine (at_gfI dc193_1 mc193 lf6_256 fo6_25 (ly32 hL)).trans ?_
  refine (at_bipush (v := 16) dc193_4 (by decide)).trans ?_
  exact at_icmp_ge (t := 29) dc193_6 (by decide)
theorem b193_9 {X : pm_X} {d : Nat} {x1 : Int32} {g : pm_G} {iv : pm_V} (hL : pm_lay g) (i1 : vp_in ((iv 32 25)) 16) : pm_at X d 193 (9, [some (.ref 32), some (.int x1)], [], g, iv) = pm_at X d 193 (29, [some (.ref 32), some (.int x1)], [], g, (pm_iw (pm_iw iv 45 ((iv 32 25) : Int32).toNatClampNeg x1) 32 25 ((((pm_iw iv 45 ((iv 32 25) : Int32).toNatClampNeg x1) 32 25) + 1)))) := by
  refine (at_aload_n dc193_9 rfl).trans ?_
  refine (at_gfR dc193_10 mc193 lf6_47 fo6_24 (ly32 hL) (lr32_24 hL)).trans ?_
  refine (at_aload_n dc193_13 rfl).trans ?_
  refine (at_gfI dc193_14 mc193 lf6_256 fo6_25 (ly32 hL)).trans ?_
  refine (at_iload_n dc193_17 rfl).trans ?_
  refine (at_iast dc193_18 (ly45 hL) i1).trans ?_
  refine (at_aload_n dc193_19 rfl).trans ?_
  refine (at_dup dc193_20 rfl).trans ?_
  refine (at_gfI dc193_21 mc193 lf6_256 fo6_25 (ly32 hL)).trans ?_
  refine (at_iconst (v := 1) dc193_24 rfl).trans ?_
  refine (at_iadd dc193_25).trans ?_
  refine (at_pfI dc193_26 mc193 lf6_256 po6_25 (ly32 hL)).trans ?_
  rfl
theorem b193_29 {X : pm_X} {d : Nat} {x1 : Int32} {g : pm_G} {iv : pm_V}  : pm_at X d 193 (29, [some (.ref 32), some (.int x1)], [], g, iv) = some (none, g, iv) := by
  exact at_vret dc193_29 mr193
-- Mod.plainSize (I)I
theorem dc194_0 : decode (pm_mb 194) 0 = .ok (.aload_n 0, 1) := by decide +kernel
theorem dc194_1 : decode (pm_mb 194) 1 = .ok (.bipush 10, 2) := by decide +kernel
theorem dc194_3 : decode (pm_mb 194) 3 = .ok (.invokevirtual 259, 3) := by decide +kernel
theorem dc194_6 : decode (pm_mb 194) 6 = .ok (.aload_n 0, 1) := by decide +kernel
theorem dc194_7 : decode (pm_mb 194) 7 = .ok (.iload_n 1, 1) := by decide +kernel
theorem dc194_8 : decode (pm_mb 194) 8 = .ok (.iconst 3, 1) := by decide +kernel
theorem dc194_9 : decode (pm_mb 194) 9 = .ok (.invokevirtual 187, 3) := by decide +kernel
theorem dc194_12 : decode (pm_mb 194) 12 = .ok (.ireturn, 1) := by decide +kernel
theorem b194_0 {X : pm_X} {d : Nat} {x1 : Int32} {g : pm_G} {iv : pm_V} (hL : pm_lay g) : pm_at X d 194 (0, [some (.ref 32), some (.int x1)], [], g, iv) = pm_then X d 194 6 [some (.ref 32), some (.int x1)] [] (pm_c X d 193 [.ref 32, .int 10] g iv) := by
  refine (at_aload_n dc194_0 rfl).trans ?_
  refine (at_bipush (v := 10) dc194_1 (by decide)).trans ?_
  exact at_inv dc194_3 mc194 lm6_259 rfl rfl (Nat.le_of_ble_eq_true rfl) (Or.inl ⟨(ly32 hL), by decide⟩)
theorem b194_6 {X : pm_X} {d : Nat} {x1 : Int32} {g : pm_G} {iv : pm_V} (hL : pm_lay g) : pm_at X d 194 (6, [some (.ref 32), some (.int x1)], [], g, iv) = pm_then X d 194 12 [some (.ref 32), some (.int x1)] [] (pm_c X d 158 [.ref 32, .int x1, .int 3] g iv) := by
  refine (at_aload_n dc194_6 rfl).trans ?_
  refine (at_iload_n dc194_7 rfl).trans ?_
  refine (at_iconst (v := 3) dc194_8 rfl).trans ?_
  exact at_inv dc194_9 mc194 lm6_187 rfl rfl (Nat.le_of_ble_eq_true rfl) (Or.inl ⟨(ly32 hL), by decide⟩)
theorem b194_12 {X : pm_X} {d : Nat} {x1 : Int32} {s0 : Int32} {g : pm_G} {iv : pm_V}  : pm_at X d 194 (12, [some (.ref 32), some (.int x1)], [.int s0], g, iv) = some (some (.int s0), g, iv) := by
  exact at_iret dc194_12 mr194
-- Mod.churchSize (I)I
theorem dc195_0 : decode (pm_mb 195) 0 = .ok (.aload_n 0, 1) := by decide +kernel
theorem dc195_1 : decode (pm_mb 195) 1 = .ok (.iload_n 1, 1) := by decide +kernel
theorem dc195_2 : decode (pm_mb 195) 2 = .ok (.iconst 0, 1) := by decide +kernel
theorem dc195_3 : decode (pm_mb 195) 3 = .ok (.invokevirtual 187, 3) := by decide +kernel
theorem dc195_6 : decode (pm_mb 195) 6 = .ok (.iconst 2, 1) := by decide +kernel
theorem dc195_7 : decode (pm_mb 195) 7 = .ok (.if_icmp .ne 9, 3) := by decide +kernel
theorem dc195_10 : decode (pm_mb 195) 10 = .ok (.aload_n 0, 1) := by decide +kernel
theorem dc195_11 : decode (pm_mb 195) 11 = .ok (.bipush 14, 2) := by decide +kernel
theorem dc195_13 : decode (pm_mb 195) 13 = .ok (.invokevirtual 259, 3) := by decide +kernel
theorem dc195_16 : decode (pm_mb 195) 16 = .ok (.aload_n 0, 1) := by decide +kernel
theorem dc195_17 : decode (pm_mb 195) 17 = .ok (.bipush 13, 2) := by decide +kernel
theorem dc195_19 : decode (pm_mb 195) 19 = .ok (.invokevirtual 259, 3) := by decide +kernel
theorem dc195_22 : decode (pm_mb 195) 22 = .ok (.aload_n 0, 1) := by decide +kernel
theorem dc195_23 : decode (pm_mb 195) 23 = .ok (.iload_n 1, 1) := by decide +kernel
theorem dc195_24 : decode (pm_mb 195) 24 = .ok (.invokevirtual 262, 3) := by decide +kernel
theorem dc195_27 : decode (pm_mb 195) 27 = .ok (.bipush 100, 2) := by decide +kernel
theorem dc195_29 : decode (pm_mb 195) 29 = .ok (.isub, 1) := by decide +kernel
theorem dc195_30 : decode (pm_mb 195) 30 = .ok (.istore_n 2, 1) := by decide +kernel
theorem dc195_31 : decode (pm_mb 195) 31 = .ok (.aload_n 0, 1) := by decide +kernel
theorem dc195_32 : decode (pm_mb 195) 32 = .ok (.iload_n 1, 1) := by decide +kernel
theorem dc195_33 : decode (pm_mb 195) 33 = .ok (.iconst 0, 1) := by decide +kernel
theorem dc195_34 : decode (pm_mb 195) 34 = .ok (.invokevirtual 187, 3) := by decide +kernel
theorem dc195_37 : decode (pm_mb 195) 37 = .ok (.iconst 2, 1) := by decide +kernel
theorem dc195_38 : decode (pm_mb 195) 38 = .ok (.if_icmp .ne 9, 3) := by decide +kernel
theorem dc195_41 : decode (pm_mb 195) 41 = .ok (.iconst 2, 1) := by decide +kernel
theorem dc195_42 : decode (pm_mb 195) 42 = .ok (.iload_n 2, 1) := by decide +kernel
theorem dc195_43 : decode (pm_mb 195) 43 = .ok (.imul, 1) := by decide +kernel
theorem dc195_44 : decode (pm_mb 195) 44 = .ok (.goto 4, 3) := by decide +kernel
theorem dc195_47 : decode (pm_mb 195) 47 = .ok (.iload_n 2, 1) := by decide +kernel
theorem dc195_48 : decode (pm_mb 195) 48 = .ok (.ireturn, 1) := by decide +kernel
theorem b195_0 {X : pm_X} {d : Nat} {x1 : Int32} {g : pm_G} {iv : pm_V} (hL : pm_lay g) : pm_at X d 195 (0, [some (.ref 32), some (.int x1), none], [], g, iv) = pm_then X d 195 6 [some (.ref 32), some (.int x1), none] [] (pm_c X d 158 [.ref 32, .int x1, .int 0] g iv) := by
  refine (at_aload_n dc195_0 rfl).trans ?_
  refine (at_iload_n dc195_1 rfl).trans ?_
  refine (at_iconst (v := 0) dc195_2 rfl).trans ?_
  exact at_inv dc195_3 mc195 lm6_187 rfl rfl (Nat.le_of_ble_eq_true rfl) (Or.inl ⟨(ly32 hL), by decide⟩)
theorem b195_6 {X : pm_X} {d : Nat} {x1 : Int32} {s0 : Int32} {g : pm_G} {iv : pm_V}  : pm_at X d 195 (6, [some (.ref 32), some (.int x1), none], [.int s0], g, iv) = if ¬ s0 = 2 then pm_at X d 195 (16, [some (.ref 32), some (.int x1), none], [], g, iv) else pm_at X d 195 (10, [some (.ref 32), some (.int x1), none], [], g, iv) := by
  refine (at_iconst (v := 2) dc195_6 rfl).trans ?_
  exact at_icmp_ne (t := 16) dc195_7 (by decide)
theorem b195_10 {X : pm_X} {d : Nat} {x1 : Int32} {g : pm_G} {iv : pm_V} (hL : pm_lay g) : pm_at X d 195 (10, [some (.ref 32), some (.int x1), none], [], g, iv) = pm_then X d 195 16 [some (.ref 32), some (.int x1), none] [] (pm_c X d 193 [.ref 32, .int 14] g iv) := by
  refine (at_aload_n dc195_10 rfl).trans ?_
  refine (at_bipush (v := 14) dc195_11 (by decide)).trans ?_
  exact at_inv dc195_13 mc195 lm6_259 rfl rfl (Nat.le_of_ble_eq_true rfl) (Or.inl ⟨(ly32 hL), by decide⟩)
theorem b195_16 {X : pm_X} {d : Nat} {x1 : Int32} {g : pm_G} {iv : pm_V} (hL : pm_lay g) : pm_at X d 195 (16, [some (.ref 32), some (.int x1), none], [], g, iv) = pm_then X d 195 22 [some (.ref 32), some (.int x1), none] [] (pm_c X d 193 [.ref 32, .int 13] g iv) := by
  refine (at_aload_n dc195_16 rfl).trans ?_
  refine (at_bipush (v := 13) dc195_17 (by decide)).trans ?_
  exact at_inv dc195_19 mc195 lm6_259 rfl rfl (Nat.le_of_ble_eq_true rfl) (Or.inl ⟨(ly32 hL), by decide⟩)
theorem b195_22 {X : pm_X} {d : Nat} {x1 : Int32} {g : pm_G} {iv : pm_V} (hL : pm_lay g) : pm_at X d 195 (22, [some (.ref 32), some (.int x1), none], [], g, iv) = pm_then X d 195 27 [some (.ref 32), some (.int x1), none] [] (pm_c X d 194 [.ref 32, .int x1] g iv) := by
  refine (at_aload_n dc195_22 rfl).trans ?_
  refine (at_iload_n dc195_23 rfl).trans ?_
  exact at_inv dc195_24 mc195 lm6_262 rfl rfl (Nat.le_of_ble_eq_true rfl) (Or.inl ⟨(ly32 hL), by decide⟩)
theorem b195_27 {X : pm_X} {d : Nat} {x1 : Int32} {s0 : Int32} {g : pm_G} {iv : pm_V} (hL : pm_lay g) : pm_at X d 195 (27, [some (.ref 32), some (.int x1), none], [.int s0], g, iv) = pm_then X d 195 37 [some (.ref 32), some (.int x1), some (.int (s0 - 100))] [] (pm_c X d 158 [.ref 32, .int x1, .int 0] g iv) := by
  refine (at_bipush (v := 100) dc195_27 (by decide)).trans ?_
  refine (at_isub dc195_29).trans ?_
  refine (at_istore_n dc195_30 rfl).trans ?_
  refine (at_aload_n dc195_31 rfl).trans ?_
  refine (at_iload_n dc195_32 rfl).trans ?_
  refine (at_iconst (v := 0) dc195_33 rfl).trans ?_
  exact at_inv dc195_34 mc195 lm6_187 rfl rfl (Nat.le_of_ble_eq_true rfl) (Or.inl ⟨(ly32 hL), by decide⟩)
theorem b195_37 {X : pm_X} {d : Nat} {x1 : Int32} {x2 : Int32} {s0 : Int32} {g : pm_G} {iv : pm_V}  : pm_at X d 195 (37, [some (.ref 32), some (.int x1), some (.int x2)], [.int s0], g, iv) = if ¬ s0 = 2 then pm_at X d 195 (47, [some (.ref 32), some (.int x1), some (.int x2)], [], g, iv) else pm_at X d 195 (41, [some (.ref 32), some (.int x1), some (.int x2)], [], g, iv) := by
  refine (at_iconst (v := 2) dc195_37 rfl).trans ?_
  exact at_icmp_ne (t := 47) dc195_38 (by decide)
theorem b195_41 {X : pm_X} {d : Nat} {x1 : Int32} {x2 : Int32} {g : pm_G} {iv : pm_V}  : pm_at X d 195 (41, [some (.ref 32), some (.int x1), some (.int x2)], [], g, iv) = pm_at X d 195 (48, [some (.ref 32), some (.int x1), some (.int x2)], [.int (2 * x2)], g, iv) := by
  refine (at_iconst (v := 2) dc195_41 rfl).trans ?_
  refine (at_iload_n dc195_42 rfl).trans ?_
  refine (at_imul dc195_43).trans ?_
  refine (at_goto (t := 48) dc195_44 (by decide)).trans ?_
  rfl
theorem b195_47 {X : pm_X} {d : Nat} {x1 : Int32} {x2 : Int32} {g : pm_G} {iv : pm_V}  : pm_at X d 195 (47, [some (.ref 32), some (.int x1), some (.int x2)], [], g, iv) = pm_at X d 195 (48, [some (.ref 32), some (.int x1), some (.int x2)], [.int x2], g, iv) := by
  refine (at_iload_n dc195_47 rfl).trans ?_
  rfl
theorem b195_48 {X : pm_X} {d : Nat} {x1 : Int32} {x2 : Int32} {s0 : Int32} {g : pm_G} {iv : pm_V}  : pm_at X d 195 (48, [some (.ref 32), some (.int x1), some (.int x2)], [.int s0], g, iv) = some (some (.int s0), g, iv) := by
  exact at_iret dc195_48 mr195
-- Mod.markOf (I)I
theorem dc196_0 : decode (pm_mb 196) 0 = .ok (.aload_n 0, 1) := by decide +kernel
theorem dc196_1 : decode (pm_mb 196) 1 = .ok (.iload_n 1, 1) := by decide +kernel
theorem dc196_2 : decode (pm_mb 196) 2 = .ok (.iconst 0, 1) := by decide +kernel
theorem dc196_3 : decode (pm_mb 196) 3 = .ok (.invokevirtual 187, 3) := by decide +kernel
theorem dc196_6 : decode (pm_mb 196) 6 = .ok (.istore_n 2, 1) := by decide +kernel
theorem dc196_7 : decode (pm_mb 196) 7 = .ok (.iload_n 2, 1) := by decide +kernel
theorem dc196_8 : decode (pm_mb 196) 8 = .ok (.iconst 2, 1) := by decide +kernel
theorem dc196_9 : decode (pm_mb 196) 9 = .ok (.if_icmp .gt 23, 3) := by decide +kernel
theorem dc196_12 : decode (pm_mb 196) 12 = .ok (.aload_n 0, 1) := by decide +kernel
theorem dc196_13 : decode (pm_mb 196) 13 = .ok (.bipush 23, 2) := by decide +kernel
theorem dc196_15 : decode (pm_mb 196) 15 = .ok (.invokevirtual 259, 3) := by decide +kernel
theorem dc196_18 : decode (pm_mb 196) 18 = .ok (.aload_n 0, 1) := by decide +kernel
theorem dc196_19 : decode (pm_mb 196) 19 = .ok (.bipush 20, 2) := by decide +kernel
theorem dc196_21 : decode (pm_mb 196) 21 = .ok (.invokevirtual 259, 3) := by decide +kernel
theorem dc196_24 : decode (pm_mb 196) 24 = .ok (.iload_n 1, 1) := by decide +kernel
theorem dc196_25 : decode (pm_mb 196) 25 = .ok (.aload_n 0, 1) := by decide +kernel
theorem dc196_26 : decode (pm_mb 196) 26 = .ok (.iload_n 1, 1) := by decide +kernel
theorem dc196_27 : decode (pm_mb 196) 27 = .ok (.invokevirtual 265, 3) := by decide +kernel
theorem dc196_30 : decode (pm_mb 196) 30 = .ok (.isub, 1) := by decide +kernel
theorem dc196_31 : decode (pm_mb 196) 31 = .ok (.ireturn, 1) := by decide +kernel
theorem dc196_32 : decode (pm_mb 196) 32 = .ok (.iload_n 2, 1) := by decide +kernel
theorem dc196_33 : decode (pm_mb 196) 33 = .ok (.iconst 3, 1) := by decide +kernel
theorem dc196_34 : decode (pm_mb 196) 34 = .ok (.if_icmp .eq 19, 3) := by decide +kernel
theorem dc196_37 : decode (pm_mb 196) 37 = .ok (.aload_n 0, 1) := by decide +kernel
theorem dc196_38 : decode (pm_mb 196) 38 = .ok (.iload_n 2, 1) := by decide +kernel
theorem dc196_39 : decode (pm_mb 196) 39 = .ok (.iconst 5, 1) := by decide +kernel
theorem dc196_40 : decode (pm_mb 196) 40 = .ok (.if_icmp .ne 8, 3) := by decide +kernel
theorem dc196_43 : decode (pm_mb 196) 43 = .ok (.bipush 22, 2) := by decide +kernel
theorem dc196_45 : decode (pm_mb 196) 45 = .ok (.goto 5, 3) := by decide +kernel
theorem dc196_48 : decode (pm_mb 196) 48 = .ok (.bipush 24, 2) := by decide +kernel
theorem dc196_50 : decode (pm_mb 196) 50 = .ok (.invokevirtual 259, 3) := by decide +kernel
theorem dc196_53 : decode (pm_mb 196) 53 = .ok (.aload_n 0, 1) := by decide +kernel
theorem dc196_54 : decode (pm_mb 196) 54 = .ok (.bipush 21, 2) := by decide +kernel
theorem dc196_56 : decode (pm_mb 196) 56 = .ok (.invokevirtual 259, 3) := by decide +kernel
theorem dc196_59 : decode (pm_mb 196) 59 = .ok (.aload_n 0, 1) := by decide +kernel
theorem dc196_60 : decode (pm_mb 196) 60 = .ok (.bipush 20, 2) := by decide +kernel
theorem dc196_62 : decode (pm_mb 196) 62 = .ok (.invokevirtual 259, 3) := by decide +kernel
theorem dc196_65 : decode (pm_mb 196) 65 = .ok (.iload_n 1, 1) := by decide +kernel
theorem dc196_66 : decode (pm_mb 196) 66 = .ok (.aload_n 0, 1) := by decide +kernel
theorem dc196_67 : decode (pm_mb 196) 67 = .ok (.iload_n 1, 1) := by decide +kernel
theorem dc196_68 : decode (pm_mb 196) 68 = .ok (.iconst 2, 1) := by decide +kernel
theorem dc196_69 : decode (pm_mb 196) 69 = .ok (.invokevirtual 187, 3) := by decide +kernel
theorem dc196_72 : decode (pm_mb 196) 72 = .ok (.iadd, 1) := by decide +kernel
theorem dc196_73 : decode (pm_mb 196) 73 = .ok (.istore_n 3, 1) := by decide +kernel
theorem dc196_74 : decode (pm_mb 196) 74 = .ok (.iload_n 2, 1) := by decide +kernel
theorem dc196_75 : decode (pm_mb 196) 75 = .ok (.iconst 3, 1) := by decide +kernel
theorem dc196_76 : decode (pm_mb 196) 76 = .ok (.if_icmp .ne 7, 3) := by decide +kernel
theorem dc196_79 : decode (pm_mb 196) 79 = .ok (.iload_n 3, 1) := by decide +kernel
theorem dc196_80 : decode (pm_mb 196) 80 = .ok (.goto 19, 3) := by decide +kernel
theorem dc196_83 : decode (pm_mb 196) 83 = .ok (.iload_n 2, 1) := by decide +kernel
theorem dc196_84 : decode (pm_mb 196) 84 = .ok (.iconst 5, 1) := by decide +kernel
theorem dc196_85 : decode (pm_mb 196) 85 = .ok (.if_icmp .ne 11, 3) := by decide +kernel
theorem dc196_88 : decode (pm_mb 196) 88 = .ok (.iload_n 3, 1) := by decide +kernel
theorem dc196_89 : decode (pm_mb 196) 89 = .ok (.sipush 1000, 3) := by decide +kernel
theorem dc196_92 : decode (pm_mb 196) 92 = .ok (.isub, 1) := by decide +kernel
theorem dc196_93 : decode (pm_mb 196) 93 = .ok (.goto 6, 3) := by decide +kernel
theorem dc196_96 : decode (pm_mb 196) 96 = .ok (.iconst 2, 1) := by decide +kernel
theorem dc196_97 : decode (pm_mb 196) 97 = .ok (.iload_n 3, 1) := by decide +kernel
theorem dc196_98 : decode (pm_mb 196) 98 = .ok (.imul, 1) := by decide +kernel
theorem dc196_99 : decode (pm_mb 196) 99 = .ok (.ireturn, 1) := by decide +kernel
theorem b196_0 {X : pm_X} {d : Nat} {x1 : Int32} {g : pm_G} {iv : pm_V} (hL : pm_lay g) : pm_at X d 196 (0, [some (.ref 32), some (.int x1), none, none], [], g, iv) = pm_then X d 196 6 [some (.ref 32), some (.int x1), none, none] [] (pm_c X d 158 [.ref 32, .int x1, .int 0] g iv) := by
  refine (at_aload_n dc196_0 rfl).trans ?_
  refine (at_iload_n dc196_1 rfl).trans ?_
  refine (at_iconst (v := 0) dc196_2 rfl).trans ?_
  exact at_inv dc196_3 mc196 lm6_187 rfl rfl (Nat.le_of_ble_eq_true rfl) (Or.inl ⟨(ly32 hL), by decide⟩)
theorem b196_6 {X : pm_X} {d : Nat} {x1 : Int32} {s0 : Int32} {g : pm_G} {iv : pm_V}  : pm_at X d 196 (6, [some (.ref 32), some (.int x1), none, none], [.int s0], g, iv) = if 2 < s0 then pm_at X d 196 (32, [some (.ref 32), some (.int x1), some (.int s0), none], [], g, iv) else pm_at X d 196 (12, [some (.ref 32), some (.int x1), some (.int s0), none], [], g, iv) := by
  refine (at_istore_n dc196_6 rfl).trans ?_
  refine (at_iload_n dc196_7 rfl).trans ?_
  refine (at_iconst (v := 2) dc196_8 rfl).trans ?_
  exact at_icmp_gt (t := 32) dc196_9 (by decide)
theorem b196_12 {X : pm_X} {d : Nat} {x1 : Int32} {x2 : Int32} {g : pm_G} {iv : pm_V} (hL : pm_lay g) : pm_at X d 196 (12, [some (.ref 32), some (.int x1), some (.int x2), none], [], g, iv) = pm_then X d 196 18 [some (.ref 32), some (.int x1), some (.int x2), none] [] (pm_c X d 193 [.ref 32, .int 23] g iv) := by
  refine (at_aload_n dc196_12 rfl).trans ?_
  refine (at_bipush (v := 23) dc196_13 (by decide)).trans ?_
  exact at_inv dc196_15 mc196 lm6_259 rfl rfl (Nat.le_of_ble_eq_true rfl) (Or.inl ⟨(ly32 hL), by decide⟩)
theorem b196_18 {X : pm_X} {d : Nat} {x1 : Int32} {x2 : Int32} {g : pm_G} {iv : pm_V} (hL : pm_lay g) : pm_at X d 196 (18, [some (.ref 32), some (.int x1), some (.int x2), none], [], g, iv) = pm_then X d 196 24 [some (.ref 32), some (.int x1), some (.int x2), none] [] (pm_c X d 193 [.ref 32, .int 20] g iv) := by
  refine (at_aload_n dc196_18 rfl).trans ?_
  refine (at_bipush (v := 20) dc196_19 (by decide)).trans ?_
  exact at_inv dc196_21 mc196 lm6_259 rfl rfl (Nat.le_of_ble_eq_true rfl) (Or.inl ⟨(ly32 hL), by decide⟩)
theorem b196_24 {X : pm_X} {d : Nat} {x1 : Int32} {x2 : Int32} {g : pm_G} {iv : pm_V} (hL : pm_lay g) : pm_at X d 196 (24, [some (.ref 32), some (.int x1), some (.int x2), none], [], g, iv) = pm_then X d 196 30 [some (.ref 32), some (.int x1), some (.int x2), none] [.int x1] (pm_c X d 195 [.ref 32, .int x1] g iv) := by
  refine (at_iload_n dc196_24 rfl).trans ?_
  refine (at_aload_n dc196_25 rfl).trans ?_
  refine (at_iload_n dc196_26 rfl).trans ?_
  exact at_inv dc196_27 mc196 lm6_265 rfl rfl (Nat.le_of_ble_eq_true rfl) (Or.inl ⟨(ly32 hL), by decide⟩)
theorem b196_30 {X : pm_X} {d : Nat} {x1 : Int32} {x2 : Int32} {s0 : Int32} {s1 : Int32} {g : pm_G} {iv : pm_V}  : pm_at X d 196 (30, [some (.ref 32), some (.int x1), some (.int x2), none], [.int s0, .int s1], g, iv) = some (some (.int (s1 - s0)), g, iv) := by
  refine (at_isub dc196_30).trans ?_
  exact at_iret dc196_31 mr196
theorem b196_32 {X : pm_X} {d : Nat} {x1 : Int32} {x2 : Int32} {g : pm_G} {iv : pm_V}  : pm_at X d 196 (32, [some (.ref 32), some (.int x1), some (.int x2), none], [], g, iv) = if x2 = 3 then pm_at X d 196 (53, [some (.ref 32), some (.int x1), some (.int x2), none], [], g, iv) else pm_at X d 196 (37, [some (.ref 32), some (.int x1), some (.int x2), none], [], g, iv) := by
  refine (at_iload_n dc196_32 rfl).trans ?_
  refine (at_iconst (v := 3) dc196_33 rfl).trans ?_
  exact at_icmp_eq (t := 53) dc196_34 (by decide)
theorem b196_37 {X : pm_X} {d : Nat} {x1 : Int32} {x2 : Int32} {g : pm_G} {iv : pm_V}  : pm_at X d 196 (37, [some (.ref 32), some (.int x1), some (.int x2), none], [], g, iv) = if ¬ x2 = 5 then pm_at X d 196 (48, [some (.ref 32), some (.int x1), some (.int x2), none], [.ref 32], g, iv) else pm_at X d 196 (43, [some (.ref 32), some (.int x1), some (.int x2), none], [.ref 32], g, iv) := by
  refine (at_aload_n dc196_37 rfl).trans ?_
  refine (at_iload_n dc196_38 rfl).trans ?_
  refine (at_iconst (v := 5) dc196_39 rfl).trans ?_
  exact at_icmp_ne (t := 48) dc196_40 (by decide)
theorem b196_43 {X : pm_X} {d : Nat} {x1 : Int32} {x2 : Int32} {g : pm_G} {iv : pm_V}  : pm_at X d 196 (43, [some (.ref 32), some (.int x1), some (.int x2), none], [.ref 32], g, iv) = pm_at X d 196 (50, [some (.ref 32), some (.int x1), some (.int x2), none], [.int 22, .ref 32], g, iv) := by
  refine (at_bipush (v := 22) dc196_43 (by decide)).trans ?_
  refine (at_goto (t := 50) dc196_45 (by decide)).trans ?_
  rfl
theorem b196_48 {X : pm_X} {d : Nat} {x1 : Int32} {x2 : Int32} {g : pm_G} {iv : pm_V}  : pm_at X d 196 (48, [some (.ref 32), some (.int x1), some (.int x2), none], [.ref 32], g, iv) = pm_at X d 196 (50, [some (.ref 32), some (.int x1), some (.int x2), none], [.int 24, .ref 32], g, iv) := by
  refine (at_bipush (v := 24) dc196_48 (by decide)).trans ?_
  rfl
theorem b196_50 {X : pm_X} {d : Nat} {x1 : Int32} {x2 : Int32} {s0 : Int32} {g : pm_G} {iv : pm_V} (hL : pm_lay g) : pm_at X d 196 (50, [some (.ref 32), some (.int x1), some (.int x2), none], [.int s0, .ref 32], g, iv) = pm_then X d 196 53 [some (.ref 32), some (.int x1), some (.int x2), none] [] (pm_c X d 193 [.ref 32, .int s0] g iv) := by
  exact at_inv dc196_50 mc196 lm6_259 rfl rfl (Nat.le_of_ble_eq_true rfl) (Or.inl ⟨(ly32 hL), by decide⟩)
theorem b196_53 {X : pm_X} {d : Nat} {x1 : Int32} {x2 : Int32} {g : pm_G} {iv : pm_V} (hL : pm_lay g) : pm_at X d 196 (53, [some (.ref 32), some (.int x1), some (.int x2), none], [], g, iv) = pm_then X d 196 59 [some (.ref 32), some (.int x1), some (.int x2), none] [] (pm_c X d 193 [.ref 32, .int 21] g iv) := by
  refine (at_aload_n dc196_53 rfl).trans ?_
  refine (at_bipush (v := 21) dc196_54 (by decide)).trans ?_
  exact at_inv dc196_56 mc196 lm6_259 rfl rfl (Nat.le_of_ble_eq_true rfl) (Or.inl ⟨(ly32 hL), by decide⟩)
theorem b196_59 {X : pm_X} {d : Nat} {x1 : Int32} {x2 : Int32} {g : pm_G} {iv : pm_V} (hL : pm_lay g) : pm_at X d 196 (59, [some (.ref 32), some (.int x1), some (.int x2), none], [], g, iv) = pm_then X d 196 65 [some (.ref 32), some (.int x1), some (.int x2), none] [] (pm_c X d 193 [.ref 32, .int 20] g iv) := by
  refine (at_aload_n dc196_59 rfl).trans ?_
  refine (at_bipush (v := 20) dc196_60 (by decide)).trans ?_
  exact at_inv dc196_62 mc196 lm6_259 rfl rfl (Nat.le_of_ble_eq_true rfl) (Or.inl ⟨(ly32 hL), by decide⟩)
theorem b196_65 {X : pm_X} {d : Nat} {x1 : Int32} {x2 : Int32} {g : pm_G} {iv : pm_V} (hL : pm_lay g) : pm_at X d 196 (65, [some (.ref 32), some (.int x1), some (.int x2), none], [], g, iv) = pm_then X d 196 72 [some (.ref 32), some (.int x1), some (.int x2), none] [.int x1] (pm_c X d 158 [.ref 32, .int x1, .int 2] g iv) := by
  refine (at_iload_n dc196_65 rfl).trans ?_
  refine (at_aload_n dc196_66 rfl).trans ?_
  refine (at_iload_n dc196_67 rfl).trans ?_
  refine (at_iconst (v := 2) dc196_68 rfl).trans ?_
  exact at_inv dc196_69 mc196 lm6_187 rfl rfl (Nat.le_of_ble_eq_true rfl) (Or.inl ⟨(ly32 hL), by decide⟩)
theorem b196_72 {X : pm_X} {d : Nat} {x1 : Int32} {x2 : Int32} {s0 : Int32} {s1 : Int32} {g : pm_G} {iv : pm_V}  : pm_at X d 196 (72, [some (.ref 32), some (.int x1), some (.int x2), none], [.int s0, .int s1], g, iv) = if ¬ x2 = 3 then pm_at X d 196 (83, [some (.ref 32), some (.int x1), some (.int x2), some (.int (s1 + s0))], [], g, iv) else pm_at X d 196 (79, [some (.ref 32), some (.int x1), some (.int x2), some (.int (s1 + s0))], [], g, iv) := by
  refine (at_iadd dc196_72).trans ?_
  refine (at_istore_n dc196_73 rfl).trans ?_
  refine (at_iload_n dc196_74 rfl).trans ?_
  refine (at_iconst (v := 3) dc196_75 rfl).trans ?_
  exact at_icmp_ne (t := 83) dc196_76 (by decide)
theorem b196_79 {X : pm_X} {d : Nat} {x1 : Int32} {x2 : Int32} {x3 : Int32} {g : pm_G} {iv : pm_V}  : pm_at X d 196 (79, [some (.ref 32), some (.int x1), some (.int x2), some (.int x3)], [], g, iv) = pm_at X d 196 (99, [some (.ref 32), some (.int x1), some (.int x2), some (.int x3)], [.int x3], g, iv) := by
  refine (at_iload_n dc196_79 rfl).trans ?_
  refine (at_goto (t := 99) dc196_80 (by decide)).trans ?_
  rfl
theorem b196_83 {X : pm_X} {d : Nat} {x1 : Int32} {x2 : Int32} {x3 : Int32} {g : pm_G} {iv : pm_V}  : pm_at X d 196 (83, [some (.ref 32), some (.int x1), some (.int x2), some (.int x3)], [], g, iv) = if ¬ x2 = 5 then pm_at X d 196 (96, [some (.ref 32), some (.int x1), some (.int x2), some (.int x3)], [], g, iv) else pm_at X d 196 (88, [some (.ref 32), some (.int x1), some (.int x2), some (.int x3)], [], g, iv) := by
  refine (at_iload_n dc196_83 rfl).trans ?_
  refine (at_iconst (v := 5) dc196_84 rfl).trans ?_
  exact at_icmp_ne (t := 96) dc196_85 (by decide)
theorem b196_88 {X : pm_X} {d : Nat} {x1 : Int32} {x2 : Int32} {x3 : Int32} {g : pm_G} {iv : pm_V}  : pm_at X d 196 (88, [some (.ref 32), some (.int x1), some (.int x2), some (.int x3)], [], g, iv) = pm_at X d 196 (99, [some (.ref 32), some (.int x1), some (.int x2), some (.int x3)], [.int (x3 - 1000)], g, iv) := by
  refine (at_iload_n dc196_88 rfl).trans ?_
  refine (at_sipush (v := 1000) dc196_89 (by decide)).trans ?_
  refine (at_isub dc196_92).trans ?_
  refine (at_goto (t := 99) dc196_93 (by decide)).trans ?_
  rfl
theorem b196_96 {X : pm_X} {d : Nat} {x1 : Int32} {x2 : Int32} {x3 : Int32} {g : pm_G} {iv : pm_V}  : pm_at X d 196 (96, [some (.ref 32), some (.int x1), some (.int x2), some (.int x3)], [], g, iv) = pm_at X d 196 (99, [some (.ref 32), some (.int x1), some (.int x2), some (.int x3)], [.int (2 * x3)], g, iv) := by
  refine (at_iconst (v := 2) dc196_96 rfl).trans ?_
  refine (at_iload_n dc196_97 rfl).trans ?_
  refine (at_imul dc196_98).trans ?_
  rfl
theorem b196_99 {X : pm_X} {d : Nat} {x1 : Int32} {x2 : Int32} {x3 : Int32} {s0 : Int32} {g : pm_G} {iv : pm_V}  : pm_at X d 196 (99, [some (.ref 32), some (.int x1), some (.int x2), some (.int x3)], [.int s0], g, iv) = some (some (.int s0), g, iv) := by
  exact at_iret dc196_99 mr196
-- Mod.sizeOf (I)I
theorem dc197_0 : decode (pm_mb 197) 0 = .ok (.aload_n 0, 1) := by decide +kernel
theorem dc197_1 : decode (pm_mb 197) 1 = .ok (.iload_n 1, 1) := by decide +kernel
theorem dc197_2 : decode (pm_mb 197) 2 = .ok (.iconst 0, 1) := by decide +kernel
theorem dc197_3 : decode (pm_mb 197) 3 = .ok (.invokevirtual 187, 3) := by decide +kernel
theorem dc197_6 : decode (pm_mb 197) 6 = .ok (.istore_n 2, 1) := by decide +kernel
theorem dc197_7 : decode (pm_mb 197) 7 = .ok (.iload_n 2, 1) := by decide +kernel
theorem dc197_8 : decode (pm_mb 197) 8 = .ok (.iconst 2, 1) := by decide +kernel
theorem dc197_9 : decode (pm_mb 197) 9 = .ok (.if_icmp .gt 9, 3) := by decide +kernel
theorem dc197_12 : decode (pm_mb 197) 12 = .ok (.aload_n 0, 1) := by decide +kernel
theorem dc197_13 : decode (pm_mb 197) 13 = .ok (.iload_n 1, 1) := by decide +kernel
theorem dc197_14 : decode (pm_mb 197) 14 = .ok (.invokevirtual 265, 3) := by decide +kernel
theorem dc197_17 : decode (pm_mb 197) 17 = .ok (.ireturn, 1) := by decide +kernel
theorem dc197_18 : decode (pm_mb 197) 18 = .ok (.iload_n 2, 1) := by decide +kernel
theorem dc197_19 : decode (pm_mb 197) 19 = .ok (.iconst 4, 1) := by decide +kernel
theorem dc197_20 : decode (pm_mb 197) 20 = .ok (.if_icmp .ne 9, 3) := by decide +kernel
theorem dc197_23 : decode (pm_mb 197) 23 = .ok (.aload_n 0, 1) := by decide +kernel
theorem dc197_24 : decode (pm_mb 197) 24 = .ok (.bipush 12, 2) := by decide +kernel
theorem dc197_26 : decode (pm_mb 197) 26 = .ok (.invokevirtual 259, 3) := by decide +kernel
theorem dc197_29 : decode (pm_mb 197) 29 = .ok (.aload_n 0, 1) := by decide +kernel
theorem dc197_30 : decode (pm_mb 197) 30 = .ok (.bipush 11, 2) := by decide +kernel
theorem dc197_32 : decode (pm_mb 197) 32 = .ok (.invokevirtual 259, 3) := by decide +kernel
theorem dc197_35 : decode (pm_mb 197) 35 = .ok (.aload_n 0, 1) := by decide +kernel
theorem dc197_36 : decode (pm_mb 197) 36 = .ok (.iload_n 1, 1) := by decide +kernel
theorem dc197_37 : decode (pm_mb 197) 37 = .ok (.invokevirtual 262, 3) := by decide +kernel
theorem dc197_40 : decode (pm_mb 197) 40 = .ok (.istore_n 3, 1) := by decide +kernel
theorem dc197_41 : decode (pm_mb 197) 41 = .ok (.iload_n 3, 1) := by decide +kernel
theorem dc197_42 : decode (pm_mb 197) 42 = .ok (.aload_n 0, 1) := by decide +kernel
theorem dc197_43 : decode (pm_mb 197) 43 = .ok (.iload_n 1, 1) := by decide +kernel
theorem dc197_44 : decode (pm_mb 197) 44 = .ok (.invokevirtual 268, 3) := by decide +kernel
theorem dc197_47 : decode (pm_mb 197) 47 = .ok (.iadd, 1) := by decide +kernel
theorem dc197_48 : decode (pm_mb 197) 48 = .ok (.istore_n 3, 1) := by decide +kernel
theorem dc197_49 : decode (pm_mb 197) 49 = .ok (.iload_n 2, 1) := by decide +kernel
theorem dc197_50 : decode (pm_mb 197) 50 = .ok (.iconst 4, 1) := by decide +kernel
theorem dc197_51 : decode (pm_mb 197) 51 = .ok (.if_icmp .ne 8, 3) := by decide +kernel
theorem dc197_54 : decode (pm_mb 197) 54 = .ok (.iload_n 3, 1) := by decide +kernel
theorem dc197_55 : decode (pm_mb 197) 55 = .ok (.ineg, 1) := by decide +kernel
theorem dc197_56 : decode (pm_mb 197) 56 = .ok (.goto 4, 3) := by decide +kernel
theorem dc197_59 : decode (pm_mb 197) 59 = .ok (.iload_n 3, 1) := by decide +kernel
theorem dc197_60 : decode (pm_mb 197) 60 = .ok (.ireturn, 1) := by decide +kernel
theorem b197_0 {X : pm_X} {d : Nat} {x1 : Int32} {g : pm_G} {iv : pm_V} (hL : pm_lay g) : pm_at X d 197 (0, [some (.ref 32), some (.int x1), none, none], [], g, iv) = pm_then X d 197 6 [some (.ref 32), some (.int x1), none, none] [] (pm_c X d 158 [.ref 32, .int x1, .int 0] g iv) := by
  refine (at_aload_n dc197_0 rfl).trans ?_
  refine (at_iload_n dc197_1 rfl).trans ?_
  refine (at_iconst (v := 0) dc197_2 rfl).trans ?_
  exact at_inv dc197_3 mc197 lm6_187 rfl rfl (Nat.le_of_ble_eq_true rfl) (Or.inl ⟨(ly32 hL), by decide⟩)
theorem b197_6 {X : pm_X} {d : Nat} {x1 : Int32} {s0 : Int32} {g : pm_G} {iv : pm_V}  : pm_at X d 197 (6, [some (.ref 32), some (.int x1), none, none], [.int s0], g, iv) = if 2 < s0 then pm_at X d 197 (18, [some (.ref 32), some (.int x1), some (.int s0), none], [], g, iv) else pm_at X d 197 (12, [some (.ref 32), some (.int x1), some (.int s0), none], [], g, iv) := by
  refine (at_istore_n dc197_6 rfl).trans ?_
  refine (at_iload_n dc197_7 rfl).trans ?_
  refine (at_iconst (v := 2) dc197_8 rfl).trans ?_
  exact at_icmp_gt (t := 18) dc197_9 (by decide)
theorem b197_12 {X : pm_X} {d : Nat} {x1 : Int32} {x2 : Int32} {g : pm_G} {iv : pm_V} (hL : pm_lay g) : pm_at X d 197 (12, [some (.ref 32), some (.int x1), some (.int x2), none], [], g, iv) = pm_then X d 197 17 [some (.ref 32), some (.int x1), some (.int x2), none] [] (pm_c X d 195 [.ref 32, .int x1] g iv) := by
  refine (at_aload_n dc197_12 rfl).trans ?_
  refine (at_iload_n dc197_13 rfl).trans ?_
  exact at_inv dc197_14 mc197 lm6_265 rfl rfl (Nat.le_of_ble_eq_true rfl) (Or.inl ⟨(ly32 hL), by decide⟩)
theorem b197_17 {X : pm_X} {d : Nat} {x1 : Int32} {x2 : Int32} {s0 : Int32} {g : pm_G} {iv : pm_V}  : pm_at X d 197 (17, [some (.ref 32), some (.int x1), some (.int x2), none], [.int s0], g, iv) = some (some (.int s0), g, iv) := by
  exact at_iret dc197_17 mr197
theorem b197_18 {X : pm_X} {d : Nat} {x1 : Int32} {x2 : Int32} {g : pm_G} {iv : pm_V}  : pm_at X d 197 (18, [some (.ref 32), some (.int x1), some (.int x2), none], [], g, iv) = if ¬ x2 = 4 then pm_at X d 197 (29, [some (.ref 32), some (.int x1), some (.int x2), none], [], g, iv) else pm_at X d 197 (23, [some (.ref 32), some (.int x1), some (.int x2), none], [], g, iv) := by
  refine (at_iload_n dc197_18 rfl).trans ?_
  refine (at_iconst (v := 4) dc197_19 rfl).trans ?_
  exact at_icmp_ne (t := 29) dc197_20 (by decide)
theorem b197_23 {X : pm_X} {d : Nat} {x1 : Int32} {x2 : Int32} {g : pm_G} {iv : pm_V} (hL : pm_lay g) : pm_at X d 197 (23, [some (.ref 32), some (.int x1), some (.int x2), none], [], g, iv) = pm_then X d 197 29 [some (.ref 32), some (.int x1), some (.int x2), none] [] (pm_c X d 193 [.ref 32, .int 12] g iv) := by
  refine (at_aload_n dc197_23 rfl).trans ?_
  refine (at_bipush (v := 12) dc197_24 (by decide)).trans ?_
  exact at_inv dc197_26 mc197 lm6_259 rfl rfl (Nat.le_of_ble_eq_true rfl) (Or.inl ⟨(ly32 hL), by decide⟩)
theorem b197_29 {X : pm_X} {d : Nat} {x1 : Int32} {x2 : Int32} {g : pm_G} {iv : pm_V} (hL : pm_lay g) : pm_at X d 197 (29, [some (.ref 32), some (.int x1), some (.int x2), none], [], g, iv) = pm_then X d 197 35 [some (.ref 32), some (.int x1), some (.int x2), none] [] (pm_c X d 193 [.ref 32, .int 11] g iv) := by
  refine (at_aload_n dc197_29 rfl).trans ?_
  refine (at_bipush (v := 11) dc197_30 (by decide)).trans ?_
  exact at_inv dc197_32 mc197 lm6_259 rfl rfl (Nat.le_of_ble_eq_true rfl) (Or.inl ⟨(ly32 hL), by decide⟩)
theorem b197_35 {X : pm_X} {d : Nat} {x1 : Int32} {x2 : Int32} {g : pm_G} {iv : pm_V} (hL : pm_lay g) : pm_at X d 197 (35, [some (.ref 32), some (.int x1), some (.int x2), none], [], g, iv) = pm_then X d 197 40 [some (.ref 32), some (.int x1), some (.int x2), none] [] (pm_c X d 194 [.ref 32, .int x1] g iv) := by
  refine (at_aload_n dc197_35 rfl).trans ?_
  refine (at_iload_n dc197_36 rfl).trans ?_
  exact at_inv dc197_37 mc197 lm6_262 rfl rfl (Nat.le_of_ble_eq_true rfl) (Or.inl ⟨(ly32 hL), by decide⟩)
theorem b197_40 {X : pm_X} {d : Nat} {x1 : Int32} {x2 : Int32} {s0 : Int32} {g : pm_G} {iv : pm_V} (hL : pm_lay g) : pm_at X d 197 (40, [some (.ref 32), some (.int x1), some (.int x2), none], [.int s0], g, iv) = pm_then X d 197 47 [some (.ref 32), some (.int x1), some (.int x2), some (.int s0)] [.int s0] (pm_c X d 196 [.ref 32, .int x1] g iv) := by
  refine (at_istore_n dc197_40 rfl).trans ?_
  refine (at_iload_n dc197_41 rfl).trans ?_
  refine (at_aload_n dc197_42 rfl).trans ?_
  refine (at_iload_n dc197_43 rfl).trans ?_
  exact at_inv dc197_44 mc197 lm6_268 rfl rfl (Nat.le_of_ble_eq_true rfl) (Or.inl ⟨(ly32 hL), by decide⟩)
theorem b197_47 {X : pm_X} {d : Nat} {x1 : Int32} {x2 : Int32} {x3 : Int32} {s0 : Int32} {s1 : Int32} {g : pm_G} {iv : pm_V}  : pm_at X d 197 (47, [some (.ref 32), some (.int x1), some (.int x2), some (.int x3)], [.int s0, .int s1], g, iv) = if ¬ x2 = 4 then pm_at X d 197 (59, [some (.ref 32), some (.int x1), some (.int x2), some (.int (s1 + s0))], [], g, iv) else pm_at X d 197 (54, [some (.ref 32), some (.int x1), some (.int x2), some (.int (s1 + s0))], [], g, iv) := by
  refine (at_iadd dc197_47).trans ?_
  refine (at_istore_n dc197_48 rfl).trans ?_
  refine (at_iload_n dc197_49 rfl).trans ?_
  refine (at_iconst (v := 4) dc197_50 rfl).trans ?_
  exact at_icmp_ne (t := 59) dc197_51 (by decide)
theorem b197_54 {X : pm_X} {d : Nat} {x1 : Int32} {x2 : Int32} {x3 : Int32} {g : pm_G} {iv : pm_V}  : pm_at X d 197 (54, [some (.ref 32), some (.int x1), some (.int x2), some (.int x3)], [], g, iv) = pm_at X d 197 (60, [some (.ref 32), some (.int x1), some (.int x2), some (.int x3)], [.int (-x3)], g, iv) := by
  refine (at_iload_n dc197_54 rfl).trans ?_
  refine (at_ineg dc197_55).trans ?_
  refine (at_goto (t := 60) dc197_56 (by decide)).trans ?_
  rfl
theorem b197_59 {X : pm_X} {d : Nat} {x1 : Int32} {x2 : Int32} {x3 : Int32} {g : pm_G} {iv : pm_V}  : pm_at X d 197 (59, [some (.ref 32), some (.int x1), some (.int x2), some (.int x3)], [], g, iv) = pm_at X d 197 (60, [some (.ref 32), some (.int x1), some (.int x2), some (.int x3)], [.int x3], g, iv) := by
  refine (at_iload_n dc197_59 rfl).trans ?_
  rfl
theorem b197_60 {X : pm_X} {d : Nat} {x1 : Int32} {x2 : Int32} {x3 : Int32} {s0 : Int32} {g : pm_G} {iv : pm_V}  : pm_at X d 197 (60, [some (.ref 32), some (.int x1), some (.int x2), some (.int x3)], [.int s0], g, iv) = some (some (.int s0), g, iv) := by
  exact at_iret dc197_60 mr197
-- Mod.ask (II)I
theorem dc198_0 : decode (pm_mb 198) 0 = .ok (.aload_n 0, 1) := by decide +kernel
theorem dc198_1 : decode (pm_mb 198) 1 = .ok (.iconst 0, 1) := by decide +kernel
theorem dc198_2 : decode (pm_mb 198) 2 = .ok (.putfield 50, 3) := by decide +kernel
theorem dc198_5 : decode (pm_mb 198) 5 = .ok (.aload_n 0, 1) := by decide +kernel
theorem dc198_6 : decode (pm_mb 198) 6 = .ok (.iload_n 1, 1) := by decide +kernel
theorem dc198_7 : decode (pm_mb 198) 7 = .ok (.invokevirtual 184, 3) := by decide +kernel
theorem dc198_10 : decode (pm_mb 198) 10 = .ok (.ifCond .eq 13, 3) := by decide +kernel
theorem dc198_13 : decode (pm_mb 198) 13 = .ok (.iload_n 2, 1) := by decide +kernel
theorem dc198_14 : decode (pm_mb 198) 14 = .ok (.i2l, 1) := by decide +kernel
theorem dc198_15 : decode (pm_mb 198) 15 = .ok (.lconst 0, 1) := by decide +kernel
theorem dc198_16 : decode (pm_mb 198) 16 = .ok (.lconst 1, 1) := by decide +kernel
theorem dc198_17 : decode (pm_mb 198) 17 = .ok (.invokestatic 60, 3) := by decide +kernel
theorem dc198_20 : decode (pm_mb 198) 20 = .ok (.ifCond .ne 6, 3) := by decide +kernel
theorem dc198_23 : decode (pm_mb 198) 23 = .ok (.ldc 70, 2) := by decide +kernel
theorem dc198_25 : decode (pm_mb 198) 25 = .ok (.ireturn, 1) := by decide +kernel
theorem dc198_26 : decode (pm_mb 198) 26 = .ok (.aload_n 0, 1) := by decide +kernel
theorem dc198_27 : decode (pm_mb 198) 27 = .ok (.iconst 0, 1) := by decide +kernel
theorem dc198_28 : decode (pm_mb 198) 28 = .ok (.putfield 256, 3) := by decide +kernel
theorem dc198_31 : decode (pm_mb 198) 31 = .ok (.iload_n 2, 1) := by decide +kernel
theorem dc198_32 : decode (pm_mb 198) 32 = .ok (.ifCond .ne 11, 3) := by decide +kernel
theorem dc198_35 : decode (pm_mb 198) 35 = .ok (.aload_n 0, 1) := by decide +kernel
theorem dc198_36 : decode (pm_mb 198) 36 = .ok (.iload_n 1, 1) := by decide +kernel
theorem dc198_37 : decode (pm_mb 198) 37 = .ok (.invokevirtual 271, 3) := by decide +kernel
theorem dc198_40 : decode (pm_mb 198) 40 = .ok (.goto 8, 3) := by decide +kernel
theorem dc198_43 : decode (pm_mb 198) 43 = .ok (.aload_n 0, 1) := by decide +kernel
theorem dc198_44 : decode (pm_mb 198) 44 = .ok (.iload_n 1, 1) := by decide +kernel
theorem dc198_45 : decode (pm_mb 198) 45 = .ok (.invokevirtual 268, 3) := by decide +kernel
theorem dc198_48 : decode (pm_mb 198) 48 = .ok (.ireturn, 1) := by decide +kernel
theorem b198_0 {X : pm_X} {d : Nat} {x1 : Int32} {x2 : Int32} {g : pm_G} {iv : pm_V} (hL : pm_lay g) : pm_at X d 198 (0, [some (.ref 32), some (.int x1), some (.int x2)], [], g, iv) = pm_then X d 198 10 [some (.ref 32), some (.int x1), some (.int x2)] [] (pm_c X d 156 [.ref 32, .int x1] g (pm_iw iv 32 0 0)) := by
  refine (at_aload_n dc198_0 rfl).trans ?_
  refine (at_iconst (v := 0) dc198_1 rfl).trans ?_
  refine (at_pfI dc198_2 mc198 lf6_50 po6_0 (ly32 hL)).trans ?_
  refine (at_aload_n dc198_5 rfl).trans ?_
  refine (at_iload_n dc198_6 rfl).trans ?_
  exact at_inv dc198_7 mc198 lm6_184 rfl rfl (Nat.le_of_ble_eq_true rfl) (Or.inl ⟨(ly32 hL), by decide⟩)
theorem b198_10 {X : pm_X} {d : Nat} {x1 : Int32} {x2 : Int32} {s0 : Int32} {g : pm_G} {iv : pm_V}  : pm_at X d 198 (10, [some (.ref 32), some (.int x1), some (.int x2)], [.int s0], g, iv) = if s0 = 0 then pm_at X d 198 (23, [some (.ref 32), some (.int x1), some (.int x2)], [], g, iv) else pm_at X d 198 (13, [some (.ref 32), some (.int x1), some (.int x2)], [], g, iv) := by
  exact at_if_eq (t := 23) dc198_10 (by decide)
theorem b198_13 {X : pm_X} {d : Nat} {x1 : Int32} {x2 : Int32} {g : pm_G} {iv : pm_V}  : pm_at X d 198 (13, [some (.ref 32), some (.int x1), some (.int x2)], [], g, iv) = pm_then X d 198 20 [some (.ref 32), some (.int x1), some (.int x2)] [] (pm_c X d 129 [.long (x2 : Int32).toInt64, .long 0, .long 1] g iv) := by
  refine (at_iload_n dc198_13 rfl).trans ?_
  refine (at_i2l dc198_14).trans ?_
  refine (at_lconst (v := 0) dc198_15 (by decide)).trans ?_
  refine (at_lconst (v := 1) dc198_16 (by decide)).trans ?_
  exact at_ins dc198_17 mc198 lm6_60 (Nat.le_of_ble_eq_true rfl) rfl rfl (Nat.le_of_ble_eq_true rfl)
theorem b198_20 {X : pm_X} {d : Nat} {x1 : Int32} {x2 : Int32} {s0 : Int32} {g : pm_G} {iv : pm_V}  : pm_at X d 198 (20, [some (.ref 32), some (.int x1), some (.int x2)], [.int s0], g, iv) = if ¬ s0 = 0 then pm_at X d 198 (26, [some (.ref 32), some (.int x1), some (.int x2)], [], g, iv) else pm_at X d 198 (23, [some (.ref 32), some (.int x1), some (.int x2)], [], g, iv) := by
  exact at_if_ne (t := 26) dc198_20 (by decide)
theorem b198_23 {X : pm_X} {d : Nat} {x1 : Int32} {x2 : Int32} {g : pm_G} {iv : pm_V}  : pm_at X d 198 (23, [some (.ref 32), some (.int x1), some (.int x2)], [], g, iv) = some (some (.int (-1000001)), g, iv) := by
  refine (at_ldc dc198_23 mc198 lk6_70).trans ?_
  exact at_iret dc198_25 mr198
theorem b198_26 {X : pm_X} {d : Nat} {x1 : Int32} {x2 : Int32} {g : pm_G} {iv : pm_V} (hL : pm_lay g) : pm_at X d 198 (26, [some (.ref 32), some (.int x1), some (.int x2)], [], g, iv) = if ¬ x2 = 0 then pm_at X d 198 (43, [some (.ref 32), some (.int x1), some (.int x2)], [], g, (pm_iw iv 32 25 0)) else pm_at X d 198 (35, [some (.ref 32), some (.int x1), some (.int x2)], [], g, (pm_iw iv 32 25 0)) := by
  refine (at_aload_n dc198_26 rfl).trans ?_
  refine (at_iconst (v := 0) dc198_27 rfl).trans ?_
  refine (at_pfI dc198_28 mc198 lf6_256 po6_25 (ly32 hL)).trans ?_
  refine (at_iload_n dc198_31 rfl).trans ?_
  exact at_if_ne (t := 43) dc198_32 (by decide)
theorem b198_35 {X : pm_X} {d : Nat} {x1 : Int32} {x2 : Int32} {g : pm_G} {iv : pm_V} (hL : pm_lay g) : pm_at X d 198 (35, [some (.ref 32), some (.int x1), some (.int x2)], [], g, iv) = pm_then X d 198 40 [some (.ref 32), some (.int x1), some (.int x2)] [] (pm_c X d 197 [.ref 32, .int x1] g iv) := by
  refine (at_aload_n dc198_35 rfl).trans ?_
  refine (at_iload_n dc198_36 rfl).trans ?_
  exact at_inv dc198_37 mc198 lm6_271 rfl rfl (Nat.le_of_ble_eq_true rfl) (Or.inl ⟨(ly32 hL), by decide⟩)
theorem b198_40 {X : pm_X} {d : Nat} {x1 : Int32} {x2 : Int32} {s0 : Int32} {g : pm_G} {iv : pm_V}  : pm_at X d 198 (40, [some (.ref 32), some (.int x1), some (.int x2)], [.int s0], g, iv) = pm_at X d 198 (48, [some (.ref 32), some (.int x1), some (.int x2)], [.int s0], g, iv) := by
  refine (at_goto (t := 48) dc198_40 (by decide)).trans ?_
  rfl
theorem b198_43 {X : pm_X} {d : Nat} {x1 : Int32} {x2 : Int32} {g : pm_G} {iv : pm_V} (hL : pm_lay g) : pm_at X d 198 (43, [some (.ref 32), some (.int x1), some (.int x2)], [], g, iv) = pm_then X d 198 48 [some (.ref 32), some (.int x1), some (.int x2)] [] (pm_c X d 196 [.ref 32, .int x1] g iv) := by
  refine (at_aload_n dc198_43 rfl).trans ?_
  refine (at_iload_n dc198_44 rfl).trans ?_
  exact at_inv dc198_45 mc198 lm6_268 rfl rfl (Nat.le_of_ble_eq_true rfl) (Or.inl ⟨(ly32 hL), by decide⟩)
theorem b198_48 {X : pm_X} {d : Nat} {x1 : Int32} {x2 : Int32} {s0 : Int32} {g : pm_G} {iv : pm_V}  : pm_at X d 198 (48, [some (.ref 32), some (.int x1), some (.int x2)], [.int s0], g, iv) = some (some (.int s0), g, iv) := by
  exact at_iret dc198_48 mr198
-- Mod.trace (I)I
theorem dc199_0 : decode (pm_mb 199) 0 = .ok (.aload_n 0, 1) := by decide +kernel
theorem dc199_1 : decode (pm_mb 199) 1 = .ok (.iconst 0, 1) := by decide +kernel
theorem dc199_2 : decode (pm_mb 199) 2 = .ok (.putfield 50, 3) := by decide +kernel
theorem dc199_5 : decode (pm_mb 199) 5 = .ok (.iload_n 1, 1) := by decide +kernel
theorem dc199_6 : decode (pm_mb 199) 6 = .ok (.i2l, 1) := by decide +kernel
theorem dc199_7 : decode (pm_mb 199) 7 = .ok (.lconst 0, 1) := by decide +kernel
theorem dc199_8 : decode (pm_mb 199) 8 = .ok (.aload_n 0, 1) := by decide +kernel
theorem dc199_9 : decode (pm_mb 199) 9 = .ok (.getfield 256, 3) := by decide +kernel
theorem dc199_12 : decode (pm_mb 199) 12 = .ok (.iconst 1, 1) := by decide +kernel
theorem dc199_13 : decode (pm_mb 199) 13 = .ok (.isub, 1) := by decide +kernel
theorem dc199_14 : decode (pm_mb 199) 14 = .ok (.i2l, 1) := by decide +kernel
theorem dc199_15 : decode (pm_mb 199) 15 = .ok (.invokestatic 60, 3) := by decide +kernel
theorem dc199_18 : decode (pm_mb 199) 18 = .ok (.ifCond .eq 12, 3) := by decide +kernel
theorem dc199_21 : decode (pm_mb 199) 21 = .ok (.aload_n 0, 1) := by decide +kernel
theorem dc199_22 : decode (pm_mb 199) 22 = .ok (.getfield 47, 3) := by decide +kernel
theorem dc199_25 : decode (pm_mb 199) 25 = .ok (.iload_n 1, 1) := by decide +kernel
theorem dc199_26 : decode (pm_mb 199) 26 = .ok (.iaload, 1) := by decide +kernel
theorem dc199_27 : decode (pm_mb 199) 27 = .ok (.goto 5, 3) := by decide +kernel
theorem dc199_30 : decode (pm_mb 199) 30 = .ok (.ldc 86, 2) := by decide +kernel
theorem dc199_32 : decode (pm_mb 199) 32 = .ok (.ireturn, 1) := by decide +kernel
theorem b199_0 {X : pm_X} {d : Nat} {x1 : Int32} {g : pm_G} {iv : pm_V} (hL : pm_lay g) : pm_at X d 199 (0, [some (.ref 32), some (.int x1)], [], g, iv) = pm_then X d 199 18 [some (.ref 32), some (.int x1)] [] (pm_c X d 129 [.long (x1 : Int32).toInt64, .long 0, .long ((((pm_iw iv 32 0 0) 32 25) - 1) : Int32).toInt64] g (pm_iw iv 32 0 0)) := by
  refine (at_aload_n dc199_0 rfl).trans ?_
  refine (at_iconst (v := 0) dc199_1 rfl).trans ?_
  refine (at_pfI dc199_2 mc199 lf6_50 po6_0 (ly32 hL)).trans ?_
  refine (at_iload_n dc199_5 rfl).trans ?_
  refine (at_i2l dc199_6).trans ?_
  refine (at_lconst (v := 0) dc199_7 (by decide)).trans ?_
  refine (at_aload_n dc199_8 rfl).trans ?_
  refine (at_gfI dc199_9 mc199 lf6_256 fo6_25 (ly32 hL)).trans ?_
  refine (at_iconst (v := 1) dc199_12 rfl).trans ?_
  refine (at_isub dc199_13).trans ?_
  refine (at_i2l dc199_14).trans ?_
  exact at_ins dc199_15 mc199 lm6_60 (Nat.le_of_ble_eq_true rfl) rfl rfl (Nat.le_of_ble_eq_true rfl)
theorem b199_18 {X : pm_X} {d : Nat} {x1 : Int32} {s0 : Int32} {g : pm_G} {iv : pm_V}  : pm_at X d 199 (18, [some (.ref 32), some (.int x1)], [.int s0], g, iv) = if s0 = 0 then pm_at X d 199 (30, [some (.ref 32), some (.int x1)], [], g, iv) else pm_at X d 199 (21, [some (.ref 32), some (.int x1)], [], g, iv) := by
  exact at_if_eq (t := 30) dc199_18 (by decide)
theorem b199_21 {X : pm_X} {d : Nat} {x1 : Int32} {g : pm_G} {iv : pm_V} (hL : pm_lay g) (i1 : vp_in x1 16) : pm_at X d 199 (21, [some (.ref 32), some (.int x1)], [], g, iv) = pm_at X d 199 (32, [some (.ref 32), some (.int x1)], [.int (iv 45 (x1 : Int32).toNatClampNeg)], g, iv) := by
  refine (at_aload_n dc199_21 rfl).trans ?_
  refine (at_gfR dc199_22 mc199 lf6_47 fo6_24 (ly32 hL) (lr32_24 hL)).trans ?_
  refine (at_iload_n dc199_25 rfl).trans ?_
  refine (at_iald dc199_26 (ly45 hL) i1).trans ?_
  refine (at_goto (t := 32) dc199_27 (by decide)).trans ?_
  rfl
theorem b199_30 {X : pm_X} {d : Nat} {x1 : Int32} {g : pm_G} {iv : pm_V}  : pm_at X d 199 (30, [some (.ref 32), some (.int x1)], [], g, iv) = pm_at X d 199 (32, [some (.ref 32), some (.int x1)], [.int (-1000000)], g, iv) := by
  refine (at_ldc dc199_30 mc199 lk6_86).trans ?_
  rfl
theorem b199_32 {X : pm_X} {d : Nat} {x1 : Int32} {s0 : Int32} {g : pm_G} {iv : pm_V}  : pm_at X d 199 (32, [some (.ref 32), some (.int x1)], [.int s0], g, iv) = some (some (.int s0), g, iv) := by
  exact at_iret dc199_32 mr199
-- Mod.count (I)I
theorem dc200_0 : decode (pm_mb 200) 0 = .ok (.aload_n 0, 1) := by decide +kernel
theorem dc200_1 : decode (pm_mb 200) 1 = .ok (.iconst 0, 1) := by decide +kernel
theorem dc200_2 : decode (pm_mb 200) 2 = .ok (.putfield 50, 3) := by decide +kernel
theorem dc200_5 : decode (pm_mb 200) 5 = .ok (.iconst 0, 1) := by decide +kernel
theorem dc200_6 : decode (pm_mb 200) 6 = .ok (.istore_n 2, 1) := by decide +kernel
theorem dc200_7 : decode (pm_mb 200) 7 = .ok (.iload_n 1, 1) := by decide +kernel
theorem dc200_8 : decode (pm_mb 200) 8 = .ok (.tableswitch 167 0 6 #[44, 77, 84, 121, 128, 133, 162], 44) := by decide +kernel
theorem dc200_52 : decode (pm_mb 200) 52 = .ok (.iconst 0, 1) := by decide +kernel
theorem dc200_53 : decode (pm_mb 200) 53 = .ok (.istore_n 3, 1) := by decide +kernel
theorem dc200_54 : decode (pm_mb 200) 54 = .ok (.iload_n 3, 1) := by decide +kernel
theorem dc200_55 : decode (pm_mb 200) 55 = .ok (.bipush 8, 2) := by decide +kernel
theorem dc200_57 : decode (pm_mb 200) 57 = .ok (.if_icmp .ge 26, 3) := by decide +kernel
theorem dc200_60 : decode (pm_mb 200) 60 = .ok (.iload_n 2, 1) := by decide +kernel
theorem dc200_61 : decode (pm_mb 200) 61 = .ok (.aload_n 0, 1) := by decide +kernel
theorem dc200_62 : decode (pm_mb 200) 62 = .ok (.getfield 7, 3) := by decide +kernel
theorem dc200_65 : decode (pm_mb 200) 65 = .ok (.iload_n 3, 1) := by decide +kernel
theorem dc200_66 : decode (pm_mb 200) 66 = .ok (.iaload, 1) := by decide +kernel
theorem dc200_67 : decode (pm_mb 200) 67 = .ok (.ifCond .lt 7, 3) := by decide +kernel
theorem dc200_70 : decode (pm_mb 200) 70 = .ok (.iconst 1, 1) := by decide +kernel
theorem dc200_71 : decode (pm_mb 200) 71 = .ok (.goto 4, 3) := by decide +kernel
theorem dc200_74 : decode (pm_mb 200) 74 = .ok (.iconst 0, 1) := by decide +kernel
theorem dc200_75 : decode (pm_mb 200) 75 = .ok (.iadd, 1) := by decide +kernel
theorem dc200_76 : decode (pm_mb 200) 76 = .ok (.istore_n 2, 1) := by decide +kernel
theorem dc200_77 : decode (pm_mb 200) 77 = .ok (.iinc 3 1, 3) := by decide +kernel
theorem dc200_80 : decode (pm_mb 200) 80 = .ok (.goto (-26), 3) := by decide +kernel
theorem dc200_83 : decode (pm_mb 200) 83 = .ok (.iload_n 2, 1) := by decide +kernel
theorem dc200_84 : decode (pm_mb 200) 84 = .ok (.ireturn, 1) := by decide +kernel
theorem dc200_85 : decode (pm_mb 200) 85 = .ok (.aload_n 0, 1) := by decide +kernel
theorem dc200_86 : decode (pm_mb 200) 86 = .ok (.getfield 19, 3) := by decide +kernel
theorem dc200_89 : decode (pm_mb 200) 89 = .ok (.iconst 3, 1) := by decide +kernel
theorem dc200_90 : decode (pm_mb 200) 90 = .ok (.iaload, 1) := by decide +kernel
theorem dc200_91 : decode (pm_mb 200) 91 = .ok (.ireturn, 1) := by decide +kernel
theorem dc200_92 : decode (pm_mb 200) 92 = .ok (.iconst 0, 1) := by decide +kernel
theorem dc200_93 : decode (pm_mb 200) 93 = .ok (.istore_n 3, 1) := by decide +kernel
theorem dc200_94 : decode (pm_mb 200) 94 = .ok (.iload_n 3, 1) := by decide +kernel
theorem dc200_95 : decode (pm_mb 200) 95 = .ok (.bipush 80, 2) := by decide +kernel
theorem dc200_97 : decode (pm_mb 200) 97 = .ok (.if_icmp .ge 30, 3) := by decide +kernel
theorem dc200_100 : decode (pm_mb 200) 100 = .ok (.iload_n 2, 1) := by decide +kernel
theorem dc200_101 : decode (pm_mb 200) 101 = .ok (.aload_n 0, 1) := by decide +kernel
theorem dc200_102 : decode (pm_mb 200) 102 = .ok (.getfield 19, 3) := by decide +kernel
theorem dc200_105 : decode (pm_mb 200) 105 = .ok (.iconst 5, 1) := by decide +kernel
theorem dc200_106 : decode (pm_mb 200) 106 = .ok (.iload_n 3, 1) := by decide +kernel
theorem dc200_107 : decode (pm_mb 200) 107 = .ok (.bipush 20, 2) := by decide +kernel
theorem dc200_109 : decode (pm_mb 200) 109 = .ok (.idiv, 1) := by decide +kernel
theorem dc200_110 : decode (pm_mb 200) 110 = .ok (.iadd, 1) := by decide +kernel
theorem dc200_111 : decode (pm_mb 200) 111 = .ok (.iaload, 1) := by decide +kernel
theorem dc200_112 : decode (pm_mb 200) 112 = .ok (.iload_n 3, 1) := by decide +kernel
theorem dc200_113 : decode (pm_mb 200) 113 = .ok (.bipush 20, 2) := by decide +kernel
theorem dc200_115 : decode (pm_mb 200) 115 = .ok (.irem, 1) := by decide +kernel
theorem dc200_116 : decode (pm_mb 200) 116 = .ok (.ishr, 1) := by decide +kernel
theorem dc200_117 : decode (pm_mb 200) 117 = .ok (.iconst 1, 1) := by decide +kernel
theorem dc200_118 : decode (pm_mb 200) 118 = .ok (.iand, 1) := by decide +kernel
theorem dc200_119 : decode (pm_mb 200) 119 = .ok (.iadd, 1) := by decide +kernel
theorem dc200_120 : decode (pm_mb 200) 120 = .ok (.istore_n 2, 1) := by decide +kernel
theorem dc200_121 : decode (pm_mb 200) 121 = .ok (.iinc 3 1, 3) := by decide +kernel
theorem dc200_124 : decode (pm_mb 200) 124 = .ok (.goto (-30), 3) := by decide +kernel
theorem dc200_127 : decode (pm_mb 200) 127 = .ok (.iload_n 2, 1) := by decide +kernel
theorem dc200_128 : decode (pm_mb 200) 128 = .ok (.ireturn, 1) := by decide +kernel
theorem dc200_129 : decode (pm_mb 200) 129 = .ok (.aload_n 0, 1) := by decide +kernel
theorem dc200_130 : decode (pm_mb 200) 130 = .ok (.getfield 19, 3) := by decide +kernel
theorem dc200_133 : decode (pm_mb 200) 133 = .ok (.iconst 4, 1) := by decide +kernel
theorem dc200_134 : decode (pm_mb 200) 134 = .ok (.iaload, 1) := by decide +kernel
theorem dc200_135 : decode (pm_mb 200) 135 = .ok (.ireturn, 1) := by decide +kernel
theorem dc200_136 : decode (pm_mb 200) 136 = .ok (.aload_n 0, 1) := by decide +kernel
theorem dc200_137 : decode (pm_mb 200) 137 = .ok (.getfield 181, 3) := by decide +kernel
theorem dc200_140 : decode (pm_mb 200) 140 = .ok (.ireturn, 1) := by decide +kernel
theorem dc200_141 : decode (pm_mb 200) 141 = .ok (.iconst 0, 1) := by decide +kernel
theorem dc200_142 : decode (pm_mb 200) 142 = .ok (.istore_n 3, 1) := by decide +kernel
theorem dc200_143 : decode (pm_mb 200) 143 = .ok (.iload_n 3, 1) := by decide +kernel
theorem dc200_144 : decode (pm_mb 200) 144 = .ok (.aload_n 0, 1) := by decide +kernel
theorem dc200_145 : decode (pm_mb 200) 145 = .ok (.getfield 19, 3) := by decide +kernel
theorem dc200_148 : decode (pm_mb 200) 148 = .ok (.iconst 3, 1) := by decide +kernel
theorem dc200_149 : decode (pm_mb 200) 149 = .ok (.iaload, 1) := by decide +kernel
theorem dc200_150 : decode (pm_mb 200) 150 = .ok (.if_icmp .ge 18, 3) := by decide +kernel
theorem dc200_153 : decode (pm_mb 200) 153 = .ok (.iload_n 2, 1) := by decide +kernel
theorem dc200_154 : decode (pm_mb 200) 154 = .ok (.aload_n 0, 1) := by decide +kernel
theorem dc200_155 : decode (pm_mb 200) 155 = .ok (.iload_n 3, 1) := by decide +kernel
theorem dc200_156 : decode (pm_mb 200) 156 = .ok (.iconst 4, 1) := by decide +kernel
theorem dc200_157 : decode (pm_mb 200) 157 = .ok (.invokevirtual 187, 3) := by decide +kernel
theorem dc200_160 : decode (pm_mb 200) 160 = .ok (.iadd, 1) := by decide +kernel
theorem dc200_161 : decode (pm_mb 200) 161 = .ok (.istore_n 2, 1) := by decide +kernel
theorem dc200_162 : decode (pm_mb 200) 162 = .ok (.iinc 3 1, 3) := by decide +kernel
theorem dc200_165 : decode (pm_mb 200) 165 = .ok (.goto (-22), 3) := by decide +kernel
theorem dc200_168 : decode (pm_mb 200) 168 = .ok (.iload_n 2, 1) := by decide +kernel
theorem dc200_169 : decode (pm_mb 200) 169 = .ok (.ireturn, 1) := by decide +kernel
theorem dc200_170 : decode (pm_mb 200) 170 = .ok (.aload_n 0, 1) := by decide +kernel
theorem dc200_171 : decode (pm_mb 200) 171 = .ok (.getfield 77, 3) := by decide +kernel
theorem dc200_174 : decode (pm_mb 200) 174 = .ok (.ireturn, 1) := by decide +kernel
theorem dc200_175 : decode (pm_mb 200) 175 = .ok (.ldc 70, 2) := by decide +kernel
theorem dc200_177 : decode (pm_mb 200) 177 = .ok (.ireturn, 1) := by decide +kernel
theorem b200_0_c0 {X : pm_X} {d : Nat} {x1 : Int32} {g : pm_G} {iv : pm_V} (hL : pm_lay g) (hx : x1 = 0) : pm_at X d 200 (0, [some (.ref 32), some (.int x1), none, none], [], g, iv) = pm_at X d 200 (52, [some (.ref 32), some (.int x1), some (.int 0), none], [], g, (pm_iw iv 32 0 0)) := by
  refine (at_aload_n dc200_0 rfl).trans ?_
  refine (at_iconst (v := 0) dc200_1 rfl).trans ?_
  refine (at_pfI dc200_2 mc200 lf6_50 po6_0 (ly32 hL)).trans ?_
  refine (at_iconst (v := 0) dc200_5 rfl).trans ?_
  refine (at_istore_n dc200_6 rfl).trans ?_
  refine (at_iload_n dc200_7 rfl).trans ?_
  rw [hx]
  exact at_tswI (t := 52) dc200_8 (by decide) rfl (by decide)
theorem b200_0_c1 {X : pm_X} {d : Nat} {x1 : Int32} {g : pm_G} {iv : pm_V} (hL : pm_lay g) (hx : x1 = 1) : pm_at X d 200 (0, [some (.ref 32), some (.int x1), none, none], [], g, iv) = pm_at X d 200 (85, [some (.ref 32), some (.int x1), some (.int 0), none], [], g, (pm_iw iv 32 0 0)) := by
  refine (at_aload_n dc200_0 rfl).trans ?_
  refine (at_iconst (v := 0) dc200_1 rfl).trans ?_
  refine (at_pfI dc200_2 mc200 lf6_50 po6_0 (ly32 hL)).trans ?_
  refine (at_iconst (v := 0) dc200_5 rfl).trans ?_
  refine (at_istore_n dc200_6 rfl).trans ?_
  refine (at_iload_n dc200_7 rfl).trans ?_
  rw [hx]
  exact at_tswI (t := 85) dc200_8 (by decide) rfl (by decide)
theorem b200_0_c2 {X : pm_X} {d : Nat} {x1 : Int32} {g : pm_G} {iv : pm_V} (hL : pm_lay g) (hx : x1 = 2) : pm_at X d 200 (0, [some (.ref 32), some (.int x1), none, none], [], g, iv) = pm_at X d 200 (92, [some (.ref 32), some (.int x1), some (.int 0), none], [], g, (pm_iw iv 32 0 0)) := by
  refine (at_aload_n dc200_0 rfl).trans ?_
  refine (at_iconst (v := 0) dc200_1 rfl).trans ?_
  refine (at_pfI dc200_2 mc200 lf6_50 po6_0 (ly32 hL)).trans ?_
  refine (at_iconst (v := 0) dc200_5 rfl).trans ?_
  refine (at_istore_n dc200_6 rfl).trans ?_
  refine (at_iload_n dc200_7 rfl).trans ?_
  rw [hx]
  exact at_tswI (t := 92) dc200_8 (by decide) rfl (by decide)
theorem b200_0_c3 {X : pm_X} {d : Nat} {x1 : Int32} {g : pm_G} {iv : pm_V} (hL : pm_lay g) (hx : x1 = 3) : pm_at X d 200 (0, [some (.ref 32), some (.int x1), none, none], [], g, iv) = pm_at X d 200 (129, [some (.ref 32), some (.int x1), some (.int 0), none], [], g, (pm_iw iv 32 0 0)) := by
  refine (at_aload_n dc200_0 rfl).trans ?_
  refine (at_iconst (v := 0) dc200_1 rfl).trans ?_
  refine (at_pfI dc200_2 mc200 lf6_50 po6_0 (ly32 hL)).trans ?_
  refine (at_iconst (v := 0) dc200_5 rfl).trans ?_
  refine (at_istore_n dc200_6 rfl).trans ?_
  refine (at_iload_n dc200_7 rfl).trans ?_
  rw [hx]
  exact at_tswI (t := 129) dc200_8 (by decide) rfl (by decide)
theorem b200_0_c4 {X : pm_X} {d : Nat} {x1 : Int32} {g : pm_G} {iv : pm_V} (hL : pm_lay g) (hx : x1 = 4) : pm_at X d 200 (0, [some (.ref 32), some (.int x1), none, none], [], g, iv) = pm_at X d 200 (136, [some (.ref 32), some (.int x1), some (.int 0), none], [], g, (pm_iw iv 32 0 0)) := by
  refine (at_aload_n dc200_0 rfl).trans ?_
  refine (at_iconst (v := 0) dc200_1 rfl).trans ?_
  refine (at_pfI dc200_2 mc200 lf6_50 po6_0 (ly32 hL)).trans ?_
  refine (at_iconst (v := 0) dc200_5 rfl).trans ?_
  refine (at_istore_n dc200_6 rfl).trans ?_
  refine (at_iload_n dc200_7 rfl).trans ?_
  rw [hx]
  exact at_tswI (t := 136) dc200_8 (by decide) rfl (by decide)
theorem b200_0_c5 {X : pm_X} {d : Nat} {x1 : Int32} {g : pm_G} {iv : pm_V} (hL : pm_lay g) (hx : x1 = 5) : pm_at X d 200 (0, [some (.ref 32), some (.int x1), none, none], [], g, iv) = pm_at X d 200 (141, [some (.ref 32), some (.int x1), some (.int 0), none], [], g, (pm_iw iv 32 0 0)) := by
  refine (at_aload_n dc200_0 rfl).trans ?_
  refine (at_iconst (v := 0) dc200_1 rfl).trans ?_
  refine (at_pfI dc200_2 mc200 lf6_50 po6_0 (ly32 hL)).trans ?_
  refine (at_iconst (v := 0) dc200_5 rfl).trans ?_
  refine (at_istore_n dc200_6 rfl).trans ?_
  refine (at_iload_n dc200_7 rfl).trans ?_
  rw [hx]
  exact at_tswI (t := 141) dc200_8 (by decide) rfl (by decide)
theorem b200_0_c6 {X : pm_X} {d : Nat} {x1 : Int32} {g : pm_G} {iv : pm_V} (hL : pm_lay g) (hx : x1 = 6) : pm_at X d 200 (0, [some (.ref 32), some (.int x1), none, none], [], g, iv) = pm_at X d 200 (170, [some (.ref 32), some (.int x1), some (.int 0), none], [], g, (pm_iw iv 32 0 0)) := by
  refine (at_aload_n dc200_0 rfl).trans ?_
  refine (at_iconst (v := 0) dc200_1 rfl).trans ?_
  refine (at_pfI dc200_2 mc200 lf6_50 po6_0 (ly32 hL)).trans ?_
  refine (at_iconst (v := 0) dc200_5 rfl).trans ?_
  refine (at_istore_n dc200_6 rfl).trans ?_
  refine (at_iload_n dc200_7 rfl).trans ?_
  rw [hx]
  exact at_tswI (t := 170) dc200_8 (by decide) rfl (by decide)
theorem b200_0_df {X : pm_X} {d : Nat} {x1 : Int32} {g : pm_G} {iv : pm_V} (hL : pm_lay g) (hx : x1.toInt < 0 ∨ 6 < x1.toInt) : pm_at X d 200 (0, [some (.ref 32), some (.int x1), none, none], [], g, iv) = pm_at X d 200 (175, [some (.ref 32), some (.int x1), some (.int 0), none], [], g, (pm_iw iv 32 0 0)) := by
  refine (at_aload_n dc200_0 rfl).trans ?_
  refine (at_iconst (v := 0) dc200_1 rfl).trans ?_
  refine (at_pfI dc200_2 mc200 lf6_50 po6_0 (ly32 hL)).trans ?_
  refine (at_iconst (v := 0) dc200_5 rfl).trans ?_
  refine (at_istore_n dc200_6 rfl).trans ?_
  refine (at_iload_n dc200_7 rfl).trans ?_
  exact at_tswO (t := 175) dc200_8 hx (by decide)
theorem b200_52 {X : pm_X} {d : Nat} {x1 : Int32} {x2 : Int32} {g : pm_G} {iv : pm_V}  : pm_at X d 200 (52, [some (.ref 32), some (.int x1), some (.int x2), none], [], g, iv) = pm_at X d 200 (54, [some (.ref 32), some (.int x1), some (.int x2), some (.int 0)], [], g, iv) := by
  refine (at_iconst (v := 0) dc200_52 rfl).trans ?_
  refine (at_istore_n dc200_53 rfl).trans ?_
  rfl
theorem b200_54 {X : pm_X} {d : Nat} {x1 : Int32} {x2 : Int32} {x3 : Int32} {g : pm_G} {iv : pm_V}  : pm_at X d 200 (54, [some (.ref 32), some (.int x1), some (.int x2), some (.int x3)], [], g, iv) = if 8 ≤ x3 then pm_at X d 200 (83, [some (.ref 32), some (.int x1), some (.int x2), some (.int x3)], [], g, iv) else pm_at X d 200 (60, [some (.ref 32), some (.int x1), some (.int x2), some (.int x3)], [], g, iv) := by
  refine (at_iload_n dc200_54 rfl).trans ?_
  refine (at_bipush (v := 8) dc200_55 (by decide)).trans ?_
  exact at_icmp_ge (t := 83) dc200_57 (by decide)
theorem b200_60 {X : pm_X} {d : Nat} {x1 : Int32} {x2 : Int32} {x3 : Int32} {g : pm_G} {iv : pm_V} (hL : pm_lay g) (i1 : vp_in x3 8) : pm_at X d 200 (60, [some (.ref 32), some (.int x1), some (.int x2), some (.int x3)], [], g, iv) = if (iv 33 (x3 : Int32).toNatClampNeg) < 0 then pm_at X d 200 (74, [some (.ref 32), some (.int x1), some (.int x2), some (.int x3)], [.int x2], g, iv) else pm_at X d 200 (70, [some (.ref 32), some (.int x1), some (.int x2), some (.int x3)], [.int x2], g, iv) := by
  refine (at_iload_n dc200_60 rfl).trans ?_
  refine (at_aload_n dc200_61 rfl).trans ?_
  refine (at_gfR dc200_62 mc200 lf6_7 fo6_2 (ly32 hL) (lr32_2 hL)).trans ?_
  refine (at_iload_n dc200_65 rfl).trans ?_
  refine (at_iald dc200_66 (ly33 hL) i1).trans ?_
  exact at_if_lt (t := 74) dc200_67 (by decide)
theorem b200_70 {X : pm_X} {d : Nat} {x1 : Int32} {x2 : Int32} {x3 : Int32} {s0 : Int32} {g : pm_G} {iv : pm_V}  : pm_at X d 200 (70, [some (.ref 32), some (.int x1), some (.int x2), some (.int x3)], [.int s0], g, iv) = pm_at X d 200 (75, [some (.ref 32), some (.int x1), some (.int x2), some (.int x3)], [.int 1, .int s0], g, iv) := by
  refine (at_iconst (v := 1) dc200_70 rfl).trans ?_
  refine (at_goto (t := 75) dc200_71 (by decide)).trans ?_
  rfl
theorem b200_74 {X : pm_X} {d : Nat} {x1 : Int32} {x2 : Int32} {x3 : Int32} {s0 : Int32} {g : pm_G} {iv : pm_V}  : pm_at X d 200 (74, [some (.ref 32), some (.int x1), some (.int x2), some (.int x3)], [.int s0], g, iv) = pm_at X d 200 (75, [some (.ref 32), some (.int x1), some (.int x2), some (.int x3)], [.int 0, .int s0], g, iv) := by
  refine (at_iconst (v := 0) dc200_74 rfl).trans ?_
  rfl
theorem b200_75 {X : pm_X} {d : Nat} {x1 : Int32} {x2 : Int32} {x3 : Int32} {s0 : Int32} {s1 : Int32} {g : pm_G} {iv : pm_V}  : pm_at X d 200 (75, [some (.ref 32), some (.int x1), some (.int x2), some (.int x3)], [.int s0, .int s1], g, iv) = pm_at X d 200 (54, [some (.ref 32), some (.int x1), some (.int (s1 + s0)), some (.int (x3 + 1))], [], g, iv) := by
  refine (at_iadd dc200_75).trans ?_
  refine (at_istore_n dc200_76 rfl).trans ?_
  refine (at_iinc (v := 1) dc200_77 rfl (by decide) rfl).trans ?_
  refine (at_goto (t := 54) dc200_80 (by decide)).trans ?_
  rfl
theorem b200_83 {X : pm_X} {d : Nat} {x1 : Int32} {x2 : Int32} {x3 : Int32} {g : pm_G} {iv : pm_V}  : pm_at X d 200 (83, [some (.ref 32), some (.int x1), some (.int x2), some (.int x3)], [], g, iv) = some (some (.int x2), g, iv) := by
  refine (at_iload_n dc200_83 rfl).trans ?_
  exact at_iret dc200_84 mr200
theorem b200_85 {X : pm_X} {d : Nat} {x1 : Int32} {x2 : Int32} {g : pm_G} {iv : pm_V} (hL : pm_lay g) : pm_at X d 200 (85, [some (.ref 32), some (.int x1), some (.int x2), none], [], g, iv) = some (some (.int (iv 36 3)), g, iv) := by
  refine (at_aload_n dc200_85 rfl).trans ?_
  refine (at_gfR dc200_86 mc200 lf6_19 fo6_5 (ly32 hL) (lr32_5 hL)).trans ?_
  refine (at_iconst (v := 3) dc200_89 rfl).trans ?_
  refine (at_iald dc200_90 (ly36 hL) (vp_in_nI (n := 3) (by decide) (by decide))).trans ?_
  exact at_iret dc200_91 mr200
theorem b200_92 {X : pm_X} {d : Nat} {x1 : Int32} {x2 : Int32} {g : pm_G} {iv : pm_V}  : pm_at X d 200 (92, [some (.ref 32), some (.int x1), some (.int x2), none], [], g, iv) = pm_at X d 200 (94, [some (.ref 32), some (.int x1), some (.int x2), some (.int 0)], [], g, iv) := by
  refine (at_iconst (v := 0) dc200_92 rfl).trans ?_
  refine (at_istore_n dc200_93 rfl).trans ?_
  rfl
theorem b200_94 {X : pm_X} {d : Nat} {x1 : Int32} {x2 : Int32} {x3 : Int32} {g : pm_G} {iv : pm_V}  : pm_at X d 200 (94, [some (.ref 32), some (.int x1), some (.int x2), some (.int x3)], [], g, iv) = if 80 ≤ x3 then pm_at X d 200 (127, [some (.ref 32), some (.int x1), some (.int x2), some (.int x3)], [], g, iv) else pm_at X d 200 (100, [some (.ref 32), some (.int x1), some (.int x2), some (.int x3)], [], g, iv) := by
  refine (at_iload_n dc200_94 rfl).trans ?_
  refine (at_bipush (v := 80) dc200_95 (by decide)).trans ?_
  exact at_icmp_ge (t := 127) dc200_97 (by decide)
theorem b200_100 {X : pm_X} {d : Nat} {x1 : Int32} {x2 : Int32} {x3 : Int32} {g : pm_G} {iv : pm_V} (hL : pm_lay g) (i2 : vp_in ((5 + (x3 / 20))) 45) : pm_at X d 200 (100, [some (.ref 32), some (.int x1), some (.int x2), some (.int x3)], [], g, iv) = pm_at X d 200 (94, [some (.ref 32), some (.int x1), some (.int (x2 + (((iv 36 ((5 + (x3 / 20)) : Int32).toNatClampNeg) >>> ((x3 - x3 / 20 * 20) &&& 31)) &&& 1))), some (.int (x3 + 1))], [], g, iv) := by
  refine (at_iload_n dc200_100 rfl).trans ?_
  refine (at_aload_n dc200_101 rfl).trans ?_
  refine (at_gfR dc200_102 mc200 lf6_19 fo6_5 (ly32 hL) (lr32_5 hL)).trans ?_
  refine (at_iconst (v := 5) dc200_105 rfl).trans ?_
  refine (at_iload_n dc200_106 rfl).trans ?_
  refine (at_bipush (v := 20) dc200_107 (by decide)).trans ?_
  refine (at_idiv dc200_109 (by decide)).trans ?_
  refine (at_iadd dc200_110).trans ?_
  refine (at_iald dc200_111 (ly36 hL) i2).trans ?_
  refine (at_iload_n dc200_112 rfl).trans ?_
  refine (at_bipush (v := 20) dc200_113 (by decide)).trans ?_
  refine (at_irem dc200_115 (by decide)).trans ?_
  refine (at_ishr dc200_116).trans ?_
  refine (at_iconst (v := 1) dc200_117 rfl).trans ?_
  refine (at_iand dc200_118).trans ?_
  refine (at_iadd dc200_119).trans ?_
  refine (at_istore_n dc200_120 rfl).trans ?_
  refine (at_iinc (v := 1) dc200_121 rfl (by decide) rfl).trans ?_
  refine (at_goto (t := 94) dc200_124 (by decide)).trans ?_
  rfl
theorem b200_127 {X : pm_X} {d : Nat} {x1 : Int32} {x2 : Int32} {x3 : Int32} {g : pm_G} {iv : pm_V}  : pm_at X d 200 (127, [some (.ref 32), some (.int x1), some (.int x2), some (.int x3)], [], g, iv) = some (some (.int x2), g, iv) := by
  refine (at_iload_n dc200_127 rfl).trans ?_
  exact at_iret dc200_128 mr200
theorem b200_129 {X : pm_X} {d : Nat} {x1 : Int32} {x2 : Int32} {g : pm_G} {iv : pm_V} (hL : pm_lay g) : pm_at X d 200 (129, [some (.ref 32), some (.int x1), some (.int x2), none], [], g, iv) = some (some (.int (iv 36 4)), g, iv) := by
  refine (at_aload_n dc200_129 rfl).trans ?_
  refine (at_gfR dc200_130 mc200 lf6_19 fo6_5 (ly32 hL) (lr32_5 hL)).trans ?_
  refine (at_iconst (v := 4) dc200_133 rfl).trans ?_
  refine (at_iald dc200_134 (ly36 hL) (vp_in_nI (n := 4) (by decide) (by decide))).trans ?_
  exact at_iret dc200_135 mr200
theorem b200_136 {X : pm_X} {d : Nat} {x1 : Int32} {x2 : Int32} {g : pm_G} {iv : pm_V} (hL : pm_lay g) : pm_at X d 200 (136, [some (.ref 32), some (.int x1), some (.int x2), none], [], g, iv) = some (some (.int (iv 32 8)), g, iv) := by
  refine (at_aload_n dc200_136 rfl).trans ?_
  refine (at_gfI dc200_137 mc200 lf6_181 fo6_8 (ly32 hL)).trans ?_
  exact at_iret dc200_140 mr200
theorem b200_141 {X : pm_X} {d : Nat} {x1 : Int32} {x2 : Int32} {g : pm_G} {iv : pm_V}  : pm_at X d 200 (141, [some (.ref 32), some (.int x1), some (.int x2), none], [], g, iv) = pm_at X d 200 (143, [some (.ref 32), some (.int x1), some (.int x2), some (.int 0)], [], g, iv) := by
  refine (at_iconst (v := 0) dc200_141 rfl).trans ?_
  refine (at_istore_n dc200_142 rfl).trans ?_
  rfl
theorem b200_143 {X : pm_X} {d : Nat} {x1 : Int32} {x2 : Int32} {x3 : Int32} {g : pm_G} {iv : pm_V} (hL : pm_lay g) : pm_at X d 200 (143, [some (.ref 32), some (.int x1), some (.int x2), some (.int x3)], [], g, iv) = if (iv 36 3) ≤ x3 then pm_at X d 200 (168, [some (.ref 32), some (.int x1), some (.int x2), some (.int x3)], [], g, iv) else pm_at X d 200 (153, [some (.ref 32), some (.int x1), some (.int x2), some (.int x3)], [], g, iv) := by
  refine (at_iload_n dc200_143 rfl).trans ?_
  refine (at_aload_n dc200_144 rfl).trans ?_
  refine (at_gfR dc200_145 mc200 lf6_19 fo6_5 (ly32 hL) (lr32_5 hL)).trans ?_
  refine (at_iconst (v := 3) dc200_148 rfl).trans ?_
  refine (at_iald dc200_149 (ly36 hL) (vp_in_nI (n := 3) (by decide) (by decide))).trans ?_
  exact at_icmp_ge (t := 168) dc200_150 (by decide)
theorem b200_153 {X : pm_X} {d : Nat} {x1 : Int32} {x2 : Int32} {x3 : Int32} {g : pm_G} {iv : pm_V} (hL : pm_lay g) : pm_at X d 200 (153, [some (.ref 32), some (.int x1), some (.int x2), some (.int x3)], [], g, iv) = pm_then X d 200 160 [some (.ref 32), some (.int x1), some (.int x2), some (.int x3)] [.int x2] (pm_c X d 158 [.ref 32, .int x3, .int 4] g iv) := by
  refine (at_iload_n dc200_153 rfl).trans ?_
  refine (at_aload_n dc200_154 rfl).trans ?_
  refine (at_iload_n dc200_155 rfl).trans ?_
  refine (at_iconst (v := 4) dc200_156 rfl).trans ?_
  exact at_inv dc200_157 mc200 lm6_187 rfl rfl (Nat.le_of_ble_eq_true rfl) (Or.inl ⟨(ly32 hL), by decide⟩)
theorem b200_160 {X : pm_X} {d : Nat} {x1 : Int32} {x2 : Int32} {x3 : Int32} {s0 : Int32} {s1 : Int32} {g : pm_G} {iv : pm_V}  : pm_at X d 200 (160, [some (.ref 32), some (.int x1), some (.int x2), some (.int x3)], [.int s0, .int s1], g, iv) = pm_at X d 200 (143, [some (.ref 32), some (.int x1), some (.int (s1 + s0)), some (.int (x3 + 1))], [], g, iv) := by
  refine (at_iadd dc200_160).trans ?_
  refine (at_istore_n dc200_161 rfl).trans ?_
  refine (at_iinc (v := 1) dc200_162 rfl (by decide) rfl).trans ?_
  refine (at_goto (t := 143) dc200_165 (by decide)).trans ?_
  rfl
theorem b200_168 {X : pm_X} {d : Nat} {x1 : Int32} {x2 : Int32} {x3 : Int32} {g : pm_G} {iv : pm_V}  : pm_at X d 200 (168, [some (.ref 32), some (.int x1), some (.int x2), some (.int x3)], [], g, iv) = some (some (.int x2), g, iv) := by
  refine (at_iload_n dc200_168 rfl).trans ?_
  exact at_iret dc200_169 mr200
theorem b200_170 {X : pm_X} {d : Nat} {x1 : Int32} {x2 : Int32} {g : pm_G} {iv : pm_V} (hL : pm_lay g) : pm_at X d 200 (170, [some (.ref 32), some (.int x1), some (.int x2), none], [], g, iv) = some (some (.int (iv 32 10)), g, iv) := by
  refine (at_aload_n dc200_170 rfl).trans ?_
  refine (at_gfI dc200_171 mc200 lf6_77 fo6_10 (ly32 hL)).trans ?_
  exact at_iret dc200_174 mr200
theorem b200_175 {X : pm_X} {d : Nat} {x1 : Int32} {x2 : Int32} {g : pm_G} {iv : pm_V}  : pm_at X d 200 (175, [some (.ref 32), some (.int x1), some (.int x2), none], [], g, iv) = some (some (.int (-1000001)), g, iv) := by
  refine (at_ldc dc200_175 mc200 lk6_70).trans ?_
  exact at_iret dc200_177 mr200
-- Mod.status ()I
theorem dc201_0 : decode (pm_mb 201) 0 = .ok (.aload_n 0, 1) := by decide +kernel
theorem dc201_1 : decode (pm_mb 201) 1 = .ok (.iconst 0, 1) := by decide +kernel
theorem dc201_2 : decode (pm_mb 201) 2 = .ok (.putfield 50, 3) := by decide +kernel
theorem dc201_5 : decode (pm_mb 201) 5 = .ok (.aload_n 0, 1) := by decide +kernel
theorem dc201_6 : decode (pm_mb 201) 6 = .ok (.getfield 54, 3) := by decide +kernel
theorem dc201_9 : decode (pm_mb 201) 9 = .ok (.ireturn, 1) := by decide +kernel
theorem b201_0 {X : pm_X} {d : Nat} {g : pm_G} {iv : pm_V} (hL : pm_lay g) : pm_at X d 201 (0, [some (.ref 32)], [], g, iv) = some (some (.int ((pm_iw iv 32 0 0) 32 1)), g, (pm_iw iv 32 0 0)) := by
  refine (at_aload_n dc201_0 rfl).trans ?_
  refine (at_iconst (v := 0) dc201_1 rfl).trans ?_
  refine (at_pfI dc201_2 mc201 lf6_50 po6_0 (ly32 hL)).trans ?_
  refine (at_aload_n dc201_5 rfl).trans ?_
  refine (at_gfI dc201_6 mc201 lf6_54 fo6_1 (ly32 hL)).trans ?_
  exact at_iret dc201_9 mr201
