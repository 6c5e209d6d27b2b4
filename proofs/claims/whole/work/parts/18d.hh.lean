-- HH.<init> ()V
theorem dc89_0 : decode (pm_mb 89) 0 = .ok (.aload_n 0, 1) := by decide +kernel
theorem dc89_1 : decode (pm_mb 89) 1 = .ok (.invokespecial 1, 3) := by decide +kernel
theorem dc89_4 : decode (pm_mb 89) 4 = .ok (.aload_n 0, 1) := by decide +kernel
theorem dc89_5 : decode (pm_mb 89) 5 = .ok (.new 7, 3) := by decide +kernel
theorem dc89_8 : decode (pm_mb 89) 8 = .ok (.dup, 1) := by decide +kernel
theorem dc89_9 : decode (pm_mb 89) 9 = .ok (.invokespecial 9, 3) := by decide +kernel
theorem dc89_12 : decode (pm_mb 89) 12 = .ok (.putfield 10, 3) := by decide +kernel
theorem dc89_15 : decode (pm_mb 89) 15 = .ok (.aload_n 0, 1) := by decide +kernel
theorem dc89_16 : decode (pm_mb 89) 16 = .ok (.new 16, 3) := by decide +kernel
theorem dc89_19 : decode (pm_mb 89) 19 = .ok (.dup, 1) := by decide +kernel
theorem dc89_20 : decode (pm_mb 89) 20 = .ok (.invokespecial 18, 3) := by decide +kernel
theorem dc89_23 : decode (pm_mb 89) 23 = .ok (.putfield 19, 3) := by decide +kernel
theorem dc89_26 : decode (pm_mb 89) 26 = .ok (.aload_n 0, 1) := by decide +kernel
theorem dc89_27 : decode (pm_mb 89) 27 = .ok (.new 23, 3) := by decide +kernel
theorem dc89_30 : decode (pm_mb 89) 30 = .ok (.dup, 1) := by decide +kernel
theorem dc89_31 : decode (pm_mb 89) 31 = .ok (.invokespecial 25, 3) := by decide +kernel
theorem dc89_34 : decode (pm_mb 89) 34 = .ok (.putfield 26, 3) := by decide +kernel
theorem dc89_37 : decode (pm_mb 89) 37 = .ok (.aload_n 0, 1) := by decide +kernel
theorem dc89_38 : decode (pm_mb 89) 38 = .ok (.new 30, 3) := by decide +kernel
theorem dc89_41 : decode (pm_mb 89) 41 = .ok (.dup, 1) := by decide +kernel
theorem dc89_42 : decode (pm_mb 89) 42 = .ok (.invokespecial 32, 3) := by decide +kernel
theorem dc89_45 : decode (pm_mb 89) 45 = .ok (.putfield 33, 3) := by decide +kernel
theorem dc89_48 : decode (pm_mb 89) 48 = .ok (.aload_n 0, 1) := by decide +kernel
theorem dc89_49 : decode (pm_mb 89) 49 = .ok (.new 37, 3) := by decide +kernel
theorem dc89_52 : decode (pm_mb 89) 52 = .ok (.dup, 1) := by decide +kernel
theorem dc89_53 : decode (pm_mb 89) 53 = .ok (.invokespecial 39, 3) := by decide +kernel
theorem dc89_56 : decode (pm_mb 89) 56 = .ok (.putfield 40, 3) := by decide +kernel
theorem dc89_59 : decode (pm_mb 89) 59 = .ok (.aload_n 0, 1) := by decide +kernel
theorem dc89_60 : decode (pm_mb 89) 60 = .ok (.new 37, 3) := by decide +kernel
theorem dc89_63 : decode (pm_mb 89) 63 = .ok (.dup, 1) := by decide +kernel
theorem dc89_64 : decode (pm_mb 89) 64 = .ok (.invokespecial 39, 3) := by decide +kernel
theorem dc89_67 : decode (pm_mb 89) 67 = .ok (.putfield 44, 3) := by decide +kernel
theorem dc89_70 : decode (pm_mb 89) 70 = .ok (.aload_n 0, 1) := by decide +kernel
theorem dc89_71 : decode (pm_mb 89) 71 = .ok (.iconst 2, 1) := by decide +kernel
theorem dc89_72 : decode (pm_mb 89) 72 = .ok (.anewarray 37, 3) := by decide +kernel
theorem dc89_75 : decode (pm_mb 89) 75 = .ok (.putfield 47, 3) := by decide +kernel
theorem dc89_78 : decode (pm_mb 89) 78 = .ok (.return_, 1) := by decide +kernel
-- HH.row (III)I
theorem dc90_0 : decode (pm_mb 90) 0 = .ok (.iload_n 1, 1) := by decide +kernel
theorem dc90_1 : decode (pm_mb 90) 1 = .ok (.invokestatic 51, 3) := by decide +kernel
theorem dc90_4 : decode (pm_mb 90) 4 = .ok (.ifCond .eq 17, 3) := by decide +kernel
theorem dc90_7 : decode (pm_mb 90) 7 = .ok (.iload_n 2, 1) := by decide +kernel
theorem dc90_8 : decode (pm_mb 90) 8 = .ok (.iconst 2, 1) := by decide +kernel
theorem dc90_9 : decode (pm_mb 90) 9 = .ok (.invokestatic 55, 3) := by decide +kernel
theorem dc90_12 : decode (pm_mb 90) 12 = .ok (.ifCond .eq 9, 3) := by decide +kernel
theorem dc90_15 : decode (pm_mb 90) 15 = .ok (.iload_n 3, 1) := by decide +kernel
theorem dc90_16 : decode (pm_mb 90) 16 = .ok (.bipush 40, 2) := by decide +kernel
theorem dc90_18 : decode (pm_mb 90) 18 = .ok (.if_icmp .le 6, 3) := by decide +kernel
theorem dc90_21 : decode (pm_mb 90) 21 = .ok (.ldc 59, 2) := by decide +kernel
theorem dc90_23 : decode (pm_mb 90) 23 = .ok (.ireturn, 1) := by decide +kernel
theorem dc90_24 : decode (pm_mb 90) 24 = .ok (.iload_n 3, 1) := by decide +kernel
theorem dc90_25 : decode (pm_mb 90) 25 = .ok (.ifCond .ge 9, 3) := by decide +kernel
theorem dc90_28 : decode (pm_mb 90) 28 = .ok (.aload_n 0, 1) := by decide +kernel
theorem dc90_29 : decode (pm_mb 90) 29 = .ok (.iconst 4, 1) := by decide +kernel
theorem dc90_30 : decode (pm_mb 90) 30 = .ok (.invokevirtual 60, 3) := by decide +kernel
theorem dc90_33 : decode (pm_mb 90) 33 = .ok (.ireturn, 1) := by decide +kernel
theorem dc90_34 : decode (pm_mb 90) 34 = .ok (.aload_n 0, 1) := by decide +kernel
theorem dc90_35 : decode (pm_mb 90) 35 = .ok (.getfield 10, 3) := by decide +kernel
theorem dc90_38 : decode (pm_mb 90) 38 = .ok (.iload_n 1, 1) := by decide +kernel
theorem dc90_39 : decode (pm_mb 90) 39 = .ok (.iload_n 2, 1) := by decide +kernel
theorem dc90_40 : decode (pm_mb 90) 40 = .ok (.iload_n 3, 1) := by decide +kernel
theorem dc90_41 : decode (pm_mb 90) 41 = .ok (.invokevirtual 64, 3) := by decide +kernel
theorem dc90_44 : decode (pm_mb 90) 44 = .ok (.aload_n 0, 1) := by decide +kernel
theorem dc90_45 : decode (pm_mb 90) 45 = .ok (.iload_n 3, 1) := by decide +kernel
theorem dc90_46 : decode (pm_mb 90) 46 = .ok (.invokevirtual 68, 3) := by decide +kernel
theorem dc90_49 : decode (pm_mb 90) 49 = .ok (.ireturn, 1) := by decide +kernel
theorem b90_0 {X : pm_X} {d : Nat} {x1 : Int32} {x2 : Int32} {x3 : Int32} {g : pm_G} {iv : pm_V}  : pm_at X d 90 (0, [some (.ref 0), some (.int x1), some (.int x2), some (.int x3)], [], g, iv) = pm_then X d 90 4 [some (.ref 0), some (.int x1), some (.int x2), some (.int x3)] [] (pm_c X d 120 [.int x1] g iv) := by
  refine (at_iload_n dc90_0 rfl).trans ?_
  exact at_ins dc90_1 mc90 lm5_51 (Nat.le_of_ble_eq_true rfl) rfl rfl (Nat.le_of_ble_eq_true rfl)
theorem b90_4 {X : pm_X} {d : Nat} {x1 : Int32} {x2 : Int32} {x3 : Int32} {s0 : Int32} {g : pm_G} {iv : pm_V}  : pm_at X d 90 (4, [some (.ref 0), some (.int x1), some (.int x2), some (.int x3)], [.int s0], g, iv) = if s0 = 0 then pm_at X d 90 (21, [some (.ref 0), some (.int x1), some (.int x2), some (.int x3)], [], g, iv) else pm_at X d 90 (7, [some (.ref 0), some (.int x1), some (.int x2), some (.int x3)], [], g, iv) := by
  exact at_if_eq (t := 21) dc90_4 (by decide)
theorem b90_7 {X : pm_X} {d : Nat} {x1 : Int32} {x2 : Int32} {x3 : Int32} {g : pm_G} {iv : pm_V}  : pm_at X d 90 (7, [some (.ref 0), some (.int x1), some (.int x2), some (.int x3)], [], g, iv) = pm_then X d 90 12 [some (.ref 0), some (.int x1), some (.int x2), some (.int x3)] [] (pm_c X d 119 [.int x2, .int 2] g iv) := by
  refine (at_iload_n dc90_7 rfl).trans ?_
  refine (at_iconst (v := 2) dc90_8 rfl).trans ?_
  exact at_ins dc90_9 mc90 lm5_55 (Nat.le_of_ble_eq_true rfl) rfl rfl (Nat.le_of_ble_eq_true rfl)
theorem b90_12 {X : pm_X} {d : Nat} {x1 : Int32} {x2 : Int32} {x3 : Int32} {s0 : Int32} {g : pm_G} {iv : pm_V}  : pm_at X d 90 (12, [some (.ref 0), some (.int x1), some (.int x2), some (.int x3)], [.int s0], g, iv) = if s0 = 0 then pm_at X d 90 (21, [some (.ref 0), some (.int x1), some (.int x2), some (.int x3)], [], g, iv) else pm_at X d 90 (15, [some (.ref 0), some (.int x1), some (.int x2), some (.int x3)], [], g, iv) := by
  exact at_if_eq (t := 21) dc90_12 (by decide)
theorem b90_15 {X : pm_X} {d : Nat} {x1 : Int32} {x2 : Int32} {x3 : Int32} {g : pm_G} {iv : pm_V}  : pm_at X d 90 (15, [some (.ref 0), some (.int x1), some (.int x2), some (.int x3)], [], g, iv) = if x3 ≤ 40 then pm_at X d 90 (24, [some (.ref 0), some (.int x1), some (.int x2), some (.int x3)], [], g, iv) else pm_at X d 90 (21, [some (.ref 0), some (.int x1), some (.int x2), some (.int x3)], [], g, iv) := by
  refine (at_iload_n dc90_15 rfl).trans ?_
  refine (at_bipush (v := 40) dc90_16 (by decide)).trans ?_
  exact at_icmp_le (t := 24) dc90_18 (by decide)
theorem b90_21 {X : pm_X} {d : Nat} {x1 : Int32} {x2 : Int32} {x3 : Int32} {g : pm_G} {iv : pm_V}  : pm_at X d 90 (21, [some (.ref 0), some (.int x1), some (.int x2), some (.int x3)], [], g, iv) = some (some (.int (-1000001)), g, iv) := by
  refine (at_ldc dc90_21 mc90 lk5_59).trans ?_
  exact at_iret dc90_23 mr90
theorem b90_24 {X : pm_X} {d : Nat} {x1 : Int32} {x2 : Int32} {x3 : Int32} {g : pm_G} {iv : pm_V}  : pm_at X d 90 (24, [some (.ref 0), some (.int x1), some (.int x2), some (.int x3)], [], g, iv) = if 0 ≤ x3 then pm_at X d 90 (34, [some (.ref 0), some (.int x1), some (.int x2), some (.int x3)], [], g, iv) else pm_at X d 90 (28, [some (.ref 0), some (.int x1), some (.int x2), some (.int x3)], [], g, iv) := by
  refine (at_iload_n dc90_24 rfl).trans ?_
  exact at_if_ge (t := 34) dc90_25 (by decide)
theorem b90_28 {X : pm_X} {d : Nat} {x1 : Int32} {x2 : Int32} {x3 : Int32} {g : pm_G} {iv : pm_V} (hL : pm_lay g) : pm_at X d 90 (28, [some (.ref 0), some (.int x1), some (.int x2), some (.int x3)], [], g, iv) = pm_then X d 90 33 [some (.ref 0), some (.int x1), some (.int x2), some (.int x3)] [] (pm_c X d 122 [.ref 0, .int 4] g iv) := by
  refine (at_aload_n dc90_28 rfl).trans ?_
  refine (at_iconst (v := 4) dc90_29 rfl).trans ?_
  exact at_inv dc90_30 mc90 lm5_60 rfl rfl (Nat.le_of_ble_eq_true rfl) (Or.inl ⟨(ly0 hL), by decide⟩)
theorem b90_33 {X : pm_X} {d : Nat} {x1 : Int32} {x2 : Int32} {x3 : Int32} {s0 : Int32} {g : pm_G} {iv : pm_V}  : pm_at X d 90 (33, [some (.ref 0), some (.int x1), some (.int x2), some (.int x3)], [.int s0], g, iv) = some (some (.int s0), g, iv) := by
  exact at_iret dc90_33 mr90
theorem b90_34 {X : pm_X} {d : Nat} {x1 : Int32} {x2 : Int32} {x3 : Int32} {g : pm_G} {iv : pm_V} (hL : pm_lay g) : pm_at X d 90 (34, [some (.ref 0), some (.int x1), some (.int x2), some (.int x3)], [], g, iv) = pm_then X d 90 44 [some (.ref 0), some (.int x1), some (.int x2), some (.int x3)] [] (pm_c X d 20 [.ref 1, .int x1, .int x2, .int x3] g iv) := by
  refine (at_aload_n dc90_34 rfl).trans ?_
  refine (at_gfR dc90_35 mc90 lf5_10 fo5_0 (ly0 hL) (lr0_0 hL)).trans ?_
  refine (at_iload_n dc90_38 rfl).trans ?_
  refine (at_iload_n dc90_39 rfl).trans ?_
  refine (at_iload_n dc90_40 rfl).trans ?_
  exact at_inv dc90_41 mc90 lm5_64 rfl rfl (Nat.le_of_ble_eq_true rfl) (Or.inl ⟨(ly1 hL), by decide⟩)
theorem b90_44 {X : pm_X} {d : Nat} {x1 : Int32} {x2 : Int32} {x3 : Int32} {g : pm_G} {iv : pm_V} (hL : pm_lay g) : pm_at X d 90 (44, [some (.ref 0), some (.int x1), some (.int x2), some (.int x3)], [], g, iv) = pm_then X d 90 49 [some (.ref 0), some (.int x1), some (.int x2), some (.int x3)] [] (pm_c X d 123 [.ref 0, .int x3] g iv) := by
  refine (at_aload_n dc90_44 rfl).trans ?_
  refine (at_iload_n dc90_45 rfl).trans ?_
  exact at_inv dc90_46 mc90 lm5_68 rfl rfl (Nat.le_of_ble_eq_true rfl) (Or.inl ⟨(ly0 hL), by decide⟩)
theorem b90_49 {X : pm_X} {d : Nat} {x1 : Int32} {x2 : Int32} {x3 : Int32} {s0 : Int32} {g : pm_G} {iv : pm_V}  : pm_at X d 90 (49, [some (.ref 0), some (.int x1), some (.int x2), some (.int x3)], [.int s0], g, iv) = some (some (.int s0), g, iv) := by
  exact at_iret dc90_49 mr90
-- HH.set (III)I
theorem dc91_0 : decode (pm_mb 91) 0 = .ok (.iload_n 1, 1) := by decide +kernel
theorem dc91_1 : decode (pm_mb 91) 1 = .ok (.invokestatic 51, 3) := by decide +kernel
theorem dc91_4 : decode (pm_mb 91) 4 = .ok (.ifCond .ne 6, 3) := by decide +kernel
theorem dc91_7 : decode (pm_mb 91) 7 = .ok (.ldc 59, 2) := by decide +kernel
theorem dc91_9 : decode (pm_mb 91) 9 = .ok (.ireturn, 1) := by decide +kernel
theorem dc91_10 : decode (pm_mb 91) 10 = .ok (.aload_n 0, 1) := by decide +kernel
theorem dc91_11 : decode (pm_mb 91) 11 = .ok (.getfield 10, 3) := by decide +kernel
theorem dc91_14 : decode (pm_mb 91) 14 = .ok (.iload_n 1, 1) := by decide +kernel
theorem dc91_15 : decode (pm_mb 91) 15 = .ok (.invokevirtual 71, 3) := by decide +kernel
theorem dc91_18 : decode (pm_mb 91) 18 = .ok (.ifCond .eq 9, 3) := by decide +kernel
theorem dc91_21 : decode (pm_mb 91) 21 = .ok (.aload_n 0, 1) := by decide +kernel
theorem dc91_22 : decode (pm_mb 91) 22 = .ok (.iconst 1, 1) := by decide +kernel
theorem dc91_23 : decode (pm_mb 91) 23 = .ok (.invokevirtual 60, 3) := by decide +kernel
theorem dc91_26 : decode (pm_mb 91) 26 = .ok (.ireturn, 1) := by decide +kernel
theorem dc91_27 : decode (pm_mb 91) 27 = .ok (.aload_n 0, 1) := by decide +kernel
theorem dc91_28 : decode (pm_mb 91) 28 = .ok (.getfield 10, 3) := by decide +kernel
theorem dc91_31 : decode (pm_mb 91) 31 = .ok (.iload_n 1, 1) := by decide +kernel
theorem dc91_32 : decode (pm_mb 91) 32 = .ok (.iload_n 2, 1) := by decide +kernel
theorem dc91_33 : decode (pm_mb 91) 33 = .ok (.iconst 1, 1) := by decide +kernel
theorem dc91_34 : decode (pm_mb 91) 34 = .ok (.invokevirtual 74, 3) := by decide +kernel
theorem dc91_37 : decode (pm_mb 91) 37 = .ok (.ifCond .ne 9, 3) := by decide +kernel
theorem dc91_40 : decode (pm_mb 91) 40 = .ok (.aload_n 0, 1) := by decide +kernel
theorem dc91_41 : decode (pm_mb 91) 41 = .ok (.iconst 2, 1) := by decide +kernel
theorem dc91_42 : decode (pm_mb 91) 42 = .ok (.invokevirtual 60, 3) := by decide +kernel
theorem dc91_45 : decode (pm_mb 91) 45 = .ok (.ireturn, 1) := by decide +kernel
theorem dc91_46 : decode (pm_mb 91) 46 = .ok (.aload_n 0, 1) := by decide +kernel
theorem dc91_47 : decode (pm_mb 91) 47 = .ok (.aload_n 0, 1) := by decide +kernel
theorem dc91_48 : decode (pm_mb 91) 48 = .ok (.getfield 10, 3) := by decide +kernel
theorem dc91_51 : decode (pm_mb 91) 51 = .ok (.iload_n 1, 1) := by decide +kernel
theorem dc91_52 : decode (pm_mb 91) 52 = .ok (.iload_n 2, 1) := by decide +kernel
theorem dc91_53 : decode (pm_mb 91) 53 = .ok (.iload_n 3, 1) := by decide +kernel
theorem dc91_54 : decode (pm_mb 91) 54 = .ok (.invokevirtual 78, 3) := by decide +kernel
theorem dc91_57 : decode (pm_mb 91) 57 = .ok (.invokevirtual 68, 3) := by decide +kernel
theorem dc91_60 : decode (pm_mb 91) 60 = .ok (.ireturn, 1) := by decide +kernel
theorem b91_0 {X : pm_X} {d : Nat} {x1 : Int32} {x2 : Int32} {x3 : Int32} {g : pm_G} {iv : pm_V}  : pm_at X d 91 (0, [some (.ref 0), some (.int x1), some (.int x2), some (.int x3)], [], g, iv) = pm_then X d 91 4 [some (.ref 0), some (.int x1), some (.int x2), some (.int x3)] [] (pm_c X d 120 [.int x1] g iv) := by
  refine (at_iload_n dc91_0 rfl).trans ?_
  exact at_ins dc91_1 mc91 lm5_51 (Nat.le_of_ble_eq_true rfl) rfl rfl (Nat.le_of_ble_eq_true rfl)
theorem b91_4 {X : pm_X} {d : Nat} {x1 : Int32} {x2 : Int32} {x3 : Int32} {s0 : Int32} {g : pm_G} {iv : pm_V}  : pm_at X d 91 (4, [some (.ref 0), some (.int x1), some (.int x2), some (.int x3)], [.int s0], g, iv) = if ¬ s0 = 0 then pm_at X d 91 (10, [some (.ref 0), some (.int x1), some (.int x2), some (.int x3)], [], g, iv) else pm_at X d 91 (7, [some (.ref 0), some (.int x1), some (.int x2), some (.int x3)], [], g, iv) := by
  exact at_if_ne (t := 10) dc91_4 (by decide)
theorem b91_7 {X : pm_X} {d : Nat} {x1 : Int32} {x2 : Int32} {x3 : Int32} {g : pm_G} {iv : pm_V}  : pm_at X d 91 (7, [some (.ref 0), some (.int x1), some (.int x2), some (.int x3)], [], g, iv) = some (some (.int (-1000001)), g, iv) := by
  refine (at_ldc dc91_7 mc91 lk5_59).trans ?_
  exact at_iret dc91_9 mr91
theorem b91_10 {X : pm_X} {d : Nat} {x1 : Int32} {x2 : Int32} {x3 : Int32} {g : pm_G} {iv : pm_V} (hL : pm_lay g) : pm_at X d 91 (10, [some (.ref 0), some (.int x1), some (.int x2), some (.int x3)], [], g, iv) = pm_then X d 91 18 [some (.ref 0), some (.int x1), some (.int x2), some (.int x3)] [] (pm_c X d 15 [.ref 1, .int x1] g iv) := by
  refine (at_aload_n dc91_10 rfl).trans ?_
  refine (at_gfR dc91_11 mc91 lf5_10 fo5_0 (ly0 hL) (lr0_0 hL)).trans ?_
  refine (at_iload_n dc91_14 rfl).trans ?_
  exact at_inv dc91_15 mc91 lm5_71 rfl rfl (Nat.le_of_ble_eq_true rfl) (Or.inl ⟨(ly1 hL), by decide⟩)
theorem b91_18 {X : pm_X} {d : Nat} {x1 : Int32} {x2 : Int32} {x3 : Int32} {s0 : Int32} {g : pm_G} {iv : pm_V}  : pm_at X d 91 (18, [some (.ref 0), some (.int x1), some (.int x2), some (.int x3)], [.int s0], g, iv) = if s0 = 0 then pm_at X d 91 (27, [some (.ref 0), some (.int x1), some (.int x2), some (.int x3)], [], g, iv) else pm_at X d 91 (21, [some (.ref 0), some (.int x1), some (.int x2), some (.int x3)], [], g, iv) := by
  exact at_if_eq (t := 27) dc91_18 (by decide)
theorem b91_21 {X : pm_X} {d : Nat} {x1 : Int32} {x2 : Int32} {x3 : Int32} {g : pm_G} {iv : pm_V} (hL : pm_lay g) : pm_at X d 91 (21, [some (.ref 0), some (.int x1), some (.int x2), some (.int x3)], [], g, iv) = pm_then X d 91 26 [some (.ref 0), some (.int x1), some (.int x2), some (.int x3)] [] (pm_c X d 122 [.ref 0, .int 1] g iv) := by
  refine (at_aload_n dc91_21 rfl).trans ?_
  refine (at_iconst (v := 1) dc91_22 rfl).trans ?_
  exact at_inv dc91_23 mc91 lm5_60 rfl rfl (Nat.le_of_ble_eq_true rfl) (Or.inl ⟨(ly0 hL), by decide⟩)
theorem b91_26 {X : pm_X} {d : Nat} {x1 : Int32} {x2 : Int32} {x3 : Int32} {s0 : Int32} {g : pm_G} {iv : pm_V}  : pm_at X d 91 (26, [some (.ref 0), some (.int x1), some (.int x2), some (.int x3)], [.int s0], g, iv) = some (some (.int s0), g, iv) := by
  exact at_iret dc91_26 mr91
theorem b91_27 {X : pm_X} {d : Nat} {x1 : Int32} {x2 : Int32} {x3 : Int32} {g : pm_G} {iv : pm_V} (hL : pm_lay g) : pm_at X d 91 (27, [some (.ref 0), some (.int x1), some (.int x2), some (.int x3)], [], g, iv) = pm_then X d 91 37 [some (.ref 0), some (.int x1), some (.int x2), some (.int x3)] [] (pm_c X d 16 [.ref 1, .int x1, .int x2, .int 1] g iv) := by
  refine (at_aload_n dc91_27 rfl).trans ?_
  refine (at_gfR dc91_28 mc91 lf5_10 fo5_0 (ly0 hL) (lr0_0 hL)).trans ?_
  refine (at_iload_n dc91_31 rfl).trans ?_
  refine (at_iload_n dc91_32 rfl).trans ?_
  refine (at_iconst (v := 1) dc91_33 rfl).trans ?_
  exact at_inv dc91_34 mc91 lm5_74 rfl rfl (Nat.le_of_ble_eq_true rfl) (Or.inl ⟨(ly1 hL), by decide⟩)
theorem b91_37 {X : pm_X} {d : Nat} {x1 : Int32} {x2 : Int32} {x3 : Int32} {s0 : Int32} {g : pm_G} {iv : pm_V}  : pm_at X d 91 (37, [some (.ref 0), some (.int x1), some (.int x2), some (.int x3)], [.int s0], g, iv) = if ¬ s0 = 0 then pm_at X d 91 (46, [some (.ref 0), some (.int x1), some (.int x2), some (.int x3)], [], g, iv) else pm_at X d 91 (40, [some (.ref 0), some (.int x1), some (.int x2), some (.int x3)], [], g, iv) := by
  exact at_if_ne (t := 46) dc91_37 (by decide)
theorem b91_40 {X : pm_X} {d : Nat} {x1 : Int32} {x2 : Int32} {x3 : Int32} {g : pm_G} {iv : pm_V} (hL : pm_lay g) : pm_at X d 91 (40, [some (.ref 0), some (.int x1), some (.int x2), some (.int x3)], [], g, iv) = pm_then X d 91 45 [some (.ref 0), some (.int x1), some (.int x2), some (.int x3)] [] (pm_c X d 122 [.ref 0, .int 2] g iv) := by
  refine (at_aload_n dc91_40 rfl).trans ?_
  refine (at_iconst (v := 2) dc91_41 rfl).trans ?_
  exact at_inv dc91_42 mc91 lm5_60 rfl rfl (Nat.le_of_ble_eq_true rfl) (Or.inl ⟨(ly0 hL), by decide⟩)
theorem b91_45 {X : pm_X} {d : Nat} {x1 : Int32} {x2 : Int32} {x3 : Int32} {s0 : Int32} {g : pm_G} {iv : pm_V}  : pm_at X d 91 (45, [some (.ref 0), some (.int x1), some (.int x2), some (.int x3)], [.int s0], g, iv) = some (some (.int s0), g, iv) := by
  exact at_iret dc91_45 mr91
theorem b91_46 {X : pm_X} {d : Nat} {x1 : Int32} {x2 : Int32} {x3 : Int32} {g : pm_G} {iv : pm_V} (hL : pm_lay g) : pm_at X d 91 (46, [some (.ref 0), some (.int x1), some (.int x2), some (.int x3)], [], g, iv) = pm_then X d 91 57 [some (.ref 0), some (.int x1), some (.int x2), some (.int x3)] [.ref 0] (pm_c X d 21 [.ref 1, .int x1, .int x2, .int x3] g iv) := by
  refine (at_aload_n dc91_46 rfl).trans ?_
  refine (at_aload_n dc91_47 rfl).trans ?_
  refine (at_gfR dc91_48 mc91 lf5_10 fo5_0 (ly0 hL) (lr0_0 hL)).trans ?_
  refine (at_iload_n dc91_51 rfl).trans ?_
  refine (at_iload_n dc91_52 rfl).trans ?_
  refine (at_iload_n dc91_53 rfl).trans ?_
  exact at_inv dc91_54 mc91 lm5_78 rfl rfl (Nat.le_of_ble_eq_true rfl) (Or.inl ⟨(ly1 hL), by decide⟩)
theorem b91_57 {X : pm_X} {d : Nat} {x1 : Int32} {x2 : Int32} {x3 : Int32} {s0 : Int32} {g : pm_G} {iv : pm_V} (hL : pm_lay g) : pm_at X d 91 (57, [some (.ref 0), some (.int x1), some (.int x2), some (.int x3)], [.int s0, .ref 0], g, iv) = pm_then X d 91 60 [some (.ref 0), some (.int x1), some (.int x2), some (.int x3)] [] (pm_c X d 123 [.ref 0, .int s0] g iv) := by
  exact at_inv dc91_57 mc91 lm5_68 rfl rfl (Nat.le_of_ble_eq_true rfl) (Or.inl ⟨(ly0 hL), by decide⟩)
theorem b91_60 {X : pm_X} {d : Nat} {x1 : Int32} {x2 : Int32} {x3 : Int32} {s0 : Int32} {g : pm_G} {iv : pm_V}  : pm_at X d 91 (60, [some (.ref 0), some (.int x1), some (.int x2), some (.int x3)], [.int s0], g, iv) = some (some (.int s0), g, iv) := by
  exact at_iret dc91_60 mr91
-- HH.copy (IIIII)I
theorem dc92_0 : decode (pm_mb 92) 0 = .ok (.iload_n 1, 1) := by decide +kernel
theorem dc92_1 : decode (pm_mb 92) 1 = .ok (.invokestatic 51, 3) := by decide +kernel
theorem dc92_4 : decode (pm_mb 92) 4 = .ok (.ifCond .eq 10, 3) := by decide +kernel
theorem dc92_7 : decode (pm_mb 92) 7 = .ok (.iload_n 3, 1) := by decide +kernel
theorem dc92_8 : decode (pm_mb 92) 8 = .ok (.invokestatic 51, 3) := by decide +kernel
theorem dc92_11 : decode (pm_mb 92) 11 = .ok (.ifCond .ne 6, 3) := by decide +kernel
theorem dc92_14 : decode (pm_mb 92) 14 = .ok (.ldc 59, 2) := by decide +kernel
theorem dc92_16 : decode (pm_mb 92) 16 = .ok (.ireturn, 1) := by decide +kernel
theorem dc92_17 : decode (pm_mb 92) 17 = .ok (.aload_n 0, 1) := by decide +kernel
theorem dc92_18 : decode (pm_mb 92) 18 = .ok (.getfield 10, 3) := by decide +kernel
theorem dc92_21 : decode (pm_mb 92) 21 = .ok (.iload_n 1, 1) := by decide +kernel
theorem dc92_22 : decode (pm_mb 92) 22 = .ok (.invokevirtual 71, 3) := by decide +kernel
theorem dc92_25 : decode (pm_mb 92) 25 = .ok (.ifCond .ne 14, 3) := by decide +kernel
theorem dc92_28 : decode (pm_mb 92) 28 = .ok (.aload_n 0, 1) := by decide +kernel
theorem dc92_29 : decode (pm_mb 92) 29 = .ok (.getfield 10, 3) := by decide +kernel
theorem dc92_32 : decode (pm_mb 92) 32 = .ok (.iload_n 3, 1) := by decide +kernel
theorem dc92_33 : decode (pm_mb 92) 33 = .ok (.invokevirtual 71, 3) := by decide +kernel
theorem dc92_36 : decode (pm_mb 92) 36 = .ok (.ifCond .eq 9, 3) := by decide +kernel
theorem dc92_39 : decode (pm_mb 92) 39 = .ok (.aload_n 0, 1) := by decide +kernel
theorem dc92_40 : decode (pm_mb 92) 40 = .ok (.iconst 1, 1) := by decide +kernel
theorem dc92_41 : decode (pm_mb 92) 41 = .ok (.invokevirtual 60, 3) := by decide +kernel
theorem dc92_44 : decode (pm_mb 92) 44 = .ok (.ireturn, 1) := by decide +kernel
theorem dc92_45 : decode (pm_mb 92) 45 = .ok (.aload_n 0, 1) := by decide +kernel
theorem dc92_46 : decode (pm_mb 92) 46 = .ok (.getfield 10, 3) := by decide +kernel
theorem dc92_49 : decode (pm_mb 92) 49 = .ok (.iload_n 1, 1) := by decide +kernel
theorem dc92_50 : decode (pm_mb 92) 50 = .ok (.invokevirtual 82, 3) := by decide +kernel
theorem dc92_53 : decode (pm_mb 92) 53 = .ok (.aload_n 0, 1) := by decide +kernel
theorem dc92_54 : decode (pm_mb 92) 54 = .ok (.getfield 10, 3) := by decide +kernel
theorem dc92_57 : decode (pm_mb 92) 57 = .ok (.iload_n 3, 1) := by decide +kernel
theorem dc92_58 : decode (pm_mb 92) 58 = .ok (.invokevirtual 82, 3) := by decide +kernel
theorem dc92_61 : decode (pm_mb 92) 61 = .ok (.if_icmp .eq 9, 3) := by decide +kernel
theorem dc92_64 : decode (pm_mb 92) 64 = .ok (.aload_n 0, 1) := by decide +kernel
theorem dc92_65 : decode (pm_mb 92) 65 = .ok (.iconst 5, 1) := by decide +kernel
theorem dc92_66 : decode (pm_mb 92) 66 = .ok (.invokevirtual 60, 3) := by decide +kernel
theorem dc92_69 : decode (pm_mb 92) 69 = .ok (.ireturn, 1) := by decide +kernel
theorem dc92_70 : decode (pm_mb 92) 70 = .ok (.aload_n 0, 1) := by decide +kernel
theorem dc92_71 : decode (pm_mb 92) 71 = .ok (.getfield 10, 3) := by decide +kernel
theorem dc92_74 : decode (pm_mb 92) 74 = .ok (.iload_n 1, 1) := by decide +kernel
theorem dc92_75 : decode (pm_mb 92) 75 = .ok (.iload_n 2, 1) := by decide +kernel
theorem dc92_76 : decode (pm_mb 92) 76 = .ok (.iload 5, 2) := by decide +kernel
theorem dc92_78 : decode (pm_mb 92) 78 = .ok (.invokevirtual 74, 3) := by decide +kernel
theorem dc92_81 : decode (pm_mb 92) 81 = .ok (.ifCond .eq 18, 3) := by decide +kernel
theorem dc92_84 : decode (pm_mb 92) 84 = .ok (.aload_n 0, 1) := by decide +kernel
theorem dc92_85 : decode (pm_mb 92) 85 = .ok (.getfield 10, 3) := by decide +kernel
theorem dc92_88 : decode (pm_mb 92) 88 = .ok (.iload_n 3, 1) := by decide +kernel
theorem dc92_89 : decode (pm_mb 92) 89 = .ok (.iload 4, 2) := by decide +kernel
theorem dc92_91 : decode (pm_mb 92) 91 = .ok (.iload 5, 2) := by decide +kernel
theorem dc92_93 : decode (pm_mb 92) 93 = .ok (.invokevirtual 74, 3) := by decide +kernel
theorem dc92_96 : decode (pm_mb 92) 96 = .ok (.ifCond .ne 9, 3) := by decide +kernel
theorem dc92_99 : decode (pm_mb 92) 99 = .ok (.aload_n 0, 1) := by decide +kernel
theorem dc92_100 : decode (pm_mb 92) 100 = .ok (.iconst 2, 1) := by decide +kernel
theorem dc92_101 : decode (pm_mb 92) 101 = .ok (.invokevirtual 60, 3) := by decide +kernel
theorem dc92_104 : decode (pm_mb 92) 104 = .ok (.ireturn, 1) := by decide +kernel
theorem dc92_105 : decode (pm_mb 92) 105 = .ok (.aload_n 0, 1) := by decide +kernel
theorem dc92_106 : decode (pm_mb 92) 106 = .ok (.getfield 10, 3) := by decide +kernel
theorem dc92_109 : decode (pm_mb 92) 109 = .ok (.iload_n 1, 1) := by decide +kernel
theorem dc92_110 : decode (pm_mb 92) 110 = .ok (.iload_n 2, 1) := by decide +kernel
theorem dc92_111 : decode (pm_mb 92) 111 = .ok (.iload_n 3, 1) := by decide +kernel
theorem dc92_112 : decode (pm_mb 92) 112 = .ok (.iload 4, 2) := by decide +kernel
theorem dc92_114 : decode (pm_mb 92) 114 = .ok (.iload 5, 2) := by decide +kernel
theorem dc92_116 : decode (pm_mb 92) 116 = .ok (.invokevirtual 85, 3) := by decide +kernel
theorem dc92_119 : decode (pm_mb 92) 119 = .ok (.aload_n 0, 1) := by decide +kernel
theorem dc92_120 : decode (pm_mb 92) 120 = .ok (.iload 5, 2) := by decide +kernel
theorem dc92_122 : decode (pm_mb 92) 122 = .ok (.invokevirtual 68, 3) := by decide +kernel
theorem dc92_125 : decode (pm_mb 92) 125 = .ok (.ireturn, 1) := by decide +kernel
theorem b92_0 {X : pm_X} {d : Nat} {x1 : Int32} {x2 : Int32} {x3 : Int32} {x4 : Int32} {x5 : Int32} {g : pm_G} {iv : pm_V}  : pm_at X d 92 (0, [some (.ref 0), some (.int x1), some (.int x2), some (.int x3), some (.int x4), some (.int x5)], [], g, iv) = pm_then X d 92 4 [some (.ref 0), some (.int x1), some (.int x2), some (.int x3), some (.int x4), some (.int x5)] [] (pm_c X d 120 [.int x1] g iv) := by
  refine (at_iload_n dc92_0 rfl).trans ?_
  exact at_ins dc92_1 mc92 lm5_51 (Nat.le_of_ble_eq_true rfl) rfl rfl (Nat.le_of_ble_eq_true rfl)
theorem b92_4 {X : pm_X} {d : Nat} {x1 : Int32} {x2 : Int32} {x3 : Int32} {x4 : Int32} {x5 : Int32} {s0 : Int32} {g : pm_G} {iv : pm_V}  : pm_at X d 92 (4, [some (.ref 0), some (.int x1), some (.int x2), some (.int x3), some (.int x4), some (.int x5)], [.int s0], g, iv) = if s0 = 0 then pm_at X d 92 (14, [some (.ref 0), some (.int x1), some (.int x2), some (.int x3), some (.int x4), some (.int x5)], [], g, iv) else pm_at X d 92 (7, [some (.ref 0), some (.int x1), some (.int x2), some (.int x3), some (.int x4), some (.int x5)], [], g, iv) := by
  exact at_if_eq (t := 14) dc92_4 (by decide)
theorem b92_7 {X : pm_X} {d : Nat} {x1 : Int32} {x2 : Int32} {x3 : Int32} {x4 : Int32} {x5 : Int32} {g : pm_G} {iv : pm_V}  : pm_at X d 92 (7, [some (.ref 0), some (.int x1), some (.int x2), some (.int x3), some (.int x4), some (.int x5)], [], g, iv) = pm_then X d 92 11 [some (.ref 0), some (.int x1), some (.int x2), some (.int x3), some (.int x4), some (.int x5)] [] (pm_c X d 120 [.int x3] g iv) := by
  refine (at_iload_n dc92_7 rfl).trans ?_
  exact at_ins dc92_8 mc92 lm5_51 (Nat.le_of_ble_eq_true rfl) rfl rfl (Nat.le_of_ble_eq_true rfl)
theorem b92_11 {X : pm_X} {d : Nat} {x1 : Int32} {x2 : Int32} {x3 : Int32} {x4 : Int32} {x5 : Int32} {s0 : Int32} {g : pm_G} {iv : pm_V}  : pm_at X d 92 (11, [some (.ref 0), some (.int x1), some (.int x2), some (.int x3), some (.int x4), some (.int x5)], [.int s0], g, iv) = if ¬ s0 = 0 then pm_at X d 92 (17, [some (.ref 0), some (.int x1), some (.int x2), some (.int x3), some (.int x4), some (.int x5)], [], g, iv) else pm_at X d 92 (14, [some (.ref 0), some (.int x1), some (.int x2), some (.int x3), some (.int x4), some (.int x5)], [], g, iv) := by
  exact at_if_ne (t := 17) dc92_11 (by decide)
theorem b92_14 {X : pm_X} {d : Nat} {x1 : Int32} {x2 : Int32} {x3 : Int32} {x4 : Int32} {x5 : Int32} {g : pm_G} {iv : pm_V}  : pm_at X d 92 (14, [some (.ref 0), some (.int x1), some (.int x2), some (.int x3), some (.int x4), some (.int x5)], [], g, iv) = some (some (.int (-1000001)), g, iv) := by
  refine (at_ldc dc92_14 mc92 lk5_59).trans ?_
  exact at_iret dc92_16 mr92
theorem b92_17 {X : pm_X} {d : Nat} {x1 : Int32} {x2 : Int32} {x3 : Int32} {x4 : Int32} {x5 : Int32} {g : pm_G} {iv : pm_V} (hL : pm_lay g) : pm_at X d 92 (17, [some (.ref 0), some (.int x1), some (.int x2), some (.int x3), some (.int x4), some (.int x5)], [], g, iv) = pm_then X d 92 25 [some (.ref 0), some (.int x1), some (.int x2), some (.int x3), some (.int x4), some (.int x5)] [] (pm_c X d 15 [.ref 1, .int x1] g iv) := by
  refine (at_aload_n dc92_17 rfl).trans ?_
  refine (at_gfR dc92_18 mc92 lf5_10 fo5_0 (ly0 hL) (lr0_0 hL)).trans ?_
  refine (at_iload_n dc92_21 rfl).trans ?_
  exact at_inv dc92_22 mc92 lm5_71 rfl rfl (Nat.le_of_ble_eq_true rfl) (Or.inl ⟨(ly1 hL), by decide⟩)
theorem b92_25 {X : pm_X} {d : Nat} {x1 : Int32} {x2 : Int32} {x3 : Int32} {x4 : Int32} {x5 : Int32} {s0 : Int32} {g : pm_G} {iv : pm_V}  : pm_at X d 92 (25, [some (.ref 0), some (.int x1), some (.int x2), some (.int x3), some (.int x4), some (.int x5)], [.int s0], g, iv) = if ¬ s0 = 0 then pm_at X d 92 (39, [some (.ref 0), some (.int x1), some (.int x2), some (.int x3), some (.int x4), some (.int x5)], [], g, iv) else pm_at X d 92 (28, [some (.ref 0), some (.int x1), some (.int x2), some (.int x3), some (.int x4), some (.int x5)], [], g, iv) := by
  exact at_if_ne (t := 39) dc92_25 (by decide)
theorem b92_28 {X : pm_X} {d : Nat} {x1 : Int32} {x2 : Int32} {x3 : Int32} {x4 : Int32} {x5 : Int32} {g : pm_G} {iv : pm_V} (hL : pm_lay g) : pm_at X d 92 (28, [some (.ref 0), some (.int x1), some (.int x2), some (.int x3), some (.int x4), some (.int x5)], [], g, iv) = pm_then X d 92 36 [some (.ref 0), some (.int x1), some (.int x2), some (.int x3), some (.int x4), some (.int x5)] [] (pm_c X d 15 [.ref 1, .int x3] g iv) := by
  refine (at_aload_n dc92_28 rfl).trans ?_
  refine (at_gfR dc92_29 mc92 lf5_10 fo5_0 (ly0 hL) (lr0_0 hL)).trans ?_
  refine (at_iload_n dc92_32 rfl).trans ?_
  exact at_inv dc92_33 mc92 lm5_71 rfl rfl (Nat.le_of_ble_eq_true rfl) (Or.inl ⟨(ly1 hL), by decide⟩)
theorem b92_36 {X : pm_X} {d : Nat} {x1 : Int32} {x2 : Int32} {x3 : Int32} {x4 : Int32} {x5 : Int32} {s0 : Int32} {g : pm_G} {iv : pm_V}  : pm_at X d 92 (36, [some (.ref 0), some (.int x1), some (.int x2), some (.int x3), some (.int x4), some (.int x5)], [.int s0], g, iv) = if s0 = 0 then pm_at X d 92 (45, [some (.ref 0), some (.int x1), some (.int x2), some (.int x3), some (.int x4), some (.int x5)], [], g, iv) else pm_at X d 92 (39, [some (.ref 0), some (.int x1), some (.int x2), some (.int x3), some (.int x4), some (.int x5)], [], g, iv) := by
  exact at_if_eq (t := 45) dc92_36 (by decide)
theorem b92_39 {X : pm_X} {d : Nat} {x1 : Int32} {x2 : Int32} {x3 : Int32} {x4 : Int32} {x5 : Int32} {g : pm_G} {iv : pm_V} (hL : pm_lay g) : pm_at X d 92 (39, [some (.ref 0), some (.int x1), some (.int x2), some (.int x3), some (.int x4), some (.int x5)], [], g, iv) = pm_then X d 92 44 [some (.ref 0), some (.int x1), some (.int x2), some (.int x3), some (.int x4), some (.int x5)] [] (pm_c X d 122 [.ref 0, .int 1] g iv) := by
  refine (at_aload_n dc92_39 rfl).trans ?_
  refine (at_iconst (v := 1) dc92_40 rfl).trans ?_
  exact at_inv dc92_41 mc92 lm5_60 rfl rfl (Nat.le_of_ble_eq_true rfl) (Or.inl ⟨(ly0 hL), by decide⟩)
theorem b92_44 {X : pm_X} {d : Nat} {x1 : Int32} {x2 : Int32} {x3 : Int32} {x4 : Int32} {x5 : Int32} {s0 : Int32} {g : pm_G} {iv : pm_V}  : pm_at X d 92 (44, [some (.ref 0), some (.int x1), some (.int x2), some (.int x3), some (.int x4), some (.int x5)], [.int s0], g, iv) = some (some (.int s0), g, iv) := by
  exact at_iret dc92_44 mr92
theorem b92_45 {X : pm_X} {d : Nat} {x1 : Int32} {x2 : Int32} {x3 : Int32} {x4 : Int32} {x5 : Int32} {g : pm_G} {iv : pm_V} (hL : pm_lay g) : pm_at X d 92 (45, [some (.ref 0), some (.int x1), some (.int x2), some (.int x3), some (.int x4), some (.int x5)], [], g, iv) = pm_then X d 92 53 [some (.ref 0), some (.int x1), some (.int x2), some (.int x3), some (.int x4), some (.int x5)] [] (pm_c X d 17 [.ref 1, .int x1] g iv) := by
  refine (at_aload_n dc92_45 rfl).trans ?_
  refine (at_gfR dc92_46 mc92 lf5_10 fo5_0 (ly0 hL) (lr0_0 hL)).trans ?_
  refine (at_iload_n dc92_49 rfl).trans ?_
  exact at_inv dc92_50 mc92 lm5_82 rfl rfl (Nat.le_of_ble_eq_true rfl) (Or.inl ⟨(ly1 hL), by decide⟩)
theorem b92_53 {X : pm_X} {d : Nat} {x1 : Int32} {x2 : Int32} {x3 : Int32} {x4 : Int32} {x5 : Int32} {s0 : Int32} {g : pm_G} {iv : pm_V} (hL : pm_lay g) : pm_at X d 92 (53, [some (.ref 0), some (.int x1), some (.int x2), some (.int x3), some (.int x4), some (.int x5)], [.int s0], g, iv) = pm_then X d 92 61 [some (.ref 0), some (.int x1), some (.int x2), some (.int x3), some (.int x4), some (.int x5)] [.int s0] (pm_c X d 17 [.ref 1, .int x3] g iv) := by
  refine (at_aload_n dc92_53 rfl).trans ?_
  refine (at_gfR dc92_54 mc92 lf5_10 fo5_0 (ly0 hL) (lr0_0 hL)).trans ?_
  refine (at_iload_n dc92_57 rfl).trans ?_
  exact at_inv dc92_58 mc92 lm5_82 rfl rfl (Nat.le_of_ble_eq_true rfl) (Or.inl ⟨(ly1 hL), by decide⟩)
theorem b92_61 {X : pm_X} {d : Nat} {x1 : Int32} {x2 : Int32} {x3 : Int32} {x4 : Int32} {x5 : Int32} {s0 : Int32} {s1 : Int32} {g : pm_G} {iv : pm_V}  : pm_at X d 92 (61, [some (.ref 0), some (.int x1), some (.int x2), some (.int x3), some (.int x4), some (.int x5)], [.int s0, .int s1], g, iv) = if s1 = s0 then pm_at X d 92 (70, [some (.ref 0), some (.int x1), some (.int x2), some (.int x3), some (.int x4), some (.int x5)], [], g, iv) else pm_at X d 92 (64, [some (.ref 0), some (.int x1), some (.int x2), some (.int x3), some (.int x4), some (.int x5)], [], g, iv) := by
  exact at_icmp_eq (t := 70) dc92_61 (by decide)
theorem b92_64 {X : pm_X} {d : Nat} {x1 : Int32} {x2 : Int32} {x3 : Int32} {x4 : Int32} {x5 : Int32} {g : pm_G} {iv : pm_V} (hL : pm_lay g) : pm_at X d 92 (64, [some (.ref 0), some (.int x1), some (.int x2), some (.int x3), some (.int x4), some (.int x5)], [], g, iv) = pm_then X d 92 69 [some (.ref 0), some (.int x1), some (.int x2), some (.int x3), some (.int x4), some (.int x5)] [] (pm_c X d 122 [.ref 0, .int 5] g iv) := by
  refine (at_aload_n dc92_64 rfl).trans ?_
  refine (at_iconst (v := 5) dc92_65 rfl).trans ?_
  exact at_inv dc92_66 mc92 lm5_60 rfl rfl (Nat.le_of_ble_eq_true rfl) (Or.inl ⟨(ly0 hL), by decide⟩)
theorem b92_69 {X : pm_X} {d : Nat} {x1 : Int32} {x2 : Int32} {x3 : Int32} {x4 : Int32} {x5 : Int32} {s0 : Int32} {g : pm_G} {iv : pm_V}  : pm_at X d 92 (69, [some (.ref 0), some (.int x1), some (.int x2), some (.int x3), some (.int x4), some (.int x5)], [.int s0], g, iv) = some (some (.int s0), g, iv) := by
  exact at_iret dc92_69 mr92
theorem b92_70 {X : pm_X} {d : Nat} {x1 : Int32} {x2 : Int32} {x3 : Int32} {x4 : Int32} {x5 : Int32} {g : pm_G} {iv : pm_V} (hL : pm_lay g) : pm_at X d 92 (70, [some (.ref 0), some (.int x1), some (.int x2), some (.int x3), some (.int x4), some (.int x5)], [], g, iv) = pm_then X d 92 81 [some (.ref 0), some (.int x1), some (.int x2), some (.int x3), some (.int x4), some (.int x5)] [] (pm_c X d 16 [.ref 1, .int x1, .int x2, .int x5] g iv) := by
  refine (at_aload_n dc92_70 rfl).trans ?_
  refine (at_gfR dc92_71 mc92 lf5_10 fo5_0 (ly0 hL) (lr0_0 hL)).trans ?_
  refine (at_iload_n dc92_74 rfl).trans ?_
  refine (at_iload_n dc92_75 rfl).trans ?_
  refine (at_iload dc92_76 rfl).trans ?_
  exact at_inv dc92_78 mc92 lm5_74 rfl rfl (Nat.le_of_ble_eq_true rfl) (Or.inl ⟨(ly1 hL), by decide⟩)
theorem b92_81 {X : pm_X} {d : Nat} {x1 : Int32} {x2 : Int32} {x3 : Int32} {x4 : Int32} {x5 : Int32} {s0 : Int32} {g : pm_G} {iv : pm_V}  : pm_at X d 92 (81, [some (.ref 0), some (.int x1), some (.int x2), some (.int x3), some (.int x4), some (.int x5)], [.int s0], g, iv) = if s0 = 0 then pm_at X d 92 (99, [some (.ref 0), some (.int x1), some (.int x2), some (.int x3), some (.int x4), some (.int x5)], [], g, iv) else pm_at X d 92 (84, [some (.ref 0), some (.int x1), some (.int x2), some (.int x3), some (.int x4), some (.int x5)], [], g, iv) := by
  exact at_if_eq (t := 99) dc92_81 (by decide)
theorem b92_84 {X : pm_X} {d : Nat} {x1 : Int32} {x2 : Int32} {x3 : Int32} {x4 : Int32} {x5 : Int32} {g : pm_G} {iv : pm_V} (hL : pm_lay g) : pm_at X d 92 (84, [some (.ref 0), some (.int x1), some (.int x2), some (.int x3), some (.int x4), some (.int x5)], [], g, iv) = pm_then X d 92 96 [some (.ref 0), some (.int x1), some (.int x2), some (.int x3), some (.int x4), some (.int x5)] [] (pm_c X d 16 [.ref 1, .int x3, .int x4, .int x5] g iv) := by
  refine (at_aload_n dc92_84 rfl).trans ?_
  refine (at_gfR dc92_85 mc92 lf5_10 fo5_0 (ly0 hL) (lr0_0 hL)).trans ?_
  refine (at_iload_n dc92_88 rfl).trans ?_
  refine (at_iload dc92_89 rfl).trans ?_
  refine (at_iload dc92_91 rfl).trans ?_
  exact at_inv dc92_93 mc92 lm5_74 rfl rfl (Nat.le_of_ble_eq_true rfl) (Or.inl ⟨(ly1 hL), by decide⟩)
theorem b92_96 {X : pm_X} {d : Nat} {x1 : Int32} {x2 : Int32} {x3 : Int32} {x4 : Int32} {x5 : Int32} {s0 : Int32} {g : pm_G} {iv : pm_V}  : pm_at X d 92 (96, [some (.ref 0), some (.int x1), some (.int x2), some (.int x3), some (.int x4), some (.int x5)], [.int s0], g, iv) = if ¬ s0 = 0 then pm_at X d 92 (105, [some (.ref 0), some (.int x1), some (.int x2), some (.int x3), some (.int x4), some (.int x5)], [], g, iv) else pm_at X d 92 (99, [some (.ref 0), some (.int x1), some (.int x2), some (.int x3), some (.int x4), some (.int x5)], [], g, iv) := by
  exact at_if_ne (t := 105) dc92_96 (by decide)
theorem b92_99 {X : pm_X} {d : Nat} {x1 : Int32} {x2 : Int32} {x3 : Int32} {x4 : Int32} {x5 : Int32} {g : pm_G} {iv : pm_V} (hL : pm_lay g) : pm_at X d 92 (99, [some (.ref 0), some (.int x1), some (.int x2), some (.int x3), some (.int x4), some (.int x5)], [], g, iv) = pm_then X d 92 104 [some (.ref 0), some (.int x1), some (.int x2), some (.int x3), some (.int x4), some (.int x5)] [] (pm_c X d 122 [.ref 0, .int 2] g iv) := by
  refine (at_aload_n dc92_99 rfl).trans ?_
  refine (at_iconst (v := 2) dc92_100 rfl).trans ?_
  exact at_inv dc92_101 mc92 lm5_60 rfl rfl (Nat.le_of_ble_eq_true rfl) (Or.inl ⟨(ly0 hL), by decide⟩)
theorem b92_104 {X : pm_X} {d : Nat} {x1 : Int32} {x2 : Int32} {x3 : Int32} {x4 : Int32} {x5 : Int32} {s0 : Int32} {g : pm_G} {iv : pm_V}  : pm_at X d 92 (104, [some (.ref 0), some (.int x1), some (.int x2), some (.int x3), some (.int x4), some (.int x5)], [.int s0], g, iv) = some (some (.int s0), g, iv) := by
  exact at_iret dc92_104 mr92
theorem b92_105 {X : pm_X} {d : Nat} {x1 : Int32} {x2 : Int32} {x3 : Int32} {x4 : Int32} {x5 : Int32} {g : pm_G} {iv : pm_V} (hL : pm_lay g) : pm_at X d 92 (105, [some (.ref 0), some (.int x1), some (.int x2), some (.int x3), some (.int x4), some (.int x5)], [], g, iv) = pm_then X d 92 119 [some (.ref 0), some (.int x1), some (.int x2), some (.int x3), some (.int x4), some (.int x5)] [] (pm_c X d 22 [.ref 1, .int x1, .int x2, .int x3, .int x4, .int x5] g iv) := by
  refine (at_aload_n dc92_105 rfl).trans ?_
  refine (at_gfR dc92_106 mc92 lf5_10 fo5_0 (ly0 hL) (lr0_0 hL)).trans ?_
  refine (at_iload_n dc92_109 rfl).trans ?_
  refine (at_iload_n dc92_110 rfl).trans ?_
  refine (at_iload_n dc92_111 rfl).trans ?_
  refine (at_iload dc92_112 rfl).trans ?_
  refine (at_iload dc92_114 rfl).trans ?_
  exact at_inv dc92_116 mc92 lm5_85 rfl rfl (Nat.le_of_ble_eq_true rfl) (Or.inl ⟨(ly1 hL), by decide⟩)
theorem b92_119 {X : pm_X} {d : Nat} {x1 : Int32} {x2 : Int32} {x3 : Int32} {x4 : Int32} {x5 : Int32} {g : pm_G} {iv : pm_V} (hL : pm_lay g) : pm_at X d 92 (119, [some (.ref 0), some (.int x1), some (.int x2), some (.int x3), some (.int x4), some (.int x5)], [], g, iv) = pm_then X d 92 125 [some (.ref 0), some (.int x1), some (.int x2), some (.int x3), some (.int x4), some (.int x5)] [] (pm_c X d 123 [.ref 0, .int x5] g iv) := by
  refine (at_aload_n dc92_119 rfl).trans ?_
  refine (at_iload dc92_120 rfl).trans ?_
  exact at_inv dc92_122 mc92 lm5_68 rfl rfl (Nat.le_of_ble_eq_true rfl) (Or.inl ⟨(ly0 hL), by decide⟩)
theorem b92_125 {X : pm_X} {d : Nat} {x1 : Int32} {x2 : Int32} {x3 : Int32} {x4 : Int32} {x5 : Int32} {s0 : Int32} {g : pm_G} {iv : pm_V}  : pm_at X d 92 (125, [some (.ref 0), some (.int x1), some (.int x2), some (.int x3), some (.int x4), some (.int x5)], [.int s0], g, iv) = some (some (.int s0), g, iv) := by
  exact at_iret dc92_125 mr92
-- HH.drop (I)I
theorem dc93_0 : decode (pm_mb 93) 0 = .ok (.iload_n 1, 1) := by decide +kernel
theorem dc93_1 : decode (pm_mb 93) 1 = .ok (.invokestatic 51, 3) := by decide +kernel
theorem dc93_4 : decode (pm_mb 93) 4 = .ok (.ifCond .ne 6, 3) := by decide +kernel
theorem dc93_7 : decode (pm_mb 93) 7 = .ok (.ldc 59, 2) := by decide +kernel
theorem dc93_9 : decode (pm_mb 93) 9 = .ok (.ireturn, 1) := by decide +kernel
theorem dc93_10 : decode (pm_mb 93) 10 = .ok (.aload_n 0, 1) := by decide +kernel
theorem dc93_11 : decode (pm_mb 93) 11 = .ok (.getfield 10, 3) := by decide +kernel
theorem dc93_14 : decode (pm_mb 93) 14 = .ok (.iload_n 1, 1) := by decide +kernel
theorem dc93_15 : decode (pm_mb 93) 15 = .ok (.invokevirtual 71, 3) := by decide +kernel
theorem dc93_18 : decode (pm_mb 93) 18 = .ok (.ifCond .eq 9, 3) := by decide +kernel
theorem dc93_21 : decode (pm_mb 93) 21 = .ok (.aload_n 0, 1) := by decide +kernel
theorem dc93_22 : decode (pm_mb 93) 22 = .ok (.iconst 1, 1) := by decide +kernel
theorem dc93_23 : decode (pm_mb 93) 23 = .ok (.invokevirtual 60, 3) := by decide +kernel
theorem dc93_26 : decode (pm_mb 93) 26 = .ok (.ireturn, 1) := by decide +kernel
theorem dc93_27 : decode (pm_mb 93) 27 = .ok (.aload_n 0, 1) := by decide +kernel
theorem dc93_28 : decode (pm_mb 93) 28 = .ok (.aload_n 0, 1) := by decide +kernel
theorem dc93_29 : decode (pm_mb 93) 29 = .ok (.getfield 10, 3) := by decide +kernel
theorem dc93_32 : decode (pm_mb 93) 32 = .ok (.iload_n 1, 1) := by decide +kernel
theorem dc93_33 : decode (pm_mb 93) 33 = .ok (.invokevirtual 89, 3) := by decide +kernel
theorem dc93_36 : decode (pm_mb 93) 36 = .ok (.invokevirtual 68, 3) := by decide +kernel
theorem dc93_39 : decode (pm_mb 93) 39 = .ok (.ireturn, 1) := by decide +kernel
theorem b93_0 {X : pm_X} {d : Nat} {x1 : Int32} {g : pm_G} {iv : pm_V}  : pm_at X d 93 (0, [some (.ref 0), some (.int x1)], [], g, iv) = pm_then X d 93 4 [some (.ref 0), some (.int x1)] [] (pm_c X d 120 [.int x1] g iv) := by
  refine (at_iload_n dc93_0 rfl).trans ?_
  exact at_ins dc93_1 mc93 lm5_51 (Nat.le_of_ble_eq_true rfl) rfl rfl (Nat.le_of_ble_eq_true rfl)
theorem b93_4 {X : pm_X} {d : Nat} {x1 : Int32} {s0 : Int32} {g : pm_G} {iv : pm_V}  : pm_at X d 93 (4, [some (.ref 0), some (.int x1)], [.int s0], g, iv) = if ¬ s0 = 0 then pm_at X d 93 (10, [some (.ref 0), some (.int x1)], [], g, iv) else pm_at X d 93 (7, [some (.ref 0), some (.int x1)], [], g, iv) := by
  exact at_if_ne (t := 10) dc93_4 (by decide)
theorem b93_7 {X : pm_X} {d : Nat} {x1 : Int32} {g : pm_G} {iv : pm_V}  : pm_at X d 93 (7, [some (.ref 0), some (.int x1)], [], g, iv) = some (some (.int (-1000001)), g, iv) := by
  refine (at_ldc dc93_7 mc93 lk5_59).trans ?_
  exact at_iret dc93_9 mr93
theorem b93_10 {X : pm_X} {d : Nat} {x1 : Int32} {g : pm_G} {iv : pm_V} (hL : pm_lay g) : pm_at X d 93 (10, [some (.ref 0), some (.int x1)], [], g, iv) = pm_then X d 93 18 [some (.ref 0), some (.int x1)] [] (pm_c X d 15 [.ref 1, .int x1] g iv) := by
  refine (at_aload_n dc93_10 rfl).trans ?_
  refine (at_gfR dc93_11 mc93 lf5_10 fo5_0 (ly0 hL) (lr0_0 hL)).trans ?_
  refine (at_iload_n dc93_14 rfl).trans ?_
  exact at_inv dc93_15 mc93 lm5_71 rfl rfl (Nat.le_of_ble_eq_true rfl) (Or.inl ⟨(ly1 hL), by decide⟩)
theorem b93_18 {X : pm_X} {d : Nat} {x1 : Int32} {s0 : Int32} {g : pm_G} {iv : pm_V}  : pm_at X d 93 (18, [some (.ref 0), some (.int x1)], [.int s0], g, iv) = if s0 = 0 then pm_at X d 93 (27, [some (.ref 0), some (.int x1)], [], g, iv) else pm_at X d 93 (21, [some (.ref 0), some (.int x1)], [], g, iv) := by
  exact at_if_eq (t := 27) dc93_18 (by decide)
theorem b93_21 {X : pm_X} {d : Nat} {x1 : Int32} {g : pm_G} {iv : pm_V} (hL : pm_lay g) : pm_at X d 93 (21, [some (.ref 0), some (.int x1)], [], g, iv) = pm_then X d 93 26 [some (.ref 0), some (.int x1)] [] (pm_c X d 122 [.ref 0, .int 1] g iv) := by
  refine (at_aload_n dc93_21 rfl).trans ?_
  refine (at_iconst (v := 1) dc93_22 rfl).trans ?_
  exact at_inv dc93_23 mc93 lm5_60 rfl rfl (Nat.le_of_ble_eq_true rfl) (Or.inl ⟨(ly0 hL), by decide⟩)
theorem b93_26 {X : pm_X} {d : Nat} {x1 : Int32} {s0 : Int32} {g : pm_G} {iv : pm_V}  : pm_at X d 93 (26, [some (.ref 0), some (.int x1)], [.int s0], g, iv) = some (some (.int s0), g, iv) := by
  exact at_iret dc93_26 mr93
theorem b93_27 {X : pm_X} {d : Nat} {x1 : Int32} {g : pm_G} {iv : pm_V} (hL : pm_lay g) : pm_at X d 93 (27, [some (.ref 0), some (.int x1)], [], g, iv) = pm_then X d 93 36 [some (.ref 0), some (.int x1)] [.ref 0] (pm_c X d 23 [.ref 1, .int x1] g iv) := by
  refine (at_aload_n dc93_27 rfl).trans ?_
  refine (at_aload_n dc93_28 rfl).trans ?_
  refine (at_gfR dc93_29 mc93 lf5_10 fo5_0 (ly0 hL) (lr0_0 hL)).trans ?_
  refine (at_iload_n dc93_32 rfl).trans ?_
  exact at_inv dc93_33 mc93 lm5_89 rfl rfl (Nat.le_of_ble_eq_true rfl) (Or.inl ⟨(ly1 hL), by decide⟩)
theorem b93_36 {X : pm_X} {d : Nat} {x1 : Int32} {s0 : Int32} {g : pm_G} {iv : pm_V} (hL : pm_lay g) : pm_at X d 93 (36, [some (.ref 0), some (.int x1)], [.int s0, .ref 0], g, iv) = pm_then X d 93 39 [some (.ref 0), some (.int x1)] [] (pm_c X d 123 [.ref 0, .int s0] g iv) := by
  exact at_inv dc93_36 mc93 lm5_68 rfl rfl (Nat.le_of_ble_eq_true rfl) (Or.inl ⟨(ly0 hL), by decide⟩)
theorem b93_39 {X : pm_X} {d : Nat} {x1 : Int32} {s0 : Int32} {g : pm_G} {iv : pm_V}  : pm_at X d 93 (39, [some (.ref 0), some (.int x1)], [.int s0], g, iv) = some (some (.int s0), g, iv) := by
  exact at_iret dc93_39 mr93
-- HH.feed (JI)I
theorem dc94_0 : decode (pm_mb 94) 0 = .ok (.iload_n 3, 1) := by decide +kernel
theorem dc94_1 : decode (pm_mb 94) 1 = .ok (.iconst 1, 1) := by decide +kernel
theorem dc94_2 : decode (pm_mb 94) 2 = .ok (.if_icmp .lt 9, 3) := by decide +kernel
theorem dc94_5 : decode (pm_mb 94) 5 = .ok (.iload_n 3, 1) := by decide +kernel
theorem dc94_6 : decode (pm_mb 94) 6 = .ok (.bipush 8, 2) := by decide +kernel
theorem dc94_8 : decode (pm_mb 94) 8 = .ok (.if_icmp .le 6, 3) := by decide +kernel
theorem dc94_11 : decode (pm_mb 94) 11 = .ok (.ldc 59, 2) := by decide +kernel
theorem dc94_13 : decode (pm_mb 94) 13 = .ok (.ireturn, 1) := by decide +kernel
theorem dc94_14 : decode (pm_mb 94) 14 = .ok (.aload_n 0, 1) := by decide +kernel
theorem dc94_15 : decode (pm_mb 94) 15 = .ok (.getfield 19, 3) := by decide +kernel
theorem dc94_18 : decode (pm_mb 94) 18 = .ok (.lload_n 1, 1) := by decide +kernel
theorem dc94_19 : decode (pm_mb 94) 19 = .ok (.iload_n 3, 1) := by decide +kernel
theorem dc94_20 : decode (pm_mb 94) 20 = .ok (.invokevirtual 92, 3) := by decide +kernel
theorem dc94_23 : decode (pm_mb 94) 23 = .ok (.ifCond .eq 13, 3) := by decide +kernel
theorem dc94_26 : decode (pm_mb 94) 26 = .ok (.aload_n 0, 1) := by decide +kernel
theorem dc94_27 : decode (pm_mb 94) 27 = .ok (.getfield 19, 3) := by decide +kernel
theorem dc94_30 : decode (pm_mb 94) 30 = .ok (.invokevirtual 96, 3) := by decide +kernel
theorem dc94_33 : decode (pm_mb 94) 33 = .ok (.goto 5, 3) := by decide +kernel
theorem dc94_36 : decode (pm_mb 94) 36 = .ok (.ldc 100, 2) := by decide +kernel
theorem dc94_38 : decode (pm_mb 94) 38 = .ok (.ireturn, 1) := by decide +kernel
theorem b94_0 {X : pm_X} {d : Nat} {x1 : Int64} {x3 : Int32} {g : pm_G} {iv : pm_V}  : pm_at X d 94 (0, [some (.ref 0), some (.long x1), none, some (.int x3)], [], g, iv) = if x3 < 1 then pm_at X d 94 (11, [some (.ref 0), some (.long x1), none, some (.int x3)], [], g, iv) else pm_at X d 94 (5, [some (.ref 0), some (.long x1), none, some (.int x3)], [], g, iv) := by
  refine (at_iload_n dc94_0 rfl).trans ?_
  refine (at_iconst (v := 1) dc94_1 rfl).trans ?_
  exact at_icmp_lt (t := 11) dc94_2 (by decide)
theorem b94_5 {X : pm_X} {d : Nat} {x1 : Int64} {x3 : Int32} {g : pm_G} {iv : pm_V}  : pm_at X d 94 (5, [some (.ref 0), some (.long x1), none, some (.int x3)], [], g, iv) = if x3 ≤ 8 then pm_at X d 94 (14, [some (.ref 0), some (.long x1), none, some (.int x3)], [], g, iv) else pm_at X d 94 (11, [some (.ref 0), some (.long x1), none, some (.int x3)], [], g, iv) := by
  refine (at_iload_n dc94_5 rfl).trans ?_
  refine (at_bipush (v := 8) dc94_6 (by decide)).trans ?_
  exact at_icmp_le (t := 14) dc94_8 (by decide)
theorem b94_11 {X : pm_X} {d : Nat} {x1 : Int64} {x3 : Int32} {g : pm_G} {iv : pm_V}  : pm_at X d 94 (11, [some (.ref 0), some (.long x1), none, some (.int x3)], [], g, iv) = some (some (.int (-1000001)), g, iv) := by
  refine (at_ldc dc94_11 mc94 lk5_59).trans ?_
  exact at_iret dc94_13 mr94
theorem b94_14 {X : pm_X} {d : Nat} {x1 : Int64} {x3 : Int32} {g : pm_G} {iv : pm_V} (hL : pm_lay g) : pm_at X d 94 (14, [some (.ref 0), some (.long x1), none, some (.int x3)], [], g, iv) = pm_then X d 94 23 [some (.ref 0), some (.long x1), none, some (.int x3)] [] (pm_c X d 70 [.ref 5, .long x1, .int x3] g iv) := by
  refine (at_aload_n dc94_14 rfl).trans ?_
  refine (at_gfR dc94_15 mc94 lf5_19 fo5_1 (ly0 hL) (lr0_1 hL)).trans ?_
  refine (at_lload_n dc94_18 rfl).trans ?_
  refine (at_iload_n dc94_19 rfl).trans ?_
  exact at_inv dc94_20 mc94 lm5_92 rfl rfl (Nat.le_of_ble_eq_true rfl) (Or.inl ⟨(ly5 hL), by decide⟩)
theorem b94_23 {X : pm_X} {d : Nat} {x1 : Int64} {x3 : Int32} {s0 : Int32} {g : pm_G} {iv : pm_V}  : pm_at X d 94 (23, [some (.ref 0), some (.long x1), none, some (.int x3)], [.int s0], g, iv) = if s0 = 0 then pm_at X d 94 (36, [some (.ref 0), some (.long x1), none, some (.int x3)], [], g, iv) else pm_at X d 94 (26, [some (.ref 0), some (.long x1), none, some (.int x3)], [], g, iv) := by
  exact at_if_eq (t := 36) dc94_23 (by decide)
theorem b94_26 {X : pm_X} {d : Nat} {x1 : Int64} {x3 : Int32} {g : pm_G} {iv : pm_V} (hL : pm_lay g) : pm_at X d 94 (26, [some (.ref 0), some (.long x1), none, some (.int x3)], [], g, iv) = pm_then X d 94 33 [some (.ref 0), some (.long x1), none, some (.int x3)] [] (pm_c X d 66 [.ref 5] g iv) := by
  refine (at_aload_n dc94_26 rfl).trans ?_
  refine (at_gfR dc94_27 mc94 lf5_19 fo5_1 (ly0 hL) (lr0_1 hL)).trans ?_
  exact at_inv dc94_30 mc94 lm5_96 rfl rfl (Nat.le_of_ble_eq_true rfl) (Or.inl ⟨(ly5 hL), by decide⟩)
theorem b94_33 {X : pm_X} {d : Nat} {x1 : Int64} {x3 : Int32} {s0 : Int32} {g : pm_G} {iv : pm_V}  : pm_at X d 94 (33, [some (.ref 0), some (.long x1), none, some (.int x3)], [.int s0], g, iv) = pm_at X d 94 (38, [some (.ref 0), some (.long x1), none, some (.int x3)], [.int s0], g, iv) := by
  refine (at_goto (t := 38) dc94_33 (by decide)).trans ?_
  rfl
theorem b94_36 {X : pm_X} {d : Nat} {x1 : Int64} {x3 : Int32} {g : pm_G} {iv : pm_V}  : pm_at X d 94 (36, [some (.ref 0), some (.long x1), none, some (.int x3)], [], g, iv) = pm_at X d 94 (38, [some (.ref 0), some (.long x1), none, some (.int x3)], [.int (-1000003)], g, iv) := by
  refine (at_ldc dc94_36 mc94 lk5_100).trans ?_
  rfl
theorem b94_38 {X : pm_X} {d : Nat} {x1 : Int64} {x3 : Int32} {s0 : Int32} {g : pm_G} {iv : pm_V}  : pm_at X d 94 (38, [some (.ref 0), some (.long x1), none, some (.int x3)], [.int s0], g, iv) = some (some (.int s0), g, iv) := by
  exact at_iret dc94_38 mr94
-- HH.hill ()I
theorem dc95_0 : decode (pm_mb 95) 0 = .ok (.aload_n 0, 1) := by decide +kernel
theorem dc95_1 : decode (pm_mb 95) 1 = .ok (.getfield 19, 3) := by decide +kernel
theorem dc95_4 : decode (pm_mb 95) 4 = .ok (.aload_n 0, 1) := by decide +kernel
theorem dc95_5 : decode (pm_mb 95) 5 = .ok (.getfield 44, 3) := by decide +kernel
theorem dc95_8 : decode (pm_mb 95) 8 = .ok (.invokevirtual 101, 3) := by decide +kernel
theorem dc95_11 : decode (pm_mb 95) 11 = .ok (.istore_n 1, 1) := by decide +kernel
theorem dc95_12 : decode (pm_mb 95) 12 = .ok (.aload_n 0, 1) := by decide +kernel
theorem dc95_13 : decode (pm_mb 95) 13 = .ok (.getfield 19, 3) := by decide +kernel
theorem dc95_16 : decode (pm_mb 95) 16 = .ok (.invokevirtual 105, 3) := by decide +kernel
theorem dc95_19 : decode (pm_mb 95) 19 = .ok (.iload_n 1, 1) := by decide +kernel
theorem dc95_20 : decode (pm_mb 95) 20 = .ok (.ifCond .ne 14, 3) := by decide +kernel
theorem dc95_23 : decode (pm_mb 95) 23 = .ok (.ldc 108, 2) := by decide +kernel
theorem dc95_25 : decode (pm_mb 95) 25 = .ok (.aload_n 0, 1) := by decide +kernel
theorem dc95_26 : decode (pm_mb 95) 26 = .ok (.getfield 19, 3) := by decide +kernel
theorem dc95_29 : decode (pm_mb 95) 29 = .ok (.invokevirtual 109, 3) := by decide +kernel
theorem dc95_32 : decode (pm_mb 95) 32 = .ok (.isub, 1) := by decide +kernel
theorem dc95_33 : decode (pm_mb 95) 33 = .ok (.ireturn, 1) := by decide +kernel
theorem dc95_34 : decode (pm_mb 95) 34 = .ok (.aload_n 0, 1) := by decide +kernel
theorem dc95_35 : decode (pm_mb 95) 35 = .ok (.getfield 40, 3) := by decide +kernel
theorem dc95_38 : decode (pm_mb 95) 38 = .ok (.aload_n 0, 1) := by decide +kernel
theorem dc95_39 : decode (pm_mb 95) 39 = .ok (.getfield 44, 3) := by decide +kernel
theorem dc95_42 : decode (pm_mb 95) 42 = .ok (.invokevirtual 112, 3) := by decide +kernel
theorem dc95_45 : decode (pm_mb 95) 45 = .ok (.aload_n 0, 1) := by decide +kernel
theorem dc95_46 : decode (pm_mb 95) 46 = .ok (.getfield 26, 3) := by decide +kernel
theorem dc95_49 : decode (pm_mb 95) 49 = .ok (.invokevirtual 116, 3) := by decide +kernel
theorem dc95_52 : decode (pm_mb 95) 52 = .ok (.aload_n 0, 1) := by decide +kernel
theorem dc95_53 : decode (pm_mb 95) 53 = .ok (.getfield 40, 3) := by decide +kernel
theorem dc95_56 : decode (pm_mb 95) 56 = .ok (.invokevirtual 119, 3) := by decide +kernel
theorem dc95_59 : decode (pm_mb 95) 59 = .ok (.ireturn, 1) := by decide +kernel
theorem b95_0 {X : pm_X} {d : Nat} {g : pm_G} {iv : pm_V} (hL : pm_lay g) : pm_at X d 95 (0, [some (.ref 0), none], [], g, iv) = pm_then X d 95 11 [some (.ref 0), none] [] (pm_c X d 71 [.ref 5, .ref 21] g iv) := by
  refine (at_aload_n dc95_0 rfl).trans ?_
  refine (at_gfR dc95_1 mc95 lf5_19 fo5_1 (ly0 hL) (lr0_1 hL)).trans ?_
  refine (at_aload_n dc95_4 rfl).trans ?_
  refine (at_gfR dc95_5 mc95 lf5_44 fo5_5 (ly0 hL) (lr0_5 hL)).trans ?_
  exact at_inv dc95_8 mc95 lm5_101 rfl rfl (Nat.le_of_ble_eq_true rfl) (Or.inl ⟨(ly5 hL), by decide⟩)
theorem b95_11 {X : pm_X} {d : Nat} {s0 : Int32} {g : pm_G} {iv : pm_V} (hL : pm_lay g) : pm_at X d 95 (11, [some (.ref 0), none], [.int s0], g, iv) = pm_then X d 95 19 [some (.ref 0), some (.int s0)] [] (pm_c X d 69 [.ref 5] g iv) := by
  refine (at_istore_n dc95_11 rfl).trans ?_
  refine (at_aload_n dc95_12 rfl).trans ?_
  refine (at_gfR dc95_13 mc95 lf5_19 fo5_1 (ly0 hL) (lr0_1 hL)).trans ?_
  exact at_inv dc95_16 mc95 lm5_105 rfl rfl (Nat.le_of_ble_eq_true rfl) (Or.inl ⟨(ly5 hL), by decide⟩)
theorem b95_19 {X : pm_X} {d : Nat} {x1 : Int32} {g : pm_G} {iv : pm_V}  : pm_at X d 95 (19, [some (.ref 0), some (.int x1)], [], g, iv) = if ¬ x1 = 0 then pm_at X d 95 (34, [some (.ref 0), some (.int x1)], [], g, iv) else pm_at X d 95 (23, [some (.ref 0), some (.int x1)], [], g, iv) := by
  refine (at_iload_n dc95_19 rfl).trans ?_
  exact at_if_ne (t := 34) dc95_20 (by decide)
theorem b95_23 {X : pm_X} {d : Nat} {x1 : Int32} {g : pm_G} {iv : pm_V} (hL : pm_lay g) : pm_at X d 95 (23, [some (.ref 0), some (.int x1)], [], g, iv) = pm_then X d 95 32 [some (.ref 0), some (.int x1)] [.int (-1000100)] (pm_c X d 68 [.ref 5] g iv) := by
  refine (at_ldc dc95_23 mc95 lk5_108).trans ?_
  refine (at_aload_n dc95_25 rfl).trans ?_
  refine (at_gfR dc95_26 mc95 lf5_19 fo5_1 (ly0 hL) (lr0_1 hL)).trans ?_
  exact at_inv dc95_29 mc95 lm5_109 rfl rfl (Nat.le_of_ble_eq_true rfl) (Or.inl ⟨(ly5 hL), by decide⟩)
theorem b95_32 {X : pm_X} {d : Nat} {x1 : Int32} {s0 : Int32} {s1 : Int32} {g : pm_G} {iv : pm_V}  : pm_at X d 95 (32, [some (.ref 0), some (.int x1)], [.int s0, .int s1], g, iv) = some (some (.int (s1 - s0)), g, iv) := by
  refine (at_isub dc95_32).trans ?_
  exact at_iret dc95_33 mr95
theorem b95_34 {X : pm_X} {d : Nat} {x1 : Int32} {g : pm_G} {iv : pm_V} (hL : pm_lay g) : pm_at X d 95 (34, [some (.ref 0), some (.int x1)], [], g, iv) = pm_then X d 95 45 [some (.ref 0), some (.int x1)] [] (pm_c X d 52 [.ref 11, .ref 21] g iv) := by
  refine (at_aload_n dc95_34 rfl).trans ?_
  refine (at_gfR dc95_35 mc95 lf5_40 fo5_4 (ly0 hL) (lr0_4 hL)).trans ?_
  refine (at_aload_n dc95_38 rfl).trans ?_
  refine (at_gfR dc95_39 mc95 lf5_44 fo5_5 (ly0 hL) (lr0_5 hL)).trans ?_
  exact at_inv dc95_42 mc95 lm5_112 rfl rfl (Nat.le_of_ble_eq_true rfl) (Or.inl ⟨(ly11 hL), by decide⟩)
theorem b95_45 {X : pm_X} {d : Nat} {x1 : Int32} {g : pm_G} {iv : pm_V} (hL : pm_lay g) : pm_at X d 95 (45, [some (.ref 0), some (.int x1)], [], g, iv) = pm_then X d 95 52 [some (.ref 0), some (.int x1)] [] (pm_c X d 2 [.ref 7] g iv) := by
  refine (at_aload_n dc95_45 rfl).trans ?_
  refine (at_gfR dc95_46 mc95 lf5_26 fo5_2 (ly0 hL) (lr0_2 hL)).trans ?_
  exact at_inv dc95_49 mc95 lm5_116 rfl rfl (Nat.le_of_ble_eq_true rfl) (Or.inl ⟨(ly7 hL), by decide⟩)
theorem b95_52 {X : pm_X} {d : Nat} {x1 : Int32} {g : pm_G} {iv : pm_V} (hL : pm_lay g) : pm_at X d 95 (52, [some (.ref 0), some (.int x1)], [], g, iv) = pm_then X d 95 59 [some (.ref 0), some (.int x1)] [] (pm_c X d 29 [.ref 11] g iv) := by
  refine (at_aload_n dc95_52 rfl).trans ?_
  refine (at_gfR dc95_53 mc95 lf5_40 fo5_4 (ly0 hL) (lr0_4 hL)).trans ?_
  exact at_inv dc95_56 mc95 lm5_119 rfl rfl (Nat.le_of_ble_eq_true rfl) (Or.inl ⟨(ly11 hL), by decide⟩)
theorem b95_59 {X : pm_X} {d : Nat} {x1 : Int32} {s0 : Int32} {g : pm_G} {iv : pm_V}  : pm_at X d 95 (59, [some (.ref 0), some (.int x1)], [.int s0], g, iv) = some (some (.int s0), g, iv) := by
  exact at_iret dc95_59 mr95
-- HH.fault ()I
theorem dc96_0 : decode (pm_mb 96) 0 = .ok (.aload_n 0, 1) := by decide +kernel
theorem dc96_1 : decode (pm_mb 96) 1 = .ok (.getfield 19, 3) := by decide +kernel
theorem dc96_4 : decode (pm_mb 96) 4 = .ok (.invokevirtual 122, 3) := by decide +kernel
theorem dc96_7 : decode (pm_mb 96) 7 = .ok (.ireturn, 1) := by decide +kernel
theorem b96_0 {X : pm_X} {d : Nat} {g : pm_G} {iv : pm_V} (hL : pm_lay g) : pm_at X d 96 (0, [some (.ref 0)], [], g, iv) = pm_then X d 96 7 [some (.ref 0)] [] (pm_c X d 67 [.ref 5] g iv) := by
  refine (at_aload_n dc96_0 rfl).trans ?_
  refine (at_gfR dc96_1 mc96 lf5_19 fo5_1 (ly0 hL) (lr0_1 hL)).trans ?_
  exact at_inv dc96_4 mc96 lm5_122 rfl rfl (Nat.le_of_ble_eq_true rfl) (Or.inl ⟨(ly5 hL), by decide⟩)
theorem b96_7 {X : pm_X} {d : Nat} {s0 : Int32} {g : pm_G} {iv : pm_V}  : pm_at X d 96 (7, [some (.ref 0)], [.int s0], g, iv) = some (some (.int s0), g, iv) := by
  exact at_iret dc96_7 mr96
-- HH.winter ()I
theorem dc97_0 : decode (pm_mb 97) 0 = .ok (.aload_n 0, 1) := by decide +kernel
theorem dc97_1 : decode (pm_mb 97) 1 = .ok (.getfield 40, 3) := by decide +kernel
theorem dc97_4 : decode (pm_mb 97) 4 = .ok (.invokevirtual 125, 3) := by decide +kernel
theorem dc97_7 : decode (pm_mb 97) 7 = .ok (.ifCond .ne 6, 3) := by decide +kernel
theorem dc97_10 : decode (pm_mb 97) 10 = .ok (.ldc 129, 2) := by decide +kernel
theorem dc97_12 : decode (pm_mb 97) 12 = .ok (.ireturn, 1) := by decide +kernel
theorem dc97_13 : decode (pm_mb 97) 13 = .ok (.aload_n 0, 1) := by decide +kernel
theorem dc97_14 : decode (pm_mb 97) 14 = .ok (.getfield 40, 3) := by decide +kernel
theorem dc97_17 : decode (pm_mb 97) 17 = .ok (.invokevirtual 130, 3) := by decide +kernel
theorem dc97_20 : decode (pm_mb 97) 20 = .ok (.sipush 9999, 3) := by decide +kernel
theorem dc97_23 : decode (pm_mb 97) 23 = .ok (.if_icmp .lt 6, 3) := by decide +kernel
theorem dc97_26 : decode (pm_mb 97) 26 = .ok (.ldc 100, 2) := by decide +kernel
theorem dc97_28 : decode (pm_mb 97) 28 = .ok (.ireturn, 1) := by decide +kernel
theorem dc97_29 : decode (pm_mb 97) 29 = .ok (.aload_n 0, 1) := by decide +kernel
theorem dc97_30 : decode (pm_mb 97) 30 = .ok (.getfield 26, 3) := by decide +kernel
theorem dc97_33 : decode (pm_mb 97) 33 = .ok (.aload_n 0, 1) := by decide +kernel
theorem dc97_34 : decode (pm_mb 97) 34 = .ok (.getfield 40, 3) := by decide +kernel
theorem dc97_37 : decode (pm_mb 97) 37 = .ok (.invokevirtual 133, 3) := by decide +kernel
theorem dc97_40 : decode (pm_mb 97) 40 = .ok (.aload_n 0, 1) := by decide +kernel
theorem dc97_41 : decode (pm_mb 97) 41 = .ok (.getfield 40, 3) := by decide +kernel
theorem dc97_44 : decode (pm_mb 97) 44 = .ok (.invokevirtual 136, 3) := by decide +kernel
theorem dc97_47 : decode (pm_mb 97) 47 = .ok (.ireturn, 1) := by decide +kernel
theorem b97_0 {X : pm_X} {d : Nat} {g : pm_G} {iv : pm_V} (hL : pm_lay g) : pm_at X d 97 (0, [some (.ref 0)], [], g, iv) = pm_then X d 97 7 [some (.ref 0)] [] (pm_c X d 26 [.ref 11] g iv) := by
  refine (at_aload_n dc97_0 rfl).trans ?_
  refine (at_gfR dc97_1 mc97 lf5_40 fo5_4 (ly0 hL) (lr0_4 hL)).trans ?_
  exact at_inv dc97_4 mc97 lm5_125 rfl rfl (Nat.le_of_ble_eq_true rfl) (Or.inl ⟨(ly11 hL), by decide⟩)
theorem b97_7 {X : pm_X} {d : Nat} {s0 : Int32} {g : pm_G} {iv : pm_V}  : pm_at X d 97 (7, [some (.ref 0)], [.int s0], g, iv) = if ¬ s0 = 0 then pm_at X d 97 (13, [some (.ref 0)], [], g, iv) else pm_at X d 97 (10, [some (.ref 0)], [], g, iv) := by
  exact at_if_ne (t := 13) dc97_7 (by decide)
theorem b97_10 {X : pm_X} {d : Nat} {g : pm_G} {iv : pm_V}  : pm_at X d 97 (10, [some (.ref 0)], [], g, iv) = some (some (.int (-1000002)), g, iv) := by
  refine (at_ldc dc97_10 mc97 lk5_129).trans ?_
  exact at_iret dc97_12 mr97
theorem b97_13 {X : pm_X} {d : Nat} {g : pm_G} {iv : pm_V} (hL : pm_lay g) : pm_at X d 97 (13, [some (.ref 0)], [], g, iv) = pm_then X d 97 20 [some (.ref 0)] [] (pm_c X d 30 [.ref 11] g iv) := by
  refine (at_aload_n dc97_13 rfl).trans ?_
  refine (at_gfR dc97_14 mc97 lf5_40 fo5_4 (ly0 hL) (lr0_4 hL)).trans ?_
  exact at_inv dc97_17 mc97 lm5_130 rfl rfl (Nat.le_of_ble_eq_true rfl) (Or.inl ⟨(ly11 hL), by decide⟩)
theorem b97_20 {X : pm_X} {d : Nat} {s0 : Int32} {g : pm_G} {iv : pm_V}  : pm_at X d 97 (20, [some (.ref 0)], [.int s0], g, iv) = if s0 < 9999 then pm_at X d 97 (29, [some (.ref 0)], [], g, iv) else pm_at X d 97 (26, [some (.ref 0)], [], g, iv) := by
  refine (at_sipush (v := 9999) dc97_20 (by decide)).trans ?_
  exact at_icmp_lt (t := 29) dc97_23 (by decide)
theorem b97_26 {X : pm_X} {d : Nat} {g : pm_G} {iv : pm_V}  : pm_at X d 97 (26, [some (.ref 0)], [], g, iv) = some (some (.int (-1000003)), g, iv) := by
  refine (at_ldc dc97_26 mc97 lk5_100).trans ?_
  exact at_iret dc97_28 mr97
theorem b97_29 {X : pm_X} {d : Nat} {g : pm_G} {iv : pm_V} (hL : pm_lay g) : pm_at X d 97 (29, [some (.ref 0)], [], g, iv) = pm_then X d 97 40 [some (.ref 0)] [] (pm_c X d 3 [.ref 7, .ref 11] g iv) := by
  refine (at_aload_n dc97_29 rfl).trans ?_
  refine (at_gfR dc97_30 mc97 lf5_26 fo5_2 (ly0 hL) (lr0_2 hL)).trans ?_
  refine (at_aload_n dc97_33 rfl).trans ?_
  refine (at_gfR dc97_34 mc97 lf5_40 fo5_4 (ly0 hL) (lr0_4 hL)).trans ?_
  exact at_inv dc97_37 mc97 lm5_133 rfl rfl (Nat.le_of_ble_eq_true rfl) (Or.inl ⟨(ly7 hL), by decide⟩)
theorem b97_40 {X : pm_X} {d : Nat} {g : pm_G} {iv : pm_V} (hL : pm_lay g) : pm_at X d 97 (40, [some (.ref 0)], [], g, iv) = pm_then X d 97 47 [some (.ref 0)] [] (pm_c X d 60 [.ref 11] g iv) := by
  refine (at_aload_n dc97_40 rfl).trans ?_
  refine (at_gfR dc97_41 mc97 lf5_40 fo5_4 (ly0 hL) (lr0_4 hL)).trans ?_
  exact at_inv dc97_44 mc97 lm5_136 rfl rfl (Nat.le_of_ble_eq_true rfl) (Or.inl ⟨(ly11 hL), by decide⟩)
theorem b97_47 {X : pm_X} {d : Nat} {s0 : Int32} {g : pm_G} {iv : pm_V}  : pm_at X d 97 (47, [some (.ref 0)], [.int s0], g, iv) = some (some (.int s0), g, iv) := by
  exact at_iret dc97_47 mr97
-- HH.haul (II)I
theorem dc98_0 : decode (pm_mb 98) 0 = .ok (.aload_n 0, 1) := by decide +kernel
theorem dc98_1 : decode (pm_mb 98) 1 = .ok (.getfield 40, 3) := by decide +kernel
theorem dc98_4 : decode (pm_mb 98) 4 = .ok (.iload_n 1, 1) := by decide +kernel
theorem dc98_5 : decode (pm_mb 98) 5 = .ok (.invokevirtual 139, 3) := by decide +kernel
theorem dc98_8 : decode (pm_mb 98) 8 = .ok (.ifCond .eq 14, 3) := by decide +kernel
theorem dc98_11 : decode (pm_mb 98) 11 = .ok (.aload_n 0, 1) := by decide +kernel
theorem dc98_12 : decode (pm_mb 98) 12 = .ok (.getfield 40, 3) := by decide +kernel
theorem dc98_15 : decode (pm_mb 98) 15 = .ok (.iload_n 2, 1) := by decide +kernel
theorem dc98_16 : decode (pm_mb 98) 16 = .ok (.invokevirtual 142, 3) := by decide +kernel
theorem dc98_19 : decode (pm_mb 98) 19 = .ok (.ifCond .ne 6, 3) := by decide +kernel
theorem dc98_22 : decode (pm_mb 98) 22 = .ok (.ldc 59, 2) := by decide +kernel
theorem dc98_24 : decode (pm_mb 98) 24 = .ok (.ireturn, 1) := by decide +kernel
theorem dc98_25 : decode (pm_mb 98) 25 = .ok (.aload_n 0, 1) := by decide +kernel
theorem dc98_26 : decode (pm_mb 98) 26 = .ok (.getfield 40, 3) := by decide +kernel
theorem dc98_29 : decode (pm_mb 98) 29 = .ok (.iload_n 2, 1) := by decide +kernel
theorem dc98_30 : decode (pm_mb 98) 30 = .ok (.iconst 0, 1) := by decide +kernel
theorem dc98_31 : decode (pm_mb 98) 31 = .ok (.invokevirtual 145, 3) := by decide +kernel
theorem dc98_34 : decode (pm_mb 98) 34 = .ok (.bipush (-2), 2) := by decide +kernel
theorem dc98_36 : decode (pm_mb 98) 36 = .ok (.if_icmp .ne 14, 3) := by decide +kernel
theorem dc98_39 : decode (pm_mb 98) 39 = .ok (.aload_n 0, 1) := by decide +kernel
theorem dc98_40 : decode (pm_mb 98) 40 = .ok (.getfield 40, 3) := by decide +kernel
theorem dc98_43 : decode (pm_mb 98) 43 = .ok (.invokevirtual 119, 3) := by decide +kernel
theorem dc98_46 : decode (pm_mb 98) 46 = .ok (.iconst 2, 1) := by decide +kernel
theorem dc98_47 : decode (pm_mb 98) 47 = .ok (.if_icmp .ge 6, 3) := by decide +kernel
theorem dc98_50 : decode (pm_mb 98) 50 = .ok (.ldc 129, 2) := by decide +kernel
theorem dc98_52 : decode (pm_mb 98) 52 = .ok (.ireturn, 1) := by decide +kernel
theorem dc98_53 : decode (pm_mb 98) 53 = .ok (.aload_n 0, 1) := by decide +kernel
theorem dc98_54 : decode (pm_mb 98) 54 = .ok (.getfield 26, 3) := by decide +kernel
theorem dc98_57 : decode (pm_mb 98) 57 = .ok (.aload_n 0, 1) := by decide +kernel
theorem dc98_58 : decode (pm_mb 98) 58 = .ok (.getfield 40, 3) := by decide +kernel
theorem dc98_61 : decode (pm_mb 98) 61 = .ok (.invokevirtual 133, 3) := by decide +kernel
theorem dc98_64 : decode (pm_mb 98) 64 = .ok (.aload_n 0, 1) := by decide +kernel
theorem dc98_65 : decode (pm_mb 98) 65 = .ok (.getfield 40, 3) := by decide +kernel
theorem dc98_68 : decode (pm_mb 98) 68 = .ok (.iload_n 1, 1) := by decide +kernel
theorem dc98_69 : decode (pm_mb 98) 69 = .ok (.iload_n 2, 1) := by decide +kernel
theorem dc98_70 : decode (pm_mb 98) 70 = .ok (.invokevirtual 149, 3) := by decide +kernel
theorem dc98_73 : decode (pm_mb 98) 73 = .ok (.ireturn, 1) := by decide +kernel
theorem b98_0 {X : pm_X} {d : Nat} {x1 : Int32} {x2 : Int32} {g : pm_G} {iv : pm_V} (hL : pm_lay g) : pm_at X d 98 (0, [some (.ref 0), some (.int x1), some (.int x2)], [], g, iv) = pm_then X d 98 8 [some (.ref 0), some (.int x1), some (.int x2)] [] (pm_c X d 35 [.ref 11, .int x1] g iv) := by
  refine (at_aload_n dc98_0 rfl).trans ?_
  refine (at_gfR dc98_1 mc98 lf5_40 fo5_4 (ly0 hL) (lr0_4 hL)).trans ?_
  refine (at_iload_n dc98_4 rfl).trans ?_
  exact at_inv dc98_5 mc98 lm5_139 rfl rfl (Nat.le_of_ble_eq_true rfl) (Or.inl ⟨(ly11 hL), by decide⟩)
theorem b98_8 {X : pm_X} {d : Nat} {x1 : Int32} {x2 : Int32} {s0 : Int32} {g : pm_G} {iv : pm_V}  : pm_at X d 98 (8, [some (.ref 0), some (.int x1), some (.int x2)], [.int s0], g, iv) = if s0 = 0 then pm_at X d 98 (22, [some (.ref 0), some (.int x1), some (.int x2)], [], g, iv) else pm_at X d 98 (11, [some (.ref 0), some (.int x1), some (.int x2)], [], g, iv) := by
  exact at_if_eq (t := 22) dc98_8 (by decide)
theorem b98_11 {X : pm_X} {d : Nat} {x1 : Int32} {x2 : Int32} {g : pm_G} {iv : pm_V} (hL : pm_lay g) : pm_at X d 98 (11, [some (.ref 0), some (.int x1), some (.int x2)], [], g, iv) = pm_then X d 98 19 [some (.ref 0), some (.int x1), some (.int x2)] [] (pm_c X d 33 [.ref 11, .int x2] g iv) := by
  refine (at_aload_n dc98_11 rfl).trans ?_
  refine (at_gfR dc98_12 mc98 lf5_40 fo5_4 (ly0 hL) (lr0_4 hL)).trans ?_
  refine (at_iload_n dc98_15 rfl).trans ?_
  exact at_inv dc98_16 mc98 lm5_142 rfl rfl (Nat.le_of_ble_eq_true rfl) (Or.inl ⟨(ly11 hL), by decide⟩)
theorem b98_19 {X : pm_X} {d : Nat} {x1 : Int32} {x2 : Int32} {s0 : Int32} {g : pm_G} {iv : pm_V}  : pm_at X d 98 (19, [some (.ref 0), some (.int x1), some (.int x2)], [.int s0], g, iv) = if ¬ s0 = 0 then pm_at X d 98 (25, [some (.ref 0), some (.int x1), some (.int x2)], [], g, iv) else pm_at X d 98 (22, [some (.ref 0), some (.int x1), some (.int x2)], [], g, iv) := by
  exact at_if_ne (t := 25) dc98_19 (by decide)
theorem b98_22 {X : pm_X} {d : Nat} {x1 : Int32} {x2 : Int32} {g : pm_G} {iv : pm_V}  : pm_at X d 98 (22, [some (.ref 0), some (.int x1), some (.int x2)], [], g, iv) = some (some (.int (-1000001)), g, iv) := by
  refine (at_ldc dc98_22 mc98 lk5_59).trans ?_
  exact at_iret dc98_24 mr98
theorem b98_25 {X : pm_X} {d : Nat} {x1 : Int32} {x2 : Int32} {g : pm_G} {iv : pm_V} (hL : pm_lay g) : pm_at X d 98 (25, [some (.ref 0), some (.int x1), some (.int x2)], [], g, iv) = pm_then X d 98 34 [some (.ref 0), some (.int x1), some (.int x2)] [] (pm_c X d 45 [.ref 11, .int x2, .int 0] g iv) := by
  refine (at_aload_n dc98_25 rfl).trans ?_
  refine (at_gfR dc98_26 mc98 lf5_40 fo5_4 (ly0 hL) (lr0_4 hL)).trans ?_
  refine (at_iload_n dc98_29 rfl).trans ?_
  refine (at_iconst (v := 0) dc98_30 rfl).trans ?_
  exact at_inv dc98_31 mc98 lm5_145 rfl rfl (Nat.le_of_ble_eq_true rfl) (Or.inl ⟨(ly11 hL), by decide⟩)
theorem b98_34 {X : pm_X} {d : Nat} {x1 : Int32} {x2 : Int32} {s0 : Int32} {g : pm_G} {iv : pm_V}  : pm_at X d 98 (34, [some (.ref 0), some (.int x1), some (.int x2)], [.int s0], g, iv) = if ¬ s0 = (-2) then pm_at X d 98 (50, [some (.ref 0), some (.int x1), some (.int x2)], [], g, iv) else pm_at X d 98 (39, [some (.ref 0), some (.int x1), some (.int x2)], [], g, iv) := by
  refine (at_bipush (v := (-2)) dc98_34 (by decide)).trans ?_
  exact at_icmp_ne (t := 50) dc98_36 (by decide)
theorem b98_39 {X : pm_X} {d : Nat} {x1 : Int32} {x2 : Int32} {g : pm_G} {iv : pm_V} (hL : pm_lay g) : pm_at X d 98 (39, [some (.ref 0), some (.int x1), some (.int x2)], [], g, iv) = pm_then X d 98 46 [some (.ref 0), some (.int x1), some (.int x2)] [] (pm_c X d 29 [.ref 11] g iv) := by
  refine (at_aload_n dc98_39 rfl).trans ?_
  refine (at_gfR dc98_40 mc98 lf5_40 fo5_4 (ly0 hL) (lr0_4 hL)).trans ?_
  exact at_inv dc98_43 mc98 lm5_119 rfl rfl (Nat.le_of_ble_eq_true rfl) (Or.inl ⟨(ly11 hL), by decide⟩)
theorem b98_46 {X : pm_X} {d : Nat} {x1 : Int32} {x2 : Int32} {s0 : Int32} {g : pm_G} {iv : pm_V}  : pm_at X d 98 (46, [some (.ref 0), some (.int x1), some (.int x2)], [.int s0], g, iv) = if 2 ≤ s0 then pm_at X d 98 (53, [some (.ref 0), some (.int x1), some (.int x2)], [], g, iv) else pm_at X d 98 (50, [some (.ref 0), some (.int x1), some (.int x2)], [], g, iv) := by
  refine (at_iconst (v := 2) dc98_46 rfl).trans ?_
  exact at_icmp_ge (t := 53) dc98_47 (by decide)
theorem b98_50 {X : pm_X} {d : Nat} {x1 : Int32} {x2 : Int32} {g : pm_G} {iv : pm_V}  : pm_at X d 98 (50, [some (.ref 0), some (.int x1), some (.int x2)], [], g, iv) = some (some (.int (-1000002)), g, iv) := by
  refine (at_ldc dc98_50 mc98 lk5_129).trans ?_
  exact at_iret dc98_52 mr98
theorem b98_53 {X : pm_X} {d : Nat} {x1 : Int32} {x2 : Int32} {g : pm_G} {iv : pm_V} (hL : pm_lay g) : pm_at X d 98 (53, [some (.ref 0), some (.int x1), some (.int x2)], [], g, iv) = pm_then X d 98 64 [some (.ref 0), some (.int x1), some (.int x2)] [] (pm_c X d 3 [.ref 7, .ref 11] g iv) := by
  refine (at_aload_n dc98_53 rfl).trans ?_
  refine (at_gfR dc98_54 mc98 lf5_26 fo5_2 (ly0 hL) (lr0_2 hL)).trans ?_
  refine (at_aload_n dc98_57 rfl).trans ?_
  refine (at_gfR dc98_58 mc98 lf5_40 fo5_4 (ly0 hL) (lr0_4 hL)).trans ?_
  exact at_inv dc98_61 mc98 lm5_133 rfl rfl (Nat.le_of_ble_eq_true rfl) (Or.inl ⟨(ly7 hL), by decide⟩)
theorem b98_64 {X : pm_X} {d : Nat} {x1 : Int32} {x2 : Int32} {g : pm_G} {iv : pm_V} (hL : pm_lay g) : pm_at X d 98 (64, [some (.ref 0), some (.int x1), some (.int x2)], [], g, iv) = pm_then X d 98 73 [some (.ref 0), some (.int x1), some (.int x2)] [] (pm_c X d 56 [.ref 11, .int x1, .int x2] g iv) := by
  refine (at_aload_n dc98_64 rfl).trans ?_
  refine (at_gfR dc98_65 mc98 lf5_40 fo5_4 (ly0 hL) (lr0_4 hL)).trans ?_
  refine (at_iload_n dc98_68 rfl).trans ?_
  refine (at_iload_n dc98_69 rfl).trans ?_
  exact at_inv dc98_70 mc98 lm5_149 rfl rfl (Nat.le_of_ble_eq_true rfl) (Or.inl ⟨(ly11 hL), by decide⟩)
theorem b98_73 {X : pm_X} {d : Nat} {x1 : Int32} {x2 : Int32} {s0 : Int32} {g : pm_G} {iv : pm_V}  : pm_at X d 98 (73, [some (.ref 0), some (.int x1), some (.int x2)], [.int s0], g, iv) = some (some (.int s0), g, iv) := by
  exact at_iret dc98_73 mr98
-- HH.chock (II)I
theorem dc99_0 : decode (pm_mb 99) 0 = .ok (.aload_n 0, 1) := by decide +kernel
theorem dc99_1 : decode (pm_mb 99) 1 = .ok (.getfield 40, 3) := by decide +kernel
theorem dc99_4 : decode (pm_mb 99) 4 = .ok (.iload_n 1, 1) := by decide +kernel
theorem dc99_5 : decode (pm_mb 99) 5 = .ok (.invokevirtual 139, 3) := by decide +kernel
theorem dc99_8 : decode (pm_mb 99) 8 = .ok (.ifCond .eq 11, 3) := by decide +kernel
theorem dc99_11 : decode (pm_mb 99) 11 = .ok (.iload_n 2, 1) := by decide +kernel
theorem dc99_12 : decode (pm_mb 99) 12 = .ok (.iconst 1, 1) := by decide +kernel
theorem dc99_13 : decode (pm_mb 99) 13 = .ok (.invokestatic 55, 3) := by decide +kernel
theorem dc99_16 : decode (pm_mb 99) 16 = .ok (.ifCond .ne 6, 3) := by decide +kernel
theorem dc99_19 : decode (pm_mb 99) 19 = .ok (.ldc 59, 2) := by decide +kernel
theorem dc99_21 : decode (pm_mb 99) 21 = .ok (.ireturn, 1) := by decide +kernel
theorem dc99_22 : decode (pm_mb 99) 22 = .ok (.aload_n 0, 1) := by decide +kernel
theorem dc99_23 : decode (pm_mb 99) 23 = .ok (.iload_n 1, 1) := by decide +kernel
theorem dc99_24 : decode (pm_mb 99) 24 = .ok (.iload_n 2, 1) := by decide +kernel
theorem dc99_25 : decode (pm_mb 99) 25 = .ok (.invokevirtual 152, 3) := by decide +kernel
theorem dc99_28 : decode (pm_mb 99) 28 = .ok (.ireturn, 1) := by decide +kernel
theorem b99_0 {X : pm_X} {d : Nat} {x1 : Int32} {x2 : Int32} {g : pm_G} {iv : pm_V} (hL : pm_lay g) : pm_at X d 99 (0, [some (.ref 0), some (.int x1), some (.int x2)], [], g, iv) = pm_then X d 99 8 [some (.ref 0), some (.int x1), some (.int x2)] [] (pm_c X d 35 [.ref 11, .int x1] g iv) := by
  refine (at_aload_n dc99_0 rfl).trans ?_
  refine (at_gfR dc99_1 mc99 lf5_40 fo5_4 (ly0 hL) (lr0_4 hL)).trans ?_
  refine (at_iload_n dc99_4 rfl).trans ?_
  exact at_inv dc99_5 mc99 lm5_139 rfl rfl (Nat.le_of_ble_eq_true rfl) (Or.inl ⟨(ly11 hL), by decide⟩)
theorem b99_8 {X : pm_X} {d : Nat} {x1 : Int32} {x2 : Int32} {s0 : Int32} {g : pm_G} {iv : pm_V}  : pm_at X d 99 (8, [some (.ref 0), some (.int x1), some (.int x2)], [.int s0], g, iv) = if s0 = 0 then pm_at X d 99 (19, [some (.ref 0), some (.int x1), some (.int x2)], [], g, iv) else pm_at X d 99 (11, [some (.ref 0), some (.int x1), some (.int x2)], [], g, iv) := by
  exact at_if_eq (t := 19) dc99_8 (by decide)
theorem b99_11 {X : pm_X} {d : Nat} {x1 : Int32} {x2 : Int32} {g : pm_G} {iv : pm_V}  : pm_at X d 99 (11, [some (.ref 0), some (.int x1), some (.int x2)], [], g, iv) = pm_then X d 99 16 [some (.ref 0), some (.int x1), some (.int x2)] [] (pm_c X d 119 [.int x2, .int 1] g iv) := by
  refine (at_iload_n dc99_11 rfl).trans ?_
  refine (at_iconst (v := 1) dc99_12 rfl).trans ?_
  exact at_ins dc99_13 mc99 lm5_55 (Nat.le_of_ble_eq_true rfl) rfl rfl (Nat.le_of_ble_eq_true rfl)
theorem b99_16 {X : pm_X} {d : Nat} {x1 : Int32} {x2 : Int32} {s0 : Int32} {g : pm_G} {iv : pm_V}  : pm_at X d 99 (16, [some (.ref 0), some (.int x1), some (.int x2)], [.int s0], g, iv) = if ¬ s0 = 0 then pm_at X d 99 (22, [some (.ref 0), some (.int x1), some (.int x2)], [], g, iv) else pm_at X d 99 (19, [some (.ref 0), some (.int x1), some (.int x2)], [], g, iv) := by
  exact at_if_ne (t := 22) dc99_16 (by decide)
theorem b99_19 {X : pm_X} {d : Nat} {x1 : Int32} {x2 : Int32} {g : pm_G} {iv : pm_V}  : pm_at X d 99 (19, [some (.ref 0), some (.int x1), some (.int x2)], [], g, iv) = some (some (.int (-1000001)), g, iv) := by
  refine (at_ldc dc99_19 mc99 lk5_59).trans ?_
  exact at_iret dc99_21 mr99
theorem b99_22 {X : pm_X} {d : Nat} {x1 : Int32} {x2 : Int32} {g : pm_G} {iv : pm_V} (hL : pm_lay g) : pm_at X d 99 (22, [some (.ref 0), some (.int x1), some (.int x2)], [], g, iv) = pm_then X d 99 28 [some (.ref 0), some (.int x1), some (.int x2)] [] (pm_c X d 124 [.ref 0, .int x1, .int x2] g iv) := by
  refine (at_aload_n dc99_22 rfl).trans ?_
  refine (at_iload_n dc99_23 rfl).trans ?_
  refine (at_iload_n dc99_24 rfl).trans ?_
  exact at_inv dc99_25 mc99 lm5_152 rfl rfl (Nat.le_of_ble_eq_true rfl) (Or.inl ⟨(ly0 hL), by decide⟩)
theorem b99_28 {X : pm_X} {d : Nat} {x1 : Int32} {x2 : Int32} {s0 : Int32} {g : pm_G} {iv : pm_V}  : pm_at X d 99 (28, [some (.ref 0), some (.int x1), some (.int x2)], [.int s0], g, iv) = some (some (.int s0), g, iv) := by
  exact at_iret dc99_28 mr99
-- HH.chocks (III)I
theorem dc100_0 : decode (pm_mb 100) 0 = .ok (.aload_n 0, 1) := by decide +kernel
theorem dc100_1 : decode (pm_mb 100) 1 = .ok (.getfield 40, 3) := by decide +kernel
theorem dc100_4 : decode (pm_mb 100) 4 = .ok (.invokevirtual 125, 3) := by decide +kernel
theorem dc100_7 : decode (pm_mb 100) 7 = .ok (.ifCond .ne 6, 3) := by decide +kernel
theorem dc100_10 : decode (pm_mb 100) 10 = .ok (.ldc 129, 2) := by decide +kernel
theorem dc100_12 : decode (pm_mb 100) 12 = .ok (.ireturn, 1) := by decide +kernel
theorem dc100_13 : decode (pm_mb 100) 13 = .ok (.iload_n 1, 1) := by decide +kernel
theorem dc100_14 : decode (pm_mb 100) 14 = .ok (.invokestatic 51, 3) := by decide +kernel
theorem dc100_17 : decode (pm_mb 100) 17 = .ok (.ifCond .eq 14, 3) := by decide +kernel
theorem dc100_20 : decode (pm_mb 100) 20 = .ok (.iload_n 3, 1) := by decide +kernel
theorem dc100_21 : decode (pm_mb 100) 21 = .ok (.iconst 1, 1) := by decide +kernel
theorem dc100_22 : decode (pm_mb 100) 22 = .ok (.if_icmp .lt 9, 3) := by decide +kernel
theorem dc100_25 : decode (pm_mb 100) 25 = .ok (.iload_n 3, 1) := by decide +kernel
theorem dc100_26 : decode (pm_mb 100) 26 = .ok (.bipush 6, 2) := by decide +kernel
theorem dc100_28 : decode (pm_mb 100) 28 = .ok (.if_icmp .le 6, 3) := by decide +kernel
theorem dc100_31 : decode (pm_mb 100) 31 = .ok (.ldc 59, 2) := by decide +kernel
theorem dc100_33 : decode (pm_mb 100) 33 = .ok (.ireturn, 1) := by decide +kernel
theorem dc100_34 : decode (pm_mb 100) 34 = .ok (.aload_n 0, 1) := by decide +kernel
theorem dc100_35 : decode (pm_mb 100) 35 = .ok (.getfield 10, 3) := by decide +kernel
theorem dc100_38 : decode (pm_mb 100) 38 = .ok (.iload_n 1, 1) := by decide +kernel
theorem dc100_39 : decode (pm_mb 100) 39 = .ok (.invokevirtual 71, 3) := by decide +kernel
theorem dc100_42 : decode (pm_mb 100) 42 = .ok (.ifCond .eq 9, 3) := by decide +kernel
theorem dc100_45 : decode (pm_mb 100) 45 = .ok (.aload_n 0, 1) := by decide +kernel
theorem dc100_46 : decode (pm_mb 100) 46 = .ok (.iconst 1, 1) := by decide +kernel
theorem dc100_47 : decode (pm_mb 100) 47 = .ok (.invokevirtual 60, 3) := by decide +kernel
theorem dc100_50 : decode (pm_mb 100) 50 = .ok (.ireturn, 1) := by decide +kernel
theorem dc100_51 : decode (pm_mb 100) 51 = .ok (.aload_n 0, 1) := by decide +kernel
theorem dc100_52 : decode (pm_mb 100) 52 = .ok (.getfield 10, 3) := by decide +kernel
theorem dc100_55 : decode (pm_mb 100) 55 = .ok (.iload_n 1, 1) := by decide +kernel
theorem dc100_56 : decode (pm_mb 100) 56 = .ok (.iload_n 2, 1) := by decide +kernel
theorem dc100_57 : decode (pm_mb 100) 57 = .ok (.iload_n 3, 1) := by decide +kernel
theorem dc100_58 : decode (pm_mb 100) 58 = .ok (.invokevirtual 74, 3) := by decide +kernel
theorem dc100_61 : decode (pm_mb 100) 61 = .ok (.ifCond .ne 9, 3) := by decide +kernel
theorem dc100_64 : decode (pm_mb 100) 64 = .ok (.aload_n 0, 1) := by decide +kernel
theorem dc100_65 : decode (pm_mb 100) 65 = .ok (.iconst 2, 1) := by decide +kernel
theorem dc100_66 : decode (pm_mb 100) 66 = .ok (.invokevirtual 60, 3) := by decide +kernel
theorem dc100_69 : decode (pm_mb 100) 69 = .ok (.ireturn, 1) := by decide +kernel
theorem dc100_70 : decode (pm_mb 100) 70 = .ok (.iconst 0, 1) := by decide +kernel
theorem dc100_71 : decode (pm_mb 100) 71 = .ok (.istore 4, 2) := by decide +kernel
theorem dc100_73 : decode (pm_mb 100) 73 = .ok (.iload 4, 2) := by decide +kernel
theorem dc100_75 : decode (pm_mb 100) 75 = .ok (.iload_n 3, 1) := by decide +kernel
theorem dc100_76 : decode (pm_mb 100) 76 = .ok (.if_icmp .ge 34, 3) := by decide +kernel
theorem dc100_79 : decode (pm_mb 100) 79 = .ok (.aload_n 0, 1) := by decide +kernel
theorem dc100_80 : decode (pm_mb 100) 80 = .ok (.getfield 40, 3) := by decide +kernel
theorem dc100_83 : decode (pm_mb 100) 83 = .ok (.aload_n 0, 1) := by decide +kernel
theorem dc100_84 : decode (pm_mb 100) 84 = .ok (.getfield 10, 3) := by decide +kernel
theorem dc100_87 : decode (pm_mb 100) 87 = .ok (.iload_n 1, 1) := by decide +kernel
theorem dc100_88 : decode (pm_mb 100) 88 = .ok (.iload_n 2, 1) := by decide +kernel
theorem dc100_89 : decode (pm_mb 100) 89 = .ok (.iload 4, 2) := by decide +kernel
theorem dc100_91 : decode (pm_mb 100) 91 = .ok (.iadd, 1) := by decide +kernel
theorem dc100_92 : decode (pm_mb 100) 92 = .ok (.invokevirtual 155, 3) := by decide +kernel
theorem dc100_95 : decode (pm_mb 100) 95 = .ok (.invokevirtual 139, 3) := by decide +kernel
theorem dc100_98 : decode (pm_mb 100) 98 = .ok (.ifCond .ne 6, 3) := by decide +kernel
theorem dc100_101 : decode (pm_mb 100) 101 = .ok (.ldc 59, 2) := by decide +kernel
theorem dc100_103 : decode (pm_mb 100) 103 = .ok (.ireturn, 1) := by decide +kernel
theorem dc100_104 : decode (pm_mb 100) 104 = .ok (.iinc 4 1, 3) := by decide +kernel
theorem dc100_107 : decode (pm_mb 100) 107 = .ok (.goto (-34), 3) := by decide +kernel
theorem dc100_110 : decode (pm_mb 100) 110 = .ok (.iconst 0, 1) := by decide +kernel
theorem dc100_111 : decode (pm_mb 100) 111 = .ok (.istore 4, 2) := by decide +kernel
theorem dc100_113 : decode (pm_mb 100) 113 = .ok (.iconst 0, 1) := by decide +kernel
theorem dc100_114 : decode (pm_mb 100) 114 = .ok (.istore 5, 2) := by decide +kernel
theorem dc100_116 : decode (pm_mb 100) 116 = .ok (.iload 5, 2) := by decide +kernel
theorem dc100_118 : decode (pm_mb 100) 118 = .ok (.iload_n 3, 1) := by decide +kernel
theorem dc100_119 : decode (pm_mb 100) 119 = .ok (.if_icmp .ge 33, 3) := by decide +kernel
theorem dc100_122 : decode (pm_mb 100) 122 = .ok (.iload 4, 2) := by decide +kernel
theorem dc100_124 : decode (pm_mb 100) 124 = .ok (.iconst 1, 1) := by decide +kernel
theorem dc100_125 : decode (pm_mb 100) 125 = .ok (.aload_n 0, 1) := by decide +kernel
theorem dc100_126 : decode (pm_mb 100) 126 = .ok (.aload_n 0, 1) := by decide +kernel
theorem dc100_127 : decode (pm_mb 100) 127 = .ok (.getfield 10, 3) := by decide +kernel
theorem dc100_130 : decode (pm_mb 100) 130 = .ok (.iload_n 1, 1) := by decide +kernel
theorem dc100_131 : decode (pm_mb 100) 131 = .ok (.iload_n 2, 1) := by decide +kernel
theorem dc100_132 : decode (pm_mb 100) 132 = .ok (.iload 5, 2) := by decide +kernel
theorem dc100_134 : decode (pm_mb 100) 134 = .ok (.iadd, 1) := by decide +kernel
theorem dc100_135 : decode (pm_mb 100) 135 = .ok (.invokevirtual 155, 3) := by decide +kernel
theorem dc100_138 : decode (pm_mb 100) 138 = .ok (.iconst 1, 1) := by decide +kernel
theorem dc100_139 : decode (pm_mb 100) 139 = .ok (.invokevirtual 152, 3) := by decide +kernel
theorem dc100_142 : decode (pm_mb 100) 142 = .ok (.isub, 1) := by decide +kernel
theorem dc100_143 : decode (pm_mb 100) 143 = .ok (.iadd, 1) := by decide +kernel
theorem dc100_144 : decode (pm_mb 100) 144 = .ok (.istore 4, 2) := by decide +kernel
theorem dc100_146 : decode (pm_mb 100) 146 = .ok (.iinc 5 1, 3) := by decide +kernel
theorem dc100_149 : decode (pm_mb 100) 149 = .ok (.goto (-33), 3) := by decide +kernel
theorem dc100_152 : decode (pm_mb 100) 152 = .ok (.aload_n 0, 1) := by decide +kernel
theorem dc100_153 : decode (pm_mb 100) 153 = .ok (.iload 4, 2) := by decide +kernel
theorem dc100_155 : decode (pm_mb 100) 155 = .ok (.invokevirtual 68, 3) := by decide +kernel
theorem dc100_158 : decode (pm_mb 100) 158 = .ok (.ireturn, 1) := by decide +kernel
theorem b100_0 {X : pm_X} {d : Nat} {x1 : Int32} {x2 : Int32} {x3 : Int32} {g : pm_G} {iv : pm_V} (hL : pm_lay g) : pm_at X d 100 (0, [some (.ref 0), some (.int x1), some (.int x2), some (.int x3), none, none], [], g, iv) = pm_then X d 100 7 [some (.ref 0), some (.int x1), some (.int x2), some (.int x3), none, none] [] (pm_c X d 26 [.ref 11] g iv) := by
  refine (at_aload_n dc100_0 rfl).trans ?_
  refine (at_gfR dc100_1 mc100 lf5_40 fo5_4 (ly0 hL) (lr0_4 hL)).trans ?_
  exact at_inv dc100_4 mc100 lm5_125 rfl rfl (Nat.le_of_ble_eq_true rfl) (Or.inl ⟨(ly11 hL), by decide⟩)
theorem b100_7 {X : pm_X} {d : Nat} {x1 : Int32} {x2 : Int32} {x3 : Int32} {s0 : Int32} {g : pm_G} {iv : pm_V}  : pm_at X d 100 (7, [some (.ref 0), some (.int x1), some (.int x2), some (.int x3), none, none], [.int s0], g, iv) = if ¬ s0 = 0 then pm_at X d 100 (13, [some (.ref 0), some (.int x1), some (.int x2), some (.int x3), none, none], [], g, iv) else pm_at X d 100 (10, [some (.ref 0), some (.int x1), some (.int x2), some (.int x3), none, none], [], g, iv) := by
  exact at_if_ne (t := 13) dc100_7 (by decide)
theorem b100_10 {X : pm_X} {d : Nat} {x1 : Int32} {x2 : Int32} {x3 : Int32} {g : pm_G} {iv : pm_V}  : pm_at X d 100 (10, [some (.ref 0), some (.int x1), some (.int x2), some (.int x3), none, none], [], g, iv) = some (some (.int (-1000002)), g, iv) := by
  refine (at_ldc dc100_10 mc100 lk5_129).trans ?_
  exact at_iret dc100_12 mr100
theorem b100_13 {X : pm_X} {d : Nat} {x1 : Int32} {x2 : Int32} {x3 : Int32} {g : pm_G} {iv : pm_V}  : pm_at X d 100 (13, [some (.ref 0), some (.int x1), some (.int x2), some (.int x3), none, none], [], g, iv) = pm_then X d 100 17 [some (.ref 0), some (.int x1), some (.int x2), some (.int x3), none, none] [] (pm_c X d 120 [.int x1] g iv) := by
  refine (at_iload_n dc100_13 rfl).trans ?_
  exact at_ins dc100_14 mc100 lm5_51 (Nat.le_of_ble_eq_true rfl) rfl rfl (Nat.le_of_ble_eq_true rfl)
theorem b100_17 {X : pm_X} {d : Nat} {x1 : Int32} {x2 : Int32} {x3 : Int32} {s0 : Int32} {g : pm_G} {iv : pm_V}  : pm_at X d 100 (17, [some (.ref 0), some (.int x1), some (.int x2), some (.int x3), none, none], [.int s0], g, iv) = if s0 = 0 then pm_at X d 100 (31, [some (.ref 0), some (.int x1), some (.int x2), some (.int x3), none, none], [], g, iv) else pm_at X d 100 (20, [some (.ref 0), some (.int x1), some (.int x2), some (.int x3), none, none], [], g, iv) := by
  exact at_if_eq (t := 31) dc100_17 (by decide)
theorem b100_20 {X : pm_X} {d : Nat} {x1 : Int32} {x2 : Int32} {x3 : Int32} {g : pm_G} {iv : pm_V}  : pm_at X d 100 (20, [some (.ref 0), some (.int x1), some (.int x2), some (.int x3), none, none], [], g, iv) = if x3 < 1 then pm_at X d 100 (31, [some (.ref 0), some (.int x1), some (.int x2), some (.int x3), none, none], [], g, iv) else pm_at X d 100 (25, [some (.ref 0), some (.int x1), some (.int x2), some (.int x3), none, none], [], g, iv) := by
  refine (at_iload_n dc100_20 rfl).trans ?_
  refine (at_iconst (v := 1) dc100_21 rfl).trans ?_
  exact at_icmp_lt (t := 31) dc100_22 (by decide)
theorem b100_25 {X : pm_X} {d : Nat} {x1 : Int32} {x2 : Int32} {x3 : Int32} {g : pm_G} {iv : pm_V}  : pm_at X d 100 (25, [some (.ref 0), some (.int x1), some (.int x2), some (.int x3), none, none], [], g, iv) = if x3 ≤ 6 then pm_at X d 100 (34, [some (.ref 0), some (.int x1), some (.int x2), some (.int x3), none, none], [], g, iv) else pm_at X d 100 (31, [some (.ref 0), some (.int x1), some (.int x2), some (.int x3), none, none], [], g, iv) := by
  refine (at_iload_n dc100_25 rfl).trans ?_
  refine (at_bipush (v := 6) dc100_26 (by decide)).trans ?_
  exact at_icmp_le (t := 34) dc100_28 (by decide)
theorem b100_31 {X : pm_X} {d : Nat} {x1 : Int32} {x2 : Int32} {x3 : Int32} {g : pm_G} {iv : pm_V}  : pm_at X d 100 (31, [some (.ref 0), some (.int x1), some (.int x2), some (.int x3), none, none], [], g, iv) = some (some (.int (-1000001)), g, iv) := by
  refine (at_ldc dc100_31 mc100 lk5_59).trans ?_
  exact at_iret dc100_33 mr100
theorem b100_34 {X : pm_X} {d : Nat} {x1 : Int32} {x2 : Int32} {x3 : Int32} {g : pm_G} {iv : pm_V} (hL : pm_lay g) : pm_at X d 100 (34, [some (.ref 0), some (.int x1), some (.int x2), some (.int x3), none, none], [], g, iv) = pm_then X d 100 42 [some (.ref 0), some (.int x1), some (.int x2), some (.int x3), none, none] [] (pm_c X d 15 [.ref 1, .int x1] g iv) := by
  refine (at_aload_n dc100_34 rfl).trans ?_
  refine (at_gfR dc100_35 mc100 lf5_10 fo5_0 (ly0 hL) (lr0_0 hL)).trans ?_
  refine (at_iload_n dc100_38 rfl).trans ?_
  exact at_inv dc100_39 mc100 lm5_71 rfl rfl (Nat.le_of_ble_eq_true rfl) (Or.inl ⟨(ly1 hL), by decide⟩)
theorem b100_42 {X : pm_X} {d : Nat} {x1 : Int32} {x2 : Int32} {x3 : Int32} {s0 : Int32} {g : pm_G} {iv : pm_V}  : pm_at X d 100 (42, [some (.ref 0), some (.int x1), some (.int x2), some (.int x3), none, none], [.int s0], g, iv) = if s0 = 0 then pm_at X d 100 (51, [some (.ref 0), some (.int x1), some (.int x2), some (.int x3), none, none], [], g, iv) else pm_at X d 100 (45, [some (.ref 0), some (.int x1), some (.int x2), some (.int x3), none, none], [], g, iv) := by
  exact at_if_eq (t := 51) dc100_42 (by decide)
theorem b100_45 {X : pm_X} {d : Nat} {x1 : Int32} {x2 : Int32} {x3 : Int32} {g : pm_G} {iv : pm_V} (hL : pm_lay g) : pm_at X d 100 (45, [some (.ref 0), some (.int x1), some (.int x2), some (.int x3), none, none], [], g, iv) = pm_then X d 100 50 [some (.ref 0), some (.int x1), some (.int x2), some (.int x3), none, none] [] (pm_c X d 122 [.ref 0, .int 1] g iv) := by
  refine (at_aload_n dc100_45 rfl).trans ?_
  refine (at_iconst (v := 1) dc100_46 rfl).trans ?_
  exact at_inv dc100_47 mc100 lm5_60 rfl rfl (Nat.le_of_ble_eq_true rfl) (Or.inl ⟨(ly0 hL), by decide⟩)
theorem b100_50 {X : pm_X} {d : Nat} {x1 : Int32} {x2 : Int32} {x3 : Int32} {s0 : Int32} {g : pm_G} {iv : pm_V}  : pm_at X d 100 (50, [some (.ref 0), some (.int x1), some (.int x2), some (.int x3), none, none], [.int s0], g, iv) = some (some (.int s0), g, iv) := by
  exact at_iret dc100_50 mr100
theorem b100_51 {X : pm_X} {d : Nat} {x1 : Int32} {x2 : Int32} {x3 : Int32} {g : pm_G} {iv : pm_V} (hL : pm_lay g) : pm_at X d 100 (51, [some (.ref 0), some (.int x1), some (.int x2), some (.int x3), none, none], [], g, iv) = pm_then X d 100 61 [some (.ref 0), some (.int x1), some (.int x2), some (.int x3), none, none] [] (pm_c X d 16 [.ref 1, .int x1, .int x2, .int x3] g iv) := by
  refine (at_aload_n dc100_51 rfl).trans ?_
  refine (at_gfR dc100_52 mc100 lf5_10 fo5_0 (ly0 hL) (lr0_0 hL)).trans ?_
  refine (at_iload_n dc100_55 rfl).trans ?_
  refine (at_iload_n dc100_56 rfl).trans ?_
  refine (at_iload_n dc100_57 rfl).trans ?_
  exact at_inv dc100_58 mc100 lm5_74 rfl rfl (Nat.le_of_ble_eq_true rfl) (Or.inl ⟨(ly1 hL), by decide⟩)
theorem b100_61 {X : pm_X} {d : Nat} {x1 : Int32} {x2 : Int32} {x3 : Int32} {s0 : Int32} {g : pm_G} {iv : pm_V}  : pm_at X d 100 (61, [some (.ref 0), some (.int x1), some (.int x2), some (.int x3), none, none], [.int s0], g, iv) = if ¬ s0 = 0 then pm_at X d 100 (70, [some (.ref 0), some (.int x1), some (.int x2), some (.int x3), none, none], [], g, iv) else pm_at X d 100 (64, [some (.ref 0), some (.int x1), some (.int x2), some (.int x3), none, none], [], g, iv) := by
  exact at_if_ne (t := 70) dc100_61 (by decide)
theorem b100_64 {X : pm_X} {d : Nat} {x1 : Int32} {x2 : Int32} {x3 : Int32} {g : pm_G} {iv : pm_V} (hL : pm_lay g) : pm_at X d 100 (64, [some (.ref 0), some (.int x1), some (.int x2), some (.int x3), none, none], [], g, iv) = pm_then X d 100 69 [some (.ref 0), some (.int x1), some (.int x2), some (.int x3), none, none] [] (pm_c X d 122 [.ref 0, .int 2] g iv) := by
  refine (at_aload_n dc100_64 rfl).trans ?_
  refine (at_iconst (v := 2) dc100_65 rfl).trans ?_
  exact at_inv dc100_66 mc100 lm5_60 rfl rfl (Nat.le_of_ble_eq_true rfl) (Or.inl ⟨(ly0 hL), by decide⟩)
theorem b100_69 {X : pm_X} {d : Nat} {x1 : Int32} {x2 : Int32} {x3 : Int32} {s0 : Int32} {g : pm_G} {iv : pm_V}  : pm_at X d 100 (69, [some (.ref 0), some (.int x1), some (.int x2), some (.int x3), none, none], [.int s0], g, iv) = some (some (.int s0), g, iv) := by
  exact at_iret dc100_69 mr100
theorem b100_70 {X : pm_X} {d : Nat} {x1 : Int32} {x2 : Int32} {x3 : Int32} {g : pm_G} {iv : pm_V}  : pm_at X d 100 (70, [some (.ref 0), some (.int x1), some (.int x2), some (.int x3), none, none], [], g, iv) = pm_at X d 100 (73, [some (.ref 0), some (.int x1), some (.int x2), some (.int x3), some (.int 0), none], [], g, iv) := by
  refine (at_iconst (v := 0) dc100_70 rfl).trans ?_
  refine (at_istore dc100_71 rfl).trans ?_
  rfl
theorem b100_73 {X : pm_X} {d : Nat} {x1 : Int32} {x2 : Int32} {x3 : Int32} {x4 : Int32} {g : pm_G} {iv : pm_V}  : pm_at X d 100 (73, [some (.ref 0), some (.int x1), some (.int x2), some (.int x3), some (.int x4), none], [], g, iv) = if x3 ≤ x4 then pm_at X d 100 (110, [some (.ref 0), some (.int x1), some (.int x2), some (.int x3), some (.int x4), none], [], g, iv) else pm_at X d 100 (79, [some (.ref 0), some (.int x1), some (.int x2), some (.int x3), some (.int x4), none], [], g, iv) := by
  refine (at_iload dc100_73 rfl).trans ?_
  refine (at_iload_n dc100_75 rfl).trans ?_
  exact at_icmp_ge (t := 110) dc100_76 (by decide)
theorem b100_79 {X : pm_X} {d : Nat} {x1 : Int32} {x2 : Int32} {x3 : Int32} {x4 : Int32} {g : pm_G} {iv : pm_V} (hL : pm_lay g) : pm_at X d 100 (79, [some (.ref 0), some (.int x1), some (.int x2), some (.int x3), some (.int x4), none], [], g, iv) = pm_then X d 100 95 [some (.ref 0), some (.int x1), some (.int x2), some (.int x3), some (.int x4), none] [.ref 11] (pm_c X d 18 [.ref 1, .int x1, .int (x2 + x4)] g iv) := by
  refine (at_aload_n dc100_79 rfl).trans ?_
  refine (at_gfR dc100_80 mc100 lf5_40 fo5_4 (ly0 hL) (lr0_4 hL)).trans ?_
  refine (at_aload_n dc100_83 rfl).trans ?_
  refine (at_gfR dc100_84 mc100 lf5_10 fo5_0 (ly0 hL) (lr0_0 hL)).trans ?_
  refine (at_iload_n dc100_87 rfl).trans ?_
  refine (at_iload_n dc100_88 rfl).trans ?_
  refine (at_iload dc100_89 rfl).trans ?_
  refine (at_iadd dc100_91).trans ?_
  exact at_inv dc100_92 mc100 lm5_155 rfl rfl (Nat.le_of_ble_eq_true rfl) (Or.inl ⟨(ly1 hL), by decide⟩)
theorem b100_95 {X : pm_X} {d : Nat} {x1 : Int32} {x2 : Int32} {x3 : Int32} {x4 : Int32} {s0 : Int32} {g : pm_G} {iv : pm_V} (hL : pm_lay g) : pm_at X d 100 (95, [some (.ref 0), some (.int x1), some (.int x2), some (.int x3), some (.int x4), none], [.int s0, .ref 11], g, iv) = pm_then X d 100 98 [some (.ref 0), some (.int x1), some (.int x2), some (.int x3), some (.int x4), none] [] (pm_c X d 35 [.ref 11, .int s0] g iv) := by
  exact at_inv dc100_95 mc100 lm5_139 rfl rfl (Nat.le_of_ble_eq_true rfl) (Or.inl ⟨(ly11 hL), by decide⟩)
theorem b100_98 {X : pm_X} {d : Nat} {x1 : Int32} {x2 : Int32} {x3 : Int32} {x4 : Int32} {s0 : Int32} {g : pm_G} {iv : pm_V}  : pm_at X d 100 (98, [some (.ref 0), some (.int x1), some (.int x2), some (.int x3), some (.int x4), none], [.int s0], g, iv) = if ¬ s0 = 0 then pm_at X d 100 (104, [some (.ref 0), some (.int x1), some (.int x2), some (.int x3), some (.int x4), none], [], g, iv) else pm_at X d 100 (101, [some (.ref 0), some (.int x1), some (.int x2), some (.int x3), some (.int x4), none], [], g, iv) := by
  exact at_if_ne (t := 104) dc100_98 (by decide)
theorem b100_101 {X : pm_X} {d : Nat} {x1 : Int32} {x2 : Int32} {x3 : Int32} {x4 : Int32} {g : pm_G} {iv : pm_V}  : pm_at X d 100 (101, [some (.ref 0), some (.int x1), some (.int x2), some (.int x3), some (.int x4), none], [], g, iv) = some (some (.int (-1000001)), g, iv) := by
  refine (at_ldc dc100_101 mc100 lk5_59).trans ?_
  exact at_iret dc100_103 mr100
theorem b100_104 {X : pm_X} {d : Nat} {x1 : Int32} {x2 : Int32} {x3 : Int32} {x4 : Int32} {g : pm_G} {iv : pm_V}  : pm_at X d 100 (104, [some (.ref 0), some (.int x1), some (.int x2), some (.int x3), some (.int x4), none], [], g, iv) = pm_at X d 100 (73, [some (.ref 0), some (.int x1), some (.int x2), some (.int x3), some (.int (x4 + 1)), none], [], g, iv) := by
  refine (at_iinc (v := 1) dc100_104 rfl (by decide) rfl).trans ?_
  refine (at_goto (t := 73) dc100_107 (by decide)).trans ?_
  rfl
theorem b100_110 {X : pm_X} {d : Nat} {x1 : Int32} {x2 : Int32} {x3 : Int32} {x4 : Int32} {g : pm_G} {iv : pm_V}  : pm_at X d 100 (110, [some (.ref 0), some (.int x1), some (.int x2), some (.int x3), some (.int x4), none], [], g, iv) = pm_at X d 100 (116, [some (.ref 0), some (.int x1), some (.int x2), some (.int x3), some (.int 0), some (.int 0)], [], g, iv) := by
  refine (at_iconst (v := 0) dc100_110 rfl).trans ?_
  refine (at_istore dc100_111 rfl).trans ?_
  refine (at_iconst (v := 0) dc100_113 rfl).trans ?_
  refine (at_istore dc100_114 rfl).trans ?_
  rfl
theorem b100_116 {X : pm_X} {d : Nat} {x1 : Int32} {x2 : Int32} {x3 : Int32} {x4 : Int32} {x5 : Int32} {g : pm_G} {iv : pm_V}  : pm_at X d 100 (116, [some (.ref 0), some (.int x1), some (.int x2), some (.int x3), some (.int x4), some (.int x5)], [], g, iv) = if x3 ≤ x5 then pm_at X d 100 (152, [some (.ref 0), some (.int x1), some (.int x2), some (.int x3), some (.int x4), some (.int x5)], [], g, iv) else pm_at X d 100 (122, [some (.ref 0), some (.int x1), some (.int x2), some (.int x3), some (.int x4), some (.int x5)], [], g, iv) := by
  refine (at_iload dc100_116 rfl).trans ?_
  refine (at_iload_n dc100_118 rfl).trans ?_
  exact at_icmp_ge (t := 152) dc100_119 (by decide)
theorem b100_122 {X : pm_X} {d : Nat} {x1 : Int32} {x2 : Int32} {x3 : Int32} {x4 : Int32} {x5 : Int32} {g : pm_G} {iv : pm_V} (hL : pm_lay g) : pm_at X d 100 (122, [some (.ref 0), some (.int x1), some (.int x2), some (.int x3), some (.int x4), some (.int x5)], [], g, iv) = pm_then X d 100 138 [some (.ref 0), some (.int x1), some (.int x2), some (.int x3), some (.int x4), some (.int x5)] [.ref 0, .int 1, .int x4] (pm_c X d 18 [.ref 1, .int x1, .int (x2 + x5)] g iv) := by
  refine (at_iload dc100_122 rfl).trans ?_
  refine (at_iconst (v := 1) dc100_124 rfl).trans ?_
  refine (at_aload_n dc100_125 rfl).trans ?_
  refine (at_aload_n dc100_126 rfl).trans ?_
  refine (at_gfR dc100_127 mc100 lf5_10 fo5_0 (ly0 hL) (lr0_0 hL)).trans ?_
  refine (at_iload_n dc100_130 rfl).trans ?_
  refine (at_iload_n dc100_131 rfl).trans ?_
  refine (at_iload dc100_132 rfl).trans ?_
  refine (at_iadd dc100_134).trans ?_
  exact at_inv dc100_135 mc100 lm5_155 rfl rfl (Nat.le_of_ble_eq_true rfl) (Or.inl ⟨(ly1 hL), by decide⟩)
theorem b100_138 {X : pm_X} {d : Nat} {x1 : Int32} {x2 : Int32} {x3 : Int32} {x4 : Int32} {x5 : Int32} {s0 : Int32} {s2 : Int32} {s3 : Int32} {g : pm_G} {iv : pm_V} (hL : pm_lay g) : pm_at X d 100 (138, [some (.ref 0), some (.int x1), some (.int x2), some (.int x3), some (.int x4), some (.int x5)], [.int s0, .ref 0, .int s2, .int s3], g, iv) = pm_then X d 100 142 [some (.ref 0), some (.int x1), some (.int x2), some (.int x3), some (.int x4), some (.int x5)] [.int s2, .int s3] (pm_c X d 124 [.ref 0, .int s0, .int 1] g iv) := by
  refine (at_iconst (v := 1) dc100_138 rfl).trans ?_
  exact at_inv dc100_139 mc100 lm5_152 rfl rfl (Nat.le_of_ble_eq_true rfl) (Or.inl ⟨(ly0 hL), by decide⟩)
theorem b100_142 {X : pm_X} {d : Nat} {x1 : Int32} {x2 : Int32} {x3 : Int32} {x4 : Int32} {x5 : Int32} {s0 : Int32} {s1 : Int32} {s2 : Int32} {g : pm_G} {iv : pm_V}  : pm_at X d 100 (142, [some (.ref 0), some (.int x1), some (.int x2), some (.int x3), some (.int x4), some (.int x5)], [.int s0, .int s1, .int s2], g, iv) = pm_at X d 100 (116, [some (.ref 0), some (.int x1), some (.int x2), some (.int x3), some (.int (s2 + (s1 - s0))), some (.int (x5 + 1))], [], g, iv) := by
  refine (at_isub dc100_142).trans ?_
  refine (at_iadd dc100_143).trans ?_
  refine (at_istore dc100_144 rfl).trans ?_
  refine (at_iinc (v := 1) dc100_146 rfl (by decide) rfl).trans ?_
  refine (at_goto (t := 116) dc100_149 (by decide)).trans ?_
  rfl
theorem b100_152 {X : pm_X} {d : Nat} {x1 : Int32} {x2 : Int32} {x3 : Int32} {x4 : Int32} {x5 : Int32} {g : pm_G} {iv : pm_V} (hL : pm_lay g) : pm_at X d 100 (152, [some (.ref 0), some (.int x1), some (.int x2), some (.int x3), some (.int x4), some (.int x5)], [], g, iv) = pm_then X d 100 158 [some (.ref 0), some (.int x1), some (.int x2), some (.int x3), some (.int x4), some (.int x5)] [] (pm_c X d 123 [.ref 0, .int x4] g iv) := by
  refine (at_aload_n dc100_152 rfl).trans ?_
  refine (at_iload dc100_153 rfl).trans ?_
  exact at_inv dc100_155 mc100 lm5_68 rfl rfl (Nat.le_of_ble_eq_true rfl) (Or.inl ⟨(ly0 hL), by decide⟩)
theorem b100_158 {X : pm_X} {d : Nat} {x1 : Int32} {x2 : Int32} {x3 : Int32} {x4 : Int32} {x5 : Int32} {s0 : Int32} {g : pm_G} {iv : pm_V}  : pm_at X d 100 (158, [some (.ref 0), some (.int x1), some (.int x2), some (.int x3), some (.int x4), some (.int x5)], [.int s0], g, iv) = some (some (.int s0), g, iv) := by
  exact at_iret dc100_158 mr100
-- HH.undo ()I
theorem dc101_0 : decode (pm_mb 101) 0 = .ok (.aload_n 0, 1) := by decide +kernel
theorem dc101_1 : decode (pm_mb 101) 1 = .ok (.getfield 26, 3) := by decide +kernel
theorem dc101_4 : decode (pm_mb 101) 4 = .ok (.aload_n 0, 1) := by decide +kernel
theorem dc101_5 : decode (pm_mb 101) 5 = .ok (.getfield 40, 3) := by decide +kernel
theorem dc101_8 : decode (pm_mb 101) 8 = .ok (.invokevirtual 158, 3) := by decide +kernel
theorem dc101_11 : decode (pm_mb 101) 11 = .ok (.ifCond .eq 13, 3) := by decide +kernel
theorem dc101_14 : decode (pm_mb 101) 14 = .ok (.aload_n 0, 1) := by decide +kernel
theorem dc101_15 : decode (pm_mb 101) 15 = .ok (.getfield 26, 3) := by decide +kernel
theorem dc101_18 : decode (pm_mb 101) 18 = .ok (.invokevirtual 161, 3) := by decide +kernel
theorem dc101_21 : decode (pm_mb 101) 21 = .ok (.goto 5, 3) := by decide +kernel
theorem dc101_24 : decode (pm_mb 101) 24 = .ok (.ldc 129, 2) := by decide +kernel
theorem dc101_26 : decode (pm_mb 101) 26 = .ok (.ireturn, 1) := by decide +kernel
theorem b101_0 {X : pm_X} {d : Nat} {g : pm_G} {iv : pm_V} (hL : pm_lay g) : pm_at X d 101 (0, [some (.ref 0)], [], g, iv) = pm_then X d 101 11 [some (.ref 0)] [] (pm_c X d 4 [.ref 7, .ref 11] g iv) := by
  refine (at_aload_n dc101_0 rfl).trans ?_
  refine (at_gfR dc101_1 mc101 lf5_26 fo5_2 (ly0 hL) (lr0_2 hL)).trans ?_
  refine (at_aload_n dc101_4 rfl).trans ?_
  refine (at_gfR dc101_5 mc101 lf5_40 fo5_4 (ly0 hL) (lr0_4 hL)).trans ?_
  exact at_inv dc101_8 mc101 lm5_158 rfl rfl (Nat.le_of_ble_eq_true rfl) (Or.inl ⟨(ly7 hL), by decide⟩)
theorem b101_11 {X : pm_X} {d : Nat} {s0 : Int32} {g : pm_G} {iv : pm_V}  : pm_at X d 101 (11, [some (.ref 0)], [.int s0], g, iv) = if s0 = 0 then pm_at X d 101 (24, [some (.ref 0)], [], g, iv) else pm_at X d 101 (14, [some (.ref 0)], [], g, iv) := by
  exact at_if_eq (t := 24) dc101_11 (by decide)
theorem b101_14 {X : pm_X} {d : Nat} {g : pm_G} {iv : pm_V} (hL : pm_lay g) : pm_at X d 101 (14, [some (.ref 0)], [], g, iv) = pm_then X d 101 21 [some (.ref 0)] [] (pm_c X d 1 [.ref 7] g iv) := by
  refine (at_aload_n dc101_14 rfl).trans ?_
  refine (at_gfR dc101_15 mc101 lf5_26 fo5_2 (ly0 hL) (lr0_2 hL)).trans ?_
  exact at_inv dc101_18 mc101 lm5_161 rfl rfl (Nat.le_of_ble_eq_true rfl) (Or.inl ⟨(ly7 hL), by decide⟩)
theorem b101_21 {X : pm_X} {d : Nat} {s0 : Int32} {g : pm_G} {iv : pm_V}  : pm_at X d 101 (21, [some (.ref 0)], [.int s0], g, iv) = pm_at X d 101 (26, [some (.ref 0)], [.int s0], g, iv) := by
  refine (at_goto (t := 26) dc101_21 (by decide)).trans ?_
  rfl
theorem b101_24 {X : pm_X} {d : Nat} {g : pm_G} {iv : pm_V}  : pm_at X d 101 (24, [some (.ref 0)], [], g, iv) = pm_at X d 101 (26, [some (.ref 0)], [.int (-1000002)], g, iv) := by
  refine (at_ldc dc101_24 mc101 lk5_129).trans ?_
  rfl
theorem b101_26 {X : pm_X} {d : Nat} {s0 : Int32} {g : pm_G} {iv : pm_V}  : pm_at X d 101 (26, [some (.ref 0)], [.int s0], g, iv) = some (some (.int s0), g, iv) := by
  exact at_iret dc101_26 mr101
-- HH.house (II)I
theorem dc102_0 : decode (pm_mb 102) 0 = .ok (.aload_n 0, 1) := by decide +kernel
theorem dc102_1 : decode (pm_mb 102) 1 = .ok (.getfield 40, 3) := by decide +kernel
theorem dc102_4 : decode (pm_mb 102) 4 = .ok (.iload_n 1, 1) := by decide +kernel
theorem dc102_5 : decode (pm_mb 102) 5 = .ok (.invokevirtual 139, 3) := by decide +kernel
theorem dc102_8 : decode (pm_mb 102) 8 = .ok (.ifCond .ne 6, 3) := by decide +kernel
theorem dc102_11 : decode (pm_mb 102) 11 = .ok (.ldc 59, 2) := by decide +kernel
theorem dc102_13 : decode (pm_mb 102) 13 = .ok (.ireturn, 1) := by decide +kernel
theorem dc102_14 : decode (pm_mb 102) 14 = .ok (.iload_n 2, 1) := by decide +kernel
theorem dc102_15 : decode (pm_mb 102) 15 = .ok (.tableswitch 99 0 5 #[37, 46, 55, 64, 81, 90], 37) := by decide +kernel
theorem dc102_52 : decode (pm_mb 102) 52 = .ok (.aload_n 0, 1) := by decide +kernel
theorem dc102_53 : decode (pm_mb 102) 53 = .ok (.getfield 40, 3) := by decide +kernel
theorem dc102_56 : decode (pm_mb 102) 56 = .ok (.iload_n 1, 1) := by decide +kernel
theorem dc102_57 : decode (pm_mb 102) 57 = .ok (.invokevirtual 162, 3) := by decide +kernel
theorem dc102_60 : decode (pm_mb 102) 60 = .ok (.ireturn, 1) := by decide +kernel
theorem dc102_61 : decode (pm_mb 102) 61 = .ok (.aload_n 0, 1) := by decide +kernel
theorem dc102_62 : decode (pm_mb 102) 62 = .ok (.getfield 40, 3) := by decide +kernel
theorem dc102_65 : decode (pm_mb 102) 65 = .ok (.iload_n 1, 1) := by decide +kernel
theorem dc102_66 : decode (pm_mb 102) 66 = .ok (.invokevirtual 163, 3) := by decide +kernel
theorem dc102_69 : decode (pm_mb 102) 69 = .ok (.ireturn, 1) := by decide +kernel
theorem dc102_70 : decode (pm_mb 102) 70 = .ok (.aload_n 0, 1) := by decide +kernel
theorem dc102_71 : decode (pm_mb 102) 71 = .ok (.getfield 40, 3) := by decide +kernel
theorem dc102_74 : decode (pm_mb 102) 74 = .ok (.iload_n 1, 1) := by decide +kernel
theorem dc102_75 : decode (pm_mb 102) 75 = .ok (.invokevirtual 166, 3) := by decide +kernel
theorem dc102_78 : decode (pm_mb 102) 78 = .ok (.ireturn, 1) := by decide +kernel
theorem dc102_79 : decode (pm_mb 102) 79 = .ok (.aload_n 0, 1) := by decide +kernel
theorem dc102_80 : decode (pm_mb 102) 80 = .ok (.getfield 40, 3) := by decide +kernel
theorem dc102_83 : decode (pm_mb 102) 83 = .ok (.iload_n 1, 1) := by decide +kernel
theorem dc102_84 : decode (pm_mb 102) 84 = .ok (.invokevirtual 169, 3) := by decide +kernel
theorem dc102_87 : decode (pm_mb 102) 87 = .ok (.ifCond .eq 7, 3) := by decide +kernel
theorem dc102_90 : decode (pm_mb 102) 90 = .ok (.iconst 1, 1) := by decide +kernel
theorem dc102_91 : decode (pm_mb 102) 91 = .ok (.goto 4, 3) := by decide +kernel
theorem dc102_94 : decode (pm_mb 102) 94 = .ok (.iconst 0, 1) := by decide +kernel
theorem dc102_95 : decode (pm_mb 102) 95 = .ok (.ireturn, 1) := by decide +kernel
theorem dc102_96 : decode (pm_mb 102) 96 = .ok (.aload_n 0, 1) := by decide +kernel
theorem dc102_97 : decode (pm_mb 102) 97 = .ok (.getfield 40, 3) := by decide +kernel
theorem dc102_100 : decode (pm_mb 102) 100 = .ok (.iload_n 1, 1) := by decide +kernel
theorem dc102_101 : decode (pm_mb 102) 101 = .ok (.invokevirtual 172, 3) := by decide +kernel
theorem dc102_104 : decode (pm_mb 102) 104 = .ok (.ireturn, 1) := by decide +kernel
theorem dc102_105 : decode (pm_mb 102) 105 = .ok (.aload_n 0, 1) := by decide +kernel
theorem dc102_106 : decode (pm_mb 102) 106 = .ok (.getfield 40, 3) := by decide +kernel
theorem dc102_109 : decode (pm_mb 102) 109 = .ok (.iload_n 1, 1) := by decide +kernel
theorem dc102_110 : decode (pm_mb 102) 110 = .ok (.invokevirtual 175, 3) := by decide +kernel
theorem dc102_113 : decode (pm_mb 102) 113 = .ok (.ireturn, 1) := by decide +kernel
theorem dc102_114 : decode (pm_mb 102) 114 = .ok (.ldc 59, 2) := by decide +kernel
theorem dc102_116 : decode (pm_mb 102) 116 = .ok (.ireturn, 1) := by decide +kernel
theorem b102_0 {X : pm_X} {d : Nat} {x1 : Int32} {x2 : Int32} {g : pm_G} {iv : pm_V} (hL : pm_lay g) : pm_at X d 102 (0, [some (.ref 0), some (.int x1), some (.int x2)], [], g, iv) = pm_then X d 102 8 [some (.ref 0), some (.int x1), some (.int x2)] [] (pm_c X d 35 [.ref 11, .int x1] g iv) := by
  refine (at_aload_n dc102_0 rfl).trans ?_
  refine (at_gfR dc102_1 mc102 lf5_40 fo5_4 (ly0 hL) (lr0_4 hL)).trans ?_
  refine (at_iload_n dc102_4 rfl).trans ?_
  exact at_inv dc102_5 mc102 lm5_139 rfl rfl (Nat.le_of_ble_eq_true rfl) (Or.inl ⟨(ly11 hL), by decide⟩)
theorem b102_8 {X : pm_X} {d : Nat} {x1 : Int32} {x2 : Int32} {s0 : Int32} {g : pm_G} {iv : pm_V}  : pm_at X d 102 (8, [some (.ref 0), some (.int x1), some (.int x2)], [.int s0], g, iv) = if ¬ s0 = 0 then pm_at X d 102 (14, [some (.ref 0), some (.int x1), some (.int x2)], [], g, iv) else pm_at X d 102 (11, [some (.ref 0), some (.int x1), some (.int x2)], [], g, iv) := by
  exact at_if_ne (t := 14) dc102_8 (by decide)
theorem b102_11 {X : pm_X} {d : Nat} {x1 : Int32} {x2 : Int32} {g : pm_G} {iv : pm_V}  : pm_at X d 102 (11, [some (.ref 0), some (.int x1), some (.int x2)], [], g, iv) = some (some (.int (-1000001)), g, iv) := by
  refine (at_ldc dc102_11 mc102 lk5_59).trans ?_
  exact at_iret dc102_13 mr102
theorem b102_14_c0 {X : pm_X} {d : Nat} {x1 : Int32} {x2 : Int32} {g : pm_G} {iv : pm_V} (hx : x2 = 0) : pm_at X d 102 (14, [some (.ref 0), some (.int x1), some (.int x2)], [], g, iv) = pm_at X d 102 (52, [some (.ref 0), some (.int x1), some (.int x2)], [], g, iv) := by
  refine (at_iload_n dc102_14 rfl).trans ?_
  rw [hx]
  exact at_tswI (t := 52) dc102_15 (by decide) rfl (by decide)
theorem b102_14_c1 {X : pm_X} {d : Nat} {x1 : Int32} {x2 : Int32} {g : pm_G} {iv : pm_V} (hx : x2 = 1) : pm_at X d 102 (14, [some (.ref 0), some (.int x1), some (.int x2)], [], g, iv) = pm_at X d 102 (61, [some (.ref 0), some (.int x1), some (.int x2)], [], g, iv) := by
  refine (at_iload_n dc102_14 rfl).trans ?_
  rw [hx]
  exact at_tswI (t := 61) dc102_15 (by decide) rfl (by decide)
theorem b102_14_c2 {X : pm_X} {d : Nat} {x1 : Int32} {x2 : Int32} {g : pm_G} {iv : pm_V} (hx : x2 = 2) : pm_at X d 102 (14, [some (.ref 0), some (.int x1), some (.int x2)], [], g, iv) = pm_at X d 102 (70, [some (.ref 0), some (.int x1), some (.int x2)], [], g, iv) := by
  refine (at_iload_n dc102_14 rfl).trans ?_
  rw [hx]
  exact at_tswI (t := 70) dc102_15 (by decide) rfl (by decide)
theorem b102_14_c3 {X : pm_X} {d : Nat} {x1 : Int32} {x2 : Int32} {g : pm_G} {iv : pm_V} (hx : x2 = 3) : pm_at X d 102 (14, [some (.ref 0), some (.int x1), some (.int x2)], [], g, iv) = pm_at X d 102 (79, [some (.ref 0), some (.int x1), some (.int x2)], [], g, iv) := by
  refine (at_iload_n dc102_14 rfl).trans ?_
  rw [hx]
  exact at_tswI (t := 79) dc102_15 (by decide) rfl (by decide)
theorem b102_14_c4 {X : pm_X} {d : Nat} {x1 : Int32} {x2 : Int32} {g : pm_G} {iv : pm_V} (hx : x2 = 4) : pm_at X d 102 (14, [some (.ref 0), some (.int x1), some (.int x2)], [], g, iv) = pm_at X d 102 (96, [some (.ref 0), some (.int x1), some (.int x2)], [], g, iv) := by
  refine (at_iload_n dc102_14 rfl).trans ?_
  rw [hx]
  exact at_tswI (t := 96) dc102_15 (by decide) rfl (by decide)
theorem b102_14_c5 {X : pm_X} {d : Nat} {x1 : Int32} {x2 : Int32} {g : pm_G} {iv : pm_V} (hx : x2 = 5) : pm_at X d 102 (14, [some (.ref 0), some (.int x1), some (.int x2)], [], g, iv) = pm_at X d 102 (105, [some (.ref 0), some (.int x1), some (.int x2)], [], g, iv) := by
  refine (at_iload_n dc102_14 rfl).trans ?_
  rw [hx]
  exact at_tswI (t := 105) dc102_15 (by decide) rfl (by decide)
theorem b102_14_df {X : pm_X} {d : Nat} {x1 : Int32} {x2 : Int32} {g : pm_G} {iv : pm_V}  (hx : x2.toInt < 0 ∨ 5 < x2.toInt) : pm_at X d 102 (14, [some (.ref 0), some (.int x1), some (.int x2)], [], g, iv) = pm_at X d 102 (114, [some (.ref 0), some (.int x1), some (.int x2)], [], g, iv) := by
  refine (at_iload_n dc102_14 rfl).trans ?_
  exact at_tswO (t := 114) dc102_15 hx (by decide)
theorem b102_52 {X : pm_X} {d : Nat} {x1 : Int32} {x2 : Int32} {g : pm_G} {iv : pm_V} (hL : pm_lay g) : pm_at X d 102 (52, [some (.ref 0), some (.int x1), some (.int x2)], [], g, iv) = pm_then X d 102 60 [some (.ref 0), some (.int x1), some (.int x2)] [] (pm_c X d 38 [.ref 11, .int x1] g iv) := by
  refine (at_aload_n dc102_52 rfl).trans ?_
  refine (at_gfR dc102_53 mc102 lf5_40 fo5_4 (ly0 hL) (lr0_4 hL)).trans ?_
  refine (at_iload_n dc102_56 rfl).trans ?_
  exact at_inv dc102_57 mc102 lm5_162 rfl rfl (Nat.le_of_ble_eq_true rfl) (Or.inl ⟨(ly11 hL), by decide⟩)
theorem b102_60 {X : pm_X} {d : Nat} {x1 : Int32} {x2 : Int32} {s0 : Int32} {g : pm_G} {iv : pm_V}  : pm_at X d 102 (60, [some (.ref 0), some (.int x1), some (.int x2)], [.int s0], g, iv) = some (some (.int s0), g, iv) := by
  exact at_iret dc102_60 mr102
theorem b102_61 {X : pm_X} {d : Nat} {x1 : Int32} {x2 : Int32} {g : pm_G} {iv : pm_V} (hL : pm_lay g) : pm_at X d 102 (61, [some (.ref 0), some (.int x1), some (.int x2)], [], g, iv) = pm_then X d 102 69 [some (.ref 0), some (.int x1), some (.int x2)] [] (pm_c X d 39 [.ref 11, .int x1] g iv) := by
  refine (at_aload_n dc102_61 rfl).trans ?_
  refine (at_gfR dc102_62 mc102 lf5_40 fo5_4 (ly0 hL) (lr0_4 hL)).trans ?_
  refine (at_iload_n dc102_65 rfl).trans ?_
  exact at_inv dc102_66 mc102 lm5_163 rfl rfl (Nat.le_of_ble_eq_true rfl) (Or.inl ⟨(ly11 hL), by decide⟩)
theorem b102_69 {X : pm_X} {d : Nat} {x1 : Int32} {x2 : Int32} {s0 : Int32} {g : pm_G} {iv : pm_V}  : pm_at X d 102 (69, [some (.ref 0), some (.int x1), some (.int x2)], [.int s0], g, iv) = some (some (.int s0), g, iv) := by
  exact at_iret dc102_69 mr102
theorem b102_70 {X : pm_X} {d : Nat} {x1 : Int32} {x2 : Int32} {g : pm_G} {iv : pm_V} (hL : pm_lay g) : pm_at X d 102 (70, [some (.ref 0), some (.int x1), some (.int x2)], [], g, iv) = pm_then X d 102 78 [some (.ref 0), some (.int x1), some (.int x2)] [] (pm_c X d 37 [.ref 11, .int x1] g iv) := by
  refine (at_aload_n dc102_70 rfl).trans ?_
  refine (at_gfR dc102_71 mc102 lf5_40 fo5_4 (ly0 hL) (lr0_4 hL)).trans ?_
  refine (at_iload_n dc102_74 rfl).trans ?_
  exact at_inv dc102_75 mc102 lm5_166 rfl rfl (Nat.le_of_ble_eq_true rfl) (Or.inl ⟨(ly11 hL), by decide⟩)
theorem b102_78 {X : pm_X} {d : Nat} {x1 : Int32} {x2 : Int32} {s0 : Int32} {g : pm_G} {iv : pm_V}  : pm_at X d 102 (78, [some (.ref 0), some (.int x1), some (.int x2)], [.int s0], g, iv) = some (some (.int s0), g, iv) := by
  exact at_iret dc102_78 mr102
theorem b102_79 {X : pm_X} {d : Nat} {x1 : Int32} {x2 : Int32} {g : pm_G} {iv : pm_V} (hL : pm_lay g) : pm_at X d 102 (79, [some (.ref 0), some (.int x1), some (.int x2)], [], g, iv) = pm_then X d 102 87 [some (.ref 0), some (.int x1), some (.int x2)] [] (pm_c X d 41 [.ref 11, .int x1] g iv) := by
  refine (at_aload_n dc102_79 rfl).trans ?_
  refine (at_gfR dc102_80 mc102 lf5_40 fo5_4 (ly0 hL) (lr0_4 hL)).trans ?_
  refine (at_iload_n dc102_83 rfl).trans ?_
  exact at_inv dc102_84 mc102 lm5_169 rfl rfl (Nat.le_of_ble_eq_true rfl) (Or.inl ⟨(ly11 hL), by decide⟩)
theorem b102_87 {X : pm_X} {d : Nat} {x1 : Int32} {x2 : Int32} {s0 : Int32} {g : pm_G} {iv : pm_V}  : pm_at X d 102 (87, [some (.ref 0), some (.int x1), some (.int x2)], [.int s0], g, iv) = if s0 = 0 then pm_at X d 102 (94, [some (.ref 0), some (.int x1), some (.int x2)], [], g, iv) else pm_at X d 102 (90, [some (.ref 0), some (.int x1), some (.int x2)], [], g, iv) := by
  exact at_if_eq (t := 94) dc102_87 (by decide)
theorem b102_90 {X : pm_X} {d : Nat} {x1 : Int32} {x2 : Int32} {g : pm_G} {iv : pm_V}  : pm_at X d 102 (90, [some (.ref 0), some (.int x1), some (.int x2)], [], g, iv) = pm_at X d 102 (95, [some (.ref 0), some (.int x1), some (.int x2)], [.int 1], g, iv) := by
  refine (at_iconst (v := 1) dc102_90 rfl).trans ?_
  refine (at_goto (t := 95) dc102_91 (by decide)).trans ?_
  rfl
theorem b102_94 {X : pm_X} {d : Nat} {x1 : Int32} {x2 : Int32} {g : pm_G} {iv : pm_V}  : pm_at X d 102 (94, [some (.ref 0), some (.int x1), some (.int x2)], [], g, iv) = pm_at X d 102 (95, [some (.ref 0), some (.int x1), some (.int x2)], [.int 0], g, iv) := by
  refine (at_iconst (v := 0) dc102_94 rfl).trans ?_
  rfl
theorem b102_95 {X : pm_X} {d : Nat} {x1 : Int32} {x2 : Int32} {s0 : Int32} {g : pm_G} {iv : pm_V}  : pm_at X d 102 (95, [some (.ref 0), some (.int x1), some (.int x2)], [.int s0], g, iv) = some (some (.int s0), g, iv) := by
  exact at_iret dc102_95 mr102
theorem b102_96 {X : pm_X} {d : Nat} {x1 : Int32} {x2 : Int32} {g : pm_G} {iv : pm_V} (hL : pm_lay g) : pm_at X d 102 (96, [some (.ref 0), some (.int x1), some (.int x2)], [], g, iv) = pm_then X d 102 104 [some (.ref 0), some (.int x1), some (.int x2)] [] (pm_c X d 40 [.ref 11, .int x1] g iv) := by
  refine (at_aload_n dc102_96 rfl).trans ?_
  refine (at_gfR dc102_97 mc102 lf5_40 fo5_4 (ly0 hL) (lr0_4 hL)).trans ?_
  refine (at_iload_n dc102_100 rfl).trans ?_
  exact at_inv dc102_101 mc102 lm5_172 rfl rfl (Nat.le_of_ble_eq_true rfl) (Or.inl ⟨(ly11 hL), by decide⟩)
theorem b102_104 {X : pm_X} {d : Nat} {x1 : Int32} {x2 : Int32} {s0 : Int32} {g : pm_G} {iv : pm_V}  : pm_at X d 102 (104, [some (.ref 0), some (.int x1), some (.int x2)], [.int s0], g, iv) = some (some (.int s0), g, iv) := by
  exact at_iret dc102_104 mr102
theorem b102_105 {X : pm_X} {d : Nat} {x1 : Int32} {x2 : Int32} {g : pm_G} {iv : pm_V} (hL : pm_lay g) : pm_at X d 102 (105, [some (.ref 0), some (.int x1), some (.int x2)], [], g, iv) = pm_then X d 102 113 [some (.ref 0), some (.int x1), some (.int x2)] [] (pm_c X d 46 [.ref 11, .int x1] g iv) := by
  refine (at_aload_n dc102_105 rfl).trans ?_
  refine (at_gfR dc102_106 mc102 lf5_40 fo5_4 (ly0 hL) (lr0_4 hL)).trans ?_
  refine (at_iload_n dc102_109 rfl).trans ?_
  exact at_inv dc102_110 mc102 lm5_175 rfl rfl (Nat.le_of_ble_eq_true rfl) (Or.inl ⟨(ly11 hL), by decide⟩)
theorem b102_113 {X : pm_X} {d : Nat} {x1 : Int32} {x2 : Int32} {s0 : Int32} {g : pm_G} {iv : pm_V}  : pm_at X d 102 (113, [some (.ref 0), some (.int x1), some (.int x2)], [.int s0], g, iv) = some (some (.int s0), g, iv) := by
  exact at_iret dc102_113 mr102
theorem b102_114 {X : pm_X} {d : Nat} {x1 : Int32} {x2 : Int32} {g : pm_G} {iv : pm_V}  : pm_at X d 102 (114, [some (.ref 0), some (.int x1), some (.int x2)], [], g, iv) = some (some (.int (-1000001)), g, iv) := by
  refine (at_ldc dc102_114 mc102 lk5_59).trans ?_
  exact at_iret dc102_116 mr102
-- HH.yard (II)I
theorem dc103_0 : decode (pm_mb 103) 0 = .ok (.aload_n 0, 1) := by decide +kernel
theorem dc103_1 : decode (pm_mb 103) 1 = .ok (.getfield 40, 3) := by decide +kernel
theorem dc103_4 : decode (pm_mb 103) 4 = .ok (.iload_n 1, 1) := by decide +kernel
theorem dc103_5 : decode (pm_mb 103) 5 = .ok (.invokevirtual 142, 3) := by decide +kernel
theorem dc103_8 : decode (pm_mb 103) 8 = .ok (.ifCond .eq 14, 3) := by decide +kernel
theorem dc103_11 : decode (pm_mb 103) 11 = .ok (.aload_n 0, 1) := by decide +kernel
theorem dc103_12 : decode (pm_mb 103) 12 = .ok (.getfield 40, 3) := by decide +kernel
theorem dc103_15 : decode (pm_mb 103) 15 = .ok (.iload_n 2, 1) := by decide +kernel
theorem dc103_16 : decode (pm_mb 103) 16 = .ok (.invokevirtual 178, 3) := by decide +kernel
theorem dc103_19 : decode (pm_mb 103) 19 = .ok (.ifCond .ne 6, 3) := by decide +kernel
theorem dc103_22 : decode (pm_mb 103) 22 = .ok (.ldc 59, 2) := by decide +kernel
theorem dc103_24 : decode (pm_mb 103) 24 = .ok (.ireturn, 1) := by decide +kernel
theorem dc103_25 : decode (pm_mb 103) 25 = .ok (.aload_n 0, 1) := by decide +kernel
theorem dc103_26 : decode (pm_mb 103) 26 = .ok (.getfield 40, 3) := by decide +kernel
theorem dc103_29 : decode (pm_mb 103) 29 = .ok (.iload_n 1, 1) := by decide +kernel
theorem dc103_30 : decode (pm_mb 103) 30 = .ok (.iload_n 2, 1) := by decide +kernel
theorem dc103_31 : decode (pm_mb 103) 31 = .ok (.invokevirtual 145, 3) := by decide +kernel
theorem dc103_34 : decode (pm_mb 103) 34 = .ok (.ireturn, 1) := by decide +kernel
theorem b103_0 {X : pm_X} {d : Nat} {x1 : Int32} {x2 : Int32} {g : pm_G} {iv : pm_V} (hL : pm_lay g) : pm_at X d 103 (0, [some (.ref 0), some (.int x1), some (.int x2)], [], g, iv) = pm_then X d 103 8 [some (.ref 0), some (.int x1), some (.int x2)] [] (pm_c X d 33 [.ref 11, .int x1] g iv) := by
  refine (at_aload_n dc103_0 rfl).trans ?_
  refine (at_gfR dc103_1 mc103 lf5_40 fo5_4 (ly0 hL) (lr0_4 hL)).trans ?_
  refine (at_iload_n dc103_4 rfl).trans ?_
  exact at_inv dc103_5 mc103 lm5_142 rfl rfl (Nat.le_of_ble_eq_true rfl) (Or.inl ⟨(ly11 hL), by decide⟩)
theorem b103_8 {X : pm_X} {d : Nat} {x1 : Int32} {x2 : Int32} {s0 : Int32} {g : pm_G} {iv : pm_V}  : pm_at X d 103 (8, [some (.ref 0), some (.int x1), some (.int x2)], [.int s0], g, iv) = if s0 = 0 then pm_at X d 103 (22, [some (.ref 0), some (.int x1), some (.int x2)], [], g, iv) else pm_at X d 103 (11, [some (.ref 0), some (.int x1), some (.int x2)], [], g, iv) := by
  exact at_if_eq (t := 22) dc103_8 (by decide)
theorem b103_11 {X : pm_X} {d : Nat} {x1 : Int32} {x2 : Int32} {g : pm_G} {iv : pm_V} (hL : pm_lay g) : pm_at X d 103 (11, [some (.ref 0), some (.int x1), some (.int x2)], [], g, iv) = pm_then X d 103 19 [some (.ref 0), some (.int x1), some (.int x2)] [] (pm_c X d 34 [.ref 11, .int x2] g iv) := by
  refine (at_aload_n dc103_11 rfl).trans ?_
  refine (at_gfR dc103_12 mc103 lf5_40 fo5_4 (ly0 hL) (lr0_4 hL)).trans ?_
  refine (at_iload_n dc103_15 rfl).trans ?_
  exact at_inv dc103_16 mc103 lm5_178 rfl rfl (Nat.le_of_ble_eq_true rfl) (Or.inl ⟨(ly11 hL), by decide⟩)
theorem b103_19 {X : pm_X} {d : Nat} {x1 : Int32} {x2 : Int32} {s0 : Int32} {g : pm_G} {iv : pm_V}  : pm_at X d 103 (19, [some (.ref 0), some (.int x1), some (.int x2)], [.int s0], g, iv) = if ¬ s0 = 0 then pm_at X d 103 (25, [some (.ref 0), some (.int x1), some (.int x2)], [], g, iv) else pm_at X d 103 (22, [some (.ref 0), some (.int x1), some (.int x2)], [], g, iv) := by
  exact at_if_ne (t := 25) dc103_19 (by decide)
theorem b103_22 {X : pm_X} {d : Nat} {x1 : Int32} {x2 : Int32} {g : pm_G} {iv : pm_V}  : pm_at X d 103 (22, [some (.ref 0), some (.int x1), some (.int x2)], [], g, iv) = some (some (.int (-1000001)), g, iv) := by
  refine (at_ldc dc103_22 mc103 lk5_59).trans ?_
  exact at_iret dc103_24 mr103
theorem b103_25 {X : pm_X} {d : Nat} {x1 : Int32} {x2 : Int32} {g : pm_G} {iv : pm_V} (hL : pm_lay g) : pm_at X d 103 (25, [some (.ref 0), some (.int x1), some (.int x2)], [], g, iv) = pm_then X d 103 34 [some (.ref 0), some (.int x1), some (.int x2)] [] (pm_c X d 45 [.ref 11, .int x1, .int x2] g iv) := by
  refine (at_aload_n dc103_25 rfl).trans ?_
  refine (at_gfR dc103_26 mc103 lf5_40 fo5_4 (ly0 hL) (lr0_4 hL)).trans ?_
  refine (at_iload_n dc103_29 rfl).trans ?_
  refine (at_iload_n dc103_30 rfl).trans ?_
  exact at_inv dc103_31 mc103 lm5_145 rfl rfl (Nat.le_of_ble_eq_true rfl) (Or.inl ⟨(ly11 hL), by decide⟩)
theorem b103_34 {X : pm_X} {d : Nat} {x1 : Int32} {x2 : Int32} {s0 : Int32} {g : pm_G} {iv : pm_V}  : pm_at X d 103 (34, [some (.ref 0), some (.int x1), some (.int x2)], [.int s0], g, iv) = some (some (.int s0), g, iv) := by
  exact at_iret dc103_34 mr103
-- HH.ahead (III)I
theorem dc104_0 : decode (pm_mb 104) 0 = .ok (.aload_n 0, 1) := by decide +kernel
theorem dc104_1 : decode (pm_mb 104) 1 = .ok (.getfield 40, 3) := by decide +kernel
theorem dc104_4 : decode (pm_mb 104) 4 = .ok (.iload_n 1, 1) := by decide +kernel
theorem dc104_5 : decode (pm_mb 104) 5 = .ok (.invokevirtual 139, 3) := by decide +kernel
theorem dc104_8 : decode (pm_mb 104) 8 = .ok (.ifCond .eq 20, 3) := by decide +kernel
theorem dc104_11 : decode (pm_mb 104) 11 = .ok (.iload_n 2, 1) := by decide +kernel
theorem dc104_12 : decode (pm_mb 104) 12 = .ok (.bipush 40, 2) := by decide +kernel
theorem dc104_14 : decode (pm_mb 104) 14 = .ok (.invokestatic 55, 3) := by decide +kernel
theorem dc104_17 : decode (pm_mb 104) 17 = .ok (.ifCond .eq 11, 3) := by decide +kernel
theorem dc104_20 : decode (pm_mb 104) 20 = .ok (.iload_n 3, 1) := by decide +kernel
theorem dc104_21 : decode (pm_mb 104) 21 = .ok (.iconst 1, 1) := by decide +kernel
theorem dc104_22 : decode (pm_mb 104) 22 = .ok (.invokestatic 55, 3) := by decide +kernel
theorem dc104_25 : decode (pm_mb 104) 25 = .ok (.ifCond .ne 6, 3) := by decide +kernel
theorem dc104_28 : decode (pm_mb 104) 28 = .ok (.ldc 59, 2) := by decide +kernel
theorem dc104_30 : decode (pm_mb 104) 30 = .ok (.ireturn, 1) := by decide +kernel
theorem dc104_31 : decode (pm_mb 104) 31 = .ok (.aload_n 0, 1) := by decide +kernel
theorem dc104_32 : decode (pm_mb 104) 32 = .ok (.getfield 44, 3) := by decide +kernel
theorem dc104_35 : decode (pm_mb 104) 35 = .ok (.aload_n 0, 1) := by decide +kernel
theorem dc104_36 : decode (pm_mb 104) 36 = .ok (.getfield 40, 3) := by decide +kernel
theorem dc104_39 : decode (pm_mb 104) 39 = .ok (.invokevirtual 112, 3) := by decide +kernel
theorem dc104_42 : decode (pm_mb 104) 42 = .ok (.aload_n 0, 1) := by decide +kernel
theorem dc104_43 : decode (pm_mb 104) 43 = .ok (.iload_n 2, 1) := by decide +kernel
theorem dc104_44 : decode (pm_mb 104) 44 = .ok (.invokevirtual 181, 3) := by decide +kernel
theorem dc104_47 : decode (pm_mb 104) 47 = .ok (.iload_n 3, 1) := by decide +kernel
theorem dc104_48 : decode (pm_mb 104) 48 = .ok (.ifCond .ne 14, 3) := by decide +kernel
theorem dc104_51 : decode (pm_mb 104) 51 = .ok (.aload_n 0, 1) := by decide +kernel
theorem dc104_52 : decode (pm_mb 104) 52 = .ok (.getfield 44, 3) := by decide +kernel
theorem dc104_55 : decode (pm_mb 104) 55 = .ok (.iload_n 1, 1) := by decide +kernel
theorem dc104_56 : decode (pm_mb 104) 56 = .ok (.invokevirtual 162, 3) := by decide +kernel
theorem dc104_59 : decode (pm_mb 104) 59 = .ok (.goto 11, 3) := by decide +kernel
theorem dc104_62 : decode (pm_mb 104) 62 = .ok (.aload_n 0, 1) := by decide +kernel
theorem dc104_63 : decode (pm_mb 104) 63 = .ok (.getfield 44, 3) := by decide +kernel
theorem dc104_66 : decode (pm_mb 104) 66 = .ok (.iload_n 1, 1) := by decide +kernel
theorem dc104_67 : decode (pm_mb 104) 67 = .ok (.invokevirtual 163, 3) := by decide +kernel
theorem dc104_70 : decode (pm_mb 104) 70 = .ok (.ireturn, 1) := by decide +kernel
theorem b104_0 {X : pm_X} {d : Nat} {x1 : Int32} {x2 : Int32} {x3 : Int32} {g : pm_G} {iv : pm_V} (hL : pm_lay g) : pm_at X d 104 (0, [some (.ref 0), some (.int x1), some (.int x2), some (.int x3)], [], g, iv) = pm_then X d 104 8 [some (.ref 0), some (.int x1), some (.int x2), some (.int x3)] [] (pm_c X d 35 [.ref 11, .int x1] g iv) := by
  refine (at_aload_n dc104_0 rfl).trans ?_
  refine (at_gfR dc104_1 mc104 lf5_40 fo5_4 (ly0 hL) (lr0_4 hL)).trans ?_
  refine (at_iload_n dc104_4 rfl).trans ?_
  exact at_inv dc104_5 mc104 lm5_139 rfl rfl (Nat.le_of_ble_eq_true rfl) (Or.inl ⟨(ly11 hL), by decide⟩)
theorem b104_8 {X : pm_X} {d : Nat} {x1 : Int32} {x2 : Int32} {x3 : Int32} {s0 : Int32} {g : pm_G} {iv : pm_V}  : pm_at X d 104 (8, [some (.ref 0), some (.int x1), some (.int x2), some (.int x3)], [.int s0], g, iv) = if s0 = 0 then pm_at X d 104 (28, [some (.ref 0), some (.int x1), some (.int x2), some (.int x3)], [], g, iv) else pm_at X d 104 (11, [some (.ref 0), some (.int x1), some (.int x2), some (.int x3)], [], g, iv) := by
  exact at_if_eq (t := 28) dc104_8 (by decide)
theorem b104_11 {X : pm_X} {d : Nat} {x1 : Int32} {x2 : Int32} {x3 : Int32} {g : pm_G} {iv : pm_V}  : pm_at X d 104 (11, [some (.ref 0), some (.int x1), some (.int x2), some (.int x3)], [], g, iv) = pm_then X d 104 17 [some (.ref 0), some (.int x1), some (.int x2), some (.int x3)] [] (pm_c X d 119 [.int x2, .int 40] g iv) := by
  refine (at_iload_n dc104_11 rfl).trans ?_
  refine (at_bipush (v := 40) dc104_12 (by decide)).trans ?_
  exact at_ins dc104_14 mc104 lm5_55 (Nat.le_of_ble_eq_true rfl) rfl rfl (Nat.le_of_ble_eq_true rfl)
theorem b104_17 {X : pm_X} {d : Nat} {x1 : Int32} {x2 : Int32} {x3 : Int32} {s0 : Int32} {g : pm_G} {iv : pm_V}  : pm_at X d 104 (17, [some (.ref 0), some (.int x1), some (.int x2), some (.int x3)], [.int s0], g, iv) = if s0 = 0 then pm_at X d 104 (28, [some (.ref 0), some (.int x1), some (.int x2), some (.int x3)], [], g, iv) else pm_at X d 104 (20, [some (.ref 0), some (.int x1), some (.int x2), some (.int x3)], [], g, iv) := by
  exact at_if_eq (t := 28) dc104_17 (by decide)
theorem b104_20 {X : pm_X} {d : Nat} {x1 : Int32} {x2 : Int32} {x3 : Int32} {g : pm_G} {iv : pm_V}  : pm_at X d 104 (20, [some (.ref 0), some (.int x1), some (.int x2), some (.int x3)], [], g, iv) = pm_then X d 104 25 [some (.ref 0), some (.int x1), some (.int x2), some (.int x3)] [] (pm_c X d 119 [.int x3, .int 1] g iv) := by
  refine (at_iload_n dc104_20 rfl).trans ?_
  refine (at_iconst (v := 1) dc104_21 rfl).trans ?_
  exact at_ins dc104_22 mc104 lm5_55 (Nat.le_of_ble_eq_true rfl) rfl rfl (Nat.le_of_ble_eq_true rfl)
theorem b104_25 {X : pm_X} {d : Nat} {x1 : Int32} {x2 : Int32} {x3 : Int32} {s0 : Int32} {g : pm_G} {iv : pm_V}  : pm_at X d 104 (25, [some (.ref 0), some (.int x1), some (.int x2), some (.int x3)], [.int s0], g, iv) = if ¬ s0 = 0 then pm_at X d 104 (31, [some (.ref 0), some (.int x1), some (.int x2), some (.int x3)], [], g, iv) else pm_at X d 104 (28, [some (.ref 0), some (.int x1), some (.int x2), some (.int x3)], [], g, iv) := by
  exact at_if_ne (t := 31) dc104_25 (by decide)
theorem b104_28 {X : pm_X} {d : Nat} {x1 : Int32} {x2 : Int32} {x3 : Int32} {g : pm_G} {iv : pm_V}  : pm_at X d 104 (28, [some (.ref 0), some (.int x1), some (.int x2), some (.int x3)], [], g, iv) = some (some (.int (-1000001)), g, iv) := by
  refine (at_ldc dc104_28 mc104 lk5_59).trans ?_
  exact at_iret dc104_30 mr104
theorem b104_31 {X : pm_X} {d : Nat} {x1 : Int32} {x2 : Int32} {x3 : Int32} {g : pm_G} {iv : pm_V} (hL : pm_lay g) : pm_at X d 104 (31, [some (.ref 0), some (.int x1), some (.int x2), some (.int x3)], [], g, iv) = pm_then X d 104 42 [some (.ref 0), some (.int x1), some (.int x2), some (.int x3)] [] (pm_c X d 52 [.ref 21, .ref 11] g iv) := by
  refine (at_aload_n dc104_31 rfl).trans ?_
  refine (at_gfR dc104_32 mc104 lf5_44 fo5_5 (ly0 hL) (lr0_5 hL)).trans ?_
  refine (at_aload_n dc104_35 rfl).trans ?_
  refine (at_gfR dc104_36 mc104 lf5_40 fo5_4 (ly0 hL) (lr0_4 hL)).trans ?_
  exact at_inv dc104_39 mc104 lm5_112 rfl rfl (Nat.le_of_ble_eq_true rfl) (Or.inl ⟨(ly21 hL), by decide⟩)
theorem b104_42 {X : pm_X} {d : Nat} {x1 : Int32} {x2 : Int32} {x3 : Int32} {g : pm_G} {iv : pm_V} (hL : pm_lay g) : pm_at X d 104 (42, [some (.ref 0), some (.int x1), some (.int x2), some (.int x3)], [], g, iv) = pm_then X d 104 47 [some (.ref 0), some (.int x1), some (.int x2), some (.int x3)] [] (pm_c X d 125 [.ref 0, .int x2] g iv) := by
  refine (at_aload_n dc104_42 rfl).trans ?_
  refine (at_iload_n dc104_43 rfl).trans ?_
  exact at_inv dc104_44 mc104 lm5_181 rfl rfl (Nat.le_of_ble_eq_true rfl) (Or.inl ⟨(ly0 hL), by decide⟩)
theorem b104_47 {X : pm_X} {d : Nat} {x1 : Int32} {x2 : Int32} {x3 : Int32} {g : pm_G} {iv : pm_V}  : pm_at X d 104 (47, [some (.ref 0), some (.int x1), some (.int x2), some (.int x3)], [], g, iv) = if ¬ x3 = 0 then pm_at X d 104 (62, [some (.ref 0), some (.int x1), some (.int x2), some (.int x3)], [], g, iv) else pm_at X d 104 (51, [some (.ref 0), some (.int x1), some (.int x2), some (.int x3)], [], g, iv) := by
  refine (at_iload_n dc104_47 rfl).trans ?_
  exact at_if_ne (t := 62) dc104_48 (by decide)
theorem b104_51 {X : pm_X} {d : Nat} {x1 : Int32} {x2 : Int32} {x3 : Int32} {g : pm_G} {iv : pm_V} (hL : pm_lay g) : pm_at X d 104 (51, [some (.ref 0), some (.int x1), some (.int x2), some (.int x3)], [], g, iv) = pm_then X d 104 59 [some (.ref 0), some (.int x1), some (.int x2), some (.int x3)] [] (pm_c X d 38 [.ref 21, .int x1] g iv) := by
  refine (at_aload_n dc104_51 rfl).trans ?_
  refine (at_gfR dc104_52 mc104 lf5_44 fo5_5 (ly0 hL) (lr0_5 hL)).trans ?_
  refine (at_iload_n dc104_55 rfl).trans ?_
  exact at_inv dc104_56 mc104 lm5_162 rfl rfl (Nat.le_of_ble_eq_true rfl) (Or.inl ⟨(ly21 hL), by decide⟩)
theorem b104_59 {X : pm_X} {d : Nat} {x1 : Int32} {x2 : Int32} {x3 : Int32} {s0 : Int32} {g : pm_G} {iv : pm_V}  : pm_at X d 104 (59, [some (.ref 0), some (.int x1), some (.int x2), some (.int x3)], [.int s0], g, iv) = pm_at X d 104 (70, [some (.ref 0), some (.int x1), some (.int x2), some (.int x3)], [.int s0], g, iv) := by
  refine (at_goto (t := 70) dc104_59 (by decide)).trans ?_
  rfl
theorem b104_62 {X : pm_X} {d : Nat} {x1 : Int32} {x2 : Int32} {x3 : Int32} {g : pm_G} {iv : pm_V} (hL : pm_lay g) : pm_at X d 104 (62, [some (.ref 0), some (.int x1), some (.int x2), some (.int x3)], [], g, iv) = pm_then X d 104 70 [some (.ref 0), some (.int x1), some (.int x2), some (.int x3)] [] (pm_c X d 39 [.ref 21, .int x1] g iv) := by
  refine (at_aload_n dc104_62 rfl).trans ?_
  refine (at_gfR dc104_63 mc104 lf5_44 fo5_5 (ly0 hL) (lr0_5 hL)).trans ?_
  refine (at_iload_n dc104_66 rfl).trans ?_
  exact at_inv dc104_67 mc104 lm5_163 rfl rfl (Nat.le_of_ble_eq_true rfl) (Or.inl ⟨(ly21 hL), by decide⟩)
theorem b104_70 {X : pm_X} {d : Nat} {x1 : Int32} {x2 : Int32} {x3 : Int32} {s0 : Int32} {g : pm_G} {iv : pm_V}  : pm_at X d 104 (70, [some (.ref 0), some (.int x1), some (.int x2), some (.int x3)], [.int s0], g, iv) = some (some (.int s0), g, iv) := by
  exact at_iret dc104_70 mr104
-- HH.stream (I)I
theorem dc105_0 : decode (pm_mb 105) 0 = .ok (.aload_n 0, 1) := by decide +kernel
theorem dc105_1 : decode (pm_mb 105) 1 = .ok (.getfield 40, 3) := by decide +kernel
theorem dc105_4 : decode (pm_mb 105) 4 = .ok (.iload_n 1, 1) := by decide +kernel
theorem dc105_5 : decode (pm_mb 105) 5 = .ok (.invokevirtual 139, 3) := by decide +kernel
theorem dc105_8 : decode (pm_mb 105) 8 = .ok (.ifCond .ne 6, 3) := by decide +kernel
theorem dc105_11 : decode (pm_mb 105) 11 = .ok (.ldc 59, 2) := by decide +kernel
theorem dc105_13 : decode (pm_mb 105) 13 = .ok (.ireturn, 1) := by decide +kernel
theorem dc105_14 : decode (pm_mb 105) 14 = .ok (.aload_n 0, 1) := by decide +kernel
theorem dc105_15 : decode (pm_mb 105) 15 = .ok (.getfield 44, 3) := by decide +kernel
theorem dc105_18 : decode (pm_mb 105) 18 = .ok (.aload_n 0, 1) := by decide +kernel
theorem dc105_19 : decode (pm_mb 105) 19 = .ok (.getfield 40, 3) := by decide +kernel
theorem dc105_22 : decode (pm_mb 105) 22 = .ok (.invokevirtual 112, 3) := by decide +kernel
theorem dc105_25 : decode (pm_mb 105) 25 = .ok (.iconst 0, 1) := by decide +kernel
theorem dc105_26 : decode (pm_mb 105) 26 = .ok (.istore_n 2, 1) := by decide +kernel
theorem dc105_27 : decode (pm_mb 105) 27 = .ok (.iload_n 2, 1) := by decide +kernel
theorem dc105_28 : decode (pm_mb 105) 28 = .ok (.bipush 40, 2) := by decide +kernel
theorem dc105_30 : decode (pm_mb 105) 30 = .ok (.if_icmp .gt 30, 3) := by decide +kernel
theorem dc105_33 : decode (pm_mb 105) 33 = .ok (.aload_n 0, 1) := by decide +kernel
theorem dc105_34 : decode (pm_mb 105) 34 = .ok (.getfield 44, 3) := by decide +kernel
theorem dc105_37 : decode (pm_mb 105) 37 = .ok (.iload_n 1, 1) := by decide +kernel
theorem dc105_38 : decode (pm_mb 105) 38 = .ok (.invokevirtual 185, 3) := by decide +kernel
theorem dc105_41 : decode (pm_mb 105) 41 = .ok (.ifCond .eq 5, 3) := by decide +kernel
theorem dc105_44 : decode (pm_mb 105) 44 = .ok (.iload_n 2, 1) := by decide +kernel
theorem dc105_45 : decode (pm_mb 105) 45 = .ok (.ireturn, 1) := by decide +kernel
theorem dc105_46 : decode (pm_mb 105) 46 = .ok (.aload_n 0, 1) := by decide +kernel
theorem dc105_47 : decode (pm_mb 105) 47 = .ok (.getfield 44, 3) := by decide +kernel
theorem dc105_50 : decode (pm_mb 105) 50 = .ok (.invokevirtual 136, 3) := by decide +kernel
theorem dc105_53 : decode (pm_mb 105) 53 = .ok (.pop, 1) := by decide +kernel
theorem dc105_54 : decode (pm_mb 105) 54 = .ok (.iinc 2 1, 3) := by decide +kernel
theorem dc105_57 : decode (pm_mb 105) 57 = .ok (.goto (-30), 3) := by decide +kernel
theorem dc105_60 : decode (pm_mb 105) 60 = .ok (.ldc 188, 2) := by decide +kernel
theorem dc105_62 : decode (pm_mb 105) 62 = .ok (.ireturn, 1) := by decide +kernel
theorem b105_0 {X : pm_X} {d : Nat} {x1 : Int32} {g : pm_G} {iv : pm_V} (hL : pm_lay g) : pm_at X d 105 (0, [some (.ref 0), some (.int x1), none], [], g, iv) = pm_then X d 105 8 [some (.ref 0), some (.int x1), none] [] (pm_c X d 35 [.ref 11, .int x1] g iv) := by
  refine (at_aload_n dc105_0 rfl).trans ?_
  refine (at_gfR dc105_1 mc105 lf5_40 fo5_4 (ly0 hL) (lr0_4 hL)).trans ?_
  refine (at_iload_n dc105_4 rfl).trans ?_
  exact at_inv dc105_5 mc105 lm5_139 rfl rfl (Nat.le_of_ble_eq_true rfl) (Or.inl ⟨(ly11 hL), by decide⟩)
theorem b105_8 {X : pm_X} {d : Nat} {x1 : Int32} {s0 : Int32} {g : pm_G} {iv : pm_V}  : pm_at X d 105 (8, [some (.ref 0), some (.int x1), none], [.int s0], g, iv) = if ¬ s0 = 0 then pm_at X d 105 (14, [some (.ref 0), some (.int x1), none], [], g, iv) else pm_at X d 105 (11, [some (.ref 0), some (.int x1), none], [], g, iv) := by
  exact at_if_ne (t := 14) dc105_8 (by decide)
theorem b105_11 {X : pm_X} {d : Nat} {x1 : Int32} {g : pm_G} {iv : pm_V}  : pm_at X d 105 (11, [some (.ref 0), some (.int x1), none], [], g, iv) = some (some (.int (-1000001)), g, iv) := by
  refine (at_ldc dc105_11 mc105 lk5_59).trans ?_
  exact at_iret dc105_13 mr105
theorem b105_14 {X : pm_X} {d : Nat} {x1 : Int32} {g : pm_G} {iv : pm_V} (hL : pm_lay g) : pm_at X d 105 (14, [some (.ref 0), some (.int x1), none], [], g, iv) = pm_then X d 105 25 [some (.ref 0), some (.int x1), none] [] (pm_c X d 52 [.ref 21, .ref 11] g iv) := by
  refine (at_aload_n dc105_14 rfl).trans ?_
  refine (at_gfR dc105_15 mc105 lf5_44 fo5_5 (ly0 hL) (lr0_5 hL)).trans ?_
  refine (at_aload_n dc105_18 rfl).trans ?_
  refine (at_gfR dc105_19 mc105 lf5_40 fo5_4 (ly0 hL) (lr0_4 hL)).trans ?_
  exact at_inv dc105_22 mc105 lm5_112 rfl rfl (Nat.le_of_ble_eq_true rfl) (Or.inl ⟨(ly21 hL), by decide⟩)
theorem b105_25 {X : pm_X} {d : Nat} {x1 : Int32} {g : pm_G} {iv : pm_V}  : pm_at X d 105 (25, [some (.ref 0), some (.int x1), none], [], g, iv) = pm_at X d 105 (27, [some (.ref 0), some (.int x1), some (.int 0)], [], g, iv) := by
  refine (at_iconst (v := 0) dc105_25 rfl).trans ?_
  refine (at_istore_n dc105_26 rfl).trans ?_
  rfl
theorem b105_27 {X : pm_X} {d : Nat} {x1 : Int32} {x2 : Int32} {g : pm_G} {iv : pm_V}  : pm_at X d 105 (27, [some (.ref 0), some (.int x1), some (.int x2)], [], g, iv) = if 40 < x2 then pm_at X d 105 (60, [some (.ref 0), some (.int x1), some (.int x2)], [], g, iv) else pm_at X d 105 (33, [some (.ref 0), some (.int x1), some (.int x2)], [], g, iv) := by
  refine (at_iload_n dc105_27 rfl).trans ?_
  refine (at_bipush (v := 40) dc105_28 (by decide)).trans ?_
  exact at_icmp_gt (t := 60) dc105_30 (by decide)
theorem b105_33 {X : pm_X} {d : Nat} {x1 : Int32} {x2 : Int32} {g : pm_G} {iv : pm_V} (hL : pm_lay g) : pm_at X d 105 (33, [some (.ref 0), some (.int x1), some (.int x2)], [], g, iv) = pm_then X d 105 41 [some (.ref 0), some (.int x1), some (.int x2)] [] (pm_c X d 43 [.ref 21, .int x1] g iv) := by
  refine (at_aload_n dc105_33 rfl).trans ?_
  refine (at_gfR dc105_34 mc105 lf5_44 fo5_5 (ly0 hL) (lr0_5 hL)).trans ?_
  refine (at_iload_n dc105_37 rfl).trans ?_
  exact at_inv dc105_38 mc105 lm5_185 rfl rfl (Nat.le_of_ble_eq_true rfl) (Or.inl ⟨(ly21 hL), by decide⟩)
theorem b105_41 {X : pm_X} {d : Nat} {x1 : Int32} {x2 : Int32} {s0 : Int32} {g : pm_G} {iv : pm_V}  : pm_at X d 105 (41, [some (.ref 0), some (.int x1), some (.int x2)], [.int s0], g, iv) = if s0 = 0 then pm_at X d 105 (46, [some (.ref 0), some (.int x1), some (.int x2)], [], g, iv) else pm_at X d 105 (44, [some (.ref 0), some (.int x1), some (.int x2)], [], g, iv) := by
  exact at_if_eq (t := 46) dc105_41 (by decide)
theorem b105_44 {X : pm_X} {d : Nat} {x1 : Int32} {x2 : Int32} {g : pm_G} {iv : pm_V}  : pm_at X d 105 (44, [some (.ref 0), some (.int x1), some (.int x2)], [], g, iv) = some (some (.int x2), g, iv) := by
  refine (at_iload_n dc105_44 rfl).trans ?_
  exact at_iret dc105_45 mr105
theorem b105_46 {X : pm_X} {d : Nat} {x1 : Int32} {x2 : Int32} {g : pm_G} {iv : pm_V} (hL : pm_lay g) : pm_at X d 105 (46, [some (.ref 0), some (.int x1), some (.int x2)], [], g, iv) = pm_then X d 105 53 [some (.ref 0), some (.int x1), some (.int x2)] [] (pm_c X d 60 [.ref 21] g iv) := by
  refine (at_aload_n dc105_46 rfl).trans ?_
  refine (at_gfR dc105_47 mc105 lf5_44 fo5_5 (ly0 hL) (lr0_5 hL)).trans ?_
  exact at_inv dc105_50 mc105 lm5_136 rfl rfl (Nat.le_of_ble_eq_true rfl) (Or.inl ⟨(ly21 hL), by decide⟩)
theorem b105_53 {X : pm_X} {d : Nat} {x1 : Int32} {x2 : Int32} {s0 : Int32} {g : pm_G} {iv : pm_V}  : pm_at X d 105 (53, [some (.ref 0), some (.int x1), some (.int x2)], [.int s0], g, iv) = pm_at X d 105 (27, [some (.ref 0), some (.int x1), some (.int (x2 + 1))], [], g, iv) := by
  refine (at_pop dc105_53 rfl).trans ?_
  refine (at_iinc (v := 1) dc105_54 rfl (by decide) rfl).trans ?_
  refine (at_goto (t := 27) dc105_57 (by decide)).trans ?_
  rfl
theorem b105_60 {X : pm_X} {d : Nat} {x1 : Int32} {x2 : Int32} {g : pm_G} {iv : pm_V}  : pm_at X d 105 (60, [some (.ref 0), some (.int x1), some (.int x2)], [], g, iv) = some (some (.int (-1000000)), g, iv) := by
  refine (at_ldc dc105_60 mc105 lk5_188).trans ?_
  exact at_iret dc105_62 mr105
-- HH.beside (III)I
theorem dc106_0 : decode (pm_mb 106) 0 = .ok (.aload_n 0, 1) := by decide +kernel
theorem dc106_1 : decode (pm_mb 106) 1 = .ok (.iload_n 1, 1) := by decide +kernel
theorem dc106_2 : decode (pm_mb 106) 2 = .ok (.iload_n 2, 1) := by decide +kernel
theorem dc106_3 : decode (pm_mb 106) 3 = .ok (.invokevirtual 189, 3) := by decide +kernel
theorem dc106_6 : decode (pm_mb 106) 6 = .ok (.ifCond .eq 12, 3) := by decide +kernel
theorem dc106_9 : decode (pm_mb 106) 9 = .ok (.iload_n 3, 1) := by decide +kernel
theorem dc106_10 : decode (pm_mb 106) 10 = .ok (.bipush 40, 2) := by decide +kernel
theorem dc106_12 : decode (pm_mb 106) 12 = .ok (.invokestatic 55, 3) := by decide +kernel
theorem dc106_15 : decode (pm_mb 106) 15 = .ok (.ifCond .ne 6, 3) := by decide +kernel
theorem dc106_18 : decode (pm_mb 106) 18 = .ok (.ldc 59, 2) := by decide +kernel
theorem dc106_20 : decode (pm_mb 106) 20 = .ok (.ireturn, 1) := by decide +kernel
theorem dc106_21 : decode (pm_mb 106) 21 = .ok (.aload_n 0, 1) := by decide +kernel
theorem dc106_22 : decode (pm_mb 106) 22 = .ok (.getfield 44, 3) := by decide +kernel
theorem dc106_25 : decode (pm_mb 106) 25 = .ok (.aload_n 0, 1) := by decide +kernel
theorem dc106_26 : decode (pm_mb 106) 26 = .ok (.getfield 40, 3) := by decide +kernel
theorem dc106_29 : decode (pm_mb 106) 29 = .ok (.invokevirtual 112, 3) := by decide +kernel
theorem dc106_32 : decode (pm_mb 106) 32 = .ok (.aload_n 0, 1) := by decide +kernel
theorem dc106_33 : decode (pm_mb 106) 33 = .ok (.iload_n 3, 1) := by decide +kernel
theorem dc106_34 : decode (pm_mb 106) 34 = .ok (.invokevirtual 181, 3) := by decide +kernel
theorem dc106_37 : decode (pm_mb 106) 37 = .ok (.aload_n 0, 1) := by decide +kernel
theorem dc106_38 : decode (pm_mb 106) 38 = .ok (.getfield 44, 3) := by decide +kernel
theorem dc106_41 : decode (pm_mb 106) 41 = .ok (.iload_n 1, 1) := by decide +kernel
theorem dc106_42 : decode (pm_mb 106) 42 = .ok (.iload_n 2, 1) := by decide +kernel
theorem dc106_43 : decode (pm_mb 106) 43 = .ok (.invokevirtual 192, 3) := by decide +kernel
theorem dc106_46 : decode (pm_mb 106) 46 = .ok (.ifCond .eq 7, 3) := by decide +kernel
theorem dc106_49 : decode (pm_mb 106) 49 = .ok (.iconst 1, 1) := by decide +kernel
theorem dc106_50 : decode (pm_mb 106) 50 = .ok (.goto 4, 3) := by decide +kernel
theorem dc106_53 : decode (pm_mb 106) 53 = .ok (.iconst 0, 1) := by decide +kernel
theorem dc106_54 : decode (pm_mb 106) 54 = .ok (.ireturn, 1) := by decide +kernel
theorem b106_0 {X : pm_X} {d : Nat} {x1 : Int32} {x2 : Int32} {x3 : Int32} {g : pm_G} {iv : pm_V} (hL : pm_lay g) : pm_at X d 106 (0, [some (.ref 0), some (.int x1), some (.int x2), some (.int x3)], [], g, iv) = pm_then X d 106 6 [some (.ref 0), some (.int x1), some (.int x2), some (.int x3)] [] (pm_c X d 121 [.ref 0, .int x1, .int x2] g iv) := by
  refine (at_aload_n dc106_0 rfl).trans ?_
  refine (at_iload_n dc106_1 rfl).trans ?_
  refine (at_iload_n dc106_2 rfl).trans ?_
  exact at_inv dc106_3 mc106 lm5_189 rfl rfl (Nat.le_of_ble_eq_true rfl) (Or.inl ⟨(ly0 hL), by decide⟩)
theorem b106_6 {X : pm_X} {d : Nat} {x1 : Int32} {x2 : Int32} {x3 : Int32} {s0 : Int32} {g : pm_G} {iv : pm_V}  : pm_at X d 106 (6, [some (.ref 0), some (.int x1), some (.int x2), some (.int x3)], [.int s0], g, iv) = if s0 = 0 then pm_at X d 106 (18, [some (.ref 0), some (.int x1), some (.int x2), some (.int x3)], [], g, iv) else pm_at X d 106 (9, [some (.ref 0), some (.int x1), some (.int x2), some (.int x3)], [], g, iv) := by
  exact at_if_eq (t := 18) dc106_6 (by decide)
theorem b106_9 {X : pm_X} {d : Nat} {x1 : Int32} {x2 : Int32} {x3 : Int32} {g : pm_G} {iv : pm_V}  : pm_at X d 106 (9, [some (.ref 0), some (.int x1), some (.int x2), some (.int x3)], [], g, iv) = pm_then X d 106 15 [some (.ref 0), some (.int x1), some (.int x2), some (.int x3)] [] (pm_c X d 119 [.int x3, .int 40] g iv) := by
  refine (at_iload_n dc106_9 rfl).trans ?_
  refine (at_bipush (v := 40) dc106_10 (by decide)).trans ?_
  exact at_ins dc106_12 mc106 lm5_55 (Nat.le_of_ble_eq_true rfl) rfl rfl (Nat.le_of_ble_eq_true rfl)
theorem b106_15 {X : pm_X} {d : Nat} {x1 : Int32} {x2 : Int32} {x3 : Int32} {s0 : Int32} {g : pm_G} {iv : pm_V}  : pm_at X d 106 (15, [some (.ref 0), some (.int x1), some (.int x2), some (.int x3)], [.int s0], g, iv) = if ¬ s0 = 0 then pm_at X d 106 (21, [some (.ref 0), some (.int x1), some (.int x2), some (.int x3)], [], g, iv) else pm_at X d 106 (18, [some (.ref 0), some (.int x1), some (.int x2), some (.int x3)], [], g, iv) := by
  exact at_if_ne (t := 21) dc106_15 (by decide)
theorem b106_18 {X : pm_X} {d : Nat} {x1 : Int32} {x2 : Int32} {x3 : Int32} {g : pm_G} {iv : pm_V}  : pm_at X d 106 (18, [some (.ref 0), some (.int x1), some (.int x2), some (.int x3)], [], g, iv) = some (some (.int (-1000001)), g, iv) := by
  refine (at_ldc dc106_18 mc106 lk5_59).trans ?_
  exact at_iret dc106_20 mr106
theorem b106_21 {X : pm_X} {d : Nat} {x1 : Int32} {x2 : Int32} {x3 : Int32} {g : pm_G} {iv : pm_V} (hL : pm_lay g) : pm_at X d 106 (21, [some (.ref 0), some (.int x1), some (.int x2), some (.int x3)], [], g, iv) = pm_then X d 106 32 [some (.ref 0), some (.int x1), some (.int x2), some (.int x3)] [] (pm_c X d 52 [.ref 21, .ref 11] g iv) := by
  refine (at_aload_n dc106_21 rfl).trans ?_
  refine (at_gfR dc106_22 mc106 lf5_44 fo5_5 (ly0 hL) (lr0_5 hL)).trans ?_
  refine (at_aload_n dc106_25 rfl).trans ?_
  refine (at_gfR dc106_26 mc106 lf5_40 fo5_4 (ly0 hL) (lr0_4 hL)).trans ?_
  exact at_inv dc106_29 mc106 lm5_112 rfl rfl (Nat.le_of_ble_eq_true rfl) (Or.inl ⟨(ly21 hL), by decide⟩)
theorem b106_32 {X : pm_X} {d : Nat} {x1 : Int32} {x2 : Int32} {x3 : Int32} {g : pm_G} {iv : pm_V} (hL : pm_lay g) : pm_at X d 106 (32, [some (.ref 0), some (.int x1), some (.int x2), some (.int x3)], [], g, iv) = pm_then X d 106 37 [some (.ref 0), some (.int x1), some (.int x2), some (.int x3)] [] (pm_c X d 125 [.ref 0, .int x3] g iv) := by
  refine (at_aload_n dc106_32 rfl).trans ?_
  refine (at_iload_n dc106_33 rfl).trans ?_
  exact at_inv dc106_34 mc106 lm5_181 rfl rfl (Nat.le_of_ble_eq_true rfl) (Or.inl ⟨(ly0 hL), by decide⟩)
theorem b106_37 {X : pm_X} {d : Nat} {x1 : Int32} {x2 : Int32} {x3 : Int32} {g : pm_G} {iv : pm_V} (hL : pm_lay g) : pm_at X d 106 (37, [some (.ref 0), some (.int x1), some (.int x2), some (.int x3)], [], g, iv) = pm_then X d 106 46 [some (.ref 0), some (.int x1), some (.int x2), some (.int x3)] [] (pm_c X d 48 [.ref 21, .int x1, .int x2] g iv) := by
  refine (at_aload_n dc106_37 rfl).trans ?_
  refine (at_gfR dc106_38 mc106 lf5_44 fo5_5 (ly0 hL) (lr0_5 hL)).trans ?_
  refine (at_iload_n dc106_41 rfl).trans ?_
  refine (at_iload_n dc106_42 rfl).trans ?_
  exact at_inv dc106_43 mc106 lm5_192 rfl rfl (Nat.le_of_ble_eq_true rfl) (Or.inl ⟨(ly21 hL), by decide⟩)
theorem b106_46 {X : pm_X} {d : Nat} {x1 : Int32} {x2 : Int32} {x3 : Int32} {s0 : Int32} {g : pm_G} {iv : pm_V}  : pm_at X d 106 (46, [some (.ref 0), some (.int x1), some (.int x2), some (.int x3)], [.int s0], g, iv) = if s0 = 0 then pm_at X d 106 (53, [some (.ref 0), some (.int x1), some (.int x2), some (.int x3)], [], g, iv) else pm_at X d 106 (49, [some (.ref 0), some (.int x1), some (.int x2), some (.int x3)], [], g, iv) := by
  exact at_if_eq (t := 53) dc106_46 (by decide)
theorem b106_49 {X : pm_X} {d : Nat} {x1 : Int32} {x2 : Int32} {x3 : Int32} {g : pm_G} {iv : pm_V}  : pm_at X d 106 (49, [some (.ref 0), some (.int x1), some (.int x2), some (.int x3)], [], g, iv) = pm_at X d 106 (54, [some (.ref 0), some (.int x1), some (.int x2), some (.int x3)], [.int 1], g, iv) := by
  refine (at_iconst (v := 1) dc106_49 rfl).trans ?_
  refine (at_goto (t := 54) dc106_50 (by decide)).trans ?_
  rfl
theorem b106_53 {X : pm_X} {d : Nat} {x1 : Int32} {x2 : Int32} {x3 : Int32} {g : pm_G} {iv : pm_V}  : pm_at X d 106 (53, [some (.ref 0), some (.int x1), some (.int x2), some (.int x3)], [], g, iv) = pm_at X d 106 (54, [some (.ref 0), some (.int x1), some (.int x2), some (.int x3)], [.int 0], g, iv) := by
  refine (at_iconst (v := 0) dc106_53 rfl).trans ?_
  rfl
theorem b106_54 {X : pm_X} {d : Nat} {x1 : Int32} {x2 : Int32} {x3 : Int32} {s0 : Int32} {g : pm_G} {iv : pm_V}  : pm_at X d 106 (54, [some (.ref 0), some (.int x1), some (.int x2), some (.int x3)], [.int s0], g, iv) = some (some (.int s0), g, iv) := by
  exact at_iret dc106_54 mr106
-- HH.meet (IIII)I
theorem dc107_0 : decode (pm_mb 107) 0 = .ok (.aload_n 0, 1) := by decide +kernel
theorem dc107_1 : decode (pm_mb 107) 1 = .ok (.iload_n 1, 1) := by decide +kernel
theorem dc107_2 : decode (pm_mb 107) 2 = .ok (.iload_n 2, 1) := by decide +kernel
theorem dc107_3 : decode (pm_mb 107) 3 = .ok (.invokevirtual 189, 3) := by decide +kernel
theorem dc107_6 : decode (pm_mb 107) 6 = .ok (.ifCond .eq 21, 3) := by decide +kernel
theorem dc107_9 : decode (pm_mb 107) 9 = .ok (.iload_n 3, 1) := by decide +kernel
theorem dc107_10 : decode (pm_mb 107) 10 = .ok (.bipush 20, 2) := by decide +kernel
theorem dc107_12 : decode (pm_mb 107) 12 = .ok (.invokestatic 55, 3) := by decide +kernel
theorem dc107_15 : decode (pm_mb 107) 15 = .ok (.ifCond .eq 12, 3) := by decide +kernel
theorem dc107_18 : decode (pm_mb 107) 18 = .ok (.iload 4, 2) := by decide +kernel
theorem dc107_20 : decode (pm_mb 107) 20 = .ok (.iconst 1, 1) := by decide +kernel
theorem dc107_21 : decode (pm_mb 107) 21 = .ok (.invokestatic 55, 3) := by decide +kernel
theorem dc107_24 : decode (pm_mb 107) 24 = .ok (.ifCond .ne 6, 3) := by decide +kernel
theorem dc107_27 : decode (pm_mb 107) 27 = .ok (.ldc 59, 2) := by decide +kernel
theorem dc107_29 : decode (pm_mb 107) 29 = .ok (.ireturn, 1) := by decide +kernel
theorem dc107_30 : decode (pm_mb 107) 30 = .ok (.iconst 0, 1) := by decide +kernel
theorem dc107_31 : decode (pm_mb 107) 31 = .ok (.istore 5, 2) := by decide +kernel
theorem dc107_33 : decode (pm_mb 107) 33 = .ok (.iload 5, 2) := by decide +kernel
theorem dc107_35 : decode (pm_mb 107) 35 = .ok (.iconst 2, 1) := by decide +kernel
theorem dc107_36 : decode (pm_mb 107) 36 = .ok (.iload_n 3, 1) := by decide +kernel
theorem dc107_37 : decode (pm_mb 107) 37 = .ok (.imul, 1) := by decide +kernel
theorem dc107_38 : decode (pm_mb 107) 38 = .ok (.if_icmp .gt 67, 3) := by decide +kernel
theorem dc107_41 : decode (pm_mb 107) 41 = .ok (.iload 5, 2) := by decide +kernel
theorem dc107_43 : decode (pm_mb 107) 43 = .ok (.iload_n 3, 1) := by decide +kernel
theorem dc107_44 : decode (pm_mb 107) 44 = .ok (.invokestatic 195, 3) := by decide +kernel
theorem dc107_47 : decode (pm_mb 107) 47 = .ok (.istore 6, 2) := by decide +kernel
theorem dc107_49 : decode (pm_mb 107) 49 = .ok (.iload 5, 2) := by decide +kernel
theorem dc107_51 : decode (pm_mb 107) 51 = .ok (.iload 6, 2) := by decide +kernel
theorem dc107_53 : decode (pm_mb 107) 53 = .ok (.isub, 1) := by decide +kernel
theorem dc107_54 : decode (pm_mb 107) 54 = .ok (.istore 7, 2) := by decide +kernel
theorem dc107_56 : decode (pm_mb 107) 56 = .ok (.iload 7, 2) := by decide +kernel
theorem dc107_58 : decode (pm_mb 107) 58 = .ok (.iload 6, 2) := by decide +kernel
theorem dc107_60 : decode (pm_mb 107) 60 = .ok (.if_icmp .gt 39, 3) := by decide +kernel
theorem dc107_63 : decode (pm_mb 107) 63 = .ok (.aload_n 0, 1) := by decide +kernel
theorem dc107_64 : decode (pm_mb 107) 64 = .ok (.iload_n 1, 1) := by decide +kernel
theorem dc107_65 : decode (pm_mb 107) 65 = .ok (.iload 7, 2) := by decide +kernel
theorem dc107_67 : decode (pm_mb 107) 67 = .ok (.iload_n 2, 1) := by decide +kernel
theorem dc107_68 : decode (pm_mb 107) 68 = .ok (.iload 5, 2) := by decide +kernel
theorem dc107_70 : decode (pm_mb 107) 70 = .ok (.iload 7, 2) := by decide +kernel
theorem dc107_72 : decode (pm_mb 107) 72 = .ok (.isub, 1) := by decide +kernel
theorem dc107_73 : decode (pm_mb 107) 73 = .ok (.iload_n 3, 1) := by decide +kernel
theorem dc107_74 : decode (pm_mb 107) 74 = .ok (.invokevirtual 200, 3) := by decide +kernel
theorem dc107_77 : decode (pm_mb 107) 77 = .ok (.ifCond .eq 16, 3) := by decide +kernel
theorem dc107_80 : decode (pm_mb 107) 80 = .ok (.iload 4, 2) := by decide +kernel
theorem dc107_82 : decode (pm_mb 107) 82 = .ok (.ifCond .ne 8, 3) := by decide +kernel
theorem dc107_85 : decode (pm_mb 107) 85 = .ok (.iload 5, 2) := by decide +kernel
theorem dc107_87 : decode (pm_mb 107) 87 = .ok (.goto 5, 3) := by decide +kernel
theorem dc107_90 : decode (pm_mb 107) 90 = .ok (.iload 7, 2) := by decide +kernel
theorem dc107_92 : decode (pm_mb 107) 92 = .ok (.ireturn, 1) := by decide +kernel
theorem dc107_93 : decode (pm_mb 107) 93 = .ok (.iinc 7 1, 3) := by decide +kernel
theorem dc107_96 : decode (pm_mb 107) 96 = .ok (.goto (-40), 3) := by decide +kernel
theorem dc107_99 : decode (pm_mb 107) 99 = .ok (.iinc 5 1, 3) := by decide +kernel
theorem dc107_102 : decode (pm_mb 107) 102 = .ok (.goto (-69), 3) := by decide +kernel
theorem dc107_105 : decode (pm_mb 107) 105 = .ok (.ldc 188, 2) := by decide +kernel
theorem dc107_107 : decode (pm_mb 107) 107 = .ok (.ireturn, 1) := by decide +kernel
theorem b107_0 {X : pm_X} {d : Nat} {x1 : Int32} {x2 : Int32} {x3 : Int32} {x4 : Int32} {g : pm_G} {iv : pm_V} (hL : pm_lay g) : pm_at X d 107 (0, [some (.ref 0), some (.int x1), some (.int x2), some (.int x3), some (.int x4), none, none, none], [], g, iv) = pm_then X d 107 6 [some (.ref 0), some (.int x1), some (.int x2), some (.int x3), some (.int x4), none, none, none] [] (pm_c X d 121 [.ref 0, .int x1, .int x2] g iv) := by
  refine (at_aload_n dc107_0 rfl).trans ?_
  refine (at_iload_n dc107_1 rfl).trans ?_
  refine (at_iload_n dc107_2 rfl).trans ?_
  exact at_inv dc107_3 mc107 lm5_189 rfl rfl (Nat.le_of_ble_eq_true rfl) (Or.inl ⟨(ly0 hL), by decide⟩)
theorem b107_6 {X : pm_X} {d : Nat} {x1 : Int32} {x2 : Int32} {x3 : Int32} {x4 : Int32} {s0 : Int32} {g : pm_G} {iv : pm_V}  : pm_at X d 107 (6, [some (.ref 0), some (.int x1), some (.int x2), some (.int x3), some (.int x4), none, none, none], [.int s0], g, iv) = if s0 = 0 then pm_at X d 107 (27, [some (.ref 0), some (.int x1), some (.int x2), some (.int x3), some (.int x4), none, none, none], [], g, iv) else pm_at X d 107 (9, [some (.ref 0), some (.int x1), some (.int x2), some (.int x3), some (.int x4), none, none, none], [], g, iv) := by
  exact at_if_eq (t := 27) dc107_6 (by decide)
theorem b107_9 {X : pm_X} {d : Nat} {x1 : Int32} {x2 : Int32} {x3 : Int32} {x4 : Int32} {g : pm_G} {iv : pm_V}  : pm_at X d 107 (9, [some (.ref 0), some (.int x1), some (.int x2), some (.int x3), some (.int x4), none, none, none], [], g, iv) = pm_then X d 107 15 [some (.ref 0), some (.int x1), some (.int x2), some (.int x3), some (.int x4), none, none, none] [] (pm_c X d 119 [.int x3, .int 20] g iv) := by
  refine (at_iload_n dc107_9 rfl).trans ?_
  refine (at_bipush (v := 20) dc107_10 (by decide)).trans ?_
  exact at_ins dc107_12 mc107 lm5_55 (Nat.le_of_ble_eq_true rfl) rfl rfl (Nat.le_of_ble_eq_true rfl)
theorem b107_15 {X : pm_X} {d : Nat} {x1 : Int32} {x2 : Int32} {x3 : Int32} {x4 : Int32} {s0 : Int32} {g : pm_G} {iv : pm_V}  : pm_at X d 107 (15, [some (.ref 0), some (.int x1), some (.int x2), some (.int x3), some (.int x4), none, none, none], [.int s0], g, iv) = if s0 = 0 then pm_at X d 107 (27, [some (.ref 0), some (.int x1), some (.int x2), some (.int x3), some (.int x4), none, none, none], [], g, iv) else pm_at X d 107 (18, [some (.ref 0), some (.int x1), some (.int x2), some (.int x3), some (.int x4), none, none, none], [], g, iv) := by
  exact at_if_eq (t := 27) dc107_15 (by decide)
theorem b107_18 {X : pm_X} {d : Nat} {x1 : Int32} {x2 : Int32} {x3 : Int32} {x4 : Int32} {g : pm_G} {iv : pm_V}  : pm_at X d 107 (18, [some (.ref 0), some (.int x1), some (.int x2), some (.int x3), some (.int x4), none, none, none], [], g, iv) = pm_then X d 107 24 [some (.ref 0), some (.int x1), some (.int x2), some (.int x3), some (.int x4), none, none, none] [] (pm_c X d 119 [.int x4, .int 1] g iv) := by
  refine (at_iload dc107_18 rfl).trans ?_
  refine (at_iconst (v := 1) dc107_20 rfl).trans ?_
  exact at_ins dc107_21 mc107 lm5_55 (Nat.le_of_ble_eq_true rfl) rfl rfl (Nat.le_of_ble_eq_true rfl)
theorem b107_24 {X : pm_X} {d : Nat} {x1 : Int32} {x2 : Int32} {x3 : Int32} {x4 : Int32} {s0 : Int32} {g : pm_G} {iv : pm_V}  : pm_at X d 107 (24, [some (.ref 0), some (.int x1), some (.int x2), some (.int x3), some (.int x4), none, none, none], [.int s0], g, iv) = if ¬ s0 = 0 then pm_at X d 107 (30, [some (.ref 0), some (.int x1), some (.int x2), some (.int x3), some (.int x4), none, none, none], [], g, iv) else pm_at X d 107 (27, [some (.ref 0), some (.int x1), some (.int x2), some (.int x3), some (.int x4), none, none, none], [], g, iv) := by
  exact at_if_ne (t := 30) dc107_24 (by decide)
theorem b107_27 {X : pm_X} {d : Nat} {x1 : Int32} {x2 : Int32} {x3 : Int32} {x4 : Int32} {g : pm_G} {iv : pm_V}  : pm_at X d 107 (27, [some (.ref 0), some (.int x1), some (.int x2), some (.int x3), some (.int x4), none, none, none], [], g, iv) = some (some (.int (-1000001)), g, iv) := by
  refine (at_ldc dc107_27 mc107 lk5_59).trans ?_
  exact at_iret dc107_29 mr107
theorem b107_30 {X : pm_X} {d : Nat} {x1 : Int32} {x2 : Int32} {x3 : Int32} {x4 : Int32} {g : pm_G} {iv : pm_V}  : pm_at X d 107 (30, [some (.ref 0), some (.int x1), some (.int x2), some (.int x3), some (.int x4), none, none, none], [], g, iv) = pm_at X d 107 (33, [some (.ref 0), some (.int x1), some (.int x2), some (.int x3), some (.int x4), some (.int 0), none, none], [], g, iv) := by
  refine (at_iconst (v := 0) dc107_30 rfl).trans ?_
  refine (at_istore dc107_31 rfl).trans ?_
  rfl
theorem b107_33 {X : pm_X} {d : Nat} {x1 : Int32} {x2 : Int32} {x3 : Int32} {x4 : Int32} {x5 : Int32} {z6 : Option Value} {z7 : Option Value} {g : pm_G} {iv : pm_V}  : pm_at X d 107 (33, [some (.ref 0), some (.int x1), some (.int x2), some (.int x3), some (.int x4), some (.int x5), z6, z7], [], g, iv) = if (2 * x3) < x5 then pm_at X d 107 (105, [some (.ref 0), some (.int x1), some (.int x2), some (.int x3), some (.int x4), some (.int x5), z6, z7], [], g, iv) else pm_at X d 107 (41, [some (.ref 0), some (.int x1), some (.int x2), some (.int x3), some (.int x4), some (.int x5), z6, z7], [], g, iv) := by
  refine (at_iload dc107_33 rfl).trans ?_
  refine (at_iconst (v := 2) dc107_35 rfl).trans ?_
  refine (at_iload_n dc107_36 rfl).trans ?_
  refine (at_imul dc107_37).trans ?_
  exact at_icmp_gt (t := 105) dc107_38 (by decide)
theorem b107_41 {X : pm_X} {d : Nat} {x1 : Int32} {x2 : Int32} {x3 : Int32} {x4 : Int32} {x5 : Int32} {z6 : Option Value} {z7 : Option Value} {g : pm_G} {iv : pm_V}  : pm_at X d 107 (41, [some (.ref 0), some (.int x1), some (.int x2), some (.int x3), some (.int x4), some (.int x5), z6, z7], [], g, iv) = pm_at X d 107 (56, [some (.ref 0), some (.int x1), some (.int x2), some (.int x3), some (.int x4), some (.int x5), some (.int (if x3 < x5 then x3 else x5)), some (.int (x5 - (if x3 < x5 then x3 else x5)))], [], g, iv) := by
  refine (at_iload dc107_41 rfl).trans ?_
  refine (at_iload_n dc107_43 rfl).trans ?_
  refine (at_mmin dc107_44 mc107 lm5_195 (Nat.le_of_ble_eq_true rfl)).trans ?_
  refine (at_istore dc107_47 rfl).trans ?_
  refine (at_iload dc107_49 rfl).trans ?_
  refine (at_iload dc107_51 rfl).trans ?_
  refine (at_isub dc107_53).trans ?_
  refine (at_istore dc107_54 rfl).trans ?_
  rfl
theorem b107_56 {X : pm_X} {d : Nat} {x1 : Int32} {x2 : Int32} {x3 : Int32} {x4 : Int32} {x5 : Int32} {x6 : Int32} {x7 : Int32} {g : pm_G} {iv : pm_V}  : pm_at X d 107 (56, [some (.ref 0), some (.int x1), some (.int x2), some (.int x3), some (.int x4), some (.int x5), some (.int x6), some (.int x7)], [], g, iv) = if x6 < x7 then pm_at X d 107 (99, [some (.ref 0), some (.int x1), some (.int x2), some (.int x3), some (.int x4), some (.int x5), some (.int x6), some (.int x7)], [], g, iv) else pm_at X d 107 (63, [some (.ref 0), some (.int x1), some (.int x2), some (.int x3), some (.int x4), some (.int x5), some (.int x6), some (.int x7)], [], g, iv) := by
  refine (at_iload dc107_56 rfl).trans ?_
  refine (at_iload dc107_58 rfl).trans ?_
  exact at_icmp_gt (t := 99) dc107_60 (by decide)
theorem b107_63 {X : pm_X} {d : Nat} {x1 : Int32} {x2 : Int32} {x3 : Int32} {x4 : Int32} {x5 : Int32} {x6 : Int32} {x7 : Int32} {g : pm_G} {iv : pm_V} (hL : pm_lay g) : pm_at X d 107 (63, [some (.ref 0), some (.int x1), some (.int x2), some (.int x3), some (.int x4), some (.int x5), some (.int x6), some (.int x7)], [], g, iv) = pm_then X d 107 77 [some (.ref 0), some (.int x1), some (.int x2), some (.int x3), some (.int x4), some (.int x5), some (.int x6), some (.int x7)] [] (pm_c X d 126 [.ref 0, .int x1, .int x7, .int x2, .int (x5 - x7), .int x3] g iv) := by
  refine (at_aload_n dc107_63 rfl).trans ?_
  refine (at_iload_n dc107_64 rfl).trans ?_
  refine (at_iload dc107_65 rfl).trans ?_
  refine (at_iload_n dc107_67 rfl).trans ?_
  refine (at_iload dc107_68 rfl).trans ?_
  refine (at_iload dc107_70 rfl).trans ?_
  refine (at_isub dc107_72).trans ?_
  refine (at_iload_n dc107_73 rfl).trans ?_
  exact at_inv dc107_74 mc107 lm5_200 rfl rfl (Nat.le_of_ble_eq_true rfl) (Or.inl ⟨(ly0 hL), by decide⟩)
theorem b107_77 {X : pm_X} {d : Nat} {x1 : Int32} {x2 : Int32} {x3 : Int32} {x4 : Int32} {x5 : Int32} {x6 : Int32} {x7 : Int32} {s0 : Int32} {g : pm_G} {iv : pm_V}  : pm_at X d 107 (77, [some (.ref 0), some (.int x1), some (.int x2), some (.int x3), some (.int x4), some (.int x5), some (.int x6), some (.int x7)], [.int s0], g, iv) = if s0 = 0 then pm_at X d 107 (93, [some (.ref 0), some (.int x1), some (.int x2), some (.int x3), some (.int x4), some (.int x5), some (.int x6), some (.int x7)], [], g, iv) else pm_at X d 107 (80, [some (.ref 0), some (.int x1), some (.int x2), some (.int x3), some (.int x4), some (.int x5), some (.int x6), some (.int x7)], [], g, iv) := by
  exact at_if_eq (t := 93) dc107_77 (by decide)
theorem b107_80 {X : pm_X} {d : Nat} {x1 : Int32} {x2 : Int32} {x3 : Int32} {x4 : Int32} {x5 : Int32} {x6 : Int32} {x7 : Int32} {g : pm_G} {iv : pm_V}  : pm_at X d 107 (80, [some (.ref 0), some (.int x1), some (.int x2), some (.int x3), some (.int x4), some (.int x5), some (.int x6), some (.int x7)], [], g, iv) = if ¬ x4 = 0 then pm_at X d 107 (90, [some (.ref 0), some (.int x1), some (.int x2), some (.int x3), some (.int x4), some (.int x5), some (.int x6), some (.int x7)], [], g, iv) else pm_at X d 107 (85, [some (.ref 0), some (.int x1), some (.int x2), some (.int x3), some (.int x4), some (.int x5), some (.int x6), some (.int x7)], [], g, iv) := by
  refine (at_iload dc107_80 rfl).trans ?_
  exact at_if_ne (t := 90) dc107_82 (by decide)
theorem b107_85 {X : pm_X} {d : Nat} {x1 : Int32} {x2 : Int32} {x3 : Int32} {x4 : Int32} {x5 : Int32} {x6 : Int32} {x7 : Int32} {g : pm_G} {iv : pm_V}  : pm_at X d 107 (85, [some (.ref 0), some (.int x1), some (.int x2), some (.int x3), some (.int x4), some (.int x5), some (.int x6), some (.int x7)], [], g, iv) = pm_at X d 107 (92, [some (.ref 0), some (.int x1), some (.int x2), some (.int x3), some (.int x4), some (.int x5), some (.int x6), some (.int x7)], [.int x5], g, iv) := by
  refine (at_iload dc107_85 rfl).trans ?_
  refine (at_goto (t := 92) dc107_87 (by decide)).trans ?_
  rfl
theorem b107_90 {X : pm_X} {d : Nat} {x1 : Int32} {x2 : Int32} {x3 : Int32} {x4 : Int32} {x5 : Int32} {x6 : Int32} {x7 : Int32} {g : pm_G} {iv : pm_V}  : pm_at X d 107 (90, [some (.ref 0), some (.int x1), some (.int x2), some (.int x3), some (.int x4), some (.int x5), some (.int x6), some (.int x7)], [], g, iv) = pm_at X d 107 (92, [some (.ref 0), some (.int x1), some (.int x2), some (.int x3), some (.int x4), some (.int x5), some (.int x6), some (.int x7)], [.int x7], g, iv) := by
  refine (at_iload dc107_90 rfl).trans ?_
  rfl
theorem b107_92 {X : pm_X} {d : Nat} {x1 : Int32} {x2 : Int32} {x3 : Int32} {x4 : Int32} {x5 : Int32} {x6 : Int32} {x7 : Int32} {s0 : Int32} {g : pm_G} {iv : pm_V}  : pm_at X d 107 (92, [some (.ref 0), some (.int x1), some (.int x2), some (.int x3), some (.int x4), some (.int x5), some (.int x6), some (.int x7)], [.int s0], g, iv) = some (some (.int s0), g, iv) := by
  exact at_iret dc107_92 mr107
theorem b107_93 {X : pm_X} {d : Nat} {x1 : Int32} {x2 : Int32} {x3 : Int32} {x4 : Int32} {x5 : Int32} {x6 : Int32} {x7 : Int32} {g : pm_G} {iv : pm_V}  : pm_at X d 107 (93, [some (.ref 0), some (.int x1), some (.int x2), some (.int x3), some (.int x4), some (.int x5), some (.int x6), some (.int x7)], [], g, iv) = pm_at X d 107 (56, [some (.ref 0), some (.int x1), some (.int x2), some (.int x3), some (.int x4), some (.int x5), some (.int x6), some (.int (x7 + 1))], [], g, iv) := by
  refine (at_iinc (v := 1) dc107_93 rfl (by decide) rfl).trans ?_
  refine (at_goto (t := 56) dc107_96 (by decide)).trans ?_
  rfl
theorem b107_99 {X : pm_X} {d : Nat} {x1 : Int32} {x2 : Int32} {x3 : Int32} {x4 : Int32} {x5 : Int32} {x6 : Int32} {x7 : Int32} {g : pm_G} {iv : pm_V}  : pm_at X d 107 (99, [some (.ref 0), some (.int x1), some (.int x2), some (.int x3), some (.int x4), some (.int x5), some (.int x6), some (.int x7)], [], g, iv) = pm_at X d 107 (33, [some (.ref 0), some (.int x1), some (.int x2), some (.int x3), some (.int x4), some (.int (x5 + 1)), some (.int x6), some (.int x7)], [], g, iv) := by
  refine (at_iinc (v := 1) dc107_99 rfl (by decide) rfl).trans ?_
  refine (at_goto (t := 33) dc107_102 (by decide)).trans ?_
  rfl
theorem b107_105 {X : pm_X} {d : Nat} {x1 : Int32} {x2 : Int32} {x3 : Int32} {x4 : Int32} {x5 : Int32} {z6 : Option Value} {z7 : Option Value} {g : pm_G} {iv : pm_V}  : pm_at X d 107 (105, [some (.ref 0), some (.int x1), some (.int x2), some (.int x3), some (.int x4), some (.int x5), z6, z7], [], g, iv) = some (some (.int (-1000000)), g, iv) := by
  refine (at_ldc dc107_105 mc107 lk5_188).trans ?_
  exact at_iret dc107_107 mr107
-- HH.street (I)I
theorem dc108_0 : decode (pm_mb 108) 0 = .ok (.aload_n 0, 1) := by decide +kernel
theorem dc108_1 : decode (pm_mb 108) 1 = .ok (.getfield 40, 3) := by decide +kernel
theorem dc108_4 : decode (pm_mb 108) 4 = .ok (.iload_n 1, 1) := by decide +kernel
theorem dc108_5 : decode (pm_mb 108) 5 = .ok (.invokevirtual 139, 3) := by decide +kernel
theorem dc108_8 : decode (pm_mb 108) 8 = .ok (.ifCond .eq 14, 3) := by decide +kernel
theorem dc108_11 : decode (pm_mb 108) 11 = .ok (.aload_n 0, 1) := by decide +kernel
theorem dc108_12 : decode (pm_mb 108) 12 = .ok (.getfield 40, 3) := by decide +kernel
theorem dc108_15 : decode (pm_mb 108) 15 = .ok (.iload_n 1, 1) := by decide +kernel
theorem dc108_16 : decode (pm_mb 108) 16 = .ok (.invokevirtual 204, 3) := by decide +kernel
theorem dc108_19 : decode (pm_mb 108) 19 = .ok (.goto 5, 3) := by decide +kernel
theorem dc108_22 : decode (pm_mb 108) 22 = .ok (.ldc 59, 2) := by decide +kernel
theorem dc108_24 : decode (pm_mb 108) 24 = .ok (.ireturn, 1) := by decide +kernel
theorem b108_0 {X : pm_X} {d : Nat} {x1 : Int32} {g : pm_G} {iv : pm_V} (hL : pm_lay g) : pm_at X d 108 (0, [some (.ref 0), some (.int x1)], [], g, iv) = pm_then X d 108 8 [some (.ref 0), some (.int x1)] [] (pm_c X d 35 [.ref 11, .int x1] g iv) := by
  refine (at_aload_n dc108_0 rfl).trans ?_
  refine (at_gfR dc108_1 mc108 lf5_40 fo5_4 (ly0 hL) (lr0_4 hL)).trans ?_
  refine (at_iload_n dc108_4 rfl).trans ?_
  exact at_inv dc108_5 mc108 lm5_139 rfl rfl (Nat.le_of_ble_eq_true rfl) (Or.inl ⟨(ly11 hL), by decide⟩)
theorem b108_8 {X : pm_X} {d : Nat} {x1 : Int32} {s0 : Int32} {g : pm_G} {iv : pm_V}  : pm_at X d 108 (8, [some (.ref 0), some (.int x1)], [.int s0], g, iv) = if s0 = 0 then pm_at X d 108 (22, [some (.ref 0), some (.int x1)], [], g, iv) else pm_at X d 108 (11, [some (.ref 0), some (.int x1)], [], g, iv) := by
  exact at_if_eq (t := 22) dc108_8 (by decide)
theorem b108_11 {X : pm_X} {d : Nat} {x1 : Int32} {g : pm_G} {iv : pm_V} (hL : pm_lay g) : pm_at X d 108 (11, [some (.ref 0), some (.int x1)], [], g, iv) = pm_then X d 108 19 [some (.ref 0), some (.int x1)] [] (pm_c X d 47 [.ref 11, .int x1] g iv) := by
  refine (at_aload_n dc108_11 rfl).trans ?_
  refine (at_gfR dc108_12 mc108 lf5_40 fo5_4 (ly0 hL) (lr0_4 hL)).trans ?_
  refine (at_iload_n dc108_15 rfl).trans ?_
  exact at_inv dc108_16 mc108 lm5_204 rfl rfl (Nat.le_of_ble_eq_true rfl) (Or.inl ⟨(ly11 hL), by decide⟩)
theorem b108_19 {X : pm_X} {d : Nat} {x1 : Int32} {s0 : Int32} {g : pm_G} {iv : pm_V}  : pm_at X d 108 (19, [some (.ref 0), some (.int x1)], [.int s0], g, iv) = pm_at X d 108 (24, [some (.ref 0), some (.int x1)], [.int s0], g, iv) := by
  refine (at_goto (t := 24) dc108_19 (by decide)).trans ?_
  rfl
theorem b108_22 {X : pm_X} {d : Nat} {x1 : Int32} {g : pm_G} {iv : pm_V}  : pm_at X d 108 (22, [some (.ref 0), some (.int x1)], [], g, iv) = pm_at X d 108 (24, [some (.ref 0), some (.int x1)], [.int (-1000001)], g, iv) := by
  refine (at_ldc dc108_22 mc108 lk5_59).trans ?_
  rfl
theorem b108_24 {X : pm_X} {d : Nat} {x1 : Int32} {s0 : Int32} {g : pm_G} {iv : pm_V}  : pm_at X d 108 (24, [some (.ref 0), some (.int x1)], [.int s0], g, iv) = some (some (.int s0), g, iv) := by
  exact at_iret dc108_24 mr108
-- HH.stood (III)I
theorem dc109_0 : decode (pm_mb 109) 0 = .ok (.aload_n 0, 1) := by decide +kernel
theorem dc109_1 : decode (pm_mb 109) 1 = .ok (.getfield 40, 3) := by decide +kernel
theorem dc109_4 : decode (pm_mb 109) 4 = .ok (.iload_n 1, 1) := by decide +kernel
theorem dc109_5 : decode (pm_mb 109) 5 = .ok (.invokevirtual 139, 3) := by decide +kernel
theorem dc109_8 : decode (pm_mb 109) 8 = .ok (.ifCond .eq 21, 3) := by decide +kernel
theorem dc109_11 : decode (pm_mb 109) 11 = .ok (.iload_n 2, 1) := by decide +kernel
theorem dc109_12 : decode (pm_mb 109) 12 = .ok (.bipush 40, 2) := by decide +kernel
theorem dc109_14 : decode (pm_mb 109) 14 = .ok (.invokestatic 55, 3) := by decide +kernel
theorem dc109_17 : decode (pm_mb 109) 17 = .ok (.ifCond .eq 12, 3) := by decide +kernel
theorem dc109_20 : decode (pm_mb 109) 20 = .ok (.iload_n 3, 1) := by decide +kernel
theorem dc109_21 : decode (pm_mb 109) 21 = .ok (.bipush 40, 2) := by decide +kernel
theorem dc109_23 : decode (pm_mb 109) 23 = .ok (.invokestatic 55, 3) := by decide +kernel
theorem dc109_26 : decode (pm_mb 109) 26 = .ok (.ifCond .ne 6, 3) := by decide +kernel
theorem dc109_29 : decode (pm_mb 109) 29 = .ok (.ldc 59, 2) := by decide +kernel
theorem dc109_31 : decode (pm_mb 109) 31 = .ok (.ireturn, 1) := by decide +kernel
theorem dc109_32 : decode (pm_mb 109) 32 = .ok (.aload_n 0, 1) := by decide +kernel
theorem dc109_33 : decode (pm_mb 109) 33 = .ok (.getfield 44, 3) := by decide +kernel
theorem dc109_36 : decode (pm_mb 109) 36 = .ok (.aload_n 0, 1) := by decide +kernel
theorem dc109_37 : decode (pm_mb 109) 37 = .ok (.getfield 40, 3) := by decide +kernel
theorem dc109_40 : decode (pm_mb 109) 40 = .ok (.invokevirtual 112, 3) := by decide +kernel
theorem dc109_43 : decode (pm_mb 109) 43 = .ok (.aload_n 0, 1) := by decide +kernel
theorem dc109_44 : decode (pm_mb 109) 44 = .ok (.getfield 44, 3) := by decide +kernel
theorem dc109_47 : decode (pm_mb 109) 47 = .ok (.iload_n 1, 1) := by decide +kernel
theorem dc109_48 : decode (pm_mb 109) 48 = .ok (.invokevirtual 207, 3) := by decide +kernel
theorem dc109_51 : decode (pm_mb 109) 51 = .ok (.iconst 0, 1) := by decide +kernel
theorem dc109_52 : decode (pm_mb 109) 52 = .ok (.istore 4, 2) := by decide +kernel
theorem dc109_54 : decode (pm_mb 109) 54 = .ok (.iconst 0, 1) := by decide +kernel
theorem dc109_55 : decode (pm_mb 109) 55 = .ok (.istore 5, 2) := by decide +kernel
theorem dc109_57 : decode (pm_mb 109) 57 = .ok (.iload 5, 2) := by decide +kernel
theorem dc109_59 : decode (pm_mb 109) 59 = .ok (.bipush 20, 2) := by decide +kernel
theorem dc109_61 : decode (pm_mb 109) 61 = .ok (.if_icmp .ge 87, 3) := by decide +kernel
theorem dc109_64 : decode (pm_mb 109) 64 = .ok (.aload_n 0, 1) := by decide +kernel
theorem dc109_65 : decode (pm_mb 109) 65 = .ok (.getfield 40, 3) := by decide +kernel
theorem dc109_68 : decode (pm_mb 109) 68 = .ok (.iload 5, 2) := by decide +kernel
theorem dc109_70 : decode (pm_mb 109) 70 = .ok (.invokevirtual 178, 3) := by decide +kernel
theorem dc109_73 : decode (pm_mb 109) 73 = .ok (.ifCond .eq 75, 3) := by decide +kernel
theorem dc109_76 : decode (pm_mb 109) 76 = .ok (.aload_n 0, 1) := by decide +kernel
theorem dc109_77 : decode (pm_mb 109) 77 = .ok (.getfield 40, 3) := by decide +kernel
theorem dc109_80 : decode (pm_mb 109) 80 = .ok (.aload_n 0, 1) := by decide +kernel
theorem dc109_81 : decode (pm_mb 109) 81 = .ok (.getfield 40, 3) := by decide +kernel
theorem dc109_84 : decode (pm_mb 109) 84 = .ok (.iload_n 1, 1) := by decide +kernel
theorem dc109_85 : decode (pm_mb 109) 85 = .ok (.invokevirtual 162, 3) := by decide +kernel
theorem dc109_88 : decode (pm_mb 109) 88 = .ok (.iload 5, 2) := by decide +kernel
theorem dc109_90 : decode (pm_mb 109) 90 = .ok (.invokevirtual 210, 3) := by decide +kernel
theorem dc109_93 : decode (pm_mb 109) 93 = .ok (.ifCond .eq 6, 3) := by decide +kernel
theorem dc109_96 : decode (pm_mb 109) 96 = .ok (.goto 46, 3) := by decide +kernel
theorem dc109_99 : decode (pm_mb 109) 99 = .ok (.aload_n 0, 1) := by decide +kernel
theorem dc109_100 : decode (pm_mb 109) 100 = .ok (.getfield 44, 3) := by decide +kernel
theorem dc109_103 : decode (pm_mb 109) 103 = .ok (.iload 5, 2) := by decide +kernel
theorem dc109_105 : decode (pm_mb 109) 105 = .ok (.iload_n 2, 1) := by decide +kernel
theorem dc109_106 : decode (pm_mb 109) 106 = .ok (.invokevirtual 213, 3) := by decide +kernel
theorem dc109_109 : decode (pm_mb 109) 109 = .ok (.aload_n 0, 1) := by decide +kernel
theorem dc109_110 : decode (pm_mb 109) 110 = .ok (.iload_n 3, 1) := by decide +kernel
theorem dc109_111 : decode (pm_mb 109) 111 = .ok (.invokevirtual 181, 3) := by decide +kernel
theorem dc109_114 : decode (pm_mb 109) 114 = .ok (.aload_n 0, 1) := by decide +kernel
theorem dc109_115 : decode (pm_mb 109) 115 = .ok (.getfield 44, 3) := by decide +kernel
theorem dc109_118 : decode (pm_mb 109) 118 = .ok (.iconst 0, 1) := by decide +kernel
theorem dc109_119 : decode (pm_mb 109) 119 = .ok (.invokevirtual 163, 3) := by decide +kernel
theorem dc109_122 : decode (pm_mb 109) 122 = .ok (.aload_n 0, 1) := by decide +kernel
theorem dc109_123 : decode (pm_mb 109) 123 = .ok (.getfield 40, 3) := by decide +kernel
theorem dc109_126 : decode (pm_mb 109) 126 = .ok (.iload_n 1, 1) := by decide +kernel
theorem dc109_127 : decode (pm_mb 109) 127 = .ok (.invokevirtual 163, 3) := by decide +kernel
theorem dc109_130 : decode (pm_mb 109) 130 = .ok (.if_icmp .ne 12, 3) := by decide +kernel
theorem dc109_133 : decode (pm_mb 109) 133 = .ok (.iload 4, 2) := by decide +kernel
theorem dc109_135 : decode (pm_mb 109) 135 = .ok (.iconst 1, 1) := by decide +kernel
theorem dc109_136 : decode (pm_mb 109) 136 = .ok (.iload 5, 2) := by decide +kernel
theorem dc109_138 : decode (pm_mb 109) 138 = .ok (.ishl, 1) := by decide +kernel
theorem dc109_139 : decode (pm_mb 109) 139 = .ok (.ior, 1) := by decide +kernel
theorem dc109_140 : decode (pm_mb 109) 140 = .ok (.istore 4, 2) := by decide +kernel
theorem dc109_142 : decode (pm_mb 109) 142 = .ok (.iinc 5 1, 3) := by decide +kernel
theorem dc109_145 : decode (pm_mb 109) 145 = .ok (.goto (-88), 3) := by decide +kernel
theorem dc109_148 : decode (pm_mb 109) 148 = .ok (.iload 4, 2) := by decide +kernel
theorem dc109_150 : decode (pm_mb 109) 150 = .ok (.ireturn, 1) := by decide +kernel
theorem b109_0 {X : pm_X} {d : Nat} {x1 : Int32} {x2 : Int32} {x3 : Int32} {g : pm_G} {iv : pm_V} (hL : pm_lay g) : pm_at X d 109 (0, [some (.ref 0), some (.int x1), some (.int x2), some (.int x3), none, none], [], g, iv) = pm_then X d 109 8 [some (.ref 0), some (.int x1), some (.int x2), some (.int x3), none, none] [] (pm_c X d 35 [.ref 11, .int x1] g iv) := by
  refine (at_aload_n dc109_0 rfl).trans ?_
  refine (at_gfR dc109_1 mc109 lf5_40 fo5_4 (ly0 hL) (lr0_4 hL)).trans ?_
  refine (at_iload_n dc109_4 rfl).trans ?_
  exact at_inv dc109_5 mc109 lm5_139 rfl rfl (Nat.le_of_ble_eq_true rfl) (Or.inl ⟨(ly11 hL), by decide⟩)
theorem b109_8 {X : pm_X} {d : Nat} {x1 : Int32} {x2 : Int32} {x3 : Int32} {s0 : Int32} {g : pm_G} {iv : pm_V}  : pm_at X d 109 (8, [some (.ref 0), some (.int x1), some (.int x2), some (.int x3), none, none], [.int s0], g, iv) = if s0 = 0 then pm_at X d 109 (29, [some (.ref 0), some (.int x1), some (.int x2), some (.int x3), none, none], [], g, iv) else pm_at X d 109 (11, [some (.ref 0), some (.int x1), some (.int x2), some (.int x3), none, none], [], g, iv) := by
  exact at_if_eq (t := 29) dc109_8 (by decide)
theorem b109_11 {X : pm_X} {d : Nat} {x1 : Int32} {x2 : Int32} {x3 : Int32} {g : pm_G} {iv : pm_V}  : pm_at X d 109 (11, [some (.ref 0), some (.int x1), some (.int x2), some (.int x3), none, none], [], g, iv) = pm_then X d 109 17 [some (.ref 0), some (.int x1), some (.int x2), some (.int x3), none, none] [] (pm_c X d 119 [.int x2, .int 40] g iv) := by
  refine (at_iload_n dc109_11 rfl).trans ?_
  refine (at_bipush (v := 40) dc109_12 (by decide)).trans ?_
  exact at_ins dc109_14 mc109 lm5_55 (Nat.le_of_ble_eq_true rfl) rfl rfl (Nat.le_of_ble_eq_true rfl)
theorem b109_17 {X : pm_X} {d : Nat} {x1 : Int32} {x2 : Int32} {x3 : Int32} {s0 : Int32} {g : pm_G} {iv : pm_V}  : pm_at X d 109 (17, [some (.ref 0), some (.int x1), some (.int x2), some (.int x3), none, none], [.int s0], g, iv) = if s0 = 0 then pm_at X d 109 (29, [some (.ref 0), some (.int x1), some (.int x2), some (.int x3), none, none], [], g, iv) else pm_at X d 109 (20, [some (.ref 0), some (.int x1), some (.int x2), some (.int x3), none, none], [], g, iv) := by
  exact at_if_eq (t := 29) dc109_17 (by decide)
theorem b109_20 {X : pm_X} {d : Nat} {x1 : Int32} {x2 : Int32} {x3 : Int32} {g : pm_G} {iv : pm_V}  : pm_at X d 109 (20, [some (.ref 0), some (.int x1), some (.int x2), some (.int x3), none, none], [], g, iv) = pm_then X d 109 26 [some (.ref 0), some (.int x1), some (.int x2), some (.int x3), none, none] [] (pm_c X d 119 [.int x3, .int 40] g iv) := by
  refine (at_iload_n dc109_20 rfl).trans ?_
  refine (at_bipush (v := 40) dc109_21 (by decide)).trans ?_
  exact at_ins dc109_23 mc109 lm5_55 (Nat.le_of_ble_eq_true rfl) rfl rfl (Nat.le_of_ble_eq_true rfl)
theorem b109_26 {X : pm_X} {d : Nat} {x1 : Int32} {x2 : Int32} {x3 : Int32} {s0 : Int32} {g : pm_G} {iv : pm_V}  : pm_at X d 109 (26, [some (.ref 0), some (.int x1), some (.int x2), some (.int x3), none, none], [.int s0], g, iv) = if ¬ s0 = 0 then pm_at X d 109 (32, [some (.ref 0), some (.int x1), some (.int x2), some (.int x3), none, none], [], g, iv) else pm_at X d 109 (29, [some (.ref 0), some (.int x1), some (.int x2), some (.int x3), none, none], [], g, iv) := by
  exact at_if_ne (t := 32) dc109_26 (by decide)
theorem b109_29 {X : pm_X} {d : Nat} {x1 : Int32} {x2 : Int32} {x3 : Int32} {g : pm_G} {iv : pm_V}  : pm_at X d 109 (29, [some (.ref 0), some (.int x1), some (.int x2), some (.int x3), none, none], [], g, iv) = some (some (.int (-1000001)), g, iv) := by
  refine (at_ldc dc109_29 mc109 lk5_59).trans ?_
  exact at_iret dc109_31 mr109
theorem b109_32 {X : pm_X} {d : Nat} {x1 : Int32} {x2 : Int32} {x3 : Int32} {g : pm_G} {iv : pm_V} (hL : pm_lay g) : pm_at X d 109 (32, [some (.ref 0), some (.int x1), some (.int x2), some (.int x3), none, none], [], g, iv) = pm_then X d 109 43 [some (.ref 0), some (.int x1), some (.int x2), some (.int x3), none, none] [] (pm_c X d 52 [.ref 21, .ref 11] g iv) := by
  refine (at_aload_n dc109_32 rfl).trans ?_
  refine (at_gfR dc109_33 mc109 lf5_44 fo5_5 (ly0 hL) (lr0_5 hL)).trans ?_
  refine (at_aload_n dc109_36 rfl).trans ?_
  refine (at_gfR dc109_37 mc109 lf5_40 fo5_4 (ly0 hL) (lr0_4 hL)).trans ?_
  exact at_inv dc109_40 mc109 lm5_112 rfl rfl (Nat.le_of_ble_eq_true rfl) (Or.inl ⟨(ly21 hL), by decide⟩)
theorem b109_43 {X : pm_X} {d : Nat} {x1 : Int32} {x2 : Int32} {x3 : Int32} {g : pm_G} {iv : pm_V} (hL : pm_lay g) : pm_at X d 109 (43, [some (.ref 0), some (.int x1), some (.int x2), some (.int x3), none, none], [], g, iv) = pm_then X d 109 51 [some (.ref 0), some (.int x1), some (.int x2), some (.int x3), none, none] [] (pm_c X d 58 [.ref 21, .int x1] g iv) := by
  refine (at_aload_n dc109_43 rfl).trans ?_
  refine (at_gfR dc109_44 mc109 lf5_44 fo5_5 (ly0 hL) (lr0_5 hL)).trans ?_
  refine (at_iload_n dc109_47 rfl).trans ?_
  exact at_inv dc109_48 mc109 lm5_207 rfl rfl (Nat.le_of_ble_eq_true rfl) (Or.inl ⟨(ly21 hL), by decide⟩)
theorem b109_51 {X : pm_X} {d : Nat} {x1 : Int32} {x2 : Int32} {x3 : Int32} {g : pm_G} {iv : pm_V}  : pm_at X d 109 (51, [some (.ref 0), some (.int x1), some (.int x2), some (.int x3), none, none], [], g, iv) = pm_at X d 109 (57, [some (.ref 0), some (.int x1), some (.int x2), some (.int x3), some (.int 0), some (.int 0)], [], g, iv) := by
  refine (at_iconst (v := 0) dc109_51 rfl).trans ?_
  refine (at_istore dc109_52 rfl).trans ?_
  refine (at_iconst (v := 0) dc109_54 rfl).trans ?_
  refine (at_istore dc109_55 rfl).trans ?_
  rfl
theorem b109_57 {X : pm_X} {d : Nat} {x1 : Int32} {x2 : Int32} {x3 : Int32} {x4 : Int32} {x5 : Int32} {g : pm_G} {iv : pm_V}  : pm_at X d 109 (57, [some (.ref 0), some (.int x1), some (.int x2), some (.int x3), some (.int x4), some (.int x5)], [], g, iv) = if 20 ≤ x5 then pm_at X d 109 (148, [some (.ref 0), some (.int x1), some (.int x2), some (.int x3), some (.int x4), some (.int x5)], [], g, iv) else pm_at X d 109 (64, [some (.ref 0), some (.int x1), some (.int x2), some (.int x3), some (.int x4), some (.int x5)], [], g, iv) := by
  refine (at_iload dc109_57 rfl).trans ?_
  refine (at_bipush (v := 20) dc109_59 (by decide)).trans ?_
  exact at_icmp_ge (t := 148) dc109_61 (by decide)
theorem b109_64 {X : pm_X} {d : Nat} {x1 : Int32} {x2 : Int32} {x3 : Int32} {x4 : Int32} {x5 : Int32} {g : pm_G} {iv : pm_V} (hL : pm_lay g) : pm_at X d 109 (64, [some (.ref 0), some (.int x1), some (.int x2), some (.int x3), some (.int x4), some (.int x5)], [], g, iv) = pm_then X d 109 73 [some (.ref 0), some (.int x1), some (.int x2), some (.int x3), some (.int x4), some (.int x5)] [] (pm_c X d 34 [.ref 11, .int x5] g iv) := by
  refine (at_aload_n dc109_64 rfl).trans ?_
  refine (at_gfR dc109_65 mc109 lf5_40 fo5_4 (ly0 hL) (lr0_4 hL)).trans ?_
  refine (at_iload dc109_68 rfl).trans ?_
  exact at_inv dc109_70 mc109 lm5_178 rfl rfl (Nat.le_of_ble_eq_true rfl) (Or.inl ⟨(ly11 hL), by decide⟩)
theorem b109_73 {X : pm_X} {d : Nat} {x1 : Int32} {x2 : Int32} {x3 : Int32} {x4 : Int32} {x5 : Int32} {s0 : Int32} {g : pm_G} {iv : pm_V}  : pm_at X d 109 (73, [some (.ref 0), some (.int x1), some (.int x2), some (.int x3), some (.int x4), some (.int x5)], [.int s0], g, iv) = if s0 = 0 then pm_at X d 109 (148, [some (.ref 0), some (.int x1), some (.int x2), some (.int x3), some (.int x4), some (.int x5)], [], g, iv) else pm_at X d 109 (76, [some (.ref 0), some (.int x1), some (.int x2), some (.int x3), some (.int x4), some (.int x5)], [], g, iv) := by
  exact at_if_eq (t := 148) dc109_73 (by decide)
theorem b109_76 {X : pm_X} {d : Nat} {x1 : Int32} {x2 : Int32} {x3 : Int32} {x4 : Int32} {x5 : Int32} {g : pm_G} {iv : pm_V} (hL : pm_lay g) : pm_at X d 109 (76, [some (.ref 0), some (.int x1), some (.int x2), some (.int x3), some (.int x4), some (.int x5)], [], g, iv) = pm_then X d 109 88 [some (.ref 0), some (.int x1), some (.int x2), some (.int x3), some (.int x4), some (.int x5)] [.ref 11] (pm_c X d 38 [.ref 11, .int x1] g iv) := by
  refine (at_aload_n dc109_76 rfl).trans ?_
  refine (at_gfR dc109_77 mc109 lf5_40 fo5_4 (ly0 hL) (lr0_4 hL)).trans ?_
  refine (at_aload_n dc109_80 rfl).trans ?_
  refine (at_gfR dc109_81 mc109 lf5_40 fo5_4 (ly0 hL) (lr0_4 hL)).trans ?_
  refine (at_iload_n dc109_84 rfl).trans ?_
  exact at_inv dc109_85 mc109 lm5_162 rfl rfl (Nat.le_of_ble_eq_true rfl) (Or.inl ⟨(ly11 hL), by decide⟩)
theorem b109_88 {X : pm_X} {d : Nat} {x1 : Int32} {x2 : Int32} {x3 : Int32} {x4 : Int32} {x5 : Int32} {s0 : Int32} {g : pm_G} {iv : pm_V} (hL : pm_lay g) : pm_at X d 109 (88, [some (.ref 0), some (.int x1), some (.int x2), some (.int x3), some (.int x4), some (.int x5)], [.int s0, .ref 11], g, iv) = pm_then X d 109 93 [some (.ref 0), some (.int x1), some (.int x2), some (.int x3), some (.int x4), some (.int x5)] [] (pm_c X d 44 [.ref 11, .int s0, .int x5] g iv) := by
  refine (at_iload dc109_88 rfl).trans ?_
  exact at_inv dc109_90 mc109 lm5_210 rfl rfl (Nat.le_of_ble_eq_true rfl) (Or.inl ⟨(ly11 hL), by decide⟩)
theorem b109_93 {X : pm_X} {d : Nat} {x1 : Int32} {x2 : Int32} {x3 : Int32} {x4 : Int32} {x5 : Int32} {s0 : Int32} {g : pm_G} {iv : pm_V}  : pm_at X d 109 (93, [some (.ref 0), some (.int x1), some (.int x2), some (.int x3), some (.int x4), some (.int x5)], [.int s0], g, iv) = if s0 = 0 then pm_at X d 109 (99, [some (.ref 0), some (.int x1), some (.int x2), some (.int x3), some (.int x4), some (.int x5)], [], g, iv) else pm_at X d 109 (96, [some (.ref 0), some (.int x1), some (.int x2), some (.int x3), some (.int x4), some (.int x5)], [], g, iv) := by
  exact at_if_eq (t := 99) dc109_93 (by decide)
theorem b109_96 {X : pm_X} {d : Nat} {x1 : Int32} {x2 : Int32} {x3 : Int32} {x4 : Int32} {x5 : Int32} {g : pm_G} {iv : pm_V}  : pm_at X d 109 (96, [some (.ref 0), some (.int x1), some (.int x2), some (.int x3), some (.int x4), some (.int x5)], [], g, iv) = pm_at X d 109 (142, [some (.ref 0), some (.int x1), some (.int x2), some (.int x3), some (.int x4), some (.int x5)], [], g, iv) := by
  refine (at_goto (t := 142) dc109_96 (by decide)).trans ?_
  rfl
theorem b109_99 {X : pm_X} {d : Nat} {x1 : Int32} {x2 : Int32} {x3 : Int32} {x4 : Int32} {x5 : Int32} {g : pm_G} {iv : pm_V} (hL : pm_lay g) : pm_at X d 109 (99, [some (.ref 0), some (.int x1), some (.int x2), some (.int x3), some (.int x4), some (.int x5)], [], g, iv) = pm_then X d 109 109 [some (.ref 0), some (.int x1), some (.int x2), some (.int x3), some (.int x4), some (.int x5)] [] (pm_c X d 59 [.ref 21, .int x5, .int x2] g iv) := by
  refine (at_aload_n dc109_99 rfl).trans ?_
  refine (at_gfR dc109_100 mc109 lf5_44 fo5_5 (ly0 hL) (lr0_5 hL)).trans ?_
  refine (at_iload dc109_103 rfl).trans ?_
  refine (at_iload_n dc109_105 rfl).trans ?_
  exact at_inv dc109_106 mc109 lm5_213 rfl rfl (Nat.le_of_ble_eq_true rfl) (Or.inl ⟨(ly21 hL), by decide⟩)
theorem b109_109 {X : pm_X} {d : Nat} {x1 : Int32} {x2 : Int32} {x3 : Int32} {x4 : Int32} {x5 : Int32} {g : pm_G} {iv : pm_V} (hL : pm_lay g) : pm_at X d 109 (109, [some (.ref 0), some (.int x1), some (.int x2), some (.int x3), some (.int x4), some (.int x5)], [], g, iv) = pm_then X d 109 114 [some (.ref 0), some (.int x1), some (.int x2), some (.int x3), some (.int x4), some (.int x5)] [] (pm_c X d 125 [.ref 0, .int x3] g iv) := by
  refine (at_aload_n dc109_109 rfl).trans ?_
  refine (at_iload_n dc109_110 rfl).trans ?_
  exact at_inv dc109_111 mc109 lm5_181 rfl rfl (Nat.le_of_ble_eq_true rfl) (Or.inl ⟨(ly0 hL), by decide⟩)
theorem b109_114 {X : pm_X} {d : Nat} {x1 : Int32} {x2 : Int32} {x3 : Int32} {x4 : Int32} {x5 : Int32} {g : pm_G} {iv : pm_V} (hL : pm_lay g) : pm_at X d 109 (114, [some (.ref 0), some (.int x1), some (.int x2), some (.int x3), some (.int x4), some (.int x5)], [], g, iv) = pm_then X d 109 122 [some (.ref 0), some (.int x1), some (.int x2), some (.int x3), some (.int x4), some (.int x5)] [] (pm_c X d 39 [.ref 21, .int 0] g iv) := by
  refine (at_aload_n dc109_114 rfl).trans ?_
  refine (at_gfR dc109_115 mc109 lf5_44 fo5_5 (ly0 hL) (lr0_5 hL)).trans ?_
  refine (at_iconst (v := 0) dc109_118 rfl).trans ?_
  exact at_inv dc109_119 mc109 lm5_163 rfl rfl (Nat.le_of_ble_eq_true rfl) (Or.inl ⟨(ly21 hL), by decide⟩)
theorem b109_122 {X : pm_X} {d : Nat} {x1 : Int32} {x2 : Int32} {x3 : Int32} {x4 : Int32} {x5 : Int32} {s0 : Int32} {g : pm_G} {iv : pm_V} (hL : pm_lay g) : pm_at X d 109 (122, [some (.ref 0), some (.int x1), some (.int x2), some (.int x3), some (.int x4), some (.int x5)], [.int s0], g, iv) = pm_then X d 109 130 [some (.ref 0), some (.int x1), some (.int x2), some (.int x3), some (.int x4), some (.int x5)] [.int s0] (pm_c X d 39 [.ref 11, .int x1] g iv) := by
  refine (at_aload_n dc109_122 rfl).trans ?_
  refine (at_gfR dc109_123 mc109 lf5_40 fo5_4 (ly0 hL) (lr0_4 hL)).trans ?_
  refine (at_iload_n dc109_126 rfl).trans ?_
  exact at_inv dc109_127 mc109 lm5_163 rfl rfl (Nat.le_of_ble_eq_true rfl) (Or.inl ⟨(ly11 hL), by decide⟩)
theorem b109_130 {X : pm_X} {d : Nat} {x1 : Int32} {x2 : Int32} {x3 : Int32} {x4 : Int32} {x5 : Int32} {s0 : Int32} {s1 : Int32} {g : pm_G} {iv : pm_V}  : pm_at X d 109 (130, [some (.ref 0), some (.int x1), some (.int x2), some (.int x3), some (.int x4), some (.int x5)], [.int s0, .int s1], g, iv) = if ¬ s1 = s0 then pm_at X d 109 (142, [some (.ref 0), some (.int x1), some (.int x2), some (.int x3), some (.int x4), some (.int x5)], [], g, iv) else pm_at X d 109 (133, [some (.ref 0), some (.int x1), some (.int x2), some (.int x3), some (.int x4), some (.int x5)], [], g, iv) := by
  exact at_icmp_ne (t := 142) dc109_130 (by decide)
theorem b109_133 {X : pm_X} {d : Nat} {x1 : Int32} {x2 : Int32} {x3 : Int32} {x4 : Int32} {x5 : Int32} {g : pm_G} {iv : pm_V}  : pm_at X d 109 (133, [some (.ref 0), some (.int x1), some (.int x2), some (.int x3), some (.int x4), some (.int x5)], [], g, iv) = pm_at X d 109 (142, [some (.ref 0), some (.int x1), some (.int x2), some (.int x3), some (.int (x4 ||| (1 <<< (x5 &&& 31)))), some (.int x5)], [], g, iv) := by
  refine (at_iload dc109_133 rfl).trans ?_
  refine (at_iconst (v := 1) dc109_135 rfl).trans ?_
  refine (at_iload dc109_136 rfl).trans ?_
  refine (at_ishl dc109_138).trans ?_
  refine (at_ior dc109_139).trans ?_
  refine (at_istore dc109_140 rfl).trans ?_
  rfl
theorem b109_142 {X : pm_X} {d : Nat} {x1 : Int32} {x2 : Int32} {x3 : Int32} {x4 : Int32} {x5 : Int32} {g : pm_G} {iv : pm_V}  : pm_at X d 109 (142, [some (.ref 0), some (.int x1), some (.int x2), some (.int x3), some (.int x4), some (.int x5)], [], g, iv) = pm_at X d 109 (57, [some (.ref 0), some (.int x1), some (.int x2), some (.int x3), some (.int x4), some (.int (x5 + 1))], [], g, iv) := by
  refine (at_iinc (v := 1) dc109_142 rfl (by decide) rfl).trans ?_
  refine (at_goto (t := 57) dc109_145 (by decide)).trans ?_
  rfl
theorem b109_148 {X : pm_X} {d : Nat} {x1 : Int32} {x2 : Int32} {x3 : Int32} {x4 : Int32} {x5 : Int32} {g : pm_G} {iv : pm_V}  : pm_at X d 109 (148, [some (.ref 0), some (.int x1), some (.int x2), some (.int x3), some (.int x4), some (.int x5)], [], g, iv) = some (some (.int x4), g, iv) := by
  refine (at_iload dc109_148 rfl).trans ?_
  exact at_iret dc109_150 mr109
-- HH.stolen (I)I
theorem dc110_0 : decode (pm_mb 110) 0 = .ok (.aload_n 0, 1) := by decide +kernel
theorem dc110_1 : decode (pm_mb 110) 1 = .ok (.getfield 40, 3) := by decide +kernel
theorem dc110_4 : decode (pm_mb 110) 4 = .ok (.invokevirtual 125, 3) := by decide +kernel
theorem dc110_7 : decode (pm_mb 110) 7 = .ok (.ifCond .ne 6, 3) := by decide +kernel
theorem dc110_10 : decode (pm_mb 110) 10 = .ok (.ldc 129, 2) := by decide +kernel
theorem dc110_12 : decode (pm_mb 110) 12 = .ok (.ireturn, 1) := by decide +kernel
theorem dc110_13 : decode (pm_mb 110) 13 = .ok (.iload_n 1, 1) := by decide +kernel
theorem dc110_14 : decode (pm_mb 110) 14 = .ok (.invokestatic 51, 3) := by decide +kernel
theorem dc110_17 : decode (pm_mb 110) 17 = .ok (.ifCond .ne 6, 3) := by decide +kernel
theorem dc110_20 : decode (pm_mb 110) 20 = .ok (.ldc 59, 2) := by decide +kernel
theorem dc110_22 : decode (pm_mb 110) 22 = .ok (.ireturn, 1) := by decide +kernel
theorem dc110_23 : decode (pm_mb 110) 23 = .ok (.aload_n 0, 1) := by decide +kernel
theorem dc110_24 : decode (pm_mb 110) 24 = .ok (.getfield 10, 3) := by decide +kernel
theorem dc110_27 : decode (pm_mb 110) 27 = .ok (.iload_n 1, 1) := by decide +kernel
theorem dc110_28 : decode (pm_mb 110) 28 = .ok (.invokevirtual 71, 3) := by decide +kernel
theorem dc110_31 : decode (pm_mb 110) 31 = .ok (.ifCond .eq 9, 3) := by decide +kernel
theorem dc110_34 : decode (pm_mb 110) 34 = .ok (.aload_n 0, 1) := by decide +kernel
theorem dc110_35 : decode (pm_mb 110) 35 = .ok (.iconst 1, 1) := by decide +kernel
theorem dc110_36 : decode (pm_mb 110) 36 = .ok (.invokevirtual 60, 3) := by decide +kernel
theorem dc110_39 : decode (pm_mb 110) 39 = .ok (.ireturn, 1) := by decide +kernel
theorem dc110_40 : decode (pm_mb 110) 40 = .ok (.aload_n 0, 1) := by decide +kernel
theorem dc110_41 : decode (pm_mb 110) 41 = .ok (.getfield 10, 3) := by decide +kernel
theorem dc110_44 : decode (pm_mb 110) 44 = .ok (.iload_n 1, 1) := by decide +kernel
theorem dc110_45 : decode (pm_mb 110) 45 = .ok (.iconst 0, 1) := by decide +kernel
theorem dc110_46 : decode (pm_mb 110) 46 = .ok (.aload_n 0, 1) := by decide +kernel
theorem dc110_47 : decode (pm_mb 110) 47 = .ok (.getfield 40, 3) := by decide +kernel
theorem dc110_50 : decode (pm_mb 110) 50 = .ok (.invokevirtual 119, 3) := by decide +kernel
theorem dc110_53 : decode (pm_mb 110) 53 = .ok (.invokevirtual 74, 3) := by decide +kernel
theorem dc110_56 : decode (pm_mb 110) 56 = .ok (.ifCond .ne 9, 3) := by decide +kernel
theorem dc110_59 : decode (pm_mb 110) 59 = .ok (.aload_n 0, 1) := by decide +kernel
theorem dc110_60 : decode (pm_mb 110) 60 = .ok (.iconst 2, 1) := by decide +kernel
theorem dc110_61 : decode (pm_mb 110) 61 = .ok (.invokevirtual 60, 3) := by decide +kernel
theorem dc110_64 : decode (pm_mb 110) 64 = .ok (.ireturn, 1) := by decide +kernel
theorem dc110_65 : decode (pm_mb 110) 65 = .ok (.iconst 0, 1) := by decide +kernel
theorem dc110_66 : decode (pm_mb 110) 66 = .ok (.istore_n 2, 1) := by decide +kernel
theorem dc110_67 : decode (pm_mb 110) 67 = .ok (.iload_n 2, 1) := by decide +kernel
theorem dc110_68 : decode (pm_mb 110) 68 = .ok (.aload_n 0, 1) := by decide +kernel
theorem dc110_69 : decode (pm_mb 110) 69 = .ok (.getfield 40, 3) := by decide +kernel
theorem dc110_72 : decode (pm_mb 110) 72 = .ok (.invokevirtual 119, 3) := by decide +kernel
theorem dc110_75 : decode (pm_mb 110) 75 = .ok (.if_icmp .ge 31, 3) := by decide +kernel
theorem dc110_78 : decode (pm_mb 110) 78 = .ok (.aload_n 0, 1) := by decide +kernel
theorem dc110_79 : decode (pm_mb 110) 79 = .ok (.getfield 40, 3) := by decide +kernel
theorem dc110_82 : decode (pm_mb 110) 82 = .ok (.aload_n 0, 1) := by decide +kernel
theorem dc110_83 : decode (pm_mb 110) 83 = .ok (.getfield 10, 3) := by decide +kernel
theorem dc110_86 : decode (pm_mb 110) 86 = .ok (.iload_n 1, 1) := by decide +kernel
theorem dc110_87 : decode (pm_mb 110) 87 = .ok (.iload_n 2, 1) := by decide +kernel
theorem dc110_88 : decode (pm_mb 110) 88 = .ok (.invokevirtual 155, 3) := by decide +kernel
theorem dc110_91 : decode (pm_mb 110) 91 = .ok (.invokevirtual 178, 3) := by decide +kernel
theorem dc110_94 : decode (pm_mb 110) 94 = .ok (.ifCond .ne 6, 3) := by decide +kernel
theorem dc110_97 : decode (pm_mb 110) 97 = .ok (.ldc 59, 2) := by decide +kernel
theorem dc110_99 : decode (pm_mb 110) 99 = .ok (.ireturn, 1) := by decide +kernel
theorem dc110_100 : decode (pm_mb 110) 100 = .ok (.iinc 2 1, 3) := by decide +kernel
theorem dc110_103 : decode (pm_mb 110) 103 = .ok (.goto (-36), 3) := by decide +kernel
theorem dc110_106 : decode (pm_mb 110) 106 = .ok (.iconst 0, 1) := by decide +kernel
theorem dc110_107 : decode (pm_mb 110) 107 = .ok (.istore_n 2, 1) := by decide +kernel
theorem dc110_108 : decode (pm_mb 110) 108 = .ok (.iload_n 2, 1) := by decide +kernel
theorem dc110_109 : decode (pm_mb 110) 109 = .ok (.bipush 64, 2) := by decide +kernel
theorem dc110_111 : decode (pm_mb 110) 111 = .ok (.if_icmp .ge 35, 3) := by decide +kernel
theorem dc110_114 : decode (pm_mb 110) 114 = .ok (.aload_n 0, 1) := by decide +kernel
theorem dc110_115 : decode (pm_mb 110) 115 = .ok (.getfield 40, 3) := by decide +kernel
theorem dc110_118 : decode (pm_mb 110) 118 = .ok (.iload_n 2, 1) := by decide +kernel
theorem dc110_119 : decode (pm_mb 110) 119 = .ok (.invokevirtual 217, 3) := by decide +kernel
theorem dc110_122 : decode (pm_mb 110) 122 = .ok (.ifCond .eq 18, 3) := by decide +kernel
theorem dc110_125 : decode (pm_mb 110) 125 = .ok (.aload_n 0, 1) := by decide +kernel
theorem dc110_126 : decode (pm_mb 110) 126 = .ok (.iload_n 1, 1) := by decide +kernel
theorem dc110_127 : decode (pm_mb 110) 127 = .ok (.iload_n 2, 1) := by decide +kernel
theorem dc110_128 : decode (pm_mb 110) 128 = .ok (.invokevirtual 220, 3) := by decide +kernel
theorem dc110_131 : decode (pm_mb 110) 131 = .ok (.ifCond .eq 9, 3) := by decide +kernel
theorem dc110_134 : decode (pm_mb 110) 134 = .ok (.aload_n 0, 1) := by decide +kernel
theorem dc110_135 : decode (pm_mb 110) 135 = .ok (.iload_n 2, 1) := by decide +kernel
theorem dc110_136 : decode (pm_mb 110) 136 = .ok (.invokevirtual 68, 3) := by decide +kernel
theorem dc110_139 : decode (pm_mb 110) 139 = .ok (.ireturn, 1) := by decide +kernel
theorem dc110_140 : decode (pm_mb 110) 140 = .ok (.iinc 2 1, 3) := by decide +kernel
theorem dc110_143 : decode (pm_mb 110) 143 = .ok (.goto (-35), 3) := by decide +kernel
theorem dc110_146 : decode (pm_mb 110) 146 = .ok (.aload_n 0, 1) := by decide +kernel
theorem dc110_147 : decode (pm_mb 110) 147 = .ok (.ldc 188, 2) := by decide +kernel
theorem dc110_149 : decode (pm_mb 110) 149 = .ok (.invokevirtual 68, 3) := by decide +kernel
theorem dc110_152 : decode (pm_mb 110) 152 = .ok (.ireturn, 1) := by decide +kernel
theorem b110_0 {X : pm_X} {d : Nat} {x1 : Int32} {g : pm_G} {iv : pm_V} (hL : pm_lay g) : pm_at X d 110 (0, [some (.ref 0), some (.int x1), none], [], g, iv) = pm_then X d 110 7 [some (.ref 0), some (.int x1), none] [] (pm_c X d 26 [.ref 11] g iv) := by
  refine (at_aload_n dc110_0 rfl).trans ?_
  refine (at_gfR dc110_1 mc110 lf5_40 fo5_4 (ly0 hL) (lr0_4 hL)).trans ?_
  exact at_inv dc110_4 mc110 lm5_125 rfl rfl (Nat.le_of_ble_eq_true rfl) (Or.inl ⟨(ly11 hL), by decide⟩)
theorem b110_7 {X : pm_X} {d : Nat} {x1 : Int32} {s0 : Int32} {g : pm_G} {iv : pm_V}  : pm_at X d 110 (7, [some (.ref 0), some (.int x1), none], [.int s0], g, iv) = if ¬ s0 = 0 then pm_at X d 110 (13, [some (.ref 0), some (.int x1), none], [], g, iv) else pm_at X d 110 (10, [some (.ref 0), some (.int x1), none], [], g, iv) := by
  exact at_if_ne (t := 13) dc110_7 (by decide)
theorem b110_10 {X : pm_X} {d : Nat} {x1 : Int32} {g : pm_G} {iv : pm_V}  : pm_at X d 110 (10, [some (.ref 0), some (.int x1), none], [], g, iv) = some (some (.int (-1000002)), g, iv) := by
  refine (at_ldc dc110_10 mc110 lk5_129).trans ?_
  exact at_iret dc110_12 mr110
theorem b110_13 {X : pm_X} {d : Nat} {x1 : Int32} {g : pm_G} {iv : pm_V}  : pm_at X d 110 (13, [some (.ref 0), some (.int x1), none], [], g, iv) = pm_then X d 110 17 [some (.ref 0), some (.int x1), none] [] (pm_c X d 120 [.int x1] g iv) := by
  refine (at_iload_n dc110_13 rfl).trans ?_
  exact at_ins dc110_14 mc110 lm5_51 (Nat.le_of_ble_eq_true rfl) rfl rfl (Nat.le_of_ble_eq_true rfl)
theorem b110_17 {X : pm_X} {d : Nat} {x1 : Int32} {s0 : Int32} {g : pm_G} {iv : pm_V}  : pm_at X d 110 (17, [some (.ref 0), some (.int x1), none], [.int s0], g, iv) = if ¬ s0 = 0 then pm_at X d 110 (23, [some (.ref 0), some (.int x1), none], [], g, iv) else pm_at X d 110 (20, [some (.ref 0), some (.int x1), none], [], g, iv) := by
  exact at_if_ne (t := 23) dc110_17 (by decide)
theorem b110_20 {X : pm_X} {d : Nat} {x1 : Int32} {g : pm_G} {iv : pm_V}  : pm_at X d 110 (20, [some (.ref 0), some (.int x1), none], [], g, iv) = some (some (.int (-1000001)), g, iv) := by
  refine (at_ldc dc110_20 mc110 lk5_59).trans ?_
  exact at_iret dc110_22 mr110
theorem b110_23 {X : pm_X} {d : Nat} {x1 : Int32} {g : pm_G} {iv : pm_V} (hL : pm_lay g) : pm_at X d 110 (23, [some (.ref 0), some (.int x1), none], [], g, iv) = pm_then X d 110 31 [some (.ref 0), some (.int x1), none] [] (pm_c X d 15 [.ref 1, .int x1] g iv) := by
  refine (at_aload_n dc110_23 rfl).trans ?_
  refine (at_gfR dc110_24 mc110 lf5_10 fo5_0 (ly0 hL) (lr0_0 hL)).trans ?_
  refine (at_iload_n dc110_27 rfl).trans ?_
  exact at_inv dc110_28 mc110 lm5_71 rfl rfl (Nat.le_of_ble_eq_true rfl) (Or.inl ⟨(ly1 hL), by decide⟩)
theorem b110_31 {X : pm_X} {d : Nat} {x1 : Int32} {s0 : Int32} {g : pm_G} {iv : pm_V}  : pm_at X d 110 (31, [some (.ref 0), some (.int x1), none], [.int s0], g, iv) = if s0 = 0 then pm_at X d 110 (40, [some (.ref 0), some (.int x1), none], [], g, iv) else pm_at X d 110 (34, [some (.ref 0), some (.int x1), none], [], g, iv) := by
  exact at_if_eq (t := 40) dc110_31 (by decide)
theorem b110_34 {X : pm_X} {d : Nat} {x1 : Int32} {g : pm_G} {iv : pm_V} (hL : pm_lay g) : pm_at X d 110 (34, [some (.ref 0), some (.int x1), none], [], g, iv) = pm_then X d 110 39 [some (.ref 0), some (.int x1), none] [] (pm_c X d 122 [.ref 0, .int 1] g iv) := by
  refine (at_aload_n dc110_34 rfl).trans ?_
  refine (at_iconst (v := 1) dc110_35 rfl).trans ?_
  exact at_inv dc110_36 mc110 lm5_60 rfl rfl (Nat.le_of_ble_eq_true rfl) (Or.inl ⟨(ly0 hL), by decide⟩)
theorem b110_39 {X : pm_X} {d : Nat} {x1 : Int32} {s0 : Int32} {g : pm_G} {iv : pm_V}  : pm_at X d 110 (39, [some (.ref 0), some (.int x1), none], [.int s0], g, iv) = some (some (.int s0), g, iv) := by
  exact at_iret dc110_39 mr110
theorem b110_40 {X : pm_X} {d : Nat} {x1 : Int32} {g : pm_G} {iv : pm_V} (hL : pm_lay g) : pm_at X d 110 (40, [some (.ref 0), some (.int x1), none], [], g, iv) = pm_then X d 110 53 [some (.ref 0), some (.int x1), none] [.int 0, .int x1, .ref 1] (pm_c X d 29 [.ref 11] g iv) := by
  refine (at_aload_n dc110_40 rfl).trans ?_
  refine (at_gfR dc110_41 mc110 lf5_10 fo5_0 (ly0 hL) (lr0_0 hL)).trans ?_
  refine (at_iload_n dc110_44 rfl).trans ?_
  refine (at_iconst (v := 0) dc110_45 rfl).trans ?_
  refine (at_aload_n dc110_46 rfl).trans ?_
  refine (at_gfR dc110_47 mc110 lf5_40 fo5_4 (ly0 hL) (lr0_4 hL)).trans ?_
  exact at_inv dc110_50 mc110 lm5_119 rfl rfl (Nat.le_of_ble_eq_true rfl) (Or.inl ⟨(ly11 hL), by decide⟩)
theorem b110_53 {X : pm_X} {d : Nat} {x1 : Int32} {s0 : Int32} {s1 : Int32} {s2 : Int32} {g : pm_G} {iv : pm_V} (hL : pm_lay g) : pm_at X d 110 (53, [some (.ref 0), some (.int x1), none], [.int s0, .int s1, .int s2, .ref 1], g, iv) = pm_then X d 110 56 [some (.ref 0), some (.int x1), none] [] (pm_c X d 16 [.ref 1, .int s2, .int s1, .int s0] g iv) := by
  exact at_inv dc110_53 mc110 lm5_74 rfl rfl (Nat.le_of_ble_eq_true rfl) (Or.inl ⟨(ly1 hL), by decide⟩)
theorem b110_56 {X : pm_X} {d : Nat} {x1 : Int32} {s0 : Int32} {g : pm_G} {iv : pm_V}  : pm_at X d 110 (56, [some (.ref 0), some (.int x1), none], [.int s0], g, iv) = if ¬ s0 = 0 then pm_at X d 110 (65, [some (.ref 0), some (.int x1), none], [], g, iv) else pm_at X d 110 (59, [some (.ref 0), some (.int x1), none], [], g, iv) := by
  exact at_if_ne (t := 65) dc110_56 (by decide)
theorem b110_59 {X : pm_X} {d : Nat} {x1 : Int32} {g : pm_G} {iv : pm_V} (hL : pm_lay g) : pm_at X d 110 (59, [some (.ref 0), some (.int x1), none], [], g, iv) = pm_then X d 110 64 [some (.ref 0), some (.int x1), none] [] (pm_c X d 122 [.ref 0, .int 2] g iv) := by
  refine (at_aload_n dc110_59 rfl).trans ?_
  refine (at_iconst (v := 2) dc110_60 rfl).trans ?_
  exact at_inv dc110_61 mc110 lm5_60 rfl rfl (Nat.le_of_ble_eq_true rfl) (Or.inl ⟨(ly0 hL), by decide⟩)
theorem b110_64 {X : pm_X} {d : Nat} {x1 : Int32} {s0 : Int32} {g : pm_G} {iv : pm_V}  : pm_at X d 110 (64, [some (.ref 0), some (.int x1), none], [.int s0], g, iv) = some (some (.int s0), g, iv) := by
  exact at_iret dc110_64 mr110
theorem b110_65 {X : pm_X} {d : Nat} {x1 : Int32} {g : pm_G} {iv : pm_V}  : pm_at X d 110 (65, [some (.ref 0), some (.int x1), none], [], g, iv) = pm_at X d 110 (67, [some (.ref 0), some (.int x1), some (.int 0)], [], g, iv) := by
  refine (at_iconst (v := 0) dc110_65 rfl).trans ?_
  refine (at_istore_n dc110_66 rfl).trans ?_
  rfl
theorem b110_67 {X : pm_X} {d : Nat} {x1 : Int32} {x2 : Int32} {g : pm_G} {iv : pm_V} (hL : pm_lay g) : pm_at X d 110 (67, [some (.ref 0), some (.int x1), some (.int x2)], [], g, iv) = pm_then X d 110 75 [some (.ref 0), some (.int x1), some (.int x2)] [.int x2] (pm_c X d 29 [.ref 11] g iv) := by
  refine (at_iload_n dc110_67 rfl).trans ?_
  refine (at_aload_n dc110_68 rfl).trans ?_
  refine (at_gfR dc110_69 mc110 lf5_40 fo5_4 (ly0 hL) (lr0_4 hL)).trans ?_
  exact at_inv dc110_72 mc110 lm5_119 rfl rfl (Nat.le_of_ble_eq_true rfl) (Or.inl ⟨(ly11 hL), by decide⟩)
theorem b110_75 {X : pm_X} {d : Nat} {x1 : Int32} {x2 : Int32} {s0 : Int32} {s1 : Int32} {g : pm_G} {iv : pm_V}  : pm_at X d 110 (75, [some (.ref 0), some (.int x1), some (.int x2)], [.int s0, .int s1], g, iv) = if s0 ≤ s1 then pm_at X d 110 (106, [some (.ref 0), some (.int x1), some (.int x2)], [], g, iv) else pm_at X d 110 (78, [some (.ref 0), some (.int x1), some (.int x2)], [], g, iv) := by
  exact at_icmp_ge (t := 106) dc110_75 (by decide)
theorem b110_78 {X : pm_X} {d : Nat} {x1 : Int32} {x2 : Int32} {g : pm_G} {iv : pm_V} (hL : pm_lay g) : pm_at X d 110 (78, [some (.ref 0), some (.int x1), some (.int x2)], [], g, iv) = pm_then X d 110 91 [some (.ref 0), some (.int x1), some (.int x2)] [.ref 11] (pm_c X d 18 [.ref 1, .int x1, .int x2] g iv) := by
  refine (at_aload_n dc110_78 rfl).trans ?_
  refine (at_gfR dc110_79 mc110 lf5_40 fo5_4 (ly0 hL) (lr0_4 hL)).trans ?_
  refine (at_aload_n dc110_82 rfl).trans ?_
  refine (at_gfR dc110_83 mc110 lf5_10 fo5_0 (ly0 hL) (lr0_0 hL)).trans ?_
  refine (at_iload_n dc110_86 rfl).trans ?_
  refine (at_iload_n dc110_87 rfl).trans ?_
  exact at_inv dc110_88 mc110 lm5_155 rfl rfl (Nat.le_of_ble_eq_true rfl) (Or.inl ⟨(ly1 hL), by decide⟩)
theorem b110_91 {X : pm_X} {d : Nat} {x1 : Int32} {x2 : Int32} {s0 : Int32} {g : pm_G} {iv : pm_V} (hL : pm_lay g) : pm_at X d 110 (91, [some (.ref 0), some (.int x1), some (.int x2)], [.int s0, .ref 11], g, iv) = pm_then X d 110 94 [some (.ref 0), some (.int x1), some (.int x2)] [] (pm_c X d 34 [.ref 11, .int s0] g iv) := by
  exact at_inv dc110_91 mc110 lm5_178 rfl rfl (Nat.le_of_ble_eq_true rfl) (Or.inl ⟨(ly11 hL), by decide⟩)
theorem b110_94 {X : pm_X} {d : Nat} {x1 : Int32} {x2 : Int32} {s0 : Int32} {g : pm_G} {iv : pm_V}  : pm_at X d 110 (94, [some (.ref 0), some (.int x1), some (.int x2)], [.int s0], g, iv) = if ¬ s0 = 0 then pm_at X d 110 (100, [some (.ref 0), some (.int x1), some (.int x2)], [], g, iv) else pm_at X d 110 (97, [some (.ref 0), some (.int x1), some (.int x2)], [], g, iv) := by
  exact at_if_ne (t := 100) dc110_94 (by decide)
theorem b110_97 {X : pm_X} {d : Nat} {x1 : Int32} {x2 : Int32} {g : pm_G} {iv : pm_V}  : pm_at X d 110 (97, [some (.ref 0), some (.int x1), some (.int x2)], [], g, iv) = some (some (.int (-1000001)), g, iv) := by
  refine (at_ldc dc110_97 mc110 lk5_59).trans ?_
  exact at_iret dc110_99 mr110
theorem b110_100 {X : pm_X} {d : Nat} {x1 : Int32} {x2 : Int32} {g : pm_G} {iv : pm_V}  : pm_at X d 110 (100, [some (.ref 0), some (.int x1), some (.int x2)], [], g, iv) = pm_at X d 110 (67, [some (.ref 0), some (.int x1), some (.int (x2 + 1))], [], g, iv) := by
  refine (at_iinc (v := 1) dc110_100 rfl (by decide) rfl).trans ?_
  refine (at_goto (t := 67) dc110_103 (by decide)).trans ?_
  rfl
theorem b110_106 {X : pm_X} {d : Nat} {x1 : Int32} {x2 : Int32} {g : pm_G} {iv : pm_V}  : pm_at X d 110 (106, [some (.ref 0), some (.int x1), some (.int x2)], [], g, iv) = pm_at X d 110 (108, [some (.ref 0), some (.int x1), some (.int 0)], [], g, iv) := by
  refine (at_iconst (v := 0) dc110_106 rfl).trans ?_
  refine (at_istore_n dc110_107 rfl).trans ?_
  rfl
theorem b110_108 {X : pm_X} {d : Nat} {x1 : Int32} {x2 : Int32} {g : pm_G} {iv : pm_V}  : pm_at X d 110 (108, [some (.ref 0), some (.int x1), some (.int x2)], [], g, iv) = if 64 ≤ x2 then pm_at X d 110 (146, [some (.ref 0), some (.int x1), some (.int x2)], [], g, iv) else pm_at X d 110 (114, [some (.ref 0), some (.int x1), some (.int x2)], [], g, iv) := by
  refine (at_iload_n dc110_108 rfl).trans ?_
  refine (at_bipush (v := 64) dc110_109 (by decide)).trans ?_
  exact at_icmp_ge (t := 146) dc110_111 (by decide)
theorem b110_114 {X : pm_X} {d : Nat} {x1 : Int32} {x2 : Int32} {g : pm_G} {iv : pm_V} (hL : pm_lay g) : pm_at X d 110 (114, [some (.ref 0), some (.int x1), some (.int x2)], [], g, iv) = pm_then X d 110 122 [some (.ref 0), some (.int x1), some (.int x2)] [] (pm_c X d 42 [.ref 11, .int x2] g iv) := by
  refine (at_aload_n dc110_114 rfl).trans ?_
  refine (at_gfR dc110_115 mc110 lf5_40 fo5_4 (ly0 hL) (lr0_4 hL)).trans ?_
  refine (at_iload_n dc110_118 rfl).trans ?_
  exact at_inv dc110_119 mc110 lm5_217 rfl rfl (Nat.le_of_ble_eq_true rfl) (Or.inl ⟨(ly11 hL), by decide⟩)
theorem b110_122 {X : pm_X} {d : Nat} {x1 : Int32} {x2 : Int32} {s0 : Int32} {g : pm_G} {iv : pm_V}  : pm_at X d 110 (122, [some (.ref 0), some (.int x1), some (.int x2)], [.int s0], g, iv) = if s0 = 0 then pm_at X d 110 (140, [some (.ref 0), some (.int x1), some (.int x2)], [], g, iv) else pm_at X d 110 (125, [some (.ref 0), some (.int x1), some (.int x2)], [], g, iv) := by
  exact at_if_eq (t := 140) dc110_122 (by decide)
theorem b110_125 {X : pm_X} {d : Nat} {x1 : Int32} {x2 : Int32} {g : pm_G} {iv : pm_V} (hL : pm_lay g) : pm_at X d 110 (125, [some (.ref 0), some (.int x1), some (.int x2)], [], g, iv) = pm_then X d 110 131 [some (.ref 0), some (.int x1), some (.int x2)] [] (pm_c X d 127 [.ref 0, .int x1, .int x2] g iv) := by
  refine (at_aload_n dc110_125 rfl).trans ?_
  refine (at_iload_n dc110_126 rfl).trans ?_
  refine (at_iload_n dc110_127 rfl).trans ?_
  exact at_inv dc110_128 mc110 lm5_220 rfl rfl (Nat.le_of_ble_eq_true rfl) (Or.inl ⟨(ly0 hL), by decide⟩)
theorem b110_131 {X : pm_X} {d : Nat} {x1 : Int32} {x2 : Int32} {s0 : Int32} {g : pm_G} {iv : pm_V}  : pm_at X d 110 (131, [some (.ref 0), some (.int x1), some (.int x2)], [.int s0], g, iv) = if s0 = 0 then pm_at X d 110 (140, [some (.ref 0), some (.int x1), some (.int x2)], [], g, iv) else pm_at X d 110 (134, [some (.ref 0), some (.int x1), some (.int x2)], [], g, iv) := by
  exact at_if_eq (t := 140) dc110_131 (by decide)
theorem b110_134 {X : pm_X} {d : Nat} {x1 : Int32} {x2 : Int32} {g : pm_G} {iv : pm_V} (hL : pm_lay g) : pm_at X d 110 (134, [some (.ref 0), some (.int x1), some (.int x2)], [], g, iv) = pm_then X d 110 139 [some (.ref 0), some (.int x1), some (.int x2)] [] (pm_c X d 123 [.ref 0, .int x2] g iv) := by
  refine (at_aload_n dc110_134 rfl).trans ?_
  refine (at_iload_n dc110_135 rfl).trans ?_
  exact at_inv dc110_136 mc110 lm5_68 rfl rfl (Nat.le_of_ble_eq_true rfl) (Or.inl ⟨(ly0 hL), by decide⟩)
theorem b110_139 {X : pm_X} {d : Nat} {x1 : Int32} {x2 : Int32} {s0 : Int32} {g : pm_G} {iv : pm_V}  : pm_at X d 110 (139, [some (.ref 0), some (.int x1), some (.int x2)], [.int s0], g, iv) = some (some (.int s0), g, iv) := by
  exact at_iret dc110_139 mr110
theorem b110_140 {X : pm_X} {d : Nat} {x1 : Int32} {x2 : Int32} {g : pm_G} {iv : pm_V}  : pm_at X d 110 (140, [some (.ref 0), some (.int x1), some (.int x2)], [], g, iv) = pm_at X d 110 (108, [some (.ref 0), some (.int x1), some (.int (x2 + 1))], [], g, iv) := by
  refine (at_iinc (v := 1) dc110_140 rfl (by decide) rfl).trans ?_
  refine (at_goto (t := 108) dc110_143 (by decide)).trans ?_
  rfl
theorem b110_146 {X : pm_X} {d : Nat} {x1 : Int32} {x2 : Int32} {g : pm_G} {iv : pm_V} (hL : pm_lay g) : pm_at X d 110 (146, [some (.ref 0), some (.int x1), some (.int x2)], [], g, iv) = pm_then X d 110 152 [some (.ref 0), some (.int x1), some (.int x2)] [] (pm_c X d 123 [.ref 0, .int (-1000000)] g iv) := by
  refine (at_aload_n dc110_146 rfl).trans ?_
  refine (at_ldc dc110_147 mc110 lk5_188).trans ?_
  exact at_inv dc110_149 mc110 lm5_68 rfl rfl (Nat.le_of_ble_eq_true rfl) (Or.inl ⟨(ly0 hL), by decide⟩)
theorem b110_152 {X : pm_X} {d : Nat} {x1 : Int32} {x2 : Int32} {s0 : Int32} {g : pm_G} {iv : pm_V}  : pm_at X d 110 (152, [some (.ref 0), some (.int x1), some (.int x2)], [.int s0], g, iv) = some (some (.int s0), g, iv) := by
  exact at_iret dc110_152 mr110
-- HH.image (I)I
theorem dc111_0 : decode (pm_mb 111) 0 = .ok (.iload_n 1, 1) := by decide +kernel
theorem dc111_1 : decode (pm_mb 111) 1 = .ok (.iconst 1, 1) := by decide +kernel
theorem dc111_2 : decode (pm_mb 111) 2 = .ok (.invokestatic 55, 3) := by decide +kernel
theorem dc111_5 : decode (pm_mb 111) 5 = .ok (.ifCond .ne 6, 3) := by decide +kernel
theorem dc111_8 : decode (pm_mb 111) 8 = .ok (.ldc 59, 2) := by decide +kernel
theorem dc111_10 : decode (pm_mb 111) 10 = .ok (.ireturn, 1) := by decide +kernel
theorem dc111_11 : decode (pm_mb 111) 11 = .ok (.aload_n 0, 1) := by decide +kernel
theorem dc111_12 : decode (pm_mb 111) 12 = .ok (.getfield 40, 3) := by decide +kernel
theorem dc111_15 : decode (pm_mb 111) 15 = .ok (.invokevirtual 125, 3) := by decide +kernel
theorem dc111_18 : decode (pm_mb 111) 18 = .ok (.ifCond .ne 6, 3) := by decide +kernel
theorem dc111_21 : decode (pm_mb 111) 21 = .ok (.ldc 129, 2) := by decide +kernel
theorem dc111_23 : decode (pm_mb 111) 23 = .ok (.ireturn, 1) := by decide +kernel
theorem dc111_24 : decode (pm_mb 111) 24 = .ok (.aload_n 0, 1) := by decide +kernel
theorem dc111_25 : decode (pm_mb 111) 25 = .ok (.getfield 47, 3) := by decide +kernel
theorem dc111_28 : decode (pm_mb 111) 28 = .ok (.iload_n 1, 1) := by decide +kernel
theorem dc111_29 : decode (pm_mb 111) 29 = .ok (.aaload, 1) := by decide +kernel
theorem dc111_30 : decode (pm_mb 111) 30 = .ok (.astore_n 2, 1) := by decide +kernel
theorem dc111_31 : decode (pm_mb 111) 31 = .ok (.aload_n 2, 1) := by decide +kernel
theorem dc111_32 : decode (pm_mb 111) 32 = .ok (.ifnonnull 18, 3) := by decide +kernel
theorem dc111_35 : decode (pm_mb 111) 35 = .ok (.new 37, 3) := by decide +kernel
theorem dc111_38 : decode (pm_mb 111) 38 = .ok (.dup, 1) := by decide +kernel
theorem dc111_39 : decode (pm_mb 111) 39 = .ok (.invokespecial 39, 3) := by decide +kernel
theorem dc111_42 : decode (pm_mb 111) 42 = .ok (.astore_n 2, 1) := by decide +kernel
theorem dc111_43 : decode (pm_mb 111) 43 = .ok (.aload_n 0, 1) := by decide +kernel
theorem dc111_44 : decode (pm_mb 111) 44 = .ok (.getfield 47, 3) := by decide +kernel
theorem dc111_47 : decode (pm_mb 111) 47 = .ok (.iload_n 1, 1) := by decide +kernel
theorem dc111_48 : decode (pm_mb 111) 48 = .ok (.aload_n 2, 1) := by decide +kernel
theorem dc111_49 : decode (pm_mb 111) 49 = .ok (.aastore, 1) := by decide +kernel
theorem dc111_50 : decode (pm_mb 111) 50 = .ok (.aload_n 2, 1) := by decide +kernel
theorem dc111_51 : decode (pm_mb 111) 51 = .ok (.aload_n 0, 1) := by decide +kernel
theorem dc111_52 : decode (pm_mb 111) 52 = .ok (.getfield 40, 3) := by decide +kernel
theorem dc111_55 : decode (pm_mb 111) 55 = .ok (.invokevirtual 112, 3) := by decide +kernel
theorem dc111_58 : decode (pm_mb 111) 58 = .ok (.iconst 1, 1) := by decide +kernel
theorem dc111_59 : decode (pm_mb 111) 59 = .ok (.ireturn, 1) := by decide +kernel
theorem b111_0 {X : pm_X} {d : Nat} {x1 : Int32} {g : pm_G} {iv : pm_V}  : pm_at X d 111 (0, [some (.ref 0), some (.int x1), none], [], g, iv) = pm_then X d 111 5 [some (.ref 0), some (.int x1), none] [] (pm_c X d 119 [.int x1, .int 1] g iv) := by
  refine (at_iload_n dc111_0 rfl).trans ?_
  refine (at_iconst (v := 1) dc111_1 rfl).trans ?_
  exact at_ins dc111_2 mc111 lm5_55 (Nat.le_of_ble_eq_true rfl) rfl rfl (Nat.le_of_ble_eq_true rfl)
theorem b111_5 {X : pm_X} {d : Nat} {x1 : Int32} {s0 : Int32} {g : pm_G} {iv : pm_V}  : pm_at X d 111 (5, [some (.ref 0), some (.int x1), none], [.int s0], g, iv) = if ¬ s0 = 0 then pm_at X d 111 (11, [some (.ref 0), some (.int x1), none], [], g, iv) else pm_at X d 111 (8, [some (.ref 0), some (.int x1), none], [], g, iv) := by
  exact at_if_ne (t := 11) dc111_5 (by decide)
theorem b111_8 {X : pm_X} {d : Nat} {x1 : Int32} {g : pm_G} {iv : pm_V}  : pm_at X d 111 (8, [some (.ref 0), some (.int x1), none], [], g, iv) = some (some (.int (-1000001)), g, iv) := by
  refine (at_ldc dc111_8 mc111 lk5_59).trans ?_
  exact at_iret dc111_10 mr111
theorem b111_11 {X : pm_X} {d : Nat} {x1 : Int32} {g : pm_G} {iv : pm_V} (hL : pm_lay g) : pm_at X d 111 (11, [some (.ref 0), some (.int x1), none], [], g, iv) = pm_then X d 111 18 [some (.ref 0), some (.int x1), none] [] (pm_c X d 26 [.ref 11] g iv) := by
  refine (at_aload_n dc111_11 rfl).trans ?_
  refine (at_gfR dc111_12 mc111 lf5_40 fo5_4 (ly0 hL) (lr0_4 hL)).trans ?_
  exact at_inv dc111_15 mc111 lm5_125 rfl rfl (Nat.le_of_ble_eq_true rfl) (Or.inl ⟨(ly11 hL), by decide⟩)
theorem b111_18 {X : pm_X} {d : Nat} {x1 : Int32} {s0 : Int32} {g : pm_G} {iv : pm_V}  : pm_at X d 111 (18, [some (.ref 0), some (.int x1), none], [.int s0], g, iv) = if ¬ s0 = 0 then pm_at X d 111 (24, [some (.ref 0), some (.int x1), none], [], g, iv) else pm_at X d 111 (21, [some (.ref 0), some (.int x1), none], [], g, iv) := by
  exact at_if_ne (t := 24) dc111_18 (by decide)
theorem b111_21 {X : pm_X} {d : Nat} {x1 : Int32} {g : pm_G} {iv : pm_V}  : pm_at X d 111 (21, [some (.ref 0), some (.int x1), none], [], g, iv) = some (some (.int (-1000002)), g, iv) := by
  refine (at_ldc dc111_21 mc111 lk5_129).trans ?_
  exact at_iret dc111_23 mr111
-- HH.restore (I)I
theorem dc112_0 : decode (pm_mb 112) 0 = .ok (.iload_n 1, 1) := by decide +kernel
theorem dc112_1 : decode (pm_mb 112) 1 = .ok (.iconst 1, 1) := by decide +kernel
theorem dc112_2 : decode (pm_mb 112) 2 = .ok (.invokestatic 55, 3) := by decide +kernel
theorem dc112_5 : decode (pm_mb 112) 5 = .ok (.ifCond .ne 6, 3) := by decide +kernel
theorem dc112_8 : decode (pm_mb 112) 8 = .ok (.ldc 59, 2) := by decide +kernel
theorem dc112_10 : decode (pm_mb 112) 10 = .ok (.ireturn, 1) := by decide +kernel
theorem dc112_11 : decode (pm_mb 112) 11 = .ok (.aload_n 0, 1) := by decide +kernel
theorem dc112_12 : decode (pm_mb 112) 12 = .ok (.getfield 47, 3) := by decide +kernel
theorem dc112_15 : decode (pm_mb 112) 15 = .ok (.iload_n 1, 1) := by decide +kernel
theorem dc112_16 : decode (pm_mb 112) 16 = .ok (.aaload, 1) := by decide +kernel
theorem dc112_17 : decode (pm_mb 112) 17 = .ok (.astore_n 2, 1) := by decide +kernel
theorem dc112_18 : decode (pm_mb 112) 18 = .ok (.aload_n 2, 1) := by decide +kernel
theorem dc112_19 : decode (pm_mb 112) 19 = .ok (.ifnonnull 6, 3) := by decide +kernel
theorem dc112_22 : decode (pm_mb 112) 22 = .ok (.ldc 129, 2) := by decide +kernel
theorem dc112_24 : decode (pm_mb 112) 24 = .ok (.ireturn, 1) := by decide +kernel
theorem dc112_25 : decode (pm_mb 112) 25 = .ok (.aload_n 0, 1) := by decide +kernel
theorem dc112_26 : decode (pm_mb 112) 26 = .ok (.getfield 40, 3) := by decide +kernel
theorem dc112_29 : decode (pm_mb 112) 29 = .ok (.aload_n 2, 1) := by decide +kernel
theorem dc112_30 : decode (pm_mb 112) 30 = .ok (.invokevirtual 112, 3) := by decide +kernel
theorem dc112_33 : decode (pm_mb 112) 33 = .ok (.aload_n 0, 1) := by decide +kernel
theorem dc112_34 : decode (pm_mb 112) 34 = .ok (.getfield 26, 3) := by decide +kernel
theorem dc112_37 : decode (pm_mb 112) 37 = .ok (.invokevirtual 116, 3) := by decide +kernel
theorem dc112_40 : decode (pm_mb 112) 40 = .ok (.iconst 1, 1) := by decide +kernel
theorem dc112_41 : decode (pm_mb 112) 41 = .ok (.ireturn, 1) := by decide +kernel
theorem b112_0 {X : pm_X} {d : Nat} {x1 : Int32} {g : pm_G} {iv : pm_V}  : pm_at X d 112 (0, [some (.ref 0), some (.int x1), none], [], g, iv) = pm_then X d 112 5 [some (.ref 0), some (.int x1), none] [] (pm_c X d 119 [.int x1, .int 1] g iv) := by
  refine (at_iload_n dc112_0 rfl).trans ?_
  refine (at_iconst (v := 1) dc112_1 rfl).trans ?_
  exact at_ins dc112_2 mc112 lm5_55 (Nat.le_of_ble_eq_true rfl) rfl rfl (Nat.le_of_ble_eq_true rfl)
theorem b112_5 {X : pm_X} {d : Nat} {x1 : Int32} {s0 : Int32} {g : pm_G} {iv : pm_V}  : pm_at X d 112 (5, [some (.ref 0), some (.int x1), none], [.int s0], g, iv) = if ¬ s0 = 0 then pm_at X d 112 (11, [some (.ref 0), some (.int x1), none], [], g, iv) else pm_at X d 112 (8, [some (.ref 0), some (.int x1), none], [], g, iv) := by
  exact at_if_ne (t := 11) dc112_5 (by decide)
theorem b112_8 {X : pm_X} {d : Nat} {x1 : Int32} {g : pm_G} {iv : pm_V}  : pm_at X d 112 (8, [some (.ref 0), some (.int x1), none], [], g, iv) = some (some (.int (-1000001)), g, iv) := by
  refine (at_ldc dc112_8 mc112 lk5_59).trans ?_
  exact at_iret dc112_10 mr112
-- HH.kind (I)I
theorem dc113_0 : decode (pm_mb 113) 0 = .ok (.aload_n 0, 1) := by decide +kernel
theorem dc113_1 : decode (pm_mb 113) 1 = .ok (.getfield 40, 3) := by decide +kernel
theorem dc113_4 : decode (pm_mb 113) 4 = .ok (.iload_n 1, 1) := by decide +kernel
theorem dc113_5 : decode (pm_mb 113) 5 = .ok (.invokevirtual 139, 3) := by decide +kernel
theorem dc113_8 : decode (pm_mb 113) 8 = .ok (.ifCond .eq 14, 3) := by decide +kernel
theorem dc113_11 : decode (pm_mb 113) 11 = .ok (.aload_n 0, 1) := by decide +kernel
theorem dc113_12 : decode (pm_mb 113) 12 = .ok (.getfield 40, 3) := by decide +kernel
theorem dc113_15 : decode (pm_mb 113) 15 = .ok (.iload_n 1, 1) := by decide +kernel
theorem dc113_16 : decode (pm_mb 113) 16 = .ok (.invokevirtual 223, 3) := by decide +kernel
theorem dc113_19 : decode (pm_mb 113) 19 = .ok (.goto 5, 3) := by decide +kernel
theorem dc113_22 : decode (pm_mb 113) 22 = .ok (.ldc 59, 2) := by decide +kernel
theorem dc113_24 : decode (pm_mb 113) 24 = .ok (.ireturn, 1) := by decide +kernel
theorem b113_0 {X : pm_X} {d : Nat} {x1 : Int32} {g : pm_G} {iv : pm_V} (hL : pm_lay g) : pm_at X d 113 (0, [some (.ref 0), some (.int x1)], [], g, iv) = pm_then X d 113 8 [some (.ref 0), some (.int x1)] [] (pm_c X d 35 [.ref 11, .int x1] g iv) := by
  refine (at_aload_n dc113_0 rfl).trans ?_
  refine (at_gfR dc113_1 mc113 lf5_40 fo5_4 (ly0 hL) (lr0_4 hL)).trans ?_
  refine (at_iload_n dc113_4 rfl).trans ?_
  exact at_inv dc113_5 mc113 lm5_139 rfl rfl (Nat.le_of_ble_eq_true rfl) (Or.inl ⟨(ly11 hL), by decide⟩)
theorem b113_8 {X : pm_X} {d : Nat} {x1 : Int32} {s0 : Int32} {g : pm_G} {iv : pm_V}  : pm_at X d 113 (8, [some (.ref 0), some (.int x1)], [.int s0], g, iv) = if s0 = 0 then pm_at X d 113 (22, [some (.ref 0), some (.int x1)], [], g, iv) else pm_at X d 113 (11, [some (.ref 0), some (.int x1)], [], g, iv) := by
  exact at_if_eq (t := 22) dc113_8 (by decide)
theorem b113_11 {X : pm_X} {d : Nat} {x1 : Int32} {g : pm_G} {iv : pm_V} (hL : pm_lay g) : pm_at X d 113 (11, [some (.ref 0), some (.int x1)], [], g, iv) = pm_then X d 113 19 [some (.ref 0), some (.int x1)] [] (pm_c X d 36 [.ref 11, .int x1] g iv) := by
  refine (at_aload_n dc113_11 rfl).trans ?_
  refine (at_gfR dc113_12 mc113 lf5_40 fo5_4 (ly0 hL) (lr0_4 hL)).trans ?_
  refine (at_iload_n dc113_15 rfl).trans ?_
  exact at_inv dc113_16 mc113 lm5_223 rfl rfl (Nat.le_of_ble_eq_true rfl) (Or.inl ⟨(ly11 hL), by decide⟩)
theorem b113_19 {X : pm_X} {d : Nat} {x1 : Int32} {s0 : Int32} {g : pm_G} {iv : pm_V}  : pm_at X d 113 (19, [some (.ref 0), some (.int x1)], [.int s0], g, iv) = pm_at X d 113 (24, [some (.ref 0), some (.int x1)], [.int s0], g, iv) := by
  refine (at_goto (t := 24) dc113_19 (by decide)).trans ?_
  rfl
theorem b113_22 {X : pm_X} {d : Nat} {x1 : Int32} {g : pm_G} {iv : pm_V}  : pm_at X d 113 (22, [some (.ref 0), some (.int x1)], [], g, iv) = pm_at X d 113 (24, [some (.ref 0), some (.int x1)], [.int (-1000001)], g, iv) := by
  refine (at_ldc dc113_22 mc113 lk5_59).trans ?_
  rfl
theorem b113_24 {X : pm_X} {d : Nat} {x1 : Int32} {s0 : Int32} {g : pm_G} {iv : pm_V}  : pm_at X d 113 (24, [some (.ref 0), some (.int x1)], [.int s0], g, iv) = some (some (.int s0), g, iv) := by
  exact at_iret dc113_24 mr113
-- HH.as (II)I
theorem dc114_0 : decode (pm_mb 114) 0 = .ok (.aload_n 0, 1) := by decide +kernel
theorem dc114_1 : decode (pm_mb 114) 1 = .ok (.getfield 40, 3) := by decide +kernel
theorem dc114_4 : decode (pm_mb 114) 4 = .ok (.iload_n 1, 1) := by decide +kernel
theorem dc114_5 : decode (pm_mb 114) 5 = .ok (.invokevirtual 139, 3) := by decide +kernel
theorem dc114_8 : decode (pm_mb 114) 8 = .ok (.ifCond .eq 11, 3) := by decide +kernel
theorem dc114_11 : decode (pm_mb 114) 11 = .ok (.iload_n 2, 1) := by decide +kernel
theorem dc114_12 : decode (pm_mb 114) 12 = .ok (.iconst 5, 1) := by decide +kernel
theorem dc114_13 : decode (pm_mb 114) 13 = .ok (.invokestatic 55, 3) := by decide +kernel
theorem dc114_16 : decode (pm_mb 114) 16 = .ok (.ifCond .ne 6, 3) := by decide +kernel
theorem dc114_19 : decode (pm_mb 114) 19 = .ok (.ldc 59, 2) := by decide +kernel
theorem dc114_21 : decode (pm_mb 114) 21 = .ok (.ireturn, 1) := by decide +kernel
theorem dc114_22 : decode (pm_mb 114) 22 = .ok (.aload_n 0, 1) := by decide +kernel
theorem dc114_23 : decode (pm_mb 114) 23 = .ok (.getfield 40, 3) := by decide +kernel
theorem dc114_26 : decode (pm_mb 114) 26 = .ok (.iload_n 1, 1) := by decide +kernel
theorem dc114_27 : decode (pm_mb 114) 27 = .ok (.invokevirtual 223, 3) := by decide +kernel
theorem dc114_30 : decode (pm_mb 114) 30 = .ok (.iload_n 2, 1) := by decide +kernel
theorem dc114_31 : decode (pm_mb 114) 31 = .ok (.invokestatic 226, 3) := by decide +kernel
theorem dc114_34 : decode (pm_mb 114) 34 = .ok (.ifCond .ne 9, 3) := by decide +kernel
theorem dc114_37 : decode (pm_mb 114) 37 = .ok (.aload_n 0, 1) := by decide +kernel
theorem dc114_38 : decode (pm_mb 114) 38 = .ok (.iconst 3, 1) := by decide +kernel
theorem dc114_39 : decode (pm_mb 114) 39 = .ok (.invokevirtual 60, 3) := by decide +kernel
theorem dc114_42 : decode (pm_mb 114) 42 = .ok (.ireturn, 1) := by decide +kernel
theorem dc114_43 : decode (pm_mb 114) 43 = .ok (.aload_n 0, 1) := by decide +kernel
theorem dc114_44 : decode (pm_mb 114) 44 = .ok (.iload_n 1, 1) := by decide +kernel
theorem dc114_45 : decode (pm_mb 114) 45 = .ok (.invokevirtual 68, 3) := by decide +kernel
theorem dc114_48 : decode (pm_mb 114) 48 = .ok (.ireturn, 1) := by decide +kernel
theorem b114_0 {X : pm_X} {d : Nat} {x1 : Int32} {x2 : Int32} {g : pm_G} {iv : pm_V} (hL : pm_lay g) : pm_at X d 114 (0, [some (.ref 0), some (.int x1), some (.int x2)], [], g, iv) = pm_then X d 114 8 [some (.ref 0), some (.int x1), some (.int x2)] [] (pm_c X d 35 [.ref 11, .int x1] g iv) := by
  refine (at_aload_n dc114_0 rfl).trans ?_
  refine (at_gfR dc114_1 mc114 lf5_40 fo5_4 (ly0 hL) (lr0_4 hL)).trans ?_
  refine (at_iload_n dc114_4 rfl).trans ?_
  exact at_inv dc114_5 mc114 lm5_139 rfl rfl (Nat.le_of_ble_eq_true rfl) (Or.inl ⟨(ly11 hL), by decide⟩)
theorem b114_8 {X : pm_X} {d : Nat} {x1 : Int32} {x2 : Int32} {s0 : Int32} {g : pm_G} {iv : pm_V}  : pm_at X d 114 (8, [some (.ref 0), some (.int x1), some (.int x2)], [.int s0], g, iv) = if s0 = 0 then pm_at X d 114 (19, [some (.ref 0), some (.int x1), some (.int x2)], [], g, iv) else pm_at X d 114 (11, [some (.ref 0), some (.int x1), some (.int x2)], [], g, iv) := by
  exact at_if_eq (t := 19) dc114_8 (by decide)
theorem b114_11 {X : pm_X} {d : Nat} {x1 : Int32} {x2 : Int32} {g : pm_G} {iv : pm_V}  : pm_at X d 114 (11, [some (.ref 0), some (.int x1), some (.int x2)], [], g, iv) = pm_then X d 114 16 [some (.ref 0), some (.int x1), some (.int x2)] [] (pm_c X d 119 [.int x2, .int 5] g iv) := by
  refine (at_iload_n dc114_11 rfl).trans ?_
  refine (at_iconst (v := 5) dc114_12 rfl).trans ?_
  exact at_ins dc114_13 mc114 lm5_55 (Nat.le_of_ble_eq_true rfl) rfl rfl (Nat.le_of_ble_eq_true rfl)
theorem b114_16 {X : pm_X} {d : Nat} {x1 : Int32} {x2 : Int32} {s0 : Int32} {g : pm_G} {iv : pm_V}  : pm_at X d 114 (16, [some (.ref 0), some (.int x1), some (.int x2)], [.int s0], g, iv) = if ¬ s0 = 0 then pm_at X d 114 (22, [some (.ref 0), some (.int x1), some (.int x2)], [], g, iv) else pm_at X d 114 (19, [some (.ref 0), some (.int x1), some (.int x2)], [], g, iv) := by
  exact at_if_ne (t := 22) dc114_16 (by decide)
theorem b114_19 {X : pm_X} {d : Nat} {x1 : Int32} {x2 : Int32} {g : pm_G} {iv : pm_V}  : pm_at X d 114 (19, [some (.ref 0), some (.int x1), some (.int x2)], [], g, iv) = some (some (.int (-1000001)), g, iv) := by
  refine (at_ldc dc114_19 mc114 lk5_59).trans ?_
  exact at_iret dc114_21 mr114
theorem b114_22 {X : pm_X} {d : Nat} {x1 : Int32} {x2 : Int32} {g : pm_G} {iv : pm_V} (hL : pm_lay g) : pm_at X d 114 (22, [some (.ref 0), some (.int x1), some (.int x2)], [], g, iv) = pm_then X d 114 30 [some (.ref 0), some (.int x1), some (.int x2)] [] (pm_c X d 36 [.ref 11, .int x1] g iv) := by
  refine (at_aload_n dc114_22 rfl).trans ?_
  refine (at_gfR dc114_23 mc114 lf5_40 fo5_4 (ly0 hL) (lr0_4 hL)).trans ?_
  refine (at_iload_n dc114_26 rfl).trans ?_
  exact at_inv dc114_27 mc114 lm5_223 rfl rfl (Nat.le_of_ble_eq_true rfl) (Or.inl ⟨(ly11 hL), by decide⟩)
theorem b114_30 {X : pm_X} {d : Nat} {x1 : Int32} {x2 : Int32} {s0 : Int32} {g : pm_G} {iv : pm_V}  : pm_at X d 114 (30, [some (.ref 0), some (.int x1), some (.int x2)], [.int s0], g, iv) = pm_then X d 114 34 [some (.ref 0), some (.int x1), some (.int x2)] [] (pm_c X d 6 [.int s0, .int x2] g iv) := by
  refine (at_iload_n dc114_30 rfl).trans ?_
  exact at_ins dc114_31 mc114 lm5_226 (Nat.le_of_ble_eq_true rfl) rfl rfl (Nat.le_of_ble_eq_true rfl)
theorem b114_34 {X : pm_X} {d : Nat} {x1 : Int32} {x2 : Int32} {s0 : Int32} {g : pm_G} {iv : pm_V}  : pm_at X d 114 (34, [some (.ref 0), some (.int x1), some (.int x2)], [.int s0], g, iv) = if ¬ s0 = 0 then pm_at X d 114 (43, [some (.ref 0), some (.int x1), some (.int x2)], [], g, iv) else pm_at X d 114 (37, [some (.ref 0), some (.int x1), some (.int x2)], [], g, iv) := by
  exact at_if_ne (t := 43) dc114_34 (by decide)
theorem b114_37 {X : pm_X} {d : Nat} {x1 : Int32} {x2 : Int32} {g : pm_G} {iv : pm_V} (hL : pm_lay g) : pm_at X d 114 (37, [some (.ref 0), some (.int x1), some (.int x2)], [], g, iv) = pm_then X d 114 42 [some (.ref 0), some (.int x1), some (.int x2)] [] (pm_c X d 122 [.ref 0, .int 3] g iv) := by
  refine (at_aload_n dc114_37 rfl).trans ?_
  refine (at_iconst (v := 3) dc114_38 rfl).trans ?_
  exact at_inv dc114_39 mc114 lm5_60 rfl rfl (Nat.le_of_ble_eq_true rfl) (Or.inl ⟨(ly0 hL), by decide⟩)
theorem b114_42 {X : pm_X} {d : Nat} {x1 : Int32} {x2 : Int32} {s0 : Int32} {g : pm_G} {iv : pm_V}  : pm_at X d 114 (42, [some (.ref 0), some (.int x1), some (.int x2)], [.int s0], g, iv) = some (some (.int s0), g, iv) := by
  exact at_iret dc114_42 mr114
theorem b114_43 {X : pm_X} {d : Nat} {x1 : Int32} {x2 : Int32} {g : pm_G} {iv : pm_V} (hL : pm_lay g) : pm_at X d 114 (43, [some (.ref 0), some (.int x1), some (.int x2)], [], g, iv) = pm_then X d 114 48 [some (.ref 0), some (.int x1), some (.int x2)] [] (pm_c X d 123 [.ref 0, .int x1] g iv) := by
  refine (at_aload_n dc114_43 rfl).trans ?_
  refine (at_iload_n dc114_44 rfl).trans ?_
  exact at_inv dc114_45 mc114 lm5_68 rfl rfl (Nat.le_of_ble_eq_true rfl) (Or.inl ⟨(ly0 hL), by decide⟩)
theorem b114_48 {X : pm_X} {d : Nat} {x1 : Int32} {x2 : Int32} {s0 : Int32} {g : pm_G} {iv : pm_V}  : pm_at X d 114 (48, [some (.ref 0), some (.int x1), some (.int x2)], [.int s0], g, iv) = some (some (.int s0), g, iv) := by
  exact at_iret dc114_48 mr114
-- HH.ask (II)I
theorem dc115_0 : decode (pm_mb 115) 0 = .ok (.aload_n 0, 1) := by decide +kernel
theorem dc115_1 : decode (pm_mb 115) 1 = .ok (.getfield 40, 3) := by decide +kernel
theorem dc115_4 : decode (pm_mb 115) 4 = .ok (.iload_n 1, 1) := by decide +kernel
theorem dc115_5 : decode (pm_mb 115) 5 = .ok (.invokevirtual 139, 3) := by decide +kernel
theorem dc115_8 : decode (pm_mb 115) 8 = .ok (.ifCond .eq 11, 3) := by decide +kernel
theorem dc115_11 : decode (pm_mb 115) 11 = .ok (.iload_n 2, 1) := by decide +kernel
theorem dc115_12 : decode (pm_mb 115) 12 = .ok (.iconst 1, 1) := by decide +kernel
theorem dc115_13 : decode (pm_mb 115) 13 = .ok (.invokestatic 55, 3) := by decide +kernel
theorem dc115_16 : decode (pm_mb 115) 16 = .ok (.ifCond .ne 6, 3) := by decide +kernel
theorem dc115_19 : decode (pm_mb 115) 19 = .ok (.ldc 59, 2) := by decide +kernel
theorem dc115_21 : decode (pm_mb 115) 21 = .ok (.ireturn, 1) := by decide +kernel
theorem dc115_22 : decode (pm_mb 115) 22 = .ok (.aload_n 0, 1) := by decide +kernel
theorem dc115_23 : decode (pm_mb 115) 23 = .ok (.getfield 33, 3) := by decide +kernel
theorem dc115_26 : decode (pm_mb 115) 26 = .ok (.aload_n 0, 1) := by decide +kernel
theorem dc115_27 : decode (pm_mb 115) 27 = .ok (.getfield 40, 3) := by decide +kernel
theorem dc115_30 : decode (pm_mb 115) 30 = .ok (.iload_n 1, 1) := by decide +kernel
theorem dc115_31 : decode (pm_mb 115) 31 = .ok (.iload_n 2, 1) := by decide +kernel
theorem dc115_32 : decode (pm_mb 115) 32 = .ok (.invokevirtual 229, 3) := by decide +kernel
theorem dc115_35 : decode (pm_mb 115) 35 = .ok (.ireturn, 1) := by decide +kernel
theorem b115_0 {X : pm_X} {d : Nat} {x1 : Int32} {x2 : Int32} {g : pm_G} {iv : pm_V} (hL : pm_lay g) : pm_at X d 115 (0, [some (.ref 0), some (.int x1), some (.int x2)], [], g, iv) = pm_then X d 115 8 [some (.ref 0), some (.int x1), some (.int x2)] [] (pm_c X d 35 [.ref 11, .int x1] g iv) := by
  refine (at_aload_n dc115_0 rfl).trans ?_
  refine (at_gfR dc115_1 mc115 lf5_40 fo5_4 (ly0 hL) (lr0_4 hL)).trans ?_
  refine (at_iload_n dc115_4 rfl).trans ?_
  exact at_inv dc115_5 mc115 lm5_139 rfl rfl (Nat.le_of_ble_eq_true rfl) (Or.inl ⟨(ly11 hL), by decide⟩)
theorem b115_8 {X : pm_X} {d : Nat} {x1 : Int32} {x2 : Int32} {s0 : Int32} {g : pm_G} {iv : pm_V}  : pm_at X d 115 (8, [some (.ref 0), some (.int x1), some (.int x2)], [.int s0], g, iv) = if s0 = 0 then pm_at X d 115 (19, [some (.ref 0), some (.int x1), some (.int x2)], [], g, iv) else pm_at X d 115 (11, [some (.ref 0), some (.int x1), some (.int x2)], [], g, iv) := by
  exact at_if_eq (t := 19) dc115_8 (by decide)
theorem b115_11 {X : pm_X} {d : Nat} {x1 : Int32} {x2 : Int32} {g : pm_G} {iv : pm_V}  : pm_at X d 115 (11, [some (.ref 0), some (.int x1), some (.int x2)], [], g, iv) = pm_then X d 115 16 [some (.ref 0), some (.int x1), some (.int x2)] [] (pm_c X d 119 [.int x2, .int 1] g iv) := by
  refine (at_iload_n dc115_11 rfl).trans ?_
  refine (at_iconst (v := 1) dc115_12 rfl).trans ?_
  exact at_ins dc115_13 mc115 lm5_55 (Nat.le_of_ble_eq_true rfl) rfl rfl (Nat.le_of_ble_eq_true rfl)
theorem b115_16 {X : pm_X} {d : Nat} {x1 : Int32} {x2 : Int32} {s0 : Int32} {g : pm_G} {iv : pm_V}  : pm_at X d 115 (16, [some (.ref 0), some (.int x1), some (.int x2)], [.int s0], g, iv) = if ¬ s0 = 0 then pm_at X d 115 (22, [some (.ref 0), some (.int x1), some (.int x2)], [], g, iv) else pm_at X d 115 (19, [some (.ref 0), some (.int x1), some (.int x2)], [], g, iv) := by
  exact at_if_ne (t := 22) dc115_16 (by decide)
theorem b115_19 {X : pm_X} {d : Nat} {x1 : Int32} {x2 : Int32} {g : pm_G} {iv : pm_V}  : pm_at X d 115 (19, [some (.ref 0), some (.int x1), some (.int x2)], [], g, iv) = some (some (.int (-1000001)), g, iv) := by
  refine (at_ldc dc115_19 mc115 lk5_59).trans ?_
  exact at_iret dc115_21 mr115
theorem b115_22 {X : pm_X} {d : Nat} {x1 : Int32} {x2 : Int32} {g : pm_G} {iv : pm_V} (hL : pm_lay g) : pm_at X d 115 (22, [some (.ref 0), some (.int x1), some (.int x2)], [], g, iv) = pm_then X d 115 35 [some (.ref 0), some (.int x1), some (.int x2)] [] (pm_c X d 10 [.ref 9, .ref 11, .int x1, .int x2] g iv) := by
  refine (at_aload_n dc115_22 rfl).trans ?_
  refine (at_gfR dc115_23 mc115 lf5_33 fo5_3 (ly0 hL) (lr0_3 hL)).trans ?_
  refine (at_aload_n dc115_26 rfl).trans ?_
  refine (at_gfR dc115_27 mc115 lf5_40 fo5_4 (ly0 hL) (lr0_4 hL)).trans ?_
  refine (at_iload_n dc115_30 rfl).trans ?_
  refine (at_iload_n dc115_31 rfl).trans ?_
  exact at_inv dc115_32 mc115 lm5_229 rfl rfl (Nat.le_of_ble_eq_true rfl) (Or.inl ⟨(ly9 hL), by decide⟩)
theorem b115_35 {X : pm_X} {d : Nat} {x1 : Int32} {x2 : Int32} {s0 : Int32} {g : pm_G} {iv : pm_V}  : pm_at X d 115 (35, [some (.ref 0), some (.int x1), some (.int x2)], [.int s0], g, iv) = some (some (.int s0), g, iv) := by
  exact at_iret dc115_35 mr115
-- HH.trace (I)I
theorem dc116_0 : decode (pm_mb 116) 0 = .ok (.aload_n 0, 1) := by decide +kernel
theorem dc116_1 : decode (pm_mb 116) 1 = .ok (.getfield 33, 3) := by decide +kernel
theorem dc116_4 : decode (pm_mb 116) 4 = .ok (.iload_n 1, 1) := by decide +kernel
theorem dc116_5 : decode (pm_mb 116) 5 = .ok (.invokevirtual 233, 3) := by decide +kernel
theorem dc116_8 : decode (pm_mb 116) 8 = .ok (.ireturn, 1) := by decide +kernel
theorem b116_0 {X : pm_X} {d : Nat} {x1 : Int32} {g : pm_G} {iv : pm_V} (hL : pm_lay g) : pm_at X d 116 (0, [some (.ref 0), some (.int x1)], [], g, iv) = pm_then X d 116 8 [some (.ref 0), some (.int x1)] [] (pm_c X d 9 [.ref 9, .int x1] g iv) := by
  refine (at_aload_n dc116_0 rfl).trans ?_
  refine (at_gfR dc116_1 mc116 lf5_33 fo5_3 (ly0 hL) (lr0_3 hL)).trans ?_
  refine (at_iload_n dc116_4 rfl).trans ?_
  exact at_inv dc116_5 mc116 lm5_233 rfl rfl (Nat.le_of_ble_eq_true rfl) (Or.inl ⟨(ly9 hL), by decide⟩)
theorem b116_8 {X : pm_X} {d : Nat} {x1 : Int32} {s0 : Int32} {g : pm_G} {iv : pm_V}  : pm_at X d 116 (8, [some (.ref 0), some (.int x1)], [.int s0], g, iv) = some (some (.int s0), g, iv) := by
  exact at_iret dc116_8 mr116
-- HH.count (I)I
theorem dc117_0 : decode (pm_mb 117) 0 = .ok (.iload_n 1, 1) := by decide +kernel
theorem dc117_1 : decode (pm_mb 117) 1 = .ok (.tableswitch 99 0 6 #[43, 51, 59, 67, 75, 83, 91], 43) := by decide +kernel
theorem dc117_44 : decode (pm_mb 117) 44 = .ok (.aload_n 0, 1) := by decide +kernel
theorem dc117_45 : decode (pm_mb 117) 45 = .ok (.getfield 10, 3) := by decide +kernel
theorem dc117_48 : decode (pm_mb 117) 48 = .ok (.invokevirtual 236, 3) := by decide +kernel
theorem dc117_51 : decode (pm_mb 117) 51 = .ok (.ireturn, 1) := by decide +kernel
theorem dc117_52 : decode (pm_mb 117) 52 = .ok (.aload_n 0, 1) := by decide +kernel
theorem dc117_53 : decode (pm_mb 117) 53 = .ok (.getfield 40, 3) := by decide +kernel
theorem dc117_56 : decode (pm_mb 117) 56 = .ok (.invokevirtual 119, 3) := by decide +kernel
theorem dc117_59 : decode (pm_mb 117) 59 = .ok (.ireturn, 1) := by decide +kernel
theorem dc117_60 : decode (pm_mb 117) 60 = .ok (.aload_n 0, 1) := by decide +kernel
theorem dc117_61 : decode (pm_mb 117) 61 = .ok (.getfield 40, 3) := by decide +kernel
theorem dc117_64 : decode (pm_mb 117) 64 = .ok (.invokevirtual 237, 3) := by decide +kernel
theorem dc117_67 : decode (pm_mb 117) 67 = .ok (.ireturn, 1) := by decide +kernel
theorem dc117_68 : decode (pm_mb 117) 68 = .ok (.aload_n 0, 1) := by decide +kernel
theorem dc117_69 : decode (pm_mb 117) 69 = .ok (.getfield 40, 3) := by decide +kernel
theorem dc117_72 : decode (pm_mb 117) 72 = .ok (.invokevirtual 130, 3) := by decide +kernel
theorem dc117_75 : decode (pm_mb 117) 75 = .ok (.ireturn, 1) := by decide +kernel
theorem dc117_76 : decode (pm_mb 117) 76 = .ok (.aload_n 0, 1) := by decide +kernel
theorem dc117_77 : decode (pm_mb 117) 77 = .ok (.getfield 26, 3) := by decide +kernel
theorem dc117_80 : decode (pm_mb 117) 80 = .ok (.invokevirtual 161, 3) := by decide +kernel
theorem dc117_83 : decode (pm_mb 117) 83 = .ok (.ireturn, 1) := by decide +kernel
theorem dc117_84 : decode (pm_mb 117) 84 = .ok (.aload_n 0, 1) := by decide +kernel
theorem dc117_85 : decode (pm_mb 117) 85 = .ok (.getfield 40, 3) := by decide +kernel
theorem dc117_88 : decode (pm_mb 117) 88 = .ok (.invokevirtual 240, 3) := by decide +kernel
theorem dc117_91 : decode (pm_mb 117) 91 = .ok (.ireturn, 1) := by decide +kernel
theorem dc117_92 : decode (pm_mb 117) 92 = .ok (.aload_n 0, 1) := by decide +kernel
theorem dc117_93 : decode (pm_mb 117) 93 = .ok (.getfield 19, 3) := by decide +kernel
theorem dc117_96 : decode (pm_mb 117) 96 = .ok (.invokevirtual 96, 3) := by decide +kernel
theorem dc117_99 : decode (pm_mb 117) 99 = .ok (.ireturn, 1) := by decide +kernel
theorem dc117_100 : decode (pm_mb 117) 100 = .ok (.ldc 59, 2) := by decide +kernel
theorem dc117_102 : decode (pm_mb 117) 102 = .ok (.ireturn, 1) := by decide +kernel
theorem b117_0_c0 {X : pm_X} {d : Nat} {x1 : Int32} {g : pm_G} {iv : pm_V} (hx : x1 = 0) : pm_at X d 117 (0, [some (.ref 0), some (.int x1)], [], g, iv) = pm_at X d 117 (44, [some (.ref 0), some (.int x1)], [], g, iv) := by
  refine (at_iload_n dc117_0 rfl).trans ?_
  rw [hx]
  exact at_tswI (t := 44) dc117_1 (by decide) rfl (by decide)
theorem b117_0_c1 {X : pm_X} {d : Nat} {x1 : Int32} {g : pm_G} {iv : pm_V} (hx : x1 = 1) : pm_at X d 117 (0, [some (.ref 0), some (.int x1)], [], g, iv) = pm_at X d 117 (52, [some (.ref 0), some (.int x1)], [], g, iv) := by
  refine (at_iload_n dc117_0 rfl).trans ?_
  rw [hx]
  exact at_tswI (t := 52) dc117_1 (by decide) rfl (by decide)
theorem b117_0_c2 {X : pm_X} {d : Nat} {x1 : Int32} {g : pm_G} {iv : pm_V} (hx : x1 = 2) : pm_at X d 117 (0, [some (.ref 0), some (.int x1)], [], g, iv) = pm_at X d 117 (60, [some (.ref 0), some (.int x1)], [], g, iv) := by
  refine (at_iload_n dc117_0 rfl).trans ?_
  rw [hx]
  exact at_tswI (t := 60) dc117_1 (by decide) rfl (by decide)
theorem b117_0_c3 {X : pm_X} {d : Nat} {x1 : Int32} {g : pm_G} {iv : pm_V} (hx : x1 = 3) : pm_at X d 117 (0, [some (.ref 0), some (.int x1)], [], g, iv) = pm_at X d 117 (68, [some (.ref 0), some (.int x1)], [], g, iv) := by
  refine (at_iload_n dc117_0 rfl).trans ?_
  rw [hx]
  exact at_tswI (t := 68) dc117_1 (by decide) rfl (by decide)
theorem b117_0_c4 {X : pm_X} {d : Nat} {x1 : Int32} {g : pm_G} {iv : pm_V} (hx : x1 = 4) : pm_at X d 117 (0, [some (.ref 0), some (.int x1)], [], g, iv) = pm_at X d 117 (76, [some (.ref 0), some (.int x1)], [], g, iv) := by
  refine (at_iload_n dc117_0 rfl).trans ?_
  rw [hx]
  exact at_tswI (t := 76) dc117_1 (by decide) rfl (by decide)
theorem b117_0_c5 {X : pm_X} {d : Nat} {x1 : Int32} {g : pm_G} {iv : pm_V} (hx : x1 = 5) : pm_at X d 117 (0, [some (.ref 0), some (.int x1)], [], g, iv) = pm_at X d 117 (84, [some (.ref 0), some (.int x1)], [], g, iv) := by
  refine (at_iload_n dc117_0 rfl).trans ?_
  rw [hx]
  exact at_tswI (t := 84) dc117_1 (by decide) rfl (by decide)
theorem b117_0_c6 {X : pm_X} {d : Nat} {x1 : Int32} {g : pm_G} {iv : pm_V} (hx : x1 = 6) : pm_at X d 117 (0, [some (.ref 0), some (.int x1)], [], g, iv) = pm_at X d 117 (92, [some (.ref 0), some (.int x1)], [], g, iv) := by
  refine (at_iload_n dc117_0 rfl).trans ?_
  rw [hx]
  exact at_tswI (t := 92) dc117_1 (by decide) rfl (by decide)
theorem b117_0_df {X : pm_X} {d : Nat} {x1 : Int32} {g : pm_G} {iv : pm_V}  (hx : x1.toInt < 0 ∨ 6 < x1.toInt) : pm_at X d 117 (0, [some (.ref 0), some (.int x1)], [], g, iv) = pm_at X d 117 (100, [some (.ref 0), some (.int x1)], [], g, iv) := by
  refine (at_iload_n dc117_0 rfl).trans ?_
  exact at_tswO (t := 100) dc117_1 hx (by decide)
theorem b117_44 {X : pm_X} {d : Nat} {x1 : Int32} {g : pm_G} {iv : pm_V} (hL : pm_lay g) : pm_at X d 117 (44, [some (.ref 0), some (.int x1)], [], g, iv) = pm_then X d 117 51 [some (.ref 0), some (.int x1)] [] (pm_c X d 19 [.ref 1] g iv) := by
  refine (at_aload_n dc117_44 rfl).trans ?_
  refine (at_gfR dc117_45 mc117 lf5_10 fo5_0 (ly0 hL) (lr0_0 hL)).trans ?_
  exact at_inv dc117_48 mc117 lm5_236 rfl rfl (Nat.le_of_ble_eq_true rfl) (Or.inl ⟨(ly1 hL), by decide⟩)
theorem b117_51 {X : pm_X} {d : Nat} {x1 : Int32} {s0 : Int32} {g : pm_G} {iv : pm_V}  : pm_at X d 117 (51, [some (.ref 0), some (.int x1)], [.int s0], g, iv) = some (some (.int s0), g, iv) := by
  exact at_iret dc117_51 mr117
theorem b117_52 {X : pm_X} {d : Nat} {x1 : Int32} {g : pm_G} {iv : pm_V} (hL : pm_lay g) : pm_at X d 117 (52, [some (.ref 0), some (.int x1)], [], g, iv) = pm_then X d 117 59 [some (.ref 0), some (.int x1)] [] (pm_c X d 29 [.ref 11] g iv) := by
  refine (at_aload_n dc117_52 rfl).trans ?_
  refine (at_gfR dc117_53 mc117 lf5_40 fo5_4 (ly0 hL) (lr0_4 hL)).trans ?_
  exact at_inv dc117_56 mc117 lm5_119 rfl rfl (Nat.le_of_ble_eq_true rfl) (Or.inl ⟨(ly11 hL), by decide⟩)
theorem b117_59 {X : pm_X} {d : Nat} {x1 : Int32} {s0 : Int32} {g : pm_G} {iv : pm_V}  : pm_at X d 117 (59, [some (.ref 0), some (.int x1)], [.int s0], g, iv) = some (some (.int s0), g, iv) := by
  exact at_iret dc117_59 mr117
theorem b117_60 {X : pm_X} {d : Nat} {x1 : Int32} {g : pm_G} {iv : pm_V} (hL : pm_lay g) : pm_at X d 117 (60, [some (.ref 0), some (.int x1)], [], g, iv) = pm_then X d 117 67 [some (.ref 0), some (.int x1)] [] (pm_c X d 32 [.ref 11] g iv) := by
  refine (at_aload_n dc117_60 rfl).trans ?_
  refine (at_gfR dc117_61 mc117 lf5_40 fo5_4 (ly0 hL) (lr0_4 hL)).trans ?_
  exact at_inv dc117_64 mc117 lm5_237 rfl rfl (Nat.le_of_ble_eq_true rfl) (Or.inl ⟨(ly11 hL), by decide⟩)
theorem b117_67 {X : pm_X} {d : Nat} {x1 : Int32} {s0 : Int32} {g : pm_G} {iv : pm_V}  : pm_at X d 117 (67, [some (.ref 0), some (.int x1)], [.int s0], g, iv) = some (some (.int s0), g, iv) := by
  exact at_iret dc117_67 mr117
theorem b117_68 {X : pm_X} {d : Nat} {x1 : Int32} {g : pm_G} {iv : pm_V} (hL : pm_lay g) : pm_at X d 117 (68, [some (.ref 0), some (.int x1)], [], g, iv) = pm_then X d 117 75 [some (.ref 0), some (.int x1)] [] (pm_c X d 30 [.ref 11] g iv) := by
  refine (at_aload_n dc117_68 rfl).trans ?_
  refine (at_gfR dc117_69 mc117 lf5_40 fo5_4 (ly0 hL) (lr0_4 hL)).trans ?_
  exact at_inv dc117_72 mc117 lm5_130 rfl rfl (Nat.le_of_ble_eq_true rfl) (Or.inl ⟨(ly11 hL), by decide⟩)
theorem b117_75 {X : pm_X} {d : Nat} {x1 : Int32} {s0 : Int32} {g : pm_G} {iv : pm_V}  : pm_at X d 117 (75, [some (.ref 0), some (.int x1)], [.int s0], g, iv) = some (some (.int s0), g, iv) := by
  exact at_iret dc117_75 mr117
theorem b117_76 {X : pm_X} {d : Nat} {x1 : Int32} {g : pm_G} {iv : pm_V} (hL : pm_lay g) : pm_at X d 117 (76, [some (.ref 0), some (.int x1)], [], g, iv) = pm_then X d 117 83 [some (.ref 0), some (.int x1)] [] (pm_c X d 1 [.ref 7] g iv) := by
  refine (at_aload_n dc117_76 rfl).trans ?_
  refine (at_gfR dc117_77 mc117 lf5_26 fo5_2 (ly0 hL) (lr0_2 hL)).trans ?_
  exact at_inv dc117_80 mc117 lm5_161 rfl rfl (Nat.le_of_ble_eq_true rfl) (Or.inl ⟨(ly7 hL), by decide⟩)
theorem b117_83 {X : pm_X} {d : Nat} {x1 : Int32} {s0 : Int32} {g : pm_G} {iv : pm_V}  : pm_at X d 117 (83, [some (.ref 0), some (.int x1)], [.int s0], g, iv) = some (some (.int s0), g, iv) := by
  exact at_iret dc117_83 mr117
theorem b117_84 {X : pm_X} {d : Nat} {x1 : Int32} {g : pm_G} {iv : pm_V} (hL : pm_lay g) : pm_at X d 117 (84, [some (.ref 0), some (.int x1)], [], g, iv) = pm_then X d 117 91 [some (.ref 0), some (.int x1)] [] (pm_c X d 31 [.ref 11] g iv) := by
  refine (at_aload_n dc117_84 rfl).trans ?_
  refine (at_gfR dc117_85 mc117 lf5_40 fo5_4 (ly0 hL) (lr0_4 hL)).trans ?_
  exact at_inv dc117_88 mc117 lm5_240 rfl rfl (Nat.le_of_ble_eq_true rfl) (Or.inl ⟨(ly11 hL), by decide⟩)
theorem b117_91 {X : pm_X} {d : Nat} {x1 : Int32} {s0 : Int32} {g : pm_G} {iv : pm_V}  : pm_at X d 117 (91, [some (.ref 0), some (.int x1)], [.int s0], g, iv) = some (some (.int s0), g, iv) := by
  exact at_iret dc117_91 mr117
theorem b117_92 {X : pm_X} {d : Nat} {x1 : Int32} {g : pm_G} {iv : pm_V} (hL : pm_lay g) : pm_at X d 117 (92, [some (.ref 0), some (.int x1)], [], g, iv) = pm_then X d 117 99 [some (.ref 0), some (.int x1)] [] (pm_c X d 66 [.ref 5] g iv) := by
  refine (at_aload_n dc117_92 rfl).trans ?_
  refine (at_gfR dc117_93 mc117 lf5_19 fo5_1 (ly0 hL) (lr0_1 hL)).trans ?_
  exact at_inv dc117_96 mc117 lm5_96 rfl rfl (Nat.le_of_ble_eq_true rfl) (Or.inl ⟨(ly5 hL), by decide⟩)
theorem b117_99 {X : pm_X} {d : Nat} {x1 : Int32} {s0 : Int32} {g : pm_G} {iv : pm_V}  : pm_at X d 117 (99, [some (.ref 0), some (.int x1)], [.int s0], g, iv) = some (some (.int s0), g, iv) := by
  exact at_iret dc117_99 mr117
theorem b117_100 {X : pm_X} {d : Nat} {x1 : Int32} {g : pm_G} {iv : pm_V}  : pm_at X d 117 (100, [some (.ref 0), some (.int x1)], [], g, iv) = some (some (.int (-1000001)), g, iv) := by
  refine (at_ldc dc117_100 mc117 lk5_59).trans ?_
  exact at_iret dc117_102 mr117
-- HH.status ()I
theorem dc118_0 : decode (pm_mb 118) 0 = .ok (.aload_n 0, 1) := by decide +kernel
theorem dc118_1 : decode (pm_mb 118) 1 = .ok (.getfield 243, 3) := by decide +kernel
theorem dc118_4 : decode (pm_mb 118) 4 = .ok (.ireturn, 1) := by decide +kernel
theorem b118_0 {X : pm_X} {d : Nat} {g : pm_G} {iv : pm_V} (hL : pm_lay g) : pm_at X d 118 (0, [some (.ref 0)], [], g, iv) = some (some (.int (iv 0 7)), g, iv) := by
  refine (at_aload_n dc118_0 rfl).trans ?_
  refine (at_gfI dc118_1 mc118 lf5_243 fo5_7 (ly0 hL)).trans ?_
  exact at_iret dc118_4 mr118
-- HH.isUpTo (II)Z
theorem dc119_0 : decode (pm_mb 119) 0 = .ok (.iload_n 0, 1) := by decide +kernel
theorem dc119_1 : decode (pm_mb 119) 1 = .ok (.ifCond .lt 12, 3) := by decide +kernel
theorem dc119_4 : decode (pm_mb 119) 4 = .ok (.iload_n 0, 1) := by decide +kernel
theorem dc119_5 : decode (pm_mb 119) 5 = .ok (.iload_n 1, 1) := by decide +kernel
theorem dc119_6 : decode (pm_mb 119) 6 = .ok (.if_icmp .gt 7, 3) := by decide +kernel
theorem dc119_9 : decode (pm_mb 119) 9 = .ok (.iconst 1, 1) := by decide +kernel
theorem dc119_10 : decode (pm_mb 119) 10 = .ok (.goto 4, 3) := by decide +kernel
theorem dc119_13 : decode (pm_mb 119) 13 = .ok (.iconst 0, 1) := by decide +kernel
theorem dc119_14 : decode (pm_mb 119) 14 = .ok (.ireturn, 1) := by decide +kernel
theorem b119_0 {X : pm_X} {d : Nat} {x0 : Int32} {x1 : Int32} {g : pm_G} {iv : pm_V}  : pm_at X d 119 (0, [some (.int x0), some (.int x1)], [], g, iv) = if x0 < 0 then pm_at X d 119 (13, [some (.int x0), some (.int x1)], [], g, iv) else pm_at X d 119 (4, [some (.int x0), some (.int x1)], [], g, iv) := by
  refine (at_iload_n dc119_0 rfl).trans ?_
  exact at_if_lt (t := 13) dc119_1 (by decide)
theorem b119_4 {X : pm_X} {d : Nat} {x0 : Int32} {x1 : Int32} {g : pm_G} {iv : pm_V}  : pm_at X d 119 (4, [some (.int x0), some (.int x1)], [], g, iv) = if x1 < x0 then pm_at X d 119 (13, [some (.int x0), some (.int x1)], [], g, iv) else pm_at X d 119 (9, [some (.int x0), some (.int x1)], [], g, iv) := by
  refine (at_iload_n dc119_4 rfl).trans ?_
  refine (at_iload_n dc119_5 rfl).trans ?_
  exact at_icmp_gt (t := 13) dc119_6 (by decide)
theorem b119_9 {X : pm_X} {d : Nat} {x0 : Int32} {x1 : Int32} {g : pm_G} {iv : pm_V}  : pm_at X d 119 (9, [some (.int x0), some (.int x1)], [], g, iv) = pm_at X d 119 (14, [some (.int x0), some (.int x1)], [.int 1], g, iv) := by
  refine (at_iconst (v := 1) dc119_9 rfl).trans ?_
  refine (at_goto (t := 14) dc119_10 (by decide)).trans ?_
  rfl
theorem b119_13 {X : pm_X} {d : Nat} {x0 : Int32} {x1 : Int32} {g : pm_G} {iv : pm_V}  : pm_at X d 119 (13, [some (.int x0), some (.int x1)], [], g, iv) = pm_at X d 119 (14, [some (.int x0), some (.int x1)], [.int 0], g, iv) := by
  refine (at_iconst (v := 0) dc119_13 rfl).trans ?_
  rfl
theorem b119_14 {X : pm_X} {d : Nat} {x0 : Int32} {x1 : Int32} {s0 : Int32} {g : pm_G} {iv : pm_V}  : pm_at X d 119 (14, [some (.int x0), some (.int x1)], [.int s0], g, iv) = pm_zr s0 (some (some (.int s0), g, iv)) := by
  exact at_zretG dc119_14 mr119
-- HH.isRow (I)Z
theorem dc120_0 : decode (pm_mb 120) 0 = .ok (.iload_n 0, 1) := by decide +kernel
theorem dc120_1 : decode (pm_mb 120) 1 = .ok (.bipush 7, 2) := by decide +kernel
theorem dc120_3 : decode (pm_mb 120) 3 = .ok (.invokestatic 55, 3) := by decide +kernel
theorem dc120_6 : decode (pm_mb 120) 6 = .ok (.ireturn, 1) := by decide +kernel
theorem b120_0 {X : pm_X} {d : Nat} {x0 : Int32} {g : pm_G} {iv : pm_V}  : pm_at X d 120 (0, [some (.int x0)], [], g, iv) = pm_then X d 120 6 [some (.int x0)] [] (pm_c X d 119 [.int x0, .int 7] g iv) := by
  refine (at_iload_n dc120_0 rfl).trans ?_
  refine (at_bipush (v := 7) dc120_1 (by decide)).trans ?_
  exact at_ins dc120_3 mc120 lm5_55 (Nat.le_of_ble_eq_true rfl) rfl rfl (Nat.le_of_ble_eq_true rfl)
theorem b120_6 {X : pm_X} {d : Nat} {x0 : Int32} {s0 : Int32} {g : pm_G} {iv : pm_V}  : pm_at X d 120 (6, [some (.int x0)], [.int s0], g, iv) = pm_zr s0 (some (some (.int s0), g, iv)) := by
  exact at_zretG dc120_6 mr120
-- HH.isPair (II)Z
theorem dc121_0 : decode (pm_mb 121) 0 = .ok (.aload_n 0, 1) := by decide +kernel
theorem dc121_1 : decode (pm_mb 121) 1 = .ok (.getfield 40, 3) := by decide +kernel
theorem dc121_4 : decode (pm_mb 121) 4 = .ok (.iload_n 1, 1) := by decide +kernel
theorem dc121_5 : decode (pm_mb 121) 5 = .ok (.invokevirtual 139, 3) := by decide +kernel
theorem dc121_8 : decode (pm_mb 121) 8 = .ok (.ifCond .eq 23, 3) := by decide +kernel
theorem dc121_11 : decode (pm_mb 121) 11 = .ok (.aload_n 0, 1) := by decide +kernel
theorem dc121_12 : decode (pm_mb 121) 12 = .ok (.getfield 40, 3) := by decide +kernel
theorem dc121_15 : decode (pm_mb 121) 15 = .ok (.iload_n 2, 1) := by decide +kernel
theorem dc121_16 : decode (pm_mb 121) 16 = .ok (.invokevirtual 139, 3) := by decide +kernel
theorem dc121_19 : decode (pm_mb 121) 19 = .ok (.ifCond .eq 12, 3) := by decide +kernel
theorem dc121_22 : decode (pm_mb 121) 22 = .ok (.iload_n 1, 1) := by decide +kernel
theorem dc121_23 : decode (pm_mb 121) 23 = .ok (.iload_n 2, 1) := by decide +kernel
theorem dc121_24 : decode (pm_mb 121) 24 = .ok (.if_icmp .eq 7, 3) := by decide +kernel
theorem dc121_27 : decode (pm_mb 121) 27 = .ok (.iconst 1, 1) := by decide +kernel
theorem dc121_28 : decode (pm_mb 121) 28 = .ok (.goto 4, 3) := by decide +kernel
theorem dc121_31 : decode (pm_mb 121) 31 = .ok (.iconst 0, 1) := by decide +kernel
theorem dc121_32 : decode (pm_mb 121) 32 = .ok (.ireturn, 1) := by decide +kernel
theorem b121_0 {X : pm_X} {d : Nat} {x1 : Int32} {x2 : Int32} {g : pm_G} {iv : pm_V} (hL : pm_lay g) : pm_at X d 121 (0, [some (.ref 0), some (.int x1), some (.int x2)], [], g, iv) = pm_then X d 121 8 [some (.ref 0), some (.int x1), some (.int x2)] [] (pm_c X d 35 [.ref 11, .int x1] g iv) := by
  refine (at_aload_n dc121_0 rfl).trans ?_
  refine (at_gfR dc121_1 mc121 lf5_40 fo5_4 (ly0 hL) (lr0_4 hL)).trans ?_
  refine (at_iload_n dc121_4 rfl).trans ?_
  exact at_inv dc121_5 mc121 lm5_139 rfl rfl (Nat.le_of_ble_eq_true rfl) (Or.inl ⟨(ly11 hL), by decide⟩)
theorem b121_8 {X : pm_X} {d : Nat} {x1 : Int32} {x2 : Int32} {s0 : Int32} {g : pm_G} {iv : pm_V}  : pm_at X d 121 (8, [some (.ref 0), some (.int x1), some (.int x2)], [.int s0], g, iv) = if s0 = 0 then pm_at X d 121 (31, [some (.ref 0), some (.int x1), some (.int x2)], [], g, iv) else pm_at X d 121 (11, [some (.ref 0), some (.int x1), some (.int x2)], [], g, iv) := by
  exact at_if_eq (t := 31) dc121_8 (by decide)
theorem b121_11 {X : pm_X} {d : Nat} {x1 : Int32} {x2 : Int32} {g : pm_G} {iv : pm_V} (hL : pm_lay g) : pm_at X d 121 (11, [some (.ref 0), some (.int x1), some (.int x2)], [], g, iv) = pm_then X d 121 19 [some (.ref 0), some (.int x1), some (.int x2)] [] (pm_c X d 35 [.ref 11, .int x2] g iv) := by
  refine (at_aload_n dc121_11 rfl).trans ?_
  refine (at_gfR dc121_12 mc121 lf5_40 fo5_4 (ly0 hL) (lr0_4 hL)).trans ?_
  refine (at_iload_n dc121_15 rfl).trans ?_
  exact at_inv dc121_16 mc121 lm5_139 rfl rfl (Nat.le_of_ble_eq_true rfl) (Or.inl ⟨(ly11 hL), by decide⟩)
theorem b121_19 {X : pm_X} {d : Nat} {x1 : Int32} {x2 : Int32} {s0 : Int32} {g : pm_G} {iv : pm_V}  : pm_at X d 121 (19, [some (.ref 0), some (.int x1), some (.int x2)], [.int s0], g, iv) = if s0 = 0 then pm_at X d 121 (31, [some (.ref 0), some (.int x1), some (.int x2)], [], g, iv) else pm_at X d 121 (22, [some (.ref 0), some (.int x1), some (.int x2)], [], g, iv) := by
  exact at_if_eq (t := 31) dc121_19 (by decide)
theorem b121_22 {X : pm_X} {d : Nat} {x1 : Int32} {x2 : Int32} {g : pm_G} {iv : pm_V}  : pm_at X d 121 (22, [some (.ref 0), some (.int x1), some (.int x2)], [], g, iv) = if x1 = x2 then pm_at X d 121 (31, [some (.ref 0), some (.int x1), some (.int x2)], [], g, iv) else pm_at X d 121 (27, [some (.ref 0), some (.int x1), some (.int x2)], [], g, iv) := by
  refine (at_iload_n dc121_22 rfl).trans ?_
  refine (at_iload_n dc121_23 rfl).trans ?_
  exact at_icmp_eq (t := 31) dc121_24 (by decide)
theorem b121_27 {X : pm_X} {d : Nat} {x1 : Int32} {x2 : Int32} {g : pm_G} {iv : pm_V}  : pm_at X d 121 (27, [some (.ref 0), some (.int x1), some (.int x2)], [], g, iv) = pm_at X d 121 (32, [some (.ref 0), some (.int x1), some (.int x2)], [.int 1], g, iv) := by
  refine (at_iconst (v := 1) dc121_27 rfl).trans ?_
  refine (at_goto (t := 32) dc121_28 (by decide)).trans ?_
  rfl
theorem b121_31 {X : pm_X} {d : Nat} {x1 : Int32} {x2 : Int32} {g : pm_G} {iv : pm_V}  : pm_at X d 121 (31, [some (.ref 0), some (.int x1), some (.int x2)], [], g, iv) = pm_at X d 121 (32, [some (.ref 0), some (.int x1), some (.int x2)], [.int 0], g, iv) := by
  refine (at_iconst (v := 0) dc121_31 rfl).trans ?_
  rfl
theorem b121_32 {X : pm_X} {d : Nat} {x1 : Int32} {x2 : Int32} {s0 : Int32} {g : pm_G} {iv : pm_V}  : pm_at X d 121 (32, [some (.ref 0), some (.int x1), some (.int x2)], [.int s0], g, iv) = pm_zr s0 (some (some (.int s0), g, iv)) := by
  exact at_zretG dc121_32 mr121
-- HH.found (I)I
theorem dc122_0 : decode (pm_mb 122) 0 = .ok (.aload_n 0, 1) := by decide +kernel
theorem dc122_1 : decode (pm_mb 122) 1 = .ok (.iload_n 1, 1) := by decide +kernel
theorem dc122_2 : decode (pm_mb 122) 2 = .ok (.putfield 243, 3) := by decide +kernel
theorem dc122_5 : decode (pm_mb 122) 5 = .ok (.ldc 247, 2) := by decide +kernel
theorem dc122_7 : decode (pm_mb 122) 7 = .ok (.iload_n 1, 1) := by decide +kernel
theorem dc122_8 : decode (pm_mb 122) 8 = .ok (.isub, 1) := by decide +kernel
theorem dc122_9 : decode (pm_mb 122) 9 = .ok (.ireturn, 1) := by decide +kernel
theorem b122_0 {X : pm_X} {d : Nat} {x1 : Int32} {g : pm_G} {iv : pm_V} (hL : pm_lay g) : pm_at X d 122 (0, [some (.ref 0), some (.int x1)], [], g, iv) = some (some (.int ((-1000010) - x1)), g, (pm_iw iv 0 7 x1)) := by
  refine (at_aload_n dc122_0 rfl).trans ?_
  refine (at_iload_n dc122_1 rfl).trans ?_
  refine (at_pfI dc122_2 mc122 lf5_243 po5_7 (ly0 hL)).trans ?_
  refine (at_ldc dc122_5 mc122 lk5_247).trans ?_
  refine (at_iload_n dc122_7 rfl).trans ?_
  refine (at_isub dc122_8).trans ?_
  exact at_iret dc122_9 mr122
-- HH.answered (I)I
theorem dc123_0 : decode (pm_mb 123) 0 = .ok (.aload_n 0, 1) := by decide +kernel
theorem dc123_1 : decode (pm_mb 123) 1 = .ok (.iconst 0, 1) := by decide +kernel
theorem dc123_2 : decode (pm_mb 123) 2 = .ok (.putfield 243, 3) := by decide +kernel
theorem dc123_5 : decode (pm_mb 123) 5 = .ok (.iload_n 1, 1) := by decide +kernel
theorem dc123_6 : decode (pm_mb 123) 6 = .ok (.ireturn, 1) := by decide +kernel
theorem b123_0 {X : pm_X} {d : Nat} {x1 : Int32} {g : pm_G} {iv : pm_V} (hL : pm_lay g) : pm_at X d 123 (0, [some (.ref 0), some (.int x1)], [], g, iv) = some (some (.int x1), g, (pm_iw iv 0 7 0)) := by
  refine (at_aload_n dc123_0 rfl).trans ?_
  refine (at_iconst (v := 0) dc123_1 rfl).trans ?_
  refine (at_pfI dc123_2 mc123 lf5_243 po5_7 (ly0 hL)).trans ?_
  refine (at_iload_n dc123_5 rfl).trans ?_
  exact at_iret dc123_6 mr123
-- HH.chockAsAct (II)I
theorem dc124_0 : decode (pm_mb 124) 0 = .ok (.aload_n 0, 1) := by decide +kernel
theorem dc124_1 : decode (pm_mb 124) 1 = .ok (.getfield 26, 3) := by decide +kernel
theorem dc124_4 : decode (pm_mb 124) 4 = .ok (.aload_n 0, 1) := by decide +kernel
theorem dc124_5 : decode (pm_mb 124) 5 = .ok (.getfield 40, 3) := by decide +kernel
theorem dc124_8 : decode (pm_mb 124) 8 = .ok (.invokevirtual 133, 3) := by decide +kernel
theorem dc124_11 : decode (pm_mb 124) 11 = .ok (.aload_n 0, 1) := by decide +kernel
theorem dc124_12 : decode (pm_mb 124) 12 = .ok (.getfield 40, 3) := by decide +kernel
theorem dc124_15 : decode (pm_mb 124) 15 = .ok (.iload_n 1, 1) := by decide +kernel
theorem dc124_16 : decode (pm_mb 124) 16 = .ok (.invokevirtual 169, 3) := by decide +kernel
theorem dc124_19 : decode (pm_mb 124) 19 = .ok (.ifCond .eq 7, 3) := by decide +kernel
theorem dc124_22 : decode (pm_mb 124) 22 = .ok (.iconst 1, 1) := by decide +kernel
theorem dc124_23 : decode (pm_mb 124) 23 = .ok (.goto 4, 3) := by decide +kernel
theorem dc124_26 : decode (pm_mb 124) 26 = .ok (.iconst 0, 1) := by decide +kernel
theorem dc124_27 : decode (pm_mb 124) 27 = .ok (.istore_n 3, 1) := by decide +kernel
theorem dc124_28 : decode (pm_mb 124) 28 = .ok (.aload_n 0, 1) := by decide +kernel
theorem dc124_29 : decode (pm_mb 124) 29 = .ok (.getfield 40, 3) := by decide +kernel
theorem dc124_32 : decode (pm_mb 124) 32 = .ok (.iload_n 1, 1) := by decide +kernel
theorem dc124_33 : decode (pm_mb 124) 33 = .ok (.iload_n 2, 1) := by decide +kernel
theorem dc124_34 : decode (pm_mb 124) 34 = .ok (.iconst 1, 1) := by decide +kernel
theorem dc124_35 : decode (pm_mb 124) 35 = .ok (.if_icmp .ne 7, 3) := by decide +kernel
theorem dc124_38 : decode (pm_mb 124) 38 = .ok (.iconst 1, 1) := by decide +kernel
theorem dc124_39 : decode (pm_mb 124) 39 = .ok (.goto 4, 3) := by decide +kernel
theorem dc124_42 : decode (pm_mb 124) 42 = .ok (.iconst 0, 1) := by decide +kernel
theorem dc124_43 : decode (pm_mb 124) 43 = .ok (.invokevirtual 248, 3) := by decide +kernel
theorem dc124_46 : decode (pm_mb 124) 46 = .ok (.iload_n 3, 1) := by decide +kernel
theorem dc124_47 : decode (pm_mb 124) 47 = .ok (.ireturn, 1) := by decide +kernel
theorem b124_0 {X : pm_X} {d : Nat} {x1 : Int32} {x2 : Int32} {g : pm_G} {iv : pm_V} (hL : pm_lay g) : pm_at X d 124 (0, [some (.ref 0), some (.int x1), some (.int x2), none], [], g, iv) = pm_then X d 124 11 [some (.ref 0), some (.int x1), some (.int x2), none] [] (pm_c X d 3 [.ref 7, .ref 11] g iv) := by
  refine (at_aload_n dc124_0 rfl).trans ?_
  refine (at_gfR dc124_1 mc124 lf5_26 fo5_2 (ly0 hL) (lr0_2 hL)).trans ?_
  refine (at_aload_n dc124_4 rfl).trans ?_
  refine (at_gfR dc124_5 mc124 lf5_40 fo5_4 (ly0 hL) (lr0_4 hL)).trans ?_
  exact at_inv dc124_8 mc124 lm5_133 rfl rfl (Nat.le_of_ble_eq_true rfl) (Or.inl ⟨(ly7 hL), by decide⟩)
theorem b124_11 {X : pm_X} {d : Nat} {x1 : Int32} {x2 : Int32} {g : pm_G} {iv : pm_V} (hL : pm_lay g) : pm_at X d 124 (11, [some (.ref 0), some (.int x1), some (.int x2), none], [], g, iv) = pm_then X d 124 19 [some (.ref 0), some (.int x1), some (.int x2), none] [] (pm_c X d 41 [.ref 11, .int x1] g iv) := by
  refine (at_aload_n dc124_11 rfl).trans ?_
  refine (at_gfR dc124_12 mc124 lf5_40 fo5_4 (ly0 hL) (lr0_4 hL)).trans ?_
  refine (at_iload_n dc124_15 rfl).trans ?_
  exact at_inv dc124_16 mc124 lm5_169 rfl rfl (Nat.le_of_ble_eq_true rfl) (Or.inl ⟨(ly11 hL), by decide⟩)
theorem b124_19 {X : pm_X} {d : Nat} {x1 : Int32} {x2 : Int32} {s0 : Int32} {g : pm_G} {iv : pm_V}  : pm_at X d 124 (19, [some (.ref 0), some (.int x1), some (.int x2), none], [.int s0], g, iv) = if s0 = 0 then pm_at X d 124 (26, [some (.ref 0), some (.int x1), some (.int x2), none], [], g, iv) else pm_at X d 124 (22, [some (.ref 0), some (.int x1), some (.int x2), none], [], g, iv) := by
  exact at_if_eq (t := 26) dc124_19 (by decide)
theorem b124_22 {X : pm_X} {d : Nat} {x1 : Int32} {x2 : Int32} {g : pm_G} {iv : pm_V}  : pm_at X d 124 (22, [some (.ref 0), some (.int x1), some (.int x2), none], [], g, iv) = pm_at X d 124 (27, [some (.ref 0), some (.int x1), some (.int x2), none], [.int 1], g, iv) := by
  refine (at_iconst (v := 1) dc124_22 rfl).trans ?_
  refine (at_goto (t := 27) dc124_23 (by decide)).trans ?_
  rfl
theorem b124_26 {X : pm_X} {d : Nat} {x1 : Int32} {x2 : Int32} {g : pm_G} {iv : pm_V}  : pm_at X d 124 (26, [some (.ref 0), some (.int x1), some (.int x2), none], [], g, iv) = pm_at X d 124 (27, [some (.ref 0), some (.int x1), some (.int x2), none], [.int 0], g, iv) := by
  refine (at_iconst (v := 0) dc124_26 rfl).trans ?_
  rfl
theorem b124_27 {X : pm_X} {d : Nat} {x1 : Int32} {x2 : Int32} {s0 : Int32} {g : pm_G} {iv : pm_V} (hL : pm_lay g) : pm_at X d 124 (27, [some (.ref 0), some (.int x1), some (.int x2), none], [.int s0], g, iv) = if ¬ x2 = 1 then pm_at X d 124 (42, [some (.ref 0), some (.int x1), some (.int x2), some (.int s0)], [.int x1, .ref 11], g, iv) else pm_at X d 124 (38, [some (.ref 0), some (.int x1), some (.int x2), some (.int s0)], [.int x1, .ref 11], g, iv) := by
  refine (at_istore_n dc124_27 rfl).trans ?_
  refine (at_aload_n dc124_28 rfl).trans ?_
  refine (at_gfR dc124_29 mc124 lf5_40 fo5_4 (ly0 hL) (lr0_4 hL)).trans ?_
  refine (at_iload_n dc124_32 rfl).trans ?_
  refine (at_iload_n dc124_33 rfl).trans ?_
  refine (at_iconst (v := 1) dc124_34 rfl).trans ?_
  exact at_icmp_ne (t := 42) dc124_35 (by decide)
theorem b124_38 {X : pm_X} {d : Nat} {x1 : Int32} {x2 : Int32} {x3 : Int32} {s0 : Int32} {g : pm_G} {iv : pm_V}  : pm_at X d 124 (38, [some (.ref 0), some (.int x1), some (.int x2), some (.int x3)], [.int s0, .ref 11], g, iv) = pm_at X d 124 (43, [some (.ref 0), some (.int x1), some (.int x2), some (.int x3)], [.int 1, .int s0, .ref 11], g, iv) := by
  refine (at_iconst (v := 1) dc124_38 rfl).trans ?_
  refine (at_goto (t := 43) dc124_39 (by decide)).trans ?_
  rfl
theorem b124_42 {X : pm_X} {d : Nat} {x1 : Int32} {x2 : Int32} {x3 : Int32} {s0 : Int32} {g : pm_G} {iv : pm_V}  : pm_at X d 124 (42, [some (.ref 0), some (.int x1), some (.int x2), some (.int x3)], [.int s0, .ref 11], g, iv) = pm_at X d 124 (43, [some (.ref 0), some (.int x1), some (.int x2), some (.int x3)], [.int 0, .int s0, .ref 11], g, iv) := by
  refine (at_iconst (v := 0) dc124_42 rfl).trans ?_
  rfl
theorem b124_43 {X : pm_X} {d : Nat} {x1 : Int32} {x2 : Int32} {x3 : Int32} {s0 : Int32} {s1 : Int32} {g : pm_G} {iv : pm_V} (hL : pm_lay g) : pm_at X d 124 (43, [some (.ref 0), some (.int x1), some (.int x2), some (.int x3)], [.int s0, .int s1, .ref 11], g, iv) = pm_then X d 124 46 [some (.ref 0), some (.int x1), some (.int x2), some (.int x3)] [] (pm_c X d 55 [.ref 11, .int s1, .int s0] g iv) := by
  exact at_inv dc124_43 mc124 lm5_248 rfl rfl (Nat.le_of_ble_eq_true rfl) (Or.inl ⟨(ly11 hL), by decide⟩)
theorem b124_46 {X : pm_X} {d : Nat} {x1 : Int32} {x2 : Int32} {x3 : Int32} {g : pm_G} {iv : pm_V}  : pm_at X d 124 (46, [some (.ref 0), some (.int x1), some (.int x2), some (.int x3)], [], g, iv) = some (some (.int x3), g, iv) := by
  refine (at_iload_n dc124_46 rfl).trans ?_
  exact at_iret dc124_47 mr124
-- HH.rollTrial (I)V
theorem dc125_0 : decode (pm_mb 125) 0 = .ok (.iconst 0, 1) := by decide +kernel
theorem dc125_1 : decode (pm_mb 125) 1 = .ok (.istore_n 2, 1) := by decide +kernel
theorem dc125_2 : decode (pm_mb 125) 2 = .ok (.iload_n 2, 1) := by decide +kernel
theorem dc125_3 : decode (pm_mb 125) 3 = .ok (.iload_n 1, 1) := by decide +kernel
theorem dc125_4 : decode (pm_mb 125) 4 = .ok (.if_icmp .ge 17, 3) := by decide +kernel
theorem dc125_7 : decode (pm_mb 125) 7 = .ok (.aload_n 0, 1) := by decide +kernel
theorem dc125_8 : decode (pm_mb 125) 8 = .ok (.getfield 44, 3) := by decide +kernel
theorem dc125_11 : decode (pm_mb 125) 11 = .ok (.invokevirtual 136, 3) := by decide +kernel
theorem dc125_14 : decode (pm_mb 125) 14 = .ok (.pop, 1) := by decide +kernel
theorem dc125_15 : decode (pm_mb 125) 15 = .ok (.iinc 2 1, 3) := by decide +kernel
theorem dc125_18 : decode (pm_mb 125) 18 = .ok (.goto (-16), 3) := by decide +kernel
theorem dc125_21 : decode (pm_mb 125) 21 = .ok (.return_, 1) := by decide +kernel
theorem b125_0 {X : pm_X} {d : Nat} {x1 : Int32} {g : pm_G} {iv : pm_V}  : pm_at X d 125 (0, [some (.ref 0), some (.int x1), none], [], g, iv) = pm_at X d 125 (2, [some (.ref 0), some (.int x1), some (.int 0)], [], g, iv) := by
  refine (at_iconst (v := 0) dc125_0 rfl).trans ?_
  refine (at_istore_n dc125_1 rfl).trans ?_
  rfl
theorem b125_2 {X : pm_X} {d : Nat} {x1 : Int32} {x2 : Int32} {g : pm_G} {iv : pm_V}  : pm_at X d 125 (2, [some (.ref 0), some (.int x1), some (.int x2)], [], g, iv) = if x1 ≤ x2 then pm_at X d 125 (21, [some (.ref 0), some (.int x1), some (.int x2)], [], g, iv) else pm_at X d 125 (7, [some (.ref 0), some (.int x1), some (.int x2)], [], g, iv) := by
  refine (at_iload_n dc125_2 rfl).trans ?_
  refine (at_iload_n dc125_3 rfl).trans ?_
  exact at_icmp_ge (t := 21) dc125_4 (by decide)
theorem b125_7 {X : pm_X} {d : Nat} {x1 : Int32} {x2 : Int32} {g : pm_G} {iv : pm_V} (hL : pm_lay g) : pm_at X d 125 (7, [some (.ref 0), some (.int x1), some (.int x2)], [], g, iv) = pm_then X d 125 14 [some (.ref 0), some (.int x1), some (.int x2)] [] (pm_c X d 60 [.ref 21] g iv) := by
  refine (at_aload_n dc125_7 rfl).trans ?_
  refine (at_gfR dc125_8 mc125 lf5_44 fo5_5 (ly0 hL) (lr0_5 hL)).trans ?_
  exact at_inv dc125_11 mc125 lm5_136 rfl rfl (Nat.le_of_ble_eq_true rfl) (Or.inl ⟨(ly21 hL), by decide⟩)
theorem b125_14 {X : pm_X} {d : Nat} {x1 : Int32} {x2 : Int32} {s0 : Int32} {g : pm_G} {iv : pm_V}  : pm_at X d 125 (14, [some (.ref 0), some (.int x1), some (.int x2)], [.int s0], g, iv) = pm_at X d 125 (2, [some (.ref 0), some (.int x1), some (.int (x2 + 1))], [], g, iv) := by
  refine (at_pop dc125_14 rfl).trans ?_
  refine (at_iinc (v := 1) dc125_15 rfl (by decide) rfl).trans ?_
  refine (at_goto (t := 2) dc125_18 (by decide)).trans ?_
  rfl
theorem b125_21 {X : pm_X} {d : Nat} {x1 : Int32} {x2 : Int32} {g : pm_G} {iv : pm_V}  : pm_at X d 125 (21, [some (.ref 0), some (.int x1), some (.int x2)], [], g, iv) = some (none, g, iv) := by
  exact at_vret dc125_21 mr125
-- HH.meetsBy (IIIII)Z
theorem dc126_0 : decode (pm_mb 126) 0 = .ok (.aload_n 0, 1) := by decide +kernel
theorem dc126_1 : decode (pm_mb 126) 1 = .ok (.getfield 44, 3) := by decide +kernel
theorem dc126_4 : decode (pm_mb 126) 4 = .ok (.aload_n 0, 1) := by decide +kernel
theorem dc126_5 : decode (pm_mb 126) 5 = .ok (.getfield 40, 3) := by decide +kernel
theorem dc126_8 : decode (pm_mb 126) 8 = .ok (.invokevirtual 112, 3) := by decide +kernel
theorem dc126_11 : decode (pm_mb 126) 11 = .ok (.iconst 0, 1) := by decide +kernel
theorem dc126_12 : decode (pm_mb 126) 12 = .ok (.istore 6, 2) := by decide +kernel
theorem dc126_14 : decode (pm_mb 126) 14 = .ok (.iload 6, 2) := by decide +kernel
theorem dc126_16 : decode (pm_mb 126) 16 = .ok (.iload 5, 2) := by decide +kernel
theorem dc126_18 : decode (pm_mb 126) 18 = .ok (.if_icmp .ge 78, 3) := by decide +kernel
theorem dc126_21 : decode (pm_mb 126) 21 = .ok (.aload_n 0, 1) := by decide +kernel
theorem dc126_22 : decode (pm_mb 126) 22 = .ok (.getfield 44, 3) := by decide +kernel
theorem dc126_25 : decode (pm_mb 126) 25 = .ok (.iload_n 1, 1) := by decide +kernel
theorem dc126_26 : decode (pm_mb 126) 26 = .ok (.iload 6, 2) := by decide +kernel
theorem dc126_28 : decode (pm_mb 126) 28 = .ok (.iload_n 2, 1) := by decide +kernel
theorem dc126_29 : decode (pm_mb 126) 29 = .ok (.if_icmp .lt 14, 3) := by decide +kernel
theorem dc126_32 : decode (pm_mb 126) 32 = .ok (.aload_n 0, 1) := by decide +kernel
theorem dc126_33 : decode (pm_mb 126) 33 = .ok (.getfield 40, 3) := by decide +kernel
theorem dc126_36 : decode (pm_mb 126) 36 = .ok (.iload_n 1, 1) := by decide +kernel
theorem dc126_37 : decode (pm_mb 126) 37 = .ok (.invokevirtual 169, 3) := by decide +kernel
theorem dc126_40 : decode (pm_mb 126) 40 = .ok (.ifCond .eq 7, 3) := by decide +kernel
theorem dc126_43 : decode (pm_mb 126) 43 = .ok (.iconst 1, 1) := by decide +kernel
theorem dc126_44 : decode (pm_mb 126) 44 = .ok (.goto 4, 3) := by decide +kernel
theorem dc126_47 : decode (pm_mb 126) 47 = .ok (.iconst 0, 1) := by decide +kernel
theorem dc126_48 : decode (pm_mb 126) 48 = .ok (.invokevirtual 248, 3) := by decide +kernel
theorem dc126_51 : decode (pm_mb 126) 51 = .ok (.aload_n 0, 1) := by decide +kernel
theorem dc126_52 : decode (pm_mb 126) 52 = .ok (.getfield 44, 3) := by decide +kernel
theorem dc126_55 : decode (pm_mb 126) 55 = .ok (.iload_n 3, 1) := by decide +kernel
theorem dc126_56 : decode (pm_mb 126) 56 = .ok (.iload 6, 2) := by decide +kernel
theorem dc126_58 : decode (pm_mb 126) 58 = .ok (.iload 4, 2) := by decide +kernel
theorem dc126_60 : decode (pm_mb 126) 60 = .ok (.if_icmp .lt 14, 3) := by decide +kernel
theorem dc126_63 : decode (pm_mb 126) 63 = .ok (.aload_n 0, 1) := by decide +kernel
theorem dc126_64 : decode (pm_mb 126) 64 = .ok (.getfield 40, 3) := by decide +kernel
theorem dc126_67 : decode (pm_mb 126) 67 = .ok (.iload_n 3, 1) := by decide +kernel
theorem dc126_68 : decode (pm_mb 126) 68 = .ok (.invokevirtual 169, 3) := by decide +kernel
theorem dc126_71 : decode (pm_mb 126) 71 = .ok (.ifCond .eq 7, 3) := by decide +kernel
theorem dc126_74 : decode (pm_mb 126) 74 = .ok (.iconst 1, 1) := by decide +kernel
theorem dc126_75 : decode (pm_mb 126) 75 = .ok (.goto 4, 3) := by decide +kernel
theorem dc126_78 : decode (pm_mb 126) 78 = .ok (.iconst 0, 1) := by decide +kernel
theorem dc126_79 : decode (pm_mb 126) 79 = .ok (.invokevirtual 248, 3) := by decide +kernel
theorem dc126_82 : decode (pm_mb 126) 82 = .ok (.aload_n 0, 1) := by decide +kernel
theorem dc126_83 : decode (pm_mb 126) 83 = .ok (.getfield 44, 3) := by decide +kernel
theorem dc126_86 : decode (pm_mb 126) 86 = .ok (.invokevirtual 136, 3) := by decide +kernel
theorem dc126_89 : decode (pm_mb 126) 89 = .ok (.pop, 1) := by decide +kernel
theorem dc126_90 : decode (pm_mb 126) 90 = .ok (.iinc 6 1, 3) := by decide +kernel
theorem dc126_93 : decode (pm_mb 126) 93 = .ok (.goto (-79), 3) := by decide +kernel
theorem dc126_96 : decode (pm_mb 126) 96 = .ok (.aload_n 0, 1) := by decide +kernel
theorem dc126_97 : decode (pm_mb 126) 97 = .ok (.getfield 44, 3) := by decide +kernel
theorem dc126_100 : decode (pm_mb 126) 100 = .ok (.iload_n 1, 1) := by decide +kernel
theorem dc126_101 : decode (pm_mb 126) 101 = .ok (.iload_n 3, 1) := by decide +kernel
theorem dc126_102 : decode (pm_mb 126) 102 = .ok (.invokevirtual 192, 3) := by decide +kernel
theorem dc126_105 : decode (pm_mb 126) 105 = .ok (.ireturn, 1) := by decide +kernel
theorem b126_0 {X : pm_X} {d : Nat} {x1 : Int32} {x2 : Int32} {x3 : Int32} {x4 : Int32} {x5 : Int32} {g : pm_G} {iv : pm_V} (hL : pm_lay g) : pm_at X d 126 (0, [some (.ref 0), some (.int x1), some (.int x2), some (.int x3), some (.int x4), some (.int x5), none], [], g, iv) = pm_then X d 126 11 [some (.ref 0), some (.int x1), some (.int x2), some (.int x3), some (.int x4), some (.int x5), none] [] (pm_c X d 52 [.ref 21, .ref 11] g iv) := by
  refine (at_aload_n dc126_0 rfl).trans ?_
  refine (at_gfR dc126_1 mc126 lf5_44 fo5_5 (ly0 hL) (lr0_5 hL)).trans ?_
  refine (at_aload_n dc126_4 rfl).trans ?_
  refine (at_gfR dc126_5 mc126 lf5_40 fo5_4 (ly0 hL) (lr0_4 hL)).trans ?_
  exact at_inv dc126_8 mc126 lm5_112 rfl rfl (Nat.le_of_ble_eq_true rfl) (Or.inl ⟨(ly21 hL), by decide⟩)
theorem b126_11 {X : pm_X} {d : Nat} {x1 : Int32} {x2 : Int32} {x3 : Int32} {x4 : Int32} {x5 : Int32} {g : pm_G} {iv : pm_V}  : pm_at X d 126 (11, [some (.ref 0), some (.int x1), some (.int x2), some (.int x3), some (.int x4), some (.int x5), none], [], g, iv) = pm_at X d 126 (14, [some (.ref 0), some (.int x1), some (.int x2), some (.int x3), some (.int x4), some (.int x5), some (.int 0)], [], g, iv) := by
  refine (at_iconst (v := 0) dc126_11 rfl).trans ?_
  refine (at_istore dc126_12 rfl).trans ?_
  rfl
theorem b126_14 {X : pm_X} {d : Nat} {x1 : Int32} {x2 : Int32} {x3 : Int32} {x4 : Int32} {x5 : Int32} {x6 : Int32} {g : pm_G} {iv : pm_V}  : pm_at X d 126 (14, [some (.ref 0), some (.int x1), some (.int x2), some (.int x3), some (.int x4), some (.int x5), some (.int x6)], [], g, iv) = if x5 ≤ x6 then pm_at X d 126 (96, [some (.ref 0), some (.int x1), some (.int x2), some (.int x3), some (.int x4), some (.int x5), some (.int x6)], [], g, iv) else pm_at X d 126 (21, [some (.ref 0), some (.int x1), some (.int x2), some (.int x3), some (.int x4), some (.int x5), some (.int x6)], [], g, iv) := by
  refine (at_iload dc126_14 rfl).trans ?_
  refine (at_iload dc126_16 rfl).trans ?_
  exact at_icmp_ge (t := 96) dc126_18 (by decide)
theorem b126_21 {X : pm_X} {d : Nat} {x1 : Int32} {x2 : Int32} {x3 : Int32} {x4 : Int32} {x5 : Int32} {x6 : Int32} {g : pm_G} {iv : pm_V} (hL : pm_lay g) : pm_at X d 126 (21, [some (.ref 0), some (.int x1), some (.int x2), some (.int x3), some (.int x4), some (.int x5), some (.int x6)], [], g, iv) = if x6 < x2 then pm_at X d 126 (43, [some (.ref 0), some (.int x1), some (.int x2), some (.int x3), some (.int x4), some (.int x5), some (.int x6)], [.int x1, .ref 21], g, iv) else pm_at X d 126 (32, [some (.ref 0), some (.int x1), some (.int x2), some (.int x3), some (.int x4), some (.int x5), some (.int x6)], [.int x1, .ref 21], g, iv) := by
  refine (at_aload_n dc126_21 rfl).trans ?_
  refine (at_gfR dc126_22 mc126 lf5_44 fo5_5 (ly0 hL) (lr0_5 hL)).trans ?_
  refine (at_iload_n dc126_25 rfl).trans ?_
  refine (at_iload dc126_26 rfl).trans ?_
  refine (at_iload_n dc126_28 rfl).trans ?_
  exact at_icmp_lt (t := 43) dc126_29 (by decide)
theorem b126_32 {X : pm_X} {d : Nat} {x1 : Int32} {x2 : Int32} {x3 : Int32} {x4 : Int32} {x5 : Int32} {x6 : Int32} {s0 : Int32} {g : pm_G} {iv : pm_V} (hL : pm_lay g) : pm_at X d 126 (32, [some (.ref 0), some (.int x1), some (.int x2), some (.int x3), some (.int x4), some (.int x5), some (.int x6)], [.int s0, .ref 21], g, iv) = pm_then X d 126 40 [some (.ref 0), some (.int x1), some (.int x2), some (.int x3), some (.int x4), some (.int x5), some (.int x6)] [.int s0, .ref 21] (pm_c X d 41 [.ref 11, .int x1] g iv) := by
  refine (at_aload_n dc126_32 rfl).trans ?_
  refine (at_gfR dc126_33 mc126 lf5_40 fo5_4 (ly0 hL) (lr0_4 hL)).trans ?_
  refine (at_iload_n dc126_36 rfl).trans ?_
  exact at_inv dc126_37 mc126 lm5_169 rfl rfl (Nat.le_of_ble_eq_true rfl) (Or.inl ⟨(ly11 hL), by decide⟩)
theorem b126_40 {X : pm_X} {d : Nat} {x1 : Int32} {x2 : Int32} {x3 : Int32} {x4 : Int32} {x5 : Int32} {x6 : Int32} {s0 : Int32} {s1 : Int32} {g : pm_G} {iv : pm_V}  : pm_at X d 126 (40, [some (.ref 0), some (.int x1), some (.int x2), some (.int x3), some (.int x4), some (.int x5), some (.int x6)], [.int s0, .int s1, .ref 21], g, iv) = if s0 = 0 then pm_at X d 126 (47, [some (.ref 0), some (.int x1), some (.int x2), some (.int x3), some (.int x4), some (.int x5), some (.int x6)], [.int s1, .ref 21], g, iv) else pm_at X d 126 (43, [some (.ref 0), some (.int x1), some (.int x2), some (.int x3), some (.int x4), some (.int x5), some (.int x6)], [.int s1, .ref 21], g, iv) := by
  exact at_if_eq (t := 47) dc126_40 (by decide)
theorem b126_43 {X : pm_X} {d : Nat} {x1 : Int32} {x2 : Int32} {x3 : Int32} {x4 : Int32} {x5 : Int32} {x6 : Int32} {s0 : Int32} {g : pm_G} {iv : pm_V}  : pm_at X d 126 (43, [some (.ref 0), some (.int x1), some (.int x2), some (.int x3), some (.int x4), some (.int x5), some (.int x6)], [.int s0, .ref 21], g, iv) = pm_at X d 126 (48, [some (.ref 0), some (.int x1), some (.int x2), some (.int x3), some (.int x4), some (.int x5), some (.int x6)], [.int 1, .int s0, .ref 21], g, iv) := by
  refine (at_iconst (v := 1) dc126_43 rfl).trans ?_
  refine (at_goto (t := 48) dc126_44 (by decide)).trans ?_
  rfl
theorem b126_47 {X : pm_X} {d : Nat} {x1 : Int32} {x2 : Int32} {x3 : Int32} {x4 : Int32} {x5 : Int32} {x6 : Int32} {s0 : Int32} {g : pm_G} {iv : pm_V}  : pm_at X d 126 (47, [some (.ref 0), some (.int x1), some (.int x2), some (.int x3), some (.int x4), some (.int x5), some (.int x6)], [.int s0, .ref 21], g, iv) = pm_at X d 126 (48, [some (.ref 0), some (.int x1), some (.int x2), some (.int x3), some (.int x4), some (.int x5), some (.int x6)], [.int 0, .int s0, .ref 21], g, iv) := by
  refine (at_iconst (v := 0) dc126_47 rfl).trans ?_
  rfl
theorem b126_48 {X : pm_X} {d : Nat} {x1 : Int32} {x2 : Int32} {x3 : Int32} {x4 : Int32} {x5 : Int32} {x6 : Int32} {s0 : Int32} {s1 : Int32} {g : pm_G} {iv : pm_V} (hL : pm_lay g) : pm_at X d 126 (48, [some (.ref 0), some (.int x1), some (.int x2), some (.int x3), some (.int x4), some (.int x5), some (.int x6)], [.int s0, .int s1, .ref 21], g, iv) = pm_then X d 126 51 [some (.ref 0), some (.int x1), some (.int x2), some (.int x3), some (.int x4), some (.int x5), some (.int x6)] [] (pm_c X d 55 [.ref 21, .int s1, .int s0] g iv) := by
  exact at_inv dc126_48 mc126 lm5_248 rfl rfl (Nat.le_of_ble_eq_true rfl) (Or.inl ⟨(ly21 hL), by decide⟩)
theorem b126_51 {X : pm_X} {d : Nat} {x1 : Int32} {x2 : Int32} {x3 : Int32} {x4 : Int32} {x5 : Int32} {x6 : Int32} {g : pm_G} {iv : pm_V} (hL : pm_lay g) : pm_at X d 126 (51, [some (.ref 0), some (.int x1), some (.int x2), some (.int x3), some (.int x4), some (.int x5), some (.int x6)], [], g, iv) = if x6 < x4 then pm_at X d 126 (74, [some (.ref 0), some (.int x1), some (.int x2), some (.int x3), some (.int x4), some (.int x5), some (.int x6)], [.int x3, .ref 21], g, iv) else pm_at X d 126 (63, [some (.ref 0), some (.int x1), some (.int x2), some (.int x3), some (.int x4), some (.int x5), some (.int x6)], [.int x3, .ref 21], g, iv) := by
  refine (at_aload_n dc126_51 rfl).trans ?_
  refine (at_gfR dc126_52 mc126 lf5_44 fo5_5 (ly0 hL) (lr0_5 hL)).trans ?_
  refine (at_iload_n dc126_55 rfl).trans ?_
  refine (at_iload dc126_56 rfl).trans ?_
  refine (at_iload dc126_58 rfl).trans ?_
  exact at_icmp_lt (t := 74) dc126_60 (by decide)
theorem b126_63 {X : pm_X} {d : Nat} {x1 : Int32} {x2 : Int32} {x3 : Int32} {x4 : Int32} {x5 : Int32} {x6 : Int32} {s0 : Int32} {g : pm_G} {iv : pm_V} (hL : pm_lay g) : pm_at X d 126 (63, [some (.ref 0), some (.int x1), some (.int x2), some (.int x3), some (.int x4), some (.int x5), some (.int x6)], [.int s0, .ref 21], g, iv) = pm_then X d 126 71 [some (.ref 0), some (.int x1), some (.int x2), some (.int x3), some (.int x4), some (.int x5), some (.int x6)] [.int s0, .ref 21] (pm_c X d 41 [.ref 11, .int x3] g iv) := by
  refine (at_aload_n dc126_63 rfl).trans ?_
  refine (at_gfR dc126_64 mc126 lf5_40 fo5_4 (ly0 hL) (lr0_4 hL)).trans ?_
  refine (at_iload_n dc126_67 rfl).trans ?_
  exact at_inv dc126_68 mc126 lm5_169 rfl rfl (Nat.le_of_ble_eq_true rfl) (Or.inl ⟨(ly11 hL), by decide⟩)
theorem b126_71 {X : pm_X} {d : Nat} {x1 : Int32} {x2 : Int32} {x3 : Int32} {x4 : Int32} {x5 : Int32} {x6 : Int32} {s0 : Int32} {s1 : Int32} {g : pm_G} {iv : pm_V}  : pm_at X d 126 (71, [some (.ref 0), some (.int x1), some (.int x2), some (.int x3), some (.int x4), some (.int x5), some (.int x6)], [.int s0, .int s1, .ref 21], g, iv) = if s0 = 0 then pm_at X d 126 (78, [some (.ref 0), some (.int x1), some (.int x2), some (.int x3), some (.int x4), some (.int x5), some (.int x6)], [.int s1, .ref 21], g, iv) else pm_at X d 126 (74, [some (.ref 0), some (.int x1), some (.int x2), some (.int x3), some (.int x4), some (.int x5), some (.int x6)], [.int s1, .ref 21], g, iv) := by
  exact at_if_eq (t := 78) dc126_71 (by decide)
theorem b126_74 {X : pm_X} {d : Nat} {x1 : Int32} {x2 : Int32} {x3 : Int32} {x4 : Int32} {x5 : Int32} {x6 : Int32} {s0 : Int32} {g : pm_G} {iv : pm_V}  : pm_at X d 126 (74, [some (.ref 0), some (.int x1), some (.int x2), some (.int x3), some (.int x4), some (.int x5), some (.int x6)], [.int s0, .ref 21], g, iv) = pm_at X d 126 (79, [some (.ref 0), some (.int x1), some (.int x2), some (.int x3), some (.int x4), some (.int x5), some (.int x6)], [.int 1, .int s0, .ref 21], g, iv) := by
  refine (at_iconst (v := 1) dc126_74 rfl).trans ?_
  refine (at_goto (t := 79) dc126_75 (by decide)).trans ?_
  rfl
theorem b126_78 {X : pm_X} {d : Nat} {x1 : Int32} {x2 : Int32} {x3 : Int32} {x4 : Int32} {x5 : Int32} {x6 : Int32} {s0 : Int32} {g : pm_G} {iv : pm_V}  : pm_at X d 126 (78, [some (.ref 0), some (.int x1), some (.int x2), some (.int x3), some (.int x4), some (.int x5), some (.int x6)], [.int s0, .ref 21], g, iv) = pm_at X d 126 (79, [some (.ref 0), some (.int x1), some (.int x2), some (.int x3), some (.int x4), some (.int x5), some (.int x6)], [.int 0, .int s0, .ref 21], g, iv) := by
  refine (at_iconst (v := 0) dc126_78 rfl).trans ?_
  rfl
theorem b126_79 {X : pm_X} {d : Nat} {x1 : Int32} {x2 : Int32} {x3 : Int32} {x4 : Int32} {x5 : Int32} {x6 : Int32} {s0 : Int32} {s1 : Int32} {g : pm_G} {iv : pm_V} (hL : pm_lay g) : pm_at X d 126 (79, [some (.ref 0), some (.int x1), some (.int x2), some (.int x3), some (.int x4), some (.int x5), some (.int x6)], [.int s0, .int s1, .ref 21], g, iv) = pm_then X d 126 82 [some (.ref 0), some (.int x1), some (.int x2), some (.int x3), some (.int x4), some (.int x5), some (.int x6)] [] (pm_c X d 55 [.ref 21, .int s1, .int s0] g iv) := by
  exact at_inv dc126_79 mc126 lm5_248 rfl rfl (Nat.le_of_ble_eq_true rfl) (Or.inl ⟨(ly21 hL), by decide⟩)
theorem b126_82 {X : pm_X} {d : Nat} {x1 : Int32} {x2 : Int32} {x3 : Int32} {x4 : Int32} {x5 : Int32} {x6 : Int32} {g : pm_G} {iv : pm_V} (hL : pm_lay g) : pm_at X d 126 (82, [some (.ref 0), some (.int x1), some (.int x2), some (.int x3), some (.int x4), some (.int x5), some (.int x6)], [], g, iv) = pm_then X d 126 89 [some (.ref 0), some (.int x1), some (.int x2), some (.int x3), some (.int x4), some (.int x5), some (.int x6)] [] (pm_c X d 60 [.ref 21] g iv) := by
  refine (at_aload_n dc126_82 rfl).trans ?_
  refine (at_gfR dc126_83 mc126 lf5_44 fo5_5 (ly0 hL) (lr0_5 hL)).trans ?_
  exact at_inv dc126_86 mc126 lm5_136 rfl rfl (Nat.le_of_ble_eq_true rfl) (Or.inl ⟨(ly21 hL), by decide⟩)
theorem b126_89 {X : pm_X} {d : Nat} {x1 : Int32} {x2 : Int32} {x3 : Int32} {x4 : Int32} {x5 : Int32} {x6 : Int32} {s0 : Int32} {g : pm_G} {iv : pm_V}  : pm_at X d 126 (89, [some (.ref 0), some (.int x1), some (.int x2), some (.int x3), some (.int x4), some (.int x5), some (.int x6)], [.int s0], g, iv) = pm_at X d 126 (14, [some (.ref 0), some (.int x1), some (.int x2), some (.int x3), some (.int x4), some (.int x5), some (.int (x6 + 1))], [], g, iv) := by
  refine (at_pop dc126_89 rfl).trans ?_
  refine (at_iinc (v := 1) dc126_90 rfl (by decide) rfl).trans ?_
  refine (at_goto (t := 14) dc126_93 (by decide)).trans ?_
  rfl
theorem b126_96 {X : pm_X} {d : Nat} {x1 : Int32} {x2 : Int32} {x3 : Int32} {x4 : Int32} {x5 : Int32} {x6 : Int32} {g : pm_G} {iv : pm_V} (hL : pm_lay g) : pm_at X d 126 (96, [some (.ref 0), some (.int x1), some (.int x2), some (.int x3), some (.int x4), some (.int x5), some (.int x6)], [], g, iv) = pm_then X d 126 105 [some (.ref 0), some (.int x1), some (.int x2), some (.int x3), some (.int x4), some (.int x5), some (.int x6)] [] (pm_c X d 48 [.ref 21, .int x1, .int x3] g iv) := by
  refine (at_aload_n dc126_96 rfl).trans ?_
  refine (at_gfR dc126_97 mc126 lf5_44 fo5_5 (ly0 hL) (lr0_5 hL)).trans ?_
  refine (at_iload_n dc126_100 rfl).trans ?_
  refine (at_iload_n dc126_101 rfl).trans ?_
  exact at_inv dc126_102 mc126 lm5_192 rfl rfl (Nat.le_of_ble_eq_true rfl) (Or.inl ⟨(ly21 hL), by decide⟩)
theorem b126_105 {X : pm_X} {d : Nat} {x1 : Int32} {x2 : Int32} {x3 : Int32} {x4 : Int32} {x5 : Int32} {x6 : Int32} {s0 : Int32} {g : pm_G} {iv : pm_V}  : pm_at X d 126 (105, [some (.ref 0), some (.int x1), some (.int x2), some (.int x3), some (.int x4), some (.int x5), some (.int x6)], [.int s0], g, iv) = pm_zr s0 (some (some (.int s0), g, iv)) := by
  exact at_zretG dc126_105 mr126
-- HH.comesSo (II)Z
theorem dc127_0 : decode (pm_mb 127) 0 = .ok (.aload_n 0, 1) := by decide +kernel
theorem dc127_1 : decode (pm_mb 127) 1 = .ok (.getfield 44, 3) := by decide +kernel
theorem dc127_4 : decode (pm_mb 127) 4 = .ok (.aload_n 0, 1) := by decide +kernel
theorem dc127_5 : decode (pm_mb 127) 5 = .ok (.getfield 40, 3) := by decide +kernel
theorem dc127_8 : decode (pm_mb 127) 8 = .ok (.invokevirtual 112, 3) := by decide +kernel
theorem dc127_11 : decode (pm_mb 127) 11 = .ok (.iconst 0, 1) := by decide +kernel
theorem dc127_12 : decode (pm_mb 127) 12 = .ok (.istore_n 3, 1) := by decide +kernel
theorem dc127_13 : decode (pm_mb 127) 13 = .ok (.iload_n 3, 1) := by decide +kernel
theorem dc127_14 : decode (pm_mb 127) 14 = .ok (.aload_n 0, 1) := by decide +kernel
theorem dc127_15 : decode (pm_mb 127) 15 = .ok (.getfield 40, 3) := by decide +kernel
theorem dc127_18 : decode (pm_mb 127) 18 = .ok (.invokevirtual 119, 3) := by decide +kernel
theorem dc127_21 : decode (pm_mb 127) 21 = .ok (.if_icmp .ge 27, 3) := by decide +kernel
theorem dc127_24 : decode (pm_mb 127) 24 = .ok (.iload_n 2, 1) := by decide +kernel
theorem dc127_25 : decode (pm_mb 127) 25 = .ok (.iload_n 3, 1) := by decide +kernel
theorem dc127_26 : decode (pm_mb 127) 26 = .ok (.ishr, 1) := by decide +kernel
theorem dc127_27 : decode (pm_mb 127) 27 = .ok (.iconst 1, 1) := by decide +kernel
theorem dc127_28 : decode (pm_mb 127) 28 = .ok (.iand, 1) := by decide +kernel
theorem dc127_29 : decode (pm_mb 127) 29 = .ok (.iconst 1, 1) := by decide +kernel
theorem dc127_30 : decode (pm_mb 127) 30 = .ok (.if_icmp .ne 12, 3) := by decide +kernel
theorem dc127_33 : decode (pm_mb 127) 33 = .ok (.aload_n 0, 1) := by decide +kernel
theorem dc127_34 : decode (pm_mb 127) 34 = .ok (.getfield 44, 3) := by decide +kernel
theorem dc127_37 : decode (pm_mb 127) 37 = .ok (.iload_n 3, 1) := by decide +kernel
theorem dc127_38 : decode (pm_mb 127) 38 = .ok (.iconst 0, 1) := by decide +kernel
theorem dc127_39 : decode (pm_mb 127) 39 = .ok (.invokevirtual 248, 3) := by decide +kernel
theorem dc127_42 : decode (pm_mb 127) 42 = .ok (.iinc 3 1, 3) := by decide +kernel
theorem dc127_45 : decode (pm_mb 127) 45 = .ok (.goto (-32), 3) := by decide +kernel
theorem dc127_48 : decode (pm_mb 127) 48 = .ok (.aload_n 0, 1) := by decide +kernel
theorem dc127_49 : decode (pm_mb 127) 49 = .ok (.getfield 44, 3) := by decide +kernel
theorem dc127_52 : decode (pm_mb 127) 52 = .ok (.invokevirtual 136, 3) := by decide +kernel
theorem dc127_55 : decode (pm_mb 127) 55 = .ok (.pop, 1) := by decide +kernel
theorem dc127_56 : decode (pm_mb 127) 56 = .ok (.iconst 0, 1) := by decide +kernel
theorem dc127_57 : decode (pm_mb 127) 57 = .ok (.istore_n 3, 1) := by decide +kernel
theorem dc127_58 : decode (pm_mb 127) 58 = .ok (.iload_n 3, 1) := by decide +kernel
theorem dc127_59 : decode (pm_mb 127) 59 = .ok (.aload_n 0, 1) := by decide +kernel
theorem dc127_60 : decode (pm_mb 127) 60 = .ok (.getfield 40, 3) := by decide +kernel
theorem dc127_63 : decode (pm_mb 127) 63 = .ok (.invokevirtual 119, 3) := by decide +kernel
theorem dc127_66 : decode (pm_mb 127) 66 = .ok (.if_icmp .ge 31, 3) := by decide +kernel
theorem dc127_69 : decode (pm_mb 127) 69 = .ok (.aload_n 0, 1) := by decide +kernel
theorem dc127_70 : decode (pm_mb 127) 70 = .ok (.getfield 44, 3) := by decide +kernel
theorem dc127_73 : decode (pm_mb 127) 73 = .ok (.iload_n 3, 1) := by decide +kernel
theorem dc127_74 : decode (pm_mb 127) 74 = .ok (.invokevirtual 163, 3) := by decide +kernel
theorem dc127_77 : decode (pm_mb 127) 77 = .ok (.aload_n 0, 1) := by decide +kernel
theorem dc127_78 : decode (pm_mb 127) 78 = .ok (.getfield 10, 3) := by decide +kernel
theorem dc127_81 : decode (pm_mb 127) 81 = .ok (.iload_n 1, 1) := by decide +kernel
theorem dc127_82 : decode (pm_mb 127) 82 = .ok (.iload_n 3, 1) := by decide +kernel
theorem dc127_83 : decode (pm_mb 127) 83 = .ok (.invokevirtual 155, 3) := by decide +kernel
theorem dc127_86 : decode (pm_mb 127) 86 = .ok (.if_icmp .eq 5, 3) := by decide +kernel
theorem dc127_89 : decode (pm_mb 127) 89 = .ok (.iconst 0, 1) := by decide +kernel
theorem dc127_90 : decode (pm_mb 127) 90 = .ok (.ireturn, 1) := by decide +kernel
theorem dc127_91 : decode (pm_mb 127) 91 = .ok (.iinc 3 1, 3) := by decide +kernel
theorem dc127_94 : decode (pm_mb 127) 94 = .ok (.goto (-36), 3) := by decide +kernel
theorem dc127_97 : decode (pm_mb 127) 97 = .ok (.iconst 1, 1) := by decide +kernel
theorem dc127_98 : decode (pm_mb 127) 98 = .ok (.ireturn, 1) := by decide +kernel
theorem b127_0 {X : pm_X} {d : Nat} {x1 : Int32} {x2 : Int32} {g : pm_G} {iv : pm_V} (hL : pm_lay g) : pm_at X d 127 (0, [some (.ref 0), some (.int x1), some (.int x2), none], [], g, iv) = pm_then X d 127 11 [some (.ref 0), some (.int x1), some (.int x2), none] [] (pm_c X d 52 [.ref 21, .ref 11] g iv) := by
  refine (at_aload_n dc127_0 rfl).trans ?_
  refine (at_gfR dc127_1 mc127 lf5_44 fo5_5 (ly0 hL) (lr0_5 hL)).trans ?_
  refine (at_aload_n dc127_4 rfl).trans ?_
  refine (at_gfR dc127_5 mc127 lf5_40 fo5_4 (ly0 hL) (lr0_4 hL)).trans ?_
  exact at_inv dc127_8 mc127 lm5_112 rfl rfl (Nat.le_of_ble_eq_true rfl) (Or.inl ⟨(ly21 hL), by decide⟩)
theorem b127_11 {X : pm_X} {d : Nat} {x1 : Int32} {x2 : Int32} {g : pm_G} {iv : pm_V}  : pm_at X d 127 (11, [some (.ref 0), some (.int x1), some (.int x2), none], [], g, iv) = pm_at X d 127 (13, [some (.ref 0), some (.int x1), some (.int x2), some (.int 0)], [], g, iv) := by
  refine (at_iconst (v := 0) dc127_11 rfl).trans ?_
  refine (at_istore_n dc127_12 rfl).trans ?_
  rfl
theorem b127_13 {X : pm_X} {d : Nat} {x1 : Int32} {x2 : Int32} {x3 : Int32} {g : pm_G} {iv : pm_V} (hL : pm_lay g) : pm_at X d 127 (13, [some (.ref 0), some (.int x1), some (.int x2), some (.int x3)], [], g, iv) = pm_then X d 127 21 [some (.ref 0), some (.int x1), some (.int x2), some (.int x3)] [.int x3] (pm_c X d 29 [.ref 11] g iv) := by
  refine (at_iload_n dc127_13 rfl).trans ?_
  refine (at_aload_n dc127_14 rfl).trans ?_
  refine (at_gfR dc127_15 mc127 lf5_40 fo5_4 (ly0 hL) (lr0_4 hL)).trans ?_
  exact at_inv dc127_18 mc127 lm5_119 rfl rfl (Nat.le_of_ble_eq_true rfl) (Or.inl ⟨(ly11 hL), by decide⟩)
theorem b127_21 {X : pm_X} {d : Nat} {x1 : Int32} {x2 : Int32} {x3 : Int32} {s0 : Int32} {s1 : Int32} {g : pm_G} {iv : pm_V}  : pm_at X d 127 (21, [some (.ref 0), some (.int x1), some (.int x2), some (.int x3)], [.int s0, .int s1], g, iv) = if s0 ≤ s1 then pm_at X d 127 (48, [some (.ref 0), some (.int x1), some (.int x2), some (.int x3)], [], g, iv) else pm_at X d 127 (24, [some (.ref 0), some (.int x1), some (.int x2), some (.int x3)], [], g, iv) := by
  exact at_icmp_ge (t := 48) dc127_21 (by decide)
theorem b127_24 {X : pm_X} {d : Nat} {x1 : Int32} {x2 : Int32} {x3 : Int32} {g : pm_G} {iv : pm_V}  : pm_at X d 127 (24, [some (.ref 0), some (.int x1), some (.int x2), some (.int x3)], [], g, iv) = if ¬ ((x2 >>> (x3 &&& 31)) &&& 1) = 1 then pm_at X d 127 (42, [some (.ref 0), some (.int x1), some (.int x2), some (.int x3)], [], g, iv) else pm_at X d 127 (33, [some (.ref 0), some (.int x1), some (.int x2), some (.int x3)], [], g, iv) := by
  refine (at_iload_n dc127_24 rfl).trans ?_
  refine (at_iload_n dc127_25 rfl).trans ?_
  refine (at_ishr dc127_26).trans ?_
  refine (at_iconst (v := 1) dc127_27 rfl).trans ?_
  refine (at_iand dc127_28).trans ?_
  refine (at_iconst (v := 1) dc127_29 rfl).trans ?_
  exact at_icmp_ne (t := 42) dc127_30 (by decide)
theorem b127_33 {X : pm_X} {d : Nat} {x1 : Int32} {x2 : Int32} {x3 : Int32} {g : pm_G} {iv : pm_V} (hL : pm_lay g) : pm_at X d 127 (33, [some (.ref 0), some (.int x1), some (.int x2), some (.int x3)], [], g, iv) = pm_then X d 127 42 [some (.ref 0), some (.int x1), some (.int x2), some (.int x3)] [] (pm_c X d 55 [.ref 21, .int x3, .int 0] g iv) := by
  refine (at_aload_n dc127_33 rfl).trans ?_
  refine (at_gfR dc127_34 mc127 lf5_44 fo5_5 (ly0 hL) (lr0_5 hL)).trans ?_
  refine (at_iload_n dc127_37 rfl).trans ?_
  refine (at_iconst (v := 0) dc127_38 rfl).trans ?_
  exact at_inv dc127_39 mc127 lm5_248 rfl rfl (Nat.le_of_ble_eq_true rfl) (Or.inl ⟨(ly21 hL), by decide⟩)
theorem b127_42 {X : pm_X} {d : Nat} {x1 : Int32} {x2 : Int32} {x3 : Int32} {g : pm_G} {iv : pm_V}  : pm_at X d 127 (42, [some (.ref 0), some (.int x1), some (.int x2), some (.int x3)], [], g, iv) = pm_at X d 127 (13, [some (.ref 0), some (.int x1), some (.int x2), some (.int (x3 + 1))], [], g, iv) := by
  refine (at_iinc (v := 1) dc127_42 rfl (by decide) rfl).trans ?_
  refine (at_goto (t := 13) dc127_45 (by decide)).trans ?_
  rfl
theorem b127_48 {X : pm_X} {d : Nat} {x1 : Int32} {x2 : Int32} {x3 : Int32} {g : pm_G} {iv : pm_V} (hL : pm_lay g) : pm_at X d 127 (48, [some (.ref 0), some (.int x1), some (.int x2), some (.int x3)], [], g, iv) = pm_then X d 127 55 [some (.ref 0), some (.int x1), some (.int x2), some (.int x3)] [] (pm_c X d 60 [.ref 21] g iv) := by
  refine (at_aload_n dc127_48 rfl).trans ?_
  refine (at_gfR dc127_49 mc127 lf5_44 fo5_5 (ly0 hL) (lr0_5 hL)).trans ?_
  exact at_inv dc127_52 mc127 lm5_136 rfl rfl (Nat.le_of_ble_eq_true rfl) (Or.inl ⟨(ly21 hL), by decide⟩)
theorem b127_55 {X : pm_X} {d : Nat} {x1 : Int32} {x2 : Int32} {x3 : Int32} {s0 : Int32} {g : pm_G} {iv : pm_V}  : pm_at X d 127 (55, [some (.ref 0), some (.int x1), some (.int x2), some (.int x3)], [.int s0], g, iv) = pm_at X d 127 (58, [some (.ref 0), some (.int x1), some (.int x2), some (.int 0)], [], g, iv) := by
  refine (at_pop dc127_55 rfl).trans ?_
  refine (at_iconst (v := 0) dc127_56 rfl).trans ?_
  refine (at_istore_n dc127_57 rfl).trans ?_
  rfl
theorem b127_58 {X : pm_X} {d : Nat} {x1 : Int32} {x2 : Int32} {x3 : Int32} {g : pm_G} {iv : pm_V} (hL : pm_lay g) : pm_at X d 127 (58, [some (.ref 0), some (.int x1), some (.int x2), some (.int x3)], [], g, iv) = pm_then X d 127 66 [some (.ref 0), some (.int x1), some (.int x2), some (.int x3)] [.int x3] (pm_c X d 29 [.ref 11] g iv) := by
  refine (at_iload_n dc127_58 rfl).trans ?_
  refine (at_aload_n dc127_59 rfl).trans ?_
  refine (at_gfR dc127_60 mc127 lf5_40 fo5_4 (ly0 hL) (lr0_4 hL)).trans ?_
  exact at_inv dc127_63 mc127 lm5_119 rfl rfl (Nat.le_of_ble_eq_true rfl) (Or.inl ⟨(ly11 hL), by decide⟩)
theorem b127_66 {X : pm_X} {d : Nat} {x1 : Int32} {x2 : Int32} {x3 : Int32} {s0 : Int32} {s1 : Int32} {g : pm_G} {iv : pm_V}  : pm_at X d 127 (66, [some (.ref 0), some (.int x1), some (.int x2), some (.int x3)], [.int s0, .int s1], g, iv) = if s0 ≤ s1 then pm_at X d 127 (97, [some (.ref 0), some (.int x1), some (.int x2), some (.int x3)], [], g, iv) else pm_at X d 127 (69, [some (.ref 0), some (.int x1), some (.int x2), some (.int x3)], [], g, iv) := by
  exact at_icmp_ge (t := 97) dc127_66 (by decide)
theorem b127_69 {X : pm_X} {d : Nat} {x1 : Int32} {x2 : Int32} {x3 : Int32} {g : pm_G} {iv : pm_V} (hL : pm_lay g) : pm_at X d 127 (69, [some (.ref 0), some (.int x1), some (.int x2), some (.int x3)], [], g, iv) = pm_then X d 127 77 [some (.ref 0), some (.int x1), some (.int x2), some (.int x3)] [] (pm_c X d 39 [.ref 21, .int x3] g iv) := by
  refine (at_aload_n dc127_69 rfl).trans ?_
  refine (at_gfR dc127_70 mc127 lf5_44 fo5_5 (ly0 hL) (lr0_5 hL)).trans ?_
  refine (at_iload_n dc127_73 rfl).trans ?_
  exact at_inv dc127_74 mc127 lm5_163 rfl rfl (Nat.le_of_ble_eq_true rfl) (Or.inl ⟨(ly21 hL), by decide⟩)
theorem b127_77 {X : pm_X} {d : Nat} {x1 : Int32} {x2 : Int32} {x3 : Int32} {s0 : Int32} {g : pm_G} {iv : pm_V} (hL : pm_lay g) : pm_at X d 127 (77, [some (.ref 0), some (.int x1), some (.int x2), some (.int x3)], [.int s0], g, iv) = pm_then X d 127 86 [some (.ref 0), some (.int x1), some (.int x2), some (.int x3)] [.int s0] (pm_c X d 18 [.ref 1, .int x1, .int x3] g iv) := by
  refine (at_aload_n dc127_77 rfl).trans ?_
  refine (at_gfR dc127_78 mc127 lf5_10 fo5_0 (ly0 hL) (lr0_0 hL)).trans ?_
  refine (at_iload_n dc127_81 rfl).trans ?_
  refine (at_iload_n dc127_82 rfl).trans ?_
  exact at_inv dc127_83 mc127 lm5_155 rfl rfl (Nat.le_of_ble_eq_true rfl) (Or.inl ⟨(ly1 hL), by decide⟩)
theorem b127_86 {X : pm_X} {d : Nat} {x1 : Int32} {x2 : Int32} {x3 : Int32} {s0 : Int32} {s1 : Int32} {g : pm_G} {iv : pm_V}  : pm_at X d 127 (86, [some (.ref 0), some (.int x1), some (.int x2), some (.int x3)], [.int s0, .int s1], g, iv) = if s1 = s0 then pm_at X d 127 (91, [some (.ref 0), some (.int x1), some (.int x2), some (.int x3)], [], g, iv) else pm_at X d 127 (89, [some (.ref 0), some (.int x1), some (.int x2), some (.int x3)], [], g, iv) := by
  exact at_icmp_eq (t := 91) dc127_86 (by decide)
theorem b127_89 {X : pm_X} {d : Nat} {x1 : Int32} {x2 : Int32} {x3 : Int32} {g : pm_G} {iv : pm_V}  : pm_at X d 127 (89, [some (.ref 0), some (.int x1), some (.int x2), some (.int x3)], [], g, iv) = some (some (.int 0), g, iv) := by
  refine (at_iconst (v := 0) dc127_89 rfl).trans ?_
  exact at_zret dc127_90 mr127 (by decide)
theorem b127_91 {X : pm_X} {d : Nat} {x1 : Int32} {x2 : Int32} {x3 : Int32} {g : pm_G} {iv : pm_V}  : pm_at X d 127 (91, [some (.ref 0), some (.int x1), some (.int x2), some (.int x3)], [], g, iv) = pm_at X d 127 (58, [some (.ref 0), some (.int x1), some (.int x2), some (.int (x3 + 1))], [], g, iv) := by
  refine (at_iinc (v := 1) dc127_91 rfl (by decide) rfl).trans ?_
  refine (at_goto (t := 58) dc127_94 (by decide)).trans ?_
  rfl
theorem b127_97 {X : pm_X} {d : Nat} {x1 : Int32} {x2 : Int32} {x3 : Int32} {g : pm_G} {iv : pm_V}  : pm_at X d 127 (97, [some (.ref 0), some (.int x1), some (.int x2), some (.int x3)], [], g, iv) = some (some (.int 1), g, iv) := by
  refine (at_iconst (v := 1) dc127_97 rfl).trans ?_
  exact at_zret dc127_98 mr127 (by decide)
