-- HH.<init> ()V
theorem dc90_0 : decode (pm_mb 90) 0 = .ok (.aload_n 0, 1) := by decide +kernel
theorem dc90_1 : decode (pm_mb 90) 1 = .ok (.invokespecial 1, 3) := by decide +kernel
theorem dc90_4 : decode (pm_mb 90) 4 = .ok (.aload_n 0, 1) := by decide +kernel
theorem dc90_5 : decode (pm_mb 90) 5 = .ok (.new 7, 3) := by decide +kernel
theorem dc90_8 : decode (pm_mb 90) 8 = .ok (.dup, 1) := by decide +kernel
theorem dc90_9 : decode (pm_mb 90) 9 = .ok (.invokespecial 9, 3) := by decide +kernel
theorem dc90_12 : decode (pm_mb 90) 12 = .ok (.putfield 10, 3) := by decide +kernel
theorem dc90_15 : decode (pm_mb 90) 15 = .ok (.aload_n 0, 1) := by decide +kernel
theorem dc90_16 : decode (pm_mb 90) 16 = .ok (.new 16, 3) := by decide +kernel
theorem dc90_19 : decode (pm_mb 90) 19 = .ok (.dup, 1) := by decide +kernel
theorem dc90_20 : decode (pm_mb 90) 20 = .ok (.invokespecial 18, 3) := by decide +kernel
theorem dc90_23 : decode (pm_mb 90) 23 = .ok (.putfield 19, 3) := by decide +kernel
theorem dc90_26 : decode (pm_mb 90) 26 = .ok (.aload_n 0, 1) := by decide +kernel
theorem dc90_27 : decode (pm_mb 90) 27 = .ok (.new 23, 3) := by decide +kernel
theorem dc90_30 : decode (pm_mb 90) 30 = .ok (.dup, 1) := by decide +kernel
theorem dc90_31 : decode (pm_mb 90) 31 = .ok (.invokespecial 25, 3) := by decide +kernel
theorem dc90_34 : decode (pm_mb 90) 34 = .ok (.putfield 26, 3) := by decide +kernel
theorem dc90_37 : decode (pm_mb 90) 37 = .ok (.aload_n 0, 1) := by decide +kernel
theorem dc90_38 : decode (pm_mb 90) 38 = .ok (.new 30, 3) := by decide +kernel
theorem dc90_41 : decode (pm_mb 90) 41 = .ok (.dup, 1) := by decide +kernel
theorem dc90_42 : decode (pm_mb 90) 42 = .ok (.invokespecial 32, 3) := by decide +kernel
theorem dc90_45 : decode (pm_mb 90) 45 = .ok (.putfield 33, 3) := by decide +kernel
theorem dc90_48 : decode (pm_mb 90) 48 = .ok (.aload_n 0, 1) := by decide +kernel
theorem dc90_49 : decode (pm_mb 90) 49 = .ok (.new 37, 3) := by decide +kernel
theorem dc90_52 : decode (pm_mb 90) 52 = .ok (.dup, 1) := by decide +kernel
theorem dc90_53 : decode (pm_mb 90) 53 = .ok (.invokespecial 39, 3) := by decide +kernel
theorem dc90_56 : decode (pm_mb 90) 56 = .ok (.putfield 40, 3) := by decide +kernel
theorem dc90_59 : decode (pm_mb 90) 59 = .ok (.aload_n 0, 1) := by decide +kernel
theorem dc90_60 : decode (pm_mb 90) 60 = .ok (.new 37, 3) := by decide +kernel
theorem dc90_63 : decode (pm_mb 90) 63 = .ok (.dup, 1) := by decide +kernel
theorem dc90_64 : decode (pm_mb 90) 64 = .ok (.invokespecial 39, 3) := by decide +kernel
theorem dc90_67 : decode (pm_mb 90) 67 = .ok (.putfield 44, 3) := by decide +kernel
theorem dc90_70 : decode (pm_mb 90) 70 = .ok (.aload_n 0, 1) := by decide +kernel
theorem dc90_71 : decode (pm_mb 90) 71 = .ok (.iconst 2, 1) := by decide +kernel
theorem dc90_72 : decode (pm_mb 90) 72 = .ok (.anewarray 37, 3) := by decide +kernel
theorem dc90_75 : decode (pm_mb 90) 75 = .ok (.putfield 47, 3) := by decide +kernel
theorem dc90_78 : decode (pm_mb 90) 78 = .ok (.return_, 1) := by decide +kernel
-- HH.row (III)I
theorem dc91_0 : decode (pm_mb 91) 0 = .ok (.iload_n 1, 1) := by decide +kernel
theorem dc91_1 : decode (pm_mb 91) 1 = .ok (.invokestatic 51, 3) := by decide +kernel
theorem dc91_4 : decode (pm_mb 91) 4 = .ok (.ifCond .eq 17, 3) := by decide +kernel
theorem dc91_7 : decode (pm_mb 91) 7 = .ok (.iload_n 2, 1) := by decide +kernel
theorem dc91_8 : decode (pm_mb 91) 8 = .ok (.iconst 2, 1) := by decide +kernel
theorem dc91_9 : decode (pm_mb 91) 9 = .ok (.invokestatic 55, 3) := by decide +kernel
theorem dc91_12 : decode (pm_mb 91) 12 = .ok (.ifCond .eq 9, 3) := by decide +kernel
theorem dc91_15 : decode (pm_mb 91) 15 = .ok (.iload_n 3, 1) := by decide +kernel
theorem dc91_16 : decode (pm_mb 91) 16 = .ok (.bipush 40, 2) := by decide +kernel
theorem dc91_18 : decode (pm_mb 91) 18 = .ok (.if_icmp .le 6, 3) := by decide +kernel
theorem dc91_21 : decode (pm_mb 91) 21 = .ok (.ldc 59, 2) := by decide +kernel
theorem dc91_23 : decode (pm_mb 91) 23 = .ok (.ireturn, 1) := by decide +kernel
theorem dc91_24 : decode (pm_mb 91) 24 = .ok (.iload_n 3, 1) := by decide +kernel
theorem dc91_25 : decode (pm_mb 91) 25 = .ok (.ifCond .ge 9, 3) := by decide +kernel
theorem dc91_28 : decode (pm_mb 91) 28 = .ok (.aload_n 0, 1) := by decide +kernel
theorem dc91_29 : decode (pm_mb 91) 29 = .ok (.iconst 4, 1) := by decide +kernel
theorem dc91_30 : decode (pm_mb 91) 30 = .ok (.invokevirtual 60, 3) := by decide +kernel
theorem dc91_33 : decode (pm_mb 91) 33 = .ok (.ireturn, 1) := by decide +kernel
theorem dc91_34 : decode (pm_mb 91) 34 = .ok (.aload_n 0, 1) := by decide +kernel
theorem dc91_35 : decode (pm_mb 91) 35 = .ok (.getfield 10, 3) := by decide +kernel
theorem dc91_38 : decode (pm_mb 91) 38 = .ok (.iload_n 1, 1) := by decide +kernel
theorem dc91_39 : decode (pm_mb 91) 39 = .ok (.iload_n 2, 1) := by decide +kernel
theorem dc91_40 : decode (pm_mb 91) 40 = .ok (.iload_n 3, 1) := by decide +kernel
theorem dc91_41 : decode (pm_mb 91) 41 = .ok (.invokevirtual 64, 3) := by decide +kernel
theorem dc91_44 : decode (pm_mb 91) 44 = .ok (.aload_n 0, 1) := by decide +kernel
theorem dc91_45 : decode (pm_mb 91) 45 = .ok (.iload_n 3, 1) := by decide +kernel
theorem dc91_46 : decode (pm_mb 91) 46 = .ok (.invokevirtual 68, 3) := by decide +kernel
theorem dc91_49 : decode (pm_mb 91) 49 = .ok (.ireturn, 1) := by decide +kernel
theorem b91_0 {X : pm_X} {d : Nat} {x1 : Int32} {x2 : Int32} {x3 : Int32} {g : pm_G} {iv : pm_V}  : pm_at X d 91 (0, [some (.ref 0), some (.int x1), some (.int x2), some (.int x3)], [], g, iv) = pm_then X d 91 4 [some (.ref 0), some (.int x1), some (.int x2), some (.int x3)] [] (pm_c X d 121 [.int x1] g iv) := by
  refine (at_iload_n dc91_0 rfl).trans ?_
  exact at_ins dc91_1 mc91 lm5_51 (Nat.le_of_ble_eq_true rfl) rfl rfl (Nat.le_of_ble_eq_true rfl)
theorem b91_4 {X : pm_X} {d : Nat} {x1 : Int32} {x2 : Int32} {x3 : Int32} {s0 : Int32} {g : pm_G} {iv : pm_V}  : pm_at X d 91 (4, [some (.ref 0), some (.int x1), some (.int x2), some (.int x3)], [.int s0], g, iv) = if s0 = 0 then pm_at X d 91 (21, [some (.ref 0), some (.int x1), some (.int x2), some (.int x3)], [], g, iv) else pm_at X d 91 (7, [some (.ref 0), some (.int x1), some (.int x2), some (.int x3)], [], g, iv) := by
  exact at_if_eq (t := 21) dc91_4 (by decide)
theorem b91_7 {X : pm_X} {d : Nat} {x1 : Int32} {x2 : Int32} {x3 : Int32} {g : pm_G} {iv : pm_V}  : pm_at X d 91 (7, [some (.ref 0), some (.int x1), some (.int x2), some (.int x3)], [], g, iv) = pm_then X d 91 12 [some (.ref 0), some (.int x1), some (.int x2), some (.int x3)] [] (pm_c X d 120 [.int x2, .int 2] g iv) := by
  refine (at_iload_n dc91_7 rfl).trans ?_
  refine (at_iconst (v := 2) dc91_8 rfl).trans ?_
  exact at_ins dc91_9 mc91 lm5_55 (Nat.le_of_ble_eq_true rfl) rfl rfl (Nat.le_of_ble_eq_true rfl)
theorem b91_12 {X : pm_X} {d : Nat} {x1 : Int32} {x2 : Int32} {x3 : Int32} {s0 : Int32} {g : pm_G} {iv : pm_V}  : pm_at X d 91 (12, [some (.ref 0), some (.int x1), some (.int x2), some (.int x3)], [.int s0], g, iv) = if s0 = 0 then pm_at X d 91 (21, [some (.ref 0), some (.int x1), some (.int x2), some (.int x3)], [], g, iv) else pm_at X d 91 (15, [some (.ref 0), some (.int x1), some (.int x2), some (.int x3)], [], g, iv) := by
  exact at_if_eq (t := 21) dc91_12 (by decide)
theorem b91_15 {X : pm_X} {d : Nat} {x1 : Int32} {x2 : Int32} {x3 : Int32} {g : pm_G} {iv : pm_V}  : pm_at X d 91 (15, [some (.ref 0), some (.int x1), some (.int x2), some (.int x3)], [], g, iv) = if x3 ≤ 40 then pm_at X d 91 (24, [some (.ref 0), some (.int x1), some (.int x2), some (.int x3)], [], g, iv) else pm_at X d 91 (21, [some (.ref 0), some (.int x1), some (.int x2), some (.int x3)], [], g, iv) := by
  refine (at_iload_n dc91_15 rfl).trans ?_
  refine (at_bipush (v := 40) dc91_16 (by decide)).trans ?_
  exact at_icmp_le (t := 24) dc91_18 (by decide)
theorem b91_21 {X : pm_X} {d : Nat} {x1 : Int32} {x2 : Int32} {x3 : Int32} {g : pm_G} {iv : pm_V}  : pm_at X d 91 (21, [some (.ref 0), some (.int x1), some (.int x2), some (.int x3)], [], g, iv) = some (some (.int (-1000001)), g, iv) := by
  refine (at_ldc dc91_21 mc91 lk5_59).trans ?_
  exact at_iret dc91_23 mr91
theorem b91_24 {X : pm_X} {d : Nat} {x1 : Int32} {x2 : Int32} {x3 : Int32} {g : pm_G} {iv : pm_V}  : pm_at X d 91 (24, [some (.ref 0), some (.int x1), some (.int x2), some (.int x3)], [], g, iv) = if 0 ≤ x3 then pm_at X d 91 (34, [some (.ref 0), some (.int x1), some (.int x2), some (.int x3)], [], g, iv) else pm_at X d 91 (28, [some (.ref 0), some (.int x1), some (.int x2), some (.int x3)], [], g, iv) := by
  refine (at_iload_n dc91_24 rfl).trans ?_
  exact at_if_ge (t := 34) dc91_25 (by decide)
theorem b91_28 {X : pm_X} {d : Nat} {x1 : Int32} {x2 : Int32} {x3 : Int32} {g : pm_G} {iv : pm_V} (hL : pm_lay g) : pm_at X d 91 (28, [some (.ref 0), some (.int x1), some (.int x2), some (.int x3)], [], g, iv) = pm_then X d 91 33 [some (.ref 0), some (.int x1), some (.int x2), some (.int x3)] [] (pm_c X d 123 [.ref 0, .int 4] g iv) := by
  refine (at_aload_n dc91_28 rfl).trans ?_
  refine (at_iconst (v := 4) dc91_29 rfl).trans ?_
  exact at_inv dc91_30 mc91 lm5_60 rfl rfl (Nat.le_of_ble_eq_true rfl) (Or.inl ⟨(ly0 hL), by decide⟩)
theorem b91_33 {X : pm_X} {d : Nat} {x1 : Int32} {x2 : Int32} {x3 : Int32} {s0 : Int32} {g : pm_G} {iv : pm_V}  : pm_at X d 91 (33, [some (.ref 0), some (.int x1), some (.int x2), some (.int x3)], [.int s0], g, iv) = some (some (.int s0), g, iv) := by
  exact at_iret dc91_33 mr91
theorem b91_34 {X : pm_X} {d : Nat} {x1 : Int32} {x2 : Int32} {x3 : Int32} {g : pm_G} {iv : pm_V} (hL : pm_lay g) : pm_at X d 91 (34, [some (.ref 0), some (.int x1), some (.int x2), some (.int x3)], [], g, iv) = pm_then X d 91 44 [some (.ref 0), some (.int x1), some (.int x2), some (.int x3)] [] (pm_c X d 20 [.ref 1, .int x1, .int x2, .int x3] g iv) := by
  refine (at_aload_n dc91_34 rfl).trans ?_
  refine (at_gfR dc91_35 mc91 lf5_10 fo5_0 (ly0 hL) (lr0_0 hL)).trans ?_
  refine (at_iload_n dc91_38 rfl).trans ?_
  refine (at_iload_n dc91_39 rfl).trans ?_
  refine (at_iload_n dc91_40 rfl).trans ?_
  exact at_inv dc91_41 mc91 lm5_64 rfl rfl (Nat.le_of_ble_eq_true rfl) (Or.inl ⟨(ly1 hL), by decide⟩)
theorem b91_44 {X : pm_X} {d : Nat} {x1 : Int32} {x2 : Int32} {x3 : Int32} {g : pm_G} {iv : pm_V} (hL : pm_lay g) : pm_at X d 91 (44, [some (.ref 0), some (.int x1), some (.int x2), some (.int x3)], [], g, iv) = pm_then X d 91 49 [some (.ref 0), some (.int x1), some (.int x2), some (.int x3)] [] (pm_c X d 124 [.ref 0, .int x3] g iv) := by
  refine (at_aload_n dc91_44 rfl).trans ?_
  refine (at_iload_n dc91_45 rfl).trans ?_
  exact at_inv dc91_46 mc91 lm5_68 rfl rfl (Nat.le_of_ble_eq_true rfl) (Or.inl ⟨(ly0 hL), by decide⟩)
theorem b91_49 {X : pm_X} {d : Nat} {x1 : Int32} {x2 : Int32} {x3 : Int32} {s0 : Int32} {g : pm_G} {iv : pm_V}  : pm_at X d 91 (49, [some (.ref 0), some (.int x1), some (.int x2), some (.int x3)], [.int s0], g, iv) = some (some (.int s0), g, iv) := by
  exact at_iret dc91_49 mr91
-- HH.set (III)I
theorem dc92_0 : decode (pm_mb 92) 0 = .ok (.iload_n 1, 1) := by decide +kernel
theorem dc92_1 : decode (pm_mb 92) 1 = .ok (.invokestatic 51, 3) := by decide +kernel
theorem dc92_4 : decode (pm_mb 92) 4 = .ok (.ifCond .ne 6, 3) := by decide +kernel
theorem dc92_7 : decode (pm_mb 92) 7 = .ok (.ldc 59, 2) := by decide +kernel
theorem dc92_9 : decode (pm_mb 92) 9 = .ok (.ireturn, 1) := by decide +kernel
theorem dc92_10 : decode (pm_mb 92) 10 = .ok (.aload_n 0, 1) := by decide +kernel
theorem dc92_11 : decode (pm_mb 92) 11 = .ok (.getfield 10, 3) := by decide +kernel
theorem dc92_14 : decode (pm_mb 92) 14 = .ok (.iload_n 1, 1) := by decide +kernel
theorem dc92_15 : decode (pm_mb 92) 15 = .ok (.invokevirtual 71, 3) := by decide +kernel
theorem dc92_18 : decode (pm_mb 92) 18 = .ok (.ifCond .eq 9, 3) := by decide +kernel
theorem dc92_21 : decode (pm_mb 92) 21 = .ok (.aload_n 0, 1) := by decide +kernel
theorem dc92_22 : decode (pm_mb 92) 22 = .ok (.iconst 1, 1) := by decide +kernel
theorem dc92_23 : decode (pm_mb 92) 23 = .ok (.invokevirtual 60, 3) := by decide +kernel
theorem dc92_26 : decode (pm_mb 92) 26 = .ok (.ireturn, 1) := by decide +kernel
theorem dc92_27 : decode (pm_mb 92) 27 = .ok (.aload_n 0, 1) := by decide +kernel
theorem dc92_28 : decode (pm_mb 92) 28 = .ok (.getfield 10, 3) := by decide +kernel
theorem dc92_31 : decode (pm_mb 92) 31 = .ok (.iload_n 1, 1) := by decide +kernel
theorem dc92_32 : decode (pm_mb 92) 32 = .ok (.iload_n 2, 1) := by decide +kernel
theorem dc92_33 : decode (pm_mb 92) 33 = .ok (.iconst 1, 1) := by decide +kernel
theorem dc92_34 : decode (pm_mb 92) 34 = .ok (.invokevirtual 74, 3) := by decide +kernel
theorem dc92_37 : decode (pm_mb 92) 37 = .ok (.ifCond .ne 9, 3) := by decide +kernel
theorem dc92_40 : decode (pm_mb 92) 40 = .ok (.aload_n 0, 1) := by decide +kernel
theorem dc92_41 : decode (pm_mb 92) 41 = .ok (.iconst 2, 1) := by decide +kernel
theorem dc92_42 : decode (pm_mb 92) 42 = .ok (.invokevirtual 60, 3) := by decide +kernel
theorem dc92_45 : decode (pm_mb 92) 45 = .ok (.ireturn, 1) := by decide +kernel
theorem dc92_46 : decode (pm_mb 92) 46 = .ok (.aload_n 0, 1) := by decide +kernel
theorem dc92_47 : decode (pm_mb 92) 47 = .ok (.aload_n 0, 1) := by decide +kernel
theorem dc92_48 : decode (pm_mb 92) 48 = .ok (.getfield 10, 3) := by decide +kernel
theorem dc92_51 : decode (pm_mb 92) 51 = .ok (.iload_n 1, 1) := by decide +kernel
theorem dc92_52 : decode (pm_mb 92) 52 = .ok (.iload_n 2, 1) := by decide +kernel
theorem dc92_53 : decode (pm_mb 92) 53 = .ok (.iload_n 3, 1) := by decide +kernel
theorem dc92_54 : decode (pm_mb 92) 54 = .ok (.invokevirtual 78, 3) := by decide +kernel
theorem dc92_57 : decode (pm_mb 92) 57 = .ok (.invokevirtual 68, 3) := by decide +kernel
theorem dc92_60 : decode (pm_mb 92) 60 = .ok (.ireturn, 1) := by decide +kernel
theorem b92_0 {X : pm_X} {d : Nat} {x1 : Int32} {x2 : Int32} {x3 : Int32} {g : pm_G} {iv : pm_V}  : pm_at X d 92 (0, [some (.ref 0), some (.int x1), some (.int x2), some (.int x3)], [], g, iv) = pm_then X d 92 4 [some (.ref 0), some (.int x1), some (.int x2), some (.int x3)] [] (pm_c X d 121 [.int x1] g iv) := by
  refine (at_iload_n dc92_0 rfl).trans ?_
  exact at_ins dc92_1 mc92 lm5_51 (Nat.le_of_ble_eq_true rfl) rfl rfl (Nat.le_of_ble_eq_true rfl)
theorem b92_4 {X : pm_X} {d : Nat} {x1 : Int32} {x2 : Int32} {x3 : Int32} {s0 : Int32} {g : pm_G} {iv : pm_V}  : pm_at X d 92 (4, [some (.ref 0), some (.int x1), some (.int x2), some (.int x3)], [.int s0], g, iv) = if ¬ s0 = 0 then pm_at X d 92 (10, [some (.ref 0), some (.int x1), some (.int x2), some (.int x3)], [], g, iv) else pm_at X d 92 (7, [some (.ref 0), some (.int x1), some (.int x2), some (.int x3)], [], g, iv) := by
  exact at_if_ne (t := 10) dc92_4 (by decide)
theorem b92_7 {X : pm_X} {d : Nat} {x1 : Int32} {x2 : Int32} {x3 : Int32} {g : pm_G} {iv : pm_V}  : pm_at X d 92 (7, [some (.ref 0), some (.int x1), some (.int x2), some (.int x3)], [], g, iv) = some (some (.int (-1000001)), g, iv) := by
  refine (at_ldc dc92_7 mc92 lk5_59).trans ?_
  exact at_iret dc92_9 mr92
theorem b92_10 {X : pm_X} {d : Nat} {x1 : Int32} {x2 : Int32} {x3 : Int32} {g : pm_G} {iv : pm_V} (hL : pm_lay g) : pm_at X d 92 (10, [some (.ref 0), some (.int x1), some (.int x2), some (.int x3)], [], g, iv) = pm_then X d 92 18 [some (.ref 0), some (.int x1), some (.int x2), some (.int x3)] [] (pm_c X d 15 [.ref 1, .int x1] g iv) := by
  refine (at_aload_n dc92_10 rfl).trans ?_
  refine (at_gfR dc92_11 mc92 lf5_10 fo5_0 (ly0 hL) (lr0_0 hL)).trans ?_
  refine (at_iload_n dc92_14 rfl).trans ?_
  exact at_inv dc92_15 mc92 lm5_71 rfl rfl (Nat.le_of_ble_eq_true rfl) (Or.inl ⟨(ly1 hL), by decide⟩)
theorem b92_18 {X : pm_X} {d : Nat} {x1 : Int32} {x2 : Int32} {x3 : Int32} {s0 : Int32} {g : pm_G} {iv : pm_V}  : pm_at X d 92 (18, [some (.ref 0), some (.int x1), some (.int x2), some (.int x3)], [.int s0], g, iv) = if s0 = 0 then pm_at X d 92 (27, [some (.ref 0), some (.int x1), some (.int x2), some (.int x3)], [], g, iv) else pm_at X d 92 (21, [some (.ref 0), some (.int x1), some (.int x2), some (.int x3)], [], g, iv) := by
  exact at_if_eq (t := 27) dc92_18 (by decide)
theorem b92_21 {X : pm_X} {d : Nat} {x1 : Int32} {x2 : Int32} {x3 : Int32} {g : pm_G} {iv : pm_V} (hL : pm_lay g) : pm_at X d 92 (21, [some (.ref 0), some (.int x1), some (.int x2), some (.int x3)], [], g, iv) = pm_then X d 92 26 [some (.ref 0), some (.int x1), some (.int x2), some (.int x3)] [] (pm_c X d 123 [.ref 0, .int 1] g iv) := by
  refine (at_aload_n dc92_21 rfl).trans ?_
  refine (at_iconst (v := 1) dc92_22 rfl).trans ?_
  exact at_inv dc92_23 mc92 lm5_60 rfl rfl (Nat.le_of_ble_eq_true rfl) (Or.inl ⟨(ly0 hL), by decide⟩)
theorem b92_26 {X : pm_X} {d : Nat} {x1 : Int32} {x2 : Int32} {x3 : Int32} {s0 : Int32} {g : pm_G} {iv : pm_V}  : pm_at X d 92 (26, [some (.ref 0), some (.int x1), some (.int x2), some (.int x3)], [.int s0], g, iv) = some (some (.int s0), g, iv) := by
  exact at_iret dc92_26 mr92
theorem b92_27 {X : pm_X} {d : Nat} {x1 : Int32} {x2 : Int32} {x3 : Int32} {g : pm_G} {iv : pm_V} (hL : pm_lay g) : pm_at X d 92 (27, [some (.ref 0), some (.int x1), some (.int x2), some (.int x3)], [], g, iv) = pm_then X d 92 37 [some (.ref 0), some (.int x1), some (.int x2), some (.int x3)] [] (pm_c X d 16 [.ref 1, .int x1, .int x2, .int 1] g iv) := by
  refine (at_aload_n dc92_27 rfl).trans ?_
  refine (at_gfR dc92_28 mc92 lf5_10 fo5_0 (ly0 hL) (lr0_0 hL)).trans ?_
  refine (at_iload_n dc92_31 rfl).trans ?_
  refine (at_iload_n dc92_32 rfl).trans ?_
  refine (at_iconst (v := 1) dc92_33 rfl).trans ?_
  exact at_inv dc92_34 mc92 lm5_74 rfl rfl (Nat.le_of_ble_eq_true rfl) (Or.inl ⟨(ly1 hL), by decide⟩)
theorem b92_37 {X : pm_X} {d : Nat} {x1 : Int32} {x2 : Int32} {x3 : Int32} {s0 : Int32} {g : pm_G} {iv : pm_V}  : pm_at X d 92 (37, [some (.ref 0), some (.int x1), some (.int x2), some (.int x3)], [.int s0], g, iv) = if ¬ s0 = 0 then pm_at X d 92 (46, [some (.ref 0), some (.int x1), some (.int x2), some (.int x3)], [], g, iv) else pm_at X d 92 (40, [some (.ref 0), some (.int x1), some (.int x2), some (.int x3)], [], g, iv) := by
  exact at_if_ne (t := 46) dc92_37 (by decide)
theorem b92_40 {X : pm_X} {d : Nat} {x1 : Int32} {x2 : Int32} {x3 : Int32} {g : pm_G} {iv : pm_V} (hL : pm_lay g) : pm_at X d 92 (40, [some (.ref 0), some (.int x1), some (.int x2), some (.int x3)], [], g, iv) = pm_then X d 92 45 [some (.ref 0), some (.int x1), some (.int x2), some (.int x3)] [] (pm_c X d 123 [.ref 0, .int 2] g iv) := by
  refine (at_aload_n dc92_40 rfl).trans ?_
  refine (at_iconst (v := 2) dc92_41 rfl).trans ?_
  exact at_inv dc92_42 mc92 lm5_60 rfl rfl (Nat.le_of_ble_eq_true rfl) (Or.inl ⟨(ly0 hL), by decide⟩)
theorem b92_45 {X : pm_X} {d : Nat} {x1 : Int32} {x2 : Int32} {x3 : Int32} {s0 : Int32} {g : pm_G} {iv : pm_V}  : pm_at X d 92 (45, [some (.ref 0), some (.int x1), some (.int x2), some (.int x3)], [.int s0], g, iv) = some (some (.int s0), g, iv) := by
  exact at_iret dc92_45 mr92
theorem b92_46 {X : pm_X} {d : Nat} {x1 : Int32} {x2 : Int32} {x3 : Int32} {g : pm_G} {iv : pm_V} (hL : pm_lay g) : pm_at X d 92 (46, [some (.ref 0), some (.int x1), some (.int x2), some (.int x3)], [], g, iv) = pm_then X d 92 57 [some (.ref 0), some (.int x1), some (.int x2), some (.int x3)] [.ref 0] (pm_c X d 21 [.ref 1, .int x1, .int x2, .int x3] g iv) := by
  refine (at_aload_n dc92_46 rfl).trans ?_
  refine (at_aload_n dc92_47 rfl).trans ?_
  refine (at_gfR dc92_48 mc92 lf5_10 fo5_0 (ly0 hL) (lr0_0 hL)).trans ?_
  refine (at_iload_n dc92_51 rfl).trans ?_
  refine (at_iload_n dc92_52 rfl).trans ?_
  refine (at_iload_n dc92_53 rfl).trans ?_
  exact at_inv dc92_54 mc92 lm5_78 rfl rfl (Nat.le_of_ble_eq_true rfl) (Or.inl ⟨(ly1 hL), by decide⟩)
theorem b92_57 {X : pm_X} {d : Nat} {x1 : Int32} {x2 : Int32} {x3 : Int32} {s0 : Int32} {g : pm_G} {iv : pm_V} (hL : pm_lay g) : pm_at X d 92 (57, [some (.ref 0), some (.int x1), some (.int x2), some (.int x3)], [.int s0, .ref 0], g, iv) = pm_then X d 92 60 [some (.ref 0), some (.int x1), some (.int x2), some (.int x3)] [] (pm_c X d 124 [.ref 0, .int s0] g iv) := by
  exact at_inv dc92_57 mc92 lm5_68 rfl rfl (Nat.le_of_ble_eq_true rfl) (Or.inl ⟨(ly0 hL), by decide⟩)
theorem b92_60 {X : pm_X} {d : Nat} {x1 : Int32} {x2 : Int32} {x3 : Int32} {s0 : Int32} {g : pm_G} {iv : pm_V}  : pm_at X d 92 (60, [some (.ref 0), some (.int x1), some (.int x2), some (.int x3)], [.int s0], g, iv) = some (some (.int s0), g, iv) := by
  exact at_iret dc92_60 mr92
-- HH.copy (IIIII)I
theorem dc93_0 : decode (pm_mb 93) 0 = .ok (.iload_n 1, 1) := by decide +kernel
theorem dc93_1 : decode (pm_mb 93) 1 = .ok (.invokestatic 51, 3) := by decide +kernel
theorem dc93_4 : decode (pm_mb 93) 4 = .ok (.ifCond .eq 10, 3) := by decide +kernel
theorem dc93_7 : decode (pm_mb 93) 7 = .ok (.iload_n 3, 1) := by decide +kernel
theorem dc93_8 : decode (pm_mb 93) 8 = .ok (.invokestatic 51, 3) := by decide +kernel
theorem dc93_11 : decode (pm_mb 93) 11 = .ok (.ifCond .ne 6, 3) := by decide +kernel
theorem dc93_14 : decode (pm_mb 93) 14 = .ok (.ldc 59, 2) := by decide +kernel
theorem dc93_16 : decode (pm_mb 93) 16 = .ok (.ireturn, 1) := by decide +kernel
theorem dc93_17 : decode (pm_mb 93) 17 = .ok (.aload_n 0, 1) := by decide +kernel
theorem dc93_18 : decode (pm_mb 93) 18 = .ok (.getfield 10, 3) := by decide +kernel
theorem dc93_21 : decode (pm_mb 93) 21 = .ok (.iload_n 1, 1) := by decide +kernel
theorem dc93_22 : decode (pm_mb 93) 22 = .ok (.invokevirtual 71, 3) := by decide +kernel
theorem dc93_25 : decode (pm_mb 93) 25 = .ok (.ifCond .ne 14, 3) := by decide +kernel
theorem dc93_28 : decode (pm_mb 93) 28 = .ok (.aload_n 0, 1) := by decide +kernel
theorem dc93_29 : decode (pm_mb 93) 29 = .ok (.getfield 10, 3) := by decide +kernel
theorem dc93_32 : decode (pm_mb 93) 32 = .ok (.iload_n 3, 1) := by decide +kernel
theorem dc93_33 : decode (pm_mb 93) 33 = .ok (.invokevirtual 71, 3) := by decide +kernel
theorem dc93_36 : decode (pm_mb 93) 36 = .ok (.ifCond .eq 9, 3) := by decide +kernel
theorem dc93_39 : decode (pm_mb 93) 39 = .ok (.aload_n 0, 1) := by decide +kernel
theorem dc93_40 : decode (pm_mb 93) 40 = .ok (.iconst 1, 1) := by decide +kernel
theorem dc93_41 : decode (pm_mb 93) 41 = .ok (.invokevirtual 60, 3) := by decide +kernel
theorem dc93_44 : decode (pm_mb 93) 44 = .ok (.ireturn, 1) := by decide +kernel
theorem dc93_45 : decode (pm_mb 93) 45 = .ok (.aload_n 0, 1) := by decide +kernel
theorem dc93_46 : decode (pm_mb 93) 46 = .ok (.getfield 10, 3) := by decide +kernel
theorem dc93_49 : decode (pm_mb 93) 49 = .ok (.iload_n 1, 1) := by decide +kernel
theorem dc93_50 : decode (pm_mb 93) 50 = .ok (.invokevirtual 82, 3) := by decide +kernel
theorem dc93_53 : decode (pm_mb 93) 53 = .ok (.aload_n 0, 1) := by decide +kernel
theorem dc93_54 : decode (pm_mb 93) 54 = .ok (.getfield 10, 3) := by decide +kernel
theorem dc93_57 : decode (pm_mb 93) 57 = .ok (.iload_n 3, 1) := by decide +kernel
theorem dc93_58 : decode (pm_mb 93) 58 = .ok (.invokevirtual 82, 3) := by decide +kernel
theorem dc93_61 : decode (pm_mb 93) 61 = .ok (.if_icmp .eq 9, 3) := by decide +kernel
theorem dc93_64 : decode (pm_mb 93) 64 = .ok (.aload_n 0, 1) := by decide +kernel
theorem dc93_65 : decode (pm_mb 93) 65 = .ok (.iconst 5, 1) := by decide +kernel
theorem dc93_66 : decode (pm_mb 93) 66 = .ok (.invokevirtual 60, 3) := by decide +kernel
theorem dc93_69 : decode (pm_mb 93) 69 = .ok (.ireturn, 1) := by decide +kernel
theorem dc93_70 : decode (pm_mb 93) 70 = .ok (.aload_n 0, 1) := by decide +kernel
theorem dc93_71 : decode (pm_mb 93) 71 = .ok (.getfield 10, 3) := by decide +kernel
theorem dc93_74 : decode (pm_mb 93) 74 = .ok (.iload_n 1, 1) := by decide +kernel
theorem dc93_75 : decode (pm_mb 93) 75 = .ok (.iload_n 2, 1) := by decide +kernel
theorem dc93_76 : decode (pm_mb 93) 76 = .ok (.iload 5, 2) := by decide +kernel
theorem dc93_78 : decode (pm_mb 93) 78 = .ok (.invokevirtual 74, 3) := by decide +kernel
theorem dc93_81 : decode (pm_mb 93) 81 = .ok (.ifCond .eq 18, 3) := by decide +kernel
theorem dc93_84 : decode (pm_mb 93) 84 = .ok (.aload_n 0, 1) := by decide +kernel
theorem dc93_85 : decode (pm_mb 93) 85 = .ok (.getfield 10, 3) := by decide +kernel
theorem dc93_88 : decode (pm_mb 93) 88 = .ok (.iload_n 3, 1) := by decide +kernel
theorem dc93_89 : decode (pm_mb 93) 89 = .ok (.iload 4, 2) := by decide +kernel
theorem dc93_91 : decode (pm_mb 93) 91 = .ok (.iload 5, 2) := by decide +kernel
theorem dc93_93 : decode (pm_mb 93) 93 = .ok (.invokevirtual 74, 3) := by decide +kernel
theorem dc93_96 : decode (pm_mb 93) 96 = .ok (.ifCond .ne 9, 3) := by decide +kernel
theorem dc93_99 : decode (pm_mb 93) 99 = .ok (.aload_n 0, 1) := by decide +kernel
theorem dc93_100 : decode (pm_mb 93) 100 = .ok (.iconst 2, 1) := by decide +kernel
theorem dc93_101 : decode (pm_mb 93) 101 = .ok (.invokevirtual 60, 3) := by decide +kernel
theorem dc93_104 : decode (pm_mb 93) 104 = .ok (.ireturn, 1) := by decide +kernel
theorem dc93_105 : decode (pm_mb 93) 105 = .ok (.aload_n 0, 1) := by decide +kernel
theorem dc93_106 : decode (pm_mb 93) 106 = .ok (.getfield 10, 3) := by decide +kernel
theorem dc93_109 : decode (pm_mb 93) 109 = .ok (.iload_n 1, 1) := by decide +kernel
theorem dc93_110 : decode (pm_mb 93) 110 = .ok (.iload_n 2, 1) := by decide +kernel
theorem dc93_111 : decode (pm_mb 93) 111 = .ok (.iload_n 3, 1) := by decide +kernel
theorem dc93_112 : decode (pm_mb 93) 112 = .ok (.iload 4, 2) := by decide +kernel
theorem dc93_114 : decode (pm_mb 93) 114 = .ok (.iload 5, 2) := by decide +kernel
theorem dc93_116 : decode (pm_mb 93) 116 = .ok (.invokevirtual 85, 3) := by decide +kernel
theorem dc93_119 : decode (pm_mb 93) 119 = .ok (.aload_n 0, 1) := by decide +kernel
theorem dc93_120 : decode (pm_mb 93) 120 = .ok (.iload 5, 2) := by decide +kernel
theorem dc93_122 : decode (pm_mb 93) 122 = .ok (.invokevirtual 68, 3) := by decide +kernel
theorem dc93_125 : decode (pm_mb 93) 125 = .ok (.ireturn, 1) := by decide +kernel
theorem b93_0 {X : pm_X} {d : Nat} {x1 : Int32} {x2 : Int32} {x3 : Int32} {x4 : Int32} {x5 : Int32} {g : pm_G} {iv : pm_V}  : pm_at X d 93 (0, [some (.ref 0), some (.int x1), some (.int x2), some (.int x3), some (.int x4), some (.int x5)], [], g, iv) = pm_then X d 93 4 [some (.ref 0), some (.int x1), some (.int x2), some (.int x3), some (.int x4), some (.int x5)] [] (pm_c X d 121 [.int x1] g iv) := by
  refine (at_iload_n dc93_0 rfl).trans ?_
  exact at_ins dc93_1 mc93 lm5_51 (Nat.le_of_ble_eq_true rfl) rfl rfl (Nat.le_of_ble_eq_true rfl)
theorem b93_4 {X : pm_X} {d : Nat} {x1 : Int32} {x2 : Int32} {x3 : Int32} {x4 : Int32} {x5 : Int32} {s0 : Int32} {g : pm_G} {iv : pm_V}  : pm_at X d 93 (4, [some (.ref 0), some (.int x1), some (.int x2), some (.int x3), some (.int x4), some (.int x5)], [.int s0], g, iv) = if s0 = 0 then pm_at X d 93 (14, [some (.ref 0), some (.int x1), some (.int x2), some (.int x3), some (.int x4), some (.int x5)], [], g, iv) else pm_at X d 93 (7, [some (.ref 0), some (.int x1), some (.int x2), some (.int x3), some (.int x4), some (.int x5)], [], g, iv) := by
  exact at_if_eq (t := 14) dc93_4 (by decide)
theorem b93_7 {X : pm_X} {d : Nat} {x1 : Int32} {x2 : Int32} {x3 : Int32} {x4 : Int32} {x5 : Int32} {g : pm_G} {iv : pm_V}  : pm_at X d 93 (7, [some (.ref 0), some (.int x1), some (.int x2), some (.int x3), some (.int x4), some (.int x5)], [], g, iv) = pm_then X d 93 11 [some (.ref 0), some (.int x1), some (.int x2), some (.int x3), some (.int x4), some (.int x5)] [] (pm_c X d 121 [.int x3] g iv) := by
  refine (at_iload_n dc93_7 rfl).trans ?_
  exact at_ins dc93_8 mc93 lm5_51 (Nat.le_of_ble_eq_true rfl) rfl rfl (Nat.le_of_ble_eq_true rfl)
theorem b93_11 {X : pm_X} {d : Nat} {x1 : Int32} {x2 : Int32} {x3 : Int32} {x4 : Int32} {x5 : Int32} {s0 : Int32} {g : pm_G} {iv : pm_V}  : pm_at X d 93 (11, [some (.ref 0), some (.int x1), some (.int x2), some (.int x3), some (.int x4), some (.int x5)], [.int s0], g, iv) = if ¬ s0 = 0 then pm_at X d 93 (17, [some (.ref 0), some (.int x1), some (.int x2), some (.int x3), some (.int x4), some (.int x5)], [], g, iv) else pm_at X d 93 (14, [some (.ref 0), some (.int x1), some (.int x2), some (.int x3), some (.int x4), some (.int x5)], [], g, iv) := by
  exact at_if_ne (t := 17) dc93_11 (by decide)
theorem b93_14 {X : pm_X} {d : Nat} {x1 : Int32} {x2 : Int32} {x3 : Int32} {x4 : Int32} {x5 : Int32} {g : pm_G} {iv : pm_V}  : pm_at X d 93 (14, [some (.ref 0), some (.int x1), some (.int x2), some (.int x3), some (.int x4), some (.int x5)], [], g, iv) = some (some (.int (-1000001)), g, iv) := by
  refine (at_ldc dc93_14 mc93 lk5_59).trans ?_
  exact at_iret dc93_16 mr93
theorem b93_17 {X : pm_X} {d : Nat} {x1 : Int32} {x2 : Int32} {x3 : Int32} {x4 : Int32} {x5 : Int32} {g : pm_G} {iv : pm_V} (hL : pm_lay g) : pm_at X d 93 (17, [some (.ref 0), some (.int x1), some (.int x2), some (.int x3), some (.int x4), some (.int x5)], [], g, iv) = pm_then X d 93 25 [some (.ref 0), some (.int x1), some (.int x2), some (.int x3), some (.int x4), some (.int x5)] [] (pm_c X d 15 [.ref 1, .int x1] g iv) := by
  refine (at_aload_n dc93_17 rfl).trans ?_
  refine (at_gfR dc93_18 mc93 lf5_10 fo5_0 (ly0 hL) (lr0_0 hL)).trans ?_
  refine (at_iload_n dc93_21 rfl).trans ?_
  exact at_inv dc93_22 mc93 lm5_71 rfl rfl (Nat.le_of_ble_eq_true rfl) (Or.inl ⟨(ly1 hL), by decide⟩)
theorem b93_25 {X : pm_X} {d : Nat} {x1 : Int32} {x2 : Int32} {x3 : Int32} {x4 : Int32} {x5 : Int32} {s0 : Int32} {g : pm_G} {iv : pm_V}  : pm_at X d 93 (25, [some (.ref 0), some (.int x1), some (.int x2), some (.int x3), some (.int x4), some (.int x5)], [.int s0], g, iv) = if ¬ s0 = 0 then pm_at X d 93 (39, [some (.ref 0), some (.int x1), some (.int x2), some (.int x3), some (.int x4), some (.int x5)], [], g, iv) else pm_at X d 93 (28, [some (.ref 0), some (.int x1), some (.int x2), some (.int x3), some (.int x4), some (.int x5)], [], g, iv) := by
  exact at_if_ne (t := 39) dc93_25 (by decide)
theorem b93_28 {X : pm_X} {d : Nat} {x1 : Int32} {x2 : Int32} {x3 : Int32} {x4 : Int32} {x5 : Int32} {g : pm_G} {iv : pm_V} (hL : pm_lay g) : pm_at X d 93 (28, [some (.ref 0), some (.int x1), some (.int x2), some (.int x3), some (.int x4), some (.int x5)], [], g, iv) = pm_then X d 93 36 [some (.ref 0), some (.int x1), some (.int x2), some (.int x3), some (.int x4), some (.int x5)] [] (pm_c X d 15 [.ref 1, .int x3] g iv) := by
  refine (at_aload_n dc93_28 rfl).trans ?_
  refine (at_gfR dc93_29 mc93 lf5_10 fo5_0 (ly0 hL) (lr0_0 hL)).trans ?_
  refine (at_iload_n dc93_32 rfl).trans ?_
  exact at_inv dc93_33 mc93 lm5_71 rfl rfl (Nat.le_of_ble_eq_true rfl) (Or.inl ⟨(ly1 hL), by decide⟩)
theorem b93_36 {X : pm_X} {d : Nat} {x1 : Int32} {x2 : Int32} {x3 : Int32} {x4 : Int32} {x5 : Int32} {s0 : Int32} {g : pm_G} {iv : pm_V}  : pm_at X d 93 (36, [some (.ref 0), some (.int x1), some (.int x2), some (.int x3), some (.int x4), some (.int x5)], [.int s0], g, iv) = if s0 = 0 then pm_at X d 93 (45, [some (.ref 0), some (.int x1), some (.int x2), some (.int x3), some (.int x4), some (.int x5)], [], g, iv) else pm_at X d 93 (39, [some (.ref 0), some (.int x1), some (.int x2), some (.int x3), some (.int x4), some (.int x5)], [], g, iv) := by
  exact at_if_eq (t := 45) dc93_36 (by decide)
theorem b93_39 {X : pm_X} {d : Nat} {x1 : Int32} {x2 : Int32} {x3 : Int32} {x4 : Int32} {x5 : Int32} {g : pm_G} {iv : pm_V} (hL : pm_lay g) : pm_at X d 93 (39, [some (.ref 0), some (.int x1), some (.int x2), some (.int x3), some (.int x4), some (.int x5)], [], g, iv) = pm_then X d 93 44 [some (.ref 0), some (.int x1), some (.int x2), some (.int x3), some (.int x4), some (.int x5)] [] (pm_c X d 123 [.ref 0, .int 1] g iv) := by
  refine (at_aload_n dc93_39 rfl).trans ?_
  refine (at_iconst (v := 1) dc93_40 rfl).trans ?_
  exact at_inv dc93_41 mc93 lm5_60 rfl rfl (Nat.le_of_ble_eq_true rfl) (Or.inl ⟨(ly0 hL), by decide⟩)
theorem b93_44 {X : pm_X} {d : Nat} {x1 : Int32} {x2 : Int32} {x3 : Int32} {x4 : Int32} {x5 : Int32} {s0 : Int32} {g : pm_G} {iv : pm_V}  : pm_at X d 93 (44, [some (.ref 0), some (.int x1), some (.int x2), some (.int x3), some (.int x4), some (.int x5)], [.int s0], g, iv) = some (some (.int s0), g, iv) := by
  exact at_iret dc93_44 mr93
theorem b93_45 {X : pm_X} {d : Nat} {x1 : Int32} {x2 : Int32} {x3 : Int32} {x4 : Int32} {x5 : Int32} {g : pm_G} {iv : pm_V} (hL : pm_lay g) : pm_at X d 93 (45, [some (.ref 0), some (.int x1), some (.int x2), some (.int x3), some (.int x4), some (.int x5)], [], g, iv) = pm_then X d 93 53 [some (.ref 0), some (.int x1), some (.int x2), some (.int x3), some (.int x4), some (.int x5)] [] (pm_c X d 17 [.ref 1, .int x1] g iv) := by
  refine (at_aload_n dc93_45 rfl).trans ?_
  refine (at_gfR dc93_46 mc93 lf5_10 fo5_0 (ly0 hL) (lr0_0 hL)).trans ?_
  refine (at_iload_n dc93_49 rfl).trans ?_
  exact at_inv dc93_50 mc93 lm5_82 rfl rfl (Nat.le_of_ble_eq_true rfl) (Or.inl ⟨(ly1 hL), by decide⟩)
theorem b93_53 {X : pm_X} {d : Nat} {x1 : Int32} {x2 : Int32} {x3 : Int32} {x4 : Int32} {x5 : Int32} {s0 : Int32} {g : pm_G} {iv : pm_V} (hL : pm_lay g) : pm_at X d 93 (53, [some (.ref 0), some (.int x1), some (.int x2), some (.int x3), some (.int x4), some (.int x5)], [.int s0], g, iv) = pm_then X d 93 61 [some (.ref 0), some (.int x1), some (.int x2), some (.int x3), some (.int x4), some (.int x5)] [.int s0] (pm_c X d 17 [.ref 1, .int x3] g iv) := by
  refine (at_aload_n dc93_53 rfl).trans ?_
  refine (at_gfR dc93_54 mc93 lf5_10 fo5_0 (ly0 hL) (lr0_0 hL)).trans ?_
  refine (at_iload_n dc93_57 rfl).trans ?_
  exact at_inv dc93_58 mc93 lm5_82 rfl rfl (Nat.le_of_ble_eq_true rfl) (Or.inl ⟨(ly1 hL), by decide⟩)
theorem b93_61 {X : pm_X} {d : Nat} {x1 : Int32} {x2 : Int32} {x3 : Int32} {x4 : Int32} {x5 : Int32} {s0 : Int32} {s1 : Int32} {g : pm_G} {iv : pm_V}  : pm_at X d 93 (61, [some (.ref 0), some (.int x1), some (.int x2), some (.int x3), some (.int x4), some (.int x5)], [.int s0, .int s1], g, iv) = if s1 = s0 then pm_at X d 93 (70, [some (.ref 0), some (.int x1), some (.int x2), some (.int x3), some (.int x4), some (.int x5)], [], g, iv) else pm_at X d 93 (64, [some (.ref 0), some (.int x1), some (.int x2), some (.int x3), some (.int x4), some (.int x5)], [], g, iv) := by
  exact at_icmp_eq (t := 70) dc93_61 (by decide)
theorem b93_64 {X : pm_X} {d : Nat} {x1 : Int32} {x2 : Int32} {x3 : Int32} {x4 : Int32} {x5 : Int32} {g : pm_G} {iv : pm_V} (hL : pm_lay g) : pm_at X d 93 (64, [some (.ref 0), some (.int x1), some (.int x2), some (.int x3), some (.int x4), some (.int x5)], [], g, iv) = pm_then X d 93 69 [some (.ref 0), some (.int x1), some (.int x2), some (.int x3), some (.int x4), some (.int x5)] [] (pm_c X d 123 [.ref 0, .int 5] g iv) := by
  refine (at_aload_n dc93_64 rfl).trans ?_
  refine (at_iconst (v := 5) dc93_65 rfl).trans ?_
  exact at_inv dc93_66 mc93 lm5_60 rfl rfl (Nat.le_of_ble_eq_true rfl) (Or.inl ⟨(ly0 hL), by decide⟩)
theorem b93_69 {X : pm_X} {d : Nat} {x1 : Int32} {x2 : Int32} {x3 : Int32} {x4 : Int32} {x5 : Int32} {s0 : Int32} {g : pm_G} {iv : pm_V}  : pm_at X d 93 (69, [some (.ref 0), some (.int x1), some (.int x2), some (.int x3), some (.int x4), some (.int x5)], [.int s0], g, iv) = some (some (.int s0), g, iv) := by
  exact at_iret dc93_69 mr93
theorem b93_70 {X : pm_X} {d : Nat} {x1 : Int32} {x2 : Int32} {x3 : Int32} {x4 : Int32} {x5 : Int32} {g : pm_G} {iv : pm_V} (hL : pm_lay g) : pm_at X d 93 (70, [some (.ref 0), some (.int x1), some (.int x2), some (.int x3), some (.int x4), some (.int x5)], [], g, iv) = pm_then X d 93 81 [some (.ref 0), some (.int x1), some (.int x2), some (.int x3), some (.int x4), some (.int x5)] [] (pm_c X d 16 [.ref 1, .int x1, .int x2, .int x5] g iv) := by
  refine (at_aload_n dc93_70 rfl).trans ?_
  refine (at_gfR dc93_71 mc93 lf5_10 fo5_0 (ly0 hL) (lr0_0 hL)).trans ?_
  refine (at_iload_n dc93_74 rfl).trans ?_
  refine (at_iload_n dc93_75 rfl).trans ?_
  refine (at_iload dc93_76 rfl).trans ?_
  exact at_inv dc93_78 mc93 lm5_74 rfl rfl (Nat.le_of_ble_eq_true rfl) (Or.inl ⟨(ly1 hL), by decide⟩)
theorem b93_81 {X : pm_X} {d : Nat} {x1 : Int32} {x2 : Int32} {x3 : Int32} {x4 : Int32} {x5 : Int32} {s0 : Int32} {g : pm_G} {iv : pm_V}  : pm_at X d 93 (81, [some (.ref 0), some (.int x1), some (.int x2), some (.int x3), some (.int x4), some (.int x5)], [.int s0], g, iv) = if s0 = 0 then pm_at X d 93 (99, [some (.ref 0), some (.int x1), some (.int x2), some (.int x3), some (.int x4), some (.int x5)], [], g, iv) else pm_at X d 93 (84, [some (.ref 0), some (.int x1), some (.int x2), some (.int x3), some (.int x4), some (.int x5)], [], g, iv) := by
  exact at_if_eq (t := 99) dc93_81 (by decide)
theorem b93_84 {X : pm_X} {d : Nat} {x1 : Int32} {x2 : Int32} {x3 : Int32} {x4 : Int32} {x5 : Int32} {g : pm_G} {iv : pm_V} (hL : pm_lay g) : pm_at X d 93 (84, [some (.ref 0), some (.int x1), some (.int x2), some (.int x3), some (.int x4), some (.int x5)], [], g, iv) = pm_then X d 93 96 [some (.ref 0), some (.int x1), some (.int x2), some (.int x3), some (.int x4), some (.int x5)] [] (pm_c X d 16 [.ref 1, .int x3, .int x4, .int x5] g iv) := by
  refine (at_aload_n dc93_84 rfl).trans ?_
  refine (at_gfR dc93_85 mc93 lf5_10 fo5_0 (ly0 hL) (lr0_0 hL)).trans ?_
  refine (at_iload_n dc93_88 rfl).trans ?_
  refine (at_iload dc93_89 rfl).trans ?_
  refine (at_iload dc93_91 rfl).trans ?_
  exact at_inv dc93_93 mc93 lm5_74 rfl rfl (Nat.le_of_ble_eq_true rfl) (Or.inl ⟨(ly1 hL), by decide⟩)
theorem b93_96 {X : pm_X} {d : Nat} {x1 : Int32} {x2 : Int32} {x3 : Int32} {x4 : Int32} {x5 : Int32} {s0 : Int32} {g : pm_G} {iv : pm_V}  : pm_at X d 93 (96, [some (.ref 0), some (.int x1), some (.int x2), some (.int x3), some (.int x4), some (.int x5)], [.int s0], g, iv) = if ¬ s0 = 0 then pm_at X d 93 (105, [some (.ref 0), some (.int x1), some (.int x2), some (.int x3), some (.int x4), some (.int x5)], [], g, iv) else pm_at X d 93 (99, [some (.ref 0), some (.int x1), some (.int x2), some (.int x3), some (.int x4), some (.int x5)], [], g, iv) := by
  exact at_if_ne (t := 105) dc93_96 (by decide)
theorem b93_99 {X : pm_X} {d : Nat} {x1 : Int32} {x2 : Int32} {x3 : Int32} {x4 : Int32} {x5 : Int32} {g : pm_G} {iv : pm_V} (hL : pm_lay g) : pm_at X d 93 (99, [some (.ref 0), some (.int x1), some (.int x2), some (.int x3), some (.int x4), some (.int x5)], [], g, iv) = pm_then X d 93 104 [some (.ref 0), some (.int x1), some (.int x2), some (.int x3), some (.int x4), some (.int x5)] [] (pm_c X d 123 [.ref 0, .int 2] g iv) := by
  refine (at_aload_n dc93_99 rfl).trans ?_
  refine (at_iconst (v := 2) dc93_100 rfl).trans ?_
  exact at_inv dc93_101 mc93 lm5_60 rfl rfl (Nat.le_of_ble_eq_true rfl) (Or.inl ⟨(ly0 hL), by decide⟩)
theorem b93_104 {X : pm_X} {d : Nat} {x1 : Int32} {x2 : Int32} {x3 : Int32} {x4 : Int32} {x5 : Int32} {s0 : Int32} {g : pm_G} {iv : pm_V}  : pm_at X d 93 (104, [some (.ref 0), some (.int x1), some (.int x2), some (.int x3), some (.int x4), some (.int x5)], [.int s0], g, iv) = some (some (.int s0), g, iv) := by
  exact at_iret dc93_104 mr93
theorem b93_105 {X : pm_X} {d : Nat} {x1 : Int32} {x2 : Int32} {x3 : Int32} {x4 : Int32} {x5 : Int32} {g : pm_G} {iv : pm_V} (hL : pm_lay g) : pm_at X d 93 (105, [some (.ref 0), some (.int x1), some (.int x2), some (.int x3), some (.int x4), some (.int x5)], [], g, iv) = pm_then X d 93 119 [some (.ref 0), some (.int x1), some (.int x2), some (.int x3), some (.int x4), some (.int x5)] [] (pm_c X d 22 [.ref 1, .int x1, .int x2, .int x3, .int x4, .int x5] g iv) := by
  refine (at_aload_n dc93_105 rfl).trans ?_
  refine (at_gfR dc93_106 mc93 lf5_10 fo5_0 (ly0 hL) (lr0_0 hL)).trans ?_
  refine (at_iload_n dc93_109 rfl).trans ?_
  refine (at_iload_n dc93_110 rfl).trans ?_
  refine (at_iload_n dc93_111 rfl).trans ?_
  refine (at_iload dc93_112 rfl).trans ?_
  refine (at_iload dc93_114 rfl).trans ?_
  exact at_inv dc93_116 mc93 lm5_85 rfl rfl (Nat.le_of_ble_eq_true rfl) (Or.inl ⟨(ly1 hL), by decide⟩)
theorem b93_119 {X : pm_X} {d : Nat} {x1 : Int32} {x2 : Int32} {x3 : Int32} {x4 : Int32} {x5 : Int32} {g : pm_G} {iv : pm_V} (hL : pm_lay g) : pm_at X d 93 (119, [some (.ref 0), some (.int x1), some (.int x2), some (.int x3), some (.int x4), some (.int x5)], [], g, iv) = pm_then X d 93 125 [some (.ref 0), some (.int x1), some (.int x2), some (.int x3), some (.int x4), some (.int x5)] [] (pm_c X d 124 [.ref 0, .int x5] g iv) := by
  refine (at_aload_n dc93_119 rfl).trans ?_
  refine (at_iload dc93_120 rfl).trans ?_
  exact at_inv dc93_122 mc93 lm5_68 rfl rfl (Nat.le_of_ble_eq_true rfl) (Or.inl ⟨(ly0 hL), by decide⟩)
theorem b93_125 {X : pm_X} {d : Nat} {x1 : Int32} {x2 : Int32} {x3 : Int32} {x4 : Int32} {x5 : Int32} {s0 : Int32} {g : pm_G} {iv : pm_V}  : pm_at X d 93 (125, [some (.ref 0), some (.int x1), some (.int x2), some (.int x3), some (.int x4), some (.int x5)], [.int s0], g, iv) = some (some (.int s0), g, iv) := by
  exact at_iret dc93_125 mr93
-- HH.drop (I)I
theorem dc94_0 : decode (pm_mb 94) 0 = .ok (.iload_n 1, 1) := by decide +kernel
theorem dc94_1 : decode (pm_mb 94) 1 = .ok (.invokestatic 51, 3) := by decide +kernel
theorem dc94_4 : decode (pm_mb 94) 4 = .ok (.ifCond .ne 6, 3) := by decide +kernel
theorem dc94_7 : decode (pm_mb 94) 7 = .ok (.ldc 59, 2) := by decide +kernel
theorem dc94_9 : decode (pm_mb 94) 9 = .ok (.ireturn, 1) := by decide +kernel
theorem dc94_10 : decode (pm_mb 94) 10 = .ok (.aload_n 0, 1) := by decide +kernel
theorem dc94_11 : decode (pm_mb 94) 11 = .ok (.getfield 10, 3) := by decide +kernel
theorem dc94_14 : decode (pm_mb 94) 14 = .ok (.iload_n 1, 1) := by decide +kernel
theorem dc94_15 : decode (pm_mb 94) 15 = .ok (.invokevirtual 71, 3) := by decide +kernel
theorem dc94_18 : decode (pm_mb 94) 18 = .ok (.ifCond .eq 9, 3) := by decide +kernel
theorem dc94_21 : decode (pm_mb 94) 21 = .ok (.aload_n 0, 1) := by decide +kernel
theorem dc94_22 : decode (pm_mb 94) 22 = .ok (.iconst 1, 1) := by decide +kernel
theorem dc94_23 : decode (pm_mb 94) 23 = .ok (.invokevirtual 60, 3) := by decide +kernel
theorem dc94_26 : decode (pm_mb 94) 26 = .ok (.ireturn, 1) := by decide +kernel
theorem dc94_27 : decode (pm_mb 94) 27 = .ok (.aload_n 0, 1) := by decide +kernel
theorem dc94_28 : decode (pm_mb 94) 28 = .ok (.aload_n 0, 1) := by decide +kernel
theorem dc94_29 : decode (pm_mb 94) 29 = .ok (.getfield 10, 3) := by decide +kernel
theorem dc94_32 : decode (pm_mb 94) 32 = .ok (.iload_n 1, 1) := by decide +kernel
theorem dc94_33 : decode (pm_mb 94) 33 = .ok (.invokevirtual 89, 3) := by decide +kernel
theorem dc94_36 : decode (pm_mb 94) 36 = .ok (.invokevirtual 68, 3) := by decide +kernel
theorem dc94_39 : decode (pm_mb 94) 39 = .ok (.ireturn, 1) := by decide +kernel
theorem b94_0 {X : pm_X} {d : Nat} {x1 : Int32} {g : pm_G} {iv : pm_V}  : pm_at X d 94 (0, [some (.ref 0), some (.int x1)], [], g, iv) = pm_then X d 94 4 [some (.ref 0), some (.int x1)] [] (pm_c X d 121 [.int x1] g iv) := by
  refine (at_iload_n dc94_0 rfl).trans ?_
  exact at_ins dc94_1 mc94 lm5_51 (Nat.le_of_ble_eq_true rfl) rfl rfl (Nat.le_of_ble_eq_true rfl)
theorem b94_4 {X : pm_X} {d : Nat} {x1 : Int32} {s0 : Int32} {g : pm_G} {iv : pm_V}  : pm_at X d 94 (4, [some (.ref 0), some (.int x1)], [.int s0], g, iv) = if ¬ s0 = 0 then pm_at X d 94 (10, [some (.ref 0), some (.int x1)], [], g, iv) else pm_at X d 94 (7, [some (.ref 0), some (.int x1)], [], g, iv) := by
  exact at_if_ne (t := 10) dc94_4 (by decide)
theorem b94_7 {X : pm_X} {d : Nat} {x1 : Int32} {g : pm_G} {iv : pm_V}  : pm_at X d 94 (7, [some (.ref 0), some (.int x1)], [], g, iv) = some (some (.int (-1000001)), g, iv) := by
  refine (at_ldc dc94_7 mc94 lk5_59).trans ?_
  exact at_iret dc94_9 mr94
theorem b94_10 {X : pm_X} {d : Nat} {x1 : Int32} {g : pm_G} {iv : pm_V} (hL : pm_lay g) : pm_at X d 94 (10, [some (.ref 0), some (.int x1)], [], g, iv) = pm_then X d 94 18 [some (.ref 0), some (.int x1)] [] (pm_c X d 15 [.ref 1, .int x1] g iv) := by
  refine (at_aload_n dc94_10 rfl).trans ?_
  refine (at_gfR dc94_11 mc94 lf5_10 fo5_0 (ly0 hL) (lr0_0 hL)).trans ?_
  refine (at_iload_n dc94_14 rfl).trans ?_
  exact at_inv dc94_15 mc94 lm5_71 rfl rfl (Nat.le_of_ble_eq_true rfl) (Or.inl ⟨(ly1 hL), by decide⟩)
theorem b94_18 {X : pm_X} {d : Nat} {x1 : Int32} {s0 : Int32} {g : pm_G} {iv : pm_V}  : pm_at X d 94 (18, [some (.ref 0), some (.int x1)], [.int s0], g, iv) = if s0 = 0 then pm_at X d 94 (27, [some (.ref 0), some (.int x1)], [], g, iv) else pm_at X d 94 (21, [some (.ref 0), some (.int x1)], [], g, iv) := by
  exact at_if_eq (t := 27) dc94_18 (by decide)
theorem b94_21 {X : pm_X} {d : Nat} {x1 : Int32} {g : pm_G} {iv : pm_V} (hL : pm_lay g) : pm_at X d 94 (21, [some (.ref 0), some (.int x1)], [], g, iv) = pm_then X d 94 26 [some (.ref 0), some (.int x1)] [] (pm_c X d 123 [.ref 0, .int 1] g iv) := by
  refine (at_aload_n dc94_21 rfl).trans ?_
  refine (at_iconst (v := 1) dc94_22 rfl).trans ?_
  exact at_inv dc94_23 mc94 lm5_60 rfl rfl (Nat.le_of_ble_eq_true rfl) (Or.inl ⟨(ly0 hL), by decide⟩)
theorem b94_26 {X : pm_X} {d : Nat} {x1 : Int32} {s0 : Int32} {g : pm_G} {iv : pm_V}  : pm_at X d 94 (26, [some (.ref 0), some (.int x1)], [.int s0], g, iv) = some (some (.int s0), g, iv) := by
  exact at_iret dc94_26 mr94
theorem b94_27 {X : pm_X} {d : Nat} {x1 : Int32} {g : pm_G} {iv : pm_V} (hL : pm_lay g) : pm_at X d 94 (27, [some (.ref 0), some (.int x1)], [], g, iv) = pm_then X d 94 36 [some (.ref 0), some (.int x1)] [.ref 0] (pm_c X d 23 [.ref 1, .int x1] g iv) := by
  refine (at_aload_n dc94_27 rfl).trans ?_
  refine (at_aload_n dc94_28 rfl).trans ?_
  refine (at_gfR dc94_29 mc94 lf5_10 fo5_0 (ly0 hL) (lr0_0 hL)).trans ?_
  refine (at_iload_n dc94_32 rfl).trans ?_
  exact at_inv dc94_33 mc94 lm5_89 rfl rfl (Nat.le_of_ble_eq_true rfl) (Or.inl ⟨(ly1 hL), by decide⟩)
theorem b94_36 {X : pm_X} {d : Nat} {x1 : Int32} {s0 : Int32} {g : pm_G} {iv : pm_V} (hL : pm_lay g) : pm_at X d 94 (36, [some (.ref 0), some (.int x1)], [.int s0, .ref 0], g, iv) = pm_then X d 94 39 [some (.ref 0), some (.int x1)] [] (pm_c X d 124 [.ref 0, .int s0] g iv) := by
  exact at_inv dc94_36 mc94 lm5_68 rfl rfl (Nat.le_of_ble_eq_true rfl) (Or.inl ⟨(ly0 hL), by decide⟩)
theorem b94_39 {X : pm_X} {d : Nat} {x1 : Int32} {s0 : Int32} {g : pm_G} {iv : pm_V}  : pm_at X d 94 (39, [some (.ref 0), some (.int x1)], [.int s0], g, iv) = some (some (.int s0), g, iv) := by
  exact at_iret dc94_39 mr94
-- HH.feed (JI)I
theorem dc95_0 : decode (pm_mb 95) 0 = .ok (.iload_n 3, 1) := by decide +kernel
theorem dc95_1 : decode (pm_mb 95) 1 = .ok (.iconst 1, 1) := by decide +kernel
theorem dc95_2 : decode (pm_mb 95) 2 = .ok (.if_icmp .lt 9, 3) := by decide +kernel
theorem dc95_5 : decode (pm_mb 95) 5 = .ok (.iload_n 3, 1) := by decide +kernel
theorem dc95_6 : decode (pm_mb 95) 6 = .ok (.bipush 8, 2) := by decide +kernel
theorem dc95_8 : decode (pm_mb 95) 8 = .ok (.if_icmp .le 6, 3) := by decide +kernel
theorem dc95_11 : decode (pm_mb 95) 11 = .ok (.ldc 59, 2) := by decide +kernel
theorem dc95_13 : decode (pm_mb 95) 13 = .ok (.ireturn, 1) := by decide +kernel
theorem dc95_14 : decode (pm_mb 95) 14 = .ok (.aload_n 0, 1) := by decide +kernel
theorem dc95_15 : decode (pm_mb 95) 15 = .ok (.getfield 19, 3) := by decide +kernel
theorem dc95_18 : decode (pm_mb 95) 18 = .ok (.lload_n 1, 1) := by decide +kernel
theorem dc95_19 : decode (pm_mb 95) 19 = .ok (.iload_n 3, 1) := by decide +kernel
theorem dc95_20 : decode (pm_mb 95) 20 = .ok (.invokevirtual 92, 3) := by decide +kernel
theorem dc95_23 : decode (pm_mb 95) 23 = .ok (.ifCond .eq 13, 3) := by decide +kernel
theorem dc95_26 : decode (pm_mb 95) 26 = .ok (.aload_n 0, 1) := by decide +kernel
theorem dc95_27 : decode (pm_mb 95) 27 = .ok (.getfield 19, 3) := by decide +kernel
theorem dc95_30 : decode (pm_mb 95) 30 = .ok (.invokevirtual 96, 3) := by decide +kernel
theorem dc95_33 : decode (pm_mb 95) 33 = .ok (.goto 5, 3) := by decide +kernel
theorem dc95_36 : decode (pm_mb 95) 36 = .ok (.ldc 100, 2) := by decide +kernel
theorem dc95_38 : decode (pm_mb 95) 38 = .ok (.ireturn, 1) := by decide +kernel
theorem b95_0 {X : pm_X} {d : Nat} {x1 : Int64} {x3 : Int32} {g : pm_G} {iv : pm_V}  : pm_at X d 95 (0, [some (.ref 0), some (.long x1), none, some (.int x3)], [], g, iv) = if x3 < 1 then pm_at X d 95 (11, [some (.ref 0), some (.long x1), none, some (.int x3)], [], g, iv) else pm_at X d 95 (5, [some (.ref 0), some (.long x1), none, some (.int x3)], [], g, iv) := by
  refine (at_iload_n dc95_0 rfl).trans ?_
  refine (at_iconst (v := 1) dc95_1 rfl).trans ?_
  exact at_icmp_lt (t := 11) dc95_2 (by decide)
theorem b95_5 {X : pm_X} {d : Nat} {x1 : Int64} {x3 : Int32} {g : pm_G} {iv : pm_V}  : pm_at X d 95 (5, [some (.ref 0), some (.long x1), none, some (.int x3)], [], g, iv) = if x3 ≤ 8 then pm_at X d 95 (14, [some (.ref 0), some (.long x1), none, some (.int x3)], [], g, iv) else pm_at X d 95 (11, [some (.ref 0), some (.long x1), none, some (.int x3)], [], g, iv) := by
  refine (at_iload_n dc95_5 rfl).trans ?_
  refine (at_bipush (v := 8) dc95_6 (by decide)).trans ?_
  exact at_icmp_le (t := 14) dc95_8 (by decide)
theorem b95_11 {X : pm_X} {d : Nat} {x1 : Int64} {x3 : Int32} {g : pm_G} {iv : pm_V}  : pm_at X d 95 (11, [some (.ref 0), some (.long x1), none, some (.int x3)], [], g, iv) = some (some (.int (-1000001)), g, iv) := by
  refine (at_ldc dc95_11 mc95 lk5_59).trans ?_
  exact at_iret dc95_13 mr95
theorem b95_14 {X : pm_X} {d : Nat} {x1 : Int64} {x3 : Int32} {g : pm_G} {iv : pm_V} (hL : pm_lay g) : pm_at X d 95 (14, [some (.ref 0), some (.long x1), none, some (.int x3)], [], g, iv) = pm_then X d 95 23 [some (.ref 0), some (.long x1), none, some (.int x3)] [] (pm_c X d 71 [.ref 5, .long x1, .int x3] g iv) := by
  refine (at_aload_n dc95_14 rfl).trans ?_
  refine (at_gfR dc95_15 mc95 lf5_19 fo5_1 (ly0 hL) (lr0_1 hL)).trans ?_
  refine (at_lload_n dc95_18 rfl).trans ?_
  refine (at_iload_n dc95_19 rfl).trans ?_
  exact at_inv dc95_20 mc95 lm5_92 rfl rfl (Nat.le_of_ble_eq_true rfl) (Or.inl ⟨(ly5 hL), by decide⟩)
theorem b95_23 {X : pm_X} {d : Nat} {x1 : Int64} {x3 : Int32} {s0 : Int32} {g : pm_G} {iv : pm_V}  : pm_at X d 95 (23, [some (.ref 0), some (.long x1), none, some (.int x3)], [.int s0], g, iv) = if s0 = 0 then pm_at X d 95 (36, [some (.ref 0), some (.long x1), none, some (.int x3)], [], g, iv) else pm_at X d 95 (26, [some (.ref 0), some (.long x1), none, some (.int x3)], [], g, iv) := by
  exact at_if_eq (t := 36) dc95_23 (by decide)
theorem b95_26 {X : pm_X} {d : Nat} {x1 : Int64} {x3 : Int32} {g : pm_G} {iv : pm_V} (hL : pm_lay g) : pm_at X d 95 (26, [some (.ref 0), some (.long x1), none, some (.int x3)], [], g, iv) = pm_then X d 95 33 [some (.ref 0), some (.long x1), none, some (.int x3)] [] (pm_c X d 67 [.ref 5] g iv) := by
  refine (at_aload_n dc95_26 rfl).trans ?_
  refine (at_gfR dc95_27 mc95 lf5_19 fo5_1 (ly0 hL) (lr0_1 hL)).trans ?_
  exact at_inv dc95_30 mc95 lm5_96 rfl rfl (Nat.le_of_ble_eq_true rfl) (Or.inl ⟨(ly5 hL), by decide⟩)
theorem b95_33 {X : pm_X} {d : Nat} {x1 : Int64} {x3 : Int32} {s0 : Int32} {g : pm_G} {iv : pm_V}  : pm_at X d 95 (33, [some (.ref 0), some (.long x1), none, some (.int x3)], [.int s0], g, iv) = pm_at X d 95 (38, [some (.ref 0), some (.long x1), none, some (.int x3)], [.int s0], g, iv) := by
  refine (at_goto (t := 38) dc95_33 (by decide)).trans ?_
  rfl
theorem b95_36 {X : pm_X} {d : Nat} {x1 : Int64} {x3 : Int32} {g : pm_G} {iv : pm_V}  : pm_at X d 95 (36, [some (.ref 0), some (.long x1), none, some (.int x3)], [], g, iv) = pm_at X d 95 (38, [some (.ref 0), some (.long x1), none, some (.int x3)], [.int (-1000003)], g, iv) := by
  refine (at_ldc dc95_36 mc95 lk5_100).trans ?_
  rfl
theorem b95_38 {X : pm_X} {d : Nat} {x1 : Int64} {x3 : Int32} {s0 : Int32} {g : pm_G} {iv : pm_V}  : pm_at X d 95 (38, [some (.ref 0), some (.long x1), none, some (.int x3)], [.int s0], g, iv) = some (some (.int s0), g, iv) := by
  exact at_iret dc95_38 mr95
-- HH.hill ()I
theorem dc96_0 : decode (pm_mb 96) 0 = .ok (.aload_n 0, 1) := by decide +kernel
theorem dc96_1 : decode (pm_mb 96) 1 = .ok (.getfield 19, 3) := by decide +kernel
theorem dc96_4 : decode (pm_mb 96) 4 = .ok (.aload_n 0, 1) := by decide +kernel
theorem dc96_5 : decode (pm_mb 96) 5 = .ok (.getfield 44, 3) := by decide +kernel
theorem dc96_8 : decode (pm_mb 96) 8 = .ok (.invokevirtual 101, 3) := by decide +kernel
theorem dc96_11 : decode (pm_mb 96) 11 = .ok (.istore_n 1, 1) := by decide +kernel
theorem dc96_12 : decode (pm_mb 96) 12 = .ok (.aload_n 0, 1) := by decide +kernel
theorem dc96_13 : decode (pm_mb 96) 13 = .ok (.getfield 19, 3) := by decide +kernel
theorem dc96_16 : decode (pm_mb 96) 16 = .ok (.invokevirtual 105, 3) := by decide +kernel
theorem dc96_19 : decode (pm_mb 96) 19 = .ok (.iload_n 1, 1) := by decide +kernel
theorem dc96_20 : decode (pm_mb 96) 20 = .ok (.ifCond .ne 14, 3) := by decide +kernel
theorem dc96_23 : decode (pm_mb 96) 23 = .ok (.ldc 108, 2) := by decide +kernel
theorem dc96_25 : decode (pm_mb 96) 25 = .ok (.aload_n 0, 1) := by decide +kernel
theorem dc96_26 : decode (pm_mb 96) 26 = .ok (.getfield 19, 3) := by decide +kernel
theorem dc96_29 : decode (pm_mb 96) 29 = .ok (.invokevirtual 109, 3) := by decide +kernel
theorem dc96_32 : decode (pm_mb 96) 32 = .ok (.isub, 1) := by decide +kernel
theorem dc96_33 : decode (pm_mb 96) 33 = .ok (.ireturn, 1) := by decide +kernel
theorem dc96_34 : decode (pm_mb 96) 34 = .ok (.aload_n 0, 1) := by decide +kernel
theorem dc96_35 : decode (pm_mb 96) 35 = .ok (.getfield 40, 3) := by decide +kernel
theorem dc96_38 : decode (pm_mb 96) 38 = .ok (.aload_n 0, 1) := by decide +kernel
theorem dc96_39 : decode (pm_mb 96) 39 = .ok (.getfield 44, 3) := by decide +kernel
theorem dc96_42 : decode (pm_mb 96) 42 = .ok (.invokevirtual 112, 3) := by decide +kernel
theorem dc96_45 : decode (pm_mb 96) 45 = .ok (.aload_n 0, 1) := by decide +kernel
theorem dc96_46 : decode (pm_mb 96) 46 = .ok (.getfield 26, 3) := by decide +kernel
theorem dc96_49 : decode (pm_mb 96) 49 = .ok (.invokevirtual 116, 3) := by decide +kernel
theorem dc96_52 : decode (pm_mb 96) 52 = .ok (.aload_n 0, 1) := by decide +kernel
theorem dc96_53 : decode (pm_mb 96) 53 = .ok (.getfield 40, 3) := by decide +kernel
theorem dc96_56 : decode (pm_mb 96) 56 = .ok (.invokevirtual 119, 3) := by decide +kernel
theorem dc96_59 : decode (pm_mb 96) 59 = .ok (.ireturn, 1) := by decide +kernel
theorem b96_0 {X : pm_X} {d : Nat} {g : pm_G} {iv : pm_V} (hL : pm_lay g) : pm_at X d 96 (0, [some (.ref 0), none], [], g, iv) = pm_then X d 96 11 [some (.ref 0), none] [] (pm_c X d 72 [.ref 5, .ref 21] g iv) := by
  refine (at_aload_n dc96_0 rfl).trans ?_
  refine (at_gfR dc96_1 mc96 lf5_19 fo5_1 (ly0 hL) (lr0_1 hL)).trans ?_
  refine (at_aload_n dc96_4 rfl).trans ?_
  refine (at_gfR dc96_5 mc96 lf5_44 fo5_5 (ly0 hL) (lr0_5 hL)).trans ?_
  exact at_inv dc96_8 mc96 lm5_101 rfl rfl (Nat.le_of_ble_eq_true rfl) (Or.inl ⟨(ly5 hL), by decide⟩)
theorem b96_11 {X : pm_X} {d : Nat} {s0 : Int32} {g : pm_G} {iv : pm_V} (hL : pm_lay g) : pm_at X d 96 (11, [some (.ref 0), none], [.int s0], g, iv) = pm_then X d 96 19 [some (.ref 0), some (.int s0)] [] (pm_c X d 70 [.ref 5] g iv) := by
  refine (at_istore_n dc96_11 rfl).trans ?_
  refine (at_aload_n dc96_12 rfl).trans ?_
  refine (at_gfR dc96_13 mc96 lf5_19 fo5_1 (ly0 hL) (lr0_1 hL)).trans ?_
  exact at_inv dc96_16 mc96 lm5_105 rfl rfl (Nat.le_of_ble_eq_true rfl) (Or.inl ⟨(ly5 hL), by decide⟩)
theorem b96_19 {X : pm_X} {d : Nat} {x1 : Int32} {g : pm_G} {iv : pm_V}  : pm_at X d 96 (19, [some (.ref 0), some (.int x1)], [], g, iv) = if ¬ x1 = 0 then pm_at X d 96 (34, [some (.ref 0), some (.int x1)], [], g, iv) else pm_at X d 96 (23, [some (.ref 0), some (.int x1)], [], g, iv) := by
  refine (at_iload_n dc96_19 rfl).trans ?_
  exact at_if_ne (t := 34) dc96_20 (by decide)
theorem b96_23 {X : pm_X} {d : Nat} {x1 : Int32} {g : pm_G} {iv : pm_V} (hL : pm_lay g) : pm_at X d 96 (23, [some (.ref 0), some (.int x1)], [], g, iv) = pm_then X d 96 32 [some (.ref 0), some (.int x1)] [.int (-1000100)] (pm_c X d 69 [.ref 5] g iv) := by
  refine (at_ldc dc96_23 mc96 lk5_108).trans ?_
  refine (at_aload_n dc96_25 rfl).trans ?_
  refine (at_gfR dc96_26 mc96 lf5_19 fo5_1 (ly0 hL) (lr0_1 hL)).trans ?_
  exact at_inv dc96_29 mc96 lm5_109 rfl rfl (Nat.le_of_ble_eq_true rfl) (Or.inl ⟨(ly5 hL), by decide⟩)
theorem b96_32 {X : pm_X} {d : Nat} {x1 : Int32} {s0 : Int32} {s1 : Int32} {g : pm_G} {iv : pm_V}  : pm_at X d 96 (32, [some (.ref 0), some (.int x1)], [.int s0, .int s1], g, iv) = some (some (.int (s1 - s0)), g, iv) := by
  refine (at_isub dc96_32).trans ?_
  exact at_iret dc96_33 mr96
theorem b96_34 {X : pm_X} {d : Nat} {x1 : Int32} {g : pm_G} {iv : pm_V} (hL : pm_lay g) : pm_at X d 96 (34, [some (.ref 0), some (.int x1)], [], g, iv) = pm_then X d 96 45 [some (.ref 0), some (.int x1)] [] (pm_c X d 52 [.ref 11, .ref 21] g iv) := by
  refine (at_aload_n dc96_34 rfl).trans ?_
  refine (at_gfR dc96_35 mc96 lf5_40 fo5_4 (ly0 hL) (lr0_4 hL)).trans ?_
  refine (at_aload_n dc96_38 rfl).trans ?_
  refine (at_gfR dc96_39 mc96 lf5_44 fo5_5 (ly0 hL) (lr0_5 hL)).trans ?_
  exact at_inv dc96_42 mc96 lm5_112 rfl rfl (Nat.le_of_ble_eq_true rfl) (Or.inl ⟨(ly11 hL), by decide⟩)
theorem b96_45 {X : pm_X} {d : Nat} {x1 : Int32} {g : pm_G} {iv : pm_V} (hL : pm_lay g) : pm_at X d 96 (45, [some (.ref 0), some (.int x1)], [], g, iv) = pm_then X d 96 52 [some (.ref 0), some (.int x1)] [] (pm_c X d 2 [.ref 7] g iv) := by
  refine (at_aload_n dc96_45 rfl).trans ?_
  refine (at_gfR dc96_46 mc96 lf5_26 fo5_2 (ly0 hL) (lr0_2 hL)).trans ?_
  exact at_inv dc96_49 mc96 lm5_116 rfl rfl (Nat.le_of_ble_eq_true rfl) (Or.inl ⟨(ly7 hL), by decide⟩)
theorem b96_52 {X : pm_X} {d : Nat} {x1 : Int32} {g : pm_G} {iv : pm_V} (hL : pm_lay g) : pm_at X d 96 (52, [some (.ref 0), some (.int x1)], [], g, iv) = pm_then X d 96 59 [some (.ref 0), some (.int x1)] [] (pm_c X d 29 [.ref 11] g iv) := by
  refine (at_aload_n dc96_52 rfl).trans ?_
  refine (at_gfR dc96_53 mc96 lf5_40 fo5_4 (ly0 hL) (lr0_4 hL)).trans ?_
  exact at_inv dc96_56 mc96 lm5_119 rfl rfl (Nat.le_of_ble_eq_true rfl) (Or.inl ⟨(ly11 hL), by decide⟩)
theorem b96_59 {X : pm_X} {d : Nat} {x1 : Int32} {s0 : Int32} {g : pm_G} {iv : pm_V}  : pm_at X d 96 (59, [some (.ref 0), some (.int x1)], [.int s0], g, iv) = some (some (.int s0), g, iv) := by
  exact at_iret dc96_59 mr96
-- HH.fault ()I
theorem dc97_0 : decode (pm_mb 97) 0 = .ok (.aload_n 0, 1) := by decide +kernel
theorem dc97_1 : decode (pm_mb 97) 1 = .ok (.getfield 19, 3) := by decide +kernel
theorem dc97_4 : decode (pm_mb 97) 4 = .ok (.invokevirtual 122, 3) := by decide +kernel
theorem dc97_7 : decode (pm_mb 97) 7 = .ok (.ireturn, 1) := by decide +kernel
theorem b97_0 {X : pm_X} {d : Nat} {g : pm_G} {iv : pm_V} (hL : pm_lay g) : pm_at X d 97 (0, [some (.ref 0)], [], g, iv) = pm_then X d 97 7 [some (.ref 0)] [] (pm_c X d 68 [.ref 5] g iv) := by
  refine (at_aload_n dc97_0 rfl).trans ?_
  refine (at_gfR dc97_1 mc97 lf5_19 fo5_1 (ly0 hL) (lr0_1 hL)).trans ?_
  exact at_inv dc97_4 mc97 lm5_122 rfl rfl (Nat.le_of_ble_eq_true rfl) (Or.inl ⟨(ly5 hL), by decide⟩)
theorem b97_7 {X : pm_X} {d : Nat} {s0 : Int32} {g : pm_G} {iv : pm_V}  : pm_at X d 97 (7, [some (.ref 0)], [.int s0], g, iv) = some (some (.int s0), g, iv) := by
  exact at_iret dc97_7 mr97
-- HH.winter ()I
theorem dc98_0 : decode (pm_mb 98) 0 = .ok (.aload_n 0, 1) := by decide +kernel
theorem dc98_1 : decode (pm_mb 98) 1 = .ok (.getfield 40, 3) := by decide +kernel
theorem dc98_4 : decode (pm_mb 98) 4 = .ok (.invokevirtual 125, 3) := by decide +kernel
theorem dc98_7 : decode (pm_mb 98) 7 = .ok (.ifCond .ne 6, 3) := by decide +kernel
theorem dc98_10 : decode (pm_mb 98) 10 = .ok (.ldc 129, 2) := by decide +kernel
theorem dc98_12 : decode (pm_mb 98) 12 = .ok (.ireturn, 1) := by decide +kernel
theorem dc98_13 : decode (pm_mb 98) 13 = .ok (.aload_n 0, 1) := by decide +kernel
theorem dc98_14 : decode (pm_mb 98) 14 = .ok (.getfield 40, 3) := by decide +kernel
theorem dc98_17 : decode (pm_mb 98) 17 = .ok (.invokevirtual 130, 3) := by decide +kernel
theorem dc98_20 : decode (pm_mb 98) 20 = .ok (.sipush 9999, 3) := by decide +kernel
theorem dc98_23 : decode (pm_mb 98) 23 = .ok (.if_icmp .lt 6, 3) := by decide +kernel
theorem dc98_26 : decode (pm_mb 98) 26 = .ok (.ldc 100, 2) := by decide +kernel
theorem dc98_28 : decode (pm_mb 98) 28 = .ok (.ireturn, 1) := by decide +kernel
theorem dc98_29 : decode (pm_mb 98) 29 = .ok (.aload_n 0, 1) := by decide +kernel
theorem dc98_30 : decode (pm_mb 98) 30 = .ok (.getfield 26, 3) := by decide +kernel
theorem dc98_33 : decode (pm_mb 98) 33 = .ok (.aload_n 0, 1) := by decide +kernel
theorem dc98_34 : decode (pm_mb 98) 34 = .ok (.getfield 40, 3) := by decide +kernel
theorem dc98_37 : decode (pm_mb 98) 37 = .ok (.invokevirtual 133, 3) := by decide +kernel
theorem dc98_40 : decode (pm_mb 98) 40 = .ok (.aload_n 0, 1) := by decide +kernel
theorem dc98_41 : decode (pm_mb 98) 41 = .ok (.getfield 40, 3) := by decide +kernel
theorem dc98_44 : decode (pm_mb 98) 44 = .ok (.invokevirtual 136, 3) := by decide +kernel
theorem dc98_47 : decode (pm_mb 98) 47 = .ok (.ireturn, 1) := by decide +kernel
theorem b98_0 {X : pm_X} {d : Nat} {g : pm_G} {iv : pm_V} (hL : pm_lay g) : pm_at X d 98 (0, [some (.ref 0)], [], g, iv) = pm_then X d 98 7 [some (.ref 0)] [] (pm_c X d 26 [.ref 11] g iv) := by
  refine (at_aload_n dc98_0 rfl).trans ?_
  refine (at_gfR dc98_1 mc98 lf5_40 fo5_4 (ly0 hL) (lr0_4 hL)).trans ?_
  exact at_inv dc98_4 mc98 lm5_125 rfl rfl (Nat.le_of_ble_eq_true rfl) (Or.inl ⟨(ly11 hL), by decide⟩)
theorem b98_7 {X : pm_X} {d : Nat} {s0 : Int32} {g : pm_G} {iv : pm_V}  : pm_at X d 98 (7, [some (.ref 0)], [.int s0], g, iv) = if ¬ s0 = 0 then pm_at X d 98 (13, [some (.ref 0)], [], g, iv) else pm_at X d 98 (10, [some (.ref 0)], [], g, iv) := by
  exact at_if_ne (t := 13) dc98_7 (by decide)
theorem b98_10 {X : pm_X} {d : Nat} {g : pm_G} {iv : pm_V}  : pm_at X d 98 (10, [some (.ref 0)], [], g, iv) = some (some (.int (-1000002)), g, iv) := by
  refine (at_ldc dc98_10 mc98 lk5_129).trans ?_
  exact at_iret dc98_12 mr98
theorem b98_13 {X : pm_X} {d : Nat} {g : pm_G} {iv : pm_V} (hL : pm_lay g) : pm_at X d 98 (13, [some (.ref 0)], [], g, iv) = pm_then X d 98 20 [some (.ref 0)] [] (pm_c X d 30 [.ref 11] g iv) := by
  refine (at_aload_n dc98_13 rfl).trans ?_
  refine (at_gfR dc98_14 mc98 lf5_40 fo5_4 (ly0 hL) (lr0_4 hL)).trans ?_
  exact at_inv dc98_17 mc98 lm5_130 rfl rfl (Nat.le_of_ble_eq_true rfl) (Or.inl ⟨(ly11 hL), by decide⟩)
theorem b98_20 {X : pm_X} {d : Nat} {s0 : Int32} {g : pm_G} {iv : pm_V}  : pm_at X d 98 (20, [some (.ref 0)], [.int s0], g, iv) = if s0 < 9999 then pm_at X d 98 (29, [some (.ref 0)], [], g, iv) else pm_at X d 98 (26, [some (.ref 0)], [], g, iv) := by
  refine (at_sipush (v := 9999) dc98_20 (by decide)).trans ?_
  exact at_icmp_lt (t := 29) dc98_23 (by decide)
theorem b98_26 {X : pm_X} {d : Nat} {g : pm_G} {iv : pm_V}  : pm_at X d 98 (26, [some (.ref 0)], [], g, iv) = some (some (.int (-1000003)), g, iv) := by
  refine (at_ldc dc98_26 mc98 lk5_100).trans ?_
  exact at_iret dc98_28 mr98
theorem b98_29 {X : pm_X} {d : Nat} {g : pm_G} {iv : pm_V} (hL : pm_lay g) : pm_at X d 98 (29, [some (.ref 0)], [], g, iv) = pm_then X d 98 40 [some (.ref 0)] [] (pm_c X d 3 [.ref 7, .ref 11] g iv) := by
  refine (at_aload_n dc98_29 rfl).trans ?_
  refine (at_gfR dc98_30 mc98 lf5_26 fo5_2 (ly0 hL) (lr0_2 hL)).trans ?_
  refine (at_aload_n dc98_33 rfl).trans ?_
  refine (at_gfR dc98_34 mc98 lf5_40 fo5_4 (ly0 hL) (lr0_4 hL)).trans ?_
  exact at_inv dc98_37 mc98 lm5_133 rfl rfl (Nat.le_of_ble_eq_true rfl) (Or.inl ⟨(ly7 hL), by decide⟩)
theorem b98_40 {X : pm_X} {d : Nat} {g : pm_G} {iv : pm_V} (hL : pm_lay g) : pm_at X d 98 (40, [some (.ref 0)], [], g, iv) = pm_then X d 98 47 [some (.ref 0)] [] (pm_c X d 60 [.ref 11] g iv) := by
  refine (at_aload_n dc98_40 rfl).trans ?_
  refine (at_gfR dc98_41 mc98 lf5_40 fo5_4 (ly0 hL) (lr0_4 hL)).trans ?_
  exact at_inv dc98_44 mc98 lm5_136 rfl rfl (Nat.le_of_ble_eq_true rfl) (Or.inl ⟨(ly11 hL), by decide⟩)
theorem b98_47 {X : pm_X} {d : Nat} {s0 : Int32} {g : pm_G} {iv : pm_V}  : pm_at X d 98 (47, [some (.ref 0)], [.int s0], g, iv) = some (some (.int s0), g, iv) := by
  exact at_iret dc98_47 mr98
-- HH.haul (II)I
theorem dc99_0 : decode (pm_mb 99) 0 = .ok (.aload_n 0, 1) := by decide +kernel
theorem dc99_1 : decode (pm_mb 99) 1 = .ok (.getfield 40, 3) := by decide +kernel
theorem dc99_4 : decode (pm_mb 99) 4 = .ok (.iload_n 1, 1) := by decide +kernel
theorem dc99_5 : decode (pm_mb 99) 5 = .ok (.invokevirtual 139, 3) := by decide +kernel
theorem dc99_8 : decode (pm_mb 99) 8 = .ok (.ifCond .eq 14, 3) := by decide +kernel
theorem dc99_11 : decode (pm_mb 99) 11 = .ok (.aload_n 0, 1) := by decide +kernel
theorem dc99_12 : decode (pm_mb 99) 12 = .ok (.getfield 40, 3) := by decide +kernel
theorem dc99_15 : decode (pm_mb 99) 15 = .ok (.iload_n 2, 1) := by decide +kernel
theorem dc99_16 : decode (pm_mb 99) 16 = .ok (.invokevirtual 142, 3) := by decide +kernel
theorem dc99_19 : decode (pm_mb 99) 19 = .ok (.ifCond .ne 6, 3) := by decide +kernel
theorem dc99_22 : decode (pm_mb 99) 22 = .ok (.ldc 59, 2) := by decide +kernel
theorem dc99_24 : decode (pm_mb 99) 24 = .ok (.ireturn, 1) := by decide +kernel
theorem dc99_25 : decode (pm_mb 99) 25 = .ok (.aload_n 0, 1) := by decide +kernel
theorem dc99_26 : decode (pm_mb 99) 26 = .ok (.getfield 40, 3) := by decide +kernel
theorem dc99_29 : decode (pm_mb 99) 29 = .ok (.iload_n 2, 1) := by decide +kernel
theorem dc99_30 : decode (pm_mb 99) 30 = .ok (.iconst 0, 1) := by decide +kernel
theorem dc99_31 : decode (pm_mb 99) 31 = .ok (.invokevirtual 145, 3) := by decide +kernel
theorem dc99_34 : decode (pm_mb 99) 34 = .ok (.bipush (-2), 2) := by decide +kernel
theorem dc99_36 : decode (pm_mb 99) 36 = .ok (.if_icmp .ne 14, 3) := by decide +kernel
theorem dc99_39 : decode (pm_mb 99) 39 = .ok (.aload_n 0, 1) := by decide +kernel
theorem dc99_40 : decode (pm_mb 99) 40 = .ok (.getfield 40, 3) := by decide +kernel
theorem dc99_43 : decode (pm_mb 99) 43 = .ok (.invokevirtual 119, 3) := by decide +kernel
theorem dc99_46 : decode (pm_mb 99) 46 = .ok (.iconst 2, 1) := by decide +kernel
theorem dc99_47 : decode (pm_mb 99) 47 = .ok (.if_icmp .ge 6, 3) := by decide +kernel
theorem dc99_50 : decode (pm_mb 99) 50 = .ok (.ldc 129, 2) := by decide +kernel
theorem dc99_52 : decode (pm_mb 99) 52 = .ok (.ireturn, 1) := by decide +kernel
theorem dc99_53 : decode (pm_mb 99) 53 = .ok (.aload_n 0, 1) := by decide +kernel
theorem dc99_54 : decode (pm_mb 99) 54 = .ok (.getfield 26, 3) := by decide +kernel
theorem dc99_57 : decode (pm_mb 99) 57 = .ok (.aload_n 0, 1) := by decide +kernel
theorem dc99_58 : decode (pm_mb 99) 58 = .ok (.getfield 40, 3) := by decide +kernel
theorem dc99_61 : decode (pm_mb 99) 61 = .ok (.invokevirtual 133, 3) := by decide +kernel
theorem dc99_64 : decode (pm_mb 99) 64 = .ok (.aload_n 0, 1) := by decide +kernel
theorem dc99_65 : decode (pm_mb 99) 65 = .ok (.getfield 40, 3) := by decide +kernel
theorem dc99_68 : decode (pm_mb 99) 68 = .ok (.iload_n 1, 1) := by decide +kernel
theorem dc99_69 : decode (pm_mb 99) 69 = .ok (.iload_n 2, 1) := by decide +kernel
theorem dc99_70 : decode (pm_mb 99) 70 = .ok (.invokevirtual 149, 3) := by decide +kernel
theorem dc99_73 : decode (pm_mb 99) 73 = .ok (.ireturn, 1) := by decide +kernel
theorem b99_0 {X : pm_X} {d : Nat} {x1 : Int32} {x2 : Int32} {g : pm_G} {iv : pm_V} (hL : pm_lay g) : pm_at X d 99 (0, [some (.ref 0), some (.int x1), some (.int x2)], [], g, iv) = pm_then X d 99 8 [some (.ref 0), some (.int x1), some (.int x2)] [] (pm_c X d 35 [.ref 11, .int x1] g iv) := by
  refine (at_aload_n dc99_0 rfl).trans ?_
  refine (at_gfR dc99_1 mc99 lf5_40 fo5_4 (ly0 hL) (lr0_4 hL)).trans ?_
  refine (at_iload_n dc99_4 rfl).trans ?_
  exact at_inv dc99_5 mc99 lm5_139 rfl rfl (Nat.le_of_ble_eq_true rfl) (Or.inl ⟨(ly11 hL), by decide⟩)
theorem b99_8 {X : pm_X} {d : Nat} {x1 : Int32} {x2 : Int32} {s0 : Int32} {g : pm_G} {iv : pm_V}  : pm_at X d 99 (8, [some (.ref 0), some (.int x1), some (.int x2)], [.int s0], g, iv) = if s0 = 0 then pm_at X d 99 (22, [some (.ref 0), some (.int x1), some (.int x2)], [], g, iv) else pm_at X d 99 (11, [some (.ref 0), some (.int x1), some (.int x2)], [], g, iv) := by
  exact at_if_eq (t := 22) dc99_8 (by decide)
theorem b99_11 {X : pm_X} {d : Nat} {x1 : Int32} {x2 : Int32} {g : pm_G} {iv : pm_V} (hL : pm_lay g) : pm_at X d 99 (11, [some (.ref 0), some (.int x1), some (.int x2)], [], g, iv) = pm_then X d 99 19 [some (.ref 0), some (.int x1), some (.int x2)] [] (pm_c X d 33 [.ref 11, .int x2] g iv) := by
  refine (at_aload_n dc99_11 rfl).trans ?_
  refine (at_gfR dc99_12 mc99 lf5_40 fo5_4 (ly0 hL) (lr0_4 hL)).trans ?_
  refine (at_iload_n dc99_15 rfl).trans ?_
  exact at_inv dc99_16 mc99 lm5_142 rfl rfl (Nat.le_of_ble_eq_true rfl) (Or.inl ⟨(ly11 hL), by decide⟩)
theorem b99_19 {X : pm_X} {d : Nat} {x1 : Int32} {x2 : Int32} {s0 : Int32} {g : pm_G} {iv : pm_V}  : pm_at X d 99 (19, [some (.ref 0), some (.int x1), some (.int x2)], [.int s0], g, iv) = if ¬ s0 = 0 then pm_at X d 99 (25, [some (.ref 0), some (.int x1), some (.int x2)], [], g, iv) else pm_at X d 99 (22, [some (.ref 0), some (.int x1), some (.int x2)], [], g, iv) := by
  exact at_if_ne (t := 25) dc99_19 (by decide)
theorem b99_22 {X : pm_X} {d : Nat} {x1 : Int32} {x2 : Int32} {g : pm_G} {iv : pm_V}  : pm_at X d 99 (22, [some (.ref 0), some (.int x1), some (.int x2)], [], g, iv) = some (some (.int (-1000001)), g, iv) := by
  refine (at_ldc dc99_22 mc99 lk5_59).trans ?_
  exact at_iret dc99_24 mr99
theorem b99_25 {X : pm_X} {d : Nat} {x1 : Int32} {x2 : Int32} {g : pm_G} {iv : pm_V} (hL : pm_lay g) : pm_at X d 99 (25, [some (.ref 0), some (.int x1), some (.int x2)], [], g, iv) = pm_then X d 99 34 [some (.ref 0), some (.int x1), some (.int x2)] [] (pm_c X d 45 [.ref 11, .int x2, .int 0] g iv) := by
  refine (at_aload_n dc99_25 rfl).trans ?_
  refine (at_gfR dc99_26 mc99 lf5_40 fo5_4 (ly0 hL) (lr0_4 hL)).trans ?_
  refine (at_iload_n dc99_29 rfl).trans ?_
  refine (at_iconst (v := 0) dc99_30 rfl).trans ?_
  exact at_inv dc99_31 mc99 lm5_145 rfl rfl (Nat.le_of_ble_eq_true rfl) (Or.inl ⟨(ly11 hL), by decide⟩)
theorem b99_34 {X : pm_X} {d : Nat} {x1 : Int32} {x2 : Int32} {s0 : Int32} {g : pm_G} {iv : pm_V}  : pm_at X d 99 (34, [some (.ref 0), some (.int x1), some (.int x2)], [.int s0], g, iv) = if ¬ s0 = (-2) then pm_at X d 99 (50, [some (.ref 0), some (.int x1), some (.int x2)], [], g, iv) else pm_at X d 99 (39, [some (.ref 0), some (.int x1), some (.int x2)], [], g, iv) := by
  refine (at_bipush (v := (-2)) dc99_34 (by decide)).trans ?_
  exact at_icmp_ne (t := 50) dc99_36 (by decide)
theorem b99_39 {X : pm_X} {d : Nat} {x1 : Int32} {x2 : Int32} {g : pm_G} {iv : pm_V} (hL : pm_lay g) : pm_at X d 99 (39, [some (.ref 0), some (.int x1), some (.int x2)], [], g, iv) = pm_then X d 99 46 [some (.ref 0), some (.int x1), some (.int x2)] [] (pm_c X d 29 [.ref 11] g iv) := by
  refine (at_aload_n dc99_39 rfl).trans ?_
  refine (at_gfR dc99_40 mc99 lf5_40 fo5_4 (ly0 hL) (lr0_4 hL)).trans ?_
  exact at_inv dc99_43 mc99 lm5_119 rfl rfl (Nat.le_of_ble_eq_true rfl) (Or.inl ⟨(ly11 hL), by decide⟩)
theorem b99_46 {X : pm_X} {d : Nat} {x1 : Int32} {x2 : Int32} {s0 : Int32} {g : pm_G} {iv : pm_V}  : pm_at X d 99 (46, [some (.ref 0), some (.int x1), some (.int x2)], [.int s0], g, iv) = if 2 ≤ s0 then pm_at X d 99 (53, [some (.ref 0), some (.int x1), some (.int x2)], [], g, iv) else pm_at X d 99 (50, [some (.ref 0), some (.int x1), some (.int x2)], [], g, iv) := by
  refine (at_iconst (v := 2) dc99_46 rfl).trans ?_
  exact at_icmp_ge (t := 53) dc99_47 (by decide)
theorem b99_50 {X : pm_X} {d : Nat} {x1 : Int32} {x2 : Int32} {g : pm_G} {iv : pm_V}  : pm_at X d 99 (50, [some (.ref 0), some (.int x1), some (.int x2)], [], g, iv) = some (some (.int (-1000002)), g, iv) := by
  refine (at_ldc dc99_50 mc99 lk5_129).trans ?_
  exact at_iret dc99_52 mr99
theorem b99_53 {X : pm_X} {d : Nat} {x1 : Int32} {x2 : Int32} {g : pm_G} {iv : pm_V} (hL : pm_lay g) : pm_at X d 99 (53, [some (.ref 0), some (.int x1), some (.int x2)], [], g, iv) = pm_then X d 99 64 [some (.ref 0), some (.int x1), some (.int x2)] [] (pm_c X d 3 [.ref 7, .ref 11] g iv) := by
  refine (at_aload_n dc99_53 rfl).trans ?_
  refine (at_gfR dc99_54 mc99 lf5_26 fo5_2 (ly0 hL) (lr0_2 hL)).trans ?_
  refine (at_aload_n dc99_57 rfl).trans ?_
  refine (at_gfR dc99_58 mc99 lf5_40 fo5_4 (ly0 hL) (lr0_4 hL)).trans ?_
  exact at_inv dc99_61 mc99 lm5_133 rfl rfl (Nat.le_of_ble_eq_true rfl) (Or.inl ⟨(ly7 hL), by decide⟩)
theorem b99_64 {X : pm_X} {d : Nat} {x1 : Int32} {x2 : Int32} {g : pm_G} {iv : pm_V} (hL : pm_lay g) : pm_at X d 99 (64, [some (.ref 0), some (.int x1), some (.int x2)], [], g, iv) = pm_then X d 99 73 [some (.ref 0), some (.int x1), some (.int x2)] [] (pm_c X d 56 [.ref 11, .int x1, .int x2] g iv) := by
  refine (at_aload_n dc99_64 rfl).trans ?_
  refine (at_gfR dc99_65 mc99 lf5_40 fo5_4 (ly0 hL) (lr0_4 hL)).trans ?_
  refine (at_iload_n dc99_68 rfl).trans ?_
  refine (at_iload_n dc99_69 rfl).trans ?_
  exact at_inv dc99_70 mc99 lm5_149 rfl rfl (Nat.le_of_ble_eq_true rfl) (Or.inl ⟨(ly11 hL), by decide⟩)
theorem b99_73 {X : pm_X} {d : Nat} {x1 : Int32} {x2 : Int32} {s0 : Int32} {g : pm_G} {iv : pm_V}  : pm_at X d 99 (73, [some (.ref 0), some (.int x1), some (.int x2)], [.int s0], g, iv) = some (some (.int s0), g, iv) := by
  exact at_iret dc99_73 mr99
-- HH.chock (II)I
theorem dc100_0 : decode (pm_mb 100) 0 = .ok (.aload_n 0, 1) := by decide +kernel
theorem dc100_1 : decode (pm_mb 100) 1 = .ok (.getfield 40, 3) := by decide +kernel
theorem dc100_4 : decode (pm_mb 100) 4 = .ok (.iload_n 1, 1) := by decide +kernel
theorem dc100_5 : decode (pm_mb 100) 5 = .ok (.invokevirtual 139, 3) := by decide +kernel
theorem dc100_8 : decode (pm_mb 100) 8 = .ok (.ifCond .eq 11, 3) := by decide +kernel
theorem dc100_11 : decode (pm_mb 100) 11 = .ok (.iload_n 2, 1) := by decide +kernel
theorem dc100_12 : decode (pm_mb 100) 12 = .ok (.iconst 1, 1) := by decide +kernel
theorem dc100_13 : decode (pm_mb 100) 13 = .ok (.invokestatic 55, 3) := by decide +kernel
theorem dc100_16 : decode (pm_mb 100) 16 = .ok (.ifCond .ne 6, 3) := by decide +kernel
theorem dc100_19 : decode (pm_mb 100) 19 = .ok (.ldc 59, 2) := by decide +kernel
theorem dc100_21 : decode (pm_mb 100) 21 = .ok (.ireturn, 1) := by decide +kernel
theorem dc100_22 : decode (pm_mb 100) 22 = .ok (.aload_n 0, 1) := by decide +kernel
theorem dc100_23 : decode (pm_mb 100) 23 = .ok (.iload_n 1, 1) := by decide +kernel
theorem dc100_24 : decode (pm_mb 100) 24 = .ok (.iload_n 2, 1) := by decide +kernel
theorem dc100_25 : decode (pm_mb 100) 25 = .ok (.invokevirtual 152, 3) := by decide +kernel
theorem dc100_28 : decode (pm_mb 100) 28 = .ok (.ireturn, 1) := by decide +kernel
theorem b100_0 {X : pm_X} {d : Nat} {x1 : Int32} {x2 : Int32} {g : pm_G} {iv : pm_V} (hL : pm_lay g) : pm_at X d 100 (0, [some (.ref 0), some (.int x1), some (.int x2)], [], g, iv) = pm_then X d 100 8 [some (.ref 0), some (.int x1), some (.int x2)] [] (pm_c X d 35 [.ref 11, .int x1] g iv) := by
  refine (at_aload_n dc100_0 rfl).trans ?_
  refine (at_gfR dc100_1 mc100 lf5_40 fo5_4 (ly0 hL) (lr0_4 hL)).trans ?_
  refine (at_iload_n dc100_4 rfl).trans ?_
  exact at_inv dc100_5 mc100 lm5_139 rfl rfl (Nat.le_of_ble_eq_true rfl) (Or.inl ⟨(ly11 hL), by decide⟩)
theorem b100_8 {X : pm_X} {d : Nat} {x1 : Int32} {x2 : Int32} {s0 : Int32} {g : pm_G} {iv : pm_V}  : pm_at X d 100 (8, [some (.ref 0), some (.int x1), some (.int x2)], [.int s0], g, iv) = if s0 = 0 then pm_at X d 100 (19, [some (.ref 0), some (.int x1), some (.int x2)], [], g, iv) else pm_at X d 100 (11, [some (.ref 0), some (.int x1), some (.int x2)], [], g, iv) := by
  exact at_if_eq (t := 19) dc100_8 (by decide)
theorem b100_11 {X : pm_X} {d : Nat} {x1 : Int32} {x2 : Int32} {g : pm_G} {iv : pm_V}  : pm_at X d 100 (11, [some (.ref 0), some (.int x1), some (.int x2)], [], g, iv) = pm_then X d 100 16 [some (.ref 0), some (.int x1), some (.int x2)] [] (pm_c X d 120 [.int x2, .int 1] g iv) := by
  refine (at_iload_n dc100_11 rfl).trans ?_
  refine (at_iconst (v := 1) dc100_12 rfl).trans ?_
  exact at_ins dc100_13 mc100 lm5_55 (Nat.le_of_ble_eq_true rfl) rfl rfl (Nat.le_of_ble_eq_true rfl)
theorem b100_16 {X : pm_X} {d : Nat} {x1 : Int32} {x2 : Int32} {s0 : Int32} {g : pm_G} {iv : pm_V}  : pm_at X d 100 (16, [some (.ref 0), some (.int x1), some (.int x2)], [.int s0], g, iv) = if ¬ s0 = 0 then pm_at X d 100 (22, [some (.ref 0), some (.int x1), some (.int x2)], [], g, iv) else pm_at X d 100 (19, [some (.ref 0), some (.int x1), some (.int x2)], [], g, iv) := by
  exact at_if_ne (t := 22) dc100_16 (by decide)
theorem b100_19 {X : pm_X} {d : Nat} {x1 : Int32} {x2 : Int32} {g : pm_G} {iv : pm_V}  : pm_at X d 100 (19, [some (.ref 0), some (.int x1), some (.int x2)], [], g, iv) = some (some (.int (-1000001)), g, iv) := by
  refine (at_ldc dc100_19 mc100 lk5_59).trans ?_
  exact at_iret dc100_21 mr100
theorem b100_22 {X : pm_X} {d : Nat} {x1 : Int32} {x2 : Int32} {g : pm_G} {iv : pm_V} (hL : pm_lay g) : pm_at X d 100 (22, [some (.ref 0), some (.int x1), some (.int x2)], [], g, iv) = pm_then X d 100 28 [some (.ref 0), some (.int x1), some (.int x2)] [] (pm_c X d 125 [.ref 0, .int x1, .int x2] g iv) := by
  refine (at_aload_n dc100_22 rfl).trans ?_
  refine (at_iload_n dc100_23 rfl).trans ?_
  refine (at_iload_n dc100_24 rfl).trans ?_
  exact at_inv dc100_25 mc100 lm5_152 rfl rfl (Nat.le_of_ble_eq_true rfl) (Or.inl ⟨(ly0 hL), by decide⟩)
theorem b100_28 {X : pm_X} {d : Nat} {x1 : Int32} {x2 : Int32} {s0 : Int32} {g : pm_G} {iv : pm_V}  : pm_at X d 100 (28, [some (.ref 0), some (.int x1), some (.int x2)], [.int s0], g, iv) = some (some (.int s0), g, iv) := by
  exact at_iret dc100_28 mr100
-- HH.chocks (III)I
theorem dc101_0 : decode (pm_mb 101) 0 = .ok (.aload_n 0, 1) := by decide +kernel
theorem dc101_1 : decode (pm_mb 101) 1 = .ok (.getfield 40, 3) := by decide +kernel
theorem dc101_4 : decode (pm_mb 101) 4 = .ok (.invokevirtual 125, 3) := by decide +kernel
theorem dc101_7 : decode (pm_mb 101) 7 = .ok (.ifCond .ne 6, 3) := by decide +kernel
theorem dc101_10 : decode (pm_mb 101) 10 = .ok (.ldc 129, 2) := by decide +kernel
theorem dc101_12 : decode (pm_mb 101) 12 = .ok (.ireturn, 1) := by decide +kernel
theorem dc101_13 : decode (pm_mb 101) 13 = .ok (.iload_n 1, 1) := by decide +kernel
theorem dc101_14 : decode (pm_mb 101) 14 = .ok (.invokestatic 51, 3) := by decide +kernel
theorem dc101_17 : decode (pm_mb 101) 17 = .ok (.ifCond .eq 14, 3) := by decide +kernel
theorem dc101_20 : decode (pm_mb 101) 20 = .ok (.iload_n 3, 1) := by decide +kernel
theorem dc101_21 : decode (pm_mb 101) 21 = .ok (.iconst 1, 1) := by decide +kernel
theorem dc101_22 : decode (pm_mb 101) 22 = .ok (.if_icmp .lt 9, 3) := by decide +kernel
theorem dc101_25 : decode (pm_mb 101) 25 = .ok (.iload_n 3, 1) := by decide +kernel
theorem dc101_26 : decode (pm_mb 101) 26 = .ok (.bipush 6, 2) := by decide +kernel
theorem dc101_28 : decode (pm_mb 101) 28 = .ok (.if_icmp .le 6, 3) := by decide +kernel
theorem dc101_31 : decode (pm_mb 101) 31 = .ok (.ldc 59, 2) := by decide +kernel
theorem dc101_33 : decode (pm_mb 101) 33 = .ok (.ireturn, 1) := by decide +kernel
theorem dc101_34 : decode (pm_mb 101) 34 = .ok (.aload_n 0, 1) := by decide +kernel
theorem dc101_35 : decode (pm_mb 101) 35 = .ok (.getfield 10, 3) := by decide +kernel
theorem dc101_38 : decode (pm_mb 101) 38 = .ok (.iload_n 1, 1) := by decide +kernel
theorem dc101_39 : decode (pm_mb 101) 39 = .ok (.invokevirtual 71, 3) := by decide +kernel
theorem dc101_42 : decode (pm_mb 101) 42 = .ok (.ifCond .eq 9, 3) := by decide +kernel
theorem dc101_45 : decode (pm_mb 101) 45 = .ok (.aload_n 0, 1) := by decide +kernel
theorem dc101_46 : decode (pm_mb 101) 46 = .ok (.iconst 1, 1) := by decide +kernel
theorem dc101_47 : decode (pm_mb 101) 47 = .ok (.invokevirtual 60, 3) := by decide +kernel
theorem dc101_50 : decode (pm_mb 101) 50 = .ok (.ireturn, 1) := by decide +kernel
theorem dc101_51 : decode (pm_mb 101) 51 = .ok (.aload_n 0, 1) := by decide +kernel
theorem dc101_52 : decode (pm_mb 101) 52 = .ok (.getfield 10, 3) := by decide +kernel
theorem dc101_55 : decode (pm_mb 101) 55 = .ok (.iload_n 1, 1) := by decide +kernel
theorem dc101_56 : decode (pm_mb 101) 56 = .ok (.iload_n 2, 1) := by decide +kernel
theorem dc101_57 : decode (pm_mb 101) 57 = .ok (.iload_n 3, 1) := by decide +kernel
theorem dc101_58 : decode (pm_mb 101) 58 = .ok (.invokevirtual 74, 3) := by decide +kernel
theorem dc101_61 : decode (pm_mb 101) 61 = .ok (.ifCond .ne 9, 3) := by decide +kernel
theorem dc101_64 : decode (pm_mb 101) 64 = .ok (.aload_n 0, 1) := by decide +kernel
theorem dc101_65 : decode (pm_mb 101) 65 = .ok (.iconst 2, 1) := by decide +kernel
theorem dc101_66 : decode (pm_mb 101) 66 = .ok (.invokevirtual 60, 3) := by decide +kernel
theorem dc101_69 : decode (pm_mb 101) 69 = .ok (.ireturn, 1) := by decide +kernel
theorem dc101_70 : decode (pm_mb 101) 70 = .ok (.iconst 0, 1) := by decide +kernel
theorem dc101_71 : decode (pm_mb 101) 71 = .ok (.istore 4, 2) := by decide +kernel
theorem dc101_73 : decode (pm_mb 101) 73 = .ok (.iload 4, 2) := by decide +kernel
theorem dc101_75 : decode (pm_mb 101) 75 = .ok (.iload_n 3, 1) := by decide +kernel
theorem dc101_76 : decode (pm_mb 101) 76 = .ok (.if_icmp .ge 34, 3) := by decide +kernel
theorem dc101_79 : decode (pm_mb 101) 79 = .ok (.aload_n 0, 1) := by decide +kernel
theorem dc101_80 : decode (pm_mb 101) 80 = .ok (.getfield 40, 3) := by decide +kernel
theorem dc101_83 : decode (pm_mb 101) 83 = .ok (.aload_n 0, 1) := by decide +kernel
theorem dc101_84 : decode (pm_mb 101) 84 = .ok (.getfield 10, 3) := by decide +kernel
theorem dc101_87 : decode (pm_mb 101) 87 = .ok (.iload_n 1, 1) := by decide +kernel
theorem dc101_88 : decode (pm_mb 101) 88 = .ok (.iload_n 2, 1) := by decide +kernel
theorem dc101_89 : decode (pm_mb 101) 89 = .ok (.iload 4, 2) := by decide +kernel
theorem dc101_91 : decode (pm_mb 101) 91 = .ok (.iadd, 1) := by decide +kernel
theorem dc101_92 : decode (pm_mb 101) 92 = .ok (.invokevirtual 155, 3) := by decide +kernel
theorem dc101_95 : decode (pm_mb 101) 95 = .ok (.invokevirtual 139, 3) := by decide +kernel
theorem dc101_98 : decode (pm_mb 101) 98 = .ok (.ifCond .ne 6, 3) := by decide +kernel
theorem dc101_101 : decode (pm_mb 101) 101 = .ok (.ldc 59, 2) := by decide +kernel
theorem dc101_103 : decode (pm_mb 101) 103 = .ok (.ireturn, 1) := by decide +kernel
theorem dc101_104 : decode (pm_mb 101) 104 = .ok (.iinc 4 1, 3) := by decide +kernel
theorem dc101_107 : decode (pm_mb 101) 107 = .ok (.goto (-34), 3) := by decide +kernel
theorem dc101_110 : decode (pm_mb 101) 110 = .ok (.iconst 0, 1) := by decide +kernel
theorem dc101_111 : decode (pm_mb 101) 111 = .ok (.istore 4, 2) := by decide +kernel
theorem dc101_113 : decode (pm_mb 101) 113 = .ok (.iconst 0, 1) := by decide +kernel
theorem dc101_114 : decode (pm_mb 101) 114 = .ok (.istore 5, 2) := by decide +kernel
theorem dc101_116 : decode (pm_mb 101) 116 = .ok (.iload 5, 2) := by decide +kernel
theorem dc101_118 : decode (pm_mb 101) 118 = .ok (.iload_n 3, 1) := by decide +kernel
theorem dc101_119 : decode (pm_mb 101) 119 = .ok (.if_icmp .ge 33, 3) := by decide +kernel
theorem dc101_122 : decode (pm_mb 101) 122 = .ok (.iload 4, 2) := by decide +kernel
theorem dc101_124 : decode (pm_mb 101) 124 = .ok (.iconst 1, 1) := by decide +kernel
theorem dc101_125 : decode (pm_mb 101) 125 = .ok (.aload_n 0, 1) := by decide +kernel
theorem dc101_126 : decode (pm_mb 101) 126 = .ok (.aload_n 0, 1) := by decide +kernel
theorem dc101_127 : decode (pm_mb 101) 127 = .ok (.getfield 10, 3) := by decide +kernel
theorem dc101_130 : decode (pm_mb 101) 130 = .ok (.iload_n 1, 1) := by decide +kernel
theorem dc101_131 : decode (pm_mb 101) 131 = .ok (.iload_n 2, 1) := by decide +kernel
theorem dc101_132 : decode (pm_mb 101) 132 = .ok (.iload 5, 2) := by decide +kernel
theorem dc101_134 : decode (pm_mb 101) 134 = .ok (.iadd, 1) := by decide +kernel
theorem dc101_135 : decode (pm_mb 101) 135 = .ok (.invokevirtual 155, 3) := by decide +kernel
theorem dc101_138 : decode (pm_mb 101) 138 = .ok (.iconst 1, 1) := by decide +kernel
theorem dc101_139 : decode (pm_mb 101) 139 = .ok (.invokevirtual 152, 3) := by decide +kernel
theorem dc101_142 : decode (pm_mb 101) 142 = .ok (.isub, 1) := by decide +kernel
theorem dc101_143 : decode (pm_mb 101) 143 = .ok (.iadd, 1) := by decide +kernel
theorem dc101_144 : decode (pm_mb 101) 144 = .ok (.istore 4, 2) := by decide +kernel
theorem dc101_146 : decode (pm_mb 101) 146 = .ok (.iinc 5 1, 3) := by decide +kernel
theorem dc101_149 : decode (pm_mb 101) 149 = .ok (.goto (-33), 3) := by decide +kernel
theorem dc101_152 : decode (pm_mb 101) 152 = .ok (.aload_n 0, 1) := by decide +kernel
theorem dc101_153 : decode (pm_mb 101) 153 = .ok (.iload 4, 2) := by decide +kernel
theorem dc101_155 : decode (pm_mb 101) 155 = .ok (.invokevirtual 68, 3) := by decide +kernel
theorem dc101_158 : decode (pm_mb 101) 158 = .ok (.ireturn, 1) := by decide +kernel
theorem b101_0 {X : pm_X} {d : Nat} {x1 : Int32} {x2 : Int32} {x3 : Int32} {g : pm_G} {iv : pm_V} (hL : pm_lay g) : pm_at X d 101 (0, [some (.ref 0), some (.int x1), some (.int x2), some (.int x3), none, none], [], g, iv) = pm_then X d 101 7 [some (.ref 0), some (.int x1), some (.int x2), some (.int x3), none, none] [] (pm_c X d 26 [.ref 11] g iv) := by
  refine (at_aload_n dc101_0 rfl).trans ?_
  refine (at_gfR dc101_1 mc101 lf5_40 fo5_4 (ly0 hL) (lr0_4 hL)).trans ?_
  exact at_inv dc101_4 mc101 lm5_125 rfl rfl (Nat.le_of_ble_eq_true rfl) (Or.inl ⟨(ly11 hL), by decide⟩)
theorem b101_7 {X : pm_X} {d : Nat} {x1 : Int32} {x2 : Int32} {x3 : Int32} {s0 : Int32} {g : pm_G} {iv : pm_V}  : pm_at X d 101 (7, [some (.ref 0), some (.int x1), some (.int x2), some (.int x3), none, none], [.int s0], g, iv) = if ¬ s0 = 0 then pm_at X d 101 (13, [some (.ref 0), some (.int x1), some (.int x2), some (.int x3), none, none], [], g, iv) else pm_at X d 101 (10, [some (.ref 0), some (.int x1), some (.int x2), some (.int x3), none, none], [], g, iv) := by
  exact at_if_ne (t := 13) dc101_7 (by decide)
theorem b101_10 {X : pm_X} {d : Nat} {x1 : Int32} {x2 : Int32} {x3 : Int32} {g : pm_G} {iv : pm_V}  : pm_at X d 101 (10, [some (.ref 0), some (.int x1), some (.int x2), some (.int x3), none, none], [], g, iv) = some (some (.int (-1000002)), g, iv) := by
  refine (at_ldc dc101_10 mc101 lk5_129).trans ?_
  exact at_iret dc101_12 mr101
theorem b101_13 {X : pm_X} {d : Nat} {x1 : Int32} {x2 : Int32} {x3 : Int32} {g : pm_G} {iv : pm_V}  : pm_at X d 101 (13, [some (.ref 0), some (.int x1), some (.int x2), some (.int x3), none, none], [], g, iv) = pm_then X d 101 17 [some (.ref 0), some (.int x1), some (.int x2), some (.int x3), none, none] [] (pm_c X d 121 [.int x1] g iv) := by
  refine (at_iload_n dc101_13 rfl).trans ?_
  exact at_ins dc101_14 mc101 lm5_51 (Nat.le_of_ble_eq_true rfl) rfl rfl (Nat.le_of_ble_eq_true rfl)
theorem b101_17 {X : pm_X} {d : Nat} {x1 : Int32} {x2 : Int32} {x3 : Int32} {s0 : Int32} {g : pm_G} {iv : pm_V}  : pm_at X d 101 (17, [some (.ref 0), some (.int x1), some (.int x2), some (.int x3), none, none], [.int s0], g, iv) = if s0 = 0 then pm_at X d 101 (31, [some (.ref 0), some (.int x1), some (.int x2), some (.int x3), none, none], [], g, iv) else pm_at X d 101 (20, [some (.ref 0), some (.int x1), some (.int x2), some (.int x3), none, none], [], g, iv) := by
  exact at_if_eq (t := 31) dc101_17 (by decide)
theorem b101_20 {X : pm_X} {d : Nat} {x1 : Int32} {x2 : Int32} {x3 : Int32} {g : pm_G} {iv : pm_V}  : pm_at X d 101 (20, [some (.ref 0), some (.int x1), some (.int x2), some (.int x3), none, none], [], g, iv) = if x3 < 1 then pm_at X d 101 (31, [some (.ref 0), some (.int x1), some (.int x2), some (.int x3), none, none], [], g, iv) else pm_at X d 101 (25, [some (.ref 0), some (.int x1), some (.int x2), some (.int x3), none, none], [], g, iv) := by
  refine (at_iload_n dc101_20 rfl).trans ?_
  refine (at_iconst (v := 1) dc101_21 rfl).trans ?_
  exact at_icmp_lt (t := 31) dc101_22 (by decide)
theorem b101_25 {X : pm_X} {d : Nat} {x1 : Int32} {x2 : Int32} {x3 : Int32} {g : pm_G} {iv : pm_V}  : pm_at X d 101 (25, [some (.ref 0), some (.int x1), some (.int x2), some (.int x3), none, none], [], g, iv) = if x3 ≤ 6 then pm_at X d 101 (34, [some (.ref 0), some (.int x1), some (.int x2), some (.int x3), none, none], [], g, iv) else pm_at X d 101 (31, [some (.ref 0), some (.int x1), some (.int x2), some (.int x3), none, none], [], g, iv) := by
  refine (at_iload_n dc101_25 rfl).trans ?_
  refine (at_bipush (v := 6) dc101_26 (by decide)).trans ?_
  exact at_icmp_le (t := 34) dc101_28 (by decide)
theorem b101_31 {X : pm_X} {d : Nat} {x1 : Int32} {x2 : Int32} {x3 : Int32} {g : pm_G} {iv : pm_V}  : pm_at X d 101 (31, [some (.ref 0), some (.int x1), some (.int x2), some (.int x3), none, none], [], g, iv) = some (some (.int (-1000001)), g, iv) := by
  refine (at_ldc dc101_31 mc101 lk5_59).trans ?_
  exact at_iret dc101_33 mr101
theorem b101_34 {X : pm_X} {d : Nat} {x1 : Int32} {x2 : Int32} {x3 : Int32} {g : pm_G} {iv : pm_V} (hL : pm_lay g) : pm_at X d 101 (34, [some (.ref 0), some (.int x1), some (.int x2), some (.int x3), none, none], [], g, iv) = pm_then X d 101 42 [some (.ref 0), some (.int x1), some (.int x2), some (.int x3), none, none] [] (pm_c X d 15 [.ref 1, .int x1] g iv) := by
  refine (at_aload_n dc101_34 rfl).trans ?_
  refine (at_gfR dc101_35 mc101 lf5_10 fo5_0 (ly0 hL) (lr0_0 hL)).trans ?_
  refine (at_iload_n dc101_38 rfl).trans ?_
  exact at_inv dc101_39 mc101 lm5_71 rfl rfl (Nat.le_of_ble_eq_true rfl) (Or.inl ⟨(ly1 hL), by decide⟩)
theorem b101_42 {X : pm_X} {d : Nat} {x1 : Int32} {x2 : Int32} {x3 : Int32} {s0 : Int32} {g : pm_G} {iv : pm_V}  : pm_at X d 101 (42, [some (.ref 0), some (.int x1), some (.int x2), some (.int x3), none, none], [.int s0], g, iv) = if s0 = 0 then pm_at X d 101 (51, [some (.ref 0), some (.int x1), some (.int x2), some (.int x3), none, none], [], g, iv) else pm_at X d 101 (45, [some (.ref 0), some (.int x1), some (.int x2), some (.int x3), none, none], [], g, iv) := by
  exact at_if_eq (t := 51) dc101_42 (by decide)
theorem b101_45 {X : pm_X} {d : Nat} {x1 : Int32} {x2 : Int32} {x3 : Int32} {g : pm_G} {iv : pm_V} (hL : pm_lay g) : pm_at X d 101 (45, [some (.ref 0), some (.int x1), some (.int x2), some (.int x3), none, none], [], g, iv) = pm_then X d 101 50 [some (.ref 0), some (.int x1), some (.int x2), some (.int x3), none, none] [] (pm_c X d 123 [.ref 0, .int 1] g iv) := by
  refine (at_aload_n dc101_45 rfl).trans ?_
  refine (at_iconst (v := 1) dc101_46 rfl).trans ?_
  exact at_inv dc101_47 mc101 lm5_60 rfl rfl (Nat.le_of_ble_eq_true rfl) (Or.inl ⟨(ly0 hL), by decide⟩)
theorem b101_50 {X : pm_X} {d : Nat} {x1 : Int32} {x2 : Int32} {x3 : Int32} {s0 : Int32} {g : pm_G} {iv : pm_V}  : pm_at X d 101 (50, [some (.ref 0), some (.int x1), some (.int x2), some (.int x3), none, none], [.int s0], g, iv) = some (some (.int s0), g, iv) := by
  exact at_iret dc101_50 mr101
theorem b101_51 {X : pm_X} {d : Nat} {x1 : Int32} {x2 : Int32} {x3 : Int32} {g : pm_G} {iv : pm_V} (hL : pm_lay g) : pm_at X d 101 (51, [some (.ref 0), some (.int x1), some (.int x2), some (.int x3), none, none], [], g, iv) = pm_then X d 101 61 [some (.ref 0), some (.int x1), some (.int x2), some (.int x3), none, none] [] (pm_c X d 16 [.ref 1, .int x1, .int x2, .int x3] g iv) := by
  refine (at_aload_n dc101_51 rfl).trans ?_
  refine (at_gfR dc101_52 mc101 lf5_10 fo5_0 (ly0 hL) (lr0_0 hL)).trans ?_
  refine (at_iload_n dc101_55 rfl).trans ?_
  refine (at_iload_n dc101_56 rfl).trans ?_
  refine (at_iload_n dc101_57 rfl).trans ?_
  exact at_inv dc101_58 mc101 lm5_74 rfl rfl (Nat.le_of_ble_eq_true rfl) (Or.inl ⟨(ly1 hL), by decide⟩)
theorem b101_61 {X : pm_X} {d : Nat} {x1 : Int32} {x2 : Int32} {x3 : Int32} {s0 : Int32} {g : pm_G} {iv : pm_V}  : pm_at X d 101 (61, [some (.ref 0), some (.int x1), some (.int x2), some (.int x3), none, none], [.int s0], g, iv) = if ¬ s0 = 0 then pm_at X d 101 (70, [some (.ref 0), some (.int x1), some (.int x2), some (.int x3), none, none], [], g, iv) else pm_at X d 101 (64, [some (.ref 0), some (.int x1), some (.int x2), some (.int x3), none, none], [], g, iv) := by
  exact at_if_ne (t := 70) dc101_61 (by decide)
theorem b101_64 {X : pm_X} {d : Nat} {x1 : Int32} {x2 : Int32} {x3 : Int32} {g : pm_G} {iv : pm_V} (hL : pm_lay g) : pm_at X d 101 (64, [some (.ref 0), some (.int x1), some (.int x2), some (.int x3), none, none], [], g, iv) = pm_then X d 101 69 [some (.ref 0), some (.int x1), some (.int x2), some (.int x3), none, none] [] (pm_c X d 123 [.ref 0, .int 2] g iv) := by
  refine (at_aload_n dc101_64 rfl).trans ?_
  refine (at_iconst (v := 2) dc101_65 rfl).trans ?_
  exact at_inv dc101_66 mc101 lm5_60 rfl rfl (Nat.le_of_ble_eq_true rfl) (Or.inl ⟨(ly0 hL), by decide⟩)
theorem b101_69 {X : pm_X} {d : Nat} {x1 : Int32} {x2 : Int32} {x3 : Int32} {s0 : Int32} {g : pm_G} {iv : pm_V}  : pm_at X d 101 (69, [some (.ref 0), some (.int x1), some (.int x2), some (.int x3), none, none], [.int s0], g, iv) = some (some (.int s0), g, iv) := by
  exact at_iret dc101_69 mr101
theorem b101_70 {X : pm_X} {d : Nat} {x1 : Int32} {x2 : Int32} {x3 : Int32} {g : pm_G} {iv : pm_V}  : pm_at X d 101 (70, [some (.ref 0), some (.int x1), some (.int x2), some (.int x3), none, none], [], g, iv) = pm_at X d 101 (73, [some (.ref 0), some (.int x1), some (.int x2), some (.int x3), some (.int 0), none], [], g, iv) := by
  refine (at_iconst (v := 0) dc101_70 rfl).trans ?_
  refine (at_istore dc101_71 rfl).trans ?_
  rfl
theorem b101_73 {X : pm_X} {d : Nat} {x1 : Int32} {x2 : Int32} {x3 : Int32} {x4 : Int32} {g : pm_G} {iv : pm_V}  : pm_at X d 101 (73, [some (.ref 0), some (.int x1), some (.int x2), some (.int x3), some (.int x4), none], [], g, iv) = if x3 ≤ x4 then pm_at X d 101 (110, [some (.ref 0), some (.int x1), some (.int x2), some (.int x3), some (.int x4), none], [], g, iv) else pm_at X d 101 (79, [some (.ref 0), some (.int x1), some (.int x2), some (.int x3), some (.int x4), none], [], g, iv) := by
  refine (at_iload dc101_73 rfl).trans ?_
  refine (at_iload_n dc101_75 rfl).trans ?_
  exact at_icmp_ge (t := 110) dc101_76 (by decide)
theorem b101_79 {X : pm_X} {d : Nat} {x1 : Int32} {x2 : Int32} {x3 : Int32} {x4 : Int32} {g : pm_G} {iv : pm_V} (hL : pm_lay g) : pm_at X d 101 (79, [some (.ref 0), some (.int x1), some (.int x2), some (.int x3), some (.int x4), none], [], g, iv) = pm_then X d 101 95 [some (.ref 0), some (.int x1), some (.int x2), some (.int x3), some (.int x4), none] [.ref 11] (pm_c X d 18 [.ref 1, .int x1, .int (x2 + x4)] g iv) := by
  refine (at_aload_n dc101_79 rfl).trans ?_
  refine (at_gfR dc101_80 mc101 lf5_40 fo5_4 (ly0 hL) (lr0_4 hL)).trans ?_
  refine (at_aload_n dc101_83 rfl).trans ?_
  refine (at_gfR dc101_84 mc101 lf5_10 fo5_0 (ly0 hL) (lr0_0 hL)).trans ?_
  refine (at_iload_n dc101_87 rfl).trans ?_
  refine (at_iload_n dc101_88 rfl).trans ?_
  refine (at_iload dc101_89 rfl).trans ?_
  refine (at_iadd dc101_91).trans ?_
  exact at_inv dc101_92 mc101 lm5_155 rfl rfl (Nat.le_of_ble_eq_true rfl) (Or.inl ⟨(ly1 hL), by decide⟩)
theorem b101_95 {X : pm_X} {d : Nat} {x1 : Int32} {x2 : Int32} {x3 : Int32} {x4 : Int32} {s0 : Int32} {g : pm_G} {iv : pm_V} (hL : pm_lay g) : pm_at X d 101 (95, [some (.ref 0), some (.int x1), some (.int x2), some (.int x3), some (.int x4), none], [.int s0, .ref 11], g, iv) = pm_then X d 101 98 [some (.ref 0), some (.int x1), some (.int x2), some (.int x3), some (.int x4), none] [] (pm_c X d 35 [.ref 11, .int s0] g iv) := by
  exact at_inv dc101_95 mc101 lm5_139 rfl rfl (Nat.le_of_ble_eq_true rfl) (Or.inl ⟨(ly11 hL), by decide⟩)
theorem b101_98 {X : pm_X} {d : Nat} {x1 : Int32} {x2 : Int32} {x3 : Int32} {x4 : Int32} {s0 : Int32} {g : pm_G} {iv : pm_V}  : pm_at X d 101 (98, [some (.ref 0), some (.int x1), some (.int x2), some (.int x3), some (.int x4), none], [.int s0], g, iv) = if ¬ s0 = 0 then pm_at X d 101 (104, [some (.ref 0), some (.int x1), some (.int x2), some (.int x3), some (.int x4), none], [], g, iv) else pm_at X d 101 (101, [some (.ref 0), some (.int x1), some (.int x2), some (.int x3), some (.int x4), none], [], g, iv) := by
  exact at_if_ne (t := 104) dc101_98 (by decide)
theorem b101_101 {X : pm_X} {d : Nat} {x1 : Int32} {x2 : Int32} {x3 : Int32} {x4 : Int32} {g : pm_G} {iv : pm_V}  : pm_at X d 101 (101, [some (.ref 0), some (.int x1), some (.int x2), some (.int x3), some (.int x4), none], [], g, iv) = some (some (.int (-1000001)), g, iv) := by
  refine (at_ldc dc101_101 mc101 lk5_59).trans ?_
  exact at_iret dc101_103 mr101
theorem b101_104 {X : pm_X} {d : Nat} {x1 : Int32} {x2 : Int32} {x3 : Int32} {x4 : Int32} {g : pm_G} {iv : pm_V}  : pm_at X d 101 (104, [some (.ref 0), some (.int x1), some (.int x2), some (.int x3), some (.int x4), none], [], g, iv) = pm_at X d 101 (73, [some (.ref 0), some (.int x1), some (.int x2), some (.int x3), some (.int (x4 + 1)), none], [], g, iv) := by
  refine (at_iinc (v := 1) dc101_104 rfl (by decide) rfl).trans ?_
  refine (at_goto (t := 73) dc101_107 (by decide)).trans ?_
  rfl
theorem b101_110 {X : pm_X} {d : Nat} {x1 : Int32} {x2 : Int32} {x3 : Int32} {x4 : Int32} {g : pm_G} {iv : pm_V}  : pm_at X d 101 (110, [some (.ref 0), some (.int x1), some (.int x2), some (.int x3), some (.int x4), none], [], g, iv) = pm_at X d 101 (116, [some (.ref 0), some (.int x1), some (.int x2), some (.int x3), some (.int 0), some (.int 0)], [], g, iv) := by
  refine (at_iconst (v := 0) dc101_110 rfl).trans ?_
  refine (at_istore dc101_111 rfl).trans ?_
  refine (at_iconst (v := 0) dc101_113 rfl).trans ?_
  refine (at_istore dc101_114 rfl).trans ?_
  rfl
theorem b101_116 {X : pm_X} {d : Nat} {x1 : Int32} {x2 : Int32} {x3 : Int32} {x4 : Int32} {x5 : Int32} {g : pm_G} {iv : pm_V}  : pm_at X d 101 (116, [some (.ref 0), some (.int x1), some (.int x2), some (.int x3), some (.int x4), some (.int x5)], [], g, iv) = if x3 ≤ x5 then pm_at X d 101 (152, [some (.ref 0), some (.int x1), some (.int x2), some (.int x3), some (.int x4), some (.int x5)], [], g, iv) else pm_at X d 101 (122, [some (.ref 0), some (.int x1), some (.int x2), some (.int x3), some (.int x4), some (.int x5)], [], g, iv) := by
  refine (at_iload dc101_116 rfl).trans ?_
  refine (at_iload_n dc101_118 rfl).trans ?_
  exact at_icmp_ge (t := 152) dc101_119 (by decide)
theorem b101_122 {X : pm_X} {d : Nat} {x1 : Int32} {x2 : Int32} {x3 : Int32} {x4 : Int32} {x5 : Int32} {g : pm_G} {iv : pm_V} (hL : pm_lay g) : pm_at X d 101 (122, [some (.ref 0), some (.int x1), some (.int x2), some (.int x3), some (.int x4), some (.int x5)], [], g, iv) = pm_then X d 101 138 [some (.ref 0), some (.int x1), some (.int x2), some (.int x3), some (.int x4), some (.int x5)] [.ref 0, .int 1, .int x4] (pm_c X d 18 [.ref 1, .int x1, .int (x2 + x5)] g iv) := by
  refine (at_iload dc101_122 rfl).trans ?_
  refine (at_iconst (v := 1) dc101_124 rfl).trans ?_
  refine (at_aload_n dc101_125 rfl).trans ?_
  refine (at_aload_n dc101_126 rfl).trans ?_
  refine (at_gfR dc101_127 mc101 lf5_10 fo5_0 (ly0 hL) (lr0_0 hL)).trans ?_
  refine (at_iload_n dc101_130 rfl).trans ?_
  refine (at_iload_n dc101_131 rfl).trans ?_
  refine (at_iload dc101_132 rfl).trans ?_
  refine (at_iadd dc101_134).trans ?_
  exact at_inv dc101_135 mc101 lm5_155 rfl rfl (Nat.le_of_ble_eq_true rfl) (Or.inl ⟨(ly1 hL), by decide⟩)
theorem b101_138 {X : pm_X} {d : Nat} {x1 : Int32} {x2 : Int32} {x3 : Int32} {x4 : Int32} {x5 : Int32} {s0 : Int32} {s2 : Int32} {s3 : Int32} {g : pm_G} {iv : pm_V} (hL : pm_lay g) : pm_at X d 101 (138, [some (.ref 0), some (.int x1), some (.int x2), some (.int x3), some (.int x4), some (.int x5)], [.int s0, .ref 0, .int s2, .int s3], g, iv) = pm_then X d 101 142 [some (.ref 0), some (.int x1), some (.int x2), some (.int x3), some (.int x4), some (.int x5)] [.int s2, .int s3] (pm_c X d 125 [.ref 0, .int s0, .int 1] g iv) := by
  refine (at_iconst (v := 1) dc101_138 rfl).trans ?_
  exact at_inv dc101_139 mc101 lm5_152 rfl rfl (Nat.le_of_ble_eq_true rfl) (Or.inl ⟨(ly0 hL), by decide⟩)
theorem b101_142 {X : pm_X} {d : Nat} {x1 : Int32} {x2 : Int32} {x3 : Int32} {x4 : Int32} {x5 : Int32} {s0 : Int32} {s1 : Int32} {s2 : Int32} {g : pm_G} {iv : pm_V}  : pm_at X d 101 (142, [some (.ref 0), some (.int x1), some (.int x2), some (.int x3), some (.int x4), some (.int x5)], [.int s0, .int s1, .int s2], g, iv) = pm_at X d 101 (116, [some (.ref 0), some (.int x1), some (.int x2), some (.int x3), some (.int (s2 + (s1 - s0))), some (.int (x5 + 1))], [], g, iv) := by
  refine (at_isub dc101_142).trans ?_
  refine (at_iadd dc101_143).trans ?_
  refine (at_istore dc101_144 rfl).trans ?_
  refine (at_iinc (v := 1) dc101_146 rfl (by decide) rfl).trans ?_
  refine (at_goto (t := 116) dc101_149 (by decide)).trans ?_
  rfl
theorem b101_152 {X : pm_X} {d : Nat} {x1 : Int32} {x2 : Int32} {x3 : Int32} {x4 : Int32} {x5 : Int32} {g : pm_G} {iv : pm_V} (hL : pm_lay g) : pm_at X d 101 (152, [some (.ref 0), some (.int x1), some (.int x2), some (.int x3), some (.int x4), some (.int x5)], [], g, iv) = pm_then X d 101 158 [some (.ref 0), some (.int x1), some (.int x2), some (.int x3), some (.int x4), some (.int x5)] [] (pm_c X d 124 [.ref 0, .int x4] g iv) := by
  refine (at_aload_n dc101_152 rfl).trans ?_
  refine (at_iload dc101_153 rfl).trans ?_
  exact at_inv dc101_155 mc101 lm5_68 rfl rfl (Nat.le_of_ble_eq_true rfl) (Or.inl ⟨(ly0 hL), by decide⟩)
theorem b101_158 {X : pm_X} {d : Nat} {x1 : Int32} {x2 : Int32} {x3 : Int32} {x4 : Int32} {x5 : Int32} {s0 : Int32} {g : pm_G} {iv : pm_V}  : pm_at X d 101 (158, [some (.ref 0), some (.int x1), some (.int x2), some (.int x3), some (.int x4), some (.int x5)], [.int s0], g, iv) = some (some (.int s0), g, iv) := by
  exact at_iret dc101_158 mr101
-- HH.undo ()I
theorem dc102_0 : decode (pm_mb 102) 0 = .ok (.aload_n 0, 1) := by decide +kernel
theorem dc102_1 : decode (pm_mb 102) 1 = .ok (.getfield 26, 3) := by decide +kernel
theorem dc102_4 : decode (pm_mb 102) 4 = .ok (.aload_n 0, 1) := by decide +kernel
theorem dc102_5 : decode (pm_mb 102) 5 = .ok (.getfield 40, 3) := by decide +kernel
theorem dc102_8 : decode (pm_mb 102) 8 = .ok (.invokevirtual 158, 3) := by decide +kernel
theorem dc102_11 : decode (pm_mb 102) 11 = .ok (.ifCond .eq 13, 3) := by decide +kernel
theorem dc102_14 : decode (pm_mb 102) 14 = .ok (.aload_n 0, 1) := by decide +kernel
theorem dc102_15 : decode (pm_mb 102) 15 = .ok (.getfield 26, 3) := by decide +kernel
theorem dc102_18 : decode (pm_mb 102) 18 = .ok (.invokevirtual 161, 3) := by decide +kernel
theorem dc102_21 : decode (pm_mb 102) 21 = .ok (.goto 5, 3) := by decide +kernel
theorem dc102_24 : decode (pm_mb 102) 24 = .ok (.ldc 129, 2) := by decide +kernel
theorem dc102_26 : decode (pm_mb 102) 26 = .ok (.ireturn, 1) := by decide +kernel
theorem b102_0 {X : pm_X} {d : Nat} {g : pm_G} {iv : pm_V} (hL : pm_lay g) : pm_at X d 102 (0, [some (.ref 0)], [], g, iv) = pm_then X d 102 11 [some (.ref 0)] [] (pm_c X d 4 [.ref 7, .ref 11] g iv) := by
  refine (at_aload_n dc102_0 rfl).trans ?_
  refine (at_gfR dc102_1 mc102 lf5_26 fo5_2 (ly0 hL) (lr0_2 hL)).trans ?_
  refine (at_aload_n dc102_4 rfl).trans ?_
  refine (at_gfR dc102_5 mc102 lf5_40 fo5_4 (ly0 hL) (lr0_4 hL)).trans ?_
  exact at_inv dc102_8 mc102 lm5_158 rfl rfl (Nat.le_of_ble_eq_true rfl) (Or.inl ⟨(ly7 hL), by decide⟩)
theorem b102_11 {X : pm_X} {d : Nat} {s0 : Int32} {g : pm_G} {iv : pm_V}  : pm_at X d 102 (11, [some (.ref 0)], [.int s0], g, iv) = if s0 = 0 then pm_at X d 102 (24, [some (.ref 0)], [], g, iv) else pm_at X d 102 (14, [some (.ref 0)], [], g, iv) := by
  exact at_if_eq (t := 24) dc102_11 (by decide)
theorem b102_14 {X : pm_X} {d : Nat} {g : pm_G} {iv : pm_V} (hL : pm_lay g) : pm_at X d 102 (14, [some (.ref 0)], [], g, iv) = pm_then X d 102 21 [some (.ref 0)] [] (pm_c X d 1 [.ref 7] g iv) := by
  refine (at_aload_n dc102_14 rfl).trans ?_
  refine (at_gfR dc102_15 mc102 lf5_26 fo5_2 (ly0 hL) (lr0_2 hL)).trans ?_
  exact at_inv dc102_18 mc102 lm5_161 rfl rfl (Nat.le_of_ble_eq_true rfl) (Or.inl ⟨(ly7 hL), by decide⟩)
theorem b102_21 {X : pm_X} {d : Nat} {s0 : Int32} {g : pm_G} {iv : pm_V}  : pm_at X d 102 (21, [some (.ref 0)], [.int s0], g, iv) = pm_at X d 102 (26, [some (.ref 0)], [.int s0], g, iv) := by
  refine (at_goto (t := 26) dc102_21 (by decide)).trans ?_
  rfl
theorem b102_24 {X : pm_X} {d : Nat} {g : pm_G} {iv : pm_V}  : pm_at X d 102 (24, [some (.ref 0)], [], g, iv) = pm_at X d 102 (26, [some (.ref 0)], [.int (-1000002)], g, iv) := by
  refine (at_ldc dc102_24 mc102 lk5_129).trans ?_
  rfl
theorem b102_26 {X : pm_X} {d : Nat} {s0 : Int32} {g : pm_G} {iv : pm_V}  : pm_at X d 102 (26, [some (.ref 0)], [.int s0], g, iv) = some (some (.int s0), g, iv) := by
  exact at_iret dc102_26 mr102
-- HH.house (II)I
theorem dc103_0 : decode (pm_mb 103) 0 = .ok (.aload_n 0, 1) := by decide +kernel
theorem dc103_1 : decode (pm_mb 103) 1 = .ok (.getfield 40, 3) := by decide +kernel
theorem dc103_4 : decode (pm_mb 103) 4 = .ok (.iload_n 1, 1) := by decide +kernel
theorem dc103_5 : decode (pm_mb 103) 5 = .ok (.invokevirtual 139, 3) := by decide +kernel
theorem dc103_8 : decode (pm_mb 103) 8 = .ok (.ifCond .ne 6, 3) := by decide +kernel
theorem dc103_11 : decode (pm_mb 103) 11 = .ok (.ldc 59, 2) := by decide +kernel
theorem dc103_13 : decode (pm_mb 103) 13 = .ok (.ireturn, 1) := by decide +kernel
theorem dc103_14 : decode (pm_mb 103) 14 = .ok (.iload_n 2, 1) := by decide +kernel
theorem dc103_15 : decode (pm_mb 103) 15 = .ok (.tableswitch 99 0 5 #[37, 46, 55, 64, 81, 90], 37) := by decide +kernel
theorem dc103_52 : decode (pm_mb 103) 52 = .ok (.aload_n 0, 1) := by decide +kernel
theorem dc103_53 : decode (pm_mb 103) 53 = .ok (.getfield 40, 3) := by decide +kernel
theorem dc103_56 : decode (pm_mb 103) 56 = .ok (.iload_n 1, 1) := by decide +kernel
theorem dc103_57 : decode (pm_mb 103) 57 = .ok (.invokevirtual 162, 3) := by decide +kernel
theorem dc103_60 : decode (pm_mb 103) 60 = .ok (.ireturn, 1) := by decide +kernel
theorem dc103_61 : decode (pm_mb 103) 61 = .ok (.aload_n 0, 1) := by decide +kernel
theorem dc103_62 : decode (pm_mb 103) 62 = .ok (.getfield 40, 3) := by decide +kernel
theorem dc103_65 : decode (pm_mb 103) 65 = .ok (.iload_n 1, 1) := by decide +kernel
theorem dc103_66 : decode (pm_mb 103) 66 = .ok (.invokevirtual 163, 3) := by decide +kernel
theorem dc103_69 : decode (pm_mb 103) 69 = .ok (.ireturn, 1) := by decide +kernel
theorem dc103_70 : decode (pm_mb 103) 70 = .ok (.aload_n 0, 1) := by decide +kernel
theorem dc103_71 : decode (pm_mb 103) 71 = .ok (.getfield 40, 3) := by decide +kernel
theorem dc103_74 : decode (pm_mb 103) 74 = .ok (.iload_n 1, 1) := by decide +kernel
theorem dc103_75 : decode (pm_mb 103) 75 = .ok (.invokevirtual 166, 3) := by decide +kernel
theorem dc103_78 : decode (pm_mb 103) 78 = .ok (.ireturn, 1) := by decide +kernel
theorem dc103_79 : decode (pm_mb 103) 79 = .ok (.aload_n 0, 1) := by decide +kernel
theorem dc103_80 : decode (pm_mb 103) 80 = .ok (.getfield 40, 3) := by decide +kernel
theorem dc103_83 : decode (pm_mb 103) 83 = .ok (.iload_n 1, 1) := by decide +kernel
theorem dc103_84 : decode (pm_mb 103) 84 = .ok (.invokevirtual 169, 3) := by decide +kernel
theorem dc103_87 : decode (pm_mb 103) 87 = .ok (.ifCond .eq 7, 3) := by decide +kernel
theorem dc103_90 : decode (pm_mb 103) 90 = .ok (.iconst 1, 1) := by decide +kernel
theorem dc103_91 : decode (pm_mb 103) 91 = .ok (.goto 4, 3) := by decide +kernel
theorem dc103_94 : decode (pm_mb 103) 94 = .ok (.iconst 0, 1) := by decide +kernel
theorem dc103_95 : decode (pm_mb 103) 95 = .ok (.ireturn, 1) := by decide +kernel
theorem dc103_96 : decode (pm_mb 103) 96 = .ok (.aload_n 0, 1) := by decide +kernel
theorem dc103_97 : decode (pm_mb 103) 97 = .ok (.getfield 40, 3) := by decide +kernel
theorem dc103_100 : decode (pm_mb 103) 100 = .ok (.iload_n 1, 1) := by decide +kernel
theorem dc103_101 : decode (pm_mb 103) 101 = .ok (.invokevirtual 172, 3) := by decide +kernel
theorem dc103_104 : decode (pm_mb 103) 104 = .ok (.ireturn, 1) := by decide +kernel
theorem dc103_105 : decode (pm_mb 103) 105 = .ok (.aload_n 0, 1) := by decide +kernel
theorem dc103_106 : decode (pm_mb 103) 106 = .ok (.getfield 40, 3) := by decide +kernel
theorem dc103_109 : decode (pm_mb 103) 109 = .ok (.iload_n 1, 1) := by decide +kernel
theorem dc103_110 : decode (pm_mb 103) 110 = .ok (.invokevirtual 175, 3) := by decide +kernel
theorem dc103_113 : decode (pm_mb 103) 113 = .ok (.ireturn, 1) := by decide +kernel
theorem dc103_114 : decode (pm_mb 103) 114 = .ok (.ldc 59, 2) := by decide +kernel
theorem dc103_116 : decode (pm_mb 103) 116 = .ok (.ireturn, 1) := by decide +kernel
theorem b103_0 {X : pm_X} {d : Nat} {x1 : Int32} {x2 : Int32} {g : pm_G} {iv : pm_V} (hL : pm_lay g) : pm_at X d 103 (0, [some (.ref 0), some (.int x1), some (.int x2)], [], g, iv) = pm_then X d 103 8 [some (.ref 0), some (.int x1), some (.int x2)] [] (pm_c X d 35 [.ref 11, .int x1] g iv) := by
  refine (at_aload_n dc103_0 rfl).trans ?_
  refine (at_gfR dc103_1 mc103 lf5_40 fo5_4 (ly0 hL) (lr0_4 hL)).trans ?_
  refine (at_iload_n dc103_4 rfl).trans ?_
  exact at_inv dc103_5 mc103 lm5_139 rfl rfl (Nat.le_of_ble_eq_true rfl) (Or.inl ⟨(ly11 hL), by decide⟩)
theorem b103_8 {X : pm_X} {d : Nat} {x1 : Int32} {x2 : Int32} {s0 : Int32} {g : pm_G} {iv : pm_V}  : pm_at X d 103 (8, [some (.ref 0), some (.int x1), some (.int x2)], [.int s0], g, iv) = if ¬ s0 = 0 then pm_at X d 103 (14, [some (.ref 0), some (.int x1), some (.int x2)], [], g, iv) else pm_at X d 103 (11, [some (.ref 0), some (.int x1), some (.int x2)], [], g, iv) := by
  exact at_if_ne (t := 14) dc103_8 (by decide)
theorem b103_11 {X : pm_X} {d : Nat} {x1 : Int32} {x2 : Int32} {g : pm_G} {iv : pm_V}  : pm_at X d 103 (11, [some (.ref 0), some (.int x1), some (.int x2)], [], g, iv) = some (some (.int (-1000001)), g, iv) := by
  refine (at_ldc dc103_11 mc103 lk5_59).trans ?_
  exact at_iret dc103_13 mr103
theorem b103_14_c0 {X : pm_X} {d : Nat} {x1 : Int32} {x2 : Int32} {g : pm_G} {iv : pm_V} (hx : x2 = 0) : pm_at X d 103 (14, [some (.ref 0), some (.int x1), some (.int x2)], [], g, iv) = pm_at X d 103 (52, [some (.ref 0), some (.int x1), some (.int x2)], [], g, iv) := by
  refine (at_iload_n dc103_14 rfl).trans ?_
  rw [hx]
  exact at_tswI (t := 52) dc103_15 (by decide) rfl (by decide)
theorem b103_14_c1 {X : pm_X} {d : Nat} {x1 : Int32} {x2 : Int32} {g : pm_G} {iv : pm_V} (hx : x2 = 1) : pm_at X d 103 (14, [some (.ref 0), some (.int x1), some (.int x2)], [], g, iv) = pm_at X d 103 (61, [some (.ref 0), some (.int x1), some (.int x2)], [], g, iv) := by
  refine (at_iload_n dc103_14 rfl).trans ?_
  rw [hx]
  exact at_tswI (t := 61) dc103_15 (by decide) rfl (by decide)
theorem b103_14_c2 {X : pm_X} {d : Nat} {x1 : Int32} {x2 : Int32} {g : pm_G} {iv : pm_V} (hx : x2 = 2) : pm_at X d 103 (14, [some (.ref 0), some (.int x1), some (.int x2)], [], g, iv) = pm_at X d 103 (70, [some (.ref 0), some (.int x1), some (.int x2)], [], g, iv) := by
  refine (at_iload_n dc103_14 rfl).trans ?_
  rw [hx]
  exact at_tswI (t := 70) dc103_15 (by decide) rfl (by decide)
theorem b103_14_c3 {X : pm_X} {d : Nat} {x1 : Int32} {x2 : Int32} {g : pm_G} {iv : pm_V} (hx : x2 = 3) : pm_at X d 103 (14, [some (.ref 0), some (.int x1), some (.int x2)], [], g, iv) = pm_at X d 103 (79, [some (.ref 0), some (.int x1), some (.int x2)], [], g, iv) := by
  refine (at_iload_n dc103_14 rfl).trans ?_
  rw [hx]
  exact at_tswI (t := 79) dc103_15 (by decide) rfl (by decide)
theorem b103_14_c4 {X : pm_X} {d : Nat} {x1 : Int32} {x2 : Int32} {g : pm_G} {iv : pm_V} (hx : x2 = 4) : pm_at X d 103 (14, [some (.ref 0), some (.int x1), some (.int x2)], [], g, iv) = pm_at X d 103 (96, [some (.ref 0), some (.int x1), some (.int x2)], [], g, iv) := by
  refine (at_iload_n dc103_14 rfl).trans ?_
  rw [hx]
  exact at_tswI (t := 96) dc103_15 (by decide) rfl (by decide)
theorem b103_14_c5 {X : pm_X} {d : Nat} {x1 : Int32} {x2 : Int32} {g : pm_G} {iv : pm_V} (hx : x2 = 5) : pm_at X d 103 (14, [some (.ref 0), some (.int x1), some (.int x2)], [], g, iv) = pm_at X d 103 (105, [some (.ref 0), some (.int x1), some (.int x2)], [], g, iv) := by
  refine (at_iload_n dc103_14 rfl).trans ?_
  rw [hx]
  exact at_tswI (t := 105) dc103_15 (by decide) rfl (by decide)
theorem b103_14_df {X : pm_X} {d : Nat} {x1 : Int32} {x2 : Int32} {g : pm_G} {iv : pm_V}  (hx : x2.toInt < 0 ∨ 5 < x2.toInt) : pm_at X d 103 (14, [some (.ref 0), some (.int x1), some (.int x2)], [], g, iv) = pm_at X d 103 (114, [some (.ref 0), some (.int x1), some (.int x2)], [], g, iv) := by
  refine (at_iload_n dc103_14 rfl).trans ?_
  exact at_tswO (t := 114) dc103_15 hx (by decide)
theorem b103_52 {X : pm_X} {d : Nat} {x1 : Int32} {x2 : Int32} {g : pm_G} {iv : pm_V} (hL : pm_lay g) : pm_at X d 103 (52, [some (.ref 0), some (.int x1), some (.int x2)], [], g, iv) = pm_then X d 103 60 [some (.ref 0), some (.int x1), some (.int x2)] [] (pm_c X d 38 [.ref 11, .int x1] g iv) := by
  refine (at_aload_n dc103_52 rfl).trans ?_
  refine (at_gfR dc103_53 mc103 lf5_40 fo5_4 (ly0 hL) (lr0_4 hL)).trans ?_
  refine (at_iload_n dc103_56 rfl).trans ?_
  exact at_inv dc103_57 mc103 lm5_162 rfl rfl (Nat.le_of_ble_eq_true rfl) (Or.inl ⟨(ly11 hL), by decide⟩)
theorem b103_60 {X : pm_X} {d : Nat} {x1 : Int32} {x2 : Int32} {s0 : Int32} {g : pm_G} {iv : pm_V}  : pm_at X d 103 (60, [some (.ref 0), some (.int x1), some (.int x2)], [.int s0], g, iv) = some (some (.int s0), g, iv) := by
  exact at_iret dc103_60 mr103
theorem b103_61 {X : pm_X} {d : Nat} {x1 : Int32} {x2 : Int32} {g : pm_G} {iv : pm_V} (hL : pm_lay g) : pm_at X d 103 (61, [some (.ref 0), some (.int x1), some (.int x2)], [], g, iv) = pm_then X d 103 69 [some (.ref 0), some (.int x1), some (.int x2)] [] (pm_c X d 39 [.ref 11, .int x1] g iv) := by
  refine (at_aload_n dc103_61 rfl).trans ?_
  refine (at_gfR dc103_62 mc103 lf5_40 fo5_4 (ly0 hL) (lr0_4 hL)).trans ?_
  refine (at_iload_n dc103_65 rfl).trans ?_
  exact at_inv dc103_66 mc103 lm5_163 rfl rfl (Nat.le_of_ble_eq_true rfl) (Or.inl ⟨(ly11 hL), by decide⟩)
theorem b103_69 {X : pm_X} {d : Nat} {x1 : Int32} {x2 : Int32} {s0 : Int32} {g : pm_G} {iv : pm_V}  : pm_at X d 103 (69, [some (.ref 0), some (.int x1), some (.int x2)], [.int s0], g, iv) = some (some (.int s0), g, iv) := by
  exact at_iret dc103_69 mr103
theorem b103_70 {X : pm_X} {d : Nat} {x1 : Int32} {x2 : Int32} {g : pm_G} {iv : pm_V} (hL : pm_lay g) : pm_at X d 103 (70, [some (.ref 0), some (.int x1), some (.int x2)], [], g, iv) = pm_then X d 103 78 [some (.ref 0), some (.int x1), some (.int x2)] [] (pm_c X d 37 [.ref 11, .int x1] g iv) := by
  refine (at_aload_n dc103_70 rfl).trans ?_
  refine (at_gfR dc103_71 mc103 lf5_40 fo5_4 (ly0 hL) (lr0_4 hL)).trans ?_
  refine (at_iload_n dc103_74 rfl).trans ?_
  exact at_inv dc103_75 mc103 lm5_166 rfl rfl (Nat.le_of_ble_eq_true rfl) (Or.inl ⟨(ly11 hL), by decide⟩)
theorem b103_78 {X : pm_X} {d : Nat} {x1 : Int32} {x2 : Int32} {s0 : Int32} {g : pm_G} {iv : pm_V}  : pm_at X d 103 (78, [some (.ref 0), some (.int x1), some (.int x2)], [.int s0], g, iv) = some (some (.int s0), g, iv) := by
  exact at_iret dc103_78 mr103
theorem b103_79 {X : pm_X} {d : Nat} {x1 : Int32} {x2 : Int32} {g : pm_G} {iv : pm_V} (hL : pm_lay g) : pm_at X d 103 (79, [some (.ref 0), some (.int x1), some (.int x2)], [], g, iv) = pm_then X d 103 87 [some (.ref 0), some (.int x1), some (.int x2)] [] (pm_c X d 41 [.ref 11, .int x1] g iv) := by
  refine (at_aload_n dc103_79 rfl).trans ?_
  refine (at_gfR dc103_80 mc103 lf5_40 fo5_4 (ly0 hL) (lr0_4 hL)).trans ?_
  refine (at_iload_n dc103_83 rfl).trans ?_
  exact at_inv dc103_84 mc103 lm5_169 rfl rfl (Nat.le_of_ble_eq_true rfl) (Or.inl ⟨(ly11 hL), by decide⟩)
theorem b103_87 {X : pm_X} {d : Nat} {x1 : Int32} {x2 : Int32} {s0 : Int32} {g : pm_G} {iv : pm_V}  : pm_at X d 103 (87, [some (.ref 0), some (.int x1), some (.int x2)], [.int s0], g, iv) = if s0 = 0 then pm_at X d 103 (94, [some (.ref 0), some (.int x1), some (.int x2)], [], g, iv) else pm_at X d 103 (90, [some (.ref 0), some (.int x1), some (.int x2)], [], g, iv) := by
  exact at_if_eq (t := 94) dc103_87 (by decide)
theorem b103_90 {X : pm_X} {d : Nat} {x1 : Int32} {x2 : Int32} {g : pm_G} {iv : pm_V}  : pm_at X d 103 (90, [some (.ref 0), some (.int x1), some (.int x2)], [], g, iv) = pm_at X d 103 (95, [some (.ref 0), some (.int x1), some (.int x2)], [.int 1], g, iv) := by
  refine (at_iconst (v := 1) dc103_90 rfl).trans ?_
  refine (at_goto (t := 95) dc103_91 (by decide)).trans ?_
  rfl
theorem b103_94 {X : pm_X} {d : Nat} {x1 : Int32} {x2 : Int32} {g : pm_G} {iv : pm_V}  : pm_at X d 103 (94, [some (.ref 0), some (.int x1), some (.int x2)], [], g, iv) = pm_at X d 103 (95, [some (.ref 0), some (.int x1), some (.int x2)], [.int 0], g, iv) := by
  refine (at_iconst (v := 0) dc103_94 rfl).trans ?_
  rfl
theorem b103_95 {X : pm_X} {d : Nat} {x1 : Int32} {x2 : Int32} {s0 : Int32} {g : pm_G} {iv : pm_V}  : pm_at X d 103 (95, [some (.ref 0), some (.int x1), some (.int x2)], [.int s0], g, iv) = some (some (.int s0), g, iv) := by
  exact at_iret dc103_95 mr103
theorem b103_96 {X : pm_X} {d : Nat} {x1 : Int32} {x2 : Int32} {g : pm_G} {iv : pm_V} (hL : pm_lay g) : pm_at X d 103 (96, [some (.ref 0), some (.int x1), some (.int x2)], [], g, iv) = pm_then X d 103 104 [some (.ref 0), some (.int x1), some (.int x2)] [] (pm_c X d 40 [.ref 11, .int x1] g iv) := by
  refine (at_aload_n dc103_96 rfl).trans ?_
  refine (at_gfR dc103_97 mc103 lf5_40 fo5_4 (ly0 hL) (lr0_4 hL)).trans ?_
  refine (at_iload_n dc103_100 rfl).trans ?_
  exact at_inv dc103_101 mc103 lm5_172 rfl rfl (Nat.le_of_ble_eq_true rfl) (Or.inl ⟨(ly11 hL), by decide⟩)
theorem b103_104 {X : pm_X} {d : Nat} {x1 : Int32} {x2 : Int32} {s0 : Int32} {g : pm_G} {iv : pm_V}  : pm_at X d 103 (104, [some (.ref 0), some (.int x1), some (.int x2)], [.int s0], g, iv) = some (some (.int s0), g, iv) := by
  exact at_iret dc103_104 mr103
theorem b103_105 {X : pm_X} {d : Nat} {x1 : Int32} {x2 : Int32} {g : pm_G} {iv : pm_V} (hL : pm_lay g) : pm_at X d 103 (105, [some (.ref 0), some (.int x1), some (.int x2)], [], g, iv) = pm_then X d 103 113 [some (.ref 0), some (.int x1), some (.int x2)] [] (pm_c X d 46 [.ref 11, .int x1] g iv) := by
  refine (at_aload_n dc103_105 rfl).trans ?_
  refine (at_gfR dc103_106 mc103 lf5_40 fo5_4 (ly0 hL) (lr0_4 hL)).trans ?_
  refine (at_iload_n dc103_109 rfl).trans ?_
  exact at_inv dc103_110 mc103 lm5_175 rfl rfl (Nat.le_of_ble_eq_true rfl) (Or.inl ⟨(ly11 hL), by decide⟩)
theorem b103_113 {X : pm_X} {d : Nat} {x1 : Int32} {x2 : Int32} {s0 : Int32} {g : pm_G} {iv : pm_V}  : pm_at X d 103 (113, [some (.ref 0), some (.int x1), some (.int x2)], [.int s0], g, iv) = some (some (.int s0), g, iv) := by
  exact at_iret dc103_113 mr103
theorem b103_114 {X : pm_X} {d : Nat} {x1 : Int32} {x2 : Int32} {g : pm_G} {iv : pm_V}  : pm_at X d 103 (114, [some (.ref 0), some (.int x1), some (.int x2)], [], g, iv) = some (some (.int (-1000001)), g, iv) := by
  refine (at_ldc dc103_114 mc103 lk5_59).trans ?_
  exact at_iret dc103_116 mr103
-- HH.yard (II)I
theorem dc104_0 : decode (pm_mb 104) 0 = .ok (.aload_n 0, 1) := by decide +kernel
theorem dc104_1 : decode (pm_mb 104) 1 = .ok (.getfield 40, 3) := by decide +kernel
theorem dc104_4 : decode (pm_mb 104) 4 = .ok (.iload_n 1, 1) := by decide +kernel
theorem dc104_5 : decode (pm_mb 104) 5 = .ok (.invokevirtual 142, 3) := by decide +kernel
theorem dc104_8 : decode (pm_mb 104) 8 = .ok (.ifCond .eq 14, 3) := by decide +kernel
theorem dc104_11 : decode (pm_mb 104) 11 = .ok (.aload_n 0, 1) := by decide +kernel
theorem dc104_12 : decode (pm_mb 104) 12 = .ok (.getfield 40, 3) := by decide +kernel
theorem dc104_15 : decode (pm_mb 104) 15 = .ok (.iload_n 2, 1) := by decide +kernel
theorem dc104_16 : decode (pm_mb 104) 16 = .ok (.invokevirtual 178, 3) := by decide +kernel
theorem dc104_19 : decode (pm_mb 104) 19 = .ok (.ifCond .ne 6, 3) := by decide +kernel
theorem dc104_22 : decode (pm_mb 104) 22 = .ok (.ldc 59, 2) := by decide +kernel
theorem dc104_24 : decode (pm_mb 104) 24 = .ok (.ireturn, 1) := by decide +kernel
theorem dc104_25 : decode (pm_mb 104) 25 = .ok (.aload_n 0, 1) := by decide +kernel
theorem dc104_26 : decode (pm_mb 104) 26 = .ok (.getfield 40, 3) := by decide +kernel
theorem dc104_29 : decode (pm_mb 104) 29 = .ok (.iload_n 1, 1) := by decide +kernel
theorem dc104_30 : decode (pm_mb 104) 30 = .ok (.iload_n 2, 1) := by decide +kernel
theorem dc104_31 : decode (pm_mb 104) 31 = .ok (.invokevirtual 145, 3) := by decide +kernel
theorem dc104_34 : decode (pm_mb 104) 34 = .ok (.ireturn, 1) := by decide +kernel
theorem b104_0 {X : pm_X} {d : Nat} {x1 : Int32} {x2 : Int32} {g : pm_G} {iv : pm_V} (hL : pm_lay g) : pm_at X d 104 (0, [some (.ref 0), some (.int x1), some (.int x2)], [], g, iv) = pm_then X d 104 8 [some (.ref 0), some (.int x1), some (.int x2)] [] (pm_c X d 33 [.ref 11, .int x1] g iv) := by
  refine (at_aload_n dc104_0 rfl).trans ?_
  refine (at_gfR dc104_1 mc104 lf5_40 fo5_4 (ly0 hL) (lr0_4 hL)).trans ?_
  refine (at_iload_n dc104_4 rfl).trans ?_
  exact at_inv dc104_5 mc104 lm5_142 rfl rfl (Nat.le_of_ble_eq_true rfl) (Or.inl ⟨(ly11 hL), by decide⟩)
theorem b104_8 {X : pm_X} {d : Nat} {x1 : Int32} {x2 : Int32} {s0 : Int32} {g : pm_G} {iv : pm_V}  : pm_at X d 104 (8, [some (.ref 0), some (.int x1), some (.int x2)], [.int s0], g, iv) = if s0 = 0 then pm_at X d 104 (22, [some (.ref 0), some (.int x1), some (.int x2)], [], g, iv) else pm_at X d 104 (11, [some (.ref 0), some (.int x1), some (.int x2)], [], g, iv) := by
  exact at_if_eq (t := 22) dc104_8 (by decide)
theorem b104_11 {X : pm_X} {d : Nat} {x1 : Int32} {x2 : Int32} {g : pm_G} {iv : pm_V} (hL : pm_lay g) : pm_at X d 104 (11, [some (.ref 0), some (.int x1), some (.int x2)], [], g, iv) = pm_then X d 104 19 [some (.ref 0), some (.int x1), some (.int x2)] [] (pm_c X d 34 [.ref 11, .int x2] g iv) := by
  refine (at_aload_n dc104_11 rfl).trans ?_
  refine (at_gfR dc104_12 mc104 lf5_40 fo5_4 (ly0 hL) (lr0_4 hL)).trans ?_
  refine (at_iload_n dc104_15 rfl).trans ?_
  exact at_inv dc104_16 mc104 lm5_178 rfl rfl (Nat.le_of_ble_eq_true rfl) (Or.inl ⟨(ly11 hL), by decide⟩)
theorem b104_19 {X : pm_X} {d : Nat} {x1 : Int32} {x2 : Int32} {s0 : Int32} {g : pm_G} {iv : pm_V}  : pm_at X d 104 (19, [some (.ref 0), some (.int x1), some (.int x2)], [.int s0], g, iv) = if ¬ s0 = 0 then pm_at X d 104 (25, [some (.ref 0), some (.int x1), some (.int x2)], [], g, iv) else pm_at X d 104 (22, [some (.ref 0), some (.int x1), some (.int x2)], [], g, iv) := by
  exact at_if_ne (t := 25) dc104_19 (by decide)
theorem b104_22 {X : pm_X} {d : Nat} {x1 : Int32} {x2 : Int32} {g : pm_G} {iv : pm_V}  : pm_at X d 104 (22, [some (.ref 0), some (.int x1), some (.int x2)], [], g, iv) = some (some (.int (-1000001)), g, iv) := by
  refine (at_ldc dc104_22 mc104 lk5_59).trans ?_
  exact at_iret dc104_24 mr104
theorem b104_25 {X : pm_X} {d : Nat} {x1 : Int32} {x2 : Int32} {g : pm_G} {iv : pm_V} (hL : pm_lay g) : pm_at X d 104 (25, [some (.ref 0), some (.int x1), some (.int x2)], [], g, iv) = pm_then X d 104 34 [some (.ref 0), some (.int x1), some (.int x2)] [] (pm_c X d 45 [.ref 11, .int x1, .int x2] g iv) := by
  refine (at_aload_n dc104_25 rfl).trans ?_
  refine (at_gfR dc104_26 mc104 lf5_40 fo5_4 (ly0 hL) (lr0_4 hL)).trans ?_
  refine (at_iload_n dc104_29 rfl).trans ?_
  refine (at_iload_n dc104_30 rfl).trans ?_
  exact at_inv dc104_31 mc104 lm5_145 rfl rfl (Nat.le_of_ble_eq_true rfl) (Or.inl ⟨(ly11 hL), by decide⟩)
theorem b104_34 {X : pm_X} {d : Nat} {x1 : Int32} {x2 : Int32} {s0 : Int32} {g : pm_G} {iv : pm_V}  : pm_at X d 104 (34, [some (.ref 0), some (.int x1), some (.int x2)], [.int s0], g, iv) = some (some (.int s0), g, iv) := by
  exact at_iret dc104_34 mr104
-- HH.ahead (III)I
theorem dc105_0 : decode (pm_mb 105) 0 = .ok (.aload_n 0, 1) := by decide +kernel
theorem dc105_1 : decode (pm_mb 105) 1 = .ok (.getfield 40, 3) := by decide +kernel
theorem dc105_4 : decode (pm_mb 105) 4 = .ok (.iload_n 1, 1) := by decide +kernel
theorem dc105_5 : decode (pm_mb 105) 5 = .ok (.invokevirtual 139, 3) := by decide +kernel
theorem dc105_8 : decode (pm_mb 105) 8 = .ok (.ifCond .eq 20, 3) := by decide +kernel
theorem dc105_11 : decode (pm_mb 105) 11 = .ok (.iload_n 2, 1) := by decide +kernel
theorem dc105_12 : decode (pm_mb 105) 12 = .ok (.bipush 40, 2) := by decide +kernel
theorem dc105_14 : decode (pm_mb 105) 14 = .ok (.invokestatic 55, 3) := by decide +kernel
theorem dc105_17 : decode (pm_mb 105) 17 = .ok (.ifCond .eq 11, 3) := by decide +kernel
theorem dc105_20 : decode (pm_mb 105) 20 = .ok (.iload_n 3, 1) := by decide +kernel
theorem dc105_21 : decode (pm_mb 105) 21 = .ok (.iconst 1, 1) := by decide +kernel
theorem dc105_22 : decode (pm_mb 105) 22 = .ok (.invokestatic 55, 3) := by decide +kernel
theorem dc105_25 : decode (pm_mb 105) 25 = .ok (.ifCond .ne 6, 3) := by decide +kernel
theorem dc105_28 : decode (pm_mb 105) 28 = .ok (.ldc 59, 2) := by decide +kernel
theorem dc105_30 : decode (pm_mb 105) 30 = .ok (.ireturn, 1) := by decide +kernel
theorem dc105_31 : decode (pm_mb 105) 31 = .ok (.aload_n 0, 1) := by decide +kernel
theorem dc105_32 : decode (pm_mb 105) 32 = .ok (.getfield 44, 3) := by decide +kernel
theorem dc105_35 : decode (pm_mb 105) 35 = .ok (.aload_n 0, 1) := by decide +kernel
theorem dc105_36 : decode (pm_mb 105) 36 = .ok (.getfield 40, 3) := by decide +kernel
theorem dc105_39 : decode (pm_mb 105) 39 = .ok (.invokevirtual 112, 3) := by decide +kernel
theorem dc105_42 : decode (pm_mb 105) 42 = .ok (.aload_n 0, 1) := by decide +kernel
theorem dc105_43 : decode (pm_mb 105) 43 = .ok (.iload_n 2, 1) := by decide +kernel
theorem dc105_44 : decode (pm_mb 105) 44 = .ok (.invokevirtual 181, 3) := by decide +kernel
theorem dc105_47 : decode (pm_mb 105) 47 = .ok (.iload_n 3, 1) := by decide +kernel
theorem dc105_48 : decode (pm_mb 105) 48 = .ok (.ifCond .ne 14, 3) := by decide +kernel
theorem dc105_51 : decode (pm_mb 105) 51 = .ok (.aload_n 0, 1) := by decide +kernel
theorem dc105_52 : decode (pm_mb 105) 52 = .ok (.getfield 44, 3) := by decide +kernel
theorem dc105_55 : decode (pm_mb 105) 55 = .ok (.iload_n 1, 1) := by decide +kernel
theorem dc105_56 : decode (pm_mb 105) 56 = .ok (.invokevirtual 162, 3) := by decide +kernel
theorem dc105_59 : decode (pm_mb 105) 59 = .ok (.goto 11, 3) := by decide +kernel
theorem dc105_62 : decode (pm_mb 105) 62 = .ok (.aload_n 0, 1) := by decide +kernel
theorem dc105_63 : decode (pm_mb 105) 63 = .ok (.getfield 44, 3) := by decide +kernel
theorem dc105_66 : decode (pm_mb 105) 66 = .ok (.iload_n 1, 1) := by decide +kernel
theorem dc105_67 : decode (pm_mb 105) 67 = .ok (.invokevirtual 163, 3) := by decide +kernel
theorem dc105_70 : decode (pm_mb 105) 70 = .ok (.ireturn, 1) := by decide +kernel
theorem b105_0 {X : pm_X} {d : Nat} {x1 : Int32} {x2 : Int32} {x3 : Int32} {g : pm_G} {iv : pm_V} (hL : pm_lay g) : pm_at X d 105 (0, [some (.ref 0), some (.int x1), some (.int x2), some (.int x3)], [], g, iv) = pm_then X d 105 8 [some (.ref 0), some (.int x1), some (.int x2), some (.int x3)] [] (pm_c X d 35 [.ref 11, .int x1] g iv) := by
  refine (at_aload_n dc105_0 rfl).trans ?_
  refine (at_gfR dc105_1 mc105 lf5_40 fo5_4 (ly0 hL) (lr0_4 hL)).trans ?_
  refine (at_iload_n dc105_4 rfl).trans ?_
  exact at_inv dc105_5 mc105 lm5_139 rfl rfl (Nat.le_of_ble_eq_true rfl) (Or.inl ⟨(ly11 hL), by decide⟩)
theorem b105_8 {X : pm_X} {d : Nat} {x1 : Int32} {x2 : Int32} {x3 : Int32} {s0 : Int32} {g : pm_G} {iv : pm_V}  : pm_at X d 105 (8, [some (.ref 0), some (.int x1), some (.int x2), some (.int x3)], [.int s0], g, iv) = if s0 = 0 then pm_at X d 105 (28, [some (.ref 0), some (.int x1), some (.int x2), some (.int x3)], [], g, iv) else pm_at X d 105 (11, [some (.ref 0), some (.int x1), some (.int x2), some (.int x3)], [], g, iv) := by
  exact at_if_eq (t := 28) dc105_8 (by decide)
theorem b105_11 {X : pm_X} {d : Nat} {x1 : Int32} {x2 : Int32} {x3 : Int32} {g : pm_G} {iv : pm_V}  : pm_at X d 105 (11, [some (.ref 0), some (.int x1), some (.int x2), some (.int x3)], [], g, iv) = pm_then X d 105 17 [some (.ref 0), some (.int x1), some (.int x2), some (.int x3)] [] (pm_c X d 120 [.int x2, .int 40] g iv) := by
  refine (at_iload_n dc105_11 rfl).trans ?_
  refine (at_bipush (v := 40) dc105_12 (by decide)).trans ?_
  exact at_ins dc105_14 mc105 lm5_55 (Nat.le_of_ble_eq_true rfl) rfl rfl (Nat.le_of_ble_eq_true rfl)
theorem b105_17 {X : pm_X} {d : Nat} {x1 : Int32} {x2 : Int32} {x3 : Int32} {s0 : Int32} {g : pm_G} {iv : pm_V}  : pm_at X d 105 (17, [some (.ref 0), some (.int x1), some (.int x2), some (.int x3)], [.int s0], g, iv) = if s0 = 0 then pm_at X d 105 (28, [some (.ref 0), some (.int x1), some (.int x2), some (.int x3)], [], g, iv) else pm_at X d 105 (20, [some (.ref 0), some (.int x1), some (.int x2), some (.int x3)], [], g, iv) := by
  exact at_if_eq (t := 28) dc105_17 (by decide)
theorem b105_20 {X : pm_X} {d : Nat} {x1 : Int32} {x2 : Int32} {x3 : Int32} {g : pm_G} {iv : pm_V}  : pm_at X d 105 (20, [some (.ref 0), some (.int x1), some (.int x2), some (.int x3)], [], g, iv) = pm_then X d 105 25 [some (.ref 0), some (.int x1), some (.int x2), some (.int x3)] [] (pm_c X d 120 [.int x3, .int 1] g iv) := by
  refine (at_iload_n dc105_20 rfl).trans ?_
  refine (at_iconst (v := 1) dc105_21 rfl).trans ?_
  exact at_ins dc105_22 mc105 lm5_55 (Nat.le_of_ble_eq_true rfl) rfl rfl (Nat.le_of_ble_eq_true rfl)
theorem b105_25 {X : pm_X} {d : Nat} {x1 : Int32} {x2 : Int32} {x3 : Int32} {s0 : Int32} {g : pm_G} {iv : pm_V}  : pm_at X d 105 (25, [some (.ref 0), some (.int x1), some (.int x2), some (.int x3)], [.int s0], g, iv) = if ¬ s0 = 0 then pm_at X d 105 (31, [some (.ref 0), some (.int x1), some (.int x2), some (.int x3)], [], g, iv) else pm_at X d 105 (28, [some (.ref 0), some (.int x1), some (.int x2), some (.int x3)], [], g, iv) := by
  exact at_if_ne (t := 31) dc105_25 (by decide)
theorem b105_28 {X : pm_X} {d : Nat} {x1 : Int32} {x2 : Int32} {x3 : Int32} {g : pm_G} {iv : pm_V}  : pm_at X d 105 (28, [some (.ref 0), some (.int x1), some (.int x2), some (.int x3)], [], g, iv) = some (some (.int (-1000001)), g, iv) := by
  refine (at_ldc dc105_28 mc105 lk5_59).trans ?_
  exact at_iret dc105_30 mr105
theorem b105_31 {X : pm_X} {d : Nat} {x1 : Int32} {x2 : Int32} {x3 : Int32} {g : pm_G} {iv : pm_V} (hL : pm_lay g) : pm_at X d 105 (31, [some (.ref 0), some (.int x1), some (.int x2), some (.int x3)], [], g, iv) = pm_then X d 105 42 [some (.ref 0), some (.int x1), some (.int x2), some (.int x3)] [] (pm_c X d 52 [.ref 21, .ref 11] g iv) := by
  refine (at_aload_n dc105_31 rfl).trans ?_
  refine (at_gfR dc105_32 mc105 lf5_44 fo5_5 (ly0 hL) (lr0_5 hL)).trans ?_
  refine (at_aload_n dc105_35 rfl).trans ?_
  refine (at_gfR dc105_36 mc105 lf5_40 fo5_4 (ly0 hL) (lr0_4 hL)).trans ?_
  exact at_inv dc105_39 mc105 lm5_112 rfl rfl (Nat.le_of_ble_eq_true rfl) (Or.inl ⟨(ly21 hL), by decide⟩)
theorem b105_42 {X : pm_X} {d : Nat} {x1 : Int32} {x2 : Int32} {x3 : Int32} {g : pm_G} {iv : pm_V} (hL : pm_lay g) : pm_at X d 105 (42, [some (.ref 0), some (.int x1), some (.int x2), some (.int x3)], [], g, iv) = pm_then X d 105 47 [some (.ref 0), some (.int x1), some (.int x2), some (.int x3)] [] (pm_c X d 126 [.ref 0, .int x2] g iv) := by
  refine (at_aload_n dc105_42 rfl).trans ?_
  refine (at_iload_n dc105_43 rfl).trans ?_
  exact at_inv dc105_44 mc105 lm5_181 rfl rfl (Nat.le_of_ble_eq_true rfl) (Or.inl ⟨(ly0 hL), by decide⟩)
theorem b105_47 {X : pm_X} {d : Nat} {x1 : Int32} {x2 : Int32} {x3 : Int32} {g : pm_G} {iv : pm_V}  : pm_at X d 105 (47, [some (.ref 0), some (.int x1), some (.int x2), some (.int x3)], [], g, iv) = if ¬ x3 = 0 then pm_at X d 105 (62, [some (.ref 0), some (.int x1), some (.int x2), some (.int x3)], [], g, iv) else pm_at X d 105 (51, [some (.ref 0), some (.int x1), some (.int x2), some (.int x3)], [], g, iv) := by
  refine (at_iload_n dc105_47 rfl).trans ?_
  exact at_if_ne (t := 62) dc105_48 (by decide)
theorem b105_51 {X : pm_X} {d : Nat} {x1 : Int32} {x2 : Int32} {x3 : Int32} {g : pm_G} {iv : pm_V} (hL : pm_lay g) : pm_at X d 105 (51, [some (.ref 0), some (.int x1), some (.int x2), some (.int x3)], [], g, iv) = pm_then X d 105 59 [some (.ref 0), some (.int x1), some (.int x2), some (.int x3)] [] (pm_c X d 38 [.ref 21, .int x1] g iv) := by
  refine (at_aload_n dc105_51 rfl).trans ?_
  refine (at_gfR dc105_52 mc105 lf5_44 fo5_5 (ly0 hL) (lr0_5 hL)).trans ?_
  refine (at_iload_n dc105_55 rfl).trans ?_
  exact at_inv dc105_56 mc105 lm5_162 rfl rfl (Nat.le_of_ble_eq_true rfl) (Or.inl ⟨(ly21 hL), by decide⟩)
theorem b105_59 {X : pm_X} {d : Nat} {x1 : Int32} {x2 : Int32} {x3 : Int32} {s0 : Int32} {g : pm_G} {iv : pm_V}  : pm_at X d 105 (59, [some (.ref 0), some (.int x1), some (.int x2), some (.int x3)], [.int s0], g, iv) = pm_at X d 105 (70, [some (.ref 0), some (.int x1), some (.int x2), some (.int x3)], [.int s0], g, iv) := by
  refine (at_goto (t := 70) dc105_59 (by decide)).trans ?_
  rfl
theorem b105_62 {X : pm_X} {d : Nat} {x1 : Int32} {x2 : Int32} {x3 : Int32} {g : pm_G} {iv : pm_V} (hL : pm_lay g) : pm_at X d 105 (62, [some (.ref 0), some (.int x1), some (.int x2), some (.int x3)], [], g, iv) = pm_then X d 105 70 [some (.ref 0), some (.int x1), some (.int x2), some (.int x3)] [] (pm_c X d 39 [.ref 21, .int x1] g iv) := by
  refine (at_aload_n dc105_62 rfl).trans ?_
  refine (at_gfR dc105_63 mc105 lf5_44 fo5_5 (ly0 hL) (lr0_5 hL)).trans ?_
  refine (at_iload_n dc105_66 rfl).trans ?_
  exact at_inv dc105_67 mc105 lm5_163 rfl rfl (Nat.le_of_ble_eq_true rfl) (Or.inl ⟨(ly21 hL), by decide⟩)
theorem b105_70 {X : pm_X} {d : Nat} {x1 : Int32} {x2 : Int32} {x3 : Int32} {s0 : Int32} {g : pm_G} {iv : pm_V}  : pm_at X d 105 (70, [some (.ref 0), some (.int x1), some (.int x2), some (.int x3)], [.int s0], g, iv) = some (some (.int s0), g, iv) := by
  exact at_iret dc105_70 mr105
-- HH.stream (I)I
theorem dc106_0 : decode (pm_mb 106) 0 = .ok (.aload_n 0, 1) := by decide +kernel
theorem dc106_1 : decode (pm_mb 106) 1 = .ok (.getfield 40, 3) := by decide +kernel
theorem dc106_4 : decode (pm_mb 106) 4 = .ok (.iload_n 1, 1) := by decide +kernel
theorem dc106_5 : decode (pm_mb 106) 5 = .ok (.invokevirtual 139, 3) := by decide +kernel
theorem dc106_8 : decode (pm_mb 106) 8 = .ok (.ifCond .ne 6, 3) := by decide +kernel
theorem dc106_11 : decode (pm_mb 106) 11 = .ok (.ldc 59, 2) := by decide +kernel
theorem dc106_13 : decode (pm_mb 106) 13 = .ok (.ireturn, 1) := by decide +kernel
theorem dc106_14 : decode (pm_mb 106) 14 = .ok (.aload_n 0, 1) := by decide +kernel
theorem dc106_15 : decode (pm_mb 106) 15 = .ok (.getfield 44, 3) := by decide +kernel
theorem dc106_18 : decode (pm_mb 106) 18 = .ok (.aload_n 0, 1) := by decide +kernel
theorem dc106_19 : decode (pm_mb 106) 19 = .ok (.getfield 40, 3) := by decide +kernel
theorem dc106_22 : decode (pm_mb 106) 22 = .ok (.invokevirtual 112, 3) := by decide +kernel
theorem dc106_25 : decode (pm_mb 106) 25 = .ok (.iconst 0, 1) := by decide +kernel
theorem dc106_26 : decode (pm_mb 106) 26 = .ok (.istore_n 2, 1) := by decide +kernel
theorem dc106_27 : decode (pm_mb 106) 27 = .ok (.iload_n 2, 1) := by decide +kernel
theorem dc106_28 : decode (pm_mb 106) 28 = .ok (.bipush 40, 2) := by decide +kernel
theorem dc106_30 : decode (pm_mb 106) 30 = .ok (.if_icmp .gt 30, 3) := by decide +kernel
theorem dc106_33 : decode (pm_mb 106) 33 = .ok (.aload_n 0, 1) := by decide +kernel
theorem dc106_34 : decode (pm_mb 106) 34 = .ok (.getfield 44, 3) := by decide +kernel
theorem dc106_37 : decode (pm_mb 106) 37 = .ok (.iload_n 1, 1) := by decide +kernel
theorem dc106_38 : decode (pm_mb 106) 38 = .ok (.invokevirtual 185, 3) := by decide +kernel
theorem dc106_41 : decode (pm_mb 106) 41 = .ok (.ifCond .eq 5, 3) := by decide +kernel
theorem dc106_44 : decode (pm_mb 106) 44 = .ok (.iload_n 2, 1) := by decide +kernel
theorem dc106_45 : decode (pm_mb 106) 45 = .ok (.ireturn, 1) := by decide +kernel
theorem dc106_46 : decode (pm_mb 106) 46 = .ok (.aload_n 0, 1) := by decide +kernel
theorem dc106_47 : decode (pm_mb 106) 47 = .ok (.getfield 44, 3) := by decide +kernel
theorem dc106_50 : decode (pm_mb 106) 50 = .ok (.invokevirtual 136, 3) := by decide +kernel
theorem dc106_53 : decode (pm_mb 106) 53 = .ok (.pop, 1) := by decide +kernel
theorem dc106_54 : decode (pm_mb 106) 54 = .ok (.iinc 2 1, 3) := by decide +kernel
theorem dc106_57 : decode (pm_mb 106) 57 = .ok (.goto (-30), 3) := by decide +kernel
theorem dc106_60 : decode (pm_mb 106) 60 = .ok (.ldc 188, 2) := by decide +kernel
theorem dc106_62 : decode (pm_mb 106) 62 = .ok (.ireturn, 1) := by decide +kernel
theorem b106_0 {X : pm_X} {d : Nat} {x1 : Int32} {g : pm_G} {iv : pm_V} (hL : pm_lay g) : pm_at X d 106 (0, [some (.ref 0), some (.int x1), none], [], g, iv) = pm_then X d 106 8 [some (.ref 0), some (.int x1), none] [] (pm_c X d 35 [.ref 11, .int x1] g iv) := by
  refine (at_aload_n dc106_0 rfl).trans ?_
  refine (at_gfR dc106_1 mc106 lf5_40 fo5_4 (ly0 hL) (lr0_4 hL)).trans ?_
  refine (at_iload_n dc106_4 rfl).trans ?_
  exact at_inv dc106_5 mc106 lm5_139 rfl rfl (Nat.le_of_ble_eq_true rfl) (Or.inl ⟨(ly11 hL), by decide⟩)
theorem b106_8 {X : pm_X} {d : Nat} {x1 : Int32} {s0 : Int32} {g : pm_G} {iv : pm_V}  : pm_at X d 106 (8, [some (.ref 0), some (.int x1), none], [.int s0], g, iv) = if ¬ s0 = 0 then pm_at X d 106 (14, [some (.ref 0), some (.int x1), none], [], g, iv) else pm_at X d 106 (11, [some (.ref 0), some (.int x1), none], [], g, iv) := by
  exact at_if_ne (t := 14) dc106_8 (by decide)
theorem b106_11 {X : pm_X} {d : Nat} {x1 : Int32} {g : pm_G} {iv : pm_V}  : pm_at X d 106 (11, [some (.ref 0), some (.int x1), none], [], g, iv) = some (some (.int (-1000001)), g, iv) := by
  refine (at_ldc dc106_11 mc106 lk5_59).trans ?_
  exact at_iret dc106_13 mr106
theorem b106_14 {X : pm_X} {d : Nat} {x1 : Int32} {g : pm_G} {iv : pm_V} (hL : pm_lay g) : pm_at X d 106 (14, [some (.ref 0), some (.int x1), none], [], g, iv) = pm_then X d 106 25 [some (.ref 0), some (.int x1), none] [] (pm_c X d 52 [.ref 21, .ref 11] g iv) := by
  refine (at_aload_n dc106_14 rfl).trans ?_
  refine (at_gfR dc106_15 mc106 lf5_44 fo5_5 (ly0 hL) (lr0_5 hL)).trans ?_
  refine (at_aload_n dc106_18 rfl).trans ?_
  refine (at_gfR dc106_19 mc106 lf5_40 fo5_4 (ly0 hL) (lr0_4 hL)).trans ?_
  exact at_inv dc106_22 mc106 lm5_112 rfl rfl (Nat.le_of_ble_eq_true rfl) (Or.inl ⟨(ly21 hL), by decide⟩)
theorem b106_25 {X : pm_X} {d : Nat} {x1 : Int32} {g : pm_G} {iv : pm_V}  : pm_at X d 106 (25, [some (.ref 0), some (.int x1), none], [], g, iv) = pm_at X d 106 (27, [some (.ref 0), some (.int x1), some (.int 0)], [], g, iv) := by
  refine (at_iconst (v := 0) dc106_25 rfl).trans ?_
  refine (at_istore_n dc106_26 rfl).trans ?_
  rfl
theorem b106_27 {X : pm_X} {d : Nat} {x1 : Int32} {x2 : Int32} {g : pm_G} {iv : pm_V}  : pm_at X d 106 (27, [some (.ref 0), some (.int x1), some (.int x2)], [], g, iv) = if 40 < x2 then pm_at X d 106 (60, [some (.ref 0), some (.int x1), some (.int x2)], [], g, iv) else pm_at X d 106 (33, [some (.ref 0), some (.int x1), some (.int x2)], [], g, iv) := by
  refine (at_iload_n dc106_27 rfl).trans ?_
  refine (at_bipush (v := 40) dc106_28 (by decide)).trans ?_
  exact at_icmp_gt (t := 60) dc106_30 (by decide)
theorem b106_33 {X : pm_X} {d : Nat} {x1 : Int32} {x2 : Int32} {g : pm_G} {iv : pm_V} (hL : pm_lay g) : pm_at X d 106 (33, [some (.ref 0), some (.int x1), some (.int x2)], [], g, iv) = pm_then X d 106 41 [some (.ref 0), some (.int x1), some (.int x2)] [] (pm_c X d 43 [.ref 21, .int x1] g iv) := by
  refine (at_aload_n dc106_33 rfl).trans ?_
  refine (at_gfR dc106_34 mc106 lf5_44 fo5_5 (ly0 hL) (lr0_5 hL)).trans ?_
  refine (at_iload_n dc106_37 rfl).trans ?_
  exact at_inv dc106_38 mc106 lm5_185 rfl rfl (Nat.le_of_ble_eq_true rfl) (Or.inl ⟨(ly21 hL), by decide⟩)
theorem b106_41 {X : pm_X} {d : Nat} {x1 : Int32} {x2 : Int32} {s0 : Int32} {g : pm_G} {iv : pm_V}  : pm_at X d 106 (41, [some (.ref 0), some (.int x1), some (.int x2)], [.int s0], g, iv) = if s0 = 0 then pm_at X d 106 (46, [some (.ref 0), some (.int x1), some (.int x2)], [], g, iv) else pm_at X d 106 (44, [some (.ref 0), some (.int x1), some (.int x2)], [], g, iv) := by
  exact at_if_eq (t := 46) dc106_41 (by decide)
theorem b106_44 {X : pm_X} {d : Nat} {x1 : Int32} {x2 : Int32} {g : pm_G} {iv : pm_V}  : pm_at X d 106 (44, [some (.ref 0), some (.int x1), some (.int x2)], [], g, iv) = some (some (.int x2), g, iv) := by
  refine (at_iload_n dc106_44 rfl).trans ?_
  exact at_iret dc106_45 mr106
theorem b106_46 {X : pm_X} {d : Nat} {x1 : Int32} {x2 : Int32} {g : pm_G} {iv : pm_V} (hL : pm_lay g) : pm_at X d 106 (46, [some (.ref 0), some (.int x1), some (.int x2)], [], g, iv) = pm_then X d 106 53 [some (.ref 0), some (.int x1), some (.int x2)] [] (pm_c X d 60 [.ref 21] g iv) := by
  refine (at_aload_n dc106_46 rfl).trans ?_
  refine (at_gfR dc106_47 mc106 lf5_44 fo5_5 (ly0 hL) (lr0_5 hL)).trans ?_
  exact at_inv dc106_50 mc106 lm5_136 rfl rfl (Nat.le_of_ble_eq_true rfl) (Or.inl ⟨(ly21 hL), by decide⟩)
theorem b106_53 {X : pm_X} {d : Nat} {x1 : Int32} {x2 : Int32} {s0 : Int32} {g : pm_G} {iv : pm_V}  : pm_at X d 106 (53, [some (.ref 0), some (.int x1), some (.int x2)], [.int s0], g, iv) = pm_at X d 106 (27, [some (.ref 0), some (.int x1), some (.int (x2 + 1))], [], g, iv) := by
  refine (at_pop dc106_53 rfl).trans ?_
  refine (at_iinc (v := 1) dc106_54 rfl (by decide) rfl).trans ?_
  refine (at_goto (t := 27) dc106_57 (by decide)).trans ?_
  rfl
theorem b106_60 {X : pm_X} {d : Nat} {x1 : Int32} {x2 : Int32} {g : pm_G} {iv : pm_V}  : pm_at X d 106 (60, [some (.ref 0), some (.int x1), some (.int x2)], [], g, iv) = some (some (.int (-1000000)), g, iv) := by
  refine (at_ldc dc106_60 mc106 lk5_188).trans ?_
  exact at_iret dc106_62 mr106
-- HH.beside (III)I
theorem dc107_0 : decode (pm_mb 107) 0 = .ok (.aload_n 0, 1) := by decide +kernel
theorem dc107_1 : decode (pm_mb 107) 1 = .ok (.iload_n 1, 1) := by decide +kernel
theorem dc107_2 : decode (pm_mb 107) 2 = .ok (.iload_n 2, 1) := by decide +kernel
theorem dc107_3 : decode (pm_mb 107) 3 = .ok (.invokevirtual 189, 3) := by decide +kernel
theorem dc107_6 : decode (pm_mb 107) 6 = .ok (.ifCond .eq 12, 3) := by decide +kernel
theorem dc107_9 : decode (pm_mb 107) 9 = .ok (.iload_n 3, 1) := by decide +kernel
theorem dc107_10 : decode (pm_mb 107) 10 = .ok (.bipush 40, 2) := by decide +kernel
theorem dc107_12 : decode (pm_mb 107) 12 = .ok (.invokestatic 55, 3) := by decide +kernel
theorem dc107_15 : decode (pm_mb 107) 15 = .ok (.ifCond .ne 6, 3) := by decide +kernel
theorem dc107_18 : decode (pm_mb 107) 18 = .ok (.ldc 59, 2) := by decide +kernel
theorem dc107_20 : decode (pm_mb 107) 20 = .ok (.ireturn, 1) := by decide +kernel
theorem dc107_21 : decode (pm_mb 107) 21 = .ok (.aload_n 0, 1) := by decide +kernel
theorem dc107_22 : decode (pm_mb 107) 22 = .ok (.getfield 44, 3) := by decide +kernel
theorem dc107_25 : decode (pm_mb 107) 25 = .ok (.aload_n 0, 1) := by decide +kernel
theorem dc107_26 : decode (pm_mb 107) 26 = .ok (.getfield 40, 3) := by decide +kernel
theorem dc107_29 : decode (pm_mb 107) 29 = .ok (.invokevirtual 112, 3) := by decide +kernel
theorem dc107_32 : decode (pm_mb 107) 32 = .ok (.aload_n 0, 1) := by decide +kernel
theorem dc107_33 : decode (pm_mb 107) 33 = .ok (.iload_n 3, 1) := by decide +kernel
theorem dc107_34 : decode (pm_mb 107) 34 = .ok (.invokevirtual 181, 3) := by decide +kernel
theorem dc107_37 : decode (pm_mb 107) 37 = .ok (.aload_n 0, 1) := by decide +kernel
theorem dc107_38 : decode (pm_mb 107) 38 = .ok (.getfield 44, 3) := by decide +kernel
theorem dc107_41 : decode (pm_mb 107) 41 = .ok (.iload_n 1, 1) := by decide +kernel
theorem dc107_42 : decode (pm_mb 107) 42 = .ok (.iload_n 2, 1) := by decide +kernel
theorem dc107_43 : decode (pm_mb 107) 43 = .ok (.invokevirtual 192, 3) := by decide +kernel
theorem dc107_46 : decode (pm_mb 107) 46 = .ok (.ifCond .eq 7, 3) := by decide +kernel
theorem dc107_49 : decode (pm_mb 107) 49 = .ok (.iconst 1, 1) := by decide +kernel
theorem dc107_50 : decode (pm_mb 107) 50 = .ok (.goto 4, 3) := by decide +kernel
theorem dc107_53 : decode (pm_mb 107) 53 = .ok (.iconst 0, 1) := by decide +kernel
theorem dc107_54 : decode (pm_mb 107) 54 = .ok (.ireturn, 1) := by decide +kernel
theorem b107_0 {X : pm_X} {d : Nat} {x1 : Int32} {x2 : Int32} {x3 : Int32} {g : pm_G} {iv : pm_V} (hL : pm_lay g) : pm_at X d 107 (0, [some (.ref 0), some (.int x1), some (.int x2), some (.int x3)], [], g, iv) = pm_then X d 107 6 [some (.ref 0), some (.int x1), some (.int x2), some (.int x3)] [] (pm_c X d 122 [.ref 0, .int x1, .int x2] g iv) := by
  refine (at_aload_n dc107_0 rfl).trans ?_
  refine (at_iload_n dc107_1 rfl).trans ?_
  refine (at_iload_n dc107_2 rfl).trans ?_
  exact at_inv dc107_3 mc107 lm5_189 rfl rfl (Nat.le_of_ble_eq_true rfl) (Or.inl ⟨(ly0 hL), by decide⟩)
theorem b107_6 {X : pm_X} {d : Nat} {x1 : Int32} {x2 : Int32} {x3 : Int32} {s0 : Int32} {g : pm_G} {iv : pm_V}  : pm_at X d 107 (6, [some (.ref 0), some (.int x1), some (.int x2), some (.int x3)], [.int s0], g, iv) = if s0 = 0 then pm_at X d 107 (18, [some (.ref 0), some (.int x1), some (.int x2), some (.int x3)], [], g, iv) else pm_at X d 107 (9, [some (.ref 0), some (.int x1), some (.int x2), some (.int x3)], [], g, iv) := by
  exact at_if_eq (t := 18) dc107_6 (by decide)
theorem b107_9 {X : pm_X} {d : Nat} {x1 : Int32} {x2 : Int32} {x3 : Int32} {g : pm_G} {iv : pm_V}  : pm_at X d 107 (9, [some (.ref 0), some (.int x1), some (.int x2), some (.int x3)], [], g, iv) = pm_then X d 107 15 [some (.ref 0), some (.int x1), some (.int x2), some (.int x3)] [] (pm_c X d 120 [.int x3, .int 40] g iv) := by
  refine (at_iload_n dc107_9 rfl).trans ?_
  refine (at_bipush (v := 40) dc107_10 (by decide)).trans ?_
  exact at_ins dc107_12 mc107 lm5_55 (Nat.le_of_ble_eq_true rfl) rfl rfl (Nat.le_of_ble_eq_true rfl)
theorem b107_15 {X : pm_X} {d : Nat} {x1 : Int32} {x2 : Int32} {x3 : Int32} {s0 : Int32} {g : pm_G} {iv : pm_V}  : pm_at X d 107 (15, [some (.ref 0), some (.int x1), some (.int x2), some (.int x3)], [.int s0], g, iv) = if ¬ s0 = 0 then pm_at X d 107 (21, [some (.ref 0), some (.int x1), some (.int x2), some (.int x3)], [], g, iv) else pm_at X d 107 (18, [some (.ref 0), some (.int x1), some (.int x2), some (.int x3)], [], g, iv) := by
  exact at_if_ne (t := 21) dc107_15 (by decide)
theorem b107_18 {X : pm_X} {d : Nat} {x1 : Int32} {x2 : Int32} {x3 : Int32} {g : pm_G} {iv : pm_V}  : pm_at X d 107 (18, [some (.ref 0), some (.int x1), some (.int x2), some (.int x3)], [], g, iv) = some (some (.int (-1000001)), g, iv) := by
  refine (at_ldc dc107_18 mc107 lk5_59).trans ?_
  exact at_iret dc107_20 mr107
theorem b107_21 {X : pm_X} {d : Nat} {x1 : Int32} {x2 : Int32} {x3 : Int32} {g : pm_G} {iv : pm_V} (hL : pm_lay g) : pm_at X d 107 (21, [some (.ref 0), some (.int x1), some (.int x2), some (.int x3)], [], g, iv) = pm_then X d 107 32 [some (.ref 0), some (.int x1), some (.int x2), some (.int x3)] [] (pm_c X d 52 [.ref 21, .ref 11] g iv) := by
  refine (at_aload_n dc107_21 rfl).trans ?_
  refine (at_gfR dc107_22 mc107 lf5_44 fo5_5 (ly0 hL) (lr0_5 hL)).trans ?_
  refine (at_aload_n dc107_25 rfl).trans ?_
  refine (at_gfR dc107_26 mc107 lf5_40 fo5_4 (ly0 hL) (lr0_4 hL)).trans ?_
  exact at_inv dc107_29 mc107 lm5_112 rfl rfl (Nat.le_of_ble_eq_true rfl) (Or.inl ⟨(ly21 hL), by decide⟩)
theorem b107_32 {X : pm_X} {d : Nat} {x1 : Int32} {x2 : Int32} {x3 : Int32} {g : pm_G} {iv : pm_V} (hL : pm_lay g) : pm_at X d 107 (32, [some (.ref 0), some (.int x1), some (.int x2), some (.int x3)], [], g, iv) = pm_then X d 107 37 [some (.ref 0), some (.int x1), some (.int x2), some (.int x3)] [] (pm_c X d 126 [.ref 0, .int x3] g iv) := by
  refine (at_aload_n dc107_32 rfl).trans ?_
  refine (at_iload_n dc107_33 rfl).trans ?_
  exact at_inv dc107_34 mc107 lm5_181 rfl rfl (Nat.le_of_ble_eq_true rfl) (Or.inl ⟨(ly0 hL), by decide⟩)
theorem b107_37 {X : pm_X} {d : Nat} {x1 : Int32} {x2 : Int32} {x3 : Int32} {g : pm_G} {iv : pm_V} (hL : pm_lay g) : pm_at X d 107 (37, [some (.ref 0), some (.int x1), some (.int x2), some (.int x3)], [], g, iv) = pm_then X d 107 46 [some (.ref 0), some (.int x1), some (.int x2), some (.int x3)] [] (pm_c X d 48 [.ref 21, .int x1, .int x2] g iv) := by
  refine (at_aload_n dc107_37 rfl).trans ?_
  refine (at_gfR dc107_38 mc107 lf5_44 fo5_5 (ly0 hL) (lr0_5 hL)).trans ?_
  refine (at_iload_n dc107_41 rfl).trans ?_
  refine (at_iload_n dc107_42 rfl).trans ?_
  exact at_inv dc107_43 mc107 lm5_192 rfl rfl (Nat.le_of_ble_eq_true rfl) (Or.inl ⟨(ly21 hL), by decide⟩)
theorem b107_46 {X : pm_X} {d : Nat} {x1 : Int32} {x2 : Int32} {x3 : Int32} {s0 : Int32} {g : pm_G} {iv : pm_V}  : pm_at X d 107 (46, [some (.ref 0), some (.int x1), some (.int x2), some (.int x3)], [.int s0], g, iv) = if s0 = 0 then pm_at X d 107 (53, [some (.ref 0), some (.int x1), some (.int x2), some (.int x3)], [], g, iv) else pm_at X d 107 (49, [some (.ref 0), some (.int x1), some (.int x2), some (.int x3)], [], g, iv) := by
  exact at_if_eq (t := 53) dc107_46 (by decide)
theorem b107_49 {X : pm_X} {d : Nat} {x1 : Int32} {x2 : Int32} {x3 : Int32} {g : pm_G} {iv : pm_V}  : pm_at X d 107 (49, [some (.ref 0), some (.int x1), some (.int x2), some (.int x3)], [], g, iv) = pm_at X d 107 (54, [some (.ref 0), some (.int x1), some (.int x2), some (.int x3)], [.int 1], g, iv) := by
  refine (at_iconst (v := 1) dc107_49 rfl).trans ?_
  refine (at_goto (t := 54) dc107_50 (by decide)).trans ?_
  rfl
theorem b107_53 {X : pm_X} {d : Nat} {x1 : Int32} {x2 : Int32} {x3 : Int32} {g : pm_G} {iv : pm_V}  : pm_at X d 107 (53, [some (.ref 0), some (.int x1), some (.int x2), some (.int x3)], [], g, iv) = pm_at X d 107 (54, [some (.ref 0), some (.int x1), some (.int x2), some (.int x3)], [.int 0], g, iv) := by
  refine (at_iconst (v := 0) dc107_53 rfl).trans ?_
  rfl
theorem b107_54 {X : pm_X} {d : Nat} {x1 : Int32} {x2 : Int32} {x3 : Int32} {s0 : Int32} {g : pm_G} {iv : pm_V}  : pm_at X d 107 (54, [some (.ref 0), some (.int x1), some (.int x2), some (.int x3)], [.int s0], g, iv) = some (some (.int s0), g, iv) := by
  exact at_iret dc107_54 mr107
-- HH.meet (IIII)I
theorem dc108_0 : decode (pm_mb 108) 0 = .ok (.aload_n 0, 1) := by decide +kernel
theorem dc108_1 : decode (pm_mb 108) 1 = .ok (.iload_n 1, 1) := by decide +kernel
theorem dc108_2 : decode (pm_mb 108) 2 = .ok (.iload_n 2, 1) := by decide +kernel
theorem dc108_3 : decode (pm_mb 108) 3 = .ok (.invokevirtual 189, 3) := by decide +kernel
theorem dc108_6 : decode (pm_mb 108) 6 = .ok (.ifCond .eq 21, 3) := by decide +kernel
theorem dc108_9 : decode (pm_mb 108) 9 = .ok (.iload_n 3, 1) := by decide +kernel
theorem dc108_10 : decode (pm_mb 108) 10 = .ok (.bipush 20, 2) := by decide +kernel
theorem dc108_12 : decode (pm_mb 108) 12 = .ok (.invokestatic 55, 3) := by decide +kernel
theorem dc108_15 : decode (pm_mb 108) 15 = .ok (.ifCond .eq 12, 3) := by decide +kernel
theorem dc108_18 : decode (pm_mb 108) 18 = .ok (.iload 4, 2) := by decide +kernel
theorem dc108_20 : decode (pm_mb 108) 20 = .ok (.iconst 1, 1) := by decide +kernel
theorem dc108_21 : decode (pm_mb 108) 21 = .ok (.invokestatic 55, 3) := by decide +kernel
theorem dc108_24 : decode (pm_mb 108) 24 = .ok (.ifCond .ne 6, 3) := by decide +kernel
theorem dc108_27 : decode (pm_mb 108) 27 = .ok (.ldc 59, 2) := by decide +kernel
theorem dc108_29 : decode (pm_mb 108) 29 = .ok (.ireturn, 1) := by decide +kernel
theorem dc108_30 : decode (pm_mb 108) 30 = .ok (.iconst 0, 1) := by decide +kernel
theorem dc108_31 : decode (pm_mb 108) 31 = .ok (.istore 5, 2) := by decide +kernel
theorem dc108_33 : decode (pm_mb 108) 33 = .ok (.iload 5, 2) := by decide +kernel
theorem dc108_35 : decode (pm_mb 108) 35 = .ok (.iconst 2, 1) := by decide +kernel
theorem dc108_36 : decode (pm_mb 108) 36 = .ok (.iload_n 3, 1) := by decide +kernel
theorem dc108_37 : decode (pm_mb 108) 37 = .ok (.imul, 1) := by decide +kernel
theorem dc108_38 : decode (pm_mb 108) 38 = .ok (.if_icmp .gt 67, 3) := by decide +kernel
theorem dc108_41 : decode (pm_mb 108) 41 = .ok (.iload 5, 2) := by decide +kernel
theorem dc108_43 : decode (pm_mb 108) 43 = .ok (.iload_n 3, 1) := by decide +kernel
theorem dc108_44 : decode (pm_mb 108) 44 = .ok (.invokestatic 195, 3) := by decide +kernel
theorem dc108_47 : decode (pm_mb 108) 47 = .ok (.istore 6, 2) := by decide +kernel
theorem dc108_49 : decode (pm_mb 108) 49 = .ok (.iload 5, 2) := by decide +kernel
theorem dc108_51 : decode (pm_mb 108) 51 = .ok (.iload 6, 2) := by decide +kernel
theorem dc108_53 : decode (pm_mb 108) 53 = .ok (.isub, 1) := by decide +kernel
theorem dc108_54 : decode (pm_mb 108) 54 = .ok (.istore 7, 2) := by decide +kernel
theorem dc108_56 : decode (pm_mb 108) 56 = .ok (.iload 7, 2) := by decide +kernel
theorem dc108_58 : decode (pm_mb 108) 58 = .ok (.iload 6, 2) := by decide +kernel
theorem dc108_60 : decode (pm_mb 108) 60 = .ok (.if_icmp .gt 39, 3) := by decide +kernel
theorem dc108_63 : decode (pm_mb 108) 63 = .ok (.aload_n 0, 1) := by decide +kernel
theorem dc108_64 : decode (pm_mb 108) 64 = .ok (.iload_n 1, 1) := by decide +kernel
theorem dc108_65 : decode (pm_mb 108) 65 = .ok (.iload 7, 2) := by decide +kernel
theorem dc108_67 : decode (pm_mb 108) 67 = .ok (.iload_n 2, 1) := by decide +kernel
theorem dc108_68 : decode (pm_mb 108) 68 = .ok (.iload 5, 2) := by decide +kernel
theorem dc108_70 : decode (pm_mb 108) 70 = .ok (.iload 7, 2) := by decide +kernel
theorem dc108_72 : decode (pm_mb 108) 72 = .ok (.isub, 1) := by decide +kernel
theorem dc108_73 : decode (pm_mb 108) 73 = .ok (.iload_n 3, 1) := by decide +kernel
theorem dc108_74 : decode (pm_mb 108) 74 = .ok (.invokevirtual 200, 3) := by decide +kernel
theorem dc108_77 : decode (pm_mb 108) 77 = .ok (.ifCond .eq 16, 3) := by decide +kernel
theorem dc108_80 : decode (pm_mb 108) 80 = .ok (.iload 4, 2) := by decide +kernel
theorem dc108_82 : decode (pm_mb 108) 82 = .ok (.ifCond .ne 8, 3) := by decide +kernel
theorem dc108_85 : decode (pm_mb 108) 85 = .ok (.iload 5, 2) := by decide +kernel
theorem dc108_87 : decode (pm_mb 108) 87 = .ok (.goto 5, 3) := by decide +kernel
theorem dc108_90 : decode (pm_mb 108) 90 = .ok (.iload 7, 2) := by decide +kernel
theorem dc108_92 : decode (pm_mb 108) 92 = .ok (.ireturn, 1) := by decide +kernel
theorem dc108_93 : decode (pm_mb 108) 93 = .ok (.iinc 7 1, 3) := by decide +kernel
theorem dc108_96 : decode (pm_mb 108) 96 = .ok (.goto (-40), 3) := by decide +kernel
theorem dc108_99 : decode (pm_mb 108) 99 = .ok (.iinc 5 1, 3) := by decide +kernel
theorem dc108_102 : decode (pm_mb 108) 102 = .ok (.goto (-69), 3) := by decide +kernel
theorem dc108_105 : decode (pm_mb 108) 105 = .ok (.ldc 188, 2) := by decide +kernel
theorem dc108_107 : decode (pm_mb 108) 107 = .ok (.ireturn, 1) := by decide +kernel
theorem b108_0 {X : pm_X} {d : Nat} {x1 : Int32} {x2 : Int32} {x3 : Int32} {x4 : Int32} {g : pm_G} {iv : pm_V} (hL : pm_lay g) : pm_at X d 108 (0, [some (.ref 0), some (.int x1), some (.int x2), some (.int x3), some (.int x4), none, none, none], [], g, iv) = pm_then X d 108 6 [some (.ref 0), some (.int x1), some (.int x2), some (.int x3), some (.int x4), none, none, none] [] (pm_c X d 122 [.ref 0, .int x1, .int x2] g iv) := by
  refine (at_aload_n dc108_0 rfl).trans ?_
  refine (at_iload_n dc108_1 rfl).trans ?_
  refine (at_iload_n dc108_2 rfl).trans ?_
  exact at_inv dc108_3 mc108 lm5_189 rfl rfl (Nat.le_of_ble_eq_true rfl) (Or.inl ⟨(ly0 hL), by decide⟩)
theorem b108_6 {X : pm_X} {d : Nat} {x1 : Int32} {x2 : Int32} {x3 : Int32} {x4 : Int32} {s0 : Int32} {g : pm_G} {iv : pm_V}  : pm_at X d 108 (6, [some (.ref 0), some (.int x1), some (.int x2), some (.int x3), some (.int x4), none, none, none], [.int s0], g, iv) = if s0 = 0 then pm_at X d 108 (27, [some (.ref 0), some (.int x1), some (.int x2), some (.int x3), some (.int x4), none, none, none], [], g, iv) else pm_at X d 108 (9, [some (.ref 0), some (.int x1), some (.int x2), some (.int x3), some (.int x4), none, none, none], [], g, iv) := by
  exact at_if_eq (t := 27) dc108_6 (by decide)
theorem b108_9 {X : pm_X} {d : Nat} {x1 : Int32} {x2 : Int32} {x3 : Int32} {x4 : Int32} {g : pm_G} {iv : pm_V}  : pm_at X d 108 (9, [some (.ref 0), some (.int x1), some (.int x2), some (.int x3), some (.int x4), none, none, none], [], g, iv) = pm_then X d 108 15 [some (.ref 0), some (.int x1), some (.int x2), some (.int x3), some (.int x4), none, none, none] [] (pm_c X d 120 [.int x3, .int 20] g iv) := by
  refine (at_iload_n dc108_9 rfl).trans ?_
  refine (at_bipush (v := 20) dc108_10 (by decide)).trans ?_
  exact at_ins dc108_12 mc108 lm5_55 (Nat.le_of_ble_eq_true rfl) rfl rfl (Nat.le_of_ble_eq_true rfl)
theorem b108_15 {X : pm_X} {d : Nat} {x1 : Int32} {x2 : Int32} {x3 : Int32} {x4 : Int32} {s0 : Int32} {g : pm_G} {iv : pm_V}  : pm_at X d 108 (15, [some (.ref 0), some (.int x1), some (.int x2), some (.int x3), some (.int x4), none, none, none], [.int s0], g, iv) = if s0 = 0 then pm_at X d 108 (27, [some (.ref 0), some (.int x1), some (.int x2), some (.int x3), some (.int x4), none, none, none], [], g, iv) else pm_at X d 108 (18, [some (.ref 0), some (.int x1), some (.int x2), some (.int x3), some (.int x4), none, none, none], [], g, iv) := by
  exact at_if_eq (t := 27) dc108_15 (by decide)
theorem b108_18 {X : pm_X} {d : Nat} {x1 : Int32} {x2 : Int32} {x3 : Int32} {x4 : Int32} {g : pm_G} {iv : pm_V}  : pm_at X d 108 (18, [some (.ref 0), some (.int x1), some (.int x2), some (.int x3), some (.int x4), none, none, none], [], g, iv) = pm_then X d 108 24 [some (.ref 0), some (.int x1), some (.int x2), some (.int x3), some (.int x4), none, none, none] [] (pm_c X d 120 [.int x4, .int 1] g iv) := by
  refine (at_iload dc108_18 rfl).trans ?_
  refine (at_iconst (v := 1) dc108_20 rfl).trans ?_
  exact at_ins dc108_21 mc108 lm5_55 (Nat.le_of_ble_eq_true rfl) rfl rfl (Nat.le_of_ble_eq_true rfl)
theorem b108_24 {X : pm_X} {d : Nat} {x1 : Int32} {x2 : Int32} {x3 : Int32} {x4 : Int32} {s0 : Int32} {g : pm_G} {iv : pm_V}  : pm_at X d 108 (24, [some (.ref 0), some (.int x1), some (.int x2), some (.int x3), some (.int x4), none, none, none], [.int s0], g, iv) = if ¬ s0 = 0 then pm_at X d 108 (30, [some (.ref 0), some (.int x1), some (.int x2), some (.int x3), some (.int x4), none, none, none], [], g, iv) else pm_at X d 108 (27, [some (.ref 0), some (.int x1), some (.int x2), some (.int x3), some (.int x4), none, none, none], [], g, iv) := by
  exact at_if_ne (t := 30) dc108_24 (by decide)
theorem b108_27 {X : pm_X} {d : Nat} {x1 : Int32} {x2 : Int32} {x3 : Int32} {x4 : Int32} {g : pm_G} {iv : pm_V}  : pm_at X d 108 (27, [some (.ref 0), some (.int x1), some (.int x2), some (.int x3), some (.int x4), none, none, none], [], g, iv) = some (some (.int (-1000001)), g, iv) := by
  refine (at_ldc dc108_27 mc108 lk5_59).trans ?_
  exact at_iret dc108_29 mr108
theorem b108_30 {X : pm_X} {d : Nat} {x1 : Int32} {x2 : Int32} {x3 : Int32} {x4 : Int32} {g : pm_G} {iv : pm_V}  : pm_at X d 108 (30, [some (.ref 0), some (.int x1), some (.int x2), some (.int x3), some (.int x4), none, none, none], [], g, iv) = pm_at X d 108 (33, [some (.ref 0), some (.int x1), some (.int x2), some (.int x3), some (.int x4), some (.int 0), none, none], [], g, iv) := by
  refine (at_iconst (v := 0) dc108_30 rfl).trans ?_
  refine (at_istore dc108_31 rfl).trans ?_
  rfl
theorem b108_33 {X : pm_X} {d : Nat} {x1 : Int32} {x2 : Int32} {x3 : Int32} {x4 : Int32} {x5 : Int32} {z6 : Option Value} {z7 : Option Value} {g : pm_G} {iv : pm_V}  : pm_at X d 108 (33, [some (.ref 0), some (.int x1), some (.int x2), some (.int x3), some (.int x4), some (.int x5), z6, z7], [], g, iv) = if (2 * x3) < x5 then pm_at X d 108 (105, [some (.ref 0), some (.int x1), some (.int x2), some (.int x3), some (.int x4), some (.int x5), z6, z7], [], g, iv) else pm_at X d 108 (41, [some (.ref 0), some (.int x1), some (.int x2), some (.int x3), some (.int x4), some (.int x5), z6, z7], [], g, iv) := by
  refine (at_iload dc108_33 rfl).trans ?_
  refine (at_iconst (v := 2) dc108_35 rfl).trans ?_
  refine (at_iload_n dc108_36 rfl).trans ?_
  refine (at_imul dc108_37).trans ?_
  exact at_icmp_gt (t := 105) dc108_38 (by decide)
theorem b108_41 {X : pm_X} {d : Nat} {x1 : Int32} {x2 : Int32} {x3 : Int32} {x4 : Int32} {x5 : Int32} {z6 : Option Value} {z7 : Option Value} {g : pm_G} {iv : pm_V}  : pm_at X d 108 (41, [some (.ref 0), some (.int x1), some (.int x2), some (.int x3), some (.int x4), some (.int x5), z6, z7], [], g, iv) = pm_at X d 108 (56, [some (.ref 0), some (.int x1), some (.int x2), some (.int x3), some (.int x4), some (.int x5), some (.int (if x3 < x5 then x3 else x5)), some (.int (x5 - (if x3 < x5 then x3 else x5)))], [], g, iv) := by
  refine (at_iload dc108_41 rfl).trans ?_
  refine (at_iload_n dc108_43 rfl).trans ?_
  refine (at_mmin dc108_44 mc108 lm5_195 (Nat.le_of_ble_eq_true rfl)).trans ?_
  refine (at_istore dc108_47 rfl).trans ?_
  refine (at_iload dc108_49 rfl).trans ?_
  refine (at_iload dc108_51 rfl).trans ?_
  refine (at_isub dc108_53).trans ?_
  refine (at_istore dc108_54 rfl).trans ?_
  rfl
theorem b108_56 {X : pm_X} {d : Nat} {x1 : Int32} {x2 : Int32} {x3 : Int32} {x4 : Int32} {x5 : Int32} {x6 : Int32} {x7 : Int32} {g : pm_G} {iv : pm_V}  : pm_at X d 108 (56, [some (.ref 0), some (.int x1), some (.int x2), some (.int x3), some (.int x4), some (.int x5), some (.int x6), some (.int x7)], [], g, iv) = if x6 < x7 then pm_at X d 108 (99, [some (.ref 0), some (.int x1), some (.int x2), some (.int x3), some (.int x4), some (.int x5), some (.int x6), some (.int x7)], [], g, iv) else pm_at X d 108 (63, [some (.ref 0), some (.int x1), some (.int x2), some (.int x3), some (.int x4), some (.int x5), some (.int x6), some (.int x7)], [], g, iv) := by
  refine (at_iload dc108_56 rfl).trans ?_
  refine (at_iload dc108_58 rfl).trans ?_
  exact at_icmp_gt (t := 99) dc108_60 (by decide)
theorem b108_63 {X : pm_X} {d : Nat} {x1 : Int32} {x2 : Int32} {x3 : Int32} {x4 : Int32} {x5 : Int32} {x6 : Int32} {x7 : Int32} {g : pm_G} {iv : pm_V} (hL : pm_lay g) : pm_at X d 108 (63, [some (.ref 0), some (.int x1), some (.int x2), some (.int x3), some (.int x4), some (.int x5), some (.int x6), some (.int x7)], [], g, iv) = pm_then X d 108 77 [some (.ref 0), some (.int x1), some (.int x2), some (.int x3), some (.int x4), some (.int x5), some (.int x6), some (.int x7)] [] (pm_c X d 127 [.ref 0, .int x1, .int x7, .int x2, .int (x5 - x7), .int x3] g iv) := by
  refine (at_aload_n dc108_63 rfl).trans ?_
  refine (at_iload_n dc108_64 rfl).trans ?_
  refine (at_iload dc108_65 rfl).trans ?_
  refine (at_iload_n dc108_67 rfl).trans ?_
  refine (at_iload dc108_68 rfl).trans ?_
  refine (at_iload dc108_70 rfl).trans ?_
  refine (at_isub dc108_72).trans ?_
  refine (at_iload_n dc108_73 rfl).trans ?_
  exact at_inv dc108_74 mc108 lm5_200 rfl rfl (Nat.le_of_ble_eq_true rfl) (Or.inl ⟨(ly0 hL), by decide⟩)
theorem b108_77 {X : pm_X} {d : Nat} {x1 : Int32} {x2 : Int32} {x3 : Int32} {x4 : Int32} {x5 : Int32} {x6 : Int32} {x7 : Int32} {s0 : Int32} {g : pm_G} {iv : pm_V}  : pm_at X d 108 (77, [some (.ref 0), some (.int x1), some (.int x2), some (.int x3), some (.int x4), some (.int x5), some (.int x6), some (.int x7)], [.int s0], g, iv) = if s0 = 0 then pm_at X d 108 (93, [some (.ref 0), some (.int x1), some (.int x2), some (.int x3), some (.int x4), some (.int x5), some (.int x6), some (.int x7)], [], g, iv) else pm_at X d 108 (80, [some (.ref 0), some (.int x1), some (.int x2), some (.int x3), some (.int x4), some (.int x5), some (.int x6), some (.int x7)], [], g, iv) := by
  exact at_if_eq (t := 93) dc108_77 (by decide)
theorem b108_80 {X : pm_X} {d : Nat} {x1 : Int32} {x2 : Int32} {x3 : Int32} {x4 : Int32} {x5 : Int32} {x6 : Int32} {x7 : Int32} {g : pm_G} {iv : pm_V}  : pm_at X d 108 (80, [some (.ref 0), some (.int x1), some (.int x2), some (.int x3), some (.int x4), some (.int x5), some (.int x6), some (.int x7)], [], g, iv) = if ¬ x4 = 0 then pm_at X d 108 (90, [some (.ref 0), some (.int x1), some (.int x2), some (.int x3), some (.int x4), some (.int x5), some (.int x6), some (.int x7)], [], g, iv) else pm_at X d 108 (85, [some (.ref 0), some (.int x1), some (.int x2), some (.int x3), some (.int x4), some (.int x5), some (.int x6), some (.int x7)], [], g, iv) := by
  refine (at_iload dc108_80 rfl).trans ?_
  exact at_if_ne (t := 90) dc108_82 (by decide)
theorem b108_85 {X : pm_X} {d : Nat} {x1 : Int32} {x2 : Int32} {x3 : Int32} {x4 : Int32} {x5 : Int32} {x6 : Int32} {x7 : Int32} {g : pm_G} {iv : pm_V}  : pm_at X d 108 (85, [some (.ref 0), some (.int x1), some (.int x2), some (.int x3), some (.int x4), some (.int x5), some (.int x6), some (.int x7)], [], g, iv) = pm_at X d 108 (92, [some (.ref 0), some (.int x1), some (.int x2), some (.int x3), some (.int x4), some (.int x5), some (.int x6), some (.int x7)], [.int x5], g, iv) := by
  refine (at_iload dc108_85 rfl).trans ?_
  refine (at_goto (t := 92) dc108_87 (by decide)).trans ?_
  rfl
theorem b108_90 {X : pm_X} {d : Nat} {x1 : Int32} {x2 : Int32} {x3 : Int32} {x4 : Int32} {x5 : Int32} {x6 : Int32} {x7 : Int32} {g : pm_G} {iv : pm_V}  : pm_at X d 108 (90, [some (.ref 0), some (.int x1), some (.int x2), some (.int x3), some (.int x4), some (.int x5), some (.int x6), some (.int x7)], [], g, iv) = pm_at X d 108 (92, [some (.ref 0), some (.int x1), some (.int x2), some (.int x3), some (.int x4), some (.int x5), some (.int x6), some (.int x7)], [.int x7], g, iv) := by
  refine (at_iload dc108_90 rfl).trans ?_
  rfl
theorem b108_92 {X : pm_X} {d : Nat} {x1 : Int32} {x2 : Int32} {x3 : Int32} {x4 : Int32} {x5 : Int32} {x6 : Int32} {x7 : Int32} {s0 : Int32} {g : pm_G} {iv : pm_V}  : pm_at X d 108 (92, [some (.ref 0), some (.int x1), some (.int x2), some (.int x3), some (.int x4), some (.int x5), some (.int x6), some (.int x7)], [.int s0], g, iv) = some (some (.int s0), g, iv) := by
  exact at_iret dc108_92 mr108
theorem b108_93 {X : pm_X} {d : Nat} {x1 : Int32} {x2 : Int32} {x3 : Int32} {x4 : Int32} {x5 : Int32} {x6 : Int32} {x7 : Int32} {g : pm_G} {iv : pm_V}  : pm_at X d 108 (93, [some (.ref 0), some (.int x1), some (.int x2), some (.int x3), some (.int x4), some (.int x5), some (.int x6), some (.int x7)], [], g, iv) = pm_at X d 108 (56, [some (.ref 0), some (.int x1), some (.int x2), some (.int x3), some (.int x4), some (.int x5), some (.int x6), some (.int (x7 + 1))], [], g, iv) := by
  refine (at_iinc (v := 1) dc108_93 rfl (by decide) rfl).trans ?_
  refine (at_goto (t := 56) dc108_96 (by decide)).trans ?_
  rfl
theorem b108_99 {X : pm_X} {d : Nat} {x1 : Int32} {x2 : Int32} {x3 : Int32} {x4 : Int32} {x5 : Int32} {x6 : Int32} {x7 : Int32} {g : pm_G} {iv : pm_V}  : pm_at X d 108 (99, [some (.ref 0), some (.int x1), some (.int x2), some (.int x3), some (.int x4), some (.int x5), some (.int x6), some (.int x7)], [], g, iv) = pm_at X d 108 (33, [some (.ref 0), some (.int x1), some (.int x2), some (.int x3), some (.int x4), some (.int (x5 + 1)), some (.int x6), some (.int x7)], [], g, iv) := by
  refine (at_iinc (v := 1) dc108_99 rfl (by decide) rfl).trans ?_
  refine (at_goto (t := 33) dc108_102 (by decide)).trans ?_
  rfl
theorem b108_105 {X : pm_X} {d : Nat} {x1 : Int32} {x2 : Int32} {x3 : Int32} {x4 : Int32} {x5 : Int32} {z6 : Option Value} {z7 : Option Value} {g : pm_G} {iv : pm_V}  : pm_at X d 108 (105, [some (.ref 0), some (.int x1), some (.int x2), some (.int x3), some (.int x4), some (.int x5), z6, z7], [], g, iv) = some (some (.int (-1000000)), g, iv) := by
  refine (at_ldc dc108_105 mc108 lk5_188).trans ?_
  exact at_iret dc108_107 mr108
-- HH.street (I)I
theorem dc109_0 : decode (pm_mb 109) 0 = .ok (.aload_n 0, 1) := by decide +kernel
theorem dc109_1 : decode (pm_mb 109) 1 = .ok (.getfield 40, 3) := by decide +kernel
theorem dc109_4 : decode (pm_mb 109) 4 = .ok (.iload_n 1, 1) := by decide +kernel
theorem dc109_5 : decode (pm_mb 109) 5 = .ok (.invokevirtual 139, 3) := by decide +kernel
theorem dc109_8 : decode (pm_mb 109) 8 = .ok (.ifCond .eq 14, 3) := by decide +kernel
theorem dc109_11 : decode (pm_mb 109) 11 = .ok (.aload_n 0, 1) := by decide +kernel
theorem dc109_12 : decode (pm_mb 109) 12 = .ok (.getfield 40, 3) := by decide +kernel
theorem dc109_15 : decode (pm_mb 109) 15 = .ok (.iload_n 1, 1) := by decide +kernel
theorem dc109_16 : decode (pm_mb 109) 16 = .ok (.invokevirtual 204, 3) := by decide +kernel
theorem dc109_19 : decode (pm_mb 109) 19 = .ok (.goto 5, 3) := by decide +kernel
theorem dc109_22 : decode (pm_mb 109) 22 = .ok (.ldc 59, 2) := by decide +kernel
theorem dc109_24 : decode (pm_mb 109) 24 = .ok (.ireturn, 1) := by decide +kernel
theorem b109_0 {X : pm_X} {d : Nat} {x1 : Int32} {g : pm_G} {iv : pm_V} (hL : pm_lay g) : pm_at X d 109 (0, [some (.ref 0), some (.int x1)], [], g, iv) = pm_then X d 109 8 [some (.ref 0), some (.int x1)] [] (pm_c X d 35 [.ref 11, .int x1] g iv) := by
  refine (at_aload_n dc109_0 rfl).trans ?_
  refine (at_gfR dc109_1 mc109 lf5_40 fo5_4 (ly0 hL) (lr0_4 hL)).trans ?_
  refine (at_iload_n dc109_4 rfl).trans ?_
  exact at_inv dc109_5 mc109 lm5_139 rfl rfl (Nat.le_of_ble_eq_true rfl) (Or.inl ⟨(ly11 hL), by decide⟩)
theorem b109_8 {X : pm_X} {d : Nat} {x1 : Int32} {s0 : Int32} {g : pm_G} {iv : pm_V}  : pm_at X d 109 (8, [some (.ref 0), some (.int x1)], [.int s0], g, iv) = if s0 = 0 then pm_at X d 109 (22, [some (.ref 0), some (.int x1)], [], g, iv) else pm_at X d 109 (11, [some (.ref 0), some (.int x1)], [], g, iv) := by
  exact at_if_eq (t := 22) dc109_8 (by decide)
theorem b109_11 {X : pm_X} {d : Nat} {x1 : Int32} {g : pm_G} {iv : pm_V} (hL : pm_lay g) : pm_at X d 109 (11, [some (.ref 0), some (.int x1)], [], g, iv) = pm_then X d 109 19 [some (.ref 0), some (.int x1)] [] (pm_c X d 47 [.ref 11, .int x1] g iv) := by
  refine (at_aload_n dc109_11 rfl).trans ?_
  refine (at_gfR dc109_12 mc109 lf5_40 fo5_4 (ly0 hL) (lr0_4 hL)).trans ?_
  refine (at_iload_n dc109_15 rfl).trans ?_
  exact at_inv dc109_16 mc109 lm5_204 rfl rfl (Nat.le_of_ble_eq_true rfl) (Or.inl ⟨(ly11 hL), by decide⟩)
theorem b109_19 {X : pm_X} {d : Nat} {x1 : Int32} {s0 : Int32} {g : pm_G} {iv : pm_V}  : pm_at X d 109 (19, [some (.ref 0), some (.int x1)], [.int s0], g, iv) = pm_at X d 109 (24, [some (.ref 0), some (.int x1)], [.int s0], g, iv) := by
  refine (at_goto (t := 24) dc109_19 (by decide)).trans ?_
  rfl
theorem b109_22 {X : pm_X} {d : Nat} {x1 : Int32} {g : pm_G} {iv : pm_V}  : pm_at X d 109 (22, [some (.ref 0), some (.int x1)], [], g, iv) = pm_at X d 109 (24, [some (.ref 0), some (.int x1)], [.int (-1000001)], g, iv) := by
  refine (at_ldc dc109_22 mc109 lk5_59).trans ?_
  rfl
theorem b109_24 {X : pm_X} {d : Nat} {x1 : Int32} {s0 : Int32} {g : pm_G} {iv : pm_V}  : pm_at X d 109 (24, [some (.ref 0), some (.int x1)], [.int s0], g, iv) = some (some (.int s0), g, iv) := by
  exact at_iret dc109_24 mr109
-- HH.stood (III)I
theorem dc110_0 : decode (pm_mb 110) 0 = .ok (.aload_n 0, 1) := by decide +kernel
theorem dc110_1 : decode (pm_mb 110) 1 = .ok (.getfield 40, 3) := by decide +kernel
theorem dc110_4 : decode (pm_mb 110) 4 = .ok (.iload_n 1, 1) := by decide +kernel
theorem dc110_5 : decode (pm_mb 110) 5 = .ok (.invokevirtual 139, 3) := by decide +kernel
theorem dc110_8 : decode (pm_mb 110) 8 = .ok (.ifCond .eq 21, 3) := by decide +kernel
theorem dc110_11 : decode (pm_mb 110) 11 = .ok (.iload_n 2, 1) := by decide +kernel
theorem dc110_12 : decode (pm_mb 110) 12 = .ok (.bipush 40, 2) := by decide +kernel
theorem dc110_14 : decode (pm_mb 110) 14 = .ok (.invokestatic 55, 3) := by decide +kernel
theorem dc110_17 : decode (pm_mb 110) 17 = .ok (.ifCond .eq 12, 3) := by decide +kernel
theorem dc110_20 : decode (pm_mb 110) 20 = .ok (.iload_n 3, 1) := by decide +kernel
theorem dc110_21 : decode (pm_mb 110) 21 = .ok (.bipush 40, 2) := by decide +kernel
theorem dc110_23 : decode (pm_mb 110) 23 = .ok (.invokestatic 55, 3) := by decide +kernel
theorem dc110_26 : decode (pm_mb 110) 26 = .ok (.ifCond .ne 6, 3) := by decide +kernel
theorem dc110_29 : decode (pm_mb 110) 29 = .ok (.ldc 59, 2) := by decide +kernel
theorem dc110_31 : decode (pm_mb 110) 31 = .ok (.ireturn, 1) := by decide +kernel
theorem dc110_32 : decode (pm_mb 110) 32 = .ok (.aload_n 0, 1) := by decide +kernel
theorem dc110_33 : decode (pm_mb 110) 33 = .ok (.getfield 44, 3) := by decide +kernel
theorem dc110_36 : decode (pm_mb 110) 36 = .ok (.aload_n 0, 1) := by decide +kernel
theorem dc110_37 : decode (pm_mb 110) 37 = .ok (.getfield 40, 3) := by decide +kernel
theorem dc110_40 : decode (pm_mb 110) 40 = .ok (.invokevirtual 112, 3) := by decide +kernel
theorem dc110_43 : decode (pm_mb 110) 43 = .ok (.aload_n 0, 1) := by decide +kernel
theorem dc110_44 : decode (pm_mb 110) 44 = .ok (.getfield 44, 3) := by decide +kernel
theorem dc110_47 : decode (pm_mb 110) 47 = .ok (.iload_n 1, 1) := by decide +kernel
theorem dc110_48 : decode (pm_mb 110) 48 = .ok (.invokevirtual 207, 3) := by decide +kernel
theorem dc110_51 : decode (pm_mb 110) 51 = .ok (.iconst 0, 1) := by decide +kernel
theorem dc110_52 : decode (pm_mb 110) 52 = .ok (.istore 4, 2) := by decide +kernel
theorem dc110_54 : decode (pm_mb 110) 54 = .ok (.iconst 0, 1) := by decide +kernel
theorem dc110_55 : decode (pm_mb 110) 55 = .ok (.istore 5, 2) := by decide +kernel
theorem dc110_57 : decode (pm_mb 110) 57 = .ok (.iload 5, 2) := by decide +kernel
theorem dc110_59 : decode (pm_mb 110) 59 = .ok (.bipush 20, 2) := by decide +kernel
theorem dc110_61 : decode (pm_mb 110) 61 = .ok (.if_icmp .ge 87, 3) := by decide +kernel
theorem dc110_64 : decode (pm_mb 110) 64 = .ok (.aload_n 0, 1) := by decide +kernel
theorem dc110_65 : decode (pm_mb 110) 65 = .ok (.getfield 40, 3) := by decide +kernel
theorem dc110_68 : decode (pm_mb 110) 68 = .ok (.iload 5, 2) := by decide +kernel
theorem dc110_70 : decode (pm_mb 110) 70 = .ok (.invokevirtual 178, 3) := by decide +kernel
theorem dc110_73 : decode (pm_mb 110) 73 = .ok (.ifCond .eq 75, 3) := by decide +kernel
theorem dc110_76 : decode (pm_mb 110) 76 = .ok (.aload_n 0, 1) := by decide +kernel
theorem dc110_77 : decode (pm_mb 110) 77 = .ok (.getfield 40, 3) := by decide +kernel
theorem dc110_80 : decode (pm_mb 110) 80 = .ok (.aload_n 0, 1) := by decide +kernel
theorem dc110_81 : decode (pm_mb 110) 81 = .ok (.getfield 40, 3) := by decide +kernel
theorem dc110_84 : decode (pm_mb 110) 84 = .ok (.iload_n 1, 1) := by decide +kernel
theorem dc110_85 : decode (pm_mb 110) 85 = .ok (.invokevirtual 162, 3) := by decide +kernel
theorem dc110_88 : decode (pm_mb 110) 88 = .ok (.iload 5, 2) := by decide +kernel
theorem dc110_90 : decode (pm_mb 110) 90 = .ok (.invokevirtual 210, 3) := by decide +kernel
theorem dc110_93 : decode (pm_mb 110) 93 = .ok (.ifCond .eq 6, 3) := by decide +kernel
theorem dc110_96 : decode (pm_mb 110) 96 = .ok (.goto 46, 3) := by decide +kernel
theorem dc110_99 : decode (pm_mb 110) 99 = .ok (.aload_n 0, 1) := by decide +kernel
theorem dc110_100 : decode (pm_mb 110) 100 = .ok (.getfield 44, 3) := by decide +kernel
theorem dc110_103 : decode (pm_mb 110) 103 = .ok (.iload 5, 2) := by decide +kernel
theorem dc110_105 : decode (pm_mb 110) 105 = .ok (.iload_n 2, 1) := by decide +kernel
theorem dc110_106 : decode (pm_mb 110) 106 = .ok (.invokevirtual 213, 3) := by decide +kernel
theorem dc110_109 : decode (pm_mb 110) 109 = .ok (.aload_n 0, 1) := by decide +kernel
theorem dc110_110 : decode (pm_mb 110) 110 = .ok (.iload_n 3, 1) := by decide +kernel
theorem dc110_111 : decode (pm_mb 110) 111 = .ok (.invokevirtual 181, 3) := by decide +kernel
theorem dc110_114 : decode (pm_mb 110) 114 = .ok (.aload_n 0, 1) := by decide +kernel
theorem dc110_115 : decode (pm_mb 110) 115 = .ok (.getfield 44, 3) := by decide +kernel
theorem dc110_118 : decode (pm_mb 110) 118 = .ok (.iconst 0, 1) := by decide +kernel
theorem dc110_119 : decode (pm_mb 110) 119 = .ok (.invokevirtual 163, 3) := by decide +kernel
theorem dc110_122 : decode (pm_mb 110) 122 = .ok (.aload_n 0, 1) := by decide +kernel
theorem dc110_123 : decode (pm_mb 110) 123 = .ok (.getfield 40, 3) := by decide +kernel
theorem dc110_126 : decode (pm_mb 110) 126 = .ok (.iload_n 1, 1) := by decide +kernel
theorem dc110_127 : decode (pm_mb 110) 127 = .ok (.invokevirtual 163, 3) := by decide +kernel
theorem dc110_130 : decode (pm_mb 110) 130 = .ok (.if_icmp .ne 12, 3) := by decide +kernel
theorem dc110_133 : decode (pm_mb 110) 133 = .ok (.iload 4, 2) := by decide +kernel
theorem dc110_135 : decode (pm_mb 110) 135 = .ok (.iconst 1, 1) := by decide +kernel
theorem dc110_136 : decode (pm_mb 110) 136 = .ok (.iload 5, 2) := by decide +kernel
theorem dc110_138 : decode (pm_mb 110) 138 = .ok (.ishl, 1) := by decide +kernel
theorem dc110_139 : decode (pm_mb 110) 139 = .ok (.ior, 1) := by decide +kernel
theorem dc110_140 : decode (pm_mb 110) 140 = .ok (.istore 4, 2) := by decide +kernel
theorem dc110_142 : decode (pm_mb 110) 142 = .ok (.iinc 5 1, 3) := by decide +kernel
theorem dc110_145 : decode (pm_mb 110) 145 = .ok (.goto (-88), 3) := by decide +kernel
theorem dc110_148 : decode (pm_mb 110) 148 = .ok (.iload 4, 2) := by decide +kernel
theorem dc110_150 : decode (pm_mb 110) 150 = .ok (.ireturn, 1) := by decide +kernel
theorem b110_0 {X : pm_X} {d : Nat} {x1 : Int32} {x2 : Int32} {x3 : Int32} {g : pm_G} {iv : pm_V} (hL : pm_lay g) : pm_at X d 110 (0, [some (.ref 0), some (.int x1), some (.int x2), some (.int x3), none, none], [], g, iv) = pm_then X d 110 8 [some (.ref 0), some (.int x1), some (.int x2), some (.int x3), none, none] [] (pm_c X d 35 [.ref 11, .int x1] g iv) := by
  refine (at_aload_n dc110_0 rfl).trans ?_
  refine (at_gfR dc110_1 mc110 lf5_40 fo5_4 (ly0 hL) (lr0_4 hL)).trans ?_
  refine (at_iload_n dc110_4 rfl).trans ?_
  exact at_inv dc110_5 mc110 lm5_139 rfl rfl (Nat.le_of_ble_eq_true rfl) (Or.inl ⟨(ly11 hL), by decide⟩)
theorem b110_8 {X : pm_X} {d : Nat} {x1 : Int32} {x2 : Int32} {x3 : Int32} {s0 : Int32} {g : pm_G} {iv : pm_V}  : pm_at X d 110 (8, [some (.ref 0), some (.int x1), some (.int x2), some (.int x3), none, none], [.int s0], g, iv) = if s0 = 0 then pm_at X d 110 (29, [some (.ref 0), some (.int x1), some (.int x2), some (.int x3), none, none], [], g, iv) else pm_at X d 110 (11, [some (.ref 0), some (.int x1), some (.int x2), some (.int x3), none, none], [], g, iv) := by
  exact at_if_eq (t := 29) dc110_8 (by decide)
theorem b110_11 {X : pm_X} {d : Nat} {x1 : Int32} {x2 : Int32} {x3 : Int32} {g : pm_G} {iv : pm_V}  : pm_at X d 110 (11, [some (.ref 0), some (.int x1), some (.int x2), some (.int x3), none, none], [], g, iv) = pm_then X d 110 17 [some (.ref 0), some (.int x1), some (.int x2), some (.int x3), none, none] [] (pm_c X d 120 [.int x2, .int 40] g iv) := by
  refine (at_iload_n dc110_11 rfl).trans ?_
  refine (at_bipush (v := 40) dc110_12 (by decide)).trans ?_
  exact at_ins dc110_14 mc110 lm5_55 (Nat.le_of_ble_eq_true rfl) rfl rfl (Nat.le_of_ble_eq_true rfl)
theorem b110_17 {X : pm_X} {d : Nat} {x1 : Int32} {x2 : Int32} {x3 : Int32} {s0 : Int32} {g : pm_G} {iv : pm_V}  : pm_at X d 110 (17, [some (.ref 0), some (.int x1), some (.int x2), some (.int x3), none, none], [.int s0], g, iv) = if s0 = 0 then pm_at X d 110 (29, [some (.ref 0), some (.int x1), some (.int x2), some (.int x3), none, none], [], g, iv) else pm_at X d 110 (20, [some (.ref 0), some (.int x1), some (.int x2), some (.int x3), none, none], [], g, iv) := by
  exact at_if_eq (t := 29) dc110_17 (by decide)
theorem b110_20 {X : pm_X} {d : Nat} {x1 : Int32} {x2 : Int32} {x3 : Int32} {g : pm_G} {iv : pm_V}  : pm_at X d 110 (20, [some (.ref 0), some (.int x1), some (.int x2), some (.int x3), none, none], [], g, iv) = pm_then X d 110 26 [some (.ref 0), some (.int x1), some (.int x2), some (.int x3), none, none] [] (pm_c X d 120 [.int x3, .int 40] g iv) := by
  refine (at_iload_n dc110_20 rfl).trans ?_
  refine (at_bipush (v := 40) dc110_21 (by decide)).trans ?_
  exact at_ins dc110_23 mc110 lm5_55 (Nat.le_of_ble_eq_true rfl) rfl rfl (Nat.le_of_ble_eq_true rfl)
theorem b110_26 {X : pm_X} {d : Nat} {x1 : Int32} {x2 : Int32} {x3 : Int32} {s0 : Int32} {g : pm_G} {iv : pm_V}  : pm_at X d 110 (26, [some (.ref 0), some (.int x1), some (.int x2), some (.int x3), none, none], [.int s0], g, iv) = if ¬ s0 = 0 then pm_at X d 110 (32, [some (.ref 0), some (.int x1), some (.int x2), some (.int x3), none, none], [], g, iv) else pm_at X d 110 (29, [some (.ref 0), some (.int x1), some (.int x2), some (.int x3), none, none], [], g, iv) := by
  exact at_if_ne (t := 32) dc110_26 (by decide)
theorem b110_29 {X : pm_X} {d : Nat} {x1 : Int32} {x2 : Int32} {x3 : Int32} {g : pm_G} {iv : pm_V}  : pm_at X d 110 (29, [some (.ref 0), some (.int x1), some (.int x2), some (.int x3), none, none], [], g, iv) = some (some (.int (-1000001)), g, iv) := by
  refine (at_ldc dc110_29 mc110 lk5_59).trans ?_
  exact at_iret dc110_31 mr110
theorem b110_32 {X : pm_X} {d : Nat} {x1 : Int32} {x2 : Int32} {x3 : Int32} {g : pm_G} {iv : pm_V} (hL : pm_lay g) : pm_at X d 110 (32, [some (.ref 0), some (.int x1), some (.int x2), some (.int x3), none, none], [], g, iv) = pm_then X d 110 43 [some (.ref 0), some (.int x1), some (.int x2), some (.int x3), none, none] [] (pm_c X d 52 [.ref 21, .ref 11] g iv) := by
  refine (at_aload_n dc110_32 rfl).trans ?_
  refine (at_gfR dc110_33 mc110 lf5_44 fo5_5 (ly0 hL) (lr0_5 hL)).trans ?_
  refine (at_aload_n dc110_36 rfl).trans ?_
  refine (at_gfR dc110_37 mc110 lf5_40 fo5_4 (ly0 hL) (lr0_4 hL)).trans ?_
  exact at_inv dc110_40 mc110 lm5_112 rfl rfl (Nat.le_of_ble_eq_true rfl) (Or.inl ⟨(ly21 hL), by decide⟩)
theorem b110_43 {X : pm_X} {d : Nat} {x1 : Int32} {x2 : Int32} {x3 : Int32} {g : pm_G} {iv : pm_V} (hL : pm_lay g) : pm_at X d 110 (43, [some (.ref 0), some (.int x1), some (.int x2), some (.int x3), none, none], [], g, iv) = pm_then X d 110 51 [some (.ref 0), some (.int x1), some (.int x2), some (.int x3), none, none] [] (pm_c X d 58 [.ref 21, .int x1] g iv) := by
  refine (at_aload_n dc110_43 rfl).trans ?_
  refine (at_gfR dc110_44 mc110 lf5_44 fo5_5 (ly0 hL) (lr0_5 hL)).trans ?_
  refine (at_iload_n dc110_47 rfl).trans ?_
  exact at_inv dc110_48 mc110 lm5_207 rfl rfl (Nat.le_of_ble_eq_true rfl) (Or.inl ⟨(ly21 hL), by decide⟩)
theorem b110_51 {X : pm_X} {d : Nat} {x1 : Int32} {x2 : Int32} {x3 : Int32} {g : pm_G} {iv : pm_V}  : pm_at X d 110 (51, [some (.ref 0), some (.int x1), some (.int x2), some (.int x3), none, none], [], g, iv) = pm_at X d 110 (57, [some (.ref 0), some (.int x1), some (.int x2), some (.int x3), some (.int 0), some (.int 0)], [], g, iv) := by
  refine (at_iconst (v := 0) dc110_51 rfl).trans ?_
  refine (at_istore dc110_52 rfl).trans ?_
  refine (at_iconst (v := 0) dc110_54 rfl).trans ?_
  refine (at_istore dc110_55 rfl).trans ?_
  rfl
theorem b110_57 {X : pm_X} {d : Nat} {x1 : Int32} {x2 : Int32} {x3 : Int32} {x4 : Int32} {x5 : Int32} {g : pm_G} {iv : pm_V}  : pm_at X d 110 (57, [some (.ref 0), some (.int x1), some (.int x2), some (.int x3), some (.int x4), some (.int x5)], [], g, iv) = if 20 ≤ x5 then pm_at X d 110 (148, [some (.ref 0), some (.int x1), some (.int x2), some (.int x3), some (.int x4), some (.int x5)], [], g, iv) else pm_at X d 110 (64, [some (.ref 0), some (.int x1), some (.int x2), some (.int x3), some (.int x4), some (.int x5)], [], g, iv) := by
  refine (at_iload dc110_57 rfl).trans ?_
  refine (at_bipush (v := 20) dc110_59 (by decide)).trans ?_
  exact at_icmp_ge (t := 148) dc110_61 (by decide)
theorem b110_64 {X : pm_X} {d : Nat} {x1 : Int32} {x2 : Int32} {x3 : Int32} {x4 : Int32} {x5 : Int32} {g : pm_G} {iv : pm_V} (hL : pm_lay g) : pm_at X d 110 (64, [some (.ref 0), some (.int x1), some (.int x2), some (.int x3), some (.int x4), some (.int x5)], [], g, iv) = pm_then X d 110 73 [some (.ref 0), some (.int x1), some (.int x2), some (.int x3), some (.int x4), some (.int x5)] [] (pm_c X d 34 [.ref 11, .int x5] g iv) := by
  refine (at_aload_n dc110_64 rfl).trans ?_
  refine (at_gfR dc110_65 mc110 lf5_40 fo5_4 (ly0 hL) (lr0_4 hL)).trans ?_
  refine (at_iload dc110_68 rfl).trans ?_
  exact at_inv dc110_70 mc110 lm5_178 rfl rfl (Nat.le_of_ble_eq_true rfl) (Or.inl ⟨(ly11 hL), by decide⟩)
theorem b110_73 {X : pm_X} {d : Nat} {x1 : Int32} {x2 : Int32} {x3 : Int32} {x4 : Int32} {x5 : Int32} {s0 : Int32} {g : pm_G} {iv : pm_V}  : pm_at X d 110 (73, [some (.ref 0), some (.int x1), some (.int x2), some (.int x3), some (.int x4), some (.int x5)], [.int s0], g, iv) = if s0 = 0 then pm_at X d 110 (148, [some (.ref 0), some (.int x1), some (.int x2), some (.int x3), some (.int x4), some (.int x5)], [], g, iv) else pm_at X d 110 (76, [some (.ref 0), some (.int x1), some (.int x2), some (.int x3), some (.int x4), some (.int x5)], [], g, iv) := by
  exact at_if_eq (t := 148) dc110_73 (by decide)
theorem b110_76 {X : pm_X} {d : Nat} {x1 : Int32} {x2 : Int32} {x3 : Int32} {x4 : Int32} {x5 : Int32} {g : pm_G} {iv : pm_V} (hL : pm_lay g) : pm_at X d 110 (76, [some (.ref 0), some (.int x1), some (.int x2), some (.int x3), some (.int x4), some (.int x5)], [], g, iv) = pm_then X d 110 88 [some (.ref 0), some (.int x1), some (.int x2), some (.int x3), some (.int x4), some (.int x5)] [.ref 11] (pm_c X d 38 [.ref 11, .int x1] g iv) := by
  refine (at_aload_n dc110_76 rfl).trans ?_
  refine (at_gfR dc110_77 mc110 lf5_40 fo5_4 (ly0 hL) (lr0_4 hL)).trans ?_
  refine (at_aload_n dc110_80 rfl).trans ?_
  refine (at_gfR dc110_81 mc110 lf5_40 fo5_4 (ly0 hL) (lr0_4 hL)).trans ?_
  refine (at_iload_n dc110_84 rfl).trans ?_
  exact at_inv dc110_85 mc110 lm5_162 rfl rfl (Nat.le_of_ble_eq_true rfl) (Or.inl ⟨(ly11 hL), by decide⟩)
theorem b110_88 {X : pm_X} {d : Nat} {x1 : Int32} {x2 : Int32} {x3 : Int32} {x4 : Int32} {x5 : Int32} {s0 : Int32} {g : pm_G} {iv : pm_V} (hL : pm_lay g) : pm_at X d 110 (88, [some (.ref 0), some (.int x1), some (.int x2), some (.int x3), some (.int x4), some (.int x5)], [.int s0, .ref 11], g, iv) = pm_then X d 110 93 [some (.ref 0), some (.int x1), some (.int x2), some (.int x3), some (.int x4), some (.int x5)] [] (pm_c X d 44 [.ref 11, .int s0, .int x5] g iv) := by
  refine (at_iload dc110_88 rfl).trans ?_
  exact at_inv dc110_90 mc110 lm5_210 rfl rfl (Nat.le_of_ble_eq_true rfl) (Or.inl ⟨(ly11 hL), by decide⟩)
theorem b110_93 {X : pm_X} {d : Nat} {x1 : Int32} {x2 : Int32} {x3 : Int32} {x4 : Int32} {x5 : Int32} {s0 : Int32} {g : pm_G} {iv : pm_V}  : pm_at X d 110 (93, [some (.ref 0), some (.int x1), some (.int x2), some (.int x3), some (.int x4), some (.int x5)], [.int s0], g, iv) = if s0 = 0 then pm_at X d 110 (99, [some (.ref 0), some (.int x1), some (.int x2), some (.int x3), some (.int x4), some (.int x5)], [], g, iv) else pm_at X d 110 (96, [some (.ref 0), some (.int x1), some (.int x2), some (.int x3), some (.int x4), some (.int x5)], [], g, iv) := by
  exact at_if_eq (t := 99) dc110_93 (by decide)
theorem b110_96 {X : pm_X} {d : Nat} {x1 : Int32} {x2 : Int32} {x3 : Int32} {x4 : Int32} {x5 : Int32} {g : pm_G} {iv : pm_V}  : pm_at X d 110 (96, [some (.ref 0), some (.int x1), some (.int x2), some (.int x3), some (.int x4), some (.int x5)], [], g, iv) = pm_at X d 110 (142, [some (.ref 0), some (.int x1), some (.int x2), some (.int x3), some (.int x4), some (.int x5)], [], g, iv) := by
  refine (at_goto (t := 142) dc110_96 (by decide)).trans ?_
  rfl
theorem b110_99 {X : pm_X} {d : Nat} {x1 : Int32} {x2 : Int32} {x3 : Int32} {x4 : Int32} {x5 : Int32} {g : pm_G} {iv : pm_V} (hL : pm_lay g) : pm_at X d 110 (99, [some (.ref 0), some (.int x1), some (.int x2), some (.int x3), some (.int x4), some (.int x5)], [], g, iv) = pm_then X d 110 109 [some (.ref 0), some (.int x1), some (.int x2), some (.int x3), some (.int x4), some (.int x5)] [] (pm_c X d 59 [.ref 21, .int x5, .int x2] g iv) := by
  refine (at_aload_n dc110_99 rfl).trans ?_
  refine (at_gfR dc110_100 mc110 lf5_44 fo5_5 (ly0 hL) (lr0_5 hL)).trans ?_
  refine (at_iload dc110_103 rfl).trans ?_
  refine (at_iload_n dc110_105 rfl).trans ?_
  exact at_inv dc110_106 mc110 lm5_213 rfl rfl (Nat.le_of_ble_eq_true rfl) (Or.inl ⟨(ly21 hL), by decide⟩)
theorem b110_109 {X : pm_X} {d : Nat} {x1 : Int32} {x2 : Int32} {x3 : Int32} {x4 : Int32} {x5 : Int32} {g : pm_G} {iv : pm_V} (hL : pm_lay g) : pm_at X d 110 (109, [some (.ref 0), some (.int x1), some (.int x2), some (.int x3), some (.int x4), some (.int x5)], [], g, iv) = pm_then X d 110 114 [some (.ref 0), some (.int x1), some (.int x2), some (.int x3), some (.int x4), some (.int x5)] [] (pm_c X d 126 [.ref 0, .int x3] g iv) := by
  refine (at_aload_n dc110_109 rfl).trans ?_
  refine (at_iload_n dc110_110 rfl).trans ?_
  exact at_inv dc110_111 mc110 lm5_181 rfl rfl (Nat.le_of_ble_eq_true rfl) (Or.inl ⟨(ly0 hL), by decide⟩)
theorem b110_114 {X : pm_X} {d : Nat} {x1 : Int32} {x2 : Int32} {x3 : Int32} {x4 : Int32} {x5 : Int32} {g : pm_G} {iv : pm_V} (hL : pm_lay g) : pm_at X d 110 (114, [some (.ref 0), some (.int x1), some (.int x2), some (.int x3), some (.int x4), some (.int x5)], [], g, iv) = pm_then X d 110 122 [some (.ref 0), some (.int x1), some (.int x2), some (.int x3), some (.int x4), some (.int x5)] [] (pm_c X d 39 [.ref 21, .int 0] g iv) := by
  refine (at_aload_n dc110_114 rfl).trans ?_
  refine (at_gfR dc110_115 mc110 lf5_44 fo5_5 (ly0 hL) (lr0_5 hL)).trans ?_
  refine (at_iconst (v := 0) dc110_118 rfl).trans ?_
  exact at_inv dc110_119 mc110 lm5_163 rfl rfl (Nat.le_of_ble_eq_true rfl) (Or.inl ⟨(ly21 hL), by decide⟩)
theorem b110_122 {X : pm_X} {d : Nat} {x1 : Int32} {x2 : Int32} {x3 : Int32} {x4 : Int32} {x5 : Int32} {s0 : Int32} {g : pm_G} {iv : pm_V} (hL : pm_lay g) : pm_at X d 110 (122, [some (.ref 0), some (.int x1), some (.int x2), some (.int x3), some (.int x4), some (.int x5)], [.int s0], g, iv) = pm_then X d 110 130 [some (.ref 0), some (.int x1), some (.int x2), some (.int x3), some (.int x4), some (.int x5)] [.int s0] (pm_c X d 39 [.ref 11, .int x1] g iv) := by
  refine (at_aload_n dc110_122 rfl).trans ?_
  refine (at_gfR dc110_123 mc110 lf5_40 fo5_4 (ly0 hL) (lr0_4 hL)).trans ?_
  refine (at_iload_n dc110_126 rfl).trans ?_
  exact at_inv dc110_127 mc110 lm5_163 rfl rfl (Nat.le_of_ble_eq_true rfl) (Or.inl ⟨(ly11 hL), by decide⟩)
theorem b110_130 {X : pm_X} {d : Nat} {x1 : Int32} {x2 : Int32} {x3 : Int32} {x4 : Int32} {x5 : Int32} {s0 : Int32} {s1 : Int32} {g : pm_G} {iv : pm_V}  : pm_at X d 110 (130, [some (.ref 0), some (.int x1), some (.int x2), some (.int x3), some (.int x4), some (.int x5)], [.int s0, .int s1], g, iv) = if ¬ s1 = s0 then pm_at X d 110 (142, [some (.ref 0), some (.int x1), some (.int x2), some (.int x3), some (.int x4), some (.int x5)], [], g, iv) else pm_at X d 110 (133, [some (.ref 0), some (.int x1), some (.int x2), some (.int x3), some (.int x4), some (.int x5)], [], g, iv) := by
  exact at_icmp_ne (t := 142) dc110_130 (by decide)
theorem b110_133 {X : pm_X} {d : Nat} {x1 : Int32} {x2 : Int32} {x3 : Int32} {x4 : Int32} {x5 : Int32} {g : pm_G} {iv : pm_V}  : pm_at X d 110 (133, [some (.ref 0), some (.int x1), some (.int x2), some (.int x3), some (.int x4), some (.int x5)], [], g, iv) = pm_at X d 110 (142, [some (.ref 0), some (.int x1), some (.int x2), some (.int x3), some (.int (x4 ||| (1 <<< (x5 &&& 31)))), some (.int x5)], [], g, iv) := by
  refine (at_iload dc110_133 rfl).trans ?_
  refine (at_iconst (v := 1) dc110_135 rfl).trans ?_
  refine (at_iload dc110_136 rfl).trans ?_
  refine (at_ishl dc110_138).trans ?_
  refine (at_ior dc110_139).trans ?_
  refine (at_istore dc110_140 rfl).trans ?_
  rfl
theorem b110_142 {X : pm_X} {d : Nat} {x1 : Int32} {x2 : Int32} {x3 : Int32} {x4 : Int32} {x5 : Int32} {g : pm_G} {iv : pm_V}  : pm_at X d 110 (142, [some (.ref 0), some (.int x1), some (.int x2), some (.int x3), some (.int x4), some (.int x5)], [], g, iv) = pm_at X d 110 (57, [some (.ref 0), some (.int x1), some (.int x2), some (.int x3), some (.int x4), some (.int (x5 + 1))], [], g, iv) := by
  refine (at_iinc (v := 1) dc110_142 rfl (by decide) rfl).trans ?_
  refine (at_goto (t := 57) dc110_145 (by decide)).trans ?_
  rfl
theorem b110_148 {X : pm_X} {d : Nat} {x1 : Int32} {x2 : Int32} {x3 : Int32} {x4 : Int32} {x5 : Int32} {g : pm_G} {iv : pm_V}  : pm_at X d 110 (148, [some (.ref 0), some (.int x1), some (.int x2), some (.int x3), some (.int x4), some (.int x5)], [], g, iv) = some (some (.int x4), g, iv) := by
  refine (at_iload dc110_148 rfl).trans ?_
  exact at_iret dc110_150 mr110
-- HH.stolen (I)I
theorem dc111_0 : decode (pm_mb 111) 0 = .ok (.aload_n 0, 1) := by decide +kernel
theorem dc111_1 : decode (pm_mb 111) 1 = .ok (.getfield 40, 3) := by decide +kernel
theorem dc111_4 : decode (pm_mb 111) 4 = .ok (.invokevirtual 125, 3) := by decide +kernel
theorem dc111_7 : decode (pm_mb 111) 7 = .ok (.ifCond .ne 6, 3) := by decide +kernel
theorem dc111_10 : decode (pm_mb 111) 10 = .ok (.ldc 129, 2) := by decide +kernel
theorem dc111_12 : decode (pm_mb 111) 12 = .ok (.ireturn, 1) := by decide +kernel
theorem dc111_13 : decode (pm_mb 111) 13 = .ok (.iload_n 1, 1) := by decide +kernel
theorem dc111_14 : decode (pm_mb 111) 14 = .ok (.invokestatic 51, 3) := by decide +kernel
theorem dc111_17 : decode (pm_mb 111) 17 = .ok (.ifCond .ne 6, 3) := by decide +kernel
theorem dc111_20 : decode (pm_mb 111) 20 = .ok (.ldc 59, 2) := by decide +kernel
theorem dc111_22 : decode (pm_mb 111) 22 = .ok (.ireturn, 1) := by decide +kernel
theorem dc111_23 : decode (pm_mb 111) 23 = .ok (.aload_n 0, 1) := by decide +kernel
theorem dc111_24 : decode (pm_mb 111) 24 = .ok (.getfield 10, 3) := by decide +kernel
theorem dc111_27 : decode (pm_mb 111) 27 = .ok (.iload_n 1, 1) := by decide +kernel
theorem dc111_28 : decode (pm_mb 111) 28 = .ok (.invokevirtual 71, 3) := by decide +kernel
theorem dc111_31 : decode (pm_mb 111) 31 = .ok (.ifCond .eq 9, 3) := by decide +kernel
theorem dc111_34 : decode (pm_mb 111) 34 = .ok (.aload_n 0, 1) := by decide +kernel
theorem dc111_35 : decode (pm_mb 111) 35 = .ok (.iconst 1, 1) := by decide +kernel
theorem dc111_36 : decode (pm_mb 111) 36 = .ok (.invokevirtual 60, 3) := by decide +kernel
theorem dc111_39 : decode (pm_mb 111) 39 = .ok (.ireturn, 1) := by decide +kernel
theorem dc111_40 : decode (pm_mb 111) 40 = .ok (.aload_n 0, 1) := by decide +kernel
theorem dc111_41 : decode (pm_mb 111) 41 = .ok (.getfield 10, 3) := by decide +kernel
theorem dc111_44 : decode (pm_mb 111) 44 = .ok (.iload_n 1, 1) := by decide +kernel
theorem dc111_45 : decode (pm_mb 111) 45 = .ok (.iconst 0, 1) := by decide +kernel
theorem dc111_46 : decode (pm_mb 111) 46 = .ok (.aload_n 0, 1) := by decide +kernel
theorem dc111_47 : decode (pm_mb 111) 47 = .ok (.getfield 40, 3) := by decide +kernel
theorem dc111_50 : decode (pm_mb 111) 50 = .ok (.invokevirtual 119, 3) := by decide +kernel
theorem dc111_53 : decode (pm_mb 111) 53 = .ok (.invokevirtual 74, 3) := by decide +kernel
theorem dc111_56 : decode (pm_mb 111) 56 = .ok (.ifCond .ne 9, 3) := by decide +kernel
theorem dc111_59 : decode (pm_mb 111) 59 = .ok (.aload_n 0, 1) := by decide +kernel
theorem dc111_60 : decode (pm_mb 111) 60 = .ok (.iconst 2, 1) := by decide +kernel
theorem dc111_61 : decode (pm_mb 111) 61 = .ok (.invokevirtual 60, 3) := by decide +kernel
theorem dc111_64 : decode (pm_mb 111) 64 = .ok (.ireturn, 1) := by decide +kernel
theorem dc111_65 : decode (pm_mb 111) 65 = .ok (.iconst 0, 1) := by decide +kernel
theorem dc111_66 : decode (pm_mb 111) 66 = .ok (.istore_n 2, 1) := by decide +kernel
theorem dc111_67 : decode (pm_mb 111) 67 = .ok (.iload_n 2, 1) := by decide +kernel
theorem dc111_68 : decode (pm_mb 111) 68 = .ok (.aload_n 0, 1) := by decide +kernel
theorem dc111_69 : decode (pm_mb 111) 69 = .ok (.getfield 40, 3) := by decide +kernel
theorem dc111_72 : decode (pm_mb 111) 72 = .ok (.invokevirtual 119, 3) := by decide +kernel
theorem dc111_75 : decode (pm_mb 111) 75 = .ok (.if_icmp .ge 31, 3) := by decide +kernel
theorem dc111_78 : decode (pm_mb 111) 78 = .ok (.aload_n 0, 1) := by decide +kernel
theorem dc111_79 : decode (pm_mb 111) 79 = .ok (.getfield 40, 3) := by decide +kernel
theorem dc111_82 : decode (pm_mb 111) 82 = .ok (.aload_n 0, 1) := by decide +kernel
theorem dc111_83 : decode (pm_mb 111) 83 = .ok (.getfield 10, 3) := by decide +kernel
theorem dc111_86 : decode (pm_mb 111) 86 = .ok (.iload_n 1, 1) := by decide +kernel
theorem dc111_87 : decode (pm_mb 111) 87 = .ok (.iload_n 2, 1) := by decide +kernel
theorem dc111_88 : decode (pm_mb 111) 88 = .ok (.invokevirtual 155, 3) := by decide +kernel
theorem dc111_91 : decode (pm_mb 111) 91 = .ok (.invokevirtual 178, 3) := by decide +kernel
theorem dc111_94 : decode (pm_mb 111) 94 = .ok (.ifCond .ne 6, 3) := by decide +kernel
theorem dc111_97 : decode (pm_mb 111) 97 = .ok (.ldc 59, 2) := by decide +kernel
theorem dc111_99 : decode (pm_mb 111) 99 = .ok (.ireturn, 1) := by decide +kernel
theorem dc111_100 : decode (pm_mb 111) 100 = .ok (.iinc 2 1, 3) := by decide +kernel
theorem dc111_103 : decode (pm_mb 111) 103 = .ok (.goto (-36), 3) := by decide +kernel
theorem dc111_106 : decode (pm_mb 111) 106 = .ok (.iconst 0, 1) := by decide +kernel
theorem dc111_107 : decode (pm_mb 111) 107 = .ok (.istore_n 2, 1) := by decide +kernel
theorem dc111_108 : decode (pm_mb 111) 108 = .ok (.iload_n 2, 1) := by decide +kernel
theorem dc111_109 : decode (pm_mb 111) 109 = .ok (.bipush 64, 2) := by decide +kernel
theorem dc111_111 : decode (pm_mb 111) 111 = .ok (.if_icmp .ge 35, 3) := by decide +kernel
theorem dc111_114 : decode (pm_mb 111) 114 = .ok (.aload_n 0, 1) := by decide +kernel
theorem dc111_115 : decode (pm_mb 111) 115 = .ok (.getfield 40, 3) := by decide +kernel
theorem dc111_118 : decode (pm_mb 111) 118 = .ok (.iload_n 2, 1) := by decide +kernel
theorem dc111_119 : decode (pm_mb 111) 119 = .ok (.invokevirtual 217, 3) := by decide +kernel
theorem dc111_122 : decode (pm_mb 111) 122 = .ok (.ifCond .eq 18, 3) := by decide +kernel
theorem dc111_125 : decode (pm_mb 111) 125 = .ok (.aload_n 0, 1) := by decide +kernel
theorem dc111_126 : decode (pm_mb 111) 126 = .ok (.iload_n 1, 1) := by decide +kernel
theorem dc111_127 : decode (pm_mb 111) 127 = .ok (.iload_n 2, 1) := by decide +kernel
theorem dc111_128 : decode (pm_mb 111) 128 = .ok (.invokevirtual 220, 3) := by decide +kernel
theorem dc111_131 : decode (pm_mb 111) 131 = .ok (.ifCond .eq 9, 3) := by decide +kernel
theorem dc111_134 : decode (pm_mb 111) 134 = .ok (.aload_n 0, 1) := by decide +kernel
theorem dc111_135 : decode (pm_mb 111) 135 = .ok (.iload_n 2, 1) := by decide +kernel
theorem dc111_136 : decode (pm_mb 111) 136 = .ok (.invokevirtual 68, 3) := by decide +kernel
theorem dc111_139 : decode (pm_mb 111) 139 = .ok (.ireturn, 1) := by decide +kernel
theorem dc111_140 : decode (pm_mb 111) 140 = .ok (.iinc 2 1, 3) := by decide +kernel
theorem dc111_143 : decode (pm_mb 111) 143 = .ok (.goto (-35), 3) := by decide +kernel
theorem dc111_146 : decode (pm_mb 111) 146 = .ok (.aload_n 0, 1) := by decide +kernel
theorem dc111_147 : decode (pm_mb 111) 147 = .ok (.ldc 188, 2) := by decide +kernel
theorem dc111_149 : decode (pm_mb 111) 149 = .ok (.invokevirtual 68, 3) := by decide +kernel
theorem dc111_152 : decode (pm_mb 111) 152 = .ok (.ireturn, 1) := by decide +kernel
theorem b111_0 {X : pm_X} {d : Nat} {x1 : Int32} {g : pm_G} {iv : pm_V} (hL : pm_lay g) : pm_at X d 111 (0, [some (.ref 0), some (.int x1), none], [], g, iv) = pm_then X d 111 7 [some (.ref 0), some (.int x1), none] [] (pm_c X d 26 [.ref 11] g iv) := by
  refine (at_aload_n dc111_0 rfl).trans ?_
  refine (at_gfR dc111_1 mc111 lf5_40 fo5_4 (ly0 hL) (lr0_4 hL)).trans ?_
  exact at_inv dc111_4 mc111 lm5_125 rfl rfl (Nat.le_of_ble_eq_true rfl) (Or.inl ⟨(ly11 hL), by decide⟩)
theorem b111_7 {X : pm_X} {d : Nat} {x1 : Int32} {s0 : Int32} {g : pm_G} {iv : pm_V}  : pm_at X d 111 (7, [some (.ref 0), some (.int x1), none], [.int s0], g, iv) = if ¬ s0 = 0 then pm_at X d 111 (13, [some (.ref 0), some (.int x1), none], [], g, iv) else pm_at X d 111 (10, [some (.ref 0), some (.int x1), none], [], g, iv) := by
  exact at_if_ne (t := 13) dc111_7 (by decide)
theorem b111_10 {X : pm_X} {d : Nat} {x1 : Int32} {g : pm_G} {iv : pm_V}  : pm_at X d 111 (10, [some (.ref 0), some (.int x1), none], [], g, iv) = some (some (.int (-1000002)), g, iv) := by
  refine (at_ldc dc111_10 mc111 lk5_129).trans ?_
  exact at_iret dc111_12 mr111
theorem b111_13 {X : pm_X} {d : Nat} {x1 : Int32} {g : pm_G} {iv : pm_V}  : pm_at X d 111 (13, [some (.ref 0), some (.int x1), none], [], g, iv) = pm_then X d 111 17 [some (.ref 0), some (.int x1), none] [] (pm_c X d 121 [.int x1] g iv) := by
  refine (at_iload_n dc111_13 rfl).trans ?_
  exact at_ins dc111_14 mc111 lm5_51 (Nat.le_of_ble_eq_true rfl) rfl rfl (Nat.le_of_ble_eq_true rfl)
theorem b111_17 {X : pm_X} {d : Nat} {x1 : Int32} {s0 : Int32} {g : pm_G} {iv : pm_V}  : pm_at X d 111 (17, [some (.ref 0), some (.int x1), none], [.int s0], g, iv) = if ¬ s0 = 0 then pm_at X d 111 (23, [some (.ref 0), some (.int x1), none], [], g, iv) else pm_at X d 111 (20, [some (.ref 0), some (.int x1), none], [], g, iv) := by
  exact at_if_ne (t := 23) dc111_17 (by decide)
theorem b111_20 {X : pm_X} {d : Nat} {x1 : Int32} {g : pm_G} {iv : pm_V}  : pm_at X d 111 (20, [some (.ref 0), some (.int x1), none], [], g, iv) = some (some (.int (-1000001)), g, iv) := by
  refine (at_ldc dc111_20 mc111 lk5_59).trans ?_
  exact at_iret dc111_22 mr111
theorem b111_23 {X : pm_X} {d : Nat} {x1 : Int32} {g : pm_G} {iv : pm_V} (hL : pm_lay g) : pm_at X d 111 (23, [some (.ref 0), some (.int x1), none], [], g, iv) = pm_then X d 111 31 [some (.ref 0), some (.int x1), none] [] (pm_c X d 15 [.ref 1, .int x1] g iv) := by
  refine (at_aload_n dc111_23 rfl).trans ?_
  refine (at_gfR dc111_24 mc111 lf5_10 fo5_0 (ly0 hL) (lr0_0 hL)).trans ?_
  refine (at_iload_n dc111_27 rfl).trans ?_
  exact at_inv dc111_28 mc111 lm5_71 rfl rfl (Nat.le_of_ble_eq_true rfl) (Or.inl ⟨(ly1 hL), by decide⟩)
theorem b111_31 {X : pm_X} {d : Nat} {x1 : Int32} {s0 : Int32} {g : pm_G} {iv : pm_V}  : pm_at X d 111 (31, [some (.ref 0), some (.int x1), none], [.int s0], g, iv) = if s0 = 0 then pm_at X d 111 (40, [some (.ref 0), some (.int x1), none], [], g, iv) else pm_at X d 111 (34, [some (.ref 0), some (.int x1), none], [], g, iv) := by
  exact at_if_eq (t := 40) dc111_31 (by decide)
theorem b111_34 {X : pm_X} {d : Nat} {x1 : Int32} {g : pm_G} {iv : pm_V} (hL : pm_lay g) : pm_at X d 111 (34, [some (.ref 0), some (.int x1), none], [], g, iv) = pm_then X d 111 39 [some (.ref 0), some (.int x1), none] [] (pm_c X d 123 [.ref 0, .int 1] g iv) := by
  refine (at_aload_n dc111_34 rfl).trans ?_
  refine (at_iconst (v := 1) dc111_35 rfl).trans ?_
  exact at_inv dc111_36 mc111 lm5_60 rfl rfl (Nat.le_of_ble_eq_true rfl) (Or.inl ⟨(ly0 hL), by decide⟩)
theorem b111_39 {X : pm_X} {d : Nat} {x1 : Int32} {s0 : Int32} {g : pm_G} {iv : pm_V}  : pm_at X d 111 (39, [some (.ref 0), some (.int x1), none], [.int s0], g, iv) = some (some (.int s0), g, iv) := by
  exact at_iret dc111_39 mr111
theorem b111_40 {X : pm_X} {d : Nat} {x1 : Int32} {g : pm_G} {iv : pm_V} (hL : pm_lay g) : pm_at X d 111 (40, [some (.ref 0), some (.int x1), none], [], g, iv) = pm_then X d 111 53 [some (.ref 0), some (.int x1), none] [.int 0, .int x1, .ref 1] (pm_c X d 29 [.ref 11] g iv) := by
  refine (at_aload_n dc111_40 rfl).trans ?_
  refine (at_gfR dc111_41 mc111 lf5_10 fo5_0 (ly0 hL) (lr0_0 hL)).trans ?_
  refine (at_iload_n dc111_44 rfl).trans ?_
  refine (at_iconst (v := 0) dc111_45 rfl).trans ?_
  refine (at_aload_n dc111_46 rfl).trans ?_
  refine (at_gfR dc111_47 mc111 lf5_40 fo5_4 (ly0 hL) (lr0_4 hL)).trans ?_
  exact at_inv dc111_50 mc111 lm5_119 rfl rfl (Nat.le_of_ble_eq_true rfl) (Or.inl ⟨(ly11 hL), by decide⟩)
theorem b111_53 {X : pm_X} {d : Nat} {x1 : Int32} {s0 : Int32} {s1 : Int32} {s2 : Int32} {g : pm_G} {iv : pm_V} (hL : pm_lay g) : pm_at X d 111 (53, [some (.ref 0), some (.int x1), none], [.int s0, .int s1, .int s2, .ref 1], g, iv) = pm_then X d 111 56 [some (.ref 0), some (.int x1), none] [] (pm_c X d 16 [.ref 1, .int s2, .int s1, .int s0] g iv) := by
  exact at_inv dc111_53 mc111 lm5_74 rfl rfl (Nat.le_of_ble_eq_true rfl) (Or.inl ⟨(ly1 hL), by decide⟩)
theorem b111_56 {X : pm_X} {d : Nat} {x1 : Int32} {s0 : Int32} {g : pm_G} {iv : pm_V}  : pm_at X d 111 (56, [some (.ref 0), some (.int x1), none], [.int s0], g, iv) = if ¬ s0 = 0 then pm_at X d 111 (65, [some (.ref 0), some (.int x1), none], [], g, iv) else pm_at X d 111 (59, [some (.ref 0), some (.int x1), none], [], g, iv) := by
  exact at_if_ne (t := 65) dc111_56 (by decide)
theorem b111_59 {X : pm_X} {d : Nat} {x1 : Int32} {g : pm_G} {iv : pm_V} (hL : pm_lay g) : pm_at X d 111 (59, [some (.ref 0), some (.int x1), none], [], g, iv) = pm_then X d 111 64 [some (.ref 0), some (.int x1), none] [] (pm_c X d 123 [.ref 0, .int 2] g iv) := by
  refine (at_aload_n dc111_59 rfl).trans ?_
  refine (at_iconst (v := 2) dc111_60 rfl).trans ?_
  exact at_inv dc111_61 mc111 lm5_60 rfl rfl (Nat.le_of_ble_eq_true rfl) (Or.inl ⟨(ly0 hL), by decide⟩)
theorem b111_64 {X : pm_X} {d : Nat} {x1 : Int32} {s0 : Int32} {g : pm_G} {iv : pm_V}  : pm_at X d 111 (64, [some (.ref 0), some (.int x1), none], [.int s0], g, iv) = some (some (.int s0), g, iv) := by
  exact at_iret dc111_64 mr111
theorem b111_65 {X : pm_X} {d : Nat} {x1 : Int32} {g : pm_G} {iv : pm_V}  : pm_at X d 111 (65, [some (.ref 0), some (.int x1), none], [], g, iv) = pm_at X d 111 (67, [some (.ref 0), some (.int x1), some (.int 0)], [], g, iv) := by
  refine (at_iconst (v := 0) dc111_65 rfl).trans ?_
  refine (at_istore_n dc111_66 rfl).trans ?_
  rfl
theorem b111_67 {X : pm_X} {d : Nat} {x1 : Int32} {x2 : Int32} {g : pm_G} {iv : pm_V} (hL : pm_lay g) : pm_at X d 111 (67, [some (.ref 0), some (.int x1), some (.int x2)], [], g, iv) = pm_then X d 111 75 [some (.ref 0), some (.int x1), some (.int x2)] [.int x2] (pm_c X d 29 [.ref 11] g iv) := by
  refine (at_iload_n dc111_67 rfl).trans ?_
  refine (at_aload_n dc111_68 rfl).trans ?_
  refine (at_gfR dc111_69 mc111 lf5_40 fo5_4 (ly0 hL) (lr0_4 hL)).trans ?_
  exact at_inv dc111_72 mc111 lm5_119 rfl rfl (Nat.le_of_ble_eq_true rfl) (Or.inl ⟨(ly11 hL), by decide⟩)
theorem b111_75 {X : pm_X} {d : Nat} {x1 : Int32} {x2 : Int32} {s0 : Int32} {s1 : Int32} {g : pm_G} {iv : pm_V}  : pm_at X d 111 (75, [some (.ref 0), some (.int x1), some (.int x2)], [.int s0, .int s1], g, iv) = if s0 ≤ s1 then pm_at X d 111 (106, [some (.ref 0), some (.int x1), some (.int x2)], [], g, iv) else pm_at X d 111 (78, [some (.ref 0), some (.int x1), some (.int x2)], [], g, iv) := by
  exact at_icmp_ge (t := 106) dc111_75 (by decide)
theorem b111_78 {X : pm_X} {d : Nat} {x1 : Int32} {x2 : Int32} {g : pm_G} {iv : pm_V} (hL : pm_lay g) : pm_at X d 111 (78, [some (.ref 0), some (.int x1), some (.int x2)], [], g, iv) = pm_then X d 111 91 [some (.ref 0), some (.int x1), some (.int x2)] [.ref 11] (pm_c X d 18 [.ref 1, .int x1, .int x2] g iv) := by
  refine (at_aload_n dc111_78 rfl).trans ?_
  refine (at_gfR dc111_79 mc111 lf5_40 fo5_4 (ly0 hL) (lr0_4 hL)).trans ?_
  refine (at_aload_n dc111_82 rfl).trans ?_
  refine (at_gfR dc111_83 mc111 lf5_10 fo5_0 (ly0 hL) (lr0_0 hL)).trans ?_
  refine (at_iload_n dc111_86 rfl).trans ?_
  refine (at_iload_n dc111_87 rfl).trans ?_
  exact at_inv dc111_88 mc111 lm5_155 rfl rfl (Nat.le_of_ble_eq_true rfl) (Or.inl ⟨(ly1 hL), by decide⟩)
theorem b111_91 {X : pm_X} {d : Nat} {x1 : Int32} {x2 : Int32} {s0 : Int32} {g : pm_G} {iv : pm_V} (hL : pm_lay g) : pm_at X d 111 (91, [some (.ref 0), some (.int x1), some (.int x2)], [.int s0, .ref 11], g, iv) = pm_then X d 111 94 [some (.ref 0), some (.int x1), some (.int x2)] [] (pm_c X d 34 [.ref 11, .int s0] g iv) := by
  exact at_inv dc111_91 mc111 lm5_178 rfl rfl (Nat.le_of_ble_eq_true rfl) (Or.inl ⟨(ly11 hL), by decide⟩)
theorem b111_94 {X : pm_X} {d : Nat} {x1 : Int32} {x2 : Int32} {s0 : Int32} {g : pm_G} {iv : pm_V}  : pm_at X d 111 (94, [some (.ref 0), some (.int x1), some (.int x2)], [.int s0], g, iv) = if ¬ s0 = 0 then pm_at X d 111 (100, [some (.ref 0), some (.int x1), some (.int x2)], [], g, iv) else pm_at X d 111 (97, [some (.ref 0), some (.int x1), some (.int x2)], [], g, iv) := by
  exact at_if_ne (t := 100) dc111_94 (by decide)
theorem b111_97 {X : pm_X} {d : Nat} {x1 : Int32} {x2 : Int32} {g : pm_G} {iv : pm_V}  : pm_at X d 111 (97, [some (.ref 0), some (.int x1), some (.int x2)], [], g, iv) = some (some (.int (-1000001)), g, iv) := by
  refine (at_ldc dc111_97 mc111 lk5_59).trans ?_
  exact at_iret dc111_99 mr111
theorem b111_100 {X : pm_X} {d : Nat} {x1 : Int32} {x2 : Int32} {g : pm_G} {iv : pm_V}  : pm_at X d 111 (100, [some (.ref 0), some (.int x1), some (.int x2)], [], g, iv) = pm_at X d 111 (67, [some (.ref 0), some (.int x1), some (.int (x2 + 1))], [], g, iv) := by
  refine (at_iinc (v := 1) dc111_100 rfl (by decide) rfl).trans ?_
  refine (at_goto (t := 67) dc111_103 (by decide)).trans ?_
  rfl
theorem b111_106 {X : pm_X} {d : Nat} {x1 : Int32} {x2 : Int32} {g : pm_G} {iv : pm_V}  : pm_at X d 111 (106, [some (.ref 0), some (.int x1), some (.int x2)], [], g, iv) = pm_at X d 111 (108, [some (.ref 0), some (.int x1), some (.int 0)], [], g, iv) := by
  refine (at_iconst (v := 0) dc111_106 rfl).trans ?_
  refine (at_istore_n dc111_107 rfl).trans ?_
  rfl
theorem b111_108 {X : pm_X} {d : Nat} {x1 : Int32} {x2 : Int32} {g : pm_G} {iv : pm_V}  : pm_at X d 111 (108, [some (.ref 0), some (.int x1), some (.int x2)], [], g, iv) = if 64 ≤ x2 then pm_at X d 111 (146, [some (.ref 0), some (.int x1), some (.int x2)], [], g, iv) else pm_at X d 111 (114, [some (.ref 0), some (.int x1), some (.int x2)], [], g, iv) := by
  refine (at_iload_n dc111_108 rfl).trans ?_
  refine (at_bipush (v := 64) dc111_109 (by decide)).trans ?_
  exact at_icmp_ge (t := 146) dc111_111 (by decide)
theorem b111_114 {X : pm_X} {d : Nat} {x1 : Int32} {x2 : Int32} {g : pm_G} {iv : pm_V} (hL : pm_lay g) : pm_at X d 111 (114, [some (.ref 0), some (.int x1), some (.int x2)], [], g, iv) = pm_then X d 111 122 [some (.ref 0), some (.int x1), some (.int x2)] [] (pm_c X d 42 [.ref 11, .int x2] g iv) := by
  refine (at_aload_n dc111_114 rfl).trans ?_
  refine (at_gfR dc111_115 mc111 lf5_40 fo5_4 (ly0 hL) (lr0_4 hL)).trans ?_
  refine (at_iload_n dc111_118 rfl).trans ?_
  exact at_inv dc111_119 mc111 lm5_217 rfl rfl (Nat.le_of_ble_eq_true rfl) (Or.inl ⟨(ly11 hL), by decide⟩)
theorem b111_122 {X : pm_X} {d : Nat} {x1 : Int32} {x2 : Int32} {s0 : Int32} {g : pm_G} {iv : pm_V}  : pm_at X d 111 (122, [some (.ref 0), some (.int x1), some (.int x2)], [.int s0], g, iv) = if s0 = 0 then pm_at X d 111 (140, [some (.ref 0), some (.int x1), some (.int x2)], [], g, iv) else pm_at X d 111 (125, [some (.ref 0), some (.int x1), some (.int x2)], [], g, iv) := by
  exact at_if_eq (t := 140) dc111_122 (by decide)
theorem b111_125 {X : pm_X} {d : Nat} {x1 : Int32} {x2 : Int32} {g : pm_G} {iv : pm_V} (hL : pm_lay g) : pm_at X d 111 (125, [some (.ref 0), some (.int x1), some (.int x2)], [], g, iv) = pm_then X d 111 131 [some (.ref 0), some (.int x1), some (.int x2)] [] (pm_c X d 128 [.ref 0, .int x1, .int x2] g iv) := by
  refine (at_aload_n dc111_125 rfl).trans ?_
  refine (at_iload_n dc111_126 rfl).trans ?_
  refine (at_iload_n dc111_127 rfl).trans ?_
  exact at_inv dc111_128 mc111 lm5_220 rfl rfl (Nat.le_of_ble_eq_true rfl) (Or.inl ⟨(ly0 hL), by decide⟩)
theorem b111_131 {X : pm_X} {d : Nat} {x1 : Int32} {x2 : Int32} {s0 : Int32} {g : pm_G} {iv : pm_V}  : pm_at X d 111 (131, [some (.ref 0), some (.int x1), some (.int x2)], [.int s0], g, iv) = if s0 = 0 then pm_at X d 111 (140, [some (.ref 0), some (.int x1), some (.int x2)], [], g, iv) else pm_at X d 111 (134, [some (.ref 0), some (.int x1), some (.int x2)], [], g, iv) := by
  exact at_if_eq (t := 140) dc111_131 (by decide)
theorem b111_134 {X : pm_X} {d : Nat} {x1 : Int32} {x2 : Int32} {g : pm_G} {iv : pm_V} (hL : pm_lay g) : pm_at X d 111 (134, [some (.ref 0), some (.int x1), some (.int x2)], [], g, iv) = pm_then X d 111 139 [some (.ref 0), some (.int x1), some (.int x2)] [] (pm_c X d 124 [.ref 0, .int x2] g iv) := by
  refine (at_aload_n dc111_134 rfl).trans ?_
  refine (at_iload_n dc111_135 rfl).trans ?_
  exact at_inv dc111_136 mc111 lm5_68 rfl rfl (Nat.le_of_ble_eq_true rfl) (Or.inl ⟨(ly0 hL), by decide⟩)
theorem b111_139 {X : pm_X} {d : Nat} {x1 : Int32} {x2 : Int32} {s0 : Int32} {g : pm_G} {iv : pm_V}  : pm_at X d 111 (139, [some (.ref 0), some (.int x1), some (.int x2)], [.int s0], g, iv) = some (some (.int s0), g, iv) := by
  exact at_iret dc111_139 mr111
theorem b111_140 {X : pm_X} {d : Nat} {x1 : Int32} {x2 : Int32} {g : pm_G} {iv : pm_V}  : pm_at X d 111 (140, [some (.ref 0), some (.int x1), some (.int x2)], [], g, iv) = pm_at X d 111 (108, [some (.ref 0), some (.int x1), some (.int (x2 + 1))], [], g, iv) := by
  refine (at_iinc (v := 1) dc111_140 rfl (by decide) rfl).trans ?_
  refine (at_goto (t := 108) dc111_143 (by decide)).trans ?_
  rfl
theorem b111_146 {X : pm_X} {d : Nat} {x1 : Int32} {x2 : Int32} {g : pm_G} {iv : pm_V} (hL : pm_lay g) : pm_at X d 111 (146, [some (.ref 0), some (.int x1), some (.int x2)], [], g, iv) = pm_then X d 111 152 [some (.ref 0), some (.int x1), some (.int x2)] [] (pm_c X d 124 [.ref 0, .int (-1000000)] g iv) := by
  refine (at_aload_n dc111_146 rfl).trans ?_
  refine (at_ldc dc111_147 mc111 lk5_188).trans ?_
  exact at_inv dc111_149 mc111 lm5_68 rfl rfl (Nat.le_of_ble_eq_true rfl) (Or.inl ⟨(ly0 hL), by decide⟩)
theorem b111_152 {X : pm_X} {d : Nat} {x1 : Int32} {x2 : Int32} {s0 : Int32} {g : pm_G} {iv : pm_V}  : pm_at X d 111 (152, [some (.ref 0), some (.int x1), some (.int x2)], [.int s0], g, iv) = some (some (.int s0), g, iv) := by
  exact at_iret dc111_152 mr111
-- HH.image (I)I
theorem dc112_0 : decode (pm_mb 112) 0 = .ok (.iload_n 1, 1) := by decide +kernel
theorem dc112_1 : decode (pm_mb 112) 1 = .ok (.iconst 1, 1) := by decide +kernel
theorem dc112_2 : decode (pm_mb 112) 2 = .ok (.invokestatic 55, 3) := by decide +kernel
theorem dc112_5 : decode (pm_mb 112) 5 = .ok (.ifCond .ne 6, 3) := by decide +kernel
theorem dc112_8 : decode (pm_mb 112) 8 = .ok (.ldc 59, 2) := by decide +kernel
theorem dc112_10 : decode (pm_mb 112) 10 = .ok (.ireturn, 1) := by decide +kernel
theorem dc112_11 : decode (pm_mb 112) 11 = .ok (.aload_n 0, 1) := by decide +kernel
theorem dc112_12 : decode (pm_mb 112) 12 = .ok (.getfield 40, 3) := by decide +kernel
theorem dc112_15 : decode (pm_mb 112) 15 = .ok (.invokevirtual 125, 3) := by decide +kernel
theorem dc112_18 : decode (pm_mb 112) 18 = .ok (.ifCond .ne 6, 3) := by decide +kernel
theorem dc112_21 : decode (pm_mb 112) 21 = .ok (.ldc 129, 2) := by decide +kernel
theorem dc112_23 : decode (pm_mb 112) 23 = .ok (.ireturn, 1) := by decide +kernel
theorem dc112_24 : decode (pm_mb 112) 24 = .ok (.aload_n 0, 1) := by decide +kernel
theorem dc112_25 : decode (pm_mb 112) 25 = .ok (.getfield 47, 3) := by decide +kernel
theorem dc112_28 : decode (pm_mb 112) 28 = .ok (.iload_n 1, 1) := by decide +kernel
theorem dc112_29 : decode (pm_mb 112) 29 = .ok (.aaload, 1) := by decide +kernel
theorem dc112_30 : decode (pm_mb 112) 30 = .ok (.astore_n 2, 1) := by decide +kernel
theorem dc112_31 : decode (pm_mb 112) 31 = .ok (.aload_n 2, 1) := by decide +kernel
theorem dc112_32 : decode (pm_mb 112) 32 = .ok (.ifnonnull 18, 3) := by decide +kernel
theorem dc112_35 : decode (pm_mb 112) 35 = .ok (.new 37, 3) := by decide +kernel
theorem dc112_38 : decode (pm_mb 112) 38 = .ok (.dup, 1) := by decide +kernel
theorem dc112_39 : decode (pm_mb 112) 39 = .ok (.invokespecial 39, 3) := by decide +kernel
theorem dc112_42 : decode (pm_mb 112) 42 = .ok (.astore_n 2, 1) := by decide +kernel
theorem dc112_43 : decode (pm_mb 112) 43 = .ok (.aload_n 0, 1) := by decide +kernel
theorem dc112_44 : decode (pm_mb 112) 44 = .ok (.getfield 47, 3) := by decide +kernel
theorem dc112_47 : decode (pm_mb 112) 47 = .ok (.iload_n 1, 1) := by decide +kernel
theorem dc112_48 : decode (pm_mb 112) 48 = .ok (.aload_n 2, 1) := by decide +kernel
theorem dc112_49 : decode (pm_mb 112) 49 = .ok (.aastore, 1) := by decide +kernel
theorem dc112_50 : decode (pm_mb 112) 50 = .ok (.aload_n 2, 1) := by decide +kernel
theorem dc112_51 : decode (pm_mb 112) 51 = .ok (.aload_n 0, 1) := by decide +kernel
theorem dc112_52 : decode (pm_mb 112) 52 = .ok (.getfield 40, 3) := by decide +kernel
theorem dc112_55 : decode (pm_mb 112) 55 = .ok (.invokevirtual 112, 3) := by decide +kernel
theorem dc112_58 : decode (pm_mb 112) 58 = .ok (.iconst 1, 1) := by decide +kernel
theorem dc112_59 : decode (pm_mb 112) 59 = .ok (.ireturn, 1) := by decide +kernel
theorem b112_0 {X : pm_X} {d : Nat} {x1 : Int32} {g : pm_G} {iv : pm_V}  : pm_at X d 112 (0, [some (.ref 0), some (.int x1), none], [], g, iv) = pm_then X d 112 5 [some (.ref 0), some (.int x1), none] [] (pm_c X d 120 [.int x1, .int 1] g iv) := by
  refine (at_iload_n dc112_0 rfl).trans ?_
  refine (at_iconst (v := 1) dc112_1 rfl).trans ?_
  exact at_ins dc112_2 mc112 lm5_55 (Nat.le_of_ble_eq_true rfl) rfl rfl (Nat.le_of_ble_eq_true rfl)
theorem b112_5 {X : pm_X} {d : Nat} {x1 : Int32} {s0 : Int32} {g : pm_G} {iv : pm_V}  : pm_at X d 112 (5, [some (.ref 0), some (.int x1), none], [.int s0], g, iv) = if ¬ s0 = 0 then pm_at X d 112 (11, [some (.ref 0), some (.int x1), none], [], g, iv) else pm_at X d 112 (8, [some (.ref 0), some (.int x1), none], [], g, iv) := by
  exact at_if_ne (t := 11) dc112_5 (by decide)
theorem b112_8 {X : pm_X} {d : Nat} {x1 : Int32} {g : pm_G} {iv : pm_V}  : pm_at X d 112 (8, [some (.ref 0), some (.int x1), none], [], g, iv) = some (some (.int (-1000001)), g, iv) := by
  refine (at_ldc dc112_8 mc112 lk5_59).trans ?_
  exact at_iret dc112_10 mr112
theorem b112_11 {X : pm_X} {d : Nat} {x1 : Int32} {g : pm_G} {iv : pm_V} (hL : pm_lay g) : pm_at X d 112 (11, [some (.ref 0), some (.int x1), none], [], g, iv) = pm_then X d 112 18 [some (.ref 0), some (.int x1), none] [] (pm_c X d 26 [.ref 11] g iv) := by
  refine (at_aload_n dc112_11 rfl).trans ?_
  refine (at_gfR dc112_12 mc112 lf5_40 fo5_4 (ly0 hL) (lr0_4 hL)).trans ?_
  exact at_inv dc112_15 mc112 lm5_125 rfl rfl (Nat.le_of_ble_eq_true rfl) (Or.inl ⟨(ly11 hL), by decide⟩)
theorem b112_18 {X : pm_X} {d : Nat} {x1 : Int32} {s0 : Int32} {g : pm_G} {iv : pm_V}  : pm_at X d 112 (18, [some (.ref 0), some (.int x1), none], [.int s0], g, iv) = if ¬ s0 = 0 then pm_at X d 112 (24, [some (.ref 0), some (.int x1), none], [], g, iv) else pm_at X d 112 (21, [some (.ref 0), some (.int x1), none], [], g, iv) := by
  exact at_if_ne (t := 24) dc112_18 (by decide)
theorem b112_21 {X : pm_X} {d : Nat} {x1 : Int32} {g : pm_G} {iv : pm_V}  : pm_at X d 112 (21, [some (.ref 0), some (.int x1), none], [], g, iv) = some (some (.int (-1000002)), g, iv) := by
  refine (at_ldc dc112_21 mc112 lk5_129).trans ?_
  exact at_iret dc112_23 mr112
-- HH.restore (I)I
theorem dc113_0 : decode (pm_mb 113) 0 = .ok (.iload_n 1, 1) := by decide +kernel
theorem dc113_1 : decode (pm_mb 113) 1 = .ok (.iconst 1, 1) := by decide +kernel
theorem dc113_2 : decode (pm_mb 113) 2 = .ok (.invokestatic 55, 3) := by decide +kernel
theorem dc113_5 : decode (pm_mb 113) 5 = .ok (.ifCond .ne 6, 3) := by decide +kernel
theorem dc113_8 : decode (pm_mb 113) 8 = .ok (.ldc 59, 2) := by decide +kernel
theorem dc113_10 : decode (pm_mb 113) 10 = .ok (.ireturn, 1) := by decide +kernel
theorem dc113_11 : decode (pm_mb 113) 11 = .ok (.aload_n 0, 1) := by decide +kernel
theorem dc113_12 : decode (pm_mb 113) 12 = .ok (.getfield 47, 3) := by decide +kernel
theorem dc113_15 : decode (pm_mb 113) 15 = .ok (.iload_n 1, 1) := by decide +kernel
theorem dc113_16 : decode (pm_mb 113) 16 = .ok (.aaload, 1) := by decide +kernel
theorem dc113_17 : decode (pm_mb 113) 17 = .ok (.astore_n 2, 1) := by decide +kernel
theorem dc113_18 : decode (pm_mb 113) 18 = .ok (.aload_n 2, 1) := by decide +kernel
theorem dc113_19 : decode (pm_mb 113) 19 = .ok (.ifnonnull 6, 3) := by decide +kernel
theorem dc113_22 : decode (pm_mb 113) 22 = .ok (.ldc 129, 2) := by decide +kernel
theorem dc113_24 : decode (pm_mb 113) 24 = .ok (.ireturn, 1) := by decide +kernel
theorem dc113_25 : decode (pm_mb 113) 25 = .ok (.aload_n 0, 1) := by decide +kernel
theorem dc113_26 : decode (pm_mb 113) 26 = .ok (.getfield 40, 3) := by decide +kernel
theorem dc113_29 : decode (pm_mb 113) 29 = .ok (.aload_n 2, 1) := by decide +kernel
theorem dc113_30 : decode (pm_mb 113) 30 = .ok (.invokevirtual 112, 3) := by decide +kernel
theorem dc113_33 : decode (pm_mb 113) 33 = .ok (.aload_n 0, 1) := by decide +kernel
theorem dc113_34 : decode (pm_mb 113) 34 = .ok (.getfield 26, 3) := by decide +kernel
theorem dc113_37 : decode (pm_mb 113) 37 = .ok (.invokevirtual 116, 3) := by decide +kernel
theorem dc113_40 : decode (pm_mb 113) 40 = .ok (.iconst 1, 1) := by decide +kernel
theorem dc113_41 : decode (pm_mb 113) 41 = .ok (.ireturn, 1) := by decide +kernel
theorem b113_0 {X : pm_X} {d : Nat} {x1 : Int32} {g : pm_G} {iv : pm_V}  : pm_at X d 113 (0, [some (.ref 0), some (.int x1), none], [], g, iv) = pm_then X d 113 5 [some (.ref 0), some (.int x1), none] [] (pm_c X d 120 [.int x1, .int 1] g iv) := by
  refine (at_iload_n dc113_0 rfl).trans ?_
  refine (at_iconst (v := 1) dc113_1 rfl).trans ?_
  exact at_ins dc113_2 mc113 lm5_55 (Nat.le_of_ble_eq_true rfl) rfl rfl (Nat.le_of_ble_eq_true rfl)
theorem b113_5 {X : pm_X} {d : Nat} {x1 : Int32} {s0 : Int32} {g : pm_G} {iv : pm_V}  : pm_at X d 113 (5, [some (.ref 0), some (.int x1), none], [.int s0], g, iv) = if ¬ s0 = 0 then pm_at X d 113 (11, [some (.ref 0), some (.int x1), none], [], g, iv) else pm_at X d 113 (8, [some (.ref 0), some (.int x1), none], [], g, iv) := by
  exact at_if_ne (t := 11) dc113_5 (by decide)
theorem b113_8 {X : pm_X} {d : Nat} {x1 : Int32} {g : pm_G} {iv : pm_V}  : pm_at X d 113 (8, [some (.ref 0), some (.int x1), none], [], g, iv) = some (some (.int (-1000001)), g, iv) := by
  refine (at_ldc dc113_8 mc113 lk5_59).trans ?_
  exact at_iret dc113_10 mr113
-- HH.kind (I)I
theorem dc114_0 : decode (pm_mb 114) 0 = .ok (.aload_n 0, 1) := by decide +kernel
theorem dc114_1 : decode (pm_mb 114) 1 = .ok (.getfield 40, 3) := by decide +kernel
theorem dc114_4 : decode (pm_mb 114) 4 = .ok (.iload_n 1, 1) := by decide +kernel
theorem dc114_5 : decode (pm_mb 114) 5 = .ok (.invokevirtual 139, 3) := by decide +kernel
theorem dc114_8 : decode (pm_mb 114) 8 = .ok (.ifCond .eq 14, 3) := by decide +kernel
theorem dc114_11 : decode (pm_mb 114) 11 = .ok (.aload_n 0, 1) := by decide +kernel
theorem dc114_12 : decode (pm_mb 114) 12 = .ok (.getfield 40, 3) := by decide +kernel
theorem dc114_15 : decode (pm_mb 114) 15 = .ok (.iload_n 1, 1) := by decide +kernel
theorem dc114_16 : decode (pm_mb 114) 16 = .ok (.invokevirtual 223, 3) := by decide +kernel
theorem dc114_19 : decode (pm_mb 114) 19 = .ok (.goto 5, 3) := by decide +kernel
theorem dc114_22 : decode (pm_mb 114) 22 = .ok (.ldc 59, 2) := by decide +kernel
theorem dc114_24 : decode (pm_mb 114) 24 = .ok (.ireturn, 1) := by decide +kernel
theorem b114_0 {X : pm_X} {d : Nat} {x1 : Int32} {g : pm_G} {iv : pm_V} (hL : pm_lay g) : pm_at X d 114 (0, [some (.ref 0), some (.int x1)], [], g, iv) = pm_then X d 114 8 [some (.ref 0), some (.int x1)] [] (pm_c X d 35 [.ref 11, .int x1] g iv) := by
  refine (at_aload_n dc114_0 rfl).trans ?_
  refine (at_gfR dc114_1 mc114 lf5_40 fo5_4 (ly0 hL) (lr0_4 hL)).trans ?_
  refine (at_iload_n dc114_4 rfl).trans ?_
  exact at_inv dc114_5 mc114 lm5_139 rfl rfl (Nat.le_of_ble_eq_true rfl) (Or.inl ⟨(ly11 hL), by decide⟩)
theorem b114_8 {X : pm_X} {d : Nat} {x1 : Int32} {s0 : Int32} {g : pm_G} {iv : pm_V}  : pm_at X d 114 (8, [some (.ref 0), some (.int x1)], [.int s0], g, iv) = if s0 = 0 then pm_at X d 114 (22, [some (.ref 0), some (.int x1)], [], g, iv) else pm_at X d 114 (11, [some (.ref 0), some (.int x1)], [], g, iv) := by
  exact at_if_eq (t := 22) dc114_8 (by decide)
theorem b114_11 {X : pm_X} {d : Nat} {x1 : Int32} {g : pm_G} {iv : pm_V} (hL : pm_lay g) : pm_at X d 114 (11, [some (.ref 0), some (.int x1)], [], g, iv) = pm_then X d 114 19 [some (.ref 0), some (.int x1)] [] (pm_c X d 36 [.ref 11, .int x1] g iv) := by
  refine (at_aload_n dc114_11 rfl).trans ?_
  refine (at_gfR dc114_12 mc114 lf5_40 fo5_4 (ly0 hL) (lr0_4 hL)).trans ?_
  refine (at_iload_n dc114_15 rfl).trans ?_
  exact at_inv dc114_16 mc114 lm5_223 rfl rfl (Nat.le_of_ble_eq_true rfl) (Or.inl ⟨(ly11 hL), by decide⟩)
theorem b114_19 {X : pm_X} {d : Nat} {x1 : Int32} {s0 : Int32} {g : pm_G} {iv : pm_V}  : pm_at X d 114 (19, [some (.ref 0), some (.int x1)], [.int s0], g, iv) = pm_at X d 114 (24, [some (.ref 0), some (.int x1)], [.int s0], g, iv) := by
  refine (at_goto (t := 24) dc114_19 (by decide)).trans ?_
  rfl
theorem b114_22 {X : pm_X} {d : Nat} {x1 : Int32} {g : pm_G} {iv : pm_V}  : pm_at X d 114 (22, [some (.ref 0), some (.int x1)], [], g, iv) = pm_at X d 114 (24, [some (.ref 0), some (.int x1)], [.int (-1000001)], g, iv) := by
  refine (at_ldc dc114_22 mc114 lk5_59).trans ?_
  rfl
theorem b114_24 {X : pm_X} {d : Nat} {x1 : Int32} {s0 : Int32} {g : pm_G} {iv : pm_V}  : pm_at X d 114 (24, [some (.ref 0), some (.int x1)], [.int s0], g, iv) = some (some (.int s0), g, iv) := by
  exact at_iret dc114_24 mr114
-- HH.as (II)I
theorem dc115_0 : decode (pm_mb 115) 0 = .ok (.aload_n 0, 1) := by decide +kernel
theorem dc115_1 : decode (pm_mb 115) 1 = .ok (.getfield 40, 3) := by decide +kernel
theorem dc115_4 : decode (pm_mb 115) 4 = .ok (.iload_n 1, 1) := by decide +kernel
theorem dc115_5 : decode (pm_mb 115) 5 = .ok (.invokevirtual 139, 3) := by decide +kernel
theorem dc115_8 : decode (pm_mb 115) 8 = .ok (.ifCond .eq 11, 3) := by decide +kernel
theorem dc115_11 : decode (pm_mb 115) 11 = .ok (.iload_n 2, 1) := by decide +kernel
theorem dc115_12 : decode (pm_mb 115) 12 = .ok (.iconst 5, 1) := by decide +kernel
theorem dc115_13 : decode (pm_mb 115) 13 = .ok (.invokestatic 55, 3) := by decide +kernel
theorem dc115_16 : decode (pm_mb 115) 16 = .ok (.ifCond .ne 6, 3) := by decide +kernel
theorem dc115_19 : decode (pm_mb 115) 19 = .ok (.ldc 59, 2) := by decide +kernel
theorem dc115_21 : decode (pm_mb 115) 21 = .ok (.ireturn, 1) := by decide +kernel
theorem dc115_22 : decode (pm_mb 115) 22 = .ok (.aload_n 0, 1) := by decide +kernel
theorem dc115_23 : decode (pm_mb 115) 23 = .ok (.getfield 40, 3) := by decide +kernel
theorem dc115_26 : decode (pm_mb 115) 26 = .ok (.iload_n 1, 1) := by decide +kernel
theorem dc115_27 : decode (pm_mb 115) 27 = .ok (.invokevirtual 223, 3) := by decide +kernel
theorem dc115_30 : decode (pm_mb 115) 30 = .ok (.iload_n 2, 1) := by decide +kernel
theorem dc115_31 : decode (pm_mb 115) 31 = .ok (.invokestatic 226, 3) := by decide +kernel
theorem dc115_34 : decode (pm_mb 115) 34 = .ok (.ifCond .ne 9, 3) := by decide +kernel
theorem dc115_37 : decode (pm_mb 115) 37 = .ok (.aload_n 0, 1) := by decide +kernel
theorem dc115_38 : decode (pm_mb 115) 38 = .ok (.iconst 3, 1) := by decide +kernel
theorem dc115_39 : decode (pm_mb 115) 39 = .ok (.invokevirtual 60, 3) := by decide +kernel
theorem dc115_42 : decode (pm_mb 115) 42 = .ok (.ireturn, 1) := by decide +kernel
theorem dc115_43 : decode (pm_mb 115) 43 = .ok (.aload_n 0, 1) := by decide +kernel
theorem dc115_44 : decode (pm_mb 115) 44 = .ok (.iload_n 1, 1) := by decide +kernel
theorem dc115_45 : decode (pm_mb 115) 45 = .ok (.invokevirtual 68, 3) := by decide +kernel
theorem dc115_48 : decode (pm_mb 115) 48 = .ok (.ireturn, 1) := by decide +kernel
theorem b115_0 {X : pm_X} {d : Nat} {x1 : Int32} {x2 : Int32} {g : pm_G} {iv : pm_V} (hL : pm_lay g) : pm_at X d 115 (0, [some (.ref 0), some (.int x1), some (.int x2)], [], g, iv) = pm_then X d 115 8 [some (.ref 0), some (.int x1), some (.int x2)] [] (pm_c X d 35 [.ref 11, .int x1] g iv) := by
  refine (at_aload_n dc115_0 rfl).trans ?_
  refine (at_gfR dc115_1 mc115 lf5_40 fo5_4 (ly0 hL) (lr0_4 hL)).trans ?_
  refine (at_iload_n dc115_4 rfl).trans ?_
  exact at_inv dc115_5 mc115 lm5_139 rfl rfl (Nat.le_of_ble_eq_true rfl) (Or.inl ⟨(ly11 hL), by decide⟩)
theorem b115_8 {X : pm_X} {d : Nat} {x1 : Int32} {x2 : Int32} {s0 : Int32} {g : pm_G} {iv : pm_V}  : pm_at X d 115 (8, [some (.ref 0), some (.int x1), some (.int x2)], [.int s0], g, iv) = if s0 = 0 then pm_at X d 115 (19, [some (.ref 0), some (.int x1), some (.int x2)], [], g, iv) else pm_at X d 115 (11, [some (.ref 0), some (.int x1), some (.int x2)], [], g, iv) := by
  exact at_if_eq (t := 19) dc115_8 (by decide)
theorem b115_11 {X : pm_X} {d : Nat} {x1 : Int32} {x2 : Int32} {g : pm_G} {iv : pm_V}  : pm_at X d 115 (11, [some (.ref 0), some (.int x1), some (.int x2)], [], g, iv) = pm_then X d 115 16 [some (.ref 0), some (.int x1), some (.int x2)] [] (pm_c X d 120 [.int x2, .int 5] g iv) := by
  refine (at_iload_n dc115_11 rfl).trans ?_
  refine (at_iconst (v := 5) dc115_12 rfl).trans ?_
  exact at_ins dc115_13 mc115 lm5_55 (Nat.le_of_ble_eq_true rfl) rfl rfl (Nat.le_of_ble_eq_true rfl)
theorem b115_16 {X : pm_X} {d : Nat} {x1 : Int32} {x2 : Int32} {s0 : Int32} {g : pm_G} {iv : pm_V}  : pm_at X d 115 (16, [some (.ref 0), some (.int x1), some (.int x2)], [.int s0], g, iv) = if ¬ s0 = 0 then pm_at X d 115 (22, [some (.ref 0), some (.int x1), some (.int x2)], [], g, iv) else pm_at X d 115 (19, [some (.ref 0), some (.int x1), some (.int x2)], [], g, iv) := by
  exact at_if_ne (t := 22) dc115_16 (by decide)
theorem b115_19 {X : pm_X} {d : Nat} {x1 : Int32} {x2 : Int32} {g : pm_G} {iv : pm_V}  : pm_at X d 115 (19, [some (.ref 0), some (.int x1), some (.int x2)], [], g, iv) = some (some (.int (-1000001)), g, iv) := by
  refine (at_ldc dc115_19 mc115 lk5_59).trans ?_
  exact at_iret dc115_21 mr115
theorem b115_22 {X : pm_X} {d : Nat} {x1 : Int32} {x2 : Int32} {g : pm_G} {iv : pm_V} (hL : pm_lay g) : pm_at X d 115 (22, [some (.ref 0), some (.int x1), some (.int x2)], [], g, iv) = pm_then X d 115 30 [some (.ref 0), some (.int x1), some (.int x2)] [] (pm_c X d 36 [.ref 11, .int x1] g iv) := by
  refine (at_aload_n dc115_22 rfl).trans ?_
  refine (at_gfR dc115_23 mc115 lf5_40 fo5_4 (ly0 hL) (lr0_4 hL)).trans ?_
  refine (at_iload_n dc115_26 rfl).trans ?_
  exact at_inv dc115_27 mc115 lm5_223 rfl rfl (Nat.le_of_ble_eq_true rfl) (Or.inl ⟨(ly11 hL), by decide⟩)
theorem b115_30 {X : pm_X} {d : Nat} {x1 : Int32} {x2 : Int32} {s0 : Int32} {g : pm_G} {iv : pm_V}  : pm_at X d 115 (30, [some (.ref 0), some (.int x1), some (.int x2)], [.int s0], g, iv) = pm_then X d 115 34 [some (.ref 0), some (.int x1), some (.int x2)] [] (pm_c X d 6 [.int s0, .int x2] g iv) := by
  refine (at_iload_n dc115_30 rfl).trans ?_
  exact at_ins dc115_31 mc115 lm5_226 (Nat.le_of_ble_eq_true rfl) rfl rfl (Nat.le_of_ble_eq_true rfl)
theorem b115_34 {X : pm_X} {d : Nat} {x1 : Int32} {x2 : Int32} {s0 : Int32} {g : pm_G} {iv : pm_V}  : pm_at X d 115 (34, [some (.ref 0), some (.int x1), some (.int x2)], [.int s0], g, iv) = if ¬ s0 = 0 then pm_at X d 115 (43, [some (.ref 0), some (.int x1), some (.int x2)], [], g, iv) else pm_at X d 115 (37, [some (.ref 0), some (.int x1), some (.int x2)], [], g, iv) := by
  exact at_if_ne (t := 43) dc115_34 (by decide)
theorem b115_37 {X : pm_X} {d : Nat} {x1 : Int32} {x2 : Int32} {g : pm_G} {iv : pm_V} (hL : pm_lay g) : pm_at X d 115 (37, [some (.ref 0), some (.int x1), some (.int x2)], [], g, iv) = pm_then X d 115 42 [some (.ref 0), some (.int x1), some (.int x2)] [] (pm_c X d 123 [.ref 0, .int 3] g iv) := by
  refine (at_aload_n dc115_37 rfl).trans ?_
  refine (at_iconst (v := 3) dc115_38 rfl).trans ?_
  exact at_inv dc115_39 mc115 lm5_60 rfl rfl (Nat.le_of_ble_eq_true rfl) (Or.inl ⟨(ly0 hL), by decide⟩)
theorem b115_42 {X : pm_X} {d : Nat} {x1 : Int32} {x2 : Int32} {s0 : Int32} {g : pm_G} {iv : pm_V}  : pm_at X d 115 (42, [some (.ref 0), some (.int x1), some (.int x2)], [.int s0], g, iv) = some (some (.int s0), g, iv) := by
  exact at_iret dc115_42 mr115
theorem b115_43 {X : pm_X} {d : Nat} {x1 : Int32} {x2 : Int32} {g : pm_G} {iv : pm_V} (hL : pm_lay g) : pm_at X d 115 (43, [some (.ref 0), some (.int x1), some (.int x2)], [], g, iv) = pm_then X d 115 48 [some (.ref 0), some (.int x1), some (.int x2)] [] (pm_c X d 124 [.ref 0, .int x1] g iv) := by
  refine (at_aload_n dc115_43 rfl).trans ?_
  refine (at_iload_n dc115_44 rfl).trans ?_
  exact at_inv dc115_45 mc115 lm5_68 rfl rfl (Nat.le_of_ble_eq_true rfl) (Or.inl ⟨(ly0 hL), by decide⟩)
theorem b115_48 {X : pm_X} {d : Nat} {x1 : Int32} {x2 : Int32} {s0 : Int32} {g : pm_G} {iv : pm_V}  : pm_at X d 115 (48, [some (.ref 0), some (.int x1), some (.int x2)], [.int s0], g, iv) = some (some (.int s0), g, iv) := by
  exact at_iret dc115_48 mr115
-- HH.ask (II)I
theorem dc116_0 : decode (pm_mb 116) 0 = .ok (.aload_n 0, 1) := by decide +kernel
theorem dc116_1 : decode (pm_mb 116) 1 = .ok (.getfield 40, 3) := by decide +kernel
theorem dc116_4 : decode (pm_mb 116) 4 = .ok (.iload_n 1, 1) := by decide +kernel
theorem dc116_5 : decode (pm_mb 116) 5 = .ok (.invokevirtual 139, 3) := by decide +kernel
theorem dc116_8 : decode (pm_mb 116) 8 = .ok (.ifCond .eq 11, 3) := by decide +kernel
theorem dc116_11 : decode (pm_mb 116) 11 = .ok (.iload_n 2, 1) := by decide +kernel
theorem dc116_12 : decode (pm_mb 116) 12 = .ok (.iconst 1, 1) := by decide +kernel
theorem dc116_13 : decode (pm_mb 116) 13 = .ok (.invokestatic 55, 3) := by decide +kernel
theorem dc116_16 : decode (pm_mb 116) 16 = .ok (.ifCond .ne 6, 3) := by decide +kernel
theorem dc116_19 : decode (pm_mb 116) 19 = .ok (.ldc 59, 2) := by decide +kernel
theorem dc116_21 : decode (pm_mb 116) 21 = .ok (.ireturn, 1) := by decide +kernel
theorem dc116_22 : decode (pm_mb 116) 22 = .ok (.aload_n 0, 1) := by decide +kernel
theorem dc116_23 : decode (pm_mb 116) 23 = .ok (.getfield 33, 3) := by decide +kernel
theorem dc116_26 : decode (pm_mb 116) 26 = .ok (.aload_n 0, 1) := by decide +kernel
theorem dc116_27 : decode (pm_mb 116) 27 = .ok (.getfield 40, 3) := by decide +kernel
theorem dc116_30 : decode (pm_mb 116) 30 = .ok (.iload_n 1, 1) := by decide +kernel
theorem dc116_31 : decode (pm_mb 116) 31 = .ok (.iload_n 2, 1) := by decide +kernel
theorem dc116_32 : decode (pm_mb 116) 32 = .ok (.invokevirtual 229, 3) := by decide +kernel
theorem dc116_35 : decode (pm_mb 116) 35 = .ok (.ireturn, 1) := by decide +kernel
theorem b116_0 {X : pm_X} {d : Nat} {x1 : Int32} {x2 : Int32} {g : pm_G} {iv : pm_V} (hL : pm_lay g) : pm_at X d 116 (0, [some (.ref 0), some (.int x1), some (.int x2)], [], g, iv) = pm_then X d 116 8 [some (.ref 0), some (.int x1), some (.int x2)] [] (pm_c X d 35 [.ref 11, .int x1] g iv) := by
  refine (at_aload_n dc116_0 rfl).trans ?_
  refine (at_gfR dc116_1 mc116 lf5_40 fo5_4 (ly0 hL) (lr0_4 hL)).trans ?_
  refine (at_iload_n dc116_4 rfl).trans ?_
  exact at_inv dc116_5 mc116 lm5_139 rfl rfl (Nat.le_of_ble_eq_true rfl) (Or.inl ⟨(ly11 hL), by decide⟩)
theorem b116_8 {X : pm_X} {d : Nat} {x1 : Int32} {x2 : Int32} {s0 : Int32} {g : pm_G} {iv : pm_V}  : pm_at X d 116 (8, [some (.ref 0), some (.int x1), some (.int x2)], [.int s0], g, iv) = if s0 = 0 then pm_at X d 116 (19, [some (.ref 0), some (.int x1), some (.int x2)], [], g, iv) else pm_at X d 116 (11, [some (.ref 0), some (.int x1), some (.int x2)], [], g, iv) := by
  exact at_if_eq (t := 19) dc116_8 (by decide)
theorem b116_11 {X : pm_X} {d : Nat} {x1 : Int32} {x2 : Int32} {g : pm_G} {iv : pm_V}  : pm_at X d 116 (11, [some (.ref 0), some (.int x1), some (.int x2)], [], g, iv) = pm_then X d 116 16 [some (.ref 0), some (.int x1), some (.int x2)] [] (pm_c X d 120 [.int x2, .int 1] g iv) := by
  refine (at_iload_n dc116_11 rfl).trans ?_
  refine (at_iconst (v := 1) dc116_12 rfl).trans ?_
  exact at_ins dc116_13 mc116 lm5_55 (Nat.le_of_ble_eq_true rfl) rfl rfl (Nat.le_of_ble_eq_true rfl)
theorem b116_16 {X : pm_X} {d : Nat} {x1 : Int32} {x2 : Int32} {s0 : Int32} {g : pm_G} {iv : pm_V}  : pm_at X d 116 (16, [some (.ref 0), some (.int x1), some (.int x2)], [.int s0], g, iv) = if ¬ s0 = 0 then pm_at X d 116 (22, [some (.ref 0), some (.int x1), some (.int x2)], [], g, iv) else pm_at X d 116 (19, [some (.ref 0), some (.int x1), some (.int x2)], [], g, iv) := by
  exact at_if_ne (t := 22) dc116_16 (by decide)
theorem b116_19 {X : pm_X} {d : Nat} {x1 : Int32} {x2 : Int32} {g : pm_G} {iv : pm_V}  : pm_at X d 116 (19, [some (.ref 0), some (.int x1), some (.int x2)], [], g, iv) = some (some (.int (-1000001)), g, iv) := by
  refine (at_ldc dc116_19 mc116 lk5_59).trans ?_
  exact at_iret dc116_21 mr116
theorem b116_22 {X : pm_X} {d : Nat} {x1 : Int32} {x2 : Int32} {g : pm_G} {iv : pm_V} (hL : pm_lay g) : pm_at X d 116 (22, [some (.ref 0), some (.int x1), some (.int x2)], [], g, iv) = pm_then X d 116 35 [some (.ref 0), some (.int x1), some (.int x2)] [] (pm_c X d 10 [.ref 9, .ref 11, .int x1, .int x2] g iv) := by
  refine (at_aload_n dc116_22 rfl).trans ?_
  refine (at_gfR dc116_23 mc116 lf5_33 fo5_3 (ly0 hL) (lr0_3 hL)).trans ?_
  refine (at_aload_n dc116_26 rfl).trans ?_
  refine (at_gfR dc116_27 mc116 lf5_40 fo5_4 (ly0 hL) (lr0_4 hL)).trans ?_
  refine (at_iload_n dc116_30 rfl).trans ?_
  refine (at_iload_n dc116_31 rfl).trans ?_
  exact at_inv dc116_32 mc116 lm5_229 rfl rfl (Nat.le_of_ble_eq_true rfl) (Or.inl ⟨(ly9 hL), by decide⟩)
theorem b116_35 {X : pm_X} {d : Nat} {x1 : Int32} {x2 : Int32} {s0 : Int32} {g : pm_G} {iv : pm_V}  : pm_at X d 116 (35, [some (.ref 0), some (.int x1), some (.int x2)], [.int s0], g, iv) = some (some (.int s0), g, iv) := by
  exact at_iret dc116_35 mr116
-- HH.trace (I)I
theorem dc117_0 : decode (pm_mb 117) 0 = .ok (.aload_n 0, 1) := by decide +kernel
theorem dc117_1 : decode (pm_mb 117) 1 = .ok (.getfield 33, 3) := by decide +kernel
theorem dc117_4 : decode (pm_mb 117) 4 = .ok (.iload_n 1, 1) := by decide +kernel
theorem dc117_5 : decode (pm_mb 117) 5 = .ok (.invokevirtual 233, 3) := by decide +kernel
theorem dc117_8 : decode (pm_mb 117) 8 = .ok (.ireturn, 1) := by decide +kernel
theorem b117_0 {X : pm_X} {d : Nat} {x1 : Int32} {g : pm_G} {iv : pm_V} (hL : pm_lay g) : pm_at X d 117 (0, [some (.ref 0), some (.int x1)], [], g, iv) = pm_then X d 117 8 [some (.ref 0), some (.int x1)] [] (pm_c X d 9 [.ref 9, .int x1] g iv) := by
  refine (at_aload_n dc117_0 rfl).trans ?_
  refine (at_gfR dc117_1 mc117 lf5_33 fo5_3 (ly0 hL) (lr0_3 hL)).trans ?_
  refine (at_iload_n dc117_4 rfl).trans ?_
  exact at_inv dc117_5 mc117 lm5_233 rfl rfl (Nat.le_of_ble_eq_true rfl) (Or.inl ⟨(ly9 hL), by decide⟩)
theorem b117_8 {X : pm_X} {d : Nat} {x1 : Int32} {s0 : Int32} {g : pm_G} {iv : pm_V}  : pm_at X d 117 (8, [some (.ref 0), some (.int x1)], [.int s0], g, iv) = some (some (.int s0), g, iv) := by
  exact at_iret dc117_8 mr117
-- HH.count (I)I
theorem dc118_0 : decode (pm_mb 118) 0 = .ok (.iload_n 1, 1) := by decide +kernel
theorem dc118_1 : decode (pm_mb 118) 1 = .ok (.tableswitch 99 0 6 #[43, 51, 59, 67, 75, 83, 91], 43) := by decide +kernel
theorem dc118_44 : decode (pm_mb 118) 44 = .ok (.aload_n 0, 1) := by decide +kernel
theorem dc118_45 : decode (pm_mb 118) 45 = .ok (.getfield 10, 3) := by decide +kernel
theorem dc118_48 : decode (pm_mb 118) 48 = .ok (.invokevirtual 236, 3) := by decide +kernel
theorem dc118_51 : decode (pm_mb 118) 51 = .ok (.ireturn, 1) := by decide +kernel
theorem dc118_52 : decode (pm_mb 118) 52 = .ok (.aload_n 0, 1) := by decide +kernel
theorem dc118_53 : decode (pm_mb 118) 53 = .ok (.getfield 40, 3) := by decide +kernel
theorem dc118_56 : decode (pm_mb 118) 56 = .ok (.invokevirtual 119, 3) := by decide +kernel
theorem dc118_59 : decode (pm_mb 118) 59 = .ok (.ireturn, 1) := by decide +kernel
theorem dc118_60 : decode (pm_mb 118) 60 = .ok (.aload_n 0, 1) := by decide +kernel
theorem dc118_61 : decode (pm_mb 118) 61 = .ok (.getfield 40, 3) := by decide +kernel
theorem dc118_64 : decode (pm_mb 118) 64 = .ok (.invokevirtual 237, 3) := by decide +kernel
theorem dc118_67 : decode (pm_mb 118) 67 = .ok (.ireturn, 1) := by decide +kernel
theorem dc118_68 : decode (pm_mb 118) 68 = .ok (.aload_n 0, 1) := by decide +kernel
theorem dc118_69 : decode (pm_mb 118) 69 = .ok (.getfield 40, 3) := by decide +kernel
theorem dc118_72 : decode (pm_mb 118) 72 = .ok (.invokevirtual 130, 3) := by decide +kernel
theorem dc118_75 : decode (pm_mb 118) 75 = .ok (.ireturn, 1) := by decide +kernel
theorem dc118_76 : decode (pm_mb 118) 76 = .ok (.aload_n 0, 1) := by decide +kernel
theorem dc118_77 : decode (pm_mb 118) 77 = .ok (.getfield 26, 3) := by decide +kernel
theorem dc118_80 : decode (pm_mb 118) 80 = .ok (.invokevirtual 161, 3) := by decide +kernel
theorem dc118_83 : decode (pm_mb 118) 83 = .ok (.ireturn, 1) := by decide +kernel
theorem dc118_84 : decode (pm_mb 118) 84 = .ok (.aload_n 0, 1) := by decide +kernel
theorem dc118_85 : decode (pm_mb 118) 85 = .ok (.getfield 40, 3) := by decide +kernel
theorem dc118_88 : decode (pm_mb 118) 88 = .ok (.invokevirtual 240, 3) := by decide +kernel
theorem dc118_91 : decode (pm_mb 118) 91 = .ok (.ireturn, 1) := by decide +kernel
theorem dc118_92 : decode (pm_mb 118) 92 = .ok (.aload_n 0, 1) := by decide +kernel
theorem dc118_93 : decode (pm_mb 118) 93 = .ok (.getfield 19, 3) := by decide +kernel
theorem dc118_96 : decode (pm_mb 118) 96 = .ok (.invokevirtual 96, 3) := by decide +kernel
theorem dc118_99 : decode (pm_mb 118) 99 = .ok (.ireturn, 1) := by decide +kernel
theorem dc118_100 : decode (pm_mb 118) 100 = .ok (.ldc 59, 2) := by decide +kernel
theorem dc118_102 : decode (pm_mb 118) 102 = .ok (.ireturn, 1) := by decide +kernel
theorem b118_0_c0 {X : pm_X} {d : Nat} {x1 : Int32} {g : pm_G} {iv : pm_V} (hx : x1 = 0) : pm_at X d 118 (0, [some (.ref 0), some (.int x1)], [], g, iv) = pm_at X d 118 (44, [some (.ref 0), some (.int x1)], [], g, iv) := by
  refine (at_iload_n dc118_0 rfl).trans ?_
  rw [hx]
  exact at_tswI (t := 44) dc118_1 (by decide) rfl (by decide)
theorem b118_0_c1 {X : pm_X} {d : Nat} {x1 : Int32} {g : pm_G} {iv : pm_V} (hx : x1 = 1) : pm_at X d 118 (0, [some (.ref 0), some (.int x1)], [], g, iv) = pm_at X d 118 (52, [some (.ref 0), some (.int x1)], [], g, iv) := by
  refine (at_iload_n dc118_0 rfl).trans ?_
  rw [hx]
  exact at_tswI (t := 52) dc118_1 (by decide) rfl (by decide)
theorem b118_0_c2 {X : pm_X} {d : Nat} {x1 : Int32} {g : pm_G} {iv : pm_V} (hx : x1 = 2) : pm_at X d 118 (0, [some (.ref 0), some (.int x1)], [], g, iv) = pm_at X d 118 (60, [some (.ref 0), some (.int x1)], [], g, iv) := by
  refine (at_iload_n dc118_0 rfl).trans ?_
  rw [hx]
  exact at_tswI (t := 60) dc118_1 (by decide) rfl (by decide)
theorem b118_0_c3 {X : pm_X} {d : Nat} {x1 : Int32} {g : pm_G} {iv : pm_V} (hx : x1 = 3) : pm_at X d 118 (0, [some (.ref 0), some (.int x1)], [], g, iv) = pm_at X d 118 (68, [some (.ref 0), some (.int x1)], [], g, iv) := by
  refine (at_iload_n dc118_0 rfl).trans ?_
  rw [hx]
  exact at_tswI (t := 68) dc118_1 (by decide) rfl (by decide)
theorem b118_0_c4 {X : pm_X} {d : Nat} {x1 : Int32} {g : pm_G} {iv : pm_V} (hx : x1 = 4) : pm_at X d 118 (0, [some (.ref 0), some (.int x1)], [], g, iv) = pm_at X d 118 (76, [some (.ref 0), some (.int x1)], [], g, iv) := by
  refine (at_iload_n dc118_0 rfl).trans ?_
  rw [hx]
  exact at_tswI (t := 76) dc118_1 (by decide) rfl (by decide)
theorem b118_0_c5 {X : pm_X} {d : Nat} {x1 : Int32} {g : pm_G} {iv : pm_V} (hx : x1 = 5) : pm_at X d 118 (0, [some (.ref 0), some (.int x1)], [], g, iv) = pm_at X d 118 (84, [some (.ref 0), some (.int x1)], [], g, iv) := by
  refine (at_iload_n dc118_0 rfl).trans ?_
  rw [hx]
  exact at_tswI (t := 84) dc118_1 (by decide) rfl (by decide)
theorem b118_0_c6 {X : pm_X} {d : Nat} {x1 : Int32} {g : pm_G} {iv : pm_V} (hx : x1 = 6) : pm_at X d 118 (0, [some (.ref 0), some (.int x1)], [], g, iv) = pm_at X d 118 (92, [some (.ref 0), some (.int x1)], [], g, iv) := by
  refine (at_iload_n dc118_0 rfl).trans ?_
  rw [hx]
  exact at_tswI (t := 92) dc118_1 (by decide) rfl (by decide)
theorem b118_0_df {X : pm_X} {d : Nat} {x1 : Int32} {g : pm_G} {iv : pm_V}  (hx : x1.toInt < 0 ∨ 6 < x1.toInt) : pm_at X d 118 (0, [some (.ref 0), some (.int x1)], [], g, iv) = pm_at X d 118 (100, [some (.ref 0), some (.int x1)], [], g, iv) := by
  refine (at_iload_n dc118_0 rfl).trans ?_
  exact at_tswO (t := 100) dc118_1 hx (by decide)
theorem b118_44 {X : pm_X} {d : Nat} {x1 : Int32} {g : pm_G} {iv : pm_V} (hL : pm_lay g) : pm_at X d 118 (44, [some (.ref 0), some (.int x1)], [], g, iv) = pm_then X d 118 51 [some (.ref 0), some (.int x1)] [] (pm_c X d 19 [.ref 1] g iv) := by
  refine (at_aload_n dc118_44 rfl).trans ?_
  refine (at_gfR dc118_45 mc118 lf5_10 fo5_0 (ly0 hL) (lr0_0 hL)).trans ?_
  exact at_inv dc118_48 mc118 lm5_236 rfl rfl (Nat.le_of_ble_eq_true rfl) (Or.inl ⟨(ly1 hL), by decide⟩)
theorem b118_51 {X : pm_X} {d : Nat} {x1 : Int32} {s0 : Int32} {g : pm_G} {iv : pm_V}  : pm_at X d 118 (51, [some (.ref 0), some (.int x1)], [.int s0], g, iv) = some (some (.int s0), g, iv) := by
  exact at_iret dc118_51 mr118
theorem b118_52 {X : pm_X} {d : Nat} {x1 : Int32} {g : pm_G} {iv : pm_V} (hL : pm_lay g) : pm_at X d 118 (52, [some (.ref 0), some (.int x1)], [], g, iv) = pm_then X d 118 59 [some (.ref 0), some (.int x1)] [] (pm_c X d 29 [.ref 11] g iv) := by
  refine (at_aload_n dc118_52 rfl).trans ?_
  refine (at_gfR dc118_53 mc118 lf5_40 fo5_4 (ly0 hL) (lr0_4 hL)).trans ?_
  exact at_inv dc118_56 mc118 lm5_119 rfl rfl (Nat.le_of_ble_eq_true rfl) (Or.inl ⟨(ly11 hL), by decide⟩)
theorem b118_59 {X : pm_X} {d : Nat} {x1 : Int32} {s0 : Int32} {g : pm_G} {iv : pm_V}  : pm_at X d 118 (59, [some (.ref 0), some (.int x1)], [.int s0], g, iv) = some (some (.int s0), g, iv) := by
  exact at_iret dc118_59 mr118
theorem b118_60 {X : pm_X} {d : Nat} {x1 : Int32} {g : pm_G} {iv : pm_V} (hL : pm_lay g) : pm_at X d 118 (60, [some (.ref 0), some (.int x1)], [], g, iv) = pm_then X d 118 67 [some (.ref 0), some (.int x1)] [] (pm_c X d 32 [.ref 11] g iv) := by
  refine (at_aload_n dc118_60 rfl).trans ?_
  refine (at_gfR dc118_61 mc118 lf5_40 fo5_4 (ly0 hL) (lr0_4 hL)).trans ?_
  exact at_inv dc118_64 mc118 lm5_237 rfl rfl (Nat.le_of_ble_eq_true rfl) (Or.inl ⟨(ly11 hL), by decide⟩)
theorem b118_67 {X : pm_X} {d : Nat} {x1 : Int32} {s0 : Int32} {g : pm_G} {iv : pm_V}  : pm_at X d 118 (67, [some (.ref 0), some (.int x1)], [.int s0], g, iv) = some (some (.int s0), g, iv) := by
  exact at_iret dc118_67 mr118
theorem b118_68 {X : pm_X} {d : Nat} {x1 : Int32} {g : pm_G} {iv : pm_V} (hL : pm_lay g) : pm_at X d 118 (68, [some (.ref 0), some (.int x1)], [], g, iv) = pm_then X d 118 75 [some (.ref 0), some (.int x1)] [] (pm_c X d 30 [.ref 11] g iv) := by
  refine (at_aload_n dc118_68 rfl).trans ?_
  refine (at_gfR dc118_69 mc118 lf5_40 fo5_4 (ly0 hL) (lr0_4 hL)).trans ?_
  exact at_inv dc118_72 mc118 lm5_130 rfl rfl (Nat.le_of_ble_eq_true rfl) (Or.inl ⟨(ly11 hL), by decide⟩)
theorem b118_75 {X : pm_X} {d : Nat} {x1 : Int32} {s0 : Int32} {g : pm_G} {iv : pm_V}  : pm_at X d 118 (75, [some (.ref 0), some (.int x1)], [.int s0], g, iv) = some (some (.int s0), g, iv) := by
  exact at_iret dc118_75 mr118
theorem b118_76 {X : pm_X} {d : Nat} {x1 : Int32} {g : pm_G} {iv : pm_V} (hL : pm_lay g) : pm_at X d 118 (76, [some (.ref 0), some (.int x1)], [], g, iv) = pm_then X d 118 83 [some (.ref 0), some (.int x1)] [] (pm_c X d 1 [.ref 7] g iv) := by
  refine (at_aload_n dc118_76 rfl).trans ?_
  refine (at_gfR dc118_77 mc118 lf5_26 fo5_2 (ly0 hL) (lr0_2 hL)).trans ?_
  exact at_inv dc118_80 mc118 lm5_161 rfl rfl (Nat.le_of_ble_eq_true rfl) (Or.inl ⟨(ly7 hL), by decide⟩)
theorem b118_83 {X : pm_X} {d : Nat} {x1 : Int32} {s0 : Int32} {g : pm_G} {iv : pm_V}  : pm_at X d 118 (83, [some (.ref 0), some (.int x1)], [.int s0], g, iv) = some (some (.int s0), g, iv) := by
  exact at_iret dc118_83 mr118
theorem b118_84 {X : pm_X} {d : Nat} {x1 : Int32} {g : pm_G} {iv : pm_V} (hL : pm_lay g) : pm_at X d 118 (84, [some (.ref 0), some (.int x1)], [], g, iv) = pm_then X d 118 91 [some (.ref 0), some (.int x1)] [] (pm_c X d 31 [.ref 11] g iv) := by
  refine (at_aload_n dc118_84 rfl).trans ?_
  refine (at_gfR dc118_85 mc118 lf5_40 fo5_4 (ly0 hL) (lr0_4 hL)).trans ?_
  exact at_inv dc118_88 mc118 lm5_240 rfl rfl (Nat.le_of_ble_eq_true rfl) (Or.inl ⟨(ly11 hL), by decide⟩)
theorem b118_91 {X : pm_X} {d : Nat} {x1 : Int32} {s0 : Int32} {g : pm_G} {iv : pm_V}  : pm_at X d 118 (91, [some (.ref 0), some (.int x1)], [.int s0], g, iv) = some (some (.int s0), g, iv) := by
  exact at_iret dc118_91 mr118
theorem b118_92 {X : pm_X} {d : Nat} {x1 : Int32} {g : pm_G} {iv : pm_V} (hL : pm_lay g) : pm_at X d 118 (92, [some (.ref 0), some (.int x1)], [], g, iv) = pm_then X d 118 99 [some (.ref 0), some (.int x1)] [] (pm_c X d 67 [.ref 5] g iv) := by
  refine (at_aload_n dc118_92 rfl).trans ?_
  refine (at_gfR dc118_93 mc118 lf5_19 fo5_1 (ly0 hL) (lr0_1 hL)).trans ?_
  exact at_inv dc118_96 mc118 lm5_96 rfl rfl (Nat.le_of_ble_eq_true rfl) (Or.inl ⟨(ly5 hL), by decide⟩)
theorem b118_99 {X : pm_X} {d : Nat} {x1 : Int32} {s0 : Int32} {g : pm_G} {iv : pm_V}  : pm_at X d 118 (99, [some (.ref 0), some (.int x1)], [.int s0], g, iv) = some (some (.int s0), g, iv) := by
  exact at_iret dc118_99 mr118
theorem b118_100 {X : pm_X} {d : Nat} {x1 : Int32} {g : pm_G} {iv : pm_V}  : pm_at X d 118 (100, [some (.ref 0), some (.int x1)], [], g, iv) = some (some (.int (-1000001)), g, iv) := by
  refine (at_ldc dc118_100 mc118 lk5_59).trans ?_
  exact at_iret dc118_102 mr118
-- HH.status ()I
theorem dc119_0 : decode (pm_mb 119) 0 = .ok (.aload_n 0, 1) := by decide +kernel
theorem dc119_1 : decode (pm_mb 119) 1 = .ok (.getfield 243, 3) := by decide +kernel
theorem dc119_4 : decode (pm_mb 119) 4 = .ok (.ireturn, 1) := by decide +kernel
theorem b119_0 {X : pm_X} {d : Nat} {g : pm_G} {iv : pm_V} (hL : pm_lay g) : pm_at X d 119 (0, [some (.ref 0)], [], g, iv) = some (some (.int (iv 0 7)), g, iv) := by
  refine (at_aload_n dc119_0 rfl).trans ?_
  refine (at_gfI dc119_1 mc119 lf5_243 fo5_7 (ly0 hL)).trans ?_
  exact at_iret dc119_4 mr119
-- HH.isUpTo (II)Z
theorem dc120_0 : decode (pm_mb 120) 0 = .ok (.iload_n 0, 1) := by decide +kernel
theorem dc120_1 : decode (pm_mb 120) 1 = .ok (.ifCond .lt 12, 3) := by decide +kernel
theorem dc120_4 : decode (pm_mb 120) 4 = .ok (.iload_n 0, 1) := by decide +kernel
theorem dc120_5 : decode (pm_mb 120) 5 = .ok (.iload_n 1, 1) := by decide +kernel
theorem dc120_6 : decode (pm_mb 120) 6 = .ok (.if_icmp .gt 7, 3) := by decide +kernel
theorem dc120_9 : decode (pm_mb 120) 9 = .ok (.iconst 1, 1) := by decide +kernel
theorem dc120_10 : decode (pm_mb 120) 10 = .ok (.goto 4, 3) := by decide +kernel
theorem dc120_13 : decode (pm_mb 120) 13 = .ok (.iconst 0, 1) := by decide +kernel
theorem dc120_14 : decode (pm_mb 120) 14 = .ok (.ireturn, 1) := by decide +kernel
theorem b120_0 {X : pm_X} {d : Nat} {x0 : Int32} {x1 : Int32} {g : pm_G} {iv : pm_V}  : pm_at X d 120 (0, [some (.int x0), some (.int x1)], [], g, iv) = if x0 < 0 then pm_at X d 120 (13, [some (.int x0), some (.int x1)], [], g, iv) else pm_at X d 120 (4, [some (.int x0), some (.int x1)], [], g, iv) := by
  refine (at_iload_n dc120_0 rfl).trans ?_
  exact at_if_lt (t := 13) dc120_1 (by decide)
theorem b120_4 {X : pm_X} {d : Nat} {x0 : Int32} {x1 : Int32} {g : pm_G} {iv : pm_V}  : pm_at X d 120 (4, [some (.int x0), some (.int x1)], [], g, iv) = if x1 < x0 then pm_at X d 120 (13, [some (.int x0), some (.int x1)], [], g, iv) else pm_at X d 120 (9, [some (.int x0), some (.int x1)], [], g, iv) := by
  refine (at_iload_n dc120_4 rfl).trans ?_
  refine (at_iload_n dc120_5 rfl).trans ?_
  exact at_icmp_gt (t := 13) dc120_6 (by decide)
theorem b120_9 {X : pm_X} {d : Nat} {x0 : Int32} {x1 : Int32} {g : pm_G} {iv : pm_V}  : pm_at X d 120 (9, [some (.int x0), some (.int x1)], [], g, iv) = pm_at X d 120 (14, [some (.int x0), some (.int x1)], [.int 1], g, iv) := by
  refine (at_iconst (v := 1) dc120_9 rfl).trans ?_
  refine (at_goto (t := 14) dc120_10 (by decide)).trans ?_
  rfl
theorem b120_13 {X : pm_X} {d : Nat} {x0 : Int32} {x1 : Int32} {g : pm_G} {iv : pm_V}  : pm_at X d 120 (13, [some (.int x0), some (.int x1)], [], g, iv) = pm_at X d 120 (14, [some (.int x0), some (.int x1)], [.int 0], g, iv) := by
  refine (at_iconst (v := 0) dc120_13 rfl).trans ?_
  rfl
theorem b120_14 {X : pm_X} {d : Nat} {x0 : Int32} {x1 : Int32} {s0 : Int32} {g : pm_G} {iv : pm_V}  : pm_at X d 120 (14, [some (.int x0), some (.int x1)], [.int s0], g, iv) = pm_zr s0 (some (some (.int s0), g, iv)) := by
  exact at_zretG dc120_14 mr120
-- HH.isRow (I)Z
theorem dc121_0 : decode (pm_mb 121) 0 = .ok (.iload_n 0, 1) := by decide +kernel
theorem dc121_1 : decode (pm_mb 121) 1 = .ok (.bipush 7, 2) := by decide +kernel
theorem dc121_3 : decode (pm_mb 121) 3 = .ok (.invokestatic 55, 3) := by decide +kernel
theorem dc121_6 : decode (pm_mb 121) 6 = .ok (.ireturn, 1) := by decide +kernel
theorem b121_0 {X : pm_X} {d : Nat} {x0 : Int32} {g : pm_G} {iv : pm_V}  : pm_at X d 121 (0, [some (.int x0)], [], g, iv) = pm_then X d 121 6 [some (.int x0)] [] (pm_c X d 120 [.int x0, .int 7] g iv) := by
  refine (at_iload_n dc121_0 rfl).trans ?_
  refine (at_bipush (v := 7) dc121_1 (by decide)).trans ?_
  exact at_ins dc121_3 mc121 lm5_55 (Nat.le_of_ble_eq_true rfl) rfl rfl (Nat.le_of_ble_eq_true rfl)
theorem b121_6 {X : pm_X} {d : Nat} {x0 : Int32} {s0 : Int32} {g : pm_G} {iv : pm_V}  : pm_at X d 121 (6, [some (.int x0)], [.int s0], g, iv) = pm_zr s0 (some (some (.int s0), g, iv)) := by
  exact at_zretG dc121_6 mr121
-- HH.isPair (II)Z
theorem dc122_0 : decode (pm_mb 122) 0 = .ok (.aload_n 0, 1) := by decide +kernel
theorem dc122_1 : decode (pm_mb 122) 1 = .ok (.getfield 40, 3) := by decide +kernel
theorem dc122_4 : decode (pm_mb 122) 4 = .ok (.iload_n 1, 1) := by decide +kernel
theorem dc122_5 : decode (pm_mb 122) 5 = .ok (.invokevirtual 139, 3) := by decide +kernel
theorem dc122_8 : decode (pm_mb 122) 8 = .ok (.ifCond .eq 23, 3) := by decide +kernel
theorem dc122_11 : decode (pm_mb 122) 11 = .ok (.aload_n 0, 1) := by decide +kernel
theorem dc122_12 : decode (pm_mb 122) 12 = .ok (.getfield 40, 3) := by decide +kernel
theorem dc122_15 : decode (pm_mb 122) 15 = .ok (.iload_n 2, 1) := by decide +kernel
theorem dc122_16 : decode (pm_mb 122) 16 = .ok (.invokevirtual 139, 3) := by decide +kernel
theorem dc122_19 : decode (pm_mb 122) 19 = .ok (.ifCond .eq 12, 3) := by decide +kernel
theorem dc122_22 : decode (pm_mb 122) 22 = .ok (.iload_n 1, 1) := by decide +kernel
theorem dc122_23 : decode (pm_mb 122) 23 = .ok (.iload_n 2, 1) := by decide +kernel
theorem dc122_24 : decode (pm_mb 122) 24 = .ok (.if_icmp .eq 7, 3) := by decide +kernel
theorem dc122_27 : decode (pm_mb 122) 27 = .ok (.iconst 1, 1) := by decide +kernel
theorem dc122_28 : decode (pm_mb 122) 28 = .ok (.goto 4, 3) := by decide +kernel
theorem dc122_31 : decode (pm_mb 122) 31 = .ok (.iconst 0, 1) := by decide +kernel
theorem dc122_32 : decode (pm_mb 122) 32 = .ok (.ireturn, 1) := by decide +kernel
theorem b122_0 {X : pm_X} {d : Nat} {x1 : Int32} {x2 : Int32} {g : pm_G} {iv : pm_V} (hL : pm_lay g) : pm_at X d 122 (0, [some (.ref 0), some (.int x1), some (.int x2)], [], g, iv) = pm_then X d 122 8 [some (.ref 0), some (.int x1), some (.int x2)] [] (pm_c X d 35 [.ref 11, .int x1] g iv) := by
  refine (at_aload_n dc122_0 rfl).trans ?_
  refine (at_gfR dc122_1 mc122 lf5_40 fo5_4 (ly0 hL) (lr0_4 hL)).trans ?_
  refine (at_iload_n dc122_4 rfl).trans ?_
  exact at_inv dc122_5 mc122 lm5_139 rfl rfl (Nat.le_of_ble_eq_true rfl) (Or.inl ⟨(ly11 hL), by decide⟩)
theorem b122_8 {X : pm_X} {d : Nat} {x1 : Int32} {x2 : Int32} {s0 : Int32} {g : pm_G} {iv : pm_V}  : pm_at X d 122 (8, [some (.ref 0), some (.int x1), some (.int x2)], [.int s0], g, iv) = if s0 = 0 then pm_at X d 122 (31, [some (.ref 0), some (.int x1), some (.int x2)], [], g, iv) else pm_at X d 122 (11, [some (.ref 0), some (.int x1), some (.int x2)], [], g, iv) := by
  exact at_if_eq (t := 31) dc122_8 (by decide)
theorem b122_11 {X : pm_X} {d : Nat} {x1 : Int32} {x2 : Int32} {g : pm_G} {iv : pm_V} (hL : pm_lay g) : pm_at X d 122 (11, [some (.ref 0), some (.int x1), some (.int x2)], [], g, iv) = pm_then X d 122 19 [some (.ref 0), some (.int x1), some (.int x2)] [] (pm_c X d 35 [.ref 11, .int x2] g iv) := by
  refine (at_aload_n dc122_11 rfl).trans ?_
  refine (at_gfR dc122_12 mc122 lf5_40 fo5_4 (ly0 hL) (lr0_4 hL)).trans ?_
  refine (at_iload_n dc122_15 rfl).trans ?_
  exact at_inv dc122_16 mc122 lm5_139 rfl rfl (Nat.le_of_ble_eq_true rfl) (Or.inl ⟨(ly11 hL), by decide⟩)
theorem b122_19 {X : pm_X} {d : Nat} {x1 : Int32} {x2 : Int32} {s0 : Int32} {g : pm_G} {iv : pm_V}  : pm_at X d 122 (19, [some (.ref 0), some (.int x1), some (.int x2)], [.int s0], g, iv) = if s0 = 0 then pm_at X d 122 (31, [some (.ref 0), some (.int x1), some (.int x2)], [], g, iv) else pm_at X d 122 (22, [some (.ref 0), some (.int x1), some (.int x2)], [], g, iv) := by
  exact at_if_eq (t := 31) dc122_19 (by decide)
theorem b122_22 {X : pm_X} {d : Nat} {x1 : Int32} {x2 : Int32} {g : pm_G} {iv : pm_V}  : pm_at X d 122 (22, [some (.ref 0), some (.int x1), some (.int x2)], [], g, iv) = if x1 = x2 then pm_at X d 122 (31, [some (.ref 0), some (.int x1), some (.int x2)], [], g, iv) else pm_at X d 122 (27, [some (.ref 0), some (.int x1), some (.int x2)], [], g, iv) := by
  refine (at_iload_n dc122_22 rfl).trans ?_
  refine (at_iload_n dc122_23 rfl).trans ?_
  exact at_icmp_eq (t := 31) dc122_24 (by decide)
theorem b122_27 {X : pm_X} {d : Nat} {x1 : Int32} {x2 : Int32} {g : pm_G} {iv : pm_V}  : pm_at X d 122 (27, [some (.ref 0), some (.int x1), some (.int x2)], [], g, iv) = pm_at X d 122 (32, [some (.ref 0), some (.int x1), some (.int x2)], [.int 1], g, iv) := by
  refine (at_iconst (v := 1) dc122_27 rfl).trans ?_
  refine (at_goto (t := 32) dc122_28 (by decide)).trans ?_
  rfl
theorem b122_31 {X : pm_X} {d : Nat} {x1 : Int32} {x2 : Int32} {g : pm_G} {iv : pm_V}  : pm_at X d 122 (31, [some (.ref 0), some (.int x1), some (.int x2)], [], g, iv) = pm_at X d 122 (32, [some (.ref 0), some (.int x1), some (.int x2)], [.int 0], g, iv) := by
  refine (at_iconst (v := 0) dc122_31 rfl).trans ?_
  rfl
theorem b122_32 {X : pm_X} {d : Nat} {x1 : Int32} {x2 : Int32} {s0 : Int32} {g : pm_G} {iv : pm_V}  : pm_at X d 122 (32, [some (.ref 0), some (.int x1), some (.int x2)], [.int s0], g, iv) = pm_zr s0 (some (some (.int s0), g, iv)) := by
  exact at_zretG dc122_32 mr122
-- HH.found (I)I
theorem dc123_0 : decode (pm_mb 123) 0 = .ok (.aload_n 0, 1) := by decide +kernel
theorem dc123_1 : decode (pm_mb 123) 1 = .ok (.iload_n 1, 1) := by decide +kernel
theorem dc123_2 : decode (pm_mb 123) 2 = .ok (.putfield 243, 3) := by decide +kernel
theorem dc123_5 : decode (pm_mb 123) 5 = .ok (.ldc 247, 2) := by decide +kernel
theorem dc123_7 : decode (pm_mb 123) 7 = .ok (.iload_n 1, 1) := by decide +kernel
theorem dc123_8 : decode (pm_mb 123) 8 = .ok (.isub, 1) := by decide +kernel
theorem dc123_9 : decode (pm_mb 123) 9 = .ok (.ireturn, 1) := by decide +kernel
theorem b123_0 {X : pm_X} {d : Nat} {x1 : Int32} {g : pm_G} {iv : pm_V} (hL : pm_lay g) : pm_at X d 123 (0, [some (.ref 0), some (.int x1)], [], g, iv) = some (some (.int ((-1000010) - x1)), g, (pm_iw iv 0 7 x1)) := by
  refine (at_aload_n dc123_0 rfl).trans ?_
  refine (at_iload_n dc123_1 rfl).trans ?_
  refine (at_pfI dc123_2 mc123 lf5_243 po5_7 (ly0 hL)).trans ?_
  refine (at_ldc dc123_5 mc123 lk5_247).trans ?_
  refine (at_iload_n dc123_7 rfl).trans ?_
  refine (at_isub dc123_8).trans ?_
  exact at_iret dc123_9 mr123
-- HH.answered (I)I
theorem dc124_0 : decode (pm_mb 124) 0 = .ok (.aload_n 0, 1) := by decide +kernel
theorem dc124_1 : decode (pm_mb 124) 1 = .ok (.iconst 0, 1) := by decide +kernel
theorem dc124_2 : decode (pm_mb 124) 2 = .ok (.putfield 243, 3) := by decide +kernel
theorem dc124_5 : decode (pm_mb 124) 5 = .ok (.iload_n 1, 1) := by decide +kernel
theorem dc124_6 : decode (pm_mb 124) 6 = .ok (.ireturn, 1) := by decide +kernel
theorem b124_0 {X : pm_X} {d : Nat} {x1 : Int32} {g : pm_G} {iv : pm_V} (hL : pm_lay g) : pm_at X d 124 (0, [some (.ref 0), some (.int x1)], [], g, iv) = some (some (.int x1), g, (pm_iw iv 0 7 0)) := by
  refine (at_aload_n dc124_0 rfl).trans ?_
  refine (at_iconst (v := 0) dc124_1 rfl).trans ?_
  refine (at_pfI dc124_2 mc124 lf5_243 po5_7 (ly0 hL)).trans ?_
  refine (at_iload_n dc124_5 rfl).trans ?_
  exact at_iret dc124_6 mr124
-- HH.chockAsAct (II)I
theorem dc125_0 : decode (pm_mb 125) 0 = .ok (.aload_n 0, 1) := by decide +kernel
theorem dc125_1 : decode (pm_mb 125) 1 = .ok (.getfield 26, 3) := by decide +kernel
theorem dc125_4 : decode (pm_mb 125) 4 = .ok (.aload_n 0, 1) := by decide +kernel
theorem dc125_5 : decode (pm_mb 125) 5 = .ok (.getfield 40, 3) := by decide +kernel
theorem dc125_8 : decode (pm_mb 125) 8 = .ok (.invokevirtual 133, 3) := by decide +kernel
theorem dc125_11 : decode (pm_mb 125) 11 = .ok (.aload_n 0, 1) := by decide +kernel
theorem dc125_12 : decode (pm_mb 125) 12 = .ok (.getfield 40, 3) := by decide +kernel
theorem dc125_15 : decode (pm_mb 125) 15 = .ok (.iload_n 1, 1) := by decide +kernel
theorem dc125_16 : decode (pm_mb 125) 16 = .ok (.invokevirtual 169, 3) := by decide +kernel
theorem dc125_19 : decode (pm_mb 125) 19 = .ok (.ifCond .eq 7, 3) := by decide +kernel
theorem dc125_22 : decode (pm_mb 125) 22 = .ok (.iconst 1, 1) := by decide +kernel
theorem dc125_23 : decode (pm_mb 125) 23 = .ok (.goto 4, 3) := by decide +kernel
theorem dc125_26 : decode (pm_mb 125) 26 = .ok (.iconst 0, 1) := by decide +kernel
theorem dc125_27 : decode (pm_mb 125) 27 = .ok (.istore_n 3, 1) := by decide +kernel
theorem dc125_28 : decode (pm_mb 125) 28 = .ok (.aload_n 0, 1) := by decide +kernel
theorem dc125_29 : decode (pm_mb 125) 29 = .ok (.getfield 40, 3) := by decide +kernel
theorem dc125_32 : decode (pm_mb 125) 32 = .ok (.iload_n 1, 1) := by decide +kernel
theorem dc125_33 : decode (pm_mb 125) 33 = .ok (.iload_n 2, 1) := by decide +kernel
theorem dc125_34 : decode (pm_mb 125) 34 = .ok (.iconst 1, 1) := by decide +kernel
theorem dc125_35 : decode (pm_mb 125) 35 = .ok (.if_icmp .ne 7, 3) := by decide +kernel
theorem dc125_38 : decode (pm_mb 125) 38 = .ok (.iconst 1, 1) := by decide +kernel
theorem dc125_39 : decode (pm_mb 125) 39 = .ok (.goto 4, 3) := by decide +kernel
theorem dc125_42 : decode (pm_mb 125) 42 = .ok (.iconst 0, 1) := by decide +kernel
theorem dc125_43 : decode (pm_mb 125) 43 = .ok (.invokevirtual 248, 3) := by decide +kernel
theorem dc125_46 : decode (pm_mb 125) 46 = .ok (.iload_n 3, 1) := by decide +kernel
theorem dc125_47 : decode (pm_mb 125) 47 = .ok (.ireturn, 1) := by decide +kernel
theorem b125_0 {X : pm_X} {d : Nat} {x1 : Int32} {x2 : Int32} {g : pm_G} {iv : pm_V} (hL : pm_lay g) : pm_at X d 125 (0, [some (.ref 0), some (.int x1), some (.int x2), none], [], g, iv) = pm_then X d 125 11 [some (.ref 0), some (.int x1), some (.int x2), none] [] (pm_c X d 3 [.ref 7, .ref 11] g iv) := by
  refine (at_aload_n dc125_0 rfl).trans ?_
  refine (at_gfR dc125_1 mc125 lf5_26 fo5_2 (ly0 hL) (lr0_2 hL)).trans ?_
  refine (at_aload_n dc125_4 rfl).trans ?_
  refine (at_gfR dc125_5 mc125 lf5_40 fo5_4 (ly0 hL) (lr0_4 hL)).trans ?_
  exact at_inv dc125_8 mc125 lm5_133 rfl rfl (Nat.le_of_ble_eq_true rfl) (Or.inl ⟨(ly7 hL), by decide⟩)
theorem b125_11 {X : pm_X} {d : Nat} {x1 : Int32} {x2 : Int32} {g : pm_G} {iv : pm_V} (hL : pm_lay g) : pm_at X d 125 (11, [some (.ref 0), some (.int x1), some (.int x2), none], [], g, iv) = pm_then X d 125 19 [some (.ref 0), some (.int x1), some (.int x2), none] [] (pm_c X d 41 [.ref 11, .int x1] g iv) := by
  refine (at_aload_n dc125_11 rfl).trans ?_
  refine (at_gfR dc125_12 mc125 lf5_40 fo5_4 (ly0 hL) (lr0_4 hL)).trans ?_
  refine (at_iload_n dc125_15 rfl).trans ?_
  exact at_inv dc125_16 mc125 lm5_169 rfl rfl (Nat.le_of_ble_eq_true rfl) (Or.inl ⟨(ly11 hL), by decide⟩)
theorem b125_19 {X : pm_X} {d : Nat} {x1 : Int32} {x2 : Int32} {s0 : Int32} {g : pm_G} {iv : pm_V}  : pm_at X d 125 (19, [some (.ref 0), some (.int x1), some (.int x2), none], [.int s0], g, iv) = if s0 = 0 then pm_at X d 125 (26, [some (.ref 0), some (.int x1), some (.int x2), none], [], g, iv) else pm_at X d 125 (22, [some (.ref 0), some (.int x1), some (.int x2), none], [], g, iv) := by
  exact at_if_eq (t := 26) dc125_19 (by decide)
theorem b125_22 {X : pm_X} {d : Nat} {x1 : Int32} {x2 : Int32} {g : pm_G} {iv : pm_V}  : pm_at X d 125 (22, [some (.ref 0), some (.int x1), some (.int x2), none], [], g, iv) = pm_at X d 125 (27, [some (.ref 0), some (.int x1), some (.int x2), none], [.int 1], g, iv) := by
  refine (at_iconst (v := 1) dc125_22 rfl).trans ?_
  refine (at_goto (t := 27) dc125_23 (by decide)).trans ?_
  rfl
theorem b125_26 {X : pm_X} {d : Nat} {x1 : Int32} {x2 : Int32} {g : pm_G} {iv : pm_V}  : pm_at X d 125 (26, [some (.ref 0), some (.int x1), some (.int x2), none], [], g, iv) = pm_at X d 125 (27, [some (.ref 0), some (.int x1), some (.int x2), none], [.int 0], g, iv) := by
  refine (at_iconst (v := 0) dc125_26 rfl).trans ?_
  rfl
theorem b125_27 {X : pm_X} {d : Nat} {x1 : Int32} {x2 : Int32} {s0 : Int32} {g : pm_G} {iv : pm_V} (hL : pm_lay g) : pm_at X d 125 (27, [some (.ref 0), some (.int x1), some (.int x2), none], [.int s0], g, iv) = if ¬ x2 = 1 then pm_at X d 125 (42, [some (.ref 0), some (.int x1), some (.int x2), some (.int s0)], [.int x1, .ref 11], g, iv) else pm_at X d 125 (38, [some (.ref 0), some (.int x1), some (.int x2), some (.int s0)], [.int x1, .ref 11], g, iv) := by
  refine (at_istore_n dc125_27 rfl).trans ?_
  refine (at_aload_n dc125_28 rfl).trans ?_
  refine (at_gfR dc125_29 mc125 lf5_40 fo5_4 (ly0 hL) (lr0_4 hL)).trans ?_
  refine (at_iload_n dc125_32 rfl).trans ?_
  refine (at_iload_n dc125_33 rfl).trans ?_
  refine (at_iconst (v := 1) dc125_34 rfl).trans ?_
  exact at_icmp_ne (t := 42) dc125_35 (by decide)
theorem b125_38 {X : pm_X} {d : Nat} {x1 : Int32} {x2 : Int32} {x3 : Int32} {s0 : Int32} {g : pm_G} {iv : pm_V}  : pm_at X d 125 (38, [some (.ref 0), some (.int x1), some (.int x2), some (.int x3)], [.int s0, .ref 11], g, iv) = pm_at X d 125 (43, [some (.ref 0), some (.int x1), some (.int x2), some (.int x3)], [.int 1, .int s0, .ref 11], g, iv) := by
  refine (at_iconst (v := 1) dc125_38 rfl).trans ?_
  refine (at_goto (t := 43) dc125_39 (by decide)).trans ?_
  rfl
theorem b125_42 {X : pm_X} {d : Nat} {x1 : Int32} {x2 : Int32} {x3 : Int32} {s0 : Int32} {g : pm_G} {iv : pm_V}  : pm_at X d 125 (42, [some (.ref 0), some (.int x1), some (.int x2), some (.int x3)], [.int s0, .ref 11], g, iv) = pm_at X d 125 (43, [some (.ref 0), some (.int x1), some (.int x2), some (.int x3)], [.int 0, .int s0, .ref 11], g, iv) := by
  refine (at_iconst (v := 0) dc125_42 rfl).trans ?_
  rfl
theorem b125_43 {X : pm_X} {d : Nat} {x1 : Int32} {x2 : Int32} {x3 : Int32} {s0 : Int32} {s1 : Int32} {g : pm_G} {iv : pm_V} (hL : pm_lay g) : pm_at X d 125 (43, [some (.ref 0), some (.int x1), some (.int x2), some (.int x3)], [.int s0, .int s1, .ref 11], g, iv) = pm_then X d 125 46 [some (.ref 0), some (.int x1), some (.int x2), some (.int x3)] [] (pm_c X d 55 [.ref 11, .int s1, .int s0] g iv) := by
  exact at_inv dc125_43 mc125 lm5_248 rfl rfl (Nat.le_of_ble_eq_true rfl) (Or.inl ⟨(ly11 hL), by decide⟩)
theorem b125_46 {X : pm_X} {d : Nat} {x1 : Int32} {x2 : Int32} {x3 : Int32} {g : pm_G} {iv : pm_V}  : pm_at X d 125 (46, [some (.ref 0), some (.int x1), some (.int x2), some (.int x3)], [], g, iv) = some (some (.int x3), g, iv) := by
  refine (at_iload_n dc125_46 rfl).trans ?_
  exact at_iret dc125_47 mr125
-- HH.rollTrial (I)V
theorem dc126_0 : decode (pm_mb 126) 0 = .ok (.iconst 0, 1) := by decide +kernel
theorem dc126_1 : decode (pm_mb 126) 1 = .ok (.istore_n 2, 1) := by decide +kernel
theorem dc126_2 : decode (pm_mb 126) 2 = .ok (.iload_n 2, 1) := by decide +kernel
theorem dc126_3 : decode (pm_mb 126) 3 = .ok (.iload_n 1, 1) := by decide +kernel
theorem dc126_4 : decode (pm_mb 126) 4 = .ok (.if_icmp .ge 17, 3) := by decide +kernel
theorem dc126_7 : decode (pm_mb 126) 7 = .ok (.aload_n 0, 1) := by decide +kernel
theorem dc126_8 : decode (pm_mb 126) 8 = .ok (.getfield 44, 3) := by decide +kernel
theorem dc126_11 : decode (pm_mb 126) 11 = .ok (.invokevirtual 136, 3) := by decide +kernel
theorem dc126_14 : decode (pm_mb 126) 14 = .ok (.pop, 1) := by decide +kernel
theorem dc126_15 : decode (pm_mb 126) 15 = .ok (.iinc 2 1, 3) := by decide +kernel
theorem dc126_18 : decode (pm_mb 126) 18 = .ok (.goto (-16), 3) := by decide +kernel
theorem dc126_21 : decode (pm_mb 126) 21 = .ok (.return_, 1) := by decide +kernel
theorem b126_0 {X : pm_X} {d : Nat} {x1 : Int32} {g : pm_G} {iv : pm_V}  : pm_at X d 126 (0, [some (.ref 0), some (.int x1), none], [], g, iv) = pm_at X d 126 (2, [some (.ref 0), some (.int x1), some (.int 0)], [], g, iv) := by
  refine (at_iconst (v := 0) dc126_0 rfl).trans ?_
  refine (at_istore_n dc126_1 rfl).trans ?_
  rfl
theorem b126_2 {X : pm_X} {d : Nat} {x1 : Int32} {x2 : Int32} {g : pm_G} {iv : pm_V}  : pm_at X d 126 (2, [some (.ref 0), some (.int x1), some (.int x2)], [], g, iv) = if x1 ≤ x2 then pm_at X d 126 (21, [some (.ref 0), some (.int x1), some (.int x2)], [], g, iv) else pm_at X d 126 (7, [some (.ref 0), some (.int x1), some (.int x2)], [], g, iv) := by
  refine (at_iload_n dc126_2 rfl).trans ?_
  refine (at_iload_n dc126_3 rfl).trans ?_
  exact at_icmp_ge (t := 21) dc126_4 (by decide)
theorem b126_7 {X : pm_X} {d : Nat} {x1 : Int32} {x2 : Int32} {g : pm_G} {iv : pm_V} (hL : pm_lay g) : pm_at X d 126 (7, [some (.ref 0), some (.int x1), some (.int x2)], [], g, iv) = pm_then X d 126 14 [some (.ref 0), some (.int x1), some (.int x2)] [] (pm_c X d 60 [.ref 21] g iv) := by
  refine (at_aload_n dc126_7 rfl).trans ?_
  refine (at_gfR dc126_8 mc126 lf5_44 fo5_5 (ly0 hL) (lr0_5 hL)).trans ?_
  exact at_inv dc126_11 mc126 lm5_136 rfl rfl (Nat.le_of_ble_eq_true rfl) (Or.inl ⟨(ly21 hL), by decide⟩)
theorem b126_14 {X : pm_X} {d : Nat} {x1 : Int32} {x2 : Int32} {s0 : Int32} {g : pm_G} {iv : pm_V}  : pm_at X d 126 (14, [some (.ref 0), some (.int x1), some (.int x2)], [.int s0], g, iv) = pm_at X d 126 (2, [some (.ref 0), some (.int x1), some (.int (x2 + 1))], [], g, iv) := by
  refine (at_pop dc126_14 rfl).trans ?_
  refine (at_iinc (v := 1) dc126_15 rfl (by decide) rfl).trans ?_
  refine (at_goto (t := 2) dc126_18 (by decide)).trans ?_
  rfl
theorem b126_21 {X : pm_X} {d : Nat} {x1 : Int32} {x2 : Int32} {g : pm_G} {iv : pm_V}  : pm_at X d 126 (21, [some (.ref 0), some (.int x1), some (.int x2)], [], g, iv) = some (none, g, iv) := by
  exact at_vret dc126_21 mr126
-- HH.meetsBy (IIIII)Z
theorem dc127_0 : decode (pm_mb 127) 0 = .ok (.aload_n 0, 1) := by decide +kernel
theorem dc127_1 : decode (pm_mb 127) 1 = .ok (.getfield 44, 3) := by decide +kernel
theorem dc127_4 : decode (pm_mb 127) 4 = .ok (.aload_n 0, 1) := by decide +kernel
theorem dc127_5 : decode (pm_mb 127) 5 = .ok (.getfield 40, 3) := by decide +kernel
theorem dc127_8 : decode (pm_mb 127) 8 = .ok (.invokevirtual 112, 3) := by decide +kernel
theorem dc127_11 : decode (pm_mb 127) 11 = .ok (.iconst 0, 1) := by decide +kernel
theorem dc127_12 : decode (pm_mb 127) 12 = .ok (.istore 6, 2) := by decide +kernel
theorem dc127_14 : decode (pm_mb 127) 14 = .ok (.iload 6, 2) := by decide +kernel
theorem dc127_16 : decode (pm_mb 127) 16 = .ok (.iload 5, 2) := by decide +kernel
theorem dc127_18 : decode (pm_mb 127) 18 = .ok (.if_icmp .ge 78, 3) := by decide +kernel
theorem dc127_21 : decode (pm_mb 127) 21 = .ok (.aload_n 0, 1) := by decide +kernel
theorem dc127_22 : decode (pm_mb 127) 22 = .ok (.getfield 44, 3) := by decide +kernel
theorem dc127_25 : decode (pm_mb 127) 25 = .ok (.iload_n 1, 1) := by decide +kernel
theorem dc127_26 : decode (pm_mb 127) 26 = .ok (.iload 6, 2) := by decide +kernel
theorem dc127_28 : decode (pm_mb 127) 28 = .ok (.iload_n 2, 1) := by decide +kernel
theorem dc127_29 : decode (pm_mb 127) 29 = .ok (.if_icmp .lt 14, 3) := by decide +kernel
theorem dc127_32 : decode (pm_mb 127) 32 = .ok (.aload_n 0, 1) := by decide +kernel
theorem dc127_33 : decode (pm_mb 127) 33 = .ok (.getfield 40, 3) := by decide +kernel
theorem dc127_36 : decode (pm_mb 127) 36 = .ok (.iload_n 1, 1) := by decide +kernel
theorem dc127_37 : decode (pm_mb 127) 37 = .ok (.invokevirtual 169, 3) := by decide +kernel
theorem dc127_40 : decode (pm_mb 127) 40 = .ok (.ifCond .eq 7, 3) := by decide +kernel
theorem dc127_43 : decode (pm_mb 127) 43 = .ok (.iconst 1, 1) := by decide +kernel
theorem dc127_44 : decode (pm_mb 127) 44 = .ok (.goto 4, 3) := by decide +kernel
theorem dc127_47 : decode (pm_mb 127) 47 = .ok (.iconst 0, 1) := by decide +kernel
theorem dc127_48 : decode (pm_mb 127) 48 = .ok (.invokevirtual 248, 3) := by decide +kernel
theorem dc127_51 : decode (pm_mb 127) 51 = .ok (.aload_n 0, 1) := by decide +kernel
theorem dc127_52 : decode (pm_mb 127) 52 = .ok (.getfield 44, 3) := by decide +kernel
theorem dc127_55 : decode (pm_mb 127) 55 = .ok (.iload_n 3, 1) := by decide +kernel
theorem dc127_56 : decode (pm_mb 127) 56 = .ok (.iload 6, 2) := by decide +kernel
theorem dc127_58 : decode (pm_mb 127) 58 = .ok (.iload 4, 2) := by decide +kernel
theorem dc127_60 : decode (pm_mb 127) 60 = .ok (.if_icmp .lt 14, 3) := by decide +kernel
theorem dc127_63 : decode (pm_mb 127) 63 = .ok (.aload_n 0, 1) := by decide +kernel
theorem dc127_64 : decode (pm_mb 127) 64 = .ok (.getfield 40, 3) := by decide +kernel
theorem dc127_67 : decode (pm_mb 127) 67 = .ok (.iload_n 3, 1) := by decide +kernel
theorem dc127_68 : decode (pm_mb 127) 68 = .ok (.invokevirtual 169, 3) := by decide +kernel
theorem dc127_71 : decode (pm_mb 127) 71 = .ok (.ifCond .eq 7, 3) := by decide +kernel
theorem dc127_74 : decode (pm_mb 127) 74 = .ok (.iconst 1, 1) := by decide +kernel
theorem dc127_75 : decode (pm_mb 127) 75 = .ok (.goto 4, 3) := by decide +kernel
theorem dc127_78 : decode (pm_mb 127) 78 = .ok (.iconst 0, 1) := by decide +kernel
theorem dc127_79 : decode (pm_mb 127) 79 = .ok (.invokevirtual 248, 3) := by decide +kernel
theorem dc127_82 : decode (pm_mb 127) 82 = .ok (.aload_n 0, 1) := by decide +kernel
theorem dc127_83 : decode (pm_mb 127) 83 = .ok (.getfield 44, 3) := by decide +kernel
theorem dc127_86 : decode (pm_mb 127) 86 = .ok (.invokevirtual 136, 3) := by decide +kernel
theorem dc127_89 : decode (pm_mb 127) 89 = .ok (.pop, 1) := by decide +kernel
theorem dc127_90 : decode (pm_mb 127) 90 = .ok (.iinc 6 1, 3) := by decide +kernel
theorem dc127_93 : decode (pm_mb 127) 93 = .ok (.goto (-79), 3) := by decide +kernel
theorem dc127_96 : decode (pm_mb 127) 96 = .ok (.aload_n 0, 1) := by decide +kernel
theorem dc127_97 : decode (pm_mb 127) 97 = .ok (.getfield 44, 3) := by decide +kernel
theorem dc127_100 : decode (pm_mb 127) 100 = .ok (.iload_n 1, 1) := by decide +kernel
theorem dc127_101 : decode (pm_mb 127) 101 = .ok (.iload_n 3, 1) := by decide +kernel
theorem dc127_102 : decode (pm_mb 127) 102 = .ok (.invokevirtual 192, 3) := by decide +kernel
theorem dc127_105 : decode (pm_mb 127) 105 = .ok (.ireturn, 1) := by decide +kernel
theorem b127_0 {X : pm_X} {d : Nat} {x1 : Int32} {x2 : Int32} {x3 : Int32} {x4 : Int32} {x5 : Int32} {g : pm_G} {iv : pm_V} (hL : pm_lay g) : pm_at X d 127 (0, [some (.ref 0), some (.int x1), some (.int x2), some (.int x3), some (.int x4), some (.int x5), none], [], g, iv) = pm_then X d 127 11 [some (.ref 0), some (.int x1), some (.int x2), some (.int x3), some (.int x4), some (.int x5), none] [] (pm_c X d 52 [.ref 21, .ref 11] g iv) := by
  refine (at_aload_n dc127_0 rfl).trans ?_
  refine (at_gfR dc127_1 mc127 lf5_44 fo5_5 (ly0 hL) (lr0_5 hL)).trans ?_
  refine (at_aload_n dc127_4 rfl).trans ?_
  refine (at_gfR dc127_5 mc127 lf5_40 fo5_4 (ly0 hL) (lr0_4 hL)).trans ?_
  exact at_inv dc127_8 mc127 lm5_112 rfl rfl (Nat.le_of_ble_eq_true rfl) (Or.inl ⟨(ly21 hL), by decide⟩)
theorem b127_11 {X : pm_X} {d : Nat} {x1 : Int32} {x2 : Int32} {x3 : Int32} {x4 : Int32} {x5 : Int32} {g : pm_G} {iv : pm_V}  : pm_at X d 127 (11, [some (.ref 0), some (.int x1), some (.int x2), some (.int x3), some (.int x4), some (.int x5), none], [], g, iv) = pm_at X d 127 (14, [some (.ref 0), some (.int x1), some (.int x2), some (.int x3), some (.int x4), some (.int x5), some (.int 0)], [], g, iv) := by
  refine (at_iconst (v := 0) dc127_11 rfl).trans ?_
  refine (at_istore dc127_12 rfl).trans ?_
  rfl
theorem b127_14 {X : pm_X} {d : Nat} {x1 : Int32} {x2 : Int32} {x3 : Int32} {x4 : Int32} {x5 : Int32} {x6 : Int32} {g : pm_G} {iv : pm_V}  : pm_at X d 127 (14, [some (.ref 0), some (.int x1), some (.int x2), some (.int x3), some (.int x4), some (.int x5), some (.int x6)], [], g, iv) = if x5 ≤ x6 then pm_at X d 127 (96, [some (.ref 0), some (.int x1), some (.int x2), some (.int x3), some (.int x4), some (.int x5), some (.int x6)], [], g, iv) else pm_at X d 127 (21, [some (.ref 0), some (.int x1), some (.int x2), some (.int x3), some (.int x4), some (.int x5), some (.int x6)], [], g, iv) := by
  refine (at_iload dc127_14 rfl).trans ?_
  refine (at_iload dc127_16 rfl).trans ?_
  exact at_icmp_ge (t := 96) dc127_18 (by decide)
theorem b127_21 {X : pm_X} {d : Nat} {x1 : Int32} {x2 : Int32} {x3 : Int32} {x4 : Int32} {x5 : Int32} {x6 : Int32} {g : pm_G} {iv : pm_V} (hL : pm_lay g) : pm_at X d 127 (21, [some (.ref 0), some (.int x1), some (.int x2), some (.int x3), some (.int x4), some (.int x5), some (.int x6)], [], g, iv) = if x6 < x2 then pm_at X d 127 (43, [some (.ref 0), some (.int x1), some (.int x2), some (.int x3), some (.int x4), some (.int x5), some (.int x6)], [.int x1, .ref 21], g, iv) else pm_at X d 127 (32, [some (.ref 0), some (.int x1), some (.int x2), some (.int x3), some (.int x4), some (.int x5), some (.int x6)], [.int x1, .ref 21], g, iv) := by
  refine (at_aload_n dc127_21 rfl).trans ?_
  refine (at_gfR dc127_22 mc127 lf5_44 fo5_5 (ly0 hL) (lr0_5 hL)).trans ?_
  refine (at_iload_n dc127_25 rfl).trans ?_
  refine (at_iload dc127_26 rfl).trans ?_
  refine (at_iload_n dc127_28 rfl).trans ?_
  exact at_icmp_lt (t := 43) dc127_29 (by decide)
theorem b127_32 {X : pm_X} {d : Nat} {x1 : Int32} {x2 : Int32} {x3 : Int32} {x4 : Int32} {x5 : Int32} {x6 : Int32} {s0 : Int32} {g : pm_G} {iv : pm_V} (hL : pm_lay g) : pm_at X d 127 (32, [some (.ref 0), some (.int x1), some (.int x2), some (.int x3), some (.int x4), some (.int x5), some (.int x6)], [.int s0, .ref 21], g, iv) = pm_then X d 127 40 [some (.ref 0), some (.int x1), some (.int x2), some (.int x3), some (.int x4), some (.int x5), some (.int x6)] [.int s0, .ref 21] (pm_c X d 41 [.ref 11, .int x1] g iv) := by
  refine (at_aload_n dc127_32 rfl).trans ?_
  refine (at_gfR dc127_33 mc127 lf5_40 fo5_4 (ly0 hL) (lr0_4 hL)).trans ?_
  refine (at_iload_n dc127_36 rfl).trans ?_
  exact at_inv dc127_37 mc127 lm5_169 rfl rfl (Nat.le_of_ble_eq_true rfl) (Or.inl ⟨(ly11 hL), by decide⟩)
theorem b127_40 {X : pm_X} {d : Nat} {x1 : Int32} {x2 : Int32} {x3 : Int32} {x4 : Int32} {x5 : Int32} {x6 : Int32} {s0 : Int32} {s1 : Int32} {g : pm_G} {iv : pm_V}  : pm_at X d 127 (40, [some (.ref 0), some (.int x1), some (.int x2), some (.int x3), some (.int x4), some (.int x5), some (.int x6)], [.int s0, .int s1, .ref 21], g, iv) = if s0 = 0 then pm_at X d 127 (47, [some (.ref 0), some (.int x1), some (.int x2), some (.int x3), some (.int x4), some (.int x5), some (.int x6)], [.int s1, .ref 21], g, iv) else pm_at X d 127 (43, [some (.ref 0), some (.int x1), some (.int x2), some (.int x3), some (.int x4), some (.int x5), some (.int x6)], [.int s1, .ref 21], g, iv) := by
  exact at_if_eq (t := 47) dc127_40 (by decide)
theorem b127_43 {X : pm_X} {d : Nat} {x1 : Int32} {x2 : Int32} {x3 : Int32} {x4 : Int32} {x5 : Int32} {x6 : Int32} {s0 : Int32} {g : pm_G} {iv : pm_V}  : pm_at X d 127 (43, [some (.ref 0), some (.int x1), some (.int x2), some (.int x3), some (.int x4), some (.int x5), some (.int x6)], [.int s0, .ref 21], g, iv) = pm_at X d 127 (48, [some (.ref 0), some (.int x1), some (.int x2), some (.int x3), some (.int x4), some (.int x5), some (.int x6)], [.int 1, .int s0, .ref 21], g, iv) := by
  refine (at_iconst (v := 1) dc127_43 rfl).trans ?_
  refine (at_goto (t := 48) dc127_44 (by decide)).trans ?_
  rfl
theorem b127_47 {X : pm_X} {d : Nat} {x1 : Int32} {x2 : Int32} {x3 : Int32} {x4 : Int32} {x5 : Int32} {x6 : Int32} {s0 : Int32} {g : pm_G} {iv : pm_V}  : pm_at X d 127 (47, [some (.ref 0), some (.int x1), some (.int x2), some (.int x3), some (.int x4), some (.int x5), some (.int x6)], [.int s0, .ref 21], g, iv) = pm_at X d 127 (48, [some (.ref 0), some (.int x1), some (.int x2), some (.int x3), some (.int x4), some (.int x5), some (.int x6)], [.int 0, .int s0, .ref 21], g, iv) := by
  refine (at_iconst (v := 0) dc127_47 rfl).trans ?_
  rfl
theorem b127_48 {X : pm_X} {d : Nat} {x1 : Int32} {x2 : Int32} {x3 : Int32} {x4 : Int32} {x5 : Int32} {x6 : Int32} {s0 : Int32} {s1 : Int32} {g : pm_G} {iv : pm_V} (hL : pm_lay g) : pm_at X d 127 (48, [some (.ref 0), some (.int x1), some (.int x2), some (.int x3), some (.int x4), some (.int x5), some (.int x6)], [.int s0, .int s1, .ref 21], g, iv) = pm_then X d 127 51 [some (.ref 0), some (.int x1), some (.int x2), some (.int x3), some (.int x4), some (.int x5), some (.int x6)] [] (pm_c X d 55 [.ref 21, .int s1, .int s0] g iv) := by
  exact at_inv dc127_48 mc127 lm5_248 rfl rfl (Nat.le_of_ble_eq_true rfl) (Or.inl ⟨(ly21 hL), by decide⟩)
theorem b127_51 {X : pm_X} {d : Nat} {x1 : Int32} {x2 : Int32} {x3 : Int32} {x4 : Int32} {x5 : Int32} {x6 : Int32} {g : pm_G} {iv : pm_V} (hL : pm_lay g) : pm_at X d 127 (51, [some (.ref 0), some (.int x1), some (.int x2), some (.int x3), some (.int x4), some (.int x5), some (.int x6)], [], g, iv) = if x6 < x4 then pm_at X d 127 (74, [some (.ref 0), some (.int x1), some (.int x2), some (.int x3), some (.int x4), some (.int x5), some (.int x6)], [.int x3, .ref 21], g, iv) else pm_at X d 127 (63, [some (.ref 0), some (.int x1), some (.int x2), some (.int x3), some (.int x4), some (.int x5), some (.int x6)], [.int x3, .ref 21], g, iv) := by
  refine (at_aload_n dc127_51 rfl).trans ?_
  refine (at_gfR dc127_52 mc127 lf5_44 fo5_5 (ly0 hL) (lr0_5 hL)).trans ?_
  refine (at_iload_n dc127_55 rfl).trans ?_
  refine (at_iload dc127_56 rfl).trans ?_
  refine (at_iload dc127_58 rfl).trans ?_
  exact at_icmp_lt (t := 74) dc127_60 (by decide)
theorem b127_63 {X : pm_X} {d : Nat} {x1 : Int32} {x2 : Int32} {x3 : Int32} {x4 : Int32} {x5 : Int32} {x6 : Int32} {s0 : Int32} {g : pm_G} {iv : pm_V} (hL : pm_lay g) : pm_at X d 127 (63, [some (.ref 0), some (.int x1), some (.int x2), some (.int x3), some (.int x4), some (.int x5), some (.int x6)], [.int s0, .ref 21], g, iv) = pm_then X d 127 71 [some (.ref 0), some (.int x1), some (.int x2), some (.int x3), some (.int x4), some (.int x5), some (.int x6)] [.int s0, .ref 21] (pm_c X d 41 [.ref 11, .int x3] g iv) := by
  refine (at_aload_n dc127_63 rfl).trans ?_
  refine (at_gfR dc127_64 mc127 lf5_40 fo5_4 (ly0 hL) (lr0_4 hL)).trans ?_
  refine (at_iload_n dc127_67 rfl).trans ?_
  exact at_inv dc127_68 mc127 lm5_169 rfl rfl (Nat.le_of_ble_eq_true rfl) (Or.inl ⟨(ly11 hL), by decide⟩)
theorem b127_71 {X : pm_X} {d : Nat} {x1 : Int32} {x2 : Int32} {x3 : Int32} {x4 : Int32} {x5 : Int32} {x6 : Int32} {s0 : Int32} {s1 : Int32} {g : pm_G} {iv : pm_V}  : pm_at X d 127 (71, [some (.ref 0), some (.int x1), some (.int x2), some (.int x3), some (.int x4), some (.int x5), some (.int x6)], [.int s0, .int s1, .ref 21], g, iv) = if s0 = 0 then pm_at X d 127 (78, [some (.ref 0), some (.int x1), some (.int x2), some (.int x3), some (.int x4), some (.int x5), some (.int x6)], [.int s1, .ref 21], g, iv) else pm_at X d 127 (74, [some (.ref 0), some (.int x1), some (.int x2), some (.int x3), some (.int x4), some (.int x5), some (.int x6)], [.int s1, .ref 21], g, iv) := by
  exact at_if_eq (t := 78) dc127_71 (by decide)
theorem b127_74 {X : pm_X} {d : Nat} {x1 : Int32} {x2 : Int32} {x3 : Int32} {x4 : Int32} {x5 : Int32} {x6 : Int32} {s0 : Int32} {g : pm_G} {iv : pm_V}  : pm_at X d 127 (74, [some (.ref 0), some (.int x1), some (.int x2), some (.int x3), some (.int x4), some (.int x5), some (.int x6)], [.int s0, .ref 21], g, iv) = pm_at X d 127 (79, [some (.ref 0), some (.int x1), some (.int x2), some (.int x3), some (.int x4), some (.int x5), some (.int x6)], [.int 1, .int s0, .ref 21], g, iv) := by
  refine (at_iconst (v := 1) dc127_74 rfl).trans ?_
  refine (at_goto (t := 79) dc127_75 (by decide)).trans ?_
  rfl
theorem b127_78 {X : pm_X} {d : Nat} {x1 : Int32} {x2 : Int32} {x3 : Int32} {x4 : Int32} {x5 : Int32} {x6 : Int32} {s0 : Int32} {g : pm_G} {iv : pm_V}  : pm_at X d 127 (78, [some (.ref 0), some (.int x1), some (.int x2), some (.int x3), some (.int x4), some (.int x5), some (.int x6)], [.int s0, .ref 21], g, iv) = pm_at X d 127 (79, [some (.ref 0), some (.int x1), some (.int x2), some (.int x3), some (.int x4), some (.int x5), some (.int x6)], [.int 0, .int s0, .ref 21], g, iv) := by
  refine (at_iconst (v := 0) dc127_78 rfl).trans ?_
  rfl
theorem b127_79 {X : pm_X} {d : Nat} {x1 : Int32} {x2 : Int32} {x3 : Int32} {x4 : Int32} {x5 : Int32} {x6 : Int32} {s0 : Int32} {s1 : Int32} {g : pm_G} {iv : pm_V} (hL : pm_lay g) : pm_at X d 127 (79, [some (.ref 0), some (.int x1), some (.int x2), some (.int x3), some (.int x4), some (.int x5), some (.int x6)], [.int s0, .int s1, .ref 21], g, iv) = pm_then X d 127 82 [some (.ref 0), some (.int x1), some (.int x2), some (.int x3), some (.int x4), some (.int x5), some (.int x6)] [] (pm_c X d 55 [.ref 21, .int s1, .int s0] g iv) := by
  exact at_inv dc127_79 mc127 lm5_248 rfl rfl (Nat.le_of_ble_eq_true rfl) (Or.inl ⟨(ly21 hL), by decide⟩)
theorem b127_82 {X : pm_X} {d : Nat} {x1 : Int32} {x2 : Int32} {x3 : Int32} {x4 : Int32} {x5 : Int32} {x6 : Int32} {g : pm_G} {iv : pm_V} (hL : pm_lay g) : pm_at X d 127 (82, [some (.ref 0), some (.int x1), some (.int x2), some (.int x3), some (.int x4), some (.int x5), some (.int x6)], [], g, iv) = pm_then X d 127 89 [some (.ref 0), some (.int x1), some (.int x2), some (.int x3), some (.int x4), some (.int x5), some (.int x6)] [] (pm_c X d 60 [.ref 21] g iv) := by
  refine (at_aload_n dc127_82 rfl).trans ?_
  refine (at_gfR dc127_83 mc127 lf5_44 fo5_5 (ly0 hL) (lr0_5 hL)).trans ?_
  exact at_inv dc127_86 mc127 lm5_136 rfl rfl (Nat.le_of_ble_eq_true rfl) (Or.inl ⟨(ly21 hL), by decide⟩)
theorem b127_89 {X : pm_X} {d : Nat} {x1 : Int32} {x2 : Int32} {x3 : Int32} {x4 : Int32} {x5 : Int32} {x6 : Int32} {s0 : Int32} {g : pm_G} {iv : pm_V}  : pm_at X d 127 (89, [some (.ref 0), some (.int x1), some (.int x2), some (.int x3), some (.int x4), some (.int x5), some (.int x6)], [.int s0], g, iv) = pm_at X d 127 (14, [some (.ref 0), some (.int x1), some (.int x2), some (.int x3), some (.int x4), some (.int x5), some (.int (x6 + 1))], [], g, iv) := by
  refine (at_pop dc127_89 rfl).trans ?_
  refine (at_iinc (v := 1) dc127_90 rfl (by decide) rfl).trans ?_
  refine (at_goto (t := 14) dc127_93 (by decide)).trans ?_
  rfl
theorem b127_96 {X : pm_X} {d : Nat} {x1 : Int32} {x2 : Int32} {x3 : Int32} {x4 : Int32} {x5 : Int32} {x6 : Int32} {g : pm_G} {iv : pm_V} (hL : pm_lay g) : pm_at X d 127 (96, [some (.ref 0), some (.int x1), some (.int x2), some (.int x3), some (.int x4), some (.int x5), some (.int x6)], [], g, iv) = pm_then X d 127 105 [some (.ref 0), some (.int x1), some (.int x2), some (.int x3), some (.int x4), some (.int x5), some (.int x6)] [] (pm_c X d 48 [.ref 21, .int x1, .int x3] g iv) := by
  refine (at_aload_n dc127_96 rfl).trans ?_
  refine (at_gfR dc127_97 mc127 lf5_44 fo5_5 (ly0 hL) (lr0_5 hL)).trans ?_
  refine (at_iload_n dc127_100 rfl).trans ?_
  refine (at_iload_n dc127_101 rfl).trans ?_
  exact at_inv dc127_102 mc127 lm5_192 rfl rfl (Nat.le_of_ble_eq_true rfl) (Or.inl ⟨(ly21 hL), by decide⟩)
theorem b127_105 {X : pm_X} {d : Nat} {x1 : Int32} {x2 : Int32} {x3 : Int32} {x4 : Int32} {x5 : Int32} {x6 : Int32} {s0 : Int32} {g : pm_G} {iv : pm_V}  : pm_at X d 127 (105, [some (.ref 0), some (.int x1), some (.int x2), some (.int x3), some (.int x4), some (.int x5), some (.int x6)], [.int s0], g, iv) = pm_zr s0 (some (some (.int s0), g, iv)) := by
  exact at_zretG dc127_105 mr127
-- HH.comesSo (II)Z
theorem dc128_0 : decode (pm_mb 128) 0 = .ok (.aload_n 0, 1) := by decide +kernel
theorem dc128_1 : decode (pm_mb 128) 1 = .ok (.getfield 44, 3) := by decide +kernel
theorem dc128_4 : decode (pm_mb 128) 4 = .ok (.aload_n 0, 1) := by decide +kernel
theorem dc128_5 : decode (pm_mb 128) 5 = .ok (.getfield 40, 3) := by decide +kernel
theorem dc128_8 : decode (pm_mb 128) 8 = .ok (.invokevirtual 112, 3) := by decide +kernel
theorem dc128_11 : decode (pm_mb 128) 11 = .ok (.iconst 0, 1) := by decide +kernel
theorem dc128_12 : decode (pm_mb 128) 12 = .ok (.istore_n 3, 1) := by decide +kernel
theorem dc128_13 : decode (pm_mb 128) 13 = .ok (.iload_n 3, 1) := by decide +kernel
theorem dc128_14 : decode (pm_mb 128) 14 = .ok (.aload_n 0, 1) := by decide +kernel
theorem dc128_15 : decode (pm_mb 128) 15 = .ok (.getfield 40, 3) := by decide +kernel
theorem dc128_18 : decode (pm_mb 128) 18 = .ok (.invokevirtual 119, 3) := by decide +kernel
theorem dc128_21 : decode (pm_mb 128) 21 = .ok (.if_icmp .ge 27, 3) := by decide +kernel
theorem dc128_24 : decode (pm_mb 128) 24 = .ok (.iload_n 2, 1) := by decide +kernel
theorem dc128_25 : decode (pm_mb 128) 25 = .ok (.iload_n 3, 1) := by decide +kernel
theorem dc128_26 : decode (pm_mb 128) 26 = .ok (.ishr, 1) := by decide +kernel
theorem dc128_27 : decode (pm_mb 128) 27 = .ok (.iconst 1, 1) := by decide +kernel
theorem dc128_28 : decode (pm_mb 128) 28 = .ok (.iand, 1) := by decide +kernel
theorem dc128_29 : decode (pm_mb 128) 29 = .ok (.iconst 1, 1) := by decide +kernel
theorem dc128_30 : decode (pm_mb 128) 30 = .ok (.if_icmp .ne 12, 3) := by decide +kernel
theorem dc128_33 : decode (pm_mb 128) 33 = .ok (.aload_n 0, 1) := by decide +kernel
theorem dc128_34 : decode (pm_mb 128) 34 = .ok (.getfield 44, 3) := by decide +kernel
theorem dc128_37 : decode (pm_mb 128) 37 = .ok (.iload_n 3, 1) := by decide +kernel
theorem dc128_38 : decode (pm_mb 128) 38 = .ok (.iconst 0, 1) := by decide +kernel
theorem dc128_39 : decode (pm_mb 128) 39 = .ok (.invokevirtual 248, 3) := by decide +kernel
theorem dc128_42 : decode (pm_mb 128) 42 = .ok (.iinc 3 1, 3) := by decide +kernel
theorem dc128_45 : decode (pm_mb 128) 45 = .ok (.goto (-32), 3) := by decide +kernel
theorem dc128_48 : decode (pm_mb 128) 48 = .ok (.aload_n 0, 1) := by decide +kernel
theorem dc128_49 : decode (pm_mb 128) 49 = .ok (.getfield 44, 3) := by decide +kernel
theorem dc128_52 : decode (pm_mb 128) 52 = .ok (.invokevirtual 136, 3) := by decide +kernel
theorem dc128_55 : decode (pm_mb 128) 55 = .ok (.pop, 1) := by decide +kernel
theorem dc128_56 : decode (pm_mb 128) 56 = .ok (.iconst 0, 1) := by decide +kernel
theorem dc128_57 : decode (pm_mb 128) 57 = .ok (.istore_n 3, 1) := by decide +kernel
theorem dc128_58 : decode (pm_mb 128) 58 = .ok (.iload_n 3, 1) := by decide +kernel
theorem dc128_59 : decode (pm_mb 128) 59 = .ok (.aload_n 0, 1) := by decide +kernel
theorem dc128_60 : decode (pm_mb 128) 60 = .ok (.getfield 40, 3) := by decide +kernel
theorem dc128_63 : decode (pm_mb 128) 63 = .ok (.invokevirtual 119, 3) := by decide +kernel
theorem dc128_66 : decode (pm_mb 128) 66 = .ok (.if_icmp .ge 31, 3) := by decide +kernel
theorem dc128_69 : decode (pm_mb 128) 69 = .ok (.aload_n 0, 1) := by decide +kernel
theorem dc128_70 : decode (pm_mb 128) 70 = .ok (.getfield 44, 3) := by decide +kernel
theorem dc128_73 : decode (pm_mb 128) 73 = .ok (.iload_n 3, 1) := by decide +kernel
theorem dc128_74 : decode (pm_mb 128) 74 = .ok (.invokevirtual 163, 3) := by decide +kernel
theorem dc128_77 : decode (pm_mb 128) 77 = .ok (.aload_n 0, 1) := by decide +kernel
theorem dc128_78 : decode (pm_mb 128) 78 = .ok (.getfield 10, 3) := by decide +kernel
theorem dc128_81 : decode (pm_mb 128) 81 = .ok (.iload_n 1, 1) := by decide +kernel
theorem dc128_82 : decode (pm_mb 128) 82 = .ok (.iload_n 3, 1) := by decide +kernel
theorem dc128_83 : decode (pm_mb 128) 83 = .ok (.invokevirtual 155, 3) := by decide +kernel
theorem dc128_86 : decode (pm_mb 128) 86 = .ok (.if_icmp .eq 5, 3) := by decide +kernel
theorem dc128_89 : decode (pm_mb 128) 89 = .ok (.iconst 0, 1) := by decide +kernel
theorem dc128_90 : decode (pm_mb 128) 90 = .ok (.ireturn, 1) := by decide +kernel
theorem dc128_91 : decode (pm_mb 128) 91 = .ok (.iinc 3 1, 3) := by decide +kernel
theorem dc128_94 : decode (pm_mb 128) 94 = .ok (.goto (-36), 3) := by decide +kernel
theorem dc128_97 : decode (pm_mb 128) 97 = .ok (.iconst 1, 1) := by decide +kernel
theorem dc128_98 : decode (pm_mb 128) 98 = .ok (.ireturn, 1) := by decide +kernel
theorem b128_0 {X : pm_X} {d : Nat} {x1 : Int32} {x2 : Int32} {g : pm_G} {iv : pm_V} (hL : pm_lay g) : pm_at X d 128 (0, [some (.ref 0), some (.int x1), some (.int x2), none], [], g, iv) = pm_then X d 128 11 [some (.ref 0), some (.int x1), some (.int x2), none] [] (pm_c X d 52 [.ref 21, .ref 11] g iv) := by
  refine (at_aload_n dc128_0 rfl).trans ?_
  refine (at_gfR dc128_1 mc128 lf5_44 fo5_5 (ly0 hL) (lr0_5 hL)).trans ?_
  refine (at_aload_n dc128_4 rfl).trans ?_
  refine (at_gfR dc128_5 mc128 lf5_40 fo5_4 (ly0 hL) (lr0_4 hL)).trans ?_
  exact at_inv dc128_8 mc128 lm5_112 rfl rfl (Nat.le_of_ble_eq_true rfl) (Or.inl ⟨(ly21 hL), by decide⟩)
theorem b128_11 {X : pm_X} {d : Nat} {x1 : Int32} {x2 : Int32} {g : pm_G} {iv : pm_V}  : pm_at X d 128 (11, [some (.ref 0), some (.int x1), some (.int x2), none], [], g, iv) = pm_at X d 128 (13, [some (.ref 0), some (.int x1), some (.int x2), some (.int 0)], [], g, iv) := by
  refine (at_iconst (v := 0) dc128_11 rfl).trans ?_
  refine (at_istore_n dc128_12 rfl).trans ?_
  rfl
theorem b128_13 {X : pm_X} {d : Nat} {x1 : Int32} {x2 : Int32} {x3 : Int32} {g : pm_G} {iv : pm_V} (hL : pm_lay g) : pm_at X d 128 (13, [some (.ref 0), some (.int x1), some (.int x2), some (.int x3)], [], g, iv) = pm_then X d 128 21 [some (.ref 0), some (.int x1), some (.int x2), some (.int x3)] [.int x3] (pm_c X d 29 [.ref 11] g iv) := by
  refine (at_iload_n dc128_13 rfl).trans ?_
  refine (at_aload_n dc128_14 rfl).trans ?_
  refine (at_gfR dc128_15 mc128 lf5_40 fo5_4 (ly0 hL) (lr0_4 hL)).trans ?_
  exact at_inv dc128_18 mc128 lm5_119 rfl rfl (Nat.le_of_ble_eq_true rfl) (Or.inl ⟨(ly11 hL), by decide⟩)
theorem b128_21 {X : pm_X} {d : Nat} {x1 : Int32} {x2 : Int32} {x3 : Int32} {s0 : Int32} {s1 : Int32} {g : pm_G} {iv : pm_V}  : pm_at X d 128 (21, [some (.ref 0), some (.int x1), some (.int x2), some (.int x3)], [.int s0, .int s1], g, iv) = if s0 ≤ s1 then pm_at X d 128 (48, [some (.ref 0), some (.int x1), some (.int x2), some (.int x3)], [], g, iv) else pm_at X d 128 (24, [some (.ref 0), some (.int x1), some (.int x2), some (.int x3)], [], g, iv) := by
  exact at_icmp_ge (t := 48) dc128_21 (by decide)
theorem b128_24 {X : pm_X} {d : Nat} {x1 : Int32} {x2 : Int32} {x3 : Int32} {g : pm_G} {iv : pm_V}  : pm_at X d 128 (24, [some (.ref 0), some (.int x1), some (.int x2), some (.int x3)], [], g, iv) = if ¬ ((x2 >>> (x3 &&& 31)) &&& 1) = 1 then pm_at X d 128 (42, [some (.ref 0), some (.int x1), some (.int x2), some (.int x3)], [], g, iv) else pm_at X d 128 (33, [some (.ref 0), some (.int x1), some (.int x2), some (.int x3)], [], g, iv) := by
  refine (at_iload_n dc128_24 rfl).trans ?_
  refine (at_iload_n dc128_25 rfl).trans ?_
  refine (at_ishr dc128_26).trans ?_
  refine (at_iconst (v := 1) dc128_27 rfl).trans ?_
  refine (at_iand dc128_28).trans ?_
  refine (at_iconst (v := 1) dc128_29 rfl).trans ?_
  exact at_icmp_ne (t := 42) dc128_30 (by decide)
theorem b128_33 {X : pm_X} {d : Nat} {x1 : Int32} {x2 : Int32} {x3 : Int32} {g : pm_G} {iv : pm_V} (hL : pm_lay g) : pm_at X d 128 (33, [some (.ref 0), some (.int x1), some (.int x2), some (.int x3)], [], g, iv) = pm_then X d 128 42 [some (.ref 0), some (.int x1), some (.int x2), some (.int x3)] [] (pm_c X d 55 [.ref 21, .int x3, .int 0] g iv) := by
  refine (at_aload_n dc128_33 rfl).trans ?_
  refine (at_gfR dc128_34 mc128 lf5_44 fo5_5 (ly0 hL) (lr0_5 hL)).trans ?_
  refine (at_iload_n dc128_37 rfl).trans ?_
  refine (at_iconst (v := 0) dc128_38 rfl).trans ?_
  exact at_inv dc128_39 mc128 lm5_248 rfl rfl (Nat.le_of_ble_eq_true rfl) (Or.inl ⟨(ly21 hL), by decide⟩)
theorem b128_42 {X : pm_X} {d : Nat} {x1 : Int32} {x2 : Int32} {x3 : Int32} {g : pm_G} {iv : pm_V}  : pm_at X d 128 (42, [some (.ref 0), some (.int x1), some (.int x2), some (.int x3)], [], g, iv) = pm_at X d 128 (13, [some (.ref 0), some (.int x1), some (.int x2), some (.int (x3 + 1))], [], g, iv) := by
  refine (at_iinc (v := 1) dc128_42 rfl (by decide) rfl).trans ?_
  refine (at_goto (t := 13) dc128_45 (by decide)).trans ?_
  rfl
theorem b128_48 {X : pm_X} {d : Nat} {x1 : Int32} {x2 : Int32} {x3 : Int32} {g : pm_G} {iv : pm_V} (hL : pm_lay g) : pm_at X d 128 (48, [some (.ref 0), some (.int x1), some (.int x2), some (.int x3)], [], g, iv) = pm_then X d 128 55 [some (.ref 0), some (.int x1), some (.int x2), some (.int x3)] [] (pm_c X d 60 [.ref 21] g iv) := by
  refine (at_aload_n dc128_48 rfl).trans ?_
  refine (at_gfR dc128_49 mc128 lf5_44 fo5_5 (ly0 hL) (lr0_5 hL)).trans ?_
  exact at_inv dc128_52 mc128 lm5_136 rfl rfl (Nat.le_of_ble_eq_true rfl) (Or.inl ⟨(ly21 hL), by decide⟩)
theorem b128_55 {X : pm_X} {d : Nat} {x1 : Int32} {x2 : Int32} {x3 : Int32} {s0 : Int32} {g : pm_G} {iv : pm_V}  : pm_at X d 128 (55, [some (.ref 0), some (.int x1), some (.int x2), some (.int x3)], [.int s0], g, iv) = pm_at X d 128 (58, [some (.ref 0), some (.int x1), some (.int x2), some (.int 0)], [], g, iv) := by
  refine (at_pop dc128_55 rfl).trans ?_
  refine (at_iconst (v := 0) dc128_56 rfl).trans ?_
  refine (at_istore_n dc128_57 rfl).trans ?_
  rfl
theorem b128_58 {X : pm_X} {d : Nat} {x1 : Int32} {x2 : Int32} {x3 : Int32} {g : pm_G} {iv : pm_V} (hL : pm_lay g) : pm_at X d 128 (58, [some (.ref 0), some (.int x1), some (.int x2), some (.int x3)], [], g, iv) = pm_then X d 128 66 [some (.ref 0), some (.int x1), some (.int x2), some (.int x3)] [.int x3] (pm_c X d 29 [.ref 11] g iv) := by
  refine (at_iload_n dc128_58 rfl).trans ?_
  refine (at_aload_n dc128_59 rfl).trans ?_
  refine (at_gfR dc128_60 mc128 lf5_40 fo5_4 (ly0 hL) (lr0_4 hL)).trans ?_
  exact at_inv dc128_63 mc128 lm5_119 rfl rfl (Nat.le_of_ble_eq_true rfl) (Or.inl ⟨(ly11 hL), by decide⟩)
theorem b128_66 {X : pm_X} {d : Nat} {x1 : Int32} {x2 : Int32} {x3 : Int32} {s0 : Int32} {s1 : Int32} {g : pm_G} {iv : pm_V}  : pm_at X d 128 (66, [some (.ref 0), some (.int x1), some (.int x2), some (.int x3)], [.int s0, .int s1], g, iv) = if s0 ≤ s1 then pm_at X d 128 (97, [some (.ref 0), some (.int x1), some (.int x2), some (.int x3)], [], g, iv) else pm_at X d 128 (69, [some (.ref 0), some (.int x1), some (.int x2), some (.int x3)], [], g, iv) := by
  exact at_icmp_ge (t := 97) dc128_66 (by decide)
theorem b128_69 {X : pm_X} {d : Nat} {x1 : Int32} {x2 : Int32} {x3 : Int32} {g : pm_G} {iv : pm_V} (hL : pm_lay g) : pm_at X d 128 (69, [some (.ref 0), some (.int x1), some (.int x2), some (.int x3)], [], g, iv) = pm_then X d 128 77 [some (.ref 0), some (.int x1), some (.int x2), some (.int x3)] [] (pm_c X d 39 [.ref 21, .int x3] g iv) := by
  refine (at_aload_n dc128_69 rfl).trans ?_
  refine (at_gfR dc128_70 mc128 lf5_44 fo5_5 (ly0 hL) (lr0_5 hL)).trans ?_
  refine (at_iload_n dc128_73 rfl).trans ?_
  exact at_inv dc128_74 mc128 lm5_163 rfl rfl (Nat.le_of_ble_eq_true rfl) (Or.inl ⟨(ly21 hL), by decide⟩)
theorem b128_77 {X : pm_X} {d : Nat} {x1 : Int32} {x2 : Int32} {x3 : Int32} {s0 : Int32} {g : pm_G} {iv : pm_V} (hL : pm_lay g) : pm_at X d 128 (77, [some (.ref 0), some (.int x1), some (.int x2), some (.int x3)], [.int s0], g, iv) = pm_then X d 128 86 [some (.ref 0), some (.int x1), some (.int x2), some (.int x3)] [.int s0] (pm_c X d 18 [.ref 1, .int x1, .int x3] g iv) := by
  refine (at_aload_n dc128_77 rfl).trans ?_
  refine (at_gfR dc128_78 mc128 lf5_10 fo5_0 (ly0 hL) (lr0_0 hL)).trans ?_
  refine (at_iload_n dc128_81 rfl).trans ?_
  refine (at_iload_n dc128_82 rfl).trans ?_
  exact at_inv dc128_83 mc128 lm5_155 rfl rfl (Nat.le_of_ble_eq_true rfl) (Or.inl ⟨(ly1 hL), by decide⟩)
theorem b128_86 {X : pm_X} {d : Nat} {x1 : Int32} {x2 : Int32} {x3 : Int32} {s0 : Int32} {s1 : Int32} {g : pm_G} {iv : pm_V}  : pm_at X d 128 (86, [some (.ref 0), some (.int x1), some (.int x2), some (.int x3)], [.int s0, .int s1], g, iv) = if s1 = s0 then pm_at X d 128 (91, [some (.ref 0), some (.int x1), some (.int x2), some (.int x3)], [], g, iv) else pm_at X d 128 (89, [some (.ref 0), some (.int x1), some (.int x2), some (.int x3)], [], g, iv) := by
  exact at_icmp_eq (t := 91) dc128_86 (by decide)
theorem b128_89 {X : pm_X} {d : Nat} {x1 : Int32} {x2 : Int32} {x3 : Int32} {g : pm_G} {iv : pm_V}  : pm_at X d 128 (89, [some (.ref 0), some (.int x1), some (.int x2), some (.int x3)], [], g, iv) = some (some (.int 0), g, iv) := by
  refine (at_iconst (v := 0) dc128_89 rfl).trans ?_
  exact at_zret dc128_90 mr128 (by decide)
theorem b128_91 {X : pm_X} {d : Nat} {x1 : Int32} {x2 : Int32} {x3 : Int32} {g : pm_G} {iv : pm_V}  : pm_at X d 128 (91, [some (.ref 0), some (.int x1), some (.int x2), some (.int x3)], [], g, iv) = pm_at X d 128 (58, [some (.ref 0), some (.int x1), some (.int x2), some (.int (x3 + 1))], [], g, iv) := by
  refine (at_iinc (v := 1) dc128_91 rfl (by decide) rfl).trans ?_
  refine (at_goto (t := 58) dc128_94 (by decide)).trans ?_
  rfl
theorem b128_97 {X : pm_X} {d : Nat} {x1 : Int32} {x2 : Int32} {x3 : Int32} {g : pm_G} {iv : pm_V}  : pm_at X d 128 (97, [some (.ref 0), some (.int x1), some (.int x2), some (.int x3)], [], g, iv) = some (some (.int 1), g, iv) := by
  refine (at_iconst (v := 1) dc128_97 rfl).trans ?_
  exact at_zret dc128_98 mr128 (by decide)
