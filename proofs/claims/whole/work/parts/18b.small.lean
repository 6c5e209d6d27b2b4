-- Acts.<init> ()V
theorem dc0_0 : decode (pm_mb 0) 0 = .ok (.aload_n 0, 1) := by decide +kernel
theorem dc0_1 : decode (pm_mb 0) 1 = .ok (.invokespecial 3, 3) := by decide +kernel
theorem dc0_4 : decode (pm_mb 0) 4 = .ok (.aload_n 0, 1) := by decide +kernel
theorem dc0_5 : decode (pm_mb 0) 5 = .ok (.sipush 480, 3) := by decide +kernel
theorem dc0_8 : decode (pm_mb 0) 8 = .ok (.newarray .int, 2) := by decide +kernel
theorem dc0_10 : decode (pm_mb 0) 10 = .ok (.putfield 11, 3) := by decide +kernel
theorem dc0_13 : decode (pm_mb 0) 13 = .ok (.return_, 1) := by decide +kernel
-- Acts.size ()I
theorem dc1_0 : decode (pm_mb 1) 0 = .ok (.aload_n 0, 1) := by decide +kernel
theorem dc1_1 : decode (pm_mb 1) 1 = .ok (.getfield 17, 3) := by decide +kernel
theorem dc1_4 : decode (pm_mb 1) 4 = .ok (.ireturn, 1) := by decide +kernel
theorem b1_0 {X : pm_X} {d : Nat} {g : pm_G} {iv : pm_V} (hL : pm_lay g) : pm_at X d 1 (0, [some (.ref 7)], [], g, iv) = some (some (.int (iv 7 2)), g, iv) := by
  refine (at_aload_n dc1_0 rfl).trans ?_
  refine (at_gfI dc1_1 mc1 lf0_17 fo0_2 (ly7 hL)).trans ?_
  exact at_iret dc1_4 mr1
-- Acts.forget ()V
theorem dc2_0 : decode (pm_mb 2) 0 = .ok (.aload_n 0, 1) := by decide +kernel
theorem dc2_1 : decode (pm_mb 2) 1 = .ok (.iconst 0, 1) := by decide +kernel
theorem dc2_2 : decode (pm_mb 2) 2 = .ok (.putfield 17, 3) := by decide +kernel
theorem dc2_5 : decode (pm_mb 2) 5 = .ok (.return_, 1) := by decide +kernel
theorem b2_0 {X : pm_X} {d : Nat} {g : pm_G} {iv : pm_V} (hL : pm_lay g) : pm_at X d 2 (0, [some (.ref 7)], [], g, iv) = some (none, g, (pm_iw iv 7 2 0)) := by
  refine (at_aload_n dc2_0 rfl).trans ?_
  refine (at_iconst (v := 0) dc2_1 rfl).trans ?_
  refine (at_pfI dc2_2 mc2 lf0_17 po0_2 (ly7 hL)).trans ?_
  exact at_vret dc2_5 mr2
-- Acts.keep (LHillHouses$Slope;)V
theorem dc3_0 : decode (pm_mb 3) 0 = .ok (.aload_n 0, 1) := by decide +kernel
theorem dc3_1 : decode (pm_mb 3) 1 = .ok (.getfield 17, 3) := by decide +kernel
theorem dc3_4 : decode (pm_mb 3) 4 = .ok (.bipush 24, 2) := by decide +kernel
theorem dc3_6 : decode (pm_mb 3) 6 = .ok (.if_icmp .ne 26, 3) := by decide +kernel
theorem dc3_9 : decode (pm_mb 3) 9 = .ok (.aload_n 0, 1) := by decide +kernel
theorem dc3_10 : decode (pm_mb 3) 10 = .ok (.aload_n 0, 1) := by decide +kernel
theorem dc3_11 : decode (pm_mb 3) 11 = .ok (.getfield 21, 3) := by decide +kernel
theorem dc3_14 : decode (pm_mb 3) 14 = .ok (.iconst 1, 1) := by decide +kernel
theorem dc3_15 : decode (pm_mb 3) 15 = .ok (.iadd, 1) := by decide +kernel
theorem dc3_16 : decode (pm_mb 3) 16 = .ok (.bipush 24, 2) := by decide +kernel
theorem dc3_18 : decode (pm_mb 3) 18 = .ok (.irem, 1) := by decide +kernel
theorem dc3_19 : decode (pm_mb 3) 19 = .ok (.putfield 21, 3) := by decide +kernel
theorem dc3_22 : decode (pm_mb 3) 22 = .ok (.aload_n 0, 1) := by decide +kernel
theorem dc3_23 : decode (pm_mb 3) 23 = .ok (.dup, 1) := by decide +kernel
theorem dc3_24 : decode (pm_mb 3) 24 = .ok (.getfield 17, 3) := by decide +kernel
theorem dc3_27 : decode (pm_mb 3) 27 = .ok (.iconst 1, 1) := by decide +kernel
theorem dc3_28 : decode (pm_mb 3) 28 = .ok (.isub, 1) := by decide +kernel
theorem dc3_29 : decode (pm_mb 3) 29 = .ok (.putfield 17, 3) := by decide +kernel
theorem dc3_32 : decode (pm_mb 3) 32 = .ok (.aload_n 1, 1) := by decide +kernel
theorem dc3_33 : decode (pm_mb 3) 33 = .ok (.aload_n 0, 1) := by decide +kernel
theorem dc3_34 : decode (pm_mb 3) 34 = .ok (.getfield 11, 3) := by decide +kernel
theorem dc3_37 : decode (pm_mb 3) 37 = .ok (.aload_n 0, 1) := by decide +kernel
theorem dc3_38 : decode (pm_mb 3) 38 = .ok (.getfield 21, 3) := by decide +kernel
theorem dc3_41 : decode (pm_mb 3) 41 = .ok (.aload_n 0, 1) := by decide +kernel
theorem dc3_42 : decode (pm_mb 3) 42 = .ok (.getfield 17, 3) := by decide +kernel
theorem dc3_45 : decode (pm_mb 3) 45 = .ok (.iadd, 1) := by decide +kernel
theorem dc3_46 : decode (pm_mb 3) 46 = .ok (.bipush 24, 2) := by decide +kernel
theorem dc3_48 : decode (pm_mb 3) 48 = .ok (.irem, 1) := by decide +kernel
theorem dc3_49 : decode (pm_mb 3) 49 = .ok (.bipush 20, 2) := by decide +kernel
theorem dc3_51 : decode (pm_mb 3) 51 = .ok (.imul, 1) := by decide +kernel
theorem dc3_52 : decode (pm_mb 3) 52 = .ok (.invokevirtual 24, 3) := by decide +kernel
theorem dc3_55 : decode (pm_mb 3) 55 = .ok (.aload_n 0, 1) := by decide +kernel
theorem dc3_56 : decode (pm_mb 3) 56 = .ok (.dup, 1) := by decide +kernel
theorem dc3_57 : decode (pm_mb 3) 57 = .ok (.getfield 17, 3) := by decide +kernel
theorem dc3_60 : decode (pm_mb 3) 60 = .ok (.iconst 1, 1) := by decide +kernel
theorem dc3_61 : decode (pm_mb 3) 61 = .ok (.iadd, 1) := by decide +kernel
theorem dc3_62 : decode (pm_mb 3) 62 = .ok (.putfield 17, 3) := by decide +kernel
theorem dc3_65 : decode (pm_mb 3) 65 = .ok (.return_, 1) := by decide +kernel
theorem b3_0 {X : pm_X} {d : Nat} {k : Nat} {g : pm_G} {iv : pm_V} (hL : pm_lay g) : pm_at X d 3 (0, [some (.ref 7), some (.ref k)], [], g, iv) = if ¬ (iv 7 2) = 24 then pm_at X d 3 (32, [some (.ref 7), some (.ref k)], [], g, iv) else pm_at X d 3 (9, [some (.ref 7), some (.ref k)], [], g, iv) := by
  refine (at_aload_n dc3_0 rfl).trans ?_
  refine (at_gfI dc3_1 mc3 lf0_17 fo0_2 (ly7 hL)).trans ?_
  refine (at_bipush (v := 24) dc3_4 (by decide)).trans ?_
  exact at_icmp_ne (t := 32) dc3_6 (by decide)
theorem b3_9 {X : pm_X} {d : Nat} {k : Nat} {g : pm_G} {iv : pm_V} (hL : pm_lay g) : pm_at X d 3 (9, [some (.ref 7), some (.ref k)], [], g, iv) = pm_at X d 3 (32, [some (.ref 7), some (.ref k)], [], g, (pm_iw (pm_iw iv 7 1 ((((iv 7 1) + 1) - ((iv 7 1) + 1) / 24 * 24))) 7 2 ((((pm_iw iv 7 1 ((((iv 7 1) + 1) - ((iv 7 1) + 1) / 24 * 24))) 7 2) - 1)))) := by
  refine (at_aload_n dc3_9 rfl).trans ?_
  refine (at_aload_n dc3_10 rfl).trans ?_
  refine (at_gfI dc3_11 mc3 lf0_21 fo0_1 (ly7 hL)).trans ?_
  refine (at_iconst (v := 1) dc3_14 rfl).trans ?_
  refine (at_iadd dc3_15).trans ?_
  refine (at_bipush (v := 24) dc3_16 (by decide)).trans ?_
  refine (at_irem dc3_18 (by decide)).trans ?_
  refine (at_pfI dc3_19 mc3 lf0_21 po0_1 (ly7 hL)).trans ?_
  refine (at_aload_n dc3_22 rfl).trans ?_
  refine (at_dup dc3_23 rfl).trans ?_
  refine (at_gfI dc3_24 mc3 lf0_17 fo0_2 (ly7 hL)).trans ?_
  refine (at_iconst (v := 1) dc3_27 rfl).trans ?_
  refine (at_isub dc3_28).trans ?_
  refine (at_pfI dc3_29 mc3 lf0_17 po0_2 (ly7 hL)).trans ?_
  rfl
theorem b3_32 {X : pm_X} {d : Nat} {k : Nat} {g : pm_G} {iv : pm_V} (hL : pm_lay g) (hK : pm_sl g k) : pm_at X d 3 (32, [some (.ref 7), some (.ref k)], [], g, iv) = pm_then X d 3 55 [some (.ref 7), some (.ref k)] [] (pm_c X d 53 [.ref k, .ref 8, .int ((((iv 7 1) + (iv 7 2)) - ((iv 7 1) + (iv 7 2)) / 24 * 24) * 20)] g iv) := by
  refine (at_aload_n dc3_32 rfl).trans ?_
  refine (at_aload_n dc3_33 rfl).trans ?_
  refine (at_gfR dc3_34 mc3 lf0_11 fo0_0 (ly7 hL) (lr7_0 hL)).trans ?_
  refine (at_aload_n dc3_37 rfl).trans ?_
  refine (at_gfI dc3_38 mc3 lf0_21 fo0_1 (ly7 hL)).trans ?_
  refine (at_aload_n dc3_41 rfl).trans ?_
  refine (at_gfI dc3_42 mc3 lf0_17 fo0_2 (ly7 hL)).trans ?_
  refine (at_iadd dc3_45).trans ?_
  refine (at_bipush (v := 24) dc3_46 (by decide)).trans ?_
  refine (at_irem dc3_48 (by decide)).trans ?_
  refine (at_bipush (v := 20) dc3_49 (by decide)).trans ?_
  refine (at_imul dc3_51).trans ?_
  exact at_inv dc3_52 mc3 lm0_24 rfl rfl (Nat.le_of_ble_eq_true rfl) (Or.inl ⟨hK.1, by decide⟩)
theorem b3_55 {X : pm_X} {d : Nat} {k : Nat} {g : pm_G} {iv : pm_V} (hL : pm_lay g) : pm_at X d 3 (55, [some (.ref 7), some (.ref k)], [], g, iv) = some (none, g, (pm_iw iv 7 2 (((iv 7 2) + 1)))) := by
  refine (at_aload_n dc3_55 rfl).trans ?_
  refine (at_dup dc3_56 rfl).trans ?_
  refine (at_gfI dc3_57 mc3 lf0_17 fo0_2 (ly7 hL)).trans ?_
  refine (at_iconst (v := 1) dc3_60 rfl).trans ?_
  refine (at_iadd dc3_61).trans ?_
  refine (at_pfI dc3_62 mc3 lf0_17 po0_2 (ly7 hL)).trans ?_
  exact at_vret dc3_65 mr3
-- Acts.takeBack (LHillHouses$Slope;)Z
theorem dc4_0 : decode (pm_mb 4) 0 = .ok (.aload_n 0, 1) := by decide +kernel
theorem dc4_1 : decode (pm_mb 4) 1 = .ok (.getfield 17, 3) := by decide +kernel
theorem dc4_4 : decode (pm_mb 4) 4 = .ok (.ifCond .ne 5, 3) := by decide +kernel
theorem dc4_7 : decode (pm_mb 4) 7 = .ok (.iconst 0, 1) := by decide +kernel
theorem dc4_8 : decode (pm_mb 4) 8 = .ok (.ireturn, 1) := by decide +kernel
theorem dc4_9 : decode (pm_mb 4) 9 = .ok (.aload_n 0, 1) := by decide +kernel
theorem dc4_10 : decode (pm_mb 4) 10 = .ok (.dup, 1) := by decide +kernel
theorem dc4_11 : decode (pm_mb 4) 11 = .ok (.getfield 17, 3) := by decide +kernel
theorem dc4_14 : decode (pm_mb 4) 14 = .ok (.iconst 1, 1) := by decide +kernel
theorem dc4_15 : decode (pm_mb 4) 15 = .ok (.isub, 1) := by decide +kernel
theorem dc4_16 : decode (pm_mb 4) 16 = .ok (.putfield 17, 3) := by decide +kernel
theorem dc4_19 : decode (pm_mb 4) 19 = .ok (.aload_n 1, 1) := by decide +kernel
theorem dc4_20 : decode (pm_mb 4) 20 = .ok (.aload_n 0, 1) := by decide +kernel
theorem dc4_21 : decode (pm_mb 4) 21 = .ok (.getfield 11, 3) := by decide +kernel
theorem dc4_24 : decode (pm_mb 4) 24 = .ok (.aload_n 0, 1) := by decide +kernel
theorem dc4_25 : decode (pm_mb 4) 25 = .ok (.getfield 21, 3) := by decide +kernel
theorem dc4_28 : decode (pm_mb 4) 28 = .ok (.aload_n 0, 1) := by decide +kernel
theorem dc4_29 : decode (pm_mb 4) 29 = .ok (.getfield 17, 3) := by decide +kernel
theorem dc4_32 : decode (pm_mb 4) 32 = .ok (.iadd, 1) := by decide +kernel
theorem dc4_33 : decode (pm_mb 4) 33 = .ok (.bipush 24, 2) := by decide +kernel
theorem dc4_35 : decode (pm_mb 4) 35 = .ok (.irem, 1) := by decide +kernel
theorem dc4_36 : decode (pm_mb 4) 36 = .ok (.bipush 20, 2) := by decide +kernel
theorem dc4_38 : decode (pm_mb 4) 38 = .ok (.imul, 1) := by decide +kernel
theorem dc4_39 : decode (pm_mb 4) 39 = .ok (.invokevirtual 28, 3) := by decide +kernel
theorem dc4_42 : decode (pm_mb 4) 42 = .ok (.iconst 1, 1) := by decide +kernel
theorem dc4_43 : decode (pm_mb 4) 43 = .ok (.ireturn, 1) := by decide +kernel
theorem b4_0 {X : pm_X} {d : Nat} {k : Nat} {g : pm_G} {iv : pm_V} (hL : pm_lay g) : pm_at X d 4 (0, [some (.ref 7), some (.ref k)], [], g, iv) = if ¬ (iv 7 2) = 0 then pm_at X d 4 (9, [some (.ref 7), some (.ref k)], [], g, iv) else pm_at X d 4 (7, [some (.ref 7), some (.ref k)], [], g, iv) := by
  refine (at_aload_n dc4_0 rfl).trans ?_
  refine (at_gfI dc4_1 mc4 lf0_17 fo0_2 (ly7 hL)).trans ?_
  exact at_if_ne (t := 9) dc4_4 (by decide)
theorem b4_7 {X : pm_X} {d : Nat} {k : Nat} {g : pm_G} {iv : pm_V}  : pm_at X d 4 (7, [some (.ref 7), some (.ref k)], [], g, iv) = some (some (.int 0), g, iv) := by
  refine (at_iconst (v := 0) dc4_7 rfl).trans ?_
  exact at_zret dc4_8 mr4 (by decide)
theorem b4_9 {X : pm_X} {d : Nat} {k : Nat} {g : pm_G} {iv : pm_V} (hL : pm_lay g) (hK : pm_sl g k) : pm_at X d 4 (9, [some (.ref 7), some (.ref k)], [], g, iv) = pm_then X d 4 42 [some (.ref 7), some (.ref k)] [] (pm_c X d 54 [.ref k, .ref 8, .int (((((pm_iw iv 7 2 (((iv 7 2) - 1))) 7 1) + ((pm_iw iv 7 2 (((iv 7 2) - 1))) 7 2)) - (((pm_iw iv 7 2 (((iv 7 2) - 1))) 7 1) + ((pm_iw iv 7 2 (((iv 7 2) - 1))) 7 2)) / 24 * 24) * 20)] g (pm_iw iv 7 2 (((iv 7 2) - 1)))) := by
  refine (at_aload_n dc4_9 rfl).trans ?_
  refine (at_dup dc4_10 rfl).trans ?_
  refine (at_gfI dc4_11 mc4 lf0_17 fo0_2 (ly7 hL)).trans ?_
  refine (at_iconst (v := 1) dc4_14 rfl).trans ?_
  refine (at_isub dc4_15).trans ?_
  refine (at_pfI dc4_16 mc4 lf0_17 po0_2 (ly7 hL)).trans ?_
  refine (at_aload_n dc4_19 rfl).trans ?_
  refine (at_aload_n dc4_20 rfl).trans ?_
  refine (at_gfR dc4_21 mc4 lf0_11 fo0_0 (ly7 hL) (lr7_0 hL)).trans ?_
  refine (at_aload_n dc4_24 rfl).trans ?_
  refine (at_gfI dc4_25 mc4 lf0_21 fo0_1 (ly7 hL)).trans ?_
  refine (at_aload_n dc4_28 rfl).trans ?_
  refine (at_gfI dc4_29 mc4 lf0_17 fo0_2 (ly7 hL)).trans ?_
  refine (at_iadd dc4_32).trans ?_
  refine (at_bipush (v := 24) dc4_33 (by decide)).trans ?_
  refine (at_irem dc4_35 (by decide)).trans ?_
  refine (at_bipush (v := 20) dc4_36 (by decide)).trans ?_
  refine (at_imul dc4_38).trans ?_
  exact at_inv dc4_39 mc4 lm0_28 rfl rfl (Nat.le_of_ble_eq_true rfl) (Or.inl ⟨hK.1, by decide⟩)
theorem b4_42 {X : pm_X} {d : Nat} {k : Nat} {g : pm_G} {iv : pm_V}  : pm_at X d 4 (42, [some (.ref 7), some (.ref k)], [], g, iv) = some (some (.int 1), g, iv) := by
  refine (at_iconst (v := 1) dc4_42 rfl).trans ?_
  exact at_zret dc4_43 mr4 (by decide)
-- Asker.<init> ()V
theorem dc5_0 : decode (pm_mb 5) 0 = .ok (.aload_n 0, 1) := by decide +kernel
theorem dc5_1 : decode (pm_mb 5) 1 = .ok (.invokespecial 3, 3) := by decide +kernel
theorem dc5_4 : decode (pm_mb 5) 4 = .ok (.aload_n 0, 1) := by decide +kernel
theorem dc5_5 : decode (pm_mb 5) 5 = .ok (.bipush 16, 2) := by decide +kernel
theorem dc5_7 : decode (pm_mb 5) 7 = .ok (.newarray .int, 2) := by decide +kernel
theorem dc5_9 : decode (pm_mb 5) 9 = .ok (.putfield 9, 3) := by decide +kernel
theorem dc5_12 : decode (pm_mb 5) 12 = .ok (.return_, 1) := by decide +kernel
-- Asker.isSuch (II)Z
theorem dc6_0 : decode (pm_mb 6) 0 = .ok (.iload_n 0, 1) := by decide +kernel
theorem dc6_1 : decode (pm_mb 6) 1 = .ok (.istore_n 2, 1) := by decide +kernel
theorem dc6_2 : decode (pm_mb 6) 2 = .ok (.iconst 0, 1) := by decide +kernel
theorem dc6_3 : decode (pm_mb 6) 3 = .ok (.istore_n 3, 1) := by decide +kernel
theorem dc6_4 : decode (pm_mb 6) 4 = .ok (.iload_n 3, 1) := by decide +kernel
theorem dc6_5 : decode (pm_mb 6) 5 = .ok (.getstatic 15, 3) := by decide +kernel
theorem dc6_8 : decode (pm_mb 6) 8 = .ok (.arraylength, 1) := by decide +kernel
theorem dc6_9 : decode (pm_mb 6) 9 = .ok (.if_icmp .ge 21, 3) := by decide +kernel
theorem dc6_12 : decode (pm_mb 6) 12 = .ok (.iload_n 2, 1) := by decide +kernel
theorem dc6_13 : decode (pm_mb 6) 13 = .ok (.iload_n 1, 1) := by decide +kernel
theorem dc6_14 : decode (pm_mb 6) 14 = .ok (.if_icmp .ne 5, 3) := by decide +kernel
theorem dc6_17 : decode (pm_mb 6) 17 = .ok (.iconst 1, 1) := by decide +kernel
theorem dc6_18 : decode (pm_mb 6) 18 = .ok (.ireturn, 1) := by decide +kernel
theorem dc6_19 : decode (pm_mb 6) 19 = .ok (.iload_n 2, 1) := by decide +kernel
theorem dc6_20 : decode (pm_mb 6) 20 = .ok (.invokestatic 18, 3) := by decide +kernel
theorem dc6_23 : decode (pm_mb 6) 23 = .ok (.istore_n 2, 1) := by decide +kernel
theorem dc6_24 : decode (pm_mb 6) 24 = .ok (.iinc 3 1, 3) := by decide +kernel
theorem dc6_27 : decode (pm_mb 6) 27 = .ok (.goto (-23), 3) := by decide +kernel
theorem dc6_30 : decode (pm_mb 6) 30 = .ok (.iconst 0, 1) := by decide +kernel
theorem dc6_31 : decode (pm_mb 6) 31 = .ok (.ireturn, 1) := by decide +kernel
theorem b6_0 {X : pm_X} {d : Nat} {x0 : Int32} {x1 : Int32} {g : pm_G} {iv : pm_V}  : pm_at X d 6 (0, [some (.int x0), some (.int x1), none, none], [], g, iv) = pm_at X d 6 (4, [some (.int x0), some (.int x1), some (.int x0), some (.int 0)], [], g, iv) := by
  refine (at_iload_n dc6_0 rfl).trans ?_
  refine (at_istore_n dc6_1 rfl).trans ?_
  refine (at_iconst (v := 0) dc6_2 rfl).trans ?_
  refine (at_istore_n dc6_3 rfl).trans ?_
  rfl
theorem b6_4 {X : pm_X} {d : Nat} {x0 : Int32} {x1 : Int32} {x2 : Int32} {x3 : Int32} {g : pm_G} {iv : pm_V} (hg : pm_xg g) : pm_at X d 6 (4, [some (.int x0), some (.int x1), some (.int x2), some (.int x3)], [], g, iv) = if (Int32.ofNat 6) ≤ x3 then pm_at X d 6 (30, [some (.int x0), some (.int x1), some (.int x2), some (.int x3)], [], g, iv) else pm_at X d 6 (12, [some (.int x0), some (.int x1), some (.int x2), some (.int x3)], [], g, iv) := by
  refine (at_iload_n dc6_4 rfl).trans ?_
  refine (at_gs0 dc6_5 mc6 ls1_15).trans ?_
  refine (at_aln dc6_8 (pm_xT1200 hg) (by decide)).trans ?_
  exact at_icmp_ge (t := 30) dc6_9 (by decide)
theorem b6_12 {X : pm_X} {d : Nat} {x0 : Int32} {x1 : Int32} {x2 : Int32} {x3 : Int32} {g : pm_G} {iv : pm_V}  : pm_at X d 6 (12, [some (.int x0), some (.int x1), some (.int x2), some (.int x3)], [], g, iv) = if ¬ x2 = x1 then pm_at X d 6 (19, [some (.int x0), some (.int x1), some (.int x2), some (.int x3)], [], g, iv) else pm_at X d 6 (17, [some (.int x0), some (.int x1), some (.int x2), some (.int x3)], [], g, iv) := by
  refine (at_iload_n dc6_12 rfl).trans ?_
  refine (at_iload_n dc6_13 rfl).trans ?_
  exact at_icmp_ne (t := 19) dc6_14 (by decide)
theorem b6_17 {X : pm_X} {d : Nat} {x0 : Int32} {x1 : Int32} {x2 : Int32} {x3 : Int32} {g : pm_G} {iv : pm_V}  : pm_at X d 6 (17, [some (.int x0), some (.int x1), some (.int x2), some (.int x3)], [], g, iv) = some (some (.int 1), g, iv) := by
  refine (at_iconst (v := 1) dc6_17 rfl).trans ?_
  exact at_zret dc6_18 mr6 (by decide)
theorem b6_19 {X : pm_X} {d : Nat} {x0 : Int32} {x1 : Int32} {x2 : Int32} {x3 : Int32} {g : pm_G} {iv : pm_V}  : pm_at X d 6 (19, [some (.int x0), some (.int x1), some (.int x2), some (.int x3)], [], g, iv) = pm_then X d 6 23 [some (.int x0), some (.int x1), some (.int x2), some (.int x3)] [] (pm_c X d 7 [.int x2] g iv) := by
  refine (at_iload_n dc6_19 rfl).trans ?_
  exact at_ins dc6_20 mc6 lm1_18 (Nat.le_of_ble_eq_true rfl) rfl rfl (Nat.le_of_ble_eq_true rfl)
theorem b6_23 {X : pm_X} {d : Nat} {x0 : Int32} {x1 : Int32} {x2 : Int32} {x3 : Int32} {s0 : Int32} {g : pm_G} {iv : pm_V}  : pm_at X d 6 (23, [some (.int x0), some (.int x1), some (.int x2), some (.int x3)], [.int s0], g, iv) = pm_at X d 6 (4, [some (.int x0), some (.int x1), some (.int s0), some (.int (x3 + 1))], [], g, iv) := by
  refine (at_istore_n dc6_23 rfl).trans ?_
  refine (at_iinc (v := 1) dc6_24 rfl (by decide) rfl).trans ?_
  refine (at_goto (t := 4) dc6_27 (by decide)).trans ?_
  rfl
theorem b6_30 {X : pm_X} {d : Nat} {x0 : Int32} {x1 : Int32} {x2 : Int32} {x3 : Int32} {g : pm_G} {iv : pm_V}  : pm_at X d 6 (30, [some (.int x0), some (.int x1), some (.int x2), some (.int x3)], [], g, iv) = some (some (.int 0), g, iv) := by
  refine (at_iconst (v := 0) dc6_30 rfl).trans ?_
  exact at_zret dc6_31 mr6 (by decide)
-- Asker.parentOf (I)I
theorem dc7_0 : decode (pm_mb 7) 0 = .ok (.iload_n 0, 1) := by decide +kernel
theorem dc7_1 : decode (pm_mb 7) 1 = .ok (.iconst 5, 1) := by decide +kernel
theorem dc7_2 : decode (pm_mb 7) 2 = .ok (.invokestatic 22, 3) := by decide +kernel
theorem dc7_5 : decode (pm_mb 7) 5 = .ok (.ifCond .eq 11, 3) := by decide +kernel
theorem dc7_8 : decode (pm_mb 7) 8 = .ok (.getstatic 15, 3) := by decide +kernel
theorem dc7_11 : decode (pm_mb 7) 11 = .ok (.iload_n 0, 1) := by decide +kernel
theorem dc7_12 : decode (pm_mb 7) 12 = .ok (.iaload, 1) := by decide +kernel
theorem dc7_13 : decode (pm_mb 7) 13 = .ok (.goto 4, 3) := by decide +kernel
theorem dc7_16 : decode (pm_mb 7) 16 = .ok (.iconst 0, 1) := by decide +kernel
theorem dc7_17 : decode (pm_mb 7) 17 = .ok (.ireturn, 1) := by decide +kernel
theorem b7_0 {X : pm_X} {d : Nat} {x0 : Int32} {g : pm_G} {iv : pm_V}  : pm_at X d 7 (0, [some (.int x0)], [], g, iv) = pm_then X d 7 5 [some (.int x0)] [] (pm_c X d 120 [.int x0, .int 5] g iv) := by
  refine (at_iload_n dc7_0 rfl).trans ?_
  refine (at_iconst (v := 5) dc7_1 rfl).trans ?_
  exact at_insN dc7_2 mc7 lm1_22 (Nat.le_of_ble_eq_true rfl) rfl rfl (Nat.le_of_ble_eq_true rfl)
theorem b7_5 {X : pm_X} {d : Nat} {x0 : Int32} {s0 : Int32} {g : pm_G} {iv : pm_V}  : pm_at X d 7 (5, [some (.int x0)], [.int s0], g, iv) = if s0 = 0 then pm_at X d 7 (16, [some (.int x0)], [], g, iv) else pm_at X d 7 (8, [some (.int x0)], [], g, iv) := by
  exact at_if_eq (t := 16) dc7_5 (by decide)
theorem b7_8 {X : pm_X} {d : Nat} {x0 : Int32} {g : pm_G} {iv : pm_V} (hg : pm_xg g) (i1 : vp_in x0 6) : pm_at X d 7 (8, [some (.int x0)], [], g, iv) = pm_at X d 7 (17, [some (.int x0)], [.int (pm_tX1200 (x0).toNatClampNeg)], g, iv) := by
  refine (at_gs0 dc7_8 mc7 ls1_15).trans ?_
  refine (at_iload_n dc7_11 rfl).trans ?_
  refine (at_xald dc7_12 (pm_xT1200 hg) i1).trans ?_
  refine (at_goto (t := 17) dc7_13 (by decide)).trans ?_
  rfl
theorem b7_16 {X : pm_X} {d : Nat} {x0 : Int32} {g : pm_G} {iv : pm_V}  : pm_at X d 7 (16, [some (.int x0)], [], g, iv) = pm_at X d 7 (17, [some (.int x0)], [.int 0], g, iv) := by
  refine (at_iconst (v := 0) dc7_16 rfl).trans ?_
  rfl
theorem b7_17 {X : pm_X} {d : Nat} {x0 : Int32} {s0 : Int32} {g : pm_G} {iv : pm_V}  : pm_at X d 7 (17, [some (.int x0)], [.int s0], g, iv) = some (some (.int s0), g, iv) := by
  exact at_iret dc7_17 mr7
-- Asker.bodyFor (II)I
theorem dc8_0 : decode (pm_mb 8) 0 = .ok (.iload_n 0, 1) := by decide +kernel
theorem dc8_1 : decode (pm_mb 8) 1 = .ok (.istore_n 2, 1) := by decide +kernel
theorem dc8_2 : decode (pm_mb 8) 2 = .ok (.iconst 0, 1) := by decide +kernel
theorem dc8_3 : decode (pm_mb 8) 3 = .ok (.istore_n 3, 1) := by decide +kernel
theorem dc8_4 : decode (pm_mb 8) 4 = .ok (.iload_n 3, 1) := by decide +kernel
theorem dc8_5 : decode (pm_mb 8) 5 = .ok (.getstatic 15, 3) := by decide +kernel
theorem dc8_8 : decode (pm_mb 8) 8 = .ok (.arraylength, 1) := by decide +kernel
theorem dc8_9 : decode (pm_mb 8) 9 = .ok (.if_icmp .ge 53, 3) := by decide +kernel
theorem dc8_12 : decode (pm_mb 8) 12 = .ok (.iload_n 2, 1) := by decide +kernel
theorem dc8_13 : decode (pm_mb 8) 13 = .ok (.iconst 5, 1) := by decide +kernel
theorem dc8_14 : decode (pm_mb 8) 14 = .ok (.invokestatic 22, 3) := by decide +kernel
theorem dc8_17 : decode (pm_mb 8) 17 = .ok (.ifCond .eq 23, 3) := by decide +kernel
theorem dc8_20 : decode (pm_mb 8) 20 = .ok (.iload_n 1, 1) := by decide +kernel
theorem dc8_21 : decode (pm_mb 8) 21 = .ok (.ifCond .ne 11, 3) := by decide +kernel
theorem dc8_24 : decode (pm_mb 8) 24 = .ok (.getstatic 26, 3) := by decide +kernel
theorem dc8_27 : decode (pm_mb 8) 27 = .ok (.iload_n 2, 1) := by decide +kernel
theorem dc8_28 : decode (pm_mb 8) 28 = .ok (.iaload, 1) := by decide +kernel
theorem dc8_29 : decode (pm_mb 8) 29 = .ok (.goto 12, 3) := by decide +kernel
theorem dc8_32 : decode (pm_mb 8) 32 = .ok (.getstatic 29, 3) := by decide +kernel
theorem dc8_35 : decode (pm_mb 8) 35 = .ok (.iload_n 2, 1) := by decide +kernel
theorem dc8_36 : decode (pm_mb 8) 36 = .ok (.iaload, 1) := by decide +kernel
theorem dc8_37 : decode (pm_mb 8) 37 = .ok (.goto 4, 3) := by decide +kernel
theorem dc8_40 : decode (pm_mb 8) 40 = .ok (.iconst 0, 1) := by decide +kernel
theorem dc8_41 : decode (pm_mb 8) 41 = .ok (.istore 4, 2) := by decide +kernel
theorem dc8_43 : decode (pm_mb 8) 43 = .ok (.iload 4, 2) := by decide +kernel
theorem dc8_45 : decode (pm_mb 8) 45 = .ok (.ifCond .eq 6, 3) := by decide +kernel
theorem dc8_48 : decode (pm_mb 8) 48 = .ok (.iload 4, 2) := by decide +kernel
theorem dc8_50 : decode (pm_mb 8) 50 = .ok (.ireturn, 1) := by decide +kernel
theorem dc8_51 : decode (pm_mb 8) 51 = .ok (.iload_n 2, 1) := by decide +kernel
theorem dc8_52 : decode (pm_mb 8) 52 = .ok (.invokestatic 18, 3) := by decide +kernel
theorem dc8_55 : decode (pm_mb 8) 55 = .ok (.istore_n 2, 1) := by decide +kernel
theorem dc8_56 : decode (pm_mb 8) 56 = .ok (.iinc 3 1, 3) := by decide +kernel
theorem dc8_59 : decode (pm_mb 8) 59 = .ok (.goto (-55), 3) := by decide +kernel
theorem dc8_62 : decode (pm_mb 8) 62 = .ok (.iconst 0, 1) := by decide +kernel
theorem dc8_63 : decode (pm_mb 8) 63 = .ok (.ireturn, 1) := by decide +kernel
theorem b8_0 {X : pm_X} {d : Nat} {x0 : Int32} {x1 : Int32} {g : pm_G} {iv : pm_V}  : pm_at X d 8 (0, [some (.int x0), some (.int x1), none, none, none], [], g, iv) = pm_at X d 8 (4, [some (.int x0), some (.int x1), some (.int x0), some (.int 0), none], [], g, iv) := by
  refine (at_iload_n dc8_0 rfl).trans ?_
  refine (at_istore_n dc8_1 rfl).trans ?_
  refine (at_iconst (v := 0) dc8_2 rfl).trans ?_
  refine (at_istore_n dc8_3 rfl).trans ?_
  rfl
theorem b8_4 {X : pm_X} {d : Nat} {x0 : Int32} {x1 : Int32} {x2 : Int32} {x3 : Int32} {z4 : Option Value} {g : pm_G} {iv : pm_V} (hg : pm_xg g) : pm_at X d 8 (4, [some (.int x0), some (.int x1), some (.int x2), some (.int x3), z4], [], g, iv) = if (Int32.ofNat 6) ≤ x3 then pm_at X d 8 (62, [some (.int x0), some (.int x1), some (.int x2), some (.int x3), z4], [], g, iv) else pm_at X d 8 (12, [some (.int x0), some (.int x1), some (.int x2), some (.int x3), z4], [], g, iv) := by
  refine (at_iload_n dc8_4 rfl).trans ?_
  refine (at_gs0 dc8_5 mc8 ls1_15).trans ?_
  refine (at_aln dc8_8 (pm_xT1200 hg) (by decide)).trans ?_
  exact at_icmp_ge (t := 62) dc8_9 (by decide)
theorem b8_12 {X : pm_X} {d : Nat} {x0 : Int32} {x1 : Int32} {x2 : Int32} {x3 : Int32} {z4 : Option Value} {g : pm_G} {iv : pm_V}  : pm_at X d 8 (12, [some (.int x0), some (.int x1), some (.int x2), some (.int x3), z4], [], g, iv) = pm_then X d 8 17 [some (.int x0), some (.int x1), some (.int x2), some (.int x3), z4] [] (pm_c X d 120 [.int x2, .int 5] g iv) := by
  refine (at_iload_n dc8_12 rfl).trans ?_
  refine (at_iconst (v := 5) dc8_13 rfl).trans ?_
  exact at_insN dc8_14 mc8 lm1_22 (Nat.le_of_ble_eq_true rfl) rfl rfl (Nat.le_of_ble_eq_true rfl)
theorem b8_17 {X : pm_X} {d : Nat} {x0 : Int32} {x1 : Int32} {x2 : Int32} {x3 : Int32} {z4 : Option Value} {s0 : Int32} {g : pm_G} {iv : pm_V}  : pm_at X d 8 (17, [some (.int x0), some (.int x1), some (.int x2), some (.int x3), z4], [.int s0], g, iv) = if s0 = 0 then pm_at X d 8 (40, [some (.int x0), some (.int x1), some (.int x2), some (.int x3), z4], [], g, iv) else pm_at X d 8 (20, [some (.int x0), some (.int x1), some (.int x2), some (.int x3), z4], [], g, iv) := by
  exact at_if_eq (t := 40) dc8_17 (by decide)
theorem b8_20 {X : pm_X} {d : Nat} {x0 : Int32} {x1 : Int32} {x2 : Int32} {x3 : Int32} {z4 : Option Value} {g : pm_G} {iv : pm_V}  : pm_at X d 8 (20, [some (.int x0), some (.int x1), some (.int x2), some (.int x3), z4], [], g, iv) = if ¬ x1 = 0 then pm_at X d 8 (32, [some (.int x0), some (.int x1), some (.int x2), some (.int x3), z4], [], g, iv) else pm_at X d 8 (24, [some (.int x0), some (.int x1), some (.int x2), some (.int x3), z4], [], g, iv) := by
  refine (at_iload_n dc8_20 rfl).trans ?_
  exact at_if_ne (t := 32) dc8_21 (by decide)
theorem b8_24 {X : pm_X} {d : Nat} {x0 : Int32} {x1 : Int32} {x2 : Int32} {x3 : Int32} {z4 : Option Value} {g : pm_G} {iv : pm_V} (hg : pm_xg g) (i1 : vp_in x2 6) : pm_at X d 8 (24, [some (.int x0), some (.int x1), some (.int x2), some (.int x3), z4], [], g, iv) = pm_at X d 8 (41, [some (.int x0), some (.int x1), some (.int x2), some (.int x3), z4], [.int (pm_tX1201 (x2).toNatClampNeg)], g, iv) := by
  refine (at_gs1 dc8_24 mc8 ls1_26).trans ?_
  refine (at_iload_n dc8_27 rfl).trans ?_
  refine (at_xald dc8_28 (pm_xT1201 hg) i1).trans ?_
  refine (at_goto (t := 41) dc8_29 (by decide)).trans ?_
  rfl
theorem b8_32 {X : pm_X} {d : Nat} {x0 : Int32} {x1 : Int32} {x2 : Int32} {x3 : Int32} {z4 : Option Value} {g : pm_G} {iv : pm_V} (hg : pm_xg g) (i1 : vp_in x2 6) : pm_at X d 8 (32, [some (.int x0), some (.int x1), some (.int x2), some (.int x3), z4], [], g, iv) = pm_at X d 8 (41, [some (.int x0), some (.int x1), some (.int x2), some (.int x3), z4], [.int (pm_tX1202 (x2).toNatClampNeg)], g, iv) := by
  refine (at_gs2 dc8_32 mc8 ls1_29).trans ?_
  refine (at_iload_n dc8_35 rfl).trans ?_
  refine (at_xald dc8_36 (pm_xT1202 hg) i1).trans ?_
  refine (at_goto (t := 41) dc8_37 (by decide)).trans ?_
  rfl
theorem b8_40 {X : pm_X} {d : Nat} {x0 : Int32} {x1 : Int32} {x2 : Int32} {x3 : Int32} {z4 : Option Value} {g : pm_G} {iv : pm_V}  : pm_at X d 8 (40, [some (.int x0), some (.int x1), some (.int x2), some (.int x3), z4], [], g, iv) = pm_at X d 8 (41, [some (.int x0), some (.int x1), some (.int x2), some (.int x3), z4], [.int 0], g, iv) := by
  refine (at_iconst (v := 0) dc8_40 rfl).trans ?_
  rfl
theorem b8_41 {X : pm_X} {d : Nat} {x0 : Int32} {x1 : Int32} {x2 : Int32} {x3 : Int32} {z4 : Option Value} {s0 : Int32} {g : pm_G} {iv : pm_V}  : pm_at X d 8 (41, [some (.int x0), some (.int x1), some (.int x2), some (.int x3), z4], [.int s0], g, iv) = if s0 = 0 then pm_at X d 8 (51, [some (.int x0), some (.int x1), some (.int x2), some (.int x3), some (.int s0)], [], g, iv) else pm_at X d 8 (48, [some (.int x0), some (.int x1), some (.int x2), some (.int x3), some (.int s0)], [], g, iv) := by
  refine (at_istore dc8_41 rfl).trans ?_
  refine (at_iload dc8_43 rfl).trans ?_
  exact at_if_eq (t := 51) dc8_45 (by decide)
theorem b8_48 {X : pm_X} {d : Nat} {x0 : Int32} {x1 : Int32} {x2 : Int32} {x3 : Int32} {x4 : Int32} {g : pm_G} {iv : pm_V}  : pm_at X d 8 (48, [some (.int x0), some (.int x1), some (.int x2), some (.int x3), some (.int x4)], [], g, iv) = some (some (.int x4), g, iv) := by
  refine (at_iload dc8_48 rfl).trans ?_
  exact at_iret dc8_50 mr8
theorem b8_51 {X : pm_X} {d : Nat} {x0 : Int32} {x1 : Int32} {x2 : Int32} {x3 : Int32} {x4 : Int32} {g : pm_G} {iv : pm_V}  : pm_at X d 8 (51, [some (.int x0), some (.int x1), some (.int x2), some (.int x3), some (.int x4)], [], g, iv) = pm_then X d 8 55 [some (.int x0), some (.int x1), some (.int x2), some (.int x3), some (.int x4)] [] (pm_c X d 7 [.int x2] g iv) := by
  refine (at_iload_n dc8_51 rfl).trans ?_
  exact at_ins dc8_52 mc8 lm1_18 (Nat.le_of_ble_eq_true rfl) rfl rfl (Nat.le_of_ble_eq_true rfl)
theorem b8_55 {X : pm_X} {d : Nat} {x0 : Int32} {x1 : Int32} {x2 : Int32} {x3 : Int32} {x4 : Int32} {s0 : Int32} {g : pm_G} {iv : pm_V}  : pm_at X d 8 (55, [some (.int x0), some (.int x1), some (.int x2), some (.int x3), some (.int x4)], [.int s0], g, iv) = pm_at X d 8 (4, [some (.int x0), some (.int x1), some (.int s0), some (.int (x3 + 1)), some (.int x4)], [], g, iv) := by
  refine (at_istore_n dc8_55 rfl).trans ?_
  refine (at_iinc (v := 1) dc8_56 rfl (by decide) rfl).trans ?_
  refine (at_goto (t := 4) dc8_59 (by decide)).trans ?_
  rfl
theorem b8_62 {X : pm_X} {d : Nat} {x0 : Int32} {x1 : Int32} {x2 : Int32} {x3 : Int32} {z4 : Option Value} {g : pm_G} {iv : pm_V}  : pm_at X d 8 (62, [some (.int x0), some (.int x1), some (.int x2), some (.int x3), z4], [], g, iv) = some (some (.int 0), g, iv) := by
  refine (at_iconst (v := 0) dc8_62 rfl).trans ?_
  exact at_iret dc8_63 mr8
-- Asker.traceAt (I)I
theorem dc9_0 : decode (pm_mb 9) 0 = .ok (.iload_n 1, 1) := by decide +kernel
theorem dc9_1 : decode (pm_mb 9) 1 = .ok (.ifCond .lt 26, 3) := by decide +kernel
theorem dc9_4 : decode (pm_mb 9) 4 = .ok (.iload_n 1, 1) := by decide +kernel
theorem dc9_5 : decode (pm_mb 9) 5 = .ok (.aload_n 0, 1) := by decide +kernel
theorem dc9_6 : decode (pm_mb 9) 6 = .ok (.getfield 32, 3) := by decide +kernel
theorem dc9_9 : decode (pm_mb 9) 9 = .ok (.if_icmp .ge 18, 3) := by decide +kernel
theorem dc9_12 : decode (pm_mb 9) 12 = .ok (.iload_n 1, 1) := by decide +kernel
theorem dc9_13 : decode (pm_mb 9) 13 = .ok (.bipush 16, 2) := by decide +kernel
theorem dc9_15 : decode (pm_mb 9) 15 = .ok (.if_icmp .ge 12, 3) := by decide +kernel
theorem dc9_18 : decode (pm_mb 9) 18 = .ok (.aload_n 0, 1) := by decide +kernel
theorem dc9_19 : decode (pm_mb 9) 19 = .ok (.getfield 9, 3) := by decide +kernel
theorem dc9_22 : decode (pm_mb 9) 22 = .ok (.iload_n 1, 1) := by decide +kernel
theorem dc9_23 : decode (pm_mb 9) 23 = .ok (.iaload, 1) := by decide +kernel
theorem dc9_24 : decode (pm_mb 9) 24 = .ok (.goto 5, 3) := by decide +kernel
theorem dc9_27 : decode (pm_mb 9) 27 = .ok (.ldc 36, 2) := by decide +kernel
theorem dc9_29 : decode (pm_mb 9) 29 = .ok (.ireturn, 1) := by decide +kernel
theorem b9_0 {X : pm_X} {d : Nat} {x1 : Int32} {g : pm_G} {iv : pm_V}  : pm_at X d 9 (0, [some (.ref 9), some (.int x1)], [], g, iv) = if x1 < 0 then pm_at X d 9 (27, [some (.ref 9), some (.int x1)], [], g, iv) else pm_at X d 9 (4, [some (.ref 9), some (.int x1)], [], g, iv) := by
  refine (at_iload_n dc9_0 rfl).trans ?_
  exact at_if_lt (t := 27) dc9_1 (by decide)
theorem b9_4 {X : pm_X} {d : Nat} {x1 : Int32} {g : pm_G} {iv : pm_V} (hL : pm_lay g) : pm_at X d 9 (4, [some (.ref 9), some (.int x1)], [], g, iv) = if (iv 9 1) ≤ x1 then pm_at X d 9 (27, [some (.ref 9), some (.int x1)], [], g, iv) else pm_at X d 9 (12, [some (.ref 9), some (.int x1)], [], g, iv) := by
  refine (at_iload_n dc9_4 rfl).trans ?_
  refine (at_aload_n dc9_5 rfl).trans ?_
  refine (at_gfI dc9_6 mc9 lf1_32 fo1_1 (ly9 hL)).trans ?_
  exact at_icmp_ge (t := 27) dc9_9 (by decide)
theorem b9_12 {X : pm_X} {d : Nat} {x1 : Int32} {g : pm_G} {iv : pm_V}  : pm_at X d 9 (12, [some (.ref 9), some (.int x1)], [], g, iv) = if 16 ≤ x1 then pm_at X d 9 (27, [some (.ref 9), some (.int x1)], [], g, iv) else pm_at X d 9 (18, [some (.ref 9), some (.int x1)], [], g, iv) := by
  refine (at_iload_n dc9_12 rfl).trans ?_
  refine (at_bipush (v := 16) dc9_13 (by decide)).trans ?_
  exact at_icmp_ge (t := 27) dc9_15 (by decide)
theorem b9_18 {X : pm_X} {d : Nat} {x1 : Int32} {g : pm_G} {iv : pm_V} (hL : pm_lay g) (i1 : vp_in x1 16) : pm_at X d 9 (18, [some (.ref 9), some (.int x1)], [], g, iv) = pm_at X d 9 (29, [some (.ref 9), some (.int x1)], [.int (iv 10 (x1 : Int32).toNatClampNeg)], g, iv) := by
  refine (at_aload_n dc9_18 rfl).trans ?_
  refine (at_gfR dc9_19 mc9 lf1_9 fo1_0 (ly9 hL) (lr9_0 hL)).trans ?_
  refine (at_iload_n dc9_22 rfl).trans ?_
  refine (at_iald dc9_23 (ly10 hL) i1).trans ?_
  refine (at_goto (t := 29) dc9_24 (by decide)).trans ?_
  rfl
theorem b9_27 {X : pm_X} {d : Nat} {x1 : Int32} {g : pm_G} {iv : pm_V}  : pm_at X d 9 (27, [some (.ref 9), some (.int x1)], [], g, iv) = pm_at X d 9 (29, [some (.ref 9), some (.int x1)], [.int (-1000000)], g, iv) := by
  refine (at_ldc dc9_27 mc9 lk1_36).trans ?_
  rfl
theorem b9_29 {X : pm_X} {d : Nat} {x1 : Int32} {s0 : Int32} {g : pm_G} {iv : pm_V}  : pm_at X d 9 (29, [some (.ref 9), some (.int x1)], [.int s0], g, iv) = some (some (.int s0), g, iv) := by
  exact at_iret dc9_29 mr9
-- Asker.answer (LHillHouses$Slope;II)I
theorem dc10_0 : decode (pm_mb 10) 0 = .ok (.aload_n 0, 1) := by decide +kernel
theorem dc10_1 : decode (pm_mb 10) 1 = .ok (.iconst 0, 1) := by decide +kernel
theorem dc10_2 : decode (pm_mb 10) 2 = .ok (.putfield 32, 3) := by decide +kernel
theorem dc10_5 : decode (pm_mb 10) 5 = .ok (.aload_n 0, 1) := by decide +kernel
theorem dc10_6 : decode (pm_mb 10) 6 = .ok (.aload_n 1, 1) := by decide +kernel
theorem dc10_7 : decode (pm_mb 10) 7 = .ok (.iload_n 2, 1) := by decide +kernel
theorem dc10_8 : decode (pm_mb 10) 8 = .ok (.iload_n 3, 1) := by decide +kernel
theorem dc10_9 : decode (pm_mb 10) 9 = .ok (.iconst 0, 1) := by decide +kernel
theorem dc10_10 : decode (pm_mb 10) 10 = .ok (.invokevirtual 37, 3) := by decide +kernel
theorem dc10_13 : decode (pm_mb 10) 13 = .ok (.ireturn, 1) := by decide +kernel
theorem b10_0 {X : pm_X} {d : Nat} {x2 : Int32} {x3 : Int32} {k : Nat} {g : pm_G} {iv : pm_V} (hL : pm_lay g) : pm_at X d 10 (0, [some (.ref 9), some (.ref k), some (.int x2), some (.int x3)], [], g, iv) = pm_then X d 10 13 [some (.ref 9), some (.ref k), some (.int x2), some (.int x3)] [] (pm_c X d 11 [.ref 9, .ref k, .int x2, .int x3, .int 0] g (pm_iw iv 9 1 0)) := by
  refine (at_aload_n dc10_0 rfl).trans ?_
  refine (at_iconst (v := 0) dc10_1 rfl).trans ?_
  refine (at_pfI dc10_2 mc10 lf1_32 po1_1 (ly9 hL)).trans ?_
  refine (at_aload_n dc10_5 rfl).trans ?_
  refine (at_aload_n dc10_6 rfl).trans ?_
  refine (at_iload_n dc10_7 rfl).trans ?_
  refine (at_iload_n dc10_8 rfl).trans ?_
  refine (at_iconst (v := 0) dc10_9 rfl).trans ?_
  exact at_inv dc10_10 mc10 lm1_37 rfl rfl (Nat.le_of_ble_eq_true rfl) (Or.inl ⟨(ly9 hL), by decide⟩)
theorem b10_13 {X : pm_X} {d : Nat} {x2 : Int32} {x3 : Int32} {s0 : Int32} {k : Nat} {g : pm_G} {iv : pm_V}  : pm_at X d 10 (13, [some (.ref 9), some (.ref k), some (.int x2), some (.int x3)], [.int s0], g, iv) = some (some (.int s0), g, iv) := by
  exact at_iret dc10_13 mr10
-- Asker.askAnew (LHillHouses$Slope;III)I
theorem dc11_0 : decode (pm_mb 11) 0 = .ok (.aload_n 0, 1) := by decide +kernel
theorem dc11_1 : decode (pm_mb 11) 1 = .ok (.aload_n 1, 1) := by decide +kernel
theorem dc11_2 : decode (pm_mb 11) 2 = .ok (.iload_n 2, 1) := by decide +kernel
theorem dc11_3 : decode (pm_mb 11) 3 = .ok (.aload_n 1, 1) := by decide +kernel
theorem dc11_4 : decode (pm_mb 11) 4 = .ok (.iload_n 2, 1) := by decide +kernel
theorem dc11_5 : decode (pm_mb 11) 5 = .ok (.invokevirtual 41, 3) := by decide +kernel
theorem dc11_8 : decode (pm_mb 11) 8 = .ok (.iload_n 3, 1) := by decide +kernel
theorem dc11_9 : decode (pm_mb 11) 9 = .ok (.invokestatic 46, 3) := by decide +kernel
theorem dc11_12 : decode (pm_mb 11) 12 = .ok (.iload 4, 2) := by decide +kernel
theorem dc11_14 : decode (pm_mb 11) 14 = .ok (.invokevirtual 50, 3) := by decide +kernel
theorem dc11_17 : decode (pm_mb 11) 17 = .ok (.ireturn, 1) := by decide +kernel
theorem b11_0 {X : pm_X} {d : Nat} {x2 : Int32} {x3 : Int32} {x4 : Int32} {k : Nat} {g : pm_G} {iv : pm_V} (hK : pm_sl g k) : pm_at X d 11 (0, [some (.ref 9), some (.ref k), some (.int x2), some (.int x3), some (.int x4)], [], g, iv) = pm_then X d 11 8 [some (.ref 9), some (.ref k), some (.int x2), some (.int x3), some (.int x4)] [.int x2, .ref k, .ref 9] (pm_c X d 36 [.ref k, .int x2] g iv) := by
  refine (at_aload_n dc11_0 rfl).trans ?_
  refine (at_aload_n dc11_1 rfl).trans ?_
  refine (at_iload_n dc11_2 rfl).trans ?_
  refine (at_aload_n dc11_3 rfl).trans ?_
  refine (at_iload_n dc11_4 rfl).trans ?_
  exact at_inv dc11_5 mc11 lm1_41 rfl rfl (Nat.le_of_ble_eq_true rfl) (Or.inl ⟨hK.1, by decide⟩)
theorem b11_8 {X : pm_X} {d : Nat} {x2 : Int32} {x3 : Int32} {x4 : Int32} {s0 : Int32} {s1 : Int32} {k : Nat} {g : pm_G} {iv : pm_V}  : pm_at X d 11 (8, [some (.ref 9), some (.ref k), some (.int x2), some (.int x3), some (.int x4)], [.int s0, .int s1, .ref k, .ref 9], g, iv) = pm_then X d 11 12 [some (.ref 9), some (.ref k), some (.int x2), some (.int x3), some (.int x4)] [.int s1, .ref k, .ref 9] (pm_c X d 8 [.int s0, .int x3] g iv) := by
  refine (at_iload_n dc11_8 rfl).trans ?_
  exact at_ins dc11_9 mc11 lm1_46 (Nat.le_of_ble_eq_true rfl) rfl rfl (Nat.le_of_ble_eq_true rfl)
theorem b11_12 {X : pm_X} {d : Nat} {x2 : Int32} {x3 : Int32} {x4 : Int32} {s0 : Int32} {s1 : Int32} {k : Nat} {g : pm_G} {iv : pm_V} (hL : pm_lay g) : pm_at X d 11 (12, [some (.ref 9), some (.ref k), some (.int x2), some (.int x3), some (.int x4)], [.int s0, .int s1, .ref k, .ref 9], g, iv) = pm_then X d 11 17 [some (.ref 9), some (.ref k), some (.int x2), some (.int x3), some (.int x4)] [] (pm_c X d 12 [.ref 9, .ref k, .int s1, .int s0, .int x4] g iv) := by
  refine (at_iload dc11_12 rfl).trans ?_
  exact at_inv dc11_14 mc11 lm1_50 rfl rfl (Nat.le_of_ble_eq_true rfl) (Or.inl ⟨(ly9 hL), by decide⟩)
theorem b11_17 {X : pm_X} {d : Nat} {x2 : Int32} {x3 : Int32} {x4 : Int32} {s0 : Int32} {k : Nat} {g : pm_G} {iv : pm_V}  : pm_at X d 11 (17, [some (.ref 9), some (.ref k), some (.int x2), some (.int x3), some (.int x4)], [.int s0], g, iv) = some (some (.int s0), g, iv) := by
  exact at_iret dc11_17 mr11
-- Asker.give (LHillHouses$Slope;III)I
theorem dc12_0 : decode (pm_mb 12) 0 = .ok (.iload 4, 2) := by decide +kernel
theorem dc12_2 : decode (pm_mb 12) 2 = .ok (.bipush 8, 2) := by decide +kernel
theorem dc12_4 : decode (pm_mb 12) 4 = .ok (.if_icmp .le 5, 3) := by decide +kernel
theorem dc12_7 : decode (pm_mb 12) 7 = .ok (.iconst 0, 1) := by decide +kernel
theorem dc12_8 : decode (pm_mb 12) 8 = .ok (.ireturn, 1) := by decide +kernel
theorem dc12_9 : decode (pm_mb 12) 9 = .ok (.aload_n 0, 1) := by decide +kernel
theorem dc12_10 : decode (pm_mb 12) 10 = .ok (.iload_n 3, 1) := by decide +kernel
theorem dc12_11 : decode (pm_mb 12) 11 = .ok (.invokevirtual 53, 3) := by decide +kernel
theorem dc12_14 : decode (pm_mb 12) 14 = .ok (.iload 4, 2) := by decide +kernel
theorem dc12_16 : decode (pm_mb 12) 16 = .ok (.iconst 1, 1) := by decide +kernel
theorem dc12_17 : decode (pm_mb 12) 17 = .ok (.iadd, 1) := by decide +kernel
theorem dc12_18 : decode (pm_mb 12) 18 = .ok (.istore 5, 2) := by decide +kernel
theorem dc12_20 : decode (pm_mb 12) 20 = .ok (.iload_n 3, 1) := by decide +kernel
theorem dc12_21 : decode (pm_mb 12) 21 = .ok (.tableswitch 210 10 24 #[75, 81, 102, 115, 129, 210, 210, 210, 210, 210, 142, 144, 161, 176, 197], 75) := by decide +kernel
theorem dc12_96 : decode (pm_mb 12) 96 = .ok (.aload_n 1, 1) := by decide +kernel
theorem dc12_97 : decode (pm_mb 12) 97 = .ok (.iload_n 2, 1) := by decide +kernel
theorem dc12_98 : decode (pm_mb 12) 98 = .ok (.invokevirtual 57, 3) := by decide +kernel
theorem dc12_101 : decode (pm_mb 12) 101 = .ok (.ireturn, 1) := by decide +kernel
theorem dc12_102 : decode (pm_mb 12) 102 = .ok (.aload_n 0, 1) := by decide +kernel
theorem dc12_103 : decode (pm_mb 12) 103 = .ok (.aload_n 1, 1) := by decide +kernel
theorem dc12_104 : decode (pm_mb 12) 104 = .ok (.iload_n 2, 1) := by decide +kernel
theorem dc12_105 : decode (pm_mb 12) 105 = .ok (.bipush 10, 2) := by decide +kernel
theorem dc12_107 : decode (pm_mb 12) 107 = .ok (.iload 5, 2) := by decide +kernel
theorem dc12_109 : decode (pm_mb 12) 109 = .ok (.invokevirtual 50, 3) := by decide +kernel
theorem dc12_112 : decode (pm_mb 12) 112 = .ok (.aload_n 0, 1) := by decide +kernel
theorem dc12_113 : decode (pm_mb 12) 113 = .ok (.aload_n 1, 1) := by decide +kernel
theorem dc12_114 : decode (pm_mb 12) 114 = .ok (.iload_n 2, 1) := by decide +kernel
theorem dc12_115 : decode (pm_mb 12) 115 = .ok (.iconst 1, 1) := by decide +kernel
theorem dc12_116 : decode (pm_mb 12) 116 = .ok (.iload 5, 2) := by decide +kernel
theorem dc12_118 : decode (pm_mb 12) 118 = .ok (.invokevirtual 37, 3) := by decide +kernel
theorem dc12_121 : decode (pm_mb 12) 121 = .ok (.iadd, 1) := by decide +kernel
theorem dc12_122 : decode (pm_mb 12) 122 = .ok (.ireturn, 1) := by decide +kernel
theorem dc12_123 : decode (pm_mb 12) 123 = .ok (.iconst 0, 1) := by decide +kernel
theorem dc12_124 : decode (pm_mb 12) 124 = .ok (.aload_n 0, 1) := by decide +kernel
theorem dc12_125 : decode (pm_mb 12) 125 = .ok (.aload_n 1, 1) := by decide +kernel
theorem dc12_126 : decode (pm_mb 12) 126 = .ok (.iload_n 2, 1) := by decide +kernel
theorem dc12_127 : decode (pm_mb 12) 127 = .ok (.bipush 11, 2) := by decide +kernel
theorem dc12_129 : decode (pm_mb 12) 129 = .ok (.iload 5, 2) := by decide +kernel
theorem dc12_131 : decode (pm_mb 12) 131 = .ok (.invokevirtual 50, 3) := by decide +kernel
theorem dc12_134 : decode (pm_mb 12) 134 = .ok (.isub, 1) := by decide +kernel
theorem dc12_135 : decode (pm_mb 12) 135 = .ok (.ireturn, 1) := by decide +kernel
theorem dc12_136 : decode (pm_mb 12) 136 = .ok (.aload_n 0, 1) := by decide +kernel
theorem dc12_137 : decode (pm_mb 12) 137 = .ok (.aload_n 1, 1) := by decide +kernel
theorem dc12_138 : decode (pm_mb 12) 138 = .ok (.iload_n 2, 1) := by decide +kernel
theorem dc12_139 : decode (pm_mb 12) 139 = .ok (.bipush 10, 2) := by decide +kernel
theorem dc12_141 : decode (pm_mb 12) 141 = .ok (.iload 5, 2) := by decide +kernel
theorem dc12_143 : decode (pm_mb 12) 143 = .ok (.invokevirtual 50, 3) := by decide +kernel
theorem dc12_146 : decode (pm_mb 12) 146 = .ok (.bipush 100, 2) := by decide +kernel
theorem dc12_148 : decode (pm_mb 12) 148 = .ok (.isub, 1) := by decide +kernel
theorem dc12_149 : decode (pm_mb 12) 149 = .ok (.ireturn, 1) := by decide +kernel
theorem dc12_150 : decode (pm_mb 12) 150 = .ok (.iconst 2, 1) := by decide +kernel
theorem dc12_151 : decode (pm_mb 12) 151 = .ok (.aload_n 0, 1) := by decide +kernel
theorem dc12_152 : decode (pm_mb 12) 152 = .ok (.aload_n 1, 1) := by decide +kernel
theorem dc12_153 : decode (pm_mb 12) 153 = .ok (.iload_n 2, 1) := by decide +kernel
theorem dc12_154 : decode (pm_mb 12) 154 = .ok (.bipush 13, 2) := by decide +kernel
theorem dc12_156 : decode (pm_mb 12) 156 = .ok (.iload 5, 2) := by decide +kernel
theorem dc12_158 : decode (pm_mb 12) 158 = .ok (.invokevirtual 50, 3) := by decide +kernel
theorem dc12_161 : decode (pm_mb 12) 161 = .ok (.imul, 1) := by decide +kernel
theorem dc12_162 : decode (pm_mb 12) 162 = .ok (.ireturn, 1) := by decide +kernel
theorem dc12_163 : decode (pm_mb 12) 163 = .ok (.iload_n 2, 1) := by decide +kernel
theorem dc12_164 : decode (pm_mb 12) 164 = .ok (.ireturn, 1) := by decide +kernel
theorem dc12_165 : decode (pm_mb 12) 165 = .ok (.aload_n 0, 1) := by decide +kernel
theorem dc12_166 : decode (pm_mb 12) 166 = .ok (.aload_n 1, 1) := by decide +kernel
theorem dc12_167 : decode (pm_mb 12) 167 = .ok (.iload_n 2, 1) := by decide +kernel
theorem dc12_168 : decode (pm_mb 12) 168 = .ok (.bipush 20, 2) := by decide +kernel
theorem dc12_170 : decode (pm_mb 12) 170 = .ok (.iload 5, 2) := by decide +kernel
theorem dc12_172 : decode (pm_mb 12) 172 = .ok (.invokevirtual 50, 3) := by decide +kernel
theorem dc12_175 : decode (pm_mb 12) 175 = .ok (.aload_n 1, 1) := by decide +kernel
theorem dc12_176 : decode (pm_mb 12) 176 = .ok (.iload_n 2, 1) := by decide +kernel
theorem dc12_177 : decode (pm_mb 12) 177 = .ok (.invokevirtual 60, 3) := by decide +kernel
theorem dc12_180 : decode (pm_mb 12) 180 = .ok (.iadd, 1) := by decide +kernel
theorem dc12_181 : decode (pm_mb 12) 181 = .ok (.ireturn, 1) := by decide +kernel
theorem dc12_182 : decode (pm_mb 12) 182 = .ok (.aload_n 0, 1) := by decide +kernel
theorem dc12_183 : decode (pm_mb 12) 183 = .ok (.aload_n 1, 1) := by decide +kernel
theorem dc12_184 : decode (pm_mb 12) 184 = .ok (.iload_n 2, 1) := by decide +kernel
theorem dc12_185 : decode (pm_mb 12) 185 = .ok (.bipush 21, 2) := by decide +kernel
theorem dc12_187 : decode (pm_mb 12) 187 = .ok (.iload 5, 2) := by decide +kernel
theorem dc12_189 : decode (pm_mb 12) 189 = .ok (.invokevirtual 50, 3) := by decide +kernel
theorem dc12_192 : decode (pm_mb 12) 192 = .ok (.sipush 1000, 3) := by decide +kernel
theorem dc12_195 : decode (pm_mb 12) 195 = .ok (.isub, 1) := by decide +kernel
theorem dc12_196 : decode (pm_mb 12) 196 = .ok (.ireturn, 1) := by decide +kernel
theorem dc12_197 : decode (pm_mb 12) 197 = .ok (.aload_n 0, 1) := by decide +kernel
theorem dc12_198 : decode (pm_mb 12) 198 = .ok (.aload_n 1, 1) := by decide +kernel
theorem dc12_199 : decode (pm_mb 12) 199 = .ok (.iload_n 2, 1) := by decide +kernel
theorem dc12_200 : decode (pm_mb 12) 200 = .ok (.bipush 20, 2) := by decide +kernel
theorem dc12_202 : decode (pm_mb 12) 202 = .ok (.iload 5, 2) := by decide +kernel
theorem dc12_204 : decode (pm_mb 12) 204 = .ok (.invokevirtual 50, 3) := by decide +kernel
theorem dc12_207 : decode (pm_mb 12) 207 = .ok (.aload_n 0, 1) := by decide +kernel
theorem dc12_208 : decode (pm_mb 12) 208 = .ok (.aload_n 1, 1) := by decide +kernel
theorem dc12_209 : decode (pm_mb 12) 209 = .ok (.iload_n 2, 1) := by decide +kernel
theorem dc12_210 : decode (pm_mb 12) 210 = .ok (.iconst 0, 1) := by decide +kernel
theorem dc12_211 : decode (pm_mb 12) 211 = .ok (.iload 5, 2) := by decide +kernel
theorem dc12_213 : decode (pm_mb 12) 213 = .ok (.invokevirtual 37, 3) := by decide +kernel
theorem dc12_216 : decode (pm_mb 12) 216 = .ok (.isub, 1) := by decide +kernel
theorem dc12_217 : decode (pm_mb 12) 217 = .ok (.ireturn, 1) := by decide +kernel
theorem dc12_218 : decode (pm_mb 12) 218 = .ok (.iconst 2, 1) := by decide +kernel
theorem dc12_219 : decode (pm_mb 12) 219 = .ok (.aload_n 0, 1) := by decide +kernel
theorem dc12_220 : decode (pm_mb 12) 220 = .ok (.aload_n 1, 1) := by decide +kernel
theorem dc12_221 : decode (pm_mb 12) 221 = .ok (.iload_n 2, 1) := by decide +kernel
theorem dc12_222 : decode (pm_mb 12) 222 = .ok (.bipush 21, 2) := by decide +kernel
theorem dc12_224 : decode (pm_mb 12) 224 = .ok (.iload 5, 2) := by decide +kernel
theorem dc12_226 : decode (pm_mb 12) 226 = .ok (.invokevirtual 50, 3) := by decide +kernel
theorem dc12_229 : decode (pm_mb 12) 229 = .ok (.imul, 1) := by decide +kernel
theorem dc12_230 : decode (pm_mb 12) 230 = .ok (.ireturn, 1) := by decide +kernel
theorem dc12_231 : decode (pm_mb 12) 231 = .ok (.iconst 0, 1) := by decide +kernel
theorem dc12_232 : decode (pm_mb 12) 232 = .ok (.ireturn, 1) := by decide +kernel
theorem b12_0 {X : pm_X} {d : Nat} {x2 : Int32} {x3 : Int32} {x4 : Int32} {k : Nat} {g : pm_G} {iv : pm_V}  : pm_at X d 12 (0, [some (.ref 9), some (.ref k), some (.int x2), some (.int x3), some (.int x4), none], [], g, iv) = if x4 ≤ 8 then pm_at X d 12 (9, [some (.ref 9), some (.ref k), some (.int x2), some (.int x3), some (.int x4), none], [], g, iv) else pm_at X d 12 (7, [some (.ref 9), some (.ref k), some (.int x2), some (.int x3), some (.int x4), none], [], g, iv) := by
  refine (at_iload dc12_0 rfl).trans ?_
  refine (at_bipush (v := 8) dc12_2 (by decide)).trans ?_
  exact at_icmp_le (t := 9) dc12_4 (by decide)
theorem b12_7 {X : pm_X} {d : Nat} {x2 : Int32} {x3 : Int32} {x4 : Int32} {k : Nat} {g : pm_G} {iv : pm_V}  : pm_at X d 12 (7, [some (.ref 9), some (.ref k), some (.int x2), some (.int x3), some (.int x4), none], [], g, iv) = some (some (.int 0), g, iv) := by
  refine (at_iconst (v := 0) dc12_7 rfl).trans ?_
  exact at_iret dc12_8 mr12
theorem b12_9 {X : pm_X} {d : Nat} {x2 : Int32} {x3 : Int32} {x4 : Int32} {k : Nat} {g : pm_G} {iv : pm_V} (hL : pm_lay g) : pm_at X d 12 (9, [some (.ref 9), some (.ref k), some (.int x2), some (.int x3), some (.int x4), none], [], g, iv) = pm_then X d 12 14 [some (.ref 9), some (.ref k), some (.int x2), some (.int x3), some (.int x4), none] [] (pm_c X d 13 [.ref 9, .int x3] g iv) := by
  refine (at_aload_n dc12_9 rfl).trans ?_
  refine (at_iload_n dc12_10 rfl).trans ?_
  exact at_inv dc12_11 mc12 lm1_53 rfl rfl (Nat.le_of_ble_eq_true rfl) (Or.inl ⟨(ly9 hL), by decide⟩)
theorem b12_14_c10 {X : pm_X} {d : Nat} {x2 : Int32} {x3 : Int32} {x4 : Int32} {k : Nat} {g : pm_G} {iv : pm_V} (hx : x3 = 10) : pm_at X d 12 (14, [some (.ref 9), some (.ref k), some (.int x2), some (.int x3), some (.int x4), none], [], g, iv) = pm_at X d 12 (96, [some (.ref 9), some (.ref k), some (.int x2), some (.int x3), some (.int x4), some (.int (x4 + 1))], [], g, iv) := by
  refine (at_iload dc12_14 rfl).trans ?_
  refine (at_iconst (v := 1) dc12_16 rfl).trans ?_
  refine (at_iadd dc12_17).trans ?_
  refine (at_istore dc12_18 rfl).trans ?_
  refine (at_iload_n dc12_20 rfl).trans ?_
  rw [hx]
  exact at_tswI (t := 96) dc12_21 (by decide) rfl (by decide)
theorem b12_14_c11 {X : pm_X} {d : Nat} {x2 : Int32} {x3 : Int32} {x4 : Int32} {k : Nat} {g : pm_G} {iv : pm_V} (hx : x3 = 11) : pm_at X d 12 (14, [some (.ref 9), some (.ref k), some (.int x2), some (.int x3), some (.int x4), none], [], g, iv) = pm_at X d 12 (102, [some (.ref 9), some (.ref k), some (.int x2), some (.int x3), some (.int x4), some (.int (x4 + 1))], [], g, iv) := by
  refine (at_iload dc12_14 rfl).trans ?_
  refine (at_iconst (v := 1) dc12_16 rfl).trans ?_
  refine (at_iadd dc12_17).trans ?_
  refine (at_istore dc12_18 rfl).trans ?_
  refine (at_iload_n dc12_20 rfl).trans ?_
  rw [hx]
  exact at_tswI (t := 102) dc12_21 (by decide) rfl (by decide)
theorem b12_14_c12 {X : pm_X} {d : Nat} {x2 : Int32} {x3 : Int32} {x4 : Int32} {k : Nat} {g : pm_G} {iv : pm_V} (hx : x3 = 12) : pm_at X d 12 (14, [some (.ref 9), some (.ref k), some (.int x2), some (.int x3), some (.int x4), none], [], g, iv) = pm_at X d 12 (123, [some (.ref 9), some (.ref k), some (.int x2), some (.int x3), some (.int x4), some (.int (x4 + 1))], [], g, iv) := by
  refine (at_iload dc12_14 rfl).trans ?_
  refine (at_iconst (v := 1) dc12_16 rfl).trans ?_
  refine (at_iadd dc12_17).trans ?_
  refine (at_istore dc12_18 rfl).trans ?_
  refine (at_iload_n dc12_20 rfl).trans ?_
  rw [hx]
  exact at_tswI (t := 123) dc12_21 (by decide) rfl (by decide)
theorem b12_14_c13 {X : pm_X} {d : Nat} {x2 : Int32} {x3 : Int32} {x4 : Int32} {k : Nat} {g : pm_G} {iv : pm_V} (hx : x3 = 13) : pm_at X d 12 (14, [some (.ref 9), some (.ref k), some (.int x2), some (.int x3), some (.int x4), none], [], g, iv) = pm_at X d 12 (136, [some (.ref 9), some (.ref k), some (.int x2), some (.int x3), some (.int x4), some (.int (x4 + 1))], [], g, iv) := by
  refine (at_iload dc12_14 rfl).trans ?_
  refine (at_iconst (v := 1) dc12_16 rfl).trans ?_
  refine (at_iadd dc12_17).trans ?_
  refine (at_istore dc12_18 rfl).trans ?_
  refine (at_iload_n dc12_20 rfl).trans ?_
  rw [hx]
  exact at_tswI (t := 136) dc12_21 (by decide) rfl (by decide)
theorem b12_14_c14 {X : pm_X} {d : Nat} {x2 : Int32} {x3 : Int32} {x4 : Int32} {k : Nat} {g : pm_G} {iv : pm_V} (hx : x3 = 14) : pm_at X d 12 (14, [some (.ref 9), some (.ref k), some (.int x2), some (.int x3), some (.int x4), none], [], g, iv) = pm_at X d 12 (150, [some (.ref 9), some (.ref k), some (.int x2), some (.int x3), some (.int x4), some (.int (x4 + 1))], [], g, iv) := by
  refine (at_iload dc12_14 rfl).trans ?_
  refine (at_iconst (v := 1) dc12_16 rfl).trans ?_
  refine (at_iadd dc12_17).trans ?_
  refine (at_istore dc12_18 rfl).trans ?_
  refine (at_iload_n dc12_20 rfl).trans ?_
  rw [hx]
  exact at_tswI (t := 150) dc12_21 (by decide) rfl (by decide)
theorem b12_14_c15 {X : pm_X} {d : Nat} {x2 : Int32} {x3 : Int32} {x4 : Int32} {k : Nat} {g : pm_G} {iv : pm_V} (hx : x3 = 15) : pm_at X d 12 (14, [some (.ref 9), some (.ref k), some (.int x2), some (.int x3), some (.int x4), none], [], g, iv) = pm_at X d 12 (231, [some (.ref 9), some (.ref k), some (.int x2), some (.int x3), some (.int x4), some (.int (x4 + 1))], [], g, iv) := by
  refine (at_iload dc12_14 rfl).trans ?_
  refine (at_iconst (v := 1) dc12_16 rfl).trans ?_
  refine (at_iadd dc12_17).trans ?_
  refine (at_istore dc12_18 rfl).trans ?_
  refine (at_iload_n dc12_20 rfl).trans ?_
  rw [hx]
  exact at_tswI (t := 231) dc12_21 (by decide) rfl (by decide)
theorem b12_14_c16 {X : pm_X} {d : Nat} {x2 : Int32} {x3 : Int32} {x4 : Int32} {k : Nat} {g : pm_G} {iv : pm_V} (hx : x3 = 16) : pm_at X d 12 (14, [some (.ref 9), some (.ref k), some (.int x2), some (.int x3), some (.int x4), none], [], g, iv) = pm_at X d 12 (231, [some (.ref 9), some (.ref k), some (.int x2), some (.int x3), some (.int x4), some (.int (x4 + 1))], [], g, iv) := by
  refine (at_iload dc12_14 rfl).trans ?_
  refine (at_iconst (v := 1) dc12_16 rfl).trans ?_
  refine (at_iadd dc12_17).trans ?_
  refine (at_istore dc12_18 rfl).trans ?_
  refine (at_iload_n dc12_20 rfl).trans ?_
  rw [hx]
  exact at_tswI (t := 231) dc12_21 (by decide) rfl (by decide)
theorem b12_14_c17 {X : pm_X} {d : Nat} {x2 : Int32} {x3 : Int32} {x4 : Int32} {k : Nat} {g : pm_G} {iv : pm_V} (hx : x3 = 17) : pm_at X d 12 (14, [some (.ref 9), some (.ref k), some (.int x2), some (.int x3), some (.int x4), none], [], g, iv) = pm_at X d 12 (231, [some (.ref 9), some (.ref k), some (.int x2), some (.int x3), some (.int x4), some (.int (x4 + 1))], [], g, iv) := by
  refine (at_iload dc12_14 rfl).trans ?_
  refine (at_iconst (v := 1) dc12_16 rfl).trans ?_
  refine (at_iadd dc12_17).trans ?_
  refine (at_istore dc12_18 rfl).trans ?_
  refine (at_iload_n dc12_20 rfl).trans ?_
  rw [hx]
  exact at_tswI (t := 231) dc12_21 (by decide) rfl (by decide)
theorem b12_14_c18 {X : pm_X} {d : Nat} {x2 : Int32} {x3 : Int32} {x4 : Int32} {k : Nat} {g : pm_G} {iv : pm_V} (hx : x3 = 18) : pm_at X d 12 (14, [some (.ref 9), some (.ref k), some (.int x2), some (.int x3), some (.int x4), none], [], g, iv) = pm_at X d 12 (231, [some (.ref 9), some (.ref k), some (.int x2), some (.int x3), some (.int x4), some (.int (x4 + 1))], [], g, iv) := by
  refine (at_iload dc12_14 rfl).trans ?_
  refine (at_iconst (v := 1) dc12_16 rfl).trans ?_
  refine (at_iadd dc12_17).trans ?_
  refine (at_istore dc12_18 rfl).trans ?_
  refine (at_iload_n dc12_20 rfl).trans ?_
  rw [hx]
  exact at_tswI (t := 231) dc12_21 (by decide) rfl (by decide)
theorem b12_14_c19 {X : pm_X} {d : Nat} {x2 : Int32} {x3 : Int32} {x4 : Int32} {k : Nat} {g : pm_G} {iv : pm_V} (hx : x3 = 19) : pm_at X d 12 (14, [some (.ref 9), some (.ref k), some (.int x2), some (.int x3), some (.int x4), none], [], g, iv) = pm_at X d 12 (231, [some (.ref 9), some (.ref k), some (.int x2), some (.int x3), some (.int x4), some (.int (x4 + 1))], [], g, iv) := by
  refine (at_iload dc12_14 rfl).trans ?_
  refine (at_iconst (v := 1) dc12_16 rfl).trans ?_
  refine (at_iadd dc12_17).trans ?_
  refine (at_istore dc12_18 rfl).trans ?_
  refine (at_iload_n dc12_20 rfl).trans ?_
  rw [hx]
  exact at_tswI (t := 231) dc12_21 (by decide) rfl (by decide)
theorem b12_14_c20 {X : pm_X} {d : Nat} {x2 : Int32} {x3 : Int32} {x4 : Int32} {k : Nat} {g : pm_G} {iv : pm_V} (hx : x3 = 20) : pm_at X d 12 (14, [some (.ref 9), some (.ref k), some (.int x2), some (.int x3), some (.int x4), none], [], g, iv) = pm_at X d 12 (163, [some (.ref 9), some (.ref k), some (.int x2), some (.int x3), some (.int x4), some (.int (x4 + 1))], [], g, iv) := by
  refine (at_iload dc12_14 rfl).trans ?_
  refine (at_iconst (v := 1) dc12_16 rfl).trans ?_
  refine (at_iadd dc12_17).trans ?_
  refine (at_istore dc12_18 rfl).trans ?_
  refine (at_iload_n dc12_20 rfl).trans ?_
  rw [hx]
  exact at_tswI (t := 163) dc12_21 (by decide) rfl (by decide)
theorem b12_14_c21 {X : pm_X} {d : Nat} {x2 : Int32} {x3 : Int32} {x4 : Int32} {k : Nat} {g : pm_G} {iv : pm_V} (hx : x3 = 21) : pm_at X d 12 (14, [some (.ref 9), some (.ref k), some (.int x2), some (.int x3), some (.int x4), none], [], g, iv) = pm_at X d 12 (165, [some (.ref 9), some (.ref k), some (.int x2), some (.int x3), some (.int x4), some (.int (x4 + 1))], [], g, iv) := by
  refine (at_iload dc12_14 rfl).trans ?_
  refine (at_iconst (v := 1) dc12_16 rfl).trans ?_
  refine (at_iadd dc12_17).trans ?_
  refine (at_istore dc12_18 rfl).trans ?_
  refine (at_iload_n dc12_20 rfl).trans ?_
  rw [hx]
  exact at_tswI (t := 165) dc12_21 (by decide) rfl (by decide)
theorem b12_14_c22 {X : pm_X} {d : Nat} {x2 : Int32} {x3 : Int32} {x4 : Int32} {k : Nat} {g : pm_G} {iv : pm_V} (hx : x3 = 22) : pm_at X d 12 (14, [some (.ref 9), some (.ref k), some (.int x2), some (.int x3), some (.int x4), none], [], g, iv) = pm_at X d 12 (182, [some (.ref 9), some (.ref k), some (.int x2), some (.int x3), some (.int x4), some (.int (x4 + 1))], [], g, iv) := by
  refine (at_iload dc12_14 rfl).trans ?_
  refine (at_iconst (v := 1) dc12_16 rfl).trans ?_
  refine (at_iadd dc12_17).trans ?_
  refine (at_istore dc12_18 rfl).trans ?_
  refine (at_iload_n dc12_20 rfl).trans ?_
  rw [hx]
  exact at_tswI (t := 182) dc12_21 (by decide) rfl (by decide)
theorem b12_14_c23 {X : pm_X} {d : Nat} {x2 : Int32} {x3 : Int32} {x4 : Int32} {k : Nat} {g : pm_G} {iv : pm_V} (hx : x3 = 23) : pm_at X d 12 (14, [some (.ref 9), some (.ref k), some (.int x2), some (.int x3), some (.int x4), none], [], g, iv) = pm_at X d 12 (197, [some (.ref 9), some (.ref k), some (.int x2), some (.int x3), some (.int x4), some (.int (x4 + 1))], [], g, iv) := by
  refine (at_iload dc12_14 rfl).trans ?_
  refine (at_iconst (v := 1) dc12_16 rfl).trans ?_
  refine (at_iadd dc12_17).trans ?_
  refine (at_istore dc12_18 rfl).trans ?_
  refine (at_iload_n dc12_20 rfl).trans ?_
  rw [hx]
  exact at_tswI (t := 197) dc12_21 (by decide) rfl (by decide)
theorem b12_14_c24 {X : pm_X} {d : Nat} {x2 : Int32} {x3 : Int32} {x4 : Int32} {k : Nat} {g : pm_G} {iv : pm_V} (hx : x3 = 24) : pm_at X d 12 (14, [some (.ref 9), some (.ref k), some (.int x2), some (.int x3), some (.int x4), none], [], g, iv) = pm_at X d 12 (218, [some (.ref 9), some (.ref k), some (.int x2), some (.int x3), some (.int x4), some (.int (x4 + 1))], [], g, iv) := by
  refine (at_iload dc12_14 rfl).trans ?_
  refine (at_iconst (v := 1) dc12_16 rfl).trans ?_
  refine (at_iadd dc12_17).trans ?_
  refine (at_istore dc12_18 rfl).trans ?_
  refine (at_iload_n dc12_20 rfl).trans ?_
  rw [hx]
  exact at_tswI (t := 218) dc12_21 (by decide) rfl (by decide)
theorem b12_14_df {X : pm_X} {d : Nat} {x2 : Int32} {x3 : Int32} {x4 : Int32} {k : Nat} {g : pm_G} {iv : pm_V}  (hx : x3.toInt < 10 ∨ 24 < x3.toInt) : pm_at X d 12 (14, [some (.ref 9), some (.ref k), some (.int x2), some (.int x3), some (.int x4), none], [], g, iv) = pm_at X d 12 (231, [some (.ref 9), some (.ref k), some (.int x2), some (.int x3), some (.int x4), some (.int (x4 + 1))], [], g, iv) := by
  refine (at_iload dc12_14 rfl).trans ?_
  refine (at_iconst (v := 1) dc12_16 rfl).trans ?_
  refine (at_iadd dc12_17).trans ?_
  refine (at_istore dc12_18 rfl).trans ?_
  refine (at_iload_n dc12_20 rfl).trans ?_
  exact at_tswO (t := 231) dc12_21 hx (by decide)
theorem b12_96 {X : pm_X} {d : Nat} {x2 : Int32} {x3 : Int32} {x4 : Int32} {x5 : Int32} {k : Nat} {g : pm_G} {iv : pm_V} (hK : pm_sl g k) : pm_at X d 12 (96, [some (.ref 9), some (.ref k), some (.int x2), some (.int x3), some (.int x4), some (.int x5)], [], g, iv) = pm_then X d 12 101 [some (.ref 9), some (.ref k), some (.int x2), some (.int x3), some (.int x4), some (.int x5)] [] (pm_c X d 37 [.ref k, .int x2] g iv) := by
  refine (at_aload_n dc12_96 rfl).trans ?_
  refine (at_iload_n dc12_97 rfl).trans ?_
  exact at_inv dc12_98 mc12 lm1_57 rfl rfl (Nat.le_of_ble_eq_true rfl) (Or.inl ⟨hK.1, by decide⟩)
theorem b12_101 {X : pm_X} {d : Nat} {x2 : Int32} {x3 : Int32} {x4 : Int32} {x5 : Int32} {s0 : Int32} {k : Nat} {g : pm_G} {iv : pm_V}  : pm_at X d 12 (101, [some (.ref 9), some (.ref k), some (.int x2), some (.int x3), some (.int x4), some (.int x5)], [.int s0], g, iv) = some (some (.int s0), g, iv) := by
  exact at_iret dc12_101 mr12
theorem b12_102 {X : pm_X} {d : Nat} {x2 : Int32} {x3 : Int32} {x4 : Int32} {x5 : Int32} {k : Nat} {g : pm_G} {iv : pm_V} (hL : pm_lay g) : pm_at X d 12 (102, [some (.ref 9), some (.ref k), some (.int x2), some (.int x3), some (.int x4), some (.int x5)], [], g, iv) = pm_then X d 12 112 [some (.ref 9), some (.ref k), some (.int x2), some (.int x3), some (.int x4), some (.int x5)] [] (pm_c X d 12 [.ref 9, .ref k, .int x2, .int 10, .int x5] g iv) := by
  refine (at_aload_n dc12_102 rfl).trans ?_
  refine (at_aload_n dc12_103 rfl).trans ?_
  refine (at_iload_n dc12_104 rfl).trans ?_
  refine (at_bipush (v := 10) dc12_105 (by decide)).trans ?_
  refine (at_iload dc12_107 rfl).trans ?_
  exact at_inv dc12_109 mc12 lm1_50 rfl rfl (Nat.le_of_ble_eq_true rfl) (Or.inl ⟨(ly9 hL), by decide⟩)
theorem b12_112 {X : pm_X} {d : Nat} {x2 : Int32} {x3 : Int32} {x4 : Int32} {x5 : Int32} {s0 : Int32} {k : Nat} {g : pm_G} {iv : pm_V} (hL : pm_lay g) : pm_at X d 12 (112, [some (.ref 9), some (.ref k), some (.int x2), some (.int x3), some (.int x4), some (.int x5)], [.int s0], g, iv) = pm_then X d 12 121 [some (.ref 9), some (.ref k), some (.int x2), some (.int x3), some (.int x4), some (.int x5)] [.int s0] (pm_c X d 11 [.ref 9, .ref k, .int x2, .int 1, .int x5] g iv) := by
  refine (at_aload_n dc12_112 rfl).trans ?_
  refine (at_aload_n dc12_113 rfl).trans ?_
  refine (at_iload_n dc12_114 rfl).trans ?_
  refine (at_iconst (v := 1) dc12_115 rfl).trans ?_
  refine (at_iload dc12_116 rfl).trans ?_
  exact at_inv dc12_118 mc12 lm1_37 rfl rfl (Nat.le_of_ble_eq_true rfl) (Or.inl ⟨(ly9 hL), by decide⟩)
theorem b12_121 {X : pm_X} {d : Nat} {x2 : Int32} {x3 : Int32} {x4 : Int32} {x5 : Int32} {s0 : Int32} {s1 : Int32} {k : Nat} {g : pm_G} {iv : pm_V}  : pm_at X d 12 (121, [some (.ref 9), some (.ref k), some (.int x2), some (.int x3), some (.int x4), some (.int x5)], [.int s0, .int s1], g, iv) = some (some (.int (s1 + s0)), g, iv) := by
  refine (at_iadd dc12_121).trans ?_
  exact at_iret dc12_122 mr12
theorem b12_123 {X : pm_X} {d : Nat} {x2 : Int32} {x3 : Int32} {x4 : Int32} {x5 : Int32} {k : Nat} {g : pm_G} {iv : pm_V} (hL : pm_lay g) : pm_at X d 12 (123, [some (.ref 9), some (.ref k), some (.int x2), some (.int x3), some (.int x4), some (.int x5)], [], g, iv) = pm_then X d 12 134 [some (.ref 9), some (.ref k), some (.int x2), some (.int x3), some (.int x4), some (.int x5)] [.int 0] (pm_c X d 12 [.ref 9, .ref k, .int x2, .int 11, .int x5] g iv) := by
  refine (at_iconst (v := 0) dc12_123 rfl).trans ?_
  refine (at_aload_n dc12_124 rfl).trans ?_
  refine (at_aload_n dc12_125 rfl).trans ?_
  refine (at_iload_n dc12_126 rfl).trans ?_
  refine (at_bipush (v := 11) dc12_127 (by decide)).trans ?_
  refine (at_iload dc12_129 rfl).trans ?_
  exact at_inv dc12_131 mc12 lm1_50 rfl rfl (Nat.le_of_ble_eq_true rfl) (Or.inl ⟨(ly9 hL), by decide⟩)
theorem b12_134 {X : pm_X} {d : Nat} {x2 : Int32} {x3 : Int32} {x4 : Int32} {x5 : Int32} {s0 : Int32} {s1 : Int32} {k : Nat} {g : pm_G} {iv : pm_V}  : pm_at X d 12 (134, [some (.ref 9), some (.ref k), some (.int x2), some (.int x3), some (.int x4), some (.int x5)], [.int s0, .int s1], g, iv) = some (some (.int (s1 - s0)), g, iv) := by
  refine (at_isub dc12_134).trans ?_
  exact at_iret dc12_135 mr12
theorem b12_136 {X : pm_X} {d : Nat} {x2 : Int32} {x3 : Int32} {x4 : Int32} {x5 : Int32} {k : Nat} {g : pm_G} {iv : pm_V} (hL : pm_lay g) : pm_at X d 12 (136, [some (.ref 9), some (.ref k), some (.int x2), some (.int x3), some (.int x4), some (.int x5)], [], g, iv) = pm_then X d 12 146 [some (.ref 9), some (.ref k), some (.int x2), some (.int x3), some (.int x4), some (.int x5)] [] (pm_c X d 12 [.ref 9, .ref k, .int x2, .int 10, .int x5] g iv) := by
  refine (at_aload_n dc12_136 rfl).trans ?_
  refine (at_aload_n dc12_137 rfl).trans ?_
  refine (at_iload_n dc12_138 rfl).trans ?_
  refine (at_bipush (v := 10) dc12_139 (by decide)).trans ?_
  refine (at_iload dc12_141 rfl).trans ?_
  exact at_inv dc12_143 mc12 lm1_50 rfl rfl (Nat.le_of_ble_eq_true rfl) (Or.inl ⟨(ly9 hL), by decide⟩)
theorem b12_146 {X : pm_X} {d : Nat} {x2 : Int32} {x3 : Int32} {x4 : Int32} {x5 : Int32} {s0 : Int32} {k : Nat} {g : pm_G} {iv : pm_V}  : pm_at X d 12 (146, [some (.ref 9), some (.ref k), some (.int x2), some (.int x3), some (.int x4), some (.int x5)], [.int s0], g, iv) = some (some (.int (s0 - 100)), g, iv) := by
  refine (at_bipush (v := 100) dc12_146 (by decide)).trans ?_
  refine (at_isub dc12_148).trans ?_
  exact at_iret dc12_149 mr12
theorem b12_150 {X : pm_X} {d : Nat} {x2 : Int32} {x3 : Int32} {x4 : Int32} {x5 : Int32} {k : Nat} {g : pm_G} {iv : pm_V} (hL : pm_lay g) : pm_at X d 12 (150, [some (.ref 9), some (.ref k), some (.int x2), some (.int x3), some (.int x4), some (.int x5)], [], g, iv) = pm_then X d 12 161 [some (.ref 9), some (.ref k), some (.int x2), some (.int x3), some (.int x4), some (.int x5)] [.int 2] (pm_c X d 12 [.ref 9, .ref k, .int x2, .int 13, .int x5] g iv) := by
  refine (at_iconst (v := 2) dc12_150 rfl).trans ?_
  refine (at_aload_n dc12_151 rfl).trans ?_
  refine (at_aload_n dc12_152 rfl).trans ?_
  refine (at_iload_n dc12_153 rfl).trans ?_
  refine (at_bipush (v := 13) dc12_154 (by decide)).trans ?_
  refine (at_iload dc12_156 rfl).trans ?_
  exact at_inv dc12_158 mc12 lm1_50 rfl rfl (Nat.le_of_ble_eq_true rfl) (Or.inl ⟨(ly9 hL), by decide⟩)
theorem b12_161 {X : pm_X} {d : Nat} {x2 : Int32} {x3 : Int32} {x4 : Int32} {x5 : Int32} {s0 : Int32} {s1 : Int32} {k : Nat} {g : pm_G} {iv : pm_V}  : pm_at X d 12 (161, [some (.ref 9), some (.ref k), some (.int x2), some (.int x3), some (.int x4), some (.int x5)], [.int s0, .int s1], g, iv) = some (some (.int (s1 * s0)), g, iv) := by
  refine (at_imul dc12_161).trans ?_
  exact at_iret dc12_162 mr12
theorem b12_163 {X : pm_X} {d : Nat} {x2 : Int32} {x3 : Int32} {x4 : Int32} {x5 : Int32} {k : Nat} {g : pm_G} {iv : pm_V}  : pm_at X d 12 (163, [some (.ref 9), some (.ref k), some (.int x2), some (.int x3), some (.int x4), some (.int x5)], [], g, iv) = some (some (.int x2), g, iv) := by
  refine (at_iload_n dc12_163 rfl).trans ?_
  exact at_iret dc12_164 mr12
theorem b12_165 {X : pm_X} {d : Nat} {x2 : Int32} {x3 : Int32} {x4 : Int32} {x5 : Int32} {k : Nat} {g : pm_G} {iv : pm_V} (hL : pm_lay g) : pm_at X d 12 (165, [some (.ref 9), some (.ref k), some (.int x2), some (.int x3), some (.int x4), some (.int x5)], [], g, iv) = pm_then X d 12 175 [some (.ref 9), some (.ref k), some (.int x2), some (.int x3), some (.int x4), some (.int x5)] [] (pm_c X d 12 [.ref 9, .ref k, .int x2, .int 20, .int x5] g iv) := by
  refine (at_aload_n dc12_165 rfl).trans ?_
  refine (at_aload_n dc12_166 rfl).trans ?_
  refine (at_iload_n dc12_167 rfl).trans ?_
  refine (at_bipush (v := 20) dc12_168 (by decide)).trans ?_
  refine (at_iload dc12_170 rfl).trans ?_
  exact at_inv dc12_172 mc12 lm1_50 rfl rfl (Nat.le_of_ble_eq_true rfl) (Or.inl ⟨(ly9 hL), by decide⟩)
theorem b12_175 {X : pm_X} {d : Nat} {x2 : Int32} {x3 : Int32} {x4 : Int32} {x5 : Int32} {s0 : Int32} {k : Nat} {g : pm_G} {iv : pm_V} (hK : pm_sl g k) : pm_at X d 12 (175, [some (.ref 9), some (.ref k), some (.int x2), some (.int x3), some (.int x4), some (.int x5)], [.int s0], g, iv) = pm_then X d 12 180 [some (.ref 9), some (.ref k), some (.int x2), some (.int x3), some (.int x4), some (.int x5)] [.int s0] (pm_c X d 39 [.ref k, .int x2] g iv) := by
  refine (at_aload_n dc12_175 rfl).trans ?_
  refine (at_iload_n dc12_176 rfl).trans ?_
  exact at_inv dc12_177 mc12 lm1_60 rfl rfl (Nat.le_of_ble_eq_true rfl) (Or.inl ⟨hK.1, by decide⟩)
theorem b12_180 {X : pm_X} {d : Nat} {x2 : Int32} {x3 : Int32} {x4 : Int32} {x5 : Int32} {s0 : Int32} {s1 : Int32} {k : Nat} {g : pm_G} {iv : pm_V}  : pm_at X d 12 (180, [some (.ref 9), some (.ref k), some (.int x2), some (.int x3), some (.int x4), some (.int x5)], [.int s0, .int s1], g, iv) = some (some (.int (s1 + s0)), g, iv) := by
  refine (at_iadd dc12_180).trans ?_
  exact at_iret dc12_181 mr12
theorem b12_182 {X : pm_X} {d : Nat} {x2 : Int32} {x3 : Int32} {x4 : Int32} {x5 : Int32} {k : Nat} {g : pm_G} {iv : pm_V} (hL : pm_lay g) : pm_at X d 12 (182, [some (.ref 9), some (.ref k), some (.int x2), some (.int x3), some (.int x4), some (.int x5)], [], g, iv) = pm_then X d 12 192 [some (.ref 9), some (.ref k), some (.int x2), some (.int x3), some (.int x4), some (.int x5)] [] (pm_c X d 12 [.ref 9, .ref k, .int x2, .int 21, .int x5] g iv) := by
  refine (at_aload_n dc12_182 rfl).trans ?_
  refine (at_aload_n dc12_183 rfl).trans ?_
  refine (at_iload_n dc12_184 rfl).trans ?_
  refine (at_bipush (v := 21) dc12_185 (by decide)).trans ?_
  refine (at_iload dc12_187 rfl).trans ?_
  exact at_inv dc12_189 mc12 lm1_50 rfl rfl (Nat.le_of_ble_eq_true rfl) (Or.inl ⟨(ly9 hL), by decide⟩)
theorem b12_192 {X : pm_X} {d : Nat} {x2 : Int32} {x3 : Int32} {x4 : Int32} {x5 : Int32} {s0 : Int32} {k : Nat} {g : pm_G} {iv : pm_V}  : pm_at X d 12 (192, [some (.ref 9), some (.ref k), some (.int x2), some (.int x3), some (.int x4), some (.int x5)], [.int s0], g, iv) = some (some (.int (s0 - 1000)), g, iv) := by
  refine (at_sipush (v := 1000) dc12_192 (by decide)).trans ?_
  refine (at_isub dc12_195).trans ?_
  exact at_iret dc12_196 mr12
theorem b12_197 {X : pm_X} {d : Nat} {x2 : Int32} {x3 : Int32} {x4 : Int32} {x5 : Int32} {k : Nat} {g : pm_G} {iv : pm_V} (hL : pm_lay g) : pm_at X d 12 (197, [some (.ref 9), some (.ref k), some (.int x2), some (.int x3), some (.int x4), some (.int x5)], [], g, iv) = pm_then X d 12 207 [some (.ref 9), some (.ref k), some (.int x2), some (.int x3), some (.int x4), some (.int x5)] [] (pm_c X d 12 [.ref 9, .ref k, .int x2, .int 20, .int x5] g iv) := by
  refine (at_aload_n dc12_197 rfl).trans ?_
  refine (at_aload_n dc12_198 rfl).trans ?_
  refine (at_iload_n dc12_199 rfl).trans ?_
  refine (at_bipush (v := 20) dc12_200 (by decide)).trans ?_
  refine (at_iload dc12_202 rfl).trans ?_
  exact at_inv dc12_204 mc12 lm1_50 rfl rfl (Nat.le_of_ble_eq_true rfl) (Or.inl ⟨(ly9 hL), by decide⟩)
theorem b12_207 {X : pm_X} {d : Nat} {x2 : Int32} {x3 : Int32} {x4 : Int32} {x5 : Int32} {s0 : Int32} {k : Nat} {g : pm_G} {iv : pm_V} (hL : pm_lay g) : pm_at X d 12 (207, [some (.ref 9), some (.ref k), some (.int x2), some (.int x3), some (.int x4), some (.int x5)], [.int s0], g, iv) = pm_then X d 12 216 [some (.ref 9), some (.ref k), some (.int x2), some (.int x3), some (.int x4), some (.int x5)] [.int s0] (pm_c X d 11 [.ref 9, .ref k, .int x2, .int 0, .int x5] g iv) := by
  refine (at_aload_n dc12_207 rfl).trans ?_
  refine (at_aload_n dc12_208 rfl).trans ?_
  refine (at_iload_n dc12_209 rfl).trans ?_
  refine (at_iconst (v := 0) dc12_210 rfl).trans ?_
  refine (at_iload dc12_211 rfl).trans ?_
  exact at_inv dc12_213 mc12 lm1_37 rfl rfl (Nat.le_of_ble_eq_true rfl) (Or.inl ⟨(ly9 hL), by decide⟩)
theorem b12_216 {X : pm_X} {d : Nat} {x2 : Int32} {x3 : Int32} {x4 : Int32} {x5 : Int32} {s0 : Int32} {s1 : Int32} {k : Nat} {g : pm_G} {iv : pm_V}  : pm_at X d 12 (216, [some (.ref 9), some (.ref k), some (.int x2), some (.int x3), some (.int x4), some (.int x5)], [.int s0, .int s1], g, iv) = some (some (.int (s1 - s0)), g, iv) := by
  refine (at_isub dc12_216).trans ?_
  exact at_iret dc12_217 mr12
theorem b12_218 {X : pm_X} {d : Nat} {x2 : Int32} {x3 : Int32} {x4 : Int32} {x5 : Int32} {k : Nat} {g : pm_G} {iv : pm_V} (hL : pm_lay g) : pm_at X d 12 (218, [some (.ref 9), some (.ref k), some (.int x2), some (.int x3), some (.int x4), some (.int x5)], [], g, iv) = pm_then X d 12 229 [some (.ref 9), some (.ref k), some (.int x2), some (.int x3), some (.int x4), some (.int x5)] [.int 2] (pm_c X d 12 [.ref 9, .ref k, .int x2, .int 21, .int x5] g iv) := by
  refine (at_iconst (v := 2) dc12_218 rfl).trans ?_
  refine (at_aload_n dc12_219 rfl).trans ?_
  refine (at_aload_n dc12_220 rfl).trans ?_
  refine (at_iload_n dc12_221 rfl).trans ?_
  refine (at_bipush (v := 21) dc12_222 (by decide)).trans ?_
  refine (at_iload dc12_224 rfl).trans ?_
  exact at_inv dc12_226 mc12 lm1_50 rfl rfl (Nat.le_of_ble_eq_true rfl) (Or.inl ⟨(ly9 hL), by decide⟩)
theorem b12_229 {X : pm_X} {d : Nat} {x2 : Int32} {x3 : Int32} {x4 : Int32} {x5 : Int32} {s0 : Int32} {s1 : Int32} {k : Nat} {g : pm_G} {iv : pm_V}  : pm_at X d 12 (229, [some (.ref 9), some (.ref k), some (.int x2), some (.int x3), some (.int x4), some (.int x5)], [.int s0, .int s1], g, iv) = some (some (.int (s1 * s0)), g, iv) := by
  refine (at_imul dc12_229).trans ?_
  exact at_iret dc12_230 mr12
theorem b12_231 {X : pm_X} {d : Nat} {x2 : Int32} {x3 : Int32} {x4 : Int32} {x5 : Int32} {k : Nat} {g : pm_G} {iv : pm_V}  : pm_at X d 12 (231, [some (.ref 9), some (.ref k), some (.int x2), some (.int x3), some (.int x4), some (.int x5)], [], g, iv) = some (some (.int 0), g, iv) := by
  refine (at_iconst (v := 0) dc12_231 rfl).trans ?_
  exact at_iret dc12_232 mr12
-- Asker.leaveInTrace (I)V
theorem dc13_0 : decode (pm_mb 13) 0 = .ok (.aload_n 0, 1) := by decide +kernel
theorem dc13_1 : decode (pm_mb 13) 1 = .ok (.getfield 32, 3) := by decide +kernel
theorem dc13_4 : decode (pm_mb 13) 4 = .ok (.bipush 16, 2) := by decide +kernel
theorem dc13_6 : decode (pm_mb 13) 6 = .ok (.if_icmp .ge 23, 3) := by decide +kernel
theorem dc13_9 : decode (pm_mb 13) 9 = .ok (.aload_n 0, 1) := by decide +kernel
theorem dc13_10 : decode (pm_mb 13) 10 = .ok (.getfield 9, 3) := by decide +kernel
theorem dc13_13 : decode (pm_mb 13) 13 = .ok (.aload_n 0, 1) := by decide +kernel
theorem dc13_14 : decode (pm_mb 13) 14 = .ok (.getfield 32, 3) := by decide +kernel
theorem dc13_17 : decode (pm_mb 13) 17 = .ok (.iload_n 1, 1) := by decide +kernel
theorem dc13_18 : decode (pm_mb 13) 18 = .ok (.iastore, 1) := by decide +kernel
theorem dc13_19 : decode (pm_mb 13) 19 = .ok (.aload_n 0, 1) := by decide +kernel
theorem dc13_20 : decode (pm_mb 13) 20 = .ok (.dup, 1) := by decide +kernel
theorem dc13_21 : decode (pm_mb 13) 21 = .ok (.getfield 32, 3) := by decide +kernel
theorem dc13_24 : decode (pm_mb 13) 24 = .ok (.iconst 1, 1) := by decide +kernel
theorem dc13_25 : decode (pm_mb 13) 25 = .ok (.iadd, 1) := by decide +kernel
theorem dc13_26 : decode (pm_mb 13) 26 = .ok (.putfield 32, 3) := by decide +kernel
theorem dc13_29 : decode (pm_mb 13) 29 = .ok (.return_, 1) := by decide +kernel
theorem b13_0 {X : pm_X} {d : Nat} {x1 : Int32} {g : pm_G} {iv : pm_V} (hL : pm_lay g) : pm_at X d 13 (0, [some (.ref 9), some (.int x1)], [], g, iv) = if 16 ≤ (iv 9 1) then pm_at X d 13 (29, [some (.ref 9), some (.int x1)], [], g, iv) else pm_at X d 13 (9, [some (.ref 9), some (.int x1)], [], g, iv) := by
  refine (at_aload_n dc13_0 rfl).trans ?_
  refine (at_gfI dc13_1 mc13 lf1_32 fo1_1 (ly9 hL)).trans ?_
  refine (at_bipush (v := 16) dc13_4 (by decide)).trans ?_
  exact at_icmp_ge (t := 29) dc13_6 (by decide)
theorem b13_9 {X : pm_X} {d : Nat} {x1 : Int32} {g : pm_G} {iv : pm_V} (hL : pm_lay g) (i1 : vp_in ((iv 9 1)) 16) : pm_at X d 13 (9, [some (.ref 9), some (.int x1)], [], g, iv) = pm_at X d 13 (29, [some (.ref 9), some (.int x1)], [], g, (pm_iw (pm_iw iv 10 ((iv 9 1) : Int32).toNatClampNeg x1) 9 1 ((((pm_iw iv 10 ((iv 9 1) : Int32).toNatClampNeg x1) 9 1) + 1)))) := by
  refine (at_aload_n dc13_9 rfl).trans ?_
  refine (at_gfR dc13_10 mc13 lf1_9 fo1_0 (ly9 hL) (lr9_0 hL)).trans ?_
  refine (at_aload_n dc13_13 rfl).trans ?_
  refine (at_gfI dc13_14 mc13 lf1_32 fo1_1 (ly9 hL)).trans ?_
  refine (at_iload_n dc13_17 rfl).trans ?_
  refine (at_iast dc13_18 (ly10 hL) i1).trans ?_
  refine (at_aload_n dc13_19 rfl).trans ?_
  refine (at_dup dc13_20 rfl).trans ?_
  refine (at_gfI dc13_21 mc13 lf1_32 fo1_1 (ly9 hL)).trans ?_
  refine (at_iconst (v := 1) dc13_24 rfl).trans ?_
  refine (at_iadd dc13_25).trans ?_
  refine (at_pfI dc13_26 mc13 lf1_32 po1_1 (ly9 hL)).trans ?_
  rfl
theorem b13_29 {X : pm_X} {d : Nat} {x1 : Int32} {g : pm_G} {iv : pm_V}  : pm_at X d 13 (29, [some (.ref 9), some (.int x1)], [], g, iv) = some (none, g, iv) := by
  exact at_vret dc13_29 mr13
-- Rows.<init> ()V
theorem dc14_0 : decode (pm_mb 14) 0 = .ok (.aload_n 0, 1) := by decide +kernel
theorem dc14_1 : decode (pm_mb 14) 1 = .ok (.invokespecial 3, 3) := by decide +kernel
theorem dc14_4 : decode (pm_mb 14) 4 = .ok (.aload_n 0, 1) := by decide +kernel
theorem dc14_5 : decode (pm_mb 14) 5 = .ok (.sipush 320, 3) := by decide +kernel
theorem dc14_8 : decode (pm_mb 14) 8 = .ok (.newarray .int, 2) := by decide +kernel
theorem dc14_10 : decode (pm_mb 14) 10 = .ok (.putfield 9, 3) := by decide +kernel
theorem dc14_13 : decode (pm_mb 14) 13 = .ok (.aload_n 0, 1) := by decide +kernel
theorem dc14_14 : decode (pm_mb 14) 14 = .ok (.bipush 8, 2) := by decide +kernel
theorem dc14_16 : decode (pm_mb 14) 16 = .ok (.newarray .int, 2) := by decide +kernel
theorem dc14_18 : decode (pm_mb 14) 18 = .ok (.putfield 15, 3) := by decide +kernel
theorem dc14_21 : decode (pm_mb 14) 21 = .ok (.aload_n 0, 1) := by decide +kernel
theorem dc14_22 : decode (pm_mb 14) 22 = .ok (.bipush 8, 2) := by decide +kernel
theorem dc14_24 : decode (pm_mb 14) 24 = .ok (.newarray .int, 2) := by decide +kernel
theorem dc14_26 : decode (pm_mb 14) 26 = .ok (.putfield 18, 3) := by decide +kernel
theorem dc14_29 : decode (pm_mb 14) 29 = .ok (.return_, 1) := by decide +kernel
-- Rows.isMissing (I)Z
theorem dc15_0 : decode (pm_mb 15) 0 = .ok (.iload_n 1, 1) := by decide +kernel
theorem dc15_1 : decode (pm_mb 15) 1 = .ok (.invokestatic 21, 3) := by decide +kernel
theorem dc15_4 : decode (pm_mb 15) 4 = .ok (.ifCond .eq 14, 3) := by decide +kernel
theorem dc15_7 : decode (pm_mb 15) 7 = .ok (.aload_n 0, 1) := by decide +kernel
theorem dc15_8 : decode (pm_mb 15) 8 = .ok (.getfield 25, 3) := by decide +kernel
theorem dc15_11 : decode (pm_mb 15) 11 = .ok (.iload_n 1, 1) := by decide +kernel
theorem dc15_12 : decode (pm_mb 15) 12 = .ok (.ishr, 1) := by decide +kernel
theorem dc15_13 : decode (pm_mb 15) 13 = .ok (.iconst 1, 1) := by decide +kernel
theorem dc15_14 : decode (pm_mb 15) 14 = .ok (.iand, 1) := by decide +kernel
theorem dc15_15 : decode (pm_mb 15) 15 = .ok (.ifCond .ne 7, 3) := by decide +kernel
theorem dc15_18 : decode (pm_mb 15) 18 = .ok (.iconst 1, 1) := by decide +kernel
theorem dc15_19 : decode (pm_mb 15) 19 = .ok (.goto 4, 3) := by decide +kernel
theorem dc15_22 : decode (pm_mb 15) 22 = .ok (.iconst 0, 1) := by decide +kernel
theorem dc15_23 : decode (pm_mb 15) 23 = .ok (.ireturn, 1) := by decide +kernel
theorem b15_0 {X : pm_X} {d : Nat} {x1 : Int32} {g : pm_G} {iv : pm_V}  : pm_at X d 15 (0, [some (.ref 1), some (.int x1)], [], g, iv) = pm_then X d 15 4 [some (.ref 1), some (.int x1)] [] (pm_c X d 121 [.int x1] g iv) := by
  refine (at_iload_n dc15_0 rfl).trans ?_
  exact at_insN dc15_1 mc15 lm2_21 (Nat.le_of_ble_eq_true rfl) rfl rfl (Nat.le_of_ble_eq_true rfl)
theorem b15_4 {X : pm_X} {d : Nat} {x1 : Int32} {s0 : Int32} {g : pm_G} {iv : pm_V}  : pm_at X d 15 (4, [some (.ref 1), some (.int x1)], [.int s0], g, iv) = if s0 = 0 then pm_at X d 15 (18, [some (.ref 1), some (.int x1)], [], g, iv) else pm_at X d 15 (7, [some (.ref 1), some (.int x1)], [], g, iv) := by
  exact at_if_eq (t := 18) dc15_4 (by decide)
theorem b15_7 {X : pm_X} {d : Nat} {x1 : Int32} {g : pm_G} {iv : pm_V} (hL : pm_lay g) : pm_at X d 15 (7, [some (.ref 1), some (.int x1)], [], g, iv) = if ¬ (((iv 1 3) >>> (x1 &&& 31)) &&& 1) = 0 then pm_at X d 15 (22, [some (.ref 1), some (.int x1)], [], g, iv) else pm_at X d 15 (18, [some (.ref 1), some (.int x1)], [], g, iv) := by
  refine (at_aload_n dc15_7 rfl).trans ?_
  refine (at_gfI dc15_8 mc15 lf2_25 fo2_3 (ly1 hL)).trans ?_
  refine (at_iload_n dc15_11 rfl).trans ?_
  refine (at_ishr dc15_12).trans ?_
  refine (at_iconst (v := 1) dc15_13 rfl).trans ?_
  refine (at_iand dc15_14).trans ?_
  exact at_if_ne (t := 22) dc15_15 (by decide)
theorem b15_18 {X : pm_X} {d : Nat} {x1 : Int32} {g : pm_G} {iv : pm_V}  : pm_at X d 15 (18, [some (.ref 1), some (.int x1)], [], g, iv) = pm_at X d 15 (23, [some (.ref 1), some (.int x1)], [.int 1], g, iv) := by
  refine (at_iconst (v := 1) dc15_18 rfl).trans ?_
  refine (at_goto (t := 23) dc15_19 (by decide)).trans ?_
  rfl
theorem b15_22 {X : pm_X} {d : Nat} {x1 : Int32} {g : pm_G} {iv : pm_V}  : pm_at X d 15 (22, [some (.ref 1), some (.int x1)], [], g, iv) = pm_at X d 15 (23, [some (.ref 1), some (.int x1)], [.int 0], g, iv) := by
  refine (at_iconst (v := 0) dc15_22 rfl).trans ?_
  rfl
theorem b15_23 {X : pm_X} {d : Nat} {x1 : Int32} {s0 : Int32} {g : pm_G} {iv : pm_V}  : pm_at X d 15 (23, [some (.ref 1), some (.int x1)], [.int s0], g, iv) = pm_zr s0 (some (some (.int s0), g, iv)) := by
  exact at_zretG dc15_23 mr15
-- Rows.hasPlaces (III)Z
theorem dc16_0 : decode (pm_mb 16) 0 = .ok (.aload_n 0, 1) := by decide +kernel
theorem dc16_1 : decode (pm_mb 16) 1 = .ok (.iload_n 1, 1) := by decide +kernel
theorem dc16_2 : decode (pm_mb 16) 2 = .ok (.invokevirtual 29, 3) := by decide +kernel
theorem dc16_5 : decode (pm_mb 16) 5 = .ok (.ifCond .ne 27, 3) := by decide +kernel
theorem dc16_8 : decode (pm_mb 16) 8 = .ok (.iload_n 2, 1) := by decide +kernel
theorem dc16_9 : decode (pm_mb 16) 9 = .ok (.ifCond .lt 23, 3) := by decide +kernel
theorem dc16_12 : decode (pm_mb 16) 12 = .ok (.iload_n 3, 1) := by decide +kernel
theorem dc16_13 : decode (pm_mb 16) 13 = .ok (.ifCond .lt 19, 3) := by decide +kernel
theorem dc16_16 : decode (pm_mb 16) 16 = .ok (.iload_n 2, 1) := by decide +kernel
theorem dc16_17 : decode (pm_mb 16) 17 = .ok (.aload_n 0, 1) := by decide +kernel
theorem dc16_18 : decode (pm_mb 16) 18 = .ok (.getfield 18, 3) := by decide +kernel
theorem dc16_21 : decode (pm_mb 16) 21 = .ok (.iload_n 1, 1) := by decide +kernel
theorem dc16_22 : decode (pm_mb 16) 22 = .ok (.iaload, 1) := by decide +kernel
theorem dc16_23 : decode (pm_mb 16) 23 = .ok (.iload_n 3, 1) := by decide +kernel
theorem dc16_24 : decode (pm_mb 16) 24 = .ok (.isub, 1) := by decide +kernel
theorem dc16_25 : decode (pm_mb 16) 25 = .ok (.if_icmp .gt 7, 3) := by decide +kernel
theorem dc16_28 : decode (pm_mb 16) 28 = .ok (.iconst 1, 1) := by decide +kernel
theorem dc16_29 : decode (pm_mb 16) 29 = .ok (.goto 4, 3) := by decide +kernel
theorem dc16_32 : decode (pm_mb 16) 32 = .ok (.iconst 0, 1) := by decide +kernel
theorem dc16_33 : decode (pm_mb 16) 33 = .ok (.ireturn, 1) := by decide +kernel
theorem b16_0 {X : pm_X} {d : Nat} {x1 : Int32} {x2 : Int32} {x3 : Int32} {g : pm_G} {iv : pm_V} (hL : pm_lay g) : pm_at X d 16 (0, [some (.ref 1), some (.int x1), some (.int x2), some (.int x3)], [], g, iv) = pm_then X d 16 5 [some (.ref 1), some (.int x1), some (.int x2), some (.int x3)] [] (pm_c X d 15 [.ref 1, .int x1] g iv) := by
  refine (at_aload_n dc16_0 rfl).trans ?_
  refine (at_iload_n dc16_1 rfl).trans ?_
  exact at_inv dc16_2 mc16 lm2_29 rfl rfl (Nat.le_of_ble_eq_true rfl) (Or.inl ⟨(ly1 hL), by decide⟩)
theorem b16_5 {X : pm_X} {d : Nat} {x1 : Int32} {x2 : Int32} {x3 : Int32} {s0 : Int32} {g : pm_G} {iv : pm_V}  : pm_at X d 16 (5, [some (.ref 1), some (.int x1), some (.int x2), some (.int x3)], [.int s0], g, iv) = if ¬ s0 = 0 then pm_at X d 16 (32, [some (.ref 1), some (.int x1), some (.int x2), some (.int x3)], [], g, iv) else pm_at X d 16 (8, [some (.ref 1), some (.int x1), some (.int x2), some (.int x3)], [], g, iv) := by
  exact at_if_ne (t := 32) dc16_5 (by decide)
theorem b16_8 {X : pm_X} {d : Nat} {x1 : Int32} {x2 : Int32} {x3 : Int32} {g : pm_G} {iv : pm_V}  : pm_at X d 16 (8, [some (.ref 1), some (.int x1), some (.int x2), some (.int x3)], [], g, iv) = if x2 < 0 then pm_at X d 16 (32, [some (.ref 1), some (.int x1), some (.int x2), some (.int x3)], [], g, iv) else pm_at X d 16 (12, [some (.ref 1), some (.int x1), some (.int x2), some (.int x3)], [], g, iv) := by
  refine (at_iload_n dc16_8 rfl).trans ?_
  exact at_if_lt (t := 32) dc16_9 (by decide)
theorem b16_12 {X : pm_X} {d : Nat} {x1 : Int32} {x2 : Int32} {x3 : Int32} {g : pm_G} {iv : pm_V}  : pm_at X d 16 (12, [some (.ref 1), some (.int x1), some (.int x2), some (.int x3)], [], g, iv) = if x3 < 0 then pm_at X d 16 (32, [some (.ref 1), some (.int x1), some (.int x2), some (.int x3)], [], g, iv) else pm_at X d 16 (16, [some (.ref 1), some (.int x1), some (.int x2), some (.int x3)], [], g, iv) := by
  refine (at_iload_n dc16_12 rfl).trans ?_
  exact at_if_lt (t := 32) dc16_13 (by decide)
theorem b16_16 {X : pm_X} {d : Nat} {x1 : Int32} {x2 : Int32} {x3 : Int32} {g : pm_G} {iv : pm_V} (hL : pm_lay g) (i1 : vp_in x1 8) : pm_at X d 16 (16, [some (.ref 1), some (.int x1), some (.int x2), some (.int x3)], [], g, iv) = if ((iv 4 (x1 : Int32).toNatClampNeg) - x3) < x2 then pm_at X d 16 (32, [some (.ref 1), some (.int x1), some (.int x2), some (.int x3)], [], g, iv) else pm_at X d 16 (28, [some (.ref 1), some (.int x1), some (.int x2), some (.int x3)], [], g, iv) := by
  refine (at_iload_n dc16_16 rfl).trans ?_
  refine (at_aload_n dc16_17 rfl).trans ?_
  refine (at_gfR dc16_18 mc16 lf2_18 fo2_2 (ly1 hL) (lr1_2 hL)).trans ?_
  refine (at_iload_n dc16_21 rfl).trans ?_
  refine (at_iald dc16_22 (ly4 hL) i1).trans ?_
  refine (at_iload_n dc16_23 rfl).trans ?_
  refine (at_isub dc16_24).trans ?_
  exact at_icmp_gt (t := 32) dc16_25 (by decide)
theorem b16_28 {X : pm_X} {d : Nat} {x1 : Int32} {x2 : Int32} {x3 : Int32} {g : pm_G} {iv : pm_V}  : pm_at X d 16 (28, [some (.ref 1), some (.int x1), some (.int x2), some (.int x3)], [], g, iv) = pm_at X d 16 (33, [some (.ref 1), some (.int x1), some (.int x2), some (.int x3)], [.int 1], g, iv) := by
  refine (at_iconst (v := 1) dc16_28 rfl).trans ?_
  refine (at_goto (t := 33) dc16_29 (by decide)).trans ?_
  rfl
theorem b16_32 {X : pm_X} {d : Nat} {x1 : Int32} {x2 : Int32} {x3 : Int32} {g : pm_G} {iv : pm_V}  : pm_at X d 16 (32, [some (.ref 1), some (.int x1), some (.int x2), some (.int x3)], [], g, iv) = pm_at X d 16 (33, [some (.ref 1), some (.int x1), some (.int x2), some (.int x3)], [.int 0], g, iv) := by
  refine (at_iconst (v := 0) dc16_32 rfl).trans ?_
  rfl
theorem b16_33 {X : pm_X} {d : Nat} {x1 : Int32} {x2 : Int32} {x3 : Int32} {s0 : Int32} {g : pm_G} {iv : pm_V}  : pm_at X d 16 (33, [some (.ref 1), some (.int x1), some (.int x2), some (.int x3)], [.int s0], g, iv) = pm_zr s0 (some (some (.int s0), g, iv)) := by
  exact at_zretG dc16_33 mr16
-- Rows.laneOf (I)I
theorem dc17_0 : decode (pm_mb 17) 0 = .ok (.aload_n 0, 1) := by decide +kernel
theorem dc17_1 : decode (pm_mb 17) 1 = .ok (.iload_n 1, 1) := by decide +kernel
theorem dc17_2 : decode (pm_mb 17) 2 = .ok (.invokevirtual 29, 3) := by decide +kernel
theorem dc17_5 : decode (pm_mb 17) 5 = .ok (.ifCond .eq 8, 3) := by decide +kernel
theorem dc17_8 : decode (pm_mb 17) 8 = .ok (.ldc 32, 2) := by decide +kernel
theorem dc17_10 : decode (pm_mb 17) 10 = .ok (.goto 9, 3) := by decide +kernel
theorem dc17_13 : decode (pm_mb 17) 13 = .ok (.aload_n 0, 1) := by decide +kernel
theorem dc17_14 : decode (pm_mb 17) 14 = .ok (.getfield 15, 3) := by decide +kernel
theorem dc17_17 : decode (pm_mb 17) 17 = .ok (.iload_n 1, 1) := by decide +kernel
theorem dc17_18 : decode (pm_mb 17) 18 = .ok (.iaload, 1) := by decide +kernel
theorem dc17_19 : decode (pm_mb 17) 19 = .ok (.ireturn, 1) := by decide +kernel
theorem b17_0 {X : pm_X} {d : Nat} {x1 : Int32} {g : pm_G} {iv : pm_V} (hL : pm_lay g) : pm_at X d 17 (0, [some (.ref 1), some (.int x1)], [], g, iv) = pm_then X d 17 5 [some (.ref 1), some (.int x1)] [] (pm_c X d 15 [.ref 1, .int x1] g iv) := by
  refine (at_aload_n dc17_0 rfl).trans ?_
  refine (at_iload_n dc17_1 rfl).trans ?_
  exact at_inv dc17_2 mc17 lm2_29 rfl rfl (Nat.le_of_ble_eq_true rfl) (Or.inl ⟨(ly1 hL), by decide⟩)
theorem b17_5 {X : pm_X} {d : Nat} {x1 : Int32} {s0 : Int32} {g : pm_G} {iv : pm_V}  : pm_at X d 17 (5, [some (.ref 1), some (.int x1)], [.int s0], g, iv) = if s0 = 0 then pm_at X d 17 (13, [some (.ref 1), some (.int x1)], [], g, iv) else pm_at X d 17 (8, [some (.ref 1), some (.int x1)], [], g, iv) := by
  exact at_if_eq (t := 13) dc17_5 (by decide)
theorem b17_8 {X : pm_X} {d : Nat} {x1 : Int32} {g : pm_G} {iv : pm_V}  : pm_at X d 17 (8, [some (.ref 1), some (.int x1)], [], g, iv) = pm_at X d 17 (19, [some (.ref 1), some (.int x1)], [.int (-1000000)], g, iv) := by
  refine (at_ldc dc17_8 mc17 lk2_32).trans ?_
  refine (at_goto (t := 19) dc17_10 (by decide)).trans ?_
  rfl
theorem b17_13 {X : pm_X} {d : Nat} {x1 : Int32} {g : pm_G} {iv : pm_V} (hL : pm_lay g) (i1 : vp_in x1 8) : pm_at X d 17 (13, [some (.ref 1), some (.int x1)], [], g, iv) = pm_at X d 17 (19, [some (.ref 1), some (.int x1)], [.int (iv 3 (x1 : Int32).toNatClampNeg)], g, iv) := by
  refine (at_aload_n dc17_13 rfl).trans ?_
  refine (at_gfR dc17_14 mc17 lf2_15 fo2_1 (ly1 hL) (lr1_1 hL)).trans ?_
  refine (at_iload_n dc17_17 rfl).trans ?_
  refine (at_iald dc17_18 (ly3 hL) i1).trans ?_
  rfl
theorem b17_19 {X : pm_X} {d : Nat} {x1 : Int32} {s0 : Int32} {g : pm_G} {iv : pm_V}  : pm_at X d 17 (19, [some (.ref 1), some (.int x1)], [.int s0], g, iv) = some (some (.int s0), g, iv) := by
  exact at_iret dc17_19 mr17
-- Rows.itemAt (II)I
theorem dc18_0 : decode (pm_mb 18) 0 = .ok (.aload_n 0, 1) := by decide +kernel
theorem dc18_1 : decode (pm_mb 18) 1 = .ok (.iload_n 1, 1) := by decide +kernel
theorem dc18_2 : decode (pm_mb 18) 2 = .ok (.iload_n 2, 1) := by decide +kernel
theorem dc18_3 : decode (pm_mb 18) 3 = .ok (.iconst 1, 1) := by decide +kernel
theorem dc18_4 : decode (pm_mb 18) 4 = .ok (.invokevirtual 33, 3) := by decide +kernel
theorem dc18_7 : decode (pm_mb 18) 7 = .ok (.ifCond .eq 17, 3) := by decide +kernel
theorem dc18_10 : decode (pm_mb 18) 10 = .ok (.aload_n 0, 1) := by decide +kernel
theorem dc18_11 : decode (pm_mb 18) 11 = .ok (.getfield 9, 3) := by decide +kernel
theorem dc18_14 : decode (pm_mb 18) 14 = .ok (.iload_n 1, 1) := by decide +kernel
theorem dc18_15 : decode (pm_mb 18) 15 = .ok (.bipush 40, 2) := by decide +kernel
theorem dc18_17 : decode (pm_mb 18) 17 = .ok (.imul, 1) := by decide +kernel
theorem dc18_18 : decode (pm_mb 18) 18 = .ok (.iload_n 2, 1) := by decide +kernel
theorem dc18_19 : decode (pm_mb 18) 19 = .ok (.iadd, 1) := by decide +kernel
theorem dc18_20 : decode (pm_mb 18) 20 = .ok (.iaload, 1) := by decide +kernel
theorem dc18_21 : decode (pm_mb 18) 21 = .ok (.goto 5, 3) := by decide +kernel
theorem dc18_24 : decode (pm_mb 18) 24 = .ok (.ldc 32, 2) := by decide +kernel
theorem dc18_26 : decode (pm_mb 18) 26 = .ok (.ireturn, 1) := by decide +kernel
theorem b18_0 {X : pm_X} {d : Nat} {x1 : Int32} {x2 : Int32} {g : pm_G} {iv : pm_V} (hL : pm_lay g) : pm_at X d 18 (0, [some (.ref 1), some (.int x1), some (.int x2)], [], g, iv) = pm_then X d 18 7 [some (.ref 1), some (.int x1), some (.int x2)] [] (pm_c X d 16 [.ref 1, .int x1, .int x2, .int 1] g iv) := by
  refine (at_aload_n dc18_0 rfl).trans ?_
  refine (at_iload_n dc18_1 rfl).trans ?_
  refine (at_iload_n dc18_2 rfl).trans ?_
  refine (at_iconst (v := 1) dc18_3 rfl).trans ?_
  exact at_inv dc18_4 mc18 lm2_33 rfl rfl (Nat.le_of_ble_eq_true rfl) (Or.inl ⟨(ly1 hL), by decide⟩)
theorem b18_7 {X : pm_X} {d : Nat} {x1 : Int32} {x2 : Int32} {s0 : Int32} {g : pm_G} {iv : pm_V}  : pm_at X d 18 (7, [some (.ref 1), some (.int x1), some (.int x2)], [.int s0], g, iv) = if s0 = 0 then pm_at X d 18 (24, [some (.ref 1), some (.int x1), some (.int x2)], [], g, iv) else pm_at X d 18 (10, [some (.ref 1), some (.int x1), some (.int x2)], [], g, iv) := by
  exact at_if_eq (t := 24) dc18_7 (by decide)
theorem b18_10 {X : pm_X} {d : Nat} {x1 : Int32} {x2 : Int32} {g : pm_G} {iv : pm_V} (hL : pm_lay g) (i1 : vp_in (((x1 * 40) + x2)) 320) : pm_at X d 18 (10, [some (.ref 1), some (.int x1), some (.int x2)], [], g, iv) = pm_at X d 18 (26, [some (.ref 1), some (.int x1), some (.int x2)], [.int (iv 2 (((x1 * 40) + x2) : Int32).toNatClampNeg)], g, iv) := by
  refine (at_aload_n dc18_10 rfl).trans ?_
  refine (at_gfR dc18_11 mc18 lf2_9 fo2_0 (ly1 hL) (lr1_0 hL)).trans ?_
  refine (at_iload_n dc18_14 rfl).trans ?_
  refine (at_bipush (v := 40) dc18_15 (by decide)).trans ?_
  refine (at_imul dc18_17).trans ?_
  refine (at_iload_n dc18_18 rfl).trans ?_
  refine (at_iadd dc18_19).trans ?_
  refine (at_iald dc18_20 (ly2 hL) i1).trans ?_
  refine (at_goto (t := 26) dc18_21 (by decide)).trans ?_
  rfl
theorem b18_24 {X : pm_X} {d : Nat} {x1 : Int32} {x2 : Int32} {g : pm_G} {iv : pm_V}  : pm_at X d 18 (24, [some (.ref 1), some (.int x1), some (.int x2)], [], g, iv) = pm_at X d 18 (26, [some (.ref 1), some (.int x1), some (.int x2)], [.int (-1000000)], g, iv) := by
  refine (at_ldc dc18_24 mc18 lk2_32).trans ?_
  rfl
theorem b18_26 {X : pm_X} {d : Nat} {x1 : Int32} {x2 : Int32} {s0 : Int32} {g : pm_G} {iv : pm_V}  : pm_at X d 18 (26, [some (.ref 1), some (.int x1), some (.int x2)], [.int s0], g, iv) = some (some (.int s0), g, iv) := by
  exact at_iret dc18_26 mr18
-- Rows.size ()I
theorem dc19_0 : decode (pm_mb 19) 0 = .ok (.aload_n 0, 1) := by decide +kernel
theorem dc19_1 : decode (pm_mb 19) 1 = .ok (.getfield 25, 3) := by decide +kernel
theorem dc19_4 : decode (pm_mb 19) 4 = .ok (.invokestatic 37, 3) := by decide +kernel
theorem dc19_7 : decode (pm_mb 19) 7 = .ok (.ireturn, 1) := by decide +kernel
theorem b19_0 {X : pm_X} {d : Nat} {g : pm_G} {iv : pm_V} (hL : pm_lay g) : pm_at X d 19 (0, [some (.ref 1)], [], g, iv) = pm_then X d 19 7 [some (.ref 1)] [] (pm_c X d 203 [.int (iv 1 3)] g iv) := by
  refine (at_aload_n dc19_0 rfl).trans ?_
  refine (at_gfI dc19_1 mc19 lf2_25 fo2_3 (ly1 hL)).trans ?_
  exact at_ins dc19_4 mc19 lm2_37 (Nat.le_of_ble_eq_true rfl) rfl rfl (Nat.le_of_ble_eq_true rfl)
theorem b19_7 {X : pm_X} {d : Nat} {s0 : Int32} {g : pm_G} {iv : pm_V}  : pm_at X d 19 (7, [some (.ref 1)], [.int s0], g, iv) = some (some (.int s0), g, iv) := by
  exact at_iret dc19_7 mr19
-- Rows.make (III)V
theorem dc20_0 : decode (pm_mb 20) 0 = .ok (.iload_n 1, 1) := by decide +kernel
theorem dc20_1 : decode (pm_mb 20) 1 = .ok (.invokestatic 21, 3) := by decide +kernel
theorem dc20_4 : decode (pm_mb 20) 4 = .ok (.ifCond .eq 12, 3) := by decide +kernel
theorem dc20_7 : decode (pm_mb 20) 7 = .ok (.iload_n 3, 1) := by decide +kernel
theorem dc20_8 : decode (pm_mb 20) 8 = .ok (.bipush 40, 2) := by decide +kernel
theorem dc20_10 : decode (pm_mb 20) 10 = .ok (.invokestatic 43, 3) := by decide +kernel
theorem dc20_13 : decode (pm_mb 20) 13 = .ok (.ifCond .ne 4, 3) := by decide +kernel
theorem dc20_16 : decode (pm_mb 20) 16 = .ok (.return_, 1) := by decide +kernel
theorem dc20_17 : decode (pm_mb 20) 17 = .ok (.aload_n 0, 1) := by decide +kernel
theorem dc20_18 : decode (pm_mb 20) 18 = .ok (.dup, 1) := by decide +kernel
theorem dc20_19 : decode (pm_mb 20) 19 = .ok (.getfield 25, 3) := by decide +kernel
theorem dc20_22 : decode (pm_mb 20) 22 = .ok (.iconst 1, 1) := by decide +kernel
theorem dc20_23 : decode (pm_mb 20) 23 = .ok (.iload_n 1, 1) := by decide +kernel
theorem dc20_24 : decode (pm_mb 20) 24 = .ok (.ishl, 1) := by decide +kernel
theorem dc20_25 : decode (pm_mb 20) 25 = .ok (.ior, 1) := by decide +kernel
theorem dc20_26 : decode (pm_mb 20) 26 = .ok (.putfield 25, 3) := by decide +kernel
theorem dc20_29 : decode (pm_mb 20) 29 = .ok (.aload_n 0, 1) := by decide +kernel
theorem dc20_30 : decode (pm_mb 20) 30 = .ok (.getfield 15, 3) := by decide +kernel
theorem dc20_33 : decode (pm_mb 20) 33 = .ok (.iload_n 1, 1) := by decide +kernel
theorem dc20_34 : decode (pm_mb 20) 34 = .ok (.iload_n 2, 1) := by decide +kernel
theorem dc20_35 : decode (pm_mb 20) 35 = .ok (.iastore, 1) := by decide +kernel
theorem dc20_36 : decode (pm_mb 20) 36 = .ok (.aload_n 0, 1) := by decide +kernel
theorem dc20_37 : decode (pm_mb 20) 37 = .ok (.getfield 18, 3) := by decide +kernel
theorem dc20_40 : decode (pm_mb 20) 40 = .ok (.iload_n 1, 1) := by decide +kernel
theorem dc20_41 : decode (pm_mb 20) 41 = .ok (.iload_n 3, 1) := by decide +kernel
theorem dc20_42 : decode (pm_mb 20) 42 = .ok (.iastore, 1) := by decide +kernel
theorem dc20_43 : decode (pm_mb 20) 43 = .ok (.iconst 0, 1) := by decide +kernel
theorem dc20_44 : decode (pm_mb 20) 44 = .ok (.istore 4, 2) := by decide +kernel
theorem dc20_46 : decode (pm_mb 20) 46 = .ok (.iload 4, 2) := by decide +kernel
theorem dc20_48 : decode (pm_mb 20) 48 = .ok (.iload_n 3, 1) := by decide +kernel
theorem dc20_49 : decode (pm_mb 20) 49 = .ok (.if_icmp .ge 22, 3) := by decide +kernel
theorem dc20_52 : decode (pm_mb 20) 52 = .ok (.aload_n 0, 1) := by decide +kernel
theorem dc20_53 : decode (pm_mb 20) 53 = .ok (.getfield 9, 3) := by decide +kernel
theorem dc20_56 : decode (pm_mb 20) 56 = .ok (.iload_n 1, 1) := by decide +kernel
theorem dc20_57 : decode (pm_mb 20) 57 = .ok (.bipush 40, 2) := by decide +kernel
theorem dc20_59 : decode (pm_mb 20) 59 = .ok (.imul, 1) := by decide +kernel
theorem dc20_60 : decode (pm_mb 20) 60 = .ok (.iload 4, 2) := by decide +kernel
theorem dc20_62 : decode (pm_mb 20) 62 = .ok (.iadd, 1) := by decide +kernel
theorem dc20_63 : decode (pm_mb 20) 63 = .ok (.iconst 0, 1) := by decide +kernel
theorem dc20_64 : decode (pm_mb 20) 64 = .ok (.iastore, 1) := by decide +kernel
theorem dc20_65 : decode (pm_mb 20) 65 = .ok (.iinc 4 1, 3) := by decide +kernel
theorem dc20_68 : decode (pm_mb 20) 68 = .ok (.goto (-22), 3) := by decide +kernel
theorem dc20_71 : decode (pm_mb 20) 71 = .ok (.return_, 1) := by decide +kernel
theorem b20_0 {X : pm_X} {d : Nat} {x1 : Int32} {x2 : Int32} {x3 : Int32} {g : pm_G} {iv : pm_V}  : pm_at X d 20 (0, [some (.ref 1), some (.int x1), some (.int x2), some (.int x3), none], [], g, iv) = pm_then X d 20 4 [some (.ref 1), some (.int x1), some (.int x2), some (.int x3), none] [] (pm_c X d 121 [.int x1] g iv) := by
  refine (at_iload_n dc20_0 rfl).trans ?_
  exact at_insN dc20_1 mc20 lm2_21 (Nat.le_of_ble_eq_true rfl) rfl rfl (Nat.le_of_ble_eq_true rfl)
theorem b20_4 {X : pm_X} {d : Nat} {x1 : Int32} {x2 : Int32} {x3 : Int32} {s0 : Int32} {g : pm_G} {iv : pm_V}  : pm_at X d 20 (4, [some (.ref 1), some (.int x1), some (.int x2), some (.int x3), none], [.int s0], g, iv) = if s0 = 0 then pm_at X d 20 (16, [some (.ref 1), some (.int x1), some (.int x2), some (.int x3), none], [], g, iv) else pm_at X d 20 (7, [some (.ref 1), some (.int x1), some (.int x2), some (.int x3), none], [], g, iv) := by
  exact at_if_eq (t := 16) dc20_4 (by decide)
theorem b20_7 {X : pm_X} {d : Nat} {x1 : Int32} {x2 : Int32} {x3 : Int32} {g : pm_G} {iv : pm_V}  : pm_at X d 20 (7, [some (.ref 1), some (.int x1), some (.int x2), some (.int x3), none], [], g, iv) = pm_then X d 20 13 [some (.ref 1), some (.int x1), some (.int x2), some (.int x3), none] [] (pm_c X d 120 [.int x3, .int 40] g iv) := by
  refine (at_iload_n dc20_7 rfl).trans ?_
  refine (at_bipush (v := 40) dc20_8 (by decide)).trans ?_
  exact at_insN dc20_10 mc20 lm2_43 (Nat.le_of_ble_eq_true rfl) rfl rfl (Nat.le_of_ble_eq_true rfl)
theorem b20_13 {X : pm_X} {d : Nat} {x1 : Int32} {x2 : Int32} {x3 : Int32} {s0 : Int32} {g : pm_G} {iv : pm_V}  : pm_at X d 20 (13, [some (.ref 1), some (.int x1), some (.int x2), some (.int x3), none], [.int s0], g, iv) = if ¬ s0 = 0 then pm_at X d 20 (17, [some (.ref 1), some (.int x1), some (.int x2), some (.int x3), none], [], g, iv) else pm_at X d 20 (16, [some (.ref 1), some (.int x1), some (.int x2), some (.int x3), none], [], g, iv) := by
  exact at_if_ne (t := 17) dc20_13 (by decide)
theorem b20_16 {X : pm_X} {d : Nat} {x1 : Int32} {x2 : Int32} {x3 : Int32} {g : pm_G} {iv : pm_V}  : pm_at X d 20 (16, [some (.ref 1), some (.int x1), some (.int x2), some (.int x3), none], [], g, iv) = some (none, g, iv) := by
  exact at_vret dc20_16 mr20
theorem b20_17 {X : pm_X} {d : Nat} {x1 : Int32} {x2 : Int32} {x3 : Int32} {g : pm_G} {iv : pm_V} (hL : pm_lay g) (i1 : vp_in x1 8) : pm_at X d 20 (17, [some (.ref 1), some (.int x1), some (.int x2), some (.int x3), none], [], g, iv) = pm_at X d 20 (46, [some (.ref 1), some (.int x1), some (.int x2), some (.int x3), some (.int 0)], [], g, (pm_iw (pm_iw (pm_iw iv 1 3 (((iv 1 3) ||| (1 <<< (x1 &&& 31))))) 3 (x1 : Int32).toNatClampNeg x2) 4 (x1 : Int32).toNatClampNeg x3)) := by
  refine (at_aload_n dc20_17 rfl).trans ?_
  refine (at_dup dc20_18 rfl).trans ?_
  refine (at_gfI dc20_19 mc20 lf2_25 fo2_3 (ly1 hL)).trans ?_
  refine (at_iconst (v := 1) dc20_22 rfl).trans ?_
  refine (at_iload_n dc20_23 rfl).trans ?_
  refine (at_ishl dc20_24).trans ?_
  refine (at_ior dc20_25).trans ?_
  refine (at_pfI dc20_26 mc20 lf2_25 po2_3 (ly1 hL)).trans ?_
  refine (at_aload_n dc20_29 rfl).trans ?_
  refine (at_gfR dc20_30 mc20 lf2_15 fo2_1 (ly1 hL) (lr1_1 hL)).trans ?_
  refine (at_iload_n dc20_33 rfl).trans ?_
  refine (at_iload_n dc20_34 rfl).trans ?_
  refine (at_iast dc20_35 (ly3 hL) i1).trans ?_
  refine (at_aload_n dc20_36 rfl).trans ?_
  refine (at_gfR dc20_37 mc20 lf2_18 fo2_2 (ly1 hL) (lr1_2 hL)).trans ?_
  refine (at_iload_n dc20_40 rfl).trans ?_
  refine (at_iload_n dc20_41 rfl).trans ?_
  refine (at_iast dc20_42 (ly4 hL) i1).trans ?_
  refine (at_iconst (v := 0) dc20_43 rfl).trans ?_
  refine (at_istore dc20_44 rfl).trans ?_
  rfl
theorem b20_46 {X : pm_X} {d : Nat} {x1 : Int32} {x2 : Int32} {x3 : Int32} {x4 : Int32} {g : pm_G} {iv : pm_V}  : pm_at X d 20 (46, [some (.ref 1), some (.int x1), some (.int x2), some (.int x3), some (.int x4)], [], g, iv) = if x3 ≤ x4 then pm_at X d 20 (71, [some (.ref 1), some (.int x1), some (.int x2), some (.int x3), some (.int x4)], [], g, iv) else pm_at X d 20 (52, [some (.ref 1), some (.int x1), some (.int x2), some (.int x3), some (.int x4)], [], g, iv) := by
  refine (at_iload dc20_46 rfl).trans ?_
  refine (at_iload_n dc20_48 rfl).trans ?_
  exact at_icmp_ge (t := 71) dc20_49 (by decide)
theorem b20_52 {X : pm_X} {d : Nat} {x1 : Int32} {x2 : Int32} {x3 : Int32} {x4 : Int32} {g : pm_G} {iv : pm_V} (hL : pm_lay g) (i1 : vp_in (((x1 * 40) + x4)) 320) : pm_at X d 20 (52, [some (.ref 1), some (.int x1), some (.int x2), some (.int x3), some (.int x4)], [], g, iv) = pm_at X d 20 (46, [some (.ref 1), some (.int x1), some (.int x2), some (.int x3), some (.int (x4 + 1))], [], g, (pm_iw iv 2 (((x1 * 40) + x4) : Int32).toNatClampNeg 0)) := by
  refine (at_aload_n dc20_52 rfl).trans ?_
  refine (at_gfR dc20_53 mc20 lf2_9 fo2_0 (ly1 hL) (lr1_0 hL)).trans ?_
  refine (at_iload_n dc20_56 rfl).trans ?_
  refine (at_bipush (v := 40) dc20_57 (by decide)).trans ?_
  refine (at_imul dc20_59).trans ?_
  refine (at_iload dc20_60 rfl).trans ?_
  refine (at_iadd dc20_62).trans ?_
  refine (at_iconst (v := 0) dc20_63 rfl).trans ?_
  refine (at_iast dc20_64 (ly2 hL) i1).trans ?_
  refine (at_iinc (v := 1) dc20_65 rfl (by decide) rfl).trans ?_
  refine (at_goto (t := 46) dc20_68 (by decide)).trans ?_
  rfl
theorem b20_71 {X : pm_X} {d : Nat} {x1 : Int32} {x2 : Int32} {x3 : Int32} {x4 : Int32} {g : pm_G} {iv : pm_V}  : pm_at X d 20 (71, [some (.ref 1), some (.int x1), some (.int x2), some (.int x3), some (.int x4)], [], g, iv) = some (none, g, iv) := by
  exact at_vret dc20_71 mr20
-- Rows.put (III)I
theorem dc21_0 : decode (pm_mb 21) 0 = .ok (.aload_n 0, 1) := by decide +kernel
theorem dc21_1 : decode (pm_mb 21) 1 = .ok (.iload_n 1, 1) := by decide +kernel
theorem dc21_2 : decode (pm_mb 21) 2 = .ok (.iload_n 2, 1) := by decide +kernel
theorem dc21_3 : decode (pm_mb 21) 3 = .ok (.iconst 1, 1) := by decide +kernel
theorem dc21_4 : decode (pm_mb 21) 4 = .ok (.invokevirtual 33, 3) := by decide +kernel
theorem dc21_7 : decode (pm_mb 21) 7 = .ok (.ifCond .ne 6, 3) := by decide +kernel
theorem dc21_10 : decode (pm_mb 21) 10 = .ok (.ldc 32, 2) := by decide +kernel
theorem dc21_12 : decode (pm_mb 21) 12 = .ok (.ireturn, 1) := by decide +kernel
theorem dc21_13 : decode (pm_mb 21) 13 = .ok (.iload_n 3, 1) := by decide +kernel
theorem dc21_14 : decode (pm_mb 21) 14 = .ok (.aload_n 0, 1) := by decide +kernel
theorem dc21_15 : decode (pm_mb 21) 15 = .ok (.getfield 15, 3) := by decide +kernel
theorem dc21_18 : decode (pm_mb 21) 18 = .ok (.iload_n 1, 1) := by decide +kernel
theorem dc21_19 : decode (pm_mb 21) 19 = .ok (.iaload, 1) := by decide +kernel
theorem dc21_20 : decode (pm_mb 21) 20 = .ok (.invokestatic 47, 3) := by decide +kernel
theorem dc21_23 : decode (pm_mb 21) 23 = .ok (.istore 4, 2) := by decide +kernel
theorem dc21_25 : decode (pm_mb 21) 25 = .ok (.aload_n 0, 1) := by decide +kernel
theorem dc21_26 : decode (pm_mb 21) 26 = .ok (.getfield 9, 3) := by decide +kernel
theorem dc21_29 : decode (pm_mb 21) 29 = .ok (.iload_n 1, 1) := by decide +kernel
theorem dc21_30 : decode (pm_mb 21) 30 = .ok (.bipush 40, 2) := by decide +kernel
theorem dc21_32 : decode (pm_mb 21) 32 = .ok (.imul, 1) := by decide +kernel
theorem dc21_33 : decode (pm_mb 21) 33 = .ok (.iload_n 2, 1) := by decide +kernel
theorem dc21_34 : decode (pm_mb 21) 34 = .ok (.iadd, 1) := by decide +kernel
theorem dc21_35 : decode (pm_mb 21) 35 = .ok (.iload 4, 2) := by decide +kernel
theorem dc21_37 : decode (pm_mb 21) 37 = .ok (.iastore, 1) := by decide +kernel
theorem dc21_38 : decode (pm_mb 21) 38 = .ok (.iload 4, 2) := by decide +kernel
theorem dc21_40 : decode (pm_mb 21) 40 = .ok (.ireturn, 1) := by decide +kernel
theorem b21_0 {X : pm_X} {d : Nat} {x1 : Int32} {x2 : Int32} {x3 : Int32} {g : pm_G} {iv : pm_V} (hL : pm_lay g) : pm_at X d 21 (0, [some (.ref 1), some (.int x1), some (.int x2), some (.int x3), none], [], g, iv) = pm_then X d 21 7 [some (.ref 1), some (.int x1), some (.int x2), some (.int x3), none] [] (pm_c X d 16 [.ref 1, .int x1, .int x2, .int 1] g iv) := by
  refine (at_aload_n dc21_0 rfl).trans ?_
  refine (at_iload_n dc21_1 rfl).trans ?_
  refine (at_iload_n dc21_2 rfl).trans ?_
  refine (at_iconst (v := 1) dc21_3 rfl).trans ?_
  exact at_inv dc21_4 mc21 lm2_33 rfl rfl (Nat.le_of_ble_eq_true rfl) (Or.inl ⟨(ly1 hL), by decide⟩)
theorem b21_7 {X : pm_X} {d : Nat} {x1 : Int32} {x2 : Int32} {x3 : Int32} {s0 : Int32} {g : pm_G} {iv : pm_V}  : pm_at X d 21 (7, [some (.ref 1), some (.int x1), some (.int x2), some (.int x3), none], [.int s0], g, iv) = if ¬ s0 = 0 then pm_at X d 21 (13, [some (.ref 1), some (.int x1), some (.int x2), some (.int x3), none], [], g, iv) else pm_at X d 21 (10, [some (.ref 1), some (.int x1), some (.int x2), some (.int x3), none], [], g, iv) := by
  exact at_if_ne (t := 13) dc21_7 (by decide)
theorem b21_10 {X : pm_X} {d : Nat} {x1 : Int32} {x2 : Int32} {x3 : Int32} {g : pm_G} {iv : pm_V}  : pm_at X d 21 (10, [some (.ref 1), some (.int x1), some (.int x2), some (.int x3), none], [], g, iv) = some (some (.int (-1000000)), g, iv) := by
  refine (at_ldc dc21_10 mc21 lk2_32).trans ?_
  exact at_iret dc21_12 mr21
theorem b21_13 {X : pm_X} {d : Nat} {x1 : Int32} {x2 : Int32} {x3 : Int32} {g : pm_G} {iv : pm_V} (hL : pm_lay g) (i1 : vp_in x1 8) : pm_at X d 21 (13, [some (.ref 1), some (.int x1), some (.int x2), some (.int x3), none], [], g, iv) = pm_then X d 21 23 [some (.ref 1), some (.int x1), some (.int x2), some (.int x3), none] [] (pm_c X d 24 [.int x3, .int (iv 3 (x1 : Int32).toNatClampNeg)] g iv) := by
  refine (at_iload_n dc21_13 rfl).trans ?_
  refine (at_aload_n dc21_14 rfl).trans ?_
  refine (at_gfR dc21_15 mc21 lf2_15 fo2_1 (ly1 hL) (lr1_1 hL)).trans ?_
  refine (at_iload_n dc21_18 rfl).trans ?_
  refine (at_iald dc21_19 (ly3 hL) i1).trans ?_
  exact at_ins dc21_20 mc21 lm2_47 (Nat.le_of_ble_eq_true rfl) rfl rfl (Nat.le_of_ble_eq_true rfl)
theorem b21_23 {X : pm_X} {d : Nat} {x1 : Int32} {x2 : Int32} {x3 : Int32} {s0 : Int32} {g : pm_G} {iv : pm_V} (hL : pm_lay g) (i1 : vp_in (((x1 * 40) + x2)) 320) : pm_at X d 21 (23, [some (.ref 1), some (.int x1), some (.int x2), some (.int x3), none], [.int s0], g, iv) = some (some (.int s0), g, (pm_iw iv 2 (((x1 * 40) + x2) : Int32).toNatClampNeg s0)) := by
  refine (at_istore dc21_23 rfl).trans ?_
  refine (at_aload_n dc21_25 rfl).trans ?_
  refine (at_gfR dc21_26 mc21 lf2_9 fo2_0 (ly1 hL) (lr1_0 hL)).trans ?_
  refine (at_iload_n dc21_29 rfl).trans ?_
  refine (at_bipush (v := 40) dc21_30 (by decide)).trans ?_
  refine (at_imul dc21_32).trans ?_
  refine (at_iload_n dc21_33 rfl).trans ?_
  refine (at_iadd dc21_34).trans ?_
  refine (at_iload dc21_35 rfl).trans ?_
  refine (at_iast dc21_37 (ly2 hL) i1).trans ?_
  refine (at_iload dc21_38 rfl).trans ?_
  exact at_iret dc21_40 mr21
-- Rows.move (IIIII)V
theorem dc22_0 : decode (pm_mb 22) 0 = .ok (.aload_n 0, 1) := by decide +kernel
theorem dc22_1 : decode (pm_mb 22) 1 = .ok (.iload_n 1, 1) := by decide +kernel
theorem dc22_2 : decode (pm_mb 22) 2 = .ok (.iload_n 2, 1) := by decide +kernel
theorem dc22_3 : decode (pm_mb 22) 3 = .ok (.iload 5, 2) := by decide +kernel
theorem dc22_5 : decode (pm_mb 22) 5 = .ok (.invokevirtual 33, 3) := by decide +kernel
theorem dc22_8 : decode (pm_mb 22) 8 = .ok (.ifCond .eq 41, 3) := by decide +kernel
theorem dc22_11 : decode (pm_mb 22) 11 = .ok (.aload_n 0, 1) := by decide +kernel
theorem dc22_12 : decode (pm_mb 22) 12 = .ok (.iload_n 3, 1) := by decide +kernel
theorem dc22_13 : decode (pm_mb 22) 13 = .ok (.iload 4, 2) := by decide +kernel
theorem dc22_15 : decode (pm_mb 22) 15 = .ok (.iload 5, 2) := by decide +kernel
theorem dc22_17 : decode (pm_mb 22) 17 = .ok (.invokevirtual 33, 3) := by decide +kernel
theorem dc22_20 : decode (pm_mb 22) 20 = .ok (.ifCond .eq 29, 3) := by decide +kernel
theorem dc22_23 : decode (pm_mb 22) 23 = .ok (.aload_n 0, 1) := by decide +kernel
theorem dc22_24 : decode (pm_mb 22) 24 = .ok (.getfield 9, 3) := by decide +kernel
theorem dc22_27 : decode (pm_mb 22) 27 = .ok (.iload_n 1, 1) := by decide +kernel
theorem dc22_28 : decode (pm_mb 22) 28 = .ok (.bipush 40, 2) := by decide +kernel
theorem dc22_30 : decode (pm_mb 22) 30 = .ok (.imul, 1) := by decide +kernel
theorem dc22_31 : decode (pm_mb 22) 31 = .ok (.iload_n 2, 1) := by decide +kernel
theorem dc22_32 : decode (pm_mb 22) 32 = .ok (.iadd, 1) := by decide +kernel
theorem dc22_33 : decode (pm_mb 22) 33 = .ok (.aload_n 0, 1) := by decide +kernel
theorem dc22_34 : decode (pm_mb 22) 34 = .ok (.getfield 9, 3) := by decide +kernel
theorem dc22_37 : decode (pm_mb 22) 37 = .ok (.iload_n 3, 1) := by decide +kernel
theorem dc22_38 : decode (pm_mb 22) 38 = .ok (.bipush 40, 2) := by decide +kernel
theorem dc22_40 : decode (pm_mb 22) 40 = .ok (.imul, 1) := by decide +kernel
theorem dc22_41 : decode (pm_mb 22) 41 = .ok (.iload 4, 2) := by decide +kernel
theorem dc22_43 : decode (pm_mb 22) 43 = .ok (.iadd, 1) := by decide +kernel
theorem dc22_44 : decode (pm_mb 22) 44 = .ok (.iload 5, 2) := by decide +kernel
theorem dc22_46 : decode (pm_mb 22) 46 = .ok (.invokestatic 51, 3) := by decide +kernel
theorem dc22_49 : decode (pm_mb 22) 49 = .ok (.return_, 1) := by decide +kernel
theorem b22_0 {X : pm_X} {d : Nat} {x1 : Int32} {x2 : Int32} {x3 : Int32} {x4 : Int32} {x5 : Int32} {g : pm_G} {iv : pm_V} (hL : pm_lay g) : pm_at X d 22 (0, [some (.ref 1), some (.int x1), some (.int x2), some (.int x3), some (.int x4), some (.int x5)], [], g, iv) = pm_then X d 22 8 [some (.ref 1), some (.int x1), some (.int x2), some (.int x3), some (.int x4), some (.int x5)] [] (pm_c X d 16 [.ref 1, .int x1, .int x2, .int x5] g iv) := by
  refine (at_aload_n dc22_0 rfl).trans ?_
  refine (at_iload_n dc22_1 rfl).trans ?_
  refine (at_iload_n dc22_2 rfl).trans ?_
  refine (at_iload dc22_3 rfl).trans ?_
  exact at_inv dc22_5 mc22 lm2_33 rfl rfl (Nat.le_of_ble_eq_true rfl) (Or.inl ⟨(ly1 hL), by decide⟩)
theorem b22_8 {X : pm_X} {d : Nat} {x1 : Int32} {x2 : Int32} {x3 : Int32} {x4 : Int32} {x5 : Int32} {s0 : Int32} {g : pm_G} {iv : pm_V}  : pm_at X d 22 (8, [some (.ref 1), some (.int x1), some (.int x2), some (.int x3), some (.int x4), some (.int x5)], [.int s0], g, iv) = if s0 = 0 then pm_at X d 22 (49, [some (.ref 1), some (.int x1), some (.int x2), some (.int x3), some (.int x4), some (.int x5)], [], g, iv) else pm_at X d 22 (11, [some (.ref 1), some (.int x1), some (.int x2), some (.int x3), some (.int x4), some (.int x5)], [], g, iv) := by
  exact at_if_eq (t := 49) dc22_8 (by decide)
theorem b22_11 {X : pm_X} {d : Nat} {x1 : Int32} {x2 : Int32} {x3 : Int32} {x4 : Int32} {x5 : Int32} {g : pm_G} {iv : pm_V} (hL : pm_lay g) : pm_at X d 22 (11, [some (.ref 1), some (.int x1), some (.int x2), some (.int x3), some (.int x4), some (.int x5)], [], g, iv) = pm_then X d 22 20 [some (.ref 1), some (.int x1), some (.int x2), some (.int x3), some (.int x4), some (.int x5)] [] (pm_c X d 16 [.ref 1, .int x3, .int x4, .int x5] g iv) := by
  refine (at_aload_n dc22_11 rfl).trans ?_
  refine (at_iload_n dc22_12 rfl).trans ?_
  refine (at_iload dc22_13 rfl).trans ?_
  refine (at_iload dc22_15 rfl).trans ?_
  exact at_inv dc22_17 mc22 lm2_33 rfl rfl (Nat.le_of_ble_eq_true rfl) (Or.inl ⟨(ly1 hL), by decide⟩)
theorem b22_20 {X : pm_X} {d : Nat} {x1 : Int32} {x2 : Int32} {x3 : Int32} {x4 : Int32} {x5 : Int32} {s0 : Int32} {g : pm_G} {iv : pm_V}  : pm_at X d 22 (20, [some (.ref 1), some (.int x1), some (.int x2), some (.int x3), some (.int x4), some (.int x5)], [.int s0], g, iv) = if s0 = 0 then pm_at X d 22 (49, [some (.ref 1), some (.int x1), some (.int x2), some (.int x3), some (.int x4), some (.int x5)], [], g, iv) else pm_at X d 22 (23, [some (.ref 1), some (.int x1), some (.int x2), some (.int x3), some (.int x4), some (.int x5)], [], g, iv) := by
  exact at_if_eq (t := 49) dc22_20 (by decide)
theorem b22_23 {X : pm_X} {d : Nat} {x1 : Int32} {x2 : Int32} {x3 : Int32} {x4 : Int32} {x5 : Int32} {g : pm_G} {iv : pm_V} (hL : pm_lay g) (c1 : (¬ (((x1 * 40) + x2) : Int32) < 0 ∧ ¬ (((x3 * 40) + x4) : Int32) < 0 ∧ ¬ (x5 : Int32) < 0 ∧ (((x1 * 40) + x2) : Int32).toNatClampNeg + (x5 : Int32).toNatClampNeg ≤ 320 ∧ (((x3 * 40) + x4) : Int32).toNatClampNeg + (x5 : Int32).toNatClampNeg ≤ 320)) : pm_at X d 22 (23, [some (.ref 1), some (.int x1), some (.int x2), some (.int x3), some (.int x4), some (.int x5)], [], g, iv) = pm_at X d 22 (49, [some (.ref 1), some (.int x1), some (.int x2), some (.int x3), some (.int x4), some (.int x5)], [], g, (pm_ir iv 2 (va_cpy (iv 2) (iv 2) (((x1 * 40) + x2) : Int32).toNatClampNeg (((x3 * 40) + x4) : Int32).toNatClampNeg (x5 : Int32).toNatClampNeg))) := by
  refine (at_aload_n dc22_23 rfl).trans ?_
  refine (at_gfR dc22_24 mc22 lf2_9 fo2_0 (ly1 hL) (lr1_0 hL)).trans ?_
  refine (at_iload_n dc22_27 rfl).trans ?_
  refine (at_bipush (v := 40) dc22_28 (by decide)).trans ?_
  refine (at_imul dc22_30).trans ?_
  refine (at_iload_n dc22_31 rfl).trans ?_
  refine (at_iadd dc22_32).trans ?_
  refine (at_aload_n dc22_33 rfl).trans ?_
  refine (at_gfR dc22_34 mc22 lf2_9 fo2_0 (ly1 hL) (lr1_0 hL)).trans ?_
  refine (at_iload_n dc22_37 rfl).trans ?_
  refine (at_bipush (v := 40) dc22_38 (by decide)).trans ?_
  refine (at_imul dc22_40).trans ?_
  refine (at_iload dc22_41 rfl).trans ?_
  refine (at_iadd dc22_43).trans ?_
  refine (at_iload dc22_44 rfl).trans ?_
  refine (at_acpy dc22_46 mc22 lm2_51 (Nat.le_of_ble_eq_true rfl) (ly2 hL) (ly2 hL) c1).trans ?_
  rfl
theorem b22_49 {X : pm_X} {d : Nat} {x1 : Int32} {x2 : Int32} {x3 : Int32} {x4 : Int32} {x5 : Int32} {g : pm_G} {iv : pm_V}  : pm_at X d 22 (49, [some (.ref 1), some (.int x1), some (.int x2), some (.int x3), some (.int x4), some (.int x5)], [], g, iv) = some (none, g, iv) := by
  exact at_vret dc22_49 mr22
-- Rows.remove (I)I
theorem dc23_0 : decode (pm_mb 23) 0 = .ok (.aload_n 0, 1) := by decide +kernel
theorem dc23_1 : decode (pm_mb 23) 1 = .ok (.iload_n 1, 1) := by decide +kernel
theorem dc23_2 : decode (pm_mb 23) 2 = .ok (.invokevirtual 29, 3) := by decide +kernel
theorem dc23_5 : decode (pm_mb 23) 5 = .ok (.ifCond .eq 6, 3) := by decide +kernel
theorem dc23_8 : decode (pm_mb 23) 8 = .ok (.ldc 32, 2) := by decide +kernel
theorem dc23_10 : decode (pm_mb 23) 10 = .ok (.ireturn, 1) := by decide +kernel
theorem dc23_11 : decode (pm_mb 23) 11 = .ok (.aload_n 0, 1) := by decide +kernel
theorem dc23_12 : decode (pm_mb 23) 12 = .ok (.dup, 1) := by decide +kernel
theorem dc23_13 : decode (pm_mb 23) 13 = .ok (.getfield 25, 3) := by decide +kernel
theorem dc23_16 : decode (pm_mb 23) 16 = .ok (.iconst 1, 1) := by decide +kernel
theorem dc23_17 : decode (pm_mb 23) 17 = .ok (.iload_n 1, 1) := by decide +kernel
theorem dc23_18 : decode (pm_mb 23) 18 = .ok (.ishl, 1) := by decide +kernel
theorem dc23_19 : decode (pm_mb 23) 19 = .ok (.iconst (-1), 1) := by decide +kernel
theorem dc23_20 : decode (pm_mb 23) 20 = .ok (.ixor, 1) := by decide +kernel
theorem dc23_21 : decode (pm_mb 23) 21 = .ok (.iand, 1) := by decide +kernel
theorem dc23_22 : decode (pm_mb 23) 22 = .ok (.putfield 25, 3) := by decide +kernel
theorem dc23_25 : decode (pm_mb 23) 25 = .ok (.aload_n 0, 1) := by decide +kernel
theorem dc23_26 : decode (pm_mb 23) 26 = .ok (.getfield 18, 3) := by decide +kernel
theorem dc23_29 : decode (pm_mb 23) 29 = .ok (.iload_n 1, 1) := by decide +kernel
theorem dc23_30 : decode (pm_mb 23) 30 = .ok (.iaload, 1) := by decide +kernel
theorem dc23_31 : decode (pm_mb 23) 31 = .ok (.ireturn, 1) := by decide +kernel
theorem b23_0 {X : pm_X} {d : Nat} {x1 : Int32} {g : pm_G} {iv : pm_V} (hL : pm_lay g) : pm_at X d 23 (0, [some (.ref 1), some (.int x1)], [], g, iv) = pm_then X d 23 5 [some (.ref 1), some (.int x1)] [] (pm_c X d 15 [.ref 1, .int x1] g iv) := by
  refine (at_aload_n dc23_0 rfl).trans ?_
  refine (at_iload_n dc23_1 rfl).trans ?_
  exact at_inv dc23_2 mc23 lm2_29 rfl rfl (Nat.le_of_ble_eq_true rfl) (Or.inl ⟨(ly1 hL), by decide⟩)
theorem b23_5 {X : pm_X} {d : Nat} {x1 : Int32} {s0 : Int32} {g : pm_G} {iv : pm_V}  : pm_at X d 23 (5, [some (.ref 1), some (.int x1)], [.int s0], g, iv) = if s0 = 0 then pm_at X d 23 (11, [some (.ref 1), some (.int x1)], [], g, iv) else pm_at X d 23 (8, [some (.ref 1), some (.int x1)], [], g, iv) := by
  exact at_if_eq (t := 11) dc23_5 (by decide)
theorem b23_8 {X : pm_X} {d : Nat} {x1 : Int32} {g : pm_G} {iv : pm_V}  : pm_at X d 23 (8, [some (.ref 1), some (.int x1)], [], g, iv) = some (some (.int (-1000000)), g, iv) := by
  refine (at_ldc dc23_8 mc23 lk2_32).trans ?_
  exact at_iret dc23_10 mr23
theorem b23_11 {X : pm_X} {d : Nat} {x1 : Int32} {g : pm_G} {iv : pm_V} (hL : pm_lay g) (i1 : vp_in x1 8) : pm_at X d 23 (11, [some (.ref 1), some (.int x1)], [], g, iv) = some (some (.int ((pm_iw iv 1 3 (((iv 1 3) &&& ((1 <<< (x1 &&& 31)) ^^^ (-1))))) 4 (x1 : Int32).toNatClampNeg)), g, (pm_iw iv 1 3 (((iv 1 3) &&& ((1 <<< (x1 &&& 31)) ^^^ (-1)))))) := by
  refine (at_aload_n dc23_11 rfl).trans ?_
  refine (at_dup dc23_12 rfl).trans ?_
  refine (at_gfI dc23_13 mc23 lf2_25 fo2_3 (ly1 hL)).trans ?_
  refine (at_iconst (v := 1) dc23_16 rfl).trans ?_
  refine (at_iload_n dc23_17 rfl).trans ?_
  refine (at_ishl dc23_18).trans ?_
  refine (at_iconst (v := (-1)) dc23_19 rfl).trans ?_
  refine (at_ixor dc23_20).trans ?_
  refine (at_iand dc23_21).trans ?_
  refine (at_pfI dc23_22 mc23 lf2_25 po2_3 (ly1 hL)).trans ?_
  refine (at_aload_n dc23_25 rfl).trans ?_
  refine (at_gfR dc23_26 mc23 lf2_18 fo2_2 (ly1 hL) (lr1_2 hL)).trans ?_
  refine (at_iload_n dc23_29 rfl).trans ?_
  refine (at_iald dc23_30 (ly4 hL) i1).trans ?_
  exact at_iret dc23_31 mr23
-- Rows.cut (II)I
theorem dc24_0 : decode (pm_mb 24) 0 = .ok (.iload_n 1, 1) := by decide +kernel
theorem dc24_1 : decode (pm_mb 24) 1 = .ok (.ifCond .ne 6, 3) := by decide +kernel
theorem dc24_4 : decode (pm_mb 24) 4 = .ok (.iload_n 0, 1) := by decide +kernel
theorem dc24_5 : decode (pm_mb 24) 5 = .ok (.i2b, 1) := by decide +kernel
theorem dc24_6 : decode (pm_mb 24) 6 = .ok (.ireturn, 1) := by decide +kernel
theorem dc24_7 : decode (pm_mb 24) 7 = .ok (.iload_n 1, 1) := by decide +kernel
theorem dc24_8 : decode (pm_mb 24) 8 = .ok (.iconst 1, 1) := by decide +kernel
theorem dc24_9 : decode (pm_mb 24) 9 = .ok (.if_icmp .ne 8, 3) := by decide +kernel
theorem dc24_12 : decode (pm_mb 24) 12 = .ok (.iload_n 0, 1) := by decide +kernel
theorem dc24_13 : decode (pm_mb 24) 13 = .ok (.i2s, 1) := by decide +kernel
theorem dc24_14 : decode (pm_mb 24) 14 = .ok (.goto 4, 3) := by decide +kernel
theorem dc24_17 : decode (pm_mb 24) 17 = .ok (.iload_n 0, 1) := by decide +kernel
theorem dc24_18 : decode (pm_mb 24) 18 = .ok (.ireturn, 1) := by decide +kernel
theorem b24_0 {X : pm_X} {d : Nat} {x0 : Int32} {x1 : Int32} {g : pm_G} {iv : pm_V}  : pm_at X d 24 (0, [some (.int x0), some (.int x1)], [], g, iv) = if ¬ x1 = 0 then pm_at X d 24 (7, [some (.int x0), some (.int x1)], [], g, iv) else pm_at X d 24 (4, [some (.int x0), some (.int x1)], [], g, iv) := by
  refine (at_iload_n dc24_0 rfl).trans ?_
  exact at_if_ne (t := 7) dc24_1 (by decide)
theorem b24_4 {X : pm_X} {d : Nat} {x0 : Int32} {x1 : Int32} {g : pm_G} {iv : pm_V}  : pm_at X d 24 (4, [some (.int x0), some (.int x1)], [], g, iv) = some (some (.int x0.toInt8.toInt32), g, iv) := by
  refine (at_iload_n dc24_4 rfl).trans ?_
  refine (at_i2b dc24_5).trans ?_
  exact at_iret dc24_6 mr24
theorem b24_7 {X : pm_X} {d : Nat} {x0 : Int32} {x1 : Int32} {g : pm_G} {iv : pm_V}  : pm_at X d 24 (7, [some (.int x0), some (.int x1)], [], g, iv) = if ¬ x1 = 1 then pm_at X d 24 (17, [some (.int x0), some (.int x1)], [], g, iv) else pm_at X d 24 (12, [some (.int x0), some (.int x1)], [], g, iv) := by
  refine (at_iload_n dc24_7 rfl).trans ?_
  refine (at_iconst (v := 1) dc24_8 rfl).trans ?_
  exact at_icmp_ne (t := 17) dc24_9 (by decide)
theorem b24_12 {X : pm_X} {d : Nat} {x0 : Int32} {x1 : Int32} {g : pm_G} {iv : pm_V}  : pm_at X d 24 (12, [some (.int x0), some (.int x1)], [], g, iv) = pm_at X d 24 (18, [some (.int x0), some (.int x1)], [.int x0.toInt16.toInt32], g, iv) := by
  refine (at_iload_n dc24_12 rfl).trans ?_
  refine (at_i2s dc24_13).trans ?_
  refine (at_goto (t := 18) dc24_14 (by decide)).trans ?_
  rfl
theorem b24_17 {X : pm_X} {d : Nat} {x0 : Int32} {x1 : Int32} {g : pm_G} {iv : pm_V}  : pm_at X d 24 (17, [some (.int x0), some (.int x1)], [], g, iv) = pm_at X d 24 (18, [some (.int x0), some (.int x1)], [.int x0], g, iv) := by
  refine (at_iload_n dc24_17 rfl).trans ?_
  rfl
theorem b24_18 {X : pm_X} {d : Nat} {x0 : Int32} {x1 : Int32} {s0 : Int32} {g : pm_G} {iv : pm_V}  : pm_at X d 24 (18, [some (.int x0), some (.int x1)], [.int s0], g, iv) = some (some (.int s0), g, iv) := by
  exact at_iret dc24_18 mr24
-- Integer.bitCount (I)I
theorem dc203_0 : decode (pm_mb 203) 0 = .ok (.iload_n 0, 1) := by decide +kernel
theorem dc203_1 : decode (pm_mb 203) 1 = .ok (.iload_n 0, 1) := by decide +kernel
theorem dc203_2 : decode (pm_mb 203) 2 = .ok (.iconst 1, 1) := by decide +kernel
theorem dc203_3 : decode (pm_mb 203) 3 = .ok (.iushr, 1) := by decide +kernel
theorem dc203_4 : decode (pm_mb 203) 4 = .ok (.ldc_w 265, 3) := by decide +kernel
theorem dc203_7 : decode (pm_mb 203) 7 = .ok (.iand, 1) := by decide +kernel
theorem dc203_8 : decode (pm_mb 203) 8 = .ok (.isub, 1) := by decide +kernel
theorem dc203_9 : decode (pm_mb 203) 9 = .ok (.istore_n 0, 1) := by decide +kernel
theorem dc203_10 : decode (pm_mb 203) 10 = .ok (.iload_n 0, 1) := by decide +kernel
theorem dc203_11 : decode (pm_mb 203) 11 = .ok (.ldc_w 266, 3) := by decide +kernel
theorem dc203_14 : decode (pm_mb 203) 14 = .ok (.iand, 1) := by decide +kernel
theorem dc203_15 : decode (pm_mb 203) 15 = .ok (.iload_n 0, 1) := by decide +kernel
theorem dc203_16 : decode (pm_mb 203) 16 = .ok (.iconst 2, 1) := by decide +kernel
theorem dc203_17 : decode (pm_mb 203) 17 = .ok (.iushr, 1) := by decide +kernel
theorem dc203_18 : decode (pm_mb 203) 18 = .ok (.ldc_w 266, 3) := by decide +kernel
theorem dc203_21 : decode (pm_mb 203) 21 = .ok (.iand, 1) := by decide +kernel
theorem dc203_22 : decode (pm_mb 203) 22 = .ok (.iadd, 1) := by decide +kernel
theorem dc203_23 : decode (pm_mb 203) 23 = .ok (.istore_n 0, 1) := by decide +kernel
theorem dc203_24 : decode (pm_mb 203) 24 = .ok (.iload_n 0, 1) := by decide +kernel
theorem dc203_25 : decode (pm_mb 203) 25 = .ok (.iload_n 0, 1) := by decide +kernel
theorem dc203_26 : decode (pm_mb 203) 26 = .ok (.iconst 4, 1) := by decide +kernel
theorem dc203_27 : decode (pm_mb 203) 27 = .ok (.iushr, 1) := by decide +kernel
theorem dc203_28 : decode (pm_mb 203) 28 = .ok (.iadd, 1) := by decide +kernel
theorem dc203_29 : decode (pm_mb 203) 29 = .ok (.ldc_w 267, 3) := by decide +kernel
theorem dc203_32 : decode (pm_mb 203) 32 = .ok (.iand, 1) := by decide +kernel
theorem dc203_33 : decode (pm_mb 203) 33 = .ok (.istore_n 0, 1) := by decide +kernel
theorem dc203_34 : decode (pm_mb 203) 34 = .ok (.iload_n 0, 1) := by decide +kernel
theorem dc203_35 : decode (pm_mb 203) 35 = .ok (.iload_n 0, 1) := by decide +kernel
theorem dc203_36 : decode (pm_mb 203) 36 = .ok (.bipush 8, 2) := by decide +kernel
theorem dc203_38 : decode (pm_mb 203) 38 = .ok (.iushr, 1) := by decide +kernel
theorem dc203_39 : decode (pm_mb 203) 39 = .ok (.iadd, 1) := by decide +kernel
theorem dc203_40 : decode (pm_mb 203) 40 = .ok (.istore_n 0, 1) := by decide +kernel
theorem dc203_41 : decode (pm_mb 203) 41 = .ok (.iload_n 0, 1) := by decide +kernel
theorem dc203_42 : decode (pm_mb 203) 42 = .ok (.iload_n 0, 1) := by decide +kernel
theorem dc203_43 : decode (pm_mb 203) 43 = .ok (.bipush 16, 2) := by decide +kernel
theorem dc203_45 : decode (pm_mb 203) 45 = .ok (.iushr, 1) := by decide +kernel
theorem dc203_46 : decode (pm_mb 203) 46 = .ok (.iadd, 1) := by decide +kernel
theorem dc203_47 : decode (pm_mb 203) 47 = .ok (.istore_n 0, 1) := by decide +kernel
theorem dc203_48 : decode (pm_mb 203) 48 = .ok (.iload_n 0, 1) := by decide +kernel
theorem dc203_49 : decode (pm_mb 203) 49 = .ok (.bipush 63, 2) := by decide +kernel
theorem dc203_51 : decode (pm_mb 203) 51 = .ok (.iand, 1) := by decide +kernel
theorem dc203_52 : decode (pm_mb 203) 52 = .ok (.ireturn, 1) := by decide +kernel
theorem b203_0 {X : pm_X} {d : Nat} {x0 : Int32} {g : pm_G} {iv : pm_V}  : pm_at X d 203 (0, [some (.int x0)], [], g, iv) = some (some (.int ((((((((x0 - ((((x0 : Int32).toUInt32 >>> ((1 : Int32).toUInt32 &&& Int32.toUInt32 31)).toInt32) &&& 1431655765)) &&& 858993459) + (((((x0 - ((((x0 : Int32).toUInt32 >>> ((1 : Int32).toUInt32 &&& Int32.toUInt32 31)).toInt32) &&& 1431655765)) : Int32).toUInt32 >>> ((2 : Int32).toUInt32 &&& Int32.toUInt32 31)).toInt32) &&& 858993459)) + ((((((x0 - ((((x0 : Int32).toUInt32 >>> ((1 : Int32).toUInt32 &&& Int32.toUInt32 31)).toInt32) &&& 1431655765)) &&& 858993459) + (((((x0 - ((((x0 : Int32).toUInt32 >>> ((1 : Int32).toUInt32 &&& Int32.toUInt32 31)).toInt32) &&& 1431655765)) : Int32).toUInt32 >>> ((2 : Int32).toUInt32 &&& Int32.toUInt32 31)).toInt32) &&& 858993459)) : Int32).toUInt32 >>> ((4 : Int32).toUInt32 &&& Int32.toUInt32 31)).toInt32)) &&& 252645135) + ((((((((x0 - ((((x0 : Int32).toUInt32 >>> ((1 : Int32).toUInt32 &&& Int32.toUInt32 31)).toInt32) &&& 1431655765)) &&& 858993459) + (((((x0 - ((((x0 : Int32).toUInt32 >>> ((1 : Int32).toUInt32 &&& Int32.toUInt32 31)).toInt32) &&& 1431655765)) : Int32).toUInt32 >>> ((2 : Int32).toUInt32 &&& Int32.toUInt32 31)).toInt32) &&& 858993459)) + ((((((x0 - ((((x0 : Int32).toUInt32 >>> ((1 : Int32).toUInt32 &&& Int32.toUInt32 31)).toInt32) &&& 1431655765)) &&& 858993459) + (((((x0 - ((((x0 : Int32).toUInt32 >>> ((1 : Int32).toUInt32 &&& Int32.toUInt32 31)).toInt32) &&& 1431655765)) : Int32).toUInt32 >>> ((2 : Int32).toUInt32 &&& Int32.toUInt32 31)).toInt32) &&& 858993459)) : Int32).toUInt32 >>> ((4 : Int32).toUInt32 &&& Int32.toUInt32 31)).toInt32)) &&& 252645135) : Int32).toUInt32 >>> ((8 : Int32).toUInt32 &&& Int32.toUInt32 31)).toInt32)) + (((((((((x0 - ((((x0 : Int32).toUInt32 >>> ((1 : Int32).toUInt32 &&& Int32.toUInt32 31)).toInt32) &&& 1431655765)) &&& 858993459) + (((((x0 - ((((x0 : Int32).toUInt32 >>> ((1 : Int32).toUInt32 &&& Int32.toUInt32 31)).toInt32) &&& 1431655765)) : Int32).toUInt32 >>> ((2 : Int32).toUInt32 &&& Int32.toUInt32 31)).toInt32) &&& 858993459)) + ((((((x0 - ((((x0 : Int32).toUInt32 >>> ((1 : Int32).toUInt32 &&& Int32.toUInt32 31)).toInt32) &&& 1431655765)) &&& 858993459) + (((((x0 - ((((x0 : Int32).toUInt32 >>> ((1 : Int32).toUInt32 &&& Int32.toUInt32 31)).toInt32) &&& 1431655765)) : Int32).toUInt32 >>> ((2 : Int32).toUInt32 &&& Int32.toUInt32 31)).toInt32) &&& 858993459)) : Int32).toUInt32 >>> ((4 : Int32).toUInt32 &&& Int32.toUInt32 31)).toInt32)) &&& 252645135) + ((((((((x0 - ((((x0 : Int32).toUInt32 >>> ((1 : Int32).toUInt32 &&& Int32.toUInt32 31)).toInt32) &&& 1431655765)) &&& 858993459) + (((((x0 - ((((x0 : Int32).toUInt32 >>> ((1 : Int32).toUInt32 &&& Int32.toUInt32 31)).toInt32) &&& 1431655765)) : Int32).toUInt32 >>> ((2 : Int32).toUInt32 &&& Int32.toUInt32 31)).toInt32) &&& 858993459)) + ((((((x0 - ((((x0 : Int32).toUInt32 >>> ((1 : Int32).toUInt32 &&& Int32.toUInt32 31)).toInt32) &&& 1431655765)) &&& 858993459) + (((((x0 - ((((x0 : Int32).toUInt32 >>> ((1 : Int32).toUInt32 &&& Int32.toUInt32 31)).toInt32) &&& 1431655765)) : Int32).toUInt32 >>> ((2 : Int32).toUInt32 &&& Int32.toUInt32 31)).toInt32) &&& 858993459)) : Int32).toUInt32 >>> ((4 : Int32).toUInt32 &&& Int32.toUInt32 31)).toInt32)) &&& 252645135) : Int32).toUInt32 >>> ((8 : Int32).toUInt32 &&& Int32.toUInt32 31)).toInt32)) : Int32).toUInt32 >>> ((16 : Int32).toUInt32 &&& Int32.toUInt32 31)).toInt32)) &&& 63)), g, iv) := by
  refine (at_iload_n dc203_0 rfl).trans ?_
  refine (at_iload_n dc203_1 rfl).trans ?_
  refine (at_iconst (v := 1) dc203_2 rfl).trans ?_
  refine (at_iushr dc203_3).trans ?_
  refine (at_ldcw dc203_4 mc203 lk8_265).trans ?_
  refine (at_iand dc203_7).trans ?_
  refine (at_isub dc203_8).trans ?_
  refine (at_istore_n dc203_9 rfl).trans ?_
  refine (at_iload_n dc203_10 rfl).trans ?_
  refine (at_ldcw dc203_11 mc203 lk8_266).trans ?_
  refine (at_iand dc203_14).trans ?_
  refine (at_iload_n dc203_15 rfl).trans ?_
  refine (at_iconst (v := 2) dc203_16 rfl).trans ?_
  refine (at_iushr dc203_17).trans ?_
  refine (at_ldcw dc203_18 mc203 lk8_266).trans ?_
  refine (at_iand dc203_21).trans ?_
  refine (at_iadd dc203_22).trans ?_
  refine (at_istore_n dc203_23 rfl).trans ?_
  refine (at_iload_n dc203_24 rfl).trans ?_
  refine (at_iload_n dc203_25 rfl).trans ?_
  refine (at_iconst (v := 4) dc203_26 rfl).trans ?_
  refine (at_iushr dc203_27).trans ?_
  refine (at_iadd dc203_28).trans ?_
  refine (at_ldcw dc203_29 mc203 lk8_267).trans ?_
  refine (at_iand dc203_32).trans ?_
  refine (at_istore_n dc203_33 rfl).trans ?_
  refine (at_iload_n dc203_34 rfl).trans ?_
  refine (at_iload_n dc203_35 rfl).trans ?_
  refine (at_bipush (v := 8) dc203_36 (by decide)).trans ?_
  refine (at_iushr dc203_38).trans ?_
  refine (at_iadd dc203_39).trans ?_
  refine (at_istore_n dc203_40 rfl).trans ?_
  refine (at_iload_n dc203_41 rfl).trans ?_
  refine (at_iload_n dc203_42 rfl).trans ?_
  refine (at_bipush (v := 16) dc203_43 (by decide)).trans ?_
  refine (at_iushr dc203_45).trans ?_
  refine (at_iadd dc203_46).trans ?_
  refine (at_istore_n dc203_47 rfl).trans ?_
  refine (at_iload_n dc203_48 rfl).trans ?_
  refine (at_bipush (v := 63) dc203_49 (by decide)).trans ?_
  refine (at_iand dc203_51).trans ?_
  exact at_iret dc203_52 mr203
-- String.length ()I
theorem dc204_0 : decode (pm_mb 204) 0 = .ok (.aload_n 0, 1) := by decide +kernel
theorem dc204_1 : decode (pm_mb 204) 1 = .ok (.getfield 9, 3) := by decide +kernel
theorem dc204_4 : decode (pm_mb 204) 4 = .ok (.arraylength, 1) := by decide +kernel
theorem dc204_5 : decode (pm_mb 204) 5 = .ok (.aload_n 0, 1) := by decide +kernel
theorem dc204_6 : decode (pm_mb 204) 6 = .ok (.invokevirtual 335, 3) := by decide +kernel
theorem dc204_9 : decode (pm_mb 204) 9 = .ok (.ishr, 1) := by decide +kernel
theorem dc204_10 : decode (pm_mb 204) 10 = .ok (.ireturn, 1) := by decide +kernel
theorem b204_0 {X : pm_X} {d : Nat} {a : Nat} {n : Nat} {f : Nat → Int32} {g : pm_G} {iv : pm_V} (hT : 1000 ≤ a ∧ a < 1008) (hB : pm_ar X g iv (a + 100) = some (9, n, f)) (hN : n < 2147483648) : pm_at X d 204 (0, [some (.ref a)], [], g, iv) = pm_then X d 204 9 [some (.ref a)] [.int (Int32.ofNat n)] (pm_c X d 206 [.ref a] g iv) := by
  refine (at_aload_n dc204_0 rfl).trans ?_
  refine (at_gfV dc204_1 mc204 lf10_9 hT).trans ?_
  refine (at_aln dc204_4 hB hN).trans ?_
  refine (at_aload_n dc204_5 rfl).trans ?_
  exact at_inv dc204_6 mc204 lm10_335 rfl rfl (Nat.le_of_ble_eq_true rfl) (Or.inr ⟨rfl, hT⟩)
theorem b204_9 {X : pm_X} {d : Nat} {s0 : Int32} {s1 : Int32} {a : Nat} {g : pm_G} {iv : pm_V}  : pm_at X d 204 (9, [some (.ref a)], [.int s0, .int s1], g, iv) = some (some (.int (s1 >>> (s0 &&& 31))), g, iv) := by
  refine (at_ishr dc204_9).trans ?_
  exact at_iret dc204_10 mr204
-- String.charAt (I)C
theorem dc205_0 : decode (pm_mb 205) 0 = .ok (.aload_n 0, 1) := by decide +kernel
theorem dc205_1 : decode (pm_mb 205) 1 = .ok (.invokevirtual 492, 3) := by decide +kernel
theorem dc205_4 : decode (pm_mb 205) 4 = .ok (.ifCond .eq 12, 3) := by decide +kernel
theorem dc205_7 : decode (pm_mb 205) 7 = .ok (.aload_n 0, 1) := by decide +kernel
theorem dc205_8 : decode (pm_mb 205) 8 = .ok (.getfield 9, 3) := by decide +kernel
theorem dc205_11 : decode (pm_mb 205) 11 = .ok (.iload_n 1, 1) := by decide +kernel
theorem dc205_12 : decode (pm_mb 205) 12 = .ok (.invokestatic 495, 3) := by decide +kernel
theorem dc205_15 : decode (pm_mb 205) 15 = .ok (.ireturn, 1) := by decide +kernel
theorem dc205_16 : decode (pm_mb 205) 16 = .ok (.aload_n 0, 1) := by decide +kernel
theorem dc205_17 : decode (pm_mb 205) 17 = .ok (.getfield 9, 3) := by decide +kernel
theorem dc205_20 : decode (pm_mb 205) 20 = .ok (.iload_n 1, 1) := by decide +kernel
theorem dc205_21 : decode (pm_mb 205) 21 = .ok (.invokestatic 498, 3) := by decide +kernel
theorem dc205_24 : decode (pm_mb 205) 24 = .ok (.ireturn, 1) := by decide +kernel
theorem b205_0 {X : pm_X} {d : Nat} {x1 : Int32} {a : Nat} {g : pm_G} {iv : pm_V} (hT : 1000 ≤ a ∧ a < 1008) : pm_at X d 205 (0, [some (.ref a), some (.int x1)], [], g, iv) = pm_then X d 205 4 [some (.ref a), some (.int x1)] [] (pm_c X d 207 [.ref a] g iv) := by
  refine (at_aload_n dc205_0 rfl).trans ?_
  exact at_inv dc205_1 mc205 lm10_492 rfl rfl (Nat.le_of_ble_eq_true rfl) (Or.inr ⟨rfl, hT⟩)
theorem b205_4 {X : pm_X} {d : Nat} {x1 : Int32} {s0 : Int32} {a : Nat} {g : pm_G} {iv : pm_V}  : pm_at X d 205 (4, [some (.ref a), some (.int x1)], [.int s0], g, iv) = if s0 = 0 then pm_at X d 205 (16, [some (.ref a), some (.int x1)], [], g, iv) else pm_at X d 205 (7, [some (.ref a), some (.int x1)], [], g, iv) := by
  exact at_if_eq (t := 16) dc205_4 (by decide)
theorem b205_7 {X : pm_X} {d : Nat} {x1 : Int32} {a : Nat} {g : pm_G} {iv : pm_V} (hT : 1000 ≤ a ∧ a < 1008) : pm_at X d 205 (7, [some (.ref a), some (.int x1)], [], g, iv) = pm_then X d 205 15 [some (.ref a), some (.int x1)] [] (pm_c X d 209 [.ref (a + 100), .int x1] g iv) := by
  refine (at_aload_n dc205_7 rfl).trans ?_
  refine (at_gfV dc205_8 mc205 lf10_9 hT).trans ?_
  refine (at_iload_n dc205_11 rfl).trans ?_
  exact at_ins dc205_12 mc205 lm10_495 (Nat.le_of_ble_eq_true rfl) rfl rfl (Nat.le_of_ble_eq_true rfl)
theorem b205_15 {X : pm_X} {d : Nat} {x1 : Int32} {s0 : Int32} {a : Nat} {g : pm_G} {iv : pm_V} (hn : narrow .char (.int s0) = .int s0) : pm_at X d 205 (15, [some (.ref a), some (.int x1)], [.int s0], g, iv) = some (some (.int s0), g, iv) := by
  exact at_tret dc205_15 mr205 hn
-- String.coder ()B
theorem dc206_0 : decode (pm_mb 206) 0 = .ok (.getstatic 38, 3) := by decide +kernel
theorem dc206_3 : decode (pm_mb 206) 3 = .ok (.ifCond .eq 10, 3) := by decide +kernel
theorem dc206_6 : decode (pm_mb 206) 6 = .ok (.aload_n 0, 1) := by decide +kernel
theorem dc206_7 : decode (pm_mb 206) 7 = .ok (.getfield 15, 3) := by decide +kernel
theorem dc206_10 : decode (pm_mb 206) 10 = .ok (.goto 4, 3) := by decide +kernel
theorem dc206_13 : decode (pm_mb 206) 13 = .ok (.iconst 1, 1) := by decide +kernel
theorem dc206_14 : decode (pm_mb 206) 14 = .ok (.ireturn, 1) := by decide +kernel
theorem b206_0 {X : pm_X} {d : Nat} {a : Nat} {g : pm_G} {iv : pm_V}  : pm_at X d 206 (0, [some (.ref a)], [], g, iv) = if 1 = 0 then pm_at X d 206 (13, [some (.ref a)], [], g, iv) else pm_at X d 206 (6, [some (.ref a)], [], g, iv) := by
  refine (at_gs3 dc206_0 mc206 ls10_38).trans ?_
  exact at_if_eq (t := 13) dc206_3 (by decide)
theorem b206_6 {X : pm_X} {d : Nat} {a : Nat} {g : pm_G} {iv : pm_V} (hT : 1000 ≤ a ∧ a < 1008) : pm_at X d 206 (6, [some (.ref a)], [], g, iv) = pm_at X d 206 (14, [some (.ref a)], [.int 0], g, iv) := by
  refine (at_aload_n dc206_6 rfl).trans ?_
  refine (at_gfC dc206_7 mc206 lf10_15 hT).trans ?_
  refine (at_goto (t := 14) dc206_10 (by decide)).trans ?_
  rfl
theorem b206_13 {X : pm_X} {d : Nat} {a : Nat} {g : pm_G} {iv : pm_V}  : pm_at X d 206 (13, [some (.ref a)], [], g, iv) = pm_at X d 206 (14, [some (.ref a)], [.int 1], g, iv) := by
  refine (at_iconst (v := 1) dc206_13 rfl).trans ?_
  rfl
theorem b206_14 {X : pm_X} {d : Nat} {s0 : Int32} {a : Nat} {g : pm_G} {iv : pm_V} (hn : narrow .byte (.int s0) = .int s0) : pm_at X d 206 (14, [some (.ref a)], [.int s0], g, iv) = some (some (.int s0), g, iv) := by
  exact at_tret dc206_14 mr206 hn
-- String.isLatin1 ()Z
theorem dc207_0 : decode (pm_mb 207) 0 = .ok (.getstatic 38, 3) := by decide +kernel
theorem dc207_3 : decode (pm_mb 207) 3 = .ok (.ifCond .eq 14, 3) := by decide +kernel
theorem dc207_6 : decode (pm_mb 207) 6 = .ok (.aload_n 0, 1) := by decide +kernel
theorem dc207_7 : decode (pm_mb 207) 7 = .ok (.getfield 15, 3) := by decide +kernel
theorem dc207_10 : decode (pm_mb 207) 10 = .ok (.ifCond .ne 7, 3) := by decide +kernel
theorem dc207_13 : decode (pm_mb 207) 13 = .ok (.iconst 1, 1) := by decide +kernel
theorem dc207_14 : decode (pm_mb 207) 14 = .ok (.goto 4, 3) := by decide +kernel
theorem dc207_17 : decode (pm_mb 207) 17 = .ok (.iconst 0, 1) := by decide +kernel
theorem dc207_18 : decode (pm_mb 207) 18 = .ok (.ireturn, 1) := by decide +kernel
theorem b207_0 {X : pm_X} {d : Nat} {a : Nat} {g : pm_G} {iv : pm_V}  : pm_at X d 207 (0, [some (.ref a)], [], g, iv) = if 1 = 0 then pm_at X d 207 (17, [some (.ref a)], [], g, iv) else pm_at X d 207 (6, [some (.ref a)], [], g, iv) := by
  refine (at_gs3 dc207_0 mc207 ls10_38).trans ?_
  exact at_if_eq (t := 17) dc207_3 (by decide)
theorem b207_6 {X : pm_X} {d : Nat} {a : Nat} {g : pm_G} {iv : pm_V} (hT : 1000 ≤ a ∧ a < 1008) : pm_at X d 207 (6, [some (.ref a)], [], g, iv) = if ¬ 0 = 0 then pm_at X d 207 (17, [some (.ref a)], [], g, iv) else pm_at X d 207 (13, [some (.ref a)], [], g, iv) := by
  refine (at_aload_n dc207_6 rfl).trans ?_
  refine (at_gfC dc207_7 mc207 lf10_15 hT).trans ?_
  exact at_if_ne (t := 17) dc207_10 (by decide)
theorem b207_13 {X : pm_X} {d : Nat} {a : Nat} {g : pm_G} {iv : pm_V}  : pm_at X d 207 (13, [some (.ref a)], [], g, iv) = pm_at X d 207 (18, [some (.ref a)], [.int 1], g, iv) := by
  refine (at_iconst (v := 1) dc207_13 rfl).trans ?_
  refine (at_goto (t := 18) dc207_14 (by decide)).trans ?_
  rfl
theorem b207_17 {X : pm_X} {d : Nat} {a : Nat} {g : pm_G} {iv : pm_V}  : pm_at X d 207 (17, [some (.ref a)], [], g, iv) = pm_at X d 207 (18, [some (.ref a)], [.int 0], g, iv) := by
  refine (at_iconst (v := 0) dc207_17 rfl).trans ?_
  rfl
theorem b207_18 {X : pm_X} {d : Nat} {s0 : Int32} {a : Nat} {g : pm_G} {iv : pm_V}  : pm_at X d 207 (18, [some (.ref a)], [.int s0], g, iv) = pm_zr s0 (some (some (.int s0), g, iv)) := by
  exact at_zretG dc207_18 mr207
-- String.checkIndex (II)V
theorem dc208_0 : decode (pm_mb 208) 0 = .ok (.iload_n 0, 1) := by decide +kernel
theorem dc208_1 : decode (pm_mb 208) 1 = .ok (.iload_n 1, 1) := by decide +kernel
theorem dc208_2 : decode (pm_mb 208) 2 = .ok (.getstatic 1053, 3) := by decide +kernel
theorem dc208_5 : decode (pm_mb 208) 5 = .ok (.invokestatic 1059, 3) := by decide +kernel
theorem dc208_8 : decode (pm_mb 208) 8 = .ok (.pop, 1) := by decide +kernel
theorem dc208_9 : decode (pm_mb 208) 9 = .ok (.return_, 1) := by decide +kernel
theorem b208_0 {X : pm_X} {d : Nat} {x0 : Int32} {x1 : Int32} {g : pm_G} {iv : pm_V}  : pm_at X d 208 (0, [some (.int x0), some (.int x1)], [], g, iv) = pm_then X d 208 8 [some (.int x0), some (.int x1)] [] (pm_c X d 211 [.int x0, .int x1, .retAddr 0] g iv) := by
  refine (at_iload_n dc208_0 rfl).trans ?_
  refine (at_iload_n dc208_1 rfl).trans ?_
  refine (at_gs4 dc208_2 mc208 ls10_1053).trans ?_
  exact at_ins dc208_5 mc208 lm10_1059 (Nat.le_of_ble_eq_true rfl) rfl rfl (Nat.le_of_ble_eq_true rfl)
theorem b208_8 {X : pm_X} {d : Nat} {x0 : Int32} {x1 : Int32} {s0 : Int32} {g : pm_G} {iv : pm_V}  : pm_at X d 208 (8, [some (.int x0), some (.int x1)], [.int s0], g, iv) = some (none, g, iv) := by
  refine (at_pop dc208_8 rfl).trans ?_
  exact at_vret dc208_9 mr208
-- Latin1.charAt ([BI)C
theorem dc209_0 : decode (pm_mb 209) 0 = .ok (.iload_n 1, 1) := by decide +kernel
theorem dc209_1 : decode (pm_mb 209) 1 = .ok (.aload_n 0, 1) := by decide +kernel
theorem dc209_2 : decode (pm_mb 209) 2 = .ok (.arraylength, 1) := by decide +kernel
theorem dc209_3 : decode (pm_mb 209) 3 = .ok (.invokestatic 9, 3) := by decide +kernel
theorem dc209_6 : decode (pm_mb 209) 6 = .ok (.aload_n 0, 1) := by decide +kernel
theorem dc209_7 : decode (pm_mb 209) 7 = .ok (.iload_n 1, 1) := by decide +kernel
theorem dc209_8 : decode (pm_mb 209) 8 = .ok (.baload, 1) := by decide +kernel
theorem dc209_9 : decode (pm_mb 209) 9 = .ok (.sipush 255, 3) := by decide +kernel
theorem dc209_12 : decode (pm_mb 209) 12 = .ok (.iand, 1) := by decide +kernel
theorem dc209_13 : decode (pm_mb 209) 13 = .ok (.i2c, 1) := by decide +kernel
theorem dc209_14 : decode (pm_mb 209) 14 = .ok (.ireturn, 1) := by decide +kernel
theorem b209_0 {X : pm_X} {d : Nat} {x1 : Int32} {a : Nat} {n : Nat} {f : Nat → Int32} {g : pm_G} {iv : pm_V} (hB : pm_ar X g iv a = some (9, n, f)) (hN : n < 2147483648) : pm_at X d 209 (0, [some (.ref a), some (.int x1)], [], g, iv) = pm_then X d 209 6 [some (.ref a), some (.int x1)] [] (pm_c X d 208 [.int x1, .int (Int32.ofNat n)] g iv) := by
  refine (at_iload_n dc209_0 rfl).trans ?_
  refine (at_aload_n dc209_1 rfl).trans ?_
  refine (at_aln dc209_2 hB hN).trans ?_
  exact at_ins dc209_3 mc209 lm11_9 (Nat.le_of_ble_eq_true rfl) rfl rfl (Nat.le_of_ble_eq_true rfl)
theorem b209_6 {X : pm_X} {d : Nat} {x1 : Int32} {a : Nat} {n : Nat} {f : Nat → Int32} {g : pm_G} {iv : pm_V} (hB : pm_ar X g iv a = some (9, n, f)) (hN : n < 2147483648) (i1 : vp_in x1 n) (hn : narrow .char (.int ((((f (x1).toNatClampNeg) &&& 255)).toUInt32 % 65536).toInt32) = .int ((((f (x1).toNatClampNeg) &&& 255)).toUInt32 % 65536).toInt32) : pm_at X d 209 (6, [some (.ref a), some (.int x1)], [], g, iv) = some (some (.int ((((f (x1).toNatClampNeg) &&& 255)).toUInt32 % 65536).toInt32), g, iv) := by
  refine (at_aload_n dc209_6 rfl).trans ?_
  refine (at_iload_n dc209_7 rfl).trans ?_
  refine (at_xbld dc209_8 hB i1).trans ?_
  refine (at_sipush (v := 255) dc209_9 (by decide)).trans ?_
  refine (at_iand dc209_12).trans ?_
  refine (at_i2c dc209_13).trans ?_
  exact at_tret dc209_14 mr209 hn
-- Arrays.fill ([II)V
theorem dc210_0 : decode (pm_mb 210) 0 = .ok (.iconst 0, 1) := by decide +kernel
theorem dc210_1 : decode (pm_mb 210) 1 = .ok (.istore_n 2, 1) := by decide +kernel
theorem dc210_2 : decode (pm_mb 210) 2 = .ok (.aload_n 0, 1) := by decide +kernel
theorem dc210_3 : decode (pm_mb 210) 3 = .ok (.arraylength, 1) := by decide +kernel
theorem dc210_4 : decode (pm_mb 210) 4 = .ok (.istore_n 3, 1) := by decide +kernel
theorem dc210_5 : decode (pm_mb 210) 5 = .ok (.iload_n 2, 1) := by decide +kernel
theorem dc210_6 : decode (pm_mb 210) 6 = .ok (.iload_n 3, 1) := by decide +kernel
theorem dc210_7 : decode (pm_mb 210) 7 = .ok (.if_icmp .ge 13, 3) := by decide +kernel
theorem dc210_10 : decode (pm_mb 210) 10 = .ok (.aload_n 0, 1) := by decide +kernel
theorem dc210_11 : decode (pm_mb 210) 11 = .ok (.iload_n 2, 1) := by decide +kernel
theorem dc210_12 : decode (pm_mb 210) 12 = .ok (.iload_n 1, 1) := by decide +kernel
theorem dc210_13 : decode (pm_mb 210) 13 = .ok (.iastore, 1) := by decide +kernel
theorem dc210_14 : decode (pm_mb 210) 14 = .ok (.iinc 2 1, 3) := by decide +kernel
theorem dc210_17 : decode (pm_mb 210) 17 = .ok (.goto (-12), 3) := by decide +kernel
theorem dc210_20 : decode (pm_mb 210) 20 = .ok (.return_, 1) := by decide +kernel
theorem b210_0 {X : pm_X} {d : Nat} {x1 : Int32} {a : Nat} {n : Nat} {g : pm_G} {iv : pm_V} (hA : g.1 a = some (8, n)) (hN : n < 2147483648) : pm_at X d 210 (0, [some (.ref a), some (.int x1), none, none], [], g, iv) = pm_at X d 210 (5, [some (.ref a), some (.int x1), some (.int 0), some (.int (Int32.ofNat n))], [], g, iv) := by
  refine (at_iconst (v := 0) dc210_0 rfl).trans ?_
  refine (at_istore_n dc210_1 rfl).trans ?_
  refine (at_aload_n dc210_2 rfl).trans ?_
  refine (at_aln dc210_3 (pm_arW hA (by decide)) hN).trans ?_
  refine (at_istore_n dc210_4 rfl).trans ?_
  rfl
theorem b210_5 {X : pm_X} {d : Nat} {x1 : Int32} {x2 : Int32} {x3 : Int32} {a : Nat} {g : pm_G} {iv : pm_V}  : pm_at X d 210 (5, [some (.ref a), some (.int x1), some (.int x2), some (.int x3)], [], g, iv) = if x3 ≤ x2 then pm_at X d 210 (20, [some (.ref a), some (.int x1), some (.int x2), some (.int x3)], [], g, iv) else pm_at X d 210 (10, [some (.ref a), some (.int x1), some (.int x2), some (.int x3)], [], g, iv) := by
  refine (at_iload_n dc210_5 rfl).trans ?_
  refine (at_iload_n dc210_6 rfl).trans ?_
  exact at_icmp_ge (t := 20) dc210_7 (by decide)
theorem b210_10 {X : pm_X} {d : Nat} {x1 : Int32} {x2 : Int32} {x3 : Int32} {a : Nat} {n : Nat} {g : pm_G} {iv : pm_V} (hA : g.1 a = some (8, n)) (i1 : vp_in x2 n) : pm_at X d 210 (10, [some (.ref a), some (.int x1), some (.int x2), some (.int x3)], [], g, iv) = pm_at X d 210 (5, [some (.ref a), some (.int x1), some (.int (x2 + 1)), some (.int x3)], [], g, (pm_iw iv a (x2 : Int32).toNatClampNeg x1)) := by
  refine (at_aload_n dc210_10 rfl).trans ?_
  refine (at_iload_n dc210_11 rfl).trans ?_
  refine (at_iload_n dc210_12 rfl).trans ?_
  refine (at_iast dc210_13 hA i1).trans ?_
  refine (at_iinc (v := 1) dc210_14 rfl (by decide) rfl).trans ?_
  refine (at_goto (t := 5) dc210_17 (by decide)).trans ?_
  rfl
theorem b210_20 {X : pm_X} {d : Nat} {x1 : Int32} {x2 : Int32} {x3 : Int32} {a : Nat} {g : pm_G} {iv : pm_V}  : pm_at X d 210 (20, [some (.ref a), some (.int x1), some (.int x2), some (.int x3)], [], g, iv) = some (none, g, iv) := by
  exact at_vret dc210_20 mr210
-- Pre.checkIndex (IILjava/util/function/BiFunction;)I
theorem dc211_0 : decode (pm_mb 211) 0 = .ok (.iload_n 0, 1) := by decide +kernel
theorem dc211_1 : decode (pm_mb 211) 1 = .ok (.ifCond .lt 8, 3) := by decide +kernel
theorem dc211_4 : decode (pm_mb 211) 4 = .ok (.iload_n 0, 1) := by decide +kernel
theorem dc211_5 : decode (pm_mb 211) 5 = .ok (.iload_n 1, 1) := by decide +kernel
theorem dc211_6 : decode (pm_mb 211) 6 = .ok (.if_icmp .lt 10, 3) := by decide +kernel
theorem dc211_9 : decode (pm_mb 211) 9 = .ok (.aload_n 2, 1) := by decide +kernel
theorem dc211_10 : decode (pm_mb 211) 10 = .ok (.iload_n 0, 1) := by decide +kernel
theorem dc211_11 : decode (pm_mb 211) 11 = .ok (.iload_n 1, 1) := by decide +kernel
theorem dc211_12 : decode (pm_mb 211) 12 = .ok (.invokestatic 95, 3) := by decide +kernel
theorem dc211_15 : decode (pm_mb 211) 15 = .ok (.athrow, 1) := by decide +kernel
theorem dc211_16 : decode (pm_mb 211) 16 = .ok (.iload_n 0, 1) := by decide +kernel
theorem dc211_17 : decode (pm_mb 211) 17 = .ok (.ireturn, 1) := by decide +kernel
theorem b211_0 {X : pm_X} {d : Nat} {x0 : Int32} {x1 : Int32} {g : pm_G} {iv : pm_V}  : pm_at X d 211 (0, [some (.int x0), some (.int x1), some (.retAddr 0)], [], g, iv) = if x0 < 0 then pm_at X d 211 (9, [some (.int x0), some (.int x1), some (.retAddr 0)], [], g, iv) else pm_at X d 211 (4, [some (.int x0), some (.int x1), some (.retAddr 0)], [], g, iv) := by
  refine (at_iload_n dc211_0 rfl).trans ?_
  exact at_if_lt (t := 9) dc211_1 (by decide)
theorem b211_4 {X : pm_X} {d : Nat} {x0 : Int32} {x1 : Int32} {g : pm_G} {iv : pm_V}  : pm_at X d 211 (4, [some (.int x0), some (.int x1), some (.retAddr 0)], [], g, iv) = if x0 < x1 then pm_at X d 211 (16, [some (.int x0), some (.int x1), some (.retAddr 0)], [], g, iv) else pm_at X d 211 (9, [some (.int x0), some (.int x1), some (.retAddr 0)], [], g, iv) := by
  refine (at_iload_n dc211_4 rfl).trans ?_
  refine (at_iload_n dc211_5 rfl).trans ?_
  exact at_icmp_lt (t := 16) dc211_6 (by decide)
theorem b211_16 {X : pm_X} {d : Nat} {x0 : Int32} {x1 : Int32} {g : pm_G} {iv : pm_V}  : pm_at X d 211 (16, [some (.int x0), some (.int x1), some (.retAddr 0)], [], g, iv) = some (some (.int x0), g, iv) := by
  refine (at_iload_n dc211_16 rfl).trans ?_
  exact at_iret dc211_17 mr211
