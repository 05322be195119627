theorem zd_MP_good_0 : decode zb_MP_good 0 = .ok (.aload_n 0, 1) := by decide +kernel
theorem zd_MP_good_1 : decode zb_MP_good 1 = .ok (.getfield 42, 3) := by decide +kernel
theorem zd_MP_good_4 : decode zb_MP_good 4 = .ok (.bipush 8, 2) := by decide +kernel
theorem zd_MP_good_6 : decode zb_MP_good 6 = .ok (.if_icmp .lt 5, 3) := by decide +kernel
theorem zd_MP_good_9 : decode zb_MP_good 9 = .ok (.iconst (-1), 1) := by decide +kernel
theorem zd_MP_good_10 : decode zb_MP_good 10 = .ok (.ireturn, 1) := by decide +kernel
theorem zd_MP_good_11 : decode zb_MP_good 11 = .ok (.aload_n 0, 1) := by decide +kernel
theorem zd_MP_good_12 : decode zb_MP_good 12 = .ok (.dup, 1) := by decide +kernel
theorem zd_MP_good_13 : decode zb_MP_good 13 = .ok (.getfield 42, 3) := by decide +kernel
theorem zd_MP_good_16 : decode zb_MP_good 16 = .ok (.iconst 1, 1) := by decide +kernel
theorem zd_MP_good_17 : decode zb_MP_good 17 = .ok (.iadd, 1) := by decide +kernel
theorem zd_MP_good_18 : decode zb_MP_good 18 = .ok (.putfield 42, 3) := by decide +kernel
theorem zd_MP_good_21 : decode zb_MP_good 21 = .ok (.aload_n 0, 1) := by decide +kernel
theorem zd_MP_good_22 : decode zb_MP_good 22 = .ok (.getfield 42, 3) := by decide +kernel
theorem zd_MP_good_25 : decode zb_MP_good 25 = .ok (.iconst 1, 1) := by decide +kernel
theorem zd_MP_good_26 : decode zb_MP_good 26 = .ok (.isub, 1) := by decide +kernel
theorem zd_MP_good_27 : decode zb_MP_good 27 = .ok (.ireturn, 1) := by decide +kernel
theorem zd_Pa_isFull_0 : decode zb_Pa_isFull 0 = .ok (.aload_n 0, 1) := by decide +kernel
theorem zd_Pa_isFull_1 : decode zb_Pa_isFull 1 = .ok (.getfield 35, 3) := by decide +kernel
theorem zd_Pa_isFull_4 : decode zb_Pa_isFull 4 = .ok (.bipush 24, 2) := by decide +kernel
theorem zd_Pa_isFull_6 : decode zb_Pa_isFull 6 = .ok (.if_icmp .lt 7, 3) := by decide +kernel
theorem zd_Pa_isFull_9 : decode zb_Pa_isFull 9 = .ok (.iconst 1, 1) := by decide +kernel
theorem zd_Pa_isFull_10 : decode zb_Pa_isFull 10 = .ok (.goto 4, 3) := by decide +kernel
theorem zd_Pa_isFull_13 : decode zb_Pa_isFull 13 = .ok (.iconst 0, 1) := by decide +kernel
theorem zd_Pa_isFull_14 : decode zb_Pa_isFull 14 = .ok (.ireturn, 1) := by decide +kernel
theorem zd_MP_isGood_0 : decode zb_MP_isGood 0 = .ok (.iload_n 1, 1) := by decide +kernel
theorem zd_MP_isGood_1 : decode zb_MP_isGood 1 = .ok (.ifCond .lt 15, 3) := by decide +kernel
theorem zd_MP_isGood_4 : decode zb_MP_isGood 4 = .ok (.iload_n 1, 1) := by decide +kernel
theorem zd_MP_isGood_5 : decode zb_MP_isGood 5 = .ok (.aload_n 0, 1) := by decide +kernel
theorem zd_MP_isGood_6 : decode zb_MP_isGood 6 = .ok (.getfield 42, 3) := by decide +kernel
theorem zd_MP_isGood_9 : decode zb_MP_isGood 9 = .ok (.if_icmp .ge 7, 3) := by decide +kernel
theorem zd_MP_isGood_12 : decode zb_MP_isGood 12 = .ok (.iconst 1, 1) := by decide +kernel
theorem zd_MP_isGood_13 : decode zb_MP_isGood 13 = .ok (.goto 4, 3) := by decide +kernel
theorem zd_MP_isGood_16 : decode zb_MP_isGood 16 = .ok (.iconst 0, 1) := by decide +kernel
theorem zd_MP_isGood_17 : decode zb_MP_isGood 17 = .ok (.ireturn, 1) := by decide +kernel
theorem zd_MP_isKind_0 : decode zb_MP_isKind 0 = .ok (.iload_n 0, 1) := by decide +kernel
theorem zd_MP_isKind_1 : decode zb_MP_isKind 1 = .ok (.ifCond .lt 12, 3) := by decide +kernel
theorem zd_MP_isKind_4 : decode zb_MP_isKind 4 = .ok (.iload_n 0, 1) := by decide +kernel
theorem zd_MP_isKind_5 : decode zb_MP_isKind 5 = .ok (.iconst 5, 1) := by decide +kernel
theorem zd_MP_isKind_6 : decode zb_MP_isKind 6 = .ok (.if_icmp .ge 7, 3) := by decide +kernel
theorem zd_MP_isKind_9 : decode zb_MP_isKind 9 = .ok (.iconst 1, 1) := by decide +kernel
theorem zd_MP_isKind_10 : decode zb_MP_isKind 10 = .ok (.goto 4, 3) := by decide +kernel
theorem zd_MP_isKind_13 : decode zb_MP_isKind 13 = .ok (.iconst 0, 1) := by decide +kernel
theorem zd_MP_isKind_14 : decode zb_MP_isKind 14 = .ok (.ireturn, 1) := by decide +kernel
theorem zd_MP_isMaterial_0 : decode zb_MP_isMaterial 0 = .ok (.iload_n 0, 1) := by decide +kernel
theorem zd_MP_isMaterial_1 : decode zb_MP_isMaterial 1 = .ok (.invokestatic 101, 3) := by decide +kernel
theorem zd_MP_isMaterial_4 : decode zb_MP_isMaterial 4 = .ok (.ifCond .eq 21, 3) := by decide +kernel
theorem zd_MP_isMaterial_7 : decode zb_MP_isMaterial 7 = .ok (.lload_n 1, 1) := by decide +kernel
theorem zd_MP_isMaterial_8 : decode zb_MP_isMaterial 8 = .ok (.lconst 0, 1) := by decide +kernel
theorem zd_MP_isMaterial_9 : decode zb_MP_isMaterial 9 = .ok (.lcmp, 1) := by decide +kernel
theorem zd_MP_isMaterial_10 : decode zb_MP_isMaterial 10 = .ok (.ifCond .lt 15, 3) := by decide +kernel
theorem zd_MP_isMaterial_13 : decode zb_MP_isMaterial 13 = .ok (.lload_n 1, 1) := by decide +kernel
theorem zd_MP_isMaterial_14 : decode zb_MP_isMaterial 14 = .ok (.ldc2_w 174, 3) := by decide +kernel
theorem zd_MP_isMaterial_17 : decode zb_MP_isMaterial 17 = .ok (.lcmp, 1) := by decide +kernel
theorem zd_MP_isMaterial_18 : decode zb_MP_isMaterial 18 = .ok (.ifCond .gt 7, 3) := by decide +kernel
theorem zd_MP_isMaterial_21 : decode zb_MP_isMaterial 21 = .ok (.iconst 1, 1) := by decide +kernel
theorem zd_MP_isMaterial_22 : decode zb_MP_isMaterial 22 = .ok (.goto 4, 3) := by decide +kernel
theorem zd_MP_isMaterial_25 : decode zb_MP_isMaterial 25 = .ok (.iconst 0, 1) := by decide +kernel
theorem zd_MP_isMaterial_26 : decode zb_MP_isMaterial 26 = .ok (.ireturn, 1) := by decide +kernel
theorem zd_MP_isLife_0 : decode zb_MP_isLife 0 = .ok (.iload_n 0, 1) := by decide +kernel
theorem zd_MP_isLife_1 : decode zb_MP_isLife 1 = .ok (.ifCond .lt 14, 3) := by decide +kernel
theorem zd_MP_isLife_4 : decode zb_MP_isLife 4 = .ok (.iload_n 0, 1) := by decide +kernel
theorem zd_MP_isLife_5 : decode zb_MP_isLife 5 = .ok (.sipush 200, 3) := by decide +kernel
theorem zd_MP_isLife_8 : decode zb_MP_isLife 8 = .ok (.if_icmp .gt 7, 3) := by decide +kernel
theorem zd_MP_isLife_11 : decode zb_MP_isLife 11 = .ok (.iconst 1, 1) := by decide +kernel
theorem zd_MP_isLife_12 : decode zb_MP_isLife 12 = .ok (.goto 4, 3) := by decide +kernel
theorem zd_MP_isLife_15 : decode zb_MP_isLife 15 = .ok (.iconst 0, 1) := by decide +kernel
theorem zd_MP_isLife_16 : decode zb_MP_isLife 16 = .ok (.ireturn, 1) := by decide +kernel
theorem zd_Pa_add_0 : decode zb_Pa_add 0 = .ok (.aload_n 0, 1) := by decide +kernel
theorem zd_Pa_add_1 : decode zb_Pa_add 1 = .ok (.invokevirtual 39, 3) := by decide +kernel
theorem zd_Pa_add_4 : decode zb_Pa_add 4 = .ok (.ifCond .eq 5, 3) := by decide +kernel
theorem zd_Pa_add_7 : decode zb_Pa_add 7 = .ok (.iconst (-1), 1) := by decide +kernel
theorem zd_Pa_add_8 : decode zb_Pa_add 8 = .ok (.ireturn, 1) := by decide +kernel
theorem zd_Pa_add_9 : decode zb_Pa_add 9 = .ok (.aload_n 0, 1) := by decide +kernel
theorem zd_Pa_add_10 : decode zb_Pa_add 10 = .ok (.getfield 9, 3) := by decide +kernel
theorem zd_Pa_add_13 : decode zb_Pa_add 13 = .ok (.aload_n 0, 1) := by decide +kernel
theorem zd_Pa_add_14 : decode zb_Pa_add 14 = .ok (.getfield 35, 3) := by decide +kernel
theorem zd_Pa_add_17 : decode zb_Pa_add 17 = .ok (.iload_n 1, 1) := by decide +kernel
theorem zd_Pa_add_18 : decode zb_Pa_add 18 = .ok (.iastore, 1) := by decide +kernel
theorem zd_Pa_add_19 : decode zb_Pa_add 19 = .ok (.aload_n 0, 1) := by decide +kernel
theorem zd_Pa_add_20 : decode zb_Pa_add 20 = .ok (.getfield 15, 3) := by decide +kernel
theorem zd_Pa_add_23 : decode zb_Pa_add 23 = .ok (.aload_n 0, 1) := by decide +kernel
theorem zd_Pa_add_24 : decode zb_Pa_add 24 = .ok (.getfield 35, 3) := by decide +kernel
theorem zd_Pa_add_27 : decode zb_Pa_add 27 = .ok (.iload_n 2, 1) := by decide +kernel
theorem zd_Pa_add_28 : decode zb_Pa_add 28 = .ok (.iastore, 1) := by decide +kernel
theorem zd_Pa_add_29 : decode zb_Pa_add 29 = .ok (.aload_n 0, 1) := by decide +kernel
theorem zd_Pa_add_30 : decode zb_Pa_add 30 = .ok (.getfield 18, 3) := by decide +kernel
theorem zd_Pa_add_33 : decode zb_Pa_add 33 = .ok (.aload_n 0, 1) := by decide +kernel
theorem zd_Pa_add_34 : decode zb_Pa_add 34 = .ok (.getfield 35, 3) := by decide +kernel
theorem zd_Pa_add_37 : decode zb_Pa_add 37 = .ok (.lload_n 3, 1) := by decide +kernel
theorem zd_Pa_add_38 : decode zb_Pa_add 38 = .ok (.lastore, 1) := by decide +kernel
theorem zd_Pa_add_39 : decode zb_Pa_add 39 = .ok (.aload_n 0, 1) := by decide +kernel
theorem zd_Pa_add_40 : decode zb_Pa_add 40 = .ok (.getfield 22, 3) := by decide +kernel
theorem zd_Pa_add_43 : decode zb_Pa_add 43 = .ok (.aload_n 0, 1) := by decide +kernel
theorem zd_Pa_add_44 : decode zb_Pa_add 44 = .ok (.getfield 35, 3) := by decide +kernel
theorem zd_Pa_add_47 : decode zb_Pa_add 47 = .ok (.iload 5, 2) := by decide +kernel
theorem zd_Pa_add_49 : decode zb_Pa_add 49 = .ok (.iastore, 1) := by decide +kernel
theorem zd_Pa_add_50 : decode zb_Pa_add 50 = .ok (.aload_n 0, 1) := by decide +kernel
theorem zd_Pa_add_51 : decode zb_Pa_add 51 = .ok (.getfield 25, 3) := by decide +kernel
theorem zd_Pa_add_54 : decode zb_Pa_add 54 = .ok (.aload_n 0, 1) := by decide +kernel
theorem zd_Pa_add_55 : decode zb_Pa_add 55 = .ok (.getfield 35, 3) := by decide +kernel
theorem zd_Pa_add_58 : decode zb_Pa_add 58 = .ok (.iconst (-1), 1) := by decide +kernel
theorem zd_Pa_add_59 : decode zb_Pa_add 59 = .ok (.iastore, 1) := by decide +kernel
theorem zd_Pa_add_60 : decode zb_Pa_add 60 = .ok (.aload_n 0, 1) := by decide +kernel
theorem zd_Pa_add_61 : decode zb_Pa_add 61 = .ok (.dup, 1) := by decide +kernel
theorem zd_Pa_add_62 : decode zb_Pa_add 62 = .ok (.getfield 35, 3) := by decide +kernel
theorem zd_Pa_add_65 : decode zb_Pa_add 65 = .ok (.iconst 1, 1) := by decide +kernel
theorem zd_Pa_add_66 : decode zb_Pa_add 66 = .ok (.iadd, 1) := by decide +kernel
theorem zd_Pa_add_67 : decode zb_Pa_add 67 = .ok (.putfield 35, 3) := by decide +kernel
theorem zd_Pa_add_70 : decode zb_Pa_add 70 = .ok (.aload_n 0, 1) := by decide +kernel
theorem zd_Pa_add_71 : decode zb_Pa_add 71 = .ok (.getfield 35, 3) := by decide +kernel
theorem zd_Pa_add_74 : decode zb_Pa_add 74 = .ok (.iconst 1, 1) := by decide +kernel
theorem zd_Pa_add_75 : decode zb_Pa_add 75 = .ok (.isub, 1) := by decide +kernel
theorem zd_Pa_add_76 : decode zb_Pa_add 76 = .ok (.ireturn, 1) := by decide +kernel
theorem zd_MP_part_0 : decode zb_MP_part 0 = .ok (.aload_n 0, 1) := by decide +kernel
theorem zd_MP_part_1 : decode zb_MP_part 1 = .ok (.getfield 20, 3) := by decide +kernel
theorem zd_MP_part_4 : decode zb_MP_part 4 = .ok (.invokevirtual 46, 3) := by decide +kernel
theorem zd_MP_part_7 : decode zb_MP_part 7 = .ok (.ifCond .ne 27, 3) := by decide +kernel
theorem zd_MP_part_10 : decode zb_MP_part 10 = .ok (.aload_n 0, 1) := by decide +kernel
theorem zd_MP_part_11 : decode zb_MP_part 11 = .ok (.iload_n 1, 1) := by decide +kernel
theorem zd_MP_part_12 : decode zb_MP_part 12 = .ok (.invokevirtual 50, 3) := by decide +kernel
theorem zd_MP_part_15 : decode zb_MP_part 15 = .ok (.ifCond .eq 19, 3) := by decide +kernel
theorem zd_MP_part_18 : decode zb_MP_part 18 = .ok (.iload_n 2, 1) := by decide +kernel
theorem zd_MP_part_19 : decode zb_MP_part 19 = .ok (.lload_n 3, 1) := by decide +kernel
theorem zd_MP_part_20 : decode zb_MP_part 20 = .ok (.invokestatic 54, 3) := by decide +kernel
theorem zd_MP_part_23 : decode zb_MP_part 23 = .ok (.ifCond .eq 11, 3) := by decide +kernel
theorem zd_MP_part_26 : decode zb_MP_part 26 = .ok (.iload 5, 2) := by decide +kernel
theorem zd_MP_part_28 : decode zb_MP_part 28 = .ok (.invokestatic 58, 3) := by decide +kernel
theorem zd_MP_part_31 : decode zb_MP_part 31 = .ok (.ifCond .ne 5, 3) := by decide +kernel
theorem zd_MP_part_34 : decode zb_MP_part 34 = .ok (.iconst (-1), 1) := by decide +kernel
theorem zd_MP_part_35 : decode zb_MP_part 35 = .ok (.ireturn, 1) := by decide +kernel
theorem zd_MP_part_36 : decode zb_MP_part 36 = .ok (.aload_n 0, 1) := by decide +kernel
theorem zd_MP_part_37 : decode zb_MP_part 37 = .ok (.getfield 9, 3) := by decide +kernel
theorem zd_MP_part_40 : decode zb_MP_part 40 = .ok (.iload_n 1, 1) := by decide +kernel
theorem zd_MP_part_41 : decode zb_MP_part 41 = .ok (.dup2, 1) := by decide +kernel
theorem zd_MP_part_42 : decode zb_MP_part 42 = .ok (.iaload, 1) := by decide +kernel
theorem zd_MP_part_43 : decode zb_MP_part 43 = .ok (.iconst 1, 1) := by decide +kernel
theorem zd_MP_part_44 : decode zb_MP_part 44 = .ok (.iadd, 1) := by decide +kernel
theorem zd_MP_part_45 : decode zb_MP_part 45 = .ok (.iastore, 1) := by decide +kernel
theorem zd_MP_part_46 : decode zb_MP_part 46 = .ok (.aload_n 0, 1) := by decide +kernel
theorem zd_MP_part_47 : decode zb_MP_part 47 = .ok (.getfield 20, 3) := by decide +kernel
theorem zd_MP_part_50 : decode zb_MP_part 50 = .ok (.iload_n 1, 1) := by decide +kernel
theorem zd_MP_part_51 : decode zb_MP_part 51 = .ok (.iload_n 2, 1) := by decide +kernel
theorem zd_MP_part_52 : decode zb_MP_part 52 = .ok (.lload_n 3, 1) := by decide +kernel
theorem zd_MP_part_53 : decode zb_MP_part 53 = .ok (.iload 5, 2) := by decide +kernel
theorem zd_MP_part_55 : decode zb_MP_part 55 = .ok (.invokevirtual 61, 3) := by decide +kernel
theorem zd_MP_part_58 : decode zb_MP_part 58 = .ok (.ireturn, 1) := by decide +kernel
theorem zd_Pa_has_0 : decode zb_Pa_has 0 = .ok (.iload_n 1, 1) := by decide +kernel
theorem zd_Pa_has_1 : decode zb_Pa_has 1 = .ok (.ifCond .lt 15, 3) := by decide +kernel
theorem zd_Pa_has_4 : decode zb_Pa_has 4 = .ok (.iload_n 1, 1) := by decide +kernel
theorem zd_Pa_has_5 : decode zb_Pa_has 5 = .ok (.aload_n 0, 1) := by decide +kernel
theorem zd_Pa_has_6 : decode zb_Pa_has 6 = .ok (.getfield 35, 3) := by decide +kernel
theorem zd_Pa_has_9 : decode zb_Pa_has 9 = .ok (.if_icmp .ge 7, 3) := by decide +kernel
theorem zd_Pa_has_12 : decode zb_Pa_has 12 = .ok (.iconst 1, 1) := by decide +kernel
theorem zd_Pa_has_13 : decode zb_Pa_has 13 = .ok (.goto 4, 3) := by decide +kernel
theorem zd_Pa_has_16 : decode zb_Pa_has 16 = .ok (.iconst 0, 1) := by decide +kernel
theorem zd_Pa_has_17 : decode zb_Pa_has 17 = .ok (.ireturn, 1) := by decide +kernel
theorem zd_Ja_fill_0 : decode zb_Ja_fill 0 = .ok (.iconst 0, 1) := by decide +kernel
theorem zd_Ja_fill_1 : decode zb_Ja_fill 1 = .ok (.istore_n 3, 1) := by decide +kernel
theorem zd_Ja_fill_2 : decode zb_Ja_fill 2 = .ok (.aload_n 0, 1) := by decide +kernel
theorem zd_Ja_fill_3 : decode zb_Ja_fill 3 = .ok (.arraylength, 1) := by decide +kernel
theorem zd_Ja_fill_4 : decode zb_Ja_fill 4 = .ok (.istore 4, 2) := by decide +kernel
theorem zd_Ja_fill_6 : decode zb_Ja_fill 6 = .ok (.iload_n 3, 1) := by decide +kernel
theorem zd_Ja_fill_7 : decode zb_Ja_fill 7 = .ok (.iload 4, 2) := by decide +kernel
theorem zd_Ja_fill_9 : decode zb_Ja_fill 9 = .ok (.if_icmp .ge 13, 3) := by decide +kernel
theorem zd_Ja_fill_12 : decode zb_Ja_fill 12 = .ok (.aload_n 0, 1) := by decide +kernel
theorem zd_Ja_fill_13 : decode zb_Ja_fill 13 = .ok (.iload_n 3, 1) := by decide +kernel
theorem zd_Ja_fill_14 : decode zb_Ja_fill 14 = .ok (.lload_n 1, 1) := by decide +kernel
theorem zd_Ja_fill_15 : decode zb_Ja_fill 15 = .ok (.lastore, 1) := by decide +kernel
theorem zd_Ja_fill_16 : decode zb_Ja_fill 16 = .ok (.iinc 3 1, 3) := by decide +kernel
theorem zd_Ja_fill_19 : decode zb_Ja_fill 19 = .ok (.goto (-13), 3) := by decide +kernel
theorem zd_Ja_fill_22 : decode zb_Ja_fill 22 = .ok (.return_, 1) := by decide +kernel
theorem zd_Ne_goDeeper_0 : decode zb_Ne_goDeeper 0 = .ok (.aload_n 0, 1) := by decide +kernel
theorem zd_Ne_goDeeper_1 : decode zb_Ne_goDeeper 1 = .ok (.getfield 18, 3) := by decide +kernel
theorem zd_Ne_goDeeper_4 : decode zb_Ne_goDeeper 4 = .ok (.lconst 0, 1) := by decide +kernel
theorem zd_Ne_goDeeper_5 : decode zb_Ne_goDeeper 5 = .ok (.invokestatic 29, 3) := by decide +kernel
theorem zd_Ne_goDeeper_8 : decode zb_Ne_goDeeper 8 = .ok (.iconst 0, 1) := by decide +kernel
theorem zd_Ne_goDeeper_9 : decode zb_Ne_goDeeper 9 = .ok (.istore_n 2, 1) := by decide +kernel
theorem zd_Ne_goDeeper_10 : decode zb_Ne_goDeeper 10 = .ok (.iload_n 2, 1) := by decide +kernel
theorem zd_Ne_goDeeper_11 : decode zb_Ne_goDeeper 11 = .ok (.aload_n 1, 1) := by decide +kernel
theorem zd_Ne_goDeeper_12 : decode zb_Ne_goDeeper 12 = .ok (.getfield 35, 3) := by decide +kernel
theorem zd_Ne_goDeeper_15 : decode zb_Ne_goDeeper 15 = .ok (.if_icmp .ge 41, 3) := by decide +kernel
theorem zd_Ne_goDeeper_18 : decode zb_Ne_goDeeper 18 = .ok (.aload_n 1, 1) := by decide +kernel
theorem zd_Ne_goDeeper_19 : decode zb_Ne_goDeeper 19 = .ok (.getfield 57, 3) := by decide +kernel
theorem zd_Ne_goDeeper_22 : decode zb_Ne_goDeeper 22 = .ok (.iload_n 2, 1) := by decide +kernel
theorem zd_Ne_goDeeper_23 : decode zb_Ne_goDeeper 23 = .ok (.iaload, 1) := by decide +kernel
theorem zd_Ne_goDeeper_24 : decode zb_Ne_goDeeper 24 = .ok (.istore_n 3, 1) := by decide +kernel
theorem zd_Ne_goDeeper_25 : decode zb_Ne_goDeeper 25 = .ok (.iload_n 3, 1) := by decide +kernel
theorem zd_Ne_goDeeper_26 : decode zb_Ne_goDeeper 26 = .ok (.iconst (-1), 1) := by decide +kernel
theorem zd_Ne_goDeeper_27 : decode zb_Ne_goDeeper 27 = .ok (.if_icmp .eq 23, 3) := by decide +kernel
theorem zd_Ne_goDeeper_30 : decode zb_Ne_goDeeper 30 = .ok (.aload_n 0, 1) := by decide +kernel
theorem zd_Ne_goDeeper_31 : decode zb_Ne_goDeeper 31 = .ok (.getfield 18, 3) := by decide +kernel
theorem zd_Ne_goDeeper_34 : decode zb_Ne_goDeeper 34 = .ok (.iload_n 3, 1) := by decide +kernel
theorem zd_Ne_goDeeper_35 : decode zb_Ne_goDeeper 35 = .ok (.dup2, 1) := by decide +kernel
theorem zd_Ne_goDeeper_36 : decode zb_Ne_goDeeper 36 = .ok (.laload, 1) := by decide +kernel
theorem zd_Ne_goDeeper_37 : decode zb_Ne_goDeeper 37 = .ok (.aload_n 0, 1) := by decide +kernel
theorem zd_Ne_goDeeper_38 : decode zb_Ne_goDeeper 38 = .ok (.getfield 15, 3) := by decide +kernel
theorem zd_Ne_goDeeper_41 : decode zb_Ne_goDeeper 41 = .ok (.aload_n 1, 1) := by decide +kernel
theorem zd_Ne_goDeeper_42 : decode zb_Ne_goDeeper 42 = .ok (.getfield 49, 3) := by decide +kernel
theorem zd_Ne_goDeeper_45 : decode zb_Ne_goDeeper 45 = .ok (.iload_n 2, 1) := by decide +kernel
theorem zd_Ne_goDeeper_46 : decode zb_Ne_goDeeper 46 = .ok (.iaload, 1) := by decide +kernel
theorem zd_Ne_goDeeper_47 : decode zb_Ne_goDeeper 47 = .ok (.laload, 1) := by decide +kernel
theorem zd_Ne_goDeeper_48 : decode zb_Ne_goDeeper 48 = .ok (.ladd, 1) := by decide +kernel
theorem zd_Ne_goDeeper_49 : decode zb_Ne_goDeeper 49 = .ok (.lastore, 1) := by decide +kernel
theorem zd_Ne_goDeeper_50 : decode zb_Ne_goDeeper 50 = .ok (.iinc 2 1, 3) := by decide +kernel
theorem zd_Ne_goDeeper_53 : decode zb_Ne_goDeeper 53 = .ok (.goto (-43), 3) := by decide +kernel
theorem zd_Ne_goDeeper_56 : decode zb_Ne_goDeeper 56 = .ok (.iconst 0, 1) := by decide +kernel
theorem zd_Ne_goDeeper_57 : decode zb_Ne_goDeeper 57 = .ok (.istore_n 2, 1) := by decide +kernel
theorem zd_Ne_goDeeper_58 : decode zb_Ne_goDeeper 58 = .ok (.iload_n 2, 1) := by decide +kernel
theorem zd_Ne_goDeeper_59 : decode zb_Ne_goDeeper 59 = .ok (.bipush 8, 2) := by decide +kernel
theorem zd_Ne_goDeeper_61 : decode zb_Ne_goDeeper 61 = .ok (.if_icmp .ge 36, 3) := by decide +kernel
theorem zd_Ne_goDeeper_64 : decode zb_Ne_goDeeper 64 = .ok (.aload_n 0, 1) := by decide +kernel
theorem zd_Ne_goDeeper_65 : decode zb_Ne_goDeeper 65 = .ok (.getfield 15, 3) := by decide +kernel
theorem zd_Ne_goDeeper_68 : decode zb_Ne_goDeeper 68 = .ok (.iload_n 2, 1) := by decide +kernel
theorem zd_Ne_goDeeper_69 : decode zb_Ne_goDeeper 69 = .ok (.aload_n 0, 1) := by decide +kernel
theorem zd_Ne_goDeeper_70 : decode zb_Ne_goDeeper 70 = .ok (.getfield 18, 3) := by decide +kernel
theorem zd_Ne_goDeeper_73 : decode zb_Ne_goDeeper 73 = .ok (.iload_n 2, 1) := by decide +kernel
theorem zd_Ne_goDeeper_74 : decode zb_Ne_goDeeper 74 = .ok (.laload, 1) := by decide +kernel
theorem zd_Ne_goDeeper_75 : decode zb_Ne_goDeeper 75 = .ok (.lastore, 1) := by decide +kernel
theorem zd_Ne_goDeeper_76 : decode zb_Ne_goDeeper 76 = .ok (.aload_n 0, 1) := by decide +kernel
theorem zd_Ne_goDeeper_77 : decode zb_Ne_goDeeper 77 = .ok (.getfield 9, 3) := by decide +kernel
theorem zd_Ne_goDeeper_80 : decode zb_Ne_goDeeper 80 = .ok (.iload_n 2, 1) := by decide +kernel
theorem zd_Ne_goDeeper_81 : decode zb_Ne_goDeeper 81 = .ok (.dup2, 1) := by decide +kernel
theorem zd_Ne_goDeeper_82 : decode zb_Ne_goDeeper 82 = .ok (.laload, 1) := by decide +kernel
theorem zd_Ne_goDeeper_83 : decode zb_Ne_goDeeper 83 = .ok (.aload_n 0, 1) := by decide +kernel
theorem zd_Ne_goDeeper_84 : decode zb_Ne_goDeeper 84 = .ok (.getfield 18, 3) := by decide +kernel
theorem zd_Ne_goDeeper_87 : decode zb_Ne_goDeeper 87 = .ok (.iload_n 2, 1) := by decide +kernel
theorem zd_Ne_goDeeper_88 : decode zb_Ne_goDeeper 88 = .ok (.laload, 1) := by decide +kernel
theorem zd_Ne_goDeeper_89 : decode zb_Ne_goDeeper 89 = .ok (.ladd, 1) := by decide +kernel
theorem zd_Ne_goDeeper_90 : decode zb_Ne_goDeeper 90 = .ok (.lastore, 1) := by decide +kernel
theorem zd_Ne_goDeeper_91 : decode zb_Ne_goDeeper 91 = .ok (.iinc 2 1, 3) := by decide +kernel
theorem zd_Ne_goDeeper_94 : decode zb_Ne_goDeeper 94 = .ok (.goto (-36), 3) := by decide +kernel
theorem zd_Ne_goDeeper_97 : decode zb_Ne_goDeeper 97 = .ok (.return_, 1) := by decide +kernel
theorem zd_Ne_countWithin_0 : decode zb_Ne_countWithin 0 = .ok (.aload_n 0, 1) := by decide +kernel
theorem zd_Ne_countWithin_1 : decode zb_Ne_countWithin 1 = .ok (.getfield 9, 3) := by decide +kernel
theorem zd_Ne_countWithin_4 : decode zb_Ne_countWithin 4 = .ok (.lconst 0, 1) := by decide +kernel
theorem zd_Ne_countWithin_5 : decode zb_Ne_countWithin 5 = .ok (.invokestatic 29, 3) := by decide +kernel
theorem zd_Ne_countWithin_8 : decode zb_Ne_countWithin 8 = .ok (.aload_n 0, 1) := by decide +kernel
theorem zd_Ne_countWithin_9 : decode zb_Ne_countWithin 9 = .ok (.getfield 15, 3) := by decide +kernel
theorem zd_Ne_countWithin_12 : decode zb_Ne_countWithin 12 = .ok (.lconst 0, 1) := by decide +kernel
theorem zd_Ne_countWithin_13 : decode zb_Ne_countWithin 13 = .ok (.invokestatic 29, 3) := by decide +kernel
theorem zd_Ne_countWithin_16 : decode zb_Ne_countWithin 16 = .ok (.aload_n 0, 1) := by decide +kernel
theorem zd_Ne_countWithin_17 : decode zb_Ne_countWithin 17 = .ok (.getfield 9, 3) := by decide +kernel
theorem zd_Ne_countWithin_20 : decode zb_Ne_countWithin 20 = .ok (.iload_n 2, 1) := by decide +kernel
theorem zd_Ne_countWithin_21 : decode zb_Ne_countWithin 21 = .ok (.lconst 1, 1) := by decide +kernel
theorem zd_Ne_countWithin_22 : decode zb_Ne_countWithin 22 = .ok (.lastore, 1) := by decide +kernel
theorem zd_Ne_countWithin_23 : decode zb_Ne_countWithin 23 = .ok (.aload_n 0, 1) := by decide +kernel
theorem zd_Ne_countWithin_24 : decode zb_Ne_countWithin 24 = .ok (.getfield 15, 3) := by decide +kernel
theorem zd_Ne_countWithin_27 : decode zb_Ne_countWithin 27 = .ok (.iload_n 2, 1) := by decide +kernel
theorem zd_Ne_countWithin_28 : decode zb_Ne_countWithin 28 = .ok (.lconst 1, 1) := by decide +kernel
theorem zd_Ne_countWithin_29 : decode zb_Ne_countWithin 29 = .ok (.lastore, 1) := by decide +kernel
theorem zd_Ne_countWithin_30 : decode zb_Ne_countWithin 30 = .ok (.iconst 1, 1) := by decide +kernel
theorem zd_Ne_countWithin_31 : decode zb_Ne_countWithin 31 = .ok (.istore_n 3, 1) := by decide +kernel
theorem zd_Ne_countWithin_32 : decode zb_Ne_countWithin 32 = .ok (.iload_n 3, 1) := by decide +kernel
theorem zd_Ne_countWithin_33 : decode zb_Ne_countWithin 33 = .ok (.bipush 8, 2) := by decide +kernel
theorem zd_Ne_countWithin_35 : decode zb_Ne_countWithin 35 = .ok (.if_icmp .ge 14, 3) := by decide +kernel
theorem zd_Ne_countWithin_38 : decode zb_Ne_countWithin 38 = .ok (.aload_n 0, 1) := by decide +kernel
theorem zd_Ne_countWithin_39 : decode zb_Ne_countWithin 39 = .ok (.aload_n 1, 1) := by decide +kernel
theorem zd_Ne_countWithin_40 : decode zb_Ne_countWithin 40 = .ok (.invokevirtual 53, 3) := by decide +kernel
theorem zd_Ne_countWithin_43 : decode zb_Ne_countWithin 43 = .ok (.iinc 3 1, 3) := by decide +kernel
theorem zd_Ne_countWithin_46 : decode zb_Ne_countWithin 46 = .ok (.goto (-14), 3) := by decide +kernel
theorem zd_Ne_countWithin_49 : decode zb_Ne_countWithin 49 = .ok (.return_, 1) := by decide +kernel
theorem zd_Ne_holds_0 : decode zb_Ne_holds 0 = .ok (.aload_n 0, 1) := by decide +kernel
theorem zd_Ne_holds_1 : decode zb_Ne_holds 1 = .ok (.aload_n 1, 1) := by decide +kernel
theorem zd_Ne_holds_2 : decode zb_Ne_holds 2 = .ok (.iload_n 2, 1) := by decide +kernel
theorem zd_Ne_holds_3 : decode zb_Ne_holds 3 = .ok (.invokevirtual 21, 3) := by decide +kernel
theorem zd_Ne_holds_6 : decode zb_Ne_holds 6 = .ok (.aload_n 0, 1) := by decide +kernel
theorem zd_Ne_holds_7 : decode zb_Ne_holds 7 = .ok (.getfield 9, 3) := by decide +kernel
theorem zd_Ne_holds_10 : decode zb_Ne_holds 10 = .ok (.iload_n 3, 1) := by decide +kernel
theorem zd_Ne_holds_11 : decode zb_Ne_holds 11 = .ok (.laload, 1) := by decide +kernel
theorem zd_Ne_holds_12 : decode zb_Ne_holds 12 = .ok (.lconst 0, 1) := by decide +kernel
theorem zd_Ne_holds_13 : decode zb_Ne_holds 13 = .ok (.lcmp, 1) := by decide +kernel
theorem zd_Ne_holds_14 : decode zb_Ne_holds 14 = .ok (.ifCond .le 7, 3) := by decide +kernel
theorem zd_Ne_holds_17 : decode zb_Ne_holds 17 = .ok (.iconst 1, 1) := by decide +kernel
theorem zd_Ne_holds_18 : decode zb_Ne_holds 18 = .ok (.goto 4, 3) := by decide +kernel
theorem zd_Ne_holds_21 : decode zb_Ne_holds 21 = .ok (.iconst 0, 1) := by decide +kernel
theorem zd_Ne_holds_22 : decode zb_Ne_holds 22 = .ok (.ireturn, 1) := by decide +kernel
theorem zd_MP_into_0 : decode zb_MP_into 0 = .ok (.aload_n 0, 1) := by decide +kernel
theorem zd_MP_into_1 : decode zb_MP_into 1 = .ok (.getfield 20, 3) := by decide +kernel
theorem zd_MP_into_4 : decode zb_MP_into 4 = .ok (.iload_n 1, 1) := by decide +kernel
theorem zd_MP_into_5 : decode zb_MP_into 5 = .ok (.invokevirtual 65, 3) := by decide +kernel
theorem zd_MP_into_8 : decode zb_MP_into 8 = .ok (.ifCond .eq 24, 3) := by decide +kernel
theorem zd_MP_into_11 : decode zb_MP_into 11 = .ok (.aload_n 0, 1) := by decide +kernel
theorem zd_MP_into_12 : decode zb_MP_into 12 = .ok (.iload_n 2, 1) := by decide +kernel
theorem zd_MP_into_13 : decode zb_MP_into 13 = .ok (.invokevirtual 50, 3) := by decide +kernel
theorem zd_MP_into_16 : decode zb_MP_into 16 = .ok (.ifCond .eq 16, 3) := by decide +kernel
theorem zd_MP_into_19 : decode zb_MP_into 19 = .ok (.aload_n 0, 1) := by decide +kernel
theorem zd_MP_into_20 : decode zb_MP_into 20 = .ok (.getfield 20, 3) := by decide +kernel
theorem zd_MP_into_23 : decode zb_MP_into 23 = .ok (.getfield 68, 3) := by decide +kernel
theorem zd_MP_into_26 : decode zb_MP_into 26 = .ok (.iload_n 1, 1) := by decide +kernel
theorem zd_MP_into_27 : decode zb_MP_into 27 = .ok (.iaload, 1) := by decide +kernel
theorem zd_MP_into_28 : decode zb_MP_into 28 = .ok (.iconst (-1), 1) := by decide +kernel
theorem zd_MP_into_29 : decode zb_MP_into 29 = .ok (.if_icmp .eq 5, 3) := by decide +kernel
theorem zd_MP_into_32 : decode zb_MP_into 32 = .ok (.iconst 0, 1) := by decide +kernel
theorem zd_MP_into_33 : decode zb_MP_into 33 = .ok (.ireturn, 1) := by decide +kernel
theorem zd_MP_into_34 : decode zb_MP_into 34 = .ok (.aload_n 0, 1) := by decide +kernel
theorem zd_MP_into_35 : decode zb_MP_into 35 = .ok (.getfield 20, 3) := by decide +kernel
theorem zd_MP_into_38 : decode zb_MP_into 38 = .ok (.getfield 71, 3) := by decide +kernel
theorem zd_MP_into_41 : decode zb_MP_into 41 = .ok (.iload_n 1, 1) := by decide +kernel
theorem zd_MP_into_42 : decode zb_MP_into 42 = .ok (.iaload, 1) := by decide +kernel
theorem zd_MP_into_43 : decode zb_MP_into 43 = .ok (.istore_n 3, 1) := by decide +kernel
theorem zd_MP_into_44 : decode zb_MP_into 44 = .ok (.aload_n 0, 1) := by decide +kernel
theorem zd_MP_into_45 : decode zb_MP_into 45 = .ok (.getfield 27, 3) := by decide +kernel
theorem zd_MP_into_48 : decode zb_MP_into 48 = .ok (.aload_n 0, 1) := by decide +kernel
theorem zd_MP_into_49 : decode zb_MP_into 49 = .ok (.getfield 20, 3) := by decide +kernel
theorem zd_MP_into_52 : decode zb_MP_into 52 = .ok (.iload_n 2, 1) := by decide +kernel
theorem zd_MP_into_53 : decode zb_MP_into 53 = .ok (.iload_n 3, 1) := by decide +kernel
theorem zd_MP_into_54 : decode zb_MP_into 54 = .ok (.invokevirtual 74, 3) := by decide +kernel
theorem zd_MP_into_57 : decode zb_MP_into 57 = .ok (.ifCond .eq 5, 3) := by decide +kernel
theorem zd_MP_into_60 : decode zb_MP_into 60 = .ok (.iconst 0, 1) := by decide +kernel
theorem zd_MP_into_61 : decode zb_MP_into 61 = .ok (.ireturn, 1) := by decide +kernel
theorem zd_MP_into_62 : decode zb_MP_into 62 = .ok (.aload_n 0, 1) := by decide +kernel
theorem zd_MP_into_63 : decode zb_MP_into 63 = .ok (.getfield 20, 3) := by decide +kernel
theorem zd_MP_into_66 : decode zb_MP_into 66 = .ok (.getfield 68, 3) := by decide +kernel
theorem zd_MP_into_69 : decode zb_MP_into 69 = .ok (.iload_n 1, 1) := by decide +kernel
theorem zd_MP_into_70 : decode zb_MP_into 70 = .ok (.iload_n 2, 1) := by decide +kernel
theorem zd_MP_into_71 : decode zb_MP_into 71 = .ok (.iastore, 1) := by decide +kernel
theorem zd_MP_into_72 : decode zb_MP_into 72 = .ok (.aload_n 0, 1) := by decide +kernel
theorem zd_MP_into_73 : decode zb_MP_into 73 = .ok (.getfield 9, 3) := by decide +kernel
theorem zd_MP_into_76 : decode zb_MP_into 76 = .ok (.iload_n 3, 1) := by decide +kernel
theorem zd_MP_into_77 : decode zb_MP_into 77 = .ok (.dup2, 1) := by decide +kernel
theorem zd_MP_into_78 : decode zb_MP_into 78 = .ok (.iaload, 1) := by decide +kernel
theorem zd_MP_into_79 : decode zb_MP_into 79 = .ok (.iconst 1, 1) := by decide +kernel
theorem zd_MP_into_80 : decode zb_MP_into 80 = .ok (.iadd, 1) := by decide +kernel
theorem zd_MP_into_81 : decode zb_MP_into 81 = .ok (.iastore, 1) := by decide +kernel
theorem zd_MP_into_82 : decode zb_MP_into 82 = .ok (.iconst 1, 1) := by decide +kernel
theorem zd_MP_into_83 : decode zb_MP_into 83 = .ok (.ireturn, 1) := by decide +kernel
theorem zd_MP_life_0 : decode zb_MP_life 0 = .ok (.aload_n 0, 1) := by decide +kernel
theorem zd_MP_life_1 : decode zb_MP_life 1 = .ok (.getfield 20, 3) := by decide +kernel
theorem zd_MP_life_4 : decode zb_MP_life 4 = .ok (.iload_n 1, 1) := by decide +kernel
theorem zd_MP_life_5 : decode zb_MP_life 5 = .ok (.invokevirtual 65, 3) := by decide +kernel
theorem zd_MP_life_8 : decode zb_MP_life 8 = .ok (.ifCond .eq 10, 3) := by decide +kernel
theorem zd_MP_life_11 : decode zb_MP_life 11 = .ok (.iload_n 2, 1) := by decide +kernel
theorem zd_MP_life_12 : decode zb_MP_life 12 = .ok (.invokestatic 58, 3) := by decide +kernel
theorem zd_MP_life_15 : decode zb_MP_life 15 = .ok (.ifCond .ne 5, 3) := by decide +kernel
theorem zd_MP_life_18 : decode zb_MP_life 18 = .ok (.iconst 0, 1) := by decide +kernel
theorem zd_MP_life_19 : decode zb_MP_life 19 = .ok (.ireturn, 1) := by decide +kernel
theorem zd_MP_life_20 : decode zb_MP_life 20 = .ok (.aload_n 0, 1) := by decide +kernel
theorem zd_MP_life_21 : decode zb_MP_life 21 = .ok (.getfield 20, 3) := by decide +kernel
theorem zd_MP_life_24 : decode zb_MP_life 24 = .ok (.getfield 78, 3) := by decide +kernel
theorem zd_MP_life_27 : decode zb_MP_life 27 = .ok (.iload_n 1, 1) := by decide +kernel
theorem zd_MP_life_28 : decode zb_MP_life 28 = .ok (.iload_n 2, 1) := by decide +kernel
theorem zd_MP_life_29 : decode zb_MP_life 29 = .ok (.iastore, 1) := by decide +kernel
theorem zd_MP_life_30 : decode zb_MP_life 30 = .ok (.aload_n 0, 1) := by decide +kernel
theorem zd_MP_life_31 : decode zb_MP_life 31 = .ok (.getfield 9, 3) := by decide +kernel
theorem zd_MP_life_34 : decode zb_MP_life 34 = .ok (.aload_n 0, 1) := by decide +kernel
theorem zd_MP_life_35 : decode zb_MP_life 35 = .ok (.getfield 20, 3) := by decide +kernel
theorem zd_MP_life_38 : decode zb_MP_life 38 = .ok (.getfield 71, 3) := by decide +kernel
theorem zd_MP_life_41 : decode zb_MP_life 41 = .ok (.iload_n 1, 1) := by decide +kernel
theorem zd_MP_life_42 : decode zb_MP_life 42 = .ok (.iaload, 1) := by decide +kernel
theorem zd_MP_life_43 : decode zb_MP_life 43 = .ok (.dup2, 1) := by decide +kernel
theorem zd_MP_life_44 : decode zb_MP_life 44 = .ok (.iaload, 1) := by decide +kernel
theorem zd_MP_life_45 : decode zb_MP_life 45 = .ok (.iconst 1, 1) := by decide +kernel
theorem zd_MP_life_46 : decode zb_MP_life 46 = .ok (.iadd, 1) := by decide +kernel
theorem zd_MP_life_47 : decode zb_MP_life 47 = .ok (.iastore, 1) := by decide +kernel
theorem zd_MP_life_48 : decode zb_MP_life 48 = .ok (.iconst 1, 1) := by decide +kernel
theorem zd_MP_life_49 : decode zb_MP_life 49 = .ok (.ireturn, 1) := by decide +kernel
theorem zd_Ch_isFull_0 : decode zb_Ch_isFull 0 = .ok (.aload_n 0, 1) := by decide +kernel
theorem zd_Ch_isFull_1 : decode zb_Ch_isFull 1 = .ok (.getfield 25, 3) := by decide +kernel
theorem zd_Ch_isFull_4 : decode zb_Ch_isFull 4 = .ok (.bipush 20, 2) := by decide +kernel
theorem zd_Ch_isFull_6 : decode zb_Ch_isFull 6 = .ok (.if_icmp .lt 7, 3) := by decide +kernel
theorem zd_Ch_isFull_9 : decode zb_Ch_isFull 9 = .ok (.iconst 1, 1) := by decide +kernel
theorem zd_Ch_isFull_10 : decode zb_Ch_isFull 10 = .ok (.goto 4, 3) := by decide +kernel
theorem zd_Ch_isFull_13 : decode zb_Ch_isFull 13 = .ok (.iconst 0, 1) := by decide +kernel
theorem zd_Ch_isFull_14 : decode zb_Ch_isFull 14 = .ok (.ireturn, 1) := by decide +kernel
theorem zd_MP_isDay_0 : decode zb_MP_isDay 0 = .ok (.lload_n 0, 1) := by decide +kernel
theorem zd_MP_isDay_1 : decode zb_MP_isDay 1 = .ok (.lconst 0, 1) := by decide +kernel
theorem zd_MP_isDay_2 : decode zb_MP_isDay 2 = .ok (.lcmp, 1) := by decide +kernel
theorem zd_MP_isDay_3 : decode zb_MP_isDay 3 = .ok (.ifCond .lt 15, 3) := by decide +kernel
theorem zd_MP_isDay_6 : decode zb_MP_isDay 6 = .ok (.lload_n 0, 1) := by decide +kernel
theorem zd_MP_isDay_7 : decode zb_MP_isDay 7 = .ok (.ldc2_w 95, 3) := by decide +kernel
theorem zd_MP_isDay_10 : decode zb_MP_isDay 10 = .ok (.lcmp, 1) := by decide +kernel
theorem zd_MP_isDay_11 : decode zb_MP_isDay 11 = .ok (.ifCond .gt 7, 3) := by decide +kernel
theorem zd_MP_isDay_14 : decode zb_MP_isDay 14 = .ok (.iconst 1, 1) := by decide +kernel
theorem zd_MP_isDay_15 : decode zb_MP_isDay 15 = .ok (.goto 4, 3) := by decide +kernel
theorem zd_MP_isDay_18 : decode zb_MP_isDay 18 = .ok (.iconst 0, 1) := by decide +kernel
theorem zd_MP_isDay_19 : decode zb_MP_isDay 19 = .ok (.ireturn, 1) := by decide +kernel
theorem zd_Ch_add_0 : decode zb_Ch_add 0 = .ok (.aload_n 0, 1) := by decide +kernel
theorem zd_Ch_add_1 : decode zb_Ch_add 1 = .ok (.invokevirtual 29, 3) := by decide +kernel
theorem zd_Ch_add_4 : decode zb_Ch_add 4 = .ok (.ifCond .eq 4, 3) := by decide +kernel
theorem zd_Ch_add_7 : decode zb_Ch_add 7 = .ok (.return_, 1) := by decide +kernel
theorem zd_Ch_add_8 : decode zb_Ch_add 8 = .ok (.aload_n 0, 1) := by decide +kernel
theorem zd_Ch_add_9 : decode zb_Ch_add 9 = .ok (.getfield 9, 3) := by decide +kernel
theorem zd_Ch_add_12 : decode zb_Ch_add 12 = .ok (.aload_n 0, 1) := by decide +kernel
theorem zd_Ch_add_13 : decode zb_Ch_add 13 = .ok (.getfield 25, 3) := by decide +kernel
theorem zd_Ch_add_16 : decode zb_Ch_add 16 = .ok (.iload_n 1, 1) := by decide +kernel
theorem zd_Ch_add_17 : decode zb_Ch_add 17 = .ok (.iastore, 1) := by decide +kernel
theorem zd_Ch_add_18 : decode zb_Ch_add 18 = .ok (.aload_n 0, 1) := by decide +kernel
theorem zd_Ch_add_19 : decode zb_Ch_add 19 = .ok (.getfield 15, 3) := by decide +kernel
theorem zd_Ch_add_22 : decode zb_Ch_add 22 = .ok (.aload_n 0, 1) := by decide +kernel
theorem zd_Ch_add_23 : decode zb_Ch_add 23 = .ok (.getfield 25, 3) := by decide +kernel
theorem zd_Ch_add_26 : decode zb_Ch_add 26 = .ok (.lload_n 2, 1) := by decide +kernel
theorem zd_Ch_add_27 : decode zb_Ch_add 27 = .ok (.lastore, 1) := by decide +kernel
theorem zd_Ch_add_28 : decode zb_Ch_add 28 = .ok (.aload_n 0, 1) := by decide +kernel
theorem zd_Ch_add_29 : decode zb_Ch_add 29 = .ok (.getfield 19, 3) := by decide +kernel
theorem zd_Ch_add_32 : decode zb_Ch_add 32 = .ok (.aload_n 0, 1) := by decide +kernel
theorem zd_Ch_add_33 : decode zb_Ch_add 33 = .ok (.getfield 25, 3) := by decide +kernel
theorem zd_Ch_add_36 : decode zb_Ch_add 36 = .ok (.iload 4, 2) := by decide +kernel
theorem zd_Ch_add_38 : decode zb_Ch_add 38 = .ok (.iastore, 1) := by decide +kernel
theorem zd_Ch_add_39 : decode zb_Ch_add 39 = .ok (.aload_n 0, 1) := by decide +kernel
theorem zd_Ch_add_40 : decode zb_Ch_add 40 = .ok (.getfield 22, 3) := by decide +kernel
theorem zd_Ch_add_43 : decode zb_Ch_add 43 = .ok (.aload_n 0, 1) := by decide +kernel
theorem zd_Ch_add_44 : decode zb_Ch_add 44 = .ok (.getfield 25, 3) := by decide +kernel
theorem zd_Ch_add_47 : decode zb_Ch_add 47 = .ok (.lload 5, 2) := by decide +kernel
theorem zd_Ch_add_49 : decode zb_Ch_add 49 = .ok (.lastore, 1) := by decide +kernel
theorem zd_Ch_add_50 : decode zb_Ch_add 50 = .ok (.aload_n 0, 1) := by decide +kernel
theorem zd_Ch_add_51 : decode zb_Ch_add 51 = .ok (.dup, 1) := by decide +kernel
theorem zd_Ch_add_52 : decode zb_Ch_add 52 = .ok (.getfield 25, 3) := by decide +kernel
theorem zd_Ch_add_55 : decode zb_Ch_add 55 = .ok (.iconst 1, 1) := by decide +kernel
theorem zd_Ch_add_56 : decode zb_Ch_add 56 = .ok (.iadd, 1) := by decide +kernel
theorem zd_Ch_add_57 : decode zb_Ch_add 57 = .ok (.putfield 25, 3) := by decide +kernel
theorem zd_Ch_add_60 : decode zb_Ch_add 60 = .ok (.return_, 1) := by decide +kernel
theorem zd_MP_change_0 : decode zb_MP_change 0 = .ok (.aload_n 0, 1) := by decide +kernel
theorem zd_MP_change_1 : decode zb_MP_change 1 = .ok (.getfield 20, 3) := by decide +kernel
theorem zd_MP_change_4 : decode zb_MP_change 4 = .ok (.getfield 81, 3) := by decide +kernel
theorem zd_MP_change_7 : decode zb_MP_change 7 = .ok (.invokevirtual 85, 3) := by decide +kernel
theorem zd_MP_change_10 : decode zb_MP_change 10 = .ok (.ifCond .ne 31, 3) := by decide +kernel
theorem zd_MP_change_13 : decode zb_MP_change 13 = .ok (.aload_n 0, 1) := by decide +kernel
theorem zd_MP_change_14 : decode zb_MP_change 14 = .ok (.getfield 20, 3) := by decide +kernel
theorem zd_MP_change_17 : decode zb_MP_change 17 = .ok (.iload_n 1, 1) := by decide +kernel
theorem zd_MP_change_18 : decode zb_MP_change 18 = .ok (.invokevirtual 65, 3) := by decide +kernel
theorem zd_MP_change_21 : decode zb_MP_change 21 = .ok (.ifCond .eq 20, 3) := by decide +kernel
theorem zd_MP_change_24 : decode zb_MP_change 24 = .ok (.lload_n 2, 1) := by decide +kernel
theorem zd_MP_change_25 : decode zb_MP_change 25 = .ok (.invokestatic 88, 3) := by decide +kernel
theorem zd_MP_change_28 : decode zb_MP_change 28 = .ok (.ifCond .eq 13, 3) := by decide +kernel
theorem zd_MP_change_31 : decode zb_MP_change 31 = .ok (.iload 4, 2) := by decide +kernel
theorem zd_MP_change_33 : decode zb_MP_change 33 = .ok (.lload 5, 2) := by decide +kernel
theorem zd_MP_change_35 : decode zb_MP_change 35 = .ok (.invokestatic 54, 3) := by decide +kernel
theorem zd_MP_change_38 : decode zb_MP_change 38 = .ok (.ifCond .ne 5, 3) := by decide +kernel
theorem zd_MP_change_41 : decode zb_MP_change 41 = .ok (.iconst 0, 1) := by decide +kernel
theorem zd_MP_change_42 : decode zb_MP_change 42 = .ok (.ireturn, 1) := by decide +kernel
theorem zd_MP_change_43 : decode zb_MP_change 43 = .ok (.aload_n 0, 1) := by decide +kernel
theorem zd_MP_change_44 : decode zb_MP_change 44 = .ok (.getfield 20, 3) := by decide +kernel
theorem zd_MP_change_47 : decode zb_MP_change 47 = .ok (.getfield 81, 3) := by decide +kernel
theorem zd_MP_change_50 : decode zb_MP_change 50 = .ok (.iload_n 1, 1) := by decide +kernel
theorem zd_MP_change_51 : decode zb_MP_change 51 = .ok (.lload_n 2, 1) := by decide +kernel
theorem zd_MP_change_52 : decode zb_MP_change 52 = .ok (.iload 4, 2) := by decide +kernel
theorem zd_MP_change_54 : decode zb_MP_change 54 = .ok (.lload 5, 2) := by decide +kernel
theorem zd_MP_change_56 : decode zb_MP_change 56 = .ok (.invokevirtual 92, 3) := by decide +kernel
theorem zd_MP_change_59 : decode zb_MP_change 59 = .ok (.aload_n 0, 1) := by decide +kernel
theorem zd_MP_change_60 : decode zb_MP_change 60 = .ok (.getfield 9, 3) := by decide +kernel
theorem zd_MP_change_63 : decode zb_MP_change 63 = .ok (.aload_n 0, 1) := by decide +kernel
theorem zd_MP_change_64 : decode zb_MP_change 64 = .ok (.getfield 20, 3) := by decide +kernel
theorem zd_MP_change_67 : decode zb_MP_change 67 = .ok (.getfield 71, 3) := by decide +kernel
theorem zd_MP_change_70 : decode zb_MP_change 70 = .ok (.iload_n 1, 1) := by decide +kernel
theorem zd_MP_change_71 : decode zb_MP_change 71 = .ok (.iaload, 1) := by decide +kernel
theorem zd_MP_change_72 : decode zb_MP_change 72 = .ok (.dup2, 1) := by decide +kernel
theorem zd_MP_change_73 : decode zb_MP_change 73 = .ok (.iaload, 1) := by decide +kernel
theorem zd_MP_change_74 : decode zb_MP_change 74 = .ok (.iconst 1, 1) := by decide +kernel
theorem zd_MP_change_75 : decode zb_MP_change 75 = .ok (.iadd, 1) := by decide +kernel
theorem zd_MP_change_76 : decode zb_MP_change 76 = .ok (.iastore, 1) := by decide +kernel
theorem zd_MP_change_77 : decode zb_MP_change 77 = .ok (.iconst 1, 1) := by decide +kernel
theorem zd_MP_change_78 : decode zb_MP_change 78 = .ok (.ireturn, 1) := by decide +kernel
theorem zd_Ch_countingOn_0 : decode zb_Ch_countingOn 0 = .ok (.iconst (-1), 1) := by decide +kernel
theorem zd_Ch_countingOn_1 : decode zb_Ch_countingOn 1 = .ok (.istore 4, 2) := by decide +kernel
theorem zd_Ch_countingOn_3 : decode zb_Ch_countingOn 3 = .ok (.iconst 0, 1) := by decide +kernel
theorem zd_Ch_countingOn_4 : decode zb_Ch_countingOn 4 = .ok (.istore 5, 2) := by decide +kernel
theorem zd_Ch_countingOn_6 : decode zb_Ch_countingOn 6 = .ok (.iload 5, 2) := by decide +kernel
theorem zd_Ch_countingOn_8 : decode zb_Ch_countingOn 8 = .ok (.aload_n 0, 1) := by decide +kernel
theorem zd_Ch_countingOn_9 : decode zb_Ch_countingOn 9 = .ok (.getfield 25, 3) := by decide +kernel
theorem zd_Ch_countingOn_12 : decode zb_Ch_countingOn 12 = .ok (.if_icmp .ge 60, 3) := by decide +kernel
theorem zd_Ch_countingOn_15 : decode zb_Ch_countingOn 15 = .ok (.aload_n 0, 1) := by decide +kernel
theorem zd_Ch_countingOn_16 : decode zb_Ch_countingOn 16 = .ok (.getfield 9, 3) := by decide +kernel
theorem zd_Ch_countingOn_19 : decode zb_Ch_countingOn 19 = .ok (.iload 5, 2) := by decide +kernel
theorem zd_Ch_countingOn_21 : decode zb_Ch_countingOn 21 = .ok (.iaload, 1) := by decide +kernel
theorem zd_Ch_countingOn_22 : decode zb_Ch_countingOn 22 = .ok (.iload_n 1, 1) := by decide +kernel
theorem zd_Ch_countingOn_23 : decode zb_Ch_countingOn 23 = .ok (.if_icmp .ne 43, 3) := by decide +kernel
theorem zd_Ch_countingOn_26 : decode zb_Ch_countingOn 26 = .ok (.aload_n 0, 1) := by decide +kernel
theorem zd_Ch_countingOn_27 : decode zb_Ch_countingOn 27 = .ok (.getfield 15, 3) := by decide +kernel
theorem zd_Ch_countingOn_30 : decode zb_Ch_countingOn 30 = .ok (.iload 5, 2) := by decide +kernel
theorem zd_Ch_countingOn_32 : decode zb_Ch_countingOn 32 = .ok (.laload, 1) := by decide +kernel
theorem zd_Ch_countingOn_33 : decode zb_Ch_countingOn 33 = .ok (.lload_n 2, 1) := by decide +kernel
theorem zd_Ch_countingOn_34 : decode zb_Ch_countingOn 34 = .ok (.lcmp, 1) := by decide +kernel
theorem zd_Ch_countingOn_35 : decode zb_Ch_countingOn 35 = .ok (.ifCond .gt 31, 3) := by decide +kernel
theorem zd_Ch_countingOn_38 : decode zb_Ch_countingOn 38 = .ok (.iload 4, 2) := by decide +kernel
theorem zd_Ch_countingOn_40 : decode zb_Ch_countingOn 40 = .ok (.iconst (-1), 1) := by decide +kernel
theorem zd_Ch_countingOn_41 : decode zb_Ch_countingOn 41 = .ok (.if_icmp .eq 21, 3) := by decide +kernel
theorem zd_Ch_countingOn_44 : decode zb_Ch_countingOn 44 = .ok (.aload_n 0, 1) := by decide +kernel
theorem zd_Ch_countingOn_45 : decode zb_Ch_countingOn 45 = .ok (.getfield 15, 3) := by decide +kernel
theorem zd_Ch_countingOn_48 : decode zb_Ch_countingOn 48 = .ok (.iload 5, 2) := by decide +kernel
theorem zd_Ch_countingOn_50 : decode zb_Ch_countingOn 50 = .ok (.laload, 1) := by decide +kernel
theorem zd_Ch_countingOn_51 : decode zb_Ch_countingOn 51 = .ok (.aload_n 0, 1) := by decide +kernel
theorem zd_Ch_countingOn_52 : decode zb_Ch_countingOn 52 = .ok (.getfield 15, 3) := by decide +kernel
theorem zd_Ch_countingOn_55 : decode zb_Ch_countingOn 55 = .ok (.iload 4, 2) := by decide +kernel
theorem zd_Ch_countingOn_57 : decode zb_Ch_countingOn 57 = .ok (.laload, 1) := by decide +kernel
theorem zd_Ch_countingOn_58 : decode zb_Ch_countingOn 58 = .ok (.lcmp, 1) := by decide +kernel
theorem zd_Ch_countingOn_59 : decode zb_Ch_countingOn 59 = .ok (.ifCond .lt 7, 3) := by decide +kernel
theorem zd_Ch_countingOn_62 : decode zb_Ch_countingOn 62 = .ok (.iload 5, 2) := by decide +kernel
theorem zd_Ch_countingOn_64 : decode zb_Ch_countingOn 64 = .ok (.istore 4, 2) := by decide +kernel
theorem zd_Ch_countingOn_66 : decode zb_Ch_countingOn 66 = .ok (.iinc 5 1, 3) := by decide +kernel
theorem zd_Ch_countingOn_69 : decode zb_Ch_countingOn 69 = .ok (.goto (-63), 3) := by decide +kernel
theorem zd_Ch_countingOn_72 : decode zb_Ch_countingOn 72 = .ok (.iload 4, 2) := by decide +kernel
theorem zd_Ch_countingOn_74 : decode zb_Ch_countingOn 74 = .ok (.ireturn, 1) := by decide +kernel
theorem zd_Pa_gramsOn_0 : decode zb_Pa_gramsOn 0 = .ok (.aload_n 0, 1) := by decide +kernel
theorem zd_Pa_gramsOn_1 : decode zb_Pa_gramsOn 1 = .ok (.getfield 31, 3) := by decide +kernel
theorem zd_Pa_gramsOn_4 : decode zb_Pa_gramsOn 4 = .ok (.iload_n 1, 1) := by decide +kernel
theorem zd_Pa_gramsOn_5 : decode zb_Pa_gramsOn 5 = .ok (.lload_n 2, 1) := by decide +kernel
theorem zd_Pa_gramsOn_6 : decode zb_Pa_gramsOn 6 = .ok (.invokevirtual 43, 3) := by decide +kernel
theorem zd_Pa_gramsOn_9 : decode zb_Pa_gramsOn 9 = .ok (.istore 4, 2) := by decide +kernel
theorem zd_Pa_gramsOn_11 : decode zb_Pa_gramsOn 11 = .ok (.iload 4, 2) := by decide +kernel
theorem zd_Pa_gramsOn_13 : decode zb_Pa_gramsOn 13 = .ok (.iconst (-1), 1) := by decide +kernel
theorem zd_Pa_gramsOn_14 : decode zb_Pa_gramsOn 14 = .ok (.if_icmp .ne 12, 3) := by decide +kernel
theorem zd_Pa_gramsOn_17 : decode zb_Pa_gramsOn 17 = .ok (.aload_n 0, 1) := by decide +kernel
theorem zd_Pa_gramsOn_18 : decode zb_Pa_gramsOn 18 = .ok (.getfield 18, 3) := by decide +kernel
theorem zd_Pa_gramsOn_21 : decode zb_Pa_gramsOn 21 = .ok (.iload_n 1, 1) := by decide +kernel
theorem zd_Pa_gramsOn_22 : decode zb_Pa_gramsOn 22 = .ok (.laload, 1) := by decide +kernel
theorem zd_Pa_gramsOn_23 : decode zb_Pa_gramsOn 23 = .ok (.goto 13, 3) := by decide +kernel
theorem zd_Pa_gramsOn_26 : decode zb_Pa_gramsOn 26 = .ok (.aload_n 0, 1) := by decide +kernel
theorem zd_Pa_gramsOn_27 : decode zb_Pa_gramsOn 27 = .ok (.getfield 31, 3) := by decide +kernel
theorem zd_Pa_gramsOn_30 : decode zb_Pa_gramsOn 30 = .ok (.getfield 48, 3) := by decide +kernel
theorem zd_Pa_gramsOn_33 : decode zb_Pa_gramsOn 33 = .ok (.iload 4, 2) := by decide +kernel
theorem zd_Pa_gramsOn_35 : decode zb_Pa_gramsOn 35 = .ok (.laload, 1) := by decide +kernel
theorem zd_Pa_gramsOn_36 : decode zb_Pa_gramsOn 36 = .ok (.lreturn, 1) := by decide +kernel
theorem zd_Pa_kindOn_0 : decode zb_Pa_kindOn 0 = .ok (.aload_n 0, 1) := by decide +kernel
theorem zd_Pa_kindOn_1 : decode zb_Pa_kindOn 1 = .ok (.getfield 31, 3) := by decide +kernel
theorem zd_Pa_kindOn_4 : decode zb_Pa_kindOn 4 = .ok (.iload_n 1, 1) := by decide +kernel
theorem zd_Pa_kindOn_5 : decode zb_Pa_kindOn 5 = .ok (.lload_n 2, 1) := by decide +kernel
theorem zd_Pa_kindOn_6 : decode zb_Pa_kindOn 6 = .ok (.invokevirtual 43, 3) := by decide +kernel
theorem zd_Pa_kindOn_9 : decode zb_Pa_kindOn 9 = .ok (.istore 4, 2) := by decide +kernel
theorem zd_Pa_kindOn_11 : decode zb_Pa_kindOn 11 = .ok (.iload 4, 2) := by decide +kernel
theorem zd_Pa_kindOn_13 : decode zb_Pa_kindOn 13 = .ok (.iconst (-1), 1) := by decide +kernel
theorem zd_Pa_kindOn_14 : decode zb_Pa_kindOn 14 = .ok (.if_icmp .ne 12, 3) := by decide +kernel
theorem zd_Pa_kindOn_17 : decode zb_Pa_kindOn 17 = .ok (.aload_n 0, 1) := by decide +kernel
theorem zd_Pa_kindOn_18 : decode zb_Pa_kindOn 18 = .ok (.getfield 15, 3) := by decide +kernel
theorem zd_Pa_kindOn_21 : decode zb_Pa_kindOn 21 = .ok (.iload_n 1, 1) := by decide +kernel
theorem zd_Pa_kindOn_22 : decode zb_Pa_kindOn 22 = .ok (.iaload, 1) := by decide +kernel
theorem zd_Pa_kindOn_23 : decode zb_Pa_kindOn 23 = .ok (.goto 13, 3) := by decide +kernel
theorem zd_Pa_kindOn_26 : decode zb_Pa_kindOn 26 = .ok (.aload_n 0, 1) := by decide +kernel
theorem zd_Pa_kindOn_27 : decode zb_Pa_kindOn 27 = .ok (.getfield 31, 3) := by decide +kernel
theorem zd_Pa_kindOn_30 : decode zb_Pa_kindOn 30 = .ok (.getfield 47, 3) := by decide +kernel
theorem zd_Pa_kindOn_33 : decode zb_Pa_kindOn 33 = .ok (.iload 4, 2) := by decide +kernel
theorem zd_Pa_kindOn_35 : decode zb_Pa_kindOn 35 = .ok (.iaload, 1) := by decide +kernel
theorem zd_Pa_kindOn_36 : decode zb_Pa_kindOn 36 = .ok (.ireturn, 1) := by decide +kernel
theorem zd_Ne_sumByTimes_0 : decode zb_Ne_sumByTimes 0 = .ok (.aload 4, 2) := by decide +kernel
theorem zd_Ne_sumByTimes_2 : decode zb_Ne_sumByTimes 2 = .ok (.lconst 0, 1) := by decide +kernel
theorem zd_Ne_sumByTimes_3 : decode zb_Ne_sumByTimes 3 = .ok (.invokestatic 29, 3) := by decide +kernel
theorem zd_Ne_sumByTimes_6 : decode zb_Ne_sumByTimes 6 = .ok (.iconst 0, 1) := by decide +kernel
theorem zd_Ne_sumByTimes_7 : decode zb_Ne_sumByTimes 7 = .ok (.istore 5, 2) := by decide +kernel
theorem zd_Ne_sumByTimes_9 : decode zb_Ne_sumByTimes 9 = .ok (.iload 5, 2) := by decide +kernel
theorem zd_Ne_sumByTimes_11 : decode zb_Ne_sumByTimes 11 = .ok (.aload_n 1, 1) := by decide +kernel
theorem zd_Ne_sumByTimes_12 : decode zb_Ne_sumByTimes 12 = .ok (.getfield 35, 3) := by decide +kernel
theorem zd_Ne_sumByTimes_15 : decode zb_Ne_sumByTimes 15 = .ok (.if_icmp .ge 46, 3) := by decide +kernel
theorem zd_Ne_sumByTimes_18 : decode zb_Ne_sumByTimes 18 = .ok (.aload_n 1, 1) := by decide +kernel
theorem zd_Ne_sumByTimes_19 : decode zb_Ne_sumByTimes 19 = .ok (.iload 5, 2) := by decide +kernel
theorem zd_Ne_sumByTimes_21 : decode zb_Ne_sumByTimes 21 = .ok (.lload_n 2, 1) := by decide +kernel
theorem zd_Ne_sumByTimes_22 : decode zb_Ne_sumByTimes 22 = .ok (.invokevirtual 41, 3) := by decide +kernel
theorem zd_Ne_sumByTimes_25 : decode zb_Ne_sumByTimes 25 = .ok (.lstore 6, 2) := by decide +kernel
theorem zd_Ne_sumByTimes_27 : decode zb_Ne_sumByTimes 27 = .ok (.aload 4, 2) := by decide +kernel
theorem zd_Ne_sumByTimes_29 : decode zb_Ne_sumByTimes 29 = .ok (.aload_n 1, 1) := by decide +kernel
theorem zd_Ne_sumByTimes_30 : decode zb_Ne_sumByTimes 30 = .ok (.iload 5, 2) := by decide +kernel
theorem zd_Ne_sumByTimes_32 : decode zb_Ne_sumByTimes 32 = .ok (.lload_n 2, 1) := by decide +kernel
theorem zd_Ne_sumByTimes_33 : decode zb_Ne_sumByTimes 33 = .ok (.invokevirtual 45, 3) := by decide +kernel
theorem zd_Ne_sumByTimes_36 : decode zb_Ne_sumByTimes 36 = .ok (.dup2, 1) := by decide +kernel
theorem zd_Ne_sumByTimes_37 : decode zb_Ne_sumByTimes 37 = .ok (.laload, 1) := by decide +kernel
theorem zd_Ne_sumByTimes_38 : decode zb_Ne_sumByTimes 38 = .ok (.aload_n 0, 1) := by decide +kernel
theorem zd_Ne_sumByTimes_39 : decode zb_Ne_sumByTimes 39 = .ok (.getfield 9, 3) := by decide +kernel
theorem zd_Ne_sumByTimes_42 : decode zb_Ne_sumByTimes 42 = .ok (.aload_n 1, 1) := by decide +kernel
theorem zd_Ne_sumByTimes_43 : decode zb_Ne_sumByTimes 43 = .ok (.getfield 49, 3) := by decide +kernel
theorem zd_Ne_sumByTimes_46 : decode zb_Ne_sumByTimes 46 = .ok (.iload 5, 2) := by decide +kernel
theorem zd_Ne_sumByTimes_48 : decode zb_Ne_sumByTimes 48 = .ok (.iaload, 1) := by decide +kernel
theorem zd_Ne_sumByTimes_49 : decode zb_Ne_sumByTimes 49 = .ok (.laload, 1) := by decide +kernel
theorem zd_Ne_sumByTimes_50 : decode zb_Ne_sumByTimes 50 = .ok (.lload 6, 2) := by decide +kernel
theorem zd_Ne_sumByTimes_52 : decode zb_Ne_sumByTimes 52 = .ok (.lmul, 1) := by decide +kernel
theorem zd_Ne_sumByTimes_53 : decode zb_Ne_sumByTimes 53 = .ok (.ladd, 1) := by decide +kernel
theorem zd_Ne_sumByTimes_54 : decode zb_Ne_sumByTimes 54 = .ok (.lastore, 1) := by decide +kernel
theorem zd_Ne_sumByTimes_55 : decode zb_Ne_sumByTimes 55 = .ok (.iinc 5 1, 3) := by decide +kernel
theorem zd_Ne_sumByTimes_58 : decode zb_Ne_sumByTimes 58 = .ok (.goto (-49), 3) := by decide +kernel
theorem zd_Ne_sumByTimes_61 : decode zb_Ne_sumByTimes 61 = .ok (.return_, 1) := by decide +kernel
theorem zd_Ne_sumWithin_0 : decode zb_Ne_sumWithin 0 = .ok (.aload_n 0, 1) := by decide +kernel
theorem zd_Ne_sumWithin_1 : decode zb_Ne_sumWithin 1 = .ok (.aload_n 1, 1) := by decide +kernel
theorem zd_Ne_sumWithin_2 : decode zb_Ne_sumWithin 2 = .ok (.iload_n 2, 1) := by decide +kernel
theorem zd_Ne_sumWithin_3 : decode zb_Ne_sumWithin 3 = .ok (.invokevirtual 21, 3) := by decide +kernel
theorem zd_Ne_sumWithin_6 : decode zb_Ne_sumWithin 6 = .ok (.aload_n 0, 1) := by decide +kernel
theorem zd_Ne_sumWithin_7 : decode zb_Ne_sumWithin 7 = .ok (.aload_n 1, 1) := by decide +kernel
theorem zd_Ne_sumWithin_8 : decode zb_Ne_sumWithin 8 = .ok (.lload_n 3, 1) := by decide +kernel
theorem zd_Ne_sumWithin_9 : decode zb_Ne_sumWithin 9 = .ok (.aload 5, 2) := by decide +kernel
theorem zd_Ne_sumWithin_11 : decode zb_Ne_sumWithin 11 = .ok (.invokevirtual 25, 3) := by decide +kernel
theorem zd_Ne_sumWithin_14 : decode zb_Ne_sumWithin 14 = .ok (.return_, 1) := by decide +kernel
theorem zd_MP_totalOn_0 : decode zb_MP_totalOn 0 = .ok (.aload_n 0, 1) := by decide +kernel
theorem zd_MP_totalOn_1 : decode zb_MP_totalOn 1 = .ok (.iload_n 1, 1) := by decide +kernel
theorem zd_MP_totalOn_2 : decode zb_MP_totalOn 2 = .ok (.invokevirtual 50, 3) := by decide +kernel
theorem zd_MP_totalOn_5 : decode zb_MP_totalOn 5 = .ok (.ifCond .eq 17, 3) := by decide +kernel
theorem zd_MP_totalOn_8 : decode zb_MP_totalOn 8 = .ok (.iload_n 2, 1) := by decide +kernel
theorem zd_MP_totalOn_9 : decode zb_MP_totalOn 9 = .ok (.invokestatic 101, 3) := by decide +kernel
theorem zd_MP_totalOn_12 : decode zb_MP_totalOn 12 = .ok (.ifCond .eq 10, 3) := by decide +kernel
theorem zd_MP_totalOn_15 : decode zb_MP_totalOn 15 = .ok (.lload_n 3, 1) := by decide +kernel
theorem zd_MP_totalOn_16 : decode zb_MP_totalOn 16 = .ok (.invokestatic 88, 3) := by decide +kernel
theorem zd_MP_totalOn_19 : decode zb_MP_totalOn 19 = .ok (.ifCond .ne 7, 3) := by decide +kernel
theorem zd_MP_totalOn_22 : decode zb_MP_totalOn 22 = .ok (.ldc2_w 104, 3) := by decide +kernel
theorem zd_MP_totalOn_25 : decode zb_MP_totalOn 25 = .ok (.lreturn, 1) := by decide +kernel
theorem zd_MP_totalOn_26 : decode zb_MP_totalOn 26 = .ok (.aload_n 0, 1) := by decide +kernel
theorem zd_MP_totalOn_27 : decode zb_MP_totalOn 27 = .ok (.getfield 27, 3) := by decide +kernel
theorem zd_MP_totalOn_30 : decode zb_MP_totalOn 30 = .ok (.aload_n 0, 1) := by decide +kernel
theorem zd_MP_totalOn_31 : decode zb_MP_totalOn 31 = .ok (.getfield 20, 3) := by decide +kernel
theorem zd_MP_totalOn_34 : decode zb_MP_totalOn 34 = .ok (.iload_n 1, 1) := by decide +kernel
theorem zd_MP_totalOn_35 : decode zb_MP_totalOn 35 = .ok (.lload_n 3, 1) := by decide +kernel
theorem zd_MP_totalOn_36 : decode zb_MP_totalOn 36 = .ok (.aload_n 0, 1) := by decide +kernel
theorem zd_MP_totalOn_37 : decode zb_MP_totalOn 37 = .ok (.getfield 38, 3) := by decide +kernel
theorem zd_MP_totalOn_40 : decode zb_MP_totalOn 40 = .ok (.invokevirtual 106, 3) := by decide +kernel
theorem zd_MP_totalOn_43 : decode zb_MP_totalOn 43 = .ok (.aload_n 0, 1) := by decide +kernel
theorem zd_MP_totalOn_44 : decode zb_MP_totalOn 44 = .ok (.getfield 38, 3) := by decide +kernel
theorem zd_MP_totalOn_47 : decode zb_MP_totalOn 47 = .ok (.iload_n 2, 1) := by decide +kernel
theorem zd_MP_totalOn_48 : decode zb_MP_totalOn 48 = .ok (.laload, 1) := by decide +kernel
theorem zd_MP_totalOn_49 : decode zb_MP_totalOn 49 = .ok (.lreturn, 1) := by decide +kernel
theorem zd_MP_total_0 : decode zb_MP_total 0 = .ok (.aload_n 0, 1) := by decide +kernel
theorem zd_MP_total_1 : decode zb_MP_total 1 = .ok (.iload_n 1, 1) := by decide +kernel
theorem zd_MP_total_2 : decode zb_MP_total 2 = .ok (.iload_n 2, 1) := by decide +kernel
theorem zd_MP_total_3 : decode zb_MP_total 3 = .ok (.ldc2_w 95, 3) := by decide +kernel
theorem zd_MP_total_6 : decode zb_MP_total 6 = .ok (.invokevirtual 97, 3) := by decide +kernel
theorem zd_MP_total_9 : decode zb_MP_total 9 = .ok (.lreturn, 1) := by decide +kernel
theorem zd_MP_frees_0 : decode zb_MP_frees 0 = .ok (.iload_n 1, 1) := by decide +kernel
theorem zd_MP_frees_1 : decode zb_MP_frees 1 = .ok (.invokestatic 101, 3) := by decide +kernel
theorem zd_MP_frees_4 : decode zb_MP_frees 4 = .ok (.ifCond .eq 10, 3) := by decide +kernel
theorem zd_MP_frees_7 : decode zb_MP_frees 7 = .ok (.iload_n 2, 1) := by decide +kernel
theorem zd_MP_frees_8 : decode zb_MP_frees 8 = .ok (.invokestatic 58, 3) := by decide +kernel
theorem zd_MP_frees_11 : decode zb_MP_frees 11 = .ok (.ifCond .ne 7, 3) := by decide +kernel
theorem zd_MP_frees_14 : decode zb_MP_frees 14 = .ok (.ldc2_w 104, 3) := by decide +kernel
theorem zd_MP_frees_17 : decode zb_MP_frees 17 = .ok (.lreturn, 1) := by decide +kernel
theorem zd_MP_frees_18 : decode zb_MP_frees 18 = .ok (.lconst 0, 1) := by decide +kernel
theorem zd_MP_frees_19 : decode zb_MP_frees 19 = .ok (.lstore_n 3, 1) := by decide +kernel
theorem zd_MP_frees_20 : decode zb_MP_frees 20 = .ok (.iconst 0, 1) := by decide +kernel
theorem zd_MP_frees_21 : decode zb_MP_frees 21 = .ok (.istore 5, 2) := by decide +kernel
theorem zd_MP_frees_23 : decode zb_MP_frees 23 = .ok (.iload 5, 2) := by decide +kernel
theorem zd_MP_frees_25 : decode zb_MP_frees 25 = .ok (.aload_n 0, 1) := by decide +kernel
theorem zd_MP_frees_26 : decode zb_MP_frees 26 = .ok (.getfield 20, 3) := by decide +kernel
theorem zd_MP_frees_29 : decode zb_MP_frees 29 = .ok (.getfield 110, 3) := by decide +kernel
theorem zd_MP_frees_32 : decode zb_MP_frees 32 = .ok (.if_icmp .ge 54, 3) := by decide +kernel
theorem zd_MP_frees_35 : decode zb_MP_frees 35 = .ok (.aload_n 0, 1) := by decide +kernel
theorem zd_MP_frees_36 : decode zb_MP_frees 36 = .ok (.getfield 20, 3) := by decide +kernel
theorem zd_MP_frees_39 : decode zb_MP_frees 39 = .ok (.getfield 78, 3) := by decide +kernel
theorem zd_MP_frees_42 : decode zb_MP_frees 42 = .ok (.iload 5, 2) := by decide +kernel
theorem zd_MP_frees_44 : decode zb_MP_frees 44 = .ok (.iaload, 1) := by decide +kernel
theorem zd_MP_frees_45 : decode zb_MP_frees 45 = .ok (.iload_n 2, 1) := by decide +kernel
theorem zd_MP_frees_46 : decode zb_MP_frees 46 = .ok (.if_icmp .ne 34, 3) := by decide +kernel
theorem zd_MP_frees_49 : decode zb_MP_frees 49 = .ok (.aload_n 0, 1) := by decide +kernel
theorem zd_MP_frees_50 : decode zb_MP_frees 50 = .ok (.getfield 20, 3) := by decide +kernel
theorem zd_MP_frees_53 : decode zb_MP_frees 53 = .ok (.iload 5, 2) := by decide +kernel
theorem zd_MP_frees_55 : decode zb_MP_frees 55 = .ok (.ldc2_w 95, 3) := by decide +kernel
theorem zd_MP_frees_58 : decode zb_MP_frees 58 = .ok (.invokevirtual 113, 3) := by decide +kernel
theorem zd_MP_frees_61 : decode zb_MP_frees 61 = .ok (.iload_n 1, 1) := by decide +kernel
theorem zd_MP_frees_62 : decode zb_MP_frees 62 = .ok (.if_icmp .ne 18, 3) := by decide +kernel
theorem zd_MP_frees_65 : decode zb_MP_frees 65 = .ok (.lload_n 3, 1) := by decide +kernel
theorem zd_MP_frees_66 : decode zb_MP_frees 66 = .ok (.aload_n 0, 1) := by decide +kernel
theorem zd_MP_frees_67 : decode zb_MP_frees 67 = .ok (.getfield 20, 3) := by decide +kernel
theorem zd_MP_frees_70 : decode zb_MP_frees 70 = .ok (.iload 5, 2) := by decide +kernel
theorem zd_MP_frees_72 : decode zb_MP_frees 72 = .ok (.ldc2_w 95, 3) := by decide +kernel
theorem zd_MP_frees_75 : decode zb_MP_frees 75 = .ok (.invokevirtual 117, 3) := by decide +kernel
theorem zd_MP_frees_78 : decode zb_MP_frees 78 = .ok (.ladd, 1) := by decide +kernel
theorem zd_MP_frees_79 : decode zb_MP_frees 79 = .ok (.lstore_n 3, 1) := by decide +kernel
theorem zd_MP_frees_80 : decode zb_MP_frees 80 = .ok (.iinc 5 1, 3) := by decide +kernel
theorem zd_MP_frees_83 : decode zb_MP_frees 83 = .ok (.goto (-60), 3) := by decide +kernel
theorem zd_MP_frees_86 : decode zb_MP_frees 86 = .ok (.lload_n 3, 1) := by decide +kernel
theorem zd_MP_frees_87 : decode zb_MP_frees 87 = .ok (.lreturn, 1) := by decide +kernel
theorem zd_MP_version_0 : decode zb_MP_version 0 = .ok (.aload_n 0, 1) := by decide +kernel
theorem zd_MP_version_1 : decode zb_MP_version 1 = .ok (.iload_n 1, 1) := by decide +kernel
theorem zd_MP_version_2 : decode zb_MP_version 2 = .ok (.invokevirtual 50, 3) := by decide +kernel
theorem zd_MP_version_5 : decode zb_MP_version 5 = .ok (.ifCond .eq 12, 3) := by decide +kernel
theorem zd_MP_version_8 : decode zb_MP_version 8 = .ok (.aload_n 0, 1) := by decide +kernel
theorem zd_MP_version_9 : decode zb_MP_version 9 = .ok (.getfield 9, 3) := by decide +kernel
theorem zd_MP_version_12 : decode zb_MP_version 12 = .ok (.iload_n 1, 1) := by decide +kernel
theorem zd_MP_version_13 : decode zb_MP_version 13 = .ok (.iaload, 1) := by decide +kernel
theorem zd_MP_version_14 : decode zb_MP_version 14 = .ok (.goto 4, 3) := by decide +kernel
theorem zd_MP_version_17 : decode zb_MP_version 17 = .ok (.iconst (-1), 1) := by decide +kernel
theorem zd_MP_version_18 : decode zb_MP_version 18 = .ok (.ireturn, 1) := by decide +kernel
theorem zd_MP_isPerson_0 : decode zb_MP_isPerson 0 = .ok (.iload_n 0, 1) := by decide +kernel
theorem zd_MP_isPerson_1 : decode zb_MP_isPerson 1 = .ok (.ifCond .lt 13, 3) := by decide +kernel
theorem zd_MP_isPerson_4 : decode zb_MP_isPerson 4 = .ok (.iload_n 0, 1) := by decide +kernel
theorem zd_MP_isPerson_5 : decode zb_MP_isPerson 5 = .ok (.bipush 8, 2) := by decide +kernel
theorem zd_MP_isPerson_7 : decode zb_MP_isPerson 7 = .ok (.if_icmp .ge 7, 3) := by decide +kernel
theorem zd_MP_isPerson_10 : decode zb_MP_isPerson 10 = .ok (.iconst 1, 1) := by decide +kernel
theorem zd_MP_isPerson_11 : decode zb_MP_isPerson 11 = .ok (.goto 4, 3) := by decide +kernel
theorem zd_MP_isPerson_14 : decode zb_MP_isPerson 14 = .ok (.iconst 0, 1) := by decide +kernel
theorem zd_MP_isPerson_15 : decode zb_MP_isPerson 15 = .ok (.ireturn, 1) := by decide +kernel
theorem zd_MP_rightIndex_0 : decode zb_MP_rightIndex 0 = .ok (.iload_n 0, 1) := by decide +kernel
theorem zd_MP_rightIndex_1 : decode zb_MP_rightIndex 1 = .ok (.bipush 8, 2) := by decide +kernel
theorem zd_MP_rightIndex_3 : decode zb_MP_rightIndex 3 = .ok (.imul, 1) := by decide +kernel
theorem zd_MP_rightIndex_4 : decode zb_MP_rightIndex 4 = .ok (.iload_n 1, 1) := by decide +kernel
theorem zd_MP_rightIndex_5 : decode zb_MP_rightIndex 5 = .ok (.iadd, 1) := by decide +kernel
theorem zd_MP_rightIndex_6 : decode zb_MP_rightIndex 6 = .ok (.ireturn, 1) := by decide +kernel
theorem zd_MP_right_0 : decode zb_MP_right 0 = .ok (.iload_n 1, 1) := by decide +kernel
theorem zd_MP_right_1 : decode zb_MP_right 1 = .ok (.invokestatic 121, 3) := by decide +kernel
theorem zd_MP_right_4 : decode zb_MP_right 4 = .ok (.ifCond .eq 11, 3) := by decide +kernel
theorem zd_MP_right_7 : decode zb_MP_right 7 = .ok (.aload_n 0, 1) := by decide +kernel
theorem zd_MP_right_8 : decode zb_MP_right 8 = .ok (.iload_n 2, 1) := by decide +kernel
theorem zd_MP_right_9 : decode zb_MP_right 9 = .ok (.invokevirtual 50, 3) := by decide +kernel
theorem zd_MP_right_12 : decode zb_MP_right 12 = .ok (.ifCond .ne 5, 3) := by decide +kernel
theorem zd_MP_right_15 : decode zb_MP_right 15 = .ok (.iconst 0, 1) := by decide +kernel
theorem zd_MP_right_16 : decode zb_MP_right 16 = .ok (.ireturn, 1) := by decide +kernel
theorem zd_MP_right_17 : decode zb_MP_right 17 = .ok (.aload_n 0, 1) := by decide +kernel
theorem zd_MP_right_18 : decode zb_MP_right 18 = .ok (.getfield 13, 3) := by decide +kernel
theorem zd_MP_right_21 : decode zb_MP_right 21 = .ok (.iload_n 1, 1) := by decide +kernel
theorem zd_MP_right_22 : decode zb_MP_right 22 = .ok (.iload_n 2, 1) := by decide +kernel
theorem zd_MP_right_23 : decode zb_MP_right 23 = .ok (.invokestatic 124, 3) := by decide +kernel
theorem zd_MP_right_26 : decode zb_MP_right 26 = .ok (.iload_n 3, 1) := by decide +kernel
theorem zd_MP_right_27 : decode zb_MP_right 27 = .ok (.bastore, 1) := by decide +kernel
theorem zd_MP_right_28 : decode zb_MP_right 28 = .ok (.iconst 1, 1) := by decide +kernel
theorem zd_MP_right_29 : decode zb_MP_right 29 = .ok (.ireturn, 1) := by decide +kernel
theorem zd_Pa_ownPart_0 : decode zb_Pa_ownPart 0 = .ok (.iconst 0, 1) := by decide +kernel
theorem zd_Pa_ownPart_1 : decode zb_Pa_ownPart 1 = .ok (.istore_n 3, 1) := by decide +kernel
theorem zd_Pa_ownPart_2 : decode zb_Pa_ownPart 2 = .ok (.iconst 0, 1) := by decide +kernel
theorem zd_Pa_ownPart_3 : decode zb_Pa_ownPart 3 = .ok (.istore 4, 2) := by decide +kernel
theorem zd_Pa_ownPart_5 : decode zb_Pa_ownPart 5 = .ok (.iload 4, 2) := by decide +kernel
theorem zd_Pa_ownPart_7 : decode zb_Pa_ownPart 7 = .ok (.aload_n 0, 1) := by decide +kernel
theorem zd_Pa_ownPart_8 : decode zb_Pa_ownPart 8 = .ok (.getfield 35, 3) := by decide +kernel
theorem zd_Pa_ownPart_11 : decode zb_Pa_ownPart 11 = .ok (.if_icmp .ge 31, 3) := by decide +kernel
theorem zd_Pa_ownPart_14 : decode zb_Pa_ownPart 14 = .ok (.aload_n 0, 1) := by decide +kernel
theorem zd_Pa_ownPart_15 : decode zb_Pa_ownPart 15 = .ok (.getfield 9, 3) := by decide +kernel
theorem zd_Pa_ownPart_18 : decode zb_Pa_ownPart 18 = .ok (.iload 4, 2) := by decide +kernel
theorem zd_Pa_ownPart_20 : decode zb_Pa_ownPart 20 = .ok (.iaload, 1) := by decide +kernel
theorem zd_Pa_ownPart_21 : decode zb_Pa_ownPart 21 = .ok (.iload_n 1, 1) := by decide +kernel
theorem zd_Pa_ownPart_22 : decode zb_Pa_ownPart 22 = .ok (.if_icmp .ne 14, 3) := by decide +kernel
theorem zd_Pa_ownPart_25 : decode zb_Pa_ownPart 25 = .ok (.iload_n 3, 1) := by decide +kernel
theorem zd_Pa_ownPart_26 : decode zb_Pa_ownPart 26 = .ok (.iload_n 2, 1) := by decide +kernel
theorem zd_Pa_ownPart_27 : decode zb_Pa_ownPart 27 = .ok (.if_icmp .ne 6, 3) := by decide +kernel
theorem zd_Pa_ownPart_30 : decode zb_Pa_ownPart 30 = .ok (.iload 4, 2) := by decide +kernel
theorem zd_Pa_ownPart_32 : decode zb_Pa_ownPart 32 = .ok (.ireturn, 1) := by decide +kernel
theorem zd_Pa_ownPart_33 : decode zb_Pa_ownPart 33 = .ok (.iinc 3 1, 3) := by decide +kernel
theorem zd_Pa_ownPart_36 : decode zb_Pa_ownPart 36 = .ok (.iinc 4 1, 3) := by decide +kernel
theorem zd_Pa_ownPart_39 : decode zb_Pa_ownPart 39 = .ok (.goto (-34), 3) := by decide +kernel
theorem zd_Pa_ownPart_42 : decode zb_Pa_ownPart 42 = .ok (.iconst (-1), 1) := by decide +kernel
theorem zd_Pa_ownPart_43 : decode zb_Pa_ownPart 43 = .ok (.ireturn, 1) := by decide +kernel
theorem zd_Pa_ownGrams_0 : decode zb_Pa_ownGrams 0 = .ok (.lconst 0, 1) := by decide +kernel
theorem zd_Pa_ownGrams_1 : decode zb_Pa_ownGrams 1 = .ok (.lstore 5, 2) := by decide +kernel
theorem zd_Pa_ownGrams_3 : decode zb_Pa_ownGrams 3 = .ok (.iconst 0, 1) := by decide +kernel
theorem zd_Pa_ownGrams_4 : decode zb_Pa_ownGrams 4 = .ok (.istore 7, 2) := by decide +kernel
theorem zd_Pa_ownGrams_6 : decode zb_Pa_ownGrams 6 = .ok (.iload 7, 2) := by decide +kernel
theorem zd_Pa_ownGrams_8 : decode zb_Pa_ownGrams 8 = .ok (.aload_n 0, 1) := by decide +kernel
theorem zd_Pa_ownGrams_9 : decode zb_Pa_ownGrams 9 = .ok (.getfield 35, 3) := by decide +kernel
theorem zd_Pa_ownGrams_12 : decode zb_Pa_ownGrams 12 = .ok (.if_icmp .ge 43, 3) := by decide +kernel
theorem zd_Pa_ownGrams_15 : decode zb_Pa_ownGrams 15 = .ok (.aload_n 0, 1) := by decide +kernel
theorem zd_Pa_ownGrams_16 : decode zb_Pa_ownGrams 16 = .ok (.getfield 9, 3) := by decide +kernel
theorem zd_Pa_ownGrams_19 : decode zb_Pa_ownGrams 19 = .ok (.iload 7, 2) := by decide +kernel
theorem zd_Pa_ownGrams_21 : decode zb_Pa_ownGrams 21 = .ok (.iaload, 1) := by decide +kernel
theorem zd_Pa_ownGrams_22 : decode zb_Pa_ownGrams 22 = .ok (.iload_n 1, 1) := by decide +kernel
theorem zd_Pa_ownGrams_23 : decode zb_Pa_ownGrams 23 = .ok (.if_icmp .ne 26, 3) := by decide +kernel
theorem zd_Pa_ownGrams_26 : decode zb_Pa_ownGrams 26 = .ok (.aload_n 0, 1) := by decide +kernel
theorem zd_Pa_ownGrams_27 : decode zb_Pa_ownGrams 27 = .ok (.iload 7, 2) := by decide +kernel
theorem zd_Pa_ownGrams_29 : decode zb_Pa_ownGrams 29 = .ok (.lload_n 3, 1) := by decide +kernel
theorem zd_Pa_ownGrams_30 : decode zb_Pa_ownGrams 30 = .ok (.invokevirtual 49, 3) := by decide +kernel
theorem zd_Pa_ownGrams_33 : decode zb_Pa_ownGrams 33 = .ok (.iload_n 2, 1) := by decide +kernel
theorem zd_Pa_ownGrams_34 : decode zb_Pa_ownGrams 34 = .ok (.if_icmp .ne 15, 3) := by decide +kernel
theorem zd_Pa_ownGrams_37 : decode zb_Pa_ownGrams 37 = .ok (.lload 5, 2) := by decide +kernel
theorem zd_Pa_ownGrams_39 : decode zb_Pa_ownGrams 39 = .ok (.aload_n 0, 1) := by decide +kernel
theorem zd_Pa_ownGrams_40 : decode zb_Pa_ownGrams 40 = .ok (.iload 7, 2) := by decide +kernel
theorem zd_Pa_ownGrams_42 : decode zb_Pa_ownGrams 42 = .ok (.lload_n 3, 1) := by decide +kernel
theorem zd_Pa_ownGrams_43 : decode zb_Pa_ownGrams 43 = .ok (.invokevirtual 52, 3) := by decide +kernel
theorem zd_Pa_ownGrams_46 : decode zb_Pa_ownGrams 46 = .ok (.ladd, 1) := by decide +kernel
theorem zd_Pa_ownGrams_47 : decode zb_Pa_ownGrams 47 = .ok (.lstore 5, 2) := by decide +kernel
theorem zd_Pa_ownGrams_49 : decode zb_Pa_ownGrams 49 = .ok (.iinc 7 1, 3) := by decide +kernel
theorem zd_Pa_ownGrams_52 : decode zb_Pa_ownGrams 52 = .ok (.goto (-46), 3) := by decide +kernel
theorem zd_Pa_ownGrams_55 : decode zb_Pa_ownGrams 55 = .ok (.lload 5, 2) := by decide +kernel
theorem zd_Pa_ownGrams_57 : decode zb_Pa_ownGrams 57 = .ok (.lreturn, 1) := by decide +kernel
theorem zd_MP_seen_0 : decode zb_MP_seen 0 = .ok (.iload_n 1, 1) := by decide +kernel
theorem zd_MP_seen_1 : decode zb_MP_seen 1 = .ok (.invokestatic 121, 3) := by decide +kernel
theorem zd_MP_seen_4 : decode zb_MP_seen 4 = .ok (.ifCond .eq 11, 3) := by decide +kernel
theorem zd_MP_seen_7 : decode zb_MP_seen 7 = .ok (.aload_n 0, 1) := by decide +kernel
theorem zd_MP_seen_8 : decode zb_MP_seen 8 = .ok (.iload_n 2, 1) := by decide +kernel
theorem zd_MP_seen_9 : decode zb_MP_seen 9 = .ok (.invokevirtual 50, 3) := by decide +kernel
theorem zd_MP_seen_12 : decode zb_MP_seen 12 = .ok (.ifCond .ne 7, 3) := by decide +kernel
theorem zd_MP_seen_15 : decode zb_MP_seen 15 = .ok (.ldc2_w 104, 3) := by decide +kernel
theorem zd_MP_seen_18 : decode zb_MP_seen 18 = .ok (.lreturn, 1) := by decide +kernel
theorem zd_MP_seen_19 : decode zb_MP_seen 19 = .ok (.aload_n 0, 1) := by decide +kernel
theorem zd_MP_seen_20 : decode zb_MP_seen 20 = .ok (.getfield 20, 3) := by decide +kernel
theorem zd_MP_seen_23 : decode zb_MP_seen 23 = .ok (.iload_n 2, 1) := by decide +kernel
theorem zd_MP_seen_24 : decode zb_MP_seen 24 = .ok (.iload_n 3, 1) := by decide +kernel
theorem zd_MP_seen_25 : decode zb_MP_seen 25 = .ok (.invokevirtual 128, 3) := by decide +kernel
theorem zd_MP_seen_28 : decode zb_MP_seen 28 = .ok (.istore 5, 2) := by decide +kernel
theorem zd_MP_seen_30 : decode zb_MP_seen 30 = .ok (.iload 5, 2) := by decide +kernel
theorem zd_MP_seen_32 : decode zb_MP_seen 32 = .ok (.iconst (-1), 1) := by decide +kernel
theorem zd_MP_seen_33 : decode zb_MP_seen 33 = .ok (.if_icmp .ne 7, 3) := by decide +kernel
theorem zd_MP_seen_36 : decode zb_MP_seen 36 = .ok (.ldc2_w 104, 3) := by decide +kernel
theorem zd_MP_seen_39 : decode zb_MP_seen 39 = .ok (.lreturn, 1) := by decide +kernel
theorem zd_MP_seen_40 : decode zb_MP_seen 40 = .ok (.aload_n 0, 1) := by decide +kernel
theorem zd_MP_seen_41 : decode zb_MP_seen 41 = .ok (.getfield 13, 3) := by decide +kernel
theorem zd_MP_seen_44 : decode zb_MP_seen 44 = .ok (.iload_n 1, 1) := by decide +kernel
theorem zd_MP_seen_45 : decode zb_MP_seen 45 = .ok (.iload_n 2, 1) := by decide +kernel
theorem zd_MP_seen_46 : decode zb_MP_seen 46 = .ok (.invokestatic 124, 3) := by decide +kernel
theorem zd_MP_seen_49 : decode zb_MP_seen 49 = .ok (.baload, 1) := by decide +kernel
theorem zd_MP_seen_50 : decode zb_MP_seen 50 = .ok (.istore 6, 2) := by decide +kernel
theorem zd_MP_seen_52 : decode zb_MP_seen 52 = .ok (.aload_n 0, 1) := by decide +kernel
theorem zd_MP_seen_53 : decode zb_MP_seen 53 = .ok (.getfield 20, 3) := by decide +kernel
theorem zd_MP_seen_56 : decode zb_MP_seen 56 = .ok (.iload 5, 2) := by decide +kernel
theorem zd_MP_seen_58 : decode zb_MP_seen 58 = .ok (.ldc2_w 95, 3) := by decide +kernel
theorem zd_MP_seen_61 : decode zb_MP_seen 61 = .ok (.invokevirtual 113, 3) := by decide +kernel
theorem zd_MP_seen_64 : decode zb_MP_seen 64 = .ok (.istore 7, 2) := by decide +kernel
theorem zd_MP_seen_66 : decode zb_MP_seen 66 = .ok (.iload 4, 2) := by decide +kernel
theorem zd_MP_seen_68 : decode zb_MP_seen 68 = .ok (.tableswitch 89 0 2 #[28, 32, 66], 28) := by decide +kernel
theorem zd_MP_seen_96 : decode zb_MP_seen 96 = .ok (.iload 7, 2) := by decide +kernel
theorem zd_MP_seen_98 : decode zb_MP_seen 98 = .ok (.i2l, 1) := by decide +kernel
theorem zd_MP_seen_99 : decode zb_MP_seen 99 = .ok (.lreturn, 1) := by decide +kernel
theorem zd_MP_seen_100 : decode zb_MP_seen 100 = .ok (.iload 6, 2) := by decide +kernel
theorem zd_MP_seen_102 : decode zb_MP_seen 102 = .ok (.ifCond .eq 18, 3) := by decide +kernel
theorem zd_MP_seen_105 : decode zb_MP_seen 105 = .ok (.aload_n 0, 1) := by decide +kernel
theorem zd_MP_seen_106 : decode zb_MP_seen 106 = .ok (.getfield 20, 3) := by decide +kernel
theorem zd_MP_seen_109 : decode zb_MP_seen 109 = .ok (.iload 5, 2) := by decide +kernel
theorem zd_MP_seen_111 : decode zb_MP_seen 111 = .ok (.ldc2_w 95, 3) := by decide +kernel
theorem zd_MP_seen_114 : decode zb_MP_seen 114 = .ok (.invokevirtual 117, 3) := by decide +kernel
theorem zd_MP_seen_117 : decode zb_MP_seen 117 = .ok (.goto 16, 3) := by decide +kernel
theorem zd_MP_seen_120 : decode zb_MP_seen 120 = .ok (.aload_n 0, 1) := by decide +kernel
theorem zd_MP_seen_121 : decode zb_MP_seen 121 = .ok (.getfield 20, 3) := by decide +kernel
theorem zd_MP_seen_124 : decode zb_MP_seen 124 = .ok (.iload_n 2, 1) := by decide +kernel
theorem zd_MP_seen_125 : decode zb_MP_seen 125 = .ok (.iload 7, 2) := by decide +kernel
theorem zd_MP_seen_127 : decode zb_MP_seen 127 = .ok (.ldc2_w 95, 3) := by decide +kernel
theorem zd_MP_seen_130 : decode zb_MP_seen 130 = .ok (.invokevirtual 131, 3) := by decide +kernel
theorem zd_MP_seen_133 : decode zb_MP_seen 133 = .ok (.lreturn, 1) := by decide +kernel
theorem zd_MP_seen_134 : decode zb_MP_seen 134 = .ok (.iload 6, 2) := by decide +kernel
theorem zd_MP_seen_136 : decode zb_MP_seen 136 = .ok (.ifCond .eq 17, 3) := by decide +kernel
theorem zd_MP_seen_139 : decode zb_MP_seen 139 = .ok (.aload_n 0, 1) := by decide +kernel
theorem zd_MP_seen_140 : decode zb_MP_seen 140 = .ok (.getfield 20, 3) := by decide +kernel
theorem zd_MP_seen_143 : decode zb_MP_seen 143 = .ok (.getfield 78, 3) := by decide +kernel
theorem zd_MP_seen_146 : decode zb_MP_seen 146 = .ok (.iload 5, 2) := by decide +kernel
theorem zd_MP_seen_148 : decode zb_MP_seen 148 = .ok (.iaload, 1) := by decide +kernel
theorem zd_MP_seen_149 : decode zb_MP_seen 149 = .ok (.i2l, 1) := by decide +kernel
theorem zd_MP_seen_150 : decode zb_MP_seen 150 = .ok (.goto 6, 3) := by decide +kernel
theorem zd_MP_seen_153 : decode zb_MP_seen 153 = .ok (.ldc2_w 134, 3) := by decide +kernel
theorem zd_MP_seen_156 : decode zb_MP_seen 156 = .ok (.lreturn, 1) := by decide +kernel
theorem zd_MP_seen_157 : decode zb_MP_seen 157 = .ok (.ldc2_w 104, 3) := by decide +kernel
theorem zd_MP_seen_160 : decode zb_MP_seen 160 = .ok (.lreturn, 1) := by decide +kernel
theorem zd_Fo_addByte_0 : decode zb_Fo_addByte 0 = .ok (.iload_n 1, 1) := by decide +kernel
theorem zd_Fo_addByte_1 : decode zb_Fo_addByte 1 = .ok (.ifCond .lt 20, 3) := by decide +kernel
theorem zd_Fo_addByte_4 : decode zb_Fo_addByte 4 = .ok (.iload_n 1, 1) := by decide +kernel
theorem zd_Fo_addByte_5 : decode zb_Fo_addByte 5 = .ok (.sipush 255, 3) := by decide +kernel
theorem zd_Fo_addByte_8 : decode zb_Fo_addByte 8 = .ok (.if_icmp .gt 13, 3) := by decide +kernel
theorem zd_Fo_addByte_11 : decode zb_Fo_addByte 11 = .ok (.aload_n 0, 1) := by decide +kernel
theorem zd_Fo_addByte_12 : decode zb_Fo_addByte 12 = .ok (.getfield 25, 3) := by decide +kernel
theorem zd_Fo_addByte_15 : decode zb_Fo_addByte 15 = .ok (.sipush 300, 3) := by decide +kernel
theorem zd_Fo_addByte_18 : decode zb_Fo_addByte 18 = .ok (.if_icmp .lt 5, 3) := by decide +kernel
theorem zd_Fo_addByte_21 : decode zb_Fo_addByte 21 = .ok (.iconst 0, 1) := by decide +kernel
theorem zd_Fo_addByte_22 : decode zb_Fo_addByte 22 = .ok (.ireturn, 1) := by decide +kernel
theorem zd_Fo_addByte_23 : decode zb_Fo_addByte 23 = .ok (.aload_n 0, 1) := by decide +kernel
theorem zd_Fo_addByte_24 : decode zb_Fo_addByte 24 = .ok (.getfield 11, 3) := by decide +kernel
theorem zd_Fo_addByte_27 : decode zb_Fo_addByte 27 = .ok (.aload_n 0, 1) := by decide +kernel
theorem zd_Fo_addByte_28 : decode zb_Fo_addByte 28 = .ok (.getfield 25, 3) := by decide +kernel
theorem zd_Fo_addByte_31 : decode zb_Fo_addByte 31 = .ok (.iload_n 1, 1) := by decide +kernel
theorem zd_Fo_addByte_32 : decode zb_Fo_addByte 32 = .ok (.iastore, 1) := by decide +kernel
theorem zd_Fo_addByte_33 : decode zb_Fo_addByte 33 = .ok (.aload_n 0, 1) := by decide +kernel
theorem zd_Fo_addByte_34 : decode zb_Fo_addByte 34 = .ok (.dup, 1) := by decide +kernel
theorem zd_Fo_addByte_35 : decode zb_Fo_addByte 35 = .ok (.getfield 25, 3) := by decide +kernel
theorem zd_Fo_addByte_38 : decode zb_Fo_addByte 38 = .ok (.iconst 1, 1) := by decide +kernel
theorem zd_Fo_addByte_39 : decode zb_Fo_addByte 39 = .ok (.iadd, 1) := by decide +kernel
theorem zd_Fo_addByte_40 : decode zb_Fo_addByte 40 = .ok (.putfield 25, 3) := by decide +kernel
theorem zd_Fo_addByte_43 : decode zb_Fo_addByte 43 = .ok (.iconst 1, 1) := by decide +kernel
theorem zd_Fo_addByte_44 : decode zb_Fo_addByte 44 = .ok (.ireturn, 1) := by decide +kernel
theorem zd_MP_unit_0 : decode zb_MP_unit 0 = .ok (.aload_n 0, 1) := by decide +kernel
theorem zd_MP_unit_1 : decode zb_MP_unit 1 = .ok (.getfield 34, 3) := by decide +kernel
theorem zd_MP_unit_4 : decode zb_MP_unit 4 = .ok (.iload_n 1, 1) := by decide +kernel
theorem zd_MP_unit_5 : decode zb_MP_unit 5 = .ok (.invokevirtual 136, 3) := by decide +kernel
theorem zd_MP_unit_8 : decode zb_MP_unit 8 = .ok (.ireturn, 1) := by decide +kernel
theorem zd_Fo_isDigit_0 : decode zb_Fo_isDigit 0 = .ok (.iload_n 0, 1) := by decide +kernel
theorem zd_Fo_isDigit_1 : decode zb_Fo_isDigit 1 = .ok (.bipush 48, 2) := by decide +kernel
theorem zd_Fo_isDigit_3 : decode zb_Fo_isDigit 3 = .ok (.if_icmp .lt 13, 3) := by decide +kernel
theorem zd_Fo_isDigit_6 : decode zb_Fo_isDigit 6 = .ok (.iload_n 0, 1) := by decide +kernel
theorem zd_Fo_isDigit_7 : decode zb_Fo_isDigit 7 = .ok (.bipush 57, 2) := by decide +kernel
theorem zd_Fo_isDigit_9 : decode zb_Fo_isDigit 9 = .ok (.if_icmp .gt 7, 3) := by decide +kernel
theorem zd_Fo_isDigit_12 : decode zb_Fo_isDigit 12 = .ok (.iconst 1, 1) := by decide +kernel
theorem zd_Fo_isDigit_13 : decode zb_Fo_isDigit 13 = .ok (.goto 4, 3) := by decide +kernel
theorem zd_Fo_isDigit_16 : decode zb_Fo_isDigit 16 = .ok (.iconst 0, 1) := by decide +kernel
theorem zd_Fo_isDigit_17 : decode zb_Fo_isDigit 17 = .ok (.ireturn, 1) := by decide +kernel
theorem zd_Fo_signOf_0 : decode zb_Fo_signOf 0 = .ok (.iload_n 0, 1) := by decide +kernel
theorem zd_Fo_signOf_1 : decode zb_Fo_signOf 1 = .ok (.lookupswitch 55 #[(42, 52), (43, 46), (45, 49), (110, 43)], 43) := by decide +kernel
theorem zd_Fo_signOf_44 : decode zb_Fo_signOf 44 = .ok (.bipush (-6), 2) := by decide +kernel
theorem zd_Fo_signOf_46 : decode zb_Fo_signOf 46 = .ok (.ireturn, 1) := by decide +kernel
theorem zd_Fo_signOf_47 : decode zb_Fo_signOf 47 = .ok (.bipush (-7), 2) := by decide +kernel
theorem zd_Fo_signOf_49 : decode zb_Fo_signOf 49 = .ok (.ireturn, 1) := by decide +kernel
theorem zd_Fo_signOf_50 : decode zb_Fo_signOf 50 = .ok (.bipush (-8), 2) := by decide +kernel
theorem zd_Fo_signOf_52 : decode zb_Fo_signOf 52 = .ok (.ireturn, 1) := by decide +kernel
theorem zd_Fo_signOf_53 : decode zb_Fo_signOf 53 = .ok (.bipush (-9), 2) := by decide +kernel
theorem zd_Fo_signOf_55 : decode zb_Fo_signOf 55 = .ok (.ireturn, 1) := by decide +kernel
theorem zd_Fo_signOf_56 : decode zb_Fo_signOf 56 = .ok (.bipush (-12), 2) := by decide +kernel
theorem zd_Fo_signOf_58 : decode zb_Fo_signOf 58 = .ok (.ireturn, 1) := by decide +kernel
theorem zd_Fo_shareOf_0 : decode zb_Fo_shareOf 0 = .ok (.iload_n 0, 1) := by decide +kernel
theorem zd_Fo_shareOf_1 : decode zb_Fo_shareOf 1 = .ok (.bipush 48, 2) := by decide +kernel
theorem zd_Fo_shareOf_3 : decode zb_Fo_shareOf 3 = .ok (.isub, 1) := by decide +kernel
theorem zd_Fo_shareOf_4 : decode zb_Fo_shareOf 4 = .ok (.istore_n 1, 1) := by decide +kernel
theorem zd_Fo_shareOf_5 : decode zb_Fo_shareOf 5 = .ok (.iload_n 1, 1) := by decide +kernel
theorem zd_Fo_shareOf_6 : decode zb_Fo_shareOf 6 = .ok (.invokestatic 74, 3) := by decide +kernel
theorem zd_Fo_shareOf_9 : decode zb_Fo_shareOf 9 = .ok (.ifCond .eq 9, 3) := by decide +kernel
theorem zd_Fo_shareOf_12 : decode zb_Fo_shareOf 12 = .ok (.iconst (-1), 1) := by decide +kernel
theorem zd_Fo_shareOf_13 : decode zb_Fo_shareOf 13 = .ok (.iload_n 1, 1) := by decide +kernel
theorem zd_Fo_shareOf_14 : decode zb_Fo_shareOf 14 = .ok (.isub, 1) := by decide +kernel
theorem zd_Fo_shareOf_15 : decode zb_Fo_shareOf 15 = .ok (.goto 5, 3) := by decide +kernel
theorem zd_Fo_shareOf_18 : decode zb_Fo_shareOf 18 = .ok (.bipush (-12), 2) := by decide +kernel
theorem zd_Fo_shareOf_20 : decode zb_Fo_shareOf 20 = .ok (.ireturn, 1) := by decide +kernel
theorem zd_Fo_boundOf_0 : decode zb_Fo_boundOf 0 = .ok (.iload_n 0, 1) := by decide +kernel
theorem zd_Fo_boundOf_1 : decode zb_Fo_boundOf 1 = .ok (.bipush 105, 2) := by decide +kernel
theorem zd_Fo_boundOf_3 : decode zb_Fo_boundOf 3 = .ok (.if_icmp .ne 12, 3) := by decide +kernel
theorem zd_Fo_boundOf_6 : decode zb_Fo_boundOf 6 = .ok (.iload_n 1, 1) := by decide +kernel
theorem zd_Fo_boundOf_7 : decode zb_Fo_boundOf 7 = .ok (.bipush 110, 2) := by decide +kernel
theorem zd_Fo_boundOf_9 : decode zb_Fo_boundOf 9 = .ok (.if_icmp .ne 6, 3) := by decide +kernel
theorem zd_Fo_boundOf_12 : decode zb_Fo_boundOf 12 = .ok (.bipush (-10), 2) := by decide +kernel
theorem zd_Fo_boundOf_14 : decode zb_Fo_boundOf 14 = .ok (.ireturn, 1) := by decide +kernel
theorem zd_Fo_boundOf_15 : decode zb_Fo_boundOf 15 = .ok (.iload_n 0, 1) := by decide +kernel
theorem zd_Fo_boundOf_16 : decode zb_Fo_boundOf 16 = .ok (.bipush 97, 2) := by decide +kernel
theorem zd_Fo_boundOf_18 : decode zb_Fo_boundOf 18 = .ok (.if_icmp .ne 14, 3) := by decide +kernel
theorem zd_Fo_boundOf_21 : decode zb_Fo_boundOf 21 = .ok (.iload_n 1, 1) := by decide +kernel
theorem zd_Fo_boundOf_22 : decode zb_Fo_boundOf 22 = .ok (.bipush 120, 2) := by decide +kernel
theorem zd_Fo_boundOf_24 : decode zb_Fo_boundOf 24 = .ok (.if_icmp .ne 8, 3) := by decide +kernel
theorem zd_Fo_boundOf_27 : decode zb_Fo_boundOf 27 = .ok (.bipush (-11), 2) := by decide +kernel
theorem zd_Fo_boundOf_29 : decode zb_Fo_boundOf 29 = .ok (.goto 5, 3) := by decide +kernel
theorem zd_Fo_boundOf_32 : decode zb_Fo_boundOf 32 = .ok (.bipush (-12), 2) := by decide +kernel
theorem zd_Fo_boundOf_34 : decode zb_Fo_boundOf 34 = .ok (.ireturn, 1) := by decide +kernel
theorem zd_Fo_numberAt_0 : decode zb_Fo_numberAt 0 = .ok (.iload_n 2, 1) := by decide +kernel
theorem zd_Fo_numberAt_1 : decode zb_Fo_numberAt 1 = .ok (.iload_n 1, 1) := by decide +kernel
theorem zd_Fo_numberAt_2 : decode zb_Fo_numberAt 2 = .ok (.isub, 1) := by decide +kernel
theorem zd_Fo_numberAt_3 : decode zb_Fo_numberAt 3 = .ok (.bipush 6, 2) := by decide +kernel
theorem zd_Fo_numberAt_5 : decode zb_Fo_numberAt 5 = .ok (.if_icmp .le 6, 3) := by decide +kernel
theorem zd_Fo_numberAt_8 : decode zb_Fo_numberAt 8 = .ok (.bipush (-12), 2) := by decide +kernel
theorem zd_Fo_numberAt_10 : decode zb_Fo_numberAt 10 = .ok (.ireturn, 1) := by decide +kernel
theorem zd_Fo_numberAt_11 : decode zb_Fo_numberAt 11 = .ok (.iconst 0, 1) := by decide +kernel
theorem zd_Fo_numberAt_12 : decode zb_Fo_numberAt 12 = .ok (.istore_n 3, 1) := by decide +kernel
theorem zd_Fo_numberAt_13 : decode zb_Fo_numberAt 13 = .ok (.iload_n 1, 1) := by decide +kernel
theorem zd_Fo_numberAt_14 : decode zb_Fo_numberAt 14 = .ok (.istore 4, 2) := by decide +kernel
theorem zd_Fo_numberAt_16 : decode zb_Fo_numberAt 16 = .ok (.iload 4, 2) := by decide +kernel
theorem zd_Fo_numberAt_18 : decode zb_Fo_numberAt 18 = .ok (.iload_n 2, 1) := by decide +kernel
theorem zd_Fo_numberAt_19 : decode zb_Fo_numberAt 19 = .ok (.if_icmp .ge 41, 3) := by decide +kernel
theorem zd_Fo_numberAt_22 : decode zb_Fo_numberAt 22 = .ok (.aload_n 0, 1) := by decide +kernel
theorem zd_Fo_numberAt_23 : decode zb_Fo_numberAt 23 = .ok (.getfield 11, 3) := by decide +kernel
theorem zd_Fo_numberAt_26 : decode zb_Fo_numberAt 26 = .ok (.iload 4, 2) := by decide +kernel
theorem zd_Fo_numberAt_28 : decode zb_Fo_numberAt 28 = .ok (.iaload, 1) := by decide +kernel
theorem zd_Fo_numberAt_29 : decode zb_Fo_numberAt 29 = .ok (.invokestatic 58, 3) := by decide +kernel
theorem zd_Fo_numberAt_32 : decode zb_Fo_numberAt 32 = .ok (.ifCond .ne 6, 3) := by decide +kernel
theorem zd_Fo_numberAt_35 : decode zb_Fo_numberAt 35 = .ok (.bipush (-12), 2) := by decide +kernel
theorem zd_Fo_numberAt_37 : decode zb_Fo_numberAt 37 = .ok (.ireturn, 1) := by decide +kernel
theorem zd_Fo_numberAt_38 : decode zb_Fo_numberAt 38 = .ok (.iload_n 3, 1) := by decide +kernel
theorem zd_Fo_numberAt_39 : decode zb_Fo_numberAt 39 = .ok (.bipush 10, 2) := by decide +kernel
theorem zd_Fo_numberAt_41 : decode zb_Fo_numberAt 41 = .ok (.imul, 1) := by decide +kernel
theorem zd_Fo_numberAt_42 : decode zb_Fo_numberAt 42 = .ok (.aload_n 0, 1) := by decide +kernel
theorem zd_Fo_numberAt_43 : decode zb_Fo_numberAt 43 = .ok (.getfield 11, 3) := by decide +kernel
theorem zd_Fo_numberAt_46 : decode zb_Fo_numberAt 46 = .ok (.iload 4, 2) := by decide +kernel
theorem zd_Fo_numberAt_48 : decode zb_Fo_numberAt 48 = .ok (.iaload, 1) := by decide +kernel
theorem zd_Fo_numberAt_49 : decode zb_Fo_numberAt 49 = .ok (.bipush 48, 2) := by decide +kernel
theorem zd_Fo_numberAt_51 : decode zb_Fo_numberAt 51 = .ok (.isub, 1) := by decide +kernel
theorem zd_Fo_numberAt_52 : decode zb_Fo_numberAt 52 = .ok (.iadd, 1) := by decide +kernel
theorem zd_Fo_numberAt_53 : decode zb_Fo_numberAt 53 = .ok (.istore_n 3, 1) := by decide +kernel
theorem zd_Fo_numberAt_54 : decode zb_Fo_numberAt 54 = .ok (.iinc 4 1, 3) := by decide +kernel
theorem zd_Fo_numberAt_57 : decode zb_Fo_numberAt 57 = .ok (.goto (-41), 3) := by decide +kernel
theorem zd_Fo_numberAt_60 : decode zb_Fo_numberAt 60 = .ok (.iload_n 3, 1) := by decide +kernel
theorem zd_Fo_numberAt_61 : decode zb_Fo_numberAt 61 = .ok (.ireturn, 1) := by decide +kernel
theorem zd_Fo_wordAt_0 : decode zb_Fo_wordAt 0 = .ok (.aload_n 0, 1) := by decide +kernel
theorem zd_Fo_wordAt_1 : decode zb_Fo_wordAt 1 = .ok (.getfield 11, 3) := by decide +kernel
theorem zd_Fo_wordAt_4 : decode zb_Fo_wordAt 4 = .ok (.iload_n 1, 1) := by decide +kernel
theorem zd_Fo_wordAt_5 : decode zb_Fo_wordAt 5 = .ok (.iaload, 1) := by decide +kernel
theorem zd_Fo_wordAt_6 : decode zb_Fo_wordAt 6 = .ok (.istore_n 3, 1) := by decide +kernel
theorem zd_Fo_wordAt_7 : decode zb_Fo_wordAt 7 = .ok (.iload_n 3, 1) := by decide +kernel
theorem zd_Fo_wordAt_8 : decode zb_Fo_wordAt 8 = .ok (.invokestatic 58, 3) := by decide +kernel
theorem zd_Fo_wordAt_11 : decode zb_Fo_wordAt 11 = .ok (.ifCond .eq 10, 3) := by decide +kernel
theorem zd_Fo_wordAt_14 : decode zb_Fo_wordAt 14 = .ok (.aload_n 0, 1) := by decide +kernel
theorem zd_Fo_wordAt_15 : decode zb_Fo_wordAt 15 = .ok (.iload_n 1, 1) := by decide +kernel
theorem zd_Fo_wordAt_16 : decode zb_Fo_wordAt 16 = .ok (.iload_n 2, 1) := by decide +kernel
theorem zd_Fo_wordAt_17 : decode zb_Fo_wordAt 17 = .ok (.invokevirtual 61, 3) := by decide +kernel
theorem zd_Fo_wordAt_20 : decode zb_Fo_wordAt 20 = .ok (.ireturn, 1) := by decide +kernel
theorem zd_Fo_wordAt_21 : decode zb_Fo_wordAt 21 = .ok (.iload_n 2, 1) := by decide +kernel
theorem zd_Fo_wordAt_22 : decode zb_Fo_wordAt 22 = .ok (.iload_n 1, 1) := by decide +kernel
theorem zd_Fo_wordAt_23 : decode zb_Fo_wordAt 23 = .ok (.isub, 1) := by decide +kernel
theorem zd_Fo_wordAt_24 : decode zb_Fo_wordAt 24 = .ok (.tableswitch 87 1 3 #[28, 33, 56], 28) := by decide +kernel
theorem zd_Fo_wordAt_52 : decode zb_Fo_wordAt 52 = .ok (.iload_n 3, 1) := by decide +kernel
theorem zd_Fo_wordAt_53 : decode zb_Fo_wordAt 53 = .ok (.invokestatic 64, 3) := by decide +kernel
theorem zd_Fo_wordAt_56 : decode zb_Fo_wordAt 56 = .ok (.ireturn, 1) := by decide +kernel
theorem zd_Fo_wordAt_57 : decode zb_Fo_wordAt 57 = .ok (.iload_n 3, 1) := by decide +kernel
theorem zd_Fo_wordAt_58 : decode zb_Fo_wordAt 58 = .ok (.bipush 107, 2) := by decide +kernel
theorem zd_Fo_wordAt_60 : decode zb_Fo_wordAt 60 = .ok (.if_icmp .ne 17, 3) := by decide +kernel
theorem zd_Fo_wordAt_63 : decode zb_Fo_wordAt 63 = .ok (.aload_n 0, 1) := by decide +kernel
theorem zd_Fo_wordAt_64 : decode zb_Fo_wordAt 64 = .ok (.getfield 11, 3) := by decide +kernel
theorem zd_Fo_wordAt_67 : decode zb_Fo_wordAt 67 = .ok (.iload_n 1, 1) := by decide +kernel
theorem zd_Fo_wordAt_68 : decode zb_Fo_wordAt 68 = .ok (.iconst 1, 1) := by decide +kernel
theorem zd_Fo_wordAt_69 : decode zb_Fo_wordAt 69 = .ok (.iadd, 1) := by decide +kernel
theorem zd_Fo_wordAt_70 : decode zb_Fo_wordAt 70 = .ok (.iaload, 1) := by decide +kernel
theorem zd_Fo_wordAt_71 : decode zb_Fo_wordAt 71 = .ok (.invokestatic 68, 3) := by decide +kernel
theorem zd_Fo_wordAt_74 : decode zb_Fo_wordAt 74 = .ok (.goto 5, 3) := by decide +kernel
theorem zd_Fo_wordAt_77 : decode zb_Fo_wordAt 77 = .ok (.bipush (-12), 2) := by decide +kernel
theorem zd_Fo_wordAt_79 : decode zb_Fo_wordAt 79 = .ok (.ireturn, 1) := by decide +kernel
theorem zd_Fo_wordAt_80 : decode zb_Fo_wordAt 80 = .ok (.iload_n 3, 1) := by decide +kernel
theorem zd_Fo_wordAt_81 : decode zb_Fo_wordAt 81 = .ok (.bipush 109, 2) := by decide +kernel
theorem zd_Fo_wordAt_83 : decode zb_Fo_wordAt 83 = .ok (.if_icmp .ne 25, 3) := by decide +kernel
theorem zd_Fo_wordAt_86 : decode zb_Fo_wordAt 86 = .ok (.aload_n 0, 1) := by decide +kernel
theorem zd_Fo_wordAt_87 : decode zb_Fo_wordAt 87 = .ok (.getfield 11, 3) := by decide +kernel
theorem zd_Fo_wordAt_90 : decode zb_Fo_wordAt 90 = .ok (.iload_n 1, 1) := by decide +kernel
theorem zd_Fo_wordAt_91 : decode zb_Fo_wordAt 91 = .ok (.iconst 1, 1) := by decide +kernel
theorem zd_Fo_wordAt_92 : decode zb_Fo_wordAt 92 = .ok (.iadd, 1) := by decide +kernel
theorem zd_Fo_wordAt_93 : decode zb_Fo_wordAt 93 = .ok (.iaload, 1) := by decide +kernel
theorem zd_Fo_wordAt_94 : decode zb_Fo_wordAt 94 = .ok (.aload_n 0, 1) := by decide +kernel
theorem zd_Fo_wordAt_95 : decode zb_Fo_wordAt 95 = .ok (.getfield 11, 3) := by decide +kernel
theorem zd_Fo_wordAt_98 : decode zb_Fo_wordAt 98 = .ok (.iload_n 1, 1) := by decide +kernel
theorem zd_Fo_wordAt_99 : decode zb_Fo_wordAt 99 = .ok (.iconst 2, 1) := by decide +kernel
theorem zd_Fo_wordAt_100 : decode zb_Fo_wordAt 100 = .ok (.iadd, 1) := by decide +kernel
theorem zd_Fo_wordAt_101 : decode zb_Fo_wordAt 101 = .ok (.iaload, 1) := by decide +kernel
theorem zd_Fo_wordAt_102 : decode zb_Fo_wordAt 102 = .ok (.invokestatic 71, 3) := by decide +kernel
theorem zd_Fo_wordAt_105 : decode zb_Fo_wordAt 105 = .ok (.goto 5, 3) := by decide +kernel
theorem zd_Fo_wordAt_108 : decode zb_Fo_wordAt 108 = .ok (.bipush (-12), 2) := by decide +kernel
theorem zd_Fo_wordAt_110 : decode zb_Fo_wordAt 110 = .ok (.ireturn, 1) := by decide +kernel
theorem zd_Fo_wordAt_111 : decode zb_Fo_wordAt 111 = .ok (.bipush (-12), 2) := by decide +kernel
theorem zd_Fo_wordAt_113 : decode zb_Fo_wordAt 113 = .ok (.ireturn, 1) := by decide +kernel
theorem zd_Fo_joinsTwo_0 : decode zb_Fo_joinsTwo 0 = .ok (.iload_n 0, 1) := by decide +kernel
theorem zd_Fo_joinsTwo_1 : decode zb_Fo_joinsTwo 1 = .ok (.bipush (-7), 2) := by decide +kernel
theorem zd_Fo_joinsTwo_3 : decode zb_Fo_joinsTwo 3 = .ok (.if_icmp .gt 13, 3) := by decide +kernel
theorem zd_Fo_joinsTwo_6 : decode zb_Fo_joinsTwo 6 = .ok (.iload_n 0, 1) := by decide +kernel
theorem zd_Fo_joinsTwo_7 : decode zb_Fo_joinsTwo 7 = .ok (.bipush (-11), 2) := by decide +kernel
theorem zd_Fo_joinsTwo_9 : decode zb_Fo_joinsTwo 9 = .ok (.if_icmp .lt 7, 3) := by decide +kernel
theorem zd_Fo_joinsTwo_12 : decode zb_Fo_joinsTwo 12 = .ok (.iconst 1, 1) := by decide +kernel
theorem zd_Fo_joinsTwo_13 : decode zb_Fo_joinsTwo 13 = .ok (.goto 4, 3) := by decide +kernel
theorem zd_Fo_joinsTwo_16 : decode zb_Fo_joinsTwo 16 = .ok (.iconst 0, 1) := by decide +kernel
theorem zd_Fo_joinsTwo_17 : decode zb_Fo_joinsTwo 17 = .ok (.ireturn, 1) := by decide +kernel
theorem zd_Fo_takeWord_0 : decode zb_Fo_takeWord 0 = .ok (.iload_n 1, 1) := by decide +kernel
theorem zd_Fo_takeWord_1 : decode zb_Fo_takeWord 1 = .ok (.invokestatic 55, 3) := by decide +kernel
theorem zd_Fo_takeWord_4 : decode zb_Fo_takeWord 4 = .ok (.istore_n 2, 1) := by decide +kernel
theorem zd_Fo_takeWord_5 : decode zb_Fo_takeWord 5 = .ok (.iload_n 1, 1) := by decide +kernel
theorem zd_Fo_takeWord_6 : decode zb_Fo_takeWord 6 = .ok (.bipush (-12), 2) := by decide +kernel
theorem zd_Fo_takeWord_8 : decode zb_Fo_takeWord 8 = .ok (.if_icmp .eq 25, 3) := by decide +kernel
theorem zd_Fo_takeWord_11 : decode zb_Fo_takeWord 11 = .ok (.iload_n 2, 1) := by decide +kernel
theorem zd_Fo_takeWord_12 : decode zb_Fo_takeWord 12 = .ok (.ifCond .eq 11, 3) := by decide +kernel
theorem zd_Fo_takeWord_15 : decode zb_Fo_takeWord 15 = .ok (.aload_n 0, 1) := by decide +kernel
theorem zd_Fo_takeWord_16 : decode zb_Fo_takeWord 16 = .ok (.getfield 32, 3) := by decide +kernel
theorem zd_Fo_takeWord_19 : decode zb_Fo_takeWord 19 = .ok (.iconst 2, 1) := by decide +kernel
theorem zd_Fo_takeWord_20 : decode zb_Fo_takeWord 20 = .ok (.if_icmp .lt 13, 3) := by decide +kernel
theorem zd_Fo_takeWord_23 : decode zb_Fo_takeWord 23 = .ok (.aload_n 0, 1) := by decide +kernel
theorem zd_Fo_takeWord_24 : decode zb_Fo_takeWord 24 = .ok (.getfield 29, 3) := by decide +kernel
theorem zd_Fo_takeWord_27 : decode zb_Fo_takeWord 27 = .ok (.sipush 150, 3) := by decide +kernel
theorem zd_Fo_takeWord_30 : decode zb_Fo_takeWord 30 = .ok (.if_icmp .lt 5, 3) := by decide +kernel
theorem zd_Fo_takeWord_33 : decode zb_Fo_takeWord 33 = .ok (.iconst 0, 1) := by decide +kernel
theorem zd_Fo_takeWord_34 : decode zb_Fo_takeWord 34 = .ok (.ireturn, 1) := by decide +kernel
theorem zd_Fo_takeWord_35 : decode zb_Fo_takeWord 35 = .ok (.aload_n 0, 1) := by decide +kernel
theorem zd_Fo_takeWord_36 : decode zb_Fo_takeWord 36 = .ok (.getfield 15, 3) := by decide +kernel
theorem zd_Fo_takeWord_39 : decode zb_Fo_takeWord 39 = .ok (.aload_n 0, 1) := by decide +kernel
theorem zd_Fo_takeWord_40 : decode zb_Fo_takeWord 40 = .ok (.getfield 29, 3) := by decide +kernel
theorem zd_Fo_takeWord_43 : decode zb_Fo_takeWord 43 = .ok (.iload_n 1, 1) := by decide +kernel
theorem zd_Fo_takeWord_44 : decode zb_Fo_takeWord 44 = .ok (.iastore, 1) := by decide +kernel
theorem zd_Fo_takeWord_45 : decode zb_Fo_takeWord 45 = .ok (.aload_n 0, 1) := by decide +kernel
theorem zd_Fo_takeWord_46 : decode zb_Fo_takeWord 46 = .ok (.dup, 1) := by decide +kernel
theorem zd_Fo_takeWord_47 : decode zb_Fo_takeWord 47 = .ok (.getfield 29, 3) := by decide +kernel
theorem zd_Fo_takeWord_50 : decode zb_Fo_takeWord 50 = .ok (.iconst 1, 1) := by decide +kernel
theorem zd_Fo_takeWord_51 : decode zb_Fo_takeWord 51 = .ok (.iadd, 1) := by decide +kernel
theorem zd_Fo_takeWord_52 : decode zb_Fo_takeWord 52 = .ok (.putfield 29, 3) := by decide +kernel
theorem zd_Fo_takeWord_55 : decode zb_Fo_takeWord 55 = .ok (.aload_n 0, 1) := by decide +kernel
theorem zd_Fo_takeWord_56 : decode zb_Fo_takeWord 56 = .ok (.dup, 1) := by decide +kernel
theorem zd_Fo_takeWord_57 : decode zb_Fo_takeWord 57 = .ok (.getfield 32, 3) := by decide +kernel
theorem zd_Fo_takeWord_60 : decode zb_Fo_takeWord 60 = .ok (.iload_n 2, 1) := by decide +kernel
theorem zd_Fo_takeWord_61 : decode zb_Fo_takeWord 61 = .ok (.ifCond .eq 7, 3) := by decide +kernel
theorem zd_Fo_takeWord_64 : decode zb_Fo_takeWord 64 = .ok (.iconst (-1), 1) := by decide +kernel
theorem zd_Fo_takeWord_65 : decode zb_Fo_takeWord 65 = .ok (.goto 4, 3) := by decide +kernel
theorem zd_Fo_takeWord_68 : decode zb_Fo_takeWord 68 = .ok (.iconst 1, 1) := by decide +kernel
theorem zd_Fo_takeWord_69 : decode zb_Fo_takeWord 69 = .ok (.iadd, 1) := by decide +kernel
theorem zd_Fo_takeWord_70 : decode zb_Fo_takeWord 70 = .ok (.putfield 32, 3) := by decide +kernel
theorem zd_Fo_takeWord_73 : decode zb_Fo_takeWord 73 = .ok (.iconst 1, 1) := by decide +kernel
theorem zd_Fo_takeWord_74 : decode zb_Fo_takeWord 74 = .ok (.ireturn, 1) := by decide +kernel
theorem zd_Fo_isGap_0 : decode zb_Fo_isGap 0 = .ok (.iload_n 0, 1) := by decide +kernel
theorem zd_Fo_isGap_1 : decode zb_Fo_isGap 1 = .ok (.bipush 32, 2) := by decide +kernel
theorem zd_Fo_isGap_3 : decode zb_Fo_isGap 3 = .ok (.if_icmp .eq 9, 3) := by decide +kernel
theorem zd_Fo_isGap_6 : decode zb_Fo_isGap 6 = .ok (.iload_n 0, 1) := by decide +kernel
theorem zd_Fo_isGap_7 : decode zb_Fo_isGap 7 = .ok (.bipush 10, 2) := by decide +kernel
theorem zd_Fo_isGap_9 : decode zb_Fo_isGap 9 = .ok (.if_icmp .ne 7, 3) := by decide +kernel
theorem zd_Fo_isGap_12 : decode zb_Fo_isGap 12 = .ok (.iconst 1, 1) := by decide +kernel
theorem zd_Fo_isGap_13 : decode zb_Fo_isGap 13 = .ok (.goto 4, 3) := by decide +kernel
theorem zd_Fo_isGap_16 : decode zb_Fo_isGap 16 = .ok (.iconst 0, 1) := by decide +kernel
theorem zd_Fo_isGap_17 : decode zb_Fo_isGap 17 = .ok (.ireturn, 1) := by decide +kernel
theorem zd_Fo_readText_0 : decode zb_Fo_readText 0 = .ok (.aload_n 0, 1) := by decide +kernel
theorem zd_Fo_readText_1 : decode zb_Fo_readText 1 = .ok (.getfield 25, 3) := by decide +kernel
theorem zd_Fo_readText_4 : decode zb_Fo_readText 4 = .ok (.istore_n 1, 1) := by decide +kernel
theorem zd_Fo_readText_5 : decode zb_Fo_readText 5 = .ok (.aload_n 0, 1) := by decide +kernel
theorem zd_Fo_readText_6 : decode zb_Fo_readText 6 = .ok (.iconst 0, 1) := by decide +kernel
theorem zd_Fo_readText_7 : decode zb_Fo_readText 7 = .ok (.putfield 25, 3) := by decide +kernel
theorem zd_Fo_readText_10 : decode zb_Fo_readText 10 = .ok (.aload_n 0, 1) := by decide +kernel
theorem zd_Fo_readText_11 : decode zb_Fo_readText 11 = .ok (.iconst 0, 1) := by decide +kernel
theorem zd_Fo_readText_12 : decode zb_Fo_readText 12 = .ok (.putfield 29, 3) := by decide +kernel
theorem zd_Fo_readText_15 : decode zb_Fo_readText 15 = .ok (.aload_n 0, 1) := by decide +kernel
theorem zd_Fo_readText_16 : decode zb_Fo_readText 16 = .ok (.iconst 0, 1) := by decide +kernel
theorem zd_Fo_readText_17 : decode zb_Fo_readText 17 = .ok (.putfield 32, 3) := by decide +kernel
theorem zd_Fo_readText_20 : decode zb_Fo_readText 20 = .ok (.iconst 0, 1) := by decide +kernel
theorem zd_Fo_readText_21 : decode zb_Fo_readText 21 = .ok (.istore_n 2, 1) := by decide +kernel
theorem zd_Fo_readText_22 : decode zb_Fo_readText 22 = .ok (.iconst 0, 1) := by decide +kernel
theorem zd_Fo_readText_23 : decode zb_Fo_readText 23 = .ok (.istore_n 3, 1) := by decide +kernel
theorem zd_Fo_readText_24 : decode zb_Fo_readText 24 = .ok (.iload_n 3, 1) := by decide +kernel
theorem zd_Fo_readText_25 : decode zb_Fo_readText 25 = .ok (.iload_n 1, 1) := by decide +kernel
theorem zd_Fo_readText_26 : decode zb_Fo_readText 26 = .ok (.if_icmp .gt 55, 3) := by decide +kernel
theorem zd_Fo_readText_29 : decode zb_Fo_readText 29 = .ok (.iload_n 3, 1) := by decide +kernel
theorem zd_Fo_readText_30 : decode zb_Fo_readText 30 = .ok (.iload_n 1, 1) := by decide +kernel
theorem zd_Fo_readText_31 : decode zb_Fo_readText 31 = .ok (.if_icmp .eq 15, 3) := by decide +kernel
theorem zd_Fo_readText_34 : decode zb_Fo_readText 34 = .ok (.aload_n 0, 1) := by decide +kernel
theorem zd_Fo_readText_35 : decode zb_Fo_readText 35 = .ok (.getfield 11, 3) := by decide +kernel
theorem zd_Fo_readText_38 : decode zb_Fo_readText 38 = .ok (.iload_n 3, 1) := by decide +kernel
theorem zd_Fo_readText_39 : decode zb_Fo_readText 39 = .ok (.iaload, 1) := by decide +kernel
theorem zd_Fo_readText_40 : decode zb_Fo_readText 40 = .ok (.invokestatic 38, 3) := by decide +kernel
theorem zd_Fo_readText_43 : decode zb_Fo_readText 43 = .ok (.ifCond .eq 32, 3) := by decide +kernel
theorem zd_Fo_readText_46 : decode zb_Fo_readText 46 = .ok (.iload_n 2, 1) := by decide +kernel
theorem zd_Fo_readText_47 : decode zb_Fo_readText 47 = .ok (.iload_n 3, 1) := by decide +kernel
theorem zd_Fo_readText_48 : decode zb_Fo_readText 48 = .ok (.if_icmp .ge 23, 3) := by decide +kernel
theorem zd_Fo_readText_51 : decode zb_Fo_readText 51 = .ok (.aload_n 0, 1) := by decide +kernel
theorem zd_Fo_readText_52 : decode zb_Fo_readText 52 = .ok (.aload_n 0, 1) := by decide +kernel
theorem zd_Fo_readText_53 : decode zb_Fo_readText 53 = .ok (.iload_n 2, 1) := by decide +kernel
theorem zd_Fo_readText_54 : decode zb_Fo_readText 54 = .ok (.iload_n 3, 1) := by decide +kernel
theorem zd_Fo_readText_55 : decode zb_Fo_readText 55 = .ok (.invokevirtual 42, 3) := by decide +kernel
theorem zd_Fo_readText_58 : decode zb_Fo_readText 58 = .ok (.invokevirtual 46, 3) := by decide +kernel
theorem zd_Fo_readText_61 : decode zb_Fo_readText 61 = .ok (.ifCond .ne 10, 3) := by decide +kernel
theorem zd_Fo_readText_64 : decode zb_Fo_readText 64 = .ok (.iconst (-1), 1) := by decide +kernel
theorem zd_Fo_readText_65 : decode zb_Fo_readText 65 = .ok (.aload_n 0, 1) := by decide +kernel
theorem zd_Fo_readText_66 : decode zb_Fo_readText 66 = .ok (.getfield 29, 3) := by decide +kernel
theorem zd_Fo_readText_69 : decode zb_Fo_readText 69 = .ok (.isub, 1) := by decide +kernel
theorem zd_Fo_readText_70 : decode zb_Fo_readText 70 = .ok (.ireturn, 1) := by decide +kernel
theorem zd_Fo_readText_71 : decode zb_Fo_readText 71 = .ok (.iload_n 3, 1) := by decide +kernel
theorem zd_Fo_readText_72 : decode zb_Fo_readText 72 = .ok (.iconst 1, 1) := by decide +kernel
theorem zd_Fo_readText_73 : decode zb_Fo_readText 73 = .ok (.iadd, 1) := by decide +kernel
theorem zd_Fo_readText_74 : decode zb_Fo_readText 74 = .ok (.istore_n 2, 1) := by decide +kernel
theorem zd_Fo_readText_75 : decode zb_Fo_readText 75 = .ok (.iinc 3 1, 3) := by decide +kernel
theorem zd_Fo_readText_78 : decode zb_Fo_readText 78 = .ok (.goto (-54), 3) := by decide +kernel
theorem zd_Fo_readText_81 : decode zb_Fo_readText 81 = .ok (.aload_n 0, 1) := by decide +kernel
theorem zd_Fo_readText_82 : decode zb_Fo_readText 82 = .ok (.getfield 32, 3) := by decide +kernel
theorem zd_Fo_readText_85 : decode zb_Fo_readText 85 = .ok (.iconst 1, 1) := by decide +kernel
theorem zd_Fo_readText_86 : decode zb_Fo_readText 86 = .ok (.if_icmp .eq 10, 3) := by decide +kernel
theorem zd_Fo_readText_89 : decode zb_Fo_readText 89 = .ok (.iconst (-1), 1) := by decide +kernel
theorem zd_Fo_readText_90 : decode zb_Fo_readText 90 = .ok (.aload_n 0, 1) := by decide +kernel
theorem zd_Fo_readText_91 : decode zb_Fo_readText 91 = .ok (.getfield 29, 3) := by decide +kernel
theorem zd_Fo_readText_94 : decode zb_Fo_readText 94 = .ok (.isub, 1) := by decide +kernel
theorem zd_Fo_readText_95 : decode zb_Fo_readText 95 = .ok (.ireturn, 1) := by decide +kernel
theorem zd_Fo_readText_96 : decode zb_Fo_readText 96 = .ok (.aload_n 0, 1) := by decide +kernel
theorem zd_Fo_readText_97 : decode zb_Fo_readText 97 = .ok (.getfield 15, 3) := by decide +kernel
theorem zd_Fo_readText_100 : decode zb_Fo_readText 100 = .ok (.iconst 0, 1) := by decide +kernel
theorem zd_Fo_readText_101 : decode zb_Fo_readText 101 = .ok (.aload_n 0, 1) := by decide +kernel
theorem zd_Fo_readText_102 : decode zb_Fo_readText 102 = .ok (.getfield 18, 3) := by decide +kernel
theorem zd_Fo_readText_105 : decode zb_Fo_readText 105 = .ok (.iconst 0, 1) := by decide +kernel
theorem zd_Fo_readText_106 : decode zb_Fo_readText 106 = .ok (.aload_n 0, 1) := by decide +kernel
theorem zd_Fo_readText_107 : decode zb_Fo_readText 107 = .ok (.getfield 29, 3) := by decide +kernel
theorem zd_Fo_readText_110 : decode zb_Fo_readText 110 = .ok (.invokestatic 49, 3) := by decide +kernel
theorem zd_Fo_readText_113 : decode zb_Fo_readText 113 = .ok (.aload_n 0, 1) := by decide +kernel
theorem zd_Fo_readText_114 : decode zb_Fo_readText 114 = .ok (.aload_n 0, 1) := by decide +kernel
theorem zd_Fo_readText_115 : decode zb_Fo_readText 115 = .ok (.getfield 29, 3) := by decide +kernel
theorem zd_Fo_readText_118 : decode zb_Fo_readText 118 = .ok (.putfield 35, 3) := by decide +kernel
theorem zd_Fo_readText_121 : decode zb_Fo_readText 121 = .ok (.aload_n 0, 1) := by decide +kernel
theorem zd_Fo_readText_122 : decode zb_Fo_readText 122 = .ok (.getfield 35, 3) := by decide +kernel
theorem zd_Fo_readText_125 : decode zb_Fo_readText 125 = .ok (.ireturn, 1) := by decide +kernel
theorem zd_MP_score_0 : decode zb_MP_score 0 = .ok (.aload_n 0, 1) := by decide +kernel
theorem zd_MP_score_1 : decode zb_MP_score 1 = .ok (.getfield 34, 3) := by decide +kernel
theorem zd_MP_score_4 : decode zb_MP_score 4 = .ok (.invokevirtual 139, 3) := by decide +kernel
theorem zd_MP_score_7 : decode zb_MP_score 7 = .ok (.ireturn, 1) := by decide +kernel
theorem zd_Fo_isTold_0 : decode zb_Fo_isTold 0 = .ok (.aload_n 0, 1) := by decide +kernel
theorem zd_Fo_isTold_1 : decode zb_Fo_isTold 1 = .ok (.getfield 35, 3) := by decide +kernel
theorem zd_Fo_isTold_4 : decode zb_Fo_isTold 4 = .ok (.ifCond .le 7, 3) := by decide +kernel
theorem zd_Fo_isTold_7 : decode zb_Fo_isTold 7 = .ok (.iconst 1, 1) := by decide +kernel
theorem zd_Fo_isTold_8 : decode zb_Fo_isTold 8 = .ok (.goto 4, 3) := by decide +kernel
theorem zd_Fo_isTold_11 : decode zb_Fo_isTold 11 = .ok (.iconst 0, 1) := by decide +kernel
theorem zd_Fo_isTold_12 : decode zb_Fo_isTold 12 = .ok (.ireturn, 1) := by decide +kernel
theorem zd_Pa_ownCount_0 : decode zb_Pa_ownCount 0 = .ok (.iconst 0, 1) := by decide +kernel
theorem zd_Pa_ownCount_1 : decode zb_Pa_ownCount 1 = .ok (.istore_n 2, 1) := by decide +kernel
theorem zd_Pa_ownCount_2 : decode zb_Pa_ownCount 2 = .ok (.iconst 0, 1) := by decide +kernel
theorem zd_Pa_ownCount_3 : decode zb_Pa_ownCount 3 = .ok (.istore_n 3, 1) := by decide +kernel
theorem zd_Pa_ownCount_4 : decode zb_Pa_ownCount 4 = .ok (.iload_n 3, 1) := by decide +kernel
theorem zd_Pa_ownCount_5 : decode zb_Pa_ownCount 5 = .ok (.aload_n 0, 1) := by decide +kernel
theorem zd_Pa_ownCount_6 : decode zb_Pa_ownCount 6 = .ok (.getfield 35, 3) := by decide +kernel
theorem zd_Pa_ownCount_9 : decode zb_Pa_ownCount 9 = .ok (.if_icmp .ge 22, 3) := by decide +kernel
theorem zd_Pa_ownCount_12 : decode zb_Pa_ownCount 12 = .ok (.aload_n 0, 1) := by decide +kernel
theorem zd_Pa_ownCount_13 : decode zb_Pa_ownCount 13 = .ok (.getfield 9, 3) := by decide +kernel
theorem zd_Pa_ownCount_16 : decode zb_Pa_ownCount 16 = .ok (.iload_n 3, 1) := by decide +kernel
theorem zd_Pa_ownCount_17 : decode zb_Pa_ownCount 17 = .ok (.iaload, 1) := by decide +kernel
theorem zd_Pa_ownCount_18 : decode zb_Pa_ownCount 18 = .ok (.iload_n 1, 1) := by decide +kernel
theorem zd_Pa_ownCount_19 : decode zb_Pa_ownCount 19 = .ok (.if_icmp .ne 6, 3) := by decide +kernel
theorem zd_Pa_ownCount_22 : decode zb_Pa_ownCount 22 = .ok (.iinc 2 1, 3) := by decide +kernel
theorem zd_Pa_ownCount_25 : decode zb_Pa_ownCount 25 = .ok (.iinc 3 1, 3) := by decide +kernel
theorem zd_Pa_ownCount_28 : decode zb_Pa_ownCount 28 = .ok (.goto (-24), 3) := by decide +kernel
theorem zd_Pa_ownCount_31 : decode zb_Pa_ownCount 31 = .ok (.iload_n 2, 1) := by decide +kernel
theorem zd_Pa_ownCount_32 : decode zb_Pa_ownCount 32 = .ok (.ireturn, 1) := by decide +kernel
theorem zd_Fo_cutProduct_0 : decode zb_Fo_cutProduct 0 = .ok (.lload_n 0, 1) := by decide +kernel
theorem zd_Fo_cutProduct_1 : decode zb_Fo_cutProduct 1 = .ok (.lconst 0, 1) := by decide +kernel
theorem zd_Fo_cutProduct_2 : decode zb_Fo_cutProduct 2 = .ok (.lcmp, 1) := by decide +kernel
theorem zd_Fo_cutProduct_3 : decode zb_Fo_cutProduct 3 = .ok (.ifCond .ne 5, 3) := by decide +kernel
theorem zd_Fo_cutProduct_6 : decode zb_Fo_cutProduct 6 = .ok (.lconst 0, 1) := by decide +kernel
theorem zd_Fo_cutProduct_7 : decode zb_Fo_cutProduct 7 = .ok (.lreturn, 1) := by decide +kernel
theorem zd_Fo_cutProduct_8 : decode zb_Fo_cutProduct 8 = .ok (.lload_n 2, 1) := by decide +kernel
theorem zd_Fo_cutProduct_9 : decode zb_Fo_cutProduct 9 = .ok (.invokestatic 111, 3) := by decide +kernel
theorem zd_Fo_cutProduct_12 : decode zb_Fo_cutProduct 12 = .ok (.ldc2_w 109, 3) := by decide +kernel
theorem zd_Fo_cutProduct_15 : decode zb_Fo_cutProduct 15 = .ok (.lload_n 0, 1) := by decide +kernel
theorem zd_Fo_cutProduct_16 : decode zb_Fo_cutProduct 16 = .ok (.invokestatic 111, 3) := by decide +kernel
theorem zd_Fo_cutProduct_19 : decode zb_Fo_cutProduct 19 = .ok (.ldiv, 1) := by decide +kernel
theorem zd_Fo_cutProduct_20 : decode zb_Fo_cutProduct 20 = .ok (.lcmp, 1) := by decide +kernel
theorem zd_Fo_cutProduct_21 : decode zb_Fo_cutProduct 21 = .ok (.ifCond .gt 7, 3) := by decide +kernel
theorem zd_Fo_cutProduct_24 : decode zb_Fo_cutProduct 24 = .ok (.lload_n 0, 1) := by decide +kernel
theorem zd_Fo_cutProduct_25 : decode zb_Fo_cutProduct 25 = .ok (.lload_n 2, 1) := by decide +kernel
theorem zd_Fo_cutProduct_26 : decode zb_Fo_cutProduct 26 = .ok (.lmul, 1) := by decide +kernel
theorem zd_Fo_cutProduct_27 : decode zb_Fo_cutProduct 27 = .ok (.lreturn, 1) := by decide +kernel
theorem zd_Fo_cutProduct_28 : decode zb_Fo_cutProduct 28 = .ok (.lload_n 0, 1) := by decide +kernel
theorem zd_Fo_cutProduct_29 : decode zb_Fo_cutProduct 29 = .ok (.lconst 0, 1) := by decide +kernel
theorem zd_Fo_cutProduct_30 : decode zb_Fo_cutProduct 30 = .ok (.lcmp, 1) := by decide +kernel
theorem zd_Fo_cutProduct_31 : decode zb_Fo_cutProduct 31 = .ok (.ifCond .ge 7, 3) := by decide +kernel
theorem zd_Fo_cutProduct_34 : decode zb_Fo_cutProduct 34 = .ok (.iconst 1, 1) := by decide +kernel
theorem zd_Fo_cutProduct_35 : decode zb_Fo_cutProduct 35 = .ok (.goto 4, 3) := by decide +kernel
theorem zd_Fo_cutProduct_38 : decode zb_Fo_cutProduct 38 = .ok (.iconst 0, 1) := by decide +kernel
theorem zd_Fo_cutProduct_39 : decode zb_Fo_cutProduct 39 = .ok (.lload_n 2, 1) := by decide +kernel
theorem zd_Fo_cutProduct_40 : decode zb_Fo_cutProduct 40 = .ok (.lconst 0, 1) := by decide +kernel
theorem zd_Fo_cutProduct_41 : decode zb_Fo_cutProduct 41 = .ok (.lcmp, 1) := by decide +kernel
theorem zd_Fo_cutProduct_42 : decode zb_Fo_cutProduct 42 = .ok (.ifCond .ge 7, 3) := by decide +kernel
theorem zd_Fo_cutProduct_45 : decode zb_Fo_cutProduct 45 = .ok (.iconst 1, 1) := by decide +kernel
theorem zd_Fo_cutProduct_46 : decode zb_Fo_cutProduct 46 = .ok (.goto 4, 3) := by decide +kernel
theorem zd_Fo_cutProduct_49 : decode zb_Fo_cutProduct 49 = .ok (.iconst 0, 1) := by decide +kernel
theorem zd_Fo_cutProduct_50 : decode zb_Fo_cutProduct 50 = .ok (.if_icmp .ne 9, 3) := by decide +kernel
theorem zd_Fo_cutProduct_53 : decode zb_Fo_cutProduct 53 = .ok (.ldc2_w 109, 3) := by decide +kernel
theorem zd_Fo_cutProduct_56 : decode zb_Fo_cutProduct 56 = .ok (.goto 6, 3) := by decide +kernel
theorem zd_Fo_cutProduct_59 : decode zb_Fo_cutProduct 59 = .ok (.ldc2_w 107, 3) := by decide +kernel
theorem zd_Fo_cutProduct_62 : decode zb_Fo_cutProduct 62 = .ok (.lreturn, 1) := by decide +kernel
theorem zd_Fo_cut_0 : decode zb_Fo_cut 0 = .ok (.ldc2_w 107, 3) := by decide +kernel
theorem zd_Fo_cut_3 : decode zb_Fo_cut 3 = .ok (.ldc2_w 109, 3) := by decide +kernel
theorem zd_Fo_cut_6 : decode zb_Fo_cut 6 = .ok (.lload_n 0, 1) := by decide +kernel
theorem zd_Fo_cut_7 : decode zb_Fo_cut 7 = .ok (.invokestatic 99, 3) := by decide +kernel
theorem zd_Fo_cut_10 : decode zb_Fo_cut 10 = .ok (.invokestatic 104, 3) := by decide +kernel
theorem zd_Fo_cut_13 : decode zb_Fo_cut 13 = .ok (.lreturn, 1) := by decide +kernel
theorem zd_Fo_join_0 : decode zb_Fo_join 0 = .ok (.iload_n 0, 1) := by decide +kernel
theorem zd_Fo_join_1 : decode zb_Fo_join 1 = .ok (.tableswitch 57 (-10) (-7) #[51, 45, 38, 31], 31) := by decide +kernel
theorem zd_Fo_join_32 : decode zb_Fo_join 32 = .ok (.lload_n 1, 1) := by decide +kernel
theorem zd_Fo_join_33 : decode zb_Fo_join 33 = .ok (.lload_n 3, 1) := by decide +kernel
theorem zd_Fo_join_34 : decode zb_Fo_join 34 = .ok (.ladd, 1) := by decide +kernel
theorem zd_Fo_join_35 : decode zb_Fo_join 35 = .ok (.invokestatic 91, 3) := by decide +kernel
theorem zd_Fo_join_38 : decode zb_Fo_join 38 = .ok (.lreturn, 1) := by decide +kernel
theorem zd_Fo_join_39 : decode zb_Fo_join 39 = .ok (.lload_n 1, 1) := by decide +kernel
theorem zd_Fo_join_40 : decode zb_Fo_join 40 = .ok (.lload_n 3, 1) := by decide +kernel
theorem zd_Fo_join_41 : decode zb_Fo_join 41 = .ok (.lsub, 1) := by decide +kernel
theorem zd_Fo_join_42 : decode zb_Fo_join 42 = .ok (.invokestatic 91, 3) := by decide +kernel
theorem zd_Fo_join_45 : decode zb_Fo_join 45 = .ok (.lreturn, 1) := by decide +kernel
theorem zd_Fo_join_46 : decode zb_Fo_join 46 = .ok (.lload_n 1, 1) := by decide +kernel
theorem zd_Fo_join_47 : decode zb_Fo_join 47 = .ok (.lload_n 3, 1) := by decide +kernel
theorem zd_Fo_join_48 : decode zb_Fo_join 48 = .ok (.invokestatic 95, 3) := by decide +kernel
theorem zd_Fo_join_51 : decode zb_Fo_join 51 = .ok (.lreturn, 1) := by decide +kernel
theorem zd_Fo_join_52 : decode zb_Fo_join 52 = .ok (.lload_n 1, 1) := by decide +kernel
theorem zd_Fo_join_53 : decode zb_Fo_join 53 = .ok (.lload_n 3, 1) := by decide +kernel
theorem zd_Fo_join_54 : decode zb_Fo_join 54 = .ok (.invokestatic 99, 3) := by decide +kernel
theorem zd_Fo_join_57 : decode zb_Fo_join 57 = .ok (.lreturn, 1) := by decide +kernel
theorem zd_Fo_join_58 : decode zb_Fo_join 58 = .ok (.lload_n 1, 1) := by decide +kernel
theorem zd_Fo_join_59 : decode zb_Fo_join 59 = .ok (.lload_n 3, 1) := by decide +kernel
theorem zd_Fo_join_60 : decode zb_Fo_join 60 = .ok (.invokestatic 104, 3) := by decide +kernel
theorem zd_Fo_join_63 : decode zb_Fo_join 63 = .ok (.lreturn, 1) := by decide +kernel
theorem zd_Fo_share_0 : decode zb_Fo_share 0 = .ok (.lconst 0, 1) := by decide +kernel
theorem zd_Fo_share_1 : decode zb_Fo_share 1 = .ok (.lstore_n 2, 1) := by decide +kernel
theorem zd_Fo_share_2 : decode zb_Fo_share 2 = .ok (.iconst 0, 1) := by decide +kernel
theorem zd_Fo_share_3 : decode zb_Fo_share 3 = .ok (.istore 4, 2) := by decide +kernel
theorem zd_Fo_share_5 : decode zb_Fo_share 5 = .ok (.iload 4, 2) := by decide +kernel
theorem zd_Fo_share_7 : decode zb_Fo_share 7 = .ok (.iconst 5, 1) := by decide +kernel
theorem zd_Fo_share_8 : decode zb_Fo_share 8 = .ok (.if_icmp .ge 16, 3) := by decide +kernel
theorem zd_Fo_share_11 : decode zb_Fo_share 11 = .ok (.lload_n 2, 1) := by decide +kernel
theorem zd_Fo_share_12 : decode zb_Fo_share 12 = .ok (.aload_n 1, 1) := by decide +kernel
theorem zd_Fo_share_13 : decode zb_Fo_share 13 = .ok (.iload 4, 2) := by decide +kernel
theorem zd_Fo_share_15 : decode zb_Fo_share 15 = .ok (.laload, 1) := by decide +kernel
theorem zd_Fo_share_16 : decode zb_Fo_share 16 = .ok (.ladd, 1) := by decide +kernel
theorem zd_Fo_share_17 : decode zb_Fo_share 17 = .ok (.lstore_n 2, 1) := by decide +kernel
theorem zd_Fo_share_18 : decode zb_Fo_share 18 = .ok (.iinc 4 1, 3) := by decide +kernel
theorem zd_Fo_share_21 : decode zb_Fo_share 21 = .ok (.goto (-16), 3) := by decide +kernel
theorem zd_Fo_share_24 : decode zb_Fo_share 24 = .ok (.lload_n 2, 1) := by decide +kernel
theorem zd_Fo_share_25 : decode zb_Fo_share 25 = .ok (.lconst 0, 1) := by decide +kernel
theorem zd_Fo_share_26 : decode zb_Fo_share 26 = .ok (.lcmp, 1) := by decide +kernel
theorem zd_Fo_share_27 : decode zb_Fo_share 27 = .ok (.ifCond .le 22, 3) := by decide +kernel
theorem zd_Fo_share_30 : decode zb_Fo_share 30 = .ok (.iload_n 0, 1) := by decide +kernel
theorem zd_Fo_share_31 : decode zb_Fo_share 31 = .ok (.invokestatic 74, 3) := by decide +kernel
theorem zd_Fo_share_34 : decode zb_Fo_share 34 = .ok (.ifCond .eq 15, 3) := by decide +kernel
theorem zd_Fo_share_37 : decode zb_Fo_share 37 = .ok (.ldc2_w 89, 3) := by decide +kernel
theorem zd_Fo_share_40 : decode zb_Fo_share 40 = .ok (.aload_n 1, 1) := by decide +kernel
theorem zd_Fo_share_41 : decode zb_Fo_share 41 = .ok (.iload_n 0, 1) := by decide +kernel
theorem zd_Fo_share_42 : decode zb_Fo_share 42 = .ok (.laload, 1) := by decide +kernel
theorem zd_Fo_share_43 : decode zb_Fo_share 43 = .ok (.lmul, 1) := by decide +kernel
theorem zd_Fo_share_44 : decode zb_Fo_share 44 = .ok (.lload_n 2, 1) := by decide +kernel
theorem zd_Fo_share_45 : decode zb_Fo_share 45 = .ok (.ldiv, 1) := by decide +kernel
theorem zd_Fo_share_46 : decode zb_Fo_share 46 = .ok (.goto 4, 3) := by decide +kernel
theorem zd_Fo_share_49 : decode zb_Fo_share 49 = .ok (.lconst 0, 1) := by decide +kernel
theorem zd_Fo_share_50 : decode zb_Fo_share 50 = .ok (.lreturn, 1) := by decide +kernel
theorem zd_Fo_valueOf_0 : decode zb_Fo_valueOf 0 = .ok (.iload_n 0, 1) := by decide +kernel
theorem zd_Fo_valueOf_1 : decode zb_Fo_valueOf 1 = .ok (.ifCond .lt 6, 3) := by decide +kernel
theorem zd_Fo_valueOf_4 : decode zb_Fo_valueOf 4 = .ok (.iload_n 0, 1) := by decide +kernel
theorem zd_Fo_valueOf_5 : decode zb_Fo_valueOf 5 = .ok (.i2l, 1) := by decide +kernel
theorem zd_Fo_valueOf_6 : decode zb_Fo_valueOf 6 = .ok (.lreturn, 1) := by decide +kernel
theorem zd_Fo_valueOf_7 : decode zb_Fo_valueOf 7 = .ok (.iload_n 0, 1) := by decide +kernel
theorem zd_Fo_valueOf_8 : decode zb_Fo_valueOf 8 = .ok (.bipush (-6), 2) := by decide +kernel
theorem zd_Fo_valueOf_10 : decode zb_Fo_valueOf 10 = .ok (.if_icmp .ne 6, 3) := by decide +kernel
theorem zd_Fo_valueOf_13 : decode zb_Fo_valueOf 13 = .ok (.iload_n 2, 1) := by decide +kernel
theorem zd_Fo_valueOf_14 : decode zb_Fo_valueOf 14 = .ok (.i2l, 1) := by decide +kernel
theorem zd_Fo_valueOf_15 : decode zb_Fo_valueOf 15 = .ok (.lreturn, 1) := by decide +kernel
theorem zd_Fo_valueOf_16 : decode zb_Fo_valueOf 16 = .ok (.iconst (-1), 1) := by decide +kernel
theorem zd_Fo_valueOf_17 : decode zb_Fo_valueOf 17 = .ok (.iload_n 0, 1) := by decide +kernel
theorem zd_Fo_valueOf_18 : decode zb_Fo_valueOf 18 = .ok (.isub, 1) := by decide +kernel
theorem zd_Fo_valueOf_19 : decode zb_Fo_valueOf 19 = .ok (.aload_n 1, 1) := by decide +kernel
theorem zd_Fo_valueOf_20 : decode zb_Fo_valueOf 20 = .ok (.invokestatic 85, 3) := by decide +kernel
theorem zd_Fo_valueOf_23 : decode zb_Fo_valueOf 23 = .ok (.lreturn, 1) := by decide +kernel
theorem zd_Fo_value_0 : decode zb_Fo_value 0 = .ok (.iconst 0, 1) := by decide +kernel
theorem zd_Fo_value_1 : decode zb_Fo_value 1 = .ok (.istore_n 3, 1) := by decide +kernel
theorem zd_Fo_value_2 : decode zb_Fo_value 2 = .ok (.iconst 0, 1) := by decide +kernel
theorem zd_Fo_value_3 : decode zb_Fo_value 3 = .ok (.istore 4, 2) := by decide +kernel
theorem zd_Fo_value_5 : decode zb_Fo_value 5 = .ok (.iload 4, 2) := by decide +kernel
theorem zd_Fo_value_7 : decode zb_Fo_value 7 = .ok (.aload_n 0, 1) := by decide +kernel
theorem zd_Fo_value_8 : decode zb_Fo_value 8 = .ok (.getfield 35, 3) := by decide +kernel
theorem zd_Fo_value_11 : decode zb_Fo_value 11 = .ok (.if_icmp .ge 80, 3) := by decide +kernel
theorem zd_Fo_value_14 : decode zb_Fo_value 14 = .ok (.aload_n 0, 1) := by decide +kernel
theorem zd_Fo_value_15 : decode zb_Fo_value 15 = .ok (.getfield 18, 3) := by decide +kernel
theorem zd_Fo_value_18 : decode zb_Fo_value 18 = .ok (.iload 4, 2) := by decide +kernel
theorem zd_Fo_value_20 : decode zb_Fo_value 20 = .ok (.iaload, 1) := by decide +kernel
theorem zd_Fo_value_21 : decode zb_Fo_value 21 = .ok (.istore 5, 2) := by decide +kernel
theorem zd_Fo_value_23 : decode zb_Fo_value 23 = .ok (.iload 5, 2) := by decide +kernel
theorem zd_Fo_value_25 : decode zb_Fo_value 25 = .ok (.invokestatic 55, 3) := by decide +kernel
theorem zd_Fo_value_28 : decode zb_Fo_value 28 = .ok (.ifCond .ne 22, 3) := by decide +kernel
theorem zd_Fo_value_31 : decode zb_Fo_value 31 = .ok (.aload_n 0, 1) := by decide +kernel
theorem zd_Fo_value_32 : decode zb_Fo_value 32 = .ok (.getfield 21, 3) := by decide +kernel
theorem zd_Fo_value_35 : decode zb_Fo_value 35 = .ok (.iload_n 3, 1) := by decide +kernel
theorem zd_Fo_value_36 : decode zb_Fo_value 36 = .ok (.iload 5, 2) := by decide +kernel
theorem zd_Fo_value_38 : decode zb_Fo_value 38 = .ok (.aload_n 1, 1) := by decide +kernel
theorem zd_Fo_value_39 : decode zb_Fo_value 39 = .ok (.iload_n 2, 1) := by decide +kernel
theorem zd_Fo_value_40 : decode zb_Fo_value 40 = .ok (.invokestatic 77, 3) := by decide +kernel
theorem zd_Fo_value_43 : decode zb_Fo_value 43 = .ok (.lastore, 1) := by decide +kernel
theorem zd_Fo_value_44 : decode zb_Fo_value 44 = .ok (.iinc 3 1, 3) := by decide +kernel
theorem zd_Fo_value_47 : decode zb_Fo_value 47 = .ok (.goto 38, 3) := by decide +kernel
theorem zd_Fo_value_50 : decode zb_Fo_value 50 = .ok (.iload_n 3, 1) := by decide +kernel
theorem zd_Fo_value_51 : decode zb_Fo_value 51 = .ok (.iconst 2, 1) := by decide +kernel
theorem zd_Fo_value_52 : decode zb_Fo_value 52 = .ok (.if_icmp .lt 33, 3) := by decide +kernel
theorem zd_Fo_value_55 : decode zb_Fo_value 55 = .ok (.iinc 3 (-1), 3) := by decide +kernel
theorem zd_Fo_value_58 : decode zb_Fo_value 58 = .ok (.aload_n 0, 1) := by decide +kernel
theorem zd_Fo_value_59 : decode zb_Fo_value 59 = .ok (.getfield 21, 3) := by decide +kernel
theorem zd_Fo_value_62 : decode zb_Fo_value 62 = .ok (.iload_n 3, 1) := by decide +kernel
theorem zd_Fo_value_63 : decode zb_Fo_value 63 = .ok (.iconst 1, 1) := by decide +kernel
theorem zd_Fo_value_64 : decode zb_Fo_value 64 = .ok (.isub, 1) := by decide +kernel
theorem zd_Fo_value_65 : decode zb_Fo_value 65 = .ok (.iload 5, 2) := by decide +kernel
theorem zd_Fo_value_67 : decode zb_Fo_value 67 = .ok (.aload_n 0, 1) := by decide +kernel
theorem zd_Fo_value_68 : decode zb_Fo_value 68 = .ok (.getfield 21, 3) := by decide +kernel
theorem zd_Fo_value_71 : decode zb_Fo_value 71 = .ok (.iload_n 3, 1) := by decide +kernel
theorem zd_Fo_value_72 : decode zb_Fo_value 72 = .ok (.iconst 1, 1) := by decide +kernel
theorem zd_Fo_value_73 : decode zb_Fo_value 73 = .ok (.isub, 1) := by decide +kernel
theorem zd_Fo_value_74 : decode zb_Fo_value 74 = .ok (.laload, 1) := by decide +kernel
theorem zd_Fo_value_75 : decode zb_Fo_value 75 = .ok (.aload_n 0, 1) := by decide +kernel
theorem zd_Fo_value_76 : decode zb_Fo_value 76 = .ok (.getfield 21, 3) := by decide +kernel
theorem zd_Fo_value_79 : decode zb_Fo_value 79 = .ok (.iload_n 3, 1) := by decide +kernel
theorem zd_Fo_value_80 : decode zb_Fo_value 80 = .ok (.laload, 1) := by decide +kernel
theorem zd_Fo_value_81 : decode zb_Fo_value 81 = .ok (.invokestatic 81, 3) := by decide +kernel
theorem zd_Fo_value_84 : decode zb_Fo_value 84 = .ok (.lastore, 1) := by decide +kernel
theorem zd_Fo_value_85 : decode zb_Fo_value 85 = .ok (.iinc 4 1, 3) := by decide +kernel
theorem zd_Fo_value_88 : decode zb_Fo_value 88 = .ok (.goto (-83), 3) := by decide +kernel
theorem zd_Fo_value_91 : decode zb_Fo_value 91 = .ok (.aload_n 0, 1) := by decide +kernel
theorem zd_Fo_value_92 : decode zb_Fo_value 92 = .ok (.getfield 21, 3) := by decide +kernel
theorem zd_Fo_value_95 : decode zb_Fo_value 95 = .ok (.iconst 0, 1) := by decide +kernel
theorem zd_Fo_value_96 : decode zb_Fo_value 96 = .ok (.laload, 1) := by decide +kernel
theorem zd_Fo_value_97 : decode zb_Fo_value 97 = .ok (.lreturn, 1) := by decide +kernel
theorem zd_MP_valueFor_0 : decode zb_MP_valueFor 0 = .ok (.aload_n 0, 1) := by decide +kernel
theorem zd_MP_valueFor_1 : decode zb_MP_valueFor 1 = .ok (.getfield 27, 3) := by decide +kernel
theorem zd_MP_valueFor_4 : decode zb_MP_valueFor 4 = .ok (.aload_n 0, 1) := by decide +kernel
theorem zd_MP_valueFor_5 : decode zb_MP_valueFor 5 = .ok (.getfield 20, 3) := by decide +kernel
theorem zd_MP_valueFor_8 : decode zb_MP_valueFor 8 = .ok (.iload_n 1, 1) := by decide +kernel
theorem zd_MP_valueFor_9 : decode zb_MP_valueFor 9 = .ok (.ldc2_w 95, 3) := by decide +kernel
theorem zd_MP_valueFor_12 : decode zb_MP_valueFor 12 = .ok (.aload_n 0, 1) := by decide +kernel
theorem zd_MP_valueFor_13 : decode zb_MP_valueFor 13 = .ok (.getfield 38, 3) := by decide +kernel
theorem zd_MP_valueFor_16 : decode zb_MP_valueFor 16 = .ok (.invokevirtual 106, 3) := by decide +kernel
theorem zd_MP_valueFor_19 : decode zb_MP_valueFor 19 = .ok (.aload_n 0, 1) := by decide +kernel
theorem zd_MP_valueFor_20 : decode zb_MP_valueFor 20 = .ok (.getfield 34, 3) := by decide +kernel
theorem zd_MP_valueFor_23 : decode zb_MP_valueFor 23 = .ok (.aload_n 0, 1) := by decide +kernel
theorem zd_MP_valueFor_24 : decode zb_MP_valueFor 24 = .ok (.getfield 38, 3) := by decide +kernel
theorem zd_MP_valueFor_27 : decode zb_MP_valueFor 27 = .ok (.aload_n 0, 1) := by decide +kernel
theorem zd_MP_valueFor_28 : decode zb_MP_valueFor 28 = .ok (.getfield 20, 3) := by decide +kernel
theorem zd_MP_valueFor_31 : decode zb_MP_valueFor 31 = .ok (.iload_n 1, 1) := by decide +kernel
theorem zd_MP_valueFor_32 : decode zb_MP_valueFor 32 = .ok (.invokevirtual 167, 3) := by decide +kernel
theorem zd_MP_valueFor_35 : decode zb_MP_valueFor 35 = .ok (.invokevirtual 170, 3) := by decide +kernel
theorem zd_MP_valueFor_38 : decode zb_MP_valueFor 38 = .ok (.lreturn, 1) := by decide +kernel
theorem zd_MP_scored_0 : decode zb_MP_scored 0 = .ok (.aload_n 0, 1) := by decide +kernel
theorem zd_MP_scored_1 : decode zb_MP_scored 1 = .ok (.getfield 34, 3) := by decide +kernel
theorem zd_MP_scored_4 : decode zb_MP_scored 4 = .ok (.invokevirtual 143, 3) := by decide +kernel
theorem zd_MP_scored_7 : decode zb_MP_scored 7 = .ok (.ifCond .eq 11, 3) := by decide +kernel
theorem zd_MP_scored_10 : decode zb_MP_scored 10 = .ok (.aload_n 0, 1) := by decide +kernel
theorem zd_MP_scored_11 : decode zb_MP_scored 11 = .ok (.iload_n 1, 1) := by decide +kernel
theorem zd_MP_scored_12 : decode zb_MP_scored 12 = .ok (.invokevirtual 50, 3) := by decide +kernel
theorem zd_MP_scored_15 : decode zb_MP_scored 15 = .ok (.ifCond .ne 7, 3) := by decide +kernel
theorem zd_MP_scored_18 : decode zb_MP_scored 18 = .ok (.ldc2_w 148, 3) := by decide +kernel
theorem zd_MP_scored_21 : decode zb_MP_scored 21 = .ok (.lreturn, 1) := by decide +kernel
theorem zd_MP_scored_22 : decode zb_MP_scored 22 = .ok (.aload_n 0, 1) := by decide +kernel
theorem zd_MP_scored_23 : decode zb_MP_scored 23 = .ok (.iload_n 1, 1) := by decide +kernel
theorem zd_MP_scored_24 : decode zb_MP_scored 24 = .ok (.invokevirtual 150, 3) := by decide +kernel
theorem zd_MP_scored_27 : decode zb_MP_scored 27 = .ok (.lreturn, 1) := by decide +kernel
theorem zd_Ch_dropLast_0 : decode zb_Ch_dropLast 0 = .ok (.aload_n 0, 1) := by decide +kernel
theorem zd_Ch_dropLast_1 : decode zb_Ch_dropLast 1 = .ok (.getfield 25, 3) := by decide +kernel
theorem zd_Ch_dropLast_4 : decode zb_Ch_dropLast 4 = .ok (.ifCond .le 13, 3) := by decide +kernel
theorem zd_Ch_dropLast_7 : decode zb_Ch_dropLast 7 = .ok (.aload_n 0, 1) := by decide +kernel
theorem zd_Ch_dropLast_8 : decode zb_Ch_dropLast 8 = .ok (.dup, 1) := by decide +kernel
theorem zd_Ch_dropLast_9 : decode zb_Ch_dropLast 9 = .ok (.getfield 25, 3) := by decide +kernel
theorem zd_Ch_dropLast_12 : decode zb_Ch_dropLast 12 = .ok (.iconst 1, 1) := by decide +kernel
theorem zd_Ch_dropLast_13 : decode zb_Ch_dropLast 13 = .ok (.isub, 1) := by decide +kernel
theorem zd_Ch_dropLast_14 : decode zb_Ch_dropLast 14 = .ok (.putfield 25, 3) := by decide +kernel
theorem zd_Ch_dropLast_17 : decode zb_Ch_dropLast 17 = .ok (.return_, 1) := by decide +kernel
theorem zd_MP_swap_0 : decode zb_MP_swap 0 = .ok (.aload_n 0, 1) := by decide +kernel
theorem zd_MP_swap_1 : decode zb_MP_swap 1 = .ok (.getfield 34, 3) := by decide +kernel
theorem zd_MP_swap_4 : decode zb_MP_swap 4 = .ok (.invokevirtual 143, 3) := by decide +kernel
theorem zd_MP_swap_7 : decode zb_MP_swap 7 = .ok (.ifCond .eq 34, 3) := by decide +kernel
theorem zd_MP_swap_10 : decode zb_MP_swap 10 = .ok (.aload_n 0, 1) := by decide +kernel
theorem zd_MP_swap_11 : decode zb_MP_swap 11 = .ok (.getfield 20, 3) := by decide +kernel
theorem zd_MP_swap_14 : decode zb_MP_swap 14 = .ok (.getfield 81, 3) := by decide +kernel
theorem zd_MP_swap_17 : decode zb_MP_swap 17 = .ok (.invokevirtual 85, 3) := by decide +kernel
theorem zd_MP_swap_20 : decode zb_MP_swap 20 = .ok (.ifCond .ne 21, 3) := by decide +kernel
theorem zd_MP_swap_23 : decode zb_MP_swap 23 = .ok (.aload_n 0, 1) := by decide +kernel
theorem zd_MP_swap_24 : decode zb_MP_swap 24 = .ok (.getfield 20, 3) := by decide +kernel
theorem zd_MP_swap_27 : decode zb_MP_swap 27 = .ok (.iload_n 1, 1) := by decide +kernel
theorem zd_MP_swap_28 : decode zb_MP_swap 28 = .ok (.invokevirtual 65, 3) := by decide +kernel
theorem zd_MP_swap_31 : decode zb_MP_swap 31 = .ok (.ifCond .eq 10, 3) := by decide +kernel
theorem zd_MP_swap_34 : decode zb_MP_swap 34 = .ok (.iload_n 2, 1) := by decide +kernel
theorem zd_MP_swap_35 : decode zb_MP_swap 35 = .ok (.invokestatic 101, 3) := by decide +kernel
theorem zd_MP_swap_38 : decode zb_MP_swap 38 = .ok (.ifCond .ne 5, 3) := by decide +kernel
theorem zd_MP_swap_41 : decode zb_MP_swap 41 = .ok (.iconst (-1), 1) := by decide +kernel
theorem zd_MP_swap_42 : decode zb_MP_swap 42 = .ok (.ireturn, 1) := by decide +kernel
theorem zd_MP_swap_43 : decode zb_MP_swap 43 = .ok (.aload_n 0, 1) := by decide +kernel
theorem zd_MP_swap_44 : decode zb_MP_swap 44 = .ok (.getfield 20, 3) := by decide +kernel
theorem zd_MP_swap_47 : decode zb_MP_swap 47 = .ok (.getfield 71, 3) := by decide +kernel
theorem zd_MP_swap_50 : decode zb_MP_swap 50 = .ok (.iload_n 1, 1) := by decide +kernel
theorem zd_MP_swap_51 : decode zb_MP_swap 51 = .ok (.iaload, 1) := by decide +kernel
theorem zd_MP_swap_52 : decode zb_MP_swap 52 = .ok (.istore_n 3, 1) := by decide +kernel
theorem zd_MP_swap_53 : decode zb_MP_swap 53 = .ok (.aload_n 0, 1) := by decide +kernel
theorem zd_MP_swap_54 : decode zb_MP_swap 54 = .ok (.iload_n 3, 1) := by decide +kernel
theorem zd_MP_swap_55 : decode zb_MP_swap 55 = .ok (.invokevirtual 150, 3) := by decide +kernel
theorem zd_MP_swap_58 : decode zb_MP_swap 58 = .ok (.lstore 4, 2) := by decide +kernel
theorem zd_MP_swap_60 : decode zb_MP_swap 60 = .ok (.aload_n 0, 1) := by decide +kernel
theorem zd_MP_swap_61 : decode zb_MP_swap 61 = .ok (.getfield 20, 3) := by decide +kernel
theorem zd_MP_swap_64 : decode zb_MP_swap 64 = .ok (.getfield 81, 3) := by decide +kernel
theorem zd_MP_swap_67 : decode zb_MP_swap 67 = .ok (.iload_n 1, 1) := by decide +kernel
theorem zd_MP_swap_68 : decode zb_MP_swap 68 = .ok (.ldc2_w 95, 3) := by decide +kernel
theorem zd_MP_swap_71 : decode zb_MP_swap 71 = .ok (.iload_n 2, 1) := by decide +kernel
theorem zd_MP_swap_72 : decode zb_MP_swap 72 = .ok (.aload_n 0, 1) := by decide +kernel
theorem zd_MP_swap_73 : decode zb_MP_swap 73 = .ok (.getfield 20, 3) := by decide +kernel
theorem zd_MP_swap_76 : decode zb_MP_swap 76 = .ok (.iload_n 1, 1) := by decide +kernel
theorem zd_MP_swap_77 : decode zb_MP_swap 77 = .ok (.ldc2_w 95, 3) := by decide +kernel
theorem zd_MP_swap_80 : decode zb_MP_swap 80 = .ok (.invokevirtual 117, 3) := by decide +kernel
theorem zd_MP_swap_83 : decode zb_MP_swap 83 = .ok (.invokevirtual 92, 3) := by decide +kernel
theorem zd_MP_swap_86 : decode zb_MP_swap 86 = .ok (.aload_n 0, 1) := by decide +kernel
theorem zd_MP_swap_87 : decode zb_MP_swap 87 = .ok (.iload_n 3, 1) := by decide +kernel
theorem zd_MP_swap_88 : decode zb_MP_swap 88 = .ok (.invokevirtual 150, 3) := by decide +kernel
theorem zd_MP_swap_91 : decode zb_MP_swap 91 = .ok (.lload 4, 2) := by decide +kernel
theorem zd_MP_swap_93 : decode zb_MP_swap 93 = .ok (.lcmp, 1) := by decide +kernel
theorem zd_MP_swap_94 : decode zb_MP_swap 94 = .ok (.ifCond .gt 15, 3) := by decide +kernel
theorem zd_MP_swap_97 : decode zb_MP_swap 97 = .ok (.aload_n 0, 1) := by decide +kernel
theorem zd_MP_swap_98 : decode zb_MP_swap 98 = .ok (.getfield 20, 3) := by decide +kernel
theorem zd_MP_swap_101 : decode zb_MP_swap 101 = .ok (.getfield 81, 3) := by decide +kernel
theorem zd_MP_swap_104 : decode zb_MP_swap 104 = .ok (.invokevirtual 154, 3) := by decide +kernel
theorem zd_MP_swap_107 : decode zb_MP_swap 107 = .ok (.iconst 0, 1) := by decide +kernel
theorem zd_MP_swap_108 : decode zb_MP_swap 108 = .ok (.ireturn, 1) := by decide +kernel
theorem zd_MP_swap_109 : decode zb_MP_swap 109 = .ok (.aload_n 0, 1) := by decide +kernel
theorem zd_MP_swap_110 : decode zb_MP_swap 110 = .ok (.getfield 9, 3) := by decide +kernel
theorem zd_MP_swap_113 : decode zb_MP_swap 113 = .ok (.iload_n 3, 1) := by decide +kernel
theorem zd_MP_swap_114 : decode zb_MP_swap 114 = .ok (.dup2, 1) := by decide +kernel
theorem zd_MP_swap_115 : decode zb_MP_swap 115 = .ok (.iaload, 1) := by decide +kernel
theorem zd_MP_swap_116 : decode zb_MP_swap 116 = .ok (.iconst 1, 1) := by decide +kernel
theorem zd_MP_swap_117 : decode zb_MP_swap 117 = .ok (.iadd, 1) := by decide +kernel
theorem zd_MP_swap_118 : decode zb_MP_swap 118 = .ok (.iastore, 1) := by decide +kernel
theorem zd_MP_swap_119 : decode zb_MP_swap 119 = .ok (.iconst 1, 1) := by decide +kernel
theorem zd_MP_swap_120 : decode zb_MP_swap 120 = .ok (.ireturn, 1) := by decide +kernel
theorem zd_MP_mark_0 : decode zb_MP_mark 0 = .ok (.aload_n 0, 1) := by decide +kernel
theorem zd_MP_mark_1 : decode zb_MP_mark 1 = .ok (.iload_n 1, 1) := by decide +kernel
theorem zd_MP_mark_2 : decode zb_MP_mark 2 = .ok (.invokevirtual 50, 3) := by decide +kernel
theorem zd_MP_mark_5 : decode zb_MP_mark 5 = .ok (.ifCond .eq 15, 3) := by decide +kernel
theorem zd_MP_mark_8 : decode zb_MP_mark 8 = .ok (.iload 4, 2) := by decide +kernel
theorem zd_MP_mark_10 : decode zb_MP_mark 10 = .ok (.ifCond .lt 10, 3) := by decide +kernel
theorem zd_MP_mark_13 : decode zb_MP_mark 13 = .ok (.iload 4, 2) := by decide +kernel
theorem zd_MP_mark_15 : decode zb_MP_mark 15 = .ok (.bipush 8, 2) := by decide +kernel
theorem zd_MP_mark_17 : decode zb_MP_mark 17 = .ok (.if_icmp .lt 5, 3) := by decide +kernel
theorem zd_MP_mark_20 : decode zb_MP_mark 20 = .ok (.iconst (-1), 1) := by decide +kernel
theorem zd_MP_mark_21 : decode zb_MP_mark 21 = .ok (.ireturn, 1) := by decide +kernel
theorem zd_MP_mark_22 : decode zb_MP_mark 22 = .ok (.aload_n 0, 1) := by decide +kernel
theorem zd_MP_mark_23 : decode zb_MP_mark 23 = .ok (.getfield 27, 3) := by decide +kernel
theorem zd_MP_mark_26 : decode zb_MP_mark 26 = .ok (.aload_n 0, 1) := by decide +kernel
theorem zd_MP_mark_27 : decode zb_MP_mark 27 = .ok (.getfield 20, 3) := by decide +kernel
theorem zd_MP_mark_30 : decode zb_MP_mark 30 = .ok (.iload_n 1, 1) := by decide +kernel
theorem zd_MP_mark_31 : decode zb_MP_mark 31 = .ok (.ldc2_w 95, 3) := by decide +kernel
theorem zd_MP_mark_34 : decode zb_MP_mark 34 = .ok (.aload_n 0, 1) := by decide +kernel
theorem zd_MP_mark_35 : decode zb_MP_mark 35 = .ok (.getfield 38, 3) := by decide +kernel
theorem zd_MP_mark_38 : decode zb_MP_mark 38 = .ok (.invokevirtual 106, 3) := by decide +kernel
theorem zd_MP_mark_41 : decode zb_MP_mark 41 = .ok (.lload_n 2, 1) := by decide +kernel
theorem zd_MP_mark_42 : decode zb_MP_mark 42 = .ok (.lstore 5, 2) := by decide +kernel
theorem zd_MP_mark_44 : decode zb_MP_mark 44 = .ok (.iconst 0, 1) := by decide +kernel
theorem zd_MP_mark_45 : decode zb_MP_mark 45 = .ok (.istore 7, 2) := by decide +kernel
theorem zd_MP_mark_47 : decode zb_MP_mark 47 = .ok (.iload 7, 2) := by decide +kernel
theorem zd_MP_mark_49 : decode zb_MP_mark 49 = .ok (.iconst 5, 1) := by decide +kernel
theorem zd_MP_mark_50 : decode zb_MP_mark 50 = .ok (.if_icmp .ge 37, 3) := by decide +kernel
theorem zd_MP_mark_53 : decode zb_MP_mark 53 = .ok (.lload 5, 2) := by decide +kernel
theorem zd_MP_mark_55 : decode zb_MP_mark 55 = .ok (.aload_n 0, 1) := by decide +kernel
theorem zd_MP_mark_56 : decode zb_MP_mark 56 = .ok (.getfield 38, 3) := by decide +kernel
theorem zd_MP_mark_59 : decode zb_MP_mark 59 = .ok (.iload 7, 2) := by decide +kernel
theorem zd_MP_mark_61 : decode zb_MP_mark 61 = .ok (.laload, 1) := by decide +kernel
theorem zd_MP_mark_62 : decode zb_MP_mark 62 = .ok (.ladd, 1) := by decide +kernel
theorem zd_MP_mark_63 : decode zb_MP_mark 63 = .ok (.lconst 1, 1) := by decide +kernel
theorem zd_MP_mark_64 : decode zb_MP_mark 64 = .ok (.ladd, 1) := by decide +kernel
theorem zd_MP_mark_65 : decode zb_MP_mark 65 = .ok (.ldc2_w 157, 3) := by decide +kernel
theorem zd_MP_mark_68 : decode zb_MP_mark 68 = .ok (.lmul, 1) := by decide +kernel
theorem zd_MP_mark_69 : decode zb_MP_mark 69 = .ok (.lstore 5, 2) := by decide +kernel
theorem zd_MP_mark_71 : decode zb_MP_mark 71 = .ok (.lload 5, 2) := by decide +kernel
theorem zd_MP_mark_73 : decode zb_MP_mark 73 = .ok (.lload 5, 2) := by decide +kernel
theorem zd_MP_mark_75 : decode zb_MP_mark 75 = .ok (.bipush 32, 2) := by decide +kernel
theorem zd_MP_mark_77 : decode zb_MP_mark 77 = .ok (.lushr, 1) := by decide +kernel
theorem zd_MP_mark_78 : decode zb_MP_mark 78 = .ok (.lxor, 1) := by decide +kernel
theorem zd_MP_mark_79 : decode zb_MP_mark 79 = .ok (.lstore 5, 2) := by decide +kernel
theorem zd_MP_mark_81 : decode zb_MP_mark 81 = .ok (.iinc 7 1, 3) := by decide +kernel
theorem zd_MP_mark_84 : decode zb_MP_mark 84 = .ok (.goto (-37), 3) := by decide +kernel
theorem zd_MP_mark_87 : decode zb_MP_mark 87 = .ok (.lload 5, 2) := by decide +kernel
theorem zd_MP_mark_89 : decode zb_MP_mark 89 = .ok (.aload_n 0, 1) := by decide +kernel
theorem zd_MP_mark_90 : decode zb_MP_mark 90 = .ok (.getfield 9, 3) := by decide +kernel
theorem zd_MP_mark_93 : decode zb_MP_mark 93 = .ok (.iload_n 1, 1) := by decide +kernel
theorem zd_MP_mark_94 : decode zb_MP_mark 94 = .ok (.iaload, 1) := by decide +kernel
theorem zd_MP_mark_95 : decode zb_MP_mark 95 = .ok (.i2l, 1) := by decide +kernel
theorem zd_MP_mark_96 : decode zb_MP_mark 96 = .ok (.ladd, 1) := by decide +kernel
theorem zd_MP_mark_97 : decode zb_MP_mark 97 = .ok (.ldc2_w 157, 3) := by decide +kernel
theorem zd_MP_mark_100 : decode zb_MP_mark 100 = .ok (.lmul, 1) := by decide +kernel
theorem zd_MP_mark_101 : decode zb_MP_mark 101 = .ok (.lstore 5, 2) := by decide +kernel
theorem zd_MP_mark_103 : decode zb_MP_mark 103 = .ok (.lload 5, 2) := by decide +kernel
theorem zd_MP_mark_105 : decode zb_MP_mark 105 = .ok (.bipush 8, 2) := by decide +kernel
theorem zd_MP_mark_107 : decode zb_MP_mark 107 = .ok (.bipush 7, 2) := by decide +kernel
theorem zd_MP_mark_109 : decode zb_MP_mark 109 = .ok (.iload 4, 2) := by decide +kernel
theorem zd_MP_mark_111 : decode zb_MP_mark 111 = .ok (.isub, 1) := by decide +kernel
theorem zd_MP_mark_112 : decode zb_MP_mark 112 = .ok (.imul, 1) := by decide +kernel
theorem zd_MP_mark_113 : decode zb_MP_mark 113 = .ok (.lushr, 1) := by decide +kernel
theorem zd_MP_mark_114 : decode zb_MP_mark 114 = .ok (.l2i, 1) := by decide +kernel
theorem zd_MP_mark_115 : decode zb_MP_mark 115 = .ok (.sipush 255, 3) := by decide +kernel
theorem zd_MP_mark_118 : decode zb_MP_mark 118 = .ok (.iand, 1) := by decide +kernel
theorem zd_MP_mark_119 : decode zb_MP_mark 119 = .ok (.ireturn, 1) := by decide +kernel
theorem zd_Ne_sumOfAll_0 : decode zb_Ne_sumOfAll 0 = .ok (.aload_n 0, 1) := by decide +kernel
theorem zd_Ne_sumOfAll_1 : decode zb_Ne_sumOfAll 1 = .ok (.getfield 9, 3) := by decide +kernel
theorem zd_Ne_sumOfAll_4 : decode zb_Ne_sumOfAll 4 = .ok (.lconst 1, 1) := by decide +kernel
theorem zd_Ne_sumOfAll_5 : decode zb_Ne_sumOfAll 5 = .ok (.invokestatic 29, 3) := by decide +kernel
theorem zd_Ne_sumOfAll_8 : decode zb_Ne_sumOfAll 8 = .ok (.aload_n 0, 1) := by decide +kernel
theorem zd_Ne_sumOfAll_9 : decode zb_Ne_sumOfAll 9 = .ok (.aload_n 1, 1) := by decide +kernel
theorem zd_Ne_sumOfAll_10 : decode zb_Ne_sumOfAll 10 = .ok (.lload_n 2, 1) := by decide +kernel
theorem zd_Ne_sumOfAll_11 : decode zb_Ne_sumOfAll 11 = .ok (.aload 4, 2) := by decide +kernel
theorem zd_Ne_sumOfAll_13 : decode zb_Ne_sumOfAll 13 = .ok (.invokevirtual 25, 3) := by decide +kernel
theorem zd_Ne_sumOfAll_16 : decode zb_Ne_sumOfAll 16 = .ok (.return_, 1) := by decide +kernel
theorem zd_MP_kindsAhead_0 : decode zb_MP_kindsAhead 0 = .ok (.iconst 0, 1) := by decide +kernel
theorem zd_MP_kindsAhead_1 : decode zb_MP_kindsAhead 1 = .ok (.istore_n 2, 1) := by decide +kernel
theorem zd_MP_kindsAhead_2 : decode zb_MP_kindsAhead 2 = .ok (.iconst 0, 1) := by decide +kernel
theorem zd_MP_kindsAhead_3 : decode zb_MP_kindsAhead 3 = .ok (.istore_n 3, 1) := by decide +kernel
theorem zd_MP_kindsAhead_4 : decode zb_MP_kindsAhead 4 = .ok (.iload_n 3, 1) := by decide +kernel
theorem zd_MP_kindsAhead_5 : decode zb_MP_kindsAhead 5 = .ok (.iconst 5, 1) := by decide +kernel
theorem zd_MP_kindsAhead_6 : decode zb_MP_kindsAhead 6 = .ok (.if_icmp .ge 49, 3) := by decide +kernel
theorem zd_MP_kindsAhead_9 : decode zb_MP_kindsAhead 9 = .ok (.aload_n 0, 1) := by decide +kernel
theorem zd_MP_kindsAhead_10 : decode zb_MP_kindsAhead 10 = .ok (.getfield 38, 3) := by decide +kernel
theorem zd_MP_kindsAhead_13 : decode zb_MP_kindsAhead 13 = .ok (.iload_n 3, 1) := by decide +kernel
theorem zd_MP_kindsAhead_14 : decode zb_MP_kindsAhead 14 = .ok (.laload, 1) := by decide +kernel
theorem zd_MP_kindsAhead_15 : decode zb_MP_kindsAhead 15 = .ok (.aload_n 0, 1) := by decide +kernel
theorem zd_MP_kindsAhead_16 : decode zb_MP_kindsAhead 16 = .ok (.getfield 38, 3) := by decide +kernel
theorem zd_MP_kindsAhead_19 : decode zb_MP_kindsAhead 19 = .ok (.iload_n 1, 1) := by decide +kernel
theorem zd_MP_kindsAhead_20 : decode zb_MP_kindsAhead 20 = .ok (.laload, 1) := by decide +kernel
theorem zd_MP_kindsAhead_21 : decode zb_MP_kindsAhead 21 = .ok (.lcmp, 1) := by decide +kernel
theorem zd_MP_kindsAhead_22 : decode zb_MP_kindsAhead 22 = .ok (.ifCond .gt 24, 3) := by decide +kernel
theorem zd_MP_kindsAhead_25 : decode zb_MP_kindsAhead 25 = .ok (.aload_n 0, 1) := by decide +kernel
theorem zd_MP_kindsAhead_26 : decode zb_MP_kindsAhead 26 = .ok (.getfield 38, 3) := by decide +kernel
theorem zd_MP_kindsAhead_29 : decode zb_MP_kindsAhead 29 = .ok (.iload_n 3, 1) := by decide +kernel
theorem zd_MP_kindsAhead_30 : decode zb_MP_kindsAhead 30 = .ok (.laload, 1) := by decide +kernel
theorem zd_MP_kindsAhead_31 : decode zb_MP_kindsAhead 31 = .ok (.aload_n 0, 1) := by decide +kernel
theorem zd_MP_kindsAhead_32 : decode zb_MP_kindsAhead 32 = .ok (.getfield 38, 3) := by decide +kernel
theorem zd_MP_kindsAhead_35 : decode zb_MP_kindsAhead 35 = .ok (.iload_n 1, 1) := by decide +kernel
theorem zd_MP_kindsAhead_36 : decode zb_MP_kindsAhead 36 = .ok (.laload, 1) := by decide +kernel
theorem zd_MP_kindsAhead_37 : decode zb_MP_kindsAhead 37 = .ok (.lcmp, 1) := by decide +kernel
theorem zd_MP_kindsAhead_38 : decode zb_MP_kindsAhead 38 = .ok (.ifCond .ne 11, 3) := by decide +kernel
theorem zd_MP_kindsAhead_41 : decode zb_MP_kindsAhead 41 = .ok (.iload_n 3, 1) := by decide +kernel
theorem zd_MP_kindsAhead_42 : decode zb_MP_kindsAhead 42 = .ok (.iload_n 1, 1) := by decide +kernel
theorem zd_MP_kindsAhead_43 : decode zb_MP_kindsAhead 43 = .ok (.if_icmp .ge 6, 3) := by decide +kernel
theorem zd_MP_kindsAhead_46 : decode zb_MP_kindsAhead 46 = .ok (.iinc 2 1, 3) := by decide +kernel
theorem zd_MP_kindsAhead_49 : decode zb_MP_kindsAhead 49 = .ok (.iinc 3 1, 3) := by decide +kernel
theorem zd_MP_kindsAhead_52 : decode zb_MP_kindsAhead 52 = .ok (.goto (-48), 3) := by decide +kernel
theorem zd_MP_kindsAhead_55 : decode zb_MP_kindsAhead 55 = .ok (.iload_n 2, 1) := by decide +kernel
theorem zd_MP_kindsAhead_56 : decode zb_MP_kindsAhead 56 = .ok (.ireturn, 1) := by decide +kernel
theorem zd_MP_most_0 : decode zb_MP_most 0 = .ok (.aload_n 0, 1) := by decide +kernel
theorem zd_MP_most_1 : decode zb_MP_most 1 = .ok (.getfield 27, 3) := by decide +kernel
theorem zd_MP_most_4 : decode zb_MP_most 4 = .ok (.aload_n 0, 1) := by decide +kernel
theorem zd_MP_most_5 : decode zb_MP_most 5 = .ok (.getfield 20, 3) := by decide +kernel
theorem zd_MP_most_8 : decode zb_MP_most 8 = .ok (.ldc2_w 95, 3) := by decide +kernel
theorem zd_MP_most_11 : decode zb_MP_most 11 = .ok (.aload_n 0, 1) := by decide +kernel
theorem zd_MP_most_12 : decode zb_MP_most 12 = .ok (.getfield 38, 3) := by decide +kernel
theorem zd_MP_most_15 : decode zb_MP_most 15 = .ok (.invokevirtual 159, 3) := by decide +kernel
theorem zd_MP_most_18 : decode zb_MP_most 18 = .ok (.iconst 0, 1) := by decide +kernel
theorem zd_MP_most_19 : decode zb_MP_most 19 = .ok (.istore_n 2, 1) := by decide +kernel
theorem zd_MP_most_20 : decode zb_MP_most 20 = .ok (.iload_n 2, 1) := by decide +kernel
theorem zd_MP_most_21 : decode zb_MP_most 21 = .ok (.iconst 5, 1) := by decide +kernel
theorem zd_MP_most_22 : decode zb_MP_most 22 = .ok (.if_icmp .ge 31, 3) := by decide +kernel
theorem zd_MP_most_25 : decode zb_MP_most 25 = .ok (.aload_n 0, 1) := by decide +kernel
theorem zd_MP_most_26 : decode zb_MP_most 26 = .ok (.getfield 38, 3) := by decide +kernel
theorem zd_MP_most_29 : decode zb_MP_most 29 = .ok (.iload_n 2, 1) := by decide +kernel
theorem zd_MP_most_30 : decode zb_MP_most 30 = .ok (.laload, 1) := by decide +kernel
theorem zd_MP_most_31 : decode zb_MP_most 31 = .ok (.lconst 0, 1) := by decide +kernel
theorem zd_MP_most_32 : decode zb_MP_most 32 = .ok (.lcmp, 1) := by decide +kernel
theorem zd_MP_most_33 : decode zb_MP_most 33 = .ok (.ifCond .le 14, 3) := by decide +kernel
theorem zd_MP_most_36 : decode zb_MP_most 36 = .ok (.aload_n 0, 1) := by decide +kernel
theorem zd_MP_most_37 : decode zb_MP_most 37 = .ok (.iload_n 2, 1) := by decide +kernel
theorem zd_MP_most_38 : decode zb_MP_most 38 = .ok (.invokevirtual 163, 3) := by decide +kernel
theorem zd_MP_most_41 : decode zb_MP_most 41 = .ok (.iload_n 1, 1) := by decide +kernel
theorem zd_MP_most_42 : decode zb_MP_most 42 = .ok (.if_icmp .ne 5, 3) := by decide +kernel
theorem zd_MP_most_45 : decode zb_MP_most 45 = .ok (.iload_n 2, 1) := by decide +kernel
theorem zd_MP_most_46 : decode zb_MP_most 46 = .ok (.ireturn, 1) := by decide +kernel
theorem zd_MP_most_47 : decode zb_MP_most 47 = .ok (.iinc 2 1, 3) := by decide +kernel
theorem zd_MP_most_50 : decode zb_MP_most 50 = .ok (.goto (-30), 3) := by decide +kernel
theorem zd_MP_most_53 : decode zb_MP_most 53 = .ok (.iconst (-1), 1) := by decide +kernel
theorem zd_MP_most_54 : decode zb_MP_most 54 = .ok (.ireturn, 1) := by decide +kernel
